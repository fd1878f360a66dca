set_option maxHeartbeats 4000000 in
set_option maxRecDepth 100000 in
theorem c_X9_sendFrom_d0 (l : Launch) (G : va_G) (cy : Nat → ClassId) (fu : Nat) (mq : Nat → Nat) (m_hosts : Int32) (m_lost : Nat → Int32) (m_late : Nat → Int32) (m_wait : Nat → Int32) (m_per : Nat → Int32) (m_blocks : Nat → Int32) (m_sends : Nat → Int32) (m_many : Int32) (m_made : Nat → Int32) (m_madeMany : Int32) (m_lacking : Int32) (m_thrown : Int32) (m_now : Nat → Int32) (m_ahead : Nat → Int32) (m_then : Nat → Int32) (m_time : Nat → Int32) (m_timeThen : Nat → Int32) (m_isThere : Nat → Int32) (m_comes : Nat → Int32) (x1 : Int32) (x2 : Int32) (x3 : Int32) (x4 : Int32) (rr : (Nat → Int32)) (h : f_X9_sendFrom_d0 fu m_comes x1 x2 x3 x4 = some rr) : zM l G cy yX9_sendFrom wsX9_sendFrom (zR 0 0) [.ref (mq 0), .int x1, .int x2, .int x3, .int x4] (wM cy mq m_hosts m_lost m_late m_wait m_per m_blocks m_sends m_many m_made m_madeMany m_lacking m_thrown m_now m_ahead m_then m_time m_timeThen m_isThere m_comes) (wM cy mq m_hosts m_lost m_late m_wait m_per m_blocks m_sends m_many m_made m_madeMany m_lacking m_thrown m_now m_ahead m_then m_time m_timeThen m_isThere rr) none := by
  refine zM.mk (cc := cX9_sendFrom) (nL := 6) (ret := none) (by decide) rfl (Nat.le_of_ble_eq_true rfl) ?_
  intro p e s m below meth c A ls X hr hH hl
  replace X : zX p s m [.ref (mq 0), .int x1, .int x2, .int x3, .int x4].toArray meth c RX9 cX9_sendFrom 6 wsX9_sendFrom G cy A := X
  have hx := X.1.1
  have hb := X.1.2.1
  replace hl : lv_has ls 6 [(0, .ref (mq 0)), (1, .int x1), (2, .int x2), (3, .int x3), (4, .int x4)] := hl
  dsimp only [f_X9_sendFrom_d0] at h
  refine lv_iload_n (pc := 0) hx hb dX9_sendFrom_0 rfl (lv_at hl 3 rfl) ?_
  refine lv_iload (pc := 1) hx hb dX9_sendFrom_1 (lv_at hl 4 rfl) ?_
  refine lv_icmp_ne (pc := 3) (tgt := 14) hx hb dX9_sendFrom_3 rfl (fun zc1 => ?_) (fun zc1 => ?_)
  · have h := zf zc1 h
    refine lv_aload_n (pc := 14) hx hb dX9_sendFrom_14 rfl (lv_at hl 0 rfl) ?_
    refine lv_iload_n (pc := 15) hx hb dX9_sendFrom_15 rfl (lv_at hl 1 rfl) ?_
    refine lv_iload_n (pc := 16) hx hb dX9_sendFrom_16 rfl (lv_at hl 2 rfl) ?_
    refine lv_iload_n (pc := 17) hx hb dX9_sendFrom_17 rfl (lv_at hl 3 rfl) ?_
    refine lv_iconst (v := 1) (pc := 18) hx hb dX9_sendFrom_18 zk_c1 ?_
    refine lv_iadd (pc := 19) hx hb dX9_sendFrom_19 ?_
    refine lv_iload (pc := 20) hx hb dX9_sendFrom_20 (lv_at hl 4 rfl) ?_
    cases h
  have h := zt zc1 h
  refine lv_aload_n (pc := 6) hx hb dX9_sendFrom_6 rfl (lv_at hl 0 rfl) ?_
  refine z_get (pc := 7) (v := .ref (mq 14)) X iX9_sendFrom_X9 hH 0 rfl rfl 18 rfl (List.mem_of_getElem? (i := 1) rfl) rfl dX9_sendFrom_7 ?_
  refine lv_iload_n (pc := 10) hx hb dX9_sendFrom_10 rfl (lv_at hl 2 rfl) ?_
  refine lv_iconst (v := 1) (pc := 11) hx hb dX9_sendFrom_11 zk_c1 ?_
  obtain ⟨hin, h⟩ := zg h
  refine z_zast (pc := 12) (ws' := wM cy mq m_hosts m_lost m_late m_wait m_per m_blocks m_sends m_many m_made m_madeMany m_lacking m_thrown m_now m_ahead m_then m_time m_timeThen m_isThere (upd m_comes (x2).toNatClampNeg (vp_nar .boolean 1))) X hH 14 rfl hin rfl dX9_sendFrom_12 (fun H locs hH => ?_)
  obtain rfl := Option.some.inj h
  exact z_vret X hr hH dX9_sendFrom_13
set_option maxHeartbeats 4000000 in
set_option maxRecDepth 100000 in
theorem w_X9_sendFrom_d1_l37 {p : Program} {l : Launch} {e : Env} {s : State} {m : MethodId} {args : Array Value} {below : List Frame} {meth : Method} {c : Code} {A : Nat → Prop} {Q : State → Prop} (G : va_G) (cy : Nat → ClassId) (fu : Nat) (mq : Nat → Nat) (m_hosts : Int32) (m_lost : Nat → Int32) (m_late : Nat → Int32) (m_wait : Nat → Int32) (m_per : Nat → Int32) (m_blocks : Nat → Int32) (m_sends : Nat → Int32) (m_many : Int32) (m_made : Nat → Int32) (m_madeMany : Int32) (m_lacking : Int32) (m_thrown : Int32) (m_now : Nat → Int32) (m_ahead : Nat → Int32) (m_then : Nat → Int32) (m_time : Nat → Int32) (m_timeThen : Nat → Int32) (m_isThere : Nat → Int32) (x1 : Int32) (x2 : Int32) (x3 : Int32) (x4 : Int32) (X : zX p s m args meth c RX9 cX9_sendFrom 6 wsX9_sendFrom G cy A) : ∀ (n : Nat) (x5 : Int32) (m_comes : Nat → Int32) (rr : (Nat → Int32)) (h : lp (f_X9_sendFrom_d1_l37 fu m_lost m_wait x1 x2 x3 x4) n (x5, m_comes) = some rr) (H : Heap) (locs : List Loc) (ls : Array Slot) (hH : zH G A s.heap (wM cy mq m_hosts m_lost m_late m_wait m_per m_blocks m_sends m_many m_made m_madeMany m_lacking m_thrown m_now m_ahead m_then m_time m_timeThen m_isThere m_comes) H locs) (hl : lv_has ls 6 [(0, .ref (mq 0)), (1, .int x1), (2, .int x2), (3, .int x3), (4, .int x4), (5, .int x5)]) (K0 : ∀ (H : Heap) (locs : List Loc) (ls : Array Slot), zH G A s.heap (wM cy mq m_hosts m_lost m_late m_wait m_per m_blocks m_sends m_many m_made m_madeMany m_lacking m_thrown m_now m_ahead m_then m_time m_timeThen m_isThere rr) H locs → lv_has ls 6 [] → W p l e (zR 1 25) s m args below meth c H locs 0 0 Q (F0 m 93 ls [])), W p l e (zR 1 25) s m args below meth c H locs 0 0 Q (F0 m 37 ls []) := by
  have hx := X.1.1
  have hb := X.1.2.1
  intro n
  induction n with
  | zero => intro x5 m_comes rr h H locs ls hH hl K0; cases h
  | succ n ih =>
    intro x5 m_comes rr h H locs ls hH hl K0
    replace h : f_X9_sendFrom_d1_l37 fu m_lost m_wait x1 x2 x3 x4 (lp (f_X9_sendFrom_d1_l37 fu m_lost m_wait x1 x2 x3 x4) n) (x5, m_comes) = some rr := h
    dsimp only [f_X9_sendFrom_d1_l37] at h
    refine lv_iload (pc := 37) hx hb dX9_sendFrom_37 (lv_at hl 5 rfl) ?_
    refine lv_iload (pc := 39) hx hb dX9_sendFrom_39 (lv_at hl 4 rfl) ?_
    refine lv_icmp_ge (pc := 41) (tgt := 93) hx hb dX9_sendFrom_41 rfl (fun zc1 => ?_) (fun zc1 => ?_)
    · have h := zt zc1 h
      obtain rfl := Option.some.inj h
      exact K0 _ _ _ hH (lv_sub hl [] rfl)
    have h := zf zc1 h
    refine lv_iload_n (pc := 44) hx hb dX9_sendFrom_44 rfl (lv_at hl 2 rfl) ?_
    refine lv_iload (pc := 45) hx hb dX9_sendFrom_45 (lv_at hl 5 rfl) ?_
    refine lv_ishr (pc := 47) hx hb dX9_sendFrom_47 ?_
    refine lv_iconst (v := 1) (pc := 48) hx hb dX9_sendFrom_48 zk_c1 ?_
    refine lv_iand (pc := 49) hx hb dX9_sendFrom_49 ?_
    refine lv_if_ne (pc := 50) (tgt := 87) hx hb dX9_sendFrom_50 rfl (fun zc2 => ?_) (fun zc2 => ?_)
    · have h := zf zc2 h
      refine lv_iinc (pc := 87) (v := (x5 + 1)) (lv' := [(5, .int (x5 + 1)), (0, .ref (mq 0)), (1, .int x1), (2, .int x2), (3, .int x3), (4, .int x4)]) hx hb dX9_sendFrom_87 hl (k := 5) rfl (by rw [zk_c1]) (by decide) rfl (fun ls hl => ?_)
      refine lv_goto (pc := 90) (tgt := 37) hx hb dX9_sendFrom_90 rfl ?_
      exact ih (x5 + 1) m_comes rr h _ _ _ hH (lv_sub hl [1, 2, 3, 4, 5, 0] rfl) K0
    have h := zt zc2 h
    refine lv_aload_n (pc := 53) hx hb dX9_sendFrom_53 rfl (lv_at hl 0 rfl) ?_
    refine lv_aload_n (pc := 54) hx hb dX9_sendFrom_54 rfl (lv_at hl 0 rfl) ?_
    refine lv_iload_n (pc := 55) hx hb dX9_sendFrom_55 rfl (lv_at hl 3 rfl) ?_
    obtain ⟨zr3, hzr3, h⟩ := zb h
    refine zcV (pc := 56) (As := [.int x3]) (rest := [.ref (mq 0)]) (st1 := [.int zr3, .ref (mq 0)]) (ws' := wM cy mq m_hosts m_lost m_late m_wait m_per m_blocks m_sends m_many m_made m_madeMany m_lacking m_thrown m_now m_ahead m_then m_time m_timeThen m_isThere m_comes) (wr := []) (n := 1) (q0 := 0) X (c_X9_hostOf l G cy fu mq m_hosts m_lost m_late m_wait m_per m_blocks m_sends m_many m_made m_madeMany m_lacking m_thrown m_now m_ahead m_then m_time m_timeThen m_isThere m_comes x3 zr3 hzr3) hH [0, 1, 2, 3, 4, 5, 6, 7, 8, 9, 10, 11, 12, 13, 14] [] [0, 1, 2, 3, 4, 5, 6, 7, 8, 9, 10, 11, 12, 13, 14] rfl rfl rfl rfl gX9_sendFrom_X9_hostOf rfl ⟨rfl, rfl⟩ kX9_hostOf ⟨Nat.le_of_ble_eq_true rfl, Nat.le_of_ble_eq_true rfl⟩ rfl rfl rfl rfl rfl hl.1 (Nat.le_of_ble_eq_true rfl) ⟨Nat.le_of_ble_eq_true rfl, Nat.le_of_ble_eq_true rfl⟩ dX9_sendFrom_56 (fun H locs hH => ?_)
    refine lv_aload_n (pc := 59) hx hb dX9_sendFrom_59 rfl (lv_at hl 0 rfl) ?_
    refine lv_iload (pc := 60) hx hb dX9_sendFrom_60 (lv_at hl 5 rfl) ?_
    obtain ⟨zr4, hzr4, h⟩ := zb h
    refine zcV (pc := 62) (As := [.int x5]) (rest := [.int zr3, .ref (mq 0)]) (st1 := [.int zr4, .int zr3, .ref (mq 0)]) (ws' := wM cy mq m_hosts m_lost m_late m_wait m_per m_blocks m_sends m_many m_made m_madeMany m_lacking m_thrown m_now m_ahead m_then m_time m_timeThen m_isThere m_comes) (wr := []) (n := 1) (q0 := 0) X (c_X9_hostOf l G cy fu mq m_hosts m_lost m_late m_wait m_per m_blocks m_sends m_many m_made m_madeMany m_lacking m_thrown m_now m_ahead m_then m_time m_timeThen m_isThere m_comes x5 zr4 hzr4) hH [0, 1, 2, 3, 4, 5, 6, 7, 8, 9, 10, 11, 12, 13, 14] [] [0, 1, 2, 3, 4, 5, 6, 7, 8, 9, 10, 11, 12, 13, 14] rfl rfl rfl rfl gX9_sendFrom_X9_hostOf rfl ⟨rfl, rfl⟩ kX9_hostOf ⟨Nat.le_of_ble_eq_true rfl, Nat.le_of_ble_eq_true rfl⟩ rfl rfl rfl rfl rfl hl.1 (Nat.le_of_ble_eq_true rfl) ⟨Nat.le_of_ble_eq_true rfl, Nat.le_of_ble_eq_true rfl⟩ dX9_sendFrom_62 (fun H locs hH => ?_)
    obtain ⟨zr5, hzr5, h⟩ := zb h
    refine zcV (pc := 65) (As := [.int zr3, .int zr4]) (rest := []) (st1 := [.int zr5]) (ws' := wM cy mq m_hosts m_lost m_late m_wait m_per m_blocks m_sends m_many m_made m_madeMany m_lacking m_thrown m_now m_ahead m_then m_time m_timeThen m_isThere m_comes) (wr := []) (n := 2) (q0 := 0) X (c_X9_areJoined l G cy fu mq m_hosts m_lost m_late m_wait m_per m_blocks m_sends m_many m_made m_madeMany m_lacking m_thrown m_now m_ahead m_then m_time m_timeThen m_isThere m_comes zr3 zr4 zr5 hzr5) hH [0, 1, 2, 3, 4, 5, 6, 7, 8, 9, 10, 11, 12, 13, 14] [] [0, 1, 2, 3, 4, 5, 6, 7, 8, 9, 10, 11, 12, 13, 14] rfl rfl rfl rfl gX9_sendFrom_X9_areJoined rfl ⟨rfl, rfl⟩ kX9_areJoined ⟨Nat.le_of_ble_eq_true rfl, Nat.le_of_ble_eq_true rfl⟩ rfl rfl rfl rfl rfl hl.1 (Nat.le_of_ble_eq_true rfl) ⟨Nat.le_of_ble_eq_true rfl, Nat.le_of_ble_eq_true rfl⟩ dX9_sendFrom_65 (fun H locs hH => ?_)
    refine lv_if_eq (pc := 68) (tgt := 87) hx hb dX9_sendFrom_68 rfl (fun zc6 => ?_) (fun zc6 => ?_)
    · have h := zt zc6 h
      refine lv_iinc (pc := 87) (v := (x5 + 1)) (lv' := [(5, .int (x5 + 1)), (0, .ref (mq 0)), (1, .int x1), (2, .int x2), (3, .int x3), (4, .int x4)]) hx hb dX9_sendFrom_87 hl (k := 5) rfl (by rw [zk_c1]) (by decide) rfl (fun ls hl => ?_)
      refine lv_goto (pc := 90) (tgt := 37) hx hb dX9_sendFrom_90 rfl ?_
      exact ih (x5 + 1) m_comes rr h _ _ _ hH (lv_sub hl [1, 2, 3, 4, 5, 0] rfl) K0
    have h := zf zc6 h
    refine lv_aload_n (pc := 71) hx hb dX9_sendFrom_71 rfl (lv_at hl 0 rfl) ?_
    refine lv_iload_n (pc := 72) hx hb dX9_sendFrom_72 rfl (lv_at hl 1 rfl) ?_
    refine lv_iload_n (pc := 73) hx hb dX9_sendFrom_73 rfl (lv_at hl 2 rfl) ?_
    refine lv_iconst (v := 1) (pc := 74) hx hb dX9_sendFrom_74 zk_c1 ?_
    refine lv_iload (pc := 75) hx hb dX9_sendFrom_75 (lv_at hl 5 rfl) ?_
    refine lv_ishl (pc := 77) hx hb dX9_sendFrom_77 ?_
    refine lv_ior (pc := 78) hx hb dX9_sendFrom_78 ?_
    refine lv_iload_n (pc := 79) hx hb dX9_sendFrom_79 rfl (lv_at hl 3 rfl) ?_
    refine lv_iconst (v := 1) (pc := 80) hx hb dX9_sendFrom_80 zk_c1 ?_
    refine lv_iadd (pc := 81) hx hb dX9_sendFrom_81 ?_
    refine lv_iload (pc := 82) hx hb dX9_sendFrom_82 (lv_at hl 4 rfl) ?_
    obtain ⟨zr7, hzr7, h⟩ := zb h
    refine zcV (pc := 84) (As := [.int x1, .int (x2 ||| (1 <<< (x5 &&& 31))), .int (x3 + 1), .int x4]) (rest := []) (st1 := []) (ws' := wM cy mq m_hosts m_lost m_late m_wait m_per m_blocks m_sends m_many m_made m_madeMany m_lacking m_thrown m_now m_ahead m_then m_time m_timeThen m_isThere zr7) (wr := []) (n := 4) (q0 := 0) X (c_X9_sendFrom_d0 l G cy fu mq m_hosts m_lost m_late m_wait m_per m_blocks m_sends m_many m_made m_madeMany m_lacking m_thrown m_now m_ahead m_then m_time m_timeThen m_isThere m_comes x1 (x2 ||| (1 <<< (x5 &&& 31))) (x3 + 1) x4 zr7 hzr7) hH [0, 1, 2, 3, 4, 5, 6, 7, 8, 9, 10, 11, 12, 13, 14] [] [0, 1, 2, 3, 4, 5, 6, 7, 8, 9, 10, 11, 12, 13, 14] rfl rfl rfl rfl gX9_sendFrom_X9_sendFrom rfl ⟨rfl, rfl⟩ kX9_sendFrom ⟨Nat.le_of_ble_eq_true rfl, Nat.le_of_ble_eq_true rfl⟩ rfl rfl rfl rfl rfl hl.1 (Nat.le_of_ble_eq_true rfl) ⟨Nat.le_of_ble_eq_true rfl, Nat.le_of_ble_eq_true rfl⟩ dX9_sendFrom_84 (fun H locs hH => ?_)
    refine lv_iinc (pc := 87) (v := (x5 + 1)) (lv' := [(5, .int (x5 + 1)), (0, .ref (mq 0)), (1, .int x1), (2, .int x2), (3, .int x3), (4, .int x4)]) hx hb dX9_sendFrom_87 hl (k := 5) rfl (by rw [zk_c1]) (by decide) rfl (fun ls hl => ?_)
    refine lv_goto (pc := 90) (tgt := 37) hx hb dX9_sendFrom_90 rfl ?_
    exact ih (x5 + 1) zr7 rr h _ _ _ hH (lv_sub hl [1, 2, 3, 4, 5, 0] rfl) K0
set_option maxHeartbeats 4000000 in
set_option maxRecDepth 100000 in
theorem c_X9_sendFrom_d1 (l : Launch) (G : va_G) (cy : Nat → ClassId) (fu : Nat) (mq : Nat → Nat) (m_hosts : Int32) (m_lost : Nat → Int32) (m_late : Nat → Int32) (m_wait : Nat → Int32) (m_per : Nat → Int32) (m_blocks : Nat → Int32) (m_sends : Nat → Int32) (m_many : Int32) (m_made : Nat → Int32) (m_madeMany : Int32) (m_lacking : Int32) (m_thrown : Int32) (m_now : Nat → Int32) (m_ahead : Nat → Int32) (m_then : Nat → Int32) (m_time : Nat → Int32) (m_timeThen : Nat → Int32) (m_isThere : Nat → Int32) (m_comes : Nat → Int32) (x1 : Int32) (x2 : Int32) (x3 : Int32) (x4 : Int32) (rr : (Nat → Int32)) (h : f_X9_sendFrom_d1 fu m_lost m_wait m_comes x1 x2 x3 x4 = some rr) : zM l G cy yX9_sendFrom wsX9_sendFrom (zR 1 25) [.ref (mq 0), .int x1, .int x2, .int x3, .int x4] (wM cy mq m_hosts m_lost m_late m_wait m_per m_blocks m_sends m_many m_made m_madeMany m_lacking m_thrown m_now m_ahead m_then m_time m_timeThen m_isThere m_comes) (wM cy mq m_hosts m_lost m_late m_wait m_per m_blocks m_sends m_many m_made m_madeMany m_lacking m_thrown m_now m_ahead m_then m_time m_timeThen m_isThere rr) none := by
  refine zM.mk (cc := cX9_sendFrom) (nL := 6) (ret := none) (by decide) rfl (Nat.le_of_ble_eq_true rfl) ?_
  intro p e s m below meth c A ls X hr hH hl
  replace X : zX p s m [.ref (mq 0), .int x1, .int x2, .int x3, .int x4].toArray meth c RX9 cX9_sendFrom 6 wsX9_sendFrom G cy A := X
  have hx := X.1.1
  have hb := X.1.2.1
  replace hl : lv_has ls 6 [(0, .ref (mq 0)), (1, .int x1), (2, .int x2), (3, .int x3), (4, .int x4)] := hl
  dsimp only [f_X9_sendFrom_d1] at h
  refine lv_iload_n (pc := 0) hx hb dX9_sendFrom_0 rfl (lv_at hl 3 rfl) ?_
  refine lv_iload (pc := 1) hx hb dX9_sendFrom_1 (lv_at hl 4 rfl) ?_
  refine lv_icmp_ne (pc := 3) (tgt := 14) hx hb dX9_sendFrom_3 rfl (fun zc1 => ?_) (fun zc1 => ?_)
  · have h := zf zc1 h
    refine lv_aload_n (pc := 14) hx hb dX9_sendFrom_14 rfl (lv_at hl 0 rfl) ?_
    refine lv_iload_n (pc := 15) hx hb dX9_sendFrom_15 rfl (lv_at hl 1 rfl) ?_
    refine lv_iload_n (pc := 16) hx hb dX9_sendFrom_16 rfl (lv_at hl 2 rfl) ?_
    refine lv_iload_n (pc := 17) hx hb dX9_sendFrom_17 rfl (lv_at hl 3 rfl) ?_
    refine lv_iconst (v := 1) (pc := 18) hx hb dX9_sendFrom_18 zk_c1 ?_
    refine lv_iadd (pc := 19) hx hb dX9_sendFrom_19 ?_
    refine lv_iload (pc := 20) hx hb dX9_sendFrom_20 (lv_at hl 4 rfl) ?_
    obtain ⟨zr2, hzr2, h⟩ := zb h
    refine zcV (pc := 22) (As := [.int x1, .int x2, .int (x3 + 1), .int x4]) (rest := []) (st1 := []) (ws' := wM cy mq m_hosts m_lost m_late m_wait m_per m_blocks m_sends m_many m_made m_madeMany m_lacking m_thrown m_now m_ahead m_then m_time m_timeThen m_isThere zr2) (wr := []) (n := 4) (q0 := 0) X (c_X9_sendFrom_d0 l G cy fu mq m_hosts m_lost m_late m_wait m_per m_blocks m_sends m_many m_made m_madeMany m_lacking m_thrown m_now m_ahead m_then m_time m_timeThen m_isThere m_comes x1 x2 (x3 + 1) x4 zr2 hzr2) hH [0, 1, 2, 3, 4, 5, 6, 7, 8, 9, 10, 11, 12, 13, 14] [] [0, 1, 2, 3, 4, 5, 6, 7, 8, 9, 10, 11, 12, 13, 14] rfl rfl rfl rfl gX9_sendFrom_X9_sendFrom rfl ⟨rfl, rfl⟩ kX9_sendFrom ⟨Nat.le_of_ble_eq_true rfl, Nat.le_of_ble_eq_true rfl⟩ rfl rfl rfl rfl rfl hl.1 (Nat.le_of_ble_eq_true rfl) ⟨Nat.le_of_ble_eq_true rfl, Nat.le_of_ble_eq_true rfl⟩ dX9_sendFrom_22 (fun H locs hH => ?_)
    refine lv_iload_n (pc := 25) hx hb dX9_sendFrom_25 rfl (lv_at hl 1 rfl) ?_
    refine lv_iload_n (pc := 26) hx hb dX9_sendFrom_26 rfl (lv_at hl 3 rfl) ?_
    refine lv_ishr (pc := 27) hx hb dX9_sendFrom_27 ?_
    refine lv_iconst (v := 1) (pc := 28) hx hb dX9_sendFrom_28 zk_c1 ?_
    refine lv_iand (pc := 29) hx hb dX9_sendFrom_29 ?_
    refine lv_if_ne (pc := 30) (tgt := 34) hx hb dX9_sendFrom_30 rfl (fun zc3 => ?_) (fun zc3 => ?_)
    · have h := zf zc3 h
      refine lv_iconst (v := 0) (pc := 34) hx hb dX9_sendFrom_34 zk_c0 ?_
      refine lv_istore (pc := 35) (lv' := [(5, .int 0), (0, .ref (mq 0)), (1, .int x1), (2, .int x2), (3, .int x3), (4, .int x4)]) hx hb dX9_sendFrom_35 hl (by decide) rfl (fun ls hl => ?_)
      obtain ⟨zr4, hzr4, h⟩ := zb h
      refine w_X9_sendFrom_d1_l37 G cy fu mq m_hosts m_lost m_late m_wait m_per m_blocks m_sends m_many m_made m_madeMany m_lacking m_thrown m_now m_ahead m_then m_time m_timeThen m_isThere x1 x2 x3 x4 X fu 0 zr2 zr4 hzr4 _ _ _ hH (lv_sub hl [1, 2, 3, 4, 5, 0] rfl) (fun H locs ls hH hl => ?_)
      obtain rfl := Option.some.inj h
      exact z_vret X hr hH dX9_sendFrom_93
    have h := zt zc3 h
    obtain rfl := Option.some.inj h
    exact z_vret X hr hH dX9_sendFrom_33
  have h := zt zc1 h
  refine lv_aload_n (pc := 6) hx hb dX9_sendFrom_6 rfl (lv_at hl 0 rfl) ?_
  refine z_get (pc := 7) (v := .ref (mq 14)) X iX9_sendFrom_X9 hH 0 rfl rfl 18 rfl (List.mem_of_getElem? (i := 1) rfl) rfl dX9_sendFrom_7 ?_
  refine lv_iload_n (pc := 10) hx hb dX9_sendFrom_10 rfl (lv_at hl 2 rfl) ?_
  refine lv_iconst (v := 1) (pc := 11) hx hb dX9_sendFrom_11 zk_c1 ?_
  obtain ⟨hin, h⟩ := zg h
  refine z_zast (pc := 12) (ws' := wM cy mq m_hosts m_lost m_late m_wait m_per m_blocks m_sends m_many m_made m_madeMany m_lacking m_thrown m_now m_ahead m_then m_time m_timeThen m_isThere (upd m_comes (x2).toNatClampNeg (vp_nar .boolean 1))) X hH 14 rfl hin rfl dX9_sendFrom_12 (fun H locs hH => ?_)
  obtain rfl := Option.some.inj h
  exact z_vret X hr hH dX9_sendFrom_13
set_option maxHeartbeats 4000000 in
set_option maxRecDepth 100000 in
theorem w_X9_sendFrom_d2_l37 {p : Program} {l : Launch} {e : Env} {s : State} {m : MethodId} {args : Array Value} {below : List Frame} {meth : Method} {c : Code} {A : Nat → Prop} {Q : State → Prop} (G : va_G) (cy : Nat → ClassId) (fu : Nat) (mq : Nat → Nat) (m_hosts : Int32) (m_lost : Nat → Int32) (m_late : Nat → Int32) (m_wait : Nat → Int32) (m_per : Nat → Int32) (m_blocks : Nat → Int32) (m_sends : Nat → Int32) (m_many : Int32) (m_made : Nat → Int32) (m_madeMany : Int32) (m_lacking : Int32) (m_thrown : Int32) (m_now : Nat → Int32) (m_ahead : Nat → Int32) (m_then : Nat → Int32) (m_time : Nat → Int32) (m_timeThen : Nat → Int32) (m_isThere : Nat → Int32) (x1 : Int32) (x2 : Int32) (x3 : Int32) (x4 : Int32) (X : zX p s m args meth c RX9 cX9_sendFrom 6 wsX9_sendFrom G cy A) : ∀ (n : Nat) (x5 : Int32) (m_comes : Nat → Int32) (rr : (Nat → Int32)) (h : lp (f_X9_sendFrom_d2_l37 fu m_lost m_wait x1 x2 x3 x4) n (x5, m_comes) = some rr) (H : Heap) (locs : List Loc) (ls : Array Slot) (hH : zH G A s.heap (wM cy mq m_hosts m_lost m_late m_wait m_per m_blocks m_sends m_many m_made m_madeMany m_lacking m_thrown m_now m_ahead m_then m_time m_timeThen m_isThere m_comes) H locs) (hl : lv_has ls 6 [(0, .ref (mq 0)), (1, .int x1), (2, .int x2), (3, .int x3), (4, .int x4), (5, .int x5)]) (K0 : ∀ (H : Heap) (locs : List Loc) (ls : Array Slot), zH G A s.heap (wM cy mq m_hosts m_lost m_late m_wait m_per m_blocks m_sends m_many m_made m_madeMany m_lacking m_thrown m_now m_ahead m_then m_time m_timeThen m_isThere rr) H locs → lv_has ls 6 [] → W p l e (zR 2 50) s m args below meth c H locs 0 0 Q (F0 m 93 ls [])), W p l e (zR 2 50) s m args below meth c H locs 0 0 Q (F0 m 37 ls []) := by
  have hx := X.1.1
  have hb := X.1.2.1
  intro n
  induction n with
  | zero => intro x5 m_comes rr h H locs ls hH hl K0; cases h
  | succ n ih =>
    intro x5 m_comes rr h H locs ls hH hl K0
    replace h : f_X9_sendFrom_d2_l37 fu m_lost m_wait x1 x2 x3 x4 (lp (f_X9_sendFrom_d2_l37 fu m_lost m_wait x1 x2 x3 x4) n) (x5, m_comes) = some rr := h
    dsimp only [f_X9_sendFrom_d2_l37] at h
    refine lv_iload (pc := 37) hx hb dX9_sendFrom_37 (lv_at hl 5 rfl) ?_
    refine lv_iload (pc := 39) hx hb dX9_sendFrom_39 (lv_at hl 4 rfl) ?_
    refine lv_icmp_ge (pc := 41) (tgt := 93) hx hb dX9_sendFrom_41 rfl (fun zc1 => ?_) (fun zc1 => ?_)
    · have h := zt zc1 h
      obtain rfl := Option.some.inj h
      exact K0 _ _ _ hH (lv_sub hl [] rfl)
    have h := zf zc1 h
    refine lv_iload_n (pc := 44) hx hb dX9_sendFrom_44 rfl (lv_at hl 2 rfl) ?_
    refine lv_iload (pc := 45) hx hb dX9_sendFrom_45 (lv_at hl 5 rfl) ?_
    refine lv_ishr (pc := 47) hx hb dX9_sendFrom_47 ?_
    refine lv_iconst (v := 1) (pc := 48) hx hb dX9_sendFrom_48 zk_c1 ?_
    refine lv_iand (pc := 49) hx hb dX9_sendFrom_49 ?_
    refine lv_if_ne (pc := 50) (tgt := 87) hx hb dX9_sendFrom_50 rfl (fun zc2 => ?_) (fun zc2 => ?_)
    · have h := zf zc2 h
      refine lv_iinc (pc := 87) (v := (x5 + 1)) (lv' := [(5, .int (x5 + 1)), (0, .ref (mq 0)), (1, .int x1), (2, .int x2), (3, .int x3), (4, .int x4)]) hx hb dX9_sendFrom_87 hl (k := 5) rfl (by rw [zk_c1]) (by decide) rfl (fun ls hl => ?_)
      refine lv_goto (pc := 90) (tgt := 37) hx hb dX9_sendFrom_90 rfl ?_
      exact ih (x5 + 1) m_comes rr h _ _ _ hH (lv_sub hl [1, 2, 3, 4, 5, 0] rfl) K0
    have h := zt zc2 h
    refine lv_aload_n (pc := 53) hx hb dX9_sendFrom_53 rfl (lv_at hl 0 rfl) ?_
    refine lv_aload_n (pc := 54) hx hb dX9_sendFrom_54 rfl (lv_at hl 0 rfl) ?_
    refine lv_iload_n (pc := 55) hx hb dX9_sendFrom_55 rfl (lv_at hl 3 rfl) ?_
    obtain ⟨zr3, hzr3, h⟩ := zb h
    refine zcV (pc := 56) (As := [.int x3]) (rest := [.ref (mq 0)]) (st1 := [.int zr3, .ref (mq 0)]) (ws' := wM cy mq m_hosts m_lost m_late m_wait m_per m_blocks m_sends m_many m_made m_madeMany m_lacking m_thrown m_now m_ahead m_then m_time m_timeThen m_isThere m_comes) (wr := []) (n := 1) (q0 := 0) X (c_X9_hostOf l G cy fu mq m_hosts m_lost m_late m_wait m_per m_blocks m_sends m_many m_made m_madeMany m_lacking m_thrown m_now m_ahead m_then m_time m_timeThen m_isThere m_comes x3 zr3 hzr3) hH [0, 1, 2, 3, 4, 5, 6, 7, 8, 9, 10, 11, 12, 13, 14] [] [0, 1, 2, 3, 4, 5, 6, 7, 8, 9, 10, 11, 12, 13, 14] rfl rfl rfl rfl gX9_sendFrom_X9_hostOf rfl ⟨rfl, rfl⟩ kX9_hostOf ⟨Nat.le_of_ble_eq_true rfl, Nat.le_of_ble_eq_true rfl⟩ rfl rfl rfl rfl rfl hl.1 (Nat.le_of_ble_eq_true rfl) ⟨Nat.le_of_ble_eq_true rfl, Nat.le_of_ble_eq_true rfl⟩ dX9_sendFrom_56 (fun H locs hH => ?_)
    refine lv_aload_n (pc := 59) hx hb dX9_sendFrom_59 rfl (lv_at hl 0 rfl) ?_
    refine lv_iload (pc := 60) hx hb dX9_sendFrom_60 (lv_at hl 5 rfl) ?_
    obtain ⟨zr4, hzr4, h⟩ := zb h
    refine zcV (pc := 62) (As := [.int x5]) (rest := [.int zr3, .ref (mq 0)]) (st1 := [.int zr4, .int zr3, .ref (mq 0)]) (ws' := wM cy mq m_hosts m_lost m_late m_wait m_per m_blocks m_sends m_many m_made m_madeMany m_lacking m_thrown m_now m_ahead m_then m_time m_timeThen m_isThere m_comes) (wr := []) (n := 1) (q0 := 0) X (c_X9_hostOf l G cy fu mq m_hosts m_lost m_late m_wait m_per m_blocks m_sends m_many m_made m_madeMany m_lacking m_thrown m_now m_ahead m_then m_time m_timeThen m_isThere m_comes x5 zr4 hzr4) hH [0, 1, 2, 3, 4, 5, 6, 7, 8, 9, 10, 11, 12, 13, 14] [] [0, 1, 2, 3, 4, 5, 6, 7, 8, 9, 10, 11, 12, 13, 14] rfl rfl rfl rfl gX9_sendFrom_X9_hostOf rfl ⟨rfl, rfl⟩ kX9_hostOf ⟨Nat.le_of_ble_eq_true rfl, Nat.le_of_ble_eq_true rfl⟩ rfl rfl rfl rfl rfl hl.1 (Nat.le_of_ble_eq_true rfl) ⟨Nat.le_of_ble_eq_true rfl, Nat.le_of_ble_eq_true rfl⟩ dX9_sendFrom_62 (fun H locs hH => ?_)
    obtain ⟨zr5, hzr5, h⟩ := zb h
    refine zcV (pc := 65) (As := [.int zr3, .int zr4]) (rest := []) (st1 := [.int zr5]) (ws' := wM cy mq m_hosts m_lost m_late m_wait m_per m_blocks m_sends m_many m_made m_madeMany m_lacking m_thrown m_now m_ahead m_then m_time m_timeThen m_isThere m_comes) (wr := []) (n := 2) (q0 := 0) X (c_X9_areJoined l G cy fu mq m_hosts m_lost m_late m_wait m_per m_blocks m_sends m_many m_made m_madeMany m_lacking m_thrown m_now m_ahead m_then m_time m_timeThen m_isThere m_comes zr3 zr4 zr5 hzr5) hH [0, 1, 2, 3, 4, 5, 6, 7, 8, 9, 10, 11, 12, 13, 14] [] [0, 1, 2, 3, 4, 5, 6, 7, 8, 9, 10, 11, 12, 13, 14] rfl rfl rfl rfl gX9_sendFrom_X9_areJoined rfl ⟨rfl, rfl⟩ kX9_areJoined ⟨Nat.le_of_ble_eq_true rfl, Nat.le_of_ble_eq_true rfl⟩ rfl rfl rfl rfl rfl hl.1 (Nat.le_of_ble_eq_true rfl) ⟨Nat.le_of_ble_eq_true rfl, Nat.le_of_ble_eq_true rfl⟩ dX9_sendFrom_65 (fun H locs hH => ?_)
    refine lv_if_eq (pc := 68) (tgt := 87) hx hb dX9_sendFrom_68 rfl (fun zc6 => ?_) (fun zc6 => ?_)
    · have h := zt zc6 h
      refine lv_iinc (pc := 87) (v := (x5 + 1)) (lv' := [(5, .int (x5 + 1)), (0, .ref (mq 0)), (1, .int x1), (2, .int x2), (3, .int x3), (4, .int x4)]) hx hb dX9_sendFrom_87 hl (k := 5) rfl (by rw [zk_c1]) (by decide) rfl (fun ls hl => ?_)
      refine lv_goto (pc := 90) (tgt := 37) hx hb dX9_sendFrom_90 rfl ?_
      exact ih (x5 + 1) m_comes rr h _ _ _ hH (lv_sub hl [1, 2, 3, 4, 5, 0] rfl) K0
    have h := zf zc6 h
    refine lv_aload_n (pc := 71) hx hb dX9_sendFrom_71 rfl (lv_at hl 0 rfl) ?_
    refine lv_iload_n (pc := 72) hx hb dX9_sendFrom_72 rfl (lv_at hl 1 rfl) ?_
    refine lv_iload_n (pc := 73) hx hb dX9_sendFrom_73 rfl (lv_at hl 2 rfl) ?_
    refine lv_iconst (v := 1) (pc := 74) hx hb dX9_sendFrom_74 zk_c1 ?_
    refine lv_iload (pc := 75) hx hb dX9_sendFrom_75 (lv_at hl 5 rfl) ?_
    refine lv_ishl (pc := 77) hx hb dX9_sendFrom_77 ?_
    refine lv_ior (pc := 78) hx hb dX9_sendFrom_78 ?_
    refine lv_iload_n (pc := 79) hx hb dX9_sendFrom_79 rfl (lv_at hl 3 rfl) ?_
    refine lv_iconst (v := 1) (pc := 80) hx hb dX9_sendFrom_80 zk_c1 ?_
    refine lv_iadd (pc := 81) hx hb dX9_sendFrom_81 ?_
    refine lv_iload (pc := 82) hx hb dX9_sendFrom_82 (lv_at hl 4 rfl) ?_
    obtain ⟨zr7, hzr7, h⟩ := zb h
    refine zcV (pc := 84) (As := [.int x1, .int (x2 ||| (1 <<< (x5 &&& 31))), .int (x3 + 1), .int x4]) (rest := []) (st1 := []) (ws' := wM cy mq m_hosts m_lost m_late m_wait m_per m_blocks m_sends m_many m_made m_madeMany m_lacking m_thrown m_now m_ahead m_then m_time m_timeThen m_isThere zr7) (wr := []) (n := 4) (q0 := 0) X (c_X9_sendFrom_d1 l G cy fu mq m_hosts m_lost m_late m_wait m_per m_blocks m_sends m_many m_made m_madeMany m_lacking m_thrown m_now m_ahead m_then m_time m_timeThen m_isThere m_comes x1 (x2 ||| (1 <<< (x5 &&& 31))) (x3 + 1) x4 zr7 hzr7) hH [0, 1, 2, 3, 4, 5, 6, 7, 8, 9, 10, 11, 12, 13, 14] [] [0, 1, 2, 3, 4, 5, 6, 7, 8, 9, 10, 11, 12, 13, 14] rfl rfl rfl rfl gX9_sendFrom_X9_sendFrom rfl ⟨rfl, rfl⟩ kX9_sendFrom ⟨Nat.le_of_ble_eq_true rfl, Nat.le_of_ble_eq_true rfl⟩ rfl rfl rfl rfl rfl hl.1 (Nat.le_of_ble_eq_true rfl) ⟨Nat.le_of_ble_eq_true rfl, Nat.le_of_ble_eq_true rfl⟩ dX9_sendFrom_84 (fun H locs hH => ?_)
    refine lv_iinc (pc := 87) (v := (x5 + 1)) (lv' := [(5, .int (x5 + 1)), (0, .ref (mq 0)), (1, .int x1), (2, .int x2), (3, .int x3), (4, .int x4)]) hx hb dX9_sendFrom_87 hl (k := 5) rfl (by rw [zk_c1]) (by decide) rfl (fun ls hl => ?_)
    refine lv_goto (pc := 90) (tgt := 37) hx hb dX9_sendFrom_90 rfl ?_
    exact ih (x5 + 1) zr7 rr h _ _ _ hH (lv_sub hl [1, 2, 3, 4, 5, 0] rfl) K0
set_option maxHeartbeats 4000000 in
set_option maxRecDepth 100000 in
theorem c_X9_sendFrom_d2 (l : Launch) (G : va_G) (cy : Nat → ClassId) (fu : Nat) (mq : Nat → Nat) (m_hosts : Int32) (m_lost : Nat → Int32) (m_late : Nat → Int32) (m_wait : Nat → Int32) (m_per : Nat → Int32) (m_blocks : Nat → Int32) (m_sends : Nat → Int32) (m_many : Int32) (m_made : Nat → Int32) (m_madeMany : Int32) (m_lacking : Int32) (m_thrown : Int32) (m_now : Nat → Int32) (m_ahead : Nat → Int32) (m_then : Nat → Int32) (m_time : Nat → Int32) (m_timeThen : Nat → Int32) (m_isThere : Nat → Int32) (m_comes : Nat → Int32) (x1 : Int32) (x2 : Int32) (x3 : Int32) (x4 : Int32) (rr : (Nat → Int32)) (h : f_X9_sendFrom_d2 fu m_lost m_wait m_comes x1 x2 x3 x4 = some rr) : zM l G cy yX9_sendFrom wsX9_sendFrom (zR 2 50) [.ref (mq 0), .int x1, .int x2, .int x3, .int x4] (wM cy mq m_hosts m_lost m_late m_wait m_per m_blocks m_sends m_many m_made m_madeMany m_lacking m_thrown m_now m_ahead m_then m_time m_timeThen m_isThere m_comes) (wM cy mq m_hosts m_lost m_late m_wait m_per m_blocks m_sends m_many m_made m_madeMany m_lacking m_thrown m_now m_ahead m_then m_time m_timeThen m_isThere rr) none := by
  refine zM.mk (cc := cX9_sendFrom) (nL := 6) (ret := none) (by decide) rfl (Nat.le_of_ble_eq_true rfl) ?_
  intro p e s m below meth c A ls X hr hH hl
  replace X : zX p s m [.ref (mq 0), .int x1, .int x2, .int x3, .int x4].toArray meth c RX9 cX9_sendFrom 6 wsX9_sendFrom G cy A := X
  have hx := X.1.1
  have hb := X.1.2.1
  replace hl : lv_has ls 6 [(0, .ref (mq 0)), (1, .int x1), (2, .int x2), (3, .int x3), (4, .int x4)] := hl
  dsimp only [f_X9_sendFrom_d2] at h
  refine lv_iload_n (pc := 0) hx hb dX9_sendFrom_0 rfl (lv_at hl 3 rfl) ?_
  refine lv_iload (pc := 1) hx hb dX9_sendFrom_1 (lv_at hl 4 rfl) ?_
  refine lv_icmp_ne (pc := 3) (tgt := 14) hx hb dX9_sendFrom_3 rfl (fun zc1 => ?_) (fun zc1 => ?_)
  · have h := zf zc1 h
    refine lv_aload_n (pc := 14) hx hb dX9_sendFrom_14 rfl (lv_at hl 0 rfl) ?_
    refine lv_iload_n (pc := 15) hx hb dX9_sendFrom_15 rfl (lv_at hl 1 rfl) ?_
    refine lv_iload_n (pc := 16) hx hb dX9_sendFrom_16 rfl (lv_at hl 2 rfl) ?_
    refine lv_iload_n (pc := 17) hx hb dX9_sendFrom_17 rfl (lv_at hl 3 rfl) ?_
    refine lv_iconst (v := 1) (pc := 18) hx hb dX9_sendFrom_18 zk_c1 ?_
    refine lv_iadd (pc := 19) hx hb dX9_sendFrom_19 ?_
    refine lv_iload (pc := 20) hx hb dX9_sendFrom_20 (lv_at hl 4 rfl) ?_
    obtain ⟨zr2, hzr2, h⟩ := zb h
    refine zcV (pc := 22) (As := [.int x1, .int x2, .int (x3 + 1), .int x4]) (rest := []) (st1 := []) (ws' := wM cy mq m_hosts m_lost m_late m_wait m_per m_blocks m_sends m_many m_made m_madeMany m_lacking m_thrown m_now m_ahead m_then m_time m_timeThen m_isThere zr2) (wr := []) (n := 4) (q0 := 0) X (c_X9_sendFrom_d1 l G cy fu mq m_hosts m_lost m_late m_wait m_per m_blocks m_sends m_many m_made m_madeMany m_lacking m_thrown m_now m_ahead m_then m_time m_timeThen m_isThere m_comes x1 x2 (x3 + 1) x4 zr2 hzr2) hH [0, 1, 2, 3, 4, 5, 6, 7, 8, 9, 10, 11, 12, 13, 14] [] [0, 1, 2, 3, 4, 5, 6, 7, 8, 9, 10, 11, 12, 13, 14] rfl rfl rfl rfl gX9_sendFrom_X9_sendFrom rfl ⟨rfl, rfl⟩ kX9_sendFrom ⟨Nat.le_of_ble_eq_true rfl, Nat.le_of_ble_eq_true rfl⟩ rfl rfl rfl rfl rfl hl.1 (Nat.le_of_ble_eq_true rfl) ⟨Nat.le_of_ble_eq_true rfl, Nat.le_of_ble_eq_true rfl⟩ dX9_sendFrom_22 (fun H locs hH => ?_)
    refine lv_iload_n (pc := 25) hx hb dX9_sendFrom_25 rfl (lv_at hl 1 rfl) ?_
    refine lv_iload_n (pc := 26) hx hb dX9_sendFrom_26 rfl (lv_at hl 3 rfl) ?_
    refine lv_ishr (pc := 27) hx hb dX9_sendFrom_27 ?_
    refine lv_iconst (v := 1) (pc := 28) hx hb dX9_sendFrom_28 zk_c1 ?_
    refine lv_iand (pc := 29) hx hb dX9_sendFrom_29 ?_
    refine lv_if_ne (pc := 30) (tgt := 34) hx hb dX9_sendFrom_30 rfl (fun zc3 => ?_) (fun zc3 => ?_)
    · have h := zf zc3 h
      refine lv_iconst (v := 0) (pc := 34) hx hb dX9_sendFrom_34 zk_c0 ?_
      refine lv_istore (pc := 35) (lv' := [(5, .int 0), (0, .ref (mq 0)), (1, .int x1), (2, .int x2), (3, .int x3), (4, .int x4)]) hx hb dX9_sendFrom_35 hl (by decide) rfl (fun ls hl => ?_)
      obtain ⟨zr4, hzr4, h⟩ := zb h
      refine w_X9_sendFrom_d2_l37 G cy fu mq m_hosts m_lost m_late m_wait m_per m_blocks m_sends m_many m_made m_madeMany m_lacking m_thrown m_now m_ahead m_then m_time m_timeThen m_isThere x1 x2 x3 x4 X fu 0 zr2 zr4 hzr4 _ _ _ hH (lv_sub hl [1, 2, 3, 4, 5, 0] rfl) (fun H locs ls hH hl => ?_)
      obtain rfl := Option.some.inj h
      exact z_vret X hr hH dX9_sendFrom_93
    have h := zt zc3 h
    obtain rfl := Option.some.inj h
    exact z_vret X hr hH dX9_sendFrom_33
  have h := zt zc1 h
  refine lv_aload_n (pc := 6) hx hb dX9_sendFrom_6 rfl (lv_at hl 0 rfl) ?_
  refine z_get (pc := 7) (v := .ref (mq 14)) X iX9_sendFrom_X9 hH 0 rfl rfl 18 rfl (List.mem_of_getElem? (i := 1) rfl) rfl dX9_sendFrom_7 ?_
  refine lv_iload_n (pc := 10) hx hb dX9_sendFrom_10 rfl (lv_at hl 2 rfl) ?_
  refine lv_iconst (v := 1) (pc := 11) hx hb dX9_sendFrom_11 zk_c1 ?_
  obtain ⟨hin, h⟩ := zg h
  refine z_zast (pc := 12) (ws' := wM cy mq m_hosts m_lost m_late m_wait m_per m_blocks m_sends m_many m_made m_madeMany m_lacking m_thrown m_now m_ahead m_then m_time m_timeThen m_isThere (upd m_comes (x2).toNatClampNeg (vp_nar .boolean 1))) X hH 14 rfl hin rfl dX9_sendFrom_12 (fun H locs hH => ?_)
  obtain rfl := Option.some.inj h
  exact z_vret X hr hH dX9_sendFrom_13
set_option maxHeartbeats 4000000 in
set_option maxRecDepth 100000 in
theorem w_X9_sendFrom_d3_l37 {p : Program} {l : Launch} {e : Env} {s : State} {m : MethodId} {args : Array Value} {below : List Frame} {meth : Method} {c : Code} {A : Nat → Prop} {Q : State → Prop} (G : va_G) (cy : Nat → ClassId) (fu : Nat) (mq : Nat → Nat) (m_hosts : Int32) (m_lost : Nat → Int32) (m_late : Nat → Int32) (m_wait : Nat → Int32) (m_per : Nat → Int32) (m_blocks : Nat → Int32) (m_sends : Nat → Int32) (m_many : Int32) (m_made : Nat → Int32) (m_madeMany : Int32) (m_lacking : Int32) (m_thrown : Int32) (m_now : Nat → Int32) (m_ahead : Nat → Int32) (m_then : Nat → Int32) (m_time : Nat → Int32) (m_timeThen : Nat → Int32) (m_isThere : Nat → Int32) (x1 : Int32) (x2 : Int32) (x3 : Int32) (x4 : Int32) (X : zX p s m args meth c RX9 cX9_sendFrom 6 wsX9_sendFrom G cy A) : ∀ (n : Nat) (x5 : Int32) (m_comes : Nat → Int32) (rr : (Nat → Int32)) (h : lp (f_X9_sendFrom_d3_l37 fu m_lost m_wait x1 x2 x3 x4) n (x5, m_comes) = some rr) (H : Heap) (locs : List Loc) (ls : Array Slot) (hH : zH G A s.heap (wM cy mq m_hosts m_lost m_late m_wait m_per m_blocks m_sends m_many m_made m_madeMany m_lacking m_thrown m_now m_ahead m_then m_time m_timeThen m_isThere m_comes) H locs) (hl : lv_has ls 6 [(0, .ref (mq 0)), (1, .int x1), (2, .int x2), (3, .int x3), (4, .int x4), (5, .int x5)]) (K0 : ∀ (H : Heap) (locs : List Loc) (ls : Array Slot), zH G A s.heap (wM cy mq m_hosts m_lost m_late m_wait m_per m_blocks m_sends m_many m_made m_madeMany m_lacking m_thrown m_now m_ahead m_then m_time m_timeThen m_isThere rr) H locs → lv_has ls 6 [] → W p l e (zR 3 75) s m args below meth c H locs 0 0 Q (F0 m 93 ls [])), W p l e (zR 3 75) s m args below meth c H locs 0 0 Q (F0 m 37 ls []) := by
  have hx := X.1.1
  have hb := X.1.2.1
  intro n
  induction n with
  | zero => intro x5 m_comes rr h H locs ls hH hl K0; cases h
  | succ n ih =>
    intro x5 m_comes rr h H locs ls hH hl K0
    replace h : f_X9_sendFrom_d3_l37 fu m_lost m_wait x1 x2 x3 x4 (lp (f_X9_sendFrom_d3_l37 fu m_lost m_wait x1 x2 x3 x4) n) (x5, m_comes) = some rr := h
    dsimp only [f_X9_sendFrom_d3_l37] at h
    refine lv_iload (pc := 37) hx hb dX9_sendFrom_37 (lv_at hl 5 rfl) ?_
    refine lv_iload (pc := 39) hx hb dX9_sendFrom_39 (lv_at hl 4 rfl) ?_
    refine lv_icmp_ge (pc := 41) (tgt := 93) hx hb dX9_sendFrom_41 rfl (fun zc1 => ?_) (fun zc1 => ?_)
    · have h := zt zc1 h
      obtain rfl := Option.some.inj h
      exact K0 _ _ _ hH (lv_sub hl [] rfl)
    have h := zf zc1 h
    refine lv_iload_n (pc := 44) hx hb dX9_sendFrom_44 rfl (lv_at hl 2 rfl) ?_
    refine lv_iload (pc := 45) hx hb dX9_sendFrom_45 (lv_at hl 5 rfl) ?_
    refine lv_ishr (pc := 47) hx hb dX9_sendFrom_47 ?_
    refine lv_iconst (v := 1) (pc := 48) hx hb dX9_sendFrom_48 zk_c1 ?_
    refine lv_iand (pc := 49) hx hb dX9_sendFrom_49 ?_
    refine lv_if_ne (pc := 50) (tgt := 87) hx hb dX9_sendFrom_50 rfl (fun zc2 => ?_) (fun zc2 => ?_)
    · have h := zf zc2 h
      refine lv_iinc (pc := 87) (v := (x5 + 1)) (lv' := [(5, .int (x5 + 1)), (0, .ref (mq 0)), (1, .int x1), (2, .int x2), (3, .int x3), (4, .int x4)]) hx hb dX9_sendFrom_87 hl (k := 5) rfl (by rw [zk_c1]) (by decide) rfl (fun ls hl => ?_)
      refine lv_goto (pc := 90) (tgt := 37) hx hb dX9_sendFrom_90 rfl ?_
      exact ih (x5 + 1) m_comes rr h _ _ _ hH (lv_sub hl [1, 2, 3, 4, 5, 0] rfl) K0
    have h := zt zc2 h
    refine lv_aload_n (pc := 53) hx hb dX9_sendFrom_53 rfl (lv_at hl 0 rfl) ?_
    refine lv_aload_n (pc := 54) hx hb dX9_sendFrom_54 rfl (lv_at hl 0 rfl) ?_
    refine lv_iload_n (pc := 55) hx hb dX9_sendFrom_55 rfl (lv_at hl 3 rfl) ?_
    obtain ⟨zr3, hzr3, h⟩ := zb h
    refine zcV (pc := 56) (As := [.int x3]) (rest := [.ref (mq 0)]) (st1 := [.int zr3, .ref (mq 0)]) (ws' := wM cy mq m_hosts m_lost m_late m_wait m_per m_blocks m_sends m_many m_made m_madeMany m_lacking m_thrown m_now m_ahead m_then m_time m_timeThen m_isThere m_comes) (wr := []) (n := 1) (q0 := 0) X (c_X9_hostOf l G cy fu mq m_hosts m_lost m_late m_wait m_per m_blocks m_sends m_many m_made m_madeMany m_lacking m_thrown m_now m_ahead m_then m_time m_timeThen m_isThere m_comes x3 zr3 hzr3) hH [0, 1, 2, 3, 4, 5, 6, 7, 8, 9, 10, 11, 12, 13, 14] [] [0, 1, 2, 3, 4, 5, 6, 7, 8, 9, 10, 11, 12, 13, 14] rfl rfl rfl rfl gX9_sendFrom_X9_hostOf rfl ⟨rfl, rfl⟩ kX9_hostOf ⟨Nat.le_of_ble_eq_true rfl, Nat.le_of_ble_eq_true rfl⟩ rfl rfl rfl rfl rfl hl.1 (Nat.le_of_ble_eq_true rfl) ⟨Nat.le_of_ble_eq_true rfl, Nat.le_of_ble_eq_true rfl⟩ dX9_sendFrom_56 (fun H locs hH => ?_)
    refine lv_aload_n (pc := 59) hx hb dX9_sendFrom_59 rfl (lv_at hl 0 rfl) ?_
    refine lv_iload (pc := 60) hx hb dX9_sendFrom_60 (lv_at hl 5 rfl) ?_
    obtain ⟨zr4, hzr4, h⟩ := zb h
    refine zcV (pc := 62) (As := [.int x5]) (rest := [.int zr3, .ref (mq 0)]) (st1 := [.int zr4, .int zr3, .ref (mq 0)]) (ws' := wM cy mq m_hosts m_lost m_late m_wait m_per m_blocks m_sends m_many m_made m_madeMany m_lacking m_thrown m_now m_ahead m_then m_time m_timeThen m_isThere m_comes) (wr := []) (n := 1) (q0 := 0) X (c_X9_hostOf l G cy fu mq m_hosts m_lost m_late m_wait m_per m_blocks m_sends m_many m_made m_madeMany m_lacking m_thrown m_now m_ahead m_then m_time m_timeThen m_isThere m_comes x5 zr4 hzr4) hH [0, 1, 2, 3, 4, 5, 6, 7, 8, 9, 10, 11, 12, 13, 14] [] [0, 1, 2, 3, 4, 5, 6, 7, 8, 9, 10, 11, 12, 13, 14] rfl rfl rfl rfl gX9_sendFrom_X9_hostOf rfl ⟨rfl, rfl⟩ kX9_hostOf ⟨Nat.le_of_ble_eq_true rfl, Nat.le_of_ble_eq_true rfl⟩ rfl rfl rfl rfl rfl hl.1 (Nat.le_of_ble_eq_true rfl) ⟨Nat.le_of_ble_eq_true rfl, Nat.le_of_ble_eq_true rfl⟩ dX9_sendFrom_62 (fun H locs hH => ?_)
    obtain ⟨zr5, hzr5, h⟩ := zb h
    refine zcV (pc := 65) (As := [.int zr3, .int zr4]) (rest := []) (st1 := [.int zr5]) (ws' := wM cy mq m_hosts m_lost m_late m_wait m_per m_blocks m_sends m_many m_made m_madeMany m_lacking m_thrown m_now m_ahead m_then m_time m_timeThen m_isThere m_comes) (wr := []) (n := 2) (q0 := 0) X (c_X9_areJoined l G cy fu mq m_hosts m_lost m_late m_wait m_per m_blocks m_sends m_many m_made m_madeMany m_lacking m_thrown m_now m_ahead m_then m_time m_timeThen m_isThere m_comes zr3 zr4 zr5 hzr5) hH [0, 1, 2, 3, 4, 5, 6, 7, 8, 9, 10, 11, 12, 13, 14] [] [0, 1, 2, 3, 4, 5, 6, 7, 8, 9, 10, 11, 12, 13, 14] rfl rfl rfl rfl gX9_sendFrom_X9_areJoined rfl ⟨rfl, rfl⟩ kX9_areJoined ⟨Nat.le_of_ble_eq_true rfl, Nat.le_of_ble_eq_true rfl⟩ rfl rfl rfl rfl rfl hl.1 (Nat.le_of_ble_eq_true rfl) ⟨Nat.le_of_ble_eq_true rfl, Nat.le_of_ble_eq_true rfl⟩ dX9_sendFrom_65 (fun H locs hH => ?_)
    refine lv_if_eq (pc := 68) (tgt := 87) hx hb dX9_sendFrom_68 rfl (fun zc6 => ?_) (fun zc6 => ?_)
    · have h := zt zc6 h
      refine lv_iinc (pc := 87) (v := (x5 + 1)) (lv' := [(5, .int (x5 + 1)), (0, .ref (mq 0)), (1, .int x1), (2, .int x2), (3, .int x3), (4, .int x4)]) hx hb dX9_sendFrom_87 hl (k := 5) rfl (by rw [zk_c1]) (by decide) rfl (fun ls hl => ?_)
      refine lv_goto (pc := 90) (tgt := 37) hx hb dX9_sendFrom_90 rfl ?_
      exact ih (x5 + 1) m_comes rr h _ _ _ hH (lv_sub hl [1, 2, 3, 4, 5, 0] rfl) K0
    have h := zf zc6 h
    refine lv_aload_n (pc := 71) hx hb dX9_sendFrom_71 rfl (lv_at hl 0 rfl) ?_
    refine lv_iload_n (pc := 72) hx hb dX9_sendFrom_72 rfl (lv_at hl 1 rfl) ?_
    refine lv_iload_n (pc := 73) hx hb dX9_sendFrom_73 rfl (lv_at hl 2 rfl) ?_
    refine lv_iconst (v := 1) (pc := 74) hx hb dX9_sendFrom_74 zk_c1 ?_
    refine lv_iload (pc := 75) hx hb dX9_sendFrom_75 (lv_at hl 5 rfl) ?_
    refine lv_ishl (pc := 77) hx hb dX9_sendFrom_77 ?_
    refine lv_ior (pc := 78) hx hb dX9_sendFrom_78 ?_
    refine lv_iload_n (pc := 79) hx hb dX9_sendFrom_79 rfl (lv_at hl 3 rfl) ?_
    refine lv_iconst (v := 1) (pc := 80) hx hb dX9_sendFrom_80 zk_c1 ?_
    refine lv_iadd (pc := 81) hx hb dX9_sendFrom_81 ?_
    refine lv_iload (pc := 82) hx hb dX9_sendFrom_82 (lv_at hl 4 rfl) ?_
    obtain ⟨zr7, hzr7, h⟩ := zb h
    refine zcV (pc := 84) (As := [.int x1, .int (x2 ||| (1 <<< (x5 &&& 31))), .int (x3 + 1), .int x4]) (rest := []) (st1 := []) (ws' := wM cy mq m_hosts m_lost m_late m_wait m_per m_blocks m_sends m_many m_made m_madeMany m_lacking m_thrown m_now m_ahead m_then m_time m_timeThen m_isThere zr7) (wr := []) (n := 4) (q0 := 0) X (c_X9_sendFrom_d2 l G cy fu mq m_hosts m_lost m_late m_wait m_per m_blocks m_sends m_many m_made m_madeMany m_lacking m_thrown m_now m_ahead m_then m_time m_timeThen m_isThere m_comes x1 (x2 ||| (1 <<< (x5 &&& 31))) (x3 + 1) x4 zr7 hzr7) hH [0, 1, 2, 3, 4, 5, 6, 7, 8, 9, 10, 11, 12, 13, 14] [] [0, 1, 2, 3, 4, 5, 6, 7, 8, 9, 10, 11, 12, 13, 14] rfl rfl rfl rfl gX9_sendFrom_X9_sendFrom rfl ⟨rfl, rfl⟩ kX9_sendFrom ⟨Nat.le_of_ble_eq_true rfl, Nat.le_of_ble_eq_true rfl⟩ rfl rfl rfl rfl rfl hl.1 (Nat.le_of_ble_eq_true rfl) ⟨Nat.le_of_ble_eq_true rfl, Nat.le_of_ble_eq_true rfl⟩ dX9_sendFrom_84 (fun H locs hH => ?_)
    refine lv_iinc (pc := 87) (v := (x5 + 1)) (lv' := [(5, .int (x5 + 1)), (0, .ref (mq 0)), (1, .int x1), (2, .int x2), (3, .int x3), (4, .int x4)]) hx hb dX9_sendFrom_87 hl (k := 5) rfl (by rw [zk_c1]) (by decide) rfl (fun ls hl => ?_)
    refine lv_goto (pc := 90) (tgt := 37) hx hb dX9_sendFrom_90 rfl ?_
    exact ih (x5 + 1) zr7 rr h _ _ _ hH (lv_sub hl [1, 2, 3, 4, 5, 0] rfl) K0
set_option maxHeartbeats 4000000 in
set_option maxRecDepth 100000 in
theorem c_X9_sendFrom_d3 (l : Launch) (G : va_G) (cy : Nat → ClassId) (fu : Nat) (mq : Nat → Nat) (m_hosts : Int32) (m_lost : Nat → Int32) (m_late : Nat → Int32) (m_wait : Nat → Int32) (m_per : Nat → Int32) (m_blocks : Nat → Int32) (m_sends : Nat → Int32) (m_many : Int32) (m_made : Nat → Int32) (m_madeMany : Int32) (m_lacking : Int32) (m_thrown : Int32) (m_now : Nat → Int32) (m_ahead : Nat → Int32) (m_then : Nat → Int32) (m_time : Nat → Int32) (m_timeThen : Nat → Int32) (m_isThere : Nat → Int32) (m_comes : Nat → Int32) (x1 : Int32) (x2 : Int32) (x3 : Int32) (x4 : Int32) (rr : (Nat → Int32)) (h : f_X9_sendFrom_d3 fu m_lost m_wait m_comes x1 x2 x3 x4 = some rr) : zM l G cy yX9_sendFrom wsX9_sendFrom (zR 3 75) [.ref (mq 0), .int x1, .int x2, .int x3, .int x4] (wM cy mq m_hosts m_lost m_late m_wait m_per m_blocks m_sends m_many m_made m_madeMany m_lacking m_thrown m_now m_ahead m_then m_time m_timeThen m_isThere m_comes) (wM cy mq m_hosts m_lost m_late m_wait m_per m_blocks m_sends m_many m_made m_madeMany m_lacking m_thrown m_now m_ahead m_then m_time m_timeThen m_isThere rr) none := by
  refine zM.mk (cc := cX9_sendFrom) (nL := 6) (ret := none) (by decide) rfl (Nat.le_of_ble_eq_true rfl) ?_
  intro p e s m below meth c A ls X hr hH hl
  replace X : zX p s m [.ref (mq 0), .int x1, .int x2, .int x3, .int x4].toArray meth c RX9 cX9_sendFrom 6 wsX9_sendFrom G cy A := X
  have hx := X.1.1
  have hb := X.1.2.1
  replace hl : lv_has ls 6 [(0, .ref (mq 0)), (1, .int x1), (2, .int x2), (3, .int x3), (4, .int x4)] := hl
  dsimp only [f_X9_sendFrom_d3] at h
  refine lv_iload_n (pc := 0) hx hb dX9_sendFrom_0 rfl (lv_at hl 3 rfl) ?_
  refine lv_iload (pc := 1) hx hb dX9_sendFrom_1 (lv_at hl 4 rfl) ?_
  refine lv_icmp_ne (pc := 3) (tgt := 14) hx hb dX9_sendFrom_3 rfl (fun zc1 => ?_) (fun zc1 => ?_)
  · have h := zf zc1 h
    refine lv_aload_n (pc := 14) hx hb dX9_sendFrom_14 rfl (lv_at hl 0 rfl) ?_
    refine lv_iload_n (pc := 15) hx hb dX9_sendFrom_15 rfl (lv_at hl 1 rfl) ?_
    refine lv_iload_n (pc := 16) hx hb dX9_sendFrom_16 rfl (lv_at hl 2 rfl) ?_
    refine lv_iload_n (pc := 17) hx hb dX9_sendFrom_17 rfl (lv_at hl 3 rfl) ?_
    refine lv_iconst (v := 1) (pc := 18) hx hb dX9_sendFrom_18 zk_c1 ?_
    refine lv_iadd (pc := 19) hx hb dX9_sendFrom_19 ?_
    refine lv_iload (pc := 20) hx hb dX9_sendFrom_20 (lv_at hl 4 rfl) ?_
    obtain ⟨zr2, hzr2, h⟩ := zb h
    refine zcV (pc := 22) (As := [.int x1, .int x2, .int (x3 + 1), .int x4]) (rest := []) (st1 := []) (ws' := wM cy mq m_hosts m_lost m_late m_wait m_per m_blocks m_sends m_many m_made m_madeMany m_lacking m_thrown m_now m_ahead m_then m_time m_timeThen m_isThere zr2) (wr := []) (n := 4) (q0 := 0) X (c_X9_sendFrom_d2 l G cy fu mq m_hosts m_lost m_late m_wait m_per m_blocks m_sends m_many m_made m_madeMany m_lacking m_thrown m_now m_ahead m_then m_time m_timeThen m_isThere m_comes x1 x2 (x3 + 1) x4 zr2 hzr2) hH [0, 1, 2, 3, 4, 5, 6, 7, 8, 9, 10, 11, 12, 13, 14] [] [0, 1, 2, 3, 4, 5, 6, 7, 8, 9, 10, 11, 12, 13, 14] rfl rfl rfl rfl gX9_sendFrom_X9_sendFrom rfl ⟨rfl, rfl⟩ kX9_sendFrom ⟨Nat.le_of_ble_eq_true rfl, Nat.le_of_ble_eq_true rfl⟩ rfl rfl rfl rfl rfl hl.1 (Nat.le_of_ble_eq_true rfl) ⟨Nat.le_of_ble_eq_true rfl, Nat.le_of_ble_eq_true rfl⟩ dX9_sendFrom_22 (fun H locs hH => ?_)
    refine lv_iload_n (pc := 25) hx hb dX9_sendFrom_25 rfl (lv_at hl 1 rfl) ?_
    refine lv_iload_n (pc := 26) hx hb dX9_sendFrom_26 rfl (lv_at hl 3 rfl) ?_
    refine lv_ishr (pc := 27) hx hb dX9_sendFrom_27 ?_
    refine lv_iconst (v := 1) (pc := 28) hx hb dX9_sendFrom_28 zk_c1 ?_
    refine lv_iand (pc := 29) hx hb dX9_sendFrom_29 ?_
    refine lv_if_ne (pc := 30) (tgt := 34) hx hb dX9_sendFrom_30 rfl (fun zc3 => ?_) (fun zc3 => ?_)
    · have h := zf zc3 h
      refine lv_iconst (v := 0) (pc := 34) hx hb dX9_sendFrom_34 zk_c0 ?_
      refine lv_istore (pc := 35) (lv' := [(5, .int 0), (0, .ref (mq 0)), (1, .int x1), (2, .int x2), (3, .int x3), (4, .int x4)]) hx hb dX9_sendFrom_35 hl (by decide) rfl (fun ls hl => ?_)
      obtain ⟨zr4, hzr4, h⟩ := zb h
      refine w_X9_sendFrom_d3_l37 G cy fu mq m_hosts m_lost m_late m_wait m_per m_blocks m_sends m_many m_made m_madeMany m_lacking m_thrown m_now m_ahead m_then m_time m_timeThen m_isThere x1 x2 x3 x4 X fu 0 zr2 zr4 hzr4 _ _ _ hH (lv_sub hl [1, 2, 3, 4, 5, 0] rfl) (fun H locs ls hH hl => ?_)
      obtain rfl := Option.some.inj h
      exact z_vret X hr hH dX9_sendFrom_93
    have h := zt zc3 h
    obtain rfl := Option.some.inj h
    exact z_vret X hr hH dX9_sendFrom_33
  have h := zt zc1 h
  refine lv_aload_n (pc := 6) hx hb dX9_sendFrom_6 rfl (lv_at hl 0 rfl) ?_
  refine z_get (pc := 7) (v := .ref (mq 14)) X iX9_sendFrom_X9 hH 0 rfl rfl 18 rfl (List.mem_of_getElem? (i := 1) rfl) rfl dX9_sendFrom_7 ?_
  refine lv_iload_n (pc := 10) hx hb dX9_sendFrom_10 rfl (lv_at hl 2 rfl) ?_
  refine lv_iconst (v := 1) (pc := 11) hx hb dX9_sendFrom_11 zk_c1 ?_
  obtain ⟨hin, h⟩ := zg h
  refine z_zast (pc := 12) (ws' := wM cy mq m_hosts m_lost m_late m_wait m_per m_blocks m_sends m_many m_made m_madeMany m_lacking m_thrown m_now m_ahead m_then m_time m_timeThen m_isThere (upd m_comes (x2).toNatClampNeg (vp_nar .boolean 1))) X hH 14 rfl hin rfl dX9_sendFrom_12 (fun H locs hH => ?_)
  obtain rfl := Option.some.inj h
  exact z_vret X hr hH dX9_sendFrom_13
set_option maxHeartbeats 4000000 in
set_option maxRecDepth 100000 in
theorem w_X9_sendFrom_d4_l37 {p : Program} {l : Launch} {e : Env} {s : State} {m : MethodId} {args : Array Value} {below : List Frame} {meth : Method} {c : Code} {A : Nat → Prop} {Q : State → Prop} (G : va_G) (cy : Nat → ClassId) (fu : Nat) (mq : Nat → Nat) (m_hosts : Int32) (m_lost : Nat → Int32) (m_late : Nat → Int32) (m_wait : Nat → Int32) (m_per : Nat → Int32) (m_blocks : Nat → Int32) (m_sends : Nat → Int32) (m_many : Int32) (m_made : Nat → Int32) (m_madeMany : Int32) (m_lacking : Int32) (m_thrown : Int32) (m_now : Nat → Int32) (m_ahead : Nat → Int32) (m_then : Nat → Int32) (m_time : Nat → Int32) (m_timeThen : Nat → Int32) (m_isThere : Nat → Int32) (x1 : Int32) (x2 : Int32) (x3 : Int32) (x4 : Int32) (X : zX p s m args meth c RX9 cX9_sendFrom 6 wsX9_sendFrom G cy A) : ∀ (n : Nat) (x5 : Int32) (m_comes : Nat → Int32) (rr : (Nat → Int32)) (h : lp (f_X9_sendFrom_d4_l37 fu m_lost m_wait x1 x2 x3 x4) n (x5, m_comes) = some rr) (H : Heap) (locs : List Loc) (ls : Array Slot) (hH : zH G A s.heap (wM cy mq m_hosts m_lost m_late m_wait m_per m_blocks m_sends m_many m_made m_madeMany m_lacking m_thrown m_now m_ahead m_then m_time m_timeThen m_isThere m_comes) H locs) (hl : lv_has ls 6 [(0, .ref (mq 0)), (1, .int x1), (2, .int x2), (3, .int x3), (4, .int x4), (5, .int x5)]) (K0 : ∀ (H : Heap) (locs : List Loc) (ls : Array Slot), zH G A s.heap (wM cy mq m_hosts m_lost m_late m_wait m_per m_blocks m_sends m_many m_made m_madeMany m_lacking m_thrown m_now m_ahead m_then m_time m_timeThen m_isThere rr) H locs → lv_has ls 6 [] → W p l e (zR 4 100) s m args below meth c H locs 0 0 Q (F0 m 93 ls [])), W p l e (zR 4 100) s m args below meth c H locs 0 0 Q (F0 m 37 ls []) := by
  have hx := X.1.1
  have hb := X.1.2.1
  intro n
  induction n with
  | zero => intro x5 m_comes rr h H locs ls hH hl K0; cases h
  | succ n ih =>
    intro x5 m_comes rr h H locs ls hH hl K0
    replace h : f_X9_sendFrom_d4_l37 fu m_lost m_wait x1 x2 x3 x4 (lp (f_X9_sendFrom_d4_l37 fu m_lost m_wait x1 x2 x3 x4) n) (x5, m_comes) = some rr := h
    dsimp only [f_X9_sendFrom_d4_l37] at h
    refine lv_iload (pc := 37) hx hb dX9_sendFrom_37 (lv_at hl 5 rfl) ?_
    refine lv_iload (pc := 39) hx hb dX9_sendFrom_39 (lv_at hl 4 rfl) ?_
    refine lv_icmp_ge (pc := 41) (tgt := 93) hx hb dX9_sendFrom_41 rfl (fun zc1 => ?_) (fun zc1 => ?_)
    · have h := zt zc1 h
      obtain rfl := Option.some.inj h
      exact K0 _ _ _ hH (lv_sub hl [] rfl)
    have h := zf zc1 h
    refine lv_iload_n (pc := 44) hx hb dX9_sendFrom_44 rfl (lv_at hl 2 rfl) ?_
    refine lv_iload (pc := 45) hx hb dX9_sendFrom_45 (lv_at hl 5 rfl) ?_
    refine lv_ishr (pc := 47) hx hb dX9_sendFrom_47 ?_
    refine lv_iconst (v := 1) (pc := 48) hx hb dX9_sendFrom_48 zk_c1 ?_
    refine lv_iand (pc := 49) hx hb dX9_sendFrom_49 ?_
    refine lv_if_ne (pc := 50) (tgt := 87) hx hb dX9_sendFrom_50 rfl (fun zc2 => ?_) (fun zc2 => ?_)
    · have h := zf zc2 h
      refine lv_iinc (pc := 87) (v := (x5 + 1)) (lv' := [(5, .int (x5 + 1)), (0, .ref (mq 0)), (1, .int x1), (2, .int x2), (3, .int x3), (4, .int x4)]) hx hb dX9_sendFrom_87 hl (k := 5) rfl (by rw [zk_c1]) (by decide) rfl (fun ls hl => ?_)
      refine lv_goto (pc := 90) (tgt := 37) hx hb dX9_sendFrom_90 rfl ?_
      exact ih (x5 + 1) m_comes rr h _ _ _ hH (lv_sub hl [1, 2, 3, 4, 5, 0] rfl) K0
    have h := zt zc2 h
    refine lv_aload_n (pc := 53) hx hb dX9_sendFrom_53 rfl (lv_at hl 0 rfl) ?_
    refine lv_aload_n (pc := 54) hx hb dX9_sendFrom_54 rfl (lv_at hl 0 rfl) ?_
    refine lv_iload_n (pc := 55) hx hb dX9_sendFrom_55 rfl (lv_at hl 3 rfl) ?_
    obtain ⟨zr3, hzr3, h⟩ := zb h
    refine zcV (pc := 56) (As := [.int x3]) (rest := [.ref (mq 0)]) (st1 := [.int zr3, .ref (mq 0)]) (ws' := wM cy mq m_hosts m_lost m_late m_wait m_per m_blocks m_sends m_many m_made m_madeMany m_lacking m_thrown m_now m_ahead m_then m_time m_timeThen m_isThere m_comes) (wr := []) (n := 1) (q0 := 0) X (c_X9_hostOf l G cy fu mq m_hosts m_lost m_late m_wait m_per m_blocks m_sends m_many m_made m_madeMany m_lacking m_thrown m_now m_ahead m_then m_time m_timeThen m_isThere m_comes x3 zr3 hzr3) hH [0, 1, 2, 3, 4, 5, 6, 7, 8, 9, 10, 11, 12, 13, 14] [] [0, 1, 2, 3, 4, 5, 6, 7, 8, 9, 10, 11, 12, 13, 14] rfl rfl rfl rfl gX9_sendFrom_X9_hostOf rfl ⟨rfl, rfl⟩ kX9_hostOf ⟨Nat.le_of_ble_eq_true rfl, Nat.le_of_ble_eq_true rfl⟩ rfl rfl rfl rfl rfl hl.1 (Nat.le_of_ble_eq_true rfl) ⟨Nat.le_of_ble_eq_true rfl, Nat.le_of_ble_eq_true rfl⟩ dX9_sendFrom_56 (fun H locs hH => ?_)
    refine lv_aload_n (pc := 59) hx hb dX9_sendFrom_59 rfl (lv_at hl 0 rfl) ?_
    refine lv_iload (pc := 60) hx hb dX9_sendFrom_60 (lv_at hl 5 rfl) ?_
    obtain ⟨zr4, hzr4, h⟩ := zb h
    refine zcV (pc := 62) (As := [.int x5]) (rest := [.int zr3, .ref (mq 0)]) (st1 := [.int zr4, .int zr3, .ref (mq 0)]) (ws' := wM cy mq m_hosts m_lost m_late m_wait m_per m_blocks m_sends m_many m_made m_madeMany m_lacking m_thrown m_now m_ahead m_then m_time m_timeThen m_isThere m_comes) (wr := []) (n := 1) (q0 := 0) X (c_X9_hostOf l G cy fu mq m_hosts m_lost m_late m_wait m_per m_blocks m_sends m_many m_made m_madeMany m_lacking m_thrown m_now m_ahead m_then m_time m_timeThen m_isThere m_comes x5 zr4 hzr4) hH [0, 1, 2, 3, 4, 5, 6, 7, 8, 9, 10, 11, 12, 13, 14] [] [0, 1, 2, 3, 4, 5, 6, 7, 8, 9, 10, 11, 12, 13, 14] rfl rfl rfl rfl gX9_sendFrom_X9_hostOf rfl ⟨rfl, rfl⟩ kX9_hostOf ⟨Nat.le_of_ble_eq_true rfl, Nat.le_of_ble_eq_true rfl⟩ rfl rfl rfl rfl rfl hl.1 (Nat.le_of_ble_eq_true rfl) ⟨Nat.le_of_ble_eq_true rfl, Nat.le_of_ble_eq_true rfl⟩ dX9_sendFrom_62 (fun H locs hH => ?_)
    obtain ⟨zr5, hzr5, h⟩ := zb h
    refine zcV (pc := 65) (As := [.int zr3, .int zr4]) (rest := []) (st1 := [.int zr5]) (ws' := wM cy mq m_hosts m_lost m_late m_wait m_per m_blocks m_sends m_many m_made m_madeMany m_lacking m_thrown m_now m_ahead m_then m_time m_timeThen m_isThere m_comes) (wr := []) (n := 2) (q0 := 0) X (c_X9_areJoined l G cy fu mq m_hosts m_lost m_late m_wait m_per m_blocks m_sends m_many m_made m_madeMany m_lacking m_thrown m_now m_ahead m_then m_time m_timeThen m_isThere m_comes zr3 zr4 zr5 hzr5) hH [0, 1, 2, 3, 4, 5, 6, 7, 8, 9, 10, 11, 12, 13, 14] [] [0, 1, 2, 3, 4, 5, 6, 7, 8, 9, 10, 11, 12, 13, 14] rfl rfl rfl rfl gX9_sendFrom_X9_areJoined rfl ⟨rfl, rfl⟩ kX9_areJoined ⟨Nat.le_of_ble_eq_true rfl, Nat.le_of_ble_eq_true rfl⟩ rfl rfl rfl rfl rfl hl.1 (Nat.le_of_ble_eq_true rfl) ⟨Nat.le_of_ble_eq_true rfl, Nat.le_of_ble_eq_true rfl⟩ dX9_sendFrom_65 (fun H locs hH => ?_)
    refine lv_if_eq (pc := 68) (tgt := 87) hx hb dX9_sendFrom_68 rfl (fun zc6 => ?_) (fun zc6 => ?_)
    · have h := zt zc6 h
      refine lv_iinc (pc := 87) (v := (x5 + 1)) (lv' := [(5, .int (x5 + 1)), (0, .ref (mq 0)), (1, .int x1), (2, .int x2), (3, .int x3), (4, .int x4)]) hx hb dX9_sendFrom_87 hl (k := 5) rfl (by rw [zk_c1]) (by decide) rfl (fun ls hl => ?_)
      refine lv_goto (pc := 90) (tgt := 37) hx hb dX9_sendFrom_90 rfl ?_
      exact ih (x5 + 1) m_comes rr h _ _ _ hH (lv_sub hl [1, 2, 3, 4, 5, 0] rfl) K0
    have h := zf zc6 h
    refine lv_aload_n (pc := 71) hx hb dX9_sendFrom_71 rfl (lv_at hl 0 rfl) ?_
    refine lv_iload_n (pc := 72) hx hb dX9_sendFrom_72 rfl (lv_at hl 1 rfl) ?_
    refine lv_iload_n (pc := 73) hx hb dX9_sendFrom_73 rfl (lv_at hl 2 rfl) ?_
    refine lv_iconst (v := 1) (pc := 74) hx hb dX9_sendFrom_74 zk_c1 ?_
    refine lv_iload (pc := 75) hx hb dX9_sendFrom_75 (lv_at hl 5 rfl) ?_
    refine lv_ishl (pc := 77) hx hb dX9_sendFrom_77 ?_
    refine lv_ior (pc := 78) hx hb dX9_sendFrom_78 ?_
    refine lv_iload_n (pc := 79) hx hb dX9_sendFrom_79 rfl (lv_at hl 3 rfl) ?_
    refine lv_iconst (v := 1) (pc := 80) hx hb dX9_sendFrom_80 zk_c1 ?_
    refine lv_iadd (pc := 81) hx hb dX9_sendFrom_81 ?_
    refine lv_iload (pc := 82) hx hb dX9_sendFrom_82 (lv_at hl 4 rfl) ?_
    obtain ⟨zr7, hzr7, h⟩ := zb h
    refine zcV (pc := 84) (As := [.int x1, .int (x2 ||| (1 <<< (x5 &&& 31))), .int (x3 + 1), .int x4]) (rest := []) (st1 := []) (ws' := wM cy mq m_hosts m_lost m_late m_wait m_per m_blocks m_sends m_many m_made m_madeMany m_lacking m_thrown m_now m_ahead m_then m_time m_timeThen m_isThere zr7) (wr := []) (n := 4) (q0 := 0) X (c_X9_sendFrom_d3 l G cy fu mq m_hosts m_lost m_late m_wait m_per m_blocks m_sends m_many m_made m_madeMany m_lacking m_thrown m_now m_ahead m_then m_time m_timeThen m_isThere m_comes x1 (x2 ||| (1 <<< (x5 &&& 31))) (x3 + 1) x4 zr7 hzr7) hH [0, 1, 2, 3, 4, 5, 6, 7, 8, 9, 10, 11, 12, 13, 14] [] [0, 1, 2, 3, 4, 5, 6, 7, 8, 9, 10, 11, 12, 13, 14] rfl rfl rfl rfl gX9_sendFrom_X9_sendFrom rfl ⟨rfl, rfl⟩ kX9_sendFrom ⟨Nat.le_of_ble_eq_true rfl, Nat.le_of_ble_eq_true rfl⟩ rfl rfl rfl rfl rfl hl.1 (Nat.le_of_ble_eq_true rfl) ⟨Nat.le_of_ble_eq_true rfl, Nat.le_of_ble_eq_true rfl⟩ dX9_sendFrom_84 (fun H locs hH => ?_)
    refine lv_iinc (pc := 87) (v := (x5 + 1)) (lv' := [(5, .int (x5 + 1)), (0, .ref (mq 0)), (1, .int x1), (2, .int x2), (3, .int x3), (4, .int x4)]) hx hb dX9_sendFrom_87 hl (k := 5) rfl (by rw [zk_c1]) (by decide) rfl (fun ls hl => ?_)
    refine lv_goto (pc := 90) (tgt := 37) hx hb dX9_sendFrom_90 rfl ?_
    exact ih (x5 + 1) zr7 rr h _ _ _ hH (lv_sub hl [1, 2, 3, 4, 5, 0] rfl) K0
set_option maxHeartbeats 4000000 in
set_option maxRecDepth 100000 in
theorem c_X9_sendFrom_d4 (l : Launch) (G : va_G) (cy : Nat → ClassId) (fu : Nat) (mq : Nat → Nat) (m_hosts : Int32) (m_lost : Nat → Int32) (m_late : Nat → Int32) (m_wait : Nat → Int32) (m_per : Nat → Int32) (m_blocks : Nat → Int32) (m_sends : Nat → Int32) (m_many : Int32) (m_made : Nat → Int32) (m_madeMany : Int32) (m_lacking : Int32) (m_thrown : Int32) (m_now : Nat → Int32) (m_ahead : Nat → Int32) (m_then : Nat → Int32) (m_time : Nat → Int32) (m_timeThen : Nat → Int32) (m_isThere : Nat → Int32) (m_comes : Nat → Int32) (x1 : Int32) (x2 : Int32) (x3 : Int32) (x4 : Int32) (rr : (Nat → Int32)) (h : f_X9_sendFrom_d4 fu m_lost m_wait m_comes x1 x2 x3 x4 = some rr) : zM l G cy yX9_sendFrom wsX9_sendFrom (zR 4 100) [.ref (mq 0), .int x1, .int x2, .int x3, .int x4] (wM cy mq m_hosts m_lost m_late m_wait m_per m_blocks m_sends m_many m_made m_madeMany m_lacking m_thrown m_now m_ahead m_then m_time m_timeThen m_isThere m_comes) (wM cy mq m_hosts m_lost m_late m_wait m_per m_blocks m_sends m_many m_made m_madeMany m_lacking m_thrown m_now m_ahead m_then m_time m_timeThen m_isThere rr) none := by
  refine zM.mk (cc := cX9_sendFrom) (nL := 6) (ret := none) (by decide) rfl (Nat.le_of_ble_eq_true rfl) ?_
  intro p e s m below meth c A ls X hr hH hl
  replace X : zX p s m [.ref (mq 0), .int x1, .int x2, .int x3, .int x4].toArray meth c RX9 cX9_sendFrom 6 wsX9_sendFrom G cy A := X
  have hx := X.1.1
  have hb := X.1.2.1
  replace hl : lv_has ls 6 [(0, .ref (mq 0)), (1, .int x1), (2, .int x2), (3, .int x3), (4, .int x4)] := hl
  dsimp only [f_X9_sendFrom_d4] at h
  refine lv_iload_n (pc := 0) hx hb dX9_sendFrom_0 rfl (lv_at hl 3 rfl) ?_
  refine lv_iload (pc := 1) hx hb dX9_sendFrom_1 (lv_at hl 4 rfl) ?_
  refine lv_icmp_ne (pc := 3) (tgt := 14) hx hb dX9_sendFrom_3 rfl (fun zc1 => ?_) (fun zc1 => ?_)
  · have h := zf zc1 h
    refine lv_aload_n (pc := 14) hx hb dX9_sendFrom_14 rfl (lv_at hl 0 rfl) ?_
    refine lv_iload_n (pc := 15) hx hb dX9_sendFrom_15 rfl (lv_at hl 1 rfl) ?_
    refine lv_iload_n (pc := 16) hx hb dX9_sendFrom_16 rfl (lv_at hl 2 rfl) ?_
    refine lv_iload_n (pc := 17) hx hb dX9_sendFrom_17 rfl (lv_at hl 3 rfl) ?_
    refine lv_iconst (v := 1) (pc := 18) hx hb dX9_sendFrom_18 zk_c1 ?_
    refine lv_iadd (pc := 19) hx hb dX9_sendFrom_19 ?_
    refine lv_iload (pc := 20) hx hb dX9_sendFrom_20 (lv_at hl 4 rfl) ?_
    obtain ⟨zr2, hzr2, h⟩ := zb h
    refine zcV (pc := 22) (As := [.int x1, .int x2, .int (x3 + 1), .int x4]) (rest := []) (st1 := []) (ws' := wM cy mq m_hosts m_lost m_late m_wait m_per m_blocks m_sends m_many m_made m_madeMany m_lacking m_thrown m_now m_ahead m_then m_time m_timeThen m_isThere zr2) (wr := []) (n := 4) (q0 := 0) X (c_X9_sendFrom_d3 l G cy fu mq m_hosts m_lost m_late m_wait m_per m_blocks m_sends m_many m_made m_madeMany m_lacking m_thrown m_now m_ahead m_then m_time m_timeThen m_isThere m_comes x1 x2 (x3 + 1) x4 zr2 hzr2) hH [0, 1, 2, 3, 4, 5, 6, 7, 8, 9, 10, 11, 12, 13, 14] [] [0, 1, 2, 3, 4, 5, 6, 7, 8, 9, 10, 11, 12, 13, 14] rfl rfl rfl rfl gX9_sendFrom_X9_sendFrom rfl ⟨rfl, rfl⟩ kX9_sendFrom ⟨Nat.le_of_ble_eq_true rfl, Nat.le_of_ble_eq_true rfl⟩ rfl rfl rfl rfl rfl hl.1 (Nat.le_of_ble_eq_true rfl) ⟨Nat.le_of_ble_eq_true rfl, Nat.le_of_ble_eq_true rfl⟩ dX9_sendFrom_22 (fun H locs hH => ?_)
    refine lv_iload_n (pc := 25) hx hb dX9_sendFrom_25 rfl (lv_at hl 1 rfl) ?_
    refine lv_iload_n (pc := 26) hx hb dX9_sendFrom_26 rfl (lv_at hl 3 rfl) ?_
    refine lv_ishr (pc := 27) hx hb dX9_sendFrom_27 ?_
    refine lv_iconst (v := 1) (pc := 28) hx hb dX9_sendFrom_28 zk_c1 ?_
    refine lv_iand (pc := 29) hx hb dX9_sendFrom_29 ?_
    refine lv_if_ne (pc := 30) (tgt := 34) hx hb dX9_sendFrom_30 rfl (fun zc3 => ?_) (fun zc3 => ?_)
    · have h := zf zc3 h
      refine lv_iconst (v := 0) (pc := 34) hx hb dX9_sendFrom_34 zk_c0 ?_
      refine lv_istore (pc := 35) (lv' := [(5, .int 0), (0, .ref (mq 0)), (1, .int x1), (2, .int x2), (3, .int x3), (4, .int x4)]) hx hb dX9_sendFrom_35 hl (by decide) rfl (fun ls hl => ?_)
      obtain ⟨zr4, hzr4, h⟩ := zb h
      refine w_X9_sendFrom_d4_l37 G cy fu mq m_hosts m_lost m_late m_wait m_per m_blocks m_sends m_many m_made m_madeMany m_lacking m_thrown m_now m_ahead m_then m_time m_timeThen m_isThere x1 x2 x3 x4 X fu 0 zr2 zr4 hzr4 _ _ _ hH (lv_sub hl [1, 2, 3, 4, 5, 0] rfl) (fun H locs ls hH hl => ?_)
      obtain rfl := Option.some.inj h
      exact z_vret X hr hH dX9_sendFrom_93
    have h := zt zc3 h
    obtain rfl := Option.some.inj h
    exact z_vret X hr hH dX9_sendFrom_33
  have h := zt zc1 h
  refine lv_aload_n (pc := 6) hx hb dX9_sendFrom_6 rfl (lv_at hl 0 rfl) ?_
  refine z_get (pc := 7) (v := .ref (mq 14)) X iX9_sendFrom_X9 hH 0 rfl rfl 18 rfl (List.mem_of_getElem? (i := 1) rfl) rfl dX9_sendFrom_7 ?_
  refine lv_iload_n (pc := 10) hx hb dX9_sendFrom_10 rfl (lv_at hl 2 rfl) ?_
  refine lv_iconst (v := 1) (pc := 11) hx hb dX9_sendFrom_11 zk_c1 ?_
  obtain ⟨hin, h⟩ := zg h
  refine z_zast (pc := 12) (ws' := wM cy mq m_hosts m_lost m_late m_wait m_per m_blocks m_sends m_many m_made m_madeMany m_lacking m_thrown m_now m_ahead m_then m_time m_timeThen m_isThere (upd m_comes (x2).toNatClampNeg (vp_nar .boolean 1))) X hH 14 rfl hin rfl dX9_sendFrom_12 (fun H locs hH => ?_)
  obtain rfl := Option.some.inj h
  exact z_vret X hr hH dX9_sendFrom_13
set_option maxHeartbeats 4000000 in
set_option maxRecDepth 100000 in
theorem w_X9_sendFrom_d5_l37 {p : Program} {l : Launch} {e : Env} {s : State} {m : MethodId} {args : Array Value} {below : List Frame} {meth : Method} {c : Code} {A : Nat → Prop} {Q : State → Prop} (G : va_G) (cy : Nat → ClassId) (fu : Nat) (mq : Nat → Nat) (m_hosts : Int32) (m_lost : Nat → Int32) (m_late : Nat → Int32) (m_wait : Nat → Int32) (m_per : Nat → Int32) (m_blocks : Nat → Int32) (m_sends : Nat → Int32) (m_many : Int32) (m_made : Nat → Int32) (m_madeMany : Int32) (m_lacking : Int32) (m_thrown : Int32) (m_now : Nat → Int32) (m_ahead : Nat → Int32) (m_then : Nat → Int32) (m_time : Nat → Int32) (m_timeThen : Nat → Int32) (m_isThere : Nat → Int32) (x1 : Int32) (x2 : Int32) (x3 : Int32) (x4 : Int32) (X : zX p s m args meth c RX9 cX9_sendFrom 6 wsX9_sendFrom G cy A) : ∀ (n : Nat) (x5 : Int32) (m_comes : Nat → Int32) (rr : (Nat → Int32)) (h : lp (f_X9_sendFrom_d5_l37 fu m_lost m_wait x1 x2 x3 x4) n (x5, m_comes) = some rr) (H : Heap) (locs : List Loc) (ls : Array Slot) (hH : zH G A s.heap (wM cy mq m_hosts m_lost m_late m_wait m_per m_blocks m_sends m_many m_made m_madeMany m_lacking m_thrown m_now m_ahead m_then m_time m_timeThen m_isThere m_comes) H locs) (hl : lv_has ls 6 [(0, .ref (mq 0)), (1, .int x1), (2, .int x2), (3, .int x3), (4, .int x4), (5, .int x5)]) (K0 : ∀ (H : Heap) (locs : List Loc) (ls : Array Slot), zH G A s.heap (wM cy mq m_hosts m_lost m_late m_wait m_per m_blocks m_sends m_many m_made m_madeMany m_lacking m_thrown m_now m_ahead m_then m_time m_timeThen m_isThere rr) H locs → lv_has ls 6 [] → W p l e (zR 5 125) s m args below meth c H locs 0 0 Q (F0 m 93 ls [])), W p l e (zR 5 125) s m args below meth c H locs 0 0 Q (F0 m 37 ls []) := by
  have hx := X.1.1
  have hb := X.1.2.1
  intro n
  induction n with
  | zero => intro x5 m_comes rr h H locs ls hH hl K0; cases h
  | succ n ih =>
    intro x5 m_comes rr h H locs ls hH hl K0
    replace h : f_X9_sendFrom_d5_l37 fu m_lost m_wait x1 x2 x3 x4 (lp (f_X9_sendFrom_d5_l37 fu m_lost m_wait x1 x2 x3 x4) n) (x5, m_comes) = some rr := h
    dsimp only [f_X9_sendFrom_d5_l37] at h
    refine lv_iload (pc := 37) hx hb dX9_sendFrom_37 (lv_at hl 5 rfl) ?_
    refine lv_iload (pc := 39) hx hb dX9_sendFrom_39 (lv_at hl 4 rfl) ?_
    refine lv_icmp_ge (pc := 41) (tgt := 93) hx hb dX9_sendFrom_41 rfl (fun zc1 => ?_) (fun zc1 => ?_)
    · have h := zt zc1 h
      obtain rfl := Option.some.inj h
      exact K0 _ _ _ hH (lv_sub hl [] rfl)
    have h := zf zc1 h
    refine lv_iload_n (pc := 44) hx hb dX9_sendFrom_44 rfl (lv_at hl 2 rfl) ?_
    refine lv_iload (pc := 45) hx hb dX9_sendFrom_45 (lv_at hl 5 rfl) ?_
    refine lv_ishr (pc := 47) hx hb dX9_sendFrom_47 ?_
    refine lv_iconst (v := 1) (pc := 48) hx hb dX9_sendFrom_48 zk_c1 ?_
    refine lv_iand (pc := 49) hx hb dX9_sendFrom_49 ?_
    refine lv_if_ne (pc := 50) (tgt := 87) hx hb dX9_sendFrom_50 rfl (fun zc2 => ?_) (fun zc2 => ?_)
    · have h := zf zc2 h
      refine lv_iinc (pc := 87) (v := (x5 + 1)) (lv' := [(5, .int (x5 + 1)), (0, .ref (mq 0)), (1, .int x1), (2, .int x2), (3, .int x3), (4, .int x4)]) hx hb dX9_sendFrom_87 hl (k := 5) rfl (by rw [zk_c1]) (by decide) rfl (fun ls hl => ?_)
      refine lv_goto (pc := 90) (tgt := 37) hx hb dX9_sendFrom_90 rfl ?_
      exact ih (x5 + 1) m_comes rr h _ _ _ hH (lv_sub hl [1, 2, 3, 4, 5, 0] rfl) K0
    have h := zt zc2 h
    refine lv_aload_n (pc := 53) hx hb dX9_sendFrom_53 rfl (lv_at hl 0 rfl) ?_
    refine lv_aload_n (pc := 54) hx hb dX9_sendFrom_54 rfl (lv_at hl 0 rfl) ?_
    refine lv_iload_n (pc := 55) hx hb dX9_sendFrom_55 rfl (lv_at hl 3 rfl) ?_
    obtain ⟨zr3, hzr3, h⟩ := zb h
    refine zcV (pc := 56) (As := [.int x3]) (rest := [.ref (mq 0)]) (st1 := [.int zr3, .ref (mq 0)]) (ws' := wM cy mq m_hosts m_lost m_late m_wait m_per m_blocks m_sends m_many m_made m_madeMany m_lacking m_thrown m_now m_ahead m_then m_time m_timeThen m_isThere m_comes) (wr := []) (n := 1) (q0 := 0) X (c_X9_hostOf l G cy fu mq m_hosts m_lost m_late m_wait m_per m_blocks m_sends m_many m_made m_madeMany m_lacking m_thrown m_now m_ahead m_then m_time m_timeThen m_isThere m_comes x3 zr3 hzr3) hH [0, 1, 2, 3, 4, 5, 6, 7, 8, 9, 10, 11, 12, 13, 14] [] [0, 1, 2, 3, 4, 5, 6, 7, 8, 9, 10, 11, 12, 13, 14] rfl rfl rfl rfl gX9_sendFrom_X9_hostOf rfl ⟨rfl, rfl⟩ kX9_hostOf ⟨Nat.le_of_ble_eq_true rfl, Nat.le_of_ble_eq_true rfl⟩ rfl rfl rfl rfl rfl hl.1 (Nat.le_of_ble_eq_true rfl) ⟨Nat.le_of_ble_eq_true rfl, Nat.le_of_ble_eq_true rfl⟩ dX9_sendFrom_56 (fun H locs hH => ?_)
    refine lv_aload_n (pc := 59) hx hb dX9_sendFrom_59 rfl (lv_at hl 0 rfl) ?_
    refine lv_iload (pc := 60) hx hb dX9_sendFrom_60 (lv_at hl 5 rfl) ?_
    obtain ⟨zr4, hzr4, h⟩ := zb h
    refine zcV (pc := 62) (As := [.int x5]) (rest := [.int zr3, .ref (mq 0)]) (st1 := [.int zr4, .int zr3, .ref (mq 0)]) (ws' := wM cy mq m_hosts m_lost m_late m_wait m_per m_blocks m_sends m_many m_made m_madeMany m_lacking m_thrown m_now m_ahead m_then m_time m_timeThen m_isThere m_comes) (wr := []) (n := 1) (q0 := 0) X (c_X9_hostOf l G cy fu mq m_hosts m_lost m_late m_wait m_per m_blocks m_sends m_many m_made m_madeMany m_lacking m_thrown m_now m_ahead m_then m_time m_timeThen m_isThere m_comes x5 zr4 hzr4) hH [0, 1, 2, 3, 4, 5, 6, 7, 8, 9, 10, 11, 12, 13, 14] [] [0, 1, 2, 3, 4, 5, 6, 7, 8, 9, 10, 11, 12, 13, 14] rfl rfl rfl rfl gX9_sendFrom_X9_hostOf rfl ⟨rfl, rfl⟩ kX9_hostOf ⟨Nat.le_of_ble_eq_true rfl, Nat.le_of_ble_eq_true rfl⟩ rfl rfl rfl rfl rfl hl.1 (Nat.le_of_ble_eq_true rfl) ⟨Nat.le_of_ble_eq_true rfl, Nat.le_of_ble_eq_true rfl⟩ dX9_sendFrom_62 (fun H locs hH => ?_)
    obtain ⟨zr5, hzr5, h⟩ := zb h
    refine zcV (pc := 65) (As := [.int zr3, .int zr4]) (rest := []) (st1 := [.int zr5]) (ws' := wM cy mq m_hosts m_lost m_late m_wait m_per m_blocks m_sends m_many m_made m_madeMany m_lacking m_thrown m_now m_ahead m_then m_time m_timeThen m_isThere m_comes) (wr := []) (n := 2) (q0 := 0) X (c_X9_areJoined l G cy fu mq m_hosts m_lost m_late m_wait m_per m_blocks m_sends m_many m_made m_madeMany m_lacking m_thrown m_now m_ahead m_then m_time m_timeThen m_isThere m_comes zr3 zr4 zr5 hzr5) hH [0, 1, 2, 3, 4, 5, 6, 7, 8, 9, 10, 11, 12, 13, 14] [] [0, 1, 2, 3, 4, 5, 6, 7, 8, 9, 10, 11, 12, 13, 14] rfl rfl rfl rfl gX9_sendFrom_X9_areJoined rfl ⟨rfl, rfl⟩ kX9_areJoined ⟨Nat.le_of_ble_eq_true rfl, Nat.le_of_ble_eq_true rfl⟩ rfl rfl rfl rfl rfl hl.1 (Nat.le_of_ble_eq_true rfl) ⟨Nat.le_of_ble_eq_true rfl, Nat.le_of_ble_eq_true rfl⟩ dX9_sendFrom_65 (fun H locs hH => ?_)
    refine lv_if_eq (pc := 68) (tgt := 87) hx hb dX9_sendFrom_68 rfl (fun zc6 => ?_) (fun zc6 => ?_)
    · have h := zt zc6 h
      refine lv_iinc (pc := 87) (v := (x5 + 1)) (lv' := [(5, .int (x5 + 1)), (0, .ref (mq 0)), (1, .int x1), (2, .int x2), (3, .int x3), (4, .int x4)]) hx hb dX9_sendFrom_87 hl (k := 5) rfl (by rw [zk_c1]) (by decide) rfl (fun ls hl => ?_)
      refine lv_goto (pc := 90) (tgt := 37) hx hb dX9_sendFrom_90 rfl ?_
      exact ih (x5 + 1) m_comes rr h _ _ _ hH (lv_sub hl [1, 2, 3, 4, 5, 0] rfl) K0
    have h := zf zc6 h
    refine lv_aload_n (pc := 71) hx hb dX9_sendFrom_71 rfl (lv_at hl 0 rfl) ?_
    refine lv_iload_n (pc := 72) hx hb dX9_sendFrom_72 rfl (lv_at hl 1 rfl) ?_
    refine lv_iload_n (pc := 73) hx hb dX9_sendFrom_73 rfl (lv_at hl 2 rfl) ?_
    refine lv_iconst (v := 1) (pc := 74) hx hb dX9_sendFrom_74 zk_c1 ?_
    refine lv_iload (pc := 75) hx hb dX9_sendFrom_75 (lv_at hl 5 rfl) ?_
    refine lv_ishl (pc := 77) hx hb dX9_sendFrom_77 ?_
    refine lv_ior (pc := 78) hx hb dX9_sendFrom_78 ?_
    refine lv_iload_n (pc := 79) hx hb dX9_sendFrom_79 rfl (lv_at hl 3 rfl) ?_
    refine lv_iconst (v := 1) (pc := 80) hx hb dX9_sendFrom_80 zk_c1 ?_
    refine lv_iadd (pc := 81) hx hb dX9_sendFrom_81 ?_
    refine lv_iload (pc := 82) hx hb dX9_sendFrom_82 (lv_at hl 4 rfl) ?_
    obtain ⟨zr7, hzr7, h⟩ := zb h
    refine zcV (pc := 84) (As := [.int x1, .int (x2 ||| (1 <<< (x5 &&& 31))), .int (x3 + 1), .int x4]) (rest := []) (st1 := []) (ws' := wM cy mq m_hosts m_lost m_late m_wait m_per m_blocks m_sends m_many m_made m_madeMany m_lacking m_thrown m_now m_ahead m_then m_time m_timeThen m_isThere zr7) (wr := []) (n := 4) (q0 := 0) X (c_X9_sendFrom_d4 l G cy fu mq m_hosts m_lost m_late m_wait m_per m_blocks m_sends m_many m_made m_madeMany m_lacking m_thrown m_now m_ahead m_then m_time m_timeThen m_isThere m_comes x1 (x2 ||| (1 <<< (x5 &&& 31))) (x3 + 1) x4 zr7 hzr7) hH [0, 1, 2, 3, 4, 5, 6, 7, 8, 9, 10, 11, 12, 13, 14] [] [0, 1, 2, 3, 4, 5, 6, 7, 8, 9, 10, 11, 12, 13, 14] rfl rfl rfl rfl gX9_sendFrom_X9_sendFrom rfl ⟨rfl, rfl⟩ kX9_sendFrom ⟨Nat.le_of_ble_eq_true rfl, Nat.le_of_ble_eq_true rfl⟩ rfl rfl rfl rfl rfl hl.1 (Nat.le_of_ble_eq_true rfl) ⟨Nat.le_of_ble_eq_true rfl, Nat.le_of_ble_eq_true rfl⟩ dX9_sendFrom_84 (fun H locs hH => ?_)
    refine lv_iinc (pc := 87) (v := (x5 + 1)) (lv' := [(5, .int (x5 + 1)), (0, .ref (mq 0)), (1, .int x1), (2, .int x2), (3, .int x3), (4, .int x4)]) hx hb dX9_sendFrom_87 hl (k := 5) rfl (by rw [zk_c1]) (by decide) rfl (fun ls hl => ?_)
    refine lv_goto (pc := 90) (tgt := 37) hx hb dX9_sendFrom_90 rfl ?_
    exact ih (x5 + 1) zr7 rr h _ _ _ hH (lv_sub hl [1, 2, 3, 4, 5, 0] rfl) K0
set_option maxHeartbeats 4000000 in
set_option maxRecDepth 100000 in
theorem c_X9_sendFrom_d5 (l : Launch) (G : va_G) (cy : Nat → ClassId) (fu : Nat) (mq : Nat → Nat) (m_hosts : Int32) (m_lost : Nat → Int32) (m_late : Nat → Int32) (m_wait : Nat → Int32) (m_per : Nat → Int32) (m_blocks : Nat → Int32) (m_sends : Nat → Int32) (m_many : Int32) (m_made : Nat → Int32) (m_madeMany : Int32) (m_lacking : Int32) (m_thrown : Int32) (m_now : Nat → Int32) (m_ahead : Nat → Int32) (m_then : Nat → Int32) (m_time : Nat → Int32) (m_timeThen : Nat → Int32) (m_isThere : Nat → Int32) (m_comes : Nat → Int32) (x1 : Int32) (x2 : Int32) (x3 : Int32) (x4 : Int32) (rr : (Nat → Int32)) (h : f_X9_sendFrom_d5 fu m_lost m_wait m_comes x1 x2 x3 x4 = some rr) : zM l G cy yX9_sendFrom wsX9_sendFrom (zR 5 125) [.ref (mq 0), .int x1, .int x2, .int x3, .int x4] (wM cy mq m_hosts m_lost m_late m_wait m_per m_blocks m_sends m_many m_made m_madeMany m_lacking m_thrown m_now m_ahead m_then m_time m_timeThen m_isThere m_comes) (wM cy mq m_hosts m_lost m_late m_wait m_per m_blocks m_sends m_many m_made m_madeMany m_lacking m_thrown m_now m_ahead m_then m_time m_timeThen m_isThere rr) none := by
  refine zM.mk (cc := cX9_sendFrom) (nL := 6) (ret := none) (by decide) rfl (Nat.le_of_ble_eq_true rfl) ?_
  intro p e s m below meth c A ls X hr hH hl
  replace X : zX p s m [.ref (mq 0), .int x1, .int x2, .int x3, .int x4].toArray meth c RX9 cX9_sendFrom 6 wsX9_sendFrom G cy A := X
  have hx := X.1.1
  have hb := X.1.2.1
  replace hl : lv_has ls 6 [(0, .ref (mq 0)), (1, .int x1), (2, .int x2), (3, .int x3), (4, .int x4)] := hl
  dsimp only [f_X9_sendFrom_d5] at h
  refine lv_iload_n (pc := 0) hx hb dX9_sendFrom_0 rfl (lv_at hl 3 rfl) ?_
  refine lv_iload (pc := 1) hx hb dX9_sendFrom_1 (lv_at hl 4 rfl) ?_
  refine lv_icmp_ne (pc := 3) (tgt := 14) hx hb dX9_sendFrom_3 rfl (fun zc1 => ?_) (fun zc1 => ?_)
  · have h := zf zc1 h
    refine lv_aload_n (pc := 14) hx hb dX9_sendFrom_14 rfl (lv_at hl 0 rfl) ?_
    refine lv_iload_n (pc := 15) hx hb dX9_sendFrom_15 rfl (lv_at hl 1 rfl) ?_
    refine lv_iload_n (pc := 16) hx hb dX9_sendFrom_16 rfl (lv_at hl 2 rfl) ?_
    refine lv_iload_n (pc := 17) hx hb dX9_sendFrom_17 rfl (lv_at hl 3 rfl) ?_
    refine lv_iconst (v := 1) (pc := 18) hx hb dX9_sendFrom_18 zk_c1 ?_
    refine lv_iadd (pc := 19) hx hb dX9_sendFrom_19 ?_
    refine lv_iload (pc := 20) hx hb dX9_sendFrom_20 (lv_at hl 4 rfl) ?_
    obtain ⟨zr2, hzr2, h⟩ := zb h
    refine zcV (pc := 22) (As := [.int x1, .int x2, .int (x3 + 1), .int x4]) (rest := []) (st1 := []) (ws' := wM cy mq m_hosts m_lost m_late m_wait m_per m_blocks m_sends m_many m_made m_madeMany m_lacking m_thrown m_now m_ahead m_then m_time m_timeThen m_isThere zr2) (wr := []) (n := 4) (q0 := 0) X (c_X9_sendFrom_d4 l G cy fu mq m_hosts m_lost m_late m_wait m_per m_blocks m_sends m_many m_made m_madeMany m_lacking m_thrown m_now m_ahead m_then m_time m_timeThen m_isThere m_comes x1 x2 (x3 + 1) x4 zr2 hzr2) hH [0, 1, 2, 3, 4, 5, 6, 7, 8, 9, 10, 11, 12, 13, 14] [] [0, 1, 2, 3, 4, 5, 6, 7, 8, 9, 10, 11, 12, 13, 14] rfl rfl rfl rfl gX9_sendFrom_X9_sendFrom rfl ⟨rfl, rfl⟩ kX9_sendFrom ⟨Nat.le_of_ble_eq_true rfl, Nat.le_of_ble_eq_true rfl⟩ rfl rfl rfl rfl rfl hl.1 (Nat.le_of_ble_eq_true rfl) ⟨Nat.le_of_ble_eq_true rfl, Nat.le_of_ble_eq_true rfl⟩ dX9_sendFrom_22 (fun H locs hH => ?_)
    refine lv_iload_n (pc := 25) hx hb dX9_sendFrom_25 rfl (lv_at hl 1 rfl) ?_
    refine lv_iload_n (pc := 26) hx hb dX9_sendFrom_26 rfl (lv_at hl 3 rfl) ?_
    refine lv_ishr (pc := 27) hx hb dX9_sendFrom_27 ?_
    refine lv_iconst (v := 1) (pc := 28) hx hb dX9_sendFrom_28 zk_c1 ?_
    refine lv_iand (pc := 29) hx hb dX9_sendFrom_29 ?_
    refine lv_if_ne (pc := 30) (tgt := 34) hx hb dX9_sendFrom_30 rfl (fun zc3 => ?_) (fun zc3 => ?_)
    · have h := zf zc3 h
      refine lv_iconst (v := 0) (pc := 34) hx hb dX9_sendFrom_34 zk_c0 ?_
      refine lv_istore (pc := 35) (lv' := [(5, .int 0), (0, .ref (mq 0)), (1, .int x1), (2, .int x2), (3, .int x3), (4, .int x4)]) hx hb dX9_sendFrom_35 hl (by decide) rfl (fun ls hl => ?_)
      obtain ⟨zr4, hzr4, h⟩ := zb h
      refine w_X9_sendFrom_d5_l37 G cy fu mq m_hosts m_lost m_late m_wait m_per m_blocks m_sends m_many m_made m_madeMany m_lacking m_thrown m_now m_ahead m_then m_time m_timeThen m_isThere x1 x2 x3 x4 X fu 0 zr2 zr4 hzr4 _ _ _ hH (lv_sub hl [1, 2, 3, 4, 5, 0] rfl) (fun H locs ls hH hl => ?_)
      obtain rfl := Option.some.inj h
      exact z_vret X hr hH dX9_sendFrom_93
    have h := zt zc3 h
    obtain rfl := Option.some.inj h
    exact z_vret X hr hH dX9_sendFrom_33
  have h := zt zc1 h
  refine lv_aload_n (pc := 6) hx hb dX9_sendFrom_6 rfl (lv_at hl 0 rfl) ?_
  refine z_get (pc := 7) (v := .ref (mq 14)) X iX9_sendFrom_X9 hH 0 rfl rfl 18 rfl (List.mem_of_getElem? (i := 1) rfl) rfl dX9_sendFrom_7 ?_
  refine lv_iload_n (pc := 10) hx hb dX9_sendFrom_10 rfl (lv_at hl 2 rfl) ?_
  refine lv_iconst (v := 1) (pc := 11) hx hb dX9_sendFrom_11 zk_c1 ?_
  obtain ⟨hin, h⟩ := zg h
  refine z_zast (pc := 12) (ws' := wM cy mq m_hosts m_lost m_late m_wait m_per m_blocks m_sends m_many m_made m_madeMany m_lacking m_thrown m_now m_ahead m_then m_time m_timeThen m_isThere (upd m_comes (x2).toNatClampNeg (vp_nar .boolean 1))) X hH 14 rfl hin rfl dX9_sendFrom_12 (fun H locs hH => ?_)
  obtain rfl := Option.some.inj h
  exact z_vret X hr hH dX9_sendFrom_13
set_option maxHeartbeats 4000000 in
set_option maxRecDepth 100000 in
theorem w_X9_sendFrom_d6_l37 {p : Program} {l : Launch} {e : Env} {s : State} {m : MethodId} {args : Array Value} {below : List Frame} {meth : Method} {c : Code} {A : Nat → Prop} {Q : State → Prop} (G : va_G) (cy : Nat → ClassId) (fu : Nat) (mq : Nat → Nat) (m_hosts : Int32) (m_lost : Nat → Int32) (m_late : Nat → Int32) (m_wait : Nat → Int32) (m_per : Nat → Int32) (m_blocks : Nat → Int32) (m_sends : Nat → Int32) (m_many : Int32) (m_made : Nat → Int32) (m_madeMany : Int32) (m_lacking : Int32) (m_thrown : Int32) (m_now : Nat → Int32) (m_ahead : Nat → Int32) (m_then : Nat → Int32) (m_time : Nat → Int32) (m_timeThen : Nat → Int32) (m_isThere : Nat → Int32) (x1 : Int32) (x2 : Int32) (x3 : Int32) (x4 : Int32) (X : zX p s m args meth c RX9 cX9_sendFrom 6 wsX9_sendFrom G cy A) : ∀ (n : Nat) (x5 : Int32) (m_comes : Nat → Int32) (rr : (Nat → Int32)) (h : lp (f_X9_sendFrom_d6_l37 fu m_lost m_wait x1 x2 x3 x4) n (x5, m_comes) = some rr) (H : Heap) (locs : List Loc) (ls : Array Slot) (hH : zH G A s.heap (wM cy mq m_hosts m_lost m_late m_wait m_per m_blocks m_sends m_many m_made m_madeMany m_lacking m_thrown m_now m_ahead m_then m_time m_timeThen m_isThere m_comes) H locs) (hl : lv_has ls 6 [(0, .ref (mq 0)), (1, .int x1), (2, .int x2), (3, .int x3), (4, .int x4), (5, .int x5)]) (K0 : ∀ (H : Heap) (locs : List Loc) (ls : Array Slot), zH G A s.heap (wM cy mq m_hosts m_lost m_late m_wait m_per m_blocks m_sends m_many m_made m_madeMany m_lacking m_thrown m_now m_ahead m_then m_time m_timeThen m_isThere rr) H locs → lv_has ls 6 [] → W p l e (zR 6 150) s m args below meth c H locs 0 0 Q (F0 m 93 ls [])), W p l e (zR 6 150) s m args below meth c H locs 0 0 Q (F0 m 37 ls []) := by
  have hx := X.1.1
  have hb := X.1.2.1
  intro n
  induction n with
  | zero => intro x5 m_comes rr h H locs ls hH hl K0; cases h
  | succ n ih =>
    intro x5 m_comes rr h H locs ls hH hl K0
    replace h : f_X9_sendFrom_d6_l37 fu m_lost m_wait x1 x2 x3 x4 (lp (f_X9_sendFrom_d6_l37 fu m_lost m_wait x1 x2 x3 x4) n) (x5, m_comes) = some rr := h
    dsimp only [f_X9_sendFrom_d6_l37] at h
    refine lv_iload (pc := 37) hx hb dX9_sendFrom_37 (lv_at hl 5 rfl) ?_
    refine lv_iload (pc := 39) hx hb dX9_sendFrom_39 (lv_at hl 4 rfl) ?_
    refine lv_icmp_ge (pc := 41) (tgt := 93) hx hb dX9_sendFrom_41 rfl (fun zc1 => ?_) (fun zc1 => ?_)
    · have h := zt zc1 h
      obtain rfl := Option.some.inj h
      exact K0 _ _ _ hH (lv_sub hl [] rfl)
    have h := zf zc1 h
    refine lv_iload_n (pc := 44) hx hb dX9_sendFrom_44 rfl (lv_at hl 2 rfl) ?_
    refine lv_iload (pc := 45) hx hb dX9_sendFrom_45 (lv_at hl 5 rfl) ?_
    refine lv_ishr (pc := 47) hx hb dX9_sendFrom_47 ?_
    refine lv_iconst (v := 1) (pc := 48) hx hb dX9_sendFrom_48 zk_c1 ?_
    refine lv_iand (pc := 49) hx hb dX9_sendFrom_49 ?_
    refine lv_if_ne (pc := 50) (tgt := 87) hx hb dX9_sendFrom_50 rfl (fun zc2 => ?_) (fun zc2 => ?_)
    · have h := zf zc2 h
      refine lv_iinc (pc := 87) (v := (x5 + 1)) (lv' := [(5, .int (x5 + 1)), (0, .ref (mq 0)), (1, .int x1), (2, .int x2), (3, .int x3), (4, .int x4)]) hx hb dX9_sendFrom_87 hl (k := 5) rfl (by rw [zk_c1]) (by decide) rfl (fun ls hl => ?_)
      refine lv_goto (pc := 90) (tgt := 37) hx hb dX9_sendFrom_90 rfl ?_
      exact ih (x5 + 1) m_comes rr h _ _ _ hH (lv_sub hl [1, 2, 3, 4, 5, 0] rfl) K0
    have h := zt zc2 h
    refine lv_aload_n (pc := 53) hx hb dX9_sendFrom_53 rfl (lv_at hl 0 rfl) ?_
    refine lv_aload_n (pc := 54) hx hb dX9_sendFrom_54 rfl (lv_at hl 0 rfl) ?_
    refine lv_iload_n (pc := 55) hx hb dX9_sendFrom_55 rfl (lv_at hl 3 rfl) ?_
    obtain ⟨zr3, hzr3, h⟩ := zb h
    refine zcV (pc := 56) (As := [.int x3]) (rest := [.ref (mq 0)]) (st1 := [.int zr3, .ref (mq 0)]) (ws' := wM cy mq m_hosts m_lost m_late m_wait m_per m_blocks m_sends m_many m_made m_madeMany m_lacking m_thrown m_now m_ahead m_then m_time m_timeThen m_isThere m_comes) (wr := []) (n := 1) (q0 := 0) X (c_X9_hostOf l G cy fu mq m_hosts m_lost m_late m_wait m_per m_blocks m_sends m_many m_made m_madeMany m_lacking m_thrown m_now m_ahead m_then m_time m_timeThen m_isThere m_comes x3 zr3 hzr3) hH [0, 1, 2, 3, 4, 5, 6, 7, 8, 9, 10, 11, 12, 13, 14] [] [0, 1, 2, 3, 4, 5, 6, 7, 8, 9, 10, 11, 12, 13, 14] rfl rfl rfl rfl gX9_sendFrom_X9_hostOf rfl ⟨rfl, rfl⟩ kX9_hostOf ⟨Nat.le_of_ble_eq_true rfl, Nat.le_of_ble_eq_true rfl⟩ rfl rfl rfl rfl rfl hl.1 (Nat.le_of_ble_eq_true rfl) ⟨Nat.le_of_ble_eq_true rfl, Nat.le_of_ble_eq_true rfl⟩ dX9_sendFrom_56 (fun H locs hH => ?_)
    refine lv_aload_n (pc := 59) hx hb dX9_sendFrom_59 rfl (lv_at hl 0 rfl) ?_
    refine lv_iload (pc := 60) hx hb dX9_sendFrom_60 (lv_at hl 5 rfl) ?_
    obtain ⟨zr4, hzr4, h⟩ := zb h
    refine zcV (pc := 62) (As := [.int x5]) (rest := [.int zr3, .ref (mq 0)]) (st1 := [.int zr4, .int zr3, .ref (mq 0)]) (ws' := wM cy mq m_hosts m_lost m_late m_wait m_per m_blocks m_sends m_many m_made m_madeMany m_lacking m_thrown m_now m_ahead m_then m_time m_timeThen m_isThere m_comes) (wr := []) (n := 1) (q0 := 0) X (c_X9_hostOf l G cy fu mq m_hosts m_lost m_late m_wait m_per m_blocks m_sends m_many m_made m_madeMany m_lacking m_thrown m_now m_ahead m_then m_time m_timeThen m_isThere m_comes x5 zr4 hzr4) hH [0, 1, 2, 3, 4, 5, 6, 7, 8, 9, 10, 11, 12, 13, 14] [] [0, 1, 2, 3, 4, 5, 6, 7, 8, 9, 10, 11, 12, 13, 14] rfl rfl rfl rfl gX9_sendFrom_X9_hostOf rfl ⟨rfl, rfl⟩ kX9_hostOf ⟨Nat.le_of_ble_eq_true rfl, Nat.le_of_ble_eq_true rfl⟩ rfl rfl rfl rfl rfl hl.1 (Nat.le_of_ble_eq_true rfl) ⟨Nat.le_of_ble_eq_true rfl, Nat.le_of_ble_eq_true rfl⟩ dX9_sendFrom_62 (fun H locs hH => ?_)
    obtain ⟨zr5, hzr5, h⟩ := zb h
    refine zcV (pc := 65) (As := [.int zr3, .int zr4]) (rest := []) (st1 := [.int zr5]) (ws' := wM cy mq m_hosts m_lost m_late m_wait m_per m_blocks m_sends m_many m_made m_madeMany m_lacking m_thrown m_now m_ahead m_then m_time m_timeThen m_isThere m_comes) (wr := []) (n := 2) (q0 := 0) X (c_X9_areJoined l G cy fu mq m_hosts m_lost m_late m_wait m_per m_blocks m_sends m_many m_made m_madeMany m_lacking m_thrown m_now m_ahead m_then m_time m_timeThen m_isThere m_comes zr3 zr4 zr5 hzr5) hH [0, 1, 2, 3, 4, 5, 6, 7, 8, 9, 10, 11, 12, 13, 14] [] [0, 1, 2, 3, 4, 5, 6, 7, 8, 9, 10, 11, 12, 13, 14] rfl rfl rfl rfl gX9_sendFrom_X9_areJoined rfl ⟨rfl, rfl⟩ kX9_areJoined ⟨Nat.le_of_ble_eq_true rfl, Nat.le_of_ble_eq_true rfl⟩ rfl rfl rfl rfl rfl hl.1 (Nat.le_of_ble_eq_true rfl) ⟨Nat.le_of_ble_eq_true rfl, Nat.le_of_ble_eq_true rfl⟩ dX9_sendFrom_65 (fun H locs hH => ?_)
    refine lv_if_eq (pc := 68) (tgt := 87) hx hb dX9_sendFrom_68 rfl (fun zc6 => ?_) (fun zc6 => ?_)
    · have h := zt zc6 h
      refine lv_iinc (pc := 87) (v := (x5 + 1)) (lv' := [(5, .int (x5 + 1)), (0, .ref (mq 0)), (1, .int x1), (2, .int x2), (3, .int x3), (4, .int x4)]) hx hb dX9_sendFrom_87 hl (k := 5) rfl (by rw [zk_c1]) (by decide) rfl (fun ls hl => ?_)
      refine lv_goto (pc := 90) (tgt := 37) hx hb dX9_sendFrom_90 rfl ?_
      exact ih (x5 + 1) m_comes rr h _ _ _ hH (lv_sub hl [1, 2, 3, 4, 5, 0] rfl) K0
    have h := zf zc6 h
    refine lv_aload_n (pc := 71) hx hb dX9_sendFrom_71 rfl (lv_at hl 0 rfl) ?_
    refine lv_iload_n (pc := 72) hx hb dX9_sendFrom_72 rfl (lv_at hl 1 rfl) ?_
    refine lv_iload_n (pc := 73) hx hb dX9_sendFrom_73 rfl (lv_at hl 2 rfl) ?_
    refine lv_iconst (v := 1) (pc := 74) hx hb dX9_sendFrom_74 zk_c1 ?_
    refine lv_iload (pc := 75) hx hb dX9_sendFrom_75 (lv_at hl 5 rfl) ?_
    refine lv_ishl (pc := 77) hx hb dX9_sendFrom_77 ?_
    refine lv_ior (pc := 78) hx hb dX9_sendFrom_78 ?_
    refine lv_iload_n (pc := 79) hx hb dX9_sendFrom_79 rfl (lv_at hl 3 rfl) ?_
    refine lv_iconst (v := 1) (pc := 80) hx hb dX9_sendFrom_80 zk_c1 ?_
    refine lv_iadd (pc := 81) hx hb dX9_sendFrom_81 ?_
    refine lv_iload (pc := 82) hx hb dX9_sendFrom_82 (lv_at hl 4 rfl) ?_
    obtain ⟨zr7, hzr7, h⟩ := zb h
    refine zcV (pc := 84) (As := [.int x1, .int (x2 ||| (1 <<< (x5 &&& 31))), .int (x3 + 1), .int x4]) (rest := []) (st1 := []) (ws' := wM cy mq m_hosts m_lost m_late m_wait m_per m_blocks m_sends m_many m_made m_madeMany m_lacking m_thrown m_now m_ahead m_then m_time m_timeThen m_isThere zr7) (wr := []) (n := 4) (q0 := 0) X (c_X9_sendFrom_d5 l G cy fu mq m_hosts m_lost m_late m_wait m_per m_blocks m_sends m_many m_made m_madeMany m_lacking m_thrown m_now m_ahead m_then m_time m_timeThen m_isThere m_comes x1 (x2 ||| (1 <<< (x5 &&& 31))) (x3 + 1) x4 zr7 hzr7) hH [0, 1, 2, 3, 4, 5, 6, 7, 8, 9, 10, 11, 12, 13, 14] [] [0, 1, 2, 3, 4, 5, 6, 7, 8, 9, 10, 11, 12, 13, 14] rfl rfl rfl rfl gX9_sendFrom_X9_sendFrom rfl ⟨rfl, rfl⟩ kX9_sendFrom ⟨Nat.le_of_ble_eq_true rfl, Nat.le_of_ble_eq_true rfl⟩ rfl rfl rfl rfl rfl hl.1 (Nat.le_of_ble_eq_true rfl) ⟨Nat.le_of_ble_eq_true rfl, Nat.le_of_ble_eq_true rfl⟩ dX9_sendFrom_84 (fun H locs hH => ?_)
    refine lv_iinc (pc := 87) (v := (x5 + 1)) (lv' := [(5, .int (x5 + 1)), (0, .ref (mq 0)), (1, .int x1), (2, .int x2), (3, .int x3), (4, .int x4)]) hx hb dX9_sendFrom_87 hl (k := 5) rfl (by rw [zk_c1]) (by decide) rfl (fun ls hl => ?_)
    refine lv_goto (pc := 90) (tgt := 37) hx hb dX9_sendFrom_90 rfl ?_
    exact ih (x5 + 1) zr7 rr h _ _ _ hH (lv_sub hl [1, 2, 3, 4, 5, 0] rfl) K0
set_option maxHeartbeats 4000000 in
set_option maxRecDepth 100000 in
theorem c_X9_sendFrom_d6 (l : Launch) (G : va_G) (cy : Nat → ClassId) (fu : Nat) (mq : Nat → Nat) (m_hosts : Int32) (m_lost : Nat → Int32) (m_late : Nat → Int32) (m_wait : Nat → Int32) (m_per : Nat → Int32) (m_blocks : Nat → Int32) (m_sends : Nat → Int32) (m_many : Int32) (m_made : Nat → Int32) (m_madeMany : Int32) (m_lacking : Int32) (m_thrown : Int32) (m_now : Nat → Int32) (m_ahead : Nat → Int32) (m_then : Nat → Int32) (m_time : Nat → Int32) (m_timeThen : Nat → Int32) (m_isThere : Nat → Int32) (m_comes : Nat → Int32) (x1 : Int32) (x2 : Int32) (x3 : Int32) (x4 : Int32) (rr : (Nat → Int32)) (h : f_X9_sendFrom_d6 fu m_lost m_wait m_comes x1 x2 x3 x4 = some rr) : zM l G cy yX9_sendFrom wsX9_sendFrom (zR 6 150) [.ref (mq 0), .int x1, .int x2, .int x3, .int x4] (wM cy mq m_hosts m_lost m_late m_wait m_per m_blocks m_sends m_many m_made m_madeMany m_lacking m_thrown m_now m_ahead m_then m_time m_timeThen m_isThere m_comes) (wM cy mq m_hosts m_lost m_late m_wait m_per m_blocks m_sends m_many m_made m_madeMany m_lacking m_thrown m_now m_ahead m_then m_time m_timeThen m_isThere rr) none := by
  refine zM.mk (cc := cX9_sendFrom) (nL := 6) (ret := none) (by decide) rfl (Nat.le_of_ble_eq_true rfl) ?_
  intro p e s m below meth c A ls X hr hH hl
  replace X : zX p s m [.ref (mq 0), .int x1, .int x2, .int x3, .int x4].toArray meth c RX9 cX9_sendFrom 6 wsX9_sendFrom G cy A := X
  have hx := X.1.1
  have hb := X.1.2.1
  replace hl : lv_has ls 6 [(0, .ref (mq 0)), (1, .int x1), (2, .int x2), (3, .int x3), (4, .int x4)] := hl
  dsimp only [f_X9_sendFrom_d6] at h
  refine lv_iload_n (pc := 0) hx hb dX9_sendFrom_0 rfl (lv_at hl 3 rfl) ?_
  refine lv_iload (pc := 1) hx hb dX9_sendFrom_1 (lv_at hl 4 rfl) ?_
  refine lv_icmp_ne (pc := 3) (tgt := 14) hx hb dX9_sendFrom_3 rfl (fun zc1 => ?_) (fun zc1 => ?_)
  · have h := zf zc1 h
    refine lv_aload_n (pc := 14) hx hb dX9_sendFrom_14 rfl (lv_at hl 0 rfl) ?_
    refine lv_iload_n (pc := 15) hx hb dX9_sendFrom_15 rfl (lv_at hl 1 rfl) ?_
    refine lv_iload_n (pc := 16) hx hb dX9_sendFrom_16 rfl (lv_at hl 2 rfl) ?_
    refine lv_iload_n (pc := 17) hx hb dX9_sendFrom_17 rfl (lv_at hl 3 rfl) ?_
    refine lv_iconst (v := 1) (pc := 18) hx hb dX9_sendFrom_18 zk_c1 ?_
    refine lv_iadd (pc := 19) hx hb dX9_sendFrom_19 ?_
    refine lv_iload (pc := 20) hx hb dX9_sendFrom_20 (lv_at hl 4 rfl) ?_
    obtain ⟨zr2, hzr2, h⟩ := zb h
    refine zcV (pc := 22) (As := [.int x1, .int x2, .int (x3 + 1), .int x4]) (rest := []) (st1 := []) (ws' := wM cy mq m_hosts m_lost m_late m_wait m_per m_blocks m_sends m_many m_made m_madeMany m_lacking m_thrown m_now m_ahead m_then m_time m_timeThen m_isThere zr2) (wr := []) (n := 4) (q0 := 0) X (c_X9_sendFrom_d5 l G cy fu mq m_hosts m_lost m_late m_wait m_per m_blocks m_sends m_many m_made m_madeMany m_lacking m_thrown m_now m_ahead m_then m_time m_timeThen m_isThere m_comes x1 x2 (x3 + 1) x4 zr2 hzr2) hH [0, 1, 2, 3, 4, 5, 6, 7, 8, 9, 10, 11, 12, 13, 14] [] [0, 1, 2, 3, 4, 5, 6, 7, 8, 9, 10, 11, 12, 13, 14] rfl rfl rfl rfl gX9_sendFrom_X9_sendFrom rfl ⟨rfl, rfl⟩ kX9_sendFrom ⟨Nat.le_of_ble_eq_true rfl, Nat.le_of_ble_eq_true rfl⟩ rfl rfl rfl rfl rfl hl.1 (Nat.le_of_ble_eq_true rfl) ⟨Nat.le_of_ble_eq_true rfl, Nat.le_of_ble_eq_true rfl⟩ dX9_sendFrom_22 (fun H locs hH => ?_)
    refine lv_iload_n (pc := 25) hx hb dX9_sendFrom_25 rfl (lv_at hl 1 rfl) ?_
    refine lv_iload_n (pc := 26) hx hb dX9_sendFrom_26 rfl (lv_at hl 3 rfl) ?_
    refine lv_ishr (pc := 27) hx hb dX9_sendFrom_27 ?_
    refine lv_iconst (v := 1) (pc := 28) hx hb dX9_sendFrom_28 zk_c1 ?_
    refine lv_iand (pc := 29) hx hb dX9_sendFrom_29 ?_
    refine lv_if_ne (pc := 30) (tgt := 34) hx hb dX9_sendFrom_30 rfl (fun zc3 => ?_) (fun zc3 => ?_)
    · have h := zf zc3 h
      refine lv_iconst (v := 0) (pc := 34) hx hb dX9_sendFrom_34 zk_c0 ?_
      refine lv_istore (pc := 35) (lv' := [(5, .int 0), (0, .ref (mq 0)), (1, .int x1), (2, .int x2), (3, .int x3), (4, .int x4)]) hx hb dX9_sendFrom_35 hl (by decide) rfl (fun ls hl => ?_)
      obtain ⟨zr4, hzr4, h⟩ := zb h
      refine w_X9_sendFrom_d6_l37 G cy fu mq m_hosts m_lost m_late m_wait m_per m_blocks m_sends m_many m_made m_madeMany m_lacking m_thrown m_now m_ahead m_then m_time m_timeThen m_isThere x1 x2 x3 x4 X fu 0 zr2 zr4 hzr4 _ _ _ hH (lv_sub hl [1, 2, 3, 4, 5, 0] rfl) (fun H locs ls hH hl => ?_)
      obtain rfl := Option.some.inj h
      exact z_vret X hr hH dX9_sendFrom_93
    have h := zt zc3 h
    obtain rfl := Option.some.inj h
    exact z_vret X hr hH dX9_sendFrom_33
  have h := zt zc1 h
  refine lv_aload_n (pc := 6) hx hb dX9_sendFrom_6 rfl (lv_at hl 0 rfl) ?_
  refine z_get (pc := 7) (v := .ref (mq 14)) X iX9_sendFrom_X9 hH 0 rfl rfl 18 rfl (List.mem_of_getElem? (i := 1) rfl) rfl dX9_sendFrom_7 ?_
  refine lv_iload_n (pc := 10) hx hb dX9_sendFrom_10 rfl (lv_at hl 2 rfl) ?_
  refine lv_iconst (v := 1) (pc := 11) hx hb dX9_sendFrom_11 zk_c1 ?_
  obtain ⟨hin, h⟩ := zg h
  refine z_zast (pc := 12) (ws' := wM cy mq m_hosts m_lost m_late m_wait m_per m_blocks m_sends m_many m_made m_madeMany m_lacking m_thrown m_now m_ahead m_then m_time m_timeThen m_isThere (upd m_comes (x2).toNatClampNeg (vp_nar .boolean 1))) X hH 14 rfl hin rfl dX9_sendFrom_12 (fun H locs hH => ?_)
  obtain rfl := Option.some.inj h
  exact z_vret X hr hH dX9_sendFrom_13
set_option maxHeartbeats 4000000 in
set_option maxRecDepth 100000 in
theorem w_X9_sendFrom_d7_l37 {p : Program} {l : Launch} {e : Env} {s : State} {m : MethodId} {args : Array Value} {below : List Frame} {meth : Method} {c : Code} {A : Nat → Prop} {Q : State → Prop} (G : va_G) (cy : Nat → ClassId) (fu : Nat) (mq : Nat → Nat) (m_hosts : Int32) (m_lost : Nat → Int32) (m_late : Nat → Int32) (m_wait : Nat → Int32) (m_per : Nat → Int32) (m_blocks : Nat → Int32) (m_sends : Nat → Int32) (m_many : Int32) (m_made : Nat → Int32) (m_madeMany : Int32) (m_lacking : Int32) (m_thrown : Int32) (m_now : Nat → Int32) (m_ahead : Nat → Int32) (m_then : Nat → Int32) (m_time : Nat → Int32) (m_timeThen : Nat → Int32) (m_isThere : Nat → Int32) (x1 : Int32) (x2 : Int32) (x3 : Int32) (x4 : Int32) (X : zX p s m args meth c RX9 cX9_sendFrom 6 wsX9_sendFrom G cy A) : ∀ (n : Nat) (x5 : Int32) (m_comes : Nat → Int32) (rr : (Nat → Int32)) (h : lp (f_X9_sendFrom_d7_l37 fu m_lost m_wait x1 x2 x3 x4) n (x5, m_comes) = some rr) (H : Heap) (locs : List Loc) (ls : Array Slot) (hH : zH G A s.heap (wM cy mq m_hosts m_lost m_late m_wait m_per m_blocks m_sends m_many m_made m_madeMany m_lacking m_thrown m_now m_ahead m_then m_time m_timeThen m_isThere m_comes) H locs) (hl : lv_has ls 6 [(0, .ref (mq 0)), (1, .int x1), (2, .int x2), (3, .int x3), (4, .int x4), (5, .int x5)]) (K0 : ∀ (H : Heap) (locs : List Loc) (ls : Array Slot), zH G A s.heap (wM cy mq m_hosts m_lost m_late m_wait m_per m_blocks m_sends m_many m_made m_madeMany m_lacking m_thrown m_now m_ahead m_then m_time m_timeThen m_isThere rr) H locs → lv_has ls 6 [] → W p l e (zR 7 175) s m args below meth c H locs 0 0 Q (F0 m 93 ls [])), W p l e (zR 7 175) s m args below meth c H locs 0 0 Q (F0 m 37 ls []) := by
  have hx := X.1.1
  have hb := X.1.2.1
  intro n
  induction n with
  | zero => intro x5 m_comes rr h H locs ls hH hl K0; cases h
  | succ n ih =>
    intro x5 m_comes rr h H locs ls hH hl K0
    replace h : f_X9_sendFrom_d7_l37 fu m_lost m_wait x1 x2 x3 x4 (lp (f_X9_sendFrom_d7_l37 fu m_lost m_wait x1 x2 x3 x4) n) (x5, m_comes) = some rr := h
    dsimp only [f_X9_sendFrom_d7_l37] at h
    refine lv_iload (pc := 37) hx hb dX9_sendFrom_37 (lv_at hl 5 rfl) ?_
    refine lv_iload (pc := 39) hx hb dX9_sendFrom_39 (lv_at hl 4 rfl) ?_
    refine lv_icmp_ge (pc := 41) (tgt := 93) hx hb dX9_sendFrom_41 rfl (fun zc1 => ?_) (fun zc1 => ?_)
    · have h := zt zc1 h
      obtain rfl := Option.some.inj h
      exact K0 _ _ _ hH (lv_sub hl [] rfl)
    have h := zf zc1 h
    refine lv_iload_n (pc := 44) hx hb dX9_sendFrom_44 rfl (lv_at hl 2 rfl) ?_
    refine lv_iload (pc := 45) hx hb dX9_sendFrom_45 (lv_at hl 5 rfl) ?_
    refine lv_ishr (pc := 47) hx hb dX9_sendFrom_47 ?_
    refine lv_iconst (v := 1) (pc := 48) hx hb dX9_sendFrom_48 zk_c1 ?_
    refine lv_iand (pc := 49) hx hb dX9_sendFrom_49 ?_
    refine lv_if_ne (pc := 50) (tgt := 87) hx hb dX9_sendFrom_50 rfl (fun zc2 => ?_) (fun zc2 => ?_)
    · have h := zf zc2 h
      refine lv_iinc (pc := 87) (v := (x5 + 1)) (lv' := [(5, .int (x5 + 1)), (0, .ref (mq 0)), (1, .int x1), (2, .int x2), (3, .int x3), (4, .int x4)]) hx hb dX9_sendFrom_87 hl (k := 5) rfl (by rw [zk_c1]) (by decide) rfl (fun ls hl => ?_)
      refine lv_goto (pc := 90) (tgt := 37) hx hb dX9_sendFrom_90 rfl ?_
      exact ih (x5 + 1) m_comes rr h _ _ _ hH (lv_sub hl [1, 2, 3, 4, 5, 0] rfl) K0
    have h := zt zc2 h
    refine lv_aload_n (pc := 53) hx hb dX9_sendFrom_53 rfl (lv_at hl 0 rfl) ?_
    refine lv_aload_n (pc := 54) hx hb dX9_sendFrom_54 rfl (lv_at hl 0 rfl) ?_
    refine lv_iload_n (pc := 55) hx hb dX9_sendFrom_55 rfl (lv_at hl 3 rfl) ?_
    obtain ⟨zr3, hzr3, h⟩ := zb h
    refine zcV (pc := 56) (As := [.int x3]) (rest := [.ref (mq 0)]) (st1 := [.int zr3, .ref (mq 0)]) (ws' := wM cy mq m_hosts m_lost m_late m_wait m_per m_blocks m_sends m_many m_made m_madeMany m_lacking m_thrown m_now m_ahead m_then m_time m_timeThen m_isThere m_comes) (wr := []) (n := 1) (q0 := 0) X (c_X9_hostOf l G cy fu mq m_hosts m_lost m_late m_wait m_per m_blocks m_sends m_many m_made m_madeMany m_lacking m_thrown m_now m_ahead m_then m_time m_timeThen m_isThere m_comes x3 zr3 hzr3) hH [0, 1, 2, 3, 4, 5, 6, 7, 8, 9, 10, 11, 12, 13, 14] [] [0, 1, 2, 3, 4, 5, 6, 7, 8, 9, 10, 11, 12, 13, 14] rfl rfl rfl rfl gX9_sendFrom_X9_hostOf rfl ⟨rfl, rfl⟩ kX9_hostOf ⟨Nat.le_of_ble_eq_true rfl, Nat.le_of_ble_eq_true rfl⟩ rfl rfl rfl rfl rfl hl.1 (Nat.le_of_ble_eq_true rfl) ⟨Nat.le_of_ble_eq_true rfl, Nat.le_of_ble_eq_true rfl⟩ dX9_sendFrom_56 (fun H locs hH => ?_)
    refine lv_aload_n (pc := 59) hx hb dX9_sendFrom_59 rfl (lv_at hl 0 rfl) ?_
    refine lv_iload (pc := 60) hx hb dX9_sendFrom_60 (lv_at hl 5 rfl) ?_
    obtain ⟨zr4, hzr4, h⟩ := zb h
    refine zcV (pc := 62) (As := [.int x5]) (rest := [.int zr3, .ref (mq 0)]) (st1 := [.int zr4, .int zr3, .ref (mq 0)]) (ws' := wM cy mq m_hosts m_lost m_late m_wait m_per m_blocks m_sends m_many m_made m_madeMany m_lacking m_thrown m_now m_ahead m_then m_time m_timeThen m_isThere m_comes) (wr := []) (n := 1) (q0 := 0) X (c_X9_hostOf l G cy fu mq m_hosts m_lost m_late m_wait m_per m_blocks m_sends m_many m_made m_madeMany m_lacking m_thrown m_now m_ahead m_then m_time m_timeThen m_isThere m_comes x5 zr4 hzr4) hH [0, 1, 2, 3, 4, 5, 6, 7, 8, 9, 10, 11, 12, 13, 14] [] [0, 1, 2, 3, 4, 5, 6, 7, 8, 9, 10, 11, 12, 13, 14] rfl rfl rfl rfl gX9_sendFrom_X9_hostOf rfl ⟨rfl, rfl⟩ kX9_hostOf ⟨Nat.le_of_ble_eq_true rfl, Nat.le_of_ble_eq_true rfl⟩ rfl rfl rfl rfl rfl hl.1 (Nat.le_of_ble_eq_true rfl) ⟨Nat.le_of_ble_eq_true rfl, Nat.le_of_ble_eq_true rfl⟩ dX9_sendFrom_62 (fun H locs hH => ?_)
    obtain ⟨zr5, hzr5, h⟩ := zb h
    refine zcV (pc := 65) (As := [.int zr3, .int zr4]) (rest := []) (st1 := [.int zr5]) (ws' := wM cy mq m_hosts m_lost m_late m_wait m_per m_blocks m_sends m_many m_made m_madeMany m_lacking m_thrown m_now m_ahead m_then m_time m_timeThen m_isThere m_comes) (wr := []) (n := 2) (q0 := 0) X (c_X9_areJoined l G cy fu mq m_hosts m_lost m_late m_wait m_per m_blocks m_sends m_many m_made m_madeMany m_lacking m_thrown m_now m_ahead m_then m_time m_timeThen m_isThere m_comes zr3 zr4 zr5 hzr5) hH [0, 1, 2, 3, 4, 5, 6, 7, 8, 9, 10, 11, 12, 13, 14] [] [0, 1, 2, 3, 4, 5, 6, 7, 8, 9, 10, 11, 12, 13, 14] rfl rfl rfl rfl gX9_sendFrom_X9_areJoined rfl ⟨rfl, rfl⟩ kX9_areJoined ⟨Nat.le_of_ble_eq_true rfl, Nat.le_of_ble_eq_true rfl⟩ rfl rfl rfl rfl rfl hl.1 (Nat.le_of_ble_eq_true rfl) ⟨Nat.le_of_ble_eq_true rfl, Nat.le_of_ble_eq_true rfl⟩ dX9_sendFrom_65 (fun H locs hH => ?_)
    refine lv_if_eq (pc := 68) (tgt := 87) hx hb dX9_sendFrom_68 rfl (fun zc6 => ?_) (fun zc6 => ?_)
    · have h := zt zc6 h
      refine lv_iinc (pc := 87) (v := (x5 + 1)) (lv' := [(5, .int (x5 + 1)), (0, .ref (mq 0)), (1, .int x1), (2, .int x2), (3, .int x3), (4, .int x4)]) hx hb dX9_sendFrom_87 hl (k := 5) rfl (by rw [zk_c1]) (by decide) rfl (fun ls hl => ?_)
      refine lv_goto (pc := 90) (tgt := 37) hx hb dX9_sendFrom_90 rfl ?_
      exact ih (x5 + 1) m_comes rr h _ _ _ hH (lv_sub hl [1, 2, 3, 4, 5, 0] rfl) K0
    have h := zf zc6 h
    refine lv_aload_n (pc := 71) hx hb dX9_sendFrom_71 rfl (lv_at hl 0 rfl) ?_
    refine lv_iload_n (pc := 72) hx hb dX9_sendFrom_72 rfl (lv_at hl 1 rfl) ?_
    refine lv_iload_n (pc := 73) hx hb dX9_sendFrom_73 rfl (lv_at hl 2 rfl) ?_
    refine lv_iconst (v := 1) (pc := 74) hx hb dX9_sendFrom_74 zk_c1 ?_
    refine lv_iload (pc := 75) hx hb dX9_sendFrom_75 (lv_at hl 5 rfl) ?_
    refine lv_ishl (pc := 77) hx hb dX9_sendFrom_77 ?_
    refine lv_ior (pc := 78) hx hb dX9_sendFrom_78 ?_
    refine lv_iload_n (pc := 79) hx hb dX9_sendFrom_79 rfl (lv_at hl 3 rfl) ?_
    refine lv_iconst (v := 1) (pc := 80) hx hb dX9_sendFrom_80 zk_c1 ?_
    refine lv_iadd (pc := 81) hx hb dX9_sendFrom_81 ?_
    refine lv_iload (pc := 82) hx hb dX9_sendFrom_82 (lv_at hl 4 rfl) ?_
    obtain ⟨zr7, hzr7, h⟩ := zb h
    refine zcV (pc := 84) (As := [.int x1, .int (x2 ||| (1 <<< (x5 &&& 31))), .int (x3 + 1), .int x4]) (rest := []) (st1 := []) (ws' := wM cy mq m_hosts m_lost m_late m_wait m_per m_blocks m_sends m_many m_made m_madeMany m_lacking m_thrown m_now m_ahead m_then m_time m_timeThen m_isThere zr7) (wr := []) (n := 4) (q0 := 0) X (c_X9_sendFrom_d6 l G cy fu mq m_hosts m_lost m_late m_wait m_per m_blocks m_sends m_many m_made m_madeMany m_lacking m_thrown m_now m_ahead m_then m_time m_timeThen m_isThere m_comes x1 (x2 ||| (1 <<< (x5 &&& 31))) (x3 + 1) x4 zr7 hzr7) hH [0, 1, 2, 3, 4, 5, 6, 7, 8, 9, 10, 11, 12, 13, 14] [] [0, 1, 2, 3, 4, 5, 6, 7, 8, 9, 10, 11, 12, 13, 14] rfl rfl rfl rfl gX9_sendFrom_X9_sendFrom rfl ⟨rfl, rfl⟩ kX9_sendFrom ⟨Nat.le_of_ble_eq_true rfl, Nat.le_of_ble_eq_true rfl⟩ rfl rfl rfl rfl rfl hl.1 (Nat.le_of_ble_eq_true rfl) ⟨Nat.le_of_ble_eq_true rfl, Nat.le_of_ble_eq_true rfl⟩ dX9_sendFrom_84 (fun H locs hH => ?_)
    refine lv_iinc (pc := 87) (v := (x5 + 1)) (lv' := [(5, .int (x5 + 1)), (0, .ref (mq 0)), (1, .int x1), (2, .int x2), (3, .int x3), (4, .int x4)]) hx hb dX9_sendFrom_87 hl (k := 5) rfl (by rw [zk_c1]) (by decide) rfl (fun ls hl => ?_)
    refine lv_goto (pc := 90) (tgt := 37) hx hb dX9_sendFrom_90 rfl ?_
    exact ih (x5 + 1) zr7 rr h _ _ _ hH (lv_sub hl [1, 2, 3, 4, 5, 0] rfl) K0
set_option maxHeartbeats 4000000 in
set_option maxRecDepth 100000 in
theorem c_X9_sendFrom_d7 (l : Launch) (G : va_G) (cy : Nat → ClassId) (fu : Nat) (mq : Nat → Nat) (m_hosts : Int32) (m_lost : Nat → Int32) (m_late : Nat → Int32) (m_wait : Nat → Int32) (m_per : Nat → Int32) (m_blocks : Nat → Int32) (m_sends : Nat → Int32) (m_many : Int32) (m_made : Nat → Int32) (m_madeMany : Int32) (m_lacking : Int32) (m_thrown : Int32) (m_now : Nat → Int32) (m_ahead : Nat → Int32) (m_then : Nat → Int32) (m_time : Nat → Int32) (m_timeThen : Nat → Int32) (m_isThere : Nat → Int32) (m_comes : Nat → Int32) (x1 : Int32) (x2 : Int32) (x3 : Int32) (x4 : Int32) (rr : (Nat → Int32)) (h : f_X9_sendFrom_d7 fu m_lost m_wait m_comes x1 x2 x3 x4 = some rr) : zM l G cy yX9_sendFrom wsX9_sendFrom (zR 7 175) [.ref (mq 0), .int x1, .int x2, .int x3, .int x4] (wM cy mq m_hosts m_lost m_late m_wait m_per m_blocks m_sends m_many m_made m_madeMany m_lacking m_thrown m_now m_ahead m_then m_time m_timeThen m_isThere m_comes) (wM cy mq m_hosts m_lost m_late m_wait m_per m_blocks m_sends m_many m_made m_madeMany m_lacking m_thrown m_now m_ahead m_then m_time m_timeThen m_isThere rr) none := by
  refine zM.mk (cc := cX9_sendFrom) (nL := 6) (ret := none) (by decide) rfl (Nat.le_of_ble_eq_true rfl) ?_
  intro p e s m below meth c A ls X hr hH hl
  replace X : zX p s m [.ref (mq 0), .int x1, .int x2, .int x3, .int x4].toArray meth c RX9 cX9_sendFrom 6 wsX9_sendFrom G cy A := X
  have hx := X.1.1
  have hb := X.1.2.1
  replace hl : lv_has ls 6 [(0, .ref (mq 0)), (1, .int x1), (2, .int x2), (3, .int x3), (4, .int x4)] := hl
  dsimp only [f_X9_sendFrom_d7] at h
  refine lv_iload_n (pc := 0) hx hb dX9_sendFrom_0 rfl (lv_at hl 3 rfl) ?_
  refine lv_iload (pc := 1) hx hb dX9_sendFrom_1 (lv_at hl 4 rfl) ?_
  refine lv_icmp_ne (pc := 3) (tgt := 14) hx hb dX9_sendFrom_3 rfl (fun zc1 => ?_) (fun zc1 => ?_)
  · have h := zf zc1 h
    refine lv_aload_n (pc := 14) hx hb dX9_sendFrom_14 rfl (lv_at hl 0 rfl) ?_
    refine lv_iload_n (pc := 15) hx hb dX9_sendFrom_15 rfl (lv_at hl 1 rfl) ?_
    refine lv_iload_n (pc := 16) hx hb dX9_sendFrom_16 rfl (lv_at hl 2 rfl) ?_
    refine lv_iload_n (pc := 17) hx hb dX9_sendFrom_17 rfl (lv_at hl 3 rfl) ?_
    refine lv_iconst (v := 1) (pc := 18) hx hb dX9_sendFrom_18 zk_c1 ?_
    refine lv_iadd (pc := 19) hx hb dX9_sendFrom_19 ?_
    refine lv_iload (pc := 20) hx hb dX9_sendFrom_20 (lv_at hl 4 rfl) ?_
    obtain ⟨zr2, hzr2, h⟩ := zb h
    refine zcV (pc := 22) (As := [.int x1, .int x2, .int (x3 + 1), .int x4]) (rest := []) (st1 := []) (ws' := wM cy mq m_hosts m_lost m_late m_wait m_per m_blocks m_sends m_many m_made m_madeMany m_lacking m_thrown m_now m_ahead m_then m_time m_timeThen m_isThere zr2) (wr := []) (n := 4) (q0 := 0) X (c_X9_sendFrom_d6 l G cy fu mq m_hosts m_lost m_late m_wait m_per m_blocks m_sends m_many m_made m_madeMany m_lacking m_thrown m_now m_ahead m_then m_time m_timeThen m_isThere m_comes x1 x2 (x3 + 1) x4 zr2 hzr2) hH [0, 1, 2, 3, 4, 5, 6, 7, 8, 9, 10, 11, 12, 13, 14] [] [0, 1, 2, 3, 4, 5, 6, 7, 8, 9, 10, 11, 12, 13, 14] rfl rfl rfl rfl gX9_sendFrom_X9_sendFrom rfl ⟨rfl, rfl⟩ kX9_sendFrom ⟨Nat.le_of_ble_eq_true rfl, Nat.le_of_ble_eq_true rfl⟩ rfl rfl rfl rfl rfl hl.1 (Nat.le_of_ble_eq_true rfl) ⟨Nat.le_of_ble_eq_true rfl, Nat.le_of_ble_eq_true rfl⟩ dX9_sendFrom_22 (fun H locs hH => ?_)
    refine lv_iload_n (pc := 25) hx hb dX9_sendFrom_25 rfl (lv_at hl 1 rfl) ?_
    refine lv_iload_n (pc := 26) hx hb dX9_sendFrom_26 rfl (lv_at hl 3 rfl) ?_
    refine lv_ishr (pc := 27) hx hb dX9_sendFrom_27 ?_
    refine lv_iconst (v := 1) (pc := 28) hx hb dX9_sendFrom_28 zk_c1 ?_
    refine lv_iand (pc := 29) hx hb dX9_sendFrom_29 ?_
    refine lv_if_ne (pc := 30) (tgt := 34) hx hb dX9_sendFrom_30 rfl (fun zc3 => ?_) (fun zc3 => ?_)
    · have h := zf zc3 h
      refine lv_iconst (v := 0) (pc := 34) hx hb dX9_sendFrom_34 zk_c0 ?_
      refine lv_istore (pc := 35) (lv' := [(5, .int 0), (0, .ref (mq 0)), (1, .int x1), (2, .int x2), (3, .int x3), (4, .int x4)]) hx hb dX9_sendFrom_35 hl (by decide) rfl (fun ls hl => ?_)
      obtain ⟨zr4, hzr4, h⟩ := zb h
      refine w_X9_sendFrom_d7_l37 G cy fu mq m_hosts m_lost m_late m_wait m_per m_blocks m_sends m_many m_made m_madeMany m_lacking m_thrown m_now m_ahead m_then m_time m_timeThen m_isThere x1 x2 x3 x4 X fu 0 zr2 zr4 hzr4 _ _ _ hH (lv_sub hl [1, 2, 3, 4, 5, 0] rfl) (fun H locs ls hH hl => ?_)
      obtain rfl := Option.some.inj h
      exact z_vret X hr hH dX9_sendFrom_93
    have h := zt zc3 h
    obtain rfl := Option.some.inj h
    exact z_vret X hr hH dX9_sendFrom_33
  have h := zt zc1 h
  refine lv_aload_n (pc := 6) hx hb dX9_sendFrom_6 rfl (lv_at hl 0 rfl) ?_
  refine z_get (pc := 7) (v := .ref (mq 14)) X iX9_sendFrom_X9 hH 0 rfl rfl 18 rfl (List.mem_of_getElem? (i := 1) rfl) rfl dX9_sendFrom_7 ?_
  refine lv_iload_n (pc := 10) hx hb dX9_sendFrom_10 rfl (lv_at hl 2 rfl) ?_
  refine lv_iconst (v := 1) (pc := 11) hx hb dX9_sendFrom_11 zk_c1 ?_
  obtain ⟨hin, h⟩ := zg h
  refine z_zast (pc := 12) (ws' := wM cy mq m_hosts m_lost m_late m_wait m_per m_blocks m_sends m_many m_made m_madeMany m_lacking m_thrown m_now m_ahead m_then m_time m_timeThen m_isThere (upd m_comes (x2).toNatClampNeg (vp_nar .boolean 1))) X hH 14 rfl hin rfl dX9_sendFrom_12 (fun H locs hH => ?_)
  obtain rfl := Option.some.inj h
  exact z_vret X hr hH dX9_sendFrom_13
set_option maxHeartbeats 4000000 in
set_option maxRecDepth 100000 in
theorem w_X9_sendFrom_d8_l37 {p : Program} {l : Launch} {e : Env} {s : State} {m : MethodId} {args : Array Value} {below : List Frame} {meth : Method} {c : Code} {A : Nat → Prop} {Q : State → Prop} (G : va_G) (cy : Nat → ClassId) (fu : Nat) (mq : Nat → Nat) (m_hosts : Int32) (m_lost : Nat → Int32) (m_late : Nat → Int32) (m_wait : Nat → Int32) (m_per : Nat → Int32) (m_blocks : Nat → Int32) (m_sends : Nat → Int32) (m_many : Int32) (m_made : Nat → Int32) (m_madeMany : Int32) (m_lacking : Int32) (m_thrown : Int32) (m_now : Nat → Int32) (m_ahead : Nat → Int32) (m_then : Nat → Int32) (m_time : Nat → Int32) (m_timeThen : Nat → Int32) (m_isThere : Nat → Int32) (x1 : Int32) (x2 : Int32) (x3 : Int32) (x4 : Int32) (X : zX p s m args meth c RX9 cX9_sendFrom 6 wsX9_sendFrom G cy A) : ∀ (n : Nat) (x5 : Int32) (m_comes : Nat → Int32) (rr : (Nat → Int32)) (h : lp (f_X9_sendFrom_d8_l37 fu m_lost m_wait x1 x2 x3 x4) n (x5, m_comes) = some rr) (H : Heap) (locs : List Loc) (ls : Array Slot) (hH : zH G A s.heap (wM cy mq m_hosts m_lost m_late m_wait m_per m_blocks m_sends m_many m_made m_madeMany m_lacking m_thrown m_now m_ahead m_then m_time m_timeThen m_isThere m_comes) H locs) (hl : lv_has ls 6 [(0, .ref (mq 0)), (1, .int x1), (2, .int x2), (3, .int x3), (4, .int x4), (5, .int x5)]) (K0 : ∀ (H : Heap) (locs : List Loc) (ls : Array Slot), zH G A s.heap (wM cy mq m_hosts m_lost m_late m_wait m_per m_blocks m_sends m_many m_made m_madeMany m_lacking m_thrown m_now m_ahead m_then m_time m_timeThen m_isThere rr) H locs → lv_has ls 6 [] → W p l e (zR 8 200) s m args below meth c H locs 0 0 Q (F0 m 93 ls [])), W p l e (zR 8 200) s m args below meth c H locs 0 0 Q (F0 m 37 ls []) := by
  have hx := X.1.1
  have hb := X.1.2.1
  intro n
  induction n with
  | zero => intro x5 m_comes rr h H locs ls hH hl K0; cases h
  | succ n ih =>
    intro x5 m_comes rr h H locs ls hH hl K0
    replace h : f_X9_sendFrom_d8_l37 fu m_lost m_wait x1 x2 x3 x4 (lp (f_X9_sendFrom_d8_l37 fu m_lost m_wait x1 x2 x3 x4) n) (x5, m_comes) = some rr := h
    dsimp only [f_X9_sendFrom_d8_l37] at h
    refine lv_iload (pc := 37) hx hb dX9_sendFrom_37 (lv_at hl 5 rfl) ?_
    refine lv_iload (pc := 39) hx hb dX9_sendFrom_39 (lv_at hl 4 rfl) ?_
    refine lv_icmp_ge (pc := 41) (tgt := 93) hx hb dX9_sendFrom_41 rfl (fun zc1 => ?_) (fun zc1 => ?_)
    · have h := zt zc1 h
      obtain rfl := Option.some.inj h
      exact K0 _ _ _ hH (lv_sub hl [] rfl)
    have h := zf zc1 h
    refine lv_iload_n (pc := 44) hx hb dX9_sendFrom_44 rfl (lv_at hl 2 rfl) ?_
    refine lv_iload (pc := 45) hx hb dX9_sendFrom_45 (lv_at hl 5 rfl) ?_
    refine lv_ishr (pc := 47) hx hb dX9_sendFrom_47 ?_
    refine lv_iconst (v := 1) (pc := 48) hx hb dX9_sendFrom_48 zk_c1 ?_
    refine lv_iand (pc := 49) hx hb dX9_sendFrom_49 ?_
    refine lv_if_ne (pc := 50) (tgt := 87) hx hb dX9_sendFrom_50 rfl (fun zc2 => ?_) (fun zc2 => ?_)
    · have h := zf zc2 h
      refine lv_iinc (pc := 87) (v := (x5 + 1)) (lv' := [(5, .int (x5 + 1)), (0, .ref (mq 0)), (1, .int x1), (2, .int x2), (3, .int x3), (4, .int x4)]) hx hb dX9_sendFrom_87 hl (k := 5) rfl (by rw [zk_c1]) (by decide) rfl (fun ls hl => ?_)
      refine lv_goto (pc := 90) (tgt := 37) hx hb dX9_sendFrom_90 rfl ?_
      exact ih (x5 + 1) m_comes rr h _ _ _ hH (lv_sub hl [1, 2, 3, 4, 5, 0] rfl) K0
    have h := zt zc2 h
    refine lv_aload_n (pc := 53) hx hb dX9_sendFrom_53 rfl (lv_at hl 0 rfl) ?_
    refine lv_aload_n (pc := 54) hx hb dX9_sendFrom_54 rfl (lv_at hl 0 rfl) ?_
    refine lv_iload_n (pc := 55) hx hb dX9_sendFrom_55 rfl (lv_at hl 3 rfl) ?_
    obtain ⟨zr3, hzr3, h⟩ := zb h
    refine zcV (pc := 56) (As := [.int x3]) (rest := [.ref (mq 0)]) (st1 := [.int zr3, .ref (mq 0)]) (ws' := wM cy mq m_hosts m_lost m_late m_wait m_per m_blocks m_sends m_many m_made m_madeMany m_lacking m_thrown m_now m_ahead m_then m_time m_timeThen m_isThere m_comes) (wr := []) (n := 1) (q0 := 0) X (c_X9_hostOf l G cy fu mq m_hosts m_lost m_late m_wait m_per m_blocks m_sends m_many m_made m_madeMany m_lacking m_thrown m_now m_ahead m_then m_time m_timeThen m_isThere m_comes x3 zr3 hzr3) hH [0, 1, 2, 3, 4, 5, 6, 7, 8, 9, 10, 11, 12, 13, 14] [] [0, 1, 2, 3, 4, 5, 6, 7, 8, 9, 10, 11, 12, 13, 14] rfl rfl rfl rfl gX9_sendFrom_X9_hostOf rfl ⟨rfl, rfl⟩ kX9_hostOf ⟨Nat.le_of_ble_eq_true rfl, Nat.le_of_ble_eq_true rfl⟩ rfl rfl rfl rfl rfl hl.1 (Nat.le_of_ble_eq_true rfl) ⟨Nat.le_of_ble_eq_true rfl, Nat.le_of_ble_eq_true rfl⟩ dX9_sendFrom_56 (fun H locs hH => ?_)
    refine lv_aload_n (pc := 59) hx hb dX9_sendFrom_59 rfl (lv_at hl 0 rfl) ?_
    refine lv_iload (pc := 60) hx hb dX9_sendFrom_60 (lv_at hl 5 rfl) ?_
    obtain ⟨zr4, hzr4, h⟩ := zb h
    refine zcV (pc := 62) (As := [.int x5]) (rest := [.int zr3, .ref (mq 0)]) (st1 := [.int zr4, .int zr3, .ref (mq 0)]) (ws' := wM cy mq m_hosts m_lost m_late m_wait m_per m_blocks m_sends m_many m_made m_madeMany m_lacking m_thrown m_now m_ahead m_then m_time m_timeThen m_isThere m_comes) (wr := []) (n := 1) (q0 := 0) X (c_X9_hostOf l G cy fu mq m_hosts m_lost m_late m_wait m_per m_blocks m_sends m_many m_made m_madeMany m_lacking m_thrown m_now m_ahead m_then m_time m_timeThen m_isThere m_comes x5 zr4 hzr4) hH [0, 1, 2, 3, 4, 5, 6, 7, 8, 9, 10, 11, 12, 13, 14] [] [0, 1, 2, 3, 4, 5, 6, 7, 8, 9, 10, 11, 12, 13, 14] rfl rfl rfl rfl gX9_sendFrom_X9_hostOf rfl ⟨rfl, rfl⟩ kX9_hostOf ⟨Nat.le_of_ble_eq_true rfl, Nat.le_of_ble_eq_true rfl⟩ rfl rfl rfl rfl rfl hl.1 (Nat.le_of_ble_eq_true rfl) ⟨Nat.le_of_ble_eq_true rfl, Nat.le_of_ble_eq_true rfl⟩ dX9_sendFrom_62 (fun H locs hH => ?_)
    obtain ⟨zr5, hzr5, h⟩ := zb h
    refine zcV (pc := 65) (As := [.int zr3, .int zr4]) (rest := []) (st1 := [.int zr5]) (ws' := wM cy mq m_hosts m_lost m_late m_wait m_per m_blocks m_sends m_many m_made m_madeMany m_lacking m_thrown m_now m_ahead m_then m_time m_timeThen m_isThere m_comes) (wr := []) (n := 2) (q0 := 0) X (c_X9_areJoined l G cy fu mq m_hosts m_lost m_late m_wait m_per m_blocks m_sends m_many m_made m_madeMany m_lacking m_thrown m_now m_ahead m_then m_time m_timeThen m_isThere m_comes zr3 zr4 zr5 hzr5) hH [0, 1, 2, 3, 4, 5, 6, 7, 8, 9, 10, 11, 12, 13, 14] [] [0, 1, 2, 3, 4, 5, 6, 7, 8, 9, 10, 11, 12, 13, 14] rfl rfl rfl rfl gX9_sendFrom_X9_areJoined rfl ⟨rfl, rfl⟩ kX9_areJoined ⟨Nat.le_of_ble_eq_true rfl, Nat.le_of_ble_eq_true rfl⟩ rfl rfl rfl rfl rfl hl.1 (Nat.le_of_ble_eq_true rfl) ⟨Nat.le_of_ble_eq_true rfl, Nat.le_of_ble_eq_true rfl⟩ dX9_sendFrom_65 (fun H locs hH => ?_)
    refine lv_if_eq (pc := 68) (tgt := 87) hx hb dX9_sendFrom_68 rfl (fun zc6 => ?_) (fun zc6 => ?_)
    · have h := zt zc6 h
      refine lv_iinc (pc := 87) (v := (x5 + 1)) (lv' := [(5, .int (x5 + 1)), (0, .ref (mq 0)), (1, .int x1), (2, .int x2), (3, .int x3), (4, .int x4)]) hx hb dX9_sendFrom_87 hl (k := 5) rfl (by rw [zk_c1]) (by decide) rfl (fun ls hl => ?_)
      refine lv_goto (pc := 90) (tgt := 37) hx hb dX9_sendFrom_90 rfl ?_
      exact ih (x5 + 1) m_comes rr h _ _ _ hH (lv_sub hl [1, 2, 3, 4, 5, 0] rfl) K0
    have h := zf zc6 h
    refine lv_aload_n (pc := 71) hx hb dX9_sendFrom_71 rfl (lv_at hl 0 rfl) ?_
    refine lv_iload_n (pc := 72) hx hb dX9_sendFrom_72 rfl (lv_at hl 1 rfl) ?_
    refine lv_iload_n (pc := 73) hx hb dX9_sendFrom_73 rfl (lv_at hl 2 rfl) ?_
    refine lv_iconst (v := 1) (pc := 74) hx hb dX9_sendFrom_74 zk_c1 ?_
    refine lv_iload (pc := 75) hx hb dX9_sendFrom_75 (lv_at hl 5 rfl) ?_
    refine lv_ishl (pc := 77) hx hb dX9_sendFrom_77 ?_
    refine lv_ior (pc := 78) hx hb dX9_sendFrom_78 ?_
    refine lv_iload_n (pc := 79) hx hb dX9_sendFrom_79 rfl (lv_at hl 3 rfl) ?_
    refine lv_iconst (v := 1) (pc := 80) hx hb dX9_sendFrom_80 zk_c1 ?_
    refine lv_iadd (pc := 81) hx hb dX9_sendFrom_81 ?_
    refine lv_iload (pc := 82) hx hb dX9_sendFrom_82 (lv_at hl 4 rfl) ?_
    obtain ⟨zr7, hzr7, h⟩ := zb h
    refine zcV (pc := 84) (As := [.int x1, .int (x2 ||| (1 <<< (x5 &&& 31))), .int (x3 + 1), .int x4]) (rest := []) (st1 := []) (ws' := wM cy mq m_hosts m_lost m_late m_wait m_per m_blocks m_sends m_many m_made m_madeMany m_lacking m_thrown m_now m_ahead m_then m_time m_timeThen m_isThere zr7) (wr := []) (n := 4) (q0 := 0) X (c_X9_sendFrom_d7 l G cy fu mq m_hosts m_lost m_late m_wait m_per m_blocks m_sends m_many m_made m_madeMany m_lacking m_thrown m_now m_ahead m_then m_time m_timeThen m_isThere m_comes x1 (x2 ||| (1 <<< (x5 &&& 31))) (x3 + 1) x4 zr7 hzr7) hH [0, 1, 2, 3, 4, 5, 6, 7, 8, 9, 10, 11, 12, 13, 14] [] [0, 1, 2, 3, 4, 5, 6, 7, 8, 9, 10, 11, 12, 13, 14] rfl rfl rfl rfl gX9_sendFrom_X9_sendFrom rfl ⟨rfl, rfl⟩ kX9_sendFrom ⟨Nat.le_of_ble_eq_true rfl, Nat.le_of_ble_eq_true rfl⟩ rfl rfl rfl rfl rfl hl.1 (Nat.le_of_ble_eq_true rfl) ⟨Nat.le_of_ble_eq_true rfl, Nat.le_of_ble_eq_true rfl⟩ dX9_sendFrom_84 (fun H locs hH => ?_)
    refine lv_iinc (pc := 87) (v := (x5 + 1)) (lv' := [(5, .int (x5 + 1)), (0, .ref (mq 0)), (1, .int x1), (2, .int x2), (3, .int x3), (4, .int x4)]) hx hb dX9_sendFrom_87 hl (k := 5) rfl (by rw [zk_c1]) (by decide) rfl (fun ls hl => ?_)
    refine lv_goto (pc := 90) (tgt := 37) hx hb dX9_sendFrom_90 rfl ?_
    exact ih (x5 + 1) zr7 rr h _ _ _ hH (lv_sub hl [1, 2, 3, 4, 5, 0] rfl) K0
set_option maxHeartbeats 4000000 in
set_option maxRecDepth 100000 in
theorem c_X9_sendFrom_d8 (l : Launch) (G : va_G) (cy : Nat → ClassId) (fu : Nat) (mq : Nat → Nat) (m_hosts : Int32) (m_lost : Nat → Int32) (m_late : Nat → Int32) (m_wait : Nat → Int32) (m_per : Nat → Int32) (m_blocks : Nat → Int32) (m_sends : Nat → Int32) (m_many : Int32) (m_made : Nat → Int32) (m_madeMany : Int32) (m_lacking : Int32) (m_thrown : Int32) (m_now : Nat → Int32) (m_ahead : Nat → Int32) (m_then : Nat → Int32) (m_time : Nat → Int32) (m_timeThen : Nat → Int32) (m_isThere : Nat → Int32) (m_comes : Nat → Int32) (x1 : Int32) (x2 : Int32) (x3 : Int32) (x4 : Int32) (rr : (Nat → Int32)) (h : f_X9_sendFrom_d8 fu m_lost m_wait m_comes x1 x2 x3 x4 = some rr) : zM l G cy yX9_sendFrom wsX9_sendFrom (zR 8 200) [.ref (mq 0), .int x1, .int x2, .int x3, .int x4] (wM cy mq m_hosts m_lost m_late m_wait m_per m_blocks m_sends m_many m_made m_madeMany m_lacking m_thrown m_now m_ahead m_then m_time m_timeThen m_isThere m_comes) (wM cy mq m_hosts m_lost m_late m_wait m_per m_blocks m_sends m_many m_made m_madeMany m_lacking m_thrown m_now m_ahead m_then m_time m_timeThen m_isThere rr) none := by
  refine zM.mk (cc := cX9_sendFrom) (nL := 6) (ret := none) (by decide) rfl (Nat.le_of_ble_eq_true rfl) ?_
  intro p e s m below meth c A ls X hr hH hl
  replace X : zX p s m [.ref (mq 0), .int x1, .int x2, .int x3, .int x4].toArray meth c RX9 cX9_sendFrom 6 wsX9_sendFrom G cy A := X
  have hx := X.1.1
  have hb := X.1.2.1
  replace hl : lv_has ls 6 [(0, .ref (mq 0)), (1, .int x1), (2, .int x2), (3, .int x3), (4, .int x4)] := hl
  dsimp only [f_X9_sendFrom_d8] at h
  refine lv_iload_n (pc := 0) hx hb dX9_sendFrom_0 rfl (lv_at hl 3 rfl) ?_
  refine lv_iload (pc := 1) hx hb dX9_sendFrom_1 (lv_at hl 4 rfl) ?_
  refine lv_icmp_ne (pc := 3) (tgt := 14) hx hb dX9_sendFrom_3 rfl (fun zc1 => ?_) (fun zc1 => ?_)
  · have h := zf zc1 h
    refine lv_aload_n (pc := 14) hx hb dX9_sendFrom_14 rfl (lv_at hl 0 rfl) ?_
    refine lv_iload_n (pc := 15) hx hb dX9_sendFrom_15 rfl (lv_at hl 1 rfl) ?_
    refine lv_iload_n (pc := 16) hx hb dX9_sendFrom_16 rfl (lv_at hl 2 rfl) ?_
    refine lv_iload_n (pc := 17) hx hb dX9_sendFrom_17 rfl (lv_at hl 3 rfl) ?_
    refine lv_iconst (v := 1) (pc := 18) hx hb dX9_sendFrom_18 zk_c1 ?_
    refine lv_iadd (pc := 19) hx hb dX9_sendFrom_19 ?_
    refine lv_iload (pc := 20) hx hb dX9_sendFrom_20 (lv_at hl 4 rfl) ?_
    obtain ⟨zr2, hzr2, h⟩ := zb h
    refine zcV (pc := 22) (As := [.int x1, .int x2, .int (x3 + 1), .int x4]) (rest := []) (st1 := []) (ws' := wM cy mq m_hosts m_lost m_late m_wait m_per m_blocks m_sends m_many m_made m_madeMany m_lacking m_thrown m_now m_ahead m_then m_time m_timeThen m_isThere zr2) (wr := []) (n := 4) (q0 := 0) X (c_X9_sendFrom_d7 l G cy fu mq m_hosts m_lost m_late m_wait m_per m_blocks m_sends m_many m_made m_madeMany m_lacking m_thrown m_now m_ahead m_then m_time m_timeThen m_isThere m_comes x1 x2 (x3 + 1) x4 zr2 hzr2) hH [0, 1, 2, 3, 4, 5, 6, 7, 8, 9, 10, 11, 12, 13, 14] [] [0, 1, 2, 3, 4, 5, 6, 7, 8, 9, 10, 11, 12, 13, 14] rfl rfl rfl rfl gX9_sendFrom_X9_sendFrom rfl ⟨rfl, rfl⟩ kX9_sendFrom ⟨Nat.le_of_ble_eq_true rfl, Nat.le_of_ble_eq_true rfl⟩ rfl rfl rfl rfl rfl hl.1 (Nat.le_of_ble_eq_true rfl) ⟨Nat.le_of_ble_eq_true rfl, Nat.le_of_ble_eq_true rfl⟩ dX9_sendFrom_22 (fun H locs hH => ?_)
    refine lv_iload_n (pc := 25) hx hb dX9_sendFrom_25 rfl (lv_at hl 1 rfl) ?_
    refine lv_iload_n (pc := 26) hx hb dX9_sendFrom_26 rfl (lv_at hl 3 rfl) ?_
    refine lv_ishr (pc := 27) hx hb dX9_sendFrom_27 ?_
    refine lv_iconst (v := 1) (pc := 28) hx hb dX9_sendFrom_28 zk_c1 ?_
    refine lv_iand (pc := 29) hx hb dX9_sendFrom_29 ?_
    refine lv_if_ne (pc := 30) (tgt := 34) hx hb dX9_sendFrom_30 rfl (fun zc3 => ?_) (fun zc3 => ?_)
    · have h := zf zc3 h
      refine lv_iconst (v := 0) (pc := 34) hx hb dX9_sendFrom_34 zk_c0 ?_
      refine lv_istore (pc := 35) (lv' := [(5, .int 0), (0, .ref (mq 0)), (1, .int x1), (2, .int x2), (3, .int x3), (4, .int x4)]) hx hb dX9_sendFrom_35 hl (by decide) rfl (fun ls hl => ?_)
      obtain ⟨zr4, hzr4, h⟩ := zb h
      refine w_X9_sendFrom_d8_l37 G cy fu mq m_hosts m_lost m_late m_wait m_per m_blocks m_sends m_many m_made m_madeMany m_lacking m_thrown m_now m_ahead m_then m_time m_timeThen m_isThere x1 x2 x3 x4 X fu 0 zr2 zr4 hzr4 _ _ _ hH (lv_sub hl [1, 2, 3, 4, 5, 0] rfl) (fun H locs ls hH hl => ?_)
      obtain rfl := Option.some.inj h
      exact z_vret X hr hH dX9_sendFrom_93
    have h := zt zc3 h
    obtain rfl := Option.some.inj h
    exact z_vret X hr hH dX9_sendFrom_33
  have h := zt zc1 h
  refine lv_aload_n (pc := 6) hx hb dX9_sendFrom_6 rfl (lv_at hl 0 rfl) ?_
  refine z_get (pc := 7) (v := .ref (mq 14)) X iX9_sendFrom_X9 hH 0 rfl rfl 18 rfl (List.mem_of_getElem? (i := 1) rfl) rfl dX9_sendFrom_7 ?_
  refine lv_iload_n (pc := 10) hx hb dX9_sendFrom_10 rfl (lv_at hl 2 rfl) ?_
  refine lv_iconst (v := 1) (pc := 11) hx hb dX9_sendFrom_11 zk_c1 ?_
  obtain ⟨hin, h⟩ := zg h
  refine z_zast (pc := 12) (ws' := wM cy mq m_hosts m_lost m_late m_wait m_per m_blocks m_sends m_many m_made m_madeMany m_lacking m_thrown m_now m_ahead m_then m_time m_timeThen m_isThere (upd m_comes (x2).toNatClampNeg (vp_nar .boolean 1))) X hH 14 rfl hin rfl dX9_sendFrom_12 (fun H locs hH => ?_)
  obtain rfl := Option.some.inj h
  exact z_vret X hr hH dX9_sendFrom_13
set_option maxHeartbeats 4000000 in
set_option maxRecDepth 100000 in
theorem w_X9_fewest_l28 {p : Program} {l : Launch} {e : Env} {s : State} {m : MethodId} {args : Array Value} {below : List Frame} {meth : Method} {c : Code} {A : Nat → Prop} {Q : State → Prop} (G : va_G) (cy : Nat → ClassId) (fu : Nat) (mq : Nat → Nat) (m_hosts : Int32) (m_lost : Nat → Int32) (m_late : Nat → Int32) (m_wait : Nat → Int32) (m_per : Nat → Int32) (m_blocks : Nat → Int32) (m_sends : Nat → Int32) (m_many : Int32) (m_made : Nat → Int32) (m_madeMany : Int32) (m_lacking : Int32) (m_thrown : Int32) (m_now : Nat → Int32) (m_ahead : Nat → Int32) (m_then : Nat → Int32) (m_time : Nat → Int32) (m_timeThen : Nat → Int32) (m_comes : Nat → Int32) (x1 : Int32) (x2 : Int32) (X : zX p s m args meth c RX9 cX9_fewest 5 wsX9_fewest G cy A) : ∀ (n : Nat) (x3 : Int32) (m_isThere : Nat → Int32) (rr : (Nat → Int32)) (h : lp (f_X9_fewest_l28 fu) n (x3, m_isThere) = some rr) (H : Heap) (locs : List Loc) (ls : Array Slot) (hH : zH G A s.heap (wM cy mq m_hosts m_lost m_late m_wait m_per m_blocks m_sends m_many m_made m_madeMany m_lacking m_thrown m_now m_ahead m_then m_time m_timeThen m_isThere m_comes) H locs) (hl : lv_has ls 5 [(0, .ref (mq 0)), (1, .int x1), (2, .int x2), (3, .int x3)]) (K0 : ∀ (H : Heap) (locs : List Loc) (ls : Array Slot), zH G A s.heap (wM cy mq m_hosts m_lost m_late m_wait m_per m_blocks m_sends m_many m_made m_madeMany m_lacking m_thrown m_now m_ahead m_then m_time m_timeThen rr m_comes) H locs → lv_has ls 5 [(0, .ref (mq 0)), (1, .int x1), (2, .int x2)] → W p l e (zR 9 225) s m args below meth c H locs 0 0 Q (F0 m 48 ls [])), W p l e (zR 9 225) s m args below meth c H locs 0 0 Q (F0 m 28 ls []) := by
  have hx := X.1.1
  have hb := X.1.2.1
  intro n
  induction n with
  | zero => intro x3 m_isThere rr h H locs ls hH hl K0; cases h
  | succ n ih =>
    intro x3 m_isThere rr h H locs ls hH hl K0
    replace h : f_X9_fewest_l28 fu (lp (f_X9_fewest_l28 fu) n) (x3, m_isThere) = some rr := h
    dsimp only [f_X9_fewest_l28] at h
    refine lv_iload_n (pc := 28) hx hb dX9_fewest_28 rfl (lv_at hl 3 rfl) ?_
    refine lv_sipush (v := 256) (pc := 29) hx hb dX9_fewest_29 zk_s256 ?_
    refine lv_icmp_ge (pc := 32) (tgt := 48) hx hb dX9_fewest_32 rfl (fun zc1 => ?_) (fun zc1 => ?_)
    · have h := zt zc1 h
      obtain rfl := Option.some.inj h
      exact K0 _ _ _ hH (lv_sub hl [0, 1, 2] rfl)
    have h := zf zc1 h
    refine lv_aload_n (pc := 35) hx hb dX9_fewest_35 rfl (lv_at hl 0 rfl) ?_
    refine z_get (pc := 36) (v := .ref (mq 13)) X iX9_fewest_X9 hH 0 rfl rfl 17 rfl (List.mem_of_getElem? (i := 2) rfl) rfl dX9_fewest_36 ?_
    refine lv_iload_n (pc := 39) hx hb dX9_fewest_39 rfl (lv_at hl 3 rfl) ?_
    refine lv_iconst (v := 0) (pc := 40) hx hb dX9_fewest_40 zk_c0 ?_
    obtain ⟨hin, h⟩ := zg h
    refine z_zast (pc := 41) (ws' := wM cy mq m_hosts m_lost m_late m_wait m_per m_blocks m_sends m_many m_made m_madeMany m_lacking m_thrown m_now m_ahead m_then m_time m_timeThen (upd m_isThere (x3).toNatClampNeg (vp_nar .boolean 0)) m_comes) X hH 13 rfl hin rfl dX9_fewest_41 (fun H locs hH => ?_)
    refine lv_iinc (pc := 42) (v := (x3 + 1)) (lv' := [(3, .int (x3 + 1)), (0, .ref (mq 0)), (1, .int x1), (2, .int x2)]) hx hb dX9_fewest_42 hl (k := 3) rfl (by rw [zk_c1]) (by decide) rfl (fun ls hl => ?_)
    refine lv_goto (pc := 45) (tgt := 28) hx hb dX9_fewest_45 rfl ?_
    exact ih (x3 + 1) (upd m_isThere (x3).toNatClampNeg (vp_nar .boolean 0)) rr h _ _ _ hH (lv_sub hl [1, 2, 3, 0] rfl) K0
set_option maxHeartbeats 4000000 in
set_option maxRecDepth 100000 in
theorem w_X9_fewest_l86 {p : Program} {l : Launch} {e : Env} {s : State} {m : MethodId} {args : Array Value} {below : List Frame} {meth : Method} {c : Code} {A : Nat → Prop} {Q : State → Prop} (G : va_G) (cy : Nat → ClassId) (fu : Nat) (mq : Nat → Nat) (m_hosts : Int32) (m_lost : Nat → Int32) (m_late : Nat → Int32) (m_wait : Nat → Int32) (m_per : Nat → Int32) (m_blocks : Nat → Int32) (m_sends : Nat → Int32) (m_many : Int32) (m_made : Nat → Int32) (m_madeMany : Int32) (m_lacking : Int32) (m_thrown : Int32) (m_now : Nat → Int32) (m_ahead : Nat → Int32) (m_then : Nat → Int32) (m_time : Nat → Int32) (m_timeThen : Nat → Int32) (m_isThere : Nat → Int32) (x2 : Int32) (x3 : Int32) (X : zX p s m args meth c RX9 cX9_fewest 5 wsX9_fewest G cy A) : ∀ (n : Nat) (x4 : Int32) (m_comes : Nat → Int32) (rr : (Nat → Int32)) (h : lp (f_X9_fewest_l86 fu) n (x4, m_comes) = some rr) (H : Heap) (locs : List Loc) (ls : Array Slot) (hH : zH G A s.heap (wM cy mq m_hosts m_lost m_late m_wait m_per m_blocks m_sends m_many m_made m_madeMany m_lacking m_thrown m_now m_ahead m_then m_time m_timeThen m_isThere m_comes) H locs) (hl : lv_has ls 5 [(0, .ref (mq 0)), (2, .int x2), (3, .int x3), (4, .int x4)]) (K0 : ∀ (H : Heap) (locs : List Loc) (ls : Array Slot), zH G A s.heap (wM cy mq m_hosts m_lost m_late m_wait m_per m_blocks m_sends m_many m_made m_madeMany m_lacking m_thrown m_now m_ahead m_then m_time m_timeThen m_isThere rr) H locs → lv_has ls 5 [(0, .ref (mq 0)), (2, .int x2), (3, .int x3)] → W p l e (zR 9 225) s m args below meth c H locs 0 0 Q (F0 m 108 ls [])), W p l e (zR 9 225) s m args below meth c H locs 0 0 Q (F0 m 86 ls []) := by
  have hx := X.1.1
  have hb := X.1.2.1
  intro n
  induction n with
  | zero => intro x4 m_comes rr h H locs ls hH hl K0; cases h
  | succ n ih =>
    intro x4 m_comes rr h H locs ls hH hl K0
    replace h : f_X9_fewest_l86 fu (lp (f_X9_fewest_l86 fu) n) (x4, m_comes) = some rr := h
    dsimp only [f_X9_fewest_l86] at h
    refine lv_iload (pc := 86) hx hb dX9_fewest_86 (lv_at hl 3 rfl) ?_
    refine lv_sipush (v := 256) (pc := 88) hx hb dX9_fewest_88 zk_s256 ?_
    refine lv_icmp_ge (pc := 91) (tgt := 108) hx hb dX9_fewest_91 rfl (fun zc1 => ?_) (fun zc1 => ?_)
    · have h := zt zc1 h
      obtain rfl := Option.some.inj h
      exact K0 _ _ _ hH (lv_sub hl [0, 1, 2] rfl)
    have h := zf zc1 h
    refine lv_aload_n (pc := 94) hx hb dX9_fewest_94 rfl (lv_at hl 0 rfl) ?_
    refine z_get (pc := 95) (v := .ref (mq 14)) X iX9_fewest_X9 hH 0 rfl rfl 18 rfl (List.mem_of_getElem? (i := 3) rfl) rfl dX9_fewest_95 ?_
    refine lv_iload (pc := 98) hx hb dX9_fewest_98 (lv_at hl 3 rfl) ?_
    refine lv_iconst (v := 0) (pc := 100) hx hb dX9_fewest_100 zk_c0 ?_
    obtain ⟨hin, h⟩ := zg h
    refine z_zast (pc := 101) (ws' := wM cy mq m_hosts m_lost m_late m_wait m_per m_blocks m_sends m_many m_made m_madeMany m_lacking m_thrown m_now m_ahead m_then m_time m_timeThen m_isThere (upd m_comes (x4).toNatClampNeg (vp_nar .boolean 0))) X hH 14 rfl hin rfl dX9_fewest_101 (fun H locs hH => ?_)
    refine lv_iinc (pc := 102) (v := (x4 + 1)) (lv' := [(4, .int (x4 + 1)), (0, .ref (mq 0)), (2, .int x2), (3, .int x3)]) hx hb dX9_fewest_102 hl (k := 3) rfl (by rw [zk_c1]) (by decide) rfl (fun ls hl => ?_)
    refine lv_goto (pc := 105) (tgt := 86) hx hb dX9_fewest_105 rfl ?_
    exact ih (x4 + 1) (upd m_comes (x4).toNatClampNeg (vp_nar .boolean 0)) rr h _ _ _ hH (lv_sub hl [1, 2, 3, 0] rfl) K0
set_option maxHeartbeats 4000000 in
set_option maxRecDepth 100000 in
theorem w_X9_fewest_l111 {p : Program} {l : Launch} {e : Env} {s : State} {m : MethodId} {args : Array Value} {below : List Frame} {meth : Method} {c : Code} {A : Nat → Prop} {Q : State → Prop} (G : va_G) (cy : Nat → ClassId) (fu : Nat) (mq : Nat → Nat) (m_hosts : Int32) (m_lost : Nat → Int32) (m_late : Nat → Int32) (m_wait : Nat → Int32) (m_per : Nat → Int32) (m_blocks : Nat → Int32) (m_sends : Nat → Int32) (m_many : Int32) (m_made : Nat → Int32) (m_madeMany : Int32) (m_lacking : Int32) (m_thrown : Int32) (m_now : Nat → Int32) (m_ahead : Nat → Int32) (m_then : Nat → Int32) (m_time : Nat → Int32) (m_timeThen : Nat → Int32) (m_isThere : Nat → Int32) (x2 : Int32) (x3 : Int32) (X : zX p s m args meth c RX9 cX9_fewest 5 wsX9_fewest G cy A) : ∀ (n : Nat) (x4 : Int32) (m_comes : Nat → Int32) (rr : (Nat → Int32)) (h : lp (f_X9_fewest_l111 fu m_lost m_wait m_isThere x2) n (x4, m_comes) = some rr) (H : Heap) (locs : List Loc) (ls : Array Slot) (hH : zH G A s.heap (wM cy mq m_hosts m_lost m_late m_wait m_per m_blocks m_sends m_many m_made m_madeMany m_lacking m_thrown m_now m_ahead m_then m_time m_timeThen m_isThere m_comes) H locs) (hl : lv_has ls 5 [(0, .ref (mq 0)), (2, .int x2), (3, .int x3), (4, .int x4)]) (K0 : ∀ (H : Heap) (locs : List Loc) (ls : Array Slot), zH G A s.heap (wM cy mq m_hosts m_lost m_late m_wait m_per m_blocks m_sends m_many m_made m_madeMany m_lacking m_thrown m_now m_ahead m_then m_time m_timeThen m_isThere rr) H locs → lv_has ls 5 [(0, .ref (mq 0)), (2, .int x2), (3, .int x3)] → W p l e (zR 9 225) s m args below meth c H locs 0 0 Q (F0 m 145 ls [])), W p l e (zR 9 225) s m args below meth c H locs 0 0 Q (F0 m 111 ls []) := by
  have hx := X.1.1
  have hb := X.1.2.1
  intro n
  induction n with
  | zero => intro x4 m_comes rr h H locs ls hH hl K0; cases h
  | succ n ih =>
    intro x4 m_comes rr h H locs ls hH hl K0
    replace h : f_X9_fewest_l111 fu m_lost m_wait m_isThere x2 (lp (f_X9_fewest_l111 fu m_lost m_wait m_isThere x2) n) (x4, m_comes) = some rr := h
    dsimp only [f_X9_fewest_l111] at h
    refine lv_iload (pc := 111) hx hb dX9_fewest_111 (lv_at hl 3 rfl) ?_
    refine lv_iconst (v := 1) (pc := 113) hx hb dX9_fewest_113 zk_c1 ?_
    refine lv_iload_n (pc := 114) hx hb dX9_fewest_114 rfl (lv_at hl 1 rfl) ?_
    refine lv_ishl (pc := 115) hx hb dX9_fewest_115 ?_
    refine lv_icmp_ge (pc := 116) (tgt := 145) hx hb dX9_fewest_116 rfl (fun zc1 => ?_) (fun zc1 => ?_)
    · have h := zt zc1 h
      obtain rfl := Option.some.inj h
      exact K0 _ _ _ hH (lv_sub hl [0, 1, 2] rfl)
    have h := zf zc1 h
    refine lv_aload_n (pc := 119) hx hb dX9_fewest_119 rfl (lv_at hl 0 rfl) ?_
    refine z_get (pc := 120) (v := .ref (mq 13)) X iX9_fewest_X9 hH 0 rfl rfl 17 rfl (List.mem_of_getElem? (i := 2) rfl) rfl dX9_fewest_120 ?_
    refine lv_iload (pc := 123) hx hb dX9_fewest_123 (lv_at hl 3 rfl) ?_
    obtain ⟨hin, h⟩ := zg h
    refine z_zald (pc := 125) X hH 13 rfl hin dX9_fewest_125 ?_
    refine lv_if_eq (pc := 126) (tgt := 139) hx hb dX9_fewest_126 rfl (fun zc2 => ?_) (fun zc2 => ?_)
    · have h := zt zc2 h
      refine lv_iinc (pc := 139) (v := (x4 + 1)) (lv' := [(4, .int (x4 + 1)), (0, .ref (mq 0)), (2, .int x2), (3, .int x3)]) hx hb dX9_fewest_139 hl (k := 3) rfl (by rw [zk_c1]) (by decide) rfl (fun ls hl => ?_)
      refine lv_goto (pc := 142) (tgt := 111) hx hb dX9_fewest_142 rfl ?_
      exact ih (x4 + 1) m_comes rr h _ _ _ hH (lv_sub hl [1, 2, 3, 0] rfl) K0
    have h := zf zc2 h
    refine lv_aload_n (pc := 129) hx hb dX9_fewest_129 rfl (lv_at hl 0 rfl) ?_
    refine lv_iload (pc := 130) hx hb dX9_fewest_130 (lv_at hl 3 rfl) ?_
    refine lv_iload (pc := 132) hx hb dX9_fewest_132 (lv_at hl 3 rfl) ?_
    refine lv_iconst (v := 0) (pc := 134) hx hb dX9_fewest_134 zk_c0 ?_
    refine lv_iload_n (pc := 135) hx hb dX9_fewest_135 rfl (lv_at hl 1 rfl) ?_
    obtain ⟨zr3, hzr3, h⟩ := zb h
    refine zcV (pc := 136) (As := [.int x4, .int x4, .int 0, .int x2]) (rest := []) (st1 := []) (ws' := wM cy mq m_hosts m_lost m_late m_wait m_per m_blocks m_sends m_many m_made m_madeMany m_lacking m_thrown m_now m_ahead m_then m_time m_timeThen m_isThere zr3) (wr := []) (n := 4) (q0 := 0) X (c_X9_sendFrom_d8 l G cy fu mq m_hosts m_lost m_late m_wait m_per m_blocks m_sends m_many m_made m_madeMany m_lacking m_thrown m_now m_ahead m_then m_time m_timeThen m_isThere m_comes x4 x4 0 x2 zr3 hzr3) hH [0, 1, 2, 3, 4, 5, 6, 7, 8, 9, 10, 11, 12, 13, 14] [] [0, 1, 2, 3, 4, 5, 6, 7, 8, 9, 10, 11, 12, 13, 14] rfl rfl rfl rfl gX9_fewest_X9_sendFrom rfl ⟨rfl, rfl⟩ kX9_sendFrom ⟨Nat.le_of_ble_eq_true rfl, Nat.le_of_ble_eq_true rfl⟩ rfl rfl rfl rfl rfl hl.1 (Nat.le_of_ble_eq_true rfl) ⟨Nat.le_of_ble_eq_true rfl, Nat.le_of_ble_eq_true rfl⟩ dX9_fewest_136 (fun H locs hH => ?_)
    refine lv_iinc (pc := 139) (v := (x4 + 1)) (lv' := [(4, .int (x4 + 1)), (0, .ref (mq 0)), (2, .int x2), (3, .int x3)]) hx hb dX9_fewest_139 hl (k := 3) rfl (by rw [zk_c1]) (by decide) rfl (fun ls hl => ?_)
    refine lv_goto (pc := 142) (tgt := 111) hx hb dX9_fewest_142 rfl ?_
    exact ih (x4 + 1) zr3 rr h _ _ _ hH (lv_sub hl [1, 2, 3, 0] rfl) K0
set_option maxHeartbeats 4000000 in
set_option maxRecDepth 100000 in
theorem w_X9_fewest_l148 {p : Program} {l : Launch} {e : Env} {s : State} {m : MethodId} {args : Array Value} {below : List Frame} {meth : Method} {c : Code} {A : Nat → Prop} {Q : State → Prop} (G : va_G) (cy : Nat → ClassId) (fu : Nat) (mq : Nat → Nat) (m_hosts : Int32) (m_lost : Nat → Int32) (m_late : Nat → Int32) (m_wait : Nat → Int32) (m_per : Nat → Int32) (m_blocks : Nat → Int32) (m_sends : Nat → Int32) (m_many : Int32) (m_made : Nat → Int32) (m_madeMany : Int32) (m_lacking : Int32) (m_thrown : Int32) (m_now : Nat → Int32) (m_ahead : Nat → Int32) (m_then : Nat → Int32) (m_time : Nat → Int32) (m_timeThen : Nat → Int32) (m_comes : Nat → Int32) (x2 : Int32) (x3 : Int32) (X : zX p s m args meth c RX9 cX9_fewest 5 wsX9_fewest G cy A) : ∀ (n : Nat) (x4 : Int32) (m_isThere : Nat → Int32) (rr : (Nat → Int32)) (h : lp (f_X9_fewest_l148 fu m_comes) n (x4, m_isThere) = some rr) (H : Heap) (locs : List Loc) (ls : Array Slot) (hH : zH G A s.heap (wM cy mq m_hosts m_lost m_late m_wait m_per m_blocks m_sends m_many m_made m_madeMany m_lacking m_thrown m_now m_ahead m_then m_time m_timeThen m_isThere m_comes) H locs) (hl : lv_has ls 5 [(0, .ref (mq 0)), (2, .int x2), (3, .int x3), (4, .int x4)]) (K0 : ∀ (H : Heap) (locs : List Loc) (ls : Array Slot), zH G A s.heap (wM cy mq m_hosts m_lost m_late m_wait m_per m_blocks m_sends m_many m_made m_madeMany m_lacking m_thrown m_now m_ahead m_then m_time m_timeThen rr m_comes) H locs → lv_has ls 5 [(0, .ref (mq 0)), (2, .int x2), (3, .int x3)] → W p l e (zR 9 225) s m args below meth c H locs 0 0 Q (F0 m 176 ls [])), W p l e (zR 9 225) s m args below meth c H locs 0 0 Q (F0 m 148 ls []) := by
  have hx := X.1.1
  have hb := X.1.2.1
  intro n
  induction n with
  | zero => intro x4 m_isThere rr h H locs ls hH hl K0; cases h
  | succ n ih =>
    intro x4 m_isThere rr h H locs ls hH hl K0
    replace h : f_X9_fewest_l148 fu m_comes (lp (f_X9_fewest_l148 fu m_comes) n) (x4, m_isThere) = some rr := h
    dsimp only [f_X9_fewest_l148] at h
    refine lv_iload (pc := 148) hx hb dX9_fewest_148 (lv_at hl 3 rfl) ?_
    refine lv_sipush (v := 256) (pc := 150) hx hb dX9_fewest_150 zk_s256 ?_
    refine lv_icmp_ge (pc := 153) (tgt := 176) hx hb dX9_fewest_153 rfl (fun zc1 => ?_) (fun zc1 => ?_)
    · have h := zt zc1 h
      obtain rfl := Option.some.inj h
      exact K0 _ _ _ hH (lv_sub hl [0, 1, 2] rfl)
    have h := zf zc1 h
    refine lv_aload_n (pc := 156) hx hb dX9_fewest_156 rfl (lv_at hl 0 rfl) ?_
    refine z_get (pc := 157) (v := .ref (mq 13)) X iX9_fewest_X9 hH 0 rfl rfl 17 rfl (List.mem_of_getElem? (i := 2) rfl) rfl dX9_fewest_157 ?_
    refine lv_iload (pc := 160) hx hb dX9_fewest_160 (lv_at hl 3 rfl) ?_
    refine lv_aload_n (pc := 162) hx hb dX9_fewest_162 rfl (lv_at hl 0 rfl) ?_
    refine z_get (pc := 163) (v := .ref (mq 14)) X iX9_fewest_X9 hH 0 rfl rfl 18 rfl (List.mem_of_getElem? (i := 3) rfl) rfl dX9_fewest_163 ?_
    refine lv_iload (pc := 166) hx hb dX9_fewest_166 (lv_at hl 3 rfl) ?_
    obtain ⟨hin, h⟩ := zg h
    refine z_zald (pc := 168) X hH 14 rfl hin dX9_fewest_168 ?_
    obtain ⟨hin, h⟩ := zg h
    refine z_zast (pc := 169) (ws' := wM cy mq m_hosts m_lost m_late m_wait m_per m_blocks m_sends m_many m_made m_madeMany m_lacking m_thrown m_now m_ahead m_then m_time m_timeThen (upd m_isThere (x4).toNatClampNeg (vp_nar .boolean (m_comes (x4).toNatClampNeg))) m_comes) X hH 13 rfl hin rfl dX9_fewest_169 (fun H locs hH => ?_)
    refine lv_iinc (pc := 170) (v := (x4 + 1)) (lv' := [(4, .int (x4 + 1)), (0, .ref (mq 0)), (2, .int x2), (3, .int x3)]) hx hb dX9_fewest_170 hl (k := 3) rfl (by rw [zk_c1]) (by decide) rfl (fun ls hl => ?_)
    refine lv_goto (pc := 173) (tgt := 148) hx hb dX9_fewest_173 rfl ?_
    exact ih (x4 + 1) (upd m_isThere (x4).toNatClampNeg (vp_nar .boolean (m_comes (x4).toNatClampNeg))) rr h _ _ _ hH (lv_sub hl [1, 2, 3, 0] rfl) K0
set_option maxHeartbeats 4000000 in
set_option maxRecDepth 100000 in
theorem w_X9_fewest_l63 {p : Program} {l : Launch} {e : Env} {s : State} {m : MethodId} {args : Array Value} {below : List Frame} {meth : Method} {c : Code} {A : Nat → Prop} {Q : State → Prop} (G : va_G) (cy : Nat → ClassId) (fu : Nat) (mq : Nat → Nat) (m_hosts : Int32) (m_lost : Nat → Int32) (m_late : Nat → Int32) (m_wait : Nat → Int32) (m_per : Nat → Int32) (m_blocks : Nat → Int32) (m_sends : Nat → Int32) (m_many : Int32) (m_made : Nat → Int32) (m_madeMany : Int32) (m_lacking : Int32) (m_thrown : Int32) (m_now : Nat → Int32) (m_ahead : Nat → Int32) (m_then : Nat → Int32) (m_time : Nat → Int32) (m_timeThen : Nat → Int32) (x2 : Int32) (X : zX p s m args meth c RX9 cX9_fewest 5 wsX9_fewest G cy A) : ∀ (n : Nat) (x3 : Int32) (m_isThere : Nat → Int32) (m_comes : Nat → Int32) (rr : (Int32 × (Nat → Int32) × (Nat → Int32)) ⊕ ((Nat → Int32) × (Nat → Int32))) (h : lp (f_X9_fewest_l63 fu m_lost m_wait x2) n (x3, m_isThere, m_comes) = some rr) (H : Heap) (locs : List Loc) (ls : Array Slot) (hH : zH G A s.heap (wM cy mq m_hosts m_lost m_late m_wait m_per m_blocks m_sends m_many m_made m_madeMany m_lacking m_thrown m_now m_ahead m_then m_time m_timeThen m_isThere m_comes) H locs) (hl : lv_has ls 5 [(0, .ref (mq 0)), (2, .int x2), (3, .int x3)]) (K0 : ∀ (ra : Int32 × (Nat → Int32) × (Nat → Int32)), rr = (.inl ra) → ∀ (H : Heap) (locs : List Loc) (ls : Array Slot), zH G A s.heap (wM cy mq m_hosts m_lost m_late m_wait m_per m_blocks m_sends m_many m_made m_madeMany m_lacking m_thrown m_now m_ahead m_then m_time m_timeThen ra.2.1 ra.2.2) H locs → lv_has ls 5 [(3, .int ra.1)] → W p l e (zR 9 225) s m args below meth c H locs 0 0 Q (F0 m 81 ls [])) (K1 : ∀ (ra : (Nat → Int32) × (Nat → Int32)), rr = (.inr ra) → ∀ (H : Heap) (locs : List Loc) (ls : Array Slot), zH G A s.heap (wM cy mq m_hosts m_lost m_late m_wait m_per m_blocks m_sends m_many m_made m_madeMany m_lacking m_thrown m_now m_ahead m_then m_time m_timeThen ra.1 ra.2) H locs → lv_has ls 5 [] → W p l e (zR 9 225) s m args below meth c H locs 0 0 Q (F0 m 182 ls [])), W p l e (zR 9 225) s m args below meth c H locs 0 0 Q (F0 m 63 ls []) := by
  have hx := X.1.1
  have hb := X.1.2.1
  intro n
  induction n with
  | zero => intro x3 m_isThere m_comes rr h H locs ls hH hl K0 K1; cases h
  | succ n ih =>
    intro x3 m_isThere m_comes rr h H locs ls hH hl K0 K1
    replace h : f_X9_fewest_l63 fu m_lost m_wait x2 (lp (f_X9_fewest_l63 fu m_lost m_wait x2) n) (x3, m_isThere, m_comes) = some rr := h
    dsimp only [f_X9_fewest_l63] at h
    refine lv_iload_n (pc := 63) hx hb dX9_fewest_63 rfl (lv_at hl 2 rfl) ?_
    refine lv_iload_n (pc := 64) hx hb dX9_fewest_64 rfl (lv_at hl 1 rfl) ?_
    refine lv_icmp_ge (pc := 65) (tgt := 182) hx hb dX9_fewest_65 rfl (fun zc1 => ?_) (fun zc1 => ?_)
    · have h := zt zc1 h
      exact K1 (m_isThere, m_comes) (Option.some.inj h).symm _ _ _ hH (lv_sub hl [] rfl)
    have h := zf zc1 h
    refine lv_aload_n (pc := 68) hx hb dX9_fewest_68 rfl (lv_at hl 0 rfl) ?_
    refine z_get (pc := 69) (v := .ref (mq 13)) X iX9_fewest_X9 hH 0 rfl rfl 17 rfl (List.mem_of_getElem? (i := 2) rfl) rfl dX9_fewest_69 ?_
    refine lv_iconst (v := 1) (pc := 72) hx hb dX9_fewest_72 zk_c1 ?_
    refine lv_iload_n (pc := 73) hx hb dX9_fewest_73 rfl (lv_at hl 1 rfl) ?_
    refine lv_ishl (pc := 74) hx hb dX9_fewest_74 ?_
    refine lv_iconst (v := 1) (pc := 75) hx hb dX9_fewest_75 zk_c1 ?_
    refine lv_isub (pc := 76) hx hb dX9_fewest_76 ?_
    obtain ⟨hin, h⟩ := zg h
    refine z_zald (pc := 77) X hH 13 rfl hin dX9_fewest_77 ?_
    refine lv_if_eq (pc := 78) (tgt := 83) hx hb dX9_fewest_78 rfl (fun zc2 => ?_) (fun zc2 => ?_)
    · have h := zt zc2 h
      refine lv_iconst (v := 0) (pc := 83) hx hb dX9_fewest_83 zk_c0 ?_
      refine lv_istore (pc := 84) (lv' := [(4, .int 0), (0, .ref (mq 0)), (2, .int x2), (3, .int x3)]) hx hb dX9_fewest_84 hl (by decide) rfl (fun ls hl => ?_)
      obtain ⟨zr3, hzr3, h⟩ := zb h
      refine w_X9_fewest_l86 G cy fu mq m_hosts m_lost m_late m_wait m_per m_blocks m_sends m_many m_made m_madeMany m_lacking m_thrown m_now m_ahead m_then m_time m_timeThen m_isThere x2 x3 X fu 0 m_comes zr3 hzr3 _ _ _ hH (lv_sub hl [1, 2, 3, 0] rfl) (fun H locs ls hH hl => ?_)
      refine lv_iconst (v := 0) (pc := 108) hx hb dX9_fewest_108 zk_c0 ?_
      refine lv_istore (pc := 109) (lv' := [(4, .int 0), (0, .ref (mq 0)), (2, .int x2), (3, .int x3)]) hx hb dX9_fewest_109 hl (by decide) rfl (fun ls hl => ?_)
      obtain ⟨zr4, hzr4, h⟩ := zb h
      refine w_X9_fewest_l111 G cy fu mq m_hosts m_lost m_late m_wait m_per m_blocks m_sends m_many m_made m_madeMany m_lacking m_thrown m_now m_ahead m_then m_time m_timeThen m_isThere x2 x3 X fu 0 zr3 zr4 hzr4 _ _ _ hH (lv_sub hl [1, 2, 3, 0] rfl) (fun H locs ls hH hl => ?_)
      refine lv_iconst (v := 0) (pc := 145) hx hb dX9_fewest_145 zk_c0 ?_
      refine lv_istore (pc := 146) (lv' := [(4, .int 0), (0, .ref (mq 0)), (2, .int x2), (3, .int x3)]) hx hb dX9_fewest_146 hl (by decide) rfl (fun ls hl => ?_)
      obtain ⟨zr5, hzr5, h⟩ := zb h
      refine w_X9_fewest_l148 G cy fu mq m_hosts m_lost m_late m_wait m_per m_blocks m_sends m_many m_made m_madeMany m_lacking m_thrown m_now m_ahead m_then m_time m_timeThen zr4 x2 x3 X fu 0 m_isThere zr5 hzr5 _ _ _ hH (lv_sub hl [1, 2, 3, 0] rfl) (fun H locs ls hH hl => ?_)
      refine lv_iinc (pc := 176) (v := (x3 + 1)) (lv' := [(3, .int (x3 + 1)), (0, .ref (mq 0)), (2, .int x2)]) hx hb dX9_fewest_176 hl (k := 2) rfl (by rw [zk_c1]) (by decide) rfl (fun ls hl => ?_)
      refine lv_goto (pc := 179) (tgt := 63) hx hb dX9_fewest_179 rfl ?_
      exact ih (x3 + 1) zr5 zr4 rr h _ _ _ hH (lv_sub hl [1, 2, 0] rfl) K0 K1
    have h := zf zc2 h
    exact K0 (x3, m_isThere, m_comes) (Option.some.inj h).symm _ _ _ hH (lv_sub hl [2] rfl)
set_option maxHeartbeats 4000000 in
set_option maxRecDepth 100000 in
theorem c_X9_fewest (l : Launch) (G : va_G) (cy : Nat → ClassId) (fu : Nat) (mq : Nat → Nat) (m_hosts : Int32) (m_lost : Nat → Int32) (m_late : Nat → Int32) (m_wait : Nat → Int32) (m_per : Nat → Int32) (m_blocks : Nat → Int32) (m_sends : Nat → Int32) (m_many : Int32) (m_made : Nat → Int32) (m_madeMany : Int32) (m_lacking : Int32) (m_thrown : Int32) (m_now : Nat → Int32) (m_ahead : Nat → Int32) (m_then : Nat → Int32) (m_time : Nat → Int32) (m_timeThen : Nat → Int32) (m_isThere : Nat → Int32) (m_comes : Nat → Int32) (x1 : Int32) (rr : Int32 × Int32 × (Nat → Int32) × (Nat → Int32)) (h : f_X9_fewest fu m_hosts m_lost m_wait m_isThere m_comes x1 = some rr) : zM l G cy yX9_fewest wsX9_fewest (zR 9 225) [.ref (mq 0), .int x1] (wM cy mq m_hosts m_lost m_late m_wait m_per m_blocks m_sends m_many m_made m_madeMany m_lacking m_thrown m_now m_ahead m_then m_time m_timeThen m_isThere m_comes) (wM cy mq m_hosts m_lost m_late m_wait m_per m_blocks m_sends m_many m_made m_madeMany m_lacking rr.2.1 m_now m_ahead m_then m_time m_timeThen rr.2.2.1 rr.2.2.2) (some (.int rr.1)) := by
  refine zM.mk (cc := cX9_fewest) (nL := 5) (ret := (some .int)) (by decide) rfl (Nat.le_of_ble_eq_true rfl) ?_
  intro p e s m below meth c A ls X hr hH hl
  replace X : zX p s m [.ref (mq 0), .int x1].toArray meth c RX9 cX9_fewest 5 wsX9_fewest G cy A := X
  have hx := X.1.1
  have hb := X.1.2.1
  replace hl : lv_has ls 5 [(0, .ref (mq 0)), (1, .int x1)] := hl
  dsimp only [f_X9_fewest] at h
  refine lv_aload_n (pc := 0) hx hb dX9_fewest_0 rfl (lv_at hl 0 rfl) ?_
  refine lv_iconst (v := 0) (pc := 1) hx hb dX9_fewest_1 zk_c0 ?_
  refine z_put (pc := 2) (v := .int 0) (ws' := wM cy mq m_hosts m_lost m_late m_wait m_per m_blocks m_sends m_many m_made m_madeMany m_lacking 0 m_now m_ahead m_then m_time m_timeThen m_isThere m_comes) X iX9_fewest_X9 tyX9 tyX9_ok nmX9 hH 0 rfl rfl 11 rfl (List.mem_of_getElem? (i := 1) rfl) rfl rfl rfl rfl rfl dX9_fewest_2 (fun H locs hH => ?_)
  refine lv_aload_n (pc := 5) hx hb dX9_fewest_5 rfl (lv_at hl 0 rfl) ?_
  obtain ⟨zr1, hzr1, h⟩ := zb h
  refine zcV (pc := 6) (As := []) (rest := []) (st1 := [.int zr1]) (ws' := wM cy mq m_hosts m_lost m_late m_wait m_per m_blocks m_sends m_many m_made m_madeMany m_lacking 0 m_now m_ahead m_then m_time m_timeThen m_isThere m_comes) (wr := []) (n := 0) (q0 := 0) X (c_X9_liveMany l G cy fu mq m_hosts m_lost m_late m_wait m_per m_blocks m_sends m_many m_made m_madeMany m_lacking 0 m_now m_ahead m_then m_time m_timeThen m_isThere m_comes zr1 hzr1) hH [0, 1, 2, 3, 4, 5, 6, 7, 8, 9, 10, 11, 12, 13, 14] [] [0, 1, 2, 3, 4, 5, 6, 7, 8, 9, 10, 11, 12, 13, 14] rfl rfl rfl rfl gX9_fewest_X9_liveMany rfl ⟨rfl, rfl⟩ kX9_liveMany ⟨Nat.le_of_ble_eq_true rfl, Nat.le_of_ble_eq_true rfl⟩ rfl rfl rfl rfl rfl hl.1 (Nat.le_of_ble_eq_true rfl) ⟨Nat.le_of_ble_eq_true rfl, Nat.le_of_ble_eq_true rfl⟩ dX9_fewest_6 (fun H locs hH => ?_)
  refine lv_istore_n (pc := 9) (lv' := [(2, .int zr1), (0, .ref (mq 0)), (1, .int x1)]) hx hb dX9_fewest_9 rfl hl (by decide) rfl (fun ls hl => ?_)
  refine lv_aload_n (pc := 10) hx hb dX9_fewest_10 rfl (lv_at hl 1 rfl) ?_
  refine lv_iload_n (pc := 11) hx hb dX9_fewest_11 rfl (lv_at hl 2 rfl) ?_
  obtain ⟨zr2, hzr2, h⟩ := zb h
  refine zcV (pc := 12) (As := [.int x1]) (rest := []) (st1 := [.int zr2]) (ws' := wM cy mq m_hosts m_lost m_late m_wait m_per m_blocks m_sends m_many m_made m_madeMany m_lacking 0 m_now m_ahead m_then m_time m_timeThen m_isThere m_comes) (wr := []) (n := 1) (q0 := 0) X (c_X9_isLive l G cy fu mq m_hosts m_lost m_late m_wait m_per m_blocks m_sends m_many m_made m_madeMany m_lacking 0 m_now m_ahead m_then m_time m_timeThen m_isThere m_comes x1 zr2 hzr2) hH [0, 1, 2, 3, 4, 5, 6, 7, 8, 9, 10, 11, 12, 13, 14] [] [0, 1, 2, 3, 4, 5, 6, 7, 8, 9, 10, 11, 12, 13, 14] rfl rfl rfl rfl gX9_fewest_X9_isLive rfl ⟨rfl, rfl⟩ kX9_isLive ⟨Nat.le_of_ble_eq_true rfl, Nat.le_of_ble_eq_true rfl⟩ rfl rfl rfl rfl rfl hl.1 (Nat.le_of_ble_eq_true rfl) ⟨Nat.le_of_ble_eq_true rfl, Nat.le_of_ble_eq_true rfl⟩ dX9_fewest_12 (fun H locs hH => ?_)
  refine lv_if_eq (pc := 15) (tgt := 24) hx hb dX9_fewest_15 rfl (fun zc3 => ?_) (fun zc3 => ?_)
  · have h := zt zc3 h
    refine lv_iconst (v := (-1)) (pc := 24) hx hb dX9_fewest_24 zk_cm1 ?_
    obtain rfl := Option.some.inj h
    exact z_iret X hr hH dX9_fewest_25
  have h := zf zc3 h
  refine lv_iload_n (pc := 18) hx hb dX9_fewest_18 rfl (lv_at hl 0 rfl) ?_
  refine lv_bipush (v := 8) (pc := 19) hx hb dX9_fewest_19 zk_b8 ?_
  refine lv_icmp_le (pc := 21) (tgt := 26) hx hb dX9_fewest_21 rfl (fun zc4 => ?_) (fun zc4 => ?_)
  · have h := zt zc4 h
    refine lv_iconst (v := 0) (pc := 26) hx hb dX9_fewest_26 zk_c0 ?_
    refine lv_istore_n (pc := 27) (lv' := [(3, .int 0), (2, .int zr1), (0, .ref (mq 0)), (1, .int x1)]) hx hb dX9_fewest_27 rfl hl (by decide) rfl (fun ls hl => ?_)
    obtain ⟨zr5, hzr5, h⟩ := zb h
    refine w_X9_fewest_l28 G cy fu mq m_hosts m_lost m_late m_wait m_per m_blocks m_sends m_many m_made m_madeMany m_lacking 0 m_now m_ahead m_then m_time m_timeThen m_comes x1 zr1 X fu 0 m_isThere zr5 hzr5 _ _ _ hH (lv_sub hl [2, 3, 1, 0] rfl) (fun H locs ls hH hl => ?_)
    refine lv_aload_n (pc := 48) hx hb dX9_fewest_48 rfl (lv_at hl 0 rfl) ?_
    refine z_get (pc := 49) (v := .ref (mq 13)) X iX9_fewest_X9 hH 0 rfl rfl 17 rfl (List.mem_of_getElem? (i := 2) rfl) rfl dX9_fewest_49 ?_
    refine lv_iconst (v := 1) (pc := 52) hx hb dX9_fewest_52 zk_c1 ?_
    refine lv_aload_n (pc := 53) hx hb dX9_fewest_53 rfl (lv_at hl 0 rfl) ?_
    refine lv_iload_n (pc := 54) hx hb dX9_fewest_54 rfl (lv_at hl 1 rfl) ?_
    obtain ⟨zr6, hzr6, h⟩ := zb h
    refine zcV (pc := 55) (As := [.int x1]) (rest := [.int 1, .ref (mq 13)]) (st1 := [.int zr6, .int 1, .ref (mq 13)]) (ws' := wM cy mq m_hosts m_lost m_late m_wait m_per m_blocks m_sends m_many m_made m_madeMany m_lacking 0 m_now m_ahead m_then m_time m_timeThen zr5 m_comes) (wr := []) (n := 1) (q0 := 0) X (c_X9_rankOf l G cy fu mq m_hosts m_lost m_late m_wait m_per m_blocks m_sends m_many m_made m_madeMany m_lacking 0 m_now m_ahead m_then m_time m_timeThen zr5 m_comes x1 zr6 hzr6) hH [0, 1, 2, 3, 4, 5, 6, 7, 8, 9, 10, 11, 12, 13, 14] [] [0, 1, 2, 3, 4, 5, 6, 7, 8, 9, 10, 11, 12, 13, 14] rfl rfl rfl rfl gX9_fewest_X9_rankOf rfl ⟨rfl, rfl⟩ kX9_rankOf ⟨Nat.le_of_ble_eq_true rfl, Nat.le_of_ble_eq_true rfl⟩ rfl rfl rfl rfl rfl hl.1 (Nat.le_of_ble_eq_true rfl) ⟨Nat.le_of_ble_eq_true rfl, Nat.le_of_ble_eq_true rfl⟩ dX9_fewest_55 (fun H locs hH => ?_)
    refine lv_ishl (pc := 58) hx hb dX9_fewest_58 ?_
    refine lv_iconst (v := 1) (pc := 59) hx hb dX9_fewest_59 zk_c1 ?_
    obtain ⟨hin, h⟩ := zg h
    refine z_zast (pc := 60) (ws' := wM cy mq m_hosts m_lost m_late m_wait m_per m_blocks m_sends m_many m_made m_madeMany m_lacking 0 m_now m_ahead m_then m_time m_timeThen (upd zr5 ((1 <<< (zr6 &&& 31))).toNatClampNeg (vp_nar .boolean 1)) m_comes) X hH 13 rfl hin rfl dX9_fewest_60 (fun H locs hH => ?_)
    refine lv_iconst (v := 0) (pc := 61) hx hb dX9_fewest_61 zk_c0 ?_
    refine lv_istore_n (pc := 62) (lv' := [(3, .int 0), (0, .ref (mq 0)), (1, .int x1), (2, .int zr1)]) hx hb dX9_fewest_62 rfl hl (by decide) rfl (fun ls hl => ?_)
    obtain ⟨zr7, hzr7, h⟩ := zb h
    refine w_X9_fewest_l63 G cy fu mq m_hosts m_lost m_late m_wait m_per m_blocks m_sends m_many m_made m_madeMany m_lacking 0 m_now m_ahead m_then m_time m_timeThen zr1 X fu 0 (upd zr5 ((1 <<< (zr6 &&& 31))).toNatClampNeg (vp_nar .boolean 1)) m_comes zr7 hzr7 _ _ _ hH (lv_sub hl [1, 3, 0] rfl) (fun zr7_0 ezr7_0 H locs ls hH hl => ?_) (fun zr7_1 ezr7_1 H locs ls hH hl => ?_)
    · rw [ezr7_0] at h
      have h := zsum_l h
      refine lv_iload_n (pc := 81) hx hb dX9_fewest_81 rfl (lv_at hl 0 rfl) ?_
      obtain rfl := Option.some.inj h
      exact z_iret X hr hH dX9_fewest_82
    rw [ezr7_1] at h
    have h := zsum_r h
    refine lv_iconst (v := (-1)) (pc := 182) hx hb dX9_fewest_182 zk_cm1 ?_
    obtain rfl := Option.some.inj h
    exact z_iret X hr hH dX9_fewest_183
  have h := zf zc4 h
  refine lv_iconst (v := (-1)) (pc := 24) hx hb dX9_fewest_24 zk_cm1 ?_
  obtain rfl := Option.some.inj h
  exact z_iret X hr hH dX9_fewest_25
