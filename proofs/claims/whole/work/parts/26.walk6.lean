set_option maxHeartbeats 4000000 in
set_option maxRecDepth 100000 in
theorem w_X9_stepsOf_l4 {p : Program} {l : Launch} {e : Env} {s : State} {m : MethodId} {args : Array Value} {below : List Frame} {meth : Method} {c : Code} {A : Nat → Prop} {Q : State → Prop} (G : va_G) (cy : Nat → ClassId) (fu : Nat) (va : Nat) (v_row : Nat → Int32) (x1 : Int32) (X : zX p s m args meth c RX9 cX9_stepsOf 4 wsX9_stepsOf G cy A) : ∀ (n : Nat) (x2 : Int32) (x3 : Int32) (rr : Int32) (h : lp (f_X9_stepsOf_l4 fu v_row x1) n (x2, x3) = some rr) (H : Heap) (locs : List Loc) (ls : Array Slot) (hH : zH G A s.heap ([(va, .inl (cy 0, 7200, .inl v_row))]) H locs) (hl : lv_has ls 4 [(0, .ref va), (1, .int x1), (2, .int x2), (3, .int x3)]) (K0 : ∀ (H : Heap) (locs : List Loc) (ls : Array Slot), zH G A s.heap ([(va, .inl (cy 0, 7200, .inl v_row))]) H locs → lv_has ls 4 [(2, .int rr)] → W p l e (zR 0 0) s m args below meth c H locs 0 0 Q (F0 m 40 ls [])), W p l e (zR 0 0) s m args below meth c H locs 0 0 Q (F0 m 4 ls []) := by
  have hx := X.1.1
  have hb := X.1.2.1
  intro n
  induction n with
  | zero => intro x2 x3 rr h H locs ls hH hl K0; cases h
  | succ n ih =>
    intro x2 x3 rr h H locs ls hH hl K0
    replace h : f_X9_stepsOf_l4 fu v_row x1 (lp (f_X9_stepsOf_l4 fu v_row x1) n) (x2, x3) = some rr := h
    dsimp only [f_X9_stepsOf_l4] at h
    refine lv_iload_n (pc := 4) hx hb dX9_stepsOf_4 rfl (lv_at hl 3 rfl) ?_
    refine lv_iload_n (pc := 5) hx hb dX9_stepsOf_5 rfl (lv_at hl 1 rfl) ?_
    refine lv_icmp_ge (pc := 6) (tgt := 40) hx hb dX9_stepsOf_6 rfl (fun zc1 => ?_) (fun zc1 => ?_)
    · have h := zt zc1 h
      obtain rfl := Option.some.inj h
      exact K0 _ _ _ hH (lv_sub hl [2] rfl)
    have h := zf zc1 h
    refine lv_aload_n (pc := 9) hx hb dX9_stepsOf_9 rfl (lv_at hl 0 rfl) ?_
    refine lv_bipush (v := 6) (pc := 10) hx hb dX9_stepsOf_10 zk_b6 ?_
    refine lv_iload_n (pc := 12) hx hb dX9_stepsOf_12 rfl (lv_at hl 3 rfl) ?_
    refine lv_imul (pc := 13) hx hb dX9_stepsOf_13 ?_
    obtain ⟨hin, h⟩ := zg h
    refine z_iald (pc := 14) X hH 0 rfl hin dX9_stepsOf_14 ?_
    refine lv_iconst (v := 1) (pc := 15) hx hb dX9_stepsOf_15 zk_c1 ?_
    refine lv_iadd (pc := 16) hx hb dX9_stepsOf_16 ?_
    refine lv_iload_n (pc := 17) hx hb dX9_stepsOf_17 rfl (lv_at hl 2 rfl) ?_
    refine lv_icmp_le (pc := 18) (tgt := 32) hx hb dX9_stepsOf_18 rfl (fun zc2 => ?_) (fun zc2 => ?_)
    · have h := zt zc2 h
      refine lv_iload_n (pc := 32) hx hb dX9_stepsOf_32 rfl (lv_at hl 2 rfl) ?_
      refine lv_istore_n (pc := 33) (lv' := [(2, .int x2), (0, .ref va), (1, .int x1), (3, .int x3)]) hx hb dX9_stepsOf_33 rfl hl (by decide) rfl (fun ls hl => ?_)
      refine lv_iinc (pc := 34) (v := (x3 + 1)) (lv' := [(3, .int (x3 + 1)), (2, .int x2), (0, .ref va), (1, .int x1)]) hx hb dX9_stepsOf_34 hl (k := 3) rfl (by rw [zk_c1]) (by decide) rfl (fun ls hl => ?_)
      refine lv_goto (pc := 37) (tgt := 4) hx hb dX9_stepsOf_37 rfl ?_
      exact ih x2 (x3 + 1) rr h _ _ _ hH (lv_sub hl [2, 3, 1, 0] rfl) K0
    have h := zf zc2 h
    refine lv_aload_n (pc := 21) hx hb dX9_stepsOf_21 rfl (lv_at hl 0 rfl) ?_
    refine lv_bipush (v := 6) (pc := 22) hx hb dX9_stepsOf_22 zk_b6 ?_
    refine lv_iload_n (pc := 24) hx hb dX9_stepsOf_24 rfl (lv_at hl 3 rfl) ?_
    refine lv_imul (pc := 25) hx hb dX9_stepsOf_25 ?_
    obtain ⟨hin, h⟩ := zg h
    refine z_iald (pc := 26) X hH 0 rfl hin dX9_stepsOf_26 ?_
    refine lv_iconst (v := 1) (pc := 27) hx hb dX9_stepsOf_27 zk_c1 ?_
    refine lv_iadd (pc := 28) hx hb dX9_stepsOf_28 ?_
    refine lv_goto (pc := 29) (tgt := 33) hx hb dX9_stepsOf_29 rfl ?_
    refine lv_topi (fun za3 eza3 => ?_)
    have h := vn_s h za3 eza3
    refine lv_istore_n (pc := 33) (lv' := [(2, .int za3), (0, .ref va), (1, .int x1), (3, .int x3)]) hx hb dX9_stepsOf_33 rfl hl (by decide) rfl (fun ls hl => ?_)
    refine lv_iinc (pc := 34) (v := (x3 + 1)) (lv' := [(3, .int (x3 + 1)), (2, .int za3), (0, .ref va), (1, .int x1)]) hx hb dX9_stepsOf_34 hl (k := 3) rfl (by rw [zk_c1]) (by decide) rfl (fun ls hl => ?_)
    refine lv_goto (pc := 37) (tgt := 4) hx hb dX9_stepsOf_37 rfl ?_
    exact ih za3 (x3 + 1) rr h _ _ _ hH (lv_sub hl [2, 3, 1, 0] rfl) K0
set_option maxHeartbeats 4000000 in
set_option maxRecDepth 100000 in
theorem c_X9_stepsOf (l : Launch) (G : va_G) (cy : Nat → ClassId) (fu : Nat) (va : Nat) (v_row : Nat → Int32) (x1 : Int32) (rr : Int32) (h : f_X9_stepsOf fu v_row x1 = some rr) : zM l G cy yX9_stepsOf wsX9_stepsOf (zR 0 0) [.ref va, .int x1] ([(va, .inl (cy 0, 7200, .inl v_row))]) ([(va, .inl (cy 0, 7200, .inl v_row))]) (some (.int rr)) := by
  refine zM.mk (cc := cX9_stepsOf) (nL := 4) (ret := (some .int)) (by decide) rfl (Nat.le_of_ble_eq_true rfl) ?_
  intro p e s m below meth c A ls X hr hH hl
  replace X : zX p s m [.ref va, .int x1].toArray meth c RX9 cX9_stepsOf 4 wsX9_stepsOf G cy A := X
  have hx := X.1.1
  have hb := X.1.2.1
  replace hl : lv_has ls 4 [(0, .ref va), (1, .int x1)] := hl
  dsimp only [f_X9_stepsOf] at h
  refine lv_iconst (v := 0) (pc := 0) hx hb dX9_stepsOf_0 zk_c0 ?_
  refine lv_istore_n (pc := 1) (lv' := [(2, .int 0), (0, .ref va), (1, .int x1)]) hx hb dX9_stepsOf_1 rfl hl (by decide) rfl (fun ls hl => ?_)
  refine lv_iconst (v := 0) (pc := 2) hx hb dX9_stepsOf_2 zk_c0 ?_
  refine lv_istore_n (pc := 3) (lv' := [(3, .int 0), (2, .int 0), (0, .ref va), (1, .int x1)]) hx hb dX9_stepsOf_3 rfl hl (by decide) rfl (fun ls hl => ?_)
  obtain ⟨zr1, hzr1, h⟩ := zb h
  refine w_X9_stepsOf_l4 G cy fu  va v_row x1 X fu 0 0 zr1 hzr1 _ _ _ hH (lv_sub hl [2, 3, 1, 0] rfl) (fun H locs ls hH hl => ?_)
  refine lv_iload_n (pc := 40) hx hb dX9_stepsOf_40 rfl (lv_at hl 0 rfl) ?_
  obtain rfl := Option.some.inj h
  exact z_iret X hr hH dX9_stepsOf_41
set_option maxHeartbeats 4000000 in
set_option maxRecDepth 100000 in
theorem w_X9_letter_l6 {p : Program} {l : Launch} {e : Env} {s : State} {m : MethodId} {args : Array Value} {below : List Frame} {meth : Method} {c : Code} {A : Nat → Prop} {Q : State → Prop} (G : va_G) (cy : Nat → ClassId) (fu : Nat) (va : Nat) (v_row : Nat → Int32) (x1 : Int32) (x2 : Int32) (x3 : Int32) (x4 : Int32) (X : zX p s m args meth c RX9 cX9_letter 7 wsX9_letter G cy A) : ∀ (n : Nat) (x5 : Int32) (x6 : Int32) (rr : Int32) (h : lp (f_X9_letter_l6 fu v_row x1 x2 x3 x4) n (x5, x6) = some rr) (H : Heap) (locs : List Loc) (ls : Array Slot) (hH : zH G A s.heap ([(va, .inl (cy 0, 7200, .inl v_row))]) H locs) (hl : lv_has ls 7 [(0, .ref va), (1, .int x1), (2, .int x2), (3, .int x3), (4, .int x4), (5, .int x5), (6, .int x6)]) (K0 : ∀ (H : Heap) (locs : List Loc) (ls : Array Slot), zH G A s.heap ([(va, .inl (cy 0, 7200, .inl v_row))]) H locs → lv_has ls 7 [(5, .int rr)] → W p l e (zR 0 0) s m args below meth c H locs 0 0 Q (F0 m 59 ls [])), W p l e (zR 0 0) s m args below meth c H locs 0 0 Q (F0 m 6 ls []) := by
  have hx := X.1.1
  have hb := X.1.2.1
  intro n
  induction n with
  | zero => intro x5 x6 rr h H locs ls hH hl K0; cases h
  | succ n ih =>
    intro x5 x6 rr h H locs ls hH hl K0
    replace h : f_X9_letter_l6 fu v_row x1 x2 x3 x4 (lp (f_X9_letter_l6 fu v_row x1 x2 x3 x4) n) (x5, x6) = some rr := h
    dsimp only [f_X9_letter_l6] at h
    refine lv_iload (pc := 6) hx hb dX9_letter_6 (lv_at hl 6 rfl) ?_
    refine lv_iload_n (pc := 8) hx hb dX9_letter_8 rfl (lv_at hl 1 rfl) ?_
    refine lv_icmp_ge (pc := 9) (tgt := 59) hx hb dX9_letter_9 rfl (fun zc1 => ?_) (fun zc1 => ?_)
    · have h := zt zc1 h
      obtain rfl := Option.some.inj h
      exact K0 _ _ _ hH (lv_sub hl [5] rfl)
    have h := zf zc1 h
    refine lv_aload_n (pc := 12) hx hb dX9_letter_12 rfl (lv_at hl 0 rfl) ?_
    refine lv_bipush (v := 6) (pc := 13) hx hb dX9_letter_13 zk_b6 ?_
    refine lv_iload (pc := 15) hx hb dX9_letter_15 (lv_at hl 6 rfl) ?_
    refine lv_imul (pc := 17) hx hb dX9_letter_17 ?_
    obtain ⟨hin, h⟩ := zg h
    refine z_iald (pc := 18) X hH 0 rfl hin dX9_letter_18 ?_
    refine lv_iload_n (pc := 19) hx hb dX9_letter_19 rfl (lv_at hl 2 rfl) ?_
    refine lv_icmp_ne (pc := 20) (tgt := 53) hx hb dX9_letter_20 rfl (fun zc2 => ?_) (fun zc2 => ?_)
    · have h := zf zc2 h
      refine lv_iinc (pc := 53) (v := (x6 + 1)) (lv' := [(6, .int (x6 + 1)), (0, .ref va), (1, .int x1), (2, .int x2), (3, .int x3), (4, .int x4), (5, .int x5)]) hx hb dX9_letter_53 hl (k := 6) rfl (by rw [zk_c1]) (by decide) rfl (fun ls hl => ?_)
      refine lv_goto (pc := 56) (tgt := 6) hx hb dX9_letter_56 rfl ?_
      exact ih x5 (x6 + 1) rr h _ _ _ hH (lv_sub hl [1, 2, 3, 4, 5, 6, 0] rfl) K0
    have h := zt zc2 h
    refine lv_aload_n (pc := 23) hx hb dX9_letter_23 rfl (lv_at hl 0 rfl) ?_
    refine lv_bipush (v := 6) (pc := 24) hx hb dX9_letter_24 zk_b6 ?_
    refine lv_iload (pc := 26) hx hb dX9_letter_26 (lv_at hl 6 rfl) ?_
    refine lv_imul (pc := 28) hx hb dX9_letter_28 ?_
    refine lv_iconst (v := 1) (pc := 29) hx hb dX9_letter_29 zk_c1 ?_
    refine lv_iadd (pc := 30) hx hb dX9_letter_30 ?_
    obtain ⟨hin, h⟩ := zg h
    refine z_iald (pc := 31) X hH 0 rfl hin dX9_letter_31 ?_
    refine lv_iload_n (pc := 32) hx hb dX9_letter_32 rfl (lv_at hl 3 rfl) ?_
    refine lv_icmp_ne (pc := 33) (tgt := 53) hx hb dX9_letter_33 rfl (fun zc3 => ?_) (fun zc3 => ?_)
    · have h := zf zc3 h
      refine lv_iinc (pc := 53) (v := (x6 + 1)) (lv' := [(6, .int (x6 + 1)), (0, .ref va), (1, .int x1), (2, .int x2), (3, .int x3), (4, .int x4), (5, .int x5)]) hx hb dX9_letter_53 hl (k := 6) rfl (by rw [zk_c1]) (by decide) rfl (fun ls hl => ?_)
      refine lv_goto (pc := 56) (tgt := 6) hx hb dX9_letter_56 rfl ?_
      exact ih x5 (x6 + 1) rr h _ _ _ hH (lv_sub hl [1, 2, 3, 4, 5, 6, 0] rfl) K0
    have h := zt zc3 h
    refine lv_aload_n (pc := 36) hx hb dX9_letter_36 rfl (lv_at hl 0 rfl) ?_
    refine lv_bipush (v := 6) (pc := 37) hx hb dX9_letter_37 zk_b6 ?_
    refine lv_iload (pc := 39) hx hb dX9_letter_39 (lv_at hl 6 rfl) ?_
    refine lv_imul (pc := 41) hx hb dX9_letter_41 ?_
    refine lv_iconst (v := 2) (pc := 42) hx hb dX9_letter_42 zk_c2 ?_
    refine lv_iadd (pc := 43) hx hb dX9_letter_43 ?_
    obtain ⟨hin, h⟩ := zg h
    refine z_iald (pc := 44) X hH 0 rfl hin dX9_letter_44 ?_
    refine lv_iload (pc := 45) hx hb dX9_letter_45 (lv_at hl 4 rfl) ?_
    refine lv_icmp_ne (pc := 47) (tgt := 53) hx hb dX9_letter_47 rfl (fun zc4 => ?_) (fun zc4 => ?_)
    · have h := zf zc4 h
      refine lv_iinc (pc := 53) (v := (x6 + 1)) (lv' := [(6, .int (x6 + 1)), (0, .ref va), (1, .int x1), (2, .int x2), (3, .int x3), (4, .int x4), (5, .int x5)]) hx hb dX9_letter_53 hl (k := 6) rfl (by rw [zk_c1]) (by decide) rfl (fun ls hl => ?_)
      refine lv_goto (pc := 56) (tgt := 6) hx hb dX9_letter_56 rfl ?_
      exact ih x5 (x6 + 1) rr h _ _ _ hH (lv_sub hl [1, 2, 3, 4, 5, 6, 0] rfl) K0
    have h := zt zc4 h
    refine lv_iinc (pc := 50) (v := (x5 + 1)) (lv' := [(5, .int (x5 + 1)), (0, .ref va), (1, .int x1), (2, .int x2), (3, .int x3), (4, .int x4), (6, .int x6)]) hx hb dX9_letter_50 hl (k := 5) rfl (by rw [zk_c1]) (by decide) rfl (fun ls hl => ?_)
    refine lv_iinc (pc := 53) (v := (x6 + 1)) (lv' := [(6, .int (x6 + 1)), (5, .int (x5 + 1)), (0, .ref va), (1, .int x1), (2, .int x2), (3, .int x3), (4, .int x4)]) hx hb dX9_letter_53 hl (k := 6) rfl (by rw [zk_c1]) (by decide) rfl (fun ls hl => ?_)
    refine lv_goto (pc := 56) (tgt := 6) hx hb dX9_letter_56 rfl ?_
    exact ih (x5 + 1) (x6 + 1) rr h _ _ _ hH (lv_sub hl [2, 3, 4, 5, 6, 1, 0] rfl) K0
set_option maxHeartbeats 4000000 in
set_option maxRecDepth 100000 in
theorem c_X9_letter (l : Launch) (G : va_G) (cy : Nat → ClassId) (fu : Nat) (va : Nat) (v_row : Nat → Int32) (x1 : Int32) (x2 : Int32) (x3 : Int32) (x4 : Int32) (rr : Int32) (h : f_X9_letter fu v_row x1 x2 x3 x4 = some rr) : zM l G cy yX9_letter wsX9_letter (zR 0 0) [.ref va, .int x1, .int x2, .int x3, .int x4] ([(va, .inl (cy 0, 7200, .inl v_row))]) ([(va, .inl (cy 0, 7200, .inl v_row))]) (some (.int rr)) := by
  refine zM.mk (cc := cX9_letter) (nL := 7) (ret := (some .int)) (by decide) rfl (Nat.le_of_ble_eq_true rfl) ?_
  intro p e s m below meth c A ls X hr hH hl
  replace X : zX p s m [.ref va, .int x1, .int x2, .int x3, .int x4].toArray meth c RX9 cX9_letter 7 wsX9_letter G cy A := X
  have hx := X.1.1
  have hb := X.1.2.1
  replace hl : lv_has ls 7 [(0, .ref va), (1, .int x1), (2, .int x2), (3, .int x3), (4, .int x4)] := hl
  dsimp only [f_X9_letter] at h
  refine lv_iconst (v := 0) (pc := 0) hx hb dX9_letter_0 zk_c0 ?_
  refine lv_istore (pc := 1) (lv' := [(5, .int 0), (0, .ref va), (1, .int x1), (2, .int x2), (3, .int x3), (4, .int x4)]) hx hb dX9_letter_1 hl (by decide) rfl (fun ls hl => ?_)
  refine lv_iconst (v := 0) (pc := 3) hx hb dX9_letter_3 zk_c0 ?_
  refine lv_istore (pc := 4) (lv' := [(6, .int 0), (5, .int 0), (0, .ref va), (1, .int x1), (2, .int x2), (3, .int x3), (4, .int x4)]) hx hb dX9_letter_4 hl (by decide) rfl (fun ls hl => ?_)
  obtain ⟨zr1, hzr1, h⟩ := zb h
  refine w_X9_letter_l6 G cy fu  va v_row x1 x2 x3 x4 X fu 0 0 zr1 hzr1 _ _ _ hH (lv_sub hl [2, 3, 4, 5, 6, 1, 0] rfl) (fun H locs ls hH hl => ?_)
  refine lv_iload (pc := 59) hx hb dX9_letter_59 (lv_at hl 0 rfl) ?_
  obtain rfl := Option.some.inj h
  exact z_iret X hr hH dX9_letter_61
set_option maxHeartbeats 4000000 in
set_option maxRecDepth 100000 in
theorem w_X9_letters_l17 {p : Program} {l : Launch} {e : Env} {s : State} {m : MethodId} {args : Array Value} {below : List Frame} {meth : Method} {c : Code} {A : Nat → Prop} {Q : State → Prop} (G : va_G) (cy : Nat → ClassId) (fu : Nat) (mq : Nat → Nat) (m_hosts : Int32) (m_lost : Nat → Int32) (m_late : Nat → Int32) (m_wait : Nat → Int32) (m_per : Nat → Int32) (m_blocks : Nat → Int32) (m_sends : Nat → Int32) (m_many : Int32) (m_made : Nat → Int32) (m_madeMany : Int32) (m_lacking : Int32) (m_thrown : Int32) (m_now : Nat → Int32) (m_ahead : Nat → Int32) (m_then : Nat → Int32) (m_time : Nat → Int32) (m_timeThen : Nat → Int32) (m_isThere : Nat → Int32) (m_comes : Nat → Int32) (x1 : Int32) (x2 : Int32) (X : zX p s m args meth c RX9 cX9_letters 5 wsX9_letters G cy A) : ∀ (n : Nat) (x3 : Int32) (x4 : Int32) (rr : Int32) (h : lp (f_X9_letters_l17 fu m_sends x2) n (x3, x4) = some rr) (H : Heap) (locs : List Loc) (ls : Array Slot) (hH : zH G A s.heap (wM cy mq m_hosts m_lost m_late m_wait m_per m_blocks m_sends m_many m_made m_madeMany m_lacking m_thrown m_now m_ahead m_then m_time m_timeThen m_isThere m_comes) H locs) (hl : lv_has ls 5 [(0, .ref (mq 0)), (1, .int x1), (2, .int x2), (3, .int x3), (4, .int x4)]) (K0 : ∀ (H : Heap) (locs : List Loc) (ls : Array Slot), zH G A s.heap (wM cy mq m_hosts m_lost m_late m_wait m_per m_blocks m_sends m_many m_made m_madeMany m_lacking m_thrown m_now m_ahead m_then m_time m_timeThen m_isThere m_comes) H locs → lv_has ls 5 [(0, .ref (mq 0)), (1, .int x1), (2, .int x2), (3, .int rr)] → W p l e (zR 0 0) s m args below meth c H locs 0 0 Q (F0 m 87 ls [])), W p l e (zR 0 0) s m args below meth c H locs 0 0 Q (F0 m 17 ls []) := by
  have hx := X.1.1
  have hb := X.1.2.1
  intro n
  induction n with
  | zero => intro x3 x4 rr h H locs ls hH hl K0; cases h
  | succ n ih =>
    intro x3 x4 rr h H locs ls hH hl K0
    replace h : f_X9_letters_l17 fu m_sends x2 (lp (f_X9_letters_l17 fu m_sends x2) n) (x3, x4) = some rr := h
    dsimp only [f_X9_letters_l17] at h
    refine lv_iload (pc := 17) hx hb dX9_letters_17 (lv_at hl 4 rfl) ?_
    refine lv_iload_n (pc := 19) hx hb dX9_letters_19 rfl (lv_at hl 2 rfl) ?_
    refine lv_icmp_ge (pc := 20) (tgt := 87) hx hb dX9_letters_20 rfl (fun zc1 => ?_) (fun zc1 => ?_)
    · have h := zt zc1 h
      obtain rfl := Option.some.inj h
      exact K0 _ _ _ hH (lv_sub hl [0, 1, 2, 3] rfl)
    have h := zf zc1 h
    refine lv_iload_n (pc := 23) hx hb dX9_letters_23 rfl (lv_at hl 3 rfl) ?_
    refine lv_if_eq (pc := 24) (tgt := 79) hx hb dX9_letters_24 rfl (fun zc2 => ?_) (fun zc2 => ?_)
    · have h := zt zc2 h
      refine lv_iconst (v := 0) (pc := 79) hx hb dX9_letters_79 zk_c0 ?_
      refine lv_istore_n (pc := 80) (lv' := [(3, .int 0), (0, .ref (mq 0)), (1, .int x1), (2, .int x2), (4, .int x4)]) hx hb dX9_letters_80 rfl hl (by decide) rfl (fun ls hl => ?_)
      refine lv_iinc (pc := 81) (v := (x4 + 1)) (lv' := [(4, .int (x4 + 1)), (3, .int 0), (0, .ref (mq 0)), (1, .int x1), (2, .int x2)]) hx hb dX9_letters_81 hl (k := 4) rfl (by rw [zk_c1]) (by decide) rfl (fun ls hl => ?_)
      refine lv_goto (pc := 84) (tgt := 17) hx hb dX9_letters_84 rfl ?_
      exact ih 0 (x4 + 1) rr h _ _ _ hH (lv_sub hl [2, 3, 4, 1, 0] rfl) K0
    have h := zf zc2 h
    refine lv_aload_n (pc := 27) hx hb dX9_letters_27 rfl (lv_at hl 0 rfl) ?_
    refine z_get (pc := 28) (v := .ref (mq 6)) X iX9_letters_X9 hH 0 rfl rfl 6 rfl (List.mem_of_getElem? (i := 2) rfl) rfl dX9_letters_28 ?_
    refine lv_bipush (v := 6) (pc := 31) hx hb dX9_letters_31 zk_b6 ?_
    refine lv_iload (pc := 33) hx hb dX9_letters_33 (lv_at hl 4 rfl) ?_
    refine lv_imul (pc := 35) hx hb dX9_letters_35 ?_
    obtain ⟨hin, h⟩ := zg h
    refine z_iald (pc := 36) X hH 6 rfl hin dX9_letters_36 ?_
    refine lv_aload_n (pc := 37) hx hb dX9_letters_37 rfl (lv_at hl 0 rfl) ?_
    refine z_get (pc := 38) (v := .ref (mq 6)) X iX9_letters_X9 hH 0 rfl rfl 6 rfl (List.mem_of_getElem? (i := 2) rfl) rfl dX9_letters_38 ?_
    refine lv_bipush (v := 6) (pc := 41) hx hb dX9_letters_41 zk_b6 ?_
    refine lv_iload_n (pc := 43) hx hb dX9_letters_43 rfl (lv_at hl 2 rfl) ?_
    refine lv_imul (pc := 44) hx hb dX9_letters_44 ?_
    obtain ⟨hin, h⟩ := zg h
    refine z_iald (pc := 45) X hH 6 rfl hin dX9_letters_45 ?_
    refine lv_icmp_ne (pc := 46) (tgt := 75) hx hb dX9_letters_46 rfl (fun zc3 => ?_) (fun zc3 => ?_)
    · have h := zf zc3 h
      refine lv_iconst (v := 1) (pc := 75) hx hb dX9_letters_75 zk_c1 ?_
      refine lv_goto (pc := 76) (tgt := 80) hx hb dX9_letters_76 rfl ?_
      refine lv_istore_n (pc := 80) (lv' := [(3, .int 1), (0, .ref (mq 0)), (1, .int x1), (2, .int x2), (4, .int x4)]) hx hb dX9_letters_80 rfl hl (by decide) rfl (fun ls hl => ?_)
      refine lv_iinc (pc := 81) (v := (x4 + 1)) (lv' := [(4, .int (x4 + 1)), (3, .int 1), (0, .ref (mq 0)), (1, .int x1), (2, .int x2)]) hx hb dX9_letters_81 hl (k := 4) rfl (by rw [zk_c1]) (by decide) rfl (fun ls hl => ?_)
      refine lv_goto (pc := 84) (tgt := 17) hx hb dX9_letters_84 rfl ?_
      exact ih 1 (x4 + 1) rr h _ _ _ hH (lv_sub hl [2, 3, 4, 1, 0] rfl) K0
    have h := zt zc3 h
    refine lv_aload_n (pc := 49) hx hb dX9_letters_49 rfl (lv_at hl 0 rfl) ?_
    refine z_get (pc := 50) (v := .ref (mq 6)) X iX9_letters_X9 hH 0 rfl rfl 6 rfl (List.mem_of_getElem? (i := 2) rfl) rfl dX9_letters_50 ?_
    refine lv_bipush (v := 6) (pc := 53) hx hb dX9_letters_53 zk_b6 ?_
    refine lv_iload (pc := 55) hx hb dX9_letters_55 (lv_at hl 4 rfl) ?_
    refine lv_imul (pc := 57) hx hb dX9_letters_57 ?_
    refine lv_iconst (v := 1) (pc := 58) hx hb dX9_letters_58 zk_c1 ?_
    refine lv_iadd (pc := 59) hx hb dX9_letters_59 ?_
    obtain ⟨hin, h⟩ := zg h
    refine z_iald (pc := 60) X hH 6 rfl hin dX9_letters_60 ?_
    refine lv_aload_n (pc := 61) hx hb dX9_letters_61 rfl (lv_at hl 0 rfl) ?_
    refine z_get (pc := 62) (v := .ref (mq 6)) X iX9_letters_X9 hH 0 rfl rfl 6 rfl (List.mem_of_getElem? (i := 2) rfl) rfl dX9_letters_62 ?_
    refine lv_bipush (v := 6) (pc := 65) hx hb dX9_letters_65 zk_b6 ?_
    refine lv_iload_n (pc := 67) hx hb dX9_letters_67 rfl (lv_at hl 2 rfl) ?_
    refine lv_imul (pc := 68) hx hb dX9_letters_68 ?_
    refine lv_iconst (v := 1) (pc := 69) hx hb dX9_letters_69 zk_c1 ?_
    refine lv_iadd (pc := 70) hx hb dX9_letters_70 ?_
    obtain ⟨hin, h⟩ := zg h
    refine z_iald (pc := 71) X hH 6 rfl hin dX9_letters_71 ?_
    refine lv_icmp_eq (pc := 72) (tgt := 79) hx hb dX9_letters_72 rfl (fun zc4 => ?_) (fun zc4 => ?_)
    · have h := zt zc4 h
      refine lv_iconst (v := 0) (pc := 79) hx hb dX9_letters_79 zk_c0 ?_
      refine lv_istore_n (pc := 80) (lv' := [(3, .int 0), (0, .ref (mq 0)), (1, .int x1), (2, .int x2), (4, .int x4)]) hx hb dX9_letters_80 rfl hl (by decide) rfl (fun ls hl => ?_)
      refine lv_iinc (pc := 81) (v := (x4 + 1)) (lv' := [(4, .int (x4 + 1)), (3, .int 0), (0, .ref (mq 0)), (1, .int x1), (2, .int x2)]) hx hb dX9_letters_81 hl (k := 4) rfl (by rw [zk_c1]) (by decide) rfl (fun ls hl => ?_)
      refine lv_goto (pc := 84) (tgt := 17) hx hb dX9_letters_84 rfl ?_
      exact ih 0 (x4 + 1) rr h _ _ _ hH (lv_sub hl [2, 3, 4, 1, 0] rfl) K0
    have h := zf zc4 h
    refine lv_iconst (v := 1) (pc := 75) hx hb dX9_letters_75 zk_c1 ?_
    refine lv_goto (pc := 76) (tgt := 80) hx hb dX9_letters_76 rfl ?_
    refine lv_istore_n (pc := 80) (lv' := [(3, .int 1), (0, .ref (mq 0)), (1, .int x1), (2, .int x2), (4, .int x4)]) hx hb dX9_letters_80 rfl hl (by decide) rfl (fun ls hl => ?_)
    refine lv_iinc (pc := 81) (v := (x4 + 1)) (lv' := [(4, .int (x4 + 1)), (3, .int 1), (0, .ref (mq 0)), (1, .int x1), (2, .int x2)]) hx hb dX9_letters_81 hl (k := 4) rfl (by rw [zk_c1]) (by decide) rfl (fun ls hl => ?_)
    refine lv_goto (pc := 84) (tgt := 17) hx hb dX9_letters_84 rfl ?_
    exact ih 1 (x4 + 1) rr h _ _ _ hH (lv_sub hl [2, 3, 4, 1, 0] rfl) K0
set_option maxHeartbeats 4000000 in
set_option maxRecDepth 100000 in
theorem w_X9_letters_l4 {p : Program} {l : Launch} {e : Env} {s : State} {m : MethodId} {args : Array Value} {below : List Frame} {meth : Method} {c : Code} {A : Nat → Prop} {Q : State → Prop} (G : va_G) (cy : Nat → ClassId) (fu : Nat) (mq : Nat → Nat) (m_hosts : Int32) (m_lost : Nat → Int32) (m_late : Nat → Int32) (m_wait : Nat → Int32) (m_per : Nat → Int32) (m_blocks : Nat → Int32) (m_sends : Nat → Int32) (m_many : Int32) (m_made : Nat → Int32) (m_madeMany : Int32) (m_lacking : Int32) (m_thrown : Int32) (m_now : Nat → Int32) (m_ahead : Nat → Int32) (m_then : Nat → Int32) (m_time : Nat → Int32) (m_timeThen : Nat → Int32) (m_isThere : Nat → Int32) (m_comes : Nat → Int32) (X : zX p s m args meth c RX9 cX9_letters 5 wsX9_letters G cy A) : ∀ (n : Nat) (x1 : Int32) (x2 : Int32) (rr : Int32) (h : lp (f_X9_letters_l4 fu m_sends m_many) n (x1, x2) = some rr) (H : Heap) (locs : List Loc) (ls : Array Slot) (hH : zH G A s.heap (wM cy mq m_hosts m_lost m_late m_wait m_per m_blocks m_sends m_many m_made m_madeMany m_lacking m_thrown m_now m_ahead m_then m_time m_timeThen m_isThere m_comes) H locs) (hl : lv_has ls 5 [(0, .ref (mq 0)), (1, .int x1), (2, .int x2)]) (K0 : ∀ (H : Heap) (locs : List Loc) (ls : Array Slot), zH G A s.heap (wM cy mq m_hosts m_lost m_late m_wait m_per m_blocks m_sends m_many m_made m_madeMany m_lacking m_thrown m_now m_ahead m_then m_time m_timeThen m_isThere m_comes) H locs → lv_has ls 5 [(1, .int rr)] → W p l e (zR 0 0) s m args below meth c H locs 0 0 Q (F0 m 100 ls [])), W p l e (zR 0 0) s m args below meth c H locs 0 0 Q (F0 m 4 ls []) := by
  have hx := X.1.1
  have hb := X.1.2.1
  intro n
  induction n with
  | zero => intro x1 x2 rr h H locs ls hH hl K0; cases h
  | succ n ih =>
    intro x1 x2 rr h H locs ls hH hl K0
    replace h : f_X9_letters_l4 fu m_sends m_many (lp (f_X9_letters_l4 fu m_sends m_many) n) (x1, x2) = some rr := h
    dsimp only [f_X9_letters_l4] at h
    refine lv_iload_n (pc := 4) hx hb dX9_letters_4 rfl (lv_at hl 2 rfl) ?_
    refine lv_aload_n (pc := 5) hx hb dX9_letters_5 rfl (lv_at hl 0 rfl) ?_
    refine z_get (pc := 6) (v := .int m_many) X iX9_letters_X9 hH 0 rfl rfl 7 rfl (List.mem_of_getElem? (i := 1) rfl) rfl dX9_letters_6 ?_
    refine lv_icmp_ge (pc := 9) (tgt := 100) hx hb dX9_letters_9 rfl (fun zc1 => ?_) (fun zc1 => ?_)
    · have h := zt zc1 h
      obtain rfl := Option.some.inj h
      exact K0 _ _ _ hH (lv_sub hl [1] rfl)
    have h := zf zc1 h
    refine lv_iconst (v := 1) (pc := 12) hx hb dX9_letters_12 zk_c1 ?_
    refine lv_istore_n (pc := 13) (lv' := [(3, .int 1), (0, .ref (mq 0)), (1, .int x1), (2, .int x2)]) hx hb dX9_letters_13 rfl hl (by decide) rfl (fun ls hl => ?_)
    refine lv_iconst (v := 0) (pc := 14) hx hb dX9_letters_14 zk_c0 ?_
    refine lv_istore (pc := 15) (lv' := [(4, .int 0), (3, .int 1), (0, .ref (mq 0)), (1, .int x1), (2, .int x2)]) hx hb dX9_letters_15 hl (by decide) rfl (fun ls hl => ?_)
    obtain ⟨zr2, hzr2, h⟩ := zb h
    refine w_X9_letters_l17 G cy fu mq m_hosts m_lost m_late m_wait m_per m_blocks m_sends m_many m_made m_madeMany m_lacking m_thrown m_now m_ahead m_then m_time m_timeThen m_isThere m_comes x1 x2 X fu 1 0 zr2 hzr2 _ _ _ hH (lv_sub hl [2, 3, 4, 1, 0] rfl) (fun H locs ls hH hl => ?_)
    refine lv_iload_n (pc := 87) hx hb dX9_letters_87 rfl (lv_at hl 3 rfl) ?_
    refine lv_if_eq (pc := 88) (tgt := 94) hx hb dX9_letters_88 rfl (fun zc3 => ?_) (fun zc3 => ?_)
    · have h := zt zc3 h
      refine lv_iinc (pc := 94) (v := (x2 + 1)) (lv' := [(2, .int (x2 + 1)), (0, .ref (mq 0)), (1, .int x1), (3, .int zr2)]) hx hb dX9_letters_94 hl (k := 2) rfl (by rw [zk_c1]) (by decide) rfl (fun ls hl => ?_)
      refine lv_goto (pc := 97) (tgt := 4) hx hb dX9_letters_97 rfl ?_
      exact ih x1 (x2 + 1) rr h _ _ _ hH (lv_sub hl [1, 2, 0] rfl) K0
    have h := zf zc3 h
    refine lv_iinc (pc := 91) (v := (x1 + 1)) (lv' := [(1, .int (x1 + 1)), (0, .ref (mq 0)), (2, .int x2), (3, .int zr2)]) hx hb dX9_letters_91 hl (k := 1) rfl (by rw [zk_c1]) (by decide) rfl (fun ls hl => ?_)
    refine lv_iinc (pc := 94) (v := (x2 + 1)) (lv' := [(2, .int (x2 + 1)), (1, .int (x1 + 1)), (0, .ref (mq 0)), (3, .int zr2)]) hx hb dX9_letters_94 hl (k := 2) rfl (by rw [zk_c1]) (by decide) rfl (fun ls hl => ?_)
    refine lv_goto (pc := 97) (tgt := 4) hx hb dX9_letters_97 rfl ?_
    exact ih (x1 + 1) (x2 + 1) rr h _ _ _ hH (lv_sub hl [2, 1, 0] rfl) K0
set_option maxHeartbeats 4000000 in
set_option maxRecDepth 100000 in
theorem c_X9_letters (l : Launch) (G : va_G) (cy : Nat → ClassId) (fu : Nat) (mq : Nat → Nat) (m_hosts : Int32) (m_lost : Nat → Int32) (m_late : Nat → Int32) (m_wait : Nat → Int32) (m_per : Nat → Int32) (m_blocks : Nat → Int32) (m_sends : Nat → Int32) (m_many : Int32) (m_made : Nat → Int32) (m_madeMany : Int32) (m_lacking : Int32) (m_thrown : Int32) (m_now : Nat → Int32) (m_ahead : Nat → Int32) (m_then : Nat → Int32) (m_time : Nat → Int32) (m_timeThen : Nat → Int32) (m_isThere : Nat → Int32) (m_comes : Nat → Int32)  (rr : Int32) (h : f_X9_letters fu m_sends m_many = some rr) : zM l G cy yX9_letters wsX9_letters (zR 0 0) [.ref (mq 0)] (wM cy mq m_hosts m_lost m_late m_wait m_per m_blocks m_sends m_many m_made m_madeMany m_lacking m_thrown m_now m_ahead m_then m_time m_timeThen m_isThere m_comes) (wM cy mq m_hosts m_lost m_late m_wait m_per m_blocks m_sends m_many m_made m_madeMany m_lacking m_thrown m_now m_ahead m_then m_time m_timeThen m_isThere m_comes) (some (.int rr)) := by
  refine zM.mk (cc := cX9_letters) (nL := 5) (ret := (some .int)) (by decide) rfl (Nat.le_of_ble_eq_true rfl) ?_
  intro p e s m below meth c A ls X hr hH hl
  replace X : zX p s m [.ref (mq 0)].toArray meth c RX9 cX9_letters 5 wsX9_letters G cy A := X
  have hx := X.1.1
  have hb := X.1.2.1
  replace hl : lv_has ls 5 [(0, .ref (mq 0))] := hl
  dsimp only [f_X9_letters] at h
  refine lv_iconst (v := 0) (pc := 0) hx hb dX9_letters_0 zk_c0 ?_
  refine lv_istore_n (pc := 1) (lv' := [(1, .int 0), (0, .ref (mq 0))]) hx hb dX9_letters_1 rfl hl (by decide) rfl (fun ls hl => ?_)
  refine lv_iconst (v := 0) (pc := 2) hx hb dX9_letters_2 zk_c0 ?_
  refine lv_istore_n (pc := 3) (lv' := [(2, .int 0), (1, .int 0), (0, .ref (mq 0))]) hx hb dX9_letters_3 rfl hl (by decide) rfl (fun ls hl => ?_)
  obtain ⟨zr1, hzr1, h⟩ := zb h
  refine w_X9_letters_l4 G cy fu mq m_hosts m_lost m_late m_wait m_per m_blocks m_sends m_many m_made m_madeMany m_lacking m_thrown m_now m_ahead m_then m_time m_timeThen m_isThere m_comes X fu 0 0 zr1 hzr1 _ _ _ hH (lv_sub hl [2, 1, 0] rfl) (fun H locs ls hH hl => ?_)
  refine lv_iload_n (pc := 100) hx hb dX9_letters_100 rfl (lv_at hl 0 rfl) ?_
  obtain rfl := Option.some.inj h
  exact z_iret X hr hH dX9_letters_101
set_option maxHeartbeats 4000000 in
set_option maxRecDepth 100000 in
theorem c_X9_count (l : Launch) (G : va_G) (cy : Nat → ClassId) (fu : Nat) (mq : Nat → Nat) (m_hosts : Int32) (m_lost : Nat → Int32) (m_late : Nat → Int32) (m_wait : Nat → Int32) (m_per : Nat → Int32) (m_blocks : Nat → Int32) (m_sends : Nat → Int32) (m_many : Int32) (m_made : Nat → Int32) (m_madeMany : Int32) (m_lacking : Int32) (m_thrown : Int32) (m_now : Nat → Int32) (m_ahead : Nat → Int32) (m_then : Nat → Int32) (m_time : Nat → Int32) (m_timeThen : Nat → Int32) (m_isThere : Nat → Int32) (m_comes : Nat → Int32) (x1 : Int32) (rr : Int32 × Int32) (h : f_X9_count fu m_hosts m_lost m_wait m_sends m_many x1 = some rr) : zM l G cy yX9_count wsX9_count (zR 2 45) [.ref (mq 0), .int x1] (wM cy mq m_hosts m_lost m_late m_wait m_per m_blocks m_sends m_many m_made m_madeMany m_lacking m_thrown m_now m_ahead m_then m_time m_timeThen m_isThere m_comes) (wM cy mq m_hosts m_lost m_late m_wait m_per m_blocks m_sends m_many m_made m_madeMany m_lacking rr.2 m_now m_ahead m_then m_time m_timeThen m_isThere m_comes) (some (.int rr.1)) := by
  refine zM.mk (cc := cX9_count) (nL := 2) (ret := (some .int)) (by decide) rfl (Nat.le_of_ble_eq_true rfl) ?_
  intro p e s m below meth c A ls X hr hH hl
  replace X : zX p s m [.ref (mq 0), .int x1].toArray meth c RX9 cX9_count 2 wsX9_count G cy A := X
  have hx := X.1.1
  have hb := X.1.2.1
  replace hl : lv_has ls 2 [(0, .ref (mq 0)), (1, .int x1)] := hl
  dsimp only [f_X9_count] at h
  refine lv_aload_n (pc := 0) hx hb dX9_count_0 rfl (lv_at hl 0 rfl) ?_
  refine lv_iconst (v := 0) (pc := 1) hx hb dX9_count_1 zk_c0 ?_
  refine z_put (pc := 2) (v := .int 0) (ws' := wM cy mq m_hosts m_lost m_late m_wait m_per m_blocks m_sends m_many m_made m_madeMany m_lacking 0 m_now m_ahead m_then m_time m_timeThen m_isThere m_comes) X iX9_count_X9 tyX9 tyX9_ok nmX9 hH 0 rfl rfl 11 rfl (List.mem_of_getElem? (i := 1) rfl) rfl rfl rfl rfl rfl dX9_count_2 (fun H locs hH => ?_)
  refine lv_iload_n (pc := 5) hx hb dX9_count_5 rfl (lv_at hl 1 rfl) ?_
  by_cases zc1 : x1 = 0
  · have h := zt zc1 h
    refine lv_tableIn (pc := 6) (off := 38) (tgt := 44) hx hb dX9_count_6 (by rw [zc1]; decide) (by rw [zc1]; decide) (by rw [zc1]; rfl) rfl ?_
    refine lv_aload_n (pc := 44) hx hb dX9_count_44 rfl (lv_at hl 0 rfl) ?_
    refine z_get (pc := 45) (v := .int m_hosts) X iX9_count_X9 hH 0 rfl rfl 0 rfl (List.mem_of_getElem? (i := 2) rfl) rfl dX9_count_45 ?_
    obtain rfl := Option.some.inj h
    exact z_iret X hr hH dX9_count_48
  have h := zf zc1 h
  by_cases zc2 : x1 = 1
  · have h := zt zc2 h
    refine lv_tableIn (pc := 6) (off := 43) (tgt := 49) hx hb dX9_count_6 (by rw [zc2]; decide) (by rw [zc2]; decide) (by rw [zc2]; rfl) rfl ?_
    refine lv_aload_n (pc := 49) hx hb dX9_count_49 rfl (lv_at hl 0 rfl) ?_
    obtain ⟨zr3, hzr3, h⟩ := zb h
    refine zcV (pc := 50) (As := []) (rest := []) (st1 := [.int zr3]) (ws' := wM cy mq m_hosts m_lost m_late m_wait m_per m_blocks m_sends m_many m_made m_madeMany m_lacking 0 m_now m_ahead m_then m_time m_timeThen m_isThere m_comes) (wr := []) (n := 0) (q0 := 0) X (c_X9_liveMany l G cy fu mq m_hosts m_lost m_late m_wait m_per m_blocks m_sends m_many m_made m_madeMany m_lacking 0 m_now m_ahead m_then m_time m_timeThen m_isThere m_comes zr3 hzr3) hH [0, 1, 2, 3, 4, 5, 6, 7, 8, 9, 10, 11, 12, 13, 14] [] [0, 1, 2, 3, 4, 5, 6, 7, 8, 9, 10, 11, 12, 13, 14] rfl rfl rfl rfl gX9_count_X9_liveMany rfl ⟨rfl, rfl⟩ kX9_liveMany ⟨Nat.le_of_ble_eq_true rfl, Nat.le_of_ble_eq_true rfl⟩ rfl rfl rfl rfl rfl hl.1 (Nat.le_of_ble_eq_true rfl) ⟨Nat.le_of_ble_eq_true rfl, Nat.le_of_ble_eq_true rfl⟩ dX9_count_50 (fun H locs hH => ?_)
    obtain rfl := Option.some.inj h
    exact z_iret X hr hH dX9_count_53
  have h := zf zc2 h
  by_cases zc4 : x1 = 2
  · have h := zt zc4 h
    refine lv_tableIn (pc := 6) (off := 48) (tgt := 54) hx hb dX9_count_6 (by rw [zc4]; decide) (by rw [zc4]; decide) (by rw [zc4]; rfl) rfl ?_
    refine lv_aload_n (pc := 54) hx hb dX9_count_54 rfl (lv_at hl 0 rfl) ?_
    obtain ⟨zr5, hzr5, h⟩ := zb h
    refine zcV (pc := 55) (As := []) (rest := []) (st1 := [.int zr5]) (ws' := wM cy mq m_hosts m_lost m_late m_wait m_per m_blocks m_sends m_many m_made m_madeMany m_lacking 0 m_now m_ahead m_then m_time m_timeThen m_isThere m_comes) (wr := []) (n := 0) (q0 := 0) X (c_X9_lines l G cy fu mq m_hosts m_lost m_late m_wait m_per m_blocks m_sends m_many m_made m_madeMany m_lacking 0 m_now m_ahead m_then m_time m_timeThen m_isThere m_comes zr5 hzr5) hH [0, 1, 2, 3, 4, 5, 6, 7, 8, 9, 10, 11, 12, 13, 14] [] [0, 1, 2, 3, 4, 5, 6, 7, 8, 9, 10, 11, 12, 13, 14] rfl rfl rfl rfl gX9_count_X9_lines rfl ⟨rfl, rfl⟩ kX9_lines ⟨Nat.le_of_ble_eq_true rfl, Nat.le_of_ble_eq_true rfl⟩ rfl rfl rfl rfl rfl hl.1 (Nat.le_of_ble_eq_true rfl) ⟨Nat.le_of_ble_eq_true rfl, Nat.le_of_ble_eq_true rfl⟩ dX9_count_55 (fun H locs hH => ?_)
    obtain rfl := Option.some.inj h
    exact z_iret X hr hH dX9_count_58
  have h := zf zc4 h
  by_cases zc6 : x1 = 3
  · have h := zt zc6 h
    refine lv_tableIn (pc := 6) (off := 53) (tgt := 59) hx hb dX9_count_6 (by rw [zc6]; decide) (by rw [zc6]; decide) (by rw [zc6]; rfl) rfl ?_
    refine lv_aload_n (pc := 59) hx hb dX9_count_59 rfl (lv_at hl 0 rfl) ?_
    refine z_get (pc := 60) (v := .int m_many) X iX9_count_X9 hH 0 rfl rfl 7 rfl (List.mem_of_getElem? (i := 3) rfl) rfl dX9_count_60 ?_
    obtain rfl := Option.some.inj h
    exact z_iret X hr hH dX9_count_63
  have h := zf zc6 h
  by_cases zc7 : x1 = 4
  · have h := zt zc7 h
    refine lv_tableIn (pc := 6) (off := 58) (tgt := 64) hx hb dX9_count_6 (by rw [zc7]; decide) (by rw [zc7]; decide) (by rw [zc7]; rfl) rfl ?_
    refine lv_aload_n (pc := 64) hx hb dX9_count_64 rfl (lv_at hl 0 rfl) ?_
    refine z_get (pc := 65) (v := .ref (mq 6)) X iX9_count_X9 hH 0 rfl rfl 6 rfl (List.mem_of_getElem? (i := 4) rfl) rfl dX9_count_65 ?_
    refine lv_aload_n (pc := 68) hx hb dX9_count_68 rfl (lv_at hl 0 rfl) ?_
    refine z_get (pc := 69) (v := .int m_many) X iX9_count_X9 hH 0 rfl rfl 7 rfl (List.mem_of_getElem? (i := 3) rfl) rfl dX9_count_69 ?_
    obtain ⟨zr8, hzr8, h⟩ := zb h
    refine zcS (pc := 72) (As := [.ref (mq 6), .int m_many]) (rest := []) (st1 := [.int zr8]) (ws' := wM cy mq m_hosts m_lost m_late m_wait m_per m_blocks m_sends m_many m_made m_madeMany m_lacking 0 m_now m_ahead m_then m_time m_timeThen m_isThere m_comes) (wr := [((mq 0), .inr (8, [.int m_hosts, .ref (mq 1), .ref (mq 2), .ref (mq 3), .ref (mq 4), .ref (mq 5), .ref (mq 6), .int m_many, .ref (mq 7), .int m_madeMany, .int m_lacking, .int 0, .ref (mq 8), .ref (mq 9), .ref (mq 10), .ref (mq 11), .ref (mq 12), .ref (mq 13), .ref (mq 14)])), ((mq 1), .inl (cy 2, 16, .inl m_lost)), ((mq 2), .inl (cy 0, 16, .inl m_late)), ((mq 3), .inl (cy 0, 256, .inl m_wait)), ((mq 4), .inl (cy 0, 256, .inl m_per)), ((mq 5), .inl (cy 0, 256, .inl m_blocks)), ((mq 7), .inl (cy 0, 7200, .inl m_made)), ((mq 8), .inl (cy 3, 65536, .inl m_now)), ((mq 9), .inl (cy 3, 65536, .inl m_ahead)), ((mq 10), .inl (cy 0, 256, .inl m_then)), ((mq 11), .inl (cy 0, 16, .inl m_time)), ((mq 12), .inl (cy 0, 16, .inl m_timeThen)), ((mq 13), .inl (cy 2, 256, .inl m_isThere)), ((mq 14), .inl (cy 2, 256, .inl m_comes))]) (n := 2) X (c_X9_stepsOf l G cy fu (mq 6) m_sends m_many zr8 hzr8) hH [6] [0, 1, 2, 3, 4, 5, 7, 8, 9, 10, 11, 12, 13, 14] [0, 1, 2, 3, 4, 5, 14, 6, 7, 8, 9, 10, 11, 12, 13] rfl rfl rfl rfl gX9_count_X9_stepsOf rfl ⟨rfl, rfl⟩ kX9_stepsOf ⟨Nat.le_of_ble_eq_true rfl, Nat.le_of_ble_eq_true rfl⟩ rfl rfl rfl hl.1 (Nat.le_of_ble_eq_true rfl) ⟨Nat.le_of_ble_eq_true rfl, Nat.le_of_ble_eq_true rfl⟩ dX9_count_72 (fun H locs hH => ?_)
    obtain rfl := Option.some.inj h
    exact z_iret X hr hH dX9_count_75
  have h := zf zc7 h
  by_cases zc9 : x1 = 5
  · have h := zt zc9 h
    refine lv_tableIn (pc := 6) (off := 70) (tgt := 76) hx hb dX9_count_6 (by rw [zc9]; decide) (by rw [zc9]; decide) (by rw [zc9]; rfl) rfl ?_
    refine lv_aload_n (pc := 76) hx hb dX9_count_76 rfl (lv_at hl 0 rfl) ?_
    obtain ⟨zr10, hzr10, h⟩ := zb h
    refine zcV (pc := 77) (As := []) (rest := []) (st1 := [.int zr10]) (ws' := wM cy mq m_hosts m_lost m_late m_wait m_per m_blocks m_sends m_many m_made m_madeMany m_lacking 0 m_now m_ahead m_then m_time m_timeThen m_isThere m_comes) (wr := []) (n := 0) (q0 := 0) X (c_X9_letters l G cy fu mq m_hosts m_lost m_late m_wait m_per m_blocks m_sends m_many m_made m_madeMany m_lacking 0 m_now m_ahead m_then m_time m_timeThen m_isThere m_comes zr10 hzr10) hH [0, 1, 2, 3, 4, 5, 6, 7, 8, 9, 10, 11, 12, 13, 14] [] [0, 1, 2, 3, 4, 5, 6, 7, 8, 9, 10, 11, 12, 13, 14] rfl rfl rfl rfl gX9_count_X9_letters rfl ⟨rfl, rfl⟩ kX9_letters ⟨Nat.le_of_ble_eq_true rfl, Nat.le_of_ble_eq_true rfl⟩ rfl rfl rfl rfl rfl hl.1 (Nat.le_of_ble_eq_true rfl) ⟨Nat.le_of_ble_eq_true rfl, Nat.le_of_ble_eq_true rfl⟩ dX9_count_77 (fun H locs hH => ?_)
    obtain rfl := Option.some.inj h
    exact z_iret X hr hH dX9_count_80
  have h := zf zc9 h
  refine lv_tableOut (pc := 6) (tgt := 81) hx hb dX9_count_6 (by have n0 := lv_neT zc1 (show (0 : Int32).toInt = 0 by decide); have n1 := lv_neT zc2 (show (1 : Int32).toInt = 1 by decide); have n2 := lv_neT zc4 (show (2 : Int32).toInt = 2 by decide); have n3 := lv_neT zc6 (show (3 : Int32).toInt = 3 by decide); have n4 := lv_neT zc7 (show (4 : Int32).toInt = 4 by decide); have n5 := lv_neT zc9 (show (5 : Int32).toInt = 5 by decide); omega) rfl ?_
  refine lv_iconst (v := (-1)) (pc := 81) hx hb dX9_count_81 zk_cm1 ?_
  obtain rfl := Option.some.inj h
  exact z_iret X hr hH dX9_count_82
set_option maxHeartbeats 4000000 in
set_option maxRecDepth 100000 in
theorem w_X9_put_l45 {p : Program} {l : Launch} {e : Env} {s : State} {m : MethodId} {args : Array Value} {below : List Frame} {meth : Method} {c : Code} {A : Nat → Prop} {Q : State → Prop} (G : va_G) (cy : Nat → ClassId) (fu : Nat) (mq : Nat → Nat) (m_hosts : Int32) (m_lost : Nat → Int32) (m_late : Nat → Int32) (m_wait : Nat → Int32) (m_per : Nat → Int32) (m_blocks : Nat → Int32) (m_sends : Nat → Int32) (m_many : Int32) (m_lacking : Int32) (m_thrown : Int32) (m_now : Nat → Int32) (m_ahead : Nat → Int32) (m_then : Nat → Int32) (m_time : Nat → Int32) (m_timeThen : Nat → Int32) (m_isThere : Nat → Int32) (m_comes : Nat → Int32) (x1 : Int32) (x4 : Int32) (x5 : Int32) (x7 : Int32) (x8 : Int32) (x9 : Int32) (X : zX p s m args meth c RX9 cX9_put 12 wsX9_put G cy A) : ∀ (n : Nat) (x10 : Int32) (m_made : Nat → Int32) (m_madeMany : Int32) (rr : (Nat → Int32) × Int32) (h : lp (f_X9_put_l45 fu x1 x4 x5 x7 x8 x9) n (x10, m_made, m_madeMany) = some rr) (H : Heap) (locs : List Loc) (ls : Array Slot) (hH : zH G A s.heap (wM cy mq m_hosts m_lost m_late m_wait m_per m_blocks m_sends m_many m_made m_madeMany m_lacking m_thrown m_now m_ahead m_then m_time m_timeThen m_isThere m_comes) H locs) (hl : lv_has ls 12 [(0, .ref (mq 0)), (1, .int x1), (4, .int x4), (5, .int x5), (7, .int x7), (8, .int x8), (9, .int x9), (10, .int x10)]) (K0 : ∀ (H : Heap) (locs : List Loc) (ls : Array Slot), zH G A s.heap (wM cy mq m_hosts m_lost m_late m_wait m_per m_blocks m_sends m_many rr.1 rr.2 m_lacking m_thrown m_now m_ahead m_then m_time m_timeThen m_isThere m_comes) H locs → lv_has ls 12 [] → W p l e (zR 1 23) s m args below meth c H locs 0 0 Q (F0 m 154 ls [])), W p l e (zR 1 23) s m args below meth c H locs 0 0 Q (F0 m 45 ls []) := by
  have hx := X.1.1
  have hb := X.1.2.1
  intro n
  induction n with
  | zero => intro x10 m_made m_madeMany rr h H locs ls hH hl K0; cases h
  | succ n ih =>
    intro x10 m_made m_madeMany rr h H locs ls hH hl K0
    replace h : f_X9_put_l45 fu x1 x4 x5 x7 x8 x9 (lp (f_X9_put_l45 fu x1 x4 x5 x7 x8 x9) n) (x10, m_made, m_madeMany) = some rr := h
    dsimp only [f_X9_put_l45] at h
    refine lv_iload (pc := 45) hx hb dX9_put_45 (lv_at hl 7 rfl) ?_
    refine lv_iload (pc := 47) hx hb dX9_put_47 (lv_at hl 3 rfl) ?_
    refine lv_icmp_ge (pc := 49) (tgt := 154) hx hb dX9_put_49 rfl (fun zc1 => ?_) (fun zc1 => ?_)
    · have h := zt zc1 h
      obtain rfl := Option.some.inj h
      exact K0 _ _ _ hH (lv_sub hl [] rfl)
    have h := zf zc1 h
    refine lv_bipush (v := 6) (pc := 52) hx hb dX9_put_52 zk_b6 ?_
    refine lv_aload_n (pc := 54) hx hb dX9_put_54 rfl (lv_at hl 0 rfl) ?_
    refine z_get (pc := 55) (v := .int m_madeMany) X iX9_put_X9 hH 0 rfl rfl 9 rfl (List.mem_of_getElem? (i := 2) rfl) rfl dX9_put_55 ?_
    refine lv_imul (pc := 58) hx hb dX9_put_58 ?_
    refine lv_topi (fun za2 eza2 => ?_)
    have h := vn_s h za2 eza2
    refine lv_istore (pc := 59) (lv' := [(11, .int za2), (0, .ref (mq 0)), (1, .int x1), (4, .int x4), (5, .int x5), (7, .int x7), (8, .int x8), (9, .int x9), (10, .int x10)]) hx hb dX9_put_59 hl (by decide) rfl (fun ls hl => ?_)
    refine lv_aload_n (pc := 61) hx hb dX9_put_61 rfl (lv_at hl 1 rfl) ?_
    refine z_get (pc := 62) (v := .ref (mq 7)) X iX9_put_X9 hH 0 rfl rfl 8 rfl (List.mem_of_getElem? (i := 3) rfl) rfl dX9_put_62 ?_
    refine lv_iload (pc := 65) hx hb dX9_put_65 (lv_at hl 0 rfl) ?_
    refine lv_iload_n (pc := 67) hx hb dX9_put_67 rfl (lv_at hl 2 rfl) ?_
    obtain ⟨hin, h⟩ := zg h
    refine z_iast (pc := 68) (ws' := wM cy mq m_hosts m_lost m_late m_wait m_per m_blocks m_sends m_many (upd m_made (za2).toNatClampNeg x1) m_madeMany m_lacking m_thrown m_now m_ahead m_then m_time m_timeThen m_isThere m_comes) X hH 7 rfl hin rfl dX9_put_68 (fun H locs hH => ?_)
    refine lv_aload_n (pc := 69) hx hb dX9_put_69 rfl (lv_at hl 1 rfl) ?_
    refine z_get (pc := 70) (v := .ref (mq 7)) X iX9_put_X9 hH 0 rfl rfl 8 rfl (List.mem_of_getElem? (i := 3) rfl) rfl dX9_put_70 ?_
    refine lv_iload (pc := 73) hx hb dX9_put_73 (lv_at hl 0 rfl) ?_
    refine lv_iconst (v := 1) (pc := 75) hx hb dX9_put_75 zk_c1 ?_
    refine lv_iadd (pc := 76) hx hb dX9_put_76 ?_
    refine lv_iload (pc := 77) hx hb dX9_put_77 (lv_at hl 6 rfl) ?_
    obtain ⟨hin, h⟩ := zg h
    refine z_iast (pc := 79) (ws' := wM cy mq m_hosts m_lost m_late m_wait m_per m_blocks m_sends m_many (upd (upd m_made (za2).toNatClampNeg x1) ((za2 + 1)).toNatClampNeg x8) m_madeMany m_lacking m_thrown m_now m_ahead m_then m_time m_timeThen m_isThere m_comes) X hH 7 rfl hin rfl dX9_put_79 (fun H locs hH => ?_)
    refine lv_aload_n (pc := 80) hx hb dX9_put_80 rfl (lv_at hl 1 rfl) ?_
    refine z_get (pc := 81) (v := .ref (mq 7)) X iX9_put_X9 hH 0 rfl rfl 8 rfl (List.mem_of_getElem? (i := 3) rfl) rfl dX9_put_81 ?_
    refine lv_iload (pc := 84) hx hb dX9_put_84 (lv_at hl 0 rfl) ?_
    refine lv_iconst (v := 2) (pc := 86) hx hb dX9_put_86 zk_c2 ?_
    refine lv_iadd (pc := 87) hx hb dX9_put_87 ?_
    refine lv_iload (pc := 88) hx hb dX9_put_88 (lv_at hl 7 rfl) ?_
    obtain ⟨hin, h⟩ := zg h
    refine z_iast (pc := 90) (ws' := wM cy mq m_hosts m_lost m_late m_wait m_per m_blocks m_sends m_many (upd (upd (upd m_made (za2).toNatClampNeg x1) ((za2 + 1)).toNatClampNeg x8) ((za2 + 2)).toNatClampNeg x9) m_madeMany m_lacking m_thrown m_now m_ahead m_then m_time m_timeThen m_isThere m_comes) X hH 7 rfl hin rfl dX9_put_90 (fun H locs hH => ?_)
    refine lv_aload_n (pc := 91) hx hb dX9_put_91 rfl (lv_at hl 1 rfl) ?_
    refine z_get (pc := 92) (v := .ref (mq 7)) X iX9_put_X9 hH 0 rfl rfl 8 rfl (List.mem_of_getElem? (i := 3) rfl) rfl dX9_put_92 ?_
    refine lv_iload (pc := 95) hx hb dX9_put_95 (lv_at hl 0 rfl) ?_
    refine lv_iconst (v := 3) (pc := 97) hx hb dX9_put_97 zk_c3 ?_
    refine lv_iadd (pc := 98) hx hb dX9_put_98 ?_
    refine lv_iload (pc := 99) hx hb dX9_put_99 (lv_at hl 3 rfl) ?_
    refine lv_iload (pc := 101) hx hb dX9_put_101 (lv_at hl 8 rfl) ?_
    refine lv_iadd (pc := 103) hx hb dX9_put_103 ?_
    obtain ⟨hin, h⟩ := zg h
    refine z_iast (pc := 104) (ws' := wM cy mq m_hosts m_lost m_late m_wait m_per m_blocks m_sends m_many (upd (upd (upd (upd m_made (za2).toNatClampNeg x1) ((za2 + 1)).toNatClampNeg x8) ((za2 + 2)).toNatClampNeg x9) ((za2 + 3)).toNatClampNeg (x4 + x10)) m_madeMany m_lacking m_thrown m_now m_ahead m_then m_time m_timeThen m_isThere m_comes) X hH 7 rfl hin rfl dX9_put_104 (fun H locs hH => ?_)
    refine lv_aload_n (pc := 105) hx hb dX9_put_105 rfl (lv_at hl 1 rfl) ?_
    refine z_get (pc := 106) (v := .ref (mq 7)) X iX9_put_X9 hH 0 rfl rfl 8 rfl (List.mem_of_getElem? (i := 3) rfl) rfl dX9_put_106 ?_
    refine lv_iload (pc := 109) hx hb dX9_put_109 (lv_at hl 0 rfl) ?_
    refine lv_iconst (v := 4) (pc := 111) hx hb dX9_put_111 zk_c4 ?_
    refine lv_iadd (pc := 112) hx hb dX9_put_112 ?_
    refine lv_iload (pc := 113) hx hb dX9_put_113 (lv_at hl 3 rfl) ?_
    refine lv_iload (pc := 115) hx hb dX9_put_115 (lv_at hl 8 rfl) ?_
    refine lv_iadd (pc := 117) hx hb dX9_put_117 ?_
    obtain ⟨hin, h⟩ := zg h
    refine z_iast (pc := 118) (ws' := wM cy mq m_hosts m_lost m_late m_wait m_per m_blocks m_sends m_many (upd (upd (upd (upd (upd m_made (za2).toNatClampNeg x1) ((za2 + 1)).toNatClampNeg x8) ((za2 + 2)).toNatClampNeg x9) ((za2 + 3)).toNatClampNeg (x4 + x10)) ((za2 + 4)).toNatClampNeg (x4 + x10)) m_madeMany m_lacking m_thrown m_now m_ahead m_then m_time m_timeThen m_isThere m_comes) X hH 7 rfl hin rfl dX9_put_118 (fun H locs hH => ?_)
    refine lv_aload_n (pc := 119) hx hb dX9_put_119 rfl (lv_at hl 1 rfl) ?_
    refine z_get (pc := 120) (v := .ref (mq 7)) X iX9_put_X9 hH 0 rfl rfl 8 rfl (List.mem_of_getElem? (i := 3) rfl) rfl dX9_put_120 ?_
    refine lv_iload (pc := 123) hx hb dX9_put_123 (lv_at hl 0 rfl) ?_
    refine lv_iconst (v := 5) (pc := 125) hx hb dX9_put_125 zk_c5 ?_
    refine lv_iadd (pc := 126) hx hb dX9_put_126 ?_
    refine lv_iload (pc := 127) hx hb dX9_put_127 (lv_at hl 5 rfl) ?_
    refine lv_if_eq (pc := 129) (tgt := 136) hx hb dX9_put_129 rfl (fun zc3 => ?_) (fun zc3 => ?_)
    · have h := zt zc3 h
      refine lv_iconst (v := 0) (pc := 136) hx hb dX9_put_136 zk_c0 ?_
      obtain ⟨hin, h⟩ := zg h
      refine z_iast (pc := 137) (ws' := wM cy mq m_hosts m_lost m_late m_wait m_per m_blocks m_sends m_many (upd (upd (upd (upd (upd (upd m_made (za2).toNatClampNeg x1) ((za2 + 1)).toNatClampNeg x8) ((za2 + 2)).toNatClampNeg x9) ((za2 + 3)).toNatClampNeg (x4 + x10)) ((za2 + 4)).toNatClampNeg (x4 + x10)) ((za2 + 5)).toNatClampNeg 0) m_madeMany m_lacking m_thrown m_now m_ahead m_then m_time m_timeThen m_isThere m_comes) X hH 7 rfl hin rfl dX9_put_137 (fun H locs hH => ?_)
      refine lv_aload_n (pc := 138) hx hb dX9_put_138 rfl (lv_at hl 1 rfl) ?_
      refine lv_dup (pc := 139) hx hb dX9_put_139 rfl ?_
      refine z_get (pc := 140) (v := .int m_madeMany) X iX9_put_X9 hH 0 rfl rfl 9 rfl (List.mem_of_getElem? (i := 2) rfl) rfl dX9_put_140 ?_
      refine lv_iconst (v := 1) (pc := 143) hx hb dX9_put_143 zk_c1 ?_
      refine lv_iadd (pc := 144) hx hb dX9_put_144 ?_
      refine lv_topi (fun za4 eza4 => ?_)
      have h := vn_s h za4 eza4
      refine z_put (pc := 145) (v := .int za4) (ws' := wM cy mq m_hosts m_lost m_late m_wait m_per m_blocks m_sends m_many (upd (upd (upd (upd (upd (upd m_made (za2).toNatClampNeg x1) ((za2 + 1)).toNatClampNeg x8) ((za2 + 2)).toNatClampNeg x9) ((za2 + 3)).toNatClampNeg (x4 + x10)) ((za2 + 4)).toNatClampNeg (x4 + x10)) ((za2 + 5)).toNatClampNeg 0) za4 m_lacking m_thrown m_now m_ahead m_then m_time m_timeThen m_isThere m_comes) X iX9_put_X9 tyX9 tyX9_ok nmX9 hH 0 rfl rfl 9 rfl (List.mem_of_getElem? (i := 2) rfl) rfl rfl rfl rfl rfl dX9_put_145 (fun H locs hH => ?_)
      refine lv_iinc (pc := 148) (v := (x10 + 1)) (lv' := [(10, .int (x10 + 1)), (11, .int za2), (0, .ref (mq 0)), (1, .int x1), (4, .int x4), (5, .int x5), (7, .int x7), (8, .int x8), (9, .int x9)]) hx hb dX9_put_148 hl (k := 8) rfl (by rw [zk_c1]) (by decide) rfl (fun ls hl => ?_)
      refine lv_goto (pc := 151) (tgt := 45) hx hb dX9_put_151 rfl ?_
      exact ih (x10 + 1) (upd (upd (upd (upd (upd (upd m_made (za2).toNatClampNeg x1) ((za2 + 1)).toNatClampNeg x8) ((za2 + 2)).toNatClampNeg x9) ((za2 + 3)).toNatClampNeg (x4 + x10)) ((za2 + 4)).toNatClampNeg (x4 + x10)) ((za2 + 5)).toNatClampNeg 0) za4 rr h _ _ _ hH (lv_sub hl [2, 3, 4, 5, 6, 7, 8, 0] rfl) K0
    have h := zf zc3 h
    refine lv_iconst (v := 1) (pc := 132) hx hb dX9_put_132 zk_c1 ?_
    refine lv_goto (pc := 133) (tgt := 137) hx hb dX9_put_133 rfl ?_
    obtain ⟨hin, h⟩ := zg h
    refine z_iast (pc := 137) (ws' := wM cy mq m_hosts m_lost m_late m_wait m_per m_blocks m_sends m_many (upd (upd (upd (upd (upd (upd m_made (za2).toNatClampNeg x1) ((za2 + 1)).toNatClampNeg x8) ((za2 + 2)).toNatClampNeg x9) ((za2 + 3)).toNatClampNeg (x4 + x10)) ((za2 + 4)).toNatClampNeg (x4 + x10)) ((za2 + 5)).toNatClampNeg 1) m_madeMany m_lacking m_thrown m_now m_ahead m_then m_time m_timeThen m_isThere m_comes) X hH 7 rfl hin rfl dX9_put_137 (fun H locs hH => ?_)
    refine lv_aload_n (pc := 138) hx hb dX9_put_138 rfl (lv_at hl 1 rfl) ?_
    refine lv_dup (pc := 139) hx hb dX9_put_139 rfl ?_
    refine z_get (pc := 140) (v := .int m_madeMany) X iX9_put_X9 hH 0 rfl rfl 9 rfl (List.mem_of_getElem? (i := 2) rfl) rfl dX9_put_140 ?_
    refine lv_iconst (v := 1) (pc := 143) hx hb dX9_put_143 zk_c1 ?_
    refine lv_iadd (pc := 144) hx hb dX9_put_144 ?_
    refine lv_topi (fun za5 eza5 => ?_)
    have h := vn_s h za5 eza5
    refine z_put (pc := 145) (v := .int za5) (ws' := wM cy mq m_hosts m_lost m_late m_wait m_per m_blocks m_sends m_many (upd (upd (upd (upd (upd (upd m_made (za2).toNatClampNeg x1) ((za2 + 1)).toNatClampNeg x8) ((za2 + 2)).toNatClampNeg x9) ((za2 + 3)).toNatClampNeg (x4 + x10)) ((za2 + 4)).toNatClampNeg (x4 + x10)) ((za2 + 5)).toNatClampNeg 1) za5 m_lacking m_thrown m_now m_ahead m_then m_time m_timeThen m_isThere m_comes) X iX9_put_X9 tyX9 tyX9_ok nmX9 hH 0 rfl rfl 9 rfl (List.mem_of_getElem? (i := 2) rfl) rfl rfl rfl rfl rfl dX9_put_145 (fun H locs hH => ?_)
    refine lv_iinc (pc := 148) (v := (x10 + 1)) (lv' := [(10, .int (x10 + 1)), (11, .int za2), (0, .ref (mq 0)), (1, .int x1), (4, .int x4), (5, .int x5), (7, .int x7), (8, .int x8), (9, .int x9)]) hx hb dX9_put_148 hl (k := 8) rfl (by rw [zk_c1]) (by decide) rfl (fun ls hl => ?_)
    refine lv_goto (pc := 151) (tgt := 45) hx hb dX9_put_151 rfl ?_
    exact ih (x10 + 1) (upd (upd (upd (upd (upd (upd m_made (za2).toNatClampNeg x1) ((za2 + 1)).toNatClampNeg x8) ((za2 + 2)).toNatClampNeg x9) ((za2 + 3)).toNatClampNeg (x4 + x10)) ((za2 + 4)).toNatClampNeg (x4 + x10)) ((za2 + 5)).toNatClampNeg 1) za5 rr h _ _ _ hH (lv_sub hl [2, 3, 4, 5, 6, 7, 8, 0] rfl) K0
set_option maxHeartbeats 4000000 in
set_option maxRecDepth 100000 in
theorem c_X9_put (l : Launch) (G : va_G) (cy : Nat → ClassId) (fu : Nat) (mq : Nat → Nat) (m_hosts : Int32) (m_lost : Nat → Int32) (m_late : Nat → Int32) (m_wait : Nat → Int32) (m_per : Nat → Int32) (m_blocks : Nat → Int32) (m_sends : Nat → Int32) (m_many : Int32) (m_made : Nat → Int32) (m_madeMany : Int32) (m_lacking : Int32) (m_thrown : Int32) (m_now : Nat → Int32) (m_ahead : Nat → Int32) (m_then : Nat → Int32) (m_time : Nat → Int32) (m_timeThen : Nat → Int32) (m_isThere : Nat → Int32) (m_comes : Nat → Int32) (x1 : Int32) (x2 : Int32) (x3 : Int32) (x4 : Int32) (x5 : Int32) (x6 : Int32) (x7 : Int32) (rr : (Nat → Int32) × Int32 × Int32) (h : f_X9_put fu m_lost m_wait m_made m_madeMany m_lacking x1 x2 x3 x4 x5 x6 x7 = some rr) : zM l G cy yX9_put wsX9_put (zR 1 23) [.ref (mq 0), .int x1, .int x2, .int x3, .int x4, .int x5, .int x6, .int x7] (wM cy mq m_hosts m_lost m_late m_wait m_per m_blocks m_sends m_many m_made m_madeMany m_lacking m_thrown m_now m_ahead m_then m_time m_timeThen m_isThere m_comes) (wM cy mq m_hosts m_lost m_late m_wait m_per m_blocks m_sends m_many rr.1 rr.2.1 rr.2.2 m_thrown m_now m_ahead m_then m_time m_timeThen m_isThere m_comes) none := by
  refine zM.mk (cc := cX9_put) (nL := 12) (ret := none) (by decide) rfl (Nat.le_of_ble_eq_true rfl) ?_
  intro p e s m below meth c A ls X hr hH hl
  replace X : zX p s m [.ref (mq 0), .int x1, .int x2, .int x3, .int x4, .int x5, .int x6, .int x7].toArray meth c RX9 cX9_put 12 wsX9_put G cy A := X
  have hx := X.1.1
  have hb := X.1.2.1
  replace hl : lv_has ls 12 [(0, .ref (mq 0)), (1, .int x1), (2, .int x2), (3, .int x3), (4, .int x4), (5, .int x5), (6, .int x6), (7, .int x7)] := hl
  dsimp only [f_X9_put] at h
  refine lv_aload_n (pc := 0) hx hb dX9_put_0 rfl (lv_at hl 0 rfl) ?_
  refine lv_iload_n (pc := 1) hx hb dX9_put_1 rfl (lv_at hl 2 rfl) ?_
  refine lv_iload (pc := 2) hx hb dX9_put_2 (lv_at hl 6 rfl) ?_
  refine lv_iadd (pc := 4) hx hb dX9_put_4 ?_
  refine lv_iload (pc := 5) hx hb dX9_put_5 (lv_at hl 6 rfl) ?_
  obtain ⟨hin, h⟩ := zg h
  refine lv_irem (pc := 7) hx hb dX9_put_7 hin ?_
  obtain ⟨zr1, hzr1, h⟩ := zb h
  refine zcV (pc := 8) (As := [.int ((x2 + x6) - (x2 + x6) / x6 * x6)]) (rest := []) (st1 := [.int zr1]) (ws' := wM cy mq m_hosts m_lost m_late m_wait m_per m_blocks m_sends m_many m_made m_madeMany m_lacking m_thrown m_now m_ahead m_then m_time m_timeThen m_isThere m_comes) (wr := []) (n := 1) (q0 := 0) X (c_X9_hostOf l G cy fu mq m_hosts m_lost m_late m_wait m_per m_blocks m_sends m_many m_made m_madeMany m_lacking m_thrown m_now m_ahead m_then m_time m_timeThen m_isThere m_comes ((x2 + x6) - (x2 + x6) / x6 * x6) zr1 hzr1) hH [0, 1, 2, 3, 4, 5, 6, 7, 8, 9, 10, 11, 12, 13, 14] [] [0, 1, 2, 3, 4, 5, 6, 7, 8, 9, 10, 11, 12, 13, 14] rfl rfl rfl rfl gX9_put_X9_hostOf rfl ⟨rfl, rfl⟩ kX9_hostOf ⟨Nat.le_of_ble_eq_true rfl, Nat.le_of_ble_eq_true rfl⟩ rfl rfl rfl rfl rfl hl.1 (Nat.le_of_ble_eq_true rfl) ⟨Nat.le_of_ble_eq_true rfl, Nat.le_of_ble_eq_true rfl⟩ dX9_put_8 (fun H locs hH => ?_)
  refine lv_istore (pc := 11) (lv' := [(8, .int zr1), (0, .ref (mq 0)), (1, .int x1), (2, .int x2), (3, .int x3), (4, .int x4), (5, .int x5), (6, .int x6), (7, .int x7)]) hx hb dX9_put_11 hl (by decide) rfl (fun ls hl => ?_)
  refine lv_aload_n (pc := 13) hx hb dX9_put_13 rfl (lv_at hl 1 rfl) ?_
  refine lv_iload_n (pc := 14) hx hb dX9_put_14 rfl (lv_at hl 4 rfl) ?_
  refine lv_iload (pc := 15) hx hb dX9_put_15 (lv_at hl 7 rfl) ?_
  refine lv_iadd (pc := 17) hx hb dX9_put_17 ?_
  refine lv_iload (pc := 18) hx hb dX9_put_18 (lv_at hl 7 rfl) ?_
  obtain ⟨hin, h⟩ := zg h
  refine lv_irem (pc := 20) hx hb dX9_put_20 hin ?_
  obtain ⟨zr2, hzr2, h⟩ := zb h
  refine zcV (pc := 21) (As := [.int ((x3 + x6) - (x3 + x6) / x6 * x6)]) (rest := []) (st1 := [.int zr2]) (ws' := wM cy mq m_hosts m_lost m_late m_wait m_per m_blocks m_sends m_many m_made m_madeMany m_lacking m_thrown m_now m_ahead m_then m_time m_timeThen m_isThere m_comes) (wr := []) (n := 1) (q0 := 0) X (c_X9_hostOf l G cy fu mq m_hosts m_lost m_late m_wait m_per m_blocks m_sends m_many m_made m_madeMany m_lacking m_thrown m_now m_ahead m_then m_time m_timeThen m_isThere m_comes ((x3 + x6) - (x3 + x6) / x6 * x6) zr2 hzr2) hH [0, 1, 2, 3, 4, 5, 6, 7, 8, 9, 10, 11, 12, 13, 14] [] [0, 1, 2, 3, 4, 5, 6, 7, 8, 9, 10, 11, 12, 13, 14] rfl rfl rfl rfl gX9_put_X9_hostOf rfl ⟨rfl, rfl⟩ kX9_hostOf ⟨Nat.le_of_ble_eq_true rfl, Nat.le_of_ble_eq_true rfl⟩ rfl rfl rfl rfl rfl hl.1 (Nat.le_of_ble_eq_true rfl) ⟨Nat.le_of_ble_eq_true rfl, Nat.le_of_ble_eq_true rfl⟩ dX9_put_21 (fun H locs hH => ?_)
  refine lv_istore (pc := 24) (lv' := [(9, .int zr2), (8, .int zr1), (0, .ref (mq 0)), (1, .int x1), (2, .int x2), (3, .int x3), (4, .int x4), (5, .int x5), (6, .int x6), (7, .int x7)]) hx hb dX9_put_24 hl (by decide) rfl (fun ls hl => ?_)
  refine lv_aload_n (pc := 26) hx hb dX9_put_26 rfl (lv_at hl 2 rfl) ?_
  refine lv_iload (pc := 27) hx hb dX9_put_27 (lv_at hl 1 rfl) ?_
  refine lv_iload (pc := 29) hx hb dX9_put_29 (lv_at hl 0 rfl) ?_
  obtain ⟨zr3, hzr3, h⟩ := zb h
  refine zcV (pc := 31) (As := [.int zr1, .int zr2]) (rest := []) (st1 := [.int zr3]) (ws' := wM cy mq m_hosts m_lost m_late m_wait m_per m_blocks m_sends m_many m_made m_madeMany m_lacking m_thrown m_now m_ahead m_then m_time m_timeThen m_isThere m_comes) (wr := []) (n := 2) (q0 := 0) X (c_X9_areJoined l G cy fu mq m_hosts m_lost m_late m_wait m_per m_blocks m_sends m_many m_made m_madeMany m_lacking m_thrown m_now m_ahead m_then m_time m_timeThen m_isThere m_comes zr1 zr2 zr3 hzr3) hH [0, 1, 2, 3, 4, 5, 6, 7, 8, 9, 10, 11, 12, 13, 14] [] [0, 1, 2, 3, 4, 5, 6, 7, 8, 9, 10, 11, 12, 13, 14] rfl rfl rfl rfl gX9_put_X9_areJoined rfl ⟨rfl, rfl⟩ kX9_areJoined ⟨Nat.le_of_ble_eq_true rfl, Nat.le_of_ble_eq_true rfl⟩ rfl rfl rfl rfl rfl hl.1 (Nat.le_of_ble_eq_true rfl) ⟨Nat.le_of_ble_eq_true rfl, Nat.le_of_ble_eq_true rfl⟩ dX9_put_31 (fun H locs hH => ?_)
  refine lv_if_ne (pc := 34) (tgt := 42) hx hb dX9_put_34 rfl (fun zc4 => ?_) (fun zc4 => ?_)
  · have h := zf zc4 h
    refine lv_iconst (v := 0) (pc := 42) hx hb dX9_put_42 zk_c0 ?_
    refine lv_istore (pc := 43) (lv' := [(10, .int 0), (9, .int zr2), (8, .int zr1), (0, .ref (mq 0)), (1, .int x1), (2, .int x2), (3, .int x3), (4, .int x4), (5, .int x5), (6, .int x6), (7, .int x7)]) hx hb dX9_put_43 hl (by decide) rfl (fun ls hl => ?_)
    obtain ⟨zr5, hzr5, h⟩ := zb h
    refine w_X9_put_l45 G cy fu mq m_hosts m_lost m_late m_wait m_per m_blocks m_sends m_many m_lacking m_thrown m_now m_ahead m_then m_time m_timeThen m_isThere m_comes x1 x4 x5 x7 zr1 zr2 X fu 0 m_made m_madeMany zr5 hzr5 _ _ _ hH (lv_sub hl [3, 4, 7, 8, 10, 2, 1, 0] rfl) (fun H locs ls hH hl => ?_)
    obtain rfl := Option.some.inj h
    exact z_vret X hr hH dX9_put_154
  have h := zt zc4 h
  refine lv_aload_n (pc := 37) hx hb dX9_put_37 rfl (lv_at hl 2 rfl) ?_
  refine lv_iconst (v := 1) (pc := 38) hx hb dX9_put_38 zk_c1 ?_
  refine z_put (pc := 39) (v := .int 1) (ws' := wM cy mq m_hosts m_lost m_late m_wait m_per m_blocks m_sends m_many m_made m_madeMany 1 m_thrown m_now m_ahead m_then m_time m_timeThen m_isThere m_comes) X iX9_put_X9 tyX9 tyX9_ok nmX9 hH 0 rfl rfl 10 rfl (List.mem_of_getElem? (i := 1) rfl) rfl rfl rfl rfl rfl dX9_put_39 (fun H locs hH => ?_)
  refine lv_iconst (v := 0) (pc := 42) hx hb dX9_put_42 zk_c0 ?_
  refine lv_istore (pc := 43) (lv' := [(10, .int 0), (9, .int zr2), (8, .int zr1), (0, .ref (mq 0)), (1, .int x1), (2, .int x2), (3, .int x3), (4, .int x4), (5, .int x5), (6, .int x6), (7, .int x7)]) hx hb dX9_put_43 hl (by decide) rfl (fun ls hl => ?_)
  obtain ⟨zr6, hzr6, h⟩ := zb h
  refine w_X9_put_l45 G cy fu mq m_hosts m_lost m_late m_wait m_per m_blocks m_sends m_many 1 m_thrown m_now m_ahead m_then m_time m_timeThen m_isThere m_comes x1 x4 x5 x7 zr1 zr2 X fu 0 m_made m_madeMany zr6 hzr6 _ _ _ hH (lv_sub hl [3, 4, 7, 8, 10, 2, 1, 0] rfl) (fun H locs ls hH hl => ?_)
  obtain rfl := Option.some.inj h
  exact z_vret X hr hH dX9_put_154
set_option maxHeartbeats 4000000 in
set_option maxRecDepth 100000 in
theorem w_X9_ring_l70 {p : Program} {l : Launch} {e : Env} {s : State} {m : MethodId} {args : Array Value} {below : List Frame} {meth : Method} {c : Code} {A : Nat → Prop} {Q : State → Prop} (G : va_G) (cy : Nat → ClassId) (fu : Nat) (mq : Nat → Nat) (m_hosts : Int32) (m_lost : Nat → Int32) (m_late : Nat → Int32) (m_wait : Nat → Int32) (m_per : Nat → Int32) (m_blocks : Nat → Int32) (m_sends : Nat → Int32) (m_many : Int32) (m_thrown : Int32) (m_now : Nat → Int32) (m_ahead : Nat → Int32) (m_then : Nat → Int32) (m_time : Nat → Int32) (m_timeThen : Nat → Int32) (m_isThere : Nat → Int32) (m_comes : Nat → Int32) (x1 : Int32) (x3 : Int32) (x4 : Int32) (X : zX p s m args meth c RX9 cX9_ring 6 wsX9_ring G cy A) : ∀ (n : Nat) (x5 : Int32) (m_made : Nat → Int32) (m_madeMany : Int32) (m_lacking : Int32) (rr : (Nat → Int32) × Int32 × Int32) (h : lp (f_X9_ring_l70 fu m_lost m_wait x1 x3 x4) n (x5, m_made, m_madeMany, m_lacking) = some rr) (H : Heap) (locs : List Loc) (ls : Array Slot) (hH : zH G A s.heap (wM cy mq m_hosts m_lost m_late m_wait m_per m_blocks m_sends m_many m_made m_madeMany m_lacking m_thrown m_now m_ahead m_then m_time m_timeThen m_isThere m_comes) H locs) (hl : lv_has ls 6 [(0, .ref (mq 0)), (1, .int x1), (3, .int x3), (4, .int x4), (5, .int x5)]) (K0 : ∀ (H : Heap) (locs : List Loc) (ls : Array Slot), zH G A s.heap (wM cy mq m_hosts m_lost m_late m_wait m_per m_blocks m_sends m_many rr.1 rr.2.1 rr.2.2 m_thrown m_now m_ahead m_then m_time m_timeThen m_isThere m_comes) H locs → lv_has ls 6 [(0, .ref (mq 0)), (1, .int x1), (3, .int x3), (4, .int x4)] → W p l e (zR 2 54) s m args below meth c H locs 0 0 Q (F0 m 115 ls [])), W p l e (zR 2 54) s m args below meth c H locs 0 0 Q (F0 m 70 ls []) := by
  have hx := X.1.1
  have hb := X.1.2.1
  intro n
  induction n with
  | zero => intro x5 m_made m_madeMany m_lacking rr h H locs ls hH hl K0; cases h
  | succ n ih =>
    intro x5 m_made m_madeMany m_lacking rr h H locs ls hH hl K0
    replace h : f_X9_ring_l70 fu m_lost m_wait x1 x3 x4 (lp (f_X9_ring_l70 fu m_lost m_wait x1 x3 x4) n) (x5, m_made, m_madeMany, m_lacking) = some rr := h
    dsimp only [f_X9_ring_l70] at h
    refine lv_iload (pc := 70) hx hb dX9_ring_70 (lv_at hl 4 rfl) ?_
    refine lv_iload_n (pc := 72) hx hb dX9_ring_72 rfl (lv_at hl 2 rfl) ?_
    refine lv_icmp_ge (pc := 73) (tgt := 115) hx hb dX9_ring_73 rfl (fun zc1 => ?_) (fun zc1 => ?_)
    · have h := zt zc1 h
      obtain rfl := Option.some.inj h
      exact K0 _ _ _ hH (lv_sub hl [0, 1, 2, 3] rfl)
    have h := zf zc1 h
    refine lv_aload_n (pc := 76) hx hb dX9_ring_76 rfl (lv_at hl 0 rfl) ?_
    refine lv_iload (pc := 77) hx hb dX9_ring_77 (lv_at hl 3 rfl) ?_
    refine lv_iload (pc := 79) hx hb dX9_ring_79 (lv_at hl 4 rfl) ?_
    refine lv_iload (pc := 81) hx hb dX9_ring_81 (lv_at hl 4 rfl) ?_
    refine lv_iconst (v := 1) (pc := 83) hx hb dX9_ring_83 zk_c1 ?_
    refine lv_iadd (pc := 84) hx hb dX9_ring_84 ?_
    refine lv_iload (pc := 85) hx hb dX9_ring_85 (lv_at hl 4 rfl) ?_
    refine lv_iload (pc := 87) hx hb dX9_ring_87 (lv_at hl 3 rfl) ?_
    refine lv_isub (pc := 89) hx hb dX9_ring_89 ?_
    refine lv_iload_n (pc := 90) hx hb dX9_ring_90 rfl (lv_at hl 2 rfl) ?_
    refine lv_iadd (pc := 91) hx hb dX9_ring_91 ?_
    refine lv_iload_n (pc := 92) hx hb dX9_ring_92 rfl (lv_at hl 2 rfl) ?_
    obtain ⟨hin, h⟩ := zg h
    refine lv_irem (pc := 93) hx hb dX9_ring_93 hin ?_
    refine lv_iconst (v := 1) (pc := 94) hx hb dX9_ring_94 zk_c1 ?_
    refine lv_iload_n (pc := 95) hx hb dX9_ring_95 rfl (lv_at hl 2 rfl) ?_
    refine lv_iload_n (pc := 96) hx hb dX9_ring_96 rfl (lv_at hl 1 rfl) ?_
    refine lv_iconst (v := 2) (pc := 97) hx hb dX9_ring_97 zk_c2 ?_
    refine lv_icmp_ne (pc := 98) (tgt := 105) hx hb dX9_ring_98 rfl (fun zc2 => ?_) (fun zc2 => ?_)
    · have h := zf zc2 h
      refine lv_iconst (v := 0) (pc := 105) hx hb dX9_ring_105 zk_c0 ?_
      obtain ⟨zr3, hzr3, h⟩ := zb h
      refine zcV (pc := 106) (As := [.int x4, .int x5, .int (x5 + 1), .int (((x5 - x4) + x3) - ((x5 - x4) + x3) / x3 * x3), .int 1, .int x3, .int 0]) (rest := []) (st1 := []) (ws' := wM cy mq m_hosts m_lost m_late m_wait m_per m_blocks m_sends m_many zr3.1 zr3.2.1 zr3.2.2 m_thrown m_now m_ahead m_then m_time m_timeThen m_isThere m_comes) (wr := []) (n := 7) (q0 := 0) X (c_X9_put l G cy fu mq m_hosts m_lost m_late m_wait m_per m_blocks m_sends m_many m_made m_madeMany m_lacking m_thrown m_now m_ahead m_then m_time m_timeThen m_isThere m_comes x4 x5 (x5 + 1) (((x5 - x4) + x3) - ((x5 - x4) + x3) / x3 * x3) 1 x3 0 zr3 hzr3) hH [0, 1, 2, 3, 4, 5, 6, 7, 8, 9, 10, 11, 12, 13, 14] [] [0, 1, 2, 3, 4, 5, 6, 7, 8, 9, 10, 11, 12, 13, 14] rfl rfl rfl rfl gX9_ring_X9_put rfl ⟨rfl, rfl⟩ kX9_put ⟨Nat.le_of_ble_eq_true rfl, Nat.le_of_ble_eq_true rfl⟩ rfl rfl rfl rfl rfl hl.1 (Nat.le_of_ble_eq_true rfl) ⟨Nat.le_of_ble_eq_true rfl, Nat.le_of_ble_eq_true rfl⟩ dX9_ring_106 (fun H locs hH => ?_)
      refine lv_iinc (pc := 109) (v := (x5 + 1)) (lv' := [(5, .int (x5 + 1)), (0, .ref (mq 0)), (1, .int x1), (3, .int x3), (4, .int x4)]) hx hb dX9_ring_109 hl (k := 4) rfl (by rw [zk_c1]) (by decide) rfl (fun ls hl => ?_)
      refine lv_goto (pc := 112) (tgt := 70) hx hb dX9_ring_112 rfl ?_
      exact ih (x5 + 1) zr3.1 zr3.2.1 zr3.2.2 rr h _ _ _ hH (lv_sub hl [1, 2, 3, 4, 0] rfl) K0
    have h := zt zc2 h
    refine lv_iconst (v := 1) (pc := 101) hx hb dX9_ring_101 zk_c1 ?_
    refine lv_goto (pc := 102) (tgt := 106) hx hb dX9_ring_102 rfl ?_
    obtain ⟨zr4, hzr4, h⟩ := zb h
    refine zcV (pc := 106) (As := [.int x4, .int x5, .int (x5 + 1), .int (((x5 - x4) + x3) - ((x5 - x4) + x3) / x3 * x3), .int 1, .int x3, .int 1]) (rest := []) (st1 := []) (ws' := wM cy mq m_hosts m_lost m_late m_wait m_per m_blocks m_sends m_many zr4.1 zr4.2.1 zr4.2.2 m_thrown m_now m_ahead m_then m_time m_timeThen m_isThere m_comes) (wr := []) (n := 7) (q0 := 0) X (c_X9_put l G cy fu mq m_hosts m_lost m_late m_wait m_per m_blocks m_sends m_many m_made m_madeMany m_lacking m_thrown m_now m_ahead m_then m_time m_timeThen m_isThere m_comes x4 x5 (x5 + 1) (((x5 - x4) + x3) - ((x5 - x4) + x3) / x3 * x3) 1 x3 1 zr4 hzr4) hH [0, 1, 2, 3, 4, 5, 6, 7, 8, 9, 10, 11, 12, 13, 14] [] [0, 1, 2, 3, 4, 5, 6, 7, 8, 9, 10, 11, 12, 13, 14] rfl rfl rfl rfl gX9_ring_X9_put rfl ⟨rfl, rfl⟩ kX9_put ⟨Nat.le_of_ble_eq_true rfl, Nat.le_of_ble_eq_true rfl⟩ rfl rfl rfl rfl rfl hl.1 (Nat.le_of_ble_eq_true rfl) ⟨Nat.le_of_ble_eq_true rfl, Nat.le_of_ble_eq_true rfl⟩ dX9_ring_106 (fun H locs hH => ?_)
    refine lv_iinc (pc := 109) (v := (x5 + 1)) (lv' := [(5, .int (x5 + 1)), (0, .ref (mq 0)), (1, .int x1), (3, .int x3), (4, .int x4)]) hx hb dX9_ring_109 hl (k := 4) rfl (by rw [zk_c1]) (by decide) rfl (fun ls hl => ?_)
    refine lv_goto (pc := 112) (tgt := 70) hx hb dX9_ring_112 rfl ?_
    exact ih (x5 + 1) zr4.1 zr4.2.1 zr4.2.2 rr h _ _ _ hH (lv_sub hl [1, 2, 3, 4, 0] rfl) K0
set_option maxHeartbeats 4000000 in
set_option maxRecDepth 100000 in
theorem w_X9_ring_l59 {p : Program} {l : Launch} {e : Env} {s : State} {m : MethodId} {args : Array Value} {below : List Frame} {meth : Method} {c : Code} {A : Nat → Prop} {Q : State → Prop} (G : va_G) (cy : Nat → ClassId) (fu : Nat) (mq : Nat → Nat) (m_hosts : Int32) (m_lost : Nat → Int32) (m_late : Nat → Int32) (m_wait : Nat → Int32) (m_per : Nat → Int32) (m_blocks : Nat → Int32) (m_sends : Nat → Int32) (m_many : Int32) (m_thrown : Int32) (m_now : Nat → Int32) (m_ahead : Nat → Int32) (m_then : Nat → Int32) (m_time : Nat → Int32) (m_timeThen : Nat → Int32) (m_isThere : Nat → Int32) (m_comes : Nat → Int32) (x1 : Int32) (x3 : Int32) (X : zX p s m args meth c RX9 cX9_ring 6 wsX9_ring G cy A) : ∀ (n : Nat) (x4 : Int32) (m_made : Nat → Int32) (m_madeMany : Int32) (m_lacking : Int32) (rr : (Nat → Int32) × Int32 × Int32) (h : lp (f_X9_ring_l59 fu m_lost m_wait x1 x3) n (x4, m_made, m_madeMany, m_lacking) = some rr) (H : Heap) (locs : List Loc) (ls : Array Slot) (hH : zH G A s.heap (wM cy mq m_hosts m_lost m_late m_wait m_per m_blocks m_sends m_many m_made m_madeMany m_lacking m_thrown m_now m_ahead m_then m_time m_timeThen m_isThere m_comes) H locs) (hl : lv_has ls 6 [(0, .ref (mq 0)), (1, .int x1), (3, .int x3), (4, .int x4)]) (K0 : ∀ (H : Heap) (locs : List Loc) (ls : Array Slot), zH G A s.heap (wM cy mq m_hosts m_lost m_late m_wait m_per m_blocks m_sends m_many rr.1 rr.2.1 rr.2.2 m_thrown m_now m_ahead m_then m_time m_timeThen m_isThere m_comes) H locs → lv_has ls 6 [(0, .ref (mq 0)), (1, .int x1), (3, .int x3)] → W p l e (zR 2 54) s m args below meth c H locs 0 0 Q (F0 m 121 ls [])), W p l e (zR 2 54) s m args below meth c H locs 0 0 Q (F0 m 59 ls []) := by
  have hx := X.1.1
  have hb := X.1.2.1
  intro n
  induction n with
  | zero => intro x4 m_made m_madeMany m_lacking rr h H locs ls hH hl K0; cases h
  | succ n ih =>
    intro x4 m_made m_madeMany m_lacking rr h H locs ls hH hl K0
    replace h : f_X9_ring_l59 fu m_lost m_wait x1 x3 (lp (f_X9_ring_l59 fu m_lost m_wait x1 x3) n) (x4, m_made, m_madeMany, m_lacking) = some rr := h
    dsimp only [f_X9_ring_l59] at h
    refine lv_iload (pc := 59) hx hb dX9_ring_59 (lv_at hl 3 rfl) ?_
    refine lv_iload_n (pc := 61) hx hb dX9_ring_61 rfl (lv_at hl 2 rfl) ?_
    refine lv_iconst (v := 1) (pc := 62) hx hb dX9_ring_62 zk_c1 ?_
    refine lv_isub (pc := 63) hx hb dX9_ring_63 ?_
    refine lv_icmp_ge (pc := 64) (tgt := 121) hx hb dX9_ring_64 rfl (fun zc1 => ?_) (fun zc1 => ?_)
    · have h := zt zc1 h
      obtain rfl := Option.some.inj h
      exact K0 _ _ _ hH (lv_sub hl [0, 1, 2] rfl)
    have h := zf zc1 h
    refine lv_iconst (v := 0) (pc := 67) hx hb dX9_ring_67 zk_c0 ?_
    refine lv_istore (pc := 68) (lv' := [(5, .int 0), (0, .ref (mq 0)), (1, .int x1), (3, .int x3), (4, .int x4)]) hx hb dX9_ring_68 hl (by decide) rfl (fun ls hl => ?_)
    obtain ⟨zr2, hzr2, h⟩ := zb h
    refine w_X9_ring_l70 G cy fu mq m_hosts m_lost m_late m_wait m_per m_blocks m_sends m_many m_thrown m_now m_ahead m_then m_time m_timeThen m_isThere m_comes x1 x3 x4 X fu 0 m_made m_madeMany m_lacking zr2 hzr2 _ _ _ hH (lv_sub hl [1, 2, 3, 4, 0] rfl) (fun H locs ls hH hl => ?_)
    refine lv_iinc (pc := 115) (v := (x4 + 1)) (lv' := [(4, .int (x4 + 1)), (0, .ref (mq 0)), (1, .int x1), (3, .int x3)]) hx hb dX9_ring_115 hl (k := 3) rfl (by rw [zk_c1]) (by decide) rfl (fun ls hl => ?_)
    refine lv_goto (pc := 118) (tgt := 59) hx hb dX9_ring_118 rfl ?_
    exact ih (x4 + 1) zr2.1 zr2.2.1 zr2.2.2 rr h _ _ _ hH (lv_sub hl [1, 2, 3, 0] rfl) K0
set_option maxHeartbeats 4000000 in
set_option maxRecDepth 100000 in
theorem w_X9_ring_l140 {p : Program} {l : Launch} {e : Env} {s : State} {m : MethodId} {args : Array Value} {below : List Frame} {meth : Method} {c : Code} {A : Nat → Prop} {Q : State → Prop} (G : va_G) (cy : Nat → ClassId) (fu : Nat) (mq : Nat → Nat) (m_hosts : Int32) (m_lost : Nat → Int32) (m_late : Nat → Int32) (m_wait : Nat → Int32) (m_per : Nat → Int32) (m_blocks : Nat → Int32) (m_sends : Nat → Int32) (m_many : Int32) (m_thrown : Int32) (m_now : Nat → Int32) (m_ahead : Nat → Int32) (m_then : Nat → Int32) (m_time : Nat → Int32) (m_timeThen : Nat → Int32) (m_isThere : Nat → Int32) (m_comes : Nat → Int32) (x1 : Int32) (x3 : Int32) (x4 : Int32) (X : zX p s m args meth c RX9 cX9_ring 6 wsX9_ring G cy A) : ∀ (n : Nat) (x5 : Int32) (m_made : Nat → Int32) (m_madeMany : Int32) (m_lacking : Int32) (rr : (Nat → Int32) × Int32 × Int32) (h : lp (f_X9_ring_l140 fu m_lost m_wait x3 x4) n (x5, m_made, m_madeMany, m_lacking) = some rr) (H : Heap) (locs : List Loc) (ls : Array Slot) (hH : zH G A s.heap (wM cy mq m_hosts m_lost m_late m_wait m_per m_blocks m_sends m_many m_made m_madeMany m_lacking m_thrown m_now m_ahead m_then m_time m_timeThen m_isThere m_comes) H locs) (hl : lv_has ls 6 [(0, .ref (mq 0)), (1, .int x1), (3, .int x3), (4, .int x4), (5, .int x5)]) (K0 : ∀ (H : Heap) (locs : List Loc) (ls : Array Slot), zH G A s.heap (wM cy mq m_hosts m_lost m_late m_wait m_per m_blocks m_sends m_many rr.1 rr.2.1 rr.2.2 m_thrown m_now m_ahead m_then m_time m_timeThen m_isThere m_comes) H locs → lv_has ls 6 [(0, .ref (mq 0)), (1, .int x1), (3, .int x3), (4, .int x4)] → W p l e (zR 2 54) s m args below meth c H locs 0 0 Q (F0 m 182 ls [])), W p l e (zR 2 54) s m args below meth c H locs 0 0 Q (F0 m 140 ls []) := by
  have hx := X.1.1
  have hb := X.1.2.1
  intro n
  induction n with
  | zero => intro x5 m_made m_madeMany m_lacking rr h H locs ls hH hl K0; cases h
  | succ n ih =>
    intro x5 m_made m_madeMany m_lacking rr h H locs ls hH hl K0
    replace h : f_X9_ring_l140 fu m_lost m_wait x3 x4 (lp (f_X9_ring_l140 fu m_lost m_wait x3 x4) n) (x5, m_made, m_madeMany, m_lacking) = some rr := h
    dsimp only [f_X9_ring_l140] at h
    refine lv_iload (pc := 140) hx hb dX9_ring_140 (lv_at hl 4 rfl) ?_
    refine lv_iload_n (pc := 142) hx hb dX9_ring_142 rfl (lv_at hl 2 rfl) ?_
    refine lv_icmp_ge (pc := 143) (tgt := 182) hx hb dX9_ring_143 rfl (fun zc1 => ?_) (fun zc1 => ?_)
    · have h := zt zc1 h
      obtain rfl := Option.some.inj h
      exact K0 _ _ _ hH (lv_sub hl [0, 1, 2, 3] rfl)
    have h := zf zc1 h
    refine lv_aload_n (pc := 146) hx hb dX9_ring_146 rfl (lv_at hl 0 rfl) ?_
    refine lv_iload_n (pc := 147) hx hb dX9_ring_147 rfl (lv_at hl 2 rfl) ?_
    refine lv_iconst (v := 1) (pc := 148) hx hb dX9_ring_148 zk_c1 ?_
    refine lv_isub (pc := 149) hx hb dX9_ring_149 ?_
    refine lv_iload (pc := 150) hx hb dX9_ring_150 (lv_at hl 3 rfl) ?_
    refine lv_iadd (pc := 152) hx hb dX9_ring_152 ?_
    refine lv_iload (pc := 153) hx hb dX9_ring_153 (lv_at hl 4 rfl) ?_
    refine lv_iload (pc := 155) hx hb dX9_ring_155 (lv_at hl 4 rfl) ?_
    refine lv_iconst (v := 1) (pc := 157) hx hb dX9_ring_157 zk_c1 ?_
    refine lv_iadd (pc := 158) hx hb dX9_ring_158 ?_
    refine lv_iload (pc := 159) hx hb dX9_ring_159 (lv_at hl 4 rfl) ?_
    refine lv_iconst (v := 1) (pc := 161) hx hb dX9_ring_161 zk_c1 ?_
    refine lv_iadd (pc := 162) hx hb dX9_ring_162 ?_
    refine lv_iload (pc := 163) hx hb dX9_ring_163 (lv_at hl 3 rfl) ?_
    refine lv_isub (pc := 165) hx hb dX9_ring_165 ?_
    refine lv_iload_n (pc := 166) hx hb dX9_ring_166 rfl (lv_at hl 2 rfl) ?_
    refine lv_iadd (pc := 167) hx hb dX9_ring_167 ?_
    refine lv_iload_n (pc := 168) hx hb dX9_ring_168 rfl (lv_at hl 2 rfl) ?_
    obtain ⟨hin, h⟩ := zg h
    refine lv_irem (pc := 169) hx hb dX9_ring_169 hin ?_
    refine lv_iconst (v := 1) (pc := 170) hx hb dX9_ring_170 zk_c1 ?_
    refine lv_iload_n (pc := 171) hx hb dX9_ring_171 rfl (lv_at hl 2 rfl) ?_
    refine lv_iconst (v := 0) (pc := 172) hx hb dX9_ring_172 zk_c0 ?_
    obtain ⟨zr2, hzr2, h⟩ := zb h
    refine zcV (pc := 173) (As := [.int ((x3 - 1) + x4), .int x5, .int (x5 + 1), .int ((((x5 + 1) - x4) + x3) - (((x5 + 1) - x4) + x3) / x3 * x3), .int 1, .int x3, .int 0]) (rest := []) (st1 := []) (ws' := wM cy mq m_hosts m_lost m_late m_wait m_per m_blocks m_sends m_many zr2.1 zr2.2.1 zr2.2.2 m_thrown m_now m_ahead m_then m_time m_timeThen m_isThere m_comes) (wr := []) (n := 7) (q0 := 0) X (c_X9_put l G cy fu mq m_hosts m_lost m_late m_wait m_per m_blocks m_sends m_many m_made m_madeMany m_lacking m_thrown m_now m_ahead m_then m_time m_timeThen m_isThere m_comes ((x3 - 1) + x4) x5 (x5 + 1) ((((x5 + 1) - x4) + x3) - (((x5 + 1) - x4) + x3) / x3 * x3) 1 x3 0 zr2 hzr2) hH [0, 1, 2, 3, 4, 5, 6, 7, 8, 9, 10, 11, 12, 13, 14] [] [0, 1, 2, 3, 4, 5, 6, 7, 8, 9, 10, 11, 12, 13, 14] rfl rfl rfl rfl gX9_ring_X9_put rfl ⟨rfl, rfl⟩ kX9_put ⟨Nat.le_of_ble_eq_true rfl, Nat.le_of_ble_eq_true rfl⟩ rfl rfl rfl rfl rfl hl.1 (Nat.le_of_ble_eq_true rfl) ⟨Nat.le_of_ble_eq_true rfl, Nat.le_of_ble_eq_true rfl⟩ dX9_ring_173 (fun H locs hH => ?_)
    refine lv_iinc (pc := 176) (v := (x5 + 1)) (lv' := [(5, .int (x5 + 1)), (0, .ref (mq 0)), (1, .int x1), (3, .int x3), (4, .int x4)]) hx hb dX9_ring_176 hl (k := 4) rfl (by rw [zk_c1]) (by decide) rfl (fun ls hl => ?_)
    refine lv_goto (pc := 179) (tgt := 140) hx hb dX9_ring_179 rfl ?_
    exact ih (x5 + 1) zr2.1 zr2.2.1 zr2.2.2 rr h _ _ _ hH (lv_sub hl [1, 2, 3, 4, 0] rfl) K0
set_option maxHeartbeats 4000000 in
set_option maxRecDepth 100000 in
theorem w_X9_ring_l124 {p : Program} {l : Launch} {e : Env} {s : State} {m : MethodId} {args : Array Value} {below : List Frame} {meth : Method} {c : Code} {A : Nat → Prop} {Q : State → Prop} (G : va_G) (cy : Nat → ClassId) (fu : Nat) (mq : Nat → Nat) (m_hosts : Int32) (m_lost : Nat → Int32) (m_late : Nat → Int32) (m_wait : Nat → Int32) (m_per : Nat → Int32) (m_blocks : Nat → Int32) (m_sends : Nat → Int32) (m_many : Int32) (m_thrown : Int32) (m_now : Nat → Int32) (m_ahead : Nat → Int32) (m_then : Nat → Int32) (m_time : Nat → Int32) (m_timeThen : Nat → Int32) (m_isThere : Nat → Int32) (m_comes : Nat → Int32) (x1 : Int32) (x3 : Int32) (X : zX p s m args meth c RX9 cX9_ring 6 wsX9_ring G cy A) : ∀ (n : Nat) (x4 : Int32) (m_made : Nat → Int32) (m_madeMany : Int32) (m_lacking : Int32) (rr : (Nat → Int32) × Int32 × Int32) (h : lp (f_X9_ring_l124 fu m_lost m_wait x1 x3) n (x4, m_made, m_madeMany, m_lacking) = some rr) (H : Heap) (locs : List Loc) (ls : Array Slot) (hH : zH G A s.heap (wM cy mq m_hosts m_lost m_late m_wait m_per m_blocks m_sends m_many m_made m_madeMany m_lacking m_thrown m_now m_ahead m_then m_time m_timeThen m_isThere m_comes) H locs) (hl : lv_has ls 6 [(0, .ref (mq 0)), (1, .int x1), (3, .int x3), (4, .int x4)]) (K0 : ∀ (H : Heap) (locs : List Loc) (ls : Array Slot), zH G A s.heap (wM cy mq m_hosts m_lost m_late m_wait m_per m_blocks m_sends m_many rr.1 rr.2.1 rr.2.2 m_thrown m_now m_ahead m_then m_time m_timeThen m_isThere m_comes) H locs → lv_has ls 6 [] → W p l e (zR 2 54) s m args below meth c H locs 0 0 Q (F0 m 188 ls [])), W p l e (zR 2 54) s m args below meth c H locs 0 0 Q (F0 m 124 ls []) := by
  have hx := X.1.1
  have hb := X.1.2.1
  intro n
  induction n with
  | zero => intro x4 m_made m_madeMany m_lacking rr h H locs ls hH hl K0; cases h
  | succ n ih =>
    intro x4 m_made m_madeMany m_lacking rr h H locs ls hH hl K0
    replace h : f_X9_ring_l124 fu m_lost m_wait x1 x3 (lp (f_X9_ring_l124 fu m_lost m_wait x1 x3) n) (x4, m_made, m_madeMany, m_lacking) = some rr := h
    dsimp only [f_X9_ring_l124] at h
    refine lv_iload (pc := 124) hx hb dX9_ring_124 (lv_at hl 3 rfl) ?_
    refine lv_iload_n (pc := 126) hx hb dX9_ring_126 rfl (lv_at hl 2 rfl) ?_
    refine lv_iconst (v := 1) (pc := 127) hx hb dX9_ring_127 zk_c1 ?_
    refine lv_isub (pc := 128) hx hb dX9_ring_128 ?_
    refine lv_icmp_ge (pc := 129) (tgt := 188) hx hb dX9_ring_129 rfl (fun zc1 => ?_) (fun zc1 => ?_)
    · have h := zt zc1 h
      obtain rfl := Option.some.inj h
      exact K0 _ _ _ hH (lv_sub hl [] rfl)
    have h := zf zc1 h
    refine lv_iload_n (pc := 132) hx hb dX9_ring_132 rfl (lv_at hl 1 rfl) ?_
    refine lv_iconst (v := 2) (pc := 133) hx hb dX9_ring_133 zk_c2 ?_
    refine lv_icmp_ne (pc := 134) (tgt := 188) hx hb dX9_ring_134 rfl (fun zc2 => ?_) (fun zc2 => ?_)
    · have h := zf zc2 h
      obtain rfl := Option.some.inj h
      exact K0 _ _ _ hH (lv_sub hl [] rfl)
    have h := zt zc2 h
    refine lv_iconst (v := 0) (pc := 137) hx hb dX9_ring_137 zk_c0 ?_
    refine lv_istore (pc := 138) (lv' := [(5, .int 0), (0, .ref (mq 0)), (1, .int x1), (3, .int x3), (4, .int x4)]) hx hb dX9_ring_138 hl (by decide) rfl (fun ls hl => ?_)
    obtain ⟨zr3, hzr3, h⟩ := zb h
    refine w_X9_ring_l140 G cy fu mq m_hosts m_lost m_late m_wait m_per m_blocks m_sends m_many m_thrown m_now m_ahead m_then m_time m_timeThen m_isThere m_comes x1 x3 x4 X fu 0 m_made m_madeMany m_lacking zr3 hzr3 _ _ _ hH (lv_sub hl [1, 2, 3, 4, 0] rfl) (fun H locs ls hH hl => ?_)
    refine lv_iinc (pc := 182) (v := (x4 + 1)) (lv' := [(4, .int (x4 + 1)), (0, .ref (mq 0)), (1, .int x1), (3, .int x3)]) hx hb dX9_ring_182 hl (k := 3) rfl (by rw [zk_c1]) (by decide) rfl (fun ls hl => ?_)
    refine lv_goto (pc := 185) (tgt := 124) hx hb dX9_ring_185 rfl ?_
    exact ih (x4 + 1) zr3.1 zr3.2.1 zr3.2.2 rr h _ _ _ hH (lv_sub hl [1, 2, 3, 0] rfl) K0
set_option maxHeartbeats 4000000 in
set_option maxRecDepth 100000 in
theorem w_X9_ring_l8 {p : Program} {l : Launch} {e : Env} {s : State} {m : MethodId} {args : Array Value} {below : List Frame} {meth : Method} {c : Code} {A : Nat → Prop} {Q : State → Prop} (G : va_G) (cy : Nat → ClassId) (fu : Nat) (mq : Nat → Nat) (m_hosts : Int32) (m_lost : Nat → Int32) (m_late : Nat → Int32) (m_wait : Nat → Int32) (m_per : Nat → Int32) (m_blocks : Nat → Int32) (m_sends : Nat → Int32) (m_many : Int32) (m_thrown : Int32) (m_now : Nat → Int32) (m_ahead : Nat → Int32) (m_then : Nat → Int32) (m_time : Nat → Int32) (m_timeThen : Nat → Int32) (m_isThere : Nat → Int32) (m_comes : Nat → Int32) (x1 : Int32) (x2 : Int32) (x3 : Int32) (X : zX p s m args meth c RX9 cX9_ring 6 wsX9_ring G cy A) : ∀ (n : Nat) (x4 : Int32) (m_made : Nat → Int32) (m_madeMany : Int32) (m_lacking : Int32) (rr : (Nat → Int32) × Int32 × Int32) (h : lp (f_X9_ring_l8 fu m_lost m_wait x1 x2 x3) n (x4, m_made, m_madeMany, m_lacking) = some rr) (H : Heap) (locs : List Loc) (ls : Array Slot) (hH : zH G A s.heap (wM cy mq m_hosts m_lost m_late m_wait m_per m_blocks m_sends m_many m_made m_madeMany m_lacking m_thrown m_now m_ahead m_then m_time m_timeThen m_isThere m_comes) H locs) (hl : lv_has ls 6 [(0, .ref (mq 0)), (1, .int x1), (2, .int x2), (3, .int x3), (4, .int x4)]) (K0 : ∀ (H : Heap) (locs : List Loc) (ls : Array Slot), zH G A s.heap (wM cy mq m_hosts m_lost m_late m_wait m_per m_blocks m_sends m_many rr.1 rr.2.1 rr.2.2 m_thrown m_now m_ahead m_then m_time m_timeThen m_isThere m_comes) H locs → lv_has ls 6 [] → W p l e (zR 2 54) s m args below meth c H locs 0 0 Q (F0 m 55 ls [])), W p l e (zR 2 54) s m args below meth c H locs 0 0 Q (F0 m 8 ls []) := by
  have hx := X.1.1
  have hb := X.1.2.1
  intro n
  induction n with
  | zero => intro x4 m_made m_madeMany m_lacking rr h H locs ls hH hl K0; cases h
  | succ n ih =>
    intro x4 m_made m_madeMany m_lacking rr h H locs ls hH hl K0
    replace h : f_X9_ring_l8 fu m_lost m_wait x1 x2 x3 (lp (f_X9_ring_l8 fu m_lost m_wait x1 x2 x3) n) (x4, m_made, m_madeMany, m_lacking) = some rr := h
    dsimp only [f_X9_ring_l8] at h
    refine lv_iload (pc := 8) hx hb dX9_ring_8 (lv_at hl 4 rfl) ?_
    refine lv_iload_n (pc := 10) hx hb dX9_ring_10 rfl (lv_at hl 3 rfl) ?_
    refine lv_iconst (v := 1) (pc := 11) hx hb dX9_ring_11 zk_c1 ?_
    refine lv_isub (pc := 12) hx hb dX9_ring_12 ?_
    refine lv_icmp_ge (pc := 13) (tgt := 55) hx hb dX9_ring_13 rfl (fun zc1 => ?_) (fun zc1 => ?_)
    · have h := zt zc1 h
      obtain rfl := Option.some.inj h
      exact K0 _ _ _ hH (lv_sub hl [] rfl)
    have h := zf zc1 h
    refine lv_aload_n (pc := 16) hx hb dX9_ring_16 rfl (lv_at hl 0 rfl) ?_
    refine lv_iload (pc := 17) hx hb dX9_ring_17 (lv_at hl 4 rfl) ?_
    refine lv_iload_n (pc := 19) hx hb dX9_ring_19 rfl (lv_at hl 2 rfl) ?_
    refine lv_iload (pc := 20) hx hb dX9_ring_20 (lv_at hl 4 rfl) ?_
    refine lv_iadd (pc := 22) hx hb dX9_ring_22 ?_
    refine lv_iload_n (pc := 23) hx hb dX9_ring_23 rfl (lv_at hl 1 rfl) ?_
    refine lv_iadd (pc := 24) hx hb dX9_ring_24 ?_
    refine lv_iload_n (pc := 25) hx hb dX9_ring_25 rfl (lv_at hl 2 rfl) ?_
    refine lv_iload (pc := 26) hx hb dX9_ring_26 (lv_at hl 4 rfl) ?_
    refine lv_iadd (pc := 28) hx hb dX9_ring_28 ?_
    refine lv_iload_n (pc := 29) hx hb dX9_ring_29 rfl (lv_at hl 1 rfl) ?_
    refine lv_iadd (pc := 30) hx hb dX9_ring_30 ?_
    refine lv_iconst (v := 1) (pc := 31) hx hb dX9_ring_31 zk_c1 ?_
    refine lv_iadd (pc := 32) hx hb dX9_ring_32 ?_
    refine lv_iconst (v := 0) (pc := 33) hx hb dX9_ring_33 zk_c0 ?_
    refine lv_iload_n (pc := 34) hx hb dX9_ring_34 rfl (lv_at hl 3 rfl) ?_
    refine lv_iload_n (pc := 35) hx hb dX9_ring_35 rfl (lv_at hl 3 rfl) ?_
    refine lv_iload_n (pc := 36) hx hb dX9_ring_36 rfl (lv_at hl 1 rfl) ?_
    refine lv_iconst (v := 1) (pc := 37) hx hb dX9_ring_37 zk_c1 ?_
    refine lv_icmp_ne (pc := 38) (tgt := 45) hx hb dX9_ring_38 rfl (fun zc2 => ?_) (fun zc2 => ?_)
    · have h := zf zc2 h
      refine lv_iconst (v := 0) (pc := 45) hx hb dX9_ring_45 zk_c0 ?_
      obtain ⟨zr3, hzr3, h⟩ := zb h
      refine zcV (pc := 46) (As := [.int x4, .int ((x2 + x4) + x1), .int (((x2 + x4) + x1) + 1), .int 0, .int x3, .int x3, .int 0]) (rest := []) (st1 := []) (ws' := wM cy mq m_hosts m_lost m_late m_wait m_per m_blocks m_sends m_many zr3.1 zr3.2.1 zr3.2.2 m_thrown m_now m_ahead m_then m_time m_timeThen m_isThere m_comes) (wr := []) (n := 7) (q0 := 0) X (c_X9_put l G cy fu mq m_hosts m_lost m_late m_wait m_per m_blocks m_sends m_many m_made m_madeMany m_lacking m_thrown m_now m_ahead m_then m_time m_timeThen m_isThere m_comes x4 ((x2 + x4) + x1) (((x2 + x4) + x1) + 1) 0 x3 x3 0 zr3 hzr3) hH [0, 1, 2, 3, 4, 5, 6, 7, 8, 9, 10, 11, 12, 13, 14] [] [0, 1, 2, 3, 4, 5, 6, 7, 8, 9, 10, 11, 12, 13, 14] rfl rfl rfl rfl gX9_ring_X9_put rfl ⟨rfl, rfl⟩ kX9_put ⟨Nat.le_of_ble_eq_true rfl, Nat.le_of_ble_eq_true rfl⟩ rfl rfl rfl rfl rfl hl.1 (Nat.le_of_ble_eq_true rfl) ⟨Nat.le_of_ble_eq_true rfl, Nat.le_of_ble_eq_true rfl⟩ dX9_ring_46 (fun H locs hH => ?_)
      refine lv_iinc (pc := 49) (v := (x4 + 1)) (lv' := [(4, .int (x4 + 1)), (0, .ref (mq 0)), (1, .int x1), (2, .int x2), (3, .int x3)]) hx hb dX9_ring_49 hl (k := 4) rfl (by rw [zk_c1]) (by decide) rfl (fun ls hl => ?_)
      refine lv_goto (pc := 52) (tgt := 8) hx hb dX9_ring_52 rfl ?_
      exact ih (x4 + 1) zr3.1 zr3.2.1 zr3.2.2 rr h _ _ _ hH (lv_sub hl [1, 2, 3, 4, 0] rfl) K0
    have h := zt zc2 h
    refine lv_iconst (v := 1) (pc := 41) hx hb dX9_ring_41 zk_c1 ?_
    refine lv_goto (pc := 42) (tgt := 46) hx hb dX9_ring_42 rfl ?_
    obtain ⟨zr4, hzr4, h⟩ := zb h
    refine zcV (pc := 46) (As := [.int x4, .int ((x2 + x4) + x1), .int (((x2 + x4) + x1) + 1), .int 0, .int x3, .int x3, .int 1]) (rest := []) (st1 := []) (ws' := wM cy mq m_hosts m_lost m_late m_wait m_per m_blocks m_sends m_many zr4.1 zr4.2.1 zr4.2.2 m_thrown m_now m_ahead m_then m_time m_timeThen m_isThere m_comes) (wr := []) (n := 7) (q0 := 0) X (c_X9_put l G cy fu mq m_hosts m_lost m_late m_wait m_per m_blocks m_sends m_many m_made m_madeMany m_lacking m_thrown m_now m_ahead m_then m_time m_timeThen m_isThere m_comes x4 ((x2 + x4) + x1) (((x2 + x4) + x1) + 1) 0 x3 x3 1 zr4 hzr4) hH [0, 1, 2, 3, 4, 5, 6, 7, 8, 9, 10, 11, 12, 13, 14] [] [0, 1, 2, 3, 4, 5, 6, 7, 8, 9, 10, 11, 12, 13, 14] rfl rfl rfl rfl gX9_ring_X9_put rfl ⟨rfl, rfl⟩ kX9_put ⟨Nat.le_of_ble_eq_true rfl, Nat.le_of_ble_eq_true rfl⟩ rfl rfl rfl rfl rfl hl.1 (Nat.le_of_ble_eq_true rfl) ⟨Nat.le_of_ble_eq_true rfl, Nat.le_of_ble_eq_true rfl⟩ dX9_ring_46 (fun H locs hH => ?_)
    refine lv_iinc (pc := 49) (v := (x4 + 1)) (lv' := [(4, .int (x4 + 1)), (0, .ref (mq 0)), (1, .int x1), (2, .int x2), (3, .int x3)]) hx hb dX9_ring_49 hl (k := 4) rfl (by rw [zk_c1]) (by decide) rfl (fun ls hl => ?_)
    refine lv_goto (pc := 52) (tgt := 8) hx hb dX9_ring_52 rfl ?_
    exact ih (x4 + 1) zr4.1 zr4.2.1 zr4.2.2 rr h _ _ _ hH (lv_sub hl [1, 2, 3, 4, 0] rfl) K0
set_option maxHeartbeats 4000000 in
set_option maxRecDepth 100000 in
theorem c_X9_ring (l : Launch) (G : va_G) (cy : Nat → ClassId) (fu : Nat) (mq : Nat → Nat) (m_hosts : Int32) (m_lost : Nat → Int32) (m_late : Nat → Int32) (m_wait : Nat → Int32) (m_per : Nat → Int32) (m_blocks : Nat → Int32) (m_sends : Nat → Int32) (m_many : Int32) (m_made : Nat → Int32) (m_madeMany : Int32) (m_lacking : Int32) (m_thrown : Int32) (m_now : Nat → Int32) (m_ahead : Nat → Int32) (m_then : Nat → Int32) (m_time : Nat → Int32) (m_timeThen : Nat → Int32) (m_isThere : Nat → Int32) (m_comes : Nat → Int32) (x1 : Int32) (x2 : Int32) (x3 : Int32) (rr : (Nat → Int32) × Int32 × Int32) (h : f_X9_ring fu m_lost m_wait m_made m_madeMany m_lacking x1 x2 x3 = some rr) : zM l G cy yX9_ring wsX9_ring (zR 2 54) [.ref (mq 0), .int x1, .int x2, .int x3] (wM cy mq m_hosts m_lost m_late m_wait m_per m_blocks m_sends m_many m_made m_madeMany m_lacking m_thrown m_now m_ahead m_then m_time m_timeThen m_isThere m_comes) (wM cy mq m_hosts m_lost m_late m_wait m_per m_blocks m_sends m_many rr.1 rr.2.1 rr.2.2 m_thrown m_now m_ahead m_then m_time m_timeThen m_isThere m_comes) none := by
  refine zM.mk (cc := cX9_ring) (nL := 6) (ret := none) (by decide) rfl (Nat.le_of_ble_eq_true rfl) ?_
  intro p e s m below meth c A ls X hr hH hl
  replace X : zX p s m [.ref (mq 0), .int x1, .int x2, .int x3].toArray meth c RX9 cX9_ring 6 wsX9_ring G cy A := X
  have hx := X.1.1
  have hb := X.1.2.1
  replace hl : lv_has ls 6 [(0, .ref (mq 0)), (1, .int x1), (2, .int x2), (3, .int x3)] := hl
  dsimp only [f_X9_ring] at h
  refine lv_iload_n (pc := 0) hx hb dX9_ring_0 rfl (lv_at hl 1 rfl) ?_
  refine lv_iconst (v := 2) (pc := 1) hx hb dX9_ring_1 zk_c2 ?_
  refine lv_icmp_ge (pc := 2) (tgt := 56) hx hb dX9_ring_2 rfl (fun zc1 => ?_) (fun zc1 => ?_)
  · have h := zt zc1 h
    refine lv_iconst (v := 0) (pc := 56) hx hb dX9_ring_56 zk_c0 ?_
    refine lv_istore (pc := 57) (lv' := [(4, .int 0), (0, .ref (mq 0)), (1, .int x1), (2, .int x2), (3, .int x3)]) hx hb dX9_ring_57 hl (by decide) rfl (fun ls hl => ?_)
    obtain ⟨zr2, hzr2, h⟩ := zb h
    refine w_X9_ring_l59 G cy fu mq m_hosts m_lost m_late m_wait m_per m_blocks m_sends m_many m_thrown m_now m_ahead m_then m_time m_timeThen m_isThere m_comes x1 x3 X fu 0 m_made m_madeMany m_lacking zr2 hzr2 _ _ _ hH (lv_sub hl [1, 2, 4, 0] rfl) (fun H locs ls hH hl => ?_)
    refine lv_iconst (v := 0) (pc := 121) hx hb dX9_ring_121 zk_c0 ?_
    refine lv_istore (pc := 122) (lv' := [(4, .int 0), (0, .ref (mq 0)), (1, .int x1), (3, .int x3)]) hx hb dX9_ring_122 hl (by decide) rfl (fun ls hl => ?_)
    obtain ⟨zr3, hzr3, h⟩ := zb h
    refine w_X9_ring_l124 G cy fu mq m_hosts m_lost m_late m_wait m_per m_blocks m_sends m_many m_thrown m_now m_ahead m_then m_time m_timeThen m_isThere m_comes x1 x3 X fu 0 zr2.1 zr2.2.1 zr2.2.2 zr3 hzr3 _ _ _ hH (lv_sub hl [1, 2, 3, 0] rfl) (fun H locs ls hH hl => ?_)
    obtain rfl := Option.some.inj h
    exact z_vret X hr hH dX9_ring_188
  have h := zf zc1 h
  refine lv_iconst (v := 0) (pc := 5) hx hb dX9_ring_5 zk_c0 ?_
  refine lv_istore (pc := 6) (lv' := [(4, .int 0), (0, .ref (mq 0)), (1, .int x1), (2, .int x2), (3, .int x3)]) hx hb dX9_ring_6 hl (by decide) rfl (fun ls hl => ?_)
  obtain ⟨zr4, hzr4, h⟩ := zb h
  refine w_X9_ring_l8 G cy fu mq m_hosts m_lost m_late m_wait m_per m_blocks m_sends m_many m_thrown m_now m_ahead m_then m_time m_timeThen m_isThere m_comes x1 x2 x3 X fu 0 m_made m_madeMany m_lacking zr4 hzr4 _ _ _ hH (lv_sub hl [1, 2, 3, 4, 0] rfl) (fun H locs ls hH hl => ?_)
  obtain rfl := Option.some.inj h
  exact z_vret X hr hH dX9_ring_55
set_option maxHeartbeats 4000000 in
set_option maxRecDepth 100000 in
theorem w_X9_turns_l2 {p : Program} {l : Launch} {e : Env} {s : State} {m : MethodId} {args : Array Value} {below : List Frame} {meth : Method} {c : Code} {A : Nat → Prop} {Q : State → Prop} (G : va_G) (cy : Nat → ClassId) (fu : Nat)  (x0 : Int32) (X : zX p s m args meth c RX9 cX9_turns 2 wsX9_turns G cy A) : ∀ (n : Nat) (x1 : Int32) (rr : Int32) (h : lp (f_X9_turns_l2 fu x0) n x1 = some rr) (H : Heap) (locs : List Loc) (ls : Array Slot) (hH : zH G A s.heap (([] : va_W)) H locs) (hl : lv_has ls 2 [(0, .int x0), (1, .int x1)]) (K0 : ∀ (H : Heap) (locs : List Loc) (ls : Array Slot), zH G A s.heap (([] : va_W)) H locs → lv_has ls 2 [(1, .int rr)] → W p l e (zR 0 0) s m args below meth c H locs 0 0 Q (F0 m 15 ls [])), W p l e (zR 0 0) s m args below meth c H locs 0 0 Q (F0 m 2 ls []) := by
  have hx := X.1.1
  have hb := X.1.2.1
  intro n
  induction n with
  | zero => intro x1 rr h H locs ls hH hl K0; cases h
  | succ n ih =>
    intro x1 rr h H locs ls hH hl K0
    replace h : f_X9_turns_l2 fu x0 (lp (f_X9_turns_l2 fu x0) n) x1 = some rr := h
    dsimp only [f_X9_turns_l2] at h
    refine lv_iconst (v := 1) (pc := 2) hx hb dX9_turns_2 zk_c1 ?_
    refine lv_iload_n (pc := 3) hx hb dX9_turns_3 rfl (lv_at hl 1 rfl) ?_
    refine lv_ishl (pc := 4) hx hb dX9_turns_4 ?_
    refine lv_iload_n (pc := 5) hx hb dX9_turns_5 rfl (lv_at hl 0 rfl) ?_
    refine lv_icmp_ge (pc := 6) (tgt := 15) hx hb dX9_turns_6 rfl (fun zc1 => ?_) (fun zc1 => ?_)
    · have h := zt zc1 h
      obtain rfl := Option.some.inj h
      exact K0 _ _ _ hH (lv_sub hl [1] rfl)
    have h := zf zc1 h
    refine lv_iinc (pc := 9) (v := (x1 + 1)) (lv' := [(1, .int (x1 + 1)), (0, .int x0)]) hx hb dX9_turns_9 hl (k := 1) rfl (by rw [zk_c1]) (by decide) rfl (fun ls hl => ?_)
    refine lv_goto (pc := 12) (tgt := 2) hx hb dX9_turns_12 rfl ?_
    exact ih (x1 + 1) rr h _ _ _ hH (lv_sub hl [1, 0] rfl) K0
set_option maxHeartbeats 4000000 in
set_option maxRecDepth 100000 in
theorem c_X9_turns (l : Launch) (G : va_G) (cy : Nat → ClassId) (fu : Nat)   (x0 : Int32) (rr : Int32) (h : f_X9_turns fu x0 = some rr) : zM l G cy yX9_turns wsX9_turns (zR 0 0) [.int x0] (([] : va_W)) (([] : va_W)) (some (.int rr)) := by
  refine zM.mk (cc := cX9_turns) (nL := 2) (ret := (some .int)) (by decide) rfl (Nat.le_of_ble_eq_true rfl) ?_
  intro p e s m below meth c A ls X hr hH hl
  replace X : zX p s m [.int x0].toArray meth c RX9 cX9_turns 2 wsX9_turns G cy A := X
  have hx := X.1.1
  have hb := X.1.2.1
  replace hl : lv_has ls 2 [(0, .int x0)] := hl
  dsimp only [f_X9_turns] at h
  refine lv_iconst (v := 0) (pc := 0) hx hb dX9_turns_0 zk_c0 ?_
  refine lv_istore_n (pc := 1) (lv' := [(1, .int 0), (0, .int x0)]) hx hb dX9_turns_1 rfl hl (by decide) rfl (fun ls hl => ?_)
  obtain ⟨zr1, hzr1, h⟩ := zb h
  refine w_X9_turns_l2 G cy fu  x0 X fu 0 zr1 hzr1 _ _ _ hH (lv_sub hl [1, 0] rfl) (fun H locs ls hH hl => ?_)
  refine lv_iload_n (pc := 15) hx hb dX9_turns_15 rfl (lv_at hl 0 rfl) ?_
  obtain rfl := Option.some.inj h
  exact z_iret X hr hH dX9_turns_16
set_option maxHeartbeats 4000000 in
set_option maxRecDepth 100000 in
theorem w_X9_spread_l15 {p : Program} {l : Launch} {e : Env} {s : State} {m : MethodId} {args : Array Value} {below : List Frame} {meth : Method} {c : Code} {A : Nat → Prop} {Q : State → Prop} (G : va_G) (cy : Nat → ClassId) (fu : Nat) (mq : Nat → Nat) (m_hosts : Int32) (m_lost : Nat → Int32) (m_late : Nat → Int32) (m_wait : Nat → Int32) (m_per : Nat → Int32) (m_blocks : Nat → Int32) (m_sends : Nat → Int32) (m_many : Int32) (m_thrown : Int32) (m_now : Nat → Int32) (m_ahead : Nat → Int32) (m_then : Nat → Int32) (m_time : Nat → Int32) (m_timeThen : Nat → Int32) (m_isThere : Nat → Int32) (m_comes : Nat → Int32) (x1 : Int32) (x2 : Int32) (x3 : Int32) (x4 : Int32) (X : zX p s m args meth c RX9 cX9_spread 6 wsX9_spread G cy A) : ∀ (n : Nat) (x5 : Int32) (m_made : Nat → Int32) (m_madeMany : Int32) (m_lacking : Int32) (rr : (Nat → Int32) × Int32 × Int32) (h : lp (f_X9_spread_l15 fu m_lost m_wait x1 x2 x3 x4) n (x5, m_made, m_madeMany, m_lacking) = some rr) (H : Heap) (locs : List Loc) (ls : Array Slot) (hH : zH G A s.heap (wM cy mq m_hosts m_lost m_late m_wait m_per m_blocks m_sends m_many m_made m_madeMany m_lacking m_thrown m_now m_ahead m_then m_time m_timeThen m_isThere m_comes) H locs) (hl : lv_has ls 6 [(0, .ref (mq 0)), (1, .int x1), (2, .int x2), (3, .int x3), (4, .int x4), (5, .int x5)]) (K0 : ∀ (H : Heap) (locs : List Loc) (ls : Array Slot), zH G A s.heap (wM cy mq m_hosts m_lost m_late m_wait m_per m_blocks m_sends m_many rr.1 rr.2.1 rr.2.2 m_thrown m_now m_ahead m_then m_time m_timeThen m_isThere m_comes) H locs → lv_has ls 6 [(0, .ref (mq 0)), (1, .int x1), (2, .int x2), (3, .int x3), (4, .int x4)] → W p l e (zR 2 54) s m args below meth c H locs 0 0 Q (F0 m 66 ls [])), W p l e (zR 2 54) s m args below meth c H locs 0 0 Q (F0 m 15 ls []) := by
  have hx := X.1.1
  have hb := X.1.2.1
  intro n
  induction n with
  | zero => intro x5 m_made m_madeMany m_lacking rr h H locs ls hH hl K0; cases h
  | succ n ih =>
    intro x5 m_made m_madeMany m_lacking rr h H locs ls hH hl K0
    replace h : f_X9_spread_l15 fu m_lost m_wait x1 x2 x3 x4 (lp (f_X9_spread_l15 fu m_lost m_wait x1 x2 x3 x4) n) (x5, m_made, m_madeMany, m_lacking) = some rr := h
    dsimp only [f_X9_spread_l15] at h
    refine lv_iload (pc := 15) hx hb dX9_spread_15 (lv_at hl 5 rfl) ?_
    refine lv_iconst (v := 1) (pc := 17) hx hb dX9_spread_17 zk_c1 ?_
    refine lv_iload (pc := 18) hx hb dX9_spread_18 (lv_at hl 4 rfl) ?_
    refine lv_ishl (pc := 20) hx hb dX9_spread_20 ?_
    refine lv_icmp_ge (pc := 21) (tgt := 66) hx hb dX9_spread_21 rfl (fun zc1 => ?_) (fun zc1 => ?_)
    · have h := zt zc1 h
      obtain rfl := Option.some.inj h
      exact K0 _ _ _ hH (lv_sub hl [0, 1, 2, 3, 4] rfl)
    have h := zf zc1 h
    refine lv_iload (pc := 24) hx hb dX9_spread_24 (lv_at hl 5 rfl) ?_
    refine lv_iconst (v := 1) (pc := 26) hx hb dX9_spread_26 zk_c1 ?_
    refine lv_iload (pc := 27) hx hb dX9_spread_27 (lv_at hl 4 rfl) ?_
    refine lv_ishl (pc := 29) hx hb dX9_spread_29 ?_
    refine lv_iadd (pc := 30) hx hb dX9_spread_30 ?_
    refine lv_iload_n (pc := 31) hx hb dX9_spread_31 rfl (lv_at hl 3 rfl) ?_
    refine lv_icmp_ge (pc := 32) (tgt := 66) hx hb dX9_spread_32 rfl (fun zc2 => ?_) (fun zc2 => ?_)
    · have h := zt zc2 h
      obtain rfl := Option.some.inj h
      exact K0 _ _ _ hH (lv_sub hl [0, 1, 2, 3, 4] rfl)
    have h := zf zc2 h
    refine lv_aload_n (pc := 35) hx hb dX9_spread_35 rfl (lv_at hl 0 rfl) ?_
    refine lv_iload_n (pc := 36) hx hb dX9_spread_36 rfl (lv_at hl 1 rfl) ?_
    refine lv_iload (pc := 37) hx hb dX9_spread_37 (lv_at hl 4 rfl) ?_
    refine lv_iadd (pc := 39) hx hb dX9_spread_39 ?_
    refine lv_iload_n (pc := 40) hx hb dX9_spread_40 rfl (lv_at hl 2 rfl) ?_
    refine lv_iload (pc := 41) hx hb dX9_spread_41 (lv_at hl 5 rfl) ?_
    refine lv_iadd (pc := 43) hx hb dX9_spread_43 ?_
    refine lv_iload_n (pc := 44) hx hb dX9_spread_44 rfl (lv_at hl 2 rfl) ?_
    refine lv_iload (pc := 45) hx hb dX9_spread_45 (lv_at hl 5 rfl) ?_
    refine lv_iadd (pc := 47) hx hb dX9_spread_47 ?_
    refine lv_iconst (v := 1) (pc := 48) hx hb dX9_spread_48 zk_c1 ?_
    refine lv_iload (pc := 49) hx hb dX9_spread_49 (lv_at hl 4 rfl) ?_
    refine lv_ishl (pc := 51) hx hb dX9_spread_51 ?_
    refine lv_iadd (pc := 52) hx hb dX9_spread_52 ?_
    refine lv_iconst (v := 0) (pc := 53) hx hb dX9_spread_53 zk_c0 ?_
    refine lv_iload_n (pc := 54) hx hb dX9_spread_54 rfl (lv_at hl 3 rfl) ?_
    refine lv_iload_n (pc := 55) hx hb dX9_spread_55 rfl (lv_at hl 3 rfl) ?_
    refine lv_iconst (v := 0) (pc := 56) hx hb dX9_spread_56 zk_c0 ?_
    obtain ⟨zr3, hzr3, h⟩ := zb h
    refine zcV (pc := 57) (As := [.int (x1 + x4), .int (x2 + x5), .int ((x2 + x5) + (1 <<< (x4 &&& 31))), .int 0, .int x3, .int x3, .int 0]) (rest := []) (st1 := []) (ws' := wM cy mq m_hosts m_lost m_late m_wait m_per m_blocks m_sends m_many zr3.1 zr3.2.1 zr3.2.2 m_thrown m_now m_ahead m_then m_time m_timeThen m_isThere m_comes) (wr := []) (n := 7) (q0 := 0) X (c_X9_put l G cy fu mq m_hosts m_lost m_late m_wait m_per m_blocks m_sends m_many m_made m_madeMany m_lacking m_thrown m_now m_ahead m_then m_time m_timeThen m_isThere m_comes (x1 + x4) (x2 + x5) ((x2 + x5) + (1 <<< (x4 &&& 31))) 0 x3 x3 0 zr3 hzr3) hH [0, 1, 2, 3, 4, 5, 6, 7, 8, 9, 10, 11, 12, 13, 14] [] [0, 1, 2, 3, 4, 5, 6, 7, 8, 9, 10, 11, 12, 13, 14] rfl rfl rfl rfl gX9_spread_X9_put rfl ⟨rfl, rfl⟩ kX9_put ⟨Nat.le_of_ble_eq_true rfl, Nat.le_of_ble_eq_true rfl⟩ rfl rfl rfl rfl rfl hl.1 (Nat.le_of_ble_eq_true rfl) ⟨Nat.le_of_ble_eq_true rfl, Nat.le_of_ble_eq_true rfl⟩ dX9_spread_57 (fun H locs hH => ?_)
    refine lv_iinc (pc := 60) (v := (x5 + 1)) (lv' := [(5, .int (x5 + 1)), (0, .ref (mq 0)), (1, .int x1), (2, .int x2), (3, .int x3), (4, .int x4)]) hx hb dX9_spread_60 hl (k := 5) rfl (by rw [zk_c1]) (by decide) rfl (fun ls hl => ?_)
    refine lv_goto (pc := 63) (tgt := 15) hx hb dX9_spread_63 rfl ?_
    exact ih (x5 + 1) zr3.1 zr3.2.1 zr3.2.2 rr h _ _ _ hH (lv_sub hl [1, 2, 3, 4, 5, 0] rfl) K0
set_option maxHeartbeats 4000000 in
set_option maxRecDepth 100000 in
theorem w_X9_spread_l3 {p : Program} {l : Launch} {e : Env} {s : State} {m : MethodId} {args : Array Value} {below : List Frame} {meth : Method} {c : Code} {A : Nat → Prop} {Q : State → Prop} (G : va_G) (cy : Nat → ClassId) (fu : Nat) (mq : Nat → Nat) (m_hosts : Int32) (m_lost : Nat → Int32) (m_late : Nat → Int32) (m_wait : Nat → Int32) (m_per : Nat → Int32) (m_blocks : Nat → Int32) (m_sends : Nat → Int32) (m_many : Int32) (m_thrown : Int32) (m_now : Nat → Int32) (m_ahead : Nat → Int32) (m_then : Nat → Int32) (m_time : Nat → Int32) (m_timeThen : Nat → Int32) (m_isThere : Nat → Int32) (m_comes : Nat → Int32) (x1 : Int32) (x2 : Int32) (x3 : Int32) (X : zX p s m args meth c RX9 cX9_spread 6 wsX9_spread G cy A) : ∀ (n : Nat) (x4 : Int32) (m_made : Nat → Int32) (m_madeMany : Int32) (m_lacking : Int32) (rr : (Nat → Int32) × Int32 × Int32) (h : lp (f_X9_spread_l3 fu m_lost m_wait x1 x2 x3) n (x4, m_made, m_madeMany, m_lacking) = some rr) (H : Heap) (locs : List Loc) (ls : Array Slot) (hH : zH G A s.heap (wM cy mq m_hosts m_lost m_late m_wait m_per m_blocks m_sends m_many m_made m_madeMany m_lacking m_thrown m_now m_ahead m_then m_time m_timeThen m_isThere m_comes) H locs) (hl : lv_has ls 6 [(0, .ref (mq 0)), (1, .int x1), (2, .int x2), (3, .int x3), (4, .int x4)]) (K0 : ∀ (H : Heap) (locs : List Loc) (ls : Array Slot), zH G A s.heap (wM cy mq m_hosts m_lost m_late m_wait m_per m_blocks m_sends m_many rr.1 rr.2.1 rr.2.2 m_thrown m_now m_ahead m_then m_time m_timeThen m_isThere m_comes) H locs → lv_has ls 6 [] → W p l e (zR 2 54) s m args below meth c H locs 0 0 Q (F0 m 72 ls [])), W p l e (zR 2 54) s m args below meth c H locs 0 0 Q (F0 m 3 ls []) := by
  have hx := X.1.1
  have hb := X.1.2.1
  intro n
  induction n with
  | zero => intro x4 m_made m_madeMany m_lacking rr h H locs ls hH hl K0; cases h
  | succ n ih =>
    intro x4 m_made m_madeMany m_lacking rr h H locs ls hH hl K0
    replace h : f_X9_spread_l3 fu m_lost m_wait x1 x2 x3 (lp (f_X9_spread_l3 fu m_lost m_wait x1 x2 x3) n) (x4, m_made, m_madeMany, m_lacking) = some rr := h
    dsimp only [f_X9_spread_l3] at h
    refine lv_iload (pc := 3) hx hb dX9_spread_3 (lv_at hl 4 rfl) ?_
    refine lv_iload_n (pc := 5) hx hb dX9_spread_5 rfl (lv_at hl 3 rfl) ?_
    obtain ⟨zr1, hzr1, h⟩ := zb h
    refine zcS (pc := 6) (As := [.int x3]) (rest := [.int x4]) (st1 := [.int zr1, .int x4]) (ws' := wM cy mq m_hosts m_lost m_late m_wait m_per m_blocks m_sends m_many m_made m_madeMany m_lacking m_thrown m_now m_ahead m_then m_time m_timeThen m_isThere m_comes) (wr := [((mq 0), .inr (8, [.int m_hosts, .ref (mq 1), .ref (mq 2), .ref (mq 3), .ref (mq 4), .ref (mq 5), .ref (mq 6), .int m_many, .ref (mq 7), .int m_madeMany, .int m_lacking, .int m_thrown, .ref (mq 8), .ref (mq 9), .ref (mq 10), .ref (mq 11), .ref (mq 12), .ref (mq 13), .ref (mq 14)])), ((mq 1), .inl (cy 2, 16, .inl m_lost)), ((mq 2), .inl (cy 0, 16, .inl m_late)), ((mq 3), .inl (cy 0, 256, .inl m_wait)), ((mq 4), .inl (cy 0, 256, .inl m_per)), ((mq 5), .inl (cy 0, 256, .inl m_blocks)), ((mq 6), .inl (cy 0, 7200, .inl m_sends)), ((mq 7), .inl (cy 0, 7200, .inl m_made)), ((mq 8), .inl (cy 3, 65536, .inl m_now)), ((mq 9), .inl (cy 3, 65536, .inl m_ahead)), ((mq 10), .inl (cy 0, 256, .inl m_then)), ((mq 11), .inl (cy 0, 16, .inl m_time)), ((mq 12), .inl (cy 0, 16, .inl m_timeThen)), ((mq 13), .inl (cy 2, 256, .inl m_isThere)), ((mq 14), .inl (cy 2, 256, .inl m_comes))]) (n := 1) X (c_X9_turns l G cy fu x3 zr1 hzr1) hH [] [0, 1, 2, 3, 4, 5, 6, 7, 8, 9, 10, 11, 12, 13, 14] [0, 1, 2, 3, 4, 5, 6, 7, 8, 9, 10, 11, 12, 13, 14] rfl rfl rfl rfl gX9_spread_X9_turns rfl ⟨rfl, rfl⟩ kX9_turns ⟨Nat.le_of_ble_eq_true rfl, Nat.le_of_ble_eq_true rfl⟩ rfl rfl rfl hl.1 (Nat.le_of_ble_eq_true rfl) ⟨Nat.le_of_ble_eq_true rfl, Nat.le_of_ble_eq_true rfl⟩ dX9_spread_6 (fun H locs hH => ?_)
    refine lv_icmp_ge (pc := 9) (tgt := 72) hx hb dX9_spread_9 rfl (fun zc2 => ?_) (fun zc2 => ?_)
    · have h := zt zc2 h
      obtain rfl := Option.some.inj h
      exact K0 _ _ _ hH (lv_sub hl [] rfl)
    have h := zf zc2 h
    refine lv_iconst (v := 0) (pc := 12) hx hb dX9_spread_12 zk_c0 ?_
    refine lv_istore (pc := 13) (lv' := [(5, .int 0), (0, .ref (mq 0)), (1, .int x1), (2, .int x2), (3, .int x3), (4, .int x4)]) hx hb dX9_spread_13 hl (by decide) rfl (fun ls hl => ?_)
    obtain ⟨zr3, hzr3, h⟩ := zb h
    refine w_X9_spread_l15 G cy fu mq m_hosts m_lost m_late m_wait m_per m_blocks m_sends m_many m_thrown m_now m_ahead m_then m_time m_timeThen m_isThere m_comes x1 x2 x3 x4 X fu 0 m_made m_madeMany m_lacking zr3 hzr3 _ _ _ hH (lv_sub hl [1, 2, 3, 4, 5, 0] rfl) (fun H locs ls hH hl => ?_)
    refine lv_iinc (pc := 66) (v := (x4 + 1)) (lv' := [(4, .int (x4 + 1)), (0, .ref (mq 0)), (1, .int x1), (2, .int x2), (3, .int x3)]) hx hb dX9_spread_66 hl (k := 4) rfl (by rw [zk_c1]) (by decide) rfl (fun ls hl => ?_)
    refine lv_goto (pc := 69) (tgt := 3) hx hb dX9_spread_69 rfl ?_
    exact ih (x4 + 1) zr3.1 zr3.2.1 zr3.2.2 rr h _ _ _ hH (lv_sub hl [1, 2, 3, 4, 0] rfl) K0
set_option maxHeartbeats 4000000 in
set_option maxRecDepth 100000 in
theorem c_X9_spread (l : Launch) (G : va_G) (cy : Nat → ClassId) (fu : Nat) (mq : Nat → Nat) (m_hosts : Int32) (m_lost : Nat → Int32) (m_late : Nat → Int32) (m_wait : Nat → Int32) (m_per : Nat → Int32) (m_blocks : Nat → Int32) (m_sends : Nat → Int32) (m_many : Int32) (m_made : Nat → Int32) (m_madeMany : Int32) (m_lacking : Int32) (m_thrown : Int32) (m_now : Nat → Int32) (m_ahead : Nat → Int32) (m_then : Nat → Int32) (m_time : Nat → Int32) (m_timeThen : Nat → Int32) (m_isThere : Nat → Int32) (m_comes : Nat → Int32) (x1 : Int32) (x2 : Int32) (x3 : Int32) (rr : (Nat → Int32) × Int32 × Int32) (h : f_X9_spread fu m_lost m_wait m_made m_madeMany m_lacking x1 x2 x3 = some rr) : zM l G cy yX9_spread wsX9_spread (zR 2 54) [.ref (mq 0), .int x1, .int x2, .int x3] (wM cy mq m_hosts m_lost m_late m_wait m_per m_blocks m_sends m_many m_made m_madeMany m_lacking m_thrown m_now m_ahead m_then m_time m_timeThen m_isThere m_comes) (wM cy mq m_hosts m_lost m_late m_wait m_per m_blocks m_sends m_many rr.1 rr.2.1 rr.2.2 m_thrown m_now m_ahead m_then m_time m_timeThen m_isThere m_comes) none := by
  refine zM.mk (cc := cX9_spread) (nL := 6) (ret := none) (by decide) rfl (Nat.le_of_ble_eq_true rfl) ?_
  intro p e s m below meth c A ls X hr hH hl
  replace X : zX p s m [.ref (mq 0), .int x1, .int x2, .int x3].toArray meth c RX9 cX9_spread 6 wsX9_spread G cy A := X
  have hx := X.1.1
  have hb := X.1.2.1
  replace hl : lv_has ls 6 [(0, .ref (mq 0)), (1, .int x1), (2, .int x2), (3, .int x3)] := hl
  dsimp only [f_X9_spread] at h
  refine lv_iconst (v := 0) (pc := 0) hx hb dX9_spread_0 zk_c0 ?_
  refine lv_istore (pc := 1) (lv' := [(4, .int 0), (0, .ref (mq 0)), (1, .int x1), (2, .int x2), (3, .int x3)]) hx hb dX9_spread_1 hl (by decide) rfl (fun ls hl => ?_)
  obtain ⟨zr1, hzr1, h⟩ := zb h
  refine w_X9_spread_l3 G cy fu mq m_hosts m_lost m_late m_wait m_per m_blocks m_sends m_many m_thrown m_now m_ahead m_then m_time m_timeThen m_isThere m_comes x1 x2 x3 X fu 0 m_made m_madeMany m_lacking zr1 hzr1 _ _ _ hH (lv_sub hl [1, 2, 3, 4, 0] rfl) (fun H locs ls hH hl => ?_)
  obtain rfl := Option.some.inj h
  exact z_vret X hr hH dX9_spread_72
set_option maxHeartbeats 4000000 in
set_option maxRecDepth 100000 in
theorem w_X9_tree_l34 {p : Program} {l : Launch} {e : Env} {s : State} {m : MethodId} {args : Array Value} {below : List Frame} {meth : Method} {c : Code} {A : Nat → Prop} {Q : State → Prop} (G : va_G) (cy : Nat → ClassId) (fu : Nat) (mq : Nat → Nat) (m_hosts : Int32) (m_lost : Nat → Int32) (m_late : Nat → Int32) (m_wait : Nat → Int32) (m_per : Nat → Int32) (m_blocks : Nat → Int32) (m_sends : Nat → Int32) (m_many : Int32) (m_thrown : Int32) (m_now : Nat → Int32) (m_ahead : Nat → Int32) (m_then : Nat → Int32) (m_time : Nat → Int32) (m_timeThen : Nat → Int32) (m_isThere : Nat → Int32) (m_comes : Nat → Int32) (x1 : Int32) (x2 : Int32) (x3 : Int32) (x4 : Int32) (x5 : Int32) (x6 : Int32) (X : zX p s m args meth c RX9 cX9_tree 8 wsX9_tree G cy A) : ∀ (n : Nat) (x7 : Int32) (m_made : Nat → Int32) (m_madeMany : Int32) (m_lacking : Int32) (rr : (Nat → Int32) × Int32 × Int32) (h : lp (f_X9_tree_l34 fu m_lost m_wait x2 x3 x5 x6) n (x7, m_made, m_madeMany, m_lacking) = some rr) (H : Heap) (locs : List Loc) (ls : Array Slot) (hH : zH G A s.heap (wM cy mq m_hosts m_lost m_late m_wait m_per m_blocks m_sends m_many m_made m_madeMany m_lacking m_thrown m_now m_ahead m_then m_time m_timeThen m_isThere m_comes) H locs) (hl : lv_has ls 8 [(0, .ref (mq 0)), (1, .int x1), (2, .int x2), (3, .int x3), (4, .int x4), (5, .int x5), (6, .int x6), (7, .int x7)]) (K0 : ∀ (H : Heap) (locs : List Loc) (ls : Array Slot), zH G A s.heap (wM cy mq m_hosts m_lost m_late m_wait m_per m_blocks m_sends m_many rr.1 rr.2.1 rr.2.2 m_thrown m_now m_ahead m_then m_time m_timeThen m_isThere m_comes) H locs → lv_has ls 8 [(0, .ref (mq 0)), (1, .int x1), (2, .int x2), (3, .int x3), (4, .int x4), (5, .int x5)] → W p l e (zR 3 79) s m args below meth c H locs 0 0 Q (F0 m 77 ls [])), W p l e (zR 3 79) s m args below meth c H locs 0 0 Q (F0 m 34 ls []) := by
  have hx := X.1.1
  have hb := X.1.2.1
  intro n
  induction n with
  | zero => intro x7 m_made m_madeMany m_lacking rr h H locs ls hH hl K0; cases h
  | succ n ih =>
    intro x7 m_made m_madeMany m_lacking rr h H locs ls hH hl K0
    replace h : f_X9_tree_l34 fu m_lost m_wait x2 x3 x5 x6 (lp (f_X9_tree_l34 fu m_lost m_wait x2 x3 x5 x6) n) (x7, m_made, m_madeMany, m_lacking) = some rr := h
    dsimp only [f_X9_tree_l34] at h
    refine lv_iload (pc := 34) hx hb dX9_tree_34 (lv_at hl 7 rfl) ?_
    refine lv_iload (pc := 36) hx hb dX9_tree_36 (lv_at hl 6 rfl) ?_
    refine lv_icmp_ge (pc := 38) (tgt := 77) hx hb dX9_tree_38 rfl (fun zc1 => ?_) (fun zc1 => ?_)
    · have h := zt zc1 h
      obtain rfl := Option.some.inj h
      exact K0 _ _ _ hH (lv_sub hl [0, 1, 2, 3, 4, 5] rfl)
    have h := zf zc1 h
    refine lv_iload (pc := 41) hx hb dX9_tree_41 (lv_at hl 7 rfl) ?_
    refine lv_iload (pc := 43) hx hb dX9_tree_43 (lv_at hl 6 rfl) ?_
    refine lv_iadd (pc := 45) hx hb dX9_tree_45 ?_
    refine lv_iload_n (pc := 46) hx hb dX9_tree_46 rfl (lv_at hl 3 rfl) ?_
    refine lv_icmp_ge (pc := 47) (tgt := 77) hx hb dX9_tree_47 rfl (fun zc2 => ?_) (fun zc2 => ?_)
    · have h := zt zc2 h
      obtain rfl := Option.some.inj h
      exact K0 _ _ _ hH (lv_sub hl [0, 1, 2, 3, 4, 5] rfl)
    have h := zf zc2 h
    refine lv_aload_n (pc := 50) hx hb dX9_tree_50 rfl (lv_at hl 0 rfl) ?_
    refine lv_iload (pc := 51) hx hb dX9_tree_51 (lv_at hl 5 rfl) ?_
    refine lv_iload_n (pc := 53) hx hb dX9_tree_53 rfl (lv_at hl 2 rfl) ?_
    refine lv_iload (pc := 54) hx hb dX9_tree_54 (lv_at hl 7 rfl) ?_
    refine lv_iadd (pc := 56) hx hb dX9_tree_56 ?_
    refine lv_iload (pc := 57) hx hb dX9_tree_57 (lv_at hl 6 rfl) ?_
    refine lv_iadd (pc := 59) hx hb dX9_tree_59 ?_
    refine lv_iload_n (pc := 60) hx hb dX9_tree_60 rfl (lv_at hl 2 rfl) ?_
    refine lv_iload (pc := 61) hx hb dX9_tree_61 (lv_at hl 7 rfl) ?_
    refine lv_iadd (pc := 63) hx hb dX9_tree_63 ?_
    refine lv_iconst (v := 0) (pc := 64) hx hb dX9_tree_64 zk_c0 ?_
    refine lv_iload_n (pc := 65) hx hb dX9_tree_65 rfl (lv_at hl 3 rfl) ?_
    refine lv_iload_n (pc := 66) hx hb dX9_tree_66 rfl (lv_at hl 3 rfl) ?_
    refine lv_iconst (v := 1) (pc := 67) hx hb dX9_tree_67 zk_c1 ?_
    obtain ⟨zr3, hzr3, h⟩ := zb h
    refine zcV (pc := 68) (As := [.int x5, .int ((x2 + x7) + x6), .int (x2 + x7), .int 0, .int x3, .int x3, .int 1]) (rest := []) (st1 := []) (ws' := wM cy mq m_hosts m_lost m_late m_wait m_per m_blocks m_sends m_many zr3.1 zr3.2.1 zr3.2.2 m_thrown m_now m_ahead m_then m_time m_timeThen m_isThere m_comes) (wr := []) (n := 7) (q0 := 0) X (c_X9_put l G cy fu mq m_hosts m_lost m_late m_wait m_per m_blocks m_sends m_many m_made m_madeMany m_lacking m_thrown m_now m_ahead m_then m_time m_timeThen m_isThere m_comes x5 ((x2 + x7) + x6) (x2 + x7) 0 x3 x3 1 zr3 hzr3) hH [0, 1, 2, 3, 4, 5, 6, 7, 8, 9, 10, 11, 12, 13, 14] [] [0, 1, 2, 3, 4, 5, 6, 7, 8, 9, 10, 11, 12, 13, 14] rfl rfl rfl rfl gX9_tree_X9_put rfl ⟨rfl, rfl⟩ kX9_put ⟨Nat.le_of_ble_eq_true rfl, Nat.le_of_ble_eq_true rfl⟩ rfl rfl rfl rfl rfl hl.1 (Nat.le_of_ble_eq_true rfl) ⟨Nat.le_of_ble_eq_true rfl, Nat.le_of_ble_eq_true rfl⟩ dX9_tree_68 (fun H locs hH => ?_)
    refine lv_iinc (pc := 71) (v := (x7 + 1)) (lv' := [(7, .int (x7 + 1)), (0, .ref (mq 0)), (1, .int x1), (2, .int x2), (3, .int x3), (4, .int x4), (5, .int x5), (6, .int x6)]) hx hb dX9_tree_71 hl (k := 7) rfl (by rw [zk_c1]) (by decide) rfl (fun ls hl => ?_)
    refine lv_goto (pc := 74) (tgt := 34) hx hb dX9_tree_74 rfl ?_
    exact ih (x7 + 1) zr3.1 zr3.2.1 zr3.2.2 rr h _ _ _ hH (lv_sub hl [1, 2, 3, 4, 5, 6, 7, 0] rfl) K0
set_option maxHeartbeats 4000000 in
set_option maxRecDepth 100000 in
theorem w_X9_tree_l9 {p : Program} {l : Launch} {e : Env} {s : State} {m : MethodId} {args : Array Value} {below : List Frame} {meth : Method} {c : Code} {A : Nat → Prop} {Q : State → Prop} (G : va_G) (cy : Nat → ClassId) (fu : Nat) (mq : Nat → Nat) (m_hosts : Int32) (m_lost : Nat → Int32) (m_late : Nat → Int32) (m_wait : Nat → Int32) (m_per : Nat → Int32) (m_blocks : Nat → Int32) (m_sends : Nat → Int32) (m_many : Int32) (m_thrown : Int32) (m_now : Nat → Int32) (m_ahead : Nat → Int32) (m_then : Nat → Int32) (m_time : Nat → Int32) (m_timeThen : Nat → Int32) (m_isThere : Nat → Int32) (m_comes : Nat → Int32) (x1 : Int32) (x2 : Int32) (x3 : Int32) (x4 : Int32) (X : zX p s m args meth c RX9 cX9_tree 8 wsX9_tree G cy A) : ∀ (n : Nat) (x5 : Int32) (m_made : Nat → Int32) (m_madeMany : Int32) (m_lacking : Int32) (rr : (Nat → Int32) × Int32 × Int32) (h : lp (f_X9_tree_l9 fu m_lost m_wait x1 x2 x3 x4) n (x5, m_made, m_madeMany, m_lacking) = some rr) (H : Heap) (locs : List Loc) (ls : Array Slot) (hH : zH G A s.heap (wM cy mq m_hosts m_lost m_late m_wait m_per m_blocks m_sends m_many m_made m_madeMany m_lacking m_thrown m_now m_ahead m_then m_time m_timeThen m_isThere m_comes) H locs) (hl : lv_has ls 8 [(0, .ref (mq 0)), (1, .int x1), (2, .int x2), (3, .int x3), (4, .int x4), (5, .int x5)]) (K0 : ∀ (H : Heap) (locs : List Loc) (ls : Array Slot), zH G A s.heap (wM cy mq m_hosts m_lost m_late m_wait m_per m_blocks m_sends m_many rr.1 rr.2.1 rr.2.2 m_thrown m_now m_ahead m_then m_time m_timeThen m_isThere m_comes) H locs → lv_has ls 8 [(0, .ref (mq 0)), (1, .int x1), (2, .int x2), (3, .int x3), (4, .int x4)] → W p l e (zR 3 79) s m args below meth c H locs 0 0 Q (F0 m 83 ls [])), W p l e (zR 3 79) s m args below meth c H locs 0 0 Q (F0 m 9 ls []) := by
  have hx := X.1.1
  have hb := X.1.2.1
  intro n
  induction n with
  | zero => intro x5 m_made m_madeMany m_lacking rr h H locs ls hH hl K0; cases h
  | succ n ih =>
    intro x5 m_made m_madeMany m_lacking rr h H locs ls hH hl K0
    replace h : f_X9_tree_l9 fu m_lost m_wait x1 x2 x3 x4 (lp (f_X9_tree_l9 fu m_lost m_wait x1 x2 x3 x4) n) (x5, m_made, m_madeMany, m_lacking) = some rr := h
    dsimp only [f_X9_tree_l9] at h
    refine lv_iload (pc := 9) hx hb dX9_tree_9 (lv_at hl 5 rfl) ?_
    refine lv_iload (pc := 11) hx hb dX9_tree_11 (lv_at hl 4 rfl) ?_
    refine lv_icmp_ge (pc := 13) (tgt := 83) hx hb dX9_tree_13 rfl (fun zc1 => ?_) (fun zc1 => ?_)
    · have h := zt zc1 h
      obtain rfl := Option.some.inj h
      exact K0 _ _ _ hH (lv_sub hl [0, 1, 2, 3, 4] rfl)
    have h := zf zc1 h
    refine lv_iload_n (pc := 16) hx hb dX9_tree_16 rfl (lv_at hl 1 rfl) ?_
    refine lv_if_le (pc := 17) (tgt := 83) hx hb dX9_tree_17 rfl (fun zc2 => ?_) (fun zc2 => ?_)
    · have h := zt zc2 h
      obtain rfl := Option.some.inj h
      exact K0 _ _ _ hH (lv_sub hl [0, 1, 2, 3, 4] rfl)
    have h := zf zc2 h
    refine lv_iconst (v := 1) (pc := 20) hx hb dX9_tree_20 zk_c1 ?_
    refine lv_iload (pc := 21) hx hb dX9_tree_21 (lv_at hl 4 rfl) ?_
    refine lv_iconst (v := 1) (pc := 23) hx hb dX9_tree_23 zk_c1 ?_
    refine lv_isub (pc := 24) hx hb dX9_tree_24 ?_
    refine lv_iload (pc := 25) hx hb dX9_tree_25 (lv_at hl 5 rfl) ?_
    refine lv_isub (pc := 27) hx hb dX9_tree_27 ?_
    refine lv_ishl (pc := 28) hx hb dX9_tree_28 ?_
    refine lv_topi (fun za3 eza3 => ?_)
    have h := vn_s h za3 eza3
    refine lv_istore (pc := 29) (lv' := [(6, .int za3), (0, .ref (mq 0)), (1, .int x1), (2, .int x2), (3, .int x3), (4, .int x4), (5, .int x5)]) hx hb dX9_tree_29 hl (by decide) rfl (fun ls hl => ?_)
    refine lv_iconst (v := 0) (pc := 31) hx hb dX9_tree_31 zk_c0 ?_
    refine lv_istore (pc := 32) (lv' := [(7, .int 0), (6, .int za3), (0, .ref (mq 0)), (1, .int x1), (2, .int x2), (3, .int x3), (4, .int x4), (5, .int x5)]) hx hb dX9_tree_32 hl (by decide) rfl (fun ls hl => ?_)
    obtain ⟨zr4, hzr4, h⟩ := zb h
    refine w_X9_tree_l34 G cy fu mq m_hosts m_lost m_late m_wait m_per m_blocks m_sends m_many m_thrown m_now m_ahead m_then m_time m_timeThen m_isThere m_comes x1 x2 x3 x4 x5 za3 X fu 0 m_made m_madeMany m_lacking zr4 hzr4 _ _ _ hH (lv_sub hl [2, 3, 4, 5, 6, 7, 1, 0] rfl) (fun H locs ls hH hl => ?_)
    refine lv_iinc (pc := 77) (v := (x5 + 1)) (lv' := [(5, .int (x5 + 1)), (0, .ref (mq 0)), (1, .int x1), (2, .int x2), (3, .int x3), (4, .int x4)]) hx hb dX9_tree_77 hl (k := 5) rfl (by rw [zk_c1]) (by decide) rfl (fun ls hl => ?_)
    refine lv_goto (pc := 80) (tgt := 9) hx hb dX9_tree_80 rfl ?_
    exact ih (x5 + 1) zr4.1 zr4.2.1 zr4.2.2 rr h _ _ _ hH (lv_sub hl [1, 2, 3, 4, 5, 0] rfl) K0
set_option maxHeartbeats 4000000 in
set_option maxRecDepth 100000 in
theorem c_X9_tree (l : Launch) (G : va_G) (cy : Nat → ClassId) (fu : Nat) (mq : Nat → Nat) (m_hosts : Int32) (m_lost : Nat → Int32) (m_late : Nat → Int32) (m_wait : Nat → Int32) (m_per : Nat → Int32) (m_blocks : Nat → Int32) (m_sends : Nat → Int32) (m_many : Int32) (m_made : Nat → Int32) (m_madeMany : Int32) (m_lacking : Int32) (m_thrown : Int32) (m_now : Nat → Int32) (m_ahead : Nat → Int32) (m_then : Nat → Int32) (m_time : Nat → Int32) (m_timeThen : Nat → Int32) (m_isThere : Nat → Int32) (m_comes : Nat → Int32) (x1 : Int32) (x2 : Int32) (x3 : Int32) (rr : (Nat → Int32) × Int32 × Int32) (h : f_X9_tree fu m_lost m_wait m_made m_madeMany m_lacking x1 x2 x3 = some rr) : zM l G cy yX9_tree wsX9_tree (zR 3 79) [.ref (mq 0), .int x1, .int x2, .int x3] (wM cy mq m_hosts m_lost m_late m_wait m_per m_blocks m_sends m_many m_made m_madeMany m_lacking m_thrown m_now m_ahead m_then m_time m_timeThen m_isThere m_comes) (wM cy mq m_hosts m_lost m_late m_wait m_per m_blocks m_sends m_many rr.1 rr.2.1 rr.2.2 m_thrown m_now m_ahead m_then m_time m_timeThen m_isThere m_comes) none := by
  refine zM.mk (cc := cX9_tree) (nL := 8) (ret := none) (by decide) rfl (Nat.le_of_ble_eq_true rfl) ?_
  intro p e s m below meth c A ls X hr hH hl
  replace X : zX p s m [.ref (mq 0), .int x1, .int x2, .int x3].toArray meth c RX9 cX9_tree 8 wsX9_tree G cy A := X
  have hx := X.1.1
  have hb := X.1.2.1
  replace hl : lv_has ls 8 [(0, .ref (mq 0)), (1, .int x1), (2, .int x2), (3, .int x3)] := hl
  dsimp only [f_X9_tree] at h
  refine lv_iload_n (pc := 0) hx hb dX9_tree_0 rfl (lv_at hl 3 rfl) ?_
  obtain ⟨zr1, hzr1, h⟩ := zb h
  refine zcS (pc := 1) (As := [.int x3]) (rest := []) (st1 := [.int zr1]) (ws' := wM cy mq m_hosts m_lost m_late m_wait m_per m_blocks m_sends m_many m_made m_madeMany m_lacking m_thrown m_now m_ahead m_then m_time m_timeThen m_isThere m_comes) (wr := [((mq 0), .inr (8, [.int m_hosts, .ref (mq 1), .ref (mq 2), .ref (mq 3), .ref (mq 4), .ref (mq 5), .ref (mq 6), .int m_many, .ref (mq 7), .int m_madeMany, .int m_lacking, .int m_thrown, .ref (mq 8), .ref (mq 9), .ref (mq 10), .ref (mq 11), .ref (mq 12), .ref (mq 13), .ref (mq 14)])), ((mq 1), .inl (cy 2, 16, .inl m_lost)), ((mq 2), .inl (cy 0, 16, .inl m_late)), ((mq 3), .inl (cy 0, 256, .inl m_wait)), ((mq 4), .inl (cy 0, 256, .inl m_per)), ((mq 5), .inl (cy 0, 256, .inl m_blocks)), ((mq 6), .inl (cy 0, 7200, .inl m_sends)), ((mq 7), .inl (cy 0, 7200, .inl m_made)), ((mq 8), .inl (cy 3, 65536, .inl m_now)), ((mq 9), .inl (cy 3, 65536, .inl m_ahead)), ((mq 10), .inl (cy 0, 256, .inl m_then)), ((mq 11), .inl (cy 0, 16, .inl m_time)), ((mq 12), .inl (cy 0, 16, .inl m_timeThen)), ((mq 13), .inl (cy 2, 256, .inl m_isThere)), ((mq 14), .inl (cy 2, 256, .inl m_comes))]) (n := 1) X (c_X9_turns l G cy fu x3 zr1 hzr1) hH [] [0, 1, 2, 3, 4, 5, 6, 7, 8, 9, 10, 11, 12, 13, 14] [0, 1, 2, 3, 4, 5, 6, 7, 8, 9, 10, 11, 12, 13, 14] rfl rfl rfl rfl gX9_tree_X9_turns rfl ⟨rfl, rfl⟩ kX9_turns ⟨Nat.le_of_ble_eq_true rfl, Nat.le_of_ble_eq_true rfl⟩ rfl rfl rfl hl.1 (Nat.le_of_ble_eq_true rfl) ⟨Nat.le_of_ble_eq_true rfl, Nat.le_of_ble_eq_true rfl⟩ dX9_tree_1 (fun H locs hH => ?_)
  refine lv_istore (pc := 4) (lv' := [(4, .int zr1), (0, .ref (mq 0)), (1, .int x1), (2, .int x2), (3, .int x3)]) hx hb dX9_tree_4 hl (by decide) rfl (fun ls hl => ?_)
  refine lv_iconst (v := 0) (pc := 6) hx hb dX9_tree_6 zk_c0 ?_
  refine lv_istore (pc := 7) (lv' := [(5, .int 0), (4, .int zr1), (0, .ref (mq 0)), (1, .int x1), (2, .int x2), (3, .int x3)]) hx hb dX9_tree_7 hl (by decide) rfl (fun ls hl => ?_)
  obtain ⟨zr2, hzr2, h⟩ := zb h
  refine w_X9_tree_l9 G cy fu mq m_hosts m_lost m_late m_wait m_per m_blocks m_sends m_many m_thrown m_now m_ahead m_then m_time m_timeThen m_isThere m_comes x1 x2 x3 zr1 X fu 0 m_made m_madeMany m_lacking zr2 hzr2 _ _ _ hH (lv_sub hl [2, 3, 4, 5, 1, 0] rfl) (fun H locs ls hH hl => ?_)
  refine lv_iload_n (pc := 83) hx hb dX9_tree_83 rfl (lv_at hl 1 rfl) ?_
  refine lv_iconst (v := 1) (pc := 84) hx hb dX9_tree_84 zk_c1 ?_
  refine lv_icmp_eq (pc := 85) (tgt := 104) hx hb dX9_tree_85 rfl (fun zc3 => ?_) (fun zc3 => ?_)
  · have h := zt zc3 h
    obtain rfl := Option.some.inj h
    exact z_vret X hr hH dX9_tree_104
  have h := zf zc3 h
  refine lv_aload_n (pc := 88) hx hb dX9_tree_88 rfl (lv_at hl 0 rfl) ?_
  refine lv_iload_n (pc := 89) hx hb dX9_tree_89 rfl (lv_at hl 1 rfl) ?_
  refine lv_if_ne (pc := 90) (tgt := 97) hx hb dX9_tree_90 rfl (fun zc4 => ?_) (fun zc4 => ?_)
  · have h := zf zc4 h
    refine lv_iload (pc := 97) hx hb dX9_tree_97 (lv_at hl 4 rfl) ?_
    refine lv_iload_n (pc := 99) hx hb dX9_tree_99 rfl (lv_at hl 2 rfl) ?_
    refine lv_iload_n (pc := 100) hx hb dX9_tree_100 rfl (lv_at hl 3 rfl) ?_
    obtain ⟨zr5, hzr5, h⟩ := zb h
    refine zcV (pc := 101) (As := [.int zr1, .int x2, .int x3]) (rest := []) (st1 := []) (ws' := wM cy mq m_hosts m_lost m_late m_wait m_per m_blocks m_sends m_many zr5.1 zr5.2.1 zr5.2.2 m_thrown m_now m_ahead m_then m_time m_timeThen m_isThere m_comes) (wr := []) (n := 3) (q0 := 0) X (c_X9_spread l G cy fu mq m_hosts m_lost m_late m_wait m_per m_blocks m_sends m_many zr2.1 zr2.2.1 zr2.2.2 m_thrown m_now m_ahead m_then m_time m_timeThen m_isThere m_comes zr1 x2 x3 zr5 hzr5) hH [0, 1, 2, 3, 4, 5, 6, 7, 8, 9, 10, 11, 12, 13, 14] [] [0, 1, 2, 3, 4, 5, 6, 7, 8, 9, 10, 11, 12, 13, 14] rfl rfl rfl rfl gX9_tree_X9_spread rfl ⟨rfl, rfl⟩ kX9_spread ⟨Nat.le_of_ble_eq_true rfl, Nat.le_of_ble_eq_true rfl⟩ rfl rfl rfl rfl rfl hl.1 (Nat.le_of_ble_eq_true rfl) ⟨Nat.le_of_ble_eq_true rfl, Nat.le_of_ble_eq_true rfl⟩ dX9_tree_101 (fun H locs hH => ?_)
    obtain rfl := Option.some.inj h
    exact z_vret X hr hH dX9_tree_104
  have h := zt zc4 h
  refine lv_iconst (v := 0) (pc := 93) hx hb dX9_tree_93 zk_c0 ?_
  refine lv_goto (pc := 94) (tgt := 99) hx hb dX9_tree_94 rfl ?_
  refine lv_iload_n (pc := 99) hx hb dX9_tree_99 rfl (lv_at hl 2 rfl) ?_
  refine lv_iload_n (pc := 100) hx hb dX9_tree_100 rfl (lv_at hl 3 rfl) ?_
  obtain ⟨zr6, hzr6, h⟩ := zb h
  refine zcV (pc := 101) (As := [.int 0, .int x2, .int x3]) (rest := []) (st1 := []) (ws' := wM cy mq m_hosts m_lost m_late m_wait m_per m_blocks m_sends m_many zr6.1 zr6.2.1 zr6.2.2 m_thrown m_now m_ahead m_then m_time m_timeThen m_isThere m_comes) (wr := []) (n := 3) (q0 := 0) X (c_X9_spread l G cy fu mq m_hosts m_lost m_late m_wait m_per m_blocks m_sends m_many zr2.1 zr2.2.1 zr2.2.2 m_thrown m_now m_ahead m_then m_time m_timeThen m_isThere m_comes 0 x2 x3 zr6 hzr6) hH [0, 1, 2, 3, 4, 5, 6, 7, 8, 9, 10, 11, 12, 13, 14] [] [0, 1, 2, 3, 4, 5, 6, 7, 8, 9, 10, 11, 12, 13, 14] rfl rfl rfl rfl gX9_tree_X9_spread rfl ⟨rfl, rfl⟩ kX9_spread ⟨Nat.le_of_ble_eq_true rfl, Nat.le_of_ble_eq_true rfl⟩ rfl rfl rfl rfl rfl hl.1 (Nat.le_of_ble_eq_true rfl) ⟨Nat.le_of_ble_eq_true rfl, Nat.le_of_ble_eq_true rfl⟩ dX9_tree_101 (fun H locs hH => ?_)
  obtain rfl := Option.some.inj h
  exact z_vret X hr hH dX9_tree_104
set_option maxHeartbeats 4000000 in
set_option maxRecDepth 100000 in
theorem w_X9_halve_l18 {p : Program} {l : Launch} {e : Env} {s : State} {m : MethodId} {args : Array Value} {below : List Frame} {meth : Method} {c : Code} {A : Nat → Prop} {Q : State → Prop} (G : va_G) (cy : Nat → ClassId) (fu : Nat) (mq : Nat → Nat) (m_hosts : Int32) (m_lost : Nat → Int32) (m_late : Nat → Int32) (m_wait : Nat → Int32) (m_per : Nat → Int32) (m_blocks : Nat → Int32) (m_sends : Nat → Int32) (m_many : Int32) (m_thrown : Int32) (m_now : Nat → Int32) (m_ahead : Nat → Int32) (m_then : Nat → Int32) (m_time : Nat → Int32) (m_timeThen : Nat → Int32) (m_isThere : Nat → Int32) (m_comes : Nat → Int32) (x1 : Int32) (x2 : Int32) (x3 : Int32) (x4 : Int32) (X : zX p s m args meth c RX9 cX9_halve 6 wsX9_halve G cy A) : ∀ (n : Nat) (x5 : Int32) (m_made : Nat → Int32) (m_madeMany : Int32) (m_lacking : Int32) (rr : (Nat → Int32) × Int32 × Int32) (h : lp (f_X9_halve_l18 fu m_lost m_wait x1 x2 x3 x4) n (x5, m_made, m_madeMany, m_lacking) = some rr) (H : Heap) (locs : List Loc) (ls : Array Slot) (hH : zH G A s.heap (wM cy mq m_hosts m_lost m_late m_wait m_per m_blocks m_sends m_many m_made m_madeMany m_lacking m_thrown m_now m_ahead m_then m_time m_timeThen m_isThere m_comes) H locs) (hl : lv_has ls 6 [(0, .ref (mq 0)), (1, .int x1), (2, .int x2), (3, .int x3), (4, .int x4), (5, .int x5)]) (K0 : ∀ (H : Heap) (locs : List Loc) (ls : Array Slot), zH G A s.heap (wM cy mq m_hosts m_lost m_late m_wait m_per m_blocks m_sends m_many rr.1 rr.2.1 rr.2.2 m_thrown m_now m_ahead m_then m_time m_timeThen m_isThere m_comes) H locs → lv_has ls 6 [(0, .ref (mq 0)), (1, .int x1), (2, .int x2), (3, .int x3)] → W p l e (zR 2 54) s m args below meth c H locs 0 0 Q (F0 m 81 ls [])), W p l e (zR 2 54) s m args below meth c H locs 0 0 Q (F0 m 18 ls []) := by
  have hx := X.1.1
  have hb := X.1.2.1
  intro n
  induction n with
  | zero => intro x5 m_made m_madeMany m_lacking rr h H locs ls hH hl K0; cases h
  | succ n ih =>
    intro x5 m_made m_madeMany m_lacking rr h H locs ls hH hl K0
    replace h : f_X9_halve_l18 fu m_lost m_wait x1 x2 x3 x4 (lp (f_X9_halve_l18 fu m_lost m_wait x1 x2 x3 x4) n) (x5, m_made, m_madeMany, m_lacking) = some rr := h
    dsimp only [f_X9_halve_l18] at h
    refine lv_iload (pc := 18) hx hb dX9_halve_18 (lv_at hl 5 rfl) ?_
    refine lv_iload_n (pc := 20) hx hb dX9_halve_20 rfl (lv_at hl 2 rfl) ?_
    refine lv_icmp_ge (pc := 21) (tgt := 81) hx hb dX9_halve_21 rfl (fun zc1 => ?_) (fun zc1 => ?_)
    · have h := zt zc1 h
      obtain rfl := Option.some.inj h
      exact K0 _ _ _ hH (lv_sub hl [0, 1, 2, 3] rfl)
    have h := zf zc1 h
    refine lv_aload_n (pc := 24) hx hb dX9_halve_24 rfl (lv_at hl 0 rfl) ?_
    refine lv_iload_n (pc := 25) hx hb dX9_halve_25 rfl (lv_at hl 3 rfl) ?_
    refine lv_iload (pc := 26) hx hb dX9_halve_26 (lv_at hl 5 rfl) ?_
    refine lv_iload (pc := 28) hx hb dX9_halve_28 (lv_at hl 5 rfl) ?_
    refine lv_iload (pc := 30) hx hb dX9_halve_30 (lv_at hl 4 rfl) ?_
    refine lv_ixor (pc := 32) hx hb dX9_halve_32 ?_
    refine lv_iload_n (pc := 33) hx hb dX9_halve_33 rfl (lv_at hl 1 rfl) ?_
    refine lv_iconst (v := 2) (pc := 34) hx hb dX9_halve_34 zk_c2 ?_
    refine lv_icmp_ne (pc := 35) (tgt := 42) hx hb dX9_halve_35 rfl (fun zc2 => ?_) (fun zc2 => ?_)
    · have h := zf zc2 h
      refine lv_iload (pc := 42) hx hb dX9_halve_42 (lv_at hl 5 rfl) ?_
      refine lv_iload (pc := 44) hx hb dX9_halve_44 (lv_at hl 5 rfl) ?_
      refine lv_iload (pc := 46) hx hb dX9_halve_46 (lv_at hl 4 rfl) ?_
      obtain ⟨hin, h⟩ := zg h
      refine lv_irem (pc := 48) hx hb dX9_halve_48 hin ?_
      refine lv_isub (pc := 49) hx hb dX9_halve_49 ?_
      refine lv_iload_n (pc := 50) hx hb dX9_halve_50 rfl (lv_at hl 1 rfl) ?_
      refine lv_iconst (v := 2) (pc := 51) hx hb dX9_halve_51 zk_c2 ?_
      refine lv_icmp_ne (pc := 52) (tgt := 59) hx hb dX9_halve_52 rfl (fun zc3 => ?_) (fun zc3 => ?_)
      · refine lv_iload (pc := 59) hx hb dX9_halve_59 (lv_at hl 4 rfl) ?_
        refine lv_iload_n (pc := 61) hx hb dX9_halve_61 rfl (lv_at hl 2 rfl) ?_
        refine lv_iload_n (pc := 62) hx hb dX9_halve_62 rfl (lv_at hl 1 rfl) ?_
        refine lv_iconst (v := 2) (pc := 63) hx hb dX9_halve_63 zk_c2 ?_
        refine lv_icmp_ne (pc := 64) (tgt := 71) hx hb dX9_halve_64 rfl (fun zc4 => ?_) (fun zc4 => ?_)
        · refine lv_iconst (v := 0) (pc := 71) hx hb dX9_halve_71 zk_c0 ?_
          obtain ⟨zr5, hzr5, h⟩ := zb h
          refine zcV (pc := 72) (As := [.int x3, .int x5, .int (x5 ^^^ x4), .int (x5 - (x5 - x5 / x4 * x4)), .int x4, .int x2, .int 0]) (rest := []) (st1 := []) (ws' := wM cy mq m_hosts m_lost m_late m_wait m_per m_blocks m_sends m_many zr5.1 zr5.2.1 zr5.2.2 m_thrown m_now m_ahead m_then m_time m_timeThen m_isThere m_comes) (wr := []) (n := 7) (q0 := 0) X (c_X9_put l G cy fu mq m_hosts m_lost m_late m_wait m_per m_blocks m_sends m_many m_made m_madeMany m_lacking m_thrown m_now m_ahead m_then m_time m_timeThen m_isThere m_comes x3 x5 (x5 ^^^ x4) (x5 - (x5 - x5 / x4 * x4)) x4 x2 0 zr5 hzr5) hH [0, 1, 2, 3, 4, 5, 6, 7, 8, 9, 10, 11, 12, 13, 14] [] [0, 1, 2, 3, 4, 5, 6, 7, 8, 9, 10, 11, 12, 13, 14] rfl rfl rfl rfl gX9_halve_X9_put rfl ⟨rfl, rfl⟩ kX9_put ⟨Nat.le_of_ble_eq_true rfl, Nat.le_of_ble_eq_true rfl⟩ rfl rfl rfl rfl rfl hl.1 (Nat.le_of_ble_eq_true rfl) ⟨Nat.le_of_ble_eq_true rfl, Nat.le_of_ble_eq_true rfl⟩ dX9_halve_72 (fun H locs hH => ?_)
          refine lv_iinc (pc := 75) (v := (x5 + 1)) (lv' := [(5, .int (x5 + 1)), (0, .ref (mq 0)), (1, .int x1), (2, .int x2), (3, .int x3), (4, .int x4)]) hx hb dX9_halve_75 hl (k := 5) rfl (by rw [zk_c1]) (by decide) rfl (fun ls hl => ?_)
          refine lv_goto (pc := 78) (tgt := 18) hx hb dX9_halve_78 rfl ?_
          exact ih (x5 + 1) zr5.1 zr5.2.1 zr5.2.2 rr h _ _ _ hH (lv_sub hl [1, 2, 3, 4, 5, 0] rfl) K0
        exact absurd zc4 zc2
      exact absurd zc3 zc2
    have h := zt zc2 h
    refine lv_iconst (v := 0) (pc := 38) hx hb dX9_halve_38 zk_c0 ?_
    refine lv_goto (pc := 39) (tgt := 50) hx hb dX9_halve_39 rfl ?_
    refine lv_iload_n (pc := 50) hx hb dX9_halve_50 rfl (lv_at hl 1 rfl) ?_
    refine lv_iconst (v := 2) (pc := 51) hx hb dX9_halve_51 zk_c2 ?_
    refine lv_icmp_ne (pc := 52) (tgt := 59) hx hb dX9_halve_52 rfl (fun zc6 => ?_) (fun zc6 => ?_)
    · exact absurd zc2 zc6
    refine lv_iload_n (pc := 55) hx hb dX9_halve_55 rfl (lv_at hl 2 rfl) ?_
    refine lv_goto (pc := 56) (tgt := 61) hx hb dX9_halve_56 rfl ?_
    refine lv_iload_n (pc := 61) hx hb dX9_halve_61 rfl (lv_at hl 2 rfl) ?_
    refine lv_iload_n (pc := 62) hx hb dX9_halve_62 rfl (lv_at hl 1 rfl) ?_
    refine lv_iconst (v := 2) (pc := 63) hx hb dX9_halve_63 zk_c2 ?_
    refine lv_icmp_ne (pc := 64) (tgt := 71) hx hb dX9_halve_64 rfl (fun zc7 => ?_) (fun zc7 => ?_)
    · exact absurd zc2 zc7
    refine lv_iconst (v := 1) (pc := 67) hx hb dX9_halve_67 zk_c1 ?_
    refine lv_goto (pc := 68) (tgt := 72) hx hb dX9_halve_68 rfl ?_
    obtain ⟨zr8, hzr8, h⟩ := zb h
    refine zcV (pc := 72) (As := [.int x3, .int x5, .int (x5 ^^^ x4), .int 0, .int x2, .int x2, .int 1]) (rest := []) (st1 := []) (ws' := wM cy mq m_hosts m_lost m_late m_wait m_per m_blocks m_sends m_many zr8.1 zr8.2.1 zr8.2.2 m_thrown m_now m_ahead m_then m_time m_timeThen m_isThere m_comes) (wr := []) (n := 7) (q0 := 0) X (c_X9_put l G cy fu mq m_hosts m_lost m_late m_wait m_per m_blocks m_sends m_many m_made m_madeMany m_lacking m_thrown m_now m_ahead m_then m_time m_timeThen m_isThere m_comes x3 x5 (x5 ^^^ x4) 0 x2 x2 1 zr8 hzr8) hH [0, 1, 2, 3, 4, 5, 6, 7, 8, 9, 10, 11, 12, 13, 14] [] [0, 1, 2, 3, 4, 5, 6, 7, 8, 9, 10, 11, 12, 13, 14] rfl rfl rfl rfl gX9_halve_X9_put rfl ⟨rfl, rfl⟩ kX9_put ⟨Nat.le_of_ble_eq_true rfl, Nat.le_of_ble_eq_true rfl⟩ rfl rfl rfl rfl rfl hl.1 (Nat.le_of_ble_eq_true rfl) ⟨Nat.le_of_ble_eq_true rfl, Nat.le_of_ble_eq_true rfl⟩ dX9_halve_72 (fun H locs hH => ?_)
    refine lv_iinc (pc := 75) (v := (x5 + 1)) (lv' := [(5, .int (x5 + 1)), (0, .ref (mq 0)), (1, .int x1), (2, .int x2), (3, .int x3), (4, .int x4)]) hx hb dX9_halve_75 hl (k := 5) rfl (by rw [zk_c1]) (by decide) rfl (fun ls hl => ?_)
    refine lv_goto (pc := 78) (tgt := 18) hx hb dX9_halve_78 rfl ?_
    exact ih (x5 + 1) zr8.1 zr8.2.1 zr8.2.2 rr h _ _ _ hH (lv_sub hl [1, 2, 3, 4, 5, 0] rfl) K0
set_option maxHeartbeats 4000000 in
set_option maxRecDepth 100000 in
theorem w_X9_halve_l2 {p : Program} {l : Launch} {e : Env} {s : State} {m : MethodId} {args : Array Value} {below : List Frame} {meth : Method} {c : Code} {A : Nat → Prop} {Q : State → Prop} (G : va_G) (cy : Nat → ClassId) (fu : Nat) (mq : Nat → Nat) (m_hosts : Int32) (m_lost : Nat → Int32) (m_late : Nat → Int32) (m_wait : Nat → Int32) (m_per : Nat → Int32) (m_blocks : Nat → Int32) (m_sends : Nat → Int32) (m_many : Int32) (m_thrown : Int32) (m_now : Nat → Int32) (m_ahead : Nat → Int32) (m_then : Nat → Int32) (m_time : Nat → Int32) (m_timeThen : Nat → Int32) (m_isThere : Nat → Int32) (m_comes : Nat → Int32) (x1 : Int32) (x2 : Int32) (X : zX p s m args meth c RX9 cX9_halve 6 wsX9_halve G cy A) : ∀ (n : Nat) (x3 : Int32) (m_made : Nat → Int32) (m_madeMany : Int32) (m_lacking : Int32) (rr : (Nat → Int32) × Int32 × Int32) (h : lp (f_X9_halve_l2 fu m_lost m_wait x1 x2) n (x3, m_made, m_madeMany, m_lacking) = some rr) (H : Heap) (locs : List Loc) (ls : Array Slot) (hH : zH G A s.heap (wM cy mq m_hosts m_lost m_late m_wait m_per m_blocks m_sends m_many m_made m_madeMany m_lacking m_thrown m_now m_ahead m_then m_time m_timeThen m_isThere m_comes) H locs) (hl : lv_has ls 6 [(0, .ref (mq 0)), (1, .int x1), (2, .int x2), (3, .int x3)]) (K0 : ∀ (H : Heap) (locs : List Loc) (ls : Array Slot), zH G A s.heap (wM cy mq m_hosts m_lost m_late m_wait m_per m_blocks m_sends m_many rr.1 rr.2.1 rr.2.2 m_thrown m_now m_ahead m_then m_time m_timeThen m_isThere m_comes) H locs → lv_has ls 6 [] → W p l e (zR 2 54) s m args below meth c H locs 0 0 Q (F0 m 87 ls [])), W p l e (zR 2 54) s m args below meth c H locs 0 0 Q (F0 m 2 ls []) := by
  have hx := X.1.1
  have hb := X.1.2.1
  intro n
  induction n with
  | zero => intro x3 m_made m_madeMany m_lacking rr h H locs ls hH hl K0; cases h
  | succ n ih =>
    intro x3 m_made m_madeMany m_lacking rr h H locs ls hH hl K0
    replace h : f_X9_halve_l2 fu m_lost m_wait x1 x2 (lp (f_X9_halve_l2 fu m_lost m_wait x1 x2) n) (x3, m_made, m_madeMany, m_lacking) = some rr := h
    dsimp only [f_X9_halve_l2] at h
    refine lv_iload_n (pc := 2) hx hb dX9_halve_2 rfl (lv_at hl 3 rfl) ?_
    refine lv_iload_n (pc := 3) hx hb dX9_halve_3 rfl (lv_at hl 2 rfl) ?_
    obtain ⟨zr1, hzr1, h⟩ := zb h
    refine zcS (pc := 4) (As := [.int x2]) (rest := [.int x3]) (st1 := [.int zr1, .int x3]) (ws' := wM cy mq m_hosts m_lost m_late m_wait m_per m_blocks m_sends m_many m_made m_madeMany m_lacking m_thrown m_now m_ahead m_then m_time m_timeThen m_isThere m_comes) (wr := [((mq 0), .inr (8, [.int m_hosts, .ref (mq 1), .ref (mq 2), .ref (mq 3), .ref (mq 4), .ref (mq 5), .ref (mq 6), .int m_many, .ref (mq 7), .int m_madeMany, .int m_lacking, .int m_thrown, .ref (mq 8), .ref (mq 9), .ref (mq 10), .ref (mq 11), .ref (mq 12), .ref (mq 13), .ref (mq 14)])), ((mq 1), .inl (cy 2, 16, .inl m_lost)), ((mq 2), .inl (cy 0, 16, .inl m_late)), ((mq 3), .inl (cy 0, 256, .inl m_wait)), ((mq 4), .inl (cy 0, 256, .inl m_per)), ((mq 5), .inl (cy 0, 256, .inl m_blocks)), ((mq 6), .inl (cy 0, 7200, .inl m_sends)), ((mq 7), .inl (cy 0, 7200, .inl m_made)), ((mq 8), .inl (cy 3, 65536, .inl m_now)), ((mq 9), .inl (cy 3, 65536, .inl m_ahead)), ((mq 10), .inl (cy 0, 256, .inl m_then)), ((mq 11), .inl (cy 0, 16, .inl m_time)), ((mq 12), .inl (cy 0, 16, .inl m_timeThen)), ((mq 13), .inl (cy 2, 256, .inl m_isThere)), ((mq 14), .inl (cy 2, 256, .inl m_comes))]) (n := 1) X (c_X9_turns l G cy fu x2 zr1 hzr1) hH [] [0, 1, 2, 3, 4, 5, 6, 7, 8, 9, 10, 11, 12, 13, 14] [0, 1, 2, 3, 4, 5, 6, 7, 8, 9, 10, 11, 12, 13, 14] rfl rfl rfl rfl gX9_halve_X9_turns rfl ⟨rfl, rfl⟩ kX9_turns ⟨Nat.le_of_ble_eq_true rfl, Nat.le_of_ble_eq_true rfl⟩ rfl rfl rfl hl.1 (Nat.le_of_ble_eq_true rfl) ⟨Nat.le_of_ble_eq_true rfl, Nat.le_of_ble_eq_true rfl⟩ dX9_halve_4 (fun H locs hH => ?_)
    refine lv_icmp_ge (pc := 7) (tgt := 87) hx hb dX9_halve_7 rfl (fun zc2 => ?_) (fun zc2 => ?_)
    · have h := zt zc2 h
      obtain rfl := Option.some.inj h
      exact K0 _ _ _ hH (lv_sub hl [] rfl)
    have h := zf zc2 h
    refine lv_iconst (v := 1) (pc := 10) hx hb dX9_halve_10 zk_c1 ?_
    refine lv_iload_n (pc := 11) hx hb dX9_halve_11 rfl (lv_at hl 3 rfl) ?_
    refine lv_ishl (pc := 12) hx hb dX9_halve_12 ?_
    refine lv_topi (fun za3 eza3 => ?_)
    have h := vn_s h za3 eza3
    refine lv_istore (pc := 13) (lv' := [(4, .int za3), (0, .ref (mq 0)), (1, .int x1), (2, .int x2), (3, .int x3)]) hx hb dX9_halve_13 hl (by decide) rfl (fun ls hl => ?_)
    refine lv_iconst (v := 0) (pc := 15) hx hb dX9_halve_15 zk_c0 ?_
    refine lv_istore (pc := 16) (lv' := [(5, .int 0), (4, .int za3), (0, .ref (mq 0)), (1, .int x1), (2, .int x2), (3, .int x3)]) hx hb dX9_halve_16 hl (by decide) rfl (fun ls hl => ?_)
    obtain ⟨zr4, hzr4, h⟩ := zb h
    refine w_X9_halve_l18 G cy fu mq m_hosts m_lost m_late m_wait m_per m_blocks m_sends m_many m_thrown m_now m_ahead m_then m_time m_timeThen m_isThere m_comes x1 x2 x3 za3 X fu 0 m_made m_madeMany m_lacking zr4 hzr4 _ _ _ hH (lv_sub hl [2, 3, 4, 5, 1, 0] rfl) (fun H locs ls hH hl => ?_)
    refine lv_iinc (pc := 81) (v := (x3 + 1)) (lv' := [(3, .int (x3 + 1)), (0, .ref (mq 0)), (1, .int x1), (2, .int x2)]) hx hb dX9_halve_81 hl (k := 3) rfl (by rw [zk_c1]) (by decide) rfl (fun ls hl => ?_)
    refine lv_goto (pc := 84) (tgt := 2) hx hb dX9_halve_84 rfl ?_
    exact ih (x3 + 1) zr4.1 zr4.2.1 zr4.2.2 rr h _ _ _ hH (lv_sub hl [1, 2, 3, 0] rfl) K0
set_option maxHeartbeats 4000000 in
set_option maxRecDepth 100000 in
theorem c_X9_halve (l : Launch) (G : va_G) (cy : Nat → ClassId) (fu : Nat) (mq : Nat → Nat) (m_hosts : Int32) (m_lost : Nat → Int32) (m_late : Nat → Int32) (m_wait : Nat → Int32) (m_per : Nat → Int32) (m_blocks : Nat → Int32) (m_sends : Nat → Int32) (m_many : Int32) (m_made : Nat → Int32) (m_madeMany : Int32) (m_lacking : Int32) (m_thrown : Int32) (m_now : Nat → Int32) (m_ahead : Nat → Int32) (m_then : Nat → Int32) (m_time : Nat → Int32) (m_timeThen : Nat → Int32) (m_isThere : Nat → Int32) (m_comes : Nat → Int32) (x1 : Int32) (x2 : Int32) (rr : (Nat → Int32) × Int32 × Int32) (h : f_X9_halve fu m_lost m_wait m_made m_madeMany m_lacking x1 x2 = some rr) : zM l G cy yX9_halve wsX9_halve (zR 2 54) [.ref (mq 0), .int x1, .int x2] (wM cy mq m_hosts m_lost m_late m_wait m_per m_blocks m_sends m_many m_made m_madeMany m_lacking m_thrown m_now m_ahead m_then m_time m_timeThen m_isThere m_comes) (wM cy mq m_hosts m_lost m_late m_wait m_per m_blocks m_sends m_many rr.1 rr.2.1 rr.2.2 m_thrown m_now m_ahead m_then m_time m_timeThen m_isThere m_comes) none := by
  refine zM.mk (cc := cX9_halve) (nL := 6) (ret := none) (by decide) rfl (Nat.le_of_ble_eq_true rfl) ?_
  intro p e s m below meth c A ls X hr hH hl
  replace X : zX p s m [.ref (mq 0), .int x1, .int x2].toArray meth c RX9 cX9_halve 6 wsX9_halve G cy A := X
  have hx := X.1.1
  have hb := X.1.2.1
  replace hl : lv_has ls 6 [(0, .ref (mq 0)), (1, .int x1), (2, .int x2)] := hl
  dsimp only [f_X9_halve] at h
  refine lv_iconst (v := 0) (pc := 0) hx hb dX9_halve_0 zk_c0 ?_
  refine lv_istore_n (pc := 1) (lv' := [(3, .int 0), (0, .ref (mq 0)), (1, .int x1), (2, .int x2)]) hx hb dX9_halve_1 rfl hl (by decide) rfl (fun ls hl => ?_)
  obtain ⟨zr1, hzr1, h⟩ := zb h
  refine w_X9_halve_l2 G cy fu mq m_hosts m_lost m_late m_wait m_per m_blocks m_sends m_many m_thrown m_now m_ahead m_then m_time m_timeThen m_isThere m_comes x1 x2 X fu 0 m_made m_madeMany m_lacking zr1 hzr1 _ _ _ hH (lv_sub hl [1, 2, 3, 0] rfl) (fun H locs ls hH hl => ?_)
  obtain rfl := Option.some.inj h
  exact z_vret X hr hH dX9_halve_87
