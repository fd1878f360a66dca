set_option maxHeartbeats 4000000 in
set_option maxRecDepth 100000 in
theorem w_X9_direct_l85 {p : Program} {l : Launch} {e : Env} {s : State} {m : MethodId} {args : Array Value} {below : List Frame} {meth : Method} {c : Code} {A : Nat → Prop} {Q : State → Prop} (G : va_G) (cy : Nat → ClassId) (fu : Nat) (mq : Nat → Nat) (m_hosts : Int32) (m_lost : Nat → Int32) (m_late : Nat → Int32) (m_wait : Nat → Int32) (m_per : Nat → Int32) (m_blocks : Nat → Int32) (m_sends : Nat → Int32) (m_many : Int32) (m_thrown : Int32) (m_now : Nat → Int32) (m_ahead : Nat → Int32) (m_then : Nat → Int32) (m_time : Nat → Int32) (m_timeThen : Nat → Int32) (m_isThere : Nat → Int32) (m_comes : Nat → Int32) (x1 : Int32) (x2 : Int32) (x3 : Int32) (x4 : Int32) (x5 : Int32) (X : zX p s m args meth c RX9 cX9_direct 9 wsX9_direct G cy A) : ∀ (n : Nat) (x6 : Int32) (m_made : Nat → Int32) (m_madeMany : Int32) (m_lacking : Int32) (rr : (Nat → Int32) × Int32 × Int32) (h : lp (f_X9_direct_l85 fu m_lost m_wait x3 x5) n (x6, m_made, m_madeMany, m_lacking) = some rr) (H : Heap) (locs : List Loc) (ls : Array Slot) (hH : zH G A s.heap (wM cy mq m_hosts m_lost m_late m_wait m_per m_blocks m_sends m_many m_made m_madeMany m_lacking m_thrown m_now m_ahead m_then m_time m_timeThen m_isThere m_comes) H locs) (hl : lv_has ls 9 [(0, .ref (mq 0)), (1, .int x1), (2, .int x2), (3, .int x3), (4, .int x4), (5, .int x5), (6, .int x6)]) (K0 : ∀ (H : Heap) (locs : List Loc) (ls : Array Slot), zH G A s.heap (wM cy mq m_hosts m_lost m_late m_wait m_per m_blocks m_sends m_many rr.1 rr.2.1 rr.2.2 m_thrown m_now m_ahead m_then m_time m_timeThen m_isThere m_comes) H locs → lv_has ls 9 [(0, .ref (mq 0)), (1, .int x1), (2, .int x2), (3, .int x3), (4, .int x4), (5, .int x5)] → W p l e (zR 2 54) s m args below meth c H locs 0 0 Q (F0 m 117 ls [])), W p l e (zR 2 54) s m args below meth c H locs 0 0 Q (F0 m 85 ls []) := by
  have hx := X.1.1
  have hb := X.1.2.1
  intro n
  induction n with
  | zero => intro x6 m_made m_madeMany m_lacking rr h H locs ls hH hl K0; cases h
  | succ n ih =>
    intro x6 m_made m_madeMany m_lacking rr h H locs ls hH hl K0
    replace h : f_X9_direct_l85 fu m_lost m_wait x3 x5 (lp (f_X9_direct_l85 fu m_lost m_wait x3 x5) n) (x6, m_made, m_madeMany, m_lacking) = some rr := h
    dsimp only [f_X9_direct_l85] at h
    refine lv_iload (pc := 85) hx hb dX9_direct_85 (lv_at hl 6 rfl) ?_
    refine lv_iload_n (pc := 87) hx hb dX9_direct_87 rfl (lv_at hl 3 rfl) ?_
    refine lv_icmp_ge (pc := 88) (tgt := 117) hx hb dX9_direct_88 rfl (fun zc1 => ?_) (fun zc1 => ?_)
    · have h := zt zc1 h
      obtain rfl := Option.some.inj h
      exact K0 _ _ _ hH (lv_sub hl [0, 1, 2, 3, 4, 5] rfl)
    have h := zf zc1 h
    refine lv_aload_n (pc := 91) hx hb dX9_direct_91 rfl (lv_at hl 0 rfl) ?_
    refine lv_iload (pc := 92) hx hb dX9_direct_92 (lv_at hl 5 rfl) ?_
    refine lv_iconst (v := 1) (pc := 94) hx hb dX9_direct_94 zk_c1 ?_
    refine lv_isub (pc := 95) hx hb dX9_direct_95 ?_
    refine lv_iload (pc := 96) hx hb dX9_direct_96 (lv_at hl 6 rfl) ?_
    refine lv_iload (pc := 98) hx hb dX9_direct_98 (lv_at hl 6 rfl) ?_
    refine lv_iload (pc := 100) hx hb dX9_direct_100 (lv_at hl 5 rfl) ?_
    refine lv_iadd (pc := 102) hx hb dX9_direct_102 ?_
    refine lv_iload (pc := 103) hx hb dX9_direct_103 (lv_at hl 6 rfl) ?_
    refine lv_iconst (v := 1) (pc := 105) hx hb dX9_direct_105 zk_c1 ?_
    refine lv_iload_n (pc := 106) hx hb dX9_direct_106 rfl (lv_at hl 3 rfl) ?_
    refine lv_iconst (v := 0) (pc := 107) hx hb dX9_direct_107 zk_c0 ?_
    obtain ⟨zr2, hzr2, h⟩ := zb h
    refine zcV (pc := 108) (As := [.int (x5 - 1), .int x6, .int (x6 + x5), .int x6, .int 1, .int x3, .int 0]) (rest := []) (st1 := []) (ws' := wM cy mq m_hosts m_lost m_late m_wait m_per m_blocks m_sends m_many zr2.1 zr2.2.1 zr2.2.2 m_thrown m_now m_ahead m_then m_time m_timeThen m_isThere m_comes) (wr := []) (n := 7) (q0 := 0) X (c_X9_put l G cy fu mq m_hosts m_lost m_late m_wait m_per m_blocks m_sends m_many m_made m_madeMany m_lacking m_thrown m_now m_ahead m_then m_time m_timeThen m_isThere m_comes (x5 - 1) x6 (x6 + x5) x6 1 x3 0 zr2 hzr2) hH [0, 1, 2, 3, 4, 5, 6, 7, 8, 9, 10, 11, 12, 13, 14] [] [0, 1, 2, 3, 4, 5, 6, 7, 8, 9, 10, 11, 12, 13, 14] rfl rfl rfl rfl gX9_direct_X9_put rfl ⟨rfl, rfl⟩ kX9_put ⟨Nat.le_of_ble_eq_true rfl, Nat.le_of_ble_eq_true rfl⟩ rfl rfl rfl rfl rfl hl.1 (Nat.le_of_ble_eq_true rfl) ⟨Nat.le_of_ble_eq_true rfl, Nat.le_of_ble_eq_true rfl⟩ dX9_direct_108 (fun H locs hH => ?_)
    refine lv_iinc (pc := 111) (v := (x6 + 1)) (lv' := [(6, .int (x6 + 1)), (0, .ref (mq 0)), (1, .int x1), (2, .int x2), (3, .int x3), (4, .int x4), (5, .int x5)]) hx hb dX9_direct_111 hl (k := 6) rfl (by rw [zk_c1]) (by decide) rfl (fun ls hl => ?_)
    refine lv_goto (pc := 114) (tgt := 85) hx hb dX9_direct_114 rfl ?_
    exact ih (x6 + 1) zr2.1 zr2.2.1 zr2.2.2 rr h _ _ _ hH (lv_sub hl [1, 2, 3, 4, 5, 6, 0] rfl) K0
set_option maxHeartbeats 4000000 in
set_option maxRecDepth 100000 in
theorem w_X9_direct_l134 {p : Program} {l : Launch} {e : Env} {s : State} {m : MethodId} {args : Array Value} {below : List Frame} {meth : Method} {c : Code} {A : Nat → Prop} {Q : State → Prop} (G : va_G) (cy : Nat → ClassId) (fu : Nat) (mq : Nat → Nat) (m_hosts : Int32) (m_lost : Nat → Int32) (m_late : Nat → Int32) (m_wait : Nat → Int32) (m_per : Nat → Int32) (m_blocks : Nat → Int32) (m_sends : Nat → Int32) (m_many : Int32) (m_thrown : Int32) (m_now : Nat → Int32) (m_ahead : Nat → Int32) (m_then : Nat → Int32) (m_time : Nat → Int32) (m_timeThen : Nat → Int32) (m_isThere : Nat → Int32) (m_comes : Nat → Int32) (x1 : Int32) (x2 : Int32) (x3 : Int32) (x4 : Int32) (x5 : Int32) (x6 : Int32) (X : zX p s m args meth c RX9 cX9_direct 9 wsX9_direct G cy A) : ∀ (n : Nat) (x7 : Int32) (m_made : Nat → Int32) (m_madeMany : Int32) (m_lacking : Int32) (rr : (Nat → Int32) × Int32 × Int32) (h : lp (f_X9_direct_l134 fu m_lost m_wait x3 x4 x5) n (x7, m_made, m_madeMany, m_lacking) = some rr) (H : Heap) (locs : List Loc) (ls : Array Slot) (hH : zH G A s.heap (wM cy mq m_hosts m_lost m_late m_wait m_per m_blocks m_sends m_many m_made m_madeMany m_lacking m_thrown m_now m_ahead m_then m_time m_timeThen m_isThere m_comes) H locs) (hl : lv_has ls 9 [(0, .ref (mq 0)), (1, .int x1), (2, .int x2), (3, .int x3), (4, .int x4), (5, .int x5), (6, .int x6), (7, .int x7)]) (K0 : ∀ (H : Heap) (locs : List Loc) (ls : Array Slot), zH G A s.heap (wM cy mq m_hosts m_lost m_late m_wait m_per m_blocks m_sends m_many rr.1 rr.2.1 rr.2.2 m_thrown m_now m_ahead m_then m_time m_timeThen m_isThere m_comes) H locs → lv_has ls 9 [(0, .ref (mq 0)), (1, .int x1), (2, .int x2), (3, .int x3), (4, .int x4), (5, .int x5), (6, .int x6)] → W p l e (zR 2 54) s m args below meth c H locs 0 0 Q (F0 m 198 ls [])), W p l e (zR 2 54) s m args below meth c H locs 0 0 Q (F0 m 134 ls []) := by
  have hx := X.1.1
  have hb := X.1.2.1
  intro n
  induction n with
  | zero => intro x7 m_made m_madeMany m_lacking rr h H locs ls hH hl K0; cases h
  | succ n ih =>
    intro x7 m_made m_madeMany m_lacking rr h H locs ls hH hl K0
    replace h : f_X9_direct_l134 fu m_lost m_wait x3 x4 x5 (lp (f_X9_direct_l134 fu m_lost m_wait x3 x4 x5) n) (x7, m_made, m_madeMany, m_lacking) = some rr := h
    dsimp only [f_X9_direct_l134] at h
    refine lv_iload (pc := 134) hx hb dX9_direct_134 (lv_at hl 7 rfl) ?_
    refine lv_iload_n (pc := 136) hx hb dX9_direct_136 rfl (lv_at hl 3 rfl) ?_
    refine lv_icmp_ge (pc := 137) (tgt := 198) hx hb dX9_direct_137 rfl (fun zc1 => ?_) (fun zc1 => ?_)
    · have h := zt zc1 h
      obtain rfl := Option.some.inj h
      exact K0 _ _ _ hH (lv_sub hl [0, 1, 2, 3, 4, 5, 6] rfl)
    have h := zf zc1 h
    refine lv_iload (pc := 140) hx hb dX9_direct_140 (lv_at hl 5 rfl) ?_
    refine lv_iload (pc := 142) hx hb dX9_direct_142 (lv_at hl 7 rfl) ?_
    refine lv_isub (pc := 144) hx hb dX9_direct_144 ?_
    refine lv_iload_n (pc := 145) hx hb dX9_direct_145 rfl (lv_at hl 3 rfl) ?_
    refine lv_iadd (pc := 146) hx hb dX9_direct_146 ?_
    refine lv_iload_n (pc := 147) hx hb dX9_direct_147 rfl (lv_at hl 3 rfl) ?_
    obtain ⟨hin, h⟩ := zg h
    refine lv_irem (pc := 148) hx hb dX9_direct_148 hin ?_
    refine lv_topi (fun za2 eza2 => ?_)
    have h := vn_s h za2 eza2
    refine lv_istore (pc := 149) (lv' := [(8, .int za2), (0, .ref (mq 0)), (1, .int x1), (2, .int x2), (3, .int x3), (4, .int x4), (5, .int x5), (6, .int x6), (7, .int x7)]) hx hb dX9_direct_149 hl (by decide) rfl (fun ls hl => ?_)
    refine lv_iload (pc := 151) hx hb dX9_direct_151 (lv_at hl 0 rfl) ?_
    refine lv_iload (pc := 153) hx hb dX9_direct_153 (lv_at hl 8 rfl) ?_
    refine lv_icmp_ne (pc := 155) (tgt := 161) hx hb dX9_direct_155 rfl (fun zc3 => ?_) (fun zc3 => ?_)
    · have h := zf zc3 h
      refine lv_aload_n (pc := 161) hx hb dX9_direct_161 rfl (lv_at hl 1 rfl) ?_
      refine lv_iload (pc := 162) hx hb dX9_direct_162 (lv_at hl 5 rfl) ?_
      refine lv_iload (pc := 164) hx hb dX9_direct_164 (lv_at hl 8 rfl) ?_
      refine lv_iload (pc := 166) hx hb dX9_direct_166 (lv_at hl 0 rfl) ?_
      refine lv_iload (pc := 168) hx hb dX9_direct_168 (lv_at hl 0 rfl) ?_
      refine lv_iconst (v := 1) (pc := 170) hx hb dX9_direct_170 zk_c1 ?_
      refine lv_iload_n (pc := 171) hx hb dX9_direct_171 rfl (lv_at hl 4 rfl) ?_
      refine lv_iconst (v := 0) (pc := 172) hx hb dX9_direct_172 zk_c0 ?_
      obtain ⟨zr4, hzr4, h⟩ := zb h
      refine zcV (pc := 173) (As := [.int x4, .int x7, .int za2, .int za2, .int 1, .int x3, .int 0]) (rest := []) (st1 := []) (ws' := wM cy mq m_hosts m_lost m_late m_wait m_per m_blocks m_sends m_many zr4.1 zr4.2.1 zr4.2.2 m_thrown m_now m_ahead m_then m_time m_timeThen m_isThere m_comes) (wr := []) (n := 7) (q0 := 0) X (c_X9_put l G cy fu mq m_hosts m_lost m_late m_wait m_per m_blocks m_sends m_many m_made m_madeMany m_lacking m_thrown m_now m_ahead m_then m_time m_timeThen m_isThere m_comes x4 x7 za2 za2 1 x3 0 zr4 hzr4) hH [0, 1, 2, 3, 4, 5, 6, 7, 8, 9, 10, 11, 12, 13, 14] [] [0, 1, 2, 3, 4, 5, 6, 7, 8, 9, 10, 11, 12, 13, 14] rfl rfl rfl rfl gX9_direct_X9_put rfl ⟨rfl, rfl⟩ kX9_put ⟨Nat.le_of_ble_eq_true rfl, Nat.le_of_ble_eq_true rfl⟩ rfl rfl rfl rfl rfl hl.1 (Nat.le_of_ble_eq_true rfl) ⟨Nat.le_of_ble_eq_true rfl, Nat.le_of_ble_eq_true rfl⟩ dX9_direct_173 (fun H locs hH => ?_)
      refine lv_aload_n (pc := 176) hx hb dX9_direct_176 rfl (lv_at hl 1 rfl) ?_
      refine z_get (pc := 177) (v := .ref (mq 7)) X iX9_direct_X9 hH 0 rfl rfl 8 rfl (List.mem_of_getElem? (i := 2) rfl) rfl dX9_direct_177 ?_
      refine lv_bipush (v := 6) (pc := 180) hx hb dX9_direct_180 zk_b6 ?_
      refine lv_aload_n (pc := 182) hx hb dX9_direct_182 rfl (lv_at hl 1 rfl) ?_
      refine z_get (pc := 183) (v := .int zr4.2.1) X iX9_direct_X9 hH 0 rfl rfl 9 rfl (List.mem_of_getElem? (i := 1) rfl) rfl dX9_direct_183 ?_
      refine lv_imul (pc := 186) hx hb dX9_direct_186 ?_
      refine lv_iconst (v := 2) (pc := 187) hx hb dX9_direct_187 zk_c2 ?_
      refine lv_isub (pc := 188) hx hb dX9_direct_188 ?_
      refine lv_iload (pc := 189) hx hb dX9_direct_189 (lv_at hl 8 rfl) ?_
      obtain ⟨hin, h⟩ := zg h
      refine z_iast (pc := 191) (ws' := wM cy mq m_hosts m_lost m_late m_wait m_per m_blocks m_sends m_many (upd zr4.1 (((6 * zr4.2.1) - 2)).toNatClampNeg x7) zr4.2.1 zr4.2.2 m_thrown m_now m_ahead m_then m_time m_timeThen m_isThere m_comes) X hH 7 rfl hin rfl dX9_direct_191 (fun H locs hH => ?_)
      refine lv_iinc (pc := 192) (v := (x7 + 1)) (lv' := [(7, .int (x7 + 1)), (8, .int za2), (0, .ref (mq 0)), (1, .int x1), (2, .int x2), (3, .int x3), (4, .int x4), (5, .int x5), (6, .int x6)]) hx hb dX9_direct_192 hl (k := 8) rfl (by rw [zk_c1]) (by decide) rfl (fun ls hl => ?_)
      refine lv_goto (pc := 195) (tgt := 134) hx hb dX9_direct_195 rfl ?_
      exact ih (x7 + 1) (upd zr4.1 (((6 * zr4.2.1) - 2)).toNatClampNeg x7) zr4.2.1 zr4.2.2 rr h _ _ _ hH (lv_sub hl [2, 3, 4, 5, 6, 7, 8, 0] rfl) K0
    have h := zt zc3 h
    refine lv_goto (pc := 158) (tgt := 192) hx hb dX9_direct_158 rfl ?_
    refine lv_iinc (pc := 192) (v := (x7 + 1)) (lv' := [(7, .int (x7 + 1)), (8, .int za2), (0, .ref (mq 0)), (1, .int x1), (2, .int x2), (3, .int x3), (4, .int x4), (5, .int x5), (6, .int x6)]) hx hb dX9_direct_192 hl (k := 8) rfl (by rw [zk_c1]) (by decide) rfl (fun ls hl => ?_)
    refine lv_goto (pc := 195) (tgt := 134) hx hb dX9_direct_195 rfl ?_
    exact ih (x7 + 1) m_made m_madeMany m_lacking rr h _ _ _ hH (lv_sub hl [2, 3, 4, 5, 6, 7, 8, 0] rfl) K0
set_option maxHeartbeats 4000000 in
set_option maxRecDepth 100000 in
theorem w_X9_direct_l6 {p : Program} {l : Launch} {e : Env} {s : State} {m : MethodId} {args : Array Value} {below : List Frame} {meth : Method} {c : Code} {A : Nat → Prop} {Q : State → Prop} (G : va_G) (cy : Nat → ClassId) (fu : Nat) (mq : Nat → Nat) (m_hosts : Int32) (m_lost : Nat → Int32) (m_late : Nat → Int32) (m_wait : Nat → Int32) (m_per : Nat → Int32) (m_blocks : Nat → Int32) (m_sends : Nat → Int32) (m_many : Int32) (m_thrown : Int32) (m_now : Nat → Int32) (m_ahead : Nat → Int32) (m_then : Nat → Int32) (m_time : Nat → Int32) (m_timeThen : Nat → Int32) (m_isThere : Nat → Int32) (m_comes : Nat → Int32) (x1 : Int32) (x2 : Int32) (x3 : Int32) (X : zX p s m args meth c RX9 cX9_direct 9 wsX9_direct G cy A) : ∀ (n : Nat) (x4 : Int32) (x5 : Int32) (m_made : Nat → Int32) (m_madeMany : Int32) (m_lacking : Int32) (rr : (Nat → Int32) × Int32 × Int32) (h : lp (f_X9_direct_l6 fu m_lost m_wait x1 x2 x3) n (x4, x5, m_made, m_madeMany, m_lacking) = some rr) (H : Heap) (locs : List Loc) (ls : Array Slot) (hH : zH G A s.heap (wM cy mq m_hosts m_lost m_late m_wait m_per m_blocks m_sends m_many m_made m_madeMany m_lacking m_thrown m_now m_ahead m_then m_time m_timeThen m_isThere m_comes) H locs) (hl : lv_has ls 9 [(0, .ref (mq 0)), (1, .int x1), (2, .int x2), (3, .int x3), (4, .int x4), (5, .int x5)]) (K0 : ∀ (H : Heap) (locs : List Loc) (ls : Array Slot), zH G A s.heap (wM cy mq m_hosts m_lost m_late m_wait m_per m_blocks m_sends m_many rr.1 rr.2.1 rr.2.2 m_thrown m_now m_ahead m_then m_time m_timeThen m_isThere m_comes) H locs → lv_has ls 9 [] → W p l e (zR 2 54) s m args below meth c H locs 0 0 Q (F0 m 216 ls [])), W p l e (zR 2 54) s m args below meth c H locs 0 0 Q (F0 m 6 ls []) := by
  have hx := X.1.1
  have hb := X.1.2.1
  intro n
  induction n with
  | zero => intro x4 x5 m_made m_madeMany m_lacking rr h H locs ls hH hl K0; cases h
  | succ n ih =>
    intro x4 x5 m_made m_madeMany m_lacking rr h H locs ls hH hl K0
    replace h : f_X9_direct_l6 fu m_lost m_wait x1 x2 x3 (lp (f_X9_direct_l6 fu m_lost m_wait x1 x2 x3) n) (x4, x5, m_made, m_madeMany, m_lacking) = some rr := h
    dsimp only [f_X9_direct_l6] at h
    refine lv_iload (pc := 6) hx hb dX9_direct_6 (lv_at hl 5 rfl) ?_
    refine lv_iload_n (pc := 8) hx hb dX9_direct_8 rfl (lv_at hl 3 rfl) ?_
    refine lv_icmp_ge (pc := 9) (tgt := 216) hx hb dX9_direct_9 rfl (fun zc1 => ?_) (fun zc1 => ?_)
    · have h := zt zc1 h
      obtain rfl := Option.some.inj h
      exact K0 _ _ _ hH (lv_sub hl [] rfl)
    have h := zf zc1 h
    refine lv_iload_n (pc := 12) hx hb dX9_direct_12 rfl (lv_at hl 1 rfl) ?_
    refine lv_iconst (v := 2) (pc := 13) hx hb dX9_direct_13 zk_c2 ?_
    refine lv_icmp_ge (pc := 14) (tgt := 72) hx hb dX9_direct_14 rfl (fun zc2 => ?_) (fun zc2 => ?_)
    · have h := zt zc2 h
      refine lv_iload_n (pc := 72) hx hb dX9_direct_72 rfl (lv_at hl 1 rfl) ?_
      refine lv_iconst (v := 3) (pc := 73) hx hb dX9_direct_73 zk_c3 ?_
      refine lv_icmp_ne (pc := 74) (tgt := 117) hx hb dX9_direct_74 rfl (fun zc3 => ?_) (fun zc3 => ?_)
      · have h := zf zc3 h
        refine lv_iload_n (pc := 117) hx hb dX9_direct_117 rfl (lv_at hl 1 rfl) ?_
        refine lv_iconst (v := 4) (pc := 118) hx hb dX9_direct_118 zk_c4 ?_
        refine lv_icmp_eq (pc := 119) (tgt := 125) hx hb dX9_direct_119 rfl (fun zc4 => ?_) (fun zc4 => ?_)
        · have h := zt zc4 h
          refine lv_aload_n (pc := 125) hx hb dX9_direct_125 rfl (lv_at hl 0 rfl) ?_
          refine z_get (pc := 126) (v := .int m_madeMany) X iX9_direct_X9 hH 0 rfl rfl 9 rfl (List.mem_of_getElem? (i := 1) rfl) rfl dX9_direct_126 ?_
          refine lv_istore (pc := 129) (lv' := [(6, .int m_madeMany), (0, .ref (mq 0)), (1, .int x1), (2, .int x2), (3, .int x3), (4, .int x4), (5, .int x5)]) hx hb dX9_direct_129 hl (by decide) rfl (fun ls hl => ?_)
          refine lv_iconst (v := 0) (pc := 131) hx hb dX9_direct_131 zk_c0 ?_
          refine lv_istore (pc := 132) (lv' := [(7, .int 0), (6, .int m_madeMany), (0, .ref (mq 0)), (1, .int x1), (2, .int x2), (3, .int x3), (4, .int x4), (5, .int x5)]) hx hb dX9_direct_132 hl (by decide) rfl (fun ls hl => ?_)
          obtain ⟨zr5, hzr5, h⟩ := zb h
          refine w_X9_direct_l134 G cy fu mq m_hosts m_lost m_late m_wait m_per m_blocks m_sends m_many m_thrown m_now m_ahead m_then m_time m_timeThen m_isThere m_comes x1 x2 x3 x4 x5 m_madeMany X fu 0 m_made m_madeMany m_lacking zr5 hzr5 _ _ _ hH (lv_sub hl [2, 3, 4, 5, 6, 7, 1, 0] rfl) (fun H locs ls hH hl => ?_)
          refine lv_aload_n (pc := 198) hx hb dX9_direct_198 rfl (lv_at hl 0 rfl) ?_
          refine z_get (pc := 199) (v := .int zr5.2.1) X iX9_direct_X9 hH 0 rfl rfl 9 rfl (List.mem_of_getElem? (i := 1) rfl) rfl dX9_direct_199 ?_
          refine lv_iload (pc := 202) hx hb dX9_direct_202 (lv_at hl 6 rfl) ?_
          refine lv_icmp_le (pc := 204) (tgt := 210) hx hb dX9_direct_204 rfl (fun zc6 => ?_) (fun zc6 => ?_)
          · have h := zt zc6 h
            refine lv_iinc (pc := 210) (v := (x5 + 1)) (lv' := [(5, .int (x5 + 1)), (0, .ref (mq 0)), (1, .int x1), (2, .int x2), (3, .int x3), (4, .int x4), (6, .int m_madeMany)]) hx hb dX9_direct_210 hl (k := 5) rfl (by rw [zk_c1]) (by decide) rfl (fun ls hl => ?_)
            refine lv_goto (pc := 213) (tgt := 6) hx hb dX9_direct_213 rfl ?_
            exact ih x4 (x5 + 1) zr5.1 zr5.2.1 zr5.2.2 rr h _ _ _ hH (lv_sub hl [1, 2, 3, 4, 5, 0] rfl) K0
          have h := zf zc6 h
          refine lv_iinc (pc := 207) (v := (x4 + 1)) (lv' := [(4, .int (x4 + 1)), (0, .ref (mq 0)), (1, .int x1), (2, .int x2), (3, .int x3), (5, .int x5), (6, .int m_madeMany)]) hx hb dX9_direct_207 hl (k := 4) rfl (by rw [zk_c1]) (by decide) rfl (fun ls hl => ?_)
          refine lv_iinc (pc := 210) (v := (x5 + 1)) (lv' := [(5, .int (x5 + 1)), (4, .int (x4 + 1)), (0, .ref (mq 0)), (1, .int x1), (2, .int x2), (3, .int x3), (6, .int m_madeMany)]) hx hb dX9_direct_210 hl (k := 5) rfl (by rw [zk_c1]) (by decide) rfl (fun ls hl => ?_)
          refine lv_goto (pc := 213) (tgt := 6) hx hb dX9_direct_213 rfl ?_
          exact ih (x4 + 1) (x5 + 1) zr5.1 zr5.2.1 zr5.2.2 rr h _ _ _ hH (lv_sub hl [2, 3, 4, 5, 1, 0] rfl) K0
        have h := zf zc4 h
        refine lv_goto (pc := 122) (tgt := 210) hx hb dX9_direct_122 rfl ?_
        refine lv_iinc (pc := 210) (v := (x5 + 1)) (lv' := [(5, .int (x5 + 1)), (0, .ref (mq 0)), (1, .int x1), (2, .int x2), (3, .int x3), (4, .int x4)]) hx hb dX9_direct_210 hl (k := 5) rfl (by rw [zk_c1]) (by decide) rfl (fun ls hl => ?_)
        refine lv_goto (pc := 213) (tgt := 6) hx hb dX9_direct_213 rfl ?_
        exact ih x4 (x5 + 1) m_made m_madeMany m_lacking rr h _ _ _ hH (lv_sub hl [1, 2, 3, 4, 5, 0] rfl) K0
      have h := zt zc3 h
      refine lv_iload (pc := 77) hx hb dX9_direct_77 (lv_at hl 5 rfl) ?_
      refine lv_if_le (pc := 79) (tgt := 117) hx hb dX9_direct_79 rfl (fun zc7 => ?_) (fun zc7 => ?_)
      · have h := zt zc7 h
        refine lv_iload_n (pc := 117) hx hb dX9_direct_117 rfl (lv_at hl 1 rfl) ?_
        refine lv_iconst (v := 4) (pc := 118) hx hb dX9_direct_118 zk_c4 ?_
        refine lv_icmp_eq (pc := 119) (tgt := 125) hx hb dX9_direct_119 rfl (fun zc8 => ?_) (fun zc8 => ?_)
        · exact absurd (zc3.symm.trans zc8) (by decide)
        refine lv_goto (pc := 122) (tgt := 210) hx hb dX9_direct_122 rfl ?_
        refine lv_iinc (pc := 210) (v := (x5 + 1)) (lv' := [(5, .int (x5 + 1)), (0, .ref (mq 0)), (1, .int x1), (2, .int x2), (3, .int x3), (4, .int x4)]) hx hb dX9_direct_210 hl (k := 5) rfl (by rw [zk_c1]) (by decide) rfl (fun ls hl => ?_)
        refine lv_goto (pc := 213) (tgt := 6) hx hb dX9_direct_213 rfl ?_
        exact ih x4 (x5 + 1) m_made m_madeMany m_lacking rr h _ _ _ hH (lv_sub hl [1, 2, 3, 4, 5, 0] rfl) K0
      have h := zf zc7 h
      refine lv_iconst (v := 0) (pc := 82) hx hb dX9_direct_82 zk_c0 ?_
      refine lv_istore (pc := 83) (lv' := [(6, .int 0), (0, .ref (mq 0)), (1, .int x1), (2, .int x2), (3, .int x3), (4, .int x4), (5, .int x5)]) hx hb dX9_direct_83 hl (by decide) rfl (fun ls hl => ?_)
      obtain ⟨zr9, hzr9, h⟩ := zb h
      refine w_X9_direct_l85 G cy fu mq m_hosts m_lost m_late m_wait m_per m_blocks m_sends m_many m_thrown m_now m_ahead m_then m_time m_timeThen m_isThere m_comes x1 x2 x3 x4 x5 X fu 0 m_made m_madeMany m_lacking zr9 hzr9 _ _ _ hH (lv_sub hl [1, 2, 3, 4, 5, 6, 0] rfl) (fun H locs ls hH hl => ?_)
      refine lv_iload_n (pc := 117) hx hb dX9_direct_117 rfl (lv_at hl 1 rfl) ?_
      refine lv_iconst (v := 4) (pc := 118) hx hb dX9_direct_118 zk_c4 ?_
      refine lv_icmp_eq (pc := 119) (tgt := 125) hx hb dX9_direct_119 rfl (fun zc10 => ?_) (fun zc10 => ?_)
      · exact absurd (zc3.symm.trans zc10) (by decide)
      refine lv_goto (pc := 122) (tgt := 210) hx hb dX9_direct_122 rfl ?_
      refine lv_iinc (pc := 210) (v := (x5 + 1)) (lv' := [(5, .int (x5 + 1)), (0, .ref (mq 0)), (1, .int x1), (2, .int x2), (3, .int x3), (4, .int x4)]) hx hb dX9_direct_210 hl (k := 5) rfl (by rw [zk_c1]) (by decide) rfl (fun ls hl => ?_)
      refine lv_goto (pc := 213) (tgt := 6) hx hb dX9_direct_213 rfl ?_
      exact ih x4 (x5 + 1) zr9.1 zr9.2.1 zr9.2.2 rr h _ _ _ hH (lv_sub hl [1, 2, 3, 4, 5, 0] rfl) K0
    have h := zf zc2 h
    refine lv_iload (pc := 17) hx hb dX9_direct_17 (lv_at hl 5 rfl) ?_
    refine lv_iload_n (pc := 19) hx hb dX9_direct_19 rfl (lv_at hl 3 rfl) ?_
    refine lv_iconst (v := 1) (pc := 20) hx hb dX9_direct_20 zk_c1 ?_
    refine lv_isub (pc := 21) hx hb dX9_direct_21 ?_
    refine lv_icmp_ge (pc := 22) (tgt := 72) hx hb dX9_direct_22 rfl (fun zc11 => ?_) (fun zc11 => ?_)
    · have h := zt zc11 h
      refine lv_iload_n (pc := 72) hx hb dX9_direct_72 rfl (lv_at hl 1 rfl) ?_
      refine lv_iconst (v := 3) (pc := 73) hx hb dX9_direct_73 zk_c3 ?_
      refine lv_icmp_ne (pc := 74) (tgt := 117) hx hb dX9_direct_74 rfl (fun zc12 => ?_) (fun zc12 => ?_)
      · have h := zf zc12 h
        refine lv_iload_n (pc := 117) hx hb dX9_direct_117 rfl (lv_at hl 1 rfl) ?_
        refine lv_iconst (v := 4) (pc := 118) hx hb dX9_direct_118 zk_c4 ?_
        refine lv_icmp_eq (pc := 119) (tgt := 125) hx hb dX9_direct_119 rfl (fun zc13 => ?_) (fun zc13 => ?_)
        · have h := zt zc13 h
          refine lv_aload_n (pc := 125) hx hb dX9_direct_125 rfl (lv_at hl 0 rfl) ?_
          refine z_get (pc := 126) (v := .int m_madeMany) X iX9_direct_X9 hH 0 rfl rfl 9 rfl (List.mem_of_getElem? (i := 1) rfl) rfl dX9_direct_126 ?_
          refine lv_istore (pc := 129) (lv' := [(6, .int m_madeMany), (0, .ref (mq 0)), (1, .int x1), (2, .int x2), (3, .int x3), (4, .int x4), (5, .int x5)]) hx hb dX9_direct_129 hl (by decide) rfl (fun ls hl => ?_)
          refine lv_iconst (v := 0) (pc := 131) hx hb dX9_direct_131 zk_c0 ?_
          refine lv_istore (pc := 132) (lv' := [(7, .int 0), (6, .int m_madeMany), (0, .ref (mq 0)), (1, .int x1), (2, .int x2), (3, .int x3), (4, .int x4), (5, .int x5)]) hx hb dX9_direct_132 hl (by decide) rfl (fun ls hl => ?_)
          obtain ⟨zr14, hzr14, h⟩ := zb h
          refine w_X9_direct_l134 G cy fu mq m_hosts m_lost m_late m_wait m_per m_blocks m_sends m_many m_thrown m_now m_ahead m_then m_time m_timeThen m_isThere m_comes x1 x2 x3 x4 x5 m_madeMany X fu 0 m_made m_madeMany m_lacking zr14 hzr14 _ _ _ hH (lv_sub hl [2, 3, 4, 5, 6, 7, 1, 0] rfl) (fun H locs ls hH hl => ?_)
          refine lv_aload_n (pc := 198) hx hb dX9_direct_198 rfl (lv_at hl 0 rfl) ?_
          refine z_get (pc := 199) (v := .int zr14.2.1) X iX9_direct_X9 hH 0 rfl rfl 9 rfl (List.mem_of_getElem? (i := 1) rfl) rfl dX9_direct_199 ?_
          refine lv_iload (pc := 202) hx hb dX9_direct_202 (lv_at hl 6 rfl) ?_
          refine lv_icmp_le (pc := 204) (tgt := 210) hx hb dX9_direct_204 rfl (fun zc15 => ?_) (fun zc15 => ?_)
          · have h := zt zc15 h
            refine lv_iinc (pc := 210) (v := (x5 + 1)) (lv' := [(5, .int (x5 + 1)), (0, .ref (mq 0)), (1, .int x1), (2, .int x2), (3, .int x3), (4, .int x4), (6, .int m_madeMany)]) hx hb dX9_direct_210 hl (k := 5) rfl (by rw [zk_c1]) (by decide) rfl (fun ls hl => ?_)
            refine lv_goto (pc := 213) (tgt := 6) hx hb dX9_direct_213 rfl ?_
            exact ih x4 (x5 + 1) zr14.1 zr14.2.1 zr14.2.2 rr h _ _ _ hH (lv_sub hl [1, 2, 3, 4, 5, 0] rfl) K0
          have h := zf zc15 h
          refine lv_iinc (pc := 207) (v := (x4 + 1)) (lv' := [(4, .int (x4 + 1)), (0, .ref (mq 0)), (1, .int x1), (2, .int x2), (3, .int x3), (5, .int x5), (6, .int m_madeMany)]) hx hb dX9_direct_207 hl (k := 4) rfl (by rw [zk_c1]) (by decide) rfl (fun ls hl => ?_)
          refine lv_iinc (pc := 210) (v := (x5 + 1)) (lv' := [(5, .int (x5 + 1)), (4, .int (x4 + 1)), (0, .ref (mq 0)), (1, .int x1), (2, .int x2), (3, .int x3), (6, .int m_madeMany)]) hx hb dX9_direct_210 hl (k := 5) rfl (by rw [zk_c1]) (by decide) rfl (fun ls hl => ?_)
          refine lv_goto (pc := 213) (tgt := 6) hx hb dX9_direct_213 rfl ?_
          exact ih (x4 + 1) (x5 + 1) zr14.1 zr14.2.1 zr14.2.2 rr h _ _ _ hH (lv_sub hl [2, 3, 4, 5, 1, 0] rfl) K0
        have h := zf zc13 h
        refine lv_goto (pc := 122) (tgt := 210) hx hb dX9_direct_122 rfl ?_
        refine lv_iinc (pc := 210) (v := (x5 + 1)) (lv' := [(5, .int (x5 + 1)), (0, .ref (mq 0)), (1, .int x1), (2, .int x2), (3, .int x3), (4, .int x4)]) hx hb dX9_direct_210 hl (k := 5) rfl (by rw [zk_c1]) (by decide) rfl (fun ls hl => ?_)
        refine lv_goto (pc := 213) (tgt := 6) hx hb dX9_direct_213 rfl ?_
        exact ih x4 (x5 + 1) m_made m_madeMany m_lacking rr h _ _ _ hH (lv_sub hl [1, 2, 3, 4, 5, 0] rfl) K0
      have h := zt zc12 h
      refine lv_iload (pc := 77) hx hb dX9_direct_77 (lv_at hl 5 rfl) ?_
      refine lv_if_le (pc := 79) (tgt := 117) hx hb dX9_direct_79 rfl (fun zc16 => ?_) (fun zc16 => ?_)
      · have h := zt zc16 h
        refine lv_iload_n (pc := 117) hx hb dX9_direct_117 rfl (lv_at hl 1 rfl) ?_
        refine lv_iconst (v := 4) (pc := 118) hx hb dX9_direct_118 zk_c4 ?_
        refine lv_icmp_eq (pc := 119) (tgt := 125) hx hb dX9_direct_119 rfl (fun zc17 => ?_) (fun zc17 => ?_)
        · exact absurd (zc12.symm.trans zc17) (by decide)
        refine lv_goto (pc := 122) (tgt := 210) hx hb dX9_direct_122 rfl ?_
        refine lv_iinc (pc := 210) (v := (x5 + 1)) (lv' := [(5, .int (x5 + 1)), (0, .ref (mq 0)), (1, .int x1), (2, .int x2), (3, .int x3), (4, .int x4)]) hx hb dX9_direct_210 hl (k := 5) rfl (by rw [zk_c1]) (by decide) rfl (fun ls hl => ?_)
        refine lv_goto (pc := 213) (tgt := 6) hx hb dX9_direct_213 rfl ?_
        exact ih x4 (x5 + 1) m_made m_madeMany m_lacking rr h _ _ _ hH (lv_sub hl [1, 2, 3, 4, 5, 0] rfl) K0
      have h := zf zc16 h
      refine lv_iconst (v := 0) (pc := 82) hx hb dX9_direct_82 zk_c0 ?_
      refine lv_istore (pc := 83) (lv' := [(6, .int 0), (0, .ref (mq 0)), (1, .int x1), (2, .int x2), (3, .int x3), (4, .int x4), (5, .int x5)]) hx hb dX9_direct_83 hl (by decide) rfl (fun ls hl => ?_)
      obtain ⟨zr18, hzr18, h⟩ := zb h
      refine w_X9_direct_l85 G cy fu mq m_hosts m_lost m_late m_wait m_per m_blocks m_sends m_many m_thrown m_now m_ahead m_then m_time m_timeThen m_isThere m_comes x1 x2 x3 x4 x5 X fu 0 m_made m_madeMany m_lacking zr18 hzr18 _ _ _ hH (lv_sub hl [1, 2, 3, 4, 5, 6, 0] rfl) (fun H locs ls hH hl => ?_)
      refine lv_iload_n (pc := 117) hx hb dX9_direct_117 rfl (lv_at hl 1 rfl) ?_
      refine lv_iconst (v := 4) (pc := 118) hx hb dX9_direct_118 zk_c4 ?_
      refine lv_icmp_eq (pc := 119) (tgt := 125) hx hb dX9_direct_119 rfl (fun zc19 => ?_) (fun zc19 => ?_)
      · exact absurd (zc12.symm.trans zc19) (by decide)
      refine lv_goto (pc := 122) (tgt := 210) hx hb dX9_direct_122 rfl ?_
      refine lv_iinc (pc := 210) (v := (x5 + 1)) (lv' := [(5, .int (x5 + 1)), (0, .ref (mq 0)), (1, .int x1), (2, .int x2), (3, .int x3), (4, .int x4)]) hx hb dX9_direct_210 hl (k := 5) rfl (by rw [zk_c1]) (by decide) rfl (fun ls hl => ?_)
      refine lv_goto (pc := 213) (tgt := 6) hx hb dX9_direct_213 rfl ?_
      exact ih x4 (x5 + 1) zr18.1 zr18.2.1 zr18.2.2 rr h _ _ _ hH (lv_sub hl [1, 2, 3, 4, 5, 0] rfl) K0
    have h := zf zc11 h
    refine lv_aload_n (pc := 25) hx hb dX9_direct_25 rfl (lv_at hl 0 rfl) ?_
    refine lv_iload (pc := 26) hx hb dX9_direct_26 (lv_at hl 5 rfl) ?_
    refine lv_iload_n (pc := 28) hx hb dX9_direct_28 rfl (lv_at hl 1 rfl) ?_
    refine lv_if_ne (pc := 29) (tgt := 36) hx hb dX9_direct_29 rfl (fun zc20 => ?_) (fun zc20 => ?_)
    · have h := zf zc20 h
      refine lv_iload_n (pc := 36) hx hb dX9_direct_36 rfl (lv_at hl 2 rfl) ?_
      refine lv_iload (pc := 37) hx hb dX9_direct_37 (lv_at hl 5 rfl) ?_
      refine lv_iadd (pc := 39) hx hb dX9_direct_39 ?_
      refine lv_iconst (v := 1) (pc := 40) hx hb dX9_direct_40 zk_c1 ?_
      refine lv_iadd (pc := 41) hx hb dX9_direct_41 ?_
      refine lv_iload_n (pc := 42) hx hb dX9_direct_42 rfl (lv_at hl 1 rfl) ?_
      refine lv_if_ne (pc := 43) (tgt := 55) hx hb dX9_direct_43 rfl (fun zc21 => ?_) (fun zc21 => ?_)
      · refine lv_iload_n (pc := 55) hx hb dX9_direct_55 rfl (lv_at hl 2 rfl) ?_
        refine lv_iconst (v := 0) (pc := 56) hx hb dX9_direct_56 zk_c0 ?_
        refine lv_iload_n (pc := 57) hx hb dX9_direct_57 rfl (lv_at hl 3 rfl) ?_
        refine lv_iload_n (pc := 58) hx hb dX9_direct_58 rfl (lv_at hl 3 rfl) ?_
        refine lv_iload_n (pc := 59) hx hb dX9_direct_59 rfl (lv_at hl 1 rfl) ?_
        refine lv_iconst (v := 1) (pc := 60) hx hb dX9_direct_60 zk_c1 ?_
        refine lv_icmp_ne (pc := 61) (tgt := 68) hx hb dX9_direct_61 rfl (fun zc22 => ?_) (fun zc22 => ?_)
        · have h := zf zc22 h
          refine lv_iconst (v := 0) (pc := 68) hx hb dX9_direct_68 zk_c0 ?_
          obtain ⟨zr23, hzr23, h⟩ := zb h
          refine zcV (pc := 69) (As := [.int x5, .int ((x2 + x5) + 1), .int x2, .int 0, .int x3, .int x3, .int 0]) (rest := []) (st1 := []) (ws' := wM cy mq m_hosts m_lost m_late m_wait m_per m_blocks m_sends m_many zr23.1 zr23.2.1 zr23.2.2 m_thrown m_now m_ahead m_then m_time m_timeThen m_isThere m_comes) (wr := []) (n := 7) (q0 := 0) X (c_X9_put l G cy fu mq m_hosts m_lost m_late m_wait m_per m_blocks m_sends m_many m_made m_madeMany m_lacking m_thrown m_now m_ahead m_then m_time m_timeThen m_isThere m_comes x5 ((x2 + x5) + 1) x2 0 x3 x3 0 zr23 hzr23) hH [0, 1, 2, 3, 4, 5, 6, 7, 8, 9, 10, 11, 12, 13, 14] [] [0, 1, 2, 3, 4, 5, 6, 7, 8, 9, 10, 11, 12, 13, 14] rfl rfl rfl rfl gX9_direct_X9_put rfl ⟨rfl, rfl⟩ kX9_put ⟨Nat.le_of_ble_eq_true rfl, Nat.le_of_ble_eq_true rfl⟩ rfl rfl rfl rfl rfl hl.1 (Nat.le_of_ble_eq_true rfl) ⟨Nat.le_of_ble_eq_true rfl, Nat.le_of_ble_eq_true rfl⟩ dX9_direct_69 (fun H locs hH => ?_)
          refine lv_iload_n (pc := 72) hx hb dX9_direct_72 rfl (lv_at hl 1 rfl) ?_
          refine lv_iconst (v := 3) (pc := 73) hx hb dX9_direct_73 zk_c3 ?_
          refine lv_icmp_ne (pc := 74) (tgt := 117) hx hb dX9_direct_74 rfl (fun zc24 => ?_) (fun zc24 => ?_)
          · have h := zf zc24 h
            refine lv_iload_n (pc := 117) hx hb dX9_direct_117 rfl (lv_at hl 1 rfl) ?_
            refine lv_iconst (v := 4) (pc := 118) hx hb dX9_direct_118 zk_c4 ?_
            refine lv_icmp_eq (pc := 119) (tgt := 125) hx hb dX9_direct_119 rfl (fun zc25 => ?_) (fun zc25 => ?_)
            · have h := zt zc25 h
              refine lv_aload_n (pc := 125) hx hb dX9_direct_125 rfl (lv_at hl 0 rfl) ?_
              refine z_get (pc := 126) (v := .int zr23.2.1) X iX9_direct_X9 hH 0 rfl rfl 9 rfl (List.mem_of_getElem? (i := 1) rfl) rfl dX9_direct_126 ?_
              refine lv_istore (pc := 129) (lv' := [(6, .int zr23.2.1), (0, .ref (mq 0)), (1, .int x1), (2, .int x2), (3, .int x3), (4, .int x4), (5, .int x5)]) hx hb dX9_direct_129 hl (by decide) rfl (fun ls hl => ?_)
              refine lv_iconst (v := 0) (pc := 131) hx hb dX9_direct_131 zk_c0 ?_
              refine lv_istore (pc := 132) (lv' := [(7, .int 0), (6, .int zr23.2.1), (0, .ref (mq 0)), (1, .int x1), (2, .int x2), (3, .int x3), (4, .int x4), (5, .int x5)]) hx hb dX9_direct_132 hl (by decide) rfl (fun ls hl => ?_)
              obtain ⟨zr26, hzr26, h⟩ := zb h
              refine w_X9_direct_l134 G cy fu mq m_hosts m_lost m_late m_wait m_per m_blocks m_sends m_many m_thrown m_now m_ahead m_then m_time m_timeThen m_isThere m_comes x1 x2 x3 x4 x5 zr23.2.1 X fu 0 zr23.1 zr23.2.1 zr23.2.2 zr26 hzr26 _ _ _ hH (lv_sub hl [2, 3, 4, 5, 6, 7, 1, 0] rfl) (fun H locs ls hH hl => ?_)
              refine lv_aload_n (pc := 198) hx hb dX9_direct_198 rfl (lv_at hl 0 rfl) ?_
              refine z_get (pc := 199) (v := .int zr26.2.1) X iX9_direct_X9 hH 0 rfl rfl 9 rfl (List.mem_of_getElem? (i := 1) rfl) rfl dX9_direct_199 ?_
              refine lv_iload (pc := 202) hx hb dX9_direct_202 (lv_at hl 6 rfl) ?_
              refine lv_icmp_le (pc := 204) (tgt := 210) hx hb dX9_direct_204 rfl (fun zc27 => ?_) (fun zc27 => ?_)
              · have h := zt zc27 h
                refine lv_iinc (pc := 210) (v := (x5 + 1)) (lv' := [(5, .int (x5 + 1)), (0, .ref (mq 0)), (1, .int x1), (2, .int x2), (3, .int x3), (4, .int x4), (6, .int zr23.2.1)]) hx hb dX9_direct_210 hl (k := 5) rfl (by rw [zk_c1]) (by decide) rfl (fun ls hl => ?_)
                refine lv_goto (pc := 213) (tgt := 6) hx hb dX9_direct_213 rfl ?_
                exact ih x4 (x5 + 1) zr26.1 zr26.2.1 zr26.2.2 rr h _ _ _ hH (lv_sub hl [1, 2, 3, 4, 5, 0] rfl) K0
              have h := zf zc27 h
              refine lv_iinc (pc := 207) (v := (x4 + 1)) (lv' := [(4, .int (x4 + 1)), (0, .ref (mq 0)), (1, .int x1), (2, .int x2), (3, .int x3), (5, .int x5), (6, .int zr23.2.1)]) hx hb dX9_direct_207 hl (k := 4) rfl (by rw [zk_c1]) (by decide) rfl (fun ls hl => ?_)
              refine lv_iinc (pc := 210) (v := (x5 + 1)) (lv' := [(5, .int (x5 + 1)), (4, .int (x4 + 1)), (0, .ref (mq 0)), (1, .int x1), (2, .int x2), (3, .int x3), (6, .int zr23.2.1)]) hx hb dX9_direct_210 hl (k := 5) rfl (by rw [zk_c1]) (by decide) rfl (fun ls hl => ?_)
              refine lv_goto (pc := 213) (tgt := 6) hx hb dX9_direct_213 rfl ?_
              exact ih (x4 + 1) (x5 + 1) zr26.1 zr26.2.1 zr26.2.2 rr h _ _ _ hH (lv_sub hl [2, 3, 4, 5, 1, 0] rfl) K0
            have h := zf zc25 h
            refine lv_goto (pc := 122) (tgt := 210) hx hb dX9_direct_122 rfl ?_
            refine lv_iinc (pc := 210) (v := (x5 + 1)) (lv' := [(5, .int (x5 + 1)), (0, .ref (mq 0)), (1, .int x1), (2, .int x2), (3, .int x3), (4, .int x4)]) hx hb dX9_direct_210 hl (k := 5) rfl (by rw [zk_c1]) (by decide) rfl (fun ls hl => ?_)
            refine lv_goto (pc := 213) (tgt := 6) hx hb dX9_direct_213 rfl ?_
            exact ih x4 (x5 + 1) zr23.1 zr23.2.1 zr23.2.2 rr h _ _ _ hH (lv_sub hl [1, 2, 3, 4, 5, 0] rfl) K0
          have h := zt zc24 h
          refine lv_iload (pc := 77) hx hb dX9_direct_77 (lv_at hl 5 rfl) ?_
          refine lv_if_le (pc := 79) (tgt := 117) hx hb dX9_direct_79 rfl (fun zc28 => ?_) (fun zc28 => ?_)
          · have h := zt zc28 h
            refine lv_iload_n (pc := 117) hx hb dX9_direct_117 rfl (lv_at hl 1 rfl) ?_
            refine lv_iconst (v := 4) (pc := 118) hx hb dX9_direct_118 zk_c4 ?_
            refine lv_icmp_eq (pc := 119) (tgt := 125) hx hb dX9_direct_119 rfl (fun zc29 => ?_) (fun zc29 => ?_)
            · exact absurd (zc24.symm.trans zc29) (by decide)
            refine lv_goto (pc := 122) (tgt := 210) hx hb dX9_direct_122 rfl ?_
            refine lv_iinc (pc := 210) (v := (x5 + 1)) (lv' := [(5, .int (x5 + 1)), (0, .ref (mq 0)), (1, .int x1), (2, .int x2), (3, .int x3), (4, .int x4)]) hx hb dX9_direct_210 hl (k := 5) rfl (by rw [zk_c1]) (by decide) rfl (fun ls hl => ?_)
            refine lv_goto (pc := 213) (tgt := 6) hx hb dX9_direct_213 rfl ?_
            exact ih x4 (x5 + 1) zr23.1 zr23.2.1 zr23.2.2 rr h _ _ _ hH (lv_sub hl [1, 2, 3, 4, 5, 0] rfl) K0
          have h := zf zc28 h
          refine lv_iconst (v := 0) (pc := 82) hx hb dX9_direct_82 zk_c0 ?_
          refine lv_istore (pc := 83) (lv' := [(6, .int 0), (0, .ref (mq 0)), (1, .int x1), (2, .int x2), (3, .int x3), (4, .int x4), (5, .int x5)]) hx hb dX9_direct_83 hl (by decide) rfl (fun ls hl => ?_)
          obtain ⟨zr30, hzr30, h⟩ := zb h
          refine w_X9_direct_l85 G cy fu mq m_hosts m_lost m_late m_wait m_per m_blocks m_sends m_many m_thrown m_now m_ahead m_then m_time m_timeThen m_isThere m_comes x1 x2 x3 x4 x5 X fu 0 zr23.1 zr23.2.1 zr23.2.2 zr30 hzr30 _ _ _ hH (lv_sub hl [1, 2, 3, 4, 5, 6, 0] rfl) (fun H locs ls hH hl => ?_)
          refine lv_iload_n (pc := 117) hx hb dX9_direct_117 rfl (lv_at hl 1 rfl) ?_
          refine lv_iconst (v := 4) (pc := 118) hx hb dX9_direct_118 zk_c4 ?_
          refine lv_icmp_eq (pc := 119) (tgt := 125) hx hb dX9_direct_119 rfl (fun zc31 => ?_) (fun zc31 => ?_)
          · exact absurd (zc24.symm.trans zc31) (by decide)
          refine lv_goto (pc := 122) (tgt := 210) hx hb dX9_direct_122 rfl ?_
          refine lv_iinc (pc := 210) (v := (x5 + 1)) (lv' := [(5, .int (x5 + 1)), (0, .ref (mq 0)), (1, .int x1), (2, .int x2), (3, .int x3), (4, .int x4)]) hx hb dX9_direct_210 hl (k := 5) rfl (by rw [zk_c1]) (by decide) rfl (fun ls hl => ?_)
          refine lv_goto (pc := 213) (tgt := 6) hx hb dX9_direct_213 rfl ?_
          exact ih x4 (x5 + 1) zr30.1 zr30.2.1 zr30.2.2 rr h _ _ _ hH (lv_sub hl [1, 2, 3, 4, 5, 0] rfl) K0
        have h := zt zc22 h
        refine lv_iconst (v := 1) (pc := 64) hx hb dX9_direct_64 zk_c1 ?_
        refine lv_goto (pc := 65) (tgt := 69) hx hb dX9_direct_65 rfl ?_
        obtain ⟨zr32, hzr32, h⟩ := zb h
        refine zcV (pc := 69) (As := [.int x5, .int ((x2 + x5) + 1), .int x2, .int 0, .int x3, .int x3, .int 1]) (rest := []) (st1 := []) (ws' := wM cy mq m_hosts m_lost m_late m_wait m_per m_blocks m_sends m_many zr32.1 zr32.2.1 zr32.2.2 m_thrown m_now m_ahead m_then m_time m_timeThen m_isThere m_comes) (wr := []) (n := 7) (q0 := 0) X (c_X9_put l G cy fu mq m_hosts m_lost m_late m_wait m_per m_blocks m_sends m_many m_made m_madeMany m_lacking m_thrown m_now m_ahead m_then m_time m_timeThen m_isThere m_comes x5 ((x2 + x5) + 1) x2 0 x3 x3 1 zr32 hzr32) hH [0, 1, 2, 3, 4, 5, 6, 7, 8, 9, 10, 11, 12, 13, 14] [] [0, 1, 2, 3, 4, 5, 6, 7, 8, 9, 10, 11, 12, 13, 14] rfl rfl rfl rfl gX9_direct_X9_put rfl ⟨rfl, rfl⟩ kX9_put ⟨Nat.le_of_ble_eq_true rfl, Nat.le_of_ble_eq_true rfl⟩ rfl rfl rfl rfl rfl hl.1 (Nat.le_of_ble_eq_true rfl) ⟨Nat.le_of_ble_eq_true rfl, Nat.le_of_ble_eq_true rfl⟩ dX9_direct_69 (fun H locs hH => ?_)
        refine lv_iload_n (pc := 72) hx hb dX9_direct_72 rfl (lv_at hl 1 rfl) ?_
        refine lv_iconst (v := 3) (pc := 73) hx hb dX9_direct_73 zk_c3 ?_
        refine lv_icmp_ne (pc := 74) (tgt := 117) hx hb dX9_direct_74 rfl (fun zc33 => ?_) (fun zc33 => ?_)
        · refine lv_iload_n (pc := 117) hx hb dX9_direct_117 rfl (lv_at hl 1 rfl) ?_
          refine lv_iconst (v := 4) (pc := 118) hx hb dX9_direct_118 zk_c4 ?_
          refine lv_icmp_eq (pc := 119) (tgt := 125) hx hb dX9_direct_119 rfl (fun zc34 => ?_) (fun zc34 => ?_)
          · exact absurd (zc22.symm.trans zc34) (by decide)
          refine lv_goto (pc := 122) (tgt := 210) hx hb dX9_direct_122 rfl ?_
          refine lv_iinc (pc := 210) (v := (x5 + 1)) (lv' := [(5, .int (x5 + 1)), (0, .ref (mq 0)), (1, .int x1), (2, .int x2), (3, .int x3), (4, .int x4)]) hx hb dX9_direct_210 hl (k := 5) rfl (by rw [zk_c1]) (by decide) rfl (fun ls hl => ?_)
          refine lv_goto (pc := 213) (tgt := 6) hx hb dX9_direct_213 rfl ?_
          exact ih x4 (x5 + 1) zr32.1 zr32.2.1 zr32.2.2 rr h _ _ _ hH (lv_sub hl [1, 2, 3, 4, 5, 0] rfl) K0
        exact absurd (zc22.symm.trans zc33) (by decide)
      exact absurd zc21 zc20
    have h := zt zc20 h
    refine lv_iload_n (pc := 32) hx hb dX9_direct_32 rfl (lv_at hl 2 rfl) ?_
    refine lv_goto (pc := 33) (tgt := 42) hx hb dX9_direct_33 rfl ?_
    refine lv_iload_n (pc := 42) hx hb dX9_direct_42 rfl (lv_at hl 1 rfl) ?_
    refine lv_if_ne (pc := 43) (tgt := 55) hx hb dX9_direct_43 rfl (fun zc35 => ?_) (fun zc35 => ?_)
    · exact absurd zc20 zc35
    refine lv_iload_n (pc := 46) hx hb dX9_direct_46 rfl (lv_at hl 2 rfl) ?_
    refine lv_iload (pc := 47) hx hb dX9_direct_47 (lv_at hl 5 rfl) ?_
    refine lv_iadd (pc := 49) hx hb dX9_direct_49 ?_
    refine lv_iconst (v := 1) (pc := 50) hx hb dX9_direct_50 zk_c1 ?_
    refine lv_iadd (pc := 51) hx hb dX9_direct_51 ?_
    refine lv_goto (pc := 52) (tgt := 56) hx hb dX9_direct_52 rfl ?_
    refine lv_iconst (v := 0) (pc := 56) hx hb dX9_direct_56 zk_c0 ?_
    refine lv_iload_n (pc := 57) hx hb dX9_direct_57 rfl (lv_at hl 3 rfl) ?_
    refine lv_iload_n (pc := 58) hx hb dX9_direct_58 rfl (lv_at hl 3 rfl) ?_
    refine lv_iload_n (pc := 59) hx hb dX9_direct_59 rfl (lv_at hl 1 rfl) ?_
    refine lv_iconst (v := 1) (pc := 60) hx hb dX9_direct_60 zk_c1 ?_
    refine lv_icmp_ne (pc := 61) (tgt := 68) hx hb dX9_direct_61 rfl (fun zc36 => ?_) (fun zc36 => ?_)
    · refine lv_iconst (v := 0) (pc := 68) hx hb dX9_direct_68 zk_c0 ?_
      obtain ⟨zr37, hzr37, h⟩ := zb h
      refine zcV (pc := 69) (As := [.int x5, .int x2, .int ((x2 + x5) + 1), .int 0, .int x3, .int x3, .int 0]) (rest := []) (st1 := []) (ws' := wM cy mq m_hosts m_lost m_late m_wait m_per m_blocks m_sends m_many zr37.1 zr37.2.1 zr37.2.2 m_thrown m_now m_ahead m_then m_time m_timeThen m_isThere m_comes) (wr := []) (n := 7) (q0 := 0) X (c_X9_put l G cy fu mq m_hosts m_lost m_late m_wait m_per m_blocks m_sends m_many m_made m_madeMany m_lacking m_thrown m_now m_ahead m_then m_time m_timeThen m_isThere m_comes x5 x2 ((x2 + x5) + 1) 0 x3 x3 0 zr37 hzr37) hH [0, 1, 2, 3, 4, 5, 6, 7, 8, 9, 10, 11, 12, 13, 14] [] [0, 1, 2, 3, 4, 5, 6, 7, 8, 9, 10, 11, 12, 13, 14] rfl rfl rfl rfl gX9_direct_X9_put rfl ⟨rfl, rfl⟩ kX9_put ⟨Nat.le_of_ble_eq_true rfl, Nat.le_of_ble_eq_true rfl⟩ rfl rfl rfl rfl rfl hl.1 (Nat.le_of_ble_eq_true rfl) ⟨Nat.le_of_ble_eq_true rfl, Nat.le_of_ble_eq_true rfl⟩ dX9_direct_69 (fun H locs hH => ?_)
      refine lv_iload_n (pc := 72) hx hb dX9_direct_72 rfl (lv_at hl 1 rfl) ?_
      refine lv_iconst (v := 3) (pc := 73) hx hb dX9_direct_73 zk_c3 ?_
      refine lv_icmp_ne (pc := 74) (tgt := 117) hx hb dX9_direct_74 rfl (fun zc38 => ?_) (fun zc38 => ?_)
      · refine lv_iload_n (pc := 117) hx hb dX9_direct_117 rfl (lv_at hl 1 rfl) ?_
        refine lv_iconst (v := 4) (pc := 118) hx hb dX9_direct_118 zk_c4 ?_
        refine lv_icmp_eq (pc := 119) (tgt := 125) hx hb dX9_direct_119 rfl (fun zc39 => ?_) (fun zc39 => ?_)
        · exact absurd (zc20.symm.trans zc39) (by decide)
        refine lv_goto (pc := 122) (tgt := 210) hx hb dX9_direct_122 rfl ?_
        refine lv_iinc (pc := 210) (v := (x5 + 1)) (lv' := [(5, .int (x5 + 1)), (0, .ref (mq 0)), (1, .int x1), (2, .int x2), (3, .int x3), (4, .int x4)]) hx hb dX9_direct_210 hl (k := 5) rfl (by rw [zk_c1]) (by decide) rfl (fun ls hl => ?_)
        refine lv_goto (pc := 213) (tgt := 6) hx hb dX9_direct_213 rfl ?_
        exact ih x4 (x5 + 1) zr37.1 zr37.2.1 zr37.2.2 rr h _ _ _ hH (lv_sub hl [1, 2, 3, 4, 5, 0] rfl) K0
      exact absurd (zc20.symm.trans zc38) (by decide)
    exact absurd (zc20.symm.trans zc36) (by decide)
set_option maxHeartbeats 4000000 in
set_option maxRecDepth 100000 in
theorem c_X9_direct (l : Launch) (G : va_G) (cy : Nat → ClassId) (fu : Nat) (mq : Nat → Nat) (m_hosts : Int32) (m_lost : Nat → Int32) (m_late : Nat → Int32) (m_wait : Nat → Int32) (m_per : Nat → Int32) (m_blocks : Nat → Int32) (m_sends : Nat → Int32) (m_many : Int32) (m_made : Nat → Int32) (m_madeMany : Int32) (m_lacking : Int32) (m_thrown : Int32) (m_now : Nat → Int32) (m_ahead : Nat → Int32) (m_then : Nat → Int32) (m_time : Nat → Int32) (m_timeThen : Nat → Int32) (m_isThere : Nat → Int32) (m_comes : Nat → Int32) (x1 : Int32) (x2 : Int32) (x3 : Int32) (rr : (Nat → Int32) × Int32 × Int32) (h : f_X9_direct fu m_lost m_wait m_made m_madeMany m_lacking x1 x2 x3 = some rr) : zM l G cy yX9_direct wsX9_direct (zR 2 54) [.ref (mq 0), .int x1, .int x2, .int x3] (wM cy mq m_hosts m_lost m_late m_wait m_per m_blocks m_sends m_many m_made m_madeMany m_lacking m_thrown m_now m_ahead m_then m_time m_timeThen m_isThere m_comes) (wM cy mq m_hosts m_lost m_late m_wait m_per m_blocks m_sends m_many rr.1 rr.2.1 rr.2.2 m_thrown m_now m_ahead m_then m_time m_timeThen m_isThere m_comes) none := by
  refine zM.mk (cc := cX9_direct) (nL := 9) (ret := none) (by decide) rfl (Nat.le_of_ble_eq_true rfl) ?_
  intro p e s m below meth c A ls X hr hH hl
  replace X : zX p s m [.ref (mq 0), .int x1, .int x2, .int x3].toArray meth c RX9 cX9_direct 9 wsX9_direct G cy A := X
  have hx := X.1.1
  have hb := X.1.2.1
  replace hl : lv_has ls 9 [(0, .ref (mq 0)), (1, .int x1), (2, .int x2), (3, .int x3)] := hl
  dsimp only [f_X9_direct] at h
  refine lv_iconst (v := 0) (pc := 0) hx hb dX9_direct_0 zk_c0 ?_
  refine lv_istore (pc := 1) (lv' := [(4, .int 0), (0, .ref (mq 0)), (1, .int x1), (2, .int x2), (3, .int x3)]) hx hb dX9_direct_1 hl (by decide) rfl (fun ls hl => ?_)
  refine lv_iconst (v := 0) (pc := 3) hx hb dX9_direct_3 zk_c0 ?_
  refine lv_istore (pc := 4) (lv' := [(5, .int 0), (4, .int 0), (0, .ref (mq 0)), (1, .int x1), (2, .int x2), (3, .int x3)]) hx hb dX9_direct_4 hl (by decide) rfl (fun ls hl => ?_)
  obtain ⟨zr1, hzr1, h⟩ := zb h
  refine w_X9_direct_l6 G cy fu mq m_hosts m_lost m_late m_wait m_per m_blocks m_sends m_many m_thrown m_now m_ahead m_then m_time m_timeThen m_isThere m_comes x1 x2 x3 X fu 0 0 m_made m_madeMany m_lacking zr1 hzr1 _ _ _ hH (lv_sub hl [2, 3, 4, 5, 1, 0] rfl) (fun H locs ls hH hl => ?_)
  obtain rfl := Option.some.inj h
  exact z_vret X hr hH dX9_direct_216
set_option maxHeartbeats 4000000 in
set_option maxRecDepth 100000 in
theorem c_X9_isWay (l : Launch) (G : va_G) (cy : Nat → ClassId) (fu : Nat)   (x0 : Int32) (x1 : Int32) (x2 : Int32) (rr : Int32) (h : f_X9_isWay fu x0 x1 x2 = some rr) : zM l G cy yX9_isWay wsX9_isWay (zR 1 20) [.int x0, .int x1, .int x2] (([] : va_W)) (([] : va_W)) (some (.int rr)) := by
  refine zM.mk (cc := cX9_isWay) (nL := 3) (ret := (some .boolean)) (by decide) rfl (Nat.le_of_ble_eq_true rfl) ?_
  intro p e s m below meth c A ls X hr hH hl
  replace X : zX p s m [.int x0, .int x1, .int x2].toArray meth c RX9 cX9_isWay 3 wsX9_isWay G cy A := X
  have hx := X.1.1
  have hb := X.1.2.1
  replace hl : lv_has ls 3 [(0, .int x0), (1, .int x1), (2, .int x2)] := hl
  dsimp only [f_X9_isWay] at h
  refine lv_iload_n (pc := 0) hx hb dX9_isWay_0 rfl (lv_at hl 0 rfl) ?_
  by_cases zc1 : x0 = 0
  · have h := zt zc1 h
    refine lv_tableIn (pc := 1) (off := 27) (tgt := 28) hx hb dX9_isWay_1 (by rw [zc1]; decide) (by rw [zc1]; decide) (by rw [zc1]; rfl) rfl ?_
    refine lv_iload_n (pc := 28) hx hb dX9_isWay_28 rfl (lv_at hl 1 rfl) ?_
    refine lv_iconst (v := 4) (pc := 29) hx hb dX9_isWay_29 zk_c4 ?_
    refine lv_icmp_eq (pc := 30) (tgt := 37) hx hb dX9_isWay_30 rfl (fun zc2 => ?_) (fun zc2 => ?_)
    · have h := zt zc2 h
      refine lv_iconst (v := 0) (pc := 37) hx hb dX9_isWay_37 zk_c0 ?_
      obtain rfl := Option.some.inj h
      exact z_zret X hr (Or.inl rfl) hH dX9_isWay_38
    have h := zf zc2 h
    refine lv_iconst (v := 1) (pc := 33) hx hb dX9_isWay_33 zk_c1 ?_
    refine lv_goto (pc := 34) (tgt := 38) hx hb dX9_isWay_34 rfl ?_
    obtain rfl := Option.some.inj h
    exact z_zret X hr (Or.inr rfl) hH dX9_isWay_38
  have h := zf zc1 h
  by_cases zc3 : x0 = 1
  · have h := zt zc3 h
    refine lv_tableIn (pc := 1) (off := 38) (tgt := 39) hx hb dX9_isWay_1 (by rw [zc3]; decide) (by rw [zc3]; decide) (by rw [zc3]; rfl) rfl ?_
    refine lv_iload_n (pc := 39) hx hb dX9_isWay_39 rfl (lv_at hl 1 rfl) ?_
    refine lv_iconst (v := 3) (pc := 40) hx hb dX9_isWay_40 zk_c3 ?_
    refine lv_icmp_ge (pc := 41) (tgt := 48) hx hb dX9_isWay_41 rfl (fun zc4 => ?_) (fun zc4 => ?_)
    · have h := zt zc4 h
      refine lv_iconst (v := 0) (pc := 48) hx hb dX9_isWay_48 zk_c0 ?_
      obtain rfl := Option.some.inj h
      exact z_zret X hr (Or.inl rfl) hH dX9_isWay_49
    have h := zf zc4 h
    refine lv_iconst (v := 1) (pc := 44) hx hb dX9_isWay_44 zk_c1 ?_
    refine lv_goto (pc := 45) (tgt := 49) hx hb dX9_isWay_45 rfl ?_
    obtain rfl := Option.some.inj h
    exact z_zret X hr (Or.inr rfl) hH dX9_isWay_49
  have h := zf zc3 h
  by_cases zc5 : x0 = 2
  · have h := zt zc5 h
    refine lv_tableIn (pc := 1) (off := 49) (tgt := 50) hx hb dX9_isWay_1 (by rw [zc5]; decide) (by rw [zc5]; decide) (by rw [zc5]; rfl) rfl ?_
    refine lv_iload_n (pc := 50) hx hb dX9_isWay_50 rfl (lv_at hl 1 rfl) ?_
    refine lv_iconst (v := 2) (pc := 51) hx hb dX9_isWay_51 zk_c2 ?_
    refine lv_icmp_eq (pc := 52) (tgt := 60) hx hb dX9_isWay_52 rfl (fun zc6 => ?_) (fun zc6 => ?_)
    · have h := zt zc6 h
      refine lv_iload_n (pc := 60) hx hb dX9_isWay_60 rfl (lv_at hl 2 rfl) ?_
      obtain ⟨zr7, hzr7, h⟩ := zb h
      refine zcS (pc := 61) (As := [.int x2]) (rest := []) (st1 := [.int zr7]) (ws' := ([] : va_W)) (wr := []) (n := 1) X (c_J6_bitCount_0f7a4 l G cy fu x2 zr7 hzr7) hH [] [] [] rfl rfl rfl rfl gX9_isWay_J6_bitCount_0f7a4 rfl ⟨rfl, rfl⟩ kJ6_bitCount_0f7a4 ⟨Nat.le_of_ble_eq_true rfl, Nat.le_of_ble_eq_true rfl⟩ rfl rfl rfl hl.1 (Nat.le_of_ble_eq_true rfl) ⟨Nat.le_of_ble_eq_true rfl, Nat.le_of_ble_eq_true rfl⟩ dX9_isWay_61 (fun H locs hH => ?_)
      refine lv_iconst (v := 1) (pc := 64) hx hb dX9_isWay_64 zk_c1 ?_
      refine lv_icmp_ne (pc := 65) (tgt := 72) hx hb dX9_isWay_65 rfl (fun zc8 => ?_) (fun zc8 => ?_)
      · have h := zf zc8 h
        refine lv_iconst (v := 0) (pc := 72) hx hb dX9_isWay_72 zk_c0 ?_
        obtain rfl := Option.some.inj h
        exact z_zret X hr (Or.inl rfl) hH dX9_isWay_73
      have h := zt zc8 h
      refine lv_iconst (v := 1) (pc := 68) hx hb dX9_isWay_68 zk_c1 ?_
      refine lv_goto (pc := 69) (tgt := 73) hx hb dX9_isWay_69 rfl ?_
      obtain rfl := Option.some.inj h
      exact z_zret X hr (Or.inr rfl) hH dX9_isWay_73
    have h := zf zc6 h
    refine lv_iload_n (pc := 55) hx hb dX9_isWay_55 rfl (lv_at hl 1 rfl) ?_
    refine lv_iconst (v := 3) (pc := 56) hx hb dX9_isWay_56 zk_c3 ?_
    refine lv_icmp_ne (pc := 57) (tgt := 72) hx hb dX9_isWay_57 rfl (fun zc9 => ?_) (fun zc9 => ?_)
    · have h := zf zc9 h
      refine lv_iconst (v := 0) (pc := 72) hx hb dX9_isWay_72 zk_c0 ?_
      obtain rfl := Option.some.inj h
      exact z_zret X hr (Or.inl rfl) hH dX9_isWay_73
    have h := zt zc9 h
    refine lv_iload_n (pc := 60) hx hb dX9_isWay_60 rfl (lv_at hl 2 rfl) ?_
    obtain ⟨zr10, hzr10, h⟩ := zb h
    refine zcS (pc := 61) (As := [.int x2]) (rest := []) (st1 := [.int zr10]) (ws' := ([] : va_W)) (wr := []) (n := 1) X (c_J6_bitCount_0f7a4 l G cy fu x2 zr10 hzr10) hH [] [] [] rfl rfl rfl rfl gX9_isWay_J6_bitCount_0f7a4 rfl ⟨rfl, rfl⟩ kJ6_bitCount_0f7a4 ⟨Nat.le_of_ble_eq_true rfl, Nat.le_of_ble_eq_true rfl⟩ rfl rfl rfl hl.1 (Nat.le_of_ble_eq_true rfl) ⟨Nat.le_of_ble_eq_true rfl, Nat.le_of_ble_eq_true rfl⟩ dX9_isWay_61 (fun H locs hH => ?_)
    refine lv_iconst (v := 1) (pc := 64) hx hb dX9_isWay_64 zk_c1 ?_
    refine lv_icmp_ne (pc := 65) (tgt := 72) hx hb dX9_isWay_65 rfl (fun zc11 => ?_) (fun zc11 => ?_)
    · have h := zf zc11 h
      refine lv_iconst (v := 0) (pc := 72) hx hb dX9_isWay_72 zk_c0 ?_
      obtain rfl := Option.some.inj h
      exact z_zret X hr (Or.inl rfl) hH dX9_isWay_73
    have h := zt zc11 h
    refine lv_iconst (v := 1) (pc := 68) hx hb dX9_isWay_68 zk_c1 ?_
    refine lv_goto (pc := 69) (tgt := 73) hx hb dX9_isWay_69 rfl ?_
    obtain rfl := Option.some.inj h
    exact z_zret X hr (Or.inr rfl) hH dX9_isWay_73
  have h := zf zc5 h
  refine lv_tableOut (pc := 1) (tgt := 74) hx hb dX9_isWay_1 (by have n0 := lv_neT zc1 (show (0 : Int32).toInt = 0 by decide); have n1 := lv_neT zc3 (show (1 : Int32).toInt = 1 by decide); have n2 := lv_neT zc5 (show (2 : Int32).toInt = 2 by decide); omega) rfl ?_
  refine lv_iload_n (pc := 74) hx hb dX9_isWay_74 rfl (lv_at hl 1 rfl) ?_
  refine lv_iconst (v := 2) (pc := 75) hx hb dX9_isWay_75 zk_c2 ?_
  refine lv_icmp_eq (pc := 76) (tgt := 83) hx hb dX9_isWay_76 rfl (fun zc12 => ?_) (fun zc12 => ?_)
  · have h := zt zc12 h
    refine lv_iconst (v := 0) (pc := 83) hx hb dX9_isWay_83 zk_c0 ?_
    obtain rfl := Option.some.inj h
    exact z_zret X hr (Or.inl rfl) hH dX9_isWay_84
  have h := zf zc12 h
  refine lv_iconst (v := 1) (pc := 79) hx hb dX9_isWay_79 zk_c1 ?_
  refine lv_goto (pc := 80) (tgt := 84) hx hb dX9_isWay_80 rfl ?_
  obtain rfl := Option.some.inj h
  exact z_zret X hr (Or.inr rfl) hH dX9_isWay_84
set_option maxHeartbeats 4000000 in
set_option maxRecDepth 100000 in
theorem c_X9_isAsk (l : Launch) (G : va_G) (cy : Nat → ClassId) (fu : Nat) (mq : Nat → Nat) (m_hosts : Int32) (m_lost : Nat → Int32) (m_late : Nat → Int32) (m_wait : Nat → Int32) (m_per : Nat → Int32) (m_blocks : Nat → Int32) (m_sends : Nat → Int32) (m_many : Int32) (m_made : Nat → Int32) (m_madeMany : Int32) (m_lacking : Int32) (m_thrown : Int32) (m_now : Nat → Int32) (m_ahead : Nat → Int32) (m_then : Nat → Int32) (m_time : Nat → Int32) (m_timeThen : Nat → Int32) (m_isThere : Nat → Int32) (m_comes : Nat → Int32) (x1 : Int32) (x2 : Int32) (rr : Int32) (h : f_X9_isAsk fu m_hosts m_lost x1 x2 = some rr) : zM l G cy yX9_isAsk wsX9_isAsk (zR 3 64) [.ref (mq 0), .int x1, .int x2] (wM cy mq m_hosts m_lost m_late m_wait m_per m_blocks m_sends m_many m_made m_madeMany m_lacking m_thrown m_now m_ahead m_then m_time m_timeThen m_isThere m_comes) (wM cy mq m_hosts m_lost m_late m_wait m_per m_blocks m_sends m_many m_made m_madeMany m_lacking m_thrown m_now m_ahead m_then m_time m_timeThen m_isThere m_comes) (some (.int rr)) := by
  refine zM.mk (cc := cX9_isAsk) (nL := 3) (ret := (some .boolean)) (by decide) rfl (Nat.le_of_ble_eq_true rfl) ?_
  intro p e s m below meth c A ls X hr hH hl
  replace X : zX p s m [.ref (mq 0), .int x1, .int x2].toArray meth c RX9 cX9_isAsk 3 wsX9_isAsk G cy A := X
  have hx := X.1.1
  have hb := X.1.2.1
  replace hl : lv_has ls 3 [(0, .ref (mq 0)), (1, .int x1), (2, .int x2)] := hl
  dsimp only [f_X9_isAsk] at h
  refine lv_iload_n (pc := 0) hx hb dX9_isAsk_0 rfl (lv_at hl 1 rfl) ?_
  refine lv_iconst (v := 0) (pc := 1) hx hb dX9_isAsk_1 zk_c0 ?_
  refine lv_iconst (v := 4) (pc := 2) hx hb dX9_isAsk_2 zk_c4 ?_
  obtain ⟨zr1, hzr1, h⟩ := zb h
  refine zcS (pc := 3) (As := [.int x1, .int 0, .int 4]) (rest := []) (st1 := [.int zr1]) (ws' := wM cy mq m_hosts m_lost m_late m_wait m_per m_blocks m_sends m_many m_made m_madeMany m_lacking m_thrown m_now m_ahead m_then m_time m_timeThen m_isThere m_comes) (wr := [((mq 0), .inr (8, [.int m_hosts, .ref (mq 1), .ref (mq 2), .ref (mq 3), .ref (mq 4), .ref (mq 5), .ref (mq 6), .int m_many, .ref (mq 7), .int m_madeMany, .int m_lacking, .int m_thrown, .ref (mq 8), .ref (mq 9), .ref (mq 10), .ref (mq 11), .ref (mq 12), .ref (mq 13), .ref (mq 14)])), ((mq 1), .inl (cy 2, 16, .inl m_lost)), ((mq 2), .inl (cy 0, 16, .inl m_late)), ((mq 3), .inl (cy 0, 256, .inl m_wait)), ((mq 4), .inl (cy 0, 256, .inl m_per)), ((mq 5), .inl (cy 0, 256, .inl m_blocks)), ((mq 6), .inl (cy 0, 7200, .inl m_sends)), ((mq 7), .inl (cy 0, 7200, .inl m_made)), ((mq 8), .inl (cy 3, 65536, .inl m_now)), ((mq 9), .inl (cy 3, 65536, .inl m_ahead)), ((mq 10), .inl (cy 0, 256, .inl m_then)), ((mq 11), .inl (cy 0, 16, .inl m_time)), ((mq 12), .inl (cy 0, 16, .inl m_timeThen)), ((mq 13), .inl (cy 2, 256, .inl m_isThere)), ((mq 14), .inl (cy 2, 256, .inl m_comes))]) (n := 3) X (c_X9_in l G cy fu x1 0 4 zr1 hzr1) hH [] [0, 1, 2, 3, 4, 5, 6, 7, 8, 9, 10, 11, 12, 13, 14] [0, 1, 2, 3, 4, 5, 6, 7, 8, 9, 10, 11, 12, 13, 14] rfl rfl rfl rfl gX9_isAsk_X9_in rfl ⟨rfl, rfl⟩ kX9_in ⟨Nat.le_of_ble_eq_true rfl, Nat.le_of_ble_eq_true rfl⟩ rfl rfl rfl hl.1 (Nat.le_of_ble_eq_true rfl) ⟨Nat.le_of_ble_eq_true rfl, Nat.le_of_ble_eq_true rfl⟩ dX9_isAsk_3 (fun H locs hH => ?_)
  refine lv_if_eq (pc := 6) (tgt := 21) hx hb dX9_isAsk_6 rfl (fun zc2 => ?_) (fun zc2 => ?_)
  · have h := zt zc2 h
    refine lv_iconst (v := 0) (pc := 21) hx hb dX9_isAsk_21 zk_c0 ?_
    obtain rfl := Option.some.inj h
    exact z_zret X hr (Or.inl rfl) hH dX9_isAsk_22
  have h := zf zc2 h
  refine lv_aload_n (pc := 9) hx hb dX9_isAsk_9 rfl (lv_at hl 0 rfl) ?_
  refine lv_iload_n (pc := 10) hx hb dX9_isAsk_10 rfl (lv_at hl 2 rfl) ?_
  obtain ⟨zr3, hzr3, h⟩ := zb h
  refine zcV (pc := 11) (As := [.int x2]) (rest := []) (st1 := [.int zr3]) (ws' := wM cy mq m_hosts m_lost m_late m_wait m_per m_blocks m_sends m_many m_made m_madeMany m_lacking m_thrown m_now m_ahead m_then m_time m_timeThen m_isThere m_comes) (wr := []) (n := 1) (q0 := 0) X (c_X9_isLive l G cy fu mq m_hosts m_lost m_late m_wait m_per m_blocks m_sends m_many m_made m_madeMany m_lacking m_thrown m_now m_ahead m_then m_time m_timeThen m_isThere m_comes x2 zr3 hzr3) hH [0, 1, 2, 3, 4, 5, 6, 7, 8, 9, 10, 11, 12, 13, 14] [] [0, 1, 2, 3, 4, 5, 6, 7, 8, 9, 10, 11, 12, 13, 14] rfl rfl rfl rfl gX9_isAsk_X9_isLive rfl ⟨rfl, rfl⟩ kX9_isLive ⟨Nat.le_of_ble_eq_true rfl, Nat.le_of_ble_eq_true rfl⟩ rfl rfl rfl rfl rfl hl.1 (Nat.le_of_ble_eq_true rfl) ⟨Nat.le_of_ble_eq_true rfl, Nat.le_of_ble_eq_true rfl⟩ dX9_isAsk_11 (fun H locs hH => ?_)
  refine lv_if_eq (pc := 14) (tgt := 21) hx hb dX9_isAsk_14 rfl (fun zc4 => ?_) (fun zc4 => ?_)
  · have h := zt zc4 h
    refine lv_iconst (v := 0) (pc := 21) hx hb dX9_isAsk_21 zk_c0 ?_
    obtain rfl := Option.some.inj h
    exact z_zret X hr (Or.inl rfl) hH dX9_isAsk_22
  have h := zf zc4 h
  refine lv_iconst (v := 1) (pc := 17) hx hb dX9_isAsk_17 zk_c1 ?_
  refine lv_goto (pc := 18) (tgt := 22) hx hb dX9_isAsk_18 rfl ?_
  obtain rfl := Option.some.inj h
  exact z_zret X hr (Or.inr rfl) hH dX9_isAsk_22
set_option maxHeartbeats 4000000 in
set_option maxRecDepth 100000 in
theorem c_X9_make (l : Launch) (G : va_G) (cy : Nat → ClassId) (fu : Nat) (mq : Nat → Nat) (m_hosts : Int32) (m_lost : Nat → Int32) (m_late : Nat → Int32) (m_wait : Nat → Int32) (m_per : Nat → Int32) (m_blocks : Nat → Int32) (m_sends : Nat → Int32) (m_many : Int32) (m_made : Nat → Int32) (m_madeMany : Int32) (m_lacking : Int32) (m_thrown : Int32) (m_now : Nat → Int32) (m_ahead : Nat → Int32) (m_then : Nat → Int32) (m_time : Nat → Int32) (m_timeThen : Nat → Int32) (m_isThere : Nat → Int32) (m_comes : Nat → Int32) (x1 : Int32) (x2 : Int32) (x3 : Int32) (rr : Int32 × (Nat → Int32) × Int32 × Int32) (h : f_X9_make fu m_hosts m_lost m_wait m_made m_madeMany m_lacking x1 x2 x3 = some rr) : zM l G cy yX9_make wsX9_make (zR 4 106) [.ref (mq 0), .int x1, .int x2, .int x3] (wM cy mq m_hosts m_lost m_late m_wait m_per m_blocks m_sends m_many m_made m_madeMany m_lacking m_thrown m_now m_ahead m_then m_time m_timeThen m_isThere m_comes) (wM cy mq m_hosts m_lost m_late m_wait m_per m_blocks m_sends m_many rr.2.1 rr.2.2.1 rr.2.2.2 m_thrown m_now m_ahead m_then m_time m_timeThen m_isThere m_comes) (some (.int rr.1)) := by
  refine zM.mk (cc := cX9_make) (nL := 6) (ret := (some .int)) (by decide) rfl (Nat.le_of_ble_eq_true rfl) ?_
  intro p e s m below meth c A ls X hr hH hl
  replace X : zX p s m [.ref (mq 0), .int x1, .int x2, .int x3].toArray meth c RX9 cX9_make 6 wsX9_make G cy A := X
  have hx := X.1.1
  have hb := X.1.2.1
  replace hl : lv_has ls 6 [(0, .ref (mq 0)), (1, .int x1), (2, .int x2), (3, .int x3)] := hl
  dsimp only [f_X9_make] at h
  refine lv_iload_n (pc := 0) hx hb dX9_make_0 rfl (lv_at hl 1 rfl) ?_
  refine lv_iconst (v := 0) (pc := 1) hx hb dX9_make_1 zk_c0 ?_
  refine lv_iconst (v := 3) (pc := 2) hx hb dX9_make_2 zk_c3 ?_
  obtain ⟨zr1, hzr1, h⟩ := zb h
  refine zcS (pc := 3) (As := [.int x1, .int 0, .int 3]) (rest := []) (st1 := [.int zr1]) (ws' := wM cy mq m_hosts m_lost m_late m_wait m_per m_blocks m_sends m_many m_made m_madeMany m_lacking m_thrown m_now m_ahead m_then m_time m_timeThen m_isThere m_comes) (wr := [((mq 0), .inr (8, [.int m_hosts, .ref (mq 1), .ref (mq 2), .ref (mq 3), .ref (mq 4), .ref (mq 5), .ref (mq 6), .int m_many, .ref (mq 7), .int m_madeMany, .int m_lacking, .int m_thrown, .ref (mq 8), .ref (mq 9), .ref (mq 10), .ref (mq 11), .ref (mq 12), .ref (mq 13), .ref (mq 14)])), ((mq 1), .inl (cy 2, 16, .inl m_lost)), ((mq 2), .inl (cy 0, 16, .inl m_late)), ((mq 3), .inl (cy 0, 256, .inl m_wait)), ((mq 4), .inl (cy 0, 256, .inl m_per)), ((mq 5), .inl (cy 0, 256, .inl m_blocks)), ((mq 6), .inl (cy 0, 7200, .inl m_sends)), ((mq 7), .inl (cy 0, 7200, .inl m_made)), ((mq 8), .inl (cy 3, 65536, .inl m_now)), ((mq 9), .inl (cy 3, 65536, .inl m_ahead)), ((mq 10), .inl (cy 0, 256, .inl m_then)), ((mq 11), .inl (cy 0, 16, .inl m_time)), ((mq 12), .inl (cy 0, 16, .inl m_timeThen)), ((mq 13), .inl (cy 2, 256, .inl m_isThere)), ((mq 14), .inl (cy 2, 256, .inl m_comes))]) (n := 3) X (c_X9_in l G cy fu x1 0 3 zr1 hzr1) hH [] [0, 1, 2, 3, 4, 5, 6, 7, 8, 9, 10, 11, 12, 13, 14] [0, 1, 2, 3, 4, 5, 6, 7, 8, 9, 10, 11, 12, 13, 14] rfl rfl rfl rfl gX9_make_X9_in rfl ⟨rfl, rfl⟩ kX9_in ⟨Nat.le_of_ble_eq_true rfl, Nat.le_of_ble_eq_true rfl⟩ rfl rfl rfl hl.1 (Nat.le_of_ble_eq_true rfl) ⟨Nat.le_of_ble_eq_true rfl, Nat.le_of_ble_eq_true rfl⟩ dX9_make_3 (fun H locs hH => ?_)
  refine lv_if_eq (pc := 6) (tgt := 18) hx hb dX9_make_6 rfl (fun zc2 => ?_) (fun zc2 => ?_)
  · have h := zt zc2 h
    refine lv_iconst (v := (-1)) (pc := 18) hx hb dX9_make_18 zk_cm1 ?_
    obtain rfl := Option.some.inj h
    exact z_iret X hr hH dX9_make_19
  have h := zf zc2 h
  refine lv_aload_n (pc := 9) hx hb dX9_make_9 rfl (lv_at hl 0 rfl) ?_
  refine lv_iload_n (pc := 10) hx hb dX9_make_10 rfl (lv_at hl 2 rfl) ?_
  refine lv_iload_n (pc := 11) hx hb dX9_make_11 rfl (lv_at hl 3 rfl) ?_
  obtain ⟨zr3, hzr3, h⟩ := zb h
  refine zcV (pc := 12) (As := [.int x2, .int x3]) (rest := []) (st1 := [.int zr3]) (ws' := wM cy mq m_hosts m_lost m_late m_wait m_per m_blocks m_sends m_many m_made m_madeMany m_lacking m_thrown m_now m_ahead m_then m_time m_timeThen m_isThere m_comes) (wr := []) (n := 2) (q0 := 0) X (c_X9_isAsk l G cy fu mq m_hosts m_lost m_late m_wait m_per m_blocks m_sends m_many m_made m_madeMany m_lacking m_thrown m_now m_ahead m_then m_time m_timeThen m_isThere m_comes x2 x3 zr3 hzr3) hH [0, 1, 2, 3, 4, 5, 6, 7, 8, 9, 10, 11, 12, 13, 14] [] [0, 1, 2, 3, 4, 5, 6, 7, 8, 9, 10, 11, 12, 13, 14] rfl rfl rfl rfl gX9_make_X9_isAsk rfl ⟨rfl, rfl⟩ kX9_isAsk ⟨Nat.le_of_ble_eq_true rfl, Nat.le_of_ble_eq_true rfl⟩ rfl rfl rfl rfl rfl hl.1 (Nat.le_of_ble_eq_true rfl) ⟨Nat.le_of_ble_eq_true rfl, Nat.le_of_ble_eq_true rfl⟩ dX9_make_12 (fun H locs hH => ?_)
  refine lv_if_ne (pc := 15) (tgt := 20) hx hb dX9_make_15 rfl (fun zc4 => ?_) (fun zc4 => ?_)
  · have h := zf zc4 h
    refine lv_aload_n (pc := 20) hx hb dX9_make_20 rfl (lv_at hl 0 rfl) ?_
    obtain ⟨zr5, hzr5, h⟩ := zb h
    refine zcV (pc := 21) (As := []) (rest := []) (st1 := [.int zr5]) (ws' := wM cy mq m_hosts m_lost m_late m_wait m_per m_blocks m_sends m_many m_made m_madeMany m_lacking m_thrown m_now m_ahead m_then m_time m_timeThen m_isThere m_comes) (wr := []) (n := 0) (q0 := 0) X (c_X9_liveMany l G cy fu mq m_hosts m_lost m_late m_wait m_per m_blocks m_sends m_many m_made m_madeMany m_lacking m_thrown m_now m_ahead m_then m_time m_timeThen m_isThere m_comes zr5 hzr5) hH [0, 1, 2, 3, 4, 5, 6, 7, 8, 9, 10, 11, 12, 13, 14] [] [0, 1, 2, 3, 4, 5, 6, 7, 8, 9, 10, 11, 12, 13, 14] rfl rfl rfl rfl gX9_make_X9_liveMany rfl ⟨rfl, rfl⟩ kX9_liveMany ⟨Nat.le_of_ble_eq_true rfl, Nat.le_of_ble_eq_true rfl⟩ rfl rfl rfl rfl rfl hl.1 (Nat.le_of_ble_eq_true rfl) ⟨Nat.le_of_ble_eq_true rfl, Nat.le_of_ble_eq_true rfl⟩ dX9_make_21 (fun H locs hH => ?_)
    refine lv_istore (pc := 24) (lv' := [(4, .int zr5), (0, .ref (mq 0)), (1, .int x1), (2, .int x2), (3, .int x3)]) hx hb dX9_make_24 hl (by decide) rfl (fun ls hl => ?_)
    refine lv_iload_n (pc := 26) hx hb dX9_make_26 rfl (lv_at hl 2 rfl) ?_
    refine lv_iload_n (pc := 27) hx hb dX9_make_27 rfl (lv_at hl 3 rfl) ?_
    refine lv_iload (pc := 28) hx hb dX9_make_28 (lv_at hl 0 rfl) ?_
    obtain ⟨zr6, hzr6, h⟩ := zb h
    refine zcS (pc := 30) (As := [.int x1, .int x2, .int zr5]) (rest := []) (st1 := [.int zr6]) (ws' := wM cy mq m_hosts m_lost m_late m_wait m_per m_blocks m_sends m_many m_made m_madeMany m_lacking m_thrown m_now m_ahead m_then m_time m_timeThen m_isThere m_comes) (wr := [((mq 0), .inr (8, [.int m_hosts, .ref (mq 1), .ref (mq 2), .ref (mq 3), .ref (mq 4), .ref (mq 5), .ref (mq 6), .int m_many, .ref (mq 7), .int m_madeMany, .int m_lacking, .int m_thrown, .ref (mq 8), .ref (mq 9), .ref (mq 10), .ref (mq 11), .ref (mq 12), .ref (mq 13), .ref (mq 14)])), ((mq 1), .inl (cy 2, 16, .inl m_lost)), ((mq 2), .inl (cy 0, 16, .inl m_late)), ((mq 3), .inl (cy 0, 256, .inl m_wait)), ((mq 4), .inl (cy 0, 256, .inl m_per)), ((mq 5), .inl (cy 0, 256, .inl m_blocks)), ((mq 6), .inl (cy 0, 7200, .inl m_sends)), ((mq 7), .inl (cy 0, 7200, .inl m_made)), ((mq 8), .inl (cy 3, 65536, .inl m_now)), ((mq 9), .inl (cy 3, 65536, .inl m_ahead)), ((mq 10), .inl (cy 0, 256, .inl m_then)), ((mq 11), .inl (cy 0, 16, .inl m_time)), ((mq 12), .inl (cy 0, 16, .inl m_timeThen)), ((mq 13), .inl (cy 2, 256, .inl m_isThere)), ((mq 14), .inl (cy 2, 256, .inl m_comes))]) (n := 3) X (c_X9_isWay l G cy fu x1 x2 zr5 zr6 hzr6) hH [] [0, 1, 2, 3, 4, 5, 6, 7, 8, 9, 10, 11, 12, 13, 14] [0, 1, 2, 3, 4, 5, 6, 7, 8, 9, 10, 11, 12, 13, 14] rfl rfl rfl rfl gX9_make_X9_isWay rfl ⟨rfl, rfl⟩ kX9_isWay ⟨Nat.le_of_ble_eq_true rfl, Nat.le_of_ble_eq_true rfl⟩ rfl rfl rfl hl.1 (Nat.le_of_ble_eq_true rfl) ⟨Nat.le_of_ble_eq_true rfl, Nat.le_of_ble_eq_true rfl⟩ dX9_make_30 (fun H locs hH => ?_)
    refine lv_if_ne (pc := 33) (tgt := 39) hx hb dX9_make_33 rfl (fun zc7 => ?_) (fun zc7 => ?_)
    · have h := zf zc7 h
      refine lv_aload_n (pc := 39) hx hb dX9_make_39 rfl (lv_at hl 1 rfl) ?_
      refine lv_iload_n (pc := 40) hx hb dX9_make_40 rfl (lv_at hl 4 rfl) ?_
      obtain ⟨zr8, hzr8, h⟩ := zb h
      refine zcV (pc := 41) (As := [.int x3]) (rest := []) (st1 := [.int zr8]) (ws' := wM cy mq m_hosts m_lost m_late m_wait m_per m_blocks m_sends m_many m_made m_madeMany m_lacking m_thrown m_now m_ahead m_then m_time m_timeThen m_isThere m_comes) (wr := []) (n := 1) (q0 := 0) X (c_X9_rankOf l G cy fu mq m_hosts m_lost m_late m_wait m_per m_blocks m_sends m_many m_made m_madeMany m_lacking m_thrown m_now m_ahead m_then m_time m_timeThen m_isThere m_comes x3 zr8 hzr8) hH [0, 1, 2, 3, 4, 5, 6, 7, 8, 9, 10, 11, 12, 13, 14] [] [0, 1, 2, 3, 4, 5, 6, 7, 8, 9, 10, 11, 12, 13, 14] rfl rfl rfl rfl gX9_make_X9_rankOf rfl ⟨rfl, rfl⟩ kX9_rankOf ⟨Nat.le_of_ble_eq_true rfl, Nat.le_of_ble_eq_true rfl⟩ rfl rfl rfl rfl rfl hl.1 (Nat.le_of_ble_eq_true rfl) ⟨Nat.le_of_ble_eq_true rfl, Nat.le_of_ble_eq_true rfl⟩ dX9_make_41 (fun H locs hH => ?_)
      refine lv_istore (pc := 44) (lv' := [(5, .int zr8), (4, .int zr5), (0, .ref (mq 0)), (1, .int x1), (2, .int x2), (3, .int x3)]) hx hb dX9_make_44 hl (by decide) rfl (fun ls hl => ?_)
      refine lv_aload_n (pc := 46) hx hb dX9_make_46 rfl (lv_at hl 2 rfl) ?_
      refine lv_iconst (v := 0) (pc := 47) hx hb dX9_make_47 zk_c0 ?_
      refine z_put (pc := 48) (v := .int 0) (ws' := wM cy mq m_hosts m_lost m_late m_wait m_per m_blocks m_sends m_many m_made 0 m_lacking m_thrown m_now m_ahead m_then m_time m_timeThen m_isThere m_comes) X iX9_make_X9 tyX9 tyX9_ok nmX9 hH 0 rfl rfl 9 rfl (List.mem_of_getElem? (i := 1) rfl) rfl rfl rfl rfl rfl dX9_make_48 (fun H locs hH => ?_)
      refine lv_aload_n (pc := 51) hx hb dX9_make_51 rfl (lv_at hl 2 rfl) ?_
      refine lv_iconst (v := 0) (pc := 52) hx hb dX9_make_52 zk_c0 ?_
      refine z_put (pc := 53) (v := .int 0) (ws' := wM cy mq m_hosts m_lost m_late m_wait m_per m_blocks m_sends m_many m_made 0 0 m_thrown m_now m_ahead m_then m_time m_timeThen m_isThere m_comes) X iX9_make_X9 tyX9 tyX9_ok nmX9 hH 0 rfl rfl 10 rfl (List.mem_of_getElem? (i := 2) rfl) rfl rfl rfl rfl rfl dX9_make_53 (fun H locs hH => ?_)
      refine lv_iload_n (pc := 56) hx hb dX9_make_56 rfl (lv_at hl 3 rfl) ?_
      refine lv_if_ne (pc := 57) (tgt := 72) hx hb dX9_make_57 rfl (fun zc9 => ?_) (fun zc9 => ?_)
      · have h := zf zc9 h
        refine lv_iload_n (pc := 72) hx hb dX9_make_72 rfl (lv_at hl 3 rfl) ?_
        refine lv_iconst (v := 1) (pc := 73) hx hb dX9_make_73 zk_c1 ?_
        refine lv_icmp_ne (pc := 74) (tgt := 89) hx hb dX9_make_74 rfl (fun zc10 => ?_) (fun zc10 => ?_)
        · have h := zf zc10 h
          refine lv_iload_n (pc := 89) hx hb dX9_make_89 rfl (lv_at hl 3 rfl) ?_
          refine lv_iconst (v := 2) (pc := 90) hx hb dX9_make_90 zk_c2 ?_
          refine lv_icmp_ne (pc := 91) (tgt := 104) hx hb dX9_make_91 rfl (fun zc11 => ?_) (fun zc11 => ?_)
          · have h := zf zc11 h
            refine lv_aload_n (pc := 104) hx hb dX9_make_104 rfl (lv_at hl 2 rfl) ?_
            refine lv_iload_n (pc := 105) hx hb dX9_make_105 rfl (lv_at hl 4 rfl) ?_
            refine lv_iload (pc := 106) hx hb dX9_make_106 (lv_at hl 0 rfl) ?_
            refine lv_iload (pc := 108) hx hb dX9_make_108 (lv_at hl 1 rfl) ?_
            obtain ⟨zr12, hzr12, h⟩ := zb h
            refine zcV (pc := 110) (As := [.int x2, .int zr8, .int zr5]) (rest := []) (st1 := []) (ws' := wM cy mq m_hosts m_lost m_late m_wait m_per m_blocks m_sends m_many zr12.1 zr12.2.1 zr12.2.2 m_thrown m_now m_ahead m_then m_time m_timeThen m_isThere m_comes) (wr := []) (n := 3) (q0 := 0) X (c_X9_direct l G cy fu mq m_hosts m_lost m_late m_wait m_per m_blocks m_sends m_many m_made 0 0 m_thrown m_now m_ahead m_then m_time m_timeThen m_isThere m_comes x2 zr8 zr5 zr12 hzr12) hH [0, 1, 2, 3, 4, 5, 6, 7, 8, 9, 10, 11, 12, 13, 14] [] [0, 1, 2, 3, 4, 5, 6, 7, 8, 9, 10, 11, 12, 13, 14] rfl rfl rfl rfl gX9_make_X9_direct rfl ⟨rfl, rfl⟩ kX9_direct ⟨Nat.le_of_ble_eq_true rfl, Nat.le_of_ble_eq_true rfl⟩ rfl rfl rfl rfl rfl hl.1 (Nat.le_of_ble_eq_true rfl) ⟨Nat.le_of_ble_eq_true rfl, Nat.le_of_ble_eq_true rfl⟩ dX9_make_110 (fun H locs hH => ?_)
            refine lv_aload_n (pc := 113) hx hb dX9_make_113 rfl (lv_at hl 2 rfl) ?_
            refine z_get (pc := 114) (v := .int zr12.2.2) X iX9_make_X9 hH 0 rfl rfl 10 rfl (List.mem_of_getElem? (i := 2) rfl) rfl dX9_make_114 ?_
            refine lv_if_eq (pc := 117) (tgt := 125) hx hb dX9_make_117 rfl (fun zc13 => ?_) (fun zc13 => ?_)
            · have h := zt zc13 h
              refine lv_iconst (v := 0) (pc := 125) hx hb dX9_make_125 zk_c0 ?_
              obtain rfl := Option.some.inj h
              exact z_iret X hr hH dX9_make_126
            have h := zf zc13 h
            refine lv_bipush (v := (-3)) (pc := 120) hx hb dX9_make_120 zk_bm3 ?_
            refine lv_goto (pc := 122) (tgt := 126) hx hb dX9_make_122 rfl ?_
            obtain rfl := Option.some.inj h
            exact z_iret X hr hH dX9_make_126
          have h := zt zc11 h
          refine lv_aload_n (pc := 94) hx hb dX9_make_94 rfl (lv_at hl 2 rfl) ?_
          refine lv_iload_n (pc := 95) hx hb dX9_make_95 rfl (lv_at hl 4 rfl) ?_
          refine lv_iload (pc := 96) hx hb dX9_make_96 (lv_at hl 1 rfl) ?_
          obtain ⟨zr14, hzr14, h⟩ := zb h
          refine zcV (pc := 98) (As := [.int x2, .int zr5]) (rest := []) (st1 := []) (ws' := wM cy mq m_hosts m_lost m_late m_wait m_per m_blocks m_sends m_many zr14.1 zr14.2.1 zr14.2.2 m_thrown m_now m_ahead m_then m_time m_timeThen m_isThere m_comes) (wr := []) (n := 2) (q0 := 0) X (c_X9_halve l G cy fu mq m_hosts m_lost m_late m_wait m_per m_blocks m_sends m_many m_made 0 0 m_thrown m_now m_ahead m_then m_time m_timeThen m_isThere m_comes x2 zr5 zr14 hzr14) hH [0, 1, 2, 3, 4, 5, 6, 7, 8, 9, 10, 11, 12, 13, 14] [] [0, 1, 2, 3, 4, 5, 6, 7, 8, 9, 10, 11, 12, 13, 14] rfl rfl rfl rfl gX9_make_X9_halve rfl ⟨rfl, rfl⟩ kX9_halve ⟨Nat.le_of_ble_eq_true rfl, Nat.le_of_ble_eq_true rfl⟩ rfl rfl rfl rfl rfl hl.1 (Nat.le_of_ble_eq_true rfl) ⟨Nat.le_of_ble_eq_true rfl, Nat.le_of_ble_eq_true rfl⟩ dX9_make_98 (fun H locs hH => ?_)
          refine lv_goto (pc := 101) (tgt := 113) hx hb dX9_make_101 rfl ?_
          refine lv_aload_n (pc := 113) hx hb dX9_make_113 rfl (lv_at hl 2 rfl) ?_
          refine z_get (pc := 114) (v := .int zr14.2.2) X iX9_make_X9 hH 0 rfl rfl 10 rfl (List.mem_of_getElem? (i := 2) rfl) rfl dX9_make_114 ?_
          refine lv_if_eq (pc := 117) (tgt := 125) hx hb dX9_make_117 rfl (fun zc15 => ?_) (fun zc15 => ?_)
          · have h := zt zc15 h
            refine lv_iconst (v := 0) (pc := 125) hx hb dX9_make_125 zk_c0 ?_
            obtain rfl := Option.some.inj h
            exact z_iret X hr hH dX9_make_126
          have h := zf zc15 h
          refine lv_bipush (v := (-3)) (pc := 120) hx hb dX9_make_120 zk_bm3 ?_
          refine lv_goto (pc := 122) (tgt := 126) hx hb dX9_make_122 rfl ?_
          obtain rfl := Option.some.inj h
          exact z_iret X hr hH dX9_make_126
        have h := zt zc10 h
        refine lv_aload_n (pc := 77) hx hb dX9_make_77 rfl (lv_at hl 2 rfl) ?_
        refine lv_iload_n (pc := 78) hx hb dX9_make_78 rfl (lv_at hl 4 rfl) ?_
        refine lv_iload (pc := 79) hx hb dX9_make_79 (lv_at hl 0 rfl) ?_
        refine lv_iload (pc := 81) hx hb dX9_make_81 (lv_at hl 1 rfl) ?_
        obtain ⟨zr16, hzr16, h⟩ := zb h
        refine zcV (pc := 83) (As := [.int x2, .int zr8, .int zr5]) (rest := []) (st1 := []) (ws' := wM cy mq m_hosts m_lost m_late m_wait m_per m_blocks m_sends m_many zr16.1 zr16.2.1 zr16.2.2 m_thrown m_now m_ahead m_then m_time m_timeThen m_isThere m_comes) (wr := []) (n := 3) (q0 := 0) X (c_X9_tree l G cy fu mq m_hosts m_lost m_late m_wait m_per m_blocks m_sends m_many m_made 0 0 m_thrown m_now m_ahead m_then m_time m_timeThen m_isThere m_comes x2 zr8 zr5 zr16 hzr16) hH [0, 1, 2, 3, 4, 5, 6, 7, 8, 9, 10, 11, 12, 13, 14] [] [0, 1, 2, 3, 4, 5, 6, 7, 8, 9, 10, 11, 12, 13, 14] rfl rfl rfl rfl gX9_make_X9_tree rfl ⟨rfl, rfl⟩ kX9_tree ⟨Nat.le_of_ble_eq_true rfl, Nat.le_of_ble_eq_true rfl⟩ rfl rfl rfl rfl rfl hl.1 (Nat.le_of_ble_eq_true rfl) ⟨Nat.le_of_ble_eq_true rfl, Nat.le_of_ble_eq_true rfl⟩ dX9_make_83 (fun H locs hH => ?_)
        refine lv_goto (pc := 86) (tgt := 113) hx hb dX9_make_86 rfl ?_
        refine lv_aload_n (pc := 113) hx hb dX9_make_113 rfl (lv_at hl 2 rfl) ?_
        refine z_get (pc := 114) (v := .int zr16.2.2) X iX9_make_X9 hH 0 rfl rfl 10 rfl (List.mem_of_getElem? (i := 2) rfl) rfl dX9_make_114 ?_
        refine lv_if_eq (pc := 117) (tgt := 125) hx hb dX9_make_117 rfl (fun zc17 => ?_) (fun zc17 => ?_)
        · have h := zt zc17 h
          refine lv_iconst (v := 0) (pc := 125) hx hb dX9_make_125 zk_c0 ?_
          obtain rfl := Option.some.inj h
          exact z_iret X hr hH dX9_make_126
        have h := zf zc17 h
        refine lv_bipush (v := (-3)) (pc := 120) hx hb dX9_make_120 zk_bm3 ?_
        refine lv_goto (pc := 122) (tgt := 126) hx hb dX9_make_122 rfl ?_
        obtain rfl := Option.some.inj h
        exact z_iret X hr hH dX9_make_126
      have h := zt zc9 h
      refine lv_aload_n (pc := 60) hx hb dX9_make_60 rfl (lv_at hl 2 rfl) ?_
      refine lv_iload_n (pc := 61) hx hb dX9_make_61 rfl (lv_at hl 4 rfl) ?_
      refine lv_iload (pc := 62) hx hb dX9_make_62 (lv_at hl 0 rfl) ?_
      refine lv_iload (pc := 64) hx hb dX9_make_64 (lv_at hl 1 rfl) ?_
      obtain ⟨zr18, hzr18, h⟩ := zb h
      refine zcV (pc := 66) (As := [.int x2, .int zr8, .int zr5]) (rest := []) (st1 := []) (ws' := wM cy mq m_hosts m_lost m_late m_wait m_per m_blocks m_sends m_many zr18.1 zr18.2.1 zr18.2.2 m_thrown m_now m_ahead m_then m_time m_timeThen m_isThere m_comes) (wr := []) (n := 3) (q0 := 0) X (c_X9_ring l G cy fu mq m_hosts m_lost m_late m_wait m_per m_blocks m_sends m_many m_made 0 0 m_thrown m_now m_ahead m_then m_time m_timeThen m_isThere m_comes x2 zr8 zr5 zr18 hzr18) hH [0, 1, 2, 3, 4, 5, 6, 7, 8, 9, 10, 11, 12, 13, 14] [] [0, 1, 2, 3, 4, 5, 6, 7, 8, 9, 10, 11, 12, 13, 14] rfl rfl rfl rfl gX9_make_X9_ring rfl ⟨rfl, rfl⟩ kX9_ring ⟨Nat.le_of_ble_eq_true rfl, Nat.le_of_ble_eq_true rfl⟩ rfl rfl rfl rfl rfl hl.1 (Nat.le_of_ble_eq_true rfl) ⟨Nat.le_of_ble_eq_true rfl, Nat.le_of_ble_eq_true rfl⟩ dX9_make_66 (fun H locs hH => ?_)
      refine lv_goto (pc := 69) (tgt := 113) hx hb dX9_make_69 rfl ?_
      refine lv_aload_n (pc := 113) hx hb dX9_make_113 rfl (lv_at hl 2 rfl) ?_
      refine z_get (pc := 114) (v := .int zr18.2.2) X iX9_make_X9 hH 0 rfl rfl 10 rfl (List.mem_of_getElem? (i := 2) rfl) rfl dX9_make_114 ?_
      refine lv_if_eq (pc := 117) (tgt := 125) hx hb dX9_make_117 rfl (fun zc19 => ?_) (fun zc19 => ?_)
      · have h := zt zc19 h
        refine lv_iconst (v := 0) (pc := 125) hx hb dX9_make_125 zk_c0 ?_
        obtain rfl := Option.some.inj h
        exact z_iret X hr hH dX9_make_126
      have h := zf zc19 h
      refine lv_bipush (v := (-3)) (pc := 120) hx hb dX9_make_120 zk_bm3 ?_
      refine lv_goto (pc := 122) (tgt := 126) hx hb dX9_make_122 rfl ?_
      obtain rfl := Option.some.inj h
      exact z_iret X hr hH dX9_make_126
    have h := zt zc7 h
    refine lv_bipush (v := (-2)) (pc := 36) hx hb dX9_make_36 zk_bm2 ?_
    obtain rfl := Option.some.inj h
    exact z_iret X hr hH dX9_make_38
  have h := zt zc4 h
  refine lv_iconst (v := (-1)) (pc := 18) hx hb dX9_make_18 zk_cm1 ?_
  obtain rfl := Option.some.inj h
  exact z_iret X hr hH dX9_make_19
set_option maxHeartbeats 4000000 in
set_option maxRecDepth 100000 in
theorem c_X9_keyOf (l : Launch) (G : va_G) (cy : Nat → ClassId) (fu : Nat)   (x0 : Int32) (x1 : Int32) (x2 : Int32) (rr : Int32) (h : f_X9_keyOf fu x0 x1 x2 = some rr) : zM l G cy yX9_keyOf wsX9_keyOf (zR 0 0) [.int x0, .int x1, .int x2] (([] : va_W)) (([] : va_W)) (some (.int rr)) := by
  refine zM.mk (cc := cX9_keyOf) (nL := 3) (ret := (some .int)) (by decide) rfl (Nat.le_of_ble_eq_true rfl) ?_
  intro p e s m below meth c A ls X hr hH hl
  replace X : zX p s m [.int x0, .int x1, .int x2].toArray meth c RX9 cX9_keyOf 3 wsX9_keyOf G cy A := X
  have hx := X.1.1
  have hb := X.1.2.1
  replace hl : lv_has ls 3 [(0, .int x0), (1, .int x1), (2, .int x2)] := hl
  dsimp only [f_X9_keyOf] at h
  refine lv_iload_n (pc := 0) hx hb dX9_keyOf_0 rfl (lv_at hl 0 rfl) ?_
  refine lv_bipush (v := 16) (pc := 1) hx hb dX9_keyOf_1 zk_b16 ?_
  refine lv_imul (pc := 3) hx hb dX9_keyOf_3 ?_
  refine lv_iload_n (pc := 4) hx hb dX9_keyOf_4 rfl (lv_at hl 1 rfl) ?_
  refine lv_iadd (pc := 5) hx hb dX9_keyOf_5 ?_
  refine lv_bipush (v := 16) (pc := 6) hx hb dX9_keyOf_6 zk_b16 ?_
  refine lv_imul (pc := 8) hx hb dX9_keyOf_8 ?_
  refine lv_iload_n (pc := 9) hx hb dX9_keyOf_9 rfl (lv_at hl 2 rfl) ?_
  refine lv_iadd (pc := 10) hx hb dX9_keyOf_10 ?_
  obtain rfl := Option.some.inj h
  exact z_iret X hr hH dX9_keyOf_11
set_option maxHeartbeats 4000000 in
set_option maxRecDepth 100000 in
theorem w_X9_lay_l64 {p : Program} {l : Launch} {e : Env} {s : State} {m : MethodId} {args : Array Value} {below : List Frame} {meth : Method} {c : Code} {A : Nat → Prop} {Q : State → Prop} (G : va_G) (cy : Nat → ClassId) (fu : Nat) (mq : Nat → Nat) (m_hosts : Int32) (m_lost : Nat → Int32) (m_late : Nat → Int32) (m_wait : Nat → Int32) (m_per : Nat → Int32) (m_blocks : Nat → Int32) (m_many : Int32) (m_made : Nat → Int32) (m_madeMany : Int32) (m_lacking : Int32) (m_thrown : Int32) (m_now : Nat → Int32) (m_ahead : Nat → Int32) (m_then : Nat → Int32) (m_time : Nat → Int32) (m_timeThen : Nat → Int32) (m_isThere : Nat → Int32) (m_comes : Nat → Int32) (x1 : Int32) (x2 : Int32) (x3 : Int32) (x4 : Int32) (x5 : Int32) (x6 : Int32) (x7 : Int32) (X : zX p s m args meth c RX9 cX9_lay 9 wsX9_lay G cy A) : ∀ (n : Nat) (x8 : Int32) (m_sends : Nat → Int32) (rr : (Nat → Int32)) (h : lp (f_X9_lay_l64 fu x7) n (x8, m_sends) = some rr) (H : Heap) (locs : List Loc) (ls : Array Slot) (hH : zH G A s.heap (wM cy mq m_hosts m_lost m_late m_wait m_per m_blocks m_sends m_many m_made m_madeMany m_lacking m_thrown m_now m_ahead m_then m_time m_timeThen m_isThere m_comes) H locs) (hl : lv_has ls 9 [(0, .ref (mq 0)), (1, .int x1), (2, .int x2), (3, .int x3), (4, .int x4), (5, .int x5), (6, .int x6), (7, .int x7), (8, .int x8)]) (K0 : ∀ (H : Heap) (locs : List Loc) (ls : Array Slot), zH G A s.heap (wM cy mq m_hosts m_lost m_late m_wait m_per m_blocks rr m_many m_made m_madeMany m_lacking m_thrown m_now m_ahead m_then m_time m_timeThen m_isThere m_comes) H locs → lv_has ls 9 [(0, .ref (mq 0)), (1, .int x1), (2, .int x2), (3, .int x3), (4, .int x4), (5, .int x5), (6, .int x6), (7, .int x7)] → W p l e (zR 1 22) s m args below meth c H locs 0 0 Q (F0 m 106 ls [])), W p l e (zR 1 22) s m args below meth c H locs 0 0 Q (F0 m 64 ls []) := by
  have hx := X.1.1
  have hb := X.1.2.1
  intro n
  induction n with
  | zero => intro x8 m_sends rr h H locs ls hH hl K0; cases h
  | succ n ih =>
    intro x8 m_sends rr h H locs ls hH hl K0
    replace h : f_X9_lay_l64 fu x7 (lp (f_X9_lay_l64 fu x7) n) (x8, m_sends) = some rr := h
    dsimp only [f_X9_lay_l64] at h
    refine lv_iload (pc := 64) hx hb dX9_lay_64 (lv_at hl 8 rfl) ?_
    refine lv_bipush (v := 6) (pc := 66) hx hb dX9_lay_66 zk_b6 ?_
    refine lv_icmp_ge (pc := 68) (tgt := 106) hx hb dX9_lay_68 rfl (fun zc1 => ?_) (fun zc1 => ?_)
    · have h := zt zc1 h
      obtain rfl := Option.some.inj h
      exact K0 _ _ _ hH (lv_sub hl [0, 1, 2, 3, 4, 5, 6, 7] rfl)
    have h := zf zc1 h
    refine lv_aload_n (pc := 71) hx hb dX9_lay_71 rfl (lv_at hl 0 rfl) ?_
    refine z_get (pc := 72) (v := .ref (mq 6)) X iX9_lay_X9 hH 0 rfl rfl 6 rfl (List.mem_of_getElem? (i := 2) rfl) rfl dX9_lay_72 ?_
    refine lv_bipush (v := 6) (pc := 75) hx hb dX9_lay_75 zk_b6 ?_
    refine lv_iload (pc := 77) hx hb dX9_lay_77 (lv_at hl 7 rfl) ?_
    refine lv_imul (pc := 79) hx hb dX9_lay_79 ?_
    refine lv_iload (pc := 80) hx hb dX9_lay_80 (lv_at hl 8 rfl) ?_
    refine lv_iadd (pc := 82) hx hb dX9_lay_82 ?_
    refine lv_aload_n (pc := 83) hx hb dX9_lay_83 rfl (lv_at hl 0 rfl) ?_
    refine z_get (pc := 84) (v := .ref (mq 6)) X iX9_lay_X9 hH 0 rfl rfl 6 rfl (List.mem_of_getElem? (i := 2) rfl) rfl dX9_lay_84 ?_
    refine lv_bipush (v := 6) (pc := 87) hx hb dX9_lay_87 zk_b6 ?_
    refine lv_iload (pc := 89) hx hb dX9_lay_89 (lv_at hl 7 rfl) ?_
    refine lv_imul (pc := 91) hx hb dX9_lay_91 ?_
    refine lv_bipush (v := 6) (pc := 92) hx hb dX9_lay_92 zk_b6 ?_
    refine lv_isub (pc := 94) hx hb dX9_lay_94 ?_
    refine lv_iload (pc := 95) hx hb dX9_lay_95 (lv_at hl 8 rfl) ?_
    refine lv_iadd (pc := 97) hx hb dX9_lay_97 ?_
    obtain ⟨hin, h⟩ := zg h
    refine z_iald (pc := 98) X hH 6 rfl hin dX9_lay_98 ?_
    obtain ⟨hin, h⟩ := zg h
    refine z_iast (pc := 99) (ws' := wM cy mq m_hosts m_lost m_late m_wait m_per m_blocks (upd m_sends (((6 * x7) + x8)).toNatClampNeg (m_sends ((((6 * x7) - 6) + x8)).toNatClampNeg)) m_many m_made m_madeMany m_lacking m_thrown m_now m_ahead m_then m_time m_timeThen m_isThere m_comes) X hH 6 rfl hin rfl dX9_lay_99 (fun H locs hH => ?_)
    refine lv_iinc (pc := 100) (v := (x8 + 1)) (lv' := [(8, .int (x8 + 1)), (0, .ref (mq 0)), (1, .int x1), (2, .int x2), (3, .int x3), (4, .int x4), (5, .int x5), (6, .int x6), (7, .int x7)]) hx hb dX9_lay_100 hl (k := 8) rfl (by rw [zk_c1]) (by decide) rfl (fun ls hl => ?_)
    refine lv_goto (pc := 103) (tgt := 64) hx hb dX9_lay_103 rfl ?_
    exact ih (x8 + 1) (upd m_sends (((6 * x7) + x8)).toNatClampNeg (m_sends ((((6 * x7) - 6) + x8)).toNatClampNeg)) rr h _ _ _ hH (lv_sub hl [1, 2, 3, 4, 5, 6, 7, 8, 0] rfl) K0
set_option maxHeartbeats 4000000 in
set_option maxRecDepth 100000 in
theorem w_X9_lay_l6 {p : Program} {l : Launch} {e : Env} {s : State} {m : MethodId} {args : Array Value} {below : List Frame} {meth : Method} {c : Code} {A : Nat → Prop} {Q : State → Prop} (G : va_G) (cy : Nat → ClassId) (fu : Nat) (mq : Nat → Nat) (m_hosts : Int32) (m_lost : Nat → Int32) (m_late : Nat → Int32) (m_wait : Nat → Int32) (m_per : Nat → Int32) (m_blocks : Nat → Int32) (m_many : Int32) (m_made : Nat → Int32) (m_madeMany : Int32) (m_lacking : Int32) (m_thrown : Int32) (m_now : Nat → Int32) (m_ahead : Nat → Int32) (m_then : Nat → Int32) (m_time : Nat → Int32) (m_timeThen : Nat → Int32) (m_isThere : Nat → Int32) (m_comes : Nat → Int32) (x1 : Int32) (x2 : Int32) (x3 : Int32) (x4 : Int32) (x5 : Int32) (x6 : Int32) (X : zX p s m args meth c RX9 cX9_lay 9 wsX9_lay G cy A) : ∀ (n : Nat) (x7 : Int32) (m_sends : Nat → Int32) (rr : Int32 × (Nat → Int32)) (h : lp (f_X9_lay_l6 fu x1 x2 x5) n (x7, m_sends) = some rr) (H : Heap) (locs : List Loc) (ls : Array Slot) (hH : zH G A s.heap (wM cy mq m_hosts m_lost m_late m_wait m_per m_blocks m_sends m_many m_made m_madeMany m_lacking m_thrown m_now m_ahead m_then m_time m_timeThen m_isThere m_comes) H locs) (hl : lv_has ls 9 [(0, .ref (mq 0)), (1, .int x1), (2, .int x2), (3, .int x3), (4, .int x4), (5, .int x5), (6, .int x6), (7, .int x7)]) (K0 : ∀ (H : Heap) (locs : List Loc) (ls : Array Slot), zH G A s.heap (wM cy mq m_hosts m_lost m_late m_wait m_per m_blocks rr.2 m_many m_made m_madeMany m_lacking m_thrown m_now m_ahead m_then m_time m_timeThen m_isThere m_comes) H locs → lv_has ls 9 [(0, .ref (mq 0)), (1, .int x1), (2, .int x2), (3, .int x3), (4, .int x4), (5, .int x5), (6, .int x6), (7, .int rr.1)] → W p l e (zR 1 22) s m args below meth c H locs 0 0 Q (F0 m 112 ls [])), W p l e (zR 1 22) s m args below meth c H locs 0 0 Q (F0 m 6 ls []) := by
  have hx := X.1.1
  have hb := X.1.2.1
  intro n
  induction n with
  | zero => intro x7 m_sends rr h H locs ls hH hl K0; cases h
  | succ n ih =>
    intro x7 m_sends rr h H locs ls hH hl K0
    replace h : f_X9_lay_l6 fu x1 x2 x5 (lp (f_X9_lay_l6 fu x1 x2 x5) n) (x7, m_sends) = some rr := h
    dsimp only [f_X9_lay_l6] at h
    refine lv_iload (pc := 6) hx hb dX9_lay_6 (lv_at hl 7 rfl) ?_
    refine lv_if_le (pc := 8) (tgt := 112) hx hb dX9_lay_8 rfl (fun zc1 => ?_) (fun zc1 => ?_)
    · have h := zt zc1 h
      obtain rfl := Option.some.inj h
      exact K0 _ _ _ hH (lv_sub hl [0, 1, 2, 3, 4, 5, 6, 7] rfl)
    have h := zf zc1 h
    refine lv_aload_n (pc := 11) hx hb dX9_lay_11 rfl (lv_at hl 0 rfl) ?_
    refine z_get (pc := 12) (v := .ref (mq 6)) X iX9_lay_X9 hH 0 rfl rfl 6 rfl (List.mem_of_getElem? (i := 2) rfl) rfl dX9_lay_12 ?_
    refine lv_bipush (v := 6) (pc := 15) hx hb dX9_lay_15 zk_b6 ?_
    refine lv_iload (pc := 17) hx hb dX9_lay_17 (lv_at hl 7 rfl) ?_
    refine lv_imul (pc := 19) hx hb dX9_lay_19 ?_
    refine lv_bipush (v := 6) (pc := 20) hx hb dX9_lay_20 zk_b6 ?_
    refine lv_isub (pc := 22) hx hb dX9_lay_22 ?_
    obtain ⟨hin, h⟩ := zg h
    refine z_iald (pc := 23) X hH 6 rfl hin dX9_lay_23 ?_
    refine lv_aload_n (pc := 24) hx hb dX9_lay_24 rfl (lv_at hl 0 rfl) ?_
    refine z_get (pc := 25) (v := .ref (mq 6)) X iX9_lay_X9 hH 0 rfl rfl 6 rfl (List.mem_of_getElem? (i := 2) rfl) rfl dX9_lay_25 ?_
    refine lv_bipush (v := 6) (pc := 28) hx hb dX9_lay_28 zk_b6 ?_
    refine lv_iload (pc := 30) hx hb dX9_lay_30 (lv_at hl 7 rfl) ?_
    refine lv_imul (pc := 32) hx hb dX9_lay_32 ?_
    refine lv_iconst (v := 5) (pc := 33) hx hb dX9_lay_33 zk_c5 ?_
    refine lv_isub (pc := 34) hx hb dX9_lay_34 ?_
    obtain ⟨hin, h⟩ := zg h
    refine z_iald (pc := 35) X hH 6 rfl hin dX9_lay_35 ?_
    refine lv_aload_n (pc := 36) hx hb dX9_lay_36 rfl (lv_at hl 0 rfl) ?_
    refine z_get (pc := 37) (v := .ref (mq 6)) X iX9_lay_X9 hH 0 rfl rfl 6 rfl (List.mem_of_getElem? (i := 2) rfl) rfl dX9_lay_37 ?_
    refine lv_bipush (v := 6) (pc := 40) hx hb dX9_lay_40 zk_b6 ?_
    refine lv_iload (pc := 42) hx hb dX9_lay_42 (lv_at hl 7 rfl) ?_
    refine lv_imul (pc := 44) hx hb dX9_lay_44 ?_
    refine lv_iconst (v := 2) (pc := 45) hx hb dX9_lay_45 zk_c2 ?_
    refine lv_isub (pc := 46) hx hb dX9_lay_46 ?_
    obtain ⟨hin, h⟩ := zg h
    refine z_iald (pc := 47) X hH 6 rfl hin dX9_lay_47 ?_
    obtain ⟨zr2, hzr2, h⟩ := zb h
    refine zcS (pc := 48) (As := [.int (m_sends (((6 * x7) - 6)).toNatClampNeg), .int (m_sends (((6 * x7) - 5)).toNatClampNeg), .int (m_sends (((6 * x7) - 2)).toNatClampNeg)]) (rest := []) (st1 := [.int zr2]) (ws' := wM cy mq m_hosts m_lost m_late m_wait m_per m_blocks m_sends m_many m_made m_madeMany m_lacking m_thrown m_now m_ahead m_then m_time m_timeThen m_isThere m_comes) (wr := [((mq 0), .inr (8, [.int m_hosts, .ref (mq 1), .ref (mq 2), .ref (mq 3), .ref (mq 4), .ref (mq 5), .ref (mq 6), .int m_many, .ref (mq 7), .int m_madeMany, .int m_lacking, .int m_thrown, .ref (mq 8), .ref (mq 9), .ref (mq 10), .ref (mq 11), .ref (mq 12), .ref (mq 13), .ref (mq 14)])), ((mq 1), .inl (cy 2, 16, .inl m_lost)), ((mq 2), .inl (cy 0, 16, .inl m_late)), ((mq 3), .inl (cy 0, 256, .inl m_wait)), ((mq 4), .inl (cy 0, 256, .inl m_per)), ((mq 5), .inl (cy 0, 256, .inl m_blocks)), ((mq 6), .inl (cy 0, 7200, .inl m_sends)), ((mq 7), .inl (cy 0, 7200, .inl m_made)), ((mq 8), .inl (cy 3, 65536, .inl m_now)), ((mq 9), .inl (cy 3, 65536, .inl m_ahead)), ((mq 10), .inl (cy 0, 256, .inl m_then)), ((mq 11), .inl (cy 0, 16, .inl m_time)), ((mq 12), .inl (cy 0, 16, .inl m_timeThen)), ((mq 13), .inl (cy 2, 256, .inl m_isThere)), ((mq 14), .inl (cy 2, 256, .inl m_comes))]) (n := 3) X (c_X9_keyOf l G cy fu (m_sends (((6 * x7) - 6)).toNatClampNeg) (m_sends (((6 * x7) - 5)).toNatClampNeg) (m_sends (((6 * x7) - 2)).toNatClampNeg) zr2 hzr2) hH [] [0, 1, 2, 3, 4, 5, 6, 7, 8, 9, 10, 11, 12, 13, 14] [0, 1, 2, 3, 4, 5, 6, 7, 8, 9, 10, 11, 12, 13, 14] rfl rfl rfl rfl gX9_lay_X9_keyOf rfl ⟨rfl, rfl⟩ kX9_keyOf ⟨Nat.le_of_ble_eq_true rfl, Nat.le_of_ble_eq_true rfl⟩ rfl rfl rfl hl.1 (Nat.le_of_ble_eq_true rfl) ⟨Nat.le_of_ble_eq_true rfl, Nat.le_of_ble_eq_true rfl⟩ dX9_lay_48 (fun H locs hH => ?_)
    refine lv_iload_n (pc := 51) hx hb dX9_lay_51 rfl (lv_at hl 1 rfl) ?_
    refine lv_iload_n (pc := 52) hx hb dX9_lay_52 rfl (lv_at hl 2 rfl) ?_
    refine lv_iload (pc := 53) hx hb dX9_lay_53 (lv_at hl 5 rfl) ?_
    obtain ⟨zr3, hzr3, h⟩ := zb h
    refine zcS (pc := 55) (As := [.int x1, .int x2, .int x5]) (rest := [.int zr2]) (st1 := [.int zr3, .int zr2]) (ws' := wM cy mq m_hosts m_lost m_late m_wait m_per m_blocks m_sends m_many m_made m_madeMany m_lacking m_thrown m_now m_ahead m_then m_time m_timeThen m_isThere m_comes) (wr := [((mq 0), .inr (8, [.int m_hosts, .ref (mq 1), .ref (mq 2), .ref (mq 3), .ref (mq 4), .ref (mq 5), .ref (mq 6), .int m_many, .ref (mq 7), .int m_madeMany, .int m_lacking, .int m_thrown, .ref (mq 8), .ref (mq 9), .ref (mq 10), .ref (mq 11), .ref (mq 12), .ref (mq 13), .ref (mq 14)])), ((mq 1), .inl (cy 2, 16, .inl m_lost)), ((mq 2), .inl (cy 0, 16, .inl m_late)), ((mq 3), .inl (cy 0, 256, .inl m_wait)), ((mq 4), .inl (cy 0, 256, .inl m_per)), ((mq 5), .inl (cy 0, 256, .inl m_blocks)), ((mq 6), .inl (cy 0, 7200, .inl m_sends)), ((mq 7), .inl (cy 0, 7200, .inl m_made)), ((mq 8), .inl (cy 3, 65536, .inl m_now)), ((mq 9), .inl (cy 3, 65536, .inl m_ahead)), ((mq 10), .inl (cy 0, 256, .inl m_then)), ((mq 11), .inl (cy 0, 16, .inl m_time)), ((mq 12), .inl (cy 0, 16, .inl m_timeThen)), ((mq 13), .inl (cy 2, 256, .inl m_isThere)), ((mq 14), .inl (cy 2, 256, .inl m_comes))]) (n := 3) X (c_X9_keyOf l G cy fu x1 x2 x5 zr3 hzr3) hH [] [0, 1, 2, 3, 4, 5, 6, 7, 8, 9, 10, 11, 12, 13, 14] [0, 1, 2, 3, 4, 5, 6, 7, 8, 9, 10, 11, 12, 13, 14] rfl rfl rfl rfl gX9_lay_X9_keyOf rfl ⟨rfl, rfl⟩ kX9_keyOf ⟨Nat.le_of_ble_eq_true rfl, Nat.le_of_ble_eq_true rfl⟩ rfl rfl rfl hl.1 (Nat.le_of_ble_eq_true rfl) ⟨Nat.le_of_ble_eq_true rfl, Nat.le_of_ble_eq_true rfl⟩ dX9_lay_55 (fun H locs hH => ?_)
    refine lv_icmp_le (pc := 58) (tgt := 112) hx hb dX9_lay_58 rfl (fun zc4 => ?_) (fun zc4 => ?_)
    · have h := zt zc4 h
      obtain rfl := Option.some.inj h
      exact K0 _ _ _ hH (lv_sub hl [0, 1, 2, 3, 4, 5, 6, 7] rfl)
    have h := zf zc4 h
    refine lv_iconst (v := 0) (pc := 61) hx hb dX9_lay_61 zk_c0 ?_
    refine lv_istore (pc := 62) (lv' := [(8, .int 0), (0, .ref (mq 0)), (1, .int x1), (2, .int x2), (3, .int x3), (4, .int x4), (5, .int x5), (6, .int x6), (7, .int x7)]) hx hb dX9_lay_62 hl (by decide) rfl (fun ls hl => ?_)
    obtain ⟨zr5, hzr5, h⟩ := zb h
    refine w_X9_lay_l64 G cy fu mq m_hosts m_lost m_late m_wait m_per m_blocks m_many m_made m_madeMany m_lacking m_thrown m_now m_ahead m_then m_time m_timeThen m_isThere m_comes x1 x2 x3 x4 x5 x6 x7 X fu 0 m_sends zr5 hzr5 _ _ _ hH (lv_sub hl [1, 2, 3, 4, 5, 6, 7, 8, 0] rfl) (fun H locs ls hH hl => ?_)
    refine lv_iinc (pc := 106) (v := (x7 + (-1))) (lv' := [(7, .int (x7 + (-1))), (0, .ref (mq 0)), (1, .int x1), (2, .int x2), (3, .int x3), (4, .int x4), (5, .int x5), (6, .int x6)]) hx hb dX9_lay_106 hl (k := 7) rfl (by rw [zk_cm1]) (by decide) rfl (fun ls hl => ?_)
    refine lv_goto (pc := 109) (tgt := 6) hx hb dX9_lay_109 rfl ?_
    exact ih (x7 + (-1)) zr5 rr h _ _ _ hH (lv_sub hl [1, 2, 3, 4, 5, 6, 7, 0] rfl) K0
set_option maxHeartbeats 4000000 in
set_option maxRecDepth 100000 in
theorem c_X9_lay (l : Launch) (G : va_G) (cy : Nat → ClassId) (fu : Nat) (mq : Nat → Nat) (m_hosts : Int32) (m_lost : Nat → Int32) (m_late : Nat → Int32) (m_wait : Nat → Int32) (m_per : Nat → Int32) (m_blocks : Nat → Int32) (m_sends : Nat → Int32) (m_many : Int32) (m_made : Nat → Int32) (m_madeMany : Int32) (m_lacking : Int32) (m_thrown : Int32) (m_now : Nat → Int32) (m_ahead : Nat → Int32) (m_then : Nat → Int32) (m_time : Nat → Int32) (m_timeThen : Nat → Int32) (m_isThere : Nat → Int32) (m_comes : Nat → Int32) (x1 : Int32) (x2 : Int32) (x3 : Int32) (x4 : Int32) (x5 : Int32) (x6 : Int32) (rr : (Nat → Int32) × Int32) (h : f_X9_lay fu m_sends m_many x1 x2 x3 x4 x5 x6 = some rr) : zM l G cy yX9_lay wsX9_lay (zR 1 22) [.ref (mq 0), .int x1, .int x2, .int x3, .int x4, .int x5, .int x6] (wM cy mq m_hosts m_lost m_late m_wait m_per m_blocks m_sends m_many m_made m_madeMany m_lacking m_thrown m_now m_ahead m_then m_time m_timeThen m_isThere m_comes) (wM cy mq m_hosts m_lost m_late m_wait m_per m_blocks rr.1 rr.2 m_made m_madeMany m_lacking m_thrown m_now m_ahead m_then m_time m_timeThen m_isThere m_comes) none := by
  refine zM.mk (cc := cX9_lay) (nL := 9) (ret := none) (by decide) rfl (Nat.le_of_ble_eq_true rfl) ?_
  intro p e s m below meth c A ls X hr hH hl
  replace X : zX p s m [.ref (mq 0), .int x1, .int x2, .int x3, .int x4, .int x5, .int x6].toArray meth c RX9 cX9_lay 9 wsX9_lay G cy A := X
  have hx := X.1.1
  have hb := X.1.2.1
  replace hl : lv_has ls 9 [(0, .ref (mq 0)), (1, .int x1), (2, .int x2), (3, .int x3), (4, .int x4), (5, .int x5), (6, .int x6)] := hl
  dsimp only [f_X9_lay] at h
  refine lv_aload_n (pc := 0) hx hb dX9_lay_0 rfl (lv_at hl 0 rfl) ?_
  refine z_get (pc := 1) (v := .int m_many) X iX9_lay_X9 hH 0 rfl rfl 7 rfl (List.mem_of_getElem? (i := 1) rfl) rfl dX9_lay_1 ?_
  refine lv_istore (pc := 4) (lv' := [(7, .int m_many), (0, .ref (mq 0)), (1, .int x1), (2, .int x2), (3, .int x3), (4, .int x4), (5, .int x5), (6, .int x6)]) hx hb dX9_lay_4 hl (by decide) rfl (fun ls hl => ?_)
  obtain ⟨zr1, hzr1, h⟩ := zb h
  refine w_X9_lay_l6 G cy fu mq m_hosts m_lost m_late m_wait m_per m_blocks m_many m_made m_madeMany m_lacking m_thrown m_now m_ahead m_then m_time m_timeThen m_isThere m_comes x1 x2 x3 x4 x5 x6 X fu m_many m_sends zr1 hzr1 _ _ _ hH (lv_sub hl [1, 2, 3, 4, 5, 6, 7, 0] rfl) (fun H locs ls hH hl => ?_)
  refine lv_bipush (v := 6) (pc := 112) hx hb dX9_lay_112 zk_b6 ?_
  refine lv_iload (pc := 114) hx hb dX9_lay_114 (lv_at hl 7 rfl) ?_
  refine lv_imul (pc := 116) hx hb dX9_lay_116 ?_
  refine lv_topi (fun za2 eza2 => ?_)
  have h := vn_s h za2 eza2
  refine lv_istore (pc := 117) (lv' := [(8, .int za2), (0, .ref (mq 0)), (1, .int x1), (2, .int x2), (3, .int x3), (4, .int x4), (5, .int x5), (6, .int x6), (7, .int zr1.1)]) hx hb dX9_lay_117 hl (by decide) rfl (fun ls hl => ?_)
  refine lv_aload_n (pc := 119) hx hb dX9_lay_119 rfl (lv_at hl 1 rfl) ?_
  refine z_get (pc := 120) (v := .ref (mq 6)) X iX9_lay_X9 hH 0 rfl rfl 6 rfl (List.mem_of_getElem? (i := 2) rfl) rfl dX9_lay_120 ?_
  refine lv_iload (pc := 123) hx hb dX9_lay_123 (lv_at hl 0 rfl) ?_
  refine lv_iload_n (pc := 125) hx hb dX9_lay_125 rfl (lv_at hl 2 rfl) ?_
  obtain ⟨hin, h⟩ := zg h
  refine z_iast (pc := 126) (ws' := wM cy mq m_hosts m_lost m_late m_wait m_per m_blocks (upd zr1.2 (za2).toNatClampNeg x1) m_many m_made m_madeMany m_lacking m_thrown m_now m_ahead m_then m_time m_timeThen m_isThere m_comes) X hH 6 rfl hin rfl dX9_lay_126 (fun H locs hH => ?_)
  refine lv_aload_n (pc := 127) hx hb dX9_lay_127 rfl (lv_at hl 1 rfl) ?_
  refine z_get (pc := 128) (v := .ref (mq 6)) X iX9_lay_X9 hH 0 rfl rfl 6 rfl (List.mem_of_getElem? (i := 2) rfl) rfl dX9_lay_128 ?_
  refine lv_iload (pc := 131) hx hb dX9_lay_131 (lv_at hl 0 rfl) ?_
  refine lv_iconst (v := 1) (pc := 133) hx hb dX9_lay_133 zk_c1 ?_
  refine lv_iadd (pc := 134) hx hb dX9_lay_134 ?_
  refine lv_iload_n (pc := 135) hx hb dX9_lay_135 rfl (lv_at hl 3 rfl) ?_
  obtain ⟨hin, h⟩ := zg h
  refine z_iast (pc := 136) (ws' := wM cy mq m_hosts m_lost m_late m_wait m_per m_blocks (upd (upd zr1.2 (za2).toNatClampNeg x1) ((za2 + 1)).toNatClampNeg x2) m_many m_made m_madeMany m_lacking m_thrown m_now m_ahead m_then m_time m_timeThen m_isThere m_comes) X hH 6 rfl hin rfl dX9_lay_136 (fun H locs hH => ?_)
  refine lv_aload_n (pc := 137) hx hb dX9_lay_137 rfl (lv_at hl 1 rfl) ?_
  refine z_get (pc := 138) (v := .ref (mq 6)) X iX9_lay_X9 hH 0 rfl rfl 6 rfl (List.mem_of_getElem? (i := 2) rfl) rfl dX9_lay_138 ?_
  refine lv_iload (pc := 141) hx hb dX9_lay_141 (lv_at hl 0 rfl) ?_
  refine lv_iconst (v := 2) (pc := 143) hx hb dX9_lay_143 zk_c2 ?_
  refine lv_iadd (pc := 144) hx hb dX9_lay_144 ?_
  refine lv_iload_n (pc := 145) hx hb dX9_lay_145 rfl (lv_at hl 4 rfl) ?_
  obtain ⟨hin, h⟩ := zg h
  refine z_iast (pc := 146) (ws' := wM cy mq m_hosts m_lost m_late m_wait m_per m_blocks (upd (upd (upd zr1.2 (za2).toNatClampNeg x1) ((za2 + 1)).toNatClampNeg x2) ((za2 + 2)).toNatClampNeg x3) m_many m_made m_madeMany m_lacking m_thrown m_now m_ahead m_then m_time m_timeThen m_isThere m_comes) X hH 6 rfl hin rfl dX9_lay_146 (fun H locs hH => ?_)
  refine lv_aload_n (pc := 147) hx hb dX9_lay_147 rfl (lv_at hl 1 rfl) ?_
  refine z_get (pc := 148) (v := .ref (mq 6)) X iX9_lay_X9 hH 0 rfl rfl 6 rfl (List.mem_of_getElem? (i := 2) rfl) rfl dX9_lay_148 ?_
  refine lv_iload (pc := 151) hx hb dX9_lay_151 (lv_at hl 0 rfl) ?_
  refine lv_iconst (v := 3) (pc := 153) hx hb dX9_lay_153 zk_c3 ?_
  refine lv_iadd (pc := 154) hx hb dX9_lay_154 ?_
  refine lv_iload (pc := 155) hx hb dX9_lay_155 (lv_at hl 5 rfl) ?_
  obtain ⟨hin, h⟩ := zg h
  refine z_iast (pc := 157) (ws' := wM cy mq m_hosts m_lost m_late m_wait m_per m_blocks (upd (upd (upd (upd zr1.2 (za2).toNatClampNeg x1) ((za2 + 1)).toNatClampNeg x2) ((za2 + 2)).toNatClampNeg x3) ((za2 + 3)).toNatClampNeg x4) m_many m_made m_madeMany m_lacking m_thrown m_now m_ahead m_then m_time m_timeThen m_isThere m_comes) X hH 6 rfl hin rfl dX9_lay_157 (fun H locs hH => ?_)
  refine lv_aload_n (pc := 158) hx hb dX9_lay_158 rfl (lv_at hl 1 rfl) ?_
  refine z_get (pc := 159) (v := .ref (mq 6)) X iX9_lay_X9 hH 0 rfl rfl 6 rfl (List.mem_of_getElem? (i := 2) rfl) rfl dX9_lay_159 ?_
  refine lv_iload (pc := 162) hx hb dX9_lay_162 (lv_at hl 0 rfl) ?_
  refine lv_iconst (v := 4) (pc := 164) hx hb dX9_lay_164 zk_c4 ?_
  refine lv_iadd (pc := 165) hx hb dX9_lay_165 ?_
  refine lv_iload (pc := 166) hx hb dX9_lay_166 (lv_at hl 6 rfl) ?_
  obtain ⟨hin, h⟩ := zg h
  refine z_iast (pc := 168) (ws' := wM cy mq m_hosts m_lost m_late m_wait m_per m_blocks (upd (upd (upd (upd (upd zr1.2 (za2).toNatClampNeg x1) ((za2 + 1)).toNatClampNeg x2) ((za2 + 2)).toNatClampNeg x3) ((za2 + 3)).toNatClampNeg x4) ((za2 + 4)).toNatClampNeg x5) m_many m_made m_madeMany m_lacking m_thrown m_now m_ahead m_then m_time m_timeThen m_isThere m_comes) X hH 6 rfl hin rfl dX9_lay_168 (fun H locs hH => ?_)
  refine lv_aload_n (pc := 169) hx hb dX9_lay_169 rfl (lv_at hl 1 rfl) ?_
  refine z_get (pc := 170) (v := .ref (mq 6)) X iX9_lay_X9 hH 0 rfl rfl 6 rfl (List.mem_of_getElem? (i := 2) rfl) rfl dX9_lay_170 ?_
  refine lv_iload (pc := 173) hx hb dX9_lay_173 (lv_at hl 0 rfl) ?_
  refine lv_iconst (v := 5) (pc := 175) hx hb dX9_lay_175 zk_c5 ?_
  refine lv_iadd (pc := 176) hx hb dX9_lay_176 ?_
  refine lv_iload (pc := 177) hx hb dX9_lay_177 (lv_at hl 7 rfl) ?_
  obtain ⟨hin, h⟩ := zg h
  refine z_iast (pc := 179) (ws' := wM cy mq m_hosts m_lost m_late m_wait m_per m_blocks (upd (upd (upd (upd (upd (upd zr1.2 (za2).toNatClampNeg x1) ((za2 + 1)).toNatClampNeg x2) ((za2 + 2)).toNatClampNeg x3) ((za2 + 3)).toNatClampNeg x4) ((za2 + 4)).toNatClampNeg x5) ((za2 + 5)).toNatClampNeg x6) m_many m_made m_madeMany m_lacking m_thrown m_now m_ahead m_then m_time m_timeThen m_isThere m_comes) X hH 6 rfl hin rfl dX9_lay_179 (fun H locs hH => ?_)
  refine lv_aload_n (pc := 180) hx hb dX9_lay_180 rfl (lv_at hl 1 rfl) ?_
  refine lv_dup (pc := 181) hx hb dX9_lay_181 rfl ?_
  refine z_get (pc := 182) (v := .int m_many) X iX9_lay_X9 hH 0 rfl rfl 7 rfl (List.mem_of_getElem? (i := 1) rfl) rfl dX9_lay_182 ?_
  refine lv_iconst (v := 1) (pc := 185) hx hb dX9_lay_185 zk_c1 ?_
  refine lv_iadd (pc := 186) hx hb dX9_lay_186 ?_
  refine lv_topi (fun za3 eza3 => ?_)
  have h := vn_s h za3 eza3
  refine z_put (pc := 187) (v := .int za3) (ws' := wM cy mq m_hosts m_lost m_late m_wait m_per m_blocks (upd (upd (upd (upd (upd (upd zr1.2 (za2).toNatClampNeg x1) ((za2 + 1)).toNatClampNeg x2) ((za2 + 2)).toNatClampNeg x3) ((za2 + 3)).toNatClampNeg x4) ((za2 + 4)).toNatClampNeg x5) ((za2 + 5)).toNatClampNeg x6) za3 m_made m_madeMany m_lacking m_thrown m_now m_ahead m_then m_time m_timeThen m_isThere m_comes) X iX9_lay_X9 tyX9 tyX9_ok nmX9 hH 0 rfl rfl 7 rfl (List.mem_of_getElem? (i := 1) rfl) rfl rfl rfl rfl rfl dX9_lay_187 (fun H locs hH => ?_)
  obtain rfl := Option.some.inj h
  exact z_vret X hr hH dX9_lay_190
set_option maxHeartbeats 4000000 in
set_option maxRecDepth 100000 in
theorem w_X9_build_l30 {p : Program} {l : Launch} {e : Env} {s : State} {m : MethodId} {args : Array Value} {below : List Frame} {meth : Method} {c : Code} {A : Nat → Prop} {Q : State → Prop} (G : va_G) (cy : Nat → ClassId) (fu : Nat) (mq : Nat → Nat) (m_hosts : Int32) (m_lost : Nat → Int32) (m_late : Nat → Int32) (m_wait : Nat → Int32) (m_per : Nat → Int32) (m_blocks : Nat → Int32) (m_made : Nat → Int32) (m_madeMany : Int32) (m_lacking : Int32) (m_thrown : Int32) (m_now : Nat → Int32) (m_ahead : Nat → Int32) (m_then : Nat → Int32) (m_time : Nat → Int32) (m_timeThen : Nat → Int32) (m_isThere : Nat → Int32) (m_comes : Nat → Int32) (X : zX p s m args meth c RX9 cX9_build 6 wsX9_build G cy A) : ∀ (n : Nat) (x5 : Int32) (m_sends : Nat → Int32) (m_many : Int32) (rr : (Nat → Int32) × Int32) (h : lp (f_X9_build_l30 fu m_made m_madeMany) n (x5, m_sends, m_many) = some rr) (H : Heap) (locs : List Loc) (ls : Array Slot) (hH : zH G A s.heap (wM cy mq m_hosts m_lost m_late m_wait m_per m_blocks m_sends m_many m_made m_madeMany m_lacking m_thrown m_now m_ahead m_then m_time m_timeThen m_isThere m_comes) H locs) (hl : lv_has ls 6 [(0, .ref (mq 0)), (5, .int x5)]) (K0 : ∀ (H : Heap) (locs : List Loc) (ls : Array Slot), zH G A s.heap (wM cy mq m_hosts m_lost m_late m_wait m_per m_blocks rr.1 rr.2 m_made m_madeMany m_lacking m_thrown m_now m_ahead m_then m_time m_timeThen m_isThere m_comes) H locs → lv_has ls 6 [(0, .ref (mq 0))] → W p l e (zR 5 131) s m args below meth c H locs 0 0 Q (F0 m 119 ls [])), W p l e (zR 5 131) s m args below meth c H locs 0 0 Q (F0 m 30 ls []) := by
  have hx := X.1.1
  have hb := X.1.2.1
  intro n
  induction n with
  | zero => intro x5 m_sends m_many rr h H locs ls hH hl K0; cases h
  | succ n ih =>
    intro x5 m_sends m_many rr h H locs ls hH hl K0
    replace h : f_X9_build_l30 fu m_made m_madeMany (lp (f_X9_build_l30 fu m_made m_madeMany) n) (x5, m_sends, m_many) = some rr := h
    dsimp only [f_X9_build_l30] at h
    refine lv_iload (pc := 30) hx hb dX9_build_30 (lv_at hl 1 rfl) ?_
    refine lv_aload_n (pc := 32) hx hb dX9_build_32 rfl (lv_at hl 0 rfl) ?_
    refine z_get (pc := 33) (v := .int m_madeMany) X iX9_build_X9 hH 0 rfl rfl 9 rfl (List.mem_of_getElem? (i := 3) rfl) rfl dX9_build_33 ?_
    refine lv_icmp_ge (pc := 36) (tgt := 119) hx hb dX9_build_36 rfl (fun zc1 => ?_) (fun zc1 => ?_)
    · have h := zt zc1 h
      obtain rfl := Option.some.inj h
      exact K0 _ _ _ hH (lv_sub hl [0] rfl)
    have h := zf zc1 h
    refine lv_aload_n (pc := 39) hx hb dX9_build_39 rfl (lv_at hl 0 rfl) ?_
    refine lv_aload_n (pc := 40) hx hb dX9_build_40 rfl (lv_at hl 0 rfl) ?_
    refine z_get (pc := 41) (v := .ref (mq 7)) X iX9_build_X9 hH 0 rfl rfl 8 rfl (List.mem_of_getElem? (i := 4) rfl) rfl dX9_build_41 ?_
    refine lv_bipush (v := 6) (pc := 44) hx hb dX9_build_44 zk_b6 ?_
    refine lv_iload (pc := 46) hx hb dX9_build_46 (lv_at hl 1 rfl) ?_
    refine lv_imul (pc := 48) hx hb dX9_build_48 ?_
    obtain ⟨hin, h⟩ := zg h
    refine z_iald (pc := 49) X hH 7 rfl hin dX9_build_49 ?_
    refine lv_aload_n (pc := 50) hx hb dX9_build_50 rfl (lv_at hl 0 rfl) ?_
    refine z_get (pc := 51) (v := .ref (mq 7)) X iX9_build_X9 hH 0 rfl rfl 8 rfl (List.mem_of_getElem? (i := 4) rfl) rfl dX9_build_51 ?_
    refine lv_bipush (v := 6) (pc := 54) hx hb dX9_build_54 zk_b6 ?_
    refine lv_iload (pc := 56) hx hb dX9_build_56 (lv_at hl 1 rfl) ?_
    refine lv_imul (pc := 58) hx hb dX9_build_58 ?_
    refine lv_iconst (v := 1) (pc := 59) hx hb dX9_build_59 zk_c1 ?_
    refine lv_iadd (pc := 60) hx hb dX9_build_60 ?_
    obtain ⟨hin, h⟩ := zg h
    refine z_iald (pc := 61) X hH 7 rfl hin dX9_build_61 ?_
    refine lv_aload_n (pc := 62) hx hb dX9_build_62 rfl (lv_at hl 0 rfl) ?_
    refine z_get (pc := 63) (v := .ref (mq 7)) X iX9_build_X9 hH 0 rfl rfl 8 rfl (List.mem_of_getElem? (i := 4) rfl) rfl dX9_build_63 ?_
    refine lv_bipush (v := 6) (pc := 66) hx hb dX9_build_66 zk_b6 ?_
    refine lv_iload (pc := 68) hx hb dX9_build_68 (lv_at hl 1 rfl) ?_
    refine lv_imul (pc := 70) hx hb dX9_build_70 ?_
    refine lv_iconst (v := 2) (pc := 71) hx hb dX9_build_71 zk_c2 ?_
    refine lv_iadd (pc := 72) hx hb dX9_build_72 ?_
    obtain ⟨hin, h⟩ := zg h
    refine z_iald (pc := 73) X hH 7 rfl hin dX9_build_73 ?_
    refine lv_aload_n (pc := 74) hx hb dX9_build_74 rfl (lv_at hl 0 rfl) ?_
    refine z_get (pc := 75) (v := .ref (mq 7)) X iX9_build_X9 hH 0 rfl rfl 8 rfl (List.mem_of_getElem? (i := 4) rfl) rfl dX9_build_75 ?_
    refine lv_bipush (v := 6) (pc := 78) hx hb dX9_build_78 zk_b6 ?_
    refine lv_iload (pc := 80) hx hb dX9_build_80 (lv_at hl 1 rfl) ?_
    refine lv_imul (pc := 82) hx hb dX9_build_82 ?_
    refine lv_iconst (v := 3) (pc := 83) hx hb dX9_build_83 zk_c3 ?_
    refine lv_iadd (pc := 84) hx hb dX9_build_84 ?_
    obtain ⟨hin, h⟩ := zg h
    refine z_iald (pc := 85) X hH 7 rfl hin dX9_build_85 ?_
    refine lv_aload_n (pc := 86) hx hb dX9_build_86 rfl (lv_at hl 0 rfl) ?_
    refine z_get (pc := 87) (v := .ref (mq 7)) X iX9_build_X9 hH 0 rfl rfl 8 rfl (List.mem_of_getElem? (i := 4) rfl) rfl dX9_build_87 ?_
    refine lv_bipush (v := 6) (pc := 90) hx hb dX9_build_90 zk_b6 ?_
    refine lv_iload (pc := 92) hx hb dX9_build_92 (lv_at hl 1 rfl) ?_
    refine lv_imul (pc := 94) hx hb dX9_build_94 ?_
    refine lv_iconst (v := 4) (pc := 95) hx hb dX9_build_95 zk_c4 ?_
    refine lv_iadd (pc := 96) hx hb dX9_build_96 ?_
    obtain ⟨hin, h⟩ := zg h
    refine z_iald (pc := 97) X hH 7 rfl hin dX9_build_97 ?_
    refine lv_aload_n (pc := 98) hx hb dX9_build_98 rfl (lv_at hl 0 rfl) ?_
    refine z_get (pc := 99) (v := .ref (mq 7)) X iX9_build_X9 hH 0 rfl rfl 8 rfl (List.mem_of_getElem? (i := 4) rfl) rfl dX9_build_99 ?_
    refine lv_bipush (v := 6) (pc := 102) hx hb dX9_build_102 zk_b6 ?_
    refine lv_iload (pc := 104) hx hb dX9_build_104 (lv_at hl 1 rfl) ?_
    refine lv_imul (pc := 106) hx hb dX9_build_106 ?_
    refine lv_iconst (v := 5) (pc := 107) hx hb dX9_build_107 zk_c5 ?_
    refine lv_iadd (pc := 108) hx hb dX9_build_108 ?_
    obtain ⟨hin, h⟩ := zg h
    refine z_iald (pc := 109) X hH 7 rfl hin dX9_build_109 ?_
    obtain ⟨zr2, hzr2, h⟩ := zb h
    refine zcV (pc := 110) (As := [.int (m_made ((6 * x5)).toNatClampNeg), .int (m_made (((6 * x5) + 1)).toNatClampNeg), .int (m_made (((6 * x5) + 2)).toNatClampNeg), .int (m_made (((6 * x5) + 3)).toNatClampNeg), .int (m_made (((6 * x5) + 4)).toNatClampNeg), .int (m_made (((6 * x5) + 5)).toNatClampNeg)]) (rest := []) (st1 := []) (ws' := wM cy mq m_hosts m_lost m_late m_wait m_per m_blocks zr2.1 zr2.2 m_made m_madeMany m_lacking m_thrown m_now m_ahead m_then m_time m_timeThen m_isThere m_comes) (wr := []) (n := 6) (q0 := 0) X (c_X9_lay l G cy fu mq m_hosts m_lost m_late m_wait m_per m_blocks m_sends m_many m_made m_madeMany m_lacking m_thrown m_now m_ahead m_then m_time m_timeThen m_isThere m_comes (m_made ((6 * x5)).toNatClampNeg) (m_made (((6 * x5) + 1)).toNatClampNeg) (m_made (((6 * x5) + 2)).toNatClampNeg) (m_made (((6 * x5) + 3)).toNatClampNeg) (m_made (((6 * x5) + 4)).toNatClampNeg) (m_made (((6 * x5) + 5)).toNatClampNeg) zr2 hzr2) hH [0, 1, 2, 3, 4, 5, 6, 7, 8, 9, 10, 11, 12, 13, 14] [] [0, 1, 2, 3, 4, 5, 6, 7, 8, 9, 10, 11, 12, 13, 14] rfl rfl rfl rfl gX9_build_X9_lay rfl ⟨rfl, rfl⟩ kX9_lay ⟨Nat.le_of_ble_eq_true rfl, Nat.le_of_ble_eq_true rfl⟩ rfl rfl rfl rfl rfl hl.1 (Nat.le_of_ble_eq_true rfl) ⟨Nat.le_of_ble_eq_true rfl, Nat.le_of_ble_eq_true rfl⟩ dX9_build_110 (fun H locs hH => ?_)
    refine lv_iinc (pc := 113) (v := (x5 + 1)) (lv' := [(5, .int (x5 + 1)), (0, .ref (mq 0))]) hx hb dX9_build_113 hl (k := 1) rfl (by rw [zk_c1]) (by decide) rfl (fun ls hl => ?_)
    refine lv_goto (pc := 116) (tgt := 30) hx hb dX9_build_116 rfl ?_
    exact ih (x5 + 1) zr2.1 zr2.2 rr h _ _ _ hH (lv_sub hl [1, 0] rfl) K0
set_option maxHeartbeats 4000000 in
set_option maxRecDepth 100000 in
theorem c_X9_build (l : Launch) (G : va_G) (cy : Nat → ClassId) (fu : Nat) (mq : Nat → Nat) (m_hosts : Int32) (m_lost : Nat → Int32) (m_late : Nat → Int32) (m_wait : Nat → Int32) (m_per : Nat → Int32) (m_blocks : Nat → Int32) (m_sends : Nat → Int32) (m_many : Int32) (m_made : Nat → Int32) (m_madeMany : Int32) (m_lacking : Int32) (m_thrown : Int32) (m_now : Nat → Int32) (m_ahead : Nat → Int32) (m_then : Nat → Int32) (m_time : Nat → Int32) (m_timeThen : Nat → Int32) (m_isThere : Nat → Int32) (m_comes : Nat → Int32) (x1 : Int32) (x2 : Int32) (x3 : Int32) (rr : Int32 × (Nat → Int32) × Int32 × (Nat → Int32) × Int32 × Int32 × Int32) (h : f_X9_build fu m_hosts m_lost m_wait m_sends m_many m_made m_madeMany m_lacking x1 x2 x3 = some rr) : zM l G cy yX9_build wsX9_build (zR 5 131) [.ref (mq 0), .int x1, .int x2, .int x3] (wM cy mq m_hosts m_lost m_late m_wait m_per m_blocks m_sends m_many m_made m_madeMany m_lacking m_thrown m_now m_ahead m_then m_time m_timeThen m_isThere m_comes) (wM cy mq m_hosts m_lost m_late m_wait m_per m_blocks rr.2.1 rr.2.2.1 rr.2.2.2.1 rr.2.2.2.2.1 rr.2.2.2.2.2.1 rr.2.2.2.2.2.2 m_now m_ahead m_then m_time m_timeThen m_isThere m_comes) (some (.int rr.1)) := by
  refine zM.mk (cc := cX9_build) (nL := 6) (ret := (some .int)) (by decide) rfl (Nat.le_of_ble_eq_true rfl) ?_
  intro p e s m below meth c A ls X hr hH hl
  replace X : zX p s m [.ref (mq 0), .int x1, .int x2, .int x3].toArray meth c RX9 cX9_build 6 wsX9_build G cy A := X
  have hx := X.1.1
  have hb := X.1.2.1
  replace hl : lv_has ls 6 [(0, .ref (mq 0)), (1, .int x1), (2, .int x2), (3, .int x3)] := hl
  dsimp only [f_X9_build] at h
  refine lv_aload_n (pc := 0) hx hb dX9_build_0 rfl (lv_at hl 0 rfl) ?_
  refine lv_iconst (v := 0) (pc := 1) hx hb dX9_build_1 zk_c0 ?_
  refine z_put (pc := 2) (v := .int 0) (ws' := wM cy mq m_hosts m_lost m_late m_wait m_per m_blocks m_sends m_many m_made m_madeMany m_lacking 0 m_now m_ahead m_then m_time m_timeThen m_isThere m_comes) X iX9_build_X9 tyX9 tyX9_ok nmX9 hH 0 rfl rfl 11 rfl (List.mem_of_getElem? (i := 1) rfl) rfl rfl rfl rfl rfl dX9_build_2 (fun H locs hH => ?_)
  refine lv_aload_n (pc := 5) hx hb dX9_build_5 rfl (lv_at hl 0 rfl) ?_
  refine lv_iload_n (pc := 6) hx hb dX9_build_6 rfl (lv_at hl 1 rfl) ?_
  refine lv_iload_n (pc := 7) hx hb dX9_build_7 rfl (lv_at hl 2 rfl) ?_
  refine lv_iload_n (pc := 8) hx hb dX9_build_8 rfl (lv_at hl 3 rfl) ?_
  obtain ⟨zr1, hzr1, h⟩ := zb h
  refine zcV (pc := 9) (As := [.int x1, .int x2, .int x3]) (rest := []) (st1 := [.int zr1.1]) (ws' := wM cy mq m_hosts m_lost m_late m_wait m_per m_blocks m_sends m_many zr1.2.1 zr1.2.2.1 zr1.2.2.2 0 m_now m_ahead m_then m_time m_timeThen m_isThere m_comes) (wr := []) (n := 3) (q0 := 0) X (c_X9_make l G cy fu mq m_hosts m_lost m_late m_wait m_per m_blocks m_sends m_many m_made m_madeMany m_lacking 0 m_now m_ahead m_then m_time m_timeThen m_isThere m_comes x1 x2 x3 zr1 hzr1) hH [0, 1, 2, 3, 4, 5, 6, 7, 8, 9, 10, 11, 12, 13, 14] [] [0, 1, 2, 3, 4, 5, 6, 7, 8, 9, 10, 11, 12, 13, 14] rfl rfl rfl rfl gX9_build_X9_make rfl ⟨rfl, rfl⟩ kX9_make ⟨Nat.le_of_ble_eq_true rfl, Nat.le_of_ble_eq_true rfl⟩ rfl rfl rfl rfl rfl hl.1 (Nat.le_of_ble_eq_true rfl) ⟨Nat.le_of_ble_eq_true rfl, Nat.le_of_ble_eq_true rfl⟩ dX9_build_9 (fun H locs hH => ?_)
  refine lv_istore (pc := 12) (lv' := [(4, .int zr1.1), (0, .ref (mq 0)), (1, .int x1), (2, .int x2), (3, .int x3)]) hx hb dX9_build_12 hl (by decide) rfl (fun ls hl => ?_)
  refine lv_iload (pc := 14) hx hb dX9_build_14 (lv_at hl 0 rfl) ?_
  refine lv_if_ge (pc := 16) (tgt := 22) hx hb dX9_build_16 rfl (fun zc2 => ?_) (fun zc2 => ?_)
  · have h := zt zc2 h
    refine lv_aload_n (pc := 22) hx hb dX9_build_22 rfl (lv_at hl 1 rfl) ?_
    refine lv_iconst (v := 0) (pc := 23) hx hb dX9_build_23 zk_c0 ?_
    refine z_put (pc := 24) (v := .int 0) (ws' := wM cy mq m_hosts m_lost m_late m_wait m_per m_blocks m_sends 0 zr1.2.1 zr1.2.2.1 zr1.2.2.2 0 m_now m_ahead m_then m_time m_timeThen m_isThere m_comes) X iX9_build_X9 tyX9 tyX9_ok nmX9 hH 0 rfl rfl 7 rfl (List.mem_of_getElem? (i := 2) rfl) rfl rfl rfl rfl rfl dX9_build_24 (fun H locs hH => ?_)
    refine lv_iconst (v := 0) (pc := 27) hx hb dX9_build_27 zk_c0 ?_
    refine lv_istore (pc := 28) (lv' := [(5, .int 0), (4, .int zr1.1), (0, .ref (mq 0)), (1, .int x1), (2, .int x2), (3, .int x3)]) hx hb dX9_build_28 hl (by decide) rfl (fun ls hl => ?_)
    obtain ⟨zr3, hzr3, h⟩ := zb h
    refine w_X9_build_l30 G cy fu mq m_hosts m_lost m_late m_wait m_per m_blocks zr1.2.1 zr1.2.2.1 zr1.2.2.2 0 m_now m_ahead m_then m_time m_timeThen m_isThere m_comes X fu 0 m_sends 0 zr3 hzr3 _ _ _ hH (lv_sub hl [2, 0] rfl) (fun H locs ls hH hl => ?_)
    refine lv_aload_n (pc := 119) hx hb dX9_build_119 rfl (lv_at hl 0 rfl) ?_
    refine z_get (pc := 120) (v := .ref (mq 6)) X iX9_build_X9 hH 0 rfl rfl 6 rfl (List.mem_of_getElem? (i := 5) rfl) rfl dX9_build_120 ?_
    refine lv_aload_n (pc := 123) hx hb dX9_build_123 rfl (lv_at hl 0 rfl) ?_
    refine z_get (pc := 124) (v := .int zr3.2) X iX9_build_X9 hH 0 rfl rfl 7 rfl (List.mem_of_getElem? (i := 2) rfl) rfl dX9_build_124 ?_
    obtain ⟨zr4, hzr4, h⟩ := zb h
    refine zcS (pc := 127) (As := [.ref (mq 6), .int zr3.2]) (rest := []) (st1 := [.int zr4]) (ws' := wM cy mq m_hosts m_lost m_late m_wait m_per m_blocks zr3.1 zr3.2 zr1.2.1 zr1.2.2.1 zr1.2.2.2 0 m_now m_ahead m_then m_time m_timeThen m_isThere m_comes) (wr := [((mq 0), .inr (8, [.int m_hosts, .ref (mq 1), .ref (mq 2), .ref (mq 3), .ref (mq 4), .ref (mq 5), .ref (mq 6), .int zr3.2, .ref (mq 7), .int zr1.2.2.1, .int zr1.2.2.2, .int 0, .ref (mq 8), .ref (mq 9), .ref (mq 10), .ref (mq 11), .ref (mq 12), .ref (mq 13), .ref (mq 14)])), ((mq 1), .inl (cy 2, 16, .inl m_lost)), ((mq 2), .inl (cy 0, 16, .inl m_late)), ((mq 3), .inl (cy 0, 256, .inl m_wait)), ((mq 4), .inl (cy 0, 256, .inl m_per)), ((mq 5), .inl (cy 0, 256, .inl m_blocks)), ((mq 7), .inl (cy 0, 7200, .inl zr1.2.1)), ((mq 8), .inl (cy 3, 65536, .inl m_now)), ((mq 9), .inl (cy 3, 65536, .inl m_ahead)), ((mq 10), .inl (cy 0, 256, .inl m_then)), ((mq 11), .inl (cy 0, 16, .inl m_time)), ((mq 12), .inl (cy 0, 16, .inl m_timeThen)), ((mq 13), .inl (cy 2, 256, .inl m_isThere)), ((mq 14), .inl (cy 2, 256, .inl m_comes))]) (n := 2) X (c_X9_stepsOf l G cy fu (mq 6) zr3.1 zr3.2 zr4 hzr4) hH [6] [0, 1, 2, 3, 4, 5, 7, 8, 9, 10, 11, 12, 13, 14] [0, 1, 2, 3, 4, 5, 14, 6, 7, 8, 9, 10, 11, 12, 13] rfl rfl rfl rfl gX9_build_X9_stepsOf rfl ⟨rfl, rfl⟩ kX9_stepsOf ⟨Nat.le_of_ble_eq_true rfl, Nat.le_of_ble_eq_true rfl⟩ rfl rfl rfl hl.1 (Nat.le_of_ble_eq_true rfl) ⟨Nat.le_of_ble_eq_true rfl, Nat.le_of_ble_eq_true rfl⟩ dX9_build_127 (fun H locs hH => ?_)
    obtain rfl := Option.some.inj h
    exact z_iret X hr hH dX9_build_130
  have h := zf zc2 h
  refine lv_iload (pc := 19) hx hb dX9_build_19 (lv_at hl 0 rfl) ?_
  obtain rfl := Option.some.inj h
  exact z_iret X hr hH dX9_build_21
set_option maxHeartbeats 4000000 in
set_option maxRecDepth 100000 in
theorem c_X9_clear (l : Launch) (G : va_G) (cy : Nat → ClassId) (fu : Nat) (mq : Nat → Nat) (m_hosts : Int32) (m_lost : Nat → Int32) (m_late : Nat → Int32) (m_wait : Nat → Int32) (m_per : Nat → Int32) (m_blocks : Nat → Int32) (m_sends : Nat → Int32) (m_many : Int32) (m_made : Nat → Int32) (m_madeMany : Int32) (m_lacking : Int32) (m_thrown : Int32) (m_now : Nat → Int32) (m_ahead : Nat → Int32) (m_then : Nat → Int32) (m_time : Nat → Int32) (m_timeThen : Nat → Int32) (m_isThere : Nat → Int32) (m_comes : Nat → Int32)  (rr : Int32 × Int32 × Int32) (h : f_X9_clear fu m_many = some rr) : zM l G cy yX9_clear wsX9_clear (zR 0 0) [.ref (mq 0)] (wM cy mq m_hosts m_lost m_late m_wait m_per m_blocks m_sends m_many m_made m_madeMany m_lacking m_thrown m_now m_ahead m_then m_time m_timeThen m_isThere m_comes) (wM cy mq m_hosts m_lost m_late m_wait m_per m_blocks m_sends rr.2.1 m_made m_madeMany m_lacking rr.2.2 m_now m_ahead m_then m_time m_timeThen m_isThere m_comes) (some (.int rr.1)) := by
  refine zM.mk (cc := cX9_clear) (nL := 2) (ret := (some .int)) (by decide) rfl (Nat.le_of_ble_eq_true rfl) ?_
  intro p e s m below meth c A ls X hr hH hl
  replace X : zX p s m [.ref (mq 0)].toArray meth c RX9 cX9_clear 2 wsX9_clear G cy A := X
  have hx := X.1.1
  have hb := X.1.2.1
  replace hl : lv_has ls 2 [(0, .ref (mq 0))] := hl
  dsimp only [f_X9_clear] at h
  refine lv_aload_n (pc := 0) hx hb dX9_clear_0 rfl (lv_at hl 0 rfl) ?_
  refine lv_iconst (v := 0) (pc := 1) hx hb dX9_clear_1 zk_c0 ?_
  refine z_put (pc := 2) (v := .int 0) (ws' := wM cy mq m_hosts m_lost m_late m_wait m_per m_blocks m_sends m_many m_made m_madeMany m_lacking 0 m_now m_ahead m_then m_time m_timeThen m_isThere m_comes) X iX9_clear_X9 tyX9 tyX9_ok nmX9 hH 0 rfl rfl 11 rfl (List.mem_of_getElem? (i := 1) rfl) rfl rfl rfl rfl rfl dX9_clear_2 (fun H locs hH => ?_)
  refine lv_aload_n (pc := 5) hx hb dX9_clear_5 rfl (lv_at hl 0 rfl) ?_
  refine z_get (pc := 6) (v := .int m_many) X iX9_clear_X9 hH 0 rfl rfl 7 rfl (List.mem_of_getElem? (i := 2) rfl) rfl dX9_clear_6 ?_
  refine lv_istore_n (pc := 9) (lv' := [(1, .int m_many), (0, .ref (mq 0))]) hx hb dX9_clear_9 rfl hl (by decide) rfl (fun ls hl => ?_)
  refine lv_aload_n (pc := 10) hx hb dX9_clear_10 rfl (lv_at hl 1 rfl) ?_
  refine lv_iconst (v := 0) (pc := 11) hx hb dX9_clear_11 zk_c0 ?_
  refine z_put (pc := 12) (v := .int 0) (ws' := wM cy mq m_hosts m_lost m_late m_wait m_per m_blocks m_sends 0 m_made m_madeMany m_lacking 0 m_now m_ahead m_then m_time m_timeThen m_isThere m_comes) X iX9_clear_X9 tyX9 tyX9_ok nmX9 hH 0 rfl rfl 7 rfl (List.mem_of_getElem? (i := 2) rfl) rfl rfl rfl rfl rfl dX9_clear_12 (fun H locs hH => ?_)
  refine lv_iload_n (pc := 15) hx hb dX9_clear_15 rfl (lv_at hl 0 rfl) ?_
  obtain rfl := Option.some.inj h
  exact z_iret X hr hH dX9_clear_16
set_option maxHeartbeats 4000000 in
set_option maxRecDepth 100000 in
theorem w_X9_send_l82 {p : Program} {l : Launch} {e : Env} {s : State} {m : MethodId} {args : Array Value} {below : List Frame} {meth : Method} {c : Code} {A : Nat → Prop} {Q : State → Prop} (G : va_G) (cy : Nat → ClassId) (fu : Nat) (mq : Nat → Nat) (m_hosts : Int32) (m_lost : Nat → Int32) (m_late : Nat → Int32) (m_wait : Nat → Int32) (m_per : Nat → Int32) (m_blocks : Nat → Int32) (m_sends : Nat → Int32) (m_many : Int32) (m_made : Nat → Int32) (m_madeMany : Int32) (m_lacking : Int32) (m_thrown : Int32) (m_now : Nat → Int32) (m_ahead : Nat → Int32) (m_then : Nat → Int32) (m_time : Nat → Int32) (m_timeThen : Nat → Int32) (m_isThere : Nat → Int32) (m_comes : Nat → Int32) (x1 : Int32) (x2 : Int32) (x3 : Int32) (x4 : Int32) (x5 : Int32) (x6 : Int32) (X : zX p s m args meth c RX9 cX9_send 10 wsX9_send G cy A) : ∀ (n : Nat) (x7 : Int32) (rr : (Unit) ⊕ (Unit)) (h : lp (f_X9_send_l82 fu m_sends m_many x1 x2 x3 x5) n x7 = some rr) (H : Heap) (locs : List Loc) (ls : Array Slot) (hH : zH G A s.heap (wM cy mq m_hosts m_lost m_late m_wait m_per m_blocks m_sends m_many m_made m_madeMany m_lacking m_thrown m_now m_ahead m_then m_time m_timeThen m_isThere m_comes) H locs) (hl : lv_has ls 10 [(0, .ref (mq 0)), (1, .int x1), (2, .int x2), (3, .int x3), (4, .int x4), (5, .int x5), (6, .int x6), (7, .int x7)]) (K0 : ∀ (ra : Unit), rr = (.inl ra) → ∀ (H : Heap) (locs : List Loc) (ls : Array Slot), zH G A s.heap (wM cy mq m_hosts m_lost m_late m_wait m_per m_blocks m_sends m_many m_made m_madeMany m_lacking m_thrown m_now m_ahead m_then m_time m_timeThen m_isThere m_comes) H locs → lv_has ls 10 [] → W p l e (zR 3 64) s m args below meth c H locs 0 0 Q (F0 m 183 ls [])) (K1 : ∀ (ra : Unit), rr = (.inr ra) → ∀ (H : Heap) (locs : List Loc) (ls : Array Slot), zH G A s.heap (wM cy mq m_hosts m_lost m_late m_wait m_per m_blocks m_sends m_many m_made m_madeMany m_lacking m_thrown m_now m_ahead m_then m_time m_timeThen m_isThere m_comes) H locs → lv_has ls 10 [(0, .ref (mq 0)), (1, .int x1), (2, .int x2), (3, .int x3), (4, .int x4), (5, .int x5), (6, .int x6)] → W p l e (zR 3 64) s m args below meth c H locs 0 0 Q (F0 m 191 ls [])), W p l e (zR 3 64) s m args below meth c H locs 0 0 Q (F0 m 82 ls []) := by
  have hx := X.1.1
  have hb := X.1.2.1
  intro n
  induction n with
  | zero => intro x7 rr h H locs ls hH hl K0 K1; cases h
  | succ n ih =>
    intro x7 rr h H locs ls hH hl K0 K1
    replace h : f_X9_send_l82 fu m_sends m_many x1 x2 x3 x5 (lp (f_X9_send_l82 fu m_sends m_many x1 x2 x3 x5) n) x7 = some rr := h
    dsimp only [f_X9_send_l82] at h
    refine lv_iload (pc := 82) hx hb dX9_send_82 (lv_at hl 7 rfl) ?_
    refine lv_aload_n (pc := 84) hx hb dX9_send_84 rfl (lv_at hl 0 rfl) ?_
    refine z_get (pc := 85) (v := .int m_many) X iX9_send_X9 hH 0 rfl rfl 7 rfl (List.mem_of_getElem? (i := 2) rfl) rfl dX9_send_85 ?_
    refine lv_icmp_ge (pc := 88) (tgt := 191) hx hb dX9_send_88 rfl (fun zc1 => ?_) (fun zc1 => ?_)
    · have h := zt zc1 h
      exact K1 () (Option.some.inj h).symm _ _ _ hH (lv_sub hl [0, 1, 2, 3, 4, 5, 6] rfl)
    have h := zf zc1 h
    refine lv_aload_n (pc := 91) hx hb dX9_send_91 rfl (lv_at hl 0 rfl) ?_
    refine z_get (pc := 92) (v := .ref (mq 6)) X iX9_send_X9 hH 0 rfl rfl 6 rfl (List.mem_of_getElem? (i := 3) rfl) rfl dX9_send_92 ?_
    refine lv_bipush (v := 6) (pc := 95) hx hb dX9_send_95 zk_b6 ?_
    refine lv_iload (pc := 97) hx hb dX9_send_97 (lv_at hl 7 rfl) ?_
    refine lv_imul (pc := 99) hx hb dX9_send_99 ?_
    obtain ⟨hin, h⟩ := zg h
    refine z_iald (pc := 100) X hH 6 rfl hin dX9_send_100 ?_
    refine lv_iload_n (pc := 101) hx hb dX9_send_101 rfl (lv_at hl 1 rfl) ?_
    refine lv_icmp_eq (pc := 102) (tgt := 108) hx hb dX9_send_102 rfl (fun zc2 => ?_) (fun zc2 => ?_)
    · have h := zt zc2 h
      refine lv_aload_n (pc := 108) hx hb dX9_send_108 rfl (lv_at hl 0 rfl) ?_
      refine z_get (pc := 109) (v := .ref (mq 6)) X iX9_send_X9 hH 0 rfl rfl 6 rfl (List.mem_of_getElem? (i := 3) rfl) rfl dX9_send_109 ?_
      refine lv_bipush (v := 6) (pc := 112) hx hb dX9_send_112 zk_b6 ?_
      refine lv_iload (pc := 114) hx hb dX9_send_114 (lv_at hl 7 rfl) ?_
      refine lv_imul (pc := 116) hx hb dX9_send_116 ?_
      refine lv_iconst (v := 1) (pc := 117) hx hb dX9_send_117 zk_c1 ?_
      refine lv_iadd (pc := 118) hx hb dX9_send_118 ?_
      obtain ⟨hin, h⟩ := zg h
      refine z_iald (pc := 119) X hH 6 rfl hin dX9_send_119 ?_
      refine lv_iload_n (pc := 120) hx hb dX9_send_120 rfl (lv_at hl 2 rfl) ?_
      refine lv_icmp_ne (pc := 121) (tgt := 128) hx hb dX9_send_121 rfl (fun zc3 => ?_) (fun zc3 => ?_)
      · have h := zf zc3 h
        refine lv_iconst (v := 0) (pc := 128) hx hb dX9_send_128 zk_c0 ?_
        refine lv_istore (pc := 129) (lv' := [(8, .int 0), (0, .ref (mq 0)), (1, .int x1), (2, .int x2), (3, .int x3), (4, .int x4), (5, .int x5), (6, .int x6), (7, .int x7)]) hx hb dX9_send_129 hl (by decide) rfl (fun ls hl => ?_)
        refine lv_aload_n (pc := 131) hx hb dX9_send_131 rfl (lv_at hl 1 rfl) ?_
        refine z_get (pc := 132) (v := .ref (mq 6)) X iX9_send_X9 hH 0 rfl rfl 6 rfl (List.mem_of_getElem? (i := 3) rfl) rfl dX9_send_132 ?_
        refine lv_bipush (v := 6) (pc := 135) hx hb dX9_send_135 zk_b6 ?_
        refine lv_iload (pc := 137) hx hb dX9_send_137 (lv_at hl 8 rfl) ?_
        refine lv_imul (pc := 139) hx hb dX9_send_139 ?_
        refine lv_iconst (v := 2) (pc := 140) hx hb dX9_send_140 zk_c2 ?_
        refine lv_iadd (pc := 141) hx hb dX9_send_141 ?_
        obtain ⟨hin, h⟩ := zg h
        refine z_iald (pc := 142) X hH 6 rfl hin dX9_send_142 ?_
        refine lv_iload_n (pc := 143) hx hb dX9_send_143 rfl (lv_at hl 4 rfl) ?_
        refine lv_icmp_ne (pc := 144) (tgt := 151) hx hb dX9_send_144 rfl (fun zc4 => ?_) (fun zc4 => ?_)
        · have h := zf zc4 h
          refine lv_iconst (v := 0) (pc := 151) hx hb dX9_send_151 zk_c0 ?_
          refine lv_istore (pc := 152) (lv' := [(9, .int 0), (8, .int 0), (0, .ref (mq 0)), (1, .int x1), (2, .int x2), (3, .int x3), (4, .int x4), (5, .int x5), (6, .int x6), (7, .int x7)]) hx hb dX9_send_152 hl (by decide) rfl (fun ls hl => ?_)
          refine lv_iload (pc := 154) hx hb dX9_send_154 (lv_at hl 1 rfl) ?_
          refine lv_iload (pc := 156) hx hb dX9_send_156 (lv_at hl 0 rfl) ?_
          refine lv_icmp_ne (pc := 158) (tgt := 183) hx hb dX9_send_158 rfl (fun zc5 => ?_) (fun zc5 => ?_)
          · exact absurd (by decide) zc5
          refine lv_iload (pc := 161) hx hb dX9_send_161 (lv_at hl 0 rfl) ?_
          refine lv_if_eq (pc := 163) (tgt := 185) hx hb dX9_send_163 rfl (fun zc6 => ?_) (fun zc6 => ?_)
          · refine lv_iinc (pc := 185) (v := (x7 + 1)) (lv' := [(7, .int (x7 + 1)), (9, .int 0), (8, .int 0), (0, .ref (mq 0)), (1, .int x1), (2, .int x2), (3, .int x3), (4, .int x4), (5, .int x5), (6, .int x6)]) hx hb dX9_send_185 hl (k := 9) rfl (by rw [zk_c1]) (by decide) rfl (fun ls hl => ?_)
            refine lv_goto (pc := 188) (tgt := 82) hx hb dX9_send_188 rfl ?_
            exact ih (x7 + 1) rr h _ _ _ hH (lv_sub hl [3, 4, 5, 6, 7, 8, 9, 0] rfl) K0 K1
          exact absurd (by decide) zc6
        have h := zt zc4 h
        refine lv_iconst (v := 1) (pc := 147) hx hb dX9_send_147 zk_c1 ?_
        refine lv_goto (pc := 148) (tgt := 152) hx hb dX9_send_148 rfl ?_
        refine lv_istore (pc := 152) (lv' := [(9, .int 1), (8, .int 0), (0, .ref (mq 0)), (1, .int x1), (2, .int x2), (3, .int x3), (4, .int x4), (5, .int x5), (6, .int x6), (7, .int x7)]) hx hb dX9_send_152 hl (by decide) rfl (fun ls hl => ?_)
        refine lv_iload (pc := 154) hx hb dX9_send_154 (lv_at hl 1 rfl) ?_
        refine lv_iload (pc := 156) hx hb dX9_send_156 (lv_at hl 0 rfl) ?_
        refine lv_icmp_ne (pc := 158) (tgt := 183) hx hb dX9_send_158 rfl (fun zc7 => ?_) (fun zc7 => ?_)
        · exact K0 () (Option.some.inj h).symm _ _ _ hH (lv_sub hl [] rfl)
        exact absurd zc7 (by decide)
      have h := zt zc3 h
      refine lv_iconst (v := 1) (pc := 124) hx hb dX9_send_124 zk_c1 ?_
      refine lv_goto (pc := 125) (tgt := 129) hx hb dX9_send_125 rfl ?_
      refine lv_istore (pc := 129) (lv' := [(8, .int 1), (0, .ref (mq 0)), (1, .int x1), (2, .int x2), (3, .int x3), (4, .int x4), (5, .int x5), (6, .int x6), (7, .int x7)]) hx hb dX9_send_129 hl (by decide) rfl (fun ls hl => ?_)
      refine lv_aload_n (pc := 131) hx hb dX9_send_131 rfl (lv_at hl 1 rfl) ?_
      refine z_get (pc := 132) (v := .ref (mq 6)) X iX9_send_X9 hH 0 rfl rfl 6 rfl (List.mem_of_getElem? (i := 3) rfl) rfl dX9_send_132 ?_
      refine lv_bipush (v := 6) (pc := 135) hx hb dX9_send_135 zk_b6 ?_
      refine lv_iload (pc := 137) hx hb dX9_send_137 (lv_at hl 8 rfl) ?_
      refine lv_imul (pc := 139) hx hb dX9_send_139 ?_
      refine lv_iconst (v := 2) (pc := 140) hx hb dX9_send_140 zk_c2 ?_
      refine lv_iadd (pc := 141) hx hb dX9_send_141 ?_
      obtain ⟨hin, h⟩ := zg h
      refine z_iald (pc := 142) X hH 6 rfl hin dX9_send_142 ?_
      refine lv_iload_n (pc := 143) hx hb dX9_send_143 rfl (lv_at hl 4 rfl) ?_
      refine lv_icmp_ne (pc := 144) (tgt := 151) hx hb dX9_send_144 rfl (fun zc8 => ?_) (fun zc8 => ?_)
      · have h := zf zc8 h
        refine lv_iconst (v := 0) (pc := 151) hx hb dX9_send_151 zk_c0 ?_
        refine lv_istore (pc := 152) (lv' := [(9, .int 0), (8, .int 1), (0, .ref (mq 0)), (1, .int x1), (2, .int x2), (3, .int x3), (4, .int x4), (5, .int x5), (6, .int x6), (7, .int x7)]) hx hb dX9_send_152 hl (by decide) rfl (fun ls hl => ?_)
        refine lv_iload (pc := 154) hx hb dX9_send_154 (lv_at hl 1 rfl) ?_
        refine lv_iload (pc := 156) hx hb dX9_send_156 (lv_at hl 0 rfl) ?_
        refine lv_icmp_ne (pc := 158) (tgt := 183) hx hb dX9_send_158 rfl (fun zc9 => ?_) (fun zc9 => ?_)
        · exact K0 () (Option.some.inj h).symm _ _ _ hH (lv_sub hl [] rfl)
        exact absurd zc9 (by decide)
      have h := zt zc8 h
      refine lv_iconst (v := 1) (pc := 147) hx hb dX9_send_147 zk_c1 ?_
      refine lv_goto (pc := 148) (tgt := 152) hx hb dX9_send_148 rfl ?_
      refine lv_istore (pc := 152) (lv' := [(9, .int 1), (8, .int 1), (0, .ref (mq 0)), (1, .int x1), (2, .int x2), (3, .int x3), (4, .int x4), (5, .int x5), (6, .int x6), (7, .int x7)]) hx hb dX9_send_152 hl (by decide) rfl (fun ls hl => ?_)
      refine lv_iload (pc := 154) hx hb dX9_send_154 (lv_at hl 1 rfl) ?_
      refine lv_iload (pc := 156) hx hb dX9_send_156 (lv_at hl 0 rfl) ?_
      refine lv_icmp_ne (pc := 158) (tgt := 183) hx hb dX9_send_158 rfl (fun zc10 => ?_) (fun zc10 => ?_)
      · exact absurd (by decide) zc10
      refine lv_iload (pc := 161) hx hb dX9_send_161 (lv_at hl 0 rfl) ?_
      refine lv_if_eq (pc := 163) (tgt := 185) hx hb dX9_send_163 rfl (fun zc11 => ?_) (fun zc11 => ?_)
      · exact absurd zc11 (by decide)
      refine lv_aload_n (pc := 166) hx hb dX9_send_166 rfl (lv_at hl 2 rfl) ?_
      refine z_get (pc := 167) (v := .ref (mq 6)) X iX9_send_X9 hH 0 rfl rfl 6 rfl (List.mem_of_getElem? (i := 3) rfl) rfl dX9_send_167 ?_
      refine lv_bipush (v := 6) (pc := 170) hx hb dX9_send_170 zk_b6 ?_
      refine lv_iload (pc := 172) hx hb dX9_send_172 (lv_at hl 9 rfl) ?_
      refine lv_imul (pc := 174) hx hb dX9_send_174 ?_
      refine lv_iconst (v := 4) (pc := 175) hx hb dX9_send_175 zk_c4 ?_
      refine lv_iadd (pc := 176) hx hb dX9_send_176 ?_
      obtain ⟨hin, h⟩ := zg h
      refine z_iald (pc := 177) X hH 6 rfl hin dX9_send_177 ?_
      refine lv_iload (pc := 178) hx hb dX9_send_178 (lv_at hl 7 rfl) ?_
      refine lv_icmp_ne (pc := 180) (tgt := 185) hx hb dX9_send_180 rfl (fun zc12 => ?_) (fun zc12 => ?_)
      · have h := zf zc12 h
        refine lv_iinc (pc := 185) (v := (x7 + 1)) (lv' := [(7, .int (x7 + 1)), (9, .int 1), (8, .int 1), (0, .ref (mq 0)), (1, .int x1), (2, .int x2), (3, .int x3), (4, .int x4), (5, .int x5), (6, .int x6)]) hx hb dX9_send_185 hl (k := 9) rfl (by rw [zk_c1]) (by decide) rfl (fun ls hl => ?_)
        refine lv_goto (pc := 188) (tgt := 82) hx hb dX9_send_188 rfl ?_
        exact ih (x7 + 1) rr h _ _ _ hH (lv_sub hl [3, 4, 5, 6, 7, 8, 9, 0] rfl) K0 K1
      have h := zt zc12 h
      exact K0 () (Option.some.inj h).symm _ _ _ hH (lv_sub hl [] rfl)
    have h := zf zc2 h
    refine lv_goto (pc := 105) (tgt := 185) hx hb dX9_send_105 rfl ?_
    refine lv_iinc (pc := 185) (v := (x7 + 1)) (lv' := [(7, .int (x7 + 1)), (0, .ref (mq 0)), (1, .int x1), (2, .int x2), (3, .int x3), (4, .int x4), (5, .int x5), (6, .int x6)]) hx hb dX9_send_185 hl (k := 7) rfl (by rw [zk_c1]) (by decide) rfl (fun ls hl => ?_)
    refine lv_goto (pc := 188) (tgt := 82) hx hb dX9_send_188 rfl ?_
    exact ih (x7 + 1) rr h _ _ _ hH (lv_sub hl [1, 2, 3, 4, 5, 6, 7, 0] rfl) K0 K1
set_option maxHeartbeats 4000000 in
set_option maxRecDepth 100000 in
theorem c_X9_send (l : Launch) (G : va_G) (cy : Nat → ClassId) (fu : Nat) (mq : Nat → Nat) (m_hosts : Int32) (m_lost : Nat → Int32) (m_late : Nat → Int32) (m_wait : Nat → Int32) (m_per : Nat → Int32) (m_blocks : Nat → Int32) (m_sends : Nat → Int32) (m_many : Int32) (m_made : Nat → Int32) (m_madeMany : Int32) (m_lacking : Int32) (m_thrown : Int32) (m_now : Nat → Int32) (m_ahead : Nat → Int32) (m_then : Nat → Int32) (m_time : Nat → Int32) (m_timeThen : Nat → Int32) (m_isThere : Nat → Int32) (m_comes : Nat → Int32) (x1 : Int32) (x2 : Int32) (x3 : Int32) (x4 : Int32) (x5 : Int32) (x6 : Int32) (rr : Int32 × (Nat → Int32) × Int32 × Int32) (h : f_X9_send fu m_hosts m_lost m_wait m_sends m_many x1 x2 x3 x4 x5 x6 = some rr) : zM l G cy yX9_send wsX9_send (zR 3 64) [.ref (mq 0), .int x1, .int x2, .int x3, .int x4, .int x5, .int x6] (wM cy mq m_hosts m_lost m_late m_wait m_per m_blocks m_sends m_many m_made m_madeMany m_lacking m_thrown m_now m_ahead m_then m_time m_timeThen m_isThere m_comes) (wM cy mq m_hosts m_lost m_late m_wait m_per m_blocks rr.2.1 rr.2.2.1 m_made m_madeMany m_lacking rr.2.2.2 m_now m_ahead m_then m_time m_timeThen m_isThere m_comes) (some (.int rr.1)) := by
  refine zM.mk (cc := cX9_send) (nL := 10) (ret := (some .int)) (by decide) rfl (Nat.le_of_ble_eq_true rfl) ?_
  intro p e s m below meth c A ls X hr hH hl
  replace X : zX p s m [.ref (mq 0), .int x1, .int x2, .int x3, .int x4, .int x5, .int x6].toArray meth c RX9 cX9_send 10 wsX9_send G cy A := X
  have hx := X.1.1
  have hb := X.1.2.1
  replace hl : lv_has ls 10 [(0, .ref (mq 0)), (1, .int x1), (2, .int x2), (3, .int x3), (4, .int x4), (5, .int x5), (6, .int x6)] := hl
  dsimp only [f_X9_send] at h
  refine lv_aload_n (pc := 0) hx hb dX9_send_0 rfl (lv_at hl 0 rfl) ?_
  refine lv_iconst (v := 0) (pc := 1) hx hb dX9_send_1 zk_c0 ?_
  refine z_put (pc := 2) (v := .int 0) (ws' := wM cy mq m_hosts m_lost m_late m_wait m_per m_blocks m_sends m_many m_made m_madeMany m_lacking 0 m_now m_ahead m_then m_time m_timeThen m_isThere m_comes) X iX9_send_X9 tyX9 tyX9_ok nmX9 hH 0 rfl rfl 11 rfl (List.mem_of_getElem? (i := 1) rfl) rfl rfl rfl rfl rfl dX9_send_2 (fun H locs hH => ?_)
  refine lv_iload_n (pc := 5) hx hb dX9_send_5 rfl (lv_at hl 1 rfl) ?_
  refine lv_iconst (v := 0) (pc := 6) hx hb dX9_send_6 zk_c0 ?_
  refine lv_bipush (v := 63) (pc := 7) hx hb dX9_send_7 zk_b63 ?_
  obtain ⟨zr1, hzr1, h⟩ := zb h
  refine zcS (pc := 9) (As := [.int x1, .int 0, .int 63]) (rest := []) (st1 := [.int zr1]) (ws' := wM cy mq m_hosts m_lost m_late m_wait m_per m_blocks m_sends m_many m_made m_madeMany m_lacking 0 m_now m_ahead m_then m_time m_timeThen m_isThere m_comes) (wr := [((mq 0), .inr (8, [.int m_hosts, .ref (mq 1), .ref (mq 2), .ref (mq 3), .ref (mq 4), .ref (mq 5), .ref (mq 6), .int m_many, .ref (mq 7), .int m_madeMany, .int m_lacking, .int 0, .ref (mq 8), .ref (mq 9), .ref (mq 10), .ref (mq 11), .ref (mq 12), .ref (mq 13), .ref (mq 14)])), ((mq 1), .inl (cy 2, 16, .inl m_lost)), ((mq 2), .inl (cy 0, 16, .inl m_late)), ((mq 3), .inl (cy 0, 256, .inl m_wait)), ((mq 4), .inl (cy 0, 256, .inl m_per)), ((mq 5), .inl (cy 0, 256, .inl m_blocks)), ((mq 6), .inl (cy 0, 7200, .inl m_sends)), ((mq 7), .inl (cy 0, 7200, .inl m_made)), ((mq 8), .inl (cy 3, 65536, .inl m_now)), ((mq 9), .inl (cy 3, 65536, .inl m_ahead)), ((mq 10), .inl (cy 0, 256, .inl m_then)), ((mq 11), .inl (cy 0, 16, .inl m_time)), ((mq 12), .inl (cy 0, 16, .inl m_timeThen)), ((mq 13), .inl (cy 2, 256, .inl m_isThere)), ((mq 14), .inl (cy 2, 256, .inl m_comes))]) (n := 3) X (c_X9_in l G cy fu x1 0 63 zr1 hzr1) hH [] [0, 1, 2, 3, 4, 5, 6, 7, 8, 9, 10, 11, 12, 13, 14] [0, 1, 2, 3, 4, 5, 6, 7, 8, 9, 10, 11, 12, 13, 14] rfl rfl rfl rfl gX9_send_X9_in rfl ⟨rfl, rfl⟩ kX9_in ⟨Nat.le_of_ble_eq_true rfl, Nat.le_of_ble_eq_true rfl⟩ rfl rfl rfl hl.1 (Nat.le_of_ble_eq_true rfl) ⟨Nat.le_of_ble_eq_true rfl, Nat.le_of_ble_eq_true rfl⟩ dX9_send_9 (fun H locs hH => ?_)
  refine lv_if_eq (pc := 12) (tgt := 77) hx hb dX9_send_12 rfl (fun zc2 => ?_) (fun zc2 => ?_)
  · have h := zt zc2 h
    refine lv_iconst (v := (-1)) (pc := 77) hx hb dX9_send_77 zk_cm1 ?_
    obtain rfl := Option.some.inj h
    exact z_iret X hr hH dX9_send_78
  have h := zf zc2 h
  refine lv_aload_n (pc := 15) hx hb dX9_send_15 rfl (lv_at hl 0 rfl) ?_
  refine lv_iload_n (pc := 16) hx hb dX9_send_16 rfl (lv_at hl 2 rfl) ?_
  obtain ⟨zr3, hzr3, h⟩ := zb h
  refine zcV (pc := 17) (As := [.int x2]) (rest := []) (st1 := [.int zr3]) (ws' := wM cy mq m_hosts m_lost m_late m_wait m_per m_blocks m_sends m_many m_made m_madeMany m_lacking 0 m_now m_ahead m_then m_time m_timeThen m_isThere m_comes) (wr := []) (n := 1) (q0 := 0) X (c_X9_isLive l G cy fu mq m_hosts m_lost m_late m_wait m_per m_blocks m_sends m_many m_made m_madeMany m_lacking 0 m_now m_ahead m_then m_time m_timeThen m_isThere m_comes x2 zr3 hzr3) hH [0, 1, 2, 3, 4, 5, 6, 7, 8, 9, 10, 11, 12, 13, 14] [] [0, 1, 2, 3, 4, 5, 6, 7, 8, 9, 10, 11, 12, 13, 14] rfl rfl rfl rfl gX9_send_X9_isLive rfl ⟨rfl, rfl⟩ kX9_isLive ⟨Nat.le_of_ble_eq_true rfl, Nat.le_of_ble_eq_true rfl⟩ rfl rfl rfl rfl rfl hl.1 (Nat.le_of_ble_eq_true rfl) ⟨Nat.le_of_ble_eq_true rfl, Nat.le_of_ble_eq_true rfl⟩ dX9_send_17 (fun H locs hH => ?_)
  refine lv_if_eq (pc := 20) (tgt := 77) hx hb dX9_send_20 rfl (fun zc4 => ?_) (fun zc4 => ?_)
  · have h := zt zc4 h
    refine lv_iconst (v := (-1)) (pc := 77) hx hb dX9_send_77 zk_cm1 ?_
    obtain rfl := Option.some.inj h
    exact z_iret X hr hH dX9_send_78
  have h := zf zc4 h
  refine lv_aload_n (pc := 23) hx hb dX9_send_23 rfl (lv_at hl 0 rfl) ?_
  refine lv_iload_n (pc := 24) hx hb dX9_send_24 rfl (lv_at hl 3 rfl) ?_
  obtain ⟨zr5, hzr5, h⟩ := zb h
  refine zcV (pc := 25) (As := [.int x3]) (rest := []) (st1 := [.int zr5]) (ws' := wM cy mq m_hosts m_lost m_late m_wait m_per m_blocks m_sends m_many m_made m_madeMany m_lacking 0 m_now m_ahead m_then m_time m_timeThen m_isThere m_comes) (wr := []) (n := 1) (q0 := 0) X (c_X9_isLive l G cy fu mq m_hosts m_lost m_late m_wait m_per m_blocks m_sends m_many m_made m_madeMany m_lacking 0 m_now m_ahead m_then m_time m_timeThen m_isThere m_comes x3 zr5 hzr5) hH [0, 1, 2, 3, 4, 5, 6, 7, 8, 9, 10, 11, 12, 13, 14] [] [0, 1, 2, 3, 4, 5, 6, 7, 8, 9, 10, 11, 12, 13, 14] rfl rfl rfl rfl gX9_send_X9_isLive rfl ⟨rfl, rfl⟩ kX9_isLive ⟨Nat.le_of_ble_eq_true rfl, Nat.le_of_ble_eq_true rfl⟩ rfl rfl rfl rfl rfl hl.1 (Nat.le_of_ble_eq_true rfl) ⟨Nat.le_of_ble_eq_true rfl, Nat.le_of_ble_eq_true rfl⟩ dX9_send_25 (fun H locs hH => ?_)
  refine lv_if_eq (pc := 28) (tgt := 77) hx hb dX9_send_28 rfl (fun zc6 => ?_) (fun zc6 => ?_)
  · have h := zt zc6 h
    refine lv_iconst (v := (-1)) (pc := 77) hx hb dX9_send_77 zk_cm1 ?_
    obtain rfl := Option.some.inj h
    exact z_iret X hr hH dX9_send_78
  have h := zf zc6 h
  refine lv_iload_n (pc := 31) hx hb dX9_send_31 rfl (lv_at hl 2 rfl) ?_
  refine lv_iload_n (pc := 32) hx hb dX9_send_32 rfl (lv_at hl 3 rfl) ?_
  refine lv_icmp_eq (pc := 33) (tgt := 77) hx hb dX9_send_33 rfl (fun zc7 => ?_) (fun zc7 => ?_)
  · have h := zt zc7 h
    refine lv_iconst (v := (-1)) (pc := 77) hx hb dX9_send_77 zk_cm1 ?_
    obtain rfl := Option.some.inj h
    exact z_iret X hr hH dX9_send_78
  have h := zf zc7 h
  refine lv_iload (pc := 36) hx hb dX9_send_36 (lv_at hl 4 rfl) ?_
  refine lv_iconst (v := 0) (pc := 38) hx hb dX9_send_38 zk_c0 ?_
  refine lv_bipush (v := 15) (pc := 39) hx hb dX9_send_39 zk_b15 ?_
  obtain ⟨zr8, hzr8, h⟩ := zb h
  refine zcS (pc := 41) (As := [.int x4, .int 0, .int 15]) (rest := []) (st1 := [.int zr8]) (ws' := wM cy mq m_hosts m_lost m_late m_wait m_per m_blocks m_sends m_many m_made m_madeMany m_lacking 0 m_now m_ahead m_then m_time m_timeThen m_isThere m_comes) (wr := [((mq 0), .inr (8, [.int m_hosts, .ref (mq 1), .ref (mq 2), .ref (mq 3), .ref (mq 4), .ref (mq 5), .ref (mq 6), .int m_many, .ref (mq 7), .int m_madeMany, .int m_lacking, .int 0, .ref (mq 8), .ref (mq 9), .ref (mq 10), .ref (mq 11), .ref (mq 12), .ref (mq 13), .ref (mq 14)])), ((mq 1), .inl (cy 2, 16, .inl m_lost)), ((mq 2), .inl (cy 0, 16, .inl m_late)), ((mq 3), .inl (cy 0, 256, .inl m_wait)), ((mq 4), .inl (cy 0, 256, .inl m_per)), ((mq 5), .inl (cy 0, 256, .inl m_blocks)), ((mq 6), .inl (cy 0, 7200, .inl m_sends)), ((mq 7), .inl (cy 0, 7200, .inl m_made)), ((mq 8), .inl (cy 3, 65536, .inl m_now)), ((mq 9), .inl (cy 3, 65536, .inl m_ahead)), ((mq 10), .inl (cy 0, 256, .inl m_then)), ((mq 11), .inl (cy 0, 16, .inl m_time)), ((mq 12), .inl (cy 0, 16, .inl m_timeThen)), ((mq 13), .inl (cy 2, 256, .inl m_isThere)), ((mq 14), .inl (cy 2, 256, .inl m_comes))]) (n := 3) X (c_X9_in l G cy fu x4 0 15 zr8 hzr8) hH [] [0, 1, 2, 3, 4, 5, 6, 7, 8, 9, 10, 11, 12, 13, 14] [0, 1, 2, 3, 4, 5, 6, 7, 8, 9, 10, 11, 12, 13, 14] rfl rfl rfl rfl gX9_send_X9_in rfl ⟨rfl, rfl⟩ kX9_in ⟨Nat.le_of_ble_eq_true rfl, Nat.le_of_ble_eq_true rfl⟩ rfl rfl rfl hl.1 (Nat.le_of_ble_eq_true rfl) ⟨Nat.le_of_ble_eq_true rfl, Nat.le_of_ble_eq_true rfl⟩ dX9_send_41 (fun H locs hH => ?_)
  refine lv_if_eq (pc := 44) (tgt := 77) hx hb dX9_send_44 rfl (fun zc9 => ?_) (fun zc9 => ?_)
  · have h := zt zc9 h
    refine lv_iconst (v := (-1)) (pc := 77) hx hb dX9_send_77 zk_cm1 ?_
    obtain rfl := Option.some.inj h
    exact z_iret X hr hH dX9_send_78
  have h := zf zc9 h
  refine lv_iload (pc := 47) hx hb dX9_send_47 (lv_at hl 5 rfl) ?_
  refine lv_iconst (v := 0) (pc := 49) hx hb dX9_send_49 zk_c0 ?_
  refine lv_bipush (v := 15) (pc := 50) hx hb dX9_send_50 zk_b15 ?_
  obtain ⟨zr10, hzr10, h⟩ := zb h
  refine zcS (pc := 52) (As := [.int x5, .int 0, .int 15]) (rest := []) (st1 := [.int zr10]) (ws' := wM cy mq m_hosts m_lost m_late m_wait m_per m_blocks m_sends m_many m_made m_madeMany m_lacking 0 m_now m_ahead m_then m_time m_timeThen m_isThere m_comes) (wr := [((mq 0), .inr (8, [.int m_hosts, .ref (mq 1), .ref (mq 2), .ref (mq 3), .ref (mq 4), .ref (mq 5), .ref (mq 6), .int m_many, .ref (mq 7), .int m_madeMany, .int m_lacking, .int 0, .ref (mq 8), .ref (mq 9), .ref (mq 10), .ref (mq 11), .ref (mq 12), .ref (mq 13), .ref (mq 14)])), ((mq 1), .inl (cy 2, 16, .inl m_lost)), ((mq 2), .inl (cy 0, 16, .inl m_late)), ((mq 3), .inl (cy 0, 256, .inl m_wait)), ((mq 4), .inl (cy 0, 256, .inl m_per)), ((mq 5), .inl (cy 0, 256, .inl m_blocks)), ((mq 6), .inl (cy 0, 7200, .inl m_sends)), ((mq 7), .inl (cy 0, 7200, .inl m_made)), ((mq 8), .inl (cy 3, 65536, .inl m_now)), ((mq 9), .inl (cy 3, 65536, .inl m_ahead)), ((mq 10), .inl (cy 0, 256, .inl m_then)), ((mq 11), .inl (cy 0, 16, .inl m_time)), ((mq 12), .inl (cy 0, 16, .inl m_timeThen)), ((mq 13), .inl (cy 2, 256, .inl m_isThere)), ((mq 14), .inl (cy 2, 256, .inl m_comes))]) (n := 3) X (c_X9_in l G cy fu x5 0 15 zr10 hzr10) hH [] [0, 1, 2, 3, 4, 5, 6, 7, 8, 9, 10, 11, 12, 13, 14] [0, 1, 2, 3, 4, 5, 6, 7, 8, 9, 10, 11, 12, 13, 14] rfl rfl rfl rfl gX9_send_X9_in rfl ⟨rfl, rfl⟩ kX9_in ⟨Nat.le_of_ble_eq_true rfl, Nat.le_of_ble_eq_true rfl⟩ rfl rfl rfl hl.1 (Nat.le_of_ble_eq_true rfl) ⟨Nat.le_of_ble_eq_true rfl, Nat.le_of_ble_eq_true rfl⟩ dX9_send_52 (fun H locs hH => ?_)
  refine lv_if_eq (pc := 55) (tgt := 77) hx hb dX9_send_55 rfl (fun zc11 => ?_) (fun zc11 => ?_)
  · have h := zt zc11 h
    refine lv_iconst (v := (-1)) (pc := 77) hx hb dX9_send_77 zk_cm1 ?_
    obtain rfl := Option.some.inj h
    exact z_iret X hr hH dX9_send_78
  have h := zf zc11 h
  refine lv_aload_n (pc := 58) hx hb dX9_send_58 rfl (lv_at hl 0 rfl) ?_
  refine lv_iload_n (pc := 59) hx hb dX9_send_59 rfl (lv_at hl 2 rfl) ?_
  refine lv_iload_n (pc := 60) hx hb dX9_send_60 rfl (lv_at hl 3 rfl) ?_
  obtain ⟨zr12, hzr12, h⟩ := zb h
  refine zcV (pc := 61) (As := [.int x2, .int x3]) (rest := []) (st1 := [.int zr12]) (ws' := wM cy mq m_hosts m_lost m_late m_wait m_per m_blocks m_sends m_many m_made m_madeMany m_lacking 0 m_now m_ahead m_then m_time m_timeThen m_isThere m_comes) (wr := []) (n := 2) (q0 := 0) X (c_X9_areJoined l G cy fu mq m_hosts m_lost m_late m_wait m_per m_blocks m_sends m_many m_made m_madeMany m_lacking 0 m_now m_ahead m_then m_time m_timeThen m_isThere m_comes x2 x3 zr12 hzr12) hH [0, 1, 2, 3, 4, 5, 6, 7, 8, 9, 10, 11, 12, 13, 14] [] [0, 1, 2, 3, 4, 5, 6, 7, 8, 9, 10, 11, 12, 13, 14] rfl rfl rfl rfl gX9_send_X9_areJoined rfl ⟨rfl, rfl⟩ kX9_areJoined ⟨Nat.le_of_ble_eq_true rfl, Nat.le_of_ble_eq_true rfl⟩ rfl rfl rfl rfl rfl hl.1 (Nat.le_of_ble_eq_true rfl) ⟨Nat.le_of_ble_eq_true rfl, Nat.le_of_ble_eq_true rfl⟩ dX9_send_61 (fun H locs hH => ?_)
  refine lv_if_eq (pc := 64) (tgt := 77) hx hb dX9_send_64 rfl (fun zc13 => ?_) (fun zc13 => ?_)
  · have h := zt zc13 h
    refine lv_iconst (v := (-1)) (pc := 77) hx hb dX9_send_77 zk_cm1 ?_
    obtain rfl := Option.some.inj h
    exact z_iret X hr hH dX9_send_78
  have h := zf zc13 h
  refine lv_aload_n (pc := 67) hx hb dX9_send_67 rfl (lv_at hl 0 rfl) ?_
  refine z_get (pc := 68) (v := .int m_many) X iX9_send_X9 hH 0 rfl rfl 7 rfl (List.mem_of_getElem? (i := 2) rfl) rfl dX9_send_68 ?_
  refine lv_sipush (v := 1200) (pc := 71) hx hb dX9_send_71 zk_s1200 ?_
  refine lv_icmp_ne (pc := 74) (tgt := 79) hx hb dX9_send_74 rfl (fun zc14 => ?_) (fun zc14 => ?_)
  · have h := zf zc14 h
    refine lv_iconst (v := 0) (pc := 79) hx hb dX9_send_79 zk_c0 ?_
    refine lv_istore (pc := 80) (lv' := [(7, .int 0), (0, .ref (mq 0)), (1, .int x1), (2, .int x2), (3, .int x3), (4, .int x4), (5, .int x5), (6, .int x6)]) hx hb dX9_send_80 hl (by decide) rfl (fun ls hl => ?_)
    obtain ⟨zr15, hzr15, h⟩ := zb h
    refine w_X9_send_l82 G cy fu mq m_hosts m_lost m_late m_wait m_per m_blocks m_sends m_many m_made m_madeMany m_lacking 0 m_now m_ahead m_then m_time m_timeThen m_isThere m_comes x1 x2 x3 x4 x5 x6 X fu 0 zr15 hzr15 _ _ _ hH (lv_sub hl [1, 2, 3, 4, 5, 6, 7, 0] rfl) (fun zr15_0 ezr15_0 H locs ls hH hl => ?_) (fun zr15_1 ezr15_1 H locs ls hH hl => ?_)
    · rw [ezr15_0] at h
      have h := zsum_l h
      refine lv_iconst (v := (-1)) (pc := 183) hx hb dX9_send_183 zk_cm1 ?_
      obtain rfl := Option.some.inj h
      exact z_iret X hr hH dX9_send_184
    rw [ezr15_1] at h
    have h := zsum_r h
    refine lv_aload_n (pc := 191) hx hb dX9_send_191 rfl (lv_at hl 0 rfl) ?_
    refine lv_iload_n (pc := 192) hx hb dX9_send_192 rfl (lv_at hl 1 rfl) ?_
    refine lv_iload_n (pc := 193) hx hb dX9_send_193 rfl (lv_at hl 2 rfl) ?_
    refine lv_iload_n (pc := 194) hx hb dX9_send_194 rfl (lv_at hl 3 rfl) ?_
    refine lv_iload (pc := 195) hx hb dX9_send_195 (lv_at hl 4 rfl) ?_
    refine lv_iload (pc := 197) hx hb dX9_send_197 (lv_at hl 5 rfl) ?_
    refine lv_iload (pc := 199) hx hb dX9_send_199 (lv_at hl 6 rfl) ?_
    refine lv_if_eq (pc := 201) (tgt := 208) hx hb dX9_send_201 rfl (fun zc16 => ?_) (fun zc16 => ?_)
    · have h := zt zc16 h
      refine lv_iconst (v := 0) (pc := 208) hx hb dX9_send_208 zk_c0 ?_
      obtain ⟨zr17, hzr17, h⟩ := zb h
      refine zcV (pc := 209) (As := [.int x1, .int x2, .int x3, .int x4, .int x5, .int 0]) (rest := []) (st1 := []) (ws' := wM cy mq m_hosts m_lost m_late m_wait m_per m_blocks zr17.1 zr17.2 m_made m_madeMany m_lacking 0 m_now m_ahead m_then m_time m_timeThen m_isThere m_comes) (wr := []) (n := 6) (q0 := 0) X (c_X9_lay l G cy fu mq m_hosts m_lost m_late m_wait m_per m_blocks m_sends m_many m_made m_madeMany m_lacking 0 m_now m_ahead m_then m_time m_timeThen m_isThere m_comes x1 x2 x3 x4 x5 0 zr17 hzr17) hH [0, 1, 2, 3, 4, 5, 6, 7, 8, 9, 10, 11, 12, 13, 14] [] [0, 1, 2, 3, 4, 5, 6, 7, 8, 9, 10, 11, 12, 13, 14] rfl rfl rfl rfl gX9_send_X9_lay rfl ⟨rfl, rfl⟩ kX9_lay ⟨Nat.le_of_ble_eq_true rfl, Nat.le_of_ble_eq_true rfl⟩ rfl rfl rfl rfl rfl hl.1 (Nat.le_of_ble_eq_true rfl) ⟨Nat.le_of_ble_eq_true rfl, Nat.le_of_ble_eq_true rfl⟩ dX9_send_209 (fun H locs hH => ?_)
      refine lv_aload_n (pc := 212) hx hb dX9_send_212 rfl (lv_at hl 0 rfl) ?_
      refine z_get (pc := 213) (v := .int zr17.2) X iX9_send_X9 hH 0 rfl rfl 7 rfl (List.mem_of_getElem? (i := 2) rfl) rfl dX9_send_213 ?_
      obtain rfl := Option.some.inj h
      exact z_iret X hr hH dX9_send_216
    have h := zf zc16 h
    refine lv_iconst (v := 1) (pc := 204) hx hb dX9_send_204 zk_c1 ?_
    refine lv_goto (pc := 205) (tgt := 209) hx hb dX9_send_205 rfl ?_
    obtain ⟨zr18, hzr18, h⟩ := zb h
    refine zcV (pc := 209) (As := [.int x1, .int x2, .int x3, .int x4, .int x5, .int 1]) (rest := []) (st1 := []) (ws' := wM cy mq m_hosts m_lost m_late m_wait m_per m_blocks zr18.1 zr18.2 m_made m_madeMany m_lacking 0 m_now m_ahead m_then m_time m_timeThen m_isThere m_comes) (wr := []) (n := 6) (q0 := 0) X (c_X9_lay l G cy fu mq m_hosts m_lost m_late m_wait m_per m_blocks m_sends m_many m_made m_madeMany m_lacking 0 m_now m_ahead m_then m_time m_timeThen m_isThere m_comes x1 x2 x3 x4 x5 1 zr18 hzr18) hH [0, 1, 2, 3, 4, 5, 6, 7, 8, 9, 10, 11, 12, 13, 14] [] [0, 1, 2, 3, 4, 5, 6, 7, 8, 9, 10, 11, 12, 13, 14] rfl rfl rfl rfl gX9_send_X9_lay rfl ⟨rfl, rfl⟩ kX9_lay ⟨Nat.le_of_ble_eq_true rfl, Nat.le_of_ble_eq_true rfl⟩ rfl rfl rfl rfl rfl hl.1 (Nat.le_of_ble_eq_true rfl) ⟨Nat.le_of_ble_eq_true rfl, Nat.le_of_ble_eq_true rfl⟩ dX9_send_209 (fun H locs hH => ?_)
    refine lv_aload_n (pc := 212) hx hb dX9_send_212 rfl (lv_at hl 0 rfl) ?_
    refine z_get (pc := 213) (v := .int zr18.2) X iX9_send_X9 hH 0 rfl rfl 7 rfl (List.mem_of_getElem? (i := 2) rfl) rfl dX9_send_213 ?_
    obtain rfl := Option.some.inj h
    exact z_iret X hr hH dX9_send_216
  have h := zt zc14 h
  refine lv_iconst (v := (-1)) (pc := 77) hx hb dX9_send_77 zk_cm1 ?_
  obtain rfl := Option.some.inj h
  exact z_iret X hr hH dX9_send_78
