set_option maxHeartbeats 4000000 in
set_option maxRecDepth 100000 in
theorem w_X7_treeStep_l2 {p : Program} {l : Launch} {e : Env} {s : State} {m : MethodId} {args : Array Value} {below : List Frame} {meth : Method} {c : Code} {A : Nat → Prop} {Q : State → Prop} (G : va_G) (cy : Nat → ClassId) (fu : Nat) (wq : Nat → Nat) (pq : Nat → Nat) (hq : Nat → Nat) (h_alive : Nat → Int32) (h_late : Nat → Int32) (h_hbr : Nat → Int32) (h_rbh : Nat → Int32) (h_waits : Nat → Int32) (h_pers : Nat → Int32) (h_size : Int32) (h_ranks : Int32) (h_lines : Int32) (w_m : Int32) (w_root : Int32) (w_step : Int32) (x1 : Int32) (x2 : Int32) (X : zX p s m args meth c RX7 cX7_treeStep 4 wsX7_treeStep G cy A) : ∀ (n : Nat) (x3 : Int32) (p_packed : Nat → Int32) (p_size : Int32) (w_lacks : Int32) (rr : (Nat → Int32) × Int32 × Int32) (h : lp (f_X7_treeStep_l2 fu h_hbr h_waits h_ranks w_m w_root w_step x1 x2) n (x3, p_packed, p_size, w_lacks) = some rr) (H : Heap) (locs : List Loc) (ls : Array Slot) (hH : zH G A s.heap (wW cy wq (.ref (pq 0)) (.ref (hq 0)) w_m w_root w_step w_lacks ++ wP cy pq p_packed p_size ++ wH cy hq h_alive h_late h_hbr h_rbh h_waits h_pers h_size h_ranks h_lines) H locs) (hl : lv_has ls 4 [(0, .ref (wq 0)), (1, .int x1), (2, .int x2), (3, .int x3)]) (K0 : ∀ (H : Heap) (locs : List Loc) (ls : Array Slot), zH G A s.heap (wW cy wq (.ref (pq 0)) (.ref (hq 0)) w_m w_root w_step rr.2.2 ++ wP cy pq rr.1 rr.2.1 ++ wH cy hq h_alive h_late h_hbr h_rbh h_waits h_pers h_size h_ranks h_lines) H locs → lv_has ls 4 [(0, .ref (wq 0))] → W p l e (zR 3 80) s m args below meth c H locs 0 0 Q (F0 m 64 ls [])), W p l e (zR 3 80) s m args below meth c H locs 0 0 Q (F0 m 2 ls []) := by
  have hx := X.1.1
  have hb := X.1.2.1
  intro n
  induction n with
  | zero => intro x3 p_packed p_size w_lacks rr h H locs ls hH hl K0; cases h
  | succ n ih =>
    intro x3 p_packed p_size w_lacks rr h H locs ls hH hl K0
    replace h : f_X7_treeStep_l2 fu h_hbr h_waits h_ranks w_m w_root w_step x1 x2 (lp (f_X7_treeStep_l2 fu h_hbr h_waits h_ranks w_m w_root w_step x1 x2) n) (x3, p_packed, p_size, w_lacks) = some rr := h
    dsimp only [f_X7_treeStep_l2] at h
    refine lv_iload_n (pc := 2) hx hb dX7_treeStep_2 rfl (lv_at hl 3 rfl) ?_
    refine lv_iload_n (pc := 3) hx hb dX7_treeStep_3 rfl (lv_at hl 1 rfl) ?_
    refine lv_icmp_ge (pc := 4) (tgt := 64) hx hb dX7_treeStep_4 rfl (fun zc1 => ?_) (fun zc1 => ?_)
    · have h := zt zc1 h
      obtain rfl := Option.some.inj h
      exact K0 _ _ _ hH (lv_sub hl [0] rfl)
    have h := zf zc1 h
    refine lv_iload_n (pc := 7) hx hb dX7_treeStep_7 rfl (lv_at hl 3 rfl) ?_
    refine lv_iload_n (pc := 8) hx hb dX7_treeStep_8 rfl (lv_at hl 1 rfl) ?_
    refine lv_iadd (pc := 9) hx hb dX7_treeStep_9 ?_
    refine lv_aload_n (pc := 10) hx hb dX7_treeStep_10 rfl (lv_at hl 0 rfl) ?_
    refine z_get (pc := 11) (v := .int w_m) X iX7_treeStep_X7 hH 0 rfl rfl 2 rfl (List.mem_of_getElem? (i := 1) rfl) rfl dX7_treeStep_11 ?_
    refine lv_icmp_ge (pc := 14) (tgt := 64) hx hb dX7_treeStep_14 rfl (fun zc2 => ?_) (fun zc2 => ?_)
    · have h := zt zc2 h
      obtain rfl := Option.some.inj h
      exact K0 _ _ _ hH (lv_sub hl [0] rfl)
    have h := zf zc2 h
    refine lv_iload_n (pc := 17) hx hb dX7_treeStep_17 rfl (lv_at hl 2 rfl) ?_
    refine lv_if_eq (pc := 18) (tgt := 41) hx hb dX7_treeStep_18 rfl (fun zc3 => ?_) (fun zc3 => ?_)
    · have h := zt zc3 h
      refine lv_aload_n (pc := 41) hx hb dX7_treeStep_41 rfl (lv_at hl 0 rfl) ?_
      refine lv_aload_n (pc := 42) hx hb dX7_treeStep_42 rfl (lv_at hl 0 rfl) ?_
      refine lv_iload_n (pc := 43) hx hb dX7_treeStep_43 rfl (lv_at hl 3 rfl) ?_
      obtain ⟨zr4, hzr4, h⟩ := zb h
      refine zcV (pc := 44) (As := [.int x3]) (rest := [.ref (wq 0)]) (st1 := [.int zr4, .ref (wq 0)]) (ws' := wW cy wq (.ref (pq 0)) (.ref (hq 0)) w_m w_root w_step w_lacks ++ wP cy pq p_packed p_size ++ wH cy hq h_alive h_late h_hbr h_rbh h_waits h_pers h_size h_ranks h_lines) (wr := [((pq 0), .inr (3, [.ref (pq 1), .int p_size])), ((pq 1), .inl (cy 0, 1200, .inl p_packed)), ((hq 0), .inr (2, [.ref (hq 1), .ref (hq 2), .ref (hq 3), .ref (hq 4), .ref (hq 5), .ref (hq 6), .int h_size, .int h_ranks, .int h_lines])), ((hq 1), .inl (cy 2, 16, .inl h_alive)), ((hq 2), .inl (cy 0, 16, .inl h_late)), ((hq 3), .inl (cy 0, 16, .inl h_hbr)), ((hq 4), .inl (cy 0, 16, .inl h_rbh)), ((hq 5), .inl (cy 0, 256, .inl h_waits)), ((hq 6), .inl (cy 0, 256, .inl h_pers))]) (n := 1) (q0 := 0) X (c_X7_rankOfQ l G cy fu wq (.ref (pq 0)) (.ref (hq 0)) w_m w_root w_step w_lacks x3 zr4 hzr4) hH [0] [1, 2, 3, 4, 5, 6, 7, 8, 9] [9, 0, 1, 2, 3, 4, 5, 6, 7, 8] rfl rfl rfl rfl gX7_treeStep_X7_rankOfQ rfl ⟨rfl, rfl⟩ kX7_rankOfQ ⟨Nat.le_of_ble_eq_true rfl, Nat.le_of_ble_eq_true rfl⟩ rfl rfl rfl rfl rfl hl.1 (Nat.le_of_ble_eq_true rfl) ⟨Nat.le_of_ble_eq_true rfl, Nat.le_of_ble_eq_true rfl⟩ dX7_treeStep_44 (fun H locs hH => ?_)
      refine lv_aload_n (pc := 47) hx hb dX7_treeStep_47 rfl (lv_at hl 0 rfl) ?_
      refine lv_iload_n (pc := 48) hx hb dX7_treeStep_48 rfl (lv_at hl 3 rfl) ?_
      refine lv_iload_n (pc := 49) hx hb dX7_treeStep_49 rfl (lv_at hl 1 rfl) ?_
      refine lv_iadd (pc := 50) hx hb dX7_treeStep_50 ?_
      obtain ⟨zr5, hzr5, h⟩ := zb h
      refine zcV (pc := 51) (As := [.int (x3 + x1)]) (rest := [.int zr4, .ref (wq 0)]) (st1 := [.int zr5, .int zr4, .ref (wq 0)]) (ws' := wW cy wq (.ref (pq 0)) (.ref (hq 0)) w_m w_root w_step w_lacks ++ wP cy pq p_packed p_size ++ wH cy hq h_alive h_late h_hbr h_rbh h_waits h_pers h_size h_ranks h_lines) (wr := [((pq 0), .inr (3, [.ref (pq 1), .int p_size])), ((pq 1), .inl (cy 0, 1200, .inl p_packed)), ((hq 0), .inr (2, [.ref (hq 1), .ref (hq 2), .ref (hq 3), .ref (hq 4), .ref (hq 5), .ref (hq 6), .int h_size, .int h_ranks, .int h_lines])), ((hq 1), .inl (cy 2, 16, .inl h_alive)), ((hq 2), .inl (cy 0, 16, .inl h_late)), ((hq 3), .inl (cy 0, 16, .inl h_hbr)), ((hq 4), .inl (cy 0, 16, .inl h_rbh)), ((hq 5), .inl (cy 0, 256, .inl h_waits)), ((hq 6), .inl (cy 0, 256, .inl h_pers))]) (n := 1) (q0 := 0) X (c_X7_rankOfQ l G cy fu wq (.ref (pq 0)) (.ref (hq 0)) w_m w_root w_step w_lacks (x3 + x1) zr5 hzr5) hH [0] [1, 2, 3, 4, 5, 6, 7, 8, 9] [9, 0, 1, 2, 3, 4, 5, 6, 7, 8] rfl rfl rfl rfl gX7_treeStep_X7_rankOfQ rfl ⟨rfl, rfl⟩ kX7_rankOfQ ⟨Nat.le_of_ble_eq_true rfl, Nat.le_of_ble_eq_true rfl⟩ rfl rfl rfl rfl rfl hl.1 (Nat.le_of_ble_eq_true rfl) ⟨Nat.le_of_ble_eq_true rfl, Nat.le_of_ble_eq_true rfl⟩ dX7_treeStep_51 (fun H locs hH => ?_)
      refine lv_iconst (v := 0) (pc := 54) hx hb dX7_treeStep_54 zk_c0 ?_
      obtain ⟨zr6, hzr6, h⟩ := zb h
      refine zcV (pc := 55) (As := [.int zr4, .int zr5, .int 0]) (rest := []) (st1 := []) (ws' := wW cy wq (.ref (pq 0)) (.ref (hq 0)) w_m w_root w_step zr6.2.2 ++ wP cy pq zr6.1 zr6.2.1 ++ wH cy hq h_alive h_late h_hbr h_rbh h_waits h_pers h_size h_ranks h_lines) (wr := []) (n := 3) (q0 := 0) X (c_X7_giveAll l G cy fu wq pq hq h_alive h_late h_hbr h_rbh h_waits h_pers h_size h_ranks h_lines p_packed p_size w_m w_root w_step w_lacks zr4 zr5 0 zr6 hzr6) hH [0, 1, 2, 3, 4, 5, 6, 7, 8, 9] [] [0, 1, 2, 3, 4, 5, 6, 7, 8, 9] rfl rfl rfl rfl gX7_treeStep_X7_giveAll rfl ⟨rfl, rfl⟩ kX7_giveAll ⟨Nat.le_of_ble_eq_true rfl, Nat.le_of_ble_eq_true rfl⟩ rfl rfl rfl rfl rfl hl.1 (Nat.le_of_ble_eq_true rfl) ⟨Nat.le_of_ble_eq_true rfl, Nat.le_of_ble_eq_true rfl⟩ dX7_treeStep_55 (fun H locs hH => ?_)
      refine lv_iinc (pc := 58) (v := (x3 + 1)) (lv' := [(3, .int (x3 + 1)), (0, .ref (wq 0)), (1, .int x1), (2, .int x2)]) hx hb dX7_treeStep_58 hl (k := 3) rfl (by rw [zk_c1]) (by decide) rfl (fun ls hl => ?_)
      refine lv_goto (pc := 61) (tgt := 2) hx hb dX7_treeStep_61 rfl ?_
      exact ih (x3 + 1) zr6.1 zr6.2.1 zr6.2.2 rr h _ _ _ hH (lv_sub hl [1, 2, 3, 0] rfl) K0
    have h := zf zc3 h
    refine lv_aload_n (pc := 21) hx hb dX7_treeStep_21 rfl (lv_at hl 0 rfl) ?_
    refine lv_aload_n (pc := 22) hx hb dX7_treeStep_22 rfl (lv_at hl 0 rfl) ?_
    refine lv_iload_n (pc := 23) hx hb dX7_treeStep_23 rfl (lv_at hl 3 rfl) ?_
    refine lv_iload_n (pc := 24) hx hb dX7_treeStep_24 rfl (lv_at hl 1 rfl) ?_
    refine lv_iadd (pc := 25) hx hb dX7_treeStep_25 ?_
    obtain ⟨zr7, hzr7, h⟩ := zb h
    refine zcV (pc := 26) (As := [.int (x3 + x1)]) (rest := [.ref (wq 0)]) (st1 := [.int zr7, .ref (wq 0)]) (ws' := wW cy wq (.ref (pq 0)) (.ref (hq 0)) w_m w_root w_step w_lacks ++ wP cy pq p_packed p_size ++ wH cy hq h_alive h_late h_hbr h_rbh h_waits h_pers h_size h_ranks h_lines) (wr := [((pq 0), .inr (3, [.ref (pq 1), .int p_size])), ((pq 1), .inl (cy 0, 1200, .inl p_packed)), ((hq 0), .inr (2, [.ref (hq 1), .ref (hq 2), .ref (hq 3), .ref (hq 4), .ref (hq 5), .ref (hq 6), .int h_size, .int h_ranks, .int h_lines])), ((hq 1), .inl (cy 2, 16, .inl h_alive)), ((hq 2), .inl (cy 0, 16, .inl h_late)), ((hq 3), .inl (cy 0, 16, .inl h_hbr)), ((hq 4), .inl (cy 0, 16, .inl h_rbh)), ((hq 5), .inl (cy 0, 256, .inl h_waits)), ((hq 6), .inl (cy 0, 256, .inl h_pers))]) (n := 1) (q0 := 0) X (c_X7_rankOfQ l G cy fu wq (.ref (pq 0)) (.ref (hq 0)) w_m w_root w_step w_lacks (x3 + x1) zr7 hzr7) hH [0] [1, 2, 3, 4, 5, 6, 7, 8, 9] [9, 0, 1, 2, 3, 4, 5, 6, 7, 8] rfl rfl rfl rfl gX7_treeStep_X7_rankOfQ rfl ⟨rfl, rfl⟩ kX7_rankOfQ ⟨Nat.le_of_ble_eq_true rfl, Nat.le_of_ble_eq_true rfl⟩ rfl rfl rfl rfl rfl hl.1 (Nat.le_of_ble_eq_true rfl) ⟨Nat.le_of_ble_eq_true rfl, Nat.le_of_ble_eq_true rfl⟩ dX7_treeStep_26 (fun H locs hH => ?_)
    refine lv_aload_n (pc := 29) hx hb dX7_treeStep_29 rfl (lv_at hl 0 rfl) ?_
    refine lv_iload_n (pc := 30) hx hb dX7_treeStep_30 rfl (lv_at hl 3 rfl) ?_
    obtain ⟨zr8, hzr8, h⟩ := zb h
    refine zcV (pc := 31) (As := [.int x3]) (rest := [.int zr7, .ref (wq 0)]) (st1 := [.int zr8, .int zr7, .ref (wq 0)]) (ws' := wW cy wq (.ref (pq 0)) (.ref (hq 0)) w_m w_root w_step w_lacks ++ wP cy pq p_packed p_size ++ wH cy hq h_alive h_late h_hbr h_rbh h_waits h_pers h_size h_ranks h_lines) (wr := [((pq 0), .inr (3, [.ref (pq 1), .int p_size])), ((pq 1), .inl (cy 0, 1200, .inl p_packed)), ((hq 0), .inr (2, [.ref (hq 1), .ref (hq 2), .ref (hq 3), .ref (hq 4), .ref (hq 5), .ref (hq 6), .int h_size, .int h_ranks, .int h_lines])), ((hq 1), .inl (cy 2, 16, .inl h_alive)), ((hq 2), .inl (cy 0, 16, .inl h_late)), ((hq 3), .inl (cy 0, 16, .inl h_hbr)), ((hq 4), .inl (cy 0, 16, .inl h_rbh)), ((hq 5), .inl (cy 0, 256, .inl h_waits)), ((hq 6), .inl (cy 0, 256, .inl h_pers))]) (n := 1) (q0 := 0) X (c_X7_rankOfQ l G cy fu wq (.ref (pq 0)) (.ref (hq 0)) w_m w_root w_step w_lacks x3 zr8 hzr8) hH [0] [1, 2, 3, 4, 5, 6, 7, 8, 9] [9, 0, 1, 2, 3, 4, 5, 6, 7, 8] rfl rfl rfl rfl gX7_treeStep_X7_rankOfQ rfl ⟨rfl, rfl⟩ kX7_rankOfQ ⟨Nat.le_of_ble_eq_true rfl, Nat.le_of_ble_eq_true rfl⟩ rfl rfl rfl rfl rfl hl.1 (Nat.le_of_ble_eq_true rfl) ⟨Nat.le_of_ble_eq_true rfl, Nat.le_of_ble_eq_true rfl⟩ dX7_treeStep_31 (fun H locs hH => ?_)
    refine lv_iconst (v := 1) (pc := 34) hx hb dX7_treeStep_34 zk_c1 ?_
    obtain ⟨zr9, hzr9, h⟩ := zb h
    refine zcV (pc := 35) (As := [.int zr7, .int zr8, .int 1]) (rest := []) (st1 := []) (ws' := wW cy wq (.ref (pq 0)) (.ref (hq 0)) w_m w_root w_step zr9.2.2 ++ wP cy pq zr9.1 zr9.2.1 ++ wH cy hq h_alive h_late h_hbr h_rbh h_waits h_pers h_size h_ranks h_lines) (wr := []) (n := 3) (q0 := 0) X (c_X7_giveAll l G cy fu wq pq hq h_alive h_late h_hbr h_rbh h_waits h_pers h_size h_ranks h_lines p_packed p_size w_m w_root w_step w_lacks zr7 zr8 1 zr9 hzr9) hH [0, 1, 2, 3, 4, 5, 6, 7, 8, 9] [] [0, 1, 2, 3, 4, 5, 6, 7, 8, 9] rfl rfl rfl rfl gX7_treeStep_X7_giveAll rfl ⟨rfl, rfl⟩ kX7_giveAll ⟨Nat.le_of_ble_eq_true rfl, Nat.le_of_ble_eq_true rfl⟩ rfl rfl rfl rfl rfl hl.1 (Nat.le_of_ble_eq_true rfl) ⟨Nat.le_of_ble_eq_true rfl, Nat.le_of_ble_eq_true rfl⟩ dX7_treeStep_35 (fun H locs hH => ?_)
    refine lv_goto (pc := 38) (tgt := 58) hx hb dX7_treeStep_38 rfl ?_
    refine lv_iinc (pc := 58) (v := (x3 + 1)) (lv' := [(3, .int (x3 + 1)), (0, .ref (wq 0)), (1, .int x1), (2, .int x2)]) hx hb dX7_treeStep_58 hl (k := 3) rfl (by rw [zk_c1]) (by decide) rfl (fun ls hl => ?_)
    refine lv_goto (pc := 61) (tgt := 2) hx hb dX7_treeStep_61 rfl ?_
    exact ih (x3 + 1) zr9.1 zr9.2.1 zr9.2.2 rr h _ _ _ hH (lv_sub hl [1, 2, 3, 0] rfl) K0
set_option maxHeartbeats 4000000 in
set_option maxRecDepth 100000 in
theorem c_X7_treeStep (l : Launch) (G : va_G) (cy : Nat → ClassId) (fu : Nat) (wq : Nat → Nat) (pq : Nat → Nat) (hq : Nat → Nat) (h_alive : Nat → Int32) (h_late : Nat → Int32) (h_hbr : Nat → Int32) (h_rbh : Nat → Int32) (h_waits : Nat → Int32) (h_pers : Nat → Int32) (h_size : Int32) (h_ranks : Int32) (h_lines : Int32) (p_packed : Nat → Int32) (p_size : Int32) (w_m : Int32) (w_root : Int32) (w_step : Int32) (w_lacks : Int32) (x1 : Int32) (x2 : Int32) (rr : (Nat → Int32) × Int32 × Int32 × Int32) (h : f_X7_treeStep fu h_hbr h_waits h_ranks p_packed p_size w_m w_root w_step w_lacks x1 x2 = some rr) : zM l G cy yX7_treeStep wsX7_treeStep (zR 3 80) [.ref (wq 0), .int x1, .int x2] (wW cy wq (.ref (pq 0)) (.ref (hq 0)) w_m w_root w_step w_lacks ++ wP cy pq p_packed p_size ++ wH cy hq h_alive h_late h_hbr h_rbh h_waits h_pers h_size h_ranks h_lines) (wW cy wq (.ref (pq 0)) (.ref (hq 0)) w_m w_root rr.2.2.1 rr.2.2.2 ++ wP cy pq rr.1 rr.2.1 ++ wH cy hq h_alive h_late h_hbr h_rbh h_waits h_pers h_size h_ranks h_lines) none := by
  refine zM.mk (cc := cX7_treeStep) (nL := 4) (ret := none) (by decide) rfl (Nat.le_of_ble_eq_true rfl) ?_
  intro p e s m below meth c A ls X hr hH hl
  replace X : zX p s m [.ref (wq 0), .int x1, .int x2].toArray meth c RX7 cX7_treeStep 4 wsX7_treeStep G cy A := X
  have hx := X.1.1
  have hb := X.1.2.1
  replace hl : lv_has ls 4 [(0, .ref (wq 0)), (1, .int x1), (2, .int x2)] := hl
  dsimp only [f_X7_treeStep] at h
  refine lv_iconst (v := 0) (pc := 0) hx hb dX7_treeStep_0 zk_c0 ?_
  refine lv_istore_n (pc := 1) (lv' := [(3, .int 0), (0, .ref (wq 0)), (1, .int x1), (2, .int x2)]) hx hb dX7_treeStep_1 rfl hl (by decide) rfl (fun ls hl => ?_)
  obtain ⟨zr1, hzr1, h⟩ := zb h
  refine w_X7_treeStep_l2 G cy fu wq pq hq h_alive h_late h_hbr h_rbh h_waits h_pers h_size h_ranks h_lines w_m w_root w_step x1 x2 X fu 0 p_packed p_size w_lacks zr1 hzr1 _ _ _ hH (lv_sub hl [1, 2, 3, 0] rfl) (fun H locs ls hH hl => ?_)
  refine lv_aload_n (pc := 64) hx hb dX7_treeStep_64 rfl (lv_at hl 0 rfl) ?_
  obtain ⟨zr2, hzr2, h⟩ := zb h
  refine zcV (pc := 65) (As := []) (rest := []) (st1 := []) (ws' := wW cy wq (.ref (pq 0)) (.ref (hq 0)) w_m w_root zr2 zr1.2.2 ++ wP cy pq zr1.1 zr1.2.1 ++ wH cy hq h_alive h_late h_hbr h_rbh h_waits h_pers h_size h_ranks h_lines) (wr := []) (n := 0) (q0 := 0) X (c_X7_endStep l G cy fu wq pq hq h_alive h_late h_hbr h_rbh h_waits h_pers h_size h_ranks h_lines zr1.1 zr1.2.1 w_m w_root w_step zr1.2.2 zr2 hzr2) hH [0, 1, 2, 3, 4, 5, 6, 7, 8, 9] [] [0, 1, 2, 3, 4, 5, 6, 7, 8, 9] rfl rfl rfl rfl gX7_treeStep_X7_endStep rfl ⟨rfl, rfl⟩ kX7_endStep ⟨Nat.le_of_ble_eq_true rfl, Nat.le_of_ble_eq_true rfl⟩ rfl rfl rfl rfl rfl hl.1 (Nat.le_of_ble_eq_true rfl) ⟨Nat.le_of_ble_eq_true rfl, Nat.le_of_ble_eq_true rfl⟩ dX7_treeStep_65 (fun H locs hH => ?_)
  obtain rfl := Option.some.inj h
  exact z_vret X hr hH dX7_treeStep_68
set_option maxHeartbeats 4000000 in
set_option maxRecDepth 100000 in
theorem w_X7_tree_l31 {p : Program} {l : Launch} {e : Env} {s : State} {m : MethodId} {args : Array Value} {below : List Frame} {meth : Method} {c : Code} {A : Nat → Prop} {Q : State → Prop} (G : va_G) (cy : Nat → ClassId) (fu : Nat) (wq : Nat → Nat) (pq : Nat → Nat) (hq : Nat → Nat) (h_alive : Nat → Int32) (h_late : Nat → Int32) (h_hbr : Nat → Int32) (h_rbh : Nat → Int32) (h_waits : Nat → Int32) (h_pers : Nat → Int32) (h_size : Int32) (h_ranks : Int32) (h_lines : Int32) (w_m : Int32) (w_root : Int32) (X : zX p s m args meth c RX7 cX7_tree 3 wsX7_tree G cy A) : ∀ (n : Nat) (x2 : Int32) (p_packed : Nat → Int32) (p_size : Int32) (w_step : Int32) (w_lacks : Int32) (rr : (Nat → Int32) × Int32 × Int32 × Int32) (h : lp (f_X7_tree_l31 fu h_hbr h_waits h_ranks w_m w_root) n (x2, p_packed, p_size, w_step, w_lacks) = some rr) (H : Heap) (locs : List Loc) (ls : Array Slot) (hH : zH G A s.heap (wW cy wq (.ref (pq 0)) (.ref (hq 0)) w_m w_root w_step w_lacks ++ wP cy pq p_packed p_size ++ wH cy hq h_alive h_late h_hbr h_rbh h_waits h_pers h_size h_ranks h_lines) H locs) (hl : lv_has ls 3 [(0, .ref (wq 0)), (2, .int x2)]) (K0 : ∀ (H : Heap) (locs : List Loc) (ls : Array Slot), zH G A s.heap (wW cy wq (.ref (pq 0)) (.ref (hq 0)) w_m w_root rr.2.2.1 rr.2.2.2 ++ wP cy pq rr.1 rr.2.1 ++ wH cy hq h_alive h_late h_hbr h_rbh h_waits h_pers h_size h_ranks h_lines) H locs → lv_has ls 3 [] → W p l e (zR 4 103) s m args below meth c H locs 0 0 Q (F0 m 52 ls [])), W p l e (zR 4 103) s m args below meth c H locs 0 0 Q (F0 m 31 ls []) := by
  have hx := X.1.1
  have hb := X.1.2.1
  intro n
  induction n with
  | zero => intro x2 p_packed p_size w_step w_lacks rr h H locs ls hH hl K0; cases h
  | succ n ih =>
    intro x2 p_packed p_size w_step w_lacks rr h H locs ls hH hl K0
    replace h : f_X7_tree_l31 fu h_hbr h_waits h_ranks w_m w_root (lp (f_X7_tree_l31 fu h_hbr h_waits h_ranks w_m w_root) n) (x2, p_packed, p_size, w_step, w_lacks) = some rr := h
    dsimp only [f_X7_tree_l31] at h
    refine lv_iload_n (pc := 31) hx hb dX7_tree_31 rfl (lv_at hl 1 rfl) ?_
    refine lv_aload_n (pc := 32) hx hb dX7_tree_32 rfl (lv_at hl 0 rfl) ?_
    refine z_get (pc := 33) (v := .int w_m) X iX7_tree_X7 hH 0 rfl rfl 2 rfl (List.mem_of_getElem? (i := 1) rfl) rfl dX7_tree_33 ?_
    refine lv_icmp_ge (pc := 36) (tgt := 52) hx hb dX7_tree_36 rfl (fun zc1 => ?_) (fun zc1 => ?_)
    · have h := zt zc1 h
      obtain rfl := Option.some.inj h
      exact K0 _ _ _ hH (lv_sub hl [] rfl)
    have h := zf zc1 h
    refine lv_aload_n (pc := 39) hx hb dX7_tree_39 rfl (lv_at hl 0 rfl) ?_
    refine lv_iload_n (pc := 40) hx hb dX7_tree_40 rfl (lv_at hl 1 rfl) ?_
    refine lv_iconst (v := 0) (pc := 41) hx hb dX7_tree_41 zk_c0 ?_
    obtain ⟨zr2, hzr2, h⟩ := zb h
    refine zcV (pc := 42) (As := [.int x2, .int 0]) (rest := []) (st1 := []) (ws' := wW cy wq (.ref (pq 0)) (.ref (hq 0)) w_m w_root zr2.2.2.1 zr2.2.2.2 ++ wP cy pq zr2.1 zr2.2.1 ++ wH cy hq h_alive h_late h_hbr h_rbh h_waits h_pers h_size h_ranks h_lines) (wr := []) (n := 2) (q0 := 0) X (c_X7_treeStep l G cy fu wq pq hq h_alive h_late h_hbr h_rbh h_waits h_pers h_size h_ranks h_lines p_packed p_size w_m w_root w_step w_lacks x2 0 zr2 hzr2) hH [0, 1, 2, 3, 4, 5, 6, 7, 8, 9] [] [0, 1, 2, 3, 4, 5, 6, 7, 8, 9] rfl rfl rfl rfl gX7_tree_X7_treeStep rfl ⟨rfl, rfl⟩ kX7_treeStep ⟨Nat.le_of_ble_eq_true rfl, Nat.le_of_ble_eq_true rfl⟩ rfl rfl rfl rfl rfl hl.1 (Nat.le_of_ble_eq_true rfl) ⟨Nat.le_of_ble_eq_true rfl, Nat.le_of_ble_eq_true rfl⟩ dX7_tree_42 (fun H locs hH => ?_)
    refine lv_iload_n (pc := 45) hx hb dX7_tree_45 rfl (lv_at hl 1 rfl) ?_
    refine lv_iconst (v := 1) (pc := 46) hx hb dX7_tree_46 zk_c1 ?_
    refine lv_ishl (pc := 47) hx hb dX7_tree_47 ?_
    refine lv_topi (fun za3 eza3 => ?_)
    have h := vn_s h za3 eza3
    refine lv_istore_n (pc := 48) (lv' := [(2, .int za3), (0, .ref (wq 0))]) hx hb dX7_tree_48 rfl hl (by decide) rfl (fun ls hl => ?_)
    refine lv_goto (pc := 49) (tgt := 31) hx hb dX7_tree_49 rfl ?_
    exact ih za3 zr2.1 zr2.2.1 zr2.2.2.1 zr2.2.2.2 rr h _ _ _ hH (lv_sub hl [1, 0] rfl) K0
set_option maxHeartbeats 4000000 in
set_option maxRecDepth 100000 in
theorem w_X7_tree_l7 {p : Program} {l : Launch} {e : Env} {s : State} {m : MethodId} {args : Array Value} {below : List Frame} {meth : Method} {c : Code} {A : Nat → Prop} {Q : State → Prop} (G : va_G) (cy : Nat → ClassId) (fu : Nat) (wq : Nat → Nat) (pq : Nat → Nat) (hq : Nat → Nat) (h_alive : Nat → Int32) (h_late : Nat → Int32) (h_hbr : Nat → Int32) (h_rbh : Nat → Int32) (h_waits : Nat → Int32) (h_pers : Nat → Int32) (h_size : Int32) (h_ranks : Int32) (h_lines : Int32) (w_m : Int32) (w_root : Int32) (x1 : Int32) (X : zX p s m args meth c RX7 cX7_tree 3 wsX7_tree G cy A) : ∀ (n : Nat) (x2 : Int32) (p_packed : Nat → Int32) (p_size : Int32) (w_step : Int32) (w_lacks : Int32) (rr : (Nat → Int32) × Int32 × Int32 × Int32) (h : lp (f_X7_tree_l7 fu h_hbr h_waits h_ranks w_m w_root) n (x2, p_packed, p_size, w_step, w_lacks) = some rr) (H : Heap) (locs : List Loc) (ls : Array Slot) (hH : zH G A s.heap (wW cy wq (.ref (pq 0)) (.ref (hq 0)) w_m w_root w_step w_lacks ++ wP cy pq p_packed p_size ++ wH cy hq h_alive h_late h_hbr h_rbh h_waits h_pers h_size h_ranks h_lines) H locs) (hl : lv_has ls 3 [(0, .ref (wq 0)), (1, .int x1), (2, .int x2)]) (K0 : ∀ (H : Heap) (locs : List Loc) (ls : Array Slot), zH G A s.heap (wW cy wq (.ref (pq 0)) (.ref (hq 0)) w_m w_root rr.2.2.1 rr.2.2.2 ++ wP cy pq rr.1 rr.2.1 ++ wH cy hq h_alive h_late h_hbr h_rbh h_waits h_pers h_size h_ranks h_lines) H locs → lv_has ls 3 [(0, .ref (wq 0)), (1, .int x1)] → W p l e (zR 4 103) s m args below meth c H locs 0 0 Q (F0 m 24 ls [])), W p l e (zR 4 103) s m args below meth c H locs 0 0 Q (F0 m 7 ls []) := by
  have hx := X.1.1
  have hb := X.1.2.1
  intro n
  induction n with
  | zero => intro x2 p_packed p_size w_step w_lacks rr h H locs ls hH hl K0; cases h
  | succ n ih =>
    intro x2 p_packed p_size w_step w_lacks rr h H locs ls hH hl K0
    replace h : f_X7_tree_l7 fu h_hbr h_waits h_ranks w_m w_root (lp (f_X7_tree_l7 fu h_hbr h_waits h_ranks w_m w_root) n) (x2, p_packed, p_size, w_step, w_lacks) = some rr := h
    dsimp only [f_X7_tree_l7] at h
    refine lv_iload_n (pc := 7) hx hb dX7_tree_7 rfl (lv_at hl 2 rfl) ?_
    refine lv_if_le (pc := 8) (tgt := 24) hx hb dX7_tree_8 rfl (fun zc1 => ?_) (fun zc1 => ?_)
    · have h := zt zc1 h
      obtain rfl := Option.some.inj h
      exact K0 _ _ _ hH (lv_sub hl [0, 1] rfl)
    have h := zf zc1 h
    refine lv_aload_n (pc := 11) hx hb dX7_tree_11 rfl (lv_at hl 0 rfl) ?_
    refine lv_iload_n (pc := 12) hx hb dX7_tree_12 rfl (lv_at hl 2 rfl) ?_
    refine lv_iconst (v := 1) (pc := 13) hx hb dX7_tree_13 zk_c1 ?_
    obtain ⟨zr2, hzr2, h⟩ := zb h
    refine zcV (pc := 14) (As := [.int x2, .int 1]) (rest := []) (st1 := []) (ws' := wW cy wq (.ref (pq 0)) (.ref (hq 0)) w_m w_root zr2.2.2.1 zr2.2.2.2 ++ wP cy pq zr2.1 zr2.2.1 ++ wH cy hq h_alive h_late h_hbr h_rbh h_waits h_pers h_size h_ranks h_lines) (wr := []) (n := 2) (q0 := 0) X (c_X7_treeStep l G cy fu wq pq hq h_alive h_late h_hbr h_rbh h_waits h_pers h_size h_ranks h_lines p_packed p_size w_m w_root w_step w_lacks x2 1 zr2 hzr2) hH [0, 1, 2, 3, 4, 5, 6, 7, 8, 9] [] [0, 1, 2, 3, 4, 5, 6, 7, 8, 9] rfl rfl rfl rfl gX7_tree_X7_treeStep rfl ⟨rfl, rfl⟩ kX7_treeStep ⟨Nat.le_of_ble_eq_true rfl, Nat.le_of_ble_eq_true rfl⟩ rfl rfl rfl rfl rfl hl.1 (Nat.le_of_ble_eq_true rfl) ⟨Nat.le_of_ble_eq_true rfl, Nat.le_of_ble_eq_true rfl⟩ dX7_tree_14 (fun H locs hH => ?_)
    refine lv_iload_n (pc := 17) hx hb dX7_tree_17 rfl (lv_at hl 2 rfl) ?_
    refine lv_iconst (v := 1) (pc := 18) hx hb dX7_tree_18 zk_c1 ?_
    refine lv_ishr (pc := 19) hx hb dX7_tree_19 ?_
    refine lv_topi (fun za3 eza3 => ?_)
    have h := vn_s h za3 eza3
    refine lv_istore_n (pc := 20) (lv' := [(2, .int za3), (0, .ref (wq 0)), (1, .int x1)]) hx hb dX7_tree_20 rfl hl (by decide) rfl (fun ls hl => ?_)
    refine lv_goto (pc := 21) (tgt := 7) hx hb dX7_tree_21 rfl ?_
    exact ih za3 zr2.1 zr2.2.1 zr2.2.2.1 zr2.2.2.2 rr h _ _ _ hH (lv_sub hl [1, 2, 0] rfl) K0
set_option maxHeartbeats 4000000 in
set_option maxRecDepth 100000 in
theorem c_X7_tree (l : Launch) (G : va_G) (cy : Nat → ClassId) (fu : Nat) (wq : Nat → Nat) (pq : Nat → Nat) (hq : Nat → Nat) (h_alive : Nat → Int32) (h_late : Nat → Int32) (h_hbr : Nat → Int32) (h_rbh : Nat → Int32) (h_waits : Nat → Int32) (h_pers : Nat → Int32) (h_size : Int32) (h_ranks : Int32) (h_lines : Int32) (p_packed : Nat → Int32) (p_size : Int32) (w_m : Int32) (w_root : Int32) (w_step : Int32) (w_lacks : Int32) (x1 : Int32) (rr : (Nat → Int32) × Int32 × Int32 × Int32) (h : f_X7_tree fu h_hbr h_waits h_ranks p_packed p_size w_m w_root w_step w_lacks x1 = some rr) : zM l G cy yX7_tree wsX7_tree (zR 4 103) [.ref (wq 0), .int x1] (wW cy wq (.ref (pq 0)) (.ref (hq 0)) w_m w_root w_step w_lacks ++ wP cy pq p_packed p_size ++ wH cy hq h_alive h_late h_hbr h_rbh h_waits h_pers h_size h_ranks h_lines) (wW cy wq (.ref (pq 0)) (.ref (hq 0)) w_m w_root rr.2.2.1 rr.2.2.2 ++ wP cy pq rr.1 rr.2.1 ++ wH cy hq h_alive h_late h_hbr h_rbh h_waits h_pers h_size h_ranks h_lines) none := by
  refine zM.mk (cc := cX7_tree) (nL := 3) (ret := none) (by decide) rfl (Nat.le_of_ble_eq_true rfl) ?_
  intro p e s m below meth c A ls X hr hH hl
  replace X : zX p s m [.ref (wq 0), .int x1].toArray meth c RX7 cX7_tree 3 wsX7_tree G cy A := X
  have hx := X.1.1
  have hb := X.1.2.1
  replace hl : lv_has ls 3 [(0, .ref (wq 0)), (1, .int x1)] := hl
  dsimp only [f_X7_tree] at h
  refine lv_iload_n (pc := 0) hx hb dX7_tree_0 rfl (lv_at hl 1 rfl) ?_
  refine lv_if_eq (pc := 1) (tgt := 24) hx hb dX7_tree_1 rfl (fun zc1 => ?_) (fun zc1 => ?_)
  · have h := zt zc1 h
    refine lv_iload_n (pc := 24) hx hb dX7_tree_24 rfl (lv_at hl 1 rfl) ?_
    refine lv_iconst (v := 1) (pc := 25) hx hb dX7_tree_25 zk_c1 ?_
    refine lv_icmp_eq (pc := 26) (tgt := 52) hx hb dX7_tree_26 rfl (fun zc2 => ?_) (fun zc2 => ?_)
    · exact absurd (zc1.symm.trans zc2) (by decide)
    refine lv_iconst (v := 1) (pc := 29) hx hb dX7_tree_29 zk_c1 ?_
    refine lv_istore_n (pc := 30) (lv' := [(2, .int 1), (0, .ref (wq 0)), (1, .int x1)]) hx hb dX7_tree_30 rfl hl (by decide) rfl (fun ls hl => ?_)
    obtain ⟨zr3, hzr3, h⟩ := zb h
    refine w_X7_tree_l31 G cy fu wq pq hq h_alive h_late h_hbr h_rbh h_waits h_pers h_size h_ranks h_lines w_m w_root X fu 1 p_packed p_size w_step w_lacks zr3 hzr3 _ _ _ hH (lv_sub hl [1, 0] rfl) (fun H locs ls hH hl => ?_)
    obtain rfl := Option.some.inj h
    exact z_vret X hr hH dX7_tree_52
  have h := zf zc1 h
  refine lv_bipush (v := 16) (pc := 4) hx hb dX7_tree_4 zk_b16 ?_
  refine lv_istore_n (pc := 6) (lv' := [(2, .int 16), (0, .ref (wq 0)), (1, .int x1)]) hx hb dX7_tree_6 rfl hl (by decide) rfl (fun ls hl => ?_)
  obtain ⟨zr4, hzr4, h⟩ := zb h
  refine w_X7_tree_l7 G cy fu wq pq hq h_alive h_late h_hbr h_rbh h_waits h_pers h_size h_ranks h_lines w_m w_root x1 X fu 16 p_packed p_size w_step w_lacks zr4 hzr4 _ _ _ hH (lv_sub hl [1, 2, 0] rfl) (fun H locs ls hH hl => ?_)
  refine lv_iload_n (pc := 24) hx hb dX7_tree_24 rfl (lv_at hl 1 rfl) ?_
  refine lv_iconst (v := 1) (pc := 25) hx hb dX7_tree_25 zk_c1 ?_
  refine lv_icmp_eq (pc := 26) (tgt := 52) hx hb dX7_tree_26 rfl (fun zc5 => ?_) (fun zc5 => ?_)
  · have h := zt zc5 h
    obtain rfl := Option.some.inj h
    exact z_vret X hr hH dX7_tree_52
  have h := zf zc5 h
  refine lv_iconst (v := 1) (pc := 29) hx hb dX7_tree_29 zk_c1 ?_
  refine lv_istore_n (pc := 30) (lv' := [(2, .int 1), (0, .ref (wq 0)), (1, .int x1)]) hx hb dX7_tree_30 rfl hl (by decide) rfl (fun ls hl => ?_)
  obtain ⟨zr6, hzr6, h⟩ := zb h
  refine w_X7_tree_l31 G cy fu wq pq hq h_alive h_late h_hbr h_rbh h_waits h_pers h_size h_ranks h_lines w_m w_root X fu 1 zr4.1 zr4.2.1 zr4.2.2.1 zr4.2.2.2 zr6 hzr6 _ _ _ hH (lv_sub hl [1, 0] rfl) (fun H locs ls hH hl => ?_)
  obtain rfl := Option.some.inj h
  exact z_vret X hr hH dX7_tree_52
set_option maxHeartbeats 4000000 in
set_option maxRecDepth 100000 in
theorem w_X7_halving_l12 {p : Program} {l : Launch} {e : Env} {s : State} {m : MethodId} {args : Array Value} {below : List Frame} {meth : Method} {c : Code} {A : Nat → Prop} {Q : State → Prop} (G : va_G) (cy : Nat → ClassId) (fu : Nat) (wq : Nat → Nat) (pq : Nat → Nat) (hq : Nat → Nat) (h_alive : Nat → Int32) (h_late : Nat → Int32) (h_hbr : Nat → Int32) (h_rbh : Nat → Int32) (h_waits : Nat → Int32) (h_pers : Nat → Int32) (h_size : Int32) (h_ranks : Int32) (h_lines : Int32) (w_m : Int32) (w_root : Int32) (w_step : Int32) (x1 : Int32) (x2 : Int32) (X : zX p s m args meth c RX7 cX7_halving 5 wsX7_halving G cy A) : ∀ (n : Nat) (x3 : Int32) (p_packed : Nat → Int32) (p_size : Int32) (w_lacks : Int32) (rr : (Nat → Int32) × Int32 × Int32) (h : lp (f_X7_halving_l12 fu h_hbr h_waits h_ranks w_m w_step x1 x2) n (x3, p_packed, p_size, w_lacks) = some rr) (H : Heap) (locs : List Loc) (ls : Array Slot) (hH : zH G A s.heap (wW cy wq (.ref (pq 0)) (.ref (hq 0)) w_m w_root w_step w_lacks ++ wP cy pq p_packed p_size ++ wH cy hq h_alive h_late h_hbr h_rbh h_waits h_pers h_size h_ranks h_lines) H locs) (hl : lv_has ls 5 [(0, .ref (wq 0)), (1, .int x1), (2, .int x2), (3, .int x3)]) (K0 : ∀ (H : Heap) (locs : List Loc) (ls : Array Slot), zH G A s.heap (wW cy wq (.ref (pq 0)) (.ref (hq 0)) w_m w_root w_step rr.2.2 ++ wP cy pq rr.1 rr.2.1 ++ wH cy hq h_alive h_late h_hbr h_rbh h_waits h_pers h_size h_ranks h_lines) H locs → lv_has ls 5 [(0, .ref (wq 0)), (1, .int x1), (2, .int x2)] → W p l e (zR 3 80) s m args below meth c H locs 0 0 Q (F0 m 66 ls [])), W p l e (zR 3 80) s m args below meth c H locs 0 0 Q (F0 m 12 ls []) := by
  have hx := X.1.1
  have hb := X.1.2.1
  intro n
  induction n with
  | zero => intro x3 p_packed p_size w_lacks rr h H locs ls hH hl K0; cases h
  | succ n ih =>
    intro x3 p_packed p_size w_lacks rr h H locs ls hH hl K0
    replace h : f_X7_halving_l12 fu h_hbr h_waits h_ranks w_m w_step x1 x2 (lp (f_X7_halving_l12 fu h_hbr h_waits h_ranks w_m w_step x1 x2) n) (x3, p_packed, p_size, w_lacks) = some rr := h
    dsimp only [f_X7_halving_l12] at h
    refine lv_iload_n (pc := 12) hx hb dX7_halving_12 rfl (lv_at hl 3 rfl) ?_
    refine lv_aload_n (pc := 13) hx hb dX7_halving_13 rfl (lv_at hl 0 rfl) ?_
    refine z_get (pc := 14) (v := .int w_m) X iX7_halving_X7 hH 0 rfl rfl 2 rfl (List.mem_of_getElem? (i := 1) rfl) rfl dX7_halving_14 ?_
    refine lv_icmp_ge (pc := 17) (tgt := 66) hx hb dX7_halving_17 rfl (fun zc1 => ?_) (fun zc1 => ?_)
    · have h := zt zc1 h
      obtain rfl := Option.some.inj h
      exact K0 _ _ _ hH (lv_sub hl [0, 1, 2] rfl)
    have h := zf zc1 h
    refine lv_iload_n (pc := 20) hx hb dX7_halving_20 rfl (lv_at hl 1 rfl) ?_
    refine lv_iconst (v := 2) (pc := 21) hx hb dX7_halving_21 zk_c2 ?_
    refine lv_icmp_ne (pc := 22) (tgt := 37) hx hb dX7_halving_22 rfl (fun zc2 => ?_) (fun zc2 => ?_)
    · have h := zf zc2 h
      refine lv_iload_n (pc := 37) hx hb dX7_halving_37 rfl (lv_at hl 3 rfl) ?_
      refine lv_iload_n (pc := 38) hx hb dX7_halving_38 rfl (lv_at hl 3 rfl) ?_
      refine lv_iload_n (pc := 39) hx hb dX7_halving_39 rfl (lv_at hl 2 rfl) ?_
      refine lv_iconst (v := 1) (pc := 40) hx hb dX7_halving_40 zk_c1 ?_
      refine lv_isub (pc := 41) hx hb dX7_halving_41 ?_
      refine lv_iand (pc := 42) hx hb dX7_halving_42 ?_
      refine lv_isub (pc := 43) hx hb dX7_halving_43 ?_
      refine lv_topi (fun za3 eza3 => ?_)
      have h := vn_s h za3 eza3
      refine lv_istore (pc := 44) (lv' := [(4, .int za3), (0, .ref (wq 0)), (1, .int x1), (2, .int x2), (3, .int x3)]) hx hb dX7_halving_44 hl (by decide) rfl (fun ls hl => ?_)
      refine lv_aload_n (pc := 46) hx hb dX7_halving_46 rfl (lv_at hl 1 rfl) ?_
      refine lv_iload_n (pc := 47) hx hb dX7_halving_47 rfl (lv_at hl 4 rfl) ?_
      refine lv_iload_n (pc := 48) hx hb dX7_halving_48 rfl (lv_at hl 4 rfl) ?_
      refine lv_iload_n (pc := 49) hx hb dX7_halving_49 rfl (lv_at hl 3 rfl) ?_
      refine lv_ixor (pc := 50) hx hb dX7_halving_50 ?_
      refine lv_iload (pc := 51) hx hb dX7_halving_51 (lv_at hl 0 rfl) ?_
      refine lv_iload (pc := 53) hx hb dX7_halving_53 (lv_at hl 0 rfl) ?_
      refine lv_iload_n (pc := 55) hx hb dX7_halving_55 rfl (lv_at hl 3 rfl) ?_
      refine lv_iconst (v := 0) (pc := 56) hx hb dX7_halving_56 zk_c0 ?_
      obtain ⟨zr4, hzr4, h⟩ := zb h
      refine zcV (pc := 57) (As := [.int x3, .int (x3 ^^^ x2), .int za3, .int za3, .int x2, .int 0]) (rest := []) (st1 := []) (ws' := wW cy wq (.ref (pq 0)) (.ref (hq 0)) w_m w_root w_step zr4.2.2 ++ wP cy pq zr4.1 zr4.2.1 ++ wH cy hq h_alive h_late h_hbr h_rbh h_waits h_pers h_size h_ranks h_lines) (wr := []) (n := 6) (q0 := 0) X (c_X7_give l G cy fu wq pq hq h_alive h_late h_hbr h_rbh h_waits h_pers h_size h_ranks h_lines p_packed p_size w_m w_root w_step w_lacks x3 (x3 ^^^ x2) za3 za3 x2 0 zr4 hzr4) hH [0, 1, 2, 3, 4, 5, 6, 7, 8, 9] [] [0, 1, 2, 3, 4, 5, 6, 7, 8, 9] rfl rfl rfl rfl gX7_halving_X7_give rfl ⟨rfl, rfl⟩ kX7_give ⟨Nat.le_of_ble_eq_true rfl, Nat.le_of_ble_eq_true rfl⟩ rfl rfl rfl rfl rfl hl.1 (Nat.le_of_ble_eq_true rfl) ⟨Nat.le_of_ble_eq_true rfl, Nat.le_of_ble_eq_true rfl⟩ dX7_halving_57 (fun H locs hH => ?_)
      refine lv_iinc (pc := 60) (v := (x3 + 1)) (lv' := [(3, .int (x3 + 1)), (4, .int za3), (0, .ref (wq 0)), (1, .int x1), (2, .int x2)]) hx hb dX7_halving_60 hl (k := 4) rfl (by rw [zk_c1]) (by decide) rfl (fun ls hl => ?_)
      refine lv_goto (pc := 63) (tgt := 12) hx hb dX7_halving_63 rfl ?_
      exact ih (x3 + 1) zr4.1 zr4.2.1 zr4.2.2 rr h _ _ _ hH (lv_sub hl [2, 3, 4, 0] rfl) K0
    have h := zt zc2 h
    refine lv_aload_n (pc := 25) hx hb dX7_halving_25 rfl (lv_at hl 0 rfl) ?_
    refine lv_iload_n (pc := 26) hx hb dX7_halving_26 rfl (lv_at hl 3 rfl) ?_
    refine lv_iload_n (pc := 27) hx hb dX7_halving_27 rfl (lv_at hl 3 rfl) ?_
    refine lv_iload_n (pc := 28) hx hb dX7_halving_28 rfl (lv_at hl 2 rfl) ?_
    refine lv_ixor (pc := 29) hx hb dX7_halving_29 ?_
    refine lv_iconst (v := 1) (pc := 30) hx hb dX7_halving_30 zk_c1 ?_
    obtain ⟨zr5, hzr5, h⟩ := zb h
    refine zcV (pc := 31) (As := [.int x3, .int (x3 ^^^ x2), .int 1]) (rest := []) (st1 := []) (ws' := wW cy wq (.ref (pq 0)) (.ref (hq 0)) w_m w_root w_step zr5.2.2 ++ wP cy pq zr5.1 zr5.2.1 ++ wH cy hq h_alive h_late h_hbr h_rbh h_waits h_pers h_size h_ranks h_lines) (wr := []) (n := 3) (q0 := 0) X (c_X7_giveAll l G cy fu wq pq hq h_alive h_late h_hbr h_rbh h_waits h_pers h_size h_ranks h_lines p_packed p_size w_m w_root w_step w_lacks x3 (x3 ^^^ x2) 1 zr5 hzr5) hH [0, 1, 2, 3, 4, 5, 6, 7, 8, 9] [] [0, 1, 2, 3, 4, 5, 6, 7, 8, 9] rfl rfl rfl rfl gX7_halving_X7_giveAll rfl ⟨rfl, rfl⟩ kX7_giveAll ⟨Nat.le_of_ble_eq_true rfl, Nat.le_of_ble_eq_true rfl⟩ rfl rfl rfl rfl rfl hl.1 (Nat.le_of_ble_eq_true rfl) ⟨Nat.le_of_ble_eq_true rfl, Nat.le_of_ble_eq_true rfl⟩ dX7_halving_31 (fun H locs hH => ?_)
    refine lv_goto (pc := 34) (tgt := 60) hx hb dX7_halving_34 rfl ?_
    refine lv_iinc (pc := 60) (v := (x3 + 1)) (lv' := [(3, .int (x3 + 1)), (0, .ref (wq 0)), (1, .int x1), (2, .int x2)]) hx hb dX7_halving_60 hl (k := 3) rfl (by rw [zk_c1]) (by decide) rfl (fun ls hl => ?_)
    refine lv_goto (pc := 63) (tgt := 12) hx hb dX7_halving_63 rfl ?_
    exact ih (x3 + 1) zr5.1 zr5.2.1 zr5.2.2 rr h _ _ _ hH (lv_sub hl [1, 2, 3, 0] rfl) K0
set_option maxHeartbeats 4000000 in
set_option maxRecDepth 100000 in
theorem w_X7_halving_l2 {p : Program} {l : Launch} {e : Env} {s : State} {m : MethodId} {args : Array Value} {below : List Frame} {meth : Method} {c : Code} {A : Nat → Prop} {Q : State → Prop} (G : va_G) (cy : Nat → ClassId) (fu : Nat) (wq : Nat → Nat) (pq : Nat → Nat) (hq : Nat → Nat) (h_alive : Nat → Int32) (h_late : Nat → Int32) (h_hbr : Nat → Int32) (h_rbh : Nat → Int32) (h_waits : Nat → Int32) (h_pers : Nat → Int32) (h_size : Int32) (h_ranks : Int32) (h_lines : Int32) (w_m : Int32) (w_root : Int32) (x1 : Int32) (X : zX p s m args meth c RX7 cX7_halving 5 wsX7_halving G cy A) : ∀ (n : Nat) (x2 : Int32) (p_packed : Nat → Int32) (p_size : Int32) (w_step : Int32) (w_lacks : Int32) (rr : (Nat → Int32) × Int32 × Int32 × Int32) (h : lp (f_X7_halving_l2 fu h_hbr h_waits h_ranks w_m x1) n (x2, p_packed, p_size, w_step, w_lacks) = some rr) (H : Heap) (locs : List Loc) (ls : Array Slot) (hH : zH G A s.heap (wW cy wq (.ref (pq 0)) (.ref (hq 0)) w_m w_root w_step w_lacks ++ wP cy pq p_packed p_size ++ wH cy hq h_alive h_late h_hbr h_rbh h_waits h_pers h_size h_ranks h_lines) H locs) (hl : lv_has ls 5 [(0, .ref (wq 0)), (1, .int x1), (2, .int x2)]) (K0 : ∀ (H : Heap) (locs : List Loc) (ls : Array Slot), zH G A s.heap (wW cy wq (.ref (pq 0)) (.ref (hq 0)) w_m w_root rr.2.2.1 rr.2.2.2 ++ wP cy pq rr.1 rr.2.1 ++ wH cy hq h_alive h_late h_hbr h_rbh h_waits h_pers h_size h_ranks h_lines) H locs → lv_has ls 5 [] → W p l e (zR 3 80) s m args below meth c H locs 0 0 Q (F0 m 77 ls [])), W p l e (zR 3 80) s m args below meth c H locs 0 0 Q (F0 m 2 ls []) := by
  have hx := X.1.1
  have hb := X.1.2.1
  intro n
  induction n with
  | zero => intro x2 p_packed p_size w_step w_lacks rr h H locs ls hH hl K0; cases h
  | succ n ih =>
    intro x2 p_packed p_size w_step w_lacks rr h H locs ls hH hl K0
    replace h : f_X7_halving_l2 fu h_hbr h_waits h_ranks w_m x1 (lp (f_X7_halving_l2 fu h_hbr h_waits h_ranks w_m x1) n) (x2, p_packed, p_size, w_step, w_lacks) = some rr := h
    dsimp only [f_X7_halving_l2] at h
    refine lv_iload_n (pc := 2) hx hb dX7_halving_2 rfl (lv_at hl 2 rfl) ?_
    refine lv_aload_n (pc := 3) hx hb dX7_halving_3 rfl (lv_at hl 0 rfl) ?_
    refine z_get (pc := 4) (v := .int w_m) X iX7_halving_X7 hH 0 rfl rfl 2 rfl (List.mem_of_getElem? (i := 1) rfl) rfl dX7_halving_4 ?_
    refine lv_icmp_ge (pc := 7) (tgt := 77) hx hb dX7_halving_7 rfl (fun zc1 => ?_) (fun zc1 => ?_)
    · have h := zt zc1 h
      obtain rfl := Option.some.inj h
      exact K0 _ _ _ hH (lv_sub hl [] rfl)
    have h := zf zc1 h
    refine lv_iconst (v := 0) (pc := 10) hx hb dX7_halving_10 zk_c0 ?_
    refine lv_istore_n (pc := 11) (lv' := [(3, .int 0), (0, .ref (wq 0)), (1, .int x1), (2, .int x2)]) hx hb dX7_halving_11 rfl hl (by decide) rfl (fun ls hl => ?_)
    obtain ⟨zr2, hzr2, h⟩ := zb h
    refine w_X7_halving_l12 G cy fu wq pq hq h_alive h_late h_hbr h_rbh h_waits h_pers h_size h_ranks h_lines w_m w_root w_step x1 x2 X fu 0 p_packed p_size w_lacks zr2 hzr2 _ _ _ hH (lv_sub hl [1, 2, 3, 0] rfl) (fun H locs ls hH hl => ?_)
    refine lv_aload_n (pc := 66) hx hb dX7_halving_66 rfl (lv_at hl 0 rfl) ?_
    obtain ⟨zr3, hzr3, h⟩ := zb h
    refine zcV (pc := 67) (As := []) (rest := []) (st1 := []) (ws' := wW cy wq (.ref (pq 0)) (.ref (hq 0)) w_m w_root zr3 zr2.2.2 ++ wP cy pq zr2.1 zr2.2.1 ++ wH cy hq h_alive h_late h_hbr h_rbh h_waits h_pers h_size h_ranks h_lines) (wr := []) (n := 0) (q0 := 0) X (c_X7_endStep l G cy fu wq pq hq h_alive h_late h_hbr h_rbh h_waits h_pers h_size h_ranks h_lines zr2.1 zr2.2.1 w_m w_root w_step zr2.2.2 zr3 hzr3) hH [0, 1, 2, 3, 4, 5, 6, 7, 8, 9] [] [0, 1, 2, 3, 4, 5, 6, 7, 8, 9] rfl rfl rfl rfl gX7_halving_X7_endStep rfl ⟨rfl, rfl⟩ kX7_endStep ⟨Nat.le_of_ble_eq_true rfl, Nat.le_of_ble_eq_true rfl⟩ rfl rfl rfl rfl rfl hl.1 (Nat.le_of_ble_eq_true rfl) ⟨Nat.le_of_ble_eq_true rfl, Nat.le_of_ble_eq_true rfl⟩ dX7_halving_67 (fun H locs hH => ?_)
    refine lv_iload_n (pc := 70) hx hb dX7_halving_70 rfl (lv_at hl 2 rfl) ?_
    refine lv_iconst (v := 1) (pc := 71) hx hb dX7_halving_71 zk_c1 ?_
    refine lv_ishl (pc := 72) hx hb dX7_halving_72 ?_
    refine lv_topi (fun za4 eza4 => ?_)
    have h := vn_s h za4 eza4
    refine lv_istore_n (pc := 73) (lv' := [(2, .int za4), (0, .ref (wq 0)), (1, .int x1)]) hx hb dX7_halving_73 rfl hl (by decide) rfl (fun ls hl => ?_)
    refine lv_goto (pc := 74) (tgt := 2) hx hb dX7_halving_74 rfl ?_
    exact ih za4 zr2.1 zr2.2.1 zr3 zr2.2.2 rr h _ _ _ hH (lv_sub hl [1, 2, 0] rfl) K0
set_option maxHeartbeats 4000000 in
set_option maxRecDepth 100000 in
theorem c_X7_halving (l : Launch) (G : va_G) (cy : Nat → ClassId) (fu : Nat) (wq : Nat → Nat) (pq : Nat → Nat) (hq : Nat → Nat) (h_alive : Nat → Int32) (h_late : Nat → Int32) (h_hbr : Nat → Int32) (h_rbh : Nat → Int32) (h_waits : Nat → Int32) (h_pers : Nat → Int32) (h_size : Int32) (h_ranks : Int32) (h_lines : Int32) (p_packed : Nat → Int32) (p_size : Int32) (w_m : Int32) (w_root : Int32) (w_step : Int32) (w_lacks : Int32) (x1 : Int32) (rr : (Nat → Int32) × Int32 × Int32 × Int32) (h : f_X7_halving fu h_hbr h_waits h_ranks p_packed p_size w_m w_step w_lacks x1 = some rr) : zM l G cy yX7_halving wsX7_halving (zR 3 80) [.ref (wq 0), .int x1] (wW cy wq (.ref (pq 0)) (.ref (hq 0)) w_m w_root w_step w_lacks ++ wP cy pq p_packed p_size ++ wH cy hq h_alive h_late h_hbr h_rbh h_waits h_pers h_size h_ranks h_lines) (wW cy wq (.ref (pq 0)) (.ref (hq 0)) w_m w_root rr.2.2.1 rr.2.2.2 ++ wP cy pq rr.1 rr.2.1 ++ wH cy hq h_alive h_late h_hbr h_rbh h_waits h_pers h_size h_ranks h_lines) none := by
  refine zM.mk (cc := cX7_halving) (nL := 5) (ret := none) (by decide) rfl (Nat.le_of_ble_eq_true rfl) ?_
  intro p e s m below meth c A ls X hr hH hl
  replace X : zX p s m [.ref (wq 0), .int x1].toArray meth c RX7 cX7_halving 5 wsX7_halving G cy A := X
  have hx := X.1.1
  have hb := X.1.2.1
  replace hl : lv_has ls 5 [(0, .ref (wq 0)), (1, .int x1)] := hl
  dsimp only [f_X7_halving] at h
  refine lv_iconst (v := 1) (pc := 0) hx hb dX7_halving_0 zk_c1 ?_
  refine lv_istore_n (pc := 1) (lv' := [(2, .int 1), (0, .ref (wq 0)), (1, .int x1)]) hx hb dX7_halving_1 rfl hl (by decide) rfl (fun ls hl => ?_)
  obtain ⟨zr1, hzr1, h⟩ := zb h
  refine w_X7_halving_l2 G cy fu wq pq hq h_alive h_late h_hbr h_rbh h_waits h_pers h_size h_ranks h_lines w_m w_root x1 X fu 1 p_packed p_size w_step w_lacks zr1 hzr1 _ _ _ hH (lv_sub hl [1, 2, 0] rfl) (fun H locs ls hH hl => ?_)
  obtain rfl := Option.some.inj h
  exact z_vret X hr hH dX7_halving_77
set_option maxHeartbeats 4000000 in
set_option maxRecDepth 100000 in
theorem w_X7_directWithRoot_l2 {p : Program} {l : Launch} {e : Env} {s : State} {m : MethodId} {args : Array Value} {below : List Frame} {meth : Method} {c : Code} {A : Nat → Prop} {Q : State → Prop} (G : va_G) (cy : Nat → ClassId) (fu : Nat) (wq : Nat → Nat) (pq : Nat → Nat) (hq : Nat → Nat) (h_alive : Nat → Int32) (h_late : Nat → Int32) (h_hbr : Nat → Int32) (h_rbh : Nat → Int32) (h_waits : Nat → Int32) (h_pers : Nat → Int32) (h_size : Int32) (h_ranks : Int32) (h_lines : Int32) (w_m : Int32) (w_root : Int32) (x1 : Int32) (X : zX p s m args meth c RX7 cX7_directWithRoot 3 wsX7_directWithRoot G cy A) : ∀ (n : Nat) (x2 : Int32) (p_packed : Nat → Int32) (p_size : Int32) (w_step : Int32) (w_lacks : Int32) (rr : (Nat → Int32) × Int32 × Int32 × Int32) (h : lp (f_X7_directWithRoot_l2 fu h_hbr h_waits h_ranks w_m w_root x1) n (x2, p_packed, p_size, w_step, w_lacks) = some rr) (H : Heap) (locs : List Loc) (ls : Array Slot) (hH : zH G A s.heap (wW cy wq (.ref (pq 0)) (.ref (hq 0)) w_m w_root w_step w_lacks ++ wP cy pq p_packed p_size ++ wH cy hq h_alive h_late h_hbr h_rbh h_waits h_pers h_size h_ranks h_lines) H locs) (hl : lv_has ls 3 [(0, .ref (wq 0)), (1, .int x1), (2, .int x2)]) (K0 : ∀ (H : Heap) (locs : List Loc) (ls : Array Slot), zH G A s.heap (wW cy wq (.ref (pq 0)) (.ref (hq 0)) w_m w_root rr.2.2.1 rr.2.2.2 ++ wP cy pq rr.1 rr.2.1 ++ wH cy hq h_alive h_late h_hbr h_rbh h_waits h_pers h_size h_ranks h_lines) H locs → lv_has ls 3 [] → W p l e (zR 3 80) s m args below meth c H locs 0 0 Q (F0 m 55 ls [])), W p l e (zR 3 80) s m args below meth c H locs 0 0 Q (F0 m 2 ls []) := by
  have hx := X.1.1
  have hb := X.1.2.1
  intro n
  induction n with
  | zero => intro x2 p_packed p_size w_step w_lacks rr h H locs ls hH hl K0; cases h
  | succ n ih =>
    intro x2 p_packed p_size w_step w_lacks rr h H locs ls hH hl K0
    replace h : f_X7_directWithRoot_l2 fu h_hbr h_waits h_ranks w_m w_root x1 (lp (f_X7_directWithRoot_l2 fu h_hbr h_waits h_ranks w_m w_root x1) n) (x2, p_packed, p_size, w_step, w_lacks) = some rr := h
    dsimp only [f_X7_directWithRoot_l2] at h
    refine lv_iload_n (pc := 2) hx hb dX7_directWithRoot_2 rfl (lv_at hl 2 rfl) ?_
    refine lv_aload_n (pc := 3) hx hb dX7_directWithRoot_3 rfl (lv_at hl 0 rfl) ?_
    refine z_get (pc := 4) (v := .int w_m) X iX7_directWithRoot_X7 hH 0 rfl rfl 2 rfl (List.mem_of_getElem? (i := 1) rfl) rfl dX7_directWithRoot_4 ?_
    refine lv_icmp_ge (pc := 7) (tgt := 55) hx hb dX7_directWithRoot_7 rfl (fun zc1 => ?_) (fun zc1 => ?_)
    · have h := zt zc1 h
      obtain rfl := Option.some.inj h
      exact K0 _ _ _ hH (lv_sub hl [] rfl)
    have h := zf zc1 h
    refine lv_iload_n (pc := 10) hx hb dX7_directWithRoot_10 rfl (lv_at hl 1 rfl) ?_
    refine lv_if_eq (pc := 11) (tgt := 31) hx hb dX7_directWithRoot_11 rfl (fun zc2 => ?_) (fun zc2 => ?_)
    · have h := zt zc2 h
      refine lv_aload_n (pc := 31) hx hb dX7_directWithRoot_31 rfl (lv_at hl 0 rfl) ?_
      refine lv_aload_n (pc := 32) hx hb dX7_directWithRoot_32 rfl (lv_at hl 0 rfl) ?_
      refine z_get (pc := 33) (v := .int w_root) X iX7_directWithRoot_X7 hH 0 rfl rfl 3 rfl (List.mem_of_getElem? (i := 2) rfl) rfl dX7_directWithRoot_33 ?_
      refine lv_aload_n (pc := 36) hx hb dX7_directWithRoot_36 rfl (lv_at hl 0 rfl) ?_
      refine lv_iload_n (pc := 37) hx hb dX7_directWithRoot_37 rfl (lv_at hl 2 rfl) ?_
      obtain ⟨zr3, hzr3, h⟩ := zb h
      refine zcV (pc := 38) (As := [.int x2]) (rest := [.int w_root, .ref (wq 0)]) (st1 := [.int zr3, .int w_root, .ref (wq 0)]) (ws' := wW cy wq (.ref (pq 0)) (.ref (hq 0)) w_m w_root w_step w_lacks ++ wP cy pq p_packed p_size ++ wH cy hq h_alive h_late h_hbr h_rbh h_waits h_pers h_size h_ranks h_lines) (wr := [((pq 0), .inr (3, [.ref (pq 1), .int p_size])), ((pq 1), .inl (cy 0, 1200, .inl p_packed)), ((hq 0), .inr (2, [.ref (hq 1), .ref (hq 2), .ref (hq 3), .ref (hq 4), .ref (hq 5), .ref (hq 6), .int h_size, .int h_ranks, .int h_lines])), ((hq 1), .inl (cy 2, 16, .inl h_alive)), ((hq 2), .inl (cy 0, 16, .inl h_late)), ((hq 3), .inl (cy 0, 16, .inl h_hbr)), ((hq 4), .inl (cy 0, 16, .inl h_rbh)), ((hq 5), .inl (cy 0, 256, .inl h_waits)), ((hq 6), .inl (cy 0, 256, .inl h_pers))]) (n := 1) (q0 := 0) X (c_X7_rankOfQ l G cy fu wq (.ref (pq 0)) (.ref (hq 0)) w_m w_root w_step w_lacks x2 zr3 hzr3) hH [0] [1, 2, 3, 4, 5, 6, 7, 8, 9] [9, 0, 1, 2, 3, 4, 5, 6, 7, 8] rfl rfl rfl rfl gX7_directWithRoot_X7_rankOfQ rfl ⟨rfl, rfl⟩ kX7_rankOfQ ⟨Nat.le_of_ble_eq_true rfl, Nat.le_of_ble_eq_true rfl⟩ rfl rfl rfl rfl rfl hl.1 (Nat.le_of_ble_eq_true rfl) ⟨Nat.le_of_ble_eq_true rfl, Nat.le_of_ble_eq_true rfl⟩ dX7_directWithRoot_38 (fun H locs hH => ?_)
      refine lv_iconst (v := 0) (pc := 41) hx hb dX7_directWithRoot_41 zk_c0 ?_
      obtain ⟨zr4, hzr4, h⟩ := zb h
      refine zcV (pc := 42) (As := [.int w_root, .int zr3, .int 0]) (rest := []) (st1 := []) (ws' := wW cy wq (.ref (pq 0)) (.ref (hq 0)) w_m w_root w_step zr4.2.2 ++ wP cy pq zr4.1 zr4.2.1 ++ wH cy hq h_alive h_late h_hbr h_rbh h_waits h_pers h_size h_ranks h_lines) (wr := []) (n := 3) (q0 := 0) X (c_X7_giveAll l G cy fu wq pq hq h_alive h_late h_hbr h_rbh h_waits h_pers h_size h_ranks h_lines p_packed p_size w_m w_root w_step w_lacks w_root zr3 0 zr4 hzr4) hH [0, 1, 2, 3, 4, 5, 6, 7, 8, 9] [] [0, 1, 2, 3, 4, 5, 6, 7, 8, 9] rfl rfl rfl rfl gX7_directWithRoot_X7_giveAll rfl ⟨rfl, rfl⟩ kX7_giveAll ⟨Nat.le_of_ble_eq_true rfl, Nat.le_of_ble_eq_true rfl⟩ rfl rfl rfl rfl rfl hl.1 (Nat.le_of_ble_eq_true rfl) ⟨Nat.le_of_ble_eq_true rfl, Nat.le_of_ble_eq_true rfl⟩ dX7_directWithRoot_42 (fun H locs hH => ?_)
      refine lv_aload_n (pc := 45) hx hb dX7_directWithRoot_45 rfl (lv_at hl 0 rfl) ?_
      obtain ⟨zr5, hzr5, h⟩ := zb h
      refine zcV (pc := 46) (As := []) (rest := []) (st1 := []) (ws' := wW cy wq (.ref (pq 0)) (.ref (hq 0)) w_m w_root zr5 zr4.2.2 ++ wP cy pq zr4.1 zr4.2.1 ++ wH cy hq h_alive h_late h_hbr h_rbh h_waits h_pers h_size h_ranks h_lines) (wr := []) (n := 0) (q0 := 0) X (c_X7_endStep l G cy fu wq pq hq h_alive h_late h_hbr h_rbh h_waits h_pers h_size h_ranks h_lines zr4.1 zr4.2.1 w_m w_root w_step zr4.2.2 zr5 hzr5) hH [0, 1, 2, 3, 4, 5, 6, 7, 8, 9] [] [0, 1, 2, 3, 4, 5, 6, 7, 8, 9] rfl rfl rfl rfl gX7_directWithRoot_X7_endStep rfl ⟨rfl, rfl⟩ kX7_endStep ⟨Nat.le_of_ble_eq_true rfl, Nat.le_of_ble_eq_true rfl⟩ rfl rfl rfl rfl rfl hl.1 (Nat.le_of_ble_eq_true rfl) ⟨Nat.le_of_ble_eq_true rfl, Nat.le_of_ble_eq_true rfl⟩ dX7_directWithRoot_46 (fun H locs hH => ?_)
      refine lv_iinc (pc := 49) (v := (x2 + 1)) (lv' := [(2, .int (x2 + 1)), (0, .ref (wq 0)), (1, .int x1)]) hx hb dX7_directWithRoot_49 hl (k := 2) rfl (by rw [zk_c1]) (by decide) rfl (fun ls hl => ?_)
      refine lv_goto (pc := 52) (tgt := 2) hx hb dX7_directWithRoot_52 rfl ?_
      exact ih (x2 + 1) zr4.1 zr4.2.1 zr5 zr4.2.2 rr h _ _ _ hH (lv_sub hl [1, 2, 0] rfl) K0
    have h := zf zc2 h
    refine lv_aload_n (pc := 14) hx hb dX7_directWithRoot_14 rfl (lv_at hl 0 rfl) ?_
    refine lv_aload_n (pc := 15) hx hb dX7_directWithRoot_15 rfl (lv_at hl 0 rfl) ?_
    refine lv_iload_n (pc := 16) hx hb dX7_directWithRoot_16 rfl (lv_at hl 2 rfl) ?_
    obtain ⟨zr6, hzr6, h⟩ := zb h
    refine zcV (pc := 17) (As := [.int x2]) (rest := [.ref (wq 0)]) (st1 := [.int zr6, .ref (wq 0)]) (ws' := wW cy wq (.ref (pq 0)) (.ref (hq 0)) w_m w_root w_step w_lacks ++ wP cy pq p_packed p_size ++ wH cy hq h_alive h_late h_hbr h_rbh h_waits h_pers h_size h_ranks h_lines) (wr := [((pq 0), .inr (3, [.ref (pq 1), .int p_size])), ((pq 1), .inl (cy 0, 1200, .inl p_packed)), ((hq 0), .inr (2, [.ref (hq 1), .ref (hq 2), .ref (hq 3), .ref (hq 4), .ref (hq 5), .ref (hq 6), .int h_size, .int h_ranks, .int h_lines])), ((hq 1), .inl (cy 2, 16, .inl h_alive)), ((hq 2), .inl (cy 0, 16, .inl h_late)), ((hq 3), .inl (cy 0, 16, .inl h_hbr)), ((hq 4), .inl (cy 0, 16, .inl h_rbh)), ((hq 5), .inl (cy 0, 256, .inl h_waits)), ((hq 6), .inl (cy 0, 256, .inl h_pers))]) (n := 1) (q0 := 0) X (c_X7_rankOfQ l G cy fu wq (.ref (pq 0)) (.ref (hq 0)) w_m w_root w_step w_lacks x2 zr6 hzr6) hH [0] [1, 2, 3, 4, 5, 6, 7, 8, 9] [9, 0, 1, 2, 3, 4, 5, 6, 7, 8] rfl rfl rfl rfl gX7_directWithRoot_X7_rankOfQ rfl ⟨rfl, rfl⟩ kX7_rankOfQ ⟨Nat.le_of_ble_eq_true rfl, Nat.le_of_ble_eq_true rfl⟩ rfl rfl rfl rfl rfl hl.1 (Nat.le_of_ble_eq_true rfl) ⟨Nat.le_of_ble_eq_true rfl, Nat.le_of_ble_eq_true rfl⟩ dX7_directWithRoot_17 (fun H locs hH => ?_)
    refine lv_aload_n (pc := 20) hx hb dX7_directWithRoot_20 rfl (lv_at hl 0 rfl) ?_
    refine z_get (pc := 21) (v := .int w_root) X iX7_directWithRoot_X7 hH 0 rfl rfl 3 rfl (List.mem_of_getElem? (i := 2) rfl) rfl dX7_directWithRoot_21 ?_
    refine lv_iconst (v := 1) (pc := 24) hx hb dX7_directWithRoot_24 zk_c1 ?_
    obtain ⟨zr7, hzr7, h⟩ := zb h
    refine zcV (pc := 25) (As := [.int zr6, .int w_root, .int 1]) (rest := []) (st1 := []) (ws' := wW cy wq (.ref (pq 0)) (.ref (hq 0)) w_m w_root w_step zr7.2.2 ++ wP cy pq zr7.1 zr7.2.1 ++ wH cy hq h_alive h_late h_hbr h_rbh h_waits h_pers h_size h_ranks h_lines) (wr := []) (n := 3) (q0 := 0) X (c_X7_giveAll l G cy fu wq pq hq h_alive h_late h_hbr h_rbh h_waits h_pers h_size h_ranks h_lines p_packed p_size w_m w_root w_step w_lacks zr6 w_root 1 zr7 hzr7) hH [0, 1, 2, 3, 4, 5, 6, 7, 8, 9] [] [0, 1, 2, 3, 4, 5, 6, 7, 8, 9] rfl rfl rfl rfl gX7_directWithRoot_X7_giveAll rfl ⟨rfl, rfl⟩ kX7_giveAll ⟨Nat.le_of_ble_eq_true rfl, Nat.le_of_ble_eq_true rfl⟩ rfl rfl rfl rfl rfl hl.1 (Nat.le_of_ble_eq_true rfl) ⟨Nat.le_of_ble_eq_true rfl, Nat.le_of_ble_eq_true rfl⟩ dX7_directWithRoot_25 (fun H locs hH => ?_)
    refine lv_goto (pc := 28) (tgt := 45) hx hb dX7_directWithRoot_28 rfl ?_
    refine lv_aload_n (pc := 45) hx hb dX7_directWithRoot_45 rfl (lv_at hl 0 rfl) ?_
    obtain ⟨zr8, hzr8, h⟩ := zb h
    refine zcV (pc := 46) (As := []) (rest := []) (st1 := []) (ws' := wW cy wq (.ref (pq 0)) (.ref (hq 0)) w_m w_root zr8 zr7.2.2 ++ wP cy pq zr7.1 zr7.2.1 ++ wH cy hq h_alive h_late h_hbr h_rbh h_waits h_pers h_size h_ranks h_lines) (wr := []) (n := 0) (q0 := 0) X (c_X7_endStep l G cy fu wq pq hq h_alive h_late h_hbr h_rbh h_waits h_pers h_size h_ranks h_lines zr7.1 zr7.2.1 w_m w_root w_step zr7.2.2 zr8 hzr8) hH [0, 1, 2, 3, 4, 5, 6, 7, 8, 9] [] [0, 1, 2, 3, 4, 5, 6, 7, 8, 9] rfl rfl rfl rfl gX7_directWithRoot_X7_endStep rfl ⟨rfl, rfl⟩ kX7_endStep ⟨Nat.le_of_ble_eq_true rfl, Nat.le_of_ble_eq_true rfl⟩ rfl rfl rfl rfl rfl hl.1 (Nat.le_of_ble_eq_true rfl) ⟨Nat.le_of_ble_eq_true rfl, Nat.le_of_ble_eq_true rfl⟩ dX7_directWithRoot_46 (fun H locs hH => ?_)
    refine lv_iinc (pc := 49) (v := (x2 + 1)) (lv' := [(2, .int (x2 + 1)), (0, .ref (wq 0)), (1, .int x1)]) hx hb dX7_directWithRoot_49 hl (k := 2) rfl (by rw [zk_c1]) (by decide) rfl (fun ls hl => ?_)
    refine lv_goto (pc := 52) (tgt := 2) hx hb dX7_directWithRoot_52 rfl ?_
    exact ih (x2 + 1) zr7.1 zr7.2.1 zr8 zr7.2.2 rr h _ _ _ hH (lv_sub hl [1, 2, 0] rfl) K0
set_option maxHeartbeats 4000000 in
set_option maxRecDepth 100000 in
theorem c_X7_directWithRoot (l : Launch) (G : va_G) (cy : Nat → ClassId) (fu : Nat) (wq : Nat → Nat) (pq : Nat → Nat) (hq : Nat → Nat) (h_alive : Nat → Int32) (h_late : Nat → Int32) (h_hbr : Nat → Int32) (h_rbh : Nat → Int32) (h_waits : Nat → Int32) (h_pers : Nat → Int32) (h_size : Int32) (h_ranks : Int32) (h_lines : Int32) (p_packed : Nat → Int32) (p_size : Int32) (w_m : Int32) (w_root : Int32) (w_step : Int32) (w_lacks : Int32) (x1 : Int32) (rr : (Nat → Int32) × Int32 × Int32 × Int32) (h : f_X7_directWithRoot fu h_hbr h_waits h_ranks p_packed p_size w_m w_root w_step w_lacks x1 = some rr) : zM l G cy yX7_directWithRoot wsX7_directWithRoot (zR 3 80) [.ref (wq 0), .int x1] (wW cy wq (.ref (pq 0)) (.ref (hq 0)) w_m w_root w_step w_lacks ++ wP cy pq p_packed p_size ++ wH cy hq h_alive h_late h_hbr h_rbh h_waits h_pers h_size h_ranks h_lines) (wW cy wq (.ref (pq 0)) (.ref (hq 0)) w_m w_root rr.2.2.1 rr.2.2.2 ++ wP cy pq rr.1 rr.2.1 ++ wH cy hq h_alive h_late h_hbr h_rbh h_waits h_pers h_size h_ranks h_lines) none := by
  refine zM.mk (cc := cX7_directWithRoot) (nL := 3) (ret := none) (by decide) rfl (Nat.le_of_ble_eq_true rfl) ?_
  intro p e s m below meth c A ls X hr hH hl
  replace X : zX p s m [.ref (wq 0), .int x1].toArray meth c RX7 cX7_directWithRoot 3 wsX7_directWithRoot G cy A := X
  have hx := X.1.1
  have hb := X.1.2.1
  replace hl : lv_has ls 3 [(0, .ref (wq 0)), (1, .int x1)] := hl
  dsimp only [f_X7_directWithRoot] at h
  refine lv_iconst (v := 1) (pc := 0) hx hb dX7_directWithRoot_0 zk_c1 ?_
  refine lv_istore_n (pc := 1) (lv' := [(2, .int 1), (0, .ref (wq 0)), (1, .int x1)]) hx hb dX7_directWithRoot_1 rfl hl (by decide) rfl (fun ls hl => ?_)
  obtain ⟨zr1, hzr1, h⟩ := zb h
  refine w_X7_directWithRoot_l2 G cy fu wq pq hq h_alive h_late h_hbr h_rbh h_waits h_pers h_size h_ranks h_lines w_m w_root x1 X fu 1 p_packed p_size w_step w_lacks zr1 hzr1 _ _ _ hH (lv_sub hl [1, 2, 0] rfl) (fun H locs ls hH hl => ?_)
  obtain rfl := Option.some.inj h
  exact z_vret X hr hH dX7_directWithRoot_55
set_option maxHeartbeats 4000000 in
set_option maxRecDepth 100000 in
theorem w_X7_directTurn_l12 {p : Program} {l : Launch} {e : Env} {s : State} {m : MethodId} {args : Array Value} {below : List Frame} {meth : Method} {c : Code} {A : Nat → Prop} {Q : State → Prop} (G : va_G) (cy : Nat → ClassId) (fu : Nat) (wq : Nat → Nat) (pq : Nat → Nat) (hq : Nat → Nat) (h_alive : Nat → Int32) (h_late : Nat → Int32) (h_hbr : Nat → Int32) (h_rbh : Nat → Int32) (h_waits : Nat → Int32) (h_pers : Nat → Int32) (h_size : Int32) (h_ranks : Int32) (h_lines : Int32) (w_m : Int32) (w_root : Int32) (w_step : Int32) (x1 : Int32) (X : zX p s m args meth c RX7 cX7_directTurn 4 wsX7_directTurn G cy A) : ∀ (n : Nat) (x2 : Int32) (p_packed : Nat → Int32) (p_size : Int32) (w_lacks : Int32) (rr : (Nat → Int32) × Int32 × Int32) (h : lp (f_X7_directTurn_l12 fu h_hbr h_waits h_ranks w_m w_step x1) n (x2, p_packed, p_size, w_lacks) = some rr) (H : Heap) (locs : List Loc) (ls : Array Slot) (hH : zH G A s.heap (wW cy wq (.ref (pq 0)) (.ref (hq 0)) w_m w_root w_step w_lacks ++ wP cy pq p_packed p_size ++ wH cy hq h_alive h_late h_hbr h_rbh h_waits h_pers h_size h_ranks h_lines) H locs) (hl : lv_has ls 4 [(0, .ref (wq 0)), (1, .int x1), (2, .int x2)]) (K0 : ∀ (H : Heap) (locs : List Loc) (ls : Array Slot), zH G A s.heap (wW cy wq (.ref (pq 0)) (.ref (hq 0)) w_m w_root w_step rr.2.2 ++ wP cy pq rr.1 rr.2.1 ++ wH cy hq h_alive h_late h_hbr h_rbh h_waits h_pers h_size h_ranks h_lines) H locs → lv_has ls 4 [(0, .ref (wq 0)), (1, .int x1)] → W p l e (zR 2 57) s m args below meth c H locs 0 0 Q (F0 m 49 ls [])), W p l e (zR 2 57) s m args below meth c H locs 0 0 Q (F0 m 12 ls []) := by
  have hx := X.1.1
  have hb := X.1.2.1
  intro n
  induction n with
  | zero => intro x2 p_packed p_size w_lacks rr h H locs ls hH hl K0; cases h
  | succ n ih =>
    intro x2 p_packed p_size w_lacks rr h H locs ls hH hl K0
    replace h : f_X7_directTurn_l12 fu h_hbr h_waits h_ranks w_m w_step x1 (lp (f_X7_directTurn_l12 fu h_hbr h_waits h_ranks w_m w_step x1) n) (x2, p_packed, p_size, w_lacks) = some rr := h
    dsimp only [f_X7_directTurn_l12] at h
    refine lv_iload_n (pc := 12) hx hb dX7_directTurn_12 rfl (lv_at hl 2 rfl) ?_
    refine lv_aload_n (pc := 13) hx hb dX7_directTurn_13 rfl (lv_at hl 0 rfl) ?_
    refine z_get (pc := 14) (v := .int w_m) X iX7_directTurn_X7 hH 0 rfl rfl 2 rfl (List.mem_of_getElem? (i := 1) rfl) rfl dX7_directTurn_14 ?_
    refine lv_icmp_ge (pc := 17) (tgt := 49) hx hb dX7_directTurn_17 rfl (fun zc1 => ?_) (fun zc1 => ?_)
    · have h := zt zc1 h
      obtain rfl := Option.some.inj h
      exact K0 _ _ _ hH (lv_sub hl [0, 1] rfl)
    have h := zf zc1 h
    refine lv_aload_n (pc := 20) hx hb dX7_directTurn_20 rfl (lv_at hl 0 rfl) ?_
    refine lv_iload_n (pc := 21) hx hb dX7_directTurn_21 rfl (lv_at hl 1 rfl) ?_
    refine lv_iload_n (pc := 22) hx hb dX7_directTurn_22 rfl (lv_at hl 2 rfl) ?_
    refine lv_isub (pc := 23) hx hb dX7_directTurn_23 ?_
    obtain ⟨zr2, hzr2, h⟩ := zb h
    refine zcV (pc := 24) (As := [.int (x1 - x2)]) (rest := []) (st1 := [.int zr2]) (ws' := wW cy wq (.ref (pq 0)) (.ref (hq 0)) w_m w_root w_step w_lacks ++ wP cy pq p_packed p_size ++ wH cy hq h_alive h_late h_hbr h_rbh h_waits h_pers h_size h_ranks h_lines) (wr := [((pq 0), .inr (3, [.ref (pq 1), .int p_size])), ((pq 1), .inl (cy 0, 1200, .inl p_packed)), ((hq 0), .inr (2, [.ref (hq 1), .ref (hq 2), .ref (hq 3), .ref (hq 4), .ref (hq 5), .ref (hq 6), .int h_size, .int h_ranks, .int h_lines])), ((hq 1), .inl (cy 2, 16, .inl h_alive)), ((hq 2), .inl (cy 0, 16, .inl h_late)), ((hq 3), .inl (cy 0, 16, .inl h_hbr)), ((hq 4), .inl (cy 0, 16, .inl h_rbh)), ((hq 5), .inl (cy 0, 256, .inl h_waits)), ((hq 6), .inl (cy 0, 256, .inl h_pers))]) (n := 1) (q0 := 0) X (c_X7_byM l G cy fu wq (.ref (pq 0)) (.ref (hq 0)) w_m w_root w_step w_lacks (x1 - x2) zr2 hzr2) hH [0] [1, 2, 3, 4, 5, 6, 7, 8, 9] [9, 0, 1, 2, 3, 4, 5, 6, 7, 8] rfl rfl rfl rfl gX7_directTurn_X7_byM rfl ⟨rfl, rfl⟩ kX7_byM ⟨Nat.le_of_ble_eq_true rfl, Nat.le_of_ble_eq_true rfl⟩ rfl rfl rfl rfl rfl hl.1 (Nat.le_of_ble_eq_true rfl) ⟨Nat.le_of_ble_eq_true rfl, Nat.le_of_ble_eq_true rfl⟩ dX7_directTurn_24 (fun H locs hH => ?_)
    refine lv_istore_n (pc := 27) (lv' := [(3, .int zr2), (0, .ref (wq 0)), (1, .int x1), (2, .int x2)]) hx hb dX7_directTurn_27 rfl hl (by decide) rfl (fun ls hl => ?_)
    refine lv_iload_n (pc := 28) hx hb dX7_directTurn_28 rfl (lv_at hl 0 rfl) ?_
    refine lv_iload_n (pc := 29) hx hb dX7_directTurn_29 rfl (lv_at hl 3 rfl) ?_
    refine lv_icmp_eq (pc := 30) (tgt := 43) hx hb dX7_directTurn_30 rfl (fun zc3 => ?_) (fun zc3 => ?_)
    · have h := zt zc3 h
      refine lv_iinc (pc := 43) (v := (x2 + 1)) (lv' := [(2, .int (x2 + 1)), (3, .int zr2), (0, .ref (wq 0)), (1, .int x1)]) hx hb dX7_directTurn_43 hl (k := 3) rfl (by rw [zk_c1]) (by decide) rfl (fun ls hl => ?_)
      refine lv_goto (pc := 46) (tgt := 12) hx hb dX7_directTurn_46 rfl ?_
      exact ih (x2 + 1) p_packed p_size w_lacks rr h _ _ _ hH (lv_sub hl [2, 3, 0] rfl) K0
    have h := zf zc3 h
    refine lv_aload_n (pc := 33) hx hb dX7_directTurn_33 rfl (lv_at hl 1 rfl) ?_
    refine lv_iload_n (pc := 34) hx hb dX7_directTurn_34 rfl (lv_at hl 3 rfl) ?_
    refine lv_iload_n (pc := 35) hx hb dX7_directTurn_35 rfl (lv_at hl 0 rfl) ?_
    refine lv_iload_n (pc := 36) hx hb dX7_directTurn_36 rfl (lv_at hl 0 rfl) ?_
    refine lv_iload_n (pc := 37) hx hb dX7_directTurn_37 rfl (lv_at hl 3 rfl) ?_
    refine lv_iconst (v := 1) (pc := 38) hx hb dX7_directTurn_38 zk_c1 ?_
    refine lv_iconst (v := 0) (pc := 39) hx hb dX7_directTurn_39 zk_c0 ?_
    obtain ⟨zr4, hzr4, h⟩ := zb h
    refine zcV (pc := 40) (As := [.int x2, .int zr2, .int zr2, .int x2, .int 1, .int 0]) (rest := []) (st1 := []) (ws' := wW cy wq (.ref (pq 0)) (.ref (hq 0)) w_m w_root w_step zr4.2.2 ++ wP cy pq zr4.1 zr4.2.1 ++ wH cy hq h_alive h_late h_hbr h_rbh h_waits h_pers h_size h_ranks h_lines) (wr := []) (n := 6) (q0 := 0) X (c_X7_give l G cy fu wq pq hq h_alive h_late h_hbr h_rbh h_waits h_pers h_size h_ranks h_lines p_packed p_size w_m w_root w_step w_lacks x2 zr2 zr2 x2 1 0 zr4 hzr4) hH [0, 1, 2, 3, 4, 5, 6, 7, 8, 9] [] [0, 1, 2, 3, 4, 5, 6, 7, 8, 9] rfl rfl rfl rfl gX7_directTurn_X7_give rfl ⟨rfl, rfl⟩ kX7_give ⟨Nat.le_of_ble_eq_true rfl, Nat.le_of_ble_eq_true rfl⟩ rfl rfl rfl rfl rfl hl.1 (Nat.le_of_ble_eq_true rfl) ⟨Nat.le_of_ble_eq_true rfl, Nat.le_of_ble_eq_true rfl⟩ dX7_directTurn_40 (fun H locs hH => ?_)
    refine lv_iinc (pc := 43) (v := (x2 + 1)) (lv' := [(2, .int (x2 + 1)), (3, .int zr2), (0, .ref (wq 0)), (1, .int x1)]) hx hb dX7_directTurn_43 hl (k := 3) rfl (by rw [zk_c1]) (by decide) rfl (fun ls hl => ?_)
    refine lv_goto (pc := 46) (tgt := 12) hx hb dX7_directTurn_46 rfl ?_
    exact ih (x2 + 1) zr4.1 zr4.2.1 zr4.2.2 rr h _ _ _ hH (lv_sub hl [2, 3, 0] rfl) K0
set_option maxHeartbeats 4000000 in
set_option maxRecDepth 100000 in
theorem w_X7_directTurn_l2 {p : Program} {l : Launch} {e : Env} {s : State} {m : MethodId} {args : Array Value} {below : List Frame} {meth : Method} {c : Code} {A : Nat → Prop} {Q : State → Prop} (G : va_G) (cy : Nat → ClassId) (fu : Nat) (wq : Nat → Nat) (pq : Nat → Nat) (hq : Nat → Nat) (h_alive : Nat → Int32) (h_late : Nat → Int32) (h_hbr : Nat → Int32) (h_rbh : Nat → Int32) (h_waits : Nat → Int32) (h_pers : Nat → Int32) (h_size : Int32) (h_ranks : Int32) (h_lines : Int32) (w_m : Int32) (w_root : Int32) (X : zX p s m args meth c RX7 cX7_directTurn 4 wsX7_directTurn G cy A) : ∀ (n : Nat) (x1 : Int32) (p_packed : Nat → Int32) (p_size : Int32) (w_step : Int32) (w_lacks : Int32) (rr : (Nat → Int32) × Int32 × Int32 × Int32) (h : lp (f_X7_directTurn_l2 fu h_hbr h_waits h_ranks w_m) n (x1, p_packed, p_size, w_step, w_lacks) = some rr) (H : Heap) (locs : List Loc) (ls : Array Slot) (hH : zH G A s.heap (wW cy wq (.ref (pq 0)) (.ref (hq 0)) w_m w_root w_step w_lacks ++ wP cy pq p_packed p_size ++ wH cy hq h_alive h_late h_hbr h_rbh h_waits h_pers h_size h_ranks h_lines) H locs) (hl : lv_has ls 4 [(0, .ref (wq 0)), (1, .int x1)]) (K0 : ∀ (H : Heap) (locs : List Loc) (ls : Array Slot), zH G A s.heap (wW cy wq (.ref (pq 0)) (.ref (hq 0)) w_m w_root rr.2.2.1 rr.2.2.2 ++ wP cy pq rr.1 rr.2.1 ++ wH cy hq h_alive h_late h_hbr h_rbh h_waits h_pers h_size h_ranks h_lines) H locs → lv_has ls 4 [] → W p l e (zR 2 57) s m args below meth c H locs 0 0 Q (F0 m 59 ls [])), W p l e (zR 2 57) s m args below meth c H locs 0 0 Q (F0 m 2 ls []) := by
  have hx := X.1.1
  have hb := X.1.2.1
  intro n
  induction n with
  | zero => intro x1 p_packed p_size w_step w_lacks rr h H locs ls hH hl K0; cases h
  | succ n ih =>
    intro x1 p_packed p_size w_step w_lacks rr h H locs ls hH hl K0
    replace h : f_X7_directTurn_l2 fu h_hbr h_waits h_ranks w_m (lp (f_X7_directTurn_l2 fu h_hbr h_waits h_ranks w_m) n) (x1, p_packed, p_size, w_step, w_lacks) = some rr := h
    dsimp only [f_X7_directTurn_l2] at h
    refine lv_iload_n (pc := 2) hx hb dX7_directTurn_2 rfl (lv_at hl 1 rfl) ?_
    refine lv_aload_n (pc := 3) hx hb dX7_directTurn_3 rfl (lv_at hl 0 rfl) ?_
    refine z_get (pc := 4) (v := .int w_m) X iX7_directTurn_X7 hH 0 rfl rfl 2 rfl (List.mem_of_getElem? (i := 1) rfl) rfl dX7_directTurn_4 ?_
    refine lv_icmp_ge (pc := 7) (tgt := 59) hx hb dX7_directTurn_7 rfl (fun zc1 => ?_) (fun zc1 => ?_)
    · have h := zt zc1 h
      obtain rfl := Option.some.inj h
      exact K0 _ _ _ hH (lv_sub hl [] rfl)
    have h := zf zc1 h
    refine lv_iconst (v := 0) (pc := 10) hx hb dX7_directTurn_10 zk_c0 ?_
    refine lv_istore_n (pc := 11) (lv' := [(2, .int 0), (0, .ref (wq 0)), (1, .int x1)]) hx hb dX7_directTurn_11 rfl hl (by decide) rfl (fun ls hl => ?_)
    obtain ⟨zr2, hzr2, h⟩ := zb h
    refine w_X7_directTurn_l12 G cy fu wq pq hq h_alive h_late h_hbr h_rbh h_waits h_pers h_size h_ranks h_lines w_m w_root w_step x1 X fu 0 p_packed p_size w_lacks zr2 hzr2 _ _ _ hH (lv_sub hl [1, 2, 0] rfl) (fun H locs ls hH hl => ?_)
    refine lv_aload_n (pc := 49) hx hb dX7_directTurn_49 rfl (lv_at hl 0 rfl) ?_
    obtain ⟨zr3, hzr3, h⟩ := zb h
    refine zcV (pc := 50) (As := []) (rest := []) (st1 := []) (ws' := wW cy wq (.ref (pq 0)) (.ref (hq 0)) w_m w_root zr3 zr2.2.2 ++ wP cy pq zr2.1 zr2.2.1 ++ wH cy hq h_alive h_late h_hbr h_rbh h_waits h_pers h_size h_ranks h_lines) (wr := []) (n := 0) (q0 := 0) X (c_X7_endStep l G cy fu wq pq hq h_alive h_late h_hbr h_rbh h_waits h_pers h_size h_ranks h_lines zr2.1 zr2.2.1 w_m w_root w_step zr2.2.2 zr3 hzr3) hH [0, 1, 2, 3, 4, 5, 6, 7, 8, 9] [] [0, 1, 2, 3, 4, 5, 6, 7, 8, 9] rfl rfl rfl rfl gX7_directTurn_X7_endStep rfl ⟨rfl, rfl⟩ kX7_endStep ⟨Nat.le_of_ble_eq_true rfl, Nat.le_of_ble_eq_true rfl⟩ rfl rfl rfl rfl rfl hl.1 (Nat.le_of_ble_eq_true rfl) ⟨Nat.le_of_ble_eq_true rfl, Nat.le_of_ble_eq_true rfl⟩ dX7_directTurn_50 (fun H locs hH => ?_)
    refine lv_iinc (pc := 53) (v := (x1 + 1)) (lv' := [(1, .int (x1 + 1)), (0, .ref (wq 0))]) hx hb dX7_directTurn_53 hl (k := 1) rfl (by rw [zk_c1]) (by decide) rfl (fun ls hl => ?_)
    refine lv_goto (pc := 56) (tgt := 2) hx hb dX7_directTurn_56 rfl ?_
    exact ih (x1 + 1) zr2.1 zr2.2.1 zr3 zr2.2.2 rr h _ _ _ hH (lv_sub hl [1, 0] rfl) K0
set_option maxHeartbeats 4000000 in
set_option maxRecDepth 100000 in
theorem c_X7_directTurn (l : Launch) (G : va_G) (cy : Nat → ClassId) (fu : Nat) (wq : Nat → Nat) (pq : Nat → Nat) (hq : Nat → Nat) (h_alive : Nat → Int32) (h_late : Nat → Int32) (h_hbr : Nat → Int32) (h_rbh : Nat → Int32) (h_waits : Nat → Int32) (h_pers : Nat → Int32) (h_size : Int32) (h_ranks : Int32) (h_lines : Int32) (p_packed : Nat → Int32) (p_size : Int32) (w_m : Int32) (w_root : Int32) (w_step : Int32) (w_lacks : Int32)  (rr : (Nat → Int32) × Int32 × Int32 × Int32) (h : f_X7_directTurn fu h_hbr h_waits h_ranks p_packed p_size w_m w_step w_lacks = some rr) : zM l G cy yX7_directTurn wsX7_directTurn (zR 2 57) [.ref (wq 0)] (wW cy wq (.ref (pq 0)) (.ref (hq 0)) w_m w_root w_step w_lacks ++ wP cy pq p_packed p_size ++ wH cy hq h_alive h_late h_hbr h_rbh h_waits h_pers h_size h_ranks h_lines) (wW cy wq (.ref (pq 0)) (.ref (hq 0)) w_m w_root rr.2.2.1 rr.2.2.2 ++ wP cy pq rr.1 rr.2.1 ++ wH cy hq h_alive h_late h_hbr h_rbh h_waits h_pers h_size h_ranks h_lines) none := by
  refine zM.mk (cc := cX7_directTurn) (nL := 4) (ret := none) (by decide) rfl (Nat.le_of_ble_eq_true rfl) ?_
  intro p e s m below meth c A ls X hr hH hl
  replace X : zX p s m [.ref (wq 0)].toArray meth c RX7 cX7_directTurn 4 wsX7_directTurn G cy A := X
  have hx := X.1.1
  have hb := X.1.2.1
  replace hl : lv_has ls 4 [(0, .ref (wq 0))] := hl
  dsimp only [f_X7_directTurn] at h
  refine lv_iconst (v := 0) (pc := 0) hx hb dX7_directTurn_0 zk_c0 ?_
  refine lv_istore_n (pc := 1) (lv' := [(1, .int 0), (0, .ref (wq 0))]) hx hb dX7_directTurn_1 rfl hl (by decide) rfl (fun ls hl => ?_)
  obtain ⟨zr1, hzr1, h⟩ := zb h
  refine w_X7_directTurn_l2 G cy fu wq pq hq h_alive h_late h_hbr h_rbh h_waits h_pers h_size h_ranks h_lines w_m w_root X fu 0 p_packed p_size w_step w_lacks zr1 hzr1 _ _ _ hH (lv_sub hl [1, 0] rfl) (fun H locs ls hH hl => ?_)
  obtain rfl := Option.some.inj h
  exact z_vret X hr hH dX7_directTurn_59
set_option maxHeartbeats 4000000 in
set_option maxRecDepth 100000 in
theorem w_X7_directGather_l12 {p : Program} {l : Launch} {e : Env} {s : State} {m : MethodId} {args : Array Value} {below : List Frame} {meth : Method} {c : Code} {A : Nat → Prop} {Q : State → Prop} (G : va_G) (cy : Nat → ClassId) (fu : Nat) (wq : Nat → Nat) (pq : Nat → Nat) (hq : Nat → Nat) (h_alive : Nat → Int32) (h_late : Nat → Int32) (h_hbr : Nat → Int32) (h_rbh : Nat → Int32) (h_waits : Nat → Int32) (h_pers : Nat → Int32) (h_size : Int32) (h_ranks : Int32) (h_lines : Int32) (w_m : Int32) (w_root : Int32) (w_step : Int32) (x1 : Int32) (X : zX p s m args meth c RX7 cX7_directGather 3 wsX7_directGather G cy A) : ∀ (n : Nat) (x2 : Int32) (p_packed : Nat → Int32) (p_size : Int32) (w_lacks : Int32) (rr : (Nat → Int32) × Int32 × Int32) (h : lp (f_X7_directGather_l12 fu h_hbr h_waits h_ranks w_m w_step x1) n (x2, p_packed, p_size, w_lacks) = some rr) (H : Heap) (locs : List Loc) (ls : Array Slot) (hH : zH G A s.heap (wW cy wq (.ref (pq 0)) (.ref (hq 0)) w_m w_root w_step w_lacks ++ wP cy pq p_packed p_size ++ wH cy hq h_alive h_late h_hbr h_rbh h_waits h_pers h_size h_ranks h_lines) H locs) (hl : lv_has ls 3 [(0, .ref (wq 0)), (1, .int x1), (2, .int x2)]) (K0 : ∀ (H : Heap) (locs : List Loc) (ls : Array Slot), zH G A s.heap (wW cy wq (.ref (pq 0)) (.ref (hq 0)) w_m w_root w_step rr.2.2 ++ wP cy pq rr.1 rr.2.1 ++ wH cy hq h_alive h_late h_hbr h_rbh h_waits h_pers h_size h_ranks h_lines) H locs → lv_has ls 3 [(0, .ref (wq 0)), (1, .int x1)] → W p l e (zR 2 57) s m args below meth c H locs 0 0 Q (F0 m 42 ls [])), W p l e (zR 2 57) s m args below meth c H locs 0 0 Q (F0 m 12 ls []) := by
  have hx := X.1.1
  have hb := X.1.2.1
  intro n
  induction n with
  | zero => intro x2 p_packed p_size w_lacks rr h H locs ls hH hl K0; cases h
  | succ n ih =>
    intro x2 p_packed p_size w_lacks rr h H locs ls hH hl K0
    replace h : f_X7_directGather_l12 fu h_hbr h_waits h_ranks w_m w_step x1 (lp (f_X7_directGather_l12 fu h_hbr h_waits h_ranks w_m w_step x1) n) (x2, p_packed, p_size, w_lacks) = some rr := h
    dsimp only [f_X7_directGather_l12] at h
    refine lv_iload_n (pc := 12) hx hb dX7_directGather_12 rfl (lv_at hl 2 rfl) ?_
    refine lv_aload_n (pc := 13) hx hb dX7_directGather_13 rfl (lv_at hl 0 rfl) ?_
    refine z_get (pc := 14) (v := .int w_m) X iX7_directGather_X7 hH 0 rfl rfl 2 rfl (List.mem_of_getElem? (i := 1) rfl) rfl dX7_directGather_14 ?_
    refine lv_icmp_ge (pc := 17) (tgt := 42) hx hb dX7_directGather_17 rfl (fun zc1 => ?_) (fun zc1 => ?_)
    · have h := zt zc1 h
      obtain rfl := Option.some.inj h
      exact K0 _ _ _ hH (lv_sub hl [0, 1] rfl)
    have h := zf zc1 h
    refine lv_aload_n (pc := 20) hx hb dX7_directGather_20 rfl (lv_at hl 0 rfl) ?_
    refine lv_iload_n (pc := 21) hx hb dX7_directGather_21 rfl (lv_at hl 2 rfl) ?_
    refine lv_aload_n (pc := 22) hx hb dX7_directGather_22 rfl (lv_at hl 0 rfl) ?_
    refine lv_iload_n (pc := 23) hx hb dX7_directGather_23 rfl (lv_at hl 2 rfl) ?_
    refine lv_iload_n (pc := 24) hx hb dX7_directGather_24 rfl (lv_at hl 1 rfl) ?_
    refine lv_iadd (pc := 25) hx hb dX7_directGather_25 ?_
    obtain ⟨zr2, hzr2, h⟩ := zb h
    refine zcV (pc := 26) (As := [.int (x2 + x1)]) (rest := [.int x2, .ref (wq 0)]) (st1 := [.int zr2, .int x2, .ref (wq 0)]) (ws' := wW cy wq (.ref (pq 0)) (.ref (hq 0)) w_m w_root w_step w_lacks ++ wP cy pq p_packed p_size ++ wH cy hq h_alive h_late h_hbr h_rbh h_waits h_pers h_size h_ranks h_lines) (wr := [((pq 0), .inr (3, [.ref (pq 1), .int p_size])), ((pq 1), .inl (cy 0, 1200, .inl p_packed)), ((hq 0), .inr (2, [.ref (hq 1), .ref (hq 2), .ref (hq 3), .ref (hq 4), .ref (hq 5), .ref (hq 6), .int h_size, .int h_ranks, .int h_lines])), ((hq 1), .inl (cy 2, 16, .inl h_alive)), ((hq 2), .inl (cy 0, 16, .inl h_late)), ((hq 3), .inl (cy 0, 16, .inl h_hbr)), ((hq 4), .inl (cy 0, 16, .inl h_rbh)), ((hq 5), .inl (cy 0, 256, .inl h_waits)), ((hq 6), .inl (cy 0, 256, .inl h_pers))]) (n := 1) (q0 := 0) X (c_X7_byM l G cy fu wq (.ref (pq 0)) (.ref (hq 0)) w_m w_root w_step w_lacks (x2 + x1) zr2 hzr2) hH [0] [1, 2, 3, 4, 5, 6, 7, 8, 9] [9, 0, 1, 2, 3, 4, 5, 6, 7, 8] rfl rfl rfl rfl gX7_directGather_X7_byM rfl ⟨rfl, rfl⟩ kX7_byM ⟨Nat.le_of_ble_eq_true rfl, Nat.le_of_ble_eq_true rfl⟩ rfl rfl rfl rfl rfl hl.1 (Nat.le_of_ble_eq_true rfl) ⟨Nat.le_of_ble_eq_true rfl, Nat.le_of_ble_eq_true rfl⟩ dX7_directGather_26 (fun H locs hH => ?_)
    refine lv_iload_n (pc := 29) hx hb dX7_directGather_29 rfl (lv_at hl 2 rfl) ?_
    refine lv_iload_n (pc := 30) hx hb dX7_directGather_30 rfl (lv_at hl 2 rfl) ?_
    refine lv_iconst (v := 1) (pc := 31) hx hb dX7_directGather_31 zk_c1 ?_
    refine lv_iconst (v := 0) (pc := 32) hx hb dX7_directGather_32 zk_c0 ?_
    obtain ⟨zr3, hzr3, h⟩ := zb h
    refine zcV (pc := 33) (As := [.int x2, .int zr2, .int x2, .int x2, .int 1, .int 0]) (rest := []) (st1 := []) (ws' := wW cy wq (.ref (pq 0)) (.ref (hq 0)) w_m w_root w_step zr3.2.2 ++ wP cy pq zr3.1 zr3.2.1 ++ wH cy hq h_alive h_late h_hbr h_rbh h_waits h_pers h_size h_ranks h_lines) (wr := []) (n := 6) (q0 := 0) X (c_X7_give l G cy fu wq pq hq h_alive h_late h_hbr h_rbh h_waits h_pers h_size h_ranks h_lines p_packed p_size w_m w_root w_step w_lacks x2 zr2 x2 x2 1 0 zr3 hzr3) hH [0, 1, 2, 3, 4, 5, 6, 7, 8, 9] [] [0, 1, 2, 3, 4, 5, 6, 7, 8, 9] rfl rfl rfl rfl gX7_directGather_X7_give rfl ⟨rfl, rfl⟩ kX7_give ⟨Nat.le_of_ble_eq_true rfl, Nat.le_of_ble_eq_true rfl⟩ rfl rfl rfl rfl rfl hl.1 (Nat.le_of_ble_eq_true rfl) ⟨Nat.le_of_ble_eq_true rfl, Nat.le_of_ble_eq_true rfl⟩ dX7_directGather_33 (fun H locs hH => ?_)
    refine lv_iinc (pc := 36) (v := (x2 + 1)) (lv' := [(2, .int (x2 + 1)), (0, .ref (wq 0)), (1, .int x1)]) hx hb dX7_directGather_36 hl (k := 2) rfl (by rw [zk_c1]) (by decide) rfl (fun ls hl => ?_)
    refine lv_goto (pc := 39) (tgt := 12) hx hb dX7_directGather_39 rfl ?_
    exact ih (x2 + 1) zr3.1 zr3.2.1 zr3.2.2 rr h _ _ _ hH (lv_sub hl [1, 2, 0] rfl) K0
set_option maxHeartbeats 4000000 in
set_option maxRecDepth 100000 in
theorem w_X7_directGather_l2 {p : Program} {l : Launch} {e : Env} {s : State} {m : MethodId} {args : Array Value} {below : List Frame} {meth : Method} {c : Code} {A : Nat → Prop} {Q : State → Prop} (G : va_G) (cy : Nat → ClassId) (fu : Nat) (wq : Nat → Nat) (pq : Nat → Nat) (hq : Nat → Nat) (h_alive : Nat → Int32) (h_late : Nat → Int32) (h_hbr : Nat → Int32) (h_rbh : Nat → Int32) (h_waits : Nat → Int32) (h_pers : Nat → Int32) (h_size : Int32) (h_ranks : Int32) (h_lines : Int32) (w_m : Int32) (w_root : Int32) (X : zX p s m args meth c RX7 cX7_directGather 3 wsX7_directGather G cy A) : ∀ (n : Nat) (x1 : Int32) (p_packed : Nat → Int32) (p_size : Int32) (w_step : Int32) (w_lacks : Int32) (rr : (Nat → Int32) × Int32 × Int32 × Int32) (h : lp (f_X7_directGather_l2 fu h_hbr h_waits h_ranks w_m) n (x1, p_packed, p_size, w_step, w_lacks) = some rr) (H : Heap) (locs : List Loc) (ls : Array Slot) (hH : zH G A s.heap (wW cy wq (.ref (pq 0)) (.ref (hq 0)) w_m w_root w_step w_lacks ++ wP cy pq p_packed p_size ++ wH cy hq h_alive h_late h_hbr h_rbh h_waits h_pers h_size h_ranks h_lines) H locs) (hl : lv_has ls 3 [(0, .ref (wq 0)), (1, .int x1)]) (K0 : ∀ (H : Heap) (locs : List Loc) (ls : Array Slot), zH G A s.heap (wW cy wq (.ref (pq 0)) (.ref (hq 0)) w_m w_root rr.2.2.1 rr.2.2.2 ++ wP cy pq rr.1 rr.2.1 ++ wH cy hq h_alive h_late h_hbr h_rbh h_waits h_pers h_size h_ranks h_lines) H locs → lv_has ls 3 [] → W p l e (zR 2 57) s m args below meth c H locs 0 0 Q (F0 m 52 ls [])), W p l e (zR 2 57) s m args below meth c H locs 0 0 Q (F0 m 2 ls []) := by
  have hx := X.1.1
  have hb := X.1.2.1
  intro n
  induction n with
  | zero => intro x1 p_packed p_size w_step w_lacks rr h H locs ls hH hl K0; cases h
  | succ n ih =>
    intro x1 p_packed p_size w_step w_lacks rr h H locs ls hH hl K0
    replace h : f_X7_directGather_l2 fu h_hbr h_waits h_ranks w_m (lp (f_X7_directGather_l2 fu h_hbr h_waits h_ranks w_m) n) (x1, p_packed, p_size, w_step, w_lacks) = some rr := h
    dsimp only [f_X7_directGather_l2] at h
    refine lv_iload_n (pc := 2) hx hb dX7_directGather_2 rfl (lv_at hl 1 rfl) ?_
    refine lv_aload_n (pc := 3) hx hb dX7_directGather_3 rfl (lv_at hl 0 rfl) ?_
    refine z_get (pc := 4) (v := .int w_m) X iX7_directGather_X7 hH 0 rfl rfl 2 rfl (List.mem_of_getElem? (i := 1) rfl) rfl dX7_directGather_4 ?_
    refine lv_icmp_ge (pc := 7) (tgt := 52) hx hb dX7_directGather_7 rfl (fun zc1 => ?_) (fun zc1 => ?_)
    · have h := zt zc1 h
      obtain rfl := Option.some.inj h
      exact K0 _ _ _ hH (lv_sub hl [] rfl)
    have h := zf zc1 h
    refine lv_iconst (v := 0) (pc := 10) hx hb dX7_directGather_10 zk_c0 ?_
    refine lv_istore_n (pc := 11) (lv' := [(2, .int 0), (0, .ref (wq 0)), (1, .int x1)]) hx hb dX7_directGather_11 rfl hl (by decide) rfl (fun ls hl => ?_)
    obtain ⟨zr2, hzr2, h⟩ := zb h
    refine w_X7_directGather_l12 G cy fu wq pq hq h_alive h_late h_hbr h_rbh h_waits h_pers h_size h_ranks h_lines w_m w_root w_step x1 X fu 0 p_packed p_size w_lacks zr2 hzr2 _ _ _ hH (lv_sub hl [1, 2, 0] rfl) (fun H locs ls hH hl => ?_)
    refine lv_aload_n (pc := 42) hx hb dX7_directGather_42 rfl (lv_at hl 0 rfl) ?_
    obtain ⟨zr3, hzr3, h⟩ := zb h
    refine zcV (pc := 43) (As := []) (rest := []) (st1 := []) (ws' := wW cy wq (.ref (pq 0)) (.ref (hq 0)) w_m w_root zr3 zr2.2.2 ++ wP cy pq zr2.1 zr2.2.1 ++ wH cy hq h_alive h_late h_hbr h_rbh h_waits h_pers h_size h_ranks h_lines) (wr := []) (n := 0) (q0 := 0) X (c_X7_endStep l G cy fu wq pq hq h_alive h_late h_hbr h_rbh h_waits h_pers h_size h_ranks h_lines zr2.1 zr2.2.1 w_m w_root w_step zr2.2.2 zr3 hzr3) hH [0, 1, 2, 3, 4, 5, 6, 7, 8, 9] [] [0, 1, 2, 3, 4, 5, 6, 7, 8, 9] rfl rfl rfl rfl gX7_directGather_X7_endStep rfl ⟨rfl, rfl⟩ kX7_endStep ⟨Nat.le_of_ble_eq_true rfl, Nat.le_of_ble_eq_true rfl⟩ rfl rfl rfl rfl rfl hl.1 (Nat.le_of_ble_eq_true rfl) ⟨Nat.le_of_ble_eq_true rfl, Nat.le_of_ble_eq_true rfl⟩ dX7_directGather_43 (fun H locs hH => ?_)
    refine lv_iinc (pc := 46) (v := (x1 + 1)) (lv' := [(1, .int (x1 + 1)), (0, .ref (wq 0))]) hx hb dX7_directGather_46 hl (k := 1) rfl (by rw [zk_c1]) (by decide) rfl (fun ls hl => ?_)
    refine lv_goto (pc := 49) (tgt := 2) hx hb dX7_directGather_49 rfl ?_
    exact ih (x1 + 1) zr2.1 zr2.2.1 zr3 zr2.2.2 rr h _ _ _ hH (lv_sub hl [1, 0] rfl) K0
set_option maxHeartbeats 4000000 in
set_option maxRecDepth 100000 in
theorem c_X7_directGather (l : Launch) (G : va_G) (cy : Nat → ClassId) (fu : Nat) (wq : Nat → Nat) (pq : Nat → Nat) (hq : Nat → Nat) (h_alive : Nat → Int32) (h_late : Nat → Int32) (h_hbr : Nat → Int32) (h_rbh : Nat → Int32) (h_waits : Nat → Int32) (h_pers : Nat → Int32) (h_size : Int32) (h_ranks : Int32) (h_lines : Int32) (p_packed : Nat → Int32) (p_size : Int32) (w_m : Int32) (w_root : Int32) (w_step : Int32) (w_lacks : Int32)  (rr : (Nat → Int32) × Int32 × Int32 × Int32) (h : f_X7_directGather fu h_hbr h_waits h_ranks p_packed p_size w_m w_step w_lacks = some rr) : zM l G cy yX7_directGather wsX7_directGather (zR 2 57) [.ref (wq 0)] (wW cy wq (.ref (pq 0)) (.ref (hq 0)) w_m w_root w_step w_lacks ++ wP cy pq p_packed p_size ++ wH cy hq h_alive h_late h_hbr h_rbh h_waits h_pers h_size h_ranks h_lines) (wW cy wq (.ref (pq 0)) (.ref (hq 0)) w_m w_root rr.2.2.1 rr.2.2.2 ++ wP cy pq rr.1 rr.2.1 ++ wH cy hq h_alive h_late h_hbr h_rbh h_waits h_pers h_size h_ranks h_lines) none := by
  refine zM.mk (cc := cX7_directGather) (nL := 3) (ret := none) (by decide) rfl (Nat.le_of_ble_eq_true rfl) ?_
  intro p e s m below meth c A ls X hr hH hl
  replace X : zX p s m [.ref (wq 0)].toArray meth c RX7 cX7_directGather 3 wsX7_directGather G cy A := X
  have hx := X.1.1
  have hb := X.1.2.1
  replace hl : lv_has ls 3 [(0, .ref (wq 0))] := hl
  dsimp only [f_X7_directGather] at h
  refine lv_iconst (v := 1) (pc := 0) hx hb dX7_directGather_0 zk_c1 ?_
  refine lv_istore_n (pc := 1) (lv' := [(1, .int 1), (0, .ref (wq 0))]) hx hb dX7_directGather_1 rfl hl (by decide) rfl (fun ls hl => ?_)
  obtain ⟨zr1, hzr1, h⟩ := zb h
  refine w_X7_directGather_l2 G cy fu wq pq hq h_alive h_late h_hbr h_rbh h_waits h_pers h_size h_ranks h_lines w_m w_root X fu 1 p_packed p_size w_step w_lacks zr1 hzr1 _ _ _ hH (lv_sub hl [1, 0] rfl) (fun H locs ls hH hl => ?_)
  obtain rfl := Option.some.inj h
  exact z_vret X hr hH dX7_directGather_52
set_option maxHeartbeats 4000000 in
set_option maxRecDepth 100000 in
theorem c_X7_direct (l : Launch) (G : va_G) (cy : Nat → ClassId) (fu : Nat) (wq : Nat → Nat) (pq : Nat → Nat) (hq : Nat → Nat) (h_alive : Nat → Int32) (h_late : Nat → Int32) (h_hbr : Nat → Int32) (h_rbh : Nat → Int32) (h_waits : Nat → Int32) (h_pers : Nat → Int32) (h_size : Int32) (h_ranks : Int32) (h_lines : Int32) (p_packed : Nat → Int32) (p_size : Int32) (w_m : Int32) (w_root : Int32) (w_step : Int32) (w_lacks : Int32) (x1 : Int32) (rr : (Nat → Int32) × Int32 × Int32 × Int32) (h : f_X7_direct fu h_hbr h_waits h_ranks p_packed p_size w_m w_root w_step w_lacks x1 = some rr) : zM l G cy yX7_direct wsX7_direct (zR 4 102) [.ref (wq 0), .int x1] (wW cy wq (.ref (pq 0)) (.ref (hq 0)) w_m w_root w_step w_lacks ++ wP cy pq p_packed p_size ++ wH cy hq h_alive h_late h_hbr h_rbh h_waits h_pers h_size h_ranks h_lines) (wW cy wq (.ref (pq 0)) (.ref (hq 0)) w_m w_root rr.2.2.1 rr.2.2.2 ++ wP cy pq rr.1 rr.2.1 ++ wH cy hq h_alive h_late h_hbr h_rbh h_waits h_pers h_size h_ranks h_lines) none := by
  refine zM.mk (cc := cX7_direct) (nL := 2) (ret := none) (by decide) rfl (Nat.le_of_ble_eq_true rfl) ?_
  intro p e s m below meth c A ls X hr hH hl
  replace X : zX p s m [.ref (wq 0), .int x1].toArray meth c RX7 cX7_direct 2 wsX7_direct G cy A := X
  have hx := X.1.1
  have hb := X.1.2.1
  replace hl : lv_has ls 2 [(0, .ref (wq 0)), (1, .int x1)] := hl
  dsimp only [f_X7_direct] at h
  refine lv_iload_n (pc := 0) hx hb dX7_direct_0 rfl (lv_at hl 1 rfl) ?_
  by_cases zc1 : x1 = 0
  · have h := zt zc1 h
    refine lv_tableIn (pc := 1) (off := 31) (tgt := 32) hx hb dX7_direct_1 (by rw [zc1]; decide) (by rw [zc1]; decide) (by rw [zc1]; rfl) rfl ?_
    refine lv_aload_n (pc := 32) hx hb dX7_direct_32 rfl (lv_at hl 0 rfl) ?_
    refine lv_iconst (v := 0) (pc := 33) hx hb dX7_direct_33 zk_c0 ?_
    obtain ⟨zr2, hzr2, h⟩ := zb h
    refine zcV (pc := 34) (As := [.int 0]) (rest := []) (st1 := []) (ws' := wW cy wq (.ref (pq 0)) (.ref (hq 0)) w_m w_root zr2.2.2.1 zr2.2.2.2 ++ wP cy pq zr2.1 zr2.2.1 ++ wH cy hq h_alive h_late h_hbr h_rbh h_waits h_pers h_size h_ranks h_lines) (wr := []) (n := 1) (q0 := 0) X (c_X7_directWithRoot l G cy fu wq pq hq h_alive h_late h_hbr h_rbh h_waits h_pers h_size h_ranks h_lines p_packed p_size w_m w_root w_step w_lacks 0 zr2 hzr2) hH [0, 1, 2, 3, 4, 5, 6, 7, 8, 9] [] [0, 1, 2, 3, 4, 5, 6, 7, 8, 9] rfl rfl rfl rfl gX7_direct_X7_directWithRoot rfl ⟨rfl, rfl⟩ kX7_directWithRoot ⟨Nat.le_of_ble_eq_true rfl, Nat.le_of_ble_eq_true rfl⟩ rfl rfl rfl rfl rfl hl.1 (Nat.le_of_ble_eq_true rfl) ⟨Nat.le_of_ble_eq_true rfl, Nat.le_of_ble_eq_true rfl⟩ dX7_direct_34 (fun H locs hH => ?_)
    refine lv_goto (pc := 37) (tgt := 59) hx hb dX7_direct_37 rfl ?_
    obtain rfl := Option.some.inj h
    exact z_vret X hr hH dX7_direct_59
  have h := zf zc1 h
  by_cases zc3 : x1 = 1
  · have h := zt zc3 h
    refine lv_tableIn (pc := 1) (off := 39) (tgt := 40) hx hb dX7_direct_1 (by rw [zc3]; decide) (by rw [zc3]; decide) (by rw [zc3]; rfl) rfl ?_
    refine lv_aload_n (pc := 40) hx hb dX7_direct_40 rfl (lv_at hl 0 rfl) ?_
    refine lv_iconst (v := 1) (pc := 41) hx hb dX7_direct_41 zk_c1 ?_
    obtain ⟨zr4, hzr4, h⟩ := zb h
    refine zcV (pc := 42) (As := [.int 1]) (rest := []) (st1 := []) (ws' := wW cy wq (.ref (pq 0)) (.ref (hq 0)) w_m w_root zr4.2.2.1 zr4.2.2.2 ++ wP cy pq zr4.1 zr4.2.1 ++ wH cy hq h_alive h_late h_hbr h_rbh h_waits h_pers h_size h_ranks h_lines) (wr := []) (n := 1) (q0 := 0) X (c_X7_directWithRoot l G cy fu wq pq hq h_alive h_late h_hbr h_rbh h_waits h_pers h_size h_ranks h_lines p_packed p_size w_m w_root w_step w_lacks 1 zr4 hzr4) hH [0, 1, 2, 3, 4, 5, 6, 7, 8, 9] [] [0, 1, 2, 3, 4, 5, 6, 7, 8, 9] rfl rfl rfl rfl gX7_direct_X7_directWithRoot rfl ⟨rfl, rfl⟩ kX7_directWithRoot ⟨Nat.le_of_ble_eq_true rfl, Nat.le_of_ble_eq_true rfl⟩ rfl rfl rfl rfl rfl hl.1 (Nat.le_of_ble_eq_true rfl) ⟨Nat.le_of_ble_eq_true rfl, Nat.le_of_ble_eq_true rfl⟩ dX7_direct_42 (fun H locs hH => ?_)
    refine lv_goto (pc := 45) (tgt := 59) hx hb dX7_direct_45 rfl ?_
    obtain rfl := Option.some.inj h
    exact z_vret X hr hH dX7_direct_59
  have h := zf zc3 h
  by_cases zc5 : x1 = 2
  · have h := zt zc5 h
    refine lv_tableIn (pc := 1) (off := 54) (tgt := 55) hx hb dX7_direct_1 (by rw [zc5]; decide) (by rw [zc5]; decide) (by rw [zc5]; rfl) rfl ?_
    refine lv_aload_n (pc := 55) hx hb dX7_direct_55 rfl (lv_at hl 0 rfl) ?_
    obtain ⟨zr6, hzr6, h⟩ := zb h
    refine zcV (pc := 56) (As := []) (rest := []) (st1 := []) (ws' := wW cy wq (.ref (pq 0)) (.ref (hq 0)) w_m w_root zr6.2.2.1 zr6.2.2.2 ++ wP cy pq zr6.1 zr6.2.1 ++ wH cy hq h_alive h_late h_hbr h_rbh h_waits h_pers h_size h_ranks h_lines) (wr := []) (n := 0) (q0 := 0) X (c_X7_directTurn l G cy fu wq pq hq h_alive h_late h_hbr h_rbh h_waits h_pers h_size h_ranks h_lines p_packed p_size w_m w_root w_step w_lacks zr6 hzr6) hH [0, 1, 2, 3, 4, 5, 6, 7, 8, 9] [] [0, 1, 2, 3, 4, 5, 6, 7, 8, 9] rfl rfl rfl rfl gX7_direct_X7_directTurn rfl ⟨rfl, rfl⟩ kX7_directTurn ⟨Nat.le_of_ble_eq_true rfl, Nat.le_of_ble_eq_true rfl⟩ rfl rfl rfl rfl rfl hl.1 (Nat.le_of_ble_eq_true rfl) ⟨Nat.le_of_ble_eq_true rfl, Nat.le_of_ble_eq_true rfl⟩ dX7_direct_56 (fun H locs hH => ?_)
    obtain rfl := Option.some.inj h
    exact z_vret X hr hH dX7_direct_59
  have h := zf zc5 h
  by_cases zc7 : x1 = 3
  · have h := zt zc7 h
    refine lv_tableIn (pc := 1) (off := 47) (tgt := 48) hx hb dX7_direct_1 (by rw [zc7]; decide) (by rw [zc7]; decide) (by rw [zc7]; rfl) rfl ?_
    refine lv_aload_n (pc := 48) hx hb dX7_direct_48 rfl (lv_at hl 0 rfl) ?_
    obtain ⟨zr8, hzr8, h⟩ := zb h
    refine zcV (pc := 49) (As := []) (rest := []) (st1 := []) (ws' := wW cy wq (.ref (pq 0)) (.ref (hq 0)) w_m w_root zr8.2.2.1 zr8.2.2.2 ++ wP cy pq zr8.1 zr8.2.1 ++ wH cy hq h_alive h_late h_hbr h_rbh h_waits h_pers h_size h_ranks h_lines) (wr := []) (n := 0) (q0 := 0) X (c_X7_directGather l G cy fu wq pq hq h_alive h_late h_hbr h_rbh h_waits h_pers h_size h_ranks h_lines p_packed p_size w_m w_root w_step w_lacks zr8 hzr8) hH [0, 1, 2, 3, 4, 5, 6, 7, 8, 9] [] [0, 1, 2, 3, 4, 5, 6, 7, 8, 9] rfl rfl rfl rfl gX7_direct_X7_directGather rfl ⟨rfl, rfl⟩ kX7_directGather ⟨Nat.le_of_ble_eq_true rfl, Nat.le_of_ble_eq_true rfl⟩ rfl rfl rfl rfl rfl hl.1 (Nat.le_of_ble_eq_true rfl) ⟨Nat.le_of_ble_eq_true rfl, Nat.le_of_ble_eq_true rfl⟩ dX7_direct_49 (fun H locs hH => ?_)
    refine lv_goto (pc := 52) (tgt := 59) hx hb dX7_direct_52 rfl ?_
    obtain rfl := Option.some.inj h
    exact z_vret X hr hH dX7_direct_59
  have h := zf zc7 h
  refine lv_tableOut (pc := 1) (tgt := 55) hx hb dX7_direct_1 (by have n0 := lv_neT zc1 (show (0 : Int32).toInt = 0 by decide); have n1 := lv_neT zc3 (show (1 : Int32).toInt = 1 by decide); have n2 := lv_neT zc5 (show (2 : Int32).toInt = 2 by decide); have n3 := lv_neT zc7 (show (3 : Int32).toInt = 3 by decide); omega) rfl ?_
  refine lv_aload_n (pc := 55) hx hb dX7_direct_55 rfl (lv_at hl 0 rfl) ?_
  obtain ⟨zr9, hzr9, h⟩ := zb h
  refine zcV (pc := 56) (As := []) (rest := []) (st1 := []) (ws' := wW cy wq (.ref (pq 0)) (.ref (hq 0)) w_m w_root zr9.2.2.1 zr9.2.2.2 ++ wP cy pq zr9.1 zr9.2.1 ++ wH cy hq h_alive h_late h_hbr h_rbh h_waits h_pers h_size h_ranks h_lines) (wr := []) (n := 0) (q0 := 0) X (c_X7_directTurn l G cy fu wq pq hq h_alive h_late h_hbr h_rbh h_waits h_pers h_size h_ranks h_lines p_packed p_size w_m w_root w_step w_lacks zr9 hzr9) hH [0, 1, 2, 3, 4, 5, 6, 7, 8, 9] [] [0, 1, 2, 3, 4, 5, 6, 7, 8, 9] rfl rfl rfl rfl gX7_direct_X7_directTurn rfl ⟨rfl, rfl⟩ kX7_directTurn ⟨Nat.le_of_ble_eq_true rfl, Nat.le_of_ble_eq_true rfl⟩ rfl rfl rfl rfl rfl hl.1 (Nat.le_of_ble_eq_true rfl) ⟨Nat.le_of_ble_eq_true rfl, Nat.le_of_ble_eq_true rfl⟩ dX7_direct_56 (fun H locs hH => ?_)
  obtain rfl := Option.some.inj h
  exact z_vret X hr hH dX7_direct_59
set_option maxHeartbeats 4000000 in
set_option maxRecDepth 100000 in
theorem c_X7_draw (l : Launch) (G : va_G) (cy : Nat → ClassId) (fu : Nat) (wq : Nat → Nat) (pq : Nat → Nat) (hq : Nat → Nat) (h_alive : Nat → Int32) (h_late : Nat → Int32) (h_hbr : Nat → Int32) (h_rbh : Nat → Int32) (h_waits : Nat → Int32) (h_pers : Nat → Int32) (h_size : Int32) (h_ranks : Int32) (h_lines : Int32) (p_packed : Nat → Int32) (p_size : Int32) (w_drawn : Value) (w_house : Value) (w_m : Int32) (w_root : Int32) (w_step : Int32) (w_lacks : Int32) (x3 : Int32) (x4 : Int32) (x5 : Int32) (rr : Int32 × (Nat → Int32) × Int32 × Value × Value × Int32 × Int32 × Int32 × Int32) (h : f_X7_draw fu pq hq h_alive h_hbr h_rbh h_waits h_size h_ranks p_packed p_size w_drawn w_house w_m w_root w_step w_lacks x3 x4 x5 = some rr) : zM l G cy yX7_draw wsX7_draw (zR 5 125) [.ref (wq 0), .ref (pq 0), .ref (hq 0), .int x3, .int x4, .int x5] (wW cy wq w_drawn w_house w_m w_root w_step w_lacks ++ wP cy pq p_packed p_size ++ wH cy hq h_alive h_late h_hbr h_rbh h_waits h_pers h_size h_ranks h_lines) (wW cy wq rr.2.2.2.1 rr.2.2.2.2.1 rr.2.2.2.2.2.1 rr.2.2.2.2.2.2.1 rr.2.2.2.2.2.2.2.1 rr.2.2.2.2.2.2.2.2 ++ wP cy pq rr.2.1 rr.2.2.1 ++ wH cy hq h_alive h_late h_hbr h_rbh h_waits h_pers h_size h_ranks h_lines) (some (.int rr.1)) := by
  refine zM.mk (cc := cX7_draw) (nL := 6) (ret := (some .int)) (by decide) rfl (Nat.le_of_ble_eq_true rfl) ?_
  intro p e s m below meth c A ls X hr hH hl
  replace X : zX p s m [.ref (wq 0), .ref (pq 0), .ref (hq 0), .int x3, .int x4, .int x5].toArray meth c RX7 cX7_draw 6 wsX7_draw G cy A := X
  have hx := X.1.1
  have hb := X.1.2.1
  replace hl : lv_has ls 6 [(0, .ref (wq 0)), (1, .ref (pq 0)), (2, .ref (hq 0)), (3, .int x3), (4, .int x4), (5, .int x5)] := hl
  dsimp only [f_X7_draw] at h
  obtain ⟨kn, hkn⟩ := X.2.2.2.2.2
  refine lv_iload_n (pc := 0) hx hb dX7_draw_0 rfl (lv_at hl 3 rfl) ?_
  refine lv_if_lt (pc := 1) (tgt := 23) hx hb dX7_draw_1 rfl (fun zc1 => ?_) (fun zc1 => ?_)
  · have h := zt zc1 h
    refine lv_iconst (v := (-1)) (pc := 23) hx hb dX7_draw_23 zk_cm1 ?_
    obtain rfl := Option.some.inj h
    exact z_iret X hr hH dX7_draw_24
  have h := zf zc1 h
  refine lv_iload_n (pc := 4) hx hb dX7_draw_4 rfl (lv_at hl 3 rfl) ?_
  refine va_gets (pc := 5) hx hb hkn.1 hH.2.2 X.1.2.2.2.1 (X.1.2.2.2.2 _ (List.mem_of_getElem? (i := 1) rfl)) (fun _ h => h) dX7_draw_5 ?_
  refine z_klen (pc := 8) (v := 4) hx hb hkn.2 hH (by decide) dX7_draw_8 ?_
  refine lv_icmp_ge (pc := 9) (tgt := 23) hx hb dX7_draw_9 rfl (fun zc2 => ?_) (fun zc2 => ?_)
  · have h := zt zc2 h
    refine lv_iconst (v := (-1)) (pc := 23) hx hb dX7_draw_23 zk_cm1 ?_
    obtain rfl := Option.some.inj h
    exact z_iret X hr hH dX7_draw_24
  have h := zf zc2 h
  refine lv_aload_n (pc := 12) hx hb dX7_draw_12 rfl (lv_at hl 2 rfl) ?_
  refine lv_iload (pc := 13) hx hb dX7_draw_13 (lv_at hl 4 rfl) ?_
  refine lv_iload (pc := 15) hx hb dX7_draw_15 (lv_at hl 5 rfl) ?_
  obtain ⟨zr3, hzr3, h⟩ := zb h
  refine zcN (pc := 17) (As := [.ref (hq 0), .int x4, .int x5]) (rest := []) (st1 := [.int zr3]) (ws' := wW cy wq w_drawn w_house w_m w_root w_step w_lacks ++ wP cy pq p_packed p_size ++ wH cy hq h_alive h_late h_hbr h_rbh h_waits h_pers h_size h_ranks h_lines) (wr := [((wq 0), .inr (6, [w_drawn, w_house, .int w_m, .int w_root, .int w_step, .int w_lacks])), ((pq 0), .inr (3, [.ref (pq 1), .int p_size])), ((pq 1), .inl (cy 0, 1200, .inl p_packed))]) (n := 3) (host := "SumsToAll") X (c_X8_isAsked l G cy fu hq h_alive h_late h_hbr h_rbh h_waits h_pers h_size h_ranks h_lines x4 x5 zr3 hzr3) hH [3, 4, 5, 6, 7, 8, 9] [0, 1, 2] [0, 1, 2, 3, 4, 5, 6, 7, 8, 9] rfl rfl rfl rfl gX7_draw_X8_isAsked_n15 (List.mem_of_getElem? (i := 14) rfl) (List.mem_of_getElem? (i := 6) rfl) (List.mem_of_getElem? (i := 5) rfl) rfl ⟨rfl, rfl⟩ kX8_isAsked ⟨Nat.le_of_ble_eq_true rfl, Nat.le_of_ble_eq_true rfl⟩ rfl rfl rfl hl.1 (Nat.le_of_ble_eq_true rfl) ⟨Nat.le_of_ble_eq_true rfl, Nat.le_of_ble_eq_true rfl⟩ dX7_draw_17 (fun H locs hH => ?_)
  refine lv_if_ne (pc := 20) (tgt := 25) hx hb dX7_draw_20 rfl (fun zc4 => ?_) (fun zc4 => ?_)
  · have h := zf zc4 h
    refine lv_aload_n (pc := 25) hx hb dX7_draw_25 rfl (lv_at hl 0 rfl) ?_
    refine lv_aload_n (pc := 26) hx hb dX7_draw_26 rfl (lv_at hl 1 rfl) ?_
    refine lv_aload_n (pc := 27) hx hb dX7_draw_27 rfl (lv_at hl 2 rfl) ?_
    refine lv_iload (pc := 28) hx hb dX7_draw_28 (lv_at hl 5 rfl) ?_
    obtain ⟨zr5, hzr5, h⟩ := zb h
    refine zcV (pc := 30) (As := [.ref (pq 0), .ref (hq 0), .int x5]) (rest := []) (st1 := []) (ws' := wW cy wq (.ref (pq 0)) (.ref (hq 0)) zr5.2.1 zr5.2.2.1 zr5.2.2.2.1 zr5.2.2.2.2 ++ wP cy pq p_packed zr5.1 ++ wH cy hq h_alive h_late h_hbr h_rbh h_waits h_pers h_size h_ranks h_lines) (wr := []) (n := 3) (q0 := 0) X (c_X7_begin l G cy fu wq pq hq h_alive h_late h_hbr h_rbh h_waits h_pers h_size h_ranks h_lines p_packed p_size w_drawn w_house w_m w_root w_step w_lacks x5 zr5 hzr5) hH [0, 1, 2, 3, 4, 5, 6, 7, 8, 9] [] [0, 1, 2, 3, 4, 5, 6, 7, 8, 9] rfl rfl rfl rfl gX7_draw_X7_begin rfl ⟨rfl, rfl⟩ kX7_begin ⟨Nat.le_of_ble_eq_true rfl, Nat.le_of_ble_eq_true rfl⟩ rfl rfl rfl rfl rfl hl.1 (Nat.le_of_ble_eq_true rfl) ⟨Nat.le_of_ble_eq_true rfl, Nat.le_of_ble_eq_true rfl⟩ dX7_draw_30 (fun H locs hH => ?_)
    refine va_gets (pc := 33) hx hb hkn.1 hH.2.2 X.1.2.2.2.1 (X.1.2.2.2.2 _ (List.mem_of_getElem? (i := 1) rfl)) (fun _ h => h) dX7_draw_33 ?_
    refine lv_iload_n (pc := 36) hx hb dX7_draw_36 rfl (lv_at hl 3 rfl) ?_
    obtain ⟨hin, h⟩ := zg h
    refine z_kald (pc := 37) hx hb hkn.2 hH hin dX7_draw_37 ?_
    refine lv_iload (pc := 38) hx hb dX7_draw_38 (lv_at hl 4 rfl) ?_
    refine lv_ishr (pc := 40) hx hb dX7_draw_40 ?_
    refine lv_iconst (v := 1) (pc := 41) hx hb dX7_draw_41 zk_c1 ?_
    refine lv_iand (pc := 42) hx hb dX7_draw_42 ?_
    refine lv_if_eq (pc := 43) (tgt := 65) hx hb dX7_draw_43 rfl (fun zc6 => ?_) (fun zc6 => ?_)
    · have h := zt zc6 h
      refine lv_bipush (v := (-2)) (pc := 65) hx hb dX7_draw_65 zk_bm2 ?_
      obtain rfl := Option.some.inj h
      exact z_iret X hr hH dX7_draw_67
    have h := zf zc6 h
    refine lv_iload_n (pc := 46) hx hb dX7_draw_46 rfl (lv_at hl 3 rfl) ?_
    refine lv_iconst (v := 2) (pc := 47) hx hb dX7_draw_47 zk_c2 ?_
    refine lv_icmp_ne (pc := 48) (tgt := 68) hx hb dX7_draw_48 rfl (fun zc7 => ?_) (fun zc7 => ?_)
    · have h := zf zc7 h
      refine lv_iload_n (pc := 68) hx hb dX7_draw_68 rfl (lv_at hl 3 rfl) ?_
      by_cases zc8 : x3 = 0
      · have h := zt zc8 h
        refine lv_tableIn (pc := 69) (off := 27) (tgt := 96) hx hb dX7_draw_69 (by rw [zc8]; decide) (by rw [zc8]; decide) (by rw [zc8]; rfl) rfl ?_
        refine lv_aload_n (pc := 96) hx hb dX7_draw_96 rfl (lv_at hl 0 rfl) ?_
        refine lv_iload (pc := 97) hx hb dX7_draw_97 (lv_at hl 4 rfl) ?_
        obtain ⟨zr9, hzr9, h⟩ := zb h
        refine zcV (pc := 99) (As := [.int x4]) (rest := []) (st1 := []) (ws' := wW cy wq (.ref (pq 0)) (.ref (hq 0)) zr5.2.1 zr5.2.2.1 zr9.2.2.1 zr9.2.2.2 ++ wP cy pq zr9.1 zr9.2.1 ++ wH cy hq h_alive h_late h_hbr h_rbh h_waits h_pers h_size h_ranks h_lines) (wr := []) (n := 1) (q0 := 0) X (c_X7_ring l G cy fu wq pq hq h_alive h_late h_hbr h_rbh h_waits h_pers h_size h_ranks h_lines p_packed zr5.1 zr5.2.1 zr5.2.2.1 zr5.2.2.2.1 zr5.2.2.2.2 x4 zr9 hzr9) hH [0, 1, 2, 3, 4, 5, 6, 7, 8, 9] [] [0, 1, 2, 3, 4, 5, 6, 7, 8, 9] rfl rfl rfl rfl gX7_draw_X7_ring rfl ⟨rfl, rfl⟩ kX7_ring ⟨Nat.le_of_ble_eq_true rfl, Nat.le_of_ble_eq_true rfl⟩ rfl rfl rfl rfl rfl hl.1 (Nat.le_of_ble_eq_true rfl) ⟨Nat.le_of_ble_eq_true rfl, Nat.le_of_ble_eq_true rfl⟩ dX7_draw_99 (fun H locs hH => ?_)
        refine lv_goto (pc := 102) (tgt := 129) hx hb dX7_draw_102 rfl ?_
        refine lv_aload_n (pc := 129) hx hb dX7_draw_129 rfl (lv_at hl 0 rfl) ?_
        refine z_get (pc := 130) (v := .int zr9.2.2.2) X iX7_draw_X7 hH 0 rfl rfl 5 rfl (List.mem_of_getElem? (i := 3) rfl) rfl dX7_draw_130 ?_
        refine lv_if_eq (pc := 133) (tgt := 141) hx hb dX7_draw_133 rfl (fun zc10 => ?_) (fun zc10 => ?_)
        · have h := zt zc10 h
          refine lv_aload_n (pc := 141) hx hb dX7_draw_141 rfl (lv_at hl 0 rfl) ?_
          refine z_get (pc := 142) (v := .ref (pq 0)) X iX7_draw_X7 hH 0 rfl rfl 0 rfl (List.mem_of_getElem? (i := 4) rfl) rfl dX7_draw_142 ?_
          obtain ⟨zr11, hzr11, h⟩ := zb h
          refine zcV (pc := 145) (As := []) (rest := []) (st1 := [.int zr11]) (ws' := wW cy wq (.ref (pq 0)) (.ref (hq 0)) zr5.2.1 zr5.2.2.1 zr9.2.2.1 zr9.2.2.2 ++ wP cy pq zr9.1 zr9.2.1 ++ wH cy hq h_alive h_late h_hbr h_rbh h_waits h_pers h_size h_ranks h_lines) (wr := [((wq 0), .inr (6, [(.ref (pq 0)), (.ref (hq 0)), .int zr5.2.1, .int zr5.2.2.1, .int zr9.2.2.1, .int zr9.2.2.2])), ((hq 0), .inr (2, [.ref (hq 1), .ref (hq 2), .ref (hq 3), .ref (hq 4), .ref (hq 5), .ref (hq 6), .int h_size, .int h_ranks, .int h_lines])), ((hq 1), .inl (cy 2, 16, .inl h_alive)), ((hq 2), .inl (cy 0, 16, .inl h_late)), ((hq 3), .inl (cy 0, 16, .inl h_hbr)), ((hq 4), .inl (cy 0, 16, .inl h_rbh)), ((hq 5), .inl (cy 0, 256, .inl h_waits)), ((hq 6), .inl (cy 0, 256, .inl h_pers))]) (n := 0) (q0 := 0) X (c_X4_steps l G cy fu pq zr9.1 zr9.2.1 zr11 hzr11) hH [1, 2] [0, 3, 4, 5, 6, 7, 8, 9] [0, 8, 9, 1, 2, 3, 4, 5, 6, 7] rfl rfl rfl rfl gX7_draw_X4_steps rfl ⟨rfl, rfl⟩ kX4_steps ⟨Nat.le_of_ble_eq_true rfl, Nat.le_of_ble_eq_true rfl⟩ rfl rfl rfl rfl rfl hl.1 (Nat.le_of_ble_eq_true rfl) ⟨Nat.le_of_ble_eq_true rfl, Nat.le_of_ble_eq_true rfl⟩ dX7_draw_145 (fun H locs hH => ?_)
          obtain rfl := Option.some.inj h
          exact z_iret X hr hH dX7_draw_148
        have h := zf zc10 h
        refine lv_bipush (v := (-3)) (pc := 136) hx hb dX7_draw_136 zk_bm3 ?_
        refine lv_goto (pc := 138) (tgt := 148) hx hb dX7_draw_138 rfl ?_
        obtain rfl := Option.some.inj h
        exact z_iret X hr hH dX7_draw_148
      have h := zf zc8 h
      by_cases zc12 : x3 = 1
      · have h := zt zc12 h
        refine lv_tableIn (pc := 69) (off := 36) (tgt := 105) hx hb dX7_draw_69 (by rw [zc12]; decide) (by rw [zc12]; decide) (by rw [zc12]; rfl) rfl ?_
        refine lv_aload_n (pc := 105) hx hb dX7_draw_105 rfl (lv_at hl 0 rfl) ?_
        refine lv_iload (pc := 106) hx hb dX7_draw_106 (lv_at hl 4 rfl) ?_
        obtain ⟨zr13, hzr13, h⟩ := zb h
        refine zcV (pc := 108) (As := [.int x4]) (rest := []) (st1 := []) (ws' := wW cy wq (.ref (pq 0)) (.ref (hq 0)) zr5.2.1 zr5.2.2.1 zr13.2.2.1 zr13.2.2.2 ++ wP cy pq zr13.1 zr13.2.1 ++ wH cy hq h_alive h_late h_hbr h_rbh h_waits h_pers h_size h_ranks h_lines) (wr := []) (n := 1) (q0 := 0) X (c_X7_tree l G cy fu wq pq hq h_alive h_late h_hbr h_rbh h_waits h_pers h_size h_ranks h_lines p_packed zr5.1 zr5.2.1 zr5.2.2.1 zr5.2.2.2.1 zr5.2.2.2.2 x4 zr13 hzr13) hH [0, 1, 2, 3, 4, 5, 6, 7, 8, 9] [] [0, 1, 2, 3, 4, 5, 6, 7, 8, 9] rfl rfl rfl rfl gX7_draw_X7_tree rfl ⟨rfl, rfl⟩ kX7_tree ⟨Nat.le_of_ble_eq_true rfl, Nat.le_of_ble_eq_true rfl⟩ rfl rfl rfl rfl rfl hl.1 (Nat.le_of_ble_eq_true rfl) ⟨Nat.le_of_ble_eq_true rfl, Nat.le_of_ble_eq_true rfl⟩ dX7_draw_108 (fun H locs hH => ?_)
        refine lv_goto (pc := 111) (tgt := 129) hx hb dX7_draw_111 rfl ?_
        refine lv_aload_n (pc := 129) hx hb dX7_draw_129 rfl (lv_at hl 0 rfl) ?_
        refine z_get (pc := 130) (v := .int zr13.2.2.2) X iX7_draw_X7 hH 0 rfl rfl 5 rfl (List.mem_of_getElem? (i := 3) rfl) rfl dX7_draw_130 ?_
        refine lv_if_eq (pc := 133) (tgt := 141) hx hb dX7_draw_133 rfl (fun zc14 => ?_) (fun zc14 => ?_)
        · have h := zt zc14 h
          refine lv_aload_n (pc := 141) hx hb dX7_draw_141 rfl (lv_at hl 0 rfl) ?_
          refine z_get (pc := 142) (v := .ref (pq 0)) X iX7_draw_X7 hH 0 rfl rfl 0 rfl (List.mem_of_getElem? (i := 4) rfl) rfl dX7_draw_142 ?_
          obtain ⟨zr15, hzr15, h⟩ := zb h
          refine zcV (pc := 145) (As := []) (rest := []) (st1 := [.int zr15]) (ws' := wW cy wq (.ref (pq 0)) (.ref (hq 0)) zr5.2.1 zr5.2.2.1 zr13.2.2.1 zr13.2.2.2 ++ wP cy pq zr13.1 zr13.2.1 ++ wH cy hq h_alive h_late h_hbr h_rbh h_waits h_pers h_size h_ranks h_lines) (wr := [((wq 0), .inr (6, [(.ref (pq 0)), (.ref (hq 0)), .int zr5.2.1, .int zr5.2.2.1, .int zr13.2.2.1, .int zr13.2.2.2])), ((hq 0), .inr (2, [.ref (hq 1), .ref (hq 2), .ref (hq 3), .ref (hq 4), .ref (hq 5), .ref (hq 6), .int h_size, .int h_ranks, .int h_lines])), ((hq 1), .inl (cy 2, 16, .inl h_alive)), ((hq 2), .inl (cy 0, 16, .inl h_late)), ((hq 3), .inl (cy 0, 16, .inl h_hbr)), ((hq 4), .inl (cy 0, 16, .inl h_rbh)), ((hq 5), .inl (cy 0, 256, .inl h_waits)), ((hq 6), .inl (cy 0, 256, .inl h_pers))]) (n := 0) (q0 := 0) X (c_X4_steps l G cy fu pq zr13.1 zr13.2.1 zr15 hzr15) hH [1, 2] [0, 3, 4, 5, 6, 7, 8, 9] [0, 8, 9, 1, 2, 3, 4, 5, 6, 7] rfl rfl rfl rfl gX7_draw_X4_steps rfl ⟨rfl, rfl⟩ kX4_steps ⟨Nat.le_of_ble_eq_true rfl, Nat.le_of_ble_eq_true rfl⟩ rfl rfl rfl rfl rfl hl.1 (Nat.le_of_ble_eq_true rfl) ⟨Nat.le_of_ble_eq_true rfl, Nat.le_of_ble_eq_true rfl⟩ dX7_draw_145 (fun H locs hH => ?_)
          obtain rfl := Option.some.inj h
          exact z_iret X hr hH dX7_draw_148
        have h := zf zc14 h
        refine lv_bipush (v := (-3)) (pc := 136) hx hb dX7_draw_136 zk_bm3 ?_
        refine lv_goto (pc := 138) (tgt := 148) hx hb dX7_draw_138 rfl ?_
        obtain rfl := Option.some.inj h
        exact z_iret X hr hH dX7_draw_148
      have h := zf zc12 h
      by_cases zc16 : x3 = 2
      · have h := zt zc16 h
        refine lv_tableIn (pc := 69) (off := 45) (tgt := 114) hx hb dX7_draw_69 (by rw [zc16]; decide) (by rw [zc16]; decide) (by rw [zc16]; rfl) rfl ?_
        refine lv_aload_n (pc := 114) hx hb dX7_draw_114 rfl (lv_at hl 0 rfl) ?_
        refine lv_iload (pc := 115) hx hb dX7_draw_115 (lv_at hl 4 rfl) ?_
        obtain ⟨zr17, hzr17, h⟩ := zb h
        refine zcV (pc := 117) (As := [.int x4]) (rest := []) (st1 := []) (ws' := wW cy wq (.ref (pq 0)) (.ref (hq 0)) zr5.2.1 zr5.2.2.1 zr17.2.2.1 zr17.2.2.2 ++ wP cy pq zr17.1 zr17.2.1 ++ wH cy hq h_alive h_late h_hbr h_rbh h_waits h_pers h_size h_ranks h_lines) (wr := []) (n := 1) (q0 := 0) X (c_X7_halving l G cy fu wq pq hq h_alive h_late h_hbr h_rbh h_waits h_pers h_size h_ranks h_lines p_packed zr5.1 zr5.2.1 zr5.2.2.1 zr5.2.2.2.1 zr5.2.2.2.2 x4 zr17 hzr17) hH [0, 1, 2, 3, 4, 5, 6, 7, 8, 9] [] [0, 1, 2, 3, 4, 5, 6, 7, 8, 9] rfl rfl rfl rfl gX7_draw_X7_halving rfl ⟨rfl, rfl⟩ kX7_halving ⟨Nat.le_of_ble_eq_true rfl, Nat.le_of_ble_eq_true rfl⟩ rfl rfl rfl rfl rfl hl.1 (Nat.le_of_ble_eq_true rfl) ⟨Nat.le_of_ble_eq_true rfl, Nat.le_of_ble_eq_true rfl⟩ dX7_draw_117 (fun H locs hH => ?_)
        refine lv_goto (pc := 120) (tgt := 129) hx hb dX7_draw_120 rfl ?_
        refine lv_aload_n (pc := 129) hx hb dX7_draw_129 rfl (lv_at hl 0 rfl) ?_
        refine z_get (pc := 130) (v := .int zr17.2.2.2) X iX7_draw_X7 hH 0 rfl rfl 5 rfl (List.mem_of_getElem? (i := 3) rfl) rfl dX7_draw_130 ?_
        refine lv_if_eq (pc := 133) (tgt := 141) hx hb dX7_draw_133 rfl (fun zc18 => ?_) (fun zc18 => ?_)
        · have h := zt zc18 h
          refine lv_aload_n (pc := 141) hx hb dX7_draw_141 rfl (lv_at hl 0 rfl) ?_
          refine z_get (pc := 142) (v := .ref (pq 0)) X iX7_draw_X7 hH 0 rfl rfl 0 rfl (List.mem_of_getElem? (i := 4) rfl) rfl dX7_draw_142 ?_
          obtain ⟨zr19, hzr19, h⟩ := zb h
          refine zcV (pc := 145) (As := []) (rest := []) (st1 := [.int zr19]) (ws' := wW cy wq (.ref (pq 0)) (.ref (hq 0)) zr5.2.1 zr5.2.2.1 zr17.2.2.1 zr17.2.2.2 ++ wP cy pq zr17.1 zr17.2.1 ++ wH cy hq h_alive h_late h_hbr h_rbh h_waits h_pers h_size h_ranks h_lines) (wr := [((wq 0), .inr (6, [(.ref (pq 0)), (.ref (hq 0)), .int zr5.2.1, .int zr5.2.2.1, .int zr17.2.2.1, .int zr17.2.2.2])), ((hq 0), .inr (2, [.ref (hq 1), .ref (hq 2), .ref (hq 3), .ref (hq 4), .ref (hq 5), .ref (hq 6), .int h_size, .int h_ranks, .int h_lines])), ((hq 1), .inl (cy 2, 16, .inl h_alive)), ((hq 2), .inl (cy 0, 16, .inl h_late)), ((hq 3), .inl (cy 0, 16, .inl h_hbr)), ((hq 4), .inl (cy 0, 16, .inl h_rbh)), ((hq 5), .inl (cy 0, 256, .inl h_waits)), ((hq 6), .inl (cy 0, 256, .inl h_pers))]) (n := 0) (q0 := 0) X (c_X4_steps l G cy fu pq zr17.1 zr17.2.1 zr19 hzr19) hH [1, 2] [0, 3, 4, 5, 6, 7, 8, 9] [0, 8, 9, 1, 2, 3, 4, 5, 6, 7] rfl rfl rfl rfl gX7_draw_X4_steps rfl ⟨rfl, rfl⟩ kX4_steps ⟨Nat.le_of_ble_eq_true rfl, Nat.le_of_ble_eq_true rfl⟩ rfl rfl rfl rfl rfl hl.1 (Nat.le_of_ble_eq_true rfl) ⟨Nat.le_of_ble_eq_true rfl, Nat.le_of_ble_eq_true rfl⟩ dX7_draw_145 (fun H locs hH => ?_)
          obtain rfl := Option.some.inj h
          exact z_iret X hr hH dX7_draw_148
        have h := zf zc18 h
        refine lv_bipush (v := (-3)) (pc := 136) hx hb dX7_draw_136 zk_bm3 ?_
        refine lv_goto (pc := 138) (tgt := 148) hx hb dX7_draw_138 rfl ?_
        obtain rfl := Option.some.inj h
        exact z_iret X hr hH dX7_draw_148
      have h := zf zc16 h
      refine lv_tableOut (pc := 69) (tgt := 123) hx hb dX7_draw_69 (by have n0 := lv_neT zc8 (show (0 : Int32).toInt = 0 by decide); have n1 := lv_neT zc12 (show (1 : Int32).toInt = 1 by decide); have n2 := lv_neT zc16 (show (2 : Int32).toInt = 2 by decide); omega) rfl ?_
      refine lv_aload_n (pc := 123) hx hb dX7_draw_123 rfl (lv_at hl 0 rfl) ?_
      refine lv_iload (pc := 124) hx hb dX7_draw_124 (lv_at hl 4 rfl) ?_
      obtain ⟨zr20, hzr20, h⟩ := zb h
      refine zcV (pc := 126) (As := [.int x4]) (rest := []) (st1 := []) (ws' := wW cy wq (.ref (pq 0)) (.ref (hq 0)) zr5.2.1 zr5.2.2.1 zr20.2.2.1 zr20.2.2.2 ++ wP cy pq zr20.1 zr20.2.1 ++ wH cy hq h_alive h_late h_hbr h_rbh h_waits h_pers h_size h_ranks h_lines) (wr := []) (n := 1) (q0 := 0) X (c_X7_direct l G cy fu wq pq hq h_alive h_late h_hbr h_rbh h_waits h_pers h_size h_ranks h_lines p_packed zr5.1 zr5.2.1 zr5.2.2.1 zr5.2.2.2.1 zr5.2.2.2.2 x4 zr20 hzr20) hH [0, 1, 2, 3, 4, 5, 6, 7, 8, 9] [] [0, 1, 2, 3, 4, 5, 6, 7, 8, 9] rfl rfl rfl rfl gX7_draw_X7_direct rfl ⟨rfl, rfl⟩ kX7_direct ⟨Nat.le_of_ble_eq_true rfl, Nat.le_of_ble_eq_true rfl⟩ rfl rfl rfl rfl rfl hl.1 (Nat.le_of_ble_eq_true rfl) ⟨Nat.le_of_ble_eq_true rfl, Nat.le_of_ble_eq_true rfl⟩ dX7_draw_126 (fun H locs hH => ?_)
      refine lv_aload_n (pc := 129) hx hb dX7_draw_129 rfl (lv_at hl 0 rfl) ?_
      refine z_get (pc := 130) (v := .int zr20.2.2.2) X iX7_draw_X7 hH 0 rfl rfl 5 rfl (List.mem_of_getElem? (i := 3) rfl) rfl dX7_draw_130 ?_
      refine lv_if_eq (pc := 133) (tgt := 141) hx hb dX7_draw_133 rfl (fun zc21 => ?_) (fun zc21 => ?_)
      · have h := zt zc21 h
        refine lv_aload_n (pc := 141) hx hb dX7_draw_141 rfl (lv_at hl 0 rfl) ?_
        refine z_get (pc := 142) (v := .ref (pq 0)) X iX7_draw_X7 hH 0 rfl rfl 0 rfl (List.mem_of_getElem? (i := 4) rfl) rfl dX7_draw_142 ?_
        obtain ⟨zr22, hzr22, h⟩ := zb h
        refine zcV (pc := 145) (As := []) (rest := []) (st1 := [.int zr22]) (ws' := wW cy wq (.ref (pq 0)) (.ref (hq 0)) zr5.2.1 zr5.2.2.1 zr20.2.2.1 zr20.2.2.2 ++ wP cy pq zr20.1 zr20.2.1 ++ wH cy hq h_alive h_late h_hbr h_rbh h_waits h_pers h_size h_ranks h_lines) (wr := [((wq 0), .inr (6, [(.ref (pq 0)), (.ref (hq 0)), .int zr5.2.1, .int zr5.2.2.1, .int zr20.2.2.1, .int zr20.2.2.2])), ((hq 0), .inr (2, [.ref (hq 1), .ref (hq 2), .ref (hq 3), .ref (hq 4), .ref (hq 5), .ref (hq 6), .int h_size, .int h_ranks, .int h_lines])), ((hq 1), .inl (cy 2, 16, .inl h_alive)), ((hq 2), .inl (cy 0, 16, .inl h_late)), ((hq 3), .inl (cy 0, 16, .inl h_hbr)), ((hq 4), .inl (cy 0, 16, .inl h_rbh)), ((hq 5), .inl (cy 0, 256, .inl h_waits)), ((hq 6), .inl (cy 0, 256, .inl h_pers))]) (n := 0) (q0 := 0) X (c_X4_steps l G cy fu pq zr20.1 zr20.2.1 zr22 hzr22) hH [1, 2] [0, 3, 4, 5, 6, 7, 8, 9] [0, 8, 9, 1, 2, 3, 4, 5, 6, 7] rfl rfl rfl rfl gX7_draw_X4_steps rfl ⟨rfl, rfl⟩ kX4_steps ⟨Nat.le_of_ble_eq_true rfl, Nat.le_of_ble_eq_true rfl⟩ rfl rfl rfl rfl rfl hl.1 (Nat.le_of_ble_eq_true rfl) ⟨Nat.le_of_ble_eq_true rfl, Nat.le_of_ble_eq_true rfl⟩ dX7_draw_145 (fun H locs hH => ?_)
        obtain rfl := Option.some.inj h
        exact z_iret X hr hH dX7_draw_148
      have h := zf zc21 h
      refine lv_bipush (v := (-3)) (pc := 136) hx hb dX7_draw_136 zk_bm3 ?_
      refine lv_goto (pc := 138) (tgt := 148) hx hb dX7_draw_138 rfl ?_
      obtain rfl := Option.some.inj h
      exact z_iret X hr hH dX7_draw_148
    have h := zt zc7 h
    refine lv_aload_n (pc := 51) hx hb dX7_draw_51 rfl (lv_at hl 0 rfl) ?_
    refine z_get (pc := 52) (v := .int zr5.2.1) X iX7_draw_X7 hH 0 rfl rfl 2 rfl (List.mem_of_getElem? (i := 2) rfl) rfl dX7_draw_52 ?_
    refine lv_aload_n (pc := 55) hx hb dX7_draw_55 rfl (lv_at hl 0 rfl) ?_
    refine z_get (pc := 56) (v := .int zr5.2.1) X iX7_draw_X7 hH 0 rfl rfl 2 rfl (List.mem_of_getElem? (i := 2) rfl) rfl dX7_draw_56 ?_
    refine lv_iconst (v := 1) (pc := 59) hx hb dX7_draw_59 zk_c1 ?_
    refine lv_isub (pc := 60) hx hb dX7_draw_60 ?_
    refine lv_iand (pc := 61) hx hb dX7_draw_61 ?_
    refine lv_if_eq (pc := 62) (tgt := 68) hx hb dX7_draw_62 rfl (fun zc23 => ?_) (fun zc23 => ?_)
    · have h := zt zc23 h
      refine lv_iload_n (pc := 68) hx hb dX7_draw_68 rfl (lv_at hl 3 rfl) ?_
      refine lv_tableIn (pc := 69) (off := 45) (tgt := 114) hx hb dX7_draw_69 (by rw [zc7]; decide) (by rw [zc7]; decide) (by rw [zc7]; rfl) rfl ?_
      refine lv_aload_n (pc := 114) hx hb dX7_draw_114 rfl (lv_at hl 0 rfl) ?_
      refine lv_iload (pc := 115) hx hb dX7_draw_115 (lv_at hl 4 rfl) ?_
      obtain ⟨zr24, hzr24, h⟩ := zb h
      refine zcV (pc := 117) (As := [.int x4]) (rest := []) (st1 := []) (ws' := wW cy wq (.ref (pq 0)) (.ref (hq 0)) zr5.2.1 zr5.2.2.1 zr24.2.2.1 zr24.2.2.2 ++ wP cy pq zr24.1 zr24.2.1 ++ wH cy hq h_alive h_late h_hbr h_rbh h_waits h_pers h_size h_ranks h_lines) (wr := []) (n := 1) (q0 := 0) X (c_X7_halving l G cy fu wq pq hq h_alive h_late h_hbr h_rbh h_waits h_pers h_size h_ranks h_lines p_packed zr5.1 zr5.2.1 zr5.2.2.1 zr5.2.2.2.1 zr5.2.2.2.2 x4 zr24 hzr24) hH [0, 1, 2, 3, 4, 5, 6, 7, 8, 9] [] [0, 1, 2, 3, 4, 5, 6, 7, 8, 9] rfl rfl rfl rfl gX7_draw_X7_halving rfl ⟨rfl, rfl⟩ kX7_halving ⟨Nat.le_of_ble_eq_true rfl, Nat.le_of_ble_eq_true rfl⟩ rfl rfl rfl rfl rfl hl.1 (Nat.le_of_ble_eq_true rfl) ⟨Nat.le_of_ble_eq_true rfl, Nat.le_of_ble_eq_true rfl⟩ dX7_draw_117 (fun H locs hH => ?_)
      refine lv_goto (pc := 120) (tgt := 129) hx hb dX7_draw_120 rfl ?_
      refine lv_aload_n (pc := 129) hx hb dX7_draw_129 rfl (lv_at hl 0 rfl) ?_
      refine z_get (pc := 130) (v := .int zr24.2.2.2) X iX7_draw_X7 hH 0 rfl rfl 5 rfl (List.mem_of_getElem? (i := 3) rfl) rfl dX7_draw_130 ?_
      refine lv_if_eq (pc := 133) (tgt := 141) hx hb dX7_draw_133 rfl (fun zc25 => ?_) (fun zc25 => ?_)
      · have h := zt zc25 h
        refine lv_aload_n (pc := 141) hx hb dX7_draw_141 rfl (lv_at hl 0 rfl) ?_
        refine z_get (pc := 142) (v := .ref (pq 0)) X iX7_draw_X7 hH 0 rfl rfl 0 rfl (List.mem_of_getElem? (i := 4) rfl) rfl dX7_draw_142 ?_
        obtain ⟨zr26, hzr26, h⟩ := zb h
        refine zcV (pc := 145) (As := []) (rest := []) (st1 := [.int zr26]) (ws' := wW cy wq (.ref (pq 0)) (.ref (hq 0)) zr5.2.1 zr5.2.2.1 zr24.2.2.1 zr24.2.2.2 ++ wP cy pq zr24.1 zr24.2.1 ++ wH cy hq h_alive h_late h_hbr h_rbh h_waits h_pers h_size h_ranks h_lines) (wr := [((wq 0), .inr (6, [(.ref (pq 0)), (.ref (hq 0)), .int zr5.2.1, .int zr5.2.2.1, .int zr24.2.2.1, .int zr24.2.2.2])), ((hq 0), .inr (2, [.ref (hq 1), .ref (hq 2), .ref (hq 3), .ref (hq 4), .ref (hq 5), .ref (hq 6), .int h_size, .int h_ranks, .int h_lines])), ((hq 1), .inl (cy 2, 16, .inl h_alive)), ((hq 2), .inl (cy 0, 16, .inl h_late)), ((hq 3), .inl (cy 0, 16, .inl h_hbr)), ((hq 4), .inl (cy 0, 16, .inl h_rbh)), ((hq 5), .inl (cy 0, 256, .inl h_waits)), ((hq 6), .inl (cy 0, 256, .inl h_pers))]) (n := 0) (q0 := 0) X (c_X4_steps l G cy fu pq zr24.1 zr24.2.1 zr26 hzr26) hH [1, 2] [0, 3, 4, 5, 6, 7, 8, 9] [0, 8, 9, 1, 2, 3, 4, 5, 6, 7] rfl rfl rfl rfl gX7_draw_X4_steps rfl ⟨rfl, rfl⟩ kX4_steps ⟨Nat.le_of_ble_eq_true rfl, Nat.le_of_ble_eq_true rfl⟩ rfl rfl rfl rfl rfl hl.1 (Nat.le_of_ble_eq_true rfl) ⟨Nat.le_of_ble_eq_true rfl, Nat.le_of_ble_eq_true rfl⟩ dX7_draw_145 (fun H locs hH => ?_)
        obtain rfl := Option.some.inj h
        exact z_iret X hr hH dX7_draw_148
      have h := zf zc25 h
      refine lv_bipush (v := (-3)) (pc := 136) hx hb dX7_draw_136 zk_bm3 ?_
      refine lv_goto (pc := 138) (tgt := 148) hx hb dX7_draw_138 rfl ?_
      obtain rfl := Option.some.inj h
      exact z_iret X hr hH dX7_draw_148
    have h := zf zc23 h
    refine lv_bipush (v := (-2)) (pc := 65) hx hb dX7_draw_65 zk_bm2 ?_
    obtain rfl := Option.some.inj h
    exact z_iret X hr hH dX7_draw_67
  have h := zt zc4 h
  refine lv_iconst (v := (-1)) (pc := 23) hx hb dX7_draw_23 zk_cm1 ?_
  obtain rfl := Option.some.inj h
  exact z_iret X hr hH dX7_draw_24
set_option maxHeartbeats 4000000 in
set_option maxRecDepth 100000 in
theorem w_X5_readLines_l19 {p : Program} {l : Launch} {e : Env} {s : State} {m : MethodId} {args : Array Value} {below : List Frame} {meth : Method} {c : Code} {A : Nat → Prop} {Q : State → Prop} (G : va_G) (cy : Nat → ClassId) (fu : Nat) (rq : Nat → Nat) (hq : Nat → Nat) (h_alive : Nat → Int32) (h_late : Nat → Int32) (h_hbr : Nat → Int32) (h_rbh : Nat → Int32) (h_waits : Nat → Int32) (h_pers : Nat → Int32) (h_size : Int32) (h_ranks : Int32) (h_lines : Int32) (r_steps : Nat → Int32) (r_reached : Nat → Int32) (r_m : Int32) (r_all : Int32) (x2 : Int32) (X : zX p s m args meth c RX5 cX5_readLines 4 wsX5_readLines G cy A) : ∀ (n : Nat) (x3 : Int32) (r_joined : Nat → Int32) (rr : (Nat → Int32)) (h : lp (f_X5_readLines_l19 fu h_hbr h_waits h_ranks r_m x2) n (x3, r_joined) = some rr) (H : Heap) (locs : List Loc) (ls : Array Slot) (hH : zH G A s.heap (wR cy rq r_joined r_steps r_reached r_m r_all ++ wH cy hq h_alive h_late h_hbr h_rbh h_waits h_pers h_size h_ranks h_lines) H locs) (hl : lv_has ls 4 [(0, .ref (rq 0)), (1, .ref (hq 0)), (2, .int x2), (3, .int x3)]) (K0 : ∀ (H : Heap) (locs : List Loc) (ls : Array Slot), zH G A s.heap (wR cy rq rr r_steps r_reached r_m r_all ++ wH cy hq h_alive h_late h_hbr h_rbh h_waits h_pers h_size h_ranks h_lines) H locs → lv_has ls 4 [(0, .ref (rq 0)), (1, .ref (hq 0)), (2, .int x2)] → W p l e (zR 1 22) s m args below meth c H locs 0 0 Q (F0 m 62 ls [])), W p l e (zR 1 22) s m args below meth c H locs 0 0 Q (F0 m 19 ls []) := by
  have hx := X.1.1
  have hb := X.1.2.1
  intro n
  induction n with
  | zero => intro x3 r_joined rr h H locs ls hH hl K0; cases h
  | succ n ih =>
    intro x3 r_joined rr h H locs ls hH hl K0
    replace h : f_X5_readLines_l19 fu h_hbr h_waits h_ranks r_m x2 (lp (f_X5_readLines_l19 fu h_hbr h_waits h_ranks r_m x2) n) (x3, r_joined) = some rr := h
    dsimp only [f_X5_readLines_l19] at h
    refine lv_iload_n (pc := 19) hx hb dX5_readLines_19 rfl (lv_at hl 3 rfl) ?_
    refine lv_aload_n (pc := 20) hx hb dX5_readLines_20 rfl (lv_at hl 0 rfl) ?_
    refine z_get (pc := 21) (v := .int r_m) X iX5_readLines_X5 hH 0 rfl rfl 3 rfl (List.mem_of_getElem? (i := 1) rfl) rfl dX5_readLines_21 ?_
    refine lv_icmp_ge (pc := 24) (tgt := 62) hx hb dX5_readLines_24 rfl (fun zc1 => ?_) (fun zc1 => ?_)
    · have h := zt zc1 h
      obtain rfl := Option.some.inj h
      exact K0 _ _ _ hH (lv_sub hl [0, 1, 2] rfl)
    have h := zf zc1 h
    refine lv_aload_n (pc := 27) hx hb dX5_readLines_27 rfl (lv_at hl 1 rfl) ?_
    refine lv_aload_n (pc := 28) hx hb dX5_readLines_28 rfl (lv_at hl 1 rfl) ?_
    refine lv_iload_n (pc := 29) hx hb dX5_readLines_29 rfl (lv_at hl 2 rfl) ?_
    obtain ⟨zr2, hzr2, h⟩ := zb h
    refine zcV (pc := 30) (As := [.int x2]) (rest := [.ref (hq 0)]) (st1 := [.int zr2, .ref (hq 0)]) (ws' := wR cy rq r_joined r_steps r_reached r_m r_all ++ wH cy hq h_alive h_late h_hbr h_rbh h_waits h_pers h_size h_ranks h_lines) (wr := [((rq 0), .inr (4, [.ref (rq 1), .ref (rq 2), .ref (rq 3), .int r_m, .int r_all])), ((rq 1), .inl (cy 0, 8, .inl r_joined)), ((rq 2), .inl (cy 0, 256, .inl r_steps)), ((rq 3), .inl (cy 2, 256, .inl r_reached))]) (n := 1) (q0 := 0) X (c_X3_hostOf l G cy fu hq h_alive h_late h_hbr h_rbh h_waits h_pers h_size h_ranks h_lines x2 zr2 hzr2) hH [4, 5, 6, 7, 8, 9, 10] [0, 1, 2, 3] [0, 1, 2, 3, 4, 5, 6, 7, 8, 9, 10] rfl rfl rfl rfl gX5_readLines_X3_hostOf rfl ⟨rfl, rfl⟩ kX3_hostOf ⟨Nat.le_of_ble_eq_true rfl, Nat.le_of_ble_eq_true rfl⟩ rfl rfl rfl rfl rfl hl.1 (Nat.le_of_ble_eq_true rfl) ⟨Nat.le_of_ble_eq_true rfl, Nat.le_of_ble_eq_true rfl⟩ dX5_readLines_30 (fun H locs hH => ?_)
    refine lv_aload_n (pc := 33) hx hb dX5_readLines_33 rfl (lv_at hl 1 rfl) ?_
    refine lv_iload_n (pc := 34) hx hb dX5_readLines_34 rfl (lv_at hl 3 rfl) ?_
    obtain ⟨zr3, hzr3, h⟩ := zb h
    refine zcV (pc := 35) (As := [.int x3]) (rest := [.int zr2, .ref (hq 0)]) (st1 := [.int zr3, .int zr2, .ref (hq 0)]) (ws' := wR cy rq r_joined r_steps r_reached r_m r_all ++ wH cy hq h_alive h_late h_hbr h_rbh h_waits h_pers h_size h_ranks h_lines) (wr := [((rq 0), .inr (4, [.ref (rq 1), .ref (rq 2), .ref (rq 3), .int r_m, .int r_all])), ((rq 1), .inl (cy 0, 8, .inl r_joined)), ((rq 2), .inl (cy 0, 256, .inl r_steps)), ((rq 3), .inl (cy 2, 256, .inl r_reached))]) (n := 1) (q0 := 0) X (c_X3_hostOf l G cy fu hq h_alive h_late h_hbr h_rbh h_waits h_pers h_size h_ranks h_lines x3 zr3 hzr3) hH [4, 5, 6, 7, 8, 9, 10] [0, 1, 2, 3] [0, 1, 2, 3, 4, 5, 6, 7, 8, 9, 10] rfl rfl rfl rfl gX5_readLines_X3_hostOf rfl ⟨rfl, rfl⟩ kX3_hostOf ⟨Nat.le_of_ble_eq_true rfl, Nat.le_of_ble_eq_true rfl⟩ rfl rfl rfl rfl rfl hl.1 (Nat.le_of_ble_eq_true rfl) ⟨Nat.le_of_ble_eq_true rfl, Nat.le_of_ble_eq_true rfl⟩ dX5_readLines_35 (fun H locs hH => ?_)
    obtain ⟨zr4, hzr4, h⟩ := zb h
    refine zcV (pc := 38) (As := [.int zr2, .int zr3]) (rest := []) (st1 := [.int zr4]) (ws' := wR cy rq r_joined r_steps r_reached r_m r_all ++ wH cy hq h_alive h_late h_hbr h_rbh h_waits h_pers h_size h_ranks h_lines) (wr := [((rq 0), .inr (4, [.ref (rq 1), .ref (rq 2), .ref (rq 3), .int r_m, .int r_all])), ((rq 1), .inl (cy 0, 8, .inl r_joined)), ((rq 2), .inl (cy 0, 256, .inl r_steps)), ((rq 3), .inl (cy 2, 256, .inl r_reached))]) (n := 2) (q0 := 0) X (c_X3_hasLine l G cy fu hq h_alive h_late h_hbr h_rbh h_waits h_pers h_size h_ranks h_lines zr2 zr3 zr4 hzr4) hH [4, 5, 6, 7, 8, 9, 10] [0, 1, 2, 3] [0, 1, 2, 3, 4, 5, 6, 7, 8, 9, 10] rfl rfl rfl rfl gX5_readLines_X3_hasLine rfl ⟨rfl, rfl⟩ kX3_hasLine ⟨Nat.le_of_ble_eq_true rfl, Nat.le_of_ble_eq_true rfl⟩ rfl rfl rfl rfl rfl hl.1 (Nat.le_of_ble_eq_true rfl) ⟨Nat.le_of_ble_eq_true rfl, Nat.le_of_ble_eq_true rfl⟩ dX5_readLines_38 (fun H locs hH => ?_)
    refine lv_if_eq (pc := 41) (tgt := 56) hx hb dX5_readLines_41 rfl (fun zc5 => ?_) (fun zc5 => ?_)
    · have h := zt zc5 h
      refine lv_iinc (pc := 56) (v := (x3 + 1)) (lv' := [(3, .int (x3 + 1)), (0, .ref (rq 0)), (1, .ref (hq 0)), (2, .int x2)]) hx hb dX5_readLines_56 hl (k := 3) rfl (by rw [zk_c1]) (by decide) rfl (fun ls hl => ?_)
      refine lv_goto (pc := 59) (tgt := 19) hx hb dX5_readLines_59 rfl ?_
      exact ih (x3 + 1) r_joined rr h _ _ _ hH (lv_sub hl [1, 2, 3, 0] rfl) K0
    have h := zf zc5 h
    refine lv_aload_n (pc := 44) hx hb dX5_readLines_44 rfl (lv_at hl 0 rfl) ?_
    refine z_get (pc := 45) (v := .ref (rq 1)) X iX5_readLines_X5 hH 0 rfl rfl 0 rfl (List.mem_of_getElem? (i := 2) rfl) rfl dX5_readLines_45 ?_
    refine lv_iload_n (pc := 48) hx hb dX5_readLines_48 rfl (lv_at hl 2 rfl) ?_
    refine lv_dup2_11 (pc := 49) hx hb dX5_readLines_49 rfl rfl ?_
    obtain ⟨hin, h⟩ := zg h
    refine z_iald (pc := 50) X hH 1 rfl hin dX5_readLines_50 ?_
    refine lv_iconst (v := 1) (pc := 51) hx hb dX5_readLines_51 zk_c1 ?_
    refine lv_iload_n (pc := 52) hx hb dX5_readLines_52 rfl (lv_at hl 3 rfl) ?_
    refine lv_ishl (pc := 53) hx hb dX5_readLines_53 ?_
    refine lv_ior (pc := 54) hx hb dX5_readLines_54 ?_
    obtain ⟨hin, h⟩ := zg h
    refine z_iast (pc := 55) (ws' := wR cy rq (upd r_joined (x2).toNatClampNeg ((r_joined (x2).toNatClampNeg) ||| (1 <<< (x3 &&& 31)))) r_steps r_reached r_m r_all ++ wH cy hq h_alive h_late h_hbr h_rbh h_waits h_pers h_size h_ranks h_lines) X hH 1 rfl hin rfl dX5_readLines_55 (fun H locs hH => ?_)
    refine lv_iinc (pc := 56) (v := (x3 + 1)) (lv' := [(3, .int (x3 + 1)), (0, .ref (rq 0)), (1, .ref (hq 0)), (2, .int x2)]) hx hb dX5_readLines_56 hl (k := 3) rfl (by rw [zk_c1]) (by decide) rfl (fun ls hl => ?_)
    refine lv_goto (pc := 59) (tgt := 19) hx hb dX5_readLines_59 rfl ?_
    exact ih (x3 + 1) (upd r_joined (x2).toNatClampNeg ((r_joined (x2).toNatClampNeg) ||| (1 <<< (x3 &&& 31)))) rr h _ _ _ hH (lv_sub hl [1, 2, 3, 0] rfl) K0
set_option maxHeartbeats 4000000 in
set_option maxRecDepth 100000 in
theorem w_X5_readLines_l2 {p : Program} {l : Launch} {e : Env} {s : State} {m : MethodId} {args : Array Value} {below : List Frame} {meth : Method} {c : Code} {A : Nat → Prop} {Q : State → Prop} (G : va_G) (cy : Nat → ClassId) (fu : Nat) (rq : Nat → Nat) (hq : Nat → Nat) (h_alive : Nat → Int32) (h_late : Nat → Int32) (h_hbr : Nat → Int32) (h_rbh : Nat → Int32) (h_waits : Nat → Int32) (h_pers : Nat → Int32) (h_size : Int32) (h_ranks : Int32) (h_lines : Int32) (r_steps : Nat → Int32) (r_reached : Nat → Int32) (r_m : Int32) (r_all : Int32) (X : zX p s m args meth c RX5 cX5_readLines 4 wsX5_readLines G cy A) : ∀ (n : Nat) (x2 : Int32) (r_joined : Nat → Int32) (rr : (Nat → Int32)) (h : lp (f_X5_readLines_l2 fu h_hbr h_waits h_ranks r_m) n (x2, r_joined) = some rr) (H : Heap) (locs : List Loc) (ls : Array Slot) (hH : zH G A s.heap (wR cy rq r_joined r_steps r_reached r_m r_all ++ wH cy hq h_alive h_late h_hbr h_rbh h_waits h_pers h_size h_ranks h_lines) H locs) (hl : lv_has ls 4 [(0, .ref (rq 0)), (1, .ref (hq 0)), (2, .int x2)]) (K0 : ∀ (H : Heap) (locs : List Loc) (ls : Array Slot), zH G A s.heap (wR cy rq rr r_steps r_reached r_m r_all ++ wH cy hq h_alive h_late h_hbr h_rbh h_waits h_pers h_size h_ranks h_lines) H locs → lv_has ls 4 [] → W p l e (zR 1 22) s m args below meth c H locs 0 0 Q (F0 m 68 ls [])), W p l e (zR 1 22) s m args below meth c H locs 0 0 Q (F0 m 2 ls []) := by
  have hx := X.1.1
  have hb := X.1.2.1
  intro n
  induction n with
  | zero => intro x2 r_joined rr h H locs ls hH hl K0; cases h
  | succ n ih =>
    intro x2 r_joined rr h H locs ls hH hl K0
    replace h : f_X5_readLines_l2 fu h_hbr h_waits h_ranks r_m (lp (f_X5_readLines_l2 fu h_hbr h_waits h_ranks r_m) n) (x2, r_joined) = some rr := h
    dsimp only [f_X5_readLines_l2] at h
    refine lv_iload_n (pc := 2) hx hb dX5_readLines_2 rfl (lv_at hl 2 rfl) ?_
    refine lv_aload_n (pc := 3) hx hb dX5_readLines_3 rfl (lv_at hl 0 rfl) ?_
    refine z_get (pc := 4) (v := .int r_m) X iX5_readLines_X5 hH 0 rfl rfl 3 rfl (List.mem_of_getElem? (i := 1) rfl) rfl dX5_readLines_4 ?_
    refine lv_icmp_ge (pc := 7) (tgt := 68) hx hb dX5_readLines_7 rfl (fun zc1 => ?_) (fun zc1 => ?_)
    · have h := zt zc1 h
      obtain rfl := Option.some.inj h
      exact K0 _ _ _ hH (lv_sub hl [] rfl)
    have h := zf zc1 h
    refine lv_aload_n (pc := 10) hx hb dX5_readLines_10 rfl (lv_at hl 0 rfl) ?_
    refine z_get (pc := 11) (v := .ref (rq 1)) X iX5_readLines_X5 hH 0 rfl rfl 0 rfl (List.mem_of_getElem? (i := 2) rfl) rfl dX5_readLines_11 ?_
    refine lv_iload_n (pc := 14) hx hb dX5_readLines_14 rfl (lv_at hl 2 rfl) ?_
    refine lv_iconst (v := 0) (pc := 15) hx hb dX5_readLines_15 zk_c0 ?_
    obtain ⟨hin, h⟩ := zg h
    refine z_iast (pc := 16) (ws' := wR cy rq (upd r_joined (x2).toNatClampNeg 0) r_steps r_reached r_m r_all ++ wH cy hq h_alive h_late h_hbr h_rbh h_waits h_pers h_size h_ranks h_lines) X hH 1 rfl hin rfl dX5_readLines_16 (fun H locs hH => ?_)
    refine lv_iconst (v := 0) (pc := 17) hx hb dX5_readLines_17 zk_c0 ?_
    refine lv_istore_n (pc := 18) (lv' := [(3, .int 0), (0, .ref (rq 0)), (1, .ref (hq 0)), (2, .int x2)]) hx hb dX5_readLines_18 rfl hl (by decide) rfl (fun ls hl => ?_)
    obtain ⟨zr2, hzr2, h⟩ := zb h
    refine w_X5_readLines_l19 G cy fu rq hq h_alive h_late h_hbr h_rbh h_waits h_pers h_size h_ranks h_lines r_steps r_reached r_m r_all x2 X fu 0 (upd r_joined (x2).toNatClampNeg 0) zr2 hzr2 _ _ _ hH (lv_sub hl [1, 2, 3, 0] rfl) (fun H locs ls hH hl => ?_)
    refine lv_iinc (pc := 62) (v := (x2 + 1)) (lv' := [(2, .int (x2 + 1)), (0, .ref (rq 0)), (1, .ref (hq 0))]) hx hb dX5_readLines_62 hl (k := 2) rfl (by rw [zk_c1]) (by decide) rfl (fun ls hl => ?_)
    refine lv_goto (pc := 65) (tgt := 2) hx hb dX5_readLines_65 rfl ?_
    exact ih (x2 + 1) zr2 rr h _ _ _ hH (lv_sub hl [1, 2, 0] rfl) K0
set_option maxHeartbeats 4000000 in
set_option maxRecDepth 100000 in
theorem c_X5_readLines (l : Launch) (G : va_G) (cy : Nat → ClassId) (fu : Nat) (rq : Nat → Nat) (hq : Nat → Nat) (h_alive : Nat → Int32) (h_late : Nat → Int32) (h_hbr : Nat → Int32) (h_rbh : Nat → Int32) (h_waits : Nat → Int32) (h_pers : Nat → Int32) (h_size : Int32) (h_ranks : Int32) (h_lines : Int32) (r_joined : Nat → Int32) (r_steps : Nat → Int32) (r_reached : Nat → Int32) (r_m : Int32) (r_all : Int32)  (rr : (Nat → Int32)) (h : f_X5_readLines fu h_hbr h_waits h_ranks r_joined r_m = some rr) : zM l G cy yX5_readLines wsX5_readLines (zR 1 22) [.ref (rq 0), .ref (hq 0)] (wR cy rq r_joined r_steps r_reached r_m r_all ++ wH cy hq h_alive h_late h_hbr h_rbh h_waits h_pers h_size h_ranks h_lines) (wR cy rq rr r_steps r_reached r_m r_all ++ wH cy hq h_alive h_late h_hbr h_rbh h_waits h_pers h_size h_ranks h_lines) none := by
  refine zM.mk (cc := cX5_readLines) (nL := 4) (ret := none) (by decide) rfl (Nat.le_of_ble_eq_true rfl) ?_
  intro p e s m below meth c A ls X hr hH hl
  replace X : zX p s m [.ref (rq 0), .ref (hq 0)].toArray meth c RX5 cX5_readLines 4 wsX5_readLines G cy A := X
  have hx := X.1.1
  have hb := X.1.2.1
  replace hl : lv_has ls 4 [(0, .ref (rq 0)), (1, .ref (hq 0))] := hl
  dsimp only [f_X5_readLines] at h
  refine lv_iconst (v := 0) (pc := 0) hx hb dX5_readLines_0 zk_c0 ?_
  refine lv_istore_n (pc := 1) (lv' := [(2, .int 0), (0, .ref (rq 0)), (1, .ref (hq 0))]) hx hb dX5_readLines_1 rfl hl (by decide) rfl (fun ls hl => ?_)
  obtain ⟨zr1, hzr1, h⟩ := zb h
  refine w_X5_readLines_l2 G cy fu rq hq h_alive h_late h_hbr h_rbh h_waits h_pers h_size h_ranks h_lines r_steps r_reached r_m r_all X fu 0 r_joined zr1 hzr1 _ _ _ hH (lv_sub hl [1, 2, 0] rfl) (fun H locs ls hH hl => ?_)
  obtain rfl := Option.some.inj h
  exact z_vret X hr hH dX5_readLines_68
set_option maxHeartbeats 4000000 in
set_option maxRecDepth 100000 in
theorem w_X5_letSend_l49 {p : Program} {l : Launch} {e : Env} {s : State} {m : MethodId} {args : Array Value} {below : List Frame} {meth : Method} {c : Code} {A : Nat → Prop} {Q : State → Prop} (G : va_G) (cy : Nat → ClassId) (fu : Nat) (rq : Nat → Nat) (r_joined : Nat → Int32) (r_steps : Nat → Int32) (r_m : Int32) (r_all : Int32) (x1 : Int32) (x2 : Int32) (x3 : Int32) (x4 : Int32) (X : zX p s m args meth c RX5 cX5_letSend 6 wsX5_letSend G cy A) : ∀ (n : Nat) (x5 : Int32) (r_reached : Nat → Int32) (rr : (Nat → Int32)) (h : lp (f_X5_letSend_l49 fu r_m x3 x4) n (x5, r_reached) = some rr) (H : Heap) (locs : List Loc) (ls : Array Slot) (hH : zH G A s.heap (wR cy rq r_joined r_steps r_reached r_m r_all) H locs) (hl : lv_has ls 6 [(0, .ref (rq 0)), (1, .int x1), (2, .int x2), (3, .int x3), (4, .int x4), (5, .int x5)]) (K0 : ∀ (H : Heap) (locs : List Loc) (ls : Array Slot), zH G A s.heap (wR cy rq r_joined r_steps rr r_m r_all) H locs → lv_has ls 6 [(0, .ref (rq 0)), (1, .int x1), (2, .int x2), (3, .int x3)] → W p l e (zR 0 0) s m args below meth c H locs 0 0 Q (F0 m 86 ls [])), W p l e (zR 0 0) s m args below meth c H locs 0 0 Q (F0 m 49 ls []) := by
  have hx := X.1.1
  have hb := X.1.2.1
  intro n
  induction n with
  | zero => intro x5 r_reached rr h H locs ls hH hl K0; cases h
  | succ n ih =>
    intro x5 r_reached rr h H locs ls hH hl K0
    replace h : f_X5_letSend_l49 fu r_m x3 x4 (lp (f_X5_letSend_l49 fu r_m x3 x4) n) (x5, r_reached) = some rr := h
    dsimp only [f_X5_letSend_l49] at h
    refine lv_iload (pc := 49) hx hb dX5_letSend_49 (lv_at hl 5 rfl) ?_
    refine lv_aload_n (pc := 51) hx hb dX5_letSend_51 rfl (lv_at hl 0 rfl) ?_
    refine z_get (pc := 52) (v := .int r_m) X iX5_letSend_X5 hH 0 rfl rfl 3 rfl (List.mem_of_getElem? (i := 4) rfl) rfl dX5_letSend_52 ?_
    refine lv_icmp_ge (pc := 55) (tgt := 86) hx hb dX5_letSend_55 rfl (fun zc1 => ?_) (fun zc1 => ?_)
    · have h := zt zc1 h
      obtain rfl := Option.some.inj h
      exact K0 _ _ _ hH (lv_sub hl [0, 1, 2, 3] rfl)
    have h := zf zc1 h
    refine lv_iload (pc := 58) hx hb dX5_letSend_58 (lv_at hl 4 rfl) ?_
    refine lv_iload (pc := 60) hx hb dX5_letSend_60 (lv_at hl 5 rfl) ?_
    refine lv_ishr (pc := 62) hx hb dX5_letSend_62 ?_
    refine lv_iconst (v := 1) (pc := 63) hx hb dX5_letSend_63 zk_c1 ?_
    refine lv_iand (pc := 64) hx hb dX5_letSend_64 ?_
    refine lv_if_eq (pc := 65) (tgt := 80) hx hb dX5_letSend_65 rfl (fun zc2 => ?_) (fun zc2 => ?_)
    · have h := zt zc2 h
      refine lv_iinc (pc := 80) (v := (x5 + 1)) (lv' := [(5, .int (x5 + 1)), (0, .ref (rq 0)), (1, .int x1), (2, .int x2), (3, .int x3), (4, .int x4)]) hx hb dX5_letSend_80 hl (k := 5) rfl (by rw [zk_c1]) (by decide) rfl (fun ls hl => ?_)
      refine lv_goto (pc := 83) (tgt := 49) hx hb dX5_letSend_83 rfl ?_
      exact ih (x5 + 1) r_reached rr h _ _ _ hH (lv_sub hl [1, 2, 3, 4, 5, 0] rfl) K0
    have h := zf zc2 h
    refine lv_aload_n (pc := 68) hx hb dX5_letSend_68 rfl (lv_at hl 0 rfl) ?_
    refine z_get (pc := 69) (v := .ref (rq 3)) X iX5_letSend_X5 hH 0 rfl rfl 2 rfl (List.mem_of_getElem? (i := 3) rfl) rfl dX5_letSend_69 ?_
    refine lv_iload_n (pc := 72) hx hb dX5_letSend_72 rfl (lv_at hl 3 rfl) ?_
    refine lv_iconst (v := 1) (pc := 73) hx hb dX5_letSend_73 zk_c1 ?_
    refine lv_iload (pc := 74) hx hb dX5_letSend_74 (lv_at hl 5 rfl) ?_
    refine lv_ishl (pc := 76) hx hb dX5_letSend_76 ?_
    refine lv_ior (pc := 77) hx hb dX5_letSend_77 ?_
    refine lv_iconst (v := 1) (pc := 78) hx hb dX5_letSend_78 zk_c1 ?_
    obtain ⟨hin, h⟩ := zg h
    refine z_zast (pc := 79) (ws' := wR cy rq r_joined r_steps (upd r_reached ((x3 ||| (1 <<< (x5 &&& 31)))).toNatClampNeg (vp_nar .boolean 1)) r_m r_all) X hH 3 rfl hin rfl dX5_letSend_79 (fun H locs hH => ?_)
    refine lv_iinc (pc := 80) (v := (x5 + 1)) (lv' := [(5, .int (x5 + 1)), (0, .ref (rq 0)), (1, .int x1), (2, .int x2), (3, .int x3), (4, .int x4)]) hx hb dX5_letSend_80 hl (k := 5) rfl (by rw [zk_c1]) (by decide) rfl (fun ls hl => ?_)
    refine lv_goto (pc := 83) (tgt := 49) hx hb dX5_letSend_83 rfl ?_
    exact ih (x5 + 1) (upd r_reached ((x3 ||| (1 <<< (x5 &&& 31)))).toNatClampNeg (vp_nar .boolean 1)) rr h _ _ _ hH (lv_sub hl [1, 2, 3, 4, 5, 0] rfl) K0
set_option maxHeartbeats 4000000 in
set_option maxRecDepth 100000 in
theorem w_X5_letSend_l5 {p : Program} {l : Launch} {e : Env} {s : State} {m : MethodId} {args : Array Value} {below : List Frame} {meth : Method} {c : Code} {A : Nat → Prop} {Q : State → Prop} (G : va_G) (cy : Nat → ClassId) (fu : Nat) (rq : Nat → Nat) (r_joined : Nat → Int32) (r_steps : Nat → Int32) (r_m : Int32) (r_all : Int32) (x1 : Int32) (x2 : Int32) (X : zX p s m args meth c RX5 cX5_letSend 6 wsX5_letSend G cy A) : ∀ (n : Nat) (x3 : Int32) (r_reached : Nat → Int32) (rr : (Nat → Int32)) (h : lp (f_X5_letSend_l5 fu r_joined r_m x1 x2) n (x3, r_reached) = some rr) (H : Heap) (locs : List Loc) (ls : Array Slot) (hH : zH G A s.heap (wR cy rq r_joined r_steps r_reached r_m r_all) H locs) (hl : lv_has ls 6 [(0, .ref (rq 0)), (1, .int x1), (2, .int x2), (3, .int x3)]) (K0 : ∀ (H : Heap) (locs : List Loc) (ls : Array Slot), zH G A s.heap (wR cy rq r_joined r_steps rr r_m r_all) H locs → lv_has ls 6 [] → W p l e (zR 0 0) s m args below meth c H locs 0 0 Q (F0 m 92 ls [])), W p l e (zR 0 0) s m args below meth c H locs 0 0 Q (F0 m 5 ls []) := by
  have hx := X.1.1
  have hb := X.1.2.1
  intro n
  induction n with
  | zero => intro x3 r_reached rr h H locs ls hH hl K0; cases h
  | succ n ih =>
    intro x3 r_reached rr h H locs ls hH hl K0
    replace h : f_X5_letSend_l5 fu r_joined r_m x1 x2 (lp (f_X5_letSend_l5 fu r_joined r_m x1 x2) n) (x3, r_reached) = some rr := h
    dsimp only [f_X5_letSend_l5] at h
    refine lv_iload_n (pc := 5) hx hb dX5_letSend_5 rfl (lv_at hl 3 rfl) ?_
    refine lv_iload_n (pc := 6) hx hb dX5_letSend_6 rfl (lv_at hl 2 rfl) ?_
    refine lv_icmp_lt (pc := 7) (tgt := 92) hx hb dX5_letSend_7 rfl (fun zc1 => ?_) (fun zc1 => ?_)
    · have h := zt zc1 h
      obtain rfl := Option.some.inj h
      exact K0 _ _ _ hH (lv_sub hl [] rfl)
    have h := zf zc1 h
    refine lv_aload_n (pc := 10) hx hb dX5_letSend_10 rfl (lv_at hl 0 rfl) ?_
    refine z_get (pc := 11) (v := .ref (rq 1)) X iX5_letSend_X5 hH 0 rfl rfl 0 rfl (List.mem_of_getElem? (i := 2) rfl) rfl dX5_letSend_11 ?_
    refine lv_iload_n (pc := 14) hx hb dX5_letSend_14 rfl (lv_at hl 1 rfl) ?_
    obtain ⟨hin, h⟩ := zg h
    refine z_iald (pc := 15) X hH 1 rfl hin dX5_letSend_15 ?_
    refine lv_iload_n (pc := 16) hx hb dX5_letSend_16 rfl (lv_at hl 3 rfl) ?_
    refine lv_iconst (v := (-1)) (pc := 17) hx hb dX5_letSend_17 zk_cm1 ?_
    refine lv_ixor (pc := 18) hx hb dX5_letSend_18 ?_
    refine lv_iand (pc := 19) hx hb dX5_letSend_19 ?_
    refine lv_topi (fun za2 eza2 => ?_)
    have h := vn_s h za2 eza2
    refine lv_istore (pc := 20) (lv' := [(4, .int za2), (0, .ref (rq 0)), (1, .int x1), (2, .int x2), (3, .int x3)]) hx hb dX5_letSend_20 hl (by decide) rfl (fun ls hl => ?_)
    refine lv_aload_n (pc := 22) hx hb dX5_letSend_22 rfl (lv_at hl 1 rfl) ?_
    refine z_get (pc := 23) (v := .ref (rq 3)) X iX5_letSend_X5 hH 0 rfl rfl 2 rfl (List.mem_of_getElem? (i := 3) rfl) rfl dX5_letSend_23 ?_
    refine lv_iload_n (pc := 26) hx hb dX5_letSend_26 rfl (lv_at hl 4 rfl) ?_
    obtain ⟨hin, h⟩ := zg h
    refine z_zald (pc := 27) X hH 3 rfl hin dX5_letSend_27 ?_
    refine lv_if_eq (pc := 28) (tgt := 86) hx hb dX5_letSend_28 rfl (fun zc3 => ?_) (fun zc3 => ?_)
    · have h := zt zc3 h
      refine lv_iinc (pc := 86) (v := (x3 + (-1))) (lv' := [(3, .int (x3 + (-1))), (4, .int za2), (0, .ref (rq 0)), (1, .int x1), (2, .int x2)]) hx hb dX5_letSend_86 hl (k := 4) rfl (by rw [zk_cm1]) (by decide) rfl (fun ls hl => ?_)
      refine lv_goto (pc := 89) (tgt := 5) hx hb dX5_letSend_89 rfl ?_
      exact ih (x3 + (-1)) r_reached rr h _ _ _ hH (lv_sub hl [2, 3, 4, 0] rfl) K0
    have h := zf zc3 h
    refine lv_iload (pc := 31) hx hb dX5_letSend_31 (lv_at hl 0 rfl) ?_
    refine lv_if_ne (pc := 33) (tgt := 39) hx hb dX5_letSend_33 rfl (fun zc4 => ?_) (fun zc4 => ?_)
    · have h := zf zc4 h
      refine lv_aload_n (pc := 39) hx hb dX5_letSend_39 rfl (lv_at hl 1 rfl) ?_
      refine z_get (pc := 40) (v := .ref (rq 3)) X iX5_letSend_X5 hH 0 rfl rfl 2 rfl (List.mem_of_getElem? (i := 3) rfl) rfl dX5_letSend_40 ?_
      refine lv_iload_n (pc := 43) hx hb dX5_letSend_43 rfl (lv_at hl 4 rfl) ?_
      refine lv_iconst (v := 0) (pc := 44) hx hb dX5_letSend_44 zk_c0 ?_
      obtain ⟨hin, h⟩ := zg h
      refine z_zast (pc := 45) (ws' := wR cy rq r_joined r_steps (upd r_reached (x3).toNatClampNeg (vp_nar .boolean 0)) r_m r_all) X hH 3 rfl hin rfl dX5_letSend_45 (fun H locs hH => ?_)
      refine lv_iconst (v := 0) (pc := 46) hx hb dX5_letSend_46 zk_c0 ?_
      refine lv_istore (pc := 47) (lv' := [(5, .int 0), (4, .int za2), (0, .ref (rq 0)), (1, .int x1), (2, .int x2), (3, .int x3)]) hx hb dX5_letSend_47 hl (by decide) rfl (fun ls hl => ?_)
      obtain ⟨zr5, hzr5, h⟩ := zb h
      refine w_X5_letSend_l49 G cy fu rq r_joined r_steps r_m r_all x1 x2 x3 za2 X fu 0 (upd r_reached (x3).toNatClampNeg (vp_nar .boolean 0)) zr5 hzr5 _ _ _ hH (lv_sub hl [2, 3, 4, 5, 1, 0] rfl) (fun H locs ls hH hl => ?_)
      refine lv_iinc (pc := 86) (v := (x3 + (-1))) (lv' := [(3, .int (x3 + (-1))), (0, .ref (rq 0)), (1, .int x1), (2, .int x2)]) hx hb dX5_letSend_86 hl (k := 3) rfl (by rw [zk_cm1]) (by decide) rfl (fun ls hl => ?_)
      refine lv_goto (pc := 89) (tgt := 5) hx hb dX5_letSend_89 rfl ?_
      exact ih (x3 + (-1)) zr5 rr h _ _ _ hH (lv_sub hl [1, 2, 3, 0] rfl) K0
    have h := zt zc4 h
    refine lv_goto (pc := 36) (tgt := 86) hx hb dX5_letSend_36 rfl ?_
    refine lv_iinc (pc := 86) (v := (x3 + (-1))) (lv' := [(3, .int (x3 + (-1))), (4, .int za2), (0, .ref (rq 0)), (1, .int x1), (2, .int x2)]) hx hb dX5_letSend_86 hl (k := 4) rfl (by rw [zk_cm1]) (by decide) rfl (fun ls hl => ?_)
    refine lv_goto (pc := 89) (tgt := 5) hx hb dX5_letSend_89 rfl ?_
    exact ih (x3 + (-1)) r_reached rr h _ _ _ hH (lv_sub hl [2, 3, 4, 0] rfl) K0
set_option maxHeartbeats 4000000 in
set_option maxRecDepth 100000 in
theorem c_X5_letSend (l : Launch) (G : va_G) (cy : Nat → ClassId) (fu : Nat) (rq : Nat → Nat) (r_joined : Nat → Int32) (r_steps : Nat → Int32) (r_reached : Nat → Int32) (r_m : Int32) (r_all : Int32) (x1 : Int32) (x2 : Int32) (rr : (Nat → Int32)) (h : f_X5_letSend fu r_joined r_reached r_m r_all x1 x2 = some rr) : zM l G cy yX5_letSend wsX5_letSend (zR 0 0) [.ref (rq 0), .int x1, .int x2] (wR cy rq r_joined r_steps r_reached r_m r_all) (wR cy rq r_joined r_steps rr r_m r_all) none := by
  refine zM.mk (cc := cX5_letSend) (nL := 6) (ret := none) (by decide) rfl (Nat.le_of_ble_eq_true rfl) ?_
  intro p e s m below meth c A ls X hr hH hl
  replace X : zX p s m [.ref (rq 0), .int x1, .int x2].toArray meth c RX5 cX5_letSend 6 wsX5_letSend G cy A := X
  have hx := X.1.1
  have hb := X.1.2.1
  replace hl : lv_has ls 6 [(0, .ref (rq 0)), (1, .int x1), (2, .int x2)] := hl
  dsimp only [f_X5_letSend] at h
  refine lv_aload_n (pc := 0) hx hb dX5_letSend_0 rfl (lv_at hl 0 rfl) ?_
  refine z_get (pc := 1) (v := .int r_all) X iX5_letSend_X5 hH 0 rfl rfl 4 rfl (List.mem_of_getElem? (i := 1) rfl) rfl dX5_letSend_1 ?_
  refine lv_istore_n (pc := 4) (lv' := [(3, .int r_all), (0, .ref (rq 0)), (1, .int x1), (2, .int x2)]) hx hb dX5_letSend_4 rfl hl (by decide) rfl (fun ls hl => ?_)
  obtain ⟨zr1, hzr1, h⟩ := zb h
  refine w_X5_letSend_l5 G cy fu rq r_joined r_steps r_m r_all x1 x2 X fu r_all r_reached zr1 hzr1 _ _ _ hH (lv_sub hl [1, 2, 3, 0] rfl) (fun H locs ls hH hl => ?_)
  obtain rfl := Option.some.inj h
  exact z_vret X hr hH dX5_letSend_92
set_option maxHeartbeats 4000000 in
set_option maxRecDepth 100000 in
theorem w_X5_stepFrom_l2 {p : Program} {l : Launch} {e : Env} {s : State} {m : MethodId} {args : Array Value} {below : List Frame} {meth : Method} {c : Code} {A : Nat → Prop} {Q : State → Prop} (G : va_G) (cy : Nat → ClassId) (fu : Nat) (rq : Nat → Nat) (r_joined : Nat → Int32) (r_steps : Nat → Int32) (r_m : Int32) (r_all : Int32) (x1 : Int32) (x2 : Int32) (X : zX p s m args meth c RX5 cX5_stepFrom 4 wsX5_stepFrom G cy A) : ∀ (n : Nat) (x3 : Int32) (r_reached : Nat → Int32) (rr : (Nat → Int32)) (h : lp (f_X5_stepFrom_l2 fu r_all x1) n (x3, r_reached) = some rr) (H : Heap) (locs : List Loc) (ls : Array Slot) (hH : zH G A s.heap (wR cy rq r_joined r_steps r_reached r_m r_all) H locs) (hl : lv_has ls 4 [(0, .ref (rq 0)), (1, .int x1), (2, .int x2), (3, .int x3)]) (K0 : ∀ (H : Heap) (locs : List Loc) (ls : Array Slot), zH G A s.heap (wR cy rq r_joined r_steps rr r_m r_all) H locs → lv_has ls 4 [(0, .ref (rq 0)), (1, .int x1), (2, .int x2)] → W p l e (zR 1 25) s m args below meth c H locs 0 0 Q (F0 m 32 ls [])), W p l e (zR 1 25) s m args below meth c H locs 0 0 Q (F0 m 2 ls []) := by
  have hx := X.1.1
  have hb := X.1.2.1
  intro n
  induction n with
  | zero => intro x3 r_reached rr h H locs ls hH hl K0; cases h
  | succ n ih =>
    intro x3 r_reached rr h H locs ls hH hl K0
    replace h : f_X5_stepFrom_l2 fu r_all x1 (lp (f_X5_stepFrom_l2 fu r_all x1) n) (x3, r_reached) = some rr := h
    dsimp only [f_X5_stepFrom_l2] at h
    refine lv_iload_n (pc := 2) hx hb dX5_stepFrom_2 rfl (lv_at hl 3 rfl) ?_
    refine lv_aload_n (pc := 3) hx hb dX5_stepFrom_3 rfl (lv_at hl 0 rfl) ?_
    refine z_get (pc := 4) (v := .int r_all) X iX5_stepFrom_X5 hH 0 rfl rfl 4 rfl (List.mem_of_getElem? (i := 1) rfl) rfl dX5_stepFrom_4 ?_
    refine lv_icmp_gt (pc := 7) (tgt := 32) hx hb dX5_stepFrom_7 rfl (fun zc1 => ?_) (fun zc1 => ?_)
    · have h := zt zc1 h
      obtain rfl := Option.some.inj h
      exact K0 _ _ _ hH (lv_sub hl [0, 1, 2] rfl)
    have h := zf zc1 h
    refine lv_aload_n (pc := 10) hx hb dX5_stepFrom_10 rfl (lv_at hl 0 rfl) ?_
    refine z_get (pc := 11) (v := .ref (rq 3)) X iX5_stepFrom_X5 hH 0 rfl rfl 2 rfl (List.mem_of_getElem? (i := 2) rfl) rfl dX5_stepFrom_11 ?_
    refine lv_iload_n (pc := 14) hx hb dX5_stepFrom_14 rfl (lv_at hl 3 rfl) ?_
    refine lv_iload_n (pc := 15) hx hb dX5_stepFrom_15 rfl (lv_at hl 3 rfl) ?_
    refine lv_iload_n (pc := 16) hx hb dX5_stepFrom_16 rfl (lv_at hl 1 rfl) ?_
    refine lv_icmp_ne (pc := 17) (tgt := 24) hx hb dX5_stepFrom_17 rfl (fun zc2 => ?_) (fun zc2 => ?_)
    · have h := zf zc2 h
      refine lv_iconst (v := 0) (pc := 24) hx hb dX5_stepFrom_24 zk_c0 ?_
      obtain ⟨hin, h⟩ := zg h
      refine z_zast (pc := 25) (ws' := wR cy rq r_joined r_steps (upd r_reached (x3).toNatClampNeg (vp_nar .boolean 0)) r_m r_all) X hH 3 rfl hin rfl dX5_stepFrom_25 (fun H locs hH => ?_)
      refine lv_iinc (pc := 26) (v := (x3 + 1)) (lv' := [(3, .int (x3 + 1)), (0, .ref (rq 0)), (1, .int x1), (2, .int x2)]) hx hb dX5_stepFrom_26 hl (k := 3) rfl (by rw [zk_c1]) (by decide) rfl (fun ls hl => ?_)
      refine lv_goto (pc := 29) (tgt := 2) hx hb dX5_stepFrom_29 rfl ?_
      exact ih (x3 + 1) (upd r_reached (x3).toNatClampNeg (vp_nar .boolean 0)) rr h _ _ _ hH (lv_sub hl [1, 2, 3, 0] rfl) K0
    have h := zt zc2 h
    refine lv_iconst (v := 1) (pc := 20) hx hb dX5_stepFrom_20 zk_c1 ?_
    refine lv_goto (pc := 21) (tgt := 25) hx hb dX5_stepFrom_21 rfl ?_
    obtain ⟨hin, h⟩ := zg h
    refine z_zast (pc := 25) (ws' := wR cy rq r_joined r_steps (upd r_reached (x3).toNatClampNeg (vp_nar .boolean 1)) r_m r_all) X hH 3 rfl hin rfl dX5_stepFrom_25 (fun H locs hH => ?_)
    refine lv_iinc (pc := 26) (v := (x3 + 1)) (lv' := [(3, .int (x3 + 1)), (0, .ref (rq 0)), (1, .int x1), (2, .int x2)]) hx hb dX5_stepFrom_26 hl (k := 3) rfl (by rw [zk_c1]) (by decide) rfl (fun ls hl => ?_)
    refine lv_goto (pc := 29) (tgt := 2) hx hb dX5_stepFrom_29 rfl ?_
    exact ih (x3 + 1) (upd r_reached (x3).toNatClampNeg (vp_nar .boolean 1)) rr h _ _ _ hH (lv_sub hl [1, 2, 3, 0] rfl) K0
set_option maxHeartbeats 4000000 in
set_option maxRecDepth 100000 in
theorem w_X5_stepFrom_l34 {p : Program} {l : Launch} {e : Env} {s : State} {m : MethodId} {args : Array Value} {below : List Frame} {meth : Method} {c : Code} {A : Nat → Prop} {Q : State → Prop} (G : va_G) (cy : Nat → ClassId) (fu : Nat) (rq : Nat → Nat) (r_joined : Nat → Int32) (r_steps : Nat → Int32) (r_m : Int32) (r_all : Int32) (x1 : Int32) (x2 : Int32) (X : zX p s m args meth c RX5 cX5_stepFrom 4 wsX5_stepFrom G cy A) : ∀ (n : Nat) (x3 : Int32) (r_reached : Nat → Int32) (rr : (Nat → Int32)) (h : lp (f_X5_stepFrom_l34 fu r_joined r_m r_all x1) n (x3, r_reached) = some rr) (H : Heap) (locs : List Loc) (ls : Array Slot) (hH : zH G A s.heap (wR cy rq r_joined r_steps r_reached r_m r_all) H locs) (hl : lv_has ls 4 [(0, .ref (rq 0)), (1, .int x1), (2, .int x2), (3, .int x3)]) (K0 : ∀ (H : Heap) (locs : List Loc) (ls : Array Slot), zH G A s.heap (wR cy rq r_joined r_steps rr r_m r_all) H locs → lv_has ls 4 [(0, .ref (rq 0)), (1, .int x1), (2, .int x2)] → W p l e (zR 1 25) s m args below meth c H locs 0 0 Q (F0 m 75 ls [])), W p l e (zR 1 25) s m args below meth c H locs 0 0 Q (F0 m 34 ls []) := by
  have hx := X.1.1
  have hb := X.1.2.1
  intro n
  induction n with
  | zero => intro x3 r_reached rr h H locs ls hH hl K0; cases h
  | succ n ih =>
    intro x3 r_reached rr h H locs ls hH hl K0
    replace h : f_X5_stepFrom_l34 fu r_joined r_m r_all x1 (lp (f_X5_stepFrom_l34 fu r_joined r_m r_all x1) n) (x3, r_reached) = some rr := h
    dsimp only [f_X5_stepFrom_l34] at h
    refine lv_iload_n (pc := 34) hx hb dX5_stepFrom_34 rfl (lv_at hl 3 rfl) ?_
    refine lv_aload_n (pc := 35) hx hb dX5_stepFrom_35 rfl (lv_at hl 0 rfl) ?_
    refine z_get (pc := 36) (v := .int r_m) X iX5_stepFrom_X5 hH 0 rfl rfl 3 rfl (List.mem_of_getElem? (i := 3) rfl) rfl dX5_stepFrom_36 ?_
    refine lv_icmp_ge (pc := 39) (tgt := 75) hx hb dX5_stepFrom_39 rfl (fun zc1 => ?_) (fun zc1 => ?_)
    · have h := zt zc1 h
      obtain rfl := Option.some.inj h
      exact K0 _ _ _ hH (lv_sub hl [0, 1, 2] rfl)
    have h := zf zc1 h
    refine lv_iload_n (pc := 42) hx hb dX5_stepFrom_42 rfl (lv_at hl 1 rfl) ?_
    refine lv_iload_n (pc := 43) hx hb dX5_stepFrom_43 rfl (lv_at hl 3 rfl) ?_
    refine lv_ishr (pc := 44) hx hb dX5_stepFrom_44 ?_
    refine lv_iconst (v := 1) (pc := 45) hx hb dX5_stepFrom_45 zk_c1 ?_
    refine lv_iand (pc := 46) hx hb dX5_stepFrom_46 ?_
    refine lv_if_eq (pc := 47) (tgt := 69) hx hb dX5_stepFrom_47 rfl (fun zc2 => ?_) (fun zc2 => ?_)
    · have h := zt zc2 h
      refine lv_iinc (pc := 69) (v := (x3 + 1)) (lv' := [(3, .int (x3 + 1)), (0, .ref (rq 0)), (1, .int x1), (2, .int x2)]) hx hb dX5_stepFrom_69 hl (k := 3) rfl (by rw [zk_c1]) (by decide) rfl (fun ls hl => ?_)
      refine lv_goto (pc := 72) (tgt := 34) hx hb dX5_stepFrom_72 rfl ?_
      exact ih (x3 + 1) r_reached rr h _ _ _ hH (lv_sub hl [1, 2, 3, 0] rfl) K0
    have h := zf zc2 h
    refine lv_aload_n (pc := 50) hx hb dX5_stepFrom_50 rfl (lv_at hl 0 rfl) ?_
    refine z_get (pc := 51) (v := .ref (rq 1)) X iX5_stepFrom_X5 hH 0 rfl rfl 0 rfl (List.mem_of_getElem? (i := 4) rfl) rfl dX5_stepFrom_51 ?_
    refine lv_iload_n (pc := 54) hx hb dX5_stepFrom_54 rfl (lv_at hl 3 rfl) ?_
    obtain ⟨hin, h⟩ := zg h
    refine z_iald (pc := 55) X hH 1 rfl hin dX5_stepFrom_55 ?_
    refine lv_iload_n (pc := 56) hx hb dX5_stepFrom_56 rfl (lv_at hl 1 rfl) ?_
    refine lv_iconst (v := (-1)) (pc := 57) hx hb dX5_stepFrom_57 zk_cm1 ?_
    refine lv_ixor (pc := 58) hx hb dX5_stepFrom_58 ?_
    refine lv_iand (pc := 59) hx hb dX5_stepFrom_59 ?_
    refine lv_if_eq (pc := 60) (tgt := 69) hx hb dX5_stepFrom_60 rfl (fun zc3 => ?_) (fun zc3 => ?_)
    · have h := zt zc3 h
      refine lv_iinc (pc := 69) (v := (x3 + 1)) (lv' := [(3, .int (x3 + 1)), (0, .ref (rq 0)), (1, .int x1), (2, .int x2)]) hx hb dX5_stepFrom_69 hl (k := 3) rfl (by rw [zk_c1]) (by decide) rfl (fun ls hl => ?_)
      refine lv_goto (pc := 72) (tgt := 34) hx hb dX5_stepFrom_72 rfl ?_
      exact ih (x3 + 1) r_reached rr h _ _ _ hH (lv_sub hl [1, 2, 3, 0] rfl) K0
    have h := zf zc3 h
    refine lv_aload_n (pc := 63) hx hb dX5_stepFrom_63 rfl (lv_at hl 0 rfl) ?_
    refine lv_iload_n (pc := 64) hx hb dX5_stepFrom_64 rfl (lv_at hl 3 rfl) ?_
    refine lv_iload_n (pc := 65) hx hb dX5_stepFrom_65 rfl (lv_at hl 1 rfl) ?_
    obtain ⟨zr4, hzr4, h⟩ := zb h
    refine zcV (pc := 66) (As := [.int x3, .int x1]) (rest := []) (st1 := []) (ws' := wR cy rq r_joined r_steps zr4 r_m r_all) (wr := []) (n := 2) (q0 := 0) X (c_X5_letSend l G cy fu rq r_joined r_steps r_reached r_m r_all x3 x1 zr4 hzr4) hH [0, 1, 2, 3] [] [0, 1, 2, 3] rfl rfl rfl rfl gX5_stepFrom_X5_letSend rfl ⟨rfl, rfl⟩ kX5_letSend ⟨Nat.le_of_ble_eq_true rfl, Nat.le_of_ble_eq_true rfl⟩ rfl rfl rfl rfl rfl hl.1 (Nat.le_of_ble_eq_true rfl) ⟨Nat.le_of_ble_eq_true rfl, Nat.le_of_ble_eq_true rfl⟩ dX5_stepFrom_66 (fun H locs hH => ?_)
    refine lv_iinc (pc := 69) (v := (x3 + 1)) (lv' := [(3, .int (x3 + 1)), (0, .ref (rq 0)), (1, .int x1), (2, .int x2)]) hx hb dX5_stepFrom_69 hl (k := 3) rfl (by rw [zk_c1]) (by decide) rfl (fun ls hl => ?_)
    refine lv_goto (pc := 72) (tgt := 34) hx hb dX5_stepFrom_72 rfl ?_
    exact ih (x3 + 1) zr4 rr h _ _ _ hH (lv_sub hl [1, 2, 3, 0] rfl) K0
set_option maxHeartbeats 4000000 in
set_option maxRecDepth 100000 in
theorem w_X5_stepFrom_l77 {p : Program} {l : Launch} {e : Env} {s : State} {m : MethodId} {args : Array Value} {below : List Frame} {meth : Method} {c : Code} {A : Nat → Prop} {Q : State → Prop} (G : va_G) (cy : Nat → ClassId) (fu : Nat) (rq : Nat → Nat) (r_joined : Nat → Int32) (r_reached : Nat → Int32) (r_m : Int32) (r_all : Int32) (x2 : Int32) (X : zX p s m args meth c RX5 cX5_stepFrom 4 wsX5_stepFrom G cy A) : ∀ (n : Nat) (x3 : Int32) (r_steps : Nat → Int32) (rr : (Nat → Int32)) (h : lp (f_X5_stepFrom_l77 fu r_reached r_all x2) n (x3, r_steps) = some rr) (H : Heap) (locs : List Loc) (ls : Array Slot) (hH : zH G A s.heap (wR cy rq r_joined r_steps r_reached r_m r_all) H locs) (hl : lv_has ls 4 [(0, .ref (rq 0)), (2, .int x2), (3, .int x3)]) (K0 : ∀ (H : Heap) (locs : List Loc) (ls : Array Slot), zH G A s.heap (wR cy rq r_joined rr r_reached r_m r_all) H locs → lv_has ls 4 [] → W p l e (zR 1 25) s m args below meth c H locs 0 0 Q (F0 m 117 ls [])), W p l e (zR 1 25) s m args below meth c H locs 0 0 Q (F0 m 77 ls []) := by
  have hx := X.1.1
  have hb := X.1.2.1
  intro n
  induction n with
  | zero => intro x3 r_steps rr h H locs ls hH hl K0; cases h
  | succ n ih =>
    intro x3 r_steps rr h H locs ls hH hl K0
    replace h : f_X5_stepFrom_l77 fu r_reached r_all x2 (lp (f_X5_stepFrom_l77 fu r_reached r_all x2) n) (x3, r_steps) = some rr := h
    dsimp only [f_X5_stepFrom_l77] at h
    refine lv_iload_n (pc := 77) hx hb dX5_stepFrom_77 rfl (lv_at hl 2 rfl) ?_
    refine lv_aload_n (pc := 78) hx hb dX5_stepFrom_78 rfl (lv_at hl 0 rfl) ?_
    refine z_get (pc := 79) (v := .int r_all) X iX5_stepFrom_X5 hH 0 rfl rfl 4 rfl (List.mem_of_getElem? (i := 1) rfl) rfl dX5_stepFrom_79 ?_
    refine lv_icmp_gt (pc := 82) (tgt := 117) hx hb dX5_stepFrom_82 rfl (fun zc1 => ?_) (fun zc1 => ?_)
    · have h := zt zc1 h
      obtain rfl := Option.some.inj h
      exact K0 _ _ _ hH (lv_sub hl [] rfl)
    have h := zf zc1 h
    refine lv_aload_n (pc := 85) hx hb dX5_stepFrom_85 rfl (lv_at hl 0 rfl) ?_
    refine z_get (pc := 86) (v := .ref (rq 3)) X iX5_stepFrom_X5 hH 0 rfl rfl 2 rfl (List.mem_of_getElem? (i := 2) rfl) rfl dX5_stepFrom_86 ?_
    refine lv_iload_n (pc := 89) hx hb dX5_stepFrom_89 rfl (lv_at hl 2 rfl) ?_
    obtain ⟨hin, h⟩ := zg h
    refine z_zald (pc := 90) X hH 3 rfl hin dX5_stepFrom_90 ?_
    refine lv_if_eq (pc := 91) (tgt := 111) hx hb dX5_stepFrom_91 rfl (fun zc2 => ?_) (fun zc2 => ?_)
    · have h := zt zc2 h
      refine lv_iinc (pc := 111) (v := (x3 + 1)) (lv' := [(3, .int (x3 + 1)), (0, .ref (rq 0)), (2, .int x2)]) hx hb dX5_stepFrom_111 hl (k := 2) rfl (by rw [zk_c1]) (by decide) rfl (fun ls hl => ?_)
      refine lv_goto (pc := 114) (tgt := 77) hx hb dX5_stepFrom_114 rfl ?_
      exact ih (x3 + 1) r_steps rr h _ _ _ hH (lv_sub hl [1, 2, 0] rfl) K0
    have h := zf zc2 h
    refine lv_aload_n (pc := 94) hx hb dX5_stepFrom_94 rfl (lv_at hl 0 rfl) ?_
    refine z_get (pc := 95) (v := .ref (rq 2)) X iX5_stepFrom_X5 hH 0 rfl rfl 1 rfl (List.mem_of_getElem? (i := 5) rfl) rfl dX5_stepFrom_95 ?_
    refine lv_iload_n (pc := 98) hx hb dX5_stepFrom_98 rfl (lv_at hl 2 rfl) ?_
    obtain ⟨hin, h⟩ := zg h
    refine z_iald (pc := 99) X hH 2 rfl hin dX5_stepFrom_99 ?_
    refine lv_iconst (v := (-1)) (pc := 100) hx hb dX5_stepFrom_100 zk_cm1 ?_
    refine lv_icmp_ne (pc := 101) (tgt := 111) hx hb dX5_stepFrom_101 rfl (fun zc3 => ?_) (fun zc3 => ?_)
    · have h := zf zc3 h
      refine lv_iinc (pc := 111) (v := (x3 + 1)) (lv' := [(3, .int (x3 + 1)), (0, .ref (rq 0)), (2, .int x2)]) hx hb dX5_stepFrom_111 hl (k := 2) rfl (by rw [zk_c1]) (by decide) rfl (fun ls hl => ?_)
      refine lv_goto (pc := 114) (tgt := 77) hx hb dX5_stepFrom_114 rfl ?_
      exact ih (x3 + 1) r_steps rr h _ _ _ hH (lv_sub hl [1, 2, 0] rfl) K0
    have h := zt zc3 h
    refine lv_aload_n (pc := 104) hx hb dX5_stepFrom_104 rfl (lv_at hl 0 rfl) ?_
    refine z_get (pc := 105) (v := .ref (rq 2)) X iX5_stepFrom_X5 hH 0 rfl rfl 1 rfl (List.mem_of_getElem? (i := 5) rfl) rfl dX5_stepFrom_105 ?_
    refine lv_iload_n (pc := 108) hx hb dX5_stepFrom_108 rfl (lv_at hl 2 rfl) ?_
    refine lv_iload_n (pc := 109) hx hb dX5_stepFrom_109 rfl (lv_at hl 1 rfl) ?_
    obtain ⟨hin, h⟩ := zg h
    refine z_iast (pc := 110) (ws' := wR cy rq r_joined (upd r_steps (x3).toNatClampNeg x2) r_reached r_m r_all) X hH 2 rfl hin rfl dX5_stepFrom_110 (fun H locs hH => ?_)
    refine lv_iinc (pc := 111) (v := (x3 + 1)) (lv' := [(3, .int (x3 + 1)), (0, .ref (rq 0)), (2, .int x2)]) hx hb dX5_stepFrom_111 hl (k := 2) rfl (by rw [zk_c1]) (by decide) rfl (fun ls hl => ?_)
    refine lv_goto (pc := 114) (tgt := 77) hx hb dX5_stepFrom_114 rfl ?_
    exact ih (x3 + 1) (upd r_steps (x3).toNatClampNeg x2) rr h _ _ _ hH (lv_sub hl [1, 2, 0] rfl) K0
set_option maxHeartbeats 4000000 in
set_option maxRecDepth 100000 in
theorem c_X5_stepFrom (l : Launch) (G : va_G) (cy : Nat → ClassId) (fu : Nat) (rq : Nat → Nat) (r_joined : Nat → Int32) (r_steps : Nat → Int32) (r_reached : Nat → Int32) (r_m : Int32) (r_all : Int32) (x1 : Int32) (x2 : Int32) (rr : (Nat → Int32) × (Nat → Int32)) (h : f_X5_stepFrom fu r_joined r_steps r_reached r_m r_all x1 x2 = some rr) : zM l G cy yX5_stepFrom wsX5_stepFrom (zR 1 25) [.ref (rq 0), .int x1, .int x2] (wR cy rq r_joined r_steps r_reached r_m r_all) (wR cy rq r_joined rr.1 rr.2 r_m r_all) none := by
  refine zM.mk (cc := cX5_stepFrom) (nL := 4) (ret := none) (by decide) rfl (Nat.le_of_ble_eq_true rfl) ?_
  intro p e s m below meth c A ls X hr hH hl
  replace X : zX p s m [.ref (rq 0), .int x1, .int x2].toArray meth c RX5 cX5_stepFrom 4 wsX5_stepFrom G cy A := X
  have hx := X.1.1
  have hb := X.1.2.1
  replace hl : lv_has ls 4 [(0, .ref (rq 0)), (1, .int x1), (2, .int x2)] := hl
  dsimp only [f_X5_stepFrom] at h
  refine lv_iload_n (pc := 0) hx hb dX5_stepFrom_0 rfl (lv_at hl 1 rfl) ?_
  refine lv_istore_n (pc := 1) (lv' := [(3, .int x1), (0, .ref (rq 0)), (1, .int x1), (2, .int x2)]) hx hb dX5_stepFrom_1 rfl hl (by decide) rfl (fun ls hl => ?_)
  obtain ⟨zr1, hzr1, h⟩ := zb h
  refine w_X5_stepFrom_l2 G cy fu rq r_joined r_steps r_m r_all x1 x2 X fu x1 r_reached zr1 hzr1 _ _ _ hH (lv_sub hl [1, 2, 3, 0] rfl) (fun H locs ls hH hl => ?_)
  refine lv_iconst (v := 0) (pc := 32) hx hb dX5_stepFrom_32 zk_c0 ?_
  refine lv_istore_n (pc := 33) (lv' := [(3, .int 0), (0, .ref (rq 0)), (1, .int x1), (2, .int x2)]) hx hb dX5_stepFrom_33 rfl hl (by decide) rfl (fun ls hl => ?_)
  obtain ⟨zr2, hzr2, h⟩ := zb h
  refine w_X5_stepFrom_l34 G cy fu rq r_joined r_steps r_m r_all x1 x2 X fu 0 zr1 zr2 hzr2 _ _ _ hH (lv_sub hl [1, 2, 3, 0] rfl) (fun H locs ls hH hl => ?_)
  refine lv_iload_n (pc := 75) hx hb dX5_stepFrom_75 rfl (lv_at hl 1 rfl) ?_
  refine lv_istore_n (pc := 76) (lv' := [(3, .int x1), (0, .ref (rq 0)), (1, .int x1), (2, .int x2)]) hx hb dX5_stepFrom_76 rfl hl (by decide) rfl (fun ls hl => ?_)
  obtain ⟨zr3, hzr3, h⟩ := zb h
  refine w_X5_stepFrom_l77 G cy fu rq r_joined zr2 r_m r_all x2 X fu x1 r_steps zr3 hzr3 _ _ _ hH (lv_sub hl [1, 3, 0] rfl) (fun H locs ls hH hl => ?_)
  obtain rfl := Option.some.inj h
  exact z_vret X hr hH dX5_stepFrom_117
