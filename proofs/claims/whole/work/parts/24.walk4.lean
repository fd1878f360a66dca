set_option maxHeartbeats 4000000 in
set_option maxRecDepth 100000 in
theorem w_X5_leastSteps_l91 {p : Program} {l : Launch} {e : Env} {s : State} {m : MethodId} {args : Array Value} {below : List Frame} {meth : Method} {c : Code} {A : Nat → Prop} {Q : State → Prop} (G : va_G) (cy : Nat → ClassId) (fu : Nat) (rq : Nat → Nat) (hq : Nat → Nat) (h_alive : Nat → Int32) (h_late : Nat → Int32) (h_hbr : Nat → Int32) (h_rbh : Nat → Int32) (h_waits : Nat → Int32) (h_pers : Nat → Int32) (h_size : Int32) (h_ranks : Int32) (h_lines : Int32) (r_joined : Nat → Int32) (r_m : Int32) (r_all : Int32) (x3 : Int32) (X : zX p s m args meth c RX5 cX5_leastSteps 5 wsX5_leastSteps G cy A) : ∀ (n : Nat) (x4 : Int32) (r_steps : Nat → Int32) (r_reached : Nat → Int32) (rr : (Nat → Int32) × (Nat → Int32)) (h : lp (f_X5_leastSteps_l91 fu r_joined r_m r_all x3) n (x4, r_steps, r_reached) = some rr) (H : Heap) (locs : List Loc) (ls : Array Slot) (hH : zH G A s.heap (wR cy rq r_joined r_steps r_reached r_m r_all ++ wH cy hq h_alive h_late h_hbr h_rbh h_waits h_pers h_size h_ranks h_lines) H locs) (hl : lv_has ls 5 [(0, .ref (rq 0)), (3, .int x3), (4, .int x4)]) (K0 : ∀ (H : Heap) (locs : List Loc) (ls : Array Slot), zH G A s.heap (wR cy rq r_joined rr.1 rr.2 r_m r_all ++ wH cy hq h_alive h_late h_hbr h_rbh h_waits h_pers h_size h_ranks h_lines) H locs → lv_has ls 5 [(0, .ref (rq 0)), (3, .int x3)] → W p l e (zR 2 48) s m args below meth c H locs 0 0 Q (F0 m 126 ls [])), W p l e (zR 2 48) s m args below meth c H locs 0 0 Q (F0 m 91 ls []) := by
  have hx := X.1.1
  have hb := X.1.2.1
  intro n
  induction n with
  | zero => intro x4 r_steps r_reached rr h H locs ls hH hl K0; cases h
  | succ n ih =>
    intro x4 r_steps r_reached rr h H locs ls hH hl K0
    replace h : f_X5_leastSteps_l91 fu r_joined r_m r_all x3 (lp (f_X5_leastSteps_l91 fu r_joined r_m r_all x3) n) (x4, r_steps, r_reached) = some rr := h
    dsimp only [f_X5_leastSteps_l91] at h
    refine lv_iload (pc := 91) hx hb dX5_leastSteps_91 (lv_at hl 2 rfl) ?_
    refine lv_aload_n (pc := 93) hx hb dX5_leastSteps_93 rfl (lv_at hl 0 rfl) ?_
    refine z_get (pc := 94) (v := .int r_all) X iX5_leastSteps_X5 hH 0 rfl rfl 4 rfl (List.mem_of_getElem? (i := 2) rfl) rfl dX5_leastSteps_94 ?_
    refine lv_icmp_gt (pc := 97) (tgt := 126) hx hb dX5_leastSteps_97 rfl (fun zc1 => ?_) (fun zc1 => ?_)
    · have h := zt zc1 h
      obtain rfl := Option.some.inj h
      exact K0 _ _ _ hH (lv_sub hl [0, 1] rfl)
    have h := zf zc1 h
    refine lv_aload_n (pc := 100) hx hb dX5_leastSteps_100 rfl (lv_at hl 0 rfl) ?_
    refine z_get (pc := 101) (v := .ref (rq 2)) X iX5_leastSteps_X5 hH 0 rfl rfl 1 rfl (List.mem_of_getElem? (i := 3) rfl) rfl dX5_leastSteps_101 ?_
    refine lv_iload (pc := 104) hx hb dX5_leastSteps_104 (lv_at hl 2 rfl) ?_
    obtain ⟨hin, h⟩ := zg h
    refine z_iald (pc := 106) X hH 2 rfl hin dX5_leastSteps_106 ?_
    refine lv_iload_n (pc := 107) hx hb dX5_leastSteps_107 rfl (lv_at hl 1 rfl) ?_
    refine lv_icmp_ne (pc := 108) (tgt := 120) hx hb dX5_leastSteps_108 rfl (fun zc2 => ?_) (fun zc2 => ?_)
    · have h := zf zc2 h
      refine lv_iinc (pc := 120) (v := (x4 + 1)) (lv' := [(4, .int (x4 + 1)), (0, .ref (rq 0)), (3, .int x3)]) hx hb dX5_leastSteps_120 hl (k := 2) rfl (by rw [zk_c1]) (by decide) rfl (fun ls hl => ?_)
      refine lv_goto (pc := 123) (tgt := 91) hx hb dX5_leastSteps_123 rfl ?_
      exact ih (x4 + 1) r_steps r_reached rr h _ _ _ hH (lv_sub hl [1, 2, 0] rfl) K0
    have h := zt zc2 h
    refine lv_aload_n (pc := 111) hx hb dX5_leastSteps_111 rfl (lv_at hl 0 rfl) ?_
    refine lv_iload (pc := 112) hx hb dX5_leastSteps_112 (lv_at hl 2 rfl) ?_
    refine lv_iload_n (pc := 114) hx hb dX5_leastSteps_114 rfl (lv_at hl 1 rfl) ?_
    refine lv_iconst (v := 1) (pc := 115) hx hb dX5_leastSteps_115 zk_c1 ?_
    refine lv_iadd (pc := 116) hx hb dX5_leastSteps_116 ?_
    obtain ⟨zr3, hzr3, h⟩ := zb h
    refine zcV (pc := 117) (As := [.int x4, .int (x3 + 1)]) (rest := []) (st1 := []) (ws' := wR cy rq r_joined zr3.1 zr3.2 r_m r_all ++ wH cy hq h_alive h_late h_hbr h_rbh h_waits h_pers h_size h_ranks h_lines) (wr := [((hq 0), .inr (2, [.ref (hq 1), .ref (hq 2), .ref (hq 3), .ref (hq 4), .ref (hq 5), .ref (hq 6), .int h_size, .int h_ranks, .int h_lines])), ((hq 1), .inl (cy 2, 16, .inl h_alive)), ((hq 2), .inl (cy 0, 16, .inl h_late)), ((hq 3), .inl (cy 0, 16, .inl h_hbr)), ((hq 4), .inl (cy 0, 16, .inl h_rbh)), ((hq 5), .inl (cy 0, 256, .inl h_waits)), ((hq 6), .inl (cy 0, 256, .inl h_pers))]) (n := 2) (q0 := 0) X (c_X5_stepFrom l G cy fu rq r_joined r_steps r_reached r_m r_all x4 (x3 + 1) zr3 hzr3) hH [0, 1, 2, 3] [4, 5, 6, 7, 8, 9, 10] [7, 8, 9, 10, 0, 1, 2, 3, 4, 5, 6] rfl rfl rfl rfl gX5_leastSteps_X5_stepFrom rfl ⟨rfl, rfl⟩ kX5_stepFrom ⟨Nat.le_of_ble_eq_true rfl, Nat.le_of_ble_eq_true rfl⟩ rfl rfl rfl rfl rfl hl.1 (Nat.le_of_ble_eq_true rfl) ⟨Nat.le_of_ble_eq_true rfl, Nat.le_of_ble_eq_true rfl⟩ dX5_leastSteps_117 (fun H locs hH => ?_)
    refine lv_iinc (pc := 120) (v := (x4 + 1)) (lv' := [(4, .int (x4 + 1)), (0, .ref (rq 0)), (3, .int x3)]) hx hb dX5_leastSteps_120 hl (k := 2) rfl (by rw [zk_c1]) (by decide) rfl (fun ls hl => ?_)
    refine lv_goto (pc := 123) (tgt := 91) hx hb dX5_leastSteps_123 rfl ?_
    exact ih (x4 + 1) zr3.1 zr3.2 rr h _ _ _ hH (lv_sub hl [1, 2, 0] rfl) K0
set_option maxHeartbeats 4000000 in
set_option maxRecDepth 100000 in
theorem w_X5_leastSteps_l67 {p : Program} {l : Launch} {e : Env} {s : State} {m : MethodId} {args : Array Value} {below : List Frame} {meth : Method} {c : Code} {A : Nat → Prop} {Q : State → Prop} (G : va_G) (cy : Nat → ClassId) (fu : Nat) (rq : Nat → Nat) (hq : Nat → Nat) (h_alive : Nat → Int32) (h_late : Nat → Int32) (h_hbr : Nat → Int32) (h_rbh : Nat → Int32) (h_waits : Nat → Int32) (h_pers : Nat → Int32) (h_size : Int32) (h_ranks : Int32) (h_lines : Int32) (r_joined : Nat → Int32) (r_m : Int32) (r_all : Int32) (X : zX p s m args meth c RX5 cX5_leastSteps 5 wsX5_leastSteps G cy A) : ∀ (n : Nat) (x3 : Int32) (r_steps : Nat → Int32) (r_reached : Nat → Int32) (rr : (Nat → Int32) × (Nat → Int32)) (h : lp (f_X5_leastSteps_l67 fu r_joined r_m r_all) n (x3, r_steps, r_reached) = some rr) (H : Heap) (locs : List Loc) (ls : Array Slot) (hH : zH G A s.heap (wR cy rq r_joined r_steps r_reached r_m r_all ++ wH cy hq h_alive h_late h_hbr h_rbh h_waits h_pers h_size h_ranks h_lines) H locs) (hl : lv_has ls 5 [(0, .ref (rq 0)), (3, .int x3)]) (K0 : ∀ (H : Heap) (locs : List Loc) (ls : Array Slot), zH G A s.heap (wR cy rq r_joined rr.1 rr.2 r_m r_all ++ wH cy hq h_alive h_late h_hbr h_rbh h_waits h_pers h_size h_ranks h_lines) H locs → lv_has ls 5 [(0, .ref (rq 0))] → W p l e (zR 2 48) s m args below meth c H locs 0 0 Q (F0 m 132 ls [])), W p l e (zR 2 48) s m args below meth c H locs 0 0 Q (F0 m 67 ls []) := by
  have hx := X.1.1
  have hb := X.1.2.1
  intro n
  induction n with
  | zero => intro x3 r_steps r_reached rr h H locs ls hH hl K0; cases h
  | succ n ih =>
    intro x3 r_steps r_reached rr h H locs ls hH hl K0
    replace h : f_X5_leastSteps_l67 fu r_joined r_m r_all (lp (f_X5_leastSteps_l67 fu r_joined r_m r_all) n) (x3, r_steps, r_reached) = some rr := h
    dsimp only [f_X5_leastSteps_l67] at h
    refine lv_iload_n (pc := 67) hx hb dX5_leastSteps_67 rfl (lv_at hl 1 rfl) ?_
    refine lv_aload_n (pc := 68) hx hb dX5_leastSteps_68 rfl (lv_at hl 0 rfl) ?_
    refine z_get (pc := 69) (v := .int r_m) X iX5_leastSteps_X5 hH 0 rfl rfl 3 rfl (List.mem_of_getElem? (i := 1) rfl) rfl dX5_leastSteps_69 ?_
    refine lv_icmp_ge (pc := 72) (tgt := 132) hx hb dX5_leastSteps_72 rfl (fun zc1 => ?_) (fun zc1 => ?_)
    · have h := zt zc1 h
      obtain rfl := Option.some.inj h
      exact K0 _ _ _ hH (lv_sub hl [0] rfl)
    have h := zf zc1 h
    refine lv_aload_n (pc := 75) hx hb dX5_leastSteps_75 rfl (lv_at hl 0 rfl) ?_
    refine z_get (pc := 76) (v := .ref (rq 2)) X iX5_leastSteps_X5 hH 0 rfl rfl 1 rfl (List.mem_of_getElem? (i := 3) rfl) rfl dX5_leastSteps_76 ?_
    refine lv_aload_n (pc := 79) hx hb dX5_leastSteps_79 rfl (lv_at hl 0 rfl) ?_
    refine z_get (pc := 80) (v := .int r_all) X iX5_leastSteps_X5 hH 0 rfl rfl 4 rfl (List.mem_of_getElem? (i := 2) rfl) rfl dX5_leastSteps_80 ?_
    obtain ⟨hin, h⟩ := zg h
    refine z_iald (pc := 83) X hH 2 rfl hin dX5_leastSteps_83 ?_
    refine lv_iconst (v := (-1)) (pc := 84) hx hb dX5_leastSteps_84 zk_cm1 ?_
    refine lv_icmp_ne (pc := 85) (tgt := 132) hx hb dX5_leastSteps_85 rfl (fun zc2 => ?_) (fun zc2 => ?_)
    · have h := zf zc2 h
      obtain rfl := Option.some.inj h
      exact K0 _ _ _ hH (lv_sub hl [0] rfl)
    have h := zt zc2 h
    refine lv_iconst (v := 1) (pc := 88) hx hb dX5_leastSteps_88 zk_c1 ?_
    refine lv_istore (pc := 89) (lv' := [(4, .int 1), (0, .ref (rq 0)), (3, .int x3)]) hx hb dX5_leastSteps_89 hl (by decide) rfl (fun ls hl => ?_)
    obtain ⟨zr3, hzr3, h⟩ := zb h
    refine w_X5_leastSteps_l91 G cy fu rq hq h_alive h_late h_hbr h_rbh h_waits h_pers h_size h_ranks h_lines r_joined r_m r_all x3 X fu 1 r_steps r_reached zr3 hzr3 _ _ _ hH (lv_sub hl [1, 2, 0] rfl) (fun H locs ls hH hl => ?_)
    refine lv_iinc (pc := 126) (v := (x3 + 1)) (lv' := [(3, .int (x3 + 1)), (0, .ref (rq 0))]) hx hb dX5_leastSteps_126 hl (k := 1) rfl (by rw [zk_c1]) (by decide) rfl (fun ls hl => ?_)
    refine lv_goto (pc := 129) (tgt := 67) hx hb dX5_leastSteps_129 rfl ?_
    exact ih (x3 + 1) zr3.1 zr3.2 rr h _ _ _ hH (lv_sub hl [1, 0] rfl) K0
set_option maxHeartbeats 4000000 in
set_option maxRecDepth 100000 in
theorem c_X5_leastSteps (l : Launch) (G : va_G) (cy : Nat → ClassId) (fu : Nat) (rq : Nat → Nat) (hq : Nat → Nat) (h_alive : Nat → Int32) (h_late : Nat → Int32) (h_hbr : Nat → Int32) (h_rbh : Nat → Int32) (h_waits : Nat → Int32) (h_pers : Nat → Int32) (h_size : Int32) (h_ranks : Int32) (h_lines : Int32) (r_joined : Nat → Int32) (r_steps : Nat → Int32) (r_reached : Nat → Int32) (r_m : Int32) (r_all : Int32) (x2 : Int32) (rr : Int32 × (Nat → Int32) × (Nat → Int32) × (Nat → Int32) × Int32 × Int32) (h : f_X5_leastSteps fu h_hbr h_waits h_ranks r_joined r_steps r_reached r_all x2 = some rr) : zM l G cy yX5_leastSteps wsX5_leastSteps (zR 2 48) [.ref (rq 0), .ref (hq 0), .int x2] (wR cy rq r_joined r_steps r_reached r_m r_all ++ wH cy hq h_alive h_late h_hbr h_rbh h_waits h_pers h_size h_ranks h_lines) (wR cy rq rr.2.1 rr.2.2.1 rr.2.2.2.1 rr.2.2.2.2.1 rr.2.2.2.2.2 ++ wH cy hq h_alive h_late h_hbr h_rbh h_waits h_pers h_size h_ranks h_lines) (some (.int rr.1)) := by
  refine zM.mk (cc := cX5_leastSteps) (nL := 5) (ret := (some .int)) (by decide) rfl (Nat.le_of_ble_eq_true rfl) ?_
  intro p e s m below meth c A ls X hr hH hl
  replace X : zX p s m [.ref (rq 0), .ref (hq 0), .int x2].toArray meth c RX5 cX5_leastSteps 5 wsX5_leastSteps G cy A := X
  have hx := X.1.1
  have hb := X.1.2.1
  replace hl : lv_has ls 5 [(0, .ref (rq 0)), (1, .ref (hq 0)), (2, .int x2)] := hl
  dsimp only [f_X5_leastSteps] at h
  refine lv_aload_n (pc := 0) hx hb dX5_leastSteps_0 rfl (lv_at hl 0 rfl) ?_
  refine lv_aload_n (pc := 1) hx hb dX5_leastSteps_1 rfl (lv_at hl 1 rfl) ?_
  obtain ⟨zr1, hzr1, h⟩ := zb h
  refine zcV (pc := 2) (As := []) (rest := [.ref (rq 0)]) (st1 := [.int zr1, .ref (rq 0)]) (ws' := wR cy rq r_joined r_steps r_reached r_m r_all ++ wH cy hq h_alive h_late h_hbr h_rbh h_waits h_pers h_size h_ranks h_lines) (wr := [((rq 0), .inr (4, [.ref (rq 1), .ref (rq 2), .ref (rq 3), .int r_m, .int r_all])), ((rq 1), .inl (cy 0, 8, .inl r_joined)), ((rq 2), .inl (cy 0, 256, .inl r_steps)), ((rq 3), .inl (cy 2, 256, .inl r_reached))]) (n := 0) (q0 := 0) X (c_X3_ranks l G cy fu hq h_alive h_late h_hbr h_rbh h_waits h_pers h_size h_ranks h_lines zr1 hzr1) hH [4, 5, 6, 7, 8, 9, 10] [0, 1, 2, 3] [0, 1, 2, 3, 4, 5, 6, 7, 8, 9, 10] rfl rfl rfl rfl gX5_leastSteps_X3_ranks rfl ⟨rfl, rfl⟩ kX3_ranks ⟨Nat.le_of_ble_eq_true rfl, Nat.le_of_ble_eq_true rfl⟩ rfl rfl rfl rfl rfl hl.1 (Nat.le_of_ble_eq_true rfl) ⟨Nat.le_of_ble_eq_true rfl, Nat.le_of_ble_eq_true rfl⟩ dX5_leastSteps_2 (fun H locs hH => ?_)
  refine z_put (pc := 5) (v := .int zr1) (ws' := wR cy rq r_joined r_steps r_reached zr1 r_all ++ wH cy hq h_alive h_late h_hbr h_rbh h_waits h_pers h_size h_ranks h_lines) X iX5_leastSteps_X5 tyX5 tyX5_ok nmX5 hH 0 rfl rfl 3 rfl (List.mem_of_getElem? (i := 1) rfl) rfl rfl rfl rfl rfl dX5_leastSteps_5 (fun H locs hH => ?_)
  refine lv_aload_n (pc := 8) hx hb dX5_leastSteps_8 rfl (lv_at hl 0 rfl) ?_
  refine z_get (pc := 9) (v := .int zr1) X iX5_leastSteps_X5 hH 0 rfl rfl 3 rfl (List.mem_of_getElem? (i := 1) rfl) rfl dX5_leastSteps_9 ?_
  refine lv_bipush (v := 8) (pc := 12) hx hb dX5_leastSteps_12 zk_b8 ?_
  refine lv_icmp_gt (pc := 14) (tgt := 29) hx hb dX5_leastSteps_14 rfl (fun zc2 => ?_) (fun zc2 => ?_)
  · have h := zt zc2 h
    refine lv_iconst (v := (-1)) (pc := 29) hx hb dX5_leastSteps_29 zk_cm1 ?_
    obtain rfl := Option.some.inj h
    exact z_iret X hr hH dX5_leastSteps_30
  have h := zf zc2 h
  refine lv_iload_n (pc := 17) hx hb dX5_leastSteps_17 rfl (lv_at hl 2 rfl) ?_
  refine lv_if_lt (pc := 18) (tgt := 29) hx hb dX5_leastSteps_18 rfl (fun zc3 => ?_) (fun zc3 => ?_)
  · have h := zt zc3 h
    refine lv_iconst (v := (-1)) (pc := 29) hx hb dX5_leastSteps_29 zk_cm1 ?_
    obtain rfl := Option.some.inj h
    exact z_iret X hr hH dX5_leastSteps_30
  have h := zf zc3 h
  refine lv_iload_n (pc := 21) hx hb dX5_leastSteps_21 rfl (lv_at hl 2 rfl) ?_
  refine lv_aload_n (pc := 22) hx hb dX5_leastSteps_22 rfl (lv_at hl 0 rfl) ?_
  refine z_get (pc := 23) (v := .int zr1) X iX5_leastSteps_X5 hH 0 rfl rfl 3 rfl (List.mem_of_getElem? (i := 1) rfl) rfl dX5_leastSteps_23 ?_
  refine lv_icmp_lt (pc := 26) (tgt := 31) hx hb dX5_leastSteps_26 rfl (fun zc4 => ?_) (fun zc4 => ?_)
  · have h := zt zc4 h
    refine lv_aload_n (pc := 31) hx hb dX5_leastSteps_31 rfl (lv_at hl 0 rfl) ?_
    refine lv_iconst (v := 1) (pc := 32) hx hb dX5_leastSteps_32 zk_c1 ?_
    refine lv_aload_n (pc := 33) hx hb dX5_leastSteps_33 rfl (lv_at hl 0 rfl) ?_
    refine z_get (pc := 34) (v := .int zr1) X iX5_leastSteps_X5 hH 0 rfl rfl 3 rfl (List.mem_of_getElem? (i := 1) rfl) rfl dX5_leastSteps_34 ?_
    refine lv_ishl (pc := 37) hx hb dX5_leastSteps_37 ?_
    refine lv_iconst (v := 1) (pc := 38) hx hb dX5_leastSteps_38 zk_c1 ?_
    refine lv_isub (pc := 39) hx hb dX5_leastSteps_39 ?_
    refine lv_topi (fun za5 eza5 => ?_)
    have h := vn_s h za5 eza5
    refine z_put (pc := 40) (v := .int za5) (ws' := wR cy rq r_joined r_steps r_reached zr1 za5 ++ wH cy hq h_alive h_late h_hbr h_rbh h_waits h_pers h_size h_ranks h_lines) X iX5_leastSteps_X5 tyX5 tyX5_ok nmX5 hH 0 rfl rfl 4 rfl (List.mem_of_getElem? (i := 2) rfl) rfl rfl rfl rfl rfl dX5_leastSteps_40 (fun H locs hH => ?_)
    refine lv_aload_n (pc := 43) hx hb dX5_leastSteps_43 rfl (lv_at hl 0 rfl) ?_
    refine lv_aload_n (pc := 44) hx hb dX5_leastSteps_44 rfl (lv_at hl 1 rfl) ?_
    obtain ⟨zr6, hzr6, h⟩ := zb h
    refine zcV (pc := 45) (As := [.ref (hq 0)]) (rest := []) (st1 := []) (ws' := wR cy rq zr6 r_steps r_reached zr1 za5 ++ wH cy hq h_alive h_late h_hbr h_rbh h_waits h_pers h_size h_ranks h_lines) (wr := []) (n := 1) (q0 := 0) X (c_X5_readLines l G cy fu rq hq h_alive h_late h_hbr h_rbh h_waits h_pers h_size h_ranks h_lines r_joined r_steps r_reached zr1 za5 zr6 hzr6) hH [0, 1, 2, 3, 4, 5, 6, 7, 8, 9, 10] [] [0, 1, 2, 3, 4, 5, 6, 7, 8, 9, 10] rfl rfl rfl rfl gX5_leastSteps_X5_readLines rfl ⟨rfl, rfl⟩ kX5_readLines ⟨Nat.le_of_ble_eq_true rfl, Nat.le_of_ble_eq_true rfl⟩ rfl rfl rfl rfl rfl hl.1 (Nat.le_of_ble_eq_true rfl) ⟨Nat.le_of_ble_eq_true rfl, Nat.le_of_ble_eq_true rfl⟩ dX5_leastSteps_45 (fun H locs hH => ?_)
    refine lv_aload_n (pc := 48) hx hb dX5_leastSteps_48 rfl (lv_at hl 0 rfl) ?_
    refine z_get (pc := 49) (v := .ref (rq 2)) X iX5_leastSteps_X5 hH 0 rfl rfl 1 rfl (List.mem_of_getElem? (i := 3) rfl) rfl dX5_leastSteps_49 ?_
    refine lv_iconst (v := (-1)) (pc := 52) hx hb dX5_leastSteps_52 zk_cm1 ?_
    obtain ⟨zr7, hzr7, h⟩ := zb h
    refine zcS (pc := 53) (As := [.ref (rq 2), .int (-1)]) (rest := []) (st1 := []) (ws' := wR cy rq zr6 zr7 r_reached zr1 za5 ++ wH cy hq h_alive h_late h_hbr h_rbh h_waits h_pers h_size h_ranks h_lines) (wr := [((rq 0), .inr (4, [.ref (rq 1), .ref (rq 2), .ref (rq 3), .int zr1, .int za5])), ((rq 1), .inl (cy 0, 8, .inl zr6)), ((rq 3), .inl (cy 2, 256, .inl r_reached)), ((hq 0), .inr (2, [.ref (hq 1), .ref (hq 2), .ref (hq 3), .ref (hq 4), .ref (hq 5), .ref (hq 6), .int h_size, .int h_ranks, .int h_lines])), ((hq 1), .inl (cy 2, 16, .inl h_alive)), ((hq 2), .inl (cy 0, 16, .inl h_late)), ((hq 3), .inl (cy 0, 16, .inl h_hbr)), ((hq 4), .inl (cy 0, 16, .inl h_rbh)), ((hq 5), .inl (cy 0, 256, .inl h_waits)), ((hq 6), .inl (cy 0, 256, .inl h_pers))]) (n := 2) X (c_J7_fill_53178 l G cy fu (rq 2) 256 r_steps (-1) zr7 hzr7) hH [2] [0, 1, 3, 4, 5, 6, 7, 8, 9, 10] [0, 1, 10, 2, 3, 4, 5, 6, 7, 8, 9] rfl rfl rfl rfl gX5_leastSteps_J7_fill_53178 rfl ⟨rfl, rfl⟩ kJ7_fill_53178 ⟨Nat.le_of_ble_eq_true rfl, Nat.le_of_ble_eq_true rfl⟩ rfl rfl rfl hl.1 (Nat.le_of_ble_eq_true rfl) ⟨Nat.le_of_ble_eq_true rfl, Nat.le_of_ble_eq_true rfl⟩ dX5_leastSteps_53 (fun H locs hH => ?_)
    refine lv_aload_n (pc := 56) hx hb dX5_leastSteps_56 rfl (lv_at hl 0 rfl) ?_
    refine z_get (pc := 57) (v := .ref (rq 2)) X iX5_leastSteps_X5 hH 0 rfl rfl 1 rfl (List.mem_of_getElem? (i := 3) rfl) rfl dX5_leastSteps_57 ?_
    refine lv_iconst (v := 1) (pc := 60) hx hb dX5_leastSteps_60 zk_c1 ?_
    refine lv_iload_n (pc := 61) hx hb dX5_leastSteps_61 rfl (lv_at hl 2 rfl) ?_
    refine lv_ishl (pc := 62) hx hb dX5_leastSteps_62 ?_
    refine lv_iconst (v := 0) (pc := 63) hx hb dX5_leastSteps_63 zk_c0 ?_
    obtain ⟨hin, h⟩ := zg h
    refine z_iast (pc := 64) (ws' := wR cy rq zr6 (upd zr7 ((1 <<< (x2 &&& 31))).toNatClampNeg 0) r_reached zr1 za5 ++ wH cy hq h_alive h_late h_hbr h_rbh h_waits h_pers h_size h_ranks h_lines) X hH 2 rfl hin rfl dX5_leastSteps_64 (fun H locs hH => ?_)
    refine lv_iconst (v := 0) (pc := 65) hx hb dX5_leastSteps_65 zk_c0 ?_
    refine lv_istore_n (pc := 66) (lv' := [(3, .int 0), (0, .ref (rq 0)), (1, .ref (hq 0)), (2, .int x2)]) hx hb dX5_leastSteps_66 rfl hl (by decide) rfl (fun ls hl => ?_)
    obtain ⟨zr8, hzr8, h⟩ := zb h
    refine w_X5_leastSteps_l67 G cy fu rq hq h_alive h_late h_hbr h_rbh h_waits h_pers h_size h_ranks h_lines zr6 zr1 za5 X fu 0 (upd zr7 ((1 <<< (x2 &&& 31))).toNatClampNeg 0) r_reached zr8 hzr8 _ _ _ hH (lv_sub hl [1, 0] rfl) (fun H locs ls hH hl => ?_)
    refine lv_aload_n (pc := 132) hx hb dX5_leastSteps_132 rfl (lv_at hl 0 rfl) ?_
    refine z_get (pc := 133) (v := .ref (rq 2)) X iX5_leastSteps_X5 hH 0 rfl rfl 1 rfl (List.mem_of_getElem? (i := 3) rfl) rfl dX5_leastSteps_133 ?_
    refine lv_aload_n (pc := 136) hx hb dX5_leastSteps_136 rfl (lv_at hl 0 rfl) ?_
    refine z_get (pc := 137) (v := .int za5) X iX5_leastSteps_X5 hH 0 rfl rfl 4 rfl (List.mem_of_getElem? (i := 2) rfl) rfl dX5_leastSteps_137 ?_
    obtain ⟨hin, h⟩ := zg h
    refine z_iald (pc := 140) X hH 2 rfl hin dX5_leastSteps_140 ?_
    obtain rfl := Option.some.inj h
    exact z_iret X hr hH dX5_leastSteps_141
  have h := zf zc4 h
  refine lv_iconst (v := (-1)) (pc := 29) hx hb dX5_leastSteps_29 zk_cm1 ?_
  obtain rfl := Option.some.inj h
  exact z_iret X hr hH dX5_leastSteps_30
set_option maxHeartbeats 4000000 in
set_option maxRecDepth 100000 in
theorem c_X8_hosts (l : Launch) (G : va_G) (cy : Nat → ClassId) (fu : Nat) (tq : Nat → Nat) (hq : Nat → Nat) (nq : Nat → Nat) (sq : Nat → Nat) (kq : Nat → Nat) (wq : Nat → Nat) (rq : Nat → Nat) (pq : Nat → Nat) (h_alive : Nat → Int32) (h_late : Nat → Int32) (h_hbr : Nat → Int32) (h_rbh : Nat → Int32) (h_waits : Nat → Int32) (h_pers : Nat → Int32) (h_size : Int32) (h_ranks : Int32) (h_lines : Int32) (p_packed : Nat → Int32) (p_size : Int32) (e_num : Nat → Int32) (e_und : Nat → Int32) (t_draft : Value) (x1 : Int32) (rr : Int32 × (Nat → Int32) × (Nat → Int32) × (Nat → Int32) × (Nat → Int32) × (Nat → Int32) × Int32 × Int32 × Int32 × Int32 × (Nat → Int32)) (h : f_X8_hosts fu h_alive h_late h_hbr h_rbh h_waits h_size h_ranks h_lines p_size e_num x1 = some rr) : zM l G cy yX8_hosts wsX8_hosts (zR 2 45) [.ref (tq 0), .int x1] (wS cy tq hq nq sq kq wq rq (.ref (pq 0)) t_draft ++ wH cy hq h_alive h_late h_hbr h_rbh h_waits h_pers h_size h_ranks h_lines ++ wE cy nq e_num e_und ++ wP cy pq p_packed p_size) (wS cy tq hq nq sq kq wq rq (.ref (pq 0)) t_draft ++ wH cy hq rr.2.1 rr.2.2.1 rr.2.2.2.1 rr.2.2.2.2.1 rr.2.2.2.2.2.1 h_pers rr.2.2.2.2.2.2.1 rr.2.2.2.2.2.2.2.1 rr.2.2.2.2.2.2.2.2.1 ++ wE cy nq rr.2.2.2.2.2.2.2.2.2.2 e_und ++ wP cy pq p_packed rr.2.2.2.2.2.2.2.2.2.1) (some (.int rr.1)) := by
  refine zM.mk (cc := cX8_hosts) (nL := 2) (ret := (some .boolean)) (by decide) rfl (Nat.le_of_ble_eq_true rfl) ?_
  intro p e s m below meth c A ls X hr hH hl
  replace X : zX p s m [.ref (tq 0), .int x1].toArray meth c RX8 cX8_hosts 2 wsX8_hosts G cy A := X
  have hx := X.1.1
  have hb := X.1.2.1
  replace hl : lv_has ls 2 [(0, .ref (tq 0)), (1, .int x1)] := hl
  dsimp only [f_X8_hosts] at h
  refine lv_iload_n (pc := 0) hx hb dX8_hosts_0 rfl (lv_at hl 1 rfl) ?_
  refine lv_iconst (v := 2) (pc := 1) hx hb dX8_hosts_1 zk_c2 ?_
  refine lv_icmp_lt (pc := 2) (tgt := 11) hx hb dX8_hosts_2 rfl (fun zc1 => ?_) (fun zc1 => ?_)
  · have h := zt zc1 h
    refine lv_iconst (v := 0) (pc := 11) hx hb dX8_hosts_11 zk_c0 ?_
    obtain rfl := Option.some.inj h
    exact z_zret X hr (Or.inl rfl) hH dX8_hosts_12
  have h := zf zc1 h
  refine lv_iload_n (pc := 5) hx hb dX8_hosts_5 rfl (lv_at hl 1 rfl) ?_
  refine lv_bipush (v := 16) (pc := 6) hx hb dX8_hosts_6 zk_b16 ?_
  refine lv_icmp_le (pc := 8) (tgt := 13) hx hb dX8_hosts_8 rfl (fun zc2 => ?_) (fun zc2 => ?_)
  · have h := zt zc2 h
    refine lv_aload_n (pc := 13) hx hb dX8_hosts_13 rfl (lv_at hl 0 rfl) ?_
    refine z_get (pc := 14) (v := .ref (hq 0)) X iX8_hosts_X8 hH 0 rfl rfl 0 rfl (List.mem_of_getElem? (i := 1) rfl) rfl dX8_hosts_14 ?_
    refine lv_iload_n (pc := 17) hx hb dX8_hosts_17 rfl (lv_at hl 1 rfl) ?_
    obtain ⟨zr3, hzr3, h⟩ := zb h
    refine zcV (pc := 18) (As := [.int x1]) (rest := []) (st1 := []) (ws' := wS cy tq hq nq sq kq wq rq (.ref (pq 0)) t_draft ++ wH cy hq zr3.1 zr3.2.1 zr3.2.2.1 zr3.2.2.2.1 zr3.2.2.2.2.1 h_pers zr3.2.2.2.2.2.1 zr3.2.2.2.2.2.2.1 zr3.2.2.2.2.2.2.2 ++ wE cy nq e_num e_und ++ wP cy pq p_packed p_size) (wr := [((tq 0), .inr (7, [.ref (hq 0), .ref (nq 0), .ref (sq 0), .ref (kq 0), .ref (wq 0), .ref (rq 0), (.ref (pq 0)), t_draft])), ((nq 0), .inr (1, [.ref (nq 1), .ref (nq 2)])), ((nq 1), .inl (cy 0, 256, .inl e_num)), ((nq 2), .inl (cy 0, 256, .inl e_und)), ((pq 0), .inr (3, [.ref (pq 1), .int p_size])), ((pq 1), .inl (cy 0, 1200, .inl p_packed))]) (n := 1) (q0 := 0) X (c_X3_begin l G cy fu hq h_alive h_late h_hbr h_rbh h_waits h_pers h_size h_ranks h_lines x1 zr3 hzr3) hH [1, 2, 3, 4, 5, 6, 7] [0, 8, 9, 10, 11, 12] [0, 6, 7, 8, 9, 10, 11, 12, 1, 2, 3, 4, 5] rfl rfl rfl rfl gX8_hosts_X3_begin rfl ⟨rfl, rfl⟩ kX3_begin ⟨Nat.le_of_ble_eq_true rfl, Nat.le_of_ble_eq_true rfl⟩ rfl rfl rfl rfl rfl hl.1 (Nat.le_of_ble_eq_true rfl) ⟨Nat.le_of_ble_eq_true rfl, Nat.le_of_ble_eq_true rfl⟩ dX8_hosts_18 (fun H locs hH => ?_)
    refine lv_aload_n (pc := 21) hx hb dX8_hosts_21 rfl (lv_at hl 0 rfl) ?_
    refine z_get (pc := 22) (v := .ref (nq 0)) X iX8_hosts_X8 hH 0 rfl rfl 1 rfl (List.mem_of_getElem? (i := 2) rfl) rfl dX8_hosts_22 ?_
    obtain ⟨zr4, hzr4, h⟩ := zb h
    refine zcV (pc := 25) (As := []) (rest := []) (st1 := []) (ws' := wS cy tq hq nq sq kq wq rq (.ref (pq 0)) t_draft ++ wH cy hq zr3.1 zr3.2.1 zr3.2.2.1 zr3.2.2.2.1 zr3.2.2.2.2.1 h_pers zr3.2.2.2.2.2.1 zr3.2.2.2.2.2.2.1 zr3.2.2.2.2.2.2.2 ++ wE cy nq zr4 e_und ++ wP cy pq p_packed p_size) (wr := [((tq 0), .inr (7, [.ref (hq 0), .ref (nq 0), .ref (sq 0), .ref (kq 0), .ref (wq 0), .ref (rq 0), (.ref (pq 0)), t_draft])), ((hq 0), .inr (2, [.ref (hq 1), .ref (hq 2), .ref (hq 3), .ref (hq 4), .ref (hq 5), .ref (hq 6), .int zr3.2.2.2.2.2.1, .int zr3.2.2.2.2.2.2.1, .int zr3.2.2.2.2.2.2.2])), ((hq 1), .inl (cy 2, 16, .inl zr3.1)), ((hq 2), .inl (cy 0, 16, .inl zr3.2.1)), ((hq 3), .inl (cy 0, 16, .inl zr3.2.2.1)), ((hq 4), .inl (cy 0, 16, .inl zr3.2.2.2.1)), ((hq 5), .inl (cy 0, 256, .inl zr3.2.2.2.2.1)), ((hq 6), .inl (cy 0, 256, .inl h_pers)), ((pq 0), .inr (3, [.ref (pq 1), .int p_size])), ((pq 1), .inl (cy 0, 1200, .inl p_packed))]) (n := 0) (q0 := 0) X (c_X2_zero l G cy fu nq e_num e_und zr4 hzr4) hH [8, 9, 10] [0, 1, 2, 3, 4, 5, 6, 7, 11, 12] [0, 1, 2, 3, 4, 5, 6, 7, 10, 11, 12, 8, 9] rfl rfl rfl rfl gX8_hosts_X2_zero rfl ⟨rfl, rfl⟩ kX2_zero ⟨Nat.le_of_ble_eq_true rfl, Nat.le_of_ble_eq_true rfl⟩ rfl rfl rfl rfl rfl hl.1 (Nat.le_of_ble_eq_true rfl) ⟨Nat.le_of_ble_eq_true rfl, Nat.le_of_ble_eq_true rfl⟩ dX8_hosts_25 (fun H locs hH => ?_)
    refine lv_aload_n (pc := 28) hx hb dX8_hosts_28 rfl (lv_at hl 0 rfl) ?_
    refine z_get (pc := 29) (v := .ref (pq 0)) X iX8_hosts_X8 hH 0 rfl rfl 6 rfl (List.mem_of_getElem? (i := 3) rfl) rfl dX8_hosts_29 ?_
    obtain ⟨zr5, hzr5, h⟩ := zb h
    refine zcV (pc := 32) (As := []) (rest := []) (st1 := []) (ws' := wS cy tq hq nq sq kq wq rq (.ref (pq 0)) t_draft ++ wH cy hq zr3.1 zr3.2.1 zr3.2.2.1 zr3.2.2.2.1 zr3.2.2.2.2.1 h_pers zr3.2.2.2.2.2.1 zr3.2.2.2.2.2.2.1 zr3.2.2.2.2.2.2.2 ++ wE cy nq zr4 e_und ++ wP cy pq p_packed zr5) (wr := [((tq 0), .inr (7, [.ref (hq 0), .ref (nq 0), .ref (sq 0), .ref (kq 0), .ref (wq 0), .ref (rq 0), (.ref (pq 0)), t_draft])), ((hq 0), .inr (2, [.ref (hq 1), .ref (hq 2), .ref (hq 3), .ref (hq 4), .ref (hq 5), .ref (hq 6), .int zr3.2.2.2.2.2.1, .int zr3.2.2.2.2.2.2.1, .int zr3.2.2.2.2.2.2.2])), ((hq 1), .inl (cy 2, 16, .inl zr3.1)), ((hq 2), .inl (cy 0, 16, .inl zr3.2.1)), ((hq 3), .inl (cy 0, 16, .inl zr3.2.2.1)), ((hq 4), .inl (cy 0, 16, .inl zr3.2.2.2.1)), ((hq 5), .inl (cy 0, 256, .inl zr3.2.2.2.2.1)), ((hq 6), .inl (cy 0, 256, .inl h_pers)), ((nq 0), .inr (1, [.ref (nq 1), .ref (nq 2)])), ((nq 1), .inl (cy 0, 256, .inl zr4)), ((nq 2), .inl (cy 0, 256, .inl e_und))]) (n := 0) (q0 := 0) X (c_X4_empty l G cy fu pq p_packed p_size zr5 hzr5) hH [11, 12] [0, 1, 2, 3, 4, 5, 6, 7, 8, 9, 10] [0, 1, 2, 3, 4, 5, 6, 7, 8, 9, 10, 11, 12] rfl rfl rfl rfl gX8_hosts_X4_empty rfl ⟨rfl, rfl⟩ kX4_empty ⟨Nat.le_of_ble_eq_true rfl, Nat.le_of_ble_eq_true rfl⟩ rfl rfl rfl rfl rfl hl.1 (Nat.le_of_ble_eq_true rfl) ⟨Nat.le_of_ble_eq_true rfl, Nat.le_of_ble_eq_true rfl⟩ dX8_hosts_32 (fun H locs hH => ?_)
    refine lv_iconst (v := 1) (pc := 35) hx hb dX8_hosts_35 zk_c1 ?_
    obtain rfl := Option.some.inj h
    exact z_zret X hr (Or.inr rfl) hH dX8_hosts_36
  have h := zf zc2 h
  refine lv_iconst (v := 0) (pc := 11) hx hb dX8_hosts_11 zk_c0 ?_
  obtain rfl := Option.some.inj h
  exact z_zret X hr (Or.inl rfl) hH dX8_hosts_12
set_option maxHeartbeats 4000000 in
set_option maxRecDepth 100000 in
theorem c_X8_isPace (l : Launch) (G : va_G) (cy : Nat → ClassId) (fu : Nat)   (x0 : Int32) (x1 : Int32) (rr : Int32) (h : f_X8_isPace fu x0 x1 = some rr) : zM l G cy yX8_isPace wsX8_isPace (zR 0 0) [.int x0, .int x1] (([] : va_W)) (([] : va_W)) (some (.int rr)) := by
  refine zM.mk (cc := cX8_isPace) (nL := 2) (ret := (some .boolean)) (by decide) rfl (Nat.le_of_ble_eq_true rfl) ?_
  intro p e s m below meth c A ls X hr hH hl
  replace X : zX p s m [.int x0, .int x1].toArray meth c RX8 cX8_isPace 2 wsX8_isPace G cy A := X
  have hx := X.1.1
  have hb := X.1.2.1
  replace hl : lv_has ls 2 [(0, .int x0), (1, .int x1)] := hl
  dsimp only [f_X8_isPace] at h
  refine lv_iload_n (pc := 0) hx hb dX8_isPace_0 rfl (lv_at hl 0 rfl) ?_
  refine lv_if_lt (pc := 1) (tgt := 27) hx hb dX8_isPace_1 rfl (fun zc1 => ?_) (fun zc1 => ?_)
  · have h := zt zc1 h
    refine lv_iconst (v := 0) (pc := 27) hx hb dX8_isPace_27 zk_c0 ?_
    obtain rfl := Option.some.inj h
    exact z_zret X hr (Or.inl rfl) hH dX8_isPace_28
  have h := zf zc1 h
  refine lv_iload_n (pc := 4) hx hb dX8_isPace_4 rfl (lv_at hl 0 rfl) ?_
  refine lv_sipush (v := 1000) (pc := 5) hx hb dX8_isPace_5 zk_s1000 ?_
  refine lv_icmp_gt (pc := 8) (tgt := 27) hx hb dX8_isPace_8 rfl (fun zc2 => ?_) (fun zc2 => ?_)
  · have h := zt zc2 h
    refine lv_iconst (v := 0) (pc := 27) hx hb dX8_isPace_27 zk_c0 ?_
    obtain rfl := Option.some.inj h
    exact z_zret X hr (Or.inl rfl) hH dX8_isPace_28
  have h := zf zc2 h
  refine lv_iload_n (pc := 11) hx hb dX8_isPace_11 rfl (lv_at hl 1 rfl) ?_
  refine lv_iconst (v := 1) (pc := 12) hx hb dX8_isPace_12 zk_c1 ?_
  refine lv_icmp_lt (pc := 13) (tgt := 27) hx hb dX8_isPace_13 rfl (fun zc3 => ?_) (fun zc3 => ?_)
  · have h := zt zc3 h
    refine lv_iconst (v := 0) (pc := 27) hx hb dX8_isPace_27 zk_c0 ?_
    obtain rfl := Option.some.inj h
    exact z_zret X hr (Or.inl rfl) hH dX8_isPace_28
  have h := zf zc3 h
  refine lv_iload_n (pc := 16) hx hb dX8_isPace_16 rfl (lv_at hl 1 rfl) ?_
  refine lv_sipush (v := 1000) (pc := 17) hx hb dX8_isPace_17 zk_s1000 ?_
  refine lv_icmp_gt (pc := 20) (tgt := 27) hx hb dX8_isPace_20 rfl (fun zc4 => ?_) (fun zc4 => ?_)
  · have h := zt zc4 h
    refine lv_iconst (v := 0) (pc := 27) hx hb dX8_isPace_27 zk_c0 ?_
    obtain rfl := Option.some.inj h
    exact z_zret X hr (Or.inl rfl) hH dX8_isPace_28
  have h := zf zc4 h
  refine lv_iconst (v := 1) (pc := 23) hx hb dX8_isPace_23 zk_c1 ?_
  refine lv_goto (pc := 24) (tgt := 28) hx hb dX8_isPace_24 rfl ?_
  obtain rfl := Option.some.inj h
  exact z_zret X hr (Or.inr rfl) hH dX8_isPace_28
set_option maxHeartbeats 4000000 in
set_option maxRecDepth 100000 in
theorem c_X8_line (l : Launch) (G : va_G) (cy : Nat → ClassId) (fu : Nat) (tq : Nat → Nat) (hq : Nat → Nat) (nq : Nat → Nat) (sq : Nat → Nat) (kq : Nat → Nat) (wq : Nat → Nat) (rq : Nat → Nat) (pq : Nat → Nat) (h_alive : Nat → Int32) (h_late : Nat → Int32) (h_hbr : Nat → Int32) (h_rbh : Nat → Int32) (h_waits : Nat → Int32) (h_pers : Nat → Int32) (h_size : Int32) (h_ranks : Int32) (h_lines : Int32) (p_packed : Nat → Int32) (p_size : Int32) (t_draft : Value) (x1 : Int32) (x2 : Int32) (x3 : Int32) (x4 : Int32) (rr : Int32 × (Nat → Int32) × (Nat → Int32) × Int32 × Int32) (h : f_X8_line fu h_waits h_pers h_size h_lines p_size x1 x2 x3 x4 = some rr) : zM l G cy yX8_line wsX8_line (zR 3 67) [.ref (tq 0), .int x1, .int x2, .int x3, .int x4] (wS cy tq hq nq sq kq wq rq (.ref (pq 0)) t_draft ++ wH cy hq h_alive h_late h_hbr h_rbh h_waits h_pers h_size h_ranks h_lines ++ wP cy pq p_packed p_size) (wS cy tq hq nq sq kq wq rq (.ref (pq 0)) t_draft ++ wH cy hq h_alive h_late h_hbr h_rbh rr.2.1 rr.2.2.1 h_size h_ranks rr.2.2.2.1 ++ wP cy pq p_packed rr.2.2.2.2) (some (.int rr.1)) := by
  refine zM.mk (cc := cX8_line) (nL := 5) (ret := (some .boolean)) (by decide) rfl (Nat.le_of_ble_eq_true rfl) ?_
  intro p e s m below meth c A ls X hr hH hl
  replace X : zX p s m [.ref (tq 0), .int x1, .int x2, .int x3, .int x4].toArray meth c RX8 cX8_line 5 wsX8_line G cy A := X
  have hx := X.1.1
  have hb := X.1.2.1
  replace hl : lv_has ls 5 [(0, .ref (tq 0)), (1, .int x1), (2, .int x2), (3, .int x3), (4, .int x4)] := hl
  dsimp only [f_X8_line] at h
  refine lv_aload_n (pc := 0) hx hb dX8_line_0 rfl (lv_at hl 0 rfl) ?_
  refine z_get (pc := 1) (v := .ref (hq 0)) X iX8_line_X8 hH 0 rfl rfl 0 rfl (List.mem_of_getElem? (i := 1) rfl) rfl dX8_line_1 ?_
  refine lv_iload_n (pc := 4) hx hb dX8_line_4 rfl (lv_at hl 1 rfl) ?_
  refine lv_iload_n (pc := 5) hx hb dX8_line_5 rfl (lv_at hl 2 rfl) ?_
  obtain ⟨zr1, hzr1, h⟩ := zb h
  refine zcV (pc := 6) (As := [.int x1, .int x2]) (rest := []) (st1 := [.int zr1]) (ws' := wS cy tq hq nq sq kq wq rq (.ref (pq 0)) t_draft ++ wH cy hq h_alive h_late h_hbr h_rbh h_waits h_pers h_size h_ranks h_lines ++ wP cy pq p_packed p_size) (wr := [((tq 0), .inr (7, [.ref (hq 0), .ref (nq 0), .ref (sq 0), .ref (kq 0), .ref (wq 0), .ref (rq 0), (.ref (pq 0)), t_draft])), ((pq 0), .inr (3, [.ref (pq 1), .int p_size])), ((pq 1), .inl (cy 0, 1200, .inl p_packed))]) (n := 2) (q0 := 0) X (c_X3_isPair l G cy fu hq h_alive h_late h_hbr h_rbh h_waits h_pers h_size h_ranks h_lines x1 x2 zr1 hzr1) hH [1, 2, 3, 4, 5, 6, 7] [0, 8, 9] [0, 3, 4, 5, 6, 7, 8, 9, 1, 2] rfl rfl rfl rfl gX8_line_X3_isPair rfl ⟨rfl, rfl⟩ kX3_isPair ⟨Nat.le_of_ble_eq_true rfl, Nat.le_of_ble_eq_true rfl⟩ rfl rfl rfl rfl rfl hl.1 (Nat.le_of_ble_eq_true rfl) ⟨Nat.le_of_ble_eq_true rfl, Nat.le_of_ble_eq_true rfl⟩ dX8_line_6 (fun H locs hH => ?_)
  refine lv_if_ne (pc := 9) (tgt := 14) hx hb dX8_line_9 rfl (fun zc2 => ?_) (fun zc2 => ?_)
  · have h := zf zc2 h
    refine lv_iload_n (pc := 14) hx hb dX8_line_14 rfl (lv_at hl 3 rfl) ?_
    refine lv_iconst (v := (-1)) (pc := 15) hx hb dX8_line_15 zk_cm1 ?_
    refine lv_icmp_ne (pc := 16) (tgt := 31) hx hb dX8_line_16 rfl (fun zc3 => ?_) (fun zc3 => ?_)
    · have h := zf zc3 h
      refine lv_iload_n (pc := 31) hx hb dX8_line_31 rfl (lv_at hl 3 rfl) ?_
      refine lv_iload (pc := 32) hx hb dX8_line_32 (lv_at hl 4 rfl) ?_
      obtain ⟨zr4, hzr4, h⟩ := zb h
      refine zcS (pc := 34) (As := [.int x3, .int x4]) (rest := []) (st1 := [.int zr4]) (ws' := wS cy tq hq nq sq kq wq rq (.ref (pq 0)) t_draft ++ wH cy hq h_alive h_late h_hbr h_rbh h_waits h_pers h_size h_ranks h_lines ++ wP cy pq p_packed p_size) (wr := [((tq 0), .inr (7, [.ref (hq 0), .ref (nq 0), .ref (sq 0), .ref (kq 0), .ref (wq 0), .ref (rq 0), (.ref (pq 0)), t_draft])), ((hq 0), .inr (2, [.ref (hq 1), .ref (hq 2), .ref (hq 3), .ref (hq 4), .ref (hq 5), .ref (hq 6), .int h_size, .int h_ranks, .int h_lines])), ((hq 1), .inl (cy 2, 16, .inl h_alive)), ((hq 2), .inl (cy 0, 16, .inl h_late)), ((hq 3), .inl (cy 0, 16, .inl h_hbr)), ((hq 4), .inl (cy 0, 16, .inl h_rbh)), ((hq 5), .inl (cy 0, 256, .inl h_waits)), ((hq 6), .inl (cy 0, 256, .inl h_pers)), ((pq 0), .inr (3, [.ref (pq 1), .int p_size])), ((pq 1), .inl (cy 0, 1200, .inl p_packed))]) (n := 2) X (c_X8_isPace l G cy fu x3 x4 zr4 hzr4) hH [] [0, 1, 2, 3, 4, 5, 6, 7, 8, 9] [0, 1, 2, 3, 4, 5, 6, 7, 8, 9] rfl rfl rfl rfl gX8_line_X8_isPace rfl ⟨rfl, rfl⟩ kX8_isPace ⟨Nat.le_of_ble_eq_true rfl, Nat.le_of_ble_eq_true rfl⟩ rfl rfl rfl hl.1 (Nat.le_of_ble_eq_true rfl) ⟨Nat.le_of_ble_eq_true rfl, Nat.le_of_ble_eq_true rfl⟩ dX8_line_34 (fun H locs hH => ?_)
      refine lv_if_eq (pc := 37) (tgt := 55) hx hb dX8_line_37 rfl (fun zc5 => ?_) (fun zc5 => ?_)
      · have h := zt zc5 h
        refine lv_iconst (v := 0) (pc := 55) hx hb dX8_line_55 zk_c0 ?_
        obtain rfl := Option.some.inj h
        exact z_zret X hr (Or.inl rfl) hH dX8_line_56
      have h := zf zc5 h
      refine lv_aload_n (pc := 40) hx hb dX8_line_40 rfl (lv_at hl 0 rfl) ?_
      refine z_get (pc := 41) (v := .ref (hq 0)) X iX8_line_X8 hH 0 rfl rfl 0 rfl (List.mem_of_getElem? (i := 1) rfl) rfl dX8_line_41 ?_
      refine lv_iload_n (pc := 44) hx hb dX8_line_44 rfl (lv_at hl 1 rfl) ?_
      refine lv_iload_n (pc := 45) hx hb dX8_line_45 rfl (lv_at hl 2 rfl) ?_
      refine lv_iload_n (pc := 46) hx hb dX8_line_46 rfl (lv_at hl 3 rfl) ?_
      refine lv_iload (pc := 47) hx hb dX8_line_47 (lv_at hl 4 rfl) ?_
      obtain ⟨zr6, hzr6, h⟩ := zb h
      refine zcV (pc := 49) (As := [.int x1, .int x2, .int x3, .int x4]) (rest := []) (st1 := []) (ws' := wS cy tq hq nq sq kq wq rq (.ref (pq 0)) t_draft ++ wH cy hq h_alive h_late h_hbr h_rbh zr6.1 zr6.2.1 h_size h_ranks zr6.2.2 ++ wP cy pq p_packed p_size) (wr := [((tq 0), .inr (7, [.ref (hq 0), .ref (nq 0), .ref (sq 0), .ref (kq 0), .ref (wq 0), .ref (rq 0), (.ref (pq 0)), t_draft])), ((pq 0), .inr (3, [.ref (pq 1), .int p_size])), ((pq 1), .inl (cy 0, 1200, .inl p_packed))]) (n := 4) (q0 := 0) X (c_X3_join l G cy fu hq h_alive h_late h_hbr h_rbh h_waits h_pers h_size h_ranks h_lines x1 x2 x3 x4 zr6 hzr6) hH [1, 2, 3, 4, 5, 6, 7] [0, 8, 9] [0, 3, 4, 5, 6, 7, 8, 9, 1, 2] rfl rfl rfl rfl gX8_line_X3_join rfl ⟨rfl, rfl⟩ kX3_join ⟨Nat.le_of_ble_eq_true rfl, Nat.le_of_ble_eq_true rfl⟩ rfl rfl rfl rfl rfl hl.1 (Nat.le_of_ble_eq_true rfl) ⟨Nat.le_of_ble_eq_true rfl, Nat.le_of_ble_eq_true rfl⟩ dX8_line_49 (fun H locs hH => ?_)
      refine lv_goto (pc := 52) (tgt := 57) hx hb dX8_line_52 rfl ?_
      refine lv_aload_n (pc := 57) hx hb dX8_line_57 rfl (lv_at hl 0 rfl) ?_
      refine z_get (pc := 58) (v := .ref (pq 0)) X iX8_line_X8 hH 0 rfl rfl 6 rfl (List.mem_of_getElem? (i := 2) rfl) rfl dX8_line_58 ?_
      obtain ⟨zr7, hzr7, h⟩ := zb h
      refine zcV (pc := 61) (As := []) (rest := []) (st1 := []) (ws' := wS cy tq hq nq sq kq wq rq (.ref (pq 0)) t_draft ++ wH cy hq h_alive h_late h_hbr h_rbh zr6.1 zr6.2.1 h_size h_ranks zr6.2.2 ++ wP cy pq p_packed zr7) (wr := [((tq 0), .inr (7, [.ref (hq 0), .ref (nq 0), .ref (sq 0), .ref (kq 0), .ref (wq 0), .ref (rq 0), (.ref (pq 0)), t_draft])), ((hq 0), .inr (2, [.ref (hq 1), .ref (hq 2), .ref (hq 3), .ref (hq 4), .ref (hq 5), .ref (hq 6), .int h_size, .int h_ranks, .int zr6.2.2])), ((hq 1), .inl (cy 2, 16, .inl h_alive)), ((hq 2), .inl (cy 0, 16, .inl h_late)), ((hq 3), .inl (cy 0, 16, .inl h_hbr)), ((hq 4), .inl (cy 0, 16, .inl h_rbh)), ((hq 5), .inl (cy 0, 256, .inl zr6.1)), ((hq 6), .inl (cy 0, 256, .inl zr6.2.1))]) (n := 0) (q0 := 0) X (c_X4_empty l G cy fu pq p_packed p_size zr7 hzr7) hH [8, 9] [0, 1, 2, 3, 4, 5, 6, 7] [0, 1, 2, 3, 4, 5, 6, 7, 8, 9] rfl rfl rfl rfl gX8_line_X4_empty rfl ⟨rfl, rfl⟩ kX4_empty ⟨Nat.le_of_ble_eq_true rfl, Nat.le_of_ble_eq_true rfl⟩ rfl rfl rfl rfl rfl hl.1 (Nat.le_of_ble_eq_true rfl) ⟨Nat.le_of_ble_eq_true rfl, Nat.le_of_ble_eq_true rfl⟩ dX8_line_61 (fun H locs hH => ?_)
      refine lv_iconst (v := 1) (pc := 64) hx hb dX8_line_64 zk_c1 ?_
      obtain rfl := Option.some.inj h
      exact z_zret X hr (Or.inr rfl) hH dX8_line_65
    have h := zt zc3 h
    refine lv_aload_n (pc := 19) hx hb dX8_line_19 rfl (lv_at hl 0 rfl) ?_
    refine z_get (pc := 20) (v := .ref (hq 0)) X iX8_line_X8 hH 0 rfl rfl 0 rfl (List.mem_of_getElem? (i := 1) rfl) rfl dX8_line_20 ?_
    refine lv_iload_n (pc := 23) hx hb dX8_line_23 rfl (lv_at hl 1 rfl) ?_
    refine lv_iload_n (pc := 24) hx hb dX8_line_24 rfl (lv_at hl 2 rfl) ?_
    obtain ⟨zr8, hzr8, h⟩ := zb h
    refine zcV (pc := 25) (As := [.int x1, .int x2]) (rest := []) (st1 := []) (ws' := wS cy tq hq nq sq kq wq rq (.ref (pq 0)) t_draft ++ wH cy hq h_alive h_late h_hbr h_rbh zr8.1 h_pers h_size h_ranks zr8.2 ++ wP cy pq p_packed p_size) (wr := [((tq 0), .inr (7, [.ref (hq 0), .ref (nq 0), .ref (sq 0), .ref (kq 0), .ref (wq 0), .ref (rq 0), (.ref (pq 0)), t_draft])), ((pq 0), .inr (3, [.ref (pq 1), .int p_size])), ((pq 1), .inl (cy 0, 1200, .inl p_packed))]) (n := 2) (q0 := 0) X (c_X3_part l G cy fu hq h_alive h_late h_hbr h_rbh h_waits h_pers h_size h_ranks h_lines x1 x2 zr8 hzr8) hH [1, 2, 3, 4, 5, 6, 7] [0, 8, 9] [0, 3, 4, 5, 6, 7, 8, 9, 1, 2] rfl rfl rfl rfl gX8_line_X3_part rfl ⟨rfl, rfl⟩ kX3_part ⟨Nat.le_of_ble_eq_true rfl, Nat.le_of_ble_eq_true rfl⟩ rfl rfl rfl rfl rfl hl.1 (Nat.le_of_ble_eq_true rfl) ⟨Nat.le_of_ble_eq_true rfl, Nat.le_of_ble_eq_true rfl⟩ dX8_line_25 (fun H locs hH => ?_)
    refine lv_goto (pc := 28) (tgt := 57) hx hb dX8_line_28 rfl ?_
    refine lv_aload_n (pc := 57) hx hb dX8_line_57 rfl (lv_at hl 0 rfl) ?_
    refine z_get (pc := 58) (v := .ref (pq 0)) X iX8_line_X8 hH 0 rfl rfl 6 rfl (List.mem_of_getElem? (i := 2) rfl) rfl dX8_line_58 ?_
    obtain ⟨zr9, hzr9, h⟩ := zb h
    refine zcV (pc := 61) (As := []) (rest := []) (st1 := []) (ws' := wS cy tq hq nq sq kq wq rq (.ref (pq 0)) t_draft ++ wH cy hq h_alive h_late h_hbr h_rbh zr8.1 h_pers h_size h_ranks zr8.2 ++ wP cy pq p_packed zr9) (wr := [((tq 0), .inr (7, [.ref (hq 0), .ref (nq 0), .ref (sq 0), .ref (kq 0), .ref (wq 0), .ref (rq 0), (.ref (pq 0)), t_draft])), ((hq 0), .inr (2, [.ref (hq 1), .ref (hq 2), .ref (hq 3), .ref (hq 4), .ref (hq 5), .ref (hq 6), .int h_size, .int h_ranks, .int zr8.2])), ((hq 1), .inl (cy 2, 16, .inl h_alive)), ((hq 2), .inl (cy 0, 16, .inl h_late)), ((hq 3), .inl (cy 0, 16, .inl h_hbr)), ((hq 4), .inl (cy 0, 16, .inl h_rbh)), ((hq 5), .inl (cy 0, 256, .inl zr8.1)), ((hq 6), .inl (cy 0, 256, .inl h_pers))]) (n := 0) (q0 := 0) X (c_X4_empty l G cy fu pq p_packed p_size zr9 hzr9) hH [8, 9] [0, 1, 2, 3, 4, 5, 6, 7] [0, 1, 2, 3, 4, 5, 6, 7, 8, 9] rfl rfl rfl rfl gX8_line_X4_empty rfl ⟨rfl, rfl⟩ kX4_empty ⟨Nat.le_of_ble_eq_true rfl, Nat.le_of_ble_eq_true rfl⟩ rfl rfl rfl rfl rfl hl.1 (Nat.le_of_ble_eq_true rfl) ⟨Nat.le_of_ble_eq_true rfl, Nat.le_of_ble_eq_true rfl⟩ dX8_line_61 (fun H locs hH => ?_)
    refine lv_iconst (v := 1) (pc := 64) hx hb dX8_line_64 zk_c1 ?_
    obtain rfl := Option.some.inj h
    exact z_zret X hr (Or.inr rfl) hH dX8_line_65
  have h := zt zc2 h
  refine lv_iconst (v := 0) (pc := 12) hx hb dX8_line_12 zk_c0 ?_
  obtain rfl := Option.some.inj h
  exact z_zret X hr (Or.inl rfl) hH dX8_line_13
set_option maxHeartbeats 4000000 in
set_option maxRecDepth 100000 in
theorem c_X8_net (l : Launch) (G : va_G) (cy : Nat → ClassId) (fu : Nat) (tq : Nat → Nat) (hq : Nat → Nat) (nq : Nat → Nat) (sq : Nat → Nat) (kq : Nat → Nat) (wq : Nat → Nat) (rq : Nat → Nat) (pq : Nat → Nat) (h_alive : Nat → Int32) (h_late : Nat → Int32) (h_hbr : Nat → Int32) (h_rbh : Nat → Int32) (h_waits : Nat → Int32) (h_pers : Nat → Int32) (h_size : Int32) (h_ranks : Int32) (h_lines : Int32) (p_packed : Nat → Int32) (p_size : Int32) (t_draft : Value) (x1 : Int32) (x2 : Int32) (x3 : Int32) (rr : Int32 × (Nat → Int32) × (Nat → Int32) × Int32 × Int32) (h : f_X8_net fu h_waits h_pers h_size h_lines p_size x1 x2 x3 = some rr) : zM l G cy yX8_net wsX8_net (zR 4 92) [.ref (tq 0), .int x1, .int x2, .int x3] (wS cy tq hq nq sq kq wq rq (.ref (pq 0)) t_draft ++ wH cy hq h_alive h_late h_hbr h_rbh h_waits h_pers h_size h_ranks h_lines ++ wP cy pq p_packed p_size) (wS cy tq hq nq sq kq wq rq (.ref (pq 0)) t_draft ++ wH cy hq h_alive h_late h_hbr h_rbh rr.2.1 rr.2.2.1 h_size h_ranks rr.2.2.2.1 ++ wP cy pq p_packed rr.2.2.2.2) (some (.int rr.1)) := by
  refine zM.mk (cc := cX8_net) (nL := 4) (ret := (some .int)) (by decide) rfl (Nat.le_of_ble_eq_true rfl) ?_
  intro p e s m below meth c A ls X hr hH hl
  replace X : zX p s m [.ref (tq 0), .int x1, .int x2, .int x3].toArray meth c RX8 cX8_net 4 wsX8_net G cy A := X
  have hx := X.1.1
  have hb := X.1.2.1
  replace hl : lv_has ls 4 [(0, .ref (tq 0)), (1, .int x1), (2, .int x2), (3, .int x3)] := hl
  dsimp only [f_X8_net] at h
  refine lv_iload_n (pc := 0) hx hb dX8_net_0 rfl (lv_at hl 1 rfl) ?_
  refine lv_if_lt (pc := 1) (tgt := 17) hx hb dX8_net_1 rfl (fun zc1 => ?_) (fun zc1 => ?_)
  · have h := zt zc1 h
    refine lv_iconst (v := (-1)) (pc := 17) hx hb dX8_net_17 zk_cm1 ?_
    obtain rfl := Option.some.inj h
    exact z_iret X hr hH dX8_net_18
  have h := zf zc1 h
  refine lv_iload_n (pc := 4) hx hb dX8_net_4 rfl (lv_at hl 1 rfl) ?_
  refine lv_iconst (v := 3) (pc := 5) hx hb dX8_net_5 zk_c3 ?_
  refine lv_icmp_gt (pc := 6) (tgt := 17) hx hb dX8_net_6 rfl (fun zc2 => ?_) (fun zc2 => ?_)
  · have h := zt zc2 h
    refine lv_iconst (v := (-1)) (pc := 17) hx hb dX8_net_17 zk_cm1 ?_
    obtain rfl := Option.some.inj h
    exact z_iret X hr hH dX8_net_18
  have h := zf zc2 h
  refine lv_iload_n (pc := 9) hx hb dX8_net_9 rfl (lv_at hl 2 rfl) ?_
  refine lv_iload_n (pc := 10) hx hb dX8_net_10 rfl (lv_at hl 3 rfl) ?_
  obtain ⟨zr3, hzr3, h⟩ := zb h
  refine zcS (pc := 11) (As := [.int x2, .int x3]) (rest := []) (st1 := [.int zr3]) (ws' := wS cy tq hq nq sq kq wq rq (.ref (pq 0)) t_draft ++ wH cy hq h_alive h_late h_hbr h_rbh h_waits h_pers h_size h_ranks h_lines ++ wP cy pq p_packed p_size) (wr := [((tq 0), .inr (7, [.ref (hq 0), .ref (nq 0), .ref (sq 0), .ref (kq 0), .ref (wq 0), .ref (rq 0), (.ref (pq 0)), t_draft])), ((hq 0), .inr (2, [.ref (hq 1), .ref (hq 2), .ref (hq 3), .ref (hq 4), .ref (hq 5), .ref (hq 6), .int h_size, .int h_ranks, .int h_lines])), ((hq 1), .inl (cy 2, 16, .inl h_alive)), ((hq 2), .inl (cy 0, 16, .inl h_late)), ((hq 3), .inl (cy 0, 16, .inl h_hbr)), ((hq 4), .inl (cy 0, 16, .inl h_rbh)), ((hq 5), .inl (cy 0, 256, .inl h_waits)), ((hq 6), .inl (cy 0, 256, .inl h_pers)), ((pq 0), .inr (3, [.ref (pq 1), .int p_size])), ((pq 1), .inl (cy 0, 1200, .inl p_packed))]) (n := 2) X (c_X8_isPace l G cy fu x2 x3 zr3 hzr3) hH [] [0, 1, 2, 3, 4, 5, 6, 7, 8, 9] [0, 1, 2, 3, 4, 5, 6, 7, 8, 9] rfl rfl rfl rfl gX8_net_X8_isPace rfl ⟨rfl, rfl⟩ kX8_isPace ⟨Nat.le_of_ble_eq_true rfl, Nat.le_of_ble_eq_true rfl⟩ rfl rfl rfl hl.1 (Nat.le_of_ble_eq_true rfl) ⟨Nat.le_of_ble_eq_true rfl, Nat.le_of_ble_eq_true rfl⟩ dX8_net_11 (fun H locs hH => ?_)
  refine lv_if_ne (pc := 14) (tgt := 19) hx hb dX8_net_14 rfl (fun zc4 => ?_) (fun zc4 => ?_)
  · have h := zf zc4 h
    refine lv_aload_n (pc := 19) hx hb dX8_net_19 rfl (lv_at hl 0 rfl) ?_
    refine z_get (pc := 20) (v := .ref (hq 0)) X iX8_net_X8 hH 0 rfl rfl 0 rfl (List.mem_of_getElem? (i := 1) rfl) rfl dX8_net_20 ?_
    refine lv_iload_n (pc := 23) hx hb dX8_net_23 rfl (lv_at hl 1 rfl) ?_
    refine lv_iload_n (pc := 24) hx hb dX8_net_24 rfl (lv_at hl 2 rfl) ?_
    refine lv_iload_n (pc := 25) hx hb dX8_net_25 rfl (lv_at hl 3 rfl) ?_
    obtain ⟨zr5, hzr5, h⟩ := zb h
    refine zcV (pc := 26) (As := [.int x1, .int x2, .int x3]) (rest := []) (st1 := []) (ws' := wS cy tq hq nq sq kq wq rq (.ref (pq 0)) t_draft ++ wH cy hq h_alive h_late h_hbr h_rbh zr5.1 zr5.2.1 h_size h_ranks zr5.2.2 ++ wP cy pq p_packed p_size) (wr := [((tq 0), .inr (7, [.ref (hq 0), .ref (nq 0), .ref (sq 0), .ref (kq 0), .ref (wq 0), .ref (rq 0), (.ref (pq 0)), t_draft])), ((pq 0), .inr (3, [.ref (pq 1), .int p_size])), ((pq 1), .inl (cy 0, 1200, .inl p_packed))]) (n := 3) (q0 := 0) X (c_X3_joinByForm l G cy fu hq h_alive h_late h_hbr h_rbh h_waits h_pers h_size h_ranks h_lines x1 x2 x3 zr5 hzr5) hH [1, 2, 3, 4, 5, 6, 7] [0, 8, 9] [0, 3, 4, 5, 6, 7, 8, 9, 1, 2] rfl rfl rfl rfl gX8_net_X3_joinByForm rfl ⟨rfl, rfl⟩ kX3_joinByForm ⟨Nat.le_of_ble_eq_true rfl, Nat.le_of_ble_eq_true rfl⟩ rfl rfl rfl rfl rfl hl.1 (Nat.le_of_ble_eq_true rfl) ⟨Nat.le_of_ble_eq_true rfl, Nat.le_of_ble_eq_true rfl⟩ dX8_net_26 (fun H locs hH => ?_)
    refine lv_aload_n (pc := 29) hx hb dX8_net_29 rfl (lv_at hl 0 rfl) ?_
    refine z_get (pc := 30) (v := .ref (pq 0)) X iX8_net_X8 hH 0 rfl rfl 6 rfl (List.mem_of_getElem? (i := 2) rfl) rfl dX8_net_30 ?_
    obtain ⟨zr6, hzr6, h⟩ := zb h
    refine zcV (pc := 33) (As := []) (rest := []) (st1 := []) (ws' := wS cy tq hq nq sq kq wq rq (.ref (pq 0)) t_draft ++ wH cy hq h_alive h_late h_hbr h_rbh zr5.1 zr5.2.1 h_size h_ranks zr5.2.2 ++ wP cy pq p_packed zr6) (wr := [((tq 0), .inr (7, [.ref (hq 0), .ref (nq 0), .ref (sq 0), .ref (kq 0), .ref (wq 0), .ref (rq 0), (.ref (pq 0)), t_draft])), ((hq 0), .inr (2, [.ref (hq 1), .ref (hq 2), .ref (hq 3), .ref (hq 4), .ref (hq 5), .ref (hq 6), .int h_size, .int h_ranks, .int zr5.2.2])), ((hq 1), .inl (cy 2, 16, .inl h_alive)), ((hq 2), .inl (cy 0, 16, .inl h_late)), ((hq 3), .inl (cy 0, 16, .inl h_hbr)), ((hq 4), .inl (cy 0, 16, .inl h_rbh)), ((hq 5), .inl (cy 0, 256, .inl zr5.1)), ((hq 6), .inl (cy 0, 256, .inl zr5.2.1))]) (n := 0) (q0 := 0) X (c_X4_empty l G cy fu pq p_packed p_size zr6 hzr6) hH [8, 9] [0, 1, 2, 3, 4, 5, 6, 7] [0, 1, 2, 3, 4, 5, 6, 7, 8, 9] rfl rfl rfl rfl gX8_net_X4_empty rfl ⟨rfl, rfl⟩ kX4_empty ⟨Nat.le_of_ble_eq_true rfl, Nat.le_of_ble_eq_true rfl⟩ rfl rfl rfl rfl rfl hl.1 (Nat.le_of_ble_eq_true rfl) ⟨Nat.le_of_ble_eq_true rfl, Nat.le_of_ble_eq_true rfl⟩ dX8_net_33 (fun H locs hH => ?_)
    refine lv_aload_n (pc := 36) hx hb dX8_net_36 rfl (lv_at hl 0 rfl) ?_
    refine z_get (pc := 37) (v := .ref (hq 0)) X iX8_net_X8 hH 0 rfl rfl 0 rfl (List.mem_of_getElem? (i := 1) rfl) rfl dX8_net_37 ?_
    obtain ⟨zr7, hzr7, h⟩ := zb h
    refine zcV (pc := 40) (As := []) (rest := []) (st1 := [.int zr7]) (ws' := wS cy tq hq nq sq kq wq rq (.ref (pq 0)) t_draft ++ wH cy hq h_alive h_late h_hbr h_rbh zr5.1 zr5.2.1 h_size h_ranks zr5.2.2 ++ wP cy pq p_packed zr6) (wr := [((tq 0), .inr (7, [.ref (hq 0), .ref (nq 0), .ref (sq 0), .ref (kq 0), .ref (wq 0), .ref (rq 0), (.ref (pq 0)), t_draft])), ((pq 0), .inr (3, [.ref (pq 1), .int zr6])), ((pq 1), .inl (cy 0, 1200, .inl p_packed))]) (n := 0) (q0 := 0) X (c_X3_lines l G cy fu hq h_alive h_late h_hbr h_rbh zr5.1 zr5.2.1 h_size h_ranks zr5.2.2 zr7 hzr7) hH [1, 2, 3, 4, 5, 6, 7] [0, 8, 9] [0, 3, 4, 5, 6, 7, 8, 9, 1, 2] rfl rfl rfl rfl gX8_net_X3_lines rfl ⟨rfl, rfl⟩ kX3_lines ⟨Nat.le_of_ble_eq_true rfl, Nat.le_of_ble_eq_true rfl⟩ rfl rfl rfl rfl rfl hl.1 (Nat.le_of_ble_eq_true rfl) ⟨Nat.le_of_ble_eq_true rfl, Nat.le_of_ble_eq_true rfl⟩ dX8_net_40 (fun H locs hH => ?_)
    obtain rfl := Option.some.inj h
    exact z_iret X hr hH dX8_net_43
  have h := zt zc4 h
  refine lv_iconst (v := (-1)) (pc := 17) hx hb dX8_net_17 zk_cm1 ?_
  obtain rfl := Option.some.inj h
  exact z_iret X hr hH dX8_net_18
set_option maxHeartbeats 4000000 in
set_option maxRecDepth 100000 in
theorem c_X8_isBlock (l : Launch) (G : va_G) (cy : Nat → ClassId) (fu : Nat)   (x0 : Int32) (rr : Int32) (h : f_X8_isBlock fu x0 = some rr) : zM l G cy yX8_isBlock wsX8_isBlock (zR 0 0) [.int x0] (([] : va_W)) (([] : va_W)) (some (.int rr)) := by
  refine zM.mk (cc := cX8_isBlock) (nL := 1) (ret := (some .boolean)) (by decide) rfl (Nat.le_of_ble_eq_true rfl) ?_
  intro p e s m below meth c A ls X hr hH hl
  replace X : zX p s m [.int x0].toArray meth c RX8 cX8_isBlock 1 wsX8_isBlock G cy A := X
  have hx := X.1.1
  have hb := X.1.2.1
  replace hl : lv_has ls 1 [(0, .int x0)] := hl
  dsimp only [f_X8_isBlock] at h
  refine lv_iload_n (pc := 0) hx hb dX8_isBlock_0 rfl (lv_at hl 0 rfl) ?_
  refine lv_if_lt (pc := 1) (tgt := 14) hx hb dX8_isBlock_1 rfl (fun zc1 => ?_) (fun zc1 => ?_)
  · have h := zt zc1 h
    refine lv_iconst (v := 0) (pc := 14) hx hb dX8_isBlock_14 zk_c0 ?_
    obtain rfl := Option.some.inj h
    exact z_zret X hr (Or.inl rfl) hH dX8_isBlock_15
  have h := zf zc1 h
  refine lv_iload_n (pc := 4) hx hb dX8_isBlock_4 rfl (lv_at hl 0 rfl) ?_
  refine lv_bipush (v := 16) (pc := 5) hx hb dX8_isBlock_5 zk_b16 ?_
  refine lv_icmp_ge (pc := 7) (tgt := 14) hx hb dX8_isBlock_7 rfl (fun zc2 => ?_) (fun zc2 => ?_)
  · have h := zt zc2 h
    refine lv_iconst (v := 0) (pc := 14) hx hb dX8_isBlock_14 zk_c0 ?_
    obtain rfl := Option.some.inj h
    exact z_zret X hr (Or.inl rfl) hH dX8_isBlock_15
  have h := zf zc2 h
  refine lv_iconst (v := 1) (pc := 10) hx hb dX8_isBlock_10 zk_c1 ?_
  refine lv_goto (pc := 11) (tgt := 15) hx hb dX8_isBlock_11 rfl ?_
  obtain rfl := Option.some.inj h
  exact z_zret X hr (Or.inr rfl) hH dX8_isBlock_15
set_option maxHeartbeats 4000000 in
set_option maxRecDepth 100000 in
theorem c_X8_set (l : Launch) (G : va_G) (cy : Nat → ClassId) (fu : Nat) (tq : Nat → Nat) (hq : Nat → Nat) (nq : Nat → Nat) (sq : Nat → Nat) (kq : Nat → Nat) (wq : Nat → Nat) (rq : Nat → Nat) (h_alive : Nat → Int32) (h_late : Nat → Int32) (h_hbr : Nat → Int32) (h_rbh : Nat → Int32) (h_waits : Nat → Int32) (h_pers : Nat → Int32) (h_size : Int32) (h_ranks : Int32) (h_lines : Int32) (e_num : Nat → Int32) (e_und : Nat → Int32) (t_plan : Value) (t_draft : Value) (x1 : Int32) (x2 : Int32) (x3 : Int32) (rr : Int32 × (Nat → Int32)) (h : f_X8_set fu h_size e_num x1 x2 x3 = some rr) : zM l G cy yX8_set wsX8_set (zR 2 42) [.ref (tq 0), .int x1, .int x2, .int x3] (wS cy tq hq nq sq kq wq rq t_plan t_draft ++ wH cy hq h_alive h_late h_hbr h_rbh h_waits h_pers h_size h_ranks h_lines ++ wE cy nq e_num e_und) (wS cy tq hq nq sq kq wq rq t_plan t_draft ++ wH cy hq h_alive h_late h_hbr h_rbh h_waits h_pers h_size h_ranks h_lines ++ wE cy nq rr.2 e_und) (some (.int rr.1)) := by
  refine zM.mk (cc := cX8_set) (nL := 4) (ret := (some .boolean)) (by decide) rfl (Nat.le_of_ble_eq_true rfl) ?_
  intro p e s m below meth c A ls X hr hH hl
  replace X : zX p s m [.ref (tq 0), .int x1, .int x2, .int x3].toArray meth c RX8 cX8_set 4 wsX8_set G cy A := X
  have hx := X.1.1
  have hb := X.1.2.1
  replace hl : lv_has ls 4 [(0, .ref (tq 0)), (1, .int x1), (2, .int x2), (3, .int x3)] := hl
  dsimp only [f_X8_set] at h
  refine lv_aload_n (pc := 0) hx hb dX8_set_0 rfl (lv_at hl 0 rfl) ?_
  refine z_get (pc := 1) (v := .ref (hq 0)) X iX8_set_X8 hH 0 rfl rfl 0 rfl (List.mem_of_getElem? (i := 1) rfl) rfl dX8_set_1 ?_
  refine lv_iload_n (pc := 4) hx hb dX8_set_4 rfl (lv_at hl 1 rfl) ?_
  obtain ⟨zr1, hzr1, h⟩ := zb h
  refine zcV (pc := 5) (As := [.int x1]) (rest := []) (st1 := [.int zr1]) (ws' := wS cy tq hq nq sq kq wq rq t_plan t_draft ++ wH cy hq h_alive h_late h_hbr h_rbh h_waits h_pers h_size h_ranks h_lines ++ wE cy nq e_num e_und) (wr := [((tq 0), .inr (7, [.ref (hq 0), .ref (nq 0), .ref (sq 0), .ref (kq 0), .ref (wq 0), .ref (rq 0), t_plan, t_draft])), ((nq 0), .inr (1, [.ref (nq 1), .ref (nq 2)])), ((nq 1), .inl (cy 0, 256, .inl e_num)), ((nq 2), .inl (cy 0, 256, .inl e_und))]) (n := 1) (q0 := 0) X (c_X3_isHost l G cy fu hq h_alive h_late h_hbr h_rbh h_waits h_pers h_size h_ranks h_lines x1 zr1 hzr1) hH [1, 2, 3, 4, 5, 6, 7] [0, 8, 9, 10] [0, 4, 5, 6, 7, 8, 9, 10, 1, 2, 3] rfl rfl rfl rfl gX8_set_X3_isHost rfl ⟨rfl, rfl⟩ kX3_isHost ⟨Nat.le_of_ble_eq_true rfl, Nat.le_of_ble_eq_true rfl⟩ rfl rfl rfl rfl rfl hl.1 (Nat.le_of_ble_eq_true rfl) ⟨Nat.le_of_ble_eq_true rfl, Nat.le_of_ble_eq_true rfl⟩ dX8_set_5 (fun H locs hH => ?_)
  refine lv_if_eq (pc := 8) (tgt := 18) hx hb dX8_set_8 rfl (fun zc2 => ?_) (fun zc2 => ?_)
  · have h := zt zc2 h
    refine lv_iconst (v := 0) (pc := 18) hx hb dX8_set_18 zk_c0 ?_
    obtain rfl := Option.some.inj h
    exact z_zret X hr (Or.inl rfl) hH dX8_set_19
  have h := zf zc2 h
  refine lv_iload_n (pc := 11) hx hb dX8_set_11 rfl (lv_at hl 2 rfl) ?_
  obtain ⟨zr3, hzr3, h⟩ := zb h
  refine zcS (pc := 12) (As := [.int x2]) (rest := []) (st1 := [.int zr3]) (ws' := wS cy tq hq nq sq kq wq rq t_plan t_draft ++ wH cy hq h_alive h_late h_hbr h_rbh h_waits h_pers h_size h_ranks h_lines ++ wE cy nq e_num e_und) (wr := [((tq 0), .inr (7, [.ref (hq 0), .ref (nq 0), .ref (sq 0), .ref (kq 0), .ref (wq 0), .ref (rq 0), t_plan, t_draft])), ((hq 0), .inr (2, [.ref (hq 1), .ref (hq 2), .ref (hq 3), .ref (hq 4), .ref (hq 5), .ref (hq 6), .int h_size, .int h_ranks, .int h_lines])), ((hq 1), .inl (cy 2, 16, .inl h_alive)), ((hq 2), .inl (cy 0, 16, .inl h_late)), ((hq 3), .inl (cy 0, 16, .inl h_hbr)), ((hq 4), .inl (cy 0, 16, .inl h_rbh)), ((hq 5), .inl (cy 0, 256, .inl h_waits)), ((hq 6), .inl (cy 0, 256, .inl h_pers)), ((nq 0), .inr (1, [.ref (nq 1), .ref (nq 2)])), ((nq 1), .inl (cy 0, 256, .inl e_num)), ((nq 2), .inl (cy 0, 256, .inl e_und))]) (n := 1) X (c_X8_isBlock l G cy fu x2 zr3 hzr3) hH [] [0, 1, 2, 3, 4, 5, 6, 7, 8, 9, 10] [0, 1, 2, 3, 4, 5, 6, 7, 8, 9, 10] rfl rfl rfl rfl gX8_set_X8_isBlock rfl ⟨rfl, rfl⟩ kX8_isBlock ⟨Nat.le_of_ble_eq_true rfl, Nat.le_of_ble_eq_true rfl⟩ rfl rfl rfl hl.1 (Nat.le_of_ble_eq_true rfl) ⟨Nat.le_of_ble_eq_true rfl, Nat.le_of_ble_eq_true rfl⟩ dX8_set_12 (fun H locs hH => ?_)
  refine lv_if_ne (pc := 15) (tgt := 20) hx hb dX8_set_15 rfl (fun zc4 => ?_) (fun zc4 => ?_)
  · have h := zf zc4 h
    refine lv_aload_n (pc := 20) hx hb dX8_set_20 rfl (lv_at hl 0 rfl) ?_
    refine z_get (pc := 21) (v := .ref (nq 0)) X iX8_set_X8 hH 0 rfl rfl 1 rfl (List.mem_of_getElem? (i := 2) rfl) rfl dX8_set_21 ?_
    refine lv_iload_n (pc := 24) hx hb dX8_set_24 rfl (lv_at hl 1 rfl) ?_
    refine lv_iload_n (pc := 25) hx hb dX8_set_25 rfl (lv_at hl 2 rfl) ?_
    obtain ⟨zr5, hzr5, h⟩ := zb h
    refine zcS (pc := 26) (As := [.int x1, .int x2]) (rest := [.ref (nq 0)]) (st1 := [.int zr5, .ref (nq 0)]) (ws' := wS cy tq hq nq sq kq wq rq t_plan t_draft ++ wH cy hq h_alive h_late h_hbr h_rbh h_waits h_pers h_size h_ranks h_lines ++ wE cy nq e_num e_und) (wr := [((tq 0), .inr (7, [.ref (hq 0), .ref (nq 0), .ref (sq 0), .ref (kq 0), .ref (wq 0), .ref (rq 0), t_plan, t_draft])), ((hq 0), .inr (2, [.ref (hq 1), .ref (hq 2), .ref (hq 3), .ref (hq 4), .ref (hq 5), .ref (hq 6), .int h_size, .int h_ranks, .int h_lines])), ((hq 1), .inl (cy 2, 16, .inl h_alive)), ((hq 2), .inl (cy 0, 16, .inl h_late)), ((hq 3), .inl (cy 0, 16, .inl h_hbr)), ((hq 4), .inl (cy 0, 16, .inl h_rbh)), ((hq 5), .inl (cy 0, 256, .inl h_waits)), ((hq 6), .inl (cy 0, 256, .inl h_pers)), ((nq 0), .inr (1, [.ref (nq 1), .ref (nq 2)])), ((nq 1), .inl (cy 0, 256, .inl e_num)), ((nq 2), .inl (cy 0, 256, .inl e_und))]) (n := 2) X (c_X8_cell l G cy fu x1 x2 zr5 hzr5) hH [] [0, 1, 2, 3, 4, 5, 6, 7, 8, 9, 10] [0, 1, 2, 3, 4, 5, 6, 7, 8, 9, 10] rfl rfl rfl rfl gX8_set_X8_cell rfl ⟨rfl, rfl⟩ kX8_cell ⟨Nat.le_of_ble_eq_true rfl, Nat.le_of_ble_eq_true rfl⟩ rfl rfl rfl hl.1 (Nat.le_of_ble_eq_true rfl) ⟨Nat.le_of_ble_eq_true rfl, Nat.le_of_ble_eq_true rfl⟩ dX8_set_26 (fun H locs hH => ?_)
    refine lv_iload_n (pc := 29) hx hb dX8_set_29 rfl (lv_at hl 3 rfl) ?_
    obtain ⟨zr6, hzr6, h⟩ := zb h
    refine zcV (pc := 30) (As := [.int zr5, .int x3]) (rest := []) (st1 := []) (ws' := wS cy tq hq nq sq kq wq rq t_plan t_draft ++ wH cy hq h_alive h_late h_hbr h_rbh h_waits h_pers h_size h_ranks h_lines ++ wE cy nq zr6 e_und) (wr := [((tq 0), .inr (7, [.ref (hq 0), .ref (nq 0), .ref (sq 0), .ref (kq 0), .ref (wq 0), .ref (rq 0), t_plan, t_draft])), ((hq 0), .inr (2, [.ref (hq 1), .ref (hq 2), .ref (hq 3), .ref (hq 4), .ref (hq 5), .ref (hq 6), .int h_size, .int h_ranks, .int h_lines])), ((hq 1), .inl (cy 2, 16, .inl h_alive)), ((hq 2), .inl (cy 0, 16, .inl h_late)), ((hq 3), .inl (cy 0, 16, .inl h_hbr)), ((hq 4), .inl (cy 0, 16, .inl h_rbh)), ((hq 5), .inl (cy 0, 256, .inl h_waits)), ((hq 6), .inl (cy 0, 256, .inl h_pers))]) (n := 2) (q0 := 0) X (c_X2_change l G cy fu nq e_num e_und zr5 x3 zr6 hzr6) hH [8, 9, 10] [0, 1, 2, 3, 4, 5, 6, 7] [0, 1, 2, 3, 4, 5, 6, 7, 8, 9, 10] rfl rfl rfl rfl gX8_set_X2_change rfl ⟨rfl, rfl⟩ kX2_change ⟨Nat.le_of_ble_eq_true rfl, Nat.le_of_ble_eq_true rfl⟩ rfl rfl rfl rfl rfl hl.1 (Nat.le_of_ble_eq_true rfl) ⟨Nat.le_of_ble_eq_true rfl, Nat.le_of_ble_eq_true rfl⟩ dX8_set_30 (fun H locs hH => ?_)
    refine lv_iconst (v := 1) (pc := 33) hx hb dX8_set_33 zk_c1 ?_
    obtain rfl := Option.some.inj h
    exact z_zret X hr (Or.inr rfl) hH dX8_set_34
  have h := zt zc4 h
  refine lv_iconst (v := 0) (pc := 18) hx hb dX8_set_18 zk_c0 ?_
  obtain rfl := Option.some.inj h
  exact z_zret X hr (Or.inl rfl) hH dX8_set_19
set_option maxHeartbeats 4000000 in
set_option maxRecDepth 100000 in
theorem c_X8_live (l : Launch) (G : va_G) (cy : Nat → ClassId) (fu : Nat) (tq : Nat → Nat) (hq : Nat → Nat) (nq : Nat → Nat) (sq : Nat → Nat) (kq : Nat → Nat) (wq : Nat → Nat) (rq : Nat → Nat) (pq : Nat → Nat) (h_alive : Nat → Int32) (h_late : Nat → Int32) (h_hbr : Nat → Int32) (h_rbh : Nat → Int32) (h_waits : Nat → Int32) (h_pers : Nat → Int32) (h_size : Int32) (h_ranks : Int32) (h_lines : Int32) (p_packed : Nat → Int32) (p_size : Int32) (t_draft : Value) (x1 : Int32) (x2 : Int32) (rr : Int32 × (Nat → Int32) × (Nat → Int32) × (Nat → Int32) × Int32 × Int32) (h : f_X8_live fu h_alive h_hbr h_rbh h_size h_ranks p_size x1 x2 = some rr) : zM l G cy yX8_live wsX8_live (zR 3 63) [.ref (tq 0), .int x1, .int x2] (wS cy tq hq nq sq kq wq rq (.ref (pq 0)) t_draft ++ wH cy hq h_alive h_late h_hbr h_rbh h_waits h_pers h_size h_ranks h_lines ++ wP cy pq p_packed p_size) (wS cy tq hq nq sq kq wq rq (.ref (pq 0)) t_draft ++ wH cy hq rr.2.1 h_late rr.2.2.1 rr.2.2.2.1 h_waits h_pers h_size rr.2.2.2.2.1 h_lines ++ wP cy pq p_packed rr.2.2.2.2.2) (some (.int rr.1)) := by
  refine zM.mk (cc := cX8_live) (nL := 3) (ret := (some .boolean)) (by decide) rfl (Nat.le_of_ble_eq_true rfl) ?_
  intro p e s m below meth c A ls X hr hH hl
  replace X : zX p s m [.ref (tq 0), .int x1, .int x2].toArray meth c RX8 cX8_live 3 wsX8_live G cy A := X
  have hx := X.1.1
  have hb := X.1.2.1
  replace hl : lv_has ls 3 [(0, .ref (tq 0)), (1, .int x1), (2, .int x2)] := hl
  dsimp only [f_X8_live] at h
  refine lv_aload_n (pc := 0) hx hb dX8_live_0 rfl (lv_at hl 0 rfl) ?_
  refine z_get (pc := 1) (v := .ref (hq 0)) X iX8_live_X8 hH 0 rfl rfl 0 rfl (List.mem_of_getElem? (i := 1) rfl) rfl dX8_live_1 ?_
  refine lv_iload_n (pc := 4) hx hb dX8_live_4 rfl (lv_at hl 1 rfl) ?_
  obtain ⟨zr1, hzr1, h⟩ := zb h
  refine zcV (pc := 5) (As := [.int x1]) (rest := []) (st1 := [.int zr1]) (ws' := wS cy tq hq nq sq kq wq rq (.ref (pq 0)) t_draft ++ wH cy hq h_alive h_late h_hbr h_rbh h_waits h_pers h_size h_ranks h_lines ++ wP cy pq p_packed p_size) (wr := [((tq 0), .inr (7, [.ref (hq 0), .ref (nq 0), .ref (sq 0), .ref (kq 0), .ref (wq 0), .ref (rq 0), (.ref (pq 0)), t_draft])), ((pq 0), .inr (3, [.ref (pq 1), .int p_size])), ((pq 1), .inl (cy 0, 1200, .inl p_packed))]) (n := 1) (q0 := 0) X (c_X3_isHost l G cy fu hq h_alive h_late h_hbr h_rbh h_waits h_pers h_size h_ranks h_lines x1 zr1 hzr1) hH [1, 2, 3, 4, 5, 6, 7] [0, 8, 9] [0, 3, 4, 5, 6, 7, 8, 9, 1, 2] rfl rfl rfl rfl gX8_live_X3_isHost rfl ⟨rfl, rfl⟩ kX3_isHost ⟨Nat.le_of_ble_eq_true rfl, Nat.le_of_ble_eq_true rfl⟩ rfl rfl rfl rfl rfl hl.1 (Nat.le_of_ble_eq_true rfl) ⟨Nat.le_of_ble_eq_true rfl, Nat.le_of_ble_eq_true rfl⟩ dX8_live_5 (fun H locs hH => ?_)
  refine lv_if_eq (pc := 8) (tgt := 26) hx hb dX8_live_8 rfl (fun zc2 => ?_) (fun zc2 => ?_)
  · have h := zt zc2 h
    refine lv_iconst (v := 0) (pc := 26) hx hb dX8_live_26 zk_c0 ?_
    obtain rfl := Option.some.inj h
    exact z_zret X hr (Or.inl rfl) hH dX8_live_27
  have h := zf zc2 h
  refine lv_iload_n (pc := 11) hx hb dX8_live_11 rfl (lv_at hl 2 rfl) ?_
  refine lv_if_ne (pc := 12) (tgt := 28) hx hb dX8_live_12 rfl (fun zc3 => ?_) (fun zc3 => ?_)
  · have h := zf zc3 h
    refine lv_aload_n (pc := 28) hx hb dX8_live_28 rfl (lv_at hl 0 rfl) ?_
    refine z_get (pc := 29) (v := .ref (hq 0)) X iX8_live_X8 hH 0 rfl rfl 0 rfl (List.mem_of_getElem? (i := 1) rfl) rfl dX8_live_29 ?_
    refine lv_iload_n (pc := 32) hx hb dX8_live_32 rfl (lv_at hl 1 rfl) ?_
    refine lv_iload_n (pc := 33) hx hb dX8_live_33 rfl (lv_at hl 2 rfl) ?_
    obtain ⟨zr4, hzr4, h⟩ := zb h
    refine zcV (pc := 34) (As := [.int x1, .int x2]) (rest := []) (st1 := []) (ws' := wS cy tq hq nq sq kq wq rq (.ref (pq 0)) t_draft ++ wH cy hq zr4.1 h_late zr4.2.1 zr4.2.2.1 h_waits h_pers h_size zr4.2.2.2 h_lines ++ wP cy pq p_packed p_size) (wr := [((tq 0), .inr (7, [.ref (hq 0), .ref (nq 0), .ref (sq 0), .ref (kq 0), .ref (wq 0), .ref (rq 0), (.ref (pq 0)), t_draft])), ((pq 0), .inr (3, [.ref (pq 1), .int p_size])), ((pq 1), .inl (cy 0, 1200, .inl p_packed))]) (n := 2) (q0 := 0) X (c_X3_turn l G cy fu hq h_alive h_late h_hbr h_rbh h_waits h_pers h_size h_ranks h_lines x1 x2 zr4 hzr4) hH [1, 2, 3, 4, 5, 6, 7] [0, 8, 9] [0, 3, 4, 5, 6, 7, 8, 9, 1, 2] rfl rfl rfl rfl gX8_live_X3_turn rfl ⟨rfl, rfl⟩ kX3_turn ⟨Nat.le_of_ble_eq_true rfl, Nat.le_of_ble_eq_true rfl⟩ rfl rfl rfl rfl rfl hl.1 (Nat.le_of_ble_eq_true rfl) ⟨Nat.le_of_ble_eq_true rfl, Nat.le_of_ble_eq_true rfl⟩ dX8_live_34 (fun H locs hH => ?_)
    refine lv_aload_n (pc := 37) hx hb dX8_live_37 rfl (lv_at hl 0 rfl) ?_
    refine z_get (pc := 38) (v := .ref (pq 0)) X iX8_live_X8 hH 0 rfl rfl 6 rfl (List.mem_of_getElem? (i := 2) rfl) rfl dX8_live_38 ?_
    obtain ⟨zr5, hzr5, h⟩ := zb h
    refine zcV (pc := 41) (As := []) (rest := []) (st1 := []) (ws' := wS cy tq hq nq sq kq wq rq (.ref (pq 0)) t_draft ++ wH cy hq zr4.1 h_late zr4.2.1 zr4.2.2.1 h_waits h_pers h_size zr4.2.2.2 h_lines ++ wP cy pq p_packed zr5) (wr := [((tq 0), .inr (7, [.ref (hq 0), .ref (nq 0), .ref (sq 0), .ref (kq 0), .ref (wq 0), .ref (rq 0), (.ref (pq 0)), t_draft])), ((hq 0), .inr (2, [.ref (hq 1), .ref (hq 2), .ref (hq 3), .ref (hq 4), .ref (hq 5), .ref (hq 6), .int h_size, .int zr4.2.2.2, .int h_lines])), ((hq 1), .inl (cy 2, 16, .inl zr4.1)), ((hq 2), .inl (cy 0, 16, .inl h_late)), ((hq 3), .inl (cy 0, 16, .inl zr4.2.1)), ((hq 4), .inl (cy 0, 16, .inl zr4.2.2.1)), ((hq 5), .inl (cy 0, 256, .inl h_waits)), ((hq 6), .inl (cy 0, 256, .inl h_pers))]) (n := 0) (q0 := 0) X (c_X4_empty l G cy fu pq p_packed p_size zr5 hzr5) hH [8, 9] [0, 1, 2, 3, 4, 5, 6, 7] [0, 1, 2, 3, 4, 5, 6, 7, 8, 9] rfl rfl rfl rfl gX8_live_X4_empty rfl ⟨rfl, rfl⟩ kX4_empty ⟨Nat.le_of_ble_eq_true rfl, Nat.le_of_ble_eq_true rfl⟩ rfl rfl rfl rfl rfl hl.1 (Nat.le_of_ble_eq_true rfl) ⟨Nat.le_of_ble_eq_true rfl, Nat.le_of_ble_eq_true rfl⟩ dX8_live_41 (fun H locs hH => ?_)
    refine lv_iconst (v := 1) (pc := 44) hx hb dX8_live_44 zk_c1 ?_
    obtain rfl := Option.some.inj h
    exact z_zret X hr (Or.inr rfl) hH dX8_live_45
  have h := zt zc3 h
  refine lv_aload_n (pc := 15) hx hb dX8_live_15 rfl (lv_at hl 0 rfl) ?_
  refine z_get (pc := 16) (v := .ref (hq 0)) X iX8_live_X8 hH 0 rfl rfl 0 rfl (List.mem_of_getElem? (i := 1) rfl) rfl dX8_live_16 ?_
  refine lv_iload_n (pc := 19) hx hb dX8_live_19 rfl (lv_at hl 1 rfl) ?_
  obtain ⟨zr6, hzr6, h⟩ := zb h
  refine zcV (pc := 20) (As := [.int x1]) (rest := []) (st1 := [.int zr6]) (ws' := wS cy tq hq nq sq kq wq rq (.ref (pq 0)) t_draft ++ wH cy hq h_alive h_late h_hbr h_rbh h_waits h_pers h_size h_ranks h_lines ++ wP cy pq p_packed p_size) (wr := [((tq 0), .inr (7, [.ref (hq 0), .ref (nq 0), .ref (sq 0), .ref (kq 0), .ref (wq 0), .ref (rq 0), (.ref (pq 0)), t_draft])), ((pq 0), .inr (3, [.ref (pq 1), .int p_size])), ((pq 1), .inl (cy 0, 1200, .inl p_packed))]) (n := 1) (q0 := 0) X (c_X3_isLastLive l G cy fu hq h_alive h_late h_hbr h_rbh h_waits h_pers h_size h_ranks h_lines x1 zr6 hzr6) hH [1, 2, 3, 4, 5, 6, 7] [0, 8, 9] [0, 3, 4, 5, 6, 7, 8, 9, 1, 2] rfl rfl rfl rfl gX8_live_X3_isLastLive rfl ⟨rfl, rfl⟩ kX3_isLastLive ⟨Nat.le_of_ble_eq_true rfl, Nat.le_of_ble_eq_true rfl⟩ rfl rfl rfl rfl rfl hl.1 (Nat.le_of_ble_eq_true rfl) ⟨Nat.le_of_ble_eq_true rfl, Nat.le_of_ble_eq_true rfl⟩ dX8_live_20 (fun H locs hH => ?_)
  refine lv_if_eq (pc := 23) (tgt := 28) hx hb dX8_live_23 rfl (fun zc7 => ?_) (fun zc7 => ?_)
  · have h := zt zc7 h
    refine lv_aload_n (pc := 28) hx hb dX8_live_28 rfl (lv_at hl 0 rfl) ?_
    refine z_get (pc := 29) (v := .ref (hq 0)) X iX8_live_X8 hH 0 rfl rfl 0 rfl (List.mem_of_getElem? (i := 1) rfl) rfl dX8_live_29 ?_
    refine lv_iload_n (pc := 32) hx hb dX8_live_32 rfl (lv_at hl 1 rfl) ?_
    refine lv_iload_n (pc := 33) hx hb dX8_live_33 rfl (lv_at hl 2 rfl) ?_
    obtain ⟨zr8, hzr8, h⟩ := zb h
    refine zcV (pc := 34) (As := [.int x1, .int x2]) (rest := []) (st1 := []) (ws' := wS cy tq hq nq sq kq wq rq (.ref (pq 0)) t_draft ++ wH cy hq zr8.1 h_late zr8.2.1 zr8.2.2.1 h_waits h_pers h_size zr8.2.2.2 h_lines ++ wP cy pq p_packed p_size) (wr := [((tq 0), .inr (7, [.ref (hq 0), .ref (nq 0), .ref (sq 0), .ref (kq 0), .ref (wq 0), .ref (rq 0), (.ref (pq 0)), t_draft])), ((pq 0), .inr (3, [.ref (pq 1), .int p_size])), ((pq 1), .inl (cy 0, 1200, .inl p_packed))]) (n := 2) (q0 := 0) X (c_X3_turn l G cy fu hq h_alive h_late h_hbr h_rbh h_waits h_pers h_size h_ranks h_lines x1 x2 zr8 hzr8) hH [1, 2, 3, 4, 5, 6, 7] [0, 8, 9] [0, 3, 4, 5, 6, 7, 8, 9, 1, 2] rfl rfl rfl rfl gX8_live_X3_turn rfl ⟨rfl, rfl⟩ kX3_turn ⟨Nat.le_of_ble_eq_true rfl, Nat.le_of_ble_eq_true rfl⟩ rfl rfl rfl rfl rfl hl.1 (Nat.le_of_ble_eq_true rfl) ⟨Nat.le_of_ble_eq_true rfl, Nat.le_of_ble_eq_true rfl⟩ dX8_live_34 (fun H locs hH => ?_)
    refine lv_aload_n (pc := 37) hx hb dX8_live_37 rfl (lv_at hl 0 rfl) ?_
    refine z_get (pc := 38) (v := .ref (pq 0)) X iX8_live_X8 hH 0 rfl rfl 6 rfl (List.mem_of_getElem? (i := 2) rfl) rfl dX8_live_38 ?_
    obtain ⟨zr9, hzr9, h⟩ := zb h
    refine zcV (pc := 41) (As := []) (rest := []) (st1 := []) (ws' := wS cy tq hq nq sq kq wq rq (.ref (pq 0)) t_draft ++ wH cy hq zr8.1 h_late zr8.2.1 zr8.2.2.1 h_waits h_pers h_size zr8.2.2.2 h_lines ++ wP cy pq p_packed zr9) (wr := [((tq 0), .inr (7, [.ref (hq 0), .ref (nq 0), .ref (sq 0), .ref (kq 0), .ref (wq 0), .ref (rq 0), (.ref (pq 0)), t_draft])), ((hq 0), .inr (2, [.ref (hq 1), .ref (hq 2), .ref (hq 3), .ref (hq 4), .ref (hq 5), .ref (hq 6), .int h_size, .int zr8.2.2.2, .int h_lines])), ((hq 1), .inl (cy 2, 16, .inl zr8.1)), ((hq 2), .inl (cy 0, 16, .inl h_late)), ((hq 3), .inl (cy 0, 16, .inl zr8.2.1)), ((hq 4), .inl (cy 0, 16, .inl zr8.2.2.1)), ((hq 5), .inl (cy 0, 256, .inl h_waits)), ((hq 6), .inl (cy 0, 256, .inl h_pers))]) (n := 0) (q0 := 0) X (c_X4_empty l G cy fu pq p_packed p_size zr9 hzr9) hH [8, 9] [0, 1, 2, 3, 4, 5, 6, 7] [0, 1, 2, 3, 4, 5, 6, 7, 8, 9] rfl rfl rfl rfl gX8_live_X4_empty rfl ⟨rfl, rfl⟩ kX4_empty ⟨Nat.le_of_ble_eq_true rfl, Nat.le_of_ble_eq_true rfl⟩ rfl rfl rfl rfl rfl hl.1 (Nat.le_of_ble_eq_true rfl) ⟨Nat.le_of_ble_eq_true rfl, Nat.le_of_ble_eq_true rfl⟩ dX8_live_41 (fun H locs hH => ?_)
    refine lv_iconst (v := 1) (pc := 44) hx hb dX8_live_44 zk_c1 ?_
    obtain rfl := Option.some.inj h
    exact z_zret X hr (Or.inr rfl) hH dX8_live_45
  have h := zf zc7 h
  refine lv_iconst (v := 0) (pc := 26) hx hb dX8_live_26 zk_c0 ?_
  obtain rfl := Option.some.inj h
  exact z_zret X hr (Or.inl rfl) hH dX8_live_27
set_option maxHeartbeats 4000000 in
set_option maxRecDepth 100000 in
theorem c_X8_late (l : Launch) (G : va_G) (cy : Nat → ClassId) (fu : Nat) (tq : Nat → Nat) (hq : Nat → Nat) (nq : Nat → Nat) (sq : Nat → Nat) (kq : Nat → Nat) (wq : Nat → Nat) (rq : Nat → Nat) (h_alive : Nat → Int32) (h_late : Nat → Int32) (h_hbr : Nat → Int32) (h_rbh : Nat → Int32) (h_waits : Nat → Int32) (h_pers : Nat → Int32) (h_size : Int32) (h_ranks : Int32) (h_lines : Int32) (t_plan : Value) (t_draft : Value) (x1 : Int32) (x2 : Int32) (rr : Int32 × (Nat → Int32)) (h : f_X8_late fu h_late h_size x1 x2 = some rr) : zM l G cy yX8_late wsX8_late (zR 2 43) [.ref (tq 0), .int x1, .int x2] (wS cy tq hq nq sq kq wq rq t_plan t_draft ++ wH cy hq h_alive h_late h_hbr h_rbh h_waits h_pers h_size h_ranks h_lines) (wS cy tq hq nq sq kq wq rq t_plan t_draft ++ wH cy hq h_alive rr.2 h_hbr h_rbh h_waits h_pers h_size h_ranks h_lines) (some (.int rr.1)) := by
  refine zM.mk (cc := cX8_late) (nL := 3) (ret := (some .boolean)) (by decide) rfl (Nat.le_of_ble_eq_true rfl) ?_
  intro p e s m below meth c A ls X hr hH hl
  replace X : zX p s m [.ref (tq 0), .int x1, .int x2].toArray meth c RX8 cX8_late 3 wsX8_late G cy A := X
  have hx := X.1.1
  have hb := X.1.2.1
  replace hl : lv_has ls 3 [(0, .ref (tq 0)), (1, .int x1), (2, .int x2)] := hl
  dsimp only [f_X8_late] at h
  refine lv_aload_n (pc := 0) hx hb dX8_late_0 rfl (lv_at hl 0 rfl) ?_
  refine z_get (pc := 1) (v := .ref (hq 0)) X iX8_late_X8 hH 0 rfl rfl 0 rfl (List.mem_of_getElem? (i := 1) rfl) rfl dX8_late_1 ?_
  refine lv_iload_n (pc := 4) hx hb dX8_late_4 rfl (lv_at hl 1 rfl) ?_
  obtain ⟨zr1, hzr1, h⟩ := zb h
  refine zcV (pc := 5) (As := [.int x1]) (rest := []) (st1 := [.int zr1]) (ws' := wS cy tq hq nq sq kq wq rq t_plan t_draft ++ wH cy hq h_alive h_late h_hbr h_rbh h_waits h_pers h_size h_ranks h_lines) (wr := [((tq 0), .inr (7, [.ref (hq 0), .ref (nq 0), .ref (sq 0), .ref (kq 0), .ref (wq 0), .ref (rq 0), t_plan, t_draft]))]) (n := 1) (q0 := 0) X (c_X3_isHost l G cy fu hq h_alive h_late h_hbr h_rbh h_waits h_pers h_size h_ranks h_lines x1 zr1 hzr1) hH [1, 2, 3, 4, 5, 6, 7] [0] [0, 1, 2, 3, 4, 5, 6, 7] rfl rfl rfl rfl gX8_late_X3_isHost rfl ⟨rfl, rfl⟩ kX3_isHost ⟨Nat.le_of_ble_eq_true rfl, Nat.le_of_ble_eq_true rfl⟩ rfl rfl rfl rfl rfl hl.1 (Nat.le_of_ble_eq_true rfl) ⟨Nat.le_of_ble_eq_true rfl, Nat.le_of_ble_eq_true rfl⟩ dX8_late_5 (fun H locs hH => ?_)
  refine lv_if_eq (pc := 8) (tgt := 21) hx hb dX8_late_8 rfl (fun zc2 => ?_) (fun zc2 => ?_)
  · have h := zt zc2 h
    refine lv_iconst (v := 0) (pc := 21) hx hb dX8_late_21 zk_c0 ?_
    obtain rfl := Option.some.inj h
    exact z_zret X hr (Or.inl rfl) hH dX8_late_22
  have h := zf zc2 h
  refine lv_iload_n (pc := 11) hx hb dX8_late_11 rfl (lv_at hl 2 rfl) ?_
  refine lv_if_lt (pc := 12) (tgt := 21) hx hb dX8_late_12 rfl (fun zc3 => ?_) (fun zc3 => ?_)
  · have h := zt zc3 h
    refine lv_iconst (v := 0) (pc := 21) hx hb dX8_late_21 zk_c0 ?_
    obtain rfl := Option.some.inj h
    exact z_zret X hr (Or.inl rfl) hH dX8_late_22
  have h := zf zc3 h
  refine lv_iload_n (pc := 15) hx hb dX8_late_15 rfl (lv_at hl 2 rfl) ?_
  refine lv_ldc (pc := 16) (v := 100000) hx hb X.1.2.2.2.1 (X.1.2.2.2.2 _ (List.mem_of_getElem? (i := 2) rfl)) dX8_late_16 ?_
  refine lv_icmp_le (pc := 18) (tgt := 23) hx hb dX8_late_18 rfl (fun zc4 => ?_) (fun zc4 => ?_)
  · have h := zt zc4 h
    refine lv_aload_n (pc := 23) hx hb dX8_late_23 rfl (lv_at hl 0 rfl) ?_
    refine z_get (pc := 24) (v := .ref (hq 0)) X iX8_late_X8 hH 0 rfl rfl 0 rfl (List.mem_of_getElem? (i := 1) rfl) rfl dX8_late_24 ?_
    refine lv_iload_n (pc := 27) hx hb dX8_late_27 rfl (lv_at hl 1 rfl) ?_
    refine lv_iload_n (pc := 28) hx hb dX8_late_28 rfl (lv_at hl 2 rfl) ?_
    obtain ⟨zr5, hzr5, h⟩ := zb h
    refine zcV (pc := 29) (As := [.int x1, .int x2]) (rest := []) (st1 := []) (ws' := wS cy tq hq nq sq kq wq rq t_plan t_draft ++ wH cy hq h_alive zr5 h_hbr h_rbh h_waits h_pers h_size h_ranks h_lines) (wr := [((tq 0), .inr (7, [.ref (hq 0), .ref (nq 0), .ref (sq 0), .ref (kq 0), .ref (wq 0), .ref (rq 0), t_plan, t_draft]))]) (n := 2) (q0 := 0) X (c_X3_delay l G cy fu hq h_alive h_late h_hbr h_rbh h_waits h_pers h_size h_ranks h_lines x1 x2 zr5 hzr5) hH [1, 2, 3, 4, 5, 6, 7] [0] [0, 1, 2, 3, 4, 5, 6, 7] rfl rfl rfl rfl gX8_late_X3_delay rfl ⟨rfl, rfl⟩ kX3_delay ⟨Nat.le_of_ble_eq_true rfl, Nat.le_of_ble_eq_true rfl⟩ rfl rfl rfl rfl rfl hl.1 (Nat.le_of_ble_eq_true rfl) ⟨Nat.le_of_ble_eq_true rfl, Nat.le_of_ble_eq_true rfl⟩ dX8_late_29 (fun H locs hH => ?_)
    refine lv_iconst (v := 1) (pc := 32) hx hb dX8_late_32 zk_c1 ?_
    obtain rfl := Option.some.inj h
    exact z_zret X hr (Or.inr rfl) hH dX8_late_33
  have h := zf zc4 h
  refine lv_iconst (v := 0) (pc := 21) hx hb dX8_late_21 zk_c0 ?_
  obtain rfl := Option.some.inj h
  exact z_zret X hr (Or.inl rfl) hH dX8_late_22
set_option maxHeartbeats 4000000 in
set_option maxRecDepth 100000 in
theorem c_X8_count (l : Launch) (G : va_G) (cy : Nat → ClassId) (fu : Nat) (tq : Nat → Nat) (hq : Nat → Nat) (nq : Nat → Nat) (sq : Nat → Nat) (kq : Nat → Nat) (wq : Nat → Nat) (rq : Nat → Nat) (pq : Nat → Nat) (h_alive : Nat → Int32) (h_late : Nat → Int32) (h_hbr : Nat → Int32) (h_rbh : Nat → Int32) (h_waits : Nat → Int32) (h_pers : Nat → Int32) (h_size : Int32) (h_ranks : Int32) (h_lines : Int32) (p_packed : Nat → Int32) (p_size : Int32) (t_draft : Value) (x1 : Int32) (rr : Int32) (h : f_X8_count fu h_size h_ranks h_lines p_packed p_size x1 = some rr) : zM l G cy yX8_count wsX8_count (zR 3 64) [.ref (tq 0), .int x1] (wS cy tq hq nq sq kq wq rq (.ref (pq 0)) t_draft ++ wH cy hq h_alive h_late h_hbr h_rbh h_waits h_pers h_size h_ranks h_lines ++ wP cy pq p_packed p_size) (wS cy tq hq nq sq kq wq rq (.ref (pq 0)) t_draft ++ wH cy hq h_alive h_late h_hbr h_rbh h_waits h_pers h_size h_ranks h_lines ++ wP cy pq p_packed p_size) (some (.int rr)) := by
  refine zM.mk (cc := cX8_count) (nL := 2) (ret := (some .int)) (by decide) rfl (Nat.le_of_ble_eq_true rfl) ?_
  intro p e s m below meth c A ls X hr hH hl
  replace X : zX p s m [.ref (tq 0), .int x1].toArray meth c RX8 cX8_count 2 wsX8_count G cy A := X
  have hx := X.1.1
  have hb := X.1.2.1
  replace hl : lv_has ls 2 [(0, .ref (tq 0)), (1, .int x1)] := hl
  dsimp only [f_X8_count] at h
  refine lv_iload_n (pc := 0) hx hb dX8_count_0 rfl (lv_at hl 1 rfl) ?_
  by_cases zc1 : x1 = 0
  · have h := zt zc1 h
    refine lv_tableIn (pc := 1) (off := 39) (tgt := 40) hx hb dX8_count_1 (by rw [zc1]; decide) (by rw [zc1]; decide) (by rw [zc1]; rfl) rfl ?_
    refine lv_aload_n (pc := 40) hx hb dX8_count_40 rfl (lv_at hl 0 rfl) ?_
    refine z_get (pc := 41) (v := .ref (hq 0)) X iX8_count_X8 hH 0 rfl rfl 0 rfl (List.mem_of_getElem? (i := 1) rfl) rfl dX8_count_41 ?_
    obtain ⟨zr2, hzr2, h⟩ := zb h
    refine zcV (pc := 44) (As := []) (rest := []) (st1 := [.int zr2]) (ws' := wS cy tq hq nq sq kq wq rq (.ref (pq 0)) t_draft ++ wH cy hq h_alive h_late h_hbr h_rbh h_waits h_pers h_size h_ranks h_lines ++ wP cy pq p_packed p_size) (wr := [((tq 0), .inr (7, [.ref (hq 0), .ref (nq 0), .ref (sq 0), .ref (kq 0), .ref (wq 0), .ref (rq 0), (.ref (pq 0)), t_draft])), ((pq 0), .inr (3, [.ref (pq 1), .int p_size])), ((pq 1), .inl (cy 0, 1200, .inl p_packed))]) (n := 0) (q0 := 0) X (c_X3_size l G cy fu hq h_alive h_late h_hbr h_rbh h_waits h_pers h_size h_ranks h_lines zr2 hzr2) hH [1, 2, 3, 4, 5, 6, 7] [0, 8, 9] [0, 3, 4, 5, 6, 7, 8, 9, 1, 2] rfl rfl rfl rfl gX8_count_X3_size rfl ⟨rfl, rfl⟩ kX3_size ⟨Nat.le_of_ble_eq_true rfl, Nat.le_of_ble_eq_true rfl⟩ rfl rfl rfl rfl rfl hl.1 (Nat.le_of_ble_eq_true rfl) ⟨Nat.le_of_ble_eq_true rfl, Nat.le_of_ble_eq_true rfl⟩ dX8_count_44 (fun H locs hH => ?_)
    obtain rfl := Option.some.inj h
    exact z_iret X hr hH dX8_count_47
  have h := zf zc1 h
  by_cases zc3 : x1 = 1
  · have h := zt zc3 h
    refine lv_tableIn (pc := 1) (off := 47) (tgt := 48) hx hb dX8_count_1 (by rw [zc3]; decide) (by rw [zc3]; decide) (by rw [zc3]; rfl) rfl ?_
    refine lv_aload_n (pc := 48) hx hb dX8_count_48 rfl (lv_at hl 0 rfl) ?_
    refine z_get (pc := 49) (v := .ref (hq 0)) X iX8_count_X8 hH 0 rfl rfl 0 rfl (List.mem_of_getElem? (i := 1) rfl) rfl dX8_count_49 ?_
    obtain ⟨zr4, hzr4, h⟩ := zb h
    refine zcV (pc := 52) (As := []) (rest := []) (st1 := [.int zr4]) (ws' := wS cy tq hq nq sq kq wq rq (.ref (pq 0)) t_draft ++ wH cy hq h_alive h_late h_hbr h_rbh h_waits h_pers h_size h_ranks h_lines ++ wP cy pq p_packed p_size) (wr := [((tq 0), .inr (7, [.ref (hq 0), .ref (nq 0), .ref (sq 0), .ref (kq 0), .ref (wq 0), .ref (rq 0), (.ref (pq 0)), t_draft])), ((pq 0), .inr (3, [.ref (pq 1), .int p_size])), ((pq 1), .inl (cy 0, 1200, .inl p_packed))]) (n := 0) (q0 := 0) X (c_X3_ranks l G cy fu hq h_alive h_late h_hbr h_rbh h_waits h_pers h_size h_ranks h_lines zr4 hzr4) hH [1, 2, 3, 4, 5, 6, 7] [0, 8, 9] [0, 3, 4, 5, 6, 7, 8, 9, 1, 2] rfl rfl rfl rfl gX8_count_X3_ranks rfl ⟨rfl, rfl⟩ kX3_ranks ⟨Nat.le_of_ble_eq_true rfl, Nat.le_of_ble_eq_true rfl⟩ rfl rfl rfl rfl rfl hl.1 (Nat.le_of_ble_eq_true rfl) ⟨Nat.le_of_ble_eq_true rfl, Nat.le_of_ble_eq_true rfl⟩ dX8_count_52 (fun H locs hH => ?_)
    obtain rfl := Option.some.inj h
    exact z_iret X hr hH dX8_count_55
  have h := zf zc3 h
  by_cases zc5 : x1 = 2
  · have h := zt zc5 h
    refine lv_tableIn (pc := 1) (off := 55) (tgt := 56) hx hb dX8_count_1 (by rw [zc5]; decide) (by rw [zc5]; decide) (by rw [zc5]; rfl) rfl ?_
    refine lv_aload_n (pc := 56) hx hb dX8_count_56 rfl (lv_at hl 0 rfl) ?_
    refine z_get (pc := 57) (v := .ref (hq 0)) X iX8_count_X8 hH 0 rfl rfl 0 rfl (List.mem_of_getElem? (i := 1) rfl) rfl dX8_count_57 ?_
    obtain ⟨zr6, hzr6, h⟩ := zb h
    refine zcV (pc := 60) (As := []) (rest := []) (st1 := [.int zr6]) (ws' := wS cy tq hq nq sq kq wq rq (.ref (pq 0)) t_draft ++ wH cy hq h_alive h_late h_hbr h_rbh h_waits h_pers h_size h_ranks h_lines ++ wP cy pq p_packed p_size) (wr := [((tq 0), .inr (7, [.ref (hq 0), .ref (nq 0), .ref (sq 0), .ref (kq 0), .ref (wq 0), .ref (rq 0), (.ref (pq 0)), t_draft])), ((pq 0), .inr (3, [.ref (pq 1), .int p_size])), ((pq 1), .inl (cy 0, 1200, .inl p_packed))]) (n := 0) (q0 := 0) X (c_X3_lines l G cy fu hq h_alive h_late h_hbr h_rbh h_waits h_pers h_size h_ranks h_lines zr6 hzr6) hH [1, 2, 3, 4, 5, 6, 7] [0, 8, 9] [0, 3, 4, 5, 6, 7, 8, 9, 1, 2] rfl rfl rfl rfl gX8_count_X3_lines rfl ⟨rfl, rfl⟩ kX3_lines ⟨Nat.le_of_ble_eq_true rfl, Nat.le_of_ble_eq_true rfl⟩ rfl rfl rfl rfl rfl hl.1 (Nat.le_of_ble_eq_true rfl) ⟨Nat.le_of_ble_eq_true rfl, Nat.le_of_ble_eq_true rfl⟩ dX8_count_60 (fun H locs hH => ?_)
    obtain rfl := Option.some.inj h
    exact z_iret X hr hH dX8_count_63
  have h := zf zc5 h
  by_cases zc7 : x1 = 3
  · have h := zt zc7 h
    refine lv_tableIn (pc := 1) (off := 63) (tgt := 64) hx hb dX8_count_1 (by rw [zc7]; decide) (by rw [zc7]; decide) (by rw [zc7]; rfl) rfl ?_
    refine lv_aload_n (pc := 64) hx hb dX8_count_64 rfl (lv_at hl 0 rfl) ?_
    refine z_get (pc := 65) (v := .ref (pq 0)) X iX8_count_X8 hH 0 rfl rfl 6 rfl (List.mem_of_getElem? (i := 2) rfl) rfl dX8_count_65 ?_
    obtain ⟨zr8, hzr8, h⟩ := zb h
    refine zcV (pc := 68) (As := []) (rest := []) (st1 := [.int zr8]) (ws' := wS cy tq hq nq sq kq wq rq (.ref (pq 0)) t_draft ++ wH cy hq h_alive h_late h_hbr h_rbh h_waits h_pers h_size h_ranks h_lines ++ wP cy pq p_packed p_size) (wr := [((tq 0), .inr (7, [.ref (hq 0), .ref (nq 0), .ref (sq 0), .ref (kq 0), .ref (wq 0), .ref (rq 0), (.ref (pq 0)), t_draft])), ((hq 0), .inr (2, [.ref (hq 1), .ref (hq 2), .ref (hq 3), .ref (hq 4), .ref (hq 5), .ref (hq 6), .int h_size, .int h_ranks, .int h_lines])), ((hq 1), .inl (cy 2, 16, .inl h_alive)), ((hq 2), .inl (cy 0, 16, .inl h_late)), ((hq 3), .inl (cy 0, 16, .inl h_hbr)), ((hq 4), .inl (cy 0, 16, .inl h_rbh)), ((hq 5), .inl (cy 0, 256, .inl h_waits)), ((hq 6), .inl (cy 0, 256, .inl h_pers))]) (n := 0) (q0 := 0) X (c_X4_size l G cy fu pq p_packed p_size zr8 hzr8) hH [8, 9] [0, 1, 2, 3, 4, 5, 6, 7] [0, 1, 2, 3, 4, 5, 6, 7, 8, 9] rfl rfl rfl rfl gX8_count_X4_size rfl ⟨rfl, rfl⟩ kX4_size ⟨Nat.le_of_ble_eq_true rfl, Nat.le_of_ble_eq_true rfl⟩ rfl rfl rfl rfl rfl hl.1 (Nat.le_of_ble_eq_true rfl) ⟨Nat.le_of_ble_eq_true rfl, Nat.le_of_ble_eq_true rfl⟩ dX8_count_68 (fun H locs hH => ?_)
    obtain rfl := Option.some.inj h
    exact z_iret X hr hH dX8_count_71
  have h := zf zc7 h
  by_cases zc9 : x1 = 4
  · have h := zt zc9 h
    refine lv_tableIn (pc := 1) (off := 71) (tgt := 72) hx hb dX8_count_1 (by rw [zc9]; decide) (by rw [zc9]; decide) (by rw [zc9]; rfl) rfl ?_
    refine lv_aload_n (pc := 72) hx hb dX8_count_72 rfl (lv_at hl 0 rfl) ?_
    refine z_get (pc := 73) (v := .ref (pq 0)) X iX8_count_X8 hH 0 rfl rfl 6 rfl (List.mem_of_getElem? (i := 2) rfl) rfl dX8_count_73 ?_
    obtain ⟨zr10, hzr10, h⟩ := zb h
    refine zcV (pc := 76) (As := []) (rest := []) (st1 := [.int zr10]) (ws' := wS cy tq hq nq sq kq wq rq (.ref (pq 0)) t_draft ++ wH cy hq h_alive h_late h_hbr h_rbh h_waits h_pers h_size h_ranks h_lines ++ wP cy pq p_packed p_size) (wr := [((tq 0), .inr (7, [.ref (hq 0), .ref (nq 0), .ref (sq 0), .ref (kq 0), .ref (wq 0), .ref (rq 0), (.ref (pq 0)), t_draft])), ((hq 0), .inr (2, [.ref (hq 1), .ref (hq 2), .ref (hq 3), .ref (hq 4), .ref (hq 5), .ref (hq 6), .int h_size, .int h_ranks, .int h_lines])), ((hq 1), .inl (cy 2, 16, .inl h_alive)), ((hq 2), .inl (cy 0, 16, .inl h_late)), ((hq 3), .inl (cy 0, 16, .inl h_hbr)), ((hq 4), .inl (cy 0, 16, .inl h_rbh)), ((hq 5), .inl (cy 0, 256, .inl h_waits)), ((hq 6), .inl (cy 0, 256, .inl h_pers))]) (n := 0) (q0 := 0) X (c_X4_steps l G cy fu pq p_packed p_size zr10 hzr10) hH [8, 9] [0, 1, 2, 3, 4, 5, 6, 7] [0, 1, 2, 3, 4, 5, 6, 7, 8, 9] rfl rfl rfl rfl gX8_count_X4_steps rfl ⟨rfl, rfl⟩ kX4_steps ⟨Nat.le_of_ble_eq_true rfl, Nat.le_of_ble_eq_true rfl⟩ rfl rfl rfl rfl rfl hl.1 (Nat.le_of_ble_eq_true rfl) ⟨Nat.le_of_ble_eq_true rfl, Nat.le_of_ble_eq_true rfl⟩ dX8_count_76 (fun H locs hH => ?_)
    obtain rfl := Option.some.inj h
    exact z_iret X hr hH dX8_count_79
  have h := zf zc9 h
  by_cases zc11 : x1 = 5
  · have h := zt zc11 h
    refine lv_tableIn (pc := 1) (off := 79) (tgt := 80) hx hb dX8_count_1 (by rw [zc11]; decide) (by rw [zc11]; decide) (by rw [zc11]; rfl) rfl ?_
    refine lv_aload_n (pc := 80) hx hb dX8_count_80 rfl (lv_at hl 0 rfl) ?_
    refine z_get (pc := 81) (v := .ref (pq 0)) X iX8_count_X8 hH 0 rfl rfl 6 rfl (List.mem_of_getElem? (i := 2) rfl) rfl dX8_count_81 ?_
    obtain ⟨zr12, hzr12, h⟩ := zb h
    refine zcV (pc := 84) (As := []) (rest := []) (st1 := [.int zr12]) (ws' := wS cy tq hq nq sq kq wq rq (.ref (pq 0)) t_draft ++ wH cy hq h_alive h_late h_hbr h_rbh h_waits h_pers h_size h_ranks h_lines ++ wP cy pq p_packed p_size) (wr := [((tq 0), .inr (7, [.ref (hq 0), .ref (nq 0), .ref (sq 0), .ref (kq 0), .ref (wq 0), .ref (rq 0), (.ref (pq 0)), t_draft])), ((hq 0), .inr (2, [.ref (hq 1), .ref (hq 2), .ref (hq 3), .ref (hq 4), .ref (hq 5), .ref (hq 6), .int h_size, .int h_ranks, .int h_lines])), ((hq 1), .inl (cy 2, 16, .inl h_alive)), ((hq 2), .inl (cy 0, 16, .inl h_late)), ((hq 3), .inl (cy 0, 16, .inl h_hbr)), ((hq 4), .inl (cy 0, 16, .inl h_rbh)), ((hq 5), .inl (cy 0, 256, .inl h_waits)), ((hq 6), .inl (cy 0, 256, .inl h_pers))]) (n := 0) (q0 := 0) X (c_X4_letters l G cy fu pq p_packed p_size zr12 hzr12) hH [8, 9] [0, 1, 2, 3, 4, 5, 6, 7] [0, 1, 2, 3, 4, 5, 6, 7, 8, 9] rfl rfl rfl rfl gX8_count_X4_letters rfl ⟨rfl, rfl⟩ kX4_letters ⟨Nat.le_of_ble_eq_true rfl, Nat.le_of_ble_eq_true rfl⟩ rfl rfl rfl rfl rfl hl.1 (Nat.le_of_ble_eq_true rfl) ⟨Nat.le_of_ble_eq_true rfl, Nat.le_of_ble_eq_true rfl⟩ dX8_count_84 (fun H locs hH => ?_)
    obtain rfl := Option.some.inj h
    exact z_iret X hr hH dX8_count_87
  have h := zf zc11 h
  refine lv_tableOut (pc := 1) (tgt := 88) hx hb dX8_count_1 (by have n0 := lv_neT zc1 (show (0 : Int32).toInt = 0 by decide); have n1 := lv_neT zc3 (show (1 : Int32).toInt = 1 by decide); have n2 := lv_neT zc5 (show (2 : Int32).toInt = 2 by decide); have n3 := lv_neT zc7 (show (3 : Int32).toInt = 3 by decide); have n4 := lv_neT zc9 (show (4 : Int32).toInt = 4 by decide); have n5 := lv_neT zc11 (show (5 : Int32).toInt = 5 by decide); omega) rfl ?_
  refine lv_iconst (v := (-1)) (pc := 88) hx hb dX8_count_88 zk_cm1 ?_
  obtain rfl := Option.some.inj h
  exact z_iret X hr hH dX8_count_89
set_option maxHeartbeats 4000000 in
set_option maxRecDepth 100000 in
theorem c_X8_build (l : Launch) (G : va_G) (cy : Nat → ClassId) (fu : Nat) (tq : Nat → Nat) (hq : Nat → Nat) (nq : Nat → Nat) (sq : Nat → Nat) (kq : Nat → Nat) (wq : Nat → Nat) (rq : Nat → Nat) (dq : Nat → Nat) (pq : Nat → Nat) (h_alive : Nat → Int32) (h_late : Nat → Int32) (h_hbr : Nat → Int32) (h_rbh : Nat → Int32) (h_waits : Nat → Int32) (h_pers : Nat → Int32) (h_size : Int32) (h_ranks : Int32) (h_lines : Int32) (p_packed : Nat → Int32) (p_size : Int32) (d_packed : Nat → Int32) (d_size : Int32) (w_drawn : Value) (w_house : Value) (w_m : Int32) (w_root : Int32) (w_step : Int32) (w_lacks : Int32) (x1 : Int32) (x2 : Int32) (x3 : Int32) (rr : Int32 × (Nat → Int32) × Int32 × Value × Value × Int32 × Int32 × Int32 × Int32 × Value × Value) (h : f_X8_build fu hq dq pq h_alive h_hbr h_rbh h_waits h_size h_ranks d_packed d_size w_drawn w_house w_m w_root w_step w_lacks x1 x2 x3 = some rr) : zM l G cy yX8_build wsX8_build (zR 6 150) [.ref (tq 0), .int x1, .int x2, .int x3] (wS cy tq hq nq sq kq wq rq (.ref (pq 0)) (.ref (dq 0)) ++ wW cy wq w_drawn w_house w_m w_root w_step w_lacks ++ wP cy dq d_packed d_size ++ wH cy hq h_alive h_late h_hbr h_rbh h_waits h_pers h_size h_ranks h_lines ++ wP cy pq p_packed p_size) (wS cy tq hq nq sq kq wq rq rr.2.2.2.2.2.2.2.2.2.1 rr.2.2.2.2.2.2.2.2.2.2 ++ wW cy wq rr.2.2.2.1 rr.2.2.2.2.1 rr.2.2.2.2.2.1 rr.2.2.2.2.2.2.1 rr.2.2.2.2.2.2.2.1 rr.2.2.2.2.2.2.2.2.1 ++ wP cy dq rr.2.1 rr.2.2.1 ++ wH cy hq h_alive h_late h_hbr h_rbh h_waits h_pers h_size h_ranks h_lines ++ wP cy pq p_packed p_size) (some (.int rr.1)) := by
  refine zM.mk (cc := cX8_build) (nL := 6) (ret := (some .int)) (by decide) rfl (Nat.le_of_ble_eq_true rfl) ?_
  intro p e s m below meth c A ls X hr hH hl
  replace X : zX p s m [.ref (tq 0), .int x1, .int x2, .int x3].toArray meth c RX8 cX8_build 6 wsX8_build G cy A := X
  have hx := X.1.1
  have hb := X.1.2.1
  replace hl : lv_has ls 6 [(0, .ref (tq 0)), (1, .int x1), (2, .int x2), (3, .int x3)] := hl
  dsimp only [f_X8_build] at h
  refine lv_aload_n (pc := 0) hx hb dX8_build_0 rfl (lv_at hl 0 rfl) ?_
  refine z_get (pc := 1) (v := .ref (wq 0)) X iX8_build_X8 hH 0 rfl rfl 4 rfl (List.mem_of_getElem? (i := 1) rfl) rfl dX8_build_1 ?_
  refine lv_aload_n (pc := 4) hx hb dX8_build_4 rfl (lv_at hl 0 rfl) ?_
  refine z_get (pc := 5) (v := .ref (dq 0)) X iX8_build_X8 hH 0 rfl rfl 7 rfl (List.mem_of_getElem? (i := 2) rfl) rfl dX8_build_5 ?_
  refine lv_aload_n (pc := 8) hx hb dX8_build_8 rfl (lv_at hl 0 rfl) ?_
  refine z_get (pc := 9) (v := .ref (hq 0)) X iX8_build_X8 hH 0 rfl rfl 0 rfl (List.mem_of_getElem? (i := 3) rfl) rfl dX8_build_9 ?_
  refine lv_iload_n (pc := 12) hx hb dX8_build_12 rfl (lv_at hl 1 rfl) ?_
  refine lv_iload_n (pc := 13) hx hb dX8_build_13 rfl (lv_at hl 2 rfl) ?_
  refine lv_iload_n (pc := 14) hx hb dX8_build_14 rfl (lv_at hl 3 rfl) ?_
  obtain ⟨zr1, hzr1, h⟩ := zb h
  refine zcV (pc := 15) (As := [.ref (dq 0), .ref (hq 0), .int x1, .int x2, .int x3]) (rest := []) (st1 := [.int zr1.1]) (ws' := wS cy tq hq nq sq kq wq rq (.ref (pq 0)) (.ref (dq 0)) ++ wW cy wq zr1.2.2.2.1 zr1.2.2.2.2.1 zr1.2.2.2.2.2.1 zr1.2.2.2.2.2.2.1 zr1.2.2.2.2.2.2.2.1 zr1.2.2.2.2.2.2.2.2 ++ wP cy dq zr1.2.1 zr1.2.2.1 ++ wH cy hq h_alive h_late h_hbr h_rbh h_waits h_pers h_size h_ranks h_lines ++ wP cy pq p_packed p_size) (wr := [((tq 0), .inr (7, [.ref (hq 0), .ref (nq 0), .ref (sq 0), .ref (kq 0), .ref (wq 0), .ref (rq 0), (.ref (pq 0)), (.ref (dq 0))])), ((pq 0), .inr (3, [.ref (pq 1), .int p_size])), ((pq 1), .inl (cy 0, 1200, .inl p_packed))]) (n := 5) (q0 := 0) X (c_X7_draw l G cy fu wq dq hq h_alive h_late h_hbr h_rbh h_waits h_pers h_size h_ranks h_lines d_packed d_size w_drawn w_house w_m w_root w_step w_lacks x1 x2 x3 zr1 hzr1) hH [1, 2, 3, 4, 5, 6, 7, 8, 9, 10] [0, 11, 12] [0, 3, 4, 5, 6, 7, 8, 9, 10, 11, 12, 1, 2] rfl rfl rfl rfl gX8_build_X7_draw rfl ⟨rfl, rfl⟩ kX7_draw ⟨Nat.le_of_ble_eq_true rfl, Nat.le_of_ble_eq_true rfl⟩ rfl rfl rfl rfl rfl hl.1 (Nat.le_of_ble_eq_true rfl) ⟨Nat.le_of_ble_eq_true rfl, Nat.le_of_ble_eq_true rfl⟩ dX8_build_15 (fun H locs hH => ?_)
  refine lv_istore (pc := 18) (lv' := [(4, .int zr1.1), (0, .ref (tq 0)), (1, .int x1), (2, .int x2), (3, .int x3)]) hx hb dX8_build_18 hl (by decide) rfl (fun ls hl => ?_)
  refine lv_iload (pc := 20) hx hb dX8_build_20 (lv_at hl 0 rfl) ?_
  refine lv_if_lt (pc := 22) (tgt := 45) hx hb dX8_build_22 rfl (fun zc2 => ?_) (fun zc2 => ?_)
  · have h := zt zc2 h
    refine lv_iload (pc := 45) hx hb dX8_build_45 (lv_at hl 0 rfl) ?_
    obtain rfl := Option.some.inj h
    exact z_iret X hr hH dX8_build_47
  have h := zf zc2 h
  refine lv_aload_n (pc := 25) hx hb dX8_build_25 rfl (lv_at hl 1 rfl) ?_
  refine z_get (pc := 26) (v := .ref (pq 0)) X iX8_build_X8 hH 0 rfl rfl 6 rfl (List.mem_of_getElem? (i := 4) rfl) rfl dX8_build_26 ?_
  refine lv_astore (pc := 29) (lv' := [(5, .ref (pq 0)), (4, .int zr1.1), (0, .ref (tq 0)), (1, .int x1), (2, .int x2), (3, .int x3)]) hx hb dX8_build_29 hl (by decide) rfl (fun ls hl => ?_)
  refine lv_aload_n (pc := 31) hx hb dX8_build_31 rfl (lv_at hl 2 rfl) ?_
  refine lv_aload_n (pc := 32) hx hb dX8_build_32 rfl (lv_at hl 2 rfl) ?_
  refine z_get (pc := 33) (v := .ref (dq 0)) X iX8_build_X8 hH 0 rfl rfl 7 rfl (List.mem_of_getElem? (i := 2) rfl) rfl dX8_build_33 ?_
  refine z_put (pc := 36) (v := .ref (dq 0)) (ws' := wS cy tq hq nq sq kq wq rq (.ref (dq 0)) (.ref (dq 0)) ++ wW cy wq zr1.2.2.2.1 zr1.2.2.2.2.1 zr1.2.2.2.2.2.1 zr1.2.2.2.2.2.2.1 zr1.2.2.2.2.2.2.2.1 zr1.2.2.2.2.2.2.2.2 ++ wP cy dq zr1.2.1 zr1.2.2.1 ++ wH cy hq h_alive h_late h_hbr h_rbh h_waits h_pers h_size h_ranks h_lines ++ wP cy pq p_packed p_size) X iX8_build_X8 tyX8 tyX8_ok nmX8 hH 0 rfl rfl 6 rfl (List.mem_of_getElem? (i := 4) rfl) rfl rfl rfl rfl rfl dX8_build_36 (fun H locs hH => ?_)
  refine lv_aload_n (pc := 39) hx hb dX8_build_39 rfl (lv_at hl 2 rfl) ?_
  refine lv_aload (pc := 40) hx hb dX8_build_40 (lv_at hl 0 rfl) ?_
  refine z_put (pc := 42) (v := .ref (pq 0)) (ws' := wS cy tq hq nq sq kq wq rq (.ref (dq 0)) (.ref (pq 0)) ++ wW cy wq zr1.2.2.2.1 zr1.2.2.2.2.1 zr1.2.2.2.2.2.1 zr1.2.2.2.2.2.2.1 zr1.2.2.2.2.2.2.2.1 zr1.2.2.2.2.2.2.2.2 ++ wP cy dq zr1.2.1 zr1.2.2.1 ++ wH cy hq h_alive h_late h_hbr h_rbh h_waits h_pers h_size h_ranks h_lines ++ wP cy pq p_packed p_size) X iX8_build_X8 tyX8 tyX8_ok nmX8 hH 0 rfl rfl 7 rfl (List.mem_of_getElem? (i := 2) rfl) rfl rfl rfl rfl rfl dX8_build_42 (fun H locs hH => ?_)
  refine lv_iload (pc := 45) hx hb dX8_build_45 (lv_at hl 1 rfl) ?_
  obtain rfl := Option.some.inj h
  exact z_iret X hr hH dX8_build_47
set_option maxHeartbeats 4000000 in
set_option maxRecDepth 100000 in
theorem c_X8_clear (l : Launch) (G : va_G) (cy : Nat → ClassId) (fu : Nat) (tq : Nat → Nat) (hq : Nat → Nat) (nq : Nat → Nat) (sq : Nat → Nat) (kq : Nat → Nat) (wq : Nat → Nat) (rq : Nat → Nat) (pq : Nat → Nat) (p_packed : Nat → Int32) (p_size : Int32) (t_draft : Value)  (rr : Int32 × Int32) (h : f_X8_clear fu p_size = some rr) : zM l G cy yX8_clear wsX8_clear (zR 1 20) [.ref (tq 0)] (wS cy tq hq nq sq kq wq rq (.ref (pq 0)) t_draft ++ wP cy pq p_packed p_size) (wS cy tq hq nq sq kq wq rq (.ref (pq 0)) t_draft ++ wP cy pq p_packed rr.2) (some (.int rr.1)) := by
  refine zM.mk (cc := cX8_clear) (nL := 2) (ret := (some .int)) (by decide) rfl (Nat.le_of_ble_eq_true rfl) ?_
  intro p e s m below meth c A ls X hr hH hl
  replace X : zX p s m [.ref (tq 0)].toArray meth c RX8 cX8_clear 2 wsX8_clear G cy A := X
  have hx := X.1.1
  have hb := X.1.2.1
  replace hl : lv_has ls 2 [(0, .ref (tq 0))] := hl
  dsimp only [f_X8_clear] at h
  refine lv_aload_n (pc := 0) hx hb dX8_clear_0 rfl (lv_at hl 0 rfl) ?_
  refine z_get (pc := 1) (v := .ref (pq 0)) X iX8_clear_X8 hH 0 rfl rfl 6 rfl (List.mem_of_getElem? (i := 1) rfl) rfl dX8_clear_1 ?_
  obtain ⟨zr1, hzr1, h⟩ := zb h
  refine zcV (pc := 4) (As := []) (rest := []) (st1 := [.int zr1]) (ws' := wS cy tq hq nq sq kq wq rq (.ref (pq 0)) t_draft ++ wP cy pq p_packed p_size) (wr := [((tq 0), .inr (7, [.ref (hq 0), .ref (nq 0), .ref (sq 0), .ref (kq 0), .ref (wq 0), .ref (rq 0), (.ref (pq 0)), t_draft]))]) (n := 0) (q0 := 0) X (c_X4_size l G cy fu pq p_packed p_size zr1 hzr1) hH [1, 2] [0] [0, 1, 2] rfl rfl rfl rfl gX8_clear_X4_size rfl ⟨rfl, rfl⟩ kX4_size ⟨Nat.le_of_ble_eq_true rfl, Nat.le_of_ble_eq_true rfl⟩ rfl rfl rfl rfl rfl hl.1 (Nat.le_of_ble_eq_true rfl) ⟨Nat.le_of_ble_eq_true rfl, Nat.le_of_ble_eq_true rfl⟩ dX8_clear_4 (fun H locs hH => ?_)
  refine lv_istore_n (pc := 7) (lv' := [(1, .int zr1), (0, .ref (tq 0))]) hx hb dX8_clear_7 rfl hl (by decide) rfl (fun ls hl => ?_)
  refine lv_aload_n (pc := 8) hx hb dX8_clear_8 rfl (lv_at hl 1 rfl) ?_
  refine z_get (pc := 9) (v := .ref (pq 0)) X iX8_clear_X8 hH 0 rfl rfl 6 rfl (List.mem_of_getElem? (i := 1) rfl) rfl dX8_clear_9 ?_
  obtain ⟨zr2, hzr2, h⟩ := zb h
  refine zcV (pc := 12) (As := []) (rest := []) (st1 := []) (ws' := wS cy tq hq nq sq kq wq rq (.ref (pq 0)) t_draft ++ wP cy pq p_packed zr2) (wr := [((tq 0), .inr (7, [.ref (hq 0), .ref (nq 0), .ref (sq 0), .ref (kq 0), .ref (wq 0), .ref (rq 0), (.ref (pq 0)), t_draft]))]) (n := 0) (q0 := 0) X (c_X4_empty l G cy fu pq p_packed p_size zr2 hzr2) hH [1, 2] [0] [0, 1, 2] rfl rfl rfl rfl gX8_clear_X4_empty rfl ⟨rfl, rfl⟩ kX4_empty ⟨Nat.le_of_ble_eq_true rfl, Nat.le_of_ble_eq_true rfl⟩ rfl rfl rfl rfl rfl hl.1 (Nat.le_of_ble_eq_true rfl) ⟨Nat.le_of_ble_eq_true rfl, Nat.le_of_ble_eq_true rfl⟩ dX8_clear_12 (fun H locs hH => ?_)
  refine lv_iload_n (pc := 15) hx hb dX8_clear_15 rfl (lv_at hl 0 rfl) ?_
  obtain rfl := Option.some.inj h
  exact z_iret X hr hH dX8_clear_16
set_option maxHeartbeats 4000000 in
set_option maxRecDepth 100000 in
theorem c_X8_send (l : Launch) (G : va_G) (cy : Nat → ClassId) (fu : Nat) (tq : Nat → Nat) (hq : Nat → Nat) (nq : Nat → Nat) (sq : Nat → Nat) (kq : Nat → Nat) (wq : Nat → Nat) (rq : Nat → Nat) (pq : Nat → Nat) (h_alive : Nat → Int32) (h_late : Nat → Int32) (h_hbr : Nat → Int32) (h_rbh : Nat → Int32) (h_waits : Nat → Int32) (h_pers : Nat → Int32) (h_size : Int32) (h_ranks : Int32) (h_lines : Int32) (p_packed : Nat → Int32) (p_size : Int32) (t_draft : Value) (x1 : Int32) (x2 : Int32) (x3 : Int32) (x4 : Int32) (x5 : Int32) (x6 : Int32) (rr : Int32 × (Nat → Int32) × Int32) (h : f_X8_send fu h_alive h_waits h_size p_packed p_size x1 x2 x3 x4 x5 x6 = some rr) : zM l G cy yX8_send wsX8_send (zR 3 69) [.ref (tq 0), .int x1, .int x2, .int x3, .int x4, .int x5, .int x6] (wS cy tq hq nq sq kq wq rq (.ref (pq 0)) t_draft ++ wH cy hq h_alive h_late h_hbr h_rbh h_waits h_pers h_size h_ranks h_lines ++ wP cy pq p_packed p_size) (wS cy tq hq nq sq kq wq rq (.ref (pq 0)) t_draft ++ wH cy hq h_alive h_late h_hbr h_rbh h_waits h_pers h_size h_ranks h_lines ++ wP cy pq rr.2.1 rr.2.2) (some (.int rr.1)) := by
  refine zM.mk (cc := cX8_send) (nL := 7) (ret := (some .int)) (by decide) rfl (Nat.le_of_ble_eq_true rfl) ?_
  intro p e s m below meth c A ls X hr hH hl
  replace X : zX p s m [.ref (tq 0), .int x1, .int x2, .int x3, .int x4, .int x5, .int x6].toArray meth c RX8 cX8_send 7 wsX8_send G cy A := X
  have hx := X.1.1
  have hb := X.1.2.1
  replace hl : lv_has ls 7 [(0, .ref (tq 0)), (1, .int x1), (2, .int x2), (3, .int x3), (4, .int x4), (5, .int x5), (6, .int x6)] := hl
  dsimp only [f_X8_send] at h
  refine lv_iload_n (pc := 0) hx hb dX8_send_0 rfl (lv_at hl 1 rfl) ?_
  refine lv_if_lt (pc := 1) (tgt := 26) hx hb dX8_send_1 rfl (fun zc1 => ?_) (fun zc1 => ?_)
  · have h := zt zc1 h
    refine lv_iconst (v := (-1)) (pc := 26) hx hb dX8_send_26 zk_cm1 ?_
    obtain rfl := Option.some.inj h
    exact z_iret X hr hH dX8_send_27
  have h := zf zc1 h
  refine lv_iload_n (pc := 4) hx hb dX8_send_4 rfl (lv_at hl 1 rfl) ?_
  refine lv_bipush (v := 64) (pc := 5) hx hb dX8_send_5 zk_b64 ?_
  refine lv_icmp_ge (pc := 7) (tgt := 26) hx hb dX8_send_7 rfl (fun zc2 => ?_) (fun zc2 => ?_)
  · have h := zt zc2 h
    refine lv_iconst (v := (-1)) (pc := 26) hx hb dX8_send_26 zk_cm1 ?_
    obtain rfl := Option.some.inj h
    exact z_iret X hr hH dX8_send_27
  have h := zf zc2 h
  refine lv_iload (pc := 10) hx hb dX8_send_10 (lv_at hl 4 rfl) ?_
  obtain ⟨zr3, hzr3, h⟩ := zb h
  refine zcS (pc := 12) (As := [.int x4]) (rest := []) (st1 := [.int zr3]) (ws' := wS cy tq hq nq sq kq wq rq (.ref (pq 0)) t_draft ++ wH cy hq h_alive h_late h_hbr h_rbh h_waits h_pers h_size h_ranks h_lines ++ wP cy pq p_packed p_size) (wr := [((tq 0), .inr (7, [.ref (hq 0), .ref (nq 0), .ref (sq 0), .ref (kq 0), .ref (wq 0), .ref (rq 0), (.ref (pq 0)), t_draft])), ((hq 0), .inr (2, [.ref (hq 1), .ref (hq 2), .ref (hq 3), .ref (hq 4), .ref (hq 5), .ref (hq 6), .int h_size, .int h_ranks, .int h_lines])), ((hq 1), .inl (cy 2, 16, .inl h_alive)), ((hq 2), .inl (cy 0, 16, .inl h_late)), ((hq 3), .inl (cy 0, 16, .inl h_hbr)), ((hq 4), .inl (cy 0, 16, .inl h_rbh)), ((hq 5), .inl (cy 0, 256, .inl h_waits)), ((hq 6), .inl (cy 0, 256, .inl h_pers)), ((pq 0), .inr (3, [.ref (pq 1), .int p_size])), ((pq 1), .inl (cy 0, 1200, .inl p_packed))]) (n := 1) X (c_X8_isBlock l G cy fu x4 zr3 hzr3) hH [] [0, 1, 2, 3, 4, 5, 6, 7, 8, 9] [0, 1, 2, 3, 4, 5, 6, 7, 8, 9] rfl rfl rfl rfl gX8_send_X8_isBlock rfl ⟨rfl, rfl⟩ kX8_isBlock ⟨Nat.le_of_ble_eq_true rfl, Nat.le_of_ble_eq_true rfl⟩ rfl rfl rfl hl.1 (Nat.le_of_ble_eq_true rfl) ⟨Nat.le_of_ble_eq_true rfl, Nat.le_of_ble_eq_true rfl⟩ dX8_send_12 (fun H locs hH => ?_)
  refine lv_if_eq (pc := 15) (tgt := 26) hx hb dX8_send_15 rfl (fun zc4 => ?_) (fun zc4 => ?_)
  · have h := zt zc4 h
    refine lv_iconst (v := (-1)) (pc := 26) hx hb dX8_send_26 zk_cm1 ?_
    obtain rfl := Option.some.inj h
    exact z_iret X hr hH dX8_send_27
  have h := zf zc4 h
  refine lv_iload (pc := 18) hx hb dX8_send_18 (lv_at hl 5 rfl) ?_
  obtain ⟨zr5, hzr5, h⟩ := zb h
  refine zcS (pc := 20) (As := [.int x5]) (rest := []) (st1 := [.int zr5]) (ws' := wS cy tq hq nq sq kq wq rq (.ref (pq 0)) t_draft ++ wH cy hq h_alive h_late h_hbr h_rbh h_waits h_pers h_size h_ranks h_lines ++ wP cy pq p_packed p_size) (wr := [((tq 0), .inr (7, [.ref (hq 0), .ref (nq 0), .ref (sq 0), .ref (kq 0), .ref (wq 0), .ref (rq 0), (.ref (pq 0)), t_draft])), ((hq 0), .inr (2, [.ref (hq 1), .ref (hq 2), .ref (hq 3), .ref (hq 4), .ref (hq 5), .ref (hq 6), .int h_size, .int h_ranks, .int h_lines])), ((hq 1), .inl (cy 2, 16, .inl h_alive)), ((hq 2), .inl (cy 0, 16, .inl h_late)), ((hq 3), .inl (cy 0, 16, .inl h_hbr)), ((hq 4), .inl (cy 0, 16, .inl h_rbh)), ((hq 5), .inl (cy 0, 256, .inl h_waits)), ((hq 6), .inl (cy 0, 256, .inl h_pers)), ((pq 0), .inr (3, [.ref (pq 1), .int p_size])), ((pq 1), .inl (cy 0, 1200, .inl p_packed))]) (n := 1) X (c_X8_isBlock l G cy fu x5 zr5 hzr5) hH [] [0, 1, 2, 3, 4, 5, 6, 7, 8, 9] [0, 1, 2, 3, 4, 5, 6, 7, 8, 9] rfl rfl rfl rfl gX8_send_X8_isBlock rfl ⟨rfl, rfl⟩ kX8_isBlock ⟨Nat.le_of_ble_eq_true rfl, Nat.le_of_ble_eq_true rfl⟩ rfl rfl rfl hl.1 (Nat.le_of_ble_eq_true rfl) ⟨Nat.le_of_ble_eq_true rfl, Nat.le_of_ble_eq_true rfl⟩ dX8_send_20 (fun H locs hH => ?_)
  refine lv_if_ne (pc := 23) (tgt := 28) hx hb dX8_send_23 rfl (fun zc6 => ?_) (fun zc6 => ?_)
  · have h := zf zc6 h
    refine lv_aload_n (pc := 28) hx hb dX8_send_28 rfl (lv_at hl 0 rfl) ?_
    refine z_get (pc := 29) (v := .ref (hq 0)) X iX8_send_X8 hH 0 rfl rfl 0 rfl (List.mem_of_getElem? (i := 1) rfl) rfl dX8_send_29 ?_
    refine lv_iload_n (pc := 32) hx hb dX8_send_32 rfl (lv_at hl 2 rfl) ?_
    obtain ⟨zr7, hzr7, h⟩ := zb h
    refine zcV (pc := 33) (As := [.int x2]) (rest := []) (st1 := [.int zr7]) (ws' := wS cy tq hq nq sq kq wq rq (.ref (pq 0)) t_draft ++ wH cy hq h_alive h_late h_hbr h_rbh h_waits h_pers h_size h_ranks h_lines ++ wP cy pq p_packed p_size) (wr := [((tq 0), .inr (7, [.ref (hq 0), .ref (nq 0), .ref (sq 0), .ref (kq 0), .ref (wq 0), .ref (rq 0), (.ref (pq 0)), t_draft])), ((pq 0), .inr (3, [.ref (pq 1), .int p_size])), ((pq 1), .inl (cy 0, 1200, .inl p_packed))]) (n := 1) (q0 := 0) X (c_X3_isLive l G cy fu hq h_alive h_late h_hbr h_rbh h_waits h_pers h_size h_ranks h_lines x2 zr7 hzr7) hH [1, 2, 3, 4, 5, 6, 7] [0, 8, 9] [0, 3, 4, 5, 6, 7, 8, 9, 1, 2] rfl rfl rfl rfl gX8_send_X3_isLive rfl ⟨rfl, rfl⟩ kX3_isLive ⟨Nat.le_of_ble_eq_true rfl, Nat.le_of_ble_eq_true rfl⟩ rfl rfl rfl rfl rfl hl.1 (Nat.le_of_ble_eq_true rfl) ⟨Nat.le_of_ble_eq_true rfl, Nat.le_of_ble_eq_true rfl⟩ dX8_send_33 (fun H locs hH => ?_)
    refine lv_if_eq (pc := 36) (tgt := 62) hx hb dX8_send_36 rfl (fun zc8 => ?_) (fun zc8 => ?_)
    · have h := zt zc8 h
      refine lv_iconst (v := (-1)) (pc := 62) hx hb dX8_send_62 zk_cm1 ?_
      obtain rfl := Option.some.inj h
      exact z_iret X hr hH dX8_send_63
    have h := zf zc8 h
    refine lv_aload_n (pc := 39) hx hb dX8_send_39 rfl (lv_at hl 0 rfl) ?_
    refine z_get (pc := 40) (v := .ref (hq 0)) X iX8_send_X8 hH 0 rfl rfl 0 rfl (List.mem_of_getElem? (i := 1) rfl) rfl dX8_send_40 ?_
    refine lv_iload_n (pc := 43) hx hb dX8_send_43 rfl (lv_at hl 3 rfl) ?_
    obtain ⟨zr9, hzr9, h⟩ := zb h
    refine zcV (pc := 44) (As := [.int x3]) (rest := []) (st1 := [.int zr9]) (ws' := wS cy tq hq nq sq kq wq rq (.ref (pq 0)) t_draft ++ wH cy hq h_alive h_late h_hbr h_rbh h_waits h_pers h_size h_ranks h_lines ++ wP cy pq p_packed p_size) (wr := [((tq 0), .inr (7, [.ref (hq 0), .ref (nq 0), .ref (sq 0), .ref (kq 0), .ref (wq 0), .ref (rq 0), (.ref (pq 0)), t_draft])), ((pq 0), .inr (3, [.ref (pq 1), .int p_size])), ((pq 1), .inl (cy 0, 1200, .inl p_packed))]) (n := 1) (q0 := 0) X (c_X3_isLive l G cy fu hq h_alive h_late h_hbr h_rbh h_waits h_pers h_size h_ranks h_lines x3 zr9 hzr9) hH [1, 2, 3, 4, 5, 6, 7] [0, 8, 9] [0, 3, 4, 5, 6, 7, 8, 9, 1, 2] rfl rfl rfl rfl gX8_send_X3_isLive rfl ⟨rfl, rfl⟩ kX3_isLive ⟨Nat.le_of_ble_eq_true rfl, Nat.le_of_ble_eq_true rfl⟩ rfl rfl rfl rfl rfl hl.1 (Nat.le_of_ble_eq_true rfl) ⟨Nat.le_of_ble_eq_true rfl, Nat.le_of_ble_eq_true rfl⟩ dX8_send_44 (fun H locs hH => ?_)
    refine lv_if_eq (pc := 47) (tgt := 62) hx hb dX8_send_47 rfl (fun zc10 => ?_) (fun zc10 => ?_)
    · have h := zt zc10 h
      refine lv_iconst (v := (-1)) (pc := 62) hx hb dX8_send_62 zk_cm1 ?_
      obtain rfl := Option.some.inj h
      exact z_iret X hr hH dX8_send_63
    have h := zf zc10 h
    refine lv_aload_n (pc := 50) hx hb dX8_send_50 rfl (lv_at hl 0 rfl) ?_
    refine z_get (pc := 51) (v := .ref (hq 0)) X iX8_send_X8 hH 0 rfl rfl 0 rfl (List.mem_of_getElem? (i := 1) rfl) rfl dX8_send_51 ?_
    refine lv_iload_n (pc := 54) hx hb dX8_send_54 rfl (lv_at hl 2 rfl) ?_
    refine lv_iload_n (pc := 55) hx hb dX8_send_55 rfl (lv_at hl 3 rfl) ?_
    obtain ⟨zr11, hzr11, h⟩ := zb h
    refine zcV (pc := 56) (As := [.int x2, .int x3]) (rest := []) (st1 := [.int zr11]) (ws' := wS cy tq hq nq sq kq wq rq (.ref (pq 0)) t_draft ++ wH cy hq h_alive h_late h_hbr h_rbh h_waits h_pers h_size h_ranks h_lines ++ wP cy pq p_packed p_size) (wr := [((tq 0), .inr (7, [.ref (hq 0), .ref (nq 0), .ref (sq 0), .ref (kq 0), .ref (wq 0), .ref (rq 0), (.ref (pq 0)), t_draft])), ((pq 0), .inr (3, [.ref (pq 1), .int p_size])), ((pq 1), .inl (cy 0, 1200, .inl p_packed))]) (n := 2) (q0 := 0) X (c_X3_hasLine l G cy fu hq h_alive h_late h_hbr h_rbh h_waits h_pers h_size h_ranks h_lines x2 x3 zr11 hzr11) hH [1, 2, 3, 4, 5, 6, 7] [0, 8, 9] [0, 3, 4, 5, 6, 7, 8, 9, 1, 2] rfl rfl rfl rfl gX8_send_X3_hasLine rfl ⟨rfl, rfl⟩ kX3_hasLine ⟨Nat.le_of_ble_eq_true rfl, Nat.le_of_ble_eq_true rfl⟩ rfl rfl rfl rfl rfl hl.1 (Nat.le_of_ble_eq_true rfl) ⟨Nat.le_of_ble_eq_true rfl, Nat.le_of_ble_eq_true rfl⟩ dX8_send_56 (fun H locs hH => ?_)
    refine lv_if_ne (pc := 59) (tgt := 64) hx hb dX8_send_59 rfl (fun zc12 => ?_) (fun zc12 => ?_)
    · have h := zf zc12 h
      refine lv_aload_n (pc := 64) hx hb dX8_send_64 rfl (lv_at hl 0 rfl) ?_
      refine z_get (pc := 65) (v := .ref (pq 0)) X iX8_send_X8 hH 0 rfl rfl 6 rfl (List.mem_of_getElem? (i := 2) rfl) rfl dX8_send_65 ?_
      obtain ⟨zr13, hzr13, h⟩ := zb h
      refine zcV (pc := 68) (As := []) (rest := []) (st1 := [.int zr13]) (ws' := wS cy tq hq nq sq kq wq rq (.ref (pq 0)) t_draft ++ wH cy hq h_alive h_late h_hbr h_rbh h_waits h_pers h_size h_ranks h_lines ++ wP cy pq p_packed p_size) (wr := [((tq 0), .inr (7, [.ref (hq 0), .ref (nq 0), .ref (sq 0), .ref (kq 0), .ref (wq 0), .ref (rq 0), (.ref (pq 0)), t_draft])), ((hq 0), .inr (2, [.ref (hq 1), .ref (hq 2), .ref (hq 3), .ref (hq 4), .ref (hq 5), .ref (hq 6), .int h_size, .int h_ranks, .int h_lines])), ((hq 1), .inl (cy 2, 16, .inl h_alive)), ((hq 2), .inl (cy 0, 16, .inl h_late)), ((hq 3), .inl (cy 0, 16, .inl h_hbr)), ((hq 4), .inl (cy 0, 16, .inl h_rbh)), ((hq 5), .inl (cy 0, 256, .inl h_waits)), ((hq 6), .inl (cy 0, 256, .inl h_pers))]) (n := 0) (q0 := 0) X (c_X4_isFull l G cy fu pq p_packed p_size zr13 hzr13) hH [8, 9] [0, 1, 2, 3, 4, 5, 6, 7] [0, 1, 2, 3, 4, 5, 6, 7, 8, 9] rfl rfl rfl rfl gX8_send_X4_isFull rfl ⟨rfl, rfl⟩ kX4_isFull ⟨Nat.le_of_ble_eq_true rfl, Nat.le_of_ble_eq_true rfl⟩ rfl rfl rfl rfl rfl hl.1 (Nat.le_of_ble_eq_true rfl) ⟨Nat.le_of_ble_eq_true rfl, Nat.le_of_ble_eq_true rfl⟩ dX8_send_68 (fun H locs hH => ?_)
      refine lv_if_ne (pc := 71) (tgt := 89) hx hb dX8_send_71 rfl (fun zc14 => ?_) (fun zc14 => ?_)
      · have h := zf zc14 h
        refine lv_iconst (v := (-1)) (pc := 89) hx hb dX8_send_89 zk_cm1 ?_
        obtain rfl := Option.some.inj h
        exact z_iret X hr hH dX8_send_90
      have h := zt zc14 h
      refine lv_aload_n (pc := 74) hx hb dX8_send_74 rfl (lv_at hl 0 rfl) ?_
      refine z_get (pc := 75) (v := .ref (pq 0)) X iX8_send_X8 hH 0 rfl rfl 6 rfl (List.mem_of_getElem? (i := 2) rfl) rfl dX8_send_75 ?_
      refine lv_iload_n (pc := 78) hx hb dX8_send_78 rfl (lv_at hl 1 rfl) ?_
      refine lv_iload_n (pc := 79) hx hb dX8_send_79 rfl (lv_at hl 2 rfl) ?_
      refine lv_iload_n (pc := 80) hx hb dX8_send_80 rfl (lv_at hl 3 rfl) ?_
      refine lv_iload (pc := 81) hx hb dX8_send_81 (lv_at hl 5 rfl) ?_
      obtain ⟨zr15, hzr15, h⟩ := zb h
      refine zcV (pc := 83) (As := [.int x1, .int x2, .int x3, .int x5]) (rest := []) (st1 := [.int zr15]) (ws' := wS cy tq hq nq sq kq wq rq (.ref (pq 0)) t_draft ++ wH cy hq h_alive h_late h_hbr h_rbh h_waits h_pers h_size h_ranks h_lines ++ wP cy pq p_packed p_size) (wr := [((tq 0), .inr (7, [.ref (hq 0), .ref (nq 0), .ref (sq 0), .ref (kq 0), .ref (wq 0), .ref (rq 0), (.ref (pq 0)), t_draft])), ((hq 0), .inr (2, [.ref (hq 1), .ref (hq 2), .ref (hq 3), .ref (hq 4), .ref (hq 5), .ref (hq 6), .int h_size, .int h_ranks, .int h_lines])), ((hq 1), .inl (cy 2, 16, .inl h_alive)), ((hq 2), .inl (cy 0, 16, .inl h_late)), ((hq 3), .inl (cy 0, 16, .inl h_hbr)), ((hq 4), .inl (cy 0, 16, .inl h_rbh)), ((hq 5), .inl (cy 0, 256, .inl h_waits)), ((hq 6), .inl (cy 0, 256, .inl h_pers))]) (n := 4) (q0 := 0) X (c_X4_forbids l G cy fu pq p_packed p_size x1 x2 x3 x5 zr15 hzr15) hH [8, 9] [0, 1, 2, 3, 4, 5, 6, 7] [0, 1, 2, 3, 4, 5, 6, 7, 8, 9] rfl rfl rfl rfl gX8_send_X4_forbids rfl ⟨rfl, rfl⟩ kX4_forbids ⟨Nat.le_of_ble_eq_true rfl, Nat.le_of_ble_eq_true rfl⟩ rfl rfl rfl rfl rfl hl.1 (Nat.le_of_ble_eq_true rfl) ⟨Nat.le_of_ble_eq_true rfl, Nat.le_of_ble_eq_true rfl⟩ dX8_send_83 (fun H locs hH => ?_)
      refine lv_if_eq (pc := 86) (tgt := 91) hx hb dX8_send_86 rfl (fun zc16 => ?_) (fun zc16 => ?_)
      · have h := zt zc16 h
        refine lv_aload_n (pc := 91) hx hb dX8_send_91 rfl (lv_at hl 0 rfl) ?_
        refine z_get (pc := 92) (v := .ref (pq 0)) X iX8_send_X8 hH 0 rfl rfl 6 rfl (List.mem_of_getElem? (i := 2) rfl) rfl dX8_send_92 ?_
        refine lv_iload_n (pc := 95) hx hb dX8_send_95 rfl (lv_at hl 1 rfl) ?_
        refine lv_iload_n (pc := 96) hx hb dX8_send_96 rfl (lv_at hl 2 rfl) ?_
        refine lv_iload_n (pc := 97) hx hb dX8_send_97 rfl (lv_at hl 3 rfl) ?_
        refine lv_iload (pc := 98) hx hb dX8_send_98 (lv_at hl 4 rfl) ?_
        refine lv_iload (pc := 100) hx hb dX8_send_100 (lv_at hl 5 rfl) ?_
        refine lv_iload (pc := 102) hx hb dX8_send_102 (lv_at hl 6 rfl) ?_
        obtain ⟨zr17, hzr17, h⟩ := zb h
        refine zcV (pc := 104) (As := [.int x1, .int x2, .int x3, .int x4, .int x5, .int x6]) (rest := []) (st1 := []) (ws' := wS cy tq hq nq sq kq wq rq (.ref (pq 0)) t_draft ++ wH cy hq h_alive h_late h_hbr h_rbh h_waits h_pers h_size h_ranks h_lines ++ wP cy pq zr17.1 zr17.2) (wr := [((tq 0), .inr (7, [.ref (hq 0), .ref (nq 0), .ref (sq 0), .ref (kq 0), .ref (wq 0), .ref (rq 0), (.ref (pq 0)), t_draft])), ((hq 0), .inr (2, [.ref (hq 1), .ref (hq 2), .ref (hq 3), .ref (hq 4), .ref (hq 5), .ref (hq 6), .int h_size, .int h_ranks, .int h_lines])), ((hq 1), .inl (cy 2, 16, .inl h_alive)), ((hq 2), .inl (cy 0, 16, .inl h_late)), ((hq 3), .inl (cy 0, 16, .inl h_hbr)), ((hq 4), .inl (cy 0, 16, .inl h_rbh)), ((hq 5), .inl (cy 0, 256, .inl h_waits)), ((hq 6), .inl (cy 0, 256, .inl h_pers))]) (n := 6) (q0 := 0) X (c_X4_place l G cy fu pq p_packed p_size x1 x2 x3 x4 x5 x6 zr17 hzr17) hH [8, 9] [0, 1, 2, 3, 4, 5, 6, 7] [0, 1, 2, 3, 4, 5, 6, 7, 8, 9] rfl rfl rfl rfl gX8_send_X4_place rfl ⟨rfl, rfl⟩ kX4_place ⟨Nat.le_of_ble_eq_true rfl, Nat.le_of_ble_eq_true rfl⟩ rfl rfl rfl rfl rfl hl.1 (Nat.le_of_ble_eq_true rfl) ⟨Nat.le_of_ble_eq_true rfl, Nat.le_of_ble_eq_true rfl⟩ dX8_send_104 (fun H locs hH => ?_)
        refine lv_aload_n (pc := 107) hx hb dX8_send_107 rfl (lv_at hl 0 rfl) ?_
        refine z_get (pc := 108) (v := .ref (pq 0)) X iX8_send_X8 hH 0 rfl rfl 6 rfl (List.mem_of_getElem? (i := 2) rfl) rfl dX8_send_108 ?_
        obtain ⟨zr18, hzr18, h⟩ := zb h
        refine zcV (pc := 111) (As := []) (rest := []) (st1 := [.int zr18]) (ws' := wS cy tq hq nq sq kq wq rq (.ref (pq 0)) t_draft ++ wH cy hq h_alive h_late h_hbr h_rbh h_waits h_pers h_size h_ranks h_lines ++ wP cy pq zr17.1 zr17.2) (wr := [((tq 0), .inr (7, [.ref (hq 0), .ref (nq 0), .ref (sq 0), .ref (kq 0), .ref (wq 0), .ref (rq 0), (.ref (pq 0)), t_draft])), ((hq 0), .inr (2, [.ref (hq 1), .ref (hq 2), .ref (hq 3), .ref (hq 4), .ref (hq 5), .ref (hq 6), .int h_size, .int h_ranks, .int h_lines])), ((hq 1), .inl (cy 2, 16, .inl h_alive)), ((hq 2), .inl (cy 0, 16, .inl h_late)), ((hq 3), .inl (cy 0, 16, .inl h_hbr)), ((hq 4), .inl (cy 0, 16, .inl h_rbh)), ((hq 5), .inl (cy 0, 256, .inl h_waits)), ((hq 6), .inl (cy 0, 256, .inl h_pers))]) (n := 0) (q0 := 0) X (c_X4_size l G cy fu pq zr17.1 zr17.2 zr18 hzr18) hH [8, 9] [0, 1, 2, 3, 4, 5, 6, 7] [0, 1, 2, 3, 4, 5, 6, 7, 8, 9] rfl rfl rfl rfl gX8_send_X4_size rfl ⟨rfl, rfl⟩ kX4_size ⟨Nat.le_of_ble_eq_true rfl, Nat.le_of_ble_eq_true rfl⟩ rfl rfl rfl rfl rfl hl.1 (Nat.le_of_ble_eq_true rfl) ⟨Nat.le_of_ble_eq_true rfl, Nat.le_of_ble_eq_true rfl⟩ dX8_send_111 (fun H locs hH => ?_)
        obtain rfl := Option.some.inj h
        exact z_iret X hr hH dX8_send_114
      have h := zf zc16 h
      refine lv_iconst (v := (-1)) (pc := 89) hx hb dX8_send_89 zk_cm1 ?_
      obtain rfl := Option.some.inj h
      exact z_iret X hr hH dX8_send_90
    have h := zt zc12 h
    refine lv_iconst (v := (-1)) (pc := 62) hx hb dX8_send_62 zk_cm1 ?_
    obtain rfl := Option.some.inj h
    exact z_iret X hr hH dX8_send_63
  have h := zt zc6 h
  refine lv_iconst (v := (-1)) (pc := 26) hx hb dX8_send_26 zk_cm1 ?_
  obtain rfl := Option.some.inj h
  exact z_iret X hr hH dX8_send_27
set_option maxHeartbeats 4000000 in
set_option maxRecDepth 100000 in
theorem c_X8_sent (l : Launch) (G : va_G) (cy : Nat → ClassId) (fu : Nat) (tq : Nat → Nat) (hq : Nat → Nat) (nq : Nat → Nat) (sq : Nat → Nat) (kq : Nat → Nat) (wq : Nat → Nat) (rq : Nat → Nat) (pq : Nat → Nat) (p_packed : Nat → Int32) (p_size : Int32) (t_draft : Value) (x1 : Int32) (x2 : Int32) (rr : Int32) (h : f_X8_sent fu p_packed p_size x1 x2 = some rr) : zM l G cy yX8_sent wsX8_sent (zR 2 42) [.ref (tq 0), .int x1, .int x2] (wS cy tq hq nq sq kq wq rq (.ref (pq 0)) t_draft ++ wP cy pq p_packed p_size) (wS cy tq hq nq sq kq wq rq (.ref (pq 0)) t_draft ++ wP cy pq p_packed p_size) (some (.int rr)) := by
  refine zM.mk (cc := cX8_sent) (nL := 3) (ret := (some .int)) (by decide) rfl (Nat.le_of_ble_eq_true rfl) ?_
  intro p e s m below meth c A ls X hr hH hl
  replace X : zX p s m [.ref (tq 0), .int x1, .int x2].toArray meth c RX8 cX8_sent 3 wsX8_sent G cy A := X
  have hx := X.1.1
  have hb := X.1.2.1
  replace hl : lv_has ls 3 [(0, .ref (tq 0)), (1, .int x1), (2, .int x2)] := hl
  dsimp only [f_X8_sent] at h
  refine lv_iload_n (pc := 0) hx hb dX8_sent_0 rfl (lv_at hl 1 rfl) ?_
  refine lv_if_lt (pc := 1) (tgt := 15) hx hb dX8_sent_1 rfl (fun zc1 => ?_) (fun zc1 => ?_)
  · have h := zt zc1 h
    refine lv_iconst (v := (-1)) (pc := 15) hx hb dX8_sent_15 zk_cm1 ?_
    obtain rfl := Option.some.inj h
    exact z_iret X hr hH dX8_sent_16
  have h := zf zc1 h
  refine lv_iload_n (pc := 4) hx hb dX8_sent_4 rfl (lv_at hl 1 rfl) ?_
  refine lv_aload_n (pc := 5) hx hb dX8_sent_5 rfl (lv_at hl 0 rfl) ?_
  refine z_get (pc := 6) (v := .ref (pq 0)) X iX8_sent_X8 hH 0 rfl rfl 6 rfl (List.mem_of_getElem? (i := 1) rfl) rfl dX8_sent_6 ?_
  obtain ⟨zr2, hzr2, h⟩ := zb h
  refine zcV (pc := 9) (As := []) (rest := [.int x1]) (st1 := [.int zr2, .int x1]) (ws' := wS cy tq hq nq sq kq wq rq (.ref (pq 0)) t_draft ++ wP cy pq p_packed p_size) (wr := [((tq 0), .inr (7, [.ref (hq 0), .ref (nq 0), .ref (sq 0), .ref (kq 0), .ref (wq 0), .ref (rq 0), (.ref (pq 0)), t_draft]))]) (n := 0) (q0 := 0) X (c_X4_size l G cy fu pq p_packed p_size zr2 hzr2) hH [1, 2] [0] [0, 1, 2] rfl rfl rfl rfl gX8_sent_X4_size rfl ⟨rfl, rfl⟩ kX4_size ⟨Nat.le_of_ble_eq_true rfl, Nat.le_of_ble_eq_true rfl⟩ rfl rfl rfl rfl rfl hl.1 (Nat.le_of_ble_eq_true rfl) ⟨Nat.le_of_ble_eq_true rfl, Nat.le_of_ble_eq_true rfl⟩ dX8_sent_9 (fun H locs hH => ?_)
  refine lv_icmp_lt (pc := 12) (tgt := 17) hx hb dX8_sent_12 rfl (fun zc3 => ?_) (fun zc3 => ?_)
  · have h := zt zc3 h
    refine lv_iload_n (pc := 17) hx hb dX8_sent_17 rfl (lv_at hl 2 rfl) ?_
    by_cases zc4 : x2 = 0
    · have h := zt zc4 h
      refine lv_tableIn (pc := 18) (off := 38) (tgt := 56) hx hb dX8_sent_18 (by rw [zc4]; decide) (by rw [zc4]; decide) (by rw [zc4]; rfl) rfl ?_
      refine lv_aload_n (pc := 56) hx hb dX8_sent_56 rfl (lv_at hl 0 rfl) ?_
      refine z_get (pc := 57) (v := .ref (pq 0)) X iX8_sent_X8 hH 0 rfl rfl 6 rfl (List.mem_of_getElem? (i := 1) rfl) rfl dX8_sent_57 ?_
      refine lv_iload_n (pc := 60) hx hb dX8_sent_60 rfl (lv_at hl 1 rfl) ?_
      obtain ⟨zr5, hzr5, h⟩ := zb h
      refine zcV (pc := 61) (As := [.int x1]) (rest := []) (st1 := [.int zr5]) (ws' := wS cy tq hq nq sq kq wq rq (.ref (pq 0)) t_draft ++ wP cy pq p_packed p_size) (wr := [((tq 0), .inr (7, [.ref (hq 0), .ref (nq 0), .ref (sq 0), .ref (kq 0), .ref (wq 0), .ref (rq 0), (.ref (pq 0)), t_draft]))]) (n := 1) (q0 := 0) X (c_X4_step l G cy fu pq p_packed p_size x1 zr5 hzr5) hH [1, 2] [0] [0, 1, 2] rfl rfl rfl rfl gX8_sent_X4_step rfl ⟨rfl, rfl⟩ kX4_step ⟨Nat.le_of_ble_eq_true rfl, Nat.le_of_ble_eq_true rfl⟩ rfl rfl rfl rfl rfl hl.1 (Nat.le_of_ble_eq_true rfl) ⟨Nat.le_of_ble_eq_true rfl, Nat.le_of_ble_eq_true rfl⟩ dX8_sent_61 (fun H locs hH => ?_)
      obtain rfl := Option.some.inj h
      exact z_iret X hr hH dX8_sent_64
    have h := zf zc4 h
    by_cases zc6 : x2 = 1
    · have h := zt zc6 h
      refine lv_tableIn (pc := 18) (off := 47) (tgt := 65) hx hb dX8_sent_18 (by rw [zc6]; decide) (by rw [zc6]; decide) (by rw [zc6]; rfl) rfl ?_
      refine lv_aload_n (pc := 65) hx hb dX8_sent_65 rfl (lv_at hl 0 rfl) ?_
      refine z_get (pc := 66) (v := .ref (pq 0)) X iX8_sent_X8 hH 0 rfl rfl 6 rfl (List.mem_of_getElem? (i := 1) rfl) rfl dX8_sent_66 ?_
      refine lv_iload_n (pc := 69) hx hb dX8_sent_69 rfl (lv_at hl 1 rfl) ?_
      obtain ⟨zr7, hzr7, h⟩ := zb h
      refine zcV (pc := 70) (As := [.int x1]) (rest := []) (st1 := [.int zr7]) (ws' := wS cy tq hq nq sq kq wq rq (.ref (pq 0)) t_draft ++ wP cy pq p_packed p_size) (wr := [((tq 0), .inr (7, [.ref (hq 0), .ref (nq 0), .ref (sq 0), .ref (kq 0), .ref (wq 0), .ref (rq 0), (.ref (pq 0)), t_draft]))]) (n := 1) (q0 := 0) X (c_X4_from l G cy fu pq p_packed p_size x1 zr7 hzr7) hH [1, 2] [0] [0, 1, 2] rfl rfl rfl rfl gX8_sent_X4_from rfl ⟨rfl, rfl⟩ kX4_from ⟨Nat.le_of_ble_eq_true rfl, Nat.le_of_ble_eq_true rfl⟩ rfl rfl rfl rfl rfl hl.1 (Nat.le_of_ble_eq_true rfl) ⟨Nat.le_of_ble_eq_true rfl, Nat.le_of_ble_eq_true rfl⟩ dX8_sent_70 (fun H locs hH => ?_)
      obtain rfl := Option.some.inj h
      exact z_iret X hr hH dX8_sent_73
    have h := zf zc6 h
    by_cases zc8 : x2 = 2
    · have h := zt zc8 h
      refine lv_tableIn (pc := 18) (off := 56) (tgt := 74) hx hb dX8_sent_18 (by rw [zc8]; decide) (by rw [zc8]; decide) (by rw [zc8]; rfl) rfl ?_
      refine lv_aload_n (pc := 74) hx hb dX8_sent_74 rfl (lv_at hl 0 rfl) ?_
      refine z_get (pc := 75) (v := .ref (pq 0)) X iX8_sent_X8 hH 0 rfl rfl 6 rfl (List.mem_of_getElem? (i := 1) rfl) rfl dX8_sent_75 ?_
      refine lv_iload_n (pc := 78) hx hb dX8_sent_78 rfl (lv_at hl 1 rfl) ?_
      obtain ⟨zr9, hzr9, h⟩ := zb h
      refine zcV (pc := 79) (As := [.int x1]) (rest := []) (st1 := [.int zr9]) (ws' := wS cy tq hq nq sq kq wq rq (.ref (pq 0)) t_draft ++ wP cy pq p_packed p_size) (wr := [((tq 0), .inr (7, [.ref (hq 0), .ref (nq 0), .ref (sq 0), .ref (kq 0), .ref (wq 0), .ref (rq 0), (.ref (pq 0)), t_draft]))]) (n := 1) (q0 := 0) X (c_X4_to l G cy fu pq p_packed p_size x1 zr9 hzr9) hH [1, 2] [0] [0, 1, 2] rfl rfl rfl rfl gX8_sent_X4_to rfl ⟨rfl, rfl⟩ kX4_to ⟨Nat.le_of_ble_eq_true rfl, Nat.le_of_ble_eq_true rfl⟩ rfl rfl rfl rfl rfl hl.1 (Nat.le_of_ble_eq_true rfl) ⟨Nat.le_of_ble_eq_true rfl, Nat.le_of_ble_eq_true rfl⟩ dX8_sent_79 (fun H locs hH => ?_)
      obtain rfl := Option.some.inj h
      exact z_iret X hr hH dX8_sent_82
    have h := zf zc8 h
    by_cases zc10 : x2 = 3
    · have h := zt zc10 h
      refine lv_tableIn (pc := 18) (off := 65) (tgt := 83) hx hb dX8_sent_18 (by rw [zc10]; decide) (by rw [zc10]; decide) (by rw [zc10]; rfl) rfl ?_
      refine lv_aload_n (pc := 83) hx hb dX8_sent_83 rfl (lv_at hl 0 rfl) ?_
      refine z_get (pc := 84) (v := .ref (pq 0)) X iX8_sent_X8 hH 0 rfl rfl 6 rfl (List.mem_of_getElem? (i := 1) rfl) rfl dX8_sent_84 ?_
      refine lv_iload_n (pc := 87) hx hb dX8_sent_87 rfl (lv_at hl 1 rfl) ?_
      obtain ⟨zr11, hzr11, h⟩ := zb h
      refine zcV (pc := 88) (As := [.int x1]) (rest := []) (st1 := [.int zr11]) (ws' := wS cy tq hq nq sq kq wq rq (.ref (pq 0)) t_draft ++ wP cy pq p_packed p_size) (wr := [((tq 0), .inr (7, [.ref (hq 0), .ref (nq 0), .ref (sq 0), .ref (kq 0), .ref (wq 0), .ref (rq 0), (.ref (pq 0)), t_draft]))]) (n := 1) (q0 := 0) X (c_X4_block l G cy fu pq p_packed p_size x1 zr11 hzr11) hH [1, 2] [0] [0, 1, 2] rfl rfl rfl rfl gX8_sent_X4_block rfl ⟨rfl, rfl⟩ kX4_block ⟨Nat.le_of_ble_eq_true rfl, Nat.le_of_ble_eq_true rfl⟩ rfl rfl rfl rfl rfl hl.1 (Nat.le_of_ble_eq_true rfl) ⟨Nat.le_of_ble_eq_true rfl, Nat.le_of_ble_eq_true rfl⟩ dX8_sent_88 (fun H locs hH => ?_)
      obtain rfl := Option.some.inj h
      exact z_iret X hr hH dX8_sent_91
    have h := zf zc10 h
    by_cases zc12 : x2 = 4
    · have h := zt zc12 h
      refine lv_tableIn (pc := 18) (off := 74) (tgt := 92) hx hb dX8_sent_18 (by rw [zc12]; decide) (by rw [zc12]; decide) (by rw [zc12]; rfl) rfl ?_
      refine lv_aload_n (pc := 92) hx hb dX8_sent_92 rfl (lv_at hl 0 rfl) ?_
      refine z_get (pc := 93) (v := .ref (pq 0)) X iX8_sent_X8 hH 0 rfl rfl 6 rfl (List.mem_of_getElem? (i := 1) rfl) rfl dX8_sent_93 ?_
      refine lv_iload_n (pc := 96) hx hb dX8_sent_96 rfl (lv_at hl 1 rfl) ?_
      obtain ⟨zr13, hzr13, h⟩ := zb h
      refine zcV (pc := 97) (As := [.int x1]) (rest := []) (st1 := [.int zr13]) (ws' := wS cy tq hq nq sq kq wq rq (.ref (pq 0)) t_draft ++ wP cy pq p_packed p_size) (wr := [((tq 0), .inr (7, [.ref (hq 0), .ref (nq 0), .ref (sq 0), .ref (kq 0), .ref (wq 0), .ref (rq 0), (.ref (pq 0)), t_draft]))]) (n := 1) (q0 := 0) X (c_X4_toBlock l G cy fu pq p_packed p_size x1 zr13 hzr13) hH [1, 2] [0] [0, 1, 2] rfl rfl rfl rfl gX8_sent_X4_toBlock rfl ⟨rfl, rfl⟩ kX4_toBlock ⟨Nat.le_of_ble_eq_true rfl, Nat.le_of_ble_eq_true rfl⟩ rfl rfl rfl rfl rfl hl.1 (Nat.le_of_ble_eq_true rfl) ⟨Nat.le_of_ble_eq_true rfl, Nat.le_of_ble_eq_true rfl⟩ dX8_sent_97 (fun H locs hH => ?_)
      obtain rfl := Option.some.inj h
      exact z_iret X hr hH dX8_sent_100
    have h := zf zc12 h
    by_cases zc14 : x2 = 5
    · have h := zt zc14 h
      refine lv_tableIn (pc := 18) (off := 83) (tgt := 101) hx hb dX8_sent_18 (by rw [zc14]; decide) (by rw [zc14]; decide) (by rw [zc14]; rfl) rfl ?_
      refine lv_aload_n (pc := 101) hx hb dX8_sent_101 rfl (lv_at hl 0 rfl) ?_
      refine z_get (pc := 102) (v := .ref (pq 0)) X iX8_sent_X8 hH 0 rfl rfl 6 rfl (List.mem_of_getElem? (i := 1) rfl) rfl dX8_sent_102 ?_
      refine lv_iload_n (pc := 105) hx hb dX8_sent_105 rfl (lv_at hl 1 rfl) ?_
      obtain ⟨zr15, hzr15, h⟩ := zb h
      refine zcV (pc := 106) (As := [.int x1]) (rest := []) (st1 := [.int zr15]) (ws' := wS cy tq hq nq sq kq wq rq (.ref (pq 0)) t_draft ++ wP cy pq p_packed p_size) (wr := [((tq 0), .inr (7, [.ref (hq 0), .ref (nq 0), .ref (sq 0), .ref (kq 0), .ref (wq 0), .ref (rq 0), (.ref (pq 0)), t_draft]))]) (n := 1) (q0 := 0) X (c_X4_isAdded l G cy fu pq p_packed p_size x1 zr15 hzr15) hH [1, 2] [0] [0, 1, 2] rfl rfl rfl rfl gX8_sent_X4_isAdded rfl ⟨rfl, rfl⟩ kX4_isAdded ⟨Nat.le_of_ble_eq_true rfl, Nat.le_of_ble_eq_true rfl⟩ rfl rfl rfl rfl rfl hl.1 (Nat.le_of_ble_eq_true rfl) ⟨Nat.le_of_ble_eq_true rfl, Nat.le_of_ble_eq_true rfl⟩ dX8_sent_106 (fun H locs hH => ?_)
      refine lv_if_eq (pc := 109) (tgt := 116) hx hb dX8_sent_109 rfl (fun zc16 => ?_) (fun zc16 => ?_)
      · have h := zt zc16 h
        refine lv_iconst (v := 0) (pc := 116) hx hb dX8_sent_116 zk_c0 ?_
        obtain rfl := Option.some.inj h
        exact z_iret X hr hH dX8_sent_117
      have h := zf zc16 h
      refine lv_iconst (v := 1) (pc := 112) hx hb dX8_sent_112 zk_c1 ?_
      refine lv_goto (pc := 113) (tgt := 117) hx hb dX8_sent_113 rfl ?_
      obtain rfl := Option.some.inj h
      exact z_iret X hr hH dX8_sent_117
    have h := zf zc14 h
    refine lv_tableOut (pc := 18) (tgt := 118) hx hb dX8_sent_18 (by have n0 := lv_neT zc4 (show (0 : Int32).toInt = 0 by decide); have n1 := lv_neT zc6 (show (1 : Int32).toInt = 1 by decide); have n2 := lv_neT zc8 (show (2 : Int32).toInt = 2 by decide); have n3 := lv_neT zc10 (show (3 : Int32).toInt = 3 by decide); have n4 := lv_neT zc12 (show (4 : Int32).toInt = 4 by decide); have n5 := lv_neT zc14 (show (5 : Int32).toInt = 5 by decide); omega) rfl ?_
    refine lv_iconst (v := (-1)) (pc := 118) hx hb dX8_sent_118 zk_cm1 ?_
    obtain rfl := Option.some.inj h
    exact z_iret X hr hH dX8_sent_119
  have h := zf zc3 h
  refine lv_iconst (v := (-1)) (pc := 15) hx hb dX8_sent_15 zk_cm1 ?_
  obtain rfl := Option.some.inj h
  exact z_iret X hr hH dX8_sent_16
set_option maxHeartbeats 4000000 in
set_option maxRecDepth 100000 in
theorem c_X8_right (l : Launch) (G : va_G) (cy : Nat → ClassId) (fu : Nat) (tq : Nat → Nat) (hq : Nat → Nat) (nq : Nat → Nat) (sq : Nat → Nat) (kq : Nat → Nat) (wq : Nat → Nat) (rq : Nat → Nat) (pq : Nat → Nat) (h_alive : Nat → Int32) (h_late : Nat → Int32) (h_hbr : Nat → Int32) (h_rbh : Nat → Int32) (h_waits : Nat → Int32) (h_pers : Nat → Int32) (h_size : Int32) (h_ranks : Int32) (h_lines : Int32) (p_packed : Nat → Int32) (p_size : Int32) (s_some : Nat → Int64) (s_more : Nat → Int64) (s_sund : Nat → Int64) (s_mund : Nat → Int64) (s_group : Int32) (t_draft : Value) (x1 : Int32) (x2 : Int32) (rr : Int32 × (Nat → Int64) × (Nat → Int64) × (Nat → Int64) × (Nat → Int64) × Int32) (h : f_X8_right fu h_alive h_hbr h_rbh h_size h_ranks p_packed p_size s_some s_more s_sund s_mund s_group x1 x2 = some rr) : zM l G cy yX8_right wsX8_right (zR 6 144) [.ref (tq 0), .int x1, .int x2] (wS cy tq hq nq sq kq wq rq (.ref (pq 0)) t_draft ++ wG cy sq s_some s_more s_sund s_mund s_group ++ wP cy pq p_packed p_size ++ wH cy hq h_alive h_late h_hbr h_rbh h_waits h_pers h_size h_ranks h_lines) (wS cy tq hq nq sq kq wq rq (.ref (pq 0)) t_draft ++ wG cy sq rr.2.1 rr.2.2.1 rr.2.2.2.1 rr.2.2.2.2.1 rr.2.2.2.2.2 ++ wP cy pq p_packed p_size ++ wH cy hq h_alive h_late h_hbr h_rbh h_waits h_pers h_size h_ranks h_lines) (some (.int rr.1)) := by
  refine zM.mk (cc := cX8_right) (nL := 4) (ret := (some .int)) (by decide) rfl (Nat.le_of_ble_eq_true rfl) ?_
  intro p e s m below meth c A ls X hr hH hl
  replace X : zX p s m [.ref (tq 0), .int x1, .int x2].toArray meth c RX8 cX8_right 4 wsX8_right G cy A := X
  have hx := X.1.1
  have hb := X.1.2.1
  replace hl : lv_has ls 4 [(0, .ref (tq 0)), (1, .int x1), (2, .int x2)] := hl
  dsimp only [f_X8_right] at h
  refine lv_aload_n (pc := 0) hx hb dX8_right_0 rfl (lv_at hl 0 rfl) ?_
  refine z_get (pc := 1) (v := .ref (hq 0)) X iX8_right_X8 hH 0 rfl rfl 0 rfl (List.mem_of_getElem? (i := 1) rfl) rfl dX8_right_1 ?_
  refine lv_iload_n (pc := 4) hx hb dX8_right_4 rfl (lv_at hl 1 rfl) ?_
  refine lv_iload_n (pc := 5) hx hb dX8_right_5 rfl (lv_at hl 2 rfl) ?_
  obtain ⟨zr1, hzr1, h⟩ := zb h
  refine zcS (pc := 6) (As := [.ref (hq 0), .int x1, .int x2]) (rest := []) (st1 := [.int zr1]) (ws' := wS cy tq hq nq sq kq wq rq (.ref (pq 0)) t_draft ++ wG cy sq s_some s_more s_sund s_mund s_group ++ wP cy pq p_packed p_size ++ wH cy hq h_alive h_late h_hbr h_rbh h_waits h_pers h_size h_ranks h_lines) (wr := [((tq 0), .inr (7, [.ref (hq 0), .ref (nq 0), .ref (sq 0), .ref (kq 0), .ref (wq 0), .ref (rq 0), (.ref (pq 0)), t_draft])), ((sq 0), .inr (5, [.ref (sq 1), .ref (sq 2), .ref (sq 3), .ref (sq 4), .int s_group])), ((sq 1), .inl (cy 1, 256, .inr (.inl s_some))), ((sq 2), .inl (cy 1, 256, .inr (.inl s_more))), ((sq 3), .inl (cy 1, 256, .inr (.inl s_sund))), ((sq 4), .inl (cy 1, 256, .inr (.inl s_mund))), ((pq 0), .inr (3, [.ref (pq 1), .int p_size])), ((pq 1), .inl (cy 0, 1200, .inl p_packed))]) (n := 3) X (c_X8_isAsked l G cy fu hq h_alive h_late h_hbr h_rbh h_waits h_pers h_size h_ranks h_lines x1 x2 zr1 hzr1) hH [8, 9, 10, 11, 12, 13, 14] [0, 1, 2, 3, 4, 5, 6, 7] [0, 1, 2, 3, 4, 5, 6, 7, 8, 9, 10, 11, 12, 13, 14] rfl rfl rfl rfl gX8_right_X8_isAsked rfl ⟨rfl, rfl⟩ kX8_isAsked ⟨Nat.le_of_ble_eq_true rfl, Nat.le_of_ble_eq_true rfl⟩ rfl rfl rfl hl.1 (Nat.le_of_ble_eq_true rfl) ⟨Nat.le_of_ble_eq_true rfl, Nat.le_of_ble_eq_true rfl⟩ dX8_right_6 (fun H locs hH => ?_)
  refine lv_if_ne (pc := 9) (tgt := 14) hx hb dX8_right_9 rfl (fun zc2 => ?_) (fun zc2 => ?_)
  · have h := zf zc2 h
    refine lv_aload_n (pc := 14) hx hb dX8_right_14 rfl (lv_at hl 0 rfl) ?_
    refine z_get (pc := 15) (v := .ref (sq 0)) X iX8_right_X8 hH 0 rfl rfl 2 rfl (List.mem_of_getElem? (i := 2) rfl) rfl dX8_right_15 ?_
    refine lv_aload_n (pc := 18) hx hb dX8_right_18 rfl (lv_at hl 0 rfl) ?_
    refine z_get (pc := 19) (v := .ref (pq 0)) X iX8_right_X8 hH 0 rfl rfl 6 rfl (List.mem_of_getElem? (i := 3) rfl) rfl dX8_right_19 ?_
    refine lv_aload_n (pc := 22) hx hb dX8_right_22 rfl (lv_at hl 0 rfl) ?_
    refine z_get (pc := 23) (v := .ref (hq 0)) X iX8_right_X8 hH 0 rfl rfl 0 rfl (List.mem_of_getElem? (i := 1) rfl) rfl dX8_right_23 ?_
    refine lv_iload_n (pc := 26) hx hb dX8_right_26 rfl (lv_at hl 1 rfl) ?_
    refine lv_iload_n (pc := 27) hx hb dX8_right_27 rfl (lv_at hl 2 rfl) ?_
    obtain ⟨zr3, hzr3, h⟩ := zb h
    refine zcV (pc := 28) (As := [.ref (pq 0), .ref (hq 0), .int x1, .int x2]) (rest := []) (st1 := [.int zr3.1]) (ws' := wS cy tq hq nq sq kq wq rq (.ref (pq 0)) t_draft ++ wG cy sq zr3.2.1 zr3.2.2.1 zr3.2.2.2.1 zr3.2.2.2.2.1 zr3.2.2.2.2.2 ++ wP cy pq p_packed p_size ++ wH cy hq h_alive h_late h_hbr h_rbh h_waits h_pers h_size h_ranks h_lines) (wr := [((tq 0), .inr (7, [.ref (hq 0), .ref (nq 0), .ref (sq 0), .ref (kq 0), .ref (wq 0), .ref (rq 0), (.ref (pq 0)), t_draft]))]) (n := 4) (q0 := 0) X (c_X6_firstWrong l G cy fu sq pq hq h_alive h_late h_hbr h_rbh h_waits h_pers h_size h_ranks h_lines p_packed p_size s_some s_more s_sund s_mund s_group x1 x2 zr3 hzr3) hH [1, 2, 3, 4, 5, 6, 7, 8, 9, 10, 11, 12, 13, 14] [0] [0, 1, 2, 3, 4, 5, 6, 7, 8, 9, 10, 11, 12, 13, 14] rfl rfl rfl rfl gX8_right_X6_firstWrong rfl ⟨rfl, rfl⟩ kX6_firstWrong ⟨Nat.le_of_ble_eq_true rfl, Nat.le_of_ble_eq_true rfl⟩ rfl rfl rfl rfl rfl hl.1 (Nat.le_of_ble_eq_true rfl) ⟨Nat.le_of_ble_eq_true rfl, Nat.le_of_ble_eq_true rfl⟩ dX8_right_28 (fun H locs hH => ?_)
    refine lv_istore_n (pc := 31) (lv' := [(3, .int zr3.1), (0, .ref (tq 0)), (1, .int x1), (2, .int x2)]) hx hb dX8_right_31 rfl hl (by decide) rfl (fun ls hl => ?_)
    refine lv_iload_n (pc := 32) hx hb dX8_right_32 rfl (lv_at hl 0 rfl) ?_
    refine lv_sipush (v := 256) (pc := 33) hx hb dX8_right_33 zk_s256 ?_
    refine lv_icmp_lt (pc := 36) (tgt := 41) hx hb dX8_right_36 rfl (fun zc4 => ?_) (fun zc4 => ?_)
    · have h := zt zc4 h
      refine lv_bipush (v := (-100)) (pc := 41) hx hb dX8_right_41 zk_bm100 ?_
      refine lv_iload_n (pc := 43) hx hb dX8_right_43 rfl (lv_at hl 0 rfl) ?_
      obtain ⟨zr5, hzr5, h⟩ := zb h
      refine zcS (pc := 44) (As := [.int zr3.1]) (rest := [.int (-100)]) (st1 := [.int zr5, .int (-100)]) (ws' := wS cy tq hq nq sq kq wq rq (.ref (pq 0)) t_draft ++ wG cy sq zr3.2.1 zr3.2.2.1 zr3.2.2.2.1 zr3.2.2.2.2.1 zr3.2.2.2.2.2 ++ wP cy pq p_packed p_size ++ wH cy hq h_alive h_late h_hbr h_rbh h_waits h_pers h_size h_ranks h_lines) (wr := [((tq 0), .inr (7, [.ref (hq 0), .ref (nq 0), .ref (sq 0), .ref (kq 0), .ref (wq 0), .ref (rq 0), (.ref (pq 0)), t_draft])), ((sq 0), .inr (5, [.ref (sq 1), .ref (sq 2), .ref (sq 3), .ref (sq 4), .int zr3.2.2.2.2.2])), ((sq 1), .inl (cy 1, 256, .inr (.inl zr3.2.1))), ((sq 2), .inl (cy 1, 256, .inr (.inl zr3.2.2.1))), ((sq 3), .inl (cy 1, 256, .inr (.inl zr3.2.2.2.1))), ((sq 4), .inl (cy 1, 256, .inr (.inl zr3.2.2.2.2.1))), ((pq 0), .inr (3, [.ref (pq 1), .int p_size])), ((pq 1), .inl (cy 0, 1200, .inl p_packed)), ((hq 0), .inr (2, [.ref (hq 1), .ref (hq 2), .ref (hq 3), .ref (hq 4), .ref (hq 5), .ref (hq 6), .int h_size, .int h_ranks, .int h_lines])), ((hq 1), .inl (cy 2, 16, .inl h_alive)), ((hq 2), .inl (cy 0, 16, .inl h_late)), ((hq 3), .inl (cy 0, 16, .inl h_hbr)), ((hq 4), .inl (cy 0, 16, .inl h_rbh)), ((hq 5), .inl (cy 0, 256, .inl h_waits)), ((hq 6), .inl (cy 0, 256, .inl h_pers))]) (n := 1) X (c_X8_hostOfCell l G cy fu zr3.1 zr5 hzr5) hH [] [0, 1, 2, 3, 4, 5, 6, 7, 8, 9, 10, 11, 12, 13, 14] [0, 1, 2, 3, 4, 5, 6, 7, 8, 9, 10, 11, 12, 13, 14] rfl rfl rfl rfl gX8_right_X8_hostOfCell rfl ⟨rfl, rfl⟩ kX8_hostOfCell ⟨Nat.le_of_ble_eq_true rfl, Nat.le_of_ble_eq_true rfl⟩ rfl rfl rfl hl.1 (Nat.le_of_ble_eq_true rfl) ⟨Nat.le_of_ble_eq_true rfl, Nat.le_of_ble_eq_true rfl⟩ dX8_right_44 (fun H locs hH => ?_)
      refine lv_imul (pc := 47) hx hb dX8_right_47 ?_
      refine lv_iload_n (pc := 48) hx hb dX8_right_48 rfl (lv_at hl 0 rfl) ?_
      obtain ⟨zr6, hzr6, h⟩ := zb h
      refine zcS (pc := 49) (As := [.int zr3.1]) (rest := [.int ((-100) * zr5)]) (st1 := [.int zr6, .int ((-100) * zr5)]) (ws' := wS cy tq hq nq sq kq wq rq (.ref (pq 0)) t_draft ++ wG cy sq zr3.2.1 zr3.2.2.1 zr3.2.2.2.1 zr3.2.2.2.2.1 zr3.2.2.2.2.2 ++ wP cy pq p_packed p_size ++ wH cy hq h_alive h_late h_hbr h_rbh h_waits h_pers h_size h_ranks h_lines) (wr := [((tq 0), .inr (7, [.ref (hq 0), .ref (nq 0), .ref (sq 0), .ref (kq 0), .ref (wq 0), .ref (rq 0), (.ref (pq 0)), t_draft])), ((sq 0), .inr (5, [.ref (sq 1), .ref (sq 2), .ref (sq 3), .ref (sq 4), .int zr3.2.2.2.2.2])), ((sq 1), .inl (cy 1, 256, .inr (.inl zr3.2.1))), ((sq 2), .inl (cy 1, 256, .inr (.inl zr3.2.2.1))), ((sq 3), .inl (cy 1, 256, .inr (.inl zr3.2.2.2.1))), ((sq 4), .inl (cy 1, 256, .inr (.inl zr3.2.2.2.2.1))), ((pq 0), .inr (3, [.ref (pq 1), .int p_size])), ((pq 1), .inl (cy 0, 1200, .inl p_packed)), ((hq 0), .inr (2, [.ref (hq 1), .ref (hq 2), .ref (hq 3), .ref (hq 4), .ref (hq 5), .ref (hq 6), .int h_size, .int h_ranks, .int h_lines])), ((hq 1), .inl (cy 2, 16, .inl h_alive)), ((hq 2), .inl (cy 0, 16, .inl h_late)), ((hq 3), .inl (cy 0, 16, .inl h_hbr)), ((hq 4), .inl (cy 0, 16, .inl h_rbh)), ((hq 5), .inl (cy 0, 256, .inl h_waits)), ((hq 6), .inl (cy 0, 256, .inl h_pers))]) (n := 1) X (c_X8_blockOfCell l G cy fu zr3.1 zr6 hzr6) hH [] [0, 1, 2, 3, 4, 5, 6, 7, 8, 9, 10, 11, 12, 13, 14] [0, 1, 2, 3, 4, 5, 6, 7, 8, 9, 10, 11, 12, 13, 14] rfl rfl rfl rfl gX8_right_X8_blockOfCell rfl ⟨rfl, rfl⟩ kX8_blockOfCell ⟨Nat.le_of_ble_eq_true rfl, Nat.le_of_ble_eq_true rfl⟩ rfl rfl rfl hl.1 (Nat.le_of_ble_eq_true rfl) ⟨Nat.le_of_ble_eq_true rfl, Nat.le_of_ble_eq_true rfl⟩ dX8_right_49 (fun H locs hH => ?_)
      refine lv_isub (pc := 52) hx hb dX8_right_52 ?_
      refine lv_iconst (v := 1) (pc := 53) hx hb dX8_right_53 zk_c1 ?_
      refine lv_isub (pc := 54) hx hb dX8_right_54 ?_
      obtain rfl := Option.some.inj h
      exact z_iret X hr hH dX8_right_55
    have h := zf zc4 h
    refine lv_iconst (v := 1) (pc := 39) hx hb dX8_right_39 zk_c1 ?_
    obtain rfl := Option.some.inj h
    exact z_iret X hr hH dX8_right_40
  have h := zt zc2 h
  refine lv_iconst (v := 2) (pc := 12) hx hb dX8_right_12 zk_c2 ?_
  obtain rfl := Option.some.inj h
  exact z_iret X hr hH dX8_right_13
set_option maxHeartbeats 4000000 in
set_option maxRecDepth 100000 in
theorem c_X8_run (l : Launch) (G : va_G) (cy : Nat → ClassId) (fu : Nat) (tq : Nat → Nat) (hq : Nat → Nat) (nq : Nat → Nat) (sq : Nat → Nat) (kq : Nat → Nat) (wq : Nat → Nat) (rq : Nat → Nat) (pq : Nat → Nat) (p_packed : Nat → Int32) (p_size : Int32) (e_num : Nat → Int32) (e_und : Nat → Int32) (t_draft : Value)  (rr : Int32 × (Nat → Int32) × (Nat → Int32)) (h : f_X8_run fu p_packed p_size e_num e_und = some rr) : zM l G cy yX8_run wsX8_run (zR 5 110) [.ref (tq 0)] (wS cy tq hq nq sq kq wq rq (.ref (pq 0)) t_draft ++ wE cy nq e_num e_und ++ wP cy pq p_packed p_size) (wS cy tq hq nq sq kq wq rq (.ref (pq 0)) t_draft ++ wE cy nq rr.2.1 rr.2.2 ++ wP cy pq p_packed p_size) (some (.int rr.1)) := by
  refine zM.mk (cc := cX8_run) (nL := 1) (ret := (some .int)) (by decide) rfl (Nat.le_of_ble_eq_true rfl) ?_
  intro p e s m below meth c A ls X hr hH hl
  replace X : zX p s m [.ref (tq 0)].toArray meth c RX8 cX8_run 1 wsX8_run G cy A := X
  have hx := X.1.1
  have hb := X.1.2.1
  replace hl : lv_has ls 1 [(0, .ref (tq 0))] := hl
  dsimp only [f_X8_run] at h
  refine lv_aload_n (pc := 0) hx hb dX8_run_0 rfl (lv_at hl 0 rfl) ?_
  refine z_get (pc := 1) (v := .ref (nq 0)) X iX8_run_X8 hH 0 rfl rfl 1 rfl (List.mem_of_getElem? (i := 1) rfl) rfl dX8_run_1 ?_
  refine lv_aload_n (pc := 4) hx hb dX8_run_4 rfl (lv_at hl 0 rfl) ?_
  refine z_get (pc := 5) (v := .ref (pq 0)) X iX8_run_X8 hH 0 rfl rfl 6 rfl (List.mem_of_getElem? (i := 2) rfl) rfl dX8_run_5 ?_
  obtain ⟨zr1, hzr1, h⟩ := zb h
  refine zcU (pc := 8) (As := [.ref (pq 0)]) (rest := []) (st1 := []) (ws' := wS cy tq hq nq sq kq wq rq (.ref (pq 0)) t_draft ++ wE cy nq zr1.1 zr1.2 ++ wP cy pq p_packed p_size) (wr := [((tq 0), .inr (7, [.ref (hq 0), .ref (nq 0), .ref (sq 0), .ref (kq 0), .ref (wq 0), .ref (rq 0), (.ref (pq 0)), t_draft]))]) (n := 1) (q0 := 0) X (c_X1_follow_e l G cy fu nq pq p_packed p_size e_num e_und zr1 hzr1) hH [1, 2, 3, 4, 5] [0] [0, 1, 2, 3, 4, 5] rfl rfl rfl rfl (va_cwU 1 X.1.2.2.2.2 gX8_run_X1_follow_u197X2 rfl rfl rfl rfl (by decide +kernel) ⟨Nat.le_of_ble_eq_true rfl, Nat.le_of_ble_eq_true rfl⟩) rfl rfl rfl rfl rfl hl.1 (Nat.le_of_ble_eq_true rfl) ⟨Nat.le_of_ble_eq_true rfl, Nat.le_of_ble_eq_true rfl⟩ dX8_run_8 (fun H locs hH => ?_)
  refine lv_aload_n (pc := 11) hx hb dX8_run_11 rfl (lv_at hl 0 rfl) ?_
  refine z_get (pc := 12) (v := .ref (pq 0)) X iX8_run_X8 hH 0 rfl rfl 6 rfl (List.mem_of_getElem? (i := 2) rfl) rfl dX8_run_12 ?_
  obtain ⟨zr2, hzr2, h⟩ := zb h
  refine zcV (pc := 15) (As := []) (rest := []) (st1 := [.int zr2]) (ws' := wS cy tq hq nq sq kq wq rq (.ref (pq 0)) t_draft ++ wE cy nq zr1.1 zr1.2 ++ wP cy pq p_packed p_size) (wr := [((tq 0), .inr (7, [.ref (hq 0), .ref (nq 0), .ref (sq 0), .ref (kq 0), .ref (wq 0), .ref (rq 0), (.ref (pq 0)), t_draft])), ((nq 0), .inr (1, [.ref (nq 1), .ref (nq 2)])), ((nq 1), .inl (cy 0, 256, .inl zr1.1)), ((nq 2), .inl (cy 0, 256, .inl zr1.2))]) (n := 0) (q0 := 0) X (c_X4_steps l G cy fu pq p_packed p_size zr2 hzr2) hH [4, 5] [0, 1, 2, 3] [0, 1, 2, 3, 4, 5] rfl rfl rfl rfl gX8_run_X4_steps rfl ⟨rfl, rfl⟩ kX4_steps ⟨Nat.le_of_ble_eq_true rfl, Nat.le_of_ble_eq_true rfl⟩ rfl rfl rfl rfl rfl hl.1 (Nat.le_of_ble_eq_true rfl) ⟨Nat.le_of_ble_eq_true rfl, Nat.le_of_ble_eq_true rfl⟩ dX8_run_15 (fun H locs hH => ?_)
  obtain rfl := Option.some.inj h
  exact z_iret X hr hH dX8_run_18
set_option maxHeartbeats 4000000 in
set_option maxRecDepth 100000 in
theorem c_X8_ticks (l : Launch) (G : va_G) (cy : Nat → ClassId) (fu : Nat) (tq : Nat → Nat) (hq : Nat → Nat) (nq : Nat → Nat) (sq : Nat → Nat) (kq : Nat → Nat) (wq : Nat → Nat) (rq : Nat → Nat) (pq : Nat → Nat) (h_alive : Nat → Int32) (h_late : Nat → Int32) (h_hbr : Nat → Int32) (h_rbh : Nat → Int32) (h_waits : Nat → Int32) (h_pers : Nat → Int32) (h_size : Int32) (h_ranks : Int32) (h_lines : Int32) (p_packed : Nat → Int32) (p_size : Int32) (k_ahead : Nat → Int32) (k_behind : Nat → Int32) (t_draft : Value)  (rr : Int32) (h : f_X8_ticks fu h_waits h_pers p_packed p_size = some rr) : zM l G cy yX8_ticks wsX8_ticks (zR 4 90) [.ref (tq 0)] (wS cy tq hq nq sq kq wq rq (.ref (pq 0)) t_draft ++ wK cy kq k_ahead k_behind ++ wP cy pq p_packed p_size ++ wH cy hq h_alive h_late h_hbr h_rbh h_waits h_pers h_size h_ranks h_lines) (wS cy tq hq nq sq kq wq rq (.ref (pq 0)) t_draft ++ wK cy kq k_ahead k_behind ++ wP cy pq p_packed p_size ++ wH cy hq h_alive h_late h_hbr h_rbh h_waits h_pers h_size h_ranks h_lines) (some (.int rr)) := by
  refine zM.mk (cc := cX8_ticks) (nL := 1) (ret := (some .int)) (by decide) rfl (Nat.le_of_ble_eq_true rfl) ?_
  intro p e s m below meth c A ls X hr hH hl
  replace X : zX p s m [.ref (tq 0)].toArray meth c RX8 cX8_ticks 1 wsX8_ticks G cy A := X
  have hx := X.1.1
  have hb := X.1.2.1
  replace hl : lv_has ls 1 [(0, .ref (tq 0))] := hl
  dsimp only [f_X8_ticks] at h
  refine lv_aload_n (pc := 0) hx hb dX8_ticks_0 rfl (lv_at hl 0 rfl) ?_
  refine z_get (pc := 1) (v := .ref (kq 0)) X iX8_ticks_X8 hH 0 rfl rfl 3 rfl (List.mem_of_getElem? (i := 1) rfl) rfl dX8_ticks_1 ?_
  refine lv_aload_n (pc := 4) hx hb dX8_ticks_4 rfl (lv_at hl 0 rfl) ?_
  refine z_get (pc := 5) (v := .ref (pq 0)) X iX8_ticks_X8 hH 0 rfl rfl 6 rfl (List.mem_of_getElem? (i := 2) rfl) rfl dX8_ticks_5 ?_
  refine lv_aload_n (pc := 8) hx hb dX8_ticks_8 rfl (lv_at hl 0 rfl) ?_
  refine z_get (pc := 9) (v := .ref (hq 0)) X iX8_ticks_X8 hH 0 rfl rfl 0 rfl (List.mem_of_getElem? (i := 3) rfl) rfl dX8_ticks_9 ?_
  obtain ⟨zr1, hzr1, h⟩ := zb h
  refine zcV (pc := 12) (As := [.ref (pq 0), .ref (hq 0)]) (rest := []) (st1 := [.int zr1]) (ws' := wS cy tq hq nq sq kq wq rq (.ref (pq 0)) t_draft ++ wK cy kq k_ahead k_behind ++ wP cy pq p_packed p_size ++ wH cy hq h_alive h_late h_hbr h_rbh h_waits h_pers h_size h_ranks h_lines) (wr := [((tq 0), .inr (7, [.ref (hq 0), .ref (nq 0), .ref (sq 0), .ref (kq 0), .ref (wq 0), .ref (rq 0), (.ref (pq 0)), t_draft]))]) (n := 2) (q0 := 0) X (c_X0_inStep l G cy fu kq pq hq h_alive h_late h_hbr h_rbh h_waits h_pers h_size h_ranks h_lines p_packed p_size k_ahead k_behind zr1 hzr1) hH [1, 2, 3, 4, 5, 6, 7, 8, 9, 10, 11, 12] [0] [0, 1, 2, 3, 4, 5, 6, 7, 8, 9, 10, 11, 12] rfl rfl rfl rfl gX8_ticks_X0_inStep rfl ⟨rfl, rfl⟩ kX0_inStep ⟨Nat.le_of_ble_eq_true rfl, Nat.le_of_ble_eq_true rfl⟩ rfl rfl rfl rfl rfl hl.1 (Nat.le_of_ble_eq_true rfl) ⟨Nat.le_of_ble_eq_true rfl, Nat.le_of_ble_eq_true rfl⟩ dX8_ticks_12 (fun H locs hH => ?_)
  obtain rfl := Option.some.inj h
  exact z_iret X hr hH dX8_ticks_15
set_option maxHeartbeats 4000000 in
set_option maxRecDepth 100000 in
theorem c_X8_freely (l : Launch) (G : va_G) (cy : Nat → ClassId) (fu : Nat) (tq : Nat → Nat) (hq : Nat → Nat) (nq : Nat → Nat) (sq : Nat → Nat) (kq : Nat → Nat) (wq : Nat → Nat) (rq : Nat → Nat) (pq : Nat → Nat) (h_alive : Nat → Int32) (h_late : Nat → Int32) (h_hbr : Nat → Int32) (h_rbh : Nat → Int32) (h_waits : Nat → Int32) (h_pers : Nat → Int32) (h_size : Int32) (h_ranks : Int32) (h_lines : Int32) (p_packed : Nat → Int32) (p_size : Int32) (k_ahead : Nat → Int32) (k_behind : Nat → Int32) (t_draft : Value) (x1 : Int32) (rr : Int32 × (Nat → Int32) × (Nat → Int32)) (h : f_X8_freely fu h_alive h_late h_waits h_pers h_size p_packed p_size k_ahead k_behind x1 = some rr) : zM l G cy yX8_freely wsX8_freely (zR 4 114) [.ref (tq 0), .int x1] (wS cy tq hq nq sq kq wq rq (.ref (pq 0)) t_draft ++ wH cy hq h_alive h_late h_hbr h_rbh h_waits h_pers h_size h_ranks h_lines ++ wK cy kq k_ahead k_behind ++ wP cy pq p_packed p_size) (wS cy tq hq nq sq kq wq rq (.ref (pq 0)) t_draft ++ wH cy hq h_alive h_late h_hbr h_rbh h_waits h_pers h_size h_ranks h_lines ++ wK cy kq rr.2.1 rr.2.2 ++ wP cy pq p_packed p_size) (some (.int rr.1)) := by
  refine zM.mk (cc := cX8_freely) (nL := 2) (ret := (some .int)) (by decide) rfl (Nat.le_of_ble_eq_true rfl) ?_
  intro p e s m below meth c A ls X hr hH hl
  replace X : zX p s m [.ref (tq 0), .int x1].toArray meth c RX8 cX8_freely 2 wsX8_freely G cy A := X
  have hx := X.1.1
  have hb := X.1.2.1
  replace hl : lv_has ls 2 [(0, .ref (tq 0)), (1, .int x1)] := hl
  dsimp only [f_X8_freely] at h
  refine lv_aload_n (pc := 0) hx hb dX8_freely_0 rfl (lv_at hl 0 rfl) ?_
  refine z_get (pc := 1) (v := .ref (hq 0)) X iX8_freely_X8 hH 0 rfl rfl 0 rfl (List.mem_of_getElem? (i := 1) rfl) rfl dX8_freely_1 ?_
  refine lv_iload_n (pc := 4) hx hb dX8_freely_4 rfl (lv_at hl 1 rfl) ?_
  obtain ⟨zr1, hzr1, h⟩ := zb h
  refine zcV (pc := 5) (As := [.int x1]) (rest := []) (st1 := [.int zr1]) (ws' := wS cy tq hq nq sq kq wq rq (.ref (pq 0)) t_draft ++ wH cy hq h_alive h_late h_hbr h_rbh h_waits h_pers h_size h_ranks h_lines ++ wK cy kq k_ahead k_behind ++ wP cy pq p_packed p_size) (wr := [((tq 0), .inr (7, [.ref (hq 0), .ref (nq 0), .ref (sq 0), .ref (kq 0), .ref (wq 0), .ref (rq 0), (.ref (pq 0)), t_draft])), ((kq 0), .inr (0, [.ref (kq 1), .ref (kq 2)])), ((kq 1), .inl (cy 0, 16, .inl k_ahead)), ((kq 2), .inl (cy 0, 16, .inl k_behind)), ((pq 0), .inr (3, [.ref (pq 1), .int p_size])), ((pq 1), .inl (cy 0, 1200, .inl p_packed))]) (n := 1) (q0 := 0) X (c_X3_isLive l G cy fu hq h_alive h_late h_hbr h_rbh h_waits h_pers h_size h_ranks h_lines x1 zr1 hzr1) hH [1, 2, 3, 4, 5, 6, 7] [0, 8, 9, 10, 11, 12] [0, 6, 7, 8, 9, 10, 11, 12, 1, 2, 3, 4, 5] rfl rfl rfl rfl gX8_freely_X3_isLive rfl ⟨rfl, rfl⟩ kX3_isLive ⟨Nat.le_of_ble_eq_true rfl, Nat.le_of_ble_eq_true rfl⟩ rfl rfl rfl rfl rfl hl.1 (Nat.le_of_ble_eq_true rfl) ⟨Nat.le_of_ble_eq_true rfl, Nat.le_of_ble_eq_true rfl⟩ dX8_freely_5 (fun H locs hH => ?_)
  refine lv_if_ne (pc := 8) (tgt := 13) hx hb dX8_freely_8 rfl (fun zc2 => ?_) (fun zc2 => ?_)
  · have h := zf zc2 h
    refine lv_aload_n (pc := 13) hx hb dX8_freely_13 rfl (lv_at hl 0 rfl) ?_
    refine z_get (pc := 14) (v := .ref (kq 0)) X iX8_freely_X8 hH 0 rfl rfl 3 rfl (List.mem_of_getElem? (i := 2) rfl) rfl dX8_freely_14 ?_
    refine lv_iload_n (pc := 17) hx hb dX8_freely_17 rfl (lv_at hl 1 rfl) ?_
    refine lv_aload_n (pc := 18) hx hb dX8_freely_18 rfl (lv_at hl 0 rfl) ?_
    refine z_get (pc := 19) (v := .ref (pq 0)) X iX8_freely_X8 hH 0 rfl rfl 6 rfl (List.mem_of_getElem? (i := 3) rfl) rfl dX8_freely_19 ?_
    refine lv_aload_n (pc := 22) hx hb dX8_freely_22 rfl (lv_at hl 0 rfl) ?_
    refine z_get (pc := 23) (v := .ref (hq 0)) X iX8_freely_X8 hH 0 rfl rfl 0 rfl (List.mem_of_getElem? (i := 1) rfl) rfl dX8_freely_23 ?_
    obtain ⟨zr3, hzr3, h⟩ := zb h
    refine zcV (pc := 26) (As := [.int x1, .ref (pq 0), .ref (hq 0)]) (rest := []) (st1 := [.int zr3.1]) (ws' := wS cy tq hq nq sq kq wq rq (.ref (pq 0)) t_draft ++ wH cy hq h_alive h_late h_hbr h_rbh h_waits h_pers h_size h_ranks h_lines ++ wK cy kq zr3.2.1 zr3.2.2 ++ wP cy pq p_packed p_size) (wr := [((tq 0), .inr (7, [.ref (hq 0), .ref (nq 0), .ref (sq 0), .ref (kq 0), .ref (wq 0), .ref (rq 0), (.ref (pq 0)), t_draft]))]) (n := 3) (q0 := 0) X (c_X0_endOf l G cy fu kq pq hq h_alive h_late h_hbr h_rbh h_waits h_pers h_size h_ranks h_lines p_packed p_size k_ahead k_behind x1 zr3 hzr3) hH [8, 9, 10, 11, 12, 1, 2, 3, 4, 5, 6, 7] [0] [0, 6, 7, 8, 9, 10, 11, 12, 1, 2, 3, 4, 5] rfl rfl rfl rfl gX8_freely_X0_endOf rfl ⟨rfl, rfl⟩ kX0_endOf ⟨Nat.le_of_ble_eq_true rfl, Nat.le_of_ble_eq_true rfl⟩ rfl rfl rfl rfl rfl hl.1 (Nat.le_of_ble_eq_true rfl) ⟨Nat.le_of_ble_eq_true rfl, Nat.le_of_ble_eq_true rfl⟩ dX8_freely_26 (fun H locs hH => ?_)
    obtain rfl := Option.some.inj h
    exact z_iret X hr hH dX8_freely_29
  have h := zt zc2 h
  refine lv_iconst (v := (-1)) (pc := 11) hx hb dX8_freely_11 zk_cm1 ?_
  obtain rfl := Option.some.inj h
  exact z_iret X hr hH dX8_freely_12
set_option maxHeartbeats 4000000 in
set_option maxRecDepth 100000 in
theorem c_X8_draftTicks (l : Launch) (G : va_G) (cy : Nat → ClassId) (fu : Nat) (tq : Nat → Nat) (hq : Nat → Nat) (nq : Nat → Nat) (sq : Nat → Nat) (kq : Nat → Nat) (wq : Nat → Nat) (rq : Nat → Nat) (dq : Nat → Nat) (h_alive : Nat → Int32) (h_late : Nat → Int32) (h_hbr : Nat → Int32) (h_rbh : Nat → Int32) (h_waits : Nat → Int32) (h_pers : Nat → Int32) (h_size : Int32) (h_ranks : Int32) (h_lines : Int32) (d_packed : Nat → Int32) (d_size : Int32) (k_ahead : Nat → Int32) (k_behind : Nat → Int32) (t_plan : Value) (x1 : Int32) (rr : Int32) (h : f_X8_draftTicks fu h_waits h_pers d_packed d_size x1 = some rr) : zM l G cy yX8_draftTicks wsX8_draftTicks (zR 4 90) [.ref (tq 0), .int x1] (wS cy tq hq nq sq kq wq rq t_plan (.ref (dq 0)) ++ wK cy kq k_ahead k_behind ++ wP cy dq d_packed d_size ++ wH cy hq h_alive h_late h_hbr h_rbh h_waits h_pers h_size h_ranks h_lines) (wS cy tq hq nq sq kq wq rq t_plan (.ref (dq 0)) ++ wK cy kq k_ahead k_behind ++ wP cy dq d_packed d_size ++ wH cy hq h_alive h_late h_hbr h_rbh h_waits h_pers h_size h_ranks h_lines) (some (.int rr)) := by
  refine zM.mk (cc := cX8_draftTicks) (nL := 2) (ret := (some .int)) (by decide) rfl (Nat.le_of_ble_eq_true rfl) ?_
  intro p e s m below meth c A ls X hr hH hl
  replace X : zX p s m [.ref (tq 0), .int x1].toArray meth c RX8 cX8_draftTicks 2 wsX8_draftTicks G cy A := X
  have hx := X.1.1
  have hb := X.1.2.1
  replace hl : lv_has ls 2 [(0, .ref (tq 0)), (1, .int x1)] := hl
  dsimp only [f_X8_draftTicks] at h
  refine lv_iload_n (pc := 0) hx hb dX8_draftTicks_0 rfl (lv_at hl 1 rfl) ?_
  refine lv_if_ge (pc := 1) (tgt := 8) hx hb dX8_draftTicks_1 rfl (fun zc1 => ?_) (fun zc1 => ?_)
  · have h := zt zc1 h
    refine lv_aload_n (pc := 8) hx hb dX8_draftTicks_8 rfl (lv_at hl 0 rfl) ?_
    refine z_get (pc := 9) (v := .ref (kq 0)) X iX8_draftTicks_X8 hH 0 rfl rfl 3 rfl (List.mem_of_getElem? (i := 1) rfl) rfl dX8_draftTicks_9 ?_
    refine lv_aload_n (pc := 12) hx hb dX8_draftTicks_12 rfl (lv_at hl 0 rfl) ?_
    refine z_get (pc := 13) (v := .ref (dq 0)) X iX8_draftTicks_X8 hH 0 rfl rfl 7 rfl (List.mem_of_getElem? (i := 2) rfl) rfl dX8_draftTicks_13 ?_
    refine lv_aload_n (pc := 16) hx hb dX8_draftTicks_16 rfl (lv_at hl 0 rfl) ?_
    refine z_get (pc := 17) (v := .ref (hq 0)) X iX8_draftTicks_X8 hH 0 rfl rfl 0 rfl (List.mem_of_getElem? (i := 3) rfl) rfl dX8_draftTicks_17 ?_
    obtain ⟨zr2, hzr2, h⟩ := zb h
    refine zcV (pc := 20) (As := [.ref (dq 0), .ref (hq 0)]) (rest := []) (st1 := [.int zr2]) (ws' := wS cy tq hq nq sq kq wq rq t_plan (.ref (dq 0)) ++ wK cy kq k_ahead k_behind ++ wP cy dq d_packed d_size ++ wH cy hq h_alive h_late h_hbr h_rbh h_waits h_pers h_size h_ranks h_lines) (wr := [((tq 0), .inr (7, [.ref (hq 0), .ref (nq 0), .ref (sq 0), .ref (kq 0), .ref (wq 0), .ref (rq 0), t_plan, (.ref (dq 0))]))]) (n := 2) (q0 := 0) X (c_X0_inStep l G cy fu kq dq hq h_alive h_late h_hbr h_rbh h_waits h_pers h_size h_ranks h_lines d_packed d_size k_ahead k_behind zr2 hzr2) hH [1, 2, 3, 4, 5, 6, 7, 8, 9, 10, 11, 12] [0] [0, 1, 2, 3, 4, 5, 6, 7, 8, 9, 10, 11, 12] rfl rfl rfl rfl gX8_draftTicks_X0_inStep rfl ⟨rfl, rfl⟩ kX0_inStep ⟨Nat.le_of_ble_eq_true rfl, Nat.le_of_ble_eq_true rfl⟩ rfl rfl rfl rfl rfl hl.1 (Nat.le_of_ble_eq_true rfl) ⟨Nat.le_of_ble_eq_true rfl, Nat.le_of_ble_eq_true rfl⟩ dX8_draftTicks_20 (fun H locs hH => ?_)
    obtain rfl := Option.some.inj h
    exact z_iret X hr hH dX8_draftTicks_23
  have h := zf zc1 h
  refine lv_iload_n (pc := 4) hx hb dX8_draftTicks_4 rfl (lv_at hl 1 rfl) ?_
  refine lv_goto (pc := 5) (tgt := 23) hx hb dX8_draftTicks_5 rfl ?_
  obtain rfl := Option.some.inj h
  exact z_iret X hr hH dX8_draftTicks_23
set_option maxHeartbeats 4000000 in
set_option maxRecDepth 100000 in
theorem w_X8_best_l23 {p : Program} {l : Launch} {e : Env} {s : State} {m : MethodId} {args : Array Value} {below : List Frame} {meth : Method} {c : Code} {A : Nat → Prop} {Q : State → Prop} (G : va_G) (cy : Nat → ClassId) (fu : Nat) (tq : Nat → Nat) (hq : Nat → Nat) (nq : Nat → Nat) (sq : Nat → Nat) (kq : Nat → Nat) (wq : Nat → Nat) (rq : Nat → Nat) (dq : Nat → Nat) (h_alive : Nat → Int32) (h_late : Nat → Int32) (h_hbr : Nat → Int32) (h_rbh : Nat → Int32) (h_waits : Nat → Int32) (h_pers : Nat → Int32) (h_size : Int32) (h_ranks : Int32) (h_lines : Int32) (k_ahead : Nat → Int32) (k_behind : Nat → Int32) (t_plan : Value) (x1 : Int32) (x2 : Int32) (X : zX p s m args meth c RX8 cX8_best 7 wsX8_best G cy A) : ∀ (n : Nat) (x3 : Int32) (x4 : Int32) (x5 : Int32) (d_packed : Nat → Int32) (d_size : Int32) (w_drawn : Value) (w_house : Value) (w_m : Int32) (w_root : Int32) (w_step : Int32) (w_lacks : Int32) (rr : Int32 × (Nat → Int32) × Int32 × Value × Value × Int32 × Int32 × Int32 × Int32) (h : lp (f_X8_best_l23 fu hq dq h_alive h_hbr h_rbh h_waits h_pers h_size h_ranks x1 x2) n (x3, x4, x5, d_packed, d_size, w_drawn, w_house, w_m, w_root, w_step, w_lacks) = some rr) (H : Heap) (locs : List Loc) (ls : Array Slot) (hH : zH G A s.heap (wS cy tq hq nq sq kq wq rq t_plan (.ref (dq 0)) ++ wW cy wq w_drawn w_house w_m w_root w_step w_lacks ++ wP cy dq d_packed d_size ++ wH cy hq h_alive h_late h_hbr h_rbh h_waits h_pers h_size h_ranks h_lines ++ wK cy kq k_ahead k_behind) H locs) (hl : lv_has ls 7 [(0, .ref (tq 0)), (1, .int x1), (2, .int x2), (3, .int x3), (4, .int x4), (5, .int x5)]) (K0 : ∀ (H : Heap) (locs : List Loc) (ls : Array Slot), zH G A s.heap (wS cy tq hq nq sq kq wq rq t_plan (.ref (dq 0)) ++ wW cy wq rr.2.2.2.1 rr.2.2.2.2.1 rr.2.2.2.2.2.1 rr.2.2.2.2.2.2.1 rr.2.2.2.2.2.2.2.1 rr.2.2.2.2.2.2.2.2 ++ wP cy dq rr.2.1 rr.2.2.1 ++ wH cy hq h_alive h_late h_hbr h_rbh h_waits h_pers h_size h_ranks h_lines ++ wK cy kq k_ahead k_behind) H locs → lv_has ls 7 [(4, .int rr.1)] → W p l e (zR 6 150) s m args below meth c H locs 0 0 Q (F0 m 85 ls [])), W p l e (zR 6 150) s m args below meth c H locs 0 0 Q (F0 m 23 ls []) := by
  have hx := X.1.1
  have hb := X.1.2.1
  intro n
  induction n with
  | zero => intro x3 x4 x5 d_packed d_size w_drawn w_house w_m w_root w_step w_lacks rr h H locs ls hH hl K0; cases h
  | succ n ih =>
    intro x3 x4 x5 d_packed d_size w_drawn w_house w_m w_root w_step w_lacks rr h H locs ls hH hl K0
    replace h : f_X8_best_l23 fu hq dq h_alive h_hbr h_rbh h_waits h_pers h_size h_ranks x1 x2 (lp (f_X8_best_l23 fu hq dq h_alive h_hbr h_rbh h_waits h_pers h_size h_ranks x1 x2) n) (x3, x4, x5, d_packed, d_size, w_drawn, w_house, w_m, w_root, w_step, w_lacks) = some rr := h
    dsimp only [f_X8_best_l23] at h
    refine lv_iload (pc := 23) hx hb dX8_best_23 (lv_at hl 5 rfl) ?_
    refine lv_iconst (v := 3) (pc := 25) hx hb dX8_best_25 zk_c3 ?_
    refine lv_icmp_gt (pc := 26) (tgt := 85) hx hb dX8_best_26 rfl (fun zc1 => ?_) (fun zc1 => ?_)
    · have h := zt zc1 h
      obtain rfl := Option.some.inj h
      exact K0 _ _ _ hH (lv_sub hl [4] rfl)
    have h := zf zc1 h
    refine lv_aload_n (pc := 29) hx hb dX8_best_29 rfl (lv_at hl 0 rfl) ?_
    refine lv_aload_n (pc := 30) hx hb dX8_best_30 rfl (lv_at hl 0 rfl) ?_
    refine z_get (pc := 31) (v := .ref (wq 0)) X iX8_best_X8 hH 0 rfl rfl 4 rfl (List.mem_of_getElem? (i := 2) rfl) rfl dX8_best_31 ?_
    refine lv_aload_n (pc := 34) hx hb dX8_best_34 rfl (lv_at hl 0 rfl) ?_
    refine z_get (pc := 35) (v := .ref (dq 0)) X iX8_best_X8 hH 0 rfl rfl 7 rfl (List.mem_of_getElem? (i := 3) rfl) rfl dX8_best_35 ?_
    refine lv_aload_n (pc := 38) hx hb dX8_best_38 rfl (lv_at hl 0 rfl) ?_
    refine z_get (pc := 39) (v := .ref (hq 0)) X iX8_best_X8 hH 0 rfl rfl 0 rfl (List.mem_of_getElem? (i := 1) rfl) rfl dX8_best_39 ?_
    refine lv_iload (pc := 42) hx hb dX8_best_42 (lv_at hl 5 rfl) ?_
    refine lv_iload_n (pc := 44) hx hb dX8_best_44 rfl (lv_at hl 1 rfl) ?_
    refine lv_iload_n (pc := 45) hx hb dX8_best_45 rfl (lv_at hl 2 rfl) ?_
    obtain ⟨zr2, hzr2, h⟩ := zb h
    refine zcV (pc := 46) (As := [.ref (dq 0), .ref (hq 0), .int x5, .int x1, .int x2]) (rest := [.ref (tq 0)]) (st1 := [.int zr2.1, .ref (tq 0)]) (ws' := wS cy tq hq nq sq kq wq rq t_plan (.ref (dq 0)) ++ wW cy wq zr2.2.2.2.1 zr2.2.2.2.2.1 zr2.2.2.2.2.2.1 zr2.2.2.2.2.2.2.1 zr2.2.2.2.2.2.2.2.1 zr2.2.2.2.2.2.2.2.2 ++ wP cy dq zr2.2.1 zr2.2.2.1 ++ wH cy hq h_alive h_late h_hbr h_rbh h_waits h_pers h_size h_ranks h_lines ++ wK cy kq k_ahead k_behind) (wr := [((tq 0), .inr (7, [.ref (hq 0), .ref (nq 0), .ref (sq 0), .ref (kq 0), .ref (wq 0), .ref (rq 0), t_plan, (.ref (dq 0))])), ((kq 0), .inr (0, [.ref (kq 1), .ref (kq 2)])), ((kq 1), .inl (cy 0, 16, .inl k_ahead)), ((kq 2), .inl (cy 0, 16, .inl k_behind))]) (n := 5) (q0 := 0) X (c_X7_draw l G cy fu wq dq hq h_alive h_late h_hbr h_rbh h_waits h_pers h_size h_ranks h_lines d_packed d_size w_drawn w_house w_m w_root w_step w_lacks x5 x1 x2 zr2 hzr2) hH [1, 2, 3, 4, 5, 6, 7, 8, 9, 10] [0, 11, 12, 13] [0, 4, 5, 6, 7, 8, 9, 10, 11, 12, 13, 1, 2, 3] rfl rfl rfl rfl gX8_best_X7_draw rfl ⟨rfl, rfl⟩ kX7_draw ⟨Nat.le_of_ble_eq_true rfl, Nat.le_of_ble_eq_true rfl⟩ rfl rfl rfl rfl rfl hl.1 (Nat.le_of_ble_eq_true rfl) ⟨Nat.le_of_ble_eq_true rfl, Nat.le_of_ble_eq_true rfl⟩ dX8_best_46 (fun H locs hH => ?_)
    obtain ⟨zr3, hzr3, h⟩ := zb h
    refine zcV (pc := 49) (As := [.int zr2.1]) (rest := []) (st1 := [.int zr3]) (ws' := wS cy tq hq nq sq kq wq rq t_plan (.ref (dq 0)) ++ wW cy wq zr2.2.2.2.1 zr2.2.2.2.2.1 zr2.2.2.2.2.2.1 zr2.2.2.2.2.2.2.1 zr2.2.2.2.2.2.2.2.1 zr2.2.2.2.2.2.2.2.2 ++ wP cy dq zr2.2.1 zr2.2.2.1 ++ wH cy hq h_alive h_late h_hbr h_rbh h_waits h_pers h_size h_ranks h_lines ++ wK cy kq k_ahead k_behind) (wr := [((wq 0), .inr (6, [zr2.2.2.2.1, zr2.2.2.2.2.1, .int zr2.2.2.2.2.2.1, .int zr2.2.2.2.2.2.2.1, .int zr2.2.2.2.2.2.2.2.1, .int zr2.2.2.2.2.2.2.2.2]))]) (n := 1) (q0 := 0) X (c_X8_draftTicks l G cy fu tq hq nq sq kq wq rq dq h_alive h_late h_hbr h_rbh h_waits h_pers h_size h_ranks h_lines zr2.2.1 zr2.2.2.1 k_ahead k_behind t_plan zr2.1 zr3 hzr3) hH [0, 11, 12, 13, 2, 3, 4, 5, 6, 7, 8, 9, 10] [1] [1, 0, 5, 6, 7, 8, 9, 10, 11, 12, 13, 2, 3, 4] rfl rfl rfl rfl gX8_best_X8_draftTicks rfl ⟨rfl, rfl⟩ kX8_draftTicks ⟨Nat.le_of_ble_eq_true rfl, Nat.le_of_ble_eq_true rfl⟩ rfl rfl rfl rfl rfl hl.1 (Nat.le_of_ble_eq_true rfl) ⟨Nat.le_of_ble_eq_true rfl, Nat.le_of_ble_eq_true rfl⟩ dX8_best_49 (fun H locs hH => ?_)
    refine lv_istore (pc := 52) (lv' := [(6, .int zr3), (0, .ref (tq 0)), (1, .int x1), (2, .int x2), (3, .int x3), (4, .int x4), (5, .int x5)]) hx hb dX8_best_52 hl (by decide) rfl (fun ls hl => ?_)
    refine lv_iload (pc := 54) hx hb dX8_best_54 (lv_at hl 0 rfl) ?_
    refine lv_if_lt (pc := 56) (tgt := 79) hx hb dX8_best_56 rfl (fun zc4 => ?_) (fun zc4 => ?_)
    · have h := zt zc4 h
      refine lv_iinc (pc := 79) (v := (x5 + 1)) (lv' := [(5, .int (x5 + 1)), (6, .int zr3), (0, .ref (tq 0)), (1, .int x1), (2, .int x2), (3, .int x3), (4, .int x4)]) hx hb dX8_best_79 hl (k := 6) rfl (by rw [zk_c1]) (by decide) rfl (fun ls hl => ?_)
      refine lv_goto (pc := 82) (tgt := 23) hx hb dX8_best_82 rfl ?_
      exact ih x3 x4 (x5 + 1) zr2.2.1 zr2.2.2.1 zr2.2.2.2.1 zr2.2.2.2.2.1 zr2.2.2.2.2.2.1 zr2.2.2.2.2.2.2.1 zr2.2.2.2.2.2.2.2.1 zr2.2.2.2.2.2.2.2.2 rr h _ _ _ hH (lv_sub hl [2, 3, 4, 5, 6, 0] rfl) K0
    have h := zf zc4 h
    refine lv_iload (pc := 59) hx hb dX8_best_59 (lv_at hl 5 rfl) ?_
    refine lv_bipush (v := (-2)) (pc := 61) hx hb dX8_best_61 zk_bm2 ?_
    refine lv_icmp_eq (pc := 63) (tgt := 72) hx hb dX8_best_63 rfl (fun zc5 => ?_) (fun zc5 => ?_)
    · have h := zt zc5 h
      refine lv_iload (pc := 72) hx hb dX8_best_72 (lv_at hl 0 rfl) ?_
      refine lv_istore_n (pc := 74) (lv' := [(3, .int zr3), (6, .int zr3), (0, .ref (tq 0)), (1, .int x1), (2, .int x2), (4, .int x4), (5, .int x5)]) hx hb dX8_best_74 rfl hl (by decide) rfl (fun ls hl => ?_)
      refine lv_iload (pc := 75) hx hb dX8_best_75 (lv_at hl 6 rfl) ?_
      refine lv_istore (pc := 77) (lv' := [(4, .int x5), (3, .int zr3), (6, .int zr3), (0, .ref (tq 0)), (1, .int x1), (2, .int x2), (5, .int x5)]) hx hb dX8_best_77 hl (by decide) rfl (fun ls hl => ?_)
      refine lv_iinc (pc := 79) (v := (x5 + 1)) (lv' := [(5, .int (x5 + 1)), (4, .int x5), (3, .int zr3), (6, .int zr3), (0, .ref (tq 0)), (1, .int x1), (2, .int x2)]) hx hb dX8_best_79 hl (k := 6) rfl (by rw [zk_c1]) (by decide) rfl (fun ls hl => ?_)
      refine lv_goto (pc := 82) (tgt := 23) hx hb dX8_best_82 rfl ?_
      exact ih zr3 x5 (x5 + 1) zr2.2.1 zr2.2.2.1 zr2.2.2.2.1 zr2.2.2.2.2.1 zr2.2.2.2.2.2.1 zr2.2.2.2.2.2.2.1 zr2.2.2.2.2.2.2.2.1 zr2.2.2.2.2.2.2.2.2 rr h _ _ _ hH (lv_sub hl [4, 5, 6, 2, 1, 0] rfl) K0
    have h := zf zc5 h
    refine lv_iload (pc := 66) hx hb dX8_best_66 (lv_at hl 0 rfl) ?_
    refine lv_iload_n (pc := 68) hx hb dX8_best_68 rfl (lv_at hl 4 rfl) ?_
    refine lv_icmp_ge (pc := 69) (tgt := 79) hx hb dX8_best_69 rfl (fun zc6 => ?_) (fun zc6 => ?_)
    · have h := zt zc6 h
      refine lv_iinc (pc := 79) (v := (x5 + 1)) (lv' := [(5, .int (x5 + 1)), (6, .int zr3), (0, .ref (tq 0)), (1, .int x1), (2, .int x2), (3, .int x3), (4, .int x4)]) hx hb dX8_best_79 hl (k := 6) rfl (by rw [zk_c1]) (by decide) rfl (fun ls hl => ?_)
      refine lv_goto (pc := 82) (tgt := 23) hx hb dX8_best_82 rfl ?_
      exact ih x3 x4 (x5 + 1) zr2.2.1 zr2.2.2.1 zr2.2.2.2.1 zr2.2.2.2.2.1 zr2.2.2.2.2.2.1 zr2.2.2.2.2.2.2.1 zr2.2.2.2.2.2.2.2.1 zr2.2.2.2.2.2.2.2.2 rr h _ _ _ hH (lv_sub hl [2, 3, 4, 5, 6, 0] rfl) K0
    have h := zf zc6 h
    refine lv_iload (pc := 72) hx hb dX8_best_72 (lv_at hl 0 rfl) ?_
    refine lv_istore_n (pc := 74) (lv' := [(3, .int zr3), (6, .int zr3), (0, .ref (tq 0)), (1, .int x1), (2, .int x2), (4, .int x4), (5, .int x5)]) hx hb dX8_best_74 rfl hl (by decide) rfl (fun ls hl => ?_)
    refine lv_iload (pc := 75) hx hb dX8_best_75 (lv_at hl 6 rfl) ?_
    refine lv_istore (pc := 77) (lv' := [(4, .int x5), (3, .int zr3), (6, .int zr3), (0, .ref (tq 0)), (1, .int x1), (2, .int x2), (5, .int x5)]) hx hb dX8_best_77 hl (by decide) rfl (fun ls hl => ?_)
    refine lv_iinc (pc := 79) (v := (x5 + 1)) (lv' := [(5, .int (x5 + 1)), (4, .int x5), (3, .int zr3), (6, .int zr3), (0, .ref (tq 0)), (1, .int x1), (2, .int x2)]) hx hb dX8_best_79 hl (k := 6) rfl (by rw [zk_c1]) (by decide) rfl (fun ls hl => ?_)
    refine lv_goto (pc := 82) (tgt := 23) hx hb dX8_best_82 rfl ?_
    exact ih zr3 x5 (x5 + 1) zr2.2.1 zr2.2.2.1 zr2.2.2.2.1 zr2.2.2.2.2.1 zr2.2.2.2.2.2.1 zr2.2.2.2.2.2.2.1 zr2.2.2.2.2.2.2.2.1 zr2.2.2.2.2.2.2.2.2 rr h _ _ _ hH (lv_sub hl [4, 5, 6, 2, 1, 0] rfl) K0
set_option maxHeartbeats 4000000 in
set_option maxRecDepth 100000 in
theorem c_X8_best (l : Launch) (G : va_G) (cy : Nat → ClassId) (fu : Nat) (tq : Nat → Nat) (hq : Nat → Nat) (nq : Nat → Nat) (sq : Nat → Nat) (kq : Nat → Nat) (wq : Nat → Nat) (rq : Nat → Nat) (dq : Nat → Nat) (h_alive : Nat → Int32) (h_late : Nat → Int32) (h_hbr : Nat → Int32) (h_rbh : Nat → Int32) (h_waits : Nat → Int32) (h_pers : Nat → Int32) (h_size : Int32) (h_ranks : Int32) (h_lines : Int32) (d_packed : Nat → Int32) (d_size : Int32) (k_ahead : Nat → Int32) (k_behind : Nat → Int32) (w_drawn : Value) (w_house : Value) (w_m : Int32) (w_root : Int32) (w_step : Int32) (w_lacks : Int32) (t_plan : Value) (x1 : Int32) (x2 : Int32) (rr : Int32 × (Nat → Int32) × Int32 × Value × Value × Int32 × Int32 × Int32 × Int32) (h : f_X8_best fu hq dq h_alive h_hbr h_rbh h_waits h_pers h_size h_ranks d_packed d_size w_drawn w_house w_m w_root w_step w_lacks x1 x2 = some rr) : zM l G cy yX8_best wsX8_best (zR 6 150) [.ref (tq 0), .int x1, .int x2] (wS cy tq hq nq sq kq wq rq t_plan (.ref (dq 0)) ++ wW cy wq w_drawn w_house w_m w_root w_step w_lacks ++ wP cy dq d_packed d_size ++ wH cy hq h_alive h_late h_hbr h_rbh h_waits h_pers h_size h_ranks h_lines ++ wK cy kq k_ahead k_behind) (wS cy tq hq nq sq kq wq rq t_plan (.ref (dq 0)) ++ wW cy wq rr.2.2.2.1 rr.2.2.2.2.1 rr.2.2.2.2.2.1 rr.2.2.2.2.2.2.1 rr.2.2.2.2.2.2.2.1 rr.2.2.2.2.2.2.2.2 ++ wP cy dq rr.2.1 rr.2.2.1 ++ wH cy hq h_alive h_late h_hbr h_rbh h_waits h_pers h_size h_ranks h_lines ++ wK cy kq k_ahead k_behind) (some (.int rr.1)) := by
  refine zM.mk (cc := cX8_best) (nL := 7) (ret := (some .int)) (by decide) rfl (Nat.le_of_ble_eq_true rfl) ?_
  intro p e s m below meth c A ls X hr hH hl
  replace X : zX p s m [.ref (tq 0), .int x1, .int x2].toArray meth c RX8 cX8_best 7 wsX8_best G cy A := X
  have hx := X.1.1
  have hb := X.1.2.1
  replace hl : lv_has ls 7 [(0, .ref (tq 0)), (1, .int x1), (2, .int x2)] := hl
  dsimp only [f_X8_best] at h
  refine lv_aload_n (pc := 0) hx hb dX8_best_0 rfl (lv_at hl 0 rfl) ?_
  refine z_get (pc := 1) (v := .ref (hq 0)) X iX8_best_X8 hH 0 rfl rfl 0 rfl (List.mem_of_getElem? (i := 1) rfl) rfl dX8_best_1 ?_
  refine lv_iload_n (pc := 4) hx hb dX8_best_4 rfl (lv_at hl 1 rfl) ?_
  refine lv_iload_n (pc := 5) hx hb dX8_best_5 rfl (lv_at hl 2 rfl) ?_
  obtain ⟨zr1, hzr1, h⟩ := zb h
  refine zcS (pc := 6) (As := [.ref (hq 0), .int x1, .int x2]) (rest := []) (st1 := [.int zr1]) (ws' := wS cy tq hq nq sq kq wq rq t_plan (.ref (dq 0)) ++ wW cy wq w_drawn w_house w_m w_root w_step w_lacks ++ wP cy dq d_packed d_size ++ wH cy hq h_alive h_late h_hbr h_rbh h_waits h_pers h_size h_ranks h_lines ++ wK cy kq k_ahead k_behind) (wr := [((tq 0), .inr (7, [.ref (hq 0), .ref (nq 0), .ref (sq 0), .ref (kq 0), .ref (wq 0), .ref (rq 0), t_plan, (.ref (dq 0))])), ((wq 0), .inr (6, [w_drawn, w_house, .int w_m, .int w_root, .int w_step, .int w_lacks])), ((dq 0), .inr (3, [.ref (dq 1), .int d_size])), ((dq 1), .inl (cy 0, 1200, .inl d_packed)), ((kq 0), .inr (0, [.ref (kq 1), .ref (kq 2)])), ((kq 1), .inl (cy 0, 16, .inl k_ahead)), ((kq 2), .inl (cy 0, 16, .inl k_behind))]) (n := 3) X (c_X8_isAsked l G cy fu hq h_alive h_late h_hbr h_rbh h_waits h_pers h_size h_ranks h_lines x1 x2 zr1 hzr1) hH [4, 5, 6, 7, 8, 9, 10] [0, 1, 2, 3, 11, 12, 13] [0, 1, 2, 3, 7, 8, 9, 10, 11, 12, 13, 4, 5, 6] rfl rfl rfl rfl gX8_best_X8_isAsked rfl ⟨rfl, rfl⟩ kX8_isAsked ⟨Nat.le_of_ble_eq_true rfl, Nat.le_of_ble_eq_true rfl⟩ rfl rfl rfl hl.1 (Nat.le_of_ble_eq_true rfl) ⟨Nat.le_of_ble_eq_true rfl, Nat.le_of_ble_eq_true rfl⟩ dX8_best_6 (fun H locs hH => ?_)
  refine lv_if_ne (pc := 9) (tgt := 14) hx hb dX8_best_9 rfl (fun zc2 => ?_) (fun zc2 => ?_)
  · have h := zf zc2 h
    refine lv_iconst (v := 0) (pc := 14) hx hb dX8_best_14 zk_c0 ?_
    refine lv_istore_n (pc := 15) (lv' := [(3, .int 0), (0, .ref (tq 0)), (1, .int x1), (2, .int x2)]) hx hb dX8_best_15 rfl hl (by decide) rfl (fun ls hl => ?_)
    refine lv_bipush (v := (-2)) (pc := 16) hx hb dX8_best_16 zk_bm2 ?_
    refine lv_istore (pc := 18) (lv' := [(4, .int (-2)), (3, .int 0), (0, .ref (tq 0)), (1, .int x1), (2, .int x2)]) hx hb dX8_best_18 hl (by decide) rfl (fun ls hl => ?_)
    refine lv_iconst (v := 0) (pc := 20) hx hb dX8_best_20 zk_c0 ?_
    refine lv_istore (pc := 21) (lv' := [(5, .int 0), (4, .int (-2)), (3, .int 0), (0, .ref (tq 0)), (1, .int x1), (2, .int x2)]) hx hb dX8_best_21 hl (by decide) rfl (fun ls hl => ?_)
    obtain ⟨zr3, hzr3, h⟩ := zb h
    refine w_X8_best_l23 G cy fu tq hq nq sq kq wq rq dq h_alive h_late h_hbr h_rbh h_waits h_pers h_size h_ranks h_lines k_ahead k_behind t_plan x1 x2 X fu 0 (-2) 0 d_packed d_size w_drawn w_house w_m w_root w_step w_lacks zr3 hzr3 _ _ _ hH (lv_sub hl [3, 4, 5, 2, 1, 0] rfl) (fun H locs ls hH hl => ?_)
    refine lv_iload (pc := 85) hx hb dX8_best_85 (lv_at hl 0 rfl) ?_
    obtain rfl := Option.some.inj h
    exact z_iret X hr hH dX8_best_87
  have h := zt zc2 h
  refine lv_iconst (v := (-1)) (pc := 12) hx hb dX8_best_12 zk_cm1 ?_
  obtain rfl := Option.some.inj h
  exact z_iret X hr hH dX8_best_13
set_option maxHeartbeats 4000000 in
set_option maxRecDepth 100000 in
theorem c_X8_price (l : Launch) (G : va_G) (cy : Nat → ClassId) (fu : Nat) (tq : Nat → Nat) (hq : Nat → Nat) (nq : Nat → Nat) (sq : Nat → Nat) (kq : Nat → Nat) (wq : Nat → Nat) (rq : Nat → Nat) (dq : Nat → Nat) (h_alive : Nat → Int32) (h_late : Nat → Int32) (h_hbr : Nat → Int32) (h_rbh : Nat → Int32) (h_waits : Nat → Int32) (h_pers : Nat → Int32) (h_size : Int32) (h_ranks : Int32) (h_lines : Int32) (d_packed : Nat → Int32) (d_size : Int32) (k_ahead : Nat → Int32) (k_behind : Nat → Int32) (w_drawn : Value) (w_house : Value) (w_m : Int32) (w_root : Int32) (w_step : Int32) (w_lacks : Int32) (t_plan : Value) (x1 : Int32) (x2 : Int32) (x3 : Int32) (rr : Int32 × (Nat → Int32) × Int32 × Value × Value × Int32 × Int32 × Int32 × Int32) (h : f_X8_price fu hq dq h_alive h_hbr h_rbh h_waits h_pers h_size h_ranks d_packed d_size w_drawn w_house w_m w_root w_step w_lacks x1 x2 x3 = some rr) : zM l G cy yX8_price wsX8_price (zR 6 150) [.ref (tq 0), .int x1, .int x2, .int x3] (wS cy tq hq nq sq kq wq rq t_plan (.ref (dq 0)) ++ wW cy wq w_drawn w_house w_m w_root w_step w_lacks ++ wP cy dq d_packed d_size ++ wH cy hq h_alive h_late h_hbr h_rbh h_waits h_pers h_size h_ranks h_lines ++ wK cy kq k_ahead k_behind) (wS cy tq hq nq sq kq wq rq t_plan (.ref (dq 0)) ++ wW cy wq rr.2.2.2.1 rr.2.2.2.2.1 rr.2.2.2.2.2.1 rr.2.2.2.2.2.2.1 rr.2.2.2.2.2.2.2.1 rr.2.2.2.2.2.2.2.2 ++ wP cy dq rr.2.1 rr.2.2.1 ++ wH cy hq h_alive h_late h_hbr h_rbh h_waits h_pers h_size h_ranks h_lines ++ wK cy kq k_ahead k_behind) (some (.int rr.1)) := by
  refine zM.mk (cc := cX8_price) (nL := 4) (ret := (some .int)) (by decide) rfl (Nat.le_of_ble_eq_true rfl) ?_
  intro p e s m below meth c A ls X hr hH hl
  replace X : zX p s m [.ref (tq 0), .int x1, .int x2, .int x3].toArray meth c RX8 cX8_price 4 wsX8_price G cy A := X
  have hx := X.1.1
  have hb := X.1.2.1
  replace hl : lv_has ls 4 [(0, .ref (tq 0)), (1, .int x1), (2, .int x2), (3, .int x3)] := hl
  dsimp only [f_X8_price] at h
  refine lv_aload_n (pc := 0) hx hb dX8_price_0 rfl (lv_at hl 0 rfl) ?_
  refine lv_aload_n (pc := 1) hx hb dX8_price_1 rfl (lv_at hl 0 rfl) ?_
  refine z_get (pc := 2) (v := .ref (wq 0)) X iX8_price_X8 hH 0 rfl rfl 4 rfl (List.mem_of_getElem? (i := 1) rfl) rfl dX8_price_2 ?_
  refine lv_aload_n (pc := 5) hx hb dX8_price_5 rfl (lv_at hl 0 rfl) ?_
  refine z_get (pc := 6) (v := .ref (dq 0)) X iX8_price_X8 hH 0 rfl rfl 7 rfl (List.mem_of_getElem? (i := 2) rfl) rfl dX8_price_6 ?_
  refine lv_aload_n (pc := 9) hx hb dX8_price_9 rfl (lv_at hl 0 rfl) ?_
  refine z_get (pc := 10) (v := .ref (hq 0)) X iX8_price_X8 hH 0 rfl rfl 0 rfl (List.mem_of_getElem? (i := 3) rfl) rfl dX8_price_10 ?_
  refine lv_iload_n (pc := 13) hx hb dX8_price_13 rfl (lv_at hl 1 rfl) ?_
  refine lv_iload_n (pc := 14) hx hb dX8_price_14 rfl (lv_at hl 2 rfl) ?_
  refine lv_iload_n (pc := 15) hx hb dX8_price_15 rfl (lv_at hl 3 rfl) ?_
  obtain ⟨zr1, hzr1, h⟩ := zb h
  refine zcV (pc := 16) (As := [.ref (dq 0), .ref (hq 0), .int x1, .int x2, .int x3]) (rest := [.ref (tq 0)]) (st1 := [.int zr1.1, .ref (tq 0)]) (ws' := wS cy tq hq nq sq kq wq rq t_plan (.ref (dq 0)) ++ wW cy wq zr1.2.2.2.1 zr1.2.2.2.2.1 zr1.2.2.2.2.2.1 zr1.2.2.2.2.2.2.1 zr1.2.2.2.2.2.2.2.1 zr1.2.2.2.2.2.2.2.2 ++ wP cy dq zr1.2.1 zr1.2.2.1 ++ wH cy hq h_alive h_late h_hbr h_rbh h_waits h_pers h_size h_ranks h_lines ++ wK cy kq k_ahead k_behind) (wr := [((tq 0), .inr (7, [.ref (hq 0), .ref (nq 0), .ref (sq 0), .ref (kq 0), .ref (wq 0), .ref (rq 0), t_plan, (.ref (dq 0))])), ((kq 0), .inr (0, [.ref (kq 1), .ref (kq 2)])), ((kq 1), .inl (cy 0, 16, .inl k_ahead)), ((kq 2), .inl (cy 0, 16, .inl k_behind))]) (n := 5) (q0 := 0) X (c_X7_draw l G cy fu wq dq hq h_alive h_late h_hbr h_rbh h_waits h_pers h_size h_ranks h_lines d_packed d_size w_drawn w_house w_m w_root w_step w_lacks x1 x2 x3 zr1 hzr1) hH [1, 2, 3, 4, 5, 6, 7, 8, 9, 10] [0, 11, 12, 13] [0, 4, 5, 6, 7, 8, 9, 10, 11, 12, 13, 1, 2, 3] rfl rfl rfl rfl gX8_price_X7_draw rfl ⟨rfl, rfl⟩ kX7_draw ⟨Nat.le_of_ble_eq_true rfl, Nat.le_of_ble_eq_true rfl⟩ rfl rfl rfl rfl rfl hl.1 (Nat.le_of_ble_eq_true rfl) ⟨Nat.le_of_ble_eq_true rfl, Nat.le_of_ble_eq_true rfl⟩ dX8_price_16 (fun H locs hH => ?_)
  obtain ⟨zr2, hzr2, h⟩ := zb h
  refine zcV (pc := 19) (As := [.int zr1.1]) (rest := []) (st1 := [.int zr2]) (ws' := wS cy tq hq nq sq kq wq rq t_plan (.ref (dq 0)) ++ wW cy wq zr1.2.2.2.1 zr1.2.2.2.2.1 zr1.2.2.2.2.2.1 zr1.2.2.2.2.2.2.1 zr1.2.2.2.2.2.2.2.1 zr1.2.2.2.2.2.2.2.2 ++ wP cy dq zr1.2.1 zr1.2.2.1 ++ wH cy hq h_alive h_late h_hbr h_rbh h_waits h_pers h_size h_ranks h_lines ++ wK cy kq k_ahead k_behind) (wr := [((wq 0), .inr (6, [zr1.2.2.2.1, zr1.2.2.2.2.1, .int zr1.2.2.2.2.2.1, .int zr1.2.2.2.2.2.2.1, .int zr1.2.2.2.2.2.2.2.1, .int zr1.2.2.2.2.2.2.2.2]))]) (n := 1) (q0 := 0) X (c_X8_draftTicks l G cy fu tq hq nq sq kq wq rq dq h_alive h_late h_hbr h_rbh h_waits h_pers h_size h_ranks h_lines zr1.2.1 zr1.2.2.1 k_ahead k_behind t_plan zr1.1 zr2 hzr2) hH [0, 11, 12, 13, 2, 3, 4, 5, 6, 7, 8, 9, 10] [1] [1, 0, 5, 6, 7, 8, 9, 10, 11, 12, 13, 2, 3, 4] rfl rfl rfl rfl gX8_price_X8_draftTicks rfl ⟨rfl, rfl⟩ kX8_draftTicks ⟨Nat.le_of_ble_eq_true rfl, Nat.le_of_ble_eq_true rfl⟩ rfl rfl rfl rfl rfl hl.1 (Nat.le_of_ble_eq_true rfl) ⟨Nat.le_of_ble_eq_true rfl, Nat.le_of_ble_eq_true rfl⟩ dX8_price_19 (fun H locs hH => ?_)
  obtain rfl := Option.some.inj h
  exact z_iret X hr hH dX8_price_22
set_option maxHeartbeats 4000000 in
set_option maxRecDepth 100000 in
theorem c_X8_fewest (l : Launch) (G : va_G) (cy : Nat → ClassId) (fu : Nat) (tq : Nat → Nat) (hq : Nat → Nat) (nq : Nat → Nat) (sq : Nat → Nat) (kq : Nat → Nat) (wq : Nat → Nat) (rq : Nat → Nat) (h_alive : Nat → Int32) (h_late : Nat → Int32) (h_hbr : Nat → Int32) (h_rbh : Nat → Int32) (h_waits : Nat → Int32) (h_pers : Nat → Int32) (h_size : Int32) (h_ranks : Int32) (h_lines : Int32) (r_joined : Nat → Int32) (r_steps : Nat → Int32) (r_reached : Nat → Int32) (r_m : Int32) (r_all : Int32) (t_plan : Value) (t_draft : Value) (x1 : Int32) (rr : Int32 × (Nat → Int32) × (Nat → Int32) × (Nat → Int32) × Int32 × Int32) (h : f_X8_fewest fu h_alive h_hbr h_rbh h_waits h_size h_ranks r_joined r_steps r_reached r_m r_all x1 = some rr) : zM l G cy yX8_fewest wsX8_fewest (zR 3 72) [.ref (tq 0), .int x1] (wS cy tq hq nq sq kq wq rq t_plan t_draft ++ wH cy hq h_alive h_late h_hbr h_rbh h_waits h_pers h_size h_ranks h_lines ++ wR cy rq r_joined r_steps r_reached r_m r_all) (wS cy tq hq nq sq kq wq rq t_plan t_draft ++ wH cy hq h_alive h_late h_hbr h_rbh h_waits h_pers h_size h_ranks h_lines ++ wR cy rq rr.2.1 rr.2.2.1 rr.2.2.2.1 rr.2.2.2.2.1 rr.2.2.2.2.2) (some (.int rr.1)) := by
  refine zM.mk (cc := cX8_fewest) (nL := 2) (ret := (some .int)) (by decide) rfl (Nat.le_of_ble_eq_true rfl) ?_
  intro p e s m below meth c A ls X hr hH hl
  replace X : zX p s m [.ref (tq 0), .int x1].toArray meth c RX8 cX8_fewest 2 wsX8_fewest G cy A := X
  have hx := X.1.1
  have hb := X.1.2.1
  replace hl : lv_has ls 2 [(0, .ref (tq 0)), (1, .int x1)] := hl
  dsimp only [f_X8_fewest] at h
  refine lv_aload_n (pc := 0) hx hb dX8_fewest_0 rfl (lv_at hl 0 rfl) ?_
  refine z_get (pc := 1) (v := .ref (hq 0)) X iX8_fewest_X8 hH 0 rfl rfl 0 rfl (List.mem_of_getElem? (i := 1) rfl) rfl dX8_fewest_1 ?_
  refine lv_iload_n (pc := 4) hx hb dX8_fewest_4 rfl (lv_at hl 1 rfl) ?_
  obtain ⟨zr1, hzr1, h⟩ := zb h
  refine zcV (pc := 5) (As := [.int x1]) (rest := []) (st1 := [.int zr1]) (ws' := wS cy tq hq nq sq kq wq rq t_plan t_draft ++ wH cy hq h_alive h_late h_hbr h_rbh h_waits h_pers h_size h_ranks h_lines ++ wR cy rq r_joined r_steps r_reached r_m r_all) (wr := [((tq 0), .inr (7, [.ref (hq 0), .ref (nq 0), .ref (sq 0), .ref (kq 0), .ref (wq 0), .ref (rq 0), t_plan, t_draft])), ((rq 0), .inr (4, [.ref (rq 1), .ref (rq 2), .ref (rq 3), .int r_m, .int r_all])), ((rq 1), .inl (cy 0, 8, .inl r_joined)), ((rq 2), .inl (cy 0, 256, .inl r_steps)), ((rq 3), .inl (cy 2, 256, .inl r_reached))]) (n := 1) (q0 := 0) X (c_X3_isLive l G cy fu hq h_alive h_late h_hbr h_rbh h_waits h_pers h_size h_ranks h_lines x1 zr1 hzr1) hH [1, 2, 3, 4, 5, 6, 7] [0, 8, 9, 10, 11] [0, 5, 6, 7, 8, 9, 10, 11, 1, 2, 3, 4] rfl rfl rfl rfl gX8_fewest_X3_isLive rfl ⟨rfl, rfl⟩ kX3_isLive ⟨Nat.le_of_ble_eq_true rfl, Nat.le_of_ble_eq_true rfl⟩ rfl rfl rfl rfl rfl hl.1 (Nat.le_of_ble_eq_true rfl) ⟨Nat.le_of_ble_eq_true rfl, Nat.le_of_ble_eq_true rfl⟩ dX8_fewest_5 (fun H locs hH => ?_)
  refine lv_if_eq (pc := 8) (tgt := 23) hx hb dX8_fewest_8 rfl (fun zc2 => ?_) (fun zc2 => ?_)
  · have h := zt zc2 h
    refine lv_iconst (v := (-1)) (pc := 23) hx hb dX8_fewest_23 zk_cm1 ?_
    obtain rfl := Option.some.inj h
    exact z_iret X hr hH dX8_fewest_24
  have h := zf zc2 h
  refine lv_aload_n (pc := 11) hx hb dX8_fewest_11 rfl (lv_at hl 0 rfl) ?_
  refine z_get (pc := 12) (v := .ref (hq 0)) X iX8_fewest_X8 hH 0 rfl rfl 0 rfl (List.mem_of_getElem? (i := 1) rfl) rfl dX8_fewest_12 ?_
  obtain ⟨zr3, hzr3, h⟩ := zb h
  refine zcV (pc := 15) (As := []) (rest := []) (st1 := [.int zr3]) (ws' := wS cy tq hq nq sq kq wq rq t_plan t_draft ++ wH cy hq h_alive h_late h_hbr h_rbh h_waits h_pers h_size h_ranks h_lines ++ wR cy rq r_joined r_steps r_reached r_m r_all) (wr := [((tq 0), .inr (7, [.ref (hq 0), .ref (nq 0), .ref (sq 0), .ref (kq 0), .ref (wq 0), .ref (rq 0), t_plan, t_draft])), ((rq 0), .inr (4, [.ref (rq 1), .ref (rq 2), .ref (rq 3), .int r_m, .int r_all])), ((rq 1), .inl (cy 0, 8, .inl r_joined)), ((rq 2), .inl (cy 0, 256, .inl r_steps)), ((rq 3), .inl (cy 2, 256, .inl r_reached))]) (n := 0) (q0 := 0) X (c_X3_ranks l G cy fu hq h_alive h_late h_hbr h_rbh h_waits h_pers h_size h_ranks h_lines zr3 hzr3) hH [1, 2, 3, 4, 5, 6, 7] [0, 8, 9, 10, 11] [0, 5, 6, 7, 8, 9, 10, 11, 1, 2, 3, 4] rfl rfl rfl rfl gX8_fewest_X3_ranks rfl ⟨rfl, rfl⟩ kX3_ranks ⟨Nat.le_of_ble_eq_true rfl, Nat.le_of_ble_eq_true rfl⟩ rfl rfl rfl rfl rfl hl.1 (Nat.le_of_ble_eq_true rfl) ⟨Nat.le_of_ble_eq_true rfl, Nat.le_of_ble_eq_true rfl⟩ dX8_fewest_15 (fun H locs hH => ?_)
  refine lv_bipush (v := 8) (pc := 18) hx hb dX8_fewest_18 zk_b8 ?_
  refine lv_icmp_le (pc := 20) (tgt := 25) hx hb dX8_fewest_20 rfl (fun zc4 => ?_) (fun zc4 => ?_)
  · have h := zt zc4 h
    refine lv_aload_n (pc := 25) hx hb dX8_fewest_25 rfl (lv_at hl 0 rfl) ?_
    refine z_get (pc := 26) (v := .ref (rq 0)) X iX8_fewest_X8 hH 0 rfl rfl 5 rfl (List.mem_of_getElem? (i := 2) rfl) rfl dX8_fewest_26 ?_
    refine lv_aload_n (pc := 29) hx hb dX8_fewest_29 rfl (lv_at hl 0 rfl) ?_
    refine z_get (pc := 30) (v := .ref (hq 0)) X iX8_fewest_X8 hH 0 rfl rfl 0 rfl (List.mem_of_getElem? (i := 1) rfl) rfl dX8_fewest_30 ?_
    refine lv_aload_n (pc := 33) hx hb dX8_fewest_33 rfl (lv_at hl 0 rfl) ?_
    refine z_get (pc := 34) (v := .ref (hq 0)) X iX8_fewest_X8 hH 0 rfl rfl 0 rfl (List.mem_of_getElem? (i := 1) rfl) rfl dX8_fewest_34 ?_
    refine lv_iload_n (pc := 37) hx hb dX8_fewest_37 rfl (lv_at hl 1 rfl) ?_
    obtain ⟨zr5, hzr5, h⟩ := zb h
    refine zcV (pc := 38) (As := [.int x1]) (rest := [.ref (hq 0), .ref (rq 0)]) (st1 := [.int zr5, .ref (hq 0), .ref (rq 0)]) (ws' := wS cy tq hq nq sq kq wq rq t_plan t_draft ++ wH cy hq h_alive h_late h_hbr h_rbh h_waits h_pers h_size h_ranks h_lines ++ wR cy rq r_joined r_steps r_reached r_m r_all) (wr := [((tq 0), .inr (7, [.ref (hq 0), .ref (nq 0), .ref (sq 0), .ref (kq 0), .ref (wq 0), .ref (rq 0), t_plan, t_draft])), ((rq 0), .inr (4, [.ref (rq 1), .ref (rq 2), .ref (rq 3), .int r_m, .int r_all])), ((rq 1), .inl (cy 0, 8, .inl r_joined)), ((rq 2), .inl (cy 0, 256, .inl r_steps)), ((rq 3), .inl (cy 2, 256, .inl r_reached))]) (n := 1) (q0 := 0) X (c_X3_rankOf l G cy fu hq h_alive h_late h_hbr h_rbh h_waits h_pers h_size h_ranks h_lines x1 zr5 hzr5) hH [1, 2, 3, 4, 5, 6, 7] [0, 8, 9, 10, 11] [0, 5, 6, 7, 8, 9, 10, 11, 1, 2, 3, 4] rfl rfl rfl rfl gX8_fewest_X3_rankOf rfl ⟨rfl, rfl⟩ kX3_rankOf ⟨Nat.le_of_ble_eq_true rfl, Nat.le_of_ble_eq_true rfl⟩ rfl rfl rfl rfl rfl hl.1 (Nat.le_of_ble_eq_true rfl) ⟨Nat.le_of_ble_eq_true rfl, Nat.le_of_ble_eq_true rfl⟩ dX8_fewest_38 (fun H locs hH => ?_)
    obtain ⟨zr6, hzr6, h⟩ := zb h
    refine zcV (pc := 41) (As := [.ref (hq 0), .int zr5]) (rest := []) (st1 := [.int zr6.1]) (ws' := wS cy tq hq nq sq kq wq rq t_plan t_draft ++ wH cy hq h_alive h_late h_hbr h_rbh h_waits h_pers h_size h_ranks h_lines ++ wR cy rq zr6.2.1 zr6.2.2.1 zr6.2.2.2.1 zr6.2.2.2.2.1 zr6.2.2.2.2.2) (wr := [((tq 0), .inr (7, [.ref (hq 0), .ref (nq 0), .ref (sq 0), .ref (kq 0), .ref (wq 0), .ref (rq 0), t_plan, t_draft]))]) (n := 2) (q0 := 0) X (c_X5_leastSteps l G cy fu rq hq h_alive h_late h_hbr h_rbh h_waits h_pers h_size h_ranks h_lines r_joined r_steps r_reached r_m r_all zr5 zr6 hzr6) hH [8, 9, 10, 11, 1, 2, 3, 4, 5, 6, 7] [0] [0, 5, 6, 7, 8, 9, 10, 11, 1, 2, 3, 4] rfl rfl rfl rfl gX8_fewest_X5_leastSteps rfl ⟨rfl, rfl⟩ kX5_leastSteps ⟨Nat.le_of_ble_eq_true rfl, Nat.le_of_ble_eq_true rfl⟩ rfl rfl rfl rfl rfl hl.1 (Nat.le_of_ble_eq_true rfl) ⟨Nat.le_of_ble_eq_true rfl, Nat.le_of_ble_eq_true rfl⟩ dX8_fewest_41 (fun H locs hH => ?_)
    obtain rfl := Option.some.inj h
    exact z_iret X hr hH dX8_fewest_44
  have h := zf zc4 h
  refine lv_iconst (v := (-1)) (pc := 23) hx hb dX8_fewest_23 zk_cm1 ?_
  obtain rfl := Option.some.inj h
  exact z_iret X hr hH dX8_fewest_24
set_option maxHeartbeats 4000000 in
set_option maxRecDepth 100000 in
theorem c_X9_thrown (l : Launch) (G : va_G) (cy : Nat → ClassId) (fu : Nat) (mq : Nat → Nat) (m_hosts : Int32) (m_lost : Nat → Int32) (m_late : Nat → Int32) (m_wait : Nat → Int32) (m_per : Nat → Int32) (m_blocks : Nat → Int32) (m_sends : Nat → Int32) (m_many : Int32) (m_made : Nat → Int32) (m_madeMany : Int32) (m_lacking : Int32) (m_thrown : Int32) (m_now : Nat → Int32) (m_ahead : Nat → Int32) (m_then : Nat → Int32) (m_time : Nat → Int32) (m_timeThen : Nat → Int32) (m_isThere : Nat → Int32) (m_comes : Nat → Int32)  (rr : Int32) (h : f_X9_thrown fu m_thrown = some rr) : zM l G cy yX9_thrown wsX9_thrown (zR 0 0) [.ref (mq 0)] (wM cy mq m_hosts m_lost m_late m_wait m_per m_blocks m_sends m_many m_made m_madeMany m_lacking m_thrown m_now m_ahead m_then m_time m_timeThen m_isThere m_comes) (wM cy mq m_hosts m_lost m_late m_wait m_per m_blocks m_sends m_many m_made m_madeMany m_lacking m_thrown m_now m_ahead m_then m_time m_timeThen m_isThere m_comes) (some (.int rr)) := by
  refine zM.mk (cc := cX9_thrown) (nL := 1) (ret := (some .int)) (by decide) rfl (Nat.le_of_ble_eq_true rfl) ?_
  intro p e s m below meth c A ls X hr hH hl
  replace X : zX p s m [.ref (mq 0)].toArray meth c RX9 cX9_thrown 1 wsX9_thrown G cy A := X
  have hx := X.1.1
  have hb := X.1.2.1
  replace hl : lv_has ls 1 [(0, .ref (mq 0))] := hl
  dsimp only [f_X9_thrown] at h
  refine lv_aload_n (pc := 0) hx hb dX9_thrown_0 rfl (lv_at hl 0 rfl) ?_
  refine z_get (pc := 1) (v := .int m_thrown) X iX9_thrown_X9 hH 0 rfl rfl 11 rfl (List.mem_of_getElem? (i := 1) rfl) rfl dX9_thrown_1 ?_
  obtain rfl := Option.some.inj h
  exact z_iret X hr hH dX9_thrown_4
set_option maxHeartbeats 4000000 in
set_option maxRecDepth 100000 in
theorem c_X9_in (l : Launch) (G : va_G) (cy : Nat → ClassId) (fu : Nat)   (x0 : Int32) (x1 : Int32) (x2 : Int32) (rr : Int32) (h : f_X9_in fu x0 x1 x2 = some rr) : zM l G cy yX9_in wsX9_in (zR 0 0) [.int x0, .int x1, .int x2] (([] : va_W)) (([] : va_W)) (some (.int rr)) := by
  refine zM.mk (cc := cX9_in) (nL := 3) (ret := (some .boolean)) (by decide) rfl (Nat.le_of_ble_eq_true rfl) ?_
  intro p e s m below meth c A ls X hr hH hl
  replace X : zX p s m [.int x0, .int x1, .int x2].toArray meth c RX9 cX9_in 3 wsX9_in G cy A := X
  have hx := X.1.1
  have hb := X.1.2.1
  replace hl : lv_has ls 3 [(0, .int x0), (1, .int x1), (2, .int x2)] := hl
  dsimp only [f_X9_in] at h
  refine lv_iload_n (pc := 0) hx hb dX9_in_0 rfl (lv_at hl 0 rfl) ?_
  refine lv_iload_n (pc := 1) hx hb dX9_in_1 rfl (lv_at hl 1 rfl) ?_
  refine lv_icmp_lt (pc := 2) (tgt := 14) hx hb dX9_in_2 rfl (fun zc1 => ?_) (fun zc1 => ?_)
  · have h := zt zc1 h
    refine lv_iconst (v := 0) (pc := 14) hx hb dX9_in_14 zk_c0 ?_
    obtain rfl := Option.some.inj h
    exact z_zret X hr (Or.inl rfl) hH dX9_in_15
  have h := zf zc1 h
  refine lv_iload_n (pc := 5) hx hb dX9_in_5 rfl (lv_at hl 0 rfl) ?_
  refine lv_iload_n (pc := 6) hx hb dX9_in_6 rfl (lv_at hl 2 rfl) ?_
  refine lv_icmp_gt (pc := 7) (tgt := 14) hx hb dX9_in_7 rfl (fun zc2 => ?_) (fun zc2 => ?_)
  · have h := zt zc2 h
    refine lv_iconst (v := 0) (pc := 14) hx hb dX9_in_14 zk_c0 ?_
    obtain rfl := Option.some.inj h
    exact z_zret X hr (Or.inl rfl) hH dX9_in_15
  have h := zf zc2 h
  refine lv_iconst (v := 1) (pc := 10) hx hb dX9_in_10 zk_c1 ?_
  refine lv_goto (pc := 11) (tgt := 15) hx hb dX9_in_11 rfl ?_
  obtain rfl := Option.some.inj h
  exact z_zret X hr (Or.inr rfl) hH dX9_in_15
