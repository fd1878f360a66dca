set_option maxHeartbeats 4000000 in
set_option maxRecDepth 100000 in
theorem c_J6_bitCount_0f7a4 (l : Launch) (G : va_G) (cy : Nat → ClassId) (fu : Nat)   (x0 : Int32) (rr : Int32) (h : f_J6_bitCount_0f7a4 fu x0 = some rr) : zM l G cy yJ6_bitCount_0f7a4 wsJ6_bitCount_0f7a4 (zR 0 0) [.int x0] (([] : va_W)) (([] : va_W)) (some (.int rr)) := by
  refine zM.mk (cc := cJ6_bitCount_0f7a4) (nL := 1) (ret := (some .int)) (by decide) rfl (Nat.le_of_ble_eq_true rfl) ?_
  intro p e s m below meth c A ls X hr hH hl
  replace X : zX p s m [.int x0].toArray meth c RJ6 cJ6_bitCount_0f7a4 1 wsJ6_bitCount_0f7a4 G cy A := X
  have hx := X.1.1
  have hb := X.1.2.1
  replace hl : lv_has ls 1 [(0, .int x0)] := hl
  dsimp only [f_J6_bitCount_0f7a4] at h
  refine lv_iload_n (pc := 0) hx hb dJ6_bitCount_0f7a4_0 rfl (lv_at hl 0 rfl) ?_
  refine lv_iload_n (pc := 1) hx hb dJ6_bitCount_0f7a4_1 rfl (lv_at hl 0 rfl) ?_
  refine lv_iconst (v := 1) (pc := 2) hx hb dJ6_bitCount_0f7a4_2 zk_c1 ?_
  refine lv_iushr (pc := 3) hx hb dJ6_bitCount_0f7a4_3 rfl ?_
  refine lv_ldcw (pc := 4) (v := 1431655765) hx hb X.1.2.2.2.1 (X.1.2.2.2.2 _ (List.mem_of_getElem? (i := 1) rfl)) dJ6_bitCount_0f7a4_4 ?_
  refine lv_iand (pc := 7) hx hb dJ6_bitCount_0f7a4_7 ?_
  refine lv_isub (pc := 8) hx hb dJ6_bitCount_0f7a4_8 ?_
  refine lv_topi (fun za1 eza1 => ?_)
  have h := vn_s h za1 eza1
  refine lv_istore_n (pc := 9) (lv' := [(0, .int za1)]) hx hb dJ6_bitCount_0f7a4_9 rfl hl (by decide) rfl (fun ls hl => ?_)
  refine lv_iload_n (pc := 10) hx hb dJ6_bitCount_0f7a4_10 rfl (lv_at hl 0 rfl) ?_
  refine lv_ldcw (pc := 11) (v := 858993459) hx hb X.1.2.2.2.1 (X.1.2.2.2.2 _ (List.mem_of_getElem? (i := 2) rfl)) dJ6_bitCount_0f7a4_11 ?_
  refine lv_iand (pc := 14) hx hb dJ6_bitCount_0f7a4_14 ?_
  refine lv_iload_n (pc := 15) hx hb dJ6_bitCount_0f7a4_15 rfl (lv_at hl 0 rfl) ?_
  refine lv_iconst (v := 2) (pc := 16) hx hb dJ6_bitCount_0f7a4_16 zk_c2 ?_
  refine lv_iushr (pc := 17) hx hb dJ6_bitCount_0f7a4_17 rfl ?_
  refine lv_ldcw (pc := 18) (v := 858993459) hx hb X.1.2.2.2.1 (X.1.2.2.2.2 _ (List.mem_of_getElem? (i := 2) rfl)) dJ6_bitCount_0f7a4_18 ?_
  refine lv_iand (pc := 21) hx hb dJ6_bitCount_0f7a4_21 ?_
  refine lv_iadd (pc := 22) hx hb dJ6_bitCount_0f7a4_22 ?_
  refine lv_topi (fun za2 eza2 => ?_)
  have h := vn_s h za2 eza2
  refine lv_istore_n (pc := 23) (lv' := [(0, .int za2)]) hx hb dJ6_bitCount_0f7a4_23 rfl hl (by decide) rfl (fun ls hl => ?_)
  refine lv_iload_n (pc := 24) hx hb dJ6_bitCount_0f7a4_24 rfl (lv_at hl 0 rfl) ?_
  refine lv_iload_n (pc := 25) hx hb dJ6_bitCount_0f7a4_25 rfl (lv_at hl 0 rfl) ?_
  refine lv_iconst (v := 4) (pc := 26) hx hb dJ6_bitCount_0f7a4_26 zk_c4 ?_
  refine lv_iushr (pc := 27) hx hb dJ6_bitCount_0f7a4_27 rfl ?_
  refine lv_iadd (pc := 28) hx hb dJ6_bitCount_0f7a4_28 ?_
  refine lv_ldcw (pc := 29) (v := 252645135) hx hb X.1.2.2.2.1 (X.1.2.2.2.2 _ (List.mem_of_getElem? (i := 3) rfl)) dJ6_bitCount_0f7a4_29 ?_
  refine lv_iand (pc := 32) hx hb dJ6_bitCount_0f7a4_32 ?_
  refine lv_topi (fun za3 eza3 => ?_)
  have h := vn_s h za3 eza3
  refine lv_istore_n (pc := 33) (lv' := [(0, .int za3)]) hx hb dJ6_bitCount_0f7a4_33 rfl hl (by decide) rfl (fun ls hl => ?_)
  refine lv_iload_n (pc := 34) hx hb dJ6_bitCount_0f7a4_34 rfl (lv_at hl 0 rfl) ?_
  refine lv_iload_n (pc := 35) hx hb dJ6_bitCount_0f7a4_35 rfl (lv_at hl 0 rfl) ?_
  refine lv_bipush (v := 8) (pc := 36) hx hb dJ6_bitCount_0f7a4_36 zk_b8 ?_
  refine lv_iushr (pc := 38) hx hb dJ6_bitCount_0f7a4_38 rfl ?_
  refine lv_iadd (pc := 39) hx hb dJ6_bitCount_0f7a4_39 ?_
  refine lv_topi (fun za4 eza4 => ?_)
  have h := vn_s h za4 eza4
  refine lv_istore_n (pc := 40) (lv' := [(0, .int za4)]) hx hb dJ6_bitCount_0f7a4_40 rfl hl (by decide) rfl (fun ls hl => ?_)
  refine lv_iload_n (pc := 41) hx hb dJ6_bitCount_0f7a4_41 rfl (lv_at hl 0 rfl) ?_
  refine lv_iload_n (pc := 42) hx hb dJ6_bitCount_0f7a4_42 rfl (lv_at hl 0 rfl) ?_
  refine lv_bipush (v := 16) (pc := 43) hx hb dJ6_bitCount_0f7a4_43 zk_b16 ?_
  refine lv_iushr (pc := 45) hx hb dJ6_bitCount_0f7a4_45 rfl ?_
  refine lv_iadd (pc := 46) hx hb dJ6_bitCount_0f7a4_46 ?_
  refine lv_topi (fun za5 eza5 => ?_)
  have h := vn_s h za5 eza5
  refine lv_istore_n (pc := 47) (lv' := [(0, .int za5)]) hx hb dJ6_bitCount_0f7a4_47 rfl hl (by decide) rfl (fun ls hl => ?_)
  refine lv_iload_n (pc := 48) hx hb dJ6_bitCount_0f7a4_48 rfl (lv_at hl 0 rfl) ?_
  refine lv_bipush (v := 63) (pc := 49) hx hb dJ6_bitCount_0f7a4_49 zk_b63 ?_
  refine lv_iand (pc := 51) hx hb dJ6_bitCount_0f7a4_51 ?_
  obtain rfl := Option.some.inj h
  exact z_iret X hr hH dJ6_bitCount_0f7a4_52
set_option maxHeartbeats 4000000 in
set_option maxRecDepth 100000 in
theorem w_J7_fill_53178_l5 {p : Program} {l : Launch} {e : Env} {s : State} {m : MethodId} {args : Array Value} {below : List Frame} {meth : Method} {c : Code} {A : Nat → Prop} {Q : State → Prop} (G : va_G) (cy : Nat → ClassId) (fu : Nat) (va : Nat) (vN : Nat) (x1 : Int32) (x3 : Int32) (X : zX p s m args meth c RJ7 cJ7_fill_53178 4 wsJ7_fill_53178 G cy A) : ∀ (n : Nat) (x2 : Int32) (v_row : Nat → Int32) (rr : (Nat → Int32)) (h : lp (f_J7_fill_53178_l5 fu vN x1 x3) n (x2, v_row) = some rr) (H : Heap) (locs : List Loc) (ls : Array Slot) (hH : zH G A s.heap ([(va, .inl (cy 0, vN, .inl v_row))]) H locs) (hl : lv_has ls 4 [(0, .ref va), (1, .int x1), (2, .int x2), (3, .int x3)]) (K0 : ∀ (H : Heap) (locs : List Loc) (ls : Array Slot), zH G A s.heap ([(va, .inl (cy 0, vN, .inl rr))]) H locs → lv_has ls 4 [] → W p l e (zR 0 0) s m args below meth c H locs 0 0 Q (F0 m 20 ls [])), W p l e (zR 0 0) s m args below meth c H locs 0 0 Q (F0 m 5 ls []) := by
  have hx := X.1.1
  have hb := X.1.2.1
  intro n
  induction n with
  | zero => intro x2 v_row rr h H locs ls hH hl K0; cases h
  | succ n ih =>
    intro x2 v_row rr h H locs ls hH hl K0
    replace h : f_J7_fill_53178_l5 fu vN x1 x3 (lp (f_J7_fill_53178_l5 fu vN x1 x3) n) (x2, v_row) = some rr := h
    dsimp only [f_J7_fill_53178_l5] at h
    refine lv_iload_n (pc := 5) hx hb dJ7_fill_53178_5 rfl (lv_at hl 2 rfl) ?_
    refine lv_iload_n (pc := 6) hx hb dJ7_fill_53178_6 rfl (lv_at hl 3 rfl) ?_
    refine lv_icmp_ge (pc := 7) (tgt := 20) hx hb dJ7_fill_53178_7 rfl (fun zc1 => ?_) (fun zc1 => ?_)
    · have h := zt zc1 h
      obtain rfl := Option.some.inj h
      exact K0 _ _ _ hH (lv_sub hl [] rfl)
    have h := zf zc1 h
    refine lv_aload_n (pc := 10) hx hb dJ7_fill_53178_10 rfl (lv_at hl 0 rfl) ?_
    refine lv_iload_n (pc := 11) hx hb dJ7_fill_53178_11 rfl (lv_at hl 2 rfl) ?_
    refine lv_iload_n (pc := 12) hx hb dJ7_fill_53178_12 rfl (lv_at hl 1 rfl) ?_
    obtain ⟨hin, h⟩ := zg h
    refine z_iast (pc := 13) (ws' := [(va, .inl (cy 0, vN, .inl (upd v_row (x2).toNatClampNeg x1)))]) X hH 0 rfl hin rfl dJ7_fill_53178_13 (fun H locs hH => ?_)
    refine lv_iinc (pc := 14) (v := (x2 + 1)) (lv' := [(2, .int (x2 + 1)), (0, .ref va), (1, .int x1), (3, .int x3)]) hx hb dJ7_fill_53178_14 hl (k := 2) rfl (by rw [zk_c1]) (by decide) rfl (fun ls hl => ?_)
    refine lv_goto (pc := 17) (tgt := 5) hx hb dJ7_fill_53178_17 rfl ?_
    exact ih (x2 + 1) (upd v_row (x2).toNatClampNeg x1) rr h _ _ _ hH (lv_sub hl [1, 2, 0, 3] rfl) K0
set_option maxHeartbeats 4000000 in
set_option maxRecDepth 100000 in
theorem c_J7_fill_53178 (l : Launch) (G : va_G) (cy : Nat → ClassId) (fu : Nat) (va : Nat) (vN : Nat) (v_row : Nat → Int32) (x1 : Int32) (rr : (Nat → Int32)) (h : f_J7_fill_53178 fu vN v_row x1 = some rr) : zM l G cy yJ7_fill_53178 wsJ7_fill_53178 (zR 0 0) [.ref va, .int x1] ([(va, .inl (cy 0, vN, .inl v_row))]) ([(va, .inl (cy 0, vN, .inl rr))]) none := by
  refine zM.mk (cc := cJ7_fill_53178) (nL := 4) (ret := none) (by decide) rfl (Nat.le_of_ble_eq_true rfl) ?_
  intro p e s m below meth c A ls X hr hH hl
  replace X : zX p s m [.ref va, .int x1].toArray meth c RJ7 cJ7_fill_53178 4 wsJ7_fill_53178 G cy A := X
  have hx := X.1.1
  have hb := X.1.2.1
  replace hl : lv_has ls 4 [(0, .ref va), (1, .int x1)] := hl
  dsimp only [f_J7_fill_53178] at h
  refine lv_iconst (v := 0) (pc := 0) hx hb dJ7_fill_53178_0 zk_c0 ?_
  refine lv_istore_n (pc := 1) (lv' := [(2, .int 0), (0, .ref va), (1, .int x1)]) hx hb dJ7_fill_53178_1 rfl hl (by decide) rfl (fun ls hl => ?_)
  refine lv_aload_n (pc := 2) hx hb dJ7_fill_53178_2 rfl (lv_at hl 1 rfl) ?_
  refine va_alen (pc := 3) hx hb X.2.1 hH.1 0 0 rfl rfl rfl dJ7_fill_53178_3 ?_
  refine lv_topi (fun za1 eza1 => ?_)
  have h := vn_s h za1 eza1
  refine lv_istore_n (pc := 4) (lv' := [(3, .int za1), (2, .int 0), (0, .ref va), (1, .int x1)]) hx hb dJ7_fill_53178_4 rfl hl (by decide) rfl (fun ls hl => ?_)
  obtain ⟨zr2, hzr2, h⟩ := zb h
  refine w_J7_fill_53178_l5 G cy fu  va vN x1 za1 X fu 0 v_row zr2 hzr2 _ _ _ hH (lv_sub hl [2, 3, 1, 0] rfl) (fun H locs ls hH hl => ?_)
  obtain rfl := Option.some.inj h
  exact z_vret X hr hH dJ7_fill_53178_20
set_option maxHeartbeats 4000000 in
set_option maxRecDepth 100000 in
theorem w_X3_rankAnew_l7 {p : Program} {l : Launch} {e : Env} {s : State} {m : MethodId} {args : Array Value} {below : List Frame} {meth : Method} {c : Code} {A : Nat → Prop} {Q : State → Prop} (G : va_G) (cy : Nat → ClassId) (fu : Nat) (hq : Nat → Nat) (h_alive : Nat → Int32) (h_late : Nat → Int32) (h_waits : Nat → Int32) (h_pers : Nat → Int32) (h_size : Int32) (h_lines : Int32) (X : zX p s m args meth c RX3 cX3_rankAnew 2 wsX3_rankAnew G cy A) : ∀ (n : Nat) (x1 : Int32) (h_hbr : Nat → Int32) (h_rbh : Nat → Int32) (h_ranks : Int32) (rr : (Nat → Int32) × (Nat → Int32) × Int32) (h : lp (f_X3_rankAnew_l7 fu h_alive h_size) n (x1, h_hbr, h_rbh, h_ranks) = some rr) (H : Heap) (locs : List Loc) (ls : Array Slot) (hH : zH G A s.heap (wH cy hq h_alive h_late h_hbr h_rbh h_waits h_pers h_size h_ranks h_lines) H locs) (hl : lv_has ls 2 [(0, .ref (hq 0)), (1, .int x1)]) (K0 : ∀ (H : Heap) (locs : List Loc) (ls : Array Slot), zH G A s.heap (wH cy hq h_alive h_late rr.1 rr.2.1 h_waits h_pers h_size rr.2.2 h_lines) H locs → lv_has ls 2 [] → W p l e (zR 0 0) s m args below meth c H locs 0 0 Q (F0 m 66 ls [])), W p l e (zR 0 0) s m args below meth c H locs 0 0 Q (F0 m 7 ls []) := by
  have hx := X.1.1
  have hb := X.1.2.1
  intro n
  induction n with
  | zero => intro x1 h_hbr h_rbh h_ranks rr h H locs ls hH hl K0; cases h
  | succ n ih =>
    intro x1 h_hbr h_rbh h_ranks rr h H locs ls hH hl K0
    replace h : f_X3_rankAnew_l7 fu h_alive h_size (lp (f_X3_rankAnew_l7 fu h_alive h_size) n) (x1, h_hbr, h_rbh, h_ranks) = some rr := h
    dsimp only [f_X3_rankAnew_l7] at h
    refine lv_iload_n (pc := 7) hx hb dX3_rankAnew_7 rfl (lv_at hl 1 rfl) ?_
    refine lv_aload_n (pc := 8) hx hb dX3_rankAnew_8 rfl (lv_at hl 0 rfl) ?_
    refine z_get (pc := 9) (v := .int h_size) X iX3_rankAnew_X3 hH 0 rfl rfl 6 rfl (List.mem_of_getElem? (i := 2) rfl) rfl dX3_rankAnew_9 ?_
    refine lv_icmp_ge (pc := 12) (tgt := 66) hx hb dX3_rankAnew_12 rfl (fun zc1 => ?_) (fun zc1 => ?_)
    · have h := zt zc1 h
      obtain rfl := Option.some.inj h
      exact K0 _ _ _ hH (lv_sub hl [] rfl)
    have h := zf zc1 h
    refine lv_iload_n (pc := 15) hx hb dX3_rankAnew_15 rfl (lv_at hl 1 rfl) ?_
    refine lv_bipush (v := 16) (pc := 16) hx hb dX3_rankAnew_16 zk_b16 ?_
    refine lv_icmp_ge (pc := 18) (tgt := 66) hx hb dX3_rankAnew_18 rfl (fun zc2 => ?_) (fun zc2 => ?_)
    · have h := zt zc2 h
      obtain rfl := Option.some.inj h
      exact K0 _ _ _ hH (lv_sub hl [] rfl)
    have h := zf zc2 h
    refine lv_aload_n (pc := 21) hx hb dX3_rankAnew_21 rfl (lv_at hl 0 rfl) ?_
    refine z_get (pc := 22) (v := .ref (hq 1)) X iX3_rankAnew_X3 hH 0 rfl rfl 0 rfl (List.mem_of_getElem? (i := 3) rfl) rfl dX3_rankAnew_22 ?_
    refine lv_iload_n (pc := 25) hx hb dX3_rankAnew_25 rfl (lv_at hl 1 rfl) ?_
    obtain ⟨hin, h⟩ := zg h
    refine z_zald (pc := 26) X hH 1 rfl hin dX3_rankAnew_26 ?_
    refine lv_if_eq (pc := 27) (tgt := 60) hx hb dX3_rankAnew_27 rfl (fun zc3 => ?_) (fun zc3 => ?_)
    · have h := zt zc3 h
      refine lv_iinc (pc := 60) (v := (x1 + 1)) (lv' := [(1, .int (x1 + 1)), (0, .ref (hq 0))]) hx hb dX3_rankAnew_60 hl (k := 1) rfl (by rw [zk_c1]) (by decide) rfl (fun ls hl => ?_)
      refine lv_goto (pc := 63) (tgt := 7) hx hb dX3_rankAnew_63 rfl ?_
      exact ih (x1 + 1) h_hbr h_rbh h_ranks rr h _ _ _ hH (lv_sub hl [1, 0] rfl) K0
    have h := zf zc3 h
    refine lv_aload_n (pc := 30) hx hb dX3_rankAnew_30 rfl (lv_at hl 0 rfl) ?_
    refine z_get (pc := 31) (v := .ref (hq 3)) X iX3_rankAnew_X3 hH 0 rfl rfl 2 rfl (List.mem_of_getElem? (i := 4) rfl) rfl dX3_rankAnew_31 ?_
    refine lv_aload_n (pc := 34) hx hb dX3_rankAnew_34 rfl (lv_at hl 0 rfl) ?_
    refine z_get (pc := 35) (v := .int h_ranks) X iX3_rankAnew_X3 hH 0 rfl rfl 7 rfl (List.mem_of_getElem? (i := 1) rfl) rfl dX3_rankAnew_35 ?_
    refine lv_iload_n (pc := 38) hx hb dX3_rankAnew_38 rfl (lv_at hl 1 rfl) ?_
    obtain ⟨hin, h⟩ := zg h
    refine z_iast (pc := 39) (ws' := wH cy hq h_alive h_late (upd h_hbr (h_ranks).toNatClampNeg x1) h_rbh h_waits h_pers h_size h_ranks h_lines) X hH 3 rfl hin rfl dX3_rankAnew_39 (fun H locs hH => ?_)
    refine lv_aload_n (pc := 40) hx hb dX3_rankAnew_40 rfl (lv_at hl 0 rfl) ?_
    refine z_get (pc := 41) (v := .ref (hq 4)) X iX3_rankAnew_X3 hH 0 rfl rfl 3 rfl (List.mem_of_getElem? (i := 5) rfl) rfl dX3_rankAnew_41 ?_
    refine lv_iload_n (pc := 44) hx hb dX3_rankAnew_44 rfl (lv_at hl 1 rfl) ?_
    refine lv_aload_n (pc := 45) hx hb dX3_rankAnew_45 rfl (lv_at hl 0 rfl) ?_
    refine z_get (pc := 46) (v := .int h_ranks) X iX3_rankAnew_X3 hH 0 rfl rfl 7 rfl (List.mem_of_getElem? (i := 1) rfl) rfl dX3_rankAnew_46 ?_
    obtain ⟨hin, h⟩ := zg h
    refine z_iast (pc := 49) (ws' := wH cy hq h_alive h_late (upd h_hbr (h_ranks).toNatClampNeg x1) (upd h_rbh (x1).toNatClampNeg h_ranks) h_waits h_pers h_size h_ranks h_lines) X hH 4 rfl hin rfl dX3_rankAnew_49 (fun H locs hH => ?_)
    refine lv_aload_n (pc := 50) hx hb dX3_rankAnew_50 rfl (lv_at hl 0 rfl) ?_
    refine lv_dup (pc := 51) hx hb dX3_rankAnew_51 rfl ?_
    refine z_get (pc := 52) (v := .int h_ranks) X iX3_rankAnew_X3 hH 0 rfl rfl 7 rfl (List.mem_of_getElem? (i := 1) rfl) rfl dX3_rankAnew_52 ?_
    refine lv_iconst (v := 1) (pc := 55) hx hb dX3_rankAnew_55 zk_c1 ?_
    refine lv_iadd (pc := 56) hx hb dX3_rankAnew_56 ?_
    refine lv_topi (fun za4 eza4 => ?_)
    have h := vn_s h za4 eza4
    refine z_put (pc := 57) (v := .int za4) (ws' := wH cy hq h_alive h_late (upd h_hbr (h_ranks).toNatClampNeg x1) (upd h_rbh (x1).toNatClampNeg h_ranks) h_waits h_pers h_size za4 h_lines) X iX3_rankAnew_X3 tyX3 tyX3_ok nmX3 hH 0 rfl rfl 7 rfl (List.mem_of_getElem? (i := 1) rfl) rfl rfl rfl rfl rfl dX3_rankAnew_57 (fun H locs hH => ?_)
    refine lv_iinc (pc := 60) (v := (x1 + 1)) (lv' := [(1, .int (x1 + 1)), (0, .ref (hq 0))]) hx hb dX3_rankAnew_60 hl (k := 1) rfl (by rw [zk_c1]) (by decide) rfl (fun ls hl => ?_)
    refine lv_goto (pc := 63) (tgt := 7) hx hb dX3_rankAnew_63 rfl ?_
    exact ih (x1 + 1) (upd h_hbr (h_ranks).toNatClampNeg x1) (upd h_rbh (x1).toNatClampNeg h_ranks) za4 rr h _ _ _ hH (lv_sub hl [1, 0] rfl) K0
set_option maxHeartbeats 4000000 in
set_option maxRecDepth 100000 in
theorem c_X3_rankAnew (l : Launch) (G : va_G) (cy : Nat → ClassId) (fu : Nat) (hq : Nat → Nat) (h_alive : Nat → Int32) (h_late : Nat → Int32) (h_hbr : Nat → Int32) (h_rbh : Nat → Int32) (h_waits : Nat → Int32) (h_pers : Nat → Int32) (h_size : Int32) (h_ranks : Int32) (h_lines : Int32)  (rr : (Nat → Int32) × (Nat → Int32) × Int32) (h : f_X3_rankAnew fu h_alive h_hbr h_rbh h_size = some rr) : zM l G cy yX3_rankAnew wsX3_rankAnew (zR 0 0) [.ref (hq 0)] (wH cy hq h_alive h_late h_hbr h_rbh h_waits h_pers h_size h_ranks h_lines) (wH cy hq h_alive h_late rr.1 rr.2.1 h_waits h_pers h_size rr.2.2 h_lines) none := by
  refine zM.mk (cc := cX3_rankAnew) (nL := 2) (ret := none) (by decide) rfl (Nat.le_of_ble_eq_true rfl) ?_
  intro p e s m below meth c A ls X hr hH hl
  replace X : zX p s m [.ref (hq 0)].toArray meth c RX3 cX3_rankAnew 2 wsX3_rankAnew G cy A := X
  have hx := X.1.1
  have hb := X.1.2.1
  replace hl : lv_has ls 2 [(0, .ref (hq 0))] := hl
  dsimp only [f_X3_rankAnew] at h
  refine lv_aload_n (pc := 0) hx hb dX3_rankAnew_0 rfl (lv_at hl 0 rfl) ?_
  refine lv_iconst (v := 0) (pc := 1) hx hb dX3_rankAnew_1 zk_c0 ?_
  refine z_put (pc := 2) (v := .int 0) (ws' := wH cy hq h_alive h_late h_hbr h_rbh h_waits h_pers h_size 0 h_lines) X iX3_rankAnew_X3 tyX3 tyX3_ok nmX3 hH 0 rfl rfl 7 rfl (List.mem_of_getElem? (i := 1) rfl) rfl rfl rfl rfl rfl dX3_rankAnew_2 (fun H locs hH => ?_)
  refine lv_iconst (v := 0) (pc := 5) hx hb dX3_rankAnew_5 zk_c0 ?_
  refine lv_istore_n (pc := 6) (lv' := [(1, .int 0), (0, .ref (hq 0))]) hx hb dX3_rankAnew_6 rfl hl (by decide) rfl (fun ls hl => ?_)
  obtain ⟨zr1, hzr1, h⟩ := zb h
  refine w_X3_rankAnew_l7 G cy fu hq h_alive h_late h_waits h_pers h_size h_lines X fu 0 h_hbr h_rbh 0 zr1 hzr1 _ _ _ hH (lv_sub hl [1, 0] rfl) (fun H locs ls hH hl => ?_)
  obtain rfl := Option.some.inj h
  exact z_vret X hr hH dX3_rankAnew_66
set_option maxHeartbeats 4000000 in
set_option maxRecDepth 100000 in
theorem w_X3_begin_l12 {p : Program} {l : Launch} {e : Env} {s : State} {m : MethodId} {args : Array Value} {below : List Frame} {meth : Method} {c : Code} {A : Nat → Prop} {Q : State → Prop} (G : va_G) (cy : Nat → ClassId) (fu : Nat) (hq : Nat → Nat) (h_late : Nat → Int32) (h_hbr : Nat → Int32) (h_rbh : Nat → Int32) (h_waits : Nat → Int32) (h_pers : Nat → Int32) (h_size : Int32) (h_ranks : Int32) (h_lines : Int32) (x1 : Int32) (X : zX p s m args meth c RX3 cX3_begin 3 wsX3_begin G cy A) : ∀ (n : Nat) (x2 : Int32) (h_alive : Nat → Int32) (rr : (Nat → Int32)) (h : lp (f_X3_begin_l12 fu x1) n (x2, h_alive) = some rr) (H : Heap) (locs : List Loc) (ls : Array Slot) (hH : zH G A s.heap (wH cy hq h_alive h_late h_hbr h_rbh h_waits h_pers h_size h_ranks h_lines) H locs) (hl : lv_has ls 3 [(0, .ref (hq 0)), (1, .int x1), (2, .int x2)]) (K0 : ∀ (H : Heap) (locs : List Loc) (ls : Array Slot), zH G A s.heap (wH cy hq rr h_late h_hbr h_rbh h_waits h_pers h_size h_ranks h_lines) H locs → lv_has ls 3 [(0, .ref (hq 0))] → W p l e (zR 1 23) s m args below meth c H locs 0 0 Q (F0 m 40 ls [])), W p l e (zR 1 23) s m args below meth c H locs 0 0 Q (F0 m 12 ls []) := by
  have hx := X.1.1
  have hb := X.1.2.1
  intro n
  induction n with
  | zero => intro x2 h_alive rr h H locs ls hH hl K0; cases h
  | succ n ih =>
    intro x2 h_alive rr h H locs ls hH hl K0
    replace h : f_X3_begin_l12 fu x1 (lp (f_X3_begin_l12 fu x1) n) (x2, h_alive) = some rr := h
    dsimp only [f_X3_begin_l12] at h
    refine lv_iload_n (pc := 12) hx hb dX3_begin_12 rfl (lv_at hl 2 rfl) ?_
    refine lv_bipush (v := 16) (pc := 13) hx hb dX3_begin_13 zk_b16 ?_
    refine lv_icmp_ge (pc := 15) (tgt := 40) hx hb dX3_begin_15 rfl (fun zc1 => ?_) (fun zc1 => ?_)
    · have h := zt zc1 h
      obtain rfl := Option.some.inj h
      exact K0 _ _ _ hH (lv_sub hl [0] rfl)
    have h := zf zc1 h
    refine lv_aload_n (pc := 18) hx hb dX3_begin_18 rfl (lv_at hl 0 rfl) ?_
    refine z_get (pc := 19) (v := .ref (hq 1)) X iX3_begin_X3 hH 0 rfl rfl 0 rfl (List.mem_of_getElem? (i := 3) rfl) rfl dX3_begin_19 ?_
    refine lv_iload_n (pc := 22) hx hb dX3_begin_22 rfl (lv_at hl 2 rfl) ?_
    refine lv_iload_n (pc := 23) hx hb dX3_begin_23 rfl (lv_at hl 2 rfl) ?_
    refine lv_iload_n (pc := 24) hx hb dX3_begin_24 rfl (lv_at hl 1 rfl) ?_
    refine lv_icmp_ge (pc := 25) (tgt := 32) hx hb dX3_begin_25 rfl (fun zc2 => ?_) (fun zc2 => ?_)
    · have h := zt zc2 h
      refine lv_iconst (v := 0) (pc := 32) hx hb dX3_begin_32 zk_c0 ?_
      obtain ⟨hin, h⟩ := zg h
      refine z_zast (pc := 33) (ws' := wH cy hq (upd h_alive (x2).toNatClampNeg (vp_nar .boolean 0)) h_late h_hbr h_rbh h_waits h_pers h_size h_ranks h_lines) X hH 1 rfl hin rfl dX3_begin_33 (fun H locs hH => ?_)
      refine lv_iinc (pc := 34) (v := (x2 + 1)) (lv' := [(2, .int (x2 + 1)), (0, .ref (hq 0)), (1, .int x1)]) hx hb dX3_begin_34 hl (k := 2) rfl (by rw [zk_c1]) (by decide) rfl (fun ls hl => ?_)
      refine lv_goto (pc := 37) (tgt := 12) hx hb dX3_begin_37 rfl ?_
      exact ih (x2 + 1) (upd h_alive (x2).toNatClampNeg (vp_nar .boolean 0)) rr h _ _ _ hH (lv_sub hl [1, 2, 0] rfl) K0
    have h := zf zc2 h
    refine lv_iconst (v := 1) (pc := 28) hx hb dX3_begin_28 zk_c1 ?_
    refine lv_goto (pc := 29) (tgt := 33) hx hb dX3_begin_29 rfl ?_
    obtain ⟨hin, h⟩ := zg h
    refine z_zast (pc := 33) (ws' := wH cy hq (upd h_alive (x2).toNatClampNeg (vp_nar .boolean 1)) h_late h_hbr h_rbh h_waits h_pers h_size h_ranks h_lines) X hH 1 rfl hin rfl dX3_begin_33 (fun H locs hH => ?_)
    refine lv_iinc (pc := 34) (v := (x2 + 1)) (lv' := [(2, .int (x2 + 1)), (0, .ref (hq 0)), (1, .int x1)]) hx hb dX3_begin_34 hl (k := 2) rfl (by rw [zk_c1]) (by decide) rfl (fun ls hl => ?_)
    refine lv_goto (pc := 37) (tgt := 12) hx hb dX3_begin_37 rfl ?_
    exact ih (x2 + 1) (upd h_alive (x2).toNatClampNeg (vp_nar .boolean 1)) rr h _ _ _ hH (lv_sub hl [1, 2, 0] rfl) K0
set_option maxHeartbeats 4000000 in
set_option maxRecDepth 100000 in
theorem c_X3_begin (l : Launch) (G : va_G) (cy : Nat → ClassId) (fu : Nat) (hq : Nat → Nat) (h_alive : Nat → Int32) (h_late : Nat → Int32) (h_hbr : Nat → Int32) (h_rbh : Nat → Int32) (h_waits : Nat → Int32) (h_pers : Nat → Int32) (h_size : Int32) (h_ranks : Int32) (h_lines : Int32) (x1 : Int32) (rr : (Nat → Int32) × (Nat → Int32) × (Nat → Int32) × (Nat → Int32) × (Nat → Int32) × Int32 × Int32 × Int32) (h : f_X3_begin fu h_alive h_late h_hbr h_rbh h_waits x1 = some rr) : zM l G cy yX3_begin wsX3_begin (zR 1 23) [.ref (hq 0), .int x1] (wH cy hq h_alive h_late h_hbr h_rbh h_waits h_pers h_size h_ranks h_lines) (wH cy hq rr.1 rr.2.1 rr.2.2.1 rr.2.2.2.1 rr.2.2.2.2.1 h_pers rr.2.2.2.2.2.1 rr.2.2.2.2.2.2.1 rr.2.2.2.2.2.2.2) none := by
  refine zM.mk (cc := cX3_begin) (nL := 3) (ret := none) (by decide) rfl (Nat.le_of_ble_eq_true rfl) ?_
  intro p e s m below meth c A ls X hr hH hl
  replace X : zX p s m [.ref (hq 0), .int x1].toArray meth c RX3 cX3_begin 3 wsX3_begin G cy A := X
  have hx := X.1.1
  have hb := X.1.2.1
  replace hl : lv_has ls 3 [(0, .ref (hq 0)), (1, .int x1)] := hl
  dsimp only [f_X3_begin] at h
  refine lv_aload_n (pc := 0) hx hb dX3_begin_0 rfl (lv_at hl 0 rfl) ?_
  refine lv_iload_n (pc := 1) hx hb dX3_begin_1 rfl (lv_at hl 1 rfl) ?_
  refine z_put (pc := 2) (v := .int x1) (ws' := wH cy hq h_alive h_late h_hbr h_rbh h_waits h_pers x1 h_ranks h_lines) X iX3_begin_X3 tyX3 tyX3_ok nmX3 hH 0 rfl rfl 6 rfl (List.mem_of_getElem? (i := 1) rfl) rfl rfl rfl rfl rfl dX3_begin_2 (fun H locs hH => ?_)
  refine lv_aload_n (pc := 5) hx hb dX3_begin_5 rfl (lv_at hl 0 rfl) ?_
  refine lv_iconst (v := 0) (pc := 6) hx hb dX3_begin_6 zk_c0 ?_
  refine z_put (pc := 7) (v := .int 0) (ws' := wH cy hq h_alive h_late h_hbr h_rbh h_waits h_pers x1 h_ranks 0) X iX3_begin_X3 tyX3 tyX3_ok nmX3 hH 0 rfl rfl 8 rfl (List.mem_of_getElem? (i := 2) rfl) rfl rfl rfl rfl rfl dX3_begin_7 (fun H locs hH => ?_)
  refine lv_iconst (v := 0) (pc := 10) hx hb dX3_begin_10 zk_c0 ?_
  refine lv_istore_n (pc := 11) (lv' := [(2, .int 0), (0, .ref (hq 0)), (1, .int x1)]) hx hb dX3_begin_11 rfl hl (by decide) rfl (fun ls hl => ?_)
  obtain ⟨zr1, hzr1, h⟩ := zb h
  refine w_X3_begin_l12 G cy fu hq h_late h_hbr h_rbh h_waits h_pers x1 h_ranks 0 x1 X fu 0 h_alive zr1 hzr1 _ _ _ hH (lv_sub hl [1, 2, 0] rfl) (fun H locs ls hH hl => ?_)
  refine lv_aload_n (pc := 40) hx hb dX3_begin_40 rfl (lv_at hl 0 rfl) ?_
  refine z_get (pc := 41) (v := .ref (hq 2)) X iX3_begin_X3 hH 0 rfl rfl 1 rfl (List.mem_of_getElem? (i := 4) rfl) rfl dX3_begin_41 ?_
  refine lv_iconst (v := 0) (pc := 44) hx hb dX3_begin_44 zk_c0 ?_
  obtain ⟨zr2, hzr2, h⟩ := zb h
  refine zcS (pc := 45) (As := [.ref (hq 2), .int 0]) (rest := []) (st1 := []) (ws' := wH cy hq zr1 zr2 h_hbr h_rbh h_waits h_pers x1 h_ranks 0) (wr := [((hq 0), .inr (2, [.ref (hq 1), .ref (hq 2), .ref (hq 3), .ref (hq 4), .ref (hq 5), .ref (hq 6), .int x1, .int h_ranks, .int 0])), ((hq 1), .inl (cy 2, 16, .inl zr1)), ((hq 3), .inl (cy 0, 16, .inl h_hbr)), ((hq 4), .inl (cy 0, 16, .inl h_rbh)), ((hq 5), .inl (cy 0, 256, .inl h_waits)), ((hq 6), .inl (cy 0, 256, .inl h_pers))]) (n := 2) X (c_J7_fill_53178 l G cy fu (hq 2) 16 h_late 0 zr2 hzr2) hH [2] [0, 1, 3, 4, 5, 6] [0, 1, 6, 2, 3, 4, 5] rfl rfl rfl rfl gX3_begin_J7_fill_53178 rfl ⟨rfl, rfl⟩ kJ7_fill_53178 ⟨Nat.le_of_ble_eq_true rfl, Nat.le_of_ble_eq_true rfl⟩ rfl rfl rfl hl.1 (Nat.le_of_ble_eq_true rfl) ⟨Nat.le_of_ble_eq_true rfl, Nat.le_of_ble_eq_true rfl⟩ dX3_begin_45 (fun H locs hH => ?_)
  refine lv_aload_n (pc := 48) hx hb dX3_begin_48 rfl (lv_at hl 0 rfl) ?_
  refine z_get (pc := 49) (v := .ref (hq 5)) X iX3_begin_X3 hH 0 rfl rfl 4 rfl (List.mem_of_getElem? (i := 5) rfl) rfl dX3_begin_49 ?_
  refine lv_iconst (v := (-1)) (pc := 52) hx hb dX3_begin_52 zk_cm1 ?_
  obtain ⟨zr3, hzr3, h⟩ := zb h
  refine zcS (pc := 53) (As := [.ref (hq 5), .int (-1)]) (rest := []) (st1 := []) (ws' := wH cy hq zr1 zr2 h_hbr h_rbh zr3 h_pers x1 h_ranks 0) (wr := [((hq 0), .inr (2, [.ref (hq 1), .ref (hq 2), .ref (hq 3), .ref (hq 4), .ref (hq 5), .ref (hq 6), .int x1, .int h_ranks, .int 0])), ((hq 1), .inl (cy 2, 16, .inl zr1)), ((hq 2), .inl (cy 0, 16, .inl zr2)), ((hq 3), .inl (cy 0, 16, .inl h_hbr)), ((hq 4), .inl (cy 0, 16, .inl h_rbh)), ((hq 6), .inl (cy 0, 256, .inl h_pers))]) (n := 2) X (c_J7_fill_53178 l G cy fu (hq 5) 256 h_waits (-1) zr3 hzr3) hH [5] [0, 1, 2, 3, 4, 6] [0, 1, 2, 3, 4, 6, 5] rfl rfl rfl rfl gX3_begin_J7_fill_53178 rfl ⟨rfl, rfl⟩ kJ7_fill_53178 ⟨Nat.le_of_ble_eq_true rfl, Nat.le_of_ble_eq_true rfl⟩ rfl rfl rfl hl.1 (Nat.le_of_ble_eq_true rfl) ⟨Nat.le_of_ble_eq_true rfl, Nat.le_of_ble_eq_true rfl⟩ dX3_begin_53 (fun H locs hH => ?_)
  refine lv_aload_n (pc := 56) hx hb dX3_begin_56 rfl (lv_at hl 0 rfl) ?_
  obtain ⟨zr4, hzr4, h⟩ := zb h
  refine zcV (pc := 57) (As := []) (rest := []) (st1 := []) (ws' := wH cy hq zr1 zr2 zr4.1 zr4.2.1 zr3 h_pers x1 zr4.2.2 0) (wr := []) (n := 0) (q0 := 0) X (c_X3_rankAnew l G cy fu hq zr1 zr2 h_hbr h_rbh zr3 h_pers x1 h_ranks 0 zr4 hzr4) hH [0, 1, 2, 3, 4, 5, 6] [] [0, 1, 2, 3, 4, 5, 6] rfl rfl rfl rfl gX3_begin_X3_rankAnew rfl ⟨rfl, rfl⟩ kX3_rankAnew ⟨Nat.le_of_ble_eq_true rfl, Nat.le_of_ble_eq_true rfl⟩ rfl rfl rfl rfl rfl hl.1 (Nat.le_of_ble_eq_true rfl) ⟨Nat.le_of_ble_eq_true rfl, Nat.le_of_ble_eq_true rfl⟩ dX3_begin_57 (fun H locs hH => ?_)
  obtain rfl := Option.some.inj h
  exact z_vret X hr hH dX3_begin_60
set_option maxHeartbeats 4000000 in
set_option maxRecDepth 100000 in
theorem c_X3_size (l : Launch) (G : va_G) (cy : Nat → ClassId) (fu : Nat) (hq : Nat → Nat) (h_alive : Nat → Int32) (h_late : Nat → Int32) (h_hbr : Nat → Int32) (h_rbh : Nat → Int32) (h_waits : Nat → Int32) (h_pers : Nat → Int32) (h_size : Int32) (h_ranks : Int32) (h_lines : Int32)  (rr : Int32) (h : f_X3_size fu h_size = some rr) : zM l G cy yX3_size wsX3_size (zR 0 0) [.ref (hq 0)] (wH cy hq h_alive h_late h_hbr h_rbh h_waits h_pers h_size h_ranks h_lines) (wH cy hq h_alive h_late h_hbr h_rbh h_waits h_pers h_size h_ranks h_lines) (some (.int rr)) := by
  refine zM.mk (cc := cX3_size) (nL := 1) (ret := (some .int)) (by decide) rfl (Nat.le_of_ble_eq_true rfl) ?_
  intro p e s m below meth c A ls X hr hH hl
  replace X : zX p s m [.ref (hq 0)].toArray meth c RX3 cX3_size 1 wsX3_size G cy A := X
  have hx := X.1.1
  have hb := X.1.2.1
  replace hl : lv_has ls 1 [(0, .ref (hq 0))] := hl
  dsimp only [f_X3_size] at h
  refine lv_aload_n (pc := 0) hx hb dX3_size_0 rfl (lv_at hl 0 rfl) ?_
  refine z_get (pc := 1) (v := .int h_size) X iX3_size_X3 hH 0 rfl rfl 6 rfl (List.mem_of_getElem? (i := 1) rfl) rfl dX3_size_1 ?_
  obtain rfl := Option.some.inj h
  exact z_iret X hr hH dX3_size_4
set_option maxHeartbeats 4000000 in
set_option maxRecDepth 100000 in
theorem c_X3_ranks (l : Launch) (G : va_G) (cy : Nat → ClassId) (fu : Nat) (hq : Nat → Nat) (h_alive : Nat → Int32) (h_late : Nat → Int32) (h_hbr : Nat → Int32) (h_rbh : Nat → Int32) (h_waits : Nat → Int32) (h_pers : Nat → Int32) (h_size : Int32) (h_ranks : Int32) (h_lines : Int32)  (rr : Int32) (h : f_X3_ranks fu h_ranks = some rr) : zM l G cy yX3_ranks wsX3_ranks (zR 0 0) [.ref (hq 0)] (wH cy hq h_alive h_late h_hbr h_rbh h_waits h_pers h_size h_ranks h_lines) (wH cy hq h_alive h_late h_hbr h_rbh h_waits h_pers h_size h_ranks h_lines) (some (.int rr)) := by
  refine zM.mk (cc := cX3_ranks) (nL := 1) (ret := (some .int)) (by decide) rfl (Nat.le_of_ble_eq_true rfl) ?_
  intro p e s m below meth c A ls X hr hH hl
  replace X : zX p s m [.ref (hq 0)].toArray meth c RX3 cX3_ranks 1 wsX3_ranks G cy A := X
  have hx := X.1.1
  have hb := X.1.2.1
  replace hl : lv_has ls 1 [(0, .ref (hq 0))] := hl
  dsimp only [f_X3_ranks] at h
  refine lv_aload_n (pc := 0) hx hb dX3_ranks_0 rfl (lv_at hl 0 rfl) ?_
  refine z_get (pc := 1) (v := .int h_ranks) X iX3_ranks_X3 hH 0 rfl rfl 7 rfl (List.mem_of_getElem? (i := 1) rfl) rfl dX3_ranks_1 ?_
  obtain rfl := Option.some.inj h
  exact z_iret X hr hH dX3_ranks_4
set_option maxHeartbeats 4000000 in
set_option maxRecDepth 100000 in
theorem c_X3_lines (l : Launch) (G : va_G) (cy : Nat → ClassId) (fu : Nat) (hq : Nat → Nat) (h_alive : Nat → Int32) (h_late : Nat → Int32) (h_hbr : Nat → Int32) (h_rbh : Nat → Int32) (h_waits : Nat → Int32) (h_pers : Nat → Int32) (h_size : Int32) (h_ranks : Int32) (h_lines : Int32)  (rr : Int32) (h : f_X3_lines fu h_lines = some rr) : zM l G cy yX3_lines wsX3_lines (zR 0 0) [.ref (hq 0)] (wH cy hq h_alive h_late h_hbr h_rbh h_waits h_pers h_size h_ranks h_lines) (wH cy hq h_alive h_late h_hbr h_rbh h_waits h_pers h_size h_ranks h_lines) (some (.int rr)) := by
  refine zM.mk (cc := cX3_lines) (nL := 1) (ret := (some .int)) (by decide) rfl (Nat.le_of_ble_eq_true rfl) ?_
  intro p e s m below meth c A ls X hr hH hl
  replace X : zX p s m [.ref (hq 0)].toArray meth c RX3 cX3_lines 1 wsX3_lines G cy A := X
  have hx := X.1.1
  have hb := X.1.2.1
  replace hl : lv_has ls 1 [(0, .ref (hq 0))] := hl
  dsimp only [f_X3_lines] at h
  refine lv_aload_n (pc := 0) hx hb dX3_lines_0 rfl (lv_at hl 0 rfl) ?_
  refine z_get (pc := 1) (v := .int h_lines) X iX3_lines_X3 hH 0 rfl rfl 8 rfl (List.mem_of_getElem? (i := 1) rfl) rfl dX3_lines_1 ?_
  obtain rfl := Option.some.inj h
  exact z_iret X hr hH dX3_lines_4
set_option maxHeartbeats 4000000 in
set_option maxRecDepth 100000 in
theorem c_X3_isHost (l : Launch) (G : va_G) (cy : Nat → ClassId) (fu : Nat) (hq : Nat → Nat) (h_alive : Nat → Int32) (h_late : Nat → Int32) (h_hbr : Nat → Int32) (h_rbh : Nat → Int32) (h_waits : Nat → Int32) (h_pers : Nat → Int32) (h_size : Int32) (h_ranks : Int32) (h_lines : Int32) (x1 : Int32) (rr : Int32) (h : f_X3_isHost fu h_size x1 = some rr) : zM l G cy yX3_isHost wsX3_isHost (zR 0 0) [.ref (hq 0), .int x1] (wH cy hq h_alive h_late h_hbr h_rbh h_waits h_pers h_size h_ranks h_lines) (wH cy hq h_alive h_late h_hbr h_rbh h_waits h_pers h_size h_ranks h_lines) (some (.int rr)) := by
  refine zM.mk (cc := cX3_isHost) (nL := 2) (ret := (some .boolean)) (by decide) rfl (Nat.le_of_ble_eq_true rfl) ?_
  intro p e s m below meth c A ls X hr hH hl
  replace X : zX p s m [.ref (hq 0), .int x1].toArray meth c RX3 cX3_isHost 2 wsX3_isHost G cy A := X
  have hx := X.1.1
  have hb := X.1.2.1
  replace hl : lv_has ls 2 [(0, .ref (hq 0)), (1, .int x1)] := hl
  dsimp only [f_X3_isHost] at h
  refine lv_iload_n (pc := 0) hx hb dX3_isHost_0 rfl (lv_at hl 1 rfl) ?_
  refine lv_if_lt (pc := 1) (tgt := 16) hx hb dX3_isHost_1 rfl (fun zc1 => ?_) (fun zc1 => ?_)
  · have h := zt zc1 h
    refine lv_iconst (v := 0) (pc := 16) hx hb dX3_isHost_16 zk_c0 ?_
    obtain rfl := Option.some.inj h
    exact z_zret X hr (Or.inl rfl) hH dX3_isHost_17
  have h := zf zc1 h
  refine lv_iload_n (pc := 4) hx hb dX3_isHost_4 rfl (lv_at hl 1 rfl) ?_
  refine lv_aload_n (pc := 5) hx hb dX3_isHost_5 rfl (lv_at hl 0 rfl) ?_
  refine z_get (pc := 6) (v := .int h_size) X iX3_isHost_X3 hH 0 rfl rfl 6 rfl (List.mem_of_getElem? (i := 1) rfl) rfl dX3_isHost_6 ?_
  refine lv_icmp_ge (pc := 9) (tgt := 16) hx hb dX3_isHost_9 rfl (fun zc2 => ?_) (fun zc2 => ?_)
  · have h := zt zc2 h
    refine lv_iconst (v := 0) (pc := 16) hx hb dX3_isHost_16 zk_c0 ?_
    obtain rfl := Option.some.inj h
    exact z_zret X hr (Or.inl rfl) hH dX3_isHost_17
  have h := zf zc2 h
  refine lv_iconst (v := 1) (pc := 12) hx hb dX3_isHost_12 zk_c1 ?_
  refine lv_goto (pc := 13) (tgt := 17) hx hb dX3_isHost_13 rfl ?_
  obtain rfl := Option.some.inj h
  exact z_zret X hr (Or.inr rfl) hH dX3_isHost_17
set_option maxHeartbeats 4000000 in
set_option maxRecDepth 100000 in
theorem c_X3_isLive (l : Launch) (G : va_G) (cy : Nat → ClassId) (fu : Nat) (hq : Nat → Nat) (h_alive : Nat → Int32) (h_late : Nat → Int32) (h_hbr : Nat → Int32) (h_rbh : Nat → Int32) (h_waits : Nat → Int32) (h_pers : Nat → Int32) (h_size : Int32) (h_ranks : Int32) (h_lines : Int32) (x1 : Int32) (rr : Int32) (h : f_X3_isLive fu h_alive h_size x1 = some rr) : zM l G cy yX3_isLive wsX3_isLive (zR 1 21) [.ref (hq 0), .int x1] (wH cy hq h_alive h_late h_hbr h_rbh h_waits h_pers h_size h_ranks h_lines) (wH cy hq h_alive h_late h_hbr h_rbh h_waits h_pers h_size h_ranks h_lines) (some (.int rr)) := by
  refine zM.mk (cc := cX3_isLive) (nL := 2) (ret := (some .boolean)) (by decide) rfl (Nat.le_of_ble_eq_true rfl) ?_
  intro p e s m below meth c A ls X hr hH hl
  replace X : zX p s m [.ref (hq 0), .int x1].toArray meth c RX3 cX3_isLive 2 wsX3_isLive G cy A := X
  have hx := X.1.1
  have hb := X.1.2.1
  replace hl : lv_has ls 2 [(0, .ref (hq 0)), (1, .int x1)] := hl
  dsimp only [f_X3_isLive] at h
  refine lv_aload_n (pc := 0) hx hb dX3_isLive_0 rfl (lv_at hl 0 rfl) ?_
  refine lv_iload_n (pc := 1) hx hb dX3_isLive_1 rfl (lv_at hl 1 rfl) ?_
  obtain ⟨zr1, hzr1, h⟩ := zb h
  refine zcV (pc := 2) (As := [.int x1]) (rest := []) (st1 := [.int zr1]) (ws' := wH cy hq h_alive h_late h_hbr h_rbh h_waits h_pers h_size h_ranks h_lines) (wr := []) (n := 1) (q0 := 0) X (c_X3_isHost l G cy fu hq h_alive h_late h_hbr h_rbh h_waits h_pers h_size h_ranks h_lines x1 zr1 hzr1) hH [0, 1, 2, 3, 4, 5, 6] [] [0, 1, 2, 3, 4, 5, 6] rfl rfl rfl rfl gX3_isLive_X3_isHost rfl ⟨rfl, rfl⟩ kX3_isHost ⟨Nat.le_of_ble_eq_true rfl, Nat.le_of_ble_eq_true rfl⟩ rfl rfl rfl rfl rfl hl.1 (Nat.le_of_ble_eq_true rfl) ⟨Nat.le_of_ble_eq_true rfl, Nat.le_of_ble_eq_true rfl⟩ dX3_isLive_2 (fun H locs hH => ?_)
  refine lv_if_eq (pc := 5) (tgt := 21) hx hb dX3_isLive_5 rfl (fun zc2 => ?_) (fun zc2 => ?_)
  · have h := zt zc2 h
    refine lv_iconst (v := 0) (pc := 21) hx hb dX3_isLive_21 zk_c0 ?_
    obtain rfl := Option.some.inj h
    exact z_zret X hr (Or.inl rfl) hH dX3_isLive_22
  have h := zf zc2 h
  refine lv_aload_n (pc := 8) hx hb dX3_isLive_8 rfl (lv_at hl 0 rfl) ?_
  refine z_get (pc := 9) (v := .ref (hq 1)) X iX3_isLive_X3 hH 0 rfl rfl 0 rfl (List.mem_of_getElem? (i := 1) rfl) rfl dX3_isLive_9 ?_
  refine lv_iload_n (pc := 12) hx hb dX3_isLive_12 rfl (lv_at hl 1 rfl) ?_
  obtain ⟨hin, h⟩ := zg h
  refine z_zald (pc := 13) X hH 1 rfl hin dX3_isLive_13 ?_
  refine lv_if_eq (pc := 14) (tgt := 21) hx hb dX3_isLive_14 rfl (fun zc3 => ?_) (fun zc3 => ?_)
  · have h := zt zc3 h
    refine lv_iconst (v := 0) (pc := 21) hx hb dX3_isLive_21 zk_c0 ?_
    obtain rfl := Option.some.inj h
    exact z_zret X hr (Or.inl rfl) hH dX3_isLive_22
  have h := zf zc3 h
  refine lv_iconst (v := 1) (pc := 17) hx hb dX3_isLive_17 zk_c1 ?_
  refine lv_goto (pc := 18) (tgt := 22) hx hb dX3_isLive_18 rfl ?_
  obtain rfl := Option.some.inj h
  exact z_zret X hr (Or.inr rfl) hH dX3_isLive_22
set_option maxHeartbeats 4000000 in
set_option maxRecDepth 100000 in
theorem c_X3_isLastLive (l : Launch) (G : va_G) (cy : Nat → ClassId) (fu : Nat) (hq : Nat → Nat) (h_alive : Nat → Int32) (h_late : Nat → Int32) (h_hbr : Nat → Int32) (h_rbh : Nat → Int32) (h_waits : Nat → Int32) (h_pers : Nat → Int32) (h_size : Int32) (h_ranks : Int32) (h_lines : Int32) (x1 : Int32) (rr : Int32) (h : f_X3_isLastLive fu h_alive h_size h_ranks x1 = some rr) : zM l G cy yX3_isLastLive wsX3_isLastLive (zR 2 42) [.ref (hq 0), .int x1] (wH cy hq h_alive h_late h_hbr h_rbh h_waits h_pers h_size h_ranks h_lines) (wH cy hq h_alive h_late h_hbr h_rbh h_waits h_pers h_size h_ranks h_lines) (some (.int rr)) := by
  refine zM.mk (cc := cX3_isLastLive) (nL := 2) (ret := (some .boolean)) (by decide) rfl (Nat.le_of_ble_eq_true rfl) ?_
  intro p e s m below meth c A ls X hr hH hl
  replace X : zX p s m [.ref (hq 0), .int x1].toArray meth c RX3 cX3_isLastLive 2 wsX3_isLastLive G cy A := X
  have hx := X.1.1
  have hb := X.1.2.1
  replace hl : lv_has ls 2 [(0, .ref (hq 0)), (1, .int x1)] := hl
  dsimp only [f_X3_isLastLive] at h
  refine lv_aload_n (pc := 0) hx hb dX3_isLastLive_0 rfl (lv_at hl 0 rfl) ?_
  refine lv_iload_n (pc := 1) hx hb dX3_isLastLive_1 rfl (lv_at hl 1 rfl) ?_
  obtain ⟨zr1, hzr1, h⟩ := zb h
  refine zcV (pc := 2) (As := [.int x1]) (rest := []) (st1 := [.int zr1]) (ws' := wH cy hq h_alive h_late h_hbr h_rbh h_waits h_pers h_size h_ranks h_lines) (wr := []) (n := 1) (q0 := 0) X (c_X3_isLive l G cy fu hq h_alive h_late h_hbr h_rbh h_waits h_pers h_size h_ranks h_lines x1 zr1 hzr1) hH [0, 1, 2, 3, 4, 5, 6] [] [0, 1, 2, 3, 4, 5, 6] rfl rfl rfl rfl gX3_isLastLive_X3_isLive rfl ⟨rfl, rfl⟩ kX3_isLive ⟨Nat.le_of_ble_eq_true rfl, Nat.le_of_ble_eq_true rfl⟩ rfl rfl rfl rfl rfl hl.1 (Nat.le_of_ble_eq_true rfl) ⟨Nat.le_of_ble_eq_true rfl, Nat.le_of_ble_eq_true rfl⟩ dX3_isLastLive_2 (fun H locs hH => ?_)
  refine lv_if_eq (pc := 5) (tgt := 20) hx hb dX3_isLastLive_5 rfl (fun zc2 => ?_) (fun zc2 => ?_)
  · have h := zt zc2 h
    refine lv_iconst (v := 0) (pc := 20) hx hb dX3_isLastLive_20 zk_c0 ?_
    obtain rfl := Option.some.inj h
    exact z_zret X hr (Or.inl rfl) hH dX3_isLastLive_21
  have h := zf zc2 h
  refine lv_aload_n (pc := 8) hx hb dX3_isLastLive_8 rfl (lv_at hl 0 rfl) ?_
  refine z_get (pc := 9) (v := .int h_ranks) X iX3_isLastLive_X3 hH 0 rfl rfl 7 rfl (List.mem_of_getElem? (i := 1) rfl) rfl dX3_isLastLive_9 ?_
  refine lv_iconst (v := 1) (pc := 12) hx hb dX3_isLastLive_12 zk_c1 ?_
  refine lv_icmp_ne (pc := 13) (tgt := 20) hx hb dX3_isLastLive_13 rfl (fun zc3 => ?_) (fun zc3 => ?_)
  · have h := zf zc3 h
    refine lv_iconst (v := 0) (pc := 20) hx hb dX3_isLastLive_20 zk_c0 ?_
    obtain rfl := Option.some.inj h
    exact z_zret X hr (Or.inl rfl) hH dX3_isLastLive_21
  have h := zt zc3 h
  refine lv_iconst (v := 1) (pc := 16) hx hb dX3_isLastLive_16 zk_c1 ?_
  refine lv_goto (pc := 17) (tgt := 21) hx hb dX3_isLastLive_17 rfl ?_
  obtain rfl := Option.some.inj h
  exact z_zret X hr (Or.inr rfl) hH dX3_isLastLive_21
set_option maxHeartbeats 4000000 in
set_option maxRecDepth 100000 in
theorem c_X3_isPair (l : Launch) (G : va_G) (cy : Nat → ClassId) (fu : Nat) (hq : Nat → Nat) (h_alive : Nat → Int32) (h_late : Nat → Int32) (h_hbr : Nat → Int32) (h_rbh : Nat → Int32) (h_waits : Nat → Int32) (h_pers : Nat → Int32) (h_size : Int32) (h_ranks : Int32) (h_lines : Int32) (x1 : Int32) (x2 : Int32) (rr : Int32) (h : f_X3_isPair fu h_size x1 x2 = some rr) : zM l G cy yX3_isPair wsX3_isPair (zR 1 21) [.ref (hq 0), .int x1, .int x2] (wH cy hq h_alive h_late h_hbr h_rbh h_waits h_pers h_size h_ranks h_lines) (wH cy hq h_alive h_late h_hbr h_rbh h_waits h_pers h_size h_ranks h_lines) (some (.int rr)) := by
  refine zM.mk (cc := cX3_isPair) (nL := 3) (ret := (some .boolean)) (by decide) rfl (Nat.le_of_ble_eq_true rfl) ?_
  intro p e s m below meth c A ls X hr hH hl
  replace X : zX p s m [.ref (hq 0), .int x1, .int x2].toArray meth c RX3 cX3_isPair 3 wsX3_isPair G cy A := X
  have hx := X.1.1
  have hb := X.1.2.1
  replace hl : lv_has ls 3 [(0, .ref (hq 0)), (1, .int x1), (2, .int x2)] := hl
  dsimp only [f_X3_isPair] at h
  refine lv_aload_n (pc := 0) hx hb dX3_isPair_0 rfl (lv_at hl 0 rfl) ?_
  refine lv_iload_n (pc := 1) hx hb dX3_isPair_1 rfl (lv_at hl 1 rfl) ?_
  obtain ⟨zr1, hzr1, h⟩ := zb h
  refine zcV (pc := 2) (As := [.int x1]) (rest := []) (st1 := [.int zr1]) (ws' := wH cy hq h_alive h_late h_hbr h_rbh h_waits h_pers h_size h_ranks h_lines) (wr := []) (n := 1) (q0 := 0) X (c_X3_isHost l G cy fu hq h_alive h_late h_hbr h_rbh h_waits h_pers h_size h_ranks h_lines x1 zr1 hzr1) hH [0, 1, 2, 3, 4, 5, 6] [] [0, 1, 2, 3, 4, 5, 6] rfl rfl rfl rfl gX3_isPair_X3_isHost rfl ⟨rfl, rfl⟩ kX3_isHost ⟨Nat.le_of_ble_eq_true rfl, Nat.le_of_ble_eq_true rfl⟩ rfl rfl rfl rfl rfl hl.1 (Nat.le_of_ble_eq_true rfl) ⟨Nat.le_of_ble_eq_true rfl, Nat.le_of_ble_eq_true rfl⟩ dX3_isPair_2 (fun H locs hH => ?_)
  refine lv_if_eq (pc := 5) (tgt := 25) hx hb dX3_isPair_5 rfl (fun zc2 => ?_) (fun zc2 => ?_)
  · have h := zt zc2 h
    refine lv_iconst (v := 0) (pc := 25) hx hb dX3_isPair_25 zk_c0 ?_
    obtain rfl := Option.some.inj h
    exact z_zret X hr (Or.inl rfl) hH dX3_isPair_26
  have h := zf zc2 h
  refine lv_aload_n (pc := 8) hx hb dX3_isPair_8 rfl (lv_at hl 0 rfl) ?_
  refine lv_iload_n (pc := 9) hx hb dX3_isPair_9 rfl (lv_at hl 2 rfl) ?_
  obtain ⟨zr3, hzr3, h⟩ := zb h
  refine zcV (pc := 10) (As := [.int x2]) (rest := []) (st1 := [.int zr3]) (ws' := wH cy hq h_alive h_late h_hbr h_rbh h_waits h_pers h_size h_ranks h_lines) (wr := []) (n := 1) (q0 := 0) X (c_X3_isHost l G cy fu hq h_alive h_late h_hbr h_rbh h_waits h_pers h_size h_ranks h_lines x2 zr3 hzr3) hH [0, 1, 2, 3, 4, 5, 6] [] [0, 1, 2, 3, 4, 5, 6] rfl rfl rfl rfl gX3_isPair_X3_isHost rfl ⟨rfl, rfl⟩ kX3_isHost ⟨Nat.le_of_ble_eq_true rfl, Nat.le_of_ble_eq_true rfl⟩ rfl rfl rfl rfl rfl hl.1 (Nat.le_of_ble_eq_true rfl) ⟨Nat.le_of_ble_eq_true rfl, Nat.le_of_ble_eq_true rfl⟩ dX3_isPair_10 (fun H locs hH => ?_)
  refine lv_if_eq (pc := 13) (tgt := 25) hx hb dX3_isPair_13 rfl (fun zc4 => ?_) (fun zc4 => ?_)
  · have h := zt zc4 h
    refine lv_iconst (v := 0) (pc := 25) hx hb dX3_isPair_25 zk_c0 ?_
    obtain rfl := Option.some.inj h
    exact z_zret X hr (Or.inl rfl) hH dX3_isPair_26
  have h := zf zc4 h
  refine lv_iload_n (pc := 16) hx hb dX3_isPair_16 rfl (lv_at hl 1 rfl) ?_
  refine lv_iload_n (pc := 17) hx hb dX3_isPair_17 rfl (lv_at hl 2 rfl) ?_
  refine lv_icmp_eq (pc := 18) (tgt := 25) hx hb dX3_isPair_18 rfl (fun zc5 => ?_) (fun zc5 => ?_)
  · have h := zt zc5 h
    refine lv_iconst (v := 0) (pc := 25) hx hb dX3_isPair_25 zk_c0 ?_
    obtain rfl := Option.some.inj h
    exact z_zret X hr (Or.inl rfl) hH dX3_isPair_26
  have h := zf zc5 h
  refine lv_iconst (v := 1) (pc := 21) hx hb dX3_isPair_21 zk_c1 ?_
  refine lv_goto (pc := 22) (tgt := 26) hx hb dX3_isPair_22 rfl ?_
  obtain rfl := Option.some.inj h
  exact z_zret X hr (Or.inr rfl) hH dX3_isPair_26
set_option maxHeartbeats 4000000 in
set_option maxRecDepth 100000 in
theorem c_X3_hasLine (l : Launch) (G : va_G) (cy : Nat → ClassId) (fu : Nat) (hq : Nat → Nat) (h_alive : Nat → Int32) (h_late : Nat → Int32) (h_hbr : Nat → Int32) (h_rbh : Nat → Int32) (h_waits : Nat → Int32) (h_pers : Nat → Int32) (h_size : Int32) (h_ranks : Int32) (h_lines : Int32) (x1 : Int32) (x2 : Int32) (rr : Int32) (h : f_X3_hasLine fu h_waits x1 x2 = some rr) : zM l G cy yX3_hasLine wsX3_hasLine (zR 0 0) [.ref (hq 0), .int x1, .int x2] (wH cy hq h_alive h_late h_hbr h_rbh h_waits h_pers h_size h_ranks h_lines) (wH cy hq h_alive h_late h_hbr h_rbh h_waits h_pers h_size h_ranks h_lines) (some (.int rr)) := by
  refine zM.mk (cc := cX3_hasLine) (nL := 3) (ret := (some .boolean)) (by decide) rfl (Nat.le_of_ble_eq_true rfl) ?_
  intro p e s m below meth c A ls X hr hH hl
  replace X : zX p s m [.ref (hq 0), .int x1, .int x2].toArray meth c RX3 cX3_hasLine 3 wsX3_hasLine G cy A := X
  have hx := X.1.1
  have hb := X.1.2.1
  replace hl : lv_has ls 3 [(0, .ref (hq 0)), (1, .int x1), (2, .int x2)] := hl
  dsimp only [f_X3_hasLine] at h
  refine lv_iload_n (pc := 0) hx hb dX3_hasLine_0 rfl (lv_at hl 1 rfl) ?_
  refine lv_if_lt (pc := 1) (tgt := 39) hx hb dX3_hasLine_1 rfl (fun zc1 => ?_) (fun zc1 => ?_)
  · have h := zt zc1 h
    refine lv_iconst (v := 0) (pc := 39) hx hb dX3_hasLine_39 zk_c0 ?_
    obtain rfl := Option.some.inj h
    exact z_zret X hr (Or.inl rfl) hH dX3_hasLine_40
  have h := zf zc1 h
  refine lv_iload_n (pc := 4) hx hb dX3_hasLine_4 rfl (lv_at hl 1 rfl) ?_
  refine lv_bipush (v := 16) (pc := 5) hx hb dX3_hasLine_5 zk_b16 ?_
  refine lv_icmp_ge (pc := 7) (tgt := 39) hx hb dX3_hasLine_7 rfl (fun zc2 => ?_) (fun zc2 => ?_)
  · have h := zt zc2 h
    refine lv_iconst (v := 0) (pc := 39) hx hb dX3_hasLine_39 zk_c0 ?_
    obtain rfl := Option.some.inj h
    exact z_zret X hr (Or.inl rfl) hH dX3_hasLine_40
  have h := zf zc2 h
  refine lv_iload_n (pc := 10) hx hb dX3_hasLine_10 rfl (lv_at hl 2 rfl) ?_
  refine lv_if_lt (pc := 11) (tgt := 39) hx hb dX3_hasLine_11 rfl (fun zc3 => ?_) (fun zc3 => ?_)
  · have h := zt zc3 h
    refine lv_iconst (v := 0) (pc := 39) hx hb dX3_hasLine_39 zk_c0 ?_
    obtain rfl := Option.some.inj h
    exact z_zret X hr (Or.inl rfl) hH dX3_hasLine_40
  have h := zf zc3 h
  refine lv_iload_n (pc := 14) hx hb dX3_hasLine_14 rfl (lv_at hl 2 rfl) ?_
  refine lv_bipush (v := 16) (pc := 15) hx hb dX3_hasLine_15 zk_b16 ?_
  refine lv_icmp_ge (pc := 17) (tgt := 39) hx hb dX3_hasLine_17 rfl (fun zc4 => ?_) (fun zc4 => ?_)
  · have h := zt zc4 h
    refine lv_iconst (v := 0) (pc := 39) hx hb dX3_hasLine_39 zk_c0 ?_
    obtain rfl := Option.some.inj h
    exact z_zret X hr (Or.inl rfl) hH dX3_hasLine_40
  have h := zf zc4 h
  refine lv_aload_n (pc := 20) hx hb dX3_hasLine_20 rfl (lv_at hl 0 rfl) ?_
  refine z_get (pc := 21) (v := .ref (hq 5)) X iX3_hasLine_X3 hH 0 rfl rfl 4 rfl (List.mem_of_getElem? (i := 1) rfl) rfl dX3_hasLine_21 ?_
  refine lv_iload_n (pc := 24) hx hb dX3_hasLine_24 rfl (lv_at hl 1 rfl) ?_
  refine lv_bipush (v := 16) (pc := 25) hx hb dX3_hasLine_25 zk_b16 ?_
  refine lv_imul (pc := 27) hx hb dX3_hasLine_27 ?_
  refine lv_iload_n (pc := 28) hx hb dX3_hasLine_28 rfl (lv_at hl 2 rfl) ?_
  refine lv_iadd (pc := 29) hx hb dX3_hasLine_29 ?_
  obtain ⟨hin, h⟩ := zg h
  refine z_iald (pc := 30) X hH 5 rfl hin dX3_hasLine_30 ?_
  refine lv_iconst (v := (-1)) (pc := 31) hx hb dX3_hasLine_31 zk_cm1 ?_
  refine lv_icmp_eq (pc := 32) (tgt := 39) hx hb dX3_hasLine_32 rfl (fun zc5 => ?_) (fun zc5 => ?_)
  · have h := zt zc5 h
    refine lv_iconst (v := 0) (pc := 39) hx hb dX3_hasLine_39 zk_c0 ?_
    obtain rfl := Option.some.inj h
    exact z_zret X hr (Or.inl rfl) hH dX3_hasLine_40
  have h := zf zc5 h
  refine lv_iconst (v := 1) (pc := 35) hx hb dX3_hasLine_35 zk_c1 ?_
  refine lv_goto (pc := 36) (tgt := 40) hx hb dX3_hasLine_36 rfl ?_
  obtain rfl := Option.some.inj h
  exact z_zret X hr (Or.inr rfl) hH dX3_hasLine_40
set_option maxHeartbeats 4000000 in
set_option maxRecDepth 100000 in
theorem c_X3_hostOf (l : Launch) (G : va_G) (cy : Nat → ClassId) (fu : Nat) (hq : Nat → Nat) (h_alive : Nat → Int32) (h_late : Nat → Int32) (h_hbr : Nat → Int32) (h_rbh : Nat → Int32) (h_waits : Nat → Int32) (h_pers : Nat → Int32) (h_size : Int32) (h_ranks : Int32) (h_lines : Int32) (x1 : Int32) (rr : Int32) (h : f_X3_hostOf fu h_hbr h_ranks x1 = some rr) : zM l G cy yX3_hostOf wsX3_hostOf (zR 0 0) [.ref (hq 0), .int x1] (wH cy hq h_alive h_late h_hbr h_rbh h_waits h_pers h_size h_ranks h_lines) (wH cy hq h_alive h_late h_hbr h_rbh h_waits h_pers h_size h_ranks h_lines) (some (.int rr)) := by
  refine zM.mk (cc := cX3_hostOf) (nL := 2) (ret := (some .int)) (by decide) rfl (Nat.le_of_ble_eq_true rfl) ?_
  intro p e s m below meth c A ls X hr hH hl
  replace X : zX p s m [.ref (hq 0), .int x1].toArray meth c RX3 cX3_hostOf 2 wsX3_hostOf G cy A := X
  have hx := X.1.1
  have hb := X.1.2.1
  replace hl : lv_has ls 2 [(0, .ref (hq 0)), (1, .int x1)] := hl
  dsimp only [f_X3_hostOf] at h
  refine lv_iload_n (pc := 0) hx hb dX3_hostOf_0 rfl (lv_at hl 1 rfl) ?_
  refine lv_if_lt (pc := 1) (tgt := 21) hx hb dX3_hostOf_1 rfl (fun zc1 => ?_) (fun zc1 => ?_)
  · have h := zt zc1 h
    refine lv_iconst (v := (-1)) (pc := 21) hx hb dX3_hostOf_21 zk_cm1 ?_
    obtain rfl := Option.some.inj h
    exact z_iret X hr hH dX3_hostOf_22
  have h := zf zc1 h
  refine lv_iload_n (pc := 4) hx hb dX3_hostOf_4 rfl (lv_at hl 1 rfl) ?_
  refine lv_aload_n (pc := 5) hx hb dX3_hostOf_5 rfl (lv_at hl 0 rfl) ?_
  refine z_get (pc := 6) (v := .int h_ranks) X iX3_hostOf_X3 hH 0 rfl rfl 7 rfl (List.mem_of_getElem? (i := 1) rfl) rfl dX3_hostOf_6 ?_
  refine lv_icmp_ge (pc := 9) (tgt := 21) hx hb dX3_hostOf_9 rfl (fun zc2 => ?_) (fun zc2 => ?_)
  · have h := zt zc2 h
    refine lv_iconst (v := (-1)) (pc := 21) hx hb dX3_hostOf_21 zk_cm1 ?_
    obtain rfl := Option.some.inj h
    exact z_iret X hr hH dX3_hostOf_22
  have h := zf zc2 h
  refine lv_aload_n (pc := 12) hx hb dX3_hostOf_12 rfl (lv_at hl 0 rfl) ?_
  refine z_get (pc := 13) (v := .ref (hq 3)) X iX3_hostOf_X3 hH 0 rfl rfl 2 rfl (List.mem_of_getElem? (i := 2) rfl) rfl dX3_hostOf_13 ?_
  refine lv_iload_n (pc := 16) hx hb dX3_hostOf_16 rfl (lv_at hl 1 rfl) ?_
  obtain ⟨hin, h⟩ := zg h
  refine z_iald (pc := 17) X hH 3 rfl hin dX3_hostOf_17 ?_
  refine lv_goto (pc := 18) (tgt := 22) hx hb dX3_hostOf_18 rfl ?_
  obtain rfl := Option.some.inj h
  exact z_iret X hr hH dX3_hostOf_22
set_option maxHeartbeats 4000000 in
set_option maxRecDepth 100000 in
theorem c_X3_rankOf (l : Launch) (G : va_G) (cy : Nat → ClassId) (fu : Nat) (hq : Nat → Nat) (h_alive : Nat → Int32) (h_late : Nat → Int32) (h_hbr : Nat → Int32) (h_rbh : Nat → Int32) (h_waits : Nat → Int32) (h_pers : Nat → Int32) (h_size : Int32) (h_ranks : Int32) (h_lines : Int32) (x1 : Int32) (rr : Int32) (h : f_X3_rankOf fu h_alive h_rbh h_size x1 = some rr) : zM l G cy yX3_rankOf wsX3_rankOf (zR 2 42) [.ref (hq 0), .int x1] (wH cy hq h_alive h_late h_hbr h_rbh h_waits h_pers h_size h_ranks h_lines) (wH cy hq h_alive h_late h_hbr h_rbh h_waits h_pers h_size h_ranks h_lines) (some (.int rr)) := by
  refine zM.mk (cc := cX3_rankOf) (nL := 2) (ret := (some .int)) (by decide) rfl (Nat.le_of_ble_eq_true rfl) ?_
  intro p e s m below meth c A ls X hr hH hl
  replace X : zX p s m [.ref (hq 0), .int x1].toArray meth c RX3 cX3_rankOf 2 wsX3_rankOf G cy A := X
  have hx := X.1.1
  have hb := X.1.2.1
  replace hl : lv_has ls 2 [(0, .ref (hq 0)), (1, .int x1)] := hl
  dsimp only [f_X3_rankOf] at h
  refine lv_aload_n (pc := 0) hx hb dX3_rankOf_0 rfl (lv_at hl 0 rfl) ?_
  refine lv_iload_n (pc := 1) hx hb dX3_rankOf_1 rfl (lv_at hl 1 rfl) ?_
  obtain ⟨zr1, hzr1, h⟩ := zb h
  refine zcV (pc := 2) (As := [.int x1]) (rest := []) (st1 := [.int zr1]) (ws' := wH cy hq h_alive h_late h_hbr h_rbh h_waits h_pers h_size h_ranks h_lines) (wr := []) (n := 1) (q0 := 0) X (c_X3_isLive l G cy fu hq h_alive h_late h_hbr h_rbh h_waits h_pers h_size h_ranks h_lines x1 zr1 hzr1) hH [0, 1, 2, 3, 4, 5, 6] [] [0, 1, 2, 3, 4, 5, 6] rfl rfl rfl rfl gX3_rankOf_X3_isLive rfl ⟨rfl, rfl⟩ kX3_isLive ⟨Nat.le_of_ble_eq_true rfl, Nat.le_of_ble_eq_true rfl⟩ rfl rfl rfl rfl rfl hl.1 (Nat.le_of_ble_eq_true rfl) ⟨Nat.le_of_ble_eq_true rfl, Nat.le_of_ble_eq_true rfl⟩ dX3_rankOf_2 (fun H locs hH => ?_)
  refine lv_if_eq (pc := 5) (tgt := 17) hx hb dX3_rankOf_5 rfl (fun zc2 => ?_) (fun zc2 => ?_)
  · have h := zt zc2 h
    refine lv_iconst (v := (-1)) (pc := 17) hx hb dX3_rankOf_17 zk_cm1 ?_
    obtain rfl := Option.some.inj h
    exact z_iret X hr hH dX3_rankOf_18
  have h := zf zc2 h
  refine lv_aload_n (pc := 8) hx hb dX3_rankOf_8 rfl (lv_at hl 0 rfl) ?_
  refine z_get (pc := 9) (v := .ref (hq 4)) X iX3_rankOf_X3 hH 0 rfl rfl 3 rfl (List.mem_of_getElem? (i := 1) rfl) rfl dX3_rankOf_9 ?_
  refine lv_iload_n (pc := 12) hx hb dX3_rankOf_12 rfl (lv_at hl 1 rfl) ?_
  obtain ⟨hin, h⟩ := zg h
  refine z_iald (pc := 13) X hH 4 rfl hin dX3_rankOf_13 ?_
  refine lv_goto (pc := 14) (tgt := 18) hx hb dX3_rankOf_14 rfl ?_
  obtain rfl := Option.some.inj h
  exact z_iret X hr hH dX3_rankOf_18
set_option maxHeartbeats 4000000 in
set_option maxRecDepth 100000 in
theorem c_X3_latenessOf (l : Launch) (G : va_G) (cy : Nat → ClassId) (fu : Nat) (hq : Nat → Nat) (h_alive : Nat → Int32) (h_late : Nat → Int32) (h_hbr : Nat → Int32) (h_rbh : Nat → Int32) (h_waits : Nat → Int32) (h_pers : Nat → Int32) (h_size : Int32) (h_ranks : Int32) (h_lines : Int32) (x1 : Int32) (rr : Int32) (h : f_X3_latenessOf fu h_late h_size x1 = some rr) : zM l G cy yX3_latenessOf wsX3_latenessOf (zR 1 21) [.ref (hq 0), .int x1] (wH cy hq h_alive h_late h_hbr h_rbh h_waits h_pers h_size h_ranks h_lines) (wH cy hq h_alive h_late h_hbr h_rbh h_waits h_pers h_size h_ranks h_lines) (some (.int rr)) := by
  refine zM.mk (cc := cX3_latenessOf) (nL := 2) (ret := (some .int)) (by decide) rfl (Nat.le_of_ble_eq_true rfl) ?_
  intro p e s m below meth c A ls X hr hH hl
  replace X : zX p s m [.ref (hq 0), .int x1].toArray meth c RX3 cX3_latenessOf 2 wsX3_latenessOf G cy A := X
  have hx := X.1.1
  have hb := X.1.2.1
  replace hl : lv_has ls 2 [(0, .ref (hq 0)), (1, .int x1)] := hl
  dsimp only [f_X3_latenessOf] at h
  refine lv_aload_n (pc := 0) hx hb dX3_latenessOf_0 rfl (lv_at hl 0 rfl) ?_
  refine lv_iload_n (pc := 1) hx hb dX3_latenessOf_1 rfl (lv_at hl 1 rfl) ?_
  obtain ⟨zr1, hzr1, h⟩ := zb h
  refine zcV (pc := 2) (As := [.int x1]) (rest := []) (st1 := [.int zr1]) (ws' := wH cy hq h_alive h_late h_hbr h_rbh h_waits h_pers h_size h_ranks h_lines) (wr := []) (n := 1) (q0 := 0) X (c_X3_isHost l G cy fu hq h_alive h_late h_hbr h_rbh h_waits h_pers h_size h_ranks h_lines x1 zr1 hzr1) hH [0, 1, 2, 3, 4, 5, 6] [] [0, 1, 2, 3, 4, 5, 6] rfl rfl rfl rfl gX3_latenessOf_X3_isHost rfl ⟨rfl, rfl⟩ kX3_isHost ⟨Nat.le_of_ble_eq_true rfl, Nat.le_of_ble_eq_true rfl⟩ rfl rfl rfl rfl rfl hl.1 (Nat.le_of_ble_eq_true rfl) ⟨Nat.le_of_ble_eq_true rfl, Nat.le_of_ble_eq_true rfl⟩ dX3_latenessOf_2 (fun H locs hH => ?_)
  refine lv_if_eq (pc := 5) (tgt := 17) hx hb dX3_latenessOf_5 rfl (fun zc2 => ?_) (fun zc2 => ?_)
  · have h := zt zc2 h
    refine lv_iconst (v := 0) (pc := 17) hx hb dX3_latenessOf_17 zk_c0 ?_
    obtain rfl := Option.some.inj h
    exact z_iret X hr hH dX3_latenessOf_18
  have h := zf zc2 h
  refine lv_aload_n (pc := 8) hx hb dX3_latenessOf_8 rfl (lv_at hl 0 rfl) ?_
  refine z_get (pc := 9) (v := .ref (hq 2)) X iX3_latenessOf_X3 hH 0 rfl rfl 1 rfl (List.mem_of_getElem? (i := 1) rfl) rfl dX3_latenessOf_9 ?_
  refine lv_iload_n (pc := 12) hx hb dX3_latenessOf_12 rfl (lv_at hl 1 rfl) ?_
  obtain ⟨hin, h⟩ := zg h
  refine z_iald (pc := 13) X hH 2 rfl hin dX3_latenessOf_13 ?_
  refine lv_goto (pc := 14) (tgt := 18) hx hb dX3_latenessOf_14 rfl ?_
  obtain rfl := Option.some.inj h
  exact z_iret X hr hH dX3_latenessOf_18
set_option maxHeartbeats 4000000 in
set_option maxRecDepth 100000 in
theorem c_X3_pair (l : Launch) (G : va_G) (cy : Nat → ClassId) (fu : Nat)   (x0 : Int32) (x1 : Int32) (rr : Int32) (h : f_X3_pair fu x0 x1 = some rr) : zM l G cy yX3_pair wsX3_pair (zR 0 0) [.int x0, .int x1] (([] : va_W)) (([] : va_W)) (some (.int rr)) := by
  refine zM.mk (cc := cX3_pair) (nL := 2) (ret := (some .int)) (by decide) rfl (Nat.le_of_ble_eq_true rfl) ?_
  intro p e s m below meth c A ls X hr hH hl
  replace X : zX p s m [.int x0, .int x1].toArray meth c RX3 cX3_pair 2 wsX3_pair G cy A := X
  have hx := X.1.1
  have hb := X.1.2.1
  replace hl : lv_has ls 2 [(0, .int x0), (1, .int x1)] := hl
  dsimp only [f_X3_pair] at h
  refine lv_iload_n (pc := 0) hx hb dX3_pair_0 rfl (lv_at hl 0 rfl) ?_
  refine lv_bipush (v := 16) (pc := 1) hx hb dX3_pair_1 zk_b16 ?_
  refine lv_imul (pc := 3) hx hb dX3_pair_3 ?_
  refine lv_iload_n (pc := 4) hx hb dX3_pair_4 rfl (lv_at hl 1 rfl) ?_
  refine lv_iadd (pc := 5) hx hb dX3_pair_5 ?_
  obtain rfl := Option.some.inj h
  exact z_iret X hr hH dX3_pair_6
set_option maxHeartbeats 4000000 in
set_option maxRecDepth 100000 in
theorem c_X3_letterTicks (l : Launch) (G : va_G) (cy : Nat → ClassId) (fu : Nat) (hq : Nat → Nat) (h_alive : Nat → Int32) (h_late : Nat → Int32) (h_hbr : Nat → Int32) (h_rbh : Nat → Int32) (h_waits : Nat → Int32) (h_pers : Nat → Int32) (h_size : Int32) (h_ranks : Int32) (h_lines : Int32) (x1 : Int32) (x2 : Int32) (x3 : Int32) (rr : Int32) (h : f_X3_letterTicks fu h_waits h_pers x1 x2 x3 = some rr) : zM l G cy yX3_letterTicks wsX3_letterTicks (zR 1 22) [.ref (hq 0), .int x1, .int x2, .int x3] (wH cy hq h_alive h_late h_hbr h_rbh h_waits h_pers h_size h_ranks h_lines) (wH cy hq h_alive h_late h_hbr h_rbh h_waits h_pers h_size h_ranks h_lines) (some (.int rr)) := by
  refine zM.mk (cc := cX3_letterTicks) (nL := 4) (ret := (some .int)) (by decide) rfl (Nat.le_of_ble_eq_true rfl) ?_
  intro p e s m below meth c A ls X hr hH hl
  replace X : zX p s m [.ref (hq 0), .int x1, .int x2, .int x3].toArray meth c RX3 cX3_letterTicks 4 wsX3_letterTicks G cy A := X
  have hx := X.1.1
  have hb := X.1.2.1
  replace hl : lv_has ls 4 [(0, .ref (hq 0)), (1, .int x1), (2, .int x2), (3, .int x3)] := hl
  dsimp only [f_X3_letterTicks] at h
  refine lv_aload_n (pc := 0) hx hb dX3_letterTicks_0 rfl (lv_at hl 0 rfl) ?_
  refine lv_iload_n (pc := 1) hx hb dX3_letterTicks_1 rfl (lv_at hl 1 rfl) ?_
  refine lv_iload_n (pc := 2) hx hb dX3_letterTicks_2 rfl (lv_at hl 2 rfl) ?_
  obtain ⟨zr1, hzr1, h⟩ := zb h
  refine zcV (pc := 3) (As := [.int x1, .int x2]) (rest := []) (st1 := [.int zr1]) (ws' := wH cy hq h_alive h_late h_hbr h_rbh h_waits h_pers h_size h_ranks h_lines) (wr := []) (n := 2) (q0 := 0) X (c_X3_hasLine l G cy fu hq h_alive h_late h_hbr h_rbh h_waits h_pers h_size h_ranks h_lines x1 x2 zr1 hzr1) hH [0, 1, 2, 3, 4, 5, 6] [] [0, 1, 2, 3, 4, 5, 6] rfl rfl rfl rfl gX3_letterTicks_X3_hasLine rfl ⟨rfl, rfl⟩ kX3_hasLine ⟨Nat.le_of_ble_eq_true rfl, Nat.le_of_ble_eq_true rfl⟩ rfl rfl rfl rfl rfl hl.1 (Nat.le_of_ble_eq_true rfl) ⟨Nat.le_of_ble_eq_true rfl, Nat.le_of_ble_eq_true rfl⟩ dX3_letterTicks_3 (fun H locs hH => ?_)
  refine lv_if_ne (pc := 6) (tgt := 11) hx hb dX3_letterTicks_6 rfl (fun zc2 => ?_) (fun zc2 => ?_)
  · have h := zf zc2 h
    refine lv_aload_n (pc := 11) hx hb dX3_letterTicks_11 rfl (lv_at hl 0 rfl) ?_
    refine z_get (pc := 12) (v := .ref (hq 5)) X iX3_letterTicks_X3 hH 0 rfl rfl 4 rfl (List.mem_of_getElem? (i := 1) rfl) rfl dX3_letterTicks_12 ?_
    refine lv_iload_n (pc := 15) hx hb dX3_letterTicks_15 rfl (lv_at hl 1 rfl) ?_
    refine lv_iload_n (pc := 16) hx hb dX3_letterTicks_16 rfl (lv_at hl 2 rfl) ?_
    obtain ⟨zr3, hzr3, h⟩ := zb h
    refine zcS (pc := 17) (As := [.int x1, .int x2]) (rest := [.ref (hq 5)]) (st1 := [.int zr3, .ref (hq 5)]) (ws' := wH cy hq h_alive h_late h_hbr h_rbh h_waits h_pers h_size h_ranks h_lines) (wr := [((hq 0), .inr (2, [.ref (hq 1), .ref (hq 2), .ref (hq 3), .ref (hq 4), .ref (hq 5), .ref (hq 6), .int h_size, .int h_ranks, .int h_lines])), ((hq 1), .inl (cy 2, 16, .inl h_alive)), ((hq 2), .inl (cy 0, 16, .inl h_late)), ((hq 3), .inl (cy 0, 16, .inl h_hbr)), ((hq 4), .inl (cy 0, 16, .inl h_rbh)), ((hq 5), .inl (cy 0, 256, .inl h_waits)), ((hq 6), .inl (cy 0, 256, .inl h_pers))]) (n := 2) X (c_X3_pair l G cy fu x1 x2 zr3 hzr3) hH [] [0, 1, 2, 3, 4, 5, 6] [0, 1, 2, 3, 4, 5, 6] rfl rfl rfl rfl gX3_letterTicks_X3_pair rfl ⟨rfl, rfl⟩ kX3_pair ⟨Nat.le_of_ble_eq_true rfl, Nat.le_of_ble_eq_true rfl⟩ rfl rfl rfl hl.1 (Nat.le_of_ble_eq_true rfl) ⟨Nat.le_of_ble_eq_true rfl, Nat.le_of_ble_eq_true rfl⟩ dX3_letterTicks_17 (fun H locs hH => ?_)
    obtain ⟨hin, h⟩ := zg h
    refine z_iald (pc := 20) X hH 5 rfl hin dX3_letterTicks_20 ?_
    refine lv_iload_n (pc := 21) hx hb dX3_letterTicks_21 rfl (lv_at hl 3 rfl) ?_
    refine lv_aload_n (pc := 22) hx hb dX3_letterTicks_22 rfl (lv_at hl 0 rfl) ?_
    refine z_get (pc := 23) (v := .ref (hq 6)) X iX3_letterTicks_X3 hH 0 rfl rfl 5 rfl (List.mem_of_getElem? (i := 2) rfl) rfl dX3_letterTicks_23 ?_
    refine lv_iload_n (pc := 26) hx hb dX3_letterTicks_26 rfl (lv_at hl 1 rfl) ?_
    refine lv_iload_n (pc := 27) hx hb dX3_letterTicks_27 rfl (lv_at hl 2 rfl) ?_
    obtain ⟨zr4, hzr4, h⟩ := zb h
    refine zcS (pc := 28) (As := [.int x1, .int x2]) (rest := [.ref (hq 6), .int x3, .int (h_waits (zr3).toNatClampNeg)]) (st1 := [.int zr4, .ref (hq 6), .int x3, .int (h_waits (zr3).toNatClampNeg)]) (ws' := wH cy hq h_alive h_late h_hbr h_rbh h_waits h_pers h_size h_ranks h_lines) (wr := [((hq 0), .inr (2, [.ref (hq 1), .ref (hq 2), .ref (hq 3), .ref (hq 4), .ref (hq 5), .ref (hq 6), .int h_size, .int h_ranks, .int h_lines])), ((hq 1), .inl (cy 2, 16, .inl h_alive)), ((hq 2), .inl (cy 0, 16, .inl h_late)), ((hq 3), .inl (cy 0, 16, .inl h_hbr)), ((hq 4), .inl (cy 0, 16, .inl h_rbh)), ((hq 5), .inl (cy 0, 256, .inl h_waits)), ((hq 6), .inl (cy 0, 256, .inl h_pers))]) (n := 2) X (c_X3_pair l G cy fu x1 x2 zr4 hzr4) hH [] [0, 1, 2, 3, 4, 5, 6] [0, 1, 2, 3, 4, 5, 6] rfl rfl rfl rfl gX3_letterTicks_X3_pair rfl ⟨rfl, rfl⟩ kX3_pair ⟨Nat.le_of_ble_eq_true rfl, Nat.le_of_ble_eq_true rfl⟩ rfl rfl rfl hl.1 (Nat.le_of_ble_eq_true rfl) ⟨Nat.le_of_ble_eq_true rfl, Nat.le_of_ble_eq_true rfl⟩ dX3_letterTicks_28 (fun H locs hH => ?_)
    obtain ⟨hin, h⟩ := zg h
    refine z_iald (pc := 31) X hH 6 rfl hin dX3_letterTicks_31 ?_
    refine lv_imul (pc := 32) hx hb dX3_letterTicks_32 ?_
    refine lv_iadd (pc := 33) hx hb dX3_letterTicks_33 ?_
    obtain rfl := Option.some.inj h
    exact z_iret X hr hH dX3_letterTicks_34
  have h := zt zc2 h
  refine lv_iconst (v := 0) (pc := 9) hx hb dX3_letterTicks_9 zk_c0 ?_
  obtain rfl := Option.some.inj h
  exact z_iret X hr hH dX3_letterTicks_10
set_option maxHeartbeats 4000000 in
set_option maxRecDepth 100000 in
theorem c_X3_turn (l : Launch) (G : va_G) (cy : Nat → ClassId) (fu : Nat) (hq : Nat → Nat) (h_alive : Nat → Int32) (h_late : Nat → Int32) (h_hbr : Nat → Int32) (h_rbh : Nat → Int32) (h_waits : Nat → Int32) (h_pers : Nat → Int32) (h_size : Int32) (h_ranks : Int32) (h_lines : Int32) (x1 : Int32) (x2 : Int32) (rr : (Nat → Int32) × (Nat → Int32) × (Nat → Int32) × Int32) (h : f_X3_turn fu h_alive h_hbr h_rbh h_size h_ranks x1 x2 = some rr) : zM l G cy yX3_turn wsX3_turn (zR 1 21) [.ref (hq 0), .int x1, .int x2] (wH cy hq h_alive h_late h_hbr h_rbh h_waits h_pers h_size h_ranks h_lines) (wH cy hq rr.1 h_late rr.2.1 rr.2.2.1 h_waits h_pers h_size rr.2.2.2 h_lines) none := by
  refine zM.mk (cc := cX3_turn) (nL := 3) (ret := none) (by decide) rfl (Nat.le_of_ble_eq_true rfl) ?_
  intro p e s m below meth c A ls X hr hH hl
  replace X : zX p s m [.ref (hq 0), .int x1, .int x2].toArray meth c RX3 cX3_turn 3 wsX3_turn G cy A := X
  have hx := X.1.1
  have hb := X.1.2.1
  replace hl : lv_has ls 3 [(0, .ref (hq 0)), (1, .int x1), (2, .int x2)] := hl
  dsimp only [f_X3_turn] at h
  refine lv_aload_n (pc := 0) hx hb dX3_turn_0 rfl (lv_at hl 0 rfl) ?_
  refine lv_iload_n (pc := 1) hx hb dX3_turn_1 rfl (lv_at hl 1 rfl) ?_
  obtain ⟨zr1, hzr1, h⟩ := zb h
  refine zcV (pc := 2) (As := [.int x1]) (rest := []) (st1 := [.int zr1]) (ws' := wH cy hq h_alive h_late h_hbr h_rbh h_waits h_pers h_size h_ranks h_lines) (wr := []) (n := 1) (q0 := 0) X (c_X3_isHost l G cy fu hq h_alive h_late h_hbr h_rbh h_waits h_pers h_size h_ranks h_lines x1 zr1 hzr1) hH [0, 1, 2, 3, 4, 5, 6] [] [0, 1, 2, 3, 4, 5, 6] rfl rfl rfl rfl gX3_turn_X3_isHost rfl ⟨rfl, rfl⟩ kX3_isHost ⟨Nat.le_of_ble_eq_true rfl, Nat.le_of_ble_eq_true rfl⟩ rfl rfl rfl rfl rfl hl.1 (Nat.le_of_ble_eq_true rfl) ⟨Nat.le_of_ble_eq_true rfl, Nat.le_of_ble_eq_true rfl⟩ dX3_turn_2 (fun H locs hH => ?_)
  refine lv_if_eq (pc := 5) (tgt := 19) hx hb dX3_turn_5 rfl (fun zc2 => ?_) (fun zc2 => ?_)
  · have h := zt zc2 h
    obtain rfl := Option.some.inj h
    exact z_vret X hr hH dX3_turn_19
  have h := zf zc2 h
  refine lv_aload_n (pc := 8) hx hb dX3_turn_8 rfl (lv_at hl 0 rfl) ?_
  refine z_get (pc := 9) (v := .ref (hq 1)) X iX3_turn_X3 hH 0 rfl rfl 0 rfl (List.mem_of_getElem? (i := 1) rfl) rfl dX3_turn_9 ?_
  refine lv_iload_n (pc := 12) hx hb dX3_turn_12 rfl (lv_at hl 1 rfl) ?_
  refine lv_iload_n (pc := 13) hx hb dX3_turn_13 rfl (lv_at hl 2 rfl) ?_
  obtain ⟨hin, h⟩ := zg h
  refine z_zast (pc := 14) (ws' := wH cy hq (upd h_alive (x1).toNatClampNeg (vp_nar .boolean x2)) h_late h_hbr h_rbh h_waits h_pers h_size h_ranks h_lines) X hH 1 rfl hin rfl dX3_turn_14 (fun H locs hH => ?_)
  refine lv_aload_n (pc := 15) hx hb dX3_turn_15 rfl (lv_at hl 0 rfl) ?_
  obtain ⟨zr3, hzr3, h⟩ := zb h
  refine zcV (pc := 16) (As := []) (rest := []) (st1 := []) (ws' := wH cy hq (upd h_alive (x1).toNatClampNeg (vp_nar .boolean x2)) h_late zr3.1 zr3.2.1 h_waits h_pers h_size zr3.2.2 h_lines) (wr := []) (n := 0) (q0 := 0) X (c_X3_rankAnew l G cy fu hq (upd h_alive (x1).toNatClampNeg (vp_nar .boolean x2)) h_late h_hbr h_rbh h_waits h_pers h_size h_ranks h_lines zr3 hzr3) hH [0, 1, 2, 3, 4, 5, 6] [] [0, 1, 2, 3, 4, 5, 6] rfl rfl rfl rfl gX3_turn_X3_rankAnew rfl ⟨rfl, rfl⟩ kX3_rankAnew ⟨Nat.le_of_ble_eq_true rfl, Nat.le_of_ble_eq_true rfl⟩ rfl rfl rfl rfl rfl hl.1 (Nat.le_of_ble_eq_true rfl) ⟨Nat.le_of_ble_eq_true rfl, Nat.le_of_ble_eq_true rfl⟩ dX3_turn_16 (fun H locs hH => ?_)
  obtain rfl := Option.some.inj h
  exact z_vret X hr hH dX3_turn_19
set_option maxHeartbeats 4000000 in
set_option maxRecDepth 100000 in
theorem c_X3_delay (l : Launch) (G : va_G) (cy : Nat → ClassId) (fu : Nat) (hq : Nat → Nat) (h_alive : Nat → Int32) (h_late : Nat → Int32) (h_hbr : Nat → Int32) (h_rbh : Nat → Int32) (h_waits : Nat → Int32) (h_pers : Nat → Int32) (h_size : Int32) (h_ranks : Int32) (h_lines : Int32) (x1 : Int32) (x2 : Int32) (rr : (Nat → Int32)) (h : f_X3_delay fu h_late h_size x1 x2 = some rr) : zM l G cy yX3_delay wsX3_delay (zR 1 21) [.ref (hq 0), .int x1, .int x2] (wH cy hq h_alive h_late h_hbr h_rbh h_waits h_pers h_size h_ranks h_lines) (wH cy hq h_alive rr h_hbr h_rbh h_waits h_pers h_size h_ranks h_lines) none := by
  refine zM.mk (cc := cX3_delay) (nL := 3) (ret := none) (by decide) rfl (Nat.le_of_ble_eq_true rfl) ?_
  intro p e s m below meth c A ls X hr hH hl
  replace X : zX p s m [.ref (hq 0), .int x1, .int x2].toArray meth c RX3 cX3_delay 3 wsX3_delay G cy A := X
  have hx := X.1.1
  have hb := X.1.2.1
  replace hl : lv_has ls 3 [(0, .ref (hq 0)), (1, .int x1), (2, .int x2)] := hl
  dsimp only [f_X3_delay] at h
  refine lv_aload_n (pc := 0) hx hb dX3_delay_0 rfl (lv_at hl 0 rfl) ?_
  refine lv_iload_n (pc := 1) hx hb dX3_delay_1 rfl (lv_at hl 1 rfl) ?_
  obtain ⟨zr1, hzr1, h⟩ := zb h
  refine zcV (pc := 2) (As := [.int x1]) (rest := []) (st1 := [.int zr1]) (ws' := wH cy hq h_alive h_late h_hbr h_rbh h_waits h_pers h_size h_ranks h_lines) (wr := []) (n := 1) (q0 := 0) X (c_X3_isHost l G cy fu hq h_alive h_late h_hbr h_rbh h_waits h_pers h_size h_ranks h_lines x1 zr1 hzr1) hH [0, 1, 2, 3, 4, 5, 6] [] [0, 1, 2, 3, 4, 5, 6] rfl rfl rfl rfl gX3_delay_X3_isHost rfl ⟨rfl, rfl⟩ kX3_isHost ⟨Nat.le_of_ble_eq_true rfl, Nat.le_of_ble_eq_true rfl⟩ rfl rfl rfl rfl rfl hl.1 (Nat.le_of_ble_eq_true rfl) ⟨Nat.le_of_ble_eq_true rfl, Nat.le_of_ble_eq_true rfl⟩ dX3_delay_2 (fun H locs hH => ?_)
  refine lv_if_eq (pc := 5) (tgt := 15) hx hb dX3_delay_5 rfl (fun zc2 => ?_) (fun zc2 => ?_)
  · have h := zt zc2 h
    obtain rfl := Option.some.inj h
    exact z_vret X hr hH dX3_delay_15
  have h := zf zc2 h
  refine lv_aload_n (pc := 8) hx hb dX3_delay_8 rfl (lv_at hl 0 rfl) ?_
  refine z_get (pc := 9) (v := .ref (hq 2)) X iX3_delay_X3 hH 0 rfl rfl 1 rfl (List.mem_of_getElem? (i := 1) rfl) rfl dX3_delay_9 ?_
  refine lv_iload_n (pc := 12) hx hb dX3_delay_12 rfl (lv_at hl 1 rfl) ?_
  refine lv_iload_n (pc := 13) hx hb dX3_delay_13 rfl (lv_at hl 2 rfl) ?_
  obtain ⟨hin, h⟩ := zg h
  refine z_iast (pc := 14) (ws' := wH cy hq h_alive (upd h_late (x1).toNatClampNeg x2) h_hbr h_rbh h_waits h_pers h_size h_ranks h_lines) X hH 2 rfl hin rfl dX3_delay_14 (fun H locs hH => ?_)
  obtain rfl := Option.some.inj h
  exact z_vret X hr hH dX3_delay_15
set_option maxHeartbeats 4000000 in
set_option maxRecDepth 100000 in
theorem c_X3_join (l : Launch) (G : va_G) (cy : Nat → ClassId) (fu : Nat) (hq : Nat → Nat) (h_alive : Nat → Int32) (h_late : Nat → Int32) (h_hbr : Nat → Int32) (h_rbh : Nat → Int32) (h_waits : Nat → Int32) (h_pers : Nat → Int32) (h_size : Int32) (h_ranks : Int32) (h_lines : Int32) (x1 : Int32) (x2 : Int32) (x3 : Int32) (x4 : Int32) (rr : (Nat → Int32) × (Nat → Int32) × Int32) (h : f_X3_join fu h_waits h_pers h_size h_lines x1 x2 x3 x4 = some rr) : zM l G cy yX3_join wsX3_join (zR 2 43) [.ref (hq 0), .int x1, .int x2, .int x3, .int x4] (wH cy hq h_alive h_late h_hbr h_rbh h_waits h_pers h_size h_ranks h_lines) (wH cy hq h_alive h_late h_hbr h_rbh rr.1 rr.2.1 h_size h_ranks rr.2.2) none := by
  refine zM.mk (cc := cX3_join) (nL := 5) (ret := none) (by decide) rfl (Nat.le_of_ble_eq_true rfl) ?_
  intro p e s m below meth c A ls X hr hH hl
  replace X : zX p s m [.ref (hq 0), .int x1, .int x2, .int x3, .int x4].toArray meth c RX3 cX3_join 5 wsX3_join G cy A := X
  have hx := X.1.1
  have hb := X.1.2.1
  replace hl : lv_has ls 5 [(0, .ref (hq 0)), (1, .int x1), (2, .int x2), (3, .int x3), (4, .int x4)] := hl
  dsimp only [f_X3_join] at h
  refine lv_aload_n (pc := 0) hx hb dX3_join_0 rfl (lv_at hl 0 rfl) ?_
  refine lv_iload_n (pc := 1) hx hb dX3_join_1 rfl (lv_at hl 1 rfl) ?_
  refine lv_iload_n (pc := 2) hx hb dX3_join_2 rfl (lv_at hl 2 rfl) ?_
  obtain ⟨zr1, hzr1, h⟩ := zb h
  refine zcV (pc := 3) (As := [.int x1, .int x2]) (rest := []) (st1 := [.int zr1]) (ws' := wH cy hq h_alive h_late h_hbr h_rbh h_waits h_pers h_size h_ranks h_lines) (wr := []) (n := 2) (q0 := 0) X (c_X3_isPair l G cy fu hq h_alive h_late h_hbr h_rbh h_waits h_pers h_size h_ranks h_lines x1 x2 zr1 hzr1) hH [0, 1, 2, 3, 4, 5, 6] [] [0, 1, 2, 3, 4, 5, 6] rfl rfl rfl rfl gX3_join_X3_isPair rfl ⟨rfl, rfl⟩ kX3_isPair ⟨Nat.le_of_ble_eq_true rfl, Nat.le_of_ble_eq_true rfl⟩ rfl rfl rfl rfl rfl hl.1 (Nat.le_of_ble_eq_true rfl) ⟨Nat.le_of_ble_eq_true rfl, Nat.le_of_ble_eq_true rfl⟩ dX3_join_3 (fun H locs hH => ?_)
  refine lv_if_ne (pc := 6) (tgt := 10) hx hb dX3_join_6 rfl (fun zc2 => ?_) (fun zc2 => ?_)
  · have h := zf zc2 h
    refine lv_aload_n (pc := 10) hx hb dX3_join_10 rfl (lv_at hl 0 rfl) ?_
    refine lv_iload_n (pc := 11) hx hb dX3_join_11 rfl (lv_at hl 1 rfl) ?_
    refine lv_iload_n (pc := 12) hx hb dX3_join_12 rfl (lv_at hl 2 rfl) ?_
    obtain ⟨zr3, hzr3, h⟩ := zb h
    refine zcV (pc := 13) (As := [.int x1, .int x2]) (rest := []) (st1 := [.int zr3]) (ws' := wH cy hq h_alive h_late h_hbr h_rbh h_waits h_pers h_size h_ranks h_lines) (wr := []) (n := 2) (q0 := 0) X (c_X3_hasLine l G cy fu hq h_alive h_late h_hbr h_rbh h_waits h_pers h_size h_ranks h_lines x1 x2 zr3 hzr3) hH [0, 1, 2, 3, 4, 5, 6] [] [0, 1, 2, 3, 4, 5, 6] rfl rfl rfl rfl gX3_join_X3_hasLine rfl ⟨rfl, rfl⟩ kX3_hasLine ⟨Nat.le_of_ble_eq_true rfl, Nat.le_of_ble_eq_true rfl⟩ rfl rfl rfl rfl rfl hl.1 (Nat.le_of_ble_eq_true rfl) ⟨Nat.le_of_ble_eq_true rfl, Nat.le_of_ble_eq_true rfl⟩ dX3_join_13 (fun H locs hH => ?_)
    refine lv_if_ne (pc := 16) (tgt := 29) hx hb dX3_join_16 rfl (fun zc4 => ?_) (fun zc4 => ?_)
    · have h := zf zc4 h
      refine lv_aload_n (pc := 29) hx hb dX3_join_29 rfl (lv_at hl 0 rfl) ?_
      refine z_get (pc := 30) (v := .ref (hq 5)) X iX3_join_X3 hH 0 rfl rfl 4 rfl (List.mem_of_getElem? (i := 2) rfl) rfl dX3_join_30 ?_
      refine lv_iload_n (pc := 33) hx hb dX3_join_33 rfl (lv_at hl 1 rfl) ?_
      refine lv_iload_n (pc := 34) hx hb dX3_join_34 rfl (lv_at hl 2 rfl) ?_
      obtain ⟨zr5, hzr5, h⟩ := zb h
      refine zcS (pc := 35) (As := [.int x1, .int x2]) (rest := [.ref (hq 5)]) (st1 := [.int zr5, .ref (hq 5)]) (ws' := wH cy hq h_alive h_late h_hbr h_rbh h_waits h_pers h_size h_ranks h_lines) (wr := [((hq 0), .inr (2, [.ref (hq 1), .ref (hq 2), .ref (hq 3), .ref (hq 4), .ref (hq 5), .ref (hq 6), .int h_size, .int h_ranks, .int h_lines])), ((hq 1), .inl (cy 2, 16, .inl h_alive)), ((hq 2), .inl (cy 0, 16, .inl h_late)), ((hq 3), .inl (cy 0, 16, .inl h_hbr)), ((hq 4), .inl (cy 0, 16, .inl h_rbh)), ((hq 5), .inl (cy 0, 256, .inl h_waits)), ((hq 6), .inl (cy 0, 256, .inl h_pers))]) (n := 2) X (c_X3_pair l G cy fu x1 x2 zr5 hzr5) hH [] [0, 1, 2, 3, 4, 5, 6] [0, 1, 2, 3, 4, 5, 6] rfl rfl rfl rfl gX3_join_X3_pair rfl ⟨rfl, rfl⟩ kX3_pair ⟨Nat.le_of_ble_eq_true rfl, Nat.le_of_ble_eq_true rfl⟩ rfl rfl rfl hl.1 (Nat.le_of_ble_eq_true rfl) ⟨Nat.le_of_ble_eq_true rfl, Nat.le_of_ble_eq_true rfl⟩ dX3_join_35 (fun H locs hH => ?_)
      refine lv_iload_n (pc := 38) hx hb dX3_join_38 rfl (lv_at hl 3 rfl) ?_
      obtain ⟨hin, h⟩ := zg h
      refine z_iast (pc := 39) (ws' := wH cy hq h_alive h_late h_hbr h_rbh (upd h_waits (zr5).toNatClampNeg x3) h_pers h_size h_ranks h_lines) X hH 5 rfl hin rfl dX3_join_39 (fun H locs hH => ?_)
      refine lv_aload_n (pc := 40) hx hb dX3_join_40 rfl (lv_at hl 0 rfl) ?_
      refine z_get (pc := 41) (v := .ref (hq 5)) X iX3_join_X3 hH 0 rfl rfl 4 rfl (List.mem_of_getElem? (i := 2) rfl) rfl dX3_join_41 ?_
      refine lv_iload_n (pc := 44) hx hb dX3_join_44 rfl (lv_at hl 2 rfl) ?_
      refine lv_iload_n (pc := 45) hx hb dX3_join_45 rfl (lv_at hl 1 rfl) ?_
      obtain ⟨zr6, hzr6, h⟩ := zb h
      refine zcS (pc := 46) (As := [.int x2, .int x1]) (rest := [.ref (hq 5)]) (st1 := [.int zr6, .ref (hq 5)]) (ws' := wH cy hq h_alive h_late h_hbr h_rbh (upd h_waits (zr5).toNatClampNeg x3) h_pers h_size h_ranks h_lines) (wr := [((hq 0), .inr (2, [.ref (hq 1), .ref (hq 2), .ref (hq 3), .ref (hq 4), .ref (hq 5), .ref (hq 6), .int h_size, .int h_ranks, .int h_lines])), ((hq 1), .inl (cy 2, 16, .inl h_alive)), ((hq 2), .inl (cy 0, 16, .inl h_late)), ((hq 3), .inl (cy 0, 16, .inl h_hbr)), ((hq 4), .inl (cy 0, 16, .inl h_rbh)), ((hq 5), .inl (cy 0, 256, .inl (upd h_waits (zr5).toNatClampNeg x3))), ((hq 6), .inl (cy 0, 256, .inl h_pers))]) (n := 2) X (c_X3_pair l G cy fu x2 x1 zr6 hzr6) hH [] [0, 1, 2, 3, 4, 5, 6] [0, 1, 2, 3, 4, 5, 6] rfl rfl rfl rfl gX3_join_X3_pair rfl ⟨rfl, rfl⟩ kX3_pair ⟨Nat.le_of_ble_eq_true rfl, Nat.le_of_ble_eq_true rfl⟩ rfl rfl rfl hl.1 (Nat.le_of_ble_eq_true rfl) ⟨Nat.le_of_ble_eq_true rfl, Nat.le_of_ble_eq_true rfl⟩ dX3_join_46 (fun H locs hH => ?_)
      refine lv_iload_n (pc := 49) hx hb dX3_join_49 rfl (lv_at hl 3 rfl) ?_
      obtain ⟨hin, h⟩ := zg h
      refine z_iast (pc := 50) (ws' := wH cy hq h_alive h_late h_hbr h_rbh (upd (upd h_waits (zr5).toNatClampNeg x3) (zr6).toNatClampNeg x3) h_pers h_size h_ranks h_lines) X hH 5 rfl hin rfl dX3_join_50 (fun H locs hH => ?_)
      refine lv_aload_n (pc := 51) hx hb dX3_join_51 rfl (lv_at hl 0 rfl) ?_
      refine z_get (pc := 52) (v := .ref (hq 6)) X iX3_join_X3 hH 0 rfl rfl 5 rfl (List.mem_of_getElem? (i := 3) rfl) rfl dX3_join_52 ?_
      refine lv_iload_n (pc := 55) hx hb dX3_join_55 rfl (lv_at hl 1 rfl) ?_
      refine lv_iload_n (pc := 56) hx hb dX3_join_56 rfl (lv_at hl 2 rfl) ?_
      obtain ⟨zr7, hzr7, h⟩ := zb h
      refine zcS (pc := 57) (As := [.int x1, .int x2]) (rest := [.ref (hq 6)]) (st1 := [.int zr7, .ref (hq 6)]) (ws' := wH cy hq h_alive h_late h_hbr h_rbh (upd (upd h_waits (zr5).toNatClampNeg x3) (zr6).toNatClampNeg x3) h_pers h_size h_ranks h_lines) (wr := [((hq 0), .inr (2, [.ref (hq 1), .ref (hq 2), .ref (hq 3), .ref (hq 4), .ref (hq 5), .ref (hq 6), .int h_size, .int h_ranks, .int h_lines])), ((hq 1), .inl (cy 2, 16, .inl h_alive)), ((hq 2), .inl (cy 0, 16, .inl h_late)), ((hq 3), .inl (cy 0, 16, .inl h_hbr)), ((hq 4), .inl (cy 0, 16, .inl h_rbh)), ((hq 5), .inl (cy 0, 256, .inl (upd (upd h_waits (zr5).toNatClampNeg x3) (zr6).toNatClampNeg x3))), ((hq 6), .inl (cy 0, 256, .inl h_pers))]) (n := 2) X (c_X3_pair l G cy fu x1 x2 zr7 hzr7) hH [] [0, 1, 2, 3, 4, 5, 6] [0, 1, 2, 3, 4, 5, 6] rfl rfl rfl rfl gX3_join_X3_pair rfl ⟨rfl, rfl⟩ kX3_pair ⟨Nat.le_of_ble_eq_true rfl, Nat.le_of_ble_eq_true rfl⟩ rfl rfl rfl hl.1 (Nat.le_of_ble_eq_true rfl) ⟨Nat.le_of_ble_eq_true rfl, Nat.le_of_ble_eq_true rfl⟩ dX3_join_57 (fun H locs hH => ?_)
      refine lv_iload (pc := 60) hx hb dX3_join_60 (lv_at hl 4 rfl) ?_
      obtain ⟨hin, h⟩ := zg h
      refine z_iast (pc := 62) (ws' := wH cy hq h_alive h_late h_hbr h_rbh (upd (upd h_waits (zr5).toNatClampNeg x3) (zr6).toNatClampNeg x3) (upd h_pers (zr7).toNatClampNeg x4) h_size h_ranks h_lines) X hH 6 rfl hin rfl dX3_join_62 (fun H locs hH => ?_)
      refine lv_aload_n (pc := 63) hx hb dX3_join_63 rfl (lv_at hl 0 rfl) ?_
      refine z_get (pc := 64) (v := .ref (hq 6)) X iX3_join_X3 hH 0 rfl rfl 5 rfl (List.mem_of_getElem? (i := 3) rfl) rfl dX3_join_64 ?_
      refine lv_iload_n (pc := 67) hx hb dX3_join_67 rfl (lv_at hl 2 rfl) ?_
      refine lv_iload_n (pc := 68) hx hb dX3_join_68 rfl (lv_at hl 1 rfl) ?_
      obtain ⟨zr8, hzr8, h⟩ := zb h
      refine zcS (pc := 69) (As := [.int x2, .int x1]) (rest := [.ref (hq 6)]) (st1 := [.int zr8, .ref (hq 6)]) (ws' := wH cy hq h_alive h_late h_hbr h_rbh (upd (upd h_waits (zr5).toNatClampNeg x3) (zr6).toNatClampNeg x3) (upd h_pers (zr7).toNatClampNeg x4) h_size h_ranks h_lines) (wr := [((hq 0), .inr (2, [.ref (hq 1), .ref (hq 2), .ref (hq 3), .ref (hq 4), .ref (hq 5), .ref (hq 6), .int h_size, .int h_ranks, .int h_lines])), ((hq 1), .inl (cy 2, 16, .inl h_alive)), ((hq 2), .inl (cy 0, 16, .inl h_late)), ((hq 3), .inl (cy 0, 16, .inl h_hbr)), ((hq 4), .inl (cy 0, 16, .inl h_rbh)), ((hq 5), .inl (cy 0, 256, .inl (upd (upd h_waits (zr5).toNatClampNeg x3) (zr6).toNatClampNeg x3))), ((hq 6), .inl (cy 0, 256, .inl (upd h_pers (zr7).toNatClampNeg x4)))]) (n := 2) X (c_X3_pair l G cy fu x2 x1 zr8 hzr8) hH [] [0, 1, 2, 3, 4, 5, 6] [0, 1, 2, 3, 4, 5, 6] rfl rfl rfl rfl gX3_join_X3_pair rfl ⟨rfl, rfl⟩ kX3_pair ⟨Nat.le_of_ble_eq_true rfl, Nat.le_of_ble_eq_true rfl⟩ rfl rfl rfl hl.1 (Nat.le_of_ble_eq_true rfl) ⟨Nat.le_of_ble_eq_true rfl, Nat.le_of_ble_eq_true rfl⟩ dX3_join_69 (fun H locs hH => ?_)
      refine lv_iload (pc := 72) hx hb dX3_join_72 (lv_at hl 4 rfl) ?_
      obtain ⟨hin, h⟩ := zg h
      refine z_iast (pc := 74) (ws' := wH cy hq h_alive h_late h_hbr h_rbh (upd (upd h_waits (zr5).toNatClampNeg x3) (zr6).toNatClampNeg x3) (upd (upd h_pers (zr7).toNatClampNeg x4) (zr8).toNatClampNeg x4) h_size h_ranks h_lines) X hH 6 rfl hin rfl dX3_join_74 (fun H locs hH => ?_)
      obtain rfl := Option.some.inj h
      exact z_vret X hr hH dX3_join_75
    have h := zt zc4 h
    refine lv_aload_n (pc := 19) hx hb dX3_join_19 rfl (lv_at hl 0 rfl) ?_
    refine lv_dup (pc := 20) hx hb dX3_join_20 rfl ?_
    refine z_get (pc := 21) (v := .int h_lines) X iX3_join_X3 hH 0 rfl rfl 8 rfl (List.mem_of_getElem? (i := 1) rfl) rfl dX3_join_21 ?_
    refine lv_iconst (v := 1) (pc := 24) hx hb dX3_join_24 zk_c1 ?_
    refine lv_iadd (pc := 25) hx hb dX3_join_25 ?_
    refine lv_topi (fun za9 eza9 => ?_)
    have h := vn_s h za9 eza9
    refine z_put (pc := 26) (v := .int za9) (ws' := wH cy hq h_alive h_late h_hbr h_rbh h_waits h_pers h_size h_ranks za9) X iX3_join_X3 tyX3 tyX3_ok nmX3 hH 0 rfl rfl 8 rfl (List.mem_of_getElem? (i := 1) rfl) rfl rfl rfl rfl rfl dX3_join_26 (fun H locs hH => ?_)
    refine lv_aload_n (pc := 29) hx hb dX3_join_29 rfl (lv_at hl 0 rfl) ?_
    refine z_get (pc := 30) (v := .ref (hq 5)) X iX3_join_X3 hH 0 rfl rfl 4 rfl (List.mem_of_getElem? (i := 2) rfl) rfl dX3_join_30 ?_
    refine lv_iload_n (pc := 33) hx hb dX3_join_33 rfl (lv_at hl 1 rfl) ?_
    refine lv_iload_n (pc := 34) hx hb dX3_join_34 rfl (lv_at hl 2 rfl) ?_
    obtain ⟨zr10, hzr10, h⟩ := zb h
    refine zcS (pc := 35) (As := [.int x1, .int x2]) (rest := [.ref (hq 5)]) (st1 := [.int zr10, .ref (hq 5)]) (ws' := wH cy hq h_alive h_late h_hbr h_rbh h_waits h_pers h_size h_ranks za9) (wr := [((hq 0), .inr (2, [.ref (hq 1), .ref (hq 2), .ref (hq 3), .ref (hq 4), .ref (hq 5), .ref (hq 6), .int h_size, .int h_ranks, .int za9])), ((hq 1), .inl (cy 2, 16, .inl h_alive)), ((hq 2), .inl (cy 0, 16, .inl h_late)), ((hq 3), .inl (cy 0, 16, .inl h_hbr)), ((hq 4), .inl (cy 0, 16, .inl h_rbh)), ((hq 5), .inl (cy 0, 256, .inl h_waits)), ((hq 6), .inl (cy 0, 256, .inl h_pers))]) (n := 2) X (c_X3_pair l G cy fu x1 x2 zr10 hzr10) hH [] [0, 1, 2, 3, 4, 5, 6] [0, 1, 2, 3, 4, 5, 6] rfl rfl rfl rfl gX3_join_X3_pair rfl ⟨rfl, rfl⟩ kX3_pair ⟨Nat.le_of_ble_eq_true rfl, Nat.le_of_ble_eq_true rfl⟩ rfl rfl rfl hl.1 (Nat.le_of_ble_eq_true rfl) ⟨Nat.le_of_ble_eq_true rfl, Nat.le_of_ble_eq_true rfl⟩ dX3_join_35 (fun H locs hH => ?_)
    refine lv_iload_n (pc := 38) hx hb dX3_join_38 rfl (lv_at hl 3 rfl) ?_
    obtain ⟨hin, h⟩ := zg h
    refine z_iast (pc := 39) (ws' := wH cy hq h_alive h_late h_hbr h_rbh (upd h_waits (zr10).toNatClampNeg x3) h_pers h_size h_ranks za9) X hH 5 rfl hin rfl dX3_join_39 (fun H locs hH => ?_)
    refine lv_aload_n (pc := 40) hx hb dX3_join_40 rfl (lv_at hl 0 rfl) ?_
    refine z_get (pc := 41) (v := .ref (hq 5)) X iX3_join_X3 hH 0 rfl rfl 4 rfl (List.mem_of_getElem? (i := 2) rfl) rfl dX3_join_41 ?_
    refine lv_iload_n (pc := 44) hx hb dX3_join_44 rfl (lv_at hl 2 rfl) ?_
    refine lv_iload_n (pc := 45) hx hb dX3_join_45 rfl (lv_at hl 1 rfl) ?_
    obtain ⟨zr11, hzr11, h⟩ := zb h
    refine zcS (pc := 46) (As := [.int x2, .int x1]) (rest := [.ref (hq 5)]) (st1 := [.int zr11, .ref (hq 5)]) (ws' := wH cy hq h_alive h_late h_hbr h_rbh (upd h_waits (zr10).toNatClampNeg x3) h_pers h_size h_ranks za9) (wr := [((hq 0), .inr (2, [.ref (hq 1), .ref (hq 2), .ref (hq 3), .ref (hq 4), .ref (hq 5), .ref (hq 6), .int h_size, .int h_ranks, .int za9])), ((hq 1), .inl (cy 2, 16, .inl h_alive)), ((hq 2), .inl (cy 0, 16, .inl h_late)), ((hq 3), .inl (cy 0, 16, .inl h_hbr)), ((hq 4), .inl (cy 0, 16, .inl h_rbh)), ((hq 5), .inl (cy 0, 256, .inl (upd h_waits (zr10).toNatClampNeg x3))), ((hq 6), .inl (cy 0, 256, .inl h_pers))]) (n := 2) X (c_X3_pair l G cy fu x2 x1 zr11 hzr11) hH [] [0, 1, 2, 3, 4, 5, 6] [0, 1, 2, 3, 4, 5, 6] rfl rfl rfl rfl gX3_join_X3_pair rfl ⟨rfl, rfl⟩ kX3_pair ⟨Nat.le_of_ble_eq_true rfl, Nat.le_of_ble_eq_true rfl⟩ rfl rfl rfl hl.1 (Nat.le_of_ble_eq_true rfl) ⟨Nat.le_of_ble_eq_true rfl, Nat.le_of_ble_eq_true rfl⟩ dX3_join_46 (fun H locs hH => ?_)
    refine lv_iload_n (pc := 49) hx hb dX3_join_49 rfl (lv_at hl 3 rfl) ?_
    obtain ⟨hin, h⟩ := zg h
    refine z_iast (pc := 50) (ws' := wH cy hq h_alive h_late h_hbr h_rbh (upd (upd h_waits (zr10).toNatClampNeg x3) (zr11).toNatClampNeg x3) h_pers h_size h_ranks za9) X hH 5 rfl hin rfl dX3_join_50 (fun H locs hH => ?_)
    refine lv_aload_n (pc := 51) hx hb dX3_join_51 rfl (lv_at hl 0 rfl) ?_
    refine z_get (pc := 52) (v := .ref (hq 6)) X iX3_join_X3 hH 0 rfl rfl 5 rfl (List.mem_of_getElem? (i := 3) rfl) rfl dX3_join_52 ?_
    refine lv_iload_n (pc := 55) hx hb dX3_join_55 rfl (lv_at hl 1 rfl) ?_
    refine lv_iload_n (pc := 56) hx hb dX3_join_56 rfl (lv_at hl 2 rfl) ?_
    obtain ⟨zr12, hzr12, h⟩ := zb h
    refine zcS (pc := 57) (As := [.int x1, .int x2]) (rest := [.ref (hq 6)]) (st1 := [.int zr12, .ref (hq 6)]) (ws' := wH cy hq h_alive h_late h_hbr h_rbh (upd (upd h_waits (zr10).toNatClampNeg x3) (zr11).toNatClampNeg x3) h_pers h_size h_ranks za9) (wr := [((hq 0), .inr (2, [.ref (hq 1), .ref (hq 2), .ref (hq 3), .ref (hq 4), .ref (hq 5), .ref (hq 6), .int h_size, .int h_ranks, .int za9])), ((hq 1), .inl (cy 2, 16, .inl h_alive)), ((hq 2), .inl (cy 0, 16, .inl h_late)), ((hq 3), .inl (cy 0, 16, .inl h_hbr)), ((hq 4), .inl (cy 0, 16, .inl h_rbh)), ((hq 5), .inl (cy 0, 256, .inl (upd (upd h_waits (zr10).toNatClampNeg x3) (zr11).toNatClampNeg x3))), ((hq 6), .inl (cy 0, 256, .inl h_pers))]) (n := 2) X (c_X3_pair l G cy fu x1 x2 zr12 hzr12) hH [] [0, 1, 2, 3, 4, 5, 6] [0, 1, 2, 3, 4, 5, 6] rfl rfl rfl rfl gX3_join_X3_pair rfl ⟨rfl, rfl⟩ kX3_pair ⟨Nat.le_of_ble_eq_true rfl, Nat.le_of_ble_eq_true rfl⟩ rfl rfl rfl hl.1 (Nat.le_of_ble_eq_true rfl) ⟨Nat.le_of_ble_eq_true rfl, Nat.le_of_ble_eq_true rfl⟩ dX3_join_57 (fun H locs hH => ?_)
    refine lv_iload (pc := 60) hx hb dX3_join_60 (lv_at hl 4 rfl) ?_
    obtain ⟨hin, h⟩ := zg h
    refine z_iast (pc := 62) (ws' := wH cy hq h_alive h_late h_hbr h_rbh (upd (upd h_waits (zr10).toNatClampNeg x3) (zr11).toNatClampNeg x3) (upd h_pers (zr12).toNatClampNeg x4) h_size h_ranks za9) X hH 6 rfl hin rfl dX3_join_62 (fun H locs hH => ?_)
    refine lv_aload_n (pc := 63) hx hb dX3_join_63 rfl (lv_at hl 0 rfl) ?_
    refine z_get (pc := 64) (v := .ref (hq 6)) X iX3_join_X3 hH 0 rfl rfl 5 rfl (List.mem_of_getElem? (i := 3) rfl) rfl dX3_join_64 ?_
    refine lv_iload_n (pc := 67) hx hb dX3_join_67 rfl (lv_at hl 2 rfl) ?_
    refine lv_iload_n (pc := 68) hx hb dX3_join_68 rfl (lv_at hl 1 rfl) ?_
    obtain ⟨zr13, hzr13, h⟩ := zb h
    refine zcS (pc := 69) (As := [.int x2, .int x1]) (rest := [.ref (hq 6)]) (st1 := [.int zr13, .ref (hq 6)]) (ws' := wH cy hq h_alive h_late h_hbr h_rbh (upd (upd h_waits (zr10).toNatClampNeg x3) (zr11).toNatClampNeg x3) (upd h_pers (zr12).toNatClampNeg x4) h_size h_ranks za9) (wr := [((hq 0), .inr (2, [.ref (hq 1), .ref (hq 2), .ref (hq 3), .ref (hq 4), .ref (hq 5), .ref (hq 6), .int h_size, .int h_ranks, .int za9])), ((hq 1), .inl (cy 2, 16, .inl h_alive)), ((hq 2), .inl (cy 0, 16, .inl h_late)), ((hq 3), .inl (cy 0, 16, .inl h_hbr)), ((hq 4), .inl (cy 0, 16, .inl h_rbh)), ((hq 5), .inl (cy 0, 256, .inl (upd (upd h_waits (zr10).toNatClampNeg x3) (zr11).toNatClampNeg x3))), ((hq 6), .inl (cy 0, 256, .inl (upd h_pers (zr12).toNatClampNeg x4)))]) (n := 2) X (c_X3_pair l G cy fu x2 x1 zr13 hzr13) hH [] [0, 1, 2, 3, 4, 5, 6] [0, 1, 2, 3, 4, 5, 6] rfl rfl rfl rfl gX3_join_X3_pair rfl ⟨rfl, rfl⟩ kX3_pair ⟨Nat.le_of_ble_eq_true rfl, Nat.le_of_ble_eq_true rfl⟩ rfl rfl rfl hl.1 (Nat.le_of_ble_eq_true rfl) ⟨Nat.le_of_ble_eq_true rfl, Nat.le_of_ble_eq_true rfl⟩ dX3_join_69 (fun H locs hH => ?_)
    refine lv_iload (pc := 72) hx hb dX3_join_72 (lv_at hl 4 rfl) ?_
    obtain ⟨hin, h⟩ := zg h
    refine z_iast (pc := 74) (ws' := wH cy hq h_alive h_late h_hbr h_rbh (upd (upd h_waits (zr10).toNatClampNeg x3) (zr11).toNatClampNeg x3) (upd (upd h_pers (zr12).toNatClampNeg x4) (zr13).toNatClampNeg x4) h_size h_ranks za9) X hH 6 rfl hin rfl dX3_join_74 (fun H locs hH => ?_)
    obtain rfl := Option.some.inj h
    exact z_vret X hr hH dX3_join_75
  have h := zt zc2 h
  obtain rfl := Option.some.inj h
  exact z_vret X hr hH dX3_join_9
set_option maxHeartbeats 4000000 in
set_option maxRecDepth 100000 in
theorem c_X3_part (l : Launch) (G : va_G) (cy : Nat → ClassId) (fu : Nat) (hq : Nat → Nat) (h_alive : Nat → Int32) (h_late : Nat → Int32) (h_hbr : Nat → Int32) (h_rbh : Nat → Int32) (h_waits : Nat → Int32) (h_pers : Nat → Int32) (h_size : Int32) (h_ranks : Int32) (h_lines : Int32) (x1 : Int32) (x2 : Int32) (rr : (Nat → Int32) × Int32) (h : f_X3_part fu h_waits h_lines x1 x2 = some rr) : zM l G cy yX3_part wsX3_part (zR 1 22) [.ref (hq 0), .int x1, .int x2] (wH cy hq h_alive h_late h_hbr h_rbh h_waits h_pers h_size h_ranks h_lines) (wH cy hq h_alive h_late h_hbr h_rbh rr.1 h_pers h_size h_ranks rr.2) none := by
  refine zM.mk (cc := cX3_part) (nL := 3) (ret := none) (by decide) rfl (Nat.le_of_ble_eq_true rfl) ?_
  intro p e s m below meth c A ls X hr hH hl
  replace X : zX p s m [.ref (hq 0), .int x1, .int x2].toArray meth c RX3 cX3_part 3 wsX3_part G cy A := X
  have hx := X.1.1
  have hb := X.1.2.1
  replace hl : lv_has ls 3 [(0, .ref (hq 0)), (1, .int x1), (2, .int x2)] := hl
  dsimp only [f_X3_part] at h
  refine lv_aload_n (pc := 0) hx hb dX3_part_0 rfl (lv_at hl 0 rfl) ?_
  refine lv_iload_n (pc := 1) hx hb dX3_part_1 rfl (lv_at hl 1 rfl) ?_
  refine lv_iload_n (pc := 2) hx hb dX3_part_2 rfl (lv_at hl 2 rfl) ?_
  obtain ⟨zr1, hzr1, h⟩ := zb h
  refine zcV (pc := 3) (As := [.int x1, .int x2]) (rest := []) (st1 := [.int zr1]) (ws' := wH cy hq h_alive h_late h_hbr h_rbh h_waits h_pers h_size h_ranks h_lines) (wr := []) (n := 2) (q0 := 0) X (c_X3_hasLine l G cy fu hq h_alive h_late h_hbr h_rbh h_waits h_pers h_size h_ranks h_lines x1 x2 zr1 hzr1) hH [0, 1, 2, 3, 4, 5, 6] [] [0, 1, 2, 3, 4, 5, 6] rfl rfl rfl rfl gX3_part_X3_hasLine rfl ⟨rfl, rfl⟩ kX3_hasLine ⟨Nat.le_of_ble_eq_true rfl, Nat.le_of_ble_eq_true rfl⟩ rfl rfl rfl rfl rfl hl.1 (Nat.le_of_ble_eq_true rfl) ⟨Nat.le_of_ble_eq_true rfl, Nat.le_of_ble_eq_true rfl⟩ dX3_part_3 (fun H locs hH => ?_)
  refine lv_if_ne (pc := 6) (tgt := 10) hx hb dX3_part_6 rfl (fun zc2 => ?_) (fun zc2 => ?_)
  · have h := zf zc2 h
    refine lv_aload_n (pc := 10) hx hb dX3_part_10 rfl (lv_at hl 0 rfl) ?_
    refine lv_dup (pc := 11) hx hb dX3_part_11 rfl ?_
    refine z_get (pc := 12) (v := .int h_lines) X iX3_part_X3 hH 0 rfl rfl 8 rfl (List.mem_of_getElem? (i := 1) rfl) rfl dX3_part_12 ?_
    refine lv_iconst (v := 1) (pc := 15) hx hb dX3_part_15 zk_c1 ?_
    refine lv_isub (pc := 16) hx hb dX3_part_16 ?_
    refine lv_topi (fun za3 eza3 => ?_)
    have h := vn_s h za3 eza3
    refine z_put (pc := 17) (v := .int za3) (ws' := wH cy hq h_alive h_late h_hbr h_rbh h_waits h_pers h_size h_ranks za3) X iX3_part_X3 tyX3 tyX3_ok nmX3 hH 0 rfl rfl 8 rfl (List.mem_of_getElem? (i := 1) rfl) rfl rfl rfl rfl rfl dX3_part_17 (fun H locs hH => ?_)
    refine lv_aload_n (pc := 20) hx hb dX3_part_20 rfl (lv_at hl 0 rfl) ?_
    refine z_get (pc := 21) (v := .ref (hq 5)) X iX3_part_X3 hH 0 rfl rfl 4 rfl (List.mem_of_getElem? (i := 2) rfl) rfl dX3_part_21 ?_
    refine lv_iload_n (pc := 24) hx hb dX3_part_24 rfl (lv_at hl 1 rfl) ?_
    refine lv_iload_n (pc := 25) hx hb dX3_part_25 rfl (lv_at hl 2 rfl) ?_
    obtain ⟨zr4, hzr4, h⟩ := zb h
    refine zcS (pc := 26) (As := [.int x1, .int x2]) (rest := [.ref (hq 5)]) (st1 := [.int zr4, .ref (hq 5)]) (ws' := wH cy hq h_alive h_late h_hbr h_rbh h_waits h_pers h_size h_ranks za3) (wr := [((hq 0), .inr (2, [.ref (hq 1), .ref (hq 2), .ref (hq 3), .ref (hq 4), .ref (hq 5), .ref (hq 6), .int h_size, .int h_ranks, .int za3])), ((hq 1), .inl (cy 2, 16, .inl h_alive)), ((hq 2), .inl (cy 0, 16, .inl h_late)), ((hq 3), .inl (cy 0, 16, .inl h_hbr)), ((hq 4), .inl (cy 0, 16, .inl h_rbh)), ((hq 5), .inl (cy 0, 256, .inl h_waits)), ((hq 6), .inl (cy 0, 256, .inl h_pers))]) (n := 2) X (c_X3_pair l G cy fu x1 x2 zr4 hzr4) hH [] [0, 1, 2, 3, 4, 5, 6] [0, 1, 2, 3, 4, 5, 6] rfl rfl rfl rfl gX3_part_X3_pair rfl ⟨rfl, rfl⟩ kX3_pair ⟨Nat.le_of_ble_eq_true rfl, Nat.le_of_ble_eq_true rfl⟩ rfl rfl rfl hl.1 (Nat.le_of_ble_eq_true rfl) ⟨Nat.le_of_ble_eq_true rfl, Nat.le_of_ble_eq_true rfl⟩ dX3_part_26 (fun H locs hH => ?_)
    refine lv_iconst (v := (-1)) (pc := 29) hx hb dX3_part_29 zk_cm1 ?_
    obtain ⟨hin, h⟩ := zg h
    refine z_iast (pc := 30) (ws' := wH cy hq h_alive h_late h_hbr h_rbh (upd h_waits (zr4).toNatClampNeg (-1)) h_pers h_size h_ranks za3) X hH 5 rfl hin rfl dX3_part_30 (fun H locs hH => ?_)
    refine lv_aload_n (pc := 31) hx hb dX3_part_31 rfl (lv_at hl 0 rfl) ?_
    refine z_get (pc := 32) (v := .ref (hq 5)) X iX3_part_X3 hH 0 rfl rfl 4 rfl (List.mem_of_getElem? (i := 2) rfl) rfl dX3_part_32 ?_
    refine lv_iload_n (pc := 35) hx hb dX3_part_35 rfl (lv_at hl 2 rfl) ?_
    refine lv_iload_n (pc := 36) hx hb dX3_part_36 rfl (lv_at hl 1 rfl) ?_
    obtain ⟨zr5, hzr5, h⟩ := zb h
    refine zcS (pc := 37) (As := [.int x2, .int x1]) (rest := [.ref (hq 5)]) (st1 := [.int zr5, .ref (hq 5)]) (ws' := wH cy hq h_alive h_late h_hbr h_rbh (upd h_waits (zr4).toNatClampNeg (-1)) h_pers h_size h_ranks za3) (wr := [((hq 0), .inr (2, [.ref (hq 1), .ref (hq 2), .ref (hq 3), .ref (hq 4), .ref (hq 5), .ref (hq 6), .int h_size, .int h_ranks, .int za3])), ((hq 1), .inl (cy 2, 16, .inl h_alive)), ((hq 2), .inl (cy 0, 16, .inl h_late)), ((hq 3), .inl (cy 0, 16, .inl h_hbr)), ((hq 4), .inl (cy 0, 16, .inl h_rbh)), ((hq 5), .inl (cy 0, 256, .inl (upd h_waits (zr4).toNatClampNeg (-1)))), ((hq 6), .inl (cy 0, 256, .inl h_pers))]) (n := 2) X (c_X3_pair l G cy fu x2 x1 zr5 hzr5) hH [] [0, 1, 2, 3, 4, 5, 6] [0, 1, 2, 3, 4, 5, 6] rfl rfl rfl rfl gX3_part_X3_pair rfl ⟨rfl, rfl⟩ kX3_pair ⟨Nat.le_of_ble_eq_true rfl, Nat.le_of_ble_eq_true rfl⟩ rfl rfl rfl hl.1 (Nat.le_of_ble_eq_true rfl) ⟨Nat.le_of_ble_eq_true rfl, Nat.le_of_ble_eq_true rfl⟩ dX3_part_37 (fun H locs hH => ?_)
    refine lv_iconst (v := (-1)) (pc := 40) hx hb dX3_part_40 zk_cm1 ?_
    obtain ⟨hin, h⟩ := zg h
    refine z_iast (pc := 41) (ws' := wH cy hq h_alive h_late h_hbr h_rbh (upd (upd h_waits (zr4).toNatClampNeg (-1)) (zr5).toNatClampNeg (-1)) h_pers h_size h_ranks za3) X hH 5 rfl hin rfl dX3_part_41 (fun H locs hH => ?_)
    obtain rfl := Option.some.inj h
    exact z_vret X hr hH dX3_part_42
  have h := zt zc2 h
  obtain rfl := Option.some.inj h
  exact z_vret X hr hH dX3_part_9
set_option maxHeartbeats 4000000 in
set_option maxRecDepth 100000 in
theorem c_X3_isInForm (l : Launch) (G : va_G) (cy : Nat → ClassId) (fu : Nat) (hq : Nat → Nat) (h_alive : Nat → Int32) (h_late : Nat → Int32) (h_hbr : Nat → Int32) (h_rbh : Nat → Int32) (h_waits : Nat → Int32) (h_pers : Nat → Int32) (h_size : Int32) (h_ranks : Int32) (h_lines : Int32) (x1 : Int32) (x2 : Int32) (x3 : Int32) (rr : Int32) (h : f_X3_isInForm fu h_size x1 x2 x3 = some rr) : zM l G cy yX3_isInForm wsX3_isInForm (zR 1 20) [.ref (hq 0), .int x1, .int x2, .int x3] (wH cy hq h_alive h_late h_hbr h_rbh h_waits h_pers h_size h_ranks h_lines) (wH cy hq h_alive h_late h_hbr h_rbh h_waits h_pers h_size h_ranks h_lines) (some (.int rr)) := by
  refine zM.mk (cc := cX3_isInForm) (nL := 4) (ret := (some .boolean)) (by decide) rfl (Nat.le_of_ble_eq_true rfl) ?_
  intro p e s m below meth c A ls X hr hH hl
  replace X : zX p s m [.ref (hq 0), .int x1, .int x2, .int x3].toArray meth c RX3 cX3_isInForm 4 wsX3_isInForm G cy A := X
  have hx := X.1.1
  have hb := X.1.2.1
  replace hl : lv_has ls 4 [(0, .ref (hq 0)), (1, .int x1), (2, .int x2), (3, .int x3)] := hl
  dsimp only [f_X3_isInForm] at h
  refine lv_iload_n (pc := 0) hx hb dX3_isInForm_0 rfl (lv_at hl 1 rfl) ?_
  by_cases zc1 : x1 = 0
  · have h := zt zc1 h
    refine lv_tableIn (pc := 1) (off := 27) (tgt := 28) hx hb dX3_isInForm_1 (by rw [zc1]; decide) (by rw [zc1]; decide) (by rw [zc1]; rfl) rfl ?_
    refine lv_iload_n (pc := 28) hx hb dX3_isInForm_28 rfl (lv_at hl 3 rfl) ?_
    refine lv_iload_n (pc := 29) hx hb dX3_isInForm_29 rfl (lv_at hl 2 rfl) ?_
    refine lv_iconst (v := 1) (pc := 30) hx hb dX3_isInForm_30 zk_c1 ?_
    refine lv_iadd (pc := 31) hx hb dX3_isInForm_31 ?_
    refine lv_icmp_eq (pc := 32) (tgt := 49) hx hb dX3_isInForm_32 rfl (fun zc2 => ?_) (fun zc2 => ?_)
    · have h := zt zc2 h
      refine lv_iconst (v := 1) (pc := 49) hx hb dX3_isInForm_49 zk_c1 ?_
      refine lv_goto (pc := 50) (tgt := 54) hx hb dX3_isInForm_50 rfl ?_
      obtain rfl := Option.some.inj h
      exact z_zret X hr (Or.inr rfl) hH dX3_isInForm_54
    have h := zf zc2 h
    refine lv_iload_n (pc := 35) hx hb dX3_isInForm_35 rfl (lv_at hl 2 rfl) ?_
    refine lv_if_ne (pc := 36) (tgt := 53) hx hb dX3_isInForm_36 rfl (fun zc3 => ?_) (fun zc3 => ?_)
    · have h := zf zc3 h
      refine lv_iconst (v := 0) (pc := 53) hx hb dX3_isInForm_53 zk_c0 ?_
      obtain rfl := Option.some.inj h
      exact z_zret X hr (Or.inl rfl) hH dX3_isInForm_54
    have h := zt zc3 h
    refine lv_iload_n (pc := 39) hx hb dX3_isInForm_39 rfl (lv_at hl 3 rfl) ?_
    refine lv_aload_n (pc := 40) hx hb dX3_isInForm_40 rfl (lv_at hl 0 rfl) ?_
    refine z_get (pc := 41) (v := .int h_size) X iX3_isInForm_X3 hH 0 rfl rfl 6 rfl (List.mem_of_getElem? (i := 1) rfl) rfl dX3_isInForm_41 ?_
    refine lv_iconst (v := 1) (pc := 44) hx hb dX3_isInForm_44 zk_c1 ?_
    refine lv_isub (pc := 45) hx hb dX3_isInForm_45 ?_
    refine lv_icmp_ne (pc := 46) (tgt := 53) hx hb dX3_isInForm_46 rfl (fun zc4 => ?_) (fun zc4 => ?_)
    · have h := zf zc4 h
      refine lv_iconst (v := 0) (pc := 53) hx hb dX3_isInForm_53 zk_c0 ?_
      obtain rfl := Option.some.inj h
      exact z_zret X hr (Or.inl rfl) hH dX3_isInForm_54
    have h := zt zc4 h
    refine lv_iconst (v := 1) (pc := 49) hx hb dX3_isInForm_49 zk_c1 ?_
    refine lv_goto (pc := 50) (tgt := 54) hx hb dX3_isInForm_50 rfl ?_
    obtain rfl := Option.some.inj h
    exact z_zret X hr (Or.inr rfl) hH dX3_isInForm_54
  have h := zf zc1 h
  by_cases zc5 : x1 = 1
  · have h := zt zc5 h
    refine lv_tableIn (pc := 1) (off := 54) (tgt := 55) hx hb dX3_isInForm_1 (by rw [zc5]; decide) (by rw [zc5]; decide) (by rw [zc5]; rfl) rfl ?_
    refine lv_iconst (v := 1) (pc := 55) hx hb dX3_isInForm_55 zk_c1 ?_
    obtain rfl := Option.some.inj h
    exact z_zret X hr (Or.inr rfl) hH dX3_isInForm_56
  have h := zf zc5 h
  by_cases zc6 : x1 = 2
  · have h := zt zc6 h
    refine lv_tableIn (pc := 1) (off := 56) (tgt := 57) hx hb dX3_isInForm_1 (by rw [zc6]; decide) (by rw [zc6]; decide) (by rw [zc6]; rfl) rfl ?_
    refine lv_iload_n (pc := 57) hx hb dX3_isInForm_57 rfl (lv_at hl 3 rfl) ?_
    refine lv_iload_n (pc := 58) hx hb dX3_isInForm_58 rfl (lv_at hl 2 rfl) ?_
    refine lv_iconst (v := 1) (pc := 59) hx hb dX3_isInForm_59 zk_c1 ?_
    refine lv_iadd (pc := 60) hx hb dX3_isInForm_60 ?_
    refine lv_icmp_ne (pc := 61) (tgt := 68) hx hb dX3_isInForm_61 rfl (fun zc7 => ?_) (fun zc7 => ?_)
    · have h := zf zc7 h
      refine lv_iconst (v := 0) (pc := 68) hx hb dX3_isInForm_68 zk_c0 ?_
      obtain rfl := Option.some.inj h
      exact z_zret X hr (Or.inl rfl) hH dX3_isInForm_69
    have h := zt zc7 h
    refine lv_iconst (v := 1) (pc := 64) hx hb dX3_isInForm_64 zk_c1 ?_
    refine lv_goto (pc := 65) (tgt := 69) hx hb dX3_isInForm_65 rfl ?_
    obtain rfl := Option.some.inj h
    exact z_zret X hr (Or.inr rfl) hH dX3_isInForm_69
  have h := zf zc6 h
  refine lv_tableOut (pc := 1) (tgt := 70) hx hb dX3_isInForm_1 (by have n0 := lv_neT zc1 (show (0 : Int32).toInt = 0 by decide); have n1 := lv_neT zc5 (show (1 : Int32).toInt = 1 by decide); have n2 := lv_neT zc6 (show (2 : Int32).toInt = 2 by decide); omega) rfl ?_
  refine lv_iload_n (pc := 70) hx hb dX3_isInForm_70 rfl (lv_at hl 2 rfl) ?_
  refine lv_iload_n (pc := 71) hx hb dX3_isInForm_71 rfl (lv_at hl 3 rfl) ?_
  refine lv_ixor (pc := 72) hx hb dX3_isInForm_72 ?_
  obtain ⟨zr8, hzr8, h⟩ := zb h
  refine zcS (pc := 73) (As := [.int (x2 ^^^ x3)]) (rest := []) (st1 := [.int zr8]) (ws' := wH cy hq h_alive h_late h_hbr h_rbh h_waits h_pers h_size h_ranks h_lines) (wr := [((hq 0), .inr (2, [.ref (hq 1), .ref (hq 2), .ref (hq 3), .ref (hq 4), .ref (hq 5), .ref (hq 6), .int h_size, .int h_ranks, .int h_lines])), ((hq 1), .inl (cy 2, 16, .inl h_alive)), ((hq 2), .inl (cy 0, 16, .inl h_late)), ((hq 3), .inl (cy 0, 16, .inl h_hbr)), ((hq 4), .inl (cy 0, 16, .inl h_rbh)), ((hq 5), .inl (cy 0, 256, .inl h_waits)), ((hq 6), .inl (cy 0, 256, .inl h_pers))]) (n := 1) X (c_J6_bitCount_0f7a4 l G cy fu (x2 ^^^ x3) zr8 hzr8) hH [] [0, 1, 2, 3, 4, 5, 6] [0, 1, 2, 3, 4, 5, 6] rfl rfl rfl rfl gX3_isInForm_J6_bitCount_0f7a4 rfl ⟨rfl, rfl⟩ kJ6_bitCount_0f7a4 ⟨Nat.le_of_ble_eq_true rfl, Nat.le_of_ble_eq_true rfl⟩ rfl rfl rfl hl.1 (Nat.le_of_ble_eq_true rfl) ⟨Nat.le_of_ble_eq_true rfl, Nat.le_of_ble_eq_true rfl⟩ dX3_isInForm_73 (fun H locs hH => ?_)
  refine lv_iconst (v := 1) (pc := 76) hx hb dX3_isInForm_76 zk_c1 ?_
  refine lv_icmp_ne (pc := 77) (tgt := 84) hx hb dX3_isInForm_77 rfl (fun zc9 => ?_) (fun zc9 => ?_)
  · have h := zf zc9 h
    refine lv_iconst (v := 0) (pc := 84) hx hb dX3_isInForm_84 zk_c0 ?_
    obtain rfl := Option.some.inj h
    exact z_zret X hr (Or.inl rfl) hH dX3_isInForm_85
  have h := zt zc9 h
  refine lv_iconst (v := 1) (pc := 80) hx hb dX3_isInForm_80 zk_c1 ?_
  refine lv_goto (pc := 81) (tgt := 85) hx hb dX3_isInForm_81 rfl ?_
  obtain rfl := Option.some.inj h
  exact z_zret X hr (Or.inr rfl) hH dX3_isInForm_85
set_option maxHeartbeats 4000000 in
set_option maxRecDepth 100000 in
theorem w_X3_joinByForm_l18 {p : Program} {l : Launch} {e : Env} {s : State} {m : MethodId} {args : Array Value} {below : List Frame} {meth : Method} {c : Code} {A : Nat → Prop} {Q : State → Prop} (G : va_G) (cy : Nat → ClassId) (fu : Nat) (hq : Nat → Nat) (h_alive : Nat → Int32) (h_late : Nat → Int32) (h_hbr : Nat → Int32) (h_rbh : Nat → Int32) (h_size : Int32) (h_ranks : Int32) (x1 : Int32) (x2 : Int32) (x3 : Int32) (x4 : Int32) (X : zX p s m args meth c RX3 cX3_joinByForm 6 wsX3_joinByForm G cy A) : ∀ (n : Nat) (x5 : Int32) (h_waits : Nat → Int32) (h_pers : Nat → Int32) (h_lines : Int32) (rr : (Nat → Int32) × (Nat → Int32) × Int32) (h : lp (f_X3_joinByForm_l18 fu h_size x1 x2 x3 x4) n (x5, h_waits, h_pers, h_lines) = some rr) (H : Heap) (locs : List Loc) (ls : Array Slot) (hH : zH G A s.heap (wH cy hq h_alive h_late h_hbr h_rbh h_waits h_pers h_size h_ranks h_lines) H locs) (hl : lv_has ls 6 [(0, .ref (hq 0)), (1, .int x1), (2, .int x2), (3, .int x3), (4, .int x4), (5, .int x5)]) (K0 : ∀ (H : Heap) (locs : List Loc) (ls : Array Slot), zH G A s.heap (wH cy hq h_alive h_late h_hbr h_rbh rr.1 rr.2.1 h_size h_ranks rr.2.2) H locs → lv_has ls 6 [(0, .ref (hq 0)), (1, .int x1), (2, .int x2), (3, .int x3), (4, .int x4)] → W p l e (zR 3 67) s m args below meth c H locs 0 0 Q (F0 m 55 ls [])), W p l e (zR 3 67) s m args below meth c H locs 0 0 Q (F0 m 18 ls []) := by
  have hx := X.1.1
  have hb := X.1.2.1
  intro n
  induction n with
  | zero => intro x5 h_waits h_pers h_lines rr h H locs ls hH hl K0; cases h
  | succ n ih =>
    intro x5 h_waits h_pers h_lines rr h H locs ls hH hl K0
    replace h : f_X3_joinByForm_l18 fu h_size x1 x2 x3 x4 (lp (f_X3_joinByForm_l18 fu h_size x1 x2 x3 x4) n) (x5, h_waits, h_pers, h_lines) = some rr := h
    dsimp only [f_X3_joinByForm_l18] at h
    refine lv_iload (pc := 18) hx hb dX3_joinByForm_18 (lv_at hl 5 rfl) ?_
    refine lv_aload_n (pc := 20) hx hb dX3_joinByForm_20 rfl (lv_at hl 0 rfl) ?_
    refine z_get (pc := 21) (v := .int h_size) X iX3_joinByForm_X3 hH 0 rfl rfl 6 rfl (List.mem_of_getElem? (i := 1) rfl) rfl dX3_joinByForm_21 ?_
    refine lv_icmp_ge (pc := 24) (tgt := 55) hx hb dX3_joinByForm_24 rfl (fun zc1 => ?_) (fun zc1 => ?_)
    · have h := zt zc1 h
      obtain rfl := Option.some.inj h
      exact K0 _ _ _ hH (lv_sub hl [0, 1, 2, 3, 4] rfl)
    have h := zf zc1 h
    refine lv_aload_n (pc := 27) hx hb dX3_joinByForm_27 rfl (lv_at hl 0 rfl) ?_
    refine lv_iload_n (pc := 28) hx hb dX3_joinByForm_28 rfl (lv_at hl 1 rfl) ?_
    refine lv_iload (pc := 29) hx hb dX3_joinByForm_29 (lv_at hl 4 rfl) ?_
    refine lv_iload (pc := 31) hx hb dX3_joinByForm_31 (lv_at hl 5 rfl) ?_
    obtain ⟨zr2, hzr2, h⟩ := zb h
    refine zcV (pc := 33) (As := [.int x1, .int x4, .int x5]) (rest := []) (st1 := [.int zr2]) (ws' := wH cy hq h_alive h_late h_hbr h_rbh h_waits h_pers h_size h_ranks h_lines) (wr := []) (n := 3) (q0 := 0) X (c_X3_isInForm l G cy fu hq h_alive h_late h_hbr h_rbh h_waits h_pers h_size h_ranks h_lines x1 x4 x5 zr2 hzr2) hH [0, 1, 2, 3, 4, 5, 6] [] [0, 1, 2, 3, 4, 5, 6] rfl rfl rfl rfl gX3_joinByForm_X3_isInForm rfl ⟨rfl, rfl⟩ kX3_isInForm ⟨Nat.le_of_ble_eq_true rfl, Nat.le_of_ble_eq_true rfl⟩ rfl rfl rfl rfl rfl hl.1 (Nat.le_of_ble_eq_true rfl) ⟨Nat.le_of_ble_eq_true rfl, Nat.le_of_ble_eq_true rfl⟩ dX3_joinByForm_33 (fun H locs hH => ?_)
    refine lv_if_eq (pc := 36) (tgt := 49) hx hb dX3_joinByForm_36 rfl (fun zc3 => ?_) (fun zc3 => ?_)
    · have h := zt zc3 h
      refine lv_iinc (pc := 49) (v := (x5 + 1)) (lv' := [(5, .int (x5 + 1)), (0, .ref (hq 0)), (1, .int x1), (2, .int x2), (3, .int x3), (4, .int x4)]) hx hb dX3_joinByForm_49 hl (k := 5) rfl (by rw [zk_c1]) (by decide) rfl (fun ls hl => ?_)
      refine lv_goto (pc := 52) (tgt := 18) hx hb dX3_joinByForm_52 rfl ?_
      exact ih (x5 + 1) h_waits h_pers h_lines rr h _ _ _ hH (lv_sub hl [1, 2, 3, 4, 5, 0] rfl) K0
    have h := zf zc3 h
    refine lv_aload_n (pc := 39) hx hb dX3_joinByForm_39 rfl (lv_at hl 0 rfl) ?_
    refine lv_iload (pc := 40) hx hb dX3_joinByForm_40 (lv_at hl 4 rfl) ?_
    refine lv_iload (pc := 42) hx hb dX3_joinByForm_42 (lv_at hl 5 rfl) ?_
    refine lv_iload_n (pc := 44) hx hb dX3_joinByForm_44 rfl (lv_at hl 2 rfl) ?_
    refine lv_iload_n (pc := 45) hx hb dX3_joinByForm_45 rfl (lv_at hl 3 rfl) ?_
    obtain ⟨zr4, hzr4, h⟩ := zb h
    refine zcV (pc := 46) (As := [.int x4, .int x5, .int x2, .int x3]) (rest := []) (st1 := []) (ws' := wH cy hq h_alive h_late h_hbr h_rbh zr4.1 zr4.2.1 h_size h_ranks zr4.2.2) (wr := []) (n := 4) (q0 := 0) X (c_X3_join l G cy fu hq h_alive h_late h_hbr h_rbh h_waits h_pers h_size h_ranks h_lines x4 x5 x2 x3 zr4 hzr4) hH [0, 1, 2, 3, 4, 5, 6] [] [0, 1, 2, 3, 4, 5, 6] rfl rfl rfl rfl gX3_joinByForm_X3_join rfl ⟨rfl, rfl⟩ kX3_join ⟨Nat.le_of_ble_eq_true rfl, Nat.le_of_ble_eq_true rfl⟩ rfl rfl rfl rfl rfl hl.1 (Nat.le_of_ble_eq_true rfl) ⟨Nat.le_of_ble_eq_true rfl, Nat.le_of_ble_eq_true rfl⟩ dX3_joinByForm_46 (fun H locs hH => ?_)
    refine lv_iinc (pc := 49) (v := (x5 + 1)) (lv' := [(5, .int (x5 + 1)), (0, .ref (hq 0)), (1, .int x1), (2, .int x2), (3, .int x3), (4, .int x4)]) hx hb dX3_joinByForm_49 hl (k := 5) rfl (by rw [zk_c1]) (by decide) rfl (fun ls hl => ?_)
    refine lv_goto (pc := 52) (tgt := 18) hx hb dX3_joinByForm_52 rfl ?_
    exact ih (x5 + 1) zr4.1 zr4.2.1 zr4.2.2 rr h _ _ _ hH (lv_sub hl [1, 2, 3, 4, 5, 0] rfl) K0
set_option maxHeartbeats 4000000 in
set_option maxRecDepth 100000 in
theorem w_X3_joinByForm_l3 {p : Program} {l : Launch} {e : Env} {s : State} {m : MethodId} {args : Array Value} {below : List Frame} {meth : Method} {c : Code} {A : Nat → Prop} {Q : State → Prop} (G : va_G) (cy : Nat → ClassId) (fu : Nat) (hq : Nat → Nat) (h_alive : Nat → Int32) (h_late : Nat → Int32) (h_hbr : Nat → Int32) (h_rbh : Nat → Int32) (h_size : Int32) (h_ranks : Int32) (x1 : Int32) (x2 : Int32) (x3 : Int32) (X : zX p s m args meth c RX3 cX3_joinByForm 6 wsX3_joinByForm G cy A) : ∀ (n : Nat) (x4 : Int32) (h_waits : Nat → Int32) (h_pers : Nat → Int32) (h_lines : Int32) (rr : (Nat → Int32) × (Nat → Int32) × Int32) (h : lp (f_X3_joinByForm_l3 fu h_size x1 x2 x3) n (x4, h_waits, h_pers, h_lines) = some rr) (H : Heap) (locs : List Loc) (ls : Array Slot) (hH : zH G A s.heap (wH cy hq h_alive h_late h_hbr h_rbh h_waits h_pers h_size h_ranks h_lines) H locs) (hl : lv_has ls 6 [(0, .ref (hq 0)), (1, .int x1), (2, .int x2), (3, .int x3), (4, .int x4)]) (K0 : ∀ (H : Heap) (locs : List Loc) (ls : Array Slot), zH G A s.heap (wH cy hq h_alive h_late h_hbr h_rbh rr.1 rr.2.1 h_size h_ranks rr.2.2) H locs → lv_has ls 6 [] → W p l e (zR 3 67) s m args below meth c H locs 0 0 Q (F0 m 61 ls [])), W p l e (zR 3 67) s m args below meth c H locs 0 0 Q (F0 m 3 ls []) := by
  have hx := X.1.1
  have hb := X.1.2.1
  intro n
  induction n with
  | zero => intro x4 h_waits h_pers h_lines rr h H locs ls hH hl K0; cases h
  | succ n ih =>
    intro x4 h_waits h_pers h_lines rr h H locs ls hH hl K0
    replace h : f_X3_joinByForm_l3 fu h_size x1 x2 x3 (lp (f_X3_joinByForm_l3 fu h_size x1 x2 x3) n) (x4, h_waits, h_pers, h_lines) = some rr := h
    dsimp only [f_X3_joinByForm_l3] at h
    refine lv_iload (pc := 3) hx hb dX3_joinByForm_3 (lv_at hl 4 rfl) ?_
    refine lv_aload_n (pc := 5) hx hb dX3_joinByForm_5 rfl (lv_at hl 0 rfl) ?_
    refine z_get (pc := 6) (v := .int h_size) X iX3_joinByForm_X3 hH 0 rfl rfl 6 rfl (List.mem_of_getElem? (i := 1) rfl) rfl dX3_joinByForm_6 ?_
    refine lv_icmp_ge (pc := 9) (tgt := 61) hx hb dX3_joinByForm_9 rfl (fun zc1 => ?_) (fun zc1 => ?_)
    · have h := zt zc1 h
      obtain rfl := Option.some.inj h
      exact K0 _ _ _ hH (lv_sub hl [] rfl)
    have h := zf zc1 h
    refine lv_iload (pc := 12) hx hb dX3_joinByForm_12 (lv_at hl 4 rfl) ?_
    refine lv_iconst (v := 1) (pc := 14) hx hb dX3_joinByForm_14 zk_c1 ?_
    refine lv_iadd (pc := 15) hx hb dX3_joinByForm_15 ?_
    refine lv_topi (fun za2 eza2 => ?_)
    have h := vn_s h za2 eza2
    refine lv_istore (pc := 16) (lv' := [(5, .int za2), (0, .ref (hq 0)), (1, .int x1), (2, .int x2), (3, .int x3), (4, .int x4)]) hx hb dX3_joinByForm_16 hl (by decide) rfl (fun ls hl => ?_)
    obtain ⟨zr3, hzr3, h⟩ := zb h
    refine w_X3_joinByForm_l18 G cy fu hq h_alive h_late h_hbr h_rbh h_size h_ranks x1 x2 x3 x4 X fu za2 h_waits h_pers h_lines zr3 hzr3 _ _ _ hH (lv_sub hl [1, 2, 3, 4, 5, 0] rfl) (fun H locs ls hH hl => ?_)
    refine lv_iinc (pc := 55) (v := (x4 + 1)) (lv' := [(4, .int (x4 + 1)), (0, .ref (hq 0)), (1, .int x1), (2, .int x2), (3, .int x3)]) hx hb dX3_joinByForm_55 hl (k := 4) rfl (by rw [zk_c1]) (by decide) rfl (fun ls hl => ?_)
    refine lv_goto (pc := 58) (tgt := 3) hx hb dX3_joinByForm_58 rfl ?_
    exact ih (x4 + 1) zr3.1 zr3.2.1 zr3.2.2 rr h _ _ _ hH (lv_sub hl [1, 2, 3, 4, 0] rfl) K0
set_option maxHeartbeats 4000000 in
set_option maxRecDepth 100000 in
theorem c_X3_joinByForm (l : Launch) (G : va_G) (cy : Nat → ClassId) (fu : Nat) (hq : Nat → Nat) (h_alive : Nat → Int32) (h_late : Nat → Int32) (h_hbr : Nat → Int32) (h_rbh : Nat → Int32) (h_waits : Nat → Int32) (h_pers : Nat → Int32) (h_size : Int32) (h_ranks : Int32) (h_lines : Int32) (x1 : Int32) (x2 : Int32) (x3 : Int32) (rr : (Nat → Int32) × (Nat → Int32) × Int32) (h : f_X3_joinByForm fu h_waits h_pers h_size h_lines x1 x2 x3 = some rr) : zM l G cy yX3_joinByForm wsX3_joinByForm (zR 3 67) [.ref (hq 0), .int x1, .int x2, .int x3] (wH cy hq h_alive h_late h_hbr h_rbh h_waits h_pers h_size h_ranks h_lines) (wH cy hq h_alive h_late h_hbr h_rbh rr.1 rr.2.1 h_size h_ranks rr.2.2) none := by
  refine zM.mk (cc := cX3_joinByForm) (nL := 6) (ret := none) (by decide) rfl (Nat.le_of_ble_eq_true rfl) ?_
  intro p e s m below meth c A ls X hr hH hl
  replace X : zX p s m [.ref (hq 0), .int x1, .int x2, .int x3].toArray meth c RX3 cX3_joinByForm 6 wsX3_joinByForm G cy A := X
  have hx := X.1.1
  have hb := X.1.2.1
  replace hl : lv_has ls 6 [(0, .ref (hq 0)), (1, .int x1), (2, .int x2), (3, .int x3)] := hl
  dsimp only [f_X3_joinByForm] at h
  refine lv_iconst (v := 0) (pc := 0) hx hb dX3_joinByForm_0 zk_c0 ?_
  refine lv_istore (pc := 1) (lv' := [(4, .int 0), (0, .ref (hq 0)), (1, .int x1), (2, .int x2), (3, .int x3)]) hx hb dX3_joinByForm_1 hl (by decide) rfl (fun ls hl => ?_)
  obtain ⟨zr1, hzr1, h⟩ := zb h
  refine w_X3_joinByForm_l3 G cy fu hq h_alive h_late h_hbr h_rbh h_size h_ranks x1 x2 x3 X fu 0 h_waits h_pers h_lines zr1 hzr1 _ _ _ hH (lv_sub hl [1, 2, 3, 4, 0] rfl) (fun H locs ls hH hl => ?_)
  obtain rfl := Option.some.inj h
  exact z_vret X hr hH dX3_joinByForm_61
set_option maxHeartbeats 4000000 in
set_option maxRecDepth 100000 in
theorem c_X4_empty (l : Launch) (G : va_G) (cy : Nat → ClassId) (fu : Nat) (pq : Nat → Nat) (p_packed : Nat → Int32) (p_size : Int32)  (rr : Int32) (h : f_X4_empty fu = some rr) : zM l G cy yX4_empty wsX4_empty (zR 0 0) [.ref (pq 0)] (wP cy pq p_packed p_size) (wP cy pq p_packed rr) none := by
  refine zM.mk (cc := cX4_empty) (nL := 1) (ret := none) (by decide) rfl (Nat.le_of_ble_eq_true rfl) ?_
  intro p e s m below meth c A ls X hr hH hl
  replace X : zX p s m [.ref (pq 0)].toArray meth c RX4 cX4_empty 1 wsX4_empty G cy A := X
  have hx := X.1.1
  have hb := X.1.2.1
  replace hl : lv_has ls 1 [(0, .ref (pq 0))] := hl
  dsimp only [f_X4_empty] at h
  refine lv_aload_n (pc := 0) hx hb dX4_empty_0 rfl (lv_at hl 0 rfl) ?_
  refine lv_iconst (v := 0) (pc := 1) hx hb dX4_empty_1 zk_c0 ?_
  refine z_put (pc := 2) (v := .int 0) (ws' := wP cy pq p_packed 0) X iX4_empty_X4 tyX4 tyX4_ok nmX4 hH 0 rfl rfl 1 rfl (List.mem_of_getElem? (i := 1) rfl) rfl rfl rfl rfl rfl dX4_empty_2 (fun H locs hH => ?_)
  obtain rfl := Option.some.inj h
  exact z_vret X hr hH dX4_empty_5
set_option maxHeartbeats 4000000 in
set_option maxRecDepth 100000 in
theorem c_X4_size (l : Launch) (G : va_G) (cy : Nat → ClassId) (fu : Nat) (pq : Nat → Nat) (p_packed : Nat → Int32) (p_size : Int32)  (rr : Int32) (h : f_X4_size fu p_size = some rr) : zM l G cy yX4_size wsX4_size (zR 0 0) [.ref (pq 0)] (wP cy pq p_packed p_size) (wP cy pq p_packed p_size) (some (.int rr)) := by
  refine zM.mk (cc := cX4_size) (nL := 1) (ret := (some .int)) (by decide) rfl (Nat.le_of_ble_eq_true rfl) ?_
  intro p e s m below meth c A ls X hr hH hl
  replace X : zX p s m [.ref (pq 0)].toArray meth c RX4 cX4_size 1 wsX4_size G cy A := X
  have hx := X.1.1
  have hb := X.1.2.1
  replace hl : lv_has ls 1 [(0, .ref (pq 0))] := hl
  dsimp only [f_X4_size] at h
  refine lv_aload_n (pc := 0) hx hb dX4_size_0 rfl (lv_at hl 0 rfl) ?_
  refine z_get (pc := 1) (v := .int p_size) X iX4_size_X4 hH 0 rfl rfl 1 rfl (List.mem_of_getElem? (i := 1) rfl) rfl dX4_size_1 ?_
  obtain rfl := Option.some.inj h
  exact z_iret X hr hH dX4_size_4
set_option maxHeartbeats 4000000 in
set_option maxRecDepth 100000 in
theorem c_X4_isFull (l : Launch) (G : va_G) (cy : Nat → ClassId) (fu : Nat) (pq : Nat → Nat) (p_packed : Nat → Int32) (p_size : Int32)  (rr : Int32) (h : f_X4_isFull fu p_size = some rr) : zM l G cy yX4_isFull wsX4_isFull (zR 0 0) [.ref (pq 0)] (wP cy pq p_packed p_size) (wP cy pq p_packed p_size) (some (.int rr)) := by
  refine zM.mk (cc := cX4_isFull) (nL := 1) (ret := (some .boolean)) (by decide) rfl (Nat.le_of_ble_eq_true rfl) ?_
  intro p e s m below meth c A ls X hr hH hl
  replace X : zX p s m [.ref (pq 0)].toArray meth c RX4 cX4_isFull 1 wsX4_isFull G cy A := X
  have hx := X.1.1
  have hb := X.1.2.1
  replace hl : lv_has ls 1 [(0, .ref (pq 0))] := hl
  dsimp only [f_X4_isFull] at h
  refine lv_aload_n (pc := 0) hx hb dX4_isFull_0 rfl (lv_at hl 0 rfl) ?_
  refine z_get (pc := 1) (v := .int p_size) X iX4_isFull_X4 hH 0 rfl rfl 1 rfl (List.mem_of_getElem? (i := 1) rfl) rfl dX4_isFull_1 ?_
  refine lv_sipush (v := 1200) (pc := 4) hx hb dX4_isFull_4 zk_s1200 ?_
  refine lv_icmp_lt (pc := 7) (tgt := 14) hx hb dX4_isFull_7 rfl (fun zc1 => ?_) (fun zc1 => ?_)
  · have h := zt zc1 h
    refine lv_iconst (v := 0) (pc := 14) hx hb dX4_isFull_14 zk_c0 ?_
    obtain rfl := Option.some.inj h
    exact z_zret X hr (Or.inl rfl) hH dX4_isFull_15
  have h := zf zc1 h
  refine lv_iconst (v := 1) (pc := 10) hx hb dX4_isFull_10 zk_c1 ?_
  refine lv_goto (pc := 11) (tgt := 15) hx hb dX4_isFull_11 rfl ?_
  obtain rfl := Option.some.inj h
  exact z_zret X hr (Or.inr rfl) hH dX4_isFull_15
set_option maxHeartbeats 4000000 in
set_option maxRecDepth 100000 in
theorem c_X4_steps (l : Launch) (G : va_G) (cy : Nat → ClassId) (fu : Nat) (pq : Nat → Nat) (p_packed : Nat → Int32) (p_size : Int32)  (rr : Int32) (h : f_X4_steps fu p_packed p_size = some rr) : zM l G cy yX4_steps wsX4_steps (zR 0 0) [.ref (pq 0)] (wP cy pq p_packed p_size) (wP cy pq p_packed p_size) (some (.int rr)) := by
  refine zM.mk (cc := cX4_steps) (nL := 1) (ret := (some .int)) (by decide) rfl (Nat.le_of_ble_eq_true rfl) ?_
  intro p e s m below meth c A ls X hr hH hl
  replace X : zX p s m [.ref (pq 0)].toArray meth c RX4 cX4_steps 1 wsX4_steps G cy A := X
  have hx := X.1.1
  have hb := X.1.2.1
  replace hl : lv_has ls 1 [(0, .ref (pq 0))] := hl
  dsimp only [f_X4_steps] at h
  refine lv_aload_n (pc := 0) hx hb dX4_steps_0 rfl (lv_at hl 0 rfl) ?_
  refine z_get (pc := 1) (v := .int p_size) X iX4_steps_X4 hH 0 rfl rfl 1 rfl (List.mem_of_getElem? (i := 1) rfl) rfl dX4_steps_1 ?_
  refine lv_if_gt (pc := 4) (tgt := 11) hx hb dX4_steps_4 rfl (fun zc1 => ?_) (fun zc1 => ?_)
  · have h := zt zc1 h
    refine lv_aload_n (pc := 11) hx hb dX4_steps_11 rfl (lv_at hl 0 rfl) ?_
    refine z_get (pc := 12) (v := .ref (pq 1)) X iX4_steps_X4 hH 0 rfl rfl 0 rfl (List.mem_of_getElem? (i := 2) rfl) rfl dX4_steps_12 ?_
    refine lv_aload_n (pc := 15) hx hb dX4_steps_15 rfl (lv_at hl 0 rfl) ?_
    refine z_get (pc := 16) (v := .int p_size) X iX4_steps_X4 hH 0 rfl rfl 1 rfl (List.mem_of_getElem? (i := 1) rfl) rfl dX4_steps_16 ?_
    refine lv_iconst (v := 1) (pc := 19) hx hb dX4_steps_19 zk_c1 ?_
    refine lv_isub (pc := 20) hx hb dX4_steps_20 ?_
    obtain ⟨hin, h⟩ := zg h
    refine z_iald (pc := 21) X hH 1 rfl hin dX4_steps_21 ?_
    refine lv_bipush (v := 17) (pc := 22) hx hb dX4_steps_22 zk_b17 ?_
    refine lv_ishr (pc := 24) hx hb dX4_steps_24 ?_
    refine lv_iconst (v := 1) (pc := 25) hx hb dX4_steps_25 zk_c1 ?_
    refine lv_iadd (pc := 26) hx hb dX4_steps_26 ?_
    obtain rfl := Option.some.inj h
    exact z_iret X hr hH dX4_steps_27
  have h := zf zc1 h
  refine lv_iconst (v := 0) (pc := 7) hx hb dX4_steps_7 zk_c0 ?_
  refine lv_goto (pc := 8) (tgt := 27) hx hb dX4_steps_8 rfl ?_
  obtain rfl := Option.some.inj h
  exact z_iret X hr hH dX4_steps_27
set_option maxHeartbeats 4000000 in
set_option maxRecDepth 100000 in
theorem c_X4_sendAt (l : Launch) (G : va_G) (cy : Nat → ClassId) (fu : Nat) (pq : Nat → Nat) (p_packed : Nat → Int32) (p_size : Int32) (x1 : Int32) (rr : Int32) (h : f_X4_sendAt fu p_packed p_size x1 = some rr) : zM l G cy yX4_sendAt wsX4_sendAt (zR 0 0) [.ref (pq 0), .int x1] (wP cy pq p_packed p_size) (wP cy pq p_packed p_size) (some (.int rr)) := by
  refine zM.mk (cc := cX4_sendAt) (nL := 2) (ret := (some .int)) (by decide) rfl (Nat.le_of_ble_eq_true rfl) ?_
  intro p e s m below meth c A ls X hr hH hl
  replace X : zX p s m [.ref (pq 0), .int x1].toArray meth c RX4 cX4_sendAt 2 wsX4_sendAt G cy A := X
  have hx := X.1.1
  have hb := X.1.2.1
  replace hl : lv_has ls 2 [(0, .ref (pq 0)), (1, .int x1)] := hl
  dsimp only [f_X4_sendAt] at h
  refine lv_iload_n (pc := 0) hx hb dX4_sendAt_0 rfl (lv_at hl 1 rfl) ?_
  refine lv_if_lt (pc := 1) (tgt := 21) hx hb dX4_sendAt_1 rfl (fun zc1 => ?_) (fun zc1 => ?_)
  · have h := zt zc1 h
    refine lv_iconst (v := 0) (pc := 21) hx hb dX4_sendAt_21 zk_c0 ?_
    obtain rfl := Option.some.inj h
    exact z_iret X hr hH dX4_sendAt_22
  have h := zf zc1 h
  refine lv_iload_n (pc := 4) hx hb dX4_sendAt_4 rfl (lv_at hl 1 rfl) ?_
  refine lv_aload_n (pc := 5) hx hb dX4_sendAt_5 rfl (lv_at hl 0 rfl) ?_
  refine z_get (pc := 6) (v := .int p_size) X iX4_sendAt_X4 hH 0 rfl rfl 1 rfl (List.mem_of_getElem? (i := 1) rfl) rfl dX4_sendAt_6 ?_
  refine lv_icmp_ge (pc := 9) (tgt := 21) hx hb dX4_sendAt_9 rfl (fun zc2 => ?_) (fun zc2 => ?_)
  · have h := zt zc2 h
    refine lv_iconst (v := 0) (pc := 21) hx hb dX4_sendAt_21 zk_c0 ?_
    obtain rfl := Option.some.inj h
    exact z_iret X hr hH dX4_sendAt_22
  have h := zf zc2 h
  refine lv_aload_n (pc := 12) hx hb dX4_sendAt_12 rfl (lv_at hl 0 rfl) ?_
  refine z_get (pc := 13) (v := .ref (pq 1)) X iX4_sendAt_X4 hH 0 rfl rfl 0 rfl (List.mem_of_getElem? (i := 2) rfl) rfl dX4_sendAt_13 ?_
  refine lv_iload_n (pc := 16) hx hb dX4_sendAt_16 rfl (lv_at hl 1 rfl) ?_
  obtain ⟨hin, h⟩ := zg h
  refine z_iald (pc := 17) X hH 1 rfl hin dX4_sendAt_17 ?_
  refine lv_goto (pc := 18) (tgt := 22) hx hb dX4_sendAt_18 rfl ?_
  obtain rfl := Option.some.inj h
  exact z_iret X hr hH dX4_sendAt_22
set_option maxHeartbeats 4000000 in
set_option maxRecDepth 100000 in
theorem c_X4_endsLetter (l : Launch) (G : va_G) (cy : Nat → ClassId) (fu : Nat) (pq : Nat → Nat) (p_packed : Nat → Int32) (p_size : Int32) (x1 : Int32) (rr : Int32) (h : f_X4_endsLetter fu p_packed p_size x1 = some rr) : zM l G cy yX4_endsLetter wsX4_endsLetter (zR 1 21) [.ref (pq 0), .int x1] (wP cy pq p_packed p_size) (wP cy pq p_packed p_size) (some (.int rr)) := by
  refine zM.mk (cc := cX4_endsLetter) (nL := 2) (ret := (some .boolean)) (by decide) rfl (Nat.le_of_ble_eq_true rfl) ?_
  intro p e s m below meth c A ls X hr hH hl
  replace X : zX p s m [.ref (pq 0), .int x1].toArray meth c RX4 cX4_endsLetter 2 wsX4_endsLetter G cy A := X
  have hx := X.1.1
  have hb := X.1.2.1
  replace hl : lv_has ls 2 [(0, .ref (pq 0)), (1, .int x1)] := hl
  dsimp only [f_X4_endsLetter] at h
  refine lv_iload_n (pc := 0) hx hb dX4_endsLetter_0 rfl (lv_at hl 1 rfl) ?_
  refine lv_iconst (v := 1) (pc := 1) hx hb dX4_endsLetter_1 zk_c1 ?_
  refine lv_iadd (pc := 2) hx hb dX4_endsLetter_2 ?_
  refine lv_aload_n (pc := 3) hx hb dX4_endsLetter_3 rfl (lv_at hl 0 rfl) ?_
  refine z_get (pc := 4) (v := .int p_size) X iX4_endsLetter_X4 hH 0 rfl rfl 1 rfl (List.mem_of_getElem? (i := 1) rfl) rfl dX4_endsLetter_4 ?_
  refine lv_icmp_ge (pc := 7) (tgt := 31) hx hb dX4_endsLetter_7 rfl (fun zc1 => ?_) (fun zc1 => ?_)
  · have h := zt zc1 h
    refine lv_iconst (v := 1) (pc := 31) hx hb dX4_endsLetter_31 zk_c1 ?_
    refine lv_goto (pc := 32) (tgt := 36) hx hb dX4_endsLetter_32 rfl ?_
    obtain rfl := Option.some.inj h
    exact z_zret X hr (Or.inr rfl) hH dX4_endsLetter_36
  have h := zf zc1 h
  refine lv_aload_n (pc := 10) hx hb dX4_endsLetter_10 rfl (lv_at hl 0 rfl) ?_
  refine lv_iload_n (pc := 11) hx hb dX4_endsLetter_11 rfl (lv_at hl 1 rfl) ?_
  obtain ⟨zr2, hzr2, h⟩ := zb h
  refine zcV (pc := 12) (As := [.int x1]) (rest := []) (st1 := [.int zr2]) (ws' := wP cy pq p_packed p_size) (wr := []) (n := 1) (q0 := 0) X (c_X4_sendAt l G cy fu pq p_packed p_size x1 zr2 hzr2) hH [0, 1] [] [0, 1] rfl rfl rfl rfl gX4_endsLetter_X4_sendAt rfl ⟨rfl, rfl⟩ kX4_sendAt ⟨Nat.le_of_ble_eq_true rfl, Nat.le_of_ble_eq_true rfl⟩ rfl rfl rfl rfl rfl hl.1 (Nat.le_of_ble_eq_true rfl) ⟨Nat.le_of_ble_eq_true rfl, Nat.le_of_ble_eq_true rfl⟩ dX4_endsLetter_12 (fun H locs hH => ?_)
  refine lv_bipush (v := 13) (pc := 15) hx hb dX4_endsLetter_15 zk_b13 ?_
  refine lv_ishr (pc := 17) hx hb dX4_endsLetter_17 ?_
  refine lv_aload_n (pc := 18) hx hb dX4_endsLetter_18 rfl (lv_at hl 0 rfl) ?_
  refine lv_iload_n (pc := 19) hx hb dX4_endsLetter_19 rfl (lv_at hl 1 rfl) ?_
  refine lv_iconst (v := 1) (pc := 20) hx hb dX4_endsLetter_20 zk_c1 ?_
  refine lv_iadd (pc := 21) hx hb dX4_endsLetter_21 ?_
  obtain ⟨zr3, hzr3, h⟩ := zb h
  refine zcV (pc := 22) (As := [.int (x1 + 1)]) (rest := [.int (zr2 >>> (13 &&& 31))]) (st1 := [.int zr3, .int (zr2 >>> (13 &&& 31))]) (ws' := wP cy pq p_packed p_size) (wr := []) (n := 1) (q0 := 0) X (c_X4_sendAt l G cy fu pq p_packed p_size (x1 + 1) zr3 hzr3) hH [0, 1] [] [0, 1] rfl rfl rfl rfl gX4_endsLetter_X4_sendAt rfl ⟨rfl, rfl⟩ kX4_sendAt ⟨Nat.le_of_ble_eq_true rfl, Nat.le_of_ble_eq_true rfl⟩ rfl rfl rfl rfl rfl hl.1 (Nat.le_of_ble_eq_true rfl) ⟨Nat.le_of_ble_eq_true rfl, Nat.le_of_ble_eq_true rfl⟩ dX4_endsLetter_22 (fun H locs hH => ?_)
  refine lv_bipush (v := 13) (pc := 25) hx hb dX4_endsLetter_25 zk_b13 ?_
  refine lv_ishr (pc := 27) hx hb dX4_endsLetter_27 ?_
  refine lv_icmp_eq (pc := 28) (tgt := 35) hx hb dX4_endsLetter_28 rfl (fun zc4 => ?_) (fun zc4 => ?_)
  · have h := zt zc4 h
    refine lv_iconst (v := 0) (pc := 35) hx hb dX4_endsLetter_35 zk_c0 ?_
    obtain rfl := Option.some.inj h
    exact z_zret X hr (Or.inl rfl) hH dX4_endsLetter_36
  have h := zf zc4 h
  refine lv_iconst (v := 1) (pc := 31) hx hb dX4_endsLetter_31 zk_c1 ?_
  refine lv_goto (pc := 32) (tgt := 36) hx hb dX4_endsLetter_32 rfl ?_
  obtain rfl := Option.some.inj h
  exact z_zret X hr (Or.inr rfl) hH dX4_endsLetter_36
set_option maxHeartbeats 4000000 in
set_option maxRecDepth 100000 in
theorem w_X4_letters_l4 {p : Program} {l : Launch} {e : Env} {s : State} {m : MethodId} {args : Array Value} {below : List Frame} {meth : Method} {c : Code} {A : Nat → Prop} {Q : State → Prop} (G : va_G) (cy : Nat → ClassId) (fu : Nat) (pq : Nat → Nat) (p_packed : Nat → Int32) (p_size : Int32) (X : zX p s m args meth c RX4 cX4_letters 3 wsX4_letters G cy A) : ∀ (n : Nat) (x1 : Int32) (x2 : Int32) (rr : Int32) (h : lp (f_X4_letters_l4 fu p_packed p_size) n (x1, x2) = some rr) (H : Heap) (locs : List Loc) (ls : Array Slot) (hH : zH G A s.heap (wP cy pq p_packed p_size) H locs) (hl : lv_has ls 3 [(0, .ref (pq 0)), (1, .int x1), (2, .int x2)]) (K0 : ∀ (H : Heap) (locs : List Loc) (ls : Array Slot), zH G A s.heap (wP cy pq p_packed p_size) H locs → lv_has ls 3 [(1, .int rr)] → W p l e (zR 2 42) s m args below meth c H locs 0 0 Q (F0 m 29 ls [])), W p l e (zR 2 42) s m args below meth c H locs 0 0 Q (F0 m 4 ls []) := by
  have hx := X.1.1
  have hb := X.1.2.1
  intro n
  induction n with
  | zero => intro x1 x2 rr h H locs ls hH hl K0; cases h
  | succ n ih =>
    intro x1 x2 rr h H locs ls hH hl K0
    replace h : f_X4_letters_l4 fu p_packed p_size (lp (f_X4_letters_l4 fu p_packed p_size) n) (x1, x2) = some rr := h
    dsimp only [f_X4_letters_l4] at h
    refine lv_iload_n (pc := 4) hx hb dX4_letters_4 rfl (lv_at hl 2 rfl) ?_
    refine lv_aload_n (pc := 5) hx hb dX4_letters_5 rfl (lv_at hl 0 rfl) ?_
    refine z_get (pc := 6) (v := .int p_size) X iX4_letters_X4 hH 0 rfl rfl 1 rfl (List.mem_of_getElem? (i := 1) rfl) rfl dX4_letters_6 ?_
    refine lv_icmp_ge (pc := 9) (tgt := 29) hx hb dX4_letters_9 rfl (fun zc1 => ?_) (fun zc1 => ?_)
    · have h := zt zc1 h
      obtain rfl := Option.some.inj h
      exact K0 _ _ _ hH (lv_sub hl [1] rfl)
    have h := zf zc1 h
    refine lv_aload_n (pc := 12) hx hb dX4_letters_12 rfl (lv_at hl 0 rfl) ?_
    refine lv_iload_n (pc := 13) hx hb dX4_letters_13 rfl (lv_at hl 2 rfl) ?_
    obtain ⟨zr2, hzr2, h⟩ := zb h
    refine zcV (pc := 14) (As := [.int x2]) (rest := []) (st1 := [.int zr2]) (ws' := wP cy pq p_packed p_size) (wr := []) (n := 1) (q0 := 0) X (c_X4_endsLetter l G cy fu pq p_packed p_size x2 zr2 hzr2) hH [0, 1] [] [0, 1] rfl rfl rfl rfl gX4_letters_X4_endsLetter rfl ⟨rfl, rfl⟩ kX4_endsLetter ⟨Nat.le_of_ble_eq_true rfl, Nat.le_of_ble_eq_true rfl⟩ rfl rfl rfl rfl rfl hl.1 (Nat.le_of_ble_eq_true rfl) ⟨Nat.le_of_ble_eq_true rfl, Nat.le_of_ble_eq_true rfl⟩ dX4_letters_14 (fun H locs hH => ?_)
    refine lv_if_eq (pc := 17) (tgt := 23) hx hb dX4_letters_17 rfl (fun zc3 => ?_) (fun zc3 => ?_)
    · have h := zt zc3 h
      refine lv_iinc (pc := 23) (v := (x2 + 1)) (lv' := [(2, .int (x2 + 1)), (0, .ref (pq 0)), (1, .int x1)]) hx hb dX4_letters_23 hl (k := 2) rfl (by rw [zk_c1]) (by decide) rfl (fun ls hl => ?_)
      refine lv_goto (pc := 26) (tgt := 4) hx hb dX4_letters_26 rfl ?_
      exact ih x1 (x2 + 1) rr h _ _ _ hH (lv_sub hl [1, 2, 0] rfl) K0
    have h := zf zc3 h
    refine lv_iinc (pc := 20) (v := (x1 + 1)) (lv' := [(1, .int (x1 + 1)), (0, .ref (pq 0)), (2, .int x2)]) hx hb dX4_letters_20 hl (k := 1) rfl (by rw [zk_c1]) (by decide) rfl (fun ls hl => ?_)
    refine lv_iinc (pc := 23) (v := (x2 + 1)) (lv' := [(2, .int (x2 + 1)), (1, .int (x1 + 1)), (0, .ref (pq 0))]) hx hb dX4_letters_23 hl (k := 2) rfl (by rw [zk_c1]) (by decide) rfl (fun ls hl => ?_)
    refine lv_goto (pc := 26) (tgt := 4) hx hb dX4_letters_26 rfl ?_
    exact ih (x1 + 1) (x2 + 1) rr h _ _ _ hH (lv_sub hl [2, 1, 0] rfl) K0
set_option maxHeartbeats 4000000 in
set_option maxRecDepth 100000 in
theorem c_X4_letters (l : Launch) (G : va_G) (cy : Nat → ClassId) (fu : Nat) (pq : Nat → Nat) (p_packed : Nat → Int32) (p_size : Int32)  (rr : Int32) (h : f_X4_letters fu p_packed p_size = some rr) : zM l G cy yX4_letters wsX4_letters (zR 2 42) [.ref (pq 0)] (wP cy pq p_packed p_size) (wP cy pq p_packed p_size) (some (.int rr)) := by
  refine zM.mk (cc := cX4_letters) (nL := 3) (ret := (some .int)) (by decide) rfl (Nat.le_of_ble_eq_true rfl) ?_
  intro p e s m below meth c A ls X hr hH hl
  replace X : zX p s m [.ref (pq 0)].toArray meth c RX4 cX4_letters 3 wsX4_letters G cy A := X
  have hx := X.1.1
  have hb := X.1.2.1
  replace hl : lv_has ls 3 [(0, .ref (pq 0))] := hl
  dsimp only [f_X4_letters] at h
  refine lv_iconst (v := 0) (pc := 0) hx hb dX4_letters_0 zk_c0 ?_
  refine lv_istore_n (pc := 1) (lv' := [(1, .int 0), (0, .ref (pq 0))]) hx hb dX4_letters_1 rfl hl (by decide) rfl (fun ls hl => ?_)
  refine lv_iconst (v := 0) (pc := 2) hx hb dX4_letters_2 zk_c0 ?_
  refine lv_istore_n (pc := 3) (lv' := [(2, .int 0), (1, .int 0), (0, .ref (pq 0))]) hx hb dX4_letters_3 rfl hl (by decide) rfl (fun ls hl => ?_)
  obtain ⟨zr1, hzr1, h⟩ := zb h
  refine w_X4_letters_l4 G cy fu pq p_packed p_size X fu 0 0 zr1 hzr1 _ _ _ hH (lv_sub hl [2, 1, 0] rfl) (fun H locs ls hH hl => ?_)
  refine lv_iload_n (pc := 29) hx hb dX4_letters_29 rfl (lv_at hl 0 rfl) ?_
  obtain rfl := Option.some.inj h
  exact z_iret X hr hH dX4_letters_30
set_option maxHeartbeats 4000000 in
set_option maxRecDepth 100000 in
theorem c_X4_step (l : Launch) (G : va_G) (cy : Nat → ClassId) (fu : Nat) (pq : Nat → Nat) (p_packed : Nat → Int32) (p_size : Int32) (x1 : Int32) (rr : Int32) (h : f_X4_step fu p_packed p_size x1 = some rr) : zM l G cy yX4_step wsX4_step (zR 1 21) [.ref (pq 0), .int x1] (wP cy pq p_packed p_size) (wP cy pq p_packed p_size) (some (.int rr)) := by
  refine zM.mk (cc := cX4_step) (nL := 2) (ret := (some .int)) (by decide) rfl (Nat.le_of_ble_eq_true rfl) ?_
  intro p e s m below meth c A ls X hr hH hl
  replace X : zX p s m [.ref (pq 0), .int x1].toArray meth c RX4 cX4_step 2 wsX4_step G cy A := X
  have hx := X.1.1
  have hb := X.1.2.1
  replace hl : lv_has ls 2 [(0, .ref (pq 0)), (1, .int x1)] := hl
  dsimp only [f_X4_step] at h
  refine lv_aload_n (pc := 0) hx hb dX4_step_0 rfl (lv_at hl 0 rfl) ?_
  refine lv_iload_n (pc := 1) hx hb dX4_step_1 rfl (lv_at hl 1 rfl) ?_
  obtain ⟨zr1, hzr1, h⟩ := zb h
  refine zcV (pc := 2) (As := [.int x1]) (rest := []) (st1 := [.int zr1]) (ws' := wP cy pq p_packed p_size) (wr := []) (n := 1) (q0 := 0) X (c_X4_sendAt l G cy fu pq p_packed p_size x1 zr1 hzr1) hH [0, 1] [] [0, 1] rfl rfl rfl rfl gX4_step_X4_sendAt rfl ⟨rfl, rfl⟩ kX4_sendAt ⟨Nat.le_of_ble_eq_true rfl, Nat.le_of_ble_eq_true rfl⟩ rfl rfl rfl rfl rfl hl.1 (Nat.le_of_ble_eq_true rfl) ⟨Nat.le_of_ble_eq_true rfl, Nat.le_of_ble_eq_true rfl⟩ dX4_step_2 (fun H locs hH => ?_)
  refine lv_bipush (v := 17) (pc := 5) hx hb dX4_step_5 zk_b17 ?_
  refine lv_ishr (pc := 7) hx hb dX4_step_7 ?_
  obtain rfl := Option.some.inj h
  exact z_iret X hr hH dX4_step_8
