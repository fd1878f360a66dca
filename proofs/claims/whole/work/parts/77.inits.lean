theorem zk_s7200 : (Int16.ofInt 7200).toInt32 = 7200 := by decide
theorem inX0_init_X0 : ∀ w ∈ u_ws RX0 TX0 2, w ∈ wsX0_init := by decide +kernel
theorem inX2_init_X2 : ∀ w ∈ u_ws RX2 TX2 2, w ∈ wsX2_init := by decide +kernel
theorem inX3_init_X3 : ∀ w ∈ u_ws RX3 TX3 9, w ∈ wsX3_init := by decide +kernel
theorem inX4_init_X4 : ∀ w ∈ u_ws RX4 TX4 2, w ∈ wsX4_init := by decide +kernel
theorem inX5_init_X5 : ∀ w ∈ u_ws RX5 TX5 5, w ∈ wsX5_init := by decide +kernel
theorem inX6_init_X6 : ∀ w ∈ u_ws RX6 TX6 5, w ∈ wsX6_init := by decide +kernel
theorem inX8_init_X0 : ∀ w ∈ u_ws RX0 TX0 2, w ∈ wsX8_init := by decide +kernel
theorem inX8_init_X2 : ∀ w ∈ u_ws RX2 TX2 2, w ∈ wsX8_init := by decide +kernel
theorem inX8_init_X3 : ∀ w ∈ u_ws RX3 TX3 9, w ∈ wsX8_init := by decide +kernel
theorem inX8_init_X4 : ∀ w ∈ u_ws RX4 TX4 2, w ∈ wsX8_init := by decide +kernel
theorem inX8_init_X5 : ∀ w ∈ u_ws RX5 TX5 5, w ∈ wsX8_init := by decide +kernel
theorem inX8_init_X6 : ∀ w ∈ u_ws RX6 TX6 5, w ∈ wsX8_init := by decide +kernel
theorem inX8_init_X7 : ∀ w ∈ u_ws RX7 TX7 6, w ∈ wsX8_init := by decide +kernel
theorem inX8_init_X8 : ∀ w ∈ u_ws RX8 TX8 8, w ∈ wsX8_init := by decide +kernel
theorem inX9_init_X9 : ∀ w ∈ u_ws RX9 TX9 19, w ∈ wsX9_init := by decide +kernel
set_option maxHeartbeats 4000000 in
set_option maxRecDepth 100000 in
theorem c_X1_init (l : Launch) (G : va_G) (cy : Nat → ClassId) (h0 : Nat) : zI l G cy yX1_init wsX1_init (zRI 1 0 0 20) [.ref h0] [] (fun w => w = []) 0 0 := by
  refine zI.mk (cc := cX1_init) (nL := 1) (by decide) rfl rfl (Nat.le_of_ble_eq_true rfl) ?_
  intro p e s m below meth c A ls X hr hnm hH hl
  replace X : zX p s m [.ref h0].toArray meth c RX1 cX1_init 1 wsX1_init G cy A := X
  have hx := X.1.1
  have hb := X.1.2.1
  replace hl : lv_has ls 1 [(0, .ref h0)] := hl
  refine lv_aload_n (pc := 0) hx hb dX1_init_0 rfl (lv_at hl 0 rfl) ?_
  refine z_oi (pc := 1) X (List.mem_of_getElem? (i := 1) rfl) (List.mem_of_getElem? (i := 2) rfl) (List.mem_of_getElem? (i := 3) rfl) hl.1 (Nat.le_of_ble_eq_true rfl) (Nat.le_of_ble_eq_true rfl) (Nat.le_of_ble_eq_true rfl) dX1_init_1 ?_
  exact z_vretI (ws' := []) X hr hH [] rfl rfl rfl dX1_init_4
set_option maxHeartbeats 4000000 in
set_option maxRecDepth 100000 in
theorem c_X4_init (l : Launch) (G : va_G) (cy : Nat → ClassId) (fu : Nat) (h0 : Nat) : zI l G cy yX4_init wsX4_init (zRI 1 1 1200 20) [.ref h0] ([(h0, .inr (3, [.null, .int 0]))]) (fun w => ∃ qq : Nat → Nat, qq 0 = h0 ∧ w = wP cy qq (fun _ => 0) 0) 1 1200 := by
  refine zI.mk (cc := cX4_init) (nL := 1) (by decide) rfl rfl (Nat.le_of_ble_eq_true rfl) ?_
  intro p e s m below meth c A ls X hr hnm hH hl
  replace X : zX p s m [.ref h0].toArray meth c RX4 cX4_init 1 wsX4_init G cy A := X
  have hx := X.1.1
  have hb := X.1.2.1
  replace hl : lv_has ls 1 [(0, .ref h0)] := hl
  refine lv_aload_n (pc := 0) hx hb dX4_init_0 rfl (lv_at hl 0 rfl) ?_
  refine z_oi (pc := 1) X (List.mem_of_getElem? (i := 1) rfl) (List.mem_of_getElem? (i := 2) rfl) (List.mem_of_getElem? (i := 3) rfl) hl.1 (Nat.le_of_ble_eq_true rfl) (Nat.le_of_ble_eq_true rfl) (Nat.le_of_ble_eq_true rfl) dX4_init_1 ?_
  refine lv_aload_n (pc := 4) hx hb dX4_init_4 rfl (lv_at hl 0 rfl) ?_
  refine lv_sipush (v := 1200) (pc := 5) hx hb dX4_init_5 zk_s1200 ?_
  refine z_newa (pc := 8) (k := 0) (ty := .int) (N := 1200) (a0 := (1200, .inl (fun _ => 0))) X hH rfl (fun C h => by cases h) (List.mem_of_getElem? (i := 4) rfl) rfl (zha_i 1200) (zhn (N := 1200) zl1200 (by omega)) (zhc (N := 1200) zl1200 (by omega)) (zby_i (by omega)) (Nat.le_of_ble_eq_true rfl) (Nat.le_of_ble_eq_true rfl) dX4_init_8 (fun q1 H hH => ?_)
  refine W.widen (k := 1) (n := 1200) (Nat.le_of_ble_eq_true rfl) (Nat.le_of_ble_eq_true rfl) ?_
  replace hH : zH G A s.heap ([(h0, .inr (3, [.null, .int 0]))] ++ [(q1, .inl (cy 0, 1200, .inl (fun _ => 0)))]) H _ := hH
  refine z_putF (pc := 10) (v := .ref q1) (ws' := [(h0, .inr (3, [.ref q1, .int 0]))] ++ [(q1, .inl (cy 0, 1200, .inl (fun _ => 0)))]) X hnm inX4_init_X4 tyX4 tyX4_ok nmX4 hH 0 rfl rfl 0 rfl (List.mem_of_getElem? (i := 5) rfl) rfl rfl rfl rfl rfl rfl dX4_init_10 (fun H locs hH => ?_)
  refine W.widen (k := 1) (n := 1200) (Nat.le_of_ble_eq_true rfl) (Nat.le_of_ble_eq_true rfl) ?_
  exact z_vretI (ws' := wP cy (zad [h0, q1]) (fun _ => 0) 0) X hr hH [0, 1] rfl rfl ⟨(zad [h0, q1]), rfl, rfl⟩ dX4_init_13
set_option maxHeartbeats 4000000 in
set_option maxRecDepth 100000 in
theorem c_X3_init (l : Launch) (G : va_G) (cy : Nat → ClassId) (fu : Nat) (h0 : Nat) (rr : (Nat → Int32) × (Nat → Int32) × (Nat → Int32) × (Nat → Int32) × (Nat → Int32) × Int32 × Int32 × Int32) (hrr : f_X3_begin fu (fun _ => 0) (fun _ => 0) (fun _ => 0) (fun _ => 0) (fun _ => 0) 2 = some rr) : zI l G cy yX3_init wsX3_init (zRI 2 6 576 45) [.ref h0] ([(h0, .inr (2, [.null, .null, .null, .null, .null, .null, .int 0, .int 0, .int 0]))]) (fun w => ∃ qq : Nat → Nat, qq 0 = h0 ∧ w = wH cy qq rr.1 rr.2.1 rr.2.2.1 rr.2.2.2.1 rr.2.2.2.2.1 (fun _ => 0) rr.2.2.2.2.2.1 rr.2.2.2.2.2.2.1 rr.2.2.2.2.2.2.2) 6 576 := by
  refine zI.mk (cc := cX3_init) (nL := 1) (by decide) rfl rfl (Nat.le_of_ble_eq_true rfl) ?_
  intro p e s m below meth c A ls X hr hnm hH hl
  replace X : zX p s m [.ref h0].toArray meth c RX3 cX3_init 1 wsX3_init G cy A := X
  have hx := X.1.1
  have hb := X.1.2.1
  replace hl : lv_has ls 1 [(0, .ref h0)] := hl
  refine lv_aload_n (pc := 0) hx hb dX3_init_0 rfl (lv_at hl 0 rfl) ?_
  refine z_oi (pc := 1) X (List.mem_of_getElem? (i := 1) rfl) (List.mem_of_getElem? (i := 2) rfl) (List.mem_of_getElem? (i := 3) rfl) hl.1 (Nat.le_of_ble_eq_true rfl) (Nat.le_of_ble_eq_true rfl) (Nat.le_of_ble_eq_true rfl) dX3_init_1 ?_
  refine lv_aload_n (pc := 4) hx hb dX3_init_4 rfl (lv_at hl 0 rfl) ?_
  refine lv_bipush (v := 16) (pc := 5) hx hb dX3_init_5 zk_b16 ?_
  refine z_newa (pc := 7) (k := 2) (ty := .boolean) (N := 16) (a0 := (16, .inl (fun _ => 0))) X hH rfl (fun C h => by cases h) (List.mem_of_getElem? (i := 4) rfl) rfl (zha_z 16) (zhn (N := 16) zl16 (by omega)) (zhc (N := 16) zl16 (by omega)) (zby_z (by omega)) (Nat.le_of_ble_eq_true rfl) (Nat.le_of_ble_eq_true rfl) dX3_init_7 (fun q1 H hH => ?_)
  refine W.widen (k := 1) (n := 16) (Nat.le_of_ble_eq_true rfl) (Nat.le_of_ble_eq_true rfl) ?_
  replace hH : zH G A s.heap ([(h0, .inr (2, [.null, .null, .null, .null, .null, .null, .int 0, .int 0, .int 0]))] ++ [(q1, .inl (cy 2, 16, .inl (fun _ => 0)))]) H _ := hH
  refine z_putF (pc := 9) (v := .ref q1) (ws' := [(h0, .inr (2, [.ref q1, .null, .null, .null, .null, .null, .int 0, .int 0, .int 0]))] ++ [(q1, .inl (cy 2, 16, .inl (fun _ => 0)))]) X hnm inX3_init_X3 tyX3 tyX3_ok nmX3 hH 0 rfl rfl 0 rfl (List.mem_of_getElem? (i := 5) rfl) rfl rfl rfl rfl rfl rfl dX3_init_9 (fun H locs hH => ?_)
  refine lv_aload_n (pc := 12) hx hb dX3_init_12 rfl (lv_at hl 0 rfl) ?_
  refine lv_bipush (v := 16) (pc := 13) hx hb dX3_init_13 zk_b16 ?_
  refine z_newa (pc := 15) (k := 0) (ty := .int) (N := 16) (a0 := (16, .inl (fun _ => 0))) X hH rfl (fun C h => by cases h) (List.mem_of_getElem? (i := 6) rfl) rfl (zha_i 16) (zhn (N := 16) zl16 (by omega)) (zhc (N := 16) zl16 (by omega)) (zby_i (by omega)) (Nat.le_of_ble_eq_true rfl) (Nat.le_of_ble_eq_true rfl) dX3_init_15 (fun q2 H hH => ?_)
  refine W.widen (k := 2) (n := 32) (Nat.le_of_ble_eq_true rfl) (Nat.le_of_ble_eq_true rfl) ?_
  replace hH : zH G A s.heap ([(h0, .inr (2, [.ref q1, .null, .null, .null, .null, .null, .int 0, .int 0, .int 0]))] ++ [(q1, .inl (cy 2, 16, .inl (fun _ => 0)))] ++ [(q2, .inl (cy 0, 16, .inl (fun _ => 0)))]) H _ := hH
  refine z_putF (pc := 17) (v := .ref q2) (ws' := [(h0, .inr (2, [.ref q1, .ref q2, .null, .null, .null, .null, .int 0, .int 0, .int 0]))] ++ [(q1, .inl (cy 2, 16, .inl (fun _ => 0)))] ++ [(q2, .inl (cy 0, 16, .inl (fun _ => 0)))]) X hnm inX3_init_X3 tyX3 tyX3_ok nmX3 hH 0 rfl rfl 1 rfl (List.mem_of_getElem? (i := 7) rfl) rfl rfl rfl rfl rfl rfl dX3_init_17 (fun H locs hH => ?_)
  refine lv_aload_n (pc := 20) hx hb dX3_init_20 rfl (lv_at hl 0 rfl) ?_
  refine lv_bipush (v := 16) (pc := 21) hx hb dX3_init_21 zk_b16 ?_
  refine z_newa (pc := 23) (k := 0) (ty := .int) (N := 16) (a0 := (16, .inl (fun _ => 0))) X hH rfl (fun C h => by cases h) (List.mem_of_getElem? (i := 6) rfl) rfl (zha_i 16) (zhn (N := 16) zl16 (by omega)) (zhc (N := 16) zl16 (by omega)) (zby_i (by omega)) (Nat.le_of_ble_eq_true rfl) (Nat.le_of_ble_eq_true rfl) dX3_init_23 (fun q3 H hH => ?_)
  refine W.widen (k := 3) (n := 48) (Nat.le_of_ble_eq_true rfl) (Nat.le_of_ble_eq_true rfl) ?_
  replace hH : zH G A s.heap ([(h0, .inr (2, [.ref q1, .ref q2, .null, .null, .null, .null, .int 0, .int 0, .int 0]))] ++ [(q1, .inl (cy 2, 16, .inl (fun _ => 0)))] ++ [(q2, .inl (cy 0, 16, .inl (fun _ => 0)))] ++ [(q3, .inl (cy 0, 16, .inl (fun _ => 0)))]) H _ := hH
  refine z_putF (pc := 25) (v := .ref q3) (ws' := [(h0, .inr (2, [.ref q1, .ref q2, .ref q3, .null, .null, .null, .int 0, .int 0, .int 0]))] ++ [(q1, .inl (cy 2, 16, .inl (fun _ => 0)))] ++ [(q2, .inl (cy 0, 16, .inl (fun _ => 0)))] ++ [(q3, .inl (cy 0, 16, .inl (fun _ => 0)))]) X hnm inX3_init_X3 tyX3 tyX3_ok nmX3 hH 0 rfl rfl 2 rfl (List.mem_of_getElem? (i := 8) rfl) rfl rfl rfl rfl rfl rfl dX3_init_25 (fun H locs hH => ?_)
  refine lv_aload_n (pc := 28) hx hb dX3_init_28 rfl (lv_at hl 0 rfl) ?_
  refine lv_bipush (v := 16) (pc := 29) hx hb dX3_init_29 zk_b16 ?_
  refine z_newa (pc := 31) (k := 0) (ty := .int) (N := 16) (a0 := (16, .inl (fun _ => 0))) X hH rfl (fun C h => by cases h) (List.mem_of_getElem? (i := 6) rfl) rfl (zha_i 16) (zhn (N := 16) zl16 (by omega)) (zhc (N := 16) zl16 (by omega)) (zby_i (by omega)) (Nat.le_of_ble_eq_true rfl) (Nat.le_of_ble_eq_true rfl) dX3_init_31 (fun q4 H hH => ?_)
  refine W.widen (k := 4) (n := 64) (Nat.le_of_ble_eq_true rfl) (Nat.le_of_ble_eq_true rfl) ?_
  replace hH : zH G A s.heap ([(h0, .inr (2, [.ref q1, .ref q2, .ref q3, .null, .null, .null, .int 0, .int 0, .int 0]))] ++ [(q1, .inl (cy 2, 16, .inl (fun _ => 0)))] ++ [(q2, .inl (cy 0, 16, .inl (fun _ => 0)))] ++ [(q3, .inl (cy 0, 16, .inl (fun _ => 0)))] ++ [(q4, .inl (cy 0, 16, .inl (fun _ => 0)))]) H _ := hH
  refine z_putF (pc := 33) (v := .ref q4) (ws' := [(h0, .inr (2, [.ref q1, .ref q2, .ref q3, .ref q4, .null, .null, .int 0, .int 0, .int 0]))] ++ [(q1, .inl (cy 2, 16, .inl (fun _ => 0)))] ++ [(q2, .inl (cy 0, 16, .inl (fun _ => 0)))] ++ [(q3, .inl (cy 0, 16, .inl (fun _ => 0)))] ++ [(q4, .inl (cy 0, 16, .inl (fun _ => 0)))]) X hnm inX3_init_X3 tyX3 tyX3_ok nmX3 hH 0 rfl rfl 3 rfl (List.mem_of_getElem? (i := 9) rfl) rfl rfl rfl rfl rfl rfl dX3_init_33 (fun H locs hH => ?_)
  refine lv_aload_n (pc := 36) hx hb dX3_init_36 rfl (lv_at hl 0 rfl) ?_
  refine lv_sipush (v := 256) (pc := 37) hx hb dX3_init_37 zk_s256 ?_
  refine z_newa (pc := 40) (k := 0) (ty := .int) (N := 256) (a0 := (256, .inl (fun _ => 0))) X hH rfl (fun C h => by cases h) (List.mem_of_getElem? (i := 6) rfl) rfl (zha_i 256) (zhn (N := 256) zl256 (by omega)) (zhc (N := 256) zl256 (by omega)) (zby_i (by omega)) (Nat.le_of_ble_eq_true rfl) (Nat.le_of_ble_eq_true rfl) dX3_init_40 (fun q5 H hH => ?_)
  refine W.widen (k := 5) (n := 320) (Nat.le_of_ble_eq_true rfl) (Nat.le_of_ble_eq_true rfl) ?_
  replace hH : zH G A s.heap ([(h0, .inr (2, [.ref q1, .ref q2, .ref q3, .ref q4, .null, .null, .int 0, .int 0, .int 0]))] ++ [(q1, .inl (cy 2, 16, .inl (fun _ => 0)))] ++ [(q2, .inl (cy 0, 16, .inl (fun _ => 0)))] ++ [(q3, .inl (cy 0, 16, .inl (fun _ => 0)))] ++ [(q4, .inl (cy 0, 16, .inl (fun _ => 0)))] ++ [(q5, .inl (cy 0, 256, .inl (fun _ => 0)))]) H _ := hH
  refine z_putF (pc := 42) (v := .ref q5) (ws' := [(h0, .inr (2, [.ref q1, .ref q2, .ref q3, .ref q4, .ref q5, .null, .int 0, .int 0, .int 0]))] ++ [(q1, .inl (cy 2, 16, .inl (fun _ => 0)))] ++ [(q2, .inl (cy 0, 16, .inl (fun _ => 0)))] ++ [(q3, .inl (cy 0, 16, .inl (fun _ => 0)))] ++ [(q4, .inl (cy 0, 16, .inl (fun _ => 0)))] ++ [(q5, .inl (cy 0, 256, .inl (fun _ => 0)))]) X hnm inX3_init_X3 tyX3 tyX3_ok nmX3 hH 0 rfl rfl 4 rfl (List.mem_of_getElem? (i := 10) rfl) rfl rfl rfl rfl rfl rfl dX3_init_42 (fun H locs hH => ?_)
  refine lv_aload_n (pc := 45) hx hb dX3_init_45 rfl (lv_at hl 0 rfl) ?_
  refine lv_sipush (v := 256) (pc := 46) hx hb dX3_init_46 zk_s256 ?_
  refine z_newa (pc := 49) (k := 0) (ty := .int) (N := 256) (a0 := (256, .inl (fun _ => 0))) X hH rfl (fun C h => by cases h) (List.mem_of_getElem? (i := 6) rfl) rfl (zha_i 256) (zhn (N := 256) zl256 (by omega)) (zhc (N := 256) zl256 (by omega)) (zby_i (by omega)) (Nat.le_of_ble_eq_true rfl) (Nat.le_of_ble_eq_true rfl) dX3_init_49 (fun q6 H hH => ?_)
  refine W.widen (k := 6) (n := 576) (Nat.le_of_ble_eq_true rfl) (Nat.le_of_ble_eq_true rfl) ?_
  replace hH : zH G A s.heap ([(h0, .inr (2, [.ref q1, .ref q2, .ref q3, .ref q4, .ref q5, .null, .int 0, .int 0, .int 0]))] ++ [(q1, .inl (cy 2, 16, .inl (fun _ => 0)))] ++ [(q2, .inl (cy 0, 16, .inl (fun _ => 0)))] ++ [(q3, .inl (cy 0, 16, .inl (fun _ => 0)))] ++ [(q4, .inl (cy 0, 16, .inl (fun _ => 0)))] ++ [(q5, .inl (cy 0, 256, .inl (fun _ => 0)))] ++ [(q6, .inl (cy 0, 256, .inl (fun _ => 0)))]) H _ := hH
  refine z_putF (pc := 51) (v := .ref q6) (ws' := [(h0, .inr (2, [.ref q1, .ref q2, .ref q3, .ref q4, .ref q5, .ref q6, .int 0, .int 0, .int 0]))] ++ [(q1, .inl (cy 2, 16, .inl (fun _ => 0)))] ++ [(q2, .inl (cy 0, 16, .inl (fun _ => 0)))] ++ [(q3, .inl (cy 0, 16, .inl (fun _ => 0)))] ++ [(q4, .inl (cy 0, 16, .inl (fun _ => 0)))] ++ [(q5, .inl (cy 0, 256, .inl (fun _ => 0)))] ++ [(q6, .inl (cy 0, 256, .inl (fun _ => 0)))]) X hnm inX3_init_X3 tyX3 tyX3_ok nmX3 hH 0 rfl rfl 5 rfl (List.mem_of_getElem? (i := 11) rfl) rfl rfl rfl rfl rfl rfl dX3_init_51 (fun H locs hH => ?_)
  refine lv_aload_n (pc := 54) hx hb dX3_init_54 rfl (lv_at hl 0 rfl) ?_
  refine lv_iconst (v := 2) (pc := 55) hx hb dX3_init_55 zk_c2 ?_
  refine zcV (pc := 56) (As := [.int 2]) (rest := []) (st1 := []) (ws' := wH cy (zad [h0, q1, q2, q3, q4, q5, q6]) rr.1 rr.2.1 rr.2.2.1 rr.2.2.2.1 rr.2.2.2.2.1 (fun _ => 0) rr.2.2.2.2.2.1 rr.2.2.2.2.2.2.1 rr.2.2.2.2.2.2.2) (wr := []) (n := 1) (q0 := 0) X (c_X3_begin l G cy fu (zad [h0, q1, q2, q3, q4, q5, q6]) (fun _ => 0) (fun _ => 0) (fun _ => 0) (fun _ => 0) (fun _ => 0) (fun _ => 0) 0 0 0 2 rr hrr) hH [0, 1, 2, 3, 4, 5, 6] [] [0, 1, 2, 3, 4, 5, 6] rfl rfl rfl rfl gX3_init_X3_begin rfl ⟨rfl, rfl⟩ kX3_begin ⟨Nat.le_of_ble_eq_true rfl, Nat.le_of_ble_eq_true rfl⟩ rfl rfl rfl rfl rfl hl.1 (Nat.le_of_ble_eq_true rfl) ⟨Nat.le_of_ble_eq_true rfl, Nat.le_of_ble_eq_true rfl⟩ dX3_init_56 (fun H locs hH => ?_)
  refine W.widen (k := 6) (n := 576) (Nat.le_of_ble_eq_true rfl) (Nat.le_of_ble_eq_true rfl) ?_
  exact z_vretI (ws' := wH cy (zad [h0, q1, q2, q3, q4, q5, q6]) rr.1 rr.2.1 rr.2.2.1 rr.2.2.2.1 rr.2.2.2.2.1 (fun _ => 0) rr.2.2.2.2.2.1 rr.2.2.2.2.2.2.1 rr.2.2.2.2.2.2.2) X hr hH [0, 1, 2, 3, 4, 5, 6] rfl rfl ⟨(zad [h0, q1, q2, q3, q4, q5, q6]), rfl, rfl⟩ dX3_init_59
set_option maxHeartbeats 4000000 in
set_option maxRecDepth 100000 in
theorem c_X2_init (l : Launch) (G : va_G) (cy : Nat → ClassId) (fu : Nat) (h0 : Nat) : zI l G cy yX2_init wsX2_init (zRI 2 2 512 40) [.ref h0] ([(h0, .inr (1, [.null, .null]))]) (fun w => ∃ qq : Nat → Nat, qq 0 = h0 ∧ w = wE cy qq (fun _ => 0) (fun _ => 0)) 2 512 := by
  refine zI.mk (cc := cX2_init) (nL := 1) (by decide) rfl rfl (Nat.le_of_ble_eq_true rfl) ?_
  intro p e s m below meth c A ls X hr hnm hH hl
  replace X : zX p s m [.ref h0].toArray meth c RX2 cX2_init 1 wsX2_init G cy A := X
  have hx := X.1.1
  have hb := X.1.2.1
  replace hl : lv_has ls 1 [(0, .ref h0)] := hl
  refine lv_aload_n (pc := 0) hx hb dX2_init_0 rfl (lv_at hl 0 rfl) ?_
  refine zcIN (pc := 1) (As := []) (rest := []) (n := 0) (host := "SumsToAll") (wr := [(h0, .inr (1, [.null, .null]))]) X (c_X1_init l G cy h0) hH [] [0] rfl rfl rfl gX2_init_X1_init_n3 rfl ⟨rfl, rfl⟩ (List.mem_of_getElem? (i := 7) rfl) (List.mem_of_getElem? (i := 5) rfl) (List.mem_of_getElem? (i := 4) rfl) rfl (by decide +kernel) ⟨Nat.le_of_ble_eq_true rfl, Nat.le_of_ble_eq_true rfl⟩ rfl rfl hl.1 (Nat.le_of_ble_eq_true rfl) ⟨Nat.le_of_ble_eq_true rfl, Nat.le_of_ble_eq_true rfl⟩ dX2_init_1 (fun w H locs hw hH => ?_)
  obtain rfl : w = [] := hw
  refine W.widen (k := 0) (n := 0) (Nat.le_of_ble_eq_true rfl) (Nat.le_of_ble_eq_true rfl) ?_
  rw [List.append_nil] at hH
  refine lv_aload_n (pc := 4) hx hb dX2_init_4 rfl (lv_at hl 0 rfl) ?_
  refine lv_sipush (v := 256) (pc := 5) hx hb dX2_init_5 zk_s256 ?_
  refine z_newa (pc := 8) (k := 0) (ty := .int) (N := 256) (a0 := (256, .inl (fun _ => 0))) X hH rfl (fun C h => by cases h) (List.mem_of_getElem? (i := 1) rfl) rfl (zha_i 256) (zhn (N := 256) zl256 (by omega)) (zhc (N := 256) zl256 (by omega)) (zby_i (by omega)) (Nat.le_of_ble_eq_true rfl) (Nat.le_of_ble_eq_true rfl) dX2_init_8 (fun q1 H hH => ?_)
  refine W.widen (k := 1) (n := 256) (Nat.le_of_ble_eq_true rfl) (Nat.le_of_ble_eq_true rfl) ?_
  replace hH : zH G A s.heap ([(h0, .inr (1, [.null, .null]))] ++ [(q1, .inl (cy 0, 256, .inl (fun _ => 0)))]) H _ := hH
  refine z_putF (pc := 10) (v := .ref q1) (ws' := [(h0, .inr (1, [.ref q1, .null]))] ++ [(q1, .inl (cy 0, 256, .inl (fun _ => 0)))]) X hnm inX2_init_X2 tyX2 tyX2_ok nmX2 hH 0 rfl rfl 0 rfl (List.mem_of_getElem? (i := 2) rfl) rfl rfl rfl rfl rfl rfl dX2_init_10 (fun H locs hH => ?_)
  refine lv_aload_n (pc := 13) hx hb dX2_init_13 rfl (lv_at hl 0 rfl) ?_
  refine lv_sipush (v := 256) (pc := 14) hx hb dX2_init_14 zk_s256 ?_
  refine z_newa (pc := 17) (k := 0) (ty := .int) (N := 256) (a0 := (256, .inl (fun _ => 0))) X hH rfl (fun C h => by cases h) (List.mem_of_getElem? (i := 1) rfl) rfl (zha_i 256) (zhn (N := 256) zl256 (by omega)) (zhc (N := 256) zl256 (by omega)) (zby_i (by omega)) (Nat.le_of_ble_eq_true rfl) (Nat.le_of_ble_eq_true rfl) dX2_init_17 (fun q2 H hH => ?_)
  refine W.widen (k := 2) (n := 512) (Nat.le_of_ble_eq_true rfl) (Nat.le_of_ble_eq_true rfl) ?_
  replace hH : zH G A s.heap ([(h0, .inr (1, [.ref q1, .null]))] ++ [(q1, .inl (cy 0, 256, .inl (fun _ => 0)))] ++ [(q2, .inl (cy 0, 256, .inl (fun _ => 0)))]) H _ := hH
  refine z_putF (pc := 19) (v := .ref q2) (ws' := [(h0, .inr (1, [.ref q1, .ref q2]))] ++ [(q1, .inl (cy 0, 256, .inl (fun _ => 0)))] ++ [(q2, .inl (cy 0, 256, .inl (fun _ => 0)))]) X hnm inX2_init_X2 tyX2 tyX2_ok nmX2 hH 0 rfl rfl 1 rfl (List.mem_of_getElem? (i := 3) rfl) rfl rfl rfl rfl rfl rfl dX2_init_19 (fun H locs hH => ?_)
  refine W.widen (k := 2) (n := 512) (Nat.le_of_ble_eq_true rfl) (Nat.le_of_ble_eq_true rfl) ?_
  exact z_vretI (ws' := wE cy (zad [h0, q1, q2]) (fun _ => 0) (fun _ => 0)) X hr hH [0, 1, 2] rfl rfl ⟨(zad [h0, q1, q2]), rfl, rfl⟩ dX2_init_22
set_option maxHeartbeats 4000000 in
set_option maxRecDepth 100000 in
theorem c_X6_init (l : Launch) (G : va_G) (cy : Nat → ClassId) (fu : Nat) (h0 : Nat) : zI l G cy yX6_init wsX6_init (zRI 2 4 1024 40) [.ref h0] ([(h0, .inr (5, [.null, .null, .null, .null, .int 0]))]) (fun w => ∃ qq : Nat → Nat, qq 0 = h0 ∧ w = wG cy qq (fun _ => 0) (fun _ => 0) (fun _ => 0) (fun _ => 0) 0) 4 1024 := by
  refine zI.mk (cc := cX6_init) (nL := 1) (by decide) rfl rfl (Nat.le_of_ble_eq_true rfl) ?_
  intro p e s m below meth c A ls X hr hnm hH hl
  replace X : zX p s m [.ref h0].toArray meth c RX6 cX6_init 1 wsX6_init G cy A := X
  have hx := X.1.1
  have hb := X.1.2.1
  replace hl : lv_has ls 1 [(0, .ref h0)] := hl
  refine lv_aload_n (pc := 0) hx hb dX6_init_0 rfl (lv_at hl 0 rfl) ?_
  refine zcIN (pc := 1) (As := []) (rest := []) (n := 0) (host := "SumsToAll") (wr := [(h0, .inr (5, [.null, .null, .null, .null, .int 0]))]) X (c_X1_init l G cy h0) hH [] [0] rfl rfl rfl gX6_init_X1_init_n5 rfl ⟨rfl, rfl⟩ (List.mem_of_getElem? (i := 9) rfl) (List.mem_of_getElem? (i := 7) rfl) (List.mem_of_getElem? (i := 6) rfl) rfl (by decide +kernel) ⟨Nat.le_of_ble_eq_true rfl, Nat.le_of_ble_eq_true rfl⟩ rfl rfl hl.1 (Nat.le_of_ble_eq_true rfl) ⟨Nat.le_of_ble_eq_true rfl, Nat.le_of_ble_eq_true rfl⟩ dX6_init_1 (fun w H locs hw hH => ?_)
  obtain rfl : w = [] := hw
  refine W.widen (k := 0) (n := 0) (Nat.le_of_ble_eq_true rfl) (Nat.le_of_ble_eq_true rfl) ?_
  rw [List.append_nil] at hH
  refine lv_aload_n (pc := 4) hx hb dX6_init_4 rfl (lv_at hl 0 rfl) ?_
  refine lv_sipush (v := 256) (pc := 5) hx hb dX6_init_5 zk_s256 ?_
  refine z_newa (pc := 8) (k := 1) (ty := .long) (N := 256) (a0 := (256, .inr (.inl (fun _ => 0)))) X hH rfl (fun C h => by cases h) (List.mem_of_getElem? (i := 1) rfl) rfl (zha_l 256) (zhn (N := 256) zl256 (by omega)) (zhc (N := 256) zl256 (by omega)) (zby_l (by omega)) (Nat.le_of_ble_eq_true rfl) (Nat.le_of_ble_eq_true rfl) dX6_init_8 (fun q1 H hH => ?_)
  refine W.widen (k := 1) (n := 256) (Nat.le_of_ble_eq_true rfl) (Nat.le_of_ble_eq_true rfl) ?_
  replace hH : zH G A s.heap ([(h0, .inr (5, [.null, .null, .null, .null, .int 0]))] ++ [(q1, .inl (cy 1, 256, .inr (.inl (fun _ => 0))))]) H _ := hH
  refine z_putF (pc := 10) (v := .ref q1) (ws' := [(h0, .inr (5, [.ref q1, .null, .null, .null, .int 0]))] ++ [(q1, .inl (cy 1, 256, .inr (.inl (fun _ => 0))))]) X hnm inX6_init_X6 tyX6 tyX6_ok nmX6 hH 0 rfl rfl 0 rfl (List.mem_of_getElem? (i := 2) rfl) rfl rfl rfl rfl rfl rfl dX6_init_10 (fun H locs hH => ?_)
  refine lv_aload_n (pc := 13) hx hb dX6_init_13 rfl (lv_at hl 0 rfl) ?_
  refine lv_sipush (v := 256) (pc := 14) hx hb dX6_init_14 zk_s256 ?_
  refine z_newa (pc := 17) (k := 1) (ty := .long) (N := 256) (a0 := (256, .inr (.inl (fun _ => 0)))) X hH rfl (fun C h => by cases h) (List.mem_of_getElem? (i := 1) rfl) rfl (zha_l 256) (zhn (N := 256) zl256 (by omega)) (zhc (N := 256) zl256 (by omega)) (zby_l (by omega)) (Nat.le_of_ble_eq_true rfl) (Nat.le_of_ble_eq_true rfl) dX6_init_17 (fun q2 H hH => ?_)
  refine W.widen (k := 2) (n := 512) (Nat.le_of_ble_eq_true rfl) (Nat.le_of_ble_eq_true rfl) ?_
  replace hH : zH G A s.heap ([(h0, .inr (5, [.ref q1, .null, .null, .null, .int 0]))] ++ [(q1, .inl (cy 1, 256, .inr (.inl (fun _ => 0))))] ++ [(q2, .inl (cy 1, 256, .inr (.inl (fun _ => 0))))]) H _ := hH
  refine z_putF (pc := 19) (v := .ref q2) (ws' := [(h0, .inr (5, [.ref q1, .ref q2, .null, .null, .int 0]))] ++ [(q1, .inl (cy 1, 256, .inr (.inl (fun _ => 0))))] ++ [(q2, .inl (cy 1, 256, .inr (.inl (fun _ => 0))))]) X hnm inX6_init_X6 tyX6 tyX6_ok nmX6 hH 0 rfl rfl 1 rfl (List.mem_of_getElem? (i := 3) rfl) rfl rfl rfl rfl rfl rfl dX6_init_19 (fun H locs hH => ?_)
  refine lv_aload_n (pc := 22) hx hb dX6_init_22 rfl (lv_at hl 0 rfl) ?_
  refine lv_sipush (v := 256) (pc := 23) hx hb dX6_init_23 zk_s256 ?_
  refine z_newa (pc := 26) (k := 1) (ty := .long) (N := 256) (a0 := (256, .inr (.inl (fun _ => 0)))) X hH rfl (fun C h => by cases h) (List.mem_of_getElem? (i := 1) rfl) rfl (zha_l 256) (zhn (N := 256) zl256 (by omega)) (zhc (N := 256) zl256 (by omega)) (zby_l (by omega)) (Nat.le_of_ble_eq_true rfl) (Nat.le_of_ble_eq_true rfl) dX6_init_26 (fun q3 H hH => ?_)
  refine W.widen (k := 3) (n := 768) (Nat.le_of_ble_eq_true rfl) (Nat.le_of_ble_eq_true rfl) ?_
  replace hH : zH G A s.heap ([(h0, .inr (5, [.ref q1, .ref q2, .null, .null, .int 0]))] ++ [(q1, .inl (cy 1, 256, .inr (.inl (fun _ => 0))))] ++ [(q2, .inl (cy 1, 256, .inr (.inl (fun _ => 0))))] ++ [(q3, .inl (cy 1, 256, .inr (.inl (fun _ => 0))))]) H _ := hH
  refine z_putF (pc := 28) (v := .ref q3) (ws' := [(h0, .inr (5, [.ref q1, .ref q2, .ref q3, .null, .int 0]))] ++ [(q1, .inl (cy 1, 256, .inr (.inl (fun _ => 0))))] ++ [(q2, .inl (cy 1, 256, .inr (.inl (fun _ => 0))))] ++ [(q3, .inl (cy 1, 256, .inr (.inl (fun _ => 0))))]) X hnm inX6_init_X6 tyX6 tyX6_ok nmX6 hH 0 rfl rfl 2 rfl (List.mem_of_getElem? (i := 4) rfl) rfl rfl rfl rfl rfl rfl dX6_init_28 (fun H locs hH => ?_)
  refine lv_aload_n (pc := 31) hx hb dX6_init_31 rfl (lv_at hl 0 rfl) ?_
  refine lv_sipush (v := 256) (pc := 32) hx hb dX6_init_32 zk_s256 ?_
  refine z_newa (pc := 35) (k := 1) (ty := .long) (N := 256) (a0 := (256, .inr (.inl (fun _ => 0)))) X hH rfl (fun C h => by cases h) (List.mem_of_getElem? (i := 1) rfl) rfl (zha_l 256) (zhn (N := 256) zl256 (by omega)) (zhc (N := 256) zl256 (by omega)) (zby_l (by omega)) (Nat.le_of_ble_eq_true rfl) (Nat.le_of_ble_eq_true rfl) dX6_init_35 (fun q4 H hH => ?_)
  refine W.widen (k := 4) (n := 1024) (Nat.le_of_ble_eq_true rfl) (Nat.le_of_ble_eq_true rfl) ?_
  replace hH : zH G A s.heap ([(h0, .inr (5, [.ref q1, .ref q2, .ref q3, .null, .int 0]))] ++ [(q1, .inl (cy 1, 256, .inr (.inl (fun _ => 0))))] ++ [(q2, .inl (cy 1, 256, .inr (.inl (fun _ => 0))))] ++ [(q3, .inl (cy 1, 256, .inr (.inl (fun _ => 0))))] ++ [(q4, .inl (cy 1, 256, .inr (.inl (fun _ => 0))))]) H _ := hH
  refine z_putF (pc := 37) (v := .ref q4) (ws' := [(h0, .inr (5, [.ref q1, .ref q2, .ref q3, .ref q4, .int 0]))] ++ [(q1, .inl (cy 1, 256, .inr (.inl (fun _ => 0))))] ++ [(q2, .inl (cy 1, 256, .inr (.inl (fun _ => 0))))] ++ [(q3, .inl (cy 1, 256, .inr (.inl (fun _ => 0))))] ++ [(q4, .inl (cy 1, 256, .inr (.inl (fun _ => 0))))]) X hnm inX6_init_X6 tyX6 tyX6_ok nmX6 hH 0 rfl rfl 3 rfl (List.mem_of_getElem? (i := 5) rfl) rfl rfl rfl rfl rfl rfl dX6_init_37 (fun H locs hH => ?_)
  refine W.widen (k := 4) (n := 1024) (Nat.le_of_ble_eq_true rfl) (Nat.le_of_ble_eq_true rfl) ?_
  exact z_vretI (ws' := wG cy (zad [h0, q1, q2, q3, q4]) (fun _ => 0) (fun _ => 0) (fun _ => 0) (fun _ => 0) 0) X hr hH [0, 1, 2, 3, 4] rfl rfl ⟨(zad [h0, q1, q2, q3, q4]), rfl, rfl⟩ dX6_init_40
set_option maxHeartbeats 4000000 in
set_option maxRecDepth 100000 in
theorem c_X0_init (l : Launch) (G : va_G) (cy : Nat → ClassId) (fu : Nat) (h0 : Nat) : zI l G cy yX0_init wsX0_init (zRI 1 2 32 20) [.ref h0] ([(h0, .inr (0, [.null, .null]))]) (fun w => ∃ qq : Nat → Nat, qq 0 = h0 ∧ w = wK cy qq (fun _ => 0) (fun _ => 0)) 2 32 := by
  refine zI.mk (cc := cX0_init) (nL := 1) (by decide) rfl rfl (Nat.le_of_ble_eq_true rfl) ?_
  intro p e s m below meth c A ls X hr hnm hH hl
  replace X : zX p s m [.ref h0].toArray meth c RX0 cX0_init 1 wsX0_init G cy A := X
  have hx := X.1.1
  have hb := X.1.2.1
  replace hl : lv_has ls 1 [(0, .ref h0)] := hl
  refine lv_aload_n (pc := 0) hx hb dX0_init_0 rfl (lv_at hl 0 rfl) ?_
  refine z_oi (pc := 1) X (List.mem_of_getElem? (i := 1) rfl) (List.mem_of_getElem? (i := 2) rfl) (List.mem_of_getElem? (i := 3) rfl) hl.1 (Nat.le_of_ble_eq_true rfl) (Nat.le_of_ble_eq_true rfl) (Nat.le_of_ble_eq_true rfl) dX0_init_1 ?_
  refine lv_aload_n (pc := 4) hx hb dX0_init_4 rfl (lv_at hl 0 rfl) ?_
  refine lv_bipush (v := 16) (pc := 5) hx hb dX0_init_5 zk_b16 ?_
  refine z_newa (pc := 7) (k := 0) (ty := .int) (N := 16) (a0 := (16, .inl (fun _ => 0))) X hH rfl (fun C h => by cases h) (List.mem_of_getElem? (i := 4) rfl) rfl (zha_i 16) (zhn (N := 16) zl16 (by omega)) (zhc (N := 16) zl16 (by omega)) (zby_i (by omega)) (Nat.le_of_ble_eq_true rfl) (Nat.le_of_ble_eq_true rfl) dX0_init_7 (fun q1 H hH => ?_)
  refine W.widen (k := 1) (n := 16) (Nat.le_of_ble_eq_true rfl) (Nat.le_of_ble_eq_true rfl) ?_
  replace hH : zH G A s.heap ([(h0, .inr (0, [.null, .null]))] ++ [(q1, .inl (cy 0, 16, .inl (fun _ => 0)))]) H _ := hH
  refine z_putF (pc := 9) (v := .ref q1) (ws' := [(h0, .inr (0, [.ref q1, .null]))] ++ [(q1, .inl (cy 0, 16, .inl (fun _ => 0)))]) X hnm inX0_init_X0 tyX0 tyX0_ok nmX0 hH 0 rfl rfl 0 rfl (List.mem_of_getElem? (i := 5) rfl) rfl rfl rfl rfl rfl rfl dX0_init_9 (fun H locs hH => ?_)
  refine lv_aload_n (pc := 12) hx hb dX0_init_12 rfl (lv_at hl 0 rfl) ?_
  refine lv_bipush (v := 16) (pc := 13) hx hb dX0_init_13 zk_b16 ?_
  refine z_newa (pc := 15) (k := 0) (ty := .int) (N := 16) (a0 := (16, .inl (fun _ => 0))) X hH rfl (fun C h => by cases h) (List.mem_of_getElem? (i := 4) rfl) rfl (zha_i 16) (zhn (N := 16) zl16 (by omega)) (zhc (N := 16) zl16 (by omega)) (zby_i (by omega)) (Nat.le_of_ble_eq_true rfl) (Nat.le_of_ble_eq_true rfl) dX0_init_15 (fun q2 H hH => ?_)
  refine W.widen (k := 2) (n := 32) (Nat.le_of_ble_eq_true rfl) (Nat.le_of_ble_eq_true rfl) ?_
  replace hH : zH G A s.heap ([(h0, .inr (0, [.ref q1, .null]))] ++ [(q1, .inl (cy 0, 16, .inl (fun _ => 0)))] ++ [(q2, .inl (cy 0, 16, .inl (fun _ => 0)))]) H _ := hH
  refine z_putF (pc := 17) (v := .ref q2) (ws' := [(h0, .inr (0, [.ref q1, .ref q2]))] ++ [(q1, .inl (cy 0, 16, .inl (fun _ => 0)))] ++ [(q2, .inl (cy 0, 16, .inl (fun _ => 0)))]) X hnm inX0_init_X0 tyX0 tyX0_ok nmX0 hH 0 rfl rfl 1 rfl (List.mem_of_getElem? (i := 6) rfl) rfl rfl rfl rfl rfl rfl dX0_init_17 (fun H locs hH => ?_)
  refine W.widen (k := 2) (n := 32) (Nat.le_of_ble_eq_true rfl) (Nat.le_of_ble_eq_true rfl) ?_
  exact z_vretI (ws' := wK cy (zad [h0, q1, q2]) (fun _ => 0) (fun _ => 0)) X hr hH [0, 1, 2] rfl rfl ⟨(zad [h0, q1, q2]), rfl, rfl⟩ dX0_init_20
set_option maxHeartbeats 4000000 in
set_option maxRecDepth 100000 in
theorem c_X7_init (l : Launch) (G : va_G) (cy : Nat → ClassId) (fu : Nat) (h0 : Nat) : zI l G cy yX7_init wsX7_init (zRI 1 0 0 20) [.ref h0] ([(h0, .inr (6, [.null, .null, .int 0, .int 0, .int 0, .int 0]))]) (fun w => ∃ qq : Nat → Nat, qq 0 = h0 ∧ w = wW cy qq (.null) (.null) 0 0 0 0) 0 0 := by
  refine zI.mk (cc := cX7_init) (nL := 1) (by decide) rfl rfl (Nat.le_of_ble_eq_true rfl) ?_
  intro p e s m below meth c A ls X hr hnm hH hl
  replace X : zX p s m [.ref h0].toArray meth c RX7 cX7_init 1 wsX7_init G cy A := X
  have hx := X.1.1
  have hb := X.1.2.1
  replace hl : lv_has ls 1 [(0, .ref h0)] := hl
  refine lv_aload_n (pc := 0) hx hb dX7_init_0 rfl (lv_at hl 0 rfl) ?_
  refine z_oi (pc := 1) X (List.mem_of_getElem? (i := 1) rfl) (List.mem_of_getElem? (i := 2) rfl) (List.mem_of_getElem? (i := 3) rfl) hl.1 (Nat.le_of_ble_eq_true rfl) (Nat.le_of_ble_eq_true rfl) (Nat.le_of_ble_eq_true rfl) dX7_init_1 ?_
  refine W.widen (k := 0) (n := 0) (Nat.le_of_ble_eq_true rfl) (Nat.le_of_ble_eq_true rfl) ?_
  exact z_vretI (ws' := wW cy (zad [h0]) (.null) (.null) 0 0 0 0) X hr hH [0] rfl rfl ⟨(zad [h0]), rfl, rfl⟩ dX7_init_4
set_option maxHeartbeats 4000000 in
set_option maxRecDepth 100000 in
theorem c_X5_init (l : Launch) (G : va_G) (cy : Nat → ClassId) (fu : Nat) (h0 : Nat) : zI l G cy yX5_init wsX5_init (zRI 1 3 520 20) [.ref h0] ([(h0, .inr (4, [.null, .null, .null, .int 0, .int 0]))]) (fun w => ∃ qq : Nat → Nat, qq 0 = h0 ∧ w = wR cy qq (fun _ => 0) (fun _ => 0) (fun _ => 0) 0 0) 3 520 := by
  refine zI.mk (cc := cX5_init) (nL := 1) (by decide) rfl rfl (Nat.le_of_ble_eq_true rfl) ?_
  intro p e s m below meth c A ls X hr hnm hH hl
  replace X : zX p s m [.ref h0].toArray meth c RX5 cX5_init 1 wsX5_init G cy A := X
  have hx := X.1.1
  have hb := X.1.2.1
  replace hl : lv_has ls 1 [(0, .ref h0)] := hl
  refine lv_aload_n (pc := 0) hx hb dX5_init_0 rfl (lv_at hl 0 rfl) ?_
  refine z_oi (pc := 1) X (List.mem_of_getElem? (i := 1) rfl) (List.mem_of_getElem? (i := 2) rfl) (List.mem_of_getElem? (i := 3) rfl) hl.1 (Nat.le_of_ble_eq_true rfl) (Nat.le_of_ble_eq_true rfl) (Nat.le_of_ble_eq_true rfl) dX5_init_1 ?_
  refine lv_aload_n (pc := 4) hx hb dX5_init_4 rfl (lv_at hl 0 rfl) ?_
  refine lv_bipush (v := 8) (pc := 5) hx hb dX5_init_5 zk_b8 ?_
  refine z_newa (pc := 7) (k := 0) (ty := .int) (N := 8) (a0 := (8, .inl (fun _ => 0))) X hH rfl (fun C h => by cases h) (List.mem_of_getElem? (i := 4) rfl) rfl (zha_i 8) (zhn (N := 8) zl8 (by omega)) (zhc (N := 8) zl8 (by omega)) (zby_i (by omega)) (Nat.le_of_ble_eq_true rfl) (Nat.le_of_ble_eq_true rfl) dX5_init_7 (fun q1 H hH => ?_)
  refine W.widen (k := 1) (n := 8) (Nat.le_of_ble_eq_true rfl) (Nat.le_of_ble_eq_true rfl) ?_
  replace hH : zH G A s.heap ([(h0, .inr (4, [.null, .null, .null, .int 0, .int 0]))] ++ [(q1, .inl (cy 0, 8, .inl (fun _ => 0)))]) H _ := hH
  refine z_putF (pc := 9) (v := .ref q1) (ws' := [(h0, .inr (4, [.ref q1, .null, .null, .int 0, .int 0]))] ++ [(q1, .inl (cy 0, 8, .inl (fun _ => 0)))]) X hnm inX5_init_X5 tyX5 tyX5_ok nmX5 hH 0 rfl rfl 0 rfl (List.mem_of_getElem? (i := 5) rfl) rfl rfl rfl rfl rfl rfl dX5_init_9 (fun H locs hH => ?_)
  refine lv_aload_n (pc := 12) hx hb dX5_init_12 rfl (lv_at hl 0 rfl) ?_
  refine lv_sipush (v := 256) (pc := 13) hx hb dX5_init_13 zk_s256 ?_
  refine z_newa (pc := 16) (k := 0) (ty := .int) (N := 256) (a0 := (256, .inl (fun _ => 0))) X hH rfl (fun C h => by cases h) (List.mem_of_getElem? (i := 4) rfl) rfl (zha_i 256) (zhn (N := 256) zl256 (by omega)) (zhc (N := 256) zl256 (by omega)) (zby_i (by omega)) (Nat.le_of_ble_eq_true rfl) (Nat.le_of_ble_eq_true rfl) dX5_init_16 (fun q2 H hH => ?_)
  refine W.widen (k := 2) (n := 264) (Nat.le_of_ble_eq_true rfl) (Nat.le_of_ble_eq_true rfl) ?_
  replace hH : zH G A s.heap ([(h0, .inr (4, [.ref q1, .null, .null, .int 0, .int 0]))] ++ [(q1, .inl (cy 0, 8, .inl (fun _ => 0)))] ++ [(q2, .inl (cy 0, 256, .inl (fun _ => 0)))]) H _ := hH
  refine z_putF (pc := 18) (v := .ref q2) (ws' := [(h0, .inr (4, [.ref q1, .ref q2, .null, .int 0, .int 0]))] ++ [(q1, .inl (cy 0, 8, .inl (fun _ => 0)))] ++ [(q2, .inl (cy 0, 256, .inl (fun _ => 0)))]) X hnm inX5_init_X5 tyX5 tyX5_ok nmX5 hH 0 rfl rfl 1 rfl (List.mem_of_getElem? (i := 6) rfl) rfl rfl rfl rfl rfl rfl dX5_init_18 (fun H locs hH => ?_)
  refine lv_aload_n (pc := 21) hx hb dX5_init_21 rfl (lv_at hl 0 rfl) ?_
  refine lv_sipush (v := 256) (pc := 22) hx hb dX5_init_22 zk_s256 ?_
  refine z_newa (pc := 25) (k := 2) (ty := .boolean) (N := 256) (a0 := (256, .inl (fun _ => 0))) X hH rfl (fun C h => by cases h) (List.mem_of_getElem? (i := 7) rfl) rfl (zha_z 256) (zhn (N := 256) zl256 (by omega)) (zhc (N := 256) zl256 (by omega)) (zby_z (by omega)) (Nat.le_of_ble_eq_true rfl) (Nat.le_of_ble_eq_true rfl) dX5_init_25 (fun q3 H hH => ?_)
  refine W.widen (k := 3) (n := 520) (Nat.le_of_ble_eq_true rfl) (Nat.le_of_ble_eq_true rfl) ?_
  replace hH : zH G A s.heap ([(h0, .inr (4, [.ref q1, .ref q2, .null, .int 0, .int 0]))] ++ [(q1, .inl (cy 0, 8, .inl (fun _ => 0)))] ++ [(q2, .inl (cy 0, 256, .inl (fun _ => 0)))] ++ [(q3, .inl (cy 2, 256, .inl (fun _ => 0)))]) H _ := hH
  refine z_putF (pc := 27) (v := .ref q3) (ws' := [(h0, .inr (4, [.ref q1, .ref q2, .ref q3, .int 0, .int 0]))] ++ [(q1, .inl (cy 0, 8, .inl (fun _ => 0)))] ++ [(q2, .inl (cy 0, 256, .inl (fun _ => 0)))] ++ [(q3, .inl (cy 2, 256, .inl (fun _ => 0)))]) X hnm inX5_init_X5 tyX5 tyX5_ok nmX5 hH 0 rfl rfl 2 rfl (List.mem_of_getElem? (i := 8) rfl) rfl rfl rfl rfl rfl rfl dX5_init_27 (fun H locs hH => ?_)
  refine W.widen (k := 3) (n := 520) (Nat.le_of_ble_eq_true rfl) (Nat.le_of_ble_eq_true rfl) ?_
  exact z_vretI (ws' := wR cy (zad [h0, q1, q2, q3]) (fun _ => 0) (fun _ => 0) (fun _ => 0) 0 0) X hr hH [0, 1, 2, 3] rfl rfl ⟨(zad [h0, q1, q2, q3]), rfl, rfl⟩ dX5_init_30
set_option maxHeartbeats 4000000 in
set_option maxRecDepth 100000 in
theorem c_X8_init (l : Launch) (G : va_G) (cy : Nat → ClassId) (fu : Nat) (h0 : Nat) (rr : (Nat → Int32) × (Nat → Int32) × (Nat → Int32) × (Nat → Int32) × (Nat → Int32) × Int32 × Int32 × Int32) (hrr : f_X3_begin fu (fun _ => 0) (fun _ => 0) (fun _ => 0) (fun _ => 0) (fun _ => 0) 2 = some rr) : zI l G cy yX8_init wsX8_init (zRI 3 27 5097 65) [.ref h0] ([(h0, .inr (7, [.null, .null, .null, .null, .null, .null, .null, .null]))]) (fun w => ∃ tq hq nq sq kq wq rq pq dq : Nat → Nat, tq 0 = h0 ∧ w = wS cy tq hq nq sq kq wq rq (.ref (pq 0)) (.ref (dq 0)) ++ wH cy hq rr.1 rr.2.1 rr.2.2.1 rr.2.2.2.1 rr.2.2.2.2.1 (fun _ => 0) rr.2.2.2.2.2.1 rr.2.2.2.2.2.2.1 rr.2.2.2.2.2.2.2 ++ wE cy nq (fun _ => 0) (fun _ => 0) ++ wG cy sq (fun _ => 0) (fun _ => 0) (fun _ => 0) (fun _ => 0) 0 ++ wK cy kq (fun _ => 0) (fun _ => 0) ++ wW cy wq (.null) (.null) 0 0 0 0 ++ wR cy rq (fun _ => 0) (fun _ => 0) (fun _ => 0) 0 0 ++ wP cy pq (fun _ => 0) 0 ++ wP cy dq (fun _ => 0) 0) 27 5097 := by
  refine zI.mk (cc := cX8_init) (nL := 1) (by decide) rfl rfl (Nat.le_of_ble_eq_true rfl) ?_
  intro p e s m below meth c A ls X hr hnm hH hl
  replace X : zX p s m [.ref h0].toArray meth c RX8 cX8_init 1 wsX8_init G cy A := X
  have hx := X.1.1
  have hb := X.1.2.1
  replace hl : lv_has ls 1 [(0, .ref h0)] := hl
  refine lv_aload_n (pc := 0) hx hb dX8_init_0 rfl (lv_at hl 0 rfl) ?_
  refine z_oi (pc := 1) X (List.mem_of_getElem? (i := 1) rfl) (List.mem_of_getElem? (i := 2) rfl) (List.mem_of_getElem? (i := 3) rfl) hl.1 (Nat.le_of_ble_eq_true rfl) (Nat.le_of_ble_eq_true rfl) (Nat.le_of_ble_eq_true rfl) dX8_init_1 ?_
  refine lv_aload_n (pc := 4) hx hb dX8_init_4 rfl (lv_at hl 0 rfl) ?_
  refine z_new (pc := 5) (ci := 2) (fs := [.null, .null, .null, .null, .null, .null, .int 0, .int 0, .int 0]) (N := 9) X inX8_init_X3 tyX3 tyX3_ok (List.mem_of_getElem? (i := 4) rfl) (List.mem_of_getElem? (i := 5) rfl) (List.mem_of_getElem? (i := 6) rfl) hH rfl (fun j hj => by rcases (show j = 0 ∨ j = 1 ∨ j = 2 ∨ j = 3 ∨ j = 4 ∨ j = 5 ∨ j = 6 ∨ j = 7 ∨ j = 8 by omega) with rfl | rfl | rfl | rfl | rfl | rfl | rfl | rfl | rfl <;> rfl) (Nat.le_of_ble_eq_true rfl) (Nat.le_of_ble_eq_true rfl) dX8_init_5 (fun q1 H hH => ?_)
  refine W.widen (k := 1) (n := 9) (Nat.le_of_ble_eq_true rfl) (Nat.le_of_ble_eq_true rfl) ?_
  replace hH : zH G A s.heap ([(h0, .inr (7, [.null, .null, .null, .null, .null, .null, .null, .null]))] ++ [(q1, .inr (2, [.null, .null, .null, .null, .null, .null, .int 0, .int 0, .int 0]))]) H _ := hH
  refine lv_dup (pc := 8) hx hb dX8_init_8 rfl ?_
  refine zcI (pc := 9) (As := []) (rest := [.ref q1, .ref h0]) (n := 0) (wr := [(h0, .inr (7, [.null, .null, .null, .null, .null, .null, .null, .null]))]) X (c_X3_init l G cy fu q1 rr hrr) hH [1] [0] rfl rfl rfl ggX8_init_X3_init rfl ⟨rfl, rfl⟩ (List.mem_of_getElem? (i := 6) rfl) (List.mem_of_getElem? (i := 33) rfl) (List.mem_of_getElem? (i := 34) rfl) rfl (by decide +kernel) ⟨Nat.le_of_ble_eq_true rfl, Nat.le_of_ble_eq_true rfl⟩ rfl rfl hl.1 (Nat.le_of_ble_eq_true rfl) ⟨Nat.le_of_ble_eq_true rfl, Nat.le_of_ble_eq_true rfl⟩ dX8_init_9 (fun w H locs hw hHn => ?_)
  obtain ⟨hq, hq0, rfl⟩ := hw
  subst hq0
  refine W.widen (k := 7) (n := 585) (Nat.le_of_ble_eq_true rfl) (Nat.le_of_ble_eq_true rfl) ?_
  have hH : zH G A s.heap ([(h0, .inr (7, [.null, .null, .null, .null, .null, .null, .null, .null]))] ++ wH cy hq rr.1 rr.2.1 rr.2.2.1 rr.2.2.2.1 rr.2.2.2.2.1 (fun _ => 0) rr.2.2.2.2.2.1 rr.2.2.2.2.2.2.1 rr.2.2.2.2.2.2.2) H locs := hHn
  refine z_putF (pc := 12) (v := .ref (hq 0)) (ws' := [(h0, .inr (7, [.ref (hq 0), .null, .null, .null, .null, .null, .null, .null]))] ++ wH cy hq rr.1 rr.2.1 rr.2.2.1 rr.2.2.2.1 rr.2.2.2.2.1 (fun _ => 0) rr.2.2.2.2.2.1 rr.2.2.2.2.2.2.1 rr.2.2.2.2.2.2.2) X hnm inX8_init_X8 tyX8 tyX8_ok nmX8 hH 0 rfl rfl 0 rfl (List.mem_of_getElem? (i := 7) rfl) rfl rfl rfl rfl rfl rfl dX8_init_12 (fun H locs hH => ?_)
  refine lv_aload_n (pc := 15) hx hb dX8_init_15 rfl (lv_at hl 0 rfl) ?_
  refine z_new (pc := 16) (ci := 1) (fs := [.null, .null]) (N := 2) X inX8_init_X2 tyX2 tyX2_ok (List.mem_of_getElem? (i := 8) rfl) (List.mem_of_getElem? (i := 9) rfl) (List.mem_of_getElem? (i := 10) rfl) hH rfl (fun j hj => by rcases (show j = 0 ∨ j = 1 by omega) with rfl | rfl <;> rfl) (Nat.le_of_ble_eq_true rfl) (Nat.le_of_ble_eq_true rfl) dX8_init_16 (fun q3 H hH => ?_)
  refine W.widen (k := 8) (n := 587) (Nat.le_of_ble_eq_true rfl) (Nat.le_of_ble_eq_true rfl) ?_
  replace hH : zH G A s.heap ([(h0, .inr (7, [.ref (hq 0), .null, .null, .null, .null, .null, .null, .null]))] ++ wH cy hq rr.1 rr.2.1 rr.2.2.1 rr.2.2.2.1 rr.2.2.2.2.1 (fun _ => 0) rr.2.2.2.2.2.1 rr.2.2.2.2.2.2.1 rr.2.2.2.2.2.2.2 ++ [(q3, .inr (1, [.null, .null]))]) H _ := hH
  refine lv_dup (pc := 19) hx hb dX8_init_19 rfl ?_
  refine zcIN (pc := 20) (As := []) (rest := [.ref q3, .ref h0]) (n := 0) (wr := [(h0, .inr (7, [.ref (hq 0), .null, .null, .null, .null, .null, .null, .null]))] ++ wH cy hq rr.1 rr.2.1 rr.2.2.1 rr.2.2.2.1 rr.2.2.2.2.1 (fun _ => 0) rr.2.2.2.2.2.1 rr.2.2.2.2.2.2.1 rr.2.2.2.2.2.2.2) (host := "SumsToAll") X (c_X2_init l G cy fu q3) hH [8] [0, 1, 2, 3, 4, 5, 6, 7] rfl rfl rfl gX8_init_X2_init_n18 rfl ⟨rfl, rfl⟩ (List.mem_of_getElem? (i := 0) rfl) (List.mem_of_getElem? (i := 10) rfl) (List.mem_of_getElem? (i := 60) rfl) rfl (by decide +kernel) ⟨Nat.le_of_ble_eq_true rfl, Nat.le_of_ble_eq_true rfl⟩ rfl rfl hl.1 (Nat.le_of_ble_eq_true rfl) ⟨Nat.le_of_ble_eq_true rfl, Nat.le_of_ble_eq_true rfl⟩ dX8_init_20 (fun w H locs hw hHn => ?_)
  obtain ⟨nq, hq0, rfl⟩ := hw
  subst hq0
  refine W.widen (k := 10) (n := 1099) (Nat.le_of_ble_eq_true rfl) (Nat.le_of_ble_eq_true rfl) ?_
  have hH : zH G A s.heap ([(h0, .inr (7, [.ref (hq 0), .null, .null, .null, .null, .null, .null, .null]))] ++ wH cy hq rr.1 rr.2.1 rr.2.2.1 rr.2.2.2.1 rr.2.2.2.2.1 (fun _ => 0) rr.2.2.2.2.2.1 rr.2.2.2.2.2.2.1 rr.2.2.2.2.2.2.2 ++ wE cy nq (fun _ => 0) (fun _ => 0)) H locs := hHn
  refine z_putF (pc := 23) (v := .ref (nq 0)) (ws' := [(h0, .inr (7, [.ref (hq 0), .ref (nq 0), .null, .null, .null, .null, .null, .null]))] ++ wH cy hq rr.1 rr.2.1 rr.2.2.1 rr.2.2.2.1 rr.2.2.2.2.1 (fun _ => 0) rr.2.2.2.2.2.1 rr.2.2.2.2.2.2.1 rr.2.2.2.2.2.2.2 ++ wE cy nq (fun _ => 0) (fun _ => 0)) X hnm inX8_init_X8 tyX8 tyX8_ok nmX8 hH 0 rfl rfl 1 rfl (List.mem_of_getElem? (i := 11) rfl) rfl rfl rfl rfl rfl rfl dX8_init_23 (fun H locs hH => ?_)
  refine lv_aload_n (pc := 26) hx hb dX8_init_26 rfl (lv_at hl 0 rfl) ?_
  refine z_new (pc := 27) (ci := 5) (fs := [.null, .null, .null, .null, .int 0]) (N := 5) X inX8_init_X6 tyX6 tyX6_ok (List.mem_of_getElem? (i := 12) rfl) (List.mem_of_getElem? (i := 13) rfl) (List.mem_of_getElem? (i := 14) rfl) hH rfl (fun j hj => by rcases (show j = 0 ∨ j = 1 ∨ j = 2 ∨ j = 3 ∨ j = 4 by omega) with rfl | rfl | rfl | rfl | rfl <;> rfl) (Nat.le_of_ble_eq_true rfl) (Nat.le_of_ble_eq_true rfl) dX8_init_27 (fun q5 H hH => ?_)
  refine W.widen (k := 11) (n := 1104) (Nat.le_of_ble_eq_true rfl) (Nat.le_of_ble_eq_true rfl) ?_
  replace hH : zH G A s.heap ([(h0, .inr (7, [.ref (hq 0), .ref (nq 0), .null, .null, .null, .null, .null, .null]))] ++ wH cy hq rr.1 rr.2.1 rr.2.2.1 rr.2.2.2.1 rr.2.2.2.2.1 (fun _ => 0) rr.2.2.2.2.2.1 rr.2.2.2.2.2.2.1 rr.2.2.2.2.2.2.2 ++ wE cy nq (fun _ => 0) (fun _ => 0) ++ [(q5, .inr (5, [.null, .null, .null, .null, .int 0]))]) H _ := hH
  refine lv_dup (pc := 30) hx hb dX8_init_30 rfl ?_
  refine zcIN (pc := 31) (As := []) (rest := [.ref q5, .ref h0]) (n := 0) (wr := [(h0, .inr (7, [.ref (hq 0), .ref (nq 0), .null, .null, .null, .null, .null, .null]))] ++ wH cy hq rr.1 rr.2.1 rr.2.2.1 rr.2.2.2.1 rr.2.2.2.2.1 (fun _ => 0) rr.2.2.2.2.2.1 rr.2.2.2.2.2.2.1 rr.2.2.2.2.2.2.2 ++ wE cy nq (fun _ => 0) (fun _ => 0)) (host := "SumsToAll") X (c_X6_init l G cy fu q5) hH [11] [0, 1, 2, 3, 4, 5, 6, 7, 8, 9, 10] rfl rfl rfl gX8_init_X6_init_n25 rfl ⟨rfl, rfl⟩ (List.mem_of_getElem? (i := 1) rfl) (List.mem_of_getElem? (i := 14) rfl) (List.mem_of_getElem? (i := 68) rfl) rfl (by decide +kernel) ⟨Nat.le_of_ble_eq_true rfl, Nat.le_of_ble_eq_true rfl⟩ rfl rfl hl.1 (Nat.le_of_ble_eq_true rfl) ⟨Nat.le_of_ble_eq_true rfl, Nat.le_of_ble_eq_true rfl⟩ dX8_init_31 (fun w H locs hw hHn => ?_)
  obtain ⟨sq, hq0, rfl⟩ := hw
  subst hq0
  refine W.widen (k := 15) (n := 2128) (Nat.le_of_ble_eq_true rfl) (Nat.le_of_ble_eq_true rfl) ?_
  have hH : zH G A s.heap ([(h0, .inr (7, [.ref (hq 0), .ref (nq 0), .null, .null, .null, .null, .null, .null]))] ++ wH cy hq rr.1 rr.2.1 rr.2.2.1 rr.2.2.2.1 rr.2.2.2.2.1 (fun _ => 0) rr.2.2.2.2.2.1 rr.2.2.2.2.2.2.1 rr.2.2.2.2.2.2.2 ++ wE cy nq (fun _ => 0) (fun _ => 0) ++ wG cy sq (fun _ => 0) (fun _ => 0) (fun _ => 0) (fun _ => 0) 0) H locs := hHn
  refine z_putF (pc := 34) (v := .ref (sq 0)) (ws' := [(h0, .inr (7, [.ref (hq 0), .ref (nq 0), .ref (sq 0), .null, .null, .null, .null, .null]))] ++ wH cy hq rr.1 rr.2.1 rr.2.2.1 rr.2.2.2.1 rr.2.2.2.2.1 (fun _ => 0) rr.2.2.2.2.2.1 rr.2.2.2.2.2.2.1 rr.2.2.2.2.2.2.2 ++ wE cy nq (fun _ => 0) (fun _ => 0) ++ wG cy sq (fun _ => 0) (fun _ => 0) (fun _ => 0) (fun _ => 0) 0) X hnm inX8_init_X8 tyX8 tyX8_ok nmX8 hH 0 rfl rfl 2 rfl (List.mem_of_getElem? (i := 15) rfl) rfl rfl rfl rfl rfl rfl dX8_init_34 (fun H locs hH => ?_)
  refine lv_aload_n (pc := 37) hx hb dX8_init_37 rfl (lv_at hl 0 rfl) ?_
  refine z_new (pc := 38) (ci := 0) (fs := [.null, .null]) (N := 2) X inX8_init_X0 tyX0 tyX0_ok (List.mem_of_getElem? (i := 16) rfl) (List.mem_of_getElem? (i := 17) rfl) (List.mem_of_getElem? (i := 18) rfl) hH rfl (fun j hj => by rcases (show j = 0 ∨ j = 1 by omega) with rfl | rfl <;> rfl) (Nat.le_of_ble_eq_true rfl) (Nat.le_of_ble_eq_true rfl) dX8_init_38 (fun q7 H hH => ?_)
  refine W.widen (k := 16) (n := 2130) (Nat.le_of_ble_eq_true rfl) (Nat.le_of_ble_eq_true rfl) ?_
  replace hH : zH G A s.heap ([(h0, .inr (7, [.ref (hq 0), .ref (nq 0), .ref (sq 0), .null, .null, .null, .null, .null]))] ++ wH cy hq rr.1 rr.2.1 rr.2.2.1 rr.2.2.2.1 rr.2.2.2.2.1 (fun _ => 0) rr.2.2.2.2.2.1 rr.2.2.2.2.2.2.1 rr.2.2.2.2.2.2.2 ++ wE cy nq (fun _ => 0) (fun _ => 0) ++ wG cy sq (fun _ => 0) (fun _ => 0) (fun _ => 0) (fun _ => 0) 0 ++ [(q7, .inr (0, [.null, .null]))]) H _ := hH
  refine lv_dup (pc := 41) hx hb dX8_init_41 rfl ?_
  refine zcIN (pc := 42) (As := []) (rest := [.ref q7, .ref h0]) (n := 0) (wr := [(h0, .inr (7, [.ref (hq 0), .ref (nq 0), .ref (sq 0), .null, .null, .null, .null, .null]))] ++ wH cy hq rr.1 rr.2.1 rr.2.2.1 rr.2.2.2.1 rr.2.2.2.2.1 (fun _ => 0) rr.2.2.2.2.2.1 rr.2.2.2.2.2.2.1 rr.2.2.2.2.2.2.2 ++ wE cy nq (fun _ => 0) (fun _ => 0) ++ wG cy sq (fun _ => 0) (fun _ => 0) (fun _ => 0) (fun _ => 0) 0) (host := "SumsToAll") X (c_X0_init l G cy fu q7) hH [16] [0, 1, 2, 3, 4, 5, 6, 7, 8, 9, 10, 11, 12, 13, 14, 15] rfl rfl rfl gX8_init_X0_init_n32 rfl ⟨rfl, rfl⟩ (List.mem_of_getElem? (i := 2) rfl) (List.mem_of_getElem? (i := 18) rfl) (List.mem_of_getElem? (i := 75) rfl) rfl (by decide +kernel) ⟨Nat.le_of_ble_eq_true rfl, Nat.le_of_ble_eq_true rfl⟩ rfl rfl hl.1 (Nat.le_of_ble_eq_true rfl) ⟨Nat.le_of_ble_eq_true rfl, Nat.le_of_ble_eq_true rfl⟩ dX8_init_42 (fun w H locs hw hHn => ?_)
  obtain ⟨kq, hq0, rfl⟩ := hw
  subst hq0
  refine W.widen (k := 18) (n := 2162) (Nat.le_of_ble_eq_true rfl) (Nat.le_of_ble_eq_true rfl) ?_
  have hH : zH G A s.heap ([(h0, .inr (7, [.ref (hq 0), .ref (nq 0), .ref (sq 0), .null, .null, .null, .null, .null]))] ++ wH cy hq rr.1 rr.2.1 rr.2.2.1 rr.2.2.2.1 rr.2.2.2.2.1 (fun _ => 0) rr.2.2.2.2.2.1 rr.2.2.2.2.2.2.1 rr.2.2.2.2.2.2.2 ++ wE cy nq (fun _ => 0) (fun _ => 0) ++ wG cy sq (fun _ => 0) (fun _ => 0) (fun _ => 0) (fun _ => 0) 0 ++ wK cy kq (fun _ => 0) (fun _ => 0)) H locs := hHn
  refine z_putF (pc := 45) (v := .ref (kq 0)) (ws' := [(h0, .inr (7, [.ref (hq 0), .ref (nq 0), .ref (sq 0), .ref (kq 0), .null, .null, .null, .null]))] ++ wH cy hq rr.1 rr.2.1 rr.2.2.1 rr.2.2.2.1 rr.2.2.2.2.1 (fun _ => 0) rr.2.2.2.2.2.1 rr.2.2.2.2.2.2.1 rr.2.2.2.2.2.2.2 ++ wE cy nq (fun _ => 0) (fun _ => 0) ++ wG cy sq (fun _ => 0) (fun _ => 0) (fun _ => 0) (fun _ => 0) 0 ++ wK cy kq (fun _ => 0) (fun _ => 0)) X hnm inX8_init_X8 tyX8 tyX8_ok nmX8 hH 0 rfl rfl 3 rfl (List.mem_of_getElem? (i := 19) rfl) rfl rfl rfl rfl rfl rfl dX8_init_45 (fun H locs hH => ?_)
  refine lv_aload_n (pc := 48) hx hb dX8_init_48 rfl (lv_at hl 0 rfl) ?_
  refine z_new (pc := 49) (ci := 6) (fs := [.null, .null, .int 0, .int 0, .int 0, .int 0]) (N := 6) X inX8_init_X7 tyX7 tyX7_ok (List.mem_of_getElem? (i := 20) rfl) (List.mem_of_getElem? (i := 21) rfl) (List.mem_of_getElem? (i := 22) rfl) hH rfl (fun j hj => by rcases (show j = 0 ∨ j = 1 ∨ j = 2 ∨ j = 3 ∨ j = 4 ∨ j = 5 by omega) with rfl | rfl | rfl | rfl | rfl | rfl <;> rfl) (Nat.le_of_ble_eq_true rfl) (Nat.le_of_ble_eq_true rfl) dX8_init_49 (fun q9 H hH => ?_)
  refine W.widen (k := 19) (n := 2168) (Nat.le_of_ble_eq_true rfl) (Nat.le_of_ble_eq_true rfl) ?_
  replace hH : zH G A s.heap ([(h0, .inr (7, [.ref (hq 0), .ref (nq 0), .ref (sq 0), .ref (kq 0), .null, .null, .null, .null]))] ++ wH cy hq rr.1 rr.2.1 rr.2.2.1 rr.2.2.2.1 rr.2.2.2.2.1 (fun _ => 0) rr.2.2.2.2.2.1 rr.2.2.2.2.2.2.1 rr.2.2.2.2.2.2.2 ++ wE cy nq (fun _ => 0) (fun _ => 0) ++ wG cy sq (fun _ => 0) (fun _ => 0) (fun _ => 0) (fun _ => 0) 0 ++ wK cy kq (fun _ => 0) (fun _ => 0) ++ [(q9, .inr (6, [.null, .null, .int 0, .int 0, .int 0, .int 0]))]) H _ := hH
  refine lv_dup (pc := 52) hx hb dX8_init_52 rfl ?_
  refine zcIN (pc := 53) (As := []) (rest := [.ref q9, .ref h0]) (n := 0) (wr := [(h0, .inr (7, [.ref (hq 0), .ref (nq 0), .ref (sq 0), .ref (kq 0), .null, .null, .null, .null]))] ++ wH cy hq rr.1 rr.2.1 rr.2.2.1 rr.2.2.2.1 rr.2.2.2.2.1 (fun _ => 0) rr.2.2.2.2.2.1 rr.2.2.2.2.2.2.1 rr.2.2.2.2.2.2.2 ++ wE cy nq (fun _ => 0) (fun _ => 0) ++ wG cy sq (fun _ => 0) (fun _ => 0) (fun _ => 0) (fun _ => 0) 0 ++ wK cy kq (fun _ => 0) (fun _ => 0)) (host := "SumsToAll") X (c_X7_init l G cy fu q9) hH [19] [0, 1, 2, 3, 4, 5, 6, 7, 8, 9, 10, 11, 12, 13, 14, 15, 16, 17, 18] rfl rfl rfl gX8_init_X7_init_n39 rfl ⟨rfl, rfl⟩ (List.mem_of_getElem? (i := 3) rfl) (List.mem_of_getElem? (i := 22) rfl) (List.mem_of_getElem? (i := 80) rfl) rfl (by decide +kernel) ⟨Nat.le_of_ble_eq_true rfl, Nat.le_of_ble_eq_true rfl⟩ rfl rfl hl.1 (Nat.le_of_ble_eq_true rfl) ⟨Nat.le_of_ble_eq_true rfl, Nat.le_of_ble_eq_true rfl⟩ dX8_init_53 (fun w H locs hw hHn => ?_)
  obtain ⟨wq, hq0, rfl⟩ := hw
  subst hq0
  refine W.widen (k := 19) (n := 2168) (Nat.le_of_ble_eq_true rfl) (Nat.le_of_ble_eq_true rfl) ?_
  have hH : zH G A s.heap ([(h0, .inr (7, [.ref (hq 0), .ref (nq 0), .ref (sq 0), .ref (kq 0), .null, .null, .null, .null]))] ++ wH cy hq rr.1 rr.2.1 rr.2.2.1 rr.2.2.2.1 rr.2.2.2.2.1 (fun _ => 0) rr.2.2.2.2.2.1 rr.2.2.2.2.2.2.1 rr.2.2.2.2.2.2.2 ++ wE cy nq (fun _ => 0) (fun _ => 0) ++ wG cy sq (fun _ => 0) (fun _ => 0) (fun _ => 0) (fun _ => 0) 0 ++ wK cy kq (fun _ => 0) (fun _ => 0) ++ wW cy wq (.null) (.null) 0 0 0 0) H locs := hHn
  refine z_putF (pc := 56) (v := .ref (wq 0)) (ws' := [(h0, .inr (7, [.ref (hq 0), .ref (nq 0), .ref (sq 0), .ref (kq 0), .ref (wq 0), .null, .null, .null]))] ++ wH cy hq rr.1 rr.2.1 rr.2.2.1 rr.2.2.2.1 rr.2.2.2.2.1 (fun _ => 0) rr.2.2.2.2.2.1 rr.2.2.2.2.2.2.1 rr.2.2.2.2.2.2.2 ++ wE cy nq (fun _ => 0) (fun _ => 0) ++ wG cy sq (fun _ => 0) (fun _ => 0) (fun _ => 0) (fun _ => 0) 0 ++ wK cy kq (fun _ => 0) (fun _ => 0) ++ wW cy wq (.null) (.null) 0 0 0 0) X hnm inX8_init_X8 tyX8 tyX8_ok nmX8 hH 0 rfl rfl 4 rfl (List.mem_of_getElem? (i := 23) rfl) rfl rfl rfl rfl rfl rfl dX8_init_56 (fun H locs hH => ?_)
  refine lv_aload_n (pc := 59) hx hb dX8_init_59 rfl (lv_at hl 0 rfl) ?_
  refine z_new (pc := 60) (ci := 4) (fs := [.null, .null, .null, .int 0, .int 0]) (N := 5) X inX8_init_X5 tyX5 tyX5_ok (List.mem_of_getElem? (i := 24) rfl) (List.mem_of_getElem? (i := 25) rfl) (List.mem_of_getElem? (i := 26) rfl) hH rfl (fun j hj => by rcases (show j = 0 ∨ j = 1 ∨ j = 2 ∨ j = 3 ∨ j = 4 by omega) with rfl | rfl | rfl | rfl | rfl <;> rfl) (Nat.le_of_ble_eq_true rfl) (Nat.le_of_ble_eq_true rfl) dX8_init_60 (fun q11 H hH => ?_)
  refine W.widen (k := 20) (n := 2173) (Nat.le_of_ble_eq_true rfl) (Nat.le_of_ble_eq_true rfl) ?_
  replace hH : zH G A s.heap ([(h0, .inr (7, [.ref (hq 0), .ref (nq 0), .ref (sq 0), .ref (kq 0), .ref (wq 0), .null, .null, .null]))] ++ wH cy hq rr.1 rr.2.1 rr.2.2.1 rr.2.2.2.1 rr.2.2.2.2.1 (fun _ => 0) rr.2.2.2.2.2.1 rr.2.2.2.2.2.2.1 rr.2.2.2.2.2.2.2 ++ wE cy nq (fun _ => 0) (fun _ => 0) ++ wG cy sq (fun _ => 0) (fun _ => 0) (fun _ => 0) (fun _ => 0) 0 ++ wK cy kq (fun _ => 0) (fun _ => 0) ++ wW cy wq (.null) (.null) 0 0 0 0 ++ [(q11, .inr (4, [.null, .null, .null, .int 0, .int 0]))]) H _ := hH
  refine lv_dup (pc := 63) hx hb dX8_init_63 rfl ?_
  refine zcIN (pc := 64) (As := []) (rest := [.ref q11, .ref h0]) (n := 0) (wr := [(h0, .inr (7, [.ref (hq 0), .ref (nq 0), .ref (sq 0), .ref (kq 0), .ref (wq 0), .null, .null, .null]))] ++ wH cy hq rr.1 rr.2.1 rr.2.2.1 rr.2.2.2.1 rr.2.2.2.2.1 (fun _ => 0) rr.2.2.2.2.2.1 rr.2.2.2.2.2.2.1 rr.2.2.2.2.2.2.2 ++ wE cy nq (fun _ => 0) (fun _ => 0) ++ wG cy sq (fun _ => 0) (fun _ => 0) (fun _ => 0) (fun _ => 0) 0 ++ wK cy kq (fun _ => 0) (fun _ => 0) ++ wW cy wq (.null) (.null) 0 0 0 0) (host := "SumsToAll") X (c_X5_init l G cy fu q11) hH [20] [0, 1, 2, 3, 4, 5, 6, 7, 8, 9, 10, 11, 12, 13, 14, 15, 16, 17, 18, 19] rfl rfl rfl gX8_init_X5_init_n46 rfl ⟨rfl, rfl⟩ (List.mem_of_getElem? (i := 4) rfl) (List.mem_of_getElem? (i := 26) rfl) (List.mem_of_getElem? (i := 83) rfl) rfl (by decide +kernel) ⟨Nat.le_of_ble_eq_true rfl, Nat.le_of_ble_eq_true rfl⟩ rfl rfl hl.1 (Nat.le_of_ble_eq_true rfl) ⟨Nat.le_of_ble_eq_true rfl, Nat.le_of_ble_eq_true rfl⟩ dX8_init_64 (fun w H locs hw hHn => ?_)
  obtain ⟨rq, hq0, rfl⟩ := hw
  subst hq0
  refine W.widen (k := 23) (n := 2693) (Nat.le_of_ble_eq_true rfl) (Nat.le_of_ble_eq_true rfl) ?_
  have hH : zH G A s.heap ([(h0, .inr (7, [.ref (hq 0), .ref (nq 0), .ref (sq 0), .ref (kq 0), .ref (wq 0), .null, .null, .null]))] ++ wH cy hq rr.1 rr.2.1 rr.2.2.1 rr.2.2.2.1 rr.2.2.2.2.1 (fun _ => 0) rr.2.2.2.2.2.1 rr.2.2.2.2.2.2.1 rr.2.2.2.2.2.2.2 ++ wE cy nq (fun _ => 0) (fun _ => 0) ++ wG cy sq (fun _ => 0) (fun _ => 0) (fun _ => 0) (fun _ => 0) 0 ++ wK cy kq (fun _ => 0) (fun _ => 0) ++ wW cy wq (.null) (.null) 0 0 0 0 ++ wR cy rq (fun _ => 0) (fun _ => 0) (fun _ => 0) 0 0) H locs := hHn
  refine z_putF (pc := 67) (v := .ref (rq 0)) (ws' := [(h0, .inr (7, [.ref (hq 0), .ref (nq 0), .ref (sq 0), .ref (kq 0), .ref (wq 0), .ref (rq 0), .null, .null]))] ++ wH cy hq rr.1 rr.2.1 rr.2.2.1 rr.2.2.2.1 rr.2.2.2.2.1 (fun _ => 0) rr.2.2.2.2.2.1 rr.2.2.2.2.2.2.1 rr.2.2.2.2.2.2.2 ++ wE cy nq (fun _ => 0) (fun _ => 0) ++ wG cy sq (fun _ => 0) (fun _ => 0) (fun _ => 0) (fun _ => 0) 0 ++ wK cy kq (fun _ => 0) (fun _ => 0) ++ wW cy wq (.null) (.null) 0 0 0 0 ++ wR cy rq (fun _ => 0) (fun _ => 0) (fun _ => 0) 0 0) X hnm inX8_init_X8 tyX8 tyX8_ok nmX8 hH 0 rfl rfl 5 rfl (List.mem_of_getElem? (i := 27) rfl) rfl rfl rfl rfl rfl rfl dX8_init_67 (fun H locs hH => ?_)
  refine lv_aload_n (pc := 70) hx hb dX8_init_70 rfl (lv_at hl 0 rfl) ?_
  refine z_new (pc := 71) (ci := 3) (fs := [.null, .int 0]) (N := 2) X inX8_init_X4 tyX4 tyX4_ok (List.mem_of_getElem? (i := 28) rfl) (List.mem_of_getElem? (i := 29) rfl) (List.mem_of_getElem? (i := 30) rfl) hH rfl (fun j hj => by rcases (show j = 0 ∨ j = 1 by omega) with rfl | rfl <;> rfl) (Nat.le_of_ble_eq_true rfl) (Nat.le_of_ble_eq_true rfl) dX8_init_71 (fun q13 H hH => ?_)
  refine W.widen (k := 24) (n := 2695) (Nat.le_of_ble_eq_true rfl) (Nat.le_of_ble_eq_true rfl) ?_
  replace hH : zH G A s.heap ([(h0, .inr (7, [.ref (hq 0), .ref (nq 0), .ref (sq 0), .ref (kq 0), .ref (wq 0), .ref (rq 0), .null, .null]))] ++ wH cy hq rr.1 rr.2.1 rr.2.2.1 rr.2.2.2.1 rr.2.2.2.2.1 (fun _ => 0) rr.2.2.2.2.2.1 rr.2.2.2.2.2.2.1 rr.2.2.2.2.2.2.2 ++ wE cy nq (fun _ => 0) (fun _ => 0) ++ wG cy sq (fun _ => 0) (fun _ => 0) (fun _ => 0) (fun _ => 0) 0 ++ wK cy kq (fun _ => 0) (fun _ => 0) ++ wW cy wq (.null) (.null) 0 0 0 0 ++ wR cy rq (fun _ => 0) (fun _ => 0) (fun _ => 0) 0 0 ++ [(q13, .inr (3, [.null, .int 0]))]) H _ := hH
  refine lv_dup (pc := 74) hx hb dX8_init_74 rfl ?_
  refine zcIN (pc := 75) (As := []) (rest := [.ref q13, .ref h0]) (n := 0) (wr := [(h0, .inr (7, [.ref (hq 0), .ref (nq 0), .ref (sq 0), .ref (kq 0), .ref (wq 0), .ref (rq 0), .null, .null]))] ++ wH cy hq rr.1 rr.2.1 rr.2.2.1 rr.2.2.2.1 rr.2.2.2.2.1 (fun _ => 0) rr.2.2.2.2.2.1 rr.2.2.2.2.2.2.1 rr.2.2.2.2.2.2.2 ++ wE cy nq (fun _ => 0) (fun _ => 0) ++ wG cy sq (fun _ => 0) (fun _ => 0) (fun _ => 0) (fun _ => 0) 0 ++ wK cy kq (fun _ => 0) (fun _ => 0) ++ wW cy wq (.null) (.null) 0 0 0 0 ++ wR cy rq (fun _ => 0) (fun _ => 0) (fun _ => 0) 0 0) (host := "SumsToAll") X (c_X4_init l G cy fu q13) hH [24] [0, 1, 2, 3, 4, 5, 6, 7, 8, 9, 10, 11, 12, 13, 14, 15, 16, 17, 18, 19, 20, 21, 22, 23] rfl rfl rfl gX8_init_X4_init_n53 rfl ⟨rfl, rfl⟩ (List.mem_of_getElem? (i := 5) rfl) (List.mem_of_getElem? (i := 30) rfl) (List.mem_of_getElem? (i := 89) rfl) rfl (by decide +kernel) ⟨Nat.le_of_ble_eq_true rfl, Nat.le_of_ble_eq_true rfl⟩ rfl rfl hl.1 (Nat.le_of_ble_eq_true rfl) ⟨Nat.le_of_ble_eq_true rfl, Nat.le_of_ble_eq_true rfl⟩ dX8_init_75 (fun w H locs hw hHn => ?_)
  obtain ⟨pq, hq0, rfl⟩ := hw
  subst hq0
  refine W.widen (k := 25) (n := 3895) (Nat.le_of_ble_eq_true rfl) (Nat.le_of_ble_eq_true rfl) ?_
  have hH : zH G A s.heap ([(h0, .inr (7, [.ref (hq 0), .ref (nq 0), .ref (sq 0), .ref (kq 0), .ref (wq 0), .ref (rq 0), .null, .null]))] ++ wH cy hq rr.1 rr.2.1 rr.2.2.1 rr.2.2.2.1 rr.2.2.2.2.1 (fun _ => 0) rr.2.2.2.2.2.1 rr.2.2.2.2.2.2.1 rr.2.2.2.2.2.2.2 ++ wE cy nq (fun _ => 0) (fun _ => 0) ++ wG cy sq (fun _ => 0) (fun _ => 0) (fun _ => 0) (fun _ => 0) 0 ++ wK cy kq (fun _ => 0) (fun _ => 0) ++ wW cy wq (.null) (.null) 0 0 0 0 ++ wR cy rq (fun _ => 0) (fun _ => 0) (fun _ => 0) 0 0 ++ wP cy pq (fun _ => 0) 0) H locs := hHn
  refine z_put (pc := 78) (v := .ref (pq 0)) (ws' := [(h0, .inr (7, [.ref (hq 0), .ref (nq 0), .ref (sq 0), .ref (kq 0), .ref (wq 0), .ref (rq 0), .ref (pq 0), .null]))] ++ wH cy hq rr.1 rr.2.1 rr.2.2.1 rr.2.2.2.1 rr.2.2.2.2.1 (fun _ => 0) rr.2.2.2.2.2.1 rr.2.2.2.2.2.2.1 rr.2.2.2.2.2.2.2 ++ wE cy nq (fun _ => 0) (fun _ => 0) ++ wG cy sq (fun _ => 0) (fun _ => 0) (fun _ => 0) (fun _ => 0) 0 ++ wK cy kq (fun _ => 0) (fun _ => 0) ++ wW cy wq (.null) (.null) 0 0 0 0 ++ wR cy rq (fun _ => 0) (fun _ => 0) (fun _ => 0) 0 0 ++ wP cy pq (fun _ => 0) 0) X inX8_init_X8 tyX8 tyX8_ok nmX8 hH 0 rfl rfl 6 rfl (List.mem_of_getElem? (i := 31) rfl) rfl rfl rfl rfl rfl dX8_init_78 (fun H locs hH => ?_)
  refine lv_aload_n (pc := 81) hx hb dX8_init_81 rfl (lv_at hl 0 rfl) ?_
  refine z_new (pc := 82) (ci := 3) (fs := [.null, .int 0]) (N := 2) X inX8_init_X4 tyX4 tyX4_ok (List.mem_of_getElem? (i := 28) rfl) (List.mem_of_getElem? (i := 29) rfl) (List.mem_of_getElem? (i := 30) rfl) hH rfl (fun j hj => by rcases (show j = 0 ∨ j = 1 by omega) with rfl | rfl <;> rfl) (Nat.le_of_ble_eq_true rfl) (Nat.le_of_ble_eq_true rfl) dX8_init_82 (fun q15 H hH => ?_)
  refine W.widen (k := 26) (n := 3897) (Nat.le_of_ble_eq_true rfl) (Nat.le_of_ble_eq_true rfl) ?_
  replace hH : zH G A s.heap ([(h0, .inr (7, [.ref (hq 0), .ref (nq 0), .ref (sq 0), .ref (kq 0), .ref (wq 0), .ref (rq 0), .ref (pq 0), .null]))] ++ wH cy hq rr.1 rr.2.1 rr.2.2.1 rr.2.2.2.1 rr.2.2.2.2.1 (fun _ => 0) rr.2.2.2.2.2.1 rr.2.2.2.2.2.2.1 rr.2.2.2.2.2.2.2 ++ wE cy nq (fun _ => 0) (fun _ => 0) ++ wG cy sq (fun _ => 0) (fun _ => 0) (fun _ => 0) (fun _ => 0) 0 ++ wK cy kq (fun _ => 0) (fun _ => 0) ++ wW cy wq (.null) (.null) 0 0 0 0 ++ wR cy rq (fun _ => 0) (fun _ => 0) (fun _ => 0) 0 0 ++ wP cy pq (fun _ => 0) 0 ++ [(q15, .inr (3, [.null, .int 0]))]) H _ := hH
  refine lv_dup (pc := 85) hx hb dX8_init_85 rfl ?_
  refine zcIN (pc := 86) (As := []) (rest := [.ref q15, .ref h0]) (n := 0) (wr := [(h0, .inr (7, [.ref (hq 0), .ref (nq 0), .ref (sq 0), .ref (kq 0), .ref (wq 0), .ref (rq 0), .ref (pq 0), .null]))] ++ wH cy hq rr.1 rr.2.1 rr.2.2.1 rr.2.2.2.1 rr.2.2.2.2.1 (fun _ => 0) rr.2.2.2.2.2.1 rr.2.2.2.2.2.2.1 rr.2.2.2.2.2.2.2 ++ wE cy nq (fun _ => 0) (fun _ => 0) ++ wG cy sq (fun _ => 0) (fun _ => 0) (fun _ => 0) (fun _ => 0) 0 ++ wK cy kq (fun _ => 0) (fun _ => 0) ++ wW cy wq (.null) (.null) 0 0 0 0 ++ wR cy rq (fun _ => 0) (fun _ => 0) (fun _ => 0) 0 0 ++ wP cy pq (fun _ => 0) 0) (host := "SumsToAll") X (c_X4_init l G cy fu q15) hH [26] [0, 1, 2, 3, 4, 5, 6, 7, 8, 9, 10, 11, 12, 13, 14, 15, 16, 17, 18, 19, 20, 21, 22, 23, 24, 25] rfl rfl rfl gX8_init_X4_init_n53 rfl ⟨rfl, rfl⟩ (List.mem_of_getElem? (i := 5) rfl) (List.mem_of_getElem? (i := 30) rfl) (List.mem_of_getElem? (i := 89) rfl) rfl (by decide +kernel) ⟨Nat.le_of_ble_eq_true rfl, Nat.le_of_ble_eq_true rfl⟩ rfl rfl hl.1 (Nat.le_of_ble_eq_true rfl) ⟨Nat.le_of_ble_eq_true rfl, Nat.le_of_ble_eq_true rfl⟩ dX8_init_86 (fun w H locs hw hHn => ?_)
  obtain ⟨dq, hq0, rfl⟩ := hw
  subst hq0
  refine W.widen (k := 27) (n := 5097) (Nat.le_of_ble_eq_true rfl) (Nat.le_of_ble_eq_true rfl) ?_
  have hH : zH G A s.heap ([(h0, .inr (7, [.ref (hq 0), .ref (nq 0), .ref (sq 0), .ref (kq 0), .ref (wq 0), .ref (rq 0), .ref (pq 0), .null]))] ++ wH cy hq rr.1 rr.2.1 rr.2.2.1 rr.2.2.2.1 rr.2.2.2.2.1 (fun _ => 0) rr.2.2.2.2.2.1 rr.2.2.2.2.2.2.1 rr.2.2.2.2.2.2.2 ++ wE cy nq (fun _ => 0) (fun _ => 0) ++ wG cy sq (fun _ => 0) (fun _ => 0) (fun _ => 0) (fun _ => 0) 0 ++ wK cy kq (fun _ => 0) (fun _ => 0) ++ wW cy wq (.null) (.null) 0 0 0 0 ++ wR cy rq (fun _ => 0) (fun _ => 0) (fun _ => 0) 0 0 ++ wP cy pq (fun _ => 0) 0 ++ wP cy dq (fun _ => 0) 0) H locs := hHn
  refine z_put (pc := 89) (v := .ref (dq 0)) (ws' := [(h0, .inr (7, [.ref (hq 0), .ref (nq 0), .ref (sq 0), .ref (kq 0), .ref (wq 0), .ref (rq 0), .ref (pq 0), .ref (dq 0)]))] ++ wH cy hq rr.1 rr.2.1 rr.2.2.1 rr.2.2.2.1 rr.2.2.2.2.1 (fun _ => 0) rr.2.2.2.2.2.1 rr.2.2.2.2.2.2.1 rr.2.2.2.2.2.2.2 ++ wE cy nq (fun _ => 0) (fun _ => 0) ++ wG cy sq (fun _ => 0) (fun _ => 0) (fun _ => 0) (fun _ => 0) 0 ++ wK cy kq (fun _ => 0) (fun _ => 0) ++ wW cy wq (.null) (.null) 0 0 0 0 ++ wR cy rq (fun _ => 0) (fun _ => 0) (fun _ => 0) 0 0 ++ wP cy pq (fun _ => 0) 0 ++ wP cy dq (fun _ => 0) 0) X inX8_init_X8 tyX8 tyX8_ok nmX8 hH 0 rfl rfl 7 rfl (List.mem_of_getElem? (i := 32) rfl) rfl rfl rfl rfl rfl dX8_init_89 (fun H locs hH => ?_)
  refine W.widen (k := 27) (n := 5097) (Nat.le_of_ble_eq_true rfl) (Nat.le_of_ble_eq_true rfl) ?_
  exact z_vretI (ws' := wS cy (zad [h0]) hq nq sq kq wq rq (.ref (pq 0)) (.ref (dq 0)) ++ wH cy hq rr.1 rr.2.1 rr.2.2.1 rr.2.2.2.1 rr.2.2.2.2.1 (fun _ => 0) rr.2.2.2.2.2.1 rr.2.2.2.2.2.2.1 rr.2.2.2.2.2.2.2 ++ wE cy nq (fun _ => 0) (fun _ => 0) ++ wG cy sq (fun _ => 0) (fun _ => 0) (fun _ => 0) (fun _ => 0) 0 ++ wK cy kq (fun _ => 0) (fun _ => 0) ++ wW cy wq (.null) (.null) 0 0 0 0 ++ wR cy rq (fun _ => 0) (fun _ => 0) (fun _ => 0) 0 0 ++ wP cy pq (fun _ => 0) 0 ++ wP cy dq (fun _ => 0) 0) X hr hH [0, 1, 2, 3, 4, 5, 6, 7, 8, 9, 10, 11, 12, 13, 14, 15, 16, 17, 18, 19, 20, 21, 22, 23, 24, 25, 26, 27] rfl rfl ⟨zad [h0], hq, nq, sq, kq, wq, rq, pq, dq, rfl, rfl⟩ dX8_init_92
