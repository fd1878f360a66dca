set_option maxHeartbeats 4000000 in
set_option maxRecDepth 100000 in
theorem c_X4_from (l : Launch) (G : va_G) (cy : Nat → ClassId) (fu : Nat) (pq : Nat → Nat) (p_packed : Nat → Int32) (p_size : Int32) (x1 : Int32) (rr : Int32) (h : f_X4_from fu p_packed p_size x1 = some rr) : zM l G cy yX4_from wsX4_from (zR 1 21) [.ref (pq 0), .int x1] (wP cy pq p_packed p_size) (wP cy pq p_packed p_size) (some (.int rr)) := by
  refine zM.mk (cc := cX4_from) (nL := 2) (ret := (some .int)) (by decide) rfl (Nat.le_of_ble_eq_true rfl) ?_
  intro p e s m below meth c A ls X hr hH hl
  replace X : zX p s m [.ref (pq 0), .int x1].toArray meth c RX4 cX4_from 2 wsX4_from G cy A := X
  have hx := X.1.1
  have hb := X.1.2.1
  replace hl : lv_has ls 2 [(0, .ref (pq 0)), (1, .int x1)] := hl
  dsimp only [f_X4_from] at h
  refine lv_aload_n (pc := 0) hx hb dX4_from_0 rfl (lv_at hl 0 rfl) ?_
  refine lv_iload_n (pc := 1) hx hb dX4_from_1 rfl (lv_at hl 1 rfl) ?_
  obtain ⟨zr1, hzr1, h⟩ := zb h
  refine zcV (pc := 2) (As := [.int x1]) (rest := []) (st1 := [.int zr1]) (ws' := wP cy pq p_packed p_size) (wr := []) (n := 1) (q0 := 0) X (c_X4_sendAt l G cy fu pq p_packed p_size x1 zr1 hzr1) hH [0, 1] [] [0, 1] rfl rfl rfl rfl gX4_from_X4_sendAt rfl ⟨rfl, rfl⟩ kX4_sendAt ⟨Nat.le_of_ble_eq_true rfl, Nat.le_of_ble_eq_true rfl⟩ rfl rfl rfl rfl rfl hl.1 (Nat.le_of_ble_eq_true rfl) ⟨Nat.le_of_ble_eq_true rfl, Nat.le_of_ble_eq_true rfl⟩ dX4_from_2 (fun H locs hH => ?_)
  refine lv_bipush (v := 13) (pc := 5) hx hb dX4_from_5 zk_b13 ?_
  refine lv_ishr (pc := 7) hx hb dX4_from_7 ?_
  refine lv_bipush (v := 15) (pc := 8) hx hb dX4_from_8 zk_b15 ?_
  refine lv_iand (pc := 10) hx hb dX4_from_10 ?_
  obtain rfl := Option.some.inj h
  exact z_iret X hr hH dX4_from_11
set_option maxHeartbeats 4000000 in
set_option maxRecDepth 100000 in
theorem c_X4_to (l : Launch) (G : va_G) (cy : Nat → ClassId) (fu : Nat) (pq : Nat → Nat) (p_packed : Nat → Int32) (p_size : Int32) (x1 : Int32) (rr : Int32) (h : f_X4_to fu p_packed p_size x1 = some rr) : zM l G cy yX4_to wsX4_to (zR 1 21) [.ref (pq 0), .int x1] (wP cy pq p_packed p_size) (wP cy pq p_packed p_size) (some (.int rr)) := by
  refine zM.mk (cc := cX4_to) (nL := 2) (ret := (some .int)) (by decide) rfl (Nat.le_of_ble_eq_true rfl) ?_
  intro p e s m below meth c A ls X hr hH hl
  replace X : zX p s m [.ref (pq 0), .int x1].toArray meth c RX4 cX4_to 2 wsX4_to G cy A := X
  have hx := X.1.1
  have hb := X.1.2.1
  replace hl : lv_has ls 2 [(0, .ref (pq 0)), (1, .int x1)] := hl
  dsimp only [f_X4_to] at h
  refine lv_aload_n (pc := 0) hx hb dX4_to_0 rfl (lv_at hl 0 rfl) ?_
  refine lv_iload_n (pc := 1) hx hb dX4_to_1 rfl (lv_at hl 1 rfl) ?_
  obtain ⟨zr1, hzr1, h⟩ := zb h
  refine zcV (pc := 2) (As := [.int x1]) (rest := []) (st1 := [.int zr1]) (ws' := wP cy pq p_packed p_size) (wr := []) (n := 1) (q0 := 0) X (c_X4_sendAt l G cy fu pq p_packed p_size x1 zr1 hzr1) hH [0, 1] [] [0, 1] rfl rfl rfl rfl gX4_to_X4_sendAt rfl ⟨rfl, rfl⟩ kX4_sendAt ⟨Nat.le_of_ble_eq_true rfl, Nat.le_of_ble_eq_true rfl⟩ rfl rfl rfl rfl rfl hl.1 (Nat.le_of_ble_eq_true rfl) ⟨Nat.le_of_ble_eq_true rfl, Nat.le_of_ble_eq_true rfl⟩ dX4_to_2 (fun H locs hH => ?_)
  refine lv_iconst (v := 5) (pc := 5) hx hb dX4_to_5 zk_c5 ?_
  refine lv_ishr (pc := 6) hx hb dX4_to_6 ?_
  refine lv_bipush (v := 15) (pc := 7) hx hb dX4_to_7 zk_b15 ?_
  refine lv_iand (pc := 9) hx hb dX4_to_9 ?_
  obtain rfl := Option.some.inj h
  exact z_iret X hr hH dX4_to_10
set_option maxHeartbeats 4000000 in
set_option maxRecDepth 100000 in
theorem c_X4_block (l : Launch) (G : va_G) (cy : Nat → ClassId) (fu : Nat) (pq : Nat → Nat) (p_packed : Nat → Int32) (p_size : Int32) (x1 : Int32) (rr : Int32) (h : f_X4_block fu p_packed p_size x1 = some rr) : zM l G cy yX4_block wsX4_block (zR 1 21) [.ref (pq 0), .int x1] (wP cy pq p_packed p_size) (wP cy pq p_packed p_size) (some (.int rr)) := by
  refine zM.mk (cc := cX4_block) (nL := 2) (ret := (some .int)) (by decide) rfl (Nat.le_of_ble_eq_true rfl) ?_
  intro p e s m below meth c A ls X hr hH hl
  replace X : zX p s m [.ref (pq 0), .int x1].toArray meth c RX4 cX4_block 2 wsX4_block G cy A := X
  have hx := X.1.1
  have hb := X.1.2.1
  replace hl : lv_has ls 2 [(0, .ref (pq 0)), (1, .int x1)] := hl
  dsimp only [f_X4_block] at h
  refine lv_aload_n (pc := 0) hx hb dX4_block_0 rfl (lv_at hl 0 rfl) ?_
  refine lv_iload_n (pc := 1) hx hb dX4_block_1 rfl (lv_at hl 1 rfl) ?_
  obtain ⟨zr1, hzr1, h⟩ := zb h
  refine zcV (pc := 2) (As := [.int x1]) (rest := []) (st1 := [.int zr1]) (ws' := wP cy pq p_packed p_size) (wr := []) (n := 1) (q0 := 0) X (c_X4_sendAt l G cy fu pq p_packed p_size x1 zr1 hzr1) hH [0, 1] [] [0, 1] rfl rfl rfl rfl gX4_block_X4_sendAt rfl ⟨rfl, rfl⟩ kX4_sendAt ⟨Nat.le_of_ble_eq_true rfl, Nat.le_of_ble_eq_true rfl⟩ rfl rfl rfl rfl rfl hl.1 (Nat.le_of_ble_eq_true rfl) ⟨Nat.le_of_ble_eq_true rfl, Nat.le_of_ble_eq_true rfl⟩ dX4_block_2 (fun H locs hH => ?_)
  refine lv_iconst (v := 1) (pc := 5) hx hb dX4_block_5 zk_c1 ?_
  refine lv_ishr (pc := 6) hx hb dX4_block_6 ?_
  refine lv_bipush (v := 15) (pc := 7) hx hb dX4_block_7 zk_b15 ?_
  refine lv_iand (pc := 9) hx hb dX4_block_9 ?_
  obtain rfl := Option.some.inj h
  exact z_iret X hr hH dX4_block_10
set_option maxHeartbeats 4000000 in
set_option maxRecDepth 100000 in
theorem c_X4_toBlock (l : Launch) (G : va_G) (cy : Nat → ClassId) (fu : Nat) (pq : Nat → Nat) (p_packed : Nat → Int32) (p_size : Int32) (x1 : Int32) (rr : Int32) (h : f_X4_toBlock fu p_packed p_size x1 = some rr) : zM l G cy yX4_toBlock wsX4_toBlock (zR 1 21) [.ref (pq 0), .int x1] (wP cy pq p_packed p_size) (wP cy pq p_packed p_size) (some (.int rr)) := by
  refine zM.mk (cc := cX4_toBlock) (nL := 2) (ret := (some .int)) (by decide) rfl (Nat.le_of_ble_eq_true rfl) ?_
  intro p e s m below meth c A ls X hr hH hl
  replace X : zX p s m [.ref (pq 0), .int x1].toArray meth c RX4 cX4_toBlock 2 wsX4_toBlock G cy A := X
  have hx := X.1.1
  have hb := X.1.2.1
  replace hl : lv_has ls 2 [(0, .ref (pq 0)), (1, .int x1)] := hl
  dsimp only [f_X4_toBlock] at h
  refine lv_aload_n (pc := 0) hx hb dX4_toBlock_0 rfl (lv_at hl 0 rfl) ?_
  refine lv_iload_n (pc := 1) hx hb dX4_toBlock_1 rfl (lv_at hl 1 rfl) ?_
  obtain ⟨zr1, hzr1, h⟩ := zb h
  refine zcV (pc := 2) (As := [.int x1]) (rest := []) (st1 := [.int zr1]) (ws' := wP cy pq p_packed p_size) (wr := []) (n := 1) (q0 := 0) X (c_X4_sendAt l G cy fu pq p_packed p_size x1 zr1 hzr1) hH [0, 1] [] [0, 1] rfl rfl rfl rfl gX4_toBlock_X4_sendAt rfl ⟨rfl, rfl⟩ kX4_sendAt ⟨Nat.le_of_ble_eq_true rfl, Nat.le_of_ble_eq_true rfl⟩ rfl rfl rfl rfl rfl hl.1 (Nat.le_of_ble_eq_true rfl) ⟨Nat.le_of_ble_eq_true rfl, Nat.le_of_ble_eq_true rfl⟩ dX4_toBlock_2 (fun H locs hH => ?_)
  refine lv_bipush (v := 9) (pc := 5) hx hb dX4_toBlock_5 zk_b9 ?_
  refine lv_ishr (pc := 7) hx hb dX4_toBlock_7 ?_
  refine lv_bipush (v := 15) (pc := 8) hx hb dX4_toBlock_8 zk_b15 ?_
  refine lv_iand (pc := 10) hx hb dX4_toBlock_10 ?_
  obtain rfl := Option.some.inj h
  exact z_iret X hr hH dX4_toBlock_11
set_option maxHeartbeats 4000000 in
set_option maxRecDepth 100000 in
theorem c_X4_isAdded (l : Launch) (G : va_G) (cy : Nat → ClassId) (fu : Nat) (pq : Nat → Nat) (p_packed : Nat → Int32) (p_size : Int32) (x1 : Int32) (rr : Int32) (h : f_X4_isAdded fu p_packed p_size x1 = some rr) : zM l G cy yX4_isAdded wsX4_isAdded (zR 1 21) [.ref (pq 0), .int x1] (wP cy pq p_packed p_size) (wP cy pq p_packed p_size) (some (.int rr)) := by
  refine zM.mk (cc := cX4_isAdded) (nL := 2) (ret := (some .boolean)) (by decide) rfl (Nat.le_of_ble_eq_true rfl) ?_
  intro p e s m below meth c A ls X hr hH hl
  replace X : zX p s m [.ref (pq 0), .int x1].toArray meth c RX4 cX4_isAdded 2 wsX4_isAdded G cy A := X
  have hx := X.1.1
  have hb := X.1.2.1
  replace hl : lv_has ls 2 [(0, .ref (pq 0)), (1, .int x1)] := hl
  dsimp only [f_X4_isAdded] at h
  refine lv_aload_n (pc := 0) hx hb dX4_isAdded_0 rfl (lv_at hl 0 rfl) ?_
  refine lv_iload_n (pc := 1) hx hb dX4_isAdded_1 rfl (lv_at hl 1 rfl) ?_
  obtain ⟨zr1, hzr1, h⟩ := zb h
  refine zcV (pc := 2) (As := [.int x1]) (rest := []) (st1 := [.int zr1]) (ws' := wP cy pq p_packed p_size) (wr := []) (n := 1) (q0 := 0) X (c_X4_sendAt l G cy fu pq p_packed p_size x1 zr1 hzr1) hH [0, 1] [] [0, 1] rfl rfl rfl rfl gX4_isAdded_X4_sendAt rfl ⟨rfl, rfl⟩ kX4_sendAt ⟨Nat.le_of_ble_eq_true rfl, Nat.le_of_ble_eq_true rfl⟩ rfl rfl rfl rfl rfl hl.1 (Nat.le_of_ble_eq_true rfl) ⟨Nat.le_of_ble_eq_true rfl, Nat.le_of_ble_eq_true rfl⟩ dX4_isAdded_2 (fun H locs hH => ?_)
  refine lv_iconst (v := 1) (pc := 5) hx hb dX4_isAdded_5 zk_c1 ?_
  refine lv_iand (pc := 6) hx hb dX4_isAdded_6 ?_
  refine lv_if_eq (pc := 7) (tgt := 14) hx hb dX4_isAdded_7 rfl (fun zc2 => ?_) (fun zc2 => ?_)
  · have h := zt zc2 h
    refine lv_iconst (v := 0) (pc := 14) hx hb dX4_isAdded_14 zk_c0 ?_
    obtain rfl := Option.some.inj h
    exact z_zret X hr (Or.inl rfl) hH dX4_isAdded_15
  have h := zf zc2 h
  refine lv_iconst (v := 1) (pc := 10) hx hb dX4_isAdded_10 zk_c1 ?_
  refine lv_goto (pc := 11) (tgt := 15) hx hb dX4_isAdded_11 rfl ?_
  obtain rfl := Option.some.inj h
  exact z_zret X hr (Or.inr rfl) hH dX4_isAdded_15
set_option maxHeartbeats 4000000 in
set_option maxRecDepth 100000 in
theorem c_X8_cell (l : Launch) (G : va_G) (cy : Nat → ClassId) (fu : Nat)   (x0 : Int32) (x1 : Int32) (rr : Int32) (h : f_X8_cell fu x0 x1 = some rr) : zM l G cy yX8_cell wsX8_cell (zR 0 0) [.int x0, .int x1] (([] : va_W)) (([] : va_W)) (some (.int rr)) := by
  refine zM.mk (cc := cX8_cell) (nL := 2) (ret := (some .int)) (by decide) rfl (Nat.le_of_ble_eq_true rfl) ?_
  intro p e s m below meth c A ls X hr hH hl
  replace X : zX p s m [.int x0, .int x1].toArray meth c RX8 cX8_cell 2 wsX8_cell G cy A := X
  have hx := X.1.1
  have hb := X.1.2.1
  replace hl : lv_has ls 2 [(0, .int x0), (1, .int x1)] := hl
  dsimp only [f_X8_cell] at h
  refine lv_iload_n (pc := 0) hx hb dX8_cell_0 rfl (lv_at hl 0 rfl) ?_
  refine lv_bipush (v := 16) (pc := 1) hx hb dX8_cell_1 zk_b16 ?_
  refine lv_imul (pc := 3) hx hb dX8_cell_3 ?_
  refine lv_iload_n (pc := 4) hx hb dX8_cell_4 rfl (lv_at hl 1 rfl) ?_
  refine lv_iadd (pc := 5) hx hb dX8_cell_5 ?_
  obtain rfl := Option.some.inj h
  exact z_iret X hr hH dX8_cell_6
set_option maxHeartbeats 4000000 in
set_option maxRecDepth 100000 in
theorem c_X4_source (l : Launch) (G : va_G) (cy : Nat → ClassId) (fu : Nat) (pq : Nat → Nat) (p_packed : Nat → Int32) (p_size : Int32) (x1 : Int32) (rr : Int32) (h : f_X4_source fu p_packed p_size x1 = some rr) : zM l G cy yX4_source wsX4_source (zR 2 42) [.ref (pq 0), .int x1] (wP cy pq p_packed p_size) (wP cy pq p_packed p_size) (some (.int rr)) := by
  refine zM.mk (cc := cX4_source) (nL := 2) (ret := (some .int)) (by decide) rfl (Nat.le_of_ble_eq_true rfl) ?_
  intro p e s m below meth c A ls X hr hH hl
  replace X : zX p s m [.ref (pq 0), .int x1].toArray meth c RX4 cX4_source 2 wsX4_source G cy A := X
  have hx := X.1.1
  have hb := X.1.2.1
  replace hl : lv_has ls 2 [(0, .ref (pq 0)), (1, .int x1)] := hl
  dsimp only [f_X4_source] at h
  refine lv_aload_n (pc := 0) hx hb dX4_source_0 rfl (lv_at hl 0 rfl) ?_
  refine lv_iload_n (pc := 1) hx hb dX4_source_1 rfl (lv_at hl 1 rfl) ?_
  obtain ⟨zr1, hzr1, h⟩ := zb h
  refine zcV (pc := 2) (As := [.int x1]) (rest := []) (st1 := [.int zr1]) (ws' := wP cy pq p_packed p_size) (wr := []) (n := 1) (q0 := 0) X (c_X4_from l G cy fu pq p_packed p_size x1 zr1 hzr1) hH [0, 1] [] [0, 1] rfl rfl rfl rfl gX4_source_X4_from rfl ⟨rfl, rfl⟩ kX4_from ⟨Nat.le_of_ble_eq_true rfl, Nat.le_of_ble_eq_true rfl⟩ rfl rfl rfl rfl rfl hl.1 (Nat.le_of_ble_eq_true rfl) ⟨Nat.le_of_ble_eq_true rfl, Nat.le_of_ble_eq_true rfl⟩ dX4_source_2 (fun H locs hH => ?_)
  refine lv_aload_n (pc := 5) hx hb dX4_source_5 rfl (lv_at hl 0 rfl) ?_
  refine lv_iload_n (pc := 6) hx hb dX4_source_6 rfl (lv_at hl 1 rfl) ?_
  obtain ⟨zr2, hzr2, h⟩ := zb h
  refine zcV (pc := 7) (As := [.int x1]) (rest := [.int zr1]) (st1 := [.int zr2, .int zr1]) (ws' := wP cy pq p_packed p_size) (wr := []) (n := 1) (q0 := 0) X (c_X4_block l G cy fu pq p_packed p_size x1 zr2 hzr2) hH [0, 1] [] [0, 1] rfl rfl rfl rfl gX4_source_X4_block rfl ⟨rfl, rfl⟩ kX4_block ⟨Nat.le_of_ble_eq_true rfl, Nat.le_of_ble_eq_true rfl⟩ rfl rfl rfl rfl rfl hl.1 (Nat.le_of_ble_eq_true rfl) ⟨Nat.le_of_ble_eq_true rfl, Nat.le_of_ble_eq_true rfl⟩ dX4_source_7 (fun H locs hH => ?_)
  obtain ⟨zr3, hzr3, h⟩ := zb h
  refine zcN (pc := 10) (As := [.int zr1, .int zr2]) (rest := []) (st1 := [.int zr3]) (ws' := wP cy pq p_packed p_size) (wr := [((pq 0), .inr (3, [.ref (pq 1), .int p_size])), ((pq 1), .inl (cy 0, 1200, .inl p_packed))]) (n := 2) (host := "SumsToAll") X (c_X8_cell l G cy fu zr1 zr2 zr3 hzr3) hH [] [0, 1] [0, 1] rfl rfl rfl rfl gX4_source_X8_cell_n33 (List.mem_of_getElem? (i := 8) rfl) (List.mem_of_getElem? (i := 17) rfl) (List.mem_of_getElem? (i := 16) rfl) rfl ⟨rfl, rfl⟩ kX8_cell ⟨Nat.le_of_ble_eq_true rfl, Nat.le_of_ble_eq_true rfl⟩ rfl rfl rfl hl.1 (Nat.le_of_ble_eq_true rfl) ⟨Nat.le_of_ble_eq_true rfl, Nat.le_of_ble_eq_true rfl⟩ dX4_source_10 (fun H locs hH => ?_)
  obtain rfl := Option.some.inj h
  exact z_iret X hr hH dX4_source_13
set_option maxHeartbeats 4000000 in
set_option maxRecDepth 100000 in
theorem c_X4_target (l : Launch) (G : va_G) (cy : Nat → ClassId) (fu : Nat) (pq : Nat → Nat) (p_packed : Nat → Int32) (p_size : Int32) (x1 : Int32) (rr : Int32) (h : f_X4_target fu p_packed p_size x1 = some rr) : zM l G cy yX4_target wsX4_target (zR 2 42) [.ref (pq 0), .int x1] (wP cy pq p_packed p_size) (wP cy pq p_packed p_size) (some (.int rr)) := by
  refine zM.mk (cc := cX4_target) (nL := 2) (ret := (some .int)) (by decide) rfl (Nat.le_of_ble_eq_true rfl) ?_
  intro p e s m below meth c A ls X hr hH hl
  replace X : zX p s m [.ref (pq 0), .int x1].toArray meth c RX4 cX4_target 2 wsX4_target G cy A := X
  have hx := X.1.1
  have hb := X.1.2.1
  replace hl : lv_has ls 2 [(0, .ref (pq 0)), (1, .int x1)] := hl
  dsimp only [f_X4_target] at h
  refine lv_aload_n (pc := 0) hx hb dX4_target_0 rfl (lv_at hl 0 rfl) ?_
  refine lv_iload_n (pc := 1) hx hb dX4_target_1 rfl (lv_at hl 1 rfl) ?_
  obtain ⟨zr1, hzr1, h⟩ := zb h
  refine zcV (pc := 2) (As := [.int x1]) (rest := []) (st1 := [.int zr1]) (ws' := wP cy pq p_packed p_size) (wr := []) (n := 1) (q0 := 0) X (c_X4_to l G cy fu pq p_packed p_size x1 zr1 hzr1) hH [0, 1] [] [0, 1] rfl rfl rfl rfl gX4_target_X4_to rfl ⟨rfl, rfl⟩ kX4_to ⟨Nat.le_of_ble_eq_true rfl, Nat.le_of_ble_eq_true rfl⟩ rfl rfl rfl rfl rfl hl.1 (Nat.le_of_ble_eq_true rfl) ⟨Nat.le_of_ble_eq_true rfl, Nat.le_of_ble_eq_true rfl⟩ dX4_target_2 (fun H locs hH => ?_)
  refine lv_aload_n (pc := 5) hx hb dX4_target_5 rfl (lv_at hl 0 rfl) ?_
  refine lv_iload_n (pc := 6) hx hb dX4_target_6 rfl (lv_at hl 1 rfl) ?_
  obtain ⟨zr2, hzr2, h⟩ := zb h
  refine zcV (pc := 7) (As := [.int x1]) (rest := [.int zr1]) (st1 := [.int zr2, .int zr1]) (ws' := wP cy pq p_packed p_size) (wr := []) (n := 1) (q0 := 0) X (c_X4_toBlock l G cy fu pq p_packed p_size x1 zr2 hzr2) hH [0, 1] [] [0, 1] rfl rfl rfl rfl gX4_target_X4_toBlock rfl ⟨rfl, rfl⟩ kX4_toBlock ⟨Nat.le_of_ble_eq_true rfl, Nat.le_of_ble_eq_true rfl⟩ rfl rfl rfl rfl rfl hl.1 (Nat.le_of_ble_eq_true rfl) ⟨Nat.le_of_ble_eq_true rfl, Nat.le_of_ble_eq_true rfl⟩ dX4_target_7 (fun H locs hH => ?_)
  obtain ⟨zr3, hzr3, h⟩ := zb h
  refine zcN (pc := 10) (As := [.int zr1, .int zr2]) (rest := []) (st1 := [.int zr3]) (ws' := wP cy pq p_packed p_size) (wr := [((pq 0), .inr (3, [.ref (pq 1), .int p_size])), ((pq 1), .inl (cy 0, 1200, .inl p_packed))]) (n := 2) (host := "SumsToAll") X (c_X8_cell l G cy fu zr1 zr2 zr3 hzr3) hH [] [0, 1] [0, 1] rfl rfl rfl rfl gX4_target_X8_cell_n33 (List.mem_of_getElem? (i := 8) rfl) (List.mem_of_getElem? (i := 17) rfl) (List.mem_of_getElem? (i := 16) rfl) rfl ⟨rfl, rfl⟩ kX8_cell ⟨Nat.le_of_ble_eq_true rfl, Nat.le_of_ble_eq_true rfl⟩ rfl rfl rfl hl.1 (Nat.le_of_ble_eq_true rfl) ⟨Nat.le_of_ble_eq_true rfl, Nat.le_of_ble_eq_true rfl⟩ dX4_target_10 (fun H locs hH => ?_)
  obtain rfl := Option.some.inj h
  exact z_iret X hr hH dX4_target_13
set_option maxHeartbeats 4000000 in
set_option maxRecDepth 100000 in
theorem c_X4_endsStep (l : Launch) (G : va_G) (cy : Nat → ClassId) (fu : Nat) (pq : Nat → Nat) (p_packed : Nat → Int32) (p_size : Int32) (x1 : Int32) (rr : Int32) (h : f_X4_endsStep fu p_packed p_size x1 = some rr) : zM l G cy yX4_endsStep wsX4_endsStep (zR 2 42) [.ref (pq 0), .int x1] (wP cy pq p_packed p_size) (wP cy pq p_packed p_size) (some (.int rr)) := by
  refine zM.mk (cc := cX4_endsStep) (nL := 2) (ret := (some .boolean)) (by decide) rfl (Nat.le_of_ble_eq_true rfl) ?_
  intro p e s m below meth c A ls X hr hH hl
  replace X : zX p s m [.ref (pq 0), .int x1].toArray meth c RX4 cX4_endsStep 2 wsX4_endsStep G cy A := X
  have hx := X.1.1
  have hb := X.1.2.1
  replace hl : lv_has ls 2 [(0, .ref (pq 0)), (1, .int x1)] := hl
  dsimp only [f_X4_endsStep] at h
  refine lv_iload_n (pc := 0) hx hb dX4_endsStep_0 rfl (lv_at hl 1 rfl) ?_
  refine lv_iconst (v := 1) (pc := 1) hx hb dX4_endsStep_1 zk_c1 ?_
  refine lv_iadd (pc := 2) hx hb dX4_endsStep_2 ?_
  refine lv_aload_n (pc := 3) hx hb dX4_endsStep_3 rfl (lv_at hl 0 rfl) ?_
  refine z_get (pc := 4) (v := .int p_size) X iX4_endsStep_X4 hH 0 rfl rfl 1 rfl (List.mem_of_getElem? (i := 1) rfl) rfl dX4_endsStep_4 ?_
  refine lv_icmp_ge (pc := 7) (tgt := 25) hx hb dX4_endsStep_7 rfl (fun zc1 => ?_) (fun zc1 => ?_)
  · have h := zt zc1 h
    refine lv_iconst (v := 1) (pc := 25) hx hb dX4_endsStep_25 zk_c1 ?_
    refine lv_goto (pc := 26) (tgt := 30) hx hb dX4_endsStep_26 rfl ?_
    obtain rfl := Option.some.inj h
    exact z_zret X hr (Or.inr rfl) hH dX4_endsStep_30
  have h := zf zc1 h
  refine lv_aload_n (pc := 10) hx hb dX4_endsStep_10 rfl (lv_at hl 0 rfl) ?_
  refine lv_iload_n (pc := 11) hx hb dX4_endsStep_11 rfl (lv_at hl 1 rfl) ?_
  obtain ⟨zr2, hzr2, h⟩ := zb h
  refine zcV (pc := 12) (As := [.int x1]) (rest := []) (st1 := [.int zr2]) (ws' := wP cy pq p_packed p_size) (wr := []) (n := 1) (q0 := 0) X (c_X4_step l G cy fu pq p_packed p_size x1 zr2 hzr2) hH [0, 1] [] [0, 1] rfl rfl rfl rfl gX4_endsStep_X4_step rfl ⟨rfl, rfl⟩ kX4_step ⟨Nat.le_of_ble_eq_true rfl, Nat.le_of_ble_eq_true rfl⟩ rfl rfl rfl rfl rfl hl.1 (Nat.le_of_ble_eq_true rfl) ⟨Nat.le_of_ble_eq_true rfl, Nat.le_of_ble_eq_true rfl⟩ dX4_endsStep_12 (fun H locs hH => ?_)
  refine lv_aload_n (pc := 15) hx hb dX4_endsStep_15 rfl (lv_at hl 0 rfl) ?_
  refine lv_iload_n (pc := 16) hx hb dX4_endsStep_16 rfl (lv_at hl 1 rfl) ?_
  refine lv_iconst (v := 1) (pc := 17) hx hb dX4_endsStep_17 zk_c1 ?_
  refine lv_iadd (pc := 18) hx hb dX4_endsStep_18 ?_
  obtain ⟨zr3, hzr3, h⟩ := zb h
  refine zcV (pc := 19) (As := [.int (x1 + 1)]) (rest := [.int zr2]) (st1 := [.int zr3, .int zr2]) (ws' := wP cy pq p_packed p_size) (wr := []) (n := 1) (q0 := 0) X (c_X4_step l G cy fu pq p_packed p_size (x1 + 1) zr3 hzr3) hH [0, 1] [] [0, 1] rfl rfl rfl rfl gX4_endsStep_X4_step rfl ⟨rfl, rfl⟩ kX4_step ⟨Nat.le_of_ble_eq_true rfl, Nat.le_of_ble_eq_true rfl⟩ rfl rfl rfl rfl rfl hl.1 (Nat.le_of_ble_eq_true rfl) ⟨Nat.le_of_ble_eq_true rfl, Nat.le_of_ble_eq_true rfl⟩ dX4_endsStep_19 (fun H locs hH => ?_)
  refine lv_icmp_eq (pc := 22) (tgt := 29) hx hb dX4_endsStep_22 rfl (fun zc4 => ?_) (fun zc4 => ?_)
  · have h := zt zc4 h
    refine lv_iconst (v := 0) (pc := 29) hx hb dX4_endsStep_29 zk_c0 ?_
    obtain rfl := Option.some.inj h
    exact z_zret X hr (Or.inl rfl) hH dX4_endsStep_30
  have h := zf zc4 h
  refine lv_iconst (v := 1) (pc := 25) hx hb dX4_endsStep_25 zk_c1 ?_
  refine lv_goto (pc := 26) (tgt := 30) hx hb dX4_endsStep_26 rfl ?_
  obtain rfl := Option.some.inj h
  exact z_zret X hr (Or.inr rfl) hH dX4_endsStep_30
set_option maxHeartbeats 4000000 in
set_option maxRecDepth 100000 in
theorem w_X4_forbids_l3 {p : Program} {l : Launch} {e : Env} {s : State} {m : MethodId} {args : Array Value} {below : List Frame} {meth : Method} {c : Code} {A : Nat → Prop} {Q : State → Prop} (G : va_G) (cy : Nat → ClassId) (fu : Nat) (pq : Nat → Nat) (p_packed : Nat → Int32) (p_size : Int32) (x1 : Int32) (x2 : Int32) (x3 : Int32) (x4 : Int32) (X : zX p s m args meth c RX4 cX4_forbids 8 wsX4_forbids G cy A) : ∀ (n : Nat) (x5 : Int32) (rr : (Unit) ⊕ (Unit)) (h : lp (f_X4_forbids_l3 fu p_packed p_size x1 x2 x3 x4) n x5 = some rr) (H : Heap) (locs : List Loc) (ls : Array Slot) (hH : zH G A s.heap (wP cy pq p_packed p_size) H locs) (hl : lv_has ls 8 [(0, .ref (pq 0)), (1, .int x1), (2, .int x2), (3, .int x3), (4, .int x4), (5, .int x5)]) (K0 : ∀ (ra : Unit), rr = (.inl ra) → ∀ (H : Heap) (locs : List Loc) (ls : Array Slot), zH G A s.heap (wP cy pq p_packed p_size) H locs → lv_has ls 8 [] → W p l e (zR 2 42) s m args below meth c H locs 0 0 Q (F0 m 82 ls [])) (K1 : ∀ (ra : Unit), rr = (.inr ra) → ∀ (H : Heap) (locs : List Loc) (ls : Array Slot), zH G A s.heap (wP cy pq p_packed p_size) H locs → lv_has ls 8 [] → W p l e (zR 2 42) s m args below meth c H locs 0 0 Q (F0 m 90 ls [])), W p l e (zR 2 42) s m args below meth c H locs 0 0 Q (F0 m 3 ls []) := by
  have hx := X.1.1
  have hb := X.1.2.1
  intro n
  induction n with
  | zero => intro x5 rr h H locs ls hH hl K0 K1; cases h
  | succ n ih =>
    intro x5 rr h H locs ls hH hl K0 K1
    replace h : f_X4_forbids_l3 fu p_packed p_size x1 x2 x3 x4 (lp (f_X4_forbids_l3 fu p_packed p_size x1 x2 x3 x4) n) x5 = some rr := h
    dsimp only [f_X4_forbids_l3] at h
    refine lv_iload (pc := 3) hx hb dX4_forbids_3 (lv_at hl 5 rfl) ?_
    refine lv_aload_n (pc := 5) hx hb dX4_forbids_5 rfl (lv_at hl 0 rfl) ?_
    refine z_get (pc := 6) (v := .int p_size) X iX4_forbids_X4 hH 0 rfl rfl 1 rfl (List.mem_of_getElem? (i := 1) rfl) rfl dX4_forbids_6 ?_
    refine lv_icmp_ge (pc := 9) (tgt := 90) hx hb dX4_forbids_9 rfl (fun zc1 => ?_) (fun zc1 => ?_)
    · have h := zt zc1 h
      exact K1 () (Option.some.inj h).symm _ _ _ hH (lv_sub hl [] rfl)
    have h := zf zc1 h
    refine lv_aload_n (pc := 12) hx hb dX4_forbids_12 rfl (lv_at hl 0 rfl) ?_
    refine lv_iload (pc := 13) hx hb dX4_forbids_13 (lv_at hl 5 rfl) ?_
    obtain ⟨zr2, hzr2, h⟩ := zb h
    refine zcV (pc := 15) (As := [.int x5]) (rest := []) (st1 := [.int zr2]) (ws' := wP cy pq p_packed p_size) (wr := []) (n := 1) (q0 := 0) X (c_X4_step l G cy fu pq p_packed p_size x5 zr2 hzr2) hH [0, 1] [] [0, 1] rfl rfl rfl rfl gX4_forbids_X4_step rfl ⟨rfl, rfl⟩ kX4_step ⟨Nat.le_of_ble_eq_true rfl, Nat.le_of_ble_eq_true rfl⟩ rfl rfl rfl rfl rfl hl.1 (Nat.le_of_ble_eq_true rfl) ⟨Nat.le_of_ble_eq_true rfl, Nat.le_of_ble_eq_true rfl⟩ dX4_forbids_15 (fun H locs hH => ?_)
    refine lv_iload_n (pc := 18) hx hb dX4_forbids_18 rfl (lv_at hl 1 rfl) ?_
    refine lv_icmp_eq (pc := 19) (tgt := 25) hx hb dX4_forbids_19 rfl (fun zc3 => ?_) (fun zc3 => ?_)
    · have h := zt zc3 h
      refine lv_aload_n (pc := 25) hx hb dX4_forbids_25 rfl (lv_at hl 0 rfl) ?_
      refine lv_iload (pc := 26) hx hb dX4_forbids_26 (lv_at hl 5 rfl) ?_
      obtain ⟨zr4, hzr4, h⟩ := zb h
      refine zcV (pc := 28) (As := [.int x5]) (rest := []) (st1 := [.int zr4]) (ws' := wP cy pq p_packed p_size) (wr := []) (n := 1) (q0 := 0) X (c_X4_from l G cy fu pq p_packed p_size x5 zr4 hzr4) hH [0, 1] [] [0, 1] rfl rfl rfl rfl gX4_forbids_X4_from rfl ⟨rfl, rfl⟩ kX4_from ⟨Nat.le_of_ble_eq_true rfl, Nat.le_of_ble_eq_true rfl⟩ rfl rfl rfl rfl rfl hl.1 (Nat.le_of_ble_eq_true rfl) ⟨Nat.le_of_ble_eq_true rfl, Nat.le_of_ble_eq_true rfl⟩ dX4_forbids_28 (fun H locs hH => ?_)
      refine lv_iload_n (pc := 31) hx hb dX4_forbids_31 rfl (lv_at hl 2 rfl) ?_
      refine lv_icmp_ne (pc := 32) (tgt := 39) hx hb dX4_forbids_32 rfl (fun zc5 => ?_) (fun zc5 => ?_)
      · have h := zf zc5 h
        refine lv_iconst (v := 0) (pc := 39) hx hb dX4_forbids_39 zk_c0 ?_
        refine lv_istore (pc := 40) (lv' := [(6, .int 0), (0, .ref (pq 0)), (1, .int x1), (2, .int x2), (3, .int x3), (4, .int x4), (5, .int x5)]) hx hb dX4_forbids_40 hl (by decide) rfl (fun ls hl => ?_)
        refine lv_aload_n (pc := 42) hx hb dX4_forbids_42 rfl (lv_at hl 1 rfl) ?_
        refine lv_iload (pc := 43) hx hb dX4_forbids_43 (lv_at hl 6 rfl) ?_
        obtain ⟨zr6, hzr6, h⟩ := zb h
        refine zcV (pc := 45) (As := [.int x5]) (rest := []) (st1 := [.int zr6]) (ws' := wP cy pq p_packed p_size) (wr := []) (n := 1) (q0 := 0) X (c_X4_to l G cy fu pq p_packed p_size x5 zr6 hzr6) hH [0, 1] [] [0, 1] rfl rfl rfl rfl gX4_forbids_X4_to rfl ⟨rfl, rfl⟩ kX4_to ⟨Nat.le_of_ble_eq_true rfl, Nat.le_of_ble_eq_true rfl⟩ rfl rfl rfl rfl rfl hl.1 (Nat.le_of_ble_eq_true rfl) ⟨Nat.le_of_ble_eq_true rfl, Nat.le_of_ble_eq_true rfl⟩ dX4_forbids_45 (fun H locs hH => ?_)
        refine lv_iload_n (pc := 48) hx hb dX4_forbids_48 rfl (lv_at hl 4 rfl) ?_
        refine lv_icmp_ne (pc := 49) (tgt := 56) hx hb dX4_forbids_49 rfl (fun zc7 => ?_) (fun zc7 => ?_)
        · have h := zf zc7 h
          refine lv_iconst (v := 0) (pc := 56) hx hb dX4_forbids_56 zk_c0 ?_
          refine lv_istore (pc := 57) (lv' := [(7, .int 0), (6, .int 0), (0, .ref (pq 0)), (1, .int x1), (2, .int x2), (3, .int x3), (4, .int x4), (5, .int x5)]) hx hb dX4_forbids_57 hl (by decide) rfl (fun ls hl => ?_)
          refine lv_iload (pc := 59) hx hb dX4_forbids_59 (lv_at hl 1 rfl) ?_
          refine lv_iload (pc := 61) hx hb dX4_forbids_61 (lv_at hl 0 rfl) ?_
          refine lv_icmp_ne (pc := 63) (tgt := 82) hx hb dX4_forbids_63 rfl (fun zc8 => ?_) (fun zc8 => ?_)
          · exact absurd (by decide) zc8
          refine lv_iload (pc := 66) hx hb dX4_forbids_66 (lv_at hl 0 rfl) ?_
          refine lv_if_eq (pc := 68) (tgt := 84) hx hb dX4_forbids_68 rfl (fun zc9 => ?_) (fun zc9 => ?_)
          · refine lv_iinc (pc := 84) (v := (x5 + 1)) (lv' := [(5, .int (x5 + 1)), (7, .int 0), (6, .int 0), (0, .ref (pq 0)), (1, .int x1), (2, .int x2), (3, .int x3), (4, .int x4)]) hx hb dX4_forbids_84 hl (k := 7) rfl (by rw [zk_c1]) (by decide) rfl (fun ls hl => ?_)
            refine lv_goto (pc := 87) (tgt := 3) hx hb dX4_forbids_87 rfl ?_
            exact ih (x5 + 1) rr h _ _ _ hH (lv_sub hl [3, 4, 5, 6, 7, 0] rfl) K0 K1
          exact absurd (by decide) zc9
        have h := zt zc7 h
        refine lv_iconst (v := 1) (pc := 52) hx hb dX4_forbids_52 zk_c1 ?_
        refine lv_goto (pc := 53) (tgt := 57) hx hb dX4_forbids_53 rfl ?_
        refine lv_istore (pc := 57) (lv' := [(7, .int 1), (6, .int 0), (0, .ref (pq 0)), (1, .int x1), (2, .int x2), (3, .int x3), (4, .int x4), (5, .int x5)]) hx hb dX4_forbids_57 hl (by decide) rfl (fun ls hl => ?_)
        refine lv_iload (pc := 59) hx hb dX4_forbids_59 (lv_at hl 1 rfl) ?_
        refine lv_iload (pc := 61) hx hb dX4_forbids_61 (lv_at hl 0 rfl) ?_
        refine lv_icmp_ne (pc := 63) (tgt := 82) hx hb dX4_forbids_63 rfl (fun zc10 => ?_) (fun zc10 => ?_)
        · exact K0 () (Option.some.inj h).symm _ _ _ hH (lv_sub hl [] rfl)
        exact absurd zc10 (by decide)
      have h := zt zc5 h
      refine lv_iconst (v := 1) (pc := 35) hx hb dX4_forbids_35 zk_c1 ?_
      refine lv_goto (pc := 36) (tgt := 40) hx hb dX4_forbids_36 rfl ?_
      refine lv_istore (pc := 40) (lv' := [(6, .int 1), (0, .ref (pq 0)), (1, .int x1), (2, .int x2), (3, .int x3), (4, .int x4), (5, .int x5)]) hx hb dX4_forbids_40 hl (by decide) rfl (fun ls hl => ?_)
      refine lv_aload_n (pc := 42) hx hb dX4_forbids_42 rfl (lv_at hl 1 rfl) ?_
      refine lv_iload (pc := 43) hx hb dX4_forbids_43 (lv_at hl 6 rfl) ?_
      obtain ⟨zr11, hzr11, h⟩ := zb h
      refine zcV (pc := 45) (As := [.int x5]) (rest := []) (st1 := [.int zr11]) (ws' := wP cy pq p_packed p_size) (wr := []) (n := 1) (q0 := 0) X (c_X4_to l G cy fu pq p_packed p_size x5 zr11 hzr11) hH [0, 1] [] [0, 1] rfl rfl rfl rfl gX4_forbids_X4_to rfl ⟨rfl, rfl⟩ kX4_to ⟨Nat.le_of_ble_eq_true rfl, Nat.le_of_ble_eq_true rfl⟩ rfl rfl rfl rfl rfl hl.1 (Nat.le_of_ble_eq_true rfl) ⟨Nat.le_of_ble_eq_true rfl, Nat.le_of_ble_eq_true rfl⟩ dX4_forbids_45 (fun H locs hH => ?_)
      refine lv_iload_n (pc := 48) hx hb dX4_forbids_48 rfl (lv_at hl 4 rfl) ?_
      refine lv_icmp_ne (pc := 49) (tgt := 56) hx hb dX4_forbids_49 rfl (fun zc12 => ?_) (fun zc12 => ?_)
      · have h := zf zc12 h
        refine lv_iconst (v := 0) (pc := 56) hx hb dX4_forbids_56 zk_c0 ?_
        refine lv_istore (pc := 57) (lv' := [(7, .int 0), (6, .int 1), (0, .ref (pq 0)), (1, .int x1), (2, .int x2), (3, .int x3), (4, .int x4), (5, .int x5)]) hx hb dX4_forbids_57 hl (by decide) rfl (fun ls hl => ?_)
        refine lv_iload (pc := 59) hx hb dX4_forbids_59 (lv_at hl 1 rfl) ?_
        refine lv_iload (pc := 61) hx hb dX4_forbids_61 (lv_at hl 0 rfl) ?_
        refine lv_icmp_ne (pc := 63) (tgt := 82) hx hb dX4_forbids_63 rfl (fun zc13 => ?_) (fun zc13 => ?_)
        · exact K0 () (Option.some.inj h).symm _ _ _ hH (lv_sub hl [] rfl)
        exact absurd zc13 (by decide)
      have h := zt zc12 h
      refine lv_iconst (v := 1) (pc := 52) hx hb dX4_forbids_52 zk_c1 ?_
      refine lv_goto (pc := 53) (tgt := 57) hx hb dX4_forbids_53 rfl ?_
      refine lv_istore (pc := 57) (lv' := [(7, .int 1), (6, .int 1), (0, .ref (pq 0)), (1, .int x1), (2, .int x2), (3, .int x3), (4, .int x4), (5, .int x5)]) hx hb dX4_forbids_57 hl (by decide) rfl (fun ls hl => ?_)
      refine lv_iload (pc := 59) hx hb dX4_forbids_59 (lv_at hl 1 rfl) ?_
      refine lv_iload (pc := 61) hx hb dX4_forbids_61 (lv_at hl 0 rfl) ?_
      refine lv_icmp_ne (pc := 63) (tgt := 82) hx hb dX4_forbids_63 rfl (fun zc14 => ?_) (fun zc14 => ?_)
      · exact absurd (by decide) zc14
      refine lv_iload (pc := 66) hx hb dX4_forbids_66 (lv_at hl 0 rfl) ?_
      refine lv_if_eq (pc := 68) (tgt := 84) hx hb dX4_forbids_68 rfl (fun zc15 => ?_) (fun zc15 => ?_)
      · exact absurd zc15 (by decide)
      refine lv_aload_n (pc := 71) hx hb dX4_forbids_71 rfl (lv_at hl 2 rfl) ?_
      refine lv_iload (pc := 72) hx hb dX4_forbids_72 (lv_at hl 7 rfl) ?_
      obtain ⟨zr16, hzr16, h⟩ := zb h
      refine zcV (pc := 74) (As := [.int x5]) (rest := []) (st1 := [.int zr16]) (ws' := wP cy pq p_packed p_size) (wr := []) (n := 1) (q0 := 0) X (c_X4_toBlock l G cy fu pq p_packed p_size x5 zr16 hzr16) hH [0, 1] [] [0, 1] rfl rfl rfl rfl gX4_forbids_X4_toBlock rfl ⟨rfl, rfl⟩ kX4_toBlock ⟨Nat.le_of_ble_eq_true rfl, Nat.le_of_ble_eq_true rfl⟩ rfl rfl rfl rfl rfl hl.1 (Nat.le_of_ble_eq_true rfl) ⟨Nat.le_of_ble_eq_true rfl, Nat.le_of_ble_eq_true rfl⟩ dX4_forbids_74 (fun H locs hH => ?_)
      refine lv_iload (pc := 77) hx hb dX4_forbids_77 (lv_at hl 6 rfl) ?_
      refine lv_icmp_ne (pc := 79) (tgt := 84) hx hb dX4_forbids_79 rfl (fun zc17 => ?_) (fun zc17 => ?_)
      · have h := zf zc17 h
        refine lv_iinc (pc := 84) (v := (x5 + 1)) (lv' := [(5, .int (x5 + 1)), (7, .int 1), (6, .int 1), (0, .ref (pq 0)), (1, .int x1), (2, .int x2), (3, .int x3), (4, .int x4)]) hx hb dX4_forbids_84 hl (k := 7) rfl (by rw [zk_c1]) (by decide) rfl (fun ls hl => ?_)
        refine lv_goto (pc := 87) (tgt := 3) hx hb dX4_forbids_87 rfl ?_
        exact ih (x5 + 1) rr h _ _ _ hH (lv_sub hl [3, 4, 5, 6, 7, 0] rfl) K0 K1
      have h := zt zc17 h
      exact K0 () (Option.some.inj h).symm _ _ _ hH (lv_sub hl [] rfl)
    have h := zf zc3 h
    refine lv_goto (pc := 22) (tgt := 84) hx hb dX4_forbids_22 rfl ?_
    refine lv_iinc (pc := 84) (v := (x5 + 1)) (lv' := [(5, .int (x5 + 1)), (0, .ref (pq 0)), (1, .int x1), (2, .int x2), (3, .int x3), (4, .int x4)]) hx hb dX4_forbids_84 hl (k := 5) rfl (by rw [zk_c1]) (by decide) rfl (fun ls hl => ?_)
    refine lv_goto (pc := 87) (tgt := 3) hx hb dX4_forbids_87 rfl ?_
    exact ih (x5 + 1) rr h _ _ _ hH (lv_sub hl [1, 2, 3, 4, 5, 0] rfl) K0 K1
set_option maxHeartbeats 4000000 in
set_option maxRecDepth 100000 in
theorem c_X4_forbids (l : Launch) (G : va_G) (cy : Nat → ClassId) (fu : Nat) (pq : Nat → Nat) (p_packed : Nat → Int32) (p_size : Int32) (x1 : Int32) (x2 : Int32) (x3 : Int32) (x4 : Int32) (rr : Int32) (h : f_X4_forbids fu p_packed p_size x1 x2 x3 x4 = some rr) : zM l G cy yX4_forbids wsX4_forbids (zR 2 42) [.ref (pq 0), .int x1, .int x2, .int x3, .int x4] (wP cy pq p_packed p_size) (wP cy pq p_packed p_size) (some (.int rr)) := by
  refine zM.mk (cc := cX4_forbids) (nL := 8) (ret := (some .boolean)) (by decide) rfl (Nat.le_of_ble_eq_true rfl) ?_
  intro p e s m below meth c A ls X hr hH hl
  replace X : zX p s m [.ref (pq 0), .int x1, .int x2, .int x3, .int x4].toArray meth c RX4 cX4_forbids 8 wsX4_forbids G cy A := X
  have hx := X.1.1
  have hb := X.1.2.1
  replace hl : lv_has ls 8 [(0, .ref (pq 0)), (1, .int x1), (2, .int x2), (3, .int x3), (4, .int x4)] := hl
  dsimp only [f_X4_forbids] at h
  refine lv_iconst (v := 0) (pc := 0) hx hb dX4_forbids_0 zk_c0 ?_
  refine lv_istore (pc := 1) (lv' := [(5, .int 0), (0, .ref (pq 0)), (1, .int x1), (2, .int x2), (3, .int x3), (4, .int x4)]) hx hb dX4_forbids_1 hl (by decide) rfl (fun ls hl => ?_)
  obtain ⟨zr1, hzr1, h⟩ := zb h
  refine w_X4_forbids_l3 G cy fu pq p_packed p_size x1 x2 x3 x4 X fu 0 zr1 hzr1 _ _ _ hH (lv_sub hl [1, 2, 3, 4, 5, 0] rfl) (fun zr1_0 ezr1_0 H locs ls hH hl => ?_) (fun zr1_1 ezr1_1 H locs ls hH hl => ?_)
  · rw [ezr1_0] at h
    have h := zsum_l h
    refine lv_iconst (v := 1) (pc := 82) hx hb dX4_forbids_82 zk_c1 ?_
    obtain rfl := Option.some.inj h
    exact z_zret X hr (Or.inr rfl) hH dX4_forbids_83
  rw [ezr1_1] at h
  have h := zsum_r h
  refine lv_iconst (v := 0) (pc := 90) hx hb dX4_forbids_90 zk_c0 ?_
  obtain rfl := Option.some.inj h
  exact z_zret X hr (Or.inl rfl) hH dX4_forbids_91
set_option maxHeartbeats 4000000 in
set_option maxRecDepth 100000 in
theorem w_X4_place_l54 {p : Program} {l : Launch} {e : Env} {s : State} {m : MethodId} {args : Array Value} {below : List Frame} {meth : Method} {c : Code} {A : Nat → Prop} {Q : State → Prop} (G : va_G) (cy : Nat → ClassId) (fu : Nat) (pq : Nat → Nat) (p_size : Int32) (x7 : Int32) (X : zX p s m args meth c RX4 cX4_place 9 wsX4_place G cy A) : ∀ (n : Nat) (x8 : Int32) (p_packed : Nat → Int32) (rr : Int32 × (Nat → Int32)) (h : lp (f_X4_place_l54 fu x7) n (x8, p_packed) = some rr) (H : Heap) (locs : List Loc) (ls : Array Slot) (hH : zH G A s.heap (wP cy pq p_packed p_size) H locs) (hl : lv_has ls 9 [(0, .ref (pq 0)), (7, .int x7), (8, .int x8)]) (K0 : ∀ (H : Heap) (locs : List Loc) (ls : Array Slot), zH G A s.heap (wP cy pq rr.2 p_size) H locs → lv_has ls 9 [(0, .ref (pq 0)), (7, .int x7), (8, .int rr.1)] → W p l e (zR 0 0) s m args below meth c H locs 0 0 Q (F0 m 95 ls [])), W p l e (zR 0 0) s m args below meth c H locs 0 0 Q (F0 m 54 ls []) := by
  have hx := X.1.1
  have hb := X.1.2.1
  intro n
  induction n with
  | zero => intro x8 p_packed rr h H locs ls hH hl K0; cases h
  | succ n ih =>
    intro x8 p_packed rr h H locs ls hH hl K0
    replace h : f_X4_place_l54 fu x7 (lp (f_X4_place_l54 fu x7) n) (x8, p_packed) = some rr := h
    dsimp only [f_X4_place_l54] at h
    refine lv_iload (pc := 54) hx hb dX4_place_54 (lv_at hl 2 rfl) ?_
    refine lv_if_le (pc := 56) (tgt := 95) hx hb dX4_place_56 rfl (fun zc1 => ?_) (fun zc1 => ?_)
    · have h := zt zc1 h
      obtain rfl := Option.some.inj h
      exact K0 _ _ _ hH (lv_sub hl [0, 1, 2] rfl)
    have h := zf zc1 h
    refine lv_aload_n (pc := 59) hx hb dX4_place_59 rfl (lv_at hl 0 rfl) ?_
    refine z_get (pc := 60) (v := .ref (pq 1)) X iX4_place_X4 hH 0 rfl rfl 0 rfl (List.mem_of_getElem? (i := 2) rfl) rfl dX4_place_60 ?_
    refine lv_iload (pc := 63) hx hb dX4_place_63 (lv_at hl 2 rfl) ?_
    refine lv_iconst (v := 1) (pc := 65) hx hb dX4_place_65 zk_c1 ?_
    refine lv_isub (pc := 66) hx hb dX4_place_66 ?_
    obtain ⟨hin, h⟩ := zg h
    refine z_iald (pc := 67) X hH 1 rfl hin dX4_place_67 ?_
    refine lv_iload (pc := 68) hx hb dX4_place_68 (lv_at hl 1 rfl) ?_
    refine lv_icmp_le (pc := 70) (tgt := 95) hx hb dX4_place_70 rfl (fun zc2 => ?_) (fun zc2 => ?_)
    · have h := zt zc2 h
      obtain rfl := Option.some.inj h
      exact K0 _ _ _ hH (lv_sub hl [0, 1, 2] rfl)
    have h := zf zc2 h
    refine lv_aload_n (pc := 73) hx hb dX4_place_73 rfl (lv_at hl 0 rfl) ?_
    refine z_get (pc := 74) (v := .ref (pq 1)) X iX4_place_X4 hH 0 rfl rfl 0 rfl (List.mem_of_getElem? (i := 2) rfl) rfl dX4_place_74 ?_
    refine lv_iload (pc := 77) hx hb dX4_place_77 (lv_at hl 2 rfl) ?_
    refine lv_aload_n (pc := 79) hx hb dX4_place_79 rfl (lv_at hl 0 rfl) ?_
    refine z_get (pc := 80) (v := .ref (pq 1)) X iX4_place_X4 hH 0 rfl rfl 0 rfl (List.mem_of_getElem? (i := 2) rfl) rfl dX4_place_80 ?_
    refine lv_iload (pc := 83) hx hb dX4_place_83 (lv_at hl 2 rfl) ?_
    refine lv_iconst (v := 1) (pc := 85) hx hb dX4_place_85 zk_c1 ?_
    refine lv_isub (pc := 86) hx hb dX4_place_86 ?_
    obtain ⟨hin, h⟩ := zg h
    refine z_iald (pc := 87) X hH 1 rfl hin dX4_place_87 ?_
    obtain ⟨hin, h⟩ := zg h
    refine z_iast (pc := 88) (ws' := wP cy pq (upd p_packed (x8).toNatClampNeg (p_packed ((x8 - 1)).toNatClampNeg)) p_size) X hH 1 rfl hin rfl dX4_place_88 (fun H locs hH => ?_)
    refine lv_iinc (pc := 89) (v := (x8 + (-1))) (lv' := [(8, .int (x8 + (-1))), (0, .ref (pq 0)), (7, .int x7)]) hx hb dX4_place_89 hl (k := 2) rfl (by rw [zk_cm1]) (by decide) rfl (fun ls hl => ?_)
    refine lv_goto (pc := 92) (tgt := 54) hx hb dX4_place_92 rfl ?_
    exact ih (x8 + (-1)) (upd p_packed (x8).toNatClampNeg (p_packed ((x8 - 1)).toNatClampNeg)) rr h _ _ _ hH (lv_sub hl [1, 2, 0] rfl) K0
set_option maxHeartbeats 4000000 in
set_option maxRecDepth 100000 in
theorem c_X4_place (l : Launch) (G : va_G) (cy : Nat → ClassId) (fu : Nat) (pq : Nat → Nat) (p_packed : Nat → Int32) (p_size : Int32) (x1 : Int32) (x2 : Int32) (x3 : Int32) (x4 : Int32) (x5 : Int32) (x6 : Int32) (rr : (Nat → Int32) × Int32) (h : f_X4_place fu p_packed p_size x1 x2 x3 x4 x5 x6 = some rr) : zM l G cy yX4_place wsX4_place (zR 0 0) [.ref (pq 0), .int x1, .int x2, .int x3, .int x4, .int x5, .int x6] (wP cy pq p_packed p_size) (wP cy pq rr.1 rr.2) none := by
  refine zM.mk (cc := cX4_place) (nL := 9) (ret := none) (by decide) rfl (Nat.le_of_ble_eq_true rfl) ?_
  intro p e s m below meth c A ls X hr hH hl
  replace X : zX p s m [.ref (pq 0), .int x1, .int x2, .int x3, .int x4, .int x5, .int x6].toArray meth c RX4 cX4_place 9 wsX4_place G cy A := X
  have hx := X.1.1
  have hb := X.1.2.1
  replace hl : lv_has ls 9 [(0, .ref (pq 0)), (1, .int x1), (2, .int x2), (3, .int x3), (4, .int x4), (5, .int x5), (6, .int x6)] := hl
  dsimp only [f_X4_place] at h
  refine lv_aload_n (pc := 0) hx hb dX4_place_0 rfl (lv_at hl 0 rfl) ?_
  refine z_get (pc := 1) (v := .int p_size) X iX4_place_X4 hH 0 rfl rfl 1 rfl (List.mem_of_getElem? (i := 1) rfl) rfl dX4_place_1 ?_
  refine lv_sipush (v := 1200) (pc := 4) hx hb dX4_place_4 zk_s1200 ?_
  refine lv_icmp_lt (pc := 7) (tgt := 11) hx hb dX4_place_7 rfl (fun zc1 => ?_) (fun zc1 => ?_)
  · have h := zt zc1 h
    refine lv_iload_n (pc := 11) hx hb dX4_place_11 rfl (lv_at hl 1 rfl) ?_
    refine lv_bipush (v := 17) (pc := 12) hx hb dX4_place_12 zk_b17 ?_
    refine lv_ishl (pc := 14) hx hb dX4_place_14 ?_
    refine lv_iload_n (pc := 15) hx hb dX4_place_15 rfl (lv_at hl 2 rfl) ?_
    refine lv_bipush (v := 13) (pc := 16) hx hb dX4_place_16 zk_b13 ?_
    refine lv_ishl (pc := 18) hx hb dX4_place_18 ?_
    refine lv_ior (pc := 19) hx hb dX4_place_19 ?_
    refine lv_iload (pc := 20) hx hb dX4_place_20 (lv_at hl 5 rfl) ?_
    refine lv_bipush (v := 9) (pc := 22) hx hb dX4_place_22 zk_b9 ?_
    refine lv_ishl (pc := 24) hx hb dX4_place_24 ?_
    refine lv_ior (pc := 25) hx hb dX4_place_25 ?_
    refine lv_iload_n (pc := 26) hx hb dX4_place_26 rfl (lv_at hl 3 rfl) ?_
    refine lv_iconst (v := 5) (pc := 27) hx hb dX4_place_27 zk_c5 ?_
    refine lv_ishl (pc := 28) hx hb dX4_place_28 ?_
    refine lv_ior (pc := 29) hx hb dX4_place_29 ?_
    refine lv_iload (pc := 30) hx hb dX4_place_30 (lv_at hl 4 rfl) ?_
    refine lv_iconst (v := 1) (pc := 32) hx hb dX4_place_32 zk_c1 ?_
    refine lv_ishl (pc := 33) hx hb dX4_place_33 ?_
    refine lv_ior (pc := 34) hx hb dX4_place_34 ?_
    refine lv_iload (pc := 35) hx hb dX4_place_35 (lv_at hl 6 rfl) ?_
    refine lv_if_eq (pc := 37) (tgt := 44) hx hb dX4_place_37 rfl (fun zc2 => ?_) (fun zc2 => ?_)
    · have h := zt zc2 h
      refine lv_iconst (v := 0) (pc := 44) hx hb dX4_place_44 zk_c0 ?_
      refine lv_ior (pc := 45) hx hb dX4_place_45 ?_
      refine lv_topi (fun za3 eza3 => ?_)
      have h := vn_s h za3 eza3
      refine lv_istore (pc := 46) (lv' := [(7, .int za3), (0, .ref (pq 0)), (1, .int x1), (2, .int x2), (3, .int x3), (4, .int x4), (5, .int x5), (6, .int x6)]) hx hb dX4_place_46 hl (by decide) rfl (fun ls hl => ?_)
      refine lv_aload_n (pc := 48) hx hb dX4_place_48 rfl (lv_at hl 1 rfl) ?_
      refine z_get (pc := 49) (v := .int p_size) X iX4_place_X4 hH 0 rfl rfl 1 rfl (List.mem_of_getElem? (i := 1) rfl) rfl dX4_place_49 ?_
      refine lv_istore (pc := 52) (lv' := [(8, .int p_size), (7, .int za3), (0, .ref (pq 0)), (1, .int x1), (2, .int x2), (3, .int x3), (4, .int x4), (5, .int x5), (6, .int x6)]) hx hb dX4_place_52 hl (by decide) rfl (fun ls hl => ?_)
      obtain ⟨zr4, hzr4, h⟩ := zb h
      refine w_X4_place_l54 G cy fu pq p_size za3 X fu p_size p_packed zr4 hzr4 _ _ _ hH (lv_sub hl [2, 1, 0] rfl) (fun H locs ls hH hl => ?_)
      refine lv_aload_n (pc := 95) hx hb dX4_place_95 rfl (lv_at hl 0 rfl) ?_
      refine z_get (pc := 96) (v := .ref (pq 1)) X iX4_place_X4 hH 0 rfl rfl 0 rfl (List.mem_of_getElem? (i := 2) rfl) rfl dX4_place_96 ?_
      refine lv_iload (pc := 99) hx hb dX4_place_99 (lv_at hl 2 rfl) ?_
      refine lv_iload (pc := 101) hx hb dX4_place_101 (lv_at hl 1 rfl) ?_
      obtain ⟨hin, h⟩ := zg h
      refine z_iast (pc := 103) (ws' := wP cy pq (upd zr4.2 (zr4.1).toNatClampNeg za3) p_size) X hH 1 rfl hin rfl dX4_place_103 (fun H locs hH => ?_)
      refine lv_aload_n (pc := 104) hx hb dX4_place_104 rfl (lv_at hl 0 rfl) ?_
      refine lv_dup (pc := 105) hx hb dX4_place_105 rfl ?_
      refine z_get (pc := 106) (v := .int p_size) X iX4_place_X4 hH 0 rfl rfl 1 rfl (List.mem_of_getElem? (i := 1) rfl) rfl dX4_place_106 ?_
      refine lv_iconst (v := 1) (pc := 109) hx hb dX4_place_109 zk_c1 ?_
      refine lv_iadd (pc := 110) hx hb dX4_place_110 ?_
      refine lv_topi (fun za5 eza5 => ?_)
      have h := vn_s h za5 eza5
      refine z_put (pc := 111) (v := .int za5) (ws' := wP cy pq (upd zr4.2 (zr4.1).toNatClampNeg za3) za5) X iX4_place_X4 tyX4 tyX4_ok nmX4 hH 0 rfl rfl 1 rfl (List.mem_of_getElem? (i := 1) rfl) rfl rfl rfl rfl rfl dX4_place_111 (fun H locs hH => ?_)
      obtain rfl := Option.some.inj h
      exact z_vret X hr hH dX4_place_114
    have h := zf zc2 h
    refine lv_iconst (v := 1) (pc := 40) hx hb dX4_place_40 zk_c1 ?_
    refine lv_goto (pc := 41) (tgt := 45) hx hb dX4_place_41 rfl ?_
    refine lv_ior (pc := 45) hx hb dX4_place_45 ?_
    refine lv_topi (fun za6 eza6 => ?_)
    have h := vn_s h za6 eza6
    refine lv_istore (pc := 46) (lv' := [(7, .int za6), (0, .ref (pq 0)), (1, .int x1), (2, .int x2), (3, .int x3), (4, .int x4), (5, .int x5), (6, .int x6)]) hx hb dX4_place_46 hl (by decide) rfl (fun ls hl => ?_)
    refine lv_aload_n (pc := 48) hx hb dX4_place_48 rfl (lv_at hl 1 rfl) ?_
    refine z_get (pc := 49) (v := .int p_size) X iX4_place_X4 hH 0 rfl rfl 1 rfl (List.mem_of_getElem? (i := 1) rfl) rfl dX4_place_49 ?_
    refine lv_istore (pc := 52) (lv' := [(8, .int p_size), (7, .int za6), (0, .ref (pq 0)), (1, .int x1), (2, .int x2), (3, .int x3), (4, .int x4), (5, .int x5), (6, .int x6)]) hx hb dX4_place_52 hl (by decide) rfl (fun ls hl => ?_)
    obtain ⟨zr7, hzr7, h⟩ := zb h
    refine w_X4_place_l54 G cy fu pq p_size za6 X fu p_size p_packed zr7 hzr7 _ _ _ hH (lv_sub hl [2, 1, 0] rfl) (fun H locs ls hH hl => ?_)
    refine lv_aload_n (pc := 95) hx hb dX4_place_95 rfl (lv_at hl 0 rfl) ?_
    refine z_get (pc := 96) (v := .ref (pq 1)) X iX4_place_X4 hH 0 rfl rfl 0 rfl (List.mem_of_getElem? (i := 2) rfl) rfl dX4_place_96 ?_
    refine lv_iload (pc := 99) hx hb dX4_place_99 (lv_at hl 2 rfl) ?_
    refine lv_iload (pc := 101) hx hb dX4_place_101 (lv_at hl 1 rfl) ?_
    obtain ⟨hin, h⟩ := zg h
    refine z_iast (pc := 103) (ws' := wP cy pq (upd zr7.2 (zr7.1).toNatClampNeg za6) p_size) X hH 1 rfl hin rfl dX4_place_103 (fun H locs hH => ?_)
    refine lv_aload_n (pc := 104) hx hb dX4_place_104 rfl (lv_at hl 0 rfl) ?_
    refine lv_dup (pc := 105) hx hb dX4_place_105 rfl ?_
    refine z_get (pc := 106) (v := .int p_size) X iX4_place_X4 hH 0 rfl rfl 1 rfl (List.mem_of_getElem? (i := 1) rfl) rfl dX4_place_106 ?_
    refine lv_iconst (v := 1) (pc := 109) hx hb dX4_place_109 zk_c1 ?_
    refine lv_iadd (pc := 110) hx hb dX4_place_110 ?_
    refine lv_topi (fun za8 eza8 => ?_)
    have h := vn_s h za8 eza8
    refine z_put (pc := 111) (v := .int za8) (ws' := wP cy pq (upd zr7.2 (zr7.1).toNatClampNeg za6) za8) X iX4_place_X4 tyX4 tyX4_ok nmX4 hH 0 rfl rfl 1 rfl (List.mem_of_getElem? (i := 1) rfl) rfl rfl rfl rfl rfl dX4_place_111 (fun H locs hH => ?_)
    obtain rfl := Option.some.inj h
    exact z_vret X hr hH dX4_place_114
  have h := zf zc1 h
  obtain rfl := Option.some.inj h
  exact z_vret X hr hH dX4_place_10
set_option maxHeartbeats 4000000 in
set_option maxRecDepth 100000 in
theorem c_X2_zero (l : Launch) (G : va_G) (cy : Nat → ClassId) (fu : Nat) (nq : Nat → Nat) (e_num : Nat → Int32) (e_und : Nat → Int32)  (rr : (Nat → Int32)) (h : f_X2_zero fu e_num = some rr) : zM l G cy yX2_zero wsX2_zero (zR 1 23) [.ref (nq 0)] (wE cy nq e_num e_und) (wE cy nq rr e_und) none := by
  refine zM.mk (cc := cX2_zero) (nL := 1) (ret := none) (by decide) rfl (Nat.le_of_ble_eq_true rfl) ?_
  intro p e s m below meth c A ls X hr hH hl
  replace X : zX p s m [.ref (nq 0)].toArray meth c RX2 cX2_zero 1 wsX2_zero G cy A := X
  have hx := X.1.1
  have hb := X.1.2.1
  replace hl : lv_has ls 1 [(0, .ref (nq 0))] := hl
  dsimp only [f_X2_zero] at h
  refine lv_aload_n (pc := 0) hx hb dX2_zero_0 rfl (lv_at hl 0 rfl) ?_
  refine z_get (pc := 1) (v := .ref (nq 1)) X iX2_zero_X2 hH 0 rfl rfl 0 rfl (List.mem_of_getElem? (i := 1) rfl) rfl dX2_zero_1 ?_
  refine lv_iconst (v := 0) (pc := 4) hx hb dX2_zero_4 zk_c0 ?_
  obtain ⟨zr1, hzr1, h⟩ := zb h
  refine zcS (pc := 5) (As := [.ref (nq 1), .int 0]) (rest := []) (st1 := []) (ws' := wE cy nq zr1 e_und) (wr := [((nq 0), .inr (1, [.ref (nq 1), .ref (nq 2)])), ((nq 2), .inl (cy 0, 256, .inl e_und))]) (n := 2) X (c_J7_fill_53178 l G cy fu (nq 1) 256 e_num 0 zr1 hzr1) hH [1] [0, 2] [0, 2, 1] rfl rfl rfl rfl gX2_zero_J7_fill_53178 rfl ⟨rfl, rfl⟩ kJ7_fill_53178 ⟨Nat.le_of_ble_eq_true rfl, Nat.le_of_ble_eq_true rfl⟩ rfl rfl rfl hl.1 (Nat.le_of_ble_eq_true rfl) ⟨Nat.le_of_ble_eq_true rfl, Nat.le_of_ble_eq_true rfl⟩ dX2_zero_5 (fun H locs hH => ?_)
  obtain rfl := Option.some.inj h
  exact z_vret X hr hH dX2_zero_8
set_option maxHeartbeats 4000000 in
set_option maxRecDepth 100000 in
theorem c_X8_isCell (l : Launch) (G : va_G) (cy : Nat → ClassId) (fu : Nat)   (x0 : Int32) (rr : Int32) (h : f_X8_isCell fu x0 = some rr) : zM l G cy yX8_isCell wsX8_isCell (zR 0 0) [.int x0] (([] : va_W)) (([] : va_W)) (some (.int rr)) := by
  refine zM.mk (cc := cX8_isCell) (nL := 1) (ret := (some .boolean)) (by decide) rfl (Nat.le_of_ble_eq_true rfl) ?_
  intro p e s m below meth c A ls X hr hH hl
  replace X : zX p s m [.int x0].toArray meth c RX8 cX8_isCell 1 wsX8_isCell G cy A := X
  have hx := X.1.1
  have hb := X.1.2.1
  replace hl : lv_has ls 1 [(0, .int x0)] := hl
  dsimp only [f_X8_isCell] at h
  refine lv_iload_n (pc := 0) hx hb dX8_isCell_0 rfl (lv_at hl 0 rfl) ?_
  refine lv_if_lt (pc := 1) (tgt := 15) hx hb dX8_isCell_1 rfl (fun zc1 => ?_) (fun zc1 => ?_)
  · have h := zt zc1 h
    refine lv_iconst (v := 0) (pc := 15) hx hb dX8_isCell_15 zk_c0 ?_
    obtain rfl := Option.some.inj h
    exact z_zret X hr (Or.inl rfl) hH dX8_isCell_16
  have h := zf zc1 h
  refine lv_iload_n (pc := 4) hx hb dX8_isCell_4 rfl (lv_at hl 0 rfl) ?_
  refine lv_sipush (v := 256) (pc := 5) hx hb dX8_isCell_5 zk_s256 ?_
  refine lv_icmp_ge (pc := 8) (tgt := 15) hx hb dX8_isCell_8 rfl (fun zc2 => ?_) (fun zc2 => ?_)
  · have h := zt zc2 h
    refine lv_iconst (v := 0) (pc := 15) hx hb dX8_isCell_15 zk_c0 ?_
    obtain rfl := Option.some.inj h
    exact z_zret X hr (Or.inl rfl) hH dX8_isCell_16
  have h := zf zc2 h
  refine lv_iconst (v := 1) (pc := 11) hx hb dX8_isCell_11 zk_c1 ?_
  refine lv_goto (pc := 12) (tgt := 16) hx hb dX8_isCell_12 rfl ?_
  obtain rfl := Option.some.inj h
  exact z_zret X hr (Or.inr rfl) hH dX8_isCell_16
set_option maxHeartbeats 4000000 in
set_option maxRecDepth 100000 in
theorem c_X2_value (l : Launch) (G : va_G) (cy : Nat → ClassId) (fu : Nat) (nq : Nat → Nat) (e_num : Nat → Int32) (e_und : Nat → Int32) (x1 : Int32) (rr : Int32) (h : f_X2_value fu e_num x1 = some rr) : zM l G cy yX2_value wsX2_value (zR 1 20) [.ref (nq 0), .int x1] (wE cy nq e_num e_und) (wE cy nq e_num e_und) (some (.int rr)) := by
  refine zM.mk (cc := cX2_value) (nL := 2) (ret := (some .int)) (by decide) rfl (Nat.le_of_ble_eq_true rfl) ?_
  intro p e s m below meth c A ls X hr hH hl
  replace X : zX p s m [.ref (nq 0), .int x1].toArray meth c RX2 cX2_value 2 wsX2_value G cy A := X
  have hx := X.1.1
  have hb := X.1.2.1
  replace hl : lv_has ls 2 [(0, .ref (nq 0)), (1, .int x1)] := hl
  dsimp only [f_X2_value] at h
  refine lv_iload_n (pc := 0) hx hb dX2_value_0 rfl (lv_at hl 1 rfl) ?_
  obtain ⟨zr1, hzr1, h⟩ := zb h
  refine zcN (pc := 1) (As := [.int x1]) (rest := []) (st1 := [.int zr1]) (ws' := wE cy nq e_num e_und) (wr := [((nq 0), .inr (1, [.ref (nq 1), .ref (nq 2)])), ((nq 1), .inl (cy 0, 256, .inl e_num)), ((nq 2), .inl (cy 0, 256, .inl e_und))]) (n := 1) (host := "SumsToAll") X (c_X8_isCell l G cy fu x1 zr1 hzr1) hH [] [0, 1, 2] [0, 1, 2] rfl rfl rfl rfl gX2_value_X8_isCell_n24 (List.mem_of_getElem? (i := 6) rfl) (List.mem_of_getElem? (i := 3) rfl) (List.mem_of_getElem? (i := 2) rfl) rfl ⟨rfl, rfl⟩ kX8_isCell ⟨Nat.le_of_ble_eq_true rfl, Nat.le_of_ble_eq_true rfl⟩ rfl rfl rfl hl.1 (Nat.le_of_ble_eq_true rfl) ⟨Nat.le_of_ble_eq_true rfl, Nat.le_of_ble_eq_true rfl⟩ dX2_value_1 (fun H locs hH => ?_)
  refine lv_if_eq (pc := 4) (tgt := 16) hx hb dX2_value_4 rfl (fun zc2 => ?_) (fun zc2 => ?_)
  · have h := zt zc2 h
    refine lv_iconst (v := 0) (pc := 16) hx hb dX2_value_16 zk_c0 ?_
    obtain rfl := Option.some.inj h
    exact z_iret X hr hH dX2_value_17
  have h := zf zc2 h
  refine lv_aload_n (pc := 7) hx hb dX2_value_7 rfl (lv_at hl 0 rfl) ?_
  refine z_get (pc := 8) (v := .ref (nq 1)) X iX2_value_X2 hH 0 rfl rfl 0 rfl (List.mem_of_getElem? (i := 1) rfl) rfl dX2_value_8 ?_
  refine lv_iload_n (pc := 11) hx hb dX2_value_11 rfl (lv_at hl 1 rfl) ?_
  obtain ⟨hin, h⟩ := zg h
  refine z_iald (pc := 12) X hH 1 rfl hin dX2_value_12 ?_
  refine lv_goto (pc := 13) (tgt := 17) hx hb dX2_value_13 rfl ?_
  obtain rfl := Option.some.inj h
  exact z_iret X hr hH dX2_value_17
set_option maxHeartbeats 4000000 in
set_option maxRecDepth 100000 in
theorem c_X2_change (l : Launch) (G : va_G) (cy : Nat → ClassId) (fu : Nat) (nq : Nat → Nat) (e_num : Nat → Int32) (e_und : Nat → Int32) (x1 : Int32) (x2 : Int32) (rr : (Nat → Int32)) (h : f_X2_change fu e_num x1 x2 = some rr) : zM l G cy yX2_change wsX2_change (zR 1 20) [.ref (nq 0), .int x1, .int x2] (wE cy nq e_num e_und) (wE cy nq rr e_und) none := by
  refine zM.mk (cc := cX2_change) (nL := 3) (ret := none) (by decide) rfl (Nat.le_of_ble_eq_true rfl) ?_
  intro p e s m below meth c A ls X hr hH hl
  replace X : zX p s m [.ref (nq 0), .int x1, .int x2].toArray meth c RX2 cX2_change 3 wsX2_change G cy A := X
  have hx := X.1.1
  have hb := X.1.2.1
  replace hl : lv_has ls 3 [(0, .ref (nq 0)), (1, .int x1), (2, .int x2)] := hl
  dsimp only [f_X2_change] at h
  refine lv_iload_n (pc := 0) hx hb dX2_change_0 rfl (lv_at hl 1 rfl) ?_
  obtain ⟨zr1, hzr1, h⟩ := zb h
  refine zcN (pc := 1) (As := [.int x1]) (rest := []) (st1 := [.int zr1]) (ws' := wE cy nq e_num e_und) (wr := [((nq 0), .inr (1, [.ref (nq 1), .ref (nq 2)])), ((nq 1), .inl (cy 0, 256, .inl e_num)), ((nq 2), .inl (cy 0, 256, .inl e_und))]) (n := 1) (host := "SumsToAll") X (c_X8_isCell l G cy fu x1 zr1 hzr1) hH [] [0, 1, 2] [0, 1, 2] rfl rfl rfl rfl gX2_change_X8_isCell_n24 (List.mem_of_getElem? (i := 6) rfl) (List.mem_of_getElem? (i := 3) rfl) (List.mem_of_getElem? (i := 2) rfl) rfl ⟨rfl, rfl⟩ kX8_isCell ⟨Nat.le_of_ble_eq_true rfl, Nat.le_of_ble_eq_true rfl⟩ rfl rfl rfl hl.1 (Nat.le_of_ble_eq_true rfl) ⟨Nat.le_of_ble_eq_true rfl, Nat.le_of_ble_eq_true rfl⟩ dX2_change_1 (fun H locs hH => ?_)
  refine lv_if_eq (pc := 4) (tgt := 14) hx hb dX2_change_4 rfl (fun zc2 => ?_) (fun zc2 => ?_)
  · have h := zt zc2 h
    obtain rfl := Option.some.inj h
    exact z_vret X hr hH dX2_change_14
  have h := zf zc2 h
  refine lv_aload_n (pc := 7) hx hb dX2_change_7 rfl (lv_at hl 0 rfl) ?_
  refine z_get (pc := 8) (v := .ref (nq 1)) X iX2_change_X2 hH 0 rfl rfl 0 rfl (List.mem_of_getElem? (i := 1) rfl) rfl dX2_change_8 ?_
  refine lv_iload_n (pc := 11) hx hb dX2_change_11 rfl (lv_at hl 1 rfl) ?_
  refine lv_iload_n (pc := 12) hx hb dX2_change_12 rfl (lv_at hl 2 rfl) ?_
  obtain ⟨hin, h⟩ := zg h
  refine z_iast (pc := 13) (ws' := wE cy nq (upd e_num (x1).toNatClampNeg x2) e_und) X hH 1 rfl hin rfl dX2_change_13 (fun H locs hH => ?_)
  obtain rfl := Option.some.inj h
  exact z_vret X hr hH dX2_change_14
set_option maxHeartbeats 4000000 in
set_option maxRecDepth 100000 in
theorem c_X2_takeUp (l : Launch) (G : va_G) (cy : Nat → ClassId) (fu : Nat) (nq : Nat → Nat) (e_num : Nat → Int32) (e_und : Nat → Int32) (x1 : Int32) (x2 : Int32) (rr : (Nat → Int32)) (h : f_X2_takeUp fu e_num e_und x1 x2 = some rr) : zM l G cy yX2_takeUp wsX2_takeUp (zR 1 20) [.ref (nq 0), .int x1, .int x2] (wE cy nq e_num e_und) (wE cy nq e_num rr) none := by
  refine zM.mk (cc := cX2_takeUp) (nL := 3) (ret := none) (by decide) rfl (Nat.le_of_ble_eq_true rfl) ?_
  intro p e s m below meth c A ls X hr hH hl
  replace X : zX p s m [.ref (nq 0), .int x1, .int x2].toArray meth c RX2 cX2_takeUp 3 wsX2_takeUp G cy A := X
  have hx := X.1.1
  have hb := X.1.2.1
  replace hl : lv_has ls 3 [(0, .ref (nq 0)), (1, .int x1), (2, .int x2)] := hl
  dsimp only [f_X2_takeUp] at h
  refine lv_iload_n (pc := 0) hx hb dX2_takeUp_0 rfl (lv_at hl 1 rfl) ?_
  obtain ⟨zr1, hzr1, h⟩ := zb h
  refine zcN (pc := 1) (As := [.int x1]) (rest := []) (st1 := [.int zr1]) (ws' := wE cy nq e_num e_und) (wr := [((nq 0), .inr (1, [.ref (nq 1), .ref (nq 2)])), ((nq 1), .inl (cy 0, 256, .inl e_num)), ((nq 2), .inl (cy 0, 256, .inl e_und))]) (n := 1) (host := "SumsToAll") X (c_X8_isCell l G cy fu x1 zr1 hzr1) hH [] [0, 1, 2] [0, 1, 2] rfl rfl rfl rfl gX2_takeUp_X8_isCell_n24 (List.mem_of_getElem? (i := 6) rfl) (List.mem_of_getElem? (i := 4) rfl) (List.mem_of_getElem? (i := 3) rfl) rfl ⟨rfl, rfl⟩ kX8_isCell ⟨Nat.le_of_ble_eq_true rfl, Nat.le_of_ble_eq_true rfl⟩ rfl rfl rfl hl.1 (Nat.le_of_ble_eq_true rfl) ⟨Nat.le_of_ble_eq_true rfl, Nat.le_of_ble_eq_true rfl⟩ dX2_takeUp_1 (fun H locs hH => ?_)
  refine lv_if_eq (pc := 4) (tgt := 26) hx hb dX2_takeUp_4 rfl (fun zc2 => ?_) (fun zc2 => ?_)
  · have h := zt zc2 h
    obtain rfl := Option.some.inj h
    exact z_vret X hr hH dX2_takeUp_26
  have h := zf zc2 h
  refine lv_iload_n (pc := 7) hx hb dX2_takeUp_7 rfl (lv_at hl 2 rfl) ?_
  obtain ⟨zr3, hzr3, h⟩ := zb h
  refine zcN (pc := 8) (As := [.int x2]) (rest := []) (st1 := [.int zr3]) (ws' := wE cy nq e_num e_und) (wr := [((nq 0), .inr (1, [.ref (nq 1), .ref (nq 2)])), ((nq 1), .inl (cy 0, 256, .inl e_num)), ((nq 2), .inl (cy 0, 256, .inl e_und))]) (n := 1) (host := "SumsToAll") X (c_X8_isCell l G cy fu x2 zr3 hzr3) hH [] [0, 1, 2] [0, 1, 2] rfl rfl rfl rfl gX2_takeUp_X8_isCell_n24 (List.mem_of_getElem? (i := 6) rfl) (List.mem_of_getElem? (i := 4) rfl) (List.mem_of_getElem? (i := 3) rfl) rfl ⟨rfl, rfl⟩ kX8_isCell ⟨Nat.le_of_ble_eq_true rfl, Nat.le_of_ble_eq_true rfl⟩ rfl rfl rfl hl.1 (Nat.le_of_ble_eq_true rfl) ⟨Nat.le_of_ble_eq_true rfl, Nat.le_of_ble_eq_true rfl⟩ dX2_takeUp_8 (fun H locs hH => ?_)
  refine lv_if_eq (pc := 11) (tgt := 26) hx hb dX2_takeUp_11 rfl (fun zc4 => ?_) (fun zc4 => ?_)
  · have h := zt zc4 h
    obtain rfl := Option.some.inj h
    exact z_vret X hr hH dX2_takeUp_26
  have h := zf zc4 h
  refine lv_aload_n (pc := 14) hx hb dX2_takeUp_14 rfl (lv_at hl 0 rfl) ?_
  refine z_get (pc := 15) (v := .ref (nq 2)) X iX2_takeUp_X2 hH 0 rfl rfl 1 rfl (List.mem_of_getElem? (i := 1) rfl) rfl dX2_takeUp_15 ?_
  refine lv_iload_n (pc := 18) hx hb dX2_takeUp_18 rfl (lv_at hl 2 rfl) ?_
  refine lv_aload_n (pc := 19) hx hb dX2_takeUp_19 rfl (lv_at hl 0 rfl) ?_
  refine z_get (pc := 20) (v := .ref (nq 1)) X iX2_takeUp_X2 hH 0 rfl rfl 0 rfl (List.mem_of_getElem? (i := 2) rfl) rfl dX2_takeUp_20 ?_
  refine lv_iload_n (pc := 23) hx hb dX2_takeUp_23 rfl (lv_at hl 1 rfl) ?_
  obtain ⟨hin, h⟩ := zg h
  refine z_iald (pc := 24) X hH 1 rfl hin dX2_takeUp_24 ?_
  obtain ⟨hin, h⟩ := zg h
  refine z_iast (pc := 25) (ws' := wE cy nq e_num (upd e_und (x2).toNatClampNeg (e_num (x1).toNatClampNeg))) X hH 2 rfl hin rfl dX2_takeUp_25 (fun H locs hH => ?_)
  obtain rfl := Option.some.inj h
  exact z_vret X hr hH dX2_takeUp_26
set_option maxHeartbeats 4000000 in
set_option maxRecDepth 100000 in
theorem c_X2_putDown (l : Launch) (G : va_G) (cy : Nat → ClassId) (fu : Nat) (nq : Nat → Nat) (e_num : Nat → Int32) (e_und : Nat → Int32) (x1 : Int32) (rr : (Nat → Int32)) (h : f_X2_putDown fu e_num e_und x1 = some rr) : zM l G cy yX2_putDown wsX2_putDown (zR 1 20) [.ref (nq 0), .int x1] (wE cy nq e_num e_und) (wE cy nq rr e_und) none := by
  refine zM.mk (cc := cX2_putDown) (nL := 2) (ret := none) (by decide) rfl (Nat.le_of_ble_eq_true rfl) ?_
  intro p e s m below meth c A ls X hr hH hl
  replace X : zX p s m [.ref (nq 0), .int x1].toArray meth c RX2 cX2_putDown 2 wsX2_putDown G cy A := X
  have hx := X.1.1
  have hb := X.1.2.1
  replace hl : lv_has ls 2 [(0, .ref (nq 0)), (1, .int x1)] := hl
  dsimp only [f_X2_putDown] at h
  refine lv_iload_n (pc := 0) hx hb dX2_putDown_0 rfl (lv_at hl 1 rfl) ?_
  obtain ⟨zr1, hzr1, h⟩ := zb h
  refine zcN (pc := 1) (As := [.int x1]) (rest := []) (st1 := [.int zr1]) (ws' := wE cy nq e_num e_und) (wr := [((nq 0), .inr (1, [.ref (nq 1), .ref (nq 2)])), ((nq 1), .inl (cy 0, 256, .inl e_num)), ((nq 2), .inl (cy 0, 256, .inl e_und))]) (n := 1) (host := "SumsToAll") X (c_X8_isCell l G cy fu x1 zr1 hzr1) hH [] [0, 1, 2] [0, 1, 2] rfl rfl rfl rfl gX2_putDown_X8_isCell_n24 (List.mem_of_getElem? (i := 6) rfl) (List.mem_of_getElem? (i := 4) rfl) (List.mem_of_getElem? (i := 3) rfl) rfl ⟨rfl, rfl⟩ kX8_isCell ⟨Nat.le_of_ble_eq_true rfl, Nat.le_of_ble_eq_true rfl⟩ rfl rfl rfl hl.1 (Nat.le_of_ble_eq_true rfl) ⟨Nat.le_of_ble_eq_true rfl, Nat.le_of_ble_eq_true rfl⟩ dX2_putDown_1 (fun H locs hH => ?_)
  refine lv_if_eq (pc := 4) (tgt := 19) hx hb dX2_putDown_4 rfl (fun zc2 => ?_) (fun zc2 => ?_)
  · have h := zt zc2 h
    obtain rfl := Option.some.inj h
    exact z_vret X hr hH dX2_putDown_19
  have h := zf zc2 h
  refine lv_aload_n (pc := 7) hx hb dX2_putDown_7 rfl (lv_at hl 0 rfl) ?_
  refine z_get (pc := 8) (v := .ref (nq 1)) X iX2_putDown_X2 hH 0 rfl rfl 0 rfl (List.mem_of_getElem? (i := 1) rfl) rfl dX2_putDown_8 ?_
  refine lv_iload_n (pc := 11) hx hb dX2_putDown_11 rfl (lv_at hl 1 rfl) ?_
  refine lv_aload_n (pc := 12) hx hb dX2_putDown_12 rfl (lv_at hl 0 rfl) ?_
  refine z_get (pc := 13) (v := .ref (nq 2)) X iX2_putDown_X2 hH 0 rfl rfl 1 rfl (List.mem_of_getElem? (i := 2) rfl) rfl dX2_putDown_13 ?_
  refine lv_iload_n (pc := 16) hx hb dX2_putDown_16 rfl (lv_at hl 1 rfl) ?_
  obtain ⟨hin, h⟩ := zg h
  refine z_iald (pc := 17) X hH 2 rfl hin dX2_putDown_17 ?_
  obtain ⟨hin, h⟩ := zg h
  refine z_iast (pc := 18) (ws' := wE cy nq (upd e_num (x1).toNatClampNeg (e_und (x1).toNatClampNeg)) e_und) X hH 1 rfl hin rfl dX2_putDown_18 (fun H locs hH => ?_)
  obtain rfl := Option.some.inj h
  exact z_vret X hr hH dX2_putDown_19
set_option maxHeartbeats 4000000 in
set_option maxRecDepth 100000 in
theorem c_X2_addDown (l : Launch) (G : va_G) (cy : Nat → ClassId) (fu : Nat) (nq : Nat → Nat) (e_num : Nat → Int32) (e_und : Nat → Int32) (x1 : Int32) (rr : (Nat → Int32)) (h : f_X2_addDown fu e_num e_und x1 = some rr) : zM l G cy yX2_addDown wsX2_addDown (zR 1 20) [.ref (nq 0), .int x1] (wE cy nq e_num e_und) (wE cy nq rr e_und) none := by
  refine zM.mk (cc := cX2_addDown) (nL := 2) (ret := none) (by decide) rfl (Nat.le_of_ble_eq_true rfl) ?_
  intro p e s m below meth c A ls X hr hH hl
  replace X : zX p s m [.ref (nq 0), .int x1].toArray meth c RX2 cX2_addDown 2 wsX2_addDown G cy A := X
  have hx := X.1.1
  have hb := X.1.2.1
  replace hl : lv_has ls 2 [(0, .ref (nq 0)), (1, .int x1)] := hl
  dsimp only [f_X2_addDown] at h
  refine lv_iload_n (pc := 0) hx hb dX2_addDown_0 rfl (lv_at hl 1 rfl) ?_
  obtain ⟨zr1, hzr1, h⟩ := zb h
  refine zcN (pc := 1) (As := [.int x1]) (rest := []) (st1 := [.int zr1]) (ws' := wE cy nq e_num e_und) (wr := [((nq 0), .inr (1, [.ref (nq 1), .ref (nq 2)])), ((nq 1), .inl (cy 0, 256, .inl e_num)), ((nq 2), .inl (cy 0, 256, .inl e_und))]) (n := 1) (host := "SumsToAll") X (c_X8_isCell l G cy fu x1 zr1 hzr1) hH [] [0, 1, 2] [0, 1, 2] rfl rfl rfl rfl gX2_addDown_X8_isCell_n24 (List.mem_of_getElem? (i := 6) rfl) (List.mem_of_getElem? (i := 4) rfl) (List.mem_of_getElem? (i := 3) rfl) rfl ⟨rfl, rfl⟩ kX8_isCell ⟨Nat.le_of_ble_eq_true rfl, Nat.le_of_ble_eq_true rfl⟩ rfl rfl rfl hl.1 (Nat.le_of_ble_eq_true rfl) ⟨Nat.le_of_ble_eq_true rfl, Nat.le_of_ble_eq_true rfl⟩ dX2_addDown_1 (fun H locs hH => ?_)
  refine lv_if_eq (pc := 4) (tgt := 22) hx hb dX2_addDown_4 rfl (fun zc2 => ?_) (fun zc2 => ?_)
  · have h := zt zc2 h
    obtain rfl := Option.some.inj h
    exact z_vret X hr hH dX2_addDown_22
  have h := zf zc2 h
  refine lv_aload_n (pc := 7) hx hb dX2_addDown_7 rfl (lv_at hl 0 rfl) ?_
  refine z_get (pc := 8) (v := .ref (nq 1)) X iX2_addDown_X2 hH 0 rfl rfl 0 rfl (List.mem_of_getElem? (i := 1) rfl) rfl dX2_addDown_8 ?_
  refine lv_iload_n (pc := 11) hx hb dX2_addDown_11 rfl (lv_at hl 1 rfl) ?_
  refine lv_dup2_11 (pc := 12) hx hb dX2_addDown_12 rfl rfl ?_
  obtain ⟨hin, h⟩ := zg h
  refine z_iald (pc := 13) X hH 1 rfl hin dX2_addDown_13 ?_
  refine lv_aload_n (pc := 14) hx hb dX2_addDown_14 rfl (lv_at hl 0 rfl) ?_
  refine z_get (pc := 15) (v := .ref (nq 2)) X iX2_addDown_X2 hH 0 rfl rfl 1 rfl (List.mem_of_getElem? (i := 2) rfl) rfl dX2_addDown_15 ?_
  refine lv_iload_n (pc := 18) hx hb dX2_addDown_18 rfl (lv_at hl 1 rfl) ?_
  obtain ⟨hin, h⟩ := zg h
  refine z_iald (pc := 19) X hH 2 rfl hin dX2_addDown_19 ?_
  refine lv_iadd (pc := 20) hx hb dX2_addDown_20 ?_
  obtain ⟨hin, h⟩ := zg h
  refine z_iast (pc := 21) (ws' := wE cy nq (upd e_num (x1).toNatClampNeg ((e_num (x1).toNatClampNeg) + (e_und (x1).toNatClampNeg))) e_und) X hH 1 rfl hin rfl dX2_addDown_21 (fun H locs hH => ?_)
  obtain rfl := Option.some.inj h
  exact z_vret X hr hH dX2_addDown_22
set_option maxHeartbeats 4000000 in
set_option maxRecDepth 100000 in
theorem c_X6_signOf (l : Launch) (G : va_G) (cy : Nat → ClassId) (fu : Nat) (sq : Nat → Nat) (s_some : Nat → Int64) (s_more : Nat → Int64) (s_sund : Nat → Int64) (s_mund : Nat → Int64) (s_group : Int32) (x1 : Int32) (rr : Int64) (h : f_X6_signOf fu s_group x1 = some rr) : zM l G cy yX6_signOf wsX6_signOf (zR 0 0) [.ref (sq 0), .int x1] (wG cy sq s_some s_more s_sund s_mund s_group) (wG cy sq s_some s_more s_sund s_mund s_group) (some (.long rr)) := by
  refine zM.mk (cc := cX6_signOf) (nL := 3) (ret := (some .long)) (by decide) rfl (Nat.le_of_ble_eq_true rfl) ?_
  intro p e s m below meth c A ls X hr hH hl
  replace X : zX p s m [.ref (sq 0), .int x1].toArray meth c RX6 cX6_signOf 3 wsX6_signOf G cy A := X
  have hx := X.1.1
  have hb := X.1.2.1
  replace hl : lv_has ls 3 [(0, .ref (sq 0)), (1, .int x1)] := hl
  dsimp only [f_X6_signOf] at h
  refine lv_iload_n (pc := 0) hx hb dX6_signOf_0 rfl (lv_at hl 1 rfl) ?_
  refine lv_aload_n (pc := 1) hx hb dX6_signOf_1 rfl (lv_at hl 0 rfl) ?_
  refine z_get (pc := 2) (v := .int s_group) X iX6_signOf_X6 hH 0 rfl rfl 4 rfl (List.mem_of_getElem? (i := 1) rfl) rfl dX6_signOf_2 ?_
  refine lv_bipush (v := 64) (pc := 5) hx hb dX6_signOf_5 zk_b64 ?_
  refine lv_imul (pc := 7) hx hb dX6_signOf_7 ?_
  refine lv_isub (pc := 8) hx hb dX6_signOf_8 ?_
  refine lv_topi (fun za1 eza1 => ?_)
  have h := vn_s h za1 eza1
  refine lv_istore_n (pc := 9) (lv' := [(2, .int za1), (0, .ref (sq 0)), (1, .int x1)]) hx hb dX6_signOf_9 rfl hl (by decide) rfl (fun ls hl => ?_)
  refine lv_iload_n (pc := 10) hx hb dX6_signOf_10 rfl (lv_at hl 0 rfl) ?_
  refine lv_if_lt (pc := 11) (tgt := 26) hx hb dX6_signOf_11 rfl (fun zc2 => ?_) (fun zc2 => ?_)
  · have h := zt zc2 h
    refine lv_lconst (pc := 26) (v := 0) hx hb dX6_signOf_26 zk_l0 ?_
    obtain rfl := Option.some.inj h
    exact z_lret X hr hH dX6_signOf_27
  have h := zf zc2 h
  refine lv_iload_n (pc := 14) hx hb dX6_signOf_14 rfl (lv_at hl 0 rfl) ?_
  refine lv_bipush (v := 64) (pc := 15) hx hb dX6_signOf_15 zk_b64 ?_
  refine lv_icmp_ge (pc := 17) (tgt := 26) hx hb dX6_signOf_17 rfl (fun zc3 => ?_) (fun zc3 => ?_)
  · have h := zt zc3 h
    refine lv_lconst (pc := 26) (v := 0) hx hb dX6_signOf_26 zk_l0 ?_
    obtain rfl := Option.some.inj h
    exact z_lret X hr hH dX6_signOf_27
  have h := zf zc3 h
  refine lv_lconst (pc := 20) (v := 1) hx hb dX6_signOf_20 zk_l1 ?_
  refine lv_iload_n (pc := 21) hx hb dX6_signOf_21 rfl (lv_at hl 0 rfl) ?_
  refine lv_lshl (pc := 22) hx hb dX6_signOf_22 rfl ?_
  refine lv_goto (pc := 23) (tgt := 27) hx hb dX6_signOf_23 rfl ?_
  obtain rfl := Option.some.inj h
  exact z_lret X hr hH dX6_signOf_27
set_option maxHeartbeats 4000000 in
set_option maxRecDepth 100000 in
theorem w_X6_begin_l7 {p : Program} {l : Launch} {e : Env} {s : State} {m : MethodId} {args : Array Value} {below : List Frame} {meth : Method} {c : Code} {A : Nat → Prop} {Q : State → Prop} (G : va_G) (cy : Nat → ClassId) (fu : Nat) (sq : Nat → Nat) (s_sund : Nat → Int64) (s_mund : Nat → Int64) (s_group : Int32) (X : zX p s m args meth c RX6 cX6_begin 3 wsX6_begin G cy A) : ∀ (n : Nat) (x2 : Int32) (s_some : Nat → Int64) (s_more : Nat → Int64) (rr : (Nat → Int64) × (Nat → Int64)) (h : lp (f_X6_begin_l7 fu s_group) n (x2, s_some, s_more) = some rr) (H : Heap) (locs : List Loc) (ls : Array Slot) (hH : zH G A s.heap (wG cy sq s_some s_more s_sund s_mund s_group) H locs) (hl : lv_has ls 3 [(0, .ref (sq 0)), (2, .int x2)]) (K0 : ∀ (H : Heap) (locs : List Loc) (ls : Array Slot), zH G A s.heap (wG cy sq rr.1 rr.2 s_sund s_mund s_group) H locs → lv_has ls 3 [] → W p l e (zR 1 22) s m args below meth c H locs 0 0 Q (F0 m 38 ls [])), W p l e (zR 1 22) s m args below meth c H locs 0 0 Q (F0 m 7 ls []) := by
  have hx := X.1.1
  have hb := X.1.2.1
  intro n
  induction n with
  | zero => intro x2 s_some s_more rr h H locs ls hH hl K0; cases h
  | succ n ih =>
    intro x2 s_some s_more rr h H locs ls hH hl K0
    replace h : f_X6_begin_l7 fu s_group (lp (f_X6_begin_l7 fu s_group) n) (x2, s_some, s_more) = some rr := h
    dsimp only [f_X6_begin_l7] at h
    refine lv_iload_n (pc := 7) hx hb dX6_begin_7 rfl (lv_at hl 1 rfl) ?_
    refine lv_sipush (v := 256) (pc := 8) hx hb dX6_begin_8 zk_s256 ?_
    refine lv_icmp_ge (pc := 11) (tgt := 38) hx hb dX6_begin_11 rfl (fun zc1 => ?_) (fun zc1 => ?_)
    · have h := zt zc1 h
      obtain rfl := Option.some.inj h
      exact K0 _ _ _ hH (lv_sub hl [] rfl)
    have h := zf zc1 h
    refine lv_aload_n (pc := 14) hx hb dX6_begin_14 rfl (lv_at hl 0 rfl) ?_
    refine z_get (pc := 15) (v := .ref (sq 1)) X iX6_begin_X6 hH 0 rfl rfl 0 rfl (List.mem_of_getElem? (i := 2) rfl) rfl dX6_begin_15 ?_
    refine lv_iload_n (pc := 18) hx hb dX6_begin_18 rfl (lv_at hl 1 rfl) ?_
    refine lv_aload_n (pc := 19) hx hb dX6_begin_19 rfl (lv_at hl 0 rfl) ?_
    refine lv_iload_n (pc := 20) hx hb dX6_begin_20 rfl (lv_at hl 1 rfl) ?_
    obtain ⟨zr2, hzr2, h⟩ := zb h
    refine zcV (pc := 21) (As := [.int x2]) (rest := [.int x2, .ref (sq 1)]) (st1 := [.long zr2, .int x2, .ref (sq 1)]) (ws' := wG cy sq s_some s_more s_sund s_mund s_group) (wr := []) (n := 1) (q0 := 0) X (c_X6_signOf l G cy fu sq s_some s_more s_sund s_mund s_group x2 zr2 hzr2) hH [0, 1, 2, 3, 4] [] [0, 1, 2, 3, 4] rfl rfl rfl rfl gX6_begin_X6_signOf rfl ⟨rfl, rfl⟩ kX6_signOf ⟨Nat.le_of_ble_eq_true rfl, Nat.le_of_ble_eq_true rfl⟩ rfl rfl rfl rfl rfl hl.1 (Nat.le_of_ble_eq_true rfl) ⟨Nat.le_of_ble_eq_true rfl, Nat.le_of_ble_eq_true rfl⟩ dX6_begin_21 (fun H locs hH => ?_)
    obtain ⟨hin, h⟩ := zg h
    refine z_last (pc := 24) (ws' := wG cy sq (vp_updL s_some (x2).toNatClampNeg zr2) s_more s_sund s_mund s_group) X hH 1 rfl hin rfl dX6_begin_24 (fun H locs hH => ?_)
    refine lv_aload_n (pc := 25) hx hb dX6_begin_25 rfl (lv_at hl 0 rfl) ?_
    refine z_get (pc := 26) (v := .ref (sq 2)) X iX6_begin_X6 hH 0 rfl rfl 1 rfl (List.mem_of_getElem? (i := 3) rfl) rfl dX6_begin_26 ?_
    refine lv_iload_n (pc := 29) hx hb dX6_begin_29 rfl (lv_at hl 1 rfl) ?_
    refine lv_lconst (pc := 30) (v := 0) hx hb dX6_begin_30 zk_l0 ?_
    obtain ⟨hin, h⟩ := zg h
    refine z_last (pc := 31) (ws' := wG cy sq (vp_updL s_some (x2).toNatClampNeg zr2) (vp_updL s_more (x2).toNatClampNeg 0) s_sund s_mund s_group) X hH 2 rfl hin rfl dX6_begin_31 (fun H locs hH => ?_)
    refine lv_iinc (pc := 32) (v := (x2 + 1)) (lv' := [(2, .int (x2 + 1)), (0, .ref (sq 0))]) hx hb dX6_begin_32 hl (k := 1) rfl (by rw [zk_c1]) (by decide) rfl (fun ls hl => ?_)
    refine lv_goto (pc := 35) (tgt := 7) hx hb dX6_begin_35 rfl ?_
    exact ih (x2 + 1) (vp_updL s_some (x2).toNatClampNeg zr2) (vp_updL s_more (x2).toNatClampNeg 0) rr h _ _ _ hH (lv_sub hl [1, 0] rfl) K0
set_option maxHeartbeats 4000000 in
set_option maxRecDepth 100000 in
theorem c_X6_begin (l : Launch) (G : va_G) (cy : Nat → ClassId) (fu : Nat) (sq : Nat → Nat) (s_some : Nat → Int64) (s_more : Nat → Int64) (s_sund : Nat → Int64) (s_mund : Nat → Int64) (s_group : Int32) (x1 : Int32) (rr : (Nat → Int64) × (Nat → Int64) × Int32) (h : f_X6_begin fu s_some s_more x1 = some rr) : zM l G cy yX6_begin wsX6_begin (zR 1 22) [.ref (sq 0), .int x1] (wG cy sq s_some s_more s_sund s_mund s_group) (wG cy sq rr.1 rr.2.1 s_sund s_mund rr.2.2) none := by
  refine zM.mk (cc := cX6_begin) (nL := 3) (ret := none) (by decide) rfl (Nat.le_of_ble_eq_true rfl) ?_
  intro p e s m below meth c A ls X hr hH hl
  replace X : zX p s m [.ref (sq 0), .int x1].toArray meth c RX6 cX6_begin 3 wsX6_begin G cy A := X
  have hx := X.1.1
  have hb := X.1.2.1
  replace hl : lv_has ls 3 [(0, .ref (sq 0)), (1, .int x1)] := hl
  dsimp only [f_X6_begin] at h
  refine lv_aload_n (pc := 0) hx hb dX6_begin_0 rfl (lv_at hl 0 rfl) ?_
  refine lv_iload_n (pc := 1) hx hb dX6_begin_1 rfl (lv_at hl 1 rfl) ?_
  refine z_put (pc := 2) (v := .int x1) (ws' := wG cy sq s_some s_more s_sund s_mund x1) X iX6_begin_X6 tyX6 tyX6_ok nmX6 hH 0 rfl rfl 4 rfl (List.mem_of_getElem? (i := 1) rfl) rfl rfl rfl rfl rfl dX6_begin_2 (fun H locs hH => ?_)
  refine lv_iconst (v := 0) (pc := 5) hx hb dX6_begin_5 zk_c0 ?_
  refine lv_istore_n (pc := 6) (lv' := [(2, .int 0), (0, .ref (sq 0)), (1, .int x1)]) hx hb dX6_begin_6 rfl hl (by decide) rfl (fun ls hl => ?_)
  obtain ⟨zr1, hzr1, h⟩ := zb h
  refine w_X6_begin_l7 G cy fu sq s_sund s_mund x1 X fu 0 s_some s_more zr1 hzr1 _ _ _ hH (lv_sub hl [1, 0] rfl) (fun H locs ls hH hl => ?_)
  obtain rfl := Option.some.inj h
  exact z_vret X hr hH dX6_begin_38
set_option maxHeartbeats 4000000 in
set_option maxRecDepth 100000 in
theorem c_X6_takeUp (l : Launch) (G : va_G) (cy : Nat → ClassId) (fu : Nat) (sq : Nat → Nat) (s_some : Nat → Int64) (s_more : Nat → Int64) (s_sund : Nat → Int64) (s_mund : Nat → Int64) (s_group : Int32) (x1 : Int32) (x2 : Int32) (rr : (Nat → Int64) × (Nat → Int64)) (h : f_X6_takeUp fu s_some s_more s_sund s_mund x1 x2 = some rr) : zM l G cy yX6_takeUp wsX6_takeUp (zR 1 20) [.ref (sq 0), .int x1, .int x2] (wG cy sq s_some s_more s_sund s_mund s_group) (wG cy sq s_some s_more rr.1 rr.2 s_group) none := by
  refine zM.mk (cc := cX6_takeUp) (nL := 3) (ret := none) (by decide) rfl (Nat.le_of_ble_eq_true rfl) ?_
  intro p e s m below meth c A ls X hr hH hl
  replace X : zX p s m [.ref (sq 0), .int x1, .int x2].toArray meth c RX6 cX6_takeUp 3 wsX6_takeUp G cy A := X
  have hx := X.1.1
  have hb := X.1.2.1
  replace hl : lv_has ls 3 [(0, .ref (sq 0)), (1, .int x1), (2, .int x2)] := hl
  dsimp only [f_X6_takeUp] at h
  refine lv_iload_n (pc := 0) hx hb dX6_takeUp_0 rfl (lv_at hl 1 rfl) ?_
  obtain ⟨zr1, hzr1, h⟩ := zb h
  refine zcN (pc := 1) (As := [.int x1]) (rest := []) (st1 := [.int zr1]) (ws' := wG cy sq s_some s_more s_sund s_mund s_group) (wr := [((sq 0), .inr (5, [.ref (sq 1), .ref (sq 2), .ref (sq 3), .ref (sq 4), .int s_group])), ((sq 1), .inl (cy 1, 256, .inr (.inl s_some))), ((sq 2), .inl (cy 1, 256, .inr (.inl s_more))), ((sq 3), .inl (cy 1, 256, .inr (.inl s_sund))), ((sq 4), .inl (cy 1, 256, .inr (.inl s_mund)))]) (n := 1) (host := "SumsToAll") X (c_X8_isCell l G cy fu x1 zr1 hzr1) hH [] [0, 1, 2, 3, 4] [0, 1, 2, 3, 4] rfl rfl rfl rfl gX6_takeUp_X8_isCell_n91 (List.mem_of_getElem? (i := 13) rfl) (List.mem_of_getElem? (i := 6) rfl) (List.mem_of_getElem? (i := 5) rfl) rfl ⟨rfl, rfl⟩ kX8_isCell ⟨Nat.le_of_ble_eq_true rfl, Nat.le_of_ble_eq_true rfl⟩ rfl rfl rfl hl.1 (Nat.le_of_ble_eq_true rfl) ⟨Nat.le_of_ble_eq_true rfl, Nat.le_of_ble_eq_true rfl⟩ dX6_takeUp_1 (fun H locs hH => ?_)
  refine lv_if_eq (pc := 4) (tgt := 38) hx hb dX6_takeUp_4 rfl (fun zc2 => ?_) (fun zc2 => ?_)
  · have h := zt zc2 h
    obtain rfl := Option.some.inj h
    exact z_vret X hr hH dX6_takeUp_38
  have h := zf zc2 h
  refine lv_iload_n (pc := 7) hx hb dX6_takeUp_7 rfl (lv_at hl 2 rfl) ?_
  obtain ⟨zr3, hzr3, h⟩ := zb h
  refine zcN (pc := 8) (As := [.int x2]) (rest := []) (st1 := [.int zr3]) (ws' := wG cy sq s_some s_more s_sund s_mund s_group) (wr := [((sq 0), .inr (5, [.ref (sq 1), .ref (sq 2), .ref (sq 3), .ref (sq 4), .int s_group])), ((sq 1), .inl (cy 1, 256, .inr (.inl s_some))), ((sq 2), .inl (cy 1, 256, .inr (.inl s_more))), ((sq 3), .inl (cy 1, 256, .inr (.inl s_sund))), ((sq 4), .inl (cy 1, 256, .inr (.inl s_mund)))]) (n := 1) (host := "SumsToAll") X (c_X8_isCell l G cy fu x2 zr3 hzr3) hH [] [0, 1, 2, 3, 4] [0, 1, 2, 3, 4] rfl rfl rfl rfl gX6_takeUp_X8_isCell_n91 (List.mem_of_getElem? (i := 13) rfl) (List.mem_of_getElem? (i := 6) rfl) (List.mem_of_getElem? (i := 5) rfl) rfl ⟨rfl, rfl⟩ kX8_isCell ⟨Nat.le_of_ble_eq_true rfl, Nat.le_of_ble_eq_true rfl⟩ rfl rfl rfl hl.1 (Nat.le_of_ble_eq_true rfl) ⟨Nat.le_of_ble_eq_true rfl, Nat.le_of_ble_eq_true rfl⟩ dX6_takeUp_8 (fun H locs hH => ?_)
  refine lv_if_eq (pc := 11) (tgt := 38) hx hb dX6_takeUp_11 rfl (fun zc4 => ?_) (fun zc4 => ?_)
  · have h := zt zc4 h
    obtain rfl := Option.some.inj h
    exact z_vret X hr hH dX6_takeUp_38
  have h := zf zc4 h
  refine lv_aload_n (pc := 14) hx hb dX6_takeUp_14 rfl (lv_at hl 0 rfl) ?_
  refine z_get (pc := 15) (v := .ref (sq 3)) X iX6_takeUp_X6 hH 0 rfl rfl 2 rfl (List.mem_of_getElem? (i := 1) rfl) rfl dX6_takeUp_15 ?_
  refine lv_iload_n (pc := 18) hx hb dX6_takeUp_18 rfl (lv_at hl 2 rfl) ?_
  refine lv_aload_n (pc := 19) hx hb dX6_takeUp_19 rfl (lv_at hl 0 rfl) ?_
  refine z_get (pc := 20) (v := .ref (sq 1)) X iX6_takeUp_X6 hH 0 rfl rfl 0 rfl (List.mem_of_getElem? (i := 2) rfl) rfl dX6_takeUp_20 ?_
  refine lv_iload_n (pc := 23) hx hb dX6_takeUp_23 rfl (lv_at hl 1 rfl) ?_
  obtain ⟨hin, h⟩ := zg h
  refine z_lald (pc := 24) X hH 1 rfl hin dX6_takeUp_24 ?_
  obtain ⟨hin, h⟩ := zg h
  refine z_last (pc := 25) (ws' := wG cy sq s_some s_more (vp_updL s_sund (x2).toNatClampNeg (s_some (x1).toNatClampNeg)) s_mund s_group) X hH 3 rfl hin rfl dX6_takeUp_25 (fun H locs hH => ?_)
  refine lv_aload_n (pc := 26) hx hb dX6_takeUp_26 rfl (lv_at hl 0 rfl) ?_
  refine z_get (pc := 27) (v := .ref (sq 4)) X iX6_takeUp_X6 hH 0 rfl rfl 3 rfl (List.mem_of_getElem? (i := 3) rfl) rfl dX6_takeUp_27 ?_
  refine lv_iload_n (pc := 30) hx hb dX6_takeUp_30 rfl (lv_at hl 2 rfl) ?_
  refine lv_aload_n (pc := 31) hx hb dX6_takeUp_31 rfl (lv_at hl 0 rfl) ?_
  refine z_get (pc := 32) (v := .ref (sq 2)) X iX6_takeUp_X6 hH 0 rfl rfl 1 rfl (List.mem_of_getElem? (i := 4) rfl) rfl dX6_takeUp_32 ?_
  refine lv_iload_n (pc := 35) hx hb dX6_takeUp_35 rfl (lv_at hl 1 rfl) ?_
  obtain ⟨hin, h⟩ := zg h
  refine z_lald (pc := 36) X hH 2 rfl hin dX6_takeUp_36 ?_
  obtain ⟨hin, h⟩ := zg h
  refine z_last (pc := 37) (ws' := wG cy sq s_some s_more (vp_updL s_sund (x2).toNatClampNeg (s_some (x1).toNatClampNeg)) (vp_updL s_mund (x2).toNatClampNeg (s_more (x1).toNatClampNeg)) s_group) X hH 4 rfl hin rfl dX6_takeUp_37 (fun H locs hH => ?_)
  obtain rfl := Option.some.inj h
  exact z_vret X hr hH dX6_takeUp_38
set_option maxHeartbeats 4000000 in
set_option maxRecDepth 100000 in
theorem c_X6_putDown (l : Launch) (G : va_G) (cy : Nat → ClassId) (fu : Nat) (sq : Nat → Nat) (s_some : Nat → Int64) (s_more : Nat → Int64) (s_sund : Nat → Int64) (s_mund : Nat → Int64) (s_group : Int32) (x1 : Int32) (rr : (Nat → Int64) × (Nat → Int64)) (h : f_X6_putDown fu s_some s_more s_sund s_mund x1 = some rr) : zM l G cy yX6_putDown wsX6_putDown (zR 1 20) [.ref (sq 0), .int x1] (wG cy sq s_some s_more s_sund s_mund s_group) (wG cy sq rr.1 rr.2 s_sund s_mund s_group) none := by
  refine zM.mk (cc := cX6_putDown) (nL := 2) (ret := none) (by decide) rfl (Nat.le_of_ble_eq_true rfl) ?_
  intro p e s m below meth c A ls X hr hH hl
  replace X : zX p s m [.ref (sq 0), .int x1].toArray meth c RX6 cX6_putDown 2 wsX6_putDown G cy A := X
  have hx := X.1.1
  have hb := X.1.2.1
  replace hl : lv_has ls 2 [(0, .ref (sq 0)), (1, .int x1)] := hl
  dsimp only [f_X6_putDown] at h
  refine lv_iload_n (pc := 0) hx hb dX6_putDown_0 rfl (lv_at hl 1 rfl) ?_
  obtain ⟨zr1, hzr1, h⟩ := zb h
  refine zcN (pc := 1) (As := [.int x1]) (rest := []) (st1 := [.int zr1]) (ws' := wG cy sq s_some s_more s_sund s_mund s_group) (wr := [((sq 0), .inr (5, [.ref (sq 1), .ref (sq 2), .ref (sq 3), .ref (sq 4), .int s_group])), ((sq 1), .inl (cy 1, 256, .inr (.inl s_some))), ((sq 2), .inl (cy 1, 256, .inr (.inl s_more))), ((sq 3), .inl (cy 1, 256, .inr (.inl s_sund))), ((sq 4), .inl (cy 1, 256, .inr (.inl s_mund)))]) (n := 1) (host := "SumsToAll") X (c_X8_isCell l G cy fu x1 zr1 hzr1) hH [] [0, 1, 2, 3, 4] [0, 1, 2, 3, 4] rfl rfl rfl rfl gX6_putDown_X8_isCell_n91 (List.mem_of_getElem? (i := 13) rfl) (List.mem_of_getElem? (i := 6) rfl) (List.mem_of_getElem? (i := 5) rfl) rfl ⟨rfl, rfl⟩ kX8_isCell ⟨Nat.le_of_ble_eq_true rfl, Nat.le_of_ble_eq_true rfl⟩ rfl rfl rfl hl.1 (Nat.le_of_ble_eq_true rfl) ⟨Nat.le_of_ble_eq_true rfl, Nat.le_of_ble_eq_true rfl⟩ dX6_putDown_1 (fun H locs hH => ?_)
  refine lv_if_eq (pc := 4) (tgt := 31) hx hb dX6_putDown_4 rfl (fun zc2 => ?_) (fun zc2 => ?_)
  · have h := zt zc2 h
    obtain rfl := Option.some.inj h
    exact z_vret X hr hH dX6_putDown_31
  have h := zf zc2 h
  refine lv_aload_n (pc := 7) hx hb dX6_putDown_7 rfl (lv_at hl 0 rfl) ?_
  refine z_get (pc := 8) (v := .ref (sq 1)) X iX6_putDown_X6 hH 0 rfl rfl 0 rfl (List.mem_of_getElem? (i := 1) rfl) rfl dX6_putDown_8 ?_
  refine lv_iload_n (pc := 11) hx hb dX6_putDown_11 rfl (lv_at hl 1 rfl) ?_
  refine lv_aload_n (pc := 12) hx hb dX6_putDown_12 rfl (lv_at hl 0 rfl) ?_
  refine z_get (pc := 13) (v := .ref (sq 3)) X iX6_putDown_X6 hH 0 rfl rfl 2 rfl (List.mem_of_getElem? (i := 2) rfl) rfl dX6_putDown_13 ?_
  refine lv_iload_n (pc := 16) hx hb dX6_putDown_16 rfl (lv_at hl 1 rfl) ?_
  obtain ⟨hin, h⟩ := zg h
  refine z_lald (pc := 17) X hH 3 rfl hin dX6_putDown_17 ?_
  obtain ⟨hin, h⟩ := zg h
  refine z_last (pc := 18) (ws' := wG cy sq (vp_updL s_some (x1).toNatClampNeg (s_sund (x1).toNatClampNeg)) s_more s_sund s_mund s_group) X hH 1 rfl hin rfl dX6_putDown_18 (fun H locs hH => ?_)
  refine lv_aload_n (pc := 19) hx hb dX6_putDown_19 rfl (lv_at hl 0 rfl) ?_
  refine z_get (pc := 20) (v := .ref (sq 2)) X iX6_putDown_X6 hH 0 rfl rfl 1 rfl (List.mem_of_getElem? (i := 3) rfl) rfl dX6_putDown_20 ?_
  refine lv_iload_n (pc := 23) hx hb dX6_putDown_23 rfl (lv_at hl 1 rfl) ?_
  refine lv_aload_n (pc := 24) hx hb dX6_putDown_24 rfl (lv_at hl 0 rfl) ?_
  refine z_get (pc := 25) (v := .ref (sq 4)) X iX6_putDown_X6 hH 0 rfl rfl 3 rfl (List.mem_of_getElem? (i := 4) rfl) rfl dX6_putDown_25 ?_
  refine lv_iload_n (pc := 28) hx hb dX6_putDown_28 rfl (lv_at hl 1 rfl) ?_
  obtain ⟨hin, h⟩ := zg h
  refine z_lald (pc := 29) X hH 4 rfl hin dX6_putDown_29 ?_
  obtain ⟨hin, h⟩ := zg h
  refine z_last (pc := 30) (ws' := wG cy sq (vp_updL s_some (x1).toNatClampNeg (s_sund (x1).toNatClampNeg)) (vp_updL s_more (x1).toNatClampNeg (s_mund (x1).toNatClampNeg)) s_sund s_mund s_group) X hH 2 rfl hin rfl dX6_putDown_30 (fun H locs hH => ?_)
  obtain rfl := Option.some.inj h
  exact z_vret X hr hH dX6_putDown_31
set_option maxHeartbeats 4000000 in
set_option maxRecDepth 100000 in
theorem c_X6_addDown (l : Launch) (G : va_G) (cy : Nat → ClassId) (fu : Nat) (sq : Nat → Nat) (s_some : Nat → Int64) (s_more : Nat → Int64) (s_sund : Nat → Int64) (s_mund : Nat → Int64) (s_group : Int32) (x1 : Int32) (rr : (Nat → Int64) × (Nat → Int64)) (h : f_X6_addDown fu s_some s_more s_sund s_mund x1 = some rr) : zM l G cy yX6_addDown wsX6_addDown (zR 1 20) [.ref (sq 0), .int x1] (wG cy sq s_some s_more s_sund s_mund s_group) (wG cy sq rr.1 rr.2 s_sund s_mund s_group) none := by
  refine zM.mk (cc := cX6_addDown) (nL := 2) (ret := none) (by decide) rfl (Nat.le_of_ble_eq_true rfl) ?_
  intro p e s m below meth c A ls X hr hH hl
  replace X : zX p s m [.ref (sq 0), .int x1].toArray meth c RX6 cX6_addDown 2 wsX6_addDown G cy A := X
  have hx := X.1.1
  have hb := X.1.2.1
  replace hl : lv_has ls 2 [(0, .ref (sq 0)), (1, .int x1)] := hl
  dsimp only [f_X6_addDown] at h
  refine lv_iload_n (pc := 0) hx hb dX6_addDown_0 rfl (lv_at hl 1 rfl) ?_
  obtain ⟨zr1, hzr1, h⟩ := zb h
  refine zcN (pc := 1) (As := [.int x1]) (rest := []) (st1 := [.int zr1]) (ws' := wG cy sq s_some s_more s_sund s_mund s_group) (wr := [((sq 0), .inr (5, [.ref (sq 1), .ref (sq 2), .ref (sq 3), .ref (sq 4), .int s_group])), ((sq 1), .inl (cy 1, 256, .inr (.inl s_some))), ((sq 2), .inl (cy 1, 256, .inr (.inl s_more))), ((sq 3), .inl (cy 1, 256, .inr (.inl s_sund))), ((sq 4), .inl (cy 1, 256, .inr (.inl s_mund)))]) (n := 1) (host := "SumsToAll") X (c_X8_isCell l G cy fu x1 zr1 hzr1) hH [] [0, 1, 2, 3, 4] [0, 1, 2, 3, 4] rfl rfl rfl rfl gX6_addDown_X8_isCell_n91 (List.mem_of_getElem? (i := 13) rfl) (List.mem_of_getElem? (i := 6) rfl) (List.mem_of_getElem? (i := 5) rfl) rfl ⟨rfl, rfl⟩ kX8_isCell ⟨Nat.le_of_ble_eq_true rfl, Nat.le_of_ble_eq_true rfl⟩ rfl rfl rfl hl.1 (Nat.le_of_ble_eq_true rfl) ⟨Nat.le_of_ble_eq_true rfl, Nat.le_of_ble_eq_true rfl⟩ dX6_addDown_1 (fun H locs hH => ?_)
  refine lv_if_eq (pc := 4) (tgt := 51) hx hb dX6_addDown_4 rfl (fun zc2 => ?_) (fun zc2 => ?_)
  · have h := zt zc2 h
    obtain rfl := Option.some.inj h
    exact z_vret X hr hH dX6_addDown_51
  have h := zf zc2 h
  refine lv_aload_n (pc := 7) hx hb dX6_addDown_7 rfl (lv_at hl 0 rfl) ?_
  refine z_get (pc := 8) (v := .ref (sq 2)) X iX6_addDown_X6 hH 0 rfl rfl 1 rfl (List.mem_of_getElem? (i := 1) rfl) rfl dX6_addDown_8 ?_
  refine lv_iload_n (pc := 11) hx hb dX6_addDown_11 rfl (lv_at hl 1 rfl) ?_
  refine lv_dup2_11 (pc := 12) hx hb dX6_addDown_12 rfl rfl ?_
  obtain ⟨hin, h⟩ := zg h
  refine z_lald (pc := 13) X hH 2 rfl hin dX6_addDown_13 ?_
  refine lv_aload_n (pc := 14) hx hb dX6_addDown_14 rfl (lv_at hl 0 rfl) ?_
  refine z_get (pc := 15) (v := .ref (sq 4)) X iX6_addDown_X6 hH 0 rfl rfl 3 rfl (List.mem_of_getElem? (i := 2) rfl) rfl dX6_addDown_15 ?_
  refine lv_iload_n (pc := 18) hx hb dX6_addDown_18 rfl (lv_at hl 1 rfl) ?_
  obtain ⟨hin, h⟩ := zg h
  refine z_lald (pc := 19) X hH 4 rfl hin dX6_addDown_19 ?_
  refine lv_aload_n (pc := 20) hx hb dX6_addDown_20 rfl (lv_at hl 0 rfl) ?_
  refine z_get (pc := 21) (v := .ref (sq 1)) X iX6_addDown_X6 hH 0 rfl rfl 0 rfl (List.mem_of_getElem? (i := 3) rfl) rfl dX6_addDown_21 ?_
  refine lv_iload_n (pc := 24) hx hb dX6_addDown_24 rfl (lv_at hl 1 rfl) ?_
  obtain ⟨hin, h⟩ := zg h
  refine z_lald (pc := 25) X hH 1 rfl hin dX6_addDown_25 ?_
  refine lv_aload_n (pc := 26) hx hb dX6_addDown_26 rfl (lv_at hl 0 rfl) ?_
  refine z_get (pc := 27) (v := .ref (sq 3)) X iX6_addDown_X6 hH 0 rfl rfl 2 rfl (List.mem_of_getElem? (i := 4) rfl) rfl dX6_addDown_27 ?_
  refine lv_iload_n (pc := 30) hx hb dX6_addDown_30 rfl (lv_at hl 1 rfl) ?_
  obtain ⟨hin, h⟩ := zg h
  refine z_lald (pc := 31) X hH 3 rfl hin dX6_addDown_31 ?_
  refine lv_land (pc := 32) hx hb dX6_addDown_32 ?_
  refine lv_lor (pc := 33) hx hb dX6_addDown_33 ?_
  refine lv_lor (pc := 34) hx hb dX6_addDown_34 ?_
  obtain ⟨hin, h⟩ := zg h
  refine z_last (pc := 35) (ws' := wG cy sq s_some (vp_updL s_more (x1).toNatClampNeg ((s_more (x1).toNatClampNeg) ||| ((s_mund (x1).toNatClampNeg) ||| ((s_some (x1).toNatClampNeg) &&& (s_sund (x1).toNatClampNeg))))) s_sund s_mund s_group) X hH 2 rfl hin rfl dX6_addDown_35 (fun H locs hH => ?_)
  refine lv_aload_n (pc := 36) hx hb dX6_addDown_36 rfl (lv_at hl 0 rfl) ?_
  refine z_get (pc := 37) (v := .ref (sq 1)) X iX6_addDown_X6 hH 0 rfl rfl 0 rfl (List.mem_of_getElem? (i := 3) rfl) rfl dX6_addDown_37 ?_
  refine lv_iload_n (pc := 40) hx hb dX6_addDown_40 rfl (lv_at hl 1 rfl) ?_
  refine lv_dup2_11 (pc := 41) hx hb dX6_addDown_41 rfl rfl ?_
  obtain ⟨hin, h⟩ := zg h
  refine z_lald (pc := 42) X hH 1 rfl hin dX6_addDown_42 ?_
  refine lv_aload_n (pc := 43) hx hb dX6_addDown_43 rfl (lv_at hl 0 rfl) ?_
  refine z_get (pc := 44) (v := .ref (sq 3)) X iX6_addDown_X6 hH 0 rfl rfl 2 rfl (List.mem_of_getElem? (i := 4) rfl) rfl dX6_addDown_44 ?_
  refine lv_iload_n (pc := 47) hx hb dX6_addDown_47 rfl (lv_at hl 1 rfl) ?_
  obtain ⟨hin, h⟩ := zg h
  refine z_lald (pc := 48) X hH 3 rfl hin dX6_addDown_48 ?_
  refine lv_lor (pc := 49) hx hb dX6_addDown_49 ?_
  obtain ⟨hin, h⟩ := zg h
  refine z_last (pc := 50) (ws' := wG cy sq (vp_updL s_some (x1).toNatClampNeg ((s_some (x1).toNatClampNeg) ||| (s_sund (x1).toNatClampNeg))) (vp_updL s_more (x1).toNatClampNeg ((s_more (x1).toNatClampNeg) ||| ((s_mund (x1).toNatClampNeg) ||| ((s_some (x1).toNatClampNeg) &&& (s_sund (x1).toNatClampNeg))))) s_sund s_mund s_group) X hH 1 rfl hin rfl dX6_addDown_50 (fun H locs hH => ?_)
  obtain rfl := Option.some.inj h
  exact z_vret X hr hH dX6_addDown_51
set_option maxHeartbeats 4000000 in
set_option maxRecDepth 100000 in
theorem w_X1_bringDown_g_l3 {p : Program} {l : Launch} {e : Env} {s : State} {m : MethodId} {args : Array Value} {below : List Frame} {meth : Method} {c : Code} {A : Nat → Prop} {Q : State → Prop} (G : va_G) (cy : Nat → ClassId) (fu : Nat) (sq : Nat → Nat) (pq : Nat → Nat) (p_packed : Nat → Int32) (p_size : Int32) (s_sund : Nat → Int64) (s_mund : Nat → Int64) (s_group : Int32) (x3 : Int32) (X : zX p s m args meth c RX1 cX1_bringDown 5 wsX1_bringDown G cy A) : ∀ (n : Nat) (x4 : Int32) (s_some : Nat → Int64) (s_more : Nat → Int64) (rr : (Nat → Int64) × (Nat → Int64)) (h : lp (f_X1_bringDown_g_l3 fu p_packed p_size s_sund s_mund x3) n (x4, s_some, s_more) = some rr) (H : Heap) (locs : List Loc) (ls : Array Slot) (hH : zH G A s.heap (wG cy sq s_some s_more s_sund s_mund s_group ++ wP cy pq p_packed p_size) H locs) (hl : lv_has ls 5 [(0, .ref (sq 0)), (1, .ref (pq 0)), (3, .int x3), (4, .int x4)]) (K0 : ∀ (H : Heap) (locs : List Loc) (ls : Array Slot), zH G A s.heap (wG cy sq rr.1 rr.2 s_sund s_mund s_group ++ wP cy pq p_packed p_size) H locs → lv_has ls 5 [] → W p l e (zR 3 63) s m args below meth c H locs 0 0 Q (F0 m 47 ls [])), W p l e (zR 3 63) s m args below meth c H locs 0 0 Q (F0 m 3 ls []) := by
  have hx := X.1.1
  have hb := X.1.2.1
  intro n
  induction n with
  | zero => intro x4 s_some s_more rr h H locs ls hH hl K0; cases h
  | succ n ih =>
    intro x4 s_some s_more rr h H locs ls hH hl K0
    replace h : f_X1_bringDown_g_l3 fu p_packed p_size s_sund s_mund x3 (lp (f_X1_bringDown_g_l3 fu p_packed p_size s_sund s_mund x3) n) (x4, s_some, s_more) = some rr := h
    dsimp only [f_X1_bringDown_g_l3] at h
    refine lv_iload (pc := 3) hx hb dX1_bringDown_3 (lv_at hl 3 rfl) ?_
    refine lv_iload_n (pc := 5) hx hb dX1_bringDown_5 rfl (lv_at hl 2 rfl) ?_
    refine lv_icmp_gt (pc := 6) (tgt := 47) hx hb dX1_bringDown_6 rfl (fun zc1 => ?_) (fun zc1 => ?_)
    · have h := zt zc1 h
      obtain rfl := Option.some.inj h
      exact K0 _ _ _ hH (lv_sub hl [] rfl)
    have h := zf zc1 h
    refine lv_aload_n (pc := 9) hx hb dX1_bringDown_9 rfl (lv_at hl 1 rfl) ?_
    refine lv_iload (pc := 10) hx hb dX1_bringDown_10 (lv_at hl 3 rfl) ?_
    obtain ⟨zr2, hzr2, h⟩ := zb h
    refine zcV (pc := 12) (As := [.int x4]) (rest := []) (st1 := [.int zr2]) (ws' := wG cy sq s_some s_more s_sund s_mund s_group ++ wP cy pq p_packed p_size) (wr := [((sq 0), .inr (5, [.ref (sq 1), .ref (sq 2), .ref (sq 3), .ref (sq 4), .int s_group])), ((sq 1), .inl (cy 1, 256, .inr (.inl s_some))), ((sq 2), .inl (cy 1, 256, .inr (.inl s_more))), ((sq 3), .inl (cy 1, 256, .inr (.inl s_sund))), ((sq 4), .inl (cy 1, 256, .inr (.inl s_mund)))]) (n := 1) (q0 := 0) X (c_X4_isAdded l G cy fu pq p_packed p_size x4 zr2 hzr2) hH [5, 6] [0, 1, 2, 3, 4] [0, 1, 2, 3, 4, 5, 6] rfl rfl rfl rfl gX1_bringDown_X4_isAdded rfl ⟨rfl, rfl⟩ kX4_isAdded ⟨Nat.le_of_ble_eq_true rfl, Nat.le_of_ble_eq_true rfl⟩ rfl rfl rfl rfl rfl hl.1 (Nat.le_of_ble_eq_true rfl) ⟨Nat.le_of_ble_eq_true rfl, Nat.le_of_ble_eq_true rfl⟩ dX1_bringDown_12 (fun H locs hH => ?_)
    refine lv_if_eq (pc := 15) (tgt := 31) hx hb dX1_bringDown_15 rfl (fun zc3 => ?_) (fun zc3 => ?_)
    · have h := zt zc3 h
      refine lv_aload_n (pc := 31) hx hb dX1_bringDown_31 rfl (lv_at hl 0 rfl) ?_
      refine lv_aload_n (pc := 32) hx hb dX1_bringDown_32 rfl (lv_at hl 1 rfl) ?_
      refine lv_iload (pc := 33) hx hb dX1_bringDown_33 (lv_at hl 3 rfl) ?_
      obtain ⟨zr4, hzr4, h⟩ := zb h
      refine zcV (pc := 35) (As := [.int x4]) (rest := [.ref (sq 0)]) (st1 := [.int zr4, .ref (sq 0)]) (ws' := wG cy sq s_some s_more s_sund s_mund s_group ++ wP cy pq p_packed p_size) (wr := [((sq 0), .inr (5, [.ref (sq 1), .ref (sq 2), .ref (sq 3), .ref (sq 4), .int s_group])), ((sq 1), .inl (cy 1, 256, .inr (.inl s_some))), ((sq 2), .inl (cy 1, 256, .inr (.inl s_more))), ((sq 3), .inl (cy 1, 256, .inr (.inl s_sund))), ((sq 4), .inl (cy 1, 256, .inr (.inl s_mund)))]) (n := 1) (q0 := 0) X (c_X4_target l G cy fu pq p_packed p_size x4 zr4 hzr4) hH [5, 6] [0, 1, 2, 3, 4] [0, 1, 2, 3, 4, 5, 6] rfl rfl rfl rfl gX1_bringDown_X4_target rfl ⟨rfl, rfl⟩ kX4_target ⟨Nat.le_of_ble_eq_true rfl, Nat.le_of_ble_eq_true rfl⟩ rfl rfl rfl rfl rfl hl.1 (Nat.le_of_ble_eq_true rfl) ⟨Nat.le_of_ble_eq_true rfl, Nat.le_of_ble_eq_true rfl⟩ dX1_bringDown_35 (fun H locs hH => ?_)
      obtain ⟨zr5, hzr5, h⟩ := zb h
      refine zcU (pc := 38) (As := [.int zr4]) (rest := []) (st1 := []) (ws' := wG cy sq zr5.1 zr5.2 s_sund s_mund s_group ++ wP cy pq p_packed p_size) (wr := [((pq 0), .inr (3, [.ref (pq 1), .int p_size])), ((pq 1), .inl (cy 0, 1200, .inl p_packed))]) (n := 1) (q0 := 0) X (c_X6_putDown l G cy fu sq s_some s_more s_sund s_mund s_group zr4 zr5 hzr5) hH [0, 1, 2, 3, 4] [5, 6] [2, 3, 4, 5, 6, 0, 1] rfl rfl rfl rfl (va_cwA 1 X.1.2.2.2.2 gX1_bringDown_X6_putDown_u41X6 rfl rfl rfl (X.2.2.1 _ (List.mem_of_getElem? (i := 16) rfl)) (by decide +kernel) ⟨Nat.le_of_ble_eq_true rfl, Nat.le_of_ble_eq_true rfl⟩) rfl rfl rfl rfl rfl hl.1 (Nat.le_of_ble_eq_true rfl) ⟨Nat.le_of_ble_eq_true rfl, Nat.le_of_ble_eq_true rfl⟩ dX1_bringDown_38 (fun H locs hH => ?_)
      refine lv_iinc (pc := 41) (v := (x4 + 1)) (lv' := [(4, .int (x4 + 1)), (0, .ref (sq 0)), (1, .ref (pq 0)), (3, .int x3)]) hx hb dX1_bringDown_41 hl (k := 3) rfl (by rw [zk_c1]) (by decide) rfl (fun ls hl => ?_)
      refine lv_goto (pc := 44) (tgt := 3) hx hb dX1_bringDown_44 rfl ?_
      exact ih (x4 + 1) zr5.1 zr5.2 rr h _ _ _ hH (lv_sub hl [1, 2, 3, 0] rfl) K0
    have h := zf zc3 h
    refine lv_aload_n (pc := 18) hx hb dX1_bringDown_18 rfl (lv_at hl 0 rfl) ?_
    refine lv_aload_n (pc := 19) hx hb dX1_bringDown_19 rfl (lv_at hl 1 rfl) ?_
    refine lv_iload (pc := 20) hx hb dX1_bringDown_20 (lv_at hl 3 rfl) ?_
    obtain ⟨zr6, hzr6, h⟩ := zb h
    refine zcV (pc := 22) (As := [.int x4]) (rest := [.ref (sq 0)]) (st1 := [.int zr6, .ref (sq 0)]) (ws' := wG cy sq s_some s_more s_sund s_mund s_group ++ wP cy pq p_packed p_size) (wr := [((sq 0), .inr (5, [.ref (sq 1), .ref (sq 2), .ref (sq 3), .ref (sq 4), .int s_group])), ((sq 1), .inl (cy 1, 256, .inr (.inl s_some))), ((sq 2), .inl (cy 1, 256, .inr (.inl s_more))), ((sq 3), .inl (cy 1, 256, .inr (.inl s_sund))), ((sq 4), .inl (cy 1, 256, .inr (.inl s_mund)))]) (n := 1) (q0 := 0) X (c_X4_target l G cy fu pq p_packed p_size x4 zr6 hzr6) hH [5, 6] [0, 1, 2, 3, 4] [0, 1, 2, 3, 4, 5, 6] rfl rfl rfl rfl gX1_bringDown_X4_target rfl ⟨rfl, rfl⟩ kX4_target ⟨Nat.le_of_ble_eq_true rfl, Nat.le_of_ble_eq_true rfl⟩ rfl rfl rfl rfl rfl hl.1 (Nat.le_of_ble_eq_true rfl) ⟨Nat.le_of_ble_eq_true rfl, Nat.le_of_ble_eq_true rfl⟩ dX1_bringDown_22 (fun H locs hH => ?_)
    obtain ⟨zr7, hzr7, h⟩ := zb h
    refine zcU (pc := 25) (As := [.int zr6]) (rest := []) (st1 := []) (ws' := wG cy sq zr7.1 zr7.2 s_sund s_mund s_group ++ wP cy pq p_packed p_size) (wr := [((pq 0), .inr (3, [.ref (pq 1), .int p_size])), ((pq 1), .inl (cy 0, 1200, .inl p_packed))]) (n := 1) (q0 := 0) X (c_X6_addDown l G cy fu sq s_some s_more s_sund s_mund s_group zr6 zr7 hzr7) hH [0, 1, 2, 3, 4] [5, 6] [2, 3, 4, 5, 6, 0, 1] rfl rfl rfl rfl (va_cwA 1 X.1.2.2.2.2 gX1_bringDown_X6_addDown_u37X6 rfl rfl rfl (X.2.2.1 _ (List.mem_of_getElem? (i := 17) rfl)) (by decide +kernel) ⟨Nat.le_of_ble_eq_true rfl, Nat.le_of_ble_eq_true rfl⟩) rfl rfl rfl rfl rfl hl.1 (Nat.le_of_ble_eq_true rfl) ⟨Nat.le_of_ble_eq_true rfl, Nat.le_of_ble_eq_true rfl⟩ dX1_bringDown_25 (fun H locs hH => ?_)
    refine lv_goto (pc := 28) (tgt := 41) hx hb dX1_bringDown_28 rfl ?_
    refine lv_iinc (pc := 41) (v := (x4 + 1)) (lv' := [(4, .int (x4 + 1)), (0, .ref (sq 0)), (1, .ref (pq 0)), (3, .int x3)]) hx hb dX1_bringDown_41 hl (k := 3) rfl (by rw [zk_c1]) (by decide) rfl (fun ls hl => ?_)
    refine lv_goto (pc := 44) (tgt := 3) hx hb dX1_bringDown_44 rfl ?_
    exact ih (x4 + 1) zr7.1 zr7.2 rr h _ _ _ hH (lv_sub hl [1, 2, 3, 0] rfl) K0
set_option maxHeartbeats 4000000 in
set_option maxRecDepth 100000 in
theorem c_X1_bringDown_g (l : Launch) (G : va_G) (cy : Nat → ClassId) (fu : Nat) (sq : Nat → Nat) (pq : Nat → Nat) (p_packed : Nat → Int32) (p_size : Int32) (s_some : Nat → Int64) (s_more : Nat → Int64) (s_sund : Nat → Int64) (s_mund : Nat → Int64) (s_group : Int32) (x2 : Int32) (x3 : Int32) (rr : (Nat → Int64) × (Nat → Int64)) (h : f_X1_bringDown_g fu p_packed p_size s_some s_more s_sund s_mund x2 x3 = some rr) : zM l G cy yX1_bringDown wsX1_bringDown (zR 3 63) [.ref (sq 0), .ref (pq 0), .int x2, .int x3] (wG cy sq s_some s_more s_sund s_mund s_group ++ wP cy pq p_packed p_size) (wG cy sq rr.1 rr.2 s_sund s_mund s_group ++ wP cy pq p_packed p_size) none := by
  refine zM.mk (cc := cX1_bringDown) (nL := 5) (ret := none) (by decide) rfl (Nat.le_of_ble_eq_true rfl) ?_
  intro p e s m below meth c A ls X hr hH hl
  replace X : zX p s m [.ref (sq 0), .ref (pq 0), .int x2, .int x3].toArray meth c RX1 cX1_bringDown 5 wsX1_bringDown G cy A := X
  have hx := X.1.1
  have hb := X.1.2.1
  replace hl : lv_has ls 5 [(0, .ref (sq 0)), (1, .ref (pq 0)), (2, .int x2), (3, .int x3)] := hl
  dsimp only [f_X1_bringDown_g] at h
  refine lv_iload_n (pc := 0) hx hb dX1_bringDown_0 rfl (lv_at hl 2 rfl) ?_
  refine lv_istore (pc := 1) (lv' := [(4, .int x2), (0, .ref (sq 0)), (1, .ref (pq 0)), (2, .int x2), (3, .int x3)]) hx hb dX1_bringDown_1 hl (by decide) rfl (fun ls hl => ?_)
  obtain ⟨zr1, hzr1, h⟩ := zb h
  refine w_X1_bringDown_g_l3 G cy fu sq pq p_packed p_size s_sund s_mund s_group x3 X fu x2 s_some s_more zr1 hzr1 _ _ _ hH (lv_sub hl [1, 2, 4, 0] rfl) (fun H locs ls hH hl => ?_)
  obtain rfl := Option.some.inj h
  exact z_vret X hr hH dX1_bringDown_47
set_option maxHeartbeats 4000000 in
set_option maxRecDepth 100000 in
theorem w_X1_follow_g_l4 {p : Program} {l : Launch} {e : Env} {s : State} {m : MethodId} {args : Array Value} {below : List Frame} {meth : Method} {c : Code} {A : Nat → Prop} {Q : State → Prop} (G : va_G) (cy : Nat → ClassId) (fu : Nat) (sq : Nat → Nat) (pq : Nat → Nat) (p_packed : Nat → Int32) (p_size : Int32) (s_group : Int32) (X : zX p s m args meth c RX1 cX1_follow 4 wsX1_follow G cy A) : ∀ (n : Nat) (x2 : Int32) (x3 : Int32) (s_some : Nat → Int64) (s_more : Nat → Int64) (s_sund : Nat → Int64) (s_mund : Nat → Int64) (rr : (Nat → Int64) × (Nat → Int64) × (Nat → Int64) × (Nat → Int64)) (h : lp (f_X1_follow_g_l4 fu p_packed p_size) n (x2, x3, s_some, s_more, s_sund, s_mund) = some rr) (H : Heap) (locs : List Loc) (ls : Array Slot) (hH : zH G A s.heap (wG cy sq s_some s_more s_sund s_mund s_group ++ wP cy pq p_packed p_size) H locs) (hl : lv_has ls 4 [(0, .ref (sq 0)), (1, .ref (pq 0)), (2, .int x2), (3, .int x3)]) (K0 : ∀ (H : Heap) (locs : List Loc) (ls : Array Slot), zH G A s.heap (wG cy sq rr.1 rr.2.1 rr.2.2.1 rr.2.2.2 s_group ++ wP cy pq p_packed p_size) H locs → lv_has ls 4 [] → W p l e (zR 4 87) s m args below meth c H locs 0 0 Q (F0 m 51 ls [])), W p l e (zR 4 87) s m args below meth c H locs 0 0 Q (F0 m 4 ls []) := by
  have hx := X.1.1
  have hb := X.1.2.1
  intro n
  induction n with
  | zero => intro x2 x3 s_some s_more s_sund s_mund rr h H locs ls hH hl K0; cases h
  | succ n ih =>
    intro x2 x3 s_some s_more s_sund s_mund rr h H locs ls hH hl K0
    replace h : f_X1_follow_g_l4 fu p_packed p_size (lp (f_X1_follow_g_l4 fu p_packed p_size) n) (x2, x3, s_some, s_more, s_sund, s_mund) = some rr := h
    dsimp only [f_X1_follow_g_l4] at h
    refine lv_iload_n (pc := 4) hx hb dX1_follow_4 rfl (lv_at hl 3 rfl) ?_
    refine lv_aload_n (pc := 5) hx hb dX1_follow_5 rfl (lv_at hl 1 rfl) ?_
    obtain ⟨zr1, hzr1, h⟩ := zb h
    refine zcV (pc := 6) (As := []) (rest := [.int x3]) (st1 := [.int zr1, .int x3]) (ws' := wG cy sq s_some s_more s_sund s_mund s_group ++ wP cy pq p_packed p_size) (wr := [((sq 0), .inr (5, [.ref (sq 1), .ref (sq 2), .ref (sq 3), .ref (sq 4), .int s_group])), ((sq 1), .inl (cy 1, 256, .inr (.inl s_some))), ((sq 2), .inl (cy 1, 256, .inr (.inl s_more))), ((sq 3), .inl (cy 1, 256, .inr (.inl s_sund))), ((sq 4), .inl (cy 1, 256, .inr (.inl s_mund)))]) (n := 0) (q0 := 0) X (c_X4_size l G cy fu pq p_packed p_size zr1 hzr1) hH [5, 6] [0, 1, 2, 3, 4] [0, 1, 2, 3, 4, 5, 6] rfl rfl rfl rfl gX1_follow_X4_size rfl ⟨rfl, rfl⟩ kX4_size ⟨Nat.le_of_ble_eq_true rfl, Nat.le_of_ble_eq_true rfl⟩ rfl rfl rfl rfl rfl hl.1 (Nat.le_of_ble_eq_true rfl) ⟨Nat.le_of_ble_eq_true rfl, Nat.le_of_ble_eq_true rfl⟩ dX1_follow_6 (fun H locs hH => ?_)
    refine lv_icmp_ge (pc := 9) (tgt := 51) hx hb dX1_follow_9 rfl (fun zc2 => ?_) (fun zc2 => ?_)
    · have h := zt zc2 h
      obtain rfl := Option.some.inj h
      exact K0 _ _ _ hH (lv_sub hl [] rfl)
    have h := zf zc2 h
    refine lv_aload_n (pc := 12) hx hb dX1_follow_12 rfl (lv_at hl 0 rfl) ?_
    refine lv_aload_n (pc := 13) hx hb dX1_follow_13 rfl (lv_at hl 1 rfl) ?_
    refine lv_iload_n (pc := 14) hx hb dX1_follow_14 rfl (lv_at hl 3 rfl) ?_
    obtain ⟨zr3, hzr3, h⟩ := zb h
    refine zcV (pc := 15) (As := [.int x3]) (rest := [.ref (sq 0)]) (st1 := [.int zr3, .ref (sq 0)]) (ws' := wG cy sq s_some s_more s_sund s_mund s_group ++ wP cy pq p_packed p_size) (wr := [((sq 0), .inr (5, [.ref (sq 1), .ref (sq 2), .ref (sq 3), .ref (sq 4), .int s_group])), ((sq 1), .inl (cy 1, 256, .inr (.inl s_some))), ((sq 2), .inl (cy 1, 256, .inr (.inl s_more))), ((sq 3), .inl (cy 1, 256, .inr (.inl s_sund))), ((sq 4), .inl (cy 1, 256, .inr (.inl s_mund)))]) (n := 1) (q0 := 0) X (c_X4_source l G cy fu pq p_packed p_size x3 zr3 hzr3) hH [5, 6] [0, 1, 2, 3, 4] [0, 1, 2, 3, 4, 5, 6] rfl rfl rfl rfl gX1_follow_X4_source rfl ⟨rfl, rfl⟩ kX4_source ⟨Nat.le_of_ble_eq_true rfl, Nat.le_of_ble_eq_true rfl⟩ rfl rfl rfl rfl rfl hl.1 (Nat.le_of_ble_eq_true rfl) ⟨Nat.le_of_ble_eq_true rfl, Nat.le_of_ble_eq_true rfl⟩ dX1_follow_15 (fun H locs hH => ?_)
    refine lv_aload_n (pc := 18) hx hb dX1_follow_18 rfl (lv_at hl 1 rfl) ?_
    refine lv_iload_n (pc := 19) hx hb dX1_follow_19 rfl (lv_at hl 3 rfl) ?_
    obtain ⟨zr4, hzr4, h⟩ := zb h
    refine zcV (pc := 20) (As := [.int x3]) (rest := [.int zr3, .ref (sq 0)]) (st1 := [.int zr4, .int zr3, .ref (sq 0)]) (ws' := wG cy sq s_some s_more s_sund s_mund s_group ++ wP cy pq p_packed p_size) (wr := [((sq 0), .inr (5, [.ref (sq 1), .ref (sq 2), .ref (sq 3), .ref (sq 4), .int s_group])), ((sq 1), .inl (cy 1, 256, .inr (.inl s_some))), ((sq 2), .inl (cy 1, 256, .inr (.inl s_more))), ((sq 3), .inl (cy 1, 256, .inr (.inl s_sund))), ((sq 4), .inl (cy 1, 256, .inr (.inl s_mund)))]) (n := 1) (q0 := 0) X (c_X4_target l G cy fu pq p_packed p_size x3 zr4 hzr4) hH [5, 6] [0, 1, 2, 3, 4] [0, 1, 2, 3, 4, 5, 6] rfl rfl rfl rfl gX1_follow_X4_target rfl ⟨rfl, rfl⟩ kX4_target ⟨Nat.le_of_ble_eq_true rfl, Nat.le_of_ble_eq_true rfl⟩ rfl rfl rfl rfl rfl hl.1 (Nat.le_of_ble_eq_true rfl) ⟨Nat.le_of_ble_eq_true rfl, Nat.le_of_ble_eq_true rfl⟩ dX1_follow_20 (fun H locs hH => ?_)
    obtain ⟨zr5, hzr5, h⟩ := zb h
    refine zcU (pc := 23) (As := [.int zr3, .int zr4]) (rest := []) (st1 := []) (ws' := wG cy sq s_some s_more zr5.1 zr5.2 s_group ++ wP cy pq p_packed p_size) (wr := [((pq 0), .inr (3, [.ref (pq 1), .int p_size])), ((pq 1), .inl (cy 0, 1200, .inl p_packed))]) (n := 2) (q0 := 0) X (c_X6_takeUp l G cy fu sq s_some s_more s_sund s_mund s_group zr3 zr4 zr5 hzr5) hH [0, 1, 2, 3, 4] [5, 6] [2, 3, 4, 5, 6, 0, 1] rfl rfl rfl rfl (va_cwA 2 X.1.2.2.2.2 gX1_follow_X6_takeUp_u20X6 rfl rfl rfl (X.2.2.1 _ (List.mem_of_getElem? (i := 15) rfl)) (by decide +kernel) ⟨Nat.le_of_ble_eq_true rfl, Nat.le_of_ble_eq_true rfl⟩) rfl rfl rfl rfl rfl hl.1 (Nat.le_of_ble_eq_true rfl) ⟨Nat.le_of_ble_eq_true rfl, Nat.le_of_ble_eq_true rfl⟩ dX1_follow_23 (fun H locs hH => ?_)
    refine lv_aload_n (pc := 26) hx hb dX1_follow_26 rfl (lv_at hl 1 rfl) ?_
    refine lv_iload_n (pc := 27) hx hb dX1_follow_27 rfl (lv_at hl 3 rfl) ?_
    obtain ⟨zr6, hzr6, h⟩ := zb h
    refine zcV (pc := 28) (As := [.int x3]) (rest := []) (st1 := [.int zr6]) (ws' := wG cy sq s_some s_more zr5.1 zr5.2 s_group ++ wP cy pq p_packed p_size) (wr := [((sq 0), .inr (5, [.ref (sq 1), .ref (sq 2), .ref (sq 3), .ref (sq 4), .int s_group])), ((sq 1), .inl (cy 1, 256, .inr (.inl s_some))), ((sq 2), .inl (cy 1, 256, .inr (.inl s_more))), ((sq 3), .inl (cy 1, 256, .inr (.inl zr5.1))), ((sq 4), .inl (cy 1, 256, .inr (.inl zr5.2)))]) (n := 1) (q0 := 0) X (c_X4_endsStep l G cy fu pq p_packed p_size x3 zr6 hzr6) hH [5, 6] [0, 1, 2, 3, 4] [0, 1, 2, 3, 4, 5, 6] rfl rfl rfl rfl gX1_follow_X4_endsStep rfl ⟨rfl, rfl⟩ kX4_endsStep ⟨Nat.le_of_ble_eq_true rfl, Nat.le_of_ble_eq_true rfl⟩ rfl rfl rfl rfl rfl hl.1 (Nat.le_of_ble_eq_true rfl) ⟨Nat.le_of_ble_eq_true rfl, Nat.le_of_ble_eq_true rfl⟩ dX1_follow_28 (fun H locs hH => ?_)
    refine lv_if_eq (pc := 31) (tgt := 45) hx hb dX1_follow_31 rfl (fun zc7 => ?_) (fun zc7 => ?_)
    · have h := zt zc7 h
      refine lv_iinc (pc := 45) (v := (x3 + 1)) (lv' := [(3, .int (x3 + 1)), (0, .ref (sq 0)), (1, .ref (pq 0)), (2, .int x2)]) hx hb dX1_follow_45 hl (k := 3) rfl (by rw [zk_c1]) (by decide) rfl (fun ls hl => ?_)
      refine lv_goto (pc := 48) (tgt := 4) hx hb dX1_follow_48 rfl ?_
      exact ih x2 (x3 + 1) s_some s_more zr5.1 zr5.2 rr h _ _ _ hH (lv_sub hl [1, 2, 3, 0] rfl) K0
    have h := zf zc7 h
    refine lv_aload_n (pc := 34) hx hb dX1_follow_34 rfl (lv_at hl 0 rfl) ?_
    refine lv_aload_n (pc := 35) hx hb dX1_follow_35 rfl (lv_at hl 1 rfl) ?_
    refine lv_iload_n (pc := 36) hx hb dX1_follow_36 rfl (lv_at hl 2 rfl) ?_
    refine lv_iload_n (pc := 37) hx hb dX1_follow_37 rfl (lv_at hl 3 rfl) ?_
    obtain ⟨zr8, hzr8, h⟩ := zb h
    refine zcU (pc := 38) (As := [.ref (pq 0), .int x2, .int x3]) (rest := []) (st1 := []) (ws' := wG cy sq zr8.1 zr8.2 zr5.1 zr5.2 s_group ++ wP cy pq p_packed p_size) (wr := []) (n := 3) (q0 := 0) X (c_X1_bringDown_g l G cy fu sq pq p_packed p_size s_some s_more zr5.1 zr5.2 s_group x2 x3 zr8 hzr8) hH [0, 1, 2, 3, 4, 5, 6] [] [0, 1, 2, 3, 4, 5, 6] rfl rfl rfl rfl (va_cwU 3 X.1.2.2.2.2 gX1_follow_X1_bringDown_u30X6 rfl rfl rfl rfl (by decide +kernel) ⟨Nat.le_of_ble_eq_true rfl, Nat.le_of_ble_eq_true rfl⟩) rfl rfl rfl rfl rfl hl.1 (Nat.le_of_ble_eq_true rfl) ⟨Nat.le_of_ble_eq_true rfl, Nat.le_of_ble_eq_true rfl⟩ dX1_follow_38 (fun H locs hH => ?_)
    refine lv_iload_n (pc := 41) hx hb dX1_follow_41 rfl (lv_at hl 3 rfl) ?_
    refine lv_iconst (v := 1) (pc := 42) hx hb dX1_follow_42 zk_c1 ?_
    refine lv_iadd (pc := 43) hx hb dX1_follow_43 ?_
    refine lv_topi (fun za9 eza9 => ?_)
    have h := vn_s h za9 eza9
    refine lv_istore_n (pc := 44) (lv' := [(2, .int za9), (0, .ref (sq 0)), (1, .ref (pq 0)), (3, .int x3)]) hx hb dX1_follow_44 rfl hl (by decide) rfl (fun ls hl => ?_)
    refine lv_iinc (pc := 45) (v := (x3 + 1)) (lv' := [(3, .int (x3 + 1)), (2, .int za9), (0, .ref (sq 0)), (1, .ref (pq 0))]) hx hb dX1_follow_45 hl (k := 3) rfl (by rw [zk_c1]) (by decide) rfl (fun ls hl => ?_)
    refine lv_goto (pc := 48) (tgt := 4) hx hb dX1_follow_48 rfl ?_
    exact ih za9 (x3 + 1) zr8.1 zr8.2 zr5.1 zr5.2 rr h _ _ _ hH (lv_sub hl [2, 3, 1, 0] rfl) K0
set_option maxHeartbeats 4000000 in
set_option maxRecDepth 100000 in
theorem c_X1_follow_g (l : Launch) (G : va_G) (cy : Nat → ClassId) (fu : Nat) (sq : Nat → Nat) (pq : Nat → Nat) (p_packed : Nat → Int32) (p_size : Int32) (s_some : Nat → Int64) (s_more : Nat → Int64) (s_sund : Nat → Int64) (s_mund : Nat → Int64) (s_group : Int32)  (rr : (Nat → Int64) × (Nat → Int64) × (Nat → Int64) × (Nat → Int64)) (h : f_X1_follow_g fu p_packed p_size s_some s_more s_sund s_mund = some rr) : zM l G cy yX1_follow wsX1_follow (zR 4 87) [.ref (sq 0), .ref (pq 0)] (wG cy sq s_some s_more s_sund s_mund s_group ++ wP cy pq p_packed p_size) (wG cy sq rr.1 rr.2.1 rr.2.2.1 rr.2.2.2 s_group ++ wP cy pq p_packed p_size) none := by
  refine zM.mk (cc := cX1_follow) (nL := 4) (ret := none) (by decide) rfl (Nat.le_of_ble_eq_true rfl) ?_
  intro p e s m below meth c A ls X hr hH hl
  replace X : zX p s m [.ref (sq 0), .ref (pq 0)].toArray meth c RX1 cX1_follow 4 wsX1_follow G cy A := X
  have hx := X.1.1
  have hb := X.1.2.1
  replace hl : lv_has ls 4 [(0, .ref (sq 0)), (1, .ref (pq 0))] := hl
  dsimp only [f_X1_follow_g] at h
  refine lv_iconst (v := 0) (pc := 0) hx hb dX1_follow_0 zk_c0 ?_
  refine lv_istore_n (pc := 1) (lv' := [(2, .int 0), (0, .ref (sq 0)), (1, .ref (pq 0))]) hx hb dX1_follow_1 rfl hl (by decide) rfl (fun ls hl => ?_)
  refine lv_iconst (v := 0) (pc := 2) hx hb dX1_follow_2 zk_c0 ?_
  refine lv_istore_n (pc := 3) (lv' := [(3, .int 0), (2, .int 0), (0, .ref (sq 0)), (1, .ref (pq 0))]) hx hb dX1_follow_3 rfl hl (by decide) rfl (fun ls hl => ?_)
  obtain ⟨zr1, hzr1, h⟩ := zb h
  refine w_X1_follow_g_l4 G cy fu sq pq p_packed p_size s_group X fu 0 0 s_some s_more s_sund s_mund zr1 hzr1 _ _ _ hH (lv_sub hl [2, 3, 1, 0] rfl) (fun H locs ls hH hl => ?_)
  obtain rfl := Option.some.inj h
  exact z_vret X hr hH dX1_follow_51
set_option maxHeartbeats 4000000 in
set_option maxRecDepth 100000 in
theorem c_X8_hostOfCell (l : Launch) (G : va_G) (cy : Nat → ClassId) (fu : Nat)   (x0 : Int32) (rr : Int32) (h : f_X8_hostOfCell fu x0 = some rr) : zM l G cy yX8_hostOfCell wsX8_hostOfCell (zR 0 0) [.int x0] (([] : va_W)) (([] : va_W)) (some (.int rr)) := by
  refine zM.mk (cc := cX8_hostOfCell) (nL := 1) (ret := (some .int)) (by decide) rfl (Nat.le_of_ble_eq_true rfl) ?_
  intro p e s m below meth c A ls X hr hH hl
  replace X : zX p s m [.int x0].toArray meth c RX8 cX8_hostOfCell 1 wsX8_hostOfCell G cy A := X
  have hx := X.1.1
  have hb := X.1.2.1
  replace hl : lv_has ls 1 [(0, .int x0)] := hl
  dsimp only [f_X8_hostOfCell] at h
  refine lv_iload_n (pc := 0) hx hb dX8_hostOfCell_0 rfl (lv_at hl 0 rfl) ?_
  refine lv_iconst (v := 4) (pc := 1) hx hb dX8_hostOfCell_1 zk_c4 ?_
  refine lv_ishr (pc := 2) hx hb dX8_hostOfCell_2 ?_
  obtain rfl := Option.some.inj h
  exact z_iret X hr hH dX8_hostOfCell_3
set_option maxHeartbeats 4000000 in
set_option maxRecDepth 100000 in
theorem c_X8_blockOfCell (l : Launch) (G : va_G) (cy : Nat → ClassId) (fu : Nat)   (x0 : Int32) (rr : Int32) (h : f_X8_blockOfCell fu x0 = some rr) : zM l G cy yX8_blockOfCell wsX8_blockOfCell (zR 0 0) [.int x0] (([] : va_W)) (([] : va_W)) (some (.int rr)) := by
  refine zM.mk (cc := cX8_blockOfCell) (nL := 1) (ret := (some .int)) (by decide) rfl (Nat.le_of_ble_eq_true rfl) ?_
  intro p e s m below meth c A ls X hr hH hl
  replace X : zX p s m [.int x0].toArray meth c RX8 cX8_blockOfCell 1 wsX8_blockOfCell G cy A := X
  have hx := X.1.1
  have hb := X.1.2.1
  replace hl : lv_has ls 1 [(0, .int x0)] := hl
  dsimp only [f_X8_blockOfCell] at h
  refine lv_iload_n (pc := 0) hx hb dX8_blockOfCell_0 rfl (lv_at hl 0 rfl) ?_
  refine lv_bipush (v := 15) (pc := 1) hx hb dX8_blockOfCell_1 zk_b15 ?_
  refine lv_iand (pc := 3) hx hb dX8_blockOfCell_3 ?_
  obtain rfl := Option.some.inj h
  exact z_iret X hr hH dX8_blockOfCell_4
set_option maxHeartbeats 4000000 in
set_option maxRecDepth 100000 in
theorem c_X6_isFree (l : Launch) (G : va_G) (cy : Nat → ClassId) (fu : Nat) (hq : Nat → Nat) (h_alive : Nat → Int32) (h_late : Nat → Int32) (h_hbr : Nat → Int32) (h_rbh : Nat → Int32) (h_waits : Nat → Int32) (h_pers : Nat → Int32) (h_size : Int32) (h_ranks : Int32) (h_lines : Int32) (x1 : Int32) (x2 : Int32) (x3 : Int32) (rr : Int32) (h : f_X6_isFree fu h_ranks x1 x2 x3 = some rr) : zM l G cy yX6_isFree wsX6_isFree (zR 1 20) [.ref (hq 0), .int x1, .int x2, .int x3] (wH cy hq h_alive h_late h_hbr h_rbh h_waits h_pers h_size h_ranks h_lines) (wH cy hq h_alive h_late h_hbr h_rbh h_waits h_pers h_size h_ranks h_lines) (some (.int rr)) := by
  refine zM.mk (cc := cX6_isFree) (nL := 4) (ret := (some .boolean)) (by decide) rfl (Nat.le_of_ble_eq_true rfl) ?_
  intro p e s m below meth c A ls X hr hH hl
  replace X : zX p s m [.ref (hq 0), .int x1, .int x2, .int x3].toArray meth c RX6 cX6_isFree 4 wsX6_isFree G cy A := X
  have hx := X.1.1
  have hb := X.1.2.1
  replace hl : lv_has ls 4 [(0, .ref (hq 0)), (1, .int x1), (2, .int x2), (3, .int x3)] := hl
  dsimp only [f_X6_isFree] at h
  refine lv_iload_n (pc := 0) hx hb dX6_isFree_0 rfl (lv_at hl 1 rfl) ?_
  refine lv_iconst (v := 1) (pc := 1) hx hb dX6_isFree_1 zk_c1 ?_
  refine lv_icmp_ne (pc := 2) (tgt := 28) hx hb dX6_isFree_2 rfl (fun zc1 => ?_) (fun zc1 => ?_)
  · have h := zf zc1 h
    refine lv_iconst (v := 0) (pc := 28) hx hb dX6_isFree_28 zk_c0 ?_
    obtain rfl := Option.some.inj h
    exact z_zret X hr (Or.inl rfl) hH dX6_isFree_29
  have h := zt zc1 h
  refine lv_iload_n (pc := 5) hx hb dX6_isFree_5 rfl (lv_at hl 3 rfl) ?_
  obtain ⟨zr2, hzr2, h⟩ := zb h
  refine zcN (pc := 6) (As := [.int x3]) (rest := []) (st1 := [.int zr2]) (ws' := wH cy hq h_alive h_late h_hbr h_rbh h_waits h_pers h_size h_ranks h_lines) (wr := [((hq 0), .inr (2, [.ref (hq 1), .ref (hq 2), .ref (hq 3), .ref (hq 4), .ref (hq 5), .ref (hq 6), .int h_size, .int h_ranks, .int h_lines])), ((hq 1), .inl (cy 2, 16, .inl h_alive)), ((hq 2), .inl (cy 0, 16, .inl h_late)), ((hq 3), .inl (cy 0, 16, .inl h_hbr)), ((hq 4), .inl (cy 0, 16, .inl h_rbh)), ((hq 5), .inl (cy 0, 256, .inl h_waits)), ((hq 6), .inl (cy 0, 256, .inl h_pers))]) (n := 1) (host := "SumsToAll") X (c_X8_hostOfCell l G cy fu x3 zr2 hzr2) hH [] [0, 1, 2, 3, 4, 5, 6] [0, 1, 2, 3, 4, 5, 6] rfl rfl rfl rfl gX6_isFree_X8_hostOfCell_n56 (List.mem_of_getElem? (i := 10) rfl) (List.mem_of_getElem? (i := 2) rfl) (List.mem_of_getElem? (i := 1) rfl) rfl ⟨rfl, rfl⟩ kX8_hostOfCell ⟨Nat.le_of_ble_eq_true rfl, Nat.le_of_ble_eq_true rfl⟩ rfl rfl rfl hl.1 (Nat.le_of_ble_eq_true rfl) ⟨Nat.le_of_ble_eq_true rfl, Nat.le_of_ble_eq_true rfl⟩ dX6_isFree_6 (fun H locs hH => ?_)
  refine lv_iload_n (pc := 9) hx hb dX6_isFree_9 rfl (lv_at hl 2 rfl) ?_
  refine lv_icmp_eq (pc := 10) (tgt := 28) hx hb dX6_isFree_10 rfl (fun zc3 => ?_) (fun zc3 => ?_)
  · have h := zt zc3 h
    refine lv_iconst (v := 0) (pc := 28) hx hb dX6_isFree_28 zk_c0 ?_
    obtain rfl := Option.some.inj h
    exact z_zret X hr (Or.inl rfl) hH dX6_isFree_29
  have h := zf zc3 h
  refine lv_iload_n (pc := 13) hx hb dX6_isFree_13 rfl (lv_at hl 3 rfl) ?_
  obtain ⟨zr4, hzr4, h⟩ := zb h
  refine zcN (pc := 14) (As := [.int x3]) (rest := []) (st1 := [.int zr4]) (ws' := wH cy hq h_alive h_late h_hbr h_rbh h_waits h_pers h_size h_ranks h_lines) (wr := [((hq 0), .inr (2, [.ref (hq 1), .ref (hq 2), .ref (hq 3), .ref (hq 4), .ref (hq 5), .ref (hq 6), .int h_size, .int h_ranks, .int h_lines])), ((hq 1), .inl (cy 2, 16, .inl h_alive)), ((hq 2), .inl (cy 0, 16, .inl h_late)), ((hq 3), .inl (cy 0, 16, .inl h_hbr)), ((hq 4), .inl (cy 0, 16, .inl h_rbh)), ((hq 5), .inl (cy 0, 256, .inl h_waits)), ((hq 6), .inl (cy 0, 256, .inl h_pers))]) (n := 1) (host := "SumsToAll") X (c_X8_blockOfCell l G cy fu x3 zr4 hzr4) hH [] [0, 1, 2, 3, 4, 5, 6] [0, 1, 2, 3, 4, 5, 6] rfl rfl rfl rfl gX6_isFree_X8_blockOfCell_n72 (List.mem_of_getElem? (i := 11) rfl) (List.mem_of_getElem? (i := 2) rfl) (List.mem_of_getElem? (i := 4) rfl) rfl ⟨rfl, rfl⟩ kX8_blockOfCell ⟨Nat.le_of_ble_eq_true rfl, Nat.le_of_ble_eq_true rfl⟩ rfl rfl rfl hl.1 (Nat.le_of_ble_eq_true rfl) ⟨Nat.le_of_ble_eq_true rfl, Nat.le_of_ble_eq_true rfl⟩ dX6_isFree_14 (fun H locs hH => ?_)
  refine lv_aload_n (pc := 17) hx hb dX6_isFree_17 rfl (lv_at hl 0 rfl) ?_
  obtain ⟨zr5, hzr5, h⟩ := zb h
  refine zcV (pc := 18) (As := []) (rest := [.int zr4]) (st1 := [.int zr5, .int zr4]) (ws' := wH cy hq h_alive h_late h_hbr h_rbh h_waits h_pers h_size h_ranks h_lines) (wr := []) (n := 0) (q0 := 0) X (c_X3_ranks l G cy fu hq h_alive h_late h_hbr h_rbh h_waits h_pers h_size h_ranks h_lines zr5 hzr5) hH [0, 1, 2, 3, 4, 5, 6] [] [0, 1, 2, 3, 4, 5, 6] rfl rfl rfl rfl gX6_isFree_X3_ranks rfl ⟨rfl, rfl⟩ kX3_ranks ⟨Nat.le_of_ble_eq_true rfl, Nat.le_of_ble_eq_true rfl⟩ rfl rfl rfl rfl rfl hl.1 (Nat.le_of_ble_eq_true rfl) ⟨Nat.le_of_ble_eq_true rfl, Nat.le_of_ble_eq_true rfl⟩ dX6_isFree_18 (fun H locs hH => ?_)
  refine lv_icmp_ge (pc := 21) (tgt := 28) hx hb dX6_isFree_21 rfl (fun zc6 => ?_) (fun zc6 => ?_)
  · have h := zt zc6 h
    refine lv_iconst (v := 0) (pc := 28) hx hb dX6_isFree_28 zk_c0 ?_
    obtain rfl := Option.some.inj h
    exact z_zret X hr (Or.inl rfl) hH dX6_isFree_29
  have h := zf zc6 h
  refine lv_iconst (v := 1) (pc := 24) hx hb dX6_isFree_24 zk_c1 ?_
  refine lv_goto (pc := 25) (tgt := 29) hx hb dX6_isFree_25 rfl ?_
  obtain rfl := Option.some.inj h
  exact z_zret X hr (Or.inr rfl) hH dX6_isFree_29
set_option maxHeartbeats 4000000 in
set_option maxRecDepth 100000 in
theorem w_X6_sumOf_l5 {p : Program} {l : Launch} {e : Env} {s : State} {m : MethodId} {args : Array Value} {below : List Frame} {meth : Method} {c : Code} {A : Nat → Prop} {Q : State → Prop} (G : va_G) (cy : Nat → ClassId) (fu : Nat) (sq : Nat → Nat) (hq : Nat → Nat) (h_alive : Nat → Int32) (h_late : Nat → Int32) (h_hbr : Nat → Int32) (h_rbh : Nat → Int32) (h_waits : Nat → Int32) (h_pers : Nat → Int32) (h_size : Int32) (h_ranks : Int32) (h_lines : Int32) (s_some : Nat → Int64) (s_more : Nat → Int64) (s_sund : Nat → Int64) (s_mund : Nat → Int64) (s_group : Int32) (x2 : Int32) (X : zX p s m args meth c RX6 cX6_sumOf 7 wsX6_sumOf G cy A) : ∀ (n : Nat) (x3 : Int64) (x5 : Int32) (rr : Int64) (h : lp (f_X6_sumOf_l5 fu h_alive h_size s_group x2) n (x3, x5) = some rr) (H : Heap) (locs : List Loc) (ls : Array Slot) (hH : zH G A s.heap (wG cy sq s_some s_more s_sund s_mund s_group ++ wH cy hq h_alive h_late h_hbr h_rbh h_waits h_pers h_size h_ranks h_lines) H locs) (hl : lv_has ls 7 [(0, .ref (sq 0)), (1, .ref (hq 0)), (2, .int x2), (3, .long x3), (5, .int x5)]) (K0 : ∀ (H : Heap) (locs : List Loc) (ls : Array Slot), zH G A s.heap (wG cy sq s_some s_more s_sund s_mund s_group ++ wH cy hq h_alive h_late h_hbr h_rbh h_waits h_pers h_size h_ranks h_lines) H locs → lv_has ls 7 [(3, .long rr)] → W p l e (zR 2 42) s m args below meth c H locs 0 0 Q (F0 m 50 ls [])), W p l e (zR 2 42) s m args below meth c H locs 0 0 Q (F0 m 5 ls []) := by
  have hx := X.1.1
  have hb := X.1.2.1
  intro n
  induction n with
  | zero => intro x3 x5 rr h H locs ls hH hl K0; cases h
  | succ n ih =>
    intro x3 x5 rr h H locs ls hH hl K0
    replace h : f_X6_sumOf_l5 fu h_alive h_size s_group x2 (lp (f_X6_sumOf_l5 fu h_alive h_size s_group x2) n) (x3, x5) = some rr := h
    dsimp only [f_X6_sumOf_l5] at h
    refine lv_iload (pc := 5) hx hb dX6_sumOf_5 (lv_at hl 4 rfl) ?_
    refine lv_iconst (v := 4) (pc := 7) hx hb dX6_sumOf_7 zk_c4 ?_
    refine lv_icmp_ge (pc := 8) (tgt := 50) hx hb dX6_sumOf_8 rfl (fun zc1 => ?_) (fun zc1 => ?_)
    · have h := zt zc1 h
      obtain rfl := Option.some.inj h
      exact K0 _ _ _ hH (lv_sub hl [3] rfl)
    have h := zf zc1 h
    refine lv_aload_n (pc := 11) hx hb dX6_sumOf_11 rfl (lv_at hl 0 rfl) ?_
    refine z_get (pc := 12) (v := .int s_group) X iX6_sumOf_X6 hH 0 rfl rfl 4 rfl (List.mem_of_getElem? (i := 1) rfl) rfl dX6_sumOf_12 ?_
    refine lv_iconst (v := 4) (pc := 15) hx hb dX6_sumOf_15 zk_c4 ?_
    refine lv_imul (pc := 16) hx hb dX6_sumOf_16 ?_
    refine lv_iload (pc := 17) hx hb dX6_sumOf_17 (lv_at hl 4 rfl) ?_
    refine lv_iadd (pc := 19) hx hb dX6_sumOf_19 ?_
    refine lv_topi (fun za2 eza2 => ?_)
    have h := vn_s h za2 eza2
    refine lv_istore (pc := 20) (lv' := [(6, .int za2), (0, .ref (sq 0)), (1, .ref (hq 0)), (2, .int x2), (3, .long x3), (5, .int x5)]) hx hb dX6_sumOf_20 hl (by decide) rfl (fun ls hl => ?_)
    refine lv_aload_n (pc := 22) hx hb dX6_sumOf_22 rfl (lv_at hl 2 rfl) ?_
    refine lv_iload (pc := 23) hx hb dX6_sumOf_23 (lv_at hl 0 rfl) ?_
    obtain ⟨zr3, hzr3, h⟩ := zb h
    refine zcV (pc := 25) (As := [.int za2]) (rest := []) (st1 := [.int zr3]) (ws' := wG cy sq s_some s_more s_sund s_mund s_group ++ wH cy hq h_alive h_late h_hbr h_rbh h_waits h_pers h_size h_ranks h_lines) (wr := [((sq 0), .inr (5, [.ref (sq 1), .ref (sq 2), .ref (sq 3), .ref (sq 4), .int s_group])), ((sq 1), .inl (cy 1, 256, .inr (.inl s_some))), ((sq 2), .inl (cy 1, 256, .inr (.inl s_more))), ((sq 3), .inl (cy 1, 256, .inr (.inl s_sund))), ((sq 4), .inl (cy 1, 256, .inr (.inl s_mund)))]) (n := 1) (q0 := 0) X (c_X3_isLive l G cy fu hq h_alive h_late h_hbr h_rbh h_waits h_pers h_size h_ranks h_lines za2 zr3 hzr3) hH [5, 6, 7, 8, 9, 10, 11] [0, 1, 2, 3, 4] [0, 1, 2, 3, 4, 5, 6, 7, 8, 9, 10, 11] rfl rfl rfl rfl gX6_sumOf_X3_isLive rfl ⟨rfl, rfl⟩ kX3_isLive ⟨Nat.le_of_ble_eq_true rfl, Nat.le_of_ble_eq_true rfl⟩ rfl rfl rfl rfl rfl hl.1 (Nat.le_of_ble_eq_true rfl) ⟨Nat.le_of_ble_eq_true rfl, Nat.le_of_ble_eq_true rfl⟩ dX6_sumOf_25 (fun H locs hH => ?_)
    refine lv_if_eq (pc := 28) (tgt := 44) hx hb dX6_sumOf_28 rfl (fun zc4 => ?_) (fun zc4 => ?_)
    · have h := zt zc4 h
      refine lv_iinc (pc := 44) (v := (x5 + 1)) (lv' := [(5, .int (x5 + 1)), (6, .int za2), (0, .ref (sq 0)), (1, .ref (hq 0)), (2, .int x2), (3, .long x3)]) hx hb dX6_sumOf_44 hl (k := 5) rfl (by rw [zk_c1]) (by decide) rfl (fun ls hl => ?_)
      refine lv_goto (pc := 47) (tgt := 5) hx hb dX6_sumOf_47 rfl ?_
      exact ih x3 (x5 + 1) rr h _ _ _ hH (lv_sub hl [2, 3, 4, 5, 0] rfl) K0
    have h := zf zc4 h
    refine lv_lload_n (pc := 31) hx hb dX6_sumOf_31 rfl (lv_at hl 4 rfl) ?_
    refine lv_aload_n (pc := 32) hx hb dX6_sumOf_32 rfl (lv_at hl 1 rfl) ?_
    refine lv_iload (pc := 33) hx hb dX6_sumOf_33 (lv_at hl 0 rfl) ?_
    refine lv_iload_n (pc := 35) hx hb dX6_sumOf_35 rfl (lv_at hl 3 rfl) ?_
    obtain ⟨zr5, hzr5, h⟩ := zb h
    refine zcN (pc := 36) (As := [.int za2, .int x2]) (rest := [.ref (sq 0), .long x3]) (st1 := [.int zr5, .ref (sq 0), .long x3]) (ws' := wG cy sq s_some s_more s_sund s_mund s_group ++ wH cy hq h_alive h_late h_hbr h_rbh h_waits h_pers h_size h_ranks h_lines) (wr := [((sq 0), .inr (5, [.ref (sq 1), .ref (sq 2), .ref (sq 3), .ref (sq 4), .int s_group])), ((sq 1), .inl (cy 1, 256, .inr (.inl s_some))), ((sq 2), .inl (cy 1, 256, .inr (.inl s_more))), ((sq 3), .inl (cy 1, 256, .inr (.inl s_sund))), ((sq 4), .inl (cy 1, 256, .inr (.inl s_mund))), ((hq 0), .inr (2, [.ref (hq 1), .ref (hq 2), .ref (hq 3), .ref (hq 4), .ref (hq 5), .ref (hq 6), .int h_size, .int h_ranks, .int h_lines])), ((hq 1), .inl (cy 2, 16, .inl h_alive)), ((hq 2), .inl (cy 0, 16, .inl h_late)), ((hq 3), .inl (cy 0, 16, .inl h_hbr)), ((hq 4), .inl (cy 0, 16, .inl h_rbh)), ((hq 5), .inl (cy 0, 256, .inl h_waits)), ((hq 6), .inl (cy 0, 256, .inl h_pers))]) (n := 2) (host := "SumsToAll") X (c_X8_cell l G cy fu za2 x2 zr5 hzr5) hH [] [0, 1, 2, 3, 4, 5, 6, 7, 8, 9, 10, 11] [0, 1, 2, 3, 4, 5, 6, 7, 8, 9, 10, 11] rfl rfl rfl rfl gX6_sumOf_X8_cell_n78 (List.mem_of_getElem? (i := 12) rfl) (List.mem_of_getElem? (i := 14) rfl) (List.mem_of_getElem? (i := 13) rfl) rfl ⟨rfl, rfl⟩ kX8_cell ⟨Nat.le_of_ble_eq_true rfl, Nat.le_of_ble_eq_true rfl⟩ rfl rfl rfl hl.1 (Nat.le_of_ble_eq_true rfl) ⟨Nat.le_of_ble_eq_true rfl, Nat.le_of_ble_eq_true rfl⟩ dX6_sumOf_36 (fun H locs hH => ?_)
    obtain ⟨zr6, hzr6, h⟩ := zb h
    refine zcV (pc := 39) (As := [.int zr5]) (rest := [.long x3]) (st1 := [.long zr6, .long x3]) (ws' := wG cy sq s_some s_more s_sund s_mund s_group ++ wH cy hq h_alive h_late h_hbr h_rbh h_waits h_pers h_size h_ranks h_lines) (wr := [((hq 0), .inr (2, [.ref (hq 1), .ref (hq 2), .ref (hq 3), .ref (hq 4), .ref (hq 5), .ref (hq 6), .int h_size, .int h_ranks, .int h_lines])), ((hq 1), .inl (cy 2, 16, .inl h_alive)), ((hq 2), .inl (cy 0, 16, .inl h_late)), ((hq 3), .inl (cy 0, 16, .inl h_hbr)), ((hq 4), .inl (cy 0, 16, .inl h_rbh)), ((hq 5), .inl (cy 0, 256, .inl h_waits)), ((hq 6), .inl (cy 0, 256, .inl h_pers))]) (n := 1) (q0 := 0) X (c_X6_signOf l G cy fu sq s_some s_more s_sund s_mund s_group zr5 zr6 hzr6) hH [0, 1, 2, 3, 4] [5, 6, 7, 8, 9, 10, 11] [7, 8, 9, 10, 11, 0, 1, 2, 3, 4, 5, 6] rfl rfl rfl rfl gX6_sumOf_X6_signOf rfl ⟨rfl, rfl⟩ kX6_signOf ⟨Nat.le_of_ble_eq_true rfl, Nat.le_of_ble_eq_true rfl⟩ rfl rfl rfl rfl rfl hl.1 (Nat.le_of_ble_eq_true rfl) ⟨Nat.le_of_ble_eq_true rfl, Nat.le_of_ble_eq_true rfl⟩ dX6_sumOf_39 (fun H locs hH => ?_)
    refine lv_lor (pc := 42) hx hb dX6_sumOf_42 ?_
    refine lv_topl (fun za7 eza7 => ?_)
    have h := vn_s h za7 eza7
    refine lv_lstore_n (pc := 43) (lv' := [(3, .long za7), (6, .int za2), (0, .ref (sq 0)), (1, .ref (hq 0)), (2, .int x2), (5, .int x5)]) hx hb dX6_sumOf_43 rfl hl (by decide) rfl (fun ls hl => ?_)
    refine lv_iinc (pc := 44) (v := (x5 + 1)) (lv' := [(5, .int (x5 + 1)), (3, .long za7), (6, .int za2), (0, .ref (sq 0)), (1, .ref (hq 0)), (2, .int x2)]) hx hb dX6_sumOf_44 hl (k := 5) rfl (by rw [zk_c1]) (by decide) rfl (fun ls hl => ?_)
    refine lv_goto (pc := 47) (tgt := 5) hx hb dX6_sumOf_47 rfl ?_
    exact ih za7 (x5 + 1) rr h _ _ _ hH (lv_sub hl [3, 4, 5, 1, 0] rfl) K0
set_option maxHeartbeats 4000000 in
set_option maxRecDepth 100000 in
theorem c_X6_sumOf (l : Launch) (G : va_G) (cy : Nat → ClassId) (fu : Nat) (sq : Nat → Nat) (hq : Nat → Nat) (h_alive : Nat → Int32) (h_late : Nat → Int32) (h_hbr : Nat → Int32) (h_rbh : Nat → Int32) (h_waits : Nat → Int32) (h_pers : Nat → Int32) (h_size : Int32) (h_ranks : Int32) (h_lines : Int32) (s_some : Nat → Int64) (s_more : Nat → Int64) (s_sund : Nat → Int64) (s_mund : Nat → Int64) (s_group : Int32) (x2 : Int32) (rr : Int64) (h : f_X6_sumOf fu h_alive h_size s_group x2 = some rr) : zM l G cy yX6_sumOf wsX6_sumOf (zR 2 42) [.ref (sq 0), .ref (hq 0), .int x2] (wG cy sq s_some s_more s_sund s_mund s_group ++ wH cy hq h_alive h_late h_hbr h_rbh h_waits h_pers h_size h_ranks h_lines) (wG cy sq s_some s_more s_sund s_mund s_group ++ wH cy hq h_alive h_late h_hbr h_rbh h_waits h_pers h_size h_ranks h_lines) (some (.long rr)) := by
  refine zM.mk (cc := cX6_sumOf) (nL := 7) (ret := (some .long)) (by decide) rfl (Nat.le_of_ble_eq_true rfl) ?_
  intro p e s m below meth c A ls X hr hH hl
  replace X : zX p s m [.ref (sq 0), .ref (hq 0), .int x2].toArray meth c RX6 cX6_sumOf 7 wsX6_sumOf G cy A := X
  have hx := X.1.1
  have hb := X.1.2.1
  replace hl : lv_has ls 7 [(0, .ref (sq 0)), (1, .ref (hq 0)), (2, .int x2)] := hl
  dsimp only [f_X6_sumOf] at h
  refine lv_lconst (pc := 0) (v := 0) hx hb dX6_sumOf_0 zk_l0 ?_
  refine lv_lstore_n (pc := 1) (lv' := [(3, .long 0), (0, .ref (sq 0)), (1, .ref (hq 0)), (2, .int x2)]) hx hb dX6_sumOf_1 rfl hl (by decide) rfl (fun ls hl => ?_)
  refine lv_iconst (v := 0) (pc := 2) hx hb dX6_sumOf_2 zk_c0 ?_
  refine lv_istore (pc := 3) (lv' := [(5, .int 0), (3, .long 0), (0, .ref (sq 0)), (1, .ref (hq 0)), (2, .int x2)]) hx hb dX6_sumOf_3 hl (by decide) rfl (fun ls hl => ?_)
  obtain ⟨zr1, hzr1, h⟩ := zb h
  refine w_X6_sumOf_l5 G cy fu sq hq h_alive h_late h_hbr h_rbh h_waits h_pers h_size h_ranks h_lines s_some s_more s_sund s_mund s_group x2 X fu 0 0 zr1 hzr1 _ _ _ hH (lv_sub hl [2, 3, 4, 1, 0] rfl) (fun H locs ls hH hl => ?_)
  refine lv_lload_n (pc := 50) hx hb dX6_sumOf_50 rfl (lv_at hl 0 rfl) ?_
  obtain rfl := Option.some.inj h
  exact z_lret X hr hH dX6_sumOf_51
