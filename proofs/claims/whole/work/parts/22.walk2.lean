set_option maxHeartbeats 4000000 in
set_option maxRecDepth 100000 in
theorem c_X6_askedOf (l : Launch) (G : va_G) (cy : Nat → ClassId) (fu : Nat) (sq : Nat → Nat) (hq : Nat → Nat) (h_alive : Nat → Int32) (h_late : Nat → Int32) (h_hbr : Nat → Int32) (h_rbh : Nat → Int32) (h_waits : Nat → Int32) (h_pers : Nat → Int32) (h_size : Int32) (h_ranks : Int32) (h_lines : Int32) (s_some : Nat → Int64) (s_more : Nat → Int64) (s_sund : Nat → Int64) (s_mund : Nat → Int64) (s_group : Int32) (x2 : Int32) (x3 : Int32) (x4 : Int32) (rr : Int64) (h : f_X6_askedOf fu h_alive h_hbr h_rbh h_size h_ranks s_group x2 x3 x4 = some rr) : zM l G cy yX6_askedOf wsX6_askedOf (zR 3 68) [.ref (sq 0), .ref (hq 0), .int x2, .int x3, .int x4] (wG cy sq s_some s_more s_sund s_mund s_group ++ wH cy hq h_alive h_late h_hbr h_rbh h_waits h_pers h_size h_ranks h_lines) (wG cy sq s_some s_more s_sund s_mund s_group ++ wH cy hq h_alive h_late h_hbr h_rbh h_waits h_pers h_size h_ranks h_lines) (some (.long rr)) := by
  refine zM.mk (cc := cX6_askedOf) (nL := 6) (ret := (some .long)) (by decide) rfl (Nat.le_of_ble_eq_true rfl) ?_
  intro p e s m below meth c A ls X hr hH hl
  replace X : zX p s m [.ref (sq 0), .ref (hq 0), .int x2, .int x3, .int x4].toArray meth c RX6 cX6_askedOf 6 wsX6_askedOf G cy A := X
  have hx := X.1.1
  have hb := X.1.2.1
  replace hl : lv_has ls 6 [(0, .ref (sq 0)), (1, .ref (hq 0)), (2, .int x2), (3, .int x3), (4, .int x4)] := hl
  dsimp only [f_X6_askedOf] at h
  refine lv_iload (pc := 0) hx hb dX6_askedOf_0 (lv_at hl 4 rfl) ?_
  obtain ⟨zr1, hzr1, h⟩ := zb h
  refine zcN (pc := 2) (As := [.int x4]) (rest := []) (st1 := [.int zr1]) (ws' := wG cy sq s_some s_more s_sund s_mund s_group ++ wH cy hq h_alive h_late h_hbr h_rbh h_waits h_pers h_size h_ranks h_lines) (wr := [((sq 0), .inr (5, [.ref (sq 1), .ref (sq 2), .ref (sq 3), .ref (sq 4), .int s_group])), ((sq 1), .inl (cy 1, 256, .inr (.inl s_some))), ((sq 2), .inl (cy 1, 256, .inr (.inl s_more))), ((sq 3), .inl (cy 1, 256, .inr (.inl s_sund))), ((sq 4), .inl (cy 1, 256, .inr (.inl s_mund))), ((hq 0), .inr (2, [.ref (hq 1), .ref (hq 2), .ref (hq 3), .ref (hq 4), .ref (hq 5), .ref (hq 6), .int h_size, .int h_ranks, .int h_lines])), ((hq 1), .inl (cy 2, 16, .inl h_alive)), ((hq 2), .inl (cy 0, 16, .inl h_late)), ((hq 3), .inl (cy 0, 16, .inl h_hbr)), ((hq 4), .inl (cy 0, 16, .inl h_rbh)), ((hq 5), .inl (cy 0, 256, .inl h_waits)), ((hq 6), .inl (cy 0, 256, .inl h_pers))]) (n := 1) (host := "SumsToAll") X (c_X8_blockOfCell l G cy fu x4 zr1 hzr1) hH [] [0, 1, 2, 3, 4, 5, 6, 7, 8, 9, 10, 11] [0, 1, 2, 3, 4, 5, 6, 7, 8, 9, 10, 11] rfl rfl rfl rfl gX6_askedOf_X8_blockOfCell_n72 (List.mem_of_getElem? (i := 11) rfl) (List.mem_of_getElem? (i := 2) rfl) (List.mem_of_getElem? (i := 1) rfl) rfl ⟨rfl, rfl⟩ kX8_blockOfCell ⟨Nat.le_of_ble_eq_true rfl, Nat.le_of_ble_eq_true rfl⟩ rfl rfl rfl hl.1 (Nat.le_of_ble_eq_true rfl) ⟨Nat.le_of_ble_eq_true rfl, Nat.le_of_ble_eq_true rfl⟩ dX6_askedOf_2 (fun H locs hH => ?_)
  refine lv_istore (pc := 5) (lv' := [(5, .int zr1), (0, .ref (sq 0)), (1, .ref (hq 0)), (2, .int x2), (3, .int x3), (4, .int x4)]) hx hb dX6_askedOf_5 hl (by decide) rfl (fun ls hl => ?_)
  refine lv_iload (pc := 7) hx hb dX6_askedOf_7 (lv_at hl 0 rfl) ?_
  refine lv_aload_n (pc := 9) hx hb dX6_askedOf_9 rfl (lv_at hl 2 rfl) ?_
  obtain ⟨zr2, hzr2, h⟩ := zb h
  refine zcV (pc := 10) (As := []) (rest := [.int zr1]) (st1 := [.int zr2, .int zr1]) (ws' := wG cy sq s_some s_more s_sund s_mund s_group ++ wH cy hq h_alive h_late h_hbr h_rbh h_waits h_pers h_size h_ranks h_lines) (wr := [((sq 0), .inr (5, [.ref (sq 1), .ref (sq 2), .ref (sq 3), .ref (sq 4), .int s_group])), ((sq 1), .inl (cy 1, 256, .inr (.inl s_some))), ((sq 2), .inl (cy 1, 256, .inr (.inl s_more))), ((sq 3), .inl (cy 1, 256, .inr (.inl s_sund))), ((sq 4), .inl (cy 1, 256, .inr (.inl s_mund)))]) (n := 0) (q0 := 0) X (c_X3_ranks l G cy fu hq h_alive h_late h_hbr h_rbh h_waits h_pers h_size h_ranks h_lines zr2 hzr2) hH [5, 6, 7, 8, 9, 10, 11] [0, 1, 2, 3, 4] [0, 1, 2, 3, 4, 5, 6, 7, 8, 9, 10, 11] rfl rfl rfl rfl gX6_askedOf_X3_ranks rfl ⟨rfl, rfl⟩ kX3_ranks ⟨Nat.le_of_ble_eq_true rfl, Nat.le_of_ble_eq_true rfl⟩ rfl rfl rfl rfl rfl hl.1 (Nat.le_of_ble_eq_true rfl) ⟨Nat.le_of_ble_eq_true rfl, Nat.le_of_ble_eq_true rfl⟩ dX6_askedOf_10 (fun H locs hH => ?_)
  refine lv_icmp_lt (pc := 13) (tgt := 23) hx hb dX6_askedOf_13 rfl (fun zc3 => ?_) (fun zc3 => ?_)
  · have h := zt zc3 h
    refine lv_iload_n (pc := 23) hx hb dX6_askedOf_23 rfl (lv_at hl 3 rfl) ?_
    by_cases zc4 : x2 = 0
    · have h := zt zc4 h
      refine lv_tableIn (pc := 24) (off := 36) (tgt := 60) hx hb dX6_askedOf_24 (by rw [zc4]; decide) (by rw [zc4]; decide) (by rw [zc4]; rfl) rfl ?_
      refine lv_aload_n (pc := 60) hx hb dX6_askedOf_60 rfl (lv_at hl 1 rfl) ?_
      refine lv_iload_n (pc := 61) hx hb dX6_askedOf_61 rfl (lv_at hl 4 rfl) ?_
      refine lv_iload (pc := 62) hx hb dX6_askedOf_62 (lv_at hl 0 rfl) ?_
      obtain ⟨zr5, hzr5, h⟩ := zb h
      refine zcN (pc := 64) (As := [.int x3, .int zr1]) (rest := [.ref (sq 0)]) (st1 := [.int zr5, .ref (sq 0)]) (ws' := wG cy sq s_some s_more s_sund s_mund s_group ++ wH cy hq h_alive h_late h_hbr h_rbh h_waits h_pers h_size h_ranks h_lines) (wr := [((sq 0), .inr (5, [.ref (sq 1), .ref (sq 2), .ref (sq 3), .ref (sq 4), .int s_group])), ((sq 1), .inl (cy 1, 256, .inr (.inl s_some))), ((sq 2), .inl (cy 1, 256, .inr (.inl s_more))), ((sq 3), .inl (cy 1, 256, .inr (.inl s_sund))), ((sq 4), .inl (cy 1, 256, .inr (.inl s_mund))), ((hq 0), .inr (2, [.ref (hq 1), .ref (hq 2), .ref (hq 3), .ref (hq 4), .ref (hq 5), .ref (hq 6), .int h_size, .int h_ranks, .int h_lines])), ((hq 1), .inl (cy 2, 16, .inl h_alive)), ((hq 2), .inl (cy 0, 16, .inl h_late)), ((hq 3), .inl (cy 0, 16, .inl h_hbr)), ((hq 4), .inl (cy 0, 16, .inl h_rbh)), ((hq 5), .inl (cy 0, 256, .inl h_waits)), ((hq 6), .inl (cy 0, 256, .inl h_pers))]) (n := 2) (host := "SumsToAll") X (c_X8_cell l G cy fu x3 zr1 zr5 hzr5) hH [] [0, 1, 2, 3, 4, 5, 6, 7, 8, 9, 10, 11] [0, 1, 2, 3, 4, 5, 6, 7, 8, 9, 10, 11] rfl rfl rfl rfl gX6_askedOf_X8_cell_n78 (List.mem_of_getElem? (i := 12) rfl) (List.mem_of_getElem? (i := 2) rfl) (List.mem_of_getElem? (i := 16) rfl) rfl ⟨rfl, rfl⟩ kX8_cell ⟨Nat.le_of_ble_eq_true rfl, Nat.le_of_ble_eq_true rfl⟩ rfl rfl rfl hl.1 (Nat.le_of_ble_eq_true rfl) ⟨Nat.le_of_ble_eq_true rfl, Nat.le_of_ble_eq_true rfl⟩ dX6_askedOf_64 (fun H locs hH => ?_)
      obtain ⟨zr6, hzr6, h⟩ := zb h
      refine zcV (pc := 67) (As := [.int zr5]) (rest := []) (st1 := [.long zr6]) (ws' := wG cy sq s_some s_more s_sund s_mund s_group ++ wH cy hq h_alive h_late h_hbr h_rbh h_waits h_pers h_size h_ranks h_lines) (wr := [((hq 0), .inr (2, [.ref (hq 1), .ref (hq 2), .ref (hq 3), .ref (hq 4), .ref (hq 5), .ref (hq 6), .int h_size, .int h_ranks, .int h_lines])), ((hq 1), .inl (cy 2, 16, .inl h_alive)), ((hq 2), .inl (cy 0, 16, .inl h_late)), ((hq 3), .inl (cy 0, 16, .inl h_hbr)), ((hq 4), .inl (cy 0, 16, .inl h_rbh)), ((hq 5), .inl (cy 0, 256, .inl h_waits)), ((hq 6), .inl (cy 0, 256, .inl h_pers))]) (n := 1) (q0 := 0) X (c_X6_signOf l G cy fu sq s_some s_more s_sund s_mund s_group zr5 zr6 hzr6) hH [0, 1, 2, 3, 4] [5, 6, 7, 8, 9, 10, 11] [7, 8, 9, 10, 11, 0, 1, 2, 3, 4, 5, 6] rfl rfl rfl rfl gX6_askedOf_X6_signOf rfl ⟨rfl, rfl⟩ kX6_signOf ⟨Nat.le_of_ble_eq_true rfl, Nat.le_of_ble_eq_true rfl⟩ rfl rfl rfl rfl rfl hl.1 (Nat.le_of_ble_eq_true rfl) ⟨Nat.le_of_ble_eq_true rfl, Nat.le_of_ble_eq_true rfl⟩ dX6_askedOf_67 (fun H locs hH => ?_)
      obtain rfl := Option.some.inj h
      exact z_lret X hr hH dX6_askedOf_70
    have h := zf zc4 h
    by_cases zc7 : x2 = 1
    · have h := zt zc7 h
      refine lv_tableIn (pc := 24) (off := 86) (tgt := 110) hx hb dX6_askedOf_24 (by rw [zc7]; decide) (by rw [zc7]; decide) (by rw [zc7]; rfl) rfl ?_
      refine lv_aload_n (pc := 110) hx hb dX6_askedOf_110 rfl (lv_at hl 1 rfl) ?_
      refine lv_aload_n (pc := 111) hx hb dX6_askedOf_111 rfl (lv_at hl 2 rfl) ?_
      refine lv_iload (pc := 112) hx hb dX6_askedOf_112 (lv_at hl 0 rfl) ?_
      obtain ⟨zr8, hzr8, h⟩ := zb h
      refine zcV (pc := 114) (As := [.ref (hq 0), .int zr1]) (rest := []) (st1 := [.long zr8]) (ws' := wG cy sq s_some s_more s_sund s_mund s_group ++ wH cy hq h_alive h_late h_hbr h_rbh h_waits h_pers h_size h_ranks h_lines) (wr := []) (n := 2) (q0 := 0) X (c_X6_sumOf l G cy fu sq hq h_alive h_late h_hbr h_rbh h_waits h_pers h_size h_ranks h_lines s_some s_more s_sund s_mund s_group zr1 zr8 hzr8) hH [0, 1, 2, 3, 4, 5, 6, 7, 8, 9, 10, 11] [] [0, 1, 2, 3, 4, 5, 6, 7, 8, 9, 10, 11] rfl rfl rfl rfl gX6_askedOf_X6_sumOf rfl ⟨rfl, rfl⟩ kX6_sumOf ⟨Nat.le_of_ble_eq_true rfl, Nat.le_of_ble_eq_true rfl⟩ rfl rfl rfl rfl rfl hl.1 (Nat.le_of_ble_eq_true rfl) ⟨Nat.le_of_ble_eq_true rfl, Nat.le_of_ble_eq_true rfl⟩ dX6_askedOf_114 (fun H locs hH => ?_)
      obtain rfl := Option.some.inj h
      exact z_lret X hr hH dX6_askedOf_117
    have h := zf zc7 h
    by_cases zc9 : x2 = 2
    · have h := zt zc9 h
      refine lv_tableIn (pc := 24) (off := 86) (tgt := 110) hx hb dX6_askedOf_24 (by rw [zc9]; decide) (by rw [zc9]; decide) (by rw [zc9]; rfl) rfl ?_
      refine lv_aload_n (pc := 110) hx hb dX6_askedOf_110 rfl (lv_at hl 1 rfl) ?_
      refine lv_aload_n (pc := 111) hx hb dX6_askedOf_111 rfl (lv_at hl 2 rfl) ?_
      refine lv_iload (pc := 112) hx hb dX6_askedOf_112 (lv_at hl 0 rfl) ?_
      obtain ⟨zr10, hzr10, h⟩ := zb h
      refine zcV (pc := 114) (As := [.ref (hq 0), .int zr1]) (rest := []) (st1 := [.long zr10]) (ws' := wG cy sq s_some s_more s_sund s_mund s_group ++ wH cy hq h_alive h_late h_hbr h_rbh h_waits h_pers h_size h_ranks h_lines) (wr := []) (n := 2) (q0 := 0) X (c_X6_sumOf l G cy fu sq hq h_alive h_late h_hbr h_rbh h_waits h_pers h_size h_ranks h_lines s_some s_more s_sund s_mund s_group zr1 zr10 hzr10) hH [0, 1, 2, 3, 4, 5, 6, 7, 8, 9, 10, 11] [] [0, 1, 2, 3, 4, 5, 6, 7, 8, 9, 10, 11] rfl rfl rfl rfl gX6_askedOf_X6_sumOf rfl ⟨rfl, rfl⟩ kX6_sumOf ⟨Nat.le_of_ble_eq_true rfl, Nat.le_of_ble_eq_true rfl⟩ rfl rfl rfl rfl rfl hl.1 (Nat.le_of_ble_eq_true rfl) ⟨Nat.le_of_ble_eq_true rfl, Nat.le_of_ble_eq_true rfl⟩ dX6_askedOf_114 (fun H locs hH => ?_)
      obtain rfl := Option.some.inj h
      exact z_lret X hr hH dX6_askedOf_117
    have h := zf zc9 h
    by_cases zc11 : x2 = 3
    · have h := zt zc11 h
      refine lv_tableIn (pc := 24) (off := 47) (tgt := 71) hx hb dX6_askedOf_24 (by rw [zc11]; decide) (by rw [zc11]; decide) (by rw [zc11]; rfl) rfl ?_
      refine lv_aload_n (pc := 71) hx hb dX6_askedOf_71 rfl (lv_at hl 1 rfl) ?_
      refine lv_aload_n (pc := 72) hx hb dX6_askedOf_72 rfl (lv_at hl 2 rfl) ?_
      refine lv_iload (pc := 73) hx hb dX6_askedOf_73 (lv_at hl 0 rfl) ?_
      obtain ⟨zr12, hzr12, h⟩ := zb h
      refine zcV (pc := 75) (As := [.int zr1]) (rest := [.ref (sq 0)]) (st1 := [.int zr12, .ref (sq 0)]) (ws' := wG cy sq s_some s_more s_sund s_mund s_group ++ wH cy hq h_alive h_late h_hbr h_rbh h_waits h_pers h_size h_ranks h_lines) (wr := [((sq 0), .inr (5, [.ref (sq 1), .ref (sq 2), .ref (sq 3), .ref (sq 4), .int s_group])), ((sq 1), .inl (cy 1, 256, .inr (.inl s_some))), ((sq 2), .inl (cy 1, 256, .inr (.inl s_more))), ((sq 3), .inl (cy 1, 256, .inr (.inl s_sund))), ((sq 4), .inl (cy 1, 256, .inr (.inl s_mund)))]) (n := 1) (q0 := 0) X (c_X3_hostOf l G cy fu hq h_alive h_late h_hbr h_rbh h_waits h_pers h_size h_ranks h_lines zr1 zr12 hzr12) hH [5, 6, 7, 8, 9, 10, 11] [0, 1, 2, 3, 4] [0, 1, 2, 3, 4, 5, 6, 7, 8, 9, 10, 11] rfl rfl rfl rfl gX6_askedOf_X3_hostOf rfl ⟨rfl, rfl⟩ kX3_hostOf ⟨Nat.le_of_ble_eq_true rfl, Nat.le_of_ble_eq_true rfl⟩ rfl rfl rfl rfl rfl hl.1 (Nat.le_of_ble_eq_true rfl) ⟨Nat.le_of_ble_eq_true rfl, Nat.le_of_ble_eq_true rfl⟩ dX6_askedOf_75 (fun H locs hH => ?_)
      refine lv_iload (pc := 78) hx hb dX6_askedOf_78 (lv_at hl 0 rfl) ?_
      obtain ⟨zr13, hzr13, h⟩ := zb h
      refine zcN (pc := 80) (As := [.int zr12, .int zr1]) (rest := [.ref (sq 0)]) (st1 := [.int zr13, .ref (sq 0)]) (ws' := wG cy sq s_some s_more s_sund s_mund s_group ++ wH cy hq h_alive h_late h_hbr h_rbh h_waits h_pers h_size h_ranks h_lines) (wr := [((sq 0), .inr (5, [.ref (sq 1), .ref (sq 2), .ref (sq 3), .ref (sq 4), .int s_group])), ((sq 1), .inl (cy 1, 256, .inr (.inl s_some))), ((sq 2), .inl (cy 1, 256, .inr (.inl s_more))), ((sq 3), .inl (cy 1, 256, .inr (.inl s_sund))), ((sq 4), .inl (cy 1, 256, .inr (.inl s_mund))), ((hq 0), .inr (2, [.ref (hq 1), .ref (hq 2), .ref (hq 3), .ref (hq 4), .ref (hq 5), .ref (hq 6), .int h_size, .int h_ranks, .int h_lines])), ((hq 1), .inl (cy 2, 16, .inl h_alive)), ((hq 2), .inl (cy 0, 16, .inl h_late)), ((hq 3), .inl (cy 0, 16, .inl h_hbr)), ((hq 4), .inl (cy 0, 16, .inl h_rbh)), ((hq 5), .inl (cy 0, 256, .inl h_waits)), ((hq 6), .inl (cy 0, 256, .inl h_pers))]) (n := 2) (host := "SumsToAll") X (c_X8_cell l G cy fu zr12 zr1 zr13 hzr13) hH [] [0, 1, 2, 3, 4, 5, 6, 7, 8, 9, 10, 11] [0, 1, 2, 3, 4, 5, 6, 7, 8, 9, 10, 11] rfl rfl rfl rfl gX6_askedOf_X8_cell_n78 (List.mem_of_getElem? (i := 12) rfl) (List.mem_of_getElem? (i := 2) rfl) (List.mem_of_getElem? (i := 16) rfl) rfl ⟨rfl, rfl⟩ kX8_cell ⟨Nat.le_of_ble_eq_true rfl, Nat.le_of_ble_eq_true rfl⟩ rfl rfl rfl hl.1 (Nat.le_of_ble_eq_true rfl) ⟨Nat.le_of_ble_eq_true rfl, Nat.le_of_ble_eq_true rfl⟩ dX6_askedOf_80 (fun H locs hH => ?_)
      obtain ⟨zr14, hzr14, h⟩ := zb h
      refine zcV (pc := 83) (As := [.int zr13]) (rest := []) (st1 := [.long zr14]) (ws' := wG cy sq s_some s_more s_sund s_mund s_group ++ wH cy hq h_alive h_late h_hbr h_rbh h_waits h_pers h_size h_ranks h_lines) (wr := [((hq 0), .inr (2, [.ref (hq 1), .ref (hq 2), .ref (hq 3), .ref (hq 4), .ref (hq 5), .ref (hq 6), .int h_size, .int h_ranks, .int h_lines])), ((hq 1), .inl (cy 2, 16, .inl h_alive)), ((hq 2), .inl (cy 0, 16, .inl h_late)), ((hq 3), .inl (cy 0, 16, .inl h_hbr)), ((hq 4), .inl (cy 0, 16, .inl h_rbh)), ((hq 5), .inl (cy 0, 256, .inl h_waits)), ((hq 6), .inl (cy 0, 256, .inl h_pers))]) (n := 1) (q0 := 0) X (c_X6_signOf l G cy fu sq s_some s_more s_sund s_mund s_group zr13 zr14 hzr14) hH [0, 1, 2, 3, 4] [5, 6, 7, 8, 9, 10, 11] [7, 8, 9, 10, 11, 0, 1, 2, 3, 4, 5, 6] rfl rfl rfl rfl gX6_askedOf_X6_signOf rfl ⟨rfl, rfl⟩ kX6_signOf ⟨Nat.le_of_ble_eq_true rfl, Nat.le_of_ble_eq_true rfl⟩ rfl rfl rfl rfl rfl hl.1 (Nat.le_of_ble_eq_true rfl) ⟨Nat.le_of_ble_eq_true rfl, Nat.le_of_ble_eq_true rfl⟩ dX6_askedOf_83 (fun H locs hH => ?_)
      obtain rfl := Option.some.inj h
      exact z_lret X hr hH dX6_askedOf_86
    have h := zf zc11 h
    by_cases zc15 : x2 = 4
    · have h := zt zc15 h
      refine lv_tableIn (pc := 24) (off := 63) (tgt := 87) hx hb dX6_askedOf_24 (by rw [zc15]; decide) (by rw [zc15]; decide) (by rw [zc15]; rfl) rfl ?_
      refine lv_aload_n (pc := 87) hx hb dX6_askedOf_87 rfl (lv_at hl 1 rfl) ?_
      refine lv_aload_n (pc := 88) hx hb dX6_askedOf_88 rfl (lv_at hl 2 rfl) ?_
      refine lv_iload (pc := 89) hx hb dX6_askedOf_89 (lv_at hl 0 rfl) ?_
      obtain ⟨zr16, hzr16, h⟩ := zb h
      refine zcV (pc := 91) (As := [.int zr1]) (rest := [.ref (sq 0)]) (st1 := [.int zr16, .ref (sq 0)]) (ws' := wG cy sq s_some s_more s_sund s_mund s_group ++ wH cy hq h_alive h_late h_hbr h_rbh h_waits h_pers h_size h_ranks h_lines) (wr := [((sq 0), .inr (5, [.ref (sq 1), .ref (sq 2), .ref (sq 3), .ref (sq 4), .int s_group])), ((sq 1), .inl (cy 1, 256, .inr (.inl s_some))), ((sq 2), .inl (cy 1, 256, .inr (.inl s_more))), ((sq 3), .inl (cy 1, 256, .inr (.inl s_sund))), ((sq 4), .inl (cy 1, 256, .inr (.inl s_mund)))]) (n := 1) (q0 := 0) X (c_X3_hostOf l G cy fu hq h_alive h_late h_hbr h_rbh h_waits h_pers h_size h_ranks h_lines zr1 zr16 hzr16) hH [5, 6, 7, 8, 9, 10, 11] [0, 1, 2, 3, 4] [0, 1, 2, 3, 4, 5, 6, 7, 8, 9, 10, 11] rfl rfl rfl rfl gX6_askedOf_X3_hostOf rfl ⟨rfl, rfl⟩ kX3_hostOf ⟨Nat.le_of_ble_eq_true rfl, Nat.le_of_ble_eq_true rfl⟩ rfl rfl rfl rfl rfl hl.1 (Nat.le_of_ble_eq_true rfl) ⟨Nat.le_of_ble_eq_true rfl, Nat.le_of_ble_eq_true rfl⟩ dX6_askedOf_91 (fun H locs hH => ?_)
      refine lv_aload_n (pc := 94) hx hb dX6_askedOf_94 rfl (lv_at hl 2 rfl) ?_
      refine lv_iload (pc := 95) hx hb dX6_askedOf_95 (lv_at hl 5 rfl) ?_
      obtain ⟨zr17, hzr17, h⟩ := zb h
      refine zcN (pc := 97) (As := [.int x4]) (rest := [.ref (hq 0), .int zr16, .ref (sq 0)]) (st1 := [.int zr17, .ref (hq 0), .int zr16, .ref (sq 0)]) (ws' := wG cy sq s_some s_more s_sund s_mund s_group ++ wH cy hq h_alive h_late h_hbr h_rbh h_waits h_pers h_size h_ranks h_lines) (wr := [((sq 0), .inr (5, [.ref (sq 1), .ref (sq 2), .ref (sq 3), .ref (sq 4), .int s_group])), ((sq 1), .inl (cy 1, 256, .inr (.inl s_some))), ((sq 2), .inl (cy 1, 256, .inr (.inl s_more))), ((sq 3), .inl (cy 1, 256, .inr (.inl s_sund))), ((sq 4), .inl (cy 1, 256, .inr (.inl s_mund))), ((hq 0), .inr (2, [.ref (hq 1), .ref (hq 2), .ref (hq 3), .ref (hq 4), .ref (hq 5), .ref (hq 6), .int h_size, .int h_ranks, .int h_lines])), ((hq 1), .inl (cy 2, 16, .inl h_alive)), ((hq 2), .inl (cy 0, 16, .inl h_late)), ((hq 3), .inl (cy 0, 16, .inl h_hbr)), ((hq 4), .inl (cy 0, 16, .inl h_rbh)), ((hq 5), .inl (cy 0, 256, .inl h_waits)), ((hq 6), .inl (cy 0, 256, .inl h_pers))]) (n := 1) (host := "SumsToAll") X (c_X8_hostOfCell l G cy fu x4 zr17 hzr17) hH [] [0, 1, 2, 3, 4, 5, 6, 7, 8, 9, 10, 11] [0, 1, 2, 3, 4, 5, 6, 7, 8, 9, 10, 11] rfl rfl rfl rfl gX6_askedOf_X8_hostOfCell_n56 (List.mem_of_getElem? (i := 10) rfl) (List.mem_of_getElem? (i := 2) rfl) (List.mem_of_getElem? (i := 23) rfl) rfl ⟨rfl, rfl⟩ kX8_hostOfCell ⟨Nat.le_of_ble_eq_true rfl, Nat.le_of_ble_eq_true rfl⟩ rfl rfl rfl hl.1 (Nat.le_of_ble_eq_true rfl) ⟨Nat.le_of_ble_eq_true rfl, Nat.le_of_ble_eq_true rfl⟩ dX6_askedOf_97 (fun H locs hH => ?_)
      obtain ⟨zr18, hzr18, h⟩ := zb h
      refine zcV (pc := 100) (As := [.int zr17]) (rest := [.int zr16, .ref (sq 0)]) (st1 := [.int zr18, .int zr16, .ref (sq 0)]) (ws' := wG cy sq s_some s_more s_sund s_mund s_group ++ wH cy hq h_alive h_late h_hbr h_rbh h_waits h_pers h_size h_ranks h_lines) (wr := [((sq 0), .inr (5, [.ref (sq 1), .ref (sq 2), .ref (sq 3), .ref (sq 4), .int s_group])), ((sq 1), .inl (cy 1, 256, .inr (.inl s_some))), ((sq 2), .inl (cy 1, 256, .inr (.inl s_more))), ((sq 3), .inl (cy 1, 256, .inr (.inl s_sund))), ((sq 4), .inl (cy 1, 256, .inr (.inl s_mund)))]) (n := 1) (q0 := 0) X (c_X3_rankOf l G cy fu hq h_alive h_late h_hbr h_rbh h_waits h_pers h_size h_ranks h_lines zr17 zr18 hzr18) hH [5, 6, 7, 8, 9, 10, 11] [0, 1, 2, 3, 4] [0, 1, 2, 3, 4, 5, 6, 7, 8, 9, 10, 11] rfl rfl rfl rfl gX6_askedOf_X3_rankOf rfl ⟨rfl, rfl⟩ kX3_rankOf ⟨Nat.le_of_ble_eq_true rfl, Nat.le_of_ble_eq_true rfl⟩ rfl rfl rfl rfl rfl hl.1 (Nat.le_of_ble_eq_true rfl) ⟨Nat.le_of_ble_eq_true rfl, Nat.le_of_ble_eq_true rfl⟩ dX6_askedOf_100 (fun H locs hH => ?_)
      obtain ⟨zr19, hzr19, h⟩ := zb h
      refine zcN (pc := 103) (As := [.int zr16, .int zr18]) (rest := [.ref (sq 0)]) (st1 := [.int zr19, .ref (sq 0)]) (ws' := wG cy sq s_some s_more s_sund s_mund s_group ++ wH cy hq h_alive h_late h_hbr h_rbh h_waits h_pers h_size h_ranks h_lines) (wr := [((sq 0), .inr (5, [.ref (sq 1), .ref (sq 2), .ref (sq 3), .ref (sq 4), .int s_group])), ((sq 1), .inl (cy 1, 256, .inr (.inl s_some))), ((sq 2), .inl (cy 1, 256, .inr (.inl s_more))), ((sq 3), .inl (cy 1, 256, .inr (.inl s_sund))), ((sq 4), .inl (cy 1, 256, .inr (.inl s_mund))), ((hq 0), .inr (2, [.ref (hq 1), .ref (hq 2), .ref (hq 3), .ref (hq 4), .ref (hq 5), .ref (hq 6), .int h_size, .int h_ranks, .int h_lines])), ((hq 1), .inl (cy 2, 16, .inl h_alive)), ((hq 2), .inl (cy 0, 16, .inl h_late)), ((hq 3), .inl (cy 0, 16, .inl h_hbr)), ((hq 4), .inl (cy 0, 16, .inl h_rbh)), ((hq 5), .inl (cy 0, 256, .inl h_waits)), ((hq 6), .inl (cy 0, 256, .inl h_pers))]) (n := 2) (host := "SumsToAll") X (c_X8_cell l G cy fu zr16 zr18 zr19 hzr19) hH [] [0, 1, 2, 3, 4, 5, 6, 7, 8, 9, 10, 11] [0, 1, 2, 3, 4, 5, 6, 7, 8, 9, 10, 11] rfl rfl rfl rfl gX6_askedOf_X8_cell_n78 (List.mem_of_getElem? (i := 12) rfl) (List.mem_of_getElem? (i := 2) rfl) (List.mem_of_getElem? (i := 16) rfl) rfl ⟨rfl, rfl⟩ kX8_cell ⟨Nat.le_of_ble_eq_true rfl, Nat.le_of_ble_eq_true rfl⟩ rfl rfl rfl hl.1 (Nat.le_of_ble_eq_true rfl) ⟨Nat.le_of_ble_eq_true rfl, Nat.le_of_ble_eq_true rfl⟩ dX6_askedOf_103 (fun H locs hH => ?_)
      obtain ⟨zr20, hzr20, h⟩ := zb h
      refine zcV (pc := 106) (As := [.int zr19]) (rest := []) (st1 := [.long zr20]) (ws' := wG cy sq s_some s_more s_sund s_mund s_group ++ wH cy hq h_alive h_late h_hbr h_rbh h_waits h_pers h_size h_ranks h_lines) (wr := [((hq 0), .inr (2, [.ref (hq 1), .ref (hq 2), .ref (hq 3), .ref (hq 4), .ref (hq 5), .ref (hq 6), .int h_size, .int h_ranks, .int h_lines])), ((hq 1), .inl (cy 2, 16, .inl h_alive)), ((hq 2), .inl (cy 0, 16, .inl h_late)), ((hq 3), .inl (cy 0, 16, .inl h_hbr)), ((hq 4), .inl (cy 0, 16, .inl h_rbh)), ((hq 5), .inl (cy 0, 256, .inl h_waits)), ((hq 6), .inl (cy 0, 256, .inl h_pers))]) (n := 1) (q0 := 0) X (c_X6_signOf l G cy fu sq s_some s_more s_sund s_mund s_group zr19 zr20 hzr20) hH [0, 1, 2, 3, 4] [5, 6, 7, 8, 9, 10, 11] [7, 8, 9, 10, 11, 0, 1, 2, 3, 4, 5, 6] rfl rfl rfl rfl gX6_askedOf_X6_signOf rfl ⟨rfl, rfl⟩ kX6_signOf ⟨Nat.le_of_ble_eq_true rfl, Nat.le_of_ble_eq_true rfl⟩ rfl rfl rfl rfl rfl hl.1 (Nat.le_of_ble_eq_true rfl) ⟨Nat.le_of_ble_eq_true rfl, Nat.le_of_ble_eq_true rfl⟩ dX6_askedOf_106 (fun H locs hH => ?_)
      obtain rfl := Option.some.inj h
      exact z_lret X hr hH dX6_askedOf_109
    have h := zf zc15 h
    refine lv_tableOut (pc := 24) (tgt := 110) hx hb dX6_askedOf_24 (by have n0 := lv_neT zc4 (show (0 : Int32).toInt = 0 by decide); have n1 := lv_neT zc7 (show (1 : Int32).toInt = 1 by decide); have n2 := lv_neT zc9 (show (2 : Int32).toInt = 2 by decide); have n3 := lv_neT zc11 (show (3 : Int32).toInt = 3 by decide); have n4 := lv_neT zc15 (show (4 : Int32).toInt = 4 by decide); omega) rfl ?_
    refine lv_aload_n (pc := 110) hx hb dX6_askedOf_110 rfl (lv_at hl 1 rfl) ?_
    refine lv_aload_n (pc := 111) hx hb dX6_askedOf_111 rfl (lv_at hl 2 rfl) ?_
    refine lv_iload (pc := 112) hx hb dX6_askedOf_112 (lv_at hl 0 rfl) ?_
    obtain ⟨zr21, hzr21, h⟩ := zb h
    refine zcV (pc := 114) (As := [.ref (hq 0), .int zr1]) (rest := []) (st1 := [.long zr21]) (ws' := wG cy sq s_some s_more s_sund s_mund s_group ++ wH cy hq h_alive h_late h_hbr h_rbh h_waits h_pers h_size h_ranks h_lines) (wr := []) (n := 2) (q0 := 0) X (c_X6_sumOf l G cy fu sq hq h_alive h_late h_hbr h_rbh h_waits h_pers h_size h_ranks h_lines s_some s_more s_sund s_mund s_group zr1 zr21 hzr21) hH [0, 1, 2, 3, 4, 5, 6, 7, 8, 9, 10, 11] [] [0, 1, 2, 3, 4, 5, 6, 7, 8, 9, 10, 11] rfl rfl rfl rfl gX6_askedOf_X6_sumOf rfl ⟨rfl, rfl⟩ kX6_sumOf ⟨Nat.le_of_ble_eq_true rfl, Nat.le_of_ble_eq_true rfl⟩ rfl rfl rfl rfl rfl hl.1 (Nat.le_of_ble_eq_true rfl) ⟨Nat.le_of_ble_eq_true rfl, Nat.le_of_ble_eq_true rfl⟩ dX6_askedOf_114 (fun H locs hH => ?_)
    obtain rfl := Option.some.inj h
    exact z_lret X hr hH dX6_askedOf_117
  have h := zf zc3 h
  refine lv_aload_n (pc := 16) hx hb dX6_askedOf_16 rfl (lv_at hl 1 rfl) ?_
  refine lv_iload (pc := 17) hx hb dX6_askedOf_17 (lv_at hl 5 rfl) ?_
  obtain ⟨zr22, hzr22, h⟩ := zb h
  refine zcV (pc := 19) (As := [.int x4]) (rest := []) (st1 := [.long zr22]) (ws' := wG cy sq s_some s_more s_sund s_mund s_group ++ wH cy hq h_alive h_late h_hbr h_rbh h_waits h_pers h_size h_ranks h_lines) (wr := [((hq 0), .inr (2, [.ref (hq 1), .ref (hq 2), .ref (hq 3), .ref (hq 4), .ref (hq 5), .ref (hq 6), .int h_size, .int h_ranks, .int h_lines])), ((hq 1), .inl (cy 2, 16, .inl h_alive)), ((hq 2), .inl (cy 0, 16, .inl h_late)), ((hq 3), .inl (cy 0, 16, .inl h_hbr)), ((hq 4), .inl (cy 0, 16, .inl h_rbh)), ((hq 5), .inl (cy 0, 256, .inl h_waits)), ((hq 6), .inl (cy 0, 256, .inl h_pers))]) (n := 1) (q0 := 0) X (c_X6_signOf l G cy fu sq s_some s_more s_sund s_mund s_group x4 zr22 hzr22) hH [0, 1, 2, 3, 4] [5, 6, 7, 8, 9, 10, 11] [7, 8, 9, 10, 11, 0, 1, 2, 3, 4, 5, 6] rfl rfl rfl rfl gX6_askedOf_X6_signOf rfl ⟨rfl, rfl⟩ kX6_signOf ⟨Nat.le_of_ble_eq_true rfl, Nat.le_of_ble_eq_true rfl⟩ rfl rfl rfl rfl rfl hl.1 (Nat.le_of_ble_eq_true rfl) ⟨Nat.le_of_ble_eq_true rfl, Nat.le_of_ble_eq_true rfl⟩ dX6_askedOf_19 (fun H locs hH => ?_)
  obtain rfl := Option.some.inj h
  exact z_lret X hr hH dX6_askedOf_22
set_option maxHeartbeats 4000000 in
set_option maxRecDepth 100000 in
theorem w_X6_firstWrongInGroup_l3 {p : Program} {l : Launch} {e : Env} {s : State} {m : MethodId} {args : Array Value} {below : List Frame} {meth : Method} {c : Code} {A : Nat → Prop} {Q : State → Prop} (G : va_G) (cy : Nat → ClassId) (fu : Nat) (sq : Nat → Nat) (hq : Nat → Nat) (h_alive : Nat → Int32) (h_late : Nat → Int32) (h_hbr : Nat → Int32) (h_rbh : Nat → Int32) (h_waits : Nat → Int32) (h_pers : Nat → Int32) (h_size : Int32) (h_ranks : Int32) (h_lines : Int32) (s_some : Nat → Int64) (s_more : Nat → Int64) (s_sund : Nat → Int64) (s_mund : Nat → Int64) (s_group : Int32) (x2 : Int32) (x3 : Int32) (X : zX p s m args meth c RX6 cX6_firstWrongInGroup 6 wsX6_firstWrongInGroup G cy A) : ∀ (n : Nat) (x4 : Int32) (rr : (Int32) ⊕ (Unit)) (h : lp (f_X6_firstWrongInGroup_l3 fu h_alive h_hbr h_rbh h_size h_ranks s_some s_more s_group x2 x3) n x4 = some rr) (H : Heap) (locs : List Loc) (ls : Array Slot) (hH : zH G A s.heap (wG cy sq s_some s_more s_sund s_mund s_group ++ wH cy hq h_alive h_late h_hbr h_rbh h_waits h_pers h_size h_ranks h_lines) H locs) (hl : lv_has ls 6 [(0, .ref (sq 0)), (1, .ref (hq 0)), (2, .int x2), (3, .int x3), (4, .int x4)]) (K0 : ∀ (ra : Int32), rr = (.inl ra) → ∀ (H : Heap) (locs : List Loc) (ls : Array Slot), zH G A s.heap (wG cy sq s_some s_more s_sund s_mund s_group ++ wH cy hq h_alive h_late h_hbr h_rbh h_waits h_pers h_size h_ranks h_lines) H locs → lv_has ls 6 [(4, .int ra)] → W p l e (zR 4 93) s m args below meth c H locs 0 0 Q (F0 m 73 ls [])) (K1 : ∀ (ra : Unit), rr = (.inr ra) → ∀ (H : Heap) (locs : List Loc) (ls : Array Slot), zH G A s.heap (wG cy sq s_some s_more s_sund s_mund s_group ++ wH cy hq h_alive h_late h_hbr h_rbh h_waits h_pers h_size h_ranks h_lines) H locs → lv_has ls 6 [] → W p l e (zR 4 93) s m args below meth c H locs 0 0 Q (F0 m 82 ls [])), W p l e (zR 4 93) s m args below meth c H locs 0 0 Q (F0 m 3 ls []) := by
  have hx := X.1.1
  have hb := X.1.2.1
  intro n
  induction n with
  | zero => intro x4 rr h H locs ls hH hl K0 K1; cases h
  | succ n ih =>
    intro x4 rr h H locs ls hH hl K0 K1
    replace h : f_X6_firstWrongInGroup_l3 fu h_alive h_hbr h_rbh h_size h_ranks s_some s_more s_group x2 x3 (lp (f_X6_firstWrongInGroup_l3 fu h_alive h_hbr h_rbh h_size h_ranks s_some s_more s_group x2 x3) n) x4 = some rr := h
    dsimp only [f_X6_firstWrongInGroup_l3] at h
    refine lv_iload (pc := 3) hx hb dX6_firstWrongInGroup_3 (lv_at hl 4 rfl) ?_
    refine lv_sipush (v := 256) (pc := 5) hx hb dX6_firstWrongInGroup_5 zk_s256 ?_
    refine lv_icmp_ge (pc := 8) (tgt := 82) hx hb dX6_firstWrongInGroup_8 rfl (fun zc1 => ?_) (fun zc1 => ?_)
    · have h := zt zc1 h
      exact K1 () (Option.some.inj h).symm _ _ _ hH (lv_sub hl [] rfl)
    have h := zf zc1 h
    refine lv_iload (pc := 11) hx hb dX6_firstWrongInGroup_11 (lv_at hl 4 rfl) ?_
    obtain ⟨zr2, hzr2, h⟩ := zb h
    refine zcN (pc := 13) (As := [.int x4]) (rest := []) (st1 := [.int zr2]) (ws' := wG cy sq s_some s_more s_sund s_mund s_group ++ wH cy hq h_alive h_late h_hbr h_rbh h_waits h_pers h_size h_ranks h_lines) (wr := [((sq 0), .inr (5, [.ref (sq 1), .ref (sq 2), .ref (sq 3), .ref (sq 4), .int s_group])), ((sq 1), .inl (cy 1, 256, .inr (.inl s_some))), ((sq 2), .inl (cy 1, 256, .inr (.inl s_more))), ((sq 3), .inl (cy 1, 256, .inr (.inl s_sund))), ((sq 4), .inl (cy 1, 256, .inr (.inl s_mund))), ((hq 0), .inr (2, [.ref (hq 1), .ref (hq 2), .ref (hq 3), .ref (hq 4), .ref (hq 5), .ref (hq 6), .int h_size, .int h_ranks, .int h_lines])), ((hq 1), .inl (cy 2, 16, .inl h_alive)), ((hq 2), .inl (cy 0, 16, .inl h_late)), ((hq 3), .inl (cy 0, 16, .inl h_hbr)), ((hq 4), .inl (cy 0, 16, .inl h_rbh)), ((hq 5), .inl (cy 0, 256, .inl h_waits)), ((hq 6), .inl (cy 0, 256, .inl h_pers))]) (n := 1) (host := "SumsToAll") X (c_X8_hostOfCell l G cy fu x4 zr2 hzr2) hH [] [0, 1, 2, 3, 4, 5, 6, 7, 8, 9, 10, 11] [0, 1, 2, 3, 4, 5, 6, 7, 8, 9, 10, 11] rfl rfl rfl rfl gX6_firstWrongInGroup_X8_hostOfCell_n56 (List.mem_of_getElem? (i := 10) rfl) (List.mem_of_getElem? (i := 4) rfl) (List.mem_of_getElem? (i := 3) rfl) rfl ⟨rfl, rfl⟩ kX8_hostOfCell ⟨Nat.le_of_ble_eq_true rfl, Nat.le_of_ble_eq_true rfl⟩ rfl rfl rfl hl.1 (Nat.le_of_ble_eq_true rfl) ⟨Nat.le_of_ble_eq_true rfl, Nat.le_of_ble_eq_true rfl⟩ dX6_firstWrongInGroup_13 (fun H locs hH => ?_)
    refine lv_istore (pc := 16) (lv' := [(5, .int zr2), (0, .ref (sq 0)), (1, .ref (hq 0)), (2, .int x2), (3, .int x3), (4, .int x4)]) hx hb dX6_firstWrongInGroup_16 hl (by decide) rfl (fun ls hl => ?_)
    refine lv_aload_n (pc := 18) hx hb dX6_firstWrongInGroup_18 rfl (lv_at hl 2 rfl) ?_
    refine lv_iload (pc := 19) hx hb dX6_firstWrongInGroup_19 (lv_at hl 0 rfl) ?_
    obtain ⟨zr3, hzr3, h⟩ := zb h
    refine zcV (pc := 21) (As := [.int zr2]) (rest := []) (st1 := [.int zr3]) (ws' := wG cy sq s_some s_more s_sund s_mund s_group ++ wH cy hq h_alive h_late h_hbr h_rbh h_waits h_pers h_size h_ranks h_lines) (wr := [((sq 0), .inr (5, [.ref (sq 1), .ref (sq 2), .ref (sq 3), .ref (sq 4), .int s_group])), ((sq 1), .inl (cy 1, 256, .inr (.inl s_some))), ((sq 2), .inl (cy 1, 256, .inr (.inl s_more))), ((sq 3), .inl (cy 1, 256, .inr (.inl s_sund))), ((sq 4), .inl (cy 1, 256, .inr (.inl s_mund)))]) (n := 1) (q0 := 0) X (c_X3_isLive l G cy fu hq h_alive h_late h_hbr h_rbh h_waits h_pers h_size h_ranks h_lines zr2 zr3 hzr3) hH [5, 6, 7, 8, 9, 10, 11] [0, 1, 2, 3, 4] [0, 1, 2, 3, 4, 5, 6, 7, 8, 9, 10, 11] rfl rfl rfl rfl gX6_firstWrongInGroup_X3_isLive rfl ⟨rfl, rfl⟩ kX3_isLive ⟨Nat.le_of_ble_eq_true rfl, Nat.le_of_ble_eq_true rfl⟩ rfl rfl rfl rfl rfl hl.1 (Nat.le_of_ble_eq_true rfl) ⟨Nat.le_of_ble_eq_true rfl, Nat.le_of_ble_eq_true rfl⟩ dX6_firstWrongInGroup_21 (fun H locs hH => ?_)
    refine lv_if_eq (pc := 24) (tgt := 76) hx hb dX6_firstWrongInGroup_24 rfl (fun zc4 => ?_) (fun zc4 => ?_)
    · have h := zt zc4 h
      refine lv_iinc (pc := 76) (v := (x4 + 1)) (lv' := [(4, .int (x4 + 1)), (5, .int zr2), (0, .ref (sq 0)), (1, .ref (hq 0)), (2, .int x2), (3, .int x3)]) hx hb dX6_firstWrongInGroup_76 hl (k := 5) rfl (by rw [zk_c1]) (by decide) rfl (fun ls hl => ?_)
      refine lv_goto (pc := 79) (tgt := 3) hx hb dX6_firstWrongInGroup_79 rfl ?_
      exact ih (x4 + 1) rr h _ _ _ hH (lv_sub hl [2, 3, 4, 5, 0] rfl) K0 K1
    have h := zf zc4 h
    refine lv_aload_n (pc := 27) hx hb dX6_firstWrongInGroup_27 rfl (lv_at hl 2 rfl) ?_
    refine lv_iload_n (pc := 28) hx hb dX6_firstWrongInGroup_28 rfl (lv_at hl 3 rfl) ?_
    refine lv_iload_n (pc := 29) hx hb dX6_firstWrongInGroup_29 rfl (lv_at hl 4 rfl) ?_
    refine lv_iload (pc := 30) hx hb dX6_firstWrongInGroup_30 (lv_at hl 5 rfl) ?_
    obtain ⟨zr5, hzr5, h⟩ := zb h
    refine zcS (pc := 32) (As := [.ref (hq 0), .int x2, .int x3, .int x4]) (rest := []) (st1 := [.int zr5]) (ws' := wG cy sq s_some s_more s_sund s_mund s_group ++ wH cy hq h_alive h_late h_hbr h_rbh h_waits h_pers h_size h_ranks h_lines) (wr := [((sq 0), .inr (5, [.ref (sq 1), .ref (sq 2), .ref (sq 3), .ref (sq 4), .int s_group])), ((sq 1), .inl (cy 1, 256, .inr (.inl s_some))), ((sq 2), .inl (cy 1, 256, .inr (.inl s_more))), ((sq 3), .inl (cy 1, 256, .inr (.inl s_sund))), ((sq 4), .inl (cy 1, 256, .inr (.inl s_mund)))]) (n := 4) X (c_X6_isFree l G cy fu hq h_alive h_late h_hbr h_rbh h_waits h_pers h_size h_ranks h_lines x2 x3 x4 zr5 hzr5) hH [5, 6, 7, 8, 9, 10, 11] [0, 1, 2, 3, 4] [0, 1, 2, 3, 4, 5, 6, 7, 8, 9, 10, 11] rfl rfl rfl rfl gX6_firstWrongInGroup_X6_isFree rfl ⟨rfl, rfl⟩ kX6_isFree ⟨Nat.le_of_ble_eq_true rfl, Nat.le_of_ble_eq_true rfl⟩ rfl rfl rfl hl.1 (Nat.le_of_ble_eq_true rfl) ⟨Nat.le_of_ble_eq_true rfl, Nat.le_of_ble_eq_true rfl⟩ dX6_firstWrongInGroup_32 (fun H locs hH => ?_)
    refine lv_if_eq (pc := 35) (tgt := 41) hx hb dX6_firstWrongInGroup_35 rfl (fun zc6 => ?_) (fun zc6 => ?_)
    · have h := zt zc6 h
      refine lv_aload_n (pc := 41) hx hb dX6_firstWrongInGroup_41 rfl (lv_at hl 1 rfl) ?_
      refine z_get (pc := 42) (v := .ref (sq 2)) X iX6_firstWrongInGroup_X6 hH 0 rfl rfl 1 rfl (List.mem_of_getElem? (i := 1) rfl) rfl dX6_firstWrongInGroup_42 ?_
      refine lv_iload (pc := 45) hx hb dX6_firstWrongInGroup_45 (lv_at hl 5 rfl) ?_
      obtain ⟨hin, h⟩ := zg h
      refine z_lald (pc := 47) X hH 2 rfl hin dX6_firstWrongInGroup_47 ?_
      refine lv_lconst (pc := 48) (v := 0) hx hb dX6_firstWrongInGroup_48 zk_l0 ?_
      refine W.lcmp (pc := 49) hx hb dX6_firstWrongInGroup_49 ?_
      refine lv_if_ne (pc := 50) (tgt := 73) hx hb dX6_firstWrongInGroup_50 rfl (fun zc7 => ?_) (fun zc7 => ?_)
      · have h := zf zc7 h
        exact K0 x4 (Option.some.inj h).symm _ _ _ hH (lv_sub hl [5] rfl)
      have h := zt zc7 h
      refine lv_aload_n (pc := 53) hx hb dX6_firstWrongInGroup_53 rfl (lv_at hl 1 rfl) ?_
      refine z_get (pc := 54) (v := .ref (sq 1)) X iX6_firstWrongInGroup_X6 hH 0 rfl rfl 0 rfl (List.mem_of_getElem? (i := 2) rfl) rfl dX6_firstWrongInGroup_54 ?_
      refine lv_iload (pc := 57) hx hb dX6_firstWrongInGroup_57 (lv_at hl 5 rfl) ?_
      obtain ⟨hin, h⟩ := zg h
      refine z_lald (pc := 59) X hH 1 rfl hin dX6_firstWrongInGroup_59 ?_
      refine lv_aload_n (pc := 60) hx hb dX6_firstWrongInGroup_60 rfl (lv_at hl 1 rfl) ?_
      refine lv_aload_n (pc := 61) hx hb dX6_firstWrongInGroup_61 rfl (lv_at hl 2 rfl) ?_
      refine lv_iload_n (pc := 62) hx hb dX6_firstWrongInGroup_62 rfl (lv_at hl 3 rfl) ?_
      refine lv_iload_n (pc := 63) hx hb dX6_firstWrongInGroup_63 rfl (lv_at hl 4 rfl) ?_
      refine lv_iload (pc := 64) hx hb dX6_firstWrongInGroup_64 (lv_at hl 5 rfl) ?_
      obtain ⟨zr8, hzr8, h⟩ := zb h
      refine zcV (pc := 66) (As := [.ref (hq 0), .int x2, .int x3, .int x4]) (rest := [.long (s_some (x4).toNatClampNeg)]) (st1 := [.long zr8, .long (s_some (x4).toNatClampNeg)]) (ws' := wG cy sq s_some s_more s_sund s_mund s_group ++ wH cy hq h_alive h_late h_hbr h_rbh h_waits h_pers h_size h_ranks h_lines) (wr := []) (n := 4) (q0 := 0) X (c_X6_askedOf l G cy fu sq hq h_alive h_late h_hbr h_rbh h_waits h_pers h_size h_ranks h_lines s_some s_more s_sund s_mund s_group x2 x3 x4 zr8 hzr8) hH [0, 1, 2, 3, 4, 5, 6, 7, 8, 9, 10, 11] [] [0, 1, 2, 3, 4, 5, 6, 7, 8, 9, 10, 11] rfl rfl rfl rfl gX6_firstWrongInGroup_X6_askedOf rfl ⟨rfl, rfl⟩ kX6_askedOf ⟨Nat.le_of_ble_eq_true rfl, Nat.le_of_ble_eq_true rfl⟩ rfl rfl rfl rfl rfl hl.1 (Nat.le_of_ble_eq_true rfl) ⟨Nat.le_of_ble_eq_true rfl, Nat.le_of_ble_eq_true rfl⟩ dX6_firstWrongInGroup_66 (fun H locs hH => ?_)
      refine W.lcmp (pc := 69) hx hb dX6_firstWrongInGroup_69 ?_
      refine lv_if_eq (pc := 70) (tgt := 76) hx hb dX6_firstWrongInGroup_70 rfl (fun zc9 => ?_) (fun zc9 => ?_)
      · have h := zt zc9 h
        refine lv_iinc (pc := 76) (v := (x4 + 1)) (lv' := [(4, .int (x4 + 1)), (5, .int zr2), (0, .ref (sq 0)), (1, .ref (hq 0)), (2, .int x2), (3, .int x3)]) hx hb dX6_firstWrongInGroup_76 hl (k := 5) rfl (by rw [zk_c1]) (by decide) rfl (fun ls hl => ?_)
        refine lv_goto (pc := 79) (tgt := 3) hx hb dX6_firstWrongInGroup_79 rfl ?_
        exact ih (x4 + 1) rr h _ _ _ hH (lv_sub hl [2, 3, 4, 5, 0] rfl) K0 K1
      have h := zf zc9 h
      exact K0 x4 (Option.some.inj h).symm _ _ _ hH (lv_sub hl [5] rfl)
    have h := zf zc6 h
    refine lv_goto (pc := 38) (tgt := 76) hx hb dX6_firstWrongInGroup_38 rfl ?_
    refine lv_iinc (pc := 76) (v := (x4 + 1)) (lv' := [(4, .int (x4 + 1)), (5, .int zr2), (0, .ref (sq 0)), (1, .ref (hq 0)), (2, .int x2), (3, .int x3)]) hx hb dX6_firstWrongInGroup_76 hl (k := 5) rfl (by rw [zk_c1]) (by decide) rfl (fun ls hl => ?_)
    refine lv_goto (pc := 79) (tgt := 3) hx hb dX6_firstWrongInGroup_79 rfl ?_
    exact ih (x4 + 1) rr h _ _ _ hH (lv_sub hl [2, 3, 4, 5, 0] rfl) K0 K1
set_option maxHeartbeats 4000000 in
set_option maxRecDepth 100000 in
theorem c_X6_firstWrongInGroup (l : Launch) (G : va_G) (cy : Nat → ClassId) (fu : Nat) (sq : Nat → Nat) (hq : Nat → Nat) (h_alive : Nat → Int32) (h_late : Nat → Int32) (h_hbr : Nat → Int32) (h_rbh : Nat → Int32) (h_waits : Nat → Int32) (h_pers : Nat → Int32) (h_size : Int32) (h_ranks : Int32) (h_lines : Int32) (s_some : Nat → Int64) (s_more : Nat → Int64) (s_sund : Nat → Int64) (s_mund : Nat → Int64) (s_group : Int32) (x2 : Int32) (x3 : Int32) (rr : Int32) (h : f_X6_firstWrongInGroup fu h_alive h_hbr h_rbh h_size h_ranks s_some s_more s_group x2 x3 = some rr) : zM l G cy yX6_firstWrongInGroup wsX6_firstWrongInGroup (zR 4 93) [.ref (sq 0), .ref (hq 0), .int x2, .int x3] (wG cy sq s_some s_more s_sund s_mund s_group ++ wH cy hq h_alive h_late h_hbr h_rbh h_waits h_pers h_size h_ranks h_lines) (wG cy sq s_some s_more s_sund s_mund s_group ++ wH cy hq h_alive h_late h_hbr h_rbh h_waits h_pers h_size h_ranks h_lines) (some (.int rr)) := by
  refine zM.mk (cc := cX6_firstWrongInGroup) (nL := 6) (ret := (some .int)) (by decide) rfl (Nat.le_of_ble_eq_true rfl) ?_
  intro p e s m below meth c A ls X hr hH hl
  replace X : zX p s m [.ref (sq 0), .ref (hq 0), .int x2, .int x3].toArray meth c RX6 cX6_firstWrongInGroup 6 wsX6_firstWrongInGroup G cy A := X
  have hx := X.1.1
  have hb := X.1.2.1
  replace hl : lv_has ls 6 [(0, .ref (sq 0)), (1, .ref (hq 0)), (2, .int x2), (3, .int x3)] := hl
  dsimp only [f_X6_firstWrongInGroup] at h
  refine lv_iconst (v := 0) (pc := 0) hx hb dX6_firstWrongInGroup_0 zk_c0 ?_
  refine lv_istore (pc := 1) (lv' := [(4, .int 0), (0, .ref (sq 0)), (1, .ref (hq 0)), (2, .int x2), (3, .int x3)]) hx hb dX6_firstWrongInGroup_1 hl (by decide) rfl (fun ls hl => ?_)
  obtain ⟨zr1, hzr1, h⟩ := zb h
  refine w_X6_firstWrongInGroup_l3 G cy fu sq hq h_alive h_late h_hbr h_rbh h_waits h_pers h_size h_ranks h_lines s_some s_more s_sund s_mund s_group x2 x3 X fu 0 zr1 hzr1 _ _ _ hH (lv_sub hl [1, 2, 3, 4, 0] rfl) (fun zr1_0 ezr1_0 H locs ls hH hl => ?_) (fun zr1_1 ezr1_1 H locs ls hH hl => ?_)
  · rw [ezr1_0] at h
    have h := zsum_l h
    refine lv_iload (pc := 73) hx hb dX6_firstWrongInGroup_73 (lv_at hl 0 rfl) ?_
    obtain rfl := Option.some.inj h
    exact z_iret X hr hH dX6_firstWrongInGroup_75
  rw [ezr1_1] at h
  have h := zsum_r h
  refine lv_sipush (v := 256) (pc := 82) hx hb dX6_firstWrongInGroup_82 zk_s256 ?_
  obtain rfl := Option.some.inj h
  exact z_iret X hr hH dX6_firstWrongInGroup_85
set_option maxHeartbeats 4000000 in
set_option maxRecDepth 100000 in
theorem w_X6_firstWrong_l8 {p : Program} {l : Launch} {e : Env} {s : State} {m : MethodId} {args : Array Value} {below : List Frame} {meth : Method} {c : Code} {A : Nat → Prop} {Q : State → Prop} (G : va_G) (cy : Nat → ClassId) (fu : Nat) (sq : Nat → Nat) (pq : Nat → Nat) (hq : Nat → Nat) (h_alive : Nat → Int32) (h_late : Nat → Int32) (h_hbr : Nat → Int32) (h_rbh : Nat → Int32) (h_waits : Nat → Int32) (h_pers : Nat → Int32) (h_size : Int32) (h_ranks : Int32) (h_lines : Int32) (p_packed : Nat → Int32) (p_size : Int32) (x3 : Int32) (x4 : Int32) (X : zX p s m args meth c RX6 cX6_firstWrong 7 wsX6_firstWrong G cy A) : ∀ (n : Nat) (x5 : Int32) (x6 : Int32) (s_some : Nat → Int64) (s_more : Nat → Int64) (s_sund : Nat → Int64) (s_mund : Nat → Int64) (s_group : Int32) (rr : Int32 × (Nat → Int64) × (Nat → Int64) × (Nat → Int64) × (Nat → Int64) × Int32) (h : lp (f_X6_firstWrong_l8 fu h_alive h_hbr h_rbh h_size h_ranks p_packed p_size x3 x4) n (x5, x6, s_some, s_more, s_sund, s_mund, s_group) = some rr) (H : Heap) (locs : List Loc) (ls : Array Slot) (hH : zH G A s.heap (wG cy sq s_some s_more s_sund s_mund s_group ++ wP cy pq p_packed p_size ++ wH cy hq h_alive h_late h_hbr h_rbh h_waits h_pers h_size h_ranks h_lines) H locs) (hl : lv_has ls 7 [(0, .ref (sq 0)), (1, .ref (pq 0)), (2, .ref (hq 0)), (3, .int x3), (4, .int x4), (5, .int x5), (6, .int x6)]) (K0 : ∀ (H : Heap) (locs : List Loc) (ls : Array Slot), zH G A s.heap (wG cy sq rr.2.1 rr.2.2.1 rr.2.2.2.1 rr.2.2.2.2.1 rr.2.2.2.2.2 ++ wP cy pq p_packed p_size ++ wH cy hq h_alive h_late h_hbr h_rbh h_waits h_pers h_size h_ranks h_lines) H locs → lv_has ls 7 [(5, .int rr.1)] → W p l e (zR 5 118) s m args below meth c H locs 0 0 Q (F0 m 51 ls [])), W p l e (zR 5 118) s m args below meth c H locs 0 0 Q (F0 m 8 ls []) := by
  have hx := X.1.1
  have hb := X.1.2.1
  intro n
  induction n with
  | zero => intro x5 x6 s_some s_more s_sund s_mund s_group rr h H locs ls hH hl K0; cases h
  | succ n ih =>
    intro x5 x6 s_some s_more s_sund s_mund s_group rr h H locs ls hH hl K0
    replace h : f_X6_firstWrong_l8 fu h_alive h_hbr h_rbh h_size h_ranks p_packed p_size x3 x4 (lp (f_X6_firstWrong_l8 fu h_alive h_hbr h_rbh h_size h_ranks p_packed p_size x3 x4) n) (x5, x6, s_some, s_more, s_sund, s_mund, s_group) = some rr := h
    dsimp only [f_X6_firstWrong_l8] at h
    refine lv_iload (pc := 8) hx hb dX6_firstWrong_8 (lv_at hl 6 rfl) ?_
    refine lv_iconst (v := 4) (pc := 10) hx hb dX6_firstWrong_10 zk_c4 ?_
    refine lv_imul (pc := 11) hx hb dX6_firstWrong_11 ?_
    refine lv_aload_n (pc := 12) hx hb dX6_firstWrong_12 rfl (lv_at hl 2 rfl) ?_
    obtain ⟨zr1, hzr1, h⟩ := zb h
    refine zcV (pc := 13) (As := []) (rest := [.int (x6 * 4)]) (st1 := [.int zr1, .int (x6 * 4)]) (ws' := wG cy sq s_some s_more s_sund s_mund s_group ++ wP cy pq p_packed p_size ++ wH cy hq h_alive h_late h_hbr h_rbh h_waits h_pers h_size h_ranks h_lines) (wr := [((sq 0), .inr (5, [.ref (sq 1), .ref (sq 2), .ref (sq 3), .ref (sq 4), .int s_group])), ((sq 1), .inl (cy 1, 256, .inr (.inl s_some))), ((sq 2), .inl (cy 1, 256, .inr (.inl s_more))), ((sq 3), .inl (cy 1, 256, .inr (.inl s_sund))), ((sq 4), .inl (cy 1, 256, .inr (.inl s_mund))), ((pq 0), .inr (3, [.ref (pq 1), .int p_size])), ((pq 1), .inl (cy 0, 1200, .inl p_packed))]) (n := 0) (q0 := 0) X (c_X3_size l G cy fu hq h_alive h_late h_hbr h_rbh h_waits h_pers h_size h_ranks h_lines zr1 hzr1) hH [7, 8, 9, 10, 11, 12, 13] [0, 1, 2, 3, 4, 5, 6] [0, 1, 2, 3, 4, 5, 6, 7, 8, 9, 10, 11, 12, 13] rfl rfl rfl rfl gX6_firstWrong_X3_size rfl ⟨rfl, rfl⟩ kX3_size ⟨Nat.le_of_ble_eq_true rfl, Nat.le_of_ble_eq_true rfl⟩ rfl rfl rfl rfl rfl hl.1 (Nat.le_of_ble_eq_true rfl) ⟨Nat.le_of_ble_eq_true rfl, Nat.le_of_ble_eq_true rfl⟩ dX6_firstWrong_13 (fun H locs hH => ?_)
    refine lv_icmp_ge (pc := 16) (tgt := 51) hx hb dX6_firstWrong_16 rfl (fun zc2 => ?_) (fun zc2 => ?_)
    · have h := zt zc2 h
      obtain rfl := Option.some.inj h
      exact K0 _ _ _ hH (lv_sub hl [5] rfl)
    have h := zf zc2 h
    refine lv_aload_n (pc := 19) hx hb dX6_firstWrong_19 rfl (lv_at hl 0 rfl) ?_
    refine lv_iload (pc := 20) hx hb dX6_firstWrong_20 (lv_at hl 6 rfl) ?_
    obtain ⟨zr3, hzr3, h⟩ := zb h
    refine zcV (pc := 22) (As := [.int x6]) (rest := []) (st1 := []) (ws' := wG cy sq zr3.1 zr3.2.1 s_sund s_mund zr3.2.2 ++ wP cy pq p_packed p_size ++ wH cy hq h_alive h_late h_hbr h_rbh h_waits h_pers h_size h_ranks h_lines) (wr := [((pq 0), .inr (3, [.ref (pq 1), .int p_size])), ((pq 1), .inl (cy 0, 1200, .inl p_packed)), ((hq 0), .inr (2, [.ref (hq 1), .ref (hq 2), .ref (hq 3), .ref (hq 4), .ref (hq 5), .ref (hq 6), .int h_size, .int h_ranks, .int h_lines])), ((hq 1), .inl (cy 2, 16, .inl h_alive)), ((hq 2), .inl (cy 0, 16, .inl h_late)), ((hq 3), .inl (cy 0, 16, .inl h_hbr)), ((hq 4), .inl (cy 0, 16, .inl h_rbh)), ((hq 5), .inl (cy 0, 256, .inl h_waits)), ((hq 6), .inl (cy 0, 256, .inl h_pers))]) (n := 1) (q0 := 0) X (c_X6_begin l G cy fu sq s_some s_more s_sund s_mund s_group x6 zr3 hzr3) hH [0, 1, 2, 3, 4] [5, 6, 7, 8, 9, 10, 11, 12, 13] [9, 10, 11, 12, 13, 0, 1, 2, 3, 4, 5, 6, 7, 8] rfl rfl rfl rfl gX6_firstWrong_X6_begin rfl ⟨rfl, rfl⟩ kX6_begin ⟨Nat.le_of_ble_eq_true rfl, Nat.le_of_ble_eq_true rfl⟩ rfl rfl rfl rfl rfl hl.1 (Nat.le_of_ble_eq_true rfl) ⟨Nat.le_of_ble_eq_true rfl, Nat.le_of_ble_eq_true rfl⟩ dX6_firstWrong_22 (fun H locs hH => ?_)
    refine lv_aload_n (pc := 25) hx hb dX6_firstWrong_25 rfl (lv_at hl 0 rfl) ?_
    refine lv_aload_n (pc := 26) hx hb dX6_firstWrong_26 rfl (lv_at hl 1 rfl) ?_
    obtain ⟨zr4, hzr4, h⟩ := zb h
    refine zcU (pc := 27) (As := [.ref (pq 0)]) (rest := []) (st1 := []) (ws' := wG cy sq zr4.1 zr4.2.1 zr4.2.2.1 zr4.2.2.2 zr3.2.2 ++ wP cy pq p_packed p_size ++ wH cy hq h_alive h_late h_hbr h_rbh h_waits h_pers h_size h_ranks h_lines) (wr := [((hq 0), .inr (2, [.ref (hq 1), .ref (hq 2), .ref (hq 3), .ref (hq 4), .ref (hq 5), .ref (hq 6), .int h_size, .int h_ranks, .int h_lines])), ((hq 1), .inl (cy 2, 16, .inl h_alive)), ((hq 2), .inl (cy 0, 16, .inl h_late)), ((hq 3), .inl (cy 0, 16, .inl h_hbr)), ((hq 4), .inl (cy 0, 16, .inl h_rbh)), ((hq 5), .inl (cy 0, 256, .inl h_waits)), ((hq 6), .inl (cy 0, 256, .inl h_pers))]) (n := 1) (q0 := 0) X (c_X1_follow_g l G cy fu sq pq p_packed p_size zr3.1 zr3.2.1 s_sund s_mund zr3.2.2 zr4 hzr4) hH [0, 1, 2, 3, 4, 5, 6] [7, 8, 9, 10, 11, 12, 13] [7, 8, 9, 10, 11, 12, 13, 0, 1, 2, 3, 4, 5, 6] rfl rfl rfl rfl (va_cwU 1 X.1.2.2.2.2 gX6_firstWrong_X1_follow_u34X6 rfl rfl rfl rfl (by decide +kernel) ⟨Nat.le_of_ble_eq_true rfl, Nat.le_of_ble_eq_true rfl⟩) rfl rfl rfl rfl rfl hl.1 (Nat.le_of_ble_eq_true rfl) ⟨Nat.le_of_ble_eq_true rfl, Nat.le_of_ble_eq_true rfl⟩ dX6_firstWrong_27 (fun H locs hH => ?_)
    refine lv_iload (pc := 30) hx hb dX6_firstWrong_30 (lv_at hl 5 rfl) ?_
    refine lv_aload_n (pc := 32) hx hb dX6_firstWrong_32 rfl (lv_at hl 0 rfl) ?_
    refine lv_aload_n (pc := 33) hx hb dX6_firstWrong_33 rfl (lv_at hl 2 rfl) ?_
    refine lv_iload_n (pc := 34) hx hb dX6_firstWrong_34 rfl (lv_at hl 3 rfl) ?_
    refine lv_iload (pc := 35) hx hb dX6_firstWrong_35 (lv_at hl 4 rfl) ?_
    obtain ⟨zr5, hzr5, h⟩ := zb h
    refine zcV (pc := 37) (As := [.ref (hq 0), .int x3, .int x4]) (rest := [.int x5]) (st1 := [.int zr5, .int x5]) (ws' := wG cy sq zr4.1 zr4.2.1 zr4.2.2.1 zr4.2.2.2 zr3.2.2 ++ wP cy pq p_packed p_size ++ wH cy hq h_alive h_late h_hbr h_rbh h_waits h_pers h_size h_ranks h_lines) (wr := [((pq 0), .inr (3, [.ref (pq 1), .int p_size])), ((pq 1), .inl (cy 0, 1200, .inl p_packed))]) (n := 3) (q0 := 0) X (c_X6_firstWrongInGroup l G cy fu sq hq h_alive h_late h_hbr h_rbh h_waits h_pers h_size h_ranks h_lines zr4.1 zr4.2.1 zr4.2.2.1 zr4.2.2.2 zr3.2.2 x3 x4 zr5 hzr5) hH [0, 1, 2, 3, 4, 7, 8, 9, 10, 11, 12, 13] [5, 6] [2, 3, 4, 5, 6, 0, 1, 7, 8, 9, 10, 11, 12, 13] rfl rfl rfl rfl gX6_firstWrong_X6_firstWrongInGroup rfl ⟨rfl, rfl⟩ kX6_firstWrongInGroup ⟨Nat.le_of_ble_eq_true rfl, Nat.le_of_ble_eq_true rfl⟩ rfl rfl rfl rfl rfl hl.1 (Nat.le_of_ble_eq_true rfl) ⟨Nat.le_of_ble_eq_true rfl, Nat.le_of_ble_eq_true rfl⟩ dX6_firstWrong_37 (fun H locs hH => ?_)
    refine va_mmin (pc := 40) hx hb (X.1.2.2.1.trans hl.1.symm) X.1.2.2.2.1 (X.1.2.2.2.2 _ (List.mem_of_getElem? (i := 1) rfl)) (X.1.2.2.2.2 _ (List.mem_of_getElem? (i := 2) rfl)) (X.1.2.2.2.2 _ (List.mem_of_getElem? (i := 3) rfl)) (X.1.2.2.2.2 _ (List.mem_of_getElem? (i := 4) rfl)) (Nat.le_of_ble_eq_true rfl) (Nat.le_of_ble_eq_true rfl) (Nat.le_of_ble_eq_true rfl) (Nat.le_of_ble_eq_true rfl) dX6_firstWrong_40 ?_
    refine lv_topi (fun za6 eza6 => ?_)
    have h := vn_s h za6 eza6
    refine lv_istore (pc := 43) (lv' := [(5, .int za6), (0, .ref (sq 0)), (1, .ref (pq 0)), (2, .ref (hq 0)), (3, .int x3), (4, .int x4), (6, .int x6)]) hx hb dX6_firstWrong_43 hl (by decide) rfl (fun ls hl => ?_)
    refine lv_iinc (pc := 45) (v := (x6 + 1)) (lv' := [(6, .int (x6 + 1)), (5, .int za6), (0, .ref (sq 0)), (1, .ref (pq 0)), (2, .ref (hq 0)), (3, .int x3), (4, .int x4)]) hx hb dX6_firstWrong_45 hl (k := 6) rfl (by rw [zk_c1]) (by decide) rfl (fun ls hl => ?_)
    refine lv_goto (pc := 48) (tgt := 8) hx hb dX6_firstWrong_48 rfl ?_
    exact ih za6 (x6 + 1) zr4.1 zr4.2.1 zr4.2.2.1 zr4.2.2.2 zr3.2.2 rr h _ _ _ hH (lv_sub hl [2, 3, 4, 5, 6, 1, 0] rfl) K0
set_option maxHeartbeats 4000000 in
set_option maxRecDepth 100000 in
theorem c_X6_firstWrong (l : Launch) (G : va_G) (cy : Nat → ClassId) (fu : Nat) (sq : Nat → Nat) (pq : Nat → Nat) (hq : Nat → Nat) (h_alive : Nat → Int32) (h_late : Nat → Int32) (h_hbr : Nat → Int32) (h_rbh : Nat → Int32) (h_waits : Nat → Int32) (h_pers : Nat → Int32) (h_size : Int32) (h_ranks : Int32) (h_lines : Int32) (p_packed : Nat → Int32) (p_size : Int32) (s_some : Nat → Int64) (s_more : Nat → Int64) (s_sund : Nat → Int64) (s_mund : Nat → Int64) (s_group : Int32) (x3 : Int32) (x4 : Int32) (rr : Int32 × (Nat → Int64) × (Nat → Int64) × (Nat → Int64) × (Nat → Int64) × Int32) (h : f_X6_firstWrong fu h_alive h_hbr h_rbh h_size h_ranks p_packed p_size s_some s_more s_sund s_mund s_group x3 x4 = some rr) : zM l G cy yX6_firstWrong wsX6_firstWrong (zR 5 118) [.ref (sq 0), .ref (pq 0), .ref (hq 0), .int x3, .int x4] (wG cy sq s_some s_more s_sund s_mund s_group ++ wP cy pq p_packed p_size ++ wH cy hq h_alive h_late h_hbr h_rbh h_waits h_pers h_size h_ranks h_lines) (wG cy sq rr.2.1 rr.2.2.1 rr.2.2.2.1 rr.2.2.2.2.1 rr.2.2.2.2.2 ++ wP cy pq p_packed p_size ++ wH cy hq h_alive h_late h_hbr h_rbh h_waits h_pers h_size h_ranks h_lines) (some (.int rr.1)) := by
  refine zM.mk (cc := cX6_firstWrong) (nL := 7) (ret := (some .int)) (by decide) rfl (Nat.le_of_ble_eq_true rfl) ?_
  intro p e s m below meth c A ls X hr hH hl
  replace X : zX p s m [.ref (sq 0), .ref (pq 0), .ref (hq 0), .int x3, .int x4].toArray meth c RX6 cX6_firstWrong 7 wsX6_firstWrong G cy A := X
  have hx := X.1.1
  have hb := X.1.2.1
  replace hl : lv_has ls 7 [(0, .ref (sq 0)), (1, .ref (pq 0)), (2, .ref (hq 0)), (3, .int x3), (4, .int x4)] := hl
  dsimp only [f_X6_firstWrong] at h
  refine lv_sipush (v := 256) (pc := 0) hx hb dX6_firstWrong_0 zk_s256 ?_
  refine lv_istore (pc := 3) (lv' := [(5, .int 256), (0, .ref (sq 0)), (1, .ref (pq 0)), (2, .ref (hq 0)), (3, .int x3), (4, .int x4)]) hx hb dX6_firstWrong_3 hl (by decide) rfl (fun ls hl => ?_)
  refine lv_iconst (v := 0) (pc := 5) hx hb dX6_firstWrong_5 zk_c0 ?_
  refine lv_istore (pc := 6) (lv' := [(6, .int 0), (5, .int 256), (0, .ref (sq 0)), (1, .ref (pq 0)), (2, .ref (hq 0)), (3, .int x3), (4, .int x4)]) hx hb dX6_firstWrong_6 hl (by decide) rfl (fun ls hl => ?_)
  obtain ⟨zr1, hzr1, h⟩ := zb h
  refine w_X6_firstWrong_l8 G cy fu sq pq hq h_alive h_late h_hbr h_rbh h_waits h_pers h_size h_ranks h_lines p_packed p_size x3 x4 X fu 256 0 s_some s_more s_sund s_mund s_group zr1 hzr1 _ _ _ hH (lv_sub hl [2, 3, 4, 5, 6, 1, 0] rfl) (fun H locs ls hH hl => ?_)
  refine lv_iload (pc := 51) hx hb dX6_firstWrong_51 (lv_at hl 0 rfl) ?_
  obtain rfl := Option.some.inj h
  exact z_iret X hr hH dX6_firstWrong_53
set_option maxHeartbeats 4000000 in
set_option maxRecDepth 100000 in
theorem w_X1_bringDown_e_l3 {p : Program} {l : Launch} {e : Env} {s : State} {m : MethodId} {args : Array Value} {below : List Frame} {meth : Method} {c : Code} {A : Nat → Prop} {Q : State → Prop} (G : va_G) (cy : Nat → ClassId) (fu : Nat) (nq : Nat → Nat) (pq : Nat → Nat) (p_packed : Nat → Int32) (p_size : Int32) (e_und : Nat → Int32) (x3 : Int32) (X : zX p s m args meth c RX1 cX1_bringDown 5 wsX1_bringDown G cy A) : ∀ (n : Nat) (x4 : Int32) (e_num : Nat → Int32) (rr : (Nat → Int32)) (h : lp (f_X1_bringDown_e_l3 fu p_packed p_size e_und x3) n (x4, e_num) = some rr) (H : Heap) (locs : List Loc) (ls : Array Slot) (hH : zH G A s.heap (wE cy nq e_num e_und ++ wP cy pq p_packed p_size) H locs) (hl : lv_has ls 5 [(0, .ref (nq 0)), (1, .ref (pq 0)), (3, .int x3), (4, .int x4)]) (K0 : ∀ (H : Heap) (locs : List Loc) (ls : Array Slot), zH G A s.heap (wE cy nq rr e_und ++ wP cy pq p_packed p_size) H locs → lv_has ls 5 [] → W p l e (zR 3 63) s m args below meth c H locs 0 0 Q (F0 m 47 ls [])), W p l e (zR 3 63) s m args below meth c H locs 0 0 Q (F0 m 3 ls []) := by
  have hx := X.1.1
  have hb := X.1.2.1
  intro n
  induction n with
  | zero => intro x4 e_num rr h H locs ls hH hl K0; cases h
  | succ n ih =>
    intro x4 e_num rr h H locs ls hH hl K0
    replace h : f_X1_bringDown_e_l3 fu p_packed p_size e_und x3 (lp (f_X1_bringDown_e_l3 fu p_packed p_size e_und x3) n) (x4, e_num) = some rr := h
    dsimp only [f_X1_bringDown_e_l3] at h
    refine lv_iload (pc := 3) hx hb dX1_bringDown_3 (lv_at hl 3 rfl) ?_
    refine lv_iload_n (pc := 5) hx hb dX1_bringDown_5 rfl (lv_at hl 2 rfl) ?_
    refine lv_icmp_gt (pc := 6) (tgt := 47) hx hb dX1_bringDown_6 rfl (fun zc1 => ?_) (fun zc1 => ?_)
    · have h := zt zc1 h
      obtain rfl := Option.some.inj h
      exact K0 _ _ _ hH (lv_sub hl [] rfl)
    have h := zf zc1 h
    refine lv_aload_n (pc := 9) hx hb dX1_bringDown_9 rfl (lv_at hl 1 rfl) ?_
    refine lv_iload (pc := 10) hx hb dX1_bringDown_10 (lv_at hl 3 rfl) ?_
    obtain ⟨zr2, hzr2, h⟩ := zb h
    refine zcV (pc := 12) (As := [.int x4]) (rest := []) (st1 := [.int zr2]) (ws' := wE cy nq e_num e_und ++ wP cy pq p_packed p_size) (wr := [((nq 0), .inr (1, [.ref (nq 1), .ref (nq 2)])), ((nq 1), .inl (cy 0, 256, .inl e_num)), ((nq 2), .inl (cy 0, 256, .inl e_und))]) (n := 1) (q0 := 0) X (c_X4_isAdded l G cy fu pq p_packed p_size x4 zr2 hzr2) hH [3, 4] [0, 1, 2] [0, 1, 2, 3, 4] rfl rfl rfl rfl gX1_bringDown_X4_isAdded rfl ⟨rfl, rfl⟩ kX4_isAdded ⟨Nat.le_of_ble_eq_true rfl, Nat.le_of_ble_eq_true rfl⟩ rfl rfl rfl rfl rfl hl.1 (Nat.le_of_ble_eq_true rfl) ⟨Nat.le_of_ble_eq_true rfl, Nat.le_of_ble_eq_true rfl⟩ dX1_bringDown_12 (fun H locs hH => ?_)
    refine lv_if_eq (pc := 15) (tgt := 31) hx hb dX1_bringDown_15 rfl (fun zc3 => ?_) (fun zc3 => ?_)
    · have h := zt zc3 h
      refine lv_aload_n (pc := 31) hx hb dX1_bringDown_31 rfl (lv_at hl 0 rfl) ?_
      refine lv_aload_n (pc := 32) hx hb dX1_bringDown_32 rfl (lv_at hl 1 rfl) ?_
      refine lv_iload (pc := 33) hx hb dX1_bringDown_33 (lv_at hl 3 rfl) ?_
      obtain ⟨zr4, hzr4, h⟩ := zb h
      refine zcV (pc := 35) (As := [.int x4]) (rest := [.ref (nq 0)]) (st1 := [.int zr4, .ref (nq 0)]) (ws' := wE cy nq e_num e_und ++ wP cy pq p_packed p_size) (wr := [((nq 0), .inr (1, [.ref (nq 1), .ref (nq 2)])), ((nq 1), .inl (cy 0, 256, .inl e_num)), ((nq 2), .inl (cy 0, 256, .inl e_und))]) (n := 1) (q0 := 0) X (c_X4_target l G cy fu pq p_packed p_size x4 zr4 hzr4) hH [3, 4] [0, 1, 2] [0, 1, 2, 3, 4] rfl rfl rfl rfl gX1_bringDown_X4_target rfl ⟨rfl, rfl⟩ kX4_target ⟨Nat.le_of_ble_eq_true rfl, Nat.le_of_ble_eq_true rfl⟩ rfl rfl rfl rfl rfl hl.1 (Nat.le_of_ble_eq_true rfl) ⟨Nat.le_of_ble_eq_true rfl, Nat.le_of_ble_eq_true rfl⟩ dX1_bringDown_35 (fun H locs hH => ?_)
      obtain ⟨zr5, hzr5, h⟩ := zb h
      refine zcU (pc := 38) (As := [.int zr4]) (rest := []) (st1 := []) (ws' := wE cy nq zr5 e_und ++ wP cy pq p_packed p_size) (wr := [((pq 0), .inr (3, [.ref (pq 1), .int p_size])), ((pq 1), .inl (cy 0, 1200, .inl p_packed))]) (n := 1) (q0 := 0) X (c_X2_putDown l G cy fu nq e_num e_und zr4 zr5 hzr5) hH [0, 1, 2] [3, 4] [2, 3, 4, 0, 1] rfl rfl rfl rfl (va_cwA 1 X.1.2.2.2.2 gX1_bringDown_X2_putDown_u41X2 rfl rfl rfl (X.2.2.1 _ (List.mem_of_getElem? (i := 16) rfl)) (by decide +kernel) ⟨Nat.le_of_ble_eq_true rfl, Nat.le_of_ble_eq_true rfl⟩) rfl rfl rfl rfl rfl hl.1 (Nat.le_of_ble_eq_true rfl) ⟨Nat.le_of_ble_eq_true rfl, Nat.le_of_ble_eq_true rfl⟩ dX1_bringDown_38 (fun H locs hH => ?_)
      refine lv_iinc (pc := 41) (v := (x4 + 1)) (lv' := [(4, .int (x4 + 1)), (0, .ref (nq 0)), (1, .ref (pq 0)), (3, .int x3)]) hx hb dX1_bringDown_41 hl (k := 3) rfl (by rw [zk_c1]) (by decide) rfl (fun ls hl => ?_)
      refine lv_goto (pc := 44) (tgt := 3) hx hb dX1_bringDown_44 rfl ?_
      exact ih (x4 + 1) zr5 rr h _ _ _ hH (lv_sub hl [1, 2, 3, 0] rfl) K0
    have h := zf zc3 h
    refine lv_aload_n (pc := 18) hx hb dX1_bringDown_18 rfl (lv_at hl 0 rfl) ?_
    refine lv_aload_n (pc := 19) hx hb dX1_bringDown_19 rfl (lv_at hl 1 rfl) ?_
    refine lv_iload (pc := 20) hx hb dX1_bringDown_20 (lv_at hl 3 rfl) ?_
    obtain ⟨zr6, hzr6, h⟩ := zb h
    refine zcV (pc := 22) (As := [.int x4]) (rest := [.ref (nq 0)]) (st1 := [.int zr6, .ref (nq 0)]) (ws' := wE cy nq e_num e_und ++ wP cy pq p_packed p_size) (wr := [((nq 0), .inr (1, [.ref (nq 1), .ref (nq 2)])), ((nq 1), .inl (cy 0, 256, .inl e_num)), ((nq 2), .inl (cy 0, 256, .inl e_und))]) (n := 1) (q0 := 0) X (c_X4_target l G cy fu pq p_packed p_size x4 zr6 hzr6) hH [3, 4] [0, 1, 2] [0, 1, 2, 3, 4] rfl rfl rfl rfl gX1_bringDown_X4_target rfl ⟨rfl, rfl⟩ kX4_target ⟨Nat.le_of_ble_eq_true rfl, Nat.le_of_ble_eq_true rfl⟩ rfl rfl rfl rfl rfl hl.1 (Nat.le_of_ble_eq_true rfl) ⟨Nat.le_of_ble_eq_true rfl, Nat.le_of_ble_eq_true rfl⟩ dX1_bringDown_22 (fun H locs hH => ?_)
    obtain ⟨zr7, hzr7, h⟩ := zb h
    refine zcU (pc := 25) (As := [.int zr6]) (rest := []) (st1 := []) (ws' := wE cy nq zr7 e_und ++ wP cy pq p_packed p_size) (wr := [((pq 0), .inr (3, [.ref (pq 1), .int p_size])), ((pq 1), .inl (cy 0, 1200, .inl p_packed))]) (n := 1) (q0 := 0) X (c_X2_addDown l G cy fu nq e_num e_und zr6 zr7 hzr7) hH [0, 1, 2] [3, 4] [2, 3, 4, 0, 1] rfl rfl rfl rfl (va_cwA 1 X.1.2.2.2.2 gX1_bringDown_X2_addDown_u37X2 rfl rfl rfl (X.2.2.1 _ (List.mem_of_getElem? (i := 17) rfl)) (by decide +kernel) ⟨Nat.le_of_ble_eq_true rfl, Nat.le_of_ble_eq_true rfl⟩) rfl rfl rfl rfl rfl hl.1 (Nat.le_of_ble_eq_true rfl) ⟨Nat.le_of_ble_eq_true rfl, Nat.le_of_ble_eq_true rfl⟩ dX1_bringDown_25 (fun H locs hH => ?_)
    refine lv_goto (pc := 28) (tgt := 41) hx hb dX1_bringDown_28 rfl ?_
    refine lv_iinc (pc := 41) (v := (x4 + 1)) (lv' := [(4, .int (x4 + 1)), (0, .ref (nq 0)), (1, .ref (pq 0)), (3, .int x3)]) hx hb dX1_bringDown_41 hl (k := 3) rfl (by rw [zk_c1]) (by decide) rfl (fun ls hl => ?_)
    refine lv_goto (pc := 44) (tgt := 3) hx hb dX1_bringDown_44 rfl ?_
    exact ih (x4 + 1) zr7 rr h _ _ _ hH (lv_sub hl [1, 2, 3, 0] rfl) K0
set_option maxHeartbeats 4000000 in
set_option maxRecDepth 100000 in
theorem c_X1_bringDown_e (l : Launch) (G : va_G) (cy : Nat → ClassId) (fu : Nat) (nq : Nat → Nat) (pq : Nat → Nat) (p_packed : Nat → Int32) (p_size : Int32) (e_num : Nat → Int32) (e_und : Nat → Int32) (x2 : Int32) (x3 : Int32) (rr : (Nat → Int32)) (h : f_X1_bringDown_e fu p_packed p_size e_num e_und x2 x3 = some rr) : zM l G cy yX1_bringDown wsX1_bringDown (zR 3 63) [.ref (nq 0), .ref (pq 0), .int x2, .int x3] (wE cy nq e_num e_und ++ wP cy pq p_packed p_size) (wE cy nq rr e_und ++ wP cy pq p_packed p_size) none := by
  refine zM.mk (cc := cX1_bringDown) (nL := 5) (ret := none) (by decide) rfl (Nat.le_of_ble_eq_true rfl) ?_
  intro p e s m below meth c A ls X hr hH hl
  replace X : zX p s m [.ref (nq 0), .ref (pq 0), .int x2, .int x3].toArray meth c RX1 cX1_bringDown 5 wsX1_bringDown G cy A := X
  have hx := X.1.1
  have hb := X.1.2.1
  replace hl : lv_has ls 5 [(0, .ref (nq 0)), (1, .ref (pq 0)), (2, .int x2), (3, .int x3)] := hl
  dsimp only [f_X1_bringDown_e] at h
  refine lv_iload_n (pc := 0) hx hb dX1_bringDown_0 rfl (lv_at hl 2 rfl) ?_
  refine lv_istore (pc := 1) (lv' := [(4, .int x2), (0, .ref (nq 0)), (1, .ref (pq 0)), (2, .int x2), (3, .int x3)]) hx hb dX1_bringDown_1 hl (by decide) rfl (fun ls hl => ?_)
  obtain ⟨zr1, hzr1, h⟩ := zb h
  refine w_X1_bringDown_e_l3 G cy fu nq pq p_packed p_size e_und x3 X fu x2 e_num zr1 hzr1 _ _ _ hH (lv_sub hl [1, 2, 4, 0] rfl) (fun H locs ls hH hl => ?_)
  obtain rfl := Option.some.inj h
  exact z_vret X hr hH dX1_bringDown_47
set_option maxHeartbeats 4000000 in
set_option maxRecDepth 100000 in
theorem w_X1_follow_e_l4 {p : Program} {l : Launch} {e : Env} {s : State} {m : MethodId} {args : Array Value} {below : List Frame} {meth : Method} {c : Code} {A : Nat → Prop} {Q : State → Prop} (G : va_G) (cy : Nat → ClassId) (fu : Nat) (nq : Nat → Nat) (pq : Nat → Nat) (p_packed : Nat → Int32) (p_size : Int32) (X : zX p s m args meth c RX1 cX1_follow 4 wsX1_follow G cy A) : ∀ (n : Nat) (x2 : Int32) (x3 : Int32) (e_num : Nat → Int32) (e_und : Nat → Int32) (rr : (Nat → Int32) × (Nat → Int32)) (h : lp (f_X1_follow_e_l4 fu p_packed p_size) n (x2, x3, e_num, e_und) = some rr) (H : Heap) (locs : List Loc) (ls : Array Slot) (hH : zH G A s.heap (wE cy nq e_num e_und ++ wP cy pq p_packed p_size) H locs) (hl : lv_has ls 4 [(0, .ref (nq 0)), (1, .ref (pq 0)), (2, .int x2), (3, .int x3)]) (K0 : ∀ (H : Heap) (locs : List Loc) (ls : Array Slot), zH G A s.heap (wE cy nq rr.1 rr.2 ++ wP cy pq p_packed p_size) H locs → lv_has ls 4 [] → W p l e (zR 4 87) s m args below meth c H locs 0 0 Q (F0 m 51 ls [])), W p l e (zR 4 87) s m args below meth c H locs 0 0 Q (F0 m 4 ls []) := by
  have hx := X.1.1
  have hb := X.1.2.1
  intro n
  induction n with
  | zero => intro x2 x3 e_num e_und rr h H locs ls hH hl K0; cases h
  | succ n ih =>
    intro x2 x3 e_num e_und rr h H locs ls hH hl K0
    replace h : f_X1_follow_e_l4 fu p_packed p_size (lp (f_X1_follow_e_l4 fu p_packed p_size) n) (x2, x3, e_num, e_und) = some rr := h
    dsimp only [f_X1_follow_e_l4] at h
    refine lv_iload_n (pc := 4) hx hb dX1_follow_4 rfl (lv_at hl 3 rfl) ?_
    refine lv_aload_n (pc := 5) hx hb dX1_follow_5 rfl (lv_at hl 1 rfl) ?_
    obtain ⟨zr1, hzr1, h⟩ := zb h
    refine zcV (pc := 6) (As := []) (rest := [.int x3]) (st1 := [.int zr1, .int x3]) (ws' := wE cy nq e_num e_und ++ wP cy pq p_packed p_size) (wr := [((nq 0), .inr (1, [.ref (nq 1), .ref (nq 2)])), ((nq 1), .inl (cy 0, 256, .inl e_num)), ((nq 2), .inl (cy 0, 256, .inl e_und))]) (n := 0) (q0 := 0) X (c_X4_size l G cy fu pq p_packed p_size zr1 hzr1) hH [3, 4] [0, 1, 2] [0, 1, 2, 3, 4] rfl rfl rfl rfl gX1_follow_X4_size rfl ⟨rfl, rfl⟩ kX4_size ⟨Nat.le_of_ble_eq_true rfl, Nat.le_of_ble_eq_true rfl⟩ rfl rfl rfl rfl rfl hl.1 (Nat.le_of_ble_eq_true rfl) ⟨Nat.le_of_ble_eq_true rfl, Nat.le_of_ble_eq_true rfl⟩ dX1_follow_6 (fun H locs hH => ?_)
    refine lv_icmp_ge (pc := 9) (tgt := 51) hx hb dX1_follow_9 rfl (fun zc2 => ?_) (fun zc2 => ?_)
    · have h := zt zc2 h
      obtain rfl := Option.some.inj h
      exact K0 _ _ _ hH (lv_sub hl [] rfl)
    have h := zf zc2 h
    refine lv_aload_n (pc := 12) hx hb dX1_follow_12 rfl (lv_at hl 0 rfl) ?_
    refine lv_aload_n (pc := 13) hx hb dX1_follow_13 rfl (lv_at hl 1 rfl) ?_
    refine lv_iload_n (pc := 14) hx hb dX1_follow_14 rfl (lv_at hl 3 rfl) ?_
    obtain ⟨zr3, hzr3, h⟩ := zb h
    refine zcV (pc := 15) (As := [.int x3]) (rest := [.ref (nq 0)]) (st1 := [.int zr3, .ref (nq 0)]) (ws' := wE cy nq e_num e_und ++ wP cy pq p_packed p_size) (wr := [((nq 0), .inr (1, [.ref (nq 1), .ref (nq 2)])), ((nq 1), .inl (cy 0, 256, .inl e_num)), ((nq 2), .inl (cy 0, 256, .inl e_und))]) (n := 1) (q0 := 0) X (c_X4_source l G cy fu pq p_packed p_size x3 zr3 hzr3) hH [3, 4] [0, 1, 2] [0, 1, 2, 3, 4] rfl rfl rfl rfl gX1_follow_X4_source rfl ⟨rfl, rfl⟩ kX4_source ⟨Nat.le_of_ble_eq_true rfl, Nat.le_of_ble_eq_true rfl⟩ rfl rfl rfl rfl rfl hl.1 (Nat.le_of_ble_eq_true rfl) ⟨Nat.le_of_ble_eq_true rfl, Nat.le_of_ble_eq_true rfl⟩ dX1_follow_15 (fun H locs hH => ?_)
    refine lv_aload_n (pc := 18) hx hb dX1_follow_18 rfl (lv_at hl 1 rfl) ?_
    refine lv_iload_n (pc := 19) hx hb dX1_follow_19 rfl (lv_at hl 3 rfl) ?_
    obtain ⟨zr4, hzr4, h⟩ := zb h
    refine zcV (pc := 20) (As := [.int x3]) (rest := [.int zr3, .ref (nq 0)]) (st1 := [.int zr4, .int zr3, .ref (nq 0)]) (ws' := wE cy nq e_num e_und ++ wP cy pq p_packed p_size) (wr := [((nq 0), .inr (1, [.ref (nq 1), .ref (nq 2)])), ((nq 1), .inl (cy 0, 256, .inl e_num)), ((nq 2), .inl (cy 0, 256, .inl e_und))]) (n := 1) (q0 := 0) X (c_X4_target l G cy fu pq p_packed p_size x3 zr4 hzr4) hH [3, 4] [0, 1, 2] [0, 1, 2, 3, 4] rfl rfl rfl rfl gX1_follow_X4_target rfl ⟨rfl, rfl⟩ kX4_target ⟨Nat.le_of_ble_eq_true rfl, Nat.le_of_ble_eq_true rfl⟩ rfl rfl rfl rfl rfl hl.1 (Nat.le_of_ble_eq_true rfl) ⟨Nat.le_of_ble_eq_true rfl, Nat.le_of_ble_eq_true rfl⟩ dX1_follow_20 (fun H locs hH => ?_)
    obtain ⟨zr5, hzr5, h⟩ := zb h
    refine zcU (pc := 23) (As := [.int zr3, .int zr4]) (rest := []) (st1 := []) (ws' := wE cy nq e_num zr5 ++ wP cy pq p_packed p_size) (wr := [((pq 0), .inr (3, [.ref (pq 1), .int p_size])), ((pq 1), .inl (cy 0, 1200, .inl p_packed))]) (n := 2) (q0 := 0) X (c_X2_takeUp l G cy fu nq e_num e_und zr3 zr4 zr5 hzr5) hH [0, 1, 2] [3, 4] [2, 3, 4, 0, 1] rfl rfl rfl rfl (va_cwA 2 X.1.2.2.2.2 gX1_follow_X2_takeUp_u20X2 rfl rfl rfl (X.2.2.1 _ (List.mem_of_getElem? (i := 15) rfl)) (by decide +kernel) ⟨Nat.le_of_ble_eq_true rfl, Nat.le_of_ble_eq_true rfl⟩) rfl rfl rfl rfl rfl hl.1 (Nat.le_of_ble_eq_true rfl) ⟨Nat.le_of_ble_eq_true rfl, Nat.le_of_ble_eq_true rfl⟩ dX1_follow_23 (fun H locs hH => ?_)
    refine lv_aload_n (pc := 26) hx hb dX1_follow_26 rfl (lv_at hl 1 rfl) ?_
    refine lv_iload_n (pc := 27) hx hb dX1_follow_27 rfl (lv_at hl 3 rfl) ?_
    obtain ⟨zr6, hzr6, h⟩ := zb h
    refine zcV (pc := 28) (As := [.int x3]) (rest := []) (st1 := [.int zr6]) (ws' := wE cy nq e_num zr5 ++ wP cy pq p_packed p_size) (wr := [((nq 0), .inr (1, [.ref (nq 1), .ref (nq 2)])), ((nq 1), .inl (cy 0, 256, .inl e_num)), ((nq 2), .inl (cy 0, 256, .inl zr5))]) (n := 1) (q0 := 0) X (c_X4_endsStep l G cy fu pq p_packed p_size x3 zr6 hzr6) hH [3, 4] [0, 1, 2] [0, 1, 2, 3, 4] rfl rfl rfl rfl gX1_follow_X4_endsStep rfl ⟨rfl, rfl⟩ kX4_endsStep ⟨Nat.le_of_ble_eq_true rfl, Nat.le_of_ble_eq_true rfl⟩ rfl rfl rfl rfl rfl hl.1 (Nat.le_of_ble_eq_true rfl) ⟨Nat.le_of_ble_eq_true rfl, Nat.le_of_ble_eq_true rfl⟩ dX1_follow_28 (fun H locs hH => ?_)
    refine lv_if_eq (pc := 31) (tgt := 45) hx hb dX1_follow_31 rfl (fun zc7 => ?_) (fun zc7 => ?_)
    · have h := zt zc7 h
      refine lv_iinc (pc := 45) (v := (x3 + 1)) (lv' := [(3, .int (x3 + 1)), (0, .ref (nq 0)), (1, .ref (pq 0)), (2, .int x2)]) hx hb dX1_follow_45 hl (k := 3) rfl (by rw [zk_c1]) (by decide) rfl (fun ls hl => ?_)
      refine lv_goto (pc := 48) (tgt := 4) hx hb dX1_follow_48 rfl ?_
      exact ih x2 (x3 + 1) e_num zr5 rr h _ _ _ hH (lv_sub hl [1, 2, 3, 0] rfl) K0
    have h := zf zc7 h
    refine lv_aload_n (pc := 34) hx hb dX1_follow_34 rfl (lv_at hl 0 rfl) ?_
    refine lv_aload_n (pc := 35) hx hb dX1_follow_35 rfl (lv_at hl 1 rfl) ?_
    refine lv_iload_n (pc := 36) hx hb dX1_follow_36 rfl (lv_at hl 2 rfl) ?_
    refine lv_iload_n (pc := 37) hx hb dX1_follow_37 rfl (lv_at hl 3 rfl) ?_
    obtain ⟨zr8, hzr8, h⟩ := zb h
    refine zcU (pc := 38) (As := [.ref (pq 0), .int x2, .int x3]) (rest := []) (st1 := []) (ws' := wE cy nq zr8 zr5 ++ wP cy pq p_packed p_size) (wr := []) (n := 3) (q0 := 0) X (c_X1_bringDown_e l G cy fu nq pq p_packed p_size e_num zr5 x2 x3 zr8 hzr8) hH [0, 1, 2, 3, 4] [] [0, 1, 2, 3, 4] rfl rfl rfl rfl (va_cwU 3 X.1.2.2.2.2 gX1_follow_X1_bringDown_u30X2 rfl rfl rfl rfl (by decide +kernel) ⟨Nat.le_of_ble_eq_true rfl, Nat.le_of_ble_eq_true rfl⟩) rfl rfl rfl rfl rfl hl.1 (Nat.le_of_ble_eq_true rfl) ⟨Nat.le_of_ble_eq_true rfl, Nat.le_of_ble_eq_true rfl⟩ dX1_follow_38 (fun H locs hH => ?_)
    refine lv_iload_n (pc := 41) hx hb dX1_follow_41 rfl (lv_at hl 3 rfl) ?_
    refine lv_iconst (v := 1) (pc := 42) hx hb dX1_follow_42 zk_c1 ?_
    refine lv_iadd (pc := 43) hx hb dX1_follow_43 ?_
    refine lv_topi (fun za9 eza9 => ?_)
    have h := vn_s h za9 eza9
    refine lv_istore_n (pc := 44) (lv' := [(2, .int za9), (0, .ref (nq 0)), (1, .ref (pq 0)), (3, .int x3)]) hx hb dX1_follow_44 rfl hl (by decide) rfl (fun ls hl => ?_)
    refine lv_iinc (pc := 45) (v := (x3 + 1)) (lv' := [(3, .int (x3 + 1)), (2, .int za9), (0, .ref (nq 0)), (1, .ref (pq 0))]) hx hb dX1_follow_45 hl (k := 3) rfl (by rw [zk_c1]) (by decide) rfl (fun ls hl => ?_)
    refine lv_goto (pc := 48) (tgt := 4) hx hb dX1_follow_48 rfl ?_
    exact ih za9 (x3 + 1) zr8 zr5 rr h _ _ _ hH (lv_sub hl [2, 3, 1, 0] rfl) K0
set_option maxHeartbeats 4000000 in
set_option maxRecDepth 100000 in
theorem c_X1_follow_e (l : Launch) (G : va_G) (cy : Nat → ClassId) (fu : Nat) (nq : Nat → Nat) (pq : Nat → Nat) (p_packed : Nat → Int32) (p_size : Int32) (e_num : Nat → Int32) (e_und : Nat → Int32)  (rr : (Nat → Int32) × (Nat → Int32)) (h : f_X1_follow_e fu p_packed p_size e_num e_und = some rr) : zM l G cy yX1_follow wsX1_follow (zR 4 87) [.ref (nq 0), .ref (pq 0)] (wE cy nq e_num e_und ++ wP cy pq p_packed p_size) (wE cy nq rr.1 rr.2 ++ wP cy pq p_packed p_size) none := by
  refine zM.mk (cc := cX1_follow) (nL := 4) (ret := none) (by decide) rfl (Nat.le_of_ble_eq_true rfl) ?_
  intro p e s m below meth c A ls X hr hH hl
  replace X : zX p s m [.ref (nq 0), .ref (pq 0)].toArray meth c RX1 cX1_follow 4 wsX1_follow G cy A := X
  have hx := X.1.1
  have hb := X.1.2.1
  replace hl : lv_has ls 4 [(0, .ref (nq 0)), (1, .ref (pq 0))] := hl
  dsimp only [f_X1_follow_e] at h
  refine lv_iconst (v := 0) (pc := 0) hx hb dX1_follow_0 zk_c0 ?_
  refine lv_istore_n (pc := 1) (lv' := [(2, .int 0), (0, .ref (nq 0)), (1, .ref (pq 0))]) hx hb dX1_follow_1 rfl hl (by decide) rfl (fun ls hl => ?_)
  refine lv_iconst (v := 0) (pc := 2) hx hb dX1_follow_2 zk_c0 ?_
  refine lv_istore_n (pc := 3) (lv' := [(3, .int 0), (2, .int 0), (0, .ref (nq 0)), (1, .ref (pq 0))]) hx hb dX1_follow_3 rfl hl (by decide) rfl (fun ls hl => ?_)
  obtain ⟨zr1, hzr1, h⟩ := zb h
  refine w_X1_follow_e_l4 G cy fu nq pq p_packed p_size X fu 0 0 e_num e_und zr1 hzr1 _ _ _ hH (lv_sub hl [2, 3, 1, 0] rfl) (fun H locs ls hH hl => ?_)
  obtain rfl := Option.some.inj h
  exact z_vret X hr hH dX1_follow_51
set_option maxHeartbeats 4000000 in
set_option maxRecDepth 100000 in
theorem w_X0_inStep_l11 {p : Program} {l : Launch} {e : Env} {s : State} {m : MethodId} {args : Array Value} {below : List Frame} {meth : Method} {c : Code} {A : Nat → Prop} {Q : State → Prop} (G : va_G) (cy : Nat → ClassId) (fu : Nat) (kq : Nat → Nat) (pq : Nat → Nat) (hq : Nat → Nat) (h_alive : Nat → Int32) (h_late : Nat → Int32) (h_hbr : Nat → Int32) (h_rbh : Nat → Int32) (h_waits : Nat → Int32) (h_pers : Nat → Int32) (h_size : Int32) (h_ranks : Int32) (h_lines : Int32) (p_packed : Nat → Int32) (p_size : Int32) (k_ahead : Nat → Int32) (k_behind : Nat → Int32) (X : zX p s m args meth c RX0 cX0_inStep 7 wsX0_inStep G cy A) : ∀ (n : Nat) (x3 : Int32) (x4 : Int32) (x5 : Int32) (x6 : Int32) (rr : Int32) (h : lp (f_X0_inStep_l11 fu h_waits h_pers p_packed p_size) n (x3, x4, x5, x6) = some rr) (H : Heap) (locs : List Loc) (ls : Array Slot) (hH : zH G A s.heap (wK cy kq k_ahead k_behind ++ wP cy pq p_packed p_size ++ wH cy hq h_alive h_late h_hbr h_rbh h_waits h_pers h_size h_ranks h_lines) H locs) (hl : lv_has ls 7 [(1, .ref (pq 0)), (2, .ref (hq 0)), (3, .int x3), (4, .int x4), (5, .int x5), (6, .int x6)]) (K0 : ∀ (H : Heap) (locs : List Loc) (ls : Array Slot), zH G A s.heap (wK cy kq k_ahead k_behind ++ wP cy pq p_packed p_size ++ wH cy hq h_alive h_late h_hbr h_rbh h_waits h_pers h_size h_ranks h_lines) H locs → lv_has ls 7 [(3, .int rr)] → W p l e (zR 3 64) s m args below meth c H locs 0 0 Q (F0 m 83 ls [])), W p l e (zR 3 64) s m args below meth c H locs 0 0 Q (F0 m 11 ls []) := by
  have hx := X.1.1
  have hb := X.1.2.1
  intro n
  induction n with
  | zero => intro x3 x4 x5 x6 rr h H locs ls hH hl K0; cases h
  | succ n ih =>
    intro x3 x4 x5 x6 rr h H locs ls hH hl K0
    replace h : f_X0_inStep_l11 fu h_waits h_pers p_packed p_size (lp (f_X0_inStep_l11 fu h_waits h_pers p_packed p_size) n) (x3, x4, x5, x6) = some rr := h
    dsimp only [f_X0_inStep_l11] at h
    refine lv_iload (pc := 11) hx hb dX0_inStep_11 (lv_at hl 5 rfl) ?_
    refine lv_aload_n (pc := 13) hx hb dX0_inStep_13 rfl (lv_at hl 0 rfl) ?_
    obtain ⟨zr1, hzr1, h⟩ := zb h
    refine zcV (pc := 14) (As := []) (rest := [.int x6]) (st1 := [.int zr1, .int x6]) (ws' := wK cy kq k_ahead k_behind ++ wP cy pq p_packed p_size ++ wH cy hq h_alive h_late h_hbr h_rbh h_waits h_pers h_size h_ranks h_lines) (wr := [((kq 0), .inr (0, [.ref (kq 1), .ref (kq 2)])), ((kq 1), .inl (cy 0, 16, .inl k_ahead)), ((kq 2), .inl (cy 0, 16, .inl k_behind)), ((hq 0), .inr (2, [.ref (hq 1), .ref (hq 2), .ref (hq 3), .ref (hq 4), .ref (hq 5), .ref (hq 6), .int h_size, .int h_ranks, .int h_lines])), ((hq 1), .inl (cy 2, 16, .inl h_alive)), ((hq 2), .inl (cy 0, 16, .inl h_late)), ((hq 3), .inl (cy 0, 16, .inl h_hbr)), ((hq 4), .inl (cy 0, 16, .inl h_rbh)), ((hq 5), .inl (cy 0, 256, .inl h_waits)), ((hq 6), .inl (cy 0, 256, .inl h_pers))]) (n := 0) (q0 := 0) X (c_X4_size l G cy fu pq p_packed p_size zr1 hzr1) hH [3, 4] [0, 1, 2, 5, 6, 7, 8, 9, 10, 11] [0, 1, 2, 10, 11, 3, 4, 5, 6, 7, 8, 9] rfl rfl rfl rfl gX0_inStep_X4_size rfl ⟨rfl, rfl⟩ kX4_size ⟨Nat.le_of_ble_eq_true rfl, Nat.le_of_ble_eq_true rfl⟩ rfl rfl rfl rfl rfl hl.1 (Nat.le_of_ble_eq_true rfl) ⟨Nat.le_of_ble_eq_true rfl, Nat.le_of_ble_eq_true rfl⟩ dX0_inStep_14 (fun H locs hH => ?_)
    refine lv_icmp_ge (pc := 17) (tgt := 83) hx hb dX0_inStep_17 rfl (fun zc2 => ?_) (fun zc2 => ?_)
    · have h := zt zc2 h
      obtain rfl := Option.some.inj h
      exact K0 _ _ _ hH (lv_sub hl [2] rfl)
    have h := zf zc2 h
    refine lv_iinc (pc := 20) (v := (x5 + 1)) (lv' := [(5, .int (x5 + 1)), (1, .ref (pq 0)), (2, .ref (hq 0)), (3, .int x3), (4, .int x4), (6, .int x6)]) hx hb dX0_inStep_20 hl (k := 4) rfl (by rw [zk_c1]) (by decide) rfl (fun ls hl => ?_)
    refine lv_aload_n (pc := 23) hx hb dX0_inStep_23 rfl (lv_at hl 1 rfl) ?_
    refine lv_iload (pc := 24) hx hb dX0_inStep_24 (lv_at hl 5 rfl) ?_
    obtain ⟨zr3, hzr3, h⟩ := zb h
    refine zcV (pc := 26) (As := [.int x6]) (rest := []) (st1 := [.int zr3]) (ws' := wK cy kq k_ahead k_behind ++ wP cy pq p_packed p_size ++ wH cy hq h_alive h_late h_hbr h_rbh h_waits h_pers h_size h_ranks h_lines) (wr := [((kq 0), .inr (0, [.ref (kq 1), .ref (kq 2)])), ((kq 1), .inl (cy 0, 16, .inl k_ahead)), ((kq 2), .inl (cy 0, 16, .inl k_behind)), ((hq 0), .inr (2, [.ref (hq 1), .ref (hq 2), .ref (hq 3), .ref (hq 4), .ref (hq 5), .ref (hq 6), .int h_size, .int h_ranks, .int h_lines])), ((hq 1), .inl (cy 2, 16, .inl h_alive)), ((hq 2), .inl (cy 0, 16, .inl h_late)), ((hq 3), .inl (cy 0, 16, .inl h_hbr)), ((hq 4), .inl (cy 0, 16, .inl h_rbh)), ((hq 5), .inl (cy 0, 256, .inl h_waits)), ((hq 6), .inl (cy 0, 256, .inl h_pers))]) (n := 1) (q0 := 0) X (c_X4_endsLetter l G cy fu pq p_packed p_size x6 zr3 hzr3) hH [3, 4] [0, 1, 2, 5, 6, 7, 8, 9, 10, 11] [0, 1, 2, 10, 11, 3, 4, 5, 6, 7, 8, 9] rfl rfl rfl rfl gX0_inStep_X4_endsLetter rfl ⟨rfl, rfl⟩ kX4_endsLetter ⟨Nat.le_of_ble_eq_true rfl, Nat.le_of_ble_eq_true rfl⟩ rfl rfl rfl rfl rfl hl.1 (Nat.le_of_ble_eq_true rfl) ⟨Nat.le_of_ble_eq_true rfl, Nat.le_of_ble_eq_true rfl⟩ dX0_inStep_26 (fun H locs hH => ?_)
    refine lv_if_eq (pc := 29) (tgt := 60) hx hb dX0_inStep_29 rfl (fun zc4 => ?_) (fun zc4 => ?_)
    · have h := zt zc4 h
      refine lv_aload_n (pc := 60) hx hb dX0_inStep_60 rfl (lv_at hl 1 rfl) ?_
      refine lv_iload (pc := 61) hx hb dX0_inStep_61 (lv_at hl 5 rfl) ?_
      obtain ⟨zr5, hzr5, h⟩ := zb h
      refine zcV (pc := 63) (As := [.int x6]) (rest := []) (st1 := [.int zr5]) (ws' := wK cy kq k_ahead k_behind ++ wP cy pq p_packed p_size ++ wH cy hq h_alive h_late h_hbr h_rbh h_waits h_pers h_size h_ranks h_lines) (wr := [((kq 0), .inr (0, [.ref (kq 1), .ref (kq 2)])), ((kq 1), .inl (cy 0, 16, .inl k_ahead)), ((kq 2), .inl (cy 0, 16, .inl k_behind)), ((hq 0), .inr (2, [.ref (hq 1), .ref (hq 2), .ref (hq 3), .ref (hq 4), .ref (hq 5), .ref (hq 6), .int h_size, .int h_ranks, .int h_lines])), ((hq 1), .inl (cy 2, 16, .inl h_alive)), ((hq 2), .inl (cy 0, 16, .inl h_late)), ((hq 3), .inl (cy 0, 16, .inl h_hbr)), ((hq 4), .inl (cy 0, 16, .inl h_rbh)), ((hq 5), .inl (cy 0, 256, .inl h_waits)), ((hq 6), .inl (cy 0, 256, .inl h_pers))]) (n := 1) (q0 := 0) X (c_X4_endsStep l G cy fu pq p_packed p_size x6 zr5 hzr5) hH [3, 4] [0, 1, 2, 5, 6, 7, 8, 9, 10, 11] [0, 1, 2, 10, 11, 3, 4, 5, 6, 7, 8, 9] rfl rfl rfl rfl gX0_inStep_X4_endsStep rfl ⟨rfl, rfl⟩ kX4_endsStep ⟨Nat.le_of_ble_eq_true rfl, Nat.le_of_ble_eq_true rfl⟩ rfl rfl rfl rfl rfl hl.1 (Nat.le_of_ble_eq_true rfl) ⟨Nat.le_of_ble_eq_true rfl, Nat.le_of_ble_eq_true rfl⟩ dX0_inStep_63 (fun H locs hH => ?_)
      refine lv_if_eq (pc := 66) (tgt := 77) hx hb dX0_inStep_66 rfl (fun zc6 => ?_) (fun zc6 => ?_)
      · have h := zt zc6 h
        refine lv_iinc (pc := 77) (v := (x6 + 1)) (lv' := [(6, .int (x6 + 1)), (5, .int (x5 + 1)), (1, .ref (pq 0)), (2, .ref (hq 0)), (3, .int x3), (4, .int x4)]) hx hb dX0_inStep_77 hl (k := 5) rfl (by rw [zk_c1]) (by decide) rfl (fun ls hl => ?_)
        refine lv_goto (pc := 80) (tgt := 11) hx hb dX0_inStep_80 rfl ?_
        exact ih x3 x4 (x5 + 1) (x6 + 1) rr h _ _ _ hH (lv_sub hl [2, 3, 4, 5, 1, 0] rfl) K0
      have h := zf zc6 h
      refine lv_iload_n (pc := 69) hx hb dX0_inStep_69 rfl (lv_at hl 3 rfl) ?_
      refine lv_iload (pc := 70) hx hb dX0_inStep_70 (lv_at hl 4 rfl) ?_
      refine lv_iadd (pc := 72) hx hb dX0_inStep_72 ?_
      refine lv_topi (fun za7 eza7 => ?_)
      have h := vn_s h za7 eza7
      refine lv_istore_n (pc := 73) (lv' := [(3, .int za7), (5, .int (x5 + 1)), (1, .ref (pq 0)), (2, .ref (hq 0)), (4, .int x4), (6, .int x6)]) hx hb dX0_inStep_73 rfl hl (by decide) rfl (fun ls hl => ?_)
      refine lv_iconst (v := 0) (pc := 74) hx hb dX0_inStep_74 zk_c0 ?_
      refine lv_istore (pc := 75) (lv' := [(4, .int 0), (3, .int za7), (5, .int (x5 + 1)), (1, .ref (pq 0)), (2, .ref (hq 0)), (6, .int x6)]) hx hb dX0_inStep_75 hl (by decide) rfl (fun ls hl => ?_)
      refine lv_iinc (pc := 77) (v := (x6 + 1)) (lv' := [(6, .int (x6 + 1)), (4, .int 0), (3, .int za7), (5, .int (x5 + 1)), (1, .ref (pq 0)), (2, .ref (hq 0))]) hx hb dX0_inStep_77 hl (k := 5) rfl (by rw [zk_c1]) (by decide) rfl (fun ls hl => ?_)
      refine lv_goto (pc := 80) (tgt := 11) hx hb dX0_inStep_80 rfl ?_
      exact ih za7 0 (x5 + 1) (x6 + 1) rr h _ _ _ hH (lv_sub hl [4, 5, 2, 1, 3, 0] rfl) K0
    have h := zf zc4 h
    refine lv_iload (pc := 32) hx hb dX0_inStep_32 (lv_at hl 4 rfl) ?_
    refine lv_aload_n (pc := 34) hx hb dX0_inStep_34 rfl (lv_at hl 2 rfl) ?_
    refine lv_aload_n (pc := 35) hx hb dX0_inStep_35 rfl (lv_at hl 1 rfl) ?_
    refine lv_iload (pc := 36) hx hb dX0_inStep_36 (lv_at hl 5 rfl) ?_
    obtain ⟨zr8, hzr8, h⟩ := zb h
    refine zcV (pc := 38) (As := [.int x6]) (rest := [.ref (hq 0), .int x4]) (st1 := [.int zr8, .ref (hq 0), .int x4]) (ws' := wK cy kq k_ahead k_behind ++ wP cy pq p_packed p_size ++ wH cy hq h_alive h_late h_hbr h_rbh h_waits h_pers h_size h_ranks h_lines) (wr := [((kq 0), .inr (0, [.ref (kq 1), .ref (kq 2)])), ((kq 1), .inl (cy 0, 16, .inl k_ahead)), ((kq 2), .inl (cy 0, 16, .inl k_behind)), ((hq 0), .inr (2, [.ref (hq 1), .ref (hq 2), .ref (hq 3), .ref (hq 4), .ref (hq 5), .ref (hq 6), .int h_size, .int h_ranks, .int h_lines])), ((hq 1), .inl (cy 2, 16, .inl h_alive)), ((hq 2), .inl (cy 0, 16, .inl h_late)), ((hq 3), .inl (cy 0, 16, .inl h_hbr)), ((hq 4), .inl (cy 0, 16, .inl h_rbh)), ((hq 5), .inl (cy 0, 256, .inl h_waits)), ((hq 6), .inl (cy 0, 256, .inl h_pers))]) (n := 1) (q0 := 0) X (c_X4_from l G cy fu pq p_packed p_size x6 zr8 hzr8) hH [3, 4] [0, 1, 2, 5, 6, 7, 8, 9, 10, 11] [0, 1, 2, 10, 11, 3, 4, 5, 6, 7, 8, 9] rfl rfl rfl rfl gX0_inStep_X4_from rfl ⟨rfl, rfl⟩ kX4_from ⟨Nat.le_of_ble_eq_true rfl, Nat.le_of_ble_eq_true rfl⟩ rfl rfl rfl rfl rfl hl.1 (Nat.le_of_ble_eq_true rfl) ⟨Nat.le_of_ble_eq_true rfl, Nat.le_of_ble_eq_true rfl⟩ dX0_inStep_38 (fun H locs hH => ?_)
    refine lv_aload_n (pc := 41) hx hb dX0_inStep_41 rfl (lv_at hl 1 rfl) ?_
    refine lv_iload (pc := 42) hx hb dX0_inStep_42 (lv_at hl 5 rfl) ?_
    obtain ⟨zr9, hzr9, h⟩ := zb h
    refine zcV (pc := 44) (As := [.int x6]) (rest := [.int zr8, .ref (hq 0), .int x4]) (st1 := [.int zr9, .int zr8, .ref (hq 0), .int x4]) (ws' := wK cy kq k_ahead k_behind ++ wP cy pq p_packed p_size ++ wH cy hq h_alive h_late h_hbr h_rbh h_waits h_pers h_size h_ranks h_lines) (wr := [((kq 0), .inr (0, [.ref (kq 1), .ref (kq 2)])), ((kq 1), .inl (cy 0, 16, .inl k_ahead)), ((kq 2), .inl (cy 0, 16, .inl k_behind)), ((hq 0), .inr (2, [.ref (hq 1), .ref (hq 2), .ref (hq 3), .ref (hq 4), .ref (hq 5), .ref (hq 6), .int h_size, .int h_ranks, .int h_lines])), ((hq 1), .inl (cy 2, 16, .inl h_alive)), ((hq 2), .inl (cy 0, 16, .inl h_late)), ((hq 3), .inl (cy 0, 16, .inl h_hbr)), ((hq 4), .inl (cy 0, 16, .inl h_rbh)), ((hq 5), .inl (cy 0, 256, .inl h_waits)), ((hq 6), .inl (cy 0, 256, .inl h_pers))]) (n := 1) (q0 := 0) X (c_X4_to l G cy fu pq p_packed p_size x6 zr9 hzr9) hH [3, 4] [0, 1, 2, 5, 6, 7, 8, 9, 10, 11] [0, 1, 2, 10, 11, 3, 4, 5, 6, 7, 8, 9] rfl rfl rfl rfl gX0_inStep_X4_to rfl ⟨rfl, rfl⟩ kX4_to ⟨Nat.le_of_ble_eq_true rfl, Nat.le_of_ble_eq_true rfl⟩ rfl rfl rfl rfl rfl hl.1 (Nat.le_of_ble_eq_true rfl) ⟨Nat.le_of_ble_eq_true rfl, Nat.le_of_ble_eq_true rfl⟩ dX0_inStep_44 (fun H locs hH => ?_)
    refine lv_iload (pc := 47) hx hb dX0_inStep_47 (lv_at hl 0 rfl) ?_
    obtain ⟨zr10, hzr10, h⟩ := zb h
    refine zcV (pc := 49) (As := [.int zr8, .int zr9, .int (x5 + 1)]) (rest := [.int x4]) (st1 := [.int zr10, .int x4]) (ws' := wK cy kq k_ahead k_behind ++ wP cy pq p_packed p_size ++ wH cy hq h_alive h_late h_hbr h_rbh h_waits h_pers h_size h_ranks h_lines) (wr := [((kq 0), .inr (0, [.ref (kq 1), .ref (kq 2)])), ((kq 1), .inl (cy 0, 16, .inl k_ahead)), ((kq 2), .inl (cy 0, 16, .inl k_behind)), ((pq 0), .inr (3, [.ref (pq 1), .int p_size])), ((pq 1), .inl (cy 0, 1200, .inl p_packed))]) (n := 3) (q0 := 0) X (c_X3_letterTicks l G cy fu hq h_alive h_late h_hbr h_rbh h_waits h_pers h_size h_ranks h_lines zr8 zr9 (x5 + 1) zr10 hzr10) hH [5, 6, 7, 8, 9, 10, 11] [0, 1, 2, 3, 4] [0, 1, 2, 3, 4, 5, 6, 7, 8, 9, 10, 11] rfl rfl rfl rfl gX0_inStep_X3_letterTicks rfl ⟨rfl, rfl⟩ kX3_letterTicks ⟨Nat.le_of_ble_eq_true rfl, Nat.le_of_ble_eq_true rfl⟩ rfl rfl rfl rfl rfl hl.1 (Nat.le_of_ble_eq_true rfl) ⟨Nat.le_of_ble_eq_true rfl, Nat.le_of_ble_eq_true rfl⟩ dX0_inStep_49 (fun H locs hH => ?_)
    refine va_mmax (pc := 52) hx hb (X.1.2.2.1.trans hl.1.symm) X.1.2.2.2.1 (X.1.2.2.2.2 _ (List.mem_of_getElem? (i := 1) rfl)) (X.1.2.2.2.2 _ (List.mem_of_getElem? (i := 2) rfl)) (X.1.2.2.2.2 _ (List.mem_of_getElem? (i := 3) rfl)) (X.1.2.2.2.2 _ (List.mem_of_getElem? (i := 4) rfl)) (Nat.le_of_ble_eq_true rfl) (Nat.le_of_ble_eq_true rfl) (Nat.le_of_ble_eq_true rfl) (Nat.le_of_ble_eq_true rfl) dX0_inStep_52 ?_
    refine lv_topi (fun za11 eza11 => ?_)
    have h := vn_s h za11 eza11
    refine lv_istore (pc := 55) (lv' := [(4, .int za11), (5, .int (x5 + 1)), (1, .ref (pq 0)), (2, .ref (hq 0)), (3, .int x3), (6, .int x6)]) hx hb dX0_inStep_55 hl (by decide) rfl (fun ls hl => ?_)
    refine lv_iconst (v := 0) (pc := 57) hx hb dX0_inStep_57 zk_c0 ?_
    refine lv_istore (pc := 58) (lv' := [(5, .int 0), (4, .int za11), (1, .ref (pq 0)), (2, .ref (hq 0)), (3, .int x3), (6, .int x6)]) hx hb dX0_inStep_58 hl (by decide) rfl (fun ls hl => ?_)
    refine lv_aload_n (pc := 60) hx hb dX0_inStep_60 rfl (lv_at hl 2 rfl) ?_
    refine lv_iload (pc := 61) hx hb dX0_inStep_61 (lv_at hl 5 rfl) ?_
    obtain ⟨zr12, hzr12, h⟩ := zb h
    refine zcV (pc := 63) (As := [.int x6]) (rest := []) (st1 := [.int zr12]) (ws' := wK cy kq k_ahead k_behind ++ wP cy pq p_packed p_size ++ wH cy hq h_alive h_late h_hbr h_rbh h_waits h_pers h_size h_ranks h_lines) (wr := [((kq 0), .inr (0, [.ref (kq 1), .ref (kq 2)])), ((kq 1), .inl (cy 0, 16, .inl k_ahead)), ((kq 2), .inl (cy 0, 16, .inl k_behind)), ((hq 0), .inr (2, [.ref (hq 1), .ref (hq 2), .ref (hq 3), .ref (hq 4), .ref (hq 5), .ref (hq 6), .int h_size, .int h_ranks, .int h_lines])), ((hq 1), .inl (cy 2, 16, .inl h_alive)), ((hq 2), .inl (cy 0, 16, .inl h_late)), ((hq 3), .inl (cy 0, 16, .inl h_hbr)), ((hq 4), .inl (cy 0, 16, .inl h_rbh)), ((hq 5), .inl (cy 0, 256, .inl h_waits)), ((hq 6), .inl (cy 0, 256, .inl h_pers))]) (n := 1) (q0 := 0) X (c_X4_endsStep l G cy fu pq p_packed p_size x6 zr12 hzr12) hH [3, 4] [0, 1, 2, 5, 6, 7, 8, 9, 10, 11] [0, 1, 2, 10, 11, 3, 4, 5, 6, 7, 8, 9] rfl rfl rfl rfl gX0_inStep_X4_endsStep rfl ⟨rfl, rfl⟩ kX4_endsStep ⟨Nat.le_of_ble_eq_true rfl, Nat.le_of_ble_eq_true rfl⟩ rfl rfl rfl rfl rfl hl.1 (Nat.le_of_ble_eq_true rfl) ⟨Nat.le_of_ble_eq_true rfl, Nat.le_of_ble_eq_true rfl⟩ dX0_inStep_63 (fun H locs hH => ?_)
    refine lv_if_eq (pc := 66) (tgt := 77) hx hb dX0_inStep_66 rfl (fun zc13 => ?_) (fun zc13 => ?_)
    · have h := zt zc13 h
      refine lv_iinc (pc := 77) (v := (x6 + 1)) (lv' := [(6, .int (x6 + 1)), (5, .int 0), (4, .int za11), (1, .ref (pq 0)), (2, .ref (hq 0)), (3, .int x3)]) hx hb dX0_inStep_77 hl (k := 5) rfl (by rw [zk_c1]) (by decide) rfl (fun ls hl => ?_)
      refine lv_goto (pc := 80) (tgt := 11) hx hb dX0_inStep_80 rfl ?_
      exact ih x3 za11 0 (x6 + 1) rr h _ _ _ hH (lv_sub hl [3, 4, 5, 2, 1, 0] rfl) K0
    have h := zf zc13 h
    refine lv_iload_n (pc := 69) hx hb dX0_inStep_69 rfl (lv_at hl 4 rfl) ?_
    refine lv_iload (pc := 70) hx hb dX0_inStep_70 (lv_at hl 1 rfl) ?_
    refine lv_iadd (pc := 72) hx hb dX0_inStep_72 ?_
    refine lv_topi (fun za14 eza14 => ?_)
    have h := vn_s h za14 eza14
    refine lv_istore_n (pc := 73) (lv' := [(3, .int za14), (5, .int 0), (4, .int za11), (1, .ref (pq 0)), (2, .ref (hq 0)), (6, .int x6)]) hx hb dX0_inStep_73 rfl hl (by decide) rfl (fun ls hl => ?_)
    refine lv_iconst (v := 0) (pc := 74) hx hb dX0_inStep_74 zk_c0 ?_
    refine lv_istore (pc := 75) (lv' := [(4, .int 0), (3, .int za14), (5, .int 0), (1, .ref (pq 0)), (2, .ref (hq 0)), (6, .int x6)]) hx hb dX0_inStep_75 hl (by decide) rfl (fun ls hl => ?_)
    refine lv_iinc (pc := 77) (v := (x6 + 1)) (lv' := [(6, .int (x6 + 1)), (4, .int 0), (3, .int za14), (5, .int 0), (1, .ref (pq 0)), (2, .ref (hq 0))]) hx hb dX0_inStep_77 hl (k := 5) rfl (by rw [zk_c1]) (by decide) rfl (fun ls hl => ?_)
    refine lv_goto (pc := 80) (tgt := 11) hx hb dX0_inStep_80 rfl ?_
    exact ih za14 0 0 (x6 + 1) rr h _ _ _ hH (lv_sub hl [4, 5, 2, 1, 3, 0] rfl) K0
set_option maxHeartbeats 4000000 in
set_option maxRecDepth 100000 in
theorem c_X0_inStep (l : Launch) (G : va_G) (cy : Nat → ClassId) (fu : Nat) (kq : Nat → Nat) (pq : Nat → Nat) (hq : Nat → Nat) (h_alive : Nat → Int32) (h_late : Nat → Int32) (h_hbr : Nat → Int32) (h_rbh : Nat → Int32) (h_waits : Nat → Int32) (h_pers : Nat → Int32) (h_size : Int32) (h_ranks : Int32) (h_lines : Int32) (p_packed : Nat → Int32) (p_size : Int32) (k_ahead : Nat → Int32) (k_behind : Nat → Int32)  (rr : Int32) (h : f_X0_inStep fu h_waits h_pers p_packed p_size = some rr) : zM l G cy yX0_inStep wsX0_inStep (zR 3 64) [.ref (kq 0), .ref (pq 0), .ref (hq 0)] (wK cy kq k_ahead k_behind ++ wP cy pq p_packed p_size ++ wH cy hq h_alive h_late h_hbr h_rbh h_waits h_pers h_size h_ranks h_lines) (wK cy kq k_ahead k_behind ++ wP cy pq p_packed p_size ++ wH cy hq h_alive h_late h_hbr h_rbh h_waits h_pers h_size h_ranks h_lines) (some (.int rr)) := by
  refine zM.mk (cc := cX0_inStep) (nL := 7) (ret := (some .int)) (by decide) rfl (Nat.le_of_ble_eq_true rfl) ?_
  intro p e s m below meth c A ls X hr hH hl
  replace X : zX p s m [.ref (kq 0), .ref (pq 0), .ref (hq 0)].toArray meth c RX0 cX0_inStep 7 wsX0_inStep G cy A := X
  have hx := X.1.1
  have hb := X.1.2.1
  replace hl : lv_has ls 7 [(0, .ref (kq 0)), (1, .ref (pq 0)), (2, .ref (hq 0))] := hl
  dsimp only [f_X0_inStep] at h
  refine lv_iconst (v := 0) (pc := 0) hx hb dX0_inStep_0 zk_c0 ?_
  refine lv_istore_n (pc := 1) (lv' := [(3, .int 0), (0, .ref (kq 0)), (1, .ref (pq 0)), (2, .ref (hq 0))]) hx hb dX0_inStep_1 rfl hl (by decide) rfl (fun ls hl => ?_)
  refine lv_iconst (v := 0) (pc := 2) hx hb dX0_inStep_2 zk_c0 ?_
  refine lv_istore (pc := 3) (lv' := [(4, .int 0), (3, .int 0), (0, .ref (kq 0)), (1, .ref (pq 0)), (2, .ref (hq 0))]) hx hb dX0_inStep_3 hl (by decide) rfl (fun ls hl => ?_)
  refine lv_iconst (v := 0) (pc := 5) hx hb dX0_inStep_5 zk_c0 ?_
  refine lv_istore (pc := 6) (lv' := [(5, .int 0), (4, .int 0), (3, .int 0), (0, .ref (kq 0)), (1, .ref (pq 0)), (2, .ref (hq 0))]) hx hb dX0_inStep_6 hl (by decide) rfl (fun ls hl => ?_)
  refine lv_iconst (v := 0) (pc := 8) hx hb dX0_inStep_8 zk_c0 ?_
  refine lv_istore (pc := 9) (lv' := [(6, .int 0), (5, .int 0), (4, .int 0), (3, .int 0), (0, .ref (kq 0)), (1, .ref (pq 0)), (2, .ref (hq 0))]) hx hb dX0_inStep_9 hl (by decide) rfl (fun ls hl => ?_)
  obtain ⟨zr1, hzr1, h⟩ := zb h
  refine w_X0_inStep_l11 G cy fu kq pq hq h_alive h_late h_hbr h_rbh h_waits h_pers h_size h_ranks h_lines p_packed p_size k_ahead k_behind X fu 0 0 0 0 zr1 hzr1 _ _ _ hH (lv_sub hl [5, 6, 3, 2, 1, 0] rfl) (fun H locs ls hH hl => ?_)
  refine lv_iload_n (pc := 83) hx hb dX0_inStep_83 rfl (lv_at hl 0 rfl) ?_
  obtain rfl := Option.some.inj h
  exact z_iret X hr hH dX0_inStep_84
set_option maxHeartbeats 4000000 in
set_option maxRecDepth 100000 in
theorem c_X0_takeLetter (l : Launch) (G : va_G) (cy : Nat → ClassId) (fu : Nat) (kq : Nat → Nat) (hq : Nat → Nat) (h_alive : Nat → Int32) (h_late : Nat → Int32) (h_hbr : Nat → Int32) (h_rbh : Nat → Int32) (h_waits : Nat → Int32) (h_pers : Nat → Int32) (h_size : Int32) (h_ranks : Int32) (h_lines : Int32) (k_ahead : Nat → Int32) (k_behind : Nat → Int32) (x1 : Int32) (x2 : Int32) (x4 : Int32) (rr : (Nat → Int32)) (h : f_X0_takeLetter fu h_waits h_pers h_size k_ahead k_behind x1 x2 x4 = some rr) : zM l G cy yX0_takeLetter wsX0_takeLetter (zR 2 64) [.ref (kq 0), .int x1, .int x2, .ref (hq 0), .int x4] (wK cy kq k_ahead k_behind ++ wH cy hq h_alive h_late h_hbr h_rbh h_waits h_pers h_size h_ranks h_lines) (wK cy kq k_ahead rr ++ wH cy hq h_alive h_late h_hbr h_rbh h_waits h_pers h_size h_ranks h_lines) none := by
  refine zM.mk (cc := cX0_takeLetter) (nL := 6) (ret := none) (by decide) rfl (Nat.le_of_ble_eq_true rfl) ?_
  intro p e s m below meth c A ls X hr hH hl
  replace X : zX p s m [.ref (kq 0), .int x1, .int x2, .ref (hq 0), .int x4].toArray meth c RX0 cX0_takeLetter 6 wsX0_takeLetter G cy A := X
  have hx := X.1.1
  have hb := X.1.2.1
  replace hl : lv_has ls 6 [(0, .ref (kq 0)), (1, .int x1), (2, .int x2), (3, .ref (hq 0)), (4, .int x4)] := hl
  dsimp only [f_X0_takeLetter] at h
  refine lv_aload_n (pc := 0) hx hb dX0_takeLetter_0 rfl (lv_at hl 3 rfl) ?_
  refine lv_iload_n (pc := 1) hx hb dX0_takeLetter_1 rfl (lv_at hl 1 rfl) ?_
  refine lv_iload_n (pc := 2) hx hb dX0_takeLetter_2 rfl (lv_at hl 2 rfl) ?_
  obtain ⟨zr1, hzr1, h⟩ := zb h
  refine zcV (pc := 3) (As := [.int x1, .int x2]) (rest := []) (st1 := [.int zr1]) (ws' := wK cy kq k_ahead k_behind ++ wH cy hq h_alive h_late h_hbr h_rbh h_waits h_pers h_size h_ranks h_lines) (wr := [((kq 0), .inr (0, [.ref (kq 1), .ref (kq 2)])), ((kq 1), .inl (cy 0, 16, .inl k_ahead)), ((kq 2), .inl (cy 0, 16, .inl k_behind))]) (n := 2) (q0 := 0) X (c_X3_isPair l G cy fu hq h_alive h_late h_hbr h_rbh h_waits h_pers h_size h_ranks h_lines x1 x2 zr1 hzr1) hH [3, 4, 5, 6, 7, 8, 9] [0, 1, 2] [0, 1, 2, 3, 4, 5, 6, 7, 8, 9] rfl rfl rfl rfl gX0_takeLetter_X3_isPair rfl ⟨rfl, rfl⟩ kX3_isPair ⟨Nat.le_of_ble_eq_true rfl, Nat.le_of_ble_eq_true rfl⟩ rfl rfl rfl rfl rfl hl.1 (Nat.le_of_ble_eq_true rfl) ⟨Nat.le_of_ble_eq_true rfl, Nat.le_of_ble_eq_true rfl⟩ dX0_takeLetter_3 (fun H locs hH => ?_)
  refine lv_if_ne (pc := 6) (tgt := 10) hx hb dX0_takeLetter_6 rfl (fun zc2 => ?_) (fun zc2 => ?_)
  · have h := zf zc2 h
    refine lv_aload_n (pc := 10) hx hb dX0_takeLetter_10 rfl (lv_at hl 0 rfl) ?_
    refine z_get (pc := 11) (v := .ref (kq 1)) X iX0_takeLetter_X0 hH 0 rfl rfl 0 rfl (List.mem_of_getElem? (i := 1) rfl) rfl dX0_takeLetter_11 ?_
    refine lv_iload_n (pc := 14) hx hb dX0_takeLetter_14 rfl (lv_at hl 1 rfl) ?_
    obtain ⟨hin, h⟩ := zg h
    refine z_iald (pc := 15) X hH 1 rfl hin dX0_takeLetter_15 ?_
    refine lv_aload_n (pc := 16) hx hb dX0_takeLetter_16 rfl (lv_at hl 0 rfl) ?_
    refine z_get (pc := 17) (v := .ref (kq 1)) X iX0_takeLetter_X0 hH 0 rfl rfl 0 rfl (List.mem_of_getElem? (i := 1) rfl) rfl dX0_takeLetter_17 ?_
    refine lv_iload_n (pc := 20) hx hb dX0_takeLetter_20 rfl (lv_at hl 2 rfl) ?_
    obtain ⟨hin, h⟩ := zg h
    refine z_iald (pc := 21) X hH 1 rfl hin dX0_takeLetter_21 ?_
    refine va_mmax (pc := 22) hx hb (X.1.2.2.1.trans hl.1.symm) X.1.2.2.2.1 (X.1.2.2.2.2 _ (List.mem_of_getElem? (i := 2) rfl)) (X.1.2.2.2.2 _ (List.mem_of_getElem? (i := 3) rfl)) (X.1.2.2.2.2 _ (List.mem_of_getElem? (i := 4) rfl)) (X.1.2.2.2.2 _ (List.mem_of_getElem? (i := 5) rfl)) (Nat.le_of_ble_eq_true rfl) (Nat.le_of_ble_eq_true rfl) (Nat.le_of_ble_eq_true rfl) (Nat.le_of_ble_eq_true rfl) dX0_takeLetter_22 ?_
    refine lv_aload_n (pc := 25) hx hb dX0_takeLetter_25 rfl (lv_at hl 3 rfl) ?_
    refine lv_iload_n (pc := 26) hx hb dX0_takeLetter_26 rfl (lv_at hl 1 rfl) ?_
    refine lv_iload_n (pc := 27) hx hb dX0_takeLetter_27 rfl (lv_at hl 2 rfl) ?_
    refine lv_iload (pc := 28) hx hb dX0_takeLetter_28 (lv_at hl 4 rfl) ?_
    obtain ⟨zr3, hzr3, h⟩ := zb h
    refine zcV (pc := 30) (As := [.int x1, .int x2, .int x4]) (rest := [.int (if (k_ahead (x1).toNatClampNeg) < (k_ahead (x2).toNatClampNeg) then (k_ahead (x2).toNatClampNeg) else (k_ahead (x1).toNatClampNeg))]) (st1 := [.int zr3, .int (if (k_ahead (x1).toNatClampNeg) < (k_ahead (x2).toNatClampNeg) then (k_ahead (x2).toNatClampNeg) else (k_ahead (x1).toNatClampNeg))]) (ws' := wK cy kq k_ahead k_behind ++ wH cy hq h_alive h_late h_hbr h_rbh h_waits h_pers h_size h_ranks h_lines) (wr := [((kq 0), .inr (0, [.ref (kq 1), .ref (kq 2)])), ((kq 1), .inl (cy 0, 16, .inl k_ahead)), ((kq 2), .inl (cy 0, 16, .inl k_behind))]) (n := 3) (q0 := 0) X (c_X3_letterTicks l G cy fu hq h_alive h_late h_hbr h_rbh h_waits h_pers h_size h_ranks h_lines x1 x2 x4 zr3 hzr3) hH [3, 4, 5, 6, 7, 8, 9] [0, 1, 2] [0, 1, 2, 3, 4, 5, 6, 7, 8, 9] rfl rfl rfl rfl gX0_takeLetter_X3_letterTicks rfl ⟨rfl, rfl⟩ kX3_letterTicks ⟨Nat.le_of_ble_eq_true rfl, Nat.le_of_ble_eq_true rfl⟩ rfl rfl rfl rfl rfl hl.1 (Nat.le_of_ble_eq_true rfl) ⟨Nat.le_of_ble_eq_true rfl, Nat.le_of_ble_eq_true rfl⟩ dX0_takeLetter_30 (fun H locs hH => ?_)
    refine lv_iadd (pc := 33) hx hb dX0_takeLetter_33 ?_
    refine lv_topi (fun za4 eza4 => ?_)
    have h := vn_s h za4 eza4
    refine lv_istore (pc := 34) (lv' := [(5, .int za4), (0, .ref (kq 0)), (1, .int x1), (2, .int x2), (3, .ref (hq 0)), (4, .int x4)]) hx hb dX0_takeLetter_34 hl (by decide) rfl (fun ls hl => ?_)
    refine lv_aload_n (pc := 36) hx hb dX0_takeLetter_36 rfl (lv_at hl 1 rfl) ?_
    refine z_get (pc := 37) (v := .ref (kq 2)) X iX0_takeLetter_X0 hH 0 rfl rfl 1 rfl (List.mem_of_getElem? (i := 6) rfl) rfl dX0_takeLetter_37 ?_
    refine lv_iload_n (pc := 40) hx hb dX0_takeLetter_40 rfl (lv_at hl 2 rfl) ?_
    refine lv_aload_n (pc := 41) hx hb dX0_takeLetter_41 rfl (lv_at hl 1 rfl) ?_
    refine z_get (pc := 42) (v := .ref (kq 2)) X iX0_takeLetter_X0 hH 0 rfl rfl 1 rfl (List.mem_of_getElem? (i := 6) rfl) rfl dX0_takeLetter_42 ?_
    refine lv_iload_n (pc := 45) hx hb dX0_takeLetter_45 rfl (lv_at hl 2 rfl) ?_
    obtain ⟨hin, h⟩ := zg h
    refine z_iald (pc := 46) X hH 2 rfl hin dX0_takeLetter_46 ?_
    refine lv_iload (pc := 47) hx hb dX0_takeLetter_47 (lv_at hl 0 rfl) ?_
    refine va_mmax (pc := 49) hx hb (X.1.2.2.1.trans hl.1.symm) X.1.2.2.2.1 (X.1.2.2.2.2 _ (List.mem_of_getElem? (i := 2) rfl)) (X.1.2.2.2.2 _ (List.mem_of_getElem? (i := 3) rfl)) (X.1.2.2.2.2 _ (List.mem_of_getElem? (i := 4) rfl)) (X.1.2.2.2.2 _ (List.mem_of_getElem? (i := 5) rfl)) (Nat.le_of_ble_eq_true rfl) (Nat.le_of_ble_eq_true rfl) (Nat.le_of_ble_eq_true rfl) (Nat.le_of_ble_eq_true rfl) dX0_takeLetter_49 ?_
    obtain ⟨hin, h⟩ := zg h
    refine z_iast (pc := 52) (ws' := wK cy kq k_ahead (upd k_behind (x1).toNatClampNeg (if (k_behind (x1).toNatClampNeg) < za4 then za4 else (k_behind (x1).toNatClampNeg))) ++ wH cy hq h_alive h_late h_hbr h_rbh h_waits h_pers h_size h_ranks h_lines) X hH 2 rfl hin rfl dX0_takeLetter_52 (fun H locs hH => ?_)
    refine lv_aload_n (pc := 53) hx hb dX0_takeLetter_53 rfl (lv_at hl 1 rfl) ?_
    refine z_get (pc := 54) (v := .ref (kq 2)) X iX0_takeLetter_X0 hH 0 rfl rfl 1 rfl (List.mem_of_getElem? (i := 6) rfl) rfl dX0_takeLetter_54 ?_
    refine lv_iload_n (pc := 57) hx hb dX0_takeLetter_57 rfl (lv_at hl 3 rfl) ?_
    refine lv_aload_n (pc := 58) hx hb dX0_takeLetter_58 rfl (lv_at hl 1 rfl) ?_
    refine z_get (pc := 59) (v := .ref (kq 2)) X iX0_takeLetter_X0 hH 0 rfl rfl 1 rfl (List.mem_of_getElem? (i := 6) rfl) rfl dX0_takeLetter_59 ?_
    refine lv_iload_n (pc := 62) hx hb dX0_takeLetter_62 rfl (lv_at hl 3 rfl) ?_
    obtain ⟨hin, h⟩ := zg h
    refine z_iald (pc := 63) X hH 2 rfl hin dX0_takeLetter_63 ?_
    refine lv_iload (pc := 64) hx hb dX0_takeLetter_64 (lv_at hl 0 rfl) ?_
    refine va_mmax (pc := 66) hx hb (X.1.2.2.1.trans hl.1.symm) X.1.2.2.2.1 (X.1.2.2.2.2 _ (List.mem_of_getElem? (i := 2) rfl)) (X.1.2.2.2.2 _ (List.mem_of_getElem? (i := 3) rfl)) (X.1.2.2.2.2 _ (List.mem_of_getElem? (i := 4) rfl)) (X.1.2.2.2.2 _ (List.mem_of_getElem? (i := 5) rfl)) (Nat.le_of_ble_eq_true rfl) (Nat.le_of_ble_eq_true rfl) (Nat.le_of_ble_eq_true rfl) (Nat.le_of_ble_eq_true rfl) dX0_takeLetter_66 ?_
    obtain ⟨hin, h⟩ := zg h
    refine z_iast (pc := 69) (ws' := wK cy kq k_ahead (upd (upd k_behind (x1).toNatClampNeg (if (k_behind (x1).toNatClampNeg) < za4 then za4 else (k_behind (x1).toNatClampNeg))) (x2).toNatClampNeg (if ((upd k_behind (x1).toNatClampNeg (if (k_behind (x1).toNatClampNeg) < za4 then za4 else (k_behind (x1).toNatClampNeg))) (x2).toNatClampNeg) < za4 then za4 else ((upd k_behind (x1).toNatClampNeg (if (k_behind (x1).toNatClampNeg) < za4 then za4 else (k_behind (x1).toNatClampNeg))) (x2).toNatClampNeg))) ++ wH cy hq h_alive h_late h_hbr h_rbh h_waits h_pers h_size h_ranks h_lines) X hH 2 rfl hin rfl dX0_takeLetter_69 (fun H locs hH => ?_)
    obtain rfl := Option.some.inj h
    exact z_vret X hr hH dX0_takeLetter_70
  have h := zt zc2 h
  obtain rfl := Option.some.inj h
  exact z_vret X hr hH dX0_takeLetter_9
set_option maxHeartbeats 4000000 in
set_option maxRecDepth 100000 in
theorem w_X0_endOf_l3 {p : Program} {l : Launch} {e : Env} {s : State} {m : MethodId} {args : Array Value} {below : List Frame} {meth : Method} {c : Code} {A : Nat → Prop} {Q : State → Prop} (G : va_G) (cy : Nat → ClassId) (fu : Nat) (kq : Nat → Nat) (pq : Nat → Nat) (hq : Nat → Nat) (h_alive : Nat → Int32) (h_late : Nat → Int32) (h_hbr : Nat → Int32) (h_rbh : Nat → Int32) (h_waits : Nat → Int32) (h_pers : Nat → Int32) (h_size : Int32) (h_ranks : Int32) (h_lines : Int32) (p_packed : Nat → Int32) (p_size : Int32) (x1 : Int32) (X : zX p s m args meth c RX0 cX0_endOf 6 wsX0_endOf G cy A) : ∀ (n : Nat) (x4 : Int32) (k_ahead : Nat → Int32) (k_behind : Nat → Int32) (rr : (Nat → Int32) × (Nat → Int32)) (h : lp (f_X0_endOf_l3 fu h_late h_size) n (x4, k_ahead, k_behind) = some rr) (H : Heap) (locs : List Loc) (ls : Array Slot) (hH : zH G A s.heap (wK cy kq k_ahead k_behind ++ wP cy pq p_packed p_size ++ wH cy hq h_alive h_late h_hbr h_rbh h_waits h_pers h_size h_ranks h_lines) H locs) (hl : lv_has ls 6 [(0, .ref (kq 0)), (1, .int x1), (2, .ref (pq 0)), (3, .ref (hq 0)), (4, .int x4)]) (K0 : ∀ (H : Heap) (locs : List Loc) (ls : Array Slot), zH G A s.heap (wK cy kq rr.1 rr.2 ++ wP cy pq p_packed p_size ++ wH cy hq h_alive h_late h_hbr h_rbh h_waits h_pers h_size h_ranks h_lines) H locs → lv_has ls 6 [(0, .ref (kq 0)), (1, .int x1), (2, .ref (pq 0)), (3, .ref (hq 0))] → W p l e (zR 3 89) s m args below meth c H locs 0 0 Q (F0 m 43 ls [])), W p l e (zR 3 89) s m args below meth c H locs 0 0 Q (F0 m 3 ls []) := by
  have hx := X.1.1
  have hb := X.1.2.1
  intro n
  induction n with
  | zero => intro x4 k_ahead k_behind rr h H locs ls hH hl K0; cases h
  | succ n ih =>
    intro x4 k_ahead k_behind rr h H locs ls hH hl K0
    replace h : f_X0_endOf_l3 fu h_late h_size (lp (f_X0_endOf_l3 fu h_late h_size) n) (x4, k_ahead, k_behind) = some rr := h
    dsimp only [f_X0_endOf_l3] at h
    refine lv_iload (pc := 3) hx hb dX0_endOf_3 (lv_at hl 4 rfl) ?_
    refine lv_bipush (v := 16) (pc := 5) hx hb dX0_endOf_5 zk_b16 ?_
    refine lv_icmp_ge (pc := 7) (tgt := 43) hx hb dX0_endOf_7 rfl (fun zc1 => ?_) (fun zc1 => ?_)
    · have h := zt zc1 h
      obtain rfl := Option.some.inj h
      exact K0 _ _ _ hH (lv_sub hl [0, 1, 2, 3] rfl)
    have h := zf zc1 h
    refine lv_aload_n (pc := 10) hx hb dX0_endOf_10 rfl (lv_at hl 0 rfl) ?_
    refine z_get (pc := 11) (v := .ref (kq 1)) X iX0_endOf_X0 hH 0 rfl rfl 0 rfl (List.mem_of_getElem? (i := 1) rfl) rfl dX0_endOf_11 ?_
    refine lv_iload (pc := 14) hx hb dX0_endOf_14 (lv_at hl 4 rfl) ?_
    refine lv_aload_n (pc := 16) hx hb dX0_endOf_16 rfl (lv_at hl 3 rfl) ?_
    refine lv_iload (pc := 17) hx hb dX0_endOf_17 (lv_at hl 4 rfl) ?_
    obtain ⟨zr2, hzr2, h⟩ := zb h
    refine zcV (pc := 19) (As := [.int x4]) (rest := [.int x4, .ref (kq 1)]) (st1 := [.int zr2, .int x4, .ref (kq 1)]) (ws' := wK cy kq k_ahead k_behind ++ wP cy pq p_packed p_size ++ wH cy hq h_alive h_late h_hbr h_rbh h_waits h_pers h_size h_ranks h_lines) (wr := [((kq 0), .inr (0, [.ref (kq 1), .ref (kq 2)])), ((kq 1), .inl (cy 0, 16, .inl k_ahead)), ((kq 2), .inl (cy 0, 16, .inl k_behind)), ((pq 0), .inr (3, [.ref (pq 1), .int p_size])), ((pq 1), .inl (cy 0, 1200, .inl p_packed))]) (n := 1) (q0 := 0) X (c_X3_latenessOf l G cy fu hq h_alive h_late h_hbr h_rbh h_waits h_pers h_size h_ranks h_lines x4 zr2 hzr2) hH [5, 6, 7, 8, 9, 10, 11] [0, 1, 2, 3, 4] [0, 1, 2, 3, 4, 5, 6, 7, 8, 9, 10, 11] rfl rfl rfl rfl gX0_endOf_X3_latenessOf rfl ⟨rfl, rfl⟩ kX3_latenessOf ⟨Nat.le_of_ble_eq_true rfl, Nat.le_of_ble_eq_true rfl⟩ rfl rfl rfl rfl rfl hl.1 (Nat.le_of_ble_eq_true rfl) ⟨Nat.le_of_ble_eq_true rfl, Nat.le_of_ble_eq_true rfl⟩ dX0_endOf_19 (fun H locs hH => ?_)
    obtain ⟨hin, h⟩ := zg h
    refine z_iast (pc := 22) (ws' := wK cy kq (upd k_ahead (x4).toNatClampNeg zr2) k_behind ++ wP cy pq p_packed p_size ++ wH cy hq h_alive h_late h_hbr h_rbh h_waits h_pers h_size h_ranks h_lines) X hH 1 rfl hin rfl dX0_endOf_22 (fun H locs hH => ?_)
    refine lv_aload_n (pc := 23) hx hb dX0_endOf_23 rfl (lv_at hl 0 rfl) ?_
    refine z_get (pc := 24) (v := .ref (kq 2)) X iX0_endOf_X0 hH 0 rfl rfl 1 rfl (List.mem_of_getElem? (i := 2) rfl) rfl dX0_endOf_24 ?_
    refine lv_iload (pc := 27) hx hb dX0_endOf_27 (lv_at hl 4 rfl) ?_
    refine lv_aload_n (pc := 29) hx hb dX0_endOf_29 rfl (lv_at hl 0 rfl) ?_
    refine z_get (pc := 30) (v := .ref (kq 1)) X iX0_endOf_X0 hH 0 rfl rfl 0 rfl (List.mem_of_getElem? (i := 1) rfl) rfl dX0_endOf_30 ?_
    refine lv_iload (pc := 33) hx hb dX0_endOf_33 (lv_at hl 4 rfl) ?_
    obtain ⟨hin, h⟩ := zg h
    refine z_iald (pc := 35) X hH 1 rfl hin dX0_endOf_35 ?_
    obtain ⟨hin, h⟩ := zg h
    refine z_iast (pc := 36) (ws' := wK cy kq (upd k_ahead (x4).toNatClampNeg zr2) (upd k_behind (x4).toNatClampNeg ((upd k_ahead (x4).toNatClampNeg zr2) (x4).toNatClampNeg)) ++ wP cy pq p_packed p_size ++ wH cy hq h_alive h_late h_hbr h_rbh h_waits h_pers h_size h_ranks h_lines) X hH 2 rfl hin rfl dX0_endOf_36 (fun H locs hH => ?_)
    refine lv_iinc (pc := 37) (v := (x4 + 1)) (lv' := [(4, .int (x4 + 1)), (0, .ref (kq 0)), (1, .int x1), (2, .ref (pq 0)), (3, .ref (hq 0))]) hx hb dX0_endOf_37 hl (k := 4) rfl (by rw [zk_c1]) (by decide) rfl (fun ls hl => ?_)
    refine lv_goto (pc := 40) (tgt := 3) hx hb dX0_endOf_40 rfl ?_
    exact ih (x4 + 1) (upd k_ahead (x4).toNatClampNeg zr2) (upd k_behind (x4).toNatClampNeg ((upd k_ahead (x4).toNatClampNeg zr2) (x4).toNatClampNeg)) rr h _ _ _ hH (lv_sub hl [1, 2, 3, 4, 0] rfl) K0
set_option maxHeartbeats 4000000 in
set_option maxRecDepth 100000 in
theorem w_X0_endOf_l49 {p : Program} {l : Launch} {e : Env} {s : State} {m : MethodId} {args : Array Value} {below : List Frame} {meth : Method} {c : Code} {A : Nat → Prop} {Q : State → Prop} (G : va_G) (cy : Nat → ClassId) (fu : Nat) (kq : Nat → Nat) (pq : Nat → Nat) (hq : Nat → Nat) (h_alive : Nat → Int32) (h_late : Nat → Int32) (h_hbr : Nat → Int32) (h_rbh : Nat → Int32) (h_waits : Nat → Int32) (h_pers : Nat → Int32) (h_size : Int32) (h_ranks : Int32) (h_lines : Int32) (p_packed : Nat → Int32) (p_size : Int32) (x1 : Int32) (X : zX p s m args meth c RX0 cX0_endOf 6 wsX0_endOf G cy A) : ∀ (n : Nat) (x4 : Int32) (x5 : Int32) (k_ahead : Nat → Int32) (k_behind : Nat → Int32) (rr : (Nat → Int32) × (Nat → Int32)) (h : lp (f_X0_endOf_l49 fu h_waits h_pers h_size p_packed p_size) n (x4, x5, k_ahead, k_behind) = some rr) (H : Heap) (locs : List Loc) (ls : Array Slot) (hH : zH G A s.heap (wK cy kq k_ahead k_behind ++ wP cy pq p_packed p_size ++ wH cy hq h_alive h_late h_hbr h_rbh h_waits h_pers h_size h_ranks h_lines) H locs) (hl : lv_has ls 6 [(0, .ref (kq 0)), (1, .int x1), (2, .ref (pq 0)), (3, .ref (hq 0)), (4, .int x4), (5, .int x5)]) (K0 : ∀ (H : Heap) (locs : List Loc) (ls : Array Slot), zH G A s.heap (wK cy kq rr.1 rr.2 ++ wP cy pq p_packed p_size ++ wH cy hq h_alive h_late h_hbr h_rbh h_waits h_pers h_size h_ranks h_lines) H locs → lv_has ls 6 [(0, .ref (kq 0)), (1, .int x1)] → W p l e (zR 3 89) s m args below meth c H locs 0 0 Q (F0 m 122 ls [])), W p l e (zR 3 89) s m args below meth c H locs 0 0 Q (F0 m 49 ls []) := by
  have hx := X.1.1
  have hb := X.1.2.1
  intro n
  induction n with
  | zero => intro x4 x5 k_ahead k_behind rr h H locs ls hH hl K0; cases h
  | succ n ih =>
    intro x4 x5 k_ahead k_behind rr h H locs ls hH hl K0
    replace h : f_X0_endOf_l49 fu h_waits h_pers h_size p_packed p_size (lp (f_X0_endOf_l49 fu h_waits h_pers h_size p_packed p_size) n) (x4, x5, k_ahead, k_behind) = some rr := h
    dsimp only [f_X0_endOf_l49] at h
    refine lv_iload (pc := 49) hx hb dX0_endOf_49 (lv_at hl 5 rfl) ?_
    refine lv_aload_n (pc := 51) hx hb dX0_endOf_51 rfl (lv_at hl 2 rfl) ?_
    obtain ⟨zr1, hzr1, h⟩ := zb h
    refine zcV (pc := 52) (As := []) (rest := [.int x5]) (st1 := [.int zr1, .int x5]) (ws' := wK cy kq k_ahead k_behind ++ wP cy pq p_packed p_size ++ wH cy hq h_alive h_late h_hbr h_rbh h_waits h_pers h_size h_ranks h_lines) (wr := [((kq 0), .inr (0, [.ref (kq 1), .ref (kq 2)])), ((kq 1), .inl (cy 0, 16, .inl k_ahead)), ((kq 2), .inl (cy 0, 16, .inl k_behind)), ((hq 0), .inr (2, [.ref (hq 1), .ref (hq 2), .ref (hq 3), .ref (hq 4), .ref (hq 5), .ref (hq 6), .int h_size, .int h_ranks, .int h_lines])), ((hq 1), .inl (cy 2, 16, .inl h_alive)), ((hq 2), .inl (cy 0, 16, .inl h_late)), ((hq 3), .inl (cy 0, 16, .inl h_hbr)), ((hq 4), .inl (cy 0, 16, .inl h_rbh)), ((hq 5), .inl (cy 0, 256, .inl h_waits)), ((hq 6), .inl (cy 0, 256, .inl h_pers))]) (n := 0) (q0 := 0) X (c_X4_size l G cy fu pq p_packed p_size zr1 hzr1) hH [3, 4] [0, 1, 2, 5, 6, 7, 8, 9, 10, 11] [0, 1, 2, 10, 11, 3, 4, 5, 6, 7, 8, 9] rfl rfl rfl rfl gX0_endOf_X4_size rfl ⟨rfl, rfl⟩ kX4_size ⟨Nat.le_of_ble_eq_true rfl, Nat.le_of_ble_eq_true rfl⟩ rfl rfl rfl rfl rfl hl.1 (Nat.le_of_ble_eq_true rfl) ⟨Nat.le_of_ble_eq_true rfl, Nat.le_of_ble_eq_true rfl⟩ dX0_endOf_52 (fun H locs hH => ?_)
    refine lv_icmp_ge (pc := 55) (tgt := 122) hx hb dX0_endOf_55 rfl (fun zc2 => ?_) (fun zc2 => ?_)
    · have h := zt zc2 h
      obtain rfl := Option.some.inj h
      exact K0 _ _ _ hH (lv_sub hl [0, 1] rfl)
    have h := zf zc2 h
    refine lv_iinc (pc := 58) (v := (x4 + 1)) (lv' := [(4, .int (x4 + 1)), (0, .ref (kq 0)), (1, .int x1), (2, .ref (pq 0)), (3, .ref (hq 0)), (5, .int x5)]) hx hb dX0_endOf_58 hl (k := 4) rfl (by rw [zk_c1]) (by decide) rfl (fun ls hl => ?_)
    refine lv_aload_n (pc := 61) hx hb dX0_endOf_61 rfl (lv_at hl 3 rfl) ?_
    refine lv_iload (pc := 62) hx hb dX0_endOf_62 (lv_at hl 5 rfl) ?_
    obtain ⟨zr3, hzr3, h⟩ := zb h
    refine zcV (pc := 64) (As := [.int x5]) (rest := []) (st1 := [.int zr3]) (ws' := wK cy kq k_ahead k_behind ++ wP cy pq p_packed p_size ++ wH cy hq h_alive h_late h_hbr h_rbh h_waits h_pers h_size h_ranks h_lines) (wr := [((kq 0), .inr (0, [.ref (kq 1), .ref (kq 2)])), ((kq 1), .inl (cy 0, 16, .inl k_ahead)), ((kq 2), .inl (cy 0, 16, .inl k_behind)), ((hq 0), .inr (2, [.ref (hq 1), .ref (hq 2), .ref (hq 3), .ref (hq 4), .ref (hq 5), .ref (hq 6), .int h_size, .int h_ranks, .int h_lines])), ((hq 1), .inl (cy 2, 16, .inl h_alive)), ((hq 2), .inl (cy 0, 16, .inl h_late)), ((hq 3), .inl (cy 0, 16, .inl h_hbr)), ((hq 4), .inl (cy 0, 16, .inl h_rbh)), ((hq 5), .inl (cy 0, 256, .inl h_waits)), ((hq 6), .inl (cy 0, 256, .inl h_pers))]) (n := 1) (q0 := 0) X (c_X4_endsLetter l G cy fu pq p_packed p_size x5 zr3 hzr3) hH [3, 4] [0, 1, 2, 5, 6, 7, 8, 9, 10, 11] [0, 1, 2, 10, 11, 3, 4, 5, 6, 7, 8, 9] rfl rfl rfl rfl gX0_endOf_X4_endsLetter rfl ⟨rfl, rfl⟩ kX4_endsLetter ⟨Nat.le_of_ble_eq_true rfl, Nat.le_of_ble_eq_true rfl⟩ rfl rfl rfl rfl rfl hl.1 (Nat.le_of_ble_eq_true rfl) ⟨Nat.le_of_ble_eq_true rfl, Nat.le_of_ble_eq_true rfl⟩ dX0_endOf_64 (fun H locs hH => ?_)
    refine lv_if_eq (pc := 67) (tgt := 92) hx hb dX0_endOf_67 rfl (fun zc4 => ?_) (fun zc4 => ?_)
    · have h := zt zc4 h
      refine lv_aload_n (pc := 92) hx hb dX0_endOf_92 rfl (lv_at hl 3 rfl) ?_
      refine lv_iload (pc := 93) hx hb dX0_endOf_93 (lv_at hl 5 rfl) ?_
      obtain ⟨zr5, hzr5, h⟩ := zb h
      refine zcV (pc := 95) (As := [.int x5]) (rest := []) (st1 := [.int zr5]) (ws' := wK cy kq k_ahead k_behind ++ wP cy pq p_packed p_size ++ wH cy hq h_alive h_late h_hbr h_rbh h_waits h_pers h_size h_ranks h_lines) (wr := [((kq 0), .inr (0, [.ref (kq 1), .ref (kq 2)])), ((kq 1), .inl (cy 0, 16, .inl k_ahead)), ((kq 2), .inl (cy 0, 16, .inl k_behind)), ((hq 0), .inr (2, [.ref (hq 1), .ref (hq 2), .ref (hq 3), .ref (hq 4), .ref (hq 5), .ref (hq 6), .int h_size, .int h_ranks, .int h_lines])), ((hq 1), .inl (cy 2, 16, .inl h_alive)), ((hq 2), .inl (cy 0, 16, .inl h_late)), ((hq 3), .inl (cy 0, 16, .inl h_hbr)), ((hq 4), .inl (cy 0, 16, .inl h_rbh)), ((hq 5), .inl (cy 0, 256, .inl h_waits)), ((hq 6), .inl (cy 0, 256, .inl h_pers))]) (n := 1) (q0 := 0) X (c_X4_endsStep l G cy fu pq p_packed p_size x5 zr5 hzr5) hH [3, 4] [0, 1, 2, 5, 6, 7, 8, 9, 10, 11] [0, 1, 2, 10, 11, 3, 4, 5, 6, 7, 8, 9] rfl rfl rfl rfl gX0_endOf_X4_endsStep rfl ⟨rfl, rfl⟩ kX4_endsStep ⟨Nat.le_of_ble_eq_true rfl, Nat.le_of_ble_eq_true rfl⟩ rfl rfl rfl rfl rfl hl.1 (Nat.le_of_ble_eq_true rfl) ⟨Nat.le_of_ble_eq_true rfl, Nat.le_of_ble_eq_true rfl⟩ dX0_endOf_95 (fun H locs hH => ?_)
      refine lv_if_eq (pc := 98) (tgt := 116) hx hb dX0_endOf_98 rfl (fun zc6 => ?_) (fun zc6 => ?_)
      · have h := zt zc6 h
        refine lv_iinc (pc := 116) (v := (x5 + 1)) (lv' := [(5, .int (x5 + 1)), (4, .int (x4 + 1)), (0, .ref (kq 0)), (1, .int x1), (2, .ref (pq 0)), (3, .ref (hq 0))]) hx hb dX0_endOf_116 hl (k := 5) rfl (by rw [zk_c1]) (by decide) rfl (fun ls hl => ?_)
        refine lv_goto (pc := 119) (tgt := 49) hx hb dX0_endOf_119 rfl ?_
        exact ih (x4 + 1) (x5 + 1) k_ahead k_behind rr h _ _ _ hH (lv_sub hl [2, 3, 4, 5, 1, 0] rfl) K0
      have h := zf zc6 h
      refine lv_aload_n (pc := 101) hx hb dX0_endOf_101 rfl (lv_at hl 1 rfl) ?_
      refine z_get (pc := 102) (v := .ref (kq 2)) X iX0_endOf_X0 hH 0 rfl rfl 1 rfl (List.mem_of_getElem? (i := 2) rfl) rfl dX0_endOf_102 ?_
      refine lv_iconst (v := 0) (pc := 105) hx hb dX0_endOf_105 zk_c0 ?_
      refine lv_aload_n (pc := 106) hx hb dX0_endOf_106 rfl (lv_at hl 1 rfl) ?_
      refine z_get (pc := 107) (v := .ref (kq 1)) X iX0_endOf_X0 hH 0 rfl rfl 0 rfl (List.mem_of_getElem? (i := 1) rfl) rfl dX0_endOf_107 ?_
      refine lv_iconst (v := 0) (pc := 110) hx hb dX0_endOf_110 zk_c0 ?_
      refine lv_bipush (v := 16) (pc := 111) hx hb dX0_endOf_111 zk_b16 ?_
      refine va_copyi (pc := 113) hx hb (X.1.2.2.1.trans hl.1.symm) X.1.2.2.2.1 (X.1.2.2.2.2 _ (List.mem_of_getElem? (i := 3) rfl)) (X.1.2.2.2.2 _ (List.mem_of_getElem? (i := 4) rfl)) (X.1.2.2.2.2 _ (List.mem_of_getElem? (i := 5) rfl)) (X.1.2.2.2.2 _ (List.mem_of_getElem? (i := 6) rfl)) X.2.1 hH.1 hH.2.1 hH.2.2 2 1 0 0 (ty := .int) rfl rfl rfl rfl rfl (by decide) (by decide) (by decide) (by decide) (by decide) (fun _ _ => rfl) (Nat.le_of_ble_eq_true rfl) (Nat.le_of_ble_eq_true rfl) dX0_endOf_113 (fun H locs hP hD hS => ?_)
      have hH : zH G A s.heap (wK cy kq (va_cpy k_behind k_ahead (0 : Int32).toNatClampNeg (0 : Int32).toNatClampNeg (16 : Int32).toNatClampNeg) k_behind ++ wP cy pq p_packed p_size ++ wH cy hq h_alive h_late h_hbr h_rbh h_waits h_pers h_size h_ranks h_lines) H locs := ⟨hP, hD, hS⟩
      refine lv_iinc (pc := 116) (v := (x5 + 1)) (lv' := [(5, .int (x5 + 1)), (4, .int (x4 + 1)), (0, .ref (kq 0)), (1, .int x1), (2, .ref (pq 0)), (3, .ref (hq 0))]) hx hb dX0_endOf_116 hl (k := 5) rfl (by rw [zk_c1]) (by decide) rfl (fun ls hl => ?_)
      refine lv_goto (pc := 119) (tgt := 49) hx hb dX0_endOf_119 rfl ?_
      exact ih (x4 + 1) (x5 + 1) (va_cpy k_behind k_ahead (0 : Int32).toNatClampNeg (0 : Int32).toNatClampNeg (16 : Int32).toNatClampNeg) k_behind rr h _ _ _ hH (lv_sub hl [2, 3, 4, 5, 1, 0] rfl) K0
    have h := zf zc4 h
    refine lv_aload_n (pc := 70) hx hb dX0_endOf_70 rfl (lv_at hl 1 rfl) ?_
    refine lv_aload_n (pc := 71) hx hb dX0_endOf_71 rfl (lv_at hl 3 rfl) ?_
    refine lv_iload (pc := 72) hx hb dX0_endOf_72 (lv_at hl 5 rfl) ?_
    obtain ⟨zr7, hzr7, h⟩ := zb h
    refine zcV (pc := 74) (As := [.int x5]) (rest := [.ref (kq 0)]) (st1 := [.int zr7, .ref (kq 0)]) (ws' := wK cy kq k_ahead k_behind ++ wP cy pq p_packed p_size ++ wH cy hq h_alive h_late h_hbr h_rbh h_waits h_pers h_size h_ranks h_lines) (wr := [((kq 0), .inr (0, [.ref (kq 1), .ref (kq 2)])), ((kq 1), .inl (cy 0, 16, .inl k_ahead)), ((kq 2), .inl (cy 0, 16, .inl k_behind)), ((hq 0), .inr (2, [.ref (hq 1), .ref (hq 2), .ref (hq 3), .ref (hq 4), .ref (hq 5), .ref (hq 6), .int h_size, .int h_ranks, .int h_lines])), ((hq 1), .inl (cy 2, 16, .inl h_alive)), ((hq 2), .inl (cy 0, 16, .inl h_late)), ((hq 3), .inl (cy 0, 16, .inl h_hbr)), ((hq 4), .inl (cy 0, 16, .inl h_rbh)), ((hq 5), .inl (cy 0, 256, .inl h_waits)), ((hq 6), .inl (cy 0, 256, .inl h_pers))]) (n := 1) (q0 := 0) X (c_X4_from l G cy fu pq p_packed p_size x5 zr7 hzr7) hH [3, 4] [0, 1, 2, 5, 6, 7, 8, 9, 10, 11] [0, 1, 2, 10, 11, 3, 4, 5, 6, 7, 8, 9] rfl rfl rfl rfl gX0_endOf_X4_from rfl ⟨rfl, rfl⟩ kX4_from ⟨Nat.le_of_ble_eq_true rfl, Nat.le_of_ble_eq_true rfl⟩ rfl rfl rfl rfl rfl hl.1 (Nat.le_of_ble_eq_true rfl) ⟨Nat.le_of_ble_eq_true rfl, Nat.le_of_ble_eq_true rfl⟩ dX0_endOf_74 (fun H locs hH => ?_)
    refine lv_aload_n (pc := 77) hx hb dX0_endOf_77 rfl (lv_at hl 3 rfl) ?_
    refine lv_iload (pc := 78) hx hb dX0_endOf_78 (lv_at hl 5 rfl) ?_
    obtain ⟨zr8, hzr8, h⟩ := zb h
    refine zcV (pc := 80) (As := [.int x5]) (rest := [.int zr7, .ref (kq 0)]) (st1 := [.int zr8, .int zr7, .ref (kq 0)]) (ws' := wK cy kq k_ahead k_behind ++ wP cy pq p_packed p_size ++ wH cy hq h_alive h_late h_hbr h_rbh h_waits h_pers h_size h_ranks h_lines) (wr := [((kq 0), .inr (0, [.ref (kq 1), .ref (kq 2)])), ((kq 1), .inl (cy 0, 16, .inl k_ahead)), ((kq 2), .inl (cy 0, 16, .inl k_behind)), ((hq 0), .inr (2, [.ref (hq 1), .ref (hq 2), .ref (hq 3), .ref (hq 4), .ref (hq 5), .ref (hq 6), .int h_size, .int h_ranks, .int h_lines])), ((hq 1), .inl (cy 2, 16, .inl h_alive)), ((hq 2), .inl (cy 0, 16, .inl h_late)), ((hq 3), .inl (cy 0, 16, .inl h_hbr)), ((hq 4), .inl (cy 0, 16, .inl h_rbh)), ((hq 5), .inl (cy 0, 256, .inl h_waits)), ((hq 6), .inl (cy 0, 256, .inl h_pers))]) (n := 1) (q0 := 0) X (c_X4_to l G cy fu pq p_packed p_size x5 zr8 hzr8) hH [3, 4] [0, 1, 2, 5, 6, 7, 8, 9, 10, 11] [0, 1, 2, 10, 11, 3, 4, 5, 6, 7, 8, 9] rfl rfl rfl rfl gX0_endOf_X4_to rfl ⟨rfl, rfl⟩ kX4_to ⟨Nat.le_of_ble_eq_true rfl, Nat.le_of_ble_eq_true rfl⟩ rfl rfl rfl rfl rfl hl.1 (Nat.le_of_ble_eq_true rfl) ⟨Nat.le_of_ble_eq_true rfl, Nat.le_of_ble_eq_true rfl⟩ dX0_endOf_80 (fun H locs hH => ?_)
    refine lv_aload_n (pc := 83) hx hb dX0_endOf_83 rfl (lv_at hl 4 rfl) ?_
    refine lv_iload (pc := 84) hx hb dX0_endOf_84 (lv_at hl 0 rfl) ?_
    obtain ⟨zr9, hzr9, h⟩ := zb h
    refine zcV (pc := 86) (As := [.int zr7, .int zr8, .ref (hq 0), .int (x4 + 1)]) (rest := []) (st1 := []) (ws' := wK cy kq k_ahead zr9 ++ wP cy pq p_packed p_size ++ wH cy hq h_alive h_late h_hbr h_rbh h_waits h_pers h_size h_ranks h_lines) (wr := [((pq 0), .inr (3, [.ref (pq 1), .int p_size])), ((pq 1), .inl (cy 0, 1200, .inl p_packed))]) (n := 4) (q0 := 0) X (c_X0_takeLetter l G cy fu kq hq h_alive h_late h_hbr h_rbh h_waits h_pers h_size h_ranks h_lines k_ahead k_behind zr7 zr8 (x4 + 1) zr9 hzr9) hH [0, 1, 2, 5, 6, 7, 8, 9, 10, 11] [3, 4] [2, 3, 4, 0, 1, 5, 6, 7, 8, 9, 10, 11] rfl rfl rfl rfl gX0_endOf_X0_takeLetter rfl ⟨rfl, rfl⟩ kX0_takeLetter ⟨Nat.le_of_ble_eq_true rfl, Nat.le_of_ble_eq_true rfl⟩ rfl rfl rfl rfl rfl hl.1 (Nat.le_of_ble_eq_true rfl) ⟨Nat.le_of_ble_eq_true rfl, Nat.le_of_ble_eq_true rfl⟩ dX0_endOf_86 (fun H locs hH => ?_)
    refine lv_iconst (v := 0) (pc := 89) hx hb dX0_endOf_89 zk_c0 ?_
    refine lv_istore (pc := 90) (lv' := [(4, .int 0), (0, .ref (kq 0)), (1, .int x1), (2, .ref (pq 0)), (3, .ref (hq 0)), (5, .int x5)]) hx hb dX0_endOf_90 hl (by decide) rfl (fun ls hl => ?_)
    refine lv_aload_n (pc := 92) hx hb dX0_endOf_92 rfl (lv_at hl 3 rfl) ?_
    refine lv_iload (pc := 93) hx hb dX0_endOf_93 (lv_at hl 5 rfl) ?_
    obtain ⟨zr10, hzr10, h⟩ := zb h
    refine zcV (pc := 95) (As := [.int x5]) (rest := []) (st1 := [.int zr10]) (ws' := wK cy kq k_ahead zr9 ++ wP cy pq p_packed p_size ++ wH cy hq h_alive h_late h_hbr h_rbh h_waits h_pers h_size h_ranks h_lines) (wr := [((kq 0), .inr (0, [.ref (kq 1), .ref (kq 2)])), ((kq 1), .inl (cy 0, 16, .inl k_ahead)), ((kq 2), .inl (cy 0, 16, .inl zr9)), ((hq 0), .inr (2, [.ref (hq 1), .ref (hq 2), .ref (hq 3), .ref (hq 4), .ref (hq 5), .ref (hq 6), .int h_size, .int h_ranks, .int h_lines])), ((hq 1), .inl (cy 2, 16, .inl h_alive)), ((hq 2), .inl (cy 0, 16, .inl h_late)), ((hq 3), .inl (cy 0, 16, .inl h_hbr)), ((hq 4), .inl (cy 0, 16, .inl h_rbh)), ((hq 5), .inl (cy 0, 256, .inl h_waits)), ((hq 6), .inl (cy 0, 256, .inl h_pers))]) (n := 1) (q0 := 0) X (c_X4_endsStep l G cy fu pq p_packed p_size x5 zr10 hzr10) hH [3, 4] [0, 1, 2, 5, 6, 7, 8, 9, 10, 11] [0, 1, 2, 10, 11, 3, 4, 5, 6, 7, 8, 9] rfl rfl rfl rfl gX0_endOf_X4_endsStep rfl ⟨rfl, rfl⟩ kX4_endsStep ⟨Nat.le_of_ble_eq_true rfl, Nat.le_of_ble_eq_true rfl⟩ rfl rfl rfl rfl rfl hl.1 (Nat.le_of_ble_eq_true rfl) ⟨Nat.le_of_ble_eq_true rfl, Nat.le_of_ble_eq_true rfl⟩ dX0_endOf_95 (fun H locs hH => ?_)
    refine lv_if_eq (pc := 98) (tgt := 116) hx hb dX0_endOf_98 rfl (fun zc11 => ?_) (fun zc11 => ?_)
    · have h := zt zc11 h
      refine lv_iinc (pc := 116) (v := (x5 + 1)) (lv' := [(5, .int (x5 + 1)), (4, .int 0), (0, .ref (kq 0)), (1, .int x1), (2, .ref (pq 0)), (3, .ref (hq 0))]) hx hb dX0_endOf_116 hl (k := 5) rfl (by rw [zk_c1]) (by decide) rfl (fun ls hl => ?_)
      refine lv_goto (pc := 119) (tgt := 49) hx hb dX0_endOf_119 rfl ?_
      exact ih 0 (x5 + 1) k_ahead zr9 rr h _ _ _ hH (lv_sub hl [2, 3, 4, 5, 1, 0] rfl) K0
    have h := zf zc11 h
    refine lv_aload_n (pc := 101) hx hb dX0_endOf_101 rfl (lv_at hl 1 rfl) ?_
    refine z_get (pc := 102) (v := .ref (kq 2)) X iX0_endOf_X0 hH 0 rfl rfl 1 rfl (List.mem_of_getElem? (i := 2) rfl) rfl dX0_endOf_102 ?_
    refine lv_iconst (v := 0) (pc := 105) hx hb dX0_endOf_105 zk_c0 ?_
    refine lv_aload_n (pc := 106) hx hb dX0_endOf_106 rfl (lv_at hl 1 rfl) ?_
    refine z_get (pc := 107) (v := .ref (kq 1)) X iX0_endOf_X0 hH 0 rfl rfl 0 rfl (List.mem_of_getElem? (i := 1) rfl) rfl dX0_endOf_107 ?_
    refine lv_iconst (v := 0) (pc := 110) hx hb dX0_endOf_110 zk_c0 ?_
    refine lv_bipush (v := 16) (pc := 111) hx hb dX0_endOf_111 zk_b16 ?_
    refine va_copyi (pc := 113) hx hb (X.1.2.2.1.trans hl.1.symm) X.1.2.2.2.1 (X.1.2.2.2.2 _ (List.mem_of_getElem? (i := 3) rfl)) (X.1.2.2.2.2 _ (List.mem_of_getElem? (i := 4) rfl)) (X.1.2.2.2.2 _ (List.mem_of_getElem? (i := 5) rfl)) (X.1.2.2.2.2 _ (List.mem_of_getElem? (i := 6) rfl)) X.2.1 hH.1 hH.2.1 hH.2.2 2 1 0 0 (ty := .int) rfl rfl rfl rfl rfl (by decide) (by decide) (by decide) (by decide) (by decide) (fun _ _ => rfl) (Nat.le_of_ble_eq_true rfl) (Nat.le_of_ble_eq_true rfl) dX0_endOf_113 (fun H locs hP hD hS => ?_)
    have hH : zH G A s.heap (wK cy kq (va_cpy zr9 k_ahead (0 : Int32).toNatClampNeg (0 : Int32).toNatClampNeg (16 : Int32).toNatClampNeg) zr9 ++ wP cy pq p_packed p_size ++ wH cy hq h_alive h_late h_hbr h_rbh h_waits h_pers h_size h_ranks h_lines) H locs := ⟨hP, hD, hS⟩
    refine lv_iinc (pc := 116) (v := (x5 + 1)) (lv' := [(5, .int (x5 + 1)), (4, .int 0), (0, .ref (kq 0)), (1, .int x1), (2, .ref (pq 0)), (3, .ref (hq 0))]) hx hb dX0_endOf_116 hl (k := 5) rfl (by rw [zk_c1]) (by decide) rfl (fun ls hl => ?_)
    refine lv_goto (pc := 119) (tgt := 49) hx hb dX0_endOf_119 rfl ?_
    exact ih 0 (x5 + 1) (va_cpy zr9 k_ahead (0 : Int32).toNatClampNeg (0 : Int32).toNatClampNeg (16 : Int32).toNatClampNeg) zr9 rr h _ _ _ hH (lv_sub hl [2, 3, 4, 5, 1, 0] rfl) K0
set_option maxHeartbeats 4000000 in
set_option maxRecDepth 100000 in
theorem c_X0_endOf (l : Launch) (G : va_G) (cy : Nat → ClassId) (fu : Nat) (kq : Nat → Nat) (pq : Nat → Nat) (hq : Nat → Nat) (h_alive : Nat → Int32) (h_late : Nat → Int32) (h_hbr : Nat → Int32) (h_rbh : Nat → Int32) (h_waits : Nat → Int32) (h_pers : Nat → Int32) (h_size : Int32) (h_ranks : Int32) (h_lines : Int32) (p_packed : Nat → Int32) (p_size : Int32) (k_ahead : Nat → Int32) (k_behind : Nat → Int32) (x1 : Int32) (rr : Int32 × (Nat → Int32) × (Nat → Int32)) (h : f_X0_endOf fu h_late h_waits h_pers h_size p_packed p_size k_ahead k_behind x1 = some rr) : zM l G cy yX0_endOf wsX0_endOf (zR 3 89) [.ref (kq 0), .int x1, .ref (pq 0), .ref (hq 0)] (wK cy kq k_ahead k_behind ++ wP cy pq p_packed p_size ++ wH cy hq h_alive h_late h_hbr h_rbh h_waits h_pers h_size h_ranks h_lines) (wK cy kq rr.2.1 rr.2.2 ++ wP cy pq p_packed p_size ++ wH cy hq h_alive h_late h_hbr h_rbh h_waits h_pers h_size h_ranks h_lines) (some (.int rr.1)) := by
  refine zM.mk (cc := cX0_endOf) (nL := 6) (ret := (some .int)) (by decide) rfl (Nat.le_of_ble_eq_true rfl) ?_
  intro p e s m below meth c A ls X hr hH hl
  replace X : zX p s m [.ref (kq 0), .int x1, .ref (pq 0), .ref (hq 0)].toArray meth c RX0 cX0_endOf 6 wsX0_endOf G cy A := X
  have hx := X.1.1
  have hb := X.1.2.1
  replace hl : lv_has ls 6 [(0, .ref (kq 0)), (1, .int x1), (2, .ref (pq 0)), (3, .ref (hq 0))] := hl
  dsimp only [f_X0_endOf] at h
  refine lv_iconst (v := 0) (pc := 0) hx hb dX0_endOf_0 zk_c0 ?_
  refine lv_istore (pc := 1) (lv' := [(4, .int 0), (0, .ref (kq 0)), (1, .int x1), (2, .ref (pq 0)), (3, .ref (hq 0))]) hx hb dX0_endOf_1 hl (by decide) rfl (fun ls hl => ?_)
  obtain ⟨zr1, hzr1, h⟩ := zb h
  refine w_X0_endOf_l3 G cy fu kq pq hq h_alive h_late h_hbr h_rbh h_waits h_pers h_size h_ranks h_lines p_packed p_size x1 X fu 0 k_ahead k_behind zr1 hzr1 _ _ _ hH (lv_sub hl [1, 2, 3, 4, 0] rfl) (fun H locs ls hH hl => ?_)
  refine lv_iconst (v := 0) (pc := 43) hx hb dX0_endOf_43 zk_c0 ?_
  refine lv_istore (pc := 44) (lv' := [(4, .int 0), (0, .ref (kq 0)), (1, .int x1), (2, .ref (pq 0)), (3, .ref (hq 0))]) hx hb dX0_endOf_44 hl (by decide) rfl (fun ls hl => ?_)
  refine lv_iconst (v := 0) (pc := 46) hx hb dX0_endOf_46 zk_c0 ?_
  refine lv_istore (pc := 47) (lv' := [(5, .int 0), (4, .int 0), (0, .ref (kq 0)), (1, .int x1), (2, .ref (pq 0)), (3, .ref (hq 0))]) hx hb dX0_endOf_47 hl (by decide) rfl (fun ls hl => ?_)
  obtain ⟨zr2, hzr2, h⟩ := zb h
  refine w_X0_endOf_l49 G cy fu kq pq hq h_alive h_late h_hbr h_rbh h_waits h_pers h_size h_ranks h_lines p_packed p_size x1 X fu 0 0 zr1.1 zr1.2 zr2 hzr2 _ _ _ hH (lv_sub hl [2, 3, 4, 5, 1, 0] rfl) (fun H locs ls hH hl => ?_)
  refine lv_iload_n (pc := 122) hx hb dX0_endOf_122 rfl (lv_at hl 1 rfl) ?_
  refine lv_if_lt (pc := 123) (tgt := 141) hx hb dX0_endOf_123 rfl (fun zc3 => ?_) (fun zc3 => ?_)
  · have h := zt zc3 h
    refine lv_iconst (v := (-1)) (pc := 141) hx hb dX0_endOf_141 zk_cm1 ?_
    obtain rfl := Option.some.inj h
    exact z_iret X hr hH dX0_endOf_142
  have h := zf zc3 h
  refine lv_iload_n (pc := 126) hx hb dX0_endOf_126 rfl (lv_at hl 1 rfl) ?_
  refine lv_bipush (v := 16) (pc := 127) hx hb dX0_endOf_127 zk_b16 ?_
  refine lv_icmp_ge (pc := 129) (tgt := 141) hx hb dX0_endOf_129 rfl (fun zc4 => ?_) (fun zc4 => ?_)
  · have h := zt zc4 h
    refine lv_iconst (v := (-1)) (pc := 141) hx hb dX0_endOf_141 zk_cm1 ?_
    obtain rfl := Option.some.inj h
    exact z_iret X hr hH dX0_endOf_142
  have h := zf zc4 h
  refine lv_aload_n (pc := 132) hx hb dX0_endOf_132 rfl (lv_at hl 0 rfl) ?_
  refine z_get (pc := 133) (v := .ref (kq 2)) X iX0_endOf_X0 hH 0 rfl rfl 1 rfl (List.mem_of_getElem? (i := 2) rfl) rfl dX0_endOf_133 ?_
  refine lv_iload_n (pc := 136) hx hb dX0_endOf_136 rfl (lv_at hl 1 rfl) ?_
  obtain ⟨hin, h⟩ := zg h
  refine z_iald (pc := 137) X hH 2 rfl hin dX0_endOf_137 ?_
  refine lv_goto (pc := 138) (tgt := 142) hx hb dX0_endOf_138 rfl ?_
  obtain rfl := Option.some.inj h
  exact z_iret X hr hH dX0_endOf_142
set_option maxHeartbeats 4000000 in
set_option maxRecDepth 100000 in
theorem c_X8_isAsked (l : Launch) (G : va_G) (cy : Nat → ClassId) (fu : Nat) (hq : Nat → Nat) (h_alive : Nat → Int32) (h_late : Nat → Int32) (h_hbr : Nat → Int32) (h_rbh : Nat → Int32) (h_waits : Nat → Int32) (h_pers : Nat → Int32) (h_size : Int32) (h_ranks : Int32) (h_lines : Int32) (x1 : Int32) (x2 : Int32) (rr : Int32) (h : f_X8_isAsked fu h_alive h_size x1 x2 = some rr) : zM l G cy yX8_isAsked wsX8_isAsked (zR 2 42) [.ref (hq 0), .int x1, .int x2] (wH cy hq h_alive h_late h_hbr h_rbh h_waits h_pers h_size h_ranks h_lines) (wH cy hq h_alive h_late h_hbr h_rbh h_waits h_pers h_size h_ranks h_lines) (some (.int rr)) := by
  refine zM.mk (cc := cX8_isAsked) (nL := 3) (ret := (some .boolean)) (by decide) rfl (Nat.le_of_ble_eq_true rfl) ?_
  intro p e s m below meth c A ls X hr hH hl
  replace X : zX p s m [.ref (hq 0), .int x1, .int x2].toArray meth c RX8 cX8_isAsked 3 wsX8_isAsked G cy A := X
  have hx := X.1.1
  have hb := X.1.2.1
  replace hl : lv_has ls 3 [(0, .ref (hq 0)), (1, .int x1), (2, .int x2)] := hl
  dsimp only [f_X8_isAsked] at h
  refine lv_iload_n (pc := 0) hx hb dX8_isAsked_0 rfl (lv_at hl 1 rfl) ?_
  refine lv_if_lt (pc := 1) (tgt := 21) hx hb dX8_isAsked_1 rfl (fun zc1 => ?_) (fun zc1 => ?_)
  · have h := zt zc1 h
    refine lv_iconst (v := 0) (pc := 21) hx hb dX8_isAsked_21 zk_c0 ?_
    obtain rfl := Option.some.inj h
    exact z_zret X hr (Or.inl rfl) hH dX8_isAsked_22
  have h := zf zc1 h
  refine lv_iload_n (pc := 4) hx hb dX8_isAsked_4 rfl (lv_at hl 1 rfl) ?_
  refine lv_iconst (v := 4) (pc := 5) hx hb dX8_isAsked_5 zk_c4 ?_
  refine lv_icmp_gt (pc := 6) (tgt := 21) hx hb dX8_isAsked_6 rfl (fun zc2 => ?_) (fun zc2 => ?_)
  · have h := zt zc2 h
    refine lv_iconst (v := 0) (pc := 21) hx hb dX8_isAsked_21 zk_c0 ?_
    obtain rfl := Option.some.inj h
    exact z_zret X hr (Or.inl rfl) hH dX8_isAsked_22
  have h := zf zc2 h
  refine lv_aload_n (pc := 9) hx hb dX8_isAsked_9 rfl (lv_at hl 0 rfl) ?_
  refine lv_iload_n (pc := 10) hx hb dX8_isAsked_10 rfl (lv_at hl 2 rfl) ?_
  obtain ⟨zr3, hzr3, h⟩ := zb h
  refine zcV (pc := 11) (As := [.int x2]) (rest := []) (st1 := [.int zr3]) (ws' := wH cy hq h_alive h_late h_hbr h_rbh h_waits h_pers h_size h_ranks h_lines) (wr := []) (n := 1) (q0 := 0) X (c_X3_isLive l G cy fu hq h_alive h_late h_hbr h_rbh h_waits h_pers h_size h_ranks h_lines x2 zr3 hzr3) hH [0, 1, 2, 3, 4, 5, 6] [] [0, 1, 2, 3, 4, 5, 6] rfl rfl rfl rfl gX8_isAsked_X3_isLive rfl ⟨rfl, rfl⟩ kX3_isLive ⟨Nat.le_of_ble_eq_true rfl, Nat.le_of_ble_eq_true rfl⟩ rfl rfl rfl rfl rfl hl.1 (Nat.le_of_ble_eq_true rfl) ⟨Nat.le_of_ble_eq_true rfl, Nat.le_of_ble_eq_true rfl⟩ dX8_isAsked_11 (fun H locs hH => ?_)
  refine lv_if_eq (pc := 14) (tgt := 21) hx hb dX8_isAsked_14 rfl (fun zc4 => ?_) (fun zc4 => ?_)
  · have h := zt zc4 h
    refine lv_iconst (v := 0) (pc := 21) hx hb dX8_isAsked_21 zk_c0 ?_
    obtain rfl := Option.some.inj h
    exact z_zret X hr (Or.inl rfl) hH dX8_isAsked_22
  have h := zf zc4 h
  refine lv_iconst (v := 1) (pc := 17) hx hb dX8_isAsked_17 zk_c1 ?_
  refine lv_goto (pc := 18) (tgt := 22) hx hb dX8_isAsked_18 rfl ?_
  obtain rfl := Option.some.inj h
  exact z_zret X hr (Or.inr rfl) hH dX8_isAsked_22
set_option maxHeartbeats 4000000 in
set_option maxRecDepth 100000 in
theorem c_X7_begin (l : Launch) (G : va_G) (cy : Nat → ClassId) (fu : Nat) (wq : Nat → Nat) (pq : Nat → Nat) (hq : Nat → Nat) (h_alive : Nat → Int32) (h_late : Nat → Int32) (h_hbr : Nat → Int32) (h_rbh : Nat → Int32) (h_waits : Nat → Int32) (h_pers : Nat → Int32) (h_size : Int32) (h_ranks : Int32) (h_lines : Int32) (p_packed : Nat → Int32) (p_size : Int32) (w_drawn : Value) (w_house : Value) (w_m : Int32) (w_root : Int32) (w_step : Int32) (w_lacks : Int32) (x3 : Int32) (rr : Int32 × Int32 × Int32 × Int32 × Int32) (h : f_X7_begin fu h_alive h_rbh h_size h_ranks x3 = some rr) : zM l G cy yX7_begin wsX7_begin (zR 3 63) [.ref (wq 0), .ref (pq 0), .ref (hq 0), .int x3] (wW cy wq w_drawn w_house w_m w_root w_step w_lacks ++ wP cy pq p_packed p_size ++ wH cy hq h_alive h_late h_hbr h_rbh h_waits h_pers h_size h_ranks h_lines) (wW cy wq (.ref (pq 0)) (.ref (hq 0)) rr.2.1 rr.2.2.1 rr.2.2.2.1 rr.2.2.2.2 ++ wP cy pq p_packed rr.1 ++ wH cy hq h_alive h_late h_hbr h_rbh h_waits h_pers h_size h_ranks h_lines) none := by
  refine zM.mk (cc := cX7_begin) (nL := 4) (ret := none) (by decide) rfl (Nat.le_of_ble_eq_true rfl) ?_
  intro p e s m below meth c A ls X hr hH hl
  replace X : zX p s m [.ref (wq 0), .ref (pq 0), .ref (hq 0), .int x3].toArray meth c RX7 cX7_begin 4 wsX7_begin G cy A := X
  have hx := X.1.1
  have hb := X.1.2.1
  replace hl : lv_has ls 4 [(0, .ref (wq 0)), (1, .ref (pq 0)), (2, .ref (hq 0)), (3, .int x3)] := hl
  dsimp only [f_X7_begin] at h
  refine lv_aload_n (pc := 0) hx hb dX7_begin_0 rfl (lv_at hl 0 rfl) ?_
  refine lv_aload_n (pc := 1) hx hb dX7_begin_1 rfl (lv_at hl 1 rfl) ?_
  refine z_put (pc := 2) (v := .ref (pq 0)) (ws' := wW cy wq (.ref (pq 0)) w_house w_m w_root w_step w_lacks ++ wP cy pq p_packed p_size ++ wH cy hq h_alive h_late h_hbr h_rbh h_waits h_pers h_size h_ranks h_lines) X iX7_begin_X7 tyX7 tyX7_ok nmX7 hH 0 rfl rfl 0 rfl (List.mem_of_getElem? (i := 1) rfl) rfl rfl rfl rfl rfl dX7_begin_2 (fun H locs hH => ?_)
  refine lv_aload_n (pc := 5) hx hb dX7_begin_5 rfl (lv_at hl 0 rfl) ?_
  refine z_get (pc := 6) (v := .ref (pq 0)) X iX7_begin_X7 hH 0 rfl rfl 0 rfl (List.mem_of_getElem? (i := 1) rfl) rfl dX7_begin_6 ?_
  obtain ⟨zr1, hzr1, h⟩ := zb h
  refine zcV (pc := 9) (As := []) (rest := []) (st1 := []) (ws' := wW cy wq (.ref (pq 0)) w_house w_m w_root w_step w_lacks ++ wP cy pq p_packed zr1 ++ wH cy hq h_alive h_late h_hbr h_rbh h_waits h_pers h_size h_ranks h_lines) (wr := [((wq 0), .inr (6, [(.ref (pq 0)), w_house, .int w_m, .int w_root, .int w_step, .int w_lacks])), ((hq 0), .inr (2, [.ref (hq 1), .ref (hq 2), .ref (hq 3), .ref (hq 4), .ref (hq 5), .ref (hq 6), .int h_size, .int h_ranks, .int h_lines])), ((hq 1), .inl (cy 2, 16, .inl h_alive)), ((hq 2), .inl (cy 0, 16, .inl h_late)), ((hq 3), .inl (cy 0, 16, .inl h_hbr)), ((hq 4), .inl (cy 0, 16, .inl h_rbh)), ((hq 5), .inl (cy 0, 256, .inl h_waits)), ((hq 6), .inl (cy 0, 256, .inl h_pers))]) (n := 0) (q0 := 0) X (c_X4_empty l G cy fu pq p_packed p_size zr1 hzr1) hH [1, 2] [0, 3, 4, 5, 6, 7, 8, 9] [0, 8, 9, 1, 2, 3, 4, 5, 6, 7] rfl rfl rfl rfl gX7_begin_X4_empty rfl ⟨rfl, rfl⟩ kX4_empty ⟨Nat.le_of_ble_eq_true rfl, Nat.le_of_ble_eq_true rfl⟩ rfl rfl rfl rfl rfl hl.1 (Nat.le_of_ble_eq_true rfl) ⟨Nat.le_of_ble_eq_true rfl, Nat.le_of_ble_eq_true rfl⟩ dX7_begin_9 (fun H locs hH => ?_)
  refine lv_aload_n (pc := 12) hx hb dX7_begin_12 rfl (lv_at hl 0 rfl) ?_
  refine lv_aload_n (pc := 13) hx hb dX7_begin_13 rfl (lv_at hl 2 rfl) ?_
  refine z_put (pc := 14) (v := .ref (hq 0)) (ws' := wW cy wq (.ref (pq 0)) (.ref (hq 0)) w_m w_root w_step w_lacks ++ wP cy pq p_packed zr1 ++ wH cy hq h_alive h_late h_hbr h_rbh h_waits h_pers h_size h_ranks h_lines) X iX7_begin_X7 tyX7 tyX7_ok nmX7 hH 0 rfl rfl 1 rfl (List.mem_of_getElem? (i := 2) rfl) rfl rfl rfl rfl rfl dX7_begin_14 (fun H locs hH => ?_)
  refine lv_aload_n (pc := 17) hx hb dX7_begin_17 rfl (lv_at hl 0 rfl) ?_
  refine lv_aload_n (pc := 18) hx hb dX7_begin_18 rfl (lv_at hl 0 rfl) ?_
  refine z_get (pc := 19) (v := .ref (hq 0)) X iX7_begin_X7 hH 0 rfl rfl 1 rfl (List.mem_of_getElem? (i := 2) rfl) rfl dX7_begin_19 ?_
  obtain ⟨zr2, hzr2, h⟩ := zb h
  refine zcV (pc := 22) (As := []) (rest := [.ref (wq 0)]) (st1 := [.int zr2, .ref (wq 0)]) (ws' := wW cy wq (.ref (pq 0)) (.ref (hq 0)) w_m w_root w_step w_lacks ++ wP cy pq p_packed zr1 ++ wH cy hq h_alive h_late h_hbr h_rbh h_waits h_pers h_size h_ranks h_lines) (wr := [((wq 0), .inr (6, [(.ref (pq 0)), (.ref (hq 0)), .int w_m, .int w_root, .int w_step, .int w_lacks])), ((pq 0), .inr (3, [.ref (pq 1), .int zr1])), ((pq 1), .inl (cy 0, 1200, .inl p_packed))]) (n := 0) (q0 := 0) X (c_X3_ranks l G cy fu hq h_alive h_late h_hbr h_rbh h_waits h_pers h_size h_ranks h_lines zr2 hzr2) hH [3, 4, 5, 6, 7, 8, 9] [0, 1, 2] [0, 1, 2, 3, 4, 5, 6, 7, 8, 9] rfl rfl rfl rfl gX7_begin_X3_ranks rfl ⟨rfl, rfl⟩ kX3_ranks ⟨Nat.le_of_ble_eq_true rfl, Nat.le_of_ble_eq_true rfl⟩ rfl rfl rfl rfl rfl hl.1 (Nat.le_of_ble_eq_true rfl) ⟨Nat.le_of_ble_eq_true rfl, Nat.le_of_ble_eq_true rfl⟩ dX7_begin_22 (fun H locs hH => ?_)
  refine z_put (pc := 25) (v := .int zr2) (ws' := wW cy wq (.ref (pq 0)) (.ref (hq 0)) zr2 w_root w_step w_lacks ++ wP cy pq p_packed zr1 ++ wH cy hq h_alive h_late h_hbr h_rbh h_waits h_pers h_size h_ranks h_lines) X iX7_begin_X7 tyX7 tyX7_ok nmX7 hH 0 rfl rfl 2 rfl (List.mem_of_getElem? (i := 3) rfl) rfl rfl rfl rfl rfl dX7_begin_25 (fun H locs hH => ?_)
  refine lv_aload_n (pc := 28) hx hb dX7_begin_28 rfl (lv_at hl 0 rfl) ?_
  refine lv_aload_n (pc := 29) hx hb dX7_begin_29 rfl (lv_at hl 0 rfl) ?_
  refine z_get (pc := 30) (v := .ref (hq 0)) X iX7_begin_X7 hH 0 rfl rfl 1 rfl (List.mem_of_getElem? (i := 2) rfl) rfl dX7_begin_30 ?_
  refine lv_iload_n (pc := 33) hx hb dX7_begin_33 rfl (lv_at hl 3 rfl) ?_
  obtain ⟨zr3, hzr3, h⟩ := zb h
  refine zcV (pc := 34) (As := [.int x3]) (rest := [.ref (wq 0)]) (st1 := [.int zr3, .ref (wq 0)]) (ws' := wW cy wq (.ref (pq 0)) (.ref (hq 0)) zr2 w_root w_step w_lacks ++ wP cy pq p_packed zr1 ++ wH cy hq h_alive h_late h_hbr h_rbh h_waits h_pers h_size h_ranks h_lines) (wr := [((wq 0), .inr (6, [(.ref (pq 0)), (.ref (hq 0)), .int zr2, .int w_root, .int w_step, .int w_lacks])), ((pq 0), .inr (3, [.ref (pq 1), .int zr1])), ((pq 1), .inl (cy 0, 1200, .inl p_packed))]) (n := 1) (q0 := 0) X (c_X3_rankOf l G cy fu hq h_alive h_late h_hbr h_rbh h_waits h_pers h_size h_ranks h_lines x3 zr3 hzr3) hH [3, 4, 5, 6, 7, 8, 9] [0, 1, 2] [0, 1, 2, 3, 4, 5, 6, 7, 8, 9] rfl rfl rfl rfl gX7_begin_X3_rankOf rfl ⟨rfl, rfl⟩ kX3_rankOf ⟨Nat.le_of_ble_eq_true rfl, Nat.le_of_ble_eq_true rfl⟩ rfl rfl rfl rfl rfl hl.1 (Nat.le_of_ble_eq_true rfl) ⟨Nat.le_of_ble_eq_true rfl, Nat.le_of_ble_eq_true rfl⟩ dX7_begin_34 (fun H locs hH => ?_)
  refine z_put (pc := 37) (v := .int zr3) (ws' := wW cy wq (.ref (pq 0)) (.ref (hq 0)) zr2 zr3 w_step w_lacks ++ wP cy pq p_packed zr1 ++ wH cy hq h_alive h_late h_hbr h_rbh h_waits h_pers h_size h_ranks h_lines) X iX7_begin_X7 tyX7 tyX7_ok nmX7 hH 0 rfl rfl 3 rfl (List.mem_of_getElem? (i := 4) rfl) rfl rfl rfl rfl rfl dX7_begin_37 (fun H locs hH => ?_)
  refine lv_aload_n (pc := 40) hx hb dX7_begin_40 rfl (lv_at hl 0 rfl) ?_
  refine lv_iconst (v := 0) (pc := 41) hx hb dX7_begin_41 zk_c0 ?_
  refine z_put (pc := 42) (v := .int 0) (ws' := wW cy wq (.ref (pq 0)) (.ref (hq 0)) zr2 zr3 0 w_lacks ++ wP cy pq p_packed zr1 ++ wH cy hq h_alive h_late h_hbr h_rbh h_waits h_pers h_size h_ranks h_lines) X iX7_begin_X7 tyX7 tyX7_ok nmX7 hH 0 rfl rfl 4 rfl (List.mem_of_getElem? (i := 5) rfl) rfl rfl rfl rfl rfl dX7_begin_42 (fun H locs hH => ?_)
  refine lv_aload_n (pc := 45) hx hb dX7_begin_45 rfl (lv_at hl 0 rfl) ?_
  refine lv_iconst (v := 0) (pc := 46) hx hb dX7_begin_46 zk_c0 ?_
  refine z_put (pc := 47) (v := .int 0) (ws' := wW cy wq (.ref (pq 0)) (.ref (hq 0)) zr2 zr3 0 0 ++ wP cy pq p_packed zr1 ++ wH cy hq h_alive h_late h_hbr h_rbh h_waits h_pers h_size h_ranks h_lines) X iX7_begin_X7 tyX7 tyX7_ok nmX7 hH 0 rfl rfl 5 rfl (List.mem_of_getElem? (i := 6) rfl) rfl rfl rfl rfl rfl dX7_begin_47 (fun H locs hH => ?_)
  obtain rfl := Option.some.inj h
  exact z_vret X hr hH dX7_begin_50
set_option maxHeartbeats 4000000 in
set_option maxRecDepth 100000 in
theorem c_X7_byM (l : Launch) (G : va_G) (cy : Nat → ClassId) (fu : Nat) (wq : Nat → Nat) (w_drawn : Value) (w_house : Value) (w_m : Int32) (w_root : Int32) (w_step : Int32) (w_lacks : Int32) (x1 : Int32) (rr : Int32) (h : f_X7_byM fu w_m x1 = some rr) : zM l G cy yX7_byM wsX7_byM (zR 0 0) [.ref (wq 0), .int x1] (wW cy wq w_drawn w_house w_m w_root w_step w_lacks) (wW cy wq w_drawn w_house w_m w_root w_step w_lacks) (some (.int rr)) := by
  refine zM.mk (cc := cX7_byM) (nL := 2) (ret := (some .int)) (by decide) rfl (Nat.le_of_ble_eq_true rfl) ?_
  intro p e s m below meth c A ls X hr hH hl
  replace X : zX p s m [.ref (wq 0), .int x1].toArray meth c RX7 cX7_byM 2 wsX7_byM G cy A := X
  have hx := X.1.1
  have hb := X.1.2.1
  replace hl : lv_has ls 2 [(0, .ref (wq 0)), (1, .int x1)] := hl
  dsimp only [f_X7_byM] at h
  refine lv_iload_n (pc := 0) hx hb dX7_byM_0 rfl (lv_at hl 1 rfl) ?_
  refine lv_if_ge (pc := 1) (tgt := 11) hx hb dX7_byM_1 rfl (fun zc1 => ?_) (fun zc1 => ?_)
  · have h := zt zc1 h
    refine lv_iload_n (pc := 11) hx hb dX7_byM_11 rfl (lv_at hl 1 rfl) ?_
    refine lv_aload_n (pc := 12) hx hb dX7_byM_12 rfl (lv_at hl 0 rfl) ?_
    refine z_get (pc := 13) (v := .int w_m) X iX7_byM_X7 hH 0 rfl rfl 2 rfl (List.mem_of_getElem? (i := 1) rfl) rfl dX7_byM_13 ?_
    refine lv_icmp_lt (pc := 16) (tgt := 28) hx hb dX7_byM_16 rfl (fun zc2 => ?_) (fun zc2 => ?_)
    · have h := zt zc2 h
      refine lv_iload_n (pc := 28) hx hb dX7_byM_28 rfl (lv_at hl 1 rfl) ?_
      obtain rfl := Option.some.inj h
      exact z_iret X hr hH dX7_byM_29
    have h := zf zc2 h
    refine lv_iload_n (pc := 19) hx hb dX7_byM_19 rfl (lv_at hl 1 rfl) ?_
    refine lv_aload_n (pc := 20) hx hb dX7_byM_20 rfl (lv_at hl 0 rfl) ?_
    refine z_get (pc := 21) (v := .int w_m) X iX7_byM_X7 hH 0 rfl rfl 2 rfl (List.mem_of_getElem? (i := 1) rfl) rfl dX7_byM_21 ?_
    refine lv_isub (pc := 24) hx hb dX7_byM_24 ?_
    refine lv_goto (pc := 25) (tgt := 29) hx hb dX7_byM_25 rfl ?_
    obtain rfl := Option.some.inj h
    exact z_iret X hr hH dX7_byM_29
  have h := zf zc1 h
  refine lv_iload_n (pc := 4) hx hb dX7_byM_4 rfl (lv_at hl 1 rfl) ?_
  refine lv_aload_n (pc := 5) hx hb dX7_byM_5 rfl (lv_at hl 0 rfl) ?_
  refine z_get (pc := 6) (v := .int w_m) X iX7_byM_X7 hH 0 rfl rfl 2 rfl (List.mem_of_getElem? (i := 1) rfl) rfl dX7_byM_6 ?_
  refine lv_iadd (pc := 9) hx hb dX7_byM_9 ?_
  obtain rfl := Option.some.inj h
  exact z_iret X hr hH dX7_byM_10
set_option maxHeartbeats 4000000 in
set_option maxRecDepth 100000 in
theorem c_X7_rankOfQ (l : Launch) (G : va_G) (cy : Nat → ClassId) (fu : Nat) (wq : Nat → Nat) (w_drawn : Value) (w_house : Value) (w_m : Int32) (w_root : Int32) (w_step : Int32) (w_lacks : Int32) (x1 : Int32) (rr : Int32) (h : f_X7_rankOfQ fu w_m w_root x1 = some rr) : zM l G cy yX7_rankOfQ wsX7_rankOfQ (zR 1 21) [.ref (wq 0), .int x1] (wW cy wq w_drawn w_house w_m w_root w_step w_lacks) (wW cy wq w_drawn w_house w_m w_root w_step w_lacks) (some (.int rr)) := by
  refine zM.mk (cc := cX7_rankOfQ) (nL := 2) (ret := (some .int)) (by decide) rfl (Nat.le_of_ble_eq_true rfl) ?_
  intro p e s m below meth c A ls X hr hH hl
  replace X : zX p s m [.ref (wq 0), .int x1].toArray meth c RX7 cX7_rankOfQ 2 wsX7_rankOfQ G cy A := X
  have hx := X.1.1
  have hb := X.1.2.1
  replace hl : lv_has ls 2 [(0, .ref (wq 0)), (1, .int x1)] := hl
  dsimp only [f_X7_rankOfQ] at h
  refine lv_aload_n (pc := 0) hx hb dX7_rankOfQ_0 rfl (lv_at hl 0 rfl) ?_
  refine lv_aload_n (pc := 1) hx hb dX7_rankOfQ_1 rfl (lv_at hl 0 rfl) ?_
  refine lv_iload_n (pc := 2) hx hb dX7_rankOfQ_2 rfl (lv_at hl 1 rfl) ?_
  obtain ⟨zr1, hzr1, h⟩ := zb h
  refine zcV (pc := 3) (As := [.int x1]) (rest := [.ref (wq 0)]) (st1 := [.int zr1, .ref (wq 0)]) (ws' := wW cy wq w_drawn w_house w_m w_root w_step w_lacks) (wr := []) (n := 1) (q0 := 0) X (c_X7_byM l G cy fu wq w_drawn w_house w_m w_root w_step w_lacks x1 zr1 hzr1) hH [0] [] [0] rfl rfl rfl rfl gX7_rankOfQ_X7_byM rfl ⟨rfl, rfl⟩ kX7_byM ⟨Nat.le_of_ble_eq_true rfl, Nat.le_of_ble_eq_true rfl⟩ rfl rfl rfl rfl rfl hl.1 (Nat.le_of_ble_eq_true rfl) ⟨Nat.le_of_ble_eq_true rfl, Nat.le_of_ble_eq_true rfl⟩ dX7_rankOfQ_3 (fun H locs hH => ?_)
  refine lv_aload_n (pc := 6) hx hb dX7_rankOfQ_6 rfl (lv_at hl 0 rfl) ?_
  refine z_get (pc := 7) (v := .int w_root) X iX7_rankOfQ_X7 hH 0 rfl rfl 3 rfl (List.mem_of_getElem? (i := 1) rfl) rfl dX7_rankOfQ_7 ?_
  refine lv_iadd (pc := 10) hx hb dX7_rankOfQ_10 ?_
  obtain ⟨zr2, hzr2, h⟩ := zb h
  refine zcV (pc := 11) (As := [.int (zr1 + w_root)]) (rest := []) (st1 := [.int zr2]) (ws' := wW cy wq w_drawn w_house w_m w_root w_step w_lacks) (wr := []) (n := 1) (q0 := 0) X (c_X7_byM l G cy fu wq w_drawn w_house w_m w_root w_step w_lacks (zr1 + w_root) zr2 hzr2) hH [0] [] [0] rfl rfl rfl rfl gX7_rankOfQ_X7_byM rfl ⟨rfl, rfl⟩ kX7_byM ⟨Nat.le_of_ble_eq_true rfl, Nat.le_of_ble_eq_true rfl⟩ rfl rfl rfl rfl rfl hl.1 (Nat.le_of_ble_eq_true rfl) ⟨Nat.le_of_ble_eq_true rfl, Nat.le_of_ble_eq_true rfl⟩ dX7_rankOfQ_11 (fun H locs hH => ?_)
  obtain rfl := Option.some.inj h
  exact z_iret X hr hH dX7_rankOfQ_14
set_option maxHeartbeats 4000000 in
set_option maxRecDepth 100000 in
theorem w_X7_give_l43 {p : Program} {l : Launch} {e : Env} {s : State} {m : MethodId} {args : Array Value} {below : List Frame} {meth : Method} {c : Code} {A : Nat → Prop} {Q : State → Prop} (G : va_G) (cy : Nat → ClassId) (fu : Nat) (wq : Nat → Nat) (pq : Nat → Nat) (hq : Nat → Nat) (h_alive : Nat → Int32) (h_late : Nat → Int32) (h_hbr : Nat → Int32) (h_rbh : Nat → Int32) (h_waits : Nat → Int32) (h_pers : Nat → Int32) (h_size : Int32) (h_ranks : Int32) (h_lines : Int32) (w_m : Int32) (w_root : Int32) (w_step : Int32) (w_lacks : Int32) (x3 : Int32) (x4 : Int32) (x5 : Int32) (x6 : Int32) (x7 : Int32) (x8 : Int32) (X : zX p s m args meth c RX7 cX7_give 10 wsX7_give G cy A) : ∀ (n : Nat) (x9 : Int32) (p_packed : Nat → Int32) (p_size : Int32) (rr : (Nat → Int32) × Int32) (h : lp (f_X7_give_l43 fu w_step x3 x4 x5 x6 x7 x8) n (x9, p_packed, p_size) = some rr) (H : Heap) (locs : List Loc) (ls : Array Slot) (hH : zH G A s.heap (wW cy wq (.ref (pq 0)) (.ref (hq 0)) w_m w_root w_step w_lacks ++ wP cy pq p_packed p_size ++ wH cy hq h_alive h_late h_hbr h_rbh h_waits h_pers h_size h_ranks h_lines) H locs) (hl : lv_has ls 10 [(0, .ref (wq 0)), (3, .int x3), (4, .int x4), (5, .int x5), (6, .int x6), (7, .int x7), (8, .int x8), (9, .int x9)]) (K0 : ∀ (H : Heap) (locs : List Loc) (ls : Array Slot), zH G A s.heap (wW cy wq (.ref (pq 0)) (.ref (hq 0)) w_m w_root w_step w_lacks ++ wP cy pq rr.1 rr.2 ++ wH cy hq h_alive h_late h_hbr h_rbh h_waits h_pers h_size h_ranks h_lines) H locs → lv_has ls 10 [] → W p l e (zR 1 28) s m args below meth c H locs 0 0 Q (F0 m 82 ls [])), W p l e (zR 1 28) s m args below meth c H locs 0 0 Q (F0 m 43 ls []) := by
  have hx := X.1.1
  have hb := X.1.2.1
  intro n
  induction n with
  | zero => intro x9 p_packed p_size rr h H locs ls hH hl K0; cases h
  | succ n ih =>
    intro x9 p_packed p_size rr h H locs ls hH hl K0
    replace h : f_X7_give_l43 fu w_step x3 x4 x5 x6 x7 x8 (lp (f_X7_give_l43 fu w_step x3 x4 x5 x6 x7 x8) n) (x9, p_packed, p_size) = some rr := h
    dsimp only [f_X7_give_l43] at h
    refine lv_iload (pc := 43) hx hb dX7_give_43 (lv_at hl 7 rfl) ?_
    refine lv_iload (pc := 45) hx hb dX7_give_45 (lv_at hl 3 rfl) ?_
    refine lv_icmp_ge (pc := 47) (tgt := 82) hx hb dX7_give_47 rfl (fun zc1 => ?_) (fun zc1 => ?_)
    · have h := zt zc1 h
      obtain rfl := Option.some.inj h
      exact K0 _ _ _ hH (lv_sub hl [] rfl)
    have h := zf zc1 h
    refine lv_aload_n (pc := 50) hx hb dX7_give_50 rfl (lv_at hl 0 rfl) ?_
    refine z_get (pc := 51) (v := .ref (pq 0)) X iX7_give_X7 hH 0 rfl rfl 0 rfl (List.mem_of_getElem? (i := 3) rfl) rfl dX7_give_51 ?_
    refine lv_aload_n (pc := 54) hx hb dX7_give_54 rfl (lv_at hl 0 rfl) ?_
    refine z_get (pc := 55) (v := .int w_step) X iX7_give_X7 hH 0 rfl rfl 4 rfl (List.mem_of_getElem? (i := 4) rfl) rfl dX7_give_55 ?_
    refine lv_iload (pc := 58) hx hb dX7_give_58 (lv_at hl 5 rfl) ?_
    refine lv_iload (pc := 60) hx hb dX7_give_60 (lv_at hl 6 rfl) ?_
    refine lv_iload_n (pc := 62) hx hb dX7_give_62 rfl (lv_at hl 1 rfl) ?_
    refine lv_iload (pc := 63) hx hb dX7_give_63 (lv_at hl 7 rfl) ?_
    refine lv_iadd (pc := 65) hx hb dX7_give_65 ?_
    refine lv_iload (pc := 66) hx hb dX7_give_66 (lv_at hl 2 rfl) ?_
    refine lv_iload (pc := 68) hx hb dX7_give_68 (lv_at hl 7 rfl) ?_
    refine lv_iadd (pc := 70) hx hb dX7_give_70 ?_
    refine lv_iload (pc := 71) hx hb dX7_give_71 (lv_at hl 4 rfl) ?_
    obtain ⟨zr2, hzr2, h⟩ := zb h
    refine zcV (pc := 73) (As := [.int w_step, .int x7, .int x8, .int (x3 + x9), .int (x4 + x9), .int x6]) (rest := []) (st1 := []) (ws' := wW cy wq (.ref (pq 0)) (.ref (hq 0)) w_m w_root w_step w_lacks ++ wP cy pq zr2.1 zr2.2 ++ wH cy hq h_alive h_late h_hbr h_rbh h_waits h_pers h_size h_ranks h_lines) (wr := [((wq 0), .inr (6, [(.ref (pq 0)), (.ref (hq 0)), .int w_m, .int w_root, .int w_step, .int w_lacks])), ((hq 0), .inr (2, [.ref (hq 1), .ref (hq 2), .ref (hq 3), .ref (hq 4), .ref (hq 5), .ref (hq 6), .int h_size, .int h_ranks, .int h_lines])), ((hq 1), .inl (cy 2, 16, .inl h_alive)), ((hq 2), .inl (cy 0, 16, .inl h_late)), ((hq 3), .inl (cy 0, 16, .inl h_hbr)), ((hq 4), .inl (cy 0, 16, .inl h_rbh)), ((hq 5), .inl (cy 0, 256, .inl h_waits)), ((hq 6), .inl (cy 0, 256, .inl h_pers))]) (n := 6) (q0 := 0) X (c_X4_place l G cy fu pq p_packed p_size w_step x7 x8 (x3 + x9) (x4 + x9) x6 zr2 hzr2) hH [1, 2] [0, 3, 4, 5, 6, 7, 8, 9] [0, 8, 9, 1, 2, 3, 4, 5, 6, 7] rfl rfl rfl rfl gX7_give_X4_place rfl ⟨rfl, rfl⟩ kX4_place ⟨Nat.le_of_ble_eq_true rfl, Nat.le_of_ble_eq_true rfl⟩ rfl rfl rfl rfl rfl hl.1 (Nat.le_of_ble_eq_true rfl) ⟨Nat.le_of_ble_eq_true rfl, Nat.le_of_ble_eq_true rfl⟩ dX7_give_73 (fun H locs hH => ?_)
    refine lv_iinc (pc := 76) (v := (x9 + 1)) (lv' := [(9, .int (x9 + 1)), (0, .ref (wq 0)), (3, .int x3), (4, .int x4), (5, .int x5), (6, .int x6), (7, .int x7), (8, .int x8)]) hx hb dX7_give_76 hl (k := 7) rfl (by rw [zk_c1]) (by decide) rfl (fun ls hl => ?_)
    refine lv_goto (pc := 79) (tgt := 43) hx hb dX7_give_79 rfl ?_
    exact ih (x9 + 1) zr2.1 zr2.2 rr h _ _ _ hH (lv_sub hl [1, 2, 3, 4, 5, 6, 7, 0] rfl) K0
set_option maxHeartbeats 4000000 in
set_option maxRecDepth 100000 in
theorem c_X7_give (l : Launch) (G : va_G) (cy : Nat → ClassId) (fu : Nat) (wq : Nat → Nat) (pq : Nat → Nat) (hq : Nat → Nat) (h_alive : Nat → Int32) (h_late : Nat → Int32) (h_hbr : Nat → Int32) (h_rbh : Nat → Int32) (h_waits : Nat → Int32) (h_pers : Nat → Int32) (h_size : Int32) (h_ranks : Int32) (h_lines : Int32) (p_packed : Nat → Int32) (p_size : Int32) (w_m : Int32) (w_root : Int32) (w_step : Int32) (w_lacks : Int32) (x1 : Int32) (x2 : Int32) (x3 : Int32) (x4 : Int32) (x5 : Int32) (x6 : Int32) (rr : (Nat → Int32) × Int32 × Int32) (h : f_X7_give fu h_hbr h_waits h_ranks p_packed p_size w_step w_lacks x1 x2 x3 x4 x5 x6 = some rr) : zM l G cy yX7_give wsX7_give (zR 1 28) [.ref (wq 0), .int x1, .int x2, .int x3, .int x4, .int x5, .int x6] (wW cy wq (.ref (pq 0)) (.ref (hq 0)) w_m w_root w_step w_lacks ++ wP cy pq p_packed p_size ++ wH cy hq h_alive h_late h_hbr h_rbh h_waits h_pers h_size h_ranks h_lines) (wW cy wq (.ref (pq 0)) (.ref (hq 0)) w_m w_root w_step rr.2.2 ++ wP cy pq rr.1 rr.2.1 ++ wH cy hq h_alive h_late h_hbr h_rbh h_waits h_pers h_size h_ranks h_lines) none := by
  refine zM.mk (cc := cX7_give) (nL := 10) (ret := none) (by decide) rfl (Nat.le_of_ble_eq_true rfl) ?_
  intro p e s m below meth c A ls X hr hH hl
  replace X : zX p s m [.ref (wq 0), .int x1, .int x2, .int x3, .int x4, .int x5, .int x6].toArray meth c RX7 cX7_give 10 wsX7_give G cy A := X
  have hx := X.1.1
  have hb := X.1.2.1
  replace hl : lv_has ls 10 [(0, .ref (wq 0)), (1, .int x1), (2, .int x2), (3, .int x3), (4, .int x4), (5, .int x5), (6, .int x6)] := hl
  dsimp only [f_X7_give] at h
  refine lv_aload_n (pc := 0) hx hb dX7_give_0 rfl (lv_at hl 0 rfl) ?_
  refine z_get (pc := 1) (v := .ref (hq 0)) X iX7_give_X7 hH 0 rfl rfl 1 rfl (List.mem_of_getElem? (i := 1) rfl) rfl dX7_give_1 ?_
  refine lv_iload_n (pc := 4) hx hb dX7_give_4 rfl (lv_at hl 1 rfl) ?_
  obtain ⟨zr1, hzr1, h⟩ := zb h
  refine zcV (pc := 5) (As := [.int x1]) (rest := []) (st1 := [.int zr1]) (ws' := wW cy wq (.ref (pq 0)) (.ref (hq 0)) w_m w_root w_step w_lacks ++ wP cy pq p_packed p_size ++ wH cy hq h_alive h_late h_hbr h_rbh h_waits h_pers h_size h_ranks h_lines) (wr := [((wq 0), .inr (6, [(.ref (pq 0)), (.ref (hq 0)), .int w_m, .int w_root, .int w_step, .int w_lacks])), ((pq 0), .inr (3, [.ref (pq 1), .int p_size])), ((pq 1), .inl (cy 0, 1200, .inl p_packed))]) (n := 1) (q0 := 0) X (c_X3_hostOf l G cy fu hq h_alive h_late h_hbr h_rbh h_waits h_pers h_size h_ranks h_lines x1 zr1 hzr1) hH [3, 4, 5, 6, 7, 8, 9] [0, 1, 2] [0, 1, 2, 3, 4, 5, 6, 7, 8, 9] rfl rfl rfl rfl gX7_give_X3_hostOf rfl ⟨rfl, rfl⟩ kX3_hostOf ⟨Nat.le_of_ble_eq_true rfl, Nat.le_of_ble_eq_true rfl⟩ rfl rfl rfl rfl rfl hl.1 (Nat.le_of_ble_eq_true rfl) ⟨Nat.le_of_ble_eq_true rfl, Nat.le_of_ble_eq_true rfl⟩ dX7_give_5 (fun H locs hH => ?_)
  refine lv_istore (pc := 8) (lv' := [(7, .int zr1), (0, .ref (wq 0)), (1, .int x1), (2, .int x2), (3, .int x3), (4, .int x4), (5, .int x5), (6, .int x6)]) hx hb dX7_give_8 hl (by decide) rfl (fun ls hl => ?_)
  refine lv_aload_n (pc := 10) hx hb dX7_give_10 rfl (lv_at hl 1 rfl) ?_
  refine z_get (pc := 11) (v := .ref (hq 0)) X iX7_give_X7 hH 0 rfl rfl 1 rfl (List.mem_of_getElem? (i := 1) rfl) rfl dX7_give_11 ?_
  refine lv_iload_n (pc := 14) hx hb dX7_give_14 rfl (lv_at hl 3 rfl) ?_
  obtain ⟨zr2, hzr2, h⟩ := zb h
  refine zcV (pc := 15) (As := [.int x2]) (rest := []) (st1 := [.int zr2]) (ws' := wW cy wq (.ref (pq 0)) (.ref (hq 0)) w_m w_root w_step w_lacks ++ wP cy pq p_packed p_size ++ wH cy hq h_alive h_late h_hbr h_rbh h_waits h_pers h_size h_ranks h_lines) (wr := [((wq 0), .inr (6, [(.ref (pq 0)), (.ref (hq 0)), .int w_m, .int w_root, .int w_step, .int w_lacks])), ((pq 0), .inr (3, [.ref (pq 1), .int p_size])), ((pq 1), .inl (cy 0, 1200, .inl p_packed))]) (n := 1) (q0 := 0) X (c_X3_hostOf l G cy fu hq h_alive h_late h_hbr h_rbh h_waits h_pers h_size h_ranks h_lines x2 zr2 hzr2) hH [3, 4, 5, 6, 7, 8, 9] [0, 1, 2] [0, 1, 2, 3, 4, 5, 6, 7, 8, 9] rfl rfl rfl rfl gX7_give_X3_hostOf rfl ⟨rfl, rfl⟩ kX3_hostOf ⟨Nat.le_of_ble_eq_true rfl, Nat.le_of_ble_eq_true rfl⟩ rfl rfl rfl rfl rfl hl.1 (Nat.le_of_ble_eq_true rfl) ⟨Nat.le_of_ble_eq_true rfl, Nat.le_of_ble_eq_true rfl⟩ dX7_give_15 (fun H locs hH => ?_)
  refine lv_istore (pc := 18) (lv' := [(8, .int zr2), (7, .int zr1), (0, .ref (wq 0)), (1, .int x1), (2, .int x2), (3, .int x3), (4, .int x4), (5, .int x5), (6, .int x6)]) hx hb dX7_give_18 hl (by decide) rfl (fun ls hl => ?_)
  refine lv_aload_n (pc := 20) hx hb dX7_give_20 rfl (lv_at hl 2 rfl) ?_
  refine z_get (pc := 21) (v := .ref (hq 0)) X iX7_give_X7 hH 0 rfl rfl 1 rfl (List.mem_of_getElem? (i := 1) rfl) rfl dX7_give_21 ?_
  refine lv_iload (pc := 24) hx hb dX7_give_24 (lv_at hl 1 rfl) ?_
  refine lv_iload (pc := 26) hx hb dX7_give_26 (lv_at hl 0 rfl) ?_
  obtain ⟨zr3, hzr3, h⟩ := zb h
  refine zcV (pc := 28) (As := [.int zr1, .int zr2]) (rest := []) (st1 := [.int zr3]) (ws' := wW cy wq (.ref (pq 0)) (.ref (hq 0)) w_m w_root w_step w_lacks ++ wP cy pq p_packed p_size ++ wH cy hq h_alive h_late h_hbr h_rbh h_waits h_pers h_size h_ranks h_lines) (wr := [((wq 0), .inr (6, [(.ref (pq 0)), (.ref (hq 0)), .int w_m, .int w_root, .int w_step, .int w_lacks])), ((pq 0), .inr (3, [.ref (pq 1), .int p_size])), ((pq 1), .inl (cy 0, 1200, .inl p_packed))]) (n := 2) (q0 := 0) X (c_X3_hasLine l G cy fu hq h_alive h_late h_hbr h_rbh h_waits h_pers h_size h_ranks h_lines zr1 zr2 zr3 hzr3) hH [3, 4, 5, 6, 7, 8, 9] [0, 1, 2] [0, 1, 2, 3, 4, 5, 6, 7, 8, 9] rfl rfl rfl rfl gX7_give_X3_hasLine rfl ⟨rfl, rfl⟩ kX3_hasLine ⟨Nat.le_of_ble_eq_true rfl, Nat.le_of_ble_eq_true rfl⟩ rfl rfl rfl rfl rfl hl.1 (Nat.le_of_ble_eq_true rfl) ⟨Nat.le_of_ble_eq_true rfl, Nat.le_of_ble_eq_true rfl⟩ dX7_give_28 (fun H locs hH => ?_)
  refine lv_if_ne (pc := 31) (tgt := 40) hx hb dX7_give_31 rfl (fun zc4 => ?_) (fun zc4 => ?_)
  · have h := zf zc4 h
    refine lv_iconst (v := 0) (pc := 40) hx hb dX7_give_40 zk_c0 ?_
    refine lv_istore (pc := 41) (lv' := [(9, .int 0), (8, .int zr2), (7, .int zr1), (0, .ref (wq 0)), (1, .int x1), (2, .int x2), (3, .int x3), (4, .int x4), (5, .int x5), (6, .int x6)]) hx hb dX7_give_41 hl (by decide) rfl (fun ls hl => ?_)
    obtain ⟨zr5, hzr5, h⟩ := zb h
    refine w_X7_give_l43 G cy fu wq pq hq h_alive h_late h_hbr h_rbh h_waits h_pers h_size h_ranks h_lines w_m w_root w_step w_lacks x3 x4 x5 x6 zr1 zr2 X fu 0 p_packed p_size zr5 hzr5 _ _ _ hH (lv_sub hl [3, 6, 7, 8, 9, 2, 1, 0] rfl) (fun H locs ls hH hl => ?_)
    obtain rfl := Option.some.inj h
    exact z_vret X hr hH dX7_give_82
  have h := zt zc4 h
  refine lv_aload_n (pc := 34) hx hb dX7_give_34 rfl (lv_at hl 2 rfl) ?_
  refine lv_iconst (v := 1) (pc := 35) hx hb dX7_give_35 zk_c1 ?_
  refine z_put (pc := 36) (v := .int 1) (ws' := wW cy wq (.ref (pq 0)) (.ref (hq 0)) w_m w_root w_step 1 ++ wP cy pq p_packed p_size ++ wH cy hq h_alive h_late h_hbr h_rbh h_waits h_pers h_size h_ranks h_lines) X iX7_give_X7 tyX7 tyX7_ok nmX7 hH 0 rfl rfl 5 rfl (List.mem_of_getElem? (i := 2) rfl) rfl rfl rfl rfl rfl dX7_give_36 (fun H locs hH => ?_)
  obtain rfl := Option.some.inj h
  exact z_vret X hr hH dX7_give_39
set_option maxHeartbeats 4000000 in
set_option maxRecDepth 100000 in
theorem c_X7_giveAll (l : Launch) (G : va_G) (cy : Nat → ClassId) (fu : Nat) (wq : Nat → Nat) (pq : Nat → Nat) (hq : Nat → Nat) (h_alive : Nat → Int32) (h_late : Nat → Int32) (h_hbr : Nat → Int32) (h_rbh : Nat → Int32) (h_waits : Nat → Int32) (h_pers : Nat → Int32) (h_size : Int32) (h_ranks : Int32) (h_lines : Int32) (p_packed : Nat → Int32) (p_size : Int32) (w_m : Int32) (w_root : Int32) (w_step : Int32) (w_lacks : Int32) (x1 : Int32) (x2 : Int32) (x3 : Int32) (rr : (Nat → Int32) × Int32 × Int32) (h : f_X7_giveAll fu h_hbr h_waits h_ranks p_packed p_size w_m w_step w_lacks x1 x2 x3 = some rr) : zM l G cy yX7_giveAll wsX7_giveAll (zR 2 57) [.ref (wq 0), .int x1, .int x2, .int x3] (wW cy wq (.ref (pq 0)) (.ref (hq 0)) w_m w_root w_step w_lacks ++ wP cy pq p_packed p_size ++ wH cy hq h_alive h_late h_hbr h_rbh h_waits h_pers h_size h_ranks h_lines) (wW cy wq (.ref (pq 0)) (.ref (hq 0)) w_m w_root w_step rr.2.2 ++ wP cy pq rr.1 rr.2.1 ++ wH cy hq h_alive h_late h_hbr h_rbh h_waits h_pers h_size h_ranks h_lines) none := by
  refine zM.mk (cc := cX7_giveAll) (nL := 4) (ret := none) (by decide) rfl (Nat.le_of_ble_eq_true rfl) ?_
  intro p e s m below meth c A ls X hr hH hl
  replace X : zX p s m [.ref (wq 0), .int x1, .int x2, .int x3].toArray meth c RX7 cX7_giveAll 4 wsX7_giveAll G cy A := X
  have hx := X.1.1
  have hb := X.1.2.1
  replace hl : lv_has ls 4 [(0, .ref (wq 0)), (1, .int x1), (2, .int x2), (3, .int x3)] := hl
  dsimp only [f_X7_giveAll] at h
  refine lv_aload_n (pc := 0) hx hb dX7_giveAll_0 rfl (lv_at hl 0 rfl) ?_
  refine lv_iload_n (pc := 1) hx hb dX7_giveAll_1 rfl (lv_at hl 1 rfl) ?_
  refine lv_iload_n (pc := 2) hx hb dX7_giveAll_2 rfl (lv_at hl 2 rfl) ?_
  refine lv_iconst (v := 0) (pc := 3) hx hb dX7_giveAll_3 zk_c0 ?_
  refine lv_iconst (v := 0) (pc := 4) hx hb dX7_giveAll_4 zk_c0 ?_
  refine lv_aload_n (pc := 5) hx hb dX7_giveAll_5 rfl (lv_at hl 0 rfl) ?_
  refine z_get (pc := 6) (v := .int w_m) X iX7_giveAll_X7 hH 0 rfl rfl 2 rfl (List.mem_of_getElem? (i := 1) rfl) rfl dX7_giveAll_6 ?_
  refine lv_iload_n (pc := 9) hx hb dX7_giveAll_9 rfl (lv_at hl 3 rfl) ?_
  obtain ⟨zr1, hzr1, h⟩ := zb h
  refine zcV (pc := 10) (As := [.int x1, .int x2, .int 0, .int 0, .int w_m, .int x3]) (rest := []) (st1 := []) (ws' := wW cy wq (.ref (pq 0)) (.ref (hq 0)) w_m w_root w_step zr1.2.2 ++ wP cy pq zr1.1 zr1.2.1 ++ wH cy hq h_alive h_late h_hbr h_rbh h_waits h_pers h_size h_ranks h_lines) (wr := []) (n := 6) (q0 := 0) X (c_X7_give l G cy fu wq pq hq h_alive h_late h_hbr h_rbh h_waits h_pers h_size h_ranks h_lines p_packed p_size w_m w_root w_step w_lacks x1 x2 0 0 w_m x3 zr1 hzr1) hH [0, 1, 2, 3, 4, 5, 6, 7, 8, 9] [] [0, 1, 2, 3, 4, 5, 6, 7, 8, 9] rfl rfl rfl rfl gX7_giveAll_X7_give rfl ⟨rfl, rfl⟩ kX7_give ⟨Nat.le_of_ble_eq_true rfl, Nat.le_of_ble_eq_true rfl⟩ rfl rfl rfl rfl rfl hl.1 (Nat.le_of_ble_eq_true rfl) ⟨Nat.le_of_ble_eq_true rfl, Nat.le_of_ble_eq_true rfl⟩ dX7_giveAll_10 (fun H locs hH => ?_)
  obtain rfl := Option.some.inj h
  exact z_vret X hr hH dX7_giveAll_13
set_option maxHeartbeats 4000000 in
set_option maxRecDepth 100000 in
theorem c_X7_endStep (l : Launch) (G : va_G) (cy : Nat → ClassId) (fu : Nat) (wq : Nat → Nat) (pq : Nat → Nat) (hq : Nat → Nat) (h_alive : Nat → Int32) (h_late : Nat → Int32) (h_hbr : Nat → Int32) (h_rbh : Nat → Int32) (h_waits : Nat → Int32) (h_pers : Nat → Int32) (h_size : Int32) (h_ranks : Int32) (h_lines : Int32) (p_packed : Nat → Int32) (p_size : Int32) (w_m : Int32) (w_root : Int32) (w_step : Int32) (w_lacks : Int32)  (rr : Int32) (h : f_X7_endStep fu p_packed p_size = some rr) : zM l G cy yX7_endStep wsX7_endStep (zR 1 20) [.ref (wq 0)] (wW cy wq (.ref (pq 0)) (.ref (hq 0)) w_m w_root w_step w_lacks ++ wP cy pq p_packed p_size ++ wH cy hq h_alive h_late h_hbr h_rbh h_waits h_pers h_size h_ranks h_lines) (wW cy wq (.ref (pq 0)) (.ref (hq 0)) w_m w_root rr w_lacks ++ wP cy pq p_packed p_size ++ wH cy hq h_alive h_late h_hbr h_rbh h_waits h_pers h_size h_ranks h_lines) none := by
  refine zM.mk (cc := cX7_endStep) (nL := 1) (ret := none) (by decide) rfl (Nat.le_of_ble_eq_true rfl) ?_
  intro p e s m below meth c A ls X hr hH hl
  replace X : zX p s m [.ref (wq 0)].toArray meth c RX7 cX7_endStep 1 wsX7_endStep G cy A := X
  have hx := X.1.1
  have hb := X.1.2.1
  replace hl : lv_has ls 1 [(0, .ref (wq 0))] := hl
  dsimp only [f_X7_endStep] at h
  refine lv_aload_n (pc := 0) hx hb dX7_endStep_0 rfl (lv_at hl 0 rfl) ?_
  refine lv_aload_n (pc := 1) hx hb dX7_endStep_1 rfl (lv_at hl 0 rfl) ?_
  refine z_get (pc := 2) (v := .ref (pq 0)) X iX7_endStep_X7 hH 0 rfl rfl 0 rfl (List.mem_of_getElem? (i := 1) rfl) rfl dX7_endStep_2 ?_
  obtain ⟨zr1, hzr1, h⟩ := zb h
  refine zcV (pc := 5) (As := []) (rest := [.ref (wq 0)]) (st1 := [.int zr1, .ref (wq 0)]) (ws' := wW cy wq (.ref (pq 0)) (.ref (hq 0)) w_m w_root w_step w_lacks ++ wP cy pq p_packed p_size ++ wH cy hq h_alive h_late h_hbr h_rbh h_waits h_pers h_size h_ranks h_lines) (wr := [((wq 0), .inr (6, [(.ref (pq 0)), (.ref (hq 0)), .int w_m, .int w_root, .int w_step, .int w_lacks])), ((hq 0), .inr (2, [.ref (hq 1), .ref (hq 2), .ref (hq 3), .ref (hq 4), .ref (hq 5), .ref (hq 6), .int h_size, .int h_ranks, .int h_lines])), ((hq 1), .inl (cy 2, 16, .inl h_alive)), ((hq 2), .inl (cy 0, 16, .inl h_late)), ((hq 3), .inl (cy 0, 16, .inl h_hbr)), ((hq 4), .inl (cy 0, 16, .inl h_rbh)), ((hq 5), .inl (cy 0, 256, .inl h_waits)), ((hq 6), .inl (cy 0, 256, .inl h_pers))]) (n := 0) (q0 := 0) X (c_X4_steps l G cy fu pq p_packed p_size zr1 hzr1) hH [1, 2] [0, 3, 4, 5, 6, 7, 8, 9] [0, 8, 9, 1, 2, 3, 4, 5, 6, 7] rfl rfl rfl rfl gX7_endStep_X4_steps rfl ⟨rfl, rfl⟩ kX4_steps ⟨Nat.le_of_ble_eq_true rfl, Nat.le_of_ble_eq_true rfl⟩ rfl rfl rfl rfl rfl hl.1 (Nat.le_of_ble_eq_true rfl) ⟨Nat.le_of_ble_eq_true rfl, Nat.le_of_ble_eq_true rfl⟩ dX7_endStep_5 (fun H locs hH => ?_)
  refine z_put (pc := 8) (v := .int zr1) (ws' := wW cy wq (.ref (pq 0)) (.ref (hq 0)) w_m w_root zr1 w_lacks ++ wP cy pq p_packed p_size ++ wH cy hq h_alive h_late h_hbr h_rbh h_waits h_pers h_size h_ranks h_lines) X iX7_endStep_X7 tyX7 tyX7_ok nmX7 hH 0 rfl rfl 4 rfl (List.mem_of_getElem? (i := 2) rfl) rfl rfl rfl rfl rfl dX7_endStep_8 (fun H locs hH => ?_)
  obtain rfl := Option.some.inj h
  exact z_vret X hr hH dX7_endStep_11
set_option maxHeartbeats 4000000 in
set_option maxRecDepth 100000 in
theorem w_X7_ringFromRoot_l2 {p : Program} {l : Launch} {e : Env} {s : State} {m : MethodId} {args : Array Value} {below : List Frame} {meth : Method} {c : Code} {A : Nat → Prop} {Q : State → Prop} (G : va_G) (cy : Nat → ClassId) (fu : Nat) (wq : Nat → Nat) (pq : Nat → Nat) (hq : Nat → Nat) (h_alive : Nat → Int32) (h_late : Nat → Int32) (h_hbr : Nat → Int32) (h_rbh : Nat → Int32) (h_waits : Nat → Int32) (h_pers : Nat → Int32) (h_size : Int32) (h_ranks : Int32) (h_lines : Int32) (w_m : Int32) (w_root : Int32) (x1 : Int32) (x2 : Int32) (X : zX p s m args meth c RX7 cX7_ringFromRoot 4 wsX7_ringFromRoot G cy A) : ∀ (n : Nat) (x3 : Int32) (p_packed : Nat → Int32) (p_size : Int32) (w_step : Int32) (w_lacks : Int32) (rr : (Nat → Int32) × Int32 × Int32 × Int32) (h : lp (f_X7_ringFromRoot_l2 fu h_hbr h_waits h_ranks w_m w_root x1 x2) n (x3, p_packed, p_size, w_step, w_lacks) = some rr) (H : Heap) (locs : List Loc) (ls : Array Slot) (hH : zH G A s.heap (wW cy wq (.ref (pq 0)) (.ref (hq 0)) w_m w_root w_step w_lacks ++ wP cy pq p_packed p_size ++ wH cy hq h_alive h_late h_hbr h_rbh h_waits h_pers h_size h_ranks h_lines) H locs) (hl : lv_has ls 4 [(0, .ref (wq 0)), (1, .int x1), (2, .int x2), (3, .int x3)]) (K0 : ∀ (H : Heap) (locs : List Loc) (ls : Array Slot), zH G A s.heap (wW cy wq (.ref (pq 0)) (.ref (hq 0)) w_m w_root rr.2.2.1 rr.2.2.2 ++ wP cy pq rr.1 rr.2.1 ++ wH cy hq h_alive h_late h_hbr h_rbh h_waits h_pers h_size h_ranks h_lines) H locs → lv_has ls 4 [] → W p l e (zR 3 80) s m args below meth c H locs 0 0 Q (F0 m 43 ls [])), W p l e (zR 3 80) s m args below meth c H locs 0 0 Q (F0 m 2 ls []) := by
  have hx := X.1.1
  have hb := X.1.2.1
  intro n
  induction n with
  | zero => intro x3 p_packed p_size w_step w_lacks rr h H locs ls hH hl K0; cases h
  | succ n ih =>
    intro x3 p_packed p_size w_step w_lacks rr h H locs ls hH hl K0
    replace h : f_X7_ringFromRoot_l2 fu h_hbr h_waits h_ranks w_m w_root x1 x2 (lp (f_X7_ringFromRoot_l2 fu h_hbr h_waits h_ranks w_m w_root x1 x2) n) (x3, p_packed, p_size, w_step, w_lacks) = some rr := h
    dsimp only [f_X7_ringFromRoot_l2] at h
    refine lv_iload_n (pc := 2) hx hb dX7_ringFromRoot_2 rfl (lv_at hl 3 rfl) ?_
    refine lv_aload_n (pc := 3) hx hb dX7_ringFromRoot_3 rfl (lv_at hl 0 rfl) ?_
    refine z_get (pc := 4) (v := .int w_m) X iX7_ringFromRoot_X7 hH 0 rfl rfl 2 rfl (List.mem_of_getElem? (i := 1) rfl) rfl dX7_ringFromRoot_4 ?_
    refine lv_iconst (v := 1) (pc := 7) hx hb dX7_ringFromRoot_7 zk_c1 ?_
    refine lv_isub (pc := 8) hx hb dX7_ringFromRoot_8 ?_
    refine lv_icmp_ge (pc := 9) (tgt := 43) hx hb dX7_ringFromRoot_9 rfl (fun zc1 => ?_) (fun zc1 => ?_)
    · have h := zt zc1 h
      obtain rfl := Option.some.inj h
      exact K0 _ _ _ hH (lv_sub hl [] rfl)
    have h := zf zc1 h
    refine lv_aload_n (pc := 12) hx hb dX7_ringFromRoot_12 rfl (lv_at hl 0 rfl) ?_
    refine lv_aload_n (pc := 13) hx hb dX7_ringFromRoot_13 rfl (lv_at hl 0 rfl) ?_
    refine lv_iload_n (pc := 14) hx hb dX7_ringFromRoot_14 rfl (lv_at hl 3 rfl) ?_
    refine lv_iload_n (pc := 15) hx hb dX7_ringFromRoot_15 rfl (lv_at hl 1 rfl) ?_
    refine lv_iadd (pc := 16) hx hb dX7_ringFromRoot_16 ?_
    obtain ⟨zr2, hzr2, h⟩ := zb h
    refine zcV (pc := 17) (As := [.int (x3 + x1)]) (rest := [.ref (wq 0)]) (st1 := [.int zr2, .ref (wq 0)]) (ws' := wW cy wq (.ref (pq 0)) (.ref (hq 0)) w_m w_root w_step w_lacks ++ wP cy pq p_packed p_size ++ wH cy hq h_alive h_late h_hbr h_rbh h_waits h_pers h_size h_ranks h_lines) (wr := [((pq 0), .inr (3, [.ref (pq 1), .int p_size])), ((pq 1), .inl (cy 0, 1200, .inl p_packed)), ((hq 0), .inr (2, [.ref (hq 1), .ref (hq 2), .ref (hq 3), .ref (hq 4), .ref (hq 5), .ref (hq 6), .int h_size, .int h_ranks, .int h_lines])), ((hq 1), .inl (cy 2, 16, .inl h_alive)), ((hq 2), .inl (cy 0, 16, .inl h_late)), ((hq 3), .inl (cy 0, 16, .inl h_hbr)), ((hq 4), .inl (cy 0, 16, .inl h_rbh)), ((hq 5), .inl (cy 0, 256, .inl h_waits)), ((hq 6), .inl (cy 0, 256, .inl h_pers))]) (n := 1) (q0 := 0) X (c_X7_rankOfQ l G cy fu wq (.ref (pq 0)) (.ref (hq 0)) w_m w_root w_step w_lacks (x3 + x1) zr2 hzr2) hH [0] [1, 2, 3, 4, 5, 6, 7, 8, 9] [9, 0, 1, 2, 3, 4, 5, 6, 7, 8] rfl rfl rfl rfl gX7_ringFromRoot_X7_rankOfQ rfl ⟨rfl, rfl⟩ kX7_rankOfQ ⟨Nat.le_of_ble_eq_true rfl, Nat.le_of_ble_eq_true rfl⟩ rfl rfl rfl rfl rfl hl.1 (Nat.le_of_ble_eq_true rfl) ⟨Nat.le_of_ble_eq_true rfl, Nat.le_of_ble_eq_true rfl⟩ dX7_ringFromRoot_17 (fun H locs hH => ?_)
    refine lv_aload_n (pc := 20) hx hb dX7_ringFromRoot_20 rfl (lv_at hl 0 rfl) ?_
    refine lv_iload_n (pc := 21) hx hb dX7_ringFromRoot_21 rfl (lv_at hl 3 rfl) ?_
    refine lv_iload_n (pc := 22) hx hb dX7_ringFromRoot_22 rfl (lv_at hl 1 rfl) ?_
    refine lv_iadd (pc := 23) hx hb dX7_ringFromRoot_23 ?_
    refine lv_iconst (v := 1) (pc := 24) hx hb dX7_ringFromRoot_24 zk_c1 ?_
    refine lv_iadd (pc := 25) hx hb dX7_ringFromRoot_25 ?_
    obtain ⟨zr3, hzr3, h⟩ := zb h
    refine zcV (pc := 26) (As := [.int ((x3 + x1) + 1)]) (rest := [.int zr2, .ref (wq 0)]) (st1 := [.int zr3, .int zr2, .ref (wq 0)]) (ws' := wW cy wq (.ref (pq 0)) (.ref (hq 0)) w_m w_root w_step w_lacks ++ wP cy pq p_packed p_size ++ wH cy hq h_alive h_late h_hbr h_rbh h_waits h_pers h_size h_ranks h_lines) (wr := [((pq 0), .inr (3, [.ref (pq 1), .int p_size])), ((pq 1), .inl (cy 0, 1200, .inl p_packed)), ((hq 0), .inr (2, [.ref (hq 1), .ref (hq 2), .ref (hq 3), .ref (hq 4), .ref (hq 5), .ref (hq 6), .int h_size, .int h_ranks, .int h_lines])), ((hq 1), .inl (cy 2, 16, .inl h_alive)), ((hq 2), .inl (cy 0, 16, .inl h_late)), ((hq 3), .inl (cy 0, 16, .inl h_hbr)), ((hq 4), .inl (cy 0, 16, .inl h_rbh)), ((hq 5), .inl (cy 0, 256, .inl h_waits)), ((hq 6), .inl (cy 0, 256, .inl h_pers))]) (n := 1) (q0 := 0) X (c_X7_rankOfQ l G cy fu wq (.ref (pq 0)) (.ref (hq 0)) w_m w_root w_step w_lacks ((x3 + x1) + 1) zr3 hzr3) hH [0] [1, 2, 3, 4, 5, 6, 7, 8, 9] [9, 0, 1, 2, 3, 4, 5, 6, 7, 8] rfl rfl rfl rfl gX7_ringFromRoot_X7_rankOfQ rfl ⟨rfl, rfl⟩ kX7_rankOfQ ⟨Nat.le_of_ble_eq_true rfl, Nat.le_of_ble_eq_true rfl⟩ rfl rfl rfl rfl rfl hl.1 (Nat.le_of_ble_eq_true rfl) ⟨Nat.le_of_ble_eq_true rfl, Nat.le_of_ble_eq_true rfl⟩ dX7_ringFromRoot_26 (fun H locs hH => ?_)
    refine lv_iload_n (pc := 29) hx hb dX7_ringFromRoot_29 rfl (lv_at hl 2 rfl) ?_
    obtain ⟨zr4, hzr4, h⟩ := zb h
    refine zcV (pc := 30) (As := [.int zr2, .int zr3, .int x2]) (rest := []) (st1 := []) (ws' := wW cy wq (.ref (pq 0)) (.ref (hq 0)) w_m w_root w_step zr4.2.2 ++ wP cy pq zr4.1 zr4.2.1 ++ wH cy hq h_alive h_late h_hbr h_rbh h_waits h_pers h_size h_ranks h_lines) (wr := []) (n := 3) (q0 := 0) X (c_X7_giveAll l G cy fu wq pq hq h_alive h_late h_hbr h_rbh h_waits h_pers h_size h_ranks h_lines p_packed p_size w_m w_root w_step w_lacks zr2 zr3 x2 zr4 hzr4) hH [0, 1, 2, 3, 4, 5, 6, 7, 8, 9] [] [0, 1, 2, 3, 4, 5, 6, 7, 8, 9] rfl rfl rfl rfl gX7_ringFromRoot_X7_giveAll rfl ⟨rfl, rfl⟩ kX7_giveAll ⟨Nat.le_of_ble_eq_true rfl, Nat.le_of_ble_eq_true rfl⟩ rfl rfl rfl rfl rfl hl.1 (Nat.le_of_ble_eq_true rfl) ⟨Nat.le_of_ble_eq_true rfl, Nat.le_of_ble_eq_true rfl⟩ dX7_ringFromRoot_30 (fun H locs hH => ?_)
    refine lv_aload_n (pc := 33) hx hb dX7_ringFromRoot_33 rfl (lv_at hl 0 rfl) ?_
    obtain ⟨zr5, hzr5, h⟩ := zb h
    refine zcV (pc := 34) (As := []) (rest := []) (st1 := []) (ws' := wW cy wq (.ref (pq 0)) (.ref (hq 0)) w_m w_root zr5 zr4.2.2 ++ wP cy pq zr4.1 zr4.2.1 ++ wH cy hq h_alive h_late h_hbr h_rbh h_waits h_pers h_size h_ranks h_lines) (wr := []) (n := 0) (q0 := 0) X (c_X7_endStep l G cy fu wq pq hq h_alive h_late h_hbr h_rbh h_waits h_pers h_size h_ranks h_lines zr4.1 zr4.2.1 w_m w_root w_step zr4.2.2 zr5 hzr5) hH [0, 1, 2, 3, 4, 5, 6, 7, 8, 9] [] [0, 1, 2, 3, 4, 5, 6, 7, 8, 9] rfl rfl rfl rfl gX7_ringFromRoot_X7_endStep rfl ⟨rfl, rfl⟩ kX7_endStep ⟨Nat.le_of_ble_eq_true rfl, Nat.le_of_ble_eq_true rfl⟩ rfl rfl rfl rfl rfl hl.1 (Nat.le_of_ble_eq_true rfl) ⟨Nat.le_of_ble_eq_true rfl, Nat.le_of_ble_eq_true rfl⟩ dX7_ringFromRoot_34 (fun H locs hH => ?_)
    refine lv_iinc (pc := 37) (v := (x3 + 1)) (lv' := [(3, .int (x3 + 1)), (0, .ref (wq 0)), (1, .int x1), (2, .int x2)]) hx hb dX7_ringFromRoot_37 hl (k := 3) rfl (by rw [zk_c1]) (by decide) rfl (fun ls hl => ?_)
    refine lv_goto (pc := 40) (tgt := 2) hx hb dX7_ringFromRoot_40 rfl ?_
    exact ih (x3 + 1) zr4.1 zr4.2.1 zr5 zr4.2.2 rr h _ _ _ hH (lv_sub hl [1, 2, 3, 0] rfl) K0
set_option maxHeartbeats 4000000 in
set_option maxRecDepth 100000 in
theorem c_X7_ringFromRoot (l : Launch) (G : va_G) (cy : Nat → ClassId) (fu : Nat) (wq : Nat → Nat) (pq : Nat → Nat) (hq : Nat → Nat) (h_alive : Nat → Int32) (h_late : Nat → Int32) (h_hbr : Nat → Int32) (h_rbh : Nat → Int32) (h_waits : Nat → Int32) (h_pers : Nat → Int32) (h_size : Int32) (h_ranks : Int32) (h_lines : Int32) (p_packed : Nat → Int32) (p_size : Int32) (w_m : Int32) (w_root : Int32) (w_step : Int32) (w_lacks : Int32) (x1 : Int32) (x2 : Int32) (rr : (Nat → Int32) × Int32 × Int32 × Int32) (h : f_X7_ringFromRoot fu h_hbr h_waits h_ranks p_packed p_size w_m w_root w_step w_lacks x1 x2 = some rr) : zM l G cy yX7_ringFromRoot wsX7_ringFromRoot (zR 3 80) [.ref (wq 0), .int x1, .int x2] (wW cy wq (.ref (pq 0)) (.ref (hq 0)) w_m w_root w_step w_lacks ++ wP cy pq p_packed p_size ++ wH cy hq h_alive h_late h_hbr h_rbh h_waits h_pers h_size h_ranks h_lines) (wW cy wq (.ref (pq 0)) (.ref (hq 0)) w_m w_root rr.2.2.1 rr.2.2.2 ++ wP cy pq rr.1 rr.2.1 ++ wH cy hq h_alive h_late h_hbr h_rbh h_waits h_pers h_size h_ranks h_lines) none := by
  refine zM.mk (cc := cX7_ringFromRoot) (nL := 4) (ret := none) (by decide) rfl (Nat.le_of_ble_eq_true rfl) ?_
  intro p e s m below meth c A ls X hr hH hl
  replace X : zX p s m [.ref (wq 0), .int x1, .int x2].toArray meth c RX7 cX7_ringFromRoot 4 wsX7_ringFromRoot G cy A := X
  have hx := X.1.1
  have hb := X.1.2.1
  replace hl : lv_has ls 4 [(0, .ref (wq 0)), (1, .int x1), (2, .int x2)] := hl
  dsimp only [f_X7_ringFromRoot] at h
  refine lv_iconst (v := 0) (pc := 0) hx hb dX7_ringFromRoot_0 zk_c0 ?_
  refine lv_istore_n (pc := 1) (lv' := [(3, .int 0), (0, .ref (wq 0)), (1, .int x1), (2, .int x2)]) hx hb dX7_ringFromRoot_1 rfl hl (by decide) rfl (fun ls hl => ?_)
  obtain ⟨zr1, hzr1, h⟩ := zb h
  refine w_X7_ringFromRoot_l2 G cy fu wq pq hq h_alive h_late h_hbr h_rbh h_waits h_pers h_size h_ranks h_lines w_m w_root x1 x2 X fu 0 p_packed p_size w_step w_lacks zr1 hzr1 _ _ _ hH (lv_sub hl [1, 2, 3, 0] rfl) (fun H locs ls hH hl => ?_)
  obtain rfl := Option.some.inj h
  exact z_vret X hr hH dX7_ringFromRoot_43
set_option maxHeartbeats 4000000 in
set_option maxRecDepth 100000 in
theorem w_X7_ringOfAll_l15 {p : Program} {l : Launch} {e : Env} {s : State} {m : MethodId} {args : Array Value} {below : List Frame} {meth : Method} {c : Code} {A : Nat → Prop} {Q : State → Prop} (G : va_G) (cy : Nat → ClassId) (fu : Nat) (wq : Nat → Nat) (pq : Nat → Nat) (hq : Nat → Nat) (h_alive : Nat → Int32) (h_late : Nat → Int32) (h_hbr : Nat → Int32) (h_rbh : Nat → Int32) (h_waits : Nat → Int32) (h_pers : Nat → Int32) (h_size : Int32) (h_ranks : Int32) (h_lines : Int32) (w_m : Int32) (w_root : Int32) (w_step : Int32) (x1 : Int32) (x2 : Int32) (x3 : Int32) (X : zX p s m args meth c RX7 cX7_ringOfAll 6 wsX7_ringOfAll G cy A) : ∀ (n : Nat) (x4 : Int32) (p_packed : Nat → Int32) (p_size : Int32) (w_lacks : Int32) (rr : (Nat → Int32) × Int32 × Int32) (h : lp (f_X7_ringOfAll_l15 fu h_hbr h_waits h_ranks w_m w_step x1 x2 x3) n (x4, p_packed, p_size, w_lacks) = some rr) (H : Heap) (locs : List Loc) (ls : Array Slot) (hH : zH G A s.heap (wW cy wq (.ref (pq 0)) (.ref (hq 0)) w_m w_root w_step w_lacks ++ wP cy pq p_packed p_size ++ wH cy hq h_alive h_late h_hbr h_rbh h_waits h_pers h_size h_ranks h_lines) H locs) (hl : lv_has ls 6 [(0, .ref (wq 0)), (1, .int x1), (2, .int x2), (3, .int x3), (4, .int x4)]) (K0 : ∀ (H : Heap) (locs : List Loc) (ls : Array Slot), zH G A s.heap (wW cy wq (.ref (pq 0)) (.ref (hq 0)) w_m w_root w_step rr.2.2 ++ wP cy pq rr.1 rr.2.1 ++ wH cy hq h_alive h_late h_hbr h_rbh h_waits h_pers h_size h_ranks h_lines) H locs → lv_has ls 6 [(0, .ref (wq 0)), (1, .int x1), (2, .int x2), (3, .int x3)] → W p l e (zR 2 57) s m args below meth c H locs 0 0 Q (F0 m 62 ls [])), W p l e (zR 2 57) s m args below meth c H locs 0 0 Q (F0 m 15 ls []) := by
  have hx := X.1.1
  have hb := X.1.2.1
  intro n
  induction n with
  | zero => intro x4 p_packed p_size w_lacks rr h H locs ls hH hl K0; cases h
  | succ n ih =>
    intro x4 p_packed p_size w_lacks rr h H locs ls hH hl K0
    replace h : f_X7_ringOfAll_l15 fu h_hbr h_waits h_ranks w_m w_step x1 x2 x3 (lp (f_X7_ringOfAll_l15 fu h_hbr h_waits h_ranks w_m w_step x1 x2 x3) n) (x4, p_packed, p_size, w_lacks) = some rr := h
    dsimp only [f_X7_ringOfAll_l15] at h
    refine lv_iload (pc := 15) hx hb dX7_ringOfAll_15 (lv_at hl 4 rfl) ?_
    refine lv_aload_n (pc := 17) hx hb dX7_ringOfAll_17 rfl (lv_at hl 0 rfl) ?_
    refine z_get (pc := 18) (v := .int w_m) X iX7_ringOfAll_X7 hH 0 rfl rfl 2 rfl (List.mem_of_getElem? (i := 1) rfl) rfl dX7_ringOfAll_18 ?_
    refine lv_icmp_ge (pc := 21) (tgt := 62) hx hb dX7_ringOfAll_21 rfl (fun zc1 => ?_) (fun zc1 => ?_)
    · have h := zt zc1 h
      obtain rfl := Option.some.inj h
      exact K0 _ _ _ hH (lv_sub hl [0, 1, 2, 3] rfl)
    have h := zf zc1 h
    refine lv_aload_n (pc := 24) hx hb dX7_ringOfAll_24 rfl (lv_at hl 0 rfl) ?_
    refine lv_iload (pc := 25) hx hb dX7_ringOfAll_25 (lv_at hl 4 rfl) ?_
    refine lv_iload_n (pc := 27) hx hb dX7_ringOfAll_27 rfl (lv_at hl 1 rfl) ?_
    refine lv_iadd (pc := 28) hx hb dX7_ringOfAll_28 ?_
    refine lv_iload_n (pc := 29) hx hb dX7_ringOfAll_29 rfl (lv_at hl 3 rfl) ?_
    refine lv_isub (pc := 30) hx hb dX7_ringOfAll_30 ?_
    obtain ⟨zr2, hzr2, h⟩ := zb h
    refine zcV (pc := 31) (As := [.int ((x4 + x1) - x3)]) (rest := []) (st1 := [.int zr2]) (ws' := wW cy wq (.ref (pq 0)) (.ref (hq 0)) w_m w_root w_step w_lacks ++ wP cy pq p_packed p_size ++ wH cy hq h_alive h_late h_hbr h_rbh h_waits h_pers h_size h_ranks h_lines) (wr := [((pq 0), .inr (3, [.ref (pq 1), .int p_size])), ((pq 1), .inl (cy 0, 1200, .inl p_packed)), ((hq 0), .inr (2, [.ref (hq 1), .ref (hq 2), .ref (hq 3), .ref (hq 4), .ref (hq 5), .ref (hq 6), .int h_size, .int h_ranks, .int h_lines])), ((hq 1), .inl (cy 2, 16, .inl h_alive)), ((hq 2), .inl (cy 0, 16, .inl h_late)), ((hq 3), .inl (cy 0, 16, .inl h_hbr)), ((hq 4), .inl (cy 0, 16, .inl h_rbh)), ((hq 5), .inl (cy 0, 256, .inl h_waits)), ((hq 6), .inl (cy 0, 256, .inl h_pers))]) (n := 1) (q0 := 0) X (c_X7_byM l G cy fu wq (.ref (pq 0)) (.ref (hq 0)) w_m w_root w_step w_lacks ((x4 + x1) - x3) zr2 hzr2) hH [0] [1, 2, 3, 4, 5, 6, 7, 8, 9] [9, 0, 1, 2, 3, 4, 5, 6, 7, 8] rfl rfl rfl rfl gX7_ringOfAll_X7_byM rfl ⟨rfl, rfl⟩ kX7_byM ⟨Nat.le_of_ble_eq_true rfl, Nat.le_of_ble_eq_true rfl⟩ rfl rfl rfl rfl rfl hl.1 (Nat.le_of_ble_eq_true rfl) ⟨Nat.le_of_ble_eq_true rfl, Nat.le_of_ble_eq_true rfl⟩ dX7_ringOfAll_31 (fun H locs hH => ?_)
    refine lv_istore (pc := 34) (lv' := [(5, .int zr2), (0, .ref (wq 0)), (1, .int x1), (2, .int x2), (3, .int x3), (4, .int x4)]) hx hb dX7_ringOfAll_34 hl (by decide) rfl (fun ls hl => ?_)
    refine lv_aload_n (pc := 36) hx hb dX7_ringOfAll_36 rfl (lv_at hl 1 rfl) ?_
    refine lv_iload (pc := 37) hx hb dX7_ringOfAll_37 (lv_at hl 5 rfl) ?_
    refine lv_aload_n (pc := 39) hx hb dX7_ringOfAll_39 rfl (lv_at hl 1 rfl) ?_
    refine lv_iload (pc := 40) hx hb dX7_ringOfAll_40 (lv_at hl 5 rfl) ?_
    refine lv_iconst (v := 1) (pc := 42) hx hb dX7_ringOfAll_42 zk_c1 ?_
    refine lv_iadd (pc := 43) hx hb dX7_ringOfAll_43 ?_
    obtain ⟨zr3, hzr3, h⟩ := zb h
    refine zcV (pc := 44) (As := [.int (x4 + 1)]) (rest := [.int x4, .ref (wq 0)]) (st1 := [.int zr3, .int x4, .ref (wq 0)]) (ws' := wW cy wq (.ref (pq 0)) (.ref (hq 0)) w_m w_root w_step w_lacks ++ wP cy pq p_packed p_size ++ wH cy hq h_alive h_late h_hbr h_rbh h_waits h_pers h_size h_ranks h_lines) (wr := [((pq 0), .inr (3, [.ref (pq 1), .int p_size])), ((pq 1), .inl (cy 0, 1200, .inl p_packed)), ((hq 0), .inr (2, [.ref (hq 1), .ref (hq 2), .ref (hq 3), .ref (hq 4), .ref (hq 5), .ref (hq 6), .int h_size, .int h_ranks, .int h_lines])), ((hq 1), .inl (cy 2, 16, .inl h_alive)), ((hq 2), .inl (cy 0, 16, .inl h_late)), ((hq 3), .inl (cy 0, 16, .inl h_hbr)), ((hq 4), .inl (cy 0, 16, .inl h_rbh)), ((hq 5), .inl (cy 0, 256, .inl h_waits)), ((hq 6), .inl (cy 0, 256, .inl h_pers))]) (n := 1) (q0 := 0) X (c_X7_byM l G cy fu wq (.ref (pq 0)) (.ref (hq 0)) w_m w_root w_step w_lacks (x4 + 1) zr3 hzr3) hH [0] [1, 2, 3, 4, 5, 6, 7, 8, 9] [9, 0, 1, 2, 3, 4, 5, 6, 7, 8] rfl rfl rfl rfl gX7_ringOfAll_X7_byM rfl ⟨rfl, rfl⟩ kX7_byM ⟨Nat.le_of_ble_eq_true rfl, Nat.le_of_ble_eq_true rfl⟩ rfl rfl rfl rfl rfl hl.1 (Nat.le_of_ble_eq_true rfl) ⟨Nat.le_of_ble_eq_true rfl, Nat.le_of_ble_eq_true rfl⟩ dX7_ringOfAll_44 (fun H locs hH => ?_)
    refine lv_iload (pc := 47) hx hb dX7_ringOfAll_47 (lv_at hl 0 rfl) ?_
    refine lv_iload (pc := 49) hx hb dX7_ringOfAll_49 (lv_at hl 0 rfl) ?_
    refine lv_iconst (v := 1) (pc := 51) hx hb dX7_ringOfAll_51 zk_c1 ?_
    refine lv_iload_n (pc := 52) hx hb dX7_ringOfAll_52 rfl (lv_at hl 3 rfl) ?_
    obtain ⟨zr4, hzr4, h⟩ := zb h
    refine zcV (pc := 53) (As := [.int x4, .int zr3, .int zr2, .int zr2, .int 1, .int x2]) (rest := []) (st1 := []) (ws' := wW cy wq (.ref (pq 0)) (.ref (hq 0)) w_m w_root w_step zr4.2.2 ++ wP cy pq zr4.1 zr4.2.1 ++ wH cy hq h_alive h_late h_hbr h_rbh h_waits h_pers h_size h_ranks h_lines) (wr := []) (n := 6) (q0 := 0) X (c_X7_give l G cy fu wq pq hq h_alive h_late h_hbr h_rbh h_waits h_pers h_size h_ranks h_lines p_packed p_size w_m w_root w_step w_lacks x4 zr3 zr2 zr2 1 x2 zr4 hzr4) hH [0, 1, 2, 3, 4, 5, 6, 7, 8, 9] [] [0, 1, 2, 3, 4, 5, 6, 7, 8, 9] rfl rfl rfl rfl gX7_ringOfAll_X7_give rfl ⟨rfl, rfl⟩ kX7_give ⟨Nat.le_of_ble_eq_true rfl, Nat.le_of_ble_eq_true rfl⟩ rfl rfl rfl rfl rfl hl.1 (Nat.le_of_ble_eq_true rfl) ⟨Nat.le_of_ble_eq_true rfl, Nat.le_of_ble_eq_true rfl⟩ dX7_ringOfAll_53 (fun H locs hH => ?_)
    refine lv_iinc (pc := 56) (v := (x4 + 1)) (lv' := [(4, .int (x4 + 1)), (5, .int zr2), (0, .ref (wq 0)), (1, .int x1), (2, .int x2), (3, .int x3)]) hx hb dX7_ringOfAll_56 hl (k := 5) rfl (by rw [zk_c1]) (by decide) rfl (fun ls hl => ?_)
    refine lv_goto (pc := 59) (tgt := 15) hx hb dX7_ringOfAll_59 rfl ?_
    exact ih (x4 + 1) zr4.1 zr4.2.1 zr4.2.2 rr h _ _ _ hH (lv_sub hl [2, 3, 4, 5, 0] rfl) K0
set_option maxHeartbeats 4000000 in
set_option maxRecDepth 100000 in
theorem w_X7_ringOfAll_l2 {p : Program} {l : Launch} {e : Env} {s : State} {m : MethodId} {args : Array Value} {below : List Frame} {meth : Method} {c : Code} {A : Nat → Prop} {Q : State → Prop} (G : va_G) (cy : Nat → ClassId) (fu : Nat) (wq : Nat → Nat) (pq : Nat → Nat) (hq : Nat → Nat) (h_alive : Nat → Int32) (h_late : Nat → Int32) (h_hbr : Nat → Int32) (h_rbh : Nat → Int32) (h_waits : Nat → Int32) (h_pers : Nat → Int32) (h_size : Int32) (h_ranks : Int32) (h_lines : Int32) (w_m : Int32) (w_root : Int32) (x1 : Int32) (x2 : Int32) (X : zX p s m args meth c RX7 cX7_ringOfAll 6 wsX7_ringOfAll G cy A) : ∀ (n : Nat) (x3 : Int32) (p_packed : Nat → Int32) (p_size : Int32) (w_step : Int32) (w_lacks : Int32) (rr : (Nat → Int32) × Int32 × Int32 × Int32) (h : lp (f_X7_ringOfAll_l2 fu h_hbr h_waits h_ranks w_m x1 x2) n (x3, p_packed, p_size, w_step, w_lacks) = some rr) (H : Heap) (locs : List Loc) (ls : Array Slot) (hH : zH G A s.heap (wW cy wq (.ref (pq 0)) (.ref (hq 0)) w_m w_root w_step w_lacks ++ wP cy pq p_packed p_size ++ wH cy hq h_alive h_late h_hbr h_rbh h_waits h_pers h_size h_ranks h_lines) H locs) (hl : lv_has ls 6 [(0, .ref (wq 0)), (1, .int x1), (2, .int x2), (3, .int x3)]) (K0 : ∀ (H : Heap) (locs : List Loc) (ls : Array Slot), zH G A s.heap (wW cy wq (.ref (pq 0)) (.ref (hq 0)) w_m w_root rr.2.2.1 rr.2.2.2 ++ wP cy pq rr.1 rr.2.1 ++ wH cy hq h_alive h_late h_hbr h_rbh h_waits h_pers h_size h_ranks h_lines) H locs → lv_has ls 6 [] → W p l e (zR 2 57) s m args below meth c H locs 0 0 Q (F0 m 72 ls [])), W p l e (zR 2 57) s m args below meth c H locs 0 0 Q (F0 m 2 ls []) := by
  have hx := X.1.1
  have hb := X.1.2.1
  intro n
  induction n with
  | zero => intro x3 p_packed p_size w_step w_lacks rr h H locs ls hH hl K0; cases h
  | succ n ih =>
    intro x3 p_packed p_size w_step w_lacks rr h H locs ls hH hl K0
    replace h : f_X7_ringOfAll_l2 fu h_hbr h_waits h_ranks w_m x1 x2 (lp (f_X7_ringOfAll_l2 fu h_hbr h_waits h_ranks w_m x1 x2) n) (x3, p_packed, p_size, w_step, w_lacks) = some rr := h
    dsimp only [f_X7_ringOfAll_l2] at h
    refine lv_iload_n (pc := 2) hx hb dX7_ringOfAll_2 rfl (lv_at hl 3 rfl) ?_
    refine lv_aload_n (pc := 3) hx hb dX7_ringOfAll_3 rfl (lv_at hl 0 rfl) ?_
    refine z_get (pc := 4) (v := .int w_m) X iX7_ringOfAll_X7 hH 0 rfl rfl 2 rfl (List.mem_of_getElem? (i := 1) rfl) rfl dX7_ringOfAll_4 ?_
    refine lv_iconst (v := 1) (pc := 7) hx hb dX7_ringOfAll_7 zk_c1 ?_
    refine lv_isub (pc := 8) hx hb dX7_ringOfAll_8 ?_
    refine lv_icmp_ge (pc := 9) (tgt := 72) hx hb dX7_ringOfAll_9 rfl (fun zc1 => ?_) (fun zc1 => ?_)
    · have h := zt zc1 h
      obtain rfl := Option.some.inj h
      exact K0 _ _ _ hH (lv_sub hl [] rfl)
    have h := zf zc1 h
    refine lv_iconst (v := 0) (pc := 12) hx hb dX7_ringOfAll_12 zk_c0 ?_
    refine lv_istore (pc := 13) (lv' := [(4, .int 0), (0, .ref (wq 0)), (1, .int x1), (2, .int x2), (3, .int x3)]) hx hb dX7_ringOfAll_13 hl (by decide) rfl (fun ls hl => ?_)
    obtain ⟨zr2, hzr2, h⟩ := zb h
    refine w_X7_ringOfAll_l15 G cy fu wq pq hq h_alive h_late h_hbr h_rbh h_waits h_pers h_size h_ranks h_lines w_m w_root w_step x1 x2 x3 X fu 0 p_packed p_size w_lacks zr2 hzr2 _ _ _ hH (lv_sub hl [1, 2, 3, 4, 0] rfl) (fun H locs ls hH hl => ?_)
    refine lv_aload_n (pc := 62) hx hb dX7_ringOfAll_62 rfl (lv_at hl 0 rfl) ?_
    obtain ⟨zr3, hzr3, h⟩ := zb h
    refine zcV (pc := 63) (As := []) (rest := []) (st1 := []) (ws' := wW cy wq (.ref (pq 0)) (.ref (hq 0)) w_m w_root zr3 zr2.2.2 ++ wP cy pq zr2.1 zr2.2.1 ++ wH cy hq h_alive h_late h_hbr h_rbh h_waits h_pers h_size h_ranks h_lines) (wr := []) (n := 0) (q0 := 0) X (c_X7_endStep l G cy fu wq pq hq h_alive h_late h_hbr h_rbh h_waits h_pers h_size h_ranks h_lines zr2.1 zr2.2.1 w_m w_root w_step zr2.2.2 zr3 hzr3) hH [0, 1, 2, 3, 4, 5, 6, 7, 8, 9] [] [0, 1, 2, 3, 4, 5, 6, 7, 8, 9] rfl rfl rfl rfl gX7_ringOfAll_X7_endStep rfl ⟨rfl, rfl⟩ kX7_endStep ⟨Nat.le_of_ble_eq_true rfl, Nat.le_of_ble_eq_true rfl⟩ rfl rfl rfl rfl rfl hl.1 (Nat.le_of_ble_eq_true rfl) ⟨Nat.le_of_ble_eq_true rfl, Nat.le_of_ble_eq_true rfl⟩ dX7_ringOfAll_63 (fun H locs hH => ?_)
    refine lv_iinc (pc := 66) (v := (x3 + 1)) (lv' := [(3, .int (x3 + 1)), (0, .ref (wq 0)), (1, .int x1), (2, .int x2)]) hx hb dX7_ringOfAll_66 hl (k := 3) rfl (by rw [zk_c1]) (by decide) rfl (fun ls hl => ?_)
    refine lv_goto (pc := 69) (tgt := 2) hx hb dX7_ringOfAll_69 rfl ?_
    exact ih (x3 + 1) zr2.1 zr2.2.1 zr3 zr2.2.2 rr h _ _ _ hH (lv_sub hl [1, 2, 3, 0] rfl) K0
set_option maxHeartbeats 4000000 in
set_option maxRecDepth 100000 in
theorem c_X7_ringOfAll (l : Launch) (G : va_G) (cy : Nat → ClassId) (fu : Nat) (wq : Nat → Nat) (pq : Nat → Nat) (hq : Nat → Nat) (h_alive : Nat → Int32) (h_late : Nat → Int32) (h_hbr : Nat → Int32) (h_rbh : Nat → Int32) (h_waits : Nat → Int32) (h_pers : Nat → Int32) (h_size : Int32) (h_ranks : Int32) (h_lines : Int32) (p_packed : Nat → Int32) (p_size : Int32) (w_m : Int32) (w_root : Int32) (w_step : Int32) (w_lacks : Int32) (x1 : Int32) (x2 : Int32) (rr : (Nat → Int32) × Int32 × Int32 × Int32) (h : f_X7_ringOfAll fu h_hbr h_waits h_ranks p_packed p_size w_m w_step w_lacks x1 x2 = some rr) : zM l G cy yX7_ringOfAll wsX7_ringOfAll (zR 2 57) [.ref (wq 0), .int x1, .int x2] (wW cy wq (.ref (pq 0)) (.ref (hq 0)) w_m w_root w_step w_lacks ++ wP cy pq p_packed p_size ++ wH cy hq h_alive h_late h_hbr h_rbh h_waits h_pers h_size h_ranks h_lines) (wW cy wq (.ref (pq 0)) (.ref (hq 0)) w_m w_root rr.2.2.1 rr.2.2.2 ++ wP cy pq rr.1 rr.2.1 ++ wH cy hq h_alive h_late h_hbr h_rbh h_waits h_pers h_size h_ranks h_lines) none := by
  refine zM.mk (cc := cX7_ringOfAll) (nL := 6) (ret := none) (by decide) rfl (Nat.le_of_ble_eq_true rfl) ?_
  intro p e s m below meth c A ls X hr hH hl
  replace X : zX p s m [.ref (wq 0), .int x1, .int x2].toArray meth c RX7 cX7_ringOfAll 6 wsX7_ringOfAll G cy A := X
  have hx := X.1.1
  have hb := X.1.2.1
  replace hl : lv_has ls 6 [(0, .ref (wq 0)), (1, .int x1), (2, .int x2)] := hl
  dsimp only [f_X7_ringOfAll] at h
  refine lv_iconst (v := 0) (pc := 0) hx hb dX7_ringOfAll_0 zk_c0 ?_
  refine lv_istore_n (pc := 1) (lv' := [(3, .int 0), (0, .ref (wq 0)), (1, .int x1), (2, .int x2)]) hx hb dX7_ringOfAll_1 rfl hl (by decide) rfl (fun ls hl => ?_)
  obtain ⟨zr1, hzr1, h⟩ := zb h
  refine w_X7_ringOfAll_l2 G cy fu wq pq hq h_alive h_late h_hbr h_rbh h_waits h_pers h_size h_ranks h_lines w_m w_root x1 x2 X fu 0 p_packed p_size w_step w_lacks zr1 hzr1 _ _ _ hH (lv_sub hl [1, 2, 3, 0] rfl) (fun H locs ls hH hl => ?_)
  obtain rfl := Option.some.inj h
  exact z_vret X hr hH dX7_ringOfAll_72
set_option maxHeartbeats 4000000 in
set_option maxRecDepth 100000 in
theorem c_X7_ring (l : Launch) (G : va_G) (cy : Nat → ClassId) (fu : Nat) (wq : Nat → Nat) (pq : Nat → Nat) (hq : Nat → Nat) (h_alive : Nat → Int32) (h_late : Nat → Int32) (h_hbr : Nat → Int32) (h_rbh : Nat → Int32) (h_waits : Nat → Int32) (h_pers : Nat → Int32) (h_size : Int32) (h_ranks : Int32) (h_lines : Int32) (p_packed : Nat → Int32) (p_size : Int32) (w_m : Int32) (w_root : Int32) (w_step : Int32) (w_lacks : Int32) (x1 : Int32) (rr : (Nat → Int32) × Int32 × Int32 × Int32) (h : f_X7_ring fu h_hbr h_waits h_ranks p_packed p_size w_m w_root w_step w_lacks x1 = some rr) : zM l G cy yX7_ring wsX7_ring (zR 4 103) [.ref (wq 0), .int x1] (wW cy wq (.ref (pq 0)) (.ref (hq 0)) w_m w_root w_step w_lacks ++ wP cy pq p_packed p_size ++ wH cy hq h_alive h_late h_hbr h_rbh h_waits h_pers h_size h_ranks h_lines) (wW cy wq (.ref (pq 0)) (.ref (hq 0)) w_m w_root rr.2.2.1 rr.2.2.2 ++ wP cy pq rr.1 rr.2.1 ++ wH cy hq h_alive h_late h_hbr h_rbh h_waits h_pers h_size h_ranks h_lines) none := by
  refine zM.mk (cc := cX7_ring) (nL := 2) (ret := none) (by decide) rfl (Nat.le_of_ble_eq_true rfl) ?_
  intro p e s m below meth c A ls X hr hH hl
  replace X : zX p s m [.ref (wq 0), .int x1].toArray meth c RX7 cX7_ring 2 wsX7_ring G cy A := X
  have hx := X.1.1
  have hb := X.1.2.1
  replace hl : lv_has ls 2 [(0, .ref (wq 0)), (1, .int x1)] := hl
  dsimp only [f_X7_ring] at h
  refine lv_iload_n (pc := 0) hx hb dX7_ring_0 rfl (lv_at hl 1 rfl) ?_
  by_cases zc1 : x1 = 0
  · have h := zt zc1 h
    refine lv_tableIn (pc := 1) (off := 27) (tgt := 28) hx hb dX7_ring_1 (by rw [zc1]; decide) (by rw [zc1]; decide) (by rw [zc1]; rfl) rfl ?_
    refine lv_aload_n (pc := 28) hx hb dX7_ring_28 rfl (lv_at hl 0 rfl) ?_
    refine lv_iconst (v := 0) (pc := 29) hx hb dX7_ring_29 zk_c0 ?_
    refine lv_iconst (v := 0) (pc := 30) hx hb dX7_ring_30 zk_c0 ?_
    obtain ⟨zr2, hzr2, h⟩ := zb h
    refine zcV (pc := 31) (As := [.int 0, .int 0]) (rest := []) (st1 := []) (ws' := wW cy wq (.ref (pq 0)) (.ref (hq 0)) w_m w_root zr2.2.2.1 zr2.2.2.2 ++ wP cy pq zr2.1 zr2.2.1 ++ wH cy hq h_alive h_late h_hbr h_rbh h_waits h_pers h_size h_ranks h_lines) (wr := []) (n := 2) (q0 := 0) X (c_X7_ringFromRoot l G cy fu wq pq hq h_alive h_late h_hbr h_rbh h_waits h_pers h_size h_ranks h_lines p_packed p_size w_m w_root w_step w_lacks 0 0 zr2 hzr2) hH [0, 1, 2, 3, 4, 5, 6, 7, 8, 9] [] [0, 1, 2, 3, 4, 5, 6, 7, 8, 9] rfl rfl rfl rfl gX7_ring_X7_ringFromRoot rfl ⟨rfl, rfl⟩ kX7_ringFromRoot ⟨Nat.le_of_ble_eq_true rfl, Nat.le_of_ble_eq_true rfl⟩ rfl rfl rfl rfl rfl hl.1 (Nat.le_of_ble_eq_true rfl) ⟨Nat.le_of_ble_eq_true rfl, Nat.le_of_ble_eq_true rfl⟩ dX7_ring_31 (fun H locs hH => ?_)
    refine lv_goto (pc := 34) (tgt := 67) hx hb dX7_ring_34 rfl ?_
    obtain rfl := Option.some.inj h
    exact z_vret X hr hH dX7_ring_67
  have h := zf zc1 h
  by_cases zc3 : x1 = 1
  · have h := zt zc3 h
    refine lv_tableIn (pc := 1) (off := 36) (tgt := 37) hx hb dX7_ring_1 (by rw [zc3]; decide) (by rw [zc3]; decide) (by rw [zc3]; rfl) rfl ?_
    refine lv_aload_n (pc := 37) hx hb dX7_ring_37 rfl (lv_at hl 0 rfl) ?_
    refine lv_iconst (v := 1) (pc := 38) hx hb dX7_ring_38 zk_c1 ?_
    refine lv_iconst (v := 1) (pc := 39) hx hb dX7_ring_39 zk_c1 ?_
    obtain ⟨zr4, hzr4, h⟩ := zb h
    refine zcV (pc := 40) (As := [.int 1, .int 1]) (rest := []) (st1 := []) (ws' := wW cy wq (.ref (pq 0)) (.ref (hq 0)) w_m w_root zr4.2.2.1 zr4.2.2.2 ++ wP cy pq zr4.1 zr4.2.1 ++ wH cy hq h_alive h_late h_hbr h_rbh h_waits h_pers h_size h_ranks h_lines) (wr := []) (n := 2) (q0 := 0) X (c_X7_ringFromRoot l G cy fu wq pq hq h_alive h_late h_hbr h_rbh h_waits h_pers h_size h_ranks h_lines p_packed p_size w_m w_root w_step w_lacks 1 1 zr4 hzr4) hH [0, 1, 2, 3, 4, 5, 6, 7, 8, 9] [] [0, 1, 2, 3, 4, 5, 6, 7, 8, 9] rfl rfl rfl rfl gX7_ring_X7_ringFromRoot rfl ⟨rfl, rfl⟩ kX7_ringFromRoot ⟨Nat.le_of_ble_eq_true rfl, Nat.le_of_ble_eq_true rfl⟩ rfl rfl rfl rfl rfl hl.1 (Nat.le_of_ble_eq_true rfl) ⟨Nat.le_of_ble_eq_true rfl, Nat.le_of_ble_eq_true rfl⟩ dX7_ring_40 (fun H locs hH => ?_)
    refine lv_goto (pc := 43) (tgt := 67) hx hb dX7_ring_43 rfl ?_
    obtain rfl := Option.some.inj h
    exact z_vret X hr hH dX7_ring_67
  have h := zf zc3 h
  by_cases zc5 : x1 = 2
  · have h := zt zc5 h
    refine lv_tableIn (pc := 1) (off := 45) (tgt := 46) hx hb dX7_ring_1 (by rw [zc5]; decide) (by rw [zc5]; decide) (by rw [zc5]; rfl) rfl ?_
    refine lv_aload_n (pc := 46) hx hb dX7_ring_46 rfl (lv_at hl 0 rfl) ?_
    refine lv_iconst (v := 0) (pc := 47) hx hb dX7_ring_47 zk_c0 ?_
    refine lv_iconst (v := 1) (pc := 48) hx hb dX7_ring_48 zk_c1 ?_
    obtain ⟨zr6, hzr6, h⟩ := zb h
    refine zcV (pc := 49) (As := [.int 0, .int 1]) (rest := []) (st1 := []) (ws' := wW cy wq (.ref (pq 0)) (.ref (hq 0)) w_m w_root zr6.2.2.1 zr6.2.2.2 ++ wP cy pq zr6.1 zr6.2.1 ++ wH cy hq h_alive h_late h_hbr h_rbh h_waits h_pers h_size h_ranks h_lines) (wr := []) (n := 2) (q0 := 0) X (c_X7_ringOfAll l G cy fu wq pq hq h_alive h_late h_hbr h_rbh h_waits h_pers h_size h_ranks h_lines p_packed p_size w_m w_root w_step w_lacks 0 1 zr6 hzr6) hH [0, 1, 2, 3, 4, 5, 6, 7, 8, 9] [] [0, 1, 2, 3, 4, 5, 6, 7, 8, 9] rfl rfl rfl rfl gX7_ring_X7_ringOfAll rfl ⟨rfl, rfl⟩ kX7_ringOfAll ⟨Nat.le_of_ble_eq_true rfl, Nat.le_of_ble_eq_true rfl⟩ rfl rfl rfl rfl rfl hl.1 (Nat.le_of_ble_eq_true rfl) ⟨Nat.le_of_ble_eq_true rfl, Nat.le_of_ble_eq_true rfl⟩ dX7_ring_49 (fun H locs hH => ?_)
    refine lv_aload_n (pc := 52) hx hb dX7_ring_52 rfl (lv_at hl 0 rfl) ?_
    refine lv_iconst (v := 1) (pc := 53) hx hb dX7_ring_53 zk_c1 ?_
    refine lv_iconst (v := 0) (pc := 54) hx hb dX7_ring_54 zk_c0 ?_
    obtain ⟨zr7, hzr7, h⟩ := zb h
    refine zcV (pc := 55) (As := [.int 1, .int 0]) (rest := []) (st1 := []) (ws' := wW cy wq (.ref (pq 0)) (.ref (hq 0)) w_m w_root zr7.2.2.1 zr7.2.2.2 ++ wP cy pq zr7.1 zr7.2.1 ++ wH cy hq h_alive h_late h_hbr h_rbh h_waits h_pers h_size h_ranks h_lines) (wr := []) (n := 2) (q0 := 0) X (c_X7_ringOfAll l G cy fu wq pq hq h_alive h_late h_hbr h_rbh h_waits h_pers h_size h_ranks h_lines zr6.1 zr6.2.1 w_m w_root zr6.2.2.1 zr6.2.2.2 1 0 zr7 hzr7) hH [0, 1, 2, 3, 4, 5, 6, 7, 8, 9] [] [0, 1, 2, 3, 4, 5, 6, 7, 8, 9] rfl rfl rfl rfl gX7_ring_X7_ringOfAll rfl ⟨rfl, rfl⟩ kX7_ringOfAll ⟨Nat.le_of_ble_eq_true rfl, Nat.le_of_ble_eq_true rfl⟩ rfl rfl rfl rfl rfl hl.1 (Nat.le_of_ble_eq_true rfl) ⟨Nat.le_of_ble_eq_true rfl, Nat.le_of_ble_eq_true rfl⟩ dX7_ring_55 (fun H locs hH => ?_)
    refine lv_goto (pc := 58) (tgt := 67) hx hb dX7_ring_58 rfl ?_
    obtain rfl := Option.some.inj h
    exact z_vret X hr hH dX7_ring_67
  have h := zf zc5 h
  refine lv_tableOut (pc := 1) (tgt := 61) hx hb dX7_ring_1 (by have n0 := lv_neT zc1 (show (0 : Int32).toInt = 0 by decide); have n1 := lv_neT zc3 (show (1 : Int32).toInt = 1 by decide); have n2 := lv_neT zc5 (show (2 : Int32).toInt = 2 by decide); omega) rfl ?_
  refine lv_aload_n (pc := 61) hx hb dX7_ring_61 rfl (lv_at hl 0 rfl) ?_
  refine lv_iconst (v := 0) (pc := 62) hx hb dX7_ring_62 zk_c0 ?_
  refine lv_iconst (v := 0) (pc := 63) hx hb dX7_ring_63 zk_c0 ?_
  obtain ⟨zr8, hzr8, h⟩ := zb h
  refine zcV (pc := 64) (As := [.int 0, .int 0]) (rest := []) (st1 := []) (ws' := wW cy wq (.ref (pq 0)) (.ref (hq 0)) w_m w_root zr8.2.2.1 zr8.2.2.2 ++ wP cy pq zr8.1 zr8.2.1 ++ wH cy hq h_alive h_late h_hbr h_rbh h_waits h_pers h_size h_ranks h_lines) (wr := []) (n := 2) (q0 := 0) X (c_X7_ringOfAll l G cy fu wq pq hq h_alive h_late h_hbr h_rbh h_waits h_pers h_size h_ranks h_lines p_packed p_size w_m w_root w_step w_lacks 0 0 zr8 hzr8) hH [0, 1, 2, 3, 4, 5, 6, 7, 8, 9] [] [0, 1, 2, 3, 4, 5, 6, 7, 8, 9] rfl rfl rfl rfl gX7_ring_X7_ringOfAll rfl ⟨rfl, rfl⟩ kX7_ringOfAll ⟨Nat.le_of_ble_eq_true rfl, Nat.le_of_ble_eq_true rfl⟩ rfl rfl rfl rfl rfl hl.1 (Nat.le_of_ble_eq_true rfl) ⟨Nat.le_of_ble_eq_true rfl, Nat.le_of_ble_eq_true rfl⟩ dX7_ring_64 (fun H locs hH => ?_)
  obtain rfl := Option.some.inj h
  exact z_vret X hr hH dX7_ring_67
