/-! the law from its entry -/
theorem Z_first (fu : Nat) (hfu : 256 < fu) : ∃ r w, f_X3_begin fu (fun _ => 0) (fun _ => 0) (fun _ => 0) (fun _ => 0) (fun _ => 0) 2 = some r ∧ f_X9_unlink fu (fun _ => 0) = some w ∧ ZRL r.1 r.2.1 r.2.2.1 r.2.2.2.1 r.2.2.2.2.1 (fun _ => 0) r.2.2.2.2.2.1 r.2.2.2.2.2.2.1 r.2.2.2.2.2.2.2 (fun _ => 0) 0 (fun _ => 0) 2 (fun _ => 0) (fun _ => 0) w (fun _ => 0) (fun _ => 0) (fun _ => 0) 0 := by
  obtain ⟨r, h1, h2, h3, h4, h5, h6⟩ := b_begin fu 2 (by omega) hfu (fun _ => 0) (fun _ => 0) (fun _ => 0) (fun _ => 0) (fun _ => 0)
  obtain ⟨w, h13, h14⟩ := m_unlink fu hfu (fun _ => 0)
  rw [← zl2] at h1
  refine ⟨r, w, h1, h13, 2, fun j => decide (j < 2), ⟨by omega, by omega, by rw [h6], zl2, h2, ?_, ?_, by rw [h6, ct_all], by rw [ct_all]; omega, ?_⟩, ?_, ⟨?_, ?_, ?_, ?_, ?_⟩, ?_, ZPl.none _ _ _ _ _⟩
  · intro j hj; exact decide_eq_false (by omega)
  · intro j hj; simp [hj]
  · intro j hj _
    have e : fb_ct (fun j => decide (j < 2)) j = j := fb_ct_all.mpr fun q hq => decide_eq_true (by omega)
    rw [e]; exact h4 j hj
  · intro j hj
    exact ⟨h3 j hj, 0, by omega, rfl, fun _ => rfl⟩
  · intro q hq; rw [h5 q hq, h14 q hq]
  · intro a b ha hb; rw [h14 _ (by omega), h14 _ (by omega)]
  · intro a b ha hb _; exact h14 _ (by omega)
  · intro q hq; exact Or.inl (h14 q hq)
  · rw [LC_none (by omega) h14, h6]; rfl
  · intro q hq; rfl
theorem z_arr {args : Array Value} {s : State} {ty : FieldType} (h : (Cond.arrayClass ty).before args s = true) : ∃ cA : ClassId, ArrOfT s cA ty ∧ s.vm.findClass ("[" ++ ty.toString) = some cA := by
  obtain ⟨c, k, comp, h1, h2, h3⟩ := Cond.arrayClass_spec h
  exact ⟨c, (fun n z => ⟨(fun k h => by cases h), k, h2, comp, h3⟩), h1⟩
def zA4 (a b c d : ClassId) : Nat → ClassId := fun k => match k with | 0 => a | 1 => b | 2 => c | _ => d
set_option maxRecDepth 100000 in
theorem jL_X0 : ∀ w ∈ u_ws RX0 TX0 2, w ∈ wsLw := by decide +kernel
set_option maxRecDepth 100000 in
theorem jI_X0 : Cond.instantiable RX0 2 ∈ lw_tbl := by decide +kernel
set_option maxRecDepth 100000 in
theorem jL_X2 : ∀ w ∈ u_ws RX2 TX2 2, w ∈ wsLw := by decide +kernel
set_option maxRecDepth 100000 in
theorem jI_X2 : Cond.instantiable RX2 2 ∈ lw_tbl := by decide +kernel
set_option maxRecDepth 100000 in
theorem jL_X3 : ∀ w ∈ u_ws RX3 TX3 9, w ∈ wsLw := by decide +kernel
set_option maxRecDepth 100000 in
theorem jI_X3 : Cond.instantiable RX3 9 ∈ lw_tbl := by decide +kernel
set_option maxRecDepth 100000 in
theorem jL_X4 : ∀ w ∈ u_ws RX4 TX4 2, w ∈ wsLw := by decide +kernel
set_option maxRecDepth 100000 in
theorem jI_X4 : Cond.instantiable RX4 2 ∈ lw_tbl := by decide +kernel
set_option maxRecDepth 100000 in
theorem jL_X5 : ∀ w ∈ u_ws RX5 TX5 5, w ∈ wsLw := by decide +kernel
set_option maxRecDepth 100000 in
theorem jI_X5 : Cond.instantiable RX5 5 ∈ lw_tbl := by decide +kernel
set_option maxRecDepth 100000 in
theorem jL_X6 : ∀ w ∈ u_ws RX6 TX6 5, w ∈ wsLw := by decide +kernel
set_option maxRecDepth 100000 in
theorem jI_X6 : Cond.instantiable RX6 5 ∈ lw_tbl := by decide +kernel
set_option maxRecDepth 100000 in
theorem jL_X7 : ∀ w ∈ u_ws RX7 TX7 6, w ∈ wsLw := by decide +kernel
set_option maxRecDepth 100000 in
theorem jI_X7 : Cond.instantiable RX7 6 ∈ lw_tbl := by decide +kernel
set_option maxRecDepth 100000 in
theorem jL_X8 : ∀ w ∈ u_ws RX8 TX8 8, w ∈ wsLw := by decide +kernel
set_option maxRecDepth 100000 in
theorem jI_X8 : Cond.instantiable RX8 8 ∈ lw_tbl := by decide +kernel
set_option maxRecDepth 100000 in
theorem jL_X9 : ∀ w ∈ u_ws RX9 TX9 19, w ∈ wsLw := by decide +kernel
set_option maxRecDepth 100000 in
theorem jI_X9 : Cond.instantiable RX9 19 ∈ lw_tbl := by decide +kernel
set_option maxRecDepth 100000 in
theorem zNl_in : ∀ w ∈ zNl, w ∈ lw_tbl := by decide +kernel
set_option maxRecDepth 100000 in
theorem zxB_in : ∀ w ∈ zxB, w ∈ lw_tbl := by decide +kernel
set_option maxRecDepth 100000 in
theorem jA_int : Cond.arrayClass .int ∈ lw_tbl := by decide +kernel
set_option maxRecDepth 100000 in
theorem jA_long : Cond.arrayClass .long ∈ lw_tbl := by decide +kernel
set_option maxRecDepth 100000 in
theorem jA_boolean : Cond.arrayClass .boolean ∈ lw_tbl := by decide +kernel
set_option maxRecDepth 100000 in
theorem jA_byte : Cond.arrayClass .byte ∈ lw_tbl := by decide +kernel
set_option maxRecDepth 100000 in
theorem jS_l : Cond.laysStatic "SumsToAll$Ways" "KNOWN" "[I" ∈ lw_tbl := by decide +kernel
set_option maxRecDepth 100000 in
theorem jS_i : Cond.initialized "SumsToAll$Ways" ∈ lw_tbl := by decide +kernel
set_option maxRecDepth 100000 in
theorem jU_l : Cond.laysStatic Bundle.tN "UNASSIGNED_STACK" Bundle.steD ∈ lw_tbl := by decide +kernel
set_option maxRecDepth 100000 in
theorem jV_l : Cond.laysStatic Bundle.tN "SUPPRESSED_SENTINEL" Bundle.listD ∈ lw_tbl := by decide +kernel
set_option maxRecDepth 100000 in
theorem jT_i : Cond.initialized Bundle.tN ∈ lw_tbl := by decide +kernel
set_option maxRecDepth 100000 in
theorem jR_s : Cond.stringRef RX8 110 "no such block" ∈ lw_tbl := by decide +kernel
theorem zS_of {args : Array Value} {s : State} {A : Nat → Prop} (hts : ∀ w ∈ lw_tbl, w.before args s = true) (hgv : (Jvm.Cond.and given_1 narrow_1).before args s = true) (hA : ∀ a : Nat, a < s.heap.size → ¬ A a) : zS A s s.heap := by
  have hg := flat_of_before _ hgv
  obtain ⟨t, ht, hT⟩ := va_Tof (args := args) (s := s) (tm := .static "SumsToAll$Ways" "KNOWN" "[I") (ty := .int) (N := 4) (f := fun j => .int (zKn j)) (A := A) (by decide) (hg (.arrayOf (.static "SumsToAll$Ways" "KNOWN" "[I") .int) (by decide +kernel)) (Cond.eq_int (hg (.eq (.length (.static "SumsToAll$Ways" "KNOWN" "[I")) (.int 4)) (by decide +kernel)) rfl) (fun j hj => by
    rcases (show j = 0 ∨ j = 1 ∨ j = 2 ∨ j = 3 by omega) with rfl | rfl | rfl | rfl
    · exact Cond.eq_int (hg (.eq (.elem (.static "SumsToAll$Ways" "KNOWN" "[I") (.int 0)) (.int 15)) (by decide +kernel)) rfl
    · exact Cond.eq_int (hg (.eq (.elem (.static "SumsToAll$Ways" "KNOWN" "[I") (.int 1)) (.int 7)) (by decide +kernel)) rfl
    · exact Cond.eq_int (hg (.eq (.elem (.static "SumsToAll$Ways" "KNOWN" "[I") (.int 2)) (.int 12)) (by decide +kernel)) rfl
    · exact Cond.eq_int (hg (.eq (.elem (.static "SumsToAll$Ways" "KNOWN" "[I") (.int 3)) (.int 27)) (by decide +kernel)) rfl) hA
  exact ⟨t, va_Zof (hts _ jS_l) (hts _ jS_i) ht hA, hT⟩
theorem zU_of {args : Array Value} {s : State} {A : Nat → Prop} (hts : ∀ w ∈ lw_tbl, w.before args s = true) (hgv : (Jvm.Cond.and given_1 narrow_1).before args s = true) (hA : ∀ a : Nat, a < s.heap.size → ¬ A a) : vx_Zq Bundle.tN "UNASSIGNED_STACK" Bundle.steD A s s.heap ∧ vx_Zq Bundle.tN "SUPPRESSED_SENTINEL" Bundle.listD A s s.heap := by
  have hg := flat_of_before _ hgv
  exact ⟨vx_Zqof (hts _ jU_l) (hts _ jT_i) (hg (.isRef (.static Bundle.tN "UNASSIGNED_STACK" Bundle.steD)) (by decide +kernel)) hA, vx_Zqof (hts _ jV_l) (hts _ jT_i) (hg (.isRef (.static Bundle.tN "SUPPRESSED_SENTINEL" Bundle.listD)) (by decide +kernel)) hA⟩
theorem zR_of {args : Array Value} {s : State} (hts : ∀ w ∈ lw_tbl, w.before args s = true) : ∃ sa : Nat, vk_R RX8 110 "no such block" sa s := by
  obtain ⟨c, k, hc, -⟩ := Cond.instantiable_spec (hts _ jI_X8)
  obtain ⟨k, cf, i, a, -, -, -, -, -, hev⟩ := Cond.stringRef_spec hc (hts _ jR_s)
  exact ⟨a, vk_R.of (hts _ jR_s) hev⟩
theorem zK_of {args : Array Value} {s : State} (hts : ∀ w ∈ lw_tbl, w.before args s = true) : ∃ (G : va_G) (cy : Nat → ClassId), va_K G vwCl (zT cy) s := by
  obtain ⟨c0, i0, hKn0⟩ := u_known (C := RX0) (T := TX0) (N := 2) (n := 2) (zTbl_law hts) jL_X0 (hts _ jI_X0)
  obtain ⟨c1, i1, hKn1⟩ := u_known (C := RX2) (T := TX2) (N := 2) (n := 2) (zTbl_law hts) jL_X2 (hts _ jI_X2)
  obtain ⟨c2, i2, hKn2⟩ := u_known (C := RX3) (T := TX3) (N := 9) (n := 9) (zTbl_law hts) jL_X3 (hts _ jI_X3)
  obtain ⟨c3, i3, hKn3⟩ := u_known (C := RX4) (T := TX4) (N := 2) (n := 2) (zTbl_law hts) jL_X4 (hts _ jI_X4)
  obtain ⟨c4, i4, hKn4⟩ := u_known (C := RX5) (T := TX5) (N := 5) (n := 5) (zTbl_law hts) jL_X5 (hts _ jI_X5)
  obtain ⟨c5, i5, hKn5⟩ := u_known (C := RX6) (T := TX6) (N := 5) (n := 5) (zTbl_law hts) jL_X6 (hts _ jI_X6)
  obtain ⟨c6, i6, hKn6⟩ := u_known (C := RX7) (T := TX7) (N := 6) (n := 6) (zTbl_law hts) jL_X7 (hts _ jI_X7)
  obtain ⟨c7, i7, hKn7⟩ := u_known (C := RX8) (T := TX8) (N := 8) (n := 8) (zTbl_law hts) jL_X8 (hts _ jI_X8)
  obtain ⟨c8, i8, hKn8⟩ := u_known (C := RX9) (T := TX9) (N := 19) (n := 19) (zTbl_law hts) jL_X9 (hts _ jI_X9)
  obtain ⟨a0, ha0, hb0⟩ := z_arr (hts _ jA_int)
  obtain ⟨a1, ha1, hb1⟩ := z_arr (hts _ jA_long)
  obtain ⟨a2, ha2, hb2⟩ := z_arr (hts _ jA_boolean)
  obtain ⟨a3, ha3, hb3⟩ := z_arr (hts _ jA_byte)
  refine ⟨(fun k => match k with | 0 => c0 | 1 => c1 | 2 => c2 | 3 => c3 | 4 => c4 | 5 => c5 | 6 => c6 | 7 => c7 | _ => c8, fun k => match k with | 0 => i0 | 1 => i1 | 2 => i2 | 3 => i3 | 4 => i4 | 5 => i5 | 6 => i6 | 7 => i7 | _ => i8), zA4 a0 a1 a2 a3, ?_, ?_⟩
  · intro k q hq
    match k, hq with
    | 0, hq => cases hq; exact hKn0
    | 1, hq => cases hq; exact hKn1
    | 2, hq => cases hq; exact hKn2
    | 3, hq => cases hq; exact hKn3
    | 4, hq => cases hq; exact hKn4
    | 5, hq => cases hq; exact hKn5
    | 6, hq => cases hq; exact hKn6
    | 7, hq => cases hq; exact hKn7
    | 8, hq => cases hq; exact hKn8
    | k + 9, hq => simp [vwCl] at hq
  · intro k q hq
    match k, hq with
    | 0, hq => cases hq; exact ⟨ha0, hb0⟩
    | 1, hq => cases hq; exact ⟨ha1, hb1⟩
    | 2, hq => cases hq; exact ⟨ha2, hb2⟩
    | 3, hq => cases hq; exact ⟨ha3, hb3⟩
    | k + 4, hq => simp [zT] at hq
set_option maxRecDepth 100000 in
theorem jM_X9 : Cond.methodLink RL 18 yX9_init ∈ wsLw := by decide +kernel
set_option maxRecDepth 100000 in
theorem jN_X9 : Cond.instanceMethod yX9_init ∈ wsLw := by decide +kernel
set_option maxHeartbeats 4000000 in
set_option maxRecDepth 100000 in
/-- YOUR PART: from the entry, for every script of at most 3584 ints, the law comes to its end with true -/
theorem whole_start {p : Program} {e : Env} {s : State} {m : MethodId} {below : List Frame} {meth : Method} {c : Code} (l : Launch) (hlt : l.stackTraces = false) {b L : Nat} {xs : Nat → Int32} (hL : L ≤ 3584) (C0 : lw_At p s m meth c b L xs) : W p l e room_1 s m #[Value.ref b] below meth c s.heap [] 0 0 (lw_Z below #[Value.ref b] s) (entryFrame m ([Value.ref b] : List Value).toArray 7) := by
  obtain ⟨hx, hb, hr, hml, hown, hts, hX, hbl, hlocks, hgv⟩ := id C0
  obtain ⟨A, eA⟩ : ∃ A : Nat → Prop, A = fun q => s.heap.size ≤ q := ⟨_, rfl⟩
  have hA : ∀ q : Nat, s.heap.size ≤ q → A q := fun q h => by rw [eA]; exact h
  have hA1 : ∀ q : Nat, A q → s.heap.size ≤ q := fun q h => by rw [eA] at h; exact h
  have hA2 : ∀ a : Nat, a < s.heap.size → ¬ A a := fun a h h1 => Nat.not_le.mpr h (hA1 a h1)
  have hbA : ¬ A b := hA2 b hbl
  obtain ⟨G, cy, hK⟩ := zK_of hts
  have hZ := zS_of hts hgv hA2
  obtain ⟨hZu, hZn⟩ := zU_of hts hgv hA2
  obtain ⟨sa, hsa⟩ := zR_of hts
  have hNw : ∀ w ∈ zxB, va_Nw w s := fun w hw => va_Nw.of (zxB_ot w hw) (hts w (zxB_in w hw))
  have X : zX p s m #[Value.ref b] meth c RL cL_law 7 wsLw G cy A := ⟨⟨hx, hb, hml, hown, zTbl_law hts⟩, hK, fun w hw => va_Nw.of (zNl_ot w hw) (hts w (zNl_in w hw)), hA, hlocks, hZ⟩
  have hH : zH G A s.heap [] s.heap [] := ⟨fun k q h => by simp at h, ⟨fun i j p q h => by simp at h, fun k q h => by simp at h⟩, va_S.rf⟩
  obtain ⟨rr, w2, hrr, hw2, hR⟩ := Z_first 100000 (by omega)
  have hx := X.1.1
  have hb := X.1.2.1
  have hl := lv_entry ([.ref b]) (n := 7) (Nat.le_of_ble_eq_true rfl)
  rw [lg_entry_eq]
  generalize (lg_sl ([.ref b]) ++ List.replicate (7 - (lg_sl ([.ref b])).length) Slot.unset).toArray = ls at hl ⊢
  have hl : lv_has ls 7 [(0, .ref b)] := hl
  refine z_new (pc := 0) (ci := 7) (fs := [.null, .null, .null, .null, .null, .null, .null, .null]) (N := 8) X jL_X8 tyX8 tyX8_ok (List.mem_of_getElem? (i := 0) rfl) (List.mem_of_getElem? (i := 1) rfl) (List.mem_of_getElem? (i := 2) rfl) hH rfl (fun j hj => by rcases (show j = 0 ∨ j = 1 ∨ j = 2 ∨ j = 3 ∨ j = 4 ∨ j = 5 ∨ j = 6 ∨ j = 7 by omega) with rfl | rfl | rfl | rfl | rfl | rfl | rfl | rfl <;> rfl) (Nat.le_of_ble_eq_true rfl) (Nat.le_of_ble_eq_true rfl) dL_law_0 (fun q0 H hH => ?_)
  refine lv_dup (pc := 3) hx hb dL_law_3 rfl ?_
  refine zcI (pc := 4) (As := []) (rest := [.ref q0]) (n := 0) (wr := []) X (c_X8_init l G cy 100000 q0 rr hrr) hH [0] [] rfl rfl rfl gL_law_X8_init rfl ⟨rfl, rfl⟩ (List.mem_of_getElem? (i := 2) rfl) (List.mem_of_getElem? (i := 7) rfl) (List.mem_of_getElem? (i := 8) rfl) rfl (by decide +kernel) ⟨Nat.le_of_ble_eq_true rfl, Nat.le_of_ble_eq_true rfl⟩ rfl rfl hl.1 (Nat.le_of_ble_eq_true rfl) ⟨Nat.le_of_ble_eq_true rfl, Nat.le_of_ble_eq_true rfl⟩ dL_law_4 (fun w H locs hw hHn => ?_)
  obtain ⟨tq, hq, nq, sq, kq, wq, rq, pq, dq, rfl, rfl⟩ := hw
  have hH : zH G A s.heap (wS cy tq hq nq sq kq wq rq (.ref (pq 0)) (.ref (dq 0)) ++ wH cy hq rr.1 rr.2.1 rr.2.2.1 rr.2.2.2.1 rr.2.2.2.2.1 (fun _ => 0) rr.2.2.2.2.2.1 rr.2.2.2.2.2.2.1 rr.2.2.2.2.2.2.2 ++ wE cy nq (fun _ => 0) (fun _ => 0) ++ wG cy sq (fun _ => 0) (fun _ => 0) (fun _ => 0) (fun _ => 0) 0 ++ wK cy kq (fun _ => 0) (fun _ => 0) ++ wW cy wq (.null) (.null) 0 0 0 0 ++ wR cy rq (fun _ => 0) (fun _ => 0) (fun _ => 0) 0 0 ++ wP cy pq (fun _ => 0) 0 ++ wP cy dq (fun _ => 0) 0) H locs := hHn
  refine lv_astore_n (pc := 7) hx hb dL_law_7 rfl hl (by decide) rfl (fun ls hl => ?_)
  refine z_new (pc := 8) (ci := 8) (fs := [.int 0, .null, .null, .null, .null, .null, .null, .int 0, .null, .int 0, .int 0, .int 0, .null, .null, .null, .null, .null, .null, .null]) (N := 19) X jL_X9 tyX9 tyX9_ok (List.mem_of_getElem? (i := 3) rfl) (List.mem_of_getElem? (i := 4) rfl) (List.mem_of_getElem? (i := 5) rfl) hH rfl (fun j hj => by rcases (show j = 0 ∨ j = 1 ∨ j = 2 ∨ j = 3 ∨ j = 4 ∨ j = 5 ∨ j = 6 ∨ j = 7 ∨ j = 8 ∨ j = 9 ∨ j = 10 ∨ j = 11 ∨ j = 12 ∨ j = 13 ∨ j = 14 ∨ j = 15 ∨ j = 16 ∨ j = 17 ∨ j = 18 by omega) with rfl | rfl | rfl | rfl | rfl | rfl | rfl | rfl | rfl | rfl | rfl | rfl | rfl | rfl | rfl | rfl | rfl | rfl | rfl <;> rfl) (Nat.le_of_ble_eq_true rfl) (Nat.le_of_ble_eq_true rfl) dL_law_8 (fun q1 H hH => ?_)
  refine lv_dup (pc := 11) hx hb dL_law_11 rfl ?_
  refine zcI (pc := 12) (As := []) (rest := [.ref q1]) (n := 0) (wr := wS cy tq hq nq sq kq wq rq (.ref (pq 0)) (.ref (dq 0)) ++ wH cy hq rr.1 rr.2.1 rr.2.2.1 rr.2.2.2.1 rr.2.2.2.2.1 (fun _ => 0) rr.2.2.2.2.2.1 rr.2.2.2.2.2.2.1 rr.2.2.2.2.2.2.2 ++ wE cy nq (fun _ => 0) (fun _ => 0) ++ wG cy sq (fun _ => 0) (fun _ => 0) (fun _ => 0) (fun _ => 0) 0 ++ wK cy kq (fun _ => 0) (fun _ => 0) ++ wW cy wq (.null) (.null) 0 0 0 0 ++ wR cy rq (fun _ => 0) (fun _ => 0) (fun _ => 0) 0 0 ++ wP cy pq (fun _ => 0) 0 ++ wP cy dq (fun _ => 0) 0) X (c_X9_init l G cy 100000 q1 w2 hw2) hH [28] [0, 1, 2, 3, 4, 5, 6, 7, 8, 9, 10, 11, 12, 13, 14, 15, 16, 17, 18, 19, 20, 21, 22, 23, 24, 25, 26, 27] rfl rfl rfl gL_law_X9_init rfl ⟨rfl, rfl⟩ (List.mem_of_getElem? (i := 5) rfl) jM_X9 jN_X9 rfl (by decide +kernel) ⟨Nat.le_of_ble_eq_true rfl, Nat.le_of_ble_eq_true rfl⟩ rfl rfl hl.1 (Nat.le_of_ble_eq_true rfl) ⟨Nat.le_of_ble_eq_true rfl, Nat.le_of_ble_eq_true rfl⟩ dL_law_12 (fun w H locs hw hHn => ?_)
  obtain ⟨mq, rfl, rfl⟩ := hw
  have hH := hHn
  refine lv_astore_n (pc := 15) hx hb dL_law_15 rfl hl (by decide) rfl (fun ls hl => ?_)
  refine lv_iconst (v := 1) (pc := 16) hx hb dL_law_16 zk_c1 ?_
  refine z_newa (pc := 17) (k := 1) (ty := .long) (N := 1) (a0 := (1, .inr (.inl (fun _ => 0)))) X hH rfl (fun C h => by cases h) (List.mem_of_getElem? (i := 6) rfl) rfl (zha_l 1) (by decide) (by decide) (zby_l (by omega)) (Nat.le_of_ble_eq_true rfl) (Nat.le_of_ble_eq_true rfl) dL_law_17 (fun oq H hH => ?_)
  refine lv_astore_n (pc := 19) hx hb dL_law_19 rfl hl (by decide) rfl (fun ls hl => ?_)
  refine lv_iconst (v := 0) (pc := 20) hx hb dL_law_20 zk_c0 ?_
  refine lv_istore (i := 4) (pc := 21) hx hb dL_law_21 hl (by decide) rfl (fun ls hl => ?_)
  exact L_loop (L := L) (xs := xs) X hX hbl hbA 100000 (by omega) hL hlt sa hsa hZu hZn hNw hA1 hr L 0 (Nat.zero_le _) (Nat.le_refl _) hR (Nat.le_of_ble_eq_true rfl) (Nat.le_of_ble_eq_true rfl) (hH.perm [0, 1, 2, 3, 4, 5, 6, 7, 24, 25, 26, 27, 8, 9, 10, 11, 12, 13, 14, 15, 16, 17, 18, 19, 20, 21, 22, 23, 28, 29, 30, 31, 32, 33, 34, 35, 36, 37, 38, 39, 40, 41, 42, 43] rfl rfl) (lv_sub hl [4, 3, 2, 1, 0] rfl)
