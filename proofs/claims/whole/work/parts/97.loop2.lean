def R_law : String := "SumsToAllLaw"
def lw_P (b : Addr) (xs : List Int32) (args : Array Value) (s : State) : Prop := args = #[.ref b] ∧ s.IntsAt b xs ∧ xs.length ≤ 3584 ∧ (Jvm.Cond.and given_1 narrow_1).before args s = true
def lw_Q (_ : Array Value) (s : State) (o : Outcome) (t : State) : Prop := o = .returned (some (.int 1)) ∧ Framed s o t [] 601024 7293034
def lw_Z (below : List Frame) (a : Array Value) (s : State) : State → Prop := fun t => ∃ o, t.status = .running ∧ Ended t below o ∧ lw_Q a s o t
/-- the law's own end, with 1 on the stack, nothing written that was there before, its room as the claim has it -/
theorem lw_ret {p : Program} {l : Launch} {e : Env} {s : State} {m : MethodId} {below : List Frame} {meth : Method} {c : Code} {b : Nat} (hx : p.tables.exec = Jvm.exec) (hb : c.code = code) (hr : meth.sig.returnType = ret) (hlocks : meth.locks = false) {pc : Nat} {H : Heap} {ls : Array Slot} (hdg : decode code pc = .ok (.ireturn, 1)) : W p l e room_1 s m #[Value.ref b] below meth c H [] 601024 7293034 (lw_Z below #[Value.ref b] s) (F0 m pc ls [.int 1]) := by
  intro T hT X
  obtain ⟨fs, hret, hrun, hended, hW, hframe⟩ := X.leave (v := some (.int 1)) (hlocks := hlocks) (fun h => by rw [hr] at h; cases h)
  have hmeth' : T.vm.method? m = some meth := X.method'
  refine ⟨T.setFrames fs, ?_, .returned (some (.int 1)), hrun, hended, rfl, ⟨_, rfl⟩, hW, hframe⟩
  jvm_step X.here [X.here.top, hx, hb, hdg, hmeth', hr, ret, narrow_b1]
  (try refine ⟨rfl, ?_⟩); (try refine ⟨rfl, ?_⟩)
  first | (intro acts; rw [hret _ acts rfl rfl rfl]) | rw [hret _ _ rfl rfl rfl]
  exact Steps.refl _
/-- what holds at the law's entry: the machine, the code, the tables' words (any of lw_tbl by 'hts w (by decide +kernel)'), the script of L ints xs at the cell b, what the Statement gives of the start (any of its parts by flat_of_before) -/
def lw_At (p : Program) (s : State) (m : MethodId) (meth : Method) (c : Code) (b L : Nat) (xs : Nat → Int32) : Prop :=
  p.tables.exec = Jvm.exec ∧ c.code = code ∧ meth.sig.returnType = ret ∧ c.maxLocals = 7 ∧ s.vm.findClass R_law = some m.cls ∧ (∀ w ∈ lw_tbl, w.before #[Value.ref b] s = true) ∧ va_X b L xs s s.heap ∧ b < s.heap.size ∧ meth.locks = false ∧ (Jvm.Cond.and given_1 narrow_1).before #[Value.ref b] s = true
/-! the law's loop, as a whole -/
theorem z_gt {i L : Nat} (hi : i ≤ 4000) (hL : L ≤ 3584) : Int32.ofNat L - 7 < nI i ↔ L < i + 7 := by
  have h1 : (Int32.ofNat L - 7).toInt = (L : Int) - 7 := by
    rw [Int32.toInt_sub, show (Int32.ofNat L).toInt = (L : Int) from nI_toInt (by omega), show (7 : Int32).toInt = 7 from by decide]
    exact Int.bmod_eq_of_le (by omega) (by omega)
  rw [Int32.lt_iff_toInt_lt, h1, nI_toInt (by omega)]
  omega
set_option maxHeartbeats 4000000 in
set_option maxRecDepth 100000 in
theorem L_step {p : Program} {l : Launch} {e : Env} {s : State} {m : MethodId} {below : List Frame} {meth : Method} {c : Code} {A : Nat → Prop} {G : va_G} {cy : Nat → ClassId} {b L : Nat} {xs : Nat → Int32} (X : zX p s m #[Value.ref b] meth c RL cL_law 7 wsLw G cy A) (hX : va_X b L xs s s.heap) (hbl : b < s.heap.size) (hbA : ¬ A b) (fu : Nat) (hfu : 65536 < fu) (hL : L ≤ 3584) (hlt : l.stackTraces = false) (sa : Nat) (hsa : vk_R RX8 110 "no such block" sa s) (hZu : vx_Zq Bundle.tN "UNASSIGNED_STACK" Bundle.steD A s s.heap) (hZn : vx_Zq Bundle.tN "SUPPRESSED_SENTINEL" Bundle.listD A s s.heap) (hNw : ∀ w ∈ zxB, va_Nw w s) (hA : ∀ q, A q → s.heap.size ≤ q) (hr : meth.sig.returnType = ret) {i : Nat} (hi : i ≤ L) (IH : i + 7 ≤ L → zLA p l e s m below meth c A (lw_Z below #[Value.ref b] s) G cy b (i + 7) (i + 7) 23) : zLA p l e s m below meth c A (lw_Z below #[Value.ref b] s) G cy b i i 23 := by
  intro tq hq nq sq kq wq rq pq dq mq oq h_alive h_late h_hbr h_rbh h_waits h_pers h_size h_ranks h_lines p_packed p_size d_packed d_size e_num e_und s_some s_more s_sund s_mund s_group k_ahead k_behind w_drawn w_house w_m w_root w_step w_lacks r_joined r_steps r_reached r_m r_all m_hosts m_lost m_late m_wait m_per m_blocks m_sends m_many m_made m_madeMany m_lacking m_thrown m_now m_ahead m_then m_time m_timeThen m_isThere m_comes o_out cells slots H locs ls hR hc hs hH hl
  have hx := X.1.1
  have hb := X.1.2.1
  refine lv_iload (pc := 23) hx hb dL_law_23 (lv_at hl 4 rfl) ?_
  refine lv_aload_n (pc := 25) hx hb dL_law_25 rfl (lv_at hl 0 rfl) ?_
  refine va_slen (pc := 26) hx hb hX hbl hbA hH.2.2 dL_law_26 ?_
  refine lv_bipush (v := 7) (pc := 27) hx hb dL_law_27 (by decide) ?_
  refine lv_isub (pc := 29) hx hb dL_law_29 ?_
  refine lv_icmp_gt (pc := 30) (tgt := 906) hx hb dL_law_30 rfl (fun zc => ?_) (fun zc => ?_)
  · refine lv_iconst (v := 1) (pc := 906) hx hb dL_law_906 zk_c1 ?_
    refine va_forget (fun q hq => hA _ (hH.2.2.2.2 q hq)) ?_
    refine W.widen (k := 601024) (n := 7293034) (by omega) (by omega) ?_
    exact lw_ret hx hb hr X.2.2.2.2.1 dL_law_907
  have hin : i + 7 ≤ L := by
    have := mt (z_gt (by omega) hL).mpr zc
    omega
  have K : zLA p l e s m below meth c A (lw_Z below #[Value.ref b] s) G cy b (i + 7) i 900 := L_back (L := L) (xs := xs) X (IH hin)
  refine lv_aload_n (pc := 33) hx hb dL_law_33 rfl (lv_at hl 0 rfl) ?_
  refine lv_iload (pc := 34) hx hb dL_law_34 (lv_at hl 4 rfl) ?_
  refine z_sld (pc := 36) (j := i) X hX hbl hbA hH rfl (by omega) (by omega) dL_law_36 ?_
  refine lv_bipush (v := 31) (pc := 37) hx hb dL_law_37 (by decide) ?_
  refine lv_iand (pc := 39) hx hb dL_law_39 ?_
  by_cases c0 : xs i &&& 31 = 0
  · rw [c0]
    refine lv_tableIn (pc := 40) (off := 92) (tgt := 132) hx hb dL_law_40 (by decide) (by decide) rfl rfl ?_
    exact LC_hosts X hX hbl hbA fu hfu hL hin K hR hc hs hH hl
  by_cases c1 : xs i &&& 31 = 1
  · rw [c1]
    refine lv_tableIn (pc := 40) (off := 117) (tgt := 157) hx hb dL_law_40 (by decide) (by decide) rfl rfl ?_
    exact LC_line X hX hbl hbA fu hfu hL hin K hR hc hs hH hl
  by_cases c2 : xs i &&& 31 = 2
  · rw [c2]
    refine lv_tableIn (pc := 40) (off := 178) (tgt := 218) hx hb dL_law_40 (by decide) (by decide) rfl rfl ?_
    exact LC_net X hX hbl hbA fu hfu hL hin K hR hc hs hH hl
  by_cases c3 : xs i &&& 31 = 3
  · rw [c3]
    refine lv_tableIn (pc := 40) (off := 227) (tgt := 267) hx hb dL_law_40 (by decide) (by decide) rfl rfl ?_
    exact LC_set X hX hbl hbA fu hfu hL hin K hR hc hs hH hl
  by_cases c4 : xs i &&& 31 = 4
  · rw [c4]
    refine lv_tableIn (pc := 40) (off := 276) (tgt := 316) hx hb dL_law_40 (by decide) (by decide) rfl rfl ?_
    exact LC_at X hX hbl hbA fu hfu hL hin hlt sa hsa hZu hZn hNw K hR hc hs hH hl
  by_cases c5 : xs i &&& 31 = 5
  · rw [c5]
    refine lv_tableIn (pc := 40) (off := 344) (tgt := 384) hx hb dL_law_40 (by decide) (by decide) rfl rfl ?_
    exact LC_live X hX hbl hbA fu hfu hL hin K hR hc hs hH hl
  by_cases c6 : xs i &&& 31 = 6
  · rw [c6]
    refine lv_tableIn (pc := 40) (off := 397) (tgt := 437) hx hb dL_law_40 (by decide) (by decide) rfl rfl ?_
    exact LC_late X hX hbl hbA fu hfu hL hin K hR hc hs hH hl
  by_cases c7 : xs i &&& 31 = 7
  · rw [c7]
    refine lv_tableIn (pc := 40) (off := 434) (tgt := 474) hx hb dL_law_40 (by decide) (by decide) rfl rfl ?_
    exact LC_count X hX hbl hbA fu hfu hL hin K hR hc hs hH hl
  by_cases c8 : xs i &&& 31 = 8
  · rw [c8]
    refine lv_tableIn (pc := 40) (off := 459) (tgt := 499) hx hb dL_law_40 (by decide) (by decide) rfl rfl ?_
    exact LC_build X hX hbl hbA fu hfu hL hin K hR hc hs hH hl
  by_cases c9 : xs i &&& 31 = 9
  · rw [c9]
    refine lv_tableIn (pc := 40) (off := 508) (tgt := 548) hx hb dL_law_40 (by decide) (by decide) rfl rfl ?_
    exact LC_clear X hX hbl hbA fu hfu hL hin K hR hc hs hH hl
  by_cases c10 : xs i &&& 31 = 10
  · rw [c10]
    refine lv_tableIn (pc := 40) (off := 521) (tgt := 561) hx hb dL_law_40 (by decide) (by decide) rfl rfl ?_
    exact LC_send X hX hbl hbA fu hfu hL hin K hR hc hs hH hl
  by_cases c11 : xs i &&& 31 = 11
  · rw [c11]
    refine lv_tableIn (pc := 40) (off := 624) (tgt := 664) hx hb dL_law_40 (by decide) (by decide) rfl rfl ?_
    exact LC_sent X hX hbl hbA fu hfu hL hin K hR hc hs hH hl
  by_cases c12 : xs i &&& 31 = 12
  · rw [c12]
    refine lv_tableIn (pc := 40) (off := 661) (tgt := 701) hx hb dL_law_40 (by decide) (by decide) rfl rfl ?_
    exact LC_right X hX hbl hbA fu hfu hL hin K hR hc hs hH hl
  by_cases c13 : xs i &&& 31 = 13
  · rw [c13]
    refine lv_tableIn (pc := 40) (off := 698) (tgt := 738) hx hb dL_law_40 (by decide) (by decide) rfl rfl ?_
    exact LC_run X hX hbl hbA fu hfu hL hin K hR hc hs hH hl
  by_cases c14 : xs i &&& 31 = 14
  · rw [c14]
    refine lv_tableIn (pc := 40) (off := 711) (tgt := 751) hx hb dL_law_40 (by decide) (by decide) rfl rfl ?_
    exact LC_ticks X hX hbl hbA fu hfu hL hin K hR hc hs hH hl
  by_cases c15 : xs i &&& 31 = 15
  · rw [c15]
    refine lv_tableIn (pc := 40) (off := 724) (tgt := 764) hx hb dL_law_40 (by decide) (by decide) rfl rfl ?_
    exact LC_freely X hX hbl hbA fu hfu hL hin K hR hc hs hH hl
  by_cases c16 : xs i &&& 31 = 16
  · rw [c16]
    refine lv_tableIn (pc := 40) (off := 749) (tgt := 789) hx hb dL_law_40 (by decide) (by decide) rfl rfl ?_
    exact LC_best X hX hbl hbA fu hfu hL hin K hR hc hs hH hl
  by_cases c17 : xs i &&& 31 = 17
  · rw [c17]
    refine lv_tableIn (pc := 40) (off := 786) (tgt := 826) hx hb dL_law_40 (by decide) (by decide) rfl rfl ?_
    exact LC_price X hX hbl hbA fu hfu hL hin K hR hc hs hH hl
  by_cases c18 : xs i &&& 31 = 18
  · rw [c18]
    refine lv_tableIn (pc := 40) (off := 835) (tgt := 875) hx hb dL_law_40 (by decide) (by decide) rfl rfl ?_
    exact LC_fewest X hX hbl hbA fu hfu hL hin K hR hc hs hH hl
  have d0 : (xs i &&& 31).toInt ≠ 0 := fun h => c0 (Int32.toInt_inj.mp (h.trans (by decide)))
  have d1 : (xs i &&& 31).toInt ≠ 1 := fun h => c1 (Int32.toInt_inj.mp (h.trans (by decide)))
  have d2 : (xs i &&& 31).toInt ≠ 2 := fun h => c2 (Int32.toInt_inj.mp (h.trans (by decide)))
  have d3 : (xs i &&& 31).toInt ≠ 3 := fun h => c3 (Int32.toInt_inj.mp (h.trans (by decide)))
  have d4 : (xs i &&& 31).toInt ≠ 4 := fun h => c4 (Int32.toInt_inj.mp (h.trans (by decide)))
  have d5 : (xs i &&& 31).toInt ≠ 5 := fun h => c5 (Int32.toInt_inj.mp (h.trans (by decide)))
  have d6 : (xs i &&& 31).toInt ≠ 6 := fun h => c6 (Int32.toInt_inj.mp (h.trans (by decide)))
  have d7 : (xs i &&& 31).toInt ≠ 7 := fun h => c7 (Int32.toInt_inj.mp (h.trans (by decide)))
  have d8 : (xs i &&& 31).toInt ≠ 8 := fun h => c8 (Int32.toInt_inj.mp (h.trans (by decide)))
  have d9 : (xs i &&& 31).toInt ≠ 9 := fun h => c9 (Int32.toInt_inj.mp (h.trans (by decide)))
  have d10 : (xs i &&& 31).toInt ≠ 10 := fun h => c10 (Int32.toInt_inj.mp (h.trans (by decide)))
  have d11 : (xs i &&& 31).toInt ≠ 11 := fun h => c11 (Int32.toInt_inj.mp (h.trans (by decide)))
  have d12 : (xs i &&& 31).toInt ≠ 12 := fun h => c12 (Int32.toInt_inj.mp (h.trans (by decide)))
  have d13 : (xs i &&& 31).toInt ≠ 13 := fun h => c13 (Int32.toInt_inj.mp (h.trans (by decide)))
  have d14 : (xs i &&& 31).toInt ≠ 14 := fun h => c14 (Int32.toInt_inj.mp (h.trans (by decide)))
  have d15 : (xs i &&& 31).toInt ≠ 15 := fun h => c15 (Int32.toInt_inj.mp (h.trans (by decide)))
  have d16 : (xs i &&& 31).toInt ≠ 16 := fun h => c16 (Int32.toInt_inj.mp (h.trans (by decide)))
  have d17 : (xs i &&& 31).toInt ≠ 17 := fun h => c17 (Int32.toInt_inj.mp (h.trans (by decide)))
  have d18 : (xs i &&& 31).toInt ≠ 18 := fun h => c18 (Int32.toInt_inj.mp (h.trans (by decide)))
  refine lv_tableOut (pc := 40) (tgt := 900) hx hb dL_law_40 (by omega) rfl ?_
  exact K hR (by omega) (by omega) hH hl
theorem L_loop {p : Program} {l : Launch} {e : Env} {s : State} {m : MethodId} {below : List Frame} {meth : Method} {c : Code} {A : Nat → Prop} {G : va_G} {cy : Nat → ClassId} {b L : Nat} {xs : Nat → Int32} (X : zX p s m #[Value.ref b] meth c RL cL_law 7 wsLw G cy A) (hX : va_X b L xs s s.heap) (hbl : b < s.heap.size) (hbA : ¬ A b) (fu : Nat) (hfu : 65536 < fu) (hL : L ≤ 3584) (hlt : l.stackTraces = false) (sa : Nat) (hsa : vk_R RX8 110 "no such block" sa s) (hZu : vx_Zq Bundle.tN "UNASSIGNED_STACK" Bundle.steD A s s.heap) (hZn : vx_Zq Bundle.tN "SUPPRESSED_SENTINEL" Bundle.listD A s s.heap) (hNw : ∀ w ∈ zxB, va_Nw w s) (hA : ∀ q, A q → s.heap.size ≤ q) (hr : meth.sig.returnType = ret) : ∀ d i, i ≤ L → L - i ≤ d → zLA p l e s m below meth c A (lw_Z below #[Value.ref b] s) G cy b i i 23 := by
  intro d
  induction d with
  | zero => exact fun i hi h => L_step X hX hbl hbA fu hfu hL hlt sa hsa hZu hZn hNw hA hr hi (fun g => absurd g (by omega))
  | succ d ih => exact fun i hi h => L_step X hX hbl hbA fu hfu hL hlt sa hsa hZu hZn hNw hA hr hi (fun g => ih (i + 7) g (by omega))
