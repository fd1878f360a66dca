/-! what 'at' takes as given where it throws -/
def zxB : List Cond := [.declares (Bundle.initS "java/lang/RuntimeException"), .declares (Bundle.initS "java/lang/Exception"), .declares (Bundle.initS Bundle.tN)]
theorem zxB_all : ∀ w ∈ zxA, goodWord w = true ∨ w ∈ zxB ∨ w = .castable zxE zxE := by decide +kernel
theorem zxB_ins : Cond.instantiable zxE 6 ∈ zxA.filter goodWord := by decide +kernel
theorem z_asS (vm : Vm) (c : ClassId) : vm.assignable c c = true := by
  show vm.assignableAux (255 + 1) c c = true
  rw [Vm.assignableAux]
  simp only [beq_self_eq_true, Bool.true_or]
theorem z_castS {args : Array Value} {s : State} {C : String} {n : Nat} (h : (Cond.instantiable C n).before args s = true) : (Cond.castable C C).before args s = true := by
  obtain ⟨c, k, hc, hk, h3, h4, h5, h6⟩ := Cond.instantiable_spec h
  have ha : s.vm.assignable c c = true := by
    show s.vm.assignableAux (255 + 1) c c = true
    rw [Vm.assignableAux]
    simp only [beq_self_eq_true, Bool.true_or]
  simp [Cond.before, Cond.holds, Cond.value, hc, ha]
theorem zxB_ot : ∀ w ∈ zxB, w.onTables = true := by decide +kernel
theorem zxA_ot : ∀ w ∈ Cond.classLink RX8 108 zxE :: Cond.initialized zxE :: zxA, vx_ot w = true := by decide +kernel
theorem zxq_k : Cond.classLink RX8 108 zxE ∈ wsX8q := by decide +kernel
theorem zxq_i : Cond.initialized zxE ∈ wsX8q := by decide +kernel
def zPreX (G : va_G) (cy : Nat → ClassId) (ws : va_W) (sz sa : Nat) (U : State) : Prop := zPre G cy ws sz U ∧ vx_Zq Bundle.tN "UNASSIGNED_STACK" Bundle.steD (va_A ws sz) U U.heap ∧ vx_Zq Bundle.tN "SUPPRESSED_SENTINEL" Bundle.listD (va_A ws sz) U U.heap ∧ vk_R RX8 110 "no such block" sa U ∧ ∀ w ∈ zxB, va_Nw w U
def zXC (G : va_G) (ws : va_W) (A : Nat → Prop) : String → State → State → Prop := fun E st t => E = zxE ∧ zPost G A ws t ∧ va_F A st t
theorem zxB.warm {s U : State} (hW : s.WarmedH U.vm) (h : ∀ w ∈ zxB, va_Nw w s) : ∀ w ∈ zxB, va_Nw w U := List.forall_mem_cons.mpr ⟨va_Nw.warmD hW (h _ (List.mem_of_getElem? (i := 0) rfl)), List.forall_mem_cons.mpr ⟨va_Nw.warmD hW (h _ (List.mem_of_getElem? (i := 1) rfl)), List.forall_mem_cons.mpr ⟨va_Nw.warmD hW (h _ (List.mem_of_getElem? (i := 2) rfl)), fun _ h => absurd h List.not_mem_nil⟩⟩⟩
theorem zblindX {G : va_G} {cy : Nat → ClassId} {av : List Value} {ws : va_W} {sz sa : Nat} : FrameBlind (va_Pc av (zPreX G cy ws sz sa)) := fun a U g mk q =>
  have hb := zblind (G := G) (cy := cy) (av := av) (ws := ws) (sz := sz) a U g mk ⟨q.1, q.2.1⟩
  ⟨hb.1, hb.2, vx_Zq.moved (u := U) (U := U.calling g mk a) (Vm.Alike.refl U.vm) q.2.2.1, vx_Zq.moved (u := U) (U := U.calling g mk a) (Vm.Alike.refl U.vm) q.2.2.2.1, vk_R.same (u := U) (U := U.calling g mk a) rfl q.2.2.2.2.1, fun w hw => va_Nw.same (zxB_ot w hw) (u := U) (U := U.calling g mk a) rfl (q.2.2.2.2.2 w hw)⟩
section ZAT
variable {p : Program} {l : Launch} {e : Env} {R : Room} {s : State} {m : MethodId} {args : Array Value} {below : List Frame} {meth : Method} {c : Code} {H : Heap} {locs : List Loc} {cells slots : Nat} {Q : State → Prop}
variable {G : va_G} {cy : Nat → ClassId} {A : Nat → Prop} {own : String} {cc : ByteArray} {nL : Nat} {Ts : List Cond} {pc : Nat} {ls : Array Slot} {rest st0 : List Value}
theorem zpreX {ws wc : va_W} {isC : List Nat} {sa : Nat} (X : zX p s m args meth c own cc nL Ts G cy A) (hsa : vk_R RX8 110 "no such block" sa s) (hZu : vx_Zq Bundle.tN "UNASSIGNED_STACK" Bundle.steD A s s.heap) (hZn : vx_Zq Bundle.tN "SUPPRESSED_SENTINEL" Bundle.listD A s s.heap) (hNw : ∀ w ∈ zxB, va_Nw w s) (hH : zH G A s.heap ws H locs) (hC : isC.map (fun i => ws[i]?) = wc.map some) (hn : va_nd isC = true) : ∀ U : State, U.heap = H → s.WarmedH U.vm → zPreX G cy wc H.size sa U := by
  intro U hU hW
  have hF := va_free hH.2.1 hH.2.2 X.2.2.2.1 isC hC
  exact ⟨zpre X hH hC hn U hU hW, by rw [hU]; exact ((hZu.kept (fun a h1 h2 => hH.2.2.2.1 a h1 h2)).narrow hF).moved hW.alike, by rw [hU]; exact ((hZn.kept (fun a h1 h2 => hH.2.2.2.1 a h1 h2)).narrow hF).moved hW.alike, vk_R.warm hW hsa, zxB.warm hW hNw⟩
theorem zx_throwAt {ws : va_W} {sa : Nat} (X : zX p s m args meth c RX8 cX8_at 3 wsX8q G cy A) (hlt : l.stackTraces = false) (hsa : vk_R RX8 110 "no such block" sa s) (hZu : vx_Zq Bundle.tN "UNASSIGNED_STACK" Bundle.steD A s s.heap) (hZn : vx_Zq Bundle.tN "SUPPRESSED_SENTINEL" Bundle.listD A s s.heap) (hNw : ∀ w ∈ zxB, va_Nw w s) (htab : ∀ x ∈ c.exceptionTable.toList, False) (hH : zH G A s.heap ws H locs) (hls : ls.size = 3) :
    W p l e (zRI 6 1 6 120) s m args below meth c H locs 0 0 (vx_MQ below (fun _ _ _ _ => False) (zXC G ws A) args s 1 6 A) (F0 m 18 ls []) :=
  zx_throw (text := "no such block") (ik := 108) (is := 110) (sa := sa) (A := A) (pc := 18) (cc := cX8_at) X.1.1 X.1.2.1 hlt X.1.2.2.2.1 (X.1.2.2.2.2 _ zxq_k) (X.1.2.2.2.2 _ zxq_i) hsa
    (fun w hw => (zxB_all w hw).elim (fun g => X.1.2.2.2.2 _ (List.mem_cons_of_mem _ (List.mem_append_right _ (List.mem_filter.mpr ⟨hw, g⟩)))) (fun g => g.elim (fun g => va_Nw.use (zxB_ot w g) (hNw w g)) (fun g => g ▸ z_castS (X.1.2.2.2.2 _ (List.mem_cons_of_mem _ (List.mem_append_right _ zxB_ins))))))
    zxA_ot hZu hZn hH.2.2 (hls.trans X.1.2.2.1.symm) dX8_at_18 dX8_at_21 dX8_at_22 dX8_at_24 dX8_at_27 (fun x hx => (htab x hx).elim) (Nat.le_of_ble_eq_true rfl) (Nat.le_of_ble_eq_true rfl) (Nat.le_of_ble_eq_true rfl) (Nat.le_of_ble_eq_true rfl) X.2.2.2.2.1
    (fun t _ h1 h2 => ⟨rfl, ⟨hH.1.kept (fun k q hk => h2 q.1 ((hH.1 k q hk).lt)), hH.2.1⟩, Nat.le_trans hH.2.2.1 h1, fun q hq hA => (h2 q (Nat.lt_of_lt_of_le hq hH.2.2.1)).trans (hH.2.2.2.1 q hq hA)⟩) hH.2.2.2.2 (Nat.le_refl 1) (Nat.le_refl 6)
theorem z_iretC {ws : va_W} {v : Int32} {mc ms : Nat} {XC : String → State → State → Prop} (X : zX p s m args meth c own cc nL Ts G cy A) (hr : meth.sig.returnType = some .int) (hH : zH G A s.heap ws H locs) (hdg : decode cc pc = .ok (.ireturn, 1)) : W p l e R s m args below meth c H locs mc ms (vx_MQ below (zQ G ws A (some (.int v))) XC args s mc ms A) (F0 m pc ls [.int v]) :=
  vx_ret (W.iret X.1.1 X.1.2.1 hr (fun t ht hW => ⟨rfl, ⟨by rw [ht]; exact hH.1, hH.2.1⟩, hH.2.2.F ht⟩) hH.2.2.2.2 hdg X.2.2.2.2.1)
/-- a call that throws -/
theorem zcVX {ws wc wr : va_W} {y : MethodName} {bytes : ByteArray} {maxL n index ci q0 b mc ms sa : Nat} {ret : Option FieldType} {wds wds' : List Cond} {rm : Room} {As : List Value} {fs : List Value} {Cn : String} {T : u_T} {N : Nat} (X : zX p s m args meth c own cc nL Ts G cy A) (hM : vx_Met l y wds rm (va_Pc (.ref b :: As) (zPreX G cy wc H.size sa)) (fun _ _ _ _ => False) (zXC G wc (va_A wc H.size)) mc ms (va_A wc H.size))
    (hsa : vk_R RX8 110 "no such block" sa s) (hZu : vx_Zq Bundle.tN "UNASSIGNED_STACK" Bundle.steD A s s.heap) (hZn : vx_Zq Bundle.tN "SUPPRESSED_SENTINEL" Bundle.listD A s s.heap) (hNw : ∀ w ∈ zxB, va_Nw w s)
    (hH : zH G A s.heap ws H locs) (isC isR isP : List Nat) (hC : isC.map (fun i => ws[i]?) = wc.map some) (hR : isR.map (fun i => ws[i]?) = wr.map some) (hix : (va_nd isC && zIx isC isR isP) = true) (hP' : isP.map (fun i => (wr ++ wc)[i]?) = ws.map some)
    (hT : GoodIn Ts (wsV own index Cn y wds)) (hw : wds = Cond.code y bytes maxL ret :: wds') (hrc : rm.cells = mc ∧ rm.slots = ms) (hd : y.cls = Cn ∧ y.cls ≠ "java/lang/invoke/MethodHandle" ∧ y.cls ≠ "java/lang/invoke/VarHandle" ∧ (parseMethodDescriptor y.desc).map (fun d => d.parameters.length) = some n) (hRm : rm.frames + 1 ≤ R.frames ∧ 8 + (maxL + 11) + rm.locals ≤ R.locals)
    (hc : vwCl[ci]? = some (Cn, T, N)) (hq : wc[q0]? = some (b, .inr (ci, fs))) (hst : st0 = As.reverse ++ .ref b :: rest) (hn : As.length = n) (hl : ls.size = nL) (hrm : (rest.map fun v => v.category).sum ≤ 8) (hcs : cells + mc ≤ R.cells ∧ slots + ms ≤ R.slots) (hdg : decode cc pc = .ok (.invokevirtual index, 3))
    (kx : ∀ (q : Addr) (ce : Cell) (H1 : Heap) (locs1 : List Loc), zH G A s.heap ws H1 locs1 → H1[q]? = some ce → ce.vm = .none → s.vm.findClass zxE = some ce.cls → vx_W p l e R s m args below meth c H1 locs1 (cells + mc) (slots + ms) Q (F0 m pc ls rest) q) : W p l e R s m args below meth c H locs cells slots Q (F0 m pc ls st0) := by
  simp only [zIx, Bool.and_eq_true, List.all_eq_true, Bool.not_eq_true', List.elem_eq_mem, decide_eq_false_iff_not] at hix
  obtain ⟨hnC, hnR, hnP, hdis⟩ := hix
  have hpr := zpreX X hsa hZu hZn hNw hH hC hnC
  have hPc : va_P G vwCl wc H := hH.1.sub isC (by
    have e : isC.filterMap (fun i => ws[i]?) = (isC.map (fun i => ws[i]?)).filterMap id := by rw [List.filterMap_map]; rfl
    rw [e, hC, List.filterMap_map]
    simp)
  have run := vx_runV (g := F0 m pc ls st0) (As := As) (rest := rest) (cells := cells) (slots := slots) (locs := locs) (below := below) (meth := meth) (e := e) (p := p) (R := R) X.1 hM (cwV n X.1.2.2.2.2 hT hw hrc.1 hrc.2 hd hRm) ⟨zblindX, va_recv X.2.1 hPc hc hq, fun U hU hW => ⟨rfl, hpr U hU hW⟩⟩ rfl hn hl hst (lv_room hrm) hdg hcs
  obtain ⟨hP, hD, hS⟩ := hH
  have hF : ∀ q, va_A wc H.size q → A q := va_free hD hS X.2.2.2.1 isC hC
  intro T9 hT9 X0
  rcases run T9 hT9 X0 with ⟨v, st₀, t, T', L, h0, X', hL, e1, e2, hv, st⟩ | ⟨q, st₀, t, T', L, E, ce, h0, X', hL, e1, e2, ⟨hE, ⟨hp1, hd1⟩, hz, hk⟩, hce, hcv, hcl, st⟩
  · exact hv.elim
  subst hE
  rw [h0] at hz hk
  have hk' : ∀ q : Nat, q < H.size → ¬ va_A wc H.size q → T'.heap[q]? = H[q]? := fun q h1 h2 => by rw [e1]; exact hk q h1 h2
  have hp1' : va_P G vwCl wc T'.heap := by rw [e1]; exact hp1
  obtain ⟨hP2, hD2⟩ := va_join (wr := wr) (w1 := wc) hP hD isC isR hC hR hnR hdis hk' hF hp1' hd1
  have hP3 : va_P G vwCl ws T'.heap := hP2.sub isP (by
    have e : isP.filterMap (fun i => (wr ++ wc)[i]?) = (isP.map (fun i => (wr ++ wc)[i]?)).filterMap id := by rw [List.filterMap_map]; rfl
    rw [e, hP', List.filterMap_map]
    simp)
  have hD3 : va_D A ws := hD2.sub isP hnP hP'
  obtain ⟨t2, a1, b1⟩ := kx q ce T'.heap (locs ++ L) ⟨hP3, hD3, ⟨Nat.le_trans hS.1 (by rw [e1]; exact hz), fun q h1 h2 => by rw [hk' q (Nat.lt_of_lt_of_le h1 hS.1) (fun z => h2 (hF q z))]; exact hS.2.1 q h1 h2, fun q hq => by
      rcases List.mem_append.mp hq with h | h
      · exact hS.2.2 q h
      · exact hF _ (hL q h)⟩⟩ (by rw [e1]; exact hce) hcv hcl T' rfl X'
  exact ⟨t2, st.trans a1, b1⟩
/-- a static call of a method with a table of its own, that returns -/
theorem zcSX {st1 : List Value} {ws wc wc' wr ws' : va_W} {o : Option Value} {y : MethodName} {bytes : ByteArray} {maxL n index mc ms : Nat} {ret : Option FieldType} {hh : List (Nat × Nat × Nat × Nat)} {wds wds' : List Cond} {rm : Room} {As : List Value} {Pre : State → Prop} (X : zX p s m args meth c own cc nL Ts G cy A) (hM : vx_Met l y wds rm (va_Pc As Pre) (zQ G wc' (va_A wc H.size) o) (fun _ _ _ => False) mc ms (va_A wc H.size)) (hp : PreS s H (va_Pc As Pre) As)
    (hH : zH G A s.heap ws H locs) (isC isR isP : List Nat) (hC : isC.map (fun i => ws[i]?) = wc.map some) (hR : isR.map (fun i => ws[i]?) = wr.map some) (hix : zIx isC isR isP = true) (hP' : isP.map (fun i => (wr ++ wc')[i]?) = ws'.map some)
    (hT : GoodIn Ts (va_wsS own index y wds)) (hw : wds = Cond.codeWith y bytes maxL ret hh :: wds') (hrc : rm.cells = mc ∧ rm.slots = ms) (hd : y.cls ≠ "java/lang/invoke/MethodHandle" ∧ y.cls ≠ "java/lang/invoke/VarHandle" ∧ (parseMethodDescriptor y.desc).map (fun d => d.parameters.length) = some n) (hRm : rm.frames + 1 ≤ R.frames ∧ 8 + (maxL + 11) + rm.locals ≤ R.locals)
    (hst : st0 = As.reverse ++ rest) (hs1 : o.toList ++ rest = st1) (hn : As.length = n) (hl : ls.size = nL) (hrm : (rest.map fun v => v.category).sum ≤ 8) (hcs : cells + mc ≤ R.cells ∧ slots + ms ≤ R.slots) (hdg : decode cc pc = .ok (.invokestatic index, 3))
    (kk : ∀ (H1 : Heap) (locs1 : List Loc), zH G A s.heap ws' H1 locs1 → W p l e R s m args below meth c H1 locs1 (cells + mc) (slots + ms) Q (F0 m (pc + 3) ls st1)) : W p l e R s m args below meth c H locs cells slots Q (F0 m pc ls st0) := by
  simp only [zIx, Bool.and_eq_true, List.all_eq_true, Bool.not_eq_true', List.elem_eq_mem, decide_eq_false_iff_not] at hix
  obtain ⟨hnR, hnP, hdis⟩ := hix
  have run := vx_runSX (g := F0 m pc ls st0) (As := As) (rest := rest) (cells := cells) (slots := slots) (locs := locs) (below := below) (meth := meth) (e := e) (p := p) (R := R) X.1 hM (vx_cwSW n X.1.2.2.2.2 hT hw hrc.1 hrc.2 hd hRm) hp rfl hn hl hst (lv_room hrm) hdg hcs
  obtain ⟨hP, hD, hS⟩ := hH
  have hF : ∀ q, va_A wc H.size q → A q := va_free hD hS X.2.2.2.1 isC hC
  intro T9 hT9 X0
  rcases run T9 hT9 X0 with ⟨v, st₀, t, T', L, h0, X', hL, e1, e2, ⟨hv, ⟨hp1, hd1⟩, hz, hk⟩, st⟩ | ⟨q, st₀, t, T', L, E, ce, h0, X', hL, e1, e2, hE, hce, hcv, hcl, st⟩
  · cases hv
    subst hs1
    rw [h0] at hz hk
    have hk' : ∀ q : Nat, q < H.size → ¬ va_A wc H.size q → T'.heap[q]? = H[q]? := fun q h1 h2 => by rw [e1]; exact hk q h1 h2
    have hp1' : va_P G vwCl wc' T'.heap := by rw [e1]; exact hp1
    obtain ⟨hP2, hD2⟩ := va_join (wr := wr) (w1 := wc') hP hD isC isR hC hR hnR hdis hk' hF hp1' hd1
    have hP3 : va_P G vwCl ws' T'.heap := hP2.sub isP (by
      have e : isP.filterMap (fun i => (wr ++ wc')[i]?) = (isP.map (fun i => (wr ++ wc')[i]?)).filterMap id := by rw [List.filterMap_map]; rfl
      rw [e, hP', List.filterMap_map]
      simp)
    have hD3 : va_D A ws' := hD2.sub isP hnP hP'
    obtain ⟨t2, a1, b1⟩ := kk T'.heap (locs ++ L) ⟨hP3, hD3, ⟨Nat.le_trans hS.1 (by rw [e1]; exact hz), fun q h1 h2 => by rw [hk' q (Nat.lt_of_lt_of_le h1 hS.1) (fun z => h2 (hF q z))]; exact hS.2.1 q h1 h2, fun q hq => by
        rcases List.mem_append.mp hq with h | h
        · exact hS.2.2 q h
        · exact hF _ (hL q h)⟩⟩ T' rfl X'
    exact ⟨t2, st t2 a1, b1⟩
  · exact hE.elim
end ZAT
