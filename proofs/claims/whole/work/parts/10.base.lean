/-- kinds of rows: int, long, boolean, byte -/
def zT (cy : Nat → ClassId) : List (ClassId × FieldType) := [(cy 0, .int), (cy 1, .long), (cy 2, .boolean), (cy 3, .byte)]
def zNl : List Cond := [.methodLinkNest "SumsToAll" 18 ⟨"SumsToAll$Heaps", "<init>", "()V"⟩ "SumsToAll",
  .methodLinkNest "SumsToAll" 25 ⟨"SumsToAll$Signs", "<init>", "()V"⟩ "SumsToAll",
  .methodLinkNest "SumsToAll" 32 ⟨"SumsToAll$Clock", "<init>", "()V"⟩ "SumsToAll",
  .methodLinkNest "SumsToAll" 39 ⟨"SumsToAll$Ways", "<init>", "()V"⟩ "SumsToAll",
  .methodLinkNest "SumsToAll" 46 ⟨"SumsToAll$Search", "<init>", "()V"⟩ "SumsToAll",
  .methodLinkNest "SumsToAll" 53 ⟨"SumsToAll$Plan", "<init>", "()V"⟩ "SumsToAll",
  .methodLinkNest "SumsToAll$Heaps" 24 ⟨"SumsToAll", "isCell", "(I)Z"⟩ "SumsToAll",
  .methodLinkNest "SumsToAll$Heaps" 3 ⟨"SumsToAll$Follower", "<init>", "()V"⟩ "SumsToAll",
  .methodLinkNest "SumsToAll$Plan" 33 ⟨"SumsToAll", "cell", "(II)I"⟩ "SumsToAll",
  .methodLinkNest "SumsToAll$Signs" 5 ⟨"SumsToAll$Follower", "<init>", "()V"⟩ "SumsToAll",
  .methodLinkNest "SumsToAll$Signs" 56 ⟨"SumsToAll", "hostOfCell", "(I)I"⟩ "SumsToAll",
  .methodLinkNest "SumsToAll$Signs" 72 ⟨"SumsToAll", "blockOfCell", "(I)I"⟩ "SumsToAll",
  .methodLinkNest "SumsToAll$Signs" 78 ⟨"SumsToAll", "cell", "(II)I"⟩ "SumsToAll",
  .methodLinkNest "SumsToAll$Signs" 91 ⟨"SumsToAll", "isCell", "(I)Z"⟩ "SumsToAll",
  .methodLinkNest "SumsToAll$Ways" 15 ⟨"SumsToAll", "isAsked", "(LSumsToAll$House;II)Z"⟩ "SumsToAll",
  .declares ⟨"SumsToAll$Follower", "takeUp", "(II)V"⟩,
  .declares ⟨"SumsToAll$Follower", "putDown", "(I)V"⟩,
  .declares ⟨"SumsToAll$Follower", "addDown", "(I)V"⟩]
theorem zNl_ot : ∀ w ∈ zNl, w.onTables = true := by decide +kernel
def zN (U : State) : Prop := ∀ w ∈ zNl, va_Nw w U
theorem zN.warm {s U : State} (hW : s.WarmedH U.vm) (h : zN s) : zN U := List.forall_mem_cons.mpr ⟨va_Nw.warmM hW (h _ (List.mem_of_getElem? (i := 0) rfl)), List.forall_mem_cons.mpr ⟨va_Nw.warmM hW (h _ (List.mem_of_getElem? (i := 1) rfl)), List.forall_mem_cons.mpr ⟨va_Nw.warmM hW (h _ (List.mem_of_getElem? (i := 2) rfl)), List.forall_mem_cons.mpr ⟨va_Nw.warmM hW (h _ (List.mem_of_getElem? (i := 3) rfl)), List.forall_mem_cons.mpr ⟨va_Nw.warmM hW (h _ (List.mem_of_getElem? (i := 4) rfl)), List.forall_mem_cons.mpr ⟨va_Nw.warmM hW (h _ (List.mem_of_getElem? (i := 5) rfl)), List.forall_mem_cons.mpr ⟨va_Nw.warmM hW (h _ (List.mem_of_getElem? (i := 6) rfl)), List.forall_mem_cons.mpr ⟨va_Nw.warmM hW (h _ (List.mem_of_getElem? (i := 7) rfl)), List.forall_mem_cons.mpr ⟨va_Nw.warmM hW (h _ (List.mem_of_getElem? (i := 8) rfl)), List.forall_mem_cons.mpr ⟨va_Nw.warmM hW (h _ (List.mem_of_getElem? (i := 9) rfl)), List.forall_mem_cons.mpr ⟨va_Nw.warmM hW (h _ (List.mem_of_getElem? (i := 10) rfl)), List.forall_mem_cons.mpr ⟨va_Nw.warmM hW (h _ (List.mem_of_getElem? (i := 11) rfl)), List.forall_mem_cons.mpr ⟨va_Nw.warmM hW (h _ (List.mem_of_getElem? (i := 12) rfl)), List.forall_mem_cons.mpr ⟨va_Nw.warmM hW (h _ (List.mem_of_getElem? (i := 13) rfl)), List.forall_mem_cons.mpr ⟨va_Nw.warmM hW (h _ (List.mem_of_getElem? (i := 14) rfl)), List.forall_mem_cons.mpr ⟨va_Nw.warmD hW (h _ (List.mem_of_getElem? (i := 15) rfl)), List.forall_mem_cons.mpr ⟨va_Nw.warmD hW (h _ (List.mem_of_getElem? (i := 16) rfl)), List.forall_mem_cons.mpr ⟨va_Nw.warmD hW (h _ (List.mem_of_getElem? (i := 17) rfl)), fun _ h => absurd h List.not_mem_nil⟩⟩⟩⟩⟩⟩⟩⟩⟩⟩⟩⟩⟩⟩⟩⟩⟩⟩
theorem zN.call {U : State} {g : JFrame} {mk : MethodId} {a : Array Value} (h : zN U) : zN (U.calling g mk a) := fun w hw => va_Nw.same (zNl_ot w hw) (u := U) (U := U.calling g mk a) rfl (h w hw)
/-- the table of ways, a static row that nobody writes -/
def zKn (j : Nat) : Int32 := if j = 0 then 15 else if j = 1 then 7 else if j = 2 then 12 else 27
def zS (A : Nat → Prop) (U : State) (H : Heap) : Prop := ∃ t : Nat, va_Z "SumsToAll$Ways" "KNOWN" "[I" (.ref t) A U H ∧ va_T .int t 4 (fun j => .int (zKn j)) A U H
theorem zS.moved {A : Nat → Prop} {u U : State} {H : Heap} (hvm : u.vm.Alike U.vm) (h : zS A u H) : zS A U H := by
  obtain ⟨t, h1, h2⟩ := h
  exact ⟨t, h1.moved hvm, h2.moved hvm⟩
theorem zS.kept {A : Nat → Prop} {U : State} {H H1 : Heap} (h : zS A U H) (hq : ∀ a : Nat, a < H.size → ¬ A a → H1[a]? = H[a]?) : zS A U H1 := by
  obtain ⟨t, h1, h2⟩ := h
  exact ⟨t, h1.kept hq, h2.kept hq⟩
theorem zS.narrow {A B : Nat → Prop} {U : State} {H : Heap} (h : zS A U H) (hAB : ∀ q, B q → A q) : zS B U H := by
  obtain ⟨t, h1, h2⟩ := h
  exact ⟨t, h1.narrow hAB, h2.narrow hAB⟩
def zPre (G : va_G) (cy : Nat → ClassId) (ws : va_W) (sz : Nat) (U : State) : Prop := U.heap.size = sz ∧ va_P G vwCl ws U.heap ∧ va_K G vwCl (zT cy) U ∧ va_D (fun _ => True) ws ∧ zN U ∧ zS (va_A ws sz) U U.heap
def zPost (G : va_G) (A : Nat → Prop) (ws : va_W) (t : State) : Prop := va_P G vwCl ws t.heap ∧ va_D A ws
def zQ (G : va_G) (ws : va_W) (A : Nat → Prop) (o : Option Value) : Array Value → State → Outcome → State → Prop := fun _ st oc t => oc = .returned o ∧ zPost G A ws t ∧ va_F A st t
/-- a contract: from the cells ws, with the arguments av, y answers o and leaves the cells ws' -/
def zM (l : Launch) (G : va_G) (cy : Nat → ClassId) (y : MethodName) (wds : List Cond) (rm : Room) (av : List Value) (ws ws' : va_W) (o : Option Value) : Prop := ∀ sz : Nat, Met l y wds rm (va_Pc av (zPre G cy ws sz)) (zQ G ws' (va_A ws sz) o) 0 0 (va_A ws sz)
/-- the world of a walk -/
def zH (G : va_G) (A : Nat → Prop) (H0 : Heap) (ws : va_W) (H : Heap) (locs : List Loc) : Prop := va_P G vwCl ws H ∧ va_D A ws ∧ va_S A H0 H locs
/-- what stays the same over a walk -/
def zX (p : Program) (s : State) (m : MethodId) (args : Array Value) (meth : Method) (c : Code) (own : String) (cc : ByteArray) (nL : Nat) (Ts : List Cond) (G : va_G) (cy : Nat → ClassId) (A : Nat → Prop) : Prop :=
  CallFix p m c cc nL s args Ts own ∧ va_K G vwCl (zT cy) s ∧ zN s ∧ (∀ q, s.heap.size ≤ q → A q) ∧ meth.locks = false ∧ zS A s s.heap
def zIx (isC isR isP : List Nat) : Bool := va_nd isR && (va_nd isP && isR.all (fun i => !(isC.elem i)))
theorem zblind {G : va_G} {cy : Nat → ClassId} {av : List Value} {ws : va_W} {sz : Nat} : FrameBlind (va_Pc av (zPre G cy ws sz)) := fun a U g mk q => ⟨q.1, q.2.1, q.2.2.1, va_K.moved (u := U) (U := U.calling g mk a) (Vm.Alike.refl U.vm) q.2.2.2.1, q.2.2.2.2.1, q.2.2.2.2.2.1.call, zS.moved (u := U) (U := U.calling g mk a) (Vm.Alike.refl U.vm) q.2.2.2.2.2.2⟩
def zR (fr lo : Nat) : Room := { frames := fr, cells := 0, slots := 0, locals := lo }
section ZB
variable {p : Program} {l : Launch} {e : Env} {R : Room} {s : State} {m : MethodId} {args : Array Value} {below : List Frame} {meth : Method} {c : Code} {H : Heap} {locs : List Loc} {cells slots : Nat} {Q : State → Prop}
variable {G : va_G} {cy : Nat → ClassId} {A : Nat → Prop} {own : String} {cc : ByteArray} {nL : Nat} {Ts : List Cond} {pc : Nat} {ls : Array Slot} {rest st0 : List Value}
theorem zpre {ws wc : va_W} {isC : List Nat} (X : zX p s m args meth c own cc nL Ts G cy A) (hH : zH G A s.heap ws H locs) (hC : isC.map (fun i => ws[i]?) = wc.map some) (hn : va_nd isC = true) : ∀ U : State, U.heap = H → s.WarmedH U.vm → zPre G cy wc H.size U := by
  intro U hU hW
  have hPc : va_P G vwCl wc H := hH.1.sub isC (by
    have e : isC.filterMap (fun i => ws[i]?) = (isC.map (fun i => ws[i]?)).filterMap id := by rw [List.filterMap_map]; rfl
    rw [e, hC, List.filterMap_map]
    simp)
  exact ⟨by rw [hU], by rw [hU]; exact hPc, va_K.moved hW.alike X.2.1, (hH.2.1.sub isC hn hC).weaken (fun _ _ _ _ => trivial), X.2.2.1.warm hW, by rw [hU]; exact (((X.2.2.2.2.2.kept (fun a h1 h2 => hH.2.2.2.1 a h1 h2)).narrow (va_free hH.2.1 hH.2.2 X.2.2.2.1 isC hC)).moved hW.alike)⟩
theorem zcall {st1 : List Value} {ws wc wc' wr ws' : va_W} {isC isR isP : List Nat} {o : Option Value} {a : Array Value} (X : zX p s m args meth c own cc nL Ts G cy A) (hH : zH G A s.heap ws H locs) (hC : isC.map (fun i => ws[i]?) = wc.map some) (hR : isR.map (fun i => ws[i]?) = wr.map some) (hix : zIx isC isR isP = true) (hP' : isP.map (fun i => (wr ++ wc')[i]?) = ws'.map some)
    (hs1 : o.toList ++ rest = st1) (run : va_Run p l e R s m args below meth c H locs cells slots 0 0 (F0 m pc ls st0) rest (zQ G wc' (va_A wc H.size) o a) (va_A wc H.size))
    (kk : ∀ (H1 : Heap) (locs1 : List Loc), zH G A s.heap ws' H1 locs1 → W p l e R s m args below meth c H1 locs1 cells slots Q (F0 m (pc + 3) ls st1)) : W p l e R s m args below meth c H locs cells slots Q (F0 m pc ls st0) := by
  simp only [zIx, Bool.and_eq_true, List.all_eq_true, Bool.not_eq_true', List.elem_eq_mem, decide_eq_false_iff_not] at hix
  obtain ⟨hnR, hnP, hdis⟩ := hix
  obtain ⟨hP, hD, hS⟩ := hH
  have hF : ∀ q, va_A wc H.size q → A q := va_free hD hS X.2.2.2.1 isC hC
  intro T hT X0
  obtain ⟨v, st₀, t, T', L, h0, X', hL, e1, e2, ⟨hv, ⟨hp1, hd1⟩, hz, hk⟩, st⟩ := run T hT X0
  cases hv
  subst hs1
  rw [h0] at hz hk
  have hk' : ∀ q : Nat, q < H.size → ¬ va_A wc H.size q → T'.heap[q]? = H[q]? := fun q h1 h2 => by rw [e1]; exact hk q h1 h2
  have hp1' : va_P G vwCl wc' T'.heap := by rw [e1]; exact hp1
  obtain ⟨hP2, hD2⟩ := va_join (wr := wr) (w1 := wc') hP hD isC isR hC hR hnR hdis hk' hF hp1' hd1
  have hP3 : va_P G vwCl ws' T'.heap := hP2.sub isP (by
    have e : isP.filterMap (fun i => (wr ++ wc')[i]?) = (isP.map (fun i => (wr ++ wc')[i]?)).filterMap id := by rw [List.filterMap_map]; rfl
    rw [e, hP', List.filterMap_map]
    simp)
  have hD3 : va_D A ws' := hD2.sub isP hnP hP'
  obtain ⟨t2, a1, b1⟩ := kk T'.heap (locs ++ L) ⟨hP3, hD3, ⟨Nat.le_trans hS.1 (by rw [e1]; exact hz), fun q h1 h2 => by rw [hk' q (Nat.lt_of_lt_of_le h1 hS.1) (fun z => h2 (hF q z))]; exact hS.2.1 q h1 h2, fun q hq => by
      rcases List.mem_append.mp hq with h | h
      · exact hS.2.2 q h
      · exact hF _ (hL q h)⟩⟩ T' rfl X'
  exact ⟨t2, st t2 a1, b1⟩
/-- a call on an object, of its own kind -/
theorem zcV {st1 : List Value} {ws wc wc' wr ws' : va_W} {o : Option Value} {y : MethodName} {bytes : ByteArray} {maxL n index ci q0 b : Nat} {ret : Option FieldType} {wds wds' : List Cond} {rm : Room} {As : List Value} {fs : List Value} {Cn : String} {T : u_T} {N : Nat} (X : zX p s m args meth c own cc nL Ts G cy A) (hM : zM l G cy y wds rm (.ref b :: As) wc wc' o)
    (hH : zH G A s.heap ws H locs) (isC isR isP : List Nat) (hC : isC.map (fun i => ws[i]?) = wc.map some) (hR : isR.map (fun i => ws[i]?) = wr.map some) (hix : (va_nd isC && zIx isC isR isP) = true) (hP' : isP.map (fun i => (wr ++ wc')[i]?) = ws'.map some)
    (hT : GoodIn Ts (wsV own index Cn y wds)) (hw : wds = Cond.code y bytes maxL ret :: wds') (hrc : rm.cells = 0 ∧ rm.slots = 0) (hd : y.cls = Cn ∧ y.cls ≠ "java/lang/invoke/MethodHandle" ∧ y.cls ≠ "java/lang/invoke/VarHandle" ∧ (parseMethodDescriptor y.desc).map (fun d => d.parameters.length) = some n) (hRm : rm.frames + 1 ≤ R.frames ∧ 8 + (maxL + 11) + rm.locals ≤ R.locals)
    (hc : vwCl[ci]? = some (Cn, T, N)) (hq : wc[q0]? = some (b, .inr (ci, fs))) (hst : st0 = As.reverse ++ .ref b :: rest) (hs1 : o.toList ++ rest = st1) (hn : As.length = n) (hl : ls.size = nL) (hrm : (rest.map fun v => v.category).sum ≤ 8) (hcs : cells ≤ R.cells ∧ slots ≤ R.slots) (hdg : decode cc pc = .ok (.invokevirtual index, 3))
    (kk : ∀ (H1 : Heap) (locs1 : List Loc), zH G A s.heap ws' H1 locs1 → W p l e R s m args below meth c H1 locs1 cells slots Q (F0 m (pc + 3) ls st1)) : W p l e R s m args below meth c H locs cells slots Q (F0 m pc ls st0) := by
  rw [Bool.and_eq_true] at hix
  have hpr := zpre X hH hC hix.1
  have hPc : va_P G vwCl wc H := hH.1.sub isC (by
    have e : isC.filterMap (fun i => ws[i]?) = (isC.map (fun i => ws[i]?)).filterMap id := by rw [List.filterMap_map]; rfl
    rw [e, hC, List.filterMap_map]
    simp)
  refine zcall X hH hC hR hix.2 hP' hs1 (va_runV (As := As) (rest := rest) X.1 (hM H.size) (cwV n X.1.2.2.2.2 hT hw hrc.1 hrc.2 hd hRm) ⟨zblind, va_recv X.2.1 hPc hc hq, fun U hU hW => ⟨rfl, hpr U hU hW⟩⟩ rfl hn hl hst (lv_room hrm) hdg hcs) kk
/-- a static call -/
theorem zcS {st1 : List Value} {ws wc wc' wr ws' : va_W} {o : Option Value} {y : MethodName} {bytes : ByteArray} {maxL n index : Nat} {ret : Option FieldType} {wds wds' : List Cond} {rm : Room} {As : List Value} (X : zX p s m args meth c own cc nL Ts G cy A) (hM : zM l G cy y wds rm As wc wc' o)
    (hH : zH G A s.heap ws H locs) (isC isR isP : List Nat) (hC : isC.map (fun i => ws[i]?) = wc.map some) (hR : isR.map (fun i => ws[i]?) = wr.map some) (hix : (va_nd isC && zIx isC isR isP) = true) (hP' : isP.map (fun i => (wr ++ wc')[i]?) = ws'.map some)
    (hT : GoodIn Ts (va_wsS own index y wds)) (hw : wds = Cond.code y bytes maxL ret :: wds') (hrc : rm.cells = 0 ∧ rm.slots = 0) (hd : y.cls ≠ "java/lang/invoke/MethodHandle" ∧ y.cls ≠ "java/lang/invoke/VarHandle" ∧ (parseMethodDescriptor y.desc).map (fun d => d.parameters.length) = some n) (hRm : rm.frames + 1 ≤ R.frames ∧ 8 + (maxL + 11) + rm.locals ≤ R.locals)
    (hst : st0 = As.reverse ++ rest) (hs1 : o.toList ++ rest = st1) (hn : As.length = n) (hl : ls.size = nL) (hrm : (rest.map fun v => v.category).sum ≤ 8) (hcs : cells ≤ R.cells ∧ slots ≤ R.slots) (hdg : decode cc pc = .ok (.invokestatic index, 3))
    (kk : ∀ (H1 : Heap) (locs1 : List Loc), zH G A s.heap ws' H1 locs1 → W p l e R s m args below meth c H1 locs1 cells slots Q (F0 m (pc + 3) ls st1)) : W p l e R s m args below meth c H locs cells slots Q (F0 m pc ls st0) := by
  rw [Bool.and_eq_true] at hix
  have hpr := zpre X hH hC hix.1
  refine zcall X hH hC hR hix.2 hP' hs1 (va_runS (As := As) (rest := rest) X.1 (hM H.size) (va_cwS n X.1.2.2.2.2 hT hw hrc.1 hrc.2 hd hRm) ⟨zblind, fun U hU hW => ⟨rfl, hpr U hU hW⟩⟩ rfl hn hl hst (lv_room hrm) hdg hcs) kk
/-- a static call on a nest mate -/
theorem zcN {st1 : List Value} {ws wc wc' wr ws' : va_W} {o : Option Value} {y : MethodName} {bytes : ByteArray} {maxL n index : Nat} {ret : Option FieldType} {wds wds' : List Cond} {rm : Room} {As : List Value} {host : String} (X : zX p s m args meth c own cc nL Ts G cy A) (hM : zM l G cy y wds rm As wc wc' o)
    (hH : zH G A s.heap ws H locs) (isC isR isP : List Nat) (hC : isC.map (fun i => ws[i]?) = wc.map some) (hR : isR.map (fun i => ws[i]?) = wr.map some) (hix : (va_nd isC && zIx isC isR isP) = true) (hP' : isP.map (fun i => (wr ++ wc')[i]?) = ws'.map some)
    (hT : GoodIn Ts wds) (hNl : Cond.methodLinkNest own index y host ∈ zNl) (hini : Cond.initialized y.cls ∈ Ts) (hstt : Cond.static y ∈ Ts) (hw : wds = Cond.code y bytes maxL ret :: wds') (hrc : rm.cells = 0 ∧ rm.slots = 0) (hd : y.cls ≠ "java/lang/invoke/MethodHandle" ∧ y.cls ≠ "java/lang/invoke/VarHandle" ∧ (parseMethodDescriptor y.desc).map (fun d => d.parameters.length) = some n) (hRm : rm.frames + 1 ≤ R.frames ∧ 8 + (maxL + 11) + rm.locals ≤ R.locals)
    (hst : st0 = As.reverse ++ rest) (hs1 : o.toList ++ rest = st1) (hn : As.length = n) (hl : ls.size = nL) (hrm : (rest.map fun v => v.category).sum ≤ 8) (hcs : cells ≤ R.cells ∧ slots ≤ R.slots) (hdg : decode cc pc = .ok (.invokestatic index, 3))
    (kk : ∀ (H1 : Heap) (locs1 : List Loc), zH G A s.heap ws' H1 locs1 → W p l e R s m args below meth c H1 locs1 cells slots Q (F0 m (pc + 3) ls st1)) : W p l e R s m args below meth c H locs cells slots Q (F0 m pc ls st0) := by
  rw [Bool.and_eq_true] at hix
  have hpr := zpre X hH hC hix.1
  refine zcall X hH hC hR hix.2 hP' hs1 (va_runSN (As := As) (rest := rest) (host := host) X.1 (hM H.size) ⟨va_cnB n X.1.2.2.2.2 hT hw hrc.1 hrc.2 (X.2.2.1 _ hNl) (X.1.2.2.2.2 _ hini) hd hRm, X.1.2.2.2.2 _ hstt, trivial⟩ ⟨zblind, fun U hU hW => ⟨rfl, hpr U hU hW⟩⟩ rfl hn hl hst (lv_room hrm) hdg hcs) kk
/-- a call on an object that names an inherited method -/
theorem zcU {st1 : List Value} {ws wc wc' wr ws' : va_W} {o : Option Value} {x y : MethodName} {bytes : ByteArray} {maxL n index ci q0 b : Nat} {ret : Option FieldType} {wds : List Cond} {rm : Room} {As : List Value} {fs : List Value} {Cn owner : String} {T : u_T} {N : Nat} (X : zX p s m args meth c own cc nL Ts G cy A) (hM : zM l G cy y wds rm (.ref b :: As) wc wc' o)
    (hH : zH G A s.heap ws H locs) (isC isR isP : List Nat) (hC : isC.map (fun i => ws[i]?) = wc.map some) (hR : isR.map (fun i => ws[i]?) = wr.map some) (hix : (va_nd isC && zIx isC isR isP) = true) (hP' : isP.map (fun i => (wr ++ wc')[i]?) = ws'.map some)
    (cw : va_CU R s args own Cn owner index x y bytes maxL ret wds rm 0 0 n)
    (hc : vwCl[ci]? = some (Cn, T, N)) (hq : wc[q0]? = some (b, .inr (ci, fs))) (hst : st0 = As.reverse ++ .ref b :: rest) (hs1 : o.toList ++ rest = st1) (hn : As.length = n) (hl : ls.size = nL) (hrm : (rest.map fun v => v.category).sum ≤ 8) (hcs : cells ≤ R.cells ∧ slots ≤ R.slots) (hdg : decode cc pc = .ok (.invokevirtual index, 3))
    (kk : ∀ (H1 : Heap) (locs1 : List Loc), zH G A s.heap ws' H1 locs1 → W p l e R s m args below meth c H1 locs1 cells slots Q (F0 m (pc + 3) ls st1)) : W p l e R s m args below meth c H locs cells slots Q (F0 m pc ls st0) := by
  rw [Bool.and_eq_true] at hix
  have hpr := zpre X hH hC hix.1
  have hPc : va_P G vwCl wc H := hH.1.sub isC (by
    have e : isC.filterMap (fun i => ws[i]?) = (isC.map (fun i => ws[i]?)).filterMap id := by rw [List.filterMap_map]; rfl
    rw [e, hC, List.filterMap_map]
    simp)
  refine zcall X hH hC hR hix.2 hP' hs1 (va_runU (As := As) (rest := rest) X.1 (hM H.size) cw ⟨zblind, va_recv X.2.1 hPc hc hq, fun U hU hW => ⟨rfl, hpr U hU hW⟩⟩ rfl hn hl hst (lv_room hrm) hdg hcs) kk
theorem z_get {Cn : String} {T : u_T} {N ci index : Nat} {a : Nat} {fs : List Value} {ws : va_W} {H0 : Heap} (X : zX p s m args meth c own cc nL Ts G cy A) (hin : ∀ w ∈ u_ws Cn T N, w ∈ Ts) (hH : zH G A H0 ws H locs) (q0 : Nat) (he : ws[q0]? = some (a, .inr (ci, fs))) (hc : vwCl[ci]? = some (Cn, T, N)) (k : Nat) (hk : Nat.blt k N = true) (hl : Cond.fieldLink own index (T k).1 (T k).2.1 (T k).2.2.1 ∈ Ts) {v : Value} (hv : fs[k]? = some v) (hdg : decode cc pc = .ok (.getfield index, 3))
    (kk : W p l e R s m args below meth c H locs cells slots Q (F0 m (pc + 3) ls (v :: rest))) : W p l e R s m args below meth c H locs cells slots Q (F0 m pc ls (.ref a :: rest)) :=
  va_get X.1.1 X.1.2.1 X.1.2.2.2.2 hin X.1.2.2.2.1 X.2.1 hH.1 q0 he hc k (Nat.le_of_ble_eq_true hk) (X.1.2.2.2.2 _ hl) (fun _ h => h) hv hdg kk
theorem z_put {Cn : String} {T : u_T} {N ci index : Nat} {a : Nat} {fs : List Value} {ws ws' : va_W} (X : zX p s m args meth c own cc nL Ts G cy A) (hin : ∀ w ∈ u_ws Cn T N, w ∈ Ts) (ty0 : Nat → FieldType) (hty : ∀ k, k < N → parseFieldDescriptor (T k).2.2.1 = some (ty0 k)) (hnm : ∀ a, a < N → ∀ b, b < N → a ≠ b → (T a).2.1 ≠ (T b).2.1) (hH : zH G A s.heap ws H locs) (q0 : Nat) (he : ws[q0]? = some (a, .inr (ci, fs))) (hc : vwCl[ci]? = some (Cn, T, N)) (k : Nat) (hk : Nat.blt k N = true) (hl : Cond.fieldLink own index (T k).1 (T k).2.1 (T k).2.2.1 ∈ Ts) (hfin : (T k).2.2.2 = false) {v : Value} (hn : narrow (ty0 k) v = v) (hfit : fits (ty0 k) v = true) (hlen : Nat.blt k fs.length = true) (hws : ws.set q0 (a, .inr (ci, fs.set k v)) = ws') (hdg : decode cc pc = .ok (.putfield index, 3))
    (kk : ∀ (H1 : Heap) (locs1 : List Loc), zH G A s.heap ws' H1 locs1 → W p l e R s m args below meth c H1 locs1 cells slots Q (F0 m (pc + 3) ls rest)) : W p l e R s m args below meth c H locs cells slots Q (F0 m pc ls (v :: .ref a :: rest)) := by
  subst hws
  exact va_put X.1.1 X.1.2.1 X.1.2.2.2.2 hin ty0 hty hnm X.1.2.2.2.1 X.2.1 hH.1 hH.2.1 hH.2.2 q0 he hc k (Nat.le_of_ble_eq_true hk) (X.1.2.2.2.2 _ hl) (fun _ h => h) hfin (hty k (Nat.le_of_ble_eq_true hk)) hn hfit (Nat.le_of_ble_eq_true hlen) hdg (fun H1 locs1 a b c => kk H1 locs1 ⟨a, b, c⟩)
theorem z_iald {a n : Nat} {f : Nat → Int32} {ws : va_W} {H0 : Heap} {i : Int32} (X : zX p s m args meth c own cc nL Ts G cy A) (hH : zH G A H0 ws H locs) (q0 : Nat) (ha : ws[q0]? = some (a, .inl (cy 0, n, .inl f))) (hin : ¬ (i < 0 ∨ n ≤ i.toNatClampNeg)) (hdg : decode cc pc = .ok (.iaload, 1))
    (kk : W p l e R s m args below meth c H locs cells slots Q (F0 m (pc + 1) ls (.int (f i.toNatClampNeg) :: rest))) : W p l e R s m args below meth c H locs cells slots Q (F0 m pc ls (.int i :: .ref a :: rest)) :=
  va_iald X.1.1 X.1.2.1 X.2.1 hH.1 q0 0 ha rfl hin hdg kk
theorem z_lald {a n : Nat} {f : Nat → Int64} {ws : va_W} {H0 : Heap} {i : Int32} (X : zX p s m args meth c own cc nL Ts G cy A) (hH : zH G A H0 ws H locs) (q0 : Nat) (ha : ws[q0]? = some (a, .inl (cy 1, n, .inr (.inl f)))) (hin : ¬ (i < 0 ∨ n ≤ i.toNatClampNeg)) (hdg : decode cc pc = .ok (.laload, 1))
    (kk : W p l e R s m args below meth c H locs cells slots Q (F0 m (pc + 1) ls (.long (f i.toNatClampNeg) :: rest))) : W p l e R s m args below meth c H locs cells slots Q (F0 m pc ls (.int i :: .ref a :: rest)) :=
  va_lald X.1.1 X.1.2.1 X.2.1 hH.1 q0 1 ha rfl hin hdg kk
theorem z_zald {a n : Nat} {f : Nat → Int32} {ws : va_W} {H0 : Heap} {i : Int32} (X : zX p s m args meth c own cc nL Ts G cy A) (hH : zH G A H0 ws H locs) (q0 : Nat) (ha : ws[q0]? = some (a, .inl (cy 2, n, .inl f))) (hin : ¬ (i < 0 ∨ n ≤ i.toNatClampNeg)) (hdg : decode cc pc = .ok (.baload, 1))
    (kk : W p l e R s m args below meth c H locs cells slots Q (F0 m (pc + 1) ls (.int (f i.toNatClampNeg) :: rest))) : W p l e R s m args below meth c H locs cells slots Q (F0 m pc ls (.int i :: .ref a :: rest)) :=
  va_zald X.1.1 X.1.2.1 X.2.1 hH.1 q0 2 ha rfl hin hdg kk
theorem z_bald {a n : Nat} {f : Nat → Int32} {ws : va_W} {H0 : Heap} {i : Int32} (X : zX p s m args meth c own cc nL Ts G cy A) (hH : zH G A H0 ws H locs) (q0 : Nat) (ha : ws[q0]? = some (a, .inl (cy 3, n, .inl f))) (hin : ¬ (i < 0 ∨ n ≤ i.toNatClampNeg)) (hdg : decode cc pc = .ok (.baload, 1))
    (kk : W p l e R s m args below meth c H locs cells slots Q (F0 m (pc + 1) ls (.int (f i.toNatClampNeg) :: rest))) : W p l e R s m args below meth c H locs cells slots Q (F0 m pc ls (.int i :: .ref a :: rest)) :=
  va_bald X.1.1 X.1.2.1 X.2.1 hH.1 q0 3 ha rfl hin hdg kk
theorem z_iast {a n : Nat} {f : Nat → Int32} {ws ws' : va_W} {i x : Int32} (X : zX p s m args meth c own cc nL Ts G cy A) (hH : zH G A s.heap ws H locs) (q0 : Nat) (ha : ws[q0]? = some (a, .inl (cy 0, n, .inl f))) (hin : ¬ (i < 0 ∨ n ≤ i.toNatClampNeg)) (hws : ws.set q0 (a, .inl (cy 0, n, .inl (upd f i.toNatClampNeg x))) = ws') (hdg : decode cc pc = .ok (.iastore, 1))
    (kk : ∀ (H1 : Heap) (locs1 : List Loc), zH G A s.heap ws' H1 locs1 → W p l e R s m args below meth c H1 locs1 cells slots Q (F0 m (pc + 1) ls rest)) : W p l e R s m args below meth c H locs cells slots Q (F0 m pc ls (.int x :: .int i :: .ref a :: rest)) := by
  subst hws
  exact va_iast X.1.1 X.1.2.1 X.2.1 hH.1 hH.2.1 hH.2.2 q0 0 ha rfl hin hdg (fun H1 locs1 a b c => kk H1 locs1 ⟨a, b, c⟩)
theorem z_zast {a n : Nat} {f : Nat → Int32} {ws ws' : va_W} {i x : Int32} (X : zX p s m args meth c own cc nL Ts G cy A) (hH : zH G A s.heap ws H locs) (q0 : Nat) (ha : ws[q0]? = some (a, .inl (cy 2, n, .inl f))) (hin : ¬ (i < 0 ∨ n ≤ i.toNatClampNeg)) (hws : ws.set q0 (a, .inl (cy 2, n, .inl (upd f i.toNatClampNeg (vp_nar .boolean x)))) = ws') (hdg : decode cc pc = .ok (.bastore, 1))
    (kk : ∀ (H1 : Heap) (locs1 : List Loc), zH G A s.heap ws' H1 locs1 → W p l e R s m args below meth c H1 locs1 cells slots Q (F0 m (pc + 1) ls rest)) : W p l e R s m args below meth c H locs cells slots Q (F0 m pc ls (.int x :: .int i :: .ref a :: rest)) := by
  subst hws
  exact va_zast X.1.1 X.1.2.1 X.2.1 hH.1 hH.2.1 hH.2.2 q0 2 ha rfl hin hdg (fun H1 locs1 a b c => kk H1 locs1 ⟨a, b, c⟩)
theorem z_bast {a n : Nat} {f : Nat → Int32} {ws ws' : va_W} {i x : Int32} (X : zX p s m args meth c own cc nL Ts G cy A) (hH : zH G A s.heap ws H locs) (q0 : Nat) (ha : ws[q0]? = some (a, .inl (cy 3, n, .inl f))) (hin : ¬ (i < 0 ∨ n ≤ i.toNatClampNeg)) (hws : ws.set q0 (a, .inl (cy 3, n, .inl (upd f i.toNatClampNeg (vp_nar .byte x)))) = ws') (hdg : decode cc pc = .ok (.bastore, 1))
    (kk : ∀ (H1 : Heap) (locs1 : List Loc), zH G A s.heap ws' H1 locs1 → W p l e R s m args below meth c H1 locs1 cells slots Q (F0 m (pc + 1) ls rest)) : W p l e R s m args below meth c H locs cells slots Q (F0 m pc ls (.int x :: .int i :: .ref a :: rest)) := by
  subst hws
  exact va_bast X.1.1 X.1.2.1 X.2.1 hH.1 hH.2.1 hH.2.2 q0 3 ha rfl hin hdg (fun H1 locs1 a b c => kk H1 locs1 ⟨a, b, c⟩)
theorem z_last {a n : Nat} {f : Nat → Int64} {ws ws' : va_W} {i : Int32} {x : Int64} (X : zX p s m args meth c own cc nL Ts G cy A) (hH : zH G A s.heap ws H locs) (q0 : Nat) (ha : ws[q0]? = some (a, .inl (cy 1, n, .inr (.inl f)))) (hin : ¬ (i < 0 ∨ n ≤ i.toNatClampNeg)) (hws : ws.set q0 (a, .inl (cy 1, n, .inr (.inl (vp_updL f i.toNatClampNeg x)))) = ws') (hdg : decode cc pc = .ok (.lastore, 1))
    (kk : ∀ (H1 : Heap) (locs1 : List Loc), zH G A s.heap ws' H1 locs1 → W p l e R s m args below meth c H1 locs1 cells slots Q (F0 m (pc + 1) ls rest)) : W p l e R s m args below meth c H locs cells slots Q (F0 m pc ls (.long x :: .int i :: .ref a :: rest)) := by
  subst hws
  exact va_last X.1.1 X.1.2.1 X.2.1 hH.1 hH.2.1 hH.2.2 q0 1 ha rfl hin hdg (fun H1 locs1 a b c => kk H1 locs1 ⟨a, b, c⟩)
/-- where a walk of a method ends -/
def zZ (G : va_G) (below : List Frame) (args : Array Value) (s : State) (A : Nat → Prop) (ws : va_W) (o : Option Value) : State → Prop := MQ below (zQ G ws A o) args s 0 0 A
theorem z_iret {ws : va_W} {v : Int32} (X : zX p s m args meth c own cc nL Ts G cy A) (hr : meth.sig.returnType = some .int) (hH : zH G A s.heap ws H locs) (hdg : decode cc pc = .ok (.ireturn, 1)) : W p l e R s m args below meth c H locs 0 0 (zZ G below args s A ws (some (.int v))) (F0 m pc ls [.int v]) :=
  W.iret X.1.1 X.1.2.1 hr (fun t ht hW => ⟨rfl, ⟨by rw [ht]; exact hH.1, hH.2.1⟩, hH.2.2.F ht⟩) hH.2.2.2.2 hdg X.2.2.2.2.1
theorem z_zret {ws : va_W} {v : Int32} (X : zX p s m args meth c own cc nL Ts G cy A) (hr : meth.sig.returnType = some .boolean) (hv : v = 0 ∨ v = 1) (hH : zH G A s.heap ws H locs) (hdg : decode cc pc = .ok (.ireturn, 1)) : W p l e R s m args below meth c H locs 0 0 (zZ G below args s A ws (some (.int v))) (F0 m pc ls [.int v]) :=
  W.zret X.1.1 X.1.2.1 hr (by rcases hv with h | h <;> (rw [h]; rfl)) (fun t ht hW => ⟨rfl, ⟨by rw [ht]; exact hH.1, hH.2.1⟩, hH.2.2.F ht⟩) hH.2.2.2.2 hdg X.2.2.2.2.1
theorem z_lret {ws : va_W} {v : Int64} (X : zX p s m args meth c own cc nL Ts G cy A) (hr : meth.sig.returnType = some .long) (hH : zH G A s.heap ws H locs) (hdg : decode cc pc = .ok (.lreturn, 1)) : W p l e R s m args below meth c H locs 0 0 (zZ G below args s A ws (some (.long v))) (F0 m pc ls [.long v]) :=
  W.lret X.1.1 X.1.2.1 hr (fun t ht hW => ⟨rfl, ⟨by rw [ht]; exact hH.1, hH.2.1⟩, hH.2.2.F ht⟩) hH.2.2.2.2 hdg X.2.2.2.2.1
theorem z_vret {ws : va_W} (X : zX p s m args meth c own cc nL Ts G cy A) (hr : meth.sig.returnType = none) (hH : zH G A s.heap ws H locs) (hdg : decode cc pc = .ok (.return_, 1)) : W p l e R s m args below meth c H locs 0 0 (zZ G below args s A ws none) (F0 m pc ls []) :=
  W.vret X.1.1 X.1.2.1 hr (fun t ht hW => ⟨rfl, ⟨by rw [ht]; exact hH.1, hH.2.1⟩, hH.2.2.F ht⟩) hH.2.2.2.2 hdg X.2.2.2.2.1
theorem zM.mk {y : MethodName} {wds wds' : List Cond} {rm : Room} {ret : Option FieldType} {av : List Value} {ws ws' : va_W} {o : Option Value} (hy : plainName y.cls = true) (hw : wds = Cond.code y cc nL ret :: wds') (hn : (lg_sl av).length ≤ nL)
    (body : ∀ (p : Program) (e : Env) (s : State) (m : MethodId) (below : List Frame) (meth : Method) (c : Code) (A : Nat → Prop) (ls : Array Slot), zX p s m av.toArray meth c y.cls cc nL wds G cy A → meth.sig.returnType = ret → zH G A s.heap ws s.heap [] → lv_has ls nL (lv_args 0 av) → W p l e rm s m av.toArray below meth c s.heap [] 0 0 (zZ G below av.toArray s A ws' o) (F0 m 0 ls [])) : zM l G cy y wds rm av ws ws' o := by
  intro sz
  refine Met.ofW (cc := cc) (maxL := nL) (ret := ret) hy hw ?_
  intro p e s m args below meth c s₁ B hml hv
  obtain ⟨rfl, hsz, hP, hK, hD0, hN, hZ⟩ := hv
  subst hsz
  rw [lg_entry_eq]
  exact body p e s m below meth c _ _ ⟨⟨B.exec, B.bytes, hml, findClass_of_methodNamed B.named, atoms_spec B.pre⟩, hK, hN, fun q h => Or.inr h, B.notSynchronized, hZ⟩ B.returns ⟨hP, hD0.self, va_S.rf⟩ (lv_entry av hn)
theorem z_klen {t N : Nat} {f : Nat → Value} {ws : va_W} (hx : p.tables.exec = Jvm.exec) (hb : c.code = cc) (hT : va_T .int t N f A s s.heap) (hH : zH G A s.heap ws H locs) {v : Int32} (hv : Int32.ofNat N = v) (hdg : decode cc pc = .ok (.arraylength, 1))
    (kk : W p l e R s m args below meth c H locs cells slots Q (F0 m (pc + 1) ls (.int v :: rest))) : W p l e R s m args below meth c H locs cells slots Q (F0 m pc ls (.ref t :: rest)) := by
  subst hv
  obtain ⟨cell, h1, h2, h3, h4, h5, h6, h7⟩ := hT
  exact W.alen hx hb (by rw [hH.2.2.2.1 t (Array.getElem?_eq_some_iff.mp h1).1 h7]; exact h1) h2 h5 rfl rfl hdg kk
theorem z_kald {t N : Nat} {f : Nat → Int32} {ws : va_W} {i : Int32} (hx : p.tables.exec = Jvm.exec) (hb : c.code = cc) (hT : va_T .int t N (fun j => .int (f j)) A s s.heap) (hH : zH G A s.heap ws H locs) (hin : ¬ (i < 0 ∨ N ≤ i.toNatClampNeg)) (hdg : decode cc pc = .ok (.iaload, 1))
    (kk : W p l e R s m args below meth c H locs cells slots Q (F0 m (pc + 1) ls (.int (f i.toNatClampNeg) :: rest))) : W p l e R s m args below meth c H locs cells slots Q (F0 m pc ls (.int i :: .ref t :: rest)) := by
  obtain ⟨cell, h1, h2, h3, h4, h5, h6, h7⟩ := hT
  exact W.iald (v := .int (f i.toNatClampNeg)) hx hb (by rw [hH.2.2.2.1 t (Array.getElem?_eq_some_iff.mp h1).1 h7]; exact h1) h2 h3 (fun q => hin (q.elim Or.inl (fun q => Or.inr (Nat.le_trans h4 q)))) (h6 _ (Nat.not_le.mp fun q => hin (Or.inr q))) rfl rfl hdg kk
end ZB
-- the pure side
theorem zsum_l {α β γ : Type} {f : α → Option γ} {g : β → Option γ} {a : α} {r : γ} (h : Sum.elim f g (Sum.inl a) = some r) : f a = some r := h
theorem zsum_r {α β γ : Type} {f : α → Option γ} {g : β → Option γ} {b : β} {r : γ} (h : Sum.elim f g (Sum.inr b) = some r) : g b = some r := h
theorem zsum_rl {α β δ γ : Type} {f : α → Option γ} {g : β → Option γ} {k : δ → Option γ} {b : β} {r : γ} (h : Sum.elim f (Sum.elim g k) (Sum.inr (Sum.inl b)) = some r) : g b = some r := h
theorem zsum_rr {α β δ γ : Type} {f : α → Option γ} {g : β → Option γ} {k : δ → Option γ} {b : δ} {r : γ} (h : Sum.elim f (Sum.elim g k) (Sum.inr (Sum.inr b)) = some r) : k b = some r := h
def vn {α β : Type} (a : α) (f : α → β) : β := f a
theorem vn_s {α β : Type} {a : α} {f : α → Option β} {r : β} (h : vn a f = some r) : ∀ x, x = a → f x = some r := fun x e => by rw [e]; exact h
theorem zt {c : Prop} [Decidable c] {α : Type} {a b : Option α} {r : α} (hc : c) (h : (if c then a else b) = some r) : a = some r := by rwa [if_pos hc] at h
theorem zf {c : Prop} [Decidable c] {α : Type} {a b : Option α} {r : α} (hc : ¬ c) (h : (if c then a else b) = some r) : b = some r := by rwa [if_neg hc] at h
theorem zg {c : Prop} [Decidable c] {α : Type} {a : Option α} {r : α} (h : (if c then none else a) = some r) : ¬ c ∧ a = some r := by
  by_cases hc : c
  · rw [if_pos hc] at h; cases h
  · rw [if_neg hc] at h; exact ⟨hc, h⟩
theorem zb {α β : Type} {o : Option α} {f : α → Option β} {r : β} (h : o.bind f = some r) : ∃ x, o = some x ∧ f x = some r := by
  cases o with
  | none => cases h
  | some x => exact ⟨x, rfl, h⟩
/-- a loop: at most n rounds of b -/
def lp {α β : Type} (b : (α → Option β) → α → Option β) : Nat → α → Option β
  | 0, _ => none
  | n + 1, x => b (lp b n) x
