/-! constructors: what makes cells -/
def zad (l : List Nat) : Nat → Nat := fun k => l.getD k 0
def zQI (G : va_G) (PW : va_W → Prop) (A : Nat → Prop) : Array Value → State → Outcome → State → Prop := fun _ st oc t => oc = .returned none ∧ (∃ w, PW w ∧ zPost G A w t) ∧ va_F A st t
/-- a constructor's contract: from the cells ws it comes to cells that PW knows; mc cells of ms slots are new -/
def zI (l : Launch) (G : va_G) (cy : Nat → ClassId) (y : MethodName) (wds : List Cond) (rm : Room) (av : List Value) (ws : va_W) (PW : va_W → Prop) (mc ms : Nat) : Prop := ∀ sz : Nat, Met l y wds rm (va_Pc av (zPre G cy ws sz)) (zQI G PW (va_A ws sz)) mc ms (va_A ws sz)
def zRI (fr ce sl lo : Nat) : Room := { frames := fr, cells := ce, slots := sl, locals := lo }
theorem zha_i (N : Nat) (cA : ClassId) : vp_cell cA (N, .inl (fun _ => 0)) = arrV cA N (fun _ => defaultValue .int) := rfl
theorem zha_z (N : Nat) (cA : ClassId) : vp_cell cA (N, .inl (fun _ => 0)) = arrV cA N (fun _ => defaultValue .boolean) := rfl
theorem zha_b (N : Nat) (cA : ClassId) : vp_cell cA (N, .inl (fun _ => 0)) = arrV cA N (fun _ => defaultValue .byte) := rfl
theorem zha_l (N : Nat) (cA : ClassId) : vp_cell cA (N, .inr (.inl (fun _ => 0))) = arrV cA N (fun _ => defaultValue .long) := rfl
theorem zhn {v : Int32} {N : Nat} (h : v = nI N) (hN : N < 2 ^ 31) : ¬ v < 0 := by rw [h]; exact nI_pos hN
theorem zhc {v : Int32} {N : Nat} (h : v = nI N) (hN : N < 2 ^ 31) : v.toNatClampNeg = N := by rw [h]; exact nI_clamp hN
theorem zby_i {N : Nat} (h : N < 100000) : N * componentBytes .int ≤ 536870912 := by show N * 4 ≤ _; omega
theorem zby_z {N : Nat} (h : N < 100000) : N * componentBytes .boolean ≤ 536870912 := by show N * 1 ≤ _; omega
theorem zby_b {N : Nat} (h : N < 100000) : N * componentBytes .byte ≤ 536870912 := by show N * 1 ≤ _; omega
theorem zby_l {N : Nat} (h : N < 100000) : N * componentBytes .long ≤ 536870912 := by show N * 8 ≤ _; omega
section ZC
variable {p : Program} {l : Launch} {e : Env} {R : Room} {s : State} {m : MethodId} {args : Array Value} {below : List Frame} {meth : Method} {c : Code} {H : Heap} {locs : List Loc} {cells slots : Nat} {Q : State → Prop}
variable {G : va_G} {cy : Nat → ClassId} {A : Nat → Prop} {own : String} {cc : ByteArray} {nL : Nat} {Ts : List Cond} {pc : Nat} {ls : Array Slot} {rest st0 : List Value}
theorem z_newa {ws : va_W} {ty : FieldType} {atype : ArrayType} {n : Int32} {N k : Nat} {a0 : vp_A} (X : zX p s m args meth c own cc nL Ts G cy A) (hH : zH G A s.heap ws H locs) (hk : (zT cy)[k]? = some (cy k, ty)) (hp : ∀ C, ty ≠ .object C) (harr : Cond.arrayClass ty ∈ Ts) (hty : newarray.typeOf atype = ty) (ha : ∀ cA : ClassId, vp_cell cA a0 = arrV cA N (fun _ => defaultValue ty)) (hn : ¬ n < 0) (hN : n.toNatClampNeg = N) (hby : N * componentBytes ty ≤ 536870912) (hcells : cells + 1 ≤ R.cells) (hslots : slots + N ≤ R.slots) (hdg : decode cc pc = .ok (.newarray atype, 2))
    (kk : ∀ (q : Nat) (H1 : Heap), zH G A s.heap (ws ++ [(q, .inl (cy k, a0))]) H1 locs → W p l e R s m args below meth c H1 locs (cells + 1) (slots + N) Q (F0 m (pc + 2) ls (.ref q :: rest))) : W p l e R s m args below meth c H locs cells slots Q (F0 m pc ls (.int n :: rest)) := by
  refine va_newa X.1.1 X.1.2.1 (by rw [hty]; exact X.1.2.2.2.2 _ harr) hty X.2.1 hH.1 hH.2.1 hH.2.2 X.2.2.2.1 ha hn hN hby hcells hslots hdg (fun q cA H1 hK hP hD hS => ?_)
  have h1 : va_RA s cA ty := (hK.2 4 (cA, ty) rfl).2
  have h2 : va_RA s (cy k) ty := (X.2.1.2 k _ hk).2
  have e : cA = cy k := by
    clear hty ha hby hK harr hk
    cases ty with
    | object C => exact absurd rfl (hp C)
    | _ => exact Option.some.inj (h1.symm.trans h2)
  subst e
  exact kk q H1 ⟨hP, hD, hS⟩
theorem z_new {Cn : String} {T : u_T} {N ci index : Nat} {fs : List Value} {ws : va_W} (X : zX p s m args meth c own cc nL Ts G cy A) (hin : ∀ w ∈ u_ws Cn T N, w ∈ Ts) (ty : Nat → FieldType) (hty : ∀ k, k < N → parseFieldDescriptor (T k).2.2.1 = some (ty k)) (hcl : Cond.classLink own index Cn ∈ Ts) (hinst : Cond.instantiable Cn N ∈ Ts) (hini : Cond.initialized Cn ∈ Ts) (hH : zH G A s.heap ws H locs) (hc : vwCl[ci]? = some (Cn, T, N)) (hfs : ∀ j, j < N → defaultValue (ty j) = vp_V fs j) (hcells : cells + 1 ≤ R.cells) (hslots : slots + N ≤ R.slots) (hdg : decode cc pc = .ok (.new index, 3))
    (kk : ∀ (q : Nat) (H1 : Heap), zH G A s.heap (ws ++ [(q, .inr (ci, fs))]) H1 locs → W p l e R s m args below meth c H1 locs (cells + 1) (slots + N) Q (F0 m (pc + 3) ls (.ref q :: rest))) : W p l e R s m args below meth c H locs cells slots Q (F0 m pc ls rest) :=
  va_new X.1.1 X.1.2.1 X.1.2.2.2.2 hin ty hty X.1.2.2.2.1 (X.1.2.2.2.2 _ hcl) (X.1.2.2.2.2 _ hinst) (X.1.2.2.2.2 _ hini) X.2.1 hH.1 hH.2.1 hH.2.2 X.2.2.2.1 hc hfs hcells hslots hdg (fun q H1 hP hD hS => kk q H1 ⟨hP, hD, hS⟩)
theorem z_putF {Cn : String} {T : u_T} {N ci index : Nat} {a : Nat} {fs : List Value} {ws ws' : va_W} (X : zX p s m args meth c own cc nL Ts G cy A) (hnme : meth.name = "<init>") (hin : ∀ w ∈ u_ws Cn T N, w ∈ Ts) (ty0 : Nat → FieldType) (hty : ∀ k, k < N → parseFieldDescriptor (T k).2.2.1 = some (ty0 k)) (hnm : ∀ a, a < N → ∀ b, b < N → a ≠ b → (T a).2.1 ≠ (T b).2.1) (hH : zH G A s.heap ws H locs) (q0 : Nat) (he : ws[q0]? = some (a, .inr (ci, fs))) (hc : vwCl[ci]? = some (Cn, T, N)) (k : Nat) (hk : Nat.blt k N = true) (hl : Cond.fieldLink own index (T k).1 (T k).2.1 (T k).2.2.1 ∈ Ts) (hfin : (T k).2.2.2 = true) (hdecl : (T k).1 = own) {v : Value} (hn : narrow (ty0 k) v = v) (hfit : fits (ty0 k) v = true) (hlen : Nat.blt k fs.length = true) (hws : ws.set q0 (a, .inr (ci, fs.set k v)) = ws') (hdg : decode cc pc = .ok (.putfield index, 3))
    (kk : ∀ (H1 : Heap) (locs1 : List Loc), zH G A s.heap ws' H1 locs1 → W p l e R s m args below meth c H1 locs1 cells slots Q (F0 m (pc + 3) ls rest)) : W p l e R s m args below meth c H locs cells slots Q (F0 m pc ls (v :: .ref a :: rest)) := by
  subst hws
  exact va_putF X.1.1 X.1.2.1 X.1.2.2.2.2 hin ty0 hty hnm X.1.2.2.2.1 X.2.1 hH.1 hH.2.1 hH.2.2 q0 he hc k (Nat.le_of_ble_eq_true hk) (X.1.2.2.2.2 _ hl) (fun _ h => h) hfin hnme hdecl (hty k (Nat.le_of_ble_eq_true hk)) hn hfit (Nat.le_of_ble_eq_true hlen) hdg (fun H1 locs1 a b c => kk H1 locs1 ⟨a, b, c⟩)
theorem z_oi {a idx : Nat} (X : zX p s m args meth c own cc nL Ts G cy A) (hlk : Cond.methodLink own idx objectInit ∈ Ts) (hi : Cond.instanceMethod objectInit ∈ Ts) (hcd : Cond.code objectInit ⟨#[0xb1]⟩ 1 none ∈ Ts) (hls : ls.size = nL) (hrm : (rest.map fun v => v.category).sum ≤ 8) (hfr : 1 ≤ R.frames) (hlo : 20 ≤ R.locals) (hdg : decode cc pc = .ok (.invokespecial idx, 3))
    (kk : W p l e R s m args below meth c H locs cells slots Q (F0 m (pc + 3) ls rest)) : W p l e R s m args below meth c H locs cells slots Q (F0 m pc ls (.ref a :: rest)) :=
  W.objInit (g := F0 m pc ls (.ref a :: rest)) X.1.1 X.1.2.1 X.1.2.2.2.1 (X.1.2.2.2.2 _ hlk) (X.1.2.2.2.2 _ hi) (X.1.2.2.2.2 _ hcd) rfl (hls.trans X.1.2.2.1.symm) rfl hdg hfr (by
    have := lv_room (m := m) (pc := pc) (ls := ls) (rest := .ref a :: rest) hrm
    omega) kk
theorem zcallI {ws wc wr : va_W} {PW : va_W → Prop} {isC isR : List Nat} {a : Array Value} {mc ms : Nat} (X : zX p s m args meth c own cc nL Ts G cy A) (hH : zH G A s.heap ws H locs) (hC : isC.map (fun i => ws[i]?) = wc.map some) (hR : isR.map (fun i => ws[i]?) = wr.map some) (hix : (va_nd isR && isR.all (fun i => !(isC.elem i))) = true)
    (run : va_Run p l e R s m args below meth c H locs cells slots mc ms (F0 m pc ls st0) rest (zQI G PW (va_A wc H.size) a) (va_A wc H.size))
    (kk : ∀ (w : va_W) (H1 : Heap) (locs1 : List Loc), PW w → zH G A s.heap (wr ++ w) H1 locs1 → W p l e R s m args below meth c H1 locs1 (cells + mc) (slots + ms) Q (F0 m (pc + 3) ls rest)) : W p l e R s m args below meth c H locs cells slots Q (F0 m pc ls st0) := by
  simp only [Bool.and_eq_true, List.all_eq_true, Bool.not_eq_true', List.elem_eq_mem, decide_eq_false_iff_not] at hix
  obtain ⟨hnR, hdis⟩ := hix
  obtain ⟨hP, hD, hS⟩ := hH
  have hF : ∀ q, va_A wc H.size q → A q := va_free hD hS X.2.2.2.1 isC hC
  intro T hT X0
  obtain ⟨v, st₀, t, T', L, h0, X', hL, e1, e2, ⟨hv, ⟨w, hw, hp1, hd1⟩, hz, hk⟩, st⟩ := run T hT X0
  cases hv
  rw [h0] at hz hk
  have hk' : ∀ q : Nat, q < H.size → ¬ va_A wc H.size q → T'.heap[q]? = H[q]? := fun q h1 h2 => by rw [e1]; exact hk q h1 h2
  have hp1' : va_P G vwCl w T'.heap := by rw [e1]; exact hp1
  obtain ⟨hP2, hD2⟩ := va_join (wr := wr) (w1 := w) hP hD isC isR hC hR hnR hdis hk' hF hp1' hd1
  obtain ⟨t2, a1, b1⟩ := kk w T'.heap (locs ++ L) hw ⟨hP2, hD2, ⟨Nat.le_trans hS.1 (by rw [e1]; exact hz), fun q h1 h2 => by rw [hk' q (Nat.lt_of_lt_of_le h1 hS.1) (fun z => h2 (hF q z))]; exact hS.2.1 q h1 h2, fun q hq => by
      rcases List.mem_append.mp hq with h | h
      · exact hS.2.2 q h
      · exact hF _ (hL q h)⟩⟩ T' rfl X'
  exact ⟨t2, st t2 a1, b1⟩
/-- a constructor is called -/
theorem zcI {ws wc wr : va_W} {PW : va_W → Prop} {y : MethodName} {bytes : ByteArray} {maxL n index b mc ms : Nat} {wds wds' : List Cond} {rm : Room} {As : List Value} (X : zX p s m args meth c own cc nL Ts G cy A) (hM : zI l G cy y wds rm (.ref b :: As) wc PW mc ms)
    (hH : zH G A s.heap ws H locs) (isC isR : List Nat) (hC : isC.map (fun i => ws[i]?) = wc.map some) (hR : isR.map (fun i => ws[i]?) = wr.map some) (hix : (va_nd isC && (va_nd isR && isR.all (fun i => !(isC.elem i)))) = true)
    (hG : GoodIn Ts wds) (hw : wds = Cond.code y bytes maxL none :: wds') (hrc : rm.cells = mc ∧ rm.slots = ms) (hini : Cond.initialized y.cls ∈ Ts) (hlk : Cond.methodLink own index y ∈ Ts) (hins : Cond.instanceMethod y ∈ Ts) (hyn : y.name = "<init>") (hd : y.cls ≠ "java/lang/invoke/MethodHandle" ∧ y.cls ≠ "java/lang/invoke/VarHandle" ∧ (parseMethodDescriptor y.desc).map (fun d => d.parameters.length) = some n) (hRm : rm.frames + 1 ≤ R.frames ∧ 8 + (maxL + 11) + rm.locals ≤ R.locals)
    (hst : st0 = As.reverse ++ .ref b :: rest) (hn : As.length = n) (hl : ls.size = nL) (hrm : (rest.map fun v => v.category).sum ≤ 8) (hcs : cells + mc ≤ R.cells ∧ slots + ms ≤ R.slots) (hdg : decode cc pc = .ok (.invokespecial index, 3))
    (kk : ∀ (w : va_W) (H1 : Heap) (locs1 : List Loc), PW w → zH G A s.heap (wr ++ w) H1 locs1 → W p l e R s m args below meth c H1 locs1 (cells + mc) (slots + ms) Q (F0 m (pc + 3) ls rest)) : W p l e R s m args below meth c H locs cells slots Q (F0 m pc ls st0) := by
  rw [Bool.and_eq_true] at hix
  have hpr := zpre X hH hC hix.1
  exact zcallI X hH hC hR hix.2 (va_runI (As := As) (rest := rest) X.1 (hM H.size) (cwI n X.1.2.2.2.2 hG hw hrc.1 hrc.2 (X.1.2.2.2.2 _ hini) (X.1.2.2.2.2 _ hlk) (X.1.2.2.2.2 _ hins) hyn hd hRm) ⟨zblind, fun U hU hW => ⟨rfl, hpr U hU hW⟩⟩ rfl hn hl hst (lv_room hrm) hdg hcs) kk
/-- a nest mate's constructor is called -/
theorem zcIN {ws wc wr : va_W} {PW : va_W → Prop} {y : MethodName} {bytes : ByteArray} {maxL n index b mc ms : Nat} {wds wds' : List Cond} {rm : Room} {As : List Value} {host : String} (X : zX p s m args meth c own cc nL Ts G cy A) (hM : zI l G cy y wds rm (.ref b :: As) wc PW mc ms)
    (hH : zH G A s.heap ws H locs) (isC isR : List Nat) (hC : isC.map (fun i => ws[i]?) = wc.map some) (hR : isR.map (fun i => ws[i]?) = wr.map some) (hix : (va_nd isC && (va_nd isR && isR.all (fun i => !(isC.elem i)))) = true)
    (hG : GoodIn Ts wds) (hw : wds = Cond.code y bytes maxL none :: wds') (hrc : rm.cells = mc ∧ rm.slots = ms) (hNl : Cond.methodLinkNest own index y host ∈ zNl) (hini : Cond.initialized y.cls ∈ Ts) (hins : Cond.instanceMethod y ∈ Ts) (hyn : y.name = "<init>") (hd : y.cls ≠ "java/lang/invoke/MethodHandle" ∧ y.cls ≠ "java/lang/invoke/VarHandle" ∧ (parseMethodDescriptor y.desc).map (fun d => d.parameters.length) = some n) (hRm : rm.frames + 1 ≤ R.frames ∧ 8 + (maxL + 11) + rm.locals ≤ R.locals)
    (hst : st0 = As.reverse ++ .ref b :: rest) (hn : As.length = n) (hl : ls.size = nL) (hrm : (rest.map fun v => v.category).sum ≤ 8) (hcs : cells + mc ≤ R.cells ∧ slots + ms ≤ R.slots) (hdg : decode cc pc = .ok (.invokespecial index, 3))
    (kk : ∀ (w : va_W) (H1 : Heap) (locs1 : List Loc), PW w → zH G A s.heap (wr ++ w) H1 locs1 → W p l e R s m args below meth c H1 locs1 (cells + mc) (slots + ms) Q (F0 m (pc + 3) ls rest)) : W p l e R s m args below meth c H locs cells slots Q (F0 m pc ls st0) := by
  rw [Bool.and_eq_true] at hix
  have hpr := zpre X hH hC hix.1
  exact zcallI X hH hC hR hix.2 (va_runIN (As := As) (rest := rest) X.1 (hM H.size) ⟨va_cnB n X.1.2.2.2.2 hG hw hrc.1 hrc.2 (X.2.2.1 _ hNl) (X.1.2.2.2.2 _ hini) hd hRm, hyn, X.1.2.2.2.2 _ hins⟩ ⟨zblind, fun U hU hW => ⟨rfl, hpr U hU hW⟩⟩ rfl hn hl hst (lv_room hrm) hdg hcs) kk
def zZI (G : va_G) (below : List Frame) (args : Array Value) (s : State) (A : Nat → Prop) (PW : va_W → Prop) (mc ms : Nat) : State → Prop := MQ below (zQI G PW A) args s mc ms A
theorem z_vretI {ws ws' : va_W} {PW : va_W → Prop} {mc ms : Nat} (X : zX p s m args meth c own cc nL Ts G cy A) (hr : meth.sig.returnType = none) (hH : zH G A s.heap ws H locs) (is : List Nat) (hs : is.map (fun i => ws[i]?) = ws'.map some) (hn : va_nd is = true) (hPW : PW ws') (hdg : decode cc pc = .ok (.return_, 1)) : W p l e R s m args below meth c H locs mc ms (zZI G below args s A PW mc ms) (F0 m pc ls []) :=
  W.vret X.1.1 X.1.2.1 hr (fun t ht hW => ⟨rfl, ⟨ws', hPW, by
    rw [ht]
    exact hH.1.sub is (by
      have e : is.filterMap (fun i => ws[i]?) = (is.map (fun i => ws[i]?)).filterMap id := by rw [List.filterMap_map]; rfl
      rw [e, hs, List.filterMap_map]
      simp), hH.2.1.sub is hn hs⟩, hH.2.2.F ht⟩) hH.2.2.2.2 hdg X.2.2.2.2.1
theorem zI.mk {y : MethodName} {wds wds' : List Cond} {rm : Room} {av : List Value} {ws : va_W} {PW : va_W → Prop} {mc ms : Nat} (hy : plainName y.cls = true) (hyn : y.name = "<init>") (hw : wds = Cond.code y cc nL none :: wds') (hn : (lg_sl av).length ≤ nL)
    (body : ∀ (p : Program) (e : Env) (s : State) (m : MethodId) (below : List Frame) (meth : Method) (c : Code) (A : Nat → Prop) (ls : Array Slot), zX p s m av.toArray meth c y.cls cc nL wds G cy A → meth.sig.returnType = none → meth.name = "<init>" → zH G A s.heap ws s.heap [] → lv_has ls nL (lv_args 0 av) → W p l e rm s m av.toArray below meth c s.heap [] 0 0 (zZI G below av.toArray s A PW mc ms) (F0 m 0 ls [])) : zI l G cy y wds rm av ws PW mc ms := by
  intro sz
  refine Met.ofW (cc := cc) (maxL := nL) (ret := none) hy hw ?_
  intro p e s m args below meth c s₁ B hml hv
  obtain ⟨rfl, hsz, hP, hK, hD0, hN, hZ⟩ := hv
  subst hsz
  rw [lg_entry_eq]
  exact body p e s m below meth c _ _ ⟨⟨B.exec, B.bytes, hml, findClass_of_methodNamed B.named, atoms_spec B.pre⟩, hK, hN, fun q h => Or.inr h, B.notSynchronized, hZ⟩ B.returns ((name_of_methodNamed B.named B.method).1.trans hyn) ⟨hP, hD0.self, va_S.rf⟩ (lv_entry av hn)
end ZC
