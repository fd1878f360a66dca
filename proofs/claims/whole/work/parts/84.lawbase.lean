/-! the law's own rows -/
section ZL
variable {p : Program} {l : Launch} {e : Env} {R : Room} {s : State} {m : MethodId} {args : Array Value} {below : List Frame} {meth : Method} {c : Code} {H : Heap} {locs : List Loc} {cells slots : Nat} {Q : State → Prop}
variable {G : va_G} {cy : Nat → ClassId} {A : Nat → Prop} {own : String} {cc : ByteArray} {nL : Nat} {Ts : List Cond} {pc : Nat} {ls : Array Slot} {rest st0 : List Value}
theorem z_sld {b L j : Nat} {xs : Nat → Int32} {ws : va_W} {v : Int32} (X : zX p s m args meth c own cc nL Ts G cy A) (hX : va_X b L xs s s.heap) (hbl : b < s.heap.size) (hbA : ¬ A b) (hH : zH G A s.heap ws H locs) (hv : v = nI j) (hj : j < L) (hL : L < 2 ^ 31) (hdg : decode cc pc = .ok (.iaload, 1))
    (kk : W p l e R s m args below meth c H locs cells slots Q (F0 m (pc + 1) ls (.int (xs j) :: rest))) : W p l e R s m args below meth c H locs cells slots Q (F0 m pc ls (.int v :: .ref b :: rest)) := by
  subst hv
  refine va_sld X.1.1 X.1.2.1 hX hbl hbA hH.2.2 (nI_in hj hL) hdg ?_
  rw [nI_clamp (by omega)]
  exact kk
theorem zH.perm {ws ws' : va_W} {H0 : Heap} (hH : zH G A H0 ws H locs) (is : List Nat) (hs : is.map (fun i => ws[i]?) = ws'.map some) (hn : va_nd is = true) : zH G A H0 ws' H locs :=
  ⟨hH.1.sub is (by
      have e : is.filterMap (fun i => ws[i]?) = (is.map (fun i => ws[i]?)).filterMap id := by rw [List.filterMap_map]; rfl
      rw [e, hs, List.filterMap_map]
      simp), hH.2.1.sub is hn hs, hH.2.2⟩
end ZL
