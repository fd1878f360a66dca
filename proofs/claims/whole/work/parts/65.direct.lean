/-! direct -/
theorem lp_simE {α β α' β' : Type} (b : (α → Option β) → α → Option β) (b' : (α' → Option β') → α' → Option β') (N : Nat) (Inv : Nat → α → α' → Prop) (Post : β → β' → Prop)
    (hs : ∀ i s s', i < N → Inv i s s' → ∃ t t', (∀ k, b k s = k t) ∧ (∀ k, b' k s' = k t') ∧ Inv (i + 1) t t')
    (he : ∀ s s', Inv N s s' → ∃ r r', (∀ k, b k s = some r) ∧ (∀ f, 2 ≤ f → lp b' f s' = some r') ∧ Post r r') : ∀ (d i : Nat) (s : α) (s' : α') (fuel fuel' : Nat), i + d = N → d < fuel → d + 2 ≤ fuel' → Inv i s s' → ∃ r r', lp b fuel s = some r ∧ lp b' fuel' s' = some r' ∧ Post r r'
  | 0, i, s, s', fuel, fuel', h1, h2, h2', h3 => by
    obtain ⟨f, rfl⟩ : ∃ f, fuel = f + 1 := ⟨fuel - 1, by omega⟩
    obtain ⟨r, r', hr, hr', hp⟩ := he s s' (by rw [← h1]; exact h3)
    exact ⟨r, r', hr _, hr' _ (by omega), hp⟩
  | d + 1, i, s, s', fuel, fuel', h1, h2, h2', h3 => by
    obtain ⟨f, rfl⟩ : ∃ f, fuel = f + 1 := ⟨fuel - 1, by omega⟩
    obtain ⟨f', rfl⟩ : ∃ f, fuel' = f + 1 := ⟨fuel' - 1, by omega⟩
    obtain ⟨t, t', h4, h4', h5⟩ := hs i s s' (by omega) h3
    obtain ⟨r, r', h6, h6', h7⟩ := lp_simE b b' N Inv Post hs he d (i + 1) t t' f f' (by omega) (by omega) (by omega) h5
    exact ⟨r, r', by show b (lp b f) s = _; rw [h4]; exact h6, by show b' (lp b' f') s' = _; rw [h4']; exact h6', h7⟩
section DI
variable {fu n m : Nat} {lv : Nat → Bool} {hb lo wa mw : Nat → Int32}
theorem J_dirR (K : ZK fu n lv hb lo wa mw m) {r ask : Nat} (hr : r < m) (ha : ask < 2) {pp : Nat → Int32} {ps step lacks : Int32} {made : Nat → Int32} {mm lk : Int32} (hJ : ZJ n lv mw 0 0 false ZN pp ps step lacks made mm lk) : ∃ z z', f_X7_directWithRoot fu hb wa (nI m) pp ps (nI m) (nI r) step lacks (nI ask) = some z ∧ lp (f_X9_direct_l6 fu lo mw (nI ask) (nI r) (nI m)) fu (0, 0, made, mm, lk) = some z' ∧ ZE n lv mw z z' := by
  obtain ⟨k1, k2, k3, k4, k5, k6, k7, k8⟩ := id K
  have hask : ¬ (2 : Int32) ≤ nI ask := by rw [zl2, nle (by omega) (by omega)]; omega
  have h3 : ¬ nI ask = (3 : Int32) := by rw [zl3, neqI (by omega) (by omega)]; omega
  have h4 : ¬ nI ask = (4 : Int32) := by rw [zl4, neqI (by omega) (by omega)]; omega
  obtain ⟨z, z', h1, h2, h3⟩ := lp_simE (f_X7_directWithRoot_l2 fu hb wa (nI m) (nI m) (nI r) (nI ask)) (f_X9_direct_l6 fu lo mw (nI ask) (nI r) (nI m)) (m - 1) (fun t s s' => s.1 = nI (t + 1) ∧ s'.1 = 0 ∧ s'.2.1 = nI t ∧ ZJ n lv mw (t * m) t false ZN s.2.1 s.2.2.1 s.2.2.2.1 s.2.2.2.2 s'.2.2.1 s'.2.2.2.1 s'.2.2.2.2) (ZE n lv mw) (by
    rintro t ⟨x, pp, ps, step, lacks⟩ ⟨y0, y, made, mm, lk⟩ ht ⟨h1, h2, h2', h5⟩
    dsimp only at h1 h2 h2' h5
    subst h1 h2 h2'
    have hmul : (t + 1) * m = t * m + m := Nat.succ_mul t m
    have hle : (t + 1) * m ≤ 15 * 16 := Nat.mul_le_mul (by omega) (by omega)
    rcases (show ask = 0 ∨ ask = 1 by omega) with rfl | rfl
    · obtain ⟨pp', ps', lacks', made', mm', lk', g1, g2, g3⟩ := J_pt K h5 (i := r) (j := (r + (t + 1)) % m) (bl := 0) (nn := m) (ad := 0) (x2 := r) (x3 := r + t + 1) hr (Nat.mod_lt _ k3) (fun x y q => q.elim) (by omega) (by omega) (by omega) (by omega) (by omega) (by omega) (by omega) (Nat.mod_eq_of_lt hr) (by rw [Nat.add_assoc])
      obtain ⟨step', e1, e2⟩ := g3.end fu (by omega)
      refine ⟨(nI (t + 1 + 1), pp', ps', step', lacks'), (0, nI (t + 1), made', mm', lk'), fun k => ?_, fun k => ?_, rfl, rfl, rfl, by rw [hmul]; exact e2⟩
      · have g1' : f_X7_give fu hb wa (nI m) pp ps step lacks (nI r) (nI ((r + (t + 1)) % m)) 0 0 (nI m) 0 = some (pp', ps', lacks') := g1
        unfold f_X7_directWithRoot_l2 f_X7_giveAll
        dsimp only
        rw [if_neg (by rw [nle (by omega) (by omega)]; omega), if_pos (show nI 0 = (0 : Int32) from rfl), b_rankOfQ fu k4 hr (by omega), Option.bind_some, g1', Option.bind_some, Option.bind_some]
        dsimp only
        rw [e1, Option.bind_some, nsucc]
      · have g2' : f_X9_put fu lo mw made mm lk (nI t) (nI r) (nI (r + t + 1)) 0 (nI m) (nI m) 0 = some (made', mm', lk') := g2
        unfold f_X9_direct_l6
        dsimp only
        rw [if_neg (by rw [nle (by omega) (by omega)]; omega), if_neg hask, nsub1 (by omega), if_neg (by rw [nle (by omega) (by omega)]; omega), if_pos (show nI 0 = (0 : Int32) from rfl), nadd, nsucc, g2', Option.bind_some, nsucc]
    · obtain ⟨pp', ps', lacks', made', mm', lk', g1, g2, g3⟩ := J_pt K h5 (i := (r + (t + 1)) % m) (j := r) (bl := 0) (nn := m) (ad := 1) (x2 := r + t + 1) (x3 := r) (Nat.mod_lt _ k3) hr (fun x y q => q.elim) (by omega) (by omega) (by omega) (by omega) (by omega) (by omega) (by omega) (by rw [Nat.add_assoc]) (Nat.mod_eq_of_lt hr)
      obtain ⟨step', e1, e2⟩ := g3.end fu (by omega)
      refine ⟨(nI (t + 1 + 1), pp', ps', step', lacks'), (0, nI (t + 1), made', mm', lk'), fun k => ?_, fun k => ?_, rfl, rfl, rfl, by rw [hmul]; exact e2⟩
      · have g1' : f_X7_give fu hb wa (nI m) pp ps step lacks (nI ((r + (t + 1)) % m)) (nI r) 0 0 (nI m) 1 = some (pp', ps', lacks') := g1
        unfold f_X7_directWithRoot_l2 f_X7_giveAll
        dsimp only
        rw [if_neg (by rw [nle (by omega) (by omega)]; omega), if_neg (show ¬ nI 1 = (0 : Int32) by decide), b_rankOfQ fu k4 hr (by omega), Option.bind_some, g1', Option.bind_some, Option.bind_some]
        dsimp only
        rw [e1, Option.bind_some, nsucc]
      · have g2' : f_X9_put fu lo mw made mm lk (nI t) (nI (r + t + 1)) (nI r) 0 (nI m) (nI m) 1 = some (made', mm', lk') := g2
        unfold f_X9_direct_l6
        dsimp only
        rw [if_neg (by rw [nle (by omega) (by omega)]; omega), if_neg hask, nsub1 (by omega), if_neg (by rw [nle (by omega) (by omega)]; omega), if_neg (show ¬ nI 1 = (0 : Int32) by decide), if_pos (show nI 1 = (1 : Int32) from rfl), nadd, nsucc, g2', Option.bind_some, nsucc]) (by
    rintro ⟨x, pp, ps, step, lacks⟩ ⟨y0, y, made, mm, lk⟩ ⟨h1, h2, h2', h5⟩
    dsimp only at h1 h2 h2' h5
    subst h1 h2 h2'
    have hle : (m - 1) * m ≤ 15 * 16 := Nat.mul_le_mul (by omega) (by omega)
    refine ⟨(pp, ps, step, lacks), (made, mm, lk), fun k => ?_, fun f hf => ?_, (m - 1) * m, m - 1, by omega, h5⟩
    · unfold f_X7_directWithRoot_l2
      dsimp only
      rw [if_pos (by rw [nle (by omega) (by omega)]; omega)]
    · obtain ⟨f, rfl⟩ : ∃ f', f = f' + 1 + 1 := ⟨f - 2, by omega⟩
      have s1 : ∀ k, f_X9_direct_l6 fu lo mw (nI ask) (nI r) (nI m) k (0, nI (m - 1), made, mm, lk) = k (0, nI m, made, mm, lk) := fun k => by
        unfold f_X9_direct_l6
        dsimp only
        rw [if_neg (by rw [nle (by omega) (by omega)]; omega), if_neg hask, nsub1 (by omega), if_pos (by rw [nle (by omega) (by omega)]; omega), if_neg h3, if_neg h4, nsucc, show m - 1 + 1 = m by omega]
      have s2 : ∀ k, f_X9_direct_l6 fu lo mw (nI ask) (nI r) (nI m) k (0, nI m, made, mm, lk) = some (made, mm, lk) := fun k => by
        unfold f_X9_direct_l6
        dsimp only
        rw [if_pos (by rw [nle (by omega) (by omega)]; omega)]
      show f_X9_direct_l6 fu lo mw (nI ask) (nI r) (nI m) (lp _ (f + 1)) (0, nI (m - 1), made, mm, lk) = _
      rw [s1]
      exact s2 _) (m - 1) 0 (1, pp, ps, step, lacks) (0, 0, made, mm, lk) fu fu (by omega) (by omega) (by omega) ⟨rfl, rfl, rfl, hJ.mono (by omega) (fun _ _ q => q)⟩
  refine ⟨z, z', ?_, h2, h3⟩
  unfold f_X7_directWithRoot
  rw [h1, Option.bind_some]
theorem J_dirG (K : ZK fu n lv hb lo wa mw m) (r : Nat) {pp : Nat → Int32} {ps step lacks : Int32} {made : Nat → Int32} {mm lk : Int32} (hJ : ZJ n lv mw 0 0 false ZN pp ps step lacks made mm lk) : ∃ z z', f_X7_directGather fu hb wa (nI m) pp ps (nI m) step lacks = some z ∧ lp (f_X9_direct_l6 fu lo mw (nI 3) (nI r) (nI m)) fu (0, 0, made, mm, lk) = some z' ∧ ZE n lv mw z z' := by
  obtain ⟨k1, k2, k3, k4, k5, k6, k7, k8⟩ := id K
  have hask : (2 : Int32) ≤ nI 3 := by decide
  have e0 : lp (f_X9_direct_l6 fu lo mw (nI 3) (nI r) (nI m)) fu (0, 0, made, mm, lk) = lp (f_X9_direct_l6 fu lo mw (nI 3) (nI r) (nI m)) (fu - 1) (0, 1, made, mm, lk) := by
    have s1 : ∀ k, f_X9_direct_l6 fu lo mw (nI 3) (nI r) (nI m) k (0, 0, made, mm, lk) = k (0, 1, made, mm, lk) := fun k => by
      unfold f_X9_direct_l6
      dsimp only
      rw [if_neg (by rw [n_le0 (by omega)]; omega), if_pos hask, if_pos (show nI 3 = (3 : Int32) from rfl), if_pos (show (0 : Int32) ≤ 0 by decide)]
      rfl
    obtain ⟨f, hf⟩ : ∃ f, fu = f + 1 := ⟨fu - 1, by omega⟩
    rw [show fu - 1 = f by omega]
    conv => lhs; arg 2; rw [hf]
    exact s1 _
  rw [e0]
  obtain ⟨z, z', h1, h2, h3⟩ := lp_sim (f_X7_directGather_l2 fu hb wa (nI m) (nI m)) (f_X9_direct_l6 fu lo mw (nI 3) (nI r) (nI m)) (m - 1) (fun t s s' => s.1 = nI (t + 1) ∧ s'.1 = 0 ∧ s'.2.1 = nI (t + 1) ∧ ZJ n lv mw (t * m) t false ZN s.2.1 s.2.2.1 s.2.2.2.1 s.2.2.2.2 s'.2.2.1 s'.2.2.2.1 s'.2.2.2.2) (ZE n lv mw) (by
    rintro t ⟨x, pp, ps, step, lacks⟩ ⟨y0, y, made, mm, lk⟩ ht ⟨h1, h2, h2', h5⟩
    dsimp only at h1 h2 h2' h5
    subst h1 h2 h2'
    have hmul : (t + 1) * m = t * m + m := Nat.succ_mul t m
    have hle : (t + 1) * m ≤ 15 * 16 := Nat.mul_le_mul (by omega) (by omega)
    obtain ⟨r1, r', g1, g2, g3⟩ := J_row K (cb := f_X7_directGather_l12 fu hb wa (nI m) (nI m) step (nI (t + 1))) (mb := f_X9_direct_l85 fu lo mw (nI m) (nI (t + 1))) m t 1 0 (fun i => i) (fun i => (i + (t + 1)) % m) (fun i => i) (fun i => i) (fun i => i + (t + 1)) (fun i hi pp ps lacks k => by
      unfold f_X7_directGather_l12
      dsimp only
      rw [if_neg (by rw [nle (by omega) (by omega)]; omega), nadd, b_byM fu k4 (by omega), Option.bind_some, nsucc]
      rfl) (fun pp ps lacks k => by
      unfold f_X7_directGather_l12
      dsimp only
      rw [if_pos (by rw [nle (by omega) (by omega)]; omega)]) (fun i hi made mm lk k => by
      unfold f_X9_direct_l85
      dsimp only
      rw [if_neg (by rw [nle (by omega) (by omega)]; omega), nadd, nsub1 (by omega), nsucc]
      rfl) (fun made mm lk k => by
      unfold f_X9_direct_l85
      dsimp only
      rw [if_pos (by rw [nle (by omega) (by omega)]; omega)]) k4 (by omega) (by omega) (by omega) (by omega) (fun i hi => by
      have q1 : (i + (t + 1)) % m < m := Nat.mod_lt _ k3
      exact ⟨hi, q1, by omega, by omega, by omega, Nat.mod_eq_of_lt hi, rfl⟩) (fun i j hij hj => by
      refine ⟨by omega, ?_⟩
      rw [Nat.add_comm i, Nat.add_comm j]
      exact md_inj (show t + 1 < m by omega) (by omega) (by omega) (by omega)) h5
    obtain ⟨step', e1, e2⟩ := g3.end fu (by omega)
    rw [show (if decide (0 < m) = true then 1 else 0) = 1 from if_pos (decide_eq_true k3)] at e2
    refine ⟨(nI (t + 1 + 1), r1.1, r1.2.1, step', r1.2.2), (0, nI (t + 1 + 1), r'.1, r'.2.1, r'.2.2), fun k => ?_, fun k => ?_, rfl, rfl, rfl, ?_⟩
    · unfold f_X7_directGather_l2
      dsimp only
      rw [if_neg (by rw [nle (by omega) (by omega)]; omega), g1, Option.bind_some, e1, Option.bind_some, nsucc]
    · unfold f_X9_direct_l6
      dsimp only
      rw [if_neg (by rw [nle (by omega) (by omega)]; omega), if_pos hask, if_pos (show nI 3 = (3 : Int32) from rfl), if_neg (by rw [n_le0 (by omega)]; omega), g2, Option.bind_some, nsucc]
    · rw [hmul, show t * m + m = t * m + m * 1 by omega]
      exact e2) (by
    rintro ⟨x, pp, ps, step, lacks⟩ ⟨y0, y, made, mm, lk⟩ ⟨h1, h2, h2', h5⟩
    dsimp only at h1 h2 h2' h5
    subst h1 h2 h2'
    have hle : (m - 1) * m ≤ 15 * 16 := Nat.mul_le_mul (by omega) (by omega)
    refine ⟨(pp, ps, step, lacks), (made, mm, lk), fun k => ?_, fun k => ?_, (m - 1) * m, m - 1, by omega, h5⟩
    · unfold f_X7_directGather_l2
      dsimp only
      rw [if_pos (by rw [nle (by omega) (by omega)]; omega)]
    · unfold f_X9_direct_l6
      dsimp only
      rw [if_pos (by rw [nle (by omega) (by omega)]; omega)]) (m - 1) 0 (1, pp, ps, step, lacks) (0, 1, made, mm, lk) fu (fu - 1) (by omega) (by omega) (by omega) ⟨rfl, rfl, rfl, hJ.mono (by omega) (fun _ _ q => q)⟩
  refine ⟨z, z', ?_, h2, h3⟩
  unfold f_X7_directGather
  rw [h1, Option.bind_some]
/-- the inner row of a turn: who has another partner sends -/
theorem J_dirTi (K : ZK fu n lv hb lo wa mw m) {t T B : Nat} (ht : t < m) (hT : T < 64) (hB : B + m ≤ 1200) {pp : Nat → Int32} {ps step lacks : Int32} {made : Nat → Int32} {mm lk : Int32} (hJ : ZJ n lv mw B T false ZN pp ps step lacks made mm lk) :
    ∃ r r', lp (f_X7_directTurn_l12 fu hb wa (nI m) (nI m) step (nI t)) fu (0, pp, ps, lacks) = some r ∧ lp (f_X9_direct_l134 fu lo mw (nI m) (nI T) (nI t)) fu (0, made, mm, lk) = some r' ∧ ∃ M0 c, M0 ≤ 1200 ∧ c ≤ 16 ∧ mm = nI M0 ∧ r'.2.1 = nI (M0 + c) ∧ ZJ n lv mw (B + m) T (decide (0 < c)) (fun _ _ => True) r.1 r.2.1 step r.2.2 r'.1 r'.2.1 r'.2.2 := by
  obtain ⟨k1, k2, k3, k4, k5, k6, k7, k8⟩ := id K
  have hrem : ∀ x, x < 1000 → nI x - nI x / nI m * nI m = nI (x % m) := fun x hx => pk_rem (by omega) k3 (by omega)
  have hM0 : ∃ M0, M0 ≤ 1200 ∧ mm = nI M0 := by
    obtain ⟨M, E, q1, q2, -⟩ := hJ
    exact ⟨M, by omega, q2.1⟩
  obtain ⟨M0, hM1, hM2⟩ := hM0
  obtain ⟨r, r', h1, h2, c, h3, h4, h5⟩ := lp_sim (f_X7_directTurn_l12 fu hb wa (nI m) (nI m) step (nI t)) (f_X9_direct_l134 fu lo mw (nI m) (nI T) (nI t)) m (fun i s s' => s.1 = nI i ∧ s'.1 = nI i ∧ ∃ c, c ≤ i ∧ s'.2.2.1 = nI (M0 + c) ∧ ZJ n lv mw (B + i) T (decide (0 < c)) (fun x y => ∃ i', i' < i ∧ x = hst lv n i' ∧ y = hst lv n ((t + m - i') % m)) s.2.1 s.2.2.1 step s.2.2.2 s'.2.1 s'.2.2.1 s'.2.2.2) (fun r r' => ∃ c, c ≤ m ∧ r'.2.1 = nI (M0 + c) ∧ ZJ n lv mw (B + m) T (decide (0 < c)) (fun _ _ => True) r.1 r.2.1 step r.2.2 r'.1 r'.2.1 r'.2.2) (by
    rintro i ⟨x, pp, ps, lacks⟩ ⟨y, made, mm, lk⟩ hi ⟨h1, h2, c, h3, h4, h5⟩
    dsimp only at h1 h2 h4 h5
    subst h1 h2
    have hj : (t + m - i) % m < m := Nat.mod_lt _ k3
    by_cases e : (t + m - i) % m = i
    · refine ⟨(nI (i + 1), pp, ps, lacks), (nI (i + 1), made, mm, lk), fun k => ?_, fun k => ?_, rfl, rfl, c, by omega, h4, h5.mono (by omega) (fun x y q => by obtain ⟨i', q1, q2⟩ := q; exact ⟨i', by omega, q2⟩)⟩
      · unfold f_X7_directTurn_l12
        dsimp only
        rw [if_neg (by rw [nle (by omega) (by omega)]; omega), b_byMs fu k4 (by omega) (by omega) (by omega), Option.bind_some, e, if_pos rfl, nsucc]
      · unfold f_X9_direct_l134
        simp only [vn]
        rw [if_neg (by rw [nle (by omega) (by omega)]; omega), if_neg (by rw [n_eq0 (by omega)]; omega), nsa (by omega), hrem _ (by omega), e, if_pos rfl, nsucc]
    · obtain ⟨pp', ps', lacks', made', M', lk', g1, g2, g3, g4, g5⟩ := J_turn fu k1 k2 (by rw [k5]; exact k6) (by rw [k5]; exact k7) k8 h5 (i := i) (j := (t + m - i) % m) (by omega) (by omega) (fun x y q => by
        obtain ⟨i', q1, q2, q3⟩ := q
        have hj' : (t + m - i') % m < m := Nat.mod_lt _ k3
        refine ⟨fun w => ?_, fun w => ?_⟩
        · have := hst_inj (n := n) (lv := lv) (by omega) (by omega) (q2.symm.trans w)
          omega
        · have := hst_inj (n := n) (lv := lv) (by omega) (by omega) (q3.symm.trans w)
          rw [md2 (by omega), md2 (by omega)] at this
          split at this <;> split at this <;> omega) hT (by omega)
      rw [k5] at g3 g4
      have hMc : M0 + c = M' := (nI_eq (by omega) (by omega)).mp (h4.symm.trans g2)
      refine ⟨(nI (i + 1), pp', ps', lacks'), (nI (i + 1), upd made' (6 * M' + 4) (nI i), nI (M' + 1), lk'), fun k => ?_, fun k => ?_, rfl, rfl, c + 1, by omega, by rw [← hMc]; rfl, ?_⟩
      · unfold f_X7_directTurn_l12
        dsimp only
        rw [if_neg (by rw [nle (by omega) (by omega)]; omega), b_byMs fu k4 (by omega) (by omega) (by omega), Option.bind_some, if_neg (fun w => e ((nI_eq (by omega) (by omega)).mp w)), g3, Option.bind_some, nsucc]
      · unfold f_X9_direct_l134
        simp only [vn]
        rw [if_neg (by rw [nle (by omega) (by omega)]; omega), if_neg (by rw [n_eq0 (by omega)]; omega), nsa (by omega), hrem _ (by omega), if_neg (fun w => e ((nI_eq (by omega) (by omega)).mp w)), g4, Option.bind_some]
        dsimp only
        rw [zl6, nmul, zl2, nsubI (by omega), show 6 * (M' + 1) - 2 = 6 * M' + 4 by omega, if_neg (nI_in (by omega) (by omega)), ncl (by omega), nsucc]
      · rw [show decide (0 < c + 1) = true from decide_eq_true (by omega)]
        refine g5.mono (by omega) (fun x y q => ?_)
        rcases q with ⟨i', q1, q2⟩ | q
        · exact ⟨i', by omega, q2⟩
        · exact ⟨i, by omega, q⟩) (by
    rintro ⟨x, pp, ps, lacks⟩ ⟨y, made, mm, lk⟩ ⟨h1, h2, c, h3, h4, h5⟩
    dsimp only at h1 h2 h4 h5
    subst h1 h2
    refine ⟨(pp, ps, lacks), (made, mm, lk), fun k => ?_, fun k => ?_, c, h3, h4, h5.mono (by omega) (fun _ _ _ => trivial)⟩
    · unfold f_X7_directTurn_l12
      dsimp only
      rw [if_pos (by rw [nle (by omega) (by omega)]; omega)]
    · unfold f_X9_direct_l134
      dsimp only
      rw [if_pos (by rw [nle (by omega) (by omega)]; omega)]) m 0 (0, pp, ps, lacks) (0, made, mm, lk) fu fu (by omega) (by omega) (by omega) ⟨rfl, rfl, 0, by omega, hM2, hJ.mono (by omega) (fun _ _ q => q.elim)⟩
  exact ⟨r, r', h1, h2, M0, c, hM1, by omega, hM2, h4, h5⟩
theorem J_dirT (K : ZK fu n lv hb lo wa mw m) (r : Nat) {pp : Nat → Int32} {ps step lacks : Int32} {made : Nat → Int32} {mm lk : Int32} (hJ : ZJ n lv mw 0 0 false ZN pp ps step lacks made mm lk) : ∃ z z', f_X7_directTurn fu hb wa (nI m) pp ps (nI m) step lacks = some z ∧ lp (f_X9_direct_l6 fu lo mw (nI 4) (nI r) (nI m)) fu (0, 0, made, mm, lk) = some z' ∧ ZE n lv mw z z' := by
  obtain ⟨k1, k2, k3, k4, k5, k6, k7, k8⟩ := id K
  have hask : (2 : Int32) ≤ nI 4 := by decide
  obtain ⟨z, z', h1, h2, h3⟩ := lp_sim (f_X7_directTurn_l2 fu hb wa (nI m) (nI m)) (f_X9_direct_l6 fu lo mw (nI 4) (nI r) (nI m)) m (fun t s s' => s.1 = nI t ∧ s'.2.1 = nI t ∧ ∃ T, T ≤ t ∧ s'.1 = nI T ∧ ZJ n lv mw (t * m) T false ZN s.2.1 s.2.2.1 s.2.2.2.1 s.2.2.2.2 s'.2.2.1 s'.2.2.2.1 s'.2.2.2.2) (ZE n lv mw) (by
    rintro t ⟨x, pp, ps, step, lacks⟩ ⟨y0, y, made, mm, lk⟩ ht ⟨h1, h2, T, hT, h2', h5⟩
    dsimp only at h1 h2 h2' h5
    subst h1 h2 h2'
    have hmul : (t + 1) * m = t * m + m := Nat.succ_mul t m
    have hle : (t + 1) * m ≤ 16 * 16 := Nat.mul_le_mul (by omega) (by omega)
    obtain ⟨r1, r', g1, g2, M0, c, g3, g4, g5, g6, g7⟩ := J_dirTi K ht (show T < 64 by omega) (by omega) h5
    obtain ⟨step', e1, e2⟩ := g7.end fu (by omega)
    refine ⟨(nI (t + 1), r1.1, r1.2.1, step', r1.2.2), (nI (T + if decide (0 < c) = true then 1 else 0), nI (t + 1), r'.1, r'.2.1, r'.2.2), fun k => ?_, fun k => ?_, rfl, rfl, _, ?_, rfl, by rw [hmul]; exact e2⟩
    · unfold f_X7_directTurn_l2
      dsimp only
      rw [if_neg (by rw [nle (by omega) (by omega)]; omega), g1, Option.bind_some, e1, Option.bind_some, nsucc]
    · unfold f_X9_direct_l6
      dsimp only
      rw [if_neg (by rw [nle (by omega) (by omega)]; omega), if_pos hask, if_neg (show ¬ nI 4 = (3 : Int32) by decide), if_pos (show nI 4 = (4 : Int32) from rfl), g2, Option.bind_some]
      rw [g6, g5]
      by_cases hc : 0 < c
      · rw [if_neg (by rw [nle (by omega) (by omega)]; omega), if_pos (decide_eq_true hc), nsucc, nsucc]
      · rw [if_pos (by rw [nle (by omega) (by omega)]; omega), if_neg (by rw [decide_eq_true_iff]; exact hc), nsucc]
        rfl
    · split <;> omega) (by
    rintro ⟨x, pp, ps, step, lacks⟩ ⟨y0, y, made, mm, lk⟩ ⟨h1, h2, T, hT, h2', h5⟩
    dsimp only at h1 h2 h2' h5
    subst h1 h2 h2'
    have hle : m * m ≤ 16 * 16 := Nat.mul_le_mul (by omega) (by omega)
    refine ⟨(pp, ps, step, lacks), (made, mm, lk), fun k => ?_, fun k => ?_, m * m, T, by omega, h5⟩
    · unfold f_X7_directTurn_l2
      dsimp only
      rw [if_pos (by rw [nle (by omega) (by omega)]; omega)]
    · unfold f_X9_direct_l6
      dsimp only
      rw [if_pos (by rw [nle (by omega) (by omega)]; omega)]) m 0 (0, pp, ps, step, lacks) (0, 0, made, mm, lk) fu fu (by omega) (by omega) (by omega) ⟨rfl, rfl, 0, by omega, rfl, hJ.mono (by omega) (fun _ _ q => q)⟩
  refine ⟨z, z', ?_, h2, h3⟩
  unfold f_X7_directTurn
  rw [h1, Option.bind_some]
theorem J_direct (K : ZK fu n lv hb lo wa mw m) {r ask : Nat} (hr : r < m) (ha : ask < 5) (ha2 : ask ≠ 2) {pp : Nat → Int32} {ps step lacks : Int32} {made : Nat → Int32} {mm lk : Int32} (hJ : ZJ n lv mw 0 0 false ZN pp ps step lacks made mm lk) : ∃ z z', f_X7_direct fu hb wa (nI m) pp ps (nI m) (nI r) step lacks (nI ask) = some z ∧ f_X9_direct fu lo mw made mm lk (nI ask) (nI r) (nI m) = some z' ∧ ZE n lv mw z z' := by
  unfold f_X7_direct f_X9_direct
  rcases (show ask = 0 ∨ ask = 1 ∨ ask = 3 ∨ ask = 4 by omega) with rfl | rfl | rfl | rfl
  · obtain ⟨z, z', h1, h2, h3⟩ := J_dirR K hr (show 0 < 2 by omega) hJ
    have h1' : f_X7_directWithRoot fu hb wa (nI m) pp ps (nI m) (nI r) step lacks 0 = some z := h1
    refine ⟨z, z', ?_, ?_, h3⟩
    · rw [if_pos (show nI 0 = (0 : Int32) from rfl), h1', Option.bind_some]
    · rw [h2, Option.bind_some]
  · obtain ⟨z, z', h1, h2, h3⟩ := J_dirR K hr (show 1 < 2 by omega) hJ
    have h1' : f_X7_directWithRoot fu hb wa (nI m) pp ps (nI m) (nI r) step lacks 1 = some z := h1
    refine ⟨z, z', ?_, ?_, h3⟩
    · rw [if_neg (show ¬ nI 1 = (0 : Int32) by decide), if_pos (show nI 1 = (1 : Int32) from rfl), h1', Option.bind_some]
    · rw [h2, Option.bind_some]
  · obtain ⟨z, z', h1, h2, h3⟩ := J_dirG K r hJ
    refine ⟨z, z', ?_, ?_, h3⟩
    · rw [if_neg (show ¬ nI 3 = (0 : Int32) by decide), if_neg (show ¬ nI 3 = (1 : Int32) by decide), if_neg (show ¬ nI 3 = (2 : Int32) by decide), if_pos (show nI 3 = (3 : Int32) from rfl), h1, Option.bind_some]
    · rw [h2, Option.bind_some]
  · obtain ⟨z, z', h1, h2, h3⟩ := J_dirT K r hJ
    refine ⟨z, z', ?_, ?_, h3⟩
    · rw [if_neg (show ¬ nI 4 = (0 : Int32) by decide), if_neg (show ¬ nI 4 = (1 : Int32) by decide), if_neg (show ¬ nI 4 = (2 : Int32) by decide), if_neg (show ¬ nI 4 = (3 : Int32) by decide), h1, Option.bind_some]
    · rw [h2, Option.bind_some]
end DI
