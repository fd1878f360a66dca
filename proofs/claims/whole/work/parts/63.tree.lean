/-! the tree, and halving -/
def tn (m : Nat) : Nat := if m ≤ 1 then 0 else if m ≤ 2 then 1 else if m ≤ 4 then 2 else if m ≤ 8 then 3 else 4
theorem tn_le (m : Nat) : tn m ≤ 4 := by unfold tn; (repeat' split) <;> omega
theorem tn_iff {m s : Nat} (hm : m ≤ 16) (hs : s ≤ 4) : 2 ^ s < m ↔ s < tn m := by
  unfold tn
  rcases (show s = 0 ∨ s = 1 ∨ s = 2 ∨ s = 3 ∨ s = 4 by omega) with rfl | rfl | rfl | rfl | rfl
  all_goals
    simp only [Nat.reducePow]
    repeat' split
    all_goals omega
theorem shl1 : ∀ s : Fin 5, (1 : Int32) <<< (nI s.val &&& 31) = nI (2 ^ s.val) := by decide
theorem shlD : ∀ s : Fin 5, nI (2 ^ s.val) <<< ((1 : Int32) &&& 31) = nI (2 ^ (s.val + 1)) := by decide
theorem p2le {s : Nat} (h : s ≤ 4) : 2 ^ s ≤ 16 ∧ 1 ≤ 2 ^ s := by
  rcases (show s = 0 ∨ s = 1 ∨ s = 2 ∨ s = 3 ∨ s = 4 by omega) with rfl | rfl | rfl | rfl | rfl <;> simp
theorem m_turns (fu : Nat) (hfu : 1200 < fu) {m : Nat} (hm : m ≤ 16) : f_X9_turns fu (nI m) = some (nI (tn m)) := by
  have ht := tn_le m
  obtain ⟨r, h1, h2⟩ := lp_run (f_X9_turns_l2 fu (nI m)) (tn m) (fun i s => s = nI i) (fun r => r = nI (tn m)) (by
    rintro i s hi rfl
    left
    refine ⟨nI (i + 1), fun k => ?_, rfl⟩
    have h3 := (tn_iff hm (show i ≤ 4 by omega)).mpr hi
    have h4 := p2le (show i ≤ 4 by omega)
    unfold f_X9_turns_l2
    rw [shl1 ⟨i, by omega⟩, if_neg (by rw [nle (by omega) (by show 2 ^ i < _; omega)]; show ¬ m ≤ 2 ^ i; omega), nsucc]) (by
    rintro s rfl
    refine ⟨nI (tn m), fun k => ?_, rfl⟩
    have h3 : ¬ 2 ^ tn m < m := fun q => by have := (tn_iff hm ht).mp q; omega
    have h4 := p2le ht
    unfold f_X9_turns_l2
    rw [shl1 ⟨tn m, by omega⟩, if_pos (by rw [nle (by omega) (by show 2 ^ tn m < _; omega)]; show m ≤ 2 ^ tn m; omega)]) (tn m) 0 0 fu (by omega) (by omega) rfl
  simp only [f_X9_turns, h1, h2, Option.bind_some]
theorem md2 {m x : Nat} (h : x < 2 * m) : x % m = if x < m then x else x - m := by
  by_cases e : x < m
  · rw [if_pos e, Nat.mod_eq_of_lt e]
  · rw [if_neg e, Nat.mod_eq_sub_mod (by omega), Nat.mod_eq_of_lt (by omega)]
theorem md_inj {m r i j : Nat} (hr : r < m) (hi : i < m) (hj : j < m) (hij : i ≠ j) : (r + i) % m ≠ (r + j) % m := by
  rw [md2 (by omega), md2 (by omega)]
  split <;> split <;> omega
section TR
variable {fu n m : Nat} {lv : Nat → Bool} {hb lo wa mw : Nat → Int32}
/-- one step of the tree, away from the root -/
theorem J_treeF (K : ZK fu n lv hb lo wa mw m) {r d t B : Nat} (hr : r < m) (hd : d ≤ 16) (hd1 : 1 ≤ d) (ht : t < 64) (hB : B + d * m ≤ 1200) {mb : (Int32 × (Nat → Int32) × Int32 × Int32 → Option ((Nat → Int32) × Int32 × Int32)) → Int32 × (Nat → Int32) × Int32 × Int32 → Option ((Nat → Int32) × Int32 × Int32)} (hm : ∀ q, q < min d (m - d) → ∀ made mm lk k, mb k (nI q, made, mm, lk) = (f_X9_put fu lo mw made mm lk (nI t) (nI (r + q)) (nI (r + q + d)) 0 (nI m) (nI m) 0).bind fun z => k (nI (q + 1), z.1, z.2.1, z.2.2)) (hme : ∀ made mm lk k, mb k (nI (min d (m - d)), made, mm, lk) = some (made, mm, lk))
    {pp : Nat → Int32} {ps step lacks : Int32} {made : Nat → Int32} {mm lk : Int32} (hJ : ZJ n lv mw B t false ZN pp ps step lacks made mm lk) : ∃ z z', f_X7_treeStep fu hb wa (nI m) pp ps (nI m) (nI r) step lacks (nI d) 0 = some z ∧ lp mb fu (0, made, mm, lk) = some z' ∧ ZJ n lv mw (B + d * m) (t + if decide (0 < min d (m - d)) = true then 1 else 0) false ZN z.1 z.2.1 z.2.2.1 z.2.2.2 z'.1 z'.2.1 z'.2.2 := by
  obtain ⟨k1, k2, k3, k4, k5, k6, k7, k8⟩ := id K
  have hle : min d (m - d) * m ≤ d * m := Nat.mul_le_mul_right m (Nat.min_le_left _ _)
  obtain ⟨z, z', g1, g2, g3⟩ := J_row K (cb := f_X7_treeStep_l2 fu hb wa (nI m) (nI m) (nI r) step (nI d) 0) (mb := mb) (min d (m - d)) t m 0 (fun q => (r + q) % m) (fun q => (r + (q + d)) % m) (fun _ => 0) (fun q => r + q) (fun q => r + q + d) (fun q hq pp ps lacks k => by
    unfold f_X7_treeStep_l2 f_X7_giveAll
    dsimp only
    rw [if_neg (by rw [nle (by omega) (by omega)]; omega), nadd, if_neg (by rw [nle (by omega) (by omega)]; omega), if_pos rfl, b_rankOfQ fu k4 hr (by omega), Option.bind_some, b_rankOfQ fu k4 hr (by omega), Option.bind_some, nsucc, Option.bind_assoc]
    rfl) (fun pp ps lacks k => by
    unfold f_X7_treeStep_l2
    dsimp only
    by_cases q : d ≤ min d (m - d)
    · rw [if_pos (by rw [nle (by omega) (by omega)]; exact q)]
    · rw [if_neg (by rw [nle (by omega) (by omega)]; exact q), nadd, if_pos (by rw [nle (by omega) (by omega)]; omega)]) (fun i hi made mm lk k => hm i hi made mm lk k) (fun made mm lk k => hme made mm lk k) (by omega) (by omega) ht k3 (by omega) (fun i hi => ⟨Nat.mod_lt _ k3, Nat.mod_lt _ k3, by omega, by omega, by omega, rfl, by rw [Nat.add_assoc]⟩) (fun i j hij hj => ⟨md_inj hr (by omega) (by omega) (by omega), md_inj hr (by omega) (by omega) (by omega)⟩) hJ
  obtain ⟨step', e1, e2⟩ := g3.end fu (by omega)
  refine ⟨(z.1, z.2.1, step', z.2.2), z', ?_, g2, e2.mono (by omega) (fun _ _ q => q)⟩
  unfold f_X7_treeStep
  rw [g1, Option.bind_some, e1, Option.bind_some]
/-- one step of the tree, to the root -/
theorem J_treeB (K : ZK fu n lv hb lo wa mw m) {r d t B : Nat} (hr : r < m) (hd : d ≤ 16) (hd1 : 1 ≤ d) (ht : t < 64) (hB : B + min d (m - d) * m ≤ 1200) {mb : (Int32 × (Nat → Int32) × Int32 × Int32 → Option ((Nat → Int32) × Int32 × Int32)) → Int32 × (Nat → Int32) × Int32 × Int32 → Option ((Nat → Int32) × Int32 × Int32)} (hm : ∀ q, q < min d (m - d) → ∀ made mm lk k, mb k (nI q, made, mm, lk) = (f_X9_put fu lo mw made mm lk (nI t) (nI (r + q + d)) (nI (r + q)) 0 (nI m) (nI m) 1).bind fun z => k (nI (q + 1), z.1, z.2.1, z.2.2)) (hme : ∀ made mm lk k, mb k (nI (min d (m - d)), made, mm, lk) = some (made, mm, lk))
    {pp : Nat → Int32} {ps step lacks : Int32} {made : Nat → Int32} {mm lk : Int32} (hJ : ZJ n lv mw B t false ZN pp ps step lacks made mm lk) : ∃ z z', f_X7_treeStep fu hb wa (nI m) pp ps (nI m) (nI r) step lacks (nI d) 1 = some z ∧ lp mb fu (0, made, mm, lk) = some z' ∧ ZJ n lv mw (B + min d (m - d) * m) (t + if decide (0 < min d (m - d)) = true then 1 else 0) false ZN z.1 z.2.1 z.2.2.1 z.2.2.2 z'.1 z'.2.1 z'.2.2 := by
  obtain ⟨k1, k2, k3, k4, k5, k6, k7, k8⟩ := id K
  obtain ⟨z, z', g1, g2, g3⟩ := J_row K (cb := f_X7_treeStep_l2 fu hb wa (nI m) (nI m) (nI r) step (nI d) 1) (mb := mb) (min d (m - d)) t m 1 (fun q => (r + (q + d)) % m) (fun q => (r + q) % m) (fun _ => 0) (fun q => r + q + d) (fun q => r + q) (fun q hq pp ps lacks k => by
    unfold f_X7_treeStep_l2 f_X7_giveAll
    dsimp only
    rw [if_neg (by rw [nle (by omega) (by omega)]; omega), nadd, if_neg (by rw [nle (by omega) (by omega)]; omega), if_neg n_10.mp, b_rankOfQ fu k4 hr (by omega), Option.bind_some, b_rankOfQ fu k4 hr (by omega), Option.bind_some, nsucc, Option.bind_assoc]
    rfl) (fun pp ps lacks k => by
    unfold f_X7_treeStep_l2
    dsimp only
    by_cases q : d ≤ min d (m - d)
    · rw [if_pos (by rw [nle (by omega) (by omega)]; exact q)]
    · rw [if_neg (by rw [nle (by omega) (by omega)]; exact q), nadd, if_pos (by rw [nle (by omega) (by omega)]; omega)]) (fun i hi made mm lk k => hm i hi made mm lk k) (fun made mm lk k => hme made mm lk k) (by omega) (by omega) ht k3 (by omega) (fun i hi => ⟨Nat.mod_lt _ k3, Nat.mod_lt _ k3, by omega, by omega, by omega, by rw [Nat.add_assoc], rfl⟩) (fun i j hij hj => ⟨md_inj hr (by omega) (by omega) (by omega), md_inj hr (by omega) (by omega) (by omega)⟩) hJ
  obtain ⟨step', e1, e2⟩ := g3.end fu (by omega)
  refine ⟨(z.1, z.2.1, step', z.2.2), z', ?_, g2, e2⟩
  unfold f_X7_treeStep
  rw [g1, Option.bind_some, e1, Option.bind_some]
theorem J_spread (K : ZK fu n lv hb lo wa mw m) {r T0 B0 : Nat} (hr : r < m) (hT : T0 ≤ 4) (hB0 : B0 ≤ 240) {pp : Nat → Int32} {ps step lacks : Int32} {made : Nat → Int32} {mm lk : Int32} (hJ : ZJ n lv mw B0 T0 false ZN pp ps step lacks made mm lk) : ∃ z z', lp (f_X7_tree_l31 fu hb wa (nI m) (nI m) (nI r)) fu (1, pp, ps, step, lacks) = some z ∧ f_X9_spread fu lo mw made mm lk (nI T0) (nI r) (nI m) = some z' ∧ ZE n lv mw z z' := by
  obtain ⟨k1, k2, k3, k4, k5, k6, k7, k8⟩ := id K
  have htn := tn_le m
  obtain ⟨z, z', h1, h2, h3⟩ := lp_sim (f_X7_tree_l31 fu hb wa (nI m) (nI m) (nI r)) (f_X9_spread_l3 fu lo mw (nI T0) (nI r) (nI m)) (tn m) (fun s x x' => x.1 = nI (2 ^ s) ∧ x'.1 = nI s ∧ ZJ n lv mw (B0 + (2 ^ s - 1) * m) (T0 + s) false ZN x.2.1 x.2.2.1 x.2.2.2.1 x.2.2.2.2 x'.2.1 x'.2.2.1 x'.2.2.2) (ZE n lv mw) (by
    rintro s ⟨x, pp, ps, step, lacks⟩ ⟨y, made, mm, lk⟩ hs ⟨h1, h2, h3⟩
    dsimp only at h1 h2 h3
    subst h1 h2
    have hlt := (tn_iff k4 (show s ≤ 4 by omega)).mpr hs
    have hp := p2le (show s ≤ 4 by omega)
    have hpow : 2 ^ (s + 1) = 2 ^ s + 2 ^ s := by rw [Nat.pow_succ]; omega
    have hsh := shl1 ⟨s, by omega⟩
    have hsD := shlD ⟨s, by omega⟩
    dsimp only at hsh hsD
    rw [hpow] at hsD
    generalize 2 ^ s = d at *
    have hmul : (d + d - 1) * m = (d - 1) * m + d * m := by rw [← Nat.add_mul]; congr 1; omega
    have hle : (d + d - 1) * m ≤ 31 * 16 := Nat.mul_le_mul (by omega) k4
    obtain ⟨z, z', g1, g2, g3⟩ := J_treeF K (d := d) (mb := f_X9_spread_l15 fu lo mw (nI T0) (nI r) (nI m) (nI s)) hr (by omega) (by omega) (show T0 + s < 64 by omega) (by omega) (fun q hq made mm lk k => by
      unfold f_X9_spread_l15
      dsimp only
      rw [hsh, if_neg (by rw [nle (by omega) (by omega)]; omega), nadd, if_neg (by rw [nle (by omega) (by omega)]; omega), nadd, nadd, nadd, nsucc]) (fun made mm lk k => by
      unfold f_X9_spread_l15
      dsimp only
      rw [hsh]
      by_cases q : d ≤ min d (m - d)
      · rw [if_pos (by rw [nle (by omega) (by omega)]; exact q)]
      · rw [if_neg (by rw [nle (by omega) (by omega)]; exact q), nadd, if_pos (by rw [nle (by omega) (by omega)]; omega)]) h3
    rw [if_pos (decide_eq_true (show 0 < min d (m - d) by omega))] at g3
    refine ⟨(nI (d + d), z.1, z.2.1, z.2.2.1, z.2.2.2), (nI (s + 1), z'.1, z'.2.1, z'.2.2), fun k => ?_, fun k => ?_, by rw [hpow], rfl, ?_⟩
    · unfold f_X7_tree_l31
      simp only [vn]
      rw [if_neg (by rw [nle (by omega) (by omega)]; omega), g1, Option.bind_some, hsD]
    · unfold f_X9_spread_l3
      dsimp only
      rw [m_turns fu k1 k4, Option.bind_some, if_neg (by rw [nle (by omega) (by omega)]; omega), g2, Option.bind_some, nsucc]
    · rw [hpow, hmul, show B0 + ((d - 1) * m + d * m) = B0 + (d - 1) * m + d * m by omega, show T0 + (s + 1) = T0 + s + 1 by omega]
      exact g3) (by
    rintro ⟨x, pp, ps, step, lacks⟩ ⟨y, made, mm, lk⟩ ⟨h1, h2, h3⟩
    dsimp only at h1 h2 h3
    subst h1 h2
    have hnl : ¬ 2 ^ tn m < m := fun q => by have := (tn_iff k4 htn).mp q; omega
    have hp := p2le htn
    have hle : (2 ^ tn m - 1) * m ≤ 15 * 16 := Nat.mul_le_mul (by omega) k4
    refine ⟨(pp, ps, step, lacks), (made, mm, lk), fun k => ?_, fun k => ?_, _, _, ?_, h3⟩
    · unfold f_X7_tree_l31
      dsimp only
      rw [if_pos (by rw [nle (by omega) (by omega)]; omega)]
    · unfold f_X9_spread_l3
      dsimp only
      rw [m_turns fu k1 k4, Option.bind_some, if_pos (by rw [nle (by omega) (by omega)]; omega)]
    · omega) (tn m) 0 (1, pp, ps, step, lacks) (0, made, mm, lk) fu fu (by omega) (by omega) (by omega) ⟨rfl, rfl, hJ.mono (by omega) (fun _ _ q => q)⟩
  refine ⟨z, z', h1, ?_, h3⟩
  unfold f_X9_spread
  rw [h2, Option.bind_some]
/-- to the root: the class's idle steps -/
theorem J_idle (K : ZK fu n lv hb lo wa mw m) {r : Nat} (hr : r < m) {pp : Nat → Int32} {ps step lacks : Int32} {made : Nat → Int32} {mm lk : Int32} (hJ : ZJ n lv mw 0 0 false ZN pp ps step lacks made mm lk) : ∀ j, j + tn m ≤ 5 → ∃ pp' ps' step' lacks', lp (f_X7_tree_l7 fu hb wa (nI m) (nI m) (nI r)) fu (16, pp, ps, step, lacks) = lp (f_X7_tree_l7 fu hb wa (nI m) (nI m) (nI r)) (fu - j) (nI (2 ^ (5 - j) / 2), pp', ps', step', lacks') ∧ ZJ n lv mw 0 0 false ZN pp' ps' step' lacks' made mm lk
  | 0, _ => ⟨pp, ps, step, lacks, rfl, hJ⟩
  | j + 1, hj => by
    obtain ⟨k1, k2, k3, k4, k5, k6, k7, k8⟩ := id K
    obtain ⟨pp', ps', step', lacks', h1, h2⟩ := J_idle K hr hJ j (by omega)
    have e1 : 2 ^ (5 - j) / 2 = 2 ^ (4 - j) := by
      rw [show 5 - j = 4 - j + 1 by omega, Nat.pow_succ]; omega
    have hnl : ¬ 2 ^ (4 - j) < m := fun q => by have := (tn_iff k4 (show 4 - j ≤ 4 by omega)).mp q; omega
    have hp := p2le (show 4 - j ≤ 4 by omega)
    have e2 : 2 ^ (5 - (j + 1)) = 2 ^ (4 - j) := by congr 1; omega
    rw [e1] at h1
    rw [e2]
    generalize 2 ^ (4 - j) = d at *
    have hc0 : min d (m - d) = 0 := by omega
    obtain ⟨z, z', g1, g2, g3⟩ := J_treeB K (d := d) (t := 0) (B := 0) (mb := fun _ s => some (s.2.1, s.2.2.1, s.2.2.2)) hr hp.1 hp.2 (by omega) (by rw [hc0]; omega) (fun q hq made mm lk k => by omega) (fun made mm lk k => rfl) h2
    rw [hc0] at g3
    have hz' : z' = (made, mm, lk) := by
      obtain ⟨f, hf⟩ : ∃ f, fu = f + 1 := ⟨fu - 1, by omega⟩
      rw [hf] at g2
      exact (Option.some.inj g2).symm
    subst hz'
    refine ⟨z.1, z.2.1, z.2.2.1, z.2.2.2, ?_, g3.mono (by omega) (fun _ _ q => q)⟩
    rw [h1]
    obtain ⟨f, hf⟩ : ∃ f, fu - j = f + 1 := ⟨fu - j - 1, by omega⟩
    rw [hf, show fu - (j + 1) = f by omega]
    have s1 : ∀ k, f_X7_tree_l7 fu hb wa (nI m) (nI m) (nI r) k (nI d, pp', ps', step', lacks') = k (nI (d / 2), z.1, z.2.1, z.2.2.1, z.2.2.2) := fun k => by
      unfold f_X7_tree_l7
      simp only [vn]
      rw [if_neg (by rw [n_le0 (by omega)]; omega), g1, Option.bind_some, sh1 (by omega)]
    exact s1 _
theorem J_back (K : ZK fu n lv hb lo wa mw m) {r ask : Nat} (hr : r < m) (ha : ask = 1 ∨ ask = 2) {pp : Nat → Int32} {ps step lacks : Int32} {made : Nat → Int32} {mm lk : Int32} (hJ : ZJ n lv mw 0 0 false ZN pp ps step lacks made mm lk) : ∃ z z', lp (f_X7_tree_l7 fu hb wa (nI m) (nI m) (nI r)) fu (16, pp, ps, step, lacks) = some z ∧ lp (f_X9_tree_l9 fu lo mw (nI ask) (nI r) (nI m) (nI (tn m))) fu (0, made, mm, lk) = some z' ∧ ZJ n lv mw 240 (tn m) false ZN z.1 z.2.1 z.2.2.1 z.2.2.2 z'.1 z'.2.1 z'.2.2 := by
  obtain ⟨k1, k2, k3, k4, k5, k6, k7, k8⟩ := id K
  have htn := tn_le m
  obtain ⟨pp', ps', step', lacks', q1, q2⟩ := J_idle K hr hJ (5 - tn m) (by omega)
  rw [show 5 - (5 - tn m) = tn m by omega] at q1
  rw [q1]
  refine lp_sim (f_X7_tree_l7 fu hb wa (nI m) (nI m) (nI r)) (f_X9_tree_l9 fu lo mw (nI ask) (nI r) (nI m) (nI (tn m))) (tn m) (fun s x x' => x.1 = nI (2 ^ (tn m - s) / 2) ∧ x'.1 = nI s ∧ ZJ n lv mw ((2 ^ tn m - 2 ^ (tn m - s)) * m) s false ZN x.2.1 x.2.2.1 x.2.2.2.1 x.2.2.2.2 x'.2.1 x'.2.2.1 x'.2.2.2) _ ?_ ?_ (tn m) 0 _ (0, made, mm, lk) (fu - (5 - tn m)) fu (by omega) (by omega) (by omega) ⟨rfl, rfl, q2.mono (by omega) (fun _ _ q => q)⟩
  · rintro s ⟨x, pp, ps, step, lacks⟩ ⟨y, made, mm, lk⟩ hs ⟨h1, h2, h3⟩
    dsimp only at h1 h2 h3
    subst h1 h2
    have e1 : 2 ^ (tn m - s) = 2 ^ (tn m - 1 - s) + 2 ^ (tn m - 1 - s) := by
      rw [show tn m - s = tn m - 1 - s + 1 by omega, Nat.pow_succ]; omega
    have e2 : 2 ^ (tn m - (s + 1)) = 2 ^ (tn m - 1 - s) := by congr 1; omega
    have hlt := (tn_iff k4 (show tn m - 1 - s ≤ 4 by omega)).mpr (by omega)
    have hp := p2le (show tn m - 1 - s ≤ 4 by omega)
    have hp2 := p2le htn
    have hge : 2 ^ (tn m - s) ≤ 2 ^ tn m := Nat.pow_le_pow_right (by omega) (by omega)
    have hsh := shl1 ⟨tn m - 1 - s, by omega⟩
    dsimp only at hsh
    rw [e1] at h3 hge ⊢
    rw [e2]
    generalize 2 ^ (tn m - 1 - s) = d at *
    generalize 2 ^ tn m = D at *
    rw [show (d + d) / 2 = d by omega]
    have hmul : (D - d) * m = (D - (d + d)) * m + d * m := by rw [← Nat.add_mul]; congr 1; omega
    have hle : (D - d) * m ≤ 16 * 16 := Nat.mul_le_mul (by omega) k4
    have hle2 : min d (m - d) * m ≤ d * m := Nat.mul_le_mul_right m (Nat.min_le_left _ _)
    obtain ⟨z, z', g1, g2, g3⟩ := J_treeB K (d := d) (mb := f_X9_tree_l34 fu lo mw (nI r) (nI m) (nI s) (nI d)) hr hp.1 hp.2 (show s < 64 by omega) (by omega) (fun q hq made mm lk k => by
      unfold f_X9_tree_l34
      dsimp only
      rw [if_neg (by rw [nle (by omega) (by omega)]; omega), nadd, if_neg (by rw [nle (by omega) (by omega)]; omega), nadd, nadd, nsucc]) (fun made mm lk k => by
      unfold f_X9_tree_l34
      dsimp only
      by_cases q : d ≤ min d (m - d)
      · rw [if_pos (by rw [nle (by omega) (by omega)]; exact q)]
      · rw [if_neg (by rw [nle (by omega) (by omega)]; exact q), nadd, if_pos (by rw [nle (by omega) (by omega)]; omega)]) h3
    rw [if_pos (decide_eq_true (show 0 < min d (m - d) by omega))] at g3
    refine ⟨(nI (d / 2), z.1, z.2.1, z.2.2.1, z.2.2.2), (nI (s + 1), z'.1, z'.2.1, z'.2.2), fun k => ?_, fun k => ?_, rfl, rfl, g3.mono (by omega) (fun _ _ q => q)⟩
    · unfold f_X7_tree_l7
      simp only [vn]
      rw [if_neg (by rw [n_le0 (by omega)]; omega), g1, Option.bind_some, sh1 (by omega)]
    · unfold f_X9_tree_l9
      simp only [vn]
      rw [if_neg (by rw [nle (by omega) (by omega)]; omega), if_neg (by rw [n_le0 (by omega)]; omega), nsub1 (by omega), nsubI (by omega), hsh, g2, Option.bind_some, nsucc]
  · rintro ⟨x, pp, ps, step, lacks⟩ ⟨y, made, mm, lk⟩ ⟨h1, h2, h3⟩
    dsimp only at h1 h2 h3
    subst h1 h2
    have hp2 := p2le htn
    have hle : (2 ^ tn m - 1) * m ≤ 15 * 16 := Nat.mul_le_mul (by omega) k4
    refine ⟨(pp, ps, step, lacks), (made, mm, lk), fun k => ?_, fun k => ?_, h3.mono (by rw [Nat.sub_self]; exact hle) (fun _ _ q => q)⟩
    · unfold f_X7_tree_l7
      dsimp only
      rw [Nat.sub_self, if_pos (show nI (2 ^ 0 / 2) ≤ 0 by decide)]
    · unfold f_X9_tree_l9
      dsimp only
      rw [if_pos (by rw [nle (by omega) (by omega)]; omega)]
theorem J_tree (K : ZK fu n lv hb lo wa mw m) {r ask : Nat} (hr : r < m) (ha : ask < 3) {pp : Nat → Int32} {ps step lacks : Int32} {made : Nat → Int32} {mm lk : Int32} (hJ : ZJ n lv mw 0 0 false ZN pp ps step lacks made mm lk) : ∃ z z', f_X7_tree fu hb wa (nI m) pp ps (nI m) (nI r) step lacks (nI ask) = some z ∧ f_X9_tree fu lo mw made mm lk (nI ask) (nI r) (nI m) = some z' ∧ ZE n lv mw z z' := by
  obtain ⟨k1, k2, k3, k4, k5, k6, k7, k8⟩ := id K
  have htn := tn_le m
  unfold f_X7_tree f_X9_tree
  rw [m_turns fu k1 k4, Option.bind_some]
  rcases (show ask = 0 ∨ ask = 1 ∨ ask = 2 by omega) with rfl | rfl | rfl
  · obtain ⟨z, z', h1, h2, h3⟩ := J_spread K (T0 := 0) hr (by omega) (by omega) hJ
    have hnone : lp (f_X9_tree_l9 fu lo mw (nI 0) (nI r) (nI m) (nI (tn m))) fu (0, made, mm, lk) = some (made, mm, lk) := by
      obtain ⟨f, hf⟩ : ∃ f, fu = f + 1 := ⟨fu - 1, by omega⟩
      conv => lhs; arg 2; rw [hf]
      show f_X9_tree_l9 fu lo mw (nI 0) (nI r) (nI m) (nI (tn m)) _ (0, made, mm, lk) = _
      unfold f_X9_tree_l9
      dsimp only
      rw [if_pos (show nI 0 ≤ (0 : Int32) by decide), ite_self]
    refine ⟨z, z', ?_, ?_, h3⟩
    · rw [if_pos (show nI 0 = (0 : Int32) from rfl), h1, Option.bind_some]
    · rw [hnone, Option.bind_some, if_neg (show ¬ nI 0 = (1 : Int32) by decide), if_pos (show nI 0 = (0 : Int32) from rfl)]
      have h2' : f_X9_spread fu lo mw made mm lk 0 (nI r) (nI m) = some z' := h2
      rw [h2', Option.bind_some]
  · obtain ⟨z, z', h1, h2, h3⟩ := J_back K (ask := 1) hr (Or.inl rfl) hJ
    refine ⟨z, z', ?_, ?_, 240, tn m, by omega, h3⟩
    · rw [if_neg (show ¬ nI 1 = (0 : Int32) by decide), h1, Option.bind_some, if_pos (show nI 1 = (1 : Int32) from rfl)]
    · rw [h2, Option.bind_some, if_pos (show nI 1 = (1 : Int32) from rfl)]
  · obtain ⟨z, z', h1, h2, h3⟩ := J_back K (ask := 2) hr (Or.inr rfl) hJ
    obtain ⟨y, y', g1, g2, g3⟩ := J_spread K (T0 := tn m) hr htn (Nat.le_refl 240) h3
    refine ⟨y, y', ?_, ?_, g3⟩
    · rw [if_neg (show ¬ nI 2 = (0 : Int32) by decide), h1, Option.bind_some, if_neg (show ¬ nI 2 = (1 : Int32) by decide), g1, Option.bind_some]
    · rw [h2, Option.bind_some, if_neg (show ¬ nI 2 = (1 : Int32) by decide), if_neg (show ¬ nI 2 = (0 : Int32) by decide), g2, Option.bind_some]
end TR
