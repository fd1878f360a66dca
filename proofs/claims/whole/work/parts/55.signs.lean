/-! signs: bits of longs, and what a plan does to them -/
theorem cmp0 (x y : Int64) : lg_cmp x y = 0 ↔ x = y := by
  unfold lg_cmp
  by_cases h : x > y
  · rw [if_pos h]
    refine ⟨fun q => absurd q (by decide), fun q => ?_⟩
    rw [q, gt_iff_lt, fa_lt64] at h
    omega
  · rw [if_neg h]
    by_cases e : x = y
    · rw [if_pos e]; exact ⟨fun _ => e, fun _ => rfl⟩
    · rw [if_neg e]; exact ⟨fun q => absurd q (by decide), fun q => absurd q e⟩
def bt (x : Int64) (k : Nat) : Bool := x.toBitVec.getLsbD k
theorem bt_or (x y : Int64) (k : Nat) : bt (x ||| y) k = (bt x k || bt y k) := by
  unfold bt
  rw [Int64.toBitVec_or, BitVec.getLsbD_or]
theorem bt_and (x y : Int64) (k : Nat) : bt (x &&& y) k = (bt x k && bt y k) := by
  unfold bt
  rw [Int64.toBitVec_and, BitVec.getLsbD_and]
theorem bt_0 (k : Nat) : bt 0 k = false := by
  unfold bt
  rw [show (0 : Int64).toBitVec = 0#64 from rfl, BitVec.getLsbD_zero]
theorem bt_ext {x y : Int64} (h : ∀ k, k < 64 → bt x k = bt y k) : x = y := by
  apply Int64.toBitVec_inj.1
  exact BitVec.eq_of_getLsbD_eq fun i hi => h i hi
theorem sgn_eq : ∀ s : Fin 64, ((1 : Int64) <<< ((nI s.val).toInt64 &&& 63)).toBitVec = BitVec.twoPow 64 s.val := by decide
theorem bt_sgn {s : Nat} (hs : s < 64) (k : Nat) (hk : k < 64) : bt ((1 : Int64) <<< ((nI s).toInt64 &&& 63)) k = decide (k = s) := by
  unfold bt
  rw [sgn_eq ⟨s, hs⟩, BitVec.getLsbD_twoPow]
  show (decide (s < 64) && decide (s = k)) = _
  rw [decide_eq_true hs, Bool.true_and]
  by_cases e : k = s
  · rw [decide_eq_true e, decide_eq_true e.symm]
  · rw [decide_eq_false e, decide_eq_false (fun q => e q.symm)]
def sgn (g c : Nat) : Int64 := if 64 * g ≤ c ∧ c < 64 * g + 64 then (1 : Int64) <<< ((nI (c - 64 * g)).toInt64 &&& 63) else 0
theorem bt_sign (g c k : Nat) (hk : k < 64) : bt (sgn g c) k = decide (c = 64 * g + k) := by
  unfold sgn
  by_cases e : 64 * g ≤ c ∧ c < 64 * g + 64
  · rw [if_pos e, bt_sgn (by omega) k hk]
    by_cases q : k = c - 64 * g
    · rw [decide_eq_true q, decide_eq_true (by omega)]
    · rw [decide_eq_false q, decide_eq_false (by omega)]
  · rw [if_neg e, bt_0, decide_eq_false (by omega)]
theorem b_signOf (fu g c : Nat) (hg : g < 4) (hc : c < 256) : f_X6_signOf fu (nI g) (nI c) = some (sgn g c) := by
  unfold f_X6_signOf sgn
  simp only [vn]
  rw [zl64, nmul]
  by_cases e : g * 64 ≤ c
  · rw [nsubI e, if_neg (nI_pos (by omega))]
    by_cases q : c < 64 * g + 64
    · rw [if_neg (by rw [nle (by omega) (by omega)]; omega), if_pos ⟨by omega, q⟩, show c - g * 64 = c - 64 * g by omega]
    · rw [if_pos (by rw [nle (by omega) (by omega)]; omega), if_neg (by omega)]
  · have h1 : nI c - nI (g * 64) < 0 := by
      rw [fa_lt, i0, Int32.toInt_sub, nI_toInt (by omega), nI_toInt (by omega)]
      rw [Int.bmod_eq_of_le (by omega) (by omega)]
      omega
    rw [if_pos h1, if_neg (by omega)]
def adL (x y : Int64 × Int64) : Int64 × Int64 := (x.1 ||| y.1, x.2 ||| (y.2 ||| (x.1 &&& y.1)))
section SG
variable {N : Nat} {S : Nat → Nat → Nat} {pp : Nat → Int32} {ps : Int32}
theorem b_takeUpL (fu a b : Nat) (so mo su mu : Nat → Int64) (ha : a < 256) (hb : b < 256) : f_X6_takeUp fu so mo su mu (nI a) (nI b) = some (vp_updL su b (so a), vp_updL mu b (mo a)) := by
  unfold f_X6_takeUp
  rw [b_isCell, b_isCell, hx_nI (by omega), hx_nI (by omega), decide_eq_true ha, decide_eq_true hb]
  simp (disch := omega) only [nlt0, nle, nlt, neqI, ncl, nadd, nmul, nm1, nm1', nsucc, n_eq0, n_eq0', n_eq1, n_le0, n_0lt, n_0le, n_1le, n_le1, n_01, n_10, nsubI, nsub1, naddm1, ofNat_nI, zl2, zl3, zl4, zl5, zl6, zl7, zl8, zl9, zl13, zl15, zl16, zl17, zl31, zl63, zl64, zl100, zl256, zl1000, zl1200, zl7200, zl65536, zl100000, if_true, if_false, or_false, false_or, true_or, or_true, and_true, true_and, false_and, and_false, not_true_eq_false, not_false_eq_true, if_pos, if_neg, Option.bind_some, Option.bind_none, vn, reduceCtorEq]
theorem b_putDownL (fu a : Nat) (so mo su mu : Nat → Int64) (ha : a < 256) : f_X6_putDown fu so mo su mu (nI a) = some (vp_updL so a (su a), vp_updL mo a (mu a)) := by
  unfold f_X6_putDown
  rw [b_isCell, hx_nI (by omega), decide_eq_true ha]
  simp (disch := omega) only [nlt0, nle, nlt, neqI, ncl, nadd, nmul, nm1, nm1', nsucc, n_eq0, n_eq0', n_eq1, n_le0, n_0lt, n_0le, n_1le, n_le1, n_01, n_10, nsubI, nsub1, naddm1, ofNat_nI, zl2, zl3, zl4, zl5, zl6, zl7, zl8, zl9, zl13, zl15, zl16, zl17, zl31, zl63, zl64, zl100, zl256, zl1000, zl1200, zl7200, zl65536, zl100000, if_true, if_false, or_false, false_or, true_or, or_true, and_true, true_and, false_and, and_false, not_true_eq_false, not_false_eq_true, if_pos, if_neg, Option.bind_some, Option.bind_none, vn, reduceCtorEq]
theorem b_addDownL (fu a : Nat) (so mo su mu : Nat → Int64) (ha : a < 256) : f_X6_addDown fu so mo su mu (nI a) = some (vp_updL so a (so a ||| su a), vp_updL mo a (mo a ||| (mu a ||| (so a &&& su a)))) := by
  unfold f_X6_addDown
  rw [b_isCell, hx_nI (by omega), decide_eq_true ha]
  simp (disch := omega) only [nlt0, nle, nlt, neqI, ncl, nadd, nmul, nm1, nm1', nsucc, n_eq0, n_eq0', n_eq1, n_le0, n_0lt, n_0le, n_1le, n_le1, n_01, n_10, nsubI, nsub1, naddm1, ofNat_nI, zl2, zl3, zl4, zl5, zl6, zl7, zl8, zl9, zl13, zl15, zl16, zl17, zl31, zl63, zl64, zl100, zl256, zl1000, zl1200, zl7200, zl65536, zl100000, if_true, if_false, or_false, false_or, true_or, or_true, and_true, true_and, false_and, and_false, not_true_eq_false, not_false_eq_true, if_pos, if_neg, Option.bind_some, Option.bind_none, vn, reduceCtorEq]
theorem b_bring_g (fu : Nat) (hfu : 1200 < fu) (hC : ZPc N S pp ps) (hS : ZSo N S) (hcp : ZCp N S) (f0 : Nat → Int64 × Int64) (so mo su mu : Nat → Int64) {b i : Nat} (hb : b ≤ i) (hi : i < N) (hblk : ∀ t, b ≤ t → t < i → S t 0 = S (t + 1) 0) (hbd : (ac adL S f0 b).1 = (ac adL S f0 b).2) (hen : ∀ c, c < 256 → (so c, mo c) = (ac adL S f0 b).2 c) (hun : ∀ t, b ≤ t → t ≤ i → (su (tg (S t)), mu (tg (S t))) = (ac adL S f0 b).1 (sc (S t))) :
    ∃ r, f_X1_bringDown_g fu pp ps so mo su mu (nI b) (nI i) = some r ∧ ∀ c, c < 256 → (r.1 c, r.2 c) = (ac adL S f0 (i + 1)).2 c := by
  obtain ⟨hN, hps, hCi⟩ := id hC
  have hok : ∀ i, i < N → sok (S i) := fun i hi => (hCi i hi).1
  obtain ⟨r, h1, h2⟩ := lp_run (f_X1_bringDown_g_l3 fu pp ps su mu (nI i)) (i + 1) (fun t s => b ≤ t ∧ s.1 = nI t ∧ ∀ c, c < 256 → (s.2.1 c, s.2.2 c) = (ac adL S f0 t).2 c) (fun r => ∀ c, c < 256 → (r.1 c, r.2 c) = (ac adL S f0 (i + 1)).2 c) (by
    rintro t ⟨x, g, g'⟩ ht ⟨h1, h2, h3⟩
    dsimp only at h2 h3
    subst h2
    left
    have htN : t < N := by omega
    have hF : (ac adL S f0 t).1 = (ac adL S f0 b).1 := ac_in _ S f0 h1 (fun u a c => hblk u a (by omega))
    have htl := tg_lt (hok t htN)
    have hkeep : (ac adL S f0 t).2 (tg (S t)) = (ac adL S f0 b).1 (tg (S t)) := ac_keep _ S f0 hbd h1 (fun u a c => tg_ne hok hS hcp c htN (by rw [blk_eq hblk a (by omega), blk_eq hblk h1 (by omega)]))
    have h5 := (hok t htN).2.2.2.2.2
    have htar : f_X4_target fu pp ps (nI t) = some (nI (tg (S t))) := b_target fu hC htN
    have hu := hun t h1 (by omega)
    have hg := h3 _ htl
    rw [hkeep] at hg
    have hfin : ∀ c, c < 256 → (ac adL S f0 (t + 1)).2 c = if c = tg (S t) then (if S t 5 = 1 then adL (g (tg (S t)), g' (tg (S t))) (su (tg (S t)), mu (tg (S t))) else (su (tg (S t)), mu (tg (S t)))) else (g c, g' c) := by
      intro c hc
      rw [ac_s, hF]
      simp only [apl]
      rw [hg, hu]
      split
      · rfl
      · exact (h3 c hc).symm
    rcases (show S t 5 = 0 ∨ S t 5 = 1 by omega) with w | w
    · refine ⟨(nI (t + 1), vp_updL g (tg (S t)) (su (tg (S t))), vp_updL g' (tg (S t)) (mu (tg (S t)))), fun k => ?_, by omega, rfl, fun c hc => ?_⟩
      · unfold f_X1_bringDown_g_l3
        dsimp only
        rw [if_neg (by rw [nlt (by omega) (by omega)]; omega), b_isAdded fu hC htN, Option.bind_some, htar, Option.bind_some, Option.bind_some, b_putDownL fu _ g g' su mu htl, Option.bind_some, nsucc, w, if_pos (show nI 0 = (0 : Int32) from rfl)]
      · rw [hfin c hc, w]
        simp only [vp_updL]
        split <;> simp
    · refine ⟨(nI (t + 1), vp_updL g (tg (S t)) (g (tg (S t)) ||| su (tg (S t))), vp_updL g' (tg (S t)) (g' (tg (S t)) ||| (mu (tg (S t)) ||| (g (tg (S t)) &&& su (tg (S t)))))), fun k => ?_, by omega, rfl, fun c hc => ?_⟩
      · unfold f_X1_bringDown_g_l3
        dsimp only
        rw [if_neg (by rw [nlt (by omega) (by omega)]; omega), b_isAdded fu hC htN, Option.bind_some, htar, Option.bind_some, Option.bind_some, b_addDownL fu _ g g' su mu htl, Option.bind_some, nsucc, w, if_neg (show ¬ nI 1 = (0 : Int32) by decide)]
      · rw [hfin c hc, w]
        simp only [vp_updL]
        split
        · rfl
        · rfl) (by
    rintro ⟨x, g, g'⟩ ⟨h1, h2, h3⟩
    dsimp only at h2 h3
    subst h2
    refine ⟨(g, g'), fun k => ?_, h3⟩
    unfold f_X1_bringDown_g_l3
    dsimp only
    rw [if_pos (by rw [nlt (by omega) (by omega)]; omega)]) (i + 1 - b) b (nI b, so, mo) fu (by omega) (by omega) ⟨Nat.le_refl b, rfl, hen⟩
  exact ⟨(r.1, r.2), by simp only [f_X1_bringDown_g, h1, Option.bind_some], h2⟩
theorem b_follow_g (fu : Nat) (hfu : 1200 < fu) (hC : ZPc N S pp ps) (hS : ZSo N S) (hcp : ZCp N S) (so mo su mu : Nat → Int64) (f0 : Nat → Int64 × Int64) (h0 : ∀ c, c < 256 → (so c, mo c) = f0 c) : ∃ r, f_X1_follow_g fu pp ps so mo su mu = some r ∧ ∀ c, c < 256 → (r.1 c, r.2.1 c) = (ac adL S f0 N).2 c := by
  obtain ⟨hN, hps, hCi⟩ := id hC
  have hok : ∀ i, i < N → sok (S i) := fun i hi => (hCi i hi).1
  obtain ⟨r, h1, h2⟩ := lp_run (f_X1_follow_g_l4 fu pp ps) N (fun i s => ∃ b, b ≤ i ∧ s.1 = nI b ∧ s.2.1 = nI i ∧ (i = N → b = N) ∧ (∀ t, b ≤ t → t < i → S t 0 = S (t + 1) 0) ∧ (b < N → (ac adL S f0 b).1 = (ac adL S f0 b).2) ∧ (∀ c, c < 256 → (s.2.2.1 c, s.2.2.2.1 c) = (ac adL S f0 b).2 c) ∧ ∀ t, b ≤ t → t < i → (s.2.2.2.2.1 (tg (S t)), s.2.2.2.2.2 (tg (S t))) = (ac adL S f0 b).1 (sc (S t))) (fun r => ∀ c, c < 256 → (r.1 c, r.2.1 c) = (ac adL S f0 N).2 c) (by
    rintro i ⟨x, y, g, g', u, u'⟩ hi ⟨b, hb, h1, h2, -, h4, h5, h6, h7⟩
    dsimp only at h1 h2 h6 h7
    subst h1 h2
    left
    have hsc := sc_lt (hok i hi)
    have htg := tg_lt (hok i hi)
    have htar : f_X4_target fu pp ps (nI i) = some (nI (tg (S i))) := b_target fu hC hi
    have hsrc : f_X4_source fu pp ps (nI i) = some (nI (sc (S i))) := b_source fu hC hi
    have hbd := h5 (by omega)
    have hun : ∀ t, b ≤ t → t ≤ i → (vp_updL u (tg (S i)) (g (sc (S i))) (tg (S t)), vp_updL u' (tg (S i)) (g' (sc (S i))) (tg (S t))) = (ac adL S f0 b).1 (sc (S t)) := by
      intro t ht1 ht2
      simp only [vp_updL]
      rcases Nat.lt_or_eq_of_le ht2 with q | q
      · rw [if_neg (tg_ne hok hS hcp q hi (blk_eq h4 ht1 (by omega))), if_neg (tg_ne hok hS hcp q hi (blk_eq h4 ht1 (by omega)))]
        exact h7 t ht1 q
      · rw [q, if_pos rfl, if_pos rfl, h6 _ hsc, hbd]
    by_cases e : (i + 1 < N ∧ S i 0 = S (i + 1) 0)
    · refine ⟨(nI b, nI (i + 1), g, g', vp_updL u (tg (S i)) (g (sc (S i))), vp_updL u' (tg (S i)) (g' (sc (S i)))), fun k => ?_, b, by omega, rfl, rfl, fun q => by omega, fun t a c => ?_, h5, h6, fun t a c => hun t a (by omega)⟩
      · unfold f_X1_follow_g_l4
        dsimp only
        rw [f_X4_size, Option.bind_some, hps, if_neg (by rw [nle (by omega) (by omega)]; omega), ← hps, hsrc, Option.bind_some, htar, Option.bind_some, b_takeUpL fu _ _ g g' u u' hsc htg, Option.bind_some, b_endsStep fu hC hi, if_pos e, Option.bind_some, if_pos rfl, nsucc]
      · rcases Nat.lt_succ_iff_lt_or_eq.mp c with q | q
        · exact h4 t a q
        · rw [q]; exact e.2
    · obtain ⟨r, g1, g2⟩ := b_bring_g fu hfu hC hS hcp f0 g g' (vp_updL u (tg (S i)) (g (sc (S i)))) (vp_updL u' (tg (S i)) (g' (sc (S i)))) hb hi h4 hbd h6 hun
      refine ⟨(nI (i + 1), nI (i + 1), r.1, r.2, vp_updL u (tg (S i)) (g (sc (S i))), vp_updL u' (tg (S i)) (g' (sc (S i)))), fun k => ?_, i + 1, by omega, rfl, rfl, fun q => q, fun t a c => by omega, fun q => ?_, g2, fun t a c => by omega⟩
      · unfold f_X1_follow_g_l4
        simp only [vn]
        rw [f_X4_size, Option.bind_some, hps, if_neg (by rw [nle (by omega) (by omega)]; omega), ← hps, hsrc, Option.bind_some, htar, Option.bind_some, b_takeUpL fu _ _ g g' u u' hsc htg, Option.bind_some, b_endsStep fu hC hi, if_neg e, Option.bind_some, if_neg n_10.mp, g1, Option.bind_some, nsucc]
      · exact ac_bd _ S f0 (fun z => e ⟨q, z⟩)) (by
    rintro ⟨x, y, g, g', u, u'⟩ ⟨b, hb, h1, h2, h3, h4, h5, h6, h7⟩
    dsimp only at h1 h2 h6 h7
    subst h1 h2
    refine ⟨(g, g', u, u'), fun k => ?_, fun c hc => by show (g c, g' c) = _; rw [h6 c hc, h3 rfl]⟩
    unfold f_X1_follow_g_l4
    dsimp only
    rw [f_X4_size, Option.bind_some, hps, if_pos (by rw [nle (by omega) (by omega)]; omega)]) N 0 (0, 0, so, mo, su, mu) fu (by omega) (by omega) ⟨0, Nat.le_refl 0, rfl, rfl, fun q => q, fun t a c => by omega, fun _ => rfl, h0, fun t a c => by omega⟩
  exact ⟨(r.1, r.2.1, r.2.2.1, r.2.2.2), by simp only [f_X1_follow_g, h1, Option.bind_some], h2⟩
end SG
theorem b_beginS (fu g : Nat) (hfu : 256 < fu) (hg : g < 4) (so mo : Nat → Int64) : ∃ r : (Nat → Int64) × (Nat → Int64), f_X6_begin fu so mo (nI g) = some (r.1, r.2, nI g) ∧ ∀ c, c < 256 → (r.1 c, r.2 c) = (sgn g c, (0 : Int64)) := by
  obtain ⟨r, h1, h2⟩ := lp_run (f_X6_begin_l7 fu (nI g)) 256 (fun i s => s.1 = nI i ∧ ∀ c, c < i → (s.2.1 c, s.2.2 c) = (sgn g c, (0 : Int64))) (fun r => ∀ c, c < 256 → (r.1 c, r.2 c) = (sgn g c, (0 : Int64))) (by
    rintro i ⟨x, u, v⟩ hi ⟨h1, h2⟩
    dsimp only at h1 h2
    subst h1
    refine Or.inl ⟨(nI (i + 1), vp_updL u i (sgn g i), vp_updL v i 0), fun k => ?_, rfl, fun c hc => ?_⟩
    · unfold f_X6_begin_l7
      dsimp only
      rw [b_signOf fu g i hg hi]
      simp (disch := omega) only [nlt0, nle, nlt, neqI, ncl, nadd, nmul, nm1, nm1', nsucc, n_eq0, n_eq0', n_eq1, n_le0, n_0lt, n_0le, n_1le, n_le1, n_01, n_10, nsubI, nsub1, naddm1, ofNat_nI, zl2, zl3, zl4, zl5, zl6, zl7, zl8, zl9, zl13, zl15, zl16, zl17, zl31, zl63, zl64, zl100, zl256, zl1000, zl1200, zl7200, zl65536, zl100000, if_true, if_false, or_false, false_or, true_or, or_true, and_true, true_and, false_and, and_false, not_true_eq_false, not_false_eq_true, if_pos, if_neg, Option.bind_some, Option.bind_none, vn, reduceCtorEq]
    · simp only [vp_updL]
      by_cases e : c = i
      · rw [if_pos e, if_pos e, e]
      · rw [if_neg e, if_neg e]; exact h2 c (by omega)) (by
    rintro ⟨x, u, v⟩ ⟨h1, h2⟩
    dsimp only at h1 h2
    subst h1
    exact ⟨(u, v), fun k => by simp (disch := omega) only [f_X6_begin_l7, nlt0, nle, nlt, neqI, ncl, nadd, nmul, nm1, nm1', nsucc, n_eq0, n_eq0', n_eq1, n_le0, n_0lt, n_0le, n_1le, n_le1, n_01, n_10, nsubI, nsub1, naddm1, ofNat_nI, zl2, zl3, zl4, zl5, zl6, zl7, zl8, zl9, zl13, zl15, zl16, zl17, zl31, zl63, zl64, zl100, zl256, zl1000, zl1200, zl7200, zl65536, zl100000, if_true, if_false, or_false, false_or, true_or, or_true, and_true, true_and, false_and, and_false, not_true_eq_false, not_false_eq_true, if_pos, if_neg, Option.bind_some, Option.bind_none, vn, reduceCtorEq], h2⟩) 256 0 (0, so, mo) fu (by omega) (by omega) ⟨rfl, fun c hc => by omega⟩
  exact ⟨r, by simp only [f_X6_begin, h1, Option.bind_some], h2⟩
