/-! what a plan does to the blocks, step by step; run -/
def tg (s : Nat → Nat) : Nat := 16 * s 2 + s 4
def sc (s : Nat → Nat) : Nat := 16 * s 1 + s 3
theorem tg_lt {s : Nat → Nat} (h : sok s) : tg s < 256 := by
  obtain ⟨h0, h1, h2, h3, h4, h5⟩ := h
  unfold tg; omega
theorem sc_lt {s : Nat → Nat} (h : sok s) : sc s < 256 := by
  obtain ⟨h0, h1, h2, h3, h4, h5⟩ := h
  unfold sc; omega
section AC
variable {β : Type} (ad : β → β → β) (S : Nat → Nat → Nat) (f0 : Nat → β)
def apl (s : Nat → Nat) (F G : Nat → β) : Nat → β := fun c => if c = tg s then (if s 5 = 1 then ad (F (tg s)) (F (sc s)) else F (sc s)) else G c
def ac : Nat → (Nat → β) × (Nat → β)
  | 0 => (f0, f0)
  | i + 1 => (if S i 0 = S (i + 1) 0 then (ac i).1 else apl ad (S i) (ac i).1 (ac i).2, apl ad (S i) (ac i).1 (ac i).2)
theorem ac_s (i : Nat) : (ac ad S f0 (i + 1)).2 = apl ad (S i) (ac ad S f0 i).1 (ac ad S f0 i).2 := rfl
theorem ac_in {b : Nat} : ∀ {i : Nat}, b ≤ i → (∀ t, b ≤ t → t < i → S t 0 = S (t + 1) 0) → (ac ad S f0 i).1 = (ac ad S f0 b).1
  | 0, h, _ => by rw [Nat.le_zero.mp h]
  | i + 1, h, ht => by
    rcases Nat.lt_or_eq_of_le h with q | q
    · rw [← ac_in (b := b) (i := i) (by omega) (fun t h1 h2 => ht t h1 (by omega))]
      show (if S i 0 = S (i + 1) 0 then _ else _) = _
      rw [if_pos (ht i (by omega) (by omega))]
    · rw [q]
theorem ac_bd {i : Nat} (h : S i 0 ≠ S (i + 1) 0) : (ac ad S f0 (i + 1)).1 = (ac ad S f0 (i + 1)).2 := by
  show (if S i 0 = S (i + 1) 0 then _ else _) = _
  rw [if_neg h, ac_s]
theorem ac_keep {b c : Nat} (hb : (ac ad S f0 b).1 = (ac ad S f0 b).2) : ∀ {i : Nat}, b ≤ i → (∀ t, b ≤ t → t < i → tg (S t) ≠ c) → (ac ad S f0 i).2 c = (ac ad S f0 b).1 c
  | 0, h, _ => by rw [Nat.le_zero.mp h] at hb ⊢; rw [hb]
  | i + 1, h, ht => by
    rcases Nat.lt_or_eq_of_le h with q | q
    · rw [ac_s]
      unfold apl
      rw [if_neg (fun e => ht i (by omega) (by omega) e.symm)]
      exact ac_keep hb (by omega) (fun t h1 h2 => ht t h1 (by omega))
    · rw [← q, hb]
end AC
theorem tg_ne {N : Nat} {S : Nat → Nat → Nat} (hok : ∀ i, i < N → sok (S i)) (hS : ZSo N S) (hcp : ZCp N S) {i j : Nat} (hij : i < j) (hj : j < N) (he : S i 0 = S j 0) : tg (S i) ≠ tg (S j) := by
  intro q
  obtain ⟨h0, h1, h2, h3, h4, h5⟩ := hok i (by omega)
  obtain ⟨g0, g1, g2, g3, g4, g5⟩ := hok j hj
  have q2 : S i 2 = S j 2 ∧ S i 4 = S j 4 := by unfold tg at q; omega
  have q1 := (hcp i j (by omega) hj he).mpr q2.1
  have := hS i j hij hj
  unfold key at this
  omega
theorem blk_eq {S : Nat → Nat → Nat} {b i : Nat} (h : ∀ t, b ≤ t → t < i → S t 0 = S (t + 1) 0) : ∀ {t : Nat}, b ≤ t → t ≤ i → S t 0 = S i 0 := by
  intro t h1 h2
  induction i with
  | zero => rw [Nat.le_zero.mp h2]
  | succ i ih =>
    rcases Nat.lt_or_eq_of_le h2 with q | q
    · rw [ih (fun t a b => h t a (by omega)) (by omega)]; exact h i (by omega) (by omega)
    · rw [q]
section RUN
variable {N : Nat} {S : Nat → Nat → Nat} {pp : Nat → Int32} {ps : Int32}
theorem b_takeUp (fu a b : Nat) (en un : Nat → Int32) (ha : a < 256) (hb : b < 256) : f_X2_takeUp fu en un (nI a) (nI b) = some (upd un b (en a)) := by
  unfold f_X2_takeUp
  rw [b_isCell, b_isCell, hx_nI (by omega), hx_nI (by omega), decide_eq_true ha, decide_eq_true hb]
  simp (disch := omega) only [nlt0, nle, nlt, neqI, ncl, nadd, nmul, nm1, nm1', nsucc, n_eq0, n_eq0', n_eq1, n_le0, n_0lt, n_0le, n_1le, n_le1, n_01, n_10, nsubI, nsub1, naddm1, ofNat_nI, zl2, zl3, zl4, zl5, zl6, zl7, zl8, zl9, zl13, zl15, zl16, zl17, zl31, zl63, zl64, zl100, zl256, zl1000, zl1200, zl7200, zl65536, zl100000, if_true, if_false, or_false, false_or, true_or, or_true, and_true, true_and, false_and, and_false, not_true_eq_false, not_false_eq_true, if_pos, if_neg, Option.bind_some, Option.bind_none, vn, reduceCtorEq]
theorem b_putDown (fu a : Nat) (en un : Nat → Int32) (ha : a < 256) : f_X2_putDown fu en un (nI a) = some (upd en a (un a)) := by
  unfold f_X2_putDown
  rw [b_isCell, hx_nI (by omega), decide_eq_true ha]
  simp (disch := omega) only [nlt0, nle, nlt, neqI, ncl, nadd, nmul, nm1, nm1', nsucc, n_eq0, n_eq0', n_eq1, n_le0, n_0lt, n_0le, n_1le, n_le1, n_01, n_10, nsubI, nsub1, naddm1, ofNat_nI, zl2, zl3, zl4, zl5, zl6, zl7, zl8, zl9, zl13, zl15, zl16, zl17, zl31, zl63, zl64, zl100, zl256, zl1000, zl1200, zl7200, zl65536, zl100000, if_true, if_false, or_false, false_or, true_or, or_true, and_true, true_and, false_and, and_false, not_true_eq_false, not_false_eq_true, if_pos, if_neg, Option.bind_some, Option.bind_none, vn, reduceCtorEq]
theorem b_addDown (fu a : Nat) (en un : Nat → Int32) (ha : a < 256) : f_X2_addDown fu en un (nI a) = some (upd en a (en a + un a)) := by
  unfold f_X2_addDown
  rw [b_isCell, hx_nI (by omega), decide_eq_true ha]
  simp (disch := omega) only [nlt0, nle, nlt, neqI, ncl, nadd, nmul, nm1, nm1', nsucc, n_eq0, n_eq0', n_eq1, n_le0, n_0lt, n_0le, n_1le, n_le1, n_01, n_10, nsubI, nsub1, naddm1, ofNat_nI, zl2, zl3, zl4, zl5, zl6, zl7, zl8, zl9, zl13, zl15, zl16, zl17, zl31, zl63, zl64, zl100, zl256, zl1000, zl1200, zl7200, zl65536, zl100000, if_true, if_false, or_false, false_or, true_or, or_true, and_true, true_and, false_and, and_false, not_true_eq_false, not_false_eq_true, if_pos, if_neg, Option.bind_some, Option.bind_none, vn, reduceCtorEq]
theorem b_bring_e (fu : Nat) (hfu : 1200 < fu) (hC : ZPc N S pp ps) (hS : ZSo N S) (hcp : ZCp N S) (f0 en un : Nat → Int32) {b i : Nat} (hb : b ≤ i) (hi : i < N) (hblk : ∀ t, b ≤ t → t < i → S t 0 = S (t + 1) 0) (hbd : (ac (· + ·) S f0 b).1 = (ac (· + ·) S f0 b).2) (hen : ∀ c, c < 256 → en c = (ac (· + ·) S f0 b).2 c) (hun : ∀ t, b ≤ t → t ≤ i → un (tg (S t)) = (ac (· + ·) S f0 b).1 (sc (S t))) :
    ∃ r, f_X1_bringDown_e fu pp ps en un (nI b) (nI i) = some r ∧ ∀ c, c < 256 → r c = (ac (· + ·) S f0 (i + 1)).2 c := by
  obtain ⟨hN, hps, hCi⟩ := id hC
  have hok : ∀ i, i < N → sok (S i) := fun i hi => (hCi i hi).1
  obtain ⟨r, h1, h2⟩ := lp_run (f_X1_bringDown_e_l3 fu pp ps un (nI i)) (i + 1) (fun t s => b ≤ t ∧ s.1 = nI t ∧ ∀ c, c < 256 → s.2 c = (ac (· + ·) S f0 t).2 c) (fun r => ∀ c, c < 256 → r c = (ac (· + ·) S f0 (i + 1)).2 c) (by
    rintro t ⟨x, g⟩ ht ⟨h1, h2, h3⟩
    dsimp only at h2 h3
    subst h2
    left
    have htN : t < N := by omega
    have hF : (ac (· + ·) S f0 t).1 = (ac (· + ·) S f0 b).1 := ac_in _ S f0 h1 (fun u a c => hblk u a (by omega))
    have htl := tg_lt (hok t htN)
    have hkeep : (ac (· + ·) S f0 t).2 (tg (S t)) = (ac (· + ·) S f0 b).1 (tg (S t)) := ac_keep _ S f0 hbd h1 (fun u a c => tg_ne hok hS hcp c htN (by rw [blk_eq hblk a (by omega), blk_eq hblk h1 (by omega)]))
    have h5 := (hok t htN).2.2.2.2.2
    have htar := b_target fu hC htN
    have htar' : f_X4_target fu pp ps (nI t) = some (nI (tg (S t))) := htar
    refine ⟨(nI (t + 1), apl (· + ·) (S t) (ac (· + ·) S f0 b).1 g), fun k => ?_, by omega, rfl, fun c hc => ?_⟩
    · unfold f_X1_bringDown_e_l3
      dsimp only
      rw [if_neg (by rw [nlt (by omega) (by omega)]; omega), b_isAdded fu hC htN, Option.bind_some, htar', Option.bind_some, Option.bind_some, b_putDown fu _ g un htl, b_addDown fu _ g un htl, Option.bind_some, Option.bind_some, nsucc]
      rw [hun t h1 (by omega), h3 _ htl, hkeep]
      rcases (show S t 5 = 0 ∨ S t 5 = 1 by omega) with w | w
      · rw [w, if_pos (show nI 0 = (0 : Int32) from rfl)]
        congr 2
        funext c
        simp only [apl, upd, w]
        split <;> simp
      · rw [w, if_neg (show ¬ nI 1 = (0 : Int32) by decide)]
        congr 2
        funext c
        simp only [apl, upd, w]
        split <;> simp
    · show apl (· + ·) (S t) (ac (· + ·) S f0 b).1 g c = _
      rw [ac_s, hF]
      simp only [apl]
      split
      · rfl
      · exact h3 c hc) (by
    rintro ⟨x, g⟩ ⟨h1, h2, h3⟩
    dsimp only at h2 h3
    subst h2
    refine ⟨g, fun k => ?_, h3⟩
    unfold f_X1_bringDown_e_l3
    dsimp only
    rw [if_pos (by rw [nlt (by omega) (by omega)]; omega)]) (i + 1 - b) b (nI b, en) fu (by omega) (by omega) ⟨Nat.le_refl b, rfl, hen⟩
  exact ⟨r, by simp only [f_X1_bringDown_e, h1, Option.bind_some], h2⟩
theorem b_follow_e (fu : Nat) (hfu : 1200 < fu) (hC : ZPc N S pp ps) (hS : ZSo N S) (hcp : ZCp N S) (en un : Nat → Int32) : ∃ r, f_X1_follow_e fu pp ps en un = some r ∧ ∀ c, c < 256 → r.1 c = (ac (· + ·) S en N).2 c := by
  obtain ⟨hN, hps, hCi⟩ := id hC
  have hok : ∀ i, i < N → sok (S i) := fun i hi => (hCi i hi).1
  obtain ⟨r, h1, h2⟩ := lp_run (f_X1_follow_e_l4 fu pp ps) N (fun i s => ∃ b, b ≤ i ∧ s.1 = nI b ∧ s.2.1 = nI i ∧ (i = N → b = N) ∧ (∀ t, b ≤ t → t < i → S t 0 = S (t + 1) 0) ∧ (b < N → (ac (· + ·) S en b).1 = (ac (· + ·) S en b).2) ∧ (∀ c, c < 256 → s.2.2.1 c = (ac (· + ·) S en b).2 c) ∧ ∀ t, b ≤ t → t < i → s.2.2.2 (tg (S t)) = (ac (· + ·) S en b).1 (sc (S t))) (fun r => ∀ c, c < 256 → r.1 c = (ac (· + ·) S en N).2 c) (by
    rintro i ⟨x, y, g, u⟩ hi ⟨b, hb, h1, h2, -, h4, h5, h6, h7⟩
    dsimp only at h1 h2 h6 h7
    subst h1 h2
    left
    have hsc := sc_lt (hok i hi)
    have htg := tg_lt (hok i hi)
    have htar : f_X4_target fu pp ps (nI i) = some (nI (tg (S i))) := b_target fu hC hi
    have hsrc : f_X4_source fu pp ps (nI i) = some (nI (sc (S i))) := b_source fu hC hi
    have hbd := h5 (by omega)
    have hun : ∀ t, b ≤ t → t ≤ i → upd u (tg (S i)) (g (sc (S i))) (tg (S t)) = (ac (· + ·) S en b).1 (sc (S t)) := by
      intro t ht1 ht2
      simp only [upd]
      rcases Nat.lt_or_eq_of_le ht2 with q | q
      · rw [if_neg (tg_ne hok hS hcp q hi (blk_eq h4 ht1 (by omega)))]
        exact h7 t ht1 q
      · rw [q, if_pos rfl, h6 _ hsc, hbd]
    by_cases e : (i + 1 < N ∧ S i 0 = S (i + 1) 0)
    · refine ⟨(nI b, nI (i + 1), g, upd u (tg (S i)) (g (sc (S i)))), fun k => ?_, b, by omega, rfl, rfl, fun q => by omega, fun t a c => ?_, h5, h6, fun t a c => hun t a (by omega)⟩
      · unfold f_X1_follow_e_l4
        dsimp only
        rw [f_X4_size, Option.bind_some, hps, if_neg (by rw [nle (by omega) (by omega)]; omega), ← hps, hsrc, Option.bind_some, htar, Option.bind_some, b_takeUp fu _ _ g u hsc htg, Option.bind_some, b_endsStep fu hC hi, if_pos e, Option.bind_some, if_pos rfl, nsucc]
      · rcases Nat.lt_succ_iff_lt_or_eq.mp c with q | q
        · exact h4 t a q
        · rw [q]; exact e.2
    · obtain ⟨r, g1, g2⟩ := b_bring_e fu hfu hC hS hcp en g (upd u (tg (S i)) (g (sc (S i)))) hb hi h4 hbd h6 hun
      refine ⟨(nI (i + 1), nI (i + 1), r, upd u (tg (S i)) (g (sc (S i)))), fun k => ?_, i + 1, by omega, rfl, rfl, fun q => q, fun t a c => by omega, fun q => ?_, g2, fun t a c => by omega⟩
      · unfold f_X1_follow_e_l4
        simp only [vn]
        rw [f_X4_size, Option.bind_some, hps, if_neg (by rw [nle (by omega) (by omega)]; omega), ← hps, hsrc, Option.bind_some, htar, Option.bind_some, b_takeUp fu _ _ g u hsc htg, Option.bind_some, b_endsStep fu hC hi, if_neg e, Option.bind_some, if_neg n_10.mp, g1, Option.bind_some, nsucc]
      · exact ac_bd _ S en (fun z => e ⟨q, z⟩)) (by
    rintro ⟨x, y, g, u⟩ ⟨b, hb, h1, h2, h3, h4, h5, h6, h7⟩
    dsimp only at h1 h2 h6 h7
    subst h1 h2
    refine ⟨(g, u), fun k => ?_, fun c hc => by show g c = _; rw [h6 c hc, h3 rfl]⟩
    unfold f_X1_follow_e_l4
    dsimp only
    rw [f_X4_size, Option.bind_some, hps, if_pos (by rw [nle (by omega) (by omega)]; omega)]) N 0 (0, 0, en, un) fu (by omega) (by omega) ⟨0, Nat.le_refl 0, rfl, rfl, fun q => q, fun t a c => by omega, fun _ => rfl, fun c _ => rfl, fun t a c => by omega⟩
  exact ⟨(r.1, r.2), by simp only [f_X1_follow_e, h1, Option.bind_some], h2⟩
end RUN
theorem m_copy256 (fu : Nat) (hfu : 256 < fu) (mb mt : Nat → Int32) : ∃ r, lp (f_X9_run_l27 fu mb) fu (0, mt) = some r ∧ ∀ c, c < 256 → r c = mb c := by
  refine lp_run (f_X9_run_l27 fu mb) 256 (fun i s => s.1 = nI i ∧ ∀ c, c < i → s.2 c = mb c) (fun r => ∀ c, c < 256 → r c = mb c) ?_ ?_ 256 0 (0, mt) fu (by omega) (by omega) ⟨rfl, fun c hc => by omega⟩
  · rintro i ⟨x, g⟩ hi ⟨h1, h2⟩
    dsimp only at h1 h2
    subst h1
    refine Or.inl ⟨(nI (i + 1), upd g i (mb i)), fun k => ?_, rfl, fun c hc => ?_⟩
    · simp (disch := omega) only [f_X9_run_l27, nlt0, nle, nlt, neqI, ncl, nadd, nmul, nm1, nm1', nsucc, n_eq0, n_eq0', n_eq1, n_le0, n_0lt, n_0le, n_1le, n_le1, n_01, n_10, nsubI, nsub1, naddm1, ofNat_nI, zl2, zl3, zl4, zl5, zl6, zl7, zl8, zl9, zl13, zl15, zl16, zl17, zl31, zl63, zl64, zl100, zl256, zl1000, zl1200, zl7200, zl65536, zl100000, if_true, if_false, or_false, false_or, true_or, or_true, and_true, true_and, false_and, and_false, not_true_eq_false, not_false_eq_true, if_pos, if_neg, Option.bind_some, Option.bind_none, vn, reduceCtorEq]
    · simp only [upd]
      by_cases e : c = i
      · rw [if_pos e, e]
      · rw [if_neg e]; exact h2 c (by omega)
  · rintro ⟨x, g⟩ ⟨h1, h2⟩
    dsimp only at h1 h2
    subst h1
    exact ⟨g, fun k => by simp (disch := omega) only [f_X9_run_l27, nlt0, nle, nlt, neqI, ncl, nadd, nmul, nm1, nm1', nsucc, n_eq0, n_eq0', n_eq1, n_le0, n_0lt, n_0le, n_1le, n_le1, n_01, n_10, nsubI, nsub1, naddm1, ofNat_nI, zl2, zl3, zl4, zl5, zl6, zl7, zl8, zl9, zl13, zl15, zl16, zl17, zl31, zl63, zl64, zl100, zl256, zl1000, zl1200, zl7200, zl65536, zl100000, if_true, if_false, or_false, false_or, true_or, or_true, and_true, true_and, false_and, and_false, not_true_eq_false, not_false_eq_true, if_pos, if_neg, Option.bind_some, Option.bind_none, vn, reduceCtorEq], h2⟩
theorem m_run (fu N : Nat) (S : Nat → Nat → Nat) (se : Nat → Int32) (mm : Int32) (hfu : 1200 < fu) (hN : N ≤ 1200) (hok : ∀ i, i < N → sok (S i)) (h : ZPm N S se mm) (mb mt : Nat → Int32) : ∃ r, lp (f_X9_run_l7 fu se mm) fu (0, mb, mt) = some r ∧ ∀ c, c < 256 → r.1 c = (ac (· + ·) S mb N).2 c := by
  obtain ⟨rfl, h⟩ := h
  refine lp_meas (f_X9_run_l7 fu se (nI N)) (fun s => N - s.1.toNatClampNeg) (fun s => ∃ b, b ≤ N ∧ s.1 = nI b ∧ (b < N → (ac (· + ·) S mb b).1 = (ac (· + ·) S mb b).2) ∧ ∀ c, c < 256 → s.2.1 c = (ac (· + ·) S mb b).2 c) (fun r => ∀ c, c < 256 → r.1 c = (ac (· + ·) S mb N).2 c) ?_ N (0, mb, mt) fu (by show N - _ ≤ N; omega) (by omega) ⟨0, by omega, rfl, fun _ => rfl, fun c _ => rfl⟩
  rintro ⟨x, g, u⟩ ⟨b, hb, h1, h2, h3⟩
  dsimp only at h1 h3
  subst h1
  by_cases e : b = N
  · right
    refine ⟨(g, u), fun k => ?_, fun c hc => by show g c = _; rw [h3 c hc, e]⟩
    unfold f_X9_run_l7
    dsimp only
    rw [if_pos (by rw [nle (by omega) (by omega)]; omega)]
  · left
    have hbN : b < N := by omega
    have hbd := h2 hbN
    obtain ⟨r3, c1, c2⟩ := m_copy256 fu (by omega) g u
    have a0 := h b hbN 0 (by omega)
    rw [Nat.add_zero] at a0
    obtain ⟨r4, d1, d2⟩ := lp_meas (f_X9_run_l52 fu se (nI N) r3 (nI (S b 0))) (fun s => N - s.1.toNatClampNeg) (fun s => ∃ i, b ≤ i ∧ i ≤ N ∧ s.1 = nI i ∧ (∀ t, b ≤ t → t < i → S t 0 = S b 0) ∧ ∀ c, c < 256 → s.2 c = (ac (· + ·) S mb i).2 c) (fun r => ∃ i, b < i ∧ i ≤ N ∧ r.1 = nI i ∧ (i < N → (ac (· + ·) S mb i).1 = (ac (· + ·) S mb i).2) ∧ ∀ c, c < 256 → r.2 c = (ac (· + ·) S mb i).2 c) (by
      rintro ⟨x, w⟩ ⟨i, hbi, hiN, h1, h4, h5⟩
      dsimp only at h1 h5
      subst h1
      by_cases ei : i = N
      · right
        refine ⟨(nI i, w), fun k => ?_, i, by omega, hiN, rfl, fun q => by omega, h5⟩
        unfold f_X9_run_l52
        dsimp only
        rw [if_pos (by rw [nle (by omega) (by omega)]; omega)]
      · have hi : i < N := by omega
        have i0' := h i hi 0 (by omega)
        rw [Nat.add_zero] at i0'
        have hsi := hok i hi
        obtain ⟨s0, s1, s2, s3, s4, s5⟩ := id hsi
        have sb0 := (hok b hbN).1
        by_cases es : S i 0 = S b 0
        · left
          have hblk : ∀ t, b ≤ t → t < i → S t 0 = S (t + 1) 0 := fun t a c => by
            rw [h4 t a c]
            rcases Nat.lt_or_eq_of_le (show t + 1 ≤ i by omega) with q | q
            · rw [h4 (t + 1) (by omega) q]
            · rw [q, es]
          have hF : (ac (· + ·) S mb i).1 = (ac (· + ·) S mb b).1 := ac_in _ S mb hbi hblk
          have htg := tg_lt hsi
          have hsc := sc_lt hsi
          have hr3 : ∀ c, c < 256 → r3 c = (ac (· + ·) S mb i).1 c := fun c hc => by rw [c2 c hc, h3 c hc, hF, hbd]
          refine ⟨(nI (i + 1), upd w (tg (S i)) (if S i 5 = 1 then r3 (tg (S i)) + r3 (sc (S i)) else r3 (sc (S i)))), fun k => ?_, ⟨i + 1, by omega, by omega, rfl, fun t a c => ?_, fun c hc => ?_⟩, ?_⟩
          · by_cases e5 : S i 5 = 1
            · simp (disch := omega) only [f_X9_run_l52, nlt0, nle, nlt, neqI, ncl, nadd, nmul, nm1, nm1', nsucc, n_eq0, n_eq0', n_eq1, n_le0, n_0lt, n_0le, n_1le, n_le1, n_01, n_10, nsubI, nsub1, naddm1, ofNat_nI, zl2, zl3, zl4, zl5, zl6, zl7, zl8, zl9, zl13, zl15, zl16, zl17, zl31, zl63, zl64, zl100, zl256, zl1000, zl1200, zl7200, zl65536, zl100000, if_true, if_false, or_false, false_or, true_or, or_true, and_true, true_and, false_and, and_false, not_true_eq_false, not_false_eq_true, if_pos, if_neg, Option.bind_some, Option.bind_none, vn, reduceCtorEq, i0', h i hi 1 (by omega), h i hi 2 (by omega), h i hi 3 (by omega), h i hi 4 (by omega), h i hi 5 (by omega), es, e5, tg, sc]
            · simp (disch := omega) only [f_X9_run_l52, nlt0, nle, nlt, neqI, ncl, nadd, nmul, nm1, nm1', nsucc, n_eq0, n_eq0', n_eq1, n_le0, n_0lt, n_0le, n_1le, n_le1, n_01, n_10, nsubI, nsub1, naddm1, ofNat_nI, zl2, zl3, zl4, zl5, zl6, zl7, zl8, zl9, zl13, zl15, zl16, zl17, zl31, zl63, zl64, zl100, zl256, zl1000, zl1200, zl7200, zl65536, zl100000, if_true, if_false, or_false, false_or, true_or, or_true, and_true, true_and, false_and, and_false, not_true_eq_false, not_false_eq_true, if_pos, if_neg, Option.bind_some, Option.bind_none, vn, reduceCtorEq, i0', h i hi 1 (by omega), h i hi 2 (by omega), h i hi 3 (by omega), h i hi 4 (by omega), h i hi 5 (by omega), es, e5, tg, sc]
          · rcases Nat.lt_succ_iff_lt_or_eq.mp c with q | q
            · exact h4 t a q
            · rw [q]; exact es
          · rw [ac_s]
            simp only [apl, upd]
            by_cases ec : c = tg (S i)
            · rw [if_pos ec, if_pos ec, hr3 _ htg, hr3 _ hsc]
            · rw [if_neg ec, if_neg ec]; exact h5 c hc
          · show N - (nI (i + 1)).toNatClampNeg < N - (nI i).toNatClampNeg
            rw [ncl (by omega), ncl (by omega)]; omega
        · right
          have hlt : b < i := by
            rcases Nat.lt_or_eq_of_le hbi with q | q
            · exact q
            · exact absurd (by rw [← q]) es
          refine ⟨(nI i, w), fun k => ?_, i, hlt, hiN, rfl, fun _ => ?_, h5⟩
          · simp (disch := omega) only [f_X9_run_l52, nlt0, nle, nlt, neqI, ncl, nadd, nmul, nm1, nm1', nsucc, n_eq0, n_eq0', n_eq1, n_le0, n_0lt, n_0le, n_1le, n_le1, n_01, n_10, nsubI, nsub1, naddm1, ofNat_nI, zl2, zl3, zl4, zl5, zl6, zl7, zl8, zl9, zl13, zl15, zl16, zl17, zl31, zl63, zl64, zl100, zl256, zl1000, zl1200, zl7200, zl65536, zl100000, if_true, if_false, or_false, false_or, true_or, or_true, and_true, true_and, false_and, and_false, not_true_eq_false, not_false_eq_true, if_pos, if_neg, Option.bind_some, Option.bind_none, vn, reduceCtorEq, i0', es]
          · obtain ⟨j, rfl⟩ : ∃ j, i = j + 1 := ⟨i - 1, by omega⟩
            exact ac_bd _ S mb (fun z => es (by rw [← z]; exact h4 j (by omega) (by omega)))) N (nI b, g) fu (by show N - _ ≤ N; omega) (by omega) ⟨b, Nat.le_refl b, hb, rfl, fun t a c => by omega, h3⟩
    obtain ⟨i, hi1, hi2, hi3, hi4, hi5⟩ := d2
    refine ⟨(r4.1, r4.2, r3), fun k => ?_, ⟨i, hi2, hi3, hi4, hi5⟩, ?_⟩
    · unfold f_X9_run_l7
      simp only [vn]
      rw [if_neg (by rw [nle (by omega) (by omega)]; omega), zl6, nmul, if_neg (nI_in (by omega) (by omega)), ncl (by omega), a0, c1, Option.bind_some, d1, Option.bind_some]
    · show N - r4.1.toNatClampNeg < N - (nI b).toNatClampNeg
      rw [hi3, ncl (by omega), ncl (by omega)]; omega
theorem ac_cong {β : Type} (ad : β → β → β) {N : Nat} {S : Nat → Nat → Nat} (hok : ∀ i, i < N → sok (S i)) {f g : Nat → β} (h : ∀ c, c < 256 → f c = g c) : ∀ i, i ≤ N → ∀ c, c < 256 → (ac ad S f i).1 c = (ac ad S g i).1 c ∧ (ac ad S f i).2 c = (ac ad S g i).2 c
  | 0, _, c, hc => ⟨h c hc, h c hc⟩
  | i + 1, hi, c, hc => by
    have ih := ac_cong ad hok h i (by omega)
    have e : apl ad (S i) (ac ad S f i).1 (ac ad S f i).2 c = apl ad (S i) (ac ad S g i).1 (ac ad S g i).2 c := by
      simp only [apl]
      rw [(ih _ (tg_lt (hok i (by omega)))).1, (ih _ (sc_lt (hok i (by omega)))).1, (ih c hc).2]
    refine ⟨?_, e⟩
    show (if S i 0 = S (i + 1) 0 then (ac ad S f i).1 else apl ad (S i) (ac ad S f i).1 (ac ad S f i).2) c = (if S i 0 = S (i + 1) 0 then (ac ad S g i).1 else apl ad (S i) (ac ad S g i).1 (ac ad S g i).2) c
    split
    · exact (ih c hc).1
    · exact e
theorem B_run (fu n : Nat) (hfu : 1200 < fu) {lv : Nat → Bool} {mw pp se en mb : Nat → Int32} {ps mm : Int32} (hpl : ZPl n lv mw pp ps se mm) (hhe : ZHe en mb) (un mt : Nat → Int32) :
    ∃ r en' un' mb' mt', ZHe en' mb' ∧ f_X8_run fu pp ps en un = some (r, en', un') ∧ f_X9_run fu mb se mm mt = some (r, mb', 0, mt') := by
  obtain ⟨N, S, hC, hM, hS, hcp, hli⟩ := id hpl
  obtain ⟨hN, hps, hCi⟩ := id hC
  have hok : ∀ i, i < N → sok (S i) := fun i hi => (hCi i hi).1
  obtain ⟨r, h1, h2⟩ := b_follow_e fu hfu hC hS hcp en un
  obtain ⟨r', h3, h4⟩ := m_run fu N S se mm hfu hN hok hM mb mt
  refine ⟨nI (stp S N), r.1, r.2, r'.1, r'.2, fun c hc => ?_, ?_, ?_⟩
  · rw [h2 c hc, h4 c hc]
    exact (ac_cong _ hok hhe N (Nat.le_refl N) c hc).2
  · rw [f_X8_run, h1, b_steps fu hC, stp_so hS hok]; rfl
  · rw [f_X9_run, h3, Option.bind_some, m_stepsOf fu N S se mm hfu hN (fun i hi => (hok i hi).1) hM]; rfl
