/-! steps, letters, count, sent, clear -/
def stp (S : Nat → Nat → Nat) : Nat → Nat
  | 0 => 0
  | n + 1 => if S n 0 + 1 ≤ stp S n then stp S n else S n 0 + 1
theorem stp_le {S : Nat → Nat → Nat} {B : Nat} : ∀ {n : Nat}, (∀ i, i < n → S i 0 < B) → stp S n ≤ B
  | 0, _ => Nat.zero_le _
  | n + 1, h => by
    have h1 := stp_le (n := n) (fun i hi => h i (by omega))
    have h2 := h n (by omega)
    unfold stp
    split <;> omega
theorem so_step {N : Nat} {S : Nat → Nat → Nat} (hS : ZSo N S) (hok : ∀ i, i < N → sok (S i)) {i j : Nat} (hij : i ≤ j) (hj : j < N) : S i 0 * 16 + S i 1 ≤ S j 0 * 16 + S j 1 := by
  rcases Nat.lt_or_eq_of_le hij with q | q
  · have h := hS i j q hj
    obtain ⟨h0, h1, h2, h3, h4, h5⟩ := hok i (by omega)
    obtain ⟨g0, g1, g2, g3, g4, g5⟩ := hok j hj
    unfold key at h; omega
  · rw [q]; exact Nat.le_refl _
theorem stp_so {S : Nat → Nat → Nat} : ∀ {n : Nat}, ZSo n S → (∀ i, i < n → sok (S i)) → stp S n = if n = 0 then 0 else S (n - 1) 0 + 1
  | 0, _, _ => rfl
  | n + 1, hS, hok => by
    have ih := stp_so (n := n) (fun i j hij hj => hS i j hij (by omega)) (fun i hi => hok i (by omega))
    unfold stp
    rw [if_neg (by omega : ¬ n + 1 = 0), Nat.add_sub_cancel, ih]
    by_cases e : n = 0
    · subst e; simp
    · rw [if_neg e]
      have h := so_step hS hok (show n - 1 ≤ n by omega) (by omega)
      obtain ⟨h0, h1, h2, h3, h4, h5⟩ := hok (n - 1) (by omega)
      obtain ⟨g0, g1, g2, g3, g4, g5⟩ := hok n (by omega)
      split <;> omega
theorem m_stepsOf (fu N : Nat) (S : Nat → Nat → Nat) (se : Nat → Int32) (mm : Int32) (hfu : 1200 < fu) (hN : N ≤ 1200) (hok : ∀ i, i < N → S i 0 < 64) (h : ZPm N S se mm) : f_X9_stepsOf fu se mm = some (nI (stp S N)) := by
  obtain ⟨rfl, h⟩ := h
  obtain ⟨r, h1, h2⟩ := lp_run (f_X9_stepsOf_l4 fu se (nI N)) N (fun i s => s = (nI (stp S i), nI i)) (fun r => r = nI (stp S N)) (by
    rintro i s hi rfl
    left
    have a0 := h i hi 0 (by omega)
    rw [Nat.add_zero] at a0
    have hb := stp_le (S := S) (B := 64) (n := i) (fun j hj => hok j (by omega))
    have hb2 := hok i hi
    refine ⟨(nI (stp S (i + 1)), nI (i + 1)), fun k => ?_, rfl⟩
    by_cases e : S i 0 + 1 ≤ stp S i <;> simp (disch := omega) only [f_X9_stepsOf_l4, nlt0, nle, nlt, neqI, ncl, nadd, nmul, nm1, nm1', nsucc, n_eq0, n_eq0', n_eq1, n_le0, n_0lt, n_0le, n_1le, n_le1, n_01, n_10, nsubI, nsub1, naddm1, ofNat_nI, zl2, zl3, zl4, zl5, zl6, zl7, zl8, zl9, zl13, zl15, zl16, zl17, zl31, zl63, zl64, zl100, zl256, zl1000, zl1200, zl7200, zl65536, zl100000, if_true, if_false, or_false, false_or, true_or, or_true, and_true, true_and, false_and, and_false, not_true_eq_false, not_false_eq_true, if_pos, if_neg, Option.bind_some, Option.bind_none, vn, reduceCtorEq, a0, stp, e]) (by
    rintro s rfl
    exact ⟨_, fun k => by simp (disch := omega) only [f_X9_stepsOf_l4, nlt0, nle, nlt, neqI, ncl, nadd, nmul, nm1, nm1', nsucc, n_eq0, n_eq0', n_eq1, n_le0, n_0lt, n_0le, n_1le, n_le1, n_01, n_10, nsubI, nsub1, naddm1, ofNat_nI, zl2, zl3, zl4, zl5, zl6, zl7, zl8, zl9, zl13, zl15, zl16, zl17, zl31, zl63, zl64, zl100, zl256, zl1000, zl1200, zl7200, zl65536, zl100000, if_true, if_false, or_false, false_or, true_or, or_true, and_true, true_and, false_and, and_false, not_true_eq_false, not_false_eq_true, if_pos, if_neg, Option.bind_some, Option.bind_none, vn, reduceCtorEq], rfl⟩) N 0 (0, 0) fu (by omega) (by omega) rfl
  simp only [f_X9_stepsOf, h1, h2, Option.bind_some]
def sm2 (S : Nat → Nat → Nat) (i j : Nat) : Prop := S i 0 = S j 0 ∧ S i 1 = S j 1
theorem b_letters (fu N : Nat) (S : Nat → Nat → Nat) (pp : Nat → Int32) (ps : Int32) (hfu : 1200 < fu) (h : ZPc N S pp ps) : f_X4_letters fu pp ps = some (nI (fb_ct (fun i => decide (¬ (i + 1 < N ∧ S i 0 = S (i + 1) 0 ∧ S i 1 = S (i + 1) 1))) N)) := by
  obtain ⟨hN, hps, -⟩ := id h
  obtain ⟨r, h1, h2⟩ := lp_run (f_X4_letters_l4 fu pp ps) N (fun i s => s = (nI (fb_ct (fun i => decide (¬ (i + 1 < N ∧ S i 0 = S (i + 1) 0 ∧ S i 1 = S (i + 1) 1))) i), nI i)) (fun r => r = nI (fb_ct (fun i => decide (¬ (i + 1 < N ∧ S i 0 = S (i + 1) 0 ∧ S i 1 = S (i + 1) 1))) N)) (by
    rintro i s hi rfl
    left
    refine ⟨(nI (fb_ct (fun i => decide (¬ (i + 1 < N ∧ S i 0 = S (i + 1) 0 ∧ S i 1 = S (i + 1) 1))) (i + 1)), nI (i + 1)), fun k => ?_, rfl⟩
    unfold f_X4_letters_l4
    dsimp only
    rw [hps, if_neg (by rw [nle (by omega) (by omega)]; omega), ← hps, b_endsLetter fu h hi, Option.bind_some, fb_ct_succ, nsucc, nsucc]
    by_cases e : (i + 1 < N ∧ S i 0 = S (i + 1) 0 ∧ S i 1 = S (i + 1) 1)
    · rw [if_pos e, if_pos rfl, if_neg (by simp [e])]; rfl
    · rw [if_neg e, if_neg (by decide), if_pos (by simp only [decide_eq_true_eq]; exact e)]) (by
    rintro s rfl
    refine ⟨_, fun k => ?_, rfl⟩
    unfold f_X4_letters_l4
    dsimp only
    rw [hps, if_pos (by rw [nle (by omega) (by omega)]; omega)]) N 0 (0, 0) fu (by omega) (by omega) rfl
  simp only [f_X4_letters, h1, h2, Option.bind_some]
theorem m_letters (fu N : Nat) (S : Nat → Nat → Nat) (se : Nat → Int32) (mm : Int32) (hfu : 1200 < fu) (hN : N ≤ 1200) (hok : ∀ i, i < N → sok (S i)) (h : ZPm N S se mm) : f_X9_letters fu se mm = some (nI (fb_ct (fun i => decide (∀ k, k < i → ¬ (S k 0 = S i 0 ∧ S k 1 = S i 1))) N)) := by
  obtain ⟨rfl, h⟩ := h
  have hin : ∀ i, i < N → ∃ r, lp (f_X9_letters_l17 fu se (nI i)) fu (1, 0) = some r ∧ r = if (∀ k, k < i → ¬ (S k 0 = S i 0 ∧ S k 1 = S i 1)) then 1 else 0 := by
    intro i hi
    obtain ⟨g0, g1, g2, g3, g4, g5⟩ := hok i hi
    have b0 := h i hi 0 (by omega)
    rw [Nat.add_zero] at b0
    refine lp_run (f_X9_letters_l17 fu se (nI i)) i (fun j s => s = (if (∀ k, k < j → ¬ (S k 0 = S i 0 ∧ S k 1 = S i 1)) then 1 else 0, nI j)) (fun r => r = if (∀ k, k < i → ¬ (S k 0 = S i 0 ∧ S k 1 = S i 1)) then 1 else 0) ?_ ?_ i 0 (1, 0) fu (by omega) (by omega) (by rw [if_pos (fun k hk => by omega)]; rfl)
    · rintro j s hj rfl
      left
      obtain ⟨f0, f1, f2, f3, f4, f5⟩ := hok j (by omega)
      have a0 := h j (by omega) 0 (by omega)
      rw [Nat.add_zero] at a0
      refine ⟨(if (∀ k, k < j + 1 → ¬ (S k 0 = S i 0 ∧ S k 1 = S i 1)) then 1 else 0, nI (j + 1)), fun q => ?_, rfl⟩
      unfold f_X9_letters_l17
      dsimp only
      rw [if_neg (by rw [nle (by omega) (by omega)]; omega), nsucc]
      by_cases e : (∀ k, k < j → ¬ (S k 0 = S i 0 ∧ S k 1 = S i 1))
      · rw [if_pos e, if_neg n_10.mp]
        simp (disch := omega) only [nlt0, nle, nlt, neqI, ncl, nadd, nmul, nm1, nm1', nsucc, n_eq0, n_eq0', n_eq1, n_le0, n_0lt, n_0le, n_1le, n_le1, n_01, n_10, nsubI, nsub1, naddm1, ofNat_nI, zl2, zl3, zl4, zl5, zl6, zl7, zl8, zl9, zl13, zl15, zl16, zl17, zl31, zl63, zl64, zl100, zl256, zl1000, zl1200, zl7200, zl65536, zl100000, if_true, if_false, or_false, false_or, true_or, or_true, and_true, true_and, false_and, and_false, not_true_eq_false, not_false_eq_true, if_pos, if_neg, Option.bind_some, Option.bind_none, vn, reduceCtorEq, a0, b0, h j (by omega) 1 (by omega), h i hi 1 (by omega)]
        by_cases e0 : S j 0 = S i 0
        · by_cases e1 : S j 1 = S i 1
          · rw [if_pos e0, if_pos e1, if_neg (fun z => z j (by omega) ⟨e0, e1⟩)]
          · rw [if_pos e0, if_neg e1, if_pos (fun k hk => by
              rcases Nat.lt_succ_iff_lt_or_eq.mp hk with z | z
              · exact e k z
              · rw [z]; exact fun w => e1 w.2)]
        · rw [if_neg e0, if_pos (fun k hk => by
            rcases Nat.lt_succ_iff_lt_or_eq.mp hk with z | z
            · exact e k z
            · rw [z]; exact fun w => e0 w.1)]
      · rw [if_neg e, if_pos rfl, if_neg (fun z => e (fun k hk => z k (by omega)))]
    · rintro s rfl
      refine ⟨_, fun q => ?_, rfl⟩
      unfold f_X9_letters_l17
      dsimp only
      rw [if_pos (by rw [nle (by omega) (by omega)]; omega)]
  obtain ⟨r, h1, h2⟩ := lp_run (f_X9_letters_l4 fu se (nI N)) N (fun i s => s = (nI (fb_ct (fun i => decide (∀ k, k < i → ¬ (S k 0 = S i 0 ∧ S k 1 = S i 1))) i), nI i)) (fun r => r = nI (fb_ct (fun i => decide (∀ k, k < i → ¬ (S k 0 = S i 0 ∧ S k 1 = S i 1))) N)) (by
    rintro i s hi rfl
    left
    obtain ⟨r, h1, h2⟩ := hin i hi
    refine ⟨(nI (fb_ct (fun i => decide (∀ k, k < i → ¬ (S k 0 = S i 0 ∧ S k 1 = S i 1))) (i + 1)), nI (i + 1)), fun q => ?_, rfl⟩
    unfold f_X9_letters_l4
    dsimp only
    rw [if_neg (by rw [nle (by omega) (by omega)]; omega), h1, Option.bind_some, h2, fb_ct_succ, nsucc, nsucc]
    by_cases e : (∀ k, k < i → ¬ (S k 0 = S i 0 ∧ S k 1 = S i 1))
    · rw [if_pos e, if_neg n_10.mp, if_pos (decide_eq_true e)]
    · rw [if_neg e, if_pos rfl, if_neg (by simp only [decide_eq_true_eq]; exact e)]; rfl) (by
    rintro s rfl
    refine ⟨_, fun q => ?_, rfl⟩
    unfold f_X9_letters_l4
    dsimp only
    rw [if_pos (by rw [nle (by omega) (by omega)]; omega)]) N 0 (0, 0) fu (by omega) (by omega) rfl
  simp only [f_X9_letters, h1, h2, Option.bind_some]
theorem letters_eq {N : Nat} {S : Nat → Nat → Nat} (hS : ZSo N S) (hok : ∀ i, i < N → sok (S i)) : fb_ct (fun i => decide (¬ (i + 1 < N ∧ S i 0 = S (i + 1) 0 ∧ S i 1 = S (i + 1) 1))) N = fb_ct (fun i => decide (∀ k, k < i → ¬ (S k 0 = S i 0 ∧ S k 1 = S i 1))) N := by
  cases N with
  | zero => rfl
  | succ M =>
    have z1 : ¬ (M + 1 < M + 1 ∧ S M 0 = S (M + 1) 0 ∧ S M 1 = S (M + 1) 1) := fun q => by omega
    rw [fb_ct_succ, if_pos (decide_eq_true z1)]
    have e1 : fb_ct (fun i => decide (∀ k, k < i → ¬ (S k 0 = S i 0 ∧ S k 1 = S i 1))) (M + 1) = 1 + fb_ct (fun j => decide (∀ k, k < 1 + j → ¬ (S k 0 = S (1 + j) 0 ∧ S k 1 = S (1 + j) 1))) M := by
      rw [Nat.add_comm M 1, fb_ct_split]
      congr 1
    rw [e1, Nat.add_comm 1]
    congr 1
    refine fb_ct_cong fun j hj => ?_
    have := so_step hS hok (show j ≤ j + 1 by omega) (by omega)
    obtain ⟨h0, h1, h2, h3, h4, h5⟩ := hok j (by omega)
    obtain ⟨g0, g1, g2, g3, g4, g5⟩ := hok (j + 1) (by omega)
    rw [Nat.add_comm 1 j]
    by_cases e : (S j 0 = S (j + 1) 0 ∧ S j 1 = S (j + 1) 1)
    · rw [decide_eq_false (fun q => q ⟨by omega, e⟩), decide_eq_false (fun q => q j (by omega) e)]
    · have z3 : ¬ (j + 1 < M + 1 ∧ S j 0 = S (j + 1) 0 ∧ S j 1 = S (j + 1) 1) := fun q => e q.2
      have z4 : ∀ k, k < j + 1 → ¬ (S k 0 = S (j + 1) 0 ∧ S k 1 = S (j + 1) 1) := fun k hk q => by
        have a1 := so_step hS hok (show k ≤ j by omega) (by omega)
        obtain ⟨f0, f1, f2, f3, f4, f5⟩ := hok k (by omega)
        omega
      rw [decide_eq_true z3, decide_eq_true z4]
theorem B_count (fu n : Nat) (hfu : 1200 < fu) {lv : Nat → Bool} {al hb rb lo wa pe mw mp pp se : Nat → Int32} {sz rk mh li ps mm : Int32} (h : ZHo n lv al hb rb sz rk mh lo) (hln : ZLn n wa pe li mw mp) (hpl : ZPl n lv mw pp ps se mm) (x1 : Int32) :
    ∃ r, f_X8_count fu sz rk li pp ps x1 = some r ∧ f_X9_count fu mh lo mw se mm x1 = some (r, 0) := by
  obtain ⟨h0, hn, rfl, rfl, ha, hz, hl, rfl, -, -⟩ := id h
  obtain ⟨N, S, hC, hM, hS, hcp, hli⟩ := id hpl
  obtain ⟨hN, hps, hCi⟩ := id hC
  have hok : ∀ i, i < N → sok (S i) := fun i hi => (hCi i hi).1
  unfold f_X8_count f_X9_count
  rw [b_steps fu hC, b_letters fu N S pp ps hfu hC, m_letters fu N S se mm hfu hN hok hM, m_stepsOf fu N S se mm hfu hN (fun i hi => (hok i hi).1) hM, m_lines fu n hn (by omega), m_liveMany fu n hn (by omega) lv lo hl, letters_eq hS hok, stp_so hS hok, hln.2.2.2.2, hps, hM.1]
  simp only [Option.bind_some, f_X3_size, f_X3_ranks, f_X3_lines, f_X4_size]
  by_cases e0 : x1 = 0
  · exact ⟨_, by rw [if_pos e0], by rw [if_pos e0]⟩
  · by_cases e1 : x1 = 1
    · exact ⟨_, by rw [if_neg e0, if_pos e1], by rw [if_neg e0, if_pos e1]⟩
    · by_cases e2 : x1 = 2
      · exact ⟨_, by rw [if_neg e0, if_neg e1, if_pos e2], by rw [if_neg e0, if_neg e1, if_pos e2]⟩
      · by_cases e3 : x1 = 3
        · exact ⟨_, by rw [if_neg e0, if_neg e1, if_neg e2, if_pos e3], by rw [if_neg e0, if_neg e1, if_neg e2, if_pos e3]⟩
        · by_cases e4 : x1 = 4
          · exact ⟨_, by rw [if_neg e0, if_neg e1, if_neg e2, if_neg e3, if_pos e4], by rw [if_neg e0, if_neg e1, if_neg e2, if_neg e3, if_pos e4]⟩
          · by_cases e5 : x1 = 5
            · exact ⟨_, by rw [if_neg e0, if_neg e1, if_neg e2, if_neg e3, if_neg e4, if_pos e5], by rw [if_neg e0, if_neg e1, if_neg e2, if_neg e3, if_neg e4, if_pos e5]⟩
            · exact ⟨_, by rw [if_neg e0, if_neg e1, if_neg e2, if_neg e3, if_neg e4, if_neg e5], by rw [if_neg e0, if_neg e1, if_neg e2, if_neg e3, if_neg e4, if_neg e5]⟩
theorem B_sent (fu n : Nat) {lv : Nat → Bool} {mw pp se : Nat → Int32} {ps mm : Int32} (hpl : ZPl n lv mw pp ps se mm) (x1 x2 : Int32) : ∃ r, f_X8_sent fu pp ps x1 x2 = some r ∧ f_X9_sent fu se mm x1 x2 = some (r, 0) := by
  obtain ⟨N, S, hC, hM, hS, hcp, hli⟩ := id hpl
  obtain ⟨hN, hps, hCi⟩ := id hC
  obtain ⟨hmm, hMi⟩ := id hM
  unfold f_X8_sent f_X9_sent
  rw [m_in, m_in, f_X4_size, Option.bind_some, Option.bind_some, Option.bind_some]
  by_cases e0 : x1 < 0
  · exact ⟨_, by rw [if_pos e0], by rw [if_pos (Or.inl e0), if_pos rfl]⟩
  · obtain ⟨i, hi, rfl⟩ := nI_of e0
    by_cases e1 : i < N
    · have m1 : ¬ (nI i < 0 ∨ mm - 1 < nI i) := by
        rw [hmm, nsub1 (by omega), nlt0 hi, nlt (by omega) hi]
        intro q
        rcases q with q | q
        · exact q
        · omega
      rw [if_neg e0, if_pos (by rw [hps, nlt hi (by omega)]; exact e1), if_neg m1, if_neg n_10.mp, b_step fu hC e1, b_from fu hC e1, b_to fu hC e1, b_block fu hC e1, b_toBlock fu hC e1, b_isAdded fu hC e1]
      simp only [Option.bind_some]
      obtain ⟨g0, g1, g2, g3, g4, g5⟩ := (hCi i e1).1
      have hk : ∀ k, k < 6 → x2 = nI k → (if (if x2 < 0 ∨ 5 < x2 then (0 : Int32) else 1) = 0 then (some (-1, 0) : Option (Int32 × Int32)) else if 6 * nI i + x2 < 0 ∨ 7200 ≤ (6 * nI i + x2).toNatClampNeg then none else some (se (6 * nI i + x2).toNatClampNeg, 0)) = some (nI (S i k), 0) := by
        rintro k hk rfl
        have m2 : ¬ (nI k < 0 ∨ (5 : Int32) < nI k) := by
          rw [zl5, nlt0 (by omega), nlt (by omega) (by omega)]
          intro q
          rcases q with q | q
          · exact q
          · omega
        rw [if_neg m2, if_neg n_10.mp, zl6, nmul, nadd, if_neg (nI_in (by omega) (by omega)), ncl (by omega), hMi i e1 k hk]
      by_cases q0 : x2 = 0
      · exact ⟨_, by rw [if_pos q0], hk 0 (by omega) q0⟩
      · by_cases q1 : x2 = 1
        · exact ⟨_, by rw [if_neg q0, if_pos q1], hk 1 (by omega) q1⟩
        · by_cases q2 : x2 = 2
          · exact ⟨_, by rw [if_neg q0, if_neg q1, if_pos q2], hk 2 (by omega) q2⟩
          · by_cases q3 : x2 = 3
            · exact ⟨_, by rw [if_neg q0, if_neg q1, if_neg q2, if_pos q3], hk 3 (by omega) q3⟩
            · by_cases q4 : x2 = 4
              · exact ⟨_, by rw [if_neg q0, if_neg q1, if_neg q2, if_neg q3, if_pos q4], hk 4 (by omega) q4⟩
              · by_cases q5 : x2 = 5
                · refine ⟨nI (S i 5), ?_, hk 5 (by omega) q5⟩
                  rw [if_neg q0, if_neg q1, if_neg q2, if_neg q3, if_neg q4, if_pos q5]
                  rcases (show S i 5 = 0 ∨ S i 5 = 1 by omega) with w | w <;> rw [w] <;> rfl
                · refine ⟨-1, by rw [if_neg q0, if_neg q1, if_neg q2, if_neg q3, if_neg q4, if_neg q5], ?_⟩
                  have m2 : x2 < 0 ∨ 5 < x2 := by
                    by_cases w0 : x2 < 0
                    · exact Or.inl w0
                    · obtain ⟨k, hk2, rfl⟩ := nI_of w0
                      right
                      rw [zl5, nlt (by omega) hk2]
                      refine Classical.byContradiction fun w => ?_
                      rcases (show k = 0 ∨ k = 1 ∨ k = 2 ∨ k = 3 ∨ k = 4 ∨ k = 5 by omega) with rfl | rfl | rfl | rfl | rfl | rfl
                      · exact q0 rfl
                      · exact q1 rfl
                      · exact q2 rfl
                      · exact q3 rfl
                      · exact q4 rfl
                      · exact q5 rfl
                  rw [if_pos m2, if_pos rfl]
    · have m1 : nI i < 0 ∨ mm - 1 < nI i := by
        right
        rw [hmm]
        rcases Nat.eq_zero_or_pos N with q | q
        · subst q
          rw [fa_lt, nI_toInt hi, show (nI 0 - 1).toInt = -1 by decide]; omega
        · rw [nsub1 (by omega), nlt (by omega) hi]; omega
      exact ⟨-1, by rw [if_neg e0, if_neg (by rw [hps, nlt hi (by omega)]; exact e1)], by rw [if_pos m1, if_pos rfl]⟩
