/-! freely: both answer alike -/
theorem tc_in {N : Nat} {S : Nat → Nat → Nat} {mw mp : Nat → Int32} (l0 : Nat → Int32) {b : Nat} : ∀ {i : Nat}, b ≤ i → (∀ t, b ≤ t → t < i → S t 0 = S (t + 1) 0) → (tc N S mw mp l0 i).1 = (tc N S mw mp l0 b).1
  | 0, h, _ => by rw [Nat.le_zero.mp h]
  | i + 1, h, ht => by
    rcases Nat.lt_or_eq_of_le h with q | q
    · rw [← tc_in (S := S) l0 (b := b) (i := i) (by omega) (fun t h1 h2 => ht t h1 (by omega))]
      exact tc_same N S mw mp l0 (ht i (by omega) (by omega))
    · rw [q]
theorem m_copy16 (fu : Nat) (hfu : 256 < fu) (mb mt : Nat → Int32) : ∃ r, lp (f_X9_freely_l64 fu mb) fu (0, mt) = some r ∧ ∀ c, c < 16 → r c = mb c := by
  refine lp_run (f_X9_freely_l64 fu mb) 16 (fun i s => s.1 = nI i ∧ ∀ c, c < i → s.2 c = mb c) (fun r => ∀ c, c < 16 → r c = mb c) ?_ ?_ 16 0 (0, mt) fu (by omega) (by omega) ⟨rfl, fun c hc => by omega⟩
  · rintro i ⟨x, g⟩ hi ⟨h1, h2⟩
    dsimp only at h1 h2
    subst h1
    refine Or.inl ⟨(nI (i + 1), upd g i (mb i)), fun k => ?_, rfl, fun c hc => ?_⟩
    · simp (disch := omega) only [f_X9_freely_l64, nlt0, nle, nlt, neqI, ncl, nadd, nmul, nm1, nm1', nsucc, n_eq0, n_eq0', n_eq1, n_le0, n_0lt, n_0le, n_1le, n_le1, n_01, n_10, nsubI, nsub1, naddm1, ofNat_nI, zl2, zl3, zl4, zl5, zl6, zl7, zl8, zl9, zl13, zl15, zl16, zl17, zl31, zl63, zl64, zl100, zl256, zl1000, zl1200, zl7200, zl65536, zl100000, if_true, if_false, or_false, false_or, true_or, or_true, and_true, true_and, false_and, and_false, not_true_eq_false, not_false_eq_true, if_pos, if_neg, Option.bind_some, Option.bind_none, vn, reduceCtorEq]
    · simp only [upd]
      by_cases e : c = i
      · rw [if_pos e, e]
      · rw [if_neg e]; exact h2 c (by omega)
  · rintro ⟨x, g⟩ ⟨h1, h2⟩
    dsimp only at h1 h2
    subst h1
    exact ⟨g, fun k => by simp (disch := omega) only [f_X9_freely_l64, nlt0, nle, nlt, neqI, ncl, nadd, nmul, nm1, nm1', nsucc, n_eq0, n_eq0', n_eq1, n_le0, n_0lt, n_0le, n_1le, n_le1, n_01, n_10, nsubI, nsub1, naddm1, ofNat_nI, zl2, zl3, zl4, zl5, zl6, zl7, zl8, zl9, zl13, zl15, zl16, zl17, zl31, zl63, zl64, zl100, zl256, zl1000, zl1200, zl7200, zl65536, zl100000, if_true, if_false, or_false, false_or, true_or, or_true, and_true, true_and, false_and, and_false, not_true_eq_false, not_false_eq_true, if_pos, if_neg, Option.bind_some, Option.bind_none, vn, reduceCtorEq], h2⟩
theorem m_copyL (fu : Nat) (hfu : 256 < fu) (mb mt : Nat → Int32) : ∃ r, lp (f_X9_freely_l17 fu mb) fu (0, mt) = some r ∧ ∀ c, c < 16 → r c = mb c := by
  refine lp_run (f_X9_freely_l17 fu mb) 16 (fun i s => s.1 = nI i ∧ ∀ c, c < i → s.2 c = mb c) (fun r => ∀ c, c < 16 → r c = mb c) ?_ ?_ 16 0 (0, mt) fu (by omega) (by omega) ⟨rfl, fun c hc => by omega⟩
  · rintro i ⟨x, g⟩ hi ⟨h1, h2⟩
    dsimp only at h1 h2
    subst h1
    refine Or.inl ⟨(nI (i + 1), upd g i (mb i)), fun k => ?_, rfl, fun c hc => ?_⟩
    · simp (disch := omega) only [f_X9_freely_l17, nlt0, nle, nlt, neqI, ncl, nadd, nmul, nm1, nm1', nsucc, n_eq0, n_eq0', n_eq1, n_le0, n_0lt, n_0le, n_1le, n_le1, n_01, n_10, nsubI, nsub1, naddm1, ofNat_nI, zl2, zl3, zl4, zl5, zl6, zl7, zl8, zl9, zl13, zl15, zl16, zl17, zl31, zl63, zl64, zl100, zl256, zl1000, zl1200, zl7200, zl65536, zl100000, if_true, if_false, or_false, false_or, true_or, or_true, and_true, true_and, false_and, and_false, not_true_eq_false, not_false_eq_true, if_pos, if_neg, Option.bind_some, Option.bind_none, vn, reduceCtorEq]
    · simp only [upd]
      by_cases e : c = i
      · rw [if_pos e, e]
      · rw [if_neg e]; exact h2 c (by omega)
  · rintro ⟨x, g⟩ ⟨h1, h2⟩
    dsimp only at h1 h2
    subst h1
    exact ⟨g, fun k => by simp (disch := omega) only [f_X9_freely_l17, nlt0, nle, nlt, neqI, ncl, nadd, nmul, nm1, nm1', nsucc, n_eq0, n_eq0', n_eq1, n_le0, n_0lt, n_0le, n_1le, n_le1, n_01, n_10, nsubI, nsub1, naddm1, ofNat_nI, zl2, zl3, zl4, zl5, zl6, zl7, zl8, zl9, zl13, zl15, zl16, zl17, zl31, zl63, zl64, zl100, zl256, zl1000, zl1200, zl7200, zl65536, zl100000, if_true, if_false, or_false, false_or, true_or, or_true, and_true, true_and, false_and, and_false, not_true_eq_false, not_false_eq_true, if_pos, if_neg, Option.bind_some, Option.bind_none, vn, reduceCtorEq], h2⟩
theorem m_freely (fu n N : Nat) (hn : n ≤ 16) (S : Nat → Nat → Nat) (se mw mp : Nat → Int32) (mm : Int32) (hfu : 1200 < fu) (hN : N ≤ 1200) (hok : ∀ i, i < N → sok (S i)) (h : ZPm N S se mm) (hw : ZLw N S mw mp) (hft : ZFt n N S) (l0 mb mt : Nat → Int32) (hmb : ∀ c, c < 16 → mb c = l0 c) : ∃ r, lp (f_X9_freely_l43 fu mw mp se mm) fu (0, mb, mt) = some r ∧ ∀ c, c < 16 → r.1 c = (tc N S mw mp l0 N).2 c := by
  have htm := fun i (hi : i < N) => m_timeOf (se := se) (mm := mm) fu hfu hN hok h hw hi
  obtain ⟨rfl, h⟩ := h
  refine lp_meas (f_X9_freely_l43 fu mw mp se (nI N)) (fun s => N - s.1.toNatClampNeg) (fun s => ∃ b, b ≤ N ∧ s.1 = nI b ∧ (b < N → (tc N S mw mp l0 b).1 = (tc N S mw mp l0 b).2) ∧ ∀ c, c < 16 → s.2.1 c = (tc N S mw mp l0 b).2 c) (fun r => ∀ c, c < 16 → r.1 c = (tc N S mw mp l0 N).2 c) ?_ N (0, mb, mt) fu (by show N - _ ≤ N; omega) (by omega) ⟨0, by omega, rfl, fun _ => rfl, fun c hc => hmb c hc⟩
  rintro ⟨x, g, u⟩ ⟨b, hb, h1, h2, h3⟩
  dsimp only at h1 h3
  subst h1
  by_cases e : b = N
  · right
    refine ⟨(g, u), fun k => ?_, fun c hc => by show g c = _; rw [h3 c hc, e]⟩
    unfold f_X9_freely_l43
    dsimp only
    rw [if_pos (by rw [nle (by omega) (by omega)]; omega)]
  · left
    have hbN : b < N := by omega
    have hbd := h2 hbN
    obtain ⟨r3, c1, c2⟩ := m_copy16 fu (by omega) g u
    have a0 := h b hbN 0 (by omega)
    rw [Nat.add_zero] at a0
    obtain ⟨r4, d1, d2⟩ := lp_meas (f_X9_freely_l91 fu mw mp se (nI N) r3 (nI (S b 0))) (fun s => N - s.1.toNatClampNeg) (fun s => ∃ i, b ≤ i ∧ i ≤ N ∧ s.1 = nI i ∧ (∀ t, b ≤ t → t < i → S t 0 = S b 0) ∧ ∀ c, c < 16 → s.2 c = (tc N S mw mp l0 i).2 c) (fun r => ∃ i, b < i ∧ i ≤ N ∧ r.1 = nI i ∧ (i < N → (tc N S mw mp l0 i).1 = (tc N S mw mp l0 i).2) ∧ ∀ c, c < 16 → r.2 c = (tc N S mw mp l0 i).2 c) (by
      rintro ⟨x, w⟩ ⟨i, hbi, hiN, h1, h4, h5⟩
      dsimp only at h1 h5
      subst h1
      by_cases ei : i = N
      · right
        refine ⟨(nI i, w), fun k => ?_, i, by omega, hiN, rfl, fun q => by omega, h5⟩
        unfold f_X9_freely_l91
        dsimp only
        rw [if_pos (by rw [nle (by omega) (by omega)]; omega)]
      · have hi : i < N := by omega
        have i0' := h i hi 0 (by omega)
        rw [Nat.add_zero] at i0'
        have hsi := hok i hi
        obtain ⟨s0, s1, s2, s3, s4, s5⟩ := id hsi
        obtain ⟨f1, f2, f3⟩ := hft i hi
        have sb0 := (hok b hbN).1
        by_cases es : S i 0 = S b 0
        · left
          have hblk : ∀ t, b ≤ t → t < i → S t 0 = S (t + 1) 0 := fun t a c => by
            rw [h4 t a c]
            rcases Nat.lt_or_eq_of_le (show t + 1 ≤ i by omega) with q | q
            · rw [h4 (t + 1) (by omega) q]
            · rw [q, es]
          have hF : (tc N S mw mp l0 i).1 = (tc N S mw mp l0 b).1 := tc_in l0 hbi hblk
          have hr3 : ∀ c, c < 16 → r3 c = (tc N S mw mp l0 i).1 c := fun c hc => by rw [c2 c hc, h3 c hc, hF, hbd]
          refine ⟨(nI (i + 1), app (S i 1) (S i 2) (mxJ (r3 (S i 2)) (r3 (S i 1)) + nI (tm N S mw mp (S i))) w), fun k => ?_, ⟨i + 1, by omega, by omega, rfl, fun t a c => ?_, fun c hc => ?_⟩, ?_⟩
          · rw [← app_upd f3]
            by_cases q1 : r3 (S i 1) ≤ r3 (S i 2)
            · have e0 : mxJ (r3 (S i 2)) (r3 (S i 1)) = r3 (S i 2) := by unfold mxJ; rw [if_pos q1]
              rw [e0]
              simp (disch := omega) only [f_X9_freely_l91, nlt0, nle, nlt, neqI, ncl, nadd, nmul, nm1, nm1', nsucc, n_eq0, n_eq0', n_eq1, n_le0, n_0lt, n_0le, n_1le, n_le1, n_01, n_10, nsubI, nsub1, naddm1, ofNat_nI, zl2, zl3, zl4, zl5, zl6, zl7, zl8, zl9, zl13, zl15, zl16, zl17, zl31, zl63, zl64, zl100, zl256, zl1000, zl1200, zl7200, zl65536, zl100000, if_true, if_false, or_false, false_or, true_or, or_true, and_true, true_and, false_and, and_false, not_true_eq_false, not_false_eq_true, if_pos, if_neg, Option.bind_some, Option.bind_none, vn, reduceCtorEq, i0', h i hi 1 (by omega), h i hi 2 (by omega), es, htm i hi, q1, mxJ]
              generalize r3 (S i 2) + nI (tm N S mw mp (S i)) = ee
              by_cases q2 : ee ≤ w (S i 1)
              · simp only [q2, if_true]
                split <;> rfl
              · simp only [q2, if_false]
                split <;> rfl
            · have e0 : mxJ (r3 (S i 2)) (r3 (S i 1)) = r3 (S i 1) := by unfold mxJ; rw [if_neg q1]
              rw [e0]
              simp (disch := omega) only [f_X9_freely_l91, nlt0, nle, nlt, neqI, ncl, nadd, nmul, nm1, nm1', nsucc, n_eq0, n_eq0', n_eq1, n_le0, n_0lt, n_0le, n_1le, n_le1, n_01, n_10, nsubI, nsub1, naddm1, ofNat_nI, zl2, zl3, zl4, zl5, zl6, zl7, zl8, zl9, zl13, zl15, zl16, zl17, zl31, zl63, zl64, zl100, zl256, zl1000, zl1200, zl7200, zl65536, zl100000, if_true, if_false, or_false, false_or, true_or, or_true, and_true, true_and, false_and, and_false, not_true_eq_false, not_false_eq_true, if_pos, if_neg, Option.bind_some, Option.bind_none, vn, reduceCtorEq, i0', h i hi 1 (by omega), h i hi 2 (by omega), es, htm i hi, q1, mxJ]
              generalize r3 (S i 1) + nI (tm N S mw mp (S i)) = ee
              by_cases q2 : ee ≤ w (S i 1)
              · simp only [q2, if_true]
                split <;> rfl
              · simp only [q2, if_false]
                split <;> rfl
          · rcases Nat.lt_succ_iff_lt_or_eq.mp c with q | q
            · exact h4 t a q
            · rw [q]; exact es
          · rw [tc_s]
            show app _ _ _ w c = _
            unfold eot
            rw [← hr3 _ s1, ← hr3 _ s2]
            simp only [app, h5 c hc]
          · show N - (nI (i + 1)).toNatClampNeg < N - (nI i).toNatClampNeg
            rw [ncl (by omega), ncl (by omega)]; omega
        · right
          have hlt : b < i := by
            rcases Nat.lt_or_eq_of_le hbi with q | q
            · exact q
            · exact absurd (by rw [← q]) es
          refine ⟨(nI i, w), fun k => ?_, i, hlt, hiN, rfl, fun _ => ?_, h5⟩
          · simp (disch := omega) only [f_X9_freely_l91, nlt0, nle, nlt, neqI, ncl, nadd, nmul, nm1, nm1', nsucc, n_eq0, n_eq0', n_eq1, n_le0, n_0lt, n_0le, n_1le, n_le1, n_01, n_10, nsubI, nsub1, naddm1, ofNat_nI, zl2, zl3, zl4, zl5, zl6, zl7, zl8, zl9, zl13, zl15, zl16, zl17, zl31, zl63, zl64, zl100, zl256, zl1000, zl1200, zl7200, zl65536, zl100000, if_true, if_false, or_false, false_or, true_or, or_true, and_true, true_and, false_and, and_false, not_true_eq_false, not_false_eq_true, if_pos, if_neg, Option.bind_some, Option.bind_none, vn, reduceCtorEq, i0', es]
          · obtain ⟨j, rfl⟩ : ∃ j, i = j + 1 := ⟨i - 1, by omega⟩
            exact tc_bd N S mw mp l0 (fun z => es (by rw [← z]; exact h4 j (by omega) (by omega)))) N (nI b, g) fu (by show N - _ ≤ N; omega) (by omega) ⟨b, Nat.le_refl b, hb, rfl, fun t a c => by omega, h3⟩
    obtain ⟨i, hi1, hi2, hi3, hi4, hi5⟩ := d2
    refine ⟨(r4.1, r4.2, r3), fun k => ?_, ⟨i, hi2, hi3, hi4, hi5⟩, ?_⟩
    · unfold f_X9_freely_l43
      simp only [vn]
      rw [if_neg (by rw [nle (by omega) (by omega)]; omega), zl6, nmul, if_neg (nI_in (by omega) (by omega)), ncl (by omega), a0, c1, Option.bind_some, d1, Option.bind_some]
    · show N - r4.1.toNatClampNeg < N - (nI b).toNatClampNeg
      rw [hi3, ncl (by omega), ncl (by omega)]; omega
theorem b_clock0 (fu n : Nat) (hn : n ≤ 16) (hfu : 16 < fu) {la ml : Nat → Int32} (hlt : ZLt n la ml) (ah be : Nat → Int32) : ∃ r, lp (f_X0_endOf_l3 fu la (nI n)) fu (0, ah, be) = some r ∧ ∀ j, j < 16 → r.1 j = ml j ∧ r.2 j = ml j := by
  refine lp_run (f_X0_endOf_l3 fu la (nI n)) 16 (fun i s => s.1 = nI i ∧ ∀ j, j < i → s.2.1 j = ml j ∧ s.2.2 j = ml j) (fun r => ∀ j, j < 16 → r.1 j = ml j ∧ r.2 j = ml j) ?_ ?_ 16 0 (0, ah, be) fu (by omega) (by omega) ⟨rfl, fun c hc => by omega⟩
  · rintro i ⟨x, g, g2⟩ hi ⟨h1, h2⟩
    dsimp only at h1 h2
    subst h1
    obtain ⟨l1, t, l2, l3, l4⟩ := hlt i hi
    have el : f_X3_latenessOf fu la (nI n) (nI i) = some (ml i) := by
      unfold f_X3_latenessOf
      rw [b_isHost fu n (by omega), hx_nI (by omega)]
      by_cases q : i < n
      · rw [decide_eq_true q]
        simp (disch := omega) only [nlt0, nle, nlt, neqI, ncl, nadd, nmul, nm1, nm1', nsucc, n_eq0, n_eq0', n_eq1, n_le0, n_0lt, n_0le, n_1le, n_le1, n_01, n_10, nsubI, nsub1, naddm1, ofNat_nI, zl2, zl3, zl4, zl5, zl6, zl7, zl8, zl9, zl13, zl15, zl16, zl17, zl31, zl63, zl64, zl100, zl256, zl1000, zl1200, zl7200, zl65536, zl100000, if_true, if_false, or_false, false_or, true_or, or_true, and_true, true_and, false_and, and_false, not_true_eq_false, not_false_eq_true, if_pos, if_neg, Option.bind_some, Option.bind_none, vn, reduceCtorEq, l1]
      · rw [decide_eq_false q, l3, l4 (by omega)]
        rfl
    refine Or.inl ⟨(nI (i + 1), upd g i (ml i), upd g2 i (ml i)), fun k => ?_, rfl, fun c hc => ?_⟩
    · unfold f_X0_endOf_l3
      dsimp only
      rw [el]
      simp (disch := omega) only [nlt0, nle, nlt, neqI, ncl, nadd, nmul, nm1, nm1', nsucc, n_eq0, n_eq0', n_eq1, n_le0, n_0lt, n_0le, n_1le, n_le1, n_01, n_10, nsubI, nsub1, naddm1, ofNat_nI, zl2, zl3, zl4, zl5, zl6, zl7, zl8, zl9, zl13, zl15, zl16, zl17, zl31, zl63, zl64, zl100, zl256, zl1000, zl1200, zl7200, zl65536, zl100000, if_true, if_false, or_false, false_or, true_or, or_true, and_true, true_and, false_and, and_false, not_true_eq_false, not_false_eq_true, if_pos, if_neg, Option.bind_some, Option.bind_none, vn, reduceCtorEq]
      simp only [upd, if_true]
    · simp only [upd]
      by_cases e : c = i
      · rw [if_pos e, if_pos e, e]; exact ⟨rfl, rfl⟩
      · rw [if_neg e, if_neg e]; exact h2 c (by omega)
  · rintro ⟨x, g, g2⟩ ⟨h1, h2⟩
    dsimp only at h1 h2
    subst h1
    exact ⟨(g, g2), fun k => by simp (disch := omega) only [f_X0_endOf_l3, nlt0, nle, nlt, neqI, ncl, nadd, nmul, nm1, nm1', nsucc, n_eq0, n_eq0', n_eq1, n_le0, n_0lt, n_0le, n_1le, n_le1, n_01, n_10, nsubI, nsub1, naddm1, ofNat_nI, zl2, zl3, zl4, zl5, zl6, zl7, zl8, zl9, zl13, zl15, zl16, zl17, zl31, zl63, zl64, zl100, zl256, zl1000, zl1200, zl7200, zl65536, zl100000, if_true, if_false, or_false, false_or, true_or, or_true, and_true, true_and, false_and, and_false, not_true_eq_false, not_false_eq_true, if_pos, if_neg, Option.bind_some, Option.bind_none, vn, reduceCtorEq], h2⟩
theorem ZFt.of {n : Nat} {lv : Nat → Bool} {wa pe mw mp : Nat → Int32} {li : Int32} {N : Nat} {S : Nat → Nat → Nat} (hn : n ≤ 16) (hln : ZLn n wa pe li mw mp) (hli : ZLi n lv mw N S) : ZFt n N S := fun i hi => by
  obtain ⟨a1, a2, a3, a4, a5⟩ := hli i hi
  exact ⟨a1, a3, fun q => a5 (hln.2.2.1 _ _ (by omega) (by omega) (Or.inr (Or.inr q)))⟩
theorem B_freely (fu n : Nat) (hfu : 1200 < fu) {lv : Nat → Bool} {al hb rb lo la ml wa pe mw mp pp se : Nat → Int32} {sz rk mh li ps mm : Int32} (h : ZHo n lv al hb rb sz rk mh lo) (hlt : ZLt n la ml) (hln : ZLn n wa pe li mw mp) (hpl : ZPl n lv mw pp ps se mm) (ah be mt mt' : Nat → Int32) (x1 : Int32) :
    ∃ r ah' be' mt1 mt2, f_X8_freely fu al la wa pe sz pp ps ah be x1 = some (r, ah', be') ∧ f_X9_freely fu mh lo ml mw mp se mm mt mt' x1 = some (r, 0, mt1, mt2) := by
  obtain ⟨h0, hn, rfl, rfl, ha, hz, hl, -, -, -⟩ := id h
  obtain ⟨N, S, hC, hM, hS, hcp, hli⟩ := id hpl
  obtain ⟨hN, hps, hCi⟩ := id hC
  have hok : ∀ i, i < N → sok (S i) := fun i hi => (hCi i hi).1
  obtain ⟨hw, hwa⟩ := ZLw.of hn hln hli
  have hft := ZFt.of hn hln hli
  unfold f_X8_freely f_X9_freely
  rw [b_isLive fu n hn lv al ha, m_isLive fu n (by omega) hn lv lo hl, Option.bind_some, Option.bind_some]
  cases c2 : lx n lv x1 with
  | false => exact ⟨-1, ah, be, mt, mt', rfl, rfl⟩
  | true =>
    obtain ⟨j, hj, hj', rfl, hv⟩ := lx_t c2
    obtain ⟨r1, e1, e2⟩ := b_clock0 fu n hn (by omega) hlt ah be
    obtain ⟨r2, e3, e4⟩ := b_endOfL fu hfu hn hC hS hcp hw hft hwa ml r1.1 r1.2 (fun j hj => (e2 j hj).1) (fun j hj => (e2 j hj).2)
    obtain ⟨r3, e5, e6⟩ := m_copyL fu (by omega) ml mt
    obtain ⟨r4, e7, e8⟩ := m_freely fu n N hn S se mw mp mm hfu hN hok hM hw hft ml r3 mt' e6
    refine ⟨r2.2 j, r2.1, r2.2, r4.1, r4.2, ?_, ?_⟩
    · unfold f_X0_endOf
      rw [e1, Option.bind_some, e3, Option.bind_some, if_neg (nI_pos (by omega)), if_neg (show ¬ (16 : Int32) ≤ nI j by rw [zl16, nle (by omega) (by omega)]; omega), if_neg (nI_in (by omega) (by omega)), ncl (by omega)]
      rfl
    · rw [e5, Option.bind_some, e7, Option.bind_some, if_neg (nI_in (by omega) (by omega)), ncl (by omega), e4 j (by omega), e8 j (by omega)]
      rfl
