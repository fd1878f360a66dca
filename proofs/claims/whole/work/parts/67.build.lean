/-! build, price, best: both answer alike -/
theorem srt_back {E : Nat → Nat → Nat} {k : Nat} (h : ZSo (k + 1) (srt E (k + 1))) : ZSo k (srt E k) ∧ ∀ i, i < k → key (srt E k i) ≠ key (E k) := by
  have hp := pos_le k (srt E k) (E k)
  have hlo : ∀ i, i < pos k (srt E k) (E k) → srt E (k + 1) i = srt E k i := fun i hi => by
    show ins _ _ _ i = _
    unfold ins
    rw [if_pos hi]
  have hhi : ∀ i, pos k (srt E k) (E k) ≤ i → srt E (k + 1) (i + 1) = srt E k i := fun i hi => by
    show ins _ _ _ (i + 1) = _
    unfold ins
    rw [if_neg (by omega), if_neg (by omega)]
    rfl
  have hat : srt E (k + 1) (pos k (srt E k) (E k)) = E k := by
    show ins _ _ _ _ = _
    unfold ins
    rw [if_neg (by omega), if_pos rfl]
  refine ⟨fun i j hij hj => ?_, fun i hi q => ?_⟩
  · by_cases e1 : i < pos k (srt E k) (E k)
    · by_cases e2 : j < pos k (srt E k) (E k)
      · rw [← hlo i e1, ← hlo j e2]; exact h i j hij (by omega)
      · rw [← hlo i e1, ← hhi j (by omega)]; exact h i (j + 1) (by omega) (by omega)
    · rw [← hhi i (by omega), ← hhi j (by omega)]; exact h (i + 1) (j + 1) (by omega) (by omega)
  · by_cases e1 : i < pos k (srt E k) (E k)
    · have := h i (pos k (srt E k) (E k)) e1 (by omega)
      rw [hlo i e1, hat] at this
      omega
    · have := h (pos k (srt E k) (E k)) (i + 1) (by omega) (by omega)
      rw [hhi i (by omega), hat] at this
      omega
theorem srt_pre {E : Nat → Nat → Nat} {M : Nat} (h : ZSo M (srt E M)) : ∀ d k, k + d = M → ZSo k (srt E k)
  | 0, k, hk => by rw [Nat.add_zero] at hk; rw [hk]; exact h
  | d + 1, k, hk => (srt_back (srt_pre h d (k + 1) (by omega))).1
theorem ZCp.srt {E : Nat → Nat → Nat} {M : Nat} (h : ZCp M E) : ZCp M (srt E M) := fun i j hi hj q => by
  obtain ⟨a, ha, e1⟩ := srt_from (E := E) hi
  obtain ⟨b, hb, e2⟩ := srt_from (E := E) hj
  rw [e1, e2] at q ⊢
  exact h a b ha hb q
theorem ZLi.srt {n : Nat} {lv : Nat → Bool} {mw : Nat → Int32} {E : Nat → Nat → Nat} {M : Nat} (h : ZLi n lv mw M E) : ZLi n lv mw M (srt E M) := srt_all (P := fun s => s 1 < n ∧ lv (s 1) = true ∧ s 2 < n ∧ lv (s 2) = true ∧ mw (16 * s 1 + s 2) ≠ -1) h
theorem m_buildL (fu M : Nat) (E : Nat → Nat → Nat) (made se : Nat → Int32) (hfu : 1200 < fu) (hM : M ≤ 1200) (hok : ∀ k, k < M → sok (E k)) (hS : ZSo M (srt E M)) (h : ZPm M E made (nI M)) : ∃ r, lp (f_X9_build_l30 fu made (nI M)) fu (0, se, 0) = some r ∧ ZPm M (srt E M) r.1 r.2 := by
  refine lp_run (f_X9_build_l30 fu made (nI M)) M (fun k s => s.1 = nI k ∧ ZPm k (srt E k) s.2.1 s.2.2) (fun r => ZPm M (srt E M) r.1 r.2) ?_ ?_ M 0 (0, se, 0) fu (by omega) (by omega) ⟨rfl, rfl, fun i hi => by omega⟩
  · rintro k ⟨x, se, mm⟩ hk ⟨h1, h2⟩
    dsimp only at h1 h2
    subst h1
    left
    have hb := srt_back (srt_pre hS (M - (k + 1)) (k + 1) (by omega))
    obtain ⟨r, r1, r2⟩ := m_lay fu k (srt E k) (E k) se mm hfu h2 (srt_all (P := sok) (fun i hi => hok i (by omega))) (by omega) hb.1 (hok k hk) hb.2
    have a0 := h.2 k hk 0 (by omega)
    rw [Nat.add_zero] at a0
    refine ⟨(nI (k + 1), r.1, r.2), fun kk => ?_, rfl, r2⟩
    simp (disch := omega) only [f_X9_build_l30, nlt0, nle, nlt, neqI, ncl, nadd, nmul, nm1, nm1', nsucc, n_eq0, n_eq0', n_eq1, n_le0, n_0lt, n_0le, n_1le, n_le1, n_01, n_10, nsubI, nsub1, naddm1, ofNat_nI, zl2, zl3, zl4, zl5, zl6, zl7, zl8, zl9, zl13, zl15, zl16, zl17, zl31, zl63, zl64, zl100, zl256, zl1000, zl1200, zl7200, zl65536, zl100000, if_true, if_false, or_false, false_or, true_or, or_true, and_true, true_and, false_and, and_false, not_true_eq_false, not_false_eq_true, if_pos, if_neg, Option.bind_some, Option.bind_none, vn, reduceCtorEq, a0, h.2 k hk 1 (by omega), h.2 k hk 2 (by omega), h.2 k hk 3 (by omega), h.2 k hk 4 (by omega), h.2 k hk 5 (by omega), r1]
  · rintro ⟨x, se, mm⟩ ⟨h1, h2⟩
    dsimp only at h1 h2
    subst h1
    refine ⟨(se, mm), fun kk => ?_, h2⟩
    simp (disch := omega) only [f_X9_build_l30, nlt0, nle, nlt, neqI, ncl, nadd, nmul, nm1, nm1', nsucc, n_eq0, n_eq0', n_eq1, n_le0, n_0lt, n_0le, n_1le, n_le1, n_01, n_10, nsubI, nsub1, naddm1, ofNat_nI, zl2, zl3, zl4, zl5, zl6, zl7, zl8, zl9, zl13, zl15, zl16, zl17, zl31, zl63, zl64, zl100, zl256, zl1000, zl1200, zl7200, zl65536, zl100000, if_true, if_false, or_false, false_or, true_or, or_true, and_true, true_and, false_and, and_false, not_true_eq_false, not_false_eq_true, if_pos, if_neg, Option.bind_some, Option.bind_none, vn, reduceCtorEq]
theorem B_build (fu n : Nat) (hfu : 1200 < fu) {lv : Nat → Bool} {al hb rb lo wa pe mw mp : Nat → Int32} {sz rk mh li : Int32} (h : ZHo n lv al hb rb sz rk mh lo) (hln : ZLn n wa pe li mw mp) (hq dq pq : Nat → Nat) (dp : Nat → Int32) (ds : Int32) (vd vh : Value) (wm wr ws wl : Int32) (se : Nat → Int32) (mm : Int32) (made : Nat → Int32) (mk lk x1 x2 x3 : Int32) :
    ∃ z y, f_X8_build fu hq dq pq al hb rb wa sz rk dp ds vd vh wm wr ws wl x1 x2 x3 = some z ∧ f_X9_build fu mh lo mw se mm made mk lk x1 x2 x3 = some y ∧ z.1 = y.1 ∧ y.2.2.2.2.2.2 = 0 ∧ ((z.2.2.2.2.2.2.2.2.2 = (.ref (pq 0), .ref (dq 0)) ∧ y.2.1 = se ∧ y.2.2.1 = mm) ∨ (z.2.2.2.2.2.2.2.2.2 = (.ref (dq 0), .ref (pq 0)) ∧ ZPl n lv mw z.2.1 z.2.2.1 y.2.1 y.2.2.1)) := by
  obtain ⟨x, y, h1, h2, h3⟩ := B_draw fu n hfu h hln dq hq dp ds vd vh wm wr ws wl made mk lk x1 x2 x3
  unfold f_X8_build f_X9_build
  rw [h1, h2, Option.bind_some, Option.bind_some]
  rcases h3 with ⟨e1, e2⟩ | ⟨e1, M, E, g1, g2, g3, g4, g5, g6, g7, g8, g9⟩
  · have hneg : x.1 < 0 := by rw [e1]; rcases e2 with q | q | q <;> rw [q] <;> decide
    have hnn : ¬ 0 ≤ y.1 := by rcases e2 with q | q | q <;> rw [q] <;> decide
    rw [if_pos hneg, if_neg hnn]
    exact ⟨_, _, rfl, rfl, e1, rfl, Or.inl ⟨rfl, rfl, rfl⟩⟩
  · have hpos : ¬ x.1 < 0 := by rw [g2]; exact nI_pos (by omega)
    have hnn : 0 ≤ y.1 := by rw [e1]; decide
    obtain ⟨r, r1, r2⟩ := m_buildL fu M E y.2.1 se hfu g1 g7 g6 (by rw [← g4.1]; exact g4)
    have hst := m_stepsOf fu M (srt E M) r.1 r.2 hfu g1 (fun i hi => (g5.2.2 i hi).1.1) r2
    rw [stp_srt] at hst
    rw [if_neg hpos, if_pos hnn, g4.1, r1, Option.bind_some, hst, Option.bind_some]
    exact ⟨_, _, rfl, rfl, g2, rfl, Or.inr ⟨rfl, M, srt E M, g5, r2, g6, g8.srt, g9.srt⟩⟩
theorem tck_le {N : Nat} {S : Nat → Nat → Nat} {mw mp : Nat → Int32} (hN : N ≤ 1200) (hst : stp S N ≤ 64) (h : ZLw N S mw mp) : tck N S mw mp ≤ 76864000 := by
  have := fb_sm_bound (f := mxs N S mw mp) (c := 1201000) (n := stp S N) (fun s _ => mx_le (fun i hi => tm_le hN h hi))
  have h2 : stp S N * 1201000 ≤ 64 * 1201000 := Nat.mul_le_mul_right _ hst
  unfold tck
  omega
theorem ZA.ticks {n : Nat} {lv : Nat → Bool} {wa pe mw mp : Nat → Int32} {li r : Int32} {pp : Nat → Int32} {ps c : Int32} {made : Nat → Int32} {mm : Int32} (fu : Nat) (hfu : 1200 < fu) (hn : n ≤ 16) (hln : ZLn n wa pe li mw mp) (h : ZA n lv mw r pp ps c made mm) :
    (f_X8_draftTicks fu wa pe pp ps r = some c ∧ (c = -1 ∨ c = -2 ∨ c = -3)) ∨ ∃ T, T < 2 ^ 31 ∧ c = 0 ∧ f_X8_draftTicks fu wa pe pp ps r = some (nI T) ∧ f_X9_ticksOf fu made mw mp mm = some (nI T) := by
  rcases h with ⟨e1, e2⟩ | ⟨e1, M, E, g1, g2, g3, g4, g5, g6, g7, g8, g9⟩
  · left
    have hnn : ¬ 0 ≤ r := by rw [e1]; rcases e2 with q | q | q <;> rw [q] <;> decide
    refine ⟨?_, e2⟩
    unfold f_X8_draftTicks
    rw [if_neg hnn, e1]
  · right
    have hw := ZLw.of hn hln g9
    have hws := ZLw.of hn hln g9.srt
    refine ⟨tck M E mw mp, ?_, e1, ?_, m_ticksOf fu hfu g1 g7 g4 hw.1⟩
    · have := tck_le g1 g3 hw.1
      omega
    · unfold f_X8_draftTicks
      rw [if_pos (by rw [g2]; exact nI_pos' (by omega)), b_inStep fu M (srt E M) pp wa pe mw mp ps hfu g5 g6 g8.srt hws.1 hws.2, tck_srt, Option.bind_some]
theorem B_price (fu n : Nat) (hfu : 1200 < fu) {lv : Nat → Bool} {al hb rb lo wa pe mw mp : Nat → Int32} {sz rk mh li : Int32} (h : ZHo n lv al hb rb sz rk mh lo) (hln : ZLn n wa pe li mw mp) (hq dq : Nat → Nat) (dp : Nat → Int32) (ds : Int32) (vd vh : Value) (wm wr ws wl : Int32) (made : Nat → Int32) (mk lk x1 x2 x3 : Int32) :
    ∃ z y, f_X8_price fu hq dq al hb rb wa pe sz rk dp ds vd vh wm wr ws wl x1 x2 x3 = some z ∧ f_X9_price fu mh lo mw mp made mk lk x1 x2 x3 = some y ∧ z.1 = y.1 ∧ y.2.2.2.2 = 0 := by
  have hn := h.2.1
  obtain ⟨x, y, h1, h2, h3⟩ := B_draw fu n hfu h hln dq hq dp ds vd vh wm wr ws wl made mk lk x1 x2 x3
  unfold f_X8_price f_X9_price
  rw [h1, h2, Option.bind_some, Option.bind_some]
  rcases h3.ticks fu hfu hn hln with ⟨g1, g2⟩ | ⟨T, hT, g1, g2, g3⟩
  · have hnn : ¬ 0 ≤ y.1 := by rcases g2 with q | q | q <;> rw [q] <;> decide
    rw [g1, Option.bind_some, if_neg hnn]
    exact ⟨_, _, rfl, rfl, rfl, rfl⟩
  · have hnn : 0 ≤ y.1 := by rw [g1]; decide
    rw [g2, Option.bind_some, if_pos hnn, g3, Option.bind_some]
    exact ⟨_, _, rfl, rfl, rfl, rfl⟩
theorem B_best (fu n : Nat) (hfu : 1200 < fu) {lv : Nat → Bool} {al hb rb lo wa pe mw mp : Nat → Int32} {sz rk mh li : Int32} (h : ZHo n lv al hb rb sz rk mh lo) (hln : ZLn n wa pe li mw mp) (hq dq : Nat → Nat) (dp : Nat → Int32) (ds : Int32) (vd vh : Value) (wm wr ws wl : Int32) (made : Nat → Int32) (mk lk x1 x2 : Int32) :
    ∃ z y, f_X8_best fu hq dq al hb rb wa pe sz rk dp ds vd vh wm wr ws wl x1 x2 = some z ∧ f_X9_best fu mh lo mw mp made mk lk x1 x2 = some y ∧ z.1 = y.1 ∧ y.2.2.2.2 = 0 := by
  obtain ⟨h0, hn, e3, e4, ha, hz, hl, e5, hpos, hr⟩ := id h
  unfold f_X8_best f_X9_best
  rw [e3, e4, b_isAsked fu n hn lv al ha, m_isAsk fu n (by omega) hn lv lo hl, Option.bind_some, Option.bind_some, ← e3]
  cases c2 : hx 5 x1 && lx n lv x2 with
  | false => exact ⟨_, _, rfl, rfl, rfl, rfl⟩
  | true =>
    rw [if_pos (show true = true from rfl), if_neg n_10.mp, if_neg n_10.mp]
    have key : ∃ r r', lp (f_X8_best_l23 fu hq dq al hb rb wa pe sz rk x1 x2) fu (0, (-2), 0, dp, ds, vd, vh, wm, wr, ws, wl) = some r ∧ lp (f_X9_best_l25 fu mh lo mw mp x1 x2) fu ((-2), 0, 0, made, mk, lk) = some r' ∧ r.1 = r'.1 := by
      refine lp_sim (f_X8_best_l23 fu hq dq al hb rb wa pe sz rk x1 x2) (f_X9_best_l25 fu mh lo mw mp x1 x2) 4 (fun i s s' => s.2.2.1 = nI i ∧ s'.2.2.1 = nI i ∧ s.1 = s'.2.1 ∧ s.2.1 = s'.1 ∧ (s.2.1 = -2 ∨ ∃ v, v < 4 ∧ s.2.1 = nI v)) (fun r r' => r.1 = r'.1) ?_ ?_ 4 0 _ _ fu fu (by omega) (by omega) (by omega) ⟨rfl, rfl, rfl, rfl, Or.inl rfl⟩
      · rintro i ⟨y3, y4, y5, dp, ds, vd, vh, wm, wr, ws, wl⟩ ⟨u3, u4, u5, made, mk, lk⟩ hi ⟨q1, q2, q3, q4, q5⟩
        dsimp only at q1 q2 q3 q4 q5
        subst q1 q2 q3 q4
        obtain ⟨x, y, h1, h2, h3⟩ := B_draw fu n hfu h hln dq hq dp ds vd vh wm wr ws wl made mk lk (nI i) x1 x2
        have hi3 : ¬ (3 : Int32) < nI i := by rw [zl3, nlt (by omega) (by omega)]; omega
        have hi4 : ¬ (4 : Int32) ≤ nI i := by rw [zl4, nle (by omega) (by omega)]; omega
        rcases h3.ticks fu hfu hn hln with ⟨g1, g2⟩ | ⟨T, hT, g1, g2, g3⟩
        · have hnn : ¬ 0 ≤ y.1 := by rcases g2 with q | q | q <;> rw [q] <;> decide
          have hneg : y.1 < 0 := by rcases g2 with q | q | q <;> rw [q] <;> decide
          refine ⟨(y3, y4, nI (i + 1), x.2.1, x.2.2.1, x.2.2.2.1, x.2.2.2.2.1, x.2.2.2.2.2.1, x.2.2.2.2.2.2.1, x.2.2.2.2.2.2.2.1, x.2.2.2.2.2.2.2.2), (y4, y3, nI (i + 1), y.2.1, y.2.2.1, y.2.2.2), fun k => ?_, fun k => ?_, rfl, rfl, rfl, rfl, q5⟩
          · unfold f_X8_best_l23
            dsimp only
            rw [if_neg hi3, h1, Option.bind_some, g1, Option.bind_some, if_pos hneg, nsucc]
          · unfold f_X9_best_l25
            dsimp only
            rw [if_neg hi4, h2, Option.bind_some, if_neg hnn, nsucc]
        · have hnn : 0 ≤ y.1 := by rw [g1]; decide
          have hTn : ¬ nI T < 0 := nI_pos hT
          rcases q5 with rfl | ⟨v, hv, rfl⟩
          · refine ⟨(nI T, nI i, nI (i + 1), x.2.1, x.2.2.1, x.2.2.2.1, x.2.2.2.2.1, x.2.2.2.2.2.1, x.2.2.2.2.2.2.1, x.2.2.2.2.2.2.2.1, x.2.2.2.2.2.2.2.2), (nI i, nI T, nI (i + 1), y.2.1, y.2.2.1, y.2.2.2), fun k => ?_, fun k => ?_, rfl, rfl, rfl, rfl, Or.inr ⟨i, hi, rfl⟩⟩
            · unfold f_X8_best_l23
              dsimp only
              rw [if_neg hi3, h1, Option.bind_some, g2, Option.bind_some, if_neg hTn, if_pos rfl, nsucc]
            · unfold f_X9_best_l25
              dsimp only
              rw [if_neg hi4, h2, Option.bind_some, if_pos hnn, g3, Option.bind_some, if_pos (show (-2 : Int32) < 0 by decide), nsucc]
          · have hv2 : ¬ nI v = (-2 : Int32) := fun q => by
              have := nI_pos (show v < 2 ^ 31 by omega)
              rw [q] at this
              exact this (by decide)
            by_cases hlt : nI T < y3
            · refine ⟨(nI T, nI i, nI (i + 1), x.2.1, x.2.2.1, x.2.2.2.1, x.2.2.2.2.1, x.2.2.2.2.2.1, x.2.2.2.2.2.2.1, x.2.2.2.2.2.2.2.1, x.2.2.2.2.2.2.2.2), (nI i, nI T, nI (i + 1), y.2.1, y.2.2.1, y.2.2.2), fun k => ?_, fun k => ?_, rfl, rfl, rfl, rfl, Or.inr ⟨i, hi, rfl⟩⟩
              · unfold f_X8_best_l23
                dsimp only
                rw [if_neg hi3, h1, Option.bind_some, g2, Option.bind_some, if_neg hTn, if_neg hv2, if_neg (fa_of_lt hlt).2.1, nsucc]
              · unfold f_X9_best_l25
                dsimp only
                rw [if_neg hi4, h2, Option.bind_some, if_pos hnn, g3, Option.bind_some, if_neg (nI_pos (by omega)), if_pos hlt, nsucc]
            · refine ⟨(y3, nI v, nI (i + 1), x.2.1, x.2.2.1, x.2.2.2.1, x.2.2.2.2.1, x.2.2.2.2.2.1, x.2.2.2.2.2.2.1, x.2.2.2.2.2.2.2.1, x.2.2.2.2.2.2.2.2), (nI v, y3, nI (i + 1), y.2.1, y.2.2.1, y.2.2.2), fun k => ?_, fun k => ?_, rfl, rfl, rfl, rfl, Or.inr ⟨v, hv, rfl⟩⟩
              · unfold f_X8_best_l23
                dsimp only
                rw [if_neg hi3, h1, Option.bind_some, g2, Option.bind_some, if_neg hTn, if_neg hv2, if_pos (fa_of_nlt hlt), nsucc]
              · unfold f_X9_best_l25
                dsimp only
                rw [if_neg hi4, h2, Option.bind_some, if_pos hnn, g3, Option.bind_some, if_neg (nI_pos (by omega)), if_neg hlt, nsucc]
      · rintro ⟨y3, y4, y5, dp, ds, vd, vh, wm, wr, ws, wl⟩ ⟨u3, u4, u5, made, mk, lk⟩ ⟨q1, q2, q3, q4, q5⟩
        dsimp only at q1 q2 q3 q4 q5
        subst q1 q2 q3 q4
        refine ⟨(y4, dp, ds, vd, vh, wm, wr, ws, wl), (y4, made, mk, lk), fun k => ?_, fun k => ?_, rfl⟩
        · unfold f_X8_best_l23
          dsimp only
          rw [if_pos (show (3 : Int32) < nI 4 by decide)]
        · unfold f_X9_best_l25
          dsimp only
          rw [if_pos (show (4 : Int32) ≤ nI 4 by decide)]
    obtain ⟨r, r', k1, k2, k3⟩ := key
    rw [show mh = sz from e4.trans e3.symm] at k2
    rw [k1, k2, Option.bind_some, Option.bind_some]
    exact ⟨_, _, rfl, rfl, k3, rfl⟩
