theorem mx_blk {f : Nat → Nat} {p : Nat → Bool} {a : Nat} : ∀ {i : Nat}, a ≤ i → (∀ j, a ≤ j → j ≤ i → p j = true ∧ f j = f i) → mx f p (i + 1) = max (mx f p a) (f i) := by
  intro i hai h
  refine Nat.le_antisymm ?_ ?_
  · rcases mx_at (f := f) (p := p) (n := i + 1) with z | ⟨j, b1, b2, b3⟩
    · omega
    · rcases Nat.lt_or_ge j a with q | q
      · have := mx_ub (f := f) q b2; omega
      · have := (h j q (by omega)).2; omega
  · have h1 : f i ≤ mx f p (i + 1) := mx_ub (by omega) (h i hai (Nat.le_refl i)).1
    rcases mx_at (f := f) (p := p) (n := a) with z | ⟨j, b1, b2, b3⟩
    · omega
    · have := mx_ub (f := f) (show j < i + 1 by omega) b2; omega
theorem sm_gap {f : Nat → Nat} {a b : Nat} (hab : a ≤ b) (h : ∀ s, a ≤ s → s < b → f s = 0) : fb_sm f b = fb_sm f a := by
  obtain ⟨d, rfl⟩ : ∃ d, b = a + d := ⟨b - a, by omega⟩
  rw [fb_sm_split]
  have : fb_sm (fun k => f (a + k)) d = 0 := by
    rw [show (0 : Nat) = fb_sm (fun _ => 0) d by rw [fb_sm_const]; omega]
    exact fb_sm_cong fun k hk => h (a + k) (by omega) (by omega)
  omega
theorem mx_none {f : Nat → Nat} {p : Nat → Bool} {n : Nat} (h : ∀ i, i < n → p i = false) : mx f p n = 0 := by
  rcases mx_at (f := f) (p := p) (n := n) with z | ⟨i, a, b, c⟩
  · exact z
  · rw [h i a] at b; cases b
theorem b_inStep (fu N : Nat) (S : Nat → Nat → Nat) (pp wa pe mw mp : Nat → Int32) (ps : Int32) (hfu : 1200 < fu) (hC : ZPc N S pp ps) (hS : ZSo N S) (hcp : ZCp N S) (hw : ZLw N S mw mp) (hwa : ∀ i, i < N → wa (ln (S i)) = mw (ln (S i)) ∧ pe (ln (S i)) = mp (ln (S i))) : f_X0_inStep fu wa pe pp ps = some (nI (tck N S mw mp)) := by
  obtain ⟨hN, hps, hCi⟩ := id hC
  have hok : ∀ i, i < N → sok (S i) := fun i hi => (hCi i hi).1
  have hgk : ∀ i j, i ≤ j → j < N → gk (S i) ≤ gk (S j) := fun i j h1 h2 => so_step hS hok h1 h2
  have hst : ∀ i j, i ≤ j → j < N → S i 0 ≤ S j 0 := fun i j h1 h2 => by
    have := hgk i j h1 h2
    have g1 := (hok i (by omega)).2.1
    have g2 := (hok j h2).2.1
    unfold gk at this; omega
  obtain ⟨r, h1, h2⟩ := lp_run (f_X0_inStep_l11 fu wa pe pp ps) N (fun i z => ∃ a, a ≤ i ∧ z.2.2.1 = nI (i - a) ∧ z.2.2.2 = nI i ∧
      (i = N → z.1 = nI (tck N S mw mp)) ∧ (i < N → (∀ j, j < a → gk (S j) < gk (S i)) ∧ (∀ j, a ≤ j → j ≤ i → gk (S j) = gk (S i)) ∧ z.1 = nI (fb_sm (mxs N S mw mp) (S i 0)) ∧ z.2.1 = nI (mx (fun j => tm N S mw mp (S j)) (fun j => decide (S j 0 = S i 0)) a))) (fun r => r = nI (tck N S mw mp)) (by
    rintro i ⟨su, lo, bl, x⟩ hi ⟨a, ha, h1, h2, -, h4⟩
    dsimp only at h1 h2 h4
    obtain ⟨h5, h6, h7, h8⟩ := h4 hi
    subst h1 h2 h7 h8
    left
    obtain ⟨s0, s1, s2, s3, s4, s5⟩ := hok i hi
    by_cases el : (i + 1 < N ∧ S i 0 = S (i + 1) 0 ∧ S i 1 = S (i + 1) 1)
    · -- the letter goes on
      have es : (i + 1 < N ∧ S i 0 = S (i + 1) 0) := ⟨el.1, el.2.1⟩
      have eg : gk (S (i + 1)) = gk (S i) := by unfold gk; rw [el.2.1, el.2.2]
      refine ⟨(nI (fb_sm (mxs N S mw mp) (S i 0)), nI (mx (fun j => tm N S mw mp (S j)) (fun j => decide (S j 0 = S i 0)) a), nI (i - a + 1), nI (i + 1)), fun k => ?_, a, by omega, by show nI (i - a + 1) = nI (i + 1 - a); congr 1; omega, rfl, fun q => by omega, fun _ => ⟨fun j hj => by rw [eg]; exact h5 j hj, fun j b1 b2 => ?_, by rw [← es.2], by rw [← es.2]⟩⟩
      · unfold f_X0_inStep_l11
        dsimp only
        rw [f_X4_size, Option.bind_some, hps, if_neg (by rw [nle (by omega) (by omega)]; omega), ← hps, b_endsLetter fu hC hi, if_pos el, Option.bind_some, if_pos rfl, b_endsStep fu hC hi, if_pos es, Option.bind_some, if_pos rfl, nsucc, nsucc]
      · rw [eg]
        rcases Nat.lt_succ_iff_lt_or_eq.mp (show j < i + 1 + 1 by omega) with q | q
        · exact h6 j b1 (by omega)
        · rw [q, eg]
    · -- the letter ends
      have hafter : ∀ j, i < j → j < N → gk (S i) < gk (S j) := fun j b1 b2 => by
        have c1 := hgk i (i + 1) (by omega) (by omega)
        have c2 := hgk (i + 1) j (by omega) b2
        have g1 := (hok (i + 1) (by omega)).2.1
        have c3 : gk (S i) ≠ gk (S (i + 1)) := fun q => el ⟨by omega, by unfold gk at q; omega⟩
        omega
      have hlc := lct_blk hok hcp ha hi h5 h6 hafter
      obtain ⟨w, p, hw1, hp1, hmw, hmp⟩ := hw i hi
      have hwa1 := hwa i hi
      have elt : f_X3_letterTicks fu wa pe (nI (S i 1)) (nI (S i 2)) (nI (i - a + 1)) = some (nI (tm N S mw mp (S i))) := by
        rw [b_letterTicks fu wa pe (w := w) (p := p) s1 s2 hw1 (by rw [← hmw]; exact hwa1.1) (by rw [← hmp]; exact hwa1.2)]
        unfold tm nv
        rw [hmw, hmp, ncl (by omega), ncl (by omega), hlc]
        congr 4; omega
      have hbl : ∀ j, a ≤ j → j ≤ i → (fun j => decide (S j 0 = S i 0)) j = true ∧ (fun j => tm N S mw mp (S j)) j = (fun j => tm N S mw mp (S j)) i := by
        intro j b1 b2
        have q := h6 j b1 b2
        obtain ⟨t0, t1, t2, t3, t4, t5⟩ := hok j (by omega)
        have q2 : S j 0 = S i 0 ∧ S j 1 = S i 1 := by unfold gk at q; omega
        have q3 := (hcp j i (by omega) hi q2.1).mp q2.2
        refine ⟨decide_eq_true q2.1, ?_⟩
        show tm N S mw mp (S j) = tm N S mw mp (S i)
        have e1 : ln (S j) = ln (S i) := by unfold ln; rw [q2.2, q3]
        have e2 : lct N S (S j) = lct N S (S i) := by unfold lct sl; rw [q2.1, q2.2, q3]
        unfold tm; rw [e1, e2]
      have hmx := mx_blk ha hbl
      have hb1 := tm_le hN hw hi
      have hb2 : mx (fun j => tm N S mw mp (S j)) (fun j => decide (S j 0 = S i 0)) a ≤ 1201000 := mx_le (fun j hj => tm_le hN hw (by omega))
      have hM : (if nI (mx (fun j => tm N S mw mp (S j)) (fun j => decide (S j 0 = S i 0)) a) < nI (tm N S mw mp (S i)) then nI (tm N S mw mp (S i)) else nI (mx (fun j => tm N S mw mp (S j)) (fun j => decide (S j 0 = S i 0)) a)) = nI (mx (fun j => tm N S mw mp (S j)) (fun j => decide (S j 0 = S i 0)) (i + 1)) := by
        rw [hmx]
        by_cases q : mx (fun j => tm N S mw mp (S j)) (fun j => decide (S j 0 = S i 0)) a < tm N S mw mp (S i)
        · rw [if_pos (by rw [nlt (by omega) (by omega)]; exact q)]; congr 1; omega
        · rw [if_neg (by rw [nlt (by omega) (by omega)]; exact q)]; congr 1; omega
      by_cases es : (i + 1 < N ∧ S i 0 = S (i + 1) 0)
      · refine ⟨(nI (fb_sm (mxs N S mw mp) (S i 0)), nI (mx (fun j => tm N S mw mp (S j)) (fun j => decide (S j 0 = S i 0)) (i + 1)), 0, nI (i + 1)), fun k => ?_, i + 1, Nat.le_refl _, by show _ = nI (i + 1 - (i + 1)); rw [Nat.sub_self]; rfl, rfl, fun q => by omega, fun _ => ⟨fun j hj => ?_, fun j b1 b2 => by rw [show j = i + 1 by omega], by rw [← es.2], by rw [← es.2]⟩⟩
        · unfold f_X0_inStep_l11
          simp only [vn]
          rw [f_X4_size, Option.bind_some, hps, if_neg (by rw [nle (by omega) (by omega)]; omega), ← hps, b_endsLetter fu hC hi, if_neg el, Option.bind_some, if_neg n_10.mp, b_from fu hC hi, Option.bind_some, b_to fu hC hi, Option.bind_some, nsucc, elt, Option.bind_some, b_endsStep fu hC hi, if_pos es, Option.bind_some, if_pos rfl, hM, nsucc]
        · have c1 := hgk j i (by omega) hi
          have c2 := hafter (i + 1) (by omega) es.1
          omega
      · have hfull : mx (fun j => tm N S mw mp (S j)) (fun j => decide (S j 0 = S i 0)) (i + 1) = mxs N S mw mp (S i 0) := by
          unfold mxs
          refine mx_eq (fun j b1 b2 => ⟨j, by omega, b2, rfl⟩) (fun j b1 b2 => ⟨j, ?_, b2, rfl⟩)
          refine Classical.byContradiction fun q => ?_
          have c1 := of_decide_eq_true b2
          have c2 := hst (i + 1) j (by omega) b1
          have c3 := hst i (i + 1) (by omega) (by omega)
          exact es ⟨by omega, by omega⟩
        have hstep : ∀ k, f_X0_inStep_l11 fu wa pe pp ps k (nI (fb_sm (mxs N S mw mp) (S i 0)), nI (mx (fun j => tm N S mw mp (S j)) (fun j => decide (S j 0 = S i 0)) a), nI (i - a), nI i) = k (nI (fb_sm (mxs N S mw mp) (S i 0 + 1)), 0, 0, nI (i + 1)) := by
          intro k
          unfold f_X0_inStep_l11
          simp only [vn]
          rw [f_X4_size, Option.bind_some, hps, if_neg (by rw [nle (by omega) (by omega)]; omega), ← hps, b_endsLetter fu hC hi, if_neg el, Option.bind_some, if_neg n_10.mp, b_from fu hC hi, Option.bind_some, b_to fu hC hi, Option.bind_some, nsucc, elt, Option.bind_some, b_endsStep fu hC hi, if_neg es, Option.bind_some, if_neg n_10.mp, hM, nadd, hfull, nsucc, fb_sm_succ]
        refine ⟨(nI (fb_sm (mxs N S mw mp) (S i 0 + 1)), 0, 0, nI (i + 1)), hstep, i + 1, Nat.le_refl _, by show _ = nI (i + 1 - (i + 1)); rw [Nat.sub_self]; rfl, rfl, fun q => ?_, fun q => ⟨fun j hj => ?_, fun j b1 b2 => by rw [show j = i + 1 by omega], ?_, ?_⟩⟩
        · show nI _ = _
          unfold tck
          rw [stp_so hS hok, if_neg (by omega), show N - 1 = i by omega]
        · have c1 := hgk j i (by omega) hi
          have c2 := hafter (i + 1) (by omega) q
          omega
        · show nI _ = nI _
          have c3 := hst i (i + 1) (by omega) q
          have c4 : S i 0 ≠ S (i + 1) 0 := fun z => es ⟨q, z⟩
          congr 1
          refine (sm_gap (by omega) (fun s b1 b2 => ?_)).symm
          refine mx_none (fun j hj => decide_eq_false fun z => ?_)
          rcases Nat.lt_or_ge i j with w1 | w1
          · have := hst (i + 1) j (by omega) hj; omega
          · have := hst j i w1 hi; omega
        · show (0 : Int32) = nI _
          rw [mx_none (fun j hj => decide_eq_false fun z => ?_)]
          · rfl
          · have := hst j i (by omega) hi
            have c4 : S i 0 ≠ S (i + 1) 0 := fun z => es ⟨q, z⟩
            have c3 := hst i (i + 1) (by omega) q
            omega) (by
    rintro ⟨su, lo, bl, x⟩ ⟨a, ha, h1, h2, h3, -⟩
    dsimp only at h1 h2 h3
    subst h2
    refine ⟨su, fun k => ?_, h3 rfl⟩
    unfold f_X0_inStep_l11
    dsimp only
    rw [f_X4_size, Option.bind_some, hps, if_pos (by rw [nle (by omega) (by omega)]; omega)]) N 0 (0, 0, 0, 0) fu (by omega) (by omega) ⟨0, Nat.le_refl 0, rfl, rfl, fun q => by
      show (0 : Int32) = _
      unfold tck
      rw [← q]; rfl, fun q => ⟨fun j hj => by omega, fun j b1 b2 => by rw [show j = 0 by omega], by
        show (0 : Int32) = nI _
        rw [sm_gap (f := mxs N S mw mp) (Nat.zero_le (S 0 0)) (fun s b1 b2 => mx_none (fun j hj => decide_eq_false fun z => by
          have := hst 0 j (by omega) hj; omega))]
        rfl, rfl⟩⟩
  simp only [f_X0_inStep, h1, h2, Option.bind_some]
theorem ZLw.of {n : Nat} {lv : Nat → Bool} {wa pe mw mp : Nat → Int32} {li : Int32} {N : Nat} {S : Nat → Nat → Nat} (hn : n ≤ 16) (hln : ZLn n wa pe li mw mp) (hli : ZLi n lv mw N S) : ZLw N S mw mp ∧ ∀ i, i < N → wa (ln (S i)) = mw (ln (S i)) ∧ pe (ln (S i)) = mp (ln (S i)) := by
  refine ⟨fun i hi => ?_, fun i hi => ?_⟩
  · obtain ⟨a1, a2, a3, a4, a5⟩ := hli i hi
    rcases hln.2.2.2.1 (ln (S i)) (by unfold ln; omega) with q | ⟨w, p, q1, q2, q3, q4, q5, q6⟩
    · exact absurd q a5
    · exact ⟨w, p, q1, q3, q4, q5⟩
  · obtain ⟨a1, a2, a3, a4, a5⟩ := hli i hi
    refine ⟨hln.1 _ (by unfold ln; omega), ?_⟩
    rcases hln.2.2.2.1 (ln (S i)) (by unfold ln; omega) with q | ⟨w, p, q1, q2, q3, q4, q5, q6⟩
    · exact absurd q a5
    · rw [q5, q6]
theorem B_ticks (fu n : Nat) (hfu : 1200 < fu) (hn : n ≤ 16) {lv : Nat → Bool} {wa pe mw mp pp se : Nat → Int32} {li ps mm : Int32} (hln : ZLn n wa pe li mw mp) (hpl : ZPl n lv mw pp ps se mm) : ∃ r, f_X8_ticks fu wa pe pp ps = some r ∧ f_X9_ticks fu mw mp se mm = some (r, 0) := by
  obtain ⟨N, S, hC, hM, hS, hcp, hli⟩ := id hpl
  obtain ⟨hw, hwa⟩ := ZLw.of hn hln hli
  refine ⟨nI (tck N S mw mp), ?_, ?_⟩
  · rw [f_X8_ticks, b_inStep fu N S pp wa pe mw mp ps hfu hC hS hcp hw hwa]; rfl
  · rw [f_X9_ticks, m_ticksOf fu hfu hC.1 (fun i hi => (hC.2.2 i hi).1) hM hw]; rfl
