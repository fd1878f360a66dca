/-! right: both answer alike -/
theorem b_isAsked (fu n : Nat) (hn : n ≤ 16) (lv : Nat → Bool) (al : Nat → Int32) (ha : ∀ j, j < 16 → al j = if lv j then 1 else 0) (x1 x2 : Int32) : f_X8_isAsked fu al (nI n) x1 x2 = some (if (hx 5 x1 && lx n lv x2) then 1 else 0) := by
  unfold f_X8_isAsked
  rw [b_isLive fu n hn lv al ha, Option.bind_some]
  cases h : hx 5 x1 with
  | false =>
    rcases hx_f (by omega) h with q | ⟨q, q2⟩
    · rw [if_pos q]; rfl
    · rw [if_neg q, if_pos (by rw [fa_le] at q2; rw [fa_lt]; have e : (nI 5).toInt = 5 := (by decide); have e4 : (4 : Int32).toInt = 4 := (by decide); omega)]; rfl
  | true =>
    obtain ⟨j, hj, hj2, rfl⟩ := hx_t h
    rw [if_neg (nI_pos hj2), if_neg (show ¬ (4 : Int32) < nI j by rw [zl4, nlt (by omega) (by omega)]; omega)]
    cases lx n lv x2 <;> rfl
theorem m_isAsk (fu n : Nat) (h0 : 0 < n) (hn : n ≤ 16) (lv : Nat → Bool) (lo : Nat → Int32) (hl : ∀ j, j < n → (lv j = true ↔ lo j = 0)) (x1 x2 : Int32) : f_X9_isAsk fu (nI n) lo x1 x2 = some (if (hx 5 x1 && lx n lv x2) then 1 else 0) := by
  unfold f_X9_isAsk
  rw [m_in, m_isLive fu n h0 hn lv lo hl, Option.bind_some]
  cases h : hx 5 x1 with
  | false =>
    have hcond : x1 < 0 ∨ 4 < x1 := by
      rcases hx_f (by omega) h with q | ⟨q, q2⟩
      · exact Or.inl q
      · right; rw [fa_le] at q2; rw [fa_lt]; have e : (nI 5).toInt = 5 := (by decide); have e4 : (4 : Int32).toInt = 4 := (by decide); omega
    rw [if_pos hcond]; rfl
  | true =>
    obtain ⟨j, hj, hj2, rfl⟩ := hx_t h
    have hcond : ¬ (nI j < 0 ∨ 4 < nI j) := by
      intro q
      rcases q with q | q
      · exact nI_pos hj2 q
      · rw [zl4, nlt (by omega) (by omega)] at q; omega
    rw [if_neg hcond]
    cases lx n lv x2 <;> rfl
def want (n : Nat) (lv : Nat → Bool) (a r c o : Nat) : Bool :=
  if c % 16 < fb_ct lv n then
    if a = 0 then decide (o = 16 * r + c % 16)
    else if a = 1 ∨ a = 2 then decide (o % 16 = c % 16 ∧ o / 16 < n ∧ lv (o / 16) = true)
    else if a = 3 then decide (o = 16 * hst lv n (c % 16) + c % 16)
    else decide (o = 16 * hst lv n (c % 16) + fb_ct lv (c / 16))
  else decide (o = c)
def fre (n : Nat) (lv : Nat → Bool) (a r c : Nat) : Prop := a = 1 ∧ c / 16 ≠ r ∧ c % 16 < fb_ct lv n
theorem sh4 {n : Nat} (h : n < 2 ^ 31) : nI n >>> ((4 : Int32) &&& 31) = nI (n / 16) := pk_shrN h _ 4 (by decide)
theorem b_hostOfCell (fu c : Nat) (h : c < 256) : f_X8_hostOfCell fu (nI c) = some (nI (c / 16)) := by unfold f_X8_hostOfCell; rw [sh4 (by omega)]
theorem b_blockOfCell (fu c : Nat) (h : c < 256) : f_X8_blockOfCell fu (nI c) = some (nI (c % 16)) := by unfold f_X8_blockOfCell; rw [an15 (by omega)]
theorem b_cell (fu a b : Nat) : f_X8_cell fu (nI a) (nI b) = some (nI (16 * a + b)) := by
  simp (disch := omega) only [f_X8_cell, nlt0, nle, nlt, neqI, ncl, nadd, nmul, nm1, nm1', nsucc, n_eq0, n_eq0', n_eq1, n_le0, n_0lt, n_0le, n_1le, n_le1, n_01, n_10, nsubI, nsub1, naddm1, ofNat_nI, zl2, zl3, zl4, zl5, zl6, zl7, zl8, zl9, zl13, zl15, zl16, zl17, zl31, zl63, zl64, zl100, zl256, zl1000, zl1200, zl7200, zl65536, zl100000, if_true, if_false, or_false, false_or, true_or, or_true, and_true, true_and, false_and, and_false, not_true_eq_false, not_false_eq_true, if_pos, if_neg, Option.bind_some, Option.bind_none, vn, reduceCtorEq, Nat.mul_comm a 16]
section RI
variable {n : Nat} {lv : Nat → Bool} {al hb rb : Nat → Int32}
theorem b_isFree (fu : Nat) (hn : n ≤ 16) {a r c : Nat} (ha : a < 5) (hr : r < 16) (hc : c < 256) : ∃ z, f_X6_isFree fu (nI (fb_ct lv n)) (nI a) (nI r) (nI c) = some z ∧ ((z = 0 ∧ ¬ fre n lv a r c) ∨ (z = 1 ∧ fre n lv a r c)) := by
  have hct := fb_ct_le lv n
  unfold f_X6_isFree fre
  rw [b_hostOfCell fu c hc, b_blockOfCell fu c hc, f_X3_ranks]
  by_cases e1 : a = 1
  · rw [if_pos (by rw [n_eq1 (by omega)]; exact e1), Option.bind_some]
    by_cases e2 : c / 16 = r
    · exact ⟨0, by rw [if_pos (by rw [e2])], Or.inl ⟨rfl, fun q => q.2.1 e2⟩⟩
    · rw [if_neg (fun q => e2 ((nI_eq (by omega) (by omega)).mp q)), Option.bind_some, Option.bind_some]
      by_cases e3 : c % 16 < fb_ct lv n
      · exact ⟨1, by rw [if_neg (by rw [nle (by omega) (by omega)]; omega)], Or.inr ⟨rfl, e1, e2, e3⟩⟩
      · exact ⟨0, by rw [if_pos (by rw [nle (by omega) (by omega)]; omega)], Or.inl ⟨rfl, fun q => e3 q.2.2⟩⟩
  · exact ⟨0, by rw [if_neg (by rw [n_eq1 (by omega)]; exact e1)], Or.inl ⟨rfl, fun q => e1 q.1⟩⟩
theorem b_sumOf (fu : Nat) (hfu : 16 < fu) (hn : n ≤ 16) (hz : ∀ j, n ≤ j → lv j = false) (hal : ∀ j, j < 16 → al j = if lv j then 1 else 0) {g b : Nat} (hg : g < 4) (hb : b < 16) : ∃ A, f_X6_sumOf fu al (nI n) (nI g) (nI b) = some A ∧ ∀ k, k < 64 → bt A k = decide ((64 * g + k) % 16 = b ∧ (64 * g + k) / 16 < n ∧ lv ((64 * g + k) / 16) = true) := by
  obtain ⟨A, h1, h2⟩ := lp_run (f_X6_sumOf_l5 fu al (nI n) (nI g) (nI b)) 4 (fun i s => s.2 = nI i ∧ ∀ k, k < 64 → bt s.1 k = decide ((64 * g + k) % 16 = b ∧ (64 * g + k) / 16 < 4 * g + i ∧ (64 * g + k) / 16 < n ∧ lv ((64 * g + k) / 16) = true)) (fun A => ∀ k, k < 64 → bt A k = decide ((64 * g + k) % 16 = b ∧ (64 * g + k) / 16 < n ∧ lv ((64 * g + k) / 16) = true)) (by
    rintro i ⟨A, x⟩ hi ⟨h1, h2⟩
    dsimp only at h1 h2
    subst h1
    left
    have key : ∀ kk, f_X6_sumOf_l5 fu al (nI n) (nI g) (nI b) kk (A, nI i) = if (decide (4 * g + i < n) && lv (4 * g + i)) = true then kk (A ||| sgn g (16 * (4 * g + i) + b), nI (i + 1)) else kk (A, nI (i + 1)) := by
      intro kk
      unfold f_X6_sumOf_l5
      simp only [vn]
      rw [if_neg (show ¬ (4 : Int32) ≤ nI i by rw [zl4, nle (by omega) (by omega)]; omega), zl4, nmul, nadd, show g * 4 + i = 4 * g + i by omega, b_isLive fu n hn lv al hal, lx_nI (by omega), Option.bind_some, b_cell, Option.bind_some, b_signOf fu g _ hg (by omega), Option.bind_some, nsucc]
      cases (decide (4 * g + i < n) && lv (4 * g + i)) <;> rfl
    by_cases e : (decide (4 * g + i < n) && lv (4 * g + i)) = true
    · refine ⟨(A ||| sgn g (16 * (4 * g + i) + b), nI (i + 1)), fun kk => by rw [key, if_pos e], rfl, fun k hk => ?_⟩
      rw [bt_or, h2 k hk, bt_sign g _ k hk]
      rw [Bool.and_eq_true, decide_eq_true_iff] at e
      by_cases q : 16 * (4 * g + i) + b = 64 * g + k
      · have q2 : (64 * g + k) / 16 = 4 * g + i := by omega
        have q3 : (64 * g + k) % 16 = b := by omega
        rw [decide_eq_true q, Bool.or_true, decide_eq_true ⟨q3, by omega, by omega, by rw [q2]; exact e.2⟩]
      · rw [decide_eq_false q, Bool.or_false]
        congr 1
        refine propext ⟨fun z => ⟨z.1, by omega, z.2.2⟩, fun z => ⟨z.1, by omega, z.2.2⟩⟩
    · refine ⟨(A, nI (i + 1)), fun kk => by rw [key, if_neg e], rfl, fun k hk => ?_⟩
      rw [h2 k hk]
      congr 1
      refine propext ⟨fun z => ⟨z.1, by omega, z.2.2⟩, fun z => ⟨z.1, ?_, z.2.2⟩⟩
      refine Classical.byContradiction fun w => e ?_
      have q2 : (64 * g + k) / 16 = 4 * g + i := by omega
      rw [q2] at z
      rw [Bool.and_eq_true, decide_eq_true_iff]; exact z.2.2) (by
    rintro ⟨A, x⟩ ⟨h1, h2⟩
    dsimp only at h1 h2
    subst h1
    refine ⟨A, fun k => by simp (disch := omega) only [f_X6_sumOf_l5, nlt0, nle, nlt, neqI, ncl, nadd, nmul, nm1, nm1', nsucc, n_eq0, n_eq0', n_eq1, n_le0, n_0lt, n_0le, n_1le, n_le1, n_01, n_10, nsubI, nsub1, naddm1, ofNat_nI, zl2, zl3, zl4, zl5, zl6, zl7, zl8, zl9, zl13, zl15, zl16, zl17, zl31, zl63, zl64, zl100, zl256, zl1000, zl1200, zl7200, zl65536, zl100000, if_true, if_false, or_false, false_or, true_or, or_true, and_true, true_and, false_and, and_false, not_true_eq_false, not_false_eq_true, if_pos, if_neg, Option.bind_some, Option.bind_none, vn, reduceCtorEq], fun k hk => ?_⟩
    rw [h2 k hk]
    congr 1
    refine propext ⟨fun z => ⟨z.1, z.2.2⟩, fun z => ⟨z.1, by omega, z.2⟩⟩) 4 0 (0, 0) fu (by omega) (by omega) ⟨rfl, fun k hk => by
      show bt 0 k = _
      rw [bt_0, decide_eq_false]; omega⟩
  exact ⟨A, by simp only [f_X6_sumOf, h1, Option.bind_some], h2⟩
theorem b_askedOf (fu : Nat) (hfu : 16 < fu) (hn : n ≤ 16) (hz : ∀ j, n ≤ j → lv j = false) (hal : ∀ j, j < 16 → al j = if lv j then 1 else 0) (hr : ∀ j, j < n → lv j = true → hb (fb_ct lv j) = nI j ∧ rb j = nI (fb_ct lv j)) {g a r c : Nat} (hg : g < 4) (ha : a < 5) (hrn : r < n) (hc : c < 256) (hcn : c / 16 < n) (hcl : lv (c / 16) = true) : ∃ A, f_X6_askedOf fu al hb rb (nI n) (nI (fb_ct lv n)) (nI g) (nI a) (nI r) (nI c) = some A ∧ ∀ k, k < 64 → bt A k = want n lv a r c (64 * g + k) := by
  have hct := fb_ct_le lv n
  have hct2 := fb_ct_le lv (c / 16)
  have hsig : ∀ d, d < 256 → ∃ A, f_X6_signOf fu (nI g) (nI d) = some A ∧ ∀ k, k < 64 → bt A k = decide (64 * g + k = d) := fun d hd => ⟨sgn g d, b_signOf fu g d hg hd, fun k hk => by
    rw [bt_sign g d k hk]
    by_cases q : d = 64 * g + k
    · rw [decide_eq_true q, decide_eq_true q.symm]
    · rw [decide_eq_false q, decide_eq_false (fun z => q z.symm)]⟩
  unfold f_X6_askedOf want
  rw [b_blockOfCell fu c hc, f_X3_ranks, Option.bind_some, Option.bind_some]
  by_cases e1 : c % 16 < fb_ct lv n
  · rw [if_pos (by rw [nlt (by omega) (by omega)]; exact e1)]
    have hho : f_X3_hostOf fu hb (nI (fb_ct lv n)) (nI (c % 16)) = some (nI (hst lv n (c % 16))) := b_hostOf fu n (c % 16) lv hb hn e1 (fun j h1 h2 => (hr j h1 h2).1)
    have hh := (hst_ok e1).1
    rcases (show a = 0 ∨ a = 1 ∨ a = 2 ∨ a = 3 ∨ a = 4 by omega) with rfl | rfl | rfl | rfl | rfl
    · obtain ⟨A, s1, s2⟩ := hsig (16 * r + c % 16) (by omega)
      refine ⟨A, ?_, fun k hk => ?_⟩
      · rw [if_pos (show nI 0 = (0 : Int32) from rfl), b_cell, Option.bind_some, s1]; rfl
      · rw [if_pos e1, if_pos rfl]; exact s2 k hk
    · obtain ⟨A, s1, s2⟩ := b_sumOf (b := c % 16) fu hfu hn hz hal hg (by omega)
      refine ⟨A, ?_, fun k hk => ?_⟩
      · rw [if_neg (show ¬ nI 1 = (0 : Int32) by decide), if_pos (show nI 1 = (1 : Int32) from rfl), s1]; rfl
      · rw [if_pos e1, if_neg (by omega), if_pos (Or.inl rfl)]; exact s2 k hk
    · obtain ⟨A, s1, s2⟩ := b_sumOf (b := c % 16) fu hfu hn hz hal hg (by omega)
      refine ⟨A, ?_, fun k hk => ?_⟩
      · rw [if_neg (show ¬ nI 2 = (0 : Int32) by decide), if_neg (show ¬ nI 2 = (1 : Int32) by decide), if_pos (show nI 2 = (2 : Int32) from rfl), s1]; rfl
      · rw [if_pos e1, if_neg (by omega), if_pos (Or.inr rfl)]; exact s2 k hk
    · obtain ⟨A, s1, s2⟩ := hsig (16 * hst lv n (c % 16) + c % 16) (by omega)
      refine ⟨A, ?_, fun k hk => ?_⟩
      · rw [if_neg (show ¬ nI 3 = (0 : Int32) by decide), if_neg (show ¬ nI 3 = (1 : Int32) by decide), if_neg (show ¬ nI 3 = (2 : Int32) by decide), if_pos (show nI 3 = (3 : Int32) from rfl), hho, Option.bind_some, b_cell, Option.bind_some, s1]; rfl
      · rw [if_pos e1, if_neg (by omega), if_neg (by omega), if_pos rfl]; exact s2 k hk
    · obtain ⟨A, s1, s2⟩ := hsig (16 * hst lv n (c % 16) + fb_ct lv (c / 16)) (by omega)
      refine ⟨A, ?_, fun k hk => ?_⟩
      · rw [if_neg (show ¬ nI 4 = (0 : Int32) by decide), if_neg (show ¬ nI 4 = (1 : Int32) by decide), if_neg (show ¬ nI 4 = (2 : Int32) by decide), if_neg (show ¬ nI 4 = (3 : Int32) by decide), if_pos (show nI 4 = (4 : Int32) from rfl), hho, Option.bind_some, b_hostOfCell fu c hc, Option.bind_some, b_rankOf fu n (c / 16) lv al rb hn hcn hcl hal (fun j h1 h2 => (hr j h1 h2).2), Option.bind_some, b_cell, Option.bind_some, s1]; rfl
      · rw [if_pos e1, if_neg (by omega), if_neg (by omega), if_neg (by omega)]; exact s2 k hk
  · obtain ⟨A, s1, s2⟩ := hsig c hc
    refine ⟨A, ?_, fun k hk => ?_⟩
    · rw [if_neg (by rw [nlt (by omega) (by omega)]; exact e1), s1]; rfl
    · rw [if_neg e1]; exact s2 k hk
theorem m_due (fu : Nat) (hfu : 16 < fu) (h0 : 0 < n) (hn : n ≤ 16) {lo : Nat → Int32} (hl : ∀ j, j < n → (lv j = true ↔ lo j = 0)) {a r h b oh ob : Nat} (ha : a < 5) (hr : r < n) (hh : h < n) (hb : b < 16) (hoh : oh < 16) (hob : ob < 16) : (fre n lv a r (16 * h + b) ∧ f_X9_due fu (nI n) lo (nI a) (nI r) (nI h) (nI b) (nI oh) (nI ob) (nI (fb_ct lv n)) = some (-1)) ∨ (¬ fre n lv a r (16 * h + b) ∧ f_X9_due fu (nI n) lo (nI a) (nI r) (nI h) (nI b) (nI oh) (nI ob) (nI (fb_ct lv n)) = some (nI (if want n lv a r (16 * h + b) (16 * oh + ob) = true then 1 else 0))) := by
  have hct := fb_ct_le lv n
  have hct2 := fb_ct_le lv h
  have c1 : (16 * h + b) % 16 = b := by omega
  have c2 : (16 * h + b) / 16 = h := by omega
  have o1 : (16 * oh + ob) % 16 = ob := by omega
  have o2 : (16 * oh + ob) / 16 = oh := by omega
  unfold f_X9_due want fre
  rw [c1, c2, o1, o2]
  have hlive : f_X9_isLive fu (nI n) lo (nI oh) = some (if (decide (oh < n) && lv oh) = true then 1 else 0) := by rw [m_isLive fu n h0 hn lv lo hl, lx_nI (by omega)]
  by_cases e1 : b < fb_ct lv n
  · rw [if_pos (show nI b < nI (fb_ct lv n) by rw [nlt (by omega) (by omega)]; exact e1), if_pos e1]
    have hho : f_X9_hostOf fu lo (nI b) = some (nI (hst lv n b)) := m_hostOf fu n b hn hfu lv lo hl e1
    have hh2 := (hst_ok e1).1
    rcases (show a = 0 ∨ a = 1 ∨ a = 2 ∨ a = 3 ∨ a = 4 by omega) with rfl | rfl | rfl | rfl | rfl
    · right
      refine ⟨fun q => by omega, ?_⟩
      rw [if_pos (show nI 0 = (0 : Int32) from rfl), if_pos rfl]
      by_cases q1 : oh = r
      · rw [if_pos (by rw [q1])]
        by_cases q2 : ob = b
        · rw [if_pos (by rw [q2]), if_pos (decide_eq_true (by omega))]; rfl
        · rw [if_neg (fun z => q2 ((nI_eq (by omega) (by omega)).mp z)), if_neg (fun z => q2 (by have := of_decide_eq_true z; omega))]; rfl
      · rw [if_neg (fun z => q1 ((nI_eq (by omega) (by omega)).mp z)), if_neg (fun z => q1 (by have := of_decide_eq_true z; omega))]; rfl
    · rw [if_neg (show ¬ nI 1 = (0 : Int32) by decide), if_pos (show nI 1 = (1 : Int32) from rfl), if_neg (show ¬ 1 = 0 by omega), if_pos (Or.inl rfl)]
      by_cases q0 : h = r
      · right
        refine ⟨fun q => q.2.1 q0, ?_⟩
        rw [if_pos (by rw [q0]), hlive]
        by_cases q2 : ob = b
        · rw [if_pos (by rw [q2]), Option.bind_some]
          by_cases q3 : (decide (oh < n) && lv oh) = true
          · rw [if_pos q3, if_neg n_10.mp]
            rw [Bool.and_eq_true, decide_eq_true_iff] at q3
            rw [if_pos (decide_eq_true ⟨q2, q3⟩)]; rfl
          · rw [if_neg q3, if_pos rfl]
            rw [Bool.and_eq_true, decide_eq_true_iff] at q3
            rw [if_neg (fun z => q3 (of_decide_eq_true z).2)]; rfl
        · rw [if_neg (fun z => q2 ((nI_eq (by omega) (by omega)).mp z)), if_neg (fun z => q2 (of_decide_eq_true z).1)]; rfl
      · left
        exact ⟨⟨rfl, q0, e1⟩, by rw [if_neg (fun z => q0 ((nI_eq (by omega) (by omega)).mp z))]⟩
    · right
      refine ⟨fun q => by omega, ?_⟩
      rw [if_neg (show ¬ nI 2 = (0 : Int32) by decide), if_neg (show ¬ nI 2 = (1 : Int32) by decide), if_pos (show nI 2 = (2 : Int32) from rfl), if_neg (show ¬ 2 = 0 by omega), if_pos (Or.inr rfl), hlive]
      by_cases q2 : ob = b
      · rw [if_pos (by rw [q2]), Option.bind_some]
        by_cases q3 : (decide (oh < n) && lv oh) = true
        · rw [if_pos q3, if_neg n_10.mp]
          rw [Bool.and_eq_true, decide_eq_true_iff] at q3
          rw [if_pos (decide_eq_true ⟨q2, q3⟩)]; rfl
        · rw [if_neg q3, if_pos rfl]
          rw [Bool.and_eq_true, decide_eq_true_iff] at q3
          rw [if_neg (fun z => q3 (of_decide_eq_true z).2)]; rfl
      · rw [if_neg (fun z => q2 ((nI_eq (by omega) (by omega)).mp z)), if_neg (fun z => q2 (of_decide_eq_true z).1)]; rfl
    · right
      refine ⟨fun q => by omega, ?_⟩
      rw [if_neg (show ¬ nI 3 = (0 : Int32) by decide), if_neg (show ¬ nI 3 = (1 : Int32) by decide), if_neg (show ¬ nI 3 = (2 : Int32) by decide), if_pos (show nI 3 = (3 : Int32) from rfl), if_neg (show ¬ 3 = 0 by omega), if_neg (show ¬ (3 = 1 ∨ 3 = 2) by omega), if_pos rfl, hho, Option.bind_some]
      by_cases q1 : oh = hst lv n b
      · rw [if_pos (by rw [q1])]
        by_cases q2 : ob = b
        · rw [if_pos (by rw [q2]), if_pos (decide_eq_true (by omega))]; rfl
        · rw [if_neg (fun z => q2 ((nI_eq (by omega) (by omega)).mp z)), if_neg (fun z => q2 (by have := of_decide_eq_true z; omega))]; rfl
      · rw [if_neg (fun z => q1 ((nI_eq (by omega) (by omega)).mp z)), if_neg (fun z => q1 (by have := of_decide_eq_true z; omega))]; rfl
    · right
      refine ⟨fun q => by omega, ?_⟩
      rw [if_neg (show ¬ nI 4 = (0 : Int32) by decide), if_neg (show ¬ nI 4 = (1 : Int32) by decide), if_neg (show ¬ nI 4 = (2 : Int32) by decide), if_neg (show ¬ nI 4 = (3 : Int32) by decide), if_neg (show ¬ 4 = 0 by omega), if_neg (show ¬ (4 = 1 ∨ 4 = 2) by omega), if_neg (show ¬ 4 = 3 by omega), hho, Option.bind_some, m_rankOf fu n h hn (by omega) hfu lv lo hl]
      by_cases q1 : oh = hst lv n b
      · rw [if_pos (by rw [q1]), Option.bind_some]
        by_cases q2 : ob = fb_ct lv h
        · rw [if_pos (by rw [q2]), if_pos (decide_eq_true (by omega))]; rfl
        · rw [if_neg (fun z => q2 ((nI_eq (by omega) (by omega)).mp z)), if_neg (fun z => q2 (by have := of_decide_eq_true z; omega))]; rfl
      · rw [if_neg (fun z => q1 ((nI_eq (by omega) (by omega)).mp z)), if_neg (fun z => q1 (by have := of_decide_eq_true z; omega))]; rfl
  · right
    refine ⟨fun q => e1 q.2.2, ?_⟩
    rw [if_neg (show ¬ nI b < nI (fb_ct lv n) by rw [nlt (by omega) (by omega)]; exact e1), if_neg e1]
    by_cases q1 : h = oh
    · rw [if_pos (by rw [q1])]
      by_cases q2 : b = ob
      · rw [if_pos (by rw [q2]), if_pos (decide_eq_true (by omega))]; rfl
      · rw [if_neg (fun z => q2 ((nI_eq (by omega) (by omega)).mp z)), if_neg (fun z => q2 (by have := of_decide_eq_true z; omega))]; rfl
    · rw [if_neg (fun z => q1 ((nI_eq (by omega) (by omega)).mp z)), if_neg (fun z => q1 (by have := of_decide_eq_true z; omega))]; rfl
end RI
