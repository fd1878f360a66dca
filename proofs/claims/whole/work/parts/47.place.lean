/-! a send is put into its place, on both sides at the same one -/
theorem or_pk {s : Nat → Nat} (h : sok s) : ((((((nI (s 0) <<< ((17 : Int32) &&& 31)) ||| (nI (s 1) <<< ((13 : Int32) &&& 31))) ||| (nI (s 4) <<< ((9 : Int32) &&& 31))) ||| (nI (s 2) <<< ((5 : Int32) &&& 31))) ||| (nI (s 3) <<< ((1 : Int32) &&& 31))) ||| nI (s 5)) = nI (pk s) := by
  obtain ⟨h0, h1, h2, h3, h4, h5⟩ := h
  rw [pk_shlN _ 17 (by decide) (by omega), pk_shlN _ 13 (by decide) (by omega), pk_shlN _ 9 (by decide) (by omega), pk_shlN _ 5 (by decide) (by omega), pk_shlN _ 1 (by decide) (by omega)]
  have e1 : nI (s 0 * 2 ^ 17) ||| nI (s 1 * 2 ^ 13) = nI (2 ^ 13 * (s 0 * 16 + s 1)) := by
    rw [show s 0 * 2 ^ 17 = 2 ^ 17 * s 0 by omega, fa_or_sum (k := 17) (s 0) (by omega)]; congr 1; omega
  have e2 : nI (2 ^ 13 * (s 0 * 16 + s 1)) ||| nI (s 4 * 2 ^ 9) = nI (2 ^ 9 * ((s 0 * 16 + s 1) * 16 + s 4)) := by
    rw [fa_or_sum (k := 13) _ (by omega)]; congr 1; omega
  have e3 : nI (2 ^ 9 * ((s 0 * 16 + s 1) * 16 + s 4)) ||| nI (s 2 * 2 ^ 5) = nI (2 ^ 5 * (((s 0 * 16 + s 1) * 16 + s 4) * 16 + s 2)) := by
    rw [fa_or_sum (k := 9) _ (by omega)]; congr 1; omega
  have e4 : nI (2 ^ 5 * (((s 0 * 16 + s 1) * 16 + s 4) * 16 + s 2)) ||| nI (s 3 * 2 ^ 1) = nI (2 ^ 1 * ((((s 0 * 16 + s 1) * 16 + s 4) * 16 + s 2) * 16 + s 3)) := by
    rw [fa_or_sum (k := 5) _ (by omega)]; congr 1; omega
  rw [e1, e2, e3, e4, fa_or_sum (k := 1) _ (by omega)]
  congr 1; unfold pk; omega
theorem b_placeL (fu N : Nat) (S : Nat → Nat → Nat) (s : Nat → Nat) (pp : Nat → Int32) (hfu : 1200 < fu) (hN : N < 1200) (hS : ZSo N S) (hs : sok s) (hP : ∀ i, i < N → sok (S i) ∧ pp i = nI (pk (S i))) (hne : ∀ i, i < N → key (S i) ≠ key s) :
    ∃ r, lp (f_X4_place_l54 fu (nI (pk s))) fu (nI N, pp) = some r ∧ r.1 = nI (pos N S s) ∧ (∀ j, j < pos N S s → r.2 j = pp j) ∧ ∀ j, pos N S s < j → j ≤ N → r.2 j = pp (j - 1) := by
  have hpl := pos_le N S s
  have hpk := pk_lt31 hs
  refine lp_run (f_X4_place_l54 fu (nI (pk s))) (N - pos N S s) (fun i z => z.1 = nI (N - i) ∧ (∀ j, j < N - i → z.2 j = pp j) ∧ ∀ j, N - i < j → j ≤ N → z.2 j = pp (j - 1)) (fun r => r.1 = nI (pos N S s) ∧ (∀ j, j < pos N S s → r.2 j = pp j) ∧ ∀ j, pos N S s < j → j ≤ N → r.2 j = pp (j - 1)) ?_ ?_ (N - pos N S s) 0 _ fu (by omega) (by omega) ⟨rfl, fun j _ => rfl, fun j h1 h2 => by omega⟩
  · rintro i ⟨x, g⟩ hi ⟨h1, h2, h3⟩
    dsimp only at h1 h2 h3
    subst h1
    left
    have hk := hP (N - i - 1) (by omega)
    have hq := pk_lt31 hk.1
    have hgt : pk s < pk (S (N - i - 1)) := pk_key hs hk.1 (by
      have h4 := hne (N - i - 1) (by omega)
      have h5 : ¬ key (S (N - i - 1)) < key s := fun q => by
        have := (pos_lt hS s (by omega)).mp q
        omega
      omega)
    refine ⟨(nI (N - (i + 1)), upd g (N - i) (pp (N - i - 1))), fun k => ?_, rfl, fun j hj => ?_, fun j hj hj2 => ?_⟩
    · unfold f_X4_place_l54
      dsimp only
      rw [if_neg (by rw [n_le0 (by omega)]; omega), nsub1 (by omega), if_neg (nI_in (by omega) (by omega)), ncl (by omega), h2 _ (by omega), hk.2, if_neg (by rw [nle (by omega) (by omega)]; omega), if_neg (by rw [nlt0 (by omega)]; simp; omega), if_neg (nI_in (by omega) (by omega)), ncl (by omega), naddm1 (by omega)]
      rfl
    · simp only [upd, show ¬ j = N - i by omega, if_false]; exact h2 j (by omega)
    · simp only [upd]
      by_cases e : j = N - i
      · rw [if_pos e, e]
      · rw [if_neg e]; exact h3 j (by omega) hj2
  · rintro ⟨x, g⟩ ⟨h1, h2, h3⟩
    dsimp only at h1 h2 h3
    rw [show N - (N - pos N S s) = pos N S s by omega] at h1 h2 h3
    subst h1
    refine ⟨(nI (pos N S s), g), fun k => ?_, rfl, h2, h3⟩
    unfold f_X4_place_l54
    dsimp only
    by_cases e : pos N S s = 0
    · rw [if_pos (by rw [n_le0 (by omega)]; exact e)]
    · have hk := hP (pos N S s - 1) (by omega)
      have hq := pk_lt31 hk.1
      have hlt : pk (S (pos N S s - 1)) < pk s := pk_key hk.1 hs ((pos_lt hS s (by omega)).mpr (by omega))
      rw [if_neg (by rw [n_le0 (by omega)]; exact e), nsub1 (by omega), if_neg (nI_in (by omega) (by omega)), ncl (by omega), h2 _ (by omega), hk.2, if_pos (by rw [nle (by omega) (by omega)]; omega)]
theorem b_place (fu N : Nat) (S : Nat → Nat → Nat) (s : Nat → Nat) (pp : Nat → Int32) (ps : Int32) (hfu : 1200 < fu) (hP : ZPc N S pp ps) (hN : N < 1200) (hS : ZSo N S) (hs : sok s) (hne : ∀ i, i < N → key (S i) ≠ key s) :
    ∃ r, f_X4_place fu pp ps (nI (s 0)) (nI (s 1)) (nI (s 2)) (nI (s 3)) (nI (s 4)) (nI (s 5)) = some r ∧ ZPc (N + 1) (ins (pos N S s) S s) r.1 r.2 := by
  obtain ⟨hN2, rfl, hP⟩ := hP
  obtain ⟨r, h1, h2, h3, h4⟩ := b_placeL fu N S s pp hfu hN hS hs hP hne
  have hpl := pos_le N S s
  have hv : (if nI (s 5) = 0 then (0 : Int32) else 1) = nI (s 5) := by
    rcases (show s 5 = 0 ∨ s 5 = 1 by have := hs.2.2.2.2.2; omega) with q | q <;> rw [q] <;> rfl
  refine ⟨(upd r.2 (pos N S s) (nI (pk s)), nI (N + 1)), ?_, by omega, rfl, fun i hi => ?_⟩
  · unfold f_X4_place
    simp only [vn]
    have e5 := hs.2.2.2.2.2
    have eor := or_pk hs
    rw [if_pos (by rw [zl1200, nlt (by omega) (by omega)]; exact hN)]
    rcases (show s 5 = 0 ∨ s 5 = 1 by omega) with q | q
    · rw [q] at eor ⊢
      rw [if_pos (show nI 0 = (0 : Int32) from rfl)]
      have eor' : _ ||| (0 : Int32) = _ := eor
      rw [eor', h1, Option.bind_some, h2, if_neg (nI_in (by omega) (by omega)), ncl (by omega), nsucc]
    · rw [q] at eor ⊢
      rw [if_neg (by decide)]
      have eor' : _ ||| (1 : Int32) = _ := eor
      rw [eor', h1, Option.bind_some, h2, if_neg (nI_in (by omega) (by omega)), ncl (by omega), nsucc]
  · simp only [ins, upd]
    by_cases e1 : i < pos N S s
    · rw [if_pos e1, if_neg (by omega), h3 i e1]; exact hP i (by omega)
    · by_cases e2 : i = pos N S s
      · rw [if_neg e1, if_pos e2, if_pos e2]; exact ⟨hs, rfl⟩
      · rw [if_neg e1, if_neg e2, if_neg e2, h4 i (by omega) (by omega)]; exact hP (i - 1) (by omega)
/-- whatever is put in: the row stays one -/
theorem b_placeAny (fu N : Nat) (pp : Nat → Int32) (hfu : 1200 < fu) (hN : N ≤ 1200) (x1 x2 x3 x4 x5 x6 : Int32) : ∃ r M, f_X4_place fu pp (nI N) x1 x2 x3 x4 x5 x6 = some r ∧ r.2 = nI M ∧ M ≤ 1200 := by
  have hl : ∀ v, N < 1200 → ∃ r, lp (f_X4_place_l54 fu v) fu (nI N, pp) = some r ∧ ∃ h, h ≤ N ∧ r.1 = nI h := by
    intro v hN2
    refine lp_run (f_X4_place_l54 fu v) N (fun i z => z.1 = nI (N - i)) (fun r => ∃ h, h ≤ N ∧ r.1 = nI h) ?_ ?_ N 0 _ fu (by omega) (by omega) rfl
    · rintro i ⟨x, g⟩ hi h1
      dsimp only at h1
      subst h1
      by_cases e : g (N - i - 1) ≤ v
      · refine Or.inr ⟨(nI (N - i), g), fun k => ?_, N - i, by omega, rfl⟩
        unfold f_X4_place_l54
        dsimp only
        rw [if_neg (by rw [n_le0 (by omega)]; omega), nsub1 (by omega), if_neg (nI_in (by omega) (by omega)), ncl (by omega), if_pos e]
      · refine Or.inl ⟨(nI (N - (i + 1)), upd g (N - i) (g (N - i - 1))), fun k => ?_, rfl⟩
        unfold f_X4_place_l54
        dsimp only
        rw [if_neg (by rw [n_le0 (by omega)]; omega), nsub1 (by omega), if_neg (nI_in (by omega) (by omega)), ncl (by omega), if_neg e, if_neg (by rw [nlt0 (by omega)]; simp; omega), if_neg (nI_in (by omega) (by omega)), ncl (by omega), naddm1 (by omega)]
        rfl
    · rintro ⟨x, g⟩ h1
      dsimp only at h1
      rw [Nat.sub_self] at h1
      subst h1
      exact ⟨(nI 0, g), fun k => rfl, 0, by omega, rfl⟩
  unfold f_X4_place
  simp only [vn]
  by_cases e : N < 1200
  · rw [if_pos (by rw [zl1200, nlt (by omega) (by omega)]; exact e)]
    by_cases e6 : x6 = 0
    · rw [if_pos e6]
      obtain ⟨r, h1, h, h2, h3⟩ := hl (x1 <<< ((17 : Int32) &&& 31) ||| x2 <<< ((13 : Int32) &&& 31) ||| x5 <<< ((9 : Int32) &&& 31) ||| x3 <<< ((5 : Int32) &&& 31) ||| x4 <<< ((1 : Int32) &&& 31) ||| 0) e
      rw [h1, Option.bind_some, h3, if_neg (nI_in (by omega) (by omega)), nsucc]
      exact ⟨_, N + 1, rfl, rfl, by omega⟩
    · rw [if_neg e6]
      obtain ⟨r, h1, h, h2, h3⟩ := hl (x1 <<< ((17 : Int32) &&& 31) ||| x2 <<< ((13 : Int32) &&& 31) ||| x5 <<< ((9 : Int32) &&& 31) ||| x3 <<< ((5 : Int32) &&& 31) ||| x4 <<< ((1 : Int32) &&& 31) ||| 1) e
      rw [h1, Option.bind_some, h3, if_neg (nI_in (by omega) (by omega)), nsucc]
      exact ⟨_, N + 1, rfl, rfl, by omega⟩
  · rw [if_neg (by rw [zl1200, nlt (by omega) (by omega)]; exact e)]
    exact ⟨_, N, rfl, rfl, hN⟩
theorem m_layC (fu k : Nat) (se : Nat → Int32) (hfu : 6 < fu) (h1 : 1 ≤ k) (h2 : k < 1200) : ∃ r, lp (f_X9_lay_l64 fu (nI k)) fu (0, se) = some r ∧ (∀ j, j < 6 → r (6 * k + j) = se (6 * (k - 1) + j)) ∧ ∀ j, (j < 6 * k ∨ 6 * k + 6 ≤ j) → r j = se j := by
  refine lp_run (f_X9_lay_l64 fu (nI k)) 6 (fun i z => z.1 = nI i ∧ (∀ j, j < i → z.2 (6 * k + j) = se (6 * (k - 1) + j)) ∧ ∀ j, (j < 6 * k ∨ 6 * k + i ≤ j) → z.2 j = se j) (fun r => (∀ j, j < 6 → r (6 * k + j) = se (6 * (k - 1) + j)) ∧ ∀ j, (j < 6 * k ∨ 6 * k + 6 ≤ j) → r j = se j) ?_ ?_ 6 0 _ fu (by omega) (by omega) ⟨rfl, fun j hj => by omega, fun j _ => rfl⟩
  · rintro i ⟨x, g⟩ hi ⟨e1, e2, e3⟩
    dsimp only at e1 e2 e3
    subst e1
    refine Or.inl ⟨(nI (i + 1), upd g (6 * k + i) (g (6 * k - 6 + i))), fun q => ?_, rfl, fun j hj => ?_, fun j hj => ?_⟩
    · simp (disch := omega) only [f_X9_lay_l64, nlt0, nle, nlt, neqI, ncl, nadd, nmul, nm1, nm1', nsucc, n_eq0, n_eq0', n_eq1, n_le0, n_0lt, n_0le, n_1le, n_le1, n_01, n_10, nsubI, nsub1, naddm1, ofNat_nI, zl2, zl3, zl4, zl5, zl6, zl7, zl8, zl9, zl13, zl15, zl16, zl17, zl31, zl63, zl64, zl100, zl256, zl1000, zl1200, zl7200, zl65536, zl100000, if_true, if_false, or_false, false_or, true_or, or_true, and_true, true_and, false_and, and_false, not_true_eq_false, not_false_eq_true, if_pos, if_neg, Option.bind_some, Option.bind_none, vn, reduceCtorEq]
    · simp only [upd]
      by_cases e : j = i
      · rw [if_pos (by omega), e, e3 _ (by omega)]; congr 1; omega
      · rw [if_neg (by omega)]; exact e2 j (by omega)
    · simp only [upd]
      rw [if_neg (by omega)]; exact e3 j (by omega)
  · rintro ⟨x, g⟩ ⟨e1, e2, e3⟩
    dsimp only at e1 e2 e3
    subst e1
    exact ⟨g, fun q => by simp (disch := omega) only [f_X9_lay_l64, nlt0, nle, nlt, neqI, ncl, nadd, nmul, nm1, nm1', nsucc, n_eq0, n_eq0', n_eq1, n_le0, n_0lt, n_0le, n_1le, n_le1, n_01, n_10, nsubI, nsub1, naddm1, ofNat_nI, zl2, zl3, zl4, zl5, zl6, zl7, zl8, zl9, zl13, zl15, zl16, zl17, zl31, zl63, zl64, zl100, zl256, zl1000, zl1200, zl7200, zl65536, zl100000, if_true, if_false, or_false, false_or, true_or, or_true, and_true, true_and, false_and, and_false, not_true_eq_false, not_false_eq_true, if_pos, if_neg, Option.bind_some, Option.bind_none, vn, reduceCtorEq], e2, e3⟩
theorem m_key (fu : Nat) (s : Nat → Nat) : f_X9_keyOf fu (nI (s 0)) (nI (s 1)) (nI (s 4)) = some (nI (key s)) := by
  simp (disch := omega) only [f_X9_keyOf, nlt0, nle, nlt, neqI, ncl, nadd, nmul, nm1, nm1', nsucc, n_eq0, n_eq0', n_eq1, n_le0, n_0lt, n_0le, n_1le, n_le1, n_01, n_10, nsubI, nsub1, naddm1, ofNat_nI, zl2, zl3, zl4, zl5, zl6, zl7, zl8, zl9, zl13, zl15, zl16, zl17, zl31, zl63, zl64, zl100, zl256, zl1000, zl1200, zl7200, zl65536, zl100000, if_true, if_false, or_false, false_or, true_or, or_true, and_true, true_and, false_and, and_false, not_true_eq_false, not_false_eq_true, if_pos, if_neg, Option.bind_some, Option.bind_none, vn, reduceCtorEq, key]
theorem key_lt {s : Nat → Nat} (h : sok s) : key s < 16384 := by
  obtain ⟨h0, h1, h2, h3, h4, h5⟩ := h
  unfold key; omega
theorem m_lay (fu N : Nat) (S : Nat → Nat → Nat) (s : Nat → Nat) (se : Nat → Int32) (mm : Int32) (hfu : 1200 < fu) (hP : ZPm N S se mm) (hok : ∀ i, i < N → sok (S i)) (hN : N < 1200) (hS : ZSo N S) (hs : sok s) (hne : ∀ i, i < N → key (S i) ≠ key s) :
    ∃ r, f_X9_lay fu se mm (nI (s 0)) (nI (s 1)) (nI (s 2)) (nI (s 3)) (nI (s 4)) (nI (s 5)) = some r ∧ ZPm (N + 1) (ins (pos N S s) S s) r.1 r.2 := by
  obtain ⟨rfl, hP⟩ := hP
  have hpl := pos_le N S s
  have hks := key_lt hs
  obtain ⟨r, h1, h2, h3, h4⟩ : ∃ r, lp (f_X9_lay_l6 fu (nI (s 0)) (nI (s 1)) (nI (s 4))) fu (nI N, se) = some r ∧ r.1 = nI (pos N S s) ∧ (∀ j, j < 6 * pos N S s → r.2 j = se j) ∧ ∀ i k, pos N S s < i → i ≤ N → k < 6 → r.2 (6 * i + k) = se (6 * (i - 1) + k) := by
    refine lp_run (f_X9_lay_l6 fu (nI (s 0)) (nI (s 1)) (nI (s 4))) (N - pos N S s) (fun i z => z.1 = nI (N - i) ∧ (∀ j, j < 6 * (N - i) → z.2 j = se j) ∧ ∀ a k, N - i < a → a ≤ N → k < 6 → z.2 (6 * a + k) = se (6 * (a - 1) + k)) (fun r => r.1 = nI (pos N S s) ∧ (∀ j, j < 6 * pos N S s → r.2 j = se j) ∧ ∀ i k, pos N S s < i → i ≤ N → k < 6 → r.2 (6 * i + k) = se (6 * (i - 1) + k)) ?_ ?_ (N - pos N S s) 0 _ fu (by omega) (by omega) ⟨rfl, fun j _ => rfl, fun a k h1 h2 => by omega⟩
    · rintro i ⟨x, g⟩ hi ⟨e1, e2, e3⟩
      dsimp only at e1 e2 e3
      subst e1
      left
      have hk := hok (N - (i + 1)) (by omega)
      have hq := key_lt hk
      have hgt : key s < key (S (N - (i + 1))) := by
        have h4 := hne (N - (i + 1)) (by omega)
        have h5 : ¬ key (S (N - (i + 1))) < key s := fun q => by
          have := (pos_lt hS s (by omega)).mp q
          omega
        omega
      obtain ⟨r, g1, g2, g3⟩ := m_layC fu (N - i) g (by omega) (by omega) (by omega)
      refine ⟨(nI (N - (i + 1)), r), fun q => ?_, rfl, fun j hj => ?_, fun a k ha1 ha2 hk6 => ?_⟩
      · have a0 := hP (N - (i + 1)) (by omega) 0 (by omega)
        have a1 := hP (N - (i + 1)) (by omega) 1 (by omega)
        have a4 := hP (N - (i + 1)) (by omega) 4 (by omega)
        rw [show 6 * (N - (i + 1)) + 0 = 6 * (N - i) - 6 by omega] at a0
        rw [show 6 * (N - (i + 1)) + 1 = 6 * (N - i) - 5 by omega] at a1
        rw [show 6 * (N - (i + 1)) + 4 = 6 * (N - i) - 2 by omega] at a4
        simp (disch := omega) only [f_X9_lay_l6, nlt0, nle, nlt, neqI, ncl, nadd, nmul, nm1, nm1', nsucc, n_eq0, n_eq0', n_eq1, n_le0, n_0lt, n_0le, n_1le, n_le1, n_01, n_10, nsubI, nsub1, naddm1, ofNat_nI, zl2, zl3, zl4, zl5, zl6, zl7, zl8, zl9, zl13, zl15, zl16, zl17, zl31, zl63, zl64, zl100, zl256, zl1000, zl1200, zl7200, zl65536, zl100000, if_true, if_false, or_false, false_or, true_or, or_true, and_true, true_and, false_and, and_false, not_true_eq_false, not_false_eq_true, if_pos, if_neg, Option.bind_some, Option.bind_none, vn, reduceCtorEq, e2 (6 * (N - i) - 6) (by omega), e2 (6 * (N - i) - 5) (by omega), e2 (6 * (N - i) - 2) (by omega), a0, a1, a4, m_key, g1, Nat.sub_sub]
      · show r j = _
        rw [g3 j (by omega)]; exact e2 j (by omega)
      · show r (6 * a + k) = _
        by_cases e : a = N - i
        · rw [e, g2 k hk6, e2 _ (by omega)]
        · rw [g3 _ (by omega)]; exact e3 a k (by omega) ha2 hk6
    · rintro ⟨x, g⟩ ⟨e1, e2, e3⟩
      dsimp only at e1 e2 e3
      rw [show N - (N - pos N S s) = pos N S s by omega] at e1 e2 e3
      subst e1
      refine ⟨(nI (pos N S s), g), fun q => ?_, rfl, e2, e3⟩
      by_cases e : pos N S s = 0
      · rw [e]; rfl
      · have hk := hok (pos N S s - 1) (by omega)
        have hq := key_lt hk
        have hlt : key (S (pos N S s - 1)) < key s := (pos_lt hS s (by omega)).mpr (by omega)
        have a0 := hP (pos N S s - 1) (by omega) 0 (by omega)
        have a1 := hP (pos N S s - 1) (by omega) 1 (by omega)
        have a4 := hP (pos N S s - 1) (by omega) 4 (by omega)
        rw [show 6 * (pos N S s - 1) + 0 = 6 * pos N S s - 6 by omega] at a0
        rw [show 6 * (pos N S s - 1) + 1 = 6 * pos N S s - 5 by omega] at a1
        rw [show 6 * (pos N S s - 1) + 4 = 6 * pos N S s - 2 by omega] at a4
        simp (disch := omega) only [f_X9_lay_l6, nlt0, nle, nlt, neqI, ncl, nadd, nmul, nm1, nm1', nsucc, n_eq0, n_eq0', n_eq1, n_le0, n_0lt, n_0le, n_1le, n_le1, n_01, n_10, nsubI, nsub1, naddm1, ofNat_nI, zl2, zl3, zl4, zl5, zl6, zl7, zl8, zl9, zl13, zl15, zl16, zl17, zl31, zl63, zl64, zl100, zl256, zl1000, zl1200, zl7200, zl65536, zl100000, if_true, if_false, or_false, false_or, true_or, or_true, and_true, true_and, false_and, and_false, not_true_eq_false, not_false_eq_true, if_pos, if_neg, Option.bind_some, Option.bind_none, vn, reduceCtorEq, e2 (6 * pos N S s - 6) (by omega), e2 (6 * pos N S s - 5) (by omega), e2 (6 * pos N S s - 2) (by omega), a0, a1, a4, m_key]
  generalize hh : pos N S s = h at *
  refine ⟨(upd (upd (upd (upd (upd (upd r.2 (6 * h) (nI (s 0))) (6 * h + 1) (nI (s 1))) (6 * h + 2) (nI (s 2))) (6 * h + 3) (nI (s 3))) (6 * h + 4) (nI (s 4))) (6 * h + 5) (nI (s 5)), nI (N + 1)), ?_, rfl, fun i hi k hk => ?_⟩
  · simp (disch := omega) only [f_X9_lay, h1, h2, nlt0, nle, nlt, neqI, ncl, nadd, nmul, nm1, nm1', nsucc, n_eq0, n_eq0', n_eq1, n_le0, n_0lt, n_0le, n_1le, n_le1, n_01, n_10, nsubI, nsub1, naddm1, ofNat_nI, zl2, zl3, zl4, zl5, zl6, zl7, zl8, zl9, zl13, zl15, zl16, zl17, zl31, zl63, zl64, zl100, zl256, zl1000, zl1200, zl7200, zl65536, zl100000, if_true, if_false, or_false, false_or, true_or, or_true, and_true, true_and, false_and, and_false, not_true_eq_false, not_false_eq_true, if_pos, if_neg, Option.bind_some, Option.bind_none, vn, reduceCtorEq]
  · show upd (upd (upd (upd (upd (upd r.2 (6 * h) (nI (s 0))) (6 * h + 1) (nI (s 1))) (6 * h + 2) (nI (s 2))) (6 * h + 3) (nI (s 3))) (6 * h + 4) (nI (s 4))) (6 * h + 5) (nI (s 5)) (6 * i + k) = nI (ins h S s i k)
    simp only [upd, ins]
    by_cases e1 : i < h
    · rw [if_pos e1, if_neg (by omega), if_neg (by omega), if_neg (by omega), if_neg (by omega), if_neg (by omega), if_neg (by omega), h3 _ (by omega)]
      exact hP i (by omega) k hk
    · by_cases e2 : i = h
      · subst e2
        rw [if_neg e1, if_pos rfl]
        rcases (show k = 0 ∨ k = 1 ∨ k = 2 ∨ k = 3 ∨ k = 4 ∨ k = 5 by omega) with rfl | rfl | rfl | rfl | rfl | rfl <;> simp
      · rw [if_neg e1, if_neg e2, if_neg (by omega), if_neg (by omega), if_neg (by omega), if_neg (by omega), if_neg (by omega), if_neg (by omega), h4 i k (by omega) (by omega) hk]
        exact hP (i - 1) (by omega) k hk
