/-! numbers and loops of the pure side -/
theorem nlt0 {n : Nat} (h : n < 2 ^ 31) : (nI n < 0) = False := eq_false (nI_pos h)
theorem nle {a b : Nat} (ha : a < 2 ^ 31) (hb : b < 2 ^ 31) : (nI a ≤ nI b) = (a ≤ b) := propext (nI_leI ha hb)
theorem nlt {a b : Nat} (ha : a < 2 ^ 31) (hb : b < 2 ^ 31) : (nI a < nI b) = (a < b) := propext (nI_ltI ha hb)
theorem neqI {a b : Nat} (ha : a < 2 ^ 31) (hb : b < 2 ^ 31) : (nI a = nI b) = (a = b) := propext (nI_eq ha hb)
theorem ncl {n : Nat} (h : n < 2 ^ 31) : (nI n).toNatClampNeg = n := nI_clamp h
theorem nadd (a b : Nat) : nI a + nI b = nI (a + b) := nI_add a b
theorem nmul (a b : Nat) : nI a * nI b = nI (a * b) := pk_mul a b
theorem nsucc (a : Nat) : nI a + 1 = nI (a + 1) := nI_1 a
theorem nm1 {a : Nat} (h : a < 2 ^ 31) : (nI a = -1) = False := eq_false fun e => by
  have h1 := congrArg Int32.toInt e
  rw [nI_toInt h] at h1
  have h2 : (-1 : Int32).toInt = -1 := by decide
  rw [h2] at h1
  omega
theorem nm1' {a : Nat} (h : a < 2 ^ 31) : (-1 = nI a) = False := eq_false fun e => by
  have h1 := nm1 h
  rw [← e] at h1
  simp at h1
theorem zl2 : (2 : Int32) = nI 2 := rfl
theorem zl3 : (3 : Int32) = nI 3 := rfl
theorem zl4 : (4 : Int32) = nI 4 := rfl
theorem zl5 : (5 : Int32) = nI 5 := rfl
theorem zl6 : (6 : Int32) = nI 6 := rfl
theorem zl7 : (7 : Int32) = nI 7 := rfl
theorem zl8 : (8 : Int32) = nI 8 := rfl
theorem zl9 : (9 : Int32) = nI 9 := rfl
theorem zl13 : (13 : Int32) = nI 13 := rfl
theorem zl15 : (15 : Int32) = nI 15 := rfl
theorem zl16 : (16 : Int32) = nI 16 := rfl
theorem zl17 : (17 : Int32) = nI 17 := rfl
theorem zl31 : (31 : Int32) = nI 31 := rfl
theorem zl63 : (63 : Int32) = nI 63 := rfl
theorem zl64 : (64 : Int32) = nI 64 := rfl
theorem zl100 : (100 : Int32) = nI 100 := rfl
theorem zl256 : (256 : Int32) = nI 256 := rfl
theorem zl1000 : (1000 : Int32) = nI 1000 := rfl
theorem zl1200 : (1200 : Int32) = nI 1200 := rfl
theorem zl7200 : (7200 : Int32) = nI 7200 := rfl
theorem zl65536 : (65536 : Int32) = nI 65536 := rfl
theorem zl100000 : (100000 : Int32) = nI 100000 := rfl
theorem n_eq0 {a : Nat} (h : a < 2 ^ 31) : (nI a = 0) = (a = 0) := neqI (b := 0) h (by omega)
theorem n_eq0' {a : Nat} (h : a < 2 ^ 31) : (0 = nI a) = (a = 0) := propext ⟨fun e => (n_eq0 h).mp e.symm, fun e => ((n_eq0 h).mpr e).symm⟩
theorem n_eq1 {a : Nat} (h : a < 2 ^ 31) : (nI a = 1) = (a = 1) := neqI (b := 1) h (by omega)
theorem n_le0 {a : Nat} (h : a < 2 ^ 31) : (nI a ≤ 0) = (a = 0) := by rw [show (0 : Int32) = nI 0 from rfl, nle h (by omega)]; exact propext ⟨fun q => by omega, fun q => by omega⟩
theorem n_0lt {a : Nat} (h : a < 2 ^ 31) : (0 < nI a) = (0 < a) := nlt (a := 0) (by omega) h
theorem n_0le {a : Nat} (h : a < 2 ^ 31) : (0 ≤ nI a) = True := eq_true (nI_pos' h)
theorem n_1le {a : Nat} (h : a < 2 ^ 31) : (1 ≤ nI a) = (1 ≤ a) := nle (a := 1) (by omega) h
theorem n_le1 {a : Nat} (h : a < 2 ^ 31) : (nI a ≤ 1) = (a ≤ 1) := nle (b := 1) h (by omega)
theorem n_01 : ((0 : Int32) = 1) = False := by decide
theorem n_10 : ((1 : Int32) = 0) = False := by decide
theorem nsubI {a b : Nat} (h : b ≤ a) : nI a - nI b = nI (a - b) := pk_sub h
theorem nsub1 {a : Nat} (h : 1 ≤ a) : nI a - 1 = nI (a - 1) := pk_sub (b := 1) h
theorem naddm1 {a : Nat} (h : 0 < a) : nI a + (-1) = nI (a - 1) := sb_m1 h
theorem ofNat_nI (n : Nat) : Int32.ofNat n = nI n := rfl
theorem vnb0 : vp_nar .boolean 0 = 0 := rfl
theorem vnb1 : vp_nar .boolean 1 = 1 := rfl
theorem lp_run {α β : Type} (b : (α → Option β) → α → Option β) (N : Nat) (Inv : Nat → α → Prop) (Post : β → Prop)
    (hs : ∀ i s, i < N → Inv i s → (∃ s', (∀ k, b k s = k s') ∧ Inv (i + 1) s') ∨ (∃ r, (∀ k, b k s = some r) ∧ Post r))
    (he : ∀ s, Inv N s → ∃ r, (∀ k, b k s = some r) ∧ Post r) : ∀ (d i : Nat) (s : α) (fuel : Nat), i + d = N → d < fuel → Inv i s → ∃ r, lp b fuel s = some r ∧ Post r
  | 0, i, s, fuel, h1, h2, h3 => by
    obtain ⟨f, rfl⟩ : ∃ f, fuel = f + 1 := ⟨fuel - 1, by omega⟩
    obtain ⟨r, hr, hp⟩ := he s (by rw [← h1]; exact h3)
    exact ⟨r, hr _, hp⟩
  | d + 1, i, s, fuel, h1, h2, h3 => by
    obtain ⟨f, rfl⟩ : ∃ f, fuel = f + 1 := ⟨fuel - 1, by omega⟩
    rcases hs i s (by omega) h3 with ⟨s', h4, h5⟩ | ⟨r, hr, hp⟩
    · obtain ⟨r, h6, h7⟩ := lp_run b N Inv Post hs he d (i + 1) s' f (by omega) (by omega) h5
      exact ⟨r, by show b (lp b f) s = _; rw [h4]; exact h6, h7⟩
    · exact ⟨r, hr _, hp⟩
theorem lp_meas {α β : Type} (b : (α → Option β) → α → Option β) (μ : α → Nat) (Inv : α → Prop) (Post : β → Prop)
    (hs : ∀ s, Inv s → (∃ s', (∀ k, b k s = k s') ∧ Inv s' ∧ μ s' < μ s) ∨ (∃ r, (∀ k, b k s = some r) ∧ Post r)) : ∀ (d : Nat) (s : α) (fuel : Nat), μ s ≤ d → d < fuel → Inv s → ∃ r, lp b fuel s = some r ∧ Post r
  | d, s, fuel, h1, h2, h3 => by
    obtain ⟨f, rfl⟩ : ∃ f, fuel = f + 1 := ⟨fuel - 1, by omega⟩
    rcases hs s h3 with ⟨s', h4, h5, h6⟩ | ⟨r, hr, hp⟩
    · obtain ⟨r, h7, h8⟩ := lp_meas b μ Inv Post hs (d - 1) s' f (by omega) (by omega) h5
      exact ⟨r, by show b (lp b f) s = _; rw [h4]; exact h7, h8⟩
    · exact ⟨r, hr _, hp⟩
termination_by d => d
decreasing_by omega
theorem b_fill (fu N : Nat) (v : Int32) (f : Nat → Int32) (hN : N < 2 ^ 31) (hf : N < fu) : ∃ r, f_J7_fill_53178 fu N f v = some r ∧ (∀ j, j < N → r j = v) ∧ (∀ j, N ≤ j → r j = f j) := by
  obtain ⟨r, h1, h2⟩ := lp_run (f_J7_fill_53178_l5 fu N v (nI N)) N (fun i s => s.1 = nI i ∧ (∀ j, j < i → s.2 j = v) ∧ ∀ j, i ≤ j → s.2 j = f j) (fun r => (∀ j, j < N → r j = v) ∧ ∀ j, N ≤ j → r j = f j) (by
    rintro i ⟨x, g⟩ hi ⟨h1, h2, h3⟩
    dsimp only at h1 h2 h3
    subst h1
    refine Or.inl ⟨(nI (i + 1), upd g i v), fun k => ?_, rfl, fun j hj => ?_, fun j hj => ?_⟩
    · simp (disch := omega) only [f_J7_fill_53178_l5, nlt0, nle, nlt, neqI, ncl, nadd, nmul, nm1, nm1', nsucc, n_eq0, n_eq0', n_eq1, n_le0, n_0lt, n_0le, n_1le, n_le1, n_01, n_10, nsubI, nsub1, naddm1, ofNat_nI, zl2, zl3, zl4, zl5, zl6, zl7, zl8, zl9, zl13, zl15, zl16, zl17, zl31, zl63, zl64, zl100, zl256, zl1000, zl1200, zl7200, zl65536, zl100000, if_true, if_false, or_false, false_or, true_or, or_true, and_true, true_and, false_and, and_false, not_true_eq_false, not_false_eq_true, if_pos, if_neg, Option.bind_some, Option.bind_none, vn, reduceCtorEq]
    · by_cases e : j = i
      · simp [upd, e]
      · simp only [upd, e, if_false]; exact h2 j (by omega)
    · simp only [upd, show ¬ j = i by omega, if_false]; exact h3 j (by omega)) (by
    rintro ⟨x, g⟩ ⟨h1, h2, h3⟩
    dsimp only at h1 h2 h3
    subst h1
    refine ⟨g, fun k => ?_, h2, h3⟩
    simp (disch := omega) only [f_J7_fill_53178_l5, nlt0, nle, nlt, neqI, ncl, nadd, nmul, nm1, nm1', nsucc, n_eq0, n_eq0', n_eq1, n_le0, n_0lt, n_0le, n_1le, n_le1, n_01, n_10, nsubI, nsub1, naddm1, ofNat_nI, zl2, zl3, zl4, zl5, zl6, zl7, zl8, zl9, zl13, zl15, zl16, zl17, zl31, zl63, zl64, zl100, zl256, zl1000, zl1200, zl7200, zl65536, zl100000, if_true, if_false, or_false, false_or, true_or, or_true, and_true, true_and, false_and, and_false, not_true_eq_false, not_false_eq_true, if_pos, if_neg, Option.bind_some, Option.bind_none, vn, reduceCtorEq]) N 0 (0, f) fu (by omega) hf ⟨rfl, fun j hj => by omega, fun j _ => rfl⟩
  refine ⟨r, ?_, h2⟩
  simp only [f_J7_fill_53178, vn, ofNat_nI, h1, Option.bind_some]
