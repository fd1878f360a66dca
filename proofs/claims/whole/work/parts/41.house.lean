/-! hosts: who is one, who is live, ranks -/
def hx (n : Nat) (x : Int32) : Bool := decide (0 ≤ x.toInt) && decide (x.toInt < n)
theorem i0 : (0 : Int32).toInt = 0 := by decide
theorem hx_nI {n j : Nat} (hj : j < 2 ^ 31) : hx n (nI j) = decide (j < n) := by simp [hx, nI_toInt hj]
theorem hx_neg {n : Nat} {x : Int32} (h : x < 0) : hx n x = false := by
  rw [fa_lt, i0] at h
  simp [hx]; omega
theorem hx_big {n : Nat} (hn : n < 2 ^ 31) {x : Int32} (h : nI n ≤ x) : hx n x = false := by
  rw [fa_le, nI_toInt hn] at h
  simp [hx]; omega
theorem hx_in {n : Nat} (hn : n < 2 ^ 31) {x : Int32} (h1 : ¬ x < 0) (h2 : ¬ nI n ≤ x) : hx n x = true := by
  rw [fa_lt, i0] at h1
  rw [fa_le, nI_toInt hn] at h2
  simp [hx]; omega
theorem hx_t {n : Nat} {x : Int32} (h : hx n x = true) : ∃ j, j < n ∧ j < 2 ^ 31 ∧ x = nI j := by
  have h0 : ¬ x < 0 := fun e => by rw [hx_neg e] at h; cases h
  obtain ⟨j, hj, rfl⟩ := nI_of h0
  rw [hx_nI hj] at h
  exact ⟨j, of_decide_eq_true h, hj, rfl⟩
theorem b_isHost (fu n : Nat) (hn : n < 2 ^ 31) (x : Int32) : f_X3_isHost fu (nI n) x = some (if hx n x then 1 else 0) := by
  unfold f_X3_isHost
  by_cases h1 : x < 0
  · rw [if_pos h1, hx_neg h1]; rfl
  · rw [if_neg h1]
    by_cases h2 : nI n ≤ x
    · rw [if_pos h2, hx_big hn h2]; rfl
    · rw [if_neg h2, hx_in hn h1 h2]; rfl
theorem m_isHost (fu n : Nat) (h0 : 0 < n) (hn : n < 2 ^ 31) (x : Int32) : f_X9_isHost fu (nI n) x = some (if hx n x then 1 else 0) := by
  obtain ⟨k, rfl⟩ : ∃ k, n = k + 1 := ⟨n - 1, by omega⟩
  unfold f_X9_isHost f_X9_in
  rw [nI_pred]
  by_cases h1 : x < 0
  · rw [if_pos h1, hx_neg h1]; rfl
  · rw [if_neg h1]
    by_cases h2 : nI k < x
    · rw [if_pos h2, hx_big hn (by rw [fa_lt, nI_toInt (by omega)] at h2; rw [fa_le, nI_toInt hn]; omega)]; rfl
    · rw [if_neg h2, hx_in hn h1 (by rw [fa_lt, nI_toInt (by omega)] at h2; rw [fa_le, nI_toInt hn]; omega)]; rfl
def lx (n : Nat) (lv : Nat → Bool) (x : Int32) : Bool := hx n x && lv x.toNatClampNeg
theorem lx_nI {n j : Nat} {lv : Nat → Bool} (hj : j < 2 ^ 31) : lx n lv (nI j) = (decide (j < n) && lv j) := by rw [lx, hx_nI hj, nI_clamp hj]
theorem lx_t {n : Nat} {lv : Nat → Bool} {x : Int32} (h : lx n lv x = true) : ∃ j, j < n ∧ j < 2 ^ 31 ∧ x = nI j ∧ lv j = true := by
  simp only [lx, Bool.and_eq_true] at h
  obtain ⟨j, h1, h2, rfl⟩ := hx_t h.1
  exact ⟨j, h1, h2, rfl, by rw [nI_clamp h2] at h; exact h.2⟩
theorem b_isLive (fu n : Nat) (hn : n ≤ 16) (lv : Nat → Bool) (al : Nat → Int32) (ha : ∀ j, j < 16 → al j = if lv j then 1 else 0) (x : Int32) : f_X3_isLive fu al (nI n) x = some (if lx n lv x then 1 else 0) := by
  unfold f_X3_isLive
  rw [b_isHost fu n (by omega), Option.bind_some]
  cases hh : hx n x with
  | false => simp [lx, hh]
  | true =>
    obtain ⟨j, hj, hj2, rfl⟩ := hx_t hh
    rw [lx_nI hj2]
    simp (disch := omega) only [nlt0, nle, nlt, neqI, ncl, nadd, nmul, nm1, nm1', nsucc, n_eq0, n_eq0', n_eq1, n_le0, n_0lt, n_0le, n_1le, n_le1, n_01, n_10, nsubI, nsub1, naddm1, ofNat_nI, zl2, zl3, zl4, zl5, zl6, zl7, zl8, zl9, zl13, zl15, zl16, zl17, zl31, zl63, zl64, zl100, zl256, zl1000, zl1200, zl7200, zl65536, zl100000, if_true, if_false, or_false, false_or, true_or, or_true, and_true, true_and, false_and, and_false, not_true_eq_false, not_false_eq_true, if_pos, if_neg, Option.bind_some, Option.bind_none, vn, reduceCtorEq]
    rw [ha j (by omega)]
    cases lv j <;> simp [hj]
theorem m_isLive (fu n : Nat) (h0 : 0 < n) (hn : n ≤ 16) (lv : Nat → Bool) (lo : Nat → Int32) (hl : ∀ j, j < n → (lv j = true ↔ lo j = 0)) (x : Int32) : f_X9_isLive fu (nI n) lo x = some (if lx n lv x then 1 else 0) := by
  unfold f_X9_isLive
  rw [m_isHost fu n h0 (by omega), Option.bind_some]
  cases hh : hx n x with
  | false => simp [lx, hh]
  | true =>
    obtain ⟨j, hj, hj2, rfl⟩ := hx_t hh
    rw [lx_nI hj2]
    simp (disch := omega) only [nlt0, nle, nlt, neqI, ncl, nadd, nmul, nm1, nm1', nsucc, n_eq0, n_eq0', n_eq1, n_le0, n_0lt, n_0le, n_1le, n_le1, n_01, n_10, nsubI, nsub1, naddm1, ofNat_nI, zl2, zl3, zl4, zl5, zl6, zl7, zl8, zl9, zl13, zl15, zl16, zl17, zl31, zl63, zl64, zl100, zl256, zl1000, zl1200, zl7200, zl65536, zl100000, if_true, if_false, or_false, false_or, true_or, or_true, and_true, true_and, false_and, and_false, not_true_eq_false, not_false_eq_true, if_pos, if_neg, Option.bind_some, Option.bind_none, vn, reduceCtorEq]
    have h1 := hl j hj
    cases h2 : lv j with
    | false =>
      rw [h2] at h1
      rw [if_neg (fun e => by simp [e] at h1)]
      simp
    | true =>
      rw [if_pos (by exact h1.mp h2)]
      simp [hj]
def hst (lv : Nat → Bool) : Nat → Nat → Nat
  | 0, _ => 0
  | n + 1, r => if lv n = true ∧ fb_ct lv n = r then n else hst lv n r
theorem hst_ok {lv : Nat → Bool} {r : Nat} : ∀ {n : Nat}, r < fb_ct lv n → hst lv n r < n ∧ lv (hst lv n r) = true ∧ fb_ct lv (hst lv n r) = r
  | 0, h => absurd h (Nat.not_lt_zero r)
  | n + 1, h => by
    unfold hst
    by_cases e : lv n = true ∧ fb_ct lv n = r
    · rw [if_pos e]; exact ⟨by omega, e.1, e.2⟩
    · rw [if_neg e]
      rw [fb_ct_succ] at h
      have h1 : r < fb_ct lv n := by
        by_cases h2 : lv n = true
        · rw [if_pos h2] at h
          have : fb_ct lv n ≠ r := fun q => e ⟨h2, q⟩
          omega
        · rw [if_neg h2] at h; omega
      obtain ⟨a, b, c⟩ := hst_ok h1
      exact ⟨by omega, b, c⟩
theorem hst_eq {lv : Nat → Bool} {n j : Nat} (hj : j < n) (hl : lv j = true) : hst lv n (fb_ct lv j) = j := by
  have h1 : fb_ct lv j < fb_ct lv n := by
    have := fb_ct_mono lv (show j + 1 ≤ n by omega)
    rw [fb_ct_succ, if_pos hl] at this; omega
  obtain ⟨a, b, c⟩ := hst_ok h1
  exact fb_ct_kth_one b hl c
theorem ct_lt {lv : Nat → Bool} {i j : Nat} (h : i < j) (hl : lv i = true) : fb_ct lv i < fb_ct lv j := by
  have := fb_ct_mono lv (show i + 1 ≤ j by omega)
  rw [fb_ct_succ, if_pos hl] at this; omega
theorem b_rankAnew (fu n : Nat) (hn : n ≤ 16) (hf : 16 < fu) (lv : Nat → Bool) (al hb rb : Nat → Int32) (ha : ∀ j, j < 16 → al j = if lv j then 1 else 0) :
    ∃ r, f_X3_rankAnew fu al hb rb (nI n) = some r ∧ r.2.2 = nI (fb_ct lv n) ∧ ∀ j, j < n → lv j = true → r.1 (fb_ct lv j) = nI j ∧ r.2.1 j = nI (fb_ct lv j) := by
  obtain ⟨r, h1, h2⟩ := lp_run (f_X3_rankAnew_l7 fu al (nI n)) n
    (fun i s => s.1 = nI i ∧ s.2.2.2 = nI (fb_ct lv i) ∧ ∀ j, j < i → lv j = true → s.2.1 (fb_ct lv j) = nI j ∧ s.2.2.1 j = nI (fb_ct lv j))
    (fun r => r.2.2 = nI (fb_ct lv n) ∧ ∀ j, j < n → lv j = true → r.1 (fb_ct lv j) = nI j ∧ r.2.1 j = nI (fb_ct lv j)) (by
    rintro i ⟨x, b, c, d⟩ hi ⟨h1, h2, h3⟩
    dsimp only at h1 h2 h3
    subst h1 h2
    have hc := fb_ct_le lv i
    left
    cases hl : lv i with
    | false =>
      refine ⟨(nI (i + 1), b, c, nI (fb_ct lv i)), fun k => ?_, rfl, ?_, fun j hj hlj => ?_⟩
      · simp (disch := omega) only [f_X3_rankAnew_l7, nlt0, nle, nlt, neqI, ncl, nadd, nmul, nm1, nm1', nsucc, n_eq0, n_eq0', n_eq1, n_le0, n_0lt, n_0le, n_1le, n_le1, n_01, n_10, nsubI, nsub1, naddm1, ofNat_nI, zl2, zl3, zl4, zl5, zl6, zl7, zl8, zl9, zl13, zl15, zl16, zl17, zl31, zl63, zl64, zl100, zl256, zl1000, zl1200, zl7200, zl65536, zl100000, if_true, if_false, or_false, false_or, true_or, or_true, and_true, true_and, false_and, and_false, not_true_eq_false, not_false_eq_true, if_pos, if_neg, Option.bind_some, Option.bind_none, vn, reduceCtorEq, ha i (by omega), hl]
      · simp [fb_ct_succ, hl]
      · exact h3 j (by rcases Nat.lt_succ_iff_lt_or_eq.mp hj with h | h; exact h; subst h; rw [hl] at hlj; cases hlj) hlj
    | true =>
      refine ⟨(nI (i + 1), upd b (fb_ct lv i) (nI i), upd c i (nI (fb_ct lv i)), nI (fb_ct lv i + 1)), fun k => ?_, rfl, ?_, fun j hj hlj => ?_⟩
      · simp (disch := omega) only [f_X3_rankAnew_l7, nlt0, nle, nlt, neqI, ncl, nadd, nmul, nm1, nm1', nsucc, n_eq0, n_eq0', n_eq1, n_le0, n_0lt, n_0le, n_1le, n_le1, n_01, n_10, nsubI, nsub1, naddm1, ofNat_nI, zl2, zl3, zl4, zl5, zl6, zl7, zl8, zl9, zl13, zl15, zl16, zl17, zl31, zl63, zl64, zl100, zl256, zl1000, zl1200, zl7200, zl65536, zl100000, if_true, if_false, or_false, false_or, true_or, or_true, and_true, true_and, false_and, and_false, not_true_eq_false, not_false_eq_true, if_pos, if_neg, Option.bind_some, Option.bind_none, vn, reduceCtorEq, ha i (by omega), hl]
      · simp [fb_ct_succ, hl]
      · rcases Nat.lt_succ_iff_lt_or_eq.mp hj with h | h
        · have := ct_lt h hlj
          simp only [upd, show ¬ fb_ct lv j = fb_ct lv i by omega, show ¬ j = i by omega, if_false]
          exact h3 j h hlj
        · subst h
          simp [upd]) (by
    rintro ⟨x, b, c, d⟩ ⟨h1, h2, h3⟩
    dsimp only at h1 h2 h3
    subst h1 h2
    refine ⟨(b, c, nI (fb_ct lv n)), fun k => ?_, rfl, h3⟩
    simp (disch := omega) only [f_X3_rankAnew_l7, nlt0, nle, nlt, neqI, ncl, nadd, nmul, nm1, nm1', nsucc, n_eq0, n_eq0', n_eq1, n_le0, n_0lt, n_0le, n_1le, n_le1, n_01, n_10, nsubI, nsub1, naddm1, ofNat_nI, zl2, zl3, zl4, zl5, zl6, zl7, zl8, zl9, zl13, zl15, zl16, zl17, zl31, zl63, zl64, zl100, zl256, zl1000, zl1200, zl7200, zl65536, zl100000, if_true, if_false, or_false, false_or, true_or, or_true, and_true, true_and, false_and, and_false, not_true_eq_false, not_false_eq_true, if_pos, if_neg, Option.bind_some, Option.bind_none, vn, reduceCtorEq]) n 0 (0, hb, rb, 0) fu (by omega) (by omega) ⟨rfl, rfl, fun j hj => by omega⟩
  refine ⟨r, ?_, h2⟩
  simp only [f_X3_rankAnew, h1, Option.bind_some]
theorem b_hostOf (fu n r : Nat) (lv : Nat → Bool) (hb : Nat → Int32) (hn : n ≤ 16) (hr : r < fb_ct lv n) (h : ∀ j, j < n → lv j = true → hb (fb_ct lv j) = nI j) : f_X3_hostOf fu hb (nI (fb_ct lv n)) (nI r) = some (nI (hst lv n r)) := by
  have hc := fb_ct_le lv n
  obtain ⟨a, b, c⟩ := hst_ok hr
  have := h _ a b
  rw [c] at this
  simp (disch := omega) only [f_X3_hostOf, nlt0, nle, nlt, neqI, ncl, nadd, nmul, nm1, nm1', nsucc, n_eq0, n_eq0', n_eq1, n_le0, n_0lt, n_0le, n_1le, n_le1, n_01, n_10, nsubI, nsub1, naddm1, ofNat_nI, zl2, zl3, zl4, zl5, zl6, zl7, zl8, zl9, zl13, zl15, zl16, zl17, zl31, zl63, zl64, zl100, zl256, zl1000, zl1200, zl7200, zl65536, zl100000, if_true, if_false, or_false, false_or, true_or, or_true, and_true, true_and, false_and, and_false, not_true_eq_false, not_false_eq_true, if_pos, if_neg, Option.bind_some, Option.bind_none, vn, reduceCtorEq, this]
theorem b_rankOf (fu n j : Nat) (lv : Nat → Bool) (al rb : Nat → Int32) (hn : n ≤ 16) (hj : j < n) (hl : lv j = true) (ha : ∀ j, j < 16 → al j = if lv j then 1 else 0) (h : ∀ j, j < n → lv j = true → rb j = nI (fb_ct lv j)) : f_X3_rankOf fu al rb (nI n) (nI j) = some (nI (fb_ct lv j)) := by
  unfold f_X3_rankOf
  rw [b_isLive fu n hn lv al ha, Option.bind_some, lx_nI (by omega)]
  simp (disch := omega) only [nlt0, nle, nlt, neqI, ncl, nadd, nmul, nm1, nm1', nsucc, n_eq0, n_eq0', n_eq1, n_le0, n_0lt, n_0le, n_1le, n_le1, n_01, n_10, nsubI, nsub1, naddm1, ofNat_nI, zl2, zl3, zl4, zl5, zl6, zl7, zl8, zl9, zl13, zl15, zl16, zl17, zl31, zl63, zl64, zl100, zl256, zl1000, zl1200, zl7200, zl65536, zl100000, if_true, if_false, or_false, false_or, true_or, or_true, and_true, true_and, false_and, and_false, not_true_eq_false, not_false_eq_true, if_pos, if_neg, Option.bind_some, Option.bind_none, vn, reduceCtorEq, hj, hl, decide_true, Bool.and_self, h j hj hl]
theorem m_liveMany (fu n : Nat) (hn : n ≤ 16) (hf : 16 < fu) (lv : Nat → Bool) (lo : Nat → Int32) (hl : ∀ j, j < n → (lv j = true ↔ lo j = 0)) : f_X9_liveMany fu (nI n) lo = some (nI (fb_ct lv n)) := by
  obtain ⟨r, h1, h2⟩ := lp_run (f_X9_liveMany_l4 fu (nI n) lo) n (fun i s => s = (nI (fb_ct lv i), nI i)) (fun r => r = nI (fb_ct lv n)) (by
    rintro i s hi rfl
    left
    have h1 := hl i hi
    cases h2 : lv i with
    | false =>
      refine ⟨(nI (fb_ct lv (i + 1)), nI (i + 1)), fun k => ?_, rfl⟩
      simp (disch := omega) only [f_X9_liveMany_l4, nlt0, nle, nlt, neqI, ncl, nadd, nmul, nm1, nm1', nsucc, n_eq0, n_eq0', n_eq1, n_le0, n_0lt, n_0le, n_1le, n_le1, n_01, n_10, nsubI, nsub1, naddm1, ofNat_nI, zl2, zl3, zl4, zl5, zl6, zl7, zl8, zl9, zl13, zl15, zl16, zl17, zl31, zl63, zl64, zl100, zl256, zl1000, zl1200, zl7200, zl65536, zl100000, if_true, if_false, or_false, false_or, true_or, or_true, and_true, true_and, false_and, and_false, not_true_eq_false, not_false_eq_true, if_pos, if_neg, Option.bind_some, Option.bind_none, vn, reduceCtorEq, fb_ct_succ, h2, Nat.add_zero, Bool.false_eq_true, show ¬ lo i = 0 from fun e => by simp [e, h2] at h1]
    | true =>
      refine ⟨(nI (fb_ct lv (i + 1)), nI (i + 1)), fun k => ?_, rfl⟩
      simp (disch := omega) only [f_X9_liveMany_l4, nlt0, nle, nlt, neqI, ncl, nadd, nmul, nm1, nm1', nsucc, n_eq0, n_eq0', n_eq1, n_le0, n_0lt, n_0le, n_1le, n_le1, n_01, n_10, nsubI, nsub1, naddm1, ofNat_nI, zl2, zl3, zl4, zl5, zl6, zl7, zl8, zl9, zl13, zl15, zl16, zl17, zl31, zl63, zl64, zl100, zl256, zl1000, zl1200, zl7200, zl65536, zl100000, if_true, if_false, or_false, false_or, true_or, or_true, and_true, true_and, false_and, and_false, not_true_eq_false, not_false_eq_true, if_pos, if_neg, Option.bind_some, Option.bind_none, vn, reduceCtorEq, fb_ct_succ, h2, Nat.add_zero, Bool.false_eq_true, h1.mp h2]) (by
    rintro s rfl
    exact ⟨_, fun k => by simp (disch := omega) only [f_X9_liveMany_l4, nlt0, nle, nlt, neqI, ncl, nadd, nmul, nm1, nm1', nsucc, n_eq0, n_eq0', n_eq1, n_le0, n_0lt, n_0le, n_1le, n_le1, n_01, n_10, nsubI, nsub1, naddm1, ofNat_nI, zl2, zl3, zl4, zl5, zl6, zl7, zl8, zl9, zl13, zl15, zl16, zl17, zl31, zl63, zl64, zl100, zl256, zl1000, zl1200, zl7200, zl65536, zl100000, if_true, if_false, or_false, false_or, true_or, or_true, and_true, true_and, false_and, and_false, not_true_eq_false, not_false_eq_true, if_pos, if_neg, Option.bind_some, Option.bind_none, vn, reduceCtorEq], rfl⟩) n 0 (0, 0) fu (by omega) (by omega) rfl
  simp only [f_X9_liveMany, h1, h2, Option.bind_some]
theorem m_rankOf (fu n j : Nat) (hn : n ≤ 16) (hj : j ≤ n) (hf : 16 < fu) (lv : Nat → Bool) (lo : Nat → Int32) (hl : ∀ j, j < n → (lv j = true ↔ lo j = 0)) : f_X9_rankOf fu lo (nI j) = some (nI (fb_ct lv j)) := by
  obtain ⟨r, h1, h2⟩ := lp_run (f_X9_rankOf_l4 fu lo (nI j)) j (fun i s => s = (nI (fb_ct lv i), nI i)) (fun r => r = nI (fb_ct lv j)) (by
    rintro i s hi rfl
    left
    have h1 := hl i (by omega)
    cases h2 : lv i with
    | false =>
      refine ⟨(nI (fb_ct lv (i + 1)), nI (i + 1)), fun k => ?_, rfl⟩
      simp (disch := omega) only [f_X9_rankOf_l4, nlt0, nle, nlt, neqI, ncl, nadd, nmul, nm1, nm1', nsucc, n_eq0, n_eq0', n_eq1, n_le0, n_0lt, n_0le, n_1le, n_le1, n_01, n_10, nsubI, nsub1, naddm1, ofNat_nI, zl2, zl3, zl4, zl5, zl6, zl7, zl8, zl9, zl13, zl15, zl16, zl17, zl31, zl63, zl64, zl100, zl256, zl1000, zl1200, zl7200, zl65536, zl100000, if_true, if_false, or_false, false_or, true_or, or_true, and_true, true_and, false_and, and_false, not_true_eq_false, not_false_eq_true, if_pos, if_neg, Option.bind_some, Option.bind_none, vn, reduceCtorEq, fb_ct_succ, h2, Nat.add_zero, Bool.false_eq_true, show ¬ lo i = 0 from fun e => by simp [e, h2] at h1]
    | true =>
      refine ⟨(nI (fb_ct lv (i + 1)), nI (i + 1)), fun k => ?_, rfl⟩
      simp (disch := omega) only [f_X9_rankOf_l4, nlt0, nle, nlt, neqI, ncl, nadd, nmul, nm1, nm1', nsucc, n_eq0, n_eq0', n_eq1, n_le0, n_0lt, n_0le, n_1le, n_le1, n_01, n_10, nsubI, nsub1, naddm1, ofNat_nI, zl2, zl3, zl4, zl5, zl6, zl7, zl8, zl9, zl13, zl15, zl16, zl17, zl31, zl63, zl64, zl100, zl256, zl1000, zl1200, zl7200, zl65536, zl100000, if_true, if_false, or_false, false_or, true_or, or_true, and_true, true_and, false_and, and_false, not_true_eq_false, not_false_eq_true, if_pos, if_neg, Option.bind_some, Option.bind_none, vn, reduceCtorEq, fb_ct_succ, h2, Nat.add_zero, Bool.false_eq_true, h1.mp h2]) (by
    rintro s rfl
    exact ⟨_, fun k => by simp (disch := omega) only [f_X9_rankOf_l4, nlt0, nle, nlt, neqI, ncl, nadd, nmul, nm1, nm1', nsucc, n_eq0, n_eq0', n_eq1, n_le0, n_0lt, n_0le, n_1le, n_le1, n_01, n_10, nsubI, nsub1, naddm1, ofNat_nI, zl2, zl3, zl4, zl5, zl6, zl7, zl8, zl9, zl13, zl15, zl16, zl17, zl31, zl63, zl64, zl100, zl256, zl1000, zl1200, zl7200, zl65536, zl100000, if_true, if_false, or_false, false_or, true_or, or_true, and_true, true_and, false_and, and_false, not_true_eq_false, not_false_eq_true, if_pos, if_neg, Option.bind_some, Option.bind_none, vn, reduceCtorEq], rfl⟩) j 0 (0, 0) fu (by omega) (by omega) rfl
  simp only [f_X9_rankOf, h1, h2, Option.bind_some]
theorem m_hostOf (fu n r : Nat) (hn : n ≤ 16) (hf : 16 < fu) (lv : Nat → Bool) (lo : Nat → Int32) (hl : ∀ j, j < n → (lv j = true ↔ lo j = 0)) (hr : r < fb_ct lv n) : f_X9_hostOf fu lo (nI r) = some (nI (hst lv n r)) := by
  obtain ⟨ha, hb, hc⟩ := hst_ok hr
  generalize hst lv n r = h at ha hb hc
  obtain ⟨r', h1, h2⟩ := lp_run (f_X9_hostOf_l4 fu lo) h (fun i s => s = (nI (r - fb_ct lv i), nI i)) (fun r => r = nI h) (by
    rintro i s hi rfl
    left
    have h1 := hl i (by omega)
    have h3 := fb_ct_le lv n
    have h4 : fb_ct lv i ≤ r := by rw [← hc]; exact fb_ct_mono lv (by omega)
    cases h2 : lv i with
    | false =>
      refine ⟨(nI (r - fb_ct lv (i + 1)), nI (i + 1)), fun k => ?_, rfl⟩
      simp (disch := omega) only [f_X9_hostOf_l4, nlt0, nle, nlt, neqI, ncl, nadd, nmul, nm1, nm1', nsucc, n_eq0, n_eq0', n_eq1, n_le0, n_0lt, n_0le, n_1le, n_le1, n_01, n_10, nsubI, nsub1, naddm1, ofNat_nI, zl2, zl3, zl4, zl5, zl6, zl7, zl8, zl9, zl13, zl15, zl16, zl17, zl31, zl63, zl64, zl100, zl256, zl1000, zl1200, zl7200, zl65536, zl100000, if_true, if_false, or_false, false_or, true_or, or_true, and_true, true_and, false_and, and_false, not_true_eq_false, not_false_eq_true, if_pos, if_neg, Option.bind_some, Option.bind_none, vn, reduceCtorEq, fb_ct_succ, h2, Nat.add_zero, Bool.false_eq_true, show ¬ lo i = 0 from fun e => by simp [e, h2] at h1]
    | true =>
      have h5 := ct_lt hi h2
      refine ⟨(nI (r - fb_ct lv (i + 1)), nI (i + 1)), fun k => ?_, rfl⟩
      simp (disch := omega) only [f_X9_hostOf_l4, nlt0, nle, nlt, neqI, ncl, nadd, nmul, nm1, nm1', nsucc, n_eq0, n_eq0', n_eq1, n_le0, n_0lt, n_0le, n_1le, n_le1, n_01, n_10, nsubI, nsub1, naddm1, ofNat_nI, zl2, zl3, zl4, zl5, zl6, zl7, zl8, zl9, zl13, zl15, zl16, zl17, zl31, zl63, zl64, zl100, zl256, zl1000, zl1200, zl7200, zl65536, zl100000, if_true, if_false, or_false, false_or, true_or, or_true, and_true, true_and, false_and, and_false, not_true_eq_false, not_false_eq_true, if_pos, if_neg, Option.bind_some, Option.bind_none, vn, reduceCtorEq, fb_ct_succ, h2, Nat.add_zero, Bool.false_eq_true, h1.mp h2, Nat.sub_sub]) (by
    rintro s rfl
    have h1 := hl h ha
    refine ⟨_, fun k => ?_, rfl⟩
    simp (disch := omega) only [f_X9_hostOf_l4, nlt0, nle, nlt, neqI, ncl, nadd, nmul, nm1, nm1', nsucc, n_eq0, n_eq0', n_eq1, n_le0, n_0lt, n_0le, n_1le, n_le1, n_01, n_10, nsubI, nsub1, naddm1, ofNat_nI, zl2, zl3, zl4, zl5, zl6, zl7, zl8, zl9, zl13, zl15, zl16, zl17, zl31, zl63, zl64, zl100, zl256, zl1000, zl1200, zl7200, zl65536, zl100000, if_true, if_false, or_false, false_or, true_or, or_true, and_true, true_and, false_and, and_false, not_true_eq_false, not_false_eq_true, if_pos, if_neg, Option.bind_some, Option.bind_none, vn, reduceCtorEq, h1.mp hb]) h 0 (nI r, 0) fu (by omega) (by omega) (by simp [fb_ct, nI_0])
  simp only [f_X9_hostOf, h1, h2, Option.bind_some]
