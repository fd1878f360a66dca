/-! ticks of a plan in step -/
def mx (f : Nat → Nat) (p : Nat → Bool) : Nat → Nat
  | 0 => 0
  | i + 1 => if p i = true ∧ mx f p i < f i then f i else mx f p i
theorem mx_ub {f : Nat → Nat} {p : Nat → Bool} : ∀ {n i : Nat}, i < n → p i = true → f i ≤ mx f p n
  | 0, i, h, _ => absurd h (Nat.not_lt_zero i)
  | n + 1, i, h, hp => by
    unfold mx
    rcases Nat.lt_succ_iff_lt_or_eq.mp h with q | q
    · have := mx_ub (f := f) q hp
      split <;> omega
    · subst q
      by_cases e : mx f p i < f i
      · rw [if_pos ⟨hp, e⟩]; exact Nat.le_refl _
      · rw [if_neg (fun z => e z.2)]; omega
theorem mx_at {f : Nat → Nat} {p : Nat → Bool} : ∀ {n : Nat}, mx f p n = 0 ∨ ∃ i, i < n ∧ p i = true ∧ f i = mx f p n
  | 0 => Or.inl rfl
  | n + 1 => by
    unfold mx
    by_cases e : p n = true ∧ mx f p n < f n
    · rw [if_pos e]; exact Or.inr ⟨n, by omega, e.1, rfl⟩
    · rw [if_neg e]
      rcases mx_at (f := f) (p := p) (n := n) with q | ⟨i, h1, h2, h3⟩
      · exact Or.inl q
      · exact Or.inr ⟨i, by omega, h2, h3⟩
theorem mx_eq {f g : Nat → Nat} {p q : Nat → Bool} {n m : Nat} (h1 : ∀ i, i < n → p i = true → ∃ j, j < m ∧ q j = true ∧ g j = f i) (h2 : ∀ j, j < m → q j = true → ∃ i, i < n ∧ p i = true ∧ f i = g j) : mx f p n = mx g q m := by
  refine Nat.le_antisymm ?_ ?_
  · rcases mx_at (f := f) (p := p) (n := n) with z | ⟨i, a, b, c⟩
    · omega
    · obtain ⟨j, d1, d2, d3⟩ := h1 i a b
      have := mx_ub (f := g) d1 d2
      omega
  · rcases mx_at (f := g) (p := q) (n := m) with z | ⟨i, a, b, c⟩
    · omega
    · obtain ⟨j, d1, d2, d3⟩ := h2 i a b
      have := mx_ub (f := f) d1 d2
      omega
theorem mx_le {f : Nat → Nat} {p : Nat → Bool} {n B : Nat} (h : ∀ i, i < n → f i ≤ B) : mx f p n ≤ B := by
  rcases mx_at (f := f) (p := p) (n := n) with z | ⟨i, a, b, c⟩
  · omega
  · have := h i a; omega
def ln (s : Nat → Nat) : Nat := 16 * s 1 + s 2
def sl (s t : Nat → Nat) : Bool := decide (s 0 = t 0 ∧ s 1 = t 1 ∧ s 2 = t 2)
def lct (N : Nat) (S : Nat → Nat → Nat) (s : Nat → Nat) : Nat := fb_ct (fun j => sl (S j) s) N
def nv (f : Nat → Int32) (k : Nat) : Nat := (f k).toNatClampNeg
def tm (N : Nat) (S : Nat → Nat → Nat) (mw mp : Nat → Int32) (s : Nat → Nat) : Nat := nv mw (ln s) + lct N S s * nv mp (ln s)
def mxs (N : Nat) (S : Nat → Nat → Nat) (mw mp : Nat → Int32) (st : Nat) : Nat := mx (fun i => tm N S mw mp (S i)) (fun i => decide (S i 0 = st)) N
def tck (N : Nat) (S : Nat → Nat → Nat) (mw mp : Nat → Int32) : Nat := fb_sm (mxs N S mw mp) (stp S N)
/-- the lines of a plan's sends are there -/
def ZLw (N : Nat) (S : Nat → Nat → Nat) (mw mp : Nat → Int32) : Prop := ∀ i, i < N → ∃ w p, w ≤ 1000 ∧ p ≤ 1000 ∧ mw (ln (S i)) = nI w ∧ mp (ln (S i)) = nI p
theorem tm_le {N : Nat} {S : Nat → Nat → Nat} {mw mp : Nat → Int32} (hN : N ≤ 1200) (h : ZLw N S mw mp) {i : Nat} (hi : i < N) : tm N S mw mp (S i) ≤ 1201000 := by
  obtain ⟨w, p, hw, hp, h1, h2⟩ := h i hi
  unfold tm nv
  rw [h1, h2, ncl (by omega), ncl (by omega)]
  have h3 : lct N S (S i) ≤ N := fb_ct_le _ _
  have h4 : lct N S (S i) * p ≤ 1200 * 1000 := Nat.mul_le_mul (by omega) hp
  omega
section TM
variable {N : Nat} {S : Nat → Nat → Nat} {se : Nat → Int32} {mm : Int32} {mw mp : Nat → Int32}
theorem m_letter (fu : Nat) (hfu : 1200 < fu) (hN : N ≤ 1200) (hok : ∀ i, i < N → sok (S i)) (h : ZPm N S se mm) {s : Nat → Nat} (hs : sok s) : f_X9_letter fu se mm (nI (s 0)) (nI (s 1)) (nI (s 2)) = some (nI (lct N S s)) := by
  obtain ⟨rfl, h⟩ := h
  obtain ⟨t0, t1, t2, t3, t4, t5⟩ := hs
  obtain ⟨r, h1, h2⟩ := lp_run (f_X9_letter_l6 fu se (nI N) (nI (s 0)) (nI (s 1)) (nI (s 2))) N (fun i z => z = (nI (fb_ct (fun j => sl (S j) s) i), nI i)) (fun r => r = nI (lct N S s)) (by
    rintro i z hi rfl
    left
    obtain ⟨s0, s1, s2, s3, s4, s5⟩ := hok i hi
    have a0 := h i hi 0 (by omega)
    rw [Nat.add_zero] at a0
    refine ⟨(nI (fb_ct (fun j => sl (S j) s) (i + 1)), nI (i + 1)), fun k => ?_, rfl⟩
    rw [fb_ct_succ]
    simp only [sl]
    by_cases e0 : S i 0 = s 0 <;> by_cases e1 : S i 1 = s 1 <;> by_cases e2 : S i 2 = s 2 <;> simp (disch := omega) only [f_X9_letter_l6, nlt0, nle, nlt, neqI, ncl, nadd, nmul, nm1, nm1', nsucc, n_eq0, n_eq0', n_eq1, n_le0, n_0lt, n_0le, n_1le, n_le1, n_01, n_10, nsubI, nsub1, naddm1, ofNat_nI, zl2, zl3, zl4, zl5, zl6, zl7, zl8, zl9, zl13, zl15, zl16, zl17, zl31, zl63, zl64, zl100, zl256, zl1000, zl1200, zl7200, zl65536, zl100000, if_true, if_false, or_false, false_or, true_or, or_true, and_true, true_and, false_and, and_false, not_true_eq_false, not_false_eq_true, if_pos, if_neg, Option.bind_some, Option.bind_none, vn, reduceCtorEq, a0, h i hi 1 (by omega), h i hi 2 (by omega), e0, e1, e2, decide_true, decide_false, Bool.false_eq_true, Nat.add_zero, and_self]) (by
    rintro z rfl
    exact ⟨_, fun k => by simp (disch := omega) only [f_X9_letter_l6, nlt0, nle, nlt, neqI, ncl, nadd, nmul, nm1, nm1', nsucc, n_eq0, n_eq0', n_eq1, n_le0, n_0lt, n_0le, n_1le, n_le1, n_01, n_10, nsubI, nsub1, naddm1, ofNat_nI, zl2, zl3, zl4, zl5, zl6, zl7, zl8, zl9, zl13, zl15, zl16, zl17, zl31, zl63, zl64, zl100, zl256, zl1000, zl1200, zl7200, zl65536, zl100000, if_true, if_false, or_false, false_or, true_or, or_true, and_true, true_and, false_and, and_false, not_true_eq_false, not_false_eq_true, if_pos, if_neg, Option.bind_some, Option.bind_none, vn, reduceCtorEq]; rfl, rfl⟩) N 0 (0, 0) fu (by omega) (by omega) rfl
  simp only [f_X9_letter, h1, h2, Option.bind_some]
theorem m_timeOf (fu : Nat) (hfu : 1200 < fu) (hN : N ≤ 1200) (hok : ∀ i, i < N → sok (S i)) (h : ZPm N S se mm) (hw : ZLw N S mw mp) {i : Nat} (hi : i < N) : f_X9_timeOf fu se mw mp mm (nI i) = some (nI (tm N S mw mp (S i))) := by
  obtain ⟨hmm, h'⟩ := id h
  obtain ⟨s0, s1, s2, s3, s4, s5⟩ := hok i hi
  have a0 := h' i hi 0 (by omega)
  rw [Nat.add_zero] at a0
  obtain ⟨w, p, hw1, hp1, h1, h2⟩ := hw i hi
  have hl := m_letter fu hfu hN hok h (hok i hi)
  have e1 : nv mw (ln (S i)) = w := by unfold nv; rw [h1, ncl (by omega)]
  have e2 : nv mp (ln (S i)) = p := by unfold nv; rw [h2, ncl (by omega)]
  have h1' : mw (16 * S i 1 + S i 2) = nI w := h1
  have h2' : mp (16 * S i 1 + S i 2) = nI p := h2
  unfold tm
  rw [e1, e2]
  simp (disch := omega) only [f_X9_timeOf, nlt0, nle, nlt, neqI, ncl, nadd, nmul, nm1, nm1', nsucc, n_eq0, n_eq0', n_eq1, n_le0, n_0lt, n_0le, n_1le, n_le1, n_01, n_10, nsubI, nsub1, naddm1, ofNat_nI, zl2, zl3, zl4, zl5, zl6, zl7, zl8, zl9, zl13, zl15, zl16, zl17, zl31, zl63, zl64, zl100, zl256, zl1000, zl1200, zl7200, zl65536, zl100000, if_true, if_false, or_false, false_or, true_or, or_true, and_true, true_and, false_and, and_false, not_true_eq_false, not_false_eq_true, if_pos, if_neg, Option.bind_some, Option.bind_none, vn, reduceCtorEq, a0, h' i hi 1 (by omega), h' i hi 2 (by omega), hl, h1', h2']
theorem m_ticksOf (fu : Nat) (hfu : 1200 < fu) (hN : N ≤ 1200) (hok : ∀ i, i < N → sok (S i)) (h : ZPm N S se mm) (hw : ZLw N S mw mp) : f_X9_ticksOf fu se mw mp mm = some (nI (tck N S mw mp)) := by
  have hstp := stp_le (S := S) (B := 64) (n := N) (fun i hi => (hok i hi).1)
  have hso := m_stepsOf fu N S se mm hfu hN (fun i hi => (hok i hi).1) h
  have hin : ∀ st, st < 64 → ∃ r, lp (f_X9_ticksOf_l21 fu se mw mp mm (nI st)) fu (0, 0) = some r ∧ r = nI (mxs N S mw mp st) := by
    intro st hst
    obtain ⟨rfl, h'⟩ := id h
    refine lp_run (f_X9_ticksOf_l21 fu se mw mp (nI N) (nI st)) N (fun i z => z = (nI (mx (fun i => tm N S mw mp (S i)) (fun i => decide (S i 0 = st)) i), nI i)) (fun r => r = nI (mxs N S mw mp st)) ?_ ?_ N 0 (0, 0) fu (by omega) (by omega) rfl
    · rintro i z hi rfl
      left
      have s0 := (hok i hi).1
      have a0 := h' i hi 0 (by omega)
      rw [Nat.add_zero] at a0
      have hb := tm_le hN hw hi
      have hb2 : mx (fun i => tm N S mw mp (S i)) (fun i => decide (S i 0 = st)) i ≤ 1201000 := mx_le (fun j hj => tm_le hN hw (by omega))
      refine ⟨(nI (mx (fun i => tm N S mw mp (S i)) (fun i => decide (S i 0 = st)) (i + 1)), nI (i + 1)), fun k => ?_, rfl⟩
      show _ = k (nI (if decide (S i 0 = st) = true ∧ mx (fun i => tm N S mw mp (S i)) (fun i => decide (S i 0 = st)) i < tm N S mw mp (S i) then tm N S mw mp (S i) else mx (fun i => tm N S mw mp (S i)) (fun i => decide (S i 0 = st)) i), nI (i + 1))
      generalize mx (fun i => tm N S mw mp (S i)) (fun i => decide (S i 0 = st)) i = M at hb2 ⊢
      by_cases e0 : S i 0 = st
      · by_cases e1 : tm N S mw mp (S i) ≤ M
        · rw [if_neg (by omega)]
          simp (disch := omega) only [f_X9_ticksOf_l21, nlt0, nle, nlt, neqI, ncl, nadd, nmul, nm1, nm1', nsucc, n_eq0, n_eq0', n_eq1, n_le0, n_0lt, n_0le, n_1le, n_le1, n_01, n_10, nsubI, nsub1, naddm1, ofNat_nI, zl2, zl3, zl4, zl5, zl6, zl7, zl8, zl9, zl13, zl15, zl16, zl17, zl31, zl63, zl64, zl100, zl256, zl1000, zl1200, zl7200, zl65536, zl100000, if_true, if_false, or_false, false_or, true_or, or_true, and_true, true_and, false_and, and_false, not_true_eq_false, not_false_eq_true, if_pos, if_neg, Option.bind_some, Option.bind_none, vn, reduceCtorEq, a0, e0, m_timeOf fu hfu hN hok h hw hi]
        · rw [if_pos ⟨decide_eq_true e0, by omega⟩]
          simp (disch := omega) only [f_X9_ticksOf_l21, nlt0, nle, nlt, neqI, ncl, nadd, nmul, nm1, nm1', nsucc, n_eq0, n_eq0', n_eq1, n_le0, n_0lt, n_0le, n_1le, n_le1, n_01, n_10, nsubI, nsub1, naddm1, ofNat_nI, zl2, zl3, zl4, zl5, zl6, zl7, zl8, zl9, zl13, zl15, zl16, zl17, zl31, zl63, zl64, zl100, zl256, zl1000, zl1200, zl7200, zl65536, zl100000, if_true, if_false, or_false, false_or, true_or, or_true, and_true, true_and, false_and, and_false, not_true_eq_false, not_false_eq_true, if_pos, if_neg, Option.bind_some, Option.bind_none, vn, reduceCtorEq, a0, e0, m_timeOf fu hfu hN hok h hw hi]
      · rw [if_neg (fun q => e0 (of_decide_eq_true q.1))]
        simp (disch := omega) only [f_X9_ticksOf_l21, nlt0, nle, nlt, neqI, ncl, nadd, nmul, nm1, nm1', nsucc, n_eq0, n_eq0', n_eq1, n_le0, n_0lt, n_0le, n_1le, n_le1, n_01, n_10, nsubI, nsub1, naddm1, ofNat_nI, zl2, zl3, zl4, zl5, zl6, zl7, zl8, zl9, zl13, zl15, zl16, zl17, zl31, zl63, zl64, zl100, zl256, zl1000, zl1200, zl7200, zl65536, zl100000, if_true, if_false, or_false, false_or, true_or, or_true, and_true, true_and, false_and, and_false, not_true_eq_false, not_false_eq_true, if_pos, if_neg, Option.bind_some, Option.bind_none, vn, reduceCtorEq, a0, e0]
    · rintro z rfl
      exact ⟨_, fun k => by simp (disch := omega) only [f_X9_ticksOf_l21, nlt0, nle, nlt, neqI, ncl, nadd, nmul, nm1, nm1', nsucc, n_eq0, n_eq0', n_eq1, n_le0, n_0lt, n_0le, n_1le, n_le1, n_01, n_10, nsubI, nsub1, naddm1, ofNat_nI, zl2, zl3, zl4, zl5, zl6, zl7, zl8, zl9, zl13, zl15, zl16, zl17, zl31, zl63, zl64, zl100, zl256, zl1000, zl1200, zl7200, zl65536, zl100000, if_true, if_false, or_false, false_or, true_or, or_true, and_true, true_and, false_and, and_false, not_true_eq_false, not_false_eq_true, if_pos, if_neg, Option.bind_some, Option.bind_none, vn, reduceCtorEq]; rfl, rfl⟩
  obtain ⟨r, h1, h2⟩ := lp_run (f_X9_ticksOf_l5 fu se mw mp mm) (stp S N) (fun i z => z = (nI (fb_sm (mxs N S mw mp) i), nI i)) (fun r => r = nI (tck N S mw mp)) (by
    rintro i z hi rfl
    left
    obtain ⟨r, g1, g2⟩ := hin i (by omega)
    refine ⟨(nI (fb_sm (mxs N S mw mp) (i + 1)), nI (i + 1)), fun k => ?_, rfl⟩
    unfold f_X9_ticksOf_l5
    simp only [vn]
    rw [hso, Option.bind_some, if_neg (by rw [nle (by omega) (by omega)]; omega), g1, Option.bind_some, g2, nadd, nsucc, fb_sm_succ]) (by
    rintro z rfl
    refine ⟨_, fun k => ?_, rfl⟩
    unfold f_X9_ticksOf_l5
    simp only [vn]
    rw [hso, Option.bind_some, if_pos (by rw [nle (by omega) (by omega)]; omega)]
    rfl) (stp S N) 0 (0, 0) fu (by omega) (by omega) rfl
  simp only [f_X9_ticksOf, h1, h2, Option.bind_some]
end TM
theorem b_letterTicks (fu : Nat) (wa pe : Nat → Int32) {a b w p k : Nat} (ha : a < 16) (hb : b < 16) (hw : w ≤ 1000) (h1 : wa (16 * a + b) = nI w) (h2 : pe (16 * a + b) = nI p) : f_X3_letterTicks fu wa pe (nI a) (nI b) (nI k) = some (nI (w + k * p)) := by
  unfold f_X3_letterTicks
  rw [b_hasLine fu a b wa ha hb, h1, if_neg (by rw [nm1 (by omega)]; exact fun q => q)]
  simp (disch := omega) only [f_X3_pair, nlt0, nle, nlt, neqI, ncl, nadd, nmul, nm1, nm1', nsucc, n_eq0, n_eq0', n_eq1, n_le0, n_0lt, n_0le, n_1le, n_le1, n_01, n_10, nsubI, nsub1, naddm1, ofNat_nI, zl2, zl3, zl4, zl5, zl6, zl7, zl8, zl9, zl13, zl15, zl16, zl17, zl31, zl63, zl64, zl100, zl256, zl1000, zl1200, zl7200, zl65536, zl100000, if_true, if_false, or_false, false_or, true_or, or_true, and_true, true_and, false_and, and_false, not_true_eq_false, not_false_eq_true, if_pos, if_neg, Option.bind_some, Option.bind_none, vn, reduceCtorEq, Nat.mul_comm a 16, h1, h2]
def gk (s : Nat → Nat) : Nat := s 0 * 16 + s 1
/-- a letter's sends stand side by side: their number -/
theorem lct_blk {N : Nat} {S : Nat → Nat → Nat} (hok : ∀ i, i < N → sok (S i)) (hcp : ZCp N S) {a i : Nat} (hai : a ≤ i) (hi : i < N) (h1 : ∀ j, j < a → gk (S j) < gk (S i)) (h2 : ∀ j, a ≤ j → j ≤ i → gk (S j) = gk (S i)) (h3 : ∀ j, i < j → j < N → gk (S i) < gk (S j)) : lct N S (S i) = i + 1 - a := by
  have hsl : ∀ j, j < N → sl (S j) (S i) = decide (a ≤ j ∧ j ≤ i) := by
    intro j hj
    obtain ⟨s0, s1, s2, s3, s4, s5⟩ := hok i hi
    obtain ⟨t0, t1, t2, t3, t4, t5⟩ := hok j hj
    unfold sl
    by_cases e : a ≤ j ∧ j ≤ i
    · have q := h2 j e.1 e.2
      have q2 : S j 0 = S i 0 ∧ S j 1 = S i 1 := by unfold gk at q; omega
      rw [decide_eq_true e, decide_eq_true]
      exact ⟨q2.1, q2.2, (hcp j i hj hi q2.1).mp q2.2⟩
    · rw [decide_eq_false e, decide_eq_false]
      rintro ⟨q0, q1, -⟩
      have q : gk (S j) = gk (S i) := by unfold gk; rw [q0, q1]
      rcases Nat.lt_or_ge j a with z | z
      · have := h1 j z; omega
      · have := h3 j (by omega) hj; omega
  have hc : ∀ n, n ≤ N → fb_ct (fun j => sl (S j) (S i)) n = min n (i + 1) - min n a := by
    intro n
    induction n with
    | zero => intro _; simp [fb_ct]
    | succ n ih =>
      intro hn
      rw [fb_ct_succ, ih (by omega), hsl n (by omega)]
      by_cases e : a ≤ n ∧ n ≤ i
      · rw [if_pos (decide_eq_true e)]; omega
      · rw [if_neg (fun q => e (of_decide_eq_true q))]; omega
  rw [lct, hc N (Nat.le_refl N)]
  omega
