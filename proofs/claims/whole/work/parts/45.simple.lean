/-! hosts, set, at, live, late: both answer alike -/
def ZHo (n : Nat) (lv : Nat → Bool) (al hb rb : Nat → Int32) (sz rk mh : Int32) (lo : Nat → Int32) : Prop :=
  2 ≤ n ∧ n ≤ 16 ∧ sz = nI n ∧ mh = nI n ∧ (∀ j, j < 16 → al j = if lv j then 1 else 0) ∧ (∀ j, n ≤ j → lv j = false) ∧ (∀ j, j < n → (lv j = true ↔ lo j = 0)) ∧ rk = nI (fb_ct lv n) ∧ 0 < fb_ct lv n ∧ ∀ j, j < n → lv j = true → hb (fb_ct lv j) = nI j ∧ rb j = nI (fb_ct lv j)
def ZLt (n : Nat) (la ml : Nat → Int32) : Prop := ∀ j, j < 16 → la j = ml j ∧ ∃ t, t ≤ 100000 ∧ ml j = nI t ∧ (n ≤ j → t = 0)
def ZHe (en mb : Nat → Int32) : Prop := ∀ k, k < 256 → en k = mb k
theorem b_isBlock (fu : Nat) (x : Int32) : f_X8_isBlock fu x = some (if hx 16 x then 1 else 0) := b_isHost fu 16 (by omega) x
theorem b_isCell (fu : Nat) (x : Int32) : f_X8_isCell fu x = some (if hx 256 x then 1 else 0) := b_isHost fu 256 (by omega) x
theorem m_in15 (fu : Nat) (x : Int32) : f_X9_in fu x 0 15 = some (if hx 16 x then 1 else 0) := by
  have h := m_isHost fu 16 (by omega) (by omega) x
  unfold f_X9_isHost at h
  rw [show nI 16 - 1 = (15 : Int32) from by decide] at h
  rw [m_in] at h ⊢
  rw [Option.bind_some] at h
  by_cases e : (x < 0 ∨ 15 < x)
  · rw [if_pos e] at h ⊢
    simpa using h
  · rw [if_neg e] at h ⊢
    simpa using h
theorem b_change (fu k : Nat) (en : Nat → Int32) (v : Int32) (hk : k < 256) : f_X2_change fu en (nI k) v = some (upd en k v) := by
  unfold f_X2_change
  rw [b_isCell, hx_nI (by omega), decide_eq_true hk]
  simp (disch := omega) only [nlt0, nle, nlt, neqI, ncl, nadd, nmul, nm1, nm1', nsucc, n_eq0, n_eq0', n_eq1, n_le0, n_0lt, n_0le, n_1le, n_le1, n_01, n_10, nsubI, nsub1, naddm1, ofNat_nI, zl2, zl3, zl4, zl5, zl6, zl7, zl8, zl9, zl13, zl15, zl16, zl17, zl31, zl63, zl64, zl100, zl256, zl1000, zl1200, zl7200, zl65536, zl100000, if_true, if_false, or_false, false_or, true_or, or_true, and_true, true_and, false_and, and_false, not_true_eq_false, not_false_eq_true, if_pos, if_neg, Option.bind_some, Option.bind_none, vn, reduceCtorEq]
theorem b_value (fu k : Nat) (en : Nat → Int32) (hk : k < 256) : f_X2_value fu en (nI k) = some (en k) := by
  unfold f_X2_value
  rw [b_isCell, hx_nI (by omega), decide_eq_true hk]
  simp (disch := omega) only [nlt0, nle, nlt, neqI, ncl, nadd, nmul, nm1, nm1', nsucc, n_eq0, n_eq0', n_eq1, n_le0, n_0lt, n_0le, n_1le, n_le1, n_01, n_10, nsubI, nsub1, naddm1, ofNat_nI, zl2, zl3, zl4, zl5, zl6, zl7, zl8, zl9, zl13, zl15, zl16, zl17, zl31, zl63, zl64, zl100, zl256, zl1000, zl1200, zl7200, zl65536, zl100000, if_true, if_false, or_false, false_or, true_or, or_true, and_true, true_and, false_and, and_false, not_true_eq_false, not_false_eq_true, if_pos, if_neg, Option.bind_some, Option.bind_none, vn, reduceCtorEq]
theorem ZHe.set {en mb : Nat → Int32} (h : ZHe en mb) (i : Nat) (v : Int32) : ZHe (upd en i v) (upd mb i v) := fun k hk => by
  simp only [upd]
  split
  · rfl
  · exact h k hk
theorem B_set (fu n : Nat) (h0 : 2 ≤ n) (hn : n ≤ 16) {en mb : Nat → Int32} (h : ZHe en mb) (x1 x2 x3 : Int32) : ∃ r en' mb', ZHe en' mb' ∧ f_X8_set fu (nI n) en x1 x2 x3 = some (r, en') ∧ f_X9_set fu (nI n) mb x1 x2 x3 = some (r, mb', 0) := by
  unfold f_X8_set f_X9_set
  rw [b_isHost fu n (by omega), m_isHost fu n (by omega) (by omega), b_isBlock, m_in15]
  simp only [Option.bind_some]
  cases e1 : hx n x1 with
  | false => exact ⟨0, en, mb, h, by simp, by simp⟩
  | true =>
    cases e2 : hx 16 x2 with
    | false => exact ⟨0, en, mb, h, by simp, by simp⟩
    | true =>
      obtain ⟨a, ha, ha2, rfl⟩ := hx_t e1
      obtain ⟨b, hb, hb2, rfl⟩ := hx_t e2
      refine ⟨1, upd en (16 * a + b) x3, upd mb (16 * a + b) x3, h.set _ _, ?_, ?_⟩
      · simp (disch := omega) only [f_X8_cell, nlt0, nle, nlt, neqI, ncl, nadd, nmul, nm1, nm1', nsucc, n_eq0, n_eq0', n_eq1, n_le0, n_0lt, n_0le, n_1le, n_le1, n_01, n_10, nsubI, nsub1, naddm1, ofNat_nI, zl2, zl3, zl4, zl5, zl6, zl7, zl8, zl9, zl13, zl15, zl16, zl17, zl31, zl63, zl64, zl100, zl256, zl1000, zl1200, zl7200, zl65536, zl100000, if_true, if_false, or_false, false_or, true_or, or_true, and_true, true_and, false_and, and_false, not_true_eq_false, not_false_eq_true, if_pos, if_neg, Option.bind_some, Option.bind_none, vn, reduceCtorEq, Nat.mul_comm a 16, b_change fu (16 * a + b) en x3 (by omega)]
      · simp (disch := omega) only [nlt0, nle, nlt, neqI, ncl, nadd, nmul, nm1, nm1', nsucc, n_eq0, n_eq0', n_eq1, n_le0, n_0lt, n_0le, n_1le, n_le1, n_01, n_10, nsubI, nsub1, naddm1, ofNat_nI, zl2, zl3, zl4, zl5, zl6, zl7, zl8, zl9, zl13, zl15, zl16, zl17, zl31, zl63, zl64, zl100, zl256, zl1000, zl1200, zl7200, zl65536, zl100000, if_true, if_false, or_false, false_or, true_or, or_true, and_true, true_and, false_and, and_false, not_true_eq_false, not_false_eq_true, if_pos, if_neg, Option.bind_some, Option.bind_none, vn, reduceCtorEq]
/-- at: where the host or the block isn't one it throws; else it is the number -/
theorem B_at (fu n : Nat) (h0 : 2 ≤ n) (hn : n ≤ 16) {en mb : Nat → Int32} (h : ZHe en mb) (x1 x2 : Int32) :
    ((hx n x1 = false ∨ hx 16 x2 = false) ∧ f_X9_at fu (nI n) mb x1 x2 = some (0, 1)) ∨ ∃ a b, a < n ∧ b < 16 ∧ x1 = nI a ∧ x2 = nI b ∧ f_X9_at fu (nI n) mb x1 x2 = some (en (16 * a + b), 0) := by
  unfold f_X9_at
  rw [m_isHost fu n (by omega) (by omega), m_in15]
  simp only [Option.bind_some]
  cases e1 : hx n x1 with
  | false => exact Or.inl ⟨Or.inl rfl, by simp⟩
  | true =>
    cases e2 : hx 16 x2 with
    | false => exact Or.inl ⟨Or.inr rfl, by simp⟩
    | true =>
      obtain ⟨a, ha, ha2, rfl⟩ := hx_t e1
      obtain ⟨b, hb, hb2, rfl⟩ := hx_t e2
      refine Or.inr ⟨a, b, ha, hb, rfl, rfl, ?_⟩
      simp (disch := omega) only [nlt0, nle, nlt, neqI, ncl, nadd, nmul, nm1, nm1', nsucc, n_eq0, n_eq0', n_eq1, n_le0, n_0lt, n_0le, n_1le, n_le1, n_01, n_10, nsubI, nsub1, naddm1, ofNat_nI, zl2, zl3, zl4, zl5, zl6, zl7, zl8, zl9, zl13, zl15, zl16, zl17, zl31, zl63, zl64, zl100, zl256, zl1000, zl1200, zl7200, zl65536, zl100000, if_true, if_false, or_false, false_or, true_or, or_true, and_true, true_and, false_and, and_false, not_true_eq_false, not_false_eq_true, if_pos, if_neg, Option.bind_some, Option.bind_none, vn, reduceCtorEq]
      rw [h _ (by omega)]
theorem B_late (fu n : Nat) (h0 : 2 ≤ n) (hn : n ≤ 16) {la ml : Nat → Int32} (h : ZLt n la ml) (x1 x2 : Int32) : ∃ r la' ml', ZLt n la' ml' ∧ f_X8_late fu la (nI n) x1 x2 = some (r, la') ∧ f_X9_late fu (nI n) ml x1 x2 = some (r, ml', 0) := by
  unfold f_X8_late f_X9_late f_X3_delay
  rw [b_isHost fu n (by omega), m_isHost fu n (by omega) (by omega), m_in]
  simp only [Option.bind_some]
  cases e1 : hx n x1 with
  | false => exact ⟨0, la, ml, h, by simp, by simp⟩
  | true =>
    obtain ⟨a, ha, ha2, rfl⟩ := hx_t e1
    by_cases e2 : x2 < 0
    · exact ⟨0, la, ml, h, by simp [e2], by simp [e2]⟩
    · obtain ⟨t, ht, rfl⟩ := nI_of e2
      by_cases e3 : t ≤ 100000
      · refine ⟨1, upd la a (nI t), upd ml a (nI t), fun j hj => ?_, ?_, ?_⟩
        · simp only [upd]
          split
          · exact ⟨rfl, t, e3, rfl, fun q => by omega⟩
          · exact h j hj
        · simp (disch := omega) only [nlt0, nle, nlt, neqI, ncl, nadd, nmul, nm1, nm1', nsucc, n_eq0, n_eq0', n_eq1, n_le0, n_0lt, n_0le, n_1le, n_le1, n_01, n_10, nsubI, nsub1, naddm1, ofNat_nI, zl2, zl3, zl4, zl5, zl6, zl7, zl8, zl9, zl13, zl15, zl16, zl17, zl31, zl63, zl64, zl100, zl256, zl1000, zl1200, zl7200, zl65536, zl100000, if_true, if_false, or_false, false_or, true_or, or_true, and_true, true_and, false_and, and_false, not_true_eq_false, not_false_eq_true, if_pos, if_neg, Option.bind_some, Option.bind_none, vn, reduceCtorEq]
        · simp (disch := omega) only [nlt0, nle, nlt, neqI, ncl, nadd, nmul, nm1, nm1', nsucc, n_eq0, n_eq0', n_eq1, n_le0, n_0lt, n_0le, n_1le, n_le1, n_01, n_10, nsubI, nsub1, naddm1, ofNat_nI, zl2, zl3, zl4, zl5, zl6, zl7, zl8, zl9, zl13, zl15, zl16, zl17, zl31, zl63, zl64, zl100, zl256, zl1000, zl1200, zl7200, zl65536, zl100000, if_true, if_false, or_false, false_or, true_or, or_true, and_true, true_and, false_and, and_false, not_true_eq_false, not_false_eq_true, if_pos, if_neg, Option.bind_some, Option.bind_none, vn, reduceCtorEq]
      · refine ⟨0, la, ml, h, ?_, ?_⟩
        · simp (disch := omega) only [nlt0, nle, nlt, neqI, ncl, nadd, nmul, nm1, nm1', nsucc, n_eq0, n_eq0', n_eq1, n_le0, n_0lt, n_0le, n_1le, n_le1, n_01, n_10, nsubI, nsub1, naddm1, ofNat_nI, zl2, zl3, zl4, zl5, zl6, zl7, zl8, zl9, zl13, zl15, zl16, zl17, zl31, zl63, zl64, zl100, zl256, zl1000, zl1200, zl7200, zl65536, zl100000, if_true, if_false, or_false, false_or, true_or, or_true, and_true, true_and, false_and, and_false, not_true_eq_false, not_false_eq_true, if_pos, if_neg, Option.bind_some, Option.bind_none, vn, reduceCtorEq]
        · simp (disch := omega) only [nlt0, nle, nlt, neqI, ncl, nadd, nmul, nm1, nm1', nsucc, n_eq0, n_eq0', n_eq1, n_le0, n_0lt, n_0le, n_1le, n_le1, n_01, n_10, nsubI, nsub1, naddm1, ofNat_nI, zl2, zl3, zl4, zl5, zl6, zl7, zl8, zl9, zl13, zl15, zl16, zl17, zl31, zl63, zl64, zl100, zl256, zl1000, zl1200, zl7200, zl65536, zl100000, if_true, if_false, or_false, false_or, true_or, or_true, and_true, true_and, false_and, and_false, not_true_eq_false, not_false_eq_true, if_pos, if_neg, Option.bind_some, Option.bind_none, vn, reduceCtorEq]
theorem B_live (fu n : Nat) (hfu : 16 < fu) {lv : Nat → Bool} {al hb rb lo : Nat → Int32} {sz rk mh : Int32} (h : ZHo n lv al hb rb sz rk mh lo) (ps mm x1 x2 : Int32) (hx2 : x2 = 0 ∨ x2 = 1) :
    ∃ r lv' al' hb' rb' rk' lo' ps' mm', ZHo n lv' al' hb' rb' sz rk' mh lo' ∧ f_X8_live fu al hb rb sz rk ps x1 x2 = some (r, al', hb', rb', rk', ps') ∧ f_X9_live fu mh lo mm x1 x2 = some (r, lo', mm', 0) ∧ ((ps' = ps ∧ mm' = mm ∧ lv' = lv) ∨ (ps' = 0 ∧ mm' = 0)) := by
  obtain ⟨h0, hn, rfl, rfl, ha, hz, hl, rfl, hp, hr⟩ := id h
  have step : ∀ (a : Nat) (b : Bool) (v w : Int32), a < n → v = (if b then 1 else 0) → (b = true ↔ w = 0) → 0 < fb_ct (fun j => if j = a then b else lv j) n → ∃ lv' al' hb' rb' rk', ZHo n lv' al' hb' rb' (nI n) rk' (nI n) (upd lo a w) ∧ f_X3_turn fu al hb rb (nI n) (nI (fb_ct lv n)) (nI a) v = some (al', hb', rb', rk') := by
    intro a b v w haN hv hw hpos
    have ha' : ∀ j, j < 16 → upd al a (vp_nar .boolean v) j = if (fun j => if j = a then b else lv j) j then 1 else 0 := by
      intro j hj
      simp only [upd]
      by_cases e : j = a
      · subst e
        simp only [if_true, hv]
        cases b <;> rfl
      · simp only [e, if_false]; exact ha j hj
    obtain ⟨r, h1, h2, h3⟩ := b_rankAnew fu n hn hfu (fun j => if j = a then b else lv j) (upd al a (vp_nar .boolean v)) hb rb ha'
    refine ⟨fun j => if j = a then b else lv j, upd al a (vp_nar .boolean v), r.1, r.2.1, r.2.2, ⟨h0, hn, rfl, rfl, ha', ?_, ?_, h2, hpos, h3⟩, ?_⟩
    · intro j hj
      show (if j = a then b else lv j) = false
      rw [if_neg (by omega)]; exact hz j hj
    · intro j hj
      simp only [upd]
      by_cases e : j = a
      · rw [if_pos e, if_pos e]; exact hw
      · rw [if_neg e, if_neg e]; exact hl j hj
    · unfold f_X3_turn
      rw [b_isHost fu n (by omega), hx_nI (by omega), decide_eq_true haN]
      simp (disch := omega) only [nlt0, nle, nlt, neqI, ncl, nadd, nmul, nm1, nm1', nsucc, n_eq0, n_eq0', n_eq1, n_le0, n_0lt, n_0le, n_1le, n_le1, n_01, n_10, nsubI, nsub1, naddm1, ofNat_nI, zl2, zl3, zl4, zl5, zl6, zl7, zl8, zl9, zl13, zl15, zl16, zl17, zl31, zl63, zl64, zl100, zl256, zl1000, zl1200, zl7200, zl65536, zl100000, if_true, if_false, or_false, false_or, true_or, or_true, and_true, true_and, false_and, and_false, not_true_eq_false, not_false_eq_true, if_pos, if_neg, Option.bind_some, Option.bind_none, vn, reduceCtorEq, h1]
  unfold f_X8_live f_X9_live f_X3_isLastLive
  rw [b_isHost fu n (by omega), m_isHost fu n (by omega) (by omega), b_isLive fu n hn lv al ha, m_isLive fu n (by omega) hn lv lo hl, m_liveMany fu n hn hfu lv lo hl]
  simp only [Option.bind_some]
  cases e1 : hx n x1 with
  | false => exact ⟨0, lv, al, hb, rb, _, lo, ps, mm, h, by simp, by simp, Or.inl ⟨rfl, rfl, rfl⟩⟩
  | true =>
    obtain ⟨a, haN, ha2, rfl⟩ := hx_t e1
    have hcl := fb_ct_le lv n
    rcases hx2 with rfl | rfl
    · -- a host is lost
      rw [lx_nI ha2, decide_eq_true haN, Bool.true_and]
      have hu := fb_ct_upd lv false haN
      cases hla : lv a with
      | false =>
        rw [hla] at hu
        obtain ⟨lv', al', hb', rb', rk', h1, h2⟩ := step a false 0 (vp_nar .boolean 1) haN rfl (by simp [vnb1]) (by simp only [Bool.false_eq_true, if_false, if_true, Nat.add_zero] at hu; omega)
        exact ⟨1, lv', al', hb', rb', rk', _, 0, 0, h1, by simp [h2, f_X4_empty], by simp (disch := omega) only [nlt0, nle, nlt, neqI, ncl, nadd, nmul, nm1, nm1', nsucc, n_eq0, n_eq0', n_eq1, n_le0, n_0lt, n_0le, n_1le, n_le1, n_01, n_10, nsubI, nsub1, naddm1, ofNat_nI, zl2, zl3, zl4, zl5, zl6, zl7, zl8, zl9, zl13, zl15, zl16, zl17, zl31, zl63, zl64, zl100, zl256, zl1000, zl1200, zl7200, zl65536, zl100000, if_true, if_false, or_false, false_or, true_or, or_true, and_true, true_and, false_and, and_false, not_true_eq_false, not_false_eq_true, if_pos, if_neg, Option.bind_some, Option.bind_none, vn, reduceCtorEq, Bool.false_eq_true], Or.inr ⟨rfl, rfl⟩⟩
      | true =>
        rw [hla] at hu
        by_cases e3 : fb_ct lv n = 1
        · exact ⟨0, lv, al, hb, rb, _, lo, ps, mm, h, by simp [e3, show nI 1 = (1 : Int32) from rfl], by simp [e3, show nI 1 = (1 : Int32) from rfl], Or.inl ⟨rfl, rfl, rfl⟩⟩
        · obtain ⟨lv', al', hb', rb', rk', h1, h2⟩ := step a false 0 (vp_nar .boolean 1) haN rfl (by simp [vnb1]) (by simp only [Bool.false_eq_true, if_false, if_true, Nat.add_zero] at hu; omega)
          refine ⟨1, lv', al', hb', rb', rk', _, 0, 0, h1, ?_, ?_, Or.inr ⟨rfl, rfl⟩⟩
          · simp (disch := omega) only [nlt0, nle, nlt, neqI, ncl, nadd, nmul, nm1, nm1', nsucc, n_eq0, n_eq0', n_eq1, n_le0, n_0lt, n_0le, n_1le, n_le1, n_01, n_10, nsubI, nsub1, naddm1, ofNat_nI, zl2, zl3, zl4, zl5, zl6, zl7, zl8, zl9, zl13, zl15, zl16, zl17, zl31, zl63, zl64, zl100, zl256, zl1000, zl1200, zl7200, zl65536, zl100000, if_true, if_false, or_false, false_or, true_or, or_true, and_true, true_and, false_and, and_false, not_true_eq_false, not_false_eq_true, if_pos, if_neg, Option.bind_some, Option.bind_none, vn, reduceCtorEq, h2, f_X4_empty]
          · simp (disch := omega) only [nlt0, nle, nlt, neqI, ncl, nadd, nmul, nm1, nm1', nsucc, n_eq0, n_eq0', n_eq1, n_le0, n_0lt, n_0le, n_1le, n_le1, n_01, n_10, nsubI, nsub1, naddm1, ofNat_nI, zl2, zl3, zl4, zl5, zl6, zl7, zl8, zl9, zl13, zl15, zl16, zl17, zl31, zl63, zl64, zl100, zl256, zl1000, zl1200, zl7200, zl65536, zl100000, if_true, if_false, or_false, false_or, true_or, or_true, and_true, true_and, false_and, and_false, not_true_eq_false, not_false_eq_true, if_pos, if_neg, Option.bind_some, Option.bind_none, vn, reduceCtorEq]
    · have hu := fb_ct_upd lv true haN
      obtain ⟨lv', al', hb', rb', rk', h1, h2⟩ := step a true 1 (vp_nar .boolean 0) haN rfl (by simp [vnb0]) (by simp only [if_true] at hu; split at hu <;> omega)
      refine ⟨1, lv', al', hb', rb', rk', _, 0, 0, h1, ?_, ?_, Or.inr ⟨rfl, rfl⟩⟩
      · simp (disch := omega) only [nlt0, nle, nlt, neqI, ncl, nadd, nmul, nm1, nm1', nsucc, n_eq0, n_eq0', n_eq1, n_le0, n_0lt, n_0le, n_1le, n_le1, n_01, n_10, nsubI, nsub1, naddm1, ofNat_nI, zl2, zl3, zl4, zl5, zl6, zl7, zl8, zl9, zl13, zl15, zl16, zl17, zl31, zl63, zl64, zl100, zl256, zl1000, zl1200, zl7200, zl65536, zl100000, if_true, if_false, or_false, false_or, true_or, or_true, and_true, true_and, false_and, and_false, not_true_eq_false, not_false_eq_true, if_pos, if_neg, Option.bind_some, Option.bind_none, vn, reduceCtorEq, h2, f_X4_empty]
      · simp (disch := omega) only [nlt0, nle, nlt, neqI, ncl, nadd, nmul, nm1, nm1', nsucc, n_eq0, n_eq0', n_eq1, n_le0, n_0lt, n_0le, n_1le, n_le1, n_01, n_10, nsubI, nsub1, naddm1, ofNat_nI, zl2, zl3, zl4, zl5, zl6, zl7, zl8, zl9, zl13, zl15, zl16, zl17, zl31, zl63, zl64, zl100, zl256, zl1000, zl1200, zl7200, zl65536, zl100000, if_true, if_false, or_false, false_or, true_or, or_true, and_true, true_and, false_and, and_false, not_true_eq_false, not_false_eq_true, if_pos, if_neg, Option.bind_some, Option.bind_none, vn, reduceCtorEq]
theorem ct_all (n : Nat) : fb_ct (fun j => decide (j < n)) n = n := fb_ct_all.mpr fun k hk => decide_eq_true hk
theorem b_begin (fu n : Nat) (hn : n ≤ 16) (hfu : 256 < fu) (al la hb rb wa : Nat → Int32) : ∃ r, f_X3_begin fu al la hb rb wa (nI n) = some r ∧ (∀ j, j < 16 → r.1 j = if decide (j < n) then 1 else 0) ∧ (∀ j, j < 16 → r.2.1 j = 0) ∧ (∀ j, j < n → r.2.2.1 j = nI j ∧ r.2.2.2.1 j = nI j) ∧ (∀ k, k < 256 → r.2.2.2.2.1 k = -1) ∧ r.2.2.2.2.2 = (nI n, nI n, 0) := by
  obtain ⟨r1, h1, h2⟩ := lp_run (f_X3_begin_l12 fu (nI n)) 16 (fun i s => s.1 = nI i ∧ ∀ j, j < i → s.2 j = if decide (j < n) then 1 else 0) (fun r => ∀ j, j < 16 → r j = if decide (j < n) then 1 else 0) (by
    rintro i ⟨x, g⟩ hi ⟨h1, h2⟩
    dsimp only at h1 h2
    subst h1
    left
    refine ⟨(nI (i + 1), upd g i (if decide (i < n) then 1 else 0)), fun k => ?_, rfl, fun j hj => ?_⟩
    · by_cases e : i < n <;> simp (disch := omega) only [f_X3_begin_l12, nlt0, nle, nlt, neqI, ncl, nadd, nmul, nm1, nm1', nsucc, n_eq0, n_eq0', n_eq1, n_le0, n_0lt, n_0le, n_1le, n_le1, n_01, n_10, nsubI, nsub1, naddm1, ofNat_nI, zl2, zl3, zl4, zl5, zl6, zl7, zl8, zl9, zl13, zl15, zl16, zl17, zl31, zl63, zl64, zl100, zl256, zl1000, zl1200, zl7200, zl65536, zl100000, if_true, if_false, or_false, false_or, true_or, or_true, and_true, true_and, false_and, and_false, not_true_eq_false, not_false_eq_true, if_pos, if_neg, Option.bind_some, Option.bind_none, vn, reduceCtorEq, vnb0, vnb1, e, decide_true, decide_false, Bool.false_eq_true]
    · by_cases e : j = i
      · simp [upd, e]
      · simp only [upd, e, if_false]; exact h2 j (by omega)) (by
    rintro ⟨x, g⟩ ⟨h1, h2⟩
    dsimp only at h1 h2
    subst h1
    exact ⟨g, fun k => by simp (disch := omega) only [f_X3_begin_l12, nlt0, nle, nlt, neqI, ncl, nadd, nmul, nm1, nm1', nsucc, n_eq0, n_eq0', n_eq1, n_le0, n_0lt, n_0le, n_1le, n_le1, n_01, n_10, nsubI, nsub1, naddm1, ofNat_nI, zl2, zl3, zl4, zl5, zl6, zl7, zl8, zl9, zl13, zl15, zl16, zl17, zl31, zl63, zl64, zl100, zl256, zl1000, zl1200, zl7200, zl65536, zl100000, if_true, if_false, or_false, false_or, true_or, or_true, and_true, true_and, false_and, and_false, not_true_eq_false, not_false_eq_true, if_pos, if_neg, Option.bind_some, Option.bind_none, vn, reduceCtorEq], h2⟩) 16 0 (0, al) fu (by omega) (by omega) ⟨rfl, fun j hj => by omega⟩
  obtain ⟨r2, h3, h4, -⟩ := b_fill fu 16 0 la (by omega) (by omega)
  obtain ⟨r3, h5, h6, -⟩ := b_fill fu 256 (-1) wa (by omega) (by omega)
  obtain ⟨r4, h7, h8, h9⟩ := b_rankAnew fu n hn (by omega) (fun j => decide (j < n)) r1 hb rb h2
  rw [ct_all] at h8
  refine ⟨(r1, r2, r4.1, r4.2.1, r3, nI n, r4.2.2, 0), ?_, h2, h4, fun j hj => ?_, h6, by rw [h8]⟩
  · simp only [f_X3_begin, h1, h3, h5, h7, Option.bind_some]
  · have e : fb_ct (fun j => decide (j < n)) j = j := fb_ct_all.mpr fun k hk => decide_eq_true (by omega)
    have := h9 j hj (decide_eq_true hj)
    rwa [e] at this
theorem LC_none {mw : Nat → Int32} {n : Nat} (hn : n ≤ 16) (h : ∀ k, k < 256 → mw k = -1) : LC mw n = 0 := by
  unfold LC
  rw [show (0 : Nat) = fb_sm (fun _ => 0) n by rw [fb_sm_const]; omega]
  exact fb_sm_cong fun a ha => fb_ct_zero.mpr fun b hb => by rw [h _ (by omega)]; rfl
theorem m_unlink (fu : Nat) (hfu : 256 < fu) (mw : Nat → Int32) : ∃ r, f_X9_unlink fu mw = some r ∧ ∀ k, k < 256 → r k = -1 := by
  obtain ⟨r, h1, h2⟩ := lp_run (f_X9_unlink_l2 fu) 256 (fun i s => s.1 = nI i ∧ ∀ j, j < i → s.2 j = -1) (fun r => ∀ j, j < 256 → r j = -1) (by
    rintro i ⟨x, g⟩ hi ⟨h1, h2⟩
    dsimp only at h1 h2
    subst h1
    refine Or.inl ⟨(nI (i + 1), upd g i (-1)), fun k => ?_, rfl, fun j hj => ?_⟩
    · simp (disch := omega) only [f_X9_unlink_l2, nlt0, nle, nlt, neqI, ncl, nadd, nmul, nm1, nm1', nsucc, n_eq0, n_eq0', n_eq1, n_le0, n_0lt, n_0le, n_1le, n_le1, n_01, n_10, nsubI, nsub1, naddm1, ofNat_nI, zl2, zl3, zl4, zl5, zl6, zl7, zl8, zl9, zl13, zl15, zl16, zl17, zl31, zl63, zl64, zl100, zl256, zl1000, zl1200, zl7200, zl65536, zl100000, if_true, if_false, or_false, false_or, true_or, or_true, and_true, true_and, false_and, and_false, not_true_eq_false, not_false_eq_true, if_pos, if_neg, Option.bind_some, Option.bind_none, vn, reduceCtorEq]
    · by_cases e : j = i
      · simp [upd, e]
      · simp only [upd, e, if_false]; exact h2 j (by omega)) (by
    rintro ⟨x, g⟩ ⟨h1, h2⟩
    dsimp only at h1 h2
    subst h1
    exact ⟨g, fun k => by simp (disch := omega) only [f_X9_unlink_l2, nlt0, nle, nlt, neqI, ncl, nadd, nmul, nm1, nm1', nsucc, n_eq0, n_eq0', n_eq1, n_le0, n_0lt, n_0le, n_1le, n_le1, n_01, n_10, nsubI, nsub1, naddm1, ofNat_nI, zl2, zl3, zl4, zl5, zl6, zl7, zl8, zl9, zl13, zl15, zl16, zl17, zl31, zl63, zl64, zl100, zl256, zl1000, zl1200, zl7200, zl65536, zl100000, if_true, if_false, or_false, false_or, true_or, or_true, and_true, true_and, false_and, and_false, not_true_eq_false, not_false_eq_true, if_pos, if_neg, Option.bind_some, Option.bind_none, vn, reduceCtorEq], h2⟩) 256 0 (0, mw) fu (by omega) (by omega) ⟨rfl, fun j hj => by omega⟩
  exact ⟨r, by simp only [f_X9_unlink, h1, Option.bind_some], h2⟩
theorem B_hosts (fu n : Nat) (hfu : 256 < fu) {lv : Nat → Bool} {al hb rb lo la ml wa pe mw mp en mb : Nat → Int32} {sz rk mh li : Int32} (h : ZHo n lv al hb rb sz rk mh lo) (hlt : ZLt n la ml) (hln : ZLn n wa pe li mw mp) (hhe : ZHe en mb) (ps mm x1 : Int32) :
    (∃ al' la' hb' rb' wa' li' sz' rk' en' lo' ml' mw' mb' n' lv', ZHo n' lv' al' hb' rb' sz' rk' sz' lo' ∧ ZLt n' la' ml' ∧ ZLn n' wa' pe li' mw' mp ∧ ZHe en' mb' ∧ f_X8_hosts fu al la hb rb wa sz rk li ps en x1 = some (1, al', la', hb', rb', wa', sz', rk', li', 0, en') ∧ f_X9_hosts fu mh lo ml mw mb mm x1 = some (1, sz', lo', ml', mw', mb', 0, 0)) ∨
    (f_X8_hosts fu al la hb rb wa sz rk li ps en x1 = some (0, al, la, hb, rb, wa, sz, rk, li, ps, en) ∧ f_X9_hosts fu mh lo ml mw mb mm x1 = some (0, mh, lo, ml, mw, mb, mm, 0)) := by
  unfold f_X8_hosts f_X9_hosts
  rw [m_in, Option.bind_some]
  by_cases e1 : x1 < 2
  · right; simp [e1]
  · by_cases e2 : x1 ≤ 16
    · left
      have e0 : ¬ x1 < 0 := fun q => e1 (by rw [fa_lt] at q ⊢; rw [i0] at q; have e : (2 : Int32).toInt = 2 := (by decide); rw [e]; omega)
      obtain ⟨k, hk, rfl⟩ := nI_of e0
      rw [zl2, nlt hk (by omega)] at e1
      rw [zl16, nle hk (by omega)] at e2
      obtain ⟨r, h1, h2, h3, h4, h5, h6⟩ := b_begin fu k e2 hfu al la hb rb wa
      obtain ⟨r2, h7, h8, -⟩ := b_fill fu 256 0 en (by omega) hfu
      obtain ⟨r3, h9, h10⟩ := lp_run (f_X9_hosts_l24 fu) 16 (fun i s => s.1 = nI i ∧ ∀ j, j < i → s.2.1 j = 0 ∧ s.2.2 j = 0) (fun r => ∀ j, j < 16 → r.1 j = 0 ∧ r.2 j = 0) (by
        rintro i ⟨x, g, g2⟩ hi ⟨h1, h2⟩
        dsimp only at h1 h2
        subst h1
        refine Or.inl ⟨(nI (i + 1), upd g i 0, upd g2 i 0), fun k => ?_, rfl, fun j hj => ?_⟩
        · simp (disch := omega) only [f_X9_hosts_l24, nlt0, nle, nlt, neqI, ncl, nadd, nmul, nm1, nm1', nsucc, n_eq0, n_eq0', n_eq1, n_le0, n_0lt, n_0le, n_1le, n_le1, n_01, n_10, nsubI, nsub1, naddm1, ofNat_nI, zl2, zl3, zl4, zl5, zl6, zl7, zl8, zl9, zl13, zl15, zl16, zl17, zl31, zl63, zl64, zl100, zl256, zl1000, zl1200, zl7200, zl65536, zl100000, if_true, if_false, or_false, false_or, true_or, or_true, and_true, true_and, false_and, and_false, not_true_eq_false, not_false_eq_true, if_pos, if_neg, Option.bind_some, Option.bind_none, vn, reduceCtorEq, vnb0]
        · by_cases e : j = i
          · simp [upd, e]
          · simp only [upd, e, if_false]; exact h2 j (by omega)) (by
        rintro ⟨x, g, g2⟩ ⟨h1, h2⟩
        dsimp only at h1 h2
        subst h1
        exact ⟨(g, g2), fun k => by simp (disch := omega) only [f_X9_hosts_l24, nlt0, nle, nlt, neqI, ncl, nadd, nmul, nm1, nm1', nsucc, n_eq0, n_eq0', n_eq1, n_le0, n_0lt, n_0le, n_1le, n_le1, n_01, n_10, nsubI, nsub1, naddm1, ofNat_nI, zl2, zl3, zl4, zl5, zl6, zl7, zl8, zl9, zl13, zl15, zl16, zl17, zl31, zl63, zl64, zl100, zl256, zl1000, zl1200, zl7200, zl65536, zl100000, if_true, if_false, or_false, false_or, true_or, or_true, and_true, true_and, false_and, and_false, not_true_eq_false, not_false_eq_true, if_pos, if_neg, Option.bind_some, Option.bind_none, vn, reduceCtorEq], h2⟩) 16 0 (0, lo, ml) fu (by omega) (by omega) ⟨rfl, fun j hj => by omega⟩
      obtain ⟨r4, h11, h12⟩ := lp_run (f_X9_hosts_l52 fu) 256 (fun i s => s.1 = nI i ∧ ∀ j, j < i → s.2 j = 0) (fun r => ∀ j, j < 256 → r j = 0) (by
        rintro i ⟨x, g⟩ hi ⟨h1, h2⟩
        dsimp only at h1 h2
        subst h1
        refine Or.inl ⟨(nI (i + 1), upd g i 0), fun k => ?_, rfl, fun j hj => ?_⟩
        · simp (disch := omega) only [f_X9_hosts_l52, nlt0, nle, nlt, neqI, ncl, nadd, nmul, nm1, nm1', nsucc, n_eq0, n_eq0', n_eq1, n_le0, n_0lt, n_0le, n_1le, n_le1, n_01, n_10, nsubI, nsub1, naddm1, ofNat_nI, zl2, zl3, zl4, zl5, zl6, zl7, zl8, zl9, zl13, zl15, zl16, zl17, zl31, zl63, zl64, zl100, zl256, zl1000, zl1200, zl7200, zl65536, zl100000, if_true, if_false, or_false, false_or, true_or, or_true, and_true, true_and, false_and, and_false, not_true_eq_false, not_false_eq_true, if_pos, if_neg, Option.bind_some, Option.bind_none, vn, reduceCtorEq]
        · by_cases e : j = i
          · simp [upd, e]
          · simp only [upd, e, if_false]; exact h2 j (by omega)) (by
        rintro ⟨x, g⟩ ⟨h1, h2⟩
        dsimp only at h1 h2
        subst h1
        exact ⟨g, fun k => by simp (disch := omega) only [f_X9_hosts_l52, nlt0, nle, nlt, neqI, ncl, nadd, nmul, nm1, nm1', nsucc, n_eq0, n_eq0', n_eq1, n_le0, n_0lt, n_0le, n_1le, n_le1, n_01, n_10, nsubI, nsub1, naddm1, ofNat_nI, zl2, zl3, zl4, zl5, zl6, zl7, zl8, zl9, zl13, zl15, zl16, zl17, zl31, zl63, zl64, zl100, zl256, zl1000, zl1200, zl7200, zl65536, zl100000, if_true, if_false, or_false, false_or, true_or, or_true, and_true, true_and, false_and, and_false, not_true_eq_false, not_false_eq_true, if_pos, if_neg, Option.bind_some, Option.bind_none, vn, reduceCtorEq], h2⟩) 256 0 (0, mb) fu (by omega) (by omega) ⟨rfl, fun j hj => by omega⟩
      obtain ⟨r5, h13, h14⟩ := m_unlink fu hfu mw
      refine ⟨r.1, r.2.1, r.2.2.1, r.2.2.2.1, r.2.2.2.2.1, 0, nI k, nI k, r2, r3.1, r3.2, r5, r4, k, fun j => decide (j < k), ⟨by omega, e2, rfl, rfl, h2, ?_, ?_, by rw [ct_all], by rw [ct_all]; omega, ?_⟩, ?_, ⟨?_, ?_, ?_, ?_, ?_⟩, ?_, ?_, ?_⟩
      · intro j hj; exact decide_eq_false (by omega)
      · intro j hj; simp [(h10 j (by omega)).1, hj]
      · intro j hj _
        have e : fb_ct (fun j => decide (j < k)) j = j := fb_ct_all.mpr fun q hq => decide_eq_true (by omega)
        rw [e]; exact h4 j hj
      · intro j hj
        exact ⟨by rw [h3 j hj, (h10 j hj).2], 0, by omega, (h10 j hj).2, fun _ => rfl⟩
      · intro q hq; rw [h5 q hq, h14 q hq]
      · intro a b ha hb; rw [h14 _ (by omega), h14 _ (by omega)]
      · intro a b ha hb _; exact h14 _ (by omega)
      · intro q hq; exact Or.inl (h14 q hq)
      · rw [LC_none e2 h14]; rfl
      · intro q hq; rw [h8 q hq, h12 q hq]
      · rw [if_neg (by rw [zl2, nlt hk (by omega)]; exact e1), if_pos (by rw [zl16, nle hk (by omega)]; exact e2), h1, f_X2_zero, h7]
        simp only [Option.bind_some, f_X4_empty, h6]
      · have e3 : ¬ (nI k < 2 ∨ 16 < nI k) := by rw [zl2, zl16, nlt hk (by omega), nlt (by omega) hk]; omega
        rw [if_neg e3, if_neg n_10.mp, h9, Option.bind_some, h11, Option.bind_some, h13, Option.bind_some]
    · right
      have e3 : x1 < 2 ∨ 16 < x1 := Or.inr (by rw [fa_le] at e2; rw [fa_lt]; omega)
      rw [if_neg e1, if_neg e2, if_pos e3, if_pos rfl]
      exact ⟨rfl, rfl⟩
