/-! lines -/
theorem lp_sim {α β α' β' : Type} (b : (α → Option β) → α → Option β) (b' : (α' → Option β') → α' → Option β') (N : Nat) (Inv : Nat → α → α' → Prop) (Post : β → β' → Prop)
    (hs : ∀ i s s', i < N → Inv i s s' → ∃ t t', (∀ k, b k s = k t) ∧ (∀ k, b' k s' = k t') ∧ Inv (i + 1) t t')
    (he : ∀ s s', Inv N s s' → ∃ r r', (∀ k, b k s = some r) ∧ (∀ k, b' k s' = some r') ∧ Post r r') : ∀ (d i : Nat) (s : α) (s' : α') (fuel fuel' : Nat), i + d = N → d < fuel → d < fuel' → Inv i s s' → ∃ r r', lp b fuel s = some r ∧ lp b' fuel' s' = some r' ∧ Post r r'
  | 0, i, s, s', fuel, fuel', h1, h2, h2', h3 => by
    obtain ⟨f, rfl⟩ : ∃ f, fuel = f + 1 := ⟨fuel - 1, by omega⟩
    obtain ⟨f', rfl⟩ : ∃ f, fuel' = f + 1 := ⟨fuel' - 1, by omega⟩
    obtain ⟨r, r', hr, hr', hp⟩ := he s s' (by rw [← h1]; exact h3)
    exact ⟨r, r', hr _, hr' _, hp⟩
  | d + 1, i, s, s', fuel, fuel', h1, h2, h2', h3 => by
    obtain ⟨f, rfl⟩ : ∃ f, fuel = f + 1 := ⟨fuel - 1, by omega⟩
    obtain ⟨f', rfl⟩ : ∃ f, fuel' = f + 1 := ⟨fuel' - 1, by omega⟩
    obtain ⟨t, t', h4, h4', h5⟩ := hs i s s' (by omega) h3
    obtain ⟨r, r', h6, h6', h7⟩ := lp_sim b b' N Inv Post hs he d (i + 1) t t' f f' (by omega) (by omega) (by omega) h5
    exact ⟨r, r', by show b (lp b f) s = _; rw [h4]; exact h6, by show b' (lp b' f') s' = _; rw [h4']; exact h6', h7⟩
def LC (mw : Nat → Int32) (n : Nat) : Nat := fb_sm (fun a => fb_ct (fun b => !decide (mw (16 * a + b) = -1)) a) n
theorem LC_upd {mw mw' : Nat → Int32} {n a b : Nat} (ha : a < n) (hb : b < a) (hn : n ≤ 16) (v : Int32) (hm : ∀ k, mw' k = if k = 16 * a + b ∨ k = 16 * b + a then v else mw k) : LC mw' n + (if mw (16 * a + b) = -1 then 0 else 1) = LC mw n + (if v = -1 then 0 else 1) := by
  have h1 : fb_ct (fun y => !decide (mw' (16 * a + y) = -1)) a = fb_ct (fun y => if y = b then !decide (v = -1) else !decide (mw (16 * a + y) = -1)) a := fb_ct_cong fun y hy => by
    rw [hm]
    by_cases e : y = b
    · subst e; simp
    · rw [if_neg (by omega), if_neg e]
  have h2 := fb_ct_upd (fun y => !decide (mw (16 * a + y) = -1)) (!decide (v = -1)) hb
  rw [← h1] at h2
  have h3 : LC mw' n = fb_sm (fun x => if x = a then fb_ct (fun y => !decide (mw' (16 * a + y) = -1)) a else fb_ct (fun y => !decide (mw (16 * x + y) = -1)) x) n := fb_sm_cong fun x hx => by
    by_cases e : x = a
    · subst e; simp
    · rw [if_neg e]
      exact fb_ct_cong fun y hy => by rw [hm, if_neg (by omega)]
  have h4 := fb_sm_upd (fun x => fb_ct (fun y => !decide (mw (16 * x + y) = -1)) x) (fb_ct (fun y => !decide (mw' (16 * a + y) = -1)) a) ha
  rw [← h3] at h4
  show LC mw' n + _ = fb_sm (fun x => fb_ct (fun y => !decide (mw (16 * x + y) = -1)) x) n + _
  have e1 : (if (!decide (mw (16 * a + b) = -1)) = true then 1 else 0) = if mw (16 * a + b) = -1 then 0 else 1 := by by_cases q : mw (16 * a + b) = -1 <;> simp [q]
  have e2 : (if (!decide (v = -1)) = true then 1 else 0) = if v = -1 then 0 else 1 := by by_cases q : v = -1 <;> simp [q]
  rw [e1, e2] at h2
  omega
theorem LC_le {mw : Nat → Int32} {n : Nat} (hn : n ≤ 16) : LC mw n ≤ 256 := by
  have := fb_sm_bound (f := fun a => fb_ct (fun b => !decide (mw (16 * a + b) = -1)) a) (c := 16) (n := n) (fun k hk => Nat.le_trans (fb_ct_le _ _) (by omega))
  unfold LC
  omega
def ZLn (n : Nat) (wa pe : Nat → Int32) (li : Int32) (mw mp : Nat → Int32) : Prop :=
  (∀ k, k < 256 → wa k = mw k) ∧ (∀ a b, a < 16 → b < 16 → mw (16 * a + b) = mw (16 * b + a)) ∧ (∀ a b, a < 16 → b < 16 → (n ≤ a ∨ n ≤ b ∨ a = b) → mw (16 * a + b) = -1) ∧ (∀ k, k < 256 → mw k = -1 ∨ ∃ w p, w ≤ 1000 ∧ 1 ≤ p ∧ p ≤ 1000 ∧ mw k = nI w ∧ mp k = nI p ∧ pe k = nI p) ∧ li = nI (LC mw n)
theorem b_hasLine (fu a b : Nat) (wa : Nat → Int32) (ha : a < 16) (hb : b < 16) : f_X3_hasLine fu wa (nI a) (nI b) = some (if wa (16 * a + b) = -1 then 0 else 1) := by
  simp (disch := omega) only [f_X3_hasLine, nlt0, nle, nlt, neqI, ncl, nadd, nmul, nm1, nm1', nsucc, n_eq0, n_eq0', n_eq1, n_le0, n_0lt, n_0le, n_1le, n_le1, n_01, n_10, nsubI, nsub1, naddm1, ofNat_nI, zl2, zl3, zl4, zl5, zl6, zl7, zl8, zl9, zl13, zl15, zl16, zl17, zl31, zl63, zl64, zl100, zl256, zl1000, zl1200, zl7200, zl65536, zl100000, if_true, if_false, or_false, false_or, true_or, or_true, and_true, true_and, false_and, and_false, not_true_eq_false, not_false_eq_true, if_pos, if_neg, Option.bind_some, Option.bind_none, vn, reduceCtorEq, Nat.mul_comm a 16]
  split <;> rfl
theorem b_isPair (fu n : Nat) (hn : n < 2 ^ 31) (x y : Int32) : f_X3_isPair fu (nI n) x y = some (if hx n x = true ∧ hx n y = true ∧ x ≠ y then 1 else 0) := by
  unfold f_X3_isPair
  rw [b_isHost fu n hn, b_isHost fu n hn, Option.bind_some, Option.bind_some]
  cases h1 : hx n x <;> cases h2 : hx n y <;> by_cases h3 : x = y <;> simp [h3]
theorem b_join (fu n a b : Nat) (hn : n ≤ 16) (ha : a < n) (hb : b < n) (hab : a ≠ b) (wa pe : Nat → Int32) (li w p : Int32) : f_X3_join fu wa pe (nI n) li (nI a) (nI b) w p = some (upd (upd wa (16 * a + b) w) (16 * b + a) w, upd (upd pe (16 * a + b) p) (16 * b + a) p, if wa (16 * a + b) = -1 then li + 1 else li) := by
  unfold f_X3_join
  rw [b_isPair fu n (by omega), b_hasLine fu a b wa (by omega) (by omega), hx_nI (by omega), hx_nI (by omega)]
  have e : (decide (a < n) = true ∧ decide (b < n) = true ∧ nI a ≠ nI b) := ⟨by simp [ha], by simp [hb], fun q => hab ((nI_eq (by omega) (by omega)).mp q)⟩
  rw [if_pos e]
  by_cases h : wa (16 * a + b) = -1 <;> simp (disch := omega) only [f_X3_pair, nlt0, nle, nlt, neqI, ncl, nadd, nmul, nm1, nm1', nsucc, n_eq0, n_eq0', n_eq1, n_le0, n_0lt, n_0le, n_1le, n_le1, n_01, n_10, nsubI, nsub1, naddm1, ofNat_nI, zl2, zl3, zl4, zl5, zl6, zl7, zl8, zl9, zl13, zl15, zl16, zl17, zl31, zl63, zl64, zl100, zl256, zl1000, zl1200, zl7200, zl65536, zl100000, if_true, if_false, or_false, false_or, true_or, or_true, and_true, true_and, false_and, and_false, not_true_eq_false, not_false_eq_true, if_pos, if_neg, Option.bind_some, Option.bind_none, vn, reduceCtorEq, Nat.mul_comm a 16, Nat.mul_comm b 16, h]
theorem b_part (fu a b : Nat) (ha : a < 16) (hb : b < 16) (wa : Nat → Int32) (li : Int32) : f_X3_part fu wa li (nI a) (nI b) = some (if wa (16 * a + b) = -1 then (wa, li) else (upd (upd wa (16 * a + b) (-1)) (16 * b + a) (-1), li - 1)) := by
  unfold f_X3_part
  rw [b_hasLine fu a b wa ha hb]
  by_cases h : wa (16 * a + b) = -1 <;> simp (disch := omega) only [f_X3_pair, nlt0, nle, nlt, neqI, ncl, nadd, nmul, nm1, nm1', nsucc, n_eq0, n_eq0', n_eq1, n_le0, n_0lt, n_0le, n_1le, n_le1, n_01, n_10, nsubI, nsub1, naddm1, ofNat_nI, zl2, zl3, zl4, zl5, zl6, zl7, zl8, zl9, zl13, zl15, zl16, zl17, zl31, zl63, zl64, zl100, zl256, zl1000, zl1200, zl7200, zl65536, zl100000, if_true, if_false, or_false, false_or, true_or, or_true, and_true, true_and, false_and, and_false, not_true_eq_false, not_false_eq_true, if_pos, if_neg, Option.bind_some, Option.bind_none, vn, reduceCtorEq, Nat.mul_comm a 16, Nat.mul_comm b 16, h]
theorem m_tie (fu a b : Nat) (ha : a < 16) (hb : b < 16) (mw mp : Nat → Int32) (w p : Int32) : f_X9_tie fu mw mp (nI a) (nI b) w p = some (upd (upd mw (16 * a + b) w) (16 * b + a) w, upd (upd mp (16 * a + b) p) (16 * b + a) p) := by
  simp (disch := omega) only [f_X9_tie, nlt0, nle, nlt, neqI, ncl, nadd, nmul, nm1, nm1', nsucc, n_eq0, n_eq0', n_eq1, n_le0, n_0lt, n_0le, n_1le, n_le1, n_01, n_10, nsubI, nsub1, naddm1, ofNat_nI, zl2, zl3, zl4, zl5, zl6, zl7, zl8, zl9, zl13, zl15, zl16, zl17, zl31, zl63, zl64, zl100, zl256, zl1000, zl1200, zl7200, zl65536, zl100000, if_true, if_false, or_false, false_or, true_or, or_true, and_true, true_and, false_and, and_false, not_true_eq_false, not_false_eq_true, if_pos, if_neg, Option.bind_some, Option.bind_none, vn, reduceCtorEq]
theorem m_joined (fu a b : Nat) (ha : a < 16) (hb : b < 16) (mw : Nat → Int32) : f_X9_areJoined fu mw (nI a) (nI b) = some (if mw (16 * a + b) = -1 then 0 else 1) := by
  simp (disch := omega) only [f_X9_areJoined, nlt0, nle, nlt, neqI, ncl, nadd, nmul, nm1, nm1', nsucc, n_eq0, n_eq0', n_eq1, n_le0, n_0lt, n_0le, n_1le, n_le1, n_01, n_10, nsubI, nsub1, naddm1, ofNat_nI, zl2, zl3, zl4, zl5, zl6, zl7, zl8, zl9, zl13, zl15, zl16, zl17, zl31, zl63, zl64, zl100, zl256, zl1000, zl1200, zl7200, zl65536, zl100000, if_true, if_false, or_false, false_or, true_or, or_true, and_true, true_and, false_and, and_false, not_true_eq_false, not_false_eq_true, if_pos, if_neg, Option.bind_some, Option.bind_none, vn, reduceCtorEq]
  split <;> rfl
theorem m_lines (fu n : Nat) (hn : n ≤ 16) (hf : 16 < fu) (mw : Nat → Int32) : f_X9_lines fu (nI n) mw = some (nI (LC mw n)) := by
  have hin : ∀ a, a < n → ∀ c, ∃ r, lp (f_X9_lines_l14 fu mw (nI a)) fu (nI c, 0) = some r ∧ r = nI (c + fb_ct (fun b => !decide (mw (16 * a + b) = -1)) a) := by
    intro a ha c
    refine lp_run (f_X9_lines_l14 fu mw (nI a)) a (fun i s => s = (nI (c + fb_ct (fun b => !decide (mw (16 * a + b) = -1)) i), nI i)) (fun r => r = nI (c + fb_ct (fun b => !decide (mw (16 * a + b) = -1)) a)) ?_ ?_ a 0 (nI c, 0) fu (by omega) (by omega) rfl
    · rintro i s hi rfl
      left
      refine ⟨(nI (c + fb_ct (fun b => !decide (mw (16 * a + b) = -1)) (i + 1)), nI (i + 1)), fun k => ?_, rfl⟩
      simp (disch := omega) only [f_X9_lines_l14, nlt0, nle, nlt, neqI, ncl, nadd, nmul, nm1, nm1', nsucc, n_eq0, n_eq0', n_eq1, n_le0, n_0lt, n_0le, n_1le, n_le1, n_01, n_10, nsubI, nsub1, naddm1, ofNat_nI, zl2, zl3, zl4, zl5, zl6, zl7, zl8, zl9, zl13, zl15, zl16, zl17, zl31, zl63, zl64, zl100, zl256, zl1000, zl1200, zl7200, zl65536, zl100000, if_true, if_false, or_false, false_or, true_or, or_true, and_true, true_and, false_and, and_false, not_true_eq_false, not_false_eq_true, if_pos, if_neg, Option.bind_some, Option.bind_none, vn, reduceCtorEq, m_joined fu a i (by omega) (by omega), fb_ct_succ]
      by_cases h : mw (16 * a + i) = -1 <;> simp [h, nsucc, Nat.add_assoc]
    · rintro s rfl
      exact ⟨_, fun k => by simp (disch := omega) only [f_X9_lines_l14, nlt0, nle, nlt, neqI, ncl, nadd, nmul, nm1, nm1', nsucc, n_eq0, n_eq0', n_eq1, n_le0, n_0lt, n_0le, n_1le, n_le1, n_01, n_10, nsubI, nsub1, naddm1, ofNat_nI, zl2, zl3, zl4, zl5, zl6, zl7, zl8, zl9, zl13, zl15, zl16, zl17, zl31, zl63, zl64, zl100, zl256, zl1000, zl1200, zl7200, zl65536, zl100000, if_true, if_false, or_false, false_or, true_or, or_true, and_true, true_and, false_and, and_false, not_true_eq_false, not_false_eq_true, if_pos, if_neg, Option.bind_some, Option.bind_none, vn, reduceCtorEq], rfl⟩
  obtain ⟨r, h1, h2⟩ := lp_run (f_X9_lines_l4 fu (nI n) mw) n (fun i s => s = (nI (LC mw i), nI i)) (fun r => r = nI (LC mw n)) (by
    rintro i s hi rfl
    left
    refine ⟨(nI (LC mw (i + 1)), nI (i + 1)), fun k => ?_, rfl⟩
    obtain ⟨r, h1, h2⟩ := hin i hi (LC mw i)
    subst h2
    simp (disch := omega) only [f_X9_lines_l4, nlt0, nle, nlt, neqI, ncl, nadd, nmul, nm1, nm1', nsucc, n_eq0, n_eq0', n_eq1, n_le0, n_0lt, n_0le, n_1le, n_le1, n_01, n_10, nsubI, nsub1, naddm1, ofNat_nI, zl2, zl3, zl4, zl5, zl6, zl7, zl8, zl9, zl13, zl15, zl16, zl17, zl31, zl63, zl64, zl100, zl256, zl1000, zl1200, zl7200, zl65536, zl100000, if_true, if_false, or_false, false_or, true_or, or_true, and_true, true_and, false_and, and_false, not_true_eq_false, not_false_eq_true, if_pos, if_neg, Option.bind_some, Option.bind_none, vn, reduceCtorEq, h1]
    rfl) (by
    rintro s rfl
    exact ⟨_, fun k => by simp (disch := omega) only [f_X9_lines_l4, nlt0, nle, nlt, neqI, ncl, nadd, nmul, nm1, nm1', nsucc, n_eq0, n_eq0', n_eq1, n_le0, n_0lt, n_0le, n_1le, n_le1, n_01, n_10, nsubI, nsub1, naddm1, ofNat_nI, zl2, zl3, zl4, zl5, zl6, zl7, zl8, zl9, zl13, zl15, zl16, zl17, zl31, zl63, zl64, zl100, zl256, zl1000, zl1200, zl7200, zl65536, zl100000, if_true, if_false, or_false, false_or, true_or, or_true, and_true, true_and, false_and, and_false, not_true_eq_false, not_false_eq_true, if_pos, if_neg, Option.bind_some, Option.bind_none, vn, reduceCtorEq], rfl⟩) n 0 (0, 0) fu (by omega) (by omega) rfl
  simp only [f_X9_lines, h1, h2, Option.bind_some]
theorem updupd (f : Nat → Int32) (i j : Nat) (v : Int32) (k : Nat) : upd (upd f i v) j v k = if k = i ∨ k = j then v else f k := by
  simp only [upd]
  by_cases h1 : k = j <;> by_cases h2 : k = i <;> simp [h1, h2]
theorem updupd' (f : Nat → Int32) (i j : Nat) (v : Int32) (k : Nat) : upd (upd f i v) j v k = if k = j ∨ k = i then v else f k := by
  simp only [upd]
  by_cases h1 : k = j <;> by_cases h2 : k = i <;> simp [h1, h2]
/-- a line is laid in both -/
theorem ZLn.join {n : Nat} {wa pe mw mp : Nat → Int32} {li : Int32} (h : ZLn n wa pe li mw mp) (hn : n ≤ 16) {a b w p : Nat} (ha : a < n) (hb : b < n) (hab : a ≠ b) (hw : w ≤ 1000) (hp1 : 1 ≤ p) (hp2 : p ≤ 1000) :
    ZLn n (upd (upd wa (16 * a + b) (nI w)) (16 * b + a) (nI w)) (upd (upd pe (16 * a + b) (nI p)) (16 * b + a) (nI p)) (if wa (16 * a + b) = -1 then li + 1 else li) (upd (upd mw (16 * a + b) (nI w)) (16 * b + a) (nI w)) (upd (upd mp (16 * a + b) (nI p)) (16 * b + a) (nI p)) := by
  obtain ⟨h1, h2, h3, h4, h5⟩ := h
  refine ⟨fun k hk => ?_, fun x y hx hy => ?_, fun x y hx hy hxy => ?_, fun k hk => ?_, ?_⟩
  · rw [updupd, updupd, h1 k hk]
  · rw [updupd, updupd]
    by_cases e : (16 * x + y = 16 * a + b ∨ 16 * x + y = 16 * b + a)
    · rw [if_pos e, if_pos (by omega)]
    · rw [if_neg e, if_neg (by omega)]; exact h2 x y hx hy
  · rw [updupd, if_neg (by omega)]
    exact h3 x y hx hy hxy
  · rw [updupd, updupd, updupd]
    by_cases e : (k = 16 * a + b ∨ k = 16 * b + a)
    · rw [if_pos e, if_pos e, if_pos e]; exact Or.inr ⟨w, p, hw, hp1, hp2, rfl, rfl, rfl⟩
    · rw [if_neg e, if_neg e, if_neg e]; exact h4 k hk
  · have key : LC (upd (upd mw (16 * a + b) (nI w)) (16 * b + a) (nI w)) n + (if mw (16 * a + b) = -1 then 0 else 1) = LC mw n + 1 := by
      have hv : ¬ nI w = -1 := by rw [nm1 (by omega)]; exact fun q => q
      rcases Nat.lt_or_gt_of_ne hab with q | q
      · have := LC_upd (mw := mw) (mw' := upd (upd mw (16 * a + b) (nI w)) (16 * b + a) (nI w)) (a := b) (b := a) hb q hn (nI w) (fun k => by rw [updupd'])
        rw [if_neg hv, h2 b a (by omega) (by omega)] at this
        exact this
      · have := LC_upd (mw := mw) (mw' := upd (upd mw (16 * a + b) (nI w)) (16 * b + a) (nI w)) (a := a) (b := b) ha q hn (nI w) (fun k => by rw [updupd])
        rw [if_neg hv] at this
        exact this
    rw [h1 _ (by omega)]
    by_cases e : mw (16 * a + b) = -1
    · rw [if_pos e] at key ⊢
      rw [h5, nsucc]; congr 1; omega
    · rw [if_neg e] at key ⊢
      rw [h5]; congr 1; omega
/-- a line is taken away in both -/
theorem ZLn.part {n : Nat} {wa pe mw mp : Nat → Int32} {li : Int32} (h : ZLn n wa pe li mw mp) (hn : n ≤ 16) {a b : Nat} (ha : a < n) (hb : b < n) (hab : a ≠ b) (p : Int32) :
    ZLn n (if wa (16 * a + b) = -1 then (wa, li) else (upd (upd wa (16 * a + b) (-1)) (16 * b + a) (-1), li - 1)).1 pe (if wa (16 * a + b) = -1 then (wa, li) else (upd (upd wa (16 * a + b) (-1)) (16 * b + a) (-1), li - 1)).2 (upd (upd mw (16 * a + b) (-1)) (16 * b + a) (-1)) (upd (upd mp (16 * a + b) p) (16 * b + a) p) := by
  obtain ⟨h1, h2, h3, h4, h5⟩ := h
  have h6 := h1 (16 * a + b) (by omega)
  have h7 := h1 (16 * b + a) (by omega)
  have h8 := h2 a b (by omega) (by omega)
  refine ⟨fun k hk => ?_, fun x y hx hy => ?_, fun x y hx hy hxy => ?_, fun k hk => ?_, ?_⟩
  · rw [updupd]
    by_cases e : wa (16 * a + b) = -1
    · rw [if_pos e]
      by_cases q : (k = 16 * a + b ∨ k = 16 * b + a)
      · rw [if_pos q]
        rcases q with q | q
        · rw [q]; exact e
        · rw [q]; show wa _ = -1; rw [h7, ← h8, ← h6]; exact e
      · rw [if_neg q]; exact h1 k hk
    · rw [if_neg e]
      show upd _ _ _ k = _
      rw [updupd, h1 k hk]
  · rw [updupd, updupd]
    by_cases e : (16 * x + y = 16 * a + b ∨ 16 * x + y = 16 * b + a)
    · rw [if_pos e, if_pos (by omega)]
    · rw [if_neg e, if_neg (by omega)]; exact h2 x y hx hy
  · rw [updupd]
    split
    · rfl
    · exact h3 x y hx hy hxy
  · rw [updupd, updupd]
    by_cases e : (k = 16 * a + b ∨ k = 16 * b + a)
    · rw [if_pos e]; exact Or.inl rfl
    · rw [if_neg e, if_neg e]; exact h4 k hk
  · have key : LC (upd (upd mw (16 * a + b) (-1)) (16 * b + a) (-1)) n + (if mw (16 * a + b) = -1 then 0 else 1) = LC mw n := by
      rcases Nat.lt_or_gt_of_ne hab with q | q
      · have := LC_upd (mw := mw) (mw' := upd (upd mw (16 * a + b) (-1)) (16 * b + a) (-1)) (a := b) (b := a) hb q hn (-1) (fun k => by rw [updupd'])
        rw [if_pos rfl, h2 b a (by omega) (by omega)] at this
        exact this
      · have := LC_upd (mw := mw) (mw' := upd (upd mw (16 * a + b) (-1)) (16 * b + a) (-1)) (a := a) (b := b) ha q hn (-1) (fun k => by rw [updupd])
        rw [if_pos rfl] at this
        exact this
    rw [h6]
    by_cases e : mw (16 * a + b) = -1
    · rw [if_pos e] at key ⊢
      show li = _
      rw [h5]; congr 1; omega
    · rw [if_neg e] at key ⊢
      show li - 1 = _
      rw [h5, nsub1 (by omega)]; congr 1; omega
