/-! the spread in fewest steps: sets of ranks as masks; steps in which who can send does, and steps in which anyone may -/
def sbs (S T : Nat) : Prop := ∀ i, S.testBit i = true → T.testBit i = true
theorem sbs.rfl (S : Nat) : sbs S S := fun _ h => h
theorem sbs.trans {S T U : Nat} (h : sbs S T) (g : sbs T U) : sbs S U := fun i q => g i (h i q)
theorem tb_or (S j i : Nat) : (S ||| 2 ^ j).testBit i = (S.testBit i || decide (j = i)) := by rw [Nat.testBit_or, Nat.testBit_two_pow]
theorem sbs.or (S j : Nat) : sbs S (S ||| 2 ^ j) := fun i h => by rw [tb_or, h]; simp
theorem sbs.le {S T : Nat} (h : sbs S T) : S ≤ T := by
  have e : S ||| T = T := Nat.eq_of_testBit_eq fun i => by
    rw [Nat.testBit_or]
    cases q : S.testBit i with
    | false => simp
    | true => rw [h i q]; rfl
  rw [← e]; exact Nat.left_le_or
theorem or_lt {S j m : Nat} (hS : S < 2 ^ m) (hj : j < m) : S ||| 2 ^ j < 2 ^ m := Nat.or_lt_two_pow hS (Nat.pow_lt_pow_right (by omega) hj)
theorem or_gt {S j : Nat} (h : S.testBit j = false) : S < S ||| 2 ^ j := by
  refine Nat.lt_of_le_of_ne (sbs.or S j).le (fun e => ?_)
  have := tb_or S j j
  rw [← e, h] at this
  simp at this
theorem all_bit {m i : Nat} : (2 ^ m - 1).testBit i = decide (i < m) := Nat.testBit_two_pow_sub_one m i
theorem bit_lt {S m i : Nat} (hS : S < 2 ^ m) (h : S.testBit i = true) : i < m := by
  refine Nat.lt_of_not_le fun q => ?_
  have := Nat.testBit_lt_two_pow (Nat.lt_of_lt_of_le hS (Nat.pow_le_pow_right (by omega) q))
  rw [h] at this; cases this
theorem sbs_all {T m : Nat} (hT : T < 2 ^ m) (h : sbs (2 ^ m - 1) T) : T = 2 ^ m - 1 := by
  have h1 := h.le
  omega
section FE
variable (J : Nat → Nat → Bool) (m : Nat)
def mrun (had : Nat) : Nat → Nat → Nat → Prop
  | 0, now, T => T = now
  | d + 1, now, T => mrun had d now T ∨ (had.testBit (m - (d + 1)) = true ∧ ∃ j, j < m ∧ now.testBit j = false ∧ J (m - (d + 1)) j = true ∧ mrun had d (now ||| 2 ^ j) T)
def gst (S i U T : Nat) : Prop := (S.testBit i = true ∧ ∃ j, j < m ∧ J i j = true ∧ U.testBit j = false ∧ T = U ||| 2 ^ j) ∨ (¬ (S.testBit i = true ∧ ∃ j, j < m ∧ J i j = true ∧ U.testBit j = false) ∧ T = U)
def grn (S : Nat) : Nat → Nat → Prop
  | 0, T => T = S
  | i + 1, T => ∃ U, grn S i U ∧ gst J m S i U T
end FE
section FF
variable {J : Nat → Nat → Bool} {m : Nat}
theorem gst_any (S i U : Nat) : ∃ T, gst J m S i U T ∧ sbs U T := by
  by_cases h : S.testBit i = true ∧ ∃ j, j < m ∧ J i j = true ∧ U.testBit j = false
  · obtain ⟨h1, j, h2, h3, h4⟩ := h
    exact ⟨U ||| 2 ^ j, Or.inl ⟨h1, j, h2, h3, h4, rfl⟩, sbs.or U j⟩
  · exact ⟨U, Or.inr ⟨h, rfl⟩, sbs.rfl U⟩
theorem gst_sbs {S i U T : Nat} (h : gst J m S i U T) : sbs U T := by
  rcases h with ⟨-, j, -, -, -, rfl⟩ | ⟨-, rfl⟩
  · exact sbs.or U j
  · exact sbs.rfl _
theorem grn_sbs {S : Nat} : ∀ {i T : Nat}, grn J m S i T → sbs S T
  | 0, T, h => by rw [show T = S from h]; exact sbs.rfl S
  | i + 1, T, ⟨U, h1, h2⟩ => (grn_sbs h1).trans (gst_sbs h2)
theorem grn_lt {S : Nat} (hS : S < 2 ^ m) : ∀ {i T : Nat}, grn J m S i T → T < 2 ^ m
  | 0, T, h => by rw [show T = S from h]; exact hS
  | i + 1, T, ⟨U, h1, h2⟩ => by
    have := grn_lt hS h1
    rcases h2 with ⟨-, j, hj, -, -, rfl⟩ | ⟨-, rfl⟩
    · exact or_lt this hj
    · exact this
/-- who can send does: that is no worse -/
theorem few_dom {had S : Nat} (hs : sbs had S) : ∀ (d now cur T i : Nat), i + d = m → sbs now cur → grn J m S i cur → mrun J m had d now T → ∃ T', grn J m S m T' ∧ sbs T T'
  | 0, now, cur, T, i, hi, hn, hg, hm => by
    rw [Nat.add_zero] at hi
    subst hi
    exact ⟨cur, hg, by rw [show T = now from hm]; exact hn⟩
  | d + 1, now, cur, T, i, hi, hn, hg, hm => by
    have ei : m - (d + 1) = i := by omega
    obtain ⟨C, hC1, hC2⟩ := gst_any (J := J) (m := m) S i cur
    rcases hm with hm | ⟨h1, j, h2, h3, h4, h5⟩
    · exact few_dom hs d now C T (i + 1) (by omega) (hn.trans hC2) ⟨cur, hg, hC1⟩ hm
    · rw [ei] at h1 h4
      have hcl : ∀ {V}, sbs now V → V.testBit j = true → sbs (now ||| 2 ^ j) V := fun q w k hk => by
        rw [tb_or, Bool.or_eq_true] at hk
        rcases hk with z | z
        · exact q k z
        · rw [← of_decide_eq_true z]; exact w
      by_cases hc : cur.testBit j = true
      · exact few_dom hs d (now ||| 2 ^ j) C T (i + 1) (by omega) (hcl (hn.trans hC2) (hC2 j hc)) ⟨cur, hg, hC1⟩ h5
      · have hc' : cur.testBit j = false := by simpa using hc
        refine few_dom hs d (now ||| 2 ^ j) (cur ||| 2 ^ j) T (i + 1) (by omega) (hcl (hn.trans (sbs.or cur j)) (by rw [tb_or]; simp)) ⟨cur, hg, Or.inl ⟨hs i h1, j, h2, h4, hc', rfl⟩⟩ h5
theorem few_in {S : Nat} : ∀ {i U T : Nat}, i ≤ m → grn J m S i U → mrun J m S (m - i) U T → mrun J m S m S T
  | 0, U, T, _, h, g => by rw [show U = S from h] at g; exact g
  | i + 1, U, T, hi, ⟨U0, h1, h2⟩, g => by
    refine few_in (by omega) h1 ?_
    rw [show m - i = m - (i + 1) + 1 by omega]
    have ei : m - (m - (i + 1) + 1) = i := by omega
    rcases h2 with ⟨q1, j, q2, q3, q4, rfl⟩ | ⟨-, rfl⟩
    · refine Or.inr ⟨by rw [ei]; exact q1, j, q2, q4, by rw [ei]; exact q3, g⟩
    · exact Or.inl g
theorem grn_mrun {S T : Nat} (h : grn J m S m T) : mrun J m S m S T := few_in (Nat.le_refl m) h (by rw [Nat.sub_self]; exact rfl)
end FF
section FG
variable (J : Nat → Nat → Bool) (m r : Nat)
def lev : Nat → Nat → Prop
  | 0, T => T = 2 ^ r
  | k + 1, T => ∃ S, lev k S ∧ grn J m S m T
def thr : Nat → Nat → Prop
  | 0, T => T = 2 ^ r
  | k + 1, T => ∃ S, thr k S ∧ mrun J m S m S T
def fst1 (k T : Nat) : Prop := lev J m r k T ∧ ∀ e, e < k → ¬ lev J m r e T
end FG
section FH
variable {J : Nat → Nat → Bool} {m r : Nat}
theorem lev_thr : ∀ {k T : Nat}, lev J m r k T → thr J m r k T
  | 0, _, h => h
  | _ + 1, _, ⟨S, h1, h2⟩ => ⟨S, lev_thr h1, grn_mrun h2⟩
theorem thr_lev : ∀ {k T : Nat}, thr J m r k T → ∃ T', lev J m r k T' ∧ sbs T T'
  | 0, T, h => ⟨T, h, sbs.rfl T⟩
  | k + 1, T, ⟨S, h1, h2⟩ => by
    obtain ⟨S', h3, h4⟩ := thr_lev h1
    obtain ⟨T', h5, h6⟩ := few_dom h4 m S S' T 0 (by omega) h4 rfl h2
    exact ⟨T', ⟨S', h3, h5⟩, h6⟩
theorem lev_lt (hr : r < m) : ∀ {k T : Nat}, lev J m r k T → T < 2 ^ m
  | 0, T, h => by rw [show T = 2 ^ r from h]; exact Nat.pow_lt_pow_right (by omega) hr
  | k + 1, T, ⟨S, h1, h2⟩ => grn_lt (lev_lt hr h1) h2
theorem lev_pos : ∀ {k T : Nat}, lev J m r k T → 1 ≤ T
  | 0, T, h => by rw [show T = 2 ^ r from h]; exact Nat.one_le_two_pow
  | k + 1, T, ⟨S, h1, h2⟩ => Nat.le_trans (lev_pos h1) (grn_sbs h2).le
theorem lev_all (hr : r < m) {k : Nat} : lev J m r k (2 ^ m - 1) ↔ thr J m r k (2 ^ m - 1) := by
  refine ⟨lev_thr, fun h => ?_⟩
  obtain ⟨T, h1, h2⟩ := thr_lev h
  rw [← sbs_all (lev_lt hr h1) h2]
  exact h1
theorem fst1_prev {k T : Nat} (h : fst1 J m r (k + 1) T) : ∃ S, fst1 J m r k S ∧ grn J m S m T := by
  obtain ⟨⟨S, h1, h2⟩, h3⟩ := h
  exact ⟨S, ⟨h1, fun e he q => h3 (e + 1) (by omega) ⟨S, q, h2⟩⟩, h2⟩
theorem ct_more {p q : Nat → Bool} {n i : Nat} (h : ∀ k, k < n → p k = true → q k = true) (hi : i < n) (h1 : q i = true) (h2 : p i = false) : fb_ct p n + 1 ≤ fb_ct q n := by
  have e := fb_ct_upd p true hi
  rw [h2, if_neg (by decide), if_pos rfl, Nat.add_zero] at e
  rw [← e]
  refine fb_ct_sub (fun k hk hh => ?_)
  by_cases w : k = i
  · rw [w]; exact h1
  · rw [if_neg w] at hh; exact h k hk hh
theorem fst1_ct (hr : r < m) : ∀ {k T : Nat}, fst1 J m r k T → k + 1 ≤ fb_ct (fun i => T.testBit i) m
  | 0, T, h => by
    rw [show T = 2 ^ r from h.1]
    exact fb_ct_pos.mpr ⟨r, hr, Nat.testBit_two_pow_self⟩
  | k + 1, T, h => by
    obtain ⟨S, h1, h2⟩ := fst1_prev h
    have ih := fst1_ct hr h1
    have hne : T ≠ S := fun q => h.2 k (by omega) (by rw [q]; exact h1.1)
    have hsb := grn_sbs h2
    have hTl := grn_lt (lev_lt hr h1.1) h2
    have : ∃ i, T.testBit i = true ∧ S.testBit i = false := by
      refine Classical.byContradiction fun q => hne (Nat.eq_of_testBit_eq fun i => ?_)
      cases hT : T.testBit i with
      | true =>
        cases hS : S.testBit i with
        | true => rfl
        | false => exact absurd ⟨i, hT, hS⟩ q
      | false =>
        cases hS : S.testBit i with
        | true => rw [hsb i hS] at hT; cases hT
        | false => rfl
    obtain ⟨i, hi1, hi2⟩ := this
    have := ct_more (p := fun i => S.testBit i) (q := fun i => T.testBit i) (n := m) (fun k _ => hsb k) (bit_lt hTl hi1) hi1 hi2
    omega
theorem fst1_all (hr : r < m) {k : Nat} (h : fst1 J m r k (2 ^ m - 1)) : k < m := by
  have h1 := fst1_ct hr h
  have h2 := fb_ct_le (fun i => (2 ^ m - 1).testBit i) m
  omega
theorem fst1_of {k T : Nat} (h : lev J m r k T) : ∃ d, d ≤ k ∧ fst1 J m r d T := by
  obtain ⟨d, h1, h2⟩ := pk_least (fun d => lev J m r d T) ⟨k, h⟩
  refine ⟨d, Nat.le_of_not_lt fun q => h2 k q h, h1, h2⟩
end FH
