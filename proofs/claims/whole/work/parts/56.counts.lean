/-! who is in each sum: the reference's counts -/
section AI
variable {β γ : Type} {ad : β → β → β} {ad' : γ → γ → γ} {N : Nat} {S : Nat → Nat → Nat} {f0 : Nat → β} {f0' : Nat → γ}
theorem ac_inv (D : Nat → Prop) (P : β → Prop) (had : ∀ x y, P x → P y → P (ad x y)) (hD : ∀ i, i < N → D (tg (S i)) ∧ D (sc (S i))) (h0 : ∀ c, D c → P (f0 c)) : ∀ i, i ≤ N → ∀ c, D c → P ((ac ad S f0 i).1 c) ∧ P ((ac ad S f0 i).2 c)
  | 0, _, c, hc => ⟨h0 c hc, h0 c hc⟩
  | i + 1, hi, c, hc => by
    have ih := ac_inv D P had hD h0 i (by omega)
    obtain ⟨d1, d2⟩ := hD i (by omega)
    have e : P (apl ad (S i) (ac ad S f0 i).1 (ac ad S f0 i).2 c) := by
      simp only [apl]
      split
      · split
        · exact had _ _ (ih _ d1).1 (ih _ d2).1
        · exact (ih _ d2).1
      · exact (ih c hc).2
    refine ⟨?_, e⟩
    show P ((if S i 0 = S (i + 1) 0 then (ac ad S f0 i).1 else apl ad (S i) (ac ad S f0 i).1 (ac ad S f0 i).2) c)
    split
    · exact (ih c hc).1
    · exact e
theorem ac_hom (R : β → γ → Prop) (had : ∀ x y x' y', R x x' → R y y' → R (ad x y) (ad' x' y')) (hok : ∀ i, i < N → sok (S i)) (h0 : ∀ c, c < 256 → R (f0 c) (f0' c)) : ∀ i, i ≤ N → ∀ c, c < 256 → R ((ac ad S f0 i).1 c) ((ac ad' S f0' i).1 c) ∧ R ((ac ad S f0 i).2 c) ((ac ad' S f0' i).2 c)
  | 0, _, c, hc => ⟨h0 c hc, h0 c hc⟩
  | i + 1, hi, c, hc => by
    have ih := ac_hom R had hok h0 i (by omega)
    have d1 := tg_lt (hok i (by omega))
    have d2 := sc_lt (hok i (by omega))
    have e : R (apl ad (S i) (ac ad S f0 i).1 (ac ad S f0 i).2 c) (apl ad' (S i) (ac ad' S f0' i).1 (ac ad' S f0' i).2 c) := by
      simp only [apl]
      split
      · split
        · exact had _ _ _ _ (ih _ d1).1 (ih _ d2).1
        · exact (ih _ d2).1
      · exact (ih c hc).2
    refine ⟨?_, e⟩
    show R ((if S i 0 = S (i + 1) 0 then (ac ad S f0 i).1 else apl ad (S i) (ac ad S f0 i).1 (ac ad S f0 i).2) c) ((if S i 0 = S (i + 1) 0 then (ac ad' S f0' i).1 else apl ad' (S i) (ac ad' S f0' i).1 (ac ad' S f0' i).2) c)
    split
    · exact (ih c hc).1
    · exact e
end AI
def adC (x y : Nat → Nat) : Nat → Nat := fun o => min 2 (x o + y o)
def f0C (c o : Nat) : Nat := if c = o then 1 else 0
def cn (N : Nat) (S : Nat → Nat → Nat) : Nat → Nat → Nat := (ac adC S f0C N).2
theorem cn_le {N : Nat} {S : Nat → Nat → Nat} : ∀ i, i ≤ N → ∀ c o, (ac adC S f0C i).1 c o ≤ 2 ∧ (ac adC S f0C i).2 c o ≤ 2 := by
  intro i hi c o
  have h := ac_inv (ad := adC) (N := N) (S := S) (f0 := f0C) (fun _ => True) (fun f => ∀ o, f o ≤ 2) (fun x y _ _ o => Nat.min_le_left _ _) (fun _ _ => ⟨trivial, trivial⟩) (fun c _ o => by unfold f0C; split <;> omega) i hi c trivial
  exact ⟨h.1 o, h.2 o⟩
def MN (g : Nat → Int32) (F : Nat → Nat → Nat) : Prop := ∀ c o, c < 256 → o < 256 → g (256 * c + o) = nI (F c o)
theorem nb8 : ∀ v, v ≤ 2 → vp_nar .byte (nI v) = nI v ∧ vp_nar .byte ((nI v).toInt8.toInt32) = nI v := by
  intro v hv
  rcases (show v = 0 ∨ v = 1 ∨ v = 2 by omega) with rfl | rfl | rfl <;> exact ⟨by decide, by decide⟩
theorem m_l186 (fu i : Nat) (hfu : 1200 < fu) (hi : i < 1200) (se ah nw : Nat → Int32) (s : Nat → Nat) (hs : sok s) (h5 : se (6 * i + 5) = nI (s 5)) (F G : Nat → Nat → Nat) (hF : MN ah F) (hG : MN nw G) (hle : ∀ c o, F c o ≤ 2) : ∃ r, lp (f_X9_follow_l186 fu se ah (nI i) (nI (256 * sc s)) (nI (256 * tg s))) fu (0, nw) = some r ∧ MN r (apl adC s F G) := by
  have htg := tg_lt hs
  have hsc := sc_lt hs
  have hs5 := hs.2.2.2.2.2
  obtain ⟨r, h1, h2⟩ := lp_run (f_X9_follow_l186 fu se ah (nI i) (nI (256 * sc s)) (nI (256 * tg s))) 256 (fun t z => z.1 = nI t ∧ ∀ c o, c < 256 → o < 256 → z.2 (256 * c + o) = nI (if c = tg s ∧ o < t then apl adC s F G c o else G c o)) (fun r => MN r (apl adC s F G)) (by
    rintro t ⟨x, w⟩ ht ⟨h1, h2⟩
    dsimp only at h1 h2
    subst h1
    left
    have v1 := hF (sc s) t hsc ht
    have v2 := hF (tg s) t htg ht
    have l1 := hle (sc s) t
    have l2 := hle (tg s) t
    have hval : apl adC s F G (tg s) t = min 2 (if s 5 = 1 then F (sc s) t + F (tg s) t else F (sc s) t) := by
      unfold apl adC
      rw [if_pos rfl]
      split
      · show min 2 _ = min 2 _
        congr 1; omega
      · show F (sc s) t = _
        omega
    refine ⟨(nI (t + 1), upd w (256 * tg s + t) (nI (apl adC s F G (tg s) t))), fun k => ?_, rfl, fun c o hc ho => ?_⟩
    · rw [hval]
      by_cases e5 : s 5 = 1
      · rw [if_pos e5]
        by_cases e2 : F (sc s) t + F (tg s) t ≤ 2
        · rw [show min 2 (F (sc s) t + F (tg s) t) = F (sc s) t + F (tg s) t by omega]
          have nb := (nb8 _ e2).2
          simp (disch := omega) only [f_X9_follow_l186, nlt0, nle, nlt, neqI, ncl, nadd, nmul, nm1, nm1', nsucc, n_eq0, n_eq0', n_eq1, n_le0, n_0lt, n_0le, n_1le, n_le1, n_01, n_10, nsubI, nsub1, naddm1, ofNat_nI, zl2, zl3, zl4, zl5, zl6, zl7, zl8, zl9, zl13, zl15, zl16, zl17, zl31, zl63, zl64, zl100, zl256, zl1000, zl1200, zl7200, zl65536, zl100000, if_true, if_false, or_false, false_or, true_or, or_true, and_true, true_and, false_and, and_false, not_true_eq_false, not_false_eq_true, if_pos, if_neg, Option.bind_some, Option.bind_none, vn, reduceCtorEq, h5, e5, v1, v2, e2, nb]
        · rw [show min 2 (F (sc s) t + F (tg s) t) = 2 by omega]
          have nb := (nb8 2 (by omega)).2
          simp (disch := omega) only [f_X9_follow_l186, nlt0, nle, nlt, neqI, ncl, nadd, nmul, nm1, nm1', nsucc, n_eq0, n_eq0', n_eq1, n_le0, n_0lt, n_0le, n_1le, n_le1, n_01, n_10, nsubI, nsub1, naddm1, ofNat_nI, zl2, zl3, zl4, zl5, zl6, zl7, zl8, zl9, zl13, zl15, zl16, zl17, zl31, zl63, zl64, zl100, zl256, zl1000, zl1200, zl7200, zl65536, zl100000, if_true, if_false, or_false, false_or, true_or, or_true, and_true, true_and, false_and, and_false, not_true_eq_false, not_false_eq_true, if_pos, if_neg, Option.bind_some, Option.bind_none, vn, reduceCtorEq, h5, e5, v1, v2, e2, nb]
      · rw [if_neg e5]
        rw [show min 2 (F (sc s) t) = F (sc s) t by omega]
        have nb := (nb8 _ l1).2
        have z0 : nI (F (sc s) t) + 0 = nI (F (sc s) t) := nadd (F (sc s) t) 0
        simp (disch := omega) only [f_X9_follow_l186, nlt0, nle, nlt, neqI, ncl, nadd, nmul, nm1, nm1', nsucc, n_eq0, n_eq0', n_eq1, n_le0, n_0lt, n_0le, n_1le, n_le1, n_01, n_10, nsubI, nsub1, naddm1, ofNat_nI, zl2, zl3, zl4, zl5, zl6, zl7, zl8, zl9, zl13, zl15, zl16, zl17, zl31, zl63, zl64, zl100, zl256, zl1000, zl1200, zl7200, zl65536, zl100000, if_true, if_false, or_false, false_or, true_or, or_true, and_true, true_and, false_and, and_false, not_true_eq_false, not_false_eq_true, if_pos, if_neg, Option.bind_some, Option.bind_none, vn, reduceCtorEq, h5, e5, v1, z0, l1, nb]
    · simp only [upd]
      by_cases e : 256 * c + o = 256 * tg s + t
      · have e1 : c = tg s := by omega
        have e2 : o = t := by omega
        rw [if_pos e, if_pos ⟨e1, by omega⟩, e1, e2]
      · rw [if_neg e, h2 c o hc ho]
        by_cases q : c = tg s ∧ o < t
        · rw [if_pos q, if_pos ⟨q.1, by omega⟩]
        · rw [if_neg q, if_neg (fun z => e (by omega))]) (by
    rintro ⟨x, w⟩ ⟨h1, h2⟩
    dsimp only at h1 h2
    subst h1
    refine ⟨w, fun k => by simp (disch := omega) only [f_X9_follow_l186, nlt0, nle, nlt, neqI, ncl, nadd, nmul, nm1, nm1', nsucc, n_eq0, n_eq0', n_eq1, n_le0, n_0lt, n_0le, n_1le, n_le1, n_01, n_10, nsubI, nsub1, naddm1, ofNat_nI, zl2, zl3, zl4, zl5, zl6, zl7, zl8, zl9, zl13, zl15, zl16, zl17, zl31, zl63, zl64, zl100, zl256, zl1000, zl1200, zl7200, zl65536, zl100000, if_true, if_false, or_false, false_or, true_or, or_true, and_true, true_and, false_and, and_false, not_true_eq_false, not_false_eq_true, if_pos, if_neg, Option.bind_some, Option.bind_none, vn, reduceCtorEq], fun c o hc ho => ?_⟩
    rw [h2 c o hc ho]
    by_cases q : c = tg s
    · rw [if_pos ⟨q, ho⟩]
    · rw [if_neg (fun z => q z.1)]
      unfold apl
      rw [if_neg q]) 256 0 (0, nw) fu (by omega) (by omega) ⟨rfl, fun c o hc ho => by rw [if_neg (by omega)]; exact hG c o hc ho⟩
  exact ⟨r, h1, h2⟩
theorem m_copy64k (fu : Nat) (hfu : 65536 < fu) (nw ah : Nat → Int32) (F : Nat → Nat → Nat) (hF : MN nw F) (hle : ∀ c o, F c o ≤ 2) : ∃ r, lp (f_X9_follow_l75 fu nw) fu (0, ah) = some r ∧ MN r F := by
  obtain ⟨r, h1, h2⟩ := lp_run (f_X9_follow_l75 fu nw) 65536 (fun i s => s.1 = nI i ∧ ∀ c, c < i → s.2 c = nw c) (fun r => ∀ c, c < 65536 → r c = nw c) (by
    rintro i ⟨x, g⟩ hi ⟨h1, h2⟩
    dsimp only at h1 h2
    subst h1
    have hv : vp_nar .byte (nw i) = nw i := by
      have := hF (i / 256) (i % 256) (by omega) (by omega)
      rw [show 256 * (i / 256) + i % 256 = i by omega] at this
      rw [this]
      exact (nb8 _ (hle _ _)).1
    refine Or.inl ⟨(nI (i + 1), upd g i (nw i)), fun k => ?_, rfl, fun c hc => ?_⟩
    · simp (disch := omega) only [f_X9_follow_l75, nlt0, nle, nlt, neqI, ncl, nadd, nmul, nm1, nm1', nsucc, n_eq0, n_eq0', n_eq1, n_le0, n_0lt, n_0le, n_1le, n_le1, n_01, n_10, nsubI, nsub1, naddm1, ofNat_nI, zl2, zl3, zl4, zl5, zl6, zl7, zl8, zl9, zl13, zl15, zl16, zl17, zl31, zl63, zl64, zl100, zl256, zl1000, zl1200, zl7200, zl65536, zl100000, if_true, if_false, or_false, false_or, true_or, or_true, and_true, true_and, false_and, and_false, not_true_eq_false, not_false_eq_true, if_pos, if_neg, Option.bind_some, Option.bind_none, vn, reduceCtorEq, hv]
    · simp only [upd]
      by_cases e : c = i
      · rw [if_pos e, e]
      · rw [if_neg e]; exact h2 c (by omega)) (by
    rintro ⟨x, g⟩ ⟨h1, h2⟩
    dsimp only at h1 h2
    subst h1
    exact ⟨g, fun k => by simp (disch := omega) only [f_X9_follow_l75, nlt0, nle, nlt, neqI, ncl, nadd, nmul, nm1, nm1', nsucc, n_eq0, n_eq0', n_eq1, n_le0, n_0lt, n_0le, n_1le, n_le1, n_01, n_10, nsubI, nsub1, naddm1, ofNat_nI, zl2, zl3, zl4, zl5, zl6, zl7, zl8, zl9, zl13, zl15, zl16, zl17, zl31, zl63, zl64, zl100, zl256, zl1000, zl1200, zl7200, zl65536, zl100000, if_true, if_false, or_false, false_or, true_or, or_true, and_true, true_and, false_and, and_false, not_true_eq_false, not_false_eq_true, if_pos, if_neg, Option.bind_some, Option.bind_none, vn, reduceCtorEq], h2⟩) 65536 0 (0, ah) fu (by omega) (by omega) ⟨rfl, fun c hc => by omega⟩
  exact ⟨r, h1, fun c o hc ho => by rw [h2 _ (by omega)]; exact hF c o hc ho⟩
theorem m_begin64k (fu : Nat) (hfu : 65536 < fu) (nw : Nat → Int32) : ∃ r, lp (f_X9_follow_l2 fu) fu (0, nw) = some r ∧ MN r f0C := by
  obtain ⟨r, h1, h2⟩ := lp_run (f_X9_follow_l2 fu) 256 (fun i s => s.1 = nI i ∧ ∀ c o, c < i → o < 256 → s.2 (256 * c + o) = nI (f0C c o)) (fun r => MN r f0C) (by
    rintro i ⟨x, g⟩ hi ⟨h1, h2⟩
    dsimp only at h1 h2
    subst h1
    obtain ⟨r, g1, g2⟩ := lp_run (f_X9_follow_l11 fu (nI i)) 256 (fun t s => s.1 = nI t ∧ (∀ c o, c < i → o < 256 → s.2 (256 * c + o) = nI (f0C c o)) ∧ ∀ o, o < t → s.2 (256 * i + o) = nI (f0C i o)) (fun r => ∀ c o, c < i + 1 → o < 256 → r (256 * c + o) = nI (f0C c o)) (by
      rintro t ⟨x, w⟩ ht ⟨h1, h2, h3⟩
      dsimp only at h1 h2 h3
      subst h1
      left
      refine ⟨(nI (t + 1), upd w (256 * i + t) (nI (f0C i t))), fun k => ?_, rfl, fun c o hc ho => ?_, fun o ho => ?_⟩
      · have b1 : vp_nar .byte ((1 : Int32).toInt8.toInt32) = nI 1 := (nb8 1 (by omega)).2
        have b0 : vp_nar .byte ((0 : Int32).toInt8.toInt32) = nI 0 := (nb8 0 (by omega)).2
        by_cases e : i = t
        · rw [show f0C i t = 1 from if_pos e]
          simp (disch := omega) only [f_X9_follow_l11, nlt0, nle, nlt, neqI, ncl, nadd, nmul, nm1, nm1', nsucc, n_eq0, n_eq0', n_eq1, n_le0, n_0lt, n_0le, n_1le, n_le1, n_01, n_10, nsubI, nsub1, naddm1, ofNat_nI, zl2, zl3, zl4, zl5, zl6, zl7, zl8, zl9, zl13, zl15, zl16, zl17, zl31, zl63, zl64, zl100, zl256, zl1000, zl1200, zl7200, zl65536, zl100000, if_true, if_false, or_false, false_or, true_or, or_true, and_true, true_and, false_and, and_false, not_true_eq_false, not_false_eq_true, if_pos, if_neg, Option.bind_some, Option.bind_none, vn, reduceCtorEq, e, b1]
        · rw [show f0C i t = 0 from if_neg e]
          simp (disch := omega) only [f_X9_follow_l11, nlt0, nle, nlt, neqI, ncl, nadd, nmul, nm1, nm1', nsucc, n_eq0, n_eq0', n_eq1, n_le0, n_0lt, n_0le, n_1le, n_le1, n_01, n_10, nsubI, nsub1, naddm1, ofNat_nI, zl2, zl3, zl4, zl5, zl6, zl7, zl8, zl9, zl13, zl15, zl16, zl17, zl31, zl63, zl64, zl100, zl256, zl1000, zl1200, zl7200, zl65536, zl100000, if_true, if_false, or_false, false_or, true_or, or_true, and_true, true_and, false_and, and_false, not_true_eq_false, not_false_eq_true, if_pos, if_neg, Option.bind_some, Option.bind_none, vn, reduceCtorEq, e, b0]
      · simp only [upd]
        rw [if_neg (by omega)]; exact h2 c o hc ho
      · simp only [upd]
        by_cases e : o = t
        · rw [if_pos (by omega), e]
        · rw [if_neg (by omega)]; exact h3 o (by omega)) (by
      rintro ⟨x, w⟩ ⟨h1, h2, h3⟩
      dsimp only at h1 h2 h3
      subst h1
      refine ⟨w, fun k => by simp (disch := omega) only [f_X9_follow_l11, nlt0, nle, nlt, neqI, ncl, nadd, nmul, nm1, nm1', nsucc, n_eq0, n_eq0', n_eq1, n_le0, n_0lt, n_0le, n_1le, n_le1, n_01, n_10, nsubI, nsub1, naddm1, ofNat_nI, zl2, zl3, zl4, zl5, zl6, zl7, zl8, zl9, zl13, zl15, zl16, zl17, zl31, zl63, zl64, zl100, zl256, zl1000, zl1200, zl7200, zl65536, zl100000, if_true, if_false, or_false, false_or, true_or, or_true, and_true, true_and, false_and, and_false, not_true_eq_false, not_false_eq_true, if_pos, if_neg, Option.bind_some, Option.bind_none, vn, reduceCtorEq], fun c o hc ho => ?_⟩
      rcases Nat.lt_succ_iff_lt_or_eq.mp hc with q | q
      · exact h2 c o q ho
      · rw [q]; exact h3 o ho) 256 0 (0, g) fu (by omega) (by omega) ⟨rfl, h2, fun o ho => by omega⟩
    refine Or.inl ⟨(nI (i + 1), r), fun k => ?_, rfl, g2⟩
    unfold f_X9_follow_l2
    dsimp only
    rw [if_neg (show ¬ (256 : Int32) ≤ nI i by rw [zl256, nle (by omega) (by omega)]; omega), g1, Option.bind_some, nsucc]) (by
    rintro ⟨x, g⟩ ⟨h1, h2⟩
    dsimp only at h1 h2
    subst h1
    exact ⟨g, fun k => by simp (disch := omega) only [f_X9_follow_l2, nlt0, nle, nlt, neqI, ncl, nadd, nmul, nm1, nm1', nsucc, n_eq0, n_eq0', n_eq1, n_le0, n_0lt, n_0le, n_1le, n_le1, n_01, n_10, nsubI, nsub1, naddm1, ofNat_nI, zl2, zl3, zl4, zl5, zl6, zl7, zl8, zl9, zl13, zl15, zl16, zl17, zl31, zl63, zl64, zl100, zl256, zl1000, zl1200, zl7200, zl65536, zl100000, if_true, if_false, or_false, false_or, true_or, or_true, and_true, true_and, false_and, and_false, not_true_eq_false, not_false_eq_true, if_pos, if_neg, Option.bind_some, Option.bind_none, vn, reduceCtorEq], h2⟩) 256 0 (0, nw) fu (by omega) (by omega) ⟨rfl, fun c o hc => by omega⟩
  exact ⟨r, h1, h2⟩
theorem m_follow (fu N : Nat) (S : Nat → Nat → Nat) (se : Nat → Int32) (mm : Int32) (hfu : 65536 < fu) (hN : N ≤ 1200) (hok : ∀ i, i < N → sok (S i)) (h : ZPm N S se mm) (nw ah : Nat → Int32) : ∃ r, f_X9_follow fu se mm nw ah = some r ∧ MN r.1 (cn N S) := by
  obtain ⟨rfl, h⟩ := h
  obtain ⟨r1, k1, k2⟩ := m_begin64k fu hfu nw
  have hle := cn_le (N := N) (S := S)
  obtain ⟨r, h1, h2⟩ := lp_meas (f_X9_follow_l55 fu se (nI N)) (fun s => N - s.1.toNatClampNeg) (fun s => ∃ b, b ≤ N ∧ s.1 = nI b ∧ (b < N → (ac adC S f0C b).1 = (ac adC S f0C b).2) ∧ MN s.2.1 (ac adC S f0C b).2) (fun r => MN r.1 (cn N S)) (by
    rintro ⟨x, g, u⟩ ⟨b, hb, h1, h2, h3⟩
    dsimp only at h1 h3
    subst h1
    by_cases e : b = N
    · right
      refine ⟨(g, u), fun k => ?_, by show MN g _; rw [e] at h3; exact h3⟩
      unfold f_X9_follow_l55
      dsimp only
      rw [if_pos (by rw [nle (by omega) (by omega)]; omega)]
    · left
      have hbN : b < N := by omega
      have hbd := h2 hbN
      obtain ⟨r3, c1, c2⟩ := m_copy64k fu hfu g u (ac adC S f0C b).2 h3 (fun c o => (hle b hb c o).2)
      have a0 := h b hbN 0 (by omega)
      rw [Nat.add_zero] at a0
      obtain ⟨r4, d1, d2⟩ := lp_meas (f_X9_follow_l99 fu se (nI N) r3 (nI (S b 0))) (fun s => N - s.1.toNatClampNeg) (fun s => ∃ i, b ≤ i ∧ i ≤ N ∧ s.1 = nI i ∧ (∀ t, b ≤ t → t < i → S t 0 = S b 0) ∧ MN s.2 (ac adC S f0C i).2) (fun r => ∃ i, b < i ∧ i ≤ N ∧ r.1 = nI i ∧ (i < N → (ac adC S f0C i).1 = (ac adC S f0C i).2) ∧ MN r.2 (ac adC S f0C i).2) (by
        rintro ⟨x, w⟩ ⟨i, hbi, hiN, h1, h4, h5⟩
        dsimp only at h1 h5
        subst h1
        by_cases ei : i = N
        · right
          refine ⟨(nI i, w), fun k => ?_, i, by omega, hiN, rfl, fun q => by omega, h5⟩
          unfold f_X9_follow_l99
          dsimp only
          rw [if_pos (by rw [nle (by omega) (by omega)]; omega)]
        · have hi : i < N := by omega
          have i0' := h i hi 0 (by omega)
          rw [Nat.add_zero] at i0'
          have hsi := hok i hi
          obtain ⟨s0, s1, s2, s3, s4, s5⟩ := id hsi
          have sb0 := (hok b hbN).1
          by_cases es : S i 0 = S b 0
          · left
            have hblk : ∀ t, b ≤ t → t < i → S t 0 = S (t + 1) 0 := fun t a c => by
              rw [h4 t a c]
              rcases Nat.lt_or_eq_of_le (show t + 1 ≤ i by omega) with q | q
              · rw [h4 (t + 1) (by omega) q]
              · rw [q, es]
            have hF : (ac adC S f0C i).1 = (ac adC S f0C b).1 := ac_in _ S f0C hbi hblk
            have hr3 : MN r3 (ac adC S f0C i).1 := by rw [hF, hbd]; exact c2
            obtain ⟨r5, g1, g2⟩ := m_l186 fu i (by omega) (by omega) se r3 w (S i) hsi (h i hi 5 (by omega)) _ _ hr3 h5 (fun c o => (hle i hiN c o).1)
            refine ⟨(nI (i + 1), r5), fun k => ?_, ⟨i + 1, by omega, by omega, rfl, fun t a c => ?_, g2⟩, ?_⟩
            · have g1' : lp (f_X9_follow_l186 fu se r3 (nI i) (nI (256 * (16 * S i 1 + S i 3))) (nI (256 * (16 * S i 2 + S i 4)))) fu (0, w) = some r5 := g1
              simp (disch := omega) only [f_X9_follow_l99, nlt0, nle, nlt, neqI, ncl, nadd, nmul, nm1, nm1', nsucc, n_eq0, n_eq0', n_eq1, n_le0, n_0lt, n_0le, n_1le, n_le1, n_01, n_10, nsubI, nsub1, naddm1, ofNat_nI, zl2, zl3, zl4, zl5, zl6, zl7, zl8, zl9, zl13, zl15, zl16, zl17, zl31, zl63, zl64, zl100, zl256, zl1000, zl1200, zl7200, zl65536, zl100000, if_true, if_false, or_false, false_or, true_or, or_true, and_true, true_and, false_and, and_false, not_true_eq_false, not_false_eq_true, if_pos, if_neg, Option.bind_some, Option.bind_none, vn, reduceCtorEq, i0', h i hi 1 (by omega), h i hi 2 (by omega), h i hi 3 (by omega), h i hi 4 (by omega), es, g1']
            · rcases Nat.lt_succ_iff_lt_or_eq.mp c with q | q
              · exact h4 t a q
              · rw [q]; exact es
            · show N - (nI (i + 1)).toNatClampNeg < N - (nI i).toNatClampNeg
              rw [ncl (by omega), ncl (by omega)]; omega
          · right
            have hlt : b < i := by
              rcases Nat.lt_or_eq_of_le hbi with q | q
              · exact q
              · exact absurd (by rw [← q]) es
            refine ⟨(nI i, w), fun k => ?_, i, hlt, hiN, rfl, fun _ => ?_, h5⟩
            · simp (disch := omega) only [f_X9_follow_l99, nlt0, nle, nlt, neqI, ncl, nadd, nmul, nm1, nm1', nsucc, n_eq0, n_eq0', n_eq1, n_le0, n_0lt, n_0le, n_1le, n_le1, n_01, n_10, nsubI, nsub1, naddm1, ofNat_nI, zl2, zl3, zl4, zl5, zl6, zl7, zl8, zl9, zl13, zl15, zl16, zl17, zl31, zl63, zl64, zl100, zl256, zl1000, zl1200, zl7200, zl65536, zl100000, if_true, if_false, or_false, false_or, true_or, or_true, and_true, true_and, false_and, and_false, not_true_eq_false, not_false_eq_true, if_pos, if_neg, Option.bind_some, Option.bind_none, vn, reduceCtorEq, i0', es]
            · obtain ⟨j, rfl⟩ : ∃ j, i = j + 1 := ⟨i - 1, by omega⟩
              exact ac_bd _ S f0C (fun z => es (by rw [← z]; exact h4 j (by omega) (by omega)))) N (nI b, g) fu (by show N - _ ≤ N; omega) (by omega) ⟨b, Nat.le_refl b, hb, rfl, fun t a c => by omega, h3⟩
      obtain ⟨i, hi1, hi2, hi3, hi4, hi5⟩ := d2
      refine ⟨(r4.1, r4.2, r3), fun k => ?_, ⟨i, hi2, hi3, hi4, hi5⟩, ?_⟩
      · unfold f_X9_follow_l55
        simp only [vn]
        rw [if_neg (by rw [nle (by omega) (by omega)]; omega), zl6, nmul, if_neg (nI_in (by omega) (by omega)), ncl (by omega), a0, c1, Option.bind_some, d1, Option.bind_some]
      · show N - r4.1.toNatClampNeg < N - (nI b).toNatClampNeg
        rw [hi3, ncl (by omega), ncl (by omega)]; omega) N (0, r1, ah) fu (by show N - _ ≤ N; omega) (by omega) ⟨0, by omega, rfl, fun _ => rfl, k2⟩
  exact ⟨(r.1, r.2), by simp only [f_X9_follow, k1, h1, Option.bind_some], h2⟩
