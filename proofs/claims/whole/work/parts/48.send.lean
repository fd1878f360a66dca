/-! send and sent: both answer alike -/
def ZCp (N : Nat) (S : Nat → Nat → Nat) : Prop := ∀ i j, i < N → j < N → S i 0 = S j 0 → (S i 1 = S j 1 ↔ S i 2 = S j 2)
def ZLi (n : Nat) (lv : Nat → Bool) (mw : Nat → Int32) (N : Nat) (S : Nat → Nat → Nat) : Prop := ∀ i, i < N → S i 1 < n ∧ lv (S i 1) = true ∧ S i 2 < n ∧ lv (S i 2) = true ∧ mw (16 * S i 1 + S i 2) ≠ -1
def ZPl (n : Nat) (lv : Nat → Bool) (mw pp : Nat → Int32) (ps : Int32) (se : Nat → Int32) (mm : Int32) : Prop := ∃ N S, ZPc N S pp ps ∧ ZPm N S se mm ∧ ZSo N S ∧ ZCp N S ∧ ZLi n lv mw N S
theorem ZPl.none (n : Nat) (lv : Nat → Bool) (mw pp se : Nat → Int32) : ZPl n lv mw pp 0 se 0 := ⟨0, fun _ _ => 0, ⟨by omega, rfl, fun i hi => by omega⟩, ⟨rfl, fun i hi => by omega⟩, fun i j _ hj => by omega, fun i j hi => by omega, fun i hi => by omega⟩
theorem hx_f {n : Nat} (hn : n < 2 ^ 31) {x : Int32} (h : hx n x = false) : x < 0 ∨ (¬ x < 0 ∧ nI n ≤ x) := by
  by_cases h1 : x < 0
  · exact Or.inl h1
  · refine Or.inr ⟨h1, Classical.byContradiction fun h2 => ?_⟩
    rw [hx_in hn h1 h2] at h; cases h
theorem m_in63 (fu : Nat) (x : Int32) : f_X9_in fu x 0 63 = some (if hx 64 x then 1 else 0) := by
  have h := m_isHost fu 64 (by omega) (by omega) x
  unfold f_X9_isHost at h
  rw [show nI 64 - 1 = (63 : Int32) from by decide] at h
  rw [m_in] at h ⊢
  rw [Option.bind_some] at h
  by_cases e : (x < 0 ∨ 63 < x)
  · rw [if_pos e] at h ⊢
    simpa using h
  · rw [if_neg e] at h ⊢
    simpa using h
theorem m_forbids (fu N : Nat) (S : Nat → Nat → Nat) (se : Nat → Int32) (mm : Int32) (hfu : 1200 < fu) (hN : N ≤ 1200) (hok : ∀ i, i < N → sok (S i)) (h : ZPm N S se mm) {a b c d : Nat} (ha : a < 64) (hb : b < 16) (hc : c < 16) (hd : d < 16) :
    ∃ r, lp (f_X9_send_l82 fu se mm (nI a) (nI b) (nI c) (nI d)) fu 0 = some r ∧ ((r = .inl () ∧ ∃ i, i < N ∧ fbd (S i) a b c d) ∨ (r = .inr () ∧ ∀ i, i < N → ¬ fbd (S i) a b c d)) := by
  obtain ⟨rfl, h⟩ := h
  refine lp_run (f_X9_send_l82 fu se (nI N) (nI a) (nI b) (nI c) (nI d)) N (fun i s => s = nI i ∧ ∀ j, j < i → ¬ fbd (S j) a b c d) (fun r => (r = .inl () ∧ ∃ i, i < N ∧ fbd (S i) a b c d) ∨ (r = .inr () ∧ ∀ i, i < N → ¬ fbd (S i) a b c d)) ?_ ?_ N 0 0 fu (by omega) (by omega) ⟨rfl, fun j hj => by omega⟩
  · rintro i s hi ⟨rfl, h3⟩
    obtain ⟨g0, g1, g2, g3, g4, g5⟩ := hok i hi
    have a0 := h i hi 0 (by omega)
    rw [Nat.add_zero] at a0
    have key : ∀ k, f_X9_send_l82 fu se (nI N) (nI a) (nI b) (nI c) (nI d) k (nI i) = if S i 0 = a then (if S i 1 = b then (if S i 2 = c then (if S i 4 = d then some (.inl ()) else k (nI (i + 1))) else some (.inl ())) else (if S i 2 = c then some (.inl ()) else k (nI (i + 1)))) else k (nI (i + 1)) := by
      intro k
      simp (disch := omega) only [f_X9_send_l82, nlt0, nle, nlt, neqI, ncl, nadd, nmul, nm1, nm1', nsucc, n_eq0, n_eq0', n_eq1, n_le0, n_0lt, n_0le, n_1le, n_le1, n_01, n_10, nsubI, nsub1, naddm1, ofNat_nI, zl2, zl3, zl4, zl5, zl6, zl7, zl8, zl9, zl13, zl15, zl16, zl17, zl31, zl63, zl64, zl100, zl256, zl1000, zl1200, zl7200, zl65536, zl100000, if_true, if_false, or_false, false_or, true_or, or_true, and_true, true_and, false_and, and_false, not_true_eq_false, not_false_eq_true, if_pos, if_neg, Option.bind_some, Option.bind_none, vn, reduceCtorEq, a0, h i hi 1 (by omega), h i hi 2 (by omega), h i hi 4 (by omega)]
    have next : ¬ fbd (S i) a b c d → ∀ j, j < i + 1 → ¬ fbd (S j) a b c d := fun q j hj => by
      rcases Nat.lt_succ_iff_lt_or_eq.mp hj with z | z
      · exact h3 j z
      · rw [z]; exact q
    by_cases hf : fbd (S i) a b c d
    · refine Or.inr ⟨.inl (), fun k => ?_, Or.inl ⟨rfl, i, hi, hf⟩⟩
      rw [key k]
      obtain ⟨e0, hf⟩ := hf
      rw [if_pos e0]
      by_cases e1 : S i 1 = b
      · by_cases e2 : S i 2 = c
        · rw [if_pos e1, if_pos e2, if_pos (hf.elim (fun q => absurd ⟨fun _ => e2, fun _ => e1⟩ q) (fun q => q.2))]
        · rw [if_pos e1, if_neg e2]
      · by_cases e2 : S i 2 = c
        · rw [if_neg e1, if_pos e2]
        · exact absurd hf (fun q => q.elim (fun z => z ⟨fun w => absurd w e1, fun w => absurd w e2⟩) (fun z => e2 z.1))
    · refine Or.inl ⟨nI (i + 1), fun k => ?_, rfl, next hf⟩
      rw [key k]
      by_cases e0 : S i 0 = a
      · rw [if_pos e0]
        by_cases e1 : S i 1 = b
        · by_cases e2 : S i 2 = c
          · rw [if_pos e1, if_pos e2, if_neg (fun q => hf ⟨e0, Or.inr ⟨e2, q⟩⟩)]
          · exact absurd ⟨e0, Or.inl (fun q => e2 (q.mp e1))⟩ hf
        · by_cases e2 : S i 2 = c
          · exact absurd ⟨e0, Or.inl (fun q => e1 (q.mpr e2))⟩ hf
          · rw [if_neg e1, if_neg e2]
      · rw [if_neg e0]
  · rintro s ⟨rfl, h3⟩
    refine ⟨.inr (), fun k => ?_, Or.inr ⟨rfl, h3⟩⟩
    unfold f_X9_send_l82
    rw [if_pos (by rw [nle (by omega) (by omega)]; omega)]
/-- a send more, that nothing forbids -/
theorem ins_all {N h : Nat} {S : Nat → Nat → Nat} {s : Nat → Nat} {P : (Nat → Nat) → Prop} (hh : h ≤ N) (hS : ∀ i, i < N → P (S i)) (hs : P s) : ∀ i, i < N + 1 → P (ins h S s i) := by
  intro i hi
  unfold ins
  by_cases e1 : i < h
  · rw [if_pos e1]; exact hS i (by omega)
  · by_cases e2 : i = h
    · rw [if_neg e1, if_pos e2]; exact hs
    · rw [if_neg e1, if_neg e2]; exact hS (i - 1) (by omega)
theorem ins_from {N h : Nat} {S : Nat → Nat → Nat} {s : Nat → Nat} (hh : h ≤ N) {i : Nat} (hi : i < N + 1) : ins h S s i = s ∨ ∃ j, j < N ∧ ins h S s i = S j := by
  unfold ins
  by_cases e1 : i < h
  · rw [if_pos e1]; exact Or.inr ⟨i, by omega, rfl⟩
  · by_cases e2 : i = h
    · rw [if_neg e1, if_pos e2]; exact Or.inl rfl
    · rw [if_neg e1, if_neg e2]; exact Or.inr ⟨i - 1, by omega, rfl⟩
theorem nofbd {s t : Nat → Nat} (h : ¬ fbd s (t 0) (t 1) (t 2) (t 4)) : (s 0 = t 0 → (s 1 = t 1 ↔ s 2 = t 2)) ∧ (s 0 = t 0 → s 2 = t 2 → s 4 ≠ t 4) :=
  ⟨fun e => Classical.byContradiction fun q => h ⟨e, Or.inl q⟩, fun e e2 e4 => h ⟨e, Or.inr ⟨e2, e4⟩⟩⟩
theorem B_send (fu n : Nat) (hfu : 1200 < fu) {lv : Nat → Bool} {al hb rb lo wa pe mw mp pp se : Nat → Int32} {sz rk mh li ps mm : Int32} (h : ZHo n lv al hb rb sz rk mh lo) (hln : ZLn n wa pe li mw mp) (hpl : ZPl n lv mw pp ps se mm) (x1 x2 x3 x4 x5 x6 : Int32) (hx6 : x6 = 0 ∨ x6 = 1) :
    ∃ r pp' ps' se' mm', ZPl n lv mw pp' ps' se' mm' ∧ f_X8_send fu al wa sz pp ps x1 x2 x3 x4 x5 x6 = some (r, pp', ps') ∧ f_X9_send fu mh lo mw se mm x1 x2 x3 x4 x5 x6 = some (r, se', mm', 0) := by
  obtain ⟨h0, hn, rfl, rfl, ha, hz, hl, -, -, -⟩ := id h
  obtain ⟨N, S, hC, hM, hS, hcp, hli⟩ := id hpl
  have no : ∀ (hc : f_X8_send fu al wa (nI n) pp ps x1 x2 x3 x4 x5 x6 = some (-1, pp, ps)) (hm : f_X9_send fu (nI n) lo mw se mm x1 x2 x3 x4 x5 x6 = some (-1, se, mm, 0)), ∃ r pp' ps' se' mm', ZPl n lv mw pp' ps' se' mm' ∧ f_X8_send fu al wa (nI n) pp ps x1 x2 x3 x4 x5 x6 = some (r, pp', ps') ∧ f_X9_send fu (nI n) lo mw se mm x1 x2 x3 x4 x5 x6 = some (r, se', mm', 0) := fun hc hm => ⟨-1, pp, ps, se, mm, hpl, hc, hm⟩
  unfold f_X8_send f_X9_send at no ⊢
  simp only [b_isBlock, m_in15, m_in63, b_isLive fu n hn lv al ha, m_isLive fu n (by omega) hn lv lo hl, Option.bind_some] at no ⊢
  cases c1 : hx 64 x1 with
  | false =>
    rw [c1] at no
    have hc : ∀ {α : Type} (a b : α), (if x1 < 0 then a else if 64 ≤ x1 then a else b) = a := fun a b => by
      rcases hx_f (by omega) c1 with q | ⟨q, q2⟩
      · rw [if_pos q]
      · rw [if_neg q, if_pos (show (64 : Int32) ≤ x1 from q2)]
    exact no (hc _ _) rfl
  | true =>
    obtain ⟨s0, hs0, hs0', rfl⟩ := hx_t c1
    rw [if_neg (nI_pos hs0'), if_neg (show ¬ (64 : Int32) ≤ nI s0 by rw [zl64, nle (by omega) (by omega)]; omega)]
    rw [c1, if_neg (nI_pos hs0'), if_neg (show ¬ (64 : Int32) ≤ nI s0 by rw [zl64, nle (by omega) (by omega)]; omega)] at no
    simp only [if_true, n_10, if_false] at no ⊢
    cases c4 : hx 16 x4 with
    | false =>
      rw [c4] at no
      refine no rfl ?_
      cases lx n lv x2 <;> cases lx n lv x3 <;> simp
    | true =>
      cases c5 : hx 16 x5 with
      | false =>
        rw [c4, c5] at no
        refine no rfl ?_
        cases lx n lv x2 <;> cases lx n lv x3 <;> simp
      | true =>
        rw [c4, c5] at no
        simp only [if_true, n_10, if_false] at no ⊢
        cases c2 : lx n lv x2 with
        | false => rw [c2] at no; exact no rfl rfl
        | true =>
          cases c3 : lx n lv x3 with
          | false => rw [c2, c3] at no; exact no rfl rfl
          | true =>
            rw [c2, c3] at no
            simp only [if_true, n_10, if_false] at no ⊢
            obtain ⟨s1, hs1, hs1', rfl, hv1⟩ := lx_t c2
            obtain ⟨s2, hs2, hs2', rfl, hv2⟩ := lx_t c3
            obtain ⟨s3, hs3, hs3', rfl⟩ := hx_t c4
            obtain ⟨s4, hs4, hs4', rfl⟩ := hx_t c5
            rw [b_hasLine fu s1 s2 wa (by omega) (by omega), m_joined fu s1 s2 (by omega) (by omega), hln.1 _ (by omega)] at no ⊢
            simp only [Option.bind_some] at no ⊢
            by_cases c6 : mw (16 * s1 + s2) = -1
            · rw [if_pos c6] at no ⊢
              refine no rfl ?_
              by_cases q : nI s1 = nI s2 <;> simp [q]
            · have hne : ¬ nI s1 = nI s2 := fun q => c6 (hln.2.2.1 s1 s2 (by omega) (by omega) (Or.inr (Or.inr ((nI_eq hs1' hs2').mp q))))
              rw [if_neg c6, if_neg hne] at no ⊢
              simp only [n_10, if_false] at no ⊢
              obtain ⟨hN, hps, hCi⟩ := id hC
              obtain ⟨hmm, hMi⟩ := id hM
              by_cases c7 : N = 1200
              · refine no ?_ ?_
                · rw [f_X4_isFull, hps, c7]; rfl
                · rw [hmm, c7]; rfl
              · have full : f_X4_isFull fu ps = some 0 := by
                  rw [f_X4_isFull, hps]
                  simp (disch := omega) only [nlt0, nle, nlt, neqI, ncl, nadd, nmul, nm1, nm1', nsucc, n_eq0, n_eq0', n_eq1, n_le0, n_0lt, n_0le, n_1le, n_le1, n_01, n_10, nsubI, nsub1, naddm1, ofNat_nI, zl2, zl3, zl4, zl5, zl6, zl7, zl8, zl9, zl13, zl15, zl16, zl17, zl31, zl63, zl64, zl100, zl256, zl1000, zl1200, zl7200, zl65536, zl100000, if_true, if_false, or_false, false_or, true_or, or_true, and_true, true_and, false_and, and_false, not_true_eq_false, not_false_eq_true, if_pos, if_neg, Option.bind_some, Option.bind_none, vn, reduceCtorEq]
                rw [full, if_neg (show ¬ mm = 1200 by rw [hmm, zl1200, neqI (by omega) (by omega)]; exact c7)] at no ⊢
                simp only [Option.bind_some, if_true] at no ⊢
                obtain ⟨z, hz1, hz2⟩ := m_forbids fu N S se mm hfu hN (fun i hi => (hCi i hi).1) hM hs0 (by omega : s1 < 16) (by omega : s2 < 16) hs4
                rw [hz1, Option.bind_some] at no ⊢
                rcases b_forbids fu hfu hC hs0 (by omega : s1 < 16) (by omega : s2 < 16) hs4 with ⟨q1, q2⟩ | ⟨q1, q2⟩
                · rw [q1] at no ⊢
                  rcases hz2 with ⟨rfl, -⟩ | ⟨-, q3⟩
                  · exact no rfl rfl
                  · obtain ⟨i, hi, hf⟩ := q2; exact absurd hf (q3 i hi)
                · rw [q1]
                  rcases hz2 with ⟨-, i, hi, hf⟩ | ⟨rfl, -⟩
                  · exact absurd hf (q2 i hi)
                  · obtain ⟨s5, hs5, rfl⟩ : ∃ s5, s5 < 2 ∧ x6 = nI s5 := by
                      rcases hx6 with rfl | rfl
                      · exact ⟨0, by omega, rfl⟩
                      · exact ⟨1, by omega, rfl⟩
                    let s : Nat → Nat := fun k => if k = 0 then s0 else if k = 1 then s1 else if k = 2 then s2 else if k = 3 then s3 else if k = 4 then s4 else s5
                    have hs : sok s := ⟨hs0, by show s1 < 16; omega, by show s2 < 16; omega, hs3, hs4, hs5⟩
                    have hkey : ∀ i, i < N → key (S i) ≠ key s := by
                      intro i hi q
                      have q4 := nofbd (t := s) (q2 i hi)
                      obtain ⟨g0, g1, g2, g3, g4, g5⟩ := (hCi i hi).1
                      have q5 : S i 0 = s 0 ∧ S i 1 = s 1 ∧ S i 4 = s 4 := by
                        have b0 : s 0 = s0 := rfl
                        have b1 : s 1 = s1 := rfl
                        have b4 : s 4 = s4 := rfl
                        unfold key at q
                        rw [b0, b1, b4] at q ⊢
                        omega
                      exact q4.2 q5.1 ((q4.1 q5.1).mp q5.2.1) q5.2.2
                    obtain ⟨r, hr1, hr2⟩ := b_place fu N S s pp ps hfu hC (by omega) hS hs hkey
                    obtain ⟨r', hr3, hr4⟩ := m_lay fu N S s se mm hfu hM (fun i hi => (hCi i hi).1) (by omega) hS hs hkey
                    have hpz := pos_le N S s
                    refine ⟨nI (N + 1), r.1, r.2, r'.1, r'.2, ⟨N + 1, ins (pos N S s) S s, hr2, hr4, ins_so hS hkey, ?_, ?_⟩, ?_, ?_⟩
                    · intro i j hi hj e
                      rcases ins_from (S := S) (s := s) hpz hi with w1 | ⟨a, ha1, w1⟩ <;> rcases ins_from (S := S) (s := s) hpz hj with w2 | ⟨b, hb1, w2⟩
                      · rw [w1, w2]; exact ⟨fun _ => rfl, fun _ => rfl⟩
                      · rw [w1, w2] at e ⊢
                        have := (nofbd (t := s) (q2 b hb1)).1 e.symm
                        exact ⟨fun z => (this.mp z.symm).symm, fun z => (this.mpr z.symm).symm⟩
                      · rw [w1, w2] at e ⊢
                        exact (nofbd (t := s) (q2 a ha1)).1 e
                      · rw [w1, w2] at e ⊢
                        exact hcp a b ha1 hb1 e
                    · exact ins_all (P := fun t => t 1 < n ∧ lv (t 1) = true ∧ t 2 < n ∧ lv (t 2) = true ∧ mw (16 * t 1 + t 2) ≠ -1) hpz hli ⟨hs1, hv1, hs2, hv2, c6⟩
                    · have hr1' : f_X4_place fu pp ps (nI s0) (nI s1) (nI s2) (nI s3) (nI s4) (nI s5) = some r := hr1
                      rw [hr1']
                      simp only [Option.bind_some, if_true, f_X4_size, hr2.2.1]
                    · show (if nI s5 = 0 then _ else _) = _
                      rcases (show s5 = 0 ∨ s5 = 1 by omega) with rfl | rfl
                      · have hr3' : f_X9_lay fu se mm (nI s0) (nI s1) (nI s2) (nI s3) (nI s4) 0 = some r' := hr3
                        rw [if_pos (show nI 0 = (0 : Int32) from rfl), hr3', Option.bind_some, hr4.1]
                      · have hr3' : f_X9_lay fu se mm (nI s0) (nI s1) (nI s2) (nI s3) (nI s4) 1 = some r' := hr3
                        rw [if_neg (show ¬ nI 1 = (0 : Int32) by decide), hr3', Option.bind_some, hr4.1]
