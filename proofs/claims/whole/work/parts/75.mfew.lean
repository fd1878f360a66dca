/-! the model's search -/
section MS
variable (fu : Nat) (lo mw : Nat → Int32)
def gsl (rc : (Nat → Int32) → Int32 → Int32 → Int32 → Int32 → Option (Nat → Int32)) (x1 x2 x3 x4 : Int32) (kk : Int32 × (Nat → Int32) → Option (Nat → Int32)) (tt : Int32 × (Nat → Int32)) : Option (Nat → Int32) :=
  match tt with
  | (x5, m_comes) =>
    if x4 ≤ x5 then
      (some m_comes)
    else
    if ((x2 >>> (x5 &&& 31)) &&& 1) = 0 then
      ((f_X9_hostOf fu lo x3).bind fun zr3 =>
      (f_X9_hostOf fu lo x5).bind fun zr4 =>
      (f_X9_areJoined fu mw zr3 zr4).bind fun zr5 =>
      if zr5 = 0 then
        (kk ((x5 + 1), m_comes))
      else
      (rc m_comes x1 (x2 ||| (1 <<< (x5 &&& 31))) (x3 + 1) x4).bind fun zr7 =>
      kk ((x5 + 1), zr7))
    else
    kk ((x5 + 1), m_comes)
def gsf (rc : (Nat → Int32) → Int32 → Int32 → Int32 → Int32 → Option (Nat → Int32)) (m_comes : Nat → Int32) (x1 x2 x3 x4 : Int32) : Option (Nat → Int32) :=
  if x3 = x4 then
    (if x2 < 0 ∨ 256 ≤ (x2).toNatClampNeg then none else
    some (upd m_comes (x2).toNatClampNeg (vp_nar .boolean 1)))
  else
  (rc m_comes x1 x2 (x3 + 1) x4).bind fun zr2 =>
  if ((x1 >>> (x3 &&& 31)) &&& 1) = 0 then
    (some zr2)
  else
  (lp (gsl fu lo mw rc x1 x2 x3 x4) fu (0, zr2)).bind fun zr4 =>
  some zr4
def ZSF (m : Nat) (J : Nat → Nat → Bool) (D : Nat) (f : (Nat → Int32) → Int32 → Int32 → Int32 → Int32 → Option (Nat → Int32)) : Prop := ∀ d, d ≤ D → d ≤ m → ∀ (co : Nat → Int32) (had now : Nat), had < 2 ^ m → now < 2 ^ m → ∃ r, f co (nI had) (nI now) (nI (m - d)) (nI m) = some r ∧ ∀ T, (mrun J m had d now T ∧ r T = 1) ∨ (¬ mrun J m had d now T ∧ r T = co T)
end MS
section MT
variable {fu n m : Nat} {lv : Nat → Bool} {lo mw : Nat → Int32}
theorem sf_leaf (hm : m ≤ 8) {J : Nat → Nat → Bool} {had now : Nat} (hn : now < 2 ^ m) (co : Nat → Int32) (f : (Nat → Int32) → Int32 → Int32 → Int32 → Int32 → Option (Nat → Int32)) (hf : f co (nI had) (nI now) (nI m) (nI m) = some (upd co now 1)) : ∃ r, f co (nI had) (nI now) (nI (m - 0)) (nI m) = some r ∧ ∀ T, (mrun J m had 0 now T ∧ r T = 1) ∨ (¬ mrun J m had 0 now T ∧ r T = co T) := by
  refine ⟨upd co now 1, hf, fun T => ?_⟩
  by_cases q : T = now
  · exact Or.inl ⟨q, by rw [q]; exact pk_us⟩
  · exact Or.inr ⟨q, pk_un q⟩
theorem sf_0 (fu : Nat) (hm : m ≤ 8) (J : Nat → Nat → Bool) : ZSF m J 0 (fun c a b d e => f_X9_sendFrom_d0 fu c a b d e) := by
  intro d hd hdm co had now h1 h2
  have h8 := p2_8 hm
  have e : d = 0 := by omega
  subst e
  refine sf_leaf hm h2 co _ ?_
  unfold f_X9_sendFrom_d0
  rw [if_pos rfl, if_neg (nI_in (by omega) (by omega)), ncl (by omega)]
  rfl
theorem sf_S (hfu : 16 < fu) (hm : m ≤ 8) (hn : n ≤ 16) (hc : fb_ct lv n = m) (hh : ∀ r, r < m → f_X9_hostOf fu lo (nI r) = some (nI (hst lv n r))) {D : Nat} {rc : (Nat → Int32) → Int32 → Int32 → Int32 → Int32 → Option (Nat → Int32)} (h : ZSF m (fun i j => decide (mw (16 * hst lv n i + hst lv n j) ≠ -1)) D rc) : ZSF m (fun i j => decide (mw (16 * hst lv n i + hst lv n j) ≠ -1)) (D + 1) (gsf fu lo mw rc) := by
  intro d hd hdm co had now h1 h2
  have h8 := p2_8 hm
  cases d with
  | zero =>
    refine sf_leaf hm h2 co _ ?_
    unfold gsf
    rw [if_pos rfl, if_neg (nI_in (by omega) (by omega)), ncl (by omega)]
    rfl
  | succ d =>
    obtain ⟨r0, a1, a2⟩ := h d (by omega) (by omega) co had now h1 h2
    have hrk : m - (d + 1) + 1 = m - d := by omega
    have hi : m - (d + 1) < m := by omega
    have key : ∀ r, (if ((nI had >>> (nI (m - (d + 1)) &&& 31)) &&& 1) = 0 then some r0 else (lp (gsl fu lo mw rc (nI had) (nI now) (nI (m - (d + 1))) (nI m)) fu (0, r0)).bind fun z => some z) = some r → gsf fu lo mw rc co (nI had) (nI now) (nI (m - (d + 1))) (nI m) = some r := fun r hr => by
      unfold gsf
      rw [if_neg (fun q => by have := (nI_eq (by omega) (by omega)).mp q; omega), nsucc, hrk, a1, Option.bind_some]
      exact hr
    generalize hJ : (fun i j => decide (mw (16 * hst lv n i + hst lv n j) ≠ -1)) = J at *
    have hJv : ∀ i j, J i j = decide (mw (16 * hst lv n i + hst lv n j) ≠ -1) := fun i j => by rw [← hJ]
    generalize hie : m - (d + 1) = i at *
    cases hb : had.testBit i with
    | false =>
      refine ⟨r0, key r0 (by rw [if_pos ((n_bit (by omega) (by omega)).mpr hb)]), fun T => ?_⟩
      have e : mrun J m had (d + 1) now T ↔ mrun J m had d now T := ⟨fun w => w.elim id (fun w => by rw [hie, hb] at w; cases w.1), Or.inl⟩
      rw [e]; exact a2 T
    | true =>
      obtain ⟨ai, -, -⟩ := hst_ok (lv := lv) (n := n) (r := i) (by omega)
      obtain ⟨r, r1, r2⟩ := lp_run (gsl fu lo mw rc (nI had) (nI now) (nI i) (nI m)) m (fun c z => z.1 = nI c ∧ ∀ T, ((mrun J m had d now T ∨ ∃ j, j < c ∧ now.testBit j = false ∧ J i j = true ∧ mrun J m had d (now ||| 2 ^ j) T) ∧ z.2 T = 1) ∨ (¬ (mrun J m had d now T ∨ ∃ j, j < c ∧ now.testBit j = false ∧ J i j = true ∧ mrun J m had d (now ||| 2 ^ j) T) ∧ z.2 T = co T)) (fun r => ∀ T, ((mrun J m had d now T ∨ ∃ j, j < m ∧ now.testBit j = false ∧ J i j = true ∧ mrun J m had d (now ||| 2 ^ j) T) ∧ r T = 1) ∨ (¬ (mrun J m had d now T ∨ ∃ j, j < m ∧ now.testBit j = false ∧ J i j = true ∧ mrun J m had d (now ||| 2 ^ j) T) ∧ r T = co T)) (by
        rintro c ⟨x, g⟩ hc' ⟨b1, b2⟩
        dsimp only at b1 b2
        subst b1
        left
        have hskip : ¬ (now.testBit c = false ∧ J i c = true) → ∀ T, ((mrun J m had d now T ∨ ∃ j, j < c + 1 ∧ now.testBit j = false ∧ J i j = true ∧ mrun J m had d (now ||| 2 ^ j) T) ∧ g T = 1) ∨ (¬ (mrun J m had d now T ∨ ∃ j, j < c + 1 ∧ now.testBit j = false ∧ J i j = true ∧ mrun J m had d (now ||| 2 ^ j) T) ∧ g T = co T) := fun hno T => by
          rcases b2 T with ⟨q1, q2⟩ | ⟨q1, q2⟩
          · exact Or.inl ⟨q1.elim Or.inl (fun ⟨j, w1, w2⟩ => Or.inr ⟨j, by omega, w2⟩), q2⟩
          · refine Or.inr ⟨fun w => q1 (w.elim Or.inl (fun ⟨j, w1, w2, w3, w4⟩ => ?_)), q2⟩
            rcases Nat.lt_succ_iff_lt_or_eq.mp w1 with z | z
            · exact Or.inr ⟨j, z, w2, w3, w4⟩
            · subst z; exact absurd ⟨w2, w3⟩ hno
        obtain ⟨ac, -, -⟩ := hst_ok (lv := lv) (n := n) (r := c) (by omega)
        cases hbc : now.testBit c with
        | true =>
          refine ⟨(nI (c + 1), g), fun k => ?_, rfl, hskip (fun w => by rw [hbc] at w; cases w.1)⟩
          unfold gsl
          dsimp only
          rw [if_neg (by rw [nle (by omega) (by omega)]; omega), if_neg (fun w => by rw [(n_bit (by omega) (by omega)).mp w] at hbc; cases hbc), nsucc]
        | false =>
          by_cases hj : mw (16 * hst lv n i + hst lv n c) = -1
          · refine ⟨(nI (c + 1), g), fun k => ?_, rfl, hskip (fun w => by rw [hJv] at w; simp [hj] at w)⟩
            unfold gsl
            dsimp only
            rw [if_neg (by rw [nle (by omega) (by omega)]; omega), if_pos ((n_bit (by omega) (by omega)).mpr hbc), hh i (by omega), Option.bind_some, hh c hc', Option.bind_some, m_joined fu _ _ (by omega) (by omega), Option.bind_some, if_pos hj, if_pos rfl, nsucc]
          · have hJc : J i c = true := by rw [hJv]; simp [hj]
            obtain ⟨s, s1, s2⟩ := h d (by omega) (by omega) g had (now ||| 2 ^ c) h1 (or_lt h2 hc')
            refine ⟨(nI (c + 1), s), fun k => ?_, rfl, fun T => ?_⟩
            · unfold gsl
              dsimp only
              rw [if_neg (by rw [nle (by omega) (by omega)]; omega), if_pos ((n_bit (by omega) (by omega)).mpr hbc), hh i (by omega), Option.bind_some, hh c hc', Option.bind_some, m_joined fu _ _ (by omega) (by omega), Option.bind_some, if_neg hj, if_neg n_10.mp, n_shl (by omega), fa_or, nsucc, hrk, s1, Option.bind_some, nsucc]
            · rcases s2 T with ⟨q1, q2⟩ | ⟨q1, q2⟩
              · exact Or.inl ⟨Or.inr ⟨c, by omega, hbc, hJc, q1⟩, q2⟩
              · rcases b2 T with ⟨p1, p2⟩ | ⟨p1, p2⟩
                · exact Or.inl ⟨p1.elim Or.inl (fun ⟨j, w1, w2⟩ => Or.inr ⟨j, by omega, w2⟩), q2.trans p2⟩
                · refine Or.inr ⟨fun w => w.elim (fun w => p1 (Or.inl w)) (fun ⟨j, w1, w2, w3, w4⟩ => ?_), q2.trans p2⟩
                  rcases Nat.lt_succ_iff_lt_or_eq.mp w1 with z | z
                  · exact p1 (Or.inr ⟨j, z, w2, w3, w4⟩)
                  · subst z; exact q1 w4) (by
        rintro ⟨x, g⟩ ⟨b1, b2⟩
        dsimp only at b1 b2
        subst b1
        refine ⟨g, fun k => ?_, b2⟩
        unfold gsl
        dsimp only
        rw [if_pos (by rw [nle (by omega) (by omega)]; omega)]) m 0 (0, r0) fu (by omega) (by omega) ⟨rfl, fun T => by
          rcases a2 T with ⟨q1, q2⟩ | ⟨q1, q2⟩
          · exact Or.inl ⟨Or.inl q1, q2⟩
          · exact Or.inr ⟨fun w => w.elim q1 (fun ⟨j, w1, _⟩ => by omega), q2⟩⟩
      refine ⟨r, key r (by rw [if_neg (fun w => by rw [(n_bit (by omega) (by omega)).mp w] at hb; cases hb), r1, Option.bind_some]), fun T => ?_⟩
      have e : mrun J m had (d + 1) now T ↔ (mrun J m had d now T ∨ ∃ j, j < m ∧ now.testBit j = false ∧ J i j = true ∧ mrun J m had d (now ||| 2 ^ j) T) := by
        show (mrun J m had d now T ∨ (had.testBit (m - (d + 1)) = true ∧ _)) ↔ _
        rw [hie, hb]
        simp only [true_and]
      rw [e]; exact r2 T
theorem sf_8 (hfu : 16 < fu) (hm : m ≤ 8) (hn : n ≤ 16) (hc : fb_ct lv n = m) (hh : ∀ r, r < m → f_X9_hostOf fu lo (nI r) = some (nI (hst lv n r))) : ZSF m (fun i j => decide (mw (16 * hst lv n i + hst lv n j) ≠ -1)) 8 (f_X9_sendFrom_d8 fu lo mw) := by
  have s0 := sf_0 (m := m) fu hm (fun i j => decide (mw (16 * hst lv n i + hst lv n j) ≠ -1))
  have s1 : ZSF m (fun i j => decide (mw (16 * hst lv n i + hst lv n j) ≠ -1)) 1 (f_X9_sendFrom_d1 fu lo mw) := sf_S hfu hm hn hc hh s0
  have s2 : ZSF m (fun i j => decide (mw (16 * hst lv n i + hst lv n j) ≠ -1)) 2 (f_X9_sendFrom_d2 fu lo mw) := sf_S hfu hm hn hc hh s1
  have s3 : ZSF m (fun i j => decide (mw (16 * hst lv n i + hst lv n j) ≠ -1)) 3 (f_X9_sendFrom_d3 fu lo mw) := sf_S hfu hm hn hc hh s2
  have s4 : ZSF m (fun i j => decide (mw (16 * hst lv n i + hst lv n j) ≠ -1)) 4 (f_X9_sendFrom_d4 fu lo mw) := sf_S hfu hm hn hc hh s3
  have s5 : ZSF m (fun i j => decide (mw (16 * hst lv n i + hst lv n j) ≠ -1)) 5 (f_X9_sendFrom_d5 fu lo mw) := sf_S hfu hm hn hc hh s4
  have s6 : ZSF m (fun i j => decide (mw (16 * hst lv n i + hst lv n j) ≠ -1)) 6 (f_X9_sendFrom_d6 fu lo mw) := sf_S hfu hm hn hc hh s5
  have s7 : ZSF m (fun i j => decide (mw (16 * hst lv n i + hst lv n j) ≠ -1)) 7 (f_X9_sendFrom_d7 fu lo mw) := sf_S hfu hm hn hc hh s6
  exact sf_S hfu hm hn hc hh s7
end MT
theorem thr_lt {J : Nat → Nat → Bool} {m r : Nat} (hr : r < m) {k T : Nat} (h : thr J m r k T) : T < 2 ^ m := by
  obtain ⟨T', h1, h2⟩ := thr_lev h
  exact Nat.lt_of_le_of_lt h2.le (lev_lt hr h1)
theorem m_zero (fu : Nat) (hfu : 256 < fu) (b : (Int32 × (Nat → Int32) → Option (Nat → Int32)) → Int32 × (Nat → Int32) → Option (Nat → Int32)) (hb : ∀ i, i < 256 → ∀ g k, b k (nI i, g) = k (nI (i + 1), upd g i 0)) (he : ∀ g k, b k (nI 256, g) = some g) (f : Nat → Int32) : ∃ r, lp b fu (0, f) = some r ∧ ∀ T, T < 256 → r T = 0 := by
  refine lp_run b 256 (fun i z => z.1 = nI i ∧ ∀ T, T < i → z.2 T = 0) (fun r => ∀ T, T < 256 → r T = 0) ?_ ?_ 256 0 (0, f) fu (by omega) (by omega) ⟨rfl, fun T hT => by omega⟩
  · rintro i ⟨x, g⟩ hi ⟨h1, h2⟩
    dsimp only at h1 h2
    subst h1
    refine Or.inl ⟨(nI (i + 1), upd g i 0), fun k => hb i hi g k, rfl, fun T hT => ?_⟩
    show upd g i 0 T = 0
    by_cases q : T = i
    · rw [q]; exact pk_us
    · rw [pk_un q]; exact h2 T (by omega)
  · rintro ⟨x, g⟩ ⟨h1, h2⟩
    dsimp only at h1 h2
    subst h1
    exact ⟨g, fun k => he g k, h2⟩
theorem m_fewest (fu n m : Nat) (hfu : 1200 < fu) (hm : m ≤ 8) {lv : Nat → Bool} {lo mw : Nat → Int32} (hn : n ≤ 16) (hc : fb_ct lv n = m) (hh : ∀ r, r < m → f_X9_hostOf fu lo (nI r) = some (nI (hst lv n r))) {r : Nat} (hr : r < m) (it co : Nat → Int32) (hit : ∀ T, T < 256 → (it T = 1 ∧ thr (fun i j => decide (mw (16 * hst lv n i + hst lv n j) ≠ -1)) m r 0 T) ∨ (it T = 0 ∧ ¬ thr (fun i j => decide (mw (16 * hst lv n i + hst lv n j) ≠ -1)) m r 0 T)) :
    ∃ z, lp (f_X9_fewest_l63 fu lo mw (nI m)) fu (0, it, co) = some z ∧ ((∃ k y, z = .inl (nI k, y) ∧ k < m ∧ thr (fun i j => decide (mw (16 * hst lv n i + hst lv n j) ≠ -1)) m r k (2 ^ m - 1) ∧ ∀ d, d < k → ¬ thr (fun i j => decide (mw (16 * hst lv n i + hst lv n j) ≠ -1)) m r d (2 ^ m - 1)) ∨ ((∃ y, z = .inr y) ∧ ∀ d, d < m → ¬ thr (fun i j => decide (mw (16 * hst lv n i + hst lv n j) ≠ -1)) m r d (2 ^ m - 1))) := by
  have h8 := p2_8 hm
  have h1m : 1 ≤ 2 ^ m := Nat.one_le_two_pow
  have hsf := sf_8 (mw := mw) (show 16 < fu by omega) hm hn hc hh
  generalize (fun i j => decide (mw (16 * hst lv n i + hst lv n j) ≠ -1)) = J at *
  refine lp_run (f_X9_fewest_l63 fu lo mw (nI m)) m (fun k z => z.1 = nI k ∧ (∀ T, T < 256 → (z.2.1 T = 1 ∧ thr J m r k T) ∨ (z.2.1 T = 0 ∧ ¬ thr J m r k T)) ∧ ∀ d, d < k → ¬ thr J m r d (2 ^ m - 1)) (fun z => (∃ k y, z = .inl (nI k, y) ∧ k < m ∧ thr J m r k (2 ^ m - 1) ∧ ∀ d, d < k → ¬ thr J m r d (2 ^ m - 1)) ∨ ((∃ y, z = .inr y) ∧ ∀ d, d < m → ¬ thr J m r d (2 ^ m - 1))) ?_ ?_ m 0 (0, it, co) fu (by omega) (by omega) ⟨rfl, hit, fun d hd => by omega⟩
  · rintro k ⟨x, it, co⟩ hk ⟨h1, h2, h3⟩
    dsimp only at h1 h2
    subst h1
    rcases h2 (2 ^ m - 1) (by omega) with ⟨q1, q2⟩ | ⟨q1, q2⟩
    · right
      refine ⟨.inl (nI k, it, co), fun kk => ?_, Or.inl ⟨k, (it, co), rfl, hk, q2, h3⟩⟩
      unfold f_X9_fewest_l63
      dsimp only
      rw [if_neg (by rw [nle (by omega) (by omega)]; omega), n_shl hm, nsub1 h1m, if_neg (nI_in (by omega) (by omega)), ncl (by omega), q1, if_neg n_10.mp]
    · left
      obtain ⟨c1, d1, d2⟩ := m_zero fu (by omega) (f_X9_fewest_l86 fu) (fun i hi g kk => by
        unfold f_X9_fewest_l86
        dsimp only
        rw [if_neg (by rw [zl256, nle (by omega) (by omega)]; omega), if_neg (nI_in (by omega) (by omega)), ncl (by omega), nsucc]
        rfl) (fun g kk => by
        unfold f_X9_fewest_l86
        dsimp only
        rw [if_pos (by decide)]) co
      obtain ⟨c2, e1, e2⟩ := lp_run (f_X9_fewest_l111 fu lo mw it (nI m)) (2 ^ m) (fun c z => z.1 = nI c ∧ ∀ T, T < 256 → ((∃ S, S < c ∧ thr J m r k S ∧ mrun J m S m S T) ∧ z.2 T = 1) ∨ (¬ (∃ S, S < c ∧ thr J m r k S ∧ mrun J m S m S T) ∧ z.2 T = 0)) (fun z => ∀ T, T < 256 → ((∃ S, S < 2 ^ m ∧ thr J m r k S ∧ mrun J m S m S T) ∧ z T = 1) ∨ (¬ (∃ S, S < 2 ^ m ∧ thr J m r k S ∧ mrun J m S m S T) ∧ z T = 0)) (by
        rintro c ⟨x, g⟩ hc' ⟨b1, b2⟩
        dsimp only at b1 b2
        subst b1
        left
        rcases h2 c (by omega) with ⟨w1, w2⟩ | ⟨w1, w2⟩
        · obtain ⟨s, s1, s2⟩ := hsf m hm (Nat.le_refl m) g c c hc' hc'
          rw [Nat.sub_self] at s1
          have s1' : f_X9_sendFrom_d8 fu lo mw g (nI c) (nI c) 0 (nI m) = some s := s1
          refine ⟨(nI (c + 1), s), fun kk => ?_, rfl, fun T hT => ?_⟩
          · unfold f_X9_fewest_l111
            dsimp only
            rw [n_shl hm, if_neg (by rw [nle (by omega) (by omega)]; omega), if_neg (nI_in (by omega) (by omega)), ncl (by omega), w1, if_neg n_10.mp, s1', Option.bind_some, nsucc]
          · rcases s2 T with ⟨y1, y2⟩ | ⟨y1, y2⟩
            · exact Or.inl ⟨⟨c, by omega, w2, y1⟩, y2⟩
            · rcases b2 T hT with ⟨⟨S, v1, v2⟩, v3⟩ | ⟨v1, v2⟩
              · exact Or.inl ⟨⟨S, by omega, v2⟩, y2.trans v3⟩
              · refine Or.inr ⟨fun ⟨S, u1, u2, u3⟩ => ?_, y2.trans v2⟩
                rcases Nat.lt_succ_iff_lt_or_eq.mp u1 with z | z
                · exact v1 ⟨S, z, u2, u3⟩
                · subst z; exact y1 u3
        · refine ⟨(nI (c + 1), g), fun kk => ?_, rfl, fun T hT => ?_⟩
          · unfold f_X9_fewest_l111
            dsimp only
            rw [n_shl hm, if_neg (by rw [nle (by omega) (by omega)]; omega), if_neg (nI_in (by omega) (by omega)), ncl (by omega), if_pos w1, nsucc]
          · rcases b2 T hT with ⟨⟨S, v1, v2⟩, v3⟩ | ⟨v1, v2⟩
            · exact Or.inl ⟨⟨S, by omega, v2⟩, v3⟩
            · refine Or.inr ⟨fun ⟨S, u1, u2, u3⟩ => ?_, v2⟩
              rcases Nat.lt_succ_iff_lt_or_eq.mp u1 with z | z
              · exact v1 ⟨S, z, u2, u3⟩
              · subst z; exact w2 u2) (by
        rintro ⟨x, g⟩ ⟨b1, b2⟩
        dsimp only at b1 b2
        subst b1
        refine ⟨g, fun kk => ?_, b2⟩
        unfold f_X9_fewest_l111
        dsimp only
        rw [n_shl hm, if_pos (by rw [nle (by omega) (by omega)]; omega)]) (2 ^ m) 0 (0, c1) fu (by omega) (by omega) ⟨rfl, fun T hT => Or.inr ⟨fun ⟨S, q, _⟩ => by omega, d2 T hT⟩⟩
      have e3 : ∀ T, T < 256 → (c2 T = 1 ∧ thr J m r (k + 1) T) ∨ (c2 T = 0 ∧ ¬ thr J m r (k + 1) T) := fun T hT => by
        rcases e2 T hT with ⟨⟨S, v1, v2, v3⟩, v4⟩ | ⟨v1, v2⟩
        · exact Or.inl ⟨v4, S, v2, v3⟩
        · exact Or.inr ⟨v2, fun ⟨S, u1, u2⟩ => v1 ⟨S, thr_lt hr u1, u1, u2⟩⟩
      obtain ⟨i2, f1, f2⟩ := lp_run (f_X9_fewest_l148 fu c2) 256 (fun c z => z.1 = nI c ∧ ∀ T, T < c → z.2 T = c2 T) (fun z => ∀ T, T < 256 → z T = c2 T) (by
        rintro c ⟨x, g⟩ hc' ⟨b1, b2⟩
        dsimp only at b1 b2
        subst b1
        left
        refine ⟨(nI (c + 1), upd g c (c2 c)), fun kk => ?_, rfl, fun T hT => ?_⟩
        · unfold f_X9_fewest_l148
          dsimp only
          rw [if_neg (by rw [zl256, nle (by omega) (by omega)]; omega), if_neg (nI_in (by omega) (by omega)), if_neg (nI_in (by omega) (by omega)), ncl (by omega), nsucc]
          rcases e3 c hc' with ⟨y, -⟩ | ⟨y, -⟩ <;> rw [y] <;> rfl
        · show upd g c _ T = _
          by_cases q : T = c
          · rw [q]; exact pk_us
          · rw [pk_un q]; exact b2 T (by omega)) (by
        rintro ⟨x, g⟩ ⟨b1, b2⟩
        dsimp only at b1 b2
        subst b1
        refine ⟨g, fun kk => ?_, b2⟩
        unfold f_X9_fewest_l148
        dsimp only
        rw [if_pos (by decide)]) 256 0 (0, it) fu (by omega) (by omega) ⟨rfl, fun T hT => by omega⟩
      refine ⟨(nI (k + 1), i2, c2), fun kk => ?_, rfl, fun T hT => by show (i2 T = 1 ∧ _) ∨ (i2 T = 0 ∧ _); rw [f2 T hT]; exact e3 T hT, fun d hd => ?_⟩
      · unfold f_X9_fewest_l63
        dsimp only
        rw [if_neg (by rw [nle (by omega) (by omega)]; omega), n_shl hm, nsub1 h1m, if_neg (nI_in (by omega) (by omega)), ncl (by omega), if_pos q1, d1, Option.bind_some, e1, Option.bind_some, f1, Option.bind_some, nsucc]
      · rcases Nat.lt_succ_iff_lt_or_eq.mp hd with z | z
        · exact h3 d z
        · rw [z]; exact q2
  · rintro ⟨x, it, co⟩ ⟨h1, h2, h3⟩
    dsimp only at h1 h2
    subst h1
    refine ⟨.inr (it, co), fun kk => ?_, Or.inr ⟨⟨_, rfl⟩, h3⟩⟩
    unfold f_X9_fewest_l63
    dsimp only
    rw [if_pos (by rw [nle (by omega) (by omega)]; omega)]
theorem B_fewest (fu n : Nat) (hfu : 1200 < fu) {lv : Nat → Bool} {al hb rb lo wa pe mw mp : Nat → Int32} {sz rk mh li : Int32} (h : ZHo n lv al hb rb sz rk mh lo) (hln : ZLn n wa pe li mw mp) (jn st re : Nat → Int32) (rm ra : Int32) (it co : Nat → Int32) (x1 : Int32) :
    ∃ z y, f_X8_fewest fu al hb rb wa sz rk jn st re rm ra x1 = some z ∧ f_X9_fewest fu mh lo mw it co x1 = some y ∧ z.1 = y.1 ∧ y.2.1 = 0 := by
  obtain ⟨h0, hn, rfl, rfl, ha, hz, hl, rfl, hpos, hr⟩ := id h
  have hct := fb_ct_le lv n
  unfold f_X8_fewest f_X9_fewest f_X3_ranks
  rw [b_isLive fu n hn lv al ha, m_isLive fu n (by omega) hn lv lo hl, m_liveMany fu n hn (by omega) lv lo hl, Option.bind_some, Option.bind_some, Option.bind_some, Option.bind_some]
  cases c2 : lx n lv x1 with
  | false => exact ⟨_, _, rfl, rfl, rfl, rfl⟩
  | true =>
    obtain ⟨j, hj, hj', rfl, hjl⟩ := lx_t c2
    rw [if_pos (show true = true from rfl), if_neg n_10.mp, if_neg n_10.mp]
    by_cases h8 : fb_ct lv n ≤ 8
    · have hr0 := ct_lt hj hjl
      have hle : nI (fb_ct lv n) ≤ (8 : Int32) := by rw [zl8, nle (by omega) (by omega)]; exact h8
      rw [if_pos hle, if_pos hle, b_rankOf fu n j lv al rb hn hj hjl ha (fun j hj hl => (hr j hj hl).2), m_rankOf fu n j hn (by omega) (by omega) lv lo hl, Option.bind_some]
      obtain ⟨z, z1, z2⟩ := b_leastSteps fu n (fb_ct lv n) hfu h8 hn rfl (fun r hr1 => b_hostOf fu n r lv hb hn hr1 (fun j hj hl => (hr j hj hl).1)) hln.1 jn st re ra hr0
      obtain ⟨i1, e1, e2⟩ := m_zero fu (by omega) (f_X9_fewest_l28 fu) (fun i hi g kk => by
        unfold f_X9_fewest_l28
        dsimp only
        rw [if_neg (by rw [zl256, nle (by omega) (by omega)]; omega), if_neg (nI_in (by omega) (by omega)), ncl (by omega), nsucc]
        rfl) (fun g kk => by
        unfold f_X9_fewest_l28
        dsimp only
        rw [if_pos (by decide)]) it
      have hp := p2_8 h8
      have hrl : 2 ^ fb_ct lv j < 2 ^ fb_ct lv n := Nat.pow_lt_pow_right (by omega) hr0
      obtain ⟨y, y1, y2⟩ := m_fewest fu n (fb_ct lv n) hfu h8 (mw := mw) hn rfl (fun r hr1 => m_hostOf fu n r hn (by omega) lv lo hl hr1) hr0 (upd i1 (2 ^ fb_ct lv j) 1) co (fun T hT => by
        by_cases q : T = 2 ^ fb_ct lv j
        · exact Or.inl ⟨by rw [q]; exact pk_us, q⟩
        · exact Or.inr ⟨by rw [pk_un q]; exact e2 T hT, q⟩)
      rw [z1, Option.bind_some, e1, Option.bind_some, Option.bind_some, n_shl (by omega), if_neg (nI_in (by omega) (by omega)), ncl (by omega)]
      have y1' : lp (f_X9_fewest_l63 fu lo mw (nI (fb_ct lv n))) fu (0, upd i1 (2 ^ fb_ct lv j) (vp_nar .boolean 1), co) = some y := y1
      rw [y1', Option.bind_some]
      have hiff : ∀ d, lev (fun i j => decide (mw (16 * hst lv n i + hst lv n j) ≠ -1)) (fb_ct lv n) (fb_ct lv j) d (2 ^ fb_ct lv n - 1) ↔ thr (fun i j => decide (mw (16 * hst lv n i + hst lv n j) ≠ -1)) (fb_ct lv n) (fb_ct lv j) d (2 ^ fb_ct lv n - 1) := fun d => lev_all hr0
      rcases y2 with ⟨k, w, rfl, w1, w2, w3⟩ | ⟨⟨w, rfl⟩, w1⟩
      · refine ⟨_, _, rfl, rfl, ?_, rfl⟩
        show z.1 = nI k
        rcases z2 with ⟨d, d1, d2⟩ | ⟨d1, d2⟩
        · rcases Nat.lt_or_ge d k with q | q
          · exact absurd ((hiff d).mp d2.1) (w3 d q)
          · rcases Nat.lt_or_ge k d with q2 | q2
            · exact absurd ((hiff k).mpr w2) (d2.2 k q2)
            · rw [d1, show d = k by omega]
        · exact absurd ((hiff k).mpr w2) (d2 k (by omega))
      · refine ⟨_, _, rfl, rfl, ?_, rfl⟩
        show z.1 = -1
        rcases z2 with ⟨d, d1, d2⟩ | ⟨d1, d2⟩
        · exact absurd ((hiff d).mp d2.1) (w1 d (fst1_all hr0 d2))
        · exact d1
    · have hle : ¬ nI (fb_ct lv n) ≤ (8 : Int32) := by rw [zl8, nle (by omega) (by omega)]; exact h8
      rw [if_neg hle, if_neg hle]
      exact ⟨_, _, rfl, rfl, rfl, rfl⟩
