def bc (x : Int32) : Int32 := (f_J6_bitCount_0f7a4 0 x).getD 0
theorem bc_eq (fu : Nat) (x : Int32) : f_J6_bitCount_0f7a4 fu x = some (bc x) := rfl
/-- does the form f join a with b, a the lesser -/
def fm (n f a b : Nat) : Prop := if f = 0 then b = a + 1 ∨ (a = 0 ∧ b = n - 1) else if f = 1 then True else if f = 2 then b = a + 1 else bc (nI a ^^^ nI b) = 1
theorem b_inForm (fu n f a b : Nat) (hn : n ≤ 16) (h0 : 2 ≤ n) (ha : a < n) (hb : b < n) (hf : f ≤ 3) [Decidable (fm n f a b)] : f_X3_isInForm fu (nI n) (nI f) (nI a) (nI b) = some (if fm n f a b then 1 else 0) := by
  unfold f_X3_isInForm
  rw [bc_eq]
  simp (disch := omega) only [nlt0, nle, nlt, neqI, ncl, nadd, nmul, nm1, nm1', nsucc, n_eq0, n_eq0', n_eq1, n_le0, n_0lt, n_0le, n_1le, n_le1, n_01, n_10, nsubI, nsub1, naddm1, ofNat_nI, zl2, zl3, zl4, zl5, zl6, zl7, zl8, zl9, zl13, zl15, zl16, zl17, zl31, zl63, zl64, zl100, zl256, zl1000, zl1200, zl7200, zl65536, zl100000, Option.bind_some]
  rcases (show f = 0 ∨ f = 1 ∨ f = 2 ∨ f = 3 by omega) with rfl | rfl | rfl | rfl
  · by_cases h1 : b = a + 1 <;> by_cases h2 : a = 0 <;> by_cases h3 : b = n - 1 <;> simp [h1, h2, h3, fm] <;> (try (split <;> rfl))
  · simp [fm]
  · by_cases h1 : b = a + 1 <;> simp [h1, fm]
  · by_cases h1 : bc (nI a ^^^ nI b) = 1 <;> simp [h1, fm]
theorem B_netIn (fu n f a w p : Nat) (hn : n ≤ 16) (h0 : 2 ≤ n) (ha : a < n) (hf : f ≤ 3) (hfu : 16 < fu) (hw : w ≤ 1000) (hp1 : 1 ≤ p) (hp2 : p ≤ 1000) {wa pe mw mp : Nat → Int32} {li : Int32} (h : ZLn n wa pe li mw mp) :
    ∃ r r', lp (f_X3_joinByForm_l18 fu (nI n) (nI f) (nI w) (nI p) (nI a)) fu (nI (a + 1), wa, pe, li) = some r ∧ lp (f_X9_net_l56 fu (nI n) (nI f) (nI w) (nI p) (nI a)) fu (nI (a + 1), mw, mp) = some r' ∧ ZLn n r.1 r.2.1 r.2.2 r'.1 r'.2 := by
  refine lp_sim (f_X3_joinByForm_l18 fu (nI n) (nI f) (nI w) (nI p) (nI a)) (f_X9_net_l56 fu (nI n) (nI f) (nI w) (nI p) (nI a)) n (fun i s s' => a < i ∧ s.1 = nI i ∧ s'.1 = nI i ∧ ZLn n s.2.1 s.2.2.1 s.2.2.2 s'.2.1 s'.2.2) (fun r r' => ZLn n r.1 r.2.1 r.2.2 r'.1 r'.2) ?_ ?_ (n - (a + 1)) (a + 1) _ _ fu fu (by omega) (by omega) (by omega) ⟨by omega, rfl, rfl, h⟩
  · rintro i ⟨x, wa, pe, li⟩ ⟨x', mw, mp⟩ hi ⟨h1, h2, h3, h4⟩
    dsimp only at h2 h3 h4
    subst h2 h3
    letI : Decidable (fm n f a i) := Classical.propDecidable _
    by_cases hfm : fm n f a i
    · refine ⟨(nI (i + 1), upd (upd wa (16 * a + i) (nI w)) (16 * i + a) (nI w), upd (upd pe (16 * a + i) (nI p)) (16 * i + a) (nI p), if wa (16 * a + i) = -1 then li + 1 else li), (nI (i + 1), upd (upd mw (16 * a + i) (nI w)) (16 * i + a) (nI w), upd (upd mp (16 * a + i) (nI p)) (16 * i + a) (nI p)), fun k => ?_, fun k => ?_, by omega, rfl, rfl, h4.join hn ha hi (by omega) hw hp1 hp2⟩
      · unfold f_X3_joinByForm_l18
        dsimp only
        rw [if_neg (by rw [nle (by omega) (by omega)]; omega), b_inForm fu n f a i hn h0 ha hi hf, if_pos hfm, Option.bind_some, if_neg n_10.mp, b_join fu n a i hn ha hi (by omega), Option.bind_some, nsucc]
      · unfold f_X9_net_l56
        dsimp only
        rw [bc_eq, m_tie fu a i (by omega) (by omega)]
        generalize upd (upd mw (16 * a + i) (nI w)) (16 * i + a) (nI w) = zA
        generalize upd (upd mp (16 * a + i) (nI p)) (16 * i + a) (nI p) = zB
        simp (disch := omega) only [nlt0, nle, nlt, neqI, ncl, nadd, nmul, nm1, nm1', nsucc, n_eq0, n_eq0', n_eq1, n_le0, n_0lt, n_0le, n_1le, n_le1, n_01, n_10, nsubI, nsub1, naddm1, ofNat_nI, zl2, zl3, zl4, zl5, zl6, zl7, zl8, zl9, zl13, zl15, zl16, zl17, zl31, zl63, zl64, zl100, zl256, zl1000, zl1200, zl7200, zl65536, zl100000, Option.bind_some]
        rw [if_neg (by omega)]
        rcases (show f = 0 ∨ f = 1 ∨ f = 2 ∨ f = 3 by omega) with rfl | rfl | rfl | rfl
        · simp [fm] at hfm
          rcases hfm with hfm | ⟨q1, q2⟩
          · simp [hfm]
          · by_cases q3 : i = a + 1
            · simp [q3]
            · simp [q1, q2, show ¬ n - 1 = 0 + 1 by omega]
        · by_cases q3 : i = a + 1 <;> simp [q3]
        · simp [fm] at hfm
          simp [hfm]
        · simp [fm] at hfm
          by_cases q3 : i = a + 1
          · subst q3; simp [hfm]
          · simp [q3, hfm]
    · refine ⟨(nI (i + 1), wa, pe, li), (nI (i + 1), mw, mp), fun k => ?_, fun k => ?_, by omega, rfl, rfl, h4⟩
      · unfold f_X3_joinByForm_l18
        dsimp only
        rw [if_neg (by rw [nle (by omega) (by omega)]; omega), b_inForm fu n f a i hn h0 ha hi hf, if_neg hfm, Option.bind_some, if_pos rfl, nsucc]
      · unfold f_X9_net_l56
        dsimp only
        rw [bc_eq]
        simp (disch := omega) only [nlt0, nle, nlt, neqI, ncl, nadd, nmul, nm1, nm1', nsucc, n_eq0, n_eq0', n_eq1, n_le0, n_0lt, n_0le, n_1le, n_le1, n_01, n_10, nsubI, nsub1, naddm1, ofNat_nI, zl2, zl3, zl4, zl5, zl6, zl7, zl8, zl9, zl13, zl15, zl16, zl17, zl31, zl63, zl64, zl100, zl256, zl1000, zl1200, zl7200, zl65536, zl100000, Option.bind_some]
        rw [if_neg (by omega)]
        rcases (show f = 0 ∨ f = 1 ∨ f = 2 ∨ f = 3 by omega) with rfl | rfl | rfl | rfl
        · simp only [fm, if_pos, not_or, not_and] at hfm
          by_cases q1 : a = 0
          · simp [hfm.1, q1, hfm.2 q1]
            intro q; omega
          · simp [hfm.1, q1]
        · simp [fm] at hfm
        · simp [fm] at hfm
          simp [hfm]
        · simp [fm] at hfm
          by_cases q3 : i = a + 1
          · subst q3; simp [hfm]
          · simp [q3, hfm]
  · rintro ⟨x, wa, pe, li⟩ ⟨x', mw, mp⟩ ⟨h1, h2, h3, h4⟩
    dsimp only at h2 h3 h4
    subst h2 h3
    refine ⟨(wa, pe, li), (mw, mp), fun k => ?_, fun k => ?_, h4⟩
    · unfold f_X3_joinByForm_l18
      dsimp only
      rw [if_pos (by rw [nle (by omega) (by omega)]; omega)]
    · unfold f_X9_net_l56
      dsimp only
      rw [if_pos (by rw [nle (by omega) (by omega)]; omega)]
theorem B_netOut (fu n f w p : Nat) (hn : n ≤ 16) (h0 : 2 ≤ n) (hf : f ≤ 3) (hfu : 16 < fu) (hw : w ≤ 1000) (hp1 : 1 ≤ p) (hp2 : p ≤ 1000) {wa pe mw mp : Nat → Int32} {li : Int32} (h : ZLn n wa pe li mw mp) :
    ∃ r r', lp (f_X3_joinByForm_l3 fu (nI n) (nI f) (nI w) (nI p)) fu (0, wa, pe, li) = some r ∧ lp (f_X9_net_l41 fu (nI n) (nI f) (nI w) (nI p)) fu (0, mw, mp) = some r' ∧ ZLn n r.1 r.2.1 r.2.2 r'.1 r'.2 := by
  refine lp_sim (f_X3_joinByForm_l3 fu (nI n) (nI f) (nI w) (nI p)) (f_X9_net_l41 fu (nI n) (nI f) (nI w) (nI p)) n (fun i s s' => s.1 = nI i ∧ s'.1 = nI i ∧ ZLn n s.2.1 s.2.2.1 s.2.2.2 s'.2.1 s'.2.2) (fun r r' => ZLn n r.1 r.2.1 r.2.2 r'.1 r'.2) ?_ ?_ n 0 _ _ fu fu (by omega) (by omega) (by omega) ⟨rfl, rfl, h⟩
  · rintro i ⟨x, wa, pe, li⟩ ⟨x', mw, mp⟩ hi ⟨h2, h3, h4⟩
    dsimp only at h2 h3 h4
    subst h2 h3
    obtain ⟨r, r', h5, h6, h7⟩ := B_netIn fu n f i w p hn h0 hi hf hfu hw hp1 hp2 h4
    refine ⟨(nI (i + 1), r.1, r.2.1, r.2.2), (nI (i + 1), r'.1, r'.2), fun k => ?_, fun k => ?_, rfl, rfl, h7⟩
    · unfold f_X3_joinByForm_l3 vn
      dsimp only
      rw [if_neg (by rw [nle (by omega) (by omega)]; omega), nsucc, h5]; rfl
    · unfold f_X9_net_l41 vn
      dsimp only
      rw [if_neg (by rw [nle (by omega) (by omega)]; omega), nsucc, h6]; rfl
  · rintro ⟨x, wa, pe, li⟩ ⟨x', mw, mp⟩ ⟨h2, h3, h4⟩
    dsimp only at h2 h3 h4
    subst h2 h3
    refine ⟨(wa, pe, li), (mw, mp), fun k => ?_, fun k => ?_, h4⟩
    · unfold f_X3_joinByForm_l3
      dsimp only
      rw [if_pos (by rw [nle (by omega) (by omega)]; omega)]
    · unfold f_X9_net_l41
      dsimp only
      rw [if_pos (by rw [nle (by omega) (by omega)]; omega)]
theorem B_net (fu n : Nat) (h0 : 2 ≤ n) (hn : n ≤ 16) (hfu : 16 < fu) {wa pe mw mp : Nat → Int32} {li : Int32} (h : ZLn n wa pe li mw mp) (ps mm x1 x2 x3 : Int32) :
    ∃ r wa' pe' li' mw' mp' ps' mm', ZLn n wa' pe' li' mw' mp' ∧ f_X8_net fu wa pe (nI n) li ps x1 x2 x3 = some (r, wa', pe', li', ps') ∧ f_X9_net fu (nI n) mw mp mm x1 x2 x3 = some (r, mw', mp', mm', 0) ∧ ((ps' = ps ∧ mm' = mm ∧ mw' = mw) ∨ (ps' = 0 ∧ mm' = 0)) := by
  unfold f_X8_net f_X9_net
  rw [m_in, m_in, m_in, b_isPace]
  simp only [Option.bind_some]
  by_cases e1 : x1 < 0
  · exact ⟨-1, _, _, _, _, _, _, _, h, by rw [if_pos e1], by rw [if_pos (Or.inl e1), if_pos rfl], Or.inl ⟨rfl, rfl, rfl⟩⟩
  · by_cases e2 : 3 < x1
    · exact ⟨-1, _, _, _, _, _, _, _, h, by rw [if_neg e1, if_pos e2], by rw [if_pos (Or.inr e2), if_pos rfl], Or.inl ⟨rfl, rfl, rfl⟩⟩
    · rw [if_neg e1, if_neg e2]
      have e12 : ¬ (x1 < 0 ∨ 3 < x1) := fun q => q.elim e1 e2
      rw [if_neg e12, if_neg n_10.mp]
      by_cases e3 : (x2 < 0 ∨ 1000 < x2)
      · exact ⟨-1, _, _, _, _, _, _, _, h, by rw [if_pos (Or.inl e3), if_pos rfl], by rw [if_pos e3, if_pos rfl], Or.inl ⟨rfl, rfl, rfl⟩⟩
      · rw [if_neg e3, if_neg n_10.mp]
        by_cases e4 : (x3 < 1 ∨ 1000 < x3)
        · exact ⟨-1, _, _, _, _, _, _, _, h, by rw [if_pos (Or.inr e4), if_pos rfl], by rw [if_pos e4, if_pos rfl], Or.inl ⟨rfl, rfl, rfl⟩⟩
        · have e34 : ¬ ((x2 < 0 ∨ 1000 < x2) ∨ (x3 < 1 ∨ 1000 < x3)) := fun q => q.elim e3 e4
          rw [if_neg e4, if_neg n_10.mp, if_neg e34, if_neg n_10.mp]
          obtain ⟨w, hw, rfl⟩ := pace_w e3
          obtain ⟨p, hp1, hp2, rfl⟩ := pace_p e4
          obtain ⟨f, hf, rfl⟩ := nI_of e1
          have hf3 : f ≤ 3 := by
            have e2' : ¬ nI 3 < nI f := e2
            rw [nlt (by omega) hf] at e2'; omega
          obtain ⟨r, r', h5, h6, h7⟩ := B_netOut fu n f w p hn h0 hf3 hfu hw hp1 hp2 h
          refine ⟨nI (LC r'.1 n), r.1, r.2.1, r.2.2, r'.1, r'.2, 0, 0, h7, ?_, ?_, Or.inr ⟨rfl, rfl⟩⟩
          · unfold f_X3_joinByForm
            rw [h5]
            simp only [Option.bind_some, f_X4_empty, f_X3_lines]
            rw [h7.2.2.2.2]
          · rw [h6, Option.bind_some, m_lines fu n hn hfu, Option.bind_some]
