/-! the class's search -/
theorem shl9 : ∀ s : Fin 9, (1 : Int32) <<< (nI s.val &&& 31) = nI (2 ^ s.val) := by decide
theorem bt8 : ∀ (x : Fin 256) (i : Fin 8), (((nI x.val) >>> (nI i.val &&& 31)) &&& 1 = 0) ↔ x.val.testBit i.val = false := by decide +kernel
theorem n_shl {j : Nat} (h : j ≤ 8) : (1 : Int32) <<< (nI j &&& 31) = nI (2 ^ j) := shl9 ⟨j, by omega⟩
theorem n_bit {x i : Nat} (hx : x < 256) (hi : i < 8) : (((nI x) >>> (nI i &&& 31)) &&& 1 = 0) ↔ x.testBit i = false := bt8 ⟨x, hx⟩ ⟨i, hi⟩
theorem fa_xor (a b : Nat) : nI a ^^^ nI b = nI (a ^^^ b) := by
  apply Int32.toBitVec_inj.1
  show BitVec.ofNat 32 a ^^^ BitVec.ofNat 32 b = BitVec.ofNat 32 (a ^^^ b)
  apply BitVec.eq_of_getLsbD_eq
  intro i hi
  simp [hi]
theorem fx_m1 : (-1 : Int32) = nI (2 ^ 32 - 1) := by decide
def dif (a s : Nat) : Nat := a &&& ((2 ^ 32 - 1) ^^^ s)
theorem n_dif (a s : Nat) : nI a &&& (nI s ^^^ (-1)) = nI (dif a s) := by
  rw [fx_m1, fa_xor, fa_and, Nat.xor_comm]
  rfl
theorem dif_bit {a s b : Nat} (ha : a < 256) : (dif a s).testBit b = (a.testBit b && !s.testBit b) := by
  unfold dif
  rw [Nat.testBit_and, Nat.testBit_xor, Nat.testBit_two_pow_sub_one]
  by_cases hb : b < 32
  · simp [hb]
  · have : a.testBit b = false := Nat.testBit_lt_two_pow (Nat.lt_of_lt_of_le ha (Nat.le_trans (show 256 ≤ 2 ^ 32 by decide) (Nat.pow_le_pow_right (by omega) (by omega))))
    simp [this]
theorem dif_le (a s : Nat) : dif a s ≤ a := Nat.and_le_left
theorem dif_0 {a s : Nat} (ha : a < 256) : dif a s = 0 ↔ ¬ ∃ b, a.testBit b = true ∧ s.testBit b = false := by
  constructor
  · rintro h ⟨b, h1, h2⟩
    have := dif_bit (s := s) (b := b) ha
    rw [h, h1, h2] at this
    simp at this
  · intro h
    refine Nat.eq_of_testBit_eq fun b => ?_
    rw [dif_bit ha, Nat.zero_testBit]
    cases h1 : a.testBit b with
    | false => rfl
    | true =>
      cases h2 : s.testBit b with
      | false => exact absurd ⟨b, h1, h2⟩ h
      | true => rfl
def ZJn (m : Nat) (J : Nat → Nat → Bool) (jn : Nat → Int32) : Prop := ∀ i, i < m → ∃ a, a < 256 ∧ jn i = nI a ∧ ∀ b, a.testBit b = (decide (b < m) && J i b)
theorem p2_8 {m : Nat} (h : m ≤ 8) : 2 ^ m ≤ 256 := Nat.pow_le_pow_right (by omega) h
theorem b_readIn (fu n m i : Nat) (hfu : 16 < fu) (hm : m ≤ 8) (hi : i < m) {lv : Nat → Bool} {hb wa mw : Nat → Int32} (hn : n ≤ 16) (hc : fb_ct lv n = m) (hh : ∀ r, r < m → f_X3_hostOf fu hb (nI m) (nI r) = some (nI (hst lv n r))) (hw : ∀ k, k < 256 → wa k = mw k) (jn : Nat → Int32) (h0 : jn i = 0) :
    ∃ r, lp (f_X5_readLines_l19 fu hb wa (nI m) (nI m) (nI i)) fu (0, jn) = some r ∧ (∀ j, j ≠ i → r j = jn j) ∧ ∃ a, a < 256 ∧ r i = nI a ∧ ∀ b, a.testBit b = (decide (b < m) && decide (mw (16 * hst lv n i + hst lv n b) ≠ -1)) := by
  obtain ⟨ai, -, -⟩ := hst_ok (lv := lv) (n := n) (r := i) (by omega)
  refine lp_run (f_X5_readLines_l19 fu hb wa (nI m) (nI m) (nI i)) m (fun j s => s.1 = nI j ∧ (∀ k, k ≠ i → s.2 k = jn k) ∧ ∃ a, a < 2 ^ m ∧ s.2 i = nI a ∧ ∀ b, a.testBit b = (decide (b < j) && decide (mw (16 * hst lv n i + hst lv n b) ≠ -1))) (fun r => (∀ j, j ≠ i → r j = jn j) ∧ ∃ a, a < 256 ∧ r i = nI a ∧ ∀ b, a.testBit b = (decide (b < m) && decide (mw (16 * hst lv n i + hst lv n b) ≠ -1))) ?_ ?_ m 0 (0, jn) fu (by omega) (by omega) ⟨rfl, fun _ _ => rfl, 0, Nat.two_pow_pos m, h0, fun b => by simp⟩
  · rintro j ⟨x, g⟩ hj ⟨h1, h2, a, h3, h4, h5⟩
    dsimp only at h1 h2 h4
    subst h1
    left
    obtain ⟨aj, -, -⟩ := hst_ok (lv := lv) (n := n) (r := j) (by omega)
    have key : ∀ k, f_X5_readLines_l19 fu hb wa (nI m) (nI m) (nI i) k (nI j, g) = if mw (16 * hst lv n i + hst lv n j) = -1 then k (nI (j + 1), g) else k (nI (j + 1), upd g i (nI (a ||| 2 ^ j))) := fun k => by
      unfold f_X5_readLines_l19
      dsimp only
      rw [if_neg (by rw [nle (by omega) (by omega)]; omega), hh i hi, Option.bind_some, hh j hj, Option.bind_some, b_hasLine fu _ _ wa (by omega) (by omega), hw _ (by omega), Option.bind_some]
      by_cases q : mw (16 * hst lv n i + hst lv n j) = -1
      · rw [if_pos q, if_pos q, if_pos rfl, nsucc]
      · rw [if_neg q, if_neg q, if_neg n_10.mp, if_neg (nI_in (by omega) (by omega)), if_neg (nI_in (by omega) (by omega)), ncl (by omega), h4, n_shl (by omega), fa_or, nsucc]
    by_cases q : mw (16 * hst lv n i + hst lv n j) = -1
    · refine ⟨(nI (j + 1), g), fun k => by rw [key, if_pos q], rfl, h2, a, h3, h4, fun b => ?_⟩
      rw [h5]
      by_cases w : b = j
      · subst w; simp [q]
      · rw [show decide (b < j + 1) = decide (b < j) from decide_eq_decide.mpr (by omega)]
    · refine ⟨(nI (j + 1), upd g i (nI (a ||| 2 ^ j))), fun k => by rw [key, if_neg q], rfl, fun k hk => ?_, a ||| 2 ^ j, or_lt h3 hj, by simp [upd], fun b => ?_⟩
      · show upd g i _ k = _
        rw [pk_un hk]; exact h2 k hk
      · rw [tb_or, h5]
        by_cases w : b = j
        · subst w; simp [q]
        · rw [show decide (b < j + 1) = decide (b < j) from decide_eq_decide.mpr (by omega), show decide (j = b) = false from decide_eq_false (by omega), Bool.or_false]
  · rintro ⟨x, g⟩ ⟨h1, h2, a, h3, h4, h5⟩
    dsimp only at h1 h2 h4
    subst h1
    have := p2_8 hm
    refine ⟨g, fun k => ?_, h2, a, by omega, h4, h5⟩
    unfold f_X5_readLines_l19
    dsimp only
    rw [if_pos (by rw [nle (by omega) (by omega)]; omega)]
theorem b_readLines (fu n m : Nat) (hfu : 16 < fu) (hm : m ≤ 8) {lv : Nat → Bool} {hb wa mw : Nat → Int32} (hn : n ≤ 16) (hc : fb_ct lv n = m) (hh : ∀ r, r < m → f_X3_hostOf fu hb (nI m) (nI r) = some (nI (hst lv n r))) (hw : ∀ k, k < 256 → wa k = mw k) (jn : Nat → Int32) :
    ∃ r, f_X5_readLines fu hb wa (nI m) jn (nI m) = some r ∧ ZJn m (fun i j => decide (mw (16 * hst lv n i + hst lv n j) ≠ -1)) r := by
  obtain ⟨r, h1, h2⟩ := lp_run (f_X5_readLines_l2 fu hb wa (nI m) (nI m)) m (fun i s => s.1 = nI i ∧ ∀ i', i' < i → ∃ a, a < 256 ∧ s.2 i' = nI a ∧ ∀ b, a.testBit b = (decide (b < m) && decide (mw (16 * hst lv n i' + hst lv n b) ≠ -1))) (fun r => ZJn m (fun i j => decide (mw (16 * hst lv n i + hst lv n j) ≠ -1)) r) (by
    rintro i ⟨x, g⟩ hi ⟨h1, h2⟩
    dsimp only at h1 h2
    subst h1
    left
    obtain ⟨r, r1, r2, r3⟩ := b_readIn fu n m i hfu hm hi hn hc hh hw (upd g i 0) (by simp [upd])
    refine ⟨(nI (i + 1), r), fun k => ?_, rfl, fun i' hi' => ?_⟩
    · unfold f_X5_readLines_l2
      dsimp only
      rw [if_neg (by rw [nle (by omega) (by omega)]; omega), if_neg (nI_in (by omega) (by omega)), ncl (by omega), r1, Option.bind_some, nsucc]
    · rcases Nat.lt_succ_iff_lt_or_eq.mp hi' with q | q
      · obtain ⟨a, a1, a2, a3⟩ := h2 i' q
        refine ⟨a, a1, ?_, a3⟩
        show r i' = _
        rw [r2 i' (by omega), pk_un (by omega)]; exact a2
      · subst q; exact r3) (by
    rintro ⟨x, g⟩ ⟨h1, h2⟩
    dsimp only at h1 h2
    subst h1
    refine ⟨g, fun k => ?_, h2⟩
    unfold f_X5_readLines_l2
    dsimp only
    rw [if_pos (by rw [nle (by omega) (by omega)]; omega)]) m 0 (0, jn) fu (by omega) (by omega) ⟨rfl, fun i' hi' => by omega⟩
  exact ⟨r, by unfold f_X5_readLines; rw [h1, Option.bind_some], h2⟩
section SE
variable {m : Nat} {J : Nat → Nat → Bool} {jn : Nat → Int32} (fu : Nat)
theorem b_lsI (hfu : 1200 < fu) (hm : m ≤ 8) {s o : Nat} (hs : s < 2 ^ m) (ho : o < 256) (f : Nat → Int32) :
    ∃ r, lp (f_X5_letSend_l49 fu (nI m) (nI s) (nI o)) fu (0, f) = some r ∧ ∀ T, ((∃ j, j < m ∧ o.testBit j = true ∧ T = s ||| 2 ^ j) ∧ r T = 1) ∨ (¬ (∃ j, j < m ∧ o.testBit j = true ∧ T = s ||| 2 ^ j) ∧ r T = f T) := by
  have h8 := p2_8 hm
  refine lp_run (f_X5_letSend_l49 fu (nI m) (nI s) (nI o)) m (fun i z => z.1 = nI i ∧ ∀ T, ((∃ j, j < i ∧ o.testBit j = true ∧ T = s ||| 2 ^ j) ∧ z.2 T = 1) ∨ (¬ (∃ j, j < i ∧ o.testBit j = true ∧ T = s ||| 2 ^ j) ∧ z.2 T = f T)) (fun r => ∀ T, ((∃ j, j < m ∧ o.testBit j = true ∧ T = s ||| 2 ^ j) ∧ r T = 1) ∨ (¬ (∃ j, j < m ∧ o.testBit j = true ∧ T = s ||| 2 ^ j) ∧ r T = f T)) ?_ ?_ m 0 (0, f) fu (by omega) (by omega) ⟨rfl, fun T => Or.inr ⟨fun ⟨j, q, _⟩ => by omega, rfl⟩⟩
  · rintro i ⟨x, g⟩ hi ⟨h1, h2⟩
    dsimp only at h1 h2
    subst h1
    left
    have hlt := or_lt hs hi
    cases hb : o.testBit i with
    | false =>
      refine ⟨(nI (i + 1), g), fun k => ?_, rfl, fun T => ?_⟩
      · unfold f_X5_letSend_l49
        dsimp only
        rw [if_neg (by rw [nle (by omega) (by omega)]; omega), if_pos ((n_bit ho (by omega)).mpr hb), nsucc]
      · rcases h2 T with ⟨⟨j, q1, q2⟩, q3⟩ | ⟨q1, q2⟩
        · exact Or.inl ⟨⟨j, by omega, q2⟩, q3⟩
        · refine Or.inr ⟨fun ⟨j, w1, w2, w3⟩ => ?_, q2⟩
          rcases Nat.lt_succ_iff_lt_or_eq.mp w1 with z | z
          · exact q1 ⟨j, z, w2, w3⟩
          · rw [z, hb] at w2; cases w2
    | true =>
      refine ⟨(nI (i + 1), upd g (s ||| 2 ^ i) 1), fun k => ?_, rfl, fun T => ?_⟩
      · unfold f_X5_letSend_l49
        dsimp only
        rw [if_neg (by rw [nle (by omega) (by omega)]; omega), if_neg (fun w => by rw [(n_bit ho (by omega)).mp w] at hb; cases hb), n_shl (by omega), fa_or, if_neg (nI_in (by omega) (by omega)), ncl (by omega), nsucc]
        rfl
      · by_cases w : T = s ||| 2 ^ i
        · exact Or.inl ⟨⟨i, by omega, hb, w⟩, by show upd g _ _ T = 1; rw [w]; exact pk_us⟩
        · have e : upd g (s ||| 2 ^ i) 1 T = g T := pk_un w
          rcases h2 T with ⟨⟨j, q1, q2⟩, q3⟩ | ⟨q1, q2⟩
          · exact Or.inl ⟨⟨j, by omega, q2⟩, by show upd g _ _ T = 1; rw [e]; exact q3⟩
          · refine Or.inr ⟨fun ⟨j, w1, w2, w3⟩ => ?_, by show upd g _ _ T = _; rw [e]; exact q2⟩
            rcases Nat.lt_succ_iff_lt_or_eq.mp w1 with z | z
            · exact q1 ⟨j, z, w2, w3⟩
            · rw [z] at w3; exact w w3
  · rintro ⟨x, g⟩ ⟨h1, h2⟩
    dsimp only at h1 h2
    subst h1
    refine ⟨g, fun k => ?_, h2⟩
    unfold f_X5_letSend_l49
    dsimp only
    rw [if_pos (by rw [nle (by omega) (by omega)]; omega)]
def gs1 (J : Nat → Nat → Bool) (m i U T : Nat) : Prop := (∃ j, j < m ∧ J i j = true ∧ U.testBit j = false ∧ T = U ||| 2 ^ j) ∨ (¬ (∃ j, j < m ∧ J i j = true ∧ U.testBit j = false) ∧ T = U)
theorem gs1_ge {i U T : Nat} (h : gs1 J m i U T) : U ≤ T := by
  rcases h with ⟨j, -, -, -, rfl⟩ | ⟨-, rfl⟩
  · exact (sbs.or U j).le
  · exact Nat.le_refl _
theorem b_letSend (hfu : 1200 < fu) (hm : m ≤ 8) (hJ : ZJn m J jn) {i S : Nat} (hi : i < m) (hS1 : 1 ≤ S) (hS2 : S < 2 ^ m) (f : Nat → Int32) (R : Nat → Prop) (hR : ∀ T, S ≤ T → T < 2 ^ m → (f T = 1 ∧ R T) ∨ (f T = 0 ∧ ¬ R T)) :
    ∃ r, f_X5_letSend fu jn f (nI m) (nI (2 ^ m - 1)) (nI i) (nI S) = some r ∧ ∀ T, S ≤ T → T < 2 ^ m → (r T = 1 ∧ ∃ U, S ≤ U ∧ U < 2 ^ m ∧ R U ∧ gs1 J m i U T) ∨ (r T = 0 ∧ ¬ ∃ U, S ≤ U ∧ U < 2 ^ m ∧ R U ∧ gs1 J m i U T) := by
  have h8 := p2_8 hm
  obtain ⟨a, ha1, ha2, ha3⟩ := hJ i hi
  obtain ⟨r, h1, h2⟩ := lp_run (f_X5_letSend_l5 fu jn (nI m) (nI i) (nI S)) (2 ^ m - S) (fun c z => z.1 = nI (2 ^ m - 1 - c) ∧ ∀ T, S ≤ T → T < 2 ^ m → (T < 2 ^ m - c → (z.2 T = 1 ∧ R T) ∨ (z.2 T = 0 ∧ ¬ R T)) ∧ (2 ^ m - c ≤ T → (z.2 T = 1 ∧ ∃ U, 2 ^ m - c ≤ U ∧ U < 2 ^ m ∧ R U ∧ gs1 J m i U T) ∨ (z.2 T = 0 ∧ ¬ ∃ U, 2 ^ m - c ≤ U ∧ U < 2 ^ m ∧ R U ∧ gs1 J m i U T))) (fun r => ∀ T, S ≤ T → T < 2 ^ m → (r T = 1 ∧ ∃ U, S ≤ U ∧ U < 2 ^ m ∧ R U ∧ gs1 J m i U T) ∨ (r T = 0 ∧ ¬ ∃ U, S ≤ U ∧ U < 2 ^ m ∧ R U ∧ gs1 J m i U T)) (by
    rintro c ⟨x, g⟩ hc ⟨h1, h2⟩
    dsimp only at h1 h2
    subst h1
    left
    have hs : 2 ^ m - 1 - c < 2 ^ m := by omega
    have e1 : 2 ^ m - c = (2 ^ m - 1 - c) + 1 := by omega
    have e2 : 2 ^ m - (c + 1) = 2 ^ m - 1 - c := by omega
    have hdec : nI (2 ^ m - 1 - c) + (-1) = nI (2 ^ m - 1 - (c + 1)) := by
      rw [naddm1 (by omega)]
      rfl
    rw [e1] at h2
    generalize 2 ^ m - 1 - c = s at *
    have hopen : (∃ j, j < m ∧ J i j = true ∧ s.testBit j = false) ↔ ¬ dif a s = 0 := by
      rw [dif_0 ha1, Classical.not_not]
      constructor
      · rintro ⟨j, q1, q2, q3⟩
        exact ⟨j, by rw [ha3, q2]; simp [q1], q3⟩
      · rintro ⟨j, q1, q2⟩
        rw [ha3, Bool.and_eq_true] at q1
        exact ⟨j, of_decide_eq_true q1.1, q1.2, q2⟩
    have hnx : ∀ {g' : Nat → Int32}, (∀ T, S ≤ T → T < 2 ^ m → (T < s → g' T = g T) ∧ (s ≤ T → (g' T = 1 ∧ ((s + 1 ≤ T ∧ ∃ U, s + 1 ≤ U ∧ U < 2 ^ m ∧ R U ∧ gs1 J m i U T) ∨ (R s ∧ gs1 J m i s T))) ∨ (g' T = 0 ∧ ¬ ((s + 1 ≤ T ∧ ∃ U, s + 1 ≤ U ∧ U < 2 ^ m ∧ R U ∧ gs1 J m i U T) ∨ (R s ∧ gs1 J m i s T))))) → ∀ T, S ≤ T → T < 2 ^ m → (T < s → (g' T = 1 ∧ R T) ∨ (g' T = 0 ∧ ¬ R T)) ∧ (s ≤ T → (g' T = 1 ∧ ∃ U, s ≤ U ∧ U < 2 ^ m ∧ R U ∧ gs1 J m i U T) ∨ (g' T = 0 ∧ ¬ ∃ U, s ≤ U ∧ U < 2 ^ m ∧ R U ∧ gs1 J m i U T)) := by
      intro g' hg T hT1 hT2
      obtain ⟨k1, k2⟩ := hg T hT1 hT2
      refine ⟨fun q => by rw [k1 q]; exact (h2 T hT1 hT2).1 (by omega), fun q => ?_⟩
      rcases k2 q with ⟨w1, w2⟩ | ⟨w1, w2⟩
      · left
        refine ⟨w1, ?_⟩
        rcases w2 with ⟨_, U, u1, u2, u3, u4⟩ | ⟨u1, u2⟩
        · exact ⟨U, by omega, u2, u3, u4⟩
        · exact ⟨s, Nat.le_refl s, hs, u1, u2⟩
      · right
        refine ⟨w1, fun ⟨U, u1, u2, u3, u4⟩ => w2 ?_⟩
        rcases Nat.lt_or_eq_of_le u1 with z | z
        · have := gs1_ge u4
          exact Or.inl ⟨by omega, U, by omega, u2, u3, u4⟩
        · subst z; exact Or.inr ⟨u3, u4⟩
    have hcur := (h2 s (by omega) hs).1 (by omega)
    have hstep : ∀ k, f_X5_letSend_l5 fu jn (nI m) (nI i) (nI S) k (nI s, g) = if g s = 0 then k (nI s + (-1), g) else if nI (dif a s) = 0 then k (nI s + (-1), g) else (lp (f_X5_letSend_l49 fu (nI m) (nI s) (nI (dif a s))) fu (0, upd g s 0)).bind fun z => k (nI s + (-1), z) := fun k => by
      unfold f_X5_letSend_l5
      simp only [vn]
      rw [if_neg (by rw [nlt (by omega) (by omega)]; omega), if_neg (nI_in (by omega) (by omega)), ncl (n := i) (by omega), ha2, n_dif, if_neg (nI_in (by omega) (by omega)), ncl (n := s) (by omega), if_neg (show ¬ (nI s < 0 ∨ 256 ≤ s) from fun w => w.elim (nI_pos (by omega)) (fun w => by omega))]
      rfl
    have hdl := dif_le a s
    rcases hcur with ⟨c1, c2⟩ | ⟨c1, c2⟩
    · by_cases hz : dif a s = 0
      · refine ⟨(nI (2 ^ m - 1 - (c + 1)), g), fun k => ?_, rfl, ?_⟩
        · rw [hstep, c1, if_neg n_10.mp, if_pos (by rw [hz]; rfl), hdec]
        · rw [e2]
          refine hnx (fun T hT1 hT2 => ⟨fun _ => rfl, fun q => ?_⟩)
          have hno : ¬ ∃ j, j < m ∧ J i j = true ∧ s.testBit j = false := fun w => hopen.mp w hz
          rcases Nat.lt_or_eq_of_le q with z | z
          · rcases (h2 T hT1 hT2).2 (by omega) with ⟨w1, w2⟩ | ⟨w1, w2⟩
            · exact Or.inl ⟨w1, Or.inl ⟨by omega, w2⟩⟩
            · refine Or.inr ⟨w1, fun w => w.elim (fun y => w2 y.2) (fun y => ?_)⟩
              rcases y.2 with ⟨j, y1, y2, y3, -⟩ | ⟨-, y2⟩
              · exact hno ⟨j, y1, y2, y3⟩
              · omega
          · subst z
            exact Or.inl ⟨c1, Or.inr ⟨c2, Or.inr ⟨hno, rfl⟩⟩⟩
      · obtain ⟨r, r1, r2⟩ := b_lsI (m := m) fu hfu hm hs (show dif a s < 256 by omega) (upd g s 0)
        have hob : ∀ j, j < m → ((dif a s).testBit j = true ↔ J i j = true ∧ s.testBit j = false) := fun j hj => by
          rw [dif_bit ha1, ha3]
          simp [hj]
        have hex : ∀ T, (∃ j, j < m ∧ (dif a s).testBit j = true ∧ T = s ||| 2 ^ j) ↔ ∃ j, j < m ∧ J i j = true ∧ s.testBit j = false ∧ T = s ||| 2 ^ j := fun T => ⟨fun ⟨j, y1, y2, y3⟩ => ⟨j, y1, ((hob j y1).mp y2).1, ((hob j y1).mp y2).2, y3⟩, fun ⟨j, y1, y2, y3, y4⟩ => ⟨j, y1, (hob j y1).mpr ⟨y2, y3⟩, y4⟩⟩
        refine ⟨(nI (2 ^ m - 1 - (c + 1)), r), fun k => ?_, rfl, ?_⟩
        · rw [hstep, c1, if_neg n_10.mp, if_neg (by rw [n_eq0 (by omega)]; exact hz), r1, Option.bind_some, hdec]
        · rw [e2]
          refine hnx (fun T hT1 hT2 => ⟨fun q => ?_, fun q => ?_⟩)
          · rcases r2 T with ⟨w1, w2⟩ | ⟨w1, w2⟩
            · obtain ⟨j, y1, y2, y3⟩ := w1
              have := (sbs.or s j).le
              omega
            · exact w2.trans (pk_un (by omega))
          · rcases r2 T with ⟨w1, w2⟩ | ⟨w1, w2⟩
            · exact Or.inl ⟨w2, Or.inr ⟨c2, Or.inl ((hex T).mp w1)⟩⟩
            · rcases Nat.lt_or_eq_of_le q with z | z
              · rw [pk_un (by omega)] at w2
                have hns : ¬ (R s ∧ gs1 J m i s T) := fun y => by
                  rcases y.2 with y | ⟨-, y2⟩
                  · exact w1 ((hex T).mpr y)
                  · omega
                rcases (h2 T hT1 hT2).2 (by omega) with ⟨v1, v2⟩ | ⟨v1, v2⟩
                · exact Or.inl ⟨w2.trans v1, Or.inl ⟨by omega, v2⟩⟩
                · exact Or.inr ⟨w2.trans v1, fun w => w.elim (fun y => v2 y.2) hns⟩
              · subst z
                rw [pk_us] at w2
                refine Or.inr ⟨w2, fun w => ?_⟩
                rcases w with ⟨y, -⟩ | ⟨-, y⟩
                · omega
                · rcases y with y | ⟨y, -⟩
                  · exact w1 ((hex s).mpr y)
                  · exact y (hopen.mpr hz)
    · refine ⟨(nI (2 ^ m - 1 - (c + 1)), g), fun k => ?_, rfl, ?_⟩
      · rw [hstep, if_pos c1, hdec]
      · rw [e2]
        refine hnx (fun T hT1 hT2 => ⟨fun _ => rfl, fun q => ?_⟩)
        rcases Nat.lt_or_eq_of_le q with z | z
        · rcases (h2 T hT1 hT2).2 (by omega) with ⟨w1, w2⟩ | ⟨w1, w2⟩
          · exact Or.inl ⟨w1, Or.inl ⟨by omega, w2⟩⟩
          · exact Or.inr ⟨w1, fun w => w.elim (fun y => w2 y.2) (fun y => c2 y.1)⟩
        · subst z
          exact Or.inr ⟨c1, fun w => w.elim (fun y => by have := y.1; omega) (fun y => c2 y.1)⟩) (by
    rintro ⟨x, g⟩ ⟨h1, h2⟩
    dsimp only at h1 h2
    subst h1
    rw [show 2 ^ m - (2 ^ m - S) = S by omega] at h2
    refine ⟨g, fun k => ?_, fun T hT1 hT2 => (h2 T hT1 hT2).2 hT1⟩
    unfold f_X5_letSend_l5
    dsimp only
    rw [if_pos (by rw [nlt (by omega) (by omega)]; omega)]) (2 ^ m - S) 0 (nI (2 ^ m - 1), f) fu (by omega) (by omega) ⟨rfl, fun T hT1 hT2 => ⟨fun _ => hR T hT1 hT2, fun q => by omega⟩⟩
  exact ⟨r, by unfold f_X5_letSend; rw [h1, Option.bind_some], h2⟩
end SE
