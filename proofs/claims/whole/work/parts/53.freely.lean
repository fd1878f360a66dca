/-! ticks of a plan, freely -/
def mxJ (x e : Int32) : Int32 := if e ≤ x then x else e
theorem mxJ_lt (x e : Int32) : (if x < e then e else x) = mxJ x e := by
  unfold mxJ
  by_cases h : e ≤ x
  · rw [if_pos h, if_neg (fun q => by rw [fa_lt] at q; rw [fa_le] at h; omega)]
  · rw [if_neg h, if_pos (by rw [fa_le] at h; rw [fa_lt]; omega)]
theorem mxJ_idem (x e : Int32) : mxJ (mxJ x e) e = mxJ x e := by
  unfold mxJ
  by_cases h : e ≤ x
  · rw [if_pos h, if_pos h]
  · rw [if_neg h, if_pos (by rw [fa_le]; omega)]
theorem mxJ_comm (x y : Int32) : (if x ≤ y then y else x) = mxJ y x := rfl
def app (f t : Nat) (e : Int32) (g : Nat → Int32) : Nat → Int32 := fun h => if h = f ∨ h = t then mxJ (g h) e else g h
theorem app_upd {f t : Nat} (hft : f ≠ t) (e : Int32) (g : Nat → Int32) : upd (upd g f (mxJ (g f) e)) t (mxJ (upd g f (mxJ (g f) e) t) e) = app f t e g := by
  funext h
  simp only [upd, app]
  by_cases e1 : h = t
  · subst e1
    rw [if_pos rfl, if_neg (fun q => hft q.symm), if_pos (Or.inr rfl)]
  · by_cases e2 : h = f
    · subst e2
      rw [if_neg e1, if_pos rfl, if_pos (Or.inl rfl)]
    · rw [if_neg e1, if_neg e2, if_neg (fun q => q.elim e2 e1)]
theorem app_idem (f t : Nat) (e : Int32) (g : Nat → Int32) : app f t e (app f t e g) = app f t e g := by
  funext h
  simp only [app]
  split
  · exact mxJ_idem _ _
  · rfl
section TC
variable (N : Nat) (S : Nat → Nat → Nat) (mw mp : Nat → Int32) (l0 : Nat → Int32)
def eot (s : Nat → Nat) (F : Nat → Int32) : Int32 := mxJ (F (s 2)) (F (s 1)) + nI (tm N S mw mp s)
def tc : Nat → (Nat → Int32) × (Nat → Int32)
  | 0 => (l0, l0)
  | i + 1 => (if S i 0 = S (i + 1) 0 then (tc i).1 else app (S i 1) (S i 2) (eot N S mw mp (S i) (tc i).1) (tc i).2, app (S i 1) (S i 2) (eot N S mw mp (S i) (tc i).1) (tc i).2)
theorem tc_s (i : Nat) : (tc N S mw mp l0 (i + 1)).2 = app (S i 1) (S i 2) (eot N S mw mp (S i) (tc N S mw mp l0 i).1) (tc N S mw mp l0 i).2 := rfl
theorem tc_same {i : Nat} (h : S i 0 = S (i + 1) 0) : (tc N S mw mp l0 (i + 1)).1 = (tc N S mw mp l0 i).1 := by
  show (if S i 0 = S (i + 1) 0 then _ else _) = _
  rw [if_pos h]
theorem tc_bd {i : Nat} (h : S i 0 ≠ S (i + 1) 0) : (tc N S mw mp l0 (i + 1)).1 = (tc N S mw mp l0 (i + 1)).2 := by
  show (if S i 0 = S (i + 1) 0 then _ else _) = _
  rw [if_neg h, tc_s]
end TC
theorem lct_same {N : Nat} {S : Nat → Nat → Nat} {s t : Nat → Nat} (h0 : s 0 = t 0) (h1 : s 1 = t 1) (h2 : s 2 = t 2) : lct N S s = lct N S t := by unfold lct sl; rw [h0, h1, h2]
theorem tm_same {N : Nat} {S : Nat → Nat → Nat} {mw mp : Nat → Int32} {s t : Nat → Nat} (h0 : s 0 = t 0) (h1 : s 1 = t 1) (h2 : s 2 = t 2) : tm N S mw mp s = tm N S mw mp t := by
  have e1 : ln s = ln t := by unfold ln; rw [h1, h2]
  unfold tm; rw [e1, lct_same h0 h1 h2]
/-- a letter's sends do together what one of them does -/
theorem tc_letter {N : Nat} {S : Nat → Nat → Nat} {mw mp : Nat → Int32} (l0 : Nat → Int32) {a : Nat} : ∀ {i : Nat}, a ≤ i → (∀ j, a ≤ j → j ≤ i → S j 0 = S i 0 ∧ S j 1 = S i 1 ∧ S j 2 = S i 2) → (tc N S mw mp l0 (i + 1)).2 = app (S i 1) (S i 2) (eot N S mw mp (S i) (tc N S mw mp l0 a).1) (tc N S mw mp l0 a).2 ∧ (tc N S mw mp l0 i).1 = (tc N S mw mp l0 a).1
  | 0, h, _ => by rw [Nat.le_zero.mp h]; exact ⟨rfl, rfl⟩
  | i + 1, h, hb => by
    rcases Nat.lt_or_eq_of_le h with q | q
    · have q1 := hb i (by omega) (by omega)
      obtain ⟨ih1, ih2⟩ := tc_letter (N := N) (S := S) (mw := mw) (mp := mp) l0 (show a ≤ i by omega) (fun j b1 b2 => by
        have c := hb j b1 (by omega)
        exact ⟨by rw [c.1, q1.1], by rw [c.2.1, q1.2.1], by rw [c.2.2, q1.2.2]⟩)
      have hF : (tc N S mw mp l0 (i + 1)).1 = (tc N S mw mp l0 a).1 := by rw [tc_same N S mw mp l0 q1.1, ih2]
      refine ⟨?_, hF⟩
      rw [tc_s, hF, ih1]
      have e : eot N S mw mp (S i) (tc N S mw mp l0 a).1 = eot N S mw mp (S (i + 1)) (tc N S mw mp l0 a).1 := by
        unfold eot
        rw [q1.2.1, q1.2.2, tm_same q1.1 q1.2.1 q1.2.2]
      rw [e, q1.2.1, q1.2.2]
      exact app_idem _ _ _ _
    · rw [← q]; exact ⟨rfl, rfl⟩
section FR
variable {N : Nat} {S : Nat → Nat → Nat} {mw mp : Nat → Int32} {n : Nat}
/-- the plan's hosts -/
def ZFt (n N : Nat) (S : Nat → Nat → Nat) : Prop := ∀ i, i < N → S i 1 < n ∧ S i 2 < n ∧ S i 1 ≠ S i 2
theorem b_takeLetter (fu n : Nat) (hn : n ≤ 16) (wa pe ah be : Nat → Int32) {f t w p k : Nat} (hf : f < n) (ht : t < n) (hft : f ≠ t) (hw : w ≤ 1000) (h1 : wa (16 * f + t) = nI w) (h2 : pe (16 * f + t) = nI p) : f_X0_takeLetter fu wa pe (nI n) ah be (nI f) (nI t) (nI k) = some (app f t (mxJ (ah t) (ah f) + nI (w + k * p)) be) := by
  unfold f_X0_takeLetter
  simp only [vn]
  rw [b_isPair fu n (by omega), hx_nI (by omega), hx_nI (by omega), if_pos ⟨decide_eq_true hf, decide_eq_true ht, fun q => hft ((nI_eq (by omega) (by omega)).mp q)⟩, Option.bind_some, if_neg n_10.mp, if_neg (nI_in (by omega) (by omega)), if_neg (nI_in (by omega) (by omega)), b_letterTicks fu wa pe (by omega) (by omega) hw h1 h2, Option.bind_some, if_neg (nI_in (by omega) (by omega)), if_neg (nI_in (by omega) (by omega)), if_neg (nI_in (by omega) (by omega)), if_neg (nI_in (by omega) (by omega)), ncl (by omega), ncl (by omega), mxJ_lt, mxJ_lt, mxJ_lt, app_upd hft]
  have e : mxJ (ah f) (ah t) = mxJ (ah t) (ah f) := by
    unfold mxJ
    by_cases q1 : ah t ≤ ah f <;> by_cases q2 : ah f ≤ ah t
    · rw [if_pos q1, if_pos q2, fa_eq]; rw [fa_le] at q1 q2; omega
    · rw [if_pos q1, if_neg q2]
    · rw [if_neg q1, if_pos q2]
    · rw [fa_le] at q1 q2; omega
  rw [e]
theorem b_endOfL (fu : Nat) (hfu : 1200 < fu) (hn : n ≤ 16) {pp wa pe : Nat → Int32} {ps : Int32} (hC : ZPc N S pp ps) (hS : ZSo N S) (hcp : ZCp N S) (hw : ZLw N S mw mp) (hft : ZFt n N S) (hwa : ∀ i, i < N → wa (ln (S i)) = mw (ln (S i)) ∧ pe (ln (S i)) = mp (ln (S i))) (l0 ah be : Nat → Int32) (ha0 : ∀ h, h < 16 → ah h = l0 h) (hb0 : ∀ h, h < 16 → be h = l0 h) :
    ∃ r, lp (f_X0_endOf_l49 fu wa pe (nI n) pp ps) fu (0, 0, ah, be) = some r ∧ ∀ h, h < 16 → r.2 h = (tc N S mw mp l0 N).2 h := by
  obtain ⟨hN, hps, hCi⟩ := id hC
  have hok : ∀ i, i < N → sok (S i) := fun i hi => (hCi i hi).1
  have hgk : ∀ i j, i ≤ j → j < N → gk (S i) ≤ gk (S j) := fun i j h1 h2 => so_step hS hok h1 h2
  refine lp_run (f_X0_endOf_l49 fu wa pe (nI n) pp ps) N (fun i z => ∃ a, a ≤ i ∧ z.1 = nI (i - a) ∧ z.2.1 = nI i ∧ (i = N → a = N) ∧ (∀ h, h < 16 → z.2.2.2 h = (tc N S mw mp l0 a).2 h) ∧ (i < N → (∀ h, h < 16 → z.2.2.1 h = (tc N S mw mp l0 a).1 h) ∧ (∀ j, j < a → gk (S j) < gk (S i)) ∧ ∀ j, a ≤ j → j ≤ i → gk (S j) = gk (S i))) (fun r => ∀ h, h < 16 → r.2 h = (tc N S mw mp l0 N).2 h) ?_ ?_ N 0 (0, 0, ah, be) fu (by omega) (by omega) ⟨0, Nat.le_refl 0, rfl, rfl, fun q => q, hb0, fun _ => ⟨ha0, fun j hj => by omega, fun j b1 b2 => by rw [show j = 0 by omega]⟩⟩
  · rintro i ⟨x, y, ah, be⟩ hi ⟨a, ha, h1, h2, -, h4, h5⟩
    dsimp only at h1 h2 h4 h5
    obtain ⟨h6, h7, h8⟩ := h5 hi
    subst h1 h2
    left
    obtain ⟨s0, s1, s2, s3, s4, s5⟩ := hok i hi
    by_cases el : (i + 1 < N ∧ S i 0 = S (i + 1) 0 ∧ S i 1 = S (i + 1) 1)
    · have es : (i + 1 < N ∧ S i 0 = S (i + 1) 0) := ⟨el.1, el.2.1⟩
      have eg : gk (S (i + 1)) = gk (S i) := by unfold gk; rw [el.2.1, el.2.2]
      refine ⟨(nI (i - a + 1), nI (i + 1), ah, be), fun k => ?_, a, by omega, by show nI (i - a + 1) = nI (i + 1 - a); congr 1; omega, rfl, fun q => by omega, h4, fun _ => ⟨h6, fun j hj => by rw [eg]; exact h7 j hj, fun j b1 b2 => ?_⟩⟩
      · unfold f_X0_endOf_l49
        dsimp only
        rw [f_X4_size, Option.bind_some, hps, if_neg (by rw [nle (by omega) (by omega)]; omega), ← hps, b_endsLetter fu hC hi, if_pos el, Option.bind_some, if_pos rfl, b_endsStep fu hC hi, if_pos es, Option.bind_some, if_pos rfl, nsucc, nsucc]
      · rw [eg]
        rcases Nat.lt_succ_iff_lt_or_eq.mp (show j < i + 1 + 1 by omega) with q | q
        · exact h8 j b1 (by omega)
        · rw [q, eg]
    · have hafter : ∀ j, i < j → j < N → gk (S i) < gk (S j) := fun j b1 b2 => by
        have c1 := hgk i (i + 1) (by omega) (by omega)
        have c2 := hgk (i + 1) j (by omega) b2
        have g1 := (hok (i + 1) (by omega)).2.1
        have c3 : gk (S i) ≠ gk (S (i + 1)) := fun q => el ⟨by omega, by unfold gk at q; omega⟩
        omega
      have hlc := lct_blk hok hcp ha hi h7 h8 hafter
      obtain ⟨w, p, hw1, hp1, hmw, hmp⟩ := hw i hi
      have hwa1 := hwa i hi
      obtain ⟨f1, f2, f3⟩ := hft i hi
      have hblk : ∀ j, a ≤ j → j ≤ i → S j 0 = S i 0 ∧ S j 1 = S i 1 ∧ S j 2 = S i 2 := by
        intro j b1 b2
        have q := h8 j b1 b2
        obtain ⟨t0, t1, t2, t3, t4, t5⟩ := hok j (by omega)
        have q2 : S j 0 = S i 0 ∧ S j 1 = S i 1 := by unfold gk at q; omega
        exact ⟨q2.1, q2.2, (hcp j i (by omega) hi q2.1).mp q2.2⟩
      obtain ⟨hl1, hl2⟩ := tc_letter (N := N) (mw := mw) (mp := mp) l0 ha hblk
      have etl : f_X0_takeLetter fu wa pe (nI n) ah be (nI (S i 1)) (nI (S i 2)) (nI (i - a + 1)) = some (app (S i 1) (S i 2) (eot N S mw mp (S i) (tc N S mw mp l0 a).1) be) := by
        rw [b_takeLetter fu n hn wa pe ah be (w := w) (p := p) f1 f2 f3 hw1 (by rw [← hmw]; exact hwa1.1) (by rw [← hmp]; exact hwa1.2), h6 _ s2, h6 _ s1]
        unfold eot tm nv
        rw [hmw, hmp, ncl (by omega), ncl (by omega), hlc, show i - a + 1 = i + 1 - a by omega]
      have hbe : ∀ h, h < 16 → app (S i 1) (S i 2) (eot N S mw mp (S i) (tc N S mw mp l0 a).1) be h = (tc N S mw mp l0 (i + 1)).2 h := by
        intro h hh
        rw [hl1]
        simp only [app, h4 h hh]
      by_cases es : (i + 1 < N ∧ S i 0 = S (i + 1) 0)
      · refine ⟨(0, nI (i + 1), ah, app (S i 1) (S i 2) (eot N S mw mp (S i) (tc N S mw mp l0 a).1) be), fun k => ?_, i + 1, Nat.le_refl _, by show _ = nI (i + 1 - (i + 1)); rw [Nat.sub_self]; rfl, rfl, fun q => q, hbe, fun _ => ⟨fun h hh => ?_, fun j hj => ?_, fun j b1 b2 => by rw [show j = i + 1 by omega]⟩⟩
        · unfold f_X0_endOf_l49
          dsimp only
          rw [f_X4_size, Option.bind_some, hps, if_neg (by rw [nle (by omega) (by omega)]; omega), ← hps, b_endsLetter fu hC hi, if_neg el, Option.bind_some, if_neg n_10.mp, b_from fu hC hi, Option.bind_some, b_to fu hC hi, Option.bind_some, nsucc, etl, Option.bind_some, b_endsStep fu hC hi, if_pos es, Option.bind_some, if_pos rfl, nsucc]
        · show ah h = _
          rw [h6 h hh, tc_same N S mw mp l0 es.2, hl2]
        · have c1 := hgk j i (by omega) hi
          have c2 := hafter (i + 1) (by omega) es.1
          omega
      · refine ⟨(0, nI (i + 1), va_cpy (app (S i 1) (S i 2) (eot N S mw mp (S i) (tc N S mw mp l0 a).1) be) ah (0 : Int32).toNatClampNeg (0 : Int32).toNatClampNeg (16 : Int32).toNatClampNeg, app (S i 1) (S i 2) (eot N S mw mp (S i) (tc N S mw mp l0 a).1) be), fun k => ?_, i + 1, Nat.le_refl _, by show _ = nI (i + 1 - (i + 1)); rw [Nat.sub_self]; rfl, rfl, fun q => q, hbe, fun q => ⟨fun h hh => ?_, fun j hj => ?_, fun j b1 b2 => by rw [show j = i + 1 by omega]⟩⟩
        · unfold f_X0_endOf_l49
          dsimp only
          rw [f_X4_size, Option.bind_some, hps, if_neg (by rw [nle (by omega) (by omega)]; omega), ← hps, b_endsLetter fu hC hi, if_neg el, Option.bind_some, if_neg n_10.mp, b_from fu hC hi, Option.bind_some, b_to fu hC hi, Option.bind_some, nsucc, etl, Option.bind_some, b_endsStep fu hC hi, if_neg es, Option.bind_some, if_neg n_10.mp, nsucc]
        · show va_cpy _ ah _ _ _ h = _
          rw [show (0 : Int32).toNatClampNeg = 0 from rfl, show (16 : Int32).toNatClampNeg = 16 from rfl, pk_cpy_in (by omega) (by omega), tc_bd N S mw mp l0 (fun z => es ⟨q, z⟩), ← hbe h hh]
          congr 1; omega
        · have c1 := hgk j i (by omega) hi
          have c2 := hafter (i + 1) (by omega) q
          omega
  · rintro ⟨x, y, ah, be⟩ ⟨a, ha, h1, h2, h3, h4, -⟩
    dsimp only at h1 h2 h4
    subst h2
    refine ⟨(ah, be), fun k => ?_, fun h hh => by show be h = _; rw [h4 h hh, h3 rfl]⟩
    unfold f_X0_endOf_l49
    dsimp only
    rw [f_X4_size, Option.bind_some, hps, if_pos (by rw [nle (by omega) (by omega)]; omega)]
end FR
