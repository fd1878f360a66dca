/-! right: the first cell that is not as asked -/
def Rg (g : Nat) (x : Int64 × Int64) (f : Nat → Nat) : Prop := ∀ k, k < 64 → bt x.1 k = decide (1 ≤ f (64 * g + k)) ∧ bt x.2 k = decide (2 ≤ f (64 * g + k))
theorem Rg_ad (g : Nat) (x y : Int64 × Int64) (x' y' : Nat → Nat) (h1 : Rg g x x') (h2 : Rg g y y') : Rg g (adL x y) (adC x' y') := by
  intro k hk
  obtain ⟨a1, a2⟩ := h1 k hk
  obtain ⟨b1, b2⟩ := h2 k hk
  unfold adL adC
  constructor
  · show bt (x.1 ||| y.1) k = _
    rw [bt_or, a1, b1, ← Bool.decide_or]
    congr 1
    exact propext ⟨fun q => by omega, fun q => by omega⟩
  · show bt (x.2 ||| (y.2 ||| (x.1 &&& y.1))) k = _
    rw [bt_or, bt_or, bt_and, a1, b1, a2, b2, ← Bool.decide_and, ← Bool.decide_or, ← Bool.decide_or]
    congr 1
    exact propext ⟨fun q => by omega, fun q => by omega⟩
theorem Rg_0 (g c : Nat) : Rg g (sgn g c, 0) (f0C c) := by
  intro k hk
  constructor
  · show bt (sgn g c) k = _
    rw [bt_sign g c k hk]
    unfold f0C
    by_cases e : c = 64 * g + k
    · rw [decide_eq_true e, if_pos e]; rfl
    · rw [decide_eq_false e, if_neg e]; rfl
  · show bt 0 k = _
    rw [bt_0]
    unfold f0C
    split <;> rfl
theorem Rg_ok {g : Nat} {s m A : Int64} {f : Nat → Nat} {w : Nat → Bool} (h : Rg g (s, m) f) (hA : ∀ k, k < 64 → bt A k = w (64 * g + k)) : (m = 0 ∧ s = A) ↔ ∀ k, k < 64 → f (64 * g + k) = if w (64 * g + k) = true then 1 else 0 := by
  constructor
  · rintro ⟨e1, e2⟩ k hk
    obtain ⟨a1, a2⟩ := h k hk
    rw [show ((s, m) : Int64 × Int64).1 = A from e2, hA k hk] at a1
    rw [show ((s, m) : Int64 × Int64).2 = 0 from e1, bt_0] at a2
    have q2 := of_decide_eq_false a2.symm
    cases hw : w (64 * g + k) with
    | false =>
      rw [hw] at a1
      have q1 := of_decide_eq_false a1.symm
      rw [if_neg (by simp)]; omega
    | true =>
      rw [hw] at a1
      have q1 := of_decide_eq_true a1.symm
      rw [if_pos rfl]; omega
  · intro hf
    refine ⟨bt_ext fun k hk => ?_, bt_ext fun k hk => ?_⟩
    · have a2 := (h k hk).2
      rw [show bt m k = _ from a2, bt_0, decide_eq_false]
      rw [hf k hk]; split <;> omega
    · have a1 := (h k hk).1
      rw [show bt s k = _ from a1, hA k hk, hf k hk]
      cases w (64 * g + k) <;> rfl
def wrg (n : Nat) (lv : Nat → Bool) (a r N : Nat) (S : Nat → Nat → Nat) (g c : Nat) : Prop := c / 16 < n ∧ lv (c / 16) = true ∧ ¬ fre n lv a r c ∧ ∃ k, k < 64 ∧ cn N S c (64 * g + k) ≠ if want n lv a r c (64 * g + k) = true then 1 else 0
def wrm (n : Nat) (lv : Nat → Bool) (a r N : Nat) (S : Nat → Nat → Nat) (c : Nat) : Prop := c / 16 < n ∧ lv (c / 16) = true ∧ ¬ fre n lv a r c ∧ ∃ o, o < 256 ∧ cn N S c o ≠ if want n lv a r c o = true then 1 else 0
theorem cn_far {n : Nat} {lv : Nat → Bool} {mw : Nat → Int32} {N : Nat} {S : Nat → Nat → Nat} (hn : n ≤ 16) (hok : ∀ i, i < N → sok (S i)) (hli : ZLi n lv mw N S) {c o : Nat} (hc : c / 16 < n) (ho : n ≤ o / 16) : cn N S c o = 0 := by
  have h := ac_inv (ad := adC) (N := N) (S := S) (f0 := f0C) (fun c => c / 16 < n) (fun f => ∀ o, n ≤ o / 16 → f o = 0) (fun x y h1 h2 o ho => by show min 2 (x o + y o) = 0; rw [h1 o ho, h2 o ho]; rfl) (fun i hi => by
    obtain ⟨a1, a2, a3, a4, a5⟩ := hli i hi
    obtain ⟨s0, s1, s2, s3, s4, s5⟩ := hok i hi
    exact ⟨by show tg (S i) / 16 < n; unfold tg; omega, by show sc (S i) / 16 < n; unfold sc; omega⟩) (fun c hc o ho => by
    have hc' : c / 16 < n := hc
    unfold f0C; rw [if_neg (fun e => by rw [e] at hc'; omega)]) N (Nat.le_refl N) c hc
  exact h.2 o ho
theorem want_far {n : Nat} {lv : Nat → Bool} (hn : n ≤ 16) {a r c o : Nat} (hr : r < n) (hc : c / 16 < n) (ho : n ≤ o / 16) : want n lv a r c o = false := by
  unfold want
  split
  · rename_i e1
    have hh := (hst_ok e1).1
    have h2 := fb_ct_le lv (c / 16)
    split
    · exact decide_eq_false (by omega)
    · split
      · exact decide_eq_false (fun z => by omega)
      · split
        · exact decide_eq_false (by omega)
        · exact decide_eq_false (by omega)
  · exact decide_eq_false (fun e => by rw [e] at ho; omega)
theorem wr_eq {n : Nat} {lv : Nat → Bool} {mw : Nat → Int32} {N : Nat} {S : Nat → Nat → Nat} (hn : n ≤ 16) (hok : ∀ i, i < N → sok (S i)) (hli : ZLi n lv mw N S) {a r c : Nat} (hr : r < n) : wrm n lv a r N S c ↔ ∃ g, 4 * g < n ∧ wrg n lv a r N S g c := by
  constructor
  · rintro ⟨h1, h2, h3, o, ho, h4⟩
    by_cases e : 4 * (o / 64) < n
    · exact ⟨o / 64, e, h1, h2, h3, o % 64, by omega, by rw [show 64 * (o / 64) + o % 64 = o by omega]; exact h4⟩
    · exfalso
      apply h4
      rw [cn_far hn hok hli h1 (by omega), want_far hn hr h1 (by omega)]
      rfl
  · rintro ⟨g, hg, h1, h2, h3, k, hk, h4⟩
    exact ⟨h1, h2, h3, 64 * g + k, by omega, h4⟩
section RJ
variable {n : Nat} {lv : Nat → Bool} {al hb rb : Nat → Int32} {N : Nat} {S : Nat → Nat → Nat}
theorem b_fwg (fu : Nat) (hfu : 256 < fu) (hn : n ≤ 16) (hz : ∀ j, n ≤ j → lv j = false) (hal : ∀ j, j < 16 → al j = if lv j then 1 else 0) (hr : ∀ j, j < n → lv j = true → hb (fb_ct lv j) = nI j ∧ rb j = nI (fb_ct lv j)) {g a r : Nat} (hg : g < 4) (ha : a < 5) (hrn : r < n) (so mo : Nat → Int64) (hR : ∀ c, c < 256 → Rg g (so c, mo c) (cn N S c)) :
    ∃ v, v ≤ 256 ∧ f_X6_firstWrongInGroup fu al hb rb (nI n) (nI (fb_ct lv n)) so mo (nI g) (nI a) (nI r) = some (nI v) ∧ (∀ c, c < v → ¬ wrg n lv a r N S g c) ∧ (v < 256 → wrg n lv a r N S g v) := by
  obtain ⟨r1, h1, h2⟩ := lp_run (f_X6_firstWrongInGroup_l3 fu al hb rb (nI n) (nI (fb_ct lv n)) so mo (nI g) (nI a) (nI r)) 256 (fun i s => s = nI i ∧ ∀ c, c < i → ¬ wrg n lv a r N S g c) (fun z => (∃ v, v < 256 ∧ z = .inl (nI v) ∧ (∀ c, c < v → ¬ wrg n lv a r N S g c) ∧ wrg n lv a r N S g v) ∨ (z = .inr () ∧ ∀ c, c < 256 → ¬ wrg n lv a r N S g c)) (by
    rintro i s hi ⟨rfl, h3⟩
    have next : ¬ wrg n lv a r N S g i → ∀ c, c < i + 1 → ¬ wrg n lv a r N S g c := fun q c hc => by
      rcases Nat.lt_succ_iff_lt_or_eq.mp hc with z | z
      · exact h3 c z
      · rw [z]; exact q
    have hbeg : ∀ k, f_X6_firstWrongInGroup_l3 fu al hb rb (nI n) (nI (fb_ct lv n)) so mo (nI g) (nI a) (nI r) k (nI i) = if (decide (i / 16 < n) && lv (i / 16)) = true then ((f_X6_isFree fu (nI (fb_ct lv n)) (nI a) (nI r) (nI i)).bind fun zr5 => if zr5 = 0 then (if lg_cmp (mo i) 0 = 0 then ((f_X6_askedOf fu al hb rb (nI n) (nI (fb_ct lv n)) (nI g) (nI a) (nI r) (nI i)).bind fun zr8 => if lg_cmp (so i) zr8 = 0 then k (nI (i + 1)) else some (.inl (nI i))) else some (.inl (nI i))) else k (nI (i + 1))) else k (nI (i + 1)) := by
      intro k
      unfold f_X6_firstWrongInGroup_l3
      rw [if_neg (show ¬ (256 : Int32) ≤ nI i by rw [zl256, nle (by omega) (by omega)]; omega), b_hostOfCell fu i hi, Option.bind_some, b_isLive fu n hn lv al hal, lx_nI (by omega), Option.bind_some, nsucc]
      cases (decide (i / 16 < n) && lv (i / 16)) with
      | false => rfl
      | true =>
        rw [if_pos rfl, if_pos rfl, if_neg n_10.mp]
        congr 1
        funext z
        rw [if_neg (nI_in (by omega) (by omega)), if_neg (nI_in (by omega) (by omega)), ncl (by omega)]
    by_cases e1 : (decide (i / 16 < n) && lv (i / 16)) = true
    · have e1' := e1
      rw [Bool.and_eq_true, decide_eq_true_iff] at e1'
      obtain ⟨z, z1, z2⟩ := b_isFree (lv := lv) fu hn ha (show r < 16 by omega) hi
      rcases z2 with ⟨rfl, z2⟩ | ⟨rfl, z2⟩
      · obtain ⟨A, a1, a2⟩ := b_askedOf (rb := rb) fu (by omega) hn hz hal hr hg ha hrn hi e1'.1 e1'.2
        have hok := Rg_ok (w := want n lv a r i) (hR i hi) a2
        by_cases e2 : lg_cmp (mo i) 0 = 0
        · by_cases e3 : lg_cmp (so i) A = 0
          · refine Or.inl ⟨nI (i + 1), fun k => ?_, rfl, next fun w => ?_⟩
            · rw [hbeg k, if_pos e1, z1, Option.bind_some, if_pos rfl, if_pos e2, a1, Option.bind_some, if_pos e3]
            · obtain ⟨_, _, _, k, hk, hne⟩ := w
              exact hne (hok.mp ⟨(cmp0 _ _).mp e2, (cmp0 _ _).mp e3⟩ k hk)
          · refine Or.inr ⟨.inl (nI i), fun k => ?_, Or.inl ⟨i, hi, rfl, h3, e1'.1, e1'.2, z2, ?_⟩⟩
            · rw [hbeg k, if_pos e1, z1, Option.bind_some, if_pos rfl, if_pos e2, a1, Option.bind_some, if_neg e3]
            · refine Classical.byContradiction fun w => e3 ((cmp0 _ _).mpr (hok.mpr fun k hk => ?_).2)
              exact Classical.byContradiction fun w2 => w ⟨k, hk, w2⟩
        · refine Or.inr ⟨.inl (nI i), fun k => ?_, Or.inl ⟨i, hi, rfl, h3, e1'.1, e1'.2, z2, ?_⟩⟩
          · rw [hbeg k, if_pos e1, z1, Option.bind_some, if_pos rfl, if_neg e2]
          · refine Classical.byContradiction fun w => e2 ((cmp0 _ _).mpr (hok.mpr fun k hk => ?_).1)
            exact Classical.byContradiction fun w2 => w ⟨k, hk, w2⟩
      · refine Or.inl ⟨nI (i + 1), fun k => ?_, rfl, next fun w => w.2.2.1 z2⟩
        rw [hbeg k, if_pos e1, z1, Option.bind_some, if_neg n_10.mp]
    · refine Or.inl ⟨nI (i + 1), fun k => ?_, rfl, next fun w => e1 ?_⟩
      · rw [hbeg k, if_neg e1]
      · rw [Bool.and_eq_true, decide_eq_true_iff]; exact ⟨w.1, w.2.1⟩) (by
    rintro s ⟨rfl, h3⟩
    refine ⟨.inr (), fun k => ?_, Or.inr ⟨rfl, h3⟩⟩
    unfold f_X6_firstWrongInGroup_l3
    rw [if_pos (show (256 : Int32) ≤ nI 256 by decide)]) 256 0 0 fu (by omega) (by omega) ⟨rfl, fun c hc => by omega⟩
  unfold f_X6_firstWrongInGroup
  rw [h1, Option.bind_some]
  rcases h2 with ⟨v, hv, rfl, q1, q2⟩ | ⟨rfl, q⟩
  · exact ⟨v, by omega, rfl, q1, fun _ => q2⟩
  · exact ⟨256, by omega, rfl, q, fun z => by omega⟩
theorem b_firstWrong (fu : Nat) (hfu : 1200 < fu) (hn : n ≤ 16) (hz : ∀ j, n ≤ j → lv j = false) (hal : ∀ j, j < 16 → al j = if lv j then 1 else 0) (hr : ∀ j, j < n → lv j = true → hb (fb_ct lv j) = nI j ∧ rb j = nI (fb_ct lv j)) {pp : Nat → Int32} {ps : Int32} (hC : ZPc N S pp ps) (hS : ZSo N S) (hcp : ZCp N S) {a r : Nat} (ha : a < 5) (hrn : r < n) (so mo su mu : Nat → Int64) (gr : Int32) :
    ∃ v z, v ≤ 256 ∧ f_X6_firstWrong fu al hb rb (nI n) (nI (fb_ct lv n)) pp ps so mo su mu gr (nI a) (nI r) = some (nI v, z) ∧ (∀ c, c < v → ∀ g, 4 * g < n → ¬ wrg n lv a r N S g c) ∧ (v < 256 → ∃ g, 4 * g < n ∧ wrg n lv a r N S g v) := by
  have hok : ∀ i, i < N → sok (S i) := fun i hi => (hC.2.2 i hi).1
  obtain ⟨r1, h1, h2⟩ := lp_run (f_X6_firstWrong_l8 fu al hb rb (nI n) (nI (fb_ct lv n)) pp ps (nI a) (nI r)) ((n + 3) / 4) (fun g s => s.2.1 = nI g ∧ ∃ v, v ≤ 256 ∧ s.1 = nI v ∧ (∀ c, c < v → ∀ g', g' < g → ¬ wrg n lv a r N S g' c) ∧ (v < 256 → ∃ g', g' < g ∧ wrg n lv a r N S g' v)) (fun z => ∃ v, v ≤ 256 ∧ z.1 = nI v ∧ (∀ c, c < v → ∀ g', g' < (n + 3) / 4 → ¬ wrg n lv a r N S g' c) ∧ (v < 256 → ∃ g', g' < (n + 3) / 4 ∧ wrg n lv a r N S g' v)) (by
    rintro g ⟨x5, x6, so, mo, su, mu, gr⟩ hg ⟨h1, v, hv, h2, h3, h4⟩
    dsimp only at h1 h2
    subst h1 h2
    left
    obtain ⟨b, b1, b2⟩ := b_beginS fu g (by omega) (by omega) so mo
    obtain ⟨f, f1, f2⟩ := b_follow_g fu hfu hC hS hcp b.1 b.2 su mu (fun c => (sgn g c, (0 : Int64))) b2
    have hR : ∀ c, c < 256 → Rg g (f.1 c, f.2.1 c) (cn N S c) := fun c hc => by
      rw [f2 c hc]
      exact (ac_hom (Rg g) (Rg_ad g) hok (fun c _ => Rg_0 g c) N (Nat.le_refl N) c hc).2
    obtain ⟨u, hu, w1, w2, w3⟩ := b_fwg (N := N) (S := S) fu (by omega) hn hz hal hr (show g < 4 by omega) ha hrn f.1 f.2.1 hR
    refine ⟨(nI (if u < v then u else v), nI (g + 1), f.1, f.2.1, f.2.2.1, f.2.2.2, nI g), fun k => ?_, rfl, if u < v then u else v, by split <;> omega, rfl, fun c hc g' hg' => ?_, fun hlt => ?_⟩
    · unfold f_X6_firstWrong_l8
      simp only [vn]
      rw [f_X3_size, Option.bind_some, zl4, nmul, if_neg (by rw [nle (by omega) (by omega)]; omega), b1, Option.bind_some, f1, Option.bind_some, w1, Option.bind_some, nsucc]
      congr 2
      by_cases q : u < v
      · rw [if_pos (by rw [nlt (by omega) (by omega)]; exact q), if_pos q]
      · rw [if_neg (by rw [nlt (by omega) (by omega)]; exact q), if_neg q]
    · have hcv : c < u ∧ c < v := by split at hc <;> omega
      rcases Nat.lt_succ_iff_lt_or_eq.mp hg' with q | q
      · exact h3 c hcv.2 g' q
      · rw [q]; exact w2 c hcv.1
    · by_cases q : u < v
      · rw [if_pos q]; exact ⟨g, by omega, w3 (by omega)⟩
      · rw [if_neg q] at hlt ⊢
        obtain ⟨g', q1, q2⟩ := h4 hlt
        exact ⟨g', by omega, q2⟩) (by
    rintro ⟨x5, x6, so, mo, su, mu, gr⟩ ⟨h1, v, hv, h2, h3, h4⟩
    dsimp only at h1 h2
    subst h1 h2
    refine ⟨(nI v, so, mo, su, mu, gr), fun k => ?_, v, hv, rfl, h3, h4⟩
    unfold f_X6_firstWrong_l8
    dsimp only
    rw [f_X3_size, Option.bind_some, zl4, nmul, if_pos (by rw [nle (by omega) (by omega)]; omega)]) ((n + 3) / 4) 0 (256, 0, so, mo, su, mu, gr) fu (by omega) (by omega) ⟨rfl, 256, by omega, rfl, fun c _ g' hg' => by omega, fun z => by omega⟩
  obtain ⟨v, hv, q1, q2, q3⟩ := h2
  refine ⟨v, r1.2, hv, ?_, fun c hc g hg => q2 c hc g (by omega), fun hlt => ?_⟩
  · unfold f_X6_firstWrong
    rw [h1, Option.bind_some, q1]
  · obtain ⟨g, w1, w2⟩ := q3 hlt
    exact ⟨g, by omega, w2⟩
theorem m_rightL (fu : Nat) (hfu : 256 < fu) (h0 : 0 < n) (hn : n ≤ 16) {lo : Nat → Int32} (hl : ∀ j, j < n → (lv j = true ↔ lo j = 0)) {a r : Nat} (ha : a < 5) (hrn : r < n) (nw : Nat → Int32) (hM : MN nw (cn N S)) :
    ∃ z, lp (f_X9_right_l28 fu (nI n) lo nw (nI a) (nI r) (nI (fb_ct lv n))) fu 0 = some z ∧ ((∃ h b, h < 16 ∧ b < 16 ∧ z = .inl (nI h, nI b) ∧ (∀ c, c < 16 * h + b → ¬ wrm n lv a r N S c) ∧ wrm n lv a r N S (16 * h + b)) ∨ (z = .inr () ∧ ∀ c, c < 256 → ¬ wrm n lv a r N S c)) := by
  have hin : ∀ h b, h < n → b < 16 → lv h = true → ∃ z, lp (f_X9_right_l63 fu (nI n) lo nw (nI a) (nI r) (nI (fb_ct lv n)) (nI h) (nI b)) fu 0 = some z ∧ ((z = .inl () ∧ wrm n lv a r N S (16 * h + b)) ∨ (z = .inr () ∧ ¬ wrm n lv a r N S (16 * h + b))) := by
    intro h b hh hb hlv
    have d1 : (16 * h + b) / 16 = h := by omega
    obtain ⟨z, z1, z2⟩ := lp_run (f_X9_right_l63 fu (nI n) lo nw (nI a) (nI r) (nI (fb_ct lv n)) (nI h) (nI b)) 256 (fun i s => s = nI i ∧ ∀ o, o < i → ¬ (¬ fre n lv a r (16 * h + b) ∧ cn N S (16 * h + b) o ≠ if want n lv a r (16 * h + b) o = true then 1 else 0)) (fun z => (z = .inl () ∧ wrm n lv a r N S (16 * h + b)) ∨ (z = .inr () ∧ ¬ wrm n lv a r N S (16 * h + b))) (by
      rintro i s hi ⟨rfl, h3⟩
      have next : ¬ (¬ fre n lv a r (16 * h + b) ∧ cn N S (16 * h + b) i ≠ if want n lv a r (16 * h + b) i = true then 1 else 0) → ∀ o, o < i + 1 → ¬ (¬ fre n lv a r (16 * h + b) ∧ cn N S (16 * h + b) o ≠ if want n lv a r (16 * h + b) o = true then 1 else 0) := fun q c hc => by
        rcases Nat.lt_succ_iff_lt_or_eq.mp hc with z | z
        · exact h3 c z
        · rw [z]; exact q
      have hnow := hM (16 * h + b) i (by omega) hi
      have hdiv : nI i / 16 = nI (i / 16) := pk_div (d := 16) (by omega) (by omega) (by omega)
      have hrem : nI i - nI i / 16 * 16 = nI (i % 16) := pk_rem (d := 16) (by omega) (by omega) (by omega)
      have hc2 := (cn_le (N := N) (S := S) N (Nat.le_refl N) (16 * h + b) i).2
      have hc2' : cn N S (16 * h + b) i ≤ 2 := hc2
      have hbeg : ∀ k, f_X9_right_l63 fu (nI n) lo nw (nI a) (nI r) (nI (fb_ct lv n)) (nI h) (nI b) k (nI i) = ((f_X9_due fu (nI n) lo (nI a) (nI r) (nI h) (nI b) (nI (i / 16)) (nI (i % 16)) (nI (fb_ct lv n))).bind fun zr2 => if zr2 = -1 then k (nI (i + 1)) else if nI (cn N S (16 * h + b) i) = zr2 then k (nI (i + 1)) else some (.inl ())) := by
        intro k
        unfold f_X9_right_l63
        rw [if_neg (show ¬ (256 : Int32) ≤ nI i by rw [zl256, nle (by omega) (by omega)]; omega), hrem, hdiv, nsucc]
        congr 1
        funext z
        rw [zl16, nmul, nadd, zl256, nmul, nadd, if_neg (nI_in (by omega) (by omega)), ncl (by omega), hnow]
      rcases m_due (lv := lv) fu (by omega) h0 hn hl ha hrn hh hb (show i / 16 < 16 by omega) (show i % 16 < 16 by omega) with ⟨q1, q2⟩ | ⟨q1, q2⟩
      · refine Or.inl ⟨nI (i + 1), fun k => ?_, rfl, next fun w => w.1 q1⟩
        rw [hbeg k, q2, Option.bind_some, if_pos rfl]
      · rw [show 16 * (i / 16) + i % 16 = i by omega] at q2
        have hb1 : (if want n lv a r (16 * h + b) i = true then 1 else 0) ≤ 1 := by split <;> omega
        by_cases e : cn N S (16 * h + b) i = if want n lv a r (16 * h + b) i = true then 1 else 0
        · refine Or.inl ⟨nI (i + 1), fun k => ?_, rfl, next fun w => w.2 e⟩
          rw [hbeg k, q2, Option.bind_some, if_neg (by rw [nm1 (by omega)]; exact fun q => q), if_pos (by rw [e])]
        · refine Or.inr ⟨.inl (), fun k => ?_, Or.inl ⟨rfl, by rw [d1]; exact hh, by rw [d1]; exact hlv, q1, i, hi, e⟩⟩
          rw [hbeg k, q2, Option.bind_some, if_neg (by rw [nm1 (by omega)]; exact fun q => q), if_neg (fun q => e ((nI_eq (by omega) (by omega)).mp q))]) (by
      rintro s ⟨rfl, h3⟩
      refine ⟨.inr (), fun k => ?_, Or.inr ⟨rfl, ?_⟩⟩
      · unfold f_X9_right_l63
        rw [if_pos (show (256 : Int32) ≤ nI 256 by decide)]
      · rintro ⟨_, _, w1, o, ho, w2⟩
        exact h3 o ho ⟨w1, w2⟩) 256 0 0 fu (by omega) (by omega) ⟨rfl, fun c hc => by omega⟩
    exact ⟨z, z1, z2⟩
  have hmid : ∀ h, h < n → lv h = true → ∃ z, lp (f_X9_right_l53 fu (nI n) lo nw (nI a) (nI r) (nI (fb_ct lv n)) (nI h)) fu 0 = some z ∧ ((∃ b, b < 16 ∧ z = .inl (nI b) ∧ (∀ b', b' < b → ¬ wrm n lv a r N S (16 * h + b')) ∧ wrm n lv a r N S (16 * h + b)) ∨ (z = .inr () ∧ ∀ b, b < 16 → ¬ wrm n lv a r N S (16 * h + b))) := by
    intro h hh hlv
    refine lp_run (f_X9_right_l53 fu (nI n) lo nw (nI a) (nI r) (nI (fb_ct lv n)) (nI h)) 16 (fun i s => s = nI i ∧ ∀ b, b < i → ¬ wrm n lv a r N S (16 * h + b)) _ ?_ ?_ 16 0 0 fu (by omega) (by omega) ⟨rfl, fun c hc => by omega⟩
    · rintro i s hi ⟨rfl, h3⟩
      obtain ⟨z, z1, z2⟩ := hin h i hh hi hlv
      rcases z2 with ⟨rfl, w⟩ | ⟨rfl, w⟩
      · refine Or.inr ⟨.inl (nI i), fun k => ?_, Or.inl ⟨i, hi, rfl, h3, w⟩⟩
        unfold f_X9_right_l53
        rw [if_neg (show ¬ (16 : Int32) ≤ nI i by rw [zl16, nle (by omega) (by omega)]; omega), z1]; rfl
      · refine Or.inl ⟨nI (i + 1), fun k => ?_, rfl, fun b hb => ?_⟩
        · unfold f_X9_right_l53
          rw [if_neg (show ¬ (16 : Int32) ≤ nI i by rw [zl16, nle (by omega) (by omega)]; omega), z1, nsucc]; rfl
        · rcases Nat.lt_succ_iff_lt_or_eq.mp hb with q | q
          · exact h3 b q
          · rw [q]; exact w
    · rintro s ⟨rfl, h3⟩
      refine ⟨.inr (), fun k => ?_, Or.inr ⟨rfl, h3⟩⟩
      unfold f_X9_right_l53
      rw [if_pos (show (16 : Int32) ≤ nI 16 by decide)]
  refine lp_run (f_X9_right_l28 fu (nI n) lo nw (nI a) (nI r) (nI (fb_ct lv n))) n (fun i s => s = nI i ∧ ∀ c, c < 16 * i → ¬ wrm n lv a r N S c) _ ?_ ?_ n 0 0 fu (by omega) (by omega) ⟨rfl, fun c hc => by omega⟩
  · rintro i s hi ⟨rfl, h3⟩
    have hnx : (∀ b, b < 16 → ¬ wrm n lv a r N S (16 * i + b)) → ∀ c, c < 16 * (i + 1) → ¬ wrm n lv a r N S c := fun q c hc => by
      by_cases e : c < 16 * i
      · exact h3 c e
      · rw [show c = 16 * i + (c - 16 * i) by omega]; exact q _ (by omega)
    by_cases e : lv i = true
    · obtain ⟨z, z1, z2⟩ := hmid i hi e
      have hbeg : ∀ k, f_X9_right_l28 fu (nI n) lo nw (nI a) (nI r) (nI (fb_ct lv n)) k (nI i) = (Sum.elim (fun zr3_0 => some (.inl (nI i, zr3_0))) (fun zr3_1 => k (nI (i + 1)))) z := by
        intro k
        unfold f_X9_right_l28
        rw [if_neg (by rw [nle (by omega) (by omega)]; omega), if_neg (nI_in (by omega) (by omega)), ncl (by omega), if_pos ((hl i hi).mp e), z1, nsucc]; rfl
      rcases z2 with ⟨b, hb, rfl, w1, w2⟩ | ⟨rfl, w⟩
      · refine Or.inr ⟨.inl (nI i, nI b), fun k => by rw [hbeg k]; rfl, Or.inl ⟨i, b, by omega, hb, rfl, fun c hc => ?_, w2⟩⟩
        by_cases e : c < 16 * i
        · exact h3 c e
        · rw [show c = 16 * i + (c - 16 * i) by omega]; exact w1 _ (by omega)
      · exact Or.inl ⟨nI (i + 1), fun k => by rw [hbeg k]; rfl, rfl, hnx w⟩
    · refine Or.inl ⟨nI (i + 1), fun k => ?_, rfl, hnx fun b hb w => ?_⟩
      · unfold f_X9_right_l28
        rw [if_neg (by rw [nle (by omega) (by omega)]; omega), if_neg (nI_in (by omega) (by omega)), ncl (by omega), if_neg (fun q => e ((hl i hi).mpr q)), nsucc]
      · have := w.2.1
        rw [show (16 * i + b) / 16 = i by omega] at this
        exact e this
  · rintro s ⟨rfl, h3⟩
    refine ⟨.inr (), fun k => ?_, Or.inr ⟨rfl, fun c hc w => ?_⟩⟩
    · unfold f_X9_right_l28
      rw [if_pos (by rw [nle (by omega) (by omega)]; omega)]
    · have := w.1
      exact h3 c (by omega) w
end RJ
theorem B_right (fu n : Nat) (hfu : 65536 < fu) {lv : Nat → Bool} {al hb rb lo mw pp se : Nat → Int32} {sz rk mh ps mm : Int32} (h : ZHo n lv al hb rb sz rk mh lo) (hpl : ZPl n lv mw pp ps se mm) (so mo su mu : Nat → Int64) (gr : Int32) (nw ah : Nat → Int32) (x1 x2 : Int32) :
    ∃ r z nw' ah', f_X8_right fu al hb rb sz rk pp ps so mo su mu gr x1 x2 = some (r, z) ∧ f_X9_right fu mh lo se mm nw ah x1 x2 = some (r, 0, nw', ah') := by
  obtain ⟨h0, hn, rfl, rfl, ha, hz, hl, rfl, hpos, hr⟩ := id h
  obtain ⟨N, S, hC, hM, hS, hcp, hli⟩ := id hpl
  obtain ⟨hN, hps, hCi⟩ := id hC
  have hok : ∀ i, i < N → sok (S i) := fun i hi => (hCi i hi).1
  unfold f_X8_right f_X9_right
  rw [b_isAsked fu n hn lv al ha, m_isAsk fu n (by omega) hn lv lo hl, Option.bind_some, Option.bind_some]
  cases c1 : hx 5 x1 with
  | false => exact ⟨2, (so, mo, su, mu, gr), nw, ah, rfl, rfl⟩
  | true =>
    cases c2 : lx n lv x2 with
    | false => exact ⟨2, (so, mo, su, mu, gr), nw, ah, rfl, rfl⟩
    | true =>
      obtain ⟨a, ha5, ha', rfl⟩ := hx_t c1
      obtain ⟨r, hrn, hr', rfl, hrl⟩ := lx_t c2
      obtain ⟨v, z, hv, e1, e2, e3⟩ := b_firstWrong (N := N) (S := S) fu (by omega) hn hz ha hr hC hS hcp ha5 hrn so mo su mu gr
      obtain ⟨r1, e4, e5⟩ := m_follow fu N S se mm hfu hN hok hM nw ah
      obtain ⟨y, e6, e7⟩ := m_rightL (N := N) (S := S) (lv := lv) fu (by omega) (by omega) hn hl ha5 hrn r1.1 e5
      rw [if_pos (show (true && true) = true from rfl), if_neg n_10.mp, if_neg n_10.mp, e1, Option.bind_some, e4, Option.bind_some, m_liveMany fu n hn (by omega) lv lo hl, Option.bind_some, e6, Option.bind_some]
      have hiff : ∀ c, wrm n lv a r N S c ↔ ∃ g, 4 * g < n ∧ wrg n lv a r N S g c := fun c => wr_eq hn hok hli hrn
      rcases e7 with ⟨hh, b, w1, w2, rfl, w3, w4⟩ | ⟨rfl, w3⟩
      · have hveq : v = 16 * hh + b := by
          rcases Nat.lt_or_ge v (16 * hh + b) with q | q
          · exact absurd ((hiff v).mpr (e3 (by omega))) (w3 v q)
          · rcases Nat.lt_or_ge (16 * hh + b) v with q2 | q2
            · obtain ⟨g, g1, g2⟩ := (hiff _).mp w4
              exact absurd g2 (e2 _ q2 g g1)
            · omega
        refine ⟨(-100) * nI hh - nI b - 1, z, r1.1, r1.2, ?_, rfl⟩
        show (if nI v < 256 then _ else _) = _
        rw [if_pos (show nI v < 256 by rw [zl256, nlt (by omega) (by omega)]; omega)]
        show (f_X8_hostOfCell fu (nI v)).bind _ = _
        rw [b_hostOfCell fu v (by omega), Option.bind_some]
        show (f_X8_blockOfCell fu (nI v)).bind _ = _
        rw [b_blockOfCell fu v (by omega), Option.bind_some, show v / 16 = hh by omega, show v % 16 = b by omega]
      · have hveq : v = 256 := by
          rcases Nat.lt_or_ge v 256 with q | q
          · exact absurd ((hiff v).mpr (e3 q)) (w3 v q)
          · omega
        refine ⟨1, z, r1.1, r1.2, ?_, rfl⟩
        show (if nI v < 256 then _ else _) = _
        rw [hveq, if_neg (show ¬ nI 256 < 256 by decide)]
