/-! one step from a set; the levels -/
theorem nI_in' {c N : Nat} (h : c < N) (hN : N < 2 ^ 31) : ¬ (nI c < 0 ∨ N ≤ c) := fun w => w.elim (nI_pos (by omega)) (fun w => by omega)
section SG
variable {m : Nat} {J : Nat → Nat → Bool} {jn : Nat → Int32} (fu : Nat)
theorem b_sf1 (hfu : 1200 < fu) (hm : m ≤ 8) {S : Nat} (hS1 : 1 ≤ S) (hS2 : S < 2 ^ m) (f : Nat → Int32) : ∃ r, lp (f_X5_stepFrom_l2 fu (nI (2 ^ m - 1)) (nI S)) fu (nI S, f) = some r ∧ ∀ T, S ≤ T → T < 2 ^ m → (r T = 1 ∧ grn J m S 0 T) ∨ (r T = 0 ∧ ¬ grn J m S 0 T) := by
  have h8 := p2_8 hm
  refine lp_run (f_X5_stepFrom_l2 fu (nI (2 ^ m - 1)) (nI S)) (2 ^ m - S) (fun c z => z.1 = nI (S + c) ∧ ∀ T, S ≤ T → T < S + c → (z.2 T = 1 ∧ grn J m S 0 T) ∨ (z.2 T = 0 ∧ ¬ grn J m S 0 T)) (fun r => ∀ T, S ≤ T → T < 2 ^ m → (r T = 1 ∧ grn J m S 0 T) ∨ (r T = 0 ∧ ¬ grn J m S 0 T)) ?_ ?_ (2 ^ m - S) 0 (nI S, f) fu (by omega) (by omega) ⟨rfl, fun T h1 h2 => by omega⟩
  · rintro c ⟨x, g⟩ hc ⟨h1, h2⟩
    dsimp only at h1 h2
    subst h1
    left
    refine ⟨(nI (S + c + 1), upd g (S + c) (if S + c = S then 1 else 0)), fun k => ?_, rfl, fun T hT1 hT2 => ?_⟩
    · unfold f_X5_stepFrom_l2
      dsimp only
      rw [if_neg (by rw [nlt (by omega) (by omega)]; omega), if_neg (nI_in (by omega) (by omega)), ncl (by omega), nsucc]
      by_cases q : S + c = S
      · rw [if_pos (by rw [q]), if_pos q]; rfl
      · rw [if_neg (fun w => q ((nI_eq (by omega) (by omega)).mp w)), if_neg q, if_neg (nI_in' (by omega) (by omega))]; rfl
    · show (upd g (S + c) _ T = 1 ∧ T = S) ∨ (upd g (S + c) _ T = 0 ∧ ¬ T = S)
      by_cases w : T = S + c
      · subst w
        rw [pk_us]
        by_cases q : S + c = S
        · rw [if_pos q]; exact Or.inl ⟨rfl, q⟩
        · rw [if_neg q]; exact Or.inr ⟨rfl, q⟩
      · rw [pk_un w]; exact h2 T hT1 (by omega)
  · rintro ⟨x, g⟩ ⟨h1, h2⟩
    dsimp only at h1 h2
    subst h1
    refine ⟨g, fun k => ?_, fun T hT1 hT2 => h2 T hT1 (by omega)⟩
    unfold f_X5_stepFrom_l2
    dsimp only
    rw [if_pos (by rw [nlt (by omega) (by omega)]; omega)]
theorem b_sf2 (hfu : 1200 < fu) (hm : m ≤ 8) (hJ : ZJn m J jn) {S : Nat} (hS1 : 1 ≤ S) (hS2 : S < 2 ^ m) (f : Nat → Int32) (hf : ∀ T, S ≤ T → T < 2 ^ m → (f T = 1 ∧ grn J m S 0 T) ∨ (f T = 0 ∧ ¬ grn J m S 0 T)) :
    ∃ r, lp (f_X5_stepFrom_l34 fu jn (nI m) (nI (2 ^ m - 1)) (nI S)) fu (0, f) = some r ∧ ∀ T, S ≤ T → T < 2 ^ m → (r T = 1 ∧ grn J m S m T) ∨ (r T = 0 ∧ ¬ grn J m S m T) := by
  have h8 := p2_8 hm
  refine lp_run (f_X5_stepFrom_l34 fu jn (nI m) (nI (2 ^ m - 1)) (nI S)) m (fun i z => z.1 = nI i ∧ ∀ T, S ≤ T → T < 2 ^ m → (z.2 T = 1 ∧ grn J m S i T) ∨ (z.2 T = 0 ∧ ¬ grn J m S i T)) (fun r => ∀ T, S ≤ T → T < 2 ^ m → (r T = 1 ∧ grn J m S m T) ∨ (r T = 0 ∧ ¬ grn J m S m T)) ?_ ?_ m 0 (0, f) fu (by omega) (by omega) ⟨rfl, hf⟩
  · rintro i ⟨x, g⟩ hi ⟨h1, h2⟩
    dsimp only at h1 h2
    subst h1
    left
    obtain ⟨a, ha1, ha2, ha3⟩ := hJ i hi
    have hdl := dif_le a S
    have same : (¬ (S.testBit i = true ∧ ∃ j, j < m ∧ J i j = true ∧ S.testBit j = false)) → ∀ T, S ≤ T → T < 2 ^ m → (g T = 1 ∧ grn J m S (i + 1) T) ∨ (g T = 0 ∧ ¬ grn J m S (i + 1) T) := fun hno T hT1 hT2 => by
      have hgs : ∀ U, grn J m S i U → gst J m S i U T → T = U := fun U hU w => by
        rcases w with ⟨w1, j, w2, w3, w4, -⟩ | ⟨-, w⟩
        · have hsb := grn_sbs hU
          refine absurd ⟨w1, j, w2, w3, ?_⟩ hno
          cases q : S.testBit j with
          | false => rfl
          | true => rw [hsb j q] at w4; cases w4
        · exact w
      have e : grn J m S (i + 1) T ↔ grn J m S i T := by
        constructor
        · rintro ⟨U, u1, u2⟩
          rw [hgs U u1 u2]; exact u1
        · intro w
          refine ⟨T, w, Or.inr ⟨fun ⟨q1, j, q2, q3, q4⟩ => hno ⟨q1, j, q2, q3, ?_⟩, rfl⟩⟩
          cases q : S.testBit j with
          | false => rfl
          | true => rw [grn_sbs w j q] at q4; cases q4
      rw [e]; exact h2 T hT1 hT2
    cases hb : S.testBit i with
    | false =>
      refine ⟨(nI (i + 1), g), fun k => ?_, rfl, same (fun w => by rw [hb] at w; cases w.1)⟩
      unfold f_X5_stepFrom_l34
      dsimp only
      rw [if_neg (by rw [nle (by omega) (by omega)]; omega), if_pos ((n_bit (by omega) (by omega)).mpr hb), nsucc]
    | true =>
      have hbn : ¬ ((nI S) >>> (nI i &&& 31)) &&& 1 = 0 := fun w => by rw [(n_bit (by omega) (by omega)).mp w] at hb; cases hb
      by_cases hz : dif a S = 0
      · refine ⟨(nI (i + 1), g), fun k => ?_, rfl, same (fun ⟨_, j, w2, w3, w4⟩ => (dif_0 ha1).mp hz ⟨j, by rw [ha3, w3]; simp [w2], w4⟩)⟩
        unfold f_X5_stepFrom_l34
        dsimp only
        rw [if_neg (by rw [nle (by omega) (by omega)]; omega), if_neg hbn, if_neg (nI_in (by omega) (by omega)), ncl (by omega), ha2, n_dif, if_pos (by rw [hz]; rfl), nsucc]
      · obtain ⟨r, r1, r2⟩ := b_letSend fu hfu hm hJ hi hS1 hS2 g (grn J m S i) h2
        refine ⟨(nI (i + 1), r), fun k => ?_, rfl, fun T hT1 hT2 => ?_⟩
        · unfold f_X5_stepFrom_l34
          dsimp only
          rw [if_neg (by rw [nle (by omega) (by omega)]; omega), if_neg hbn, if_neg (nI_in (by omega) (by omega)), ncl (by omega), ha2, n_dif, if_neg (by rw [n_eq0 (by omega)]; exact hz), r1, Option.bind_some, nsucc]
        · have e : grn J m S (i + 1) T ↔ ∃ U, S ≤ U ∧ U < 2 ^ m ∧ grn J m S i U ∧ gs1 J m i U T := by
            constructor
            · rintro ⟨U, u1, u2⟩
              refine ⟨U, (grn_sbs u1).le, grn_lt hS2 u1, u1, ?_⟩
              rcases u2 with ⟨-, w⟩ | ⟨w1, w2⟩
              · exact Or.inl w
              · exact Or.inr ⟨fun q => w1 ⟨hb, q⟩, w2⟩
            · rintro ⟨U, -, -, u1, u2⟩
              refine ⟨U, u1, ?_⟩
              rcases u2 with w | ⟨w1, w2⟩
              · exact Or.inl ⟨hb, w⟩
              · exact Or.inr ⟨fun q => w1 q.2, w2⟩
          rw [e]; exact r2 T hT1 hT2
  · rintro ⟨x, g⟩ ⟨h1, h2⟩
    dsimp only at h1 h2
    subst h1
    refine ⟨g, fun k => ?_, h2⟩
    unfold f_X5_stepFrom_l34
    dsimp only
    rw [if_pos (by rw [nle (by omega) (by omega)]; omega)]
theorem b_sf3 (hfu : 1200 < fu) (hm : m ≤ 8) {S : Nat} (hS1 : 1 ≤ S) (hS2 : S < 2 ^ m) (x : Int32) (st f : Nat → Int32) (hf : ∀ T, S ≤ T → T < 2 ^ m → (f T = 1 ∧ grn J m S m T) ∨ (f T = 0 ∧ ¬ grn J m S m T)) :
    ∃ r, lp (f_X5_stepFrom_l77 fu f (nI (2 ^ m - 1)) x) fu (nI S, st) = some r ∧ ∀ T, (grn J m S m T ∧ st T = -1 ∧ r T = x) ∨ (¬ (grn J m S m T ∧ st T = -1) ∧ r T = st T) := by
  have h8 := p2_8 hm
  refine lp_run (f_X5_stepFrom_l77 fu f (nI (2 ^ m - 1)) x) (2 ^ m - S) (fun c z => z.1 = nI (S + c) ∧ (∀ T, T < S + c → (grn J m S m T ∧ st T = -1 ∧ z.2 T = x) ∨ (¬ (grn J m S m T ∧ st T = -1) ∧ z.2 T = st T)) ∧ ∀ T, S + c ≤ T → z.2 T = st T) (fun r => ∀ T, (grn J m S m T ∧ st T = -1 ∧ r T = x) ∨ (¬ (grn J m S m T ∧ st T = -1) ∧ r T = st T)) ?_ ?_ (2 ^ m - S) 0 (nI S, st) fu (by omega) (by omega) ⟨rfl, fun T hT => Or.inr ⟨fun w => by have := (grn_sbs w.1).le; omega, rfl⟩, fun T _ => rfl⟩
  · rintro c ⟨y, g⟩ hc ⟨h1, h2, h3⟩
    dsimp only at h1 h2 h3
    subst h1
    left
    have hnx : ∀ {g' : Nat → Int32}, (∀ T, T ≠ S + c → g' T = g T) → ((grn J m S m (S + c) ∧ st (S + c) = -1 ∧ g' (S + c) = x) ∨ (¬ (grn J m S m (S + c) ∧ st (S + c) = -1) ∧ g' (S + c) = st (S + c))) → (∀ T, T < S + c + 1 → (grn J m S m T ∧ st T = -1 ∧ g' T = x) ∨ (¬ (grn J m S m T ∧ st T = -1) ∧ g' T = st T)) ∧ ∀ T, S + c + 1 ≤ T → g' T = st T := fun q1 q2 => by
      refine ⟨fun T hT => ?_, fun T hT => by rw [q1 T (by omega)]; exact h3 T (by omega)⟩
      by_cases w : T = S + c
      · subst w; exact q2
      · rw [q1 T w]; exact h2 T (by omega)
    have hat := h3 (S + c) (Nat.le_refl _)
    have hstep : ∀ k, f_X5_stepFrom_l77 fu f (nI (2 ^ m - 1)) x k (nI (S + c), g) = if f (S + c) = 0 then k (nI (S + c + 1), g) else if g (S + c) = -1 then k (nI (S + c + 1), upd g (S + c) x) else k (nI (S + c + 1), g) := fun k => by
      unfold f_X5_stepFrom_l77
      dsimp only
      rw [if_neg (by rw [nlt (by omega) (by omega)]; omega), if_neg (nI_in (by omega) (by omega)), ncl (by omega), if_neg (nI_in' (by omega) (by omega)), if_neg (nI_in' (by omega) (by omega)), nsucc]
    rcases hf (S + c) (by omega) (by omega) with ⟨w1, w2⟩ | ⟨w1, w2⟩
    · by_cases q : st (S + c) = -1
      · refine ⟨(nI (S + c + 1), upd g (S + c) x), fun k => by rw [hstep, w1, if_neg n_10.mp, if_pos (by rw [hat]; exact q)], rfl, hnx (fun T hT => pk_un hT) (Or.inl ⟨w2, q, pk_us⟩)⟩
      · exact ⟨(nI (S + c + 1), g), fun k => by rw [hstep, w1, if_neg n_10.mp, if_neg (by rw [hat]; exact q)], rfl, hnx (fun T hT => rfl) (Or.inr ⟨fun z => q z.2, hat⟩)⟩
    · exact ⟨(nI (S + c + 1), g), fun k => by rw [hstep, if_pos w1], rfl, hnx (fun T hT => rfl) (Or.inr ⟨fun z => w2 z.1, hat⟩)⟩
  · rintro ⟨y, g⟩ ⟨h1, h2, h3⟩
    dsimp only at h1 h2 h3
    subst h1
    refine ⟨g, fun k => ?_, fun T => ?_⟩
    · unfold f_X5_stepFrom_l77
      dsimp only
      rw [if_pos (by rw [nlt (by omega) (by omega)]; omega)]
    · by_cases w : T < S + (2 ^ m - S)
      · exact h2 T w
      · exact Or.inr ⟨fun z => by have := grn_lt hS2 z.1; omega, h3 T (by omega)⟩
theorem b_stepFrom (hfu : 1200 < fu) (hm : m ≤ 8) (hJ : ZJn m J jn) {S : Nat} (hS1 : 1 ≤ S) (hS2 : S < 2 ^ m) (x : Int32) (st f : Nat → Int32) :
    ∃ r, f_X5_stepFrom fu jn st f (nI m) (nI (2 ^ m - 1)) (nI S) x = some r ∧ ∀ T, (grn J m S m T ∧ st T = -1 ∧ r.1 T = x) ∨ (¬ (grn J m S m T ∧ st T = -1) ∧ r.1 T = st T) := by
  obtain ⟨r1, a1, a2⟩ := b_sf1 (J := J) fu hfu hm hS1 hS2 f
  obtain ⟨r2, b1, b2⟩ := b_sf2 fu hfu hm hJ hS1 hS2 r1 a2
  obtain ⟨r3, c1, c2⟩ := b_sf3 fu hfu hm hS1 hS2 x st r2 b2
  refine ⟨(r3, r2), ?_, c2⟩
  unfold f_X5_stepFrom
  rw [a1, Option.bind_some, b1, Option.bind_some, c1, Option.bind_some]
theorem b_level (hfu : 1200 < fu) (hm : m ≤ 8) (hJ : ZJn m J jn) {k : Nat} (hk : k < 100) (st f : Nat → Int32) :
    ∃ r, lp (f_X5_leastSteps_l91 fu jn (nI m) (nI (2 ^ m - 1)) (nI k)) fu (1, st, f) = some r ∧ ∀ T, (st T = -1 ∧ (∃ S, 1 ≤ S ∧ S < 2 ^ m ∧ st S = nI k ∧ grn J m S m T) ∧ r.1 T = nI (k + 1)) ∨ (¬ (st T = -1 ∧ ∃ S, 1 ≤ S ∧ S < 2 ^ m ∧ st S = nI k ∧ grn J m S m T) ∧ r.1 T = st T) := by
  have h8 := p2_8 hm
  have h1m : 1 ≤ 2 ^ m := Nat.one_le_two_pow
  refine lp_run (f_X5_leastSteps_l91 fu jn (nI m) (nI (2 ^ m - 1)) (nI k)) (2 ^ m - 1) (fun c z => z.1 = nI (c + 1) ∧ ∀ T, (st T = -1 ∧ (∃ S, 1 ≤ S ∧ S < c + 1 ∧ st S = nI k ∧ grn J m S m T) ∧ z.2.1 T = nI (k + 1)) ∨ (¬ (st T = -1 ∧ ∃ S, 1 ≤ S ∧ S < c + 1 ∧ st S = nI k ∧ grn J m S m T) ∧ z.2.1 T = st T)) (fun r => ∀ T, (st T = -1 ∧ (∃ S, 1 ≤ S ∧ S < 2 ^ m ∧ st S = nI k ∧ grn J m S m T) ∧ r.1 T = nI (k + 1)) ∨ (¬ (st T = -1 ∧ ∃ S, 1 ≤ S ∧ S < 2 ^ m ∧ st S = nI k ∧ grn J m S m T) ∧ r.1 T = st T)) ?_ ?_ (2 ^ m - 1) 0 (1, st, f) fu (by omega) (by omega) ⟨rfl, fun T => Or.inr ⟨fun ⟨_, S, q1, q2, _⟩ => by omega, rfl⟩⟩
  · rintro c ⟨x, g, f⟩ hc ⟨h1, h2⟩
    dsimp only at h1 h2
    subst h1
    left
    have hgk : g (c + 1) = nI k ↔ st (c + 1) = nI k := by
      rcases h2 (c + 1) with ⟨q1, -, q3⟩ | ⟨-, q2⟩
      · rw [q1, q3, neqI (by omega) (by omega), nm1' (by omega)]
        exact ⟨fun w => by omega, fun w => w.elim⟩
      · rw [q2]
    have hstep : ∀ kk, f_X5_leastSteps_l91 fu jn (nI m) (nI (2 ^ m - 1)) (nI k) kk (nI (c + 1), g, f) = if g (c + 1) = nI k then ((f_X5_stepFrom fu jn g f (nI m) (nI (2 ^ m - 1)) (nI (c + 1)) (nI (k + 1))).bind fun z => kk (nI (c + 1 + 1), z.1, z.2)) else kk (nI (c + 1 + 1), g, f) := fun kk => by
      unfold f_X5_leastSteps_l91
      dsimp only
      rw [if_neg (by rw [nlt (by omega) (by omega)]; omega), if_neg (nI_in (by omega) (by omega)), ncl (by omega), nsucc, nsucc]
    by_cases hq : st (c + 1) = nI k
    · obtain ⟨r, r1, r2⟩ := b_stepFrom fu hfu hm hJ (S := c + 1) (by omega) (by omega) (nI (k + 1)) g f
      refine ⟨(nI (c + 1 + 1), r.1, r.2), fun kk => by rw [hstep, if_pos (hgk.mpr hq), r1, Option.bind_some], rfl, fun T => ?_⟩
      rcases h2 T with ⟨p1, ⟨S, s1, s2, s3⟩, p3⟩ | ⟨p1, p2⟩
      · left
        refine ⟨p1, ⟨S, s1, by omega, s3⟩, ?_⟩
        rcases r2 T with ⟨-, w2, w3⟩ | ⟨-, w⟩
        · exact w3
        · exact w.trans p3
      · rcases r2 T with ⟨w1, w2, w3⟩ | ⟨w1, w2⟩
        · left
          exact ⟨p2.symm.trans w2, ⟨c + 1, by omega, by omega, hq, w1⟩, w3⟩
        · right
          refine ⟨fun ⟨v1, S, s1, s2, s3, s4⟩ => ?_, w2.trans p2⟩
          rcases Nat.lt_succ_iff_lt_or_eq.mp s2 with z | z
          · exact p1 ⟨v1, S, s1, z, s3, s4⟩
          · subst z; exact w1 ⟨s4, p2.trans v1⟩
    · refine ⟨(nI (c + 1 + 1), g, f), fun kk => by rw [hstep, if_neg (fun w => hq (hgk.mp w))], rfl, fun T => ?_⟩
      rcases h2 T with ⟨p1, ⟨S, s1, s2, s3⟩, p3⟩ | ⟨p1, p2⟩
      · exact Or.inl ⟨p1, ⟨S, s1, by omega, s3⟩, p3⟩
      · right
        refine ⟨fun ⟨v1, S, s1, s2, s3, s4⟩ => ?_, p2⟩
        rcases Nat.lt_succ_iff_lt_or_eq.mp s2 with z | z
        · exact p1 ⟨v1, S, s1, z, s3, s4⟩
        · subst z; exact hq s3
  · rintro ⟨x, g, f⟩ ⟨h1, h2⟩
    dsimp only at h1 h2
    subst h1
    rw [show 2 ^ m - 1 + 1 = 2 ^ m by omega] at h2
    refine ⟨(g, f), fun kk => ?_, h2⟩
    unfold f_X5_leastSteps_l91
    dsimp only
    rw [if_pos (by rw [nlt (by omega) (by omega)]; omega)]
def ZLv (J : Nat → Nat → Bool) (m r k : Nat) (st : Nat → Int32) : Prop := ∀ T, T < 2 ^ m → (∃ d, d ≤ k ∧ st T = nI d ∧ fst1 J m r d T) ∨ (st T = -1 ∧ ∀ d, d ≤ k → ¬ lev J m r d T)
theorem ZLv.next {r k : Nat} {st st' : Nat → Int32} (hr : r < m) (hk : k < 100) (h : ZLv J m r k st) (hs : ∀ T, (st T = -1 ∧ (∃ S, 1 ≤ S ∧ S < 2 ^ m ∧ st S = nI k ∧ grn J m S m T) ∧ st' T = nI (k + 1)) ∨ (¬ (st T = -1 ∧ ∃ S, 1 ≤ S ∧ S < 2 ^ m ∧ st S = nI k ∧ grn J m S m T) ∧ st' T = st T)) : ZLv J m r (k + 1) st' := by
  have hfk : ∀ S, S < 2 ^ m → st S = nI k → fst1 J m r k S := fun S hS q => by
    rcases h S hS with ⟨d, d1, d2, d3⟩ | ⟨d1, -⟩
    · have : d = k := (nI_eq (by omega) (by omega)).mp (d2.symm.trans q)
      rw [← this]; exact d3
    · rw [d1, nm1' (by omega)] at q; exact q.elim
  intro T hT
  rcases hs T with ⟨p1, ⟨S, s1, s2, s3, s4⟩, p3⟩ | ⟨p1, p2⟩
  · left
    refine ⟨k + 1, Nat.le_refl _, p3, ⟨S, (hfk S s2 s3).1, s4⟩, fun e he => ?_⟩
    rcases h T hT with ⟨d, d1, d2, d3⟩ | ⟨-, d2⟩
    · rw [p1, nm1' (by omega)] at d2; exact d2.elim
    · exact d2 e (by omega)
  · rcases h T hT with ⟨d, d1, d2, d3⟩ | ⟨d1, d2⟩
    · exact Or.inl ⟨d, by omega, p2.trans d2, d3⟩
    · right
      refine ⟨p2.trans d1, fun d hd => ?_⟩
      rcases Nat.lt_or_eq_of_le hd with z | z
      · exact d2 d (by omega)
      · subst z
        intro w
        obtain ⟨S, q1, q2⟩ := fst1_prev ⟨w, fun e he => d2 e (by omega)⟩
        have hS := lev_lt hr q1.1
        refine p1 ⟨d1, S, lev_pos q1.1, hS, ?_, q2⟩
        rcases h S hS with ⟨d', e1, e2, e3⟩ | ⟨-, e2⟩
        · rcases Nat.lt_or_eq_of_le e1 with y | y
          · exact absurd e3.1 (q1.2 d' y)
          · rw [← y]; exact e2
        · exact absurd q1.1 (e2 k (Nat.le_refl k))
theorem b_leastL (hfu : 1200 < fu) (hm : m ≤ 8) (hJ : ZJn m J jn) {r : Nat} (hr : r < m) (st f : Nat → Int32) (h0 : ZLv J m r 0 st) :
    ∃ z, lp (f_X5_leastSteps_l67 fu jn (nI m) (nI (2 ^ m - 1))) fu (0, st, f) = some z ∧ ((∃ d, z.1 (2 ^ m - 1) = nI d ∧ fst1 J m r d (2 ^ m - 1)) ∨ (z.1 (2 ^ m - 1) = -1 ∧ ∀ d, d ≤ m → ¬ lev J m r d (2 ^ m - 1))) := by
  have h8 := p2_8 hm
  have h1m : 1 ≤ 2 ^ m := Nat.one_le_two_pow
  refine lp_run (f_X5_leastSteps_l67 fu jn (nI m) (nI (2 ^ m - 1))) m (fun k z => z.1 = nI k ∧ ZLv J m r k z.2.1) (fun z => (∃ d, z.1 (2 ^ m - 1) = nI d ∧ fst1 J m r d (2 ^ m - 1)) ∨ (z.1 (2 ^ m - 1) = -1 ∧ ∀ d, d ≤ m → ¬ lev J m r d (2 ^ m - 1))) ?_ ?_ m 0 (0, st, f) fu (by omega) (by omega) ⟨rfl, h0⟩
  · rintro k ⟨x, g, f⟩ hk ⟨h1, h2⟩
    dsimp only at h1 h2
    subst h1
    by_cases hq : g (2 ^ m - 1) = -1
    · left
      obtain ⟨z, z1, z2⟩ := b_level fu hfu hm hJ (show k < 100 by omega) g f
      refine ⟨(nI (k + 1), z.1, z.2), fun kk => ?_, rfl, h2.next hr (by omega) z2⟩
      unfold f_X5_leastSteps_l67
      dsimp only
      rw [if_neg (by rw [nle (by omega) (by omega)]; omega), if_neg (nI_in (by omega) (by omega)), ncl (by omega), if_pos hq, z1, Option.bind_some, nsucc]
    · right
      refine ⟨(g, f), fun kk => ?_, ?_⟩
      · unfold f_X5_leastSteps_l67
        dsimp only
        rw [if_neg (by rw [nle (by omega) (by omega)]; omega), if_neg (nI_in (by omega) (by omega)), ncl (by omega), if_neg hq]
      · rcases h2 (2 ^ m - 1) (by omega) with ⟨d, -, d2, d3⟩ | ⟨d1, -⟩
        · exact Or.inl ⟨d, d2, d3⟩
        · exact absurd d1 hq
  · rintro ⟨x, g, f⟩ ⟨h1, h2⟩
    dsimp only at h1 h2
    subst h1
    refine ⟨(g, f), fun kk => ?_, ?_⟩
    · unfold f_X5_leastSteps_l67
      dsimp only
      rw [if_pos (by rw [nle (by omega) (by omega)]; omega)]
    · rcases h2 (2 ^ m - 1) (by omega) with ⟨d, -, d2, d3⟩ | d
      · exact Or.inl ⟨d, d2, d3⟩
      · exact Or.inr d
end SG
theorem b_leastSteps (fu n m : Nat) (hfu : 1200 < fu) (hm : m ≤ 8) {lv : Nat → Bool} {hb wa mw : Nat → Int32} (hn : n ≤ 16) (hc : fb_ct lv n = m) (hh : ∀ r, r < m → f_X3_hostOf fu hb (nI m) (nI r) = some (nI (hst lv n r))) (hw : ∀ k, k < 256 → wa k = mw k) (jn st f : Nat → Int32) (al : Int32) {r : Nat} (hr : r < m) :
    ∃ z, f_X5_leastSteps fu hb wa (nI m) jn st f al (nI r) = some z ∧ ((∃ d, z.1 = nI d ∧ fst1 (fun i j => decide (mw (16 * hst lv n i + hst lv n j) ≠ -1)) m r d (2 ^ m - 1)) ∨ (z.1 = -1 ∧ ∀ d, d ≤ m → ¬ lev (fun i j => decide (mw (16 * hst lv n i + hst lv n j) ≠ -1)) m r d (2 ^ m - 1))) := by
  have h8 := p2_8 hm
  have h1m : 1 ≤ 2 ^ m := Nat.one_le_two_pow
  have hrl : 2 ^ r < 2 ^ m := Nat.pow_lt_pow_right (by omega) hr
  obtain ⟨j1, a1, a2⟩ := b_readLines fu n m (by omega) hm hn hc hh hw jn
  obtain ⟨s1, b1, b2, -⟩ := b_fill fu 256 (-1) st (by omega) (by omega)
  obtain ⟨z, c1, c2⟩ := b_leastL fu hfu hm a2 hr (upd s1 (2 ^ r) 0) f (fun T hT => by
    by_cases q : T = 2 ^ r
    · exact Or.inl ⟨0, Nat.le_refl 0, by rw [q]; exact pk_us, q, fun e he => by omega⟩
    · refine Or.inr ⟨by rw [pk_un q]; exact b2 T (by omega), fun d hd => ?_⟩
      have : d = 0 := by omega
      subst this
      exact q)
  have hsh : (1 : Int32) <<< (nI m &&& 31) - 1 = nI (2 ^ m - 1) := by rw [n_shl hm, nsub1 h1m]
  refine ⟨(z.1 (2 ^ m - 1), j1, z.1, z.2, nI m, nI (2 ^ m - 1)), ?_, c2⟩
  unfold f_X5_leastSteps f_X3_ranks
  simp only [vn]
  rw [Option.bind_some, if_neg (by rw [zl8, nlt (by omega) (by omega)]; omega), if_neg (nI_pos (by omega)), if_pos (by rw [nlt (by omega) (by omega)]; exact hr), hsh, a1, Option.bind_some, b1, Option.bind_some, n_shl (by omega), if_neg (nI_in (by omega) (by omega)), ncl (by omega), c1, Option.bind_some, if_neg (nI_in (by omega) (by omega)), ncl (by omega)]
