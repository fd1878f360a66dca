/-! drawing a way, in both: one put, one step's end -/
def ZJ (n : Nat) (lv : Nat → Bool) (mw : Nat → Int32) (B t : Nat) (e : Bool) (U : Nat → Nat → Prop) (pp : Nat → Int32) (ps step lacks : Int32) (made : Nat → Int32) (mm lk : Int32) : Prop :=
  ∃ M E, M ≤ B ∧ ZPm M E made mm ∧ ((lacks = 0 ∧ lk = 0 ∧ step = nI t ∧ ZPc M (srt E M) pp ps ∧ ZSo M (srt E M) ∧ (∀ k, k < M → sok (E k)) ∧ ZCp M E ∧ ZLi n lv mw M E ∧ stp E M = t + (if e then 1 else 0) ∧ ∀ k, k < M → E k 0 < t ∨ (E k 0 = t ∧ U (E k 1) (E k 2))) ∨ (lacks = 1 ∧ lk = 1 ∧ ∃ N', N' ≤ 1200 ∧ ps = nI N'))
theorem ZJ.start (n : Nat) (lv : Nat → Bool) (mw pp made : Nat → Int32) : ZJ n lv mw 0 0 false (fun _ _ => False) pp 0 0 0 made 0 0 :=
  ⟨0, fun _ _ => 0, Nat.le_refl 0, ⟨rfl, fun i hi => by omega⟩, Or.inl ⟨rfl, rfl, rfl, ⟨by omega, rfl, fun i hi => by omega⟩, fun i j _ hj => by omega, fun k hk => by omega, fun i j hi => by omega, fun i hi => by omega, rfl, fun k hk => by omega⟩⟩
theorem ZJ.mono {n : Nat} {lv : Nat → Bool} {mw : Nat → Int32} {B t : Nat} {e : Bool} {U : Nat → Nat → Prop} {pp : Nat → Int32} {ps step lacks : Int32} {made : Nat → Int32} {mm lk : Int32} (h : ZJ n lv mw B t e U pp ps step lacks made mm lk) {B' : Nat} {U' : Nat → Nat → Prop} (hB : B ≤ B') (hU : ∀ x y, U x y → U' x y) : ZJ n lv mw B' t e U' pp ps step lacks made mm lk := by
  obtain ⟨M, E, h1, h2, h3⟩ := h
  refine ⟨M, E, by omega, h2, h3.elim (fun q => Or.inl ?_) Or.inr⟩
  obtain ⟨a1, a2, a3, a4, a5, a6, a7, a8, a9, a10⟩ := q
  exact ⟨a1, a2, a3, a4, a5, a6, a7, a8, a9, fun k hk => (a10 k hk).elim Or.inl (fun z => Or.inr ⟨z.1, hU _ _ z.2⟩)⟩
theorem ZJ.end {n : Nat} {lv : Nat → Bool} {mw : Nat → Int32} {B t : Nat} {e : Bool} {U : Nat → Nat → Prop} {pp : Nat → Int32} {ps step lacks : Int32} {made : Nat → Int32} {mm lk : Int32} (fu : Nat) (h : ZJ n lv mw B t e U pp ps step lacks made mm lk) (hB : B ≤ 1200) : ∃ step', f_X7_endStep fu pp ps = some step' ∧ ZJ n lv mw B (t + (if e then 1 else 0)) false (fun _ _ => False) pp ps step' lacks made mm lk := by
  obtain ⟨M, E, h1, h2, h3⟩ := h
  rcases h3 with ⟨a1, a2, a3, a4, a5, a6, a7, a8, a9, a10⟩ | ⟨a1, a2, N', a3, a4⟩
  · have hs := b_steps fu a4
    have hok : ∀ i, i < M → sok (srt E M i) := srt_all (P := sok) a6
    rw [← stp_so a5 hok, stp_srt, a9] at hs
    refine ⟨nI (t + if e then 1 else 0), by rw [f_X7_endStep, hs]; rfl, M, E, h1, h2, Or.inl ⟨a1, a2, rfl, a4, a5, a6, a7, a8, by rw [a9]; rfl, fun k hk => Or.inl ?_⟩⟩
    rw [← a9]; exact stp_ub hk
  · have : ∃ s, f_X4_steps fu pp ps = some s := by
      rw [f_X4_steps, a4]
      by_cases q : N' = 0
      · exact ⟨0, by rw [if_neg (by rw [n_0lt (by omega)]; omega)]⟩
      · exact ⟨_, by rw [if_pos (by rw [n_0lt (by omega)]; omega), nsub1 (by omega), if_neg (nI_in (by omega) (by omega))]⟩
    obtain ⟨s, hs⟩ := this
    exact ⟨s, by rw [f_X7_endStep, hs]; rfl, M, E, h1, h2, Or.inr ⟨a1, a2, N', a3, a4⟩⟩
theorem b_giveAnyL (fu nn N : Nat) (hfu : 1200 < fu) (hnn : nn ≤ 16) (hN : N ≤ 1200) (pp : Nat → Int32) (st x3 x4 x6 x7 x8 : Int32) : ∃ r N', lp (f_X7_give_l43 fu st x3 x4 (nI nn) x6 x7 x8) fu (0, pp, nI N) = some (r, nI N') ∧ N' ≤ 1200 := by
  obtain ⟨r, h1, N', h2, h3⟩ := lp_run (f_X7_give_l43 fu st x3 x4 (nI nn) x6 x7 x8) nn (fun j s => s.1 = nI j ∧ ∃ N', N' ≤ 1200 ∧ s.2.2 = nI N') (fun r => ∃ N', N' ≤ 1200 ∧ r.2 = nI N') (by
    rintro j ⟨x, g, y⟩ hj ⟨h1, N', h2, h3⟩
    dsimp only at h1 h3
    subst h1 h3
    left
    obtain ⟨r, M', g1, g2, g3⟩ := b_placeAny fu N' g hfu h2 st x7 x8 (x3 + nI j) (x4 + nI j) x6
    refine ⟨(nI (j + 1), r.1, r.2), fun k => ?_, rfl, M', g3, g2⟩
    unfold f_X7_give_l43
    dsimp only
    rw [if_neg (by rw [nle (by omega) (by omega)]; omega), g1, Option.bind_some, nsucc]) (by
    rintro ⟨x, g, y⟩ ⟨h1, N', h2, h3⟩
    dsimp only at h1 h3
    subst h1 h3
    refine ⟨(g, nI N'), fun k => ?_, N', h2, rfl⟩
    unfold f_X7_give_l43
    dsimp only
    rw [if_pos (by rw [nle (by omega) (by omega)]; omega)]) nn 0 (0, pp, nI N) fu (by omega) (by omega) ⟨rfl, N, hN, rfl⟩
  exact ⟨r.1, N', by rw [h1]; congr 1; exact Prod.ext rfl h3, h2⟩
theorem sd_ok {t a b c d e : Nat} (ht : t < 64) (ha : a < 16) (hb : b < 16) (hc : c < 16) (hd : d < 16) (he : e < 2) : sok (sd t a b c d e) := ⟨ht, ha, hb, hc, hd, he⟩
theorem apE_all {M nn : Nat} {E : Nat → Nat → Nat} {t a b bl tb ad : Nat} {P : (Nat → Nat) → Prop} (h1 : ∀ k, k < M → P (E k)) (h2 : ∀ j, j < nn → P (sd t a b (bl + j) (tb + j) ad)) : ∀ k, k < M + nn → P (apE M E t a b bl tb ad k) := by
  intro k hk
  by_cases q : k < M
  · rw [apE_lt q]; exact h1 k q
  · rw [show k = M + (k - M) by omega, apE_ge]; exact h2 _ (by omega)
theorem b_giveL (fu M nn : Nat) (E : Nat → Nat → Nat) (hfu : 1200 < fu) {pp : Nat → Int32} {ps : Int32} {t a b bl tb ad : Nat} (hC : ZPc M (srt E M) pp ps) (hS : ZSo M (srt E M)) (hok : ∀ k, k < M → sok (E k)) (hB : M + nn ≤ 1200) (ht : t < 64) (ha : a < 16) (hb : b < 16) (hbl : bl + nn ≤ 16) (htb : tb + nn ≤ 16) (had : ad < 2) (hf : ∀ k, k < M → ¬ (E k 0 = t ∧ E k 1 = a)) :
    ∃ r, lp (f_X7_give_l43 fu (nI t) (nI bl) (nI tb) (nI nn) (nI ad) (nI a) (nI b)) fu (0, pp, ps) = some r ∧ ZPc (M + nn) (srt (apE M E t a b bl tb ad) (M + nn)) r.1 r.2 ∧ ZSo (M + nn) (srt (apE M E t a b bl tb ad) (M + nn)) := by
  refine lp_run (f_X7_give_l43 fu (nI t) (nI bl) (nI tb) (nI nn) (nI ad) (nI a) (nI b)) nn (fun j s => s.1 = nI j ∧ ZPc (M + j) (srt (apE M E t a b bl tb ad) (M + j)) s.2.1 s.2.2 ∧ ZSo (M + j) (srt (apE M E t a b bl tb ad) (M + j))) (fun r => ZPc (M + nn) (srt (apE M E t a b bl tb ad) (M + nn)) r.1 r.2 ∧ ZSo (M + nn) (srt (apE M E t a b bl tb ad) (M + nn))) ?_ ?_ nn 0 (0, pp, ps) fu (by omega) (by omega) ?_
  · rintro j ⟨x, g, y⟩ hj ⟨h1, h2, h3⟩
    dsimp only at h1 h2
    subst h1
    left
    have hs : sok (sd t a b (bl + j) (tb + j) ad) := sd_ok ht ha hb (by omega) (by omega) had
    have hne : ∀ i, i < M + j → key (srt (apE M E t a b bl tb ad) (M + j) i) ≠ key (sd t a b (bl + j) (tb + j) ad) := srt_all (P := fun s => key s ≠ key (sd t a b (bl + j) (tb + j) ad)) (apE_all (P := fun s => key s ≠ key (sd t a b (bl + j) (tb + j) ad)) (nn := j) (fun k hk q => by
      obtain ⟨g0, g1, g2, g3, g4, g5⟩ := hok k hk
      refine hf k hk ?_
      unfold key at q
      have b0 : sd t a b (bl + j) (tb + j) ad 0 = t := rfl
      have b1 : sd t a b (bl + j) (tb + j) ad 1 = a := rfl
      have b4 : sd t a b (bl + j) (tb + j) ad 4 = tb + j := rfl
      rw [b0, b1, b4] at q
      omega) (fun j' hj' q => by
      have q' : (t * 16 + a) * 16 + (tb + j') = (t * 16 + a) * 16 + (tb + j) := q
      omega))
    obtain ⟨r, r1, r2⟩ := b_place fu (M + j) _ (sd t a b (bl + j) (tb + j) ad) g y hfu h2 (by omega) h3 hs hne
    have hS' : srt (apE M E t a b bl tb ad) (M + (j + 1)) = ins (pos (M + j) (srt (apE M E t a b bl tb ad) (M + j)) (sd t a b (bl + j) (tb + j) ad)) (srt (apE M E t a b bl tb ad) (M + j)) (sd t a b (bl + j) (tb + j) ad) := by
      show ins (pos (M + j) (srt (apE M E t a b bl tb ad) (M + j)) (apE M E t a b bl tb ad (M + j))) _ (apE M E t a b bl tb ad (M + j)) = _
      rw [apE_ge]
      rfl
    refine ⟨(nI (j + 1), r.1, r.2), fun k => ?_, rfl, ?_, ?_⟩
    · have r1' : f_X4_place fu g y (nI t) (nI a) (nI b) (nI (bl + j)) (nI (tb + j)) (nI ad) = some r := r1
      unfold f_X7_give_l43
      dsimp only
      rw [if_neg (by rw [nle (by omega) (by omega)]; omega), nadd, nadd, r1', Option.bind_some, nsucc]
    · rw [hS']; exact r2
    · rw [hS']; exact ins_so h3 hne
  · rintro ⟨x, g, y⟩ ⟨h1, h2, h3⟩
    dsimp only at h1 h2
    subst h1
    refine ⟨(g, y), fun k => ?_, h2, h3⟩
    unfold f_X7_give_l43
    dsimp only
    rw [if_pos (by rw [nle (by omega) (by omega)]; omega)]
  · have e : srt (apE M E t a b bl tb ad) M = srt E M := srt_cong (fun k hk => apE_lt hk)
    exact ⟨rfl, by rw [Nat.add_zero, e]; exact hC, by rw [Nat.add_zero, e]; exact hS⟩
theorem stp_ap {M nn : Nat} {E : Nat → Nat → Nat} {t a b bl tb ad : Nat} (hnn : 1 ≤ nn) (h : stp E M ≤ t + 1) : stp (apE M E t a b bl tb ad) (M + nn) = t + 1 := by
  refine Nat.le_antisymm (stp_le (apE_all (P := fun s => s 0 < t + 1) (fun k hk => ?_) (fun j hj => ?_))) ?_
  · have := stp_ub (S := E) hk; omega
  · show t < t + 1; omega
  · have := stp_ub (S := apE M E t a b bl tb ad) (n := M + nn) (i := M + 0) (by omega)
    rw [apE_ge] at this
    exact this
section JJ
variable {n : Nat} {lv : Nat → Bool} {hb lo wa mw : Nat → Int32} (fu : Nat)
theorem J_core (hfu : 1200 < fu) (hn : n ≤ 16) (hh : ∀ r, r < fb_ct lv n → f_X3_hostOf fu hb (nI (fb_ct lv n)) (nI r) = some (nI (hst lv n r))) (hw : ∀ k, k < 256 → wa k = mw k) {B t : Nat} {e : Bool} {U : Nat → Nat → Prop} {pp : Nat → Int32} {ps step lacks : Int32} {made : Nat → Int32} {mm lk : Int32} (hJ : ZJ n lv mw B t e U pp ps step lacks made mm lk) {i j bl tb nn ad : Nat} (hi : i < fb_ct lv n) (hj : j < fb_ct lv n) (hf : ∀ x y, U x y → x ≠ hst lv n i ∧ y ≠ hst lv n j) (ht : t < 64) (hbl : bl + nn ≤ 16) (htb : tb + nn ≤ 16) (hnn : 1 ≤ nn) (had : ad < 2) (hB : B + nn ≤ 1200) :
    ∃ M E, M ≤ B ∧ ZPm M E made mm ∧ ∃ pp' ps' lacks', f_X7_give fu hb wa (nI (fb_ct lv n)) pp ps step lacks (nI i) (nI j) (nI bl) (nI tb) (nI nn) (nI ad) = some (pp', ps', lacks') ∧ ∀ made', ZPm (M + nn) (apE M E t (hst lv n i) (hst lv n j) bl tb ad) made' (nI (M + nn)) → ZJ n lv mw (B + nn) t true (fun x y => U x y ∨ (x = hst lv n i ∧ y = hst lv n j)) pp' ps' step lacks' made' (nI (M + nn)) (if mw (16 * hst lv n i + hst lv n j) = -1 then 1 else lk) := by
  obtain ⟨M, E, h1, h2, h3⟩ := hJ
  obtain ⟨ai, bi, ci⟩ := hst_ok hi
  obtain ⟨aj, bj, cj⟩ := hst_ok hj
  refine ⟨M, E, h1, h2, ?_⟩
  have hg : ∀ (r : (Nat → Int32) × Int32), lp (f_X7_give_l43 fu step (nI bl) (nI tb) (nI nn) (nI ad) (nI (hst lv n i)) (nI (hst lv n j))) fu (0, pp, ps) = some r → f_X7_give fu hb wa (nI (fb_ct lv n)) pp ps step lacks (nI i) (nI j) (nI bl) (nI tb) (nI nn) (nI ad) = some (if mw (16 * hst lv n i + hst lv n j) = -1 then (pp, ps, 1) else (r.1, r.2, lacks)) := by
    intro r hr
    unfold f_X7_give
    rw [hh i hi, Option.bind_some, hh j hj, Option.bind_some, b_hasLine fu _ _ wa (by omega) (by omega), hw _ (by omega), Option.bind_some]
    by_cases q : mw (16 * hst lv n i + hst lv n j) = -1
    · rw [if_pos q, if_pos q, if_pos rfl]
    · rw [if_neg q, if_neg q, if_neg n_10.mp, hr, Option.bind_some]
  rcases h3 with ⟨a1, a2, a3, a4, a5, a6, a7, a8, a9, a10⟩ | ⟨a1, a2, N', a3, a4⟩
  · have hfr : ∀ k, k < M → E k 0 = t → E k 1 ≠ hst lv n i ∧ E k 2 ≠ hst lv n j := fun k hk q => by
      rcases a10 k hk with z | z
      · omega
      · exact hf _ _ z.2
    obtain ⟨r, r1, r2, r3⟩ := b_giveL fu M nn E hfu (bl := bl) (tb := tb) a4 a5 a6 (by omega) ht (show hst lv n i < 16 by omega) (show hst lv n j < 16 by omega) hbl htb had (fun k hk q => (hfr k hk q.1).1 q.2)
    rw [← a3] at r1
    by_cases q : mw (16 * hst lv n i + hst lv n j) = -1
    · refine ⟨pp, ps, 1, by rw [hg r r1, if_pos q], fun made' hm' => ⟨M + nn, apE M E t (hst lv n i) (hst lv n j) bl tb ad, by omega, hm', Or.inr ⟨rfl, by rw [if_pos q], M, by omega, a4.2.1⟩⟩⟩
    · refine ⟨r.1, r.2, lacks, by rw [hg r r1, if_neg q], fun made' hm' => ⟨M + nn, apE M E t (hst lv n i) (hst lv n j) bl tb ad, by omega, hm', Or.inl ⟨a1, by rw [if_neg q]; exact a2, a3, r2, r3, ?_, ?_, ?_, ?_, ?_⟩⟩⟩
      · exact apE_all a6 (fun k hk => sd_ok ht (by omega) (by omega) (by omega) (by omega) had)
      · intro x y hx hy exy
        have hcase : ∀ z, z < M + nn → (z < M ∧ apE M E t (hst lv n i) (hst lv n j) bl tb ad z = E z) ∨ (apE M E t (hst lv n i) (hst lv n j) bl tb ad z 0 = t ∧ apE M E t (hst lv n i) (hst lv n j) bl tb ad z 1 = hst lv n i ∧ apE M E t (hst lv n i) (hst lv n j) bl tb ad z 2 = hst lv n j) := fun z hz => by
          by_cases w : z < M
          · exact Or.inl ⟨w, apE_lt w⟩
          · rw [show z = M + (z - M) by omega, apE_ge]; exact Or.inr ⟨rfl, rfl, rfl⟩
        rcases hcase x hx with ⟨x1, x2⟩ | ⟨x1, x2, x3⟩ <;> rcases hcase y hy with ⟨y1, y2⟩ | ⟨y1, y2, y3⟩
        · rw [x2, y2] at exy ⊢; exact a7 x y x1 y1 exy
        · rw [x2] at exy ⊢
          rw [y1] at exy
          rw [y2, y3]
          have := hfr x x1 exy
          exact ⟨fun w => absurd w this.1, fun w => absurd w this.2⟩
        · rw [y2] at exy ⊢
          rw [x1] at exy
          rw [x2, x3]
          have := hfr y y1 exy.symm
          exact ⟨fun w => absurd w.symm this.1, fun w => absurd w.symm this.2⟩
        · rw [x2, x3, y2, y3]; exact ⟨fun _ => rfl, fun _ => rfl⟩
      · exact apE_all (P := fun s => s 1 < n ∧ lv (s 1) = true ∧ s 2 < n ∧ lv (s 2) = true ∧ mw (16 * s 1 + s 2) ≠ -1) a8 (fun k hk => ⟨ai, bi, aj, bj, q⟩)
      · rw [stp_ap hnn (by rw [a9]; split <;> omega)]; rfl
      · exact apE_all (P := fun s => s 0 < t ∨ (s 0 = t ∧ (U (s 1) (s 2) ∨ (s 1 = hst lv n i ∧ s 2 = hst lv n j)))) (fun k hk => (a10 k hk).elim Or.inl (fun z => Or.inr ⟨z.1, Or.inl z.2⟩)) (fun k hk => Or.inr ⟨rfl, Or.inr ⟨rfl, rfl⟩⟩)
  · obtain ⟨r, N2, r1, r2⟩ := b_giveAnyL fu nn N' hfu (by omega) a3 pp step (nI bl) (nI tb) (nI ad) (nI (hst lv n i)) (nI (hst lv n j))
    rw [← a4] at r1
    by_cases q : mw (16 * hst lv n i + hst lv n j) = -1
    · refine ⟨pp, ps, 1, by rw [hg _ r1, if_pos q], fun made' hm' => ⟨M + nn, _, by omega, hm', Or.inr ⟨rfl, by rw [if_pos q], N', a3, a4⟩⟩⟩
    · refine ⟨r, nI N2, lacks, by rw [hg _ r1, if_neg q], fun made' hm' => ⟨M + nn, _, by omega, hm', Or.inr ⟨a1, by rw [if_neg q]; exact a2, N2, r2, rfl⟩⟩⟩
theorem m_put (hfu : 1200 < fu) (hn : n ≤ 16) (hm : ∀ r, r < fb_ct lv n → f_X9_hostOf fu lo (nI r) = some (nI (hst lv n r))) {M nn : Nat} {E : Nat → Nat → Nat} {made : Nat → Int32} {lk : Int32} (hM : ZPm M E made (nI M)) {t x2 x3 bl ad : Nat} (hpos : 0 < fb_ct lv n) (hx2 : x2 < 1000) (hx3 : x3 < 1000) (had : ad < 2) (hB : M + nn ≤ 1200) (hnn : nn ≤ 16) :
    ∃ made', f_X9_put fu lo mw made (nI M) lk (nI t) (nI x2) (nI x3) (nI bl) (nI nn) (nI (fb_ct lv n)) (nI ad) = some (made', nI (M + nn), if mw (16 * hst lv n (x2 % fb_ct lv n) + hst lv n (x3 % fb_ct lv n)) = -1 then 1 else lk) ∧ ZPm (M + nn) (apE M E t (hst lv n (x2 % fb_ct lv n)) (hst lv n (x3 % fb_ct lv n)) bl bl ad) made' (nI (M + nn)) := by
  have hct := fb_ct_le lv n
  have hi : x2 % fb_ct lv n < fb_ct lv n := Nat.mod_lt _ hpos
  have hj : x3 % fb_ct lv n < fb_ct lv n := Nat.mod_lt _ hpos
  have ai := (hst_ok hi).1
  have aj := (hst_ok hj).1
  obtain ⟨r, r1, r2⟩ := m_putL fu M nn E made hfu (t := t) (a := hst lv n (x2 % fb_ct lv n)) (b := hst lv n (x3 % fb_ct lv n)) (bl := bl) had hB hnn hM.2
  refine ⟨r, ?_, rfl, r2⟩
  have hrem : ∀ x, x < 1000 → nI x + nI (fb_ct lv n) - (nI x + nI (fb_ct lv n)) / nI (fb_ct lv n) * nI (fb_ct lv n) = nI (x % fb_ct lv n) := fun x hx => by
    rw [nadd, pk_rem (by omega) hpos (by omega), Nat.add_mod_right]
  unfold f_X9_put
  rw [if_neg (by rw [n_eq0 (by omega)]; omega), hrem x2 hx2, hm _ hi, Option.bind_some, if_neg (by rw [n_eq0 (by omega)]; omega), hrem x3 hx3, hm _ hj, Option.bind_some, m_joined fu _ _ (by omega) (by omega), Option.bind_some, r1]
  by_cases q : mw (16 * hst lv n (x2 % fb_ct lv n) + hst lv n (x3 % fb_ct lv n)) = -1
  · rw [if_pos q, if_pos q, if_pos rfl]; rfl
  · rw [if_neg q, if_neg q, if_neg n_10.mp]; rfl
/-- one put: both draw the same -/
theorem J_put (hfu : 1200 < fu) (hn : n ≤ 16) (hh : ∀ r, r < fb_ct lv n → f_X3_hostOf fu hb (nI (fb_ct lv n)) (nI r) = some (nI (hst lv n r))) (hm : ∀ r, r < fb_ct lv n → f_X9_hostOf fu lo (nI r) = some (nI (hst lv n r))) (hw : ∀ k, k < 256 → wa k = mw k) {B t : Nat} {e : Bool} {U : Nat → Nat → Prop} {pp : Nat → Int32} {ps step lacks : Int32} {made : Nat → Int32} {mm lk : Int32} (hJ : ZJ n lv mw B t e U pp ps step lacks made mm lk) {i j bl nn ad x2 x3 : Nat} (hi : i < fb_ct lv n) (hj : j < fb_ct lv n) (hf : ∀ x y, U x y → x ≠ hst lv n i ∧ y ≠ hst lv n j) (ht : t < 64) (hbl : bl + nn ≤ 16) (hnn : 1 ≤ nn) (had : ad < 2) (hB : B + nn ≤ 1200) (hx2 : x2 < 1000) (hx3 : x3 < 1000) (ei : x2 % fb_ct lv n = i) (ej : x3 % fb_ct lv n = j) :
    ∃ pp' ps' lacks' made' mm' lk', f_X7_give fu hb wa (nI (fb_ct lv n)) pp ps step lacks (nI i) (nI j) (nI bl) (nI bl) (nI nn) (nI ad) = some (pp', ps', lacks') ∧ f_X9_put fu lo mw made mm lk (nI t) (nI x2) (nI x3) (nI bl) (nI nn) (nI (fb_ct lv n)) (nI ad) = some (made', mm', lk') ∧ ZJ n lv mw (B + nn) t true (fun x y => U x y ∨ (x = hst lv n i ∧ y = hst lv n j)) pp' ps' step lacks' made' mm' lk' := by
  obtain ⟨M, E, h1, h2, pp', ps', lacks', h3, h4⟩ := J_core fu hfu hn hh hw hJ hi hj hf ht hbl hbl hnn had hB
  have e1 := h2.1
  subst e1
  obtain ⟨made', g1, g2⟩ := m_put (mw := mw) (lk := lk) fu hfu hn hm h2 (t := t) (bl := bl) (ad := ad) (by omega) hx2 hx3 had (show M + nn ≤ 1200 by omega) (by omega)
  rw [ei, ej] at g1 g2
  exact ⟨pp', ps', lacks', made', _, _, h3, g1, h4 made' g2⟩
/-- one put of a turn: the block there is another -/
theorem J_turn (hfu : 1200 < fu) (hn : n ≤ 16) (hh : ∀ r, r < fb_ct lv n → f_X3_hostOf fu hb (nI (fb_ct lv n)) (nI r) = some (nI (hst lv n r))) (hm : ∀ r, r < fb_ct lv n → f_X9_hostOf fu lo (nI r) = some (nI (hst lv n r))) (hw : ∀ k, k < 256 → wa k = mw k) {B t : Nat} {e : Bool} {U : Nat → Nat → Prop} {pp : Nat → Int32} {ps step lacks : Int32} {made : Nat → Int32} {mm lk : Int32} (hJ : ZJ n lv mw B t e U pp ps step lacks made mm lk) {i j : Nat} (hi : i < fb_ct lv n) (hj : j < fb_ct lv n) (hf : ∀ x y, U x y → x ≠ hst lv n i ∧ y ≠ hst lv n j) (ht : t < 64) (hB : B + 1 ≤ 1200) :
    ∃ pp' ps' lacks' made' M' lk', M' < 1200 ∧ mm = nI M' ∧ f_X7_give fu hb wa (nI (fb_ct lv n)) pp ps step lacks (nI i) (nI j) (nI j) (nI i) 1 0 = some (pp', ps', lacks') ∧ f_X9_put fu lo mw made mm lk (nI t) (nI i) (nI j) (nI j) 1 (nI (fb_ct lv n)) 0 = some (made', nI (M' + 1), lk') ∧ ZJ n lv mw (B + 1) t true (fun x y => U x y ∨ (x = hst lv n i ∧ y = hst lv n j)) pp' ps' step lacks' (upd made' (6 * M' + 4) (nI i)) (nI (M' + 1)) lk' := by
  have hct := fb_ct_le lv n
  obtain ⟨M, E, h1, h2, pp', ps', lacks', h3, h4⟩ := J_core fu hfu hn hh hw hJ hi hj hf ht (bl := j) (tb := i) (nn := 1) (ad := 0) (by omega) (by omega) (by omega) (by omega) hB
  have e1 := h2.1
  subst e1
  obtain ⟨made', g1, g2⟩ := m_put (mw := mw) (lk := lk) fu hfu hn hm h2 (t := t) (x2 := i) (x3 := j) (bl := j) (nn := 1) (ad := 0) (by omega) (by omega) (by omega) (by omega) (by omega) (by omega)
  rw [Nat.mod_eq_of_lt hi, Nat.mod_eq_of_lt hj] at g1 g2
  refine ⟨pp', ps', lacks', made', M, _, by omega, rfl, h3, g1, h4 _ ⟨rfl, fun k hk q hq => ?_⟩⟩
  simp only [upd]
  by_cases w : k < M
  · rw [if_neg (by omega), g2.2 k hk q hq, apE_lt w, apE_lt w]
  · have hk' : k = M + 0 := by omega
    have g3 := g2.2 k hk q hq
    rw [hk', apE_ge] at g3 ⊢
    by_cases w2 : q = 4
    · subst w2
      rw [if_pos (by omega)]; rfl
    · rw [if_neg (by omega), g3]
      congr 1
      simp only [sd]
      repeat' split
      all_goals first | rfl | omega
end JJ
