/-! plans: packed and in rows of six -/
theorem sh17 {n : Nat} (h : n < 2 ^ 31) : nI n >>> ((17 : Int32) &&& 31) = nI (n / 131072) := pk_shrN h _ 17 (by decide)
theorem sh13 {n : Nat} (h : n < 2 ^ 31) : nI n >>> ((13 : Int32) &&& 31) = nI (n / 8192) := pk_shrN h _ 13 (by decide)
theorem sh9 {n : Nat} (h : n < 2 ^ 31) : nI n >>> ((9 : Int32) &&& 31) = nI (n / 512) := pk_shrN h _ 9 (by decide)
theorem sh5 {n : Nat} (h : n < 2 ^ 31) : nI n >>> ((5 : Int32) &&& 31) = nI (n / 32) := pk_shrN h _ 5 (by decide)
theorem sh1 {n : Nat} (h : n < 2 ^ 31) : nI n >>> ((1 : Int32) &&& 31) = nI (n / 2) := pk_shrN h _ 1 (by decide)
theorem an15 {n : Nat} (h : n < 2 ^ 31) : nI n &&& 15 = nI (n % 16) := pk_andN (by omega) 4 (by decide)
theorem an1 {n : Nat} (h : n < 2 ^ 31) : nI n &&& 1 = nI (n % 2) := pk_andN (by omega) 1 (by decide)
def key (s : Nat → Nat) : Nat := (s 0 * 16 + s 1) * 16 + s 4
def sok (s : Nat → Nat) : Prop := s 0 < 64 ∧ s 1 < 16 ∧ s 2 < 16 ∧ s 3 < 16 ∧ s 4 < 16 ∧ s 5 < 2
def pk (s : Nat → Nat) : Nat := s 0 * 131072 + s 1 * 8192 + s 4 * 512 + s 2 * 32 + s 3 * 2 + s 5
theorem pk_lt31 {s : Nat → Nat} (h : sok s) : pk s < 8388608 := by
  obtain ⟨h0, h1, h2, h3, h4, h5⟩ := h
  unfold pk; omega
theorem pk_key {s t : Nat → Nat} (hs : sok s) (ht : sok t) (h : key s < key t) : pk s < pk t := by
  obtain ⟨h0, h1, h2, h3, h4, h5⟩ := hs
  obtain ⟨g0, g1, g2, g3, g4, g5⟩ := ht
  unfold key at h; unfold pk; omega
def ZPc (N : Nat) (S : Nat → Nat → Nat) (pp : Nat → Int32) (ps : Int32) : Prop := N ≤ 1200 ∧ ps = nI N ∧ ∀ i, i < N → sok (S i) ∧ pp i = nI (pk (S i))
def ZPm (N : Nat) (S : Nat → Nat → Nat) (se : Nat → Int32) (mm : Int32) : Prop := mm = nI N ∧ ∀ i, i < N → ∀ k, k < 6 → se (6 * i + k) = nI (S i k)
def ZSo (N : Nat) (S : Nat → Nat → Nat) : Prop := ∀ i j, i < j → j < N → key (S i) < key (S j)
def ins (h : Nat) (S : Nat → Nat → Nat) (s : Nat → Nat) : Nat → Nat → Nat := fun i => if i < h then S i else if i = h then s else S (i - 1)
def pos (N : Nat) (S : Nat → Nat → Nat) (s : Nat → Nat) : Nat := fb_ct (fun i => decide (key (S i) < key s)) N
theorem ct_down {p : Nat → Bool} : ∀ {N : Nat}, (∀ i j, i < j → j < N → p j = true → p i = true) → ∀ i, i < N → (p i = true ↔ i < fb_ct p N)
  | 0, _, i, hi => absurd hi (Nat.not_lt_zero i)
  | N + 1, hd, i, hi => by
    have ih := ct_down (N := N) (fun a b hab hb => hd a b hab (by omega))
    rw [fb_ct_succ]
    by_cases hp : p N = true
    · have hall : fb_ct p N = N := fb_ct_all.mpr fun k hk => hd k N hk (by omega) hp
      rw [if_pos hp, hall]
      refine ⟨fun _ => by omega, fun _ => ?_⟩
      rcases Nat.lt_succ_iff_lt_or_eq.mp hi with q | q
      · exact hd i N q (by omega) hp
      · rw [q]; exact hp
    · rw [if_neg hp, Nat.add_zero]
      rcases Nat.lt_succ_iff_lt_or_eq.mp hi with q | q
      · exact ih i q
      · subst q
        have := fb_ct_le p i
        exact ⟨fun z => absurd z hp, fun z => by omega⟩
theorem pos_le (N : Nat) (S : Nat → Nat → Nat) (s : Nat → Nat) : pos N S s ≤ N := fb_ct_le _ _
theorem pos_lt {N : Nat} {S : Nat → Nat → Nat} (hS : ZSo N S) (s : Nat → Nat) {i : Nat} (hi : i < N) : key (S i) < key s ↔ i < pos N S s := by
  have := ct_down (p := fun i => decide (key (S i) < key s)) (N := N) (fun i j hij hj h => by
    have h1 := of_decide_eq_true h
    have h2 := hS i j hij hj
    exact decide_eq_true (by omega)) i hi
  rw [decide_eq_true_iff] at this
  exact this
theorem ins_so {N : Nat} {S : Nat → Nat → Nat} (hS : ZSo N S) {s : Nat → Nat} (hne : ∀ i, i < N → key (S i) ≠ key s) : ZSo (N + 1) (ins (pos N S s) S s) := by
  intro i j hij hj
  have hp := pos_le N S s
  unfold ins
  by_cases h1 : i < pos N S s
  · rw [if_pos h1]
    by_cases h2 : j < pos N S s
    · rw [if_pos h2]; exact hS i j hij (by omega)
    · rw [if_neg h2]
      by_cases h3 : j = pos N S s
      · rw [if_pos h3]; exact (pos_lt hS s (by omega)).mpr h1
      · rw [if_neg h3]; exact hS i (j - 1) (by omega) (by omega)
  · rw [if_neg h1, if_neg (by omega : ¬ j < pos N S s), if_neg (by omega : ¬ j = pos N S s)]
    by_cases h3 : i = pos N S s
    · rw [if_pos h3]
      have h4 := hne (j - 1) (by omega)
      have h5 : ¬ key (S (j - 1)) < key s := fun q => by
        have := (pos_lt hS s (by omega)).mp q
        omega
      omega
    · rw [if_neg h3]; exact hS (i - 1) (j - 1) (by omega) (by omega)
theorem b_sendAt (fu N i : Nat) (pp : Nat → Int32) (hN : N ≤ 1200) (hi : i < N) : f_X4_sendAt fu pp (nI N) (nI i) = some (pp i) := by
  simp (disch := omega) only [f_X4_sendAt, nlt0, nle, nlt, neqI, ncl, nadd, nmul, nm1, nm1', nsucc, n_eq0, n_eq0', n_eq1, n_le0, n_0lt, n_0le, n_1le, n_le1, n_01, n_10, nsubI, nsub1, naddm1, ofNat_nI, zl2, zl3, zl4, zl5, zl6, zl7, zl8, zl9, zl13, zl15, zl16, zl17, zl31, zl63, zl64, zl100, zl256, zl1000, zl1200, zl7200, zl65536, zl100000, if_true, if_false, or_false, false_or, true_or, or_true, and_true, true_and, false_and, and_false, not_true_eq_false, not_false_eq_true, if_pos, if_neg, Option.bind_some, Option.bind_none, vn, reduceCtorEq]
section PL
variable {N : Nat} {S : Nat → Nat → Nat} {pp : Nat → Int32} {ps : Int32}
theorem b_step (fu : Nat) (h : ZPc N S pp ps) {i : Nat} (hi : i < N) : f_X4_step fu pp ps (nI i) = some (nI (S i 0)) := by
  obtain ⟨hN, rfl, h⟩ := h
  obtain ⟨⟨h0, h1, h2, h3, h4, h5⟩, h6⟩ := h i hi
  rw [f_X4_step, b_sendAt fu N i pp hN hi, Option.bind_some, h6, sh17 (by unfold pk; omega)]
  congr 2; unfold pk; omega
theorem b_from (fu : Nat) (h : ZPc N S pp ps) {i : Nat} (hi : i < N) : f_X4_from fu pp ps (nI i) = some (nI (S i 1)) := by
  obtain ⟨hN, rfl, h⟩ := h
  obtain ⟨⟨h0, h1, h2, h3, h4, h5⟩, h6⟩ := h i hi
  rw [f_X4_from, b_sendAt fu N i pp hN hi, Option.bind_some, h6, sh13 (by unfold pk; omega), an15 (by unfold pk; omega)]
  congr 2; unfold pk; omega
theorem b_to (fu : Nat) (h : ZPc N S pp ps) {i : Nat} (hi : i < N) : f_X4_to fu pp ps (nI i) = some (nI (S i 2)) := by
  obtain ⟨hN, rfl, h⟩ := h
  obtain ⟨⟨h0, h1, h2, h3, h4, h5⟩, h6⟩ := h i hi
  rw [f_X4_to, b_sendAt fu N i pp hN hi, Option.bind_some, h6, sh5 (by unfold pk; omega), an15 (by unfold pk; omega)]
  congr 2; unfold pk; omega
theorem b_block (fu : Nat) (h : ZPc N S pp ps) {i : Nat} (hi : i < N) : f_X4_block fu pp ps (nI i) = some (nI (S i 3)) := by
  obtain ⟨hN, rfl, h⟩ := h
  obtain ⟨⟨h0, h1, h2, h3, h4, h5⟩, h6⟩ := h i hi
  rw [f_X4_block, b_sendAt fu N i pp hN hi, Option.bind_some, h6, sh1 (by unfold pk; omega), an15 (by unfold pk; omega)]
  congr 2; unfold pk; omega
theorem b_toBlock (fu : Nat) (h : ZPc N S pp ps) {i : Nat} (hi : i < N) : f_X4_toBlock fu pp ps (nI i) = some (nI (S i 4)) := by
  obtain ⟨hN, rfl, h⟩ := h
  obtain ⟨⟨h0, h1, h2, h3, h4, h5⟩, h6⟩ := h i hi
  rw [f_X4_toBlock, b_sendAt fu N i pp hN hi, Option.bind_some, h6, sh9 (by unfold pk; omega), an15 (by unfold pk; omega)]
  congr 2; unfold pk; omega
theorem b_isAdded (fu : Nat) (h : ZPc N S pp ps) {i : Nat} (hi : i < N) : f_X4_isAdded fu pp ps (nI i) = some (nI (S i 5)) := by
  obtain ⟨hN, rfl, h⟩ := h
  obtain ⟨⟨h0, h1, h2, h3, h4, h5⟩, h6⟩ := h i hi
  rw [f_X4_isAdded, b_sendAt fu N i pp hN hi, Option.bind_some, h6, an1 (by unfold pk; omega)]
  have e : pk (S i) % 2 = S i 5 := by unfold pk; omega
  rw [e]
  rcases (show S i 5 = 0 ∨ S i 5 = 1 by omega) with q | q <;> rw [q] <;> rfl
theorem b_source (fu : Nat) (h : ZPc N S pp ps) {i : Nat} (hi : i < N) : f_X4_source fu pp ps (nI i) = some (nI (16 * S i 1 + S i 3)) := by
  rw [f_X4_source, b_from fu h hi, b_block fu h hi]
  simp (disch := omega) only [f_X8_cell, nlt0, nle, nlt, neqI, ncl, nadd, nmul, nm1, nm1', nsucc, n_eq0, n_eq0', n_eq1, n_le0, n_0lt, n_0le, n_1le, n_le1, n_01, n_10, nsubI, nsub1, naddm1, ofNat_nI, zl2, zl3, zl4, zl5, zl6, zl7, zl8, zl9, zl13, zl15, zl16, zl17, zl31, zl63, zl64, zl100, zl256, zl1000, zl1200, zl7200, zl65536, zl100000, if_true, if_false, or_false, false_or, true_or, or_true, and_true, true_and, false_and, and_false, not_true_eq_false, not_false_eq_true, if_pos, if_neg, Option.bind_some, Option.bind_none, vn, reduceCtorEq, Nat.mul_comm (S i 1) 16]
theorem b_target (fu : Nat) (h : ZPc N S pp ps) {i : Nat} (hi : i < N) : f_X4_target fu pp ps (nI i) = some (nI (16 * S i 2 + S i 4)) := by
  rw [f_X4_target, b_to fu h hi, b_toBlock fu h hi]
  simp (disch := omega) only [f_X8_cell, nlt0, nle, nlt, neqI, ncl, nadd, nmul, nm1, nm1', nsucc, n_eq0, n_eq0', n_eq1, n_le0, n_0lt, n_0le, n_1le, n_le1, n_01, n_10, nsubI, nsub1, naddm1, ofNat_nI, zl2, zl3, zl4, zl5, zl6, zl7, zl8, zl9, zl13, zl15, zl16, zl17, zl31, zl63, zl64, zl100, zl256, zl1000, zl1200, zl7200, zl65536, zl100000, if_true, if_false, or_false, false_or, true_or, or_true, and_true, true_and, false_and, and_false, not_true_eq_false, not_false_eq_true, if_pos, if_neg, Option.bind_some, Option.bind_none, vn, reduceCtorEq, Nat.mul_comm (S i 2) 16]
theorem b_endsLetter (fu : Nat) (h : ZPc N S pp ps) {i : Nat} (hi : i < N) : f_X4_endsLetter fu pp ps (nI i) = some (if i + 1 < N ∧ S i 0 = S (i + 1) 0 ∧ S i 1 = S (i + 1) 1 then 0 else 1) := by
  obtain ⟨hN, rfl, h⟩ := h
  rw [f_X4_endsLetter, nsucc]
  by_cases e : i + 1 < N
  · obtain ⟨⟨h0, h1, h2, h3, h4, h5⟩, h6⟩ := h i hi
    obtain ⟨⟨g0, g1, g2, g3, g4, g5⟩, g6⟩ := h (i + 1) e
    rw [if_neg (by rw [nle (by omega) (by omega)]; omega), b_sendAt fu N i pp hN hi, b_sendAt fu N (i + 1) pp hN e, Option.bind_some, Option.bind_some, h6, g6, sh13 (by unfold pk; omega), sh13 (by unfold pk; omega)]
    by_cases q : pk (S i) / 8192 = pk (S (i + 1)) / 8192
    · rw [if_pos (by rw [q]), if_pos]
      unfold pk at q
      omega
    · rw [if_neg (fun z => q ((nI_eq (by unfold pk; omega) (by unfold pk; omega)).mp z)), if_neg]
      unfold pk at q
      omega
  · rw [if_pos (by rw [nle (by omega) (by omega)]; omega), if_neg (by omega)]
theorem b_endsStep (fu : Nat) (h : ZPc N S pp ps) {i : Nat} (hi : i < N) : f_X4_endsStep fu pp ps (nI i) = some (if i + 1 < N ∧ S i 0 = S (i + 1) 0 then 0 else 1) := by
  have hs := b_step fu h hi
  obtain ⟨hN, rfl, h'⟩ := id h
  rw [f_X4_endsStep, nsucc]
  by_cases e : i + 1 < N
  · have h0 := (h' i hi).1.1
    have h1 := (h' (i + 1) e).1.1
    rw [if_neg (by rw [nle (by omega) (by omega)]; omega), hs, b_step fu h e, Option.bind_some, Option.bind_some]
    by_cases q : S i 0 = S (i + 1) 0
    · rw [if_pos (by rw [q]), if_pos ⟨e, q⟩]
    · rw [if_neg (fun z => q ((nI_eq (by omega) (by omega)).mp z)), if_neg (fun z => q z.2)]
  · rw [if_pos (by rw [nle (by omega) (by omega)]; omega), if_neg (by omega)]
theorem b_steps (fu : Nat) (h : ZPc N S pp ps) : f_X4_steps fu pp ps = some (nI (if N = 0 then 0 else S (N - 1) 0 + 1)) := by
  obtain ⟨hN, rfl, h⟩ := h
  rw [f_X4_steps]
  by_cases e : N = 0
  · rw [if_neg (by rw [n_0lt (by omega)]; omega), if_pos e]; rfl
  · obtain ⟨⟨h0, h1, h2, h3, h4, h5⟩, h6⟩ := h (N - 1) (by omega)
    rw [if_pos (by rw [n_0lt (by omega)]; omega), if_neg e, nsub1 (by omega), if_neg (nI_in (by omega) (by omega)), ncl (by omega), h6, sh17 (by unfold pk; omega), nsucc]
    congr 2; unfold pk; omega
def fbd (s : Nat → Nat) (a b c d : Nat) : Prop := s 0 = a ∧ (¬ (s 1 = b ↔ s 2 = c) ∨ (s 2 = c ∧ s 4 = d))
theorem b_forbids (fu : Nat) (hfu : 1200 < fu) (h : ZPc N S pp ps) {a b c d : Nat} (ha : a < 64) (hb : b < 16) (hc : c < 16) (hd : d < 16) :
    (f_X4_forbids fu pp ps (nI a) (nI b) (nI c) (nI d) = some 1 ∧ ∃ i, i < N ∧ fbd (S i) a b c d) ∨ (f_X4_forbids fu pp ps (nI a) (nI b) (nI c) (nI d) = some 0 ∧ ∀ i, i < N → ¬ fbd (S i) a b c d) := by
  obtain ⟨hN, hps, h'⟩ := id h
  obtain ⟨r, h1, h2⟩ := lp_run (f_X4_forbids_l3 fu pp ps (nI a) (nI b) (nI c) (nI d)) N (fun i s => s = nI i ∧ ∀ j, j < i → ¬ fbd (S j) a b c d) (fun r => (r = .inl () ∧ ∃ i, i < N ∧ fbd (S i) a b c d) ∨ (r = .inr () ∧ ∀ i, i < N → ¬ fbd (S i) a b c d)) (by
    rintro i s hi ⟨rfl, h3⟩
    obtain ⟨g0, g1, g2, g3, g4, g5⟩ := (h' i hi).1
    have key : ∀ k, f_X4_forbids_l3 fu pp ps (nI a) (nI b) (nI c) (nI d) k (nI i) = if S i 0 = a then (if S i 1 = b then (if S i 2 = c then (if S i 4 = d then some (.inl ()) else k (nI (i + 1))) else some (.inl ())) else (if S i 2 = c then some (.inl ()) else k (nI (i + 1)))) else k (nI (i + 1)) := by
      intro k
      unfold f_X4_forbids_l3
      rw [b_step fu h hi, b_from fu h hi, b_to fu h hi, b_toBlock fu h hi, hps]
      simp (disch := omega) only [nlt0, nle, nlt, neqI, ncl, nadd, nmul, nm1, nm1', nsucc, n_eq0, n_eq0', n_eq1, n_le0, n_0lt, n_0le, n_1le, n_le1, n_01, n_10, nsubI, nsub1, naddm1, ofNat_nI, zl2, zl3, zl4, zl5, zl6, zl7, zl8, zl9, zl13, zl15, zl16, zl17, zl31, zl63, zl64, zl100, zl256, zl1000, zl1200, zl7200, zl65536, zl100000, if_true, if_false, or_false, false_or, true_or, or_true, and_true, true_and, false_and, and_false, not_true_eq_false, not_false_eq_true, if_pos, if_neg, Option.bind_some, Option.bind_none, vn, reduceCtorEq]
    have next : ¬ fbd (S i) a b c d → ∀ j, j < i + 1 → ¬ fbd (S j) a b c d := fun q j hj => by
      rcases Nat.lt_succ_iff_lt_or_eq.mp hj with z | z
      · exact h3 j z
      · rw [z]; exact q
    by_cases hf : fbd (S i) a b c d
    · refine Or.inr ⟨.inl (), fun k => ?_, Or.inl ⟨rfl, i, hi, hf⟩⟩
      rw [key k]
      obtain ⟨e0, hf⟩ := hf
      rw [if_pos e0]
      by_cases e1 : S i 1 = b
      · by_cases e2 : S i 2 = c
        · rw [if_pos e1, if_pos e2, if_pos (hf.elim (fun q => absurd ⟨fun _ => e2, fun _ => e1⟩ q) (fun q => q.2))]
        · rw [if_pos e1, if_neg e2]
      · by_cases e2 : S i 2 = c
        · rw [if_neg e1, if_pos e2]
        · exact absurd hf (fun q => q.elim (fun z => z ⟨fun w => absurd w e1, fun w => absurd w e2⟩) (fun z => e2 z.1))
    · refine Or.inl ⟨nI (i + 1), fun k => ?_, rfl, next hf⟩
      rw [key k]
      by_cases e0 : S i 0 = a
      · rw [if_pos e0]
        by_cases e1 : S i 1 = b
        · by_cases e2 : S i 2 = c
          · rw [if_pos e1, if_pos e2, if_neg (fun q => hf ⟨e0, Or.inr ⟨e2, q⟩⟩)]
          · exact absurd ⟨e0, Or.inl (fun q => e2 (q.mp e1))⟩ hf
        · by_cases e2 : S i 2 = c
          · exact absurd ⟨e0, Or.inl (fun q => e1 (q.mpr e2))⟩ hf
          · rw [if_neg e1, if_neg e2]
      · rw [if_neg e0]) (by
    rintro s ⟨rfl, h3⟩
    refine ⟨.inr (), fun k => ?_, Or.inr ⟨rfl, h3⟩⟩
    unfold f_X4_forbids_l3
    rw [hps, if_pos (by rw [nle (by omega) (by omega)]; omega)]) N 0 0 fu (by omega) (by omega) ⟨rfl, fun j hj => by omega⟩
  unfold f_X4_forbids
  rw [h1]
  rcases h2 with ⟨rfl, q⟩ | ⟨rfl, q⟩
  · exact Or.inl ⟨rfl, q⟩
  · exact Or.inr ⟨rfl, q⟩
end PL
