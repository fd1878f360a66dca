/-! a plan drawn in any order, and set in order -/
def srt (E : Nat → Nat → Nat) : Nat → Nat → Nat → Nat
  | 0 => fun _ _ => 0
  | k + 1 => ins (pos k (srt E k) (E k)) (srt E k) (E k)
theorem srt_all {E : Nat → Nat → Nat} {P : (Nat → Nat) → Prop} : ∀ {M : Nat}, (∀ k, k < M → P (E k)) → ∀ i, i < M → P (srt E M i)
  | 0, _, i, hi => absurd hi (Nat.not_lt_zero i)
  | M + 1, h, i, hi => ins_all (pos_le M (srt E M) (E M)) (srt_all (fun k hk => h k (by omega))) (h M (by omega)) i hi
theorem srt_from {E : Nat → Nat → Nat} {M i : Nat} (hi : i < M) : ∃ k, k < M ∧ srt E M i = E k := srt_all (P := fun t => ∃ k, k < M ∧ t = E k) (fun k hk => ⟨k, hk, rfl⟩) i hi
theorem srt_to {E : Nat → Nat → Nat} : ∀ {M k : Nat}, k < M → ∃ i, i < M ∧ srt E M i = E k
  | 0, k, hk => absurd hk (Nat.not_lt_zero k)
  | M + 1, k, hk => by
    have hp := pos_le M (srt E M) (E M)
    rcases Nat.lt_succ_iff_lt_or_eq.mp hk with q | q
    · obtain ⟨i, h1, h2⟩ := srt_to (E := E) q
      by_cases e : i < pos M (srt E M) (E M)
      · refine ⟨i, by omega, ?_⟩
        show ins _ _ _ i = _
        unfold ins
        rw [if_pos e]; exact h2
      · refine ⟨i + 1, by omega, ?_⟩
        show ins _ _ _ (i + 1) = _
        unfold ins
        rw [if_neg (by omega), if_neg (by omega)]; exact h2
    · refine ⟨pos M (srt E M) (E M), by omega, ?_⟩
      show ins _ _ _ _ = _
      unfold ins
      rw [if_neg (by omega), if_pos rfl, q]
theorem srt_cong {E E' : Nat → Nat → Nat} : ∀ {M : Nat}, (∀ k, k < M → E k = E' k) → srt E M = srt E' M
  | 0, _ => rfl
  | M + 1, h => by
    have ih := srt_cong (E := E) (E' := E') (M := M) (fun k hk => h k (by omega))
    show ins (pos M (srt E M) (E M)) (srt E M) (E M) = ins (pos M (srt E' M) (E' M)) (srt E' M) (E' M)
    rw [ih, h M (by omega)]
theorem ins_ct {S : Nat → Nat → Nat} {s : Nat → Nat} (P : (Nat → Nat) → Bool) {h : Nat} : ∀ {N : Nat}, h ≤ N → fb_ct (fun i => P (ins h S s i)) (N + 1) = fb_ct (fun i => P (S i)) N + (if P s then 1 else 0)
  | 0, hh => by
    rw [fb_ct_succ]
    have e : h = 0 := by omega
    subst e
    show fb_ct (fun i => P (ins 0 S s i)) 0 + (if P (ins 0 S s 0) = true then 1 else 0) = _
    rw [show ins 0 S s 0 = s from rfl]
    rfl
  | N + 1, hh => by
    rw [fb_ct_succ]
    rcases Nat.lt_or_eq_of_le hh with q | q
    · rw [ins_ct P (N := N) (by omega), fb_ct_succ]
      have e : ins h S s (N + 1) = S N := by
        unfold ins
        rw [if_neg (by omega), if_neg (by omega)]
        rfl
      rw [e]; omega
    · have e : ins h S s (N + 1) = s := by
        unfold ins
        rw [if_neg (by omega), if_pos q.symm]
      rw [e]
      congr 1
      refine fb_ct_cong fun i hi => ?_
      show P (ins h S s i) = P (S i)
      unfold ins
      rw [if_pos (by omega)]
theorem srt_ct {E : Nat → Nat → Nat} (P : (Nat → Nat) → Bool) : ∀ M : Nat, fb_ct (fun i => P (srt E M i)) M = fb_ct (fun i => P (E i)) M
  | 0 => rfl
  | M + 1 => by
    show fb_ct (fun i => P (ins (pos M (srt E M) (E M)) (srt E M) (E M) i)) (M + 1) = _
    rw [ins_ct P (pos_le M (srt E M) (E M)), fb_ct_succ, srt_ct P M]
theorem stp_ub {S : Nat → Nat → Nat} : ∀ {n i : Nat}, i < n → S i 0 < stp S n
  | 0, i, h => absurd h (Nat.not_lt_zero i)
  | n + 1, i, h => by
    unfold stp
    rcases Nat.lt_succ_iff_lt_or_eq.mp h with q | q
    · have := stp_ub (S := S) q
      split <;> omega
    · subst q
      split <;> omega
theorem stp_srt {E : Nat → Nat → Nat} (M : Nat) : stp (srt E M) M = stp E M := by
  refine Nat.le_antisymm (stp_le fun i hi => ?_) (stp_le fun i hi => ?_)
  · obtain ⟨k, hk, e⟩ := srt_from (E := E) hi
    rw [e]; exact stp_ub hk
  · obtain ⟨k, hk, e⟩ := srt_to (E := E) hi
    rw [← e]; exact stp_ub hk
theorem tck_srt {E : Nat → Nat → Nat} (M : Nat) (mw mp : Nat → Int32) : tck M (srt E M) mw mp = tck M E mw mp := by
  have hl : ∀ s, lct M (srt E M) s = lct M E s := fun s => srt_ct (fun t => sl t s) M
  have ht : ∀ s, tm M (srt E M) mw mp s = tm M E mw mp s := fun s => by unfold tm; rw [hl]
  unfold tck
  rw [stp_srt]
  refine fb_sm_cong fun st _ => ?_
  unfold mxs
  refine mx_eq (fun i hi hp => ?_) (fun i hi hp => ?_)
  · obtain ⟨k, hk, e⟩ := srt_from (E := E) hi
    refine ⟨k, hk, ?_, ?_⟩
    · rw [e] at hp; exact hp
    · show tm M E mw mp (E k) = tm M (srt E M) mw mp (srt E M i)
      rw [ht, e]
  · obtain ⟨k, hk, e⟩ := srt_to (E := E) hi
    refine ⟨k, hk, ?_, ?_⟩
    · rw [← e] at hp; exact hp
    · show tm M (srt E M) mw mp (srt E M k) = tm M E mw mp (E i)
      rw [ht, e]
/-! one put: sends of some blocks from a to b in a step -/
def sd (t a b c d e : Nat) : Nat → Nat := fun k => if k = 0 then t else if k = 1 then a else if k = 2 then b else if k = 3 then c else if k = 4 then d else e
def apE (M : Nat) (E : Nat → Nat → Nat) (t a b bl tb ad : Nat) : Nat → Nat → Nat := fun k => if k < M then E k else sd t a b (bl + (k - M)) (tb + (k - M)) ad
theorem apE_lt {M : Nat} {E : Nat → Nat → Nat} {t a b bl tb ad k : Nat} (h : k < M) : apE M E t a b bl tb ad k = E k := by unfold apE; rw [if_pos h]
theorem apE_ge {M : Nat} {E : Nat → Nat → Nat} {t a b bl tb ad j : Nat} : apE M E t a b bl tb ad (M + j) = sd t a b (bl + j) (tb + j) ad := by
  unfold apE
  rw [if_neg (by omega), show M + j - M = j by omega]
theorem upd6 (f : Nat → Int32) (p : Nat) (v0 v1 v2 v3 v4 v5 : Int32) (q : Nat) : upd (upd (upd (upd (upd (upd f p v0) (p + 1) v1) (p + 2) v2) (p + 3) v3) (p + 4) v4) (p + 5) v5 q = if q = p then v0 else if q = p + 1 then v1 else if q = p + 2 then v2 else if q = p + 3 then v3 else if q = p + 4 then v4 else if q = p + 5 then v5 else f q := by
  simp only [upd]
  by_cases h0 : q = p
  · subst h0
    rw [if_neg (by omega), if_neg (by omega), if_neg (by omega), if_neg (by omega), if_neg (by omega), if_pos rfl, if_pos rfl]
  · by_cases h1 : q = p + 1
    · subst h1
      rw [if_neg (by omega), if_neg (by omega), if_neg (by omega), if_neg (by omega), if_pos rfl, if_neg (by omega), if_pos rfl]
    · by_cases h2 : q = p + 2
      · subst h2
        rw [if_neg (by omega), if_neg (by omega), if_neg (by omega), if_pos rfl, if_neg (by omega), if_neg (by omega), if_pos rfl]
      · by_cases h3 : q = p + 3
        · subst h3
          rw [if_neg (by omega), if_neg (by omega), if_pos rfl, if_neg (by omega), if_neg (by omega), if_neg (by omega), if_pos rfl]
        · by_cases h4 : q = p + 4
          · subst h4
            rw [if_neg (by omega), if_pos rfl, if_neg (by omega), if_neg (by omega), if_neg (by omega), if_neg (by omega), if_pos rfl]
          · by_cases h5 : q = p + 5
            · subst h5
              rw [if_pos rfl, if_neg (by omega), if_neg (by omega), if_neg (by omega), if_neg (by omega), if_neg (by omega), if_pos rfl]
            · rw [if_neg h5, if_neg h4, if_neg h3, if_neg h2, if_neg h1, if_neg h0, if_neg h0, if_neg h1, if_neg h2, if_neg h3, if_neg h4, if_neg h5]
theorem m_putL (fu M nn : Nat) (E : Nat → Nat → Nat) (made : Nat → Int32) (hfu : 1200 < fu) {t a b bl ad : Nat} (had : ad < 2) (hB : M + nn ≤ 1200) (hnn : nn ≤ 16) (h : ∀ i, i < M → ∀ k, k < 6 → made (6 * i + k) = nI (E i k)) :
    ∃ r, lp (f_X9_put_l45 fu (nI t) (nI bl) (nI nn) (nI ad) (nI a) (nI b)) fu (0, made, nI M) = some (r, nI (M + nn)) ∧ ∀ i, i < M + nn → ∀ k, k < 6 → r (6 * i + k) = nI (apE M E t a b bl bl ad i k) := by
  obtain ⟨r, h1, h2⟩ := lp_run (f_X9_put_l45 fu (nI t) (nI bl) (nI nn) (nI ad) (nI a) (nI b)) nn (fun j s => s.1 = nI j ∧ s.2.2 = nI (M + j) ∧ ∀ i, i < M + j → ∀ k, k < 6 → s.2.1 (6 * i + k) = nI (apE M E t a b bl bl ad i k)) (fun r => r.2 = nI (M + nn) ∧ ∀ i, i < M + nn → ∀ k, k < 6 → r.1 (6 * i + k) = nI (apE M E t a b bl bl ad i k)) (by
    rintro j ⟨x, g, mm⟩ hj ⟨h1, h2, h3⟩
    dsimp only at h1 h2 h3
    subst h1 h2
    left
    refine ⟨(nI (j + 1), upd (upd (upd (upd (upd (upd g (6 * (M + j)) (nI t)) (6 * (M + j) + 1) (nI a)) (6 * (M + j) + 2) (nI b)) (6 * (M + j) + 3) (nI (bl + j))) (6 * (M + j) + 4) (nI (bl + j))) (6 * (M + j) + 5) (nI ad), nI (M + j + 1)), fun k => ?_, rfl, rfl, fun i hi k hk => ?_⟩
    · rcases (show ad = 0 ∨ ad = 1 by omega) with rfl | rfl
      · simp (disch := omega) only [f_X9_put_l45, nlt0, nle, nlt, neqI, ncl, nadd, nmul, nm1, nm1', nsucc, n_eq0, n_eq0', n_eq1, n_le0, n_0lt, n_0le, n_1le, n_le1, n_01, n_10, nsubI, nsub1, naddm1, ofNat_nI, zl2, zl3, zl4, zl5, zl6, zl7, zl8, zl9, zl13, zl15, zl16, zl17, zl31, zl63, zl64, zl100, zl256, zl1000, zl1200, zl7200, zl65536, zl100000, if_true, if_false, or_false, false_or, true_or, or_true, and_true, true_and, false_and, and_false, not_true_eq_false, not_false_eq_true, if_pos, if_neg, Option.bind_some, Option.bind_none, vn, reduceCtorEq]
        rfl
      · simp (disch := omega) only [f_X9_put_l45, nlt0, nle, nlt, neqI, ncl, nadd, nmul, nm1, nm1', nsucc, n_eq0, n_eq0', n_eq1, n_le0, n_0lt, n_0le, n_1le, n_le1, n_01, n_10, nsubI, nsub1, naddm1, ofNat_nI, zl2, zl3, zl4, zl5, zl6, zl7, zl8, zl9, zl13, zl15, zl16, zl17, zl31, zl63, zl64, zl100, zl256, zl1000, zl1200, zl7200, zl65536, zl100000, if_true, if_false, or_false, false_or, true_or, or_true, and_true, true_and, false_and, and_false, not_true_eq_false, not_false_eq_true, if_pos, if_neg, Option.bind_some, Option.bind_none, vn, reduceCtorEq]
        rfl
    · show upd _ _ _ _ = _
      rw [upd6]
      rcases Nat.lt_succ_iff_lt_or_eq.mp (show i < M + j + 1 by omega) with q | q
      · rw [if_neg (by omega), if_neg (by omega), if_neg (by omega), if_neg (by omega), if_neg (by omega), if_neg (by omega)]
        exact h3 i q k hk
      · subst q
        rw [apE_ge]
        rcases (show k = 0 ∨ k = 1 ∨ k = 2 ∨ k = 3 ∨ k = 4 ∨ k = 5 by omega) with rfl | rfl | rfl | rfl | rfl | rfl
        · rw [if_pos (by omega)]; rfl
        · rw [if_neg (by omega), if_pos (by omega)]; rfl
        · rw [if_neg (by omega), if_neg (by omega), if_pos (by omega)]; rfl
        · rw [if_neg (by omega), if_neg (by omega), if_neg (by omega), if_pos (by omega)]; rfl
        · rw [if_neg (by omega), if_neg (by omega), if_neg (by omega), if_neg (by omega), if_pos (by omega)]; rfl
        · rw [if_neg (by omega), if_neg (by omega), if_neg (by omega), if_neg (by omega), if_neg (by omega), if_pos (by omega)]; rfl) (by
    rintro ⟨x, g, mm⟩ ⟨h1, h2, h3⟩
    dsimp only at h1 h2 h3
    subst h1 h2
    refine ⟨(g, nI (M + nn)), fun k => ?_, rfl, h3⟩
    simp (disch := omega) only [f_X9_put_l45, nlt0, nle, nlt, neqI, ncl, nadd, nmul, nm1, nm1', nsucc, n_eq0, n_eq0', n_eq1, n_le0, n_0lt, n_0le, n_1le, n_le1, n_01, n_10, nsubI, nsub1, naddm1, ofNat_nI, zl2, zl3, zl4, zl5, zl6, zl7, zl8, zl9, zl13, zl15, zl16, zl17, zl31, zl63, zl64, zl100, zl256, zl1000, zl1200, zl7200, zl65536, zl100000, if_true, if_false, or_false, false_or, true_or, or_true, and_true, true_and, false_and, and_false, not_true_eq_false, not_false_eq_true, if_pos, if_neg, Option.bind_some, Option.bind_none, vn, reduceCtorEq]) nn 0 (0, made, nI M) fu (by omega) (by omega) ⟨rfl, rfl, fun i hi k hk => by
      rw [apE_lt (by omega)]; exact h i (by omega) k hk⟩
  refine ⟨r.1, ?_, h2.2⟩
  rw [h1]
  congr 1
  exact Prod.ext rfl h2.1
