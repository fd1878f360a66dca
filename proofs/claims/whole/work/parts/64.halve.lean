/-! halving -/
theorem xr_n : ∀ (i : Fin 16) (s : Fin 4), nI i.val ^^^ nI (2 ^ s.val) = nI (i.val ^^^ 2 ^ s.val) := by decide +kernel
theorem xr_lt : ∀ (u : Fin 5) (s : Fin 4) (i : Fin 16), s.val < u.val → i.val < 2 ^ u.val → i.val ^^^ 2 ^ s.val < 2 ^ u.val ∧ i.val - i.val % 2 ^ s.val + 2 ^ s.val ≤ 2 ^ u.val := by decide +kernel
theorem xr_inj : ∀ (s : Fin 4) (i j : Fin 16), i.val < j.val → i.val ^^^ 2 ^ s.val ≠ j.val ^^^ 2 ^ s.val := by decide +kernel
section HA
variable {fu n m : Nat} {lv : Nat → Bool} {hb lo wa mw : Nat → Int32}
theorem J_halve2 (K : ZK fu n lv hb lo wa mw m) (hp : 2 ^ tn m = m) {s B : Nat} (hs : s < tn m) (hB : B + m * m ≤ 1200) {pp : Nat → Int32} {ps step lacks : Int32} {made : Nat → Int32} {mm lk : Int32} (hJ : ZJ n lv mw B s false ZN pp ps step lacks made mm lk) :
    ∃ r r', lp (f_X7_halving_l12 fu hb wa (nI m) (nI m) step (nI 2) (nI (2 ^ s))) fu (0, pp, ps, lacks) = some r ∧ lp (f_X9_halve_l18 fu lo mw (nI 2) (nI m) (nI s) (nI (2 ^ s))) fu (0, made, mm, lk) = some r' ∧ ZJ n lv mw (B + m * m) s true (fun _ _ => True) r.1 r.2.1 step r.2.2 r'.1 r'.2.1 r'.2.2 := by
  obtain ⟨k1, k2, k3, k4, k5, k6, k7, k8⟩ := id K
  have htn := tn_le m
  have hx : ∀ i, i < m → nI i ^^^ nI (2 ^ s) = nI (i ^^^ 2 ^ s) := fun i hi => xr_n ⟨i, by omega⟩ ⟨s, by omega⟩
  have hl : ∀ i, i < m → i ^^^ 2 ^ s < m := fun i hi => by
    have := (xr_lt ⟨tn m, by omega⟩ ⟨s, by omega⟩ ⟨i, by omega⟩ hs (by show i < 2 ^ tn m; omega)).1
    simp only [hp] at this
    exact this
  obtain ⟨r, r', g1, g2, g3⟩ := J_row K (cb := f_X7_halving_l12 fu hb wa (nI m) (nI m) step (nI 2) (nI (2 ^ s))) (mb := f_X9_halve_l18 fu lo mw (nI 2) (nI m) (nI s) (nI (2 ^ s))) m s m 1 (fun i => i) (fun i => i ^^^ 2 ^ s) (fun _ => 0) (fun i => i) (fun i => i ^^^ 2 ^ s) (fun i hi pp ps lacks k => by
    unfold f_X7_halving_l12 f_X7_giveAll
    dsimp only
    rw [if_neg (by rw [nle (by omega) (by omega)]; omega), if_pos (show nI 2 = (2 : Int32) from rfl), hx i hi, nsucc, Option.bind_assoc]
    rfl) (fun pp ps lacks k => by
    unfold f_X7_halving_l12
    dsimp only
    rw [if_pos (by rw [nle (by omega) (by omega)]; omega)]) (fun i hi made mm lk k => by
    unfold f_X9_halve_l18
    dsimp only
    rw [if_neg (by rw [nle (by omega) (by omega)]; omega), if_pos (show nI 2 = (2 : Int32) from rfl), hx i hi, nsucc]
    rfl) (fun made mm lk k => by
    unfold f_X9_halve_l18
    dsimp only
    rw [if_pos (by rw [nle (by omega) (by omega)]; omega)]) k4 hB (by omega) k3 (by omega) (fun i hi => by
    have := hl i hi
    exact ⟨hi, this, by omega, by omega, by omega, Nat.mod_eq_of_lt hi, Nat.mod_eq_of_lt this⟩) (fun i j hij hj => ⟨by omega, xr_inj ⟨s, by omega⟩ ⟨i, by omega⟩ ⟨j, by omega⟩ hij⟩) hJ
  rw [show decide (0 < m) = true from decide_eq_true k3] at g3
  exact ⟨r, r', g1, g2, g3⟩
theorem J_halve3 (K : ZK fu n lv hb lo wa mw m) (hp : 2 ^ tn m = m) {s B : Nat} (hs : s < tn m) (hB : B + m * m ≤ 1200) {pp : Nat → Int32} {ps step lacks : Int32} {made : Nat → Int32} {mm lk : Int32} (hJ : ZJ n lv mw B s false ZN pp ps step lacks made mm lk) :
    ∃ r r', lp (f_X7_halving_l12 fu hb wa (nI m) (nI m) step (nI 3) (nI (2 ^ s))) fu (0, pp, ps, lacks) = some r ∧ lp (f_X9_halve_l18 fu lo mw (nI 3) (nI m) (nI s) (nI (2 ^ s))) fu (0, made, mm, lk) = some r' ∧ ZJ n lv mw (B + m * m) s true (fun _ _ => True) r.1 r.2.1 step r.2.2 r'.1 r'.2.1 r'.2.2 := by
  obtain ⟨k1, k2, k3, k4, k5, k6, k7, k8⟩ := id K
  have htn := tn_le m
  have hx : ∀ i, i < m → nI i ^^^ nI (2 ^ s) = nI (i ^^^ 2 ^ s) := fun i hi => xr_n ⟨i, by omega⟩ ⟨s, by omega⟩
  have hl : ∀ i, i < m → i ^^^ 2 ^ s < m ∧ i - i % 2 ^ s + 2 ^ s ≤ m := fun i hi => by
    have := xr_lt ⟨tn m, by omega⟩ ⟨s, by omega⟩ ⟨i, by omega⟩ hs (by show i < 2 ^ tn m; omega)
    simp only [hp] at this
    exact this
  have hpl := p2le (show s ≤ 4 by omega)
  have hlt := (tn_iff k4 (show s ≤ 4 by omega)).mpr hs
  have hmm : m * 2 ^ s ≤ m * m := Nat.mul_le_mul_left m (by omega)
  obtain ⟨r, r', g1, g2, g3⟩ := J_row K (cb := f_X7_halving_l12 fu hb wa (nI m) (nI m) step (nI 3) (nI (2 ^ s))) (mb := f_X9_halve_l18 fu lo mw (nI 3) (nI m) (nI s) (nI (2 ^ s))) m s (2 ^ s) 0 (fun i => i) (fun i => i ^^^ 2 ^ s) (fun i => i - i % 2 ^ s) (fun i => i) (fun i => i ^^^ 2 ^ s) (fun i hi pp ps lacks k => by
    have hmo : i % 2 ^ s ≤ i := Nat.mod_le _ _
    unfold f_X7_halving_l12
    simp only [vn]
    rw [if_neg (by rw [nle (by omega) (by omega)]; omega), if_neg (show ¬ nI 3 = (2 : Int32) by decide), hx i hi, nsub1 hpl.2, fa_mask, nsubI hmo, nsucc]
    rfl) (fun pp ps lacks k => by
    unfold f_X7_halving_l12
    dsimp only
    rw [if_pos (by rw [nle (by omega) (by omega)]; omega)]) (fun i hi made mm lk k => by
    have hmo : i % 2 ^ s ≤ i := Nat.mod_le _ _
    unfold f_X9_halve_l18
    dsimp only
    rw [if_neg (by rw [nle (by omega) (by omega)]; omega), if_neg (show ¬ nI 3 = (2 : Int32) by decide), if_neg (by rw [n_eq0 (by omega)]; omega), hx i hi, pk_rem (by omega) (by omega) (by omega), nsubI hmo, nsucc]
    rfl) (fun made mm lk k => by
    unfold f_X9_halve_l18
    dsimp only
    rw [if_pos (by rw [nle (by omega) (by omega)]; omega)]) k4 (by omega) (by omega) hpl.2 (by omega) (fun i hi => by
    have := hl i hi
    exact ⟨hi, this.1, by omega, by omega, by omega, Nat.mod_eq_of_lt hi, Nat.mod_eq_of_lt this.1⟩) (fun i j hij hj => ⟨by omega, xr_inj ⟨s, by omega⟩ ⟨i, by omega⟩ ⟨j, by omega⟩ hij⟩) hJ
  rw [show decide (0 < m) = true from decide_eq_true k3] at g3
  exact ⟨r, r', g1, g2, g3.mono (by omega) (fun _ _ q => q)⟩
theorem J_halve (K : ZK fu n lv hb lo wa mw m) (hp : 2 ^ tn m = m) {ask : Nat} (ha : ask = 2 ∨ ask = 3) {pp : Nat → Int32} {ps step lacks : Int32} {made : Nat → Int32} {mm lk : Int32} (hJ : ZJ n lv mw 0 0 false ZN pp ps step lacks made mm lk) : ∃ z z', f_X7_halving fu hb wa (nI m) pp ps (nI m) step lacks (nI ask) = some z ∧ f_X9_halve fu lo mw made mm lk (nI ask) (nI m) = some z' ∧ ZE n lv mw z z' := by
  obtain ⟨k1, k2, k3, k4, k5, k6, k7, k8⟩ := id K
  have htn := tn_le m
  have hm2 : m * m ≤ 16 * 16 := Nat.mul_le_mul k4 k4
  obtain ⟨z, z', h1, h2, h3⟩ := lp_sim (f_X7_halving_l2 fu hb wa (nI m) (nI m) (nI ask)) (f_X9_halve_l2 fu lo mw (nI ask) (nI m)) (tn m) (fun s x x' => x.1 = nI (2 ^ s) ∧ x'.1 = nI s ∧ ZJ n lv mw (s * (m * m)) s false ZN x.2.1 x.2.2.1 x.2.2.2.1 x.2.2.2.2 x'.2.1 x'.2.2.1 x'.2.2.2) (ZE n lv mw) (by
    rintro s ⟨x, pp, ps, step, lacks⟩ ⟨y, made, mm, lk⟩ hs ⟨h1, h2, h3⟩
    dsimp only at h1 h2 h3
    subst h1 h2
    have hlt := (tn_iff k4 (show s ≤ 4 by omega)).mpr hs
    have hpl := p2le (show s ≤ 4 by omega)
    have hsh := shl1 ⟨s, by omega⟩
    have hsD := shlD ⟨s, by omega⟩
    dsimp only at hsh hsD
    have hmul : (s + 1) * (m * m) = s * (m * m) + m * m := Nat.succ_mul s (m * m)
    have hle : (s + 1) * (m * m) ≤ 4 * (m * m) := Nat.mul_le_mul_right _ (by omega)
    obtain ⟨r, r', g1, g2, g3⟩ : ∃ r r', lp (f_X7_halving_l12 fu hb wa (nI m) (nI m) step (nI ask) (nI (2 ^ s))) fu (0, pp, ps, lacks) = some r ∧ lp (f_X9_halve_l18 fu lo mw (nI ask) (nI m) (nI s) (nI (2 ^ s))) fu (0, made, mm, lk) = some r' ∧ ZJ n lv mw (s * (m * m) + m * m) s true (fun _ _ => True) r.1 r.2.1 step r.2.2 r'.1 r'.2.1 r'.2.2 := by
      rcases ha with rfl | rfl
      · exact J_halve2 K hp hs (by omega) h3
      · exact J_halve3 K hp hs (by omega) h3
    obtain ⟨step', e1, e2⟩ := g3.end fu (by omega)
    rw [if_pos rfl] at e2
    refine ⟨(nI (2 ^ (s + 1)), r.1, r.2.1, step', r.2.2), (nI (s + 1), r'.1, r'.2.1, r'.2.2), fun k => ?_, fun k => ?_, rfl, rfl, by rw [hmul]; exact e2⟩
    · unfold f_X7_halving_l2
      simp only [vn]
      rw [if_neg (by rw [nle (by omega) (by omega)]; omega), g1, Option.bind_some, e1, Option.bind_some, hsD]
    · unfold f_X9_halve_l2
      simp only [vn]
      rw [m_turns fu k1 k4, Option.bind_some, if_neg (by rw [nle (by omega) (by omega)]; omega), hsh, g2, Option.bind_some, nsucc]) (by
    rintro ⟨x, pp, ps, step, lacks⟩ ⟨y, made, mm, lk⟩ ⟨h1, h2, h3⟩
    dsimp only at h1 h2 h3
    subst h1 h2
    have hle : tn m * (m * m) ≤ 4 * (m * m) := Nat.mul_le_mul_right _ htn
    refine ⟨(pp, ps, step, lacks), (made, mm, lk), fun k => ?_, fun k => ?_, _, _, ?_, h3⟩
    · unfold f_X7_halving_l2
      dsimp only
      rw [hp, if_pos (by rw [nle (by omega) (by omega)]; omega)]
    · unfold f_X9_halve_l2
      dsimp only
      rw [m_turns fu k1 k4, Option.bind_some, if_pos (by rw [nle (by omega) (by omega)]; omega)]
    · omega) (tn m) 0 (1, pp, ps, step, lacks) (0, made, mm, lk) fu fu (by omega) (by omega) (by omega) ⟨rfl, rfl, hJ.mono (by omega) (fun _ _ q => q)⟩
  refine ⟨z, z', ?_, ?_, h3⟩
  · unfold f_X7_halving
    rw [h1, Option.bind_some]
  · unfold f_X9_halve
    rw [h2, Option.bind_some]
end HA
