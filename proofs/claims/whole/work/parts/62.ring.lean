/-! the rows of puts of a step; the ring -/
def ZK (fu n : Nat) (lv : Nat → Bool) (hb lo wa mw : Nat → Int32) (m : Nat) : Prop := 1200 < fu ∧ n ≤ 16 ∧ 0 < m ∧ m ≤ 16 ∧ fb_ct lv n = m ∧ (∀ r, r < m → f_X3_hostOf fu hb (nI m) (nI r) = some (nI (hst lv n r))) ∧ (∀ r, r < m → f_X9_hostOf fu lo (nI r) = some (nI (hst lv n r))) ∧ ∀ k, k < 256 → wa k = mw k
def ZN : Nat → Nat → Prop := fun _ _ => False
theorem hst_inj {n : Nat} {lv : Nat → Bool} {i j : Nat} (hi : i < fb_ct lv n) (hj : j < fb_ct lv n) (h : hst lv n i = hst lv n j) : i = j := by
  have h1 := (hst_ok hi).2.2
  have h2 := (hst_ok hj).2.2
  rw [h] at h1
  omega
theorem b_byM (fu : Nat) {m x : Nat} (hm : m ≤ 16) (hx : x < 2 * m) : f_X7_byM fu (nI m) (nI x) = some (nI (x % m)) := by
  unfold f_X7_byM
  rw [if_pos (nI_pos' (by omega))]
  by_cases e : x < m
  · rw [if_pos (by rw [nlt (by omega) (by omega)]; exact e), Nat.mod_eq_of_lt e]
  · rw [if_neg (by rw [nlt (by omega) (by omega)]; exact e), nsubI (by omega), Nat.mod_eq_sub_mod (by omega), Nat.mod_eq_of_lt (by omega)]
theorem nsa {a b m : Nat} (h : b ≤ a + m) : nI a - nI b + nI m = nI (a + m - b) := by
  rw [Int32.sub_eq_add_neg, Int32.add_assoc, Int32.add_comm (-nI b), ← Int32.add_assoc, nadd, ← Int32.sub_eq_add_neg, nsubI h]
theorem b_byMs (fu : Nat) {m a b : Nat} (hm : m ≤ 16) (h1 : b ≤ a + m) (h2 : a < b + 2 * m) (ha : a < 1000) : f_X7_byM fu (nI m) (nI a - nI b) = some (nI ((a + m - b) % m)) := by
  by_cases e : b ≤ a
  · rw [nsubI e, b_byM fu hm (by omega), show a + m - b = a - b + m by omega, Nat.add_mod_right]
  · unfold f_X7_byM
    have h3 : ¬ 0 ≤ nI a - nI b := by
      rw [fa_le, i0, Int32.toInt_sub, nI_toInt (by omega), nI_toInt (by omega), Int.bmod_eq_of_le (by omega) (by omega)]
      omega
    rw [if_neg h3, nsa h1, Nat.mod_eq_of_lt (by omega)]
theorem b_rankOfQ (fu : Nat) {m r q : Nat} (hm : m ≤ 16) (hr : r < m) (hq : q < 2 * m) : f_X7_rankOfQ fu (nI m) (nI r) (nI q) = some (nI ((r + q) % m)) := by
  have h1 : q % m < m := Nat.mod_lt _ (by omega)
  unfold f_X7_rankOfQ
  rw [b_byM fu hm hq, Option.bind_some, nadd, b_byM fu hm (by omega), Option.bind_some, Nat.add_comm r q, Nat.mod_add_mod]
section RW
variable {fu n m : Nat} {lv : Nat → Bool} {hb lo wa mw : Nat → Int32}
theorem J_pt (K : ZK fu n lv hb lo wa mw m) {B t : Nat} {e : Bool} {U : Nat → Nat → Prop} {pp : Nat → Int32} {ps step lacks : Int32} {made : Nat → Int32} {mm lk : Int32} (hJ : ZJ n lv mw B t e U pp ps step lacks made mm lk) {i j bl nn ad x2 x3 : Nat} (hi : i < m) (hj : j < m) (hf : ∀ x y, U x y → x ≠ hst lv n i ∧ y ≠ hst lv n j) (ht : t < 64) (hbl : bl + nn ≤ 16) (hnn : 1 ≤ nn) (had : ad < 2) (hB : B + nn ≤ 1200) (hx2 : x2 < 1000) (hx3 : x3 < 1000) (ei : x2 % m = i) (ej : x3 % m = j) :
    ∃ pp' ps' lacks' made' mm' lk', f_X7_give fu hb wa (nI m) pp ps step lacks (nI i) (nI j) (nI bl) (nI bl) (nI nn) (nI ad) = some (pp', ps', lacks') ∧ f_X9_put fu lo mw made mm lk (nI t) (nI x2) (nI x3) (nI bl) (nI nn) (nI m) (nI ad) = some (made', mm', lk') ∧ ZJ n lv mw (B + nn) t true (fun x y => U x y ∨ (x = hst lv n i ∧ y = hst lv n j)) pp' ps' step lacks' made' mm' lk' := by
  obtain ⟨k1, k2, k3, k4, k5, k6, k7, k8⟩ := K
  subst k5
  exact J_put fu k1 k2 k6 k7 k8 hJ hi hj hf ht hbl hnn had hB hx2 hx3 ei ej
theorem J_row (K : ZK fu n lv hb lo wa mw m) {cb : (Int32 × (Nat → Int32) × Int32 × Int32 → Option ((Nat → Int32) × Int32 × Int32)) → Int32 × (Nat → Int32) × Int32 × Int32 → Option ((Nat → Int32) × Int32 × Int32)} {mb : (Int32 × (Nat → Int32) × Int32 × Int32 → Option ((Nat → Int32) × Int32 × Int32)) → Int32 × (Nat → Int32) × Int32 × Int32 → Option ((Nat → Int32) × Int32 × Int32)} (c t nn ad : Nat) (f g bl x2 x3 : Nat → Nat) {step : Int32}
    (hc : ∀ i, i < c → ∀ pp ps lacks k, cb k (nI i, pp, ps, lacks) = (f_X7_give fu hb wa (nI m) pp ps step lacks (nI (f i)) (nI (g i)) (nI (bl i)) (nI (bl i)) (nI nn) (nI ad)).bind fun z => k (nI (i + 1), z.1, z.2.1, z.2.2))
    (hce : ∀ pp ps lacks k, cb k (nI c, pp, ps, lacks) = some (pp, ps, lacks))
    (hm : ∀ i, i < c → ∀ made mm lk k, mb k (nI i, made, mm, lk) = (f_X9_put fu lo mw made mm lk (nI t) (nI (x2 i)) (nI (x3 i)) (nI (bl i)) (nI nn) (nI m) (nI ad)).bind fun z => k (nI (i + 1), z.1, z.2.1, z.2.2))
    (hme : ∀ made mm lk k, mb k (nI c, made, mm, lk) = some (made, mm, lk))
    {B : Nat} (hcc : c ≤ 16) (hB : B + c * nn ≤ 1200) (ht : t < 64) (hnn : 1 ≤ nn) (had : ad < 2)
    (hf : ∀ i, i < c → f i < m ∧ g i < m ∧ bl i + nn ≤ 16 ∧ x2 i < 1000 ∧ x3 i < 1000 ∧ x2 i % m = f i ∧ x3 i % m = g i) (hinj : ∀ i j, i < j → j < c → f i ≠ f j ∧ g i ≠ g j)
    {pp : Nat → Int32} {ps lacks : Int32} {made : Nat → Int32} {mm lk : Int32} (hJ : ZJ n lv mw B t false ZN pp ps step lacks made mm lk) :
    ∃ r r', lp cb fu (0, pp, ps, lacks) = some r ∧ lp mb fu (0, made, mm, lk) = some r' ∧ ZJ n lv mw (B + c * nn) t (decide (0 < c)) (fun _ _ => True) r.1 r.2.1 step r.2.2 r'.1 r'.2.1 r'.2.2 := by
  obtain ⟨k1, k2, k3, k4, k5, k6, k7, k8⟩ := id K
  refine lp_sim cb mb c (fun i s s' => s.1 = nI i ∧ s'.1 = nI i ∧ ZJ n lv mw (B + i * nn) t (decide (0 < i)) (fun x y => ∃ i', i' < i ∧ x = hst lv n (f i') ∧ y = hst lv n (g i')) s.2.1 s.2.2.1 step s.2.2.2 s'.2.1 s'.2.2.1 s'.2.2.2) _ ?_ ?_ c 0 (0, pp, ps, lacks) (0, made, mm, lk) fu fu (by omega) (by omega) (by omega) ⟨rfl, rfl, ?_⟩
  · rintro i ⟨x, pp, ps, lacks⟩ ⟨y, made, mm, lk⟩ hi ⟨h1, h2, h3⟩
    dsimp only at h1 h2 h3
    subst h1 h2
    obtain ⟨f1, f2, f3, f4, f5, f6, f7⟩ := hf i hi
    have hmul : (i + 1) * nn = i * nn + nn := Nat.succ_mul i nn
    have hle : (i + 1) * nn ≤ c * nn := Nat.mul_le_mul_right nn (by omega)
    obtain ⟨pp', ps', lacks', made', mm', lk', g1, g2, g3⟩ := J_pt K h3 f1 f2 (fun x y q => by
      obtain ⟨i', q1, q2, q3⟩ := q
      obtain ⟨p1, p2, -⟩ := hf i' (by omega)
      have := hinj i' i q1 hi
      exact ⟨fun w => this.1 (hst_inj (n := n) (lv := lv) (by omega) (by omega) (q2.symm.trans w)), fun w => this.2 (hst_inj (n := n) (lv := lv) (by omega) (by omega) (q3.symm.trans w))⟩) ht f3 hnn had (by omega) f4 f5 f6 f7
    refine ⟨(nI (i + 1), pp', ps', lacks'), (nI (i + 1), made', mm', lk'), fun k => by rw [hc i hi, g1]; rfl, fun k => by rw [hm i hi, g2]; rfl, rfl, rfl, ?_⟩
    rw [show decide (0 < i + 1) = true from decide_eq_true (by omega)]
    refine g3.mono (by omega) (fun x y q => ?_)
    rcases q with ⟨i', q1, q2⟩ | q
    · exact ⟨i', by omega, q2⟩
    · exact ⟨i, by omega, q⟩
  · rintro ⟨x, pp, ps, lacks⟩ ⟨y, made, mm, lk⟩ ⟨h1, h2, h3⟩
    dsimp only at h1 h2 h3
    subst h1 h2
    exact ⟨(pp, ps, lacks), (made, mm, lk), fun k => hce _ _ _ k, fun k => hme _ _ _ k, h3.mono (Nat.le_refl _) (fun _ _ _ => trivial)⟩
  · exact hJ.mono (by omega) (fun _ _ q => q.elim)
/-- what a drawing leaves -/
def ZE (n : Nat) (lv : Nat → Bool) (mw : Nat → Int32) (r : (Nat → Int32) × Int32 × Int32 × Int32) (r' : (Nat → Int32) × Int32 × Int32) : Prop := ∃ B t, B ≤ 1200 ∧ ZJ n lv mw B t false ZN r.1 r.2.1 r.2.2.1 r.2.2.2 r'.1 r'.2.1 r'.2.2
theorem J_ringR (K : ZK fu n lv hb lo wa mw m) {r ask : Nat} (hr : r < m) (ha : ask < 2) {pp : Nat → Int32} {ps step lacks : Int32} {made : Nat → Int32} {mm lk : Int32} (hJ : ZJ n lv mw 0 0 false ZN pp ps step lacks made mm lk) : ∃ z z', f_X7_ringFromRoot fu hb wa (nI m) pp ps (nI m) (nI r) step lacks (nI ask) (nI ask) = some z ∧ lp (f_X9_ring_l8 fu lo mw (nI ask) (nI r) (nI m)) fu (0, made, mm, lk) = some z' ∧ ZE n lv mw z z' := by
  obtain ⟨k1, k2, k3, k4, k5, k6, k7, k8⟩ := id K
  obtain ⟨z, z', h1, h2, h3⟩ := lp_sim (f_X7_ringFromRoot_l2 fu hb wa (nI m) (nI m) (nI r) (nI ask) (nI ask)) (f_X9_ring_l8 fu lo mw (nI ask) (nI r) (nI m)) (m - 1) (fun t s s' => s.1 = nI t ∧ s'.1 = nI t ∧ ZJ n lv mw (t * m) t false ZN s.2.1 s.2.2.1 s.2.2.2.1 s.2.2.2.2 s'.2.1 s'.2.2.1 s'.2.2.2) (ZE n lv mw) (by
    rintro t ⟨x, pp, ps, step, lacks⟩ ⟨y, made, mm, lk⟩ ht ⟨h1, h2, h3⟩
    dsimp only at h1 h2 h3
    subst h1 h2
    have hmul : (t + 1) * m = t * m + m := Nat.succ_mul t m
    have hle : (t + 1) * m ≤ 15 * 16 := Nat.mul_le_mul (by omega) (by omega)
    obtain ⟨pp', ps', lacks', made', mm', lk', g1, g2, g3⟩ := J_pt K h3 (i := (r + (t + ask)) % m) (j := (r + (t + ask + 1)) % m) (bl := 0) (nn := m) (ad := ask) (x2 := r + t + ask) (x3 := r + t + ask + 1) (Nat.mod_lt _ k3) (Nat.mod_lt _ k3) (fun x y q => q.elim) (by omega) (by omega) (by omega) ha (by omega) (by omega) (by omega) (by rw [Nat.add_assoc]) (by rw [show r + t + ask + 1 = r + (t + ask + 1) by omega])
    obtain ⟨step', e1, e2⟩ := g3.end fu (by omega)
    refine ⟨(nI (t + 1), pp', ps', step', lacks'), (nI (t + 1), made', mm', lk'), fun k => ?_, fun k => ?_, rfl, rfl, by rw [hmul]; exact e2⟩
    · unfold f_X7_ringFromRoot_l2 f_X7_giveAll
      dsimp only
      rw [nsub1 (by omega), if_neg (by rw [nle (by omega) (by omega)]; omega), nadd, nsucc, b_rankOfQ fu k4 hr (by omega), Option.bind_some, b_rankOfQ fu k4 hr (by omega), Option.bind_some, nsucc]
      have g1' : f_X7_give fu hb wa (nI m) pp ps step lacks (nI ((r + (t + ask)) % m)) (nI ((r + (t + ask + 1)) % m)) 0 0 (nI m) (nI ask) = some (pp', ps', lacks') := g1
      rw [g1', Option.bind_some, Option.bind_some]
      dsimp only
      rw [e1, Option.bind_some]
    · have g2' : f_X9_put fu lo mw made mm lk (nI t) (nI (r + t + ask)) (nI (r + t + ask + 1)) 0 (nI m) (nI m) (nI ask) = some (made', mm', lk') := g2
      unfold f_X9_ring_l8
      dsimp only
      rw [nsub1 (by omega), if_neg (by rw [nle (by omega) (by omega)]; omega), nadd, nadd, nsucc, nsucc]
      rcases (show ask = 0 ∨ ask = 1 by omega) with rfl | rfl
      · rw [if_neg (show ¬ nI 0 = (1 : Int32) by decide)]
        have g2'' : f_X9_put fu lo mw made mm lk (nI t) (nI (r + t + 0)) (nI (r + t + 0 + 1)) 0 (nI m) (nI m) 0 = some (made', mm', lk') := g2'
        rw [g2'', Option.bind_some]
      · rw [if_pos (show nI 1 = (1 : Int32) from rfl)]
        have g2'' : f_X9_put fu lo mw made mm lk (nI t) (nI (r + t + 1)) (nI (r + t + 1 + 1)) 0 (nI m) (nI m) 1 = some (made', mm', lk') := g2'
        rw [g2'', Option.bind_some]) (by
    rintro ⟨x, pp, ps, step, lacks⟩ ⟨y, made, mm, lk⟩ ⟨h1, h2, h3⟩
    dsimp only at h1 h2 h3
    subst h1 h2
    have hle : (m - 1) * m ≤ 15 * 16 := Nat.mul_le_mul (by omega) (by omega)
    refine ⟨(pp, ps, step, lacks), (made, mm, lk), fun k => ?_, fun k => ?_, (m - 1) * m, m - 1, by omega, h3⟩
    · unfold f_X7_ringFromRoot_l2
      dsimp only
      rw [nsub1 (by omega), if_pos (by rw [nle (by omega) (by omega)]; omega)]
    · unfold f_X9_ring_l8
      dsimp only
      rw [nsub1 (by omega), if_pos (by rw [nle (by omega) (by omega)]; omega)]) (m - 1) 0 (0, pp, ps, step, lacks) (0, made, mm, lk) fu fu (by omega) (by omega) (by omega) ⟨rfl, rfl, hJ.mono (by omega) (fun _ _ q => q)⟩
  refine ⟨z, z', ?_, h2, h3⟩
  unfold f_X7_ringFromRoot
  rw [h1, Option.bind_some]
/-- the ring of all: a step for each t, a put for each rank -/
theorem J_ringA (K : ZK fu n lv hb lo wa mw m) (T0 B0 ad first : Nat) (hT : T0 ≤ 15) (hB0 : B0 ≤ 240) (had : ad < 2) (hfi : first < 2) {mbo : (Int32 × (Nat → Int32) × Int32 × Int32 → Option ((Nat → Int32) × Int32 × Int32)) → Int32 × (Nat → Int32) × Int32 × Int32 → Option ((Nat → Int32) × Int32 × Int32)} {mbi : Int32 → (Int32 × (Nat → Int32) × Int32 × Int32 → Option ((Nat → Int32) × Int32 × Int32)) → Int32 × (Nat → Int32) × Int32 × Int32 → Option ((Nat → Int32) × Int32 × Int32)}
    (hmo : ∀ t, t < m - 1 → ∀ made mm lk k, mbo k (nI t, made, mm, lk) = (lp (mbi (nI t)) fu (0, made, mm, lk)).bind fun z => k (nI (t + 1), z.1, z.2.1, z.2.2))
    (hmoe : ∀ made mm lk k, mbo k (nI (m - 1), made, mm, lk) = some (made, mm, lk))
    (hmi : ∀ t, t < m - 1 → ∀ i, i < m → ∀ made mm lk k, mbi (nI t) k (nI i, made, mm, lk) = (f_X9_put fu lo mw made mm lk (nI (T0 + t)) (nI i) (nI (i + 1)) (nI ((i + first + m - t) % m)) 1 (nI m) (nI ad)).bind fun z => k (nI (i + 1), z.1, z.2.1, z.2.2))
    (hmie : ∀ t, t < m - 1 → ∀ made mm lk k, mbi (nI t) k (nI m, made, mm, lk) = some (made, mm, lk))
    {pp : Nat → Int32} {ps step lacks : Int32} {made : Nat → Int32} {mm lk : Int32} (hJ : ZJ n lv mw B0 T0 false ZN pp ps step lacks made mm lk) : ∃ z z', f_X7_ringOfAll fu hb wa (nI m) pp ps (nI m) step lacks (nI first) (nI ad) = some z ∧ lp mbo fu (0, made, mm, lk) = some z' ∧ ZJ n lv mw (B0 + (m - 1) * m) (T0 + (m - 1)) false ZN z.1 z.2.1 z.2.2.1 z.2.2.2 z'.1 z'.2.1 z'.2.2 := by
  obtain ⟨k1, k2, k3, k4, k5, k6, k7, k8⟩ := id K
  obtain ⟨z, z', h1, h2, h3⟩ := lp_sim (f_X7_ringOfAll_l2 fu hb wa (nI m) (nI m) (nI first) (nI ad)) mbo (m - 1) (fun t s s' => s.1 = nI t ∧ s'.1 = nI t ∧ ZJ n lv mw (B0 + t * m) (T0 + t) false ZN s.2.1 s.2.2.1 s.2.2.2.1 s.2.2.2.2 s'.2.1 s'.2.2.1 s'.2.2.2) (fun z z' => ZJ n lv mw (B0 + (m - 1) * m) (T0 + (m - 1)) false ZN z.1 z.2.1 z.2.2.1 z.2.2.2 z'.1 z'.2.1 z'.2.2) (by
    rintro t ⟨x, pp, ps, step, lacks⟩ ⟨y, made, mm, lk⟩ ht ⟨h1, h2, h3⟩
    dsimp only at h1 h2 h3
    subst h1 h2
    have hmul : (t + 1) * m = t * m + m := Nat.succ_mul t m
    have hle : (t + 1) * m ≤ 15 * 16 := Nat.mul_le_mul (by omega) (by omega)
    obtain ⟨r, r', g1, g2, g3⟩ := J_row K (cb := f_X7_ringOfAll_l15 fu hb wa (nI m) (nI m) step (nI first) (nI ad) (nI t)) (mb := mbi (nI t)) m (T0 + t) 1 ad (fun i => i) (fun i => (i + 1) % m) (fun i => (i + first + m - t) % m) (fun i => i) (fun i => i + 1) (fun i hi pp ps lacks k => by
      unfold f_X7_ringOfAll_l15
      dsimp only
      rw [if_neg (by rw [nle (by omega) (by omega)]; omega), nadd, b_byMs fu k4 (by omega) (by omega) (by omega), Option.bind_some, nsucc, b_byM fu k4 (by omega), Option.bind_some]
      rfl) (fun pp ps lacks k => by
      unfold f_X7_ringOfAll_l15
      dsimp only
      rw [if_pos (by rw [nle (by omega) (by omega)]; omega)]) (fun i hi made mm lk k => hmi t ht i hi made mm lk k) (fun made mm lk k => hmie t ht made mm lk k) k4 (by omega) (by omega) (by omega) had (fun i hi => by
      have q1 : (i + 1) % m < m := Nat.mod_lt _ k3
      have q2 : (i + first + m - t) % m < m := Nat.mod_lt _ k3
      exact ⟨hi, q1, by omega, by omega, by omega, Nat.mod_eq_of_lt hi, rfl⟩) (fun i j hij hj => by
      refine ⟨by omega, fun q => ?_⟩
      rw [Nat.mod_eq_of_lt (show i + 1 < m by omega)] at q
      rcases Nat.lt_or_eq_of_le (show j + 1 ≤ m by omega) with w | w
      · rw [Nat.mod_eq_of_lt w] at q; omega
      · rw [w, Nat.mod_self] at q; omega) h3
    obtain ⟨step', e1, e2⟩ := g3.end fu (by omega)
    rw [show (if decide (0 < m) = true then 1 else 0) = 1 from if_pos (decide_eq_true k3)] at e2
    refine ⟨(nI (t + 1), r.1, r.2.1, step', r.2.2), (nI (t + 1), r'.1, r'.2.1, r'.2.2), fun k => ?_, fun k => ?_, rfl, rfl, ?_⟩
    · unfold f_X7_ringOfAll_l2
      dsimp only
      rw [nsub1 (by omega), if_neg (by rw [nle (by omega) (by omega)]; omega), g1, Option.bind_some, e1, Option.bind_some, nsucc]
    · rw [hmo t ht, g2, Option.bind_some]
    · rw [hmul, show B0 + (t * m + m) = B0 + t * m + m * 1 by omega, show T0 + (t + 1) = T0 + t + 1 by omega]
      exact e2) (by
    rintro ⟨x, pp, ps, step, lacks⟩ ⟨y, made, mm, lk⟩ ⟨h1, h2, h3⟩
    dsimp only at h1 h2 h3
    subst h1 h2
    refine ⟨(pp, ps, step, lacks), (made, mm, lk), fun k => ?_, fun k => hmoe _ _ _ k, h3⟩
    unfold f_X7_ringOfAll_l2
    dsimp only
    rw [nsub1 (by omega), if_pos (by rw [nle (by omega) (by omega)]; omega)]) (m - 1) 0 (0, pp, ps, step, lacks) (0, made, mm, lk) fu fu (by omega) (by omega) (by omega) ⟨rfl, rfl, hJ.mono (by omega) (fun _ _ q => q)⟩
  refine ⟨z, z', ?_, h2, h3⟩
  unfold f_X7_ringOfAll
  rw [h1, Option.bind_some]
theorem J_ring (K : ZK fu n lv hb lo wa mw m) {r ask : Nat} (hr : r < m) (ha : ask < 4) {pp : Nat → Int32} {ps step lacks : Int32} {made : Nat → Int32} {mm lk : Int32} (hJ : ZJ n lv mw 0 0 false ZN pp ps step lacks made mm lk) : ∃ z z', f_X7_ring fu hb wa (nI m) pp ps (nI m) (nI r) step lacks (nI ask) = some z ∧ f_X9_ring fu lo mw made mm lk (nI ask) (nI r) (nI m) = some z' ∧ ZE n lv mw z z' := by
  obtain ⟨k1, k2, k3, k4, k5, k6, k7, k8⟩ := id K
  have hle : (m - 1) * m ≤ 15 * 16 := Nat.mul_le_mul (by omega) (by omega)
  have hrem : ∀ x, x < 1000 → nI x - nI x / nI m * nI m = nI (x % m) := fun x hx => pk_rem (by omega) k3 (by omega)
  unfold f_X7_ring f_X9_ring
  rcases (show ask = 0 ∨ ask = 1 ∨ ask = 2 ∨ ask = 3 by omega) with rfl | rfl | rfl | rfl
  · obtain ⟨z, z', h1, h2, h3⟩ := J_ringR K hr (show 0 < 2 by omega) hJ
    have h1' : f_X7_ringFromRoot fu hb wa (nI m) pp ps (nI m) (nI r) step lacks 0 0 = some z := h1
    refine ⟨z, z', ?_, ?_, h3⟩
    · rw [if_pos (show nI 0 = (0 : Int32) from rfl), h1', Option.bind_some]
    · rw [if_neg (show ¬ (2 : Int32) ≤ nI 0 by decide), h2, Option.bind_some]
  · obtain ⟨z, z', h1, h2, h3⟩ := J_ringR K hr (show 1 < 2 by omega) hJ
    have h1' : f_X7_ringFromRoot fu hb wa (nI m) pp ps (nI m) (nI r) step lacks 1 1 = some z := h1
    refine ⟨z, z', ?_, ?_, h3⟩
    · rw [if_neg (show ¬ nI 1 = (0 : Int32) by decide), if_pos (show nI 1 = (1 : Int32) from rfl), h1', Option.bind_some]
    · rw [if_neg (show ¬ (2 : Int32) ≤ nI 1 by decide), h2, Option.bind_some]
  · obtain ⟨z, z', h1, h2, h3⟩ := J_ringA K 0 0 1 0 (by omega) (by omega) (by omega) (by omega) (mbo := f_X9_ring_l59 fu lo mw (nI 2) (nI m)) (mbi := f_X9_ring_l70 fu lo mw (nI 2) (nI m)) (fun t ht made mm lk k => by
      unfold f_X9_ring_l59
      dsimp only
      rw [nsub1 (by omega), if_neg (by rw [nle (by omega) (by omega)]; omega), nsucc]) (fun made mm lk k => by
      unfold f_X9_ring_l59
      dsimp only
      rw [nsub1 (by omega), if_pos (by rw [nle (by omega) (by omega)]; omega)]) (fun t ht i hi made mm lk k => by
      unfold f_X9_ring_l70
      dsimp only
      rw [if_neg (by rw [nle (by omega) (by omega)]; omega), if_neg (by rw [n_eq0 (by omega)]; omega), if_pos (show nI 2 = (2 : Int32) from rfl), nsa (by omega), hrem _ (by omega), nsucc, Nat.zero_add, Nat.add_zero]
      rfl) (fun t ht made mm lk k => by
      unfold f_X9_ring_l70
      dsimp only
      rw [if_pos (by rw [nle (by omega) (by omega)]; omega)]) hJ
    obtain ⟨y, y', g1, g2, g3⟩ := J_ringA K (0 + (m - 1)) (0 + (m - 1) * m) 0 1 (by omega) (by omega) (by omega) (by omega) (mbo := f_X9_ring_l124 fu lo mw (nI 2) (nI m)) (mbi := f_X9_ring_l140 fu lo mw (nI m)) (fun t ht made mm lk k => by
      unfold f_X9_ring_l124
      dsimp only
      rw [nsub1 (by omega), if_neg (by rw [nle (by omega) (by omega)]; omega), if_pos (show nI 2 = (2 : Int32) from rfl), nsucc]) (fun made mm lk k => by
      unfold f_X9_ring_l124
      dsimp only
      rw [nsub1 (by omega), if_pos (by rw [nle (by omega) (by omega)]; omega)]) (fun t ht i hi made mm lk k => by
      unfold f_X9_ring_l140
      dsimp only
      rw [if_neg (by rw [nle (by omega) (by omega)]; omega), if_neg (by rw [n_eq0 (by omega)]; omega), nsub1 (by omega), nadd, nsucc, nsa (by omega), hrem _ (by omega), Nat.zero_add]
      rfl) (fun t ht made mm lk k => by
      unfold f_X9_ring_l140
      dsimp only
      rw [if_pos (by rw [nle (by omega) (by omega)]; omega)]) h3
    have h1' : f_X7_ringOfAll fu hb wa (nI m) pp ps (nI m) step lacks 0 1 = some z := h1
    have g1' : f_X7_ringOfAll fu hb wa (nI m) z.1 z.2.1 (nI m) z.2.2.1 z.2.2.2 1 0 = some y := g1
    refine ⟨y, y', ?_, ?_, 0 + (m - 1) * m + (m - 1) * m, 0 + (m - 1) + (m - 1), by omega, g3⟩
    · rw [if_neg (show ¬ nI 2 = (0 : Int32) by decide), if_neg (show ¬ nI 2 = (1 : Int32) by decide), if_pos (show nI 2 = (2 : Int32) from rfl), h1', Option.bind_some, g1', Option.bind_some]
    · rw [if_pos (show (2 : Int32) ≤ nI 2 by decide), h2, Option.bind_some]
      have g2' : lp (f_X9_ring_l124 fu lo mw (nI 2) (nI m)) fu (0, z'.1, z'.2.1, z'.2.2) = some y' := g2
      rw [g2', Option.bind_some]
  · obtain ⟨z, z', h1, h2, h3⟩ := J_ringA K 0 0 0 0 (by omega) (by omega) (by omega) (by omega) (mbo := f_X9_ring_l59 fu lo mw (nI 3) (nI m)) (mbi := f_X9_ring_l70 fu lo mw (nI 3) (nI m)) (fun t ht made mm lk k => by
      unfold f_X9_ring_l59
      dsimp only
      rw [nsub1 (by omega), if_neg (by rw [nle (by omega) (by omega)]; omega), nsucc]) (fun made mm lk k => by
      unfold f_X9_ring_l59
      dsimp only
      rw [nsub1 (by omega), if_pos (by rw [nle (by omega) (by omega)]; omega)]) (fun t ht i hi made mm lk k => by
      unfold f_X9_ring_l70
      dsimp only
      rw [if_neg (by rw [nle (by omega) (by omega)]; omega), if_neg (by rw [n_eq0 (by omega)]; omega), if_neg (show ¬ nI 3 = (2 : Int32) by decide), nsa (by omega), hrem _ (by omega), nsucc, Nat.zero_add, Nat.add_zero]
      rfl) (fun t ht made mm lk k => by
      unfold f_X9_ring_l70
      dsimp only
      rw [if_pos (by rw [nle (by omega) (by omega)]; omega)]) hJ
    have h1' : f_X7_ringOfAll fu hb wa (nI m) pp ps (nI m) step lacks 0 0 = some z := h1
    have hend : lp (f_X9_ring_l124 fu lo mw (nI 3) (nI m)) fu (0, z'.1, z'.2.1, z'.2.2) = some z' := by
      obtain ⟨f, rfl⟩ : ∃ f, fu = f + 1 := ⟨fu - 1, by omega⟩
      show f_X9_ring_l124 _ lo mw (nI 3) (nI m) _ (0, z'.1, z'.2.1, z'.2.2) = _
      unfold f_X9_ring_l124
      dsimp only
      rw [if_neg (show ¬ nI 3 = (2 : Int32) by decide), ite_self]
    refine ⟨z, z', ?_, ?_, 0 + (m - 1) * m, 0 + (m - 1), by omega, h3⟩
    · rw [if_neg (show ¬ nI 3 = (0 : Int32) by decide), if_neg (show ¬ nI 3 = (1 : Int32) by decide), if_neg (show ¬ nI 3 = (2 : Int32) by decide), h1', Option.bind_some]
    · rw [if_pos (show (2 : Int32) ≤ nI 3 by decide), h2, Option.bind_some, hend, Option.bind_some]
end RW
