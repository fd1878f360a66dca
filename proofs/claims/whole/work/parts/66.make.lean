/-! what is drawn and what is made: the same plan, or the same refusal -/
def kn (w a : Nat) : Bool := if w = 0 then decide (a ≠ 4) else if w = 1 then decide (a < 3) else if w = 2 then (decide (a = 2) || decide (a = 3)) else decide (a ≠ 2)
theorem kn_bit : ∀ (w : Fin 4) (a : Fin 5), (((zKn w.val) >>> (nI a.val &&& 31)) &&& 1) = if kn w.val a.val then 1 else 0 := by decide +kernel
theorem pw_and : ∀ m : Fin 17, 0 < m.val → ((nI m.val &&& (nI m.val - 1)) = 0 ↔ 2 ^ tn m.val = m.val) := by decide +kernel
theorem isWay0 : ∀ (w : Fin 4) (a : Fin 5) (m : Fin 17), 0 < m.val → f_X9_isWay 0 (nI w.val) (nI a.val) (nI m.val) = some (if (kn w.val a.val && (decide (w.val ≠ 2) || decide (2 ^ tn m.val = m.val))) then 1 else 0) := by decide +kernel
theorem m_isWay (fu : Nat) {w a m : Nat} (hw : w < 4) (ha : a < 5) (h0 : 0 < m) (hm : m ≤ 16) : f_X9_isWay fu (nI w) (nI a) (nI m) = some (if (kn w a && (decide (w ≠ 2) || decide (2 ^ tn m = m))) then 1 else 0) := isWay0 ⟨w, hw⟩ ⟨a, ha⟩ ⟨m, by omega⟩ h0
theorem m_in3 (fu : Nat) (x : Int32) : f_X9_in fu x 0 3 = some (if hx 4 x then 1 else 0) := by
  have h := m_isHost fu 4 (by omega) (by omega) x
  unfold f_X9_isHost at h
  rw [show nI 4 - 1 = (3 : Int32) from by decide] at h
  rw [m_in] at h ⊢
  rw [Option.bind_some] at h
  by_cases e : (x < 0 ∨ 3 < x)
  · rw [if_pos e] at h ⊢
    simpa using h
  · rw [if_neg e] at h ⊢
    simpa using h
def ZA (n : Nat) (lv : Nat → Bool) (mw : Nat → Int32) (r : Int32) (pp : Nat → Int32) (ps c : Int32) (made : Nat → Int32) (mm : Int32) : Prop := (r = c ∧ (c = -1 ∨ c = -2 ∨ c = -3)) ∨ (c = 0 ∧ ∃ M E, M ≤ 1200 ∧ r = nI (stp E M) ∧ stp E M ≤ 64 ∧ ZPm M E made mm ∧ ZPc M (srt E M) pp ps ∧ ZSo M (srt E M) ∧ (∀ k, k < M → sok (E k)) ∧ ZCp M E ∧ ZLi n lv mw M E)
def ZDr (n : Nat) (lv : Nat → Bool) (mw : Nat → Int32) (cl : Option (Int32 × (Nat → Int32) × Int32 × Value × Value × Int32 × Int32 × Int32 × Int32)) (mo : Option (Int32 × (Nat → Int32) × Int32 × Int32)) : Prop := ∃ x y, cl = some x ∧ mo = some y ∧ ZA n lv mw x.1 x.2.1 x.2.2.1 y.1 y.2.1 y.2.2.1
theorem ZE.fin {n : Nat} {lv : Nat → Bool} {mw : Nat → Int32} (fu : Nat) {z : (Nat → Int32) × Int32 × Int32 × Int32} {z' : (Nat → Int32) × Int32 × Int32} (h : ZE n lv mw z z') (vd vh : Value) (wm wr : Int32) :
    ZDr n lv mw (if z.2.2.2 = 0 then ((f_X4_steps fu z.1 z.2.1).bind fun s => some (s, z.1, z.2.1, vd, vh, wm, wr, z.2.2.1, z.2.2.2)) else some ((-3), z.1, z.2.1, vd, vh, wm, wr, z.2.2.1, z.2.2.2)) (if z'.2.2 = 0 then (some (0, z'.1, z'.2.1, z'.2.2)) else some ((-3), z'.1, z'.2.1, z'.2.2)) := by
  obtain ⟨B, t, hB, M, E, h1, h2, h3⟩ := h
  rcases h3 with ⟨a1, a2, a3, a4, a5, a6, a7, a8, a9, a10⟩ | ⟨a1, a2, N', a3, a4⟩
  · have hs := b_steps fu a4
    have hok : ∀ i, i < M → sok (srt E M i) := srt_all (P := sok) a6
    rw [← stp_so a5 hok, stp_srt] at hs
    rw [if_pos a1, if_pos a2, hs]
    exact ⟨_, _, rfl, rfl, Or.inr ⟨rfl, M, E, by omega, rfl, stp_le (fun i hi => (a6 i hi).1), h2, a4, a5, a6, a7, a8⟩⟩
  · rw [if_neg (by rw [a1]; exact n_10.mp), if_neg (by rw [a2]; exact n_10.mp)]
    exact ⟨_, _, rfl, rfl, Or.inl ⟨rfl, Or.inr (Or.inr rfl)⟩⟩
theorem B_draw (fu n : Nat) (hfu : 1200 < fu) {lv : Nat → Bool} {al hb rb lo wa pe mw mp : Nat → Int32} {sz rk mh li : Int32} (h : ZHo n lv al hb rb sz rk mh lo) (hln : ZLn n wa pe li mw mp) (pq hq : Nat → Nat) (pp : Nat → Int32) (ps : Int32) (vd vh : Value) (wm wr ws wl : Int32) (made : Nat → Int32) (mm lk x1 x2 x3 : Int32) :
    ZDr n lv mw (f_X7_draw fu pq hq al hb rb wa sz rk pp ps vd vh wm wr ws wl x1 x2 x3) (f_X9_make fu mh lo mw made mm lk x1 x2 x3) := by
  obtain ⟨h0, hn, rfl, rfl, ha, hz, hl, rfl, hpos, hr⟩ := id h
  have hct := fb_ct_le lv n
  unfold f_X7_draw f_X9_make
  rw [m_in3, Option.bind_some]
  cases c1 : hx 4 x1 with
  | false =>
    have hc : ∀ {α : Type} (a b : α), (if x1 < 0 then a else if 4 ≤ x1 then a else b) = a := fun a b => by
      rcases hx_f (by omega) c1 with q | ⟨q, q2⟩
      · rw [if_pos q]
      · rw [if_neg q, if_pos (show (4 : Int32) ≤ x1 from q2)]
    rw [hc]
    exact ⟨_, _, rfl, rfl, Or.inl ⟨rfl, Or.inl rfl⟩⟩
  | true =>
    obtain ⟨w, hw, hw', rfl⟩ := hx_t c1
    rw [if_neg (nI_pos hw'), if_neg (show ¬ (4 : Int32) ≤ nI w by rw [zl4, nle (by omega) (by omega)]; omega), if_pos (show true = true from rfl), if_neg n_10.mp, b_isAsked fu n hn lv al ha, m_isAsk fu n (by omega) hn lv lo hl, Option.bind_some, Option.bind_some]
    cases c2 : hx 5 x2 && lx n lv x3 with
    | false => exact ⟨_, _, rfl, rfl, Or.inl ⟨rfl, Or.inl rfl⟩⟩
    | true =>
      rw [Bool.and_eq_true] at c2
      obtain ⟨a, ha5, ha', rfl⟩ := hx_t c2.1
      obtain ⟨j, hj, hj', rfl, hjl⟩ := lx_t c2.2
      have hr0 := ct_lt hj hjl
      have hbeg : f_X7_begin fu al rb (nI n) (nI (fb_ct lv n)) (nI j) = some (0, nI (fb_ct lv n), nI (fb_ct lv j), 0, 0) := by
        unfold f_X7_begin f_X4_empty f_X3_ranks
        rw [b_rankOf fu n j lv al rb hn hj hjl ha (fun j hj hl => (hr j hj hl).2)]
        rfl
      have K : ZK fu n lv hb lo wa mw (fb_ct lv n) := ⟨hfu, hn, hpos, by omega, rfl, fun r hr1 => b_hostOf fu n r lv hb hn hr1 (fun j hj hl => (hr j hj hl).1), fun r hr1 => m_hostOf fu n r hn (by omega) lv lo hl hr1, hln.1⟩
      rw [if_pos (show true = true from rfl), if_neg n_10.mp, if_neg n_10.mp, hbeg, Option.bind_some, if_neg (nI_in hw (by omega)), ncl (by omega), kn_bit ⟨w, hw⟩ ⟨a, ha5⟩, m_liveMany fu n hn (by omega) lv lo hl, Option.bind_some, m_isWay fu hw ha5 hpos (by omega), Option.bind_some, m_rankOf fu n j hn (by omega) (by omega) lv lo hl, Option.bind_some]
      dsimp only
      have hJ := ZJ.start n lv mw pp made
      generalize hm : fb_ct lv n = m at *
      generalize fb_ct lv j = r at *
      cases c3 : kn w a with
      | false =>
        rw [if_neg (show ¬ false = true by decide), if_pos rfl, if_neg (show ¬ (false && _) = true by simp), if_pos rfl]
        exact ⟨_, _, rfl, rfl, Or.inl ⟨rfl, Or.inr (Or.inl rfl)⟩⟩
      | true =>
        rw [if_pos (show true = true from rfl), if_neg n_10.mp, Bool.true_and]
        rcases (show w = 0 ∨ w = 1 ∨ w = 2 ∨ w = 3 by omega) with rfl | rfl | rfl | rfl
        · obtain ⟨z, z', e1, e2, e3⟩ := J_ring K hr0 (show a < 4 by simp [kn] at c3; omega) hJ
          rw [if_pos (show (decide (0 ≠ 2) || decide (2 ^ tn m = m)) = true by simp), if_neg n_10.mp, if_neg (show ¬ nI 0 = (2 : Int32) by decide), if_pos (show nI 0 = (0 : Int32) from rfl), if_pos (show nI 0 = (0 : Int32) from rfl), e1, Option.bind_some, e2, Option.bind_some]
          exact e3.fin fu _ _ _ _
        · obtain ⟨z, z', e1, e2, e3⟩ := J_tree K hr0 (show a < 3 by simp [kn] at c3; omega) hJ
          rw [if_pos (show (decide (1 ≠ 2) || decide (2 ^ tn m = m)) = true by simp), if_neg n_10.mp, if_neg (show ¬ nI 1 = (2 : Int32) by decide), if_neg (show ¬ nI 1 = (0 : Int32) by decide), if_pos (show nI 1 = (1 : Int32) from rfl), if_neg (show ¬ nI 1 = (0 : Int32) by decide), if_pos (show nI 1 = (1 : Int32) from rfl), e1, Option.bind_some, e2, Option.bind_some]
          exact e3.fin fu _ _ _ _
        · have hpw := pw_and ⟨m, by omega⟩ hpos
          dsimp only at hpw
          rw [if_pos (show nI 2 = (2 : Int32) from rfl)]
          by_cases hp : 2 ^ tn m = m
          · obtain ⟨z, z', e1, e2, e3⟩ := J_halve K hp (show a = 2 ∨ a = 3 by simp [kn] at c3; omega) hJ
            rw [if_pos (hpw.mpr hp), if_pos (show (decide (2 ≠ 2) || decide (2 ^ tn m = m)) = true by simp [hp]), if_neg n_10.mp, if_neg (show ¬ nI 2 = (0 : Int32) by decide), if_neg (show ¬ nI 2 = (1 : Int32) by decide), if_pos (show nI 2 = (2 : Int32) from rfl), e1, Option.bind_some, e2, Option.bind_some]
            exact e3.fin fu _ _ _ _
          · rw [if_neg (fun q => hp (hpw.mp q)), if_neg (show ¬ (decide (2 ≠ 2) || decide (2 ^ tn m = m)) = true by simp [hp]), if_pos rfl]
            exact ⟨_, _, rfl, rfl, Or.inl ⟨rfl, Or.inr (Or.inl rfl)⟩⟩
        · obtain ⟨z, z', e1, e2, e3⟩ := J_direct K hr0 ha5 (show a ≠ 2 by simpa [kn] using c3) hJ
          rw [if_pos (show (decide (3 ≠ 2) || decide (2 ^ tn m = m)) = true by simp), if_neg n_10.mp, if_neg (show ¬ nI 3 = (2 : Int32) by decide), if_neg (show ¬ nI 3 = (0 : Int32) by decide), if_neg (show ¬ nI 3 = (1 : Int32) by decide), if_neg (show ¬ nI 3 = (2 : Int32) by decide), if_neg (show ¬ nI 3 = (0 : Int32) by decide), if_neg (show ¬ nI 3 = (1 : Int32) by decide), if_neg (show ¬ nI 3 = (2 : Int32) by decide), e1, Option.bind_some, e2, Option.bind_some]
          exact e3.fin fu _ _ _ _
