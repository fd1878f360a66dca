/-- what line does to the lines, on both sides -/
theorem B_line2 (fu n : Nat) (h0 : 2 ≤ n) (hn : n ≤ 16) {wa pe mw mp : Nat → Int32} {li : Int32} (h : ZLn n wa pe li mw mp) (ps mm x1 x2 x3 x4 : Int32) :
    ∃ r wa' pe' li' mw' mp', ZLn n wa' pe' li' mw' mp' ∧ ((r = 0 ∧ mw' = mw ∧ f_X8_line fu wa pe (nI n) li ps x1 x2 x3 x4 = some (r, wa', pe', li', ps) ∧ f_X9_line fu (nI n) mw mp mm x1 x2 x3 x4 = some (r, mw', mp', mm, 0)) ∨ (r = 1 ∧ f_X8_line fu wa pe (nI n) li ps x1 x2 x3 x4 = some (r, wa', pe', li', 0) ∧ f_X9_line fu (nI n) mw mp mm x1 x2 x3 x4 = some (r, mw', mp', 0, 0))) := by
  unfold f_X8_line f_X9_line
  rw [b_isPair fu n (by omega), m_isHost fu n (by omega) (by omega), m_isHost fu n (by omega) (by omega)]
  simp only [Option.bind_some]
  by_cases e1 : hx n x1 = true
  · by_cases e2 : hx n x2 = true
    · by_cases e3 : x1 = x2
      · exact ⟨0, _, _, _, _, _, h, Or.inl ⟨rfl, rfl, by simp [e3], by simp [e1, e2, e3]⟩⟩
      · obtain ⟨a, ha, ha2, rfl⟩ := hx_t e1
        obtain ⟨b, hb, hb2, rfl⟩ := hx_t e2
        have hab : a ≠ b := fun q => e3 (by rw [q])
        rw [if_pos (⟨e1, e2, e3⟩ : _ ∧ _ ∧ _), e1, e2, if_neg e3]
        simp only [if_true, n_10, if_false]
        rw [m_in, Option.bind_some]
        by_cases e4 : x3 = -1
        · subst e4
          refine ⟨1, _, _, _, _, _, h.part hn ha hb hab x4, Or.inr ⟨rfl, ?_, ?_⟩⟩
          · rw [if_pos rfl, b_part fu a b (by omega) (by omega)]; rfl
          · rw [if_neg (by decide : ¬ ((-1 : Int32) < -1 ∨ (1000 : Int32) < -1)), if_neg (by decide), if_pos rfl, m_tie fu a b (by omega) (by omega)]; rfl
        · rw [if_neg e4, if_neg e4, b_isPace, Option.bind_some]
          by_cases e5 : (x3 < 0 ∨ 1000 < x3)
          · refine ⟨0, _, _, _, _, _, h, Or.inl ⟨rfl, rfl, ?_, ?_⟩⟩
            · rw [if_pos (Or.inl e5), if_pos rfl]
            · have e6 : x3 < -1 ∨ 1000 < x3 := by
                rcases e5 with q | q
                · left
                  rw [fa_lt] at q ⊢
                  rw [i0] at q
                  have e7 : (-1 : Int32).toInt = -1 := by decide
                  have e8 : x3.toInt ≠ -1 := fun z => e4 (by rw [fa_eq, e7]; exact z)
                  rw [e7]; omega
                · exact Or.inr q
              rw [if_pos e6, if_pos rfl]
          · have e6 : ¬ (x3 < -1 ∨ 1000 < x3) := fun q => e5 (q.imp (fun z => by
                rw [fa_lt] at z ⊢
                rw [i0]
                have e7 : (-1 : Int32).toInt = -1 := by decide
                rw [e7] at z; omega) (fun z => z))
            rw [if_neg e6, if_neg n_10.mp, m_in, Option.bind_some]
            by_cases e7 : (x4 < 1 ∨ 1000 < x4)
            · refine ⟨0, _, _, _, _, _, h, Or.inl ⟨rfl, rfl, ?_, ?_⟩⟩
              · rw [if_pos (Or.inr e7), if_pos rfl]
              · rw [if_pos e7, if_pos rfl]
            · obtain ⟨w, hw, rfl⟩ := pace_w e5
              obtain ⟨p, hp1, hp2, rfl⟩ := pace_p e7
              refine ⟨1, _, _, _, _, _, h.join hn ha hb hab hw hp1 hp2, Or.inr ⟨rfl, ?_, ?_⟩⟩
              · have e8 : ¬ ((nI w < 0 ∨ 1000 < nI w) ∨ nI p < 1 ∨ 1000 < nI p) := fun q => q.elim e5 e7
                rw [if_neg e8, if_neg n_10.mp, b_join fu n a b hn ha hb hab]; rfl
              · rw [if_neg e7, if_neg n_10.mp, m_tie fu a b (by omega) (by omega)]; rfl
    · exact ⟨0, _, _, _, _, _, h, Or.inl ⟨rfl, rfl, by simp [e2], by simp [e1, e2]⟩⟩
  · exact ⟨0, _, _, _, _, _, h, Or.inl ⟨rfl, rfl, by simp [e1], by simp [e1]⟩⟩
