theorem b_atX (fu n : Nat) (hn : n ≤ 16) (x1 x2 : Int32) (h : hx n x1 = false ∨ hx 16 x2 = false) : f_X8_atX fu (nI n) x1 x2 = some () := by
  unfold f_X8_atX
  rw [b_isHost fu n (by omega), b_isBlock]
  simp only [Option.bind_some]
  by_cases g : hx n x1 = true
  · rcases h with h | h
    · rw [h] at g
      cases g
    · simp [h, g]
  · simp [g]
theorem b_atR (fu n a b : Nat) (hn : n ≤ 16) (ha : a < n) (hb : b < 16) (en : Nat → Int32) : f_X8_at fu (nI n) en (nI a) (nI b) = some (en (16 * a + b)) := by
  unfold f_X8_at
  rw [b_isHost fu n (by omega), b_isBlock, hx_nI (n := n) (j := a) (by omega), hx_nI (n := 16) (j := b) (by omega), decide_eq_true ha, decide_eq_true hb, b_cell]
  simp only [Option.bind_some]
  rw [b_value fu _ en (by omega)]
  simp
set_option maxHeartbeats 4000000 in
set_option maxRecDepth 100000 in
theorem LC_at {p : Program} {l : Launch} {e : Env} {s : State} {m : MethodId} {below : List Frame} {meth : Method} {c : Code} {A : Nat → Prop} {Q : State → Prop} {G : va_G} {cy : Nat → ClassId} {b L : Nat} {xs : Nat → Int32} (X : zX p s m #[Value.ref b] meth c RL cL_law 7 wsLw G cy A) (hX : va_X b L xs s s.heap) (hbl : b < s.heap.size) (hbA : ¬ A b) (fu : Nat) (hfu : 65536 < fu) (hL : L ≤ 3584) {i : Nat} (hi : i + 7 ≤ L) (hlt : l.stackTraces = false) (sa : Nat) (hsa : vk_R RX8 110 "no such block" sa s) (hZu : vx_Zq Bundle.tN "UNASSIGNED_STACK" Bundle.steD A s s.heap) (hZn : vx_Zq Bundle.tN "SUPPRESSED_SENTINEL" Bundle.listD A s s.heap) (hNw : ∀ w ∈ zxB, va_Nw w s) (K : zLA p l e s m below meth c A Q G cy b (i + 7) i 900) : zLA p l e s m below meth c A Q G cy b i i 316 := by
  intro tq hq nq sq kq wq rq pq dq mq oq h_alive h_late h_hbr h_rbh h_waits h_pers h_size h_ranks h_lines p_packed p_size d_packed d_size e_num e_und s_some s_more s_sund s_mund s_group k_ahead k_behind w_drawn w_house w_m w_root w_step w_lacks r_joined r_steps r_reached r_m r_all m_hosts m_lost m_late m_wait m_per m_blocks m_sends m_many m_made m_madeMany m_lacking m_thrown m_now m_ahead m_then m_time m_timeThen m_isThere m_comes o_out cells slots H locs ls hR hc hs hH hl
  obtain ⟨n, lv, h1, h2, h3, h4, h5⟩ := hR
  obtain ⟨hn2, hn16, hsz, hmh, hre⟩ := id h1
  rcases B_at fu n hn2 hn16 h4 (xs (i + 1)) (xs (i + 2)) with ⟨hq9, e2⟩ | ⟨a, b9, ha, hb9, e3, e4, e2⟩
  · have e1 := b_atX fu n hn16 _ _ hq9
    rw [← hsz] at e1
    rw [← hmh] at e2
    exact wL_atX G cy fu tq hq nq sq kq wq rq pq dq mq oq h_alive h_late h_hbr h_rbh h_waits h_pers h_size h_ranks h_lines p_packed p_size d_packed d_size e_num e_und s_some s_more s_sund s_mund s_group k_ahead k_behind w_drawn w_house w_m w_root w_step w_lacks r_joined r_steps r_reached r_m r_all m_hosts m_lost m_late m_wait m_per m_blocks m_sends m_many m_made m_madeMany m_lacking m_thrown m_now m_ahead m_then m_time m_timeThen m_isThere m_comes o_out X hX hbl hbA ⟨Nat.le_trans (Nat.add_le_add_right hc 1) (Nat.le_trans (show 100 + i + 1 ≤ 4000 by omega) (Nat.le_of_ble_eq_true rfl)), Nat.le_trans (Nat.add_le_add_right hs 6) (Nat.le_trans (show 200000 + i + 6 ≤ 204000 by omega) (Nat.le_of_ble_eq_true rfl))⟩ i hi hL hlt sa hsa hZu hZn hNw e1 H locs ls hH hl (fun H locs ls hH hl => wL_atT G cy fu tq hq nq sq kq wq rq pq dq mq oq h_alive h_late h_hbr h_rbh h_waits h_pers h_size h_ranks h_lines p_packed p_size d_packed d_size e_num e_und s_some s_more s_sund s_mund s_group k_ahead k_behind w_drawn w_house w_m w_root w_step w_lacks r_joined r_steps r_reached r_m r_all m_hosts m_lost m_late m_wait m_per m_blocks m_sends m_many m_made m_madeMany m_lacking m_thrown m_now m_ahead m_then m_time m_timeThen m_isThere m_comes o_out X hX hbl hbA ⟨Nat.le_trans (Nat.add_le_add_right hc 1) (Nat.le_trans (show 100 + i + 1 ≤ 4000 by omega) (Nat.le_of_ble_eq_true rfl)), Nat.le_trans (Nat.add_le_add_right hs 6) (Nat.le_trans (show 200000 + i + 6 ≤ 204000 by omega) (Nat.le_of_ble_eq_true rfl))⟩ i hi hL 1 (0, 1) e2 rfl (fun h => absurd h (by decide)) H locs ls hH hl (fun H locs ls hH hl => K ⟨n, lv, h1, h2, h3, h4, h5⟩ (by omega) (by omega) hH hl))
  · have e1 := b_atR fu n a b9 hn16 ha hb9 e_num
    rw [← hsz, ← e3, ← e4] at e1
    rw [← hmh] at e2
    exact wL_atR G cy fu tq hq nq sq kq wq rq pq dq mq oq h_alive h_late h_hbr h_rbh h_waits h_pers h_size h_ranks h_lines p_packed p_size d_packed d_size e_num e_und s_some s_more s_sund s_mund s_group k_ahead k_behind w_drawn w_house w_m w_root w_step w_lacks r_joined r_steps r_reached r_m r_all m_hosts m_lost m_late m_wait m_per m_blocks m_sends m_many m_made m_madeMany m_lacking m_thrown m_now m_ahead m_then m_time m_timeThen m_isThere m_comes o_out X hX hbl hbA ⟨Nat.le_trans (Nat.add_le_add_right hc 0) (Nat.le_trans (show 100 + i + 0 ≤ 4000 by omega) (Nat.le_of_ble_eq_true rfl)), Nat.le_trans (Nat.add_le_add_right hs 0) (Nat.le_trans (show 200000 + i + 0 ≤ 204000 by omega) (Nat.le_of_ble_eq_true rfl))⟩ i hi hL _ e1 H locs ls hH hl (fun H locs ls hH hl => wL_atT G cy fu tq hq nq sq kq wq rq pq dq mq oq h_alive h_late h_hbr h_rbh h_waits h_pers h_size h_ranks h_lines p_packed p_size d_packed d_size e_num e_und s_some s_more s_sund s_mund s_group k_ahead k_behind w_drawn w_house w_m w_root w_step w_lacks r_joined r_steps r_reached r_m r_all m_hosts m_lost m_late m_wait m_per m_blocks m_sends m_many m_made m_madeMany m_lacking m_thrown m_now m_ahead m_then m_time m_timeThen m_isThere m_comes (vp_updL o_out 0 (e_num (16 * a + b9)).toInt64) X hX hbl hbA ⟨Nat.le_trans (Nat.add_le_add_right hc 0) (Nat.le_trans (show 100 + i + 0 ≤ 4000 by omega) (Nat.le_of_ble_eq_true rfl)), Nat.le_trans (Nat.add_le_add_right hs 0) (Nat.le_trans (show 200000 + i + 0 ≤ 204000 by omega) (Nat.le_of_ble_eq_true rfl))⟩ i hi hL 0 (e_num (16 * a + b9), 0) e2 rfl (fun _ => rfl) H locs ls hH hl (fun H locs ls hH hl => K ⟨n, lv, h1, h2, h3, h4, h5⟩ (by omega) (by omega) hH hl))
