theorem kX9_sendFrom : yX9_sendFrom.cls = RX9 ∧ yX9_sendFrom.cls ≠ "java/lang/invoke/MethodHandle" ∧ yX9_sendFrom.cls ≠ "java/lang/invoke/VarHandle" ∧ (parseMethodDescriptor yX9_sendFrom.desc).map (fun d => d.parameters.length) = some 4 := by decide +kernel
theorem iX9_fewest_X9 : ∀ w ∈ u_ws RX9 TX9 19, w ∈ wsX9_fewest := by decide +kernel
theorem iX9_sendFrom_X9 : ∀ w ∈ u_ws RX9 TX9 19, w ∈ wsX9_sendFrom := by decide +kernel
def f_X9_sendFrom_d0 (fu : Nat) (m_comes : Nat → Int32) (x1 : Int32) (x2 : Int32) (x3 : Int32) (x4 : Int32) : Option ((Nat → Int32)) :=
  if x3 = x4 then
    (if x2 < 0 ∨ 256 ≤ (x2).toNatClampNeg then none else
    some (upd m_comes (x2).toNatClampNeg (vp_nar .boolean 1)))
  else
  none
def f_X9_sendFrom_d1_l37 (fu : Nat) (m_lost : Nat → Int32) (m_wait : Nat → Int32) (x1 : Int32) (x2 : Int32) (x3 : Int32) (x4 : Int32) (kk : Int32 × (Nat → Int32) → Option ((Nat → Int32))) (tt : Int32 × (Nat → Int32)) : Option ((Nat → Int32)) :=
  match tt with
  | (x5, m_comes) =>
    if x4 ≤ x5 then
      (some m_comes)
    else
    if ((x2 >>> (x5 &&& 31)) &&& 1) = 0 then
      ((f_X9_hostOf fu m_lost x3).bind fun zr3 =>
      (f_X9_hostOf fu m_lost x5).bind fun zr4 =>
      (f_X9_areJoined fu m_wait zr3 zr4).bind fun zr5 =>
      if zr5 = 0 then
        (kk ((x5 + 1), m_comes))
      else
      (f_X9_sendFrom_d0 fu m_comes x1 (x2 ||| (1 <<< (x5 &&& 31))) (x3 + 1) x4).bind fun zr7 =>
      kk ((x5 + 1), zr7))
    else
    kk ((x5 + 1), m_comes)
def f_X9_sendFrom_d1 (fu : Nat) (m_lost : Nat → Int32) (m_wait : Nat → Int32) (m_comes : Nat → Int32) (x1 : Int32) (x2 : Int32) (x3 : Int32) (x4 : Int32) : Option ((Nat → Int32)) :=
  if x3 = x4 then
    (if x2 < 0 ∨ 256 ≤ (x2).toNatClampNeg then none else
    some (upd m_comes (x2).toNatClampNeg (vp_nar .boolean 1)))
  else
  (f_X9_sendFrom_d0 fu m_comes x1 x2 (x3 + 1) x4).bind fun zr2 =>
  if ((x1 >>> (x3 &&& 31)) &&& 1) = 0 then
    (some zr2)
  else
  (lp (f_X9_sendFrom_d1_l37 fu m_lost m_wait x1 x2 x3 x4) fu (0, zr2)).bind fun zr4 =>
  some zr4
def f_X9_sendFrom_d2_l37 (fu : Nat) (m_lost : Nat → Int32) (m_wait : Nat → Int32) (x1 : Int32) (x2 : Int32) (x3 : Int32) (x4 : Int32) (kk : Int32 × (Nat → Int32) → Option ((Nat → Int32))) (tt : Int32 × (Nat → Int32)) : Option ((Nat → Int32)) :=
  match tt with
  | (x5, m_comes) =>
    if x4 ≤ x5 then
      (some m_comes)
    else
    if ((x2 >>> (x5 &&& 31)) &&& 1) = 0 then
      ((f_X9_hostOf fu m_lost x3).bind fun zr3 =>
      (f_X9_hostOf fu m_lost x5).bind fun zr4 =>
      (f_X9_areJoined fu m_wait zr3 zr4).bind fun zr5 =>
      if zr5 = 0 then
        (kk ((x5 + 1), m_comes))
      else
      (f_X9_sendFrom_d1 fu m_lost m_wait m_comes x1 (x2 ||| (1 <<< (x5 &&& 31))) (x3 + 1) x4).bind fun zr7 =>
      kk ((x5 + 1), zr7))
    else
    kk ((x5 + 1), m_comes)
def f_X9_sendFrom_d2 (fu : Nat) (m_lost : Nat → Int32) (m_wait : Nat → Int32) (m_comes : Nat → Int32) (x1 : Int32) (x2 : Int32) (x3 : Int32) (x4 : Int32) : Option ((Nat → Int32)) :=
  if x3 = x4 then
    (if x2 < 0 ∨ 256 ≤ (x2).toNatClampNeg then none else
    some (upd m_comes (x2).toNatClampNeg (vp_nar .boolean 1)))
  else
  (f_X9_sendFrom_d1 fu m_lost m_wait m_comes x1 x2 (x3 + 1) x4).bind fun zr2 =>
  if ((x1 >>> (x3 &&& 31)) &&& 1) = 0 then
    (some zr2)
  else
  (lp (f_X9_sendFrom_d2_l37 fu m_lost m_wait x1 x2 x3 x4) fu (0, zr2)).bind fun zr4 =>
  some zr4
def f_X9_sendFrom_d3_l37 (fu : Nat) (m_lost : Nat → Int32) (m_wait : Nat → Int32) (x1 : Int32) (x2 : Int32) (x3 : Int32) (x4 : Int32) (kk : Int32 × (Nat → Int32) → Option ((Nat → Int32))) (tt : Int32 × (Nat → Int32)) : Option ((Nat → Int32)) :=
  match tt with
  | (x5, m_comes) =>
    if x4 ≤ x5 then
      (some m_comes)
    else
    if ((x2 >>> (x5 &&& 31)) &&& 1) = 0 then
      ((f_X9_hostOf fu m_lost x3).bind fun zr3 =>
      (f_X9_hostOf fu m_lost x5).bind fun zr4 =>
      (f_X9_areJoined fu m_wait zr3 zr4).bind fun zr5 =>
      if zr5 = 0 then
        (kk ((x5 + 1), m_comes))
      else
      (f_X9_sendFrom_d2 fu m_lost m_wait m_comes x1 (x2 ||| (1 <<< (x5 &&& 31))) (x3 + 1) x4).bind fun zr7 =>
      kk ((x5 + 1), zr7))
    else
    kk ((x5 + 1), m_comes)
def f_X9_sendFrom_d3 (fu : Nat) (m_lost : Nat → Int32) (m_wait : Nat → Int32) (m_comes : Nat → Int32) (x1 : Int32) (x2 : Int32) (x3 : Int32) (x4 : Int32) : Option ((Nat → Int32)) :=
  if x3 = x4 then
    (if x2 < 0 ∨ 256 ≤ (x2).toNatClampNeg then none else
    some (upd m_comes (x2).toNatClampNeg (vp_nar .boolean 1)))
  else
  (f_X9_sendFrom_d2 fu m_lost m_wait m_comes x1 x2 (x3 + 1) x4).bind fun zr2 =>
  if ((x1 >>> (x3 &&& 31)) &&& 1) = 0 then
    (some zr2)
  else
  (lp (f_X9_sendFrom_d3_l37 fu m_lost m_wait x1 x2 x3 x4) fu (0, zr2)).bind fun zr4 =>
  some zr4
def f_X9_sendFrom_d4_l37 (fu : Nat) (m_lost : Nat → Int32) (m_wait : Nat → Int32) (x1 : Int32) (x2 : Int32) (x3 : Int32) (x4 : Int32) (kk : Int32 × (Nat → Int32) → Option ((Nat → Int32))) (tt : Int32 × (Nat → Int32)) : Option ((Nat → Int32)) :=
  match tt with
  | (x5, m_comes) =>
    if x4 ≤ x5 then
      (some m_comes)
    else
    if ((x2 >>> (x5 &&& 31)) &&& 1) = 0 then
      ((f_X9_hostOf fu m_lost x3).bind fun zr3 =>
      (f_X9_hostOf fu m_lost x5).bind fun zr4 =>
      (f_X9_areJoined fu m_wait zr3 zr4).bind fun zr5 =>
      if zr5 = 0 then
        (kk ((x5 + 1), m_comes))
      else
      (f_X9_sendFrom_d3 fu m_lost m_wait m_comes x1 (x2 ||| (1 <<< (x5 &&& 31))) (x3 + 1) x4).bind fun zr7 =>
      kk ((x5 + 1), zr7))
    else
    kk ((x5 + 1), m_comes)
def f_X9_sendFrom_d4 (fu : Nat) (m_lost : Nat → Int32) (m_wait : Nat → Int32) (m_comes : Nat → Int32) (x1 : Int32) (x2 : Int32) (x3 : Int32) (x4 : Int32) : Option ((Nat → Int32)) :=
  if x3 = x4 then
    (if x2 < 0 ∨ 256 ≤ (x2).toNatClampNeg then none else
    some (upd m_comes (x2).toNatClampNeg (vp_nar .boolean 1)))
  else
  (f_X9_sendFrom_d3 fu m_lost m_wait m_comes x1 x2 (x3 + 1) x4).bind fun zr2 =>
  if ((x1 >>> (x3 &&& 31)) &&& 1) = 0 then
    (some zr2)
  else
  (lp (f_X9_sendFrom_d4_l37 fu m_lost m_wait x1 x2 x3 x4) fu (0, zr2)).bind fun zr4 =>
  some zr4
def f_X9_sendFrom_d5_l37 (fu : Nat) (m_lost : Nat → Int32) (m_wait : Nat → Int32) (x1 : Int32) (x2 : Int32) (x3 : Int32) (x4 : Int32) (kk : Int32 × (Nat → Int32) → Option ((Nat → Int32))) (tt : Int32 × (Nat → Int32)) : Option ((Nat → Int32)) :=
  match tt with
  | (x5, m_comes) =>
    if x4 ≤ x5 then
      (some m_comes)
    else
    if ((x2 >>> (x5 &&& 31)) &&& 1) = 0 then
      ((f_X9_hostOf fu m_lost x3).bind fun zr3 =>
      (f_X9_hostOf fu m_lost x5).bind fun zr4 =>
      (f_X9_areJoined fu m_wait zr3 zr4).bind fun zr5 =>
      if zr5 = 0 then
        (kk ((x5 + 1), m_comes))
      else
      (f_X9_sendFrom_d4 fu m_lost m_wait m_comes x1 (x2 ||| (1 <<< (x5 &&& 31))) (x3 + 1) x4).bind fun zr7 =>
      kk ((x5 + 1), zr7))
    else
    kk ((x5 + 1), m_comes)
def f_X9_sendFrom_d5 (fu : Nat) (m_lost : Nat → Int32) (m_wait : Nat → Int32) (m_comes : Nat → Int32) (x1 : Int32) (x2 : Int32) (x3 : Int32) (x4 : Int32) : Option ((Nat → Int32)) :=
  if x3 = x4 then
    (if x2 < 0 ∨ 256 ≤ (x2).toNatClampNeg then none else
    some (upd m_comes (x2).toNatClampNeg (vp_nar .boolean 1)))
  else
  (f_X9_sendFrom_d4 fu m_lost m_wait m_comes x1 x2 (x3 + 1) x4).bind fun zr2 =>
  if ((x1 >>> (x3 &&& 31)) &&& 1) = 0 then
    (some zr2)
  else
  (lp (f_X9_sendFrom_d5_l37 fu m_lost m_wait x1 x2 x3 x4) fu (0, zr2)).bind fun zr4 =>
  some zr4
def f_X9_sendFrom_d6_l37 (fu : Nat) (m_lost : Nat → Int32) (m_wait : Nat → Int32) (x1 : Int32) (x2 : Int32) (x3 : Int32) (x4 : Int32) (kk : Int32 × (Nat → Int32) → Option ((Nat → Int32))) (tt : Int32 × (Nat → Int32)) : Option ((Nat → Int32)) :=
  match tt with
  | (x5, m_comes) =>
    if x4 ≤ x5 then
      (some m_comes)
    else
    if ((x2 >>> (x5 &&& 31)) &&& 1) = 0 then
      ((f_X9_hostOf fu m_lost x3).bind fun zr3 =>
      (f_X9_hostOf fu m_lost x5).bind fun zr4 =>
      (f_X9_areJoined fu m_wait zr3 zr4).bind fun zr5 =>
      if zr5 = 0 then
        (kk ((x5 + 1), m_comes))
      else
      (f_X9_sendFrom_d5 fu m_lost m_wait m_comes x1 (x2 ||| (1 <<< (x5 &&& 31))) (x3 + 1) x4).bind fun zr7 =>
      kk ((x5 + 1), zr7))
    else
    kk ((x5 + 1), m_comes)
def f_X9_sendFrom_d6 (fu : Nat) (m_lost : Nat → Int32) (m_wait : Nat → Int32) (m_comes : Nat → Int32) (x1 : Int32) (x2 : Int32) (x3 : Int32) (x4 : Int32) : Option ((Nat → Int32)) :=
  if x3 = x4 then
    (if x2 < 0 ∨ 256 ≤ (x2).toNatClampNeg then none else
    some (upd m_comes (x2).toNatClampNeg (vp_nar .boolean 1)))
  else
  (f_X9_sendFrom_d5 fu m_lost m_wait m_comes x1 x2 (x3 + 1) x4).bind fun zr2 =>
  if ((x1 >>> (x3 &&& 31)) &&& 1) = 0 then
    (some zr2)
  else
  (lp (f_X9_sendFrom_d6_l37 fu m_lost m_wait x1 x2 x3 x4) fu (0, zr2)).bind fun zr4 =>
  some zr4
def f_X9_sendFrom_d7_l37 (fu : Nat) (m_lost : Nat → Int32) (m_wait : Nat → Int32) (x1 : Int32) (x2 : Int32) (x3 : Int32) (x4 : Int32) (kk : Int32 × (Nat → Int32) → Option ((Nat → Int32))) (tt : Int32 × (Nat → Int32)) : Option ((Nat → Int32)) :=
  match tt with
  | (x5, m_comes) =>
    if x4 ≤ x5 then
      (some m_comes)
    else
    if ((x2 >>> (x5 &&& 31)) &&& 1) = 0 then
      ((f_X9_hostOf fu m_lost x3).bind fun zr3 =>
      (f_X9_hostOf fu m_lost x5).bind fun zr4 =>
      (f_X9_areJoined fu m_wait zr3 zr4).bind fun zr5 =>
      if zr5 = 0 then
        (kk ((x5 + 1), m_comes))
      else
      (f_X9_sendFrom_d6 fu m_lost m_wait m_comes x1 (x2 ||| (1 <<< (x5 &&& 31))) (x3 + 1) x4).bind fun zr7 =>
      kk ((x5 + 1), zr7))
    else
    kk ((x5 + 1), m_comes)
def f_X9_sendFrom_d7 (fu : Nat) (m_lost : Nat → Int32) (m_wait : Nat → Int32) (m_comes : Nat → Int32) (x1 : Int32) (x2 : Int32) (x3 : Int32) (x4 : Int32) : Option ((Nat → Int32)) :=
  if x3 = x4 then
    (if x2 < 0 ∨ 256 ≤ (x2).toNatClampNeg then none else
    some (upd m_comes (x2).toNatClampNeg (vp_nar .boolean 1)))
  else
  (f_X9_sendFrom_d6 fu m_lost m_wait m_comes x1 x2 (x3 + 1) x4).bind fun zr2 =>
  if ((x1 >>> (x3 &&& 31)) &&& 1) = 0 then
    (some zr2)
  else
  (lp (f_X9_sendFrom_d7_l37 fu m_lost m_wait x1 x2 x3 x4) fu (0, zr2)).bind fun zr4 =>
  some zr4
def f_X9_sendFrom_d8_l37 (fu : Nat) (m_lost : Nat → Int32) (m_wait : Nat → Int32) (x1 : Int32) (x2 : Int32) (x3 : Int32) (x4 : Int32) (kk : Int32 × (Nat → Int32) → Option ((Nat → Int32))) (tt : Int32 × (Nat → Int32)) : Option ((Nat → Int32)) :=
  match tt with
  | (x5, m_comes) =>
    if x4 ≤ x5 then
      (some m_comes)
    else
    if ((x2 >>> (x5 &&& 31)) &&& 1) = 0 then
      ((f_X9_hostOf fu m_lost x3).bind fun zr3 =>
      (f_X9_hostOf fu m_lost x5).bind fun zr4 =>
      (f_X9_areJoined fu m_wait zr3 zr4).bind fun zr5 =>
      if zr5 = 0 then
        (kk ((x5 + 1), m_comes))
      else
      (f_X9_sendFrom_d7 fu m_lost m_wait m_comes x1 (x2 ||| (1 <<< (x5 &&& 31))) (x3 + 1) x4).bind fun zr7 =>
      kk ((x5 + 1), zr7))
    else
    kk ((x5 + 1), m_comes)
def f_X9_sendFrom_d8 (fu : Nat) (m_lost : Nat → Int32) (m_wait : Nat → Int32) (m_comes : Nat → Int32) (x1 : Int32) (x2 : Int32) (x3 : Int32) (x4 : Int32) : Option ((Nat → Int32)) :=
  if x3 = x4 then
    (if x2 < 0 ∨ 256 ≤ (x2).toNatClampNeg then none else
    some (upd m_comes (x2).toNatClampNeg (vp_nar .boolean 1)))
  else
  (f_X9_sendFrom_d7 fu m_lost m_wait m_comes x1 x2 (x3 + 1) x4).bind fun zr2 =>
  if ((x1 >>> (x3 &&& 31)) &&& 1) = 0 then
    (some zr2)
  else
  (lp (f_X9_sendFrom_d8_l37 fu m_lost m_wait x1 x2 x3 x4) fu (0, zr2)).bind fun zr4 =>
  some zr4
def f_X9_fewest_l28 (fu : Nat) (kk : Int32 × (Nat → Int32) → Option ((Nat → Int32))) (tt : Int32 × (Nat → Int32)) : Option ((Nat → Int32)) :=
  match tt with
  | (x3, m_isThere) =>
    if 256 ≤ x3 then
      (some m_isThere)
    else
    if x3 < 0 ∨ 256 ≤ (x3).toNatClampNeg then none else
    kk ((x3 + 1), (upd m_isThere (x3).toNatClampNeg (vp_nar .boolean 0)))
def f_X9_fewest_l86 (fu : Nat) (kk : Int32 × (Nat → Int32) → Option ((Nat → Int32))) (tt : Int32 × (Nat → Int32)) : Option ((Nat → Int32)) :=
  match tt with
  | (x4, m_comes) =>
    if 256 ≤ x4 then
      (some m_comes)
    else
    if x4 < 0 ∨ 256 ≤ (x4).toNatClampNeg then none else
    kk ((x4 + 1), (upd m_comes (x4).toNatClampNeg (vp_nar .boolean 0)))
def f_X9_fewest_l111 (fu : Nat) (m_lost : Nat → Int32) (m_wait : Nat → Int32) (m_isThere : Nat → Int32) (x2 : Int32) (kk : Int32 × (Nat → Int32) → Option ((Nat → Int32))) (tt : Int32 × (Nat → Int32)) : Option ((Nat → Int32)) :=
  match tt with
  | (x4, m_comes) =>
    if (1 <<< (x2 &&& 31)) ≤ x4 then
      (some m_comes)
    else
    if x4 < 0 ∨ 256 ≤ (x4).toNatClampNeg then none else
    if (m_isThere (x4).toNatClampNeg) = 0 then
      (kk ((x4 + 1), m_comes))
    else
    (f_X9_sendFrom_d8 fu m_lost m_wait m_comes x4 x4 0 x2).bind fun zr3 =>
    kk ((x4 + 1), zr3)
def f_X9_fewest_l148 (fu : Nat) (m_comes : Nat → Int32) (kk : Int32 × (Nat → Int32) → Option ((Nat → Int32))) (tt : Int32 × (Nat → Int32)) : Option ((Nat → Int32)) :=
  match tt with
  | (x4, m_isThere) =>
    if 256 ≤ x4 then
      (some m_isThere)
    else
    if x4 < 0 ∨ 256 ≤ (x4).toNatClampNeg then none else
    if x4 < 0 ∨ 256 ≤ (x4).toNatClampNeg then none else
    kk ((x4 + 1), (upd m_isThere (x4).toNatClampNeg (vp_nar .boolean (m_comes (x4).toNatClampNeg))))
def f_X9_fewest_l63 (fu : Nat) (m_lost : Nat → Int32) (m_wait : Nat → Int32) (x2 : Int32) (kk : Int32 × (Nat → Int32) × (Nat → Int32) → Option ((Int32 × (Nat → Int32) × (Nat → Int32)) ⊕ ((Nat → Int32) × (Nat → Int32)))) (tt : Int32 × (Nat → Int32) × (Nat → Int32)) : Option ((Int32 × (Nat → Int32) × (Nat → Int32)) ⊕ ((Nat → Int32) × (Nat → Int32))) :=
  match tt with
  | (x3, m_isThere, m_comes) =>
    if x2 ≤ x3 then
      (some (.inr (m_isThere, m_comes)))
    else
    if ((1 <<< (x2 &&& 31)) - 1) < 0 ∨ 256 ≤ (((1 <<< (x2 &&& 31)) - 1)).toNatClampNeg then none else
    if (m_isThere (((1 <<< (x2 &&& 31)) - 1)).toNatClampNeg) = 0 then
      ((lp (f_X9_fewest_l86 fu) fu (0, m_comes)).bind fun zr3 =>
      (lp (f_X9_fewest_l111 fu m_lost m_wait m_isThere x2) fu (0, zr3)).bind fun zr4 =>
      (lp (f_X9_fewest_l148 fu zr4) fu (0, m_isThere)).bind fun zr5 =>
      kk ((x3 + 1), zr5, zr4))
    else
    some (.inl (x3, m_isThere, m_comes))
def f_X9_fewest (fu : Nat) (m_hosts : Int32) (m_lost : Nat → Int32) (m_wait : Nat → Int32) (m_isThere : Nat → Int32) (m_comes : Nat → Int32) (x1 : Int32) : Option (Int32 × Int32 × (Nat → Int32) × (Nat → Int32)) :=
  (f_X9_liveMany fu m_hosts m_lost).bind fun zr1 =>
  (f_X9_isLive fu m_hosts m_lost x1).bind fun zr2 =>
  if zr2 = 0 then
    (some ((-1), 0, m_isThere, m_comes))
  else
  if zr1 ≤ 8 then
    ((lp (f_X9_fewest_l28 fu) fu (0, m_isThere)).bind fun zr5 =>
    (f_X9_rankOf fu m_lost x1).bind fun zr6 =>
    if (1 <<< (zr6 &&& 31)) < 0 ∨ 256 ≤ ((1 <<< (zr6 &&& 31))).toNatClampNeg then none else
    (lp (f_X9_fewest_l63 fu m_lost m_wait zr1) fu (0, (upd zr5 ((1 <<< (zr6 &&& 31))).toNatClampNeg (vp_nar .boolean 1)), m_comes)).bind fun zr7 =>
    (Sum.elim
      (fun zr7_0 =>
        some (zr7_0.1, 0, zr7_0.2.1, zr7_0.2.2)
      )
      (fun zr7_1 =>
        some ((-1), 0, zr7_1.1, zr7_1.2)
      )
    ) zr7)
  else
  some ((-1), 0, m_isThere, m_comes)
