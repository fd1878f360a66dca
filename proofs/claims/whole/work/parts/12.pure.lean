def f_J6_bitCount_0f7a4 (fu : Nat) (x0 : Int32) : Option (Int32) :=
  vn ((x0 - (((x0.toUInt32 >>> ((1 : Int32).toUInt32 &&& Int32.toUInt32 31)).toInt32) &&& 1431655765)) : Int32) fun za1 =>
  vn (((za1 &&& 858993459) + (((za1.toUInt32 >>> ((2 : Int32).toUInt32 &&& Int32.toUInt32 31)).toInt32) &&& 858993459)) : Int32) fun za2 =>
  vn (((za2 + ((za2.toUInt32 >>> ((4 : Int32).toUInt32 &&& Int32.toUInt32 31)).toInt32)) &&& 252645135) : Int32) fun za3 =>
  vn ((za3 + ((za3.toUInt32 >>> ((8 : Int32).toUInt32 &&& Int32.toUInt32 31)).toInt32)) : Int32) fun za4 =>
  vn ((za4 + ((za4.toUInt32 >>> ((16 : Int32).toUInt32 &&& Int32.toUInt32 31)).toInt32)) : Int32) fun za5 =>
  some (za5 &&& 63)
def f_J7_fill_53178_l5 (fu : Nat) (vN : Nat) (x1 : Int32) (x3 : Int32) (kk : Int32 × (Nat → Int32) → Option ((Nat → Int32))) (tt : Int32 × (Nat → Int32)) : Option ((Nat → Int32)) :=
  match tt with
  | (x2, v_row) =>
    if x3 ≤ x2 then
      (some v_row)
    else
    if x2 < 0 ∨ vN ≤ (x2).toNatClampNeg then none else
    kk ((x2 + 1), (upd v_row (x2).toNatClampNeg x1))
def f_J7_fill_53178 (fu : Nat) (vN : Nat) (v_row : Nat → Int32) (x1 : Int32) : Option ((Nat → Int32)) :=
  vn ((Int32.ofNat vN) : Int32) fun za1 =>
  (lp (f_J7_fill_53178_l5 fu vN x1 za1) fu (0, v_row)).bind fun zr2 =>
  some zr2
def f_X3_rankAnew_l7 (fu : Nat) (h_alive : Nat → Int32) (h_size : Int32) (kk : Int32 × (Nat → Int32) × (Nat → Int32) × Int32 → Option ((Nat → Int32) × (Nat → Int32) × Int32)) (tt : Int32 × (Nat → Int32) × (Nat → Int32) × Int32) : Option ((Nat → Int32) × (Nat → Int32) × Int32) :=
  match tt with
  | (x1, h_hbr, h_rbh, h_ranks) =>
    if h_size ≤ x1 then
      (some (h_hbr, h_rbh, h_ranks))
    else
    if 16 ≤ x1 then
      (some (h_hbr, h_rbh, h_ranks))
    else
    if x1 < 0 ∨ 16 ≤ (x1).toNatClampNeg then none else
    if (h_alive (x1).toNatClampNeg) = 0 then
      (kk ((x1 + 1), h_hbr, h_rbh, h_ranks))
    else
    if h_ranks < 0 ∨ 16 ≤ (h_ranks).toNatClampNeg then none else
    if x1 < 0 ∨ 16 ≤ (x1).toNatClampNeg then none else
    vn ((h_ranks + 1) : Int32) fun za4 =>
    kk ((x1 + 1), (upd h_hbr (h_ranks).toNatClampNeg x1), (upd h_rbh (x1).toNatClampNeg h_ranks), za4)
def f_X3_rankAnew (fu : Nat) (h_alive : Nat → Int32) (h_hbr : Nat → Int32) (h_rbh : Nat → Int32) (h_size : Int32) : Option ((Nat → Int32) × (Nat → Int32) × Int32) :=
  (lp (f_X3_rankAnew_l7 fu h_alive h_size) fu (0, h_hbr, h_rbh, 0)).bind fun zr1 =>
  some (zr1.1, zr1.2.1, zr1.2.2)
def f_X3_begin_l12 (fu : Nat) (x1 : Int32) (kk : Int32 × (Nat → Int32) → Option ((Nat → Int32))) (tt : Int32 × (Nat → Int32)) : Option ((Nat → Int32)) :=
  match tt with
  | (x2, h_alive) =>
    if 16 ≤ x2 then
      (some h_alive)
    else
    if x1 ≤ x2 then
      (if x2 < 0 ∨ 16 ≤ (x2).toNatClampNeg then none else
      kk ((x2 + 1), (upd h_alive (x2).toNatClampNeg (vp_nar .boolean 0))))
    else
    if x2 < 0 ∨ 16 ≤ (x2).toNatClampNeg then none else
    kk ((x2 + 1), (upd h_alive (x2).toNatClampNeg (vp_nar .boolean 1)))
def f_X3_begin (fu : Nat) (h_alive : Nat → Int32) (h_late : Nat → Int32) (h_hbr : Nat → Int32) (h_rbh : Nat → Int32) (h_waits : Nat → Int32) (x1 : Int32) : Option ((Nat → Int32) × (Nat → Int32) × (Nat → Int32) × (Nat → Int32) × (Nat → Int32) × Int32 × Int32 × Int32) :=
  (lp (f_X3_begin_l12 fu x1) fu (0, h_alive)).bind fun zr1 =>
  (f_J7_fill_53178 fu 16 h_late 0).bind fun zr2 =>
  (f_J7_fill_53178 fu 256 h_waits (-1)).bind fun zr3 =>
  (f_X3_rankAnew fu zr1 h_hbr h_rbh x1).bind fun zr4 =>
  some (zr1, zr2, zr4.1, zr4.2.1, zr3, x1, zr4.2.2, 0)
def f_X3_size (fu : Nat) (h_size : Int32) : Option (Int32) :=
  some h_size
def f_X3_ranks (fu : Nat) (h_ranks : Int32) : Option (Int32) :=
  some h_ranks
def f_X3_lines (fu : Nat) (h_lines : Int32) : Option (Int32) :=
  some h_lines
def f_X3_isHost (fu : Nat) (h_size : Int32) (x1 : Int32) : Option (Int32) :=
  if x1 < 0 then
    (some 0)
  else
  if h_size ≤ x1 then
    (some 0)
  else
  some 1
def f_X3_isLive (fu : Nat) (h_alive : Nat → Int32) (h_size : Int32) (x1 : Int32) : Option (Int32) :=
  (f_X3_isHost fu h_size x1).bind fun zr1 =>
  if zr1 = 0 then
    (some 0)
  else
  if x1 < 0 ∨ 16 ≤ (x1).toNatClampNeg then none else
  if (h_alive (x1).toNatClampNeg) = 0 then
    (some 0)
  else
  some 1
def f_X3_isLastLive (fu : Nat) (h_alive : Nat → Int32) (h_size : Int32) (h_ranks : Int32) (x1 : Int32) : Option (Int32) :=
  (f_X3_isLive fu h_alive h_size x1).bind fun zr1 =>
  if zr1 = 0 then
    (some 0)
  else
  if h_ranks = 1 then
    (some 1)
  else
  some 0
def f_X3_isPair (fu : Nat) (h_size : Int32) (x1 : Int32) (x2 : Int32) : Option (Int32) :=
  (f_X3_isHost fu h_size x1).bind fun zr1 =>
  if zr1 = 0 then
    (some 0)
  else
  (f_X3_isHost fu h_size x2).bind fun zr3 =>
  if zr3 = 0 then
    (some 0)
  else
  if x1 = x2 then
    (some 0)
  else
  some 1
def f_X3_hasLine (fu : Nat) (h_waits : Nat → Int32) (x1 : Int32) (x2 : Int32) : Option (Int32) :=
  if x1 < 0 then
    (some 0)
  else
  if 16 ≤ x1 then
    (some 0)
  else
  if x2 < 0 then
    (some 0)
  else
  if 16 ≤ x2 then
    (some 0)
  else
  if ((x1 * 16) + x2) < 0 ∨ 256 ≤ (((x1 * 16) + x2)).toNatClampNeg then none else
  if (h_waits (((x1 * 16) + x2)).toNatClampNeg) = (-1) then
    (some 0)
  else
  some 1
def f_X3_hostOf (fu : Nat) (h_hbr : Nat → Int32) (h_ranks : Int32) (x1 : Int32) : Option (Int32) :=
  if x1 < 0 then
    (some (-1))
  else
  if h_ranks ≤ x1 then
    (some (-1))
  else
  if x1 < 0 ∨ 16 ≤ (x1).toNatClampNeg then none else
  some (h_hbr (x1).toNatClampNeg)
def f_X3_rankOf (fu : Nat) (h_alive : Nat → Int32) (h_rbh : Nat → Int32) (h_size : Int32) (x1 : Int32) : Option (Int32) :=
  (f_X3_isLive fu h_alive h_size x1).bind fun zr1 =>
  if zr1 = 0 then
    (some (-1))
  else
  if x1 < 0 ∨ 16 ≤ (x1).toNatClampNeg then none else
  some (h_rbh (x1).toNatClampNeg)
def f_X3_latenessOf (fu : Nat) (h_late : Nat → Int32) (h_size : Int32) (x1 : Int32) : Option (Int32) :=
  (f_X3_isHost fu h_size x1).bind fun zr1 =>
  if zr1 = 0 then
    (some 0)
  else
  if x1 < 0 ∨ 16 ≤ (x1).toNatClampNeg then none else
  some (h_late (x1).toNatClampNeg)
def f_X3_pair (fu : Nat) (x0 : Int32) (x1 : Int32) : Option (Int32) :=
  some ((x0 * 16) + x1)
def f_X3_letterTicks (fu : Nat) (h_waits : Nat → Int32) (h_pers : Nat → Int32) (x1 : Int32) (x2 : Int32) (x3 : Int32) : Option (Int32) :=
  (f_X3_hasLine fu h_waits x1 x2).bind fun zr1 =>
  if zr1 = 0 then
    (some 0)
  else
  (f_X3_pair fu x1 x2).bind fun zr3 =>
  if zr3 < 0 ∨ 256 ≤ (zr3).toNatClampNeg then none else
  (f_X3_pair fu x1 x2).bind fun zr4 =>
  if zr4 < 0 ∨ 256 ≤ (zr4).toNatClampNeg then none else
  some ((h_waits (zr3).toNatClampNeg) + (x3 * (h_pers (zr4).toNatClampNeg)))
def f_X3_turn (fu : Nat) (h_alive : Nat → Int32) (h_hbr : Nat → Int32) (h_rbh : Nat → Int32) (h_size : Int32) (h_ranks : Int32) (x1 : Int32) (x2 : Int32) : Option ((Nat → Int32) × (Nat → Int32) × (Nat → Int32) × Int32) :=
  (f_X3_isHost fu h_size x1).bind fun zr1 =>
  if zr1 = 0 then
    (some (h_alive, h_hbr, h_rbh, h_ranks))
  else
  if x1 < 0 ∨ 16 ≤ (x1).toNatClampNeg then none else
  (f_X3_rankAnew fu (upd h_alive (x1).toNatClampNeg (vp_nar .boolean x2)) h_hbr h_rbh h_size).bind fun zr3 =>
  some ((upd h_alive (x1).toNatClampNeg (vp_nar .boolean x2)), zr3.1, zr3.2.1, zr3.2.2)
def f_X3_delay (fu : Nat) (h_late : Nat → Int32) (h_size : Int32) (x1 : Int32) (x2 : Int32) : Option ((Nat → Int32)) :=
  (f_X3_isHost fu h_size x1).bind fun zr1 =>
  if zr1 = 0 then
    (some h_late)
  else
  if x1 < 0 ∨ 16 ≤ (x1).toNatClampNeg then none else
  some (upd h_late (x1).toNatClampNeg x2)
def f_X3_join (fu : Nat) (h_waits : Nat → Int32) (h_pers : Nat → Int32) (h_size : Int32) (h_lines : Int32) (x1 : Int32) (x2 : Int32) (x3 : Int32) (x4 : Int32) : Option ((Nat → Int32) × (Nat → Int32) × Int32) :=
  (f_X3_isPair fu h_size x1 x2).bind fun zr1 =>
  if zr1 = 0 then
    (some (h_waits, h_pers, h_lines))
  else
  (f_X3_hasLine fu h_waits x1 x2).bind fun zr3 =>
  if zr3 = 0 then
    (vn ((h_lines + 1) : Int32) fun za9 =>
    (f_X3_pair fu x1 x2).bind fun zr10 =>
    if zr10 < 0 ∨ 256 ≤ (zr10).toNatClampNeg then none else
    (f_X3_pair fu x2 x1).bind fun zr11 =>
    if zr11 < 0 ∨ 256 ≤ (zr11).toNatClampNeg then none else
    (f_X3_pair fu x1 x2).bind fun zr12 =>
    if zr12 < 0 ∨ 256 ≤ (zr12).toNatClampNeg then none else
    (f_X3_pair fu x2 x1).bind fun zr13 =>
    if zr13 < 0 ∨ 256 ≤ (zr13).toNatClampNeg then none else
    some ((upd (upd h_waits (zr10).toNatClampNeg x3) (zr11).toNatClampNeg x3), (upd (upd h_pers (zr12).toNatClampNeg x4) (zr13).toNatClampNeg x4), za9))
  else
  (f_X3_pair fu x1 x2).bind fun zr5 =>
  if zr5 < 0 ∨ 256 ≤ (zr5).toNatClampNeg then none else
  (f_X3_pair fu x2 x1).bind fun zr6 =>
  if zr6 < 0 ∨ 256 ≤ (zr6).toNatClampNeg then none else
  (f_X3_pair fu x1 x2).bind fun zr7 =>
  if zr7 < 0 ∨ 256 ≤ (zr7).toNatClampNeg then none else
  (f_X3_pair fu x2 x1).bind fun zr8 =>
  if zr8 < 0 ∨ 256 ≤ (zr8).toNatClampNeg then none else
  some ((upd (upd h_waits (zr5).toNatClampNeg x3) (zr6).toNatClampNeg x3), (upd (upd h_pers (zr7).toNatClampNeg x4) (zr8).toNatClampNeg x4), h_lines)
def f_X3_part (fu : Nat) (h_waits : Nat → Int32) (h_lines : Int32) (x1 : Int32) (x2 : Int32) : Option ((Nat → Int32) × Int32) :=
  (f_X3_hasLine fu h_waits x1 x2).bind fun zr1 =>
  if zr1 = 0 then
    (some (h_waits, h_lines))
  else
  vn ((h_lines - 1) : Int32) fun za3 =>
  (f_X3_pair fu x1 x2).bind fun zr4 =>
  if zr4 < 0 ∨ 256 ≤ (zr4).toNatClampNeg then none else
  (f_X3_pair fu x2 x1).bind fun zr5 =>
  if zr5 < 0 ∨ 256 ≤ (zr5).toNatClampNeg then none else
  some ((upd (upd h_waits (zr4).toNatClampNeg (-1)) (zr5).toNatClampNeg (-1)), za3)
def f_X3_isInForm (fu : Nat) (h_size : Int32) (x1 : Int32) (x2 : Int32) (x3 : Int32) : Option (Int32) :=
  if x1 = 0 then
    (if x3 = (x2 + 1) then
      (some 1)
    else
    if x2 = 0 then
      (if x3 = (h_size - 1) then
        (some 1)
      else
      some 0)
    else
    some 0)
  else
  if x1 = 1 then
    (some 1)
  else
  if x1 = 2 then
    (if x3 = (x2 + 1) then
      (some 1)
    else
    some 0)
  else
  (f_J6_bitCount_0f7a4 fu (x2 ^^^ x3)).bind fun zr8 =>
  if zr8 = 1 then
    (some 1)
  else
  some 0
def f_X3_joinByForm_l18 (fu : Nat) (h_size : Int32) (x1 : Int32) (x2 : Int32) (x3 : Int32) (x4 : Int32) (kk : Int32 × (Nat → Int32) × (Nat → Int32) × Int32 → Option ((Nat → Int32) × (Nat → Int32) × Int32)) (tt : Int32 × (Nat → Int32) × (Nat → Int32) × Int32) : Option ((Nat → Int32) × (Nat → Int32) × Int32) :=
  match tt with
  | (x5, h_waits, h_pers, h_lines) =>
    if h_size ≤ x5 then
      (some (h_waits, h_pers, h_lines))
    else
    (f_X3_isInForm fu h_size x1 x4 x5).bind fun zr2 =>
    if zr2 = 0 then
      (kk ((x5 + 1), h_waits, h_pers, h_lines))
    else
    (f_X3_join fu h_waits h_pers h_size h_lines x4 x5 x2 x3).bind fun zr4 =>
    kk ((x5 + 1), zr4.1, zr4.2.1, zr4.2.2)
def f_X3_joinByForm_l3 (fu : Nat) (h_size : Int32) (x1 : Int32) (x2 : Int32) (x3 : Int32) (kk : Int32 × (Nat → Int32) × (Nat → Int32) × Int32 → Option ((Nat → Int32) × (Nat → Int32) × Int32)) (tt : Int32 × (Nat → Int32) × (Nat → Int32) × Int32) : Option ((Nat → Int32) × (Nat → Int32) × Int32) :=
  match tt with
  | (x4, h_waits, h_pers, h_lines) =>
    if h_size ≤ x4 then
      (some (h_waits, h_pers, h_lines))
    else
    vn ((x4 + 1) : Int32) fun za2 =>
    (lp (f_X3_joinByForm_l18 fu h_size x1 x2 x3 x4) fu (za2, h_waits, h_pers, h_lines)).bind fun zr3 =>
    kk ((x4 + 1), zr3.1, zr3.2.1, zr3.2.2)
def f_X3_joinByForm (fu : Nat) (h_waits : Nat → Int32) (h_pers : Nat → Int32) (h_size : Int32) (h_lines : Int32) (x1 : Int32) (x2 : Int32) (x3 : Int32) : Option ((Nat → Int32) × (Nat → Int32) × Int32) :=
  (lp (f_X3_joinByForm_l3 fu h_size x1 x2 x3) fu (0, h_waits, h_pers, h_lines)).bind fun zr1 =>
  some (zr1.1, zr1.2.1, zr1.2.2)
def f_X4_empty (fu : Nat) : Option (Int32) :=
  some 0
def f_X4_size (fu : Nat) (p_size : Int32) : Option (Int32) :=
  some p_size
def f_X4_isFull (fu : Nat) (p_size : Int32) : Option (Int32) :=
  if p_size < 1200 then
    (some 0)
  else
  some 1
def f_X4_steps (fu : Nat) (p_packed : Nat → Int32) (p_size : Int32) : Option (Int32) :=
  if 0 < p_size then
    (if (p_size - 1) < 0 ∨ 1200 ≤ ((p_size - 1)).toNatClampNeg then none else
    some (((p_packed ((p_size - 1)).toNatClampNeg) >>> (17 &&& 31)) + 1))
  else
  some 0
def f_X4_sendAt (fu : Nat) (p_packed : Nat → Int32) (p_size : Int32) (x1 : Int32) : Option (Int32) :=
  if x1 < 0 then
    (some 0)
  else
  if p_size ≤ x1 then
    (some 0)
  else
  if x1 < 0 ∨ 1200 ≤ (x1).toNatClampNeg then none else
  some (p_packed (x1).toNatClampNeg)
def f_X4_endsLetter (fu : Nat) (p_packed : Nat → Int32) (p_size : Int32) (x1 : Int32) : Option (Int32) :=
  if p_size ≤ (x1 + 1) then
    (some 1)
  else
  (f_X4_sendAt fu p_packed p_size x1).bind fun zr2 =>
  (f_X4_sendAt fu p_packed p_size (x1 + 1)).bind fun zr3 =>
  if (zr2 >>> (13 &&& 31)) = (zr3 >>> (13 &&& 31)) then
    (some 0)
  else
  some 1
def f_X4_letters_l4 (fu : Nat) (p_packed : Nat → Int32) (p_size : Int32) (kk : Int32 × Int32 → Option (Int32)) (tt : Int32 × Int32) : Option (Int32) :=
  match tt with
  | (x1, x2) =>
    if p_size ≤ x2 then
      (some x1)
    else
    (f_X4_endsLetter fu p_packed p_size x2).bind fun zr2 =>
    if zr2 = 0 then
      (kk (x1, (x2 + 1)))
    else
    kk ((x1 + 1), (x2 + 1))
def f_X4_letters (fu : Nat) (p_packed : Nat → Int32) (p_size : Int32) : Option (Int32) :=
  (lp (f_X4_letters_l4 fu p_packed p_size) fu (0, 0)).bind fun zr1 =>
  some zr1
def f_X4_step (fu : Nat) (p_packed : Nat → Int32) (p_size : Int32) (x1 : Int32) : Option (Int32) :=
  (f_X4_sendAt fu p_packed p_size x1).bind fun zr1 =>
  some (zr1 >>> (17 &&& 31))
def f_X4_from (fu : Nat) (p_packed : Nat → Int32) (p_size : Int32) (x1 : Int32) : Option (Int32) :=
  (f_X4_sendAt fu p_packed p_size x1).bind fun zr1 =>
  some ((zr1 >>> (13 &&& 31)) &&& 15)
def f_X4_to (fu : Nat) (p_packed : Nat → Int32) (p_size : Int32) (x1 : Int32) : Option (Int32) :=
  (f_X4_sendAt fu p_packed p_size x1).bind fun zr1 =>
  some ((zr1 >>> (5 &&& 31)) &&& 15)
def f_X4_block (fu : Nat) (p_packed : Nat → Int32) (p_size : Int32) (x1 : Int32) : Option (Int32) :=
  (f_X4_sendAt fu p_packed p_size x1).bind fun zr1 =>
  some ((zr1 >>> (1 &&& 31)) &&& 15)
def f_X4_toBlock (fu : Nat) (p_packed : Nat → Int32) (p_size : Int32) (x1 : Int32) : Option (Int32) :=
  (f_X4_sendAt fu p_packed p_size x1).bind fun zr1 =>
  some ((zr1 >>> (9 &&& 31)) &&& 15)
def f_X4_isAdded (fu : Nat) (p_packed : Nat → Int32) (p_size : Int32) (x1 : Int32) : Option (Int32) :=
  (f_X4_sendAt fu p_packed p_size x1).bind fun zr1 =>
  if (zr1 &&& 1) = 0 then
    (some 0)
  else
  some 1
def f_X8_cell (fu : Nat) (x0 : Int32) (x1 : Int32) : Option (Int32) :=
  some ((x0 * 16) + x1)
def f_X4_source (fu : Nat) (p_packed : Nat → Int32) (p_size : Int32) (x1 : Int32) : Option (Int32) :=
  (f_X4_from fu p_packed p_size x1).bind fun zr1 =>
  (f_X4_block fu p_packed p_size x1).bind fun zr2 =>
  (f_X8_cell fu zr1 zr2).bind fun zr3 =>
  some zr3
def f_X4_target (fu : Nat) (p_packed : Nat → Int32) (p_size : Int32) (x1 : Int32) : Option (Int32) :=
  (f_X4_to fu p_packed p_size x1).bind fun zr1 =>
  (f_X4_toBlock fu p_packed p_size x1).bind fun zr2 =>
  (f_X8_cell fu zr1 zr2).bind fun zr3 =>
  some zr3
def f_X4_endsStep (fu : Nat) (p_packed : Nat → Int32) (p_size : Int32) (x1 : Int32) : Option (Int32) :=
  if p_size ≤ (x1 + 1) then
    (some 1)
  else
  (f_X4_step fu p_packed p_size x1).bind fun zr2 =>
  (f_X4_step fu p_packed p_size (x1 + 1)).bind fun zr3 =>
  if zr2 = zr3 then
    (some 0)
  else
  some 1
def f_X4_forbids_l3 (fu : Nat) (p_packed : Nat → Int32) (p_size : Int32) (x1 : Int32) (x2 : Int32) (x3 : Int32) (x4 : Int32) (kk : Int32 → Option ((Unit) ⊕ (Unit))) (x5 : Int32) : Option ((Unit) ⊕ (Unit)) :=
  if p_size ≤ x5 then
    (some (.inr ()))
  else
  (f_X4_step fu p_packed p_size x5).bind fun zr2 =>
  if zr2 = x1 then
    ((f_X4_from fu p_packed p_size x5).bind fun zr4 =>
    if zr4 = x2 then
      ((f_X4_to fu p_packed p_size x5).bind fun zr11 =>
      if zr11 = x3 then
        ((f_X4_toBlock fu p_packed p_size x5).bind fun zr16 =>
        if zr16 = x4 then
          (some (.inl ()))
        else
        kk (x5 + 1))
      else
      some (.inl ()))
    else
    (f_X4_to fu p_packed p_size x5).bind fun zr6 =>
    if zr6 = x3 then
      (some (.inl ()))
    else
    kk (x5 + 1))
  else
  kk (x5 + 1)
def f_X4_forbids (fu : Nat) (p_packed : Nat → Int32) (p_size : Int32) (x1 : Int32) (x2 : Int32) (x3 : Int32) (x4 : Int32) : Option (Int32) :=
  (lp (f_X4_forbids_l3 fu p_packed p_size x1 x2 x3 x4) fu 0).bind fun zr1 =>
  (Sum.elim
    (fun zr1_0 =>
      some 1
    )
    (fun zr1_1 =>
      some 0
    )
  ) zr1
def f_X4_place_l54 (fu : Nat) (x7 : Int32) (kk : Int32 × (Nat → Int32) → Option (Int32 × (Nat → Int32))) (tt : Int32 × (Nat → Int32)) : Option (Int32 × (Nat → Int32)) :=
  match tt with
  | (x8, p_packed) =>
    if x8 ≤ 0 then
      (some (x8, p_packed))
    else
    if (x8 - 1) < 0 ∨ 1200 ≤ ((x8 - 1)).toNatClampNeg then none else
    if (p_packed ((x8 - 1)).toNatClampNeg) ≤ x7 then
      (some (x8, p_packed))
    else
    if (x8 - 1) < 0 ∨ 1200 ≤ ((x8 - 1)).toNatClampNeg then none else
    if x8 < 0 ∨ 1200 ≤ (x8).toNatClampNeg then none else
    kk ((x8 + (-1)), (upd p_packed (x8).toNatClampNeg (p_packed ((x8 - 1)).toNatClampNeg)))
def f_X4_place (fu : Nat) (p_packed : Nat → Int32) (p_size : Int32) (x1 : Int32) (x2 : Int32) (x3 : Int32) (x4 : Int32) (x5 : Int32) (x6 : Int32) : Option ((Nat → Int32) × Int32) :=
  if p_size < 1200 then
    (if x6 = 0 then
      (vn (((((((x1 <<< (17 &&& 31)) ||| (x2 <<< (13 &&& 31))) ||| (x5 <<< (9 &&& 31))) ||| (x3 <<< (5 &&& 31))) ||| (x4 <<< (1 &&& 31))) ||| 0) : Int32) fun za3 =>
      (lp (f_X4_place_l54 fu za3) fu (p_size, p_packed)).bind fun zr4 =>
      if zr4.1 < 0 ∨ 1200 ≤ (zr4.1).toNatClampNeg then none else
      vn ((p_size + 1) : Int32) fun za5 =>
      some ((upd zr4.2 (zr4.1).toNatClampNeg za3), za5))
    else
    vn (((((((x1 <<< (17 &&& 31)) ||| (x2 <<< (13 &&& 31))) ||| (x5 <<< (9 &&& 31))) ||| (x3 <<< (5 &&& 31))) ||| (x4 <<< (1 &&& 31))) ||| 1) : Int32) fun za6 =>
    (lp (f_X4_place_l54 fu za6) fu (p_size, p_packed)).bind fun zr7 =>
    if zr7.1 < 0 ∨ 1200 ≤ (zr7.1).toNatClampNeg then none else
    vn ((p_size + 1) : Int32) fun za8 =>
    some ((upd zr7.2 (zr7.1).toNatClampNeg za6), za8))
  else
  some (p_packed, p_size)
def f_X2_zero (fu : Nat) (e_num : Nat → Int32) : Option ((Nat → Int32)) :=
  (f_J7_fill_53178 fu 256 e_num 0).bind fun zr1 =>
  some zr1
def f_X8_isCell (fu : Nat) (x0 : Int32) : Option (Int32) :=
  if x0 < 0 then
    (some 0)
  else
  if 256 ≤ x0 then
    (some 0)
  else
  some 1
def f_X2_value (fu : Nat) (e_num : Nat → Int32) (x1 : Int32) : Option (Int32) :=
  (f_X8_isCell fu x1).bind fun zr1 =>
  if zr1 = 0 then
    (some 0)
  else
  if x1 < 0 ∨ 256 ≤ (x1).toNatClampNeg then none else
  some (e_num (x1).toNatClampNeg)
def f_X2_change (fu : Nat) (e_num : Nat → Int32) (x1 : Int32) (x2 : Int32) : Option ((Nat → Int32)) :=
  (f_X8_isCell fu x1).bind fun zr1 =>
  if zr1 = 0 then
    (some e_num)
  else
  if x1 < 0 ∨ 256 ≤ (x1).toNatClampNeg then none else
  some (upd e_num (x1).toNatClampNeg x2)
def f_X2_takeUp (fu : Nat) (e_num : Nat → Int32) (e_und : Nat → Int32) (x1 : Int32) (x2 : Int32) : Option ((Nat → Int32)) :=
  (f_X8_isCell fu x1).bind fun zr1 =>
  if zr1 = 0 then
    (some e_und)
  else
  (f_X8_isCell fu x2).bind fun zr3 =>
  if zr3 = 0 then
    (some e_und)
  else
  if x1 < 0 ∨ 256 ≤ (x1).toNatClampNeg then none else
  if x2 < 0 ∨ 256 ≤ (x2).toNatClampNeg then none else
  some (upd e_und (x2).toNatClampNeg (e_num (x1).toNatClampNeg))
def f_X2_putDown (fu : Nat) (e_num : Nat → Int32) (e_und : Nat → Int32) (x1 : Int32) : Option ((Nat → Int32)) :=
  (f_X8_isCell fu x1).bind fun zr1 =>
  if zr1 = 0 then
    (some e_num)
  else
  if x1 < 0 ∨ 256 ≤ (x1).toNatClampNeg then none else
  if x1 < 0 ∨ 256 ≤ (x1).toNatClampNeg then none else
  some (upd e_num (x1).toNatClampNeg (e_und (x1).toNatClampNeg))
def f_X2_addDown (fu : Nat) (e_num : Nat → Int32) (e_und : Nat → Int32) (x1 : Int32) : Option ((Nat → Int32)) :=
  (f_X8_isCell fu x1).bind fun zr1 =>
  if zr1 = 0 then
    (some e_num)
  else
  if x1 < 0 ∨ 256 ≤ (x1).toNatClampNeg then none else
  if x1 < 0 ∨ 256 ≤ (x1).toNatClampNeg then none else
  if x1 < 0 ∨ 256 ≤ (x1).toNatClampNeg then none else
  some (upd e_num (x1).toNatClampNeg ((e_num (x1).toNatClampNeg) + (e_und (x1).toNatClampNeg)))
def f_X6_signOf (fu : Nat) (s_group : Int32) (x1 : Int32) : Option (Int64) :=
  vn ((x1 - (s_group * 64)) : Int32) fun za1 =>
  if za1 < 0 then
    (some 0)
  else
  if 64 ≤ za1 then
    (some 0)
  else
  some (1 <<< (za1.toInt64 &&& 63))
def f_X6_begin_l7 (fu : Nat) (s_group : Int32) (kk : Int32 × (Nat → Int64) × (Nat → Int64) → Option ((Nat → Int64) × (Nat → Int64))) (tt : Int32 × (Nat → Int64) × (Nat → Int64)) : Option ((Nat → Int64) × (Nat → Int64)) :=
  match tt with
  | (x2, s_some, s_more) =>
    if 256 ≤ x2 then
      (some (s_some, s_more))
    else
    (f_X6_signOf fu s_group x2).bind fun zr2 =>
    if x2 < 0 ∨ 256 ≤ (x2).toNatClampNeg then none else
    if x2 < 0 ∨ 256 ≤ (x2).toNatClampNeg then none else
    kk ((x2 + 1), (vp_updL s_some (x2).toNatClampNeg zr2), (vp_updL s_more (x2).toNatClampNeg 0))
def f_X6_begin (fu : Nat) (s_some : Nat → Int64) (s_more : Nat → Int64) (x1 : Int32) : Option ((Nat → Int64) × (Nat → Int64) × Int32) :=
  (lp (f_X6_begin_l7 fu x1) fu (0, s_some, s_more)).bind fun zr1 =>
  some (zr1.1, zr1.2, x1)
def f_X6_takeUp (fu : Nat) (s_some : Nat → Int64) (s_more : Nat → Int64) (s_sund : Nat → Int64) (s_mund : Nat → Int64) (x1 : Int32) (x2 : Int32) : Option ((Nat → Int64) × (Nat → Int64)) :=
  (f_X8_isCell fu x1).bind fun zr1 =>
  if zr1 = 0 then
    (some (s_sund, s_mund))
  else
  (f_X8_isCell fu x2).bind fun zr3 =>
  if zr3 = 0 then
    (some (s_sund, s_mund))
  else
  if x1 < 0 ∨ 256 ≤ (x1).toNatClampNeg then none else
  if x2 < 0 ∨ 256 ≤ (x2).toNatClampNeg then none else
  if x1 < 0 ∨ 256 ≤ (x1).toNatClampNeg then none else
  if x2 < 0 ∨ 256 ≤ (x2).toNatClampNeg then none else
  some ((vp_updL s_sund (x2).toNatClampNeg (s_some (x1).toNatClampNeg)), (vp_updL s_mund (x2).toNatClampNeg (s_more (x1).toNatClampNeg)))
def f_X6_putDown (fu : Nat) (s_some : Nat → Int64) (s_more : Nat → Int64) (s_sund : Nat → Int64) (s_mund : Nat → Int64) (x1 : Int32) : Option ((Nat → Int64) × (Nat → Int64)) :=
  (f_X8_isCell fu x1).bind fun zr1 =>
  if zr1 = 0 then
    (some (s_some, s_more))
  else
  if x1 < 0 ∨ 256 ≤ (x1).toNatClampNeg then none else
  if x1 < 0 ∨ 256 ≤ (x1).toNatClampNeg then none else
  if x1 < 0 ∨ 256 ≤ (x1).toNatClampNeg then none else
  if x1 < 0 ∨ 256 ≤ (x1).toNatClampNeg then none else
  some ((vp_updL s_some (x1).toNatClampNeg (s_sund (x1).toNatClampNeg)), (vp_updL s_more (x1).toNatClampNeg (s_mund (x1).toNatClampNeg)))
def f_X6_addDown (fu : Nat) (s_some : Nat → Int64) (s_more : Nat → Int64) (s_sund : Nat → Int64) (s_mund : Nat → Int64) (x1 : Int32) : Option ((Nat → Int64) × (Nat → Int64)) :=
  (f_X8_isCell fu x1).bind fun zr1 =>
  if zr1 = 0 then
    (some (s_some, s_more))
  else
  if x1 < 0 ∨ 256 ≤ (x1).toNatClampNeg then none else
  if x1 < 0 ∨ 256 ≤ (x1).toNatClampNeg then none else
  if x1 < 0 ∨ 256 ≤ (x1).toNatClampNeg then none else
  if x1 < 0 ∨ 256 ≤ (x1).toNatClampNeg then none else
  if x1 < 0 ∨ 256 ≤ (x1).toNatClampNeg then none else
  if x1 < 0 ∨ 256 ≤ (x1).toNatClampNeg then none else
  if x1 < 0 ∨ 256 ≤ (x1).toNatClampNeg then none else
  if x1 < 0 ∨ 256 ≤ (x1).toNatClampNeg then none else
  some ((vp_updL s_some (x1).toNatClampNeg ((s_some (x1).toNatClampNeg) ||| (s_sund (x1).toNatClampNeg))), (vp_updL s_more (x1).toNatClampNeg ((s_more (x1).toNatClampNeg) ||| ((s_mund (x1).toNatClampNeg) ||| ((s_some (x1).toNatClampNeg) &&& (s_sund (x1).toNatClampNeg))))))
def f_X1_bringDown_g_l3 (fu : Nat) (p_packed : Nat → Int32) (p_size : Int32) (s_sund : Nat → Int64) (s_mund : Nat → Int64) (x3 : Int32) (kk : Int32 × (Nat → Int64) × (Nat → Int64) → Option ((Nat → Int64) × (Nat → Int64))) (tt : Int32 × (Nat → Int64) × (Nat → Int64)) : Option ((Nat → Int64) × (Nat → Int64)) :=
  match tt with
  | (x4, s_some, s_more) =>
    if x3 < x4 then
      (some (s_some, s_more))
    else
    (f_X4_isAdded fu p_packed p_size x4).bind fun zr2 =>
    if zr2 = 0 then
      ((f_X4_target fu p_packed p_size x4).bind fun zr4 =>
      (f_X6_putDown fu s_some s_more s_sund s_mund zr4).bind fun zr5 =>
      kk ((x4 + 1), zr5.1, zr5.2))
    else
    (f_X4_target fu p_packed p_size x4).bind fun zr6 =>
    (f_X6_addDown fu s_some s_more s_sund s_mund zr6).bind fun zr7 =>
    kk ((x4 + 1), zr7.1, zr7.2)
def f_X1_bringDown_g (fu : Nat) (p_packed : Nat → Int32) (p_size : Int32) (s_some : Nat → Int64) (s_more : Nat → Int64) (s_sund : Nat → Int64) (s_mund : Nat → Int64) (x2 : Int32) (x3 : Int32) : Option ((Nat → Int64) × (Nat → Int64)) :=
  (lp (f_X1_bringDown_g_l3 fu p_packed p_size s_sund s_mund x3) fu (x2, s_some, s_more)).bind fun zr1 =>
  some (zr1.1, zr1.2)
def f_X1_follow_g_l4 (fu : Nat) (p_packed : Nat → Int32) (p_size : Int32) (kk : Int32 × Int32 × (Nat → Int64) × (Nat → Int64) × (Nat → Int64) × (Nat → Int64) → Option ((Nat → Int64) × (Nat → Int64) × (Nat → Int64) × (Nat → Int64))) (tt : Int32 × Int32 × (Nat → Int64) × (Nat → Int64) × (Nat → Int64) × (Nat → Int64)) : Option ((Nat → Int64) × (Nat → Int64) × (Nat → Int64) × (Nat → Int64)) :=
  match tt with
  | (x2, x3, s_some, s_more, s_sund, s_mund) =>
    (f_X4_size fu p_size).bind fun zr1 =>
    if zr1 ≤ x3 then
      (some (s_some, s_more, s_sund, s_mund))
    else
    (f_X4_source fu p_packed p_size x3).bind fun zr3 =>
    (f_X4_target fu p_packed p_size x3).bind fun zr4 =>
    (f_X6_takeUp fu s_some s_more s_sund s_mund zr3 zr4).bind fun zr5 =>
    (f_X4_endsStep fu p_packed p_size x3).bind fun zr6 =>
    if zr6 = 0 then
      (kk (x2, (x3 + 1), s_some, s_more, zr5.1, zr5.2))
    else
    (f_X1_bringDown_g fu p_packed p_size s_some s_more zr5.1 zr5.2 x2 x3).bind fun zr8 =>
    vn ((x3 + 1) : Int32) fun za9 =>
    kk (za9, (x3 + 1), zr8.1, zr8.2, zr5.1, zr5.2)
def f_X1_follow_g (fu : Nat) (p_packed : Nat → Int32) (p_size : Int32) (s_some : Nat → Int64) (s_more : Nat → Int64) (s_sund : Nat → Int64) (s_mund : Nat → Int64) : Option ((Nat → Int64) × (Nat → Int64) × (Nat → Int64) × (Nat → Int64)) :=
  (lp (f_X1_follow_g_l4 fu p_packed p_size) fu (0, 0, s_some, s_more, s_sund, s_mund)).bind fun zr1 =>
  some (zr1.1, zr1.2.1, zr1.2.2.1, zr1.2.2.2)
def f_X8_hostOfCell (fu : Nat) (x0 : Int32) : Option (Int32) :=
  some (x0 >>> (4 &&& 31))
def f_X8_blockOfCell (fu : Nat) (x0 : Int32) : Option (Int32) :=
  some (x0 &&& 15)
def f_X6_isFree (fu : Nat) (h_ranks : Int32) (x1 : Int32) (x2 : Int32) (x3 : Int32) : Option (Int32) :=
  if x1 = 1 then
    ((f_X8_hostOfCell fu x3).bind fun zr2 =>
    if zr2 = x2 then
      (some 0)
    else
    (f_X8_blockOfCell fu x3).bind fun zr4 =>
    (f_X3_ranks fu h_ranks).bind fun zr5 =>
    if zr5 ≤ zr4 then
      (some 0)
    else
    some 1)
  else
  some 0
def f_X6_sumOf_l5 (fu : Nat) (h_alive : Nat → Int32) (h_size : Int32) (s_group : Int32) (x2 : Int32) (kk : Int64 × Int32 → Option (Int64)) (tt : Int64 × Int32) : Option (Int64) :=
  match tt with
  | (x3, x5) =>
    if 4 ≤ x5 then
      (some x3)
    else
    vn (((s_group * 4) + x5) : Int32) fun za2 =>
    (f_X3_isLive fu h_alive h_size za2).bind fun zr3 =>
    if zr3 = 0 then
      (kk (x3, (x5 + 1)))
    else
    (f_X8_cell fu za2 x2).bind fun zr5 =>
    (f_X6_signOf fu s_group zr5).bind fun zr6 =>
    vn ((x3 ||| zr6) : Int64) fun za7 =>
    kk (za7, (x5 + 1))
def f_X6_sumOf (fu : Nat) (h_alive : Nat → Int32) (h_size : Int32) (s_group : Int32) (x2 : Int32) : Option (Int64) :=
  (lp (f_X6_sumOf_l5 fu h_alive h_size s_group x2) fu (0, 0)).bind fun zr1 =>
  some zr1
def f_X6_askedOf (fu : Nat) (h_alive : Nat → Int32) (h_hbr : Nat → Int32) (h_rbh : Nat → Int32) (h_size : Int32) (h_ranks : Int32) (s_group : Int32) (x2 : Int32) (x3 : Int32) (x4 : Int32) : Option (Int64) :=
  (f_X8_blockOfCell fu x4).bind fun zr1 =>
  (f_X3_ranks fu h_ranks).bind fun zr2 =>
  if zr1 < zr2 then
    (if x2 = 0 then
      ((f_X8_cell fu x3 zr1).bind fun zr5 =>
      (f_X6_signOf fu s_group zr5).bind fun zr6 =>
      some zr6)
    else
    if x2 = 1 then
      ((f_X6_sumOf fu h_alive h_size s_group zr1).bind fun zr8 =>
      some zr8)
    else
    if x2 = 2 then
      ((f_X6_sumOf fu h_alive h_size s_group zr1).bind fun zr10 =>
      some zr10)
    else
    if x2 = 3 then
      ((f_X3_hostOf fu h_hbr h_ranks zr1).bind fun zr12 =>
      (f_X8_cell fu zr12 zr1).bind fun zr13 =>
      (f_X6_signOf fu s_group zr13).bind fun zr14 =>
      some zr14)
    else
    if x2 = 4 then
      ((f_X3_hostOf fu h_hbr h_ranks zr1).bind fun zr16 =>
      (f_X8_hostOfCell fu x4).bind fun zr17 =>
      (f_X3_rankOf fu h_alive h_rbh h_size zr17).bind fun zr18 =>
      (f_X8_cell fu zr16 zr18).bind fun zr19 =>
      (f_X6_signOf fu s_group zr19).bind fun zr20 =>
      some zr20)
    else
    (f_X6_sumOf fu h_alive h_size s_group zr1).bind fun zr21 =>
    some zr21)
  else
  (f_X6_signOf fu s_group x4).bind fun zr22 =>
  some zr22
def f_X6_firstWrongInGroup_l3 (fu : Nat) (h_alive : Nat → Int32) (h_hbr : Nat → Int32) (h_rbh : Nat → Int32) (h_size : Int32) (h_ranks : Int32) (s_some : Nat → Int64) (s_more : Nat → Int64) (s_group : Int32) (x2 : Int32) (x3 : Int32) (kk : Int32 → Option ((Int32) ⊕ (Unit))) (x4 : Int32) : Option ((Int32) ⊕ (Unit)) :=
  if 256 ≤ x4 then
    (some (.inr ()))
  else
  (f_X8_hostOfCell fu x4).bind fun zr2 =>
  (f_X3_isLive fu h_alive h_size zr2).bind fun zr3 =>
  if zr3 = 0 then
    (kk (x4 + 1))
  else
  (f_X6_isFree fu h_ranks x2 x3 x4).bind fun zr5 =>
  if zr5 = 0 then
    (if x4 < 0 ∨ 256 ≤ (x4).toNatClampNeg then none else
    if (lg_cmp (s_more (x4).toNatClampNeg) 0) = 0 then
      (if x4 < 0 ∨ 256 ≤ (x4).toNatClampNeg then none else
      (f_X6_askedOf fu h_alive h_hbr h_rbh h_size h_ranks s_group x2 x3 x4).bind fun zr8 =>
      if (lg_cmp (s_some (x4).toNatClampNeg) zr8) = 0 then
        (kk (x4 + 1))
      else
      some (.inl x4))
    else
    some (.inl x4))
  else
  kk (x4 + 1)
def f_X6_firstWrongInGroup (fu : Nat) (h_alive : Nat → Int32) (h_hbr : Nat → Int32) (h_rbh : Nat → Int32) (h_size : Int32) (h_ranks : Int32) (s_some : Nat → Int64) (s_more : Nat → Int64) (s_group : Int32) (x2 : Int32) (x3 : Int32) : Option (Int32) :=
  (lp (f_X6_firstWrongInGroup_l3 fu h_alive h_hbr h_rbh h_size h_ranks s_some s_more s_group x2 x3) fu 0).bind fun zr1 =>
  (Sum.elim
    (fun zr1_0 =>
      some zr1_0
    )
    (fun zr1_1 =>
      some 256
    )
  ) zr1
def f_X6_firstWrong_l8 (fu : Nat) (h_alive : Nat → Int32) (h_hbr : Nat → Int32) (h_rbh : Nat → Int32) (h_size : Int32) (h_ranks : Int32) (p_packed : Nat → Int32) (p_size : Int32) (x3 : Int32) (x4 : Int32) (kk : Int32 × Int32 × (Nat → Int64) × (Nat → Int64) × (Nat → Int64) × (Nat → Int64) × Int32 → Option (Int32 × (Nat → Int64) × (Nat → Int64) × (Nat → Int64) × (Nat → Int64) × Int32)) (tt : Int32 × Int32 × (Nat → Int64) × (Nat → Int64) × (Nat → Int64) × (Nat → Int64) × Int32) : Option (Int32 × (Nat → Int64) × (Nat → Int64) × (Nat → Int64) × (Nat → Int64) × Int32) :=
  match tt with
  | (x5, x6, s_some, s_more, s_sund, s_mund, s_group) =>
    (f_X3_size fu h_size).bind fun zr1 =>
    if zr1 ≤ (x6 * 4) then
      (some (x5, s_some, s_more, s_sund, s_mund, s_group))
    else
    (f_X6_begin fu s_some s_more x6).bind fun zr3 =>
    (f_X1_follow_g fu p_packed p_size zr3.1 zr3.2.1 s_sund s_mund).bind fun zr4 =>
    (f_X6_firstWrongInGroup fu h_alive h_hbr h_rbh h_size h_ranks zr4.1 zr4.2.1 zr3.2.2 x3 x4).bind fun zr5 =>
    vn ((if zr5 < x5 then zr5 else x5) : Int32) fun za6 =>
    kk (za6, (x6 + 1), zr4.1, zr4.2.1, zr4.2.2.1, zr4.2.2.2, zr3.2.2)
def f_X6_firstWrong (fu : Nat) (h_alive : Nat → Int32) (h_hbr : Nat → Int32) (h_rbh : Nat → Int32) (h_size : Int32) (h_ranks : Int32) (p_packed : Nat → Int32) (p_size : Int32) (s_some : Nat → Int64) (s_more : Nat → Int64) (s_sund : Nat → Int64) (s_mund : Nat → Int64) (s_group : Int32) (x3 : Int32) (x4 : Int32) : Option (Int32 × (Nat → Int64) × (Nat → Int64) × (Nat → Int64) × (Nat → Int64) × Int32) :=
  (lp (f_X6_firstWrong_l8 fu h_alive h_hbr h_rbh h_size h_ranks p_packed p_size x3 x4) fu (256, 0, s_some, s_more, s_sund, s_mund, s_group)).bind fun zr1 =>
  some (zr1.1, zr1.2.1, zr1.2.2.1, zr1.2.2.2.1, zr1.2.2.2.2.1, zr1.2.2.2.2.2)
def f_X1_bringDown_e_l3 (fu : Nat) (p_packed : Nat → Int32) (p_size : Int32) (e_und : Nat → Int32) (x3 : Int32) (kk : Int32 × (Nat → Int32) → Option ((Nat → Int32))) (tt : Int32 × (Nat → Int32)) : Option ((Nat → Int32)) :=
  match tt with
  | (x4, e_num) =>
    if x3 < x4 then
      (some e_num)
    else
    (f_X4_isAdded fu p_packed p_size x4).bind fun zr2 =>
    if zr2 = 0 then
      ((f_X4_target fu p_packed p_size x4).bind fun zr4 =>
      (f_X2_putDown fu e_num e_und zr4).bind fun zr5 =>
      kk ((x4 + 1), zr5))
    else
    (f_X4_target fu p_packed p_size x4).bind fun zr6 =>
    (f_X2_addDown fu e_num e_und zr6).bind fun zr7 =>
    kk ((x4 + 1), zr7)
def f_X1_bringDown_e (fu : Nat) (p_packed : Nat → Int32) (p_size : Int32) (e_num : Nat → Int32) (e_und : Nat → Int32) (x2 : Int32) (x3 : Int32) : Option ((Nat → Int32)) :=
  (lp (f_X1_bringDown_e_l3 fu p_packed p_size e_und x3) fu (x2, e_num)).bind fun zr1 =>
  some zr1
def f_X1_follow_e_l4 (fu : Nat) (p_packed : Nat → Int32) (p_size : Int32) (kk : Int32 × Int32 × (Nat → Int32) × (Nat → Int32) → Option ((Nat → Int32) × (Nat → Int32))) (tt : Int32 × Int32 × (Nat → Int32) × (Nat → Int32)) : Option ((Nat → Int32) × (Nat → Int32)) :=
  match tt with
  | (x2, x3, e_num, e_und) =>
    (f_X4_size fu p_size).bind fun zr1 =>
    if zr1 ≤ x3 then
      (some (e_num, e_und))
    else
    (f_X4_source fu p_packed p_size x3).bind fun zr3 =>
    (f_X4_target fu p_packed p_size x3).bind fun zr4 =>
    (f_X2_takeUp fu e_num e_und zr3 zr4).bind fun zr5 =>
    (f_X4_endsStep fu p_packed p_size x3).bind fun zr6 =>
    if zr6 = 0 then
      (kk (x2, (x3 + 1), e_num, zr5))
    else
    (f_X1_bringDown_e fu p_packed p_size e_num zr5 x2 x3).bind fun zr8 =>
    vn ((x3 + 1) : Int32) fun za9 =>
    kk (za9, (x3 + 1), zr8, zr5)
def f_X1_follow_e (fu : Nat) (p_packed : Nat → Int32) (p_size : Int32) (e_num : Nat → Int32) (e_und : Nat → Int32) : Option ((Nat → Int32) × (Nat → Int32)) :=
  (lp (f_X1_follow_e_l4 fu p_packed p_size) fu (0, 0, e_num, e_und)).bind fun zr1 =>
  some (zr1.1, zr1.2)
def f_X0_inStep_l11 (fu : Nat) (h_waits : Nat → Int32) (h_pers : Nat → Int32) (p_packed : Nat → Int32) (p_size : Int32) (kk : Int32 × Int32 × Int32 × Int32 → Option (Int32)) (tt : Int32 × Int32 × Int32 × Int32) : Option (Int32) :=
  match tt with
  | (x3, x4, x5, x6) =>
    (f_X4_size fu p_size).bind fun zr1 =>
    if zr1 ≤ x6 then
      (some x3)
    else
    (f_X4_endsLetter fu p_packed p_size x6).bind fun zr3 =>
    if zr3 = 0 then
      ((f_X4_endsStep fu p_packed p_size x6).bind fun zr5 =>
      if zr5 = 0 then
        (kk (x3, x4, (x5 + 1), (x6 + 1)))
      else
      vn ((x3 + x4) : Int32) fun za7 =>
      kk (za7, 0, (x5 + 1), (x6 + 1)))
    else
    (f_X4_from fu p_packed p_size x6).bind fun zr8 =>
    (f_X4_to fu p_packed p_size x6).bind fun zr9 =>
    (f_X3_letterTicks fu h_waits h_pers zr8 zr9 (x5 + 1)).bind fun zr10 =>
    vn ((if x4 < zr10 then zr10 else x4) : Int32) fun za11 =>
    (f_X4_endsStep fu p_packed p_size x6).bind fun zr12 =>
    if zr12 = 0 then
      (kk (x3, za11, 0, (x6 + 1)))
    else
    vn ((x3 + za11) : Int32) fun za14 =>
    kk (za14, 0, 0, (x6 + 1))
def f_X0_inStep (fu : Nat) (h_waits : Nat → Int32) (h_pers : Nat → Int32) (p_packed : Nat → Int32) (p_size : Int32) : Option (Int32) :=
  (lp (f_X0_inStep_l11 fu h_waits h_pers p_packed p_size) fu (0, 0, 0, 0)).bind fun zr1 =>
  some zr1
def f_X0_takeLetter (fu : Nat) (h_waits : Nat → Int32) (h_pers : Nat → Int32) (h_size : Int32) (k_ahead : Nat → Int32) (k_behind : Nat → Int32) (x1 : Int32) (x2 : Int32) (x4 : Int32) : Option ((Nat → Int32)) :=
  (f_X3_isPair fu h_size x1 x2).bind fun zr1 =>
  if zr1 = 0 then
    (some k_behind)
  else
  if x1 < 0 ∨ 16 ≤ (x1).toNatClampNeg then none else
  if x2 < 0 ∨ 16 ≤ (x2).toNatClampNeg then none else
  (f_X3_letterTicks fu h_waits h_pers x1 x2 x4).bind fun zr3 =>
  vn (((if (k_ahead (x1).toNatClampNeg) < (k_ahead (x2).toNatClampNeg) then (k_ahead (x2).toNatClampNeg) else (k_ahead (x1).toNatClampNeg)) + zr3) : Int32) fun za4 =>
  if x1 < 0 ∨ 16 ≤ (x1).toNatClampNeg then none else
  if x1 < 0 ∨ 16 ≤ (x1).toNatClampNeg then none else
  if x2 < 0 ∨ 16 ≤ (x2).toNatClampNeg then none else
  if x2 < 0 ∨ 16 ≤ (x2).toNatClampNeg then none else
  some (upd (upd k_behind (x1).toNatClampNeg (if (k_behind (x1).toNatClampNeg) < za4 then za4 else (k_behind (x1).toNatClampNeg))) (x2).toNatClampNeg (if ((upd k_behind (x1).toNatClampNeg (if (k_behind (x1).toNatClampNeg) < za4 then za4 else (k_behind (x1).toNatClampNeg))) (x2).toNatClampNeg) < za4 then za4 else ((upd k_behind (x1).toNatClampNeg (if (k_behind (x1).toNatClampNeg) < za4 then za4 else (k_behind (x1).toNatClampNeg))) (x2).toNatClampNeg)))
def f_X0_endOf_l3 (fu : Nat) (h_late : Nat → Int32) (h_size : Int32) (kk : Int32 × (Nat → Int32) × (Nat → Int32) → Option ((Nat → Int32) × (Nat → Int32))) (tt : Int32 × (Nat → Int32) × (Nat → Int32)) : Option ((Nat → Int32) × (Nat → Int32)) :=
  match tt with
  | (x4, k_ahead, k_behind) =>
    if 16 ≤ x4 then
      (some (k_ahead, k_behind))
    else
    (f_X3_latenessOf fu h_late h_size x4).bind fun zr2 =>
    if x4 < 0 ∨ 16 ≤ (x4).toNatClampNeg then none else
    if x4 < 0 ∨ 16 ≤ (x4).toNatClampNeg then none else
    if x4 < 0 ∨ 16 ≤ (x4).toNatClampNeg then none else
    kk ((x4 + 1), (upd k_ahead (x4).toNatClampNeg zr2), (upd k_behind (x4).toNatClampNeg ((upd k_ahead (x4).toNatClampNeg zr2) (x4).toNatClampNeg)))
def f_X0_endOf_l49 (fu : Nat) (h_waits : Nat → Int32) (h_pers : Nat → Int32) (h_size : Int32) (p_packed : Nat → Int32) (p_size : Int32) (kk : Int32 × Int32 × (Nat → Int32) × (Nat → Int32) → Option ((Nat → Int32) × (Nat → Int32))) (tt : Int32 × Int32 × (Nat → Int32) × (Nat → Int32)) : Option ((Nat → Int32) × (Nat → Int32)) :=
  match tt with
  | (x4, x5, k_ahead, k_behind) =>
    (f_X4_size fu p_size).bind fun zr1 =>
    if zr1 ≤ x5 then
      (some (k_ahead, k_behind))
    else
    (f_X4_endsLetter fu p_packed p_size x5).bind fun zr3 =>
    if zr3 = 0 then
      ((f_X4_endsStep fu p_packed p_size x5).bind fun zr5 =>
      if zr5 = 0 then
        (kk ((x4 + 1), (x5 + 1), k_ahead, k_behind))
      else
      kk ((x4 + 1), (x5 + 1), (va_cpy k_behind k_ahead (0 : Int32).toNatClampNeg (0 : Int32).toNatClampNeg (16 : Int32).toNatClampNeg), k_behind))
    else
    (f_X4_from fu p_packed p_size x5).bind fun zr7 =>
    (f_X4_to fu p_packed p_size x5).bind fun zr8 =>
    (f_X0_takeLetter fu h_waits h_pers h_size k_ahead k_behind zr7 zr8 (x4 + 1)).bind fun zr9 =>
    (f_X4_endsStep fu p_packed p_size x5).bind fun zr10 =>
    if zr10 = 0 then
      (kk (0, (x5 + 1), k_ahead, zr9))
    else
    kk (0, (x5 + 1), (va_cpy zr9 k_ahead (0 : Int32).toNatClampNeg (0 : Int32).toNatClampNeg (16 : Int32).toNatClampNeg), zr9)
def f_X0_endOf (fu : Nat) (h_late : Nat → Int32) (h_waits : Nat → Int32) (h_pers : Nat → Int32) (h_size : Int32) (p_packed : Nat → Int32) (p_size : Int32) (k_ahead : Nat → Int32) (k_behind : Nat → Int32) (x1 : Int32) : Option (Int32 × (Nat → Int32) × (Nat → Int32)) :=
  (lp (f_X0_endOf_l3 fu h_late h_size) fu (0, k_ahead, k_behind)).bind fun zr1 =>
  (lp (f_X0_endOf_l49 fu h_waits h_pers h_size p_packed p_size) fu (0, 0, zr1.1, zr1.2)).bind fun zr2 =>
  if x1 < 0 then
    (some ((-1), zr2.1, zr2.2))
  else
  if 16 ≤ x1 then
    (some ((-1), zr2.1, zr2.2))
  else
  if x1 < 0 ∨ 16 ≤ (x1).toNatClampNeg then none else
  some ((zr2.2 (x1).toNatClampNeg), zr2.1, zr2.2)
def f_X8_isAsked (fu : Nat) (h_alive : Nat → Int32) (h_size : Int32) (x1 : Int32) (x2 : Int32) : Option (Int32) :=
  if x1 < 0 then
    (some 0)
  else
  if 4 < x1 then
    (some 0)
  else
  (f_X3_isLive fu h_alive h_size x2).bind fun zr3 =>
  if zr3 = 0 then
    (some 0)
  else
  some 1
def f_X7_begin (fu : Nat) (h_alive : Nat → Int32) (h_rbh : Nat → Int32) (h_size : Int32) (h_ranks : Int32) (x3 : Int32) : Option (Int32 × Int32 × Int32 × Int32 × Int32) :=
  (f_X4_empty fu).bind fun zr1 =>
  (f_X3_ranks fu h_ranks).bind fun zr2 =>
  (f_X3_rankOf fu h_alive h_rbh h_size x3).bind fun zr3 =>
  some (zr1, zr2, zr3, 0, 0)
def f_X7_byM (fu : Nat) (w_m : Int32) (x1 : Int32) : Option (Int32) :=
  if 0 ≤ x1 then
    (if x1 < w_m then
      (some x1)
    else
    some (x1 - w_m))
  else
  some (x1 + w_m)
def f_X7_rankOfQ (fu : Nat) (w_m : Int32) (w_root : Int32) (x1 : Int32) : Option (Int32) :=
  (f_X7_byM fu w_m x1).bind fun zr1 =>
  (f_X7_byM fu w_m (zr1 + w_root)).bind fun zr2 =>
  some zr2
def f_X7_give_l43 (fu : Nat) (w_step : Int32) (x3 : Int32) (x4 : Int32) (x5 : Int32) (x6 : Int32) (x7 : Int32) (x8 : Int32) (kk : Int32 × (Nat → Int32) × Int32 → Option ((Nat → Int32) × Int32)) (tt : Int32 × (Nat → Int32) × Int32) : Option ((Nat → Int32) × Int32) :=
  match tt with
  | (x9, p_packed, p_size) =>
    if x5 ≤ x9 then
      (some (p_packed, p_size))
    else
    (f_X4_place fu p_packed p_size w_step x7 x8 (x3 + x9) (x4 + x9) x6).bind fun zr2 =>
    kk ((x9 + 1), zr2.1, zr2.2)
def f_X7_give (fu : Nat) (h_hbr : Nat → Int32) (h_waits : Nat → Int32) (h_ranks : Int32) (p_packed : Nat → Int32) (p_size : Int32) (w_step : Int32) (w_lacks : Int32) (x1 : Int32) (x2 : Int32) (x3 : Int32) (x4 : Int32) (x5 : Int32) (x6 : Int32) : Option ((Nat → Int32) × Int32 × Int32) :=
  (f_X3_hostOf fu h_hbr h_ranks x1).bind fun zr1 =>
  (f_X3_hostOf fu h_hbr h_ranks x2).bind fun zr2 =>
  (f_X3_hasLine fu h_waits zr1 zr2).bind fun zr3 =>
  if zr3 = 0 then
    (some (p_packed, p_size, 1))
  else
  (lp (f_X7_give_l43 fu w_step x3 x4 x5 x6 zr1 zr2) fu (0, p_packed, p_size)).bind fun zr5 =>
  some (zr5.1, zr5.2, w_lacks)
def f_X7_giveAll (fu : Nat) (h_hbr : Nat → Int32) (h_waits : Nat → Int32) (h_ranks : Int32) (p_packed : Nat → Int32) (p_size : Int32) (w_m : Int32) (w_step : Int32) (w_lacks : Int32) (x1 : Int32) (x2 : Int32) (x3 : Int32) : Option ((Nat → Int32) × Int32 × Int32) :=
  (f_X7_give fu h_hbr h_waits h_ranks p_packed p_size w_step w_lacks x1 x2 0 0 w_m x3).bind fun zr1 =>
  some (zr1.1, zr1.2.1, zr1.2.2)
def f_X7_endStep (fu : Nat) (p_packed : Nat → Int32) (p_size : Int32) : Option (Int32) :=
  (f_X4_steps fu p_packed p_size).bind fun zr1 =>
  some zr1
def f_X7_ringFromRoot_l2 (fu : Nat) (h_hbr : Nat → Int32) (h_waits : Nat → Int32) (h_ranks : Int32) (w_m : Int32) (w_root : Int32) (x1 : Int32) (x2 : Int32) (kk : Int32 × (Nat → Int32) × Int32 × Int32 × Int32 → Option ((Nat → Int32) × Int32 × Int32 × Int32)) (tt : Int32 × (Nat → Int32) × Int32 × Int32 × Int32) : Option ((Nat → Int32) × Int32 × Int32 × Int32) :=
  match tt with
  | (x3, p_packed, p_size, w_step, w_lacks) =>
    if (w_m - 1) ≤ x3 then
      (some (p_packed, p_size, w_step, w_lacks))
    else
    (f_X7_rankOfQ fu w_m w_root (x3 + x1)).bind fun zr2 =>
    (f_X7_rankOfQ fu w_m w_root ((x3 + x1) + 1)).bind fun zr3 =>
    (f_X7_giveAll fu h_hbr h_waits h_ranks p_packed p_size w_m w_step w_lacks zr2 zr3 x2).bind fun zr4 =>
    (f_X7_endStep fu zr4.1 zr4.2.1).bind fun zr5 =>
    kk ((x3 + 1), zr4.1, zr4.2.1, zr5, zr4.2.2)
def f_X7_ringFromRoot (fu : Nat) (h_hbr : Nat → Int32) (h_waits : Nat → Int32) (h_ranks : Int32) (p_packed : Nat → Int32) (p_size : Int32) (w_m : Int32) (w_root : Int32) (w_step : Int32) (w_lacks : Int32) (x1 : Int32) (x2 : Int32) : Option ((Nat → Int32) × Int32 × Int32 × Int32) :=
  (lp (f_X7_ringFromRoot_l2 fu h_hbr h_waits h_ranks w_m w_root x1 x2) fu (0, p_packed, p_size, w_step, w_lacks)).bind fun zr1 =>
  some (zr1.1, zr1.2.1, zr1.2.2.1, zr1.2.2.2)
def f_X7_ringOfAll_l15 (fu : Nat) (h_hbr : Nat → Int32) (h_waits : Nat → Int32) (h_ranks : Int32) (w_m : Int32) (w_step : Int32) (x1 : Int32) (x2 : Int32) (x3 : Int32) (kk : Int32 × (Nat → Int32) × Int32 × Int32 → Option ((Nat → Int32) × Int32 × Int32)) (tt : Int32 × (Nat → Int32) × Int32 × Int32) : Option ((Nat → Int32) × Int32 × Int32) :=
  match tt with
  | (x4, p_packed, p_size, w_lacks) =>
    if w_m ≤ x4 then
      (some (p_packed, p_size, w_lacks))
    else
    (f_X7_byM fu w_m ((x4 + x1) - x3)).bind fun zr2 =>
    (f_X7_byM fu w_m (x4 + 1)).bind fun zr3 =>
    (f_X7_give fu h_hbr h_waits h_ranks p_packed p_size w_step w_lacks x4 zr3 zr2 zr2 1 x2).bind fun zr4 =>
    kk ((x4 + 1), zr4.1, zr4.2.1, zr4.2.2)
def f_X7_ringOfAll_l2 (fu : Nat) (h_hbr : Nat → Int32) (h_waits : Nat → Int32) (h_ranks : Int32) (w_m : Int32) (x1 : Int32) (x2 : Int32) (kk : Int32 × (Nat → Int32) × Int32 × Int32 × Int32 → Option ((Nat → Int32) × Int32 × Int32 × Int32)) (tt : Int32 × (Nat → Int32) × Int32 × Int32 × Int32) : Option ((Nat → Int32) × Int32 × Int32 × Int32) :=
  match tt with
  | (x3, p_packed, p_size, w_step, w_lacks) =>
    if (w_m - 1) ≤ x3 then
      (some (p_packed, p_size, w_step, w_lacks))
    else
    (lp (f_X7_ringOfAll_l15 fu h_hbr h_waits h_ranks w_m w_step x1 x2 x3) fu (0, p_packed, p_size, w_lacks)).bind fun zr2 =>
    (f_X7_endStep fu zr2.1 zr2.2.1).bind fun zr3 =>
    kk ((x3 + 1), zr2.1, zr2.2.1, zr3, zr2.2.2)
def f_X7_ringOfAll (fu : Nat) (h_hbr : Nat → Int32) (h_waits : Nat → Int32) (h_ranks : Int32) (p_packed : Nat → Int32) (p_size : Int32) (w_m : Int32) (w_step : Int32) (w_lacks : Int32) (x1 : Int32) (x2 : Int32) : Option ((Nat → Int32) × Int32 × Int32 × Int32) :=
  (lp (f_X7_ringOfAll_l2 fu h_hbr h_waits h_ranks w_m x1 x2) fu (0, p_packed, p_size, w_step, w_lacks)).bind fun zr1 =>
  some (zr1.1, zr1.2.1, zr1.2.2.1, zr1.2.2.2)
def f_X7_ring (fu : Nat) (h_hbr : Nat → Int32) (h_waits : Nat → Int32) (h_ranks : Int32) (p_packed : Nat → Int32) (p_size : Int32) (w_m : Int32) (w_root : Int32) (w_step : Int32) (w_lacks : Int32) (x1 : Int32) : Option ((Nat → Int32) × Int32 × Int32 × Int32) :=
  if x1 = 0 then
    ((f_X7_ringFromRoot fu h_hbr h_waits h_ranks p_packed p_size w_m w_root w_step w_lacks 0 0).bind fun zr2 =>
    some (zr2.1, zr2.2.1, zr2.2.2.1, zr2.2.2.2))
  else
  if x1 = 1 then
    ((f_X7_ringFromRoot fu h_hbr h_waits h_ranks p_packed p_size w_m w_root w_step w_lacks 1 1).bind fun zr4 =>
    some (zr4.1, zr4.2.1, zr4.2.2.1, zr4.2.2.2))
  else
  if x1 = 2 then
    ((f_X7_ringOfAll fu h_hbr h_waits h_ranks p_packed p_size w_m w_step w_lacks 0 1).bind fun zr6 =>
    (f_X7_ringOfAll fu h_hbr h_waits h_ranks zr6.1 zr6.2.1 w_m zr6.2.2.1 zr6.2.2.2 1 0).bind fun zr7 =>
    some (zr7.1, zr7.2.1, zr7.2.2.1, zr7.2.2.2))
  else
  (f_X7_ringOfAll fu h_hbr h_waits h_ranks p_packed p_size w_m w_step w_lacks 0 0).bind fun zr8 =>
  some (zr8.1, zr8.2.1, zr8.2.2.1, zr8.2.2.2)
def f_X7_treeStep_l2 (fu : Nat) (h_hbr : Nat → Int32) (h_waits : Nat → Int32) (h_ranks : Int32) (w_m : Int32) (w_root : Int32) (w_step : Int32) (x1 : Int32) (x2 : Int32) (kk : Int32 × (Nat → Int32) × Int32 × Int32 → Option ((Nat → Int32) × Int32 × Int32)) (tt : Int32 × (Nat → Int32) × Int32 × Int32) : Option ((Nat → Int32) × Int32 × Int32) :=
  match tt with
  | (x3, p_packed, p_size, w_lacks) =>
    if x1 ≤ x3 then
      (some (p_packed, p_size, w_lacks))
    else
    if w_m ≤ (x3 + x1) then
      (some (p_packed, p_size, w_lacks))
    else
    if x2 = 0 then
      ((f_X7_rankOfQ fu w_m w_root x3).bind fun zr4 =>
      (f_X7_rankOfQ fu w_m w_root (x3 + x1)).bind fun zr5 =>
      (f_X7_giveAll fu h_hbr h_waits h_ranks p_packed p_size w_m w_step w_lacks zr4 zr5 0).bind fun zr6 =>
      kk ((x3 + 1), zr6.1, zr6.2.1, zr6.2.2))
    else
    (f_X7_rankOfQ fu w_m w_root (x3 + x1)).bind fun zr7 =>
    (f_X7_rankOfQ fu w_m w_root x3).bind fun zr8 =>
    (f_X7_giveAll fu h_hbr h_waits h_ranks p_packed p_size w_m w_step w_lacks zr7 zr8 1).bind fun zr9 =>
    kk ((x3 + 1), zr9.1, zr9.2.1, zr9.2.2)
def f_X7_treeStep (fu : Nat) (h_hbr : Nat → Int32) (h_waits : Nat → Int32) (h_ranks : Int32) (p_packed : Nat → Int32) (p_size : Int32) (w_m : Int32) (w_root : Int32) (w_step : Int32) (w_lacks : Int32) (x1 : Int32) (x2 : Int32) : Option ((Nat → Int32) × Int32 × Int32 × Int32) :=
  (lp (f_X7_treeStep_l2 fu h_hbr h_waits h_ranks w_m w_root w_step x1 x2) fu (0, p_packed, p_size, w_lacks)).bind fun zr1 =>
  (f_X7_endStep fu zr1.1 zr1.2.1).bind fun zr2 =>
  some (zr1.1, zr1.2.1, zr2, zr1.2.2)
def f_X7_tree_l31 (fu : Nat) (h_hbr : Nat → Int32) (h_waits : Nat → Int32) (h_ranks : Int32) (w_m : Int32) (w_root : Int32) (kk : Int32 × (Nat → Int32) × Int32 × Int32 × Int32 → Option ((Nat → Int32) × Int32 × Int32 × Int32)) (tt : Int32 × (Nat → Int32) × Int32 × Int32 × Int32) : Option ((Nat → Int32) × Int32 × Int32 × Int32) :=
  match tt with
  | (x2, p_packed, p_size, w_step, w_lacks) =>
    if w_m ≤ x2 then
      (some (p_packed, p_size, w_step, w_lacks))
    else
    (f_X7_treeStep fu h_hbr h_waits h_ranks p_packed p_size w_m w_root w_step w_lacks x2 0).bind fun zr2 =>
    vn ((x2 <<< (1 &&& 31)) : Int32) fun za3 =>
    kk (za3, zr2.1, zr2.2.1, zr2.2.2.1, zr2.2.2.2)
def f_X7_tree_l7 (fu : Nat) (h_hbr : Nat → Int32) (h_waits : Nat → Int32) (h_ranks : Int32) (w_m : Int32) (w_root : Int32) (kk : Int32 × (Nat → Int32) × Int32 × Int32 × Int32 → Option ((Nat → Int32) × Int32 × Int32 × Int32)) (tt : Int32 × (Nat → Int32) × Int32 × Int32 × Int32) : Option ((Nat → Int32) × Int32 × Int32 × Int32) :=
  match tt with
  | (x2, p_packed, p_size, w_step, w_lacks) =>
    if x2 ≤ 0 then
      (some (p_packed, p_size, w_step, w_lacks))
    else
    (f_X7_treeStep fu h_hbr h_waits h_ranks p_packed p_size w_m w_root w_step w_lacks x2 1).bind fun zr2 =>
    vn ((x2 >>> (1 &&& 31)) : Int32) fun za3 =>
    kk (za3, zr2.1, zr2.2.1, zr2.2.2.1, zr2.2.2.2)
def f_X7_tree (fu : Nat) (h_hbr : Nat → Int32) (h_waits : Nat → Int32) (h_ranks : Int32) (p_packed : Nat → Int32) (p_size : Int32) (w_m : Int32) (w_root : Int32) (w_step : Int32) (w_lacks : Int32) (x1 : Int32) : Option ((Nat → Int32) × Int32 × Int32 × Int32) :=
  if x1 = 0 then
    ((lp (f_X7_tree_l31 fu h_hbr h_waits h_ranks w_m w_root) fu (1, p_packed, p_size, w_step, w_lacks)).bind fun zr3 =>
    some (zr3.1, zr3.2.1, zr3.2.2.1, zr3.2.2.2))
  else
  (lp (f_X7_tree_l7 fu h_hbr h_waits h_ranks w_m w_root) fu (16, p_packed, p_size, w_step, w_lacks)).bind fun zr4 =>
  if x1 = 1 then
    (some (zr4.1, zr4.2.1, zr4.2.2.1, zr4.2.2.2))
  else
  (lp (f_X7_tree_l31 fu h_hbr h_waits h_ranks w_m w_root) fu (1, zr4.1, zr4.2.1, zr4.2.2.1, zr4.2.2.2)).bind fun zr6 =>
  some (zr6.1, zr6.2.1, zr6.2.2.1, zr6.2.2.2)
def f_X7_halving_l12 (fu : Nat) (h_hbr : Nat → Int32) (h_waits : Nat → Int32) (h_ranks : Int32) (w_m : Int32) (w_step : Int32) (x1 : Int32) (x2 : Int32) (kk : Int32 × (Nat → Int32) × Int32 × Int32 → Option ((Nat → Int32) × Int32 × Int32)) (tt : Int32 × (Nat → Int32) × Int32 × Int32) : Option ((Nat → Int32) × Int32 × Int32) :=
  match tt with
  | (x3, p_packed, p_size, w_lacks) =>
    if w_m ≤ x3 then
      (some (p_packed, p_size, w_lacks))
    else
    if x1 = 2 then
      ((f_X7_giveAll fu h_hbr h_waits h_ranks p_packed p_size w_m w_step w_lacks x3 (x3 ^^^ x2) 1).bind fun zr5 =>
      kk ((x3 + 1), zr5.1, zr5.2.1, zr5.2.2))
    else
    vn ((x3 - (x3 &&& (x2 - 1))) : Int32) fun za3 =>
    (f_X7_give fu h_hbr h_waits h_ranks p_packed p_size w_step w_lacks x3 (x3 ^^^ x2) za3 za3 x2 0).bind fun zr4 =>
    kk ((x3 + 1), zr4.1, zr4.2.1, zr4.2.2)
def f_X7_halving_l2 (fu : Nat) (h_hbr : Nat → Int32) (h_waits : Nat → Int32) (h_ranks : Int32) (w_m : Int32) (x1 : Int32) (kk : Int32 × (Nat → Int32) × Int32 × Int32 × Int32 → Option ((Nat → Int32) × Int32 × Int32 × Int32)) (tt : Int32 × (Nat → Int32) × Int32 × Int32 × Int32) : Option ((Nat → Int32) × Int32 × Int32 × Int32) :=
  match tt with
  | (x2, p_packed, p_size, w_step, w_lacks) =>
    if w_m ≤ x2 then
      (some (p_packed, p_size, w_step, w_lacks))
    else
    (lp (f_X7_halving_l12 fu h_hbr h_waits h_ranks w_m w_step x1 x2) fu (0, p_packed, p_size, w_lacks)).bind fun zr2 =>
    (f_X7_endStep fu zr2.1 zr2.2.1).bind fun zr3 =>
    vn ((x2 <<< (1 &&& 31)) : Int32) fun za4 =>
    kk (za4, zr2.1, zr2.2.1, zr3, zr2.2.2)
def f_X7_halving (fu : Nat) (h_hbr : Nat → Int32) (h_waits : Nat → Int32) (h_ranks : Int32) (p_packed : Nat → Int32) (p_size : Int32) (w_m : Int32) (w_step : Int32) (w_lacks : Int32) (x1 : Int32) : Option ((Nat → Int32) × Int32 × Int32 × Int32) :=
  (lp (f_X7_halving_l2 fu h_hbr h_waits h_ranks w_m x1) fu (1, p_packed, p_size, w_step, w_lacks)).bind fun zr1 =>
  some (zr1.1, zr1.2.1, zr1.2.2.1, zr1.2.2.2)
def f_X7_directWithRoot_l2 (fu : Nat) (h_hbr : Nat → Int32) (h_waits : Nat → Int32) (h_ranks : Int32) (w_m : Int32) (w_root : Int32) (x1 : Int32) (kk : Int32 × (Nat → Int32) × Int32 × Int32 × Int32 → Option ((Nat → Int32) × Int32 × Int32 × Int32)) (tt : Int32 × (Nat → Int32) × Int32 × Int32 × Int32) : Option ((Nat → Int32) × Int32 × Int32 × Int32) :=
  match tt with
  | (x2, p_packed, p_size, w_step, w_lacks) =>
    if w_m ≤ x2 then
      (some (p_packed, p_size, w_step, w_lacks))
    else
    if x1 = 0 then
      ((f_X7_rankOfQ fu w_m w_root x2).bind fun zr3 =>
      (f_X7_giveAll fu h_hbr h_waits h_ranks p_packed p_size w_m w_step w_lacks w_root zr3 0).bind fun zr4 =>
      (f_X7_endStep fu zr4.1 zr4.2.1).bind fun zr5 =>
      kk ((x2 + 1), zr4.1, zr4.2.1, zr5, zr4.2.2))
    else
    (f_X7_rankOfQ fu w_m w_root x2).bind fun zr6 =>
    (f_X7_giveAll fu h_hbr h_waits h_ranks p_packed p_size w_m w_step w_lacks zr6 w_root 1).bind fun zr7 =>
    (f_X7_endStep fu zr7.1 zr7.2.1).bind fun zr8 =>
    kk ((x2 + 1), zr7.1, zr7.2.1, zr8, zr7.2.2)
def f_X7_directWithRoot (fu : Nat) (h_hbr : Nat → Int32) (h_waits : Nat → Int32) (h_ranks : Int32) (p_packed : Nat → Int32) (p_size : Int32) (w_m : Int32) (w_root : Int32) (w_step : Int32) (w_lacks : Int32) (x1 : Int32) : Option ((Nat → Int32) × Int32 × Int32 × Int32) :=
  (lp (f_X7_directWithRoot_l2 fu h_hbr h_waits h_ranks w_m w_root x1) fu (1, p_packed, p_size, w_step, w_lacks)).bind fun zr1 =>
  some (zr1.1, zr1.2.1, zr1.2.2.1, zr1.2.2.2)
def f_X7_directTurn_l12 (fu : Nat) (h_hbr : Nat → Int32) (h_waits : Nat → Int32) (h_ranks : Int32) (w_m : Int32) (w_step : Int32) (x1 : Int32) (kk : Int32 × (Nat → Int32) × Int32 × Int32 → Option ((Nat → Int32) × Int32 × Int32)) (tt : Int32 × (Nat → Int32) × Int32 × Int32) : Option ((Nat → Int32) × Int32 × Int32) :=
  match tt with
  | (x2, p_packed, p_size, w_lacks) =>
    if w_m ≤ x2 then
      (some (p_packed, p_size, w_lacks))
    else
    (f_X7_byM fu w_m (x1 - x2)).bind fun zr2 =>
    if zr2 = x2 then
      (kk ((x2 + 1), p_packed, p_size, w_lacks))
    else
    (f_X7_give fu h_hbr h_waits h_ranks p_packed p_size w_step w_lacks x2 zr2 zr2 x2 1 0).bind fun zr4 =>
    kk ((x2 + 1), zr4.1, zr4.2.1, zr4.2.2)
def f_X7_directTurn_l2 (fu : Nat) (h_hbr : Nat → Int32) (h_waits : Nat → Int32) (h_ranks : Int32) (w_m : Int32) (kk : Int32 × (Nat → Int32) × Int32 × Int32 × Int32 → Option ((Nat → Int32) × Int32 × Int32 × Int32)) (tt : Int32 × (Nat → Int32) × Int32 × Int32 × Int32) : Option ((Nat → Int32) × Int32 × Int32 × Int32) :=
  match tt with
  | (x1, p_packed, p_size, w_step, w_lacks) =>
    if w_m ≤ x1 then
      (some (p_packed, p_size, w_step, w_lacks))
    else
    (lp (f_X7_directTurn_l12 fu h_hbr h_waits h_ranks w_m w_step x1) fu (0, p_packed, p_size, w_lacks)).bind fun zr2 =>
    (f_X7_endStep fu zr2.1 zr2.2.1).bind fun zr3 =>
    kk ((x1 + 1), zr2.1, zr2.2.1, zr3, zr2.2.2)
def f_X7_directTurn (fu : Nat) (h_hbr : Nat → Int32) (h_waits : Nat → Int32) (h_ranks : Int32) (p_packed : Nat → Int32) (p_size : Int32) (w_m : Int32) (w_step : Int32) (w_lacks : Int32) : Option ((Nat → Int32) × Int32 × Int32 × Int32) :=
  (lp (f_X7_directTurn_l2 fu h_hbr h_waits h_ranks w_m) fu (0, p_packed, p_size, w_step, w_lacks)).bind fun zr1 =>
  some (zr1.1, zr1.2.1, zr1.2.2.1, zr1.2.2.2)
def f_X7_directGather_l12 (fu : Nat) (h_hbr : Nat → Int32) (h_waits : Nat → Int32) (h_ranks : Int32) (w_m : Int32) (w_step : Int32) (x1 : Int32) (kk : Int32 × (Nat → Int32) × Int32 × Int32 → Option ((Nat → Int32) × Int32 × Int32)) (tt : Int32 × (Nat → Int32) × Int32 × Int32) : Option ((Nat → Int32) × Int32 × Int32) :=
  match tt with
  | (x2, p_packed, p_size, w_lacks) =>
    if w_m ≤ x2 then
      (some (p_packed, p_size, w_lacks))
    else
    (f_X7_byM fu w_m (x2 + x1)).bind fun zr2 =>
    (f_X7_give fu h_hbr h_waits h_ranks p_packed p_size w_step w_lacks x2 zr2 x2 x2 1 0).bind fun zr3 =>
    kk ((x2 + 1), zr3.1, zr3.2.1, zr3.2.2)
def f_X7_directGather_l2 (fu : Nat) (h_hbr : Nat → Int32) (h_waits : Nat → Int32) (h_ranks : Int32) (w_m : Int32) (kk : Int32 × (Nat → Int32) × Int32 × Int32 × Int32 → Option ((Nat → Int32) × Int32 × Int32 × Int32)) (tt : Int32 × (Nat → Int32) × Int32 × Int32 × Int32) : Option ((Nat → Int32) × Int32 × Int32 × Int32) :=
  match tt with
  | (x1, p_packed, p_size, w_step, w_lacks) =>
    if w_m ≤ x1 then
      (some (p_packed, p_size, w_step, w_lacks))
    else
    (lp (f_X7_directGather_l12 fu h_hbr h_waits h_ranks w_m w_step x1) fu (0, p_packed, p_size, w_lacks)).bind fun zr2 =>
    (f_X7_endStep fu zr2.1 zr2.2.1).bind fun zr3 =>
    kk ((x1 + 1), zr2.1, zr2.2.1, zr3, zr2.2.2)
def f_X7_directGather (fu : Nat) (h_hbr : Nat → Int32) (h_waits : Nat → Int32) (h_ranks : Int32) (p_packed : Nat → Int32) (p_size : Int32) (w_m : Int32) (w_step : Int32) (w_lacks : Int32) : Option ((Nat → Int32) × Int32 × Int32 × Int32) :=
  (lp (f_X7_directGather_l2 fu h_hbr h_waits h_ranks w_m) fu (1, p_packed, p_size, w_step, w_lacks)).bind fun zr1 =>
  some (zr1.1, zr1.2.1, zr1.2.2.1, zr1.2.2.2)
def f_X7_direct (fu : Nat) (h_hbr : Nat → Int32) (h_waits : Nat → Int32) (h_ranks : Int32) (p_packed : Nat → Int32) (p_size : Int32) (w_m : Int32) (w_root : Int32) (w_step : Int32) (w_lacks : Int32) (x1 : Int32) : Option ((Nat → Int32) × Int32 × Int32 × Int32) :=
  if x1 = 0 then
    ((f_X7_directWithRoot fu h_hbr h_waits h_ranks p_packed p_size w_m w_root w_step w_lacks 0).bind fun zr2 =>
    some (zr2.1, zr2.2.1, zr2.2.2.1, zr2.2.2.2))
  else
  if x1 = 1 then
    ((f_X7_directWithRoot fu h_hbr h_waits h_ranks p_packed p_size w_m w_root w_step w_lacks 1).bind fun zr4 =>
    some (zr4.1, zr4.2.1, zr4.2.2.1, zr4.2.2.2))
  else
  if x1 = 2 then
    ((f_X7_directTurn fu h_hbr h_waits h_ranks p_packed p_size w_m w_step w_lacks).bind fun zr6 =>
    some (zr6.1, zr6.2.1, zr6.2.2.1, zr6.2.2.2))
  else
  if x1 = 3 then
    ((f_X7_directGather fu h_hbr h_waits h_ranks p_packed p_size w_m w_step w_lacks).bind fun zr8 =>
    some (zr8.1, zr8.2.1, zr8.2.2.1, zr8.2.2.2))
  else
  (f_X7_directTurn fu h_hbr h_waits h_ranks p_packed p_size w_m w_step w_lacks).bind fun zr9 =>
  some (zr9.1, zr9.2.1, zr9.2.2.1, zr9.2.2.2)
def f_X7_draw (fu : Nat) (pq : Nat → Nat) (hq : Nat → Nat) (h_alive : Nat → Int32) (h_hbr : Nat → Int32) (h_rbh : Nat → Int32) (h_waits : Nat → Int32) (h_size : Int32) (h_ranks : Int32) (p_packed : Nat → Int32) (p_size : Int32) (w_drawn : Value) (w_house : Value) (w_m : Int32) (w_root : Int32) (w_step : Int32) (w_lacks : Int32) (x3 : Int32) (x4 : Int32) (x5 : Int32) : Option (Int32 × (Nat → Int32) × Int32 × Value × Value × Int32 × Int32 × Int32 × Int32) :=
  if x3 < 0 then
    (some ((-1), p_packed, p_size, w_drawn, w_house, w_m, w_root, w_step, w_lacks))
  else
  if 4 ≤ x3 then
    (some ((-1), p_packed, p_size, w_drawn, w_house, w_m, w_root, w_step, w_lacks))
  else
  (f_X8_isAsked fu h_alive h_size x4 x5).bind fun zr3 =>
  if zr3 = 0 then
    (some ((-1), p_packed, p_size, w_drawn, w_house, w_m, w_root, w_step, w_lacks))
  else
  (f_X7_begin fu h_alive h_rbh h_size h_ranks x5).bind fun zr5 =>
  if x3 < 0 ∨ 4 ≤ (x3).toNatClampNeg then none else
  if (((zKn (x3 : Int32).toNatClampNeg) >>> (x4 &&& 31)) &&& 1) = 0 then
    (some ((-2), p_packed, zr5.1, (.ref (pq 0)), (.ref (hq 0)), zr5.2.1, zr5.2.2.1, zr5.2.2.2.1, zr5.2.2.2.2))
  else
  if x3 = 2 then
    (if (zr5.2.1 &&& (zr5.2.1 - 1)) = 0 then
      ((f_X7_halving fu h_hbr h_waits h_ranks p_packed zr5.1 zr5.2.1 zr5.2.2.2.1 zr5.2.2.2.2 x4).bind fun zr24 =>
      if zr24.2.2.2 = 0 then
        ((f_X4_steps fu zr24.1 zr24.2.1).bind fun zr26 =>
        some (zr26, zr24.1, zr24.2.1, (.ref (pq 0)), (.ref (hq 0)), zr5.2.1, zr5.2.2.1, zr24.2.2.1, zr24.2.2.2))
      else
      some ((-3), zr24.1, zr24.2.1, (.ref (pq 0)), (.ref (hq 0)), zr5.2.1, zr5.2.2.1, zr24.2.2.1, zr24.2.2.2))
    else
    some ((-2), p_packed, zr5.1, (.ref (pq 0)), (.ref (hq 0)), zr5.2.1, zr5.2.2.1, zr5.2.2.2.1, zr5.2.2.2.2))
  else
  if x3 = 0 then
    ((f_X7_ring fu h_hbr h_waits h_ranks p_packed zr5.1 zr5.2.1 zr5.2.2.1 zr5.2.2.2.1 zr5.2.2.2.2 x4).bind fun zr9 =>
    if zr9.2.2.2 = 0 then
      ((f_X4_steps fu zr9.1 zr9.2.1).bind fun zr11 =>
      some (zr11, zr9.1, zr9.2.1, (.ref (pq 0)), (.ref (hq 0)), zr5.2.1, zr5.2.2.1, zr9.2.2.1, zr9.2.2.2))
    else
    some ((-3), zr9.1, zr9.2.1, (.ref (pq 0)), (.ref (hq 0)), zr5.2.1, zr5.2.2.1, zr9.2.2.1, zr9.2.2.2))
  else
  if x3 = 1 then
    ((f_X7_tree fu h_hbr h_waits h_ranks p_packed zr5.1 zr5.2.1 zr5.2.2.1 zr5.2.2.2.1 zr5.2.2.2.2 x4).bind fun zr13 =>
    if zr13.2.2.2 = 0 then
      ((f_X4_steps fu zr13.1 zr13.2.1).bind fun zr15 =>
      some (zr15, zr13.1, zr13.2.1, (.ref (pq 0)), (.ref (hq 0)), zr5.2.1, zr5.2.2.1, zr13.2.2.1, zr13.2.2.2))
    else
    some ((-3), zr13.1, zr13.2.1, (.ref (pq 0)), (.ref (hq 0)), zr5.2.1, zr5.2.2.1, zr13.2.2.1, zr13.2.2.2))
  else
  if x3 = 2 then
    ((f_X7_halving fu h_hbr h_waits h_ranks p_packed zr5.1 zr5.2.1 zr5.2.2.2.1 zr5.2.2.2.2 x4).bind fun zr17 =>
    if zr17.2.2.2 = 0 then
      ((f_X4_steps fu zr17.1 zr17.2.1).bind fun zr19 =>
      some (zr19, zr17.1, zr17.2.1, (.ref (pq 0)), (.ref (hq 0)), zr5.2.1, zr5.2.2.1, zr17.2.2.1, zr17.2.2.2))
    else
    some ((-3), zr17.1, zr17.2.1, (.ref (pq 0)), (.ref (hq 0)), zr5.2.1, zr5.2.2.1, zr17.2.2.1, zr17.2.2.2))
  else
  (f_X7_direct fu h_hbr h_waits h_ranks p_packed zr5.1 zr5.2.1 zr5.2.2.1 zr5.2.2.2.1 zr5.2.2.2.2 x4).bind fun zr20 =>
  if zr20.2.2.2 = 0 then
    ((f_X4_steps fu zr20.1 zr20.2.1).bind fun zr22 =>
    some (zr22, zr20.1, zr20.2.1, (.ref (pq 0)), (.ref (hq 0)), zr5.2.1, zr5.2.2.1, zr20.2.2.1, zr20.2.2.2))
  else
  some ((-3), zr20.1, zr20.2.1, (.ref (pq 0)), (.ref (hq 0)), zr5.2.1, zr5.2.2.1, zr20.2.2.1, zr20.2.2.2)
def f_X5_readLines_l19 (fu : Nat) (h_hbr : Nat → Int32) (h_waits : Nat → Int32) (h_ranks : Int32) (r_m : Int32) (x2 : Int32) (kk : Int32 × (Nat → Int32) → Option ((Nat → Int32))) (tt : Int32 × (Nat → Int32)) : Option ((Nat → Int32)) :=
  match tt with
  | (x3, r_joined) =>
    if r_m ≤ x3 then
      (some r_joined)
    else
    (f_X3_hostOf fu h_hbr h_ranks x2).bind fun zr2 =>
    (f_X3_hostOf fu h_hbr h_ranks x3).bind fun zr3 =>
    (f_X3_hasLine fu h_waits zr2 zr3).bind fun zr4 =>
    if zr4 = 0 then
      (kk ((x3 + 1), r_joined))
    else
    if x2 < 0 ∨ 8 ≤ (x2).toNatClampNeg then none else
    if x2 < 0 ∨ 8 ≤ (x2).toNatClampNeg then none else
    kk ((x3 + 1), (upd r_joined (x2).toNatClampNeg ((r_joined (x2).toNatClampNeg) ||| (1 <<< (x3 &&& 31)))))
def f_X5_readLines_l2 (fu : Nat) (h_hbr : Nat → Int32) (h_waits : Nat → Int32) (h_ranks : Int32) (r_m : Int32) (kk : Int32 × (Nat → Int32) → Option ((Nat → Int32))) (tt : Int32 × (Nat → Int32)) : Option ((Nat → Int32)) :=
  match tt with
  | (x2, r_joined) =>
    if r_m ≤ x2 then
      (some r_joined)
    else
    if x2 < 0 ∨ 8 ≤ (x2).toNatClampNeg then none else
    (lp (f_X5_readLines_l19 fu h_hbr h_waits h_ranks r_m x2) fu (0, (upd r_joined (x2).toNatClampNeg 0))).bind fun zr2 =>
    kk ((x2 + 1), zr2)
def f_X5_readLines (fu : Nat) (h_hbr : Nat → Int32) (h_waits : Nat → Int32) (h_ranks : Int32) (r_joined : Nat → Int32) (r_m : Int32) : Option ((Nat → Int32)) :=
  (lp (f_X5_readLines_l2 fu h_hbr h_waits h_ranks r_m) fu (0, r_joined)).bind fun zr1 =>
  some zr1
def f_X5_letSend_l49 (fu : Nat) (r_m : Int32) (x3 : Int32) (x4 : Int32) (kk : Int32 × (Nat → Int32) → Option ((Nat → Int32))) (tt : Int32 × (Nat → Int32)) : Option ((Nat → Int32)) :=
  match tt with
  | (x5, r_reached) =>
    if r_m ≤ x5 then
      (some r_reached)
    else
    if ((x4 >>> (x5 &&& 31)) &&& 1) = 0 then
      (kk ((x5 + 1), r_reached))
    else
    if (x3 ||| (1 <<< (x5 &&& 31))) < 0 ∨ 256 ≤ ((x3 ||| (1 <<< (x5 &&& 31)))).toNatClampNeg then none else
    kk ((x5 + 1), (upd r_reached ((x3 ||| (1 <<< (x5 &&& 31)))).toNatClampNeg (vp_nar .boolean 1)))
def f_X5_letSend_l5 (fu : Nat) (r_joined : Nat → Int32) (r_m : Int32) (x1 : Int32) (x2 : Int32) (kk : Int32 × (Nat → Int32) → Option ((Nat → Int32))) (tt : Int32 × (Nat → Int32)) : Option ((Nat → Int32)) :=
  match tt with
  | (x3, r_reached) =>
    if x3 < x2 then
      (some r_reached)
    else
    if x1 < 0 ∨ 8 ≤ (x1).toNatClampNeg then none else
    vn (((r_joined (x1).toNatClampNeg) &&& (x3 ^^^ (-1))) : Int32) fun za2 =>
    if x3 < 0 ∨ 256 ≤ (x3).toNatClampNeg then none else
    if (r_reached (x3).toNatClampNeg) = 0 then
      (kk ((x3 + (-1)), r_reached))
    else
    if za2 = 0 then
      (kk ((x3 + (-1)), r_reached))
    else
    if x3 < 0 ∨ 256 ≤ (x3).toNatClampNeg then none else
    (lp (f_X5_letSend_l49 fu r_m x3 za2) fu (0, (upd r_reached (x3).toNatClampNeg (vp_nar .boolean 0)))).bind fun zr5 =>
    kk ((x3 + (-1)), zr5)
def f_X5_letSend (fu : Nat) (r_joined : Nat → Int32) (r_reached : Nat → Int32) (r_m : Int32) (r_all : Int32) (x1 : Int32) (x2 : Int32) : Option ((Nat → Int32)) :=
  (lp (f_X5_letSend_l5 fu r_joined r_m x1 x2) fu (r_all, r_reached)).bind fun zr1 =>
  some zr1
def f_X5_stepFrom_l2 (fu : Nat) (r_all : Int32) (x1 : Int32) (kk : Int32 × (Nat → Int32) → Option ((Nat → Int32))) (tt : Int32 × (Nat → Int32)) : Option ((Nat → Int32)) :=
  match tt with
  | (x3, r_reached) =>
    if r_all < x3 then
      (some r_reached)
    else
    if x3 = x1 then
      (if x3 < 0 ∨ 256 ≤ (x3).toNatClampNeg then none else
      kk ((x3 + 1), (upd r_reached (x3).toNatClampNeg (vp_nar .boolean 1))))
    else
    if x3 < 0 ∨ 256 ≤ (x3).toNatClampNeg then none else
    kk ((x3 + 1), (upd r_reached (x3).toNatClampNeg (vp_nar .boolean 0)))
def f_X5_stepFrom_l34 (fu : Nat) (r_joined : Nat → Int32) (r_m : Int32) (r_all : Int32) (x1 : Int32) (kk : Int32 × (Nat → Int32) → Option ((Nat → Int32))) (tt : Int32 × (Nat → Int32)) : Option ((Nat → Int32)) :=
  match tt with
  | (x3, r_reached) =>
    if r_m ≤ x3 then
      (some r_reached)
    else
    if ((x1 >>> (x3 &&& 31)) &&& 1) = 0 then
      (kk ((x3 + 1), r_reached))
    else
    if x3 < 0 ∨ 8 ≤ (x3).toNatClampNeg then none else
    if ((r_joined (x3).toNatClampNeg) &&& (x1 ^^^ (-1))) = 0 then
      (kk ((x3 + 1), r_reached))
    else
    (f_X5_letSend fu r_joined r_reached r_m r_all x3 x1).bind fun zr4 =>
    kk ((x3 + 1), zr4)
def f_X5_stepFrom_l77 (fu : Nat) (r_reached : Nat → Int32) (r_all : Int32) (x2 : Int32) (kk : Int32 × (Nat → Int32) → Option ((Nat → Int32))) (tt : Int32 × (Nat → Int32)) : Option ((Nat → Int32)) :=
  match tt with
  | (x3, r_steps) =>
    if r_all < x3 then
      (some r_steps)
    else
    if x3 < 0 ∨ 256 ≤ (x3).toNatClampNeg then none else
    if (r_reached (x3).toNatClampNeg) = 0 then
      (kk ((x3 + 1), r_steps))
    else
    if x3 < 0 ∨ 256 ≤ (x3).toNatClampNeg then none else
    if (r_steps (x3).toNatClampNeg) = (-1) then
      (if x3 < 0 ∨ 256 ≤ (x3).toNatClampNeg then none else
      kk ((x3 + 1), (upd r_steps (x3).toNatClampNeg x2)))
    else
    kk ((x3 + 1), r_steps)
def f_X5_stepFrom (fu : Nat) (r_joined : Nat → Int32) (r_steps : Nat → Int32) (r_reached : Nat → Int32) (r_m : Int32) (r_all : Int32) (x1 : Int32) (x2 : Int32) : Option ((Nat → Int32) × (Nat → Int32)) :=
  (lp (f_X5_stepFrom_l2 fu r_all x1) fu (x1, r_reached)).bind fun zr1 =>
  (lp (f_X5_stepFrom_l34 fu r_joined r_m r_all x1) fu (0, zr1)).bind fun zr2 =>
  (lp (f_X5_stepFrom_l77 fu zr2 r_all x2) fu (x1, r_steps)).bind fun zr3 =>
  some (zr3, zr2)
def f_X5_leastSteps_l91 (fu : Nat) (r_joined : Nat → Int32) (r_m : Int32) (r_all : Int32) (x3 : Int32) (kk : Int32 × (Nat → Int32) × (Nat → Int32) → Option ((Nat → Int32) × (Nat → Int32))) (tt : Int32 × (Nat → Int32) × (Nat → Int32)) : Option ((Nat → Int32) × (Nat → Int32)) :=
  match tt with
  | (x4, r_steps, r_reached) =>
    if r_all < x4 then
      (some (r_steps, r_reached))
    else
    if x4 < 0 ∨ 256 ≤ (x4).toNatClampNeg then none else
    if (r_steps (x4).toNatClampNeg) = x3 then
      ((f_X5_stepFrom fu r_joined r_steps r_reached r_m r_all x4 (x3 + 1)).bind fun zr3 =>
      kk ((x4 + 1), zr3.1, zr3.2))
    else
    kk ((x4 + 1), r_steps, r_reached)
def f_X5_leastSteps_l67 (fu : Nat) (r_joined : Nat → Int32) (r_m : Int32) (r_all : Int32) (kk : Int32 × (Nat → Int32) × (Nat → Int32) → Option ((Nat → Int32) × (Nat → Int32))) (tt : Int32 × (Nat → Int32) × (Nat → Int32)) : Option ((Nat → Int32) × (Nat → Int32)) :=
  match tt with
  | (x3, r_steps, r_reached) =>
    if r_m ≤ x3 then
      (some (r_steps, r_reached))
    else
    if r_all < 0 ∨ 256 ≤ (r_all).toNatClampNeg then none else
    if (r_steps (r_all).toNatClampNeg) = (-1) then
      ((lp (f_X5_leastSteps_l91 fu r_joined r_m r_all x3) fu (1, r_steps, r_reached)).bind fun zr3 =>
      kk ((x3 + 1), zr3.1, zr3.2))
    else
    some (r_steps, r_reached)
def f_X5_leastSteps (fu : Nat) (h_hbr : Nat → Int32) (h_waits : Nat → Int32) (h_ranks : Int32) (r_joined : Nat → Int32) (r_steps : Nat → Int32) (r_reached : Nat → Int32) (r_all : Int32) (x2 : Int32) : Option (Int32 × (Nat → Int32) × (Nat → Int32) × (Nat → Int32) × Int32 × Int32) :=
  (f_X3_ranks fu h_ranks).bind fun zr1 =>
  if 8 < zr1 then
    (some ((-1), r_joined, r_steps, r_reached, zr1, r_all))
  else
  if x2 < 0 then
    (some ((-1), r_joined, r_steps, r_reached, zr1, r_all))
  else
  if x2 < zr1 then
    (vn (((1 <<< (zr1 &&& 31)) - 1) : Int32) fun za5 =>
    (f_X5_readLines fu h_hbr h_waits h_ranks r_joined zr1).bind fun zr6 =>
    (f_J7_fill_53178 fu 256 r_steps (-1)).bind fun zr7 =>
    if (1 <<< (x2 &&& 31)) < 0 ∨ 256 ≤ ((1 <<< (x2 &&& 31))).toNatClampNeg then none else
    (lp (f_X5_leastSteps_l67 fu zr6 zr1 za5) fu (0, (upd zr7 ((1 <<< (x2 &&& 31))).toNatClampNeg 0), r_reached)).bind fun zr8 =>
    if za5 < 0 ∨ 256 ≤ (za5).toNatClampNeg then none else
    some ((zr8.1 (za5).toNatClampNeg), zr6, zr8.1, zr8.2, zr1, za5))
  else
  some ((-1), r_joined, r_steps, r_reached, zr1, r_all)
def f_X8_hosts (fu : Nat) (h_alive : Nat → Int32) (h_late : Nat → Int32) (h_hbr : Nat → Int32) (h_rbh : Nat → Int32) (h_waits : Nat → Int32) (h_size : Int32) (h_ranks : Int32) (h_lines : Int32) (p_size : Int32) (e_num : Nat → Int32) (x1 : Int32) : Option (Int32 × (Nat → Int32) × (Nat → Int32) × (Nat → Int32) × (Nat → Int32) × (Nat → Int32) × Int32 × Int32 × Int32 × Int32 × (Nat → Int32)) :=
  if x1 < 2 then
    (some (0, h_alive, h_late, h_hbr, h_rbh, h_waits, h_size, h_ranks, h_lines, p_size, e_num))
  else
  if x1 ≤ 16 then
    ((f_X3_begin fu h_alive h_late h_hbr h_rbh h_waits x1).bind fun zr3 =>
    (f_X2_zero fu e_num).bind fun zr4 =>
    (f_X4_empty fu).bind fun zr5 =>
    some (1, zr3.1, zr3.2.1, zr3.2.2.1, zr3.2.2.2.1, zr3.2.2.2.2.1, zr3.2.2.2.2.2.1, zr3.2.2.2.2.2.2.1, zr3.2.2.2.2.2.2.2, zr5, zr4))
  else
  some (0, h_alive, h_late, h_hbr, h_rbh, h_waits, h_size, h_ranks, h_lines, p_size, e_num)
def f_X8_isPace (fu : Nat) (x0 : Int32) (x1 : Int32) : Option (Int32) :=
  if x0 < 0 then
    (some 0)
  else
  if 1000 < x0 then
    (some 0)
  else
  if x1 < 1 then
    (some 0)
  else
  if 1000 < x1 then
    (some 0)
  else
  some 1
def f_X8_line (fu : Nat) (h_waits : Nat → Int32) (h_pers : Nat → Int32) (h_size : Int32) (h_lines : Int32) (p_size : Int32) (x1 : Int32) (x2 : Int32) (x3 : Int32) (x4 : Int32) : Option (Int32 × (Nat → Int32) × (Nat → Int32) × Int32 × Int32) :=
  (f_X3_isPair fu h_size x1 x2).bind fun zr1 =>
  if zr1 = 0 then
    (some (0, h_waits, h_pers, h_lines, p_size))
  else
  if x3 = (-1) then
    ((f_X3_part fu h_waits h_lines x1 x2).bind fun zr8 =>
    (f_X4_empty fu).bind fun zr9 =>
    some (1, zr8.1, h_pers, zr8.2, zr9))
  else
  (f_X8_isPace fu x3 x4).bind fun zr4 =>
  if zr4 = 0 then
    (some (0, h_waits, h_pers, h_lines, p_size))
  else
  (f_X3_join fu h_waits h_pers h_size h_lines x1 x2 x3 x4).bind fun zr6 =>
  (f_X4_empty fu).bind fun zr7 =>
  some (1, zr6.1, zr6.2.1, zr6.2.2, zr7)
def f_X8_net (fu : Nat) (h_waits : Nat → Int32) (h_pers : Nat → Int32) (h_size : Int32) (h_lines : Int32) (p_size : Int32) (x1 : Int32) (x2 : Int32) (x3 : Int32) : Option (Int32 × (Nat → Int32) × (Nat → Int32) × Int32 × Int32) :=
  if x1 < 0 then
    (some ((-1), h_waits, h_pers, h_lines, p_size))
  else
  if 3 < x1 then
    (some ((-1), h_waits, h_pers, h_lines, p_size))
  else
  (f_X8_isPace fu x2 x3).bind fun zr3 =>
  if zr3 = 0 then
    (some ((-1), h_waits, h_pers, h_lines, p_size))
  else
  (f_X3_joinByForm fu h_waits h_pers h_size h_lines x1 x2 x3).bind fun zr5 =>
  (f_X4_empty fu).bind fun zr6 =>
  (f_X3_lines fu zr5.2.2).bind fun zr7 =>
  some (zr7, zr5.1, zr5.2.1, zr5.2.2, zr6)
def f_X8_isBlock (fu : Nat) (x0 : Int32) : Option (Int32) :=
  if x0 < 0 then
    (some 0)
  else
  if 16 ≤ x0 then
    (some 0)
  else
  some 1
def f_X8_set (fu : Nat) (h_size : Int32) (e_num : Nat → Int32) (x1 : Int32) (x2 : Int32) (x3 : Int32) : Option (Int32 × (Nat → Int32)) :=
  (f_X3_isHost fu h_size x1).bind fun zr1 =>
  if zr1 = 0 then
    (some (0, e_num))
  else
  (f_X8_isBlock fu x2).bind fun zr3 =>
  if zr3 = 0 then
    (some (0, e_num))
  else
  (f_X8_cell fu x1 x2).bind fun zr5 =>
  (f_X2_change fu e_num zr5 x3).bind fun zr6 =>
  some (1, zr6)
def f_X8_live (fu : Nat) (h_alive : Nat → Int32) (h_hbr : Nat → Int32) (h_rbh : Nat → Int32) (h_size : Int32) (h_ranks : Int32) (p_size : Int32) (x1 : Int32) (x2 : Int32) : Option (Int32 × (Nat → Int32) × (Nat → Int32) × (Nat → Int32) × Int32 × Int32) :=
  (f_X3_isHost fu h_size x1).bind fun zr1 =>
  if zr1 = 0 then
    (some (0, h_alive, h_hbr, h_rbh, h_ranks, p_size))
  else
  if x2 = 0 then
    ((f_X3_isLastLive fu h_alive h_size h_ranks x1).bind fun zr6 =>
    if zr6 = 0 then
      ((f_X3_turn fu h_alive h_hbr h_rbh h_size h_ranks x1 x2).bind fun zr8 =>
      (f_X4_empty fu).bind fun zr9 =>
      some (1, zr8.1, zr8.2.1, zr8.2.2.1, zr8.2.2.2, zr9))
    else
    some (0, h_alive, h_hbr, h_rbh, h_ranks, p_size))
  else
  (f_X3_turn fu h_alive h_hbr h_rbh h_size h_ranks x1 x2).bind fun zr4 =>
  (f_X4_empty fu).bind fun zr5 =>
  some (1, zr4.1, zr4.2.1, zr4.2.2.1, zr4.2.2.2, zr5)
def f_X8_late (fu : Nat) (h_late : Nat → Int32) (h_size : Int32) (x1 : Int32) (x2 : Int32) : Option (Int32 × (Nat → Int32)) :=
  (f_X3_isHost fu h_size x1).bind fun zr1 =>
  if zr1 = 0 then
    (some (0, h_late))
  else
  if x2 < 0 then
    (some (0, h_late))
  else
  if x2 ≤ 100000 then
    ((f_X3_delay fu h_late h_size x1 x2).bind fun zr5 =>
    some (1, zr5))
  else
  some (0, h_late)
def f_X8_count (fu : Nat) (h_size : Int32) (h_ranks : Int32) (h_lines : Int32) (p_packed : Nat → Int32) (p_size : Int32) (x1 : Int32) : Option (Int32) :=
  if x1 = 0 then
    ((f_X3_size fu h_size).bind fun zr2 =>
    some zr2)
  else
  if x1 = 1 then
    ((f_X3_ranks fu h_ranks).bind fun zr4 =>
    some zr4)
  else
  if x1 = 2 then
    ((f_X3_lines fu h_lines).bind fun zr6 =>
    some zr6)
  else
  if x1 = 3 then
    ((f_X4_size fu p_size).bind fun zr8 =>
    some zr8)
  else
  if x1 = 4 then
    ((f_X4_steps fu p_packed p_size).bind fun zr10 =>
    some zr10)
  else
  if x1 = 5 then
    ((f_X4_letters fu p_packed p_size).bind fun zr12 =>
    some zr12)
  else
  some (-1)
def f_X8_build (fu : Nat) (hq : Nat → Nat) (dq : Nat → Nat) (pq : Nat → Nat) (h_alive : Nat → Int32) (h_hbr : Nat → Int32) (h_rbh : Nat → Int32) (h_waits : Nat → Int32) (h_size : Int32) (h_ranks : Int32) (d_packed : Nat → Int32) (d_size : Int32) (w_drawn : Value) (w_house : Value) (w_m : Int32) (w_root : Int32) (w_step : Int32) (w_lacks : Int32) (x1 : Int32) (x2 : Int32) (x3 : Int32) : Option (Int32 × (Nat → Int32) × Int32 × Value × Value × Int32 × Int32 × Int32 × Int32 × Value × Value) :=
  (f_X7_draw fu dq hq h_alive h_hbr h_rbh h_waits h_size h_ranks d_packed d_size w_drawn w_house w_m w_root w_step w_lacks x1 x2 x3).bind fun zr1 =>
  if zr1.1 < 0 then
    (some (zr1.1, zr1.2.1, zr1.2.2.1, zr1.2.2.2.1, zr1.2.2.2.2.1, zr1.2.2.2.2.2.1, zr1.2.2.2.2.2.2.1, zr1.2.2.2.2.2.2.2.1, zr1.2.2.2.2.2.2.2.2, (.ref (pq 0)), (.ref (dq 0))))
  else
  some (zr1.1, zr1.2.1, zr1.2.2.1, zr1.2.2.2.1, zr1.2.2.2.2.1, zr1.2.2.2.2.2.1, zr1.2.2.2.2.2.2.1, zr1.2.2.2.2.2.2.2.1, zr1.2.2.2.2.2.2.2.2, (.ref (dq 0)), (.ref (pq 0)))
def f_X8_clear (fu : Nat) (p_size : Int32) : Option (Int32 × Int32) :=
  (f_X4_size fu p_size).bind fun zr1 =>
  (f_X4_empty fu).bind fun zr2 =>
  some (zr1, zr2)
def f_X8_send (fu : Nat) (h_alive : Nat → Int32) (h_waits : Nat → Int32) (h_size : Int32) (p_packed : Nat → Int32) (p_size : Int32) (x1 : Int32) (x2 : Int32) (x3 : Int32) (x4 : Int32) (x5 : Int32) (x6 : Int32) : Option (Int32 × (Nat → Int32) × Int32) :=
  if x1 < 0 then
    (some ((-1), p_packed, p_size))
  else
  if 64 ≤ x1 then
    (some ((-1), p_packed, p_size))
  else
  (f_X8_isBlock fu x4).bind fun zr3 =>
  if zr3 = 0 then
    (some ((-1), p_packed, p_size))
  else
  (f_X8_isBlock fu x5).bind fun zr5 =>
  if zr5 = 0 then
    (some ((-1), p_packed, p_size))
  else
  (f_X3_isLive fu h_alive h_size x2).bind fun zr7 =>
  if zr7 = 0 then
    (some ((-1), p_packed, p_size))
  else
  (f_X3_isLive fu h_alive h_size x3).bind fun zr9 =>
  if zr9 = 0 then
    (some ((-1), p_packed, p_size))
  else
  (f_X3_hasLine fu h_waits x2 x3).bind fun zr11 =>
  if zr11 = 0 then
    (some ((-1), p_packed, p_size))
  else
  (f_X4_isFull fu p_size).bind fun zr13 =>
  if zr13 = 0 then
    ((f_X4_forbids fu p_packed p_size x1 x2 x3 x5).bind fun zr15 =>
    if zr15 = 0 then
      ((f_X4_place fu p_packed p_size x1 x2 x3 x4 x5 x6).bind fun zr17 =>
      (f_X4_size fu zr17.2).bind fun zr18 =>
      some (zr18, zr17.1, zr17.2))
    else
    some ((-1), p_packed, p_size))
  else
  some ((-1), p_packed, p_size)
def f_X8_sent (fu : Nat) (p_packed : Nat → Int32) (p_size : Int32) (x1 : Int32) (x2 : Int32) : Option (Int32) :=
  if x1 < 0 then
    (some (-1))
  else
  (f_X4_size fu p_size).bind fun zr2 =>
  if x1 < zr2 then
    (if x2 = 0 then
      ((f_X4_step fu p_packed p_size x1).bind fun zr5 =>
      some zr5)
    else
    if x2 = 1 then
      ((f_X4_from fu p_packed p_size x1).bind fun zr7 =>
      some zr7)
    else
    if x2 = 2 then
      ((f_X4_to fu p_packed p_size x1).bind fun zr9 =>
      some zr9)
    else
    if x2 = 3 then
      ((f_X4_block fu p_packed p_size x1).bind fun zr11 =>
      some zr11)
    else
    if x2 = 4 then
      ((f_X4_toBlock fu p_packed p_size x1).bind fun zr13 =>
      some zr13)
    else
    if x2 = 5 then
      ((f_X4_isAdded fu p_packed p_size x1).bind fun zr15 =>
      if zr15 = 0 then
        (some 0)
      else
      some 1)
    else
    some (-1))
  else
  some (-1)
def f_X8_right (fu : Nat) (h_alive : Nat → Int32) (h_hbr : Nat → Int32) (h_rbh : Nat → Int32) (h_size : Int32) (h_ranks : Int32) (p_packed : Nat → Int32) (p_size : Int32) (s_some : Nat → Int64) (s_more : Nat → Int64) (s_sund : Nat → Int64) (s_mund : Nat → Int64) (s_group : Int32) (x1 : Int32) (x2 : Int32) : Option (Int32 × (Nat → Int64) × (Nat → Int64) × (Nat → Int64) × (Nat → Int64) × Int32) :=
  (f_X8_isAsked fu h_alive h_size x1 x2).bind fun zr1 =>
  if zr1 = 0 then
    (some (2, s_some, s_more, s_sund, s_mund, s_group))
  else
  (f_X6_firstWrong fu h_alive h_hbr h_rbh h_size h_ranks p_packed p_size s_some s_more s_sund s_mund s_group x1 x2).bind fun zr3 =>
  if zr3.1 < 256 then
    ((f_X8_hostOfCell fu zr3.1).bind fun zr5 =>
    (f_X8_blockOfCell fu zr3.1).bind fun zr6 =>
    some (((((-100) * zr5) - zr6) - 1), zr3.2.1, zr3.2.2.1, zr3.2.2.2.1, zr3.2.2.2.2.1, zr3.2.2.2.2.2))
  else
  some (1, zr3.2.1, zr3.2.2.1, zr3.2.2.2.1, zr3.2.2.2.2.1, zr3.2.2.2.2.2)
def f_X8_run (fu : Nat) (p_packed : Nat → Int32) (p_size : Int32) (e_num : Nat → Int32) (e_und : Nat → Int32) : Option (Int32 × (Nat → Int32) × (Nat → Int32)) :=
  (f_X1_follow_e fu p_packed p_size e_num e_und).bind fun zr1 =>
  (f_X4_steps fu p_packed p_size).bind fun zr2 =>
  some (zr2, zr1.1, zr1.2)
def f_X8_ticks (fu : Nat) (h_waits : Nat → Int32) (h_pers : Nat → Int32) (p_packed : Nat → Int32) (p_size : Int32) : Option (Int32) :=
  (f_X0_inStep fu h_waits h_pers p_packed p_size).bind fun zr1 =>
  some zr1
def f_X8_freely (fu : Nat) (h_alive : Nat → Int32) (h_late : Nat → Int32) (h_waits : Nat → Int32) (h_pers : Nat → Int32) (h_size : Int32) (p_packed : Nat → Int32) (p_size : Int32) (k_ahead : Nat → Int32) (k_behind : Nat → Int32) (x1 : Int32) : Option (Int32 × (Nat → Int32) × (Nat → Int32)) :=
  (f_X3_isLive fu h_alive h_size x1).bind fun zr1 =>
  if zr1 = 0 then
    (some ((-1), k_ahead, k_behind))
  else
  (f_X0_endOf fu h_late h_waits h_pers h_size p_packed p_size k_ahead k_behind x1).bind fun zr3 =>
  some (zr3.1, zr3.2.1, zr3.2.2)
def f_X8_draftTicks (fu : Nat) (h_waits : Nat → Int32) (h_pers : Nat → Int32) (d_packed : Nat → Int32) (d_size : Int32) (x1 : Int32) : Option (Int32) :=
  if 0 ≤ x1 then
    ((f_X0_inStep fu h_waits h_pers d_packed d_size).bind fun zr2 =>
    some zr2)
  else
  some x1
def f_X8_best_l23 (fu : Nat) (hq : Nat → Nat) (dq : Nat → Nat) (h_alive : Nat → Int32) (h_hbr : Nat → Int32) (h_rbh : Nat → Int32) (h_waits : Nat → Int32) (h_pers : Nat → Int32) (h_size : Int32) (h_ranks : Int32) (x1 : Int32) (x2 : Int32) (kk : Int32 × Int32 × Int32 × (Nat → Int32) × Int32 × Value × Value × Int32 × Int32 × Int32 × Int32 → Option (Int32 × (Nat → Int32) × Int32 × Value × Value × Int32 × Int32 × Int32 × Int32)) (tt : Int32 × Int32 × Int32 × (Nat → Int32) × Int32 × Value × Value × Int32 × Int32 × Int32 × Int32) : Option (Int32 × (Nat → Int32) × Int32 × Value × Value × Int32 × Int32 × Int32 × Int32) :=
  match tt with
  | (x3, x4, x5, d_packed, d_size, w_drawn, w_house, w_m, w_root, w_step, w_lacks) =>
    if 3 < x5 then
      (some (x4, d_packed, d_size, w_drawn, w_house, w_m, w_root, w_step, w_lacks))
    else
    (f_X7_draw fu dq hq h_alive h_hbr h_rbh h_waits h_size h_ranks d_packed d_size w_drawn w_house w_m w_root w_step w_lacks x5 x1 x2).bind fun zr2 =>
    (f_X8_draftTicks fu h_waits h_pers zr2.2.1 zr2.2.2.1 zr2.1).bind fun zr3 =>
    if zr3 < 0 then
      (kk (x3, x4, (x5 + 1), zr2.2.1, zr2.2.2.1, zr2.2.2.2.1, zr2.2.2.2.2.1, zr2.2.2.2.2.2.1, zr2.2.2.2.2.2.2.1, zr2.2.2.2.2.2.2.2.1, zr2.2.2.2.2.2.2.2.2))
    else
    if x4 = (-2) then
      (kk (zr3, x5, (x5 + 1), zr2.2.1, zr2.2.2.1, zr2.2.2.2.1, zr2.2.2.2.2.1, zr2.2.2.2.2.2.1, zr2.2.2.2.2.2.2.1, zr2.2.2.2.2.2.2.2.1, zr2.2.2.2.2.2.2.2.2))
    else
    if x3 ≤ zr3 then
      (kk (x3, x4, (x5 + 1), zr2.2.1, zr2.2.2.1, zr2.2.2.2.1, zr2.2.2.2.2.1, zr2.2.2.2.2.2.1, zr2.2.2.2.2.2.2.1, zr2.2.2.2.2.2.2.2.1, zr2.2.2.2.2.2.2.2.2))
    else
    kk (zr3, x5, (x5 + 1), zr2.2.1, zr2.2.2.1, zr2.2.2.2.1, zr2.2.2.2.2.1, zr2.2.2.2.2.2.1, zr2.2.2.2.2.2.2.1, zr2.2.2.2.2.2.2.2.1, zr2.2.2.2.2.2.2.2.2)
def f_X8_best (fu : Nat) (hq : Nat → Nat) (dq : Nat → Nat) (h_alive : Nat → Int32) (h_hbr : Nat → Int32) (h_rbh : Nat → Int32) (h_waits : Nat → Int32) (h_pers : Nat → Int32) (h_size : Int32) (h_ranks : Int32) (d_packed : Nat → Int32) (d_size : Int32) (w_drawn : Value) (w_house : Value) (w_m : Int32) (w_root : Int32) (w_step : Int32) (w_lacks : Int32) (x1 : Int32) (x2 : Int32) : Option (Int32 × (Nat → Int32) × Int32 × Value × Value × Int32 × Int32 × Int32 × Int32) :=
  (f_X8_isAsked fu h_alive h_size x1 x2).bind fun zr1 =>
  if zr1 = 0 then
    (some ((-1), d_packed, d_size, w_drawn, w_house, w_m, w_root, w_step, w_lacks))
  else
  (lp (f_X8_best_l23 fu hq dq h_alive h_hbr h_rbh h_waits h_pers h_size h_ranks x1 x2) fu (0, (-2), 0, d_packed, d_size, w_drawn, w_house, w_m, w_root, w_step, w_lacks)).bind fun zr3 =>
  some (zr3.1, zr3.2.1, zr3.2.2.1, zr3.2.2.2.1, zr3.2.2.2.2.1, zr3.2.2.2.2.2.1, zr3.2.2.2.2.2.2.1, zr3.2.2.2.2.2.2.2.1, zr3.2.2.2.2.2.2.2.2)
def f_X8_price (fu : Nat) (hq : Nat → Nat) (dq : Nat → Nat) (h_alive : Nat → Int32) (h_hbr : Nat → Int32) (h_rbh : Nat → Int32) (h_waits : Nat → Int32) (h_pers : Nat → Int32) (h_size : Int32) (h_ranks : Int32) (d_packed : Nat → Int32) (d_size : Int32) (w_drawn : Value) (w_house : Value) (w_m : Int32) (w_root : Int32) (w_step : Int32) (w_lacks : Int32) (x1 : Int32) (x2 : Int32) (x3 : Int32) : Option (Int32 × (Nat → Int32) × Int32 × Value × Value × Int32 × Int32 × Int32 × Int32) :=
  (f_X7_draw fu dq hq h_alive h_hbr h_rbh h_waits h_size h_ranks d_packed d_size w_drawn w_house w_m w_root w_step w_lacks x1 x2 x3).bind fun zr1 =>
  (f_X8_draftTicks fu h_waits h_pers zr1.2.1 zr1.2.2.1 zr1.1).bind fun zr2 =>
  some (zr2, zr1.2.1, zr1.2.2.1, zr1.2.2.2.1, zr1.2.2.2.2.1, zr1.2.2.2.2.2.1, zr1.2.2.2.2.2.2.1, zr1.2.2.2.2.2.2.2.1, zr1.2.2.2.2.2.2.2.2)
def f_X8_fewest (fu : Nat) (h_alive : Nat → Int32) (h_hbr : Nat → Int32) (h_rbh : Nat → Int32) (h_waits : Nat → Int32) (h_size : Int32) (h_ranks : Int32) (r_joined : Nat → Int32) (r_steps : Nat → Int32) (r_reached : Nat → Int32) (r_m : Int32) (r_all : Int32) (x1 : Int32) : Option (Int32 × (Nat → Int32) × (Nat → Int32) × (Nat → Int32) × Int32 × Int32) :=
  (f_X3_isLive fu h_alive h_size x1).bind fun zr1 =>
  if zr1 = 0 then
    (some ((-1), r_joined, r_steps, r_reached, r_m, r_all))
  else
  (f_X3_ranks fu h_ranks).bind fun zr3 =>
  if zr3 ≤ 8 then
    ((f_X3_rankOf fu h_alive h_rbh h_size x1).bind fun zr5 =>
    (f_X5_leastSteps fu h_hbr h_waits h_ranks r_joined r_steps r_reached r_all zr5).bind fun zr6 =>
    some (zr6.1, zr6.2.1, zr6.2.2.1, zr6.2.2.2.1, zr6.2.2.2.2.1, zr6.2.2.2.2.2))
  else
  some ((-1), r_joined, r_steps, r_reached, r_m, r_all)
def f_X9_thrown (fu : Nat) (m_thrown : Int32) : Option (Int32) :=
  some m_thrown
def f_X9_in (fu : Nat) (x0 : Int32) (x1 : Int32) (x2 : Int32) : Option (Int32) :=
  if x0 < x1 then
    (some 0)
  else
  if x2 < x0 then
    (some 0)
  else
  some 1
def f_X9_unlink_l2 (fu : Nat) (kk : Int32 × (Nat → Int32) → Option ((Nat → Int32))) (tt : Int32 × (Nat → Int32)) : Option ((Nat → Int32)) :=
  match tt with
  | (x1, m_wait) =>
    if 256 ≤ x1 then
      (some m_wait)
    else
    if x1 < 0 ∨ 256 ≤ (x1).toNatClampNeg then none else
    kk ((x1 + 1), (upd m_wait (x1).toNatClampNeg (-1)))
def f_X9_unlink (fu : Nat) (m_wait : Nat → Int32) : Option ((Nat → Int32)) :=
  (lp (f_X9_unlink_l2 fu) fu (0, m_wait)).bind fun zr1 =>
  some zr1
def f_X9_isHost (fu : Nat) (m_hosts : Int32) (x1 : Int32) : Option (Int32) :=
  (f_X9_in fu x1 0 (m_hosts - 1)).bind fun zr1 =>
  if ¬ (zr1 = 0 ∨ zr1 = 1) then none else
  some zr1
def f_X9_isLive (fu : Nat) (m_hosts : Int32) (m_lost : Nat → Int32) (x1 : Int32) : Option (Int32) :=
  (f_X9_isHost fu m_hosts x1).bind fun zr1 =>
  if zr1 = 0 then
    (some 0)
  else
  if x1 < 0 ∨ 16 ≤ (x1).toNatClampNeg then none else
  if (m_lost (x1).toNatClampNeg) = 0 then
    (some 1)
  else
  some 0
def f_X9_areJoined (fu : Nat) (m_wait : Nat → Int32) (x1 : Int32) (x2 : Int32) : Option (Int32) :=
  if ((16 * x1) + x2) < 0 ∨ 256 ≤ (((16 * x1) + x2)).toNatClampNeg then none else
  if (m_wait (((16 * x1) + x2)).toNatClampNeg) = (-1) then
    (some 0)
  else
  some 1
def f_X9_liveMany_l4 (fu : Nat) (m_hosts : Int32) (m_lost : Nat → Int32) (kk : Int32 × Int32 → Option (Int32)) (tt : Int32 × Int32) : Option (Int32) :=
  match tt with
  | (x1, x2) =>
    if m_hosts ≤ x2 then
      (some x1)
    else
    if x2 < 0 ∨ 16 ≤ (x2).toNatClampNeg then none else
    if (m_lost (x2).toNatClampNeg) = 0 then
      (kk ((x1 + 1), (x2 + 1)))
    else
    kk (x1, (x2 + 1))
def f_X9_liveMany (fu : Nat) (m_hosts : Int32) (m_lost : Nat → Int32) : Option (Int32) :=
  (lp (f_X9_liveMany_l4 fu m_hosts m_lost) fu (0, 0)).bind fun zr1 =>
  some zr1
def f_X9_hostOf_l4 (fu : Nat) (m_lost : Nat → Int32) (kk : Int32 × Int32 → Option (Int32)) (tt : Int32 × Int32) : Option (Int32) :=
  match tt with
  | (x2, x3) =>
    if x3 < 0 ∨ 16 ≤ (x3).toNatClampNeg then none else
    if (m_lost (x3).toNatClampNeg) = 0 then
      (if x2 ≤ 0 then
        (some x3)
      else
      if x3 < 0 ∨ 16 ≤ (x3).toNatClampNeg then none else
      kk ((x2 + (-1)), (x3 + 1)))
    else
    if x3 < 0 ∨ 16 ≤ (x3).toNatClampNeg then none else
    kk (x2, (x3 + 1))
def f_X9_hostOf (fu : Nat) (m_lost : Nat → Int32) (x1 : Int32) : Option (Int32) :=
  (lp (f_X9_hostOf_l4 fu m_lost) fu (x1, 0)).bind fun zr1 =>
  some zr1
def f_X9_rankOf_l4 (fu : Nat) (m_lost : Nat → Int32) (x1 : Int32) (kk : Int32 × Int32 → Option (Int32)) (tt : Int32 × Int32) : Option (Int32) :=
  match tt with
  | (x2, x3) =>
    if x1 ≤ x3 then
      (some x2)
    else
    if x3 < 0 ∨ 16 ≤ (x3).toNatClampNeg then none else
    if (m_lost (x3).toNatClampNeg) = 0 then
      (kk ((x2 + 1), (x3 + 1)))
    else
    kk (x2, (x3 + 1))
def f_X9_rankOf (fu : Nat) (m_lost : Nat → Int32) (x1 : Int32) : Option (Int32) :=
  (lp (f_X9_rankOf_l4 fu m_lost x1) fu (0, 0)).bind fun zr1 =>
  some zr1
def f_X9_hosts_l24 (fu : Nat) (kk : Int32 × (Nat → Int32) × (Nat → Int32) → Option ((Nat → Int32) × (Nat → Int32))) (tt : Int32 × (Nat → Int32) × (Nat → Int32)) : Option ((Nat → Int32) × (Nat → Int32)) :=
  match tt with
  | (x2, m_lost, m_late) =>
    if 16 ≤ x2 then
      (some (m_lost, m_late))
    else
    if x2 < 0 ∨ 16 ≤ (x2).toNatClampNeg then none else
    if x2 < 0 ∨ 16 ≤ (x2).toNatClampNeg then none else
    kk ((x2 + 1), (upd m_lost (x2).toNatClampNeg (vp_nar .boolean 0)), (upd m_late (x2).toNatClampNeg 0))
def f_X9_hosts_l52 (fu : Nat) (kk : Int32 × (Nat → Int32) → Option ((Nat → Int32))) (tt : Int32 × (Nat → Int32)) : Option ((Nat → Int32)) :=
  match tt with
  | (x2, m_blocks) =>
    if 256 ≤ x2 then
      (some m_blocks)
    else
    if x2 < 0 ∨ 256 ≤ (x2).toNatClampNeg then none else
    kk ((x2 + 1), (upd m_blocks (x2).toNatClampNeg 0))
def f_X9_hosts (fu : Nat) (m_hosts : Int32) (m_lost : Nat → Int32) (m_late : Nat → Int32) (m_wait : Nat → Int32) (m_blocks : Nat → Int32) (m_many : Int32) (x1 : Int32) : Option (Int32 × Int32 × (Nat → Int32) × (Nat → Int32) × (Nat → Int32) × (Nat → Int32) × Int32 × Int32) :=
  (f_X9_in fu x1 2 16).bind fun zr1 =>
  if zr1 = 0 then
    (some (0, m_hosts, m_lost, m_late, m_wait, m_blocks, m_many, 0))
  else
  (lp (f_X9_hosts_l24 fu) fu (0, m_lost, m_late)).bind fun zr3 =>
  (lp (f_X9_hosts_l52 fu) fu (0, m_blocks)).bind fun zr4 =>
  (f_X9_unlink fu m_wait).bind fun zr5 =>
  some (1, x1, zr3.1, zr3.2, zr5, zr4, 0, 0)
def f_X9_tie (fu : Nat) (m_wait : Nat → Int32) (m_per : Nat → Int32) (x1 : Int32) (x2 : Int32) (x3 : Int32) (x4 : Int32) : Option ((Nat → Int32) × (Nat → Int32)) :=
  if ((16 * x1) + x2) < 0 ∨ 256 ≤ (((16 * x1) + x2)).toNatClampNeg then none else
  if ((16 * x2) + x1) < 0 ∨ 256 ≤ (((16 * x2) + x1)).toNatClampNeg then none else
  if ((16 * x1) + x2) < 0 ∨ 256 ≤ (((16 * x1) + x2)).toNatClampNeg then none else
  if ((16 * x2) + x1) < 0 ∨ 256 ≤ (((16 * x2) + x1)).toNatClampNeg then none else
  some ((upd (upd m_wait (((16 * x1) + x2)).toNatClampNeg x3) (((16 * x2) + x1)).toNatClampNeg x3), (upd (upd m_per (((16 * x1) + x2)).toNatClampNeg x4) (((16 * x2) + x1)).toNatClampNeg x4))
def f_X9_line (fu : Nat) (m_hosts : Int32) (m_wait : Nat → Int32) (m_per : Nat → Int32) (m_many : Int32) (x1 : Int32) (x2 : Int32) (x3 : Int32) (x4 : Int32) : Option (Int32 × (Nat → Int32) × (Nat → Int32) × Int32 × Int32) :=
  (f_X9_isHost fu m_hosts x1).bind fun zr1 =>
  if zr1 = 0 then
    (some (0, m_wait, m_per, m_many, 0))
  else
  (f_X9_isHost fu m_hosts x2).bind fun zr3 =>
  if zr3 = 0 then
    (some (0, m_wait, m_per, m_many, 0))
  else
  if x1 = x2 then
    (some (0, m_wait, m_per, m_many, 0))
  else
  (f_X9_in fu x3 (-1) 1000).bind fun zr6 =>
  if zr6 = 0 then
    (some (0, m_wait, m_per, m_many, 0))
  else
  if x3 = (-1) then
    ((f_X9_tie fu m_wait m_per x1 x2 x3 x4).bind fun zr9 =>
    some (1, zr9.1, zr9.2, 0, 0))
  else
  (f_X9_in fu x4 1 1000).bind fun zr10 =>
  if zr10 = 0 then
    (some (0, m_wait, m_per, m_many, 0))
  else
  (f_X9_tie fu m_wait m_per x1 x2 x3 x4).bind fun zr12 =>
  some (1, zr12.1, zr12.2, 0, 0)
def f_X9_lines_l14 (fu : Nat) (m_wait : Nat → Int32) (x2 : Int32) (kk : Int32 × Int32 → Option (Int32)) (tt : Int32 × Int32) : Option (Int32) :=
  match tt with
  | (x1, x3) =>
    if x2 ≤ x3 then
      (some x1)
    else
    (f_X9_areJoined fu m_wait x2 x3).bind fun zr2 =>
    if zr2 = 0 then
      (kk (x1, (x3 + 1)))
    else
    kk ((x1 + 1), (x3 + 1))
def f_X9_lines_l4 (fu : Nat) (m_hosts : Int32) (m_wait : Nat → Int32) (kk : Int32 × Int32 → Option (Int32)) (tt : Int32 × Int32) : Option (Int32) :=
  match tt with
  | (x1, x2) =>
    if m_hosts ≤ x2 then
      (some x1)
    else
    (lp (f_X9_lines_l14 fu m_wait x2) fu (x1, 0)).bind fun zr2 =>
    kk (zr2, (x2 + 1))
def f_X9_lines (fu : Nat) (m_hosts : Int32) (m_wait : Nat → Int32) : Option (Int32) :=
  (lp (f_X9_lines_l4 fu m_hosts m_wait) fu (0, 0)).bind fun zr1 =>
  some zr1
def f_X9_net_l56 (fu : Nat) (m_hosts : Int32) (x1 : Int32) (x2 : Int32) (x3 : Int32) (x4 : Int32) (kk : Int32 × (Nat → Int32) × (Nat → Int32) → Option ((Nat → Int32) × (Nat → Int32))) (tt : Int32 × (Nat → Int32) × (Nat → Int32)) : Option ((Nat → Int32) × (Nat → Int32)) :=
  match tt with
  | (x5, m_wait, m_per) =>
    if m_hosts ≤ x5 then
      (some (m_wait, m_per))
    else
    if x5 = (x4 + 1) then
      (if x1 = 1 then
        ((f_X9_tie fu m_wait m_per x4 x5 x2 x3).bind fun zr30 =>
        kk ((x5 + 1), zr30.1, zr30.2))
      else
      if x1 = 2 then
        ((f_X9_tie fu m_wait m_per x4 x5 x2 x3).bind fun zr45 =>
        kk ((x5 + 1), zr45.1, zr45.2))
      else
      if x1 = 0 then
        ((f_X9_tie fu m_wait m_per x4 x5 x2 x3).bind fun zr42 =>
        kk ((x5 + 1), zr42.1, zr42.2))
      else
      if x1 = 3 then
        ((f_J6_bitCount_0f7a4 fu (x4 ^^^ x5)).bind fun zr35 =>
        if zr35 = 1 then
          ((f_X9_tie fu m_wait m_per x4 x5 x2 x3).bind fun zr39 =>
          kk ((x5 + 1), zr39.1, zr39.2))
        else
        kk ((x5 + 1), m_wait, m_per))
      else
      kk ((x5 + 1), m_wait, m_per))
    else
    if x1 = 1 then
      ((f_X9_tie fu m_wait m_per x4 x5 x2 x3).bind fun zr5 =>
      kk ((x5 + 1), zr5.1, zr5.2))
    else
    if x1 = 2 then
      (kk ((x5 + 1), m_wait, m_per))
    else
    if x1 = 0 then
      (if x4 = 0 then
        (if x5 = (m_hosts - 1) then
          ((f_X9_tie fu m_wait m_per x4 x5 x2 x3).bind fun zr21 =>
          kk ((x5 + 1), zr21.1, zr21.2))
        else
        kk ((x5 + 1), m_wait, m_per))
      else
      kk ((x5 + 1), m_wait, m_per))
    else
    if x1 = 3 then
      ((f_J6_bitCount_0f7a4 fu (x4 ^^^ x5)).bind fun zr10 =>
      if zr10 = 1 then
        ((f_X9_tie fu m_wait m_per x4 x5 x2 x3).bind fun zr14 =>
        kk ((x5 + 1), zr14.1, zr14.2))
      else
      kk ((x5 + 1), m_wait, m_per))
    else
    kk ((x5 + 1), m_wait, m_per)
def f_X9_net_l41 (fu : Nat) (m_hosts : Int32) (x1 : Int32) (x2 : Int32) (x3 : Int32) (kk : Int32 × (Nat → Int32) × (Nat → Int32) → Option ((Nat → Int32) × (Nat → Int32))) (tt : Int32 × (Nat → Int32) × (Nat → Int32)) : Option ((Nat → Int32) × (Nat → Int32)) :=
  match tt with
  | (x4, m_wait, m_per) =>
    if m_hosts ≤ x4 then
      (some (m_wait, m_per))
    else
    vn ((x4 + 1) : Int32) fun za2 =>
    (lp (f_X9_net_l56 fu m_hosts x1 x2 x3 x4) fu (za2, m_wait, m_per)).bind fun zr3 =>
    kk ((x4 + 1), zr3.1, zr3.2)
def f_X9_net (fu : Nat) (m_hosts : Int32) (m_wait : Nat → Int32) (m_per : Nat → Int32) (m_many : Int32) (x1 : Int32) (x2 : Int32) (x3 : Int32) : Option (Int32 × (Nat → Int32) × (Nat → Int32) × Int32 × Int32) :=
  (f_X9_in fu x1 0 3).bind fun zr1 =>
  if zr1 = 0 then
    (some ((-1), m_wait, m_per, m_many, 0))
  else
  (f_X9_in fu x2 0 1000).bind fun zr3 =>
  if zr3 = 0 then
    (some ((-1), m_wait, m_per, m_many, 0))
  else
  (f_X9_in fu x3 1 1000).bind fun zr5 =>
  if zr5 = 0 then
    (some ((-1), m_wait, m_per, m_many, 0))
  else
  (lp (f_X9_net_l41 fu m_hosts x1 x2 x3) fu (0, m_wait, m_per)).bind fun zr7 =>
  (f_X9_lines fu m_hosts zr7.1).bind fun zr8 =>
  some (zr8, zr7.1, zr7.2, 0, 0)
def f_X9_set (fu : Nat) (m_hosts : Int32) (m_blocks : Nat → Int32) (x1 : Int32) (x2 : Int32) (x3 : Int32) : Option (Int32 × (Nat → Int32) × Int32) :=
  (f_X9_isHost fu m_hosts x1).bind fun zr1 =>
  if zr1 = 0 then
    (some (0, m_blocks, 0))
  else
  (f_X9_in fu x2 0 15).bind fun zr3 =>
  if zr3 = 0 then
    (some (0, m_blocks, 0))
  else
  if ((16 * x1) + x2) < 0 ∨ 256 ≤ (((16 * x1) + x2)).toNatClampNeg then none else
  some (1, (upd m_blocks (((16 * x1) + x2)).toNatClampNeg x3), 0)
def f_X9_at (fu : Nat) (m_hosts : Int32) (m_blocks : Nat → Int32) (x1 : Int32) (x2 : Int32) : Option (Int32 × Int32) :=
  (f_X9_isHost fu m_hosts x1).bind fun zr1 =>
  if zr1 = 0 then
    (some (0, 1))
  else
  (f_X9_in fu x2 0 15).bind fun zr3 =>
  if zr3 = 0 then
    (some (0, 1))
  else
  if ((16 * x1) + x2) < 0 ∨ 256 ≤ (((16 * x1) + x2)).toNatClampNeg then none else
  some ((m_blocks (((16 * x1) + x2)).toNatClampNeg), 0)
def f_X9_live (fu : Nat) (m_hosts : Int32) (m_lost : Nat → Int32) (m_many : Int32) (x1 : Int32) (x2 : Int32) : Option (Int32 × (Nat → Int32) × Int32 × Int32) :=
  (f_X9_isHost fu m_hosts x1).bind fun zr1 =>
  if zr1 = 0 then
    (some (0, m_lost, m_many, 0))
  else
  if x2 = 0 then
    ((f_X9_isLive fu m_hosts m_lost x1).bind fun zr5 =>
    if zr5 = 0 then
      (if x1 < 0 ∨ 16 ≤ (x1).toNatClampNeg then none else
      some (1, (upd m_lost (x1).toNatClampNeg (vp_nar .boolean 1)), 0, 0))
    else
    (f_X9_liveMany fu m_hosts m_lost).bind fun zr8 =>
    if zr8 = 1 then
      (some (0, m_lost, m_many, 0))
    else
    if x1 < 0 ∨ 16 ≤ (x1).toNatClampNeg then none else
    some (1, (upd m_lost (x1).toNatClampNeg (vp_nar .boolean 1)), 0, 0))
  else
  if x1 < 0 ∨ 16 ≤ (x1).toNatClampNeg then none else
  some (1, (upd m_lost (x1).toNatClampNeg (vp_nar .boolean 0)), 0, 0)
def f_X9_late (fu : Nat) (m_hosts : Int32) (m_late : Nat → Int32) (x1 : Int32) (x2 : Int32) : Option (Int32 × (Nat → Int32) × Int32) :=
  (f_X9_isHost fu m_hosts x1).bind fun zr1 =>
  if zr1 = 0 then
    (some (0, m_late, 0))
  else
  (f_X9_in fu x2 0 100000).bind fun zr3 =>
  if zr3 = 0 then
    (some (0, m_late, 0))
  else
  if x1 < 0 ∨ 16 ≤ (x1).toNatClampNeg then none else
  some (1, (upd m_late (x1).toNatClampNeg x2), 0)
def f_X9_stepsOf_l4 (fu : Nat) (v_row : Nat → Int32) (x1 : Int32) (kk : Int32 × Int32 → Option (Int32)) (tt : Int32 × Int32) : Option (Int32) :=
  match tt with
  | (x2, x3) =>
    if x1 ≤ x3 then
      (some x2)
    else
    if (6 * x3) < 0 ∨ 7200 ≤ ((6 * x3)).toNatClampNeg then none else
    if ((v_row ((6 * x3)).toNatClampNeg) + 1) ≤ x2 then
      (kk (x2, (x3 + 1)))
    else
    if (6 * x3) < 0 ∨ 7200 ≤ ((6 * x3)).toNatClampNeg then none else
    vn (((v_row ((6 * x3)).toNatClampNeg) + 1) : Int32) fun za3 =>
    kk (za3, (x3 + 1))
def f_X9_stepsOf (fu : Nat) (v_row : Nat → Int32) (x1 : Int32) : Option (Int32) :=
  (lp (f_X9_stepsOf_l4 fu v_row x1) fu (0, 0)).bind fun zr1 =>
  some zr1
def f_X9_letter_l6 (fu : Nat) (v_row : Nat → Int32) (x1 : Int32) (x2 : Int32) (x3 : Int32) (x4 : Int32) (kk : Int32 × Int32 → Option (Int32)) (tt : Int32 × Int32) : Option (Int32) :=
  match tt with
  | (x5, x6) =>
    if x1 ≤ x6 then
      (some x5)
    else
    if (6 * x6) < 0 ∨ 7200 ≤ ((6 * x6)).toNatClampNeg then none else
    if (v_row ((6 * x6)).toNatClampNeg) = x2 then
      (if ((6 * x6) + 1) < 0 ∨ 7200 ≤ (((6 * x6) + 1)).toNatClampNeg then none else
      if (v_row (((6 * x6) + 1)).toNatClampNeg) = x3 then
        (if ((6 * x6) + 2) < 0 ∨ 7200 ≤ (((6 * x6) + 2)).toNatClampNeg then none else
        if (v_row (((6 * x6) + 2)).toNatClampNeg) = x4 then
          (kk ((x5 + 1), (x6 + 1)))
        else
        kk (x5, (x6 + 1)))
      else
      kk (x5, (x6 + 1)))
    else
    kk (x5, (x6 + 1))
def f_X9_letter (fu : Nat) (v_row : Nat → Int32) (x1 : Int32) (x2 : Int32) (x3 : Int32) (x4 : Int32) : Option (Int32) :=
  (lp (f_X9_letter_l6 fu v_row x1 x2 x3 x4) fu (0, 0)).bind fun zr1 =>
  some zr1
def f_X9_letters_l17 (fu : Nat) (m_sends : Nat → Int32) (x2 : Int32) (kk : Int32 × Int32 → Option (Int32)) (tt : Int32 × Int32) : Option (Int32) :=
  match tt with
  | (x3, x4) =>
    if x2 ≤ x4 then
      (some x3)
    else
    if x3 = 0 then
      (kk (0, (x4 + 1)))
    else
    if (6 * x4) < 0 ∨ 7200 ≤ ((6 * x4)).toNatClampNeg then none else
    if (6 * x2) < 0 ∨ 7200 ≤ ((6 * x2)).toNatClampNeg then none else
    if (m_sends ((6 * x4)).toNatClampNeg) = (m_sends ((6 * x2)).toNatClampNeg) then
      (if ((6 * x4) + 1) < 0 ∨ 7200 ≤ (((6 * x4) + 1)).toNatClampNeg then none else
      if ((6 * x2) + 1) < 0 ∨ 7200 ≤ (((6 * x2) + 1)).toNatClampNeg then none else
      if (m_sends (((6 * x4) + 1)).toNatClampNeg) = (m_sends (((6 * x2) + 1)).toNatClampNeg) then
        (kk (0, (x4 + 1)))
      else
      kk (1, (x4 + 1)))
    else
    kk (1, (x4 + 1))
def f_X9_letters_l4 (fu : Nat) (m_sends : Nat → Int32) (m_many : Int32) (kk : Int32 × Int32 → Option (Int32)) (tt : Int32 × Int32) : Option (Int32) :=
  match tt with
  | (x1, x2) =>
    if m_many ≤ x2 then
      (some x1)
    else
    (lp (f_X9_letters_l17 fu m_sends x2) fu (1, 0)).bind fun zr2 =>
    if zr2 = 0 then
      (kk (x1, (x2 + 1)))
    else
    kk ((x1 + 1), (x2 + 1))
def f_X9_letters (fu : Nat) (m_sends : Nat → Int32) (m_many : Int32) : Option (Int32) :=
  (lp (f_X9_letters_l4 fu m_sends m_many) fu (0, 0)).bind fun zr1 =>
  some zr1
def f_X9_count (fu : Nat) (m_hosts : Int32) (m_lost : Nat → Int32) (m_wait : Nat → Int32) (m_sends : Nat → Int32) (m_many : Int32) (x1 : Int32) : Option (Int32 × Int32) :=
  if x1 = 0 then
    (some (m_hosts, 0))
  else
  if x1 = 1 then
    ((f_X9_liveMany fu m_hosts m_lost).bind fun zr3 =>
    some (zr3, 0))
  else
  if x1 = 2 then
    ((f_X9_lines fu m_hosts m_wait).bind fun zr5 =>
    some (zr5, 0))
  else
  if x1 = 3 then
    (some (m_many, 0))
  else
  if x1 = 4 then
    ((f_X9_stepsOf fu m_sends m_many).bind fun zr8 =>
    some (zr8, 0))
  else
  if x1 = 5 then
    ((f_X9_letters fu m_sends m_many).bind fun zr10 =>
    some (zr10, 0))
  else
  some ((-1), 0)
def f_X9_put_l45 (fu : Nat) (x1 : Int32) (x4 : Int32) (x5 : Int32) (x7 : Int32) (x8 : Int32) (x9 : Int32) (kk : Int32 × (Nat → Int32) × Int32 → Option ((Nat → Int32) × Int32)) (tt : Int32 × (Nat → Int32) × Int32) : Option ((Nat → Int32) × Int32) :=
  match tt with
  | (x10, m_made, m_madeMany) =>
    if x5 ≤ x10 then
      (some (m_made, m_madeMany))
    else
    vn ((6 * m_madeMany) : Int32) fun za2 =>
    if za2 < 0 ∨ 7200 ≤ (za2).toNatClampNeg then none else
    if (za2 + 1) < 0 ∨ 7200 ≤ ((za2 + 1)).toNatClampNeg then none else
    if (za2 + 2) < 0 ∨ 7200 ≤ ((za2 + 2)).toNatClampNeg then none else
    if (za2 + 3) < 0 ∨ 7200 ≤ ((za2 + 3)).toNatClampNeg then none else
    if (za2 + 4) < 0 ∨ 7200 ≤ ((za2 + 4)).toNatClampNeg then none else
    if x7 = 0 then
      (if (za2 + 5) < 0 ∨ 7200 ≤ ((za2 + 5)).toNatClampNeg then none else
      vn ((m_madeMany + 1) : Int32) fun za4 =>
      kk ((x10 + 1), (upd (upd (upd (upd (upd (upd m_made (za2).toNatClampNeg x1) ((za2 + 1)).toNatClampNeg x8) ((za2 + 2)).toNatClampNeg x9) ((za2 + 3)).toNatClampNeg (x4 + x10)) ((za2 + 4)).toNatClampNeg (x4 + x10)) ((za2 + 5)).toNatClampNeg 0), za4))
    else
    if (za2 + 5) < 0 ∨ 7200 ≤ ((za2 + 5)).toNatClampNeg then none else
    vn ((m_madeMany + 1) : Int32) fun za5 =>
    kk ((x10 + 1), (upd (upd (upd (upd (upd (upd m_made (za2).toNatClampNeg x1) ((za2 + 1)).toNatClampNeg x8) ((za2 + 2)).toNatClampNeg x9) ((za2 + 3)).toNatClampNeg (x4 + x10)) ((za2 + 4)).toNatClampNeg (x4 + x10)) ((za2 + 5)).toNatClampNeg 1), za5)
def f_X9_put (fu : Nat) (m_lost : Nat → Int32) (m_wait : Nat → Int32) (m_made : Nat → Int32) (m_madeMany : Int32) (m_lacking : Int32) (x1 : Int32) (x2 : Int32) (x3 : Int32) (x4 : Int32) (x5 : Int32) (x6 : Int32) (x7 : Int32) : Option ((Nat → Int32) × Int32 × Int32) :=
  if x6 = 0 then none else
  (f_X9_hostOf fu m_lost ((x2 + x6) - (x2 + x6) / x6 * x6)).bind fun zr1 =>
  if x6 = 0 then none else
  (f_X9_hostOf fu m_lost ((x3 + x6) - (x3 + x6) / x6 * x6)).bind fun zr2 =>
  (f_X9_areJoined fu m_wait zr1 zr2).bind fun zr3 =>
  if zr3 = 0 then
    ((lp (f_X9_put_l45 fu x1 x4 x5 x7 zr1 zr2) fu (0, m_made, m_madeMany)).bind fun zr6 =>
    some (zr6.1, zr6.2, 1))
  else
  (lp (f_X9_put_l45 fu x1 x4 x5 x7 zr1 zr2) fu (0, m_made, m_madeMany)).bind fun zr5 =>
  some (zr5.1, zr5.2, m_lacking)
def f_X9_ring_l70 (fu : Nat) (m_lost : Nat → Int32) (m_wait : Nat → Int32) (x1 : Int32) (x3 : Int32) (x4 : Int32) (kk : Int32 × (Nat → Int32) × Int32 × Int32 → Option ((Nat → Int32) × Int32 × Int32)) (tt : Int32 × (Nat → Int32) × Int32 × Int32) : Option ((Nat → Int32) × Int32 × Int32) :=
  match tt with
  | (x5, m_made, m_madeMany, m_lacking) =>
    if x3 ≤ x5 then
      (some (m_made, m_madeMany, m_lacking))
    else
    if x3 = 0 then none else
    if x1 = 2 then
      ((f_X9_put fu m_lost m_wait m_made m_madeMany m_lacking x4 x5 (x5 + 1) (((x5 - x4) + x3) - ((x5 - x4) + x3) / x3 * x3) 1 x3 1).bind fun zr4 =>
      kk ((x5 + 1), zr4.1, zr4.2.1, zr4.2.2))
    else
    (f_X9_put fu m_lost m_wait m_made m_madeMany m_lacking x4 x5 (x5 + 1) (((x5 - x4) + x3) - ((x5 - x4) + x3) / x3 * x3) 1 x3 0).bind fun zr3 =>
    kk ((x5 + 1), zr3.1, zr3.2.1, zr3.2.2)
def f_X9_ring_l59 (fu : Nat) (m_lost : Nat → Int32) (m_wait : Nat → Int32) (x1 : Int32) (x3 : Int32) (kk : Int32 × (Nat → Int32) × Int32 × Int32 → Option ((Nat → Int32) × Int32 × Int32)) (tt : Int32 × (Nat → Int32) × Int32 × Int32) : Option ((Nat → Int32) × Int32 × Int32) :=
  match tt with
  | (x4, m_made, m_madeMany, m_lacking) =>
    if (x3 - 1) ≤ x4 then
      (some (m_made, m_madeMany, m_lacking))
    else
    (lp (f_X9_ring_l70 fu m_lost m_wait x1 x3 x4) fu (0, m_made, m_madeMany, m_lacking)).bind fun zr2 =>
    kk ((x4 + 1), zr2.1, zr2.2.1, zr2.2.2)
def f_X9_ring_l140 (fu : Nat) (m_lost : Nat → Int32) (m_wait : Nat → Int32) (x3 : Int32) (x4 : Int32) (kk : Int32 × (Nat → Int32) × Int32 × Int32 → Option ((Nat → Int32) × Int32 × Int32)) (tt : Int32 × (Nat → Int32) × Int32 × Int32) : Option ((Nat → Int32) × Int32 × Int32) :=
  match tt with
  | (x5, m_made, m_madeMany, m_lacking) =>
    if x3 ≤ x5 then
      (some (m_made, m_madeMany, m_lacking))
    else
    if x3 = 0 then none else
    (f_X9_put fu m_lost m_wait m_made m_madeMany m_lacking ((x3 - 1) + x4) x5 (x5 + 1) ((((x5 + 1) - x4) + x3) - (((x5 + 1) - x4) + x3) / x3 * x3) 1 x3 0).bind fun zr2 =>
    kk ((x5 + 1), zr2.1, zr2.2.1, zr2.2.2)
def f_X9_ring_l124 (fu : Nat) (m_lost : Nat → Int32) (m_wait : Nat → Int32) (x1 : Int32) (x3 : Int32) (kk : Int32 × (Nat → Int32) × Int32 × Int32 → Option ((Nat → Int32) × Int32 × Int32)) (tt : Int32 × (Nat → Int32) × Int32 × Int32) : Option ((Nat → Int32) × Int32 × Int32) :=
  match tt with
  | (x4, m_made, m_madeMany, m_lacking) =>
    if (x3 - 1) ≤ x4 then
      (some (m_made, m_madeMany, m_lacking))
    else
    if x1 = 2 then
      ((lp (f_X9_ring_l140 fu m_lost m_wait x3 x4) fu (0, m_made, m_madeMany, m_lacking)).bind fun zr3 =>
      kk ((x4 + 1), zr3.1, zr3.2.1, zr3.2.2))
    else
    some (m_made, m_madeMany, m_lacking)
def f_X9_ring_l8 (fu : Nat) (m_lost : Nat → Int32) (m_wait : Nat → Int32) (x1 : Int32) (x2 : Int32) (x3 : Int32) (kk : Int32 × (Nat → Int32) × Int32 × Int32 → Option ((Nat → Int32) × Int32 × Int32)) (tt : Int32 × (Nat → Int32) × Int32 × Int32) : Option ((Nat → Int32) × Int32 × Int32) :=
  match tt with
  | (x4, m_made, m_madeMany, m_lacking) =>
    if (x3 - 1) ≤ x4 then
      (some (m_made, m_madeMany, m_lacking))
    else
    if x1 = 1 then
      ((f_X9_put fu m_lost m_wait m_made m_madeMany m_lacking x4 ((x2 + x4) + x1) (((x2 + x4) + x1) + 1) 0 x3 x3 1).bind fun zr4 =>
      kk ((x4 + 1), zr4.1, zr4.2.1, zr4.2.2))
    else
    (f_X9_put fu m_lost m_wait m_made m_madeMany m_lacking x4 ((x2 + x4) + x1) (((x2 + x4) + x1) + 1) 0 x3 x3 0).bind fun zr3 =>
    kk ((x4 + 1), zr3.1, zr3.2.1, zr3.2.2)
def f_X9_ring (fu : Nat) (m_lost : Nat → Int32) (m_wait : Nat → Int32) (m_made : Nat → Int32) (m_madeMany : Int32) (m_lacking : Int32) (x1 : Int32) (x2 : Int32) (x3 : Int32) : Option ((Nat → Int32) × Int32 × Int32) :=
  if 2 ≤ x1 then
    ((lp (f_X9_ring_l59 fu m_lost m_wait x1 x3) fu (0, m_made, m_madeMany, m_lacking)).bind fun zr2 =>
    (lp (f_X9_ring_l124 fu m_lost m_wait x1 x3) fu (0, zr2.1, zr2.2.1, zr2.2.2)).bind fun zr3 =>
    some (zr3.1, zr3.2.1, zr3.2.2))
  else
  (lp (f_X9_ring_l8 fu m_lost m_wait x1 x2 x3) fu (0, m_made, m_madeMany, m_lacking)).bind fun zr4 =>
  some (zr4.1, zr4.2.1, zr4.2.2)
def f_X9_turns_l2 (fu : Nat) (x0 : Int32) (kk : Int32 → Option (Int32)) (x1 : Int32) : Option (Int32) :=
  if x0 ≤ (1 <<< (x1 &&& 31)) then
    (some x1)
  else
  kk (x1 + 1)
def f_X9_turns (fu : Nat) (x0 : Int32) : Option (Int32) :=
  (lp (f_X9_turns_l2 fu x0) fu 0).bind fun zr1 =>
  some zr1
def f_X9_spread_l15 (fu : Nat) (m_lost : Nat → Int32) (m_wait : Nat → Int32) (x1 : Int32) (x2 : Int32) (x3 : Int32) (x4 : Int32) (kk : Int32 × (Nat → Int32) × Int32 × Int32 → Option ((Nat → Int32) × Int32 × Int32)) (tt : Int32 × (Nat → Int32) × Int32 × Int32) : Option ((Nat → Int32) × Int32 × Int32) :=
  match tt with
  | (x5, m_made, m_madeMany, m_lacking) =>
    if (1 <<< (x4 &&& 31)) ≤ x5 then
      (some (m_made, m_madeMany, m_lacking))
    else
    if x3 ≤ (x5 + (1 <<< (x4 &&& 31))) then
      (some (m_made, m_madeMany, m_lacking))
    else
    (f_X9_put fu m_lost m_wait m_made m_madeMany m_lacking (x1 + x4) (x2 + x5) ((x2 + x5) + (1 <<< (x4 &&& 31))) 0 x3 x3 0).bind fun zr3 =>
    kk ((x5 + 1), zr3.1, zr3.2.1, zr3.2.2)
def f_X9_spread_l3 (fu : Nat) (m_lost : Nat → Int32) (m_wait : Nat → Int32) (x1 : Int32) (x2 : Int32) (x3 : Int32) (kk : Int32 × (Nat → Int32) × Int32 × Int32 → Option ((Nat → Int32) × Int32 × Int32)) (tt : Int32 × (Nat → Int32) × Int32 × Int32) : Option ((Nat → Int32) × Int32 × Int32) :=
  match tt with
  | (x4, m_made, m_madeMany, m_lacking) =>
    (f_X9_turns fu x3).bind fun zr1 =>
    if zr1 ≤ x4 then
      (some (m_made, m_madeMany, m_lacking))
    else
    (lp (f_X9_spread_l15 fu m_lost m_wait x1 x2 x3 x4) fu (0, m_made, m_madeMany, m_lacking)).bind fun zr3 =>
    kk ((x4 + 1), zr3.1, zr3.2.1, zr3.2.2)
def f_X9_spread (fu : Nat) (m_lost : Nat → Int32) (m_wait : Nat → Int32) (m_made : Nat → Int32) (m_madeMany : Int32) (m_lacking : Int32) (x1 : Int32) (x2 : Int32) (x3 : Int32) : Option ((Nat → Int32) × Int32 × Int32) :=
  (lp (f_X9_spread_l3 fu m_lost m_wait x1 x2 x3) fu (0, m_made, m_madeMany, m_lacking)).bind fun zr1 =>
  some (zr1.1, zr1.2.1, zr1.2.2)
def f_X9_tree_l34 (fu : Nat) (m_lost : Nat → Int32) (m_wait : Nat → Int32) (x2 : Int32) (x3 : Int32) (x5 : Int32) (x6 : Int32) (kk : Int32 × (Nat → Int32) × Int32 × Int32 → Option ((Nat → Int32) × Int32 × Int32)) (tt : Int32 × (Nat → Int32) × Int32 × Int32) : Option ((Nat → Int32) × Int32 × Int32) :=
  match tt with
  | (x7, m_made, m_madeMany, m_lacking) =>
    if x6 ≤ x7 then
      (some (m_made, m_madeMany, m_lacking))
    else
    if x3 ≤ (x7 + x6) then
      (some (m_made, m_madeMany, m_lacking))
    else
    (f_X9_put fu m_lost m_wait m_made m_madeMany m_lacking x5 ((x2 + x7) + x6) (x2 + x7) 0 x3 x3 1).bind fun zr3 =>
    kk ((x7 + 1), zr3.1, zr3.2.1, zr3.2.2)
def f_X9_tree_l9 (fu : Nat) (m_lost : Nat → Int32) (m_wait : Nat → Int32) (x1 : Int32) (x2 : Int32) (x3 : Int32) (x4 : Int32) (kk : Int32 × (Nat → Int32) × Int32 × Int32 → Option ((Nat → Int32) × Int32 × Int32)) (tt : Int32 × (Nat → Int32) × Int32 × Int32) : Option ((Nat → Int32) × Int32 × Int32) :=
  match tt with
  | (x5, m_made, m_madeMany, m_lacking) =>
    if x4 ≤ x5 then
      (some (m_made, m_madeMany, m_lacking))
    else
    if x1 ≤ 0 then
      (some (m_made, m_madeMany, m_lacking))
    else
    vn ((1 <<< (((x4 - 1) - x5) &&& 31)) : Int32) fun za3 =>
    (lp (f_X9_tree_l34 fu m_lost m_wait x2 x3 x5 za3) fu (0, m_made, m_madeMany, m_lacking)).bind fun zr4 =>
    kk ((x5 + 1), zr4.1, zr4.2.1, zr4.2.2)
def f_X9_tree (fu : Nat) (m_lost : Nat → Int32) (m_wait : Nat → Int32) (m_made : Nat → Int32) (m_madeMany : Int32) (m_lacking : Int32) (x1 : Int32) (x2 : Int32) (x3 : Int32) : Option ((Nat → Int32) × Int32 × Int32) :=
  (f_X9_turns fu x3).bind fun zr1 =>
  (lp (f_X9_tree_l9 fu m_lost m_wait x1 x2 x3 zr1) fu (0, m_made, m_madeMany, m_lacking)).bind fun zr2 =>
  if x1 = 1 then
    (some (zr2.1, zr2.2.1, zr2.2.2))
  else
  if x1 = 0 then
    ((f_X9_spread fu m_lost m_wait zr2.1 zr2.2.1 zr2.2.2 0 x2 x3).bind fun zr6 =>
    some (zr6.1, zr6.2.1, zr6.2.2))
  else
  (f_X9_spread fu m_lost m_wait zr2.1 zr2.2.1 zr2.2.2 zr1 x2 x3).bind fun zr5 =>
  some (zr5.1, zr5.2.1, zr5.2.2)
def f_X9_halve_l18 (fu : Nat) (m_lost : Nat → Int32) (m_wait : Nat → Int32) (x1 : Int32) (x2 : Int32) (x3 : Int32) (x4 : Int32) (kk : Int32 × (Nat → Int32) × Int32 × Int32 → Option ((Nat → Int32) × Int32 × Int32)) (tt : Int32 × (Nat → Int32) × Int32 × Int32) : Option ((Nat → Int32) × Int32 × Int32) :=
  match tt with
  | (x5, m_made, m_madeMany, m_lacking) =>
    if x2 ≤ x5 then
      (some (m_made, m_madeMany, m_lacking))
    else
    if x1 = 2 then
      ((f_X9_put fu m_lost m_wait m_made m_madeMany m_lacking x3 x5 (x5 ^^^ x4) 0 x2 x2 1).bind fun zr8 =>
      kk ((x5 + 1), zr8.1, zr8.2.1, zr8.2.2))
    else
    if x4 = 0 then none else
    (f_X9_put fu m_lost m_wait m_made m_madeMany m_lacking x3 x5 (x5 ^^^ x4) (x5 - (x5 - x5 / x4 * x4)) x4 x2 0).bind fun zr5 =>
    kk ((x5 + 1), zr5.1, zr5.2.1, zr5.2.2)
def f_X9_halve_l2 (fu : Nat) (m_lost : Nat → Int32) (m_wait : Nat → Int32) (x1 : Int32) (x2 : Int32) (kk : Int32 × (Nat → Int32) × Int32 × Int32 → Option ((Nat → Int32) × Int32 × Int32)) (tt : Int32 × (Nat → Int32) × Int32 × Int32) : Option ((Nat → Int32) × Int32 × Int32) :=
  match tt with
  | (x3, m_made, m_madeMany, m_lacking) =>
    (f_X9_turns fu x2).bind fun zr1 =>
    if zr1 ≤ x3 then
      (some (m_made, m_madeMany, m_lacking))
    else
    vn ((1 <<< (x3 &&& 31)) : Int32) fun za3 =>
    (lp (f_X9_halve_l18 fu m_lost m_wait x1 x2 x3 za3) fu (0, m_made, m_madeMany, m_lacking)).bind fun zr4 =>
    kk ((x3 + 1), zr4.1, zr4.2.1, zr4.2.2)
def f_X9_halve (fu : Nat) (m_lost : Nat → Int32) (m_wait : Nat → Int32) (m_made : Nat → Int32) (m_madeMany : Int32) (m_lacking : Int32) (x1 : Int32) (x2 : Int32) : Option ((Nat → Int32) × Int32 × Int32) :=
  (lp (f_X9_halve_l2 fu m_lost m_wait x1 x2) fu (0, m_made, m_madeMany, m_lacking)).bind fun zr1 =>
  some (zr1.1, zr1.2.1, zr1.2.2)
def f_X9_direct_l85 (fu : Nat) (m_lost : Nat → Int32) (m_wait : Nat → Int32) (x3 : Int32) (x5 : Int32) (kk : Int32 × (Nat → Int32) × Int32 × Int32 → Option ((Nat → Int32) × Int32 × Int32)) (tt : Int32 × (Nat → Int32) × Int32 × Int32) : Option ((Nat → Int32) × Int32 × Int32) :=
  match tt with
  | (x6, m_made, m_madeMany, m_lacking) =>
    if x3 ≤ x6 then
      (some (m_made, m_madeMany, m_lacking))
    else
    (f_X9_put fu m_lost m_wait m_made m_madeMany m_lacking (x5 - 1) x6 (x6 + x5) x6 1 x3 0).bind fun zr2 =>
    kk ((x6 + 1), zr2.1, zr2.2.1, zr2.2.2)
def f_X9_direct_l134 (fu : Nat) (m_lost : Nat → Int32) (m_wait : Nat → Int32) (x3 : Int32) (x4 : Int32) (x5 : Int32) (kk : Int32 × (Nat → Int32) × Int32 × Int32 → Option ((Nat → Int32) × Int32 × Int32)) (tt : Int32 × (Nat → Int32) × Int32 × Int32) : Option ((Nat → Int32) × Int32 × Int32) :=
  match tt with
  | (x7, m_made, m_madeMany, m_lacking) =>
    if x3 ≤ x7 then
      (some (m_made, m_madeMany, m_lacking))
    else
    if x3 = 0 then none else
    vn ((((x5 - x7) + x3) - ((x5 - x7) + x3) / x3 * x3) : Int32) fun za2 =>
    if za2 = x7 then
      (kk ((x7 + 1), m_made, m_madeMany, m_lacking))
    else
    (f_X9_put fu m_lost m_wait m_made m_madeMany m_lacking x4 x7 za2 za2 1 x3 0).bind fun zr4 =>
    if ((6 * zr4.2.1) - 2) < 0 ∨ 7200 ≤ (((6 * zr4.2.1) - 2)).toNatClampNeg then none else
    kk ((x7 + 1), (upd zr4.1 (((6 * zr4.2.1) - 2)).toNatClampNeg x7), zr4.2.1, zr4.2.2)
def f_X9_direct_l6 (fu : Nat) (m_lost : Nat → Int32) (m_wait : Nat → Int32) (x1 : Int32) (x2 : Int32) (x3 : Int32) (kk : Int32 × Int32 × (Nat → Int32) × Int32 × Int32 → Option ((Nat → Int32) × Int32 × Int32)) (tt : Int32 × Int32 × (Nat → Int32) × Int32 × Int32) : Option ((Nat → Int32) × Int32 × Int32) :=
  match tt with
  | (x4, x5, m_made, m_madeMany, m_lacking) =>
    if x3 ≤ x5 then
      (some (m_made, m_madeMany, m_lacking))
    else
    if 2 ≤ x1 then
      (if x1 = 3 then
        (if x5 ≤ 0 then
          (kk (x4, (x5 + 1), m_made, m_madeMany, m_lacking))
        else
        (lp (f_X9_direct_l85 fu m_lost m_wait x3 x5) fu (0, m_made, m_madeMany, m_lacking)).bind fun zr9 =>
        kk (x4, (x5 + 1), zr9.1, zr9.2.1, zr9.2.2))
      else
      if x1 = 4 then
        ((lp (f_X9_direct_l134 fu m_lost m_wait x3 x4 x5) fu (0, m_made, m_madeMany, m_lacking)).bind fun zr5 =>
        if zr5.2.1 ≤ m_madeMany then
          (kk (x4, (x5 + 1), zr5.1, zr5.2.1, zr5.2.2))
        else
        kk ((x4 + 1), (x5 + 1), zr5.1, zr5.2.1, zr5.2.2))
      else
      kk (x4, (x5 + 1), m_made, m_madeMany, m_lacking))
    else
    if (x3 - 1) ≤ x5 then
      (if x1 = 3 then
        (if x5 ≤ 0 then
          (kk (x4, (x5 + 1), m_made, m_madeMany, m_lacking))
        else
        (lp (f_X9_direct_l85 fu m_lost m_wait x3 x5) fu (0, m_made, m_madeMany, m_lacking)).bind fun zr18 =>
        kk (x4, (x5 + 1), zr18.1, zr18.2.1, zr18.2.2))
      else
      if x1 = 4 then
        ((lp (f_X9_direct_l134 fu m_lost m_wait x3 x4 x5) fu (0, m_made, m_madeMany, m_lacking)).bind fun zr14 =>
        if zr14.2.1 ≤ m_madeMany then
          (kk (x4, (x5 + 1), zr14.1, zr14.2.1, zr14.2.2))
        else
        kk ((x4 + 1), (x5 + 1), zr14.1, zr14.2.1, zr14.2.2))
      else
      kk (x4, (x5 + 1), m_made, m_madeMany, m_lacking))
    else
    if x1 = 0 then
      ((f_X9_put fu m_lost m_wait m_made m_madeMany m_lacking x5 x2 ((x2 + x5) + 1) 0 x3 x3 0).bind fun zr37 =>
      kk (x4, (x5 + 1), zr37.1, zr37.2.1, zr37.2.2))
    else
    if x1 = 1 then
      ((f_X9_put fu m_lost m_wait m_made m_madeMany m_lacking x5 ((x2 + x5) + 1) x2 0 x3 x3 1).bind fun zr32 =>
      kk (x4, (x5 + 1), zr32.1, zr32.2.1, zr32.2.2))
    else
    (f_X9_put fu m_lost m_wait m_made m_madeMany m_lacking x5 ((x2 + x5) + 1) x2 0 x3 x3 0).bind fun zr23 =>
    if x1 = 3 then
      (if x5 ≤ 0 then
        (kk (x4, (x5 + 1), zr23.1, zr23.2.1, zr23.2.2))
      else
      (lp (f_X9_direct_l85 fu m_lost m_wait x3 x5) fu (0, zr23.1, zr23.2.1, zr23.2.2)).bind fun zr30 =>
      kk (x4, (x5 + 1), zr30.1, zr30.2.1, zr30.2.2))
    else
    if x1 = 4 then
      ((lp (f_X9_direct_l134 fu m_lost m_wait x3 x4 x5) fu (0, zr23.1, zr23.2.1, zr23.2.2)).bind fun zr26 =>
      if zr26.2.1 ≤ zr23.2.1 then
        (kk (x4, (x5 + 1), zr26.1, zr26.2.1, zr26.2.2))
      else
      kk ((x4 + 1), (x5 + 1), zr26.1, zr26.2.1, zr26.2.2))
    else
    kk (x4, (x5 + 1), zr23.1, zr23.2.1, zr23.2.2)
def f_X9_direct (fu : Nat) (m_lost : Nat → Int32) (m_wait : Nat → Int32) (m_made : Nat → Int32) (m_madeMany : Int32) (m_lacking : Int32) (x1 : Int32) (x2 : Int32) (x3 : Int32) : Option ((Nat → Int32) × Int32 × Int32) :=
  (lp (f_X9_direct_l6 fu m_lost m_wait x1 x2 x3) fu (0, 0, m_made, m_madeMany, m_lacking)).bind fun zr1 =>
  some (zr1.1, zr1.2.1, zr1.2.2)
def f_X9_isWay (fu : Nat) (x0 : Int32) (x1 : Int32) (x2 : Int32) : Option (Int32) :=
  if x0 = 0 then
    (if x1 = 4 then
      (some 0)
    else
    some 1)
  else
  if x0 = 1 then
    (if 3 ≤ x1 then
      (some 0)
    else
    some 1)
  else
  if x0 = 2 then
    (if x1 = 2 then
      ((f_J6_bitCount_0f7a4 fu x2).bind fun zr7 =>
      if zr7 = 1 then
        (some 1)
      else
      some 0)
    else
    if x1 = 3 then
      ((f_J6_bitCount_0f7a4 fu x2).bind fun zr10 =>
      if zr10 = 1 then
        (some 1)
      else
      some 0)
    else
    some 0)
  else
  if x1 = 2 then
    (some 0)
  else
  some 1
def f_X9_isAsk (fu : Nat) (m_hosts : Int32) (m_lost : Nat → Int32) (x1 : Int32) (x2 : Int32) : Option (Int32) :=
  (f_X9_in fu x1 0 4).bind fun zr1 =>
  if zr1 = 0 then
    (some 0)
  else
  (f_X9_isLive fu m_hosts m_lost x2).bind fun zr3 =>
  if zr3 = 0 then
    (some 0)
  else
  some 1
def f_X9_make (fu : Nat) (m_hosts : Int32) (m_lost : Nat → Int32) (m_wait : Nat → Int32) (m_made : Nat → Int32) (m_madeMany : Int32) (m_lacking : Int32) (x1 : Int32) (x2 : Int32) (x3 : Int32) : Option (Int32 × (Nat → Int32) × Int32 × Int32) :=
  (f_X9_in fu x1 0 3).bind fun zr1 =>
  if zr1 = 0 then
    (some ((-1), m_made, m_madeMany, m_lacking))
  else
  (f_X9_isAsk fu m_hosts m_lost x2 x3).bind fun zr3 =>
  if zr3 = 0 then
    (some ((-1), m_made, m_madeMany, m_lacking))
  else
  (f_X9_liveMany fu m_hosts m_lost).bind fun zr5 =>
  (f_X9_isWay fu x1 x2 zr5).bind fun zr6 =>
  if zr6 = 0 then
    (some ((-2), m_made, m_madeMany, m_lacking))
  else
  (f_X9_rankOf fu m_lost x3).bind fun zr8 =>
  if x1 = 0 then
    ((f_X9_ring fu m_lost m_wait m_made 0 0 x2 zr8 zr5).bind fun zr18 =>
    if zr18.2.2 = 0 then
      (some (0, zr18.1, zr18.2.1, zr18.2.2))
    else
    some ((-3), zr18.1, zr18.2.1, zr18.2.2))
  else
  if x1 = 1 then
    ((f_X9_tree fu m_lost m_wait m_made 0 0 x2 zr8 zr5).bind fun zr16 =>
    if zr16.2.2 = 0 then
      (some (0, zr16.1, zr16.2.1, zr16.2.2))
    else
    some ((-3), zr16.1, zr16.2.1, zr16.2.2))
  else
  if x1 = 2 then
    ((f_X9_halve fu m_lost m_wait m_made 0 0 x2 zr5).bind fun zr14 =>
    if zr14.2.2 = 0 then
      (some (0, zr14.1, zr14.2.1, zr14.2.2))
    else
    some ((-3), zr14.1, zr14.2.1, zr14.2.2))
  else
  (f_X9_direct fu m_lost m_wait m_made 0 0 x2 zr8 zr5).bind fun zr12 =>
  if zr12.2.2 = 0 then
    (some (0, zr12.1, zr12.2.1, zr12.2.2))
  else
  some ((-3), zr12.1, zr12.2.1, zr12.2.2)
def f_X9_keyOf (fu : Nat) (x0 : Int32) (x1 : Int32) (x2 : Int32) : Option (Int32) :=
  some ((((x0 * 16) + x1) * 16) + x2)
def f_X9_lay_l64 (fu : Nat) (x7 : Int32) (kk : Int32 × (Nat → Int32) → Option ((Nat → Int32))) (tt : Int32 × (Nat → Int32)) : Option ((Nat → Int32)) :=
  match tt with
  | (x8, m_sends) =>
    if 6 ≤ x8 then
      (some m_sends)
    else
    if (((6 * x7) - 6) + x8) < 0 ∨ 7200 ≤ ((((6 * x7) - 6) + x8)).toNatClampNeg then none else
    if ((6 * x7) + x8) < 0 ∨ 7200 ≤ (((6 * x7) + x8)).toNatClampNeg then none else
    kk ((x8 + 1), (upd m_sends (((6 * x7) + x8)).toNatClampNeg (m_sends ((((6 * x7) - 6) + x8)).toNatClampNeg)))
def f_X9_lay_l6 (fu : Nat) (x1 : Int32) (x2 : Int32) (x5 : Int32) (kk : Int32 × (Nat → Int32) → Option (Int32 × (Nat → Int32))) (tt : Int32 × (Nat → Int32)) : Option (Int32 × (Nat → Int32)) :=
  match tt with
  | (x7, m_sends) =>
    if x7 ≤ 0 then
      (some (x7, m_sends))
    else
    if ((6 * x7) - 6) < 0 ∨ 7200 ≤ (((6 * x7) - 6)).toNatClampNeg then none else
    if ((6 * x7) - 5) < 0 ∨ 7200 ≤ (((6 * x7) - 5)).toNatClampNeg then none else
    if ((6 * x7) - 2) < 0 ∨ 7200 ≤ (((6 * x7) - 2)).toNatClampNeg then none else
    (f_X9_keyOf fu (m_sends (((6 * x7) - 6)).toNatClampNeg) (m_sends (((6 * x7) - 5)).toNatClampNeg) (m_sends (((6 * x7) - 2)).toNatClampNeg)).bind fun zr2 =>
    (f_X9_keyOf fu x1 x2 x5).bind fun zr3 =>
    if zr2 ≤ zr3 then
      (some (x7, m_sends))
    else
    (lp (f_X9_lay_l64 fu x7) fu (0, m_sends)).bind fun zr5 =>
    kk ((x7 + (-1)), zr5)
def f_X9_lay (fu : Nat) (m_sends : Nat → Int32) (m_many : Int32) (x1 : Int32) (x2 : Int32) (x3 : Int32) (x4 : Int32) (x5 : Int32) (x6 : Int32) : Option ((Nat → Int32) × Int32) :=
  (lp (f_X9_lay_l6 fu x1 x2 x5) fu (m_many, m_sends)).bind fun zr1 =>
  vn ((6 * zr1.1) : Int32) fun za2 =>
  if za2 < 0 ∨ 7200 ≤ (za2).toNatClampNeg then none else
  if (za2 + 1) < 0 ∨ 7200 ≤ ((za2 + 1)).toNatClampNeg then none else
  if (za2 + 2) < 0 ∨ 7200 ≤ ((za2 + 2)).toNatClampNeg then none else
  if (za2 + 3) < 0 ∨ 7200 ≤ ((za2 + 3)).toNatClampNeg then none else
  if (za2 + 4) < 0 ∨ 7200 ≤ ((za2 + 4)).toNatClampNeg then none else
  if (za2 + 5) < 0 ∨ 7200 ≤ ((za2 + 5)).toNatClampNeg then none else
  vn ((m_many + 1) : Int32) fun za3 =>
  some ((upd (upd (upd (upd (upd (upd zr1.2 (za2).toNatClampNeg x1) ((za2 + 1)).toNatClampNeg x2) ((za2 + 2)).toNatClampNeg x3) ((za2 + 3)).toNatClampNeg x4) ((za2 + 4)).toNatClampNeg x5) ((za2 + 5)).toNatClampNeg x6), za3)
def f_X9_build_l30 (fu : Nat) (m_made : Nat → Int32) (m_madeMany : Int32) (kk : Int32 × (Nat → Int32) × Int32 → Option ((Nat → Int32) × Int32)) (tt : Int32 × (Nat → Int32) × Int32) : Option ((Nat → Int32) × Int32) :=
  match tt with
  | (x5, m_sends, m_many) =>
    if m_madeMany ≤ x5 then
      (some (m_sends, m_many))
    else
    if (6 * x5) < 0 ∨ 7200 ≤ ((6 * x5)).toNatClampNeg then none else
    if ((6 * x5) + 1) < 0 ∨ 7200 ≤ (((6 * x5) + 1)).toNatClampNeg then none else
    if ((6 * x5) + 2) < 0 ∨ 7200 ≤ (((6 * x5) + 2)).toNatClampNeg then none else
    if ((6 * x5) + 3) < 0 ∨ 7200 ≤ (((6 * x5) + 3)).toNatClampNeg then none else
    if ((6 * x5) + 4) < 0 ∨ 7200 ≤ (((6 * x5) + 4)).toNatClampNeg then none else
    if ((6 * x5) + 5) < 0 ∨ 7200 ≤ (((6 * x5) + 5)).toNatClampNeg then none else
    (f_X9_lay fu m_sends m_many (m_made ((6 * x5)).toNatClampNeg) (m_made (((6 * x5) + 1)).toNatClampNeg) (m_made (((6 * x5) + 2)).toNatClampNeg) (m_made (((6 * x5) + 3)).toNatClampNeg) (m_made (((6 * x5) + 4)).toNatClampNeg) (m_made (((6 * x5) + 5)).toNatClampNeg)).bind fun zr2 =>
    kk ((x5 + 1), zr2.1, zr2.2)
def f_X9_build (fu : Nat) (m_hosts : Int32) (m_lost : Nat → Int32) (m_wait : Nat → Int32) (m_sends : Nat → Int32) (m_many : Int32) (m_made : Nat → Int32) (m_madeMany : Int32) (m_lacking : Int32) (x1 : Int32) (x2 : Int32) (x3 : Int32) : Option (Int32 × (Nat → Int32) × Int32 × (Nat → Int32) × Int32 × Int32 × Int32) :=
  (f_X9_make fu m_hosts m_lost m_wait m_made m_madeMany m_lacking x1 x2 x3).bind fun zr1 =>
  if 0 ≤ zr1.1 then
    ((lp (f_X9_build_l30 fu zr1.2.1 zr1.2.2.1) fu (0, m_sends, 0)).bind fun zr3 =>
    (f_X9_stepsOf fu zr3.1 zr3.2).bind fun zr4 =>
    some (zr4, zr3.1, zr3.2, zr1.2.1, zr1.2.2.1, zr1.2.2.2, 0))
  else
  some (zr1.1, m_sends, m_many, zr1.2.1, zr1.2.2.1, zr1.2.2.2, 0)
def f_X9_clear (fu : Nat) (m_many : Int32) : Option (Int32 × Int32 × Int32) :=
  some (m_many, 0, 0)
def f_X9_send_l82 (fu : Nat) (m_sends : Nat → Int32) (m_many : Int32) (x1 : Int32) (x2 : Int32) (x3 : Int32) (x5 : Int32) (kk : Int32 → Option ((Unit) ⊕ (Unit))) (x7 : Int32) : Option ((Unit) ⊕ (Unit)) :=
  if m_many ≤ x7 then
    (some (.inr ()))
  else
  if (6 * x7) < 0 ∨ 7200 ≤ ((6 * x7)).toNatClampNeg then none else
  if (m_sends ((6 * x7)).toNatClampNeg) = x1 then
    (if ((6 * x7) + 1) < 0 ∨ 7200 ≤ (((6 * x7) + 1)).toNatClampNeg then none else
    if (m_sends (((6 * x7) + 1)).toNatClampNeg) = x2 then
      (if ((6 * x7) + 2) < 0 ∨ 7200 ≤ (((6 * x7) + 2)).toNatClampNeg then none else
      if (m_sends (((6 * x7) + 2)).toNatClampNeg) = x3 then
        (if ((6 * x7) + 4) < 0 ∨ 7200 ≤ (((6 * x7) + 4)).toNatClampNeg then none else
        if (m_sends (((6 * x7) + 4)).toNatClampNeg) = x5 then
          (some (.inl ()))
        else
        kk (x7 + 1))
      else
      some (.inl ()))
    else
    if ((6 * x7) + 2) < 0 ∨ 7200 ≤ (((6 * x7) + 2)).toNatClampNeg then none else
    if (m_sends (((6 * x7) + 2)).toNatClampNeg) = x3 then
      (some (.inl ()))
    else
    kk (x7 + 1))
  else
  kk (x7 + 1)
def f_X9_send (fu : Nat) (m_hosts : Int32) (m_lost : Nat → Int32) (m_wait : Nat → Int32) (m_sends : Nat → Int32) (m_many : Int32) (x1 : Int32) (x2 : Int32) (x3 : Int32) (x4 : Int32) (x5 : Int32) (x6 : Int32) : Option (Int32 × (Nat → Int32) × Int32 × Int32) :=
  (f_X9_in fu x1 0 63).bind fun zr1 =>
  if zr1 = 0 then
    (some ((-1), m_sends, m_many, 0))
  else
  (f_X9_isLive fu m_hosts m_lost x2).bind fun zr3 =>
  if zr3 = 0 then
    (some ((-1), m_sends, m_many, 0))
  else
  (f_X9_isLive fu m_hosts m_lost x3).bind fun zr5 =>
  if zr5 = 0 then
    (some ((-1), m_sends, m_many, 0))
  else
  if x2 = x3 then
    (some ((-1), m_sends, m_many, 0))
  else
  (f_X9_in fu x4 0 15).bind fun zr8 =>
  if zr8 = 0 then
    (some ((-1), m_sends, m_many, 0))
  else
  (f_X9_in fu x5 0 15).bind fun zr10 =>
  if zr10 = 0 then
    (some ((-1), m_sends, m_many, 0))
  else
  (f_X9_areJoined fu m_wait x2 x3).bind fun zr12 =>
  if zr12 = 0 then
    (some ((-1), m_sends, m_many, 0))
  else
  if m_many = 1200 then
    (some ((-1), m_sends, m_many, 0))
  else
  (lp (f_X9_send_l82 fu m_sends m_many x1 x2 x3 x5) fu 0).bind fun zr15 =>
  (Sum.elim
    (fun zr15_0 =>
      some ((-1), m_sends, m_many, 0)
    )
    (fun zr15_1 =>
      if x6 = 0 then
        ((f_X9_lay fu m_sends m_many x1 x2 x3 x4 x5 0).bind fun zr17 =>
        some (zr17.2, zr17.1, zr17.2, 0))
      else
      (f_X9_lay fu m_sends m_many x1 x2 x3 x4 x5 1).bind fun zr18 =>
      some (zr18.2, zr18.1, zr18.2, 0)
    )
  ) zr15
def f_X9_sent (fu : Nat) (m_sends : Nat → Int32) (m_many : Int32) (x1 : Int32) (x2 : Int32) : Option (Int32 × Int32) :=
  (f_X9_in fu x1 0 (m_many - 1)).bind fun zr1 =>
  if zr1 = 0 then
    (some ((-1), 0))
  else
  (f_X9_in fu x2 0 5).bind fun zr3 =>
  if zr3 = 0 then
    (some ((-1), 0))
  else
  if ((6 * x1) + x2) < 0 ∨ 7200 ≤ (((6 * x1) + x2)).toNatClampNeg then none else
  some ((m_sends (((6 * x1) + x2)).toNatClampNeg), 0)
def f_X9_follow_l11 (fu : Nat) (x1 : Int32) (kk : Int32 × (Nat → Int32) → Option ((Nat → Int32))) (tt : Int32 × (Nat → Int32)) : Option ((Nat → Int32)) :=
  match tt with
  | (x2, m_now) =>
    if 256 ≤ x2 then
      (some m_now)
    else
    if x1 = x2 then
      (if ((256 * x1) + x2) < 0 ∨ 65536 ≤ (((256 * x1) + x2)).toNatClampNeg then none else
      kk ((x2 + 1), (upd m_now (((256 * x1) + x2)).toNatClampNeg (vp_nar .byte ((1 : Int32).toInt8.toInt32)))))
    else
    if ((256 * x1) + x2) < 0 ∨ 65536 ≤ (((256 * x1) + x2)).toNatClampNeg then none else
    kk ((x2 + 1), (upd m_now (((256 * x1) + x2)).toNatClampNeg (vp_nar .byte ((0 : Int32).toInt8.toInt32))))
def f_X9_follow_l2 (fu : Nat) (kk : Int32 × (Nat → Int32) → Option ((Nat → Int32))) (tt : Int32 × (Nat → Int32)) : Option ((Nat → Int32)) :=
  match tt with
  | (x1, m_now) =>
    if 256 ≤ x1 then
      (some m_now)
    else
    (lp (f_X9_follow_l11 fu x1) fu (0, m_now)).bind fun zr2 =>
    kk ((x1 + 1), zr2)
def f_X9_follow_l75 (fu : Nat) (m_now : Nat → Int32) (kk : Int32 × (Nat → Int32) → Option ((Nat → Int32))) (tt : Int32 × (Nat → Int32)) : Option ((Nat → Int32)) :=
  match tt with
  | (x3, m_ahead) =>
    if 65536 ≤ x3 then
      (some m_ahead)
    else
    if x3 < 0 ∨ 65536 ≤ (x3).toNatClampNeg then none else
    if x3 < 0 ∨ 65536 ≤ (x3).toNatClampNeg then none else
    kk ((x3 + 1), (upd m_ahead (x3).toNatClampNeg (vp_nar .byte (m_now (x3).toNatClampNeg))))
def f_X9_follow_l186 (fu : Nat) (m_sends : Nat → Int32) (m_ahead : Nat → Int32) (x1 : Int32) (x3 : Int32) (x4 : Int32) (kk : Int32 × (Nat → Int32) → Option ((Nat → Int32))) (tt : Int32 × (Nat → Int32)) : Option ((Nat → Int32)) :=
  match tt with
  | (x5, m_now) =>
    if 256 ≤ x5 then
      (some m_now)
    else
    if (x3 + x5) < 0 ∨ 65536 ≤ ((x3 + x5)).toNatClampNeg then none else
    if ((6 * x1) + 5) < 0 ∨ 7200 ≤ (((6 * x1) + 5)).toNatClampNeg then none else
    if (m_sends (((6 * x1) + 5)).toNatClampNeg) = 1 then
      (if (x4 + x5) < 0 ∨ 65536 ≤ ((x4 + x5)).toNatClampNeg then none else
      vn (((m_ahead ((x3 + x5)).toNatClampNeg) + (m_ahead ((x4 + x5)).toNatClampNeg)) : Int32) fun za5 =>
      if za5 ≤ 2 then
        (if (x4 + x5) < 0 ∨ 65536 ≤ ((x4 + x5)).toNatClampNeg then none else
        kk ((x5 + 1), (upd m_now ((x4 + x5)).toNatClampNeg (vp_nar .byte (za5.toInt8.toInt32)))))
      else
      if (x4 + x5) < 0 ∨ 65536 ≤ ((x4 + x5)).toNatClampNeg then none else
      kk ((x5 + 1), (upd m_now ((x4 + x5)).toNatClampNeg (vp_nar .byte ((2 : Int32).toInt8.toInt32)))))
    else
    vn (((m_ahead ((x3 + x5)).toNatClampNeg) + 0) : Int32) fun za3 =>
    if za3 ≤ 2 then
      (if (x4 + x5) < 0 ∨ 65536 ≤ ((x4 + x5)).toNatClampNeg then none else
      kk ((x5 + 1), (upd m_now ((x4 + x5)).toNatClampNeg (vp_nar .byte (za3.toInt8.toInt32)))))
    else
    if (x4 + x5) < 0 ∨ 65536 ≤ ((x4 + x5)).toNatClampNeg then none else
    kk ((x5 + 1), (upd m_now ((x4 + x5)).toNatClampNeg (vp_nar .byte ((2 : Int32).toInt8.toInt32))))
def f_X9_follow_l99 (fu : Nat) (m_sends : Nat → Int32) (m_many : Int32) (m_ahead : Nat → Int32) (x2 : Int32) (kk : Int32 × (Nat → Int32) → Option (Int32 × (Nat → Int32))) (tt : Int32 × (Nat → Int32)) : Option (Int32 × (Nat → Int32)) :=
  match tt with
  | (x1, m_now) =>
    if m_many ≤ x1 then
      (some (x1, m_now))
    else
    if (6 * x1) < 0 ∨ 7200 ≤ ((6 * x1)).toNatClampNeg then none else
    if (m_sends ((6 * x1)).toNatClampNeg) = x2 then
      (if ((6 * x1) + 1) < 0 ∨ 7200 ≤ (((6 * x1) + 1)).toNatClampNeg then none else
      if ((6 * x1) + 3) < 0 ∨ 7200 ≤ (((6 * x1) + 3)).toNatClampNeg then none else
      vn ((256 * ((16 * (m_sends (((6 * x1) + 1)).toNatClampNeg)) + (m_sends (((6 * x1) + 3)).toNatClampNeg))) : Int32) fun za3 =>
      if ((6 * x1) + 2) < 0 ∨ 7200 ≤ (((6 * x1) + 2)).toNatClampNeg then none else
      if ((6 * x1) + 4) < 0 ∨ 7200 ≤ (((6 * x1) + 4)).toNatClampNeg then none else
      vn ((256 * ((16 * (m_sends (((6 * x1) + 2)).toNatClampNeg)) + (m_sends (((6 * x1) + 4)).toNatClampNeg))) : Int32) fun za4 =>
      (lp (f_X9_follow_l186 fu m_sends m_ahead x1 za3 za4) fu (0, m_now)).bind fun zr5 =>
      kk ((x1 + 1), zr5))
    else
    some (x1, m_now)
def f_X9_follow_l55 (fu : Nat) (m_sends : Nat → Int32) (m_many : Int32) (kk : Int32 × (Nat → Int32) × (Nat → Int32) → Option ((Nat → Int32) × (Nat → Int32))) (tt : Int32 × (Nat → Int32) × (Nat → Int32)) : Option ((Nat → Int32) × (Nat → Int32)) :=
  match tt with
  | (x1, m_now, m_ahead) =>
    if m_many ≤ x1 then
      (some (m_now, m_ahead))
    else
    if (6 * x1) < 0 ∨ 7200 ≤ ((6 * x1)).toNatClampNeg then none else
    vn ((m_sends ((6 * x1)).toNatClampNeg) : Int32) fun za2 =>
    (lp (f_X9_follow_l75 fu m_now) fu (0, m_ahead)).bind fun zr3 =>
    (lp (f_X9_follow_l99 fu m_sends m_many zr3 za2) fu (x1, m_now)).bind fun zr4 =>
    kk (zr4.1, zr4.2, zr3)
def f_X9_follow (fu : Nat) (m_sends : Nat → Int32) (m_many : Int32) (m_now : Nat → Int32) (m_ahead : Nat → Int32) : Option ((Nat → Int32) × (Nat → Int32)) :=
  (lp (f_X9_follow_l2 fu) fu (0, m_now)).bind fun zr1 =>
  (lp (f_X9_follow_l55 fu m_sends m_many) fu (0, zr1, m_ahead)).bind fun zr2 =>
  some (zr2.1, zr2.2)
def f_X9_due (fu : Nat) (m_hosts : Int32) (m_lost : Nat → Int32) (x1 : Int32) (x2 : Int32) (x3 : Int32) (x4 : Int32) (x5 : Int32) (x6 : Int32) (x7 : Int32) : Option (Int32) :=
  if x4 < x7 then
    (if x1 = 0 then
      (if x5 = x2 then
        (if x6 = x4 then
          (some 1)
        else
        some 0)
      else
      some 0)
    else
    if x1 = 1 then
      (if x3 = x2 then
        (if x6 = x4 then
          ((f_X9_isLive fu m_hosts m_lost x5).bind fun zr8 =>
          if zr8 = 0 then
            (some 0)
          else
          some 1)
        else
        some 0)
      else
      some (-1))
    else
    if x1 = 2 then
      (if x6 = x4 then
        ((f_X9_isLive fu m_hosts m_lost x5).bind fun zr12 =>
        if zr12 = 0 then
          (some 0)
        else
        some 1)
      else
      some 0)
    else
    if x1 = 3 then
      ((f_X9_hostOf fu m_lost x4).bind fun zr15 =>
      if x5 = zr15 then
        (if x6 = x4 then
          (some 1)
        else
        some 0)
      else
      some 0)
    else
    (f_X9_hostOf fu m_lost x4).bind fun zr18 =>
    if x5 = zr18 then
      ((f_X9_rankOf fu m_lost x3).bind fun zr20 =>
      if x6 = zr20 then
        (some 1)
      else
      some 0)
    else
    some 0)
  else
  if x3 = x5 then
    (if x4 = x6 then
      (some 1)
    else
    some 0)
  else
  some 0
def f_X9_right_l63 (fu : Nat) (m_hosts : Int32) (m_lost : Nat → Int32) (m_now : Nat → Int32) (x1 : Int32) (x2 : Int32) (x3 : Int32) (x4 : Int32) (x5 : Int32) (kk : Int32 → Option ((Unit) ⊕ (Unit))) (x6 : Int32) : Option ((Unit) ⊕ (Unit)) :=
  if 256 ≤ x6 then
    (some (.inr ()))
  else
  (f_X9_due fu m_hosts m_lost x1 x2 x4 x5 (x6 / 16) (x6 - x6 / 16 * 16) x3).bind fun zr2 =>
  if zr2 = (-1) then
    (kk (x6 + 1))
  else
  if ((256 * ((16 * x4) + x5)) + x6) < 0 ∨ 65536 ≤ (((256 * ((16 * x4) + x5)) + x6)).toNatClampNeg then none else
  if (m_now (((256 * ((16 * x4) + x5)) + x6)).toNatClampNeg) = zr2 then
    (kk (x6 + 1))
  else
  some (.inl ())
def f_X9_right_l53 (fu : Nat) (m_hosts : Int32) (m_lost : Nat → Int32) (m_now : Nat → Int32) (x1 : Int32) (x2 : Int32) (x3 : Int32) (x4 : Int32) (kk : Int32 → Option ((Int32) ⊕ (Unit))) (x5 : Int32) : Option ((Int32) ⊕ (Unit)) :=
  if 16 ≤ x5 then
    (some (.inr ()))
  else
  (lp (f_X9_right_l63 fu m_hosts m_lost m_now x1 x2 x3 x4 x5) fu 0).bind fun zr2 =>
  (Sum.elim
    (fun zr2_0 =>
      some (.inl x5)
    )
    (fun zr2_1 =>
      kk (x5 + 1)
    )
  ) zr2
def f_X9_right_l28 (fu : Nat) (m_hosts : Int32) (m_lost : Nat → Int32) (m_now : Nat → Int32) (x1 : Int32) (x2 : Int32) (x3 : Int32) (kk : Int32 → Option ((Int32 × Int32) ⊕ (Unit))) (x4 : Int32) : Option ((Int32 × Int32) ⊕ (Unit)) :=
  if m_hosts ≤ x4 then
    (some (.inr ()))
  else
  if x4 < 0 ∨ 16 ≤ (x4).toNatClampNeg then none else
  if (m_lost (x4).toNatClampNeg) = 0 then
    ((lp (f_X9_right_l53 fu m_hosts m_lost m_now x1 x2 x3 x4) fu 0).bind fun zr3 =>
    (Sum.elim
      (fun zr3_0 =>
        some (.inl (x4, zr3_0))
      )
      (fun zr3_1 =>
        kk (x4 + 1)
      )
    ) zr3)
  else
  kk (x4 + 1)
def f_X9_right (fu : Nat) (m_hosts : Int32) (m_lost : Nat → Int32) (m_sends : Nat → Int32) (m_many : Int32) (m_now : Nat → Int32) (m_ahead : Nat → Int32) (x1 : Int32) (x2 : Int32) : Option (Int32 × Int32 × (Nat → Int32) × (Nat → Int32)) :=
  (f_X9_isAsk fu m_hosts m_lost x1 x2).bind fun zr1 =>
  if zr1 = 0 then
    (some (2, 0, m_now, m_ahead))
  else
  (f_X9_follow fu m_sends m_many m_now m_ahead).bind fun zr3 =>
  (f_X9_liveMany fu m_hosts m_lost).bind fun zr4 =>
  (lp (f_X9_right_l28 fu m_hosts m_lost zr3.1 x1 x2 zr4) fu 0).bind fun zr5 =>
  (Sum.elim
    (fun zr5_0 =>
      some (((((-100) * zr5_0.1) - zr5_0.2) - 1), 0, zr3.1, zr3.2)
    )
    (fun zr5_1 =>
      some (1, 0, zr3.1, zr3.2)
    )
  ) zr5
def f_X9_run_l27 (fu : Nat) (m_blocks : Nat → Int32) (kk : Int32 × (Nat → Int32) → Option ((Nat → Int32))) (tt : Int32 × (Nat → Int32)) : Option ((Nat → Int32)) :=
  match tt with
  | (x3, m_then) =>
    if 256 ≤ x3 then
      (some m_then)
    else
    if x3 < 0 ∨ 256 ≤ (x3).toNatClampNeg then none else
    if x3 < 0 ∨ 256 ≤ (x3).toNatClampNeg then none else
    kk ((x3 + 1), (upd m_then (x3).toNatClampNeg (m_blocks (x3).toNatClampNeg)))
def f_X9_run_l52 (fu : Nat) (m_sends : Nat → Int32) (m_many : Int32) (m_then : Nat → Int32) (x2 : Int32) (kk : Int32 × (Nat → Int32) → Option (Int32 × (Nat → Int32))) (tt : Int32 × (Nat → Int32)) : Option (Int32 × (Nat → Int32)) :=
  match tt with
  | (x1, m_blocks) =>
    if m_many ≤ x1 then
      (some (x1, m_blocks))
    else
    if (6 * x1) < 0 ∨ 7200 ≤ ((6 * x1)).toNatClampNeg then none else
    if (m_sends ((6 * x1)).toNatClampNeg) = x2 then
      (if ((6 * x1) + 2) < 0 ∨ 7200 ≤ (((6 * x1) + 2)).toNatClampNeg then none else
      if ((6 * x1) + 4) < 0 ∨ 7200 ≤ (((6 * x1) + 4)).toNatClampNeg then none else
      vn (((16 * (m_sends (((6 * x1) + 2)).toNatClampNeg)) + (m_sends (((6 * x1) + 4)).toNatClampNeg)) : Int32) fun za3 =>
      if ((6 * x1) + 1) < 0 ∨ 7200 ≤ (((6 * x1) + 1)).toNatClampNeg then none else
      if ((6 * x1) + 3) < 0 ∨ 7200 ≤ (((6 * x1) + 3)).toNatClampNeg then none else
      if ((16 * (m_sends (((6 * x1) + 1)).toNatClampNeg)) + (m_sends (((6 * x1) + 3)).toNatClampNeg)) < 0 ∨ 256 ≤ (((16 * (m_sends (((6 * x1) + 1)).toNatClampNeg)) + (m_sends (((6 * x1) + 3)).toNatClampNeg))).toNatClampNeg then none else
      vn ((m_then (((16 * (m_sends (((6 * x1) + 1)).toNatClampNeg)) + (m_sends (((6 * x1) + 3)).toNatClampNeg))).toNatClampNeg) : Int32) fun za4 =>
      if ((6 * x1) + 5) < 0 ∨ 7200 ≤ (((6 * x1) + 5)).toNatClampNeg then none else
      if (m_sends (((6 * x1) + 5)).toNatClampNeg) = 1 then
        (if za3 < 0 ∨ 256 ≤ (za3).toNatClampNeg then none else
        if za3 < 0 ∨ 256 ≤ (za3).toNatClampNeg then none else
        kk ((x1 + 1), (upd m_blocks (za3).toNatClampNeg ((m_then (za3).toNatClampNeg) + za4))))
      else
      if za3 < 0 ∨ 256 ≤ (za3).toNatClampNeg then none else
      kk ((x1 + 1), (upd m_blocks (za3).toNatClampNeg za4)))
    else
    some (x1, m_blocks)
def f_X9_run_l7 (fu : Nat) (m_sends : Nat → Int32) (m_many : Int32) (kk : Int32 × (Nat → Int32) × (Nat → Int32) → Option ((Nat → Int32) × (Nat → Int32))) (tt : Int32 × (Nat → Int32) × (Nat → Int32)) : Option ((Nat → Int32) × (Nat → Int32)) :=
  match tt with
  | (x1, m_blocks, m_then) =>
    if m_many ≤ x1 then
      (some (m_blocks, m_then))
    else
    if (6 * x1) < 0 ∨ 7200 ≤ ((6 * x1)).toNatClampNeg then none else
    vn ((m_sends ((6 * x1)).toNatClampNeg) : Int32) fun za2 =>
    (lp (f_X9_run_l27 fu m_blocks) fu (0, m_then)).bind fun zr3 =>
    (lp (f_X9_run_l52 fu m_sends m_many zr3 za2) fu (x1, m_blocks)).bind fun zr4 =>
    kk (zr4.1, zr4.2, zr3)
def f_X9_run (fu : Nat) (m_blocks : Nat → Int32) (m_sends : Nat → Int32) (m_many : Int32) (m_then : Nat → Int32) : Option (Int32 × (Nat → Int32) × Int32 × (Nat → Int32)) :=
  (lp (f_X9_run_l7 fu m_sends m_many) fu (0, m_blocks, m_then)).bind fun zr1 =>
  (f_X9_stepsOf fu m_sends m_many).bind fun zr2 =>
  some (zr2, zr1.1, 0, zr1.2)
def f_X9_timeOf (fu : Nat) (v_row : Nat → Int32) (m_wait : Nat → Int32) (m_per : Nat → Int32) (x2 : Int32) (x3 : Int32) : Option (Int32) :=
  if ((6 * x3) + 1) < 0 ∨ 7200 ≤ (((6 * x3) + 1)).toNatClampNeg then none else
  if ((6 * x3) + 2) < 0 ∨ 7200 ≤ (((6 * x3) + 2)).toNatClampNeg then none else
  vn (((16 * (v_row (((6 * x3) + 1)).toNatClampNeg)) + (v_row (((6 * x3) + 2)).toNatClampNeg)) : Int32) fun za1 =>
  if za1 < 0 ∨ 256 ≤ (za1).toNatClampNeg then none else
  if (6 * x3) < 0 ∨ 7200 ≤ ((6 * x3)).toNatClampNeg then none else
  if ((6 * x3) + 1) < 0 ∨ 7200 ≤ (((6 * x3) + 1)).toNatClampNeg then none else
  if ((6 * x3) + 2) < 0 ∨ 7200 ≤ (((6 * x3) + 2)).toNatClampNeg then none else
  (f_X9_letter fu v_row x2 (v_row ((6 * x3)).toNatClampNeg) (v_row (((6 * x3) + 1)).toNatClampNeg) (v_row (((6 * x3) + 2)).toNatClampNeg)).bind fun zr2 =>
  if za1 < 0 ∨ 256 ≤ (za1).toNatClampNeg then none else
  some ((m_wait (za1).toNatClampNeg) + (zr2 * (m_per (za1).toNatClampNeg)))
def f_X9_ticksOf_l21 (fu : Nat) (v_row : Nat → Int32) (m_wait : Nat → Int32) (m_per : Nat → Int32) (x2 : Int32) (x4 : Int32) (kk : Int32 × Int32 → Option (Int32)) (tt : Int32 × Int32) : Option (Int32) :=
  match tt with
  | (x5, x6) =>
    if x2 ≤ x6 then
      (some x5)
    else
    if (6 * x6) < 0 ∨ 7200 ≤ ((6 * x6)).toNatClampNeg then none else
    if (v_row ((6 * x6)).toNatClampNeg) = x4 then
      ((f_X9_timeOf fu v_row m_wait m_per x2 x6).bind fun zr3 =>
      if zr3 ≤ x5 then
        (kk (x5, (x6 + 1)))
      else
      kk (zr3, (x6 + 1)))
    else
    kk (x5, (x6 + 1))
def f_X9_ticksOf_l5 (fu : Nat) (v_row : Nat → Int32) (m_wait : Nat → Int32) (m_per : Nat → Int32) (x2 : Int32) (kk : Int32 × Int32 → Option (Int32)) (tt : Int32 × Int32) : Option (Int32) :=
  match tt with
  | (x3, x4) =>
    (f_X9_stepsOf fu v_row x2).bind fun zr1 =>
    if zr1 ≤ x4 then
      (some x3)
    else
    (lp (f_X9_ticksOf_l21 fu v_row m_wait m_per x2 x4) fu (0, 0)).bind fun zr3 =>
    vn ((x3 + zr3) : Int32) fun za4 =>
    kk (za4, (x4 + 1))
def f_X9_ticksOf (fu : Nat) (v_row : Nat → Int32) (m_wait : Nat → Int32) (m_per : Nat → Int32) (x2 : Int32) : Option (Int32) :=
  (lp (f_X9_ticksOf_l5 fu v_row m_wait m_per x2) fu (0, 0)).bind fun zr1 =>
  some zr1
def f_X9_ticks (fu : Nat) (m_wait : Nat → Int32) (m_per : Nat → Int32) (m_sends : Nat → Int32) (m_many : Int32) : Option (Int32 × Int32) :=
  (f_X9_ticksOf fu m_sends m_wait m_per m_many).bind fun zr1 =>
  some (zr1, 0)
def f_X9_freely_l17 (fu : Nat) (m_late : Nat → Int32) (kk : Int32 × (Nat → Int32) → Option ((Nat → Int32))) (tt : Int32 × (Nat → Int32)) : Option ((Nat → Int32)) :=
  match tt with
  | (x2, m_time) =>
    if 16 ≤ x2 then
      (some m_time)
    else
    if x2 < 0 ∨ 16 ≤ (x2).toNatClampNeg then none else
    if x2 < 0 ∨ 16 ≤ (x2).toNatClampNeg then none else
    kk ((x2 + 1), (upd m_time (x2).toNatClampNeg (m_late (x2).toNatClampNeg)))
def f_X9_freely_l64 (fu : Nat) (m_time : Nat → Int32) (kk : Int32 × (Nat → Int32) → Option ((Nat → Int32))) (tt : Int32 × (Nat → Int32)) : Option ((Nat → Int32)) :=
  match tt with
  | (x4, m_timeThen) =>
    if 16 ≤ x4 then
      (some m_timeThen)
    else
    if x4 < 0 ∨ 16 ≤ (x4).toNatClampNeg then none else
    if x4 < 0 ∨ 16 ≤ (x4).toNatClampNeg then none else
    kk ((x4 + 1), (upd m_timeThen (x4).toNatClampNeg (m_time (x4).toNatClampNeg)))
def f_X9_freely_l91 (fu : Nat) (m_wait : Nat → Int32) (m_per : Nat → Int32) (m_sends : Nat → Int32) (m_many : Int32) (m_timeThen : Nat → Int32) (x3 : Int32) (kk : Int32 × (Nat → Int32) → Option (Int32 × (Nat → Int32))) (tt : Int32 × (Nat → Int32)) : Option (Int32 × (Nat → Int32)) :=
  match tt with
  | (x2, m_time) =>
    if m_many ≤ x2 then
      (some (x2, m_time))
    else
    if (6 * x2) < 0 ∨ 7200 ≤ ((6 * x2)).toNatClampNeg then none else
    if (m_sends ((6 * x2)).toNatClampNeg) = x3 then
      (if ((6 * x2) + 1) < 0 ∨ 7200 ≤ (((6 * x2) + 1)).toNatClampNeg then none else
      vn ((m_sends (((6 * x2) + 1)).toNatClampNeg) : Int32) fun za3 =>
      if ((6 * x2) + 2) < 0 ∨ 7200 ≤ (((6 * x2) + 2)).toNatClampNeg then none else
      vn ((m_sends (((6 * x2) + 2)).toNatClampNeg) : Int32) fun za4 =>
      if za3 < 0 ∨ 16 ≤ (za3).toNatClampNeg then none else
      if za4 < 0 ∨ 16 ≤ (za4).toNatClampNeg then none else
      if (m_timeThen (za3).toNatClampNeg) ≤ (m_timeThen (za4).toNatClampNeg) then
        (if za4 < 0 ∨ 16 ≤ (za4).toNatClampNeg then none else
        (f_X9_timeOf fu m_sends m_wait m_per m_many x2).bind fun zr6 =>
        vn (((m_timeThen (za4).toNatClampNeg) + zr6) : Int32) fun za7 =>
        if za3 < 0 ∨ 16 ≤ (za3).toNatClampNeg then none else
        if za7 ≤ (m_time (za3).toNatClampNeg) then
          (if za3 < 0 ∨ 16 ≤ (za3).toNatClampNeg then none else
          if za3 < 0 ∨ 16 ≤ (za3).toNatClampNeg then none else
          if za4 < 0 ∨ 16 ≤ (za4).toNatClampNeg then none else
          if za7 ≤ ((upd m_time (za3).toNatClampNeg (m_time (za3).toNatClampNeg)) (za4).toNatClampNeg) then
            (if za4 < 0 ∨ 16 ≤ (za4).toNatClampNeg then none else
            if za4 < 0 ∨ 16 ≤ (za4).toNatClampNeg then none else
            kk ((x2 + 1), (upd (upd m_time (za3).toNatClampNeg (m_time (za3).toNatClampNeg)) (za4).toNatClampNeg ((upd m_time (za3).toNatClampNeg (m_time (za3).toNatClampNeg)) (za4).toNatClampNeg))))
          else
          if za4 < 0 ∨ 16 ≤ (za4).toNatClampNeg then none else
          kk ((x2 + 1), (upd (upd m_time (za3).toNatClampNeg (m_time (za3).toNatClampNeg)) (za4).toNatClampNeg za7)))
        else
        if za3 < 0 ∨ 16 ≤ (za3).toNatClampNeg then none else
        if za4 < 0 ∨ 16 ≤ (za4).toNatClampNeg then none else
        if za7 ≤ ((upd m_time (za3).toNatClampNeg za7) (za4).toNatClampNeg) then
          (if za4 < 0 ∨ 16 ≤ (za4).toNatClampNeg then none else
          if za4 < 0 ∨ 16 ≤ (za4).toNatClampNeg then none else
          kk ((x2 + 1), (upd (upd m_time (za3).toNatClampNeg za7) (za4).toNatClampNeg ((upd m_time (za3).toNatClampNeg za7) (za4).toNatClampNeg))))
        else
        if za4 < 0 ∨ 16 ≤ (za4).toNatClampNeg then none else
        kk ((x2 + 1), (upd (upd m_time (za3).toNatClampNeg za7) (za4).toNatClampNeg za7)))
      else
      if za3 < 0 ∨ 16 ≤ (za3).toNatClampNeg then none else
      (f_X9_timeOf fu m_sends m_wait m_per m_many x2).bind fun zr11 =>
      vn (((m_timeThen (za3).toNatClampNeg) + zr11) : Int32) fun za12 =>
      if za3 < 0 ∨ 16 ≤ (za3).toNatClampNeg then none else
      if za12 ≤ (m_time (za3).toNatClampNeg) then
        (if za3 < 0 ∨ 16 ≤ (za3).toNatClampNeg then none else
        if za3 < 0 ∨ 16 ≤ (za3).toNatClampNeg then none else
        if za4 < 0 ∨ 16 ≤ (za4).toNatClampNeg then none else
        if za12 ≤ ((upd m_time (za3).toNatClampNeg (m_time (za3).toNatClampNeg)) (za4).toNatClampNeg) then
          (if za4 < 0 ∨ 16 ≤ (za4).toNatClampNeg then none else
          if za4 < 0 ∨ 16 ≤ (za4).toNatClampNeg then none else
          kk ((x2 + 1), (upd (upd m_time (za3).toNatClampNeg (m_time (za3).toNatClampNeg)) (za4).toNatClampNeg ((upd m_time (za3).toNatClampNeg (m_time (za3).toNatClampNeg)) (za4).toNatClampNeg))))
        else
        if za4 < 0 ∨ 16 ≤ (za4).toNatClampNeg then none else
        kk ((x2 + 1), (upd (upd m_time (za3).toNatClampNeg (m_time (za3).toNatClampNeg)) (za4).toNatClampNeg za12)))
      else
      if za3 < 0 ∨ 16 ≤ (za3).toNatClampNeg then none else
      if za4 < 0 ∨ 16 ≤ (za4).toNatClampNeg then none else
      if za12 ≤ ((upd m_time (za3).toNatClampNeg za12) (za4).toNatClampNeg) then
        (if za4 < 0 ∨ 16 ≤ (za4).toNatClampNeg then none else
        if za4 < 0 ∨ 16 ≤ (za4).toNatClampNeg then none else
        kk ((x2 + 1), (upd (upd m_time (za3).toNatClampNeg za12) (za4).toNatClampNeg ((upd m_time (za3).toNatClampNeg za12) (za4).toNatClampNeg))))
      else
      if za4 < 0 ∨ 16 ≤ (za4).toNatClampNeg then none else
      kk ((x2 + 1), (upd (upd m_time (za3).toNatClampNeg za12) (za4).toNatClampNeg za12)))
    else
    some (x2, m_time)
def f_X9_freely_l43 (fu : Nat) (m_wait : Nat → Int32) (m_per : Nat → Int32) (m_sends : Nat → Int32) (m_many : Int32) (kk : Int32 × (Nat → Int32) × (Nat → Int32) → Option ((Nat → Int32) × (Nat → Int32))) (tt : Int32 × (Nat → Int32) × (Nat → Int32)) : Option ((Nat → Int32) × (Nat → Int32)) :=
  match tt with
  | (x2, m_time, m_timeThen) =>
    if m_many ≤ x2 then
      (some (m_time, m_timeThen))
    else
    if (6 * x2) < 0 ∨ 7200 ≤ ((6 * x2)).toNatClampNeg then none else
    vn ((m_sends ((6 * x2)).toNatClampNeg) : Int32) fun za2 =>
    (lp (f_X9_freely_l64 fu m_time) fu (0, m_timeThen)).bind fun zr3 =>
    (lp (f_X9_freely_l91 fu m_wait m_per m_sends m_many zr3 za2) fu (x2, m_time)).bind fun zr4 =>
    kk (zr4.1, zr4.2, zr3)
def f_X9_freely (fu : Nat) (m_hosts : Int32) (m_lost : Nat → Int32) (m_late : Nat → Int32) (m_wait : Nat → Int32) (m_per : Nat → Int32) (m_sends : Nat → Int32) (m_many : Int32) (m_time : Nat → Int32) (m_timeThen : Nat → Int32) (x1 : Int32) : Option (Int32 × Int32 × (Nat → Int32) × (Nat → Int32)) :=
  (f_X9_isLive fu m_hosts m_lost x1).bind fun zr1 =>
  if zr1 = 0 then
    (some ((-1), 0, m_time, m_timeThen))
  else
  (lp (f_X9_freely_l17 fu m_late) fu (0, m_time)).bind fun zr3 =>
  (lp (f_X9_freely_l43 fu m_wait m_per m_sends m_many) fu (0, zr3, m_timeThen)).bind fun zr4 =>
  if x1 < 0 ∨ 16 ≤ (x1).toNatClampNeg then none else
  some ((zr4.1 (x1).toNatClampNeg), 0, zr4.1, zr4.2)
def f_X9_price (fu : Nat) (m_hosts : Int32) (m_lost : Nat → Int32) (m_wait : Nat → Int32) (m_per : Nat → Int32) (m_made : Nat → Int32) (m_madeMany : Int32) (m_lacking : Int32) (x1 : Int32) (x2 : Int32) (x3 : Int32) : Option (Int32 × (Nat → Int32) × Int32 × Int32 × Int32) :=
  (f_X9_make fu m_hosts m_lost m_wait m_made m_madeMany m_lacking x1 x2 x3).bind fun zr1 =>
  if 0 ≤ zr1.1 then
    ((f_X9_ticksOf fu zr1.2.1 m_wait m_per zr1.2.2.1).bind fun zr3 =>
    some (zr3, zr1.2.1, zr1.2.2.1, zr1.2.2.2, 0))
  else
  some (zr1.1, zr1.2.1, zr1.2.2.1, zr1.2.2.2, 0)
def f_X9_best_l25 (fu : Nat) (m_hosts : Int32) (m_lost : Nat → Int32) (m_wait : Nat → Int32) (m_per : Nat → Int32) (x1 : Int32) (x2 : Int32) (kk : Int32 × Int32 × Int32 × (Nat → Int32) × Int32 × Int32 → Option (Int32 × (Nat → Int32) × Int32 × Int32)) (tt : Int32 × Int32 × Int32 × (Nat → Int32) × Int32 × Int32) : Option (Int32 × (Nat → Int32) × Int32 × Int32) :=
  match tt with
  | (x3, x4, x5, m_made, m_madeMany, m_lacking) =>
    if 4 ≤ x5 then
      (some (x3, m_made, m_madeMany, m_lacking))
    else
    (f_X9_make fu m_hosts m_lost m_wait m_made m_madeMany m_lacking x5 x1 x2).bind fun zr2 =>
    if 0 ≤ zr2.1 then
      ((f_X9_ticksOf fu zr2.2.1 m_wait m_per zr2.2.2.1).bind fun zr4 =>
      if x3 < 0 then
        (kk (x5, zr4, (x5 + 1), zr2.2.1, zr2.2.2.1, zr2.2.2.2))
      else
      if zr4 < x4 then
        (kk (x5, zr4, (x5 + 1), zr2.2.1, zr2.2.2.1, zr2.2.2.2))
      else
      kk (x3, x4, (x5 + 1), zr2.2.1, zr2.2.2.1, zr2.2.2.2))
    else
    kk (x3, x4, (x5 + 1), zr2.2.1, zr2.2.2.1, zr2.2.2.2)
def f_X9_best (fu : Nat) (m_hosts : Int32) (m_lost : Nat → Int32) (m_wait : Nat → Int32) (m_per : Nat → Int32) (m_made : Nat → Int32) (m_madeMany : Int32) (m_lacking : Int32) (x1 : Int32) (x2 : Int32) : Option (Int32 × (Nat → Int32) × Int32 × Int32 × Int32) :=
  (f_X9_isAsk fu m_hosts m_lost x1 x2).bind fun zr1 =>
  if zr1 = 0 then
    (some ((-1), m_made, m_madeMany, m_lacking, 0))
  else
  (lp (f_X9_best_l25 fu m_hosts m_lost m_wait m_per x1 x2) fu ((-2), 0, 0, m_made, m_madeMany, m_lacking)).bind fun zr3 =>
  some (zr3.1, zr3.2.1, zr3.2.2.1, zr3.2.2.2, 0)
