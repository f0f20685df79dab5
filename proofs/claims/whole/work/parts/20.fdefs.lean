noncomputable def fX6_addArc (a0 : Int32) (a1 : Int32) (a2 : Int32) (v0_systemChanges : Int32) (v0_arcs : Int32) (c1 : Nat → Int32) : Option (Int32 × Int32 × Int32 × (Nat → Int32)) :=
  nm (a0 * 12) fun x1 =>
  nm (x1 + a1) fun x2 =>
  bd (inb x2 192) <|
  nm (c1 x2.toNatClampNeg) fun x4 =>
  nm ((x4.toUInt32 >>> (a2.toUInt32 &&& Int32.toUInt32 31)).toInt32) fun x5 =>
  nm (x5 &&& 1) fun x6 =>
  if x6 = 0 then
    if v0_arcs < 64 then
      bd (inb x2 192) <|
      nm (c1 x2.toNatClampNeg) fun x10 =>
      nm (1 <<< (a2 &&& 31)) fun x11 =>
      nm (x10 ||| x11) fun x12 =>
      bd (inb x2 192) <|
      nm (upd c1 x2.toNatClampNeg x12) fun c13x =>
      nm (v0_systemChanges + 1) fun x14 =>
      nm (v0_arcs + 1) fun x15 =>
      some (x15, (x14, x15, c13x))
    else
      some ((-3), (v0_systemChanges, v0_arcs, c1))
  else
    some (v0_arcs, (v0_systemChanges, v0_arcs, c1))
noncomputable def fX6_addRule_p94  (z0 : Int32) (z1 : Int32) (v0_rules : Int32) (v0_systemChanges : Int32) (c1 : (Nat → Int32)) (c2 : (Nat → Int32)) (c3 : (Nat → Int32)) (c4 : (Nat → Int32)) (c5 : (Nat → Int32)) (c6 : (Nat → Int32)) : Option (Int32 × Int32 × Int32 × (Nat → Int32) × (Nat → Int32) × (Nat → Int32) × (Nat → Int32) × (Nat → Int32) × (Nat → Int32)) :=
  bd (inb z1 48) <|
  nm (upd c6 z1.toNatClampNeg z0) fun c1x =>
  nm (v0_systemChanges + 1) fun x2 =>
  nm (v0_rules + 1) fun x3 =>
  nm (x3 - 1) fun x4 =>
  some (x4, (x3, x2, c1, c2, c3, c4, c5, c1x))
noncomputable def fX6_addRule_p73  (y4 : Int32) (y6 : Int32) (z0 : Int32) (z1 : Int32) (v0_rules : Int32) (v0_systemChanges : Int32) (c1 : (Nat → Int32)) (c2 : (Nat → Int32)) (c3 : (Nat → Int32)) (c4 : (Nat → Int32)) (c5 : (Nat → Int32)) (c6 : (Nat → Int32)) : Option (Int32 × Int32 × Int32 × (Nat → Int32) × (Nat → Int32) × (Nat → Int32) × (Nat → Int32) × (Nat → Int32) × (Nat → Int32)) :=
  bd (inb z1 48) <|
  nm (upd c5 z1.toNatClampNeg z0) fun c5x =>
  if y4 = 2 then
    fX6_addRule_p94 y6 v0_rules v0_rules v0_systemChanges c1 c2 c3 c4 c5x c6
  else
    fX6_addRule_p94 0 v0_rules v0_rules v0_systemChanges c1 c2 c3 c4 c5x c6
noncomputable def fX6_addRule (a0 : Int32) (a1 : Int32) (a2 : Int32) (a3 : Int32) (a4 : Int32) (a5 : Int32) (v0_rules : Int32) (v0_systemChanges : Int32) (c1 : Nat → Int32) (c2 : Nat → Int32) (c3 : Nat → Int32) (c4 : Nat → Int32) (c5 : Nat → Int32) (c6 : Nat → Int32) : Option (Int32 × Int32 × Int32 × (Nat → Int32) × (Nat → Int32) × (Nat → Int32) × (Nat → Int32) × (Nat → Int32) × (Nat → Int32)) :=
  if v0_rules < 48 then
    bd (inb v0_rules 48) <|
    nm (upd c1 v0_rules.toNatClampNeg a0) fun c8x =>
    bd (inb v0_rules 48) <|
    nm (upd c2 v0_rules.toNatClampNeg a1) fun c9x =>
    bd (inb v0_rules 48) <|
    nm (upd c3 v0_rules.toNatClampNeg a2) fun c10x =>
    bd (inb v0_rules 48) <|
    nm (upd c4 v0_rules.toNatClampNeg a3) fun c11x =>
    if a3 < 1 then
      fX6_addRule_p73 a3 a5 0 v0_rules v0_rules v0_systemChanges c8x c9x c10x c11x c5 c6
    else
      fX6_addRule_p73 a3 a5 a4 v0_rules v0_rules v0_systemChanges c8x c9x c10x c11x c5 c6
  else
    some ((-3), (v0_rules, v0_systemChanges, c1, c2, c3, c4, c5, c6))
noncomputable def fX6_addToWord (a0 : Int32) (v0_height : Int32) (v0_wordChanges : Int32) (c1 : Nat → Int32) : Option (Int32 × Int32 × Int32 × (Nat → Int32)) :=
  if v0_height < 30 then
    bd (inb v0_height 30) <|
    nm (upd c1 v0_height.toNatClampNeg a0) fun c2x =>
    nm (v0_wordChanges + 1) fun x3 =>
    nm (v0_height + 1) fun x4 =>
    some (x4, (x4, x3, c2x))
  else
    some ((-3), (v0_height, v0_wordChanges, c1))
noncomputable def fX6_emptyWord (v0_height : Int32) (v0_wordChanges : Int32) : Option (Int32 × Int32 × Int32) :=
  nm (v0_wordChanges + 1) fun x1 =>
  some (v0_height, (0, x1))
noncomputable def fX6_nodesBehind_p36 (c1 : Nat → Int32) (k5 : Int32 → Int32 → Int32 → Int32 → Option (Int32 × Unit)) (y1 : Int32) (y2 : Int32) (y3 : Int32) (y4 : Int32) : Option (Int32 × Unit) :=
  nm (y4 + 1) fun x1 =>
  k5 y1 y2 y3 x1
noncomputable def fX6_nodesBehind_b5 (c1 : Nat → Int32) (k5 : Int32 → Int32 → Int32 → Int32 → Option (Int32 × Unit)) (y1 : Int32) (y2 : Int32) (y3 : Int32) (y4 : Int32) : Option (Int32 × Unit) :=
  if 16 ≤ y4 then
    some (y3, ())
  else
    nm ((y1.toUInt32 >>> (y4.toUInt32 &&& Int32.toUInt32 31)).toInt32) fun x3 =>
    nm (x3 &&& 1) fun x4 =>
    if x4 = 0 then
      fX6_nodesBehind_p36 c1 k5 y1 y2 y3 y4
    else
      nm (y4 * 12) fun x6 =>
      nm (x6 + y2) fun x7 =>
      bd (inb x7 192) <|
      nm (c1 x7.toNatClampNeg) fun x9 =>
      nm (y3 ||| x9) fun x10 =>
      fX6_nodesBehind_p36 c1 k5 y1 y2 x10 y4
noncomputable def fX6_nodesBehind_l5 (c1 : Nat → Int32) : Nat → Int32 → Int32 → Int32 → Int32 → Option (Int32 × Unit)
  | 0 => fun _ _ _ _ => none
  | n + 1 => fX6_nodesBehind_b5 c1  (fX6_nodesBehind_l5 c1  n)
noncomputable def fX6_nodesBehind (a0 : Int32) (a1 : Int32) (c1 : Nat → Int32) : Option (Int32 × Unit) :=
  fX6_nodesBehind_l5 c1 FU a0 a1 0 0
noncomputable def fX6_holdsWord_p47 (v0_ends : Int32) (v0_height : Int32) (c1 : Nat → Int32) (c2 : Nat → Int32) (z0 : Int32) : Option (Int32 × Unit) :=
  bd (bz z0) <|
  some (z0, ())
noncomputable def fX6_holdsWord_b11 (v0_ends : Int32) (v0_height : Int32) (c1 : Nat → Int32) (c2 : Nat → Int32) (k11 : Int32 → Int32 → Option (Int32 × Unit)) (y2 : Int32) (y3 : Int32) : Option (Int32 × Unit) :=
  if y3 < 0 then
    nm (y2 &&& v0_ends) fun x3 =>
    if x3 = 0 then
      fX6_holdsWord_p47 v0_ends v0_height c1 c2 0
    else
      fX6_holdsWord_p47 v0_ends v0_height c1 c2 1
  else
    bd (inb y3 30) <|
    nm (c1 y3.toNatClampNeg) fun x6 =>
    ob (fX6_nodesBehind y2 x6 c2) fun o7 =>
    nm (y3 + (-1)) fun x8 =>
    k11 o7.1 x8
noncomputable def fX6_holdsWord_l11 (v0_ends : Int32) (v0_height : Int32) (c1 : Nat → Int32) (c2 : Nat → Int32) : Nat → Int32 → Int32 → Option (Int32 × Unit)
  | 0 => fun _ _ => none
  | n + 1 => fX6_holdsWord_b11 v0_ends v0_height c1 c2  (fX6_holdsWord_l11 v0_ends v0_height c1 c2  n)
noncomputable def fX6_holdsWord (a0 : Int32) (v0_ends : Int32) (v0_height : Int32) (c1 : Nat → Int32) (c2 : Nat → Int32) : Option (Int32 × Unit) :=
  nm (1 <<< (a0 &&& 31)) fun x9 =>
  nm (v0_height - 1) fun x10 =>
  fX6_holdsWord_l11 v0_ends v0_height c1 c2 FU x9 x10
noncomputable def fJ7_fill_53178_b5 (n0 : Nat) (k5 : Int32 → Int32 → Int32 → (Nat → Int32) → Option ((Nat → Int32))) (y1 : Int32) (y2 : Int32) (y3 : Int32) (c0 : (Nat → Int32)) : Option ((Nat → Int32)) :=
  if y3 ≤ y2 then
    some c0
  else
    bd (inb y2 n0) <|
    nm (upd c0 y2.toNatClampNeg y1) fun c2x =>
    nm (y2 + 1) fun x3 =>
    k5 y1 x3 y3 c2x
noncomputable def fJ7_fill_53178_l5 (n0 : Nat) : Nat → Int32 → Int32 → Int32 → (Nat → Int32) → Option ((Nat → Int32))
  | 0 => fun _ _ _ _ => none
  | n + 1 => fJ7_fill_53178_b5 n0  (fJ7_fill_53178_l5 n0  n)
noncomputable def fJ7_fill_53178 (a1 : Int32) (n0 : Nat) (c0 : Nat → Int32) : Option ((Nat → Int32)) :=
  nm (Int32.ofNat n0) fun x4 =>
  fJ7_fill_53178_l5 n0 FU a1 0 x4 c0
noncomputable def fX6_removeAll (v0_rules : Int32) (v0_ends : Int32) (v0_systemChanges : Int32) (v0_arcs : Int32) (c1 : Nat → Int32) : Option (Int32 × Int32 × Int32 × Int32 × Int32 × (Nat → Int32)) :=
  ob (fJ7_fill_53178 0 192 c1) fun o1 =>
  nm (v0_systemChanges + 1) fun x2 =>
  some (v0_rules, (0, 0, x2, 0, o1))
noncomputable def fX6_setEnd_p36  (y3 : Int32) (v0_ends : Int32) (v0_systemChanges : Int32) : Option (Int32 × Int32 × Int32) :=
  some (y3, (v0_ends, v0_systemChanges))
noncomputable def fX6_setEnd (a0 : Int32) (a1 : Int32) (v0_ends : Int32) (v0_systemChanges : Int32) : Option (Int32 × Int32 × Int32) :=
  nm ((v0_ends.toUInt32 >>> (a0.toUInt32 &&& Int32.toUInt32 31)).toInt32) fun x1 =>
  nm (x1 &&& 1) fun x2 =>
  if x2 = a1 then
    fX6_setEnd_p36 x2 v0_ends v0_systemChanges
  else
    nm (1 <<< (a0 &&& 31)) fun x4 =>
    nm (v0_ends ^^^ x4) fun x5 =>
    nm (v0_systemChanges + 1) fun x6 =>
    fX6_setEnd_p36 x2 x5 x6
noncomputable def fX1_startFromNet_p49 (c2 : Nat → Int32) (k2 : Int32 → (Nat → Int32) → Option ((Nat → Int32))) (k11 : Int32 → Int32 → (Nat → Int32) → Option ((Nat → Int32))) (y1 : Int32) (y2 : Int32) (z0 : Int32) (z1 : Int32) (c3 : (Nat → Int32)) : Option ((Nat → Int32)) :=
  bd (inb z1 3072) <|
  nm (upd c3 z1.toNatClampNeg z0) fun c1x =>
  nm (y2 + 1) fun x2 =>
  k11 y1 x2 c1x
noncomputable def fX1_startFromNet_b11 (c2 : Nat → Int32) (k2 : Int32 → (Nat → Int32) → Option ((Nat → Int32))) (k11 : Int32 → Int32 → (Nat → Int32) → Option ((Nat → Int32))) (y1 : Int32) (y2 : Int32) (c3 : (Nat → Int32)) : Option ((Nat → Int32)) :=
  if 16 ≤ y2 then
    nm (y1 + 1) fun x4 =>
    k2 x4 c3
  else
    nm (y1 * 16) fun x5 =>
    nm (x5 + y2) fun x6 =>
    bd (inb y1 192) <|
    nm (c2 y1.toNatClampNeg) fun x8 =>
    nm ((x8.toUInt32 >>> (y2.toUInt32 &&& Int32.toUInt32 31)).toInt32) fun x9 =>
    nm (x9 &&& 1) fun x10 =>
    if x10 = 0 then
      fX1_startFromNet_p49 c2 k2 k11 y1 y2 536870912 x6 c3
    else
      fX1_startFromNet_p49 c2 k2 k11 y1 y2 0 x6 c3
noncomputable def fX1_startFromNet_l11 (c2 : Nat → Int32) (k2 : Int32 → (Nat → Int32) → Option ((Nat → Int32))) : Nat → Int32 → Int32 → (Nat → Int32) → Option ((Nat → Int32))
  | 0 => fun _ _ _ => none
  | n + 1 => fX1_startFromNet_b11 c2 k2 (fX1_startFromNet_l11 c2 k2 n)
noncomputable def fX1_startFromNet_b2 (c2 : Nat → Int32) (k2 : Int32 → (Nat → Int32) → Option ((Nat → Int32))) (y1 : Int32) (c3 : (Nat → Int32)) : Option ((Nat → Int32)) :=
  if 192 ≤ y1 then
    some c3
  else
    fX1_startFromNet_l11 c2 k2 FU y1 0 c3
noncomputable def fX1_startFromNet_l2 (c2 : Nat → Int32) : Nat → Int32 → (Nat → Int32) → Option ((Nat → Int32))
  | 0 => fun _ _ => none
  | n + 1 => fX1_startFromNet_b2 c2  (fX1_startFromNet_l2 c2  n)
noncomputable def fX1_startFromNet (c2 : Nat → Int32) (c3 : Nat → Int32) : Option ((Nat → Int32)) :=
  fX1_startFromNet_l2 c2 FU 0 c3
noncomputable def fX1_row (a0 : Int32) (a1 : Int32) : Option (Int32 × Unit) :=
  nm (a0 * 12) fun x1 =>
  nm (x1 + a1) fun x2 =>
  nm (x2 * 16) fun x3 =>
  some (x3, ())
noncomputable def fX1_lower (a0 : Int32) (a1 : Int32) (c1 : Nat → Int32) : Option (Int32 × (Nat → Int32)) :=
  nm (if 1000000 < a1 then 1000000 else a1) fun x1 =>
  bd (inb a0 3072) <|
  nm (c1 a0.toNatClampNeg) fun x3 =>
  if x1 < x3 then
    bd (inb a0 3072) <|
    nm (upd c1 a0.toNatClampNeg x1) fun c5x =>
    some (1, c5x)
  else
    some (0, c1)
noncomputable def fX1_lowerRow_p51  (k6 : Int32 → Int32 → Int32 → Int32 → Int32 → (Nat → Int32) → Option (Int32 × (Nat → Int32))) (y1 : Int32) (y2 : Int32) (y3 : Int32) (y4 : Int32) (y5 : Int32) (c1 : (Nat → Int32)) : Option (Int32 × (Nat → Int32)) :=
  nm (y5 + 1) fun x1 =>
  k6 y1 y2 y3 y4 x1 c1
noncomputable def fX1_lowerRow_b6  (k6 : Int32 → Int32 → Int32 → Int32 → Int32 → (Nat → Int32) → Option (Int32 × (Nat → Int32))) (y1 : Int32) (y2 : Int32) (y3 : Int32) (y4 : Int32) (y5 : Int32) (c1 : (Nat → Int32)) : Option (Int32 × (Nat → Int32)) :=
  if 16 ≤ y5 then
    bd (bz y4) <|
    some (y4, c1)
  else
    nm (y2 + y5) fun x4 =>
    bd (inb x4 3072) <|
    nm (c1 x4.toNatClampNeg) fun x6 =>
    if 536870912 ≤ x6 then
      fX1_lowerRow_p51 k6 y1 y2 y3 y4 y5 c1
    else
      nm (y1 + y5) fun x8 =>
      nm (y2 + y5) fun x9 =>
      bd (inb x9 3072) <|
      nm (c1 x9.toNatClampNeg) fun x11 =>
      nm (x11 + y3) fun x12 =>
      ob (fX1_lower x8 x12 c1) fun o13 =>
      nm (y4 ||| o13.1) fun x14 =>
      fX1_lowerRow_p51 k6 y1 y2 y3 x14 y5 o13.2
noncomputable def fX1_lowerRow_l6  : Nat → Int32 → Int32 → Int32 → Int32 → Int32 → (Nat → Int32) → Option (Int32 × (Nat → Int32))
  | 0 => fun _ _ _ _ _ _ => none
  | n + 1 => fX1_lowerRow_b6   (fX1_lowerRow_l6   n)
noncomputable def fX1_lowerRow (a0 : Int32) (a1 : Int32) (a2 : Int32) (c1 : Nat → Int32) : Option (Int32 × (Nat → Int32)) :=
  fX1_lowerRow_l6 FU a0 a1 a2 0 0 c1
noncomputable def fX1_useRule_p153 (c2 : Nat → Int32) (c3 : Nat → Int32) (c4 : Nat → Int32) (c5 : Nat → Int32) (c7 : Nat → Int32) (c8 : Nat → Int32) (k100 : Int32 → Int32 → Int32 → Int32 → Int32 → (Nat → Int32) → Option (Int32 × (Nat → Int32))) (y1 : Int32) (y2 : Int32) (y3 : Int32) (y4 : Int32) (y5 : Int32) (c6 : (Nat → Int32)) : Option (Int32 × (Nat → Int32)) :=
  nm (y5 + 1) fun x1 =>
  k100 y1 y2 y3 y4 x1 c6
noncomputable def fX1_useRule_b100 (c2 : Nat → Int32) (c3 : Nat → Int32) (c4 : Nat → Int32) (c5 : Nat → Int32) (c7 : Nat → Int32) (c8 : Nat → Int32) (k100 : Int32 → Int32 → Int32 → Int32 → Int32 → (Nat → Int32) → Option (Int32 × (Nat → Int32))) (y1 : Int32) (y2 : Int32) (y3 : Int32) (y4 : Int32) (y5 : Int32) (c6 : (Nat → Int32)) : Option (Int32 × (Nat → Int32)) :=
  if 16 ≤ y5 then
    bd (bz y4) <|
    some (y4, c6)
  else
    nm (y3 + y5) fun x4 =>
    bd (inb x4 3072) <|
    nm (c6 x4.toNatClampNeg) fun x6 =>
    if 536870912 ≤ x6 then
      fX1_useRule_p153 c2 c3 c4 c5 c7 c8 k100 y1 y2 y3 y4 y5 c6
    else
      bd (inb y1 48) <|
      nm (c8 y1.toNatClampNeg) fun x9 =>
      ob (fX1_row y5 x9) fun o10 =>
      nm (x6 + 1) fun x11 =>
      ob (fX1_lowerRow y2 o10.1 x11 c6) fun o12 =>
      nm (y4 ||| o12.1) fun x13 =>
      fX1_useRule_p153 c2 c3 c4 c5 c7 c8 k100 y1 y2 y3 x13 y5 o12.2
noncomputable def fX1_useRule_l100 (c2 : Nat → Int32) (c3 : Nat → Int32) (c4 : Nat → Int32) (c5 : Nat → Int32) (c7 : Nat → Int32) (c8 : Nat → Int32) : Nat → Int32 → Int32 → Int32 → Int32 → Int32 → (Nat → Int32) → Option (Int32 × (Nat → Int32))
  | 0 => fun _ _ _ _ _ _ => none
  | n + 1 => fX1_useRule_b100 c2 c3 c4 c5 c7 c8  (fX1_useRule_l100 c2 c3 c4 c5 c7 c8  n)
noncomputable def fX1_useRule (a0 : Int32) (c2 : Nat → Int32) (c3 : Nat → Int32) (c4 : Nat → Int32) (c5 : Nat → Int32) (c6 : Nat → Int32) (c7 : Nat → Int32) (c8 : Nat → Int32) : Option (Int32 × (Nat → Int32)) :=
  bd (inb a0 48) <|
  nm (c2 a0.toNatClampNeg) fun x15 =>
  bd (inb a0 48) <|
  nm (c3 a0.toNatClampNeg) fun x17 =>
  ob (fX1_row x15 x17) fun o18 =>
  bd (inb a0 48) <|
  nm (c4 a0.toNatClampNeg) fun x20 =>
  if x20 = 0 then
    bd (inb a0 48) <|
    nm (c5 a0.toNatClampNeg) fun x33 =>
    nm (o18.1 + x33) fun x34 =>
    ob (fX1_lower x34 1 c6) fun o35 =>
    bd (bz o35.1) <|
    some (o35.1, o35.2)
  else
    bd (inb a0 48) <|
    nm (c5 a0.toNatClampNeg) fun x23 =>
    bd (inb a0 48) <|
    nm (c7 a0.toNatClampNeg) fun x25 =>
    ob (fX1_row x23 x25) fun o26 =>
    bd (inb a0 48) <|
    nm (c4 a0.toNatClampNeg) fun x28 =>
    if x28 = 1 then
      ob (fX1_lowerRow o18.1 o26.1 1 c6) fun o30 =>
      bd (bz o30.1) <|
      some (o30.1, o30.2)
    else
      fX1_useRule_l100 c2 c3 c4 c5 c7 c8 FU a0 o18.1 o26.1 0 0 c6
noncomputable def fX1_bringUpToDate_p79 (v1_rules : Int32) (v1_systemChanges : Int32) (c2 : Nat → Int32) (c4 : Nat → Int32) (c5 : Nat → Int32) (c6 : Nat → Int32) (c7 : Nat → Int32) (c8 : Nat → Int32) (c9 : Nat → Int32) (v0_solvedAt : Int32) (c3 : (Nat → Int32)) : Option (Int32 × (Nat → Int32)) :=
  some (v0_solvedAt, c3)
noncomputable def fX1_bringUpToDate_b48 (v1_rules : Int32) (v1_systemChanges : Int32) (c2 : Nat → Int32) (c4 : Nat → Int32) (c5 : Nat → Int32) (c6 : Nat → Int32) (c7 : Nat → Int32) (c8 : Nat → Int32) (c9 : Nat → Int32) (k34 : Int32 → Int32 → Int32 → (Nat → Int32) → Option (Int32 × (Nat → Int32))) (k48 : Int32 → Int32 → Int32 → Int32 → (Nat → Int32) → Option (Int32 × (Nat → Int32))) (y1 : Int32) (y2 : Int32) (y3 : Int32) (v0_solvedAt : Int32) (c3 : (Nat → Int32)) : Option (Int32 × (Nat → Int32)) :=
  if v1_rules ≤ y3 then
    nm (y2 + 1) fun x2 =>
    k34 y1 x2 v0_solvedAt c3
  else
    ob (fX1_useRule y3 c4 c5 c6 c7 c3 c8 c9) fun o3 =>
    nm (y1 ||| o3.1) fun x4 =>
    nm (y3 + 1) fun x5 =>
    k48 x4 y2 x5 v0_solvedAt o3.2
noncomputable def fX1_bringUpToDate_l48 (v1_rules : Int32) (v1_systemChanges : Int32) (c2 : Nat → Int32) (c4 : Nat → Int32) (c5 : Nat → Int32) (c6 : Nat → Int32) (c7 : Nat → Int32) (c8 : Nat → Int32) (c9 : Nat → Int32) (k34 : Int32 → Int32 → Int32 → (Nat → Int32) → Option (Int32 × (Nat → Int32))) : Nat → Int32 → Int32 → Int32 → Int32 → (Nat → Int32) → Option (Int32 × (Nat → Int32))
  | 0 => fun _ _ _ _ _ => none
  | n + 1 => fX1_bringUpToDate_b48 v1_rules v1_systemChanges c2 c4 c5 c6 c7 c8 c9 k34 (fX1_bringUpToDate_l48 v1_rules v1_systemChanges c2 c4 c5 c6 c7 c8 c9 k34 n)
noncomputable def fX1_bringUpToDate_b34 (v1_rules : Int32) (v1_systemChanges : Int32) (c2 : Nat → Int32) (c4 : Nat → Int32) (c5 : Nat → Int32) (c6 : Nat → Int32) (c7 : Nat → Int32) (c8 : Nat → Int32) (c9 : Nat → Int32) (k34 : Int32 → Int32 → Int32 → (Nat → Int32) → Option (Int32 × (Nat → Int32))) (y1 : Int32) (y2 : Int32) (v0_solvedAt : Int32) (c3 : (Nat → Int32)) : Option (Int32 × (Nat → Int32)) :=
  if 1000000 ≤ y2 then
    fX1_bringUpToDate_p79 v1_rules v1_systemChanges c2 c4 c5 c6 c7 c8 c9 v0_solvedAt c3
  else
    if y1 = 0 then
      fX1_bringUpToDate_p79 v1_rules v1_systemChanges c2 c4 c5 c6 c7 c8 c9 v0_solvedAt c3
    else
      fX1_bringUpToDate_l48 v1_rules v1_systemChanges c2 c4 c5 c6 c7 c8 c9 k34 FU 0 y2 0 v0_solvedAt c3
noncomputable def fX1_bringUpToDate_l34 (v1_rules : Int32) (v1_systemChanges : Int32) (c2 : Nat → Int32) (c4 : Nat → Int32) (c5 : Nat → Int32) (c6 : Nat → Int32) (c7 : Nat → Int32) (c8 : Nat → Int32) (c9 : Nat → Int32) : Nat → Int32 → Int32 → Int32 → (Nat → Int32) → Option (Int32 × (Nat → Int32))
  | 0 => fun _ _ _ _ => none
  | n + 1 => fX1_bringUpToDate_b34 v1_rules v1_systemChanges c2 c4 c5 c6 c7 c8 c9  (fX1_bringUpToDate_l34 v1_rules v1_systemChanges c2 c4 c5 c6 c7 c8 c9  n)
noncomputable def fX1_bringUpToDate (v0_solvedAt : Int32) (v1_rules : Int32) (v1_systemChanges : Int32) (c2 : Nat → Int32) (c3 : Nat → Int32) (c4 : Nat → Int32) (c5 : Nat → Int32) (c6 : Nat → Int32) (c7 : Nat → Int32) (c8 : Nat → Int32) (c9 : Nat → Int32) : Option (Int32 × (Nat → Int32)) :=
  if v0_solvedAt = v1_systemChanges then
    some (v0_solvedAt, c3)
  else
    ob (fX1_startFromNet c2 c3) fun o9 =>
    fX1_bringUpToDate_l34 v1_rules v1_systemChanges c2 c4 c5 c6 c7 c8 c9 FU 1 0 v1_systemChanges o9
noncomputable def fX10_sum_p12   : Option (Int32 × Unit) :=
  some (536870912, ())
noncomputable def fX10_sum (a0 : Int32) (a1 : Int32) : Option (Int32 × Unit) :=
  if 536870912 ≤ a0 then
    fX10_sum_p12 
  else
    if a1 < 536870912 then
      nm (a0 + a1) fun x3 =>
      nm (if 1000000 < x3 then 1000000 else x3) fun x4 =>
      some (x4, ())
    else
      fX10_sum_p12 
noncomputable def fX7_stepsThrough_p78 (n3 : Nat) (v0_height : Int32) (c2 : Nat → Int32) (c3 : Nat → Int32) (k22 : Int32 → Int32 → Int32 → Int32 → Option (Int32 × Unit)) (y3 : Int32) (y4 : Int32) (y5 : Int32) (y6 : Int32) : Option (Int32 × Unit) :=
  nm (y6 + 1) fun x1 =>
  k22 y3 y4 y5 x1
noncomputable def fX7_stepsThrough_b22 (n3 : Nat) (v0_height : Int32) (c2 : Nat → Int32) (c3 : Nat → Int32) (k22 : Int32 → Int32 → Int32 → Int32 → Option (Int32 × Unit)) (y3 : Int32) (y4 : Int32) (y5 : Int32) (y6 : Int32) : Option (Int32 × Unit) :=
  if 16 ≤ y6 then
    some (y5, ())
  else
    nm (y3 + y6) fun x3 =>
    bd (inb x3 3072) <|
    nm (c2 x3.toNatClampNeg) fun x5 =>
    if y5 ≤ x5 then
      fX7_stepsThrough_p78 n3 v0_height c2 c3 k22 y3 y4 y5 y6
    else
      nm (y3 + y6) fun x7 =>
      bd (inb x7 3072) <|
      nm (c2 x7.toNatClampNeg) fun x9 =>
      nm (y4 + y6) fun x10 =>
      bd (inb x10 n3) <|
      nm (c3 x10.toNatClampNeg) fun x12 =>
      ob (fX10_sum x9 x12) fun o13 =>
      nm (if o13.1 < y5 then o13.1 else y5) fun x14 =>
      fX7_stepsThrough_p78 n3 v0_height c2 c3 k22 y3 y4 x14 y6
noncomputable def fX7_stepsThrough_l22 (n3 : Nat) (v0_height : Int32) (c2 : Nat → Int32) (c3 : Nat → Int32) : Nat → Int32 → Int32 → Int32 → Int32 → Option (Int32 × Unit)
  | 0 => fun _ _ _ _ => none
  | n + 1 => fX7_stepsThrough_b22 n3 v0_height c2 c3  (fX7_stepsThrough_l22 n3 v0_height c2 c3  n)
noncomputable def fX7_stepsThrough (a0 : Int32) (a1 : Int32) (n3 : Nat) (v0_height : Int32) (c2 : Nat → Int32) (c3 : Nat → Int32) : Option (Int32 × Unit) :=
  ob (fX1_row a0 a1) fun o15 =>
  nm (v0_height * 16) fun x16 =>
  fX7_stepsThrough_l22 n3 v0_height c2 c3 FU o15.1 x16 536870912 0
noncomputable def fX7_pile_b14 (n3 : Nat) (n4 : Nat) (v0_most : Int32) (c2 : Nat → Int32) (k14 : Int32 → Int32 → Int32 → (Nat → Int32) → (Nat → Int32) → Option (Int32 × (Nat → Int32) × (Nat → Int32))) (y1 : Int32) (y2 : Int32) (v0_height : Int32) (c3 : (Nat → Int32)) (c4 : (Nat → Int32)) : Option (Int32 × (Nat → Int32) × (Nat → Int32)) :=
  if 16 ≤ y2 then
    bd (inb v0_height n4) <|
    nm (upd c4 v0_height.toNatClampNeg y1) fun c2x =>
    nm (v0_height + 1) fun x3 =>
    some (x3, c3, c2x)
  else
    nm (v0_height + 1) fun x4 =>
    nm (x4 * 16) fun x5 =>
    nm (x5 + y2) fun x6 =>
    ob (fX7_stepsThrough y2 y1 n3 v0_height c2 c3) fun o7 =>
    bd (inb x6 n3) <|
    nm (upd c3 x6.toNatClampNeg o7.1) fun c8x =>
    nm (y2 + 1) fun x9 =>
    k14 y1 x9 v0_height c8x c4
noncomputable def fX7_pile_l14 (n3 : Nat) (n4 : Nat) (v0_most : Int32) (c2 : Nat → Int32) : Nat → Int32 → Int32 → Int32 → (Nat → Int32) → (Nat → Int32) → Option (Int32 × (Nat → Int32) × (Nat → Int32))
  | 0 => fun _ _ _ _ _ => none
  | n + 1 => fX7_pile_b14 n3 n4 v0_most c2  (fX7_pile_l14 n3 n4 v0_most c2  n)
noncomputable def fX7_pile (a0 : Int32) (n3 : Nat) (n4 : Nat) (v0_most : Int32) (v0_height : Int32) (c2 : Nat → Int32) (c3 : Nat → Int32) (c4 : Nat → Int32) : Option (Int32 × (Nat → Int32) × (Nat → Int32)) :=
  if v0_height < v0_most then
    fX7_pile_l14 n3 n4 v0_most c2 FU a0 0 v0_height c3 c4
  else
    some (v0_height, c3, c4)
noncomputable def fX7_buildWord_b44 (n2 : Nat) (n6 : Nat) (v0_most : Int32) (v1_ends : Int32) (v1_height : Int32) (c3 : Nat → Int32) (c5 : Nat → Int32) (k44 : Int32 → Int32 → (Nat → Int32) → (Nat → Int32) → Option (Int32 × (Nat → Int32) × (Nat → Int32))) (y2 : Int32) (v0_height : Int32) (c2 : (Nat → Int32)) (c6 : (Nat → Int32)) : Option (Int32 × (Nat → Int32) × (Nat → Int32)) :=
  if v1_height ≤ y2 then
    some (v0_height, c2, c6)
  else
    bd (inb y2 30) <|
    nm (c3 y2.toNatClampNeg) fun x3 =>
    ob (fX7_pile x3 n2 n6 v0_most v0_height c5 c2 c6) fun o4 =>
    nm (y2 + 1) fun x5 =>
    k44 x5 o4.1 o4.2.1 o4.2.2
noncomputable def fX7_buildWord_l44 (n2 : Nat) (n6 : Nat) (v0_most : Int32) (v1_ends : Int32) (v1_height : Int32) (c3 : Nat → Int32) (c5 : Nat → Int32) : Nat → Int32 → Int32 → (Nat → Int32) → (Nat → Int32) → Option (Int32 × (Nat → Int32) × (Nat → Int32))
  | 0 => fun _ _ _ _ => none
  | n + 1 => fX7_buildWord_b44 n2 n6 v0_most v1_ends v1_height c3 c5  (fX7_buildWord_l44 n2 n6 v0_most v1_ends v1_height c3 c5  n)
noncomputable def fX7_buildWord_p35 (n2 : Nat) (n6 : Nat) (v0_most : Int32) (v1_ends : Int32) (v1_height : Int32) (c3 : Nat → Int32) (c5 : Nat → Int32) (k7 : Int32 → Int32 → (Nat → Int32) → (Nat → Int32) → Option (Int32 × (Nat → Int32) × (Nat → Int32))) (y2 : Int32) (z0 : Int32) (z1 : Int32) (v0_height : Int32) (c2 : (Nat → Int32)) (c6 : (Nat → Int32)) : Option (Int32 × (Nat → Int32) × (Nat → Int32)) :=
  bd (inb z1 n2) <|
  nm (upd c2 z1.toNatClampNeg z0) fun c6x =>
  nm (y2 + 1) fun x7 =>
  k7 x7 v0_height c6x c6
noncomputable def fX7_buildWord_b7 (n2 : Nat) (n6 : Nat) (v0_most : Int32) (v1_ends : Int32) (v1_height : Int32) (c3 : Nat → Int32) (c5 : Nat → Int32) (k7 : Int32 → Int32 → (Nat → Int32) → (Nat → Int32) → Option (Int32 × (Nat → Int32) × (Nat → Int32))) (y2 : Int32) (v0_height : Int32) (c2 : (Nat → Int32)) (c6 : (Nat → Int32)) : Option (Int32 × (Nat → Int32) × (Nat → Int32)) :=
  if 16 ≤ y2 then
    fX7_buildWord_l44 n2 n6 v0_most v1_ends v1_height c3 c5 FU 0 v0_height c2 c6
  else
    nm ((v1_ends.toUInt32 >>> (y2.toUInt32 &&& Int32.toUInt32 31)).toInt32) fun x9 =>
    nm (x9 &&& 1) fun x10 =>
    if x10 = 0 then
      fX7_buildWord_p35 n2 n6 v0_most v1_ends v1_height c3 c5 k7 y2 536870912 y2 v0_height c2 c6
    else
      fX7_buildWord_p35 n2 n6 v0_most v1_ends v1_height c3 c5 k7 y2 0 y2 v0_height c2 c6
noncomputable def fX7_buildWord_l7 (n2 : Nat) (n6 : Nat) (v0_most : Int32) (v1_ends : Int32) (v1_height : Int32) (c3 : Nat → Int32) (c5 : Nat → Int32) : Nat → Int32 → Int32 → (Nat → Int32) → (Nat → Int32) → Option (Int32 × (Nat → Int32) × (Nat → Int32))
  | 0 => fun _ _ _ _ => none
  | n + 1 => fX7_buildWord_b7 n2 n6 v0_most v1_ends v1_height c3 c5  (fX7_buildWord_l7 n2 n6 v0_most v1_ends v1_height c3 c5  n)
noncomputable def fX7_buildWord (n2 : Nat) (n6 : Nat) (v0_most : Int32) (v0_height : Int32) (v1_ends : Int32) (v1_height : Int32) (c2 : Nat → Int32) (c3 : Nat → Int32) (c5 : Nat → Int32) (c6 : Nat → Int32) : Option (Int32 × (Nat → Int32) × (Nat → Int32)) :=
  fX7_buildWord_l7 n2 n6 v0_most v1_ends v1_height c3 c5 FU 0 0 c2 c6
noncomputable def fX7_stepsFrom (a0 : Int32) (n1 : Nat) (v0_height : Int32) (c1 : Nat → Int32) : Option (Int32 × Unit) :=
  nm (v0_height * 16) fun x1 =>
  nm (x1 + a0) fun x2 =>
  bd (inb x2 n1) <|
  nm (c1 x2.toNatClampNeg) fun x4 =>
  some (x4, ())
noncomputable def fX7_stepsByRule_p116 (n4 : Nat) (v0_height : Int32) (c2 : Nat → Int32) (c3 : Nat → Int32) (c4 : Nat → Int32) (c5 : Nat → Int32) (c7 : Nat → Int32) (c8 : Nat → Int32) (k63 : Int32 → Int32 → Int32 → Int32 → Option (Int32 × Unit)) (y2 : Int32) (y4 : Int32) (y5 : Int32) (y6 : Int32) : Option (Int32 × Unit) :=
  nm (y6 + 1) fun x1 =>
  k63 y2 y4 y5 x1
noncomputable def fX7_stepsByRule_b63 (n4 : Nat) (v0_height : Int32) (c2 : Nat → Int32) (c3 : Nat → Int32) (c4 : Nat → Int32) (c5 : Nat → Int32) (c7 : Nat → Int32) (c8 : Nat → Int32) (k63 : Int32 → Int32 → Int32 → Int32 → Option (Int32 × Unit)) (y2 : Int32) (y4 : Int32) (y5 : Int32) (y6 : Int32) : Option (Int32 × Unit) :=
  if 16 ≤ y6 then
    some (y5, ())
  else
    nm (y4 + y6) fun x3 =>
    bd (inb x3 3072) <|
    nm (c7 x3.toNatClampNeg) fun x5 =>
    if y5 ≤ x5 then
      fX7_stepsByRule_p116 n4 v0_height c2 c3 c4 c5 c7 c8 k63 y2 y4 y5 y6
    else
      bd (inb y2 48) <|
      nm (c8 y2.toNatClampNeg) fun x8 =>
      ob (fX7_stepsThrough y6 x8 n4 v0_height c7 c4) fun o9 =>
      ob (fX10_sum x5 o9.1) fun o10 =>
      nm (if o10.1 < y5 then o10.1 else y5) fun x11 =>
      fX7_stepsByRule_p116 n4 v0_height c2 c3 c4 c5 c7 c8 k63 y2 y4 x11 y6
noncomputable def fX7_stepsByRule_l63 (n4 : Nat) (v0_height : Int32) (c2 : Nat → Int32) (c3 : Nat → Int32) (c4 : Nat → Int32) (c5 : Nat → Int32) (c7 : Nat → Int32) (c8 : Nat → Int32) : Nat → Int32 → Int32 → Int32 → Int32 → Option (Int32 × Unit)
  | 0 => fun _ _ _ _ => none
  | n + 1 => fX7_stepsByRule_b63 n4 v0_height c2 c3 c4 c5 c7 c8  (fX7_stepsByRule_l63 n4 v0_height c2 c3 c4 c5 c7 c8  n)
noncomputable def fX7_stepsByRule (a1 : Int32) (n4 : Nat) (v0_height : Int32) (c2 : Nat → Int32) (c3 : Nat → Int32) (c4 : Nat → Int32) (c5 : Nat → Int32) (c7 : Nat → Int32) (c8 : Nat → Int32) : Option (Int32 × Unit) :=
  bd (inb a1 48) <|
  nm (c2 a1.toNatClampNeg) fun x13 =>
  bd (inb a1 48) <|
  nm (c3 a1.toNatClampNeg) fun x15 =>
  if x15 = 0 then
    ob (fX7_stepsFrom x13 n4 v0_height c4) fun o26 =>
    some (o26.1, ())
  else
    bd (inb a1 48) <|
    nm (c3 a1.toNatClampNeg) fun x18 =>
    if x18 = 1 then
      bd (inb a1 48) <|
      nm (c5 a1.toNatClampNeg) fun x24 =>
      ob (fX7_stepsThrough x13 x24 n4 v0_height c7 c4) fun o25 =>
      some (o25.1, ())
    else
      bd (inb a1 48) <|
      nm (c5 a1.toNatClampNeg) fun x21 =>
      ob (fX1_row x13 x21) fun o22 =>
      fX7_stepsByRule_l63 n4 v0_height c2 c3 c4 c5 c7 c8 FU a1 o22.1 536870912 0
noncomputable def fX7_takeTop (n1 : Nat) (v0_height : Int32) (c1 : Nat → Int32) : Option (Int32 × Int32) :=
  if 0 < v0_height then
    nm (v0_height - 1) fun x2 =>
    bd (inb x2 n1) <|
    nm (c1 x2.toNatClampNeg) fun x4 =>
    some (x4, x2)
  else
    some ((-1), v0_height)
noncomputable def fX9_leastRule_p63 (n7 : Nat) (v1_rules : Int32) (c2 : Nat → Int32) (c3 : Nat → Int32) (v4_height : Int32) (c5 : Nat → Int32) (c6 : Nat → Int32) (c7 : Nat → Int32) (c8 : Nat → Int32) (c10 : Nat → Int32) (c11 : Nat → Int32) (k3 : Int32 → Int32 → Int32 → Int32 → Option (Int32 × Unit)) (y1 : Int32) (y2 : Int32) (y3 : Int32) (y4 : Int32) : Option (Int32 × Unit) :=
  nm (y4 + 1) fun x1 =>
  k3 y1 y2 y3 x1
noncomputable def fX9_leastRule_b3 (n7 : Nat) (v1_rules : Int32) (c2 : Nat → Int32) (c3 : Nat → Int32) (v4_height : Int32) (c5 : Nat → Int32) (c6 : Nat → Int32) (c7 : Nat → Int32) (c8 : Nat → Int32) (c10 : Nat → Int32) (c11 : Nat → Int32) (k3 : Int32 → Int32 → Int32 → Int32 → Option (Int32 × Unit)) (y1 : Int32) (y2 : Int32) (y3 : Int32) (y4 : Int32) : Option (Int32 × Unit) :=
  if v1_rules ≤ y4 then
    some ((-1), ())
  else
    bd (inb y4 48) <|
    nm (c2 y4.toNatClampNeg) fun x4 =>
    if x4 = y1 then
      bd (inb y4 48) <|
      nm (c3 y4.toNatClampNeg) fun x7 =>
      if x7 = y2 then
        ob (fX7_stepsByRule y4 n7 v4_height c5 c6 c7 c8 c10 c11) fun o9 =>
        if o9.1 = y3 then
          some (y4, ())
        else
          fX9_leastRule_p63 n7 v1_rules c2 c3 v4_height c5 c6 c7 c8 c10 c11 k3 y1 y2 y3 y4
      else
        fX9_leastRule_p63 n7 v1_rules c2 c3 v4_height c5 c6 c7 c8 c10 c11 k3 y1 y2 y3 y4
    else
      fX9_leastRule_p63 n7 v1_rules c2 c3 v4_height c5 c6 c7 c8 c10 c11 k3 y1 y2 y3 y4
noncomputable def fX9_leastRule_l3 (n7 : Nat) (v1_rules : Int32) (c2 : Nat → Int32) (c3 : Nat → Int32) (v4_height : Int32) (c5 : Nat → Int32) (c6 : Nat → Int32) (c7 : Nat → Int32) (c8 : Nat → Int32) (c10 : Nat → Int32) (c11 : Nat → Int32) : Nat → Int32 → Int32 → Int32 → Int32 → Option (Int32 × Unit)
  | 0 => fun _ _ _ _ => none
  | n + 1 => fX9_leastRule_b3 n7 v1_rules c2 c3 v4_height c5 c6 c7 c8 c10 c11  (fX9_leastRule_l3 n7 v1_rules c2 c3 v4_height c5 c6 c7 c8 c10 c11  n)
noncomputable def fX9_leastRule (a0 : Int32) (a1 : Int32) (a2 : Int32) (n7 : Nat) (v1_rules : Int32) (c2 : Nat → Int32) (c3 : Nat → Int32) (v4_height : Int32) (c5 : Nat → Int32) (c6 : Nat → Int32) (c7 : Nat → Int32) (c8 : Nat → Int32) (c10 : Nat → Int32) (c11 : Nat → Int32) : Option (Int32 × Unit) :=
  fX9_leastRule_l3 n7 v1_rules c2 c3 v4_height c5 c6 c7 c8 c10 c11 FU a0 a1 a2 0
noncomputable def fX9_pileSigns_p58 (n7 : Nat) (n8 : Nat) (c2 : Nat → Int32) (c3 : Nat → Int32) (v4_most : Int32) (c6 : Nat → Int32) (c9 : Nat → Int32) (v4_height : Int32) (c7 : (Nat → Int32)) (c8 : (Nat → Int32)) : Option (Int32 × (Nat → Int32) × (Nat → Int32)) :=
  some (v4_height, c7, c8)
noncomputable def fX9_pileSigns_p29 (n7 : Nat) (n8 : Nat) (c2 : Nat → Int32) (c3 : Nat → Int32) (v4_most : Int32) (c6 : Nat → Int32) (c9 : Nat → Int32) (y1 : Int32) (v4_height : Int32) (c7 : (Nat → Int32)) (c8 : (Nat → Int32)) : Option (Int32 × (Nat → Int32) × (Nat → Int32)) :=
  bd (inb y1 48) <|
  nm (c2 y1.toNatClampNeg) fun x2 =>
  if x2 < 1 then
    fX9_pileSigns_p58 n7 n8 c2 c3 v4_most c6 c9 v4_height c7 c8
  else
    bd (inb y1 48) <|
    nm (c9 y1.toNatClampNeg) fun x5 =>
    ob (fX7_pile x5 n7 n8 v4_most v4_height c6 c7 c8) fun o6 =>
    fX9_pileSigns_p58 n7 n8 c2 c3 v4_most c6 c9 o6.1 o6.2.1 o6.2.2
noncomputable def fX9_pileSigns (a0 : Int32) (n7 : Nat) (n8 : Nat) (c2 : Nat → Int32) (c3 : Nat → Int32) (v4_most : Int32) (v4_height : Int32) (c6 : Nat → Int32) (c7 : Nat → Int32) (c8 : Nat → Int32) (c9 : Nat → Int32) : Option (Int32 × (Nat → Int32) × (Nat → Int32)) :=
  bd (inb a0 48) <|
  nm (c2 a0.toNatClampNeg) fun x8 =>
  if x8 = 2 then
    bd (inb a0 48) <|
    nm (c3 a0.toNatClampNeg) fun x11 =>
    ob (fX7_pile x11 n7 n8 v4_most v4_height c6 c7 c8) fun o12 =>
    fX9_pileSigns_p29 n7 n8 c2 c3 v4_most c6 c9 a0 o12.1 o12.2.1 o12.2.2
  else
    fX9_pileSigns_p29 n7 n8 c2 c3 v4_most c6 c9 a0 v4_height c7 c8
noncomputable def fX9_find_b56 (n3 : Nat) (n7 : Nat) (v1_rules : Int32) (v1_ends : Int32) (v1_height : Int32) (v1_systemChanges : Int32) (v1_wordChanges : Int32) (v2_most : Int32) (c4 : Nat → Int32) (c6 : Nat → Int32) (c8 : Nat → Int32) (c9 : Nat → Int32) (c10 : Nat → Int32) (c11 : Nat → Int32) (c12 : Nat → Int32) (c13 : Nat → Int32) (k56 : Int32 → Int32 → Int32 → Int32 → Int32 → Int32 → Int32 → Int32 → (Nat → Int32) → (Nat → Int32) → (Nat → Int32) → Option (Int32 × Int32 × Int32 × Int32 × Int32 × (Nat → Int32) × (Nat → Int32) × (Nat → Int32))) (y2 : Int32) (y3 : Int32) (y4 : Int32) (v0_length : Int32) (v0_fromState : Int32) (v0_foundAtSystem : Int32) (v0_foundAtWord : Int32) (v2_height : Int32) (c3 : (Nat → Int32)) (c7 : (Nat → Int32)) (c14 : (Nat → Int32)) : Option (Int32 × Int32 × Int32 × Int32 × Int32 × (Nat → Int32) × (Nat → Int32) × (Nat → Int32)) :=
  if y2 ≤ y4 then
    some (v0_length, v0_fromState, v0_foundAtSystem, v0_foundAtWord, v2_height, c3, c7, c14)
  else
    ob (fX7_takeTop n7 v2_height c7) fun o2 =>
    nm (y2 - y4) fun x3 =>
    nm (x3 - 1) fun x4 =>
    ob (fX9_leastRule y3 o2.1 x4 n3 v1_rules c8 c9 o2.2 c10 c11 c3 c12 c6 c13) fun o5 =>
    if o5.1 = (-1) then
      some (v0_length, v0_fromState, v0_foundAtSystem, v0_foundAtWord, o2.2, c3, c7, c14)
    else
      bd (inb y4 2000) <|
      nm (upd c14 y4.toNatClampNeg o5.1) fun c7x =>
      nm (v0_length + 1) fun x8 =>
      bd (inb o5.1 48) <|
      nm (c10 o5.1.toNatClampNeg) fun x10 =>
      ob (fX9_pileSigns o5.1 n3 n7 c11 c13 v2_most o2.2 c6 c3 c7 c12) fun o11 =>
      nm (y4 + 1) fun x12 =>
      k56 y2 x10 x12 x8 v0_fromState v0_foundAtSystem v0_foundAtWord o11.1 o11.2.1 o11.2.2 c7x
noncomputable def fX9_find_l56 (n3 : Nat) (n7 : Nat) (v1_rules : Int32) (v1_ends : Int32) (v1_height : Int32) (v1_systemChanges : Int32) (v1_wordChanges : Int32) (v2_most : Int32) (c4 : Nat → Int32) (c6 : Nat → Int32) (c8 : Nat → Int32) (c9 : Nat → Int32) (c10 : Nat → Int32) (c11 : Nat → Int32) (c12 : Nat → Int32) (c13 : Nat → Int32) : Nat → Int32 → Int32 → Int32 → Int32 → Int32 → Int32 → Int32 → Int32 → (Nat → Int32) → (Nat → Int32) → (Nat → Int32) → Option (Int32 × Int32 × Int32 × Int32 × Int32 × (Nat → Int32) × (Nat → Int32) × (Nat → Int32))
  | 0 => fun _ _ _ _ _ _ _ _ _ _ _ => none
  | n + 1 => fX9_find_b56 n3 n7 v1_rules v1_ends v1_height v1_systemChanges v1_wordChanges v2_most c4 c6 c8 c9 c10 c11 c12 c13  (fX9_find_l56 n3 n7 v1_rules v1_ends v1_height v1_systemChanges v1_wordChanges v2_most c4 c6 c8 c9 c10 c11 c12 c13  n)
noncomputable def fX9_find (a0 : Int32) (a1 : Int32) (n3 : Nat) (n7 : Nat) (v0_length : Int32) (v0_fromState : Int32) (v0_foundAtSystem : Int32) (v0_foundAtWord : Int32) (v1_rules : Int32) (v1_ends : Int32) (v1_height : Int32) (v1_systemChanges : Int32) (v1_wordChanges : Int32) (v2_most : Int32) (v2_height : Int32) (c3 : Nat → Int32) (c4 : Nat → Int32) (c6 : Nat → Int32) (c7 : Nat → Int32) (c8 : Nat → Int32) (c9 : Nat → Int32) (c10 : Nat → Int32) (c11 : Nat → Int32) (c12 : Nat → Int32) (c13 : Nat → Int32) (c14 : Nat → Int32) : Option (Int32 × Int32 × Int32 × Int32 × Int32 × (Nat → Int32) × (Nat → Int32) × (Nat → Int32)) :=
  if a1 ≤ 2000 then
    ob (fX7_buildWord n3 n7 v2_most v2_height v1_ends v1_height c3 c4 c6 c7) fun o14 =>
    fX9_find_l56 n3 n7 v1_rules v1_ends v1_height v1_systemChanges v1_wordChanges v2_most c4 c6 c8 c9 c10 c11 c12 c13 FU a1 a0 0 0 a0 v1_systemChanges v1_wordChanges o14.1 o14.2.1 o14.2.2 c14
  else
    some (0, a0, v1_systemChanges, v1_wordChanges, v2_height, c3, c7, c14)
noncomputable def fX9_isOf_p41 (v0_fromState : Int32) (v0_foundAtSystem : Int32) (v0_foundAtWord : Int32) (v1_systemChanges : Int32) (v1_wordChanges : Int32) (z0 : Int32) : Option (Int32 × Unit) :=
  bd (bz z0) <|
  some (z0, ())
noncomputable def fX9_isOf_p40 (v0_fromState : Int32) (v0_foundAtSystem : Int32) (v0_foundAtWord : Int32) (v1_systemChanges : Int32) (v1_wordChanges : Int32)  : Option (Int32 × Unit) :=
  fX9_isOf_p41 v0_fromState v0_foundAtSystem v0_foundAtWord v1_systemChanges v1_wordChanges 0
noncomputable def fX9_isOf (a0 : Int32) (v0_fromState : Int32) (v0_foundAtSystem : Int32) (v0_foundAtWord : Int32) (v1_systemChanges : Int32) (v1_wordChanges : Int32) : Option (Int32 × Unit) :=
  if v0_fromState = a0 then
    if v0_foundAtSystem = v1_systemChanges then
      if v0_foundAtWord = v1_wordChanges then
        fX9_isOf_p41 v0_fromState v0_foundAtSystem v0_foundAtWord v1_systemChanges v1_wordChanges 1
      else
        fX9_isOf_p40 v0_fromState v0_foundAtSystem v0_foundAtWord v1_systemChanges v1_wordChanges 
    else
      fX9_isOf_p40 v0_fromState v0_foundAtSystem v0_foundAtWord v1_systemChanges v1_wordChanges 
  else
    fX9_isOf_p40 v0_fromState v0_foundAtSystem v0_foundAtWord v1_systemChanges v1_wordChanges 
noncomputable def fX9_ruleAt_p22 (v0_length : Int32) (c1 : Nat → Int32) (z0 : Int32) : Option (Int32 × Unit) :=
  some (z0, ())
noncomputable def fX9_ruleAt_p21 (v0_length : Int32) (c1 : Nat → Int32)  : Option (Int32 × Unit) :=
  fX9_ruleAt_p22 v0_length c1 (-1)
noncomputable def fX9_ruleAt (a0 : Int32) (v0_length : Int32) (c1 : Nat → Int32) : Option (Int32 × Unit) :=
  if a0 < 0 then
    fX9_ruleAt_p21 v0_length c1 
  else
    if v0_length ≤ a0 then
      fX9_ruleAt_p21 v0_length c1 
    else
      bd (inb a0 2000) <|
      nm (c1 a0.toNatClampNeg) fun x4 =>
      fX9_ruleAt_p22 v0_length c1 x4
noncomputable def fX5_addArcs_p35  (z0 : Int32) (c1 : (Nat → Int64)) : Option (Int32 × (Nat → Int64)) :=
  bd (bz z0) <|
  some (z0, c1)
noncomputable def fX5_addArcs (a0 : Int32) (a1 : Int64) (c1 : Nat → Int64) : Option (Int32 × (Nat → Int64)) :=
  bd (inb a0 768) <|
  nm (c1 a0.toNatClampNeg) fun x3 =>
  bd (inb a0 768) <|
  nm (c1 a0.toNatClampNeg) fun x5 =>
  nm (x5 ||| a1) fun x6 =>
  bd (inb a0 768) <|
  nm (vp_updL c1 a0.toNatClampNeg x6) fun c7x =>
  bd (inb a0 768) <|
  nm (c7x a0.toNatClampNeg) fun x9 =>
  nm (lg_cmp x9 x3) fun x10 =>
  if x10 = 0 then
    fX5_addArcs_p35 0 c7x
  else
    fX5_addArcs_p35 1 c7x
noncomputable def fJ7_fill_d0a16_b6 (n0 : Nat) (k6 : Int64 → Int32 → Int32 → (Nat → Int64) → Option ((Nat → Int64))) (y1 : Int64) (y3 : Int32) (y4 : Int32) (c0 : (Nat → Int64)) : Option ((Nat → Int64)) :=
  if y4 ≤ y3 then
    some c0
  else
    bd (inb y3 n0) <|
    nm (vp_updL c0 y3.toNatClampNeg y1) fun c2x =>
    nm (y3 + 1) fun x3 =>
    k6 y1 x3 y4 c2x
noncomputable def fJ7_fill_d0a16_l6 (n0 : Nat) : Nat → Int64 → Int32 → Int32 → (Nat → Int64) → Option ((Nat → Int64))
  | 0 => fun _ _ _ _ => none
  | n + 1 => fJ7_fill_d0a16_b6 n0  (fJ7_fill_d0a16_l6 n0  n)
noncomputable def fJ7_fill_d0a16 (a1 : Int64) (n0 : Nat) (c0 : Nat → Int64) : Option ((Nat → Int64)) :=
  nm (Int32.ofNat n0) fun x4 =>
  fJ7_fill_d0a16_l6 n0 FU a1 0 x4 c0
noncomputable def fX5_nodesBehind_p41 (c1 : Nat → Int64) (k6 : Int64 → Int32 → Int64 → Int32 → Option (Int64 × Unit)) (y1 : Int64) (y3 : Int32) (y4 : Int64) (y6 : Int32) : Option (Int64 × Unit) :=
  nm (y6 + 1) fun x1 =>
  k6 y1 y3 y4 x1
noncomputable def fX5_nodesBehind_b6 (c1 : Nat → Int64) (k6 : Int64 → Int32 → Int64 → Int32 → Option (Int64 × Unit)) (y1 : Int64) (y3 : Int32) (y4 : Int64) (y6 : Int32) : Option (Int64 × Unit) :=
  if 64 ≤ y6 then
    some (y4, ())
  else
    nm ((y1.toUInt64 >>> (y6.toInt64.toUInt64 &&& Int64.toUInt64 63)).toInt64) fun x3 =>
    nm (x3 &&& 1) fun x4 =>
    nm (lg_cmp x4 0) fun x5 =>
    if x5 = 0 then
      fX5_nodesBehind_p41 c1 k6 y1 y3 y4 y6
    else
      nm (y6 * 12) fun x7 =>
      nm (x7 + y3) fun x8 =>
      bd (inb x8 768) <|
      nm (c1 x8.toNatClampNeg) fun x10 =>
      nm (y4 ||| x10) fun x11 =>
      fX5_nodesBehind_p41 c1 k6 y1 y3 x11 y6
noncomputable def fX5_nodesBehind_l6 (c1 : Nat → Int64) : Nat → Int64 → Int32 → Int64 → Int32 → Option (Int64 × Unit)
  | 0 => fun _ _ _ _ => none
  | n + 1 => fX5_nodesBehind_b6 c1  (fX5_nodesBehind_l6 c1  n)
noncomputable def fX5_nodesBehind (a0 : Int64) (a1 : Int32) (c1 : Nat → Int64) : Option (Int64 × Unit) :=
  fX5_nodesBehind_l6 c1 FU a0 a1 0 0
noncomputable def fX5_useRule_p193 (c2 : Nat → Int32) (c4 : Nat → Int32) (c6 : Nat → Int32) (c7 : Nat → Int32) (c8 : Nat → Int32) (c9 : Nat → Int32) (z0 : Int32) (c3 : (Nat → Int64)) (c5 : (Nat → Int64)) : Option (Int32 × (Nat → Int64) × (Nat → Int64)) :=
  bd (bz z0) <|
  some (z0, (c3, c5))
noncomputable def fX5_useRule_p188 (c2 : Nat → Int32) (c4 : Nat → Int32) (c6 : Nat → Int32) (c7 : Nat → Int32) (c8 : Nat → Int32) (c9 : Nat → Int32) (c3 : (Nat → Int64)) (c5 : (Nat → Int64)) : Option (Int32 × (Nat → Int64) × (Nat → Int64)) :=
  fX5_useRule_p193 c2 c4 c6 c7 c8 c9 1 c3 c5
noncomputable def fX5_useRule_p103 (c2 : Nat → Int32) (c4 : Nat → Int32) (c6 : Nat → Int32) (c7 : Nat → Int32) (c8 : Nat → Int32) (c9 : Nat → Int32) (z0 : Int32) (c3 : (Nat → Int64)) (c5 : (Nat → Int64)) : Option (Int32 × (Nat → Int64) × (Nat → Int64)) :=
  bd (bz z0) <|
  some (z0, (c3, c5))
noncomputable def fX5_useRule (a0 : Int32) (c2 : Nat → Int32) (c3 : Nat → Int64) (c4 : Nat → Int32) (c5 : Nat → Int64) (c6 : Nat → Int32) (c7 : Nat → Int32) (c8 : Nat → Int32) (c9 : Nat → Int32) : Option (Int32 × (Nat → Int64) × (Nat → Int64)) :=
  bd (inb a0 48) <|
  nm (c2 a0.toNatClampNeg) fun x4 =>
  nm ((1 : Int64) <<< (x4.toInt64 &&& 63)) fun x5 =>
  bd (inb x4 8) <|
  nm (c3 x4.toNatClampNeg) fun x7 =>
  nm (x5 ||| x7) fun x8 =>
  bd (inb a0 48) <|
  nm (c4 a0.toNatClampNeg) fun x10 =>
  ob (fX5_nodesBehind x8 x10 c5) fun o11 =>
  nm (lg_cmp o11.1 0) fun x12 =>
  if x12 = 0 then
    some (0, (c3, c5))
  else
    bd (inb a0 48) <|
    nm (c6 a0.toNatClampNeg) fun x15 =>
    bd (inb a0 48) <|
    nm (c7 a0.toNatClampNeg) fun x17 =>
    if x17 = 0 then
      bd (inb x15 8) <|
      nm (c3 x15.toNatClampNeg) fun x39 =>
      bd (inb x15 8) <|
      nm (c3 x15.toNatClampNeg) fun x41 =>
      nm (x41 ||| o11.1) fun x42 =>
      bd (inb x15 8) <|
      nm (vp_updL c3 x15.toNatClampNeg x42) fun c43x =>
      bd (inb x15 8) <|
      nm (c43x x15.toNatClampNeg) fun x45 =>
      nm (lg_cmp x45 x39) fun x46 =>
      if x46 = 0 then
        fX5_useRule_p103 c2 c4 c6 c7 c8 c9 0 c43x c5
      else
        fX5_useRule_p103 c2 c4 c6 c7 c8 c9 1 c43x c5
    else
      nm (x15 * 12) fun x19 =>
      bd (inb a0 48) <|
      nm (c8 a0.toNatClampNeg) fun x21 =>
      nm (x19 + x21) fun x22 =>
      bd (inb a0 48) <|
      nm (c7 a0.toNatClampNeg) fun x24 =>
      if x24 = 1 then
        ob (fX5_addArcs x22 o11.1 c5) fun o36 =>
        bd (bz o36.1) <|
        some (o36.1, (c3, o36.2))
      else
        nm (16 + a0) fun x26 =>
        nm ((1 : Int64) <<< (x26.toInt64 &&& 63)) fun x27 =>
        ob (fX5_addArcs x22 x27 c5) fun o28 =>
        nm (x26 * 12) fun x29 =>
        bd (inb a0 48) <|
        nm (c9 a0.toNatClampNeg) fun x31 =>
        nm (x29 + x31) fun x32 =>
        ob (fX5_addArcs x32 o11.1 o28.2) fun o33 =>
        if o33.1 = 0 then
          if o28.1 = 0 then
            fX5_useRule_p193 c2 c4 c6 c7 c8 c9 0 c3 o33.2
          else
            fX5_useRule_p188 c2 c4 c6 c7 c8 c9 c3 o33.2
        else
          fX5_useRule_p188 c2 c4 c6 c7 c8 c9 c3 o33.2
noncomputable def fX5_bringUpToDate_p122 (v1_rules : Int32) (v1_systemChanges : Int32) (c4 : Nat → Int32) (c5 : Nat → Int32) (c6 : Nat → Int32) (c7 : Nat → Int32) (c8 : Nat → Int32) (c9 : Nat → Int32) (c10 : Nat → Int32) (v0_solvedAt : Int32) (c2 : (Nat → Int64)) (c3 : (Nat → Int64)) : Option (Int32 × (Nat → Int64) × (Nat → Int64)) :=
  some (v0_solvedAt, c2, c3)
noncomputable def fX5_bringUpToDate_b91 (v1_rules : Int32) (v1_systemChanges : Int32) (c4 : Nat → Int32) (c5 : Nat → Int32) (c6 : Nat → Int32) (c7 : Nat → Int32) (c8 : Nat → Int32) (c9 : Nat → Int32) (c10 : Nat → Int32) (k77 : Int32 → Int32 → Int32 → (Nat → Int64) → (Nat → Int64) → Option (Int32 × (Nat → Int64) × (Nat → Int64))) (k91 : Int32 → Int32 → Int32 → Int32 → (Nat → Int64) → (Nat → Int64) → Option (Int32 × (Nat → Int64) × (Nat → Int64))) (y1 : Int32) (y2 : Int32) (y3 : Int32) (v0_solvedAt : Int32) (c2 : (Nat → Int64)) (c3 : (Nat → Int64)) : Option (Int32 × (Nat → Int64) × (Nat → Int64)) :=
  if v1_rules ≤ y3 then
    nm (y2 + 1) fun x2 =>
    k77 y1 x2 v0_solvedAt c2 c3
  else
    ob (fX5_useRule y3 c5 c3 c6 c2 c7 c8 c9 c10) fun o3 =>
    nm (y1 ||| o3.1) fun x4 =>
    nm (y3 + 1) fun x5 =>
    k91 x4 y2 x5 v0_solvedAt o3.2.2 o3.2.1
noncomputable def fX5_bringUpToDate_l91 (v1_rules : Int32) (v1_systemChanges : Int32) (c4 : Nat → Int32) (c5 : Nat → Int32) (c6 : Nat → Int32) (c7 : Nat → Int32) (c8 : Nat → Int32) (c9 : Nat → Int32) (c10 : Nat → Int32) (k77 : Int32 → Int32 → Int32 → (Nat → Int64) → (Nat → Int64) → Option (Int32 × (Nat → Int64) × (Nat → Int64))) : Nat → Int32 → Int32 → Int32 → Int32 → (Nat → Int64) → (Nat → Int64) → Option (Int32 × (Nat → Int64) × (Nat → Int64))
  | 0 => fun _ _ _ _ _ _ => none
  | n + 1 => fX5_bringUpToDate_b91 v1_rules v1_systemChanges c4 c5 c6 c7 c8 c9 c10 k77 (fX5_bringUpToDate_l91 v1_rules v1_systemChanges c4 c5 c6 c7 c8 c9 c10 k77 n)
noncomputable def fX5_bringUpToDate_b77 (v1_rules : Int32) (v1_systemChanges : Int32) (c4 : Nat → Int32) (c5 : Nat → Int32) (c6 : Nat → Int32) (c7 : Nat → Int32) (c8 : Nat → Int32) (c9 : Nat → Int32) (c10 : Nat → Int32) (k77 : Int32 → Int32 → Int32 → (Nat → Int64) → (Nat → Int64) → Option (Int32 × (Nat → Int64) × (Nat → Int64))) (y1 : Int32) (y2 : Int32) (v0_solvedAt : Int32) (c2 : (Nat → Int64)) (c3 : (Nat → Int64)) : Option (Int32 × (Nat → Int64) × (Nat → Int64)) :=
  if 1000000 ≤ y2 then
    fX5_bringUpToDate_p122 v1_rules v1_systemChanges c4 c5 c6 c7 c8 c9 c10 v0_solvedAt c2 c3
  else
    if y1 = 0 then
      fX5_bringUpToDate_p122 v1_rules v1_systemChanges c4 c5 c6 c7 c8 c9 c10 v0_solvedAt c2 c3
    else
      fX5_bringUpToDate_l91 v1_rules v1_systemChanges c4 c5 c6 c7 c8 c9 c10 k77 FU 0 y2 0 v0_solvedAt c2 c3
noncomputable def fX5_bringUpToDate_l77 (v1_rules : Int32) (v1_systemChanges : Int32) (c4 : Nat → Int32) (c5 : Nat → Int32) (c6 : Nat → Int32) (c7 : Nat → Int32) (c8 : Nat → Int32) (c9 : Nat → Int32) (c10 : Nat → Int32) : Nat → Int32 → Int32 → Int32 → (Nat → Int64) → (Nat → Int64) → Option (Int32 × (Nat → Int64) × (Nat → Int64))
  | 0 => fun _ _ _ _ _ => none
  | n + 1 => fX5_bringUpToDate_b77 v1_rules v1_systemChanges c4 c5 c6 c7 c8 c9 c10  (fX5_bringUpToDate_l77 v1_rules v1_systemChanges c4 c5 c6 c7 c8 c9 c10  n)
noncomputable def fX5_bringUpToDate_b44 (v1_rules : Int32) (v1_systemChanges : Int32) (c4 : Nat → Int32) (c5 : Nat → Int32) (c6 : Nat → Int32) (c7 : Nat → Int32) (c8 : Nat → Int32) (c9 : Nat → Int32) (c10 : Nat → Int32) (k44 : Int32 → Int32 → (Nat → Int64) → (Nat → Int64) → Option (Int32 × (Nat → Int64) × (Nat → Int64))) (y1 : Int32) (v0_solvedAt : Int32) (c2 : (Nat → Int64)) (c3 : (Nat → Int64)) : Option (Int32 × (Nat → Int64) × (Nat → Int64)) :=
  if 192 ≤ y1 then
    fX5_bringUpToDate_l77 v1_rules v1_systemChanges c4 c5 c6 c7 c8 c9 c10 FU 1 0 v0_solvedAt c2 c3
  else
    bd (inb y1 192) <|
    nm (c4 y1.toNatClampNeg) fun x10 =>
    nm (x10.toInt64) fun x11 =>
    bd (inb y1 768) <|
    nm (vp_updL c2 y1.toNatClampNeg x11) fun c12x =>
    nm (y1 + 1) fun x13 =>
    k44 x13 v0_solvedAt c12x c3
noncomputable def fX5_bringUpToDate_l44 (v1_rules : Int32) (v1_systemChanges : Int32) (c4 : Nat → Int32) (c5 : Nat → Int32) (c6 : Nat → Int32) (c7 : Nat → Int32) (c8 : Nat → Int32) (c9 : Nat → Int32) (c10 : Nat → Int32) : Nat → Int32 → Int32 → (Nat → Int64) → (Nat → Int64) → Option (Int32 × (Nat → Int64) × (Nat → Int64))
  | 0 => fun _ _ _ _ => none
  | n + 1 => fX5_bringUpToDate_b44 v1_rules v1_systemChanges c4 c5 c6 c7 c8 c9 c10  (fX5_bringUpToDate_l44 v1_rules v1_systemChanges c4 c5 c6 c7 c8 c9 c10  n)
noncomputable def fX5_bringUpToDate (v0_solvedAt : Int32) (v1_rules : Int32) (v1_systemChanges : Int32) (c2 : Nat → Int64) (c3 : Nat → Int64) (c4 : Nat → Int32) (c5 : Nat → Int32) (c6 : Nat → Int32) (c7 : Nat → Int32) (c8 : Nat → Int32) (c9 : Nat → Int32) (c10 : Nat → Int32) : Option (Int32 × (Nat → Int64) × (Nat → Int64)) :=
  if v0_solvedAt = v1_systemChanges then
    some (v0_solvedAt, c2, c3)
  else
    ob (fJ7_fill_d0a16 0 768 c2) fun o15 =>
    ob (fJ7_fill_d0a16 0 8 c3) fun o16 =>
    fX5_bringUpToDate_l44 v1_rules v1_systemChanges c4 c5 c6 c7 c8 c9 c10 FU 0 v1_systemChanges o15 o16
noncomputable def fX5_holdsWord_p73 (v1_rules : Int32) (v1_ends : Int32) (v1_height : Int32) (v1_systemChanges : Int32) (c4 : Nat → Int32) (c5 : Nat → Int32) (c6 : Nat → Int32) (c7 : Nat → Int32) (c8 : Nat → Int32) (c9 : Nat → Int32) (c10 : Nat → Int32) (c11 : Nat → Int32) (z0 : Int32) (v0_solvedAt : Int32) (c2 : (Nat → Int64)) (c3 : (Nat → Int64)) : Option (Int32 × Int32 × (Nat → Int64) × (Nat → Int64)) :=
  bd (bz z0) <|
  some (z0, (v0_solvedAt, c2, c3))
noncomputable def fX5_holdsWord_b26 (v1_rules : Int32) (v1_ends : Int32) (v1_height : Int32) (v1_systemChanges : Int32) (c4 : Nat → Int32) (c5 : Nat → Int32) (c6 : Nat → Int32) (c7 : Nat → Int32) (c8 : Nat → Int32) (c9 : Nat → Int32) (c10 : Nat → Int32) (c11 : Nat → Int32) (k26 : Int64 → Int32 → Int32 → (Nat → Int64) → (Nat → Int64) → Option (Int32 × Int32 × (Nat → Int64) × (Nat → Int64))) (y2 : Int64) (y4 : Int32) (v0_solvedAt : Int32) (c2 : (Nat → Int64)) (c3 : (Nat → Int64)) : Option (Int32 × Int32 × (Nat → Int64) × (Nat → Int64)) :=
  if y4 < 0 then
    nm (v1_ends.toInt64) fun x3 =>
    nm (y2 &&& x3) fun x4 =>
    nm (lg_cmp x4 0) fun x5 =>
    if x5 = 0 then
      fX5_holdsWord_p73 v1_rules v1_ends v1_height v1_systemChanges c4 c5 c6 c7 c8 c9 c10 c11 0 v0_solvedAt c2 c3
    else
      fX5_holdsWord_p73 v1_rules v1_ends v1_height v1_systemChanges c4 c5 c6 c7 c8 c9 c10 c11 1 v0_solvedAt c2 c3
  else
    bd (inb y4 30) <|
    nm (c11 y4.toNatClampNeg) fun x8 =>
    ob (fX5_nodesBehind y2 x8 c2) fun o9 =>
    nm (y4 + (-1)) fun x10 =>
    k26 o9.1 x10 v0_solvedAt c2 c3
noncomputable def fX5_holdsWord_l26 (v1_rules : Int32) (v1_ends : Int32) (v1_height : Int32) (v1_systemChanges : Int32) (c4 : Nat → Int32) (c5 : Nat → Int32) (c6 : Nat → Int32) (c7 : Nat → Int32) (c8 : Nat → Int32) (c9 : Nat → Int32) (c10 : Nat → Int32) (c11 : Nat → Int32) : Nat → Int64 → Int32 → Int32 → (Nat → Int64) → (Nat → Int64) → Option (Int32 × Int32 × (Nat → Int64) × (Nat → Int64))
  | 0 => fun _ _ _ _ _ => none
  | n + 1 => fX5_holdsWord_b26 v1_rules v1_ends v1_height v1_systemChanges c4 c5 c6 c7 c8 c9 c10 c11  (fX5_holdsWord_l26 v1_rules v1_ends v1_height v1_systemChanges c4 c5 c6 c7 c8 c9 c10 c11  n)
noncomputable def fX5_holdsWord (a0 : Int32) (v0_solvedAt : Int32) (v1_rules : Int32) (v1_ends : Int32) (v1_height : Int32) (v1_systemChanges : Int32) (c2 : Nat → Int64) (c3 : Nat → Int64) (c4 : Nat → Int32) (c5 : Nat → Int32) (c6 : Nat → Int32) (c7 : Nat → Int32) (c8 : Nat → Int32) (c9 : Nat → Int32) (c10 : Nat → Int32) (c11 : Nat → Int32) : Option (Int32 × Int32 × (Nat → Int64) × (Nat → Int64)) :=
  ob (fX5_bringUpToDate v0_solvedAt v1_rules v1_systemChanges c2 c3 c4 c5 c6 c7 c8 c9 c10) fun o11 =>
  nm ((1 : Int64) <<< (a0.toInt64 &&& 63)) fun x12 =>
  bd (inb a0 8) <|
  nm (o11.2.2 a0.toNatClampNeg) fun x14 =>
  nm (x12 ||| x14) fun x15 =>
  nm (v1_height - 1) fun x16 =>
  fX5_holdsWord_l26 v1_rules v1_ends v1_height v1_systemChanges c4 c5 c6 c7 c8 c9 c10 c11 FU x15 x16 o11.1 o11.2.1 o11.2.2
noncomputable def fX4_addBytes_b18  (k18 : Int64 → Int32 → Int32 → Int32 → (Nat → Int32) → Option (Int32 × Int32 × (Nat → Int32))) (y1 : Int64) (y3 : Int32) (y4 : Int32) (v0_size : Int32) (c1 : (Nat → Int32)) : Option (Int32 × Int32 × (Nat → Int32)) :=
  if y3 ≤ y4 then
    some (v0_size, (v0_size, c1))
  else
    nm (8 * y4) fun x2 =>
    nm ((y1.toUInt64 >>> (x2.toInt64.toUInt64 &&& Int64.toUInt64 63)).toInt64) fun x3 =>
    nm (x3.toInt32) fun x4 =>
    nm (x4.toInt8.toInt32) fun x5 =>
    bd (inb v0_size 600) <|
    nm (upd c1 v0_size.toNatClampNeg (vp_nar .byte x5)) fun c6x =>
    nm (v0_size + 1) fun x7 =>
    nm (y4 + 1) fun x8 =>
    k18 y1 y3 x8 x7 c6x
noncomputable def fX4_addBytes_l18  : Nat → Int64 → Int32 → Int32 → Int32 → (Nat → Int32) → Option (Int32 × Int32 × (Nat → Int32))
  | 0 => fun _ _ _ _ _ => none
  | n + 1 => fX4_addBytes_b18   (fX4_addBytes_l18   n)
noncomputable def fX4_addBytes (a0 : Int64) (a1 : Int32) (v0_size : Int32) (c1 : Nat → Int32) : Option (Int32 × Int32 × (Nat → Int32)) :=
  nm (v0_size + a1) fun x9 =>
  if x9 ≤ 600 then
    fX4_addBytes_l18 FU a0 a1 0 v0_size c1
  else
    some ((-3), (v0_size, c1))
noncomputable def fX4_isLetter_p17  (z0 : Int32) : Option (Int32 × Unit) :=
  bd (bz z0) <|
  some (z0, ())
noncomputable def fX4_isLetter_p16   : Option (Int32 × Unit) :=
  fX4_isLetter_p17 0
noncomputable def fX4_isLetter (a0 : Int32) : Option (Int32 × Unit) :=
  if a0 < 97 then
    fX4_isLetter_p16 
  else
    if 122 < a0 then
      fX4_isLetter_p16 
    else
      fX4_isLetter_p17 1
noncomputable def fX4_isDigit_p17  (z0 : Int32) : Option (Int32 × Unit) :=
  bd (bz z0) <|
  some (z0, ())
noncomputable def fX4_isDigit_p16   : Option (Int32 × Unit) :=
  fX4_isDigit_p17 0
noncomputable def fX4_isDigit (a0 : Int32) : Option (Int32 × Unit) :=
  if a0 < 48 then
    fX4_isDigit_p16 
  else
    if 57 < a0 then
      fX4_isDigit_p16 
    else
      fX4_isDigit_p17 1
noncomputable def fX4_fail_p17  (v0_token : Int32) (v0_fault : Int32) (v0_faultAt : Int32) : Option (Int32 × Int32 × Int32) :=
  some (257, v0_fault, v0_faultAt)
noncomputable def fX4_fail (a0 : Int32) (a1 : Int32) (v0_token : Int32) (v0_fault : Int32) (v0_faultAt : Int32) : Option (Int32 × Int32 × Int32) :=
  if v0_fault = 0 then
    fX4_fail_p17 v0_token a0 a1
  else
    fX4_fail_p17 v0_token v0_fault v0_faultAt
noncomputable def fX4_scanWord_p162 (v0_tokenAt : Int32) (v0_size : Int32) (c1 : Nat → Int32) (k132 : Int32 → Int32 → Int64 → Int32 → Int32 → Int32 → Option (Int32 × Int64 × Int32 × Int32 × Int32)) (y1 : Int32) (v0_token : Int32) (v0_name : Int64) (v0_fault : Int32) (v0_faultAt : Int32) (v0_next : Int32) : Option (Int32 × Int64 × Int32 × Int32 × Int32) :=
  nm (y1 + 1) fun x1 =>
  k132 x1 v0_token v0_name v0_fault v0_faultAt v0_next
noncomputable def fX4_scanWord_b132 (v0_tokenAt : Int32) (v0_size : Int32) (c1 : Nat → Int32) (k132 : Int32 → Int32 → Int64 → Int32 → Int32 → Int32 → Option (Int32 × Int64 × Int32 × Int32 × Int32)) (y1 : Int32) (v0_token : Int32) (v0_name : Int64) (v0_fault : Int32) (v0_faultAt : Int32) (v0_next : Int32) : Option (Int32 × Int64 × Int32 × Int32 × Int32) :=
  if 10 ≤ y1 then
    some (v0_token, v0_name, v0_fault, v0_faultAt, v0_next)
  else
    bd (inb y1 10) <|
    nm (xWords.getD y1.toNatClampNeg 0) fun x4 =>
    nm (lg_cmp x4 v0_name) fun x5 =>
    if x5 = 0 then
      nm (259 + y1) fun x7 =>
      fX4_scanWord_p162 v0_tokenAt v0_size c1 k132 y1 x7 v0_name v0_fault v0_faultAt v0_next
    else
      fX4_scanWord_p162 v0_tokenAt v0_size c1 k132 y1 v0_token v0_name v0_fault v0_faultAt v0_next
noncomputable def fX4_scanWord_l132 (v0_tokenAt : Int32) (v0_size : Int32) (c1 : Nat → Int32) : Nat → Int32 → Int32 → Int64 → Int32 → Int32 → Int32 → Option (Int32 × Int64 × Int32 × Int32 × Int32)
  | 0 => fun _ _ _ _ _ _ => none
  | n + 1 => fX4_scanWord_b132 v0_tokenAt v0_size c1  (fX4_scanWord_l132 v0_tokenAt v0_size c1  n)
noncomputable def fX4_scanWord_p99 (v0_tokenAt : Int32) (v0_size : Int32) (c1 : Nat → Int32) (v0_token : Int32) (v0_name : Int64) (v0_fault : Int32) (v0_faultAt : Int32) (v0_next : Int32) : Option (Int32 × Int64 × Int32 × Int32 × Int32) :=
  nm (v0_next - v0_tokenAt) fun x8 =>
  if x8 ≤ 8 then
    fX4_scanWord_l132 v0_tokenAt v0_size c1 FU 0 258 v0_name v0_fault v0_faultAt v0_next
  else
    ob (fX4_fail 1 v0_tokenAt v0_token v0_fault v0_faultAt) fun o10 =>
    some (o10.1, v0_name, o10.2.1, o10.2.2, v0_next)
noncomputable def fX4_scanWord_p86 (v0_tokenAt : Int32) (v0_size : Int32) (c1 : Nat → Int32) (k5 : Int32 → Int64 → Int32 → Int32 → Int32 → Option (Int32 × Int64 × Int32 × Int32 × Int32)) (v0_token : Int32) (v0_name : Int64) (v0_fault : Int32) (v0_faultAt : Int32) (v0_next : Int32) : Option (Int32 × Int64 × Int32 × Int32 × Int32) :=
  nm (v0_next + 1) fun x11 =>
  k5 v0_token v0_name v0_fault v0_faultAt x11
noncomputable def fX4_scanWord_p46 (v0_tokenAt : Int32) (v0_size : Int32) (c1 : Nat → Int32) (k5 : Int32 → Int64 → Int32 → Int32 → Int32 → Option (Int32 × Int64 × Int32 × Int32 × Int32)) (v0_token : Int32) (v0_name : Int64) (v0_fault : Int32) (v0_faultAt : Int32) (v0_next : Int32) : Option (Int32 × Int64 × Int32 × Int32 × Int32) :=
  nm (v0_next - v0_tokenAt) fun x12 =>
  if 8 ≤ x12 then
    fX4_scanWord_p86 v0_tokenAt v0_size c1 k5 v0_token v0_name v0_fault v0_faultAt v0_next
  else
    bd (inb v0_next 600) <|
    nm (c1 v0_next.toNatClampNeg) fun x15 =>
    nm (x15.toInt64) fun x16 =>
    nm (8 * x12) fun x17 =>
    nm (x16 <<< (x17.toInt64 &&& 63)) fun x18 =>
    nm (v0_name ||| x18) fun x19 =>
    fX4_scanWord_p86 v0_tokenAt v0_size c1 k5 v0_token x19 v0_fault v0_faultAt v0_next
noncomputable def fX4_scanWord_b5 (v0_tokenAt : Int32) (v0_size : Int32) (c1 : Nat → Int32) (k5 : Int32 → Int64 → Int32 → Int32 → Int32 → Option (Int32 × Int64 × Int32 × Int32 × Int32)) (v0_token : Int32) (v0_name : Int64) (v0_fault : Int32) (v0_faultAt : Int32) (v0_next : Int32) : Option (Int32 × Int64 × Int32 × Int32 × Int32) :=
  if v0_size ≤ v0_next then
    fX4_scanWord_p99 v0_tokenAt v0_size c1 v0_token v0_name v0_fault v0_faultAt v0_next
  else
    bd (inb v0_next 600) <|
    nm (c1 v0_next.toNatClampNeg) fun x22 =>
    ob (fX4_isLetter x22) fun o23 =>
    if o23.1 = 0 then
      bd (inb v0_next 600) <|
      nm (c1 v0_next.toNatClampNeg) fun x26 =>
      ob (fX4_isDigit x26) fun o27 =>
      if o27.1 = 0 then
        fX4_scanWord_p99 v0_tokenAt v0_size c1 v0_token v0_name v0_fault v0_faultAt v0_next
      else
        fX4_scanWord_p46 v0_tokenAt v0_size c1 k5 v0_token v0_name v0_fault v0_faultAt v0_next
    else
      fX4_scanWord_p46 v0_tokenAt v0_size c1 k5 v0_token v0_name v0_fault v0_faultAt v0_next
noncomputable def fX4_scanWord_l5 (v0_tokenAt : Int32) (v0_size : Int32) (c1 : Nat → Int32) : Nat → Int32 → Int64 → Int32 → Int32 → Int32 → Option (Int32 × Int64 × Int32 × Int32 × Int32)
  | 0 => fun _ _ _ _ _ => none
  | n + 1 => fX4_scanWord_b5 v0_tokenAt v0_size c1  (fX4_scanWord_l5 v0_tokenAt v0_size c1  n)
noncomputable def fX4_scanWord (v0_token : Int32) (v0_tokenAt : Int32) (v0_name : Int64) (v0_fault : Int32) (v0_faultAt : Int32) (v0_size : Int32) (v0_next : Int32) (c1 : Nat → Int32) : Option (Int32 × Int64 × Int32 × Int32 × Int32) :=
  fX4_scanWord_l5 v0_tokenAt v0_size c1 FU v0_token 0 v0_fault v0_faultAt v0_next
noncomputable def fJ0_isLatin1_aae02_p18  (z0 : Int32) : Option (Int32 × Unit) :=
  bd (bz z0) <|
  some (z0, ())
noncomputable def fJ0_isLatin1_aae02_p17   : Option (Int32 × Unit) :=
  fJ0_isLatin1_aae02_p18 0
noncomputable def fJ0_isLatin1_aae02  : Option (Int32 × Unit) :=
  if (1 : Int32) = 0 then
    fJ0_isLatin1_aae02_p17 
  else
    if (0 : Int32) = 0 then
      fJ0_isLatin1_aae02_p18 1
    else
      fJ0_isLatin1_aae02_p17 
noncomputable def fJ0_coder_7d493_p14  (z0 : Int32) : Option (Int32 × Unit) :=
  bd (bz z0) <|
  some (z0, ())
noncomputable def fJ0_coder_7d493  : Option (Int32 × Unit) :=
  if (1 : Int32) = 0 then
    fJ0_coder_7d493_p14 1
  else
    fJ0_coder_7d493_p14 0
noncomputable def fJ0_length_8abf5  : Option (Int32 × Unit) :=
  ob (fJ0_coder_7d493 ) fun o1 =>
  nm (13 >>> (o1.1 &&& 31)) fun x2 =>
  some (x2, ())
noncomputable def fJ1_canEncode_9a6ad_p16  (z0 : Int32) : Option (Int32 × Unit) :=
  bd (bz z0) <|
  some (z0, ())
noncomputable def fJ1_canEncode_9a6ad_p15   : Option (Int32 × Unit) :=
  fJ1_canEncode_9a6ad_p16 0
noncomputable def fJ1_canEncode_9a6ad (a0 : Int32) : Option (Int32 × Unit) :=
  if a0 < 0 then
    fJ1_canEncode_9a6ad_p15 
  else
    if 255 < a0 then
      fJ1_canEncode_9a6ad_p15 
    else
      fJ1_canEncode_9a6ad_p16 1
noncomputable def fJ1_indexOfChar_4cfef_b7  (k7 : Int32 → Int32 → Int32 → Option (Int32 × Unit)) (y3 : Int32) (y4 : Int32) (y5 : Int32) : Option (Int32 × Unit) :=
  if y3 ≤ y5 then
    some ((-1), ())
  else
    bd (inb y5 13) <|
    nm (xMarks.getD y5.toNatClampNeg 0) fun x3 =>
    if x3 = y4 then
      some (y5, ())
    else
      nm (y5 + 1) fun x5 =>
      k7 y3 y4 x5
noncomputable def fJ1_indexOfChar_4cfef_l7  : Nat → Int32 → Int32 → Int32 → Option (Int32 × Unit)
  | 0 => fun _ _ _ => none
  | n + 1 => fJ1_indexOfChar_4cfef_b7   (fJ1_indexOfChar_4cfef_l7   n)
noncomputable def fJ1_indexOfChar_4cfef (a1 : Int32) (a2 : Int32) (a3 : Int32) : Option (Int32 × Unit) :=
  nm (a1.toInt8.toInt32) fun x6 =>
  fJ1_indexOfChar_4cfef_l7 FU a3 x6 a2
noncomputable def fJ1_indexOf_4cfef (a1 : Int32) (a2 : Int32) (a3 : Int32) : Option (Int32 × Unit) :=
  ob (fJ1_canEncode_9a6ad a1) fun o1 =>
  if o1.1 = 0 then
    some ((-1), ())
  else
    nm (if a2 < 0 then 0 else a2) fun x3 =>
    nm (if 13 < a3 then 13 else a3) fun x4 =>
    if x3 < x4 then
      ob (fJ1_indexOfChar_4cfef a1 x3 x4) fun o6 =>
      some (o6.1, ())
    else
      some ((-1), ())
noncomputable def fJ0_indexOf_7cf53 (a0 : Int32) (a1 : Int32) : Option (Int32 × Unit) :=
  ob (fJ0_isLatin1_aae02 ) fun o1 =>
  if o1.1 = 0 then
    none
  else
    ob (fJ0_length_8abf5 ) fun o3 =>
    ob (fJ1_indexOf_4cfef a0 a1 o3.1) fun o4 =>
    some (o4.1, ())
noncomputable def fJ0_indexOf_0f7a4 (a0 : Int32) : Option (Int32 × Unit) :=
  ob (fJ0_indexOf_7cf53 a0 0) fun o1 =>
  some (o1.1, ())
noncomputable def fX4_advance_p152 (v0_size : Int32) (c1 : Nat → Int32) (v0_token : Int32) (v0_tokenAt : Int32) (v0_name : Int64) (v0_fault : Int32) (v0_faultAt : Int32) (v0_next : Int32) : Option (Int32 × Int32 × Int64 × Int32 × Int32 × Int32) :=
  some (v0_token, v0_tokenAt, v0_name, v0_fault, v0_faultAt, v0_next)
noncomputable def fX4_advance_p60 (v0_size : Int32) (c1 : Nat → Int32) (v0_token : Int32) (v0_tokenAt : Int32) (v0_name : Int64) (v0_fault : Int32) (v0_faultAt : Int32) (v0_next : Int32) : Option (Int32 × Int32 × Int64 × Int32 × Int32 × Int32) :=
  if v0_next < v0_size then
    bd (inb v0_next 600) <|
    nm (c1 v0_next.toNatClampNeg) fun x3 =>
    nm (x3 &&& 255) fun x4 =>
    ob (fX4_isLetter x4) fun o5 =>
    if o5.1 = 0 then
      nm ((x4.toUInt32 % 65536).toInt32) fun x7 =>
      ob (fJ0_indexOf_0f7a4 x7) fun o8 =>
      if o8.1 < 0 then
        ob (fX4_fail 1 v0_next v0_token v0_fault v0_faultAt) fun o10 =>
        fX4_advance_p152 v0_size c1 o10.1 v0_next v0_name o10.2.1 o10.2.2 v0_next
      else
        nm (v0_next + 1) fun x11 =>
        fX4_advance_p152 v0_size c1 x4 v0_next v0_name v0_fault v0_faultAt x11
    else
      ob (fX4_scanWord v0_token v0_next v0_name v0_fault v0_faultAt v0_size v0_next c1) fun o12 =>
      fX4_advance_p152 v0_size c1 o12.1 v0_next o12.2.1 o12.2.2.1 o12.2.2.2.1 o12.2.2.2.2
  else
    some (256, v0_next, v0_name, v0_fault, v0_faultAt, v0_next)
noncomputable def fX4_advance_p47 (v0_size : Int32) (c1 : Nat → Int32) (k8 : Int32 → Int32 → Int64 → Int32 → Int32 → Int32 → Option (Int32 × Int32 × Int64 × Int32 × Int32 × Int32)) (v0_token : Int32) (v0_tokenAt : Int32) (v0_name : Int64) (v0_fault : Int32) (v0_faultAt : Int32) (v0_next : Int32) : Option (Int32 × Int32 × Int64 × Int32 × Int32 × Int32) :=
  nm (v0_next + 1) fun x13 =>
  k8 v0_token v0_tokenAt v0_name v0_fault v0_faultAt x13
noncomputable def fX4_advance_b8 (v0_size : Int32) (c1 : Nat → Int32) (k8 : Int32 → Int32 → Int64 → Int32 → Int32 → Int32 → Option (Int32 × Int32 × Int64 × Int32 × Int32 × Int32)) (v0_token : Int32) (v0_tokenAt : Int32) (v0_name : Int64) (v0_fault : Int32) (v0_faultAt : Int32) (v0_next : Int32) : Option (Int32 × Int32 × Int64 × Int32 × Int32 × Int32) :=
  if v0_size ≤ v0_next then
    fX4_advance_p60 v0_size c1 v0_token v0_tokenAt v0_name v0_fault v0_faultAt v0_next
  else
    bd (inb v0_next 600) <|
    nm (c1 v0_next.toNatClampNeg) fun x16 =>
    if x16 = 32 then
      fX4_advance_p47 v0_size c1 k8 v0_token v0_tokenAt v0_name v0_fault v0_faultAt v0_next
    else
      bd (inb v0_next 600) <|
      nm (c1 v0_next.toNatClampNeg) fun x19 =>
      if x19 = 10 then
        fX4_advance_p47 v0_size c1 k8 v0_token v0_tokenAt v0_name v0_fault v0_faultAt v0_next
      else
        fX4_advance_p60 v0_size c1 v0_token v0_tokenAt v0_name v0_fault v0_faultAt v0_next
noncomputable def fX4_advance_l8 (v0_size : Int32) (c1 : Nat → Int32) : Nat → Int32 → Int32 → Int64 → Int32 → Int32 → Int32 → Option (Int32 × Int32 × Int64 × Int32 × Int32 × Int32)
  | 0 => fun _ _ _ _ _ _ => none
  | n + 1 => fX4_advance_b8 v0_size c1  (fX4_advance_l8 v0_size c1  n)
noncomputable def fX4_advance (v0_token : Int32) (v0_tokenAt : Int32) (v0_name : Int64) (v0_fault : Int32) (v0_faultAt : Int32) (v0_size : Int32) (v0_next : Int32) (c1 : Nat → Int32) : Option (Int32 × Int32 × Int64 × Int32 × Int32 × Int32) :=
  if v0_fault = 0 then
    fX4_advance_l8 v0_size c1 FU v0_token v0_tokenAt v0_name v0_fault v0_faultAt v0_next
  else
    some (v0_token, v0_tokenAt, v0_name, v0_fault, v0_faultAt, v0_next)
noncomputable def fX4_begin (v0_token : Int32) (v0_tokenAt : Int32) (v0_name : Int64) (v0_fault : Int32) (v0_faultAt : Int32) (v0_size : Int32) (v0_next : Int32) (c1 : Nat → Int32) : Option (Int32 × Int32 × Int64 × Int32 × Int32 × Int32) :=
  ob (fX4_advance v0_token v0_tokenAt v0_name 0 v0_faultAt v0_size 0 c1) fun o1 =>
  some (o1.1, o1.2.1, o1.2.2.1, o1.2.2.2.1, o1.2.2.2.2.1, o1.2.2.2.2.2)
noncomputable def fX4_emptyText (v0_size : Int32) : Option (Int32) :=
  some 0
noncomputable def fX4_failHere (a0 : Int32) (v0_token : Int32) (v0_tokenAt : Int32) (v0_fault : Int32) (v0_faultAt : Int32) : Option (Int32 × Int32 × Int32) :=
  ob (fX4_fail a0 v0_tokenAt v0_token v0_fault v0_faultAt) fun o1 =>
  some (o1.1, o1.2.1, o1.2.2)
noncomputable def fX4_skipToken (a0 : Int32) (v0_token : Int32) (v0_tokenAt : Int32) (v0_name : Int64) (v0_fault : Int32) (v0_faultAt : Int32) (v0_size : Int32) (v0_next : Int32) (c1 : Nat → Int32) : Option (Int32 × Int32 × Int32 × Int64 × Int32 × Int32 × Int32) :=
  if v0_token = a0 then
    ob (fX4_advance v0_token v0_tokenAt v0_name v0_fault v0_faultAt v0_size v0_next c1) fun o2 =>
    some (1, (o2.1, o2.2.1, o2.2.2.1, o2.2.2.2.1, o2.2.2.2.2.1, o2.2.2.2.2.2))
  else
    ob (fX4_failHere 2 v0_token v0_tokenAt v0_fault v0_faultAt) fun o3 =>
    some (0, (o3.1, v0_tokenAt, v0_name, o3.2.1, o3.2.2, v0_next))
noncomputable def fX3_aboutStatement_p12 (v0_statements : Int32) (c1 : Nat → Int32) (c2 : Nat → Int32) (c3 : Nat → Int32)  : Option (Int32 × Unit) :=
  some ((-2), ())
noncomputable def fX3_aboutStatement (a0 : Int32) (a1 : Int32) (v0_statements : Int32) (c1 : Nat → Int32) (c2 : Nat → Int32) (c3 : Nat → Int32) : Option (Int32 × Unit) :=
  if a1 < 0 then
    fX3_aboutStatement_p12 v0_statements c1 c2 c3 
  else
    if a1 < v0_statements then
      if a0 = 3 then
        bd (inb a1 40) <|
        nm (c3 a1.toNatClampNeg) fun x5 =>
        some (x5, ())
      else if a0 = 4 then
        bd (inb a1 40) <|
        nm (c2 a1.toNatClampNeg) fun x8 =>
        some (x8, ())
      else if a0 = 5 then
        bd (inb a1 40) <|
        nm (c1 a1.toNatClampNeg) fun x11 =>
        some (x11, ())
      else 
        some ((-2), ())
    else
      fX3_aboutStatement_p12 v0_statements c1 c2 c3 
noncomputable def fX3_addStatement (a0 : Int32) (a1 : Int32) (a2 : Int32) (v0_procedures : Int32) (v0_statements : Int32) (c1 : Nat → Int32) (c2 : Nat → Int32) (c3 : Nat → Int32) (c4 : Nat → Int64) (c5 : Nat → Int32) (c6 : Nat → Int32) (c7 : Nat → Int32) (c8 : Nat → Int32) (c9 : Nat → Int32) (c10 : Nat → Int32) : Option (Int32 × Int32 × (Nat → Int32) × (Nat → Int32) × (Nat → Int32) × (Nat → Int64) × (Nat → Int32) × (Nat → Int32) × (Nat → Int32) × (Nat → Int32) × (Nat → Int32) × (Nat → Int32)) :=
  if v0_statements < 40 then
    bd (inb v0_statements 40) <|
    nm (upd c1 v0_statements.toNatClampNeg a0) fun c2x =>
    bd (inb v0_statements 40) <|
    nm (upd c2 v0_statements.toNatClampNeg a1) fun c3x =>
    nm (v0_procedures - 1) fun x4 =>
    bd (inb v0_statements 40) <|
    nm (upd c3 v0_statements.toNatClampNeg x4) fun c5x =>
    bd (inb v0_statements 40) <|
    nm (vp_updL c4 v0_statements.toNatClampNeg (-4294967296)) fun c6x =>
    bd (inb v0_statements 40) <|
    nm (upd c5 v0_statements.toNatClampNeg 0) fun c7x =>
    bd (inb v0_statements 40) <|
    nm (upd c6 v0_statements.toNatClampNeg 0) fun c8x =>
    bd (inb v0_statements 40) <|
    nm (upd c7 v0_statements.toNatClampNeg a2) fun c9x =>
    bd (inb v0_statements 40) <|
    nm (upd c8 v0_statements.toNatClampNeg (-1)) fun c10x =>
    bd (inb v0_statements 40) <|
    nm (upd c9 v0_statements.toNatClampNeg (-1)) fun c11x =>
    bd (inb v0_statements 40) <|
    nm (upd c10 v0_statements.toNatClampNeg (-1)) fun c12x =>
    nm (v0_statements + 1) fun x13 =>
    some (v0_statements, (x13, c2x, c3x, c5x, c6x, c7x, c8x, c9x, c10x, c11x, c12x))
  else
    some ((-1), (v0_statements, c1, c2, c3, c4, c5, c6, c7, c8, c9, c10))
noncomputable def fX3_firstPoint_p17 (v0_procedures : Int32) (c1 : Nat → Int32) (z0 : Int32) : Option (Int32 × Unit) :=
  some (z0, ())
noncomputable def fX3_firstPoint (v0_procedures : Int32) (c1 : Nat → Int32) : Option (Int32 × Unit) :=
  if v0_procedures ≤ 0 then
    fX3_firstPoint_p17 v0_procedures c1 (-1)
  else
    bd (inb 0 6) <|
    nm (c1 (0 : Int32).toNatClampNeg) fun x3 =>
    fX3_firstPoint_p17 v0_procedures c1 x3
noncomputable def fX3_pointBehind_p51 (c1 : Nat → Int32) (c2 : Nat → Int32) (c3 : Nat → Int32) (c4 : Nat → Int32) (z0 : Int32) : Option (Int32 × Unit) :=
  some (z0, ())
noncomputable def fX3_pointBehind (a0 : Int32) (c1 : Nat → Int32) (c2 : Nat → Int32) (c3 : Nat → Int32) (c4 : Nat → Int32) : Option (Int32 × Unit) :=
  bd (inb a0 40) <|
  nm (c1 a0.toNatClampNeg) fun x2 =>
  if x2 = (-1) then
    bd (inb a0 40) <|
    nm (c2 a0.toNatClampNeg) fun x5 =>
    if x5 = (-1) then
      some ((-1), ())
    else
      bd (inb x5 40) <|
      nm (c3 x5.toNatClampNeg) fun x8 =>
      if x8 = 2 then
        fX3_pointBehind_p51 c1 c2 c3 c4 x5
      else
        bd (inb x5 40) <|
        nm (c4 x5.toNatClampNeg) fun x11 =>
        fX3_pointBehind_p51 c1 c2 c3 c4 x11
  else
    bd (inb a0 40) <|
    nm (c1 a0.toNatClampNeg) fun x13 =>
    some (x13, ())
noncomputable def fX3_link_p213 (v0_statements : Int32) (c1 : Nat → Int32) (c2 : Nat → Int32) (c3 : Nat → Int32) (c7 : Nat → Int32) (c8 : Nat → Int32) (k2 : Int32 → (Nat → Int32) → (Nat → Int32) → (Nat → Int32) → Option ((Nat → Int32) × (Nat → Int32) × (Nat → Int32))) (y1 : Int32) (c4 : (Nat → Int32)) (c5 : (Nat → Int32)) (c6 : (Nat → Int32)) : Option ((Nat → Int32) × (Nat → Int32) × (Nat → Int32)) :=
  nm (y1 + 1) fun x1 =>
  k2 x1 c4 c5 c6
noncomputable def fX3_link_p170 (v0_statements : Int32) (c1 : Nat → Int32) (c2 : Nat → Int32) (c3 : Nat → Int32) (c7 : Nat → Int32) (c8 : Nat → Int32) (k2 : Int32 → (Nat → Int32) → (Nat → Int32) → (Nat → Int32) → Option ((Nat → Int32) × (Nat → Int32) × (Nat → Int32))) (y1 : Int32) (z0 : Int32) (z1 : Int32) (c4 : (Nat → Int32)) (c5 : (Nat → Int32)) (c6 : (Nat → Int32)) : Option ((Nat → Int32) × (Nat → Int32) × (Nat → Int32)) :=
  bd (inb z1 40) <|
  nm (upd c5 z1.toNatClampNeg z0) fun c2x =>
  fX3_link_p213 v0_statements c1 c2 c3 c7 c8 k2 y1 c4 c2x c6
noncomputable def fX3_link_p131 (v0_statements : Int32) (c1 : Nat → Int32) (c2 : Nat → Int32) (c3 : Nat → Int32) (c7 : Nat → Int32) (c8 : Nat → Int32) (k2 : Int32 → (Nat → Int32) → (Nat → Int32) → (Nat → Int32) → Option ((Nat → Int32) × (Nat → Int32) × (Nat → Int32))) (y1 : Int32) (z0 : Int32) (z1 : Int32) (c4 : (Nat → Int32)) (c5 : (Nat → Int32)) (c6 : (Nat → Int32)) : Option ((Nat → Int32) × (Nat → Int32) × (Nat → Int32)) :=
  bd (inb z1 40) <|
  nm (upd c6 z1.toNatClampNeg z0) fun c3x =>
  fX3_link_p213 v0_statements c1 c2 c3 c7 c8 k2 y1 c4 c5 c3x
noncomputable def fX3_link_p100 (v0_statements : Int32) (c1 : Nat → Int32) (c2 : Nat → Int32) (c3 : Nat → Int32) (c7 : Nat → Int32) (c8 : Nat → Int32) (k2 : Int32 → (Nat → Int32) → (Nat → Int32) → (Nat → Int32) → Option ((Nat → Int32) × (Nat → Int32) × (Nat → Int32))) (y1 : Int32) (z0 : Int32) (z1 : Int32) (c4 : (Nat → Int32)) (c5 : (Nat → Int32)) (c6 : (Nat → Int32)) : Option ((Nat → Int32) × (Nat → Int32) × (Nat → Int32)) :=
  bd (inb z1 40) <|
  nm (upd c5 z1.toNatClampNeg z0) fun c4x =>
  bd (inb y1 40) <|
  nm (c8 y1.toNatClampNeg) fun x6 =>
  if x6 = (-1) then
    bd (inb y1 40) <|
    nm (c4 y1.toNatClampNeg) fun x11 =>
    fX3_link_p131 v0_statements c1 c2 c3 c7 c8 k2 y1 x11 y1 c4 c4x c6
  else
    bd (inb y1 40) <|
    nm (c8 y1.toNatClampNeg) fun x9 =>
    fX3_link_p131 v0_statements c1 c2 c3 c7 c8 k2 y1 x9 y1 c4 c4x c6
noncomputable def fX3_link_p47 (v0_statements : Int32) (c1 : Nat → Int32) (c2 : Nat → Int32) (c3 : Nat → Int32) (c7 : Nat → Int32) (c8 : Nat → Int32) (k2 : Int32 → (Nat → Int32) → (Nat → Int32) → (Nat → Int32) → Option ((Nat → Int32) × (Nat → Int32) × (Nat → Int32))) (y1 : Int32) (z0 : Int32) (z1 : Int32) (c4 : (Nat → Int32)) (c5 : (Nat → Int32)) (c6 : (Nat → Int32)) : Option ((Nat → Int32) × (Nat → Int32) × (Nat → Int32)) :=
  bd (inb z1 40) <|
  nm (upd c5 z1.toNatClampNeg z0) fun c12x =>
  bd (inb y1 40) <|
  nm (c4 y1.toNatClampNeg) fun x14 =>
  bd (inb y1 40) <|
  nm (upd c6 y1.toNatClampNeg x14) fun c15x =>
  bd (inb y1 40) <|
  nm (c3 y1.toNatClampNeg) fun x17 =>
  if x17 = 1 then
    bd (inb y1 40) <|
    nm (c7 y1.toNatClampNeg) fun x36 =>
    if x36 = (-1) then
      bd (inb y1 40) <|
      nm (c4 y1.toNatClampNeg) fun x41 =>
      fX3_link_p100 v0_statements c1 c2 c3 c7 c8 k2 y1 x41 y1 c4 c12x c15x
    else
      bd (inb y1 40) <|
      nm (c7 y1.toNatClampNeg) fun x39 =>
      fX3_link_p100 v0_statements c1 c2 c3 c7 c8 k2 y1 x39 y1 c4 c12x c15x
  else
    bd (inb y1 40) <|
    nm (c3 y1.toNatClampNeg) fun x20 =>
    if x20 = 2 then
      bd (inb y1 40) <|
      nm (c7 y1.toNatClampNeg) fun x31 =>
      if x31 = (-1) then
        fX3_link_p170 v0_statements c1 c2 c3 c7 c8 k2 y1 y1 y1 c4 c12x c15x
      else
        bd (inb y1 40) <|
        nm (c7 y1.toNatClampNeg) fun x34 =>
        fX3_link_p170 v0_statements c1 c2 c3 c7 c8 k2 y1 x34 y1 c4 c12x c15x
    else
      bd (inb y1 40) <|
      nm (c3 y1.toNatClampNeg) fun x23 =>
      if x23 = 4 then
        bd (inb y1 40) <|
        nm (upd c15x y1.toNatClampNeg (-2)) fun c29x =>
        fX3_link_p213 v0_statements c1 c2 c3 c7 c8 k2 y1 c4 c12x c29x
      else
        bd (inb y1 40) <|
        nm (c3 y1.toNatClampNeg) fun x26 =>
        if x26 = 5 then
          bd (inb y1 40) <|
          nm (upd c15x y1.toNatClampNeg (-3)) fun c28x =>
          fX3_link_p213 v0_statements c1 c2 c3 c7 c8 k2 y1 c4 c12x c28x
        else
          fX3_link_p213 v0_statements c1 c2 c3 c7 c8 k2 y1 c4 c12x c15x
noncomputable def fX3_link_b2 (v0_statements : Int32) (c1 : Nat → Int32) (c2 : Nat → Int32) (c3 : Nat → Int32) (c7 : Nat → Int32) (c8 : Nat → Int32) (k2 : Int32 → (Nat → Int32) → (Nat → Int32) → (Nat → Int32) → Option ((Nat → Int32) × (Nat → Int32) × (Nat → Int32))) (y1 : Int32) (c4 : (Nat → Int32)) (c5 : (Nat → Int32)) (c6 : (Nat → Int32)) : Option ((Nat → Int32) × (Nat → Int32) × (Nat → Int32)) :=
  if v0_statements ≤ y1 then
    some (c4, c5, c6)
  else
    ob (fX3_pointBehind y1 c1 c2 c3 c4) fun o43 =>
    bd (inb y1 40) <|
    nm (upd c4 y1.toNatClampNeg o43.1) fun c44x =>
    bd (inb y1 40) <|
    nm (c3 y1.toNatClampNeg) fun x46 =>
    if x46 = 6 then
      fX3_link_p47 v0_statements c1 c2 c3 c7 c8 k2 y1 (-1) y1 c44x c5 c6
    else
      bd (inb y1 40) <|
      nm (c44x y1.toNatClampNeg) fun x49 =>
      fX3_link_p47 v0_statements c1 c2 c3 c7 c8 k2 y1 x49 y1 c44x c5 c6
noncomputable def fX3_link_l2 (v0_statements : Int32) (c1 : Nat → Int32) (c2 : Nat → Int32) (c3 : Nat → Int32) (c7 : Nat → Int32) (c8 : Nat → Int32) : Nat → Int32 → (Nat → Int32) → (Nat → Int32) → (Nat → Int32) → Option ((Nat → Int32) × (Nat → Int32) × (Nat → Int32))
  | 0 => fun _ _ _ _ => none
  | n + 1 => fX3_link_b2 v0_statements c1 c2 c3 c7 c8  (fX3_link_l2 v0_statements c1 c2 c3 c7 c8  n)
noncomputable def fX3_link (v0_statements : Int32) (c1 : Nat → Int32) (c2 : Nat → Int32) (c3 : Nat → Int32) (c4 : Nat → Int32) (c5 : Nat → Int32) (c6 : Nat → Int32) (c7 : Nat → Int32) (c8 : Nat → Int32) : Option ((Nat → Int32) × (Nat → Int32) × (Nat → Int32)) :=
  fX3_link_l2 v0_statements c1 c2 c3 c7 c8 FU 0 c4 c5 c6
noncomputable def fX3_pointAfter_p19 (c1 : Nat → Int32) (c2 : Nat → Int32) (z0 : Int32) : Option (Int32 × Unit) :=
  some (z0, ())
noncomputable def fX3_pointAfter (a0 : Int32) (a1 : Int32) (c1 : Nat → Int32) (c2 : Nat → Int32) : Option (Int32 × Unit) :=
  if a1 = 0 then
    bd (inb a0 40) <|
    nm (c1 a0.toNatClampNeg) fun x5 =>
    fX3_pointAfter_p19 c1 c2 x5
  else
    bd (inb a0 40) <|
    nm (c2 a0.toNatClampNeg) fun x3 =>
    fX3_pointAfter_p19 c1 c2 x3
noncomputable def fX3_removeAll (v0_isThere : Int32) (v0_globals : Int32) (v0_procedures : Int32) (v0_statements : Int32) : Option (Int32 × Int32 × Int32 × Int32) :=
  some (0, 0, 0, 0)
noncomputable def fX3_settingAfter_p38 (c1 : Nat → Int32) (c2 : Nat → Int32) (z0 : Int32) : Option (Int32 × Unit) :=
  some (z0, ())
noncomputable def fX3_settingAfter (a0 : Int32) (a1 : Int32) (a2 : Int32) (c1 : Nat → Int32) (c2 : Nat → Int32) : Option (Int32 × Unit) :=
  bd (inb a0 40) <|
  nm (c1 a0.toNatClampNeg) fun x2 =>
  if x2 = 0 then
    bd (inb a0 40) <|
    nm (c2 a0.toNatClampNeg) fun x5 =>
    nm (1 <<< (x5 &&& 31)) fun x6 =>
    if a2 = 0 then
      nm (x6 ^^^ (-1)) fun x9 =>
      nm (a1 &&& x9) fun x10 =>
      fX3_settingAfter_p38 c1 c2 x10
    else
      nm (a1 ||| x6) fun x8 =>
      fX3_settingAfter_p38 c1 c2 x8
  else
    some (a1, ())
noncomputable def fX3_settingsFor_p22 (c1 : Nat → Int64) (z0 : Int64) : Option (Int32 × Unit) :=
  nm (z0.toInt32) fun x1 =>
  some (x1, ())
noncomputable def fX3_settingsFor (a0 : Int32) (a1 : Int32) (c1 : Nat → Int64) : Option (Int32 × Unit) :=
  if a1 = 0 then
    bd (inb a0 40) <|
    nm (c1 a0.toNatClampNeg) fun x7 =>
    fX3_settingsFor_p22 c1 x7
  else
    bd (inb a0 40) <|
    nm (c1 a0.toNatClampNeg) fun x4 =>
    nm ((x4.toUInt64 >>> ((32 : Int32).toInt64.toUInt64 &&& Int64.toUInt64 63)).toInt64) fun x5 =>
    fX3_settingsFor_p22 c1 x5
noncomputable def fX3_takesValue_p25 (c1 : Nat → Int32) (z0 : Int32) : Option (Int32 × Unit) :=
  bd (bz z0) <|
  some (z0, ())
noncomputable def fX3_takesValue_p24 (c1 : Nat → Int32)  : Option (Int32 × Unit) :=
  fX3_takesValue_p25 c1 0
noncomputable def fX3_takesValue (a0 : Int32) (c1 : Nat → Int32) : Option (Int32 × Unit) :=
  bd (inb a0 40) <|
  nm (c1 a0.toNatClampNeg) fun x3 =>
  if x3 = 3 then
    fX3_takesValue_p24 c1 
  else
    bd (inb a0 40) <|
    nm (c1 a0.toNatClampNeg) fun x6 =>
    if 5 < x6 then
      fX3_takesValue_p24 c1 
    else
      fX3_takesValue_p25 c1 1
noncomputable def fX2_beginsStatement_p44 (v1_token : Int32) (z0 : Int32) : Option (Int32 × Unit) :=
  bd (bz z0) <|
  some (z0, ())
noncomputable def fX2_beginsStatement_p39 (v1_token : Int32)  : Option (Int32 × Unit) :=
  fX2_beginsStatement_p44 v1_token 1
noncomputable def fX2_beginsStatement_p43 (v1_token : Int32)  : Option (Int32 × Unit) :=
  fX2_beginsStatement_p44 v1_token 0
noncomputable def fX2_beginsStatement (v1_token : Int32) : Option (Int32 × Unit) :=
  if v1_token = 258 then
    fX2_beginsStatement_p39 v1_token 
  else
    if v1_token < 262 then
      fX2_beginsStatement_p43 v1_token 
    else
      if 268 < v1_token then
        fX2_beginsStatement_p43 v1_token 
      else
        fX2_beginsStatement_p39 v1_token 
noncomputable def fX2_findProcedure_b2 (v1_procedures : Int32) (c2 : Nat → Int64) (k2 : Int64 → Int32 → Option (Int32 × Unit)) (y1 : Int64) (y3 : Int32) : Option (Int32 × Unit) :=
  if v1_procedures ≤ y3 then
    some ((-1), ())
  else
    bd (inb y3 6) <|
    nm (c2 y3.toNatClampNeg) fun x3 =>
    nm (lg_cmp x3 y1) fun x4 =>
    if x4 = 0 then
      some (y3, ())
    else
      nm (y3 + 1) fun x6 =>
      k2 y1 x6
noncomputable def fX2_findProcedure_l2 (v1_procedures : Int32) (c2 : Nat → Int64) : Nat → Int64 → Int32 → Option (Int32 × Unit)
  | 0 => fun _ _ => none
  | n + 1 => fX2_findProcedure_b2 v1_procedures c2  (fX2_findProcedure_l2 v1_procedures c2  n)
noncomputable def fX2_findProcedure (a0 : Int64) (v1_procedures : Int32) (c2 : Nat → Int64) : Option (Int32 × Unit) :=
  fX2_findProcedure_l2 v1_procedures c2 FU a0 0
noncomputable def fX2_findCalled_p88 (v1_procedures : Int32) (v1_statements : Int32) (c3 : Nat → Int32) (c4 : Nat → Int64) (c5 : Nat → Int64) (c7 : Nat → Int32) (v2_token : Int32) (v2_fault : Int32) (v2_faultAt : Int32) (c6 : (Nat → Int32)) : Option (Int32 × Int32 × Int32 × (Nat → Int32)) :=
  some (v2_token, v2_fault, v2_faultAt, c6)
noncomputable def fX2_findCalled_p82 (v1_procedures : Int32) (v1_statements : Int32) (c3 : Nat → Int32) (c4 : Nat → Int64) (c5 : Nat → Int64) (c7 : Nat → Int32) (k2 : Int32 → Int32 → Int32 → Int32 → (Nat → Int32) → Option (Int32 × Int32 × Int32 × (Nat → Int32))) (y1 : Int32) (v2_token : Int32) (v2_fault : Int32) (v2_faultAt : Int32) (c6 : (Nat → Int32)) : Option (Int32 × Int32 × Int32 × (Nat → Int32)) :=
  nm (y1 + 1) fun x1 =>
  k2 x1 v2_token v2_fault v2_faultAt c6
noncomputable def fX2_findCalled_b2 (v1_procedures : Int32) (v1_statements : Int32) (c3 : Nat → Int32) (c4 : Nat → Int64) (c5 : Nat → Int64) (c7 : Nat → Int32) (k2 : Int32 → Int32 → Int32 → Int32 → (Nat → Int32) → Option (Int32 × Int32 × Int32 × (Nat → Int32))) (y1 : Int32) (v2_token : Int32) (v2_fault : Int32) (v2_faultAt : Int32) (c6 : (Nat → Int32)) : Option (Int32 × Int32 × Int32 × (Nat → Int32)) :=
  if v1_statements ≤ y1 then
    fX2_findCalled_p88 v1_procedures v1_statements c3 c4 c5 c7 v2_token v2_fault v2_faultAt c6
  else
    if v2_fault = 0 then
      bd (inb y1 40) <|
      nm (c3 y1.toNatClampNeg) fun x5 =>
      if x5 = 3 then
        bd (inb y1 40) <|
        nm (c4 y1.toNatClampNeg) fun x8 =>
        ob (fX2_findProcedure x8 v1_procedures c5) fun o9 =>
        bd (inb y1 40) <|
        nm (upd c6 y1.toNatClampNeg o9.1) fun c10x =>
        bd (inb y1 40) <|
        nm (c10x y1.toNatClampNeg) fun x12 =>
        if x12 = (-1) then
          bd (inb y1 40) <|
          nm (c7 y1.toNatClampNeg) fun x15 =>
          ob (fX4_fail 4 x15 v2_token v2_fault v2_faultAt) fun o16 =>
          fX2_findCalled_p82 v1_procedures v1_statements c3 c4 c5 c7 k2 y1 o16.1 o16.2.1 o16.2.2 c10x
        else
          fX2_findCalled_p82 v1_procedures v1_statements c3 c4 c5 c7 k2 y1 v2_token v2_fault v2_faultAt c10x
      else
        fX2_findCalled_p82 v1_procedures v1_statements c3 c4 c5 c7 k2 y1 v2_token v2_fault v2_faultAt c6
    else
      fX2_findCalled_p88 v1_procedures v1_statements c3 c4 c5 c7 v2_token v2_fault v2_faultAt c6
noncomputable def fX2_findCalled_l2 (v1_procedures : Int32) (v1_statements : Int32) (c3 : Nat → Int32) (c4 : Nat → Int64) (c5 : Nat → Int64) (c7 : Nat → Int32) : Nat → Int32 → Int32 → Int32 → Int32 → (Nat → Int32) → Option (Int32 × Int32 × Int32 × (Nat → Int32))
  | 0 => fun _ _ _ _ _ => none
  | n + 1 => fX2_findCalled_b2 v1_procedures v1_statements c3 c4 c5 c7  (fX2_findCalled_l2 v1_procedures v1_statements c3 c4 c5 c7  n)
noncomputable def fX2_findCalled (v1_procedures : Int32) (v1_statements : Int32) (v2_token : Int32) (v2_fault : Int32) (v2_faultAt : Int32) (c3 : Nat → Int32) (c4 : Nat → Int64) (c5 : Nat → Int64) (c6 : Nat → Int32) (c7 : Nat → Int32) : Option (Int32 × Int32 × Int32 × (Nat → Int32)) :=
  fX2_findCalled_l2 v1_procedures v1_statements c3 c4 c5 c7 FU 0 v2_token v2_fault v2_faultAt c6
noncomputable def fX2_findVariable_b34 (v0_locals : Int32) (v1_globals : Int32) (c2 : Nat → Int64) (k34 : Int64 → Int32 → Option (Int32 × Unit)) (y1 : Int64) (y3 : Int32) : Option (Int32 × Unit) :=
  nm (3 + v0_locals) fun x1 =>
  if x1 ≤ y3 then
    some ((-1), ())
  else
    bd (inb y3 5) <|
    nm (c2 y3.toNatClampNeg) fun x4 =>
    nm (lg_cmp x4 y1) fun x5 =>
    if x5 = 0 then
      some (y3, ())
    else
      nm (y3 + 1) fun x7 =>
      k34 y1 x7
noncomputable def fX2_findVariable_l34 (v0_locals : Int32) (v1_globals : Int32) (c2 : Nat → Int64) : Nat → Int64 → Int32 → Option (Int32 × Unit)
  | 0 => fun _ _ => none
  | n + 1 => fX2_findVariable_b34 v0_locals v1_globals c2  (fX2_findVariable_l34 v0_locals v1_globals c2  n)
noncomputable def fX2_findVariable_b2 (v0_locals : Int32) (v1_globals : Int32) (c2 : Nat → Int64) (k2 : Int64 → Int32 → Option (Int32 × Unit)) (y1 : Int64) (y3 : Int32) : Option (Int32 × Unit) :=
  if v1_globals ≤ y3 then
    fX2_findVariable_l34 v0_locals v1_globals c2 FU y1 3
  else
    bd (inb y3 5) <|
    nm (c2 y3.toNatClampNeg) fun x10 =>
    nm (lg_cmp x10 y1) fun x11 =>
    if x11 = 0 then
      some (y3, ())
    else
      nm (y3 + 1) fun x13 =>
      k2 y1 x13
noncomputable def fX2_findVariable_l2 (v0_locals : Int32) (v1_globals : Int32) (c2 : Nat → Int64) : Nat → Int64 → Int32 → Option (Int32 × Unit)
  | 0 => fun _ _ => none
  | n + 1 => fX2_findVariable_b2 v0_locals v1_globals c2  (fX2_findVariable_l2 v0_locals v1_globals c2  n)
noncomputable def fX2_findVariable (a0 : Int64) (v0_locals : Int32) (v1_globals : Int32) (c2 : Nat → Int64) : Option (Int32 × Unit) :=
  fX2_findVariable_l2 v0_locals v1_globals c2 FU a0 0
noncomputable def fX2_readVariableValue (v0_locals : Int32) (v1_token : Int32) (v1_tokenAt : Int32) (v1_name : Int64) (v1_fault : Int32) (v1_faultAt : Int32) (v1_size : Int32) (v1_next : Int32) (v2_globals : Int32) (c3 : Nat → Int64) (c4 : Nat → Int32) : Option (Int64 × Int32 × Int32 × Int64 × Int32 × Int32 × Int32) :=
  ob (fX2_findVariable v1_name v0_locals v2_globals c3) fun o1 =>
  if o1.1 = (-1) then
    ob (fX4_failHere 3 v1_token v1_tokenAt v1_fault v1_faultAt) fun o11 =>
    some (0, (o11.1, v1_tokenAt, v1_name, o11.2.1, o11.2.2, v1_next))
  else
    ob (fX4_advance v1_token v1_tokenAt v1_name v1_fault v1_faultAt v1_size v1_next c4) fun o3 =>
    bd (inb o1.1 5) <|
    nm (xBits.getD o1.1.toNatClampNeg 0) fun x5 =>
    nm (x5.toInt64) fun x6 =>
    nm (x6 <<< ((32 : Int32).toInt64 &&& 63)) fun x7 =>
    nm (x7 ^^^ (-1)) fun x8 =>
    nm ((x8.toUInt64 >>> ((32 : Int32).toInt64.toUInt64 &&& Int64.toUInt64 63)).toInt64) fun x9 =>
    nm (x7 ||| x9) fun x10 =>
    some (x10, (o3.1, o3.2.1, o3.2.2.1, o3.2.2.2.1, o3.2.2.2.2.1, o3.2.2.2.2.2))
noncomputable def fX2_readTerm_o_p67 (kf_X2_readFactor : Int32 → Int32 → Int32 → Int32 → Int64 → Int32 → Int32 → Int32 → Int32 → Int32 → (Nat → Int64) → (Nat → Int32) → Option (Int64 × Int32 × Int32 × Int64 × Int32 × Int32 × Int32)) (v0_locals : Int32) (v1_size : Int32) (v2_globals : Int32) (c3 : Nat → Int64) (c4 : Nat → Int32) (y2 : Int64) (v1_token : Int32) (v1_tokenAt : Int32) (v1_name : Int64) (v1_fault : Int32) (v1_faultAt : Int32) (v1_next : Int32) : Option (Int64 × Int32 × Int32 × Int64 × Int32 × Int32 × Int32) :=
  some (y2, (v1_token, v1_tokenAt, v1_name, v1_fault, v1_faultAt, v1_next))
noncomputable def fX2_readTerm_o_b9 (kf_X2_readFactor : Int32 → Int32 → Int32 → Int32 → Int64 → Int32 → Int32 → Int32 → Int32 → Int32 → (Nat → Int64) → (Nat → Int32) → Option (Int64 × Int32 × Int32 × Int64 × Int32 × Int32 × Int32)) (v0_locals : Int32) (v1_size : Int32) (v2_globals : Int32) (c3 : Nat → Int64) (c4 : Nat → Int32) (k9 : Int32 → Int64 → Int32 → Int32 → Int32 → Int64 → Int32 → Int32 → Int32 → Option (Int64 × Int32 × Int32 × Int64 × Int32 × Int32 × Int32)) (y1 : Int32) (y2 : Int64) (y4 : Int32) (v1_token : Int32) (v1_tokenAt : Int32) (v1_name : Int64) (v1_fault : Int32) (v1_faultAt : Int32) (v1_next : Int32) : Option (Int64 × Int32 × Int32 × Int64 × Int32 × Int32 × Int32) :=
  if 600 ≤ y4 then
    fX2_readTerm_o_p67 kf_X2_readFactor v0_locals v1_size v2_globals c3 c4 y2 v1_token v1_tokenAt v1_name v1_fault v1_faultAt v1_next
  else
    if v1_token = 38 then
      ob (fX4_advance v1_token v1_tokenAt v1_name v1_fault v1_faultAt v1_size v1_next c4) fun o3 =>
      ob (kf_X2_readFactor y1 v0_locals o3.1 o3.2.1 o3.2.2.1 o3.2.2.2.1 o3.2.2.2.2.1 v1_size o3.2.2.2.2.2 v2_globals c3 c4) fun o4 =>
      nm (y2 &&& o4.1) fun x5 =>
      nm (x5 &&& (-4294967296)) fun x6 =>
      nm (y2 ||| o4.1) fun x7 =>
      nm (x7 &&& 4294967295) fun x8 =>
      nm (x6 ||| x8) fun x9 =>
      nm (y4 + 1) fun x10 =>
      k9 y1 x9 x10 o4.2.1 o4.2.2.1 o4.2.2.2.1 o4.2.2.2.2.1 o4.2.2.2.2.2.1 o4.2.2.2.2.2.2
    else
      fX2_readTerm_o_p67 kf_X2_readFactor v0_locals v1_size v2_globals c3 c4 y2 v1_token v1_tokenAt v1_name v1_fault v1_faultAt v1_next
noncomputable def fX2_readTerm_o_l9 (kf_X2_readFactor : Int32 → Int32 → Int32 → Int32 → Int64 → Int32 → Int32 → Int32 → Int32 → Int32 → (Nat → Int64) → (Nat → Int32) → Option (Int64 × Int32 × Int32 × Int64 × Int32 × Int32 × Int32)) (v0_locals : Int32) (v1_size : Int32) (v2_globals : Int32) (c3 : Nat → Int64) (c4 : Nat → Int32) : Nat → Int32 → Int64 → Int32 → Int32 → Int32 → Int64 → Int32 → Int32 → Int32 → Option (Int64 × Int32 × Int32 × Int64 × Int32 × Int32 × Int32)
  | 0 => fun _ _ _ _ _ _ _ _ _ => none
  | n + 1 => fX2_readTerm_o_b9 kf_X2_readFactor v0_locals v1_size v2_globals c3 c4  (fX2_readTerm_o_l9 kf_X2_readFactor v0_locals v1_size v2_globals c3 c4  n)
noncomputable def fX2_readTerm_o (kf_X2_readFactor : Int32 → Int32 → Int32 → Int32 → Int64 → Int32 → Int32 → Int32 → Int32 → Int32 → (Nat → Int64) → (Nat → Int32) → Option (Int64 × Int32 × Int32 × Int64 × Int32 × Int32 × Int32)) (a0 : Int32) (v0_locals : Int32) (v1_token : Int32) (v1_tokenAt : Int32) (v1_name : Int64) (v1_fault : Int32) (v1_faultAt : Int32) (v1_size : Int32) (v1_next : Int32) (v2_globals : Int32) (c3 : Nat → Int64) (c4 : Nat → Int32) : Option (Int64 × Int32 × Int32 × Int64 × Int32 × Int32 × Int32) :=
  ob (kf_X2_readFactor a0 v0_locals v1_token v1_tokenAt v1_name v1_fault v1_faultAt v1_size v1_next v2_globals c3 c4) fun o11 =>
  fX2_readTerm_o_l9 kf_X2_readFactor v0_locals v1_size v2_globals c3 c4 FU a0 o11.1 0 o11.2.1 o11.2.2.1 o11.2.2.2.1 o11.2.2.2.2.1 o11.2.2.2.2.2.1 o11.2.2.2.2.2.2
noncomputable def fX2_readExpression_o_p67 (kf_X2_readTerm : Int32 → Int32 → Int32 → Int32 → Int64 → Int32 → Int32 → Int32 → Int32 → Int32 → (Nat → Int64) → (Nat → Int32) → Option (Int64 × Int32 × Int32 × Int64 × Int32 × Int32 × Int32)) (v0_locals : Int32) (v1_size : Int32) (v2_globals : Int32) (c3 : Nat → Int64) (c4 : Nat → Int32) (y2 : Int64) (v1_token : Int32) (v1_tokenAt : Int32) (v1_name : Int64) (v1_fault : Int32) (v1_faultAt : Int32) (v1_next : Int32) : Option (Int64 × Int32 × Int32 × Int64 × Int32 × Int32 × Int32) :=
  some (y2, (v1_token, v1_tokenAt, v1_name, v1_fault, v1_faultAt, v1_next))
noncomputable def fX2_readExpression_o_b9 (kf_X2_readTerm : Int32 → Int32 → Int32 → Int32 → Int64 → Int32 → Int32 → Int32 → Int32 → Int32 → (Nat → Int64) → (Nat → Int32) → Option (Int64 × Int32 × Int32 × Int64 × Int32 × Int32 × Int32)) (v0_locals : Int32) (v1_size : Int32) (v2_globals : Int32) (c3 : Nat → Int64) (c4 : Nat → Int32) (k9 : Int32 → Int64 → Int32 → Int32 → Int32 → Int64 → Int32 → Int32 → Int32 → Option (Int64 × Int32 × Int32 × Int64 × Int32 × Int32 × Int32)) (y1 : Int32) (y2 : Int64) (y4 : Int32) (v1_token : Int32) (v1_tokenAt : Int32) (v1_name : Int64) (v1_fault : Int32) (v1_faultAt : Int32) (v1_next : Int32) : Option (Int64 × Int32 × Int32 × Int64 × Int32 × Int32 × Int32) :=
  if 600 ≤ y4 then
    fX2_readExpression_o_p67 kf_X2_readTerm v0_locals v1_size v2_globals c3 c4 y2 v1_token v1_tokenAt v1_name v1_fault v1_faultAt v1_next
  else
    if v1_token = 124 then
      ob (fX4_advance v1_token v1_tokenAt v1_name v1_fault v1_faultAt v1_size v1_next c4) fun o3 =>
      ob (kf_X2_readTerm y1 v0_locals o3.1 o3.2.1 o3.2.2.1 o3.2.2.2.1 o3.2.2.2.2.1 v1_size o3.2.2.2.2.2 v2_globals c3 c4) fun o4 =>
      nm (y2 &&& o4.1) fun x5 =>
      nm (x5 &&& 4294967295) fun x6 =>
      nm (y2 ||| o4.1) fun x7 =>
      nm (x7 &&& (-4294967296)) fun x8 =>
      nm (x6 ||| x8) fun x9 =>
      nm (y4 + 1) fun x10 =>
      k9 y1 x9 x10 o4.2.1 o4.2.2.1 o4.2.2.2.1 o4.2.2.2.2.1 o4.2.2.2.2.2.1 o4.2.2.2.2.2.2
    else
      fX2_readExpression_o_p67 kf_X2_readTerm v0_locals v1_size v2_globals c3 c4 y2 v1_token v1_tokenAt v1_name v1_fault v1_faultAt v1_next
noncomputable def fX2_readExpression_o_l9 (kf_X2_readTerm : Int32 → Int32 → Int32 → Int32 → Int64 → Int32 → Int32 → Int32 → Int32 → Int32 → (Nat → Int64) → (Nat → Int32) → Option (Int64 × Int32 × Int32 × Int64 × Int32 × Int32 × Int32)) (v0_locals : Int32) (v1_size : Int32) (v2_globals : Int32) (c3 : Nat → Int64) (c4 : Nat → Int32) : Nat → Int32 → Int64 → Int32 → Int32 → Int32 → Int64 → Int32 → Int32 → Int32 → Option (Int64 × Int32 × Int32 × Int64 × Int32 × Int32 × Int32)
  | 0 => fun _ _ _ _ _ _ _ _ _ => none
  | n + 1 => fX2_readExpression_o_b9 kf_X2_readTerm v0_locals v1_size v2_globals c3 c4  (fX2_readExpression_o_l9 kf_X2_readTerm v0_locals v1_size v2_globals c3 c4  n)
noncomputable def fX2_readExpression_o (kf_X2_readTerm : Int32 → Int32 → Int32 → Int32 → Int64 → Int32 → Int32 → Int32 → Int32 → Int32 → (Nat → Int64) → (Nat → Int32) → Option (Int64 × Int32 × Int32 × Int64 × Int32 × Int32 × Int32)) (a0 : Int32) (v0_locals : Int32) (v1_token : Int32) (v1_tokenAt : Int32) (v1_name : Int64) (v1_fault : Int32) (v1_faultAt : Int32) (v1_size : Int32) (v1_next : Int32) (v2_globals : Int32) (c3 : Nat → Int64) (c4 : Nat → Int32) : Option (Int64 × Int32 × Int32 × Int64 × Int32 × Int32 × Int32) :=
  ob (kf_X2_readTerm a0 v0_locals v1_token v1_tokenAt v1_name v1_fault v1_faultAt v1_size v1_next v2_globals c3 c4) fun o11 =>
  fX2_readExpression_o_l9 kf_X2_readTerm v0_locals v1_size v2_globals c3 c4 FU a0 o11.1 0 o11.2.1 o11.2.2.1 o11.2.2.2.1 o11.2.2.2.2.1 o11.2.2.2.2.2.1 o11.2.2.2.2.2.2
noncomputable def fX2_readNested_o_p33 (kf_X2_readExpression : Int32 → Int32 → Int32 → Int32 → Int64 → Int32 → Int32 → Int32 → Int32 → Int32 → (Nat → Int64) → (Nat → Int32) → Option (Int64 × Int32 × Int32 × Int64 × Int32 × Int32 × Int32)) (kf_X2_readFactor : Int32 → Int32 → Int32 → Int32 → Int64 → Int32 → Int32 → Int32 → Int32 → Int32 → (Nat → Int64) → (Nat → Int32) → Option (Int64 × Int32 × Int32 × Int64 × Int32 × Int32 × Int32)) (v0_locals : Int32) (v1_size : Int32) (c2 : Nat → Int32) (v3_globals : Int32) (c4 : Nat → Int64) (y1 : Int32) (z0 : Int32) (v1_token : Int32) (v1_tokenAt : Int32) (v1_name : Int64) (v1_fault : Int32) (v1_faultAt : Int32) (v1_next : Int32) : Option (Int64 × Int32 × Int32 × Int64 × Int32 × Int32 × Int32) :=
  ob (fX4_advance v1_token v1_tokenAt v1_name v1_fault v1_faultAt v1_size v1_next c2) fun o1 =>
  if z0 = 0 then
    nm (y1 + 1) fun x3 =>
    ob (kf_X2_readExpression x3 v0_locals o1.1 o1.2.1 o1.2.2.1 o1.2.2.2.1 o1.2.2.2.2.1 v1_size o1.2.2.2.2.2 v3_globals c4 c2) fun o4 =>
    ob (fX4_skipToken 41 o4.2.1 o4.2.2.1 o4.2.2.2.1 o4.2.2.2.2.1 o4.2.2.2.2.2.1 v1_size o4.2.2.2.2.2.2 c2) fun o5 =>
    some (o4.1, (o5.2.1, o5.2.2.1, o5.2.2.2.1, o5.2.2.2.2.1, o5.2.2.2.2.2.1, o5.2.2.2.2.2.2))
  else
    nm (y1 + 1) fun x6 =>
    ob (kf_X2_readFactor x6 v0_locals o1.1 o1.2.1 o1.2.2.1 o1.2.2.2.1 o1.2.2.2.2.1 v1_size o1.2.2.2.2.2 v3_globals c4 c2) fun o7 =>
    nm (o7.1 <<< ((32 : Int32).toInt64 &&& 63)) fun x8 =>
    nm ((o7.1.toUInt64 >>> ((32 : Int32).toInt64.toUInt64 &&& Int64.toUInt64 63)).toInt64) fun x9 =>
    nm (x8 ||| x9) fun x10 =>
    some (x10, (o7.2.1, o7.2.2.1, o7.2.2.2.1, o7.2.2.2.2.1, o7.2.2.2.2.2.1, o7.2.2.2.2.2.2))
noncomputable def fX2_readNested_o (kf_X2_readExpression : Int32 → Int32 → Int32 → Int32 → Int64 → Int32 → Int32 → Int32 → Int32 → Int32 → (Nat → Int64) → (Nat → Int32) → Option (Int64 × Int32 × Int32 × Int64 × Int32 × Int32 × Int32)) (kf_X2_readFactor : Int32 → Int32 → Int32 → Int32 → Int64 → Int32 → Int32 → Int32 → Int32 → Int32 → (Nat → Int64) → (Nat → Int32) → Option (Int64 × Int32 × Int32 × Int64 × Int32 × Int32 × Int32)) (a0 : Int32) (v0_locals : Int32) (v1_token : Int32) (v1_tokenAt : Int32) (v1_name : Int64) (v1_fault : Int32) (v1_faultAt : Int32) (v1_size : Int32) (v1_next : Int32) (c2 : Nat → Int32) (v3_globals : Int32) (c4 : Nat → Int64) : Option (Int64 × Int32 × Int32 × Int64 × Int32 × Int32 × Int32) :=
  if a0 < 10 then
    if v1_token = 33 then
      fX2_readNested_o_p33 kf_X2_readExpression kf_X2_readFactor v0_locals v1_size c2 v3_globals c4 a0 1 v1_token v1_tokenAt v1_name v1_fault v1_faultAt v1_next
    else
      fX2_readNested_o_p33 kf_X2_readExpression kf_X2_readFactor v0_locals v1_size c2 v3_globals c4 a0 0 v1_token v1_tokenAt v1_name v1_fault v1_faultAt v1_next
  else
    ob (fX4_failHere 3 v1_token v1_tokenAt v1_fault v1_faultAt) fun o13 =>
    some (0, (o13.1, v1_tokenAt, v1_name, o13.2.1, o13.2.2, v1_next))
noncomputable def fX2_readFactor_o_p102 (kf_X2_readNested : Int32 → Int32 → Int32 → Int32 → Int64 → Int32 → Int32 → Int32 → Int32 → (Nat → Int32) → Int32 → (Nat → Int64) → Option (Int64 × Int32 × Int32 × Int64 × Int32 × Int32 × Int32)) (v0_locals : Int32) (v1_size : Int32) (v2_globals : Int32) (c3 : Nat → Int64) (c4 : Nat → Int32) (y1 : Int32) (v1_token : Int32) (v1_tokenAt : Int32) (v1_name : Int64) (v1_fault : Int32) (v1_faultAt : Int32) (v1_next : Int32) : Option (Int64 × Int32 × Int32 × Int64 × Int32 × Int32 × Int32) :=
  ob (kf_X2_readNested y1 v0_locals v1_token v1_tokenAt v1_name v1_fault v1_faultAt v1_size v1_next c4 v2_globals c3) fun o1 =>
  some (o1.1, (o1.2.1, o1.2.2.1, o1.2.2.2.1, o1.2.2.2.2.1, o1.2.2.2.2.2.1, o1.2.2.2.2.2.2))
noncomputable def fX2_readFactor_o (kf_X2_readNested : Int32 → Int32 → Int32 → Int32 → Int64 → Int32 → Int32 → Int32 → Int32 → (Nat → Int32) → Int32 → (Nat → Int64) → Option (Int64 × Int32 × Int32 × Int64 × Int32 × Int32 × Int32)) (a0 : Int32) (v0_locals : Int32) (v1_token : Int32) (v1_tokenAt : Int32) (v1_name : Int64) (v1_fault : Int32) (v1_faultAt : Int32) (v1_size : Int32) (v1_next : Int32) (v2_globals : Int32) (c3 : Nat → Int64) (c4 : Nat → Int32) : Option (Int64 × Int32 × Int32 × Int64 × Int32 × Int32 × Int32) :=
  if v1_token = 33 then
    fX2_readFactor_o_p102 kf_X2_readNested v0_locals v1_size v2_globals c3 c4 a0 v1_token v1_tokenAt v1_name v1_fault v1_faultAt v1_next
  else if v1_token = 40 then
    fX2_readFactor_o_p102 kf_X2_readNested v0_locals v1_size v2_globals c3 c4 a0 v1_token v1_tokenAt v1_name v1_fault v1_faultAt v1_next
  else if v1_token = 42 then
    ob (fX4_advance v1_token v1_tokenAt v1_name v1_fault v1_faultAt v1_size v1_next c4) fun o5 =>
    some ((-1), (o5.1, o5.2.1, o5.2.2.1, o5.2.2.2.1, o5.2.2.2.2.1, o5.2.2.2.2.2))
  else if v1_token = 48 then
    ob (fX4_advance v1_token v1_tokenAt v1_name v1_fault v1_faultAt v1_size v1_next c4) fun o7 =>
    some (4294967295, (o7.1, o7.2.1, o7.2.2.1, o7.2.2.2.1, o7.2.2.2.2.1, o7.2.2.2.2.2))
  else if v1_token = 49 then
    ob (fX4_advance v1_token v1_tokenAt v1_name v1_fault v1_faultAt v1_size v1_next c4) fun o9 =>
    some ((-4294967296), (o9.1, o9.2.1, o9.2.2.1, o9.2.2.2.1, o9.2.2.2.2.1, o9.2.2.2.2.2))
  else if v1_token = 258 then
    ob (fX2_readVariableValue v0_locals v1_token v1_tokenAt v1_name v1_fault v1_faultAt v1_size v1_next v2_globals c3 c4) fun o11 =>
    some (o11.1, (o11.2.1, o11.2.2.1, o11.2.2.2.1, o11.2.2.2.2.1, o11.2.2.2.2.2.1, o11.2.2.2.2.2.2))
  else 
    ob (fX4_failHere 2 v1_token v1_tokenAt v1_fault v1_faultAt) fun o12 =>
    some (0, (o12.1, v1_tokenAt, v1_name, o12.2.1, o12.2.2, v1_next))
noncomputable def fX2_readFactor_n : Nat → Int32 → Int32 → Int32 → Int32 → Int64 → Int32 → Int32 → Int32 → Int32 → Int32 → (Nat → Int64) → (Nat → Int32) → Option (Int64 × Int32 × Int32 × Int64 × Int32 × Int32 × Int32)
  | 0 => fun _ _ _ _ _ _ _ _ _ _ _ _ => none
  | n + 1 => fX2_readFactor_o (fX2_readNested_o (fX2_readExpression_o (fX2_readTerm_o (fX2_readFactor_n n))) (fX2_readFactor_n n))
theorem fX2_readFactor_n_s (n : Nat) : fX2_readFactor_n (n + 1) = fX2_readFactor_o (fX2_readNested_o (fX2_readExpression_o (fX2_readTerm_o (fX2_readFactor_n n))) (fX2_readFactor_n n)) := by rw [fX2_readFactor_n]
noncomputable def fX2_readExpression : Int32 → Int32 → Int32 → Int32 → Int64 → Int32 → Int32 → Int32 → Int32 → Int32 → (Nat → Int64) → (Nat → Int32) → Option (Int64 × Int32 × Int32 × Int64 × Int32 × Int32 × Int32) := fX2_readExpression_o (fX2_readTerm_o (fX2_readFactor_n 12))
noncomputable def fX2_readAssignment_p69 (v0_locals : Int32) (v1_size : Int32) (v2_globals : Int32) (c3 : Nat → Int64) (c5 : Nat → Int32) (v1_token : Int32) (v1_tokenAt : Int32) (v1_name : Int64) (v1_fault : Int32) (v1_faultAt : Int32) (v1_next : Int32) (c4 : (Nat → Int32)) (c6 : (Nat → Int64)) : Option (Int32 × Int32 × Int64 × Int32 × Int32 × Int32 × (Nat → Int32) × (Nat → Int64)) :=
  some (v1_token, v1_tokenAt, v1_name, v1_fault, v1_faultAt, v1_next, c4, c6)
noncomputable def fX2_readAssignment (a0 : Int32) (v0_locals : Int32) (v1_token : Int32) (v1_tokenAt : Int32) (v1_name : Int64) (v1_fault : Int32) (v1_faultAt : Int32) (v1_size : Int32) (v1_next : Int32) (v2_globals : Int32) (c3 : Nat → Int64) (c4 : Nat → Int32) (c5 : Nat → Int32) (c6 : Nat → Int64) : Option (Int32 × Int32 × Int64 × Int32 × Int32 × Int32 × (Nat → Int32) × (Nat → Int64)) :=
  ob (fX2_findVariable v1_name v0_locals v2_globals c3) fun o1 =>
  if o1.1 = (-1) then
    ob (fX4_failHere 3 v1_token v1_tokenAt v1_fault v1_faultAt) fun o9 =>
    some (o9.1, v1_tokenAt, v1_name, o9.2.1, o9.2.2, v1_next, c4, c6)
  else
    bd (inb a0 40) <|
    nm (upd c4 a0.toNatClampNeg o1.1) fun c3x =>
    ob (fX4_advance v1_token v1_tokenAt v1_name v1_fault v1_faultAt v1_size v1_next c5) fun o4 =>
    ob (fX4_skipToken 61 o4.1 o4.2.1 o4.2.2.1 o4.2.2.2.1 o4.2.2.2.2.1 v1_size o4.2.2.2.2.2 c5) fun o5 =>
    if o5.1 = 0 then
      fX2_readAssignment_p69 v0_locals v1_size v2_globals c3 c5 o5.2.1 o5.2.2.1 o5.2.2.2.1 o5.2.2.2.2.1 o5.2.2.2.2.2.1 o5.2.2.2.2.2.2 c3x c6
    else
      ob (fX2_readExpression 0 v0_locals o5.2.1 o5.2.2.1 o5.2.2.2.1 o5.2.2.2.2.1 o5.2.2.2.2.2.1 v1_size o5.2.2.2.2.2.2 v2_globals c3 c5) fun o7 =>
      bd (inb a0 40) <|
      nm (vp_updL c6 a0.toNatClampNeg o7.1) fun c8x =>
      fX2_readAssignment_p69 v0_locals v1_size v2_globals c3 c5 o7.2.1 o7.2.2.1 o7.2.2.2.1 o7.2.2.2.2.1 o7.2.2.2.2.2.1 o7.2.2.2.2.2.2 c3x c8x
noncomputable def fX2_readOpenBrace_p27 (v1_size : Int32) (c2 : Nat → Int32) (v1_token : Int32) (v1_tokenAt : Int32) (v1_name : Int64) (v1_fault : Int32) (v1_faultAt : Int32) (v1_next : Int32) : Option (Int32 × Int32 × Int64 × Int32 × Int32 × Int32) :=
  ob (fX4_skipToken 123 v1_token v1_tokenAt v1_name v1_fault v1_faultAt v1_size v1_next c2) fun o1 =>
  some (o1.2.1, o1.2.2.1, o1.2.2.2.1, o1.2.2.2.2.1, o1.2.2.2.2.2.1, o1.2.2.2.2.2.2)
noncomputable def fX2_readOpenBrace (a0 : Int32) (v1_token : Int32) (v1_tokenAt : Int32) (v1_name : Int64) (v1_fault : Int32) (v1_faultAt : Int32) (v1_size : Int32) (v1_next : Int32) (c2 : Nat → Int32) : Option (Int32 × Int32 × Int64 × Int32 × Int32 × Int32) :=
  if v1_token = 123 then
    if a0 < 10 then
      fX2_readOpenBrace_p27 v1_size c2 v1_token v1_tokenAt v1_name v1_fault v1_faultAt v1_next
    else
      ob (fX4_failHere 3 v1_token v1_tokenAt v1_fault v1_faultAt) fun o4 =>
      some (o4.1, v1_tokenAt, v1_name, o4.2.1, o4.2.2, v1_next)
  else
    fX2_readOpenBrace_p27 v1_size c2 v1_token v1_tokenAt v1_name v1_fault v1_faultAt v1_next
noncomputable def fX2_readCalled (a0 : Int32) (v1_token : Int32) (v1_tokenAt : Int32) (v1_name : Int64) (v1_fault : Int32) (v1_faultAt : Int32) (v1_size : Int32) (v1_next : Int32) (c2 : Nat → Int64) (c3 : Nat → Int32) (c4 : Nat → Int32) : Option (Int32 × Int32 × Int64 × Int32 × Int32 × Int32 × (Nat → Int64) × (Nat → Int32)) :=
  bd (inb a0 40) <|
  nm (vp_updL c2 a0.toNatClampNeg v1_name) fun c1x =>
  bd (inb a0 40) <|
  nm (upd c3 a0.toNatClampNeg v1_tokenAt) fun c2x =>
  ob (fX4_skipToken 258 v1_token v1_tokenAt v1_name v1_fault v1_faultAt v1_size v1_next c4) fun o3 =>
  some (o3.2.1, o3.2.2.1, o3.2.2.2.1, o3.2.2.2.2.1, o3.2.2.2.2.2.1, o3.2.2.2.2.2.2, c1x, c2x)
noncomputable def fX2_readBlock_o (kf_X2_readStatements : Int32 → Int32 → Int32 → Int32 → Int32 → Int64 → Int32 → Int32 → Int32 → Int32 → Int32 → Int32 → Int32 → (Nat → Int32) → (Nat → Int32) → (Nat → Int32) → (Nat → Int64) → (Nat → Int32) → (Nat → Int32) → (Nat → Int32) → (Nat → Int32) → (Nat → Int32) → (Nat → Int32) → (Nat → Int32) → (Nat → Int64) → (Nat → Int64) → (Nat → Int32) → Option (Int32 × Int32 × Int32 × Int64 × Int32 × Int32 × Int32 × Int32 × (Nat → Int32) × (Nat → Int32) × (Nat → Int32) × (Nat → Int64) × (Nat → Int32) × (Nat → Int32) × (Nat → Int32) × (Nat → Int32) × (Nat → Int32) × (Nat → Int32) × (Nat → Int64) × (Nat → Int32))) (a0 : Int32) (a1 : Int32) (v0_locals : Int32) (v1_token : Int32) (v1_tokenAt : Int32) (v1_name : Int64) (v1_fault : Int32) (v1_faultAt : Int32) (v1_size : Int32) (v1_next : Int32) (c2 : Nat → Int32) (v3_globals : Int32) (v3_procedures : Int32) (v3_statements : Int32) (c4 : Nat → Int32) (c5 : Nat → Int32) (c6 : Nat → Int32) (c7 : Nat → Int64) (c8 : Nat → Int32) (c9 : Nat → Int32) (c10 : Nat → Int32) (c11 : Nat → Int32) (c12 : Nat → Int32) (c13 : Nat → Int32) (c14 : Nat → Int64) (c15 : Nat → Int64) (c16 : Nat → Int32) : Option (Int32 × Int32 × Int32 × Int64 × Int32 × Int32 × Int32 × Int32 × (Nat → Int32) × (Nat → Int32) × (Nat → Int32) × (Nat → Int64) × (Nat → Int32) × (Nat → Int32) × (Nat → Int32) × (Nat → Int32) × (Nat → Int32) × (Nat → Int32) × (Nat → Int64) × (Nat → Int32)) :=
  ob (fX2_readOpenBrace a1 v1_token v1_tokenAt v1_name v1_fault v1_faultAt v1_size v1_next c2) fun o1 =>
  if a1 < 10 then
    nm (a1 + 1) fun x3 =>
    ob (kf_X2_readStatements a0 x3 v0_locals o1.1 o1.2.1 o1.2.2.1 o1.2.2.2.1 o1.2.2.2.2.1 v1_size o1.2.2.2.2.2 v3_globals v3_procedures v3_statements c4 c5 c6 c7 c8 c9 c10 c11 c12 c13 c2 c14 c15 c16) fun o4 =>
    ob (fX4_skipToken 125 o4.2.1 o4.2.2.1 o4.2.2.2.1 o4.2.2.2.2.1 o4.2.2.2.2.2.1 v1_size o4.2.2.2.2.2.2.1 c2) fun o5 =>
    some (o4.1, (o5.2.1, o5.2.2.1, o5.2.2.2.1, o5.2.2.2.2.1, o5.2.2.2.2.2.1, o5.2.2.2.2.2.2, o4.2.2.2.2.2.2.2.1, o4.2.2.2.2.2.2.2.2.1, o4.2.2.2.2.2.2.2.2.2.1, o4.2.2.2.2.2.2.2.2.2.2.1, o4.2.2.2.2.2.2.2.2.2.2.2.1, o4.2.2.2.2.2.2.2.2.2.2.2.2.1, o4.2.2.2.2.2.2.2.2.2.2.2.2.2.1, o4.2.2.2.2.2.2.2.2.2.2.2.2.2.2.1, o4.2.2.2.2.2.2.2.2.2.2.2.2.2.2.2.1, o4.2.2.2.2.2.2.2.2.2.2.2.2.2.2.2.2.1, o4.2.2.2.2.2.2.2.2.2.2.2.2.2.2.2.2.2.1, o4.2.2.2.2.2.2.2.2.2.2.2.2.2.2.2.2.2.2.1, o4.2.2.2.2.2.2.2.2.2.2.2.2.2.2.2.2.2.2.2))
  else
    some ((-1), (o1.1, o1.2.1, o1.2.2.1, o1.2.2.2.1, o1.2.2.2.2.1, o1.2.2.2.2.2, v3_statements, c4, c5, c6, c7, c8, c9, c10, c11, c12, c13, c15, c16))
noncomputable def fX2_readBranch_o_p84 (kf_X2_readBlock : Int32 → Int32 → Int32 → Int32 → Int32 → Int64 → Int32 → Int32 → Int32 → Int32 → (Nat → Int32) → Int32 → Int32 → Int32 → (Nat → Int32) → (Nat → Int32) → (Nat → Int32) → (Nat → Int64) → (Nat → Int32) → (Nat → Int32) → (Nat → Int32) → (Nat → Int32) → (Nat → Int32) → (Nat → Int32) → (Nat → Int64) → (Nat → Int64) → (Nat → Int32) → Option (Int32 × Int32 × Int32 × Int64 × Int32 × Int32 × Int32 × Int32 × (Nat → Int32) × (Nat → Int32) × (Nat → Int32) × (Nat → Int64) × (Nat → Int32) × (Nat → Int32) × (Nat → Int32) × (Nat → Int32) × (Nat → Int32) × (Nat → Int32) × (Nat → Int64) × (Nat → Int32))) (v0_locals : Int32) (v1_size : Int32) (c2 : Nat → Int32) (v3_globals : Int32) (v3_procedures : Int32) (c4 : Nat → Int64) (v1_token : Int32) (v1_tokenAt : Int32) (v1_name : Int64) (v1_fault : Int32) (v1_faultAt : Int32) (v1_next : Int32) (v3_statements : Int32) (c5 : (Nat → Int64)) (c6 : (Nat → Int32)) (c7 : (Nat → Int32)) (c8 : (Nat → Int32)) (c9 : (Nat → Int32)) (c10 : (Nat → Int32)) (c11 : (Nat → Int32)) (c12 : (Nat → Int32)) (c13 : (Nat → Int32)) (c14 : (Nat → Int32)) (c15 : (Nat → Int64)) (c16 : (Nat → Int32)) : Option (Int32 × Int32 × Int64 × Int32 × Int32 × Int32 × Int32 × (Nat → Int64) × (Nat → Int32) × (Nat → Int32) × (Nat → Int32) × (Nat → Int32) × (Nat → Int32) × (Nat → Int32) × (Nat → Int32) × (Nat → Int32) × (Nat → Int32) × (Nat → Int64) × (Nat → Int32)) :=
  some (v1_token, v1_tokenAt, v1_name, v1_fault, v1_faultAt, v1_next, v3_statements, c5, c6, c7, c8, c9, c10, c11, c12, c13, c14, c15, c16)
noncomputable def fX2_readBranch_o (kf_X2_readBlock : Int32 → Int32 → Int32 → Int32 → Int32 → Int64 → Int32 → Int32 → Int32 → Int32 → (Nat → Int32) → Int32 → Int32 → Int32 → (Nat → Int32) → (Nat → Int32) → (Nat → Int32) → (Nat → Int64) → (Nat → Int32) → (Nat → Int32) → (Nat → Int32) → (Nat → Int32) → (Nat → Int32) → (Nat → Int32) → (Nat → Int64) → (Nat → Int64) → (Nat → Int32) → Option (Int32 × Int32 × Int32 × Int64 × Int32 × Int32 × Int32 × Int32 × (Nat → Int32) × (Nat → Int32) × (Nat → Int32) × (Nat → Int64) × (Nat → Int32) × (Nat → Int32) × (Nat → Int32) × (Nat → Int32) × (Nat → Int32) × (Nat → Int32) × (Nat → Int64) × (Nat → Int32))) (a0 : Int32) (a1 : Int32) (v0_locals : Int32) (v1_token : Int32) (v1_tokenAt : Int32) (v1_name : Int64) (v1_fault : Int32) (v1_faultAt : Int32) (v1_size : Int32) (v1_next : Int32) (c2 : Nat → Int32) (v3_globals : Int32) (v3_procedures : Int32) (v3_statements : Int32) (c4 : Nat → Int64) (c5 : Nat → Int64) (c6 : Nat → Int32) (c7 : Nat → Int32) (c8 : Nat → Int32) (c9 : Nat → Int32) (c10 : Nat → Int32) (c11 : Nat → Int32) (c12 : Nat → Int32) (c13 : Nat → Int32) (c14 : Nat → Int32) (c15 : Nat → Int64) (c16 : Nat → Int32) : Option (Int32 × Int32 × Int64 × Int32 × Int32 × Int32 × Int32 × (Nat → Int64) × (Nat → Int32) × (Nat → Int32) × (Nat → Int32) × (Nat → Int32) × (Nat → Int32) × (Nat → Int32) × (Nat → Int32) × (Nat → Int32) × (Nat → Int32) × (Nat → Int64) × (Nat → Int32)) :=
  ob (fX4_advance v1_token v1_tokenAt v1_name v1_fault v1_faultAt v1_size v1_next c2) fun o1 =>
  ob (fX2_readExpression 0 v0_locals o1.1 o1.2.1 o1.2.2.1 o1.2.2.2.1 o1.2.2.2.2.1 v1_size o1.2.2.2.2.2 v3_globals c4 c2) fun o2 =>
  bd (inb a0 40) <|
  nm (vp_updL c5 a0.toNatClampNeg o2.1) fun c3x =>
  ob (kf_X2_readBlock a0 a1 v0_locals o2.2.1 o2.2.2.1 o2.2.2.2.1 o2.2.2.2.2.1 o2.2.2.2.2.2.1 v1_size o2.2.2.2.2.2.2 c2 v3_globals v3_procedures v3_statements c6 c7 c8 c3x c9 c10 c11 c12 c13 c14 c4 c15 c16) fun o4 =>
  bd (inb a0 40) <|
  nm (upd o4.2.2.2.2.2.2.2.2.2.2.2.2.2.2.2.2.1 a0.toNatClampNeg o4.1) fun c5x =>
  bd (inb a0 40) <|
  nm (o4.2.2.2.2.2.2.2.2.1 a0.toNatClampNeg) fun x7 =>
  if x7 = 1 then
    if o4.2.1 = 261 then
      ob (fX4_advance o4.2.1 o4.2.2.1 o4.2.2.2.1 o4.2.2.2.2.1 o4.2.2.2.2.2.1 v1_size o4.2.2.2.2.2.2.1 c2) fun o10 =>
      ob (kf_X2_readBlock a0 a1 v0_locals o10.1 o10.2.1 o10.2.2.1 o10.2.2.2.1 o10.2.2.2.2.1 v1_size o10.2.2.2.2.2 c2 v3_globals v3_procedures o4.2.2.2.2.2.2.2.1 o4.2.2.2.2.2.2.2.2.1 o4.2.2.2.2.2.2.2.2.2.1 o4.2.2.2.2.2.2.2.2.2.2.1 o4.2.2.2.2.2.2.2.2.2.2.2.1 o4.2.2.2.2.2.2.2.2.2.2.2.2.1 o4.2.2.2.2.2.2.2.2.2.2.2.2.2.1 o4.2.2.2.2.2.2.2.2.2.2.2.2.2.2.1 o4.2.2.2.2.2.2.2.2.2.2.2.2.2.2.2.1 c5x o4.2.2.2.2.2.2.2.2.2.2.2.2.2.2.2.2.2.1 c4 o4.2.2.2.2.2.2.2.2.2.2.2.2.2.2.2.2.2.2.1 o4.2.2.2.2.2.2.2.2.2.2.2.2.2.2.2.2.2.2.2) fun o11 =>
      bd (inb a0 40) <|
      nm (upd o11.2.2.2.2.2.2.2.2.2.2.2.2.2.2.2.2.2.1 a0.toNatClampNeg o11.1) fun c12x =>
      fX2_readBranch_o_p84 kf_X2_readBlock v0_locals v1_size c2 v3_globals v3_procedures c4 o11.2.1 o11.2.2.1 o11.2.2.2.1 o11.2.2.2.2.1 o11.2.2.2.2.2.1 o11.2.2.2.2.2.2.1 o11.2.2.2.2.2.2.2.1 o11.2.2.2.2.2.2.2.2.2.2.2.1 o11.2.2.2.2.2.2.2.2.1 o11.2.2.2.2.2.2.2.2.2.1 o11.2.2.2.2.2.2.2.2.2.2.1 o11.2.2.2.2.2.2.2.2.2.2.2.2.1 o11.2.2.2.2.2.2.2.2.2.2.2.2.2.1 o11.2.2.2.2.2.2.2.2.2.2.2.2.2.2.1 o11.2.2.2.2.2.2.2.2.2.2.2.2.2.2.2.1 o11.2.2.2.2.2.2.2.2.2.2.2.2.2.2.2.2.1 c12x o11.2.2.2.2.2.2.2.2.2.2.2.2.2.2.2.2.2.2.1 o11.2.2.2.2.2.2.2.2.2.2.2.2.2.2.2.2.2.2.2
    else
      fX2_readBranch_o_p84 kf_X2_readBlock v0_locals v1_size c2 v3_globals v3_procedures c4 o4.2.1 o4.2.2.1 o4.2.2.2.1 o4.2.2.2.2.1 o4.2.2.2.2.2.1 o4.2.2.2.2.2.2.1 o4.2.2.2.2.2.2.2.1 o4.2.2.2.2.2.2.2.2.2.2.2.1 o4.2.2.2.2.2.2.2.2.1 o4.2.2.2.2.2.2.2.2.2.1 o4.2.2.2.2.2.2.2.2.2.2.1 o4.2.2.2.2.2.2.2.2.2.2.2.2.1 o4.2.2.2.2.2.2.2.2.2.2.2.2.2.1 o4.2.2.2.2.2.2.2.2.2.2.2.2.2.2.1 o4.2.2.2.2.2.2.2.2.2.2.2.2.2.2.2.1 c5x o4.2.2.2.2.2.2.2.2.2.2.2.2.2.2.2.2.2.1 o4.2.2.2.2.2.2.2.2.2.2.2.2.2.2.2.2.2.2.1 o4.2.2.2.2.2.2.2.2.2.2.2.2.2.2.2.2.2.2.2
  else
    fX2_readBranch_o_p84 kf_X2_readBlock v0_locals v1_size c2 v3_globals v3_procedures c4 o4.2.1 o4.2.2.1 o4.2.2.2.1 o4.2.2.2.2.1 o4.2.2.2.2.2.1 o4.2.2.2.2.2.2.1 o4.2.2.2.2.2.2.2.1 o4.2.2.2.2.2.2.2.2.2.2.2.1 o4.2.2.2.2.2.2.2.2.1 o4.2.2.2.2.2.2.2.2.2.1 o4.2.2.2.2.2.2.2.2.2.2.1 o4.2.2.2.2.2.2.2.2.2.2.2.2.1 o4.2.2.2.2.2.2.2.2.2.2.2.2.2.1 o4.2.2.2.2.2.2.2.2.2.2.2.2.2.2.1 o4.2.2.2.2.2.2.2.2.2.2.2.2.2.2.2.1 c5x o4.2.2.2.2.2.2.2.2.2.2.2.2.2.2.2.2.2.1 o4.2.2.2.2.2.2.2.2.2.2.2.2.2.2.2.2.2.2.1 o4.2.2.2.2.2.2.2.2.2.2.2.2.2.2.2.2.2.2.2
noncomputable def fX2_readStatement_o_p75 (kf_X2_readBranch : Int32 → Int32 → Int32 → Int32 → Int32 → Int64 → Int32 → Int32 → Int32 → Int32 → (Nat → Int32) → Int32 → Int32 → Int32 → (Nat → Int64) → (Nat → Int64) → (Nat → Int32) → (Nat → Int32) → (Nat → Int32) → (Nat → Int32) → (Nat → Int32) → (Nat → Int32) → (Nat → Int32) → (Nat → Int32) → (Nat → Int32) → (Nat → Int64) → (Nat → Int32) → Option (Int32 × Int32 × Int64 × Int32 × Int32 × Int32 × Int32 × (Nat → Int64) × (Nat → Int32) × (Nat → Int32) × (Nat → Int32) × (Nat → Int32) × (Nat → Int32) × (Nat → Int32) × (Nat → Int32) × (Nat → Int32) × (Nat → Int32) × (Nat → Int64) × (Nat → Int32))) (v0_locals : Int32) (v1_size : Int32) (v2_globals : Int32) (v2_procedures : Int32) (c13 : Nat → Int32) (c14 : Nat → Int64) (y2 : Int32) (y4 : Int32) (v1_token : Int32) (v1_tokenAt : Int32) (v1_name : Int64) (v1_fault : Int32) (v1_faultAt : Int32) (v1_next : Int32) (v2_statements : Int32) (c3 : (Nat → Int32)) (c4 : (Nat → Int32)) (c5 : (Nat → Int32)) (c6 : (Nat → Int64)) (c7 : (Nat → Int32)) (c8 : (Nat → Int32)) (c9 : (Nat → Int32)) (c10 : (Nat → Int32)) (c11 : (Nat → Int32)) (c12 : (Nat → Int32)) (c15 : (Nat → Int64)) (c16 : (Nat → Int32)) : Option (Int32 × Int32 × Int32 × Int64 × Int32 × Int32 × Int32 × Int32 × (Nat → Int32) × (Nat → Int32) × (Nat → Int32) × (Nat → Int64) × (Nat → Int32) × (Nat → Int32) × (Nat → Int32) × (Nat → Int32) × (Nat → Int32) × (Nat → Int32) × (Nat → Int64) × (Nat → Int32)) :=
  ob (kf_X2_readBranch y4 y2 v0_locals v1_token v1_tokenAt v1_name v1_fault v1_faultAt v1_size v1_next c13 v2_globals v2_procedures v2_statements c14 c6 c3 c4 c5 c7 c8 c9 c10 c11 c12 c15 c16) fun o1 =>
  some (y4, (o1.1, o1.2.1, o1.2.2.1, o1.2.2.2.1, o1.2.2.2.2.1, o1.2.2.2.2.2.1, o1.2.2.2.2.2.2.1, o1.2.2.2.2.2.2.2.2.1, o1.2.2.2.2.2.2.2.2.2.1, o1.2.2.2.2.2.2.2.2.2.2.1, o1.2.2.2.2.2.2.2.1, o1.2.2.2.2.2.2.2.2.2.2.2.1, o1.2.2.2.2.2.2.2.2.2.2.2.2.1, o1.2.2.2.2.2.2.2.2.2.2.2.2.2.1, o1.2.2.2.2.2.2.2.2.2.2.2.2.2.2.1, o1.2.2.2.2.2.2.2.2.2.2.2.2.2.2.2.1, o1.2.2.2.2.2.2.2.2.2.2.2.2.2.2.2.2.1, o1.2.2.2.2.2.2.2.2.2.2.2.2.2.2.2.2.2.1, o1.2.2.2.2.2.2.2.2.2.2.2.2.2.2.2.2.2.2))
noncomputable def fX2_readStatement_o_p144 (kf_X2_readBranch : Int32 → Int32 → Int32 → Int32 → Int32 → Int64 → Int32 → Int32 → Int32 → Int32 → (Nat → Int32) → Int32 → Int32 → Int32 → (Nat → Int64) → (Nat → Int64) → (Nat → Int32) → (Nat → Int32) → (Nat → Int32) → (Nat → Int32) → (Nat → Int32) → (Nat → Int32) → (Nat → Int32) → (Nat → Int32) → (Nat → Int32) → (Nat → Int64) → (Nat → Int32) → Option (Int32 × Int32 × Int64 × Int32 × Int32 × Int32 × Int32 × (Nat → Int64) × (Nat → Int32) × (Nat → Int32) × (Nat → Int32) × (Nat → Int32) × (Nat → Int32) × (Nat → Int32) × (Nat → Int32) × (Nat → Int32) × (Nat → Int32) × (Nat → Int64) × (Nat → Int32))) (v0_locals : Int32) (v1_size : Int32) (v2_globals : Int32) (v2_procedures : Int32) (c13 : Nat → Int32) (c14 : Nat → Int64) (y4 : Int32) (v1_token : Int32) (v1_tokenAt : Int32) (v1_name : Int64) (v1_fault : Int32) (v1_faultAt : Int32) (v1_next : Int32) (v2_statements : Int32) (c3 : (Nat → Int32)) (c4 : (Nat → Int32)) (c5 : (Nat → Int32)) (c6 : (Nat → Int64)) (c7 : (Nat → Int32)) (c8 : (Nat → Int32)) (c9 : (Nat → Int32)) (c10 : (Nat → Int32)) (c11 : (Nat → Int32)) (c12 : (Nat → Int32)) (c15 : (Nat → Int64)) (c16 : (Nat → Int32)) : Option (Int32 × Int32 × Int32 × Int64 × Int32 × Int32 × Int32 × Int32 × (Nat → Int32) × (Nat → Int32) × (Nat → Int32) × (Nat → Int64) × (Nat → Int32) × (Nat → Int32) × (Nat → Int32) × (Nat → Int32) × (Nat → Int32) × (Nat → Int32) × (Nat → Int64) × (Nat → Int32)) :=
  ob (fX4_skipToken 59 v1_token v1_tokenAt v1_name v1_fault v1_faultAt v1_size v1_next c13) fun o2 =>
  some (y4, (o2.2.1, o2.2.2.1, o2.2.2.2.1, o2.2.2.2.2.1, o2.2.2.2.2.2.1, o2.2.2.2.2.2.2, v2_statements, c3, c4, c5, c6, c7, c8, c9, c10, c11, c12, c15, c16))
noncomputable def fX2_readStatement_o_p129 (kf_X2_readBranch : Int32 → Int32 → Int32 → Int32 → Int32 → Int64 → Int32 → Int32 → Int32 → Int32 → (Nat → Int32) → Int32 → Int32 → Int32 → (Nat → Int64) → (Nat → Int64) → (Nat → Int32) → (Nat → Int32) → (Nat → Int32) → (Nat → Int32) → (Nat → Int32) → (Nat → Int32) → (Nat → Int32) → (Nat → Int32) → (Nat → Int32) → (Nat → Int64) → (Nat → Int32) → Option (Int32 × Int32 × Int64 × Int32 × Int32 × Int32 × Int32 × (Nat → Int64) × (Nat → Int32) × (Nat → Int32) × (Nat → Int32) × (Nat → Int32) × (Nat → Int32) × (Nat → Int32) × (Nat → Int32) × (Nat → Int32) × (Nat → Int32) × (Nat → Int64) × (Nat → Int32))) (v0_locals : Int32) (v1_size : Int32) (v2_globals : Int32) (v2_procedures : Int32) (c13 : Nat → Int32) (c14 : Nat → Int64) (y4 : Int32) (v1_token : Int32) (v1_tokenAt : Int32) (v1_name : Int64) (v1_fault : Int32) (v1_faultAt : Int32) (v1_next : Int32) (v2_statements : Int32) (c3 : (Nat → Int32)) (c4 : (Nat → Int32)) (c5 : (Nat → Int32)) (c6 : (Nat → Int64)) (c7 : (Nat → Int32)) (c8 : (Nat → Int32)) (c9 : (Nat → Int32)) (c10 : (Nat → Int32)) (c11 : (Nat → Int32)) (c12 : (Nat → Int32)) (c15 : (Nat → Int64)) (c16 : (Nat → Int32)) : Option (Int32 × Int32 × Int32 × Int64 × Int32 × Int32 × Int32 × Int32 × (Nat → Int32) × (Nat → Int32) × (Nat → Int32) × (Nat → Int64) × (Nat → Int32) × (Nat → Int32) × (Nat → Int32) × (Nat → Int32) × (Nat → Int32) × (Nat → Int32) × (Nat → Int64) × (Nat → Int32)) :=
  ob (fX2_readExpression 0 v0_locals v1_token v1_tokenAt v1_name v1_fault v1_faultAt v1_size v1_next v2_globals c14 c13) fun o3 =>
  bd (inb y4 40) <|
  nm (vp_updL c6 y4.toNatClampNeg o3.1) fun c4x =>
  fX2_readStatement_o_p144 kf_X2_readBranch v0_locals v1_size v2_globals v2_procedures c13 c14 y4 o3.2.1 o3.2.2.1 o3.2.2.2.1 o3.2.2.2.2.1 o3.2.2.2.2.2.1 o3.2.2.2.2.2.2 v2_statements c3 c4 c5 c4x c7 c8 c9 c10 c11 c12 c15 c16
noncomputable def fX2_readStatement_o_p30 (kf_X2_readBranch : Int32 → Int32 → Int32 → Int32 → Int32 → Int64 → Int32 → Int32 → Int32 → Int32 → (Nat → Int32) → Int32 → Int32 → Int32 → (Nat → Int64) → (Nat → Int64) → (Nat → Int32) → (Nat → Int32) → (Nat → Int32) → (Nat → Int32) → (Nat → Int32) → (Nat → Int32) → (Nat → Int32) → (Nat → Int32) → (Nat → Int32) → (Nat → Int64) → (Nat → Int32) → Option (Int32 × Int32 × Int64 × Int32 × Int32 × Int32 × Int32 × (Nat → Int64) × (Nat → Int32) × (Nat → Int32) × (Nat → Int32) × (Nat → Int32) × (Nat → Int32) × (Nat → Int32) × (Nat → Int32) × (Nat → Int32) × (Nat → Int32) × (Nat → Int64) × (Nat → Int32))) (v0_locals : Int32) (v1_size : Int32) (v2_globals : Int32) (v2_procedures : Int32) (c13 : Nat → Int32) (c14 : Nat → Int64) (y1 : Int32) (y2 : Int32) (z0 : Int32) (v1_token : Int32) (v1_tokenAt : Int32) (v1_name : Int64) (v1_fault : Int32) (v1_faultAt : Int32) (v1_next : Int32) (v2_statements : Int32) (c3 : (Nat → Int32)) (c4 : (Nat → Int32)) (c5 : (Nat → Int32)) (c6 : (Nat → Int64)) (c7 : (Nat → Int32)) (c8 : (Nat → Int32)) (c9 : (Nat → Int32)) (c10 : (Nat → Int32)) (c11 : (Nat → Int32)) (c12 : (Nat → Int32)) (c15 : (Nat → Int64)) (c16 : (Nat → Int32)) : Option (Int32 × Int32 × Int32 × Int64 × Int32 × Int32 × Int32 × Int32 × (Nat → Int32) × (Nat → Int32) × (Nat → Int32) × (Nat → Int64) × (Nat → Int32) × (Nat → Int32) × (Nat → Int32) × (Nat → Int32) × (Nat → Int32) × (Nat → Int32) × (Nat → Int64) × (Nat → Int32)) :=
  ob (fX3_addStatement z0 v1_tokenAt y1 v2_procedures v2_statements c3 c4 c5 c6 c7 c8 c9 c10 c11 c12) fun o5 =>
  if o5.1 = (-1) then
    ob (fX4_failHere 3 v1_token v1_tokenAt v1_fault v1_faultAt) fun o16 =>
    some ((-1), (o16.1, v1_tokenAt, v1_name, o16.2.1, o16.2.2, v1_next, o5.2.1, o5.2.2.1, o5.2.2.2.1, o5.2.2.2.2.1, o5.2.2.2.2.2.1, o5.2.2.2.2.2.2.1, o5.2.2.2.2.2.2.2.1, o5.2.2.2.2.2.2.2.2.1, o5.2.2.2.2.2.2.2.2.2.1, o5.2.2.2.2.2.2.2.2.2.2.1, o5.2.2.2.2.2.2.2.2.2.2.2, c15, c16))
  else
    if z0 = 1 then
      fX2_readStatement_o_p75 kf_X2_readBranch v0_locals v1_size v2_globals v2_procedures c13 c14 y2 o5.1 v1_token v1_tokenAt v1_name v1_fault v1_faultAt v1_next o5.2.1 o5.2.2.1 o5.2.2.2.1 o5.2.2.2.2.1 o5.2.2.2.2.2.1 o5.2.2.2.2.2.2.1 o5.2.2.2.2.2.2.2.1 o5.2.2.2.2.2.2.2.2.1 o5.2.2.2.2.2.2.2.2.2.1 o5.2.2.2.2.2.2.2.2.2.2.1 o5.2.2.2.2.2.2.2.2.2.2.2 c15 c16
    else
      if z0 = 2 then
        fX2_readStatement_o_p75 kf_X2_readBranch v0_locals v1_size v2_globals v2_procedures c13 c14 y2 o5.1 v1_token v1_tokenAt v1_name v1_fault v1_faultAt v1_next o5.2.1 o5.2.2.1 o5.2.2.2.1 o5.2.2.2.2.1 o5.2.2.2.2.2.1 o5.2.2.2.2.2.2.1 o5.2.2.2.2.2.2.2.1 o5.2.2.2.2.2.2.2.2.1 o5.2.2.2.2.2.2.2.2.2.1 o5.2.2.2.2.2.2.2.2.2.2.1 o5.2.2.2.2.2.2.2.2.2.2.2 c15 c16
      else
        if z0 = 0 then
          ob (fX2_readAssignment o5.1 v0_locals v1_token v1_tokenAt v1_name v1_fault v1_faultAt v1_size v1_next v2_globals c14 o5.2.2.2.2.2.2.1 c13 o5.2.2.2.2.2.1) fun o15 =>
          fX2_readStatement_o_p144 kf_X2_readBranch v0_locals v1_size v2_globals v2_procedures c13 c14 o5.1 o15.1 o15.2.1 o15.2.2.1 o15.2.2.2.1 o15.2.2.2.2.1 o15.2.2.2.2.2.1 o5.2.1 o5.2.2.1 o5.2.2.2.1 o5.2.2.2.2.1 o15.2.2.2.2.2.2.2 o15.2.2.2.2.2.2.1 o5.2.2.2.2.2.2.2.1 o5.2.2.2.2.2.2.2.2.1 o5.2.2.2.2.2.2.2.2.2.1 o5.2.2.2.2.2.2.2.2.2.2.1 o5.2.2.2.2.2.2.2.2.2.2.2 c15 c16
        else
          ob (fX4_advance v1_token v1_tokenAt v1_name v1_fault v1_faultAt v1_size v1_next c13) fun o10 =>
          if z0 = 3 then
            ob (fX2_readCalled o5.1 o10.1 o10.2.1 o10.2.2.1 o10.2.2.2.1 o10.2.2.2.2.1 v1_size o10.2.2.2.2.2 c15 c16 c13) fun o14 =>
            fX2_readStatement_o_p144 kf_X2_readBranch v0_locals v1_size v2_globals v2_procedures c13 c14 o5.1 o14.1 o14.2.1 o14.2.2.1 o14.2.2.2.1 o14.2.2.2.2.1 o14.2.2.2.2.2.1 o5.2.1 o5.2.2.1 o5.2.2.2.1 o5.2.2.2.2.1 o5.2.2.2.2.2.1 o5.2.2.2.2.2.2.1 o5.2.2.2.2.2.2.2.1 o5.2.2.2.2.2.2.2.2.1 o5.2.2.2.2.2.2.2.2.2.1 o5.2.2.2.2.2.2.2.2.2.2.1 o5.2.2.2.2.2.2.2.2.2.2.2 o14.2.2.2.2.2.2.1 o14.2.2.2.2.2.2.2
          else
            if z0 = 4 then
              fX2_readStatement_o_p129 kf_X2_readBranch v0_locals v1_size v2_globals v2_procedures c13 c14 o5.1 o10.1 o10.2.1 o10.2.2.1 o10.2.2.2.1 o10.2.2.2.2.1 o10.2.2.2.2.2 o5.2.1 o5.2.2.1 o5.2.2.2.1 o5.2.2.2.2.1 o5.2.2.2.2.2.1 o5.2.2.2.2.2.2.1 o5.2.2.2.2.2.2.2.1 o5.2.2.2.2.2.2.2.2.1 o5.2.2.2.2.2.2.2.2.2.1 o5.2.2.2.2.2.2.2.2.2.2.1 o5.2.2.2.2.2.2.2.2.2.2.2 c15 c16
            else
              if z0 = 5 then
                fX2_readStatement_o_p129 kf_X2_readBranch v0_locals v1_size v2_globals v2_procedures c13 c14 o5.1 o10.1 o10.2.1 o10.2.2.1 o10.2.2.2.1 o10.2.2.2.2.1 o10.2.2.2.2.2 o5.2.1 o5.2.2.1 o5.2.2.2.1 o5.2.2.2.2.1 o5.2.2.2.2.2.1 o5.2.2.2.2.2.2.1 o5.2.2.2.2.2.2.2.1 o5.2.2.2.2.2.2.2.2.1 o5.2.2.2.2.2.2.2.2.2.1 o5.2.2.2.2.2.2.2.2.2.2.1 o5.2.2.2.2.2.2.2.2.2.2.2 c15 c16
              else
                fX2_readStatement_o_p144 kf_X2_readBranch v0_locals v1_size v2_globals v2_procedures c13 c14 o5.1 o10.1 o10.2.1 o10.2.2.1 o10.2.2.2.1 o10.2.2.2.2.1 o10.2.2.2.2.2 o5.2.1 o5.2.2.1 o5.2.2.2.1 o5.2.2.2.2.1 o5.2.2.2.2.2.1 o5.2.2.2.2.2.2.1 o5.2.2.2.2.2.2.2.1 o5.2.2.2.2.2.2.2.2.1 o5.2.2.2.2.2.2.2.2.2.1 o5.2.2.2.2.2.2.2.2.2.2.1 o5.2.2.2.2.2.2.2.2.2.2.2 c15 c16
noncomputable def fX2_readStatement_o (kf_X2_readBranch : Int32 → Int32 → Int32 → Int32 → Int32 → Int64 → Int32 → Int32 → Int32 → Int32 → (Nat → Int32) → Int32 → Int32 → Int32 → (Nat → Int64) → (Nat → Int64) → (Nat → Int32) → (Nat → Int32) → (Nat → Int32) → (Nat → Int32) → (Nat → Int32) → (Nat → Int32) → (Nat → Int32) → (Nat → Int32) → (Nat → Int32) → (Nat → Int64) → (Nat → Int32) → Option (Int32 × Int32 × Int64 × Int32 × Int32 × Int32 × Int32 × (Nat → Int64) × (Nat → Int32) × (Nat → Int32) × (Nat → Int32) × (Nat → Int32) × (Nat → Int32) × (Nat → Int32) × (Nat → Int32) × (Nat → Int32) × (Nat → Int32) × (Nat → Int64) × (Nat → Int32))) (a0 : Int32) (a1 : Int32) (v0_locals : Int32) (v1_token : Int32) (v1_tokenAt : Int32) (v1_name : Int64) (v1_fault : Int32) (v1_faultAt : Int32) (v1_size : Int32) (v1_next : Int32) (v2_globals : Int32) (v2_procedures : Int32) (v2_statements : Int32) (c3 : Nat → Int32) (c4 : Nat → Int32) (c5 : Nat → Int32) (c6 : Nat → Int64) (c7 : Nat → Int32) (c8 : Nat → Int32) (c9 : Nat → Int32) (c10 : Nat → Int32) (c11 : Nat → Int32) (c12 : Nat → Int32) (c13 : Nat → Int32) (c14 : Nat → Int64) (c15 : Nat → Int64) (c16 : Nat → Int32) : Option (Int32 × Int32 × Int32 × Int64 × Int32 × Int32 × Int32 × Int32 × (Nat → Int32) × (Nat → Int32) × (Nat → Int32) × (Nat → Int64) × (Nat → Int32) × (Nat → Int32) × (Nat → Int32) × (Nat → Int32) × (Nat → Int32) × (Nat → Int32) × (Nat → Int64) × (Nat → Int32)) :=
  if v1_token = 258 then
    fX2_readStatement_o_p30 kf_X2_readBranch v0_locals v1_size v2_globals v2_procedures c13 c14 a0 a1 0 v1_token v1_tokenAt v1_name v1_fault v1_faultAt v1_next v2_statements c3 c4 c5 c6 c7 c8 c9 c10 c11 c12 c15 c16
  else
    nm (1 + v1_token) fun x18 =>
    nm (x18 - 262) fun x19 =>
    fX2_readStatement_o_p30 kf_X2_readBranch v0_locals v1_size v2_globals v2_procedures c13 c14 a0 a1 x19 v1_token v1_tokenAt v1_name v1_fault v1_faultAt v1_next v2_statements c3 c4 c5 c6 c7 c8 c9 c10 c11 c12 c15 c16
noncomputable def fX2_readStatements_o_p72 (kf_X2_readStatement : Int32 → Int32 → Int32 → Int32 → Int32 → Int64 → Int32 → Int32 → Int32 → Int32 → Int32 → Int32 → Int32 → (Nat → Int32) → (Nat → Int32) → (Nat → Int32) → (Nat → Int64) → (Nat → Int32) → (Nat → Int32) → (Nat → Int32) → (Nat → Int32) → (Nat → Int32) → (Nat → Int32) → (Nat → Int32) → (Nat → Int64) → (Nat → Int64) → (Nat → Int32) → Option (Int32 × Int32 × Int32 × Int64 × Int32 × Int32 × Int32 × Int32 × (Nat → Int32) × (Nat → Int32) × (Nat → Int32) × (Nat → Int64) × (Nat → Int32) × (Nat → Int32) × (Nat → Int32) × (Nat → Int32) × (Nat → Int32) × (Nat → Int32) × (Nat → Int64) × (Nat → Int32))) (v0_locals : Int32) (v1_size : Int32) (v2_globals : Int32) (v2_procedures : Int32) (c13 : Nat → Int32) (c14 : Nat → Int64) (y3 : Int32) (v1_token : Int32) (v1_tokenAt : Int32) (v1_name : Int64) (v1_fault : Int32) (v1_faultAt : Int32) (v1_next : Int32) (v2_statements : Int32) (c3 : (Nat → Int32)) (c4 : (Nat → Int32)) (c5 : (Nat → Int32)) (c6 : (Nat → Int64)) (c7 : (Nat → Int32)) (c8 : (Nat → Int32)) (c9 : (Nat → Int32)) (c10 : (Nat → Int32)) (c11 : (Nat → Int32)) (c12 : (Nat → Int32)) (c15 : (Nat → Int64)) (c16 : (Nat → Int32)) : Option (Int32 × Int32 × Int32 × Int64 × Int32 × Int32 × Int32 × Int32 × (Nat → Int32) × (Nat → Int32) × (Nat → Int32) × (Nat → Int64) × (Nat → Int32) × (Nat → Int32) × (Nat → Int32) × (Nat → Int32) × (Nat → Int32) × (Nat → Int32) × (Nat → Int64) × (Nat → Int32)) :=
  some (y3, (v1_token, v1_tokenAt, v1_name, v1_fault, v1_faultAt, v1_next, v2_statements, c3, c4, c5, c6, c7, c8, c9, c10, c11, c12, c15, c16))
noncomputable def fX2_readStatements_o_p62 (kf_X2_readStatement : Int32 → Int32 → Int32 → Int32 → Int32 → Int64 → Int32 → Int32 → Int32 → Int32 → Int32 → Int32 → Int32 → (Nat → Int32) → (Nat → Int32) → (Nat → Int32) → (Nat → Int64) → (Nat → Int32) → (Nat → Int32) → (Nat → Int32) → (Nat → Int32) → (Nat → Int32) → (Nat → Int32) → (Nat → Int32) → (Nat → Int64) → (Nat → Int64) → (Nat → Int32) → Option (Int32 × Int32 × Int32 × Int64 × Int32 × Int32 × Int32 × Int32 × (Nat → Int32) × (Nat → Int32) × (Nat → Int32) × (Nat → Int64) × (Nat → Int32) × (Nat → Int32) × (Nat → Int32) × (Nat → Int32) × (Nat → Int32) × (Nat → Int32) × (Nat → Int64) × (Nat → Int32))) (v0_locals : Int32) (v1_size : Int32) (v2_globals : Int32) (v2_procedures : Int32) (c13 : Nat → Int32) (c14 : Nat → Int64) (k8 : Int32 → Int32 → Int32 → Int32 → Int32 → Int32 → Int32 → Int64 → Int32 → Int32 → Int32 → Int32 → (Nat → Int32) → (Nat → Int32) → (Nat → Int32) → (Nat → Int64) → (Nat → Int32) → (Nat → Int32) → (Nat → Int32) → (Nat → Int32) → (Nat → Int32) → (Nat → Int32) → (Nat → Int64) → (Nat → Int32) → Option (Int32 × Int32 × Int32 × Int64 × Int32 × Int32 × Int32 × Int32 × (Nat → Int32) × (Nat → Int32) × (Nat → Int32) × (Nat → Int64) × (Nat → Int32) × (Nat → Int32) × (Nat → Int32) × (Nat → Int32) × (Nat → Int32) × (Nat → Int32) × (Nat → Int64) × (Nat → Int32))) (y1 : Int32) (y2 : Int32) (y3 : Int32) (y5 : Int32) (y6 : Int32) (v1_token : Int32) (v1_tokenAt : Int32) (v1_name : Int64) (v1_fault : Int32) (v1_faultAt : Int32) (v1_next : Int32) (v2_statements : Int32) (c3 : (Nat → Int32)) (c4 : (Nat → Int32)) (c5 : (Nat → Int32)) (c6 : (Nat → Int64)) (c7 : (Nat → Int32)) (c8 : (Nat → Int32)) (c9 : (Nat → Int32)) (c10 : (Nat → Int32)) (c11 : (Nat → Int32)) (c12 : (Nat → Int32)) (c15 : (Nat → Int64)) (c16 : (Nat → Int32)) : Option (Int32 × Int32 × Int32 × Int64 × Int32 × Int32 × Int32 × Int32 × (Nat → Int32) × (Nat → Int32) × (Nat → Int32) × (Nat → Int64) × (Nat → Int32) × (Nat → Int32) × (Nat → Int32) × (Nat → Int32) × (Nat → Int32) × (Nat → Int32) × (Nat → Int64) × (Nat → Int32)) :=
  nm (y5 + 1) fun x1 =>
  k8 y1 y2 y3 y6 x1 v1_token v1_tokenAt v1_name v1_fault v1_faultAt v1_next v2_statements c3 c4 c5 c6 c7 c8 c9 c10 c11 c12 c15 c16
noncomputable def fX2_readStatements_o_b8 (kf_X2_readStatement : Int32 → Int32 → Int32 → Int32 → Int32 → Int64 → Int32 → Int32 → Int32 → Int32 → Int32 → Int32 → Int32 → (Nat → Int32) → (Nat → Int32) → (Nat → Int32) → (Nat → Int64) → (Nat → Int32) → (Nat → Int32) → (Nat → Int32) → (Nat → Int32) → (Nat → Int32) → (Nat → Int32) → (Nat → Int32) → (Nat → Int64) → (Nat → Int64) → (Nat → Int32) → Option (Int32 × Int32 × Int32 × Int64 × Int32 × Int32 × Int32 × Int32 × (Nat → Int32) × (Nat → Int32) × (Nat → Int32) × (Nat → Int64) × (Nat → Int32) × (Nat → Int32) × (Nat → Int32) × (Nat → Int32) × (Nat → Int32) × (Nat → Int32) × (Nat → Int64) × (Nat → Int32))) (v0_locals : Int32) (v1_size : Int32) (v2_globals : Int32) (v2_procedures : Int32) (c13 : Nat → Int32) (c14 : Nat → Int64) (k8 : Int32 → Int32 → Int32 → Int32 → Int32 → Int32 → Int32 → Int64 → Int32 → Int32 → Int32 → Int32 → (Nat → Int32) → (Nat → Int32) → (Nat → Int32) → (Nat → Int64) → (Nat → Int32) → (Nat → Int32) → (Nat → Int32) → (Nat → Int32) → (Nat → Int32) → (Nat → Int32) → (Nat → Int64) → (Nat → Int32) → Option (Int32 × Int32 × Int32 × Int64 × Int32 × Int32 × Int32 × Int32 × (Nat → Int32) × (Nat → Int32) × (Nat → Int32) × (Nat → Int64) × (Nat → Int32) × (Nat → Int32) × (Nat → Int32) × (Nat → Int32) × (Nat → Int32) × (Nat → Int32) × (Nat → Int64) × (Nat → Int32))) (y1 : Int32) (y2 : Int32) (y3 : Int32) (y4 : Int32) (y5 : Int32) (v1_token : Int32) (v1_tokenAt : Int32) (v1_name : Int64) (v1_fault : Int32) (v1_faultAt : Int32) (v1_next : Int32) (v2_statements : Int32) (c3 : (Nat → Int32)) (c4 : (Nat → Int32)) (c5 : (Nat → Int32)) (c6 : (Nat → Int64)) (c7 : (Nat → Int32)) (c8 : (Nat → Int32)) (c9 : (Nat → Int32)) (c10 : (Nat → Int32)) (c11 : (Nat → Int32)) (c12 : (Nat → Int32)) (c15 : (Nat → Int64)) (c16 : (Nat → Int32)) : Option (Int32 × Int32 × Int32 × Int64 × Int32 × Int32 × Int32 × Int32 × (Nat → Int32) × (Nat → Int32) × (Nat → Int32) × (Nat → Int64) × (Nat → Int32) × (Nat → Int32) × (Nat → Int32) × (Nat → Int32) × (Nat → Int32) × (Nat → Int32) × (Nat → Int64) × (Nat → Int32)) :=
  if 40 < y5 then
    fX2_readStatements_o_p72 kf_X2_readStatement v0_locals v1_size v2_globals v2_procedures c13 c14 y3 v1_token v1_tokenAt v1_name v1_fault v1_faultAt v1_next v2_statements c3 c4 c5 c6 c7 c8 c9 c10 c11 c12 c15 c16
  else
    ob (fX2_beginsStatement v1_token) fun o3 =>
    if o3.1 = 0 then
      fX2_readStatements_o_p72 kf_X2_readStatement v0_locals v1_size v2_globals v2_procedures c13 c14 y3 v1_token v1_tokenAt v1_name v1_fault v1_faultAt v1_next v2_statements c3 c4 c5 c6 c7 c8 c9 c10 c11 c12 c15 c16
    else
      ob (kf_X2_readStatement y1 y2 v0_locals v1_token v1_tokenAt v1_name v1_fault v1_faultAt v1_size v1_next v2_globals v2_procedures v2_statements c3 c4 c5 c6 c7 c8 c9 c10 c11 c12 c13 c14 c15 c16) fun o5 =>
      if o5.1 = (-1) then
        some (y3, (o5.2.1, o5.2.2.1, o5.2.2.2.1, o5.2.2.2.2.1, o5.2.2.2.2.2.1, o5.2.2.2.2.2.2.1, o5.2.2.2.2.2.2.2.1, o5.2.2.2.2.2.2.2.2.1, o5.2.2.2.2.2.2.2.2.2.1, o5.2.2.2.2.2.2.2.2.2.2.1, o5.2.2.2.2.2.2.2.2.2.2.2.1, o5.2.2.2.2.2.2.2.2.2.2.2.2.1, o5.2.2.2.2.2.2.2.2.2.2.2.2.2.1, o5.2.2.2.2.2.2.2.2.2.2.2.2.2.2.1, o5.2.2.2.2.2.2.2.2.2.2.2.2.2.2.2.1, o5.2.2.2.2.2.2.2.2.2.2.2.2.2.2.2.2.1, o5.2.2.2.2.2.2.2.2.2.2.2.2.2.2.2.2.2.1, o5.2.2.2.2.2.2.2.2.2.2.2.2.2.2.2.2.2.2.1, o5.2.2.2.2.2.2.2.2.2.2.2.2.2.2.2.2.2.2.2))
      else
        if y4 = (-1) then
          fX2_readStatements_o_p62 kf_X2_readStatement v0_locals v1_size v2_globals v2_procedures c13 c14 k8 y1 y2 o5.1 y5 o5.1 o5.2.1 o5.2.2.1 o5.2.2.2.1 o5.2.2.2.2.1 o5.2.2.2.2.2.1 o5.2.2.2.2.2.2.1 o5.2.2.2.2.2.2.2.1 o5.2.2.2.2.2.2.2.2.1 o5.2.2.2.2.2.2.2.2.2.1 o5.2.2.2.2.2.2.2.2.2.2.1 o5.2.2.2.2.2.2.2.2.2.2.2.1 o5.2.2.2.2.2.2.2.2.2.2.2.2.1 o5.2.2.2.2.2.2.2.2.2.2.2.2.2.1 o5.2.2.2.2.2.2.2.2.2.2.2.2.2.2.1 o5.2.2.2.2.2.2.2.2.2.2.2.2.2.2.2.1 o5.2.2.2.2.2.2.2.2.2.2.2.2.2.2.2.2.1 o5.2.2.2.2.2.2.2.2.2.2.2.2.2.2.2.2.2.1 o5.2.2.2.2.2.2.2.2.2.2.2.2.2.2.2.2.2.2.1 o5.2.2.2.2.2.2.2.2.2.2.2.2.2.2.2.2.2.2.2
        else
          bd (inb y4 40) <|
          nm (upd o5.2.2.2.2.2.2.2.2.2.2.2.2.2.2.2.1 y4.toNatClampNeg o5.1) fun c8x =>
          fX2_readStatements_o_p62 kf_X2_readStatement v0_locals v1_size v2_globals v2_procedures c13 c14 k8 y1 y2 y3 y5 o5.1 o5.2.1 o5.2.2.1 o5.2.2.2.1 o5.2.2.2.2.1 o5.2.2.2.2.2.1 o5.2.2.2.2.2.2.1 o5.2.2.2.2.2.2.2.1 o5.2.2.2.2.2.2.2.2.1 o5.2.2.2.2.2.2.2.2.2.1 o5.2.2.2.2.2.2.2.2.2.2.1 o5.2.2.2.2.2.2.2.2.2.2.2.1 o5.2.2.2.2.2.2.2.2.2.2.2.2.1 o5.2.2.2.2.2.2.2.2.2.2.2.2.2.1 o5.2.2.2.2.2.2.2.2.2.2.2.2.2.2.1 c8x o5.2.2.2.2.2.2.2.2.2.2.2.2.2.2.2.2.1 o5.2.2.2.2.2.2.2.2.2.2.2.2.2.2.2.2.2.1 o5.2.2.2.2.2.2.2.2.2.2.2.2.2.2.2.2.2.2.1 o5.2.2.2.2.2.2.2.2.2.2.2.2.2.2.2.2.2.2.2
noncomputable def fX2_readStatements_o_l8 (kf_X2_readStatement : Int32 → Int32 → Int32 → Int32 → Int32 → Int64 → Int32 → Int32 → Int32 → Int32 → Int32 → Int32 → Int32 → (Nat → Int32) → (Nat → Int32) → (Nat → Int32) → (Nat → Int64) → (Nat → Int32) → (Nat → Int32) → (Nat → Int32) → (Nat → Int32) → (Nat → Int32) → (Nat → Int32) → (Nat → Int32) → (Nat → Int64) → (Nat → Int64) → (Nat → Int32) → Option (Int32 × Int32 × Int32 × Int64 × Int32 × Int32 × Int32 × Int32 × (Nat → Int32) × (Nat → Int32) × (Nat → Int32) × (Nat → Int64) × (Nat → Int32) × (Nat → Int32) × (Nat → Int32) × (Nat → Int32) × (Nat → Int32) × (Nat → Int32) × (Nat → Int64) × (Nat → Int32))) (v0_locals : Int32) (v1_size : Int32) (v2_globals : Int32) (v2_procedures : Int32) (c13 : Nat → Int32) (c14 : Nat → Int64) : Nat → Int32 → Int32 → Int32 → Int32 → Int32 → Int32 → Int32 → Int64 → Int32 → Int32 → Int32 → Int32 → (Nat → Int32) → (Nat → Int32) → (Nat → Int32) → (Nat → Int64) → (Nat → Int32) → (Nat → Int32) → (Nat → Int32) → (Nat → Int32) → (Nat → Int32) → (Nat → Int32) → (Nat → Int64) → (Nat → Int32) → Option (Int32 × Int32 × Int32 × Int64 × Int32 × Int32 × Int32 × Int32 × (Nat → Int32) × (Nat → Int32) × (Nat → Int32) × (Nat → Int64) × (Nat → Int32) × (Nat → Int32) × (Nat → Int32) × (Nat → Int32) × (Nat → Int32) × (Nat → Int32) × (Nat → Int64) × (Nat → Int32))
  | 0 => fun _ _ _ _ _ _ _ _ _ _ _ _ _ _ _ _ _ _ _ _ _ _ _ _ => none
  | n + 1 => fX2_readStatements_o_b8 kf_X2_readStatement v0_locals v1_size v2_globals v2_procedures c13 c14  (fX2_readStatements_o_l8 kf_X2_readStatement v0_locals v1_size v2_globals v2_procedures c13 c14  n)
noncomputable def fX2_readStatements_o (kf_X2_readStatement : Int32 → Int32 → Int32 → Int32 → Int32 → Int64 → Int32 → Int32 → Int32 → Int32 → Int32 → Int32 → Int32 → (Nat → Int32) → (Nat → Int32) → (Nat → Int32) → (Nat → Int64) → (Nat → Int32) → (Nat → Int32) → (Nat → Int32) → (Nat → Int32) → (Nat → Int32) → (Nat → Int32) → (Nat → Int32) → (Nat → Int64) → (Nat → Int64) → (Nat → Int32) → Option (Int32 × Int32 × Int32 × Int64 × Int32 × Int32 × Int32 × Int32 × (Nat → Int32) × (Nat → Int32) × (Nat → Int32) × (Nat → Int64) × (Nat → Int32) × (Nat → Int32) × (Nat → Int32) × (Nat → Int32) × (Nat → Int32) × (Nat → Int32) × (Nat → Int64) × (Nat → Int32))) (a0 : Int32) (a1 : Int32) (v0_locals : Int32) (v1_token : Int32) (v1_tokenAt : Int32) (v1_name : Int64) (v1_fault : Int32) (v1_faultAt : Int32) (v1_size : Int32) (v1_next : Int32) (v2_globals : Int32) (v2_procedures : Int32) (v2_statements : Int32) (c3 : Nat → Int32) (c4 : Nat → Int32) (c5 : Nat → Int32) (c6 : Nat → Int64) (c7 : Nat → Int32) (c8 : Nat → Int32) (c9 : Nat → Int32) (c10 : Nat → Int32) (c11 : Nat → Int32) (c12 : Nat → Int32) (c13 : Nat → Int32) (c14 : Nat → Int64) (c15 : Nat → Int64) (c16 : Nat → Int32) : Option (Int32 × Int32 × Int32 × Int64 × Int32 × Int32 × Int32 × Int32 × (Nat → Int32) × (Nat → Int32) × (Nat → Int32) × (Nat → Int64) × (Nat → Int32) × (Nat → Int32) × (Nat → Int32) × (Nat → Int32) × (Nat → Int32) × (Nat → Int32) × (Nat → Int64) × (Nat → Int32)) :=
  fX2_readStatements_o_l8 kf_X2_readStatement v0_locals v1_size v2_globals v2_procedures c13 c14 FU a0 a1 (-1) (-1) 0 v1_token v1_tokenAt v1_name v1_fault v1_faultAt v1_next v2_statements c3 c4 c5 c6 c7 c8 c9 c10 c11 c12 c15 c16
noncomputable def fX2_readStatements_n : Nat → Int32 → Int32 → Int32 → Int32 → Int32 → Int64 → Int32 → Int32 → Int32 → Int32 → Int32 → Int32 → Int32 → (Nat → Int32) → (Nat → Int32) → (Nat → Int32) → (Nat → Int64) → (Nat → Int32) → (Nat → Int32) → (Nat → Int32) → (Nat → Int32) → (Nat → Int32) → (Nat → Int32) → (Nat → Int32) → (Nat → Int64) → (Nat → Int64) → (Nat → Int32) → Option (Int32 × Int32 × Int32 × Int64 × Int32 × Int32 × Int32 × Int32 × (Nat → Int32) × (Nat → Int32) × (Nat → Int32) × (Nat → Int64) × (Nat → Int32) × (Nat → Int32) × (Nat → Int32) × (Nat → Int32) × (Nat → Int32) × (Nat → Int32) × (Nat → Int64) × (Nat → Int32))
  | 0 => fun _ _ _ _ _ _ _ _ _ _ _ _ _ _ _ _ _ _ _ _ _ _ _ _ _ _ _ => none
  | n + 1 => fX2_readStatements_o (fX2_readStatement_o (fX2_readBranch_o (fX2_readBlock_o (fX2_readStatements_n n))))
theorem fX2_readStatements_n_s (n : Nat) : fX2_readStatements_n (n + 1) = fX2_readStatements_o (fX2_readStatement_o (fX2_readBranch_o (fX2_readBlock_o (fX2_readStatements_n n)))) := by rw [fX2_readStatements_n]
noncomputable def fX2_readStatements : Int32 → Int32 → Int32 → Int32 → Int32 → Int64 → Int32 → Int32 → Int32 → Int32 → Int32 → Int32 → Int32 → (Nat → Int32) → (Nat → Int32) → (Nat → Int32) → (Nat → Int64) → (Nat → Int32) → (Nat → Int32) → (Nat → Int32) → (Nat → Int32) → (Nat → Int32) → (Nat → Int32) → (Nat → Int32) → (Nat → Int64) → (Nat → Int64) → (Nat → Int32) → Option (Int32 × Int32 × Int32 × Int64 × Int32 × Int32 × Int32 × Int32 × (Nat → Int32) × (Nat → Int32) × (Nat → Int32) × (Nat → Int64) × (Nat → Int32) × (Nat → Int32) × (Nat → Int32) × (Nat → Int32) × (Nat → Int32) × (Nat → Int32) × (Nat → Int64) × (Nat → Int32)) := fX2_readStatements_n 12
noncomputable def fX2_readVariable_p78 (v1_size : Int32) (c4 : Nat → Int32) (v0_locals : Int32) (v1_token : Int32) (v1_tokenAt : Int32) (v1_name : Int64) (v1_fault : Int32) (v1_faultAt : Int32) (v1_next : Int32) (v2_globals : Int32) (c3 : (Nat → Int64)) : Option (Int32 × Int32 × Int32 × Int64 × Int32 × Int32 × Int32 × Int32 × (Nat → Int64)) :=
  ob (fX4_failHere 3 v1_token v1_tokenAt v1_fault v1_faultAt) fun o1 =>
  some (v0_locals, o1.1, v1_tokenAt, v1_name, o1.2.1, o1.2.2, v1_next, v2_globals, c3)
noncomputable def fX2_readVariable_p154 (v1_size : Int32) (c4 : Nat → Int32) (v0_locals : Int32) (v1_token : Int32) (v1_tokenAt : Int32) (v1_name : Int64) (v1_fault : Int32) (v1_faultAt : Int32) (v1_next : Int32) (v2_globals : Int32) (c3 : (Nat → Int64)) : Option (Int32 × Int32 × Int32 × Int64 × Int32 × Int32 × Int32 × Int32 × (Nat → Int64)) :=
  ob (fX4_advance v1_token v1_tokenAt v1_name v1_fault v1_faultAt v1_size v1_next c4) fun o2 =>
  some (v0_locals, o2.1, o2.2.1, o2.2.2.1, o2.2.2.2.1, o2.2.2.2.2.1, o2.2.2.2.2.2, v2_globals, c3)
noncomputable def fX2_readVariable_p58 (v1_size : Int32) (c4 : Nat → Int32) (y1 : Int32) (z0 : Int32) (v0_locals : Int32) (v1_token : Int32) (v1_tokenAt : Int32) (v1_name : Int64) (v1_fault : Int32) (v1_faultAt : Int32) (v1_next : Int32) (v2_globals : Int32) (c3 : (Nat → Int64)) : Option (Int32 × Int32 × Int32 × Int64 × Int32 × Int32 × Int32 × Int32 × (Nat → Int64)) :=
  if z0 = 0 then
    ob (fX2_findVariable v1_name v0_locals v2_globals c3) fun o4 =>
    if o4.1 = (-1) then
      if y1 = 0 then
        bd (inb v2_globals 5) <|
        nm (vp_updL c3 v2_globals.toNatClampNeg v1_name) fun c7x =>
        nm (v2_globals + 1) fun x8 =>
        fX2_readVariable_p154 v1_size c4 v0_locals v1_token v1_tokenAt v1_name v1_fault v1_faultAt v1_next x8 c7x
      else
        nm (3 + v0_locals) fun x9 =>
        bd (inb x9 5) <|
        nm (vp_updL c3 x9.toNatClampNeg v1_name) fun c10x =>
        nm (v0_locals + 1) fun x11 =>
        fX2_readVariable_p154 v1_size c4 x11 v1_token v1_tokenAt v1_name v1_fault v1_faultAt v1_next v2_globals c10x
    else
      fX2_readVariable_p78 v1_size c4 v0_locals v1_token v1_tokenAt v1_name v1_fault v1_faultAt v1_next v2_globals c3
  else
    fX2_readVariable_p78 v1_size c4 v0_locals v1_token v1_tokenAt v1_name v1_fault v1_faultAt v1_next v2_globals c3
noncomputable def fX2_readVariable (a0 : Int32) (v0_locals : Int32) (v1_token : Int32) (v1_tokenAt : Int32) (v1_name : Int64) (v1_fault : Int32) (v1_faultAt : Int32) (v1_size : Int32) (v1_next : Int32) (v2_globals : Int32) (c3 : Nat → Int64) (c4 : Nat → Int32) : Option (Int32 × Int32 × Int32 × Int64 × Int32 × Int32 × Int32 × Int32 × (Nat → Int64)) :=
  if v1_token = 258 then
    if a0 = 0 then
      if v2_globals < 3 then
        fX2_readVariable_p58 v1_size c4 a0 0 v0_locals v1_token v1_tokenAt v1_name v1_fault v1_faultAt v1_next v2_globals c3
      else
        fX2_readVariable_p58 v1_size c4 a0 1 v0_locals v1_token v1_tokenAt v1_name v1_fault v1_faultAt v1_next v2_globals c3
    else
      if v0_locals < 2 then
        fX2_readVariable_p58 v1_size c4 a0 0 v0_locals v1_token v1_tokenAt v1_name v1_fault v1_faultAt v1_next v2_globals c3
      else
        fX2_readVariable_p58 v1_size c4 a0 1 v0_locals v1_token v1_tokenAt v1_name v1_fault v1_faultAt v1_next v2_globals c3
  else
    ob (fX4_failHere 2 v1_token v1_tokenAt v1_fault v1_faultAt) fun o16 =>
    some (v0_locals, o16.1, v1_tokenAt, v1_name, o16.2.1, o16.2.2, v1_next, v2_globals, c3)
noncomputable def fX2_readVariables_p49 (v1_size : Int32) (c2 : Nat → Int32) (v0_locals : Int32) (v1_token : Int32) (v1_tokenAt : Int32) (v1_name : Int64) (v1_fault : Int32) (v1_faultAt : Int32) (v1_next : Int32) (v3_globals : Int32) (c4 : (Nat → Int64)) : Option (Int32 × Int32 × Int32 × Int64 × Int32 × Int32 × Int32 × Int32 × (Nat → Int64)) :=
  ob (fX4_skipToken 59 v1_token v1_tokenAt v1_name v1_fault v1_faultAt v1_size v1_next c2) fun o1 =>
  some (v0_locals, o1.2.1, o1.2.2.1, o1.2.2.2.1, o1.2.2.2.2.1, o1.2.2.2.2.2.1, o1.2.2.2.2.2.2, v3_globals, c4)
noncomputable def fX2_readVariables_b14 (v1_size : Int32) (c2 : Nat → Int32) (k14 : Int32 → Int32 → Int32 → Int32 → Int32 → Int64 → Int32 → Int32 → Int32 → Int32 → (Nat → Int64) → Option (Int32 × Int32 × Int32 × Int64 × Int32 × Int32 × Int32 × Int32 × (Nat → Int64))) (y1 : Int32) (y2 : Int32) (v0_locals : Int32) (v1_token : Int32) (v1_tokenAt : Int32) (v1_name : Int64) (v1_fault : Int32) (v1_faultAt : Int32) (v1_next : Int32) (v3_globals : Int32) (c4 : (Nat → Int64)) : Option (Int32 × Int32 × Int32 × Int64 × Int32 × Int32 × Int32 × Int32 × (Nat → Int64)) :=
  if 3 ≤ y2 then
    fX2_readVariables_p49 v1_size c2 v0_locals v1_token v1_tokenAt v1_name v1_fault v1_faultAt v1_next v3_globals c4
  else
    if v1_token = 44 then
      ob (fX4_advance v1_token v1_tokenAt v1_name v1_fault v1_faultAt v1_size v1_next c2) fun o4 =>
      ob (fX2_readVariable y1 v0_locals o4.1 o4.2.1 o4.2.2.1 o4.2.2.2.1 o4.2.2.2.2.1 v1_size o4.2.2.2.2.2 v3_globals c4 c2) fun o5 =>
      nm (y2 + 1) fun x6 =>
      k14 y1 x6 o5.1 o5.2.1 o5.2.2.1 o5.2.2.2.1 o5.2.2.2.2.1 o5.2.2.2.2.2.1 o5.2.2.2.2.2.2.1 o5.2.2.2.2.2.2.2.1 o5.2.2.2.2.2.2.2.2
    else
      fX2_readVariables_p49 v1_size c2 v0_locals v1_token v1_tokenAt v1_name v1_fault v1_faultAt v1_next v3_globals c4
noncomputable def fX2_readVariables_l14 (v1_size : Int32) (c2 : Nat → Int32) : Nat → Int32 → Int32 → Int32 → Int32 → Int32 → Int64 → Int32 → Int32 → Int32 → Int32 → (Nat → Int64) → Option (Int32 × Int32 × Int32 × Int64 × Int32 × Int32 × Int32 × Int32 × (Nat → Int64))
  | 0 => fun _ _ _ _ _ _ _ _ _ _ _ => none
  | n + 1 => fX2_readVariables_b14 v1_size c2  (fX2_readVariables_l14 v1_size c2  n)
noncomputable def fX2_readVariables (a0 : Int32) (v0_locals : Int32) (v1_token : Int32) (v1_tokenAt : Int32) (v1_name : Int64) (v1_fault : Int32) (v1_faultAt : Int32) (v1_size : Int32) (v1_next : Int32) (c2 : Nat → Int32) (v3_globals : Int32) (c4 : Nat → Int64) : Option (Int32 × Int32 × Int32 × Int64 × Int32 × Int32 × Int32 × Int32 × (Nat → Int64)) :=
  ob (fX4_advance v1_token v1_tokenAt v1_name v1_fault v1_faultAt v1_size v1_next c2) fun o7 =>
  ob (fX2_readVariable a0 v0_locals o7.1 o7.2.1 o7.2.2.1 o7.2.2.2.1 o7.2.2.2.2.1 v1_size o7.2.2.2.2.2 v3_globals c4 c2) fun o8 =>
  fX2_readVariables_l14 v1_size c2 FU a0 0 o8.1 o8.2.1 o8.2.2.1 o8.2.2.2.1 o8.2.2.2.2.1 o8.2.2.2.2.2.1 o8.2.2.2.2.2.2.1 o8.2.2.2.2.2.2.2.1 o8.2.2.2.2.2.2.2.2
noncomputable def fX2_readProcedure_p65 (v1_size : Int32) (c2 : Nat → Int32) (v0_locals : Int32) (v1_token : Int32) (v1_tokenAt : Int32) (v1_name : Int64) (v1_fault : Int32) (v1_faultAt : Int32) (v1_next : Int32) (v3_globals : Int32) (v3_procedures : Int32) (v3_statements : Int32) (c4 : (Nat → Int64)) (c5 : (Nat → Int64)) (c6 : (Nat → Int32)) (c7 : (Nat → Int32)) (c8 : (Nat → Int32)) (c9 : (Nat → Int64)) (c10 : (Nat → Int32)) (c11 : (Nat → Int32)) (c12 : (Nat → Int32)) (c13 : (Nat → Int32)) (c14 : (Nat → Int32)) (c15 : (Nat → Int32)) (c16 : (Nat → Int64)) (c17 : (Nat → Int32)) (c18 : (Nat → Int32)) : Option (Int32 × Int32 × Int32 × Int64 × Int32 × Int32 × Int32 × Int32 × Int32 × Int32 × (Nat → Int64) × (Nat → Int64) × (Nat → Int32) × (Nat → Int32) × (Nat → Int32) × (Nat → Int64) × (Nat → Int32) × (Nat → Int32) × (Nat → Int32) × (Nat → Int32) × (Nat → Int32) × (Nat → Int32) × (Nat → Int64) × (Nat → Int32) × (Nat → Int32)) :=
  ob (fX4_failHere 3 v1_token v1_tokenAt v1_fault v1_faultAt) fun o1 =>
  some (v0_locals, o1.1, v1_tokenAt, v1_name, o1.2.1, o1.2.2, v1_next, v3_globals, v3_procedures, v3_statements, c4, c5, c6, c7, c8, c9, c10, c11, c12, c13, c14, c15, c16, c17, c18)
noncomputable def fX2_readProcedure_p160 (v1_size : Int32) (c2 : Nat → Int32) (z0 : Int32) (z1 : Int32) (v0_locals : Int32) (v1_token : Int32) (v1_tokenAt : Int32) (v1_name : Int64) (v1_fault : Int32) (v1_faultAt : Int32) (v1_next : Int32) (v3_globals : Int32) (v3_procedures : Int32) (v3_statements : Int32) (c4 : (Nat → Int64)) (c5 : (Nat → Int64)) (c6 : (Nat → Int32)) (c7 : (Nat → Int32)) (c8 : (Nat → Int32)) (c9 : (Nat → Int64)) (c10 : (Nat → Int32)) (c11 : (Nat → Int32)) (c12 : (Nat → Int32)) (c13 : (Nat → Int32)) (c14 : (Nat → Int32)) (c15 : (Nat → Int32)) (c16 : (Nat → Int64)) (c17 : (Nat → Int32)) (c18 : (Nat → Int32)) : Option (Int32 × Int32 × Int32 × Int64 × Int32 × Int32 × Int32 × Int32 × Int32 × Int32 × (Nat → Int64) × (Nat → Int64) × (Nat → Int32) × (Nat → Int32) × (Nat → Int32) × (Nat → Int64) × (Nat → Int32) × (Nat → Int32) × (Nat → Int32) × (Nat → Int32) × (Nat → Int32) × (Nat → Int32) × (Nat → Int64) × (Nat → Int32) × (Nat → Int32)) :=
  bd (inb z1 6) <|
  nm (upd c18 z1.toNatClampNeg z0) fun c2x =>
  ob (fX4_skipToken 125 v1_token v1_tokenAt v1_name v1_fault v1_faultAt v1_size v1_next c2) fun o3 =>
  some (v0_locals, o3.2.1, o3.2.2.1, o3.2.2.2.1, o3.2.2.2.2.1, o3.2.2.2.2.2.1, o3.2.2.2.2.2.2, v3_globals, v3_procedures, v3_statements, c4, c5, c6, c7, c8, c9, c10, c11, c12, c13, c14, c15, c16, c17, c2x)
noncomputable def fX2_readProcedure_p135 (v1_size : Int32) (c2 : Nat → Int32) (y1 : Int32) (v0_locals : Int32) (v1_token : Int32) (v1_tokenAt : Int32) (v1_name : Int64) (v1_fault : Int32) (v1_faultAt : Int32) (v1_next : Int32) (v3_globals : Int32) (v3_procedures : Int32) (v3_statements : Int32) (c4 : (Nat → Int64)) (c5 : (Nat → Int64)) (c6 : (Nat → Int32)) (c7 : (Nat → Int32)) (c8 : (Nat → Int32)) (c9 : (Nat → Int64)) (c10 : (Nat → Int32)) (c11 : (Nat → Int32)) (c12 : (Nat → Int32)) (c13 : (Nat → Int32)) (c14 : (Nat → Int32)) (c15 : (Nat → Int32)) (c16 : (Nat → Int64)) (c17 : (Nat → Int32)) (c18 : (Nat → Int32)) : Option (Int32 × Int32 × Int32 × Int64 × Int32 × Int32 × Int32 × Int32 × Int32 × Int32 × (Nat → Int64) × (Nat → Int64) × (Nat → Int32) × (Nat → Int32) × (Nat → Int32) × (Nat → Int64) × (Nat → Int32) × (Nat → Int32) × (Nat → Int32) × (Nat → Int32) × (Nat → Int32) × (Nat → Int32) × (Nat → Int64) × (Nat → Int32) × (Nat → Int32)) :=
  ob (fX2_readStatements (-1) 1 v0_locals v1_token v1_tokenAt v1_name v1_fault v1_faultAt v1_size v1_next v3_globals v3_procedures v3_statements c6 c7 c8 c9 c10 c11 c12 c13 c14 c15 c2 c5 c16 c17) fun o4 =>
  if o4.1 = (-1) then
    fX2_readProcedure_p160 v1_size c2 (-1) y1 v0_locals o4.2.1 o4.2.2.1 o4.2.2.2.1 o4.2.2.2.2.1 o4.2.2.2.2.2.1 o4.2.2.2.2.2.2.1 v3_globals v3_procedures o4.2.2.2.2.2.2.2.1 c4 c5 o4.2.2.2.2.2.2.2.2.1 o4.2.2.2.2.2.2.2.2.2.1 o4.2.2.2.2.2.2.2.2.2.2.1 o4.2.2.2.2.2.2.2.2.2.2.2.1 o4.2.2.2.2.2.2.2.2.2.2.2.2.1 o4.2.2.2.2.2.2.2.2.2.2.2.2.2.1 o4.2.2.2.2.2.2.2.2.2.2.2.2.2.2.1 o4.2.2.2.2.2.2.2.2.2.2.2.2.2.2.2.1 o4.2.2.2.2.2.2.2.2.2.2.2.2.2.2.2.2.1 o4.2.2.2.2.2.2.2.2.2.2.2.2.2.2.2.2.2.1 o4.2.2.2.2.2.2.2.2.2.2.2.2.2.2.2.2.2.2.1 o4.2.2.2.2.2.2.2.2.2.2.2.2.2.2.2.2.2.2.2 c18
  else
    fX2_readProcedure_p160 v1_size c2 o4.1 y1 v0_locals o4.2.1 o4.2.2.1 o4.2.2.2.1 o4.2.2.2.2.1 o4.2.2.2.2.2.1 o4.2.2.2.2.2.2.1 v3_globals v3_procedures o4.2.2.2.2.2.2.2.1 c4 c5 o4.2.2.2.2.2.2.2.2.1 o4.2.2.2.2.2.2.2.2.2.1 o4.2.2.2.2.2.2.2.2.2.2.1 o4.2.2.2.2.2.2.2.2.2.2.2.1 o4.2.2.2.2.2.2.2.2.2.2.2.2.1 o4.2.2.2.2.2.2.2.2.2.2.2.2.2.1 o4.2.2.2.2.2.2.2.2.2.2.2.2.2.2.1 o4.2.2.2.2.2.2.2.2.2.2.2.2.2.2.2.1 o4.2.2.2.2.2.2.2.2.2.2.2.2.2.2.2.2.1 o4.2.2.2.2.2.2.2.2.2.2.2.2.2.2.2.2.2.1 o4.2.2.2.2.2.2.2.2.2.2.2.2.2.2.2.2.2.2.1 o4.2.2.2.2.2.2.2.2.2.2.2.2.2.2.2.2.2.2.2 c18
noncomputable def fX2_readProcedure (v0_locals : Int32) (v1_token : Int32) (v1_tokenAt : Int32) (v1_name : Int64) (v1_fault : Int32) (v1_faultAt : Int32) (v1_size : Int32) (v1_next : Int32) (c2 : Nat → Int32) (v3_globals : Int32) (v3_procedures : Int32) (v3_statements : Int32) (c4 : Nat → Int64) (c5 : Nat → Int64) (c6 : Nat → Int32) (c7 : Nat → Int32) (c8 : Nat → Int32) (c9 : Nat → Int64) (c10 : Nat → Int32) (c11 : Nat → Int32) (c12 : Nat → Int32) (c13 : Nat → Int32) (c14 : Nat → Int32) (c15 : Nat → Int32) (c16 : Nat → Int64) (c17 : Nat → Int32) (c18 : Nat → Int32) : Option (Int32 × Int32 × Int32 × Int64 × Int32 × Int32 × Int32 × Int32 × Int32 × Int32 × (Nat → Int64) × (Nat → Int64) × (Nat → Int32) × (Nat → Int32) × (Nat → Int32) × (Nat → Int64) × (Nat → Int32) × (Nat → Int32) × (Nat → Int32) × (Nat → Int32) × (Nat → Int32) × (Nat → Int32) × (Nat → Int64) × (Nat → Int32) × (Nat → Int32)) :=
  ob (fX4_skipToken 260 v1_token v1_tokenAt v1_name v1_fault v1_faultAt v1_size v1_next c2) fun o6 =>
  if o6.1 = 0 then
    some (v0_locals, o6.2.1, o6.2.2.1, o6.2.2.2.1, o6.2.2.2.2.1, o6.2.2.2.2.2.1, o6.2.2.2.2.2.2, v3_globals, v3_procedures, v3_statements, c4, c5, c6, c7, c8, c9, c10, c11, c12, c13, c14, c15, c16, c17, c18)
  else
    if o6.2.1 = 258 then
      if 6 ≤ v3_procedures then
        fX2_readProcedure_p65 v1_size c2 v0_locals o6.2.1 o6.2.2.1 o6.2.2.2.1 o6.2.2.2.2.1 o6.2.2.2.2.2.1 o6.2.2.2.2.2.2 v3_globals v3_procedures v3_statements c4 c5 c6 c7 c8 c9 c10 c11 c12 c13 c14 c15 c16 c17 c18
      else
        ob (fX2_findProcedure o6.2.2.2.1 v3_procedures c4) fun o10 =>
        if o10.1 = (-1) then
          bd (inb v3_procedures 6) <|
          nm (vp_updL c4 v3_procedures.toNatClampNeg o6.2.2.2.1) fun c12x =>
          nm (v3_procedures + 1) fun x13 =>
          ob (fX4_advance o6.2.1 o6.2.2.1 o6.2.2.2.1 o6.2.2.2.2.1 o6.2.2.2.2.2.1 v1_size o6.2.2.2.2.2.2 c2) fun o14 =>
          ob (fX2_readOpenBrace 0 o14.1 o14.2.1 o14.2.2.1 o14.2.2.2.1 o14.2.2.2.2.1 v1_size o14.2.2.2.2.2 c2) fun o15 =>
          if o15.1 = 259 then
            ob (fX2_readVariables 1 0 o15.1 o15.2.1 o15.2.2.1 o15.2.2.2.1 o15.2.2.2.2.1 v1_size o15.2.2.2.2.2 c2 v3_globals c5) fun o17 =>
            fX2_readProcedure_p135 v1_size c2 v3_procedures o17.1 o17.2.1 o17.2.2.1 o17.2.2.2.1 o17.2.2.2.2.1 o17.2.2.2.2.2.1 o17.2.2.2.2.2.2.1 o17.2.2.2.2.2.2.2.1 x13 v3_statements c12x o17.2.2.2.2.2.2.2.2 c6 c7 c8 c9 c10 c11 c12 c13 c14 c15 c16 c17 c18
          else
            fX2_readProcedure_p135 v1_size c2 v3_procedures 0 o15.1 o15.2.1 o15.2.2.1 o15.2.2.2.1 o15.2.2.2.2.1 o15.2.2.2.2.2 v3_globals x13 v3_statements c12x c5 c6 c7 c8 c9 c10 c11 c12 c13 c14 c15 c16 c17 c18
        else
          fX2_readProcedure_p65 v1_size c2 v0_locals o6.2.1 o6.2.2.1 o6.2.2.2.1 o6.2.2.2.2.1 o6.2.2.2.2.2.1 o6.2.2.2.2.2.2 v3_globals v3_procedures v3_statements c4 c5 c6 c7 c8 c9 c10 c11 c12 c13 c14 c15 c16 c17 c18
    else
      ob (fX4_failHere 2 o6.2.1 o6.2.2.1 o6.2.2.2.2.1 o6.2.2.2.2.2.1) fun o18 =>
      some (v0_locals, o18.1, o6.2.2.1, o6.2.2.2.1, o18.2.1, o18.2.2, o6.2.2.2.2.2.2, v3_globals, v3_procedures, v3_statements, c4, c5, c6, c7, c8, c9, c10, c11, c12, c13, c14, c15, c16, c17, c18)
noncomputable def fX2_readProgram_p93 (c3 : Nat → Int32) (v0_locals : Int32) (v1_isThere : Int32) (v1_globals : Int32) (v1_procedures : Int32) (v1_statements : Int32) (v2_token : Int32) (v2_tokenAt : Int32) (v2_name : Int64) (v2_fault : Int32) (v2_faultAt : Int32) (v2_size : Int32) (v2_next : Int32) (c4 : (Nat → Int64)) (c5 : (Nat → Int64)) (c6 : (Nat → Int32)) (c7 : (Nat → Int32)) (c8 : (Nat → Int32)) (c9 : (Nat → Int64)) (c10 : (Nat → Int32)) (c11 : (Nat → Int32)) (c12 : (Nat → Int32)) (c13 : (Nat → Int32)) (c14 : (Nat → Int32)) (c15 : (Nat → Int32)) (c16 : (Nat → Int64)) (c17 : (Nat → Int32)) (c18 : (Nat → Int32)) (c19 : (Nat → Int32)) (c20 : (Nat → Int32)) (c21 : (Nat → Int32)) : Option (Int32 × Int32 × Int32 × Int32 × Int32 × Int32 × Int32 × Int64 × Int32 × Int32 × Int32 × Int32 × (Nat → Int64) × (Nat → Int64) × (Nat → Int32) × (Nat → Int32) × (Nat → Int32) × (Nat → Int64) × (Nat → Int32) × (Nat → Int32) × (Nat → Int32) × (Nat → Int32) × (Nat → Int32) × (Nat → Int32) × (Nat → Int64) × (Nat → Int32) × (Nat → Int32) × (Nat → Int32) × (Nat → Int32) × (Nat → Int32)) :=
  ob (fX2_findCalled v1_procedures v1_statements v2_token v2_fault v2_faultAt c6 c16 c5 c11 c17) fun o1 =>
  ob (fX4_emptyText v2_size) fun o2 =>
  if o1.2.1 = 0 then
    ob (fX3_link v1_statements c13 c12 c6 c19 c20 c21 c14 c15) fun o4 =>
    some (v0_locals, 1, v1_globals, v1_procedures, v1_statements, o1.1, v2_tokenAt, v2_name, o1.2.1, o1.2.2.1, o2, v2_next, c4, c5, c6, c7, c8, c9, c10, o1.2.2.2, c12, c13, c14, c15, c16, c17, c18, o4.1, o4.2.1, o4.2.2)
  else
    ob (fX3_removeAll v1_isThere v1_globals v1_procedures v1_statements) fun o5 =>
    some (v0_locals, o5.1, o5.2.1, o5.2.2.1, o5.2.2.2, o1.1, v2_tokenAt, v2_name, o1.2.1, o1.2.2.1, o2, v2_next, c4, c5, c6, c7, c8, c9, c10, o1.2.2.2, c12, c13, c14, c15, c16, c17, c18, c19, c20, c21)
noncomputable def fX2_readProgram_p72 (c3 : Nat → Int32) (v0_locals : Int32) (v1_isThere : Int32) (v1_globals : Int32) (v1_procedures : Int32) (v1_statements : Int32) (v2_token : Int32) (v2_tokenAt : Int32) (v2_name : Int64) (v2_fault : Int32) (v2_faultAt : Int32) (v2_size : Int32) (v2_next : Int32) (c4 : (Nat → Int64)) (c5 : (Nat → Int64)) (c6 : (Nat → Int32)) (c7 : (Nat → Int32)) (c8 : (Nat → Int32)) (c9 : (Nat → Int64)) (c10 : (Nat → Int32)) (c11 : (Nat → Int32)) (c12 : (Nat → Int32)) (c13 : (Nat → Int32)) (c14 : (Nat → Int32)) (c15 : (Nat → Int32)) (c16 : (Nat → Int64)) (c17 : (Nat → Int32)) (c18 : (Nat → Int32)) (c19 : (Nat → Int32)) (c20 : (Nat → Int32)) (c21 : (Nat → Int32)) : Option (Int32 × Int32 × Int32 × Int32 × Int32 × Int32 × Int32 × Int64 × Int32 × Int32 × Int32 × Int32 × (Nat → Int64) × (Nat → Int64) × (Nat → Int32) × (Nat → Int32) × (Nat → Int32) × (Nat → Int64) × (Nat → Int32) × (Nat → Int32) × (Nat → Int32) × (Nat → Int32) × (Nat → Int32) × (Nat → Int32) × (Nat → Int64) × (Nat → Int32) × (Nat → Int32) × (Nat → Int32) × (Nat → Int32) × (Nat → Int32)) :=
  if v2_token = 256 then
    fX2_readProgram_p93 c3 v0_locals v1_isThere v1_globals v1_procedures v1_statements v2_token v2_tokenAt v2_name v2_fault v2_faultAt v2_size v2_next c4 c5 c6 c7 c8 c9 c10 c11 c12 c13 c14 c15 c16 c17 c18 c19 c20 c21
  else
    ob (fX4_failHere 2 v2_token v2_tokenAt v2_fault v2_faultAt) fun o7 =>
    fX2_readProgram_p93 c3 v0_locals v1_isThere v1_globals v1_procedures v1_statements o7.1 v2_tokenAt v2_name o7.2.1 o7.2.2 v2_size v2_next c4 c5 c6 c7 c8 c9 c10 c11 c12 c13 c14 c15 c16 c17 c18 c19 c20 c21
noncomputable def fX2_readProgram_b43 (c3 : Nat → Int32) (k43 : Int32 → Int32 → Int32 → Int32 → Int32 → Int32 → Int32 → Int32 → Int64 → Int32 → Int32 → Int32 → Int32 → (Nat → Int64) → (Nat → Int64) → (Nat → Int32) → (Nat → Int32) → (Nat → Int32) → (Nat → Int64) → (Nat → Int32) → (Nat → Int32) → (Nat → Int32) → (Nat → Int32) → (Nat → Int32) → (Nat → Int32) → (Nat → Int64) → (Nat → Int32) → (Nat → Int32) → (Nat → Int32) → (Nat → Int32) → (Nat → Int32) → Option (Int32 × Int32 × Int32 × Int32 × Int32 × Int32 × Int32 × Int64 × Int32 × Int32 × Int32 × Int32 × (Nat → Int64) × (Nat → Int64) × (Nat → Int32) × (Nat → Int32) × (Nat → Int32) × (Nat → Int64) × (Nat → Int32) × (Nat → Int32) × (Nat → Int32) × (Nat → Int32) × (Nat → Int32) × (Nat → Int32) × (Nat → Int64) × (Nat → Int32) × (Nat → Int32) × (Nat → Int32) × (Nat → Int32) × (Nat → Int32))) (y1 : Int32) (v0_locals : Int32) (v1_isThere : Int32) (v1_globals : Int32) (v1_procedures : Int32) (v1_statements : Int32) (v2_token : Int32) (v2_tokenAt : Int32) (v2_name : Int64) (v2_fault : Int32) (v2_faultAt : Int32) (v2_size : Int32) (v2_next : Int32) (c4 : (Nat → Int64)) (c5 : (Nat → Int64)) (c6 : (Nat → Int32)) (c7 : (Nat → Int32)) (c8 : (Nat → Int32)) (c9 : (Nat → Int64)) (c10 : (Nat → Int32)) (c11 : (Nat → Int32)) (c12 : (Nat → Int32)) (c13 : (Nat → Int32)) (c14 : (Nat → Int32)) (c15 : (Nat → Int32)) (c16 : (Nat → Int64)) (c17 : (Nat → Int32)) (c18 : (Nat → Int32)) (c19 : (Nat → Int32)) (c20 : (Nat → Int32)) (c21 : (Nat → Int32)) : Option (Int32 × Int32 × Int32 × Int32 × Int32 × Int32 × Int32 × Int64 × Int32 × Int32 × Int32 × Int32 × (Nat → Int64) × (Nat → Int64) × (Nat → Int32) × (Nat → Int32) × (Nat → Int32) × (Nat → Int64) × (Nat → Int32) × (Nat → Int32) × (Nat → Int32) × (Nat → Int32) × (Nat → Int32) × (Nat → Int32) × (Nat → Int64) × (Nat → Int32) × (Nat → Int32) × (Nat → Int32) × (Nat → Int32) × (Nat → Int32)) :=
  if 6 ≤ y1 then
    fX2_readProgram_p72 c3 v0_locals v1_isThere v1_globals v1_procedures v1_statements v2_token v2_tokenAt v2_name v2_fault v2_faultAt v2_size v2_next c4 c5 c6 c7 c8 c9 c10 c11 c12 c13 c14 c15 c16 c17 c18 c19 c20 c21
  else
    if v2_token = 260 then
      ob (fX2_readProcedure v0_locals v2_token v2_tokenAt v2_name v2_fault v2_faultAt v2_size v2_next c3 v1_globals v1_procedures v1_statements c5 c4 c6 c7 c8 c9 c10 c11 c12 c13 c14 c15 c16 c17 c18) fun o10 =>
      nm (y1 + 1) fun x11 =>
      k43 x11 o10.1 v1_isThere o10.2.2.2.2.2.2.2.1 o10.2.2.2.2.2.2.2.2.1 o10.2.2.2.2.2.2.2.2.2.1 o10.2.1 o10.2.2.1 o10.2.2.2.1 o10.2.2.2.2.1 o10.2.2.2.2.2.1 v2_size o10.2.2.2.2.2.2.1 o10.2.2.2.2.2.2.2.2.2.2.2.1 o10.2.2.2.2.2.2.2.2.2.2.1 o10.2.2.2.2.2.2.2.2.2.2.2.2.1 o10.2.2.2.2.2.2.2.2.2.2.2.2.2.1 o10.2.2.2.2.2.2.2.2.2.2.2.2.2.2.1 o10.2.2.2.2.2.2.2.2.2.2.2.2.2.2.2.1 o10.2.2.2.2.2.2.2.2.2.2.2.2.2.2.2.2.1 o10.2.2.2.2.2.2.2.2.2.2.2.2.2.2.2.2.2.1 o10.2.2.2.2.2.2.2.2.2.2.2.2.2.2.2.2.2.2.1 o10.2.2.2.2.2.2.2.2.2.2.2.2.2.2.2.2.2.2.2.1 o10.2.2.2.2.2.2.2.2.2.2.2.2.2.2.2.2.2.2.2.2.1 o10.2.2.2.2.2.2.2.2.2.2.2.2.2.2.2.2.2.2.2.2.2.1 o10.2.2.2.2.2.2.2.2.2.2.2.2.2.2.2.2.2.2.2.2.2.2.1 o10.2.2.2.2.2.2.2.2.2.2.2.2.2.2.2.2.2.2.2.2.2.2.2.1 o10.2.2.2.2.2.2.2.2.2.2.2.2.2.2.2.2.2.2.2.2.2.2.2.2 c19 c20 c21
    else
      fX2_readProgram_p72 c3 v0_locals v1_isThere v1_globals v1_procedures v1_statements v2_token v2_tokenAt v2_name v2_fault v2_faultAt v2_size v2_next c4 c5 c6 c7 c8 c9 c10 c11 c12 c13 c14 c15 c16 c17 c18 c19 c20 c21
noncomputable def fX2_readProgram_l43 (c3 : Nat → Int32) : Nat → Int32 → Int32 → Int32 → Int32 → Int32 → Int32 → Int32 → Int32 → Int64 → Int32 → Int32 → Int32 → Int32 → (Nat → Int64) → (Nat → Int64) → (Nat → Int32) → (Nat → Int32) → (Nat → Int32) → (Nat → Int64) → (Nat → Int32) → (Nat → Int32) → (Nat → Int32) → (Nat → Int32) → (Nat → Int32) → (Nat → Int32) → (Nat → Int64) → (Nat → Int32) → (Nat → Int32) → (Nat → Int32) → (Nat → Int32) → (Nat → Int32) → Option (Int32 × Int32 × Int32 × Int32 × Int32 × Int32 × Int32 × Int64 × Int32 × Int32 × Int32 × Int32 × (Nat → Int64) × (Nat → Int64) × (Nat → Int32) × (Nat → Int32) × (Nat → Int32) × (Nat → Int64) × (Nat → Int32) × (Nat → Int32) × (Nat → Int32) × (Nat → Int32) × (Nat → Int32) × (Nat → Int32) × (Nat → Int64) × (Nat → Int32) × (Nat → Int32) × (Nat → Int32) × (Nat → Int32) × (Nat → Int32))
  | 0 => fun _ _ _ _ _ _ _ _ _ _ _ _ _ _ _ _ _ _ _ _ _ _ _ _ _ _ _ _ _ _ _ => none
  | n + 1 => fX2_readProgram_b43 c3  (fX2_readProgram_l43 c3  n)
noncomputable def fX2_readProgram_p37 (c3 : Nat → Int32) (v0_locals : Int32) (v1_isThere : Int32) (v1_globals : Int32) (v1_procedures : Int32) (v1_statements : Int32) (v2_token : Int32) (v2_tokenAt : Int32) (v2_name : Int64) (v2_fault : Int32) (v2_faultAt : Int32) (v2_size : Int32) (v2_next : Int32) (c4 : (Nat → Int64)) (c5 : (Nat → Int64)) (c6 : (Nat → Int32)) (c7 : (Nat → Int32)) (c8 : (Nat → Int32)) (c9 : (Nat → Int64)) (c10 : (Nat → Int32)) (c11 : (Nat → Int32)) (c12 : (Nat → Int32)) (c13 : (Nat → Int32)) (c14 : (Nat → Int32)) (c15 : (Nat → Int32)) (c16 : (Nat → Int64)) (c17 : (Nat → Int32)) (c18 : (Nat → Int32)) (c19 : (Nat → Int32)) (c20 : (Nat → Int32)) (c21 : (Nat → Int32)) : Option (Int32 × Int32 × Int32 × Int32 × Int32 × Int32 × Int32 × Int64 × Int32 × Int32 × Int32 × Int32 × (Nat → Int64) × (Nat → Int64) × (Nat → Int32) × (Nat → Int32) × (Nat → Int32) × (Nat → Int64) × (Nat → Int32) × (Nat → Int32) × (Nat → Int32) × (Nat → Int32) × (Nat → Int32) × (Nat → Int32) × (Nat → Int64) × (Nat → Int32) × (Nat → Int32) × (Nat → Int32) × (Nat → Int32) × (Nat → Int32)) :=
  ob (fX2_readProcedure v0_locals v2_token v2_tokenAt v2_name v2_fault v2_faultAt v2_size v2_next c3 v1_globals v1_procedures v1_statements c5 c4 c6 c7 c8 c9 c10 c11 c12 c13 c14 c15 c16 c17 c18) fun o12 =>
  fX2_readProgram_l43 c3 FU 0 o12.1 v1_isThere o12.2.2.2.2.2.2.2.1 o12.2.2.2.2.2.2.2.2.1 o12.2.2.2.2.2.2.2.2.2.1 o12.2.1 o12.2.2.1 o12.2.2.2.1 o12.2.2.2.2.1 o12.2.2.2.2.2.1 v2_size o12.2.2.2.2.2.2.1 o12.2.2.2.2.2.2.2.2.2.2.2.1 o12.2.2.2.2.2.2.2.2.2.2.1 o12.2.2.2.2.2.2.2.2.2.2.2.2.1 o12.2.2.2.2.2.2.2.2.2.2.2.2.2.1 o12.2.2.2.2.2.2.2.2.2.2.2.2.2.2.1 o12.2.2.2.2.2.2.2.2.2.2.2.2.2.2.2.1 o12.2.2.2.2.2.2.2.2.2.2.2.2.2.2.2.2.1 o12.2.2.2.2.2.2.2.2.2.2.2.2.2.2.2.2.2.1 o12.2.2.2.2.2.2.2.2.2.2.2.2.2.2.2.2.2.2.1 o12.2.2.2.2.2.2.2.2.2.2.2.2.2.2.2.2.2.2.2.1 o12.2.2.2.2.2.2.2.2.2.2.2.2.2.2.2.2.2.2.2.2.1 o12.2.2.2.2.2.2.2.2.2.2.2.2.2.2.2.2.2.2.2.2.2.1 o12.2.2.2.2.2.2.2.2.2.2.2.2.2.2.2.2.2.2.2.2.2.2.1 o12.2.2.2.2.2.2.2.2.2.2.2.2.2.2.2.2.2.2.2.2.2.2.2.1 o12.2.2.2.2.2.2.2.2.2.2.2.2.2.2.2.2.2.2.2.2.2.2.2.2 c19 c20 c21
noncomputable def fX2_readProgram (v0_locals : Int32) (v1_isThere : Int32) (v1_globals : Int32) (v1_procedures : Int32) (v1_statements : Int32) (v2_token : Int32) (v2_tokenAt : Int32) (v2_name : Int64) (v2_fault : Int32) (v2_faultAt : Int32) (v2_size : Int32) (v2_next : Int32) (c3 : Nat → Int32) (c4 : Nat → Int64) (c5 : Nat → Int64) (c6 : Nat → Int32) (c7 : Nat → Int32) (c8 : Nat → Int32) (c9 : Nat → Int64) (c10 : Nat → Int32) (c11 : Nat → Int32) (c12 : Nat → Int32) (c13 : Nat → Int32) (c14 : Nat → Int32) (c15 : Nat → Int32) (c16 : Nat → Int64) (c17 : Nat → Int32) (c18 : Nat → Int32) (c19 : Nat → Int32) (c20 : Nat → Int32) (c21 : Nat → Int32) : Option (Int32 × Int32 × Int32 × Int32 × Int32 × Int32 × Int32 × Int64 × Int32 × Int32 × Int32 × Int32 × (Nat → Int64) × (Nat → Int64) × (Nat → Int32) × (Nat → Int32) × (Nat → Int32) × (Nat → Int64) × (Nat → Int32) × (Nat → Int32) × (Nat → Int32) × (Nat → Int32) × (Nat → Int32) × (Nat → Int32) × (Nat → Int64) × (Nat → Int32) × (Nat → Int32) × (Nat → Int32) × (Nat → Int32) × (Nat → Int32)) :=
  ob (fX3_removeAll v1_isThere v1_globals v1_procedures v1_statements) fun o13 =>
  ob (fX4_begin v2_token v2_tokenAt v2_name v2_fault v2_faultAt v2_size v2_next c3) fun o14 =>
  if o14.1 = 259 then
    ob (fX2_readVariables 0 0 o14.1 o14.2.1 o14.2.2.1 o14.2.2.2.1 o14.2.2.2.2.1 v2_size o14.2.2.2.2.2 c3 o13.2.1 c4) fun o16 =>
    fX2_readProgram_p37 c3 o16.1 o13.1 o16.2.2.2.2.2.2.2.1 o13.2.2.1 o13.2.2.2 o16.2.1 o16.2.2.1 o16.2.2.2.1 o16.2.2.2.2.1 o16.2.2.2.2.2.1 v2_size o16.2.2.2.2.2.2.1 o16.2.2.2.2.2.2.2.2 c5 c6 c7 c8 c9 c10 c11 c12 c13 c14 c15 c16 c17 c18 c19 c20 c21
  else
    fX2_readProgram_p37 c3 0 o13.1 o13.2.1 o13.2.2.1 o13.2.2.2 o14.1 o14.2.1 o14.2.2.1 o14.2.2.2.1 o14.2.2.2.2.1 v2_size o14.2.2.2.2.2 c4 c5 c6 c7 c8 c9 c10 c11 c12 c13 c14 c15 c16 c17 c18 c19 c20 c21
noncomputable def fX0_globalsOf (a0 : Int32) : Option (Int32 × Unit) :=
  nm ((a0.toUInt32 >>> ((8 : Int32).toUInt32 &&& Int32.toUInt32 31)).toInt32) fun x1 =>
  nm (a0 ||| x1) fun x2 =>
  nm ((a0.toUInt32 >>> ((16 : Int32).toUInt32 &&& Int32.toUInt32 31)).toInt32) fun x3 =>
  nm (x2 ||| x3) fun x4 =>
  nm ((a0.toUInt32 >>> ((24 : Int32).toUInt32 &&& Int32.toUInt32 31)).toInt32) fun x5 =>
  nm (x4 ||| x5) fun x6 =>
  nm (x6 &&& 255) fun x7 =>
  some (x7, ())
noncomputable def fX0_isNewer_p24 (c1 : Nat → Int32) (c2 : Nat → Int32) (z0 : Int32) : Option (Int32 × Unit) :=
  bd (bz z0) <|
  some (z0, ())
noncomputable def fX0_isNewer_p23 (c1 : Nat → Int32) (c2 : Nat → Int32)  : Option (Int32 × Unit) :=
  fX0_isNewer_p24 c1 c2 0
noncomputable def fX0_isNewer (a0 : Int32) (a1 : Int32) (c1 : Nat → Int32) (c2 : Nat → Int32) : Option (Int32 × Unit) :=
  if a0 < 0 then
    fX0_isNewer_p23 c1 c2 
  else
    bd (inb a0 40) <|
    nm (c1 a0.toNatClampNeg) fun x4 =>
    bd (inb a1 40) <|
    nm (c2 a1.toNatClampNeg) fun x6 =>
    if x4 < x6 then
      fX0_isNewer_p23 c1 c2 
    else
      fX0_isNewer_p24 c1 c2 1
noncomputable def fX0_isStale_p43 (c1 : Nat → Int32) (c3 : Nat → Int32) (c4 : Nat → Int32) (c5 : Nat → Int32) (c6 : Nat → Int32) (c7 : Nat → Int32) (c8 : Nat → Int32)  : Option (Int32 × Unit) :=
  some (1, ())
noncomputable def fX0_isStale_p88 (c1 : Nat → Int32) (c3 : Nat → Int32) (c4 : Nat → Int32) (c5 : Nat → Int32) (c6 : Nat → Int32) (c7 : Nat → Int32) (c8 : Nat → Int32) (z0 : Int32) : Option (Int32 × Unit) :=
  bd (bz z0) <|
  some (z0, ())
noncomputable def fX0_isStale_p87 (c1 : Nat → Int32) (c3 : Nat → Int32) (c4 : Nat → Int32) (c5 : Nat → Int32) (c6 : Nat → Int32) (c7 : Nat → Int32) (c8 : Nat → Int32)  : Option (Int32 × Unit) :=
  fX0_isStale_p88 c1 c3 c4 c5 c6 c7 c8 0
noncomputable def fX0_isStale (a0 : Int32) (c1 : Nat → Int32) (c3 : Nat → Int32) (c4 : Nat → Int32) (c5 : Nat → Int32) (c6 : Nat → Int32) (c7 : Nat → Int32) (c8 : Nat → Int32) : Option (Int32 × Unit) :=
  bd (inb a0 40) <|
  nm (c1 a0.toNatClampNeg) fun x3 =>
  if x3 = 0 then
    fX0_isStale_p43 c1 c3 c4 c5 c6 c7 c8 
  else
    bd (inb a0 40) <|
    nm (c3 a0.toNatClampNeg) fun x6 =>
    ob (fX0_isNewer x6 a0 c4 c1) fun o7 =>
    if o7.1 = 0 then
      bd (inb a0 40) <|
      nm (c5 a0.toNatClampNeg) fun x10 =>
      ob (fX0_isNewer x10 a0 c4 c1) fun o11 =>
      if o11.1 = 0 then
        bd (inb a0 40) <|
        nm (c6 a0.toNatClampNeg) fun x14 =>
        if x14 = 3 then
          bd (inb a0 40) <|
          nm (c7 a0.toNatClampNeg) fun x17 =>
          bd (inb x17 6) <|
          nm (c8 x17.toNatClampNeg) fun x19 =>
          ob (fX0_isNewer x19 a0 c4 c1) fun o20 =>
          if o20.1 = 0 then
            fX0_isStale_p87 c1 c3 c4 c5 c6 c7 c8 
          else
            fX0_isStale_p88 c1 c3 c4 c5 c6 c7 c8 1
        else
          fX0_isStale_p87 c1 c3 c4 c5 c6 c7 c8 
      else
        fX0_isStale_p43 c1 c3 c4 c5 c6 c7 c8 
    else
      fX0_isStale_p43 c1 c3 c4 c5 c6 c7 c8 
noncomputable def fX0_row (a0 : Int32) (a1 : Int32) : Option (Int32 × Unit) :=
  nm (a0 * 32) fun x1 =>
  nm (x1 + a1) fun x2 =>
  nm (x2 * 9) fun x3 =>
  some (x3, ())
noncomputable def fX0_lower (a0 : Int32) (a1 : Int32) (c1 : Nat → Int32) : Option (Int32 × (Nat → Int32)) :=
  if a1 < 536870912 then
    nm (if 1000000 < a1 then 1000000 else a1) fun x2 =>
    bd (inb a0 11520) <|
    nm (c1 a0.toNatClampNeg) fun x4 =>
    if x2 < x4 then
      bd (inb a0 11520) <|
      nm (upd c1 a0.toNatClampNeg x2) fun c6x =>
      some (1, c6x)
    else
      some (0, c1)
  else
    some (0, c1)
noncomputable def fX0_lowerRow_b54  (k54 : Int32 → Int32 → Int32 → Int32 → Int32 → (Nat → Int32) → Option (Int32 × (Nat → Int32))) (y1 : Int32) (y4 : Int32) (y5 : Int32) (y6 : Int32) (y7 : Int32) (c1 : (Nat → Int32)) : Option (Int32 × (Nat → Int32)) :=
  if 9 ≤ y7 then
    bd (bz y6) <|
    some (y6, c1)
  else
    nm (y1 + y7) fun x3 =>
    nm (y5 + y7) fun x4 =>
    bd (inb x4 11520) <|
    nm (c1 x4.toNatClampNeg) fun x6 =>
    nm (x6 + y4) fun x7 =>
    ob (fX0_lower x3 x7 c1) fun o8 =>
    nm (y6 ||| o8.1) fun x9 =>
    nm (y7 + 1) fun x10 =>
    k54 y1 y4 y5 x9 x10 o8.2
noncomputable def fX0_lowerRow_l54  : Nat → Int32 → Int32 → Int32 → Int32 → Int32 → (Nat → Int32) → Option (Int32 × (Nat → Int32))
  | 0 => fun _ _ _ _ _ _ => none
  | n + 1 => fX0_lowerRow_b54   (fX0_lowerRow_l54   n)
noncomputable def fX0_lowerRow (a0 : Int32) (a1 : Int32) (a2 : Int32) (a3 : Int32) (c1 : Nat → Int32) : Option (Int32 × (Nat → Int32)) :=
  if a1 = (-1) then
    nm (a2 &&& 7) fun x18 =>
    nm (a0 + x18) fun x19 =>
    ob (fX0_lower x19 a3 c1) fun o20 =>
    bd (bz o20.1) <|
    some (o20.1, o20.2)
  else
    if a1 = (-2) then
      nm (a0 + 8) fun x15 =>
      ob (fX0_lower x15 a3 c1) fun o16 =>
      bd (bz o16.1) <|
      some (o16.1, o16.2)
    else
      if 0 ≤ a1 then
        ob (fX0_row a1 a2) fun o14 =>
        fX0_lowerRow_l54 FU a0 a3 o14.1 0 0 c1
      else
        some (0, c1)
noncomputable def fX0_lowerByCall_p140 (c2 : Nat → Int32) (c3 : Nat → Int32) (c4 : Nat → Int32) (c5 : Nat → Int32) (k93 : Int32 → Int32 → Int32 → Int32 → Int32 → Int32 → (Nat → Int32) → Option (Int32 × (Nat → Int32))) (y3 : Int32) (y4 : Int32) (y6 : Int32) (y7 : Int32) (y8 : Int32) (y9 : Int32) (c6 : (Nat → Int32)) : Option (Int32 × (Nat → Int32)) :=
  nm (y9 + 1) fun x1 =>
  k93 y3 y4 y6 y7 y8 x1 c6
noncomputable def fX0_lowerByCall_b93 (c2 : Nat → Int32) (c3 : Nat → Int32) (c4 : Nat → Int32) (c5 : Nat → Int32) (k93 : Int32 → Int32 → Int32 → Int32 → Int32 → Int32 → (Nat → Int32) → Option (Int32 × (Nat → Int32))) (y3 : Int32) (y4 : Int32) (y6 : Int32) (y7 : Int32) (y8 : Int32) (y9 : Int32) (c6 : (Nat → Int32)) : Option (Int32 × (Nat → Int32)) :=
  if 8 ≤ y9 then
    bd (bz y8) <|
    some (y8, c6)
  else
    nm (y6 + y9) fun x4 =>
    bd (inb x4 11520) <|
    nm (c6 x4.toNatClampNeg) fun x6 =>
    if 536870912 ≤ x6 then
      fX0_lowerByCall_p140 c2 c3 c4 c5 k93 y3 y4 y6 y7 y8 y9 c6
    else
      nm (y7 ||| y9) fun x8 =>
      nm (x6 + 1) fun x9 =>
      ob (fX0_lowerRow y3 y4 x8 x9 c6) fun o10 =>
      nm (y8 ||| o10.1) fun x11 =>
      fX0_lowerByCall_p140 c2 c3 c4 c5 k93 y3 y4 y6 y7 x11 y9 o10.2
noncomputable def fX0_lowerByCall_l93 (c2 : Nat → Int32) (c3 : Nat → Int32) (c4 : Nat → Int32) (c5 : Nat → Int32) : Nat → Int32 → Int32 → Int32 → Int32 → Int32 → Int32 → (Nat → Int32) → Option (Int32 × (Nat → Int32))
  | 0 => fun _ _ _ _ _ _ _ => none
  | n + 1 => fX0_lowerByCall_b93 c2 c3 c4 c5  (fX0_lowerByCall_l93 c2 c3 c4 c5  n)
noncomputable def fX0_lowerByCall (a0 : Int32) (a1 : Int32) (c2 : Nat → Int32) (c3 : Nat → Int32) (c4 : Nat → Int32) (c5 : Nat → Int32) (c6 : Nat → Int32) : Option (Int32 × (Nat → Int32)) :=
  ob (fX0_row a0 a1) fun o12 =>
  ob (fX3_pointAfter a0 1 c2 c3) fun o13 =>
  bd (inb a0 40) <|
  nm (c4 a0.toNatClampNeg) fun x15 =>
  bd (inb x15 6) <|
  nm (c5 x15.toNatClampNeg) fun x17 =>
  if 0 ≤ x17 then
    nm (a1 &&& 7) fun x19 =>
    ob (fX0_row x17 x19) fun o20 =>
    nm (a1 &&& 24) fun x21 =>
    nm (o12.1 + 8) fun x22 =>
    nm (o20.1 + 8) fun x23 =>
    bd (inb x23 11520) <|
    nm (c6 x23.toNatClampNeg) fun x25 =>
    nm (x25 + 1) fun x26 =>
    ob (fX0_lower x22 x26 c6) fun o27 =>
    fX0_lowerByCall_l93 c2 c3 c4 c5 FU o12.1 o13.1 o20.1 x21 o27.1 0 o27.2
  else
    ob (fX0_lowerRow o12.1 o13.1 a1 1 c6) fun o28 =>
    bd (bz o28.1) <|
    some (o28.1, o28.2)
noncomputable def fX0_lowerByStep_p66 (c2 : Nat → Int64) (c3 : Nat → Int32) (c4 : Nat → Int32) (c5 : Nat → Int32) (c6 : Nat → Int32) (k5 : Int32 → Int32 → Int32 → Int32 → (Nat → Int32) → Option (Int32 × (Nat → Int32))) (y1 : Int32) (y2 : Int32) (y3 : Int32) (y4 : Int32) (c7 : (Nat → Int32)) : Option (Int32 × (Nat → Int32)) :=
  nm (y4 + 1) fun x1 =>
  k5 y1 y2 y3 x1 c7
noncomputable def fX0_lowerByStep_b5 (c2 : Nat → Int64) (c3 : Nat → Int32) (c4 : Nat → Int32) (c5 : Nat → Int32) (c6 : Nat → Int32) (k5 : Int32 → Int32 → Int32 → Int32 → (Nat → Int32) → Option (Int32 × (Nat → Int32))) (y1 : Int32) (y2 : Int32) (y3 : Int32) (y4 : Int32) (c7 : (Nat → Int32)) : Option (Int32 × (Nat → Int32)) :=
  if 1 < y4 then
    bd (bz y3) <|
    some (y3, c7)
  else
    ob (fX3_settingsFor y1 y4 c2) fun o4 =>
    nm ((o4.1.toUInt32 >>> (y2.toUInt32 &&& Int32.toUInt32 31)).toInt32) fun x5 =>
    nm (x5 &&& 1) fun x6 =>
    if x6 = 0 then
      fX0_lowerByStep_p66 c2 c3 c4 c5 c6 k5 y1 y2 y3 y4 c7
    else
      ob (fX3_settingAfter y1 y2 y4 c3 c4) fun o8 =>
      ob (fX0_row y1 y2) fun o9 =>
      ob (fX3_pointAfter y1 y4 c5 c6) fun o10 =>
      ob (fX0_lowerRow o9.1 o10.1 o8.1 1 c7) fun o11 =>
      nm (y3 ||| o11.1) fun x12 =>
      fX0_lowerByStep_p66 c2 c3 c4 c5 c6 k5 y1 y2 x12 y4 o11.2
noncomputable def fX0_lowerByStep_l5 (c2 : Nat → Int64) (c3 : Nat → Int32) (c4 : Nat → Int32) (c5 : Nat → Int32) (c6 : Nat → Int32) : Nat → Int32 → Int32 → Int32 → Int32 → (Nat → Int32) → Option (Int32 × (Nat → Int32))
  | 0 => fun _ _ _ _ _ => none
  | n + 1 => fX0_lowerByStep_b5 c2 c3 c4 c5 c6  (fX0_lowerByStep_l5 c2 c3 c4 c5 c6  n)
noncomputable def fX0_lowerByStep (a0 : Int32) (a1 : Int32) (c2 : Nat → Int64) (c3 : Nat → Int32) (c4 : Nat → Int32) (c5 : Nat → Int32) (c6 : Nat → Int32) (c7 : Nat → Int32) : Option (Int32 × (Nat → Int32)) :=
  fX0_lowerByStep_l5 c2 c3 c4 c5 c6 FU a0 a1 0 0 c7
noncomputable def fX0_lookAt_p109 (c3 : Nat → Int32) (c4 : Nat → Int32) (c5 : Nat → Int32) (c6 : Nat → Int32) (c7 : Nat → Int32) (c8 : Nat → Int32) (c10 : Nat → Int64) (c11 : Nat → Int32) (y3 : Int32) (v0_looks : Int32) (c1 : (Nat → Int32)) (c9 : (Nat → Int32)) (c12 : (Nat → Int32)) : Option (Int32 × Int32 × (Nat → Int32) × (Nat → Int32) × (Nat → Int32)) :=
  bd (bz y3) <|
  some (y3, (v0_looks, c1, c9, c12))
noncomputable def fX0_lookAt_p89 (c3 : Nat → Int32) (c4 : Nat → Int32) (c5 : Nat → Int32) (c6 : Nat → Int32) (c7 : Nat → Int32) (c8 : Nat → Int32) (c10 : Nat → Int64) (c11 : Nat → Int32) (k44 : Int32 → Int32 → Int32 → Int32 → Int32 → (Nat → Int32) → (Nat → Int32) → (Nat → Int32) → Option (Int32 × Int32 × (Nat → Int32) × (Nat → Int32) × (Nat → Int32))) (y1 : Int32) (y2 : Int32) (y3 : Int32) (y4 : Int32) (v0_looks : Int32) (c1 : (Nat → Int32)) (c9 : (Nat → Int32)) (c12 : (Nat → Int32)) : Option (Int32 × Int32 × (Nat → Int32) × (Nat → Int32) × (Nat → Int32)) :=
  nm (y4 + 1) fun x2 =>
  k44 y1 y2 y3 x2 v0_looks c1 c9 c12
noncomputable def fX0_lookAt_p87 (c3 : Nat → Int32) (c4 : Nat → Int32) (c5 : Nat → Int32) (c6 : Nat → Int32) (c7 : Nat → Int32) (c8 : Nat → Int32) (c10 : Nat → Int64) (c11 : Nat → Int32) (k44 : Int32 → Int32 → Int32 → Int32 → Int32 → (Nat → Int32) → (Nat → Int32) → (Nat → Int32) → Option (Int32 × Int32 × (Nat → Int32) × (Nat → Int32) × (Nat → Int32))) (y1 : Int32) (y2 : Int32) (y4 : Int32) (z0 : Int32) (z1 : Int32) (v0_looks : Int32) (c1 : (Nat → Int32)) (c9 : (Nat → Int32)) (c12 : (Nat → Int32)) : Option (Int32 × Int32 × (Nat → Int32) × (Nat → Int32) × (Nat → Int32)) :=
  nm (z1 ||| z0) fun x3 =>
  fX0_lookAt_p89 c3 c4 c5 c6 c7 c8 c10 c11 k44 y1 y2 x3 y4 v0_looks c1 c9 c12
noncomputable def fX0_lookAt_b44 (c3 : Nat → Int32) (c4 : Nat → Int32) (c5 : Nat → Int32) (c6 : Nat → Int32) (c7 : Nat → Int32) (c8 : Nat → Int32) (c10 : Nat → Int64) (c11 : Nat → Int32) (k44 : Int32 → Int32 → Int32 → Int32 → Int32 → (Nat → Int32) → (Nat → Int32) → (Nat → Int32) → Option (Int32 × Int32 × (Nat → Int32) × (Nat → Int32) × (Nat → Int32))) (y1 : Int32) (y2 : Int32) (y3 : Int32) (y4 : Int32) (v0_looks : Int32) (c1 : (Nat → Int32)) (c9 : (Nat → Int32)) (c12 : (Nat → Int32)) : Option (Int32 × Int32 × (Nat → Int32) × (Nat → Int32) × (Nat → Int32)) :=
  if 32 ≤ y4 then
    if y3 = 0 then
      fX0_lookAt_p109 c3 c4 c5 c6 c7 c8 c10 c11 y3 v0_looks c1 c9 c12
    else
      bd (inb y1 40) <|
      nm (upd c12 y1.toNatClampNeg v0_looks) fun c6x =>
      fX0_lookAt_p109 c3 c4 c5 c6 c7 c8 c10 c11 y3 v0_looks c1 c9 c6x
  else
    bd (inb y1 40) <|
    nm (c4 y1.toNatClampNeg) fun x8 =>
    nm ((x8.toUInt32 >>> (y4.toUInt32 &&& Int32.toUInt32 31)).toInt32) fun x9 =>
    nm (x9 &&& 1) fun x10 =>
    if x10 = 0 then
      fX0_lookAt_p89 c3 c4 c5 c6 c7 c8 c10 c11 k44 y1 y2 y3 y4 v0_looks c1 c9 c12
    else
      if y2 = 0 then
        ob (fX0_lowerByStep y1 y4 c10 c3 c11 c5 c6 c9) fun o13 =>
        fX0_lookAt_p87 c3 c4 c5 c6 c7 c8 c10 c11 k44 y1 y2 y4 o13.1 y3 v0_looks c1 o13.2 c12
      else
        ob (fX0_lowerByCall y1 y4 c5 c6 c7 c8 c9) fun o14 =>
        fX0_lookAt_p87 c3 c4 c5 c6 c7 c8 c10 c11 k44 y1 y2 y4 o14.1 y3 v0_looks c1 o14.2 c12
noncomputable def fX0_lookAt_l44 (c3 : Nat → Int32) (c4 : Nat → Int32) (c5 : Nat → Int32) (c6 : Nat → Int32) (c7 : Nat → Int32) (c8 : Nat → Int32) (c10 : Nat → Int64) (c11 : Nat → Int32) : Nat → Int32 → Int32 → Int32 → Int32 → Int32 → (Nat → Int32) → (Nat → Int32) → (Nat → Int32) → Option (Int32 × Int32 × (Nat → Int32) × (Nat → Int32) × (Nat → Int32))
  | 0 => fun _ _ _ _ _ _ _ _ => none
  | n + 1 => fX0_lookAt_b44 c3 c4 c5 c6 c7 c8 c10 c11  (fX0_lookAt_l44 c3 c4 c5 c6 c7 c8 c10 c11  n)
noncomputable def fX0_lookAt_p38 (c3 : Nat → Int32) (c4 : Nat → Int32) (c5 : Nat → Int32) (c6 : Nat → Int32) (c7 : Nat → Int32) (c8 : Nat → Int32) (c10 : Nat → Int64) (c11 : Nat → Int32) (y1 : Int32) (z0 : Int32) (v0_looks : Int32) (c1 : (Nat → Int32)) (c9 : (Nat → Int32)) (c12 : (Nat → Int32)) : Option (Int32 × Int32 × (Nat → Int32) × (Nat → Int32) × (Nat → Int32)) :=
  fX0_lookAt_l44 c3 c4 c5 c6 c7 c8 c10 c11 FU y1 z0 0 0 v0_looks c1 c9 c12
noncomputable def fX0_lookAt (a0 : Int32) (v0_looks : Int32) (c1 : Nat → Int32) (c3 : Nat → Int32) (c4 : Nat → Int32) (c5 : Nat → Int32) (c6 : Nat → Int32) (c7 : Nat → Int32) (c8 : Nat → Int32) (c9 : Nat → Int32) (c10 : Nat → Int64) (c11 : Nat → Int32) (c12 : Nat → Int32) : Option (Int32 × Int32 × (Nat → Int32) × (Nat → Int32) × (Nat → Int32)) :=
  nm (v0_looks + 1) fun x15 =>
  bd (inb a0 40) <|
  nm (upd c1 a0.toNatClampNeg x15) fun c16x =>
  bd (inb a0 40) <|
  nm (c3 a0.toNatClampNeg) fun x18 =>
  if x18 = 3 then
    fX0_lookAt_p38 c3 c4 c5 c6 c7 c8 c10 c11 a0 1 x15 c16x c9 c12
  else
    fX0_lookAt_p38 c3 c4 c5 c6 c7 c8 c10 c11 a0 0 x15 c16x c9 c12
noncomputable def fX0_reachPoint_p83  (z0 : Int32) (c1 : (Nat → Int32)) (c2 : (Nat → Int32)) : Option (Int32 × (Nat → Int32) × (Nat → Int32)) :=
  bd (bz z0) <|
  some (z0, (c1, c2))
noncomputable def fX0_reachPoint_p38  (z0 : Int32) (c1 : (Nat → Int32)) (c2 : (Nat → Int32)) : Option (Int32 × (Nat → Int32) × (Nat → Int32)) :=
  bd (bz z0) <|
  some (z0, (c1, c2))
noncomputable def fX0_reachPoint (a0 : Int32) (a1 : Int32) (a2 : Int32) (c1 : Nat → Int32) (c2 : Nat → Int32) : Option (Int32 × (Nat → Int32) × (Nat → Int32)) :=
  if a0 < 0 then
    if a0 = (-1) then
      bd (inb a2 6) <|
      nm (c2 a2.toNatClampNeg) fun x6 =>
      bd (inb a2 6) <|
      nm (c2 a2.toNatClampNeg) fun x8 =>
      ob (fX0_globalsOf a1) fun o9 =>
      nm (x8 ||| o9.1) fun x10 =>
      bd (inb a2 6) <|
      nm (upd c2 a2.toNatClampNeg x10) fun c11x =>
      bd (inb a2 6) <|
      nm (c11x a2.toNatClampNeg) fun x13 =>
      if x13 = x6 then
        fX0_reachPoint_p83 0 c1 c11x
      else
        fX0_reachPoint_p83 1 c1 c11x
    else
      some (0, (c1, c2))
  else
    bd (inb a0 40) <|
    nm (c1 a0.toNatClampNeg) fun x16 =>
    bd (inb a0 40) <|
    nm (c1 a0.toNatClampNeg) fun x18 =>
    nm (x18 ||| a1) fun x19 =>
    bd (inb a0 40) <|
    nm (upd c1 a0.toNatClampNeg x19) fun c20x =>
    bd (inb a0 40) <|
    nm (c20x a0.toNatClampNeg) fun x22 =>
    if x22 = x16 then
      fX0_reachPoint_p38 0 c20x c2
    else
      fX0_reachPoint_p38 1 c20x c2
noncomputable def fX0_reachByCall_p153 (c2 : Nat → Int32) (c3 : Nat → Int32) (c4 : Nat → Int32) (c5 : Nat → Int32) (c7 : Nat → Int32) (z0 : Int32) (c6 : (Nat → Int32)) (c8 : (Nat → Int32)) : Option (Int32 × (Nat → Int32) × (Nat → Int32)) :=
  bd (bz z0) <|
  some (z0, (c6, c8))
noncomputable def fX0_reachByCall_p148 (c2 : Nat → Int32) (c3 : Nat → Int32) (c4 : Nat → Int32) (c5 : Nat → Int32) (c7 : Nat → Int32) (c6 : (Nat → Int32)) (c8 : (Nat → Int32)) : Option (Int32 × (Nat → Int32) × (Nat → Int32)) :=
  fX0_reachByCall_p153 c2 c3 c4 c5 c7 1 c6 c8
noncomputable def fX0_reachByCall_p118 (c2 : Nat → Int32) (c3 : Nat → Int32) (c4 : Nat → Int32) (c5 : Nat → Int32) (c7 : Nat → Int32) (k81 : Int32 → Int32 → Int32 → Int32 → Int32 → Int32 → (Nat → Int32) → (Nat → Int32) → Option (Int32 × (Nat → Int32) × (Nat → Int32))) (y1 : Int32) (y2 : Int32) (y3 : Int32) (y5 : Int32) (y6 : Int32) (y7 : Int32) (c6 : (Nat → Int32)) (c8 : (Nat → Int32)) : Option (Int32 × (Nat → Int32) × (Nat → Int32)) :=
  nm (y7 + 8) fun x2 =>
  k81 y1 y2 y3 y5 y6 x2 c6 c8
noncomputable def fX0_reachByCall_b81 (c2 : Nat → Int32) (c3 : Nat → Int32) (c4 : Nat → Int32) (c5 : Nat → Int32) (c7 : Nat → Int32) (k81 : Int32 → Int32 → Int32 → Int32 → Int32 → Int32 → (Nat → Int32) → (Nat → Int32) → Option (Int32 × (Nat → Int32) × (Nat → Int32))) (y1 : Int32) (y2 : Int32) (y3 : Int32) (y5 : Int32) (y6 : Int32) (y7 : Int32) (c6 : (Nat → Int32)) (c8 : (Nat → Int32)) : Option (Int32 × (Nat → Int32) × (Nat → Int32)) :=
  if 32 ≤ y7 then
    bd (inb y1 40) <|
    nm (c7 y1.toNatClampNeg) fun x5 =>
    ob (fX0_reachPoint y3 y6 x5 c6 c8) fun o6 =>
    if o6.1 = 0 then
      if y5 = 0 then
        fX0_reachByCall_p153 c2 c3 c4 c5 c7 0 o6.2.1 o6.2.2
      else
        fX0_reachByCall_p148 c2 c3 c4 c5 c7 o6.2.1 o6.2.2
    else
      fX0_reachByCall_p148 c2 c3 c4 c5 c7 o6.2.1 o6.2.2
  else
    bd (inb y1 40) <|
    nm (c6 y1.toNatClampNeg) fun x10 =>
    nm ((x10.toUInt32 >>> (y7.toUInt32 &&& Int32.toUInt32 31)).toInt32) fun x11 =>
    nm (x11 &&& 255) fun x12 =>
    if x12 = 0 then
      fX0_reachByCall_p118 c2 c3 c4 c5 c7 k81 y1 y2 y3 y5 y6 y7 c6 c8
    else
      bd (inb y2 6) <|
      nm (c8 y2.toNatClampNeg) fun x15 =>
      nm (x15 <<< (y7 &&& 31)) fun x16 =>
      nm (y6 ||| x16) fun x17 =>
      fX0_reachByCall_p118 c2 c3 c4 c5 c7 k81 y1 y2 y3 y5 x17 y7 c6 c8
noncomputable def fX0_reachByCall_l81 (c2 : Nat → Int32) (c3 : Nat → Int32) (c4 : Nat → Int32) (c5 : Nat → Int32) (c7 : Nat → Int32) : Nat → Int32 → Int32 → Int32 → Int32 → Int32 → Int32 → (Nat → Int32) → (Nat → Int32) → Option (Int32 × (Nat → Int32) × (Nat → Int32))
  | 0 => fun _ _ _ _ _ _ _ _ => none
  | n + 1 => fX0_reachByCall_b81 c2 c3 c4 c5 c7  (fX0_reachByCall_l81 c2 c3 c4 c5 c7  n)
noncomputable def fX0_reachByCall (a0 : Int32) (c2 : Nat → Int32) (c3 : Nat → Int32) (c4 : Nat → Int32) (c5 : Nat → Int32) (c6 : Nat → Int32) (c7 : Nat → Int32) (c8 : Nat → Int32) : Option (Int32 × (Nat → Int32) × (Nat → Int32)) :=
  bd (inb a0 40) <|
  nm (c2 a0.toNatClampNeg) fun x19 =>
  ob (fX3_pointAfter a0 1 c3 c4) fun o20 =>
  bd (inb x19 6) <|
  nm (c5 x19.toNatClampNeg) fun x22 =>
  if 0 ≤ x22 then
    bd (inb a0 40) <|
    nm (c6 a0.toNatClampNeg) fun x25 =>
    ob (fX0_globalsOf x25) fun o26 =>
    ob (fX0_reachPoint x22 o26.1 x19 c6 c8) fun o27 =>
    fX0_reachByCall_l81 c2 c3 c4 c5 c7 FU a0 x19 o20.1 o27.1 0 0 o27.2.1 o27.2.2
  else
    bd (inb a0 40) <|
    nm (c6 a0.toNatClampNeg) fun x29 =>
    bd (inb a0 40) <|
    nm (c7 a0.toNatClampNeg) fun x31 =>
    ob (fX0_reachPoint o20.1 x29 x31 c6 c8) fun o32 =>
    bd (bz o32.1) <|
    some (o32.1, (o32.2.1, o32.2.2))
noncomputable def fX0_reachFrom_p79 (c3 : Nat → Int64) (c4 : Nat → Int32) (c5 : Nat → Int32) (c6 : Nat → Int32) (c7 : Nat → Int32) (c8 : Nat → Int32) (k4 : Int32 → Int32 → Int32 → (Nat → Int32) → (Nat → Int32) → Option (Int32 × (Nat → Int32) × (Nat → Int32))) (y1 : Int32) (y2 : Int32) (y3 : Int32) (y5 : Int32) (c1 : (Nat → Int32)) (c9 : (Nat → Int32)) : Option (Int32 × (Nat → Int32) × (Nat → Int32)) :=
  ob (fX3_pointAfter y1 y3 c6 c7) fun o1 =>
  bd (inb y1 40) <|
  nm (c8 y1.toNatClampNeg) fun x3 =>
  ob (fX0_reachPoint o1.1 y5 x3 c1 c9) fun o4 =>
  nm (y2 ||| o4.1) fun x5 =>
  nm (y3 + 1) fun x6 =>
  k4 y1 x5 x6 o4.2.1 o4.2.2
noncomputable def fX0_reachFrom_p73 (c3 : Nat → Int64) (c4 : Nat → Int32) (c5 : Nat → Int32) (c6 : Nat → Int32) (c7 : Nat → Int32) (c8 : Nat → Int32) (k4 : Int32 → Int32 → Int32 → (Nat → Int32) → (Nat → Int32) → Option (Int32 × (Nat → Int32) × (Nat → Int32))) (k33 : Int32 → Int32 → Int32 → Int32 → Int32 → Int32 → (Nat → Int32) → (Nat → Int32) → Option (Int32 × (Nat → Int32) × (Nat → Int32))) (y1 : Int32) (y2 : Int32) (y3 : Int32) (y4 : Int32) (y5 : Int32) (y6 : Int32) (c1 : (Nat → Int32)) (c9 : (Nat → Int32)) : Option (Int32 × (Nat → Int32) × (Nat → Int32)) :=
  nm (y6 + 1) fun x7 =>
  k33 y1 y2 y3 y4 y5 x7 c1 c9
noncomputable def fX0_reachFrom_b33 (c3 : Nat → Int64) (c4 : Nat → Int32) (c5 : Nat → Int32) (c6 : Nat → Int32) (c7 : Nat → Int32) (c8 : Nat → Int32) (k4 : Int32 → Int32 → Int32 → (Nat → Int32) → (Nat → Int32) → Option (Int32 × (Nat → Int32) × (Nat → Int32))) (k33 : Int32 → Int32 → Int32 → Int32 → Int32 → Int32 → (Nat → Int32) → (Nat → Int32) → Option (Int32 × (Nat → Int32) × (Nat → Int32))) (y1 : Int32) (y2 : Int32) (y3 : Int32) (y4 : Int32) (y5 : Int32) (y6 : Int32) (c1 : (Nat → Int32)) (c9 : (Nat → Int32)) : Option (Int32 × (Nat → Int32) × (Nat → Int32)) :=
  if y4 = 0 then
    fX0_reachFrom_p79 c3 c4 c5 c6 c7 c8 k4 y1 y2 y3 y5 c1 c9
  else
    if 32 ≤ y6 then
      fX0_reachFrom_p79 c3 c4 c5 c6 c7 c8 k4 y1 y2 y3 y5 c1 c9
    else
      nm ((y4.toUInt32 >>> (y6.toUInt32 &&& Int32.toUInt32 31)).toInt32) fun x10 =>
      nm (x10 &&& 1) fun x11 =>
      if x11 = 0 then
        fX0_reachFrom_p73 c3 c4 c5 c6 c7 c8 k4 k33 y1 y2 y3 y4 y5 y6 c1 c9
      else
        ob (fX3_settingAfter y1 y6 y3 c4 c5) fun o13 =>
        nm (1 <<< (o13.1 &&& 31)) fun x14 =>
        nm (y5 ||| x14) fun x15 =>
        fX0_reachFrom_p73 c3 c4 c5 c6 c7 c8 k4 k33 y1 y2 y3 y4 x15 y6 c1 c9
noncomputable def fX0_reachFrom_l33 (c3 : Nat → Int64) (c4 : Nat → Int32) (c5 : Nat → Int32) (c6 : Nat → Int32) (c7 : Nat → Int32) (c8 : Nat → Int32) (k4 : Int32 → Int32 → Int32 → (Nat → Int32) → (Nat → Int32) → Option (Int32 × (Nat → Int32) × (Nat → Int32))) : Nat → Int32 → Int32 → Int32 → Int32 → Int32 → Int32 → (Nat → Int32) → (Nat → Int32) → Option (Int32 × (Nat → Int32) × (Nat → Int32))
  | 0 => fun _ _ _ _ _ _ _ _ => none
  | n + 1 => fX0_reachFrom_b33 c3 c4 c5 c6 c7 c8 k4 (fX0_reachFrom_l33 c3 c4 c5 c6 c7 c8 k4 n)
noncomputable def fX0_reachFrom_b4 (c3 : Nat → Int64) (c4 : Nat → Int32) (c5 : Nat → Int32) (c6 : Nat → Int32) (c7 : Nat → Int32) (c8 : Nat → Int32) (k4 : Int32 → Int32 → Int32 → (Nat → Int32) → (Nat → Int32) → Option (Int32 × (Nat → Int32) × (Nat → Int32))) (y1 : Int32) (y2 : Int32) (y3 : Int32) (c1 : (Nat → Int32)) (c9 : (Nat → Int32)) : Option (Int32 × (Nat → Int32) × (Nat → Int32)) :=
  if 1 < y3 then
    bd (bz y2) <|
    some (y2, (c1, c9))
  else
    bd (inb y1 40) <|
    nm (c1 y1.toNatClampNeg) fun x19 =>
    ob (fX3_settingsFor y1 y3 c3) fun o20 =>
    nm (x19 &&& o20.1) fun x21 =>
    fX0_reachFrom_l33 c3 c4 c5 c6 c7 c8 k4 FU y1 y2 y3 x21 0 0 c1 c9
noncomputable def fX0_reachFrom_l4 (c3 : Nat → Int64) (c4 : Nat → Int32) (c5 : Nat → Int32) (c6 : Nat → Int32) (c7 : Nat → Int32) (c8 : Nat → Int32) : Nat → Int32 → Int32 → Int32 → (Nat → Int32) → (Nat → Int32) → Option (Int32 × (Nat → Int32) × (Nat → Int32))
  | 0 => fun _ _ _ _ _ => none
  | n + 1 => fX0_reachFrom_b4 c3 c4 c5 c6 c7 c8  (fX0_reachFrom_l4 c3 c4 c5 c6 c7 c8  n)
noncomputable def fX0_reachFrom (a0 : Int32) (c1 : Nat → Int32) (c3 : Nat → Int64) (c4 : Nat → Int32) (c5 : Nat → Int32) (c6 : Nat → Int32) (c7 : Nat → Int32) (c8 : Nat → Int32) (c9 : Nat → Int32) : Option (Int32 × (Nat → Int32) × (Nat → Int32)) :=
  fX0_reachFrom_l4 c3 c4 c5 c6 c7 c8 FU a0 0 0 c1 c9
noncomputable def fX0_reachAll_p111 (v3_procedures : Int32) (v3_statements : Int32) (c4 : Nat → Int32) (c5 : Nat → Int32) (c6 : Nat → Int32) (c7 : Nat → Int32) (c8 : Nat → Int32) (c9 : Nat → Int32) (c10 : Nat → Int64) (c11 : Nat → Int32) (c1 : (Nat → Int32)) (c2 : (Nat → Int32)) : Option ((Nat → Int32) × (Nat → Int32)) :=
  some (c1, c2)
noncomputable def fX0_reachAll_p97 (v3_procedures : Int32) (v3_statements : Int32) (c4 : Nat → Int32) (c5 : Nat → Int32) (c6 : Nat → Int32) (c7 : Nat → Int32) (c8 : Nat → Int32) (c9 : Nat → Int32) (c10 : Nat → Int64) (c11 : Nat → Int32) (k40 : Int32 → Int32 → (Nat → Int32) → (Nat → Int32) → Option ((Nat → Int32) × (Nat → Int32))) (k55 : Int32 → Int32 → Int32 → (Nat → Int32) → (Nat → Int32) → Option ((Nat → Int32) × (Nat → Int32))) (y3 : Int32) (y4 : Int32) (z0 : Int32) (z1 : Int32) (c1 : (Nat → Int32)) (c2 : (Nat → Int32)) : Option ((Nat → Int32) × (Nat → Int32)) :=
  nm (z1 ||| z0) fun x1 =>
  nm (y4 + 1) fun x2 =>
  k55 x1 y3 x2 c1 c2
noncomputable def fX0_reachAll_b55 (v3_procedures : Int32) (v3_statements : Int32) (c4 : Nat → Int32) (c5 : Nat → Int32) (c6 : Nat → Int32) (c7 : Nat → Int32) (c8 : Nat → Int32) (c9 : Nat → Int32) (c10 : Nat → Int64) (c11 : Nat → Int32) (k40 : Int32 → Int32 → (Nat → Int32) → (Nat → Int32) → Option ((Nat → Int32) × (Nat → Int32))) (k55 : Int32 → Int32 → Int32 → (Nat → Int32) → (Nat → Int32) → Option ((Nat → Int32) × (Nat → Int32))) (y2 : Int32) (y3 : Int32) (y4 : Int32) (c1 : (Nat → Int32)) (c2 : (Nat → Int32)) : Option ((Nat → Int32) × (Nat → Int32)) :=
  if v3_statements ≤ y4 then
    nm (y3 + 1) fun x4 =>
    k40 y2 x4 c1 c2
  else
    bd (inb y4 40) <|
    nm (c5 y4.toNatClampNeg) fun x6 =>
    if x6 = 3 then
      ob (fX0_reachByCall y4 c6 c7 c8 c4 c1 c9 c2) fun o9 =>
      fX0_reachAll_p97 v3_procedures v3_statements c4 c5 c6 c7 c8 c9 c10 c11 k40 k55 y3 y4 o9.1 y2 o9.2.1 o9.2.2
    else
      ob (fX0_reachFrom y4 c1 c10 c5 c11 c7 c8 c9 c2) fun o8 =>
      fX0_reachAll_p97 v3_procedures v3_statements c4 c5 c6 c7 c8 c9 c10 c11 k40 k55 y3 y4 o8.1 y2 o8.2.1 o8.2.2
noncomputable def fX0_reachAll_l55 (v3_procedures : Int32) (v3_statements : Int32) (c4 : Nat → Int32) (c5 : Nat → Int32) (c6 : Nat → Int32) (c7 : Nat → Int32) (c8 : Nat → Int32) (c9 : Nat → Int32) (c10 : Nat → Int64) (c11 : Nat → Int32) (k40 : Int32 → Int32 → (Nat → Int32) → (Nat → Int32) → Option ((Nat → Int32) × (Nat → Int32))) : Nat → Int32 → Int32 → Int32 → (Nat → Int32) → (Nat → Int32) → Option ((Nat → Int32) × (Nat → Int32))
  | 0 => fun _ _ _ _ _ => none
  | n + 1 => fX0_reachAll_b55 v3_procedures v3_statements c4 c5 c6 c7 c8 c9 c10 c11 k40 (fX0_reachAll_l55 v3_procedures v3_statements c4 c5 c6 c7 c8 c9 c10 c11 k40 n)
noncomputable def fX0_reachAll_b40 (v3_procedures : Int32) (v3_statements : Int32) (c4 : Nat → Int32) (c5 : Nat → Int32) (c6 : Nat → Int32) (c7 : Nat → Int32) (c8 : Nat → Int32) (c9 : Nat → Int32) (c10 : Nat → Int64) (c11 : Nat → Int32) (k40 : Int32 → Int32 → (Nat → Int32) → (Nat → Int32) → Option ((Nat → Int32) × (Nat → Int32))) (y2 : Int32) (y3 : Int32) (c1 : (Nat → Int32)) (c2 : (Nat → Int32)) : Option ((Nat → Int32) × (Nat → Int32)) :=
  if 1000000 ≤ y3 then
    fX0_reachAll_p111 v3_procedures v3_statements c4 c5 c6 c7 c8 c9 c10 c11 c1 c2
  else
    if y2 = 0 then
      fX0_reachAll_p111 v3_procedures v3_statements c4 c5 c6 c7 c8 c9 c10 c11 c1 c2
    else
      fX0_reachAll_l55 v3_procedures v3_statements c4 c5 c6 c7 c8 c9 c10 c11 k40 FU 0 y3 0 c1 c2
noncomputable def fX0_reachAll_l40 (v3_procedures : Int32) (v3_statements : Int32) (c4 : Nat → Int32) (c5 : Nat → Int32) (c6 : Nat → Int32) (c7 : Nat → Int32) (c8 : Nat → Int32) (c9 : Nat → Int32) (c10 : Nat → Int64) (c11 : Nat → Int32) : Nat → Int32 → Int32 → (Nat → Int32) → (Nat → Int32) → Option ((Nat → Int32) × (Nat → Int32))
  | 0 => fun _ _ _ _ => none
  | n + 1 => fX0_reachAll_b40 v3_procedures v3_statements c4 c5 c6 c7 c8 c9 c10 c11  (fX0_reachAll_l40 v3_procedures v3_statements c4 c5 c6 c7 c8 c9 c10 c11  n)
noncomputable def fX0_reachAll (c1 : Nat → Int32) (c2 : Nat → Int32) (v3_procedures : Int32) (v3_statements : Int32) (c4 : Nat → Int32) (c5 : Nat → Int32) (c6 : Nat → Int32) (c7 : Nat → Int32) (c8 : Nat → Int32) (c9 : Nat → Int32) (c10 : Nat → Int64) (c11 : Nat → Int32) : Option ((Nat → Int32) × (Nat → Int32)) :=
  ob (fJ7_fill_53178 0 40 c1) fun o12 =>
  ob (fJ7_fill_53178 0 6 c2) fun o13 =>
  ob (fX3_firstPoint v3_procedures c4) fun o14 =>
  if 0 ≤ o14.1 then
    bd (inb o14.1 40) <|
    nm (upd o12 o14.1.toNatClampNeg 1) fun c16x =>
    fX0_reachAll_l40 v3_procedures v3_statements c4 c5 c6 c7 c8 c9 c10 c11 FU 1 0 c16x o13
  else
    some (o12, o13)
noncomputable def fX0_solve_p128 (v3_procedures : Int32) (v3_statements : Int32) (c4 : Nat → Int32) (c5 : Nat → Int32) (c6 : Nat → Int32) (c7 : Nat → Int32) (c8 : Nat → Int32) (c9 : Nat → Int32) (c10 : Nat → Int64) (c11 : Nat → Int32) (v0_looks : Int32) (c1 : (Nat → Int32)) (c2 : (Nat → Int32)) (c12 : (Nat → Int32)) (c13 : (Nat → Int32)) (c14 : (Nat → Int32)) : Option (Int32 × (Nat → Int32) × (Nat → Int32) × (Nat → Int32) × (Nat → Int32) × (Nat → Int32)) :=
  some (v0_looks, c1, c2, c12, c13, c14)
noncomputable def fX0_solve_p114 (v3_procedures : Int32) (v3_statements : Int32) (c4 : Nat → Int32) (c5 : Nat → Int32) (c6 : Nat → Int32) (c7 : Nat → Int32) (c8 : Nat → Int32) (c9 : Nat → Int32) (c10 : Nat → Int64) (c11 : Nat → Int32) (k62 : Int32 → Int32 → Int32 → (Nat → Int32) → (Nat → Int32) → (Nat → Int32) → (Nat → Int32) → (Nat → Int32) → Option (Int32 × (Nat → Int32) × (Nat → Int32) × (Nat → Int32) × (Nat → Int32) × (Nat → Int32))) (k85 : Int32 → Int32 → Int32 → Int32 → (Nat → Int32) → (Nat → Int32) → (Nat → Int32) → (Nat → Int32) → (Nat → Int32) → Option (Int32 × (Nat → Int32) × (Nat → Int32) × (Nat → Int32) × (Nat → Int32) × (Nat → Int32))) (y3 : Int32) (y4 : Int32) (z0 : Int32) (z1 : Int32) (v0_looks : Int32) (c1 : (Nat → Int32)) (c2 : (Nat → Int32)) (c12 : (Nat → Int32)) (c13 : (Nat → Int32)) (c14 : (Nat → Int32)) : Option (Int32 × (Nat → Int32) × (Nat → Int32) × (Nat → Int32) × (Nat → Int32) × (Nat → Int32)) :=
  nm (z1 ||| z0) fun x1 =>
  nm (y4 + (-1)) fun x2 =>
  k85 x1 y3 x2 v0_looks c1 c2 c12 c13 c14
noncomputable def fX0_solve_p113 (v3_procedures : Int32) (v3_statements : Int32) (c4 : Nat → Int32) (c5 : Nat → Int32) (c6 : Nat → Int32) (c7 : Nat → Int32) (c8 : Nat → Int32) (c9 : Nat → Int32) (c10 : Nat → Int64) (c11 : Nat → Int32) (k62 : Int32 → Int32 → Int32 → (Nat → Int32) → (Nat → Int32) → (Nat → Int32) → (Nat → Int32) → (Nat → Int32) → Option (Int32 × (Nat → Int32) × (Nat → Int32) × (Nat → Int32) × (Nat → Int32) × (Nat → Int32))) (k85 : Int32 → Int32 → Int32 → Int32 → (Nat → Int32) → (Nat → Int32) → (Nat → Int32) → (Nat → Int32) → (Nat → Int32) → Option (Int32 × (Nat → Int32) × (Nat → Int32) × (Nat → Int32) × (Nat → Int32) × (Nat → Int32))) (y3 : Int32) (y4 : Int32) (z0 : Int32) (v0_looks : Int32) (c1 : (Nat → Int32)) (c2 : (Nat → Int32)) (c12 : (Nat → Int32)) (c13 : (Nat → Int32)) (c14 : (Nat → Int32)) : Option (Int32 × (Nat → Int32) × (Nat → Int32) × (Nat → Int32) × (Nat → Int32) × (Nat → Int32)) :=
  fX0_solve_p114 v3_procedures v3_statements c4 c5 c6 c7 c8 c9 c10 c11 k62 k85 y3 y4 0 z0 v0_looks c1 c2 c12 c13 c14
noncomputable def fX0_solve_b85 (v3_procedures : Int32) (v3_statements : Int32) (c4 : Nat → Int32) (c5 : Nat → Int32) (c6 : Nat → Int32) (c7 : Nat → Int32) (c8 : Nat → Int32) (c9 : Nat → Int32) (c10 : Nat → Int64) (c11 : Nat → Int32) (k62 : Int32 → Int32 → Int32 → (Nat → Int32) → (Nat → Int32) → (Nat → Int32) → (Nat → Int32) → (Nat → Int32) → Option (Int32 × (Nat → Int32) × (Nat → Int32) × (Nat → Int32) × (Nat → Int32) × (Nat → Int32))) (k85 : Int32 → Int32 → Int32 → Int32 → (Nat → Int32) → (Nat → Int32) → (Nat → Int32) → (Nat → Int32) → (Nat → Int32) → Option (Int32 × (Nat → Int32) × (Nat → Int32) × (Nat → Int32) × (Nat → Int32) × (Nat → Int32))) (y2 : Int32) (y3 : Int32) (y4 : Int32) (v0_looks : Int32) (c1 : (Nat → Int32)) (c2 : (Nat → Int32)) (c12 : (Nat → Int32)) (c13 : (Nat → Int32)) (c14 : (Nat → Int32)) : Option (Int32 × (Nat → Int32) × (Nat → Int32) × (Nat → Int32) × (Nat → Int32) × (Nat → Int32)) :=
  if y4 < 0 then
    nm (y3 + 1) fun x4 =>
    k62 y2 x4 v0_looks c1 c2 c12 c13 c14
  else
    ob (fX0_isStale y4 c14 c7 c13 c8 c5 c6 c4) fun o5 =>
    if o5.1 = 0 then
      fX0_solve_p113 v3_procedures v3_statements c4 c5 c6 c7 c8 c9 c10 c11 k62 k85 y3 y4 y2 v0_looks c1 c2 c12 c13 c14
    else
      ob (fX0_lookAt y4 v0_looks c14 c5 c1 c7 c8 c6 c4 c12 c10 c11 c13) fun o7 =>
      if o7.1 = 0 then
        fX0_solve_p113 v3_procedures v3_statements c4 c5 c6 c7 c8 c9 c10 c11 k62 k85 y3 y4 y2 o7.2.1 c1 c2 o7.2.2.2.1 o7.2.2.2.2 o7.2.2.1
      else
        fX0_solve_p114 v3_procedures v3_statements c4 c5 c6 c7 c8 c9 c10 c11 k62 k85 y3 y4 1 y2 o7.2.1 c1 c2 o7.2.2.2.1 o7.2.2.2.2 o7.2.2.1
noncomputable def fX0_solve_l85 (v3_procedures : Int32) (v3_statements : Int32) (c4 : Nat → Int32) (c5 : Nat → Int32) (c6 : Nat → Int32) (c7 : Nat → Int32) (c8 : Nat → Int32) (c9 : Nat → Int32) (c10 : Nat → Int64) (c11 : Nat → Int32) (k62 : Int32 → Int32 → Int32 → (Nat → Int32) → (Nat → Int32) → (Nat → Int32) → (Nat → Int32) → (Nat → Int32) → Option (Int32 × (Nat → Int32) × (Nat → Int32) × (Nat → Int32) × (Nat → Int32) × (Nat → Int32))) : Nat → Int32 → Int32 → Int32 → Int32 → (Nat → Int32) → (Nat → Int32) → (Nat → Int32) → (Nat → Int32) → (Nat → Int32) → Option (Int32 × (Nat → Int32) × (Nat → Int32) × (Nat → Int32) × (Nat → Int32) × (Nat → Int32))
  | 0 => fun _ _ _ _ _ _ _ _ _ => none
  | n + 1 => fX0_solve_b85 v3_procedures v3_statements c4 c5 c6 c7 c8 c9 c10 c11 k62 (fX0_solve_l85 v3_procedures v3_statements c4 c5 c6 c7 c8 c9 c10 c11 k62 n)
noncomputable def fX0_solve_b62 (v3_procedures : Int32) (v3_statements : Int32) (c4 : Nat → Int32) (c5 : Nat → Int32) (c6 : Nat → Int32) (c7 : Nat → Int32) (c8 : Nat → Int32) (c9 : Nat → Int32) (c10 : Nat → Int64) (c11 : Nat → Int32) (k62 : Int32 → Int32 → Int32 → (Nat → Int32) → (Nat → Int32) → (Nat → Int32) → (Nat → Int32) → (Nat → Int32) → Option (Int32 × (Nat → Int32) × (Nat → Int32) × (Nat → Int32) × (Nat → Int32) × (Nat → Int32))) (y2 : Int32) (y3 : Int32) (v0_looks : Int32) (c1 : (Nat → Int32)) (c2 : (Nat → Int32)) (c12 : (Nat → Int32)) (c13 : (Nat → Int32)) (c14 : (Nat → Int32)) : Option (Int32 × (Nat → Int32) × (Nat → Int32) × (Nat → Int32) × (Nat → Int32) × (Nat → Int32)) :=
  if 1000000 ≤ y3 then
    fX0_solve_p128 v3_procedures v3_statements c4 c5 c6 c7 c8 c9 c10 c11 v0_looks c1 c2 c12 c13 c14
  else
    if y2 = 0 then
      fX0_solve_p128 v3_procedures v3_statements c4 c5 c6 c7 c8 c9 c10 c11 v0_looks c1 c2 c12 c13 c14
    else
      nm (v3_statements - 1) fun x11 =>
      fX0_solve_l85 v3_procedures v3_statements c4 c5 c6 c7 c8 c9 c10 c11 k62 FU 0 y3 x11 v0_looks c1 c2 c12 c13 c14
noncomputable def fX0_solve_l62 (v3_procedures : Int32) (v3_statements : Int32) (c4 : Nat → Int32) (c5 : Nat → Int32) (c6 : Nat → Int32) (c7 : Nat → Int32) (c8 : Nat → Int32) (c9 : Nat → Int32) (c10 : Nat → Int64) (c11 : Nat → Int32) : Nat → Int32 → Int32 → Int32 → (Nat → Int32) → (Nat → Int32) → (Nat → Int32) → (Nat → Int32) → (Nat → Int32) → Option (Int32 × (Nat → Int32) × (Nat → Int32) × (Nat → Int32) × (Nat → Int32) × (Nat → Int32))
  | 0 => fun _ _ _ _ _ _ _ _ => none
  | n + 1 => fX0_solve_b62 v3_procedures v3_statements c4 c5 c6 c7 c8 c9 c10 c11  (fX0_solve_l62 v3_procedures v3_statements c4 c5 c6 c7 c8 c9 c10 c11  n)
noncomputable def fX0_solve_b18 (v3_procedures : Int32) (v3_statements : Int32) (c4 : Nat → Int32) (c5 : Nat → Int32) (c6 : Nat → Int32) (c7 : Nat → Int32) (c8 : Nat → Int32) (c9 : Nat → Int32) (c10 : Nat → Int64) (c11 : Nat → Int32) (k18 : Int32 → Int32 → Int32 → (Nat → Int32) → (Nat → Int32) → (Nat → Int32) → (Nat → Int32) → (Nat → Int32) → Option (Int32 × (Nat → Int32) × (Nat → Int32) × (Nat → Int32) × (Nat → Int32) × (Nat → Int32))) (y1 : Int32) (y2 : Int32) (v0_looks : Int32) (c1 : (Nat → Int32)) (c2 : (Nat → Int32)) (c12 : (Nat → Int32)) (c13 : (Nat → Int32)) (c14 : (Nat → Int32)) : Option (Int32 × (Nat → Int32) × (Nat → Int32) × (Nat → Int32) × (Nat → Int32) × (Nat → Int32)) :=
  if y1 ≤ y2 then
    ob (fJ7_fill_53178 0 40 c13) fun o13 =>
    ob (fJ7_fill_53178 0 40 c14) fun o14 =>
    fX0_solve_l62 v3_procedures v3_statements c4 c5 c6 c7 c8 c9 c10 c11 FU 1 0 0 c1 c2 c12 o13 o14
  else
    bd (inb y2 11520) <|
    nm (upd c12 y2.toNatClampNeg 536870912) fun c15x =>
    nm (y2 + 1) fun x16 =>
    k18 y1 x16 v0_looks c1 c2 c15x c13 c14
noncomputable def fX0_solve_l18 (v3_procedures : Int32) (v3_statements : Int32) (c4 : Nat → Int32) (c5 : Nat → Int32) (c6 : Nat → Int32) (c7 : Nat → Int32) (c8 : Nat → Int32) (c9 : Nat → Int32) (c10 : Nat → Int64) (c11 : Nat → Int32) : Nat → Int32 → Int32 → Int32 → (Nat → Int32) → (Nat → Int32) → (Nat → Int32) → (Nat → Int32) → (Nat → Int32) → Option (Int32 × (Nat → Int32) × (Nat → Int32) × (Nat → Int32) × (Nat → Int32) × (Nat → Int32))
  | 0 => fun _ _ _ _ _ _ _ _ => none
  | n + 1 => fX0_solve_b18 v3_procedures v3_statements c4 c5 c6 c7 c8 c9 c10 c11  (fX0_solve_l18 v3_procedures v3_statements c4 c5 c6 c7 c8 c9 c10 c11  n)
noncomputable def fX0_solve (v0_looks : Int32) (c1 : Nat → Int32) (c2 : Nat → Int32) (v3_procedures : Int32) (v3_statements : Int32) (c4 : Nat → Int32) (c5 : Nat → Int32) (c6 : Nat → Int32) (c7 : Nat → Int32) (c8 : Nat → Int32) (c9 : Nat → Int32) (c10 : Nat → Int64) (c11 : Nat → Int32) (c12 : Nat → Int32) (c13 : Nat → Int32) (c14 : Nat → Int32) : Option (Int32 × (Nat → Int32) × (Nat → Int32) × (Nat → Int32) × (Nat → Int32) × (Nat → Int32)) :=
  ob (fX0_reachAll c1 c2 v3_procedures v3_statements c4 c5 c6 c7 c8 c9 c10 c11) fun o17 =>
  ob (fX0_row v3_statements 0) fun o18 =>
  fX0_solve_l18 v3_procedures v3_statements c4 c5 c6 c7 c8 c9 c10 c11 FU o18.1 0 v0_looks o17.1 o17.2 c12 c13 c14
noncomputable def fX0_stepsToFail_p30 (v1_procedures : Int32) (c2 : Nat → Int32) (c3 : Nat → Int32) (z0 : Int32) : Option (Int32 × Unit) :=
  some (z0, ())
noncomputable def fX0_stepsToFail (v1_procedures : Int32) (c2 : Nat → Int32) (c3 : Nat → Int32) : Option (Int32 × Unit) :=
  ob (fX3_firstPoint v1_procedures c2) fun o1 =>
  if 0 ≤ o1.1 then
    ob (fX0_row o1.1 0) fun o3 =>
    nm (o3.1 + 8) fun x4 =>
    bd (inb x4 11520) <|
    nm (c3 x4.toNatClampNeg) fun x6 =>
    fX0_stepsToFail_p30 v1_procedures c2 c3 x6
  else
    fX0_stepsToFail_p30 v1_procedures c2 c3 536870912
noncomputable def fX8_aboutStep_p12 (v0_length : Int32) (c1 : Nat → Int32) (c2 : Nat → Int32) (c3 : Nat → Int32) (c4 : Nat → Int32)  : Option (Int32 × Unit) :=
  some ((-1), ())
noncomputable def fX8_aboutStep (a0 : Int32) (a1 : Int32) (v0_length : Int32) (c1 : Nat → Int32) (c2 : Nat → Int32) (c3 : Nat → Int32) (c4 : Nat → Int32) : Option (Int32 × Unit) :=
  if a0 < 0 then
    fX8_aboutStep_p12 v0_length c1 c2 c3 c4 
  else
    if a0 < v0_length then
      if a1 = 0 then
        bd (inb a0 2000) <|
        nm (c4 a0.toNatClampNeg) fun x5 =>
        some (x5, ())
      else if a1 = 1 then
        bd (inb a0 2000) <|
        nm (c3 a0.toNatClampNeg) fun x8 =>
        some (x8, ())
      else if a1 = 2 then
        bd (inb a0 2000) <|
        nm (c2 a0.toNatClampNeg) fun x11 =>
        nm (x11 &&& 7) fun x12 =>
        some (x12, ())
      else if a1 = 3 then
        bd (inb a0 2000) <|
        nm (c2 a0.toNatClampNeg) fun x15 =>
        nm ((x15.toUInt32 >>> ((3 : Int32).toUInt32 &&& Int32.toUInt32 31)).toInt32) fun x16 =>
        some (x16, ())
      else 
        bd (inb a0 2000) <|
        nm (c1 a0.toNatClampNeg) fun x18 =>
        some (x18, ())
    else
      fX8_aboutStep_p12 v0_length c1 c2 c3 c4 
noncomputable def fX8_forget (v0_length : Int32) : Option (Int32) :=
  some 0
noncomputable def fX8_leaveEndedCalls_p62 (c1 : Nat → Int32) (c2 : Nat → Int32) (v0_open : Int32) (v0_point : Int32) (v0_setting : Int32) : Option (Int32 × Int32 × Int32) :=
  some (v0_open, v0_point, v0_setting)
noncomputable def fX8_leaveEndedCalls_b0 (c1 : Nat → Int32) (c2 : Nat → Int32) (k0 : Int32 → Int32 → Int32 → Option (Int32 × Int32 × Int32)) (v0_open : Int32) (v0_point : Int32) (v0_setting : Int32) : Option (Int32 × Int32 × Int32) :=
  if v0_point = (-1) then
    if v0_open ≤ 0 then
      fX8_leaveEndedCalls_p62 c1 c2 v0_open v0_point v0_setting
    else
      bd (inb v0_open 2001) <|
      nm (c1 v0_open.toNatClampNeg) fun x4 =>
      nm (v0_setting &&& 7) fun x5 =>
      bd (inb v0_open 2001) <|
      nm (c2 v0_open.toNatClampNeg) fun x7 =>
      nm (x5 ||| x7) fun x8 =>
      nm (v0_open - 1) fun x9 =>
      k0 x9 x4 x8
  else
    fX8_leaveEndedCalls_p62 c1 c2 v0_open v0_point v0_setting
noncomputable def fX8_leaveEndedCalls_l0 (c1 : Nat → Int32) (c2 : Nat → Int32) : Nat → Int32 → Int32 → Int32 → Option (Int32 × Int32 × Int32)
  | 0 => fun _ _ _ => none
  | n + 1 => fX8_leaveEndedCalls_b0 c1 c2  (fX8_leaveEndedCalls_l0 c1 c2  n)
noncomputable def fX8_leaveEndedCalls (v0_open : Int32) (v0_point : Int32) (v0_setting : Int32) (c1 : Nat → Int32) (c2 : Nat → Int32) : Option (Int32 × Int32 × Int32) :=
  fX8_leaveEndedCalls_l0 c1 c2 FU v0_open v0_point v0_setting
noncomputable def fX8_stepsToFail_b67 (v0_open : Int32) (c1 : Nat → Int32) (c3 : Nat → Int32) (k67 : Int32 → Int32 → Int32 → Int32 → Option (Int32 × Unit)) (y3 : Int32) (y4 : Int32) (y5 : Int32) (y6 : Int32) : Option (Int32 × Unit) :=
  if 8 ≤ y6 then
    some (y5, ())
  else
    nm (y4 + y6) fun x2 =>
    bd (inb x2 11520) <|
    nm (c3 x2.toNatClampNeg) fun x4 =>
    nm (y3 + y6) fun x5 =>
    bd (inb x5 16008) <|
    nm (c1 x5.toNatClampNeg) fun x7 =>
    ob (fX10_sum x4 x7) fun o8 =>
    nm (if o8.1 < y5 then o8.1 else y5) fun x9 =>
    nm (y6 + 1) fun x10 =>
    k67 y3 y4 x9 x10
noncomputable def fX8_stepsToFail_l67 (v0_open : Int32) (c1 : Nat → Int32) (c3 : Nat → Int32) : Nat → Int32 → Int32 → Int32 → Int32 → Option (Int32 × Unit)
  | 0 => fun _ _ _ _ => none
  | n + 1 => fX8_stepsToFail_b67 v0_open c1 c3  (fX8_stepsToFail_l67 v0_open c1 c3  n)
noncomputable def fX8_stepsToFail_p41 (v0_open : Int32) (c1 : Nat → Int32) (c3 : Nat → Int32) (z0 : Int32) : Option (Int32 × Unit) :=
  some (z0, ())
noncomputable def fX8_stepsToFail (a0 : Int32) (a1 : Int32) (v0_open : Int32) (c1 : Nat → Int32) (c3 : Nat → Int32) : Option (Int32 × Unit) :=
  nm (v0_open * 8) fun x11 =>
  if a0 = (-1) then
    nm (a1 &&& 7) fun x19 =>
    nm (x11 + x19) fun x20 =>
    bd (inb x20 16008) <|
    nm (c1 x20.toNatClampNeg) fun x22 =>
    some (x22, ())
  else
    if 0 ≤ a0 then
      ob (fX0_row a0 a1) fun o14 =>
      nm (o14.1 + 8) fun x15 =>
      bd (inb x15 11520) <|
      nm (c3 x15.toNatClampNeg) fun x17 =>
      fX8_stepsToFail_l67 v0_open c1 c3 FU x11 o14.1 x17 0
    else
      if a0 = (-2) then
        fX8_stepsToFail_p41 v0_open c1 c3 0
      else
        fX8_stepsToFail_p41 v0_open c1 c3 536870912
noncomputable def fX8_openCall_b43 (c2 : Nat → Int32) (c3 : Nat → Int32) (c6 : Nat → Int32) (c9 : Nat → Int32) (c10 : Nat → Int32) (k43 : Int32 → Int32 → Int32 → Int32 → Int32 → Int32 → Int32 → Int32 → (Nat → Int32) → (Nat → Int32) → (Nat → Int32) → Option (Int32 × Int32 × Int32 × (Nat → Int32) × (Nat → Int32) × (Nat → Int32))) (y1 : Int32) (y2 : Int32) (y3 : Int32) (y4 : Int32) (y5 : Int32) (v0_open : Int32) (v0_point : Int32) (v0_setting : Int32) (c4 : (Nat → Int32)) (c7 : (Nat → Int32)) (c8 : (Nat → Int32)) : Option (Int32 × Int32 × Int32 × (Nat → Int32) × (Nat → Int32) × (Nat → Int32)) :=
  if 8 ≤ y5 then
    nm (v0_open + 1) fun x2 =>
    bd (inb x2 2001) <|
    nm (upd c7 x2.toNatClampNeg y2) fun c3x =>
    bd (inb x2 2001) <|
    nm (upd c8 x2.toNatClampNeg y3) fun c4x =>
    nm (v0_setting &&& 7) fun x5 =>
    bd (inb y1 40) <|
    nm (c9 y1.toNatClampNeg) fun x7 =>
    bd (inb x7 6) <|
    nm (c10 x7.toNatClampNeg) fun x9 =>
    some (x2, x9, x5, c4, c3x, c4x)
  else
    nm (y4 + y5) fun x10 =>
    nm (y3 ||| y5) fun x11 =>
    ob (fX8_stepsToFail y2 x11 v0_open c4 c6) fun o12 =>
    bd (inb x10 16008) <|
    nm (upd c4 x10.toNatClampNeg o12.1) fun c13x =>
    nm (y5 + 1) fun x14 =>
    k43 y1 y2 y3 y4 x14 v0_open v0_point v0_setting c13x c7 c8
noncomputable def fX8_openCall_l43 (c2 : Nat → Int32) (c3 : Nat → Int32) (c6 : Nat → Int32) (c9 : Nat → Int32) (c10 : Nat → Int32) : Nat → Int32 → Int32 → Int32 → Int32 → Int32 → Int32 → Int32 → Int32 → (Nat → Int32) → (Nat → Int32) → (Nat → Int32) → Option (Int32 × Int32 × Int32 × (Nat → Int32) × (Nat → Int32) × (Nat → Int32))
  | 0 => fun _ _ _ _ _ _ _ _ _ _ _ => none
  | n + 1 => fX8_openCall_b43 c2 c3 c6 c9 c10  (fX8_openCall_l43 c2 c3 c6 c9 c10  n)
noncomputable def fX8_openCall (a0 : Int32) (v0_open : Int32) (v0_point : Int32) (v0_setting : Int32) (c2 : Nat → Int32) (c3 : Nat → Int32) (c4 : Nat → Int32) (c6 : Nat → Int32) (c7 : Nat → Int32) (c8 : Nat → Int32) (c9 : Nat → Int32) (c10 : Nat → Int32) : Option (Int32 × Int32 × Int32 × (Nat → Int32) × (Nat → Int32) × (Nat → Int32)) :=
  ob (fX3_pointAfter a0 1 c2 c3) fun o15 =>
  nm (v0_setting &&& 24) fun x16 =>
  nm (v0_open + 1) fun x17 =>
  nm (x17 * 8) fun x18 =>
  if v0_open < 2000 then
    fX8_openCall_l43 c2 c3 c6 c9 c10 FU a0 o15.1 x16 x18 0 v0_open v0_point v0_setting c4 c7 c8
  else
    some (v0_open, v0_point, v0_setting, c4, c7, c8)
noncomputable def fX8_takeStep_p126 (v0_open : Int32) (c2 : Nat → Int64) (c3 : Nat → Int32) (c4 : Nat → Int32) (c5 : Nat → Int32) (c6 : Nat → Int32) (c7 : Nat → Int32) (c9 : Nat → Int32) (k8 : Int32 → Int32 → Int32 → Int32 → Int32 → Int32 → (Nat → Int32) → Option (Int32 × Int32 × (Nat → Int32))) (y1 : Int32) (y2 : Int32) (y3 : Int32) (y4 : Int32) (v0_point : Int32) (v0_setting : Int32) (c10 : (Nat → Int32)) : Option (Int32 × Int32 × (Nat → Int32)) :=
  nm (y4 + 1) fun x1 =>
  k8 y1 y2 y3 x1 v0_point v0_setting c10
noncomputable def fX8_takeStep_p104 (v0_open : Int32) (c2 : Nat → Int64) (c3 : Nat → Int32) (c4 : Nat → Int32) (c5 : Nat → Int32) (c6 : Nat → Int32) (c7 : Nat → Int32) (c9 : Nat → Int32) (y3 : Int32) (y4 : Int32) (y6 : Int32) (z0 : Int32) (z1 : Int32) (v0_point : Int32) (v0_setting : Int32) (c10 : (Nat → Int32)) : Option (Int32 × Int32 × (Nat → Int32)) :=
  bd (inb z1 2000) <|
  nm (upd c10 z1.toNatClampNeg z0) fun c2x =>
  ob (fX3_pointAfter y3 y4 c5 c6) fun o3 =>
  some (o3.1, y6, c2x)
noncomputable def fX8_takeStep_p39 (v0_open : Int32) (c2 : Nat → Int64) (c3 : Nat → Int32) (c4 : Nat → Int32) (c5 : Nat → Int32) (c6 : Nat → Int32) (c7 : Nat → Int32) (c9 : Nat → Int32) (k8 : Int32 → Int32 → Int32 → Int32 → Int32 → Int32 → (Nat → Int32) → Option (Int32 × Int32 × (Nat → Int32))) (y1 : Int32) (y2 : Int32) (y3 : Int32) (y4 : Int32) (z0 : Int32) (v0_point : Int32) (v0_setting : Int32) (c10 : (Nat → Int32)) : Option (Int32 × Int32 × (Nat → Int32)) :=
  ob (fX3_settingAfter y3 v0_setting y4 c3 c4) fun o4 =>
  if z0 = 0 then
    fX8_takeStep_p126 v0_open c2 c3 c4 c5 c6 c7 c9 k8 y1 y2 y3 y4 v0_point v0_setting c10
  else
    ob (fX3_pointAfter y3 y4 c5 c6) fun o6 =>
    ob (fX8_stepsToFail o6.1 o4.1 v0_open c7 c9) fun o7 =>
    if o7.1 = y2 then
      ob (fX3_takesValue y3 c3) fun o9 =>
      if o9.1 = 0 then
        fX8_takeStep_p104 v0_open c2 c3 c4 c5 c6 c7 c9 y3 y4 o4.1 (-1) y1 v0_point v0_setting c10
      else
        fX8_takeStep_p104 v0_open c2 c3 c4 c5 c6 c7 c9 y3 y4 o4.1 y4 y1 v0_point v0_setting c10
    else
      fX8_takeStep_p126 v0_open c2 c3 c4 c5 c6 c7 c9 k8 y1 y2 y3 y4 v0_point v0_setting c10
noncomputable def fX8_takeStep_b8 (v0_open : Int32) (c2 : Nat → Int64) (c3 : Nat → Int32) (c4 : Nat → Int32) (c5 : Nat → Int32) (c6 : Nat → Int32) (c7 : Nat → Int32) (c9 : Nat → Int32) (k8 : Int32 → Int32 → Int32 → Int32 → Int32 → Int32 → (Nat → Int32) → Option (Int32 × Int32 × (Nat → Int32))) (y1 : Int32) (y2 : Int32) (y3 : Int32) (y4 : Int32) (v0_point : Int32) (v0_setting : Int32) (c10 : (Nat → Int32)) : Option (Int32 × Int32 × (Nat → Int32)) :=
  if 1 < y4 then
    some ((-3), v0_setting, c10)
  else
    ob (fX3_settingsFor y3 y4 c2) fun o12 =>
    nm ((o12.1.toUInt32 >>> (v0_setting.toUInt32 &&& Int32.toUInt32 31)).toInt32) fun x13 =>
    nm (x13 &&& 1) fun x14 =>
    if x14 = 0 then
      fX8_takeStep_p39 v0_open c2 c3 c4 c5 c6 c7 c9 k8 y1 y2 y3 y4 0 v0_point v0_setting c10
    else
      fX8_takeStep_p39 v0_open c2 c3 c4 c5 c6 c7 c9 k8 y1 y2 y3 y4 1 v0_point v0_setting c10
noncomputable def fX8_takeStep_l8 (v0_open : Int32) (c2 : Nat → Int64) (c3 : Nat → Int32) (c4 : Nat → Int32) (c5 : Nat → Int32) (c6 : Nat → Int32) (c7 : Nat → Int32) (c9 : Nat → Int32) : Nat → Int32 → Int32 → Int32 → Int32 → Int32 → Int32 → (Nat → Int32) → Option (Int32 × Int32 × (Nat → Int32))
  | 0 => fun _ _ _ _ _ _ _ => none
  | n + 1 => fX8_takeStep_b8 v0_open c2 c3 c4 c5 c6 c7 c9  (fX8_takeStep_l8 v0_open c2 c3 c4 c5 c6 c7 c9  n)
noncomputable def fX8_takeStep (a0 : Int32) (a1 : Int32) (v0_open : Int32) (v0_point : Int32) (v0_setting : Int32) (c2 : Nat → Int64) (c3 : Nat → Int32) (c4 : Nat → Int32) (c5 : Nat → Int32) (c6 : Nat → Int32) (c7 : Nat → Int32) (c9 : Nat → Int32) (c10 : Nat → Int32) : Option (Int32 × Int32 × (Nat → Int32)) :=
  fX8_takeStep_l8 v0_open c2 c3 c4 c5 c6 c7 c9 FU a0 a1 v0_point 0 v0_point v0_setting c10
noncomputable def fX8_record_p165 (v1_procedures : Int32) (c2 : Nat → Int32) (c8 : Nat → Int32) (c9 : Nat → Int32) (c10 : Nat → Int32) (c12 : Nat → Int32) (c15 : Nat → Int32) (c16 : Nat → Int64) (c17 : Nat → Int32) (v0_length : Int32) (v0_open : Int32) (v0_point : Int32) (v0_setting : Int32) (c3 : (Nat → Int32)) (c4 : (Nat → Int32)) (c5 : (Nat → Int32)) (c6 : (Nat → Int32)) (c7 : (Nat → Int32)) (c13 : (Nat → Int32)) (c14 : (Nat → Int32)) : Option (Int32 × Int32 × Int32 × Int32 × (Nat → Int32) × (Nat → Int32) × (Nat → Int32) × (Nat → Int32) × (Nat → Int32) × (Nat → Int32) × (Nat → Int32)) :=
  some (v0_length, v0_open, v0_point, v0_setting, c3, c4, c5, c6, c7, c13, c14)
noncomputable def fX8_record_p155 (v1_procedures : Int32) (c2 : Nat → Int32) (c8 : Nat → Int32) (c9 : Nat → Int32) (c10 : Nat → Int32) (c12 : Nat → Int32) (c15 : Nat → Int32) (c16 : Nat → Int64) (c17 : Nat → Int32) (k50 : Int32 → Int32 → Int32 → Int32 → Int32 → Int32 → (Nat → Int32) → (Nat → Int32) → (Nat → Int32) → (Nat → Int32) → (Nat → Int32) → (Nat → Int32) → (Nat → Int32) → Option (Int32 × Int32 × Int32 × Int32 × (Nat → Int32) × (Nat → Int32) × (Nat → Int32) × (Nat → Int32) × (Nat → Int32) × (Nat → Int32) × (Nat → Int32))) (y1 : Int32) (y2 : Int32) (v0_length : Int32) (v0_open : Int32) (v0_point : Int32) (v0_setting : Int32) (c3 : (Nat → Int32)) (c4 : (Nat → Int32)) (c5 : (Nat → Int32)) (c6 : (Nat → Int32)) (c7 : (Nat → Int32)) (c13 : (Nat → Int32)) (c14 : (Nat → Int32)) : Option (Int32 × Int32 × Int32 × Int32 × (Nat → Int32) × (Nat → Int32) × (Nat → Int32) × (Nat → Int32) × (Nat → Int32) × (Nat → Int32) × (Nat → Int32)) :=
  ob (fX8_leaveEndedCalls v0_open v0_point v0_setting c13 c14) fun o1 =>
  nm (y2 + 1) fun x2 =>
  k50 y1 x2 v0_length o1.1 o1.2.1 o1.2.2 c3 c4 c5 c6 c7 c13 c14
noncomputable def fX8_record_b50 (v1_procedures : Int32) (c2 : Nat → Int32) (c8 : Nat → Int32) (c9 : Nat → Int32) (c10 : Nat → Int32) (c12 : Nat → Int32) (c15 : Nat → Int32) (c16 : Nat → Int64) (c17 : Nat → Int32) (k50 : Int32 → Int32 → Int32 → Int32 → Int32 → Int32 → (Nat → Int32) → (Nat → Int32) → (Nat → Int32) → (Nat → Int32) → (Nat → Int32) → (Nat → Int32) → (Nat → Int32) → Option (Int32 × Int32 × Int32 × Int32 × (Nat → Int32) × (Nat → Int32) × (Nat → Int32) × (Nat → Int32) × (Nat → Int32) × (Nat → Int32) × (Nat → Int32))) (y1 : Int32) (y2 : Int32) (v0_length : Int32) (v0_open : Int32) (v0_point : Int32) (v0_setting : Int32) (c3 : (Nat → Int32)) (c4 : (Nat → Int32)) (c5 : (Nat → Int32)) (c6 : (Nat → Int32)) (c7 : (Nat → Int32)) (c13 : (Nat → Int32)) (c14 : (Nat → Int32)) : Option (Int32 × Int32 × Int32 × Int32 × (Nat → Int32) × (Nat → Int32) × (Nat → Int32) × (Nat → Int32) × (Nat → Int32) × (Nat → Int32) × (Nat → Int32)) :=
  if y1 ≤ y2 then
    fX8_record_p165 v1_procedures c2 c8 c9 c10 c12 c15 c16 c17 v0_length v0_open v0_point v0_setting c3 c4 c5 c6 c7 c13 c14
  else
    if 2000 ≤ y2 then
      fX8_record_p165 v1_procedures c2 c8 c9 c10 c12 c15 c16 c17 v0_length v0_open v0_point v0_setting c3 c4 c5 c6 c7 c13 c14
    else
      if v0_point < 0 then
        fX8_record_p165 v1_procedures c2 c8 c9 c10 c12 c15 c16 c17 v0_length v0_open v0_point v0_setting c3 c4 c5 c6 c7 c13 c14
      else
        bd (inb y2 2000) <|
        nm (upd c4 y2.toNatClampNeg v0_point) fun c6x =>
        nm (v0_open + 1) fun x7 =>
        bd (inb y2 2000) <|
        nm (upd c5 y2.toNatClampNeg x7) fun c8x =>
        bd (inb y2 2000) <|
        nm (upd c6 y2.toNatClampNeg v0_setting) fun c9x =>
        bd (inb y2 2000) <|
        nm (upd c7 y2.toNatClampNeg (-1)) fun c10x =>
        nm (v0_length + 1) fun x11 =>
        bd (inb v0_point 40) <|
        nm (c8 v0_point.toNatClampNeg) fun x13 =>
        if x13 = 3 then
          ob (fX8_openCall v0_point v0_open v0_point v0_setting c9 c10 c3 c12 c13 c14 c15 c2) fun o18 =>
          fX8_record_p155 v1_procedures c2 c8 c9 c10 c12 c15 c16 c17 k50 y1 y2 x11 o18.1 o18.2.1 o18.2.2.1 o18.2.2.2.1 c6x c8x c9x c10x o18.2.2.2.2.1 o18.2.2.2.2.2
        else
          nm (y1 - y2) fun x15 =>
          nm (x15 - 1) fun x16 =>
          ob (fX8_takeStep y2 x16 v0_open v0_point v0_setting c16 c8 c17 c9 c10 c3 c12 c10x) fun o17 =>
          fX8_record_p155 v1_procedures c2 c8 c9 c10 c12 c15 c16 c17 k50 y1 y2 x11 v0_open o17.1 o17.2.1 c3 c6x c8x c9x o17.2.2 c13 c14
noncomputable def fX8_record_l50 (v1_procedures : Int32) (c2 : Nat → Int32) (c8 : Nat → Int32) (c9 : Nat → Int32) (c10 : Nat → Int32) (c12 : Nat → Int32) (c15 : Nat → Int32) (c16 : Nat → Int64) (c17 : Nat → Int32) : Nat → Int32 → Int32 → Int32 → Int32 → Int32 → Int32 → (Nat → Int32) → (Nat → Int32) → (Nat → Int32) → (Nat → Int32) → (Nat → Int32) → (Nat → Int32) → (Nat → Int32) → Option (Int32 × Int32 × Int32 × Int32 × (Nat → Int32) × (Nat → Int32) × (Nat → Int32) × (Nat → Int32) × (Nat → Int32) × (Nat → Int32) × (Nat → Int32))
  | 0 => fun _ _ _ _ _ _ _ _ _ _ _ _ _ => none
  | n + 1 => fX8_record_b50 v1_procedures c2 c8 c9 c10 c12 c15 c16 c17  (fX8_record_l50 v1_procedures c2 c8 c9 c10 c12 c15 c16 c17  n)
noncomputable def fX8_record_b28 (v1_procedures : Int32) (c2 : Nat → Int32) (c8 : Nat → Int32) (c9 : Nat → Int32) (c10 : Nat → Int32) (c12 : Nat → Int32) (c15 : Nat → Int32) (c16 : Nat → Int64) (c17 : Nat → Int32) (k28 : Int32 → Int32 → Int32 → Int32 → Int32 → Int32 → (Nat → Int32) → (Nat → Int32) → (Nat → Int32) → (Nat → Int32) → (Nat → Int32) → (Nat → Int32) → (Nat → Int32) → Option (Int32 × Int32 × Int32 × Int32 × (Nat → Int32) × (Nat → Int32) × (Nat → Int32) × (Nat → Int32) × (Nat → Int32) × (Nat → Int32) × (Nat → Int32))) (y1 : Int32) (y2 : Int32) (v0_length : Int32) (v0_open : Int32) (v0_point : Int32) (v0_setting : Int32) (c3 : (Nat → Int32)) (c4 : (Nat → Int32)) (c5 : (Nat → Int32)) (c6 : (Nat → Int32)) (c7 : (Nat → Int32)) (c13 : (Nat → Int32)) (c14 : (Nat → Int32)) : Option (Int32 × Int32 × Int32 × Int32 × (Nat → Int32) × (Nat → Int32) × (Nat → Int32) × (Nat → Int32) × (Nat → Int32) × (Nat → Int32) × (Nat → Int32)) :=
  if 8 ≤ y2 then
    fX8_record_l50 v1_procedures c2 c8 c9 c10 c12 c15 c16 c17 FU y1 0 v0_length v0_open v0_point v0_setting c3 c4 c5 c6 c7 c13 c14
  else
    bd (inb y2 16008) <|
    nm (upd c3 y2.toNatClampNeg 536870912) fun c20x =>
    nm (y2 + 1) fun x21 =>
    k28 y1 x21 v0_length v0_open v0_point v0_setting c20x c4 c5 c6 c7 c13 c14
noncomputable def fX8_record_l28 (v1_procedures : Int32) (c2 : Nat → Int32) (c8 : Nat → Int32) (c9 : Nat → Int32) (c10 : Nat → Int32) (c12 : Nat → Int32) (c15 : Nat → Int32) (c16 : Nat → Int64) (c17 : Nat → Int32) : Nat → Int32 → Int32 → Int32 → Int32 → Int32 → Int32 → (Nat → Int32) → (Nat → Int32) → (Nat → Int32) → (Nat → Int32) → (Nat → Int32) → (Nat → Int32) → (Nat → Int32) → Option (Int32 × Int32 × Int32 × Int32 × (Nat → Int32) × (Nat → Int32) × (Nat → Int32) × (Nat → Int32) × (Nat → Int32) × (Nat → Int32) × (Nat → Int32))
  | 0 => fun _ _ _ _ _ _ _ _ _ _ _ _ _ => none
  | n + 1 => fX8_record_b28 v1_procedures c2 c8 c9 c10 c12 c15 c16 c17  (fX8_record_l28 v1_procedures c2 c8 c9 c10 c12 c15 c16 c17  n)
noncomputable def fX8_record (a0 : Int32) (v0_length : Int32) (v0_open : Int32) (v0_point : Int32) (v0_setting : Int32) (v1_procedures : Int32) (c2 : Nat → Int32) (c3 : Nat → Int32) (c4 : Nat → Int32) (c5 : Nat → Int32) (c6 : Nat → Int32) (c7 : Nat → Int32) (c8 : Nat → Int32) (c9 : Nat → Int32) (c10 : Nat → Int32) (c12 : Nat → Int32) (c13 : Nat → Int32) (c14 : Nat → Int32) (c15 : Nat → Int32) (c16 : Nat → Int64) (c17 : Nat → Int32) : Option (Int32 × Int32 × Int32 × Int32 × (Nat → Int32) × (Nat → Int32) × (Nat → Int32) × (Nat → Int32) × (Nat → Int32) × (Nat → Int32) × (Nat → Int32)) :=
  ob (fX3_firstPoint v1_procedures c2) fun o22 =>
  fX8_record_l28 v1_procedures c2 c8 c9 c10 c12 c15 c16 c17 FU a0 0 0 0 o22.1 0 c3 c4 c5 c6 c7 c13 c14
noncomputable def fX10_isNode_p15  (z0 : Int32) : Option (Int32 × Unit) :=
  bd (bz z0) <|
  some (z0, ())
noncomputable def fX10_isNode_p14   : Option (Int32 × Unit) :=
  fX10_isNode_p15 0
noncomputable def fX10_isNode (a0 : Int32) : Option (Int32 × Unit) :=
  if a0 < 0 then
    fX10_isNode_p14 
  else
    if 16 ≤ a0 then
      fX10_isNode_p14 
    else
      fX10_isNode_p15 1
noncomputable def fX10_isSign_p15  (z0 : Int32) : Option (Int32 × Unit) :=
  bd (bz z0) <|
  some (z0, ())
noncomputable def fX10_isSign_p14   : Option (Int32 × Unit) :=
  fX10_isSign_p15 0
noncomputable def fX10_isSign (a0 : Int32) : Option (Int32 × Unit) :=
  if a0 < 0 then
    fX10_isSign_p14 
  else
    if 12 ≤ a0 then
      fX10_isSign_p14 
    else
      fX10_isSign_p15 1
noncomputable def fX10_arc_p27  (v1_systemChanges : Int32) (v1_arcs : Int32) (c2 : (Nat → Int32)) : Option (Int32 × Int32 × Int32 × (Nat → Int32)) :=
  some ((-2), (v1_systemChanges, v1_arcs, c2))
noncomputable def fX10_arc (a0 : Int32) (a1 : Int32) (a2 : Int32) (v1_systemChanges : Int32) (v1_arcs : Int32) (c2 : Nat → Int32) : Option (Int32 × Int32 × Int32 × (Nat → Int32)) :=
  ob (fX10_isNode a0) fun o1 =>
  if o1.1 = 0 then
    fX10_arc_p27 v1_systemChanges v1_arcs c2
  else
    ob (fX10_isSign a1) fun o3 =>
    if o3.1 = 0 then
      fX10_arc_p27 v1_systemChanges v1_arcs c2
    else
      ob (fX10_isNode a2) fun o5 =>
      if o5.1 = 0 then
        fX10_arc_p27 v1_systemChanges v1_arcs c2
      else
        if 8 ≤ a2 then
          ob (fX6_addArc a0 a1 a2 v1_systemChanges v1_arcs c2) fun o8 =>
          some (o8.1, (o8.2.1, o8.2.2.1, o8.2.2.2))
        else
          fX10_arc_p27 v1_systemChanges v1_arcs c2
noncomputable def fX10_clear (v1_rules : Int32) (v1_ends : Int32) (v1_systemChanges : Int32) (v1_arcs : Int32) (c2 : Nat → Int32) : Option (Int32 × Int32 × Int32 × Int32 × Int32 × (Nat → Int32)) :=
  ob (fX6_removeAll v1_rules v1_ends v1_systemChanges v1_arcs c2) fun o1 =>
  some (o1.1, (o1.2.1, o1.2.2.1, o1.2.2.2.1, o1.2.2.2.2.1, o1.2.2.2.2.2))
noncomputable def fX10_drop (v1_height : Int32) (v1_wordChanges : Int32) : Option (Int32 × Int32 × Int32) :=
  ob (fX6_emptyWord v1_height v1_wordChanges) fun o1 =>
  some (o1.1, (o1.2.1, o1.2.2))
noncomputable def fX10_end_p16  (v1_ends : Int32) (v1_systemChanges : Int32) : Option (Int32 × Int32 × Int32) :=
  some ((-2), (v1_ends, v1_systemChanges))
noncomputable def fX10_end (a0 : Int32) (a1 : Int32) (v1_ends : Int32) (v1_systemChanges : Int32) : Option (Int32 × Int32 × Int32) :=
  ob (fX10_isNode a0) fun o1 =>
  if o1.1 = 0 then
    fX10_end_p16 v1_ends v1_systemChanges
  else
    if a1 < 0 then
      fX10_end_p16 v1_ends v1_systemChanges
    else
      if a1 ≤ 1 then
        ob (fX6_setEnd a0 a1 v1_ends v1_systemChanges) fun o5 =>
        some (o5.1, (o5.2.1, o5.2.2))
      else
        fX10_end_p16 v1_ends v1_systemChanges
noncomputable def fX10_isState_p15  (z0 : Int32) : Option (Int32 × Unit) :=
  bd (bz z0) <|
  some (z0, ())
noncomputable def fX10_isState_p14   : Option (Int32 × Unit) :=
  fX10_isState_p15 0
noncomputable def fX10_isState (a0 : Int32) : Option (Int32 × Unit) :=
  if a0 < 0 then
    fX10_isState_p14 
  else
    if 8 ≤ a0 then
      fX10_isState_p14 
    else
      fX10_isState_p15 1
noncomputable def fX10_lies_p26 (v1_ends : Int32) (v1_height : Int32) (c2 : Nat → Int32) (c3 : Nat → Int32) (z0 : Int32) : Option (Int32 × Unit) :=
  some (z0, ())
noncomputable def fX10_lies (a0 : Int32) (v1_ends : Int32) (v1_height : Int32) (c2 : Nat → Int32) (c3 : Nat → Int32) : Option (Int32 × Unit) :=
  ob (fX10_isState a0) fun o1 =>
  if o1.1 = 0 then
    some ((-2), ())
  else
    ob (fX6_holdsWord a0 v1_ends v1_height c2 c3) fun o3 =>
    if o3.1 = 0 then
      fX10_lies_p26 v1_ends v1_height c2 c3 0
    else
      fX10_lies_p26 v1_ends v1_height c2 c3 1
noncomputable def fX10_place_p21 (v1_fault : Int32) (v1_faultAt : Int32) (z0 : Int32) : Option (Int32 × Unit) :=
  some (z0, ())
noncomputable def fX10_place (v1_fault : Int32) (v1_faultAt : Int32) : Option (Int32 × Unit) :=
  if v1_fault = 0 then
    fX10_place_p21 v1_fault v1_faultAt (-1)
  else
    fX10_place_p21 v1_fault v1_faultAt v1_faultAt
noncomputable def fX10_push_p20  (z0 : Int32) (v1_height : Int32) (v1_wordChanges : Int32) (c2 : (Nat → Int32)) : Option (Int32 × Int32 × Int32 × (Nat → Int32)) :=
  some (z0, (v1_height, v1_wordChanges, c2))
noncomputable def fX10_push (a0 : Int32) (v1_height : Int32) (v1_wordChanges : Int32) (c2 : Nat → Int32) : Option (Int32 × Int32 × Int32 × (Nat → Int32)) :=
  ob (fX10_isSign a0) fun o1 =>
  if o1.1 = 0 then
    fX10_push_p20 (-2) v1_height v1_wordChanges c2
  else
    ob (fX6_addToWord a0 v1_height v1_wordChanges c2) fun o3 =>
    fX10_push_p20 o3.1 o3.2.1 o3.2.2.1 o3.2.2.2
noncomputable def fX10_read_p42 (c4 : Nat → Int32) (z0 : Int32) (v0_isChecked : Int32) (v1_locals : Int32) (v2_isThere : Int32) (v2_globals : Int32) (v2_procedures : Int32) (v2_statements : Int32) (v3_token : Int32) (v3_tokenAt : Int32) (v3_name : Int64) (v3_fault : Int32) (v3_faultAt : Int32) (v3_size : Int32) (v3_next : Int32) (c5 : (Nat → Int64)) (c6 : (Nat → Int64)) (c7 : (Nat → Int32)) (c8 : (Nat → Int32)) (c9 : (Nat → Int32)) (c10 : (Nat → Int64)) (c11 : (Nat → Int32)) (c12 : (Nat → Int32)) (c13 : (Nat → Int32)) (c14 : (Nat → Int32)) (c15 : (Nat → Int32)) (c16 : (Nat → Int32)) (c17 : (Nat → Int64)) (c18 : (Nat → Int32)) (c19 : (Nat → Int32)) (c20 : (Nat → Int32)) (c21 : (Nat → Int32)) (c22 : (Nat → Int32)) : Option (Int32 × Int32 × Int32 × Int32 × Int32 × Int32 × Int32 × Int32 × Int32 × Int64 × Int32 × Int32 × Int32 × Int32 × (Nat → Int64) × (Nat → Int64) × (Nat → Int32) × (Nat → Int32) × (Nat → Int32) × (Nat → Int64) × (Nat → Int32) × (Nat → Int32) × (Nat → Int32) × (Nat → Int32) × (Nat → Int32) × (Nat → Int32) × (Nat → Int64) × (Nat → Int32) × (Nat → Int32) × (Nat → Int32) × (Nat → Int32) × (Nat → Int32)) :=
  some (z0, (v0_isChecked, v1_locals, v2_isThere, v2_globals, v2_procedures, v2_statements, v3_token, v3_tokenAt, v3_name, v3_fault, v3_faultAt, v3_size, v3_next, c5, c6, c7, c8, c9, c10, c11, c12, c13, c14, c15, c16, c17, c18, c19, c20, c21, c22))
noncomputable def fX10_read (v0_isChecked : Int32) (v1_locals : Int32) (v2_isThere : Int32) (v2_globals : Int32) (v2_procedures : Int32) (v2_statements : Int32) (v3_token : Int32) (v3_tokenAt : Int32) (v3_name : Int64) (v3_fault : Int32) (v3_faultAt : Int32) (v3_size : Int32) (v3_next : Int32) (c4 : Nat → Int32) (c5 : Nat → Int64) (c6 : Nat → Int64) (c7 : Nat → Int32) (c8 : Nat → Int32) (c9 : Nat → Int32) (c10 : Nat → Int64) (c11 : Nat → Int32) (c12 : Nat → Int32) (c13 : Nat → Int32) (c14 : Nat → Int32) (c15 : Nat → Int32) (c16 : Nat → Int32) (c17 : Nat → Int64) (c18 : Nat → Int32) (c19 : Nat → Int32) (c20 : Nat → Int32) (c21 : Nat → Int32) (c22 : Nat → Int32) : Option (Int32 × Int32 × Int32 × Int32 × Int32 × Int32 × Int32 × Int32 × Int32 × Int64 × Int32 × Int32 × Int32 × Int32 × (Nat → Int64) × (Nat → Int64) × (Nat → Int32) × (Nat → Int32) × (Nat → Int32) × (Nat → Int64) × (Nat → Int32) × (Nat → Int32) × (Nat → Int32) × (Nat → Int32) × (Nat → Int32) × (Nat → Int32) × (Nat → Int64) × (Nat → Int32) × (Nat → Int32) × (Nat → Int32) × (Nat → Int32) × (Nat → Int32)) :=
  ob (fX2_readProgram v1_locals v2_isThere v2_globals v2_procedures v2_statements v3_token v3_tokenAt v3_name v3_fault v3_faultAt v3_size v3_next c4 c5 c6 c7 c8 c9 c10 c11 c12 c13 c14 c15 c16 c17 c18 c19 c20 c21 c22) fun o1 =>
  if o1.2.2.2.2.2.2.2.2.1 = 0 then
    fX10_read_p42 c4 o1.2.2.2.2.1 0 o1.1 o1.2.1 o1.2.2.1 o1.2.2.2.1 o1.2.2.2.2.1 o1.2.2.2.2.2.1 o1.2.2.2.2.2.2.1 o1.2.2.2.2.2.2.2.1 o1.2.2.2.2.2.2.2.2.1 o1.2.2.2.2.2.2.2.2.2.1 o1.2.2.2.2.2.2.2.2.2.2.1 o1.2.2.2.2.2.2.2.2.2.2.2.1 o1.2.2.2.2.2.2.2.2.2.2.2.2.1 o1.2.2.2.2.2.2.2.2.2.2.2.2.2.1 o1.2.2.2.2.2.2.2.2.2.2.2.2.2.2.1 o1.2.2.2.2.2.2.2.2.2.2.2.2.2.2.2.1 o1.2.2.2.2.2.2.2.2.2.2.2.2.2.2.2.2.1 o1.2.2.2.2.2.2.2.2.2.2.2.2.2.2.2.2.2.1 o1.2.2.2.2.2.2.2.2.2.2.2.2.2.2.2.2.2.2.1 o1.2.2.2.2.2.2.2.2.2.2.2.2.2.2.2.2.2.2.2.1 o1.2.2.2.2.2.2.2.2.2.2.2.2.2.2.2.2.2.2.2.2.1 o1.2.2.2.2.2.2.2.2.2.2.2.2.2.2.2.2.2.2.2.2.2.1 o1.2.2.2.2.2.2.2.2.2.2.2.2.2.2.2.2.2.2.2.2.2.2.1 o1.2.2.2.2.2.2.2.2.2.2.2.2.2.2.2.2.2.2.2.2.2.2.2.1 o1.2.2.2.2.2.2.2.2.2.2.2.2.2.2.2.2.2.2.2.2.2.2.2.2.1 o1.2.2.2.2.2.2.2.2.2.2.2.2.2.2.2.2.2.2.2.2.2.2.2.2.2.1 o1.2.2.2.2.2.2.2.2.2.2.2.2.2.2.2.2.2.2.2.2.2.2.2.2.2.2.1 o1.2.2.2.2.2.2.2.2.2.2.2.2.2.2.2.2.2.2.2.2.2.2.2.2.2.2.2.1 o1.2.2.2.2.2.2.2.2.2.2.2.2.2.2.2.2.2.2.2.2.2.2.2.2.2.2.2.2.1 o1.2.2.2.2.2.2.2.2.2.2.2.2.2.2.2.2.2.2.2.2.2.2.2.2.2.2.2.2.2
  else
    nm ((-10) - o1.2.2.2.2.2.2.2.2.1) fun x3 =>
    fX10_read_p42 c4 x3 0 o1.1 o1.2.1 o1.2.2.1 o1.2.2.2.1 o1.2.2.2.2.1 o1.2.2.2.2.2.1 o1.2.2.2.2.2.2.1 o1.2.2.2.2.2.2.2.1 o1.2.2.2.2.2.2.2.2.1 o1.2.2.2.2.2.2.2.2.2.1 o1.2.2.2.2.2.2.2.2.2.2.1 o1.2.2.2.2.2.2.2.2.2.2.2.1 o1.2.2.2.2.2.2.2.2.2.2.2.2.1 o1.2.2.2.2.2.2.2.2.2.2.2.2.2.1 o1.2.2.2.2.2.2.2.2.2.2.2.2.2.2.1 o1.2.2.2.2.2.2.2.2.2.2.2.2.2.2.2.1 o1.2.2.2.2.2.2.2.2.2.2.2.2.2.2.2.2.1 o1.2.2.2.2.2.2.2.2.2.2.2.2.2.2.2.2.2.1 o1.2.2.2.2.2.2.2.2.2.2.2.2.2.2.2.2.2.2.1 o1.2.2.2.2.2.2.2.2.2.2.2.2.2.2.2.2.2.2.2.1 o1.2.2.2.2.2.2.2.2.2.2.2.2.2.2.2.2.2.2.2.2.1 o1.2.2.2.2.2.2.2.2.2.2.2.2.2.2.2.2.2.2.2.2.2.1 o1.2.2.2.2.2.2.2.2.2.2.2.2.2.2.2.2.2.2.2.2.2.2.1 o1.2.2.2.2.2.2.2.2.2.2.2.2.2.2.2.2.2.2.2.2.2.2.2.1 o1.2.2.2.2.2.2.2.2.2.2.2.2.2.2.2.2.2.2.2.2.2.2.2.2.1 o1.2.2.2.2.2.2.2.2.2.2.2.2.2.2.2.2.2.2.2.2.2.2.2.2.2.1 o1.2.2.2.2.2.2.2.2.2.2.2.2.2.2.2.2.2.2.2.2.2.2.2.2.2.2.1 o1.2.2.2.2.2.2.2.2.2.2.2.2.2.2.2.2.2.2.2.2.2.2.2.2.2.2.2.1 o1.2.2.2.2.2.2.2.2.2.2.2.2.2.2.2.2.2.2.2.2.2.2.2.2.2.2.2.2.1 o1.2.2.2.2.2.2.2.2.2.2.2.2.2.2.2.2.2.2.2.2.2.2.2.2.2.2.2.2.2
noncomputable def fX10_rule_p32  (v1_rules : Int32) (v1_systemChanges : Int32) (c2 : (Nat → Int32)) (c3 : (Nat → Int32)) (c4 : (Nat → Int32)) (c5 : (Nat → Int32)) (c6 : (Nat → Int32)) (c7 : (Nat → Int32)) : Option (Int32 × Int32 × Int32 × (Nat → Int32) × (Nat → Int32) × (Nat → Int32) × (Nat → Int32) × (Nat → Int32) × (Nat → Int32)) :=
  some ((-2), (v1_rules, v1_systemChanges, c2, c3, c4, c5, c6, c7))
noncomputable def fX10_rule_p66  (y1 : Int32) (y2 : Int32) (y3 : Int32) (y4 : Int32) (y5 : Int32) (y6 : Int32) (v1_rules : Int32) (v1_systemChanges : Int32) (c2 : (Nat → Int32)) (c3 : (Nat → Int32)) (c4 : (Nat → Int32)) (c5 : (Nat → Int32)) (c6 : (Nat → Int32)) (c7 : (Nat → Int32)) : Option (Int32 × Int32 × Int32 × (Nat → Int32) × (Nat → Int32) × (Nat → Int32) × (Nat → Int32) × (Nat → Int32) × (Nat → Int32)) :=
  ob (fX6_addRule y1 y2 y3 y4 y5 y6 v1_rules v1_systemChanges c2 c3 c4 c5 c6 c7) fun o1 =>
  some (o1.1, (o1.2.1, o1.2.2.1, o1.2.2.2.1, o1.2.2.2.2.1, o1.2.2.2.2.2.1, o1.2.2.2.2.2.2.1, o1.2.2.2.2.2.2.2.1, o1.2.2.2.2.2.2.2.2))
noncomputable def fX10_rule_p63  (v1_rules : Int32) (v1_systemChanges : Int32) (c2 : (Nat → Int32)) (c3 : (Nat → Int32)) (c4 : (Nat → Int32)) (c5 : (Nat → Int32)) (c6 : (Nat → Int32)) (c7 : (Nat → Int32)) : Option (Int32 × Int32 × Int32 × (Nat → Int32) × (Nat → Int32) × (Nat → Int32) × (Nat → Int32) × (Nat → Int32) × (Nat → Int32)) :=
  some ((-2), (v1_rules, v1_systemChanges, c2, c3, c4, c5, c6, c7))
noncomputable def fX10_rule_p49  (y1 : Int32) (y2 : Int32) (y3 : Int32) (y4 : Int32) (y5 : Int32) (y6 : Int32) (v1_rules : Int32) (v1_systemChanges : Int32) (c2 : (Nat → Int32)) (c3 : (Nat → Int32)) (c4 : (Nat → Int32)) (c5 : (Nat → Int32)) (c6 : (Nat → Int32)) (c7 : (Nat → Int32)) : Option (Int32 × Int32 × Int32 × (Nat → Int32) × (Nat → Int32) × (Nat → Int32) × (Nat → Int32) × (Nat → Int32) × (Nat → Int32)) :=
  if y4 = 2 then
    ob (fX10_isSign y6) fun o3 =>
    if o3.1 = 0 then
      fX10_rule_p63 v1_rules v1_systemChanges c2 c3 c4 c5 c6 c7
    else
      fX10_rule_p66 y1 y2 y3 y4 y5 y6 v1_rules v1_systemChanges c2 c3 c4 c5 c6 c7
  else
    fX10_rule_p66 y1 y2 y3 y4 y5 y6 v1_rules v1_systemChanges c2 c3 c4 c5 c6 c7
noncomputable def fX10_rule (a0 : Int32) (a1 : Int32) (a2 : Int32) (a3 : Int32) (a4 : Int32) (a5 : Int32) (v1_rules : Int32) (v1_systemChanges : Int32) (c2 : Nat → Int32) (c3 : Nat → Int32) (c4 : Nat → Int32) (c5 : Nat → Int32) (c6 : Nat → Int32) (c7 : Nat → Int32) : Option (Int32 × Int32 × Int32 × (Nat → Int32) × (Nat → Int32) × (Nat → Int32) × (Nat → Int32) × (Nat → Int32) × (Nat → Int32)) :=
  ob (fX10_isState a0) fun o5 =>
  if o5.1 = 0 then
    fX10_rule_p32 v1_rules v1_systemChanges c2 c3 c4 c5 c6 c7
  else
    ob (fX10_isSign a1) fun o7 =>
    if o7.1 = 0 then
      fX10_rule_p32 v1_rules v1_systemChanges c2 c3 c4 c5 c6 c7
    else
      ob (fX10_isState a2) fun o9 =>
      if o9.1 = 0 then
        fX10_rule_p32 v1_rules v1_systemChanges c2 c3 c4 c5 c6 c7
      else
        if a3 < 0 then
          fX10_rule_p32 v1_rules v1_systemChanges c2 c3 c4 c5 c6 c7
        else
          if a3 ≤ 2 then
            if a3 < 1 then
              fX10_rule_p49 a0 a1 a2 a3 a4 a5 v1_rules v1_systemChanges c2 c3 c4 c5 c6 c7
            else
              ob (fX10_isSign a4) fun o14 =>
              if o14.1 = 0 then
                fX10_rule_p63 v1_rules v1_systemChanges c2 c3 c4 c5 c6 c7
              else
                fX10_rule_p49 a0 a1 a2 a3 a4 a5 v1_rules v1_systemChanges c2 c3 c4 c5 c6 c7
          else
            fX10_rule_p32 v1_rules v1_systemChanges c2 c3 c4 c5 c6 c7
noncomputable def fX10_told (a0 : Int32) (a1 : Int32) (v1_globals : Int32) (v1_procedures : Int32) (v1_statements : Int32) (c2 : Nat → Int32) (c3 : Nat → Int32) (c4 : Nat → Int32) : Option (Int32 × Unit) :=
  if a0 = 0 then
    some (v1_globals, ())
  else if a0 = 1 then
    some (v1_procedures, ())
  else if a0 = 2 then
    some (v1_statements, ())
  else 
    ob (fX3_aboutStatement a0 a1 v1_statements c2 c3 c4) fun o4 =>
    some (o4.1, ())
noncomputable def fX10_type_p11  (v1_size : Int32) (c2 : (Nat → Int32)) : Option (Int32 × Int32 × (Nat → Int32)) :=
  some ((-2), (v1_size, c2))
noncomputable def fX10_type (a0 : Int64) (a1 : Int32) (v1_size : Int32) (c2 : Nat → Int32) : Option (Int32 × Int32 × (Nat → Int32)) :=
  if a1 < 1 then
    fX10_type_p11 v1_size c2
  else
    if a1 ≤ 8 then
      ob (fX4_addBytes a0 a1 v1_size c2) fun o3 =>
      some (o3.1, (o3.2.1, o3.2.2))
    else
      fX10_type_p11 v1_size c2
noncomputable def fX11_add_p29  (y4 : Int32) (z0 : Int32) (c1 : (Nat → Int32)) : Option (Int32 × (Nat → Int32)) :=
  bd (inb y4 150528) <|
  nm (upd c1 y4.toNatClampNeg (vp_nar .boolean 1)) fun c1x =>
  bd (bz z0) <|
  some (z0, c1x)
noncomputable def fX11_add (a0 : Int32) (a1 : Int32) (a2 : Int32) (c1 : Nat → Int32) : Option (Int32 × (Nat → Int32)) :=
  nm (1344 * a0) fun x3 =>
  nm (112 * a1) fun x4 =>
  nm (x3 + x4) fun x5 =>
  nm (x5 + a2) fun x6 =>
  bd (inb x6 150528) <|
  nm (c1 x6.toNatClampNeg) fun x8 =>
  if x8 = 0 then
    fX11_add_p29 x6 1 c1
  else
    fX11_add_p29 x6 0 c1
noncomputable def fX11_in_p15  (z0 : Int32) : Option (Int32 × Unit) :=
  bd (bz z0) <|
  some (z0, ())
noncomputable def fX11_in_p14   : Option (Int32 × Unit) :=
  fX11_in_p15 0
noncomputable def fX11_in (a0 : Int32) (a1 : Int32) (a2 : Int32) : Option (Int32 × Unit) :=
  if a0 < a1 then
    fX11_in_p14 
  else
    if a2 < a0 then
      fX11_in_p14 
    else
      fX11_in_p15 1
noncomputable def fX11_spread_p435 (v0_rules : Int32) (c1 : Nat → Int32) (k261 : Int32 → Int32 → (Nat → Int32) → (Nat → Int32) → Option (Int32 × (Nat → Int32) × (Nat → Int32))) (k269 : Int32 → Int32 → Int32 → (Nat → Int32) → (Nat → Int32) → Option (Int32 × (Nat → Int32) × (Nat → Int32))) (y1 : Int32) (y2 : Int32) (y3 : Int32) (c2 : (Nat → Int32)) (c3 : (Nat → Int32)) : Option (Int32 × (Nat → Int32) × (Nat → Int32)) :=
  nm (y3 + 1) fun x1 =>
  k269 y1 y2 x1 c2 c3
noncomputable def fX11_spread_p429 (v0_rules : Int32) (c1 : Nat → Int32) (k261 : Int32 → Int32 → (Nat → Int32) → (Nat → Int32) → Option (Int32 × (Nat → Int32) × (Nat → Int32))) (k269 : Int32 → Int32 → Int32 → (Nat → Int32) → (Nat → Int32) → Option (Int32 × (Nat → Int32) × (Nat → Int32))) (k357 : Int32 → Int32 → Int32 → Int32 → (Nat → Int32) → (Nat → Int32) → Option (Int32 × (Nat → Int32) × (Nat → Int32))) (y1 : Int32) (y2 : Int32) (y3 : Int32) (y4 : Int32) (c2 : (Nat → Int32)) (c3 : (Nat → Int32)) : Option (Int32 × (Nat → Int32) × (Nat → Int32)) :=
  nm (y4 + 1) fun x2 =>
  k357 y1 y2 y3 x2 c2 c3
noncomputable def fX11_spread_b357 (v0_rules : Int32) (c1 : Nat → Int32) (k261 : Int32 → Int32 → (Nat → Int32) → (Nat → Int32) → Option (Int32 × (Nat → Int32) × (Nat → Int32))) (k269 : Int32 → Int32 → Int32 → (Nat → Int32) → (Nat → Int32) → Option (Int32 × (Nat → Int32) × (Nat → Int32))) (k357 : Int32 → Int32 → Int32 → Int32 → (Nat → Int32) → (Nat → Int32) → Option (Int32 × (Nat → Int32) × (Nat → Int32))) (y1 : Int32) (y2 : Int32) (y3 : Int32) (y4 : Int32) (c2 : (Nat → Int32)) (c3 : (Nat → Int32)) : Option (Int32 × (Nat → Int32) × (Nat → Int32)) :=
  if 112 ≤ y4 then
    fX11_spread_p435 v0_rules c1 k261 k269 y1 y2 y3 c2 c3
  else
    if 8 ≤ y3 then
      fX11_spread_p435 v0_rules c1 k261 k269 y1 y2 y3 c2 c3
    else
      nm (112 * y2) fun x5 =>
      nm (x5 + y3) fun x6 =>
      bd (inb x6 896) <|
      nm (c3 x6.toNatClampNeg) fun x8 =>
      if x8 = 0 then
        fX11_spread_p435 v0_rules c1 k261 k269 y1 y2 y3 c2 c3
      else
        nm (112 * y3) fun x10 =>
        nm (x10 + y4) fun x11 =>
        bd (inb x11 896) <|
        nm (c3 x11.toNatClampNeg) fun x13 =>
        if x13 = 0 then
          fX11_spread_p429 v0_rules c1 k261 k269 k357 y1 y2 y3 y4 c2 c3
        else
          nm (112 * y2) fun x15 =>
          nm (x15 + y4) fun x16 =>
          bd (inb x16 896) <|
          nm (c3 x16.toNatClampNeg) fun x18 =>
          if x18 = 0 then
            nm (112 * y2) fun x20 =>
            nm (x20 + y4) fun x21 =>
            bd (inb x21 896) <|
            nm (upd c3 x21.toNatClampNeg (vp_nar .boolean 1)) fun c22x =>
            fX11_spread_p429 v0_rules c1 k261 k269 k357 1 y2 y3 y4 c2 c22x
          else
            fX11_spread_p429 v0_rules c1 k261 k269 k357 y1 y2 y3 y4 c2 c3
noncomputable def fX11_spread_l357 (v0_rules : Int32) (c1 : Nat → Int32) (k261 : Int32 → Int32 → (Nat → Int32) → (Nat → Int32) → Option (Int32 × (Nat → Int32) × (Nat → Int32))) (k269 : Int32 → Int32 → Int32 → (Nat → Int32) → (Nat → Int32) → Option (Int32 × (Nat → Int32) × (Nat → Int32))) : Nat → Int32 → Int32 → Int32 → Int32 → (Nat → Int32) → (Nat → Int32) → Option (Int32 × (Nat → Int32) × (Nat → Int32))
  | 0 => fun _ _ _ _ _ _ => none
  | n + 1 => fX11_spread_b357 v0_rules c1 k261 k269 (fX11_spread_l357 v0_rules c1 k261 k269 n)
noncomputable def fX11_spread_p354 (v0_rules : Int32) (c1 : Nat → Int32) (k261 : Int32 → Int32 → (Nat → Int32) → (Nat → Int32) → Option (Int32 × (Nat → Int32) × (Nat → Int32))) (k269 : Int32 → Int32 → Int32 → (Nat → Int32) → (Nat → Int32) → Option (Int32 × (Nat → Int32) × (Nat → Int32))) (y1 : Int32) (y2 : Int32) (y3 : Int32) (c2 : (Nat → Int32)) (c3 : (Nat → Int32)) : Option (Int32 × (Nat → Int32) × (Nat → Int32)) :=
  fX11_spread_l357 v0_rules c1 k261 k269 FU y1 y2 y3 0 c2 c3
noncomputable def fX11_spread_p348 (v0_rules : Int32) (c1 : Nat → Int32) (k261 : Int32 → Int32 → (Nat → Int32) → (Nat → Int32) → Option (Int32 × (Nat → Int32) × (Nat → Int32))) (k269 : Int32 → Int32 → Int32 → (Nat → Int32) → (Nat → Int32) → Option (Int32 × (Nat → Int32) × (Nat → Int32))) (k278 : Int32 → Int32 → Int32 → Int32 → (Nat → Int32) → (Nat → Int32) → Option (Int32 × (Nat → Int32) × (Nat → Int32))) (y1 : Int32) (y2 : Int32) (y3 : Int32) (y4 : Int32) (c2 : (Nat → Int32)) (c3 : (Nat → Int32)) : Option (Int32 × (Nat → Int32) × (Nat → Int32)) :=
  nm (y4 + 1) fun x23 =>
  k278 y1 y2 y3 x23 c2 c3
noncomputable def fX11_spread_b278 (v0_rules : Int32) (c1 : Nat → Int32) (k261 : Int32 → Int32 → (Nat → Int32) → (Nat → Int32) → Option (Int32 × (Nat → Int32) × (Nat → Int32))) (k269 : Int32 → Int32 → Int32 → (Nat → Int32) → (Nat → Int32) → Option (Int32 × (Nat → Int32) × (Nat → Int32))) (k278 : Int32 → Int32 → Int32 → Int32 → (Nat → Int32) → (Nat → Int32) → Option (Int32 × (Nat → Int32) × (Nat → Int32))) (y1 : Int32) (y2 : Int32) (y3 : Int32) (y4 : Int32) (c2 : (Nat → Int32)) (c3 : (Nat → Int32)) : Option (Int32 × (Nat → Int32) × (Nat → Int32)) :=
  if 1344 ≤ y4 then
    fX11_spread_p354 v0_rules c1 k261 k269 y1 y2 y3 c2 c3
  else
    nm (112 * y2) fun x25 =>
    nm (x25 + y3) fun x26 =>
    bd (inb x26 896) <|
    nm (c3 x26.toNatClampNeg) fun x28 =>
    if x28 = 0 then
      fX11_spread_p354 v0_rules c1 k261 k269 y1 y2 y3 c2 c3
    else
      nm (1344 * y3) fun x30 =>
      nm (x30 + y4) fun x31 =>
      bd (inb x31 150528) <|
      nm (c2 x31.toNatClampNeg) fun x33 =>
      if x33 = 0 then
        fX11_spread_p348 v0_rules c1 k261 k269 k278 y1 y2 y3 y4 c2 c3
      else
        nm (1344 * y2) fun x35 =>
        nm (x35 + y4) fun x36 =>
        bd (inb x36 150528) <|
        nm (c2 x36.toNatClampNeg) fun x38 =>
        if x38 = 0 then
          nm (1344 * y2) fun x40 =>
          nm (x40 + y4) fun x41 =>
          bd (inb x41 150528) <|
          nm (upd c2 x41.toNatClampNeg (vp_nar .boolean 1)) fun c42x =>
          fX11_spread_p348 v0_rules c1 k261 k269 k278 1 y2 y3 y4 c42x c3
        else
          fX11_spread_p348 v0_rules c1 k261 k269 k278 y1 y2 y3 y4 c2 c3
noncomputable def fX11_spread_l278 (v0_rules : Int32) (c1 : Nat → Int32) (k261 : Int32 → Int32 → (Nat → Int32) → (Nat → Int32) → Option (Int32 × (Nat → Int32) × (Nat → Int32))) (k269 : Int32 → Int32 → Int32 → (Nat → Int32) → (Nat → Int32) → Option (Int32 × (Nat → Int32) × (Nat → Int32))) : Nat → Int32 → Int32 → Int32 → Int32 → (Nat → Int32) → (Nat → Int32) → Option (Int32 × (Nat → Int32) × (Nat → Int32))
  | 0 => fun _ _ _ _ _ _ => none
  | n + 1 => fX11_spread_b278 v0_rules c1 k261 k269 (fX11_spread_l278 v0_rules c1 k261 k269 n)
noncomputable def fX11_spread_b269 (v0_rules : Int32) (c1 : Nat → Int32) (k261 : Int32 → Int32 → (Nat → Int32) → (Nat → Int32) → Option (Int32 × (Nat → Int32) × (Nat → Int32))) (k269 : Int32 → Int32 → Int32 → (Nat → Int32) → (Nat → Int32) → Option (Int32 × (Nat → Int32) × (Nat → Int32))) (y1 : Int32) (y2 : Int32) (y3 : Int32) (c2 : (Nat → Int32)) (c3 : (Nat → Int32)) : Option (Int32 × (Nat → Int32) × (Nat → Int32)) :=
  if 112 ≤ y3 then
    nm (y2 + 1) fun x44 =>
    k261 y1 x44 c2 c3
  else
    fX11_spread_l278 v0_rules c1 k261 k269 FU y1 y2 y3 0 c2 c3
noncomputable def fX11_spread_l269 (v0_rules : Int32) (c1 : Nat → Int32) (k261 : Int32 → Int32 → (Nat → Int32) → (Nat → Int32) → Option (Int32 × (Nat → Int32) × (Nat → Int32))) : Nat → Int32 → Int32 → Int32 → (Nat → Int32) → (Nat → Int32) → Option (Int32 × (Nat → Int32) × (Nat → Int32))
  | 0 => fun _ _ _ _ _ => none
  | n + 1 => fX11_spread_b269 v0_rules c1 k261 (fX11_spread_l269 v0_rules c1 k261 n)
noncomputable def fX11_spread_b261 (v0_rules : Int32) (c1 : Nat → Int32) (k261 : Int32 → Int32 → (Nat → Int32) → (Nat → Int32) → Option (Int32 × (Nat → Int32) × (Nat → Int32))) (y1 : Int32) (y2 : Int32) (c2 : (Nat → Int32)) (c3 : (Nat → Int32)) : Option (Int32 × (Nat → Int32) × (Nat → Int32)) :=
  if 8 ≤ y2 then
    bd (bz y1) <|
    some (y1, (c2, c3))
  else
    fX11_spread_l269 v0_rules c1 k261 FU y1 y2 0 c2 c3
noncomputable def fX11_spread_l261 (v0_rules : Int32) (c1 : Nat → Int32) : Nat → Int32 → Int32 → (Nat → Int32) → (Nat → Int32) → Option (Int32 × (Nat → Int32) × (Nat → Int32))
  | 0 => fun _ _ _ _ => none
  | n + 1 => fX11_spread_b261 v0_rules c1  (fX11_spread_l261 v0_rules c1  n)
noncomputable def fX11_spread_p247 (v0_rules : Int32) (c1 : Nat → Int32) (k4 : Int32 → Int32 → (Nat → Int32) → (Nat → Int32) → Option (Int32 × (Nat → Int32) × (Nat → Int32))) (k30 : Int32 → Int32 → Int32 → Int32 → Int32 → (Nat → Int32) → (Nat → Int32) → Option (Int32 × (Nat → Int32) × (Nat → Int32))) (y1 : Int32) (y2 : Int32) (y3 : Int32) (y4 : Int32) (y5 : Int32) (c2 : (Nat → Int32)) (c3 : (Nat → Int32)) : Option (Int32 × (Nat → Int32) × (Nat → Int32)) :=
  nm (y5 + 1) fun x47 =>
  k30 y1 y2 y3 y4 x47 c2 c3
noncomputable def fX11_spread_p246 (v0_rules : Int32) (c1 : Nat → Int32) (k4 : Int32 → Int32 → (Nat → Int32) → (Nat → Int32) → Option (Int32 × (Nat → Int32) × (Nat → Int32))) (k30 : Int32 → Int32 → Int32 → Int32 → Int32 → (Nat → Int32) → (Nat → Int32) → Option (Int32 × (Nat → Int32) × (Nat → Int32))) (y2 : Int32) (y3 : Int32) (y4 : Int32) (y5 : Int32) (z0 : Int32) (c2 : (Nat → Int32)) (c3 : (Nat → Int32)) : Option (Int32 × (Nat → Int32) × (Nat → Int32)) :=
  fX11_spread_p247 v0_rules c1 k4 k30 z0 y2 y3 y4 y5 c2 c3
noncomputable def fX11_spread_p241 (v0_rules : Int32) (c1 : Nat → Int32) (k4 : Int32 → Int32 → (Nat → Int32) → (Nat → Int32) → Option (Int32 × (Nat → Int32) × (Nat → Int32))) (k30 : Int32 → Int32 → Int32 → Int32 → Int32 → (Nat → Int32) → (Nat → Int32) → Option (Int32 × (Nat → Int32) × (Nat → Int32))) (y2 : Int32) (y3 : Int32) (y4 : Int32) (y5 : Int32) (c2 : (Nat → Int32)) (c3 : (Nat → Int32)) : Option (Int32 × (Nat → Int32) × (Nat → Int32)) :=
  fX11_spread_p246 v0_rules c1 k4 k30 y2 y3 y4 y5 1 c2 c3
noncomputable def fX11_spread_p168 (v0_rules : Int32) (c1 : Nat → Int32) (k4 : Int32 → Int32 → (Nat → Int32) → (Nat → Int32) → Option (Int32 × (Nat → Int32) × (Nat → Int32))) (k30 : Int32 → Int32 → Int32 → Int32 → Int32 → (Nat → Int32) → (Nat → Int32) → Option (Int32 × (Nat → Int32) × (Nat → Int32))) (y2 : Int32) (y3 : Int32) (y4 : Int32) (y5 : Int32) (z0 : Int32) (c2 : (Nat → Int32)) (c3 : (Nat → Int32)) : Option (Int32 × (Nat → Int32) × (Nat → Int32)) :=
  fX11_spread_p247 v0_rules c1 k4 k30 z0 y2 y3 y4 y5 c2 c3
noncomputable def fX11_spread_p163 (v0_rules : Int32) (c1 : Nat → Int32) (k4 : Int32 → Int32 → (Nat → Int32) → (Nat → Int32) → Option (Int32 × (Nat → Int32) × (Nat → Int32))) (k30 : Int32 → Int32 → Int32 → Int32 → Int32 → (Nat → Int32) → (Nat → Int32) → Option (Int32 × (Nat → Int32) × (Nat → Int32))) (y2 : Int32) (y3 : Int32) (y4 : Int32) (y5 : Int32) (c2 : (Nat → Int32)) (c3 : (Nat → Int32)) : Option (Int32 × (Nat → Int32) × (Nat → Int32)) :=
  fX11_spread_p168 v0_rules c1 k4 k30 y2 y3 y4 y5 1 c2 c3
noncomputable def fX11_spread_p106 (v0_rules : Int32) (c1 : Nat → Int32) (k4 : Int32 → Int32 → (Nat → Int32) → (Nat → Int32) → Option (Int32 × (Nat → Int32) × (Nat → Int32))) (k30 : Int32 → Int32 → Int32 → Int32 → Int32 → (Nat → Int32) → (Nat → Int32) → Option (Int32 × (Nat → Int32) × (Nat → Int32))) (y2 : Int32) (y3 : Int32) (y4 : Int32) (y5 : Int32) (z0 : Int32) (c2 : (Nat → Int32)) (c3 : (Nat → Int32)) : Option (Int32 × (Nat → Int32) × (Nat → Int32)) :=
  nm (112 * y4) fun x48 =>
  nm (x48 + y5) fun x49 =>
  bd (inb x49 896) <|
  nm (upd c3 x49.toNatClampNeg (vp_nar .boolean 1)) fun c50x =>
  fX11_spread_p247 v0_rules c1 k4 k30 z0 y2 y3 y4 y5 c2 c50x
noncomputable def fX11_spread_p101 (v0_rules : Int32) (c1 : Nat → Int32) (k4 : Int32 → Int32 → (Nat → Int32) → (Nat → Int32) → Option (Int32 × (Nat → Int32) × (Nat → Int32))) (k30 : Int32 → Int32 → Int32 → Int32 → Int32 → (Nat → Int32) → (Nat → Int32) → Option (Int32 × (Nat → Int32) × (Nat → Int32))) (y2 : Int32) (y3 : Int32) (y4 : Int32) (y5 : Int32) (c2 : (Nat → Int32)) (c3 : (Nat → Int32)) : Option (Int32 × (Nat → Int32) × (Nat → Int32)) :=
  fX11_spread_p106 v0_rules c1 k4 k30 y2 y3 y4 y5 1 c2 c3
noncomputable def fX11_spread_b30 (v0_rules : Int32) (c1 : Nat → Int32) (k4 : Int32 → Int32 → (Nat → Int32) → (Nat → Int32) → Option (Int32 × (Nat → Int32) × (Nat → Int32))) (k30 : Int32 → Int32 → Int32 → Int32 → Int32 → (Nat → Int32) → (Nat → Int32) → Option (Int32 × (Nat → Int32) × (Nat → Int32))) (y1 : Int32) (y2 : Int32) (y3 : Int32) (y4 : Int32) (y5 : Int32) (c2 : (Nat → Int32)) (c3 : (Nat → Int32)) : Option (Int32 × (Nat → Int32) × (Nat → Int32)) :=
  if 112 ≤ y5 then
    nm (y2 + 1) fun x52 =>
    k4 y1 x52 c2 c3
  else
    bd (inb y3 288) <|
    nm (c1 y3.toNatClampNeg) fun x54 =>
    nm (1344 * x54) fun x55 =>
    nm (y3 + 1) fun x56 =>
    bd (inb x56 288) <|
    nm (c1 x56.toNatClampNeg) fun x58 =>
    nm (112 * x58) fun x59 =>
    nm (x55 + x59) fun x60 =>
    nm (x60 + y5) fun x61 =>
    bd (inb x61 150528) <|
    nm (c2 x61.toNatClampNeg) fun x63 =>
    if x63 = 0 then
      fX11_spread_p247 v0_rules c1 k4 k30 y1 y2 y3 y4 y5 c2 c3
    else
      nm (y3 + 3) fun x65 =>
      bd (inb x65 288) <|
      nm (c1 x65.toNatClampNeg) fun x67 =>
      if x67 = 0 then
        if y1 = 0 then
          nm (112 * y4) fun x97 =>
          nm (x97 + y5) fun x98 =>
          bd (inb x98 896) <|
          nm (c3 x98.toNatClampNeg) fun x100 =>
          if x100 = 0 then
            fX11_spread_p101 v0_rules c1 k4 k30 y2 y3 y4 y5 c2 c3
          else
            fX11_spread_p106 v0_rules c1 k4 k30 y2 y3 y4 y5 0 c2 c3
        else
          fX11_spread_p101 v0_rules c1 k4 k30 y2 y3 y4 y5 c2 c3
      else
        nm (y3 + 3) fun x69 =>
        bd (inb x69 288) <|
        nm (c1 x69.toNatClampNeg) fun x71 =>
        if x71 = 1 then
          nm (y3 + 4) fun x90 =>
          bd (inb x90 288) <|
          nm (c1 x90.toNatClampNeg) fun x92 =>
          ob (fX11_add y4 x92 y5 c2) fun o93 =>
          if y1 = 0 then
            if o93.1 = 0 then
              fX11_spread_p168 v0_rules c1 k4 k30 y2 y3 y4 y5 0 o93.2 c3
            else
              fX11_spread_p163 v0_rules c1 k4 k30 y2 y3 y4 y5 o93.2 c3
          else
            fX11_spread_p163 v0_rules c1 k4 k30 y2 y3 y4 y5 o93.2 c3
        else
          nm (12 * y4) fun x73 =>
          nm (16 + x73) fun x74 =>
          nm (y3 + 4) fun x75 =>
          bd (inb x75 288) <|
          nm (c1 x75.toNatClampNeg) fun x77 =>
          nm (x74 + x77) fun x78 =>
          nm (y3 + 4) fun x79 =>
          bd (inb x79 288) <|
          nm (c1 x79.toNatClampNeg) fun x81 =>
          ob (fX11_add y4 x81 x78 c2) fun o82 =>
          nm (y3 + 5) fun x83 =>
          bd (inb x83 288) <|
          nm (c1 x83.toNatClampNeg) fun x85 =>
          ob (fX11_add x78 x85 y5 o82.2) fun o86 =>
          if y1 = 0 then
            if o82.1 = 0 then
              if o86.1 = 0 then
                fX11_spread_p246 v0_rules c1 k4 k30 y2 y3 y4 y5 0 o86.2 c3
              else
                fX11_spread_p241 v0_rules c1 k4 k30 y2 y3 y4 y5 o86.2 c3
            else
              fX11_spread_p241 v0_rules c1 k4 k30 y2 y3 y4 y5 o86.2 c3
          else
            fX11_spread_p241 v0_rules c1 k4 k30 y2 y3 y4 y5 o86.2 c3
noncomputable def fX11_spread_l30 (v0_rules : Int32) (c1 : Nat → Int32) (k4 : Int32 → Int32 → (Nat → Int32) → (Nat → Int32) → Option (Int32 × (Nat → Int32) × (Nat → Int32))) : Nat → Int32 → Int32 → Int32 → Int32 → Int32 → (Nat → Int32) → (Nat → Int32) → Option (Int32 × (Nat → Int32) × (Nat → Int32))
  | 0 => fun _ _ _ _ _ _ _ => none
  | n + 1 => fX11_spread_b30 v0_rules c1 k4 (fX11_spread_l30 v0_rules c1 k4 n)
noncomputable def fX11_spread_b4 (v0_rules : Int32) (c1 : Nat → Int32) (k4 : Int32 → Int32 → (Nat → Int32) → (Nat → Int32) → Option (Int32 × (Nat → Int32) × (Nat → Int32))) (y1 : Int32) (y2 : Int32) (c2 : (Nat → Int32)) (c3 : (Nat → Int32)) : Option (Int32 × (Nat → Int32) × (Nat → Int32)) :=
  if v0_rules ≤ y2 then
    fX11_spread_l261 v0_rules c1 FU y1 0 c2 c3
  else
    nm (6 * y2) fun x103 =>
    nm (x103 + 2) fun x104 =>
    bd (inb x104 288) <|
    nm (c1 x104.toNatClampNeg) fun x106 =>
    fX11_spread_l30 v0_rules c1 k4 FU y1 y2 x103 x106 0 c2 c3
noncomputable def fX11_spread_l4 (v0_rules : Int32) (c1 : Nat → Int32) : Nat → Int32 → Int32 → (Nat → Int32) → (Nat → Int32) → Option (Int32 × (Nat → Int32) × (Nat → Int32))
  | 0 => fun _ _ _ _ => none
  | n + 1 => fX11_spread_b4 v0_rules c1  (fX11_spread_l4 v0_rules c1  n)
noncomputable def fX11_spread (v0_rules : Int32) (c1 : Nat → Int32) (c2 : Nat → Int32) (c3 : Nat → Int32) : Option (Int32 × (Nat → Int32) × (Nat → Int32)) :=
  fX11_spread_l4 v0_rules c1 FU 0 0 c2 c3
noncomputable def fX11_after_p419 (v0_rules : Int32) (v0_size : Int32) (c3 : Nat → Int32) (c4 : Nat → Int32) (c7 : Nat → Int32) (c8 : Nat → Int32) (z0 : Int32) (v0_thrown : Int32) (c1 : (Nat → Int32)) (c2 : (Nat → Int32)) (c5 : (Nat → Int32)) (c6 : (Nat → Int32)) : Option (Int32 × Int32 × (Nat → Int32) × (Nat → Int32) × (Nat → Int32) × (Nat → Int32)) :=
  some (z0, (v0_thrown, c1, c2, c5, c6))
noncomputable def fX11_after_p403 (v0_rules : Int32) (v0_size : Int32) (c3 : Nat → Int32) (c4 : Nat → Int32) (c7 : Nat → Int32) (c8 : Nat → Int32) (k367 : Int32 → Int32 → Int32 → (Nat → Int32) → (Nat → Int32) → (Nat → Int32) → (Nat → Int32) → Option (Int32 × Int32 × (Nat → Int32) × (Nat → Int32) × (Nat → Int32) × (Nat → Int32))) (y4 : Int32) (z0 : Int32) (v0_thrown : Int32) (c1 : (Nat → Int32)) (c2 : (Nat → Int32)) (c5 : (Nat → Int32)) (c6 : (Nat → Int32)) : Option (Int32 × Int32 × (Nat → Int32) × (Nat → Int32) × (Nat → Int32) × (Nat → Int32)) :=
  nm (y4 + 1) fun x1 =>
  k367 z0 x1 v0_thrown c1 c2 c5 c6
noncomputable def fX11_after_p398 (v0_rules : Int32) (v0_size : Int32) (c3 : Nat → Int32) (c4 : Nat → Int32) (c7 : Nat → Int32) (c8 : Nat → Int32) (k367 : Int32 → Int32 → Int32 → (Nat → Int32) → (Nat → Int32) → (Nat → Int32) → (Nat → Int32) → Option (Int32 × Int32 × (Nat → Int32) × (Nat → Int32) × (Nat → Int32) × (Nat → Int32))) (y4 : Int32) (v0_thrown : Int32) (c1 : (Nat → Int32)) (c2 : (Nat → Int32)) (c5 : (Nat → Int32)) (c6 : (Nat → Int32)) : Option (Int32 × Int32 × (Nat → Int32) × (Nat → Int32) × (Nat → Int32) × (Nat → Int32)) :=
  fX11_after_p403 v0_rules v0_size c3 c4 c7 c8 k367 y4 1 v0_thrown c1 c2 c5 c6
noncomputable def fX11_after_p402 (v0_rules : Int32) (v0_size : Int32) (c3 : Nat → Int32) (c4 : Nat → Int32) (c7 : Nat → Int32) (c8 : Nat → Int32) (k367 : Int32 → Int32 → Int32 → (Nat → Int32) → (Nat → Int32) → (Nat → Int32) → (Nat → Int32) → Option (Int32 × Int32 × (Nat → Int32) × (Nat → Int32) × (Nat → Int32) × (Nat → Int32))) (y4 : Int32) (v0_thrown : Int32) (c1 : (Nat → Int32)) (c2 : (Nat → Int32)) (c5 : (Nat → Int32)) (c6 : (Nat → Int32)) : Option (Int32 × Int32 × (Nat → Int32) × (Nat → Int32) × (Nat → Int32) × (Nat → Int32)) :=
  fX11_after_p403 v0_rules v0_size c3 c4 c7 c8 k367 y4 0 v0_thrown c1 c2 c5 c6
noncomputable def fX11_after_b367 (v0_rules : Int32) (v0_size : Int32) (c3 : Nat → Int32) (c4 : Nat → Int32) (c7 : Nat → Int32) (c8 : Nat → Int32) (k367 : Int32 → Int32 → Int32 → (Nat → Int32) → (Nat → Int32) → (Nat → Int32) → (Nat → Int32) → Option (Int32 × Int32 × (Nat → Int32) × (Nat → Int32) × (Nat → Int32) × (Nat → Int32))) (y3 : Int32) (y4 : Int32) (v0_thrown : Int32) (c1 : (Nat → Int32)) (c2 : (Nat → Int32)) (c5 : (Nat → Int32)) (c6 : (Nat → Int32)) : Option (Int32 × Int32 × (Nat → Int32) × (Nat → Int32) × (Nat → Int32) × (Nat → Int32)) :=
  if 16 ≤ y4 then
    if y3 = 0 then
      fX11_after_p419 v0_rules v0_size c3 c4 c7 c8 0 v0_thrown c1 c2 c5 c6
    else
      fX11_after_p419 v0_rules v0_size c3 c4 c7 c8 1 v0_thrown c1 c2 c5 c6
  else
    if y3 = 0 then
      bd (inb y4 112) <|
      nm (c5 y4.toNatClampNeg) fun x6 =>
      if x6 = 0 then
        fX11_after_p402 v0_rules v0_size c3 c4 c7 c8 k367 y4 v0_thrown c1 c2 c5 c6
      else
        bd (inb y4 16) <|
        nm (c8 y4.toNatClampNeg) fun x9 =>
        if x9 = 0 then
          fX11_after_p402 v0_rules v0_size c3 c4 c7 c8 k367 y4 v0_thrown c1 c2 c5 c6
        else
          fX11_after_p398 v0_rules v0_size c3 c4 c7 c8 k367 y4 v0_thrown c1 c2 c5 c6
    else
      fX11_after_p398 v0_rules v0_size c3 c4 c7 c8 k367 y4 v0_thrown c1 c2 c5 c6
noncomputable def fX11_after_l367 (v0_rules : Int32) (v0_size : Int32) (c3 : Nat → Int32) (c4 : Nat → Int32) (c7 : Nat → Int32) (c8 : Nat → Int32) : Nat → Int32 → Int32 → Int32 → (Nat → Int32) → (Nat → Int32) → (Nat → Int32) → (Nat → Int32) → Option (Int32 × Int32 × (Nat → Int32) × (Nat → Int32) × (Nat → Int32) × (Nat → Int32))
  | 0 => fun _ _ _ _ _ _ _ => none
  | n + 1 => fX11_after_b367 v0_rules v0_size c3 c4 c7 c8  (fX11_after_l367 v0_rules v0_size c3 c4 c7 c8  n)
noncomputable def fX11_after_b329 (v0_rules : Int32) (v0_size : Int32) (c3 : Nat → Int32) (c4 : Nat → Int32) (c7 : Nat → Int32) (c8 : Nat → Int32) (k207 : Int32 → Int32 → (Nat → Int32) → (Nat → Int32) → (Nat → Int32) → (Nat → Int32) → Option (Int32 × Int32 × (Nat → Int32) × (Nat → Int32) × (Nat → Int32) × (Nat → Int32))) (k329 : Int32 → Int32 → Int32 → (Nat → Int32) → (Nat → Int32) → (Nat → Int32) → (Nat → Int32) → Option (Int32 × Int32 × (Nat → Int32) × (Nat → Int32) × (Nat → Int32) × (Nat → Int32))) (y3 : Int32) (y4 : Int32) (v0_thrown : Int32) (c1 : (Nat → Int32)) (c2 : (Nat → Int32)) (c5 : (Nat → Int32)) (c6 : (Nat → Int32)) : Option (Int32 × Int32 × (Nat → Int32) × (Nat → Int32) × (Nat → Int32) × (Nat → Int32)) :=
  if 112 ≤ y4 then
    nm (y3 + (-1)) fun x12 =>
    k207 x12 v0_thrown c1 c2 c5 c6
  else
    bd (inb y4 112) <|
    nm (c6 y4.toNatClampNeg) fun x14 =>
    bd (inb y4 112) <|
    nm (upd c5 y4.toNatClampNeg (vp_nar .boolean x14)) fun c15x =>
    nm (y4 + 1) fun x16 =>
    k329 y3 x16 v0_thrown c1 c2 c15x c6
noncomputable def fX11_after_l329 (v0_rules : Int32) (v0_size : Int32) (c3 : Nat → Int32) (c4 : Nat → Int32) (c7 : Nat → Int32) (c8 : Nat → Int32) (k207 : Int32 → Int32 → (Nat → Int32) → (Nat → Int32) → (Nat → Int32) → (Nat → Int32) → Option (Int32 × Int32 × (Nat → Int32) × (Nat → Int32) × (Nat → Int32) × (Nat → Int32))) : Nat → Int32 → Int32 → Int32 → (Nat → Int32) → (Nat → Int32) → (Nat → Int32) → (Nat → Int32) → Option (Int32 × Int32 × (Nat → Int32) × (Nat → Int32) × (Nat → Int32) × (Nat → Int32))
  | 0 => fun _ _ _ _ _ _ _ => none
  | n + 1 => fX11_after_b329 v0_rules v0_size c3 c4 c7 c8 k207 (fX11_after_l329 v0_rules v0_size c3 c4 c7 c8 k207 n)
noncomputable def fX11_after_p320 (v0_rules : Int32) (v0_size : Int32) (c3 : Nat → Int32) (c4 : Nat → Int32) (c7 : Nat → Int32) (c8 : Nat → Int32) (k207 : Int32 → Int32 → (Nat → Int32) → (Nat → Int32) → (Nat → Int32) → (Nat → Int32) → Option (Int32 × Int32 × (Nat → Int32) × (Nat → Int32) × (Nat → Int32) × (Nat → Int32))) (k238 : Int32 → Int32 → Int32 → (Nat → Int32) → (Nat → Int32) → (Nat → Int32) → (Nat → Int32) → Option (Int32 × Int32 × (Nat → Int32) × (Nat → Int32) × (Nat → Int32) × (Nat → Int32))) (y3 : Int32) (y4 : Int32) (v0_thrown : Int32) (c1 : (Nat → Int32)) (c2 : (Nat → Int32)) (c5 : (Nat → Int32)) (c6 : (Nat → Int32)) : Option (Int32 × Int32 × (Nat → Int32) × (Nat → Int32) × (Nat → Int32) × (Nat → Int32)) :=
  nm (y4 + 1) fun x17 =>
  k238 y3 x17 v0_thrown c1 c2 c5 c6
noncomputable def fX11_after_p313 (v0_rules : Int32) (v0_size : Int32) (c3 : Nat → Int32) (c4 : Nat → Int32) (c7 : Nat → Int32) (c8 : Nat → Int32) (k207 : Int32 → Int32 → (Nat → Int32) → (Nat → Int32) → (Nat → Int32) → (Nat → Int32) → Option (Int32 × Int32 × (Nat → Int32) × (Nat → Int32) × (Nat → Int32) × (Nat → Int32))) (k238 : Int32 → Int32 → Int32 → (Nat → Int32) → (Nat → Int32) → (Nat → Int32) → (Nat → Int32) → Option (Int32 × Int32 × (Nat → Int32) × (Nat → Int32) × (Nat → Int32) × (Nat → Int32))) (k248 : Int32 → Int32 → Int32 → Int32 → (Nat → Int32) → (Nat → Int32) → (Nat → Int32) → (Nat → Int32) → Option (Int32 × Int32 × (Nat → Int32) × (Nat → Int32) × (Nat → Int32) × (Nat → Int32))) (y3 : Int32) (y4 : Int32) (y5 : Int32) (z0 : Int32) (z1 : Int32) (v0_thrown : Int32) (c1 : (Nat → Int32)) (c2 : (Nat → Int32)) (c5 : (Nat → Int32)) (c6 : (Nat → Int32)) : Option (Int32 × Int32 × (Nat → Int32) × (Nat → Int32) × (Nat → Int32) × (Nat → Int32)) :=
  bd (inb z1 112) <|
  nm (upd c6 z1.toNatClampNeg (vp_nar .boolean z0)) fun c18x =>
  nm (y5 + 1) fun x19 =>
  k248 y3 y4 x19 v0_thrown c1 c2 c5 c18x
noncomputable def fX11_after_p308 (v0_rules : Int32) (v0_size : Int32) (c3 : Nat → Int32) (c4 : Nat → Int32) (c7 : Nat → Int32) (c8 : Nat → Int32) (k207 : Int32 → Int32 → (Nat → Int32) → (Nat → Int32) → (Nat → Int32) → (Nat → Int32) → Option (Int32 × Int32 × (Nat → Int32) × (Nat → Int32) × (Nat → Int32) × (Nat → Int32))) (k238 : Int32 → Int32 → Int32 → (Nat → Int32) → (Nat → Int32) → (Nat → Int32) → (Nat → Int32) → Option (Int32 × Int32 × (Nat → Int32) × (Nat → Int32) × (Nat → Int32) × (Nat → Int32))) (k248 : Int32 → Int32 → Int32 → Int32 → (Nat → Int32) → (Nat → Int32) → (Nat → Int32) → (Nat → Int32) → Option (Int32 × Int32 × (Nat → Int32) × (Nat → Int32) × (Nat → Int32) × (Nat → Int32))) (y3 : Int32) (y4 : Int32) (y5 : Int32) (z0 : Int32) (v0_thrown : Int32) (c1 : (Nat → Int32)) (c2 : (Nat → Int32)) (c5 : (Nat → Int32)) (c6 : (Nat → Int32)) : Option (Int32 × Int32 × (Nat → Int32) × (Nat → Int32) × (Nat → Int32) × (Nat → Int32)) :=
  fX11_after_p313 v0_rules v0_size c3 c4 c7 c8 k207 k238 k248 y3 y4 y5 1 z0 v0_thrown c1 c2 c5 c6
noncomputable def fX11_after_b248 (v0_rules : Int32) (v0_size : Int32) (c3 : Nat → Int32) (c4 : Nat → Int32) (c7 : Nat → Int32) (c8 : Nat → Int32) (k207 : Int32 → Int32 → (Nat → Int32) → (Nat → Int32) → (Nat → Int32) → (Nat → Int32) → Option (Int32 × Int32 × (Nat → Int32) × (Nat → Int32) × (Nat → Int32) × (Nat → Int32))) (k238 : Int32 → Int32 → Int32 → (Nat → Int32) → (Nat → Int32) → (Nat → Int32) → (Nat → Int32) → Option (Int32 × Int32 × (Nat → Int32) × (Nat → Int32) × (Nat → Int32) × (Nat → Int32))) (k248 : Int32 → Int32 → Int32 → Int32 → (Nat → Int32) → (Nat → Int32) → (Nat → Int32) → (Nat → Int32) → Option (Int32 × Int32 × (Nat → Int32) × (Nat → Int32) × (Nat → Int32) × (Nat → Int32))) (y3 : Int32) (y4 : Int32) (y5 : Int32) (v0_thrown : Int32) (c1 : (Nat → Int32)) (c2 : (Nat → Int32)) (c5 : (Nat → Int32)) (c6 : (Nat → Int32)) : Option (Int32 × Int32 × (Nat → Int32) × (Nat → Int32) × (Nat → Int32) × (Nat → Int32)) :=
  if 112 ≤ y5 then
    fX11_after_p320 v0_rules v0_size c3 c4 c7 c8 k207 k238 y3 y4 v0_thrown c1 c2 c5 c6
  else
    bd (inb y4 112) <|
    nm (c5 y4.toNatClampNeg) fun x22 =>
    if x22 = 0 then
      fX11_after_p320 v0_rules v0_size c3 c4 c7 c8 k207 k238 y3 y4 v0_thrown c1 c2 c5 c6
    else
      bd (inb y5 112) <|
      nm (c6 y5.toNatClampNeg) fun x25 =>
      if x25 = 0 then
        nm (1344 * y4) fun x27 =>
        bd (inb y3 30) <|
        nm (c7 y3.toNatClampNeg) fun x29 =>
        nm (112 * x29) fun x30 =>
        nm (x27 + x30) fun x31 =>
        nm (x31 + y5) fun x32 =>
        bd (inb x32 150528) <|
        nm (c1 x32.toNatClampNeg) fun x34 =>
        if x34 = 0 then
          fX11_after_p313 v0_rules v0_size c3 c4 c7 c8 k207 k238 k248 y3 y4 y5 0 y5 v0_thrown c1 c2 c5 c6
        else
          fX11_after_p308 v0_rules v0_size c3 c4 c7 c8 k207 k238 k248 y3 y4 y5 y5 v0_thrown c1 c2 c5 c6
      else
        fX11_after_p308 v0_rules v0_size c3 c4 c7 c8 k207 k238 k248 y3 y4 y5 y5 v0_thrown c1 c2 c5 c6
noncomputable def fX11_after_l248 (v0_rules : Int32) (v0_size : Int32) (c3 : Nat → Int32) (c4 : Nat → Int32) (c7 : Nat → Int32) (c8 : Nat → Int32) (k207 : Int32 → Int32 → (Nat → Int32) → (Nat → Int32) → (Nat → Int32) → (Nat → Int32) → Option (Int32 × Int32 × (Nat → Int32) × (Nat → Int32) × (Nat → Int32) × (Nat → Int32))) (k238 : Int32 → Int32 → Int32 → (Nat → Int32) → (Nat → Int32) → (Nat → Int32) → (Nat → Int32) → Option (Int32 × Int32 × (Nat → Int32) × (Nat → Int32) × (Nat → Int32) × (Nat → Int32))) : Nat → Int32 → Int32 → Int32 → Int32 → (Nat → Int32) → (Nat → Int32) → (Nat → Int32) → (Nat → Int32) → Option (Int32 × Int32 × (Nat → Int32) × (Nat → Int32) × (Nat → Int32) × (Nat → Int32))
  | 0 => fun _ _ _ _ _ _ _ _ => none
  | n + 1 => fX11_after_b248 v0_rules v0_size c3 c4 c7 c8 k207 k238 (fX11_after_l248 v0_rules v0_size c3 c4 c7 c8 k207 k238 n)
noncomputable def fX11_after_b238 (v0_rules : Int32) (v0_size : Int32) (c3 : Nat → Int32) (c4 : Nat → Int32) (c7 : Nat → Int32) (c8 : Nat → Int32) (k207 : Int32 → Int32 → (Nat → Int32) → (Nat → Int32) → (Nat → Int32) → (Nat → Int32) → Option (Int32 × Int32 × (Nat → Int32) × (Nat → Int32) × (Nat → Int32) × (Nat → Int32))) (k238 : Int32 → Int32 → Int32 → (Nat → Int32) → (Nat → Int32) → (Nat → Int32) → (Nat → Int32) → Option (Int32 × Int32 × (Nat → Int32) × (Nat → Int32) × (Nat → Int32) × (Nat → Int32))) (y3 : Int32) (y4 : Int32) (v0_thrown : Int32) (c1 : (Nat → Int32)) (c2 : (Nat → Int32)) (c5 : (Nat → Int32)) (c6 : (Nat → Int32)) : Option (Int32 × Int32 × (Nat → Int32) × (Nat → Int32) × (Nat → Int32) × (Nat → Int32)) :=
  if 112 ≤ y4 then
    fX11_after_l329 v0_rules v0_size c3 c4 c7 c8 k207 FU y3 0 v0_thrown c1 c2 c5 c6
  else
    fX11_after_l248 v0_rules v0_size c3 c4 c7 c8 k207 k238 FU y3 y4 0 v0_thrown c1 c2 c5 c6
noncomputable def fX11_after_l238 (v0_rules : Int32) (v0_size : Int32) (c3 : Nat → Int32) (c4 : Nat → Int32) (c7 : Nat → Int32) (c8 : Nat → Int32) (k207 : Int32 → Int32 → (Nat → Int32) → (Nat → Int32) → (Nat → Int32) → (Nat → Int32) → Option (Int32 × Int32 × (Nat → Int32) × (Nat → Int32) × (Nat → Int32) × (Nat → Int32))) : Nat → Int32 → Int32 → Int32 → (Nat → Int32) → (Nat → Int32) → (Nat → Int32) → (Nat → Int32) → Option (Int32 × Int32 × (Nat → Int32) × (Nat → Int32) × (Nat → Int32) × (Nat → Int32))
  | 0 => fun _ _ _ _ _ _ _ => none
  | n + 1 => fX11_after_b238 v0_rules v0_size c3 c4 c7 c8 k207 (fX11_after_l238 v0_rules v0_size c3 c4 c7 c8 k207 n)
noncomputable def fX11_after_b214 (v0_rules : Int32) (v0_size : Int32) (c3 : Nat → Int32) (c4 : Nat → Int32) (c7 : Nat → Int32) (c8 : Nat → Int32) (k207 : Int32 → Int32 → (Nat → Int32) → (Nat → Int32) → (Nat → Int32) → (Nat → Int32) → Option (Int32 × Int32 × (Nat → Int32) × (Nat → Int32) × (Nat → Int32) × (Nat → Int32))) (k214 : Int32 → Int32 → Int32 → (Nat → Int32) → (Nat → Int32) → (Nat → Int32) → (Nat → Int32) → Option (Int32 × Int32 × (Nat → Int32) × (Nat → Int32) × (Nat → Int32) × (Nat → Int32))) (y3 : Int32) (y4 : Int32) (v0_thrown : Int32) (c1 : (Nat → Int32)) (c2 : (Nat → Int32)) (c5 : (Nat → Int32)) (c6 : (Nat → Int32)) : Option (Int32 × Int32 × (Nat → Int32) × (Nat → Int32) × (Nat → Int32) × (Nat → Int32)) :=
  if 112 ≤ y4 then
    fX11_after_l238 v0_rules v0_size c3 c4 c7 c8 k207 FU y3 0 v0_thrown c1 c2 c5 c6
  else
    bd (inb y4 112) <|
    nm (upd c6 y4.toNatClampNeg (vp_nar .boolean 0)) fun c38x =>
    nm (y4 + 1) fun x39 =>
    k214 y3 x39 v0_thrown c1 c2 c5 c38x
noncomputable def fX11_after_l214 (v0_rules : Int32) (v0_size : Int32) (c3 : Nat → Int32) (c4 : Nat → Int32) (c7 : Nat → Int32) (c8 : Nat → Int32) (k207 : Int32 → Int32 → (Nat → Int32) → (Nat → Int32) → (Nat → Int32) → (Nat → Int32) → Option (Int32 × Int32 × (Nat → Int32) × (Nat → Int32) × (Nat → Int32) × (Nat → Int32))) : Nat → Int32 → Int32 → Int32 → (Nat → Int32) → (Nat → Int32) → (Nat → Int32) → (Nat → Int32) → Option (Int32 × Int32 × (Nat → Int32) × (Nat → Int32) × (Nat → Int32) × (Nat → Int32))
  | 0 => fun _ _ _ _ _ _ _ => none
  | n + 1 => fX11_after_b214 v0_rules v0_size c3 c4 c7 c8 k207 (fX11_after_l214 v0_rules v0_size c3 c4 c7 c8 k207 n)
noncomputable def fX11_after_b207 (v0_rules : Int32) (v0_size : Int32) (c3 : Nat → Int32) (c4 : Nat → Int32) (c7 : Nat → Int32) (c8 : Nat → Int32) (k207 : Int32 → Int32 → (Nat → Int32) → (Nat → Int32) → (Nat → Int32) → (Nat → Int32) → Option (Int32 × Int32 × (Nat → Int32) × (Nat → Int32) × (Nat → Int32) × (Nat → Int32))) (y3 : Int32) (v0_thrown : Int32) (c1 : (Nat → Int32)) (c2 : (Nat → Int32)) (c5 : (Nat → Int32)) (c6 : (Nat → Int32)) : Option (Int32 × Int32 × (Nat → Int32) × (Nat → Int32) × (Nat → Int32) × (Nat → Int32)) :=
  if y3 < 0 then
    fX11_after_l367 v0_rules v0_size c3 c4 c7 c8 FU 0 0 v0_thrown c1 c2 c5 c6
  else
    fX11_after_l214 v0_rules v0_size c3 c4 c7 c8 k207 FU y3 0 v0_thrown c1 c2 c5 c6
noncomputable def fX11_after_l207 (v0_rules : Int32) (v0_size : Int32) (c3 : Nat → Int32) (c4 : Nat → Int32) (c7 : Nat → Int32) (c8 : Nat → Int32) : Nat → Int32 → Int32 → (Nat → Int32) → (Nat → Int32) → (Nat → Int32) → (Nat → Int32) → Option (Int32 × Int32 × (Nat → Int32) × (Nat → Int32) × (Nat → Int32) × (Nat → Int32))
  | 0 => fun _ _ _ _ _ _ => none
  | n + 1 => fX11_after_b207 v0_rules v0_size c3 c4 c7 c8  (fX11_after_l207 v0_rules v0_size c3 c4 c7 c8  n)
noncomputable def fX11_after_p193 (v0_rules : Int32) (v0_size : Int32) (c3 : Nat → Int32) (c4 : Nat → Int32) (c7 : Nat → Int32) (c8 : Nat → Int32) (k158 : Int32 → Int32 → Int32 → (Nat → Int32) → (Nat → Int32) → (Nat → Int32) → (Nat → Int32) → Option (Int32 × Int32 × (Nat → Int32) × (Nat → Int32) × (Nat → Int32) × (Nat → Int32))) (y1 : Int32) (y3 : Int32) (z0 : Int32) (z1 : Int32) (v0_thrown : Int32) (c1 : (Nat → Int32)) (c2 : (Nat → Int32)) (c5 : (Nat → Int32)) (c6 : (Nat → Int32)) : Option (Int32 × Int32 × (Nat → Int32) × (Nat → Int32) × (Nat → Int32) × (Nat → Int32)) :=
  bd (inb z1 112) <|
  nm (upd c5 z1.toNatClampNeg (vp_nar .boolean z0)) fun c41x =>
  nm (y3 + 1) fun x42 =>
  k158 y1 x42 v0_thrown c1 c2 c41x c6
noncomputable def fX11_after_p188 (v0_rules : Int32) (v0_size : Int32) (c3 : Nat → Int32) (c4 : Nat → Int32) (c7 : Nat → Int32) (c8 : Nat → Int32) (k158 : Int32 → Int32 → Int32 → (Nat → Int32) → (Nat → Int32) → (Nat → Int32) → (Nat → Int32) → Option (Int32 × Int32 × (Nat → Int32) × (Nat → Int32) × (Nat → Int32) × (Nat → Int32))) (y1 : Int32) (y3 : Int32) (z0 : Int32) (v0_thrown : Int32) (c1 : (Nat → Int32)) (c2 : (Nat → Int32)) (c5 : (Nat → Int32)) (c6 : (Nat → Int32)) : Option (Int32 × Int32 × (Nat → Int32) × (Nat → Int32) × (Nat → Int32) × (Nat → Int32)) :=
  fX11_after_p193 v0_rules v0_size c3 c4 c7 c8 k158 y1 y3 1 z0 v0_thrown c1 c2 c5 c6
noncomputable def fX11_after_b158 (v0_rules : Int32) (v0_size : Int32) (c3 : Nat → Int32) (c4 : Nat → Int32) (c7 : Nat → Int32) (c8 : Nat → Int32) (k158 : Int32 → Int32 → Int32 → (Nat → Int32) → (Nat → Int32) → (Nat → Int32) → (Nat → Int32) → Option (Int32 × Int32 × (Nat → Int32) × (Nat → Int32) × (Nat → Int32) × (Nat → Int32))) (y1 : Int32) (y3 : Int32) (v0_thrown : Int32) (c1 : (Nat → Int32)) (c2 : (Nat → Int32)) (c5 : (Nat → Int32)) (c6 : (Nat → Int32)) : Option (Int32 × Int32 × (Nat → Int32) × (Nat → Int32) × (Nat → Int32) × (Nat → Int32)) :=
  if 112 ≤ y3 then
    nm (v0_size - 1) fun x44 =>
    fX11_after_l207 v0_rules v0_size c3 c4 c7 c8 FU x44 v0_thrown c1 c2 c5 c6
  else
    if y3 = y1 then
      fX11_after_p188 v0_rules v0_size c3 c4 c7 c8 k158 y1 y3 y3 v0_thrown c1 c2 c5 c6
    else
      nm (112 * y1) fun x46 =>
      nm (x46 + y3) fun x47 =>
      bd (inb x47 896) <|
      nm (c2 x47.toNatClampNeg) fun x49 =>
      if x49 = 0 then
        fX11_after_p193 v0_rules v0_size c3 c4 c7 c8 k158 y1 y3 0 y3 v0_thrown c1 c2 c5 c6
      else
        fX11_after_p188 v0_rules v0_size c3 c4 c7 c8 k158 y1 y3 y3 v0_thrown c1 c2 c5 c6
noncomputable def fX11_after_l158 (v0_rules : Int32) (v0_size : Int32) (c3 : Nat → Int32) (c4 : Nat → Int32) (c7 : Nat → Int32) (c8 : Nat → Int32) : Nat → Int32 → Int32 → Int32 → (Nat → Int32) → (Nat → Int32) → (Nat → Int32) → (Nat → Int32) → Option (Int32 × Int32 × (Nat → Int32) × (Nat → Int32) × (Nat → Int32) × (Nat → Int32))
  | 0 => fun _ _ _ _ _ _ _ => none
  | n + 1 => fX11_after_b158 v0_rules v0_size c3 c4 c7 c8  (fX11_after_l158 v0_rules v0_size c3 c4 c7 c8  n)
noncomputable def fX11_after_b144 (v0_rules : Int32) (v0_size : Int32) (c3 : Nat → Int32) (c4 : Nat → Int32) (c7 : Nat → Int32) (c8 : Nat → Int32) (k144 : Int32 → Int32 → Int32 → (Nat → Int32) → (Nat → Int32) → (Nat → Int32) → (Nat → Int32) → Option (Int32 × Int32 × (Nat → Int32) × (Nat → Int32) × (Nat → Int32) × (Nat → Int32))) (y1 : Int32) (y2 : Int32) (v0_thrown : Int32) (c1 : (Nat → Int32)) (c2 : (Nat → Int32)) (c5 : (Nat → Int32)) (c6 : (Nat → Int32)) : Option (Int32 × Int32 × (Nat → Int32) × (Nat → Int32) × (Nat → Int32) × (Nat → Int32)) :=
  if y2 = 0 then
    fX11_after_l158 v0_rules v0_size c3 c4 c7 c8 FU y1 0 v0_thrown c1 c2 c5 c6
  else
    ob (fX11_spread v0_rules c4 c1 c2) fun o52 =>
    k144 y1 o52.1 v0_thrown o52.2.1 o52.2.2 c5 c6
noncomputable def fX11_after_l144 (v0_rules : Int32) (v0_size : Int32) (c3 : Nat → Int32) (c4 : Nat → Int32) (c7 : Nat → Int32) (c8 : Nat → Int32) : Nat → Int32 → Int32 → Int32 → (Nat → Int32) → (Nat → Int32) → (Nat → Int32) → (Nat → Int32) → Option (Int32 × Int32 × (Nat → Int32) × (Nat → Int32) × (Nat → Int32) × (Nat → Int32))
  | 0 => fun _ _ _ _ _ _ _ => none
  | n + 1 => fX11_after_b144 v0_rules v0_size c3 c4 c7 c8  (fX11_after_l144 v0_rules v0_size c3 c4 c7 c8  n)
noncomputable def fX11_after_b81 (v0_rules : Int32) (v0_size : Int32) (c3 : Nat → Int32) (c4 : Nat → Int32) (c7 : Nat → Int32) (c8 : Nat → Int32) (k63 : Int32 → Int32 → Int32 → (Nat → Int32) → (Nat → Int32) → (Nat → Int32) → (Nat → Int32) → Option (Int32 × Int32 × (Nat → Int32) × (Nat → Int32) × (Nat → Int32) × (Nat → Int32))) (k71 : Int32 → Int32 → Int32 → Int32 → (Nat → Int32) → (Nat → Int32) → (Nat → Int32) → (Nat → Int32) → Option (Int32 × Int32 × (Nat → Int32) × (Nat → Int32) × (Nat → Int32) × (Nat → Int32))) (k81 : Int32 → Int32 → Int32 → Int32 → Int32 → (Nat → Int32) → (Nat → Int32) → (Nat → Int32) → (Nat → Int32) → Option (Int32 × Int32 × (Nat → Int32) × (Nat → Int32) × (Nat → Int32) × (Nat → Int32))) (y1 : Int32) (y2 : Int32) (y3 : Int32) (y4 : Int32) (v0_thrown : Int32) (c1 : (Nat → Int32)) (c2 : (Nat → Int32)) (c5 : (Nat → Int32)) (c6 : (Nat → Int32)) : Option (Int32 × Int32 × (Nat → Int32) × (Nat → Int32) × (Nat → Int32) × (Nat → Int32)) :=
  if 16 ≤ y4 then
    nm (y3 + 1) fun x54 =>
    k71 y1 y2 x54 v0_thrown c1 c2 c5 c6
  else
    nm (1344 * y2) fun x55 =>
    nm (112 * y3) fun x56 =>
    nm (x55 + x56) fun x57 =>
    nm (x57 + y4) fun x58 =>
    nm (192 * y2) fun x59 =>
    nm (16 * y3) fun x60 =>
    nm (x59 + x60) fun x61 =>
    nm (x61 + y4) fun x62 =>
    bd (inb x62 3072) <|
    nm (c3 x62.toNatClampNeg) fun x64 =>
    bd (inb x58 150528) <|
    nm (upd c1 x58.toNatClampNeg (vp_nar .boolean x64)) fun c65x =>
    nm (y4 + 1) fun x66 =>
    k81 y1 y2 y3 x66 v0_thrown c65x c2 c5 c6
noncomputable def fX11_after_l81 (v0_rules : Int32) (v0_size : Int32) (c3 : Nat → Int32) (c4 : Nat → Int32) (c7 : Nat → Int32) (c8 : Nat → Int32) (k63 : Int32 → Int32 → Int32 → (Nat → Int32) → (Nat → Int32) → (Nat → Int32) → (Nat → Int32) → Option (Int32 × Int32 × (Nat → Int32) × (Nat → Int32) × (Nat → Int32) × (Nat → Int32))) (k71 : Int32 → Int32 → Int32 → Int32 → (Nat → Int32) → (Nat → Int32) → (Nat → Int32) → (Nat → Int32) → Option (Int32 × Int32 × (Nat → Int32) × (Nat → Int32) × (Nat → Int32) × (Nat → Int32))) : Nat → Int32 → Int32 → Int32 → Int32 → Int32 → (Nat → Int32) → (Nat → Int32) → (Nat → Int32) → (Nat → Int32) → Option (Int32 × Int32 × (Nat → Int32) × (Nat → Int32) × (Nat → Int32) × (Nat → Int32))
  | 0 => fun _ _ _ _ _ _ _ _ _ => none
  | n + 1 => fX11_after_b81 v0_rules v0_size c3 c4 c7 c8 k63 k71 (fX11_after_l81 v0_rules v0_size c3 c4 c7 c8 k63 k71 n)
noncomputable def fX11_after_b71 (v0_rules : Int32) (v0_size : Int32) (c3 : Nat → Int32) (c4 : Nat → Int32) (c7 : Nat → Int32) (c8 : Nat → Int32) (k63 : Int32 → Int32 → Int32 → (Nat → Int32) → (Nat → Int32) → (Nat → Int32) → (Nat → Int32) → Option (Int32 × Int32 × (Nat → Int32) × (Nat → Int32) × (Nat → Int32) × (Nat → Int32))) (k71 : Int32 → Int32 → Int32 → Int32 → (Nat → Int32) → (Nat → Int32) → (Nat → Int32) → (Nat → Int32) → Option (Int32 × Int32 × (Nat → Int32) × (Nat → Int32) × (Nat → Int32) × (Nat → Int32))) (y1 : Int32) (y2 : Int32) (y3 : Int32) (v0_thrown : Int32) (c1 : (Nat → Int32)) (c2 : (Nat → Int32)) (c5 : (Nat → Int32)) (c6 : (Nat → Int32)) : Option (Int32 × Int32 × (Nat → Int32) × (Nat → Int32) × (Nat → Int32) × (Nat → Int32)) :=
  if 12 ≤ y3 then
    nm (y2 + 1) fun x68 =>
    k63 y1 x68 v0_thrown c1 c2 c5 c6
  else
    fX11_after_l81 v0_rules v0_size c3 c4 c7 c8 k63 k71 FU y1 y2 y3 8 v0_thrown c1 c2 c5 c6
noncomputable def fX11_after_l71 (v0_rules : Int32) (v0_size : Int32) (c3 : Nat → Int32) (c4 : Nat → Int32) (c7 : Nat → Int32) (c8 : Nat → Int32) (k63 : Int32 → Int32 → Int32 → (Nat → Int32) → (Nat → Int32) → (Nat → Int32) → (Nat → Int32) → Option (Int32 × Int32 × (Nat → Int32) × (Nat → Int32) × (Nat → Int32) × (Nat → Int32))) : Nat → Int32 → Int32 → Int32 → Int32 → (Nat → Int32) → (Nat → Int32) → (Nat → Int32) → (Nat → Int32) → Option (Int32 × Int32 × (Nat → Int32) × (Nat → Int32) × (Nat → Int32) × (Nat → Int32))
  | 0 => fun _ _ _ _ _ _ _ _ => none
  | n + 1 => fX11_after_b71 v0_rules v0_size c3 c4 c7 c8 k63 (fX11_after_l71 v0_rules v0_size c3 c4 c7 c8 k63 n)
noncomputable def fX11_after_b63 (v0_rules : Int32) (v0_size : Int32) (c3 : Nat → Int32) (c4 : Nat → Int32) (c7 : Nat → Int32) (c8 : Nat → Int32) (k63 : Int32 → Int32 → Int32 → (Nat → Int32) → (Nat → Int32) → (Nat → Int32) → (Nat → Int32) → Option (Int32 × Int32 × (Nat → Int32) × (Nat → Int32) × (Nat → Int32) × (Nat → Int32))) (y1 : Int32) (y2 : Int32) (v0_thrown : Int32) (c1 : (Nat → Int32)) (c2 : (Nat → Int32)) (c5 : (Nat → Int32)) (c6 : (Nat → Int32)) : Option (Int32 × Int32 × (Nat → Int32) × (Nat → Int32) × (Nat → Int32) × (Nat → Int32)) :=
  if 16 ≤ y2 then
    fX11_after_l144 v0_rules v0_size c3 c4 c7 c8 FU y1 1 v0_thrown c1 c2 c5 c6
  else
    fX11_after_l71 v0_rules v0_size c3 c4 c7 c8 k63 FU y1 y2 0 v0_thrown c1 c2 c5 c6
noncomputable def fX11_after_l63 (v0_rules : Int32) (v0_size : Int32) (c3 : Nat → Int32) (c4 : Nat → Int32) (c7 : Nat → Int32) (c8 : Nat → Int32) : Nat → Int32 → Int32 → Int32 → (Nat → Int32) → (Nat → Int32) → (Nat → Int32) → (Nat → Int32) → Option (Int32 × Int32 × (Nat → Int32) × (Nat → Int32) × (Nat → Int32) × (Nat → Int32))
  | 0 => fun _ _ _ _ _ _ _ => none
  | n + 1 => fX11_after_b63 v0_rules v0_size c3 c4 c7 c8  (fX11_after_l63 v0_rules v0_size c3 c4 c7 c8  n)
noncomputable def fX11_after_b41 (v0_rules : Int32) (v0_size : Int32) (c3 : Nat → Int32) (c4 : Nat → Int32) (c7 : Nat → Int32) (c8 : Nat → Int32) (k41 : Int32 → Int32 → Int32 → (Nat → Int32) → (Nat → Int32) → (Nat → Int32) → (Nat → Int32) → Option (Int32 × Int32 × (Nat → Int32) × (Nat → Int32) × (Nat → Int32) × (Nat → Int32))) (y1 : Int32) (y2 : Int32) (v0_thrown : Int32) (c1 : (Nat → Int32)) (c2 : (Nat → Int32)) (c5 : (Nat → Int32)) (c6 : (Nat → Int32)) : Option (Int32 × Int32 × (Nat → Int32) × (Nat → Int32) × (Nat → Int32) × (Nat → Int32)) :=
  if 896 ≤ y2 then
    fX11_after_l63 v0_rules v0_size c3 c4 c7 c8 FU y1 0 v0_thrown c1 c2 c5 c6
  else
    bd (inb y2 896) <|
    nm (upd c2 y2.toNatClampNeg (vp_nar .boolean 0)) fun c71x =>
    nm (y2 + 1) fun x72 =>
    k41 y1 x72 v0_thrown c1 c71x c5 c6
noncomputable def fX11_after_l41 (v0_rules : Int32) (v0_size : Int32) (c3 : Nat → Int32) (c4 : Nat → Int32) (c7 : Nat → Int32) (c8 : Nat → Int32) : Nat → Int32 → Int32 → Int32 → (Nat → Int32) → (Nat → Int32) → (Nat → Int32) → (Nat → Int32) → Option (Int32 × Int32 × (Nat → Int32) × (Nat → Int32) × (Nat → Int32) × (Nat → Int32))
  | 0 => fun _ _ _ _ _ _ _ => none
  | n + 1 => fX11_after_b41 v0_rules v0_size c3 c4 c7 c8  (fX11_after_l41 v0_rules v0_size c3 c4 c7 c8  n)
noncomputable def fX11_after_b20 (v0_rules : Int32) (v0_size : Int32) (c3 : Nat → Int32) (c4 : Nat → Int32) (c7 : Nat → Int32) (c8 : Nat → Int32) (k20 : Int32 → Int32 → Int32 → (Nat → Int32) → (Nat → Int32) → (Nat → Int32) → (Nat → Int32) → Option (Int32 × Int32 × (Nat → Int32) × (Nat → Int32) × (Nat → Int32) × (Nat → Int32))) (y1 : Int32) (y2 : Int32) (v0_thrown : Int32) (c1 : (Nat → Int32)) (c2 : (Nat → Int32)) (c5 : (Nat → Int32)) (c6 : (Nat → Int32)) : Option (Int32 × Int32 × (Nat → Int32) × (Nat → Int32) × (Nat → Int32) × (Nat → Int32)) :=
  if 150528 ≤ y2 then
    fX11_after_l41 v0_rules v0_size c3 c4 c7 c8 FU y1 0 v0_thrown c1 c2 c5 c6
  else
    bd (inb y2 150528) <|
    nm (upd c1 y2.toNatClampNeg (vp_nar .boolean 0)) fun c74x =>
    nm (y2 + 1) fun x75 =>
    k20 y1 x75 v0_thrown c74x c2 c5 c6
noncomputable def fX11_after_l20 (v0_rules : Int32) (v0_size : Int32) (c3 : Nat → Int32) (c4 : Nat → Int32) (c7 : Nat → Int32) (c8 : Nat → Int32) : Nat → Int32 → Int32 → Int32 → (Nat → Int32) → (Nat → Int32) → (Nat → Int32) → (Nat → Int32) → Option (Int32 × Int32 × (Nat → Int32) × (Nat → Int32) × (Nat → Int32) × (Nat → Int32))
  | 0 => fun _ _ _ _ _ _ _ => none
  | n + 1 => fX11_after_b20 v0_rules v0_size c3 c4 c7 c8  (fX11_after_l20 v0_rules v0_size c3 c4 c7 c8  n)
noncomputable def fX11_after (a0 : Int32) (v0_thrown : Int32) (v0_rules : Int32) (v0_size : Int32) (c1 : Nat → Int32) (c2 : Nat → Int32) (c3 : Nat → Int32) (c4 : Nat → Int32) (c5 : Nat → Int32) (c6 : Nat → Int32) (c7 : Nat → Int32) (c8 : Nat → Int32) : Option (Int32 × Int32 × (Nat → Int32) × (Nat → Int32) × (Nat → Int32) × (Nat → Int32)) :=
  ob (fX11_in a0 0 7) fun o76 =>
  if o76.1 = 0 then
    some ((-2), (0, c1, c2, c5, c6))
  else
    fX11_after_l20 v0_rules v0_size c3 c4 c7 c8 FU a0 0 0 c1 c2 c5 c6
noncomputable def fX11_forget (v0_known : Int32) (v0_wayState : Int32) : Option (Int32 × Int32) :=
  some (0, (-1))
noncomputable def fX11_arc_p36  (v0_thrown : Int32) (v0_arcs : Int32) (v0_known : Int32) (v0_wayState : Int32) (c1 : (Nat → Int32)) : Option (Int32 × Int32 × Int32 × Int32 × Int32 × (Nat → Int32)) :=
  some ((-2), (v0_thrown, v0_arcs, v0_known, v0_wayState, c1))
noncomputable def fX11_arc (a0 : Int32) (a1 : Int32) (a2 : Int32) (v0_thrown : Int32) (v0_arcs : Int32) (v0_known : Int32) (v0_wayState : Int32) (c1 : Nat → Int32) : Option (Int32 × Int32 × Int32 × Int32 × Int32 × (Nat → Int32)) :=
  ob (fX11_in a0 0 15) fun o1 =>
  if o1.1 = 0 then
    fX11_arc_p36 0 v0_arcs v0_known v0_wayState c1
  else
    ob (fX11_in a1 0 11) fun o3 =>
    if o3.1 = 0 then
      fX11_arc_p36 0 v0_arcs v0_known v0_wayState c1
    else
      ob (fX11_in a2 8 15) fun o5 =>
      if o5.1 = 0 then
        fX11_arc_p36 0 v0_arcs v0_known v0_wayState c1
      else
        nm (192 * a0) fun x7 =>
        nm (16 * a1) fun x8 =>
        nm (x7 + x8) fun x9 =>
        nm (x9 + a2) fun x10 =>
        bd (inb x10 3072) <|
        nm (c1 x10.toNatClampNeg) fun x12 =>
        if x12 = 0 then
          if v0_arcs = 64 then
            some ((-3), (0, v0_arcs, v0_known, v0_wayState, c1))
          else
            bd (inb x10 3072) <|
            nm (upd c1 x10.toNatClampNeg (vp_nar .boolean 1)) fun c15x =>
            nm (v0_arcs + 1) fun x16 =>
            ob (fX11_forget v0_known v0_wayState) fun o17 =>
            some (x16, (0, x16, o17.1, o17.2, c15x))
        else
          some (v0_arcs, (0, v0_arcs, v0_known, v0_wayState, c1))
noncomputable def fX11_at (a0 : Int32) (a1 : Int32) (a2 : Int32) : Option (Int32 × Unit) :=
  nm (160 * a0) fun x1 =>
  nm (4 * a1) fun x2 =>
  nm (x1 + x2) fun x3 =>
  nm (x3 + a2) fun x4 =>
  some (x4, ())
noncomputable def fX11_begin_p180 (v0_from : Int32) (v0_open : Int32) (c1 : Nat → Int32) (c11 : Nat → Int32) (c13 : Nat → Int32) (y3 : Int32) (y4 : Int32) (v0_statements : Int32) (c2 : (Nat → Int32)) (c3 : (Nat → Int32)) (c4 : (Nat → Int32)) (c5 : (Nat → Int32)) (c6 : (Nat → Int32)) (c7 : (Nat → Int32)) (c8 : (Nat → Int32)) (c9 : (Nat → Int32)) (c10 : (Nat → Int32)) (c12 : (Nat → Int32)) : Option (Int32 × Int32 × (Nat → Int32) × (Nat → Int32) × (Nat → Int32) × (Nat → Int32) × (Nat → Int32) × (Nat → Int32) × (Nat → Int32) × (Nat → Int32) × (Nat → Int32) × (Nat → Int32)) :=
  bd (inb y4 90) <|
  nm (upd c10 y4.toNatClampNeg y3) fun c1x =>
  some (y3, (v0_statements, c2, c3, c4, c5, c6, c7, c8, c9, c1x, c12))
noncomputable def fX11_begin_p177 (v0_from : Int32) (v0_open : Int32) (c1 : Nat → Int32) (c11 : Nat → Int32) (c13 : Nat → Int32) (y3 : Int32) (y4 : Int32) (z0 : Int32) (z1 : Int32) (v0_statements : Int32) (c2 : (Nat → Int32)) (c3 : (Nat → Int32)) (c4 : (Nat → Int32)) (c5 : (Nat → Int32)) (c6 : (Nat → Int32)) (c7 : (Nat → Int32)) (c8 : (Nat → Int32)) (c9 : (Nat → Int32)) (c10 : (Nat → Int32)) (c12 : (Nat → Int32)) : Option (Int32 × Int32 × (Nat → Int32) × (Nat → Int32) × (Nat → Int32) × (Nat → Int32) × (Nat → Int32) × (Nat → Int32) × (Nat → Int32) × (Nat → Int32) × (Nat → Int32) × (Nat → Int32)) :=
  nm (z1 + z0) fun x2 =>
  bd (inb x2 80) <|
  nm (upd c7 x2.toNatClampNeg y3) fun c3x =>
  fX11_begin_p180 v0_from v0_open c1 c11 c13 y3 y4 v0_statements c2 c3 c4 c5 c6 c3x c8 c9 c10 c12
noncomputable def fX11_begin (a0 : Int32) (a1 : Int32) (v0_from : Int32) (v0_statements : Int32) (v0_open : Int32) (c1 : Nat → Int32) (c2 : Nat → Int32) (c3 : Nat → Int32) (c4 : Nat → Int32) (c5 : Nat → Int32) (c6 : Nat → Int32) (c7 : Nat → Int32) (c8 : Nat → Int32) (c9 : Nat → Int32) (c10 : Nat → Int32) (c11 : Nat → Int32) (c12 : Nat → Int32) (c13 : Nat → Int32) : Option (Int32 × Int32 × (Nat → Int32) × (Nat → Int32) × (Nat → Int32) × (Nat → Int32) × (Nat → Int32) × (Nat → Int32) × (Nat → Int32) × (Nat → Int32) × (Nat → Int32) × (Nat → Int32)) :=
  nm (v0_statements + 1) fun x4 =>
  nm (v0_open - 1) fun x5 =>
  bd (inb x5 12) <|
  nm (c1 x5.toNatClampNeg) fun x7 =>
  bd (inb v0_statements 40) <|
  nm (upd c2 v0_statements.toNatClampNeg a1) fun c8x =>
  bd (inb v0_statements 40) <|
  nm (upd c3 v0_statements.toNatClampNeg v0_from) fun c9x =>
  bd (inb v0_statements 40) <|
  nm (upd c4 v0_statements.toNatClampNeg a0) fun c10x =>
  bd (inb v0_statements 40) <|
  nm (upd c5 v0_statements.toNatClampNeg (-1)) fun c11x =>
  bd (inb v0_statements 40) <|
  nm (upd c6 v0_statements.toNatClampNeg x7) fun c12x =>
  nm (2 * v0_statements) fun x13 =>
  bd (inb x13 80) <|
  nm (upd c7 x13.toNatClampNeg (-1)) fun c14x =>
  nm (2 * v0_statements) fun x15 =>
  nm (x15 + 1) fun x16 =>
  bd (inb x16 80) <|
  nm (upd c14x x16.toNatClampNeg (-1)) fun c17x =>
  bd (inb v0_statements 40) <|
  nm (upd c8 v0_statements.toNatClampNeg 0) fun c18x =>
  bd (inb v0_statements 40) <|
  nm (upd c9 v0_statements.toNatClampNeg 0) fun c19x =>
  bd (inb x7 90) <|
  nm (c10 x7.toNatClampNeg) fun x21 =>
  if x21 = (-1) then
    bd (inb x7 90) <|
    nm (c11 x7.toNatClampNeg) fun x24 =>
    if x24 = 0 then
      bd (inb a0 6) <|
      nm (upd c12 a0.toNatClampNeg v0_statements) fun c32x =>
      fX11_begin_p180 v0_from v0_open c1 c11 c13 v0_statements x7 x4 c8x c9x c10x c11x c12x c17x c18x c19x c10 c32x
    else
      bd (inb x7 90) <|
      nm (c13 x7.toNatClampNeg) fun x27 =>
      nm (2 * x27) fun x28 =>
      bd (inb x7 90) <|
      nm (c11 x7.toNatClampNeg) fun x30 =>
      if x30 = 2 then
        fX11_begin_p177 v0_from v0_open c1 c11 c13 v0_statements x7 0 x28 x4 c8x c9x c10x c11x c12x c17x c18x c19x c10 c12
      else
        fX11_begin_p177 v0_from v0_open c1 c11 c13 v0_statements x7 1 x28 x4 c8x c9x c10x c11x c12x c17x c18x c19x c10 c12
  else
    bd (inb x7 90) <|
    nm (c10 x7.toNatClampNeg) fun x34 =>
    bd (inb x34 40) <|
    nm (upd c11x x34.toNatClampNeg v0_statements) fun c35x =>
    fX11_begin_p180 v0_from v0_open c1 c11 c13 v0_statements x7 x4 c8x c9x c10x c35x c12x c17x c18x c19x c10 c12
noncomputable def fX11_fail_p17  (v0_wrong : Int32) (v0_wrongAt : Int32) : Option (Int32 × Int32 × Int32) :=
  some (0, (v0_wrong, v0_wrongAt))
noncomputable def fX11_fail (a0 : Int32) (a1 : Int32) (v0_wrong : Int32) (v0_wrongAt : Int32) : Option (Int32 × Int32 × Int32) :=
  if v0_wrong = 0 then
    fX11_fail_p17 a0 a1
  else
    fX11_fail_p17 v0_wrong v0_wrongAt
noncomputable def fX11_bind_p187 (v0_procedures : Int32) (v0_statements : Int32) (c1 : Nat → Int32) (c3 : Nat → Int64) (c4 : Nat → Int64) (c5 : Nat → Int32) (c6 : Nat → Int32) (c7 : Nat → Int32) (c9 : Nat → Int32) (c10 : Nat → Int32) (k105 : Int32 → Int32 → Int32 → (Nat → Int32) → (Nat → Int32) → Option (Int32 × Int32 × Int32 × (Nat → Int32) × (Nat → Int32))) (y1 : Int32) (z0 : Int32) (z1 : Int32) (v0_wrong : Int32) (v0_wrongAt : Int32) (c2 : (Nat → Int32)) (c8 : (Nat → Int32)) : Option (Int32 × Int32 × Int32 × (Nat → Int32) × (Nat → Int32)) :=
  bd (inb z1 40) <|
  nm (upd c8 z1.toNatClampNeg z0) fun c1x =>
  nm (y1 + 1) fun x2 =>
  k105 x2 v0_wrong v0_wrongAt c2 c1x
noncomputable def fX11_bind_b105 (v0_procedures : Int32) (v0_statements : Int32) (c1 : Nat → Int32) (c3 : Nat → Int64) (c4 : Nat → Int64) (c5 : Nat → Int32) (c6 : Nat → Int32) (c7 : Nat → Int32) (c9 : Nat → Int32) (c10 : Nat → Int32) (k105 : Int32 → Int32 → Int32 → (Nat → Int32) → (Nat → Int32) → Option (Int32 × Int32 × Int32 × (Nat → Int32) × (Nat → Int32))) (y1 : Int32) (v0_wrong : Int32) (v0_wrongAt : Int32) (c2 : (Nat → Int32)) (c8 : (Nat → Int32)) : Option (Int32 × Int32 × Int32 × (Nat → Int32) × (Nat → Int32)) :=
  if v0_statements ≤ y1 then
    some (1, (v0_wrong, v0_wrongAt, c2, c8))
  else
    bd (inb y1 40) <|
    nm (c6 y1.toNatClampNeg) fun x5 =>
    bd (inb y1 40) <|
    nm (c7 y1.toNatClampNeg) fun x7 =>
    if x7 = (-1) then
      bd (inb x5 90) <|
      nm (c9 x5.toNatClampNeg) fun x10 =>
      if x10 = 0 then
        fX11_bind_p187 v0_procedures v0_statements c1 c3 c4 c5 c6 c7 c9 c10 k105 y1 (-1) y1 v0_wrong v0_wrongAt c2 c8
      else
        bd (inb x5 90) <|
        nm (c9 x5.toNatClampNeg) fun x13 =>
        if x13 = 3 then
          bd (inb x5 90) <|
          nm (c10 x5.toNatClampNeg) fun x20 =>
          fX11_bind_p187 v0_procedures v0_statements c1 c3 c4 c5 c6 c7 c9 c10 k105 y1 x20 y1 v0_wrong v0_wrongAt c2 c8
        else
          bd (inb x5 90) <|
          nm (c10 x5.toNatClampNeg) fun x16 =>
          bd (inb x16 40) <|
          nm (c8 x16.toNatClampNeg) fun x18 =>
          fX11_bind_p187 v0_procedures v0_statements c1 c3 c4 c5 c6 c7 c9 c10 k105 y1 x18 y1 v0_wrong v0_wrongAt c2 c8
    else
      bd (inb y1 40) <|
      nm (c7 y1.toNatClampNeg) fun x22 =>
      fX11_bind_p187 v0_procedures v0_statements c1 c3 c4 c5 c6 c7 c9 c10 k105 y1 x22 y1 v0_wrong v0_wrongAt c2 c8
noncomputable def fX11_bind_l105 (v0_procedures : Int32) (v0_statements : Int32) (c1 : Nat → Int32) (c3 : Nat → Int64) (c4 : Nat → Int64) (c5 : Nat → Int32) (c6 : Nat → Int32) (c7 : Nat → Int32) (c9 : Nat → Int32) (c10 : Nat → Int32) : Nat → Int32 → Int32 → Int32 → (Nat → Int32) → (Nat → Int32) → Option (Int32 × Int32 × Int32 × (Nat → Int32) × (Nat → Int32))
  | 0 => fun _ _ _ _ _ => none
  | n + 1 => fX11_bind_b105 v0_procedures v0_statements c1 c3 c4 c5 c6 c7 c9 c10  (fX11_bind_l105 v0_procedures v0_statements c1 c3 c4 c5 c6 c7 c9 c10  n)
noncomputable def fX11_bind_p97 (v0_procedures : Int32) (v0_statements : Int32) (c1 : Nat → Int32) (c3 : Nat → Int64) (c4 : Nat → Int64) (c5 : Nat → Int32) (c6 : Nat → Int32) (c7 : Nat → Int32) (c9 : Nat → Int32) (c10 : Nat → Int32) (k2 : Int32 → Int32 → Int32 → (Nat → Int32) → (Nat → Int32) → Option (Int32 × Int32 × Int32 × (Nat → Int32) × (Nat → Int32))) (y1 : Int32) (v0_wrong : Int32) (v0_wrongAt : Int32) (c2 : (Nat → Int32)) (c8 : (Nat → Int32)) : Option (Int32 × Int32 × Int32 × (Nat → Int32) × (Nat → Int32)) :=
  nm (y1 + 1) fun x23 =>
  k2 x23 v0_wrong v0_wrongAt c2 c8
noncomputable def fX11_bind_p68 (v0_procedures : Int32) (v0_statements : Int32) (c1 : Nat → Int32) (c3 : Nat → Int64) (c4 : Nat → Int64) (c5 : Nat → Int32) (c6 : Nat → Int32) (c7 : Nat → Int32) (c9 : Nat → Int32) (c10 : Nat → Int32) (k2 : Int32 → Int32 → Int32 → (Nat → Int32) → (Nat → Int32) → Option (Int32 × Int32 × Int32 × (Nat → Int32) × (Nat → Int32))) (k29 : Int32 → Int32 → Int32 → Int32 → (Nat → Int32) → (Nat → Int32) → Option (Int32 × Int32 × Int32 × (Nat → Int32) × (Nat → Int32))) (y1 : Int32) (y2 : Int32) (z0 : Int32) (z1 : Int32) (v0_wrong : Int32) (v0_wrongAt : Int32) (c2 : (Nat → Int32)) (c8 : (Nat → Int32)) : Option (Int32 × Int32 × Int32 × (Nat → Int32) × (Nat → Int32)) :=
  bd (inb z1 40) <|
  nm (upd c2 z1.toNatClampNeg z0) fun c24x =>
  nm (y2 + 1) fun x25 =>
  k29 y1 x25 v0_wrong v0_wrongAt c24x c8
noncomputable def fX11_bind_b29 (v0_procedures : Int32) (v0_statements : Int32) (c1 : Nat → Int32) (c3 : Nat → Int64) (c4 : Nat → Int64) (c5 : Nat → Int32) (c6 : Nat → Int32) (c7 : Nat → Int32) (c9 : Nat → Int32) (c10 : Nat → Int32) (k2 : Int32 → Int32 → Int32 → (Nat → Int32) → (Nat → Int32) → Option (Int32 × Int32 × Int32 × (Nat → Int32) × (Nat → Int32))) (k29 : Int32 → Int32 → Int32 → Int32 → (Nat → Int32) → (Nat → Int32) → Option (Int32 × Int32 × Int32 × (Nat → Int32) × (Nat → Int32))) (y1 : Int32) (y2 : Int32) (v0_wrong : Int32) (v0_wrongAt : Int32) (c2 : (Nat → Int32)) (c8 : (Nat → Int32)) : Option (Int32 × Int32 × Int32 × (Nat → Int32) × (Nat → Int32)) :=
  if v0_procedures ≤ y2 then
    bd (inb y1 40) <|
    nm (c2 y1.toNatClampNeg) fun x28 =>
    if x28 = (-1) then
      bd (inb y1 40) <|
      nm (c5 y1.toNatClampNeg) fun x31 =>
      ob (fX11_fail 4 x31 v0_wrong v0_wrongAt) fun o32 =>
      bd (bz o32.1) <|
      some (o32.1, (o32.2.1, o32.2.2, c2, c8))
    else
      fX11_bind_p97 v0_procedures v0_statements c1 c3 c4 c5 c6 c7 c9 c10 k2 y1 v0_wrong v0_wrongAt c2 c8
  else
    bd (inb y2 6) <|
    nm (c3 y2.toNatClampNeg) fun x35 =>
    bd (inb y1 40) <|
    nm (c4 y1.toNatClampNeg) fun x37 =>
    nm (lg_cmp x35 x37) fun x38 =>
    if x38 = 0 then
      fX11_bind_p68 v0_procedures v0_statements c1 c3 c4 c5 c6 c7 c9 c10 k2 k29 y1 y2 y2 y1 v0_wrong v0_wrongAt c2 c8
    else
      bd (inb y1 40) <|
      nm (c2 y1.toNatClampNeg) fun x41 =>
      fX11_bind_p68 v0_procedures v0_statements c1 c3 c4 c5 c6 c7 c9 c10 k2 k29 y1 y2 x41 y1 v0_wrong v0_wrongAt c2 c8
noncomputable def fX11_bind_l29 (v0_procedures : Int32) (v0_statements : Int32) (c1 : Nat → Int32) (c3 : Nat → Int64) (c4 : Nat → Int64) (c5 : Nat → Int32) (c6 : Nat → Int32) (c7 : Nat → Int32) (c9 : Nat → Int32) (c10 : Nat → Int32) (k2 : Int32 → Int32 → Int32 → (Nat → Int32) → (Nat → Int32) → Option (Int32 × Int32 × Int32 × (Nat → Int32) × (Nat → Int32))) : Nat → Int32 → Int32 → Int32 → Int32 → (Nat → Int32) → (Nat → Int32) → Option (Int32 × Int32 × Int32 × (Nat → Int32) × (Nat → Int32))
  | 0 => fun _ _ _ _ _ _ => none
  | n + 1 => fX11_bind_b29 v0_procedures v0_statements c1 c3 c4 c5 c6 c7 c9 c10 k2 (fX11_bind_l29 v0_procedures v0_statements c1 c3 c4 c5 c6 c7 c9 c10 k2 n)
noncomputable def fX11_bind_b2 (v0_procedures : Int32) (v0_statements : Int32) (c1 : Nat → Int32) (c3 : Nat → Int64) (c4 : Nat → Int64) (c5 : Nat → Int32) (c6 : Nat → Int32) (c7 : Nat → Int32) (c9 : Nat → Int32) (c10 : Nat → Int32) (k2 : Int32 → Int32 → Int32 → (Nat → Int32) → (Nat → Int32) → Option (Int32 × Int32 × Int32 × (Nat → Int32) × (Nat → Int32))) (y1 : Int32) (v0_wrong : Int32) (v0_wrongAt : Int32) (c2 : (Nat → Int32)) (c8 : (Nat → Int32)) : Option (Int32 × Int32 × Int32 × (Nat → Int32) × (Nat → Int32)) :=
  if v0_statements ≤ y1 then
    fX11_bind_l105 v0_procedures v0_statements c1 c3 c4 c5 c6 c7 c9 c10 FU 0 v0_wrong v0_wrongAt c2 c8
  else
    bd (inb y1 40) <|
    nm (c1 y1.toNatClampNeg) fun x44 =>
    if x44 = 3 then
      bd (inb y1 40) <|
      nm (upd c2 y1.toNatClampNeg (-1)) fun c46x =>
      fX11_bind_l29 v0_procedures v0_statements c1 c3 c4 c5 c6 c7 c9 c10 k2 FU y1 0 v0_wrong v0_wrongAt c46x c8
    else
      fX11_bind_p97 v0_procedures v0_statements c1 c3 c4 c5 c6 c7 c9 c10 k2 y1 v0_wrong v0_wrongAt c2 c8
noncomputable def fX11_bind_l2 (v0_procedures : Int32) (v0_statements : Int32) (c1 : Nat → Int32) (c3 : Nat → Int64) (c4 : Nat → Int64) (c5 : Nat → Int32) (c6 : Nat → Int32) (c7 : Nat → Int32) (c9 : Nat → Int32) (c10 : Nat → Int32) : Nat → Int32 → Int32 → Int32 → (Nat → Int32) → (Nat → Int32) → Option (Int32 × Int32 × Int32 × (Nat → Int32) × (Nat → Int32))
  | 0 => fun _ _ _ _ _ => none
  | n + 1 => fX11_bind_b2 v0_procedures v0_statements c1 c3 c4 c5 c6 c7 c9 c10  (fX11_bind_l2 v0_procedures v0_statements c1 c3 c4 c5 c6 c7 c9 c10  n)
noncomputable def fX11_bind (v0_wrong : Int32) (v0_wrongAt : Int32) (v0_procedures : Int32) (v0_statements : Int32) (c1 : Nat → Int32) (c2 : Nat → Int32) (c3 : Nat → Int64) (c4 : Nat → Int64) (c5 : Nat → Int32) (c6 : Nat → Int32) (c7 : Nat → Int32) (c8 : Nat → Int32) (c9 : Nat → Int32) (c10 : Nat → Int32) : Option (Int32 × Int32 × Int32 × (Nat → Int32) × (Nat → Int32)) :=
  fX11_bind_l2 v0_procedures v0_statements c1 c3 c4 c5 c6 c7 c9 c10 FU 0 v0_wrong v0_wrongAt c2 c8
noncomputable def fX11_sum_p33  (z0 : Int32) : Option (Int32 × Unit) :=
  some (z0, ())
noncomputable def fX11_sum_p12   : Option (Int32 × Unit) :=
  fX11_sum_p33 2000000
noncomputable def fX11_sum (a0 : Int32) (a1 : Int32) : Option (Int32 × Unit) :=
  if a0 = 2000000 then
    fX11_sum_p12 
  else
    if a1 = 2000000 then
      fX11_sum_p12 
    else
      nm (a0 + a1) fun x3 =>
      if x3 ≤ 1000000 then
        nm (a0 + a1) fun x5 =>
        fX11_sum_p33 x5
      else
        fX11_sum_p33 1000000
noncomputable def fX11_byRule_p143 (c1 : Nat → Int32) (c2 : Nat → Int32) (k82 : Int32 → Int32 → Int32 → Int32 → Int32 → Option (Int32 × Unit)) (y1 : Int32) (y2 : Int32) (y5 : Int32) (y7 : Int32) (z0 : Int32) : Option (Int32 × Unit) :=
  nm (y7 + 1) fun x1 =>
  k82 y1 y2 y5 z0 x1
noncomputable def fX11_byRule_b82 (c1 : Nat → Int32) (c2 : Nat → Int32) (k82 : Int32 → Int32 → Int32 → Int32 → Int32 → Option (Int32 × Unit)) (y1 : Int32) (y2 : Int32) (y5 : Int32) (y6 : Int32) (y7 : Int32) : Option (Int32 × Unit) :=
  if 16 ≤ y7 then
    ob (fX11_sum 1 y6) fun o3 =>
    some (o3.1, ())
  else
    nm (y5 + y7) fun x4 =>
    bd (inb x4 3072) <|
    nm (c2 x4.toNatClampNeg) fun x6 =>
    nm (192 * y7) fun x7 =>
    nm (y1 + 5) fun x8 =>
    bd (inb x8 288) <|
    nm (c1 x8.toNatClampNeg) fun x10 =>
    nm (16 * x10) fun x11 =>
    nm (x7 + x11) fun x12 =>
    nm (x12 + y2) fun x13 =>
    bd (inb x13 3072) <|
    nm (c2 x13.toNatClampNeg) fun x15 =>
    ob (fX11_sum x6 x15) fun o16 =>
    if y6 ≤ o16.1 then
      fX11_byRule_p143 c1 c2 k82 y1 y2 y5 y7 y6
    else
      fX11_byRule_p143 c1 c2 k82 y1 y2 y5 y7 o16.1
noncomputable def fX11_byRule_l82 (c1 : Nat → Int32) (c2 : Nat → Int32) : Nat → Int32 → Int32 → Int32 → Int32 → Int32 → Option (Int32 × Unit)
  | 0 => fun _ _ _ _ _ => none
  | n + 1 => fX11_byRule_b82 c1 c2  (fX11_byRule_l82 c1 c2  n)
noncomputable def fX11_byRule_p35 (c1 : Nat → Int32) (c2 : Nat → Int32) (z0 : Int32) : Option (Int32 × Unit) :=
  some (z0, ())
noncomputable def fX11_byRule (a0 : Int32) (a1 : Int32) (c1 : Nat → Int32) (c2 : Nat → Int32) : Option (Int32 × Unit) :=
  nm (a0 + 2) fun x18 =>
  bd (inb x18 288) <|
  nm (c1 x18.toNatClampNeg) fun x20 =>
  nm (a0 + 3) fun x21 =>
  bd (inb x21 288) <|
  nm (c1 x21.toNatClampNeg) fun x23 =>
  if x23 = 0 then
    if x20 = a1 then
      fX11_byRule_p35 c1 c2 1
    else
      fX11_byRule_p35 c1 c2 2000000
  else
    nm (192 * x20) fun x25 =>
    nm (a0 + 4) fun x26 =>
    bd (inb x26 288) <|
    nm (c1 x26.toNatClampNeg) fun x28 =>
    nm (16 * x28) fun x29 =>
    nm (x25 + x29) fun x30 =>
    if x23 = 1 then
      nm (x30 + a1) fun x32 =>
      bd (inb x32 3072) <|
      nm (c2 x32.toNatClampNeg) fun x34 =>
      ob (fX11_sum 1 x34) fun o35 =>
      some (o35.1, ())
    else
      fX11_byRule_l82 c1 c2 FU a0 a1 x30 2000000 0
noncomputable def fX11_byteAt_p18 (v0_textSize : Int32) (c1 : Nat → Int32) (z0 : Int32) : Option (Int32 × Unit) :=
  some (z0, ())
noncomputable def fX11_byteAt (a0 : Int32) (v0_textSize : Int32) (c1 : Nat → Int32) : Option (Int32 × Unit) :=
  if v0_textSize ≤ a0 then
    fX11_byteAt_p18 v0_textSize c1 (-1)
  else
    bd (inb a0 600) <|
    nm (c1 a0.toNatClampNeg) fun x3 =>
    fX11_byteAt_p18 v0_textSize c1 x3
noncomputable def fX11_can_p239 (c1 : Nat → Int32) (c2 : Nat → Int32) (c3 : Nat → Int32) (k11 : Int32 → Int32 → Int32 → Int32 → Int32 → (Nat → Int32) → Option (Int32 × (Nat → Int32))) (y1 : Int32) (y2 : Int32) (y3 : Int32) (y4 : Int32) (y5 : Int32) (c4 : (Nat → Int32)) : Option (Int32 × (Nat → Int32)) :=
  nm (y5 + 1) fun x1 =>
  k11 y1 y2 y3 y4 x1 c4
noncomputable def fX11_can_p170 (c1 : Nat → Int32) (c2 : Nat → Int32) (c3 : Nat → Int32) (k11 : Int32 → Int32 → Int32 → Int32 → Int32 → (Nat → Int32) → Option (Int32 × (Nat → Int32))) (y1 : Int32) (y2 : Int32) (y3 : Int32) (y4 : Int32) (y5 : Int32) (z0 : Int32) (z1 : Int32) (c4 : (Nat → Int32)) : Option (Int32 × (Nat → Int32)) :=
  bd (inb z1 700) <|
  nm (upd c4 z1.toNatClampNeg z0) fun c2x =>
  fX11_can_p239 c1 c2 c3 k11 y1 y2 y3 y4 y5 c2x
noncomputable def fX11_can_p86 (c1 : Nat → Int32) (c2 : Nat → Int32) (c3 : Nat → Int32) (k11 : Int32 → Int32 → Int32 → Int32 → Int32 → (Nat → Int32) → Option (Int32 × (Nat → Int32))) (y1 : Int32) (y2 : Int32) (y3 : Int32) (y4 : Int32) (y5 : Int32) (y6 : Int32) (c4 : (Nat → Int32)) : Option (Int32 × (Nat → Int32)) :=
  nm (y4 - 2) fun x3 =>
  bd (inb x3 700) <|
  nm (c4 x3.toNatClampNeg) fun x5 =>
  nm (y4 - 1) fun x6 =>
  bd (inb x6 700) <|
  nm (c4 x6.toNatClampNeg) fun x8 =>
  nm (y4 + (-1)) fun x9 =>
  nm (x5 >>> (1 &&& 31)) fun x10 =>
  nm (x8 >>> (1 &&& 31)) fun x11 =>
  nm (x10 &&& x11) fun x12 =>
  nm (x5 &&& x8) fun x13 =>
  nm (x13 &&& 1) fun x14 =>
  nm (x9 - 1) fun x15 =>
  if y6 = 4 then
    nm (x5 ||| x8) fun x20 =>
    nm (x20 &&& 1) fun x21 =>
    nm (x12 <<< (1 &&& 31)) fun x22 =>
    nm (x21 ||| x22) fun x23 =>
    fX11_can_p170 c1 c2 c3 k11 y1 y2 y3 x9 y5 x23 x15 c4
  else
    nm (x5 ||| x8) fun x17 =>
    nm (x17 &&& 2) fun x18 =>
    nm (x18 ||| x14) fun x19 =>
    fX11_can_p170 c1 c2 c3 k11 y1 y2 y3 x9 y5 x19 x15 c4
noncomputable def fX11_can_p235 (c1 : Nat → Int32) (c2 : Nat → Int32) (c3 : Nat → Int32) (k11 : Int32 → Int32 → Int32 → Int32 → Int32 → (Nat → Int32) → Option (Int32 × (Nat → Int32))) (y1 : Int32) (y2 : Int32) (y3 : Int32) (y4 : Int32) (y5 : Int32) (z0 : Int32) (z1 : Int32) (c4 : (Nat → Int32)) : Option (Int32 × (Nat → Int32)) :=
  bd (inb z1 700) <|
  nm (upd c4 z1.toNatClampNeg z0) fun c24x =>
  nm (y4 + 1) fun x25 =>
  fX11_can_p239 c1 c2 c3 k11 y1 y2 y3 x25 y5 c24x
noncomputable def fX11_can_b11 (c1 : Nat → Int32) (c2 : Nat → Int32) (c3 : Nat → Int32) (k11 : Int32 → Int32 → Int32 → Int32 → Int32 → (Nat → Int32) → Option (Int32 × (Nat → Int32))) (y1 : Int32) (y2 : Int32) (y3 : Int32) (y4 : Int32) (y5 : Int32) (c4 : (Nat → Int32)) : Option (Int32 × (Nat → Int32)) :=
  bd (inb y1 40) <|
  nm (c2 y1.toNatClampNeg) fun x27 =>
  if x27 ≤ y5 then
    bd (inb 0 700) <|
    nm (c4 (0 : Int32).toNatClampNeg) fun x30 =>
    some (x30, c4)
  else
    bd (inb y5 700) <|
    nm (c3 y5.toNatClampNeg) fun x32 =>
    if x32 = 3 then
      nm (y4 - 1) fun x48 =>
      nm (y4 - 1) fun x49 =>
      bd (inb x49 700) <|
      nm (c4 x49.toNatClampNeg) fun x51 =>
      nm (x51 &&& 1) fun x52 =>
      nm (x52 <<< (1 &&& 31)) fun x53 =>
      nm (y4 - 1) fun x54 =>
      bd (inb x54 700) <|
      nm (c4 x54.toNatClampNeg) fun x56 =>
      nm (x56 >>> (1 &&& 31)) fun x57 =>
      nm (x53 ||| x57) fun x58 =>
      bd (inb x48 700) <|
      nm (upd c4 x48.toNatClampNeg x58) fun c59x =>
      fX11_can_p239 c1 c2 c3 k11 y1 y2 y3 y4 y5 c59x
    else
      if x32 = 4 then
        fX11_can_p86 c1 c2 c3 k11 y1 y2 y3 y4 y5 x32 c4
      else
        if x32 = 5 then
          fX11_can_p86 c1 c2 c3 k11 y1 y2 y3 y4 y5 x32 c4
        else
          if 2 ≤ x32 then
            if x32 = 2 then
              fX11_can_p235 c1 c2 c3 k11 y1 y2 y3 y4 y5 3 y4 c4
            else
              if 24 ≤ x32 then
                nm (x32 - 24) fun x39 =>
                nm (y3 >>> (x39 &&& 31)) fun x40 =>
                nm (x40 &&& 1) fun x41 =>
                nm (1 <<< (x41 &&& 31)) fun x42 =>
                fX11_can_p235 c1 c2 c3 k11 y1 y2 y3 y4 y5 x42 y4 c4
              else
                nm (x32 - 16) fun x43 =>
                nm (y2 >>> (x43 &&& 31)) fun x44 =>
                nm (x44 &&& 1) fun x45 =>
                nm (1 <<< (x45 &&& 31)) fun x46 =>
                fX11_can_p235 c1 c2 c3 k11 y1 y2 y3 y4 y5 x46 y4 c4
          else
            nm (1 <<< (x32 &&& 31)) fun x47 =>
            fX11_can_p235 c1 c2 c3 k11 y1 y2 y3 y4 y5 x47 y4 c4
noncomputable def fX11_can_l11 (c1 : Nat → Int32) (c2 : Nat → Int32) (c3 : Nat → Int32) : Nat → Int32 → Int32 → Int32 → Int32 → Int32 → (Nat → Int32) → Option (Int32 × (Nat → Int32))
  | 0 => fun _ _ _ _ _ _ => none
  | n + 1 => fX11_can_b11 c1 c2 c3  (fX11_can_l11 c1 c2 c3  n)
noncomputable def fX11_can (a0 : Int32) (a1 : Int32) (a2 : Int32) (c1 : Nat → Int32) (c2 : Nat → Int32) (c3 : Nat → Int32) (c4 : Nat → Int32) : Option (Int32 × (Nat → Int32)) :=
  bd (inb a0 40) <|
  nm (c1 a0.toNatClampNeg) fun x61 =>
  fX11_can_l11 c1 c2 c3 FU a0 a1 a2 0 x61 c4
noncomputable def fX11_toEnd_p37 (c1 : Nat → Int32) (z0 : Int32) : Option (Int32 × Unit) :=
  some (z0, ())
noncomputable def fX11_toEnd (a0 : Int32) (a1 : Int32) (a2 : Int32) (a3 : Int32) (c1 : Nat → Int32) : Option (Int32 × Unit) :=
  if a1 = (-1) then
    if a0 = a3 then
      fX11_toEnd_p37 c1 0
    else
      fX11_toEnd_p37 c1 2000000
  else
    ob (fX11_at a0 a1 a2) fun o2 =>
    nm (8 * o2.1) fun x3 =>
    nm (x3 + a3) fun x4 =>
    bd (inb x4 10240) <|
    nm (c1 x4.toNatClampNeg) fun x6 =>
    fX11_toEnd_p37 c1 x6
noncomputable def fX11_go_p184 (c1 : Nat → Int32) (c2 : Nat → Int32) (c3 : Nat → Int32) (c4 : Nat → Int32) (v0_newG : Int32) (v0_newL : Int32) (v0_newS : Int32) : Option (Int32 × Int32 × Int32) :=
  some (v0_newG, v0_newL, v0_newS)
noncomputable def fX11_go_p181 (c1 : Nat → Int32) (c2 : Nat → Int32) (c3 : Nat → Int32) (c4 : Nat → Int32) (z0 : Int32) (v0_newG : Int32) (v0_newL : Int32) (v0_newS : Int32) : Option (Int32 × Int32 × Int32) :=
  fX11_go_p184 c1 c2 c3 c4 v0_newG v0_newL z0
noncomputable def fX11_go_p175 (c1 : Nat → Int32) (c2 : Nat → Int32) (c3 : Nat → Int32) (c4 : Nat → Int32) (y1 : Int32) (v0_newG : Int32) (v0_newL : Int32) (v0_newS : Int32) : Option (Int32 × Int32 × Int32) :=
  bd (inb y1 40) <|
  nm (c1 y1.toNatClampNeg) fun x2 =>
  fX11_go_p181 c1 c2 c3 c4 x2 v0_newG v0_newL v0_newS
noncomputable def fX11_go_p130 (c1 : Nat → Int32) (c2 : Nat → Int32) (c3 : Nat → Int32) (c4 : Nat → Int32) (y1 : Int32) (y4 : Int32) (v0_newG : Int32) (v0_newL : Int32) (v0_newS : Int32) : Option (Int32 × Int32 × Int32) :=
  nm (2 * y1) fun x3 =>
  nm (x3 + y4) fun x4 =>
  bd (inb x4 80) <|
  nm (c4 x4.toNatClampNeg) fun x6 =>
  if x6 = (-1) then
    bd (inb y1 40) <|
    nm (c2 y1.toNatClampNeg) fun x9 =>
    if x9 = 2 then
      if y4 = 1 then
        fX11_go_p181 c1 c2 c3 c4 y1 v0_newG v0_newL v0_newS
      else
        fX11_go_p175 c1 c2 c3 c4 y1 v0_newG v0_newL v0_newS
    else
      fX11_go_p175 c1 c2 c3 c4 y1 v0_newG v0_newL v0_newS
  else
    fX11_go_p181 c1 c2 c3 c4 x6 v0_newG v0_newL v0_newS
noncomputable def fX11_go_p104 (c1 : Nat → Int32) (c2 : Nat → Int32) (c3 : Nat → Int32) (c4 : Nat → Int32) (z0 : Int32) (v0_newG : Int32) (v0_newL : Int32) (v0_newS : Int32) : Option (Int32 × Int32 × Int32) :=
  fX11_go_p184 c1 c2 c3 c4 v0_newG z0 v0_newS
noncomputable def fX11_go_p69 (c1 : Nat → Int32) (c2 : Nat → Int32) (c3 : Nat → Int32) (c4 : Nat → Int32) (y3 : Int32) (y4 : Int32) (y5 : Int32) (z0 : Int32) (v0_newG : Int32) (v0_newL : Int32) (v0_newS : Int32) : Option (Int32 × Int32 × Int32) :=
  if 24 ≤ y5 then
    nm (y5 - 24) fun x13 =>
    nm (1 <<< (x13 &&& 31)) fun x14 =>
    nm (x14 ^^^ (-1)) fun x15 =>
    nm (y3 &&& x15) fun x16 =>
    nm (y5 - 24) fun x17 =>
    nm (y4 <<< (x17 &&& 31)) fun x18 =>
    nm (x16 ||| x18) fun x19 =>
    fX11_go_p104 c1 c2 c3 c4 x19 z0 v0_newL v0_newS
  else
    fX11_go_p104 c1 c2 c3 c4 y3 z0 v0_newL v0_newS
noncomputable def fX11_go (a0 : Int32) (a1 : Int32) (a2 : Int32) (a3 : Int32) (v0_newG : Int32) (v0_newL : Int32) (v0_newS : Int32) (c1 : Nat → Int32) (c2 : Nat → Int32) (c3 : Nat → Int32) (c4 : Nat → Int32) : Option (Int32 × Int32 × Int32) :=
  bd (inb a0 40) <|
  nm (c1 a0.toNatClampNeg) fun x21 =>
  bd (inb a0 40) <|
  nm (c2 a0.toNatClampNeg) fun x23 =>
  if x23 = 0 then
    bd (inb a0 40) <|
    nm (c3 a0.toNatClampNeg) fun x32 =>
    if 24 ≤ x32 then
      fX11_go_p69 c1 c2 c3 c4 a2 a3 x32 a1 a1 a2 x21
    else
      nm (x32 - 16) fun x34 =>
      nm (1 <<< (x34 &&& 31)) fun x35 =>
      nm (x35 ^^^ (-1)) fun x36 =>
      nm (a1 &&& x36) fun x37 =>
      nm (x32 - 16) fun x38 =>
      nm (a3 <<< (x38 &&& 31)) fun x39 =>
      nm (x37 ||| x39) fun x40 =>
      fX11_go_p69 c1 c2 c3 c4 a2 a3 x32 x40 a1 a2 x21
  else
    bd (inb a0 40) <|
    nm (c2 a0.toNatClampNeg) fun x26 =>
    if x26 = 1 then
      fX11_go_p130 c1 c2 c3 c4 a0 a3 a1 a2 x21
    else
      bd (inb a0 40) <|
      nm (c2 a0.toNatClampNeg) fun x29 =>
      if x29 = 2 then
        fX11_go_p130 c1 c2 c3 c4 a0 a3 a1 a2 x21
      else
        fX11_go_p184 c1 c2 c3 c4 a1 a2 x21
noncomputable def fX11_endCost_p234 (c1 : Nat → Int32) (c2 : Nat → Int32) (c3 : Nat → Int32) (c4 : Nat → Int32) (c5 : Nat → Int32) (c6 : Nat → Int32) (c7 : Nat → Int32) (c8 : Nat → Int32) (c10 : Nat → Int32) (k172 : Int32 → Int32 → Int32 → Int32 → Int32 → Int32 → Int32 → Int32 → Int32 → Int32 → (Nat → Int32) → Option (Int32 × Int32 × Int32 × Int32 × (Nat → Int32))) (y1 : Int32) (y2 : Int32) (y3 : Int32) (y4 : Int32) (y5 : Int32) (y6 : Int32) (y7 : Int32) (v0_newG : Int32) (v0_newL : Int32) (v0_newS : Int32) (c9 : (Nat → Int32)) : Option (Int32 × Int32 × Int32 × Int32 × (Nat → Int32)) :=
  nm (y7 + 1) fun x1 =>
  k172 y1 y2 y3 y4 y5 y6 x1 v0_newG v0_newL v0_newS c9
noncomputable def fX11_endCost_p232 (c1 : Nat → Int32) (c2 : Nat → Int32) (c3 : Nat → Int32) (c4 : Nat → Int32) (c5 : Nat → Int32) (c6 : Nat → Int32) (c7 : Nat → Int32) (c8 : Nat → Int32) (c10 : Nat → Int32) (k172 : Int32 → Int32 → Int32 → Int32 → Int32 → Int32 → Int32 → Int32 → Int32 → Int32 → (Nat → Int32) → Option (Int32 × Int32 × Int32 × Int32 × (Nat → Int32))) (y1 : Int32) (y2 : Int32) (y3 : Int32) (y4 : Int32) (y6 : Int32) (y7 : Int32) (z0 : Int32) (v0_newG : Int32) (v0_newL : Int32) (v0_newS : Int32) (c9 : (Nat → Int32)) : Option (Int32 × Int32 × Int32 × Int32 × (Nat → Int32)) :=
  fX11_endCost_p234 c1 c2 c3 c4 c5 c6 c7 c8 c10 k172 y1 y2 y3 y4 z0 y6 y7 v0_newG v0_newL v0_newS c9
noncomputable def fX11_endCost_b172 (c1 : Nat → Int32) (c2 : Nat → Int32) (c3 : Nat → Int32) (c4 : Nat → Int32) (c5 : Nat → Int32) (c6 : Nat → Int32) (c7 : Nat → Int32) (c8 : Nat → Int32) (c10 : Nat → Int32) (k172 : Int32 → Int32 → Int32 → Int32 → Int32 → Int32 → Int32 → Int32 → Int32 → Int32 → (Nat → Int32) → Option (Int32 × Int32 × Int32 × Int32 × (Nat → Int32))) (y1 : Int32) (y2 : Int32) (y3 : Int32) (y4 : Int32) (y5 : Int32) (y6 : Int32) (y7 : Int32) (v0_newG : Int32) (v0_newL : Int32) (v0_newS : Int32) (c9 : (Nat → Int32)) : Option (Int32 × Int32 × Int32 × Int32 × (Nat → Int32)) :=
  if 2 ≤ y7 then
    ob (fX11_sum 1 y5) fun o3 =>
    some (o3.1, (v0_newG, v0_newL, v0_newS, c9))
  else
    nm (y6 >>> (y7 &&& 31)) fun x4 =>
    nm (x4 &&& 1) fun x5 =>
    if x5 = 1 then
      ob (fX11_go y2 y1 y3 y7 v0_newG v0_newL v0_newS c2 c1 c4 c10) fun o7 =>
      ob (fX11_toEnd o7.1 o7.2.2 o7.2.1 y4 c3) fun o8 =>
      if y5 ≤ o8.1 then
        fX11_endCost_p232 c1 c2 c3 c4 c5 c6 c7 c8 c10 k172 y1 y2 y3 y4 y6 y7 y5 o7.1 o7.2.1 o7.2.2 c9
      else
        fX11_endCost_p232 c1 c2 c3 c4 c5 c6 c7 c8 c10 k172 y1 y2 y3 y4 y6 y7 o8.1 o7.1 o7.2.1 o7.2.2 c9
    else
      fX11_endCost_p234 c1 c2 c3 c4 c5 c6 c7 c8 c10 k172 y1 y2 y3 y4 y5 y6 y7 v0_newG v0_newL v0_newS c9
noncomputable def fX11_endCost_l172 (c1 : Nat → Int32) (c2 : Nat → Int32) (c3 : Nat → Int32) (c4 : Nat → Int32) (c5 : Nat → Int32) (c6 : Nat → Int32) (c7 : Nat → Int32) (c8 : Nat → Int32) (c10 : Nat → Int32) : Nat → Int32 → Int32 → Int32 → Int32 → Int32 → Int32 → Int32 → Int32 → Int32 → Int32 → (Nat → Int32) → Option (Int32 × Int32 × Int32 × Int32 × (Nat → Int32))
  | 0 => fun _ _ _ _ _ _ _ _ _ _ _ => none
  | n + 1 => fX11_endCost_b172 c1 c2 c3 c4 c5 c6 c7 c8 c10  (fX11_endCost_l172 c1 c2 c3 c4 c5 c6 c7 c8 c10  n)
noncomputable def fX11_endCost_p170 (c1 : Nat → Int32) (c2 : Nat → Int32) (c3 : Nat → Int32) (c4 : Nat → Int32) (c5 : Nat → Int32) (c6 : Nat → Int32) (c7 : Nat → Int32) (c8 : Nat → Int32) (c10 : Nat → Int32) (y1 : Int32) (y2 : Int32) (y3 : Int32) (y4 : Int32) (y5 : Int32) (y6 : Int32) (z0 : Int32) (v0_newG : Int32) (v0_newL : Int32) (v0_newS : Int32) (c9 : (Nat → Int32)) : Option (Int32 × Int32 × Int32 × Int32 × (Nat → Int32)) :=
  fX11_endCost_l172 c1 c2 c3 c4 c5 c6 c7 c8 c10 FU y1 y2 y3 y4 y5 y6 z0 v0_newG v0_newL v0_newS c9
noncomputable def fX11_endCost_p131 (c1 : Nat → Int32) (c2 : Nat → Int32) (c3 : Nat → Int32) (c4 : Nat → Int32) (c5 : Nat → Int32) (c6 : Nat → Int32) (c7 : Nat → Int32) (c8 : Nat → Int32) (c10 : Nat → Int32) (k71 : Int32 → Int32 → Int32 → Int32 → Int32 → Int32 → Int32 → Int32 → Int32 → (Nat → Int32) → Option (Int32 × Int32 × Int32 × Int32 × (Nat → Int32))) (y1 : Int32) (y2 : Int32) (y3 : Int32) (y4 : Int32) (y6 : Int32) (z0 : Int32) (v0_newG : Int32) (v0_newL : Int32) (v0_newS : Int32) (c9 : (Nat → Int32)) : Option (Int32 × Int32 × Int32 × Int32 × (Nat → Int32)) :=
  nm (y6 + 1) fun x10 =>
  k71 y1 y2 y3 y4 z0 x10 v0_newG v0_newL v0_newS c9
noncomputable def fX11_endCost_b71 (c1 : Nat → Int32) (c2 : Nat → Int32) (c3 : Nat → Int32) (c4 : Nat → Int32) (c5 : Nat → Int32) (c6 : Nat → Int32) (c7 : Nat → Int32) (c8 : Nat → Int32) (c10 : Nat → Int32) (k71 : Int32 → Int32 → Int32 → Int32 → Int32 → Int32 → Int32 → Int32 → Int32 → (Nat → Int32) → Option (Int32 × Int32 × Int32 × Int32 × (Nat → Int32))) (y1 : Int32) (y2 : Int32) (y3 : Int32) (y4 : Int32) (y5 : Int32) (y6 : Int32) (v0_newG : Int32) (v0_newL : Int32) (v0_newS : Int32) (c9 : (Nat → Int32)) : Option (Int32 × Int32 × Int32 × Int32 × (Nat → Int32)) :=
  if 8 ≤ y6 then
    ob (fX11_sum 1 y5) fun o12 =>
    some (o12.1, (v0_newG, v0_newL, v0_newS, c9))
  else
    bd (inb y2 40) <|
    nm (c4 y2.toNatClampNeg) fun x14 =>
    bd (inb x14 6) <|
    nm (c5 x14.toNatClampNeg) fun x16 =>
    ob (fX11_toEnd y1 x16 0 y6 c3) fun o17 =>
    bd (inb y2 40) <|
    nm (c2 y2.toNatClampNeg) fun x19 =>
    ob (fX11_toEnd y6 x19 y3 y4 c3) fun o20 =>
    ob (fX11_sum o17.1 o20.1) fun o21 =>
    if y5 ≤ o21.1 then
      fX11_endCost_p131 c1 c2 c3 c4 c5 c6 c7 c8 c10 k71 y1 y2 y3 y4 y6 y5 v0_newG v0_newL v0_newS c9
    else
      fX11_endCost_p131 c1 c2 c3 c4 c5 c6 c7 c8 c10 k71 y1 y2 y3 y4 y6 o21.1 v0_newG v0_newL v0_newS c9
noncomputable def fX11_endCost_l71 (c1 : Nat → Int32) (c2 : Nat → Int32) (c3 : Nat → Int32) (c4 : Nat → Int32) (c5 : Nat → Int32) (c6 : Nat → Int32) (c7 : Nat → Int32) (c8 : Nat → Int32) (c10 : Nat → Int32) : Nat → Int32 → Int32 → Int32 → Int32 → Int32 → Int32 → Int32 → Int32 → Int32 → (Nat → Int32) → Option (Int32 × Int32 × Int32 × Int32 × (Nat → Int32))
  | 0 => fun _ _ _ _ _ _ _ _ _ _ => none
  | n + 1 => fX11_endCost_b71 c1 c2 c3 c4 c5 c6 c7 c8 c10  (fX11_endCost_l71 c1 c2 c3 c4 c5 c6 c7 c8 c10  n)
noncomputable def fX11_endCost_p23 (c1 : Nat → Int32) (c2 : Nat → Int32) (c3 : Nat → Int32) (c4 : Nat → Int32) (c5 : Nat → Int32) (c6 : Nat → Int32) (c7 : Nat → Int32) (c8 : Nat → Int32) (c10 : Nat → Int32) (z0 : Int32) (v0_newG : Int32) (v0_newL : Int32) (v0_newS : Int32) (c9 : (Nat → Int32)) : Option (Int32 × Int32 × Int32 × Int32 × (Nat → Int32)) :=
  some (z0, (v0_newG, v0_newL, v0_newS, c9))
noncomputable def fX11_endCost (a0 : Int32) (a1 : Int32) (a2 : Int32) (a3 : Int32) (v0_newG : Int32) (v0_newL : Int32) (v0_newS : Int32) (c1 : Nat → Int32) (c2 : Nat → Int32) (c3 : Nat → Int32) (c4 : Nat → Int32) (c5 : Nat → Int32) (c6 : Nat → Int32) (c7 : Nat → Int32) (c8 : Nat → Int32) (c9 : Nat → Int32) (c10 : Nat → Int32) : Option (Int32 × Int32 × Int32 × Int32 × (Nat → Int32)) :=
  bd (inb a1 40) <|
  nm (c1 a1.toNatClampNeg) fun x24 =>
  if x24 = 6 then
    if a0 = a3 then
      fX11_endCost_p23 c1 c2 c3 c4 c5 c6 c7 c8 c10 1 v0_newG v0_newL v0_newS c9
    else
      fX11_endCost_p23 c1 c2 c3 c4 c5 c6 c7 c8 c10 2000000 v0_newG v0_newL v0_newS c9
  else
    bd (inb a1 40) <|
    nm (c1 a1.toNatClampNeg) fun x27 =>
    if x27 = 7 then
      bd (inb a1 40) <|
      nm (c2 a1.toNatClampNeg) fun x37 =>
      ob (fX11_toEnd a0 x37 a2 a3 c3) fun o38 =>
      ob (fX11_sum 1 o38.1) fun o39 =>
      some (o39.1, (v0_newG, v0_newL, v0_newS, c9))
    else
      bd (inb a1 40) <|
      nm (c1 a1.toNatClampNeg) fun x30 =>
      if x30 = 3 then
        fX11_endCost_l71 c1 c2 c3 c4 c5 c6 c7 c8 c10 FU a0 a1 a2 a3 2000000 0 v0_newG v0_newL v0_newS c9
      else
        ob (fX11_can a1 a0 a2 c6 c7 c8 c9) fun o32 =>
        bd (inb a1 40) <|
        nm (c1 a1.toNatClampNeg) fun x34 =>
        if x34 ≤ 3 then
          fX11_endCost_p170 c1 c2 c3 c4 c5 c6 c7 c8 c10 a0 a1 a2 a3 2000000 o32.1 0 v0_newG v0_newL v0_newS o32.2
        else
          fX11_endCost_p170 c1 c2 c3 c4 c5 c6 c7 c8 c10 a0 a1 a2 a3 2000000 o32.1 1 v0_newG v0_newL v0_newS o32.2
noncomputable def fX11_toFail_p21 (c1 : Nat → Int32) (z0 : Int32) : Option (Int32 × Unit) :=
  some (z0, ())
noncomputable def fX11_toFail (a0 : Int32) (a1 : Int32) (a2 : Int32) (c1 : Nat → Int32) : Option (Int32 × Unit) :=
  if a1 = (-1) then
    fX11_toFail_p21 c1 2000000
  else
    ob (fX11_at a0 a1 a2) fun o2 =>
    bd (inb o2.1 1280) <|
    nm (c1 o2.1.toNatClampNeg) fun x4 =>
    fX11_toFail_p21 c1 x4
noncomputable def fX11_failCost_p257 (c1 : Nat → Int32) (c2 : Nat → Int32) (c3 : Nat → Int32) (c4 : Nat → Int32) (c5 : Nat → Int32) (c6 : Nat → Int32) (c7 : Nat → Int32) (c8 : Nat → Int32) (c9 : Nat → Int32) (c11 : Nat → Int32) (k197 : Int32 → Int32 → Int32 → Int32 → Int32 → Int32 → Int32 → Int32 → Int32 → (Nat → Int32) → Option (Int32 × Int32 × Int32 × Int32 × (Nat → Int32))) (y1 : Int32) (y2 : Int32) (y3 : Int32) (y4 : Int32) (y5 : Int32) (y6 : Int32) (v0_newG : Int32) (v0_newL : Int32) (v0_newS : Int32) (c10 : (Nat → Int32)) : Option (Int32 × Int32 × Int32 × Int32 × (Nat → Int32)) :=
  nm (y6 + 1) fun x1 =>
  k197 y1 y2 y3 y4 y5 x1 v0_newG v0_newL v0_newS c10
noncomputable def fX11_failCost_p255 (c1 : Nat → Int32) (c2 : Nat → Int32) (c3 : Nat → Int32) (c4 : Nat → Int32) (c5 : Nat → Int32) (c6 : Nat → Int32) (c7 : Nat → Int32) (c8 : Nat → Int32) (c9 : Nat → Int32) (c11 : Nat → Int32) (k197 : Int32 → Int32 → Int32 → Int32 → Int32 → Int32 → Int32 → Int32 → Int32 → (Nat → Int32) → Option (Int32 × Int32 × Int32 × Int32 × (Nat → Int32))) (y1 : Int32) (y2 : Int32) (y3 : Int32) (y4 : Int32) (y6 : Int32) (z0 : Int32) (v0_newG : Int32) (v0_newL : Int32) (v0_newS : Int32) (c10 : (Nat → Int32)) : Option (Int32 × Int32 × Int32 × Int32 × (Nat → Int32)) :=
  fX11_failCost_p257 c1 c2 c3 c4 c5 c6 c7 c8 c9 c11 k197 y1 y2 y3 y4 z0 y6 v0_newG v0_newL v0_newS c10
noncomputable def fX11_failCost_b197 (c1 : Nat → Int32) (c2 : Nat → Int32) (c3 : Nat → Int32) (c4 : Nat → Int32) (c5 : Nat → Int32) (c6 : Nat → Int32) (c7 : Nat → Int32) (c8 : Nat → Int32) (c9 : Nat → Int32) (c11 : Nat → Int32) (k197 : Int32 → Int32 → Int32 → Int32 → Int32 → Int32 → Int32 → Int32 → Int32 → (Nat → Int32) → Option (Int32 × Int32 × Int32 × Int32 × (Nat → Int32))) (y1 : Int32) (y2 : Int32) (y3 : Int32) (y4 : Int32) (y5 : Int32) (y6 : Int32) (v0_newG : Int32) (v0_newL : Int32) (v0_newS : Int32) (c10 : (Nat → Int32)) : Option (Int32 × Int32 × Int32 × Int32 × (Nat → Int32)) :=
  if 2 ≤ y6 then
    ob (fX11_sum 1 y5) fun o3 =>
    some (o3.1, (v0_newG, v0_newL, v0_newS, c10))
  else
    nm (y4 >>> (y6 &&& 31)) fun x4 =>
    nm (x4 &&& 1) fun x5 =>
    if x5 = 1 then
      ob (fX11_go y2 y1 y3 y6 v0_newG v0_newL v0_newS c2 c1 c4 c11) fun o7 =>
      ob (fX11_toFail o7.1 o7.2.2 o7.2.1 c3) fun o8 =>
      if y5 ≤ o8.1 then
        fX11_failCost_p255 c1 c2 c3 c4 c5 c6 c7 c8 c9 c11 k197 y1 y2 y3 y4 y6 y5 o7.1 o7.2.1 o7.2.2 c10
      else
        fX11_failCost_p255 c1 c2 c3 c4 c5 c6 c7 c8 c9 c11 k197 y1 y2 y3 y4 y6 o8.1 o7.1 o7.2.1 o7.2.2 c10
    else
      fX11_failCost_p257 c1 c2 c3 c4 c5 c6 c7 c8 c9 c11 k197 y1 y2 y3 y4 y5 y6 v0_newG v0_newL v0_newS c10
noncomputable def fX11_failCost_l197 (c1 : Nat → Int32) (c2 : Nat → Int32) (c3 : Nat → Int32) (c4 : Nat → Int32) (c5 : Nat → Int32) (c6 : Nat → Int32) (c7 : Nat → Int32) (c8 : Nat → Int32) (c9 : Nat → Int32) (c11 : Nat → Int32) : Nat → Int32 → Int32 → Int32 → Int32 → Int32 → Int32 → Int32 → Int32 → Int32 → (Nat → Int32) → Option (Int32 × Int32 × Int32 × Int32 × (Nat → Int32))
  | 0 => fun _ _ _ _ _ _ _ _ _ _ => none
  | n + 1 => fX11_failCost_b197 c1 c2 c3 c4 c5 c6 c7 c8 c9 c11  (fX11_failCost_l197 c1 c2 c3 c4 c5 c6 c7 c8 c9 c11  n)
noncomputable def fX11_failCost_p195 (c1 : Nat → Int32) (c2 : Nat → Int32) (c3 : Nat → Int32) (c4 : Nat → Int32) (c5 : Nat → Int32) (c6 : Nat → Int32) (c7 : Nat → Int32) (c8 : Nat → Int32) (c9 : Nat → Int32) (c11 : Nat → Int32) (y1 : Int32) (y2 : Int32) (y3 : Int32) (y4 : Int32) (y5 : Int32) (z0 : Int32) (v0_newG : Int32) (v0_newL : Int32) (v0_newS : Int32) (c10 : (Nat → Int32)) : Option (Int32 × Int32 × Int32 × Int32 × (Nat → Int32)) :=
  fX11_failCost_l197 c1 c2 c3 c4 c5 c6 c7 c8 c9 c11 FU y1 y2 y3 y4 y5 z0 v0_newG v0_newL v0_newS c10
noncomputable def fX11_failCost_p176 (c1 : Nat → Int32) (c2 : Nat → Int32) (c3 : Nat → Int32) (c4 : Nat → Int32) (c5 : Nat → Int32) (c6 : Nat → Int32) (c7 : Nat → Int32) (c8 : Nat → Int32) (c9 : Nat → Int32) (c11 : Nat → Int32) (y1 : Int32) (y2 : Int32) (y3 : Int32) (y4 : Int32) (v0_newG : Int32) (v0_newL : Int32) (v0_newS : Int32) (c10 : (Nat → Int32)) : Option (Int32 × Int32 × Int32 × Int32 × (Nat → Int32)) :=
  bd (inb y2 40) <|
  nm (c1 y2.toNatClampNeg) fun x11 =>
  if x11 ≤ 3 then
    fX11_failCost_p195 c1 c2 c3 c4 c5 c6 c7 c8 c9 c11 y1 y2 y3 y4 2000000 0 v0_newG v0_newL v0_newS c10
  else
    fX11_failCost_p195 c1 c2 c3 c4 c5 c6 c7 c8 c9 c11 y1 y2 y3 y4 2000000 1 v0_newG v0_newL v0_newS c10
noncomputable def fX11_failCost_p132 (c1 : Nat → Int32) (c2 : Nat → Int32) (c3 : Nat → Int32) (c4 : Nat → Int32) (c5 : Nat → Int32) (c6 : Nat → Int32) (c7 : Nat → Int32) (c8 : Nat → Int32) (c9 : Nat → Int32) (c11 : Nat → Int32) (k74 : Int32 → Int32 → Int32 → Int32 → Int32 → Int32 → Int32 → Int32 → (Nat → Int32) → Option (Int32 × Int32 × Int32 × Int32 × (Nat → Int32))) (y1 : Int32) (y2 : Int32) (y3 : Int32) (y5 : Int32) (z0 : Int32) (v0_newG : Int32) (v0_newL : Int32) (v0_newS : Int32) (c10 : (Nat → Int32)) : Option (Int32 × Int32 × Int32 × Int32 × (Nat → Int32)) :=
  nm (y5 + 1) fun x13 =>
  k74 y1 y2 y3 z0 x13 v0_newG v0_newL v0_newS c10
noncomputable def fX11_failCost_b74 (c1 : Nat → Int32) (c2 : Nat → Int32) (c3 : Nat → Int32) (c4 : Nat → Int32) (c5 : Nat → Int32) (c6 : Nat → Int32) (c7 : Nat → Int32) (c8 : Nat → Int32) (c9 : Nat → Int32) (c11 : Nat → Int32) (k74 : Int32 → Int32 → Int32 → Int32 → Int32 → Int32 → Int32 → Int32 → (Nat → Int32) → Option (Int32 × Int32 × Int32 × Int32 × (Nat → Int32))) (y1 : Int32) (y2 : Int32) (y3 : Int32) (y4 : Int32) (y5 : Int32) (v0_newG : Int32) (v0_newL : Int32) (v0_newS : Int32) (c10 : (Nat → Int32)) : Option (Int32 × Int32 × Int32 × Int32 × (Nat → Int32)) :=
  if 8 ≤ y5 then
    ob (fX11_sum 1 y4) fun o15 =>
    some (o15.1, (v0_newG, v0_newL, v0_newS, c10))
  else
    bd (inb y2 40) <|
    nm (c4 y2.toNatClampNeg) fun x17 =>
    bd (inb x17 6) <|
    nm (c5 x17.toNatClampNeg) fun x19 =>
    ob (fX11_toEnd y1 x19 0 y5 c6) fun o20 =>
    bd (inb y2 40) <|
    nm (c2 y2.toNatClampNeg) fun x22 =>
    ob (fX11_toFail y5 x22 y3 c3) fun o23 =>
    ob (fX11_sum o20.1 o23.1) fun o24 =>
    if y4 ≤ o24.1 then
      fX11_failCost_p132 c1 c2 c3 c4 c5 c6 c7 c8 c9 c11 k74 y1 y2 y3 y5 y4 v0_newG v0_newL v0_newS c10
    else
      fX11_failCost_p132 c1 c2 c3 c4 c5 c6 c7 c8 c9 c11 k74 y1 y2 y3 y5 o24.1 v0_newG v0_newL v0_newS c10
noncomputable def fX11_failCost_l74 (c1 : Nat → Int32) (c2 : Nat → Int32) (c3 : Nat → Int32) (c4 : Nat → Int32) (c5 : Nat → Int32) (c6 : Nat → Int32) (c7 : Nat → Int32) (c8 : Nat → Int32) (c9 : Nat → Int32) (c11 : Nat → Int32) : Nat → Int32 → Int32 → Int32 → Int32 → Int32 → Int32 → Int32 → Int32 → (Nat → Int32) → Option (Int32 × Int32 × Int32 × Int32 × (Nat → Int32))
  | 0 => fun _ _ _ _ _ _ _ _ _ => none
  | n + 1 => fX11_failCost_b74 c1 c2 c3 c4 c5 c6 c7 c8 c9 c11  (fX11_failCost_l74 c1 c2 c3 c4 c5 c6 c7 c8 c9 c11  n)
noncomputable def fX11_failCost (a0 : Int32) (a1 : Int32) (a2 : Int32) (v0_newG : Int32) (v0_newL : Int32) (v0_newS : Int32) (c1 : Nat → Int32) (c2 : Nat → Int32) (c3 : Nat → Int32) (c4 : Nat → Int32) (c5 : Nat → Int32) (c6 : Nat → Int32) (c7 : Nat → Int32) (c8 : Nat → Int32) (c9 : Nat → Int32) (c10 : Nat → Int32) (c11 : Nat → Int32) : Option (Int32 × Int32 × Int32 × Int32 × (Nat → Int32)) :=
  bd (inb a1 40) <|
  nm (c1 a1.toNatClampNeg) fun x27 =>
  if x27 = 6 then
    some (2000000, (v0_newG, v0_newL, v0_newS, c10))
  else
    bd (inb a1 40) <|
    nm (c1 a1.toNatClampNeg) fun x30 =>
    if x30 = 7 then
      bd (inb a1 40) <|
      nm (c2 a1.toNatClampNeg) fun x47 =>
      ob (fX11_toFail a0 x47 a2 c3) fun o48 =>
      ob (fX11_sum 1 o48.1) fun o49 =>
      some (o49.1, (v0_newG, v0_newL, v0_newS, c10))
    else
      bd (inb a1 40) <|
      nm (c1 a1.toNatClampNeg) fun x33 =>
      if x33 = 3 then
        bd (inb a1 40) <|
        nm (c4 a1.toNatClampNeg) fun x42 =>
        bd (inb x42 6) <|
        nm (c5 x42.toNatClampNeg) fun x44 =>
        ob (fX11_toFail a0 x44 0 c3) fun o45 =>
        fX11_failCost_l74 c1 c2 c3 c4 c5 c6 c7 c8 c9 c11 FU a0 a1 a2 o45.1 0 v0_newG v0_newL v0_newS c10
      else
        ob (fX11_can a1 a0 a2 c7 c8 c9 c10) fun o35 =>
        bd (inb a1 40) <|
        nm (c1 a1.toNatClampNeg) fun x37 =>
        if x37 = 4 then
          nm (o35.1 &&& 1) fun x39 =>
          if x39 = 1 then
            some (1, (v0_newG, v0_newL, v0_newS, o35.2))
          else
            fX11_failCost_p176 c1 c2 c3 c4 c5 c6 c7 c8 c9 c11 a0 a1 a2 o35.1 v0_newG v0_newL v0_newS o35.2
        else
          fX11_failCost_p176 c1 c2 c3 c4 c5 c6 c7 c8 c9 c11 a0 a1 a2 o35.1 v0_newG v0_newL v0_newS o35.2
noncomputable def fX11_solve_p294 (v0_statements : Int32) (c3 : Nat → Int32) (c4 : Nat → Int32) (c5 : Nat → Int32) (c6 : Nat → Int32) (c7 : Nat → Int32) (c8 : Nat → Int32) (c9 : Nat → Int32) (c11 : Nat → Int32) (k192 : Int32 → Int32 → Int32 → Int32 → (Nat → Int32) → (Nat → Int32) → (Nat → Int32) → Option (Int32 × Int32 × Int32 × (Nat → Int32) × (Nat → Int32) × (Nat → Int32))) (k205 : Int32 → Int32 → Int32 → Int32 → Int32 → (Nat → Int32) → (Nat → Int32) → (Nat → Int32) → Option (Int32 × Int32 × Int32 × (Nat → Int32) × (Nat → Int32) × (Nat → Int32))) (k211 : Int32 → Int32 → Int32 → Int32 → Int32 → Int32 → (Nat → Int32) → (Nat → Int32) → (Nat → Int32) → Option (Int32 × Int32 × Int32 × (Nat → Int32) × (Nat → Int32) × (Nat → Int32))) (y1 : Int32) (y2 : Int32) (y3 : Int32) (z0 : Int32) (z1 : Int32) (v0_newG : Int32) (v0_newL : Int32) (v0_newS : Int32) (c1 : (Nat → Int32)) (c2 : (Nat → Int32)) (c10 : (Nat → Int32)) : Option (Int32 × Int32 × Int32 × (Nat → Int32) × (Nat → Int32) × (Nat → Int32)) :=
  bd (inb z1 1280) <|
  nm (upd c2 z1.toNatClampNeg z0) fun c1x =>
  nm (y3 + 1) fun x2 =>
  k211 y1 y2 x2 v0_newG v0_newL v0_newS c1 c1x c10
noncomputable def fX11_solve_p263 (v0_statements : Int32) (c3 : Nat → Int32) (c4 : Nat → Int32) (c5 : Nat → Int32) (c6 : Nat → Int32) (c7 : Nat → Int32) (c8 : Nat → Int32) (c9 : Nat → Int32) (c11 : Nat → Int32) (k192 : Int32 → Int32 → Int32 → Int32 → (Nat → Int32) → (Nat → Int32) → (Nat → Int32) → Option (Int32 × Int32 × Int32 × (Nat → Int32) × (Nat → Int32) × (Nat → Int32))) (k205 : Int32 → Int32 → Int32 → Int32 → Int32 → (Nat → Int32) → (Nat → Int32) → (Nat → Int32) → Option (Int32 × Int32 × Int32 × (Nat → Int32) × (Nat → Int32) × (Nat → Int32))) (k211 : Int32 → Int32 → Int32 → Int32 → Int32 → Int32 → (Nat → Int32) → (Nat → Int32) → (Nat → Int32) → Option (Int32 × Int32 × Int32 × (Nat → Int32) × (Nat → Int32) × (Nat → Int32))) (y2 : Int32) (y3 : Int32) (y4 : Int32) (y5 : Int32) (z0 : Int32) (v0_newG : Int32) (v0_newL : Int32) (v0_newS : Int32) (c1 : (Nat → Int32)) (c2 : (Nat → Int32)) (c10 : (Nat → Int32)) : Option (Int32 × Int32 × Int32 × (Nat → Int32) × (Nat → Int32) × (Nat → Int32)) :=
  bd (inb y4 1280) <|
  nm (c2 y4.toNatClampNeg) fun x4 =>
  if x4 ≤ y5 then
    bd (inb y4 1280) <|
    nm (c2 y4.toNatClampNeg) fun x7 =>
    fX11_solve_p294 v0_statements c3 c4 c5 c6 c7 c8 c9 c11 k192 k205 k211 z0 y2 y3 x7 y4 v0_newG v0_newL v0_newS c1 c2 c10
  else
    fX11_solve_p294 v0_statements c3 c4 c5 c6 c7 c8 c9 c11 k192 k205 k211 z0 y2 y3 y5 y4 v0_newG v0_newL v0_newS c1 c2 c10
noncomputable def fX11_solve_p258 (v0_statements : Int32) (c3 : Nat → Int32) (c4 : Nat → Int32) (c5 : Nat → Int32) (c6 : Nat → Int32) (c7 : Nat → Int32) (c8 : Nat → Int32) (c9 : Nat → Int32) (c11 : Nat → Int32) (k192 : Int32 → Int32 → Int32 → Int32 → (Nat → Int32) → (Nat → Int32) → (Nat → Int32) → Option (Int32 × Int32 × Int32 × (Nat → Int32) × (Nat → Int32) × (Nat → Int32))) (k205 : Int32 → Int32 → Int32 → Int32 → Int32 → (Nat → Int32) → (Nat → Int32) → (Nat → Int32) → Option (Int32 × Int32 × Int32 × (Nat → Int32) × (Nat → Int32) × (Nat → Int32))) (k211 : Int32 → Int32 → Int32 → Int32 → Int32 → Int32 → (Nat → Int32) → (Nat → Int32) → (Nat → Int32) → Option (Int32 × Int32 × Int32 × (Nat → Int32) × (Nat → Int32) × (Nat → Int32))) (y2 : Int32) (y3 : Int32) (y4 : Int32) (y5 : Int32) (v0_newG : Int32) (v0_newL : Int32) (v0_newS : Int32) (c1 : (Nat → Int32)) (c2 : (Nat → Int32)) (c10 : (Nat → Int32)) : Option (Int32 × Int32 × Int32 × (Nat → Int32) × (Nat → Int32) × (Nat → Int32)) :=
  fX11_solve_p263 v0_statements c3 c4 c5 c6 c7 c8 c9 c11 k192 k205 k211 y2 y3 y4 y5 1 v0_newG v0_newL v0_newS c1 c2 c10
noncomputable def fX11_solve_b211 (v0_statements : Int32) (c3 : Nat → Int32) (c4 : Nat → Int32) (c5 : Nat → Int32) (c6 : Nat → Int32) (c7 : Nat → Int32) (c8 : Nat → Int32) (c9 : Nat → Int32) (c11 : Nat → Int32) (k192 : Int32 → Int32 → Int32 → Int32 → (Nat → Int32) → (Nat → Int32) → (Nat → Int32) → Option (Int32 × Int32 × Int32 × (Nat → Int32) × (Nat → Int32) × (Nat → Int32))) (k205 : Int32 → Int32 → Int32 → Int32 → Int32 → (Nat → Int32) → (Nat → Int32) → (Nat → Int32) → Option (Int32 × Int32 × Int32 × (Nat → Int32) × (Nat → Int32) × (Nat → Int32))) (k211 : Int32 → Int32 → Int32 → Int32 → Int32 → Int32 → (Nat → Int32) → (Nat → Int32) → (Nat → Int32) → Option (Int32 × Int32 × Int32 × (Nat → Int32) × (Nat → Int32) × (Nat → Int32))) (y1 : Int32) (y2 : Int32) (y3 : Int32) (v0_newG : Int32) (v0_newL : Int32) (v0_newS : Int32) (c1 : (Nat → Int32)) (c2 : (Nat → Int32)) (c10 : (Nat → Int32)) : Option (Int32 × Int32 × Int32 × (Nat → Int32) × (Nat → Int32) × (Nat → Int32)) :=
  if 32 ≤ y3 then
    nm (y2 + (-1)) fun x9 =>
    k205 y1 x9 v0_newG v0_newL v0_newS c1 c2 c10
  else
    nm (y3 >>> (2 &&& 31)) fun x10 =>
    nm (y3 &&& 3) fun x11 =>
    ob (fX11_at x10 y2 x11) fun o12 =>
    nm (y3 >>> (2 &&& 31)) fun x13 =>
    nm (y3 &&& 3) fun x14 =>
    ob (fX11_failCost x13 y2 x14 v0_newG v0_newL v0_newS c3 c4 c2 c5 c6 c1 c7 c8 c9 c10 c11) fun o15 =>
    if y1 = 0 then
      bd (inb o12.1 1280) <|
      nm (c2 o12.1.toNatClampNeg) fun x18 =>
      if x18 ≤ o15.1 then
        fX11_solve_p263 v0_statements c3 c4 c5 c6 c7 c8 c9 c11 k192 k205 k211 y2 y3 o12.1 o15.1 0 o15.2.1 o15.2.2.1 o15.2.2.2.1 c1 c2 o15.2.2.2.2
      else
        fX11_solve_p258 v0_statements c3 c4 c5 c6 c7 c8 c9 c11 k192 k205 k211 y2 y3 o12.1 o15.1 o15.2.1 o15.2.2.1 o15.2.2.2.1 c1 c2 o15.2.2.2.2
    else
      fX11_solve_p258 v0_statements c3 c4 c5 c6 c7 c8 c9 c11 k192 k205 k211 y2 y3 o12.1 o15.1 o15.2.1 o15.2.2.1 o15.2.2.2.1 c1 c2 o15.2.2.2.2
noncomputable def fX11_solve_l211 (v0_statements : Int32) (c3 : Nat → Int32) (c4 : Nat → Int32) (c5 : Nat → Int32) (c6 : Nat → Int32) (c7 : Nat → Int32) (c8 : Nat → Int32) (c9 : Nat → Int32) (c11 : Nat → Int32) (k192 : Int32 → Int32 → Int32 → Int32 → (Nat → Int32) → (Nat → Int32) → (Nat → Int32) → Option (Int32 × Int32 × Int32 × (Nat → Int32) × (Nat → Int32) × (Nat → Int32))) (k205 : Int32 → Int32 → Int32 → Int32 → Int32 → (Nat → Int32) → (Nat → Int32) → (Nat → Int32) → Option (Int32 × Int32 × Int32 × (Nat → Int32) × (Nat → Int32) × (Nat → Int32))) : Nat → Int32 → Int32 → Int32 → Int32 → Int32 → Int32 → (Nat → Int32) → (Nat → Int32) → (Nat → Int32) → Option (Int32 × Int32 × Int32 × (Nat → Int32) × (Nat → Int32) × (Nat → Int32))
  | 0 => fun _ _ _ _ _ _ _ _ _ => none
  | n + 1 => fX11_solve_b211 v0_statements c3 c4 c5 c6 c7 c8 c9 c11 k192 k205 (fX11_solve_l211 v0_statements c3 c4 c5 c6 c7 c8 c9 c11 k192 k205 n)
noncomputable def fX11_solve_b205 (v0_statements : Int32) (c3 : Nat → Int32) (c4 : Nat → Int32) (c5 : Nat → Int32) (c6 : Nat → Int32) (c7 : Nat → Int32) (c8 : Nat → Int32) (c9 : Nat → Int32) (c11 : Nat → Int32) (k192 : Int32 → Int32 → Int32 → Int32 → (Nat → Int32) → (Nat → Int32) → (Nat → Int32) → Option (Int32 × Int32 × Int32 × (Nat → Int32) × (Nat → Int32) × (Nat → Int32))) (k205 : Int32 → Int32 → Int32 → Int32 → Int32 → (Nat → Int32) → (Nat → Int32) → (Nat → Int32) → Option (Int32 × Int32 × Int32 × (Nat → Int32) × (Nat → Int32) × (Nat → Int32))) (y1 : Int32) (y2 : Int32) (v0_newG : Int32) (v0_newL : Int32) (v0_newS : Int32) (c1 : (Nat → Int32)) (c2 : (Nat → Int32)) (c10 : (Nat → Int32)) : Option (Int32 × Int32 × Int32 × (Nat → Int32) × (Nat → Int32) × (Nat → Int32)) :=
  if y2 < 0 then
    k192 y1 v0_newG v0_newL v0_newS c1 c2 c10
  else
    fX11_solve_l211 v0_statements c3 c4 c5 c6 c7 c8 c9 c11 k192 k205 FU y1 y2 0 v0_newG v0_newL v0_newS c1 c2 c10
noncomputable def fX11_solve_l205 (v0_statements : Int32) (c3 : Nat → Int32) (c4 : Nat → Int32) (c5 : Nat → Int32) (c6 : Nat → Int32) (c7 : Nat → Int32) (c8 : Nat → Int32) (c9 : Nat → Int32) (c11 : Nat → Int32) (k192 : Int32 → Int32 → Int32 → Int32 → (Nat → Int32) → (Nat → Int32) → (Nat → Int32) → Option (Int32 × Int32 × Int32 × (Nat → Int32) × (Nat → Int32) × (Nat → Int32))) : Nat → Int32 → Int32 → Int32 → Int32 → Int32 → (Nat → Int32) → (Nat → Int32) → (Nat → Int32) → Option (Int32 × Int32 × Int32 × (Nat → Int32) × (Nat → Int32) × (Nat → Int32))
  | 0 => fun _ _ _ _ _ _ _ _ => none
  | n + 1 => fX11_solve_b205 v0_statements c3 c4 c5 c6 c7 c8 c9 c11 k192 (fX11_solve_l205 v0_statements c3 c4 c5 c6 c7 c8 c9 c11 k192 n)
noncomputable def fX11_solve_b192 (v0_statements : Int32) (c3 : Nat → Int32) (c4 : Nat → Int32) (c5 : Nat → Int32) (c6 : Nat → Int32) (c7 : Nat → Int32) (c8 : Nat → Int32) (c9 : Nat → Int32) (c11 : Nat → Int32) (k192 : Int32 → Int32 → Int32 → Int32 → (Nat → Int32) → (Nat → Int32) → (Nat → Int32) → Option (Int32 × Int32 × Int32 × (Nat → Int32) × (Nat → Int32) × (Nat → Int32))) (y1 : Int32) (v0_newG : Int32) (v0_newL : Int32) (v0_newS : Int32) (c1 : (Nat → Int32)) (c2 : (Nat → Int32)) (c10 : (Nat → Int32)) : Option (Int32 × Int32 × Int32 × (Nat → Int32) × (Nat → Int32) × (Nat → Int32)) :=
  if y1 = 0 then
    some (v0_newG, v0_newL, v0_newS, c1, c2, c10)
  else
    nm (v0_statements - 1) fun x22 =>
    fX11_solve_l205 v0_statements c3 c4 c5 c6 c7 c8 c9 c11 k192 FU 0 x22 v0_newG v0_newL v0_newS c1 c2 c10
noncomputable def fX11_solve_l192 (v0_statements : Int32) (c3 : Nat → Int32) (c4 : Nat → Int32) (c5 : Nat → Int32) (c6 : Nat → Int32) (c7 : Nat → Int32) (c8 : Nat → Int32) (c9 : Nat → Int32) (c11 : Nat → Int32) : Nat → Int32 → Int32 → Int32 → Int32 → (Nat → Int32) → (Nat → Int32) → (Nat → Int32) → Option (Int32 × Int32 × Int32 × (Nat → Int32) × (Nat → Int32) × (Nat → Int32))
  | 0 => fun _ _ _ _ _ _ _ => none
  | n + 1 => fX11_solve_b192 v0_statements c3 c4 c5 c6 c7 c8 c9 c11  (fX11_solve_l192 v0_statements c3 c4 c5 c6 c7 c8 c9 c11  n)
noncomputable def fX11_solve_p168 (v0_statements : Int32) (c3 : Nat → Int32) (c4 : Nat → Int32) (c5 : Nat → Int32) (c6 : Nat → Int32) (c7 : Nat → Int32) (c8 : Nat → Int32) (c9 : Nat → Int32) (c11 : Nat → Int32) (k48 : Int32 → Int32 → Int32 → Int32 → (Nat → Int32) → (Nat → Int32) → (Nat → Int32) → Option (Int32 × Int32 × Int32 × (Nat → Int32) × (Nat → Int32) × (Nat → Int32))) (k61 : Int32 → Int32 → Int32 → Int32 → Int32 → (Nat → Int32) → (Nat → Int32) → (Nat → Int32) → Option (Int32 × Int32 × Int32 × (Nat → Int32) × (Nat → Int32) × (Nat → Int32))) (k67 : Int32 → Int32 → Int32 → Int32 → Int32 → Int32 → (Nat → Int32) → (Nat → Int32) → (Nat → Int32) → Option (Int32 × Int32 × Int32 × (Nat → Int32) × (Nat → Int32) × (Nat → Int32))) (k76 : Int32 → Int32 → Int32 → Int32 → Int32 → Int32 → Int32 → (Nat → Int32) → (Nat → Int32) → (Nat → Int32) → Option (Int32 × Int32 × Int32 × (Nat → Int32) × (Nat → Int32) × (Nat → Int32))) (y1 : Int32) (y2 : Int32) (y3 : Int32) (y4 : Int32) (z0 : Int32) (z1 : Int32) (v0_newG : Int32) (v0_newL : Int32) (v0_newS : Int32) (c1 : (Nat → Int32)) (c2 : (Nat → Int32)) (c10 : (Nat → Int32)) : Option (Int32 × Int32 × Int32 × (Nat → Int32) × (Nat → Int32) × (Nat → Int32)) :=
  bd (inb z1 10240) <|
  nm (upd c1 z1.toNatClampNeg z0) fun c23x =>
  nm (y4 + 1) fun x24 =>
  k76 y1 y2 y3 x24 v0_newG v0_newL v0_newS c23x c2 c10
noncomputable def fX11_solve_p137 (v0_statements : Int32) (c3 : Nat → Int32) (c4 : Nat → Int32) (c5 : Nat → Int32) (c6 : Nat → Int32) (c7 : Nat → Int32) (c8 : Nat → Int32) (c9 : Nat → Int32) (c11 : Nat → Int32) (k48 : Int32 → Int32 → Int32 → Int32 → (Nat → Int32) → (Nat → Int32) → (Nat → Int32) → Option (Int32 × Int32 × Int32 × (Nat → Int32) × (Nat → Int32) × (Nat → Int32))) (k61 : Int32 → Int32 → Int32 → Int32 → Int32 → (Nat → Int32) → (Nat → Int32) → (Nat → Int32) → Option (Int32 × Int32 × Int32 × (Nat → Int32) × (Nat → Int32) × (Nat → Int32))) (k67 : Int32 → Int32 → Int32 → Int32 → Int32 → Int32 → (Nat → Int32) → (Nat → Int32) → (Nat → Int32) → Option (Int32 × Int32 × Int32 × (Nat → Int32) × (Nat → Int32) × (Nat → Int32))) (k76 : Int32 → Int32 → Int32 → Int32 → Int32 → Int32 → Int32 → (Nat → Int32) → (Nat → Int32) → (Nat → Int32) → Option (Int32 × Int32 × Int32 × (Nat → Int32) × (Nat → Int32) × (Nat → Int32))) (y2 : Int32) (y3 : Int32) (y4 : Int32) (y5 : Int32) (y6 : Int32) (z0 : Int32) (v0_newG : Int32) (v0_newL : Int32) (v0_newS : Int32) (c1 : (Nat → Int32)) (c2 : (Nat → Int32)) (c10 : (Nat → Int32)) : Option (Int32 × Int32 × Int32 × (Nat → Int32) × (Nat → Int32) × (Nat → Int32)) :=
  bd (inb y5 10240) <|
  nm (c1 y5.toNatClampNeg) fun x26 =>
  if x26 ≤ y6 then
    bd (inb y5 10240) <|
    nm (c1 y5.toNatClampNeg) fun x29 =>
    fX11_solve_p168 v0_statements c3 c4 c5 c6 c7 c8 c9 c11 k48 k61 k67 k76 z0 y2 y3 y4 x29 y5 v0_newG v0_newL v0_newS c1 c2 c10
  else
    fX11_solve_p168 v0_statements c3 c4 c5 c6 c7 c8 c9 c11 k48 k61 k67 k76 z0 y2 y3 y4 y6 y5 v0_newG v0_newL v0_newS c1 c2 c10
noncomputable def fX11_solve_p132 (v0_statements : Int32) (c3 : Nat → Int32) (c4 : Nat → Int32) (c5 : Nat → Int32) (c6 : Nat → Int32) (c7 : Nat → Int32) (c8 : Nat → Int32) (c9 : Nat → Int32) (c11 : Nat → Int32) (k48 : Int32 → Int32 → Int32 → Int32 → (Nat → Int32) → (Nat → Int32) → (Nat → Int32) → Option (Int32 × Int32 × Int32 × (Nat → Int32) × (Nat → Int32) × (Nat → Int32))) (k61 : Int32 → Int32 → Int32 → Int32 → Int32 → (Nat → Int32) → (Nat → Int32) → (Nat → Int32) → Option (Int32 × Int32 × Int32 × (Nat → Int32) × (Nat → Int32) × (Nat → Int32))) (k67 : Int32 → Int32 → Int32 → Int32 → Int32 → Int32 → (Nat → Int32) → (Nat → Int32) → (Nat → Int32) → Option (Int32 × Int32 × Int32 × (Nat → Int32) × (Nat → Int32) × (Nat → Int32))) (k76 : Int32 → Int32 → Int32 → Int32 → Int32 → Int32 → Int32 → (Nat → Int32) → (Nat → Int32) → (Nat → Int32) → Option (Int32 × Int32 × Int32 × (Nat → Int32) × (Nat → Int32) × (Nat → Int32))) (y2 : Int32) (y3 : Int32) (y4 : Int32) (y5 : Int32) (y6 : Int32) (v0_newG : Int32) (v0_newL : Int32) (v0_newS : Int32) (c1 : (Nat → Int32)) (c2 : (Nat → Int32)) (c10 : (Nat → Int32)) : Option (Int32 × Int32 × Int32 × (Nat → Int32) × (Nat → Int32) × (Nat → Int32)) :=
  fX11_solve_p137 v0_statements c3 c4 c5 c6 c7 c8 c9 c11 k48 k61 k67 k76 y2 y3 y4 y5 y6 1 v0_newG v0_newL v0_newS c1 c2 c10
noncomputable def fX11_solve_b76 (v0_statements : Int32) (c3 : Nat → Int32) (c4 : Nat → Int32) (c5 : Nat → Int32) (c6 : Nat → Int32) (c7 : Nat → Int32) (c8 : Nat → Int32) (c9 : Nat → Int32) (c11 : Nat → Int32) (k48 : Int32 → Int32 → Int32 → Int32 → (Nat → Int32) → (Nat → Int32) → (Nat → Int32) → Option (Int32 × Int32 × Int32 × (Nat → Int32) × (Nat → Int32) × (Nat → Int32))) (k61 : Int32 → Int32 → Int32 → Int32 → Int32 → (Nat → Int32) → (Nat → Int32) → (Nat → Int32) → Option (Int32 × Int32 × Int32 × (Nat → Int32) × (Nat → Int32) × (Nat → Int32))) (k67 : Int32 → Int32 → Int32 → Int32 → Int32 → Int32 → (Nat → Int32) → (Nat → Int32) → (Nat → Int32) → Option (Int32 × Int32 × Int32 × (Nat → Int32) × (Nat → Int32) × (Nat → Int32))) (k76 : Int32 → Int32 → Int32 → Int32 → Int32 → Int32 → Int32 → (Nat → Int32) → (Nat → Int32) → (Nat → Int32) → Option (Int32 × Int32 × Int32 × (Nat → Int32) × (Nat → Int32) × (Nat → Int32))) (y1 : Int32) (y2 : Int32) (y3 : Int32) (y4 : Int32) (v0_newG : Int32) (v0_newL : Int32) (v0_newS : Int32) (c1 : (Nat → Int32)) (c2 : (Nat → Int32)) (c10 : (Nat → Int32)) : Option (Int32 × Int32 × Int32 × (Nat → Int32) × (Nat → Int32) × (Nat → Int32)) :=
  if 8 ≤ y4 then
    nm (y3 + 1) fun x31 =>
    k67 y1 y2 x31 v0_newG v0_newL v0_newS c1 c2 c10
  else
    nm (y3 >>> (2 &&& 31)) fun x32 =>
    nm (y3 &&& 3) fun x33 =>
    ob (fX11_at x32 y2 x33) fun o34 =>
    nm (8 * o34.1) fun x35 =>
    nm (x35 + y4) fun x36 =>
    nm (y3 >>> (2 &&& 31)) fun x37 =>
    nm (y3 &&& 3) fun x38 =>
    ob (fX11_endCost x37 y2 x38 y4 v0_newG v0_newL v0_newS c3 c4 c1 c5 c6 c7 c8 c9 c10 c11) fun o39 =>
    if y1 = 0 then
      bd (inb x36 10240) <|
      nm (c1 x36.toNatClampNeg) fun x42 =>
      if x42 ≤ o39.1 then
        fX11_solve_p137 v0_statements c3 c4 c5 c6 c7 c8 c9 c11 k48 k61 k67 k76 y2 y3 y4 x36 o39.1 0 o39.2.1 o39.2.2.1 o39.2.2.2.1 c1 c2 o39.2.2.2.2
      else
        fX11_solve_p132 v0_statements c3 c4 c5 c6 c7 c8 c9 c11 k48 k61 k67 k76 y2 y3 y4 x36 o39.1 o39.2.1 o39.2.2.1 o39.2.2.2.1 c1 c2 o39.2.2.2.2
    else
      fX11_solve_p132 v0_statements c3 c4 c5 c6 c7 c8 c9 c11 k48 k61 k67 k76 y2 y3 y4 x36 o39.1 o39.2.1 o39.2.2.1 o39.2.2.2.1 c1 c2 o39.2.2.2.2
noncomputable def fX11_solve_l76 (v0_statements : Int32) (c3 : Nat → Int32) (c4 : Nat → Int32) (c5 : Nat → Int32) (c6 : Nat → Int32) (c7 : Nat → Int32) (c8 : Nat → Int32) (c9 : Nat → Int32) (c11 : Nat → Int32) (k48 : Int32 → Int32 → Int32 → Int32 → (Nat → Int32) → (Nat → Int32) → (Nat → Int32) → Option (Int32 × Int32 × Int32 × (Nat → Int32) × (Nat → Int32) × (Nat → Int32))) (k61 : Int32 → Int32 → Int32 → Int32 → Int32 → (Nat → Int32) → (Nat → Int32) → (Nat → Int32) → Option (Int32 × Int32 × Int32 × (Nat → Int32) × (Nat → Int32) × (Nat → Int32))) (k67 : Int32 → Int32 → Int32 → Int32 → Int32 → Int32 → (Nat → Int32) → (Nat → Int32) → (Nat → Int32) → Option (Int32 × Int32 × Int32 × (Nat → Int32) × (Nat → Int32) × (Nat → Int32))) : Nat → Int32 → Int32 → Int32 → Int32 → Int32 → Int32 → Int32 → (Nat → Int32) → (Nat → Int32) → (Nat → Int32) → Option (Int32 × Int32 × Int32 × (Nat → Int32) × (Nat → Int32) × (Nat → Int32))
  | 0 => fun _ _ _ _ _ _ _ _ _ _ => none
  | n + 1 => fX11_solve_b76 v0_statements c3 c4 c5 c6 c7 c8 c9 c11 k48 k61 k67 (fX11_solve_l76 v0_statements c3 c4 c5 c6 c7 c8 c9 c11 k48 k61 k67 n)
noncomputable def fX11_solve_b67 (v0_statements : Int32) (c3 : Nat → Int32) (c4 : Nat → Int32) (c5 : Nat → Int32) (c6 : Nat → Int32) (c7 : Nat → Int32) (c8 : Nat → Int32) (c9 : Nat → Int32) (c11 : Nat → Int32) (k48 : Int32 → Int32 → Int32 → Int32 → (Nat → Int32) → (Nat → Int32) → (Nat → Int32) → Option (Int32 × Int32 × Int32 × (Nat → Int32) × (Nat → Int32) × (Nat → Int32))) (k61 : Int32 → Int32 → Int32 → Int32 → Int32 → (Nat → Int32) → (Nat → Int32) → (Nat → Int32) → Option (Int32 × Int32 × Int32 × (Nat → Int32) × (Nat → Int32) × (Nat → Int32))) (k67 : Int32 → Int32 → Int32 → Int32 → Int32 → Int32 → (Nat → Int32) → (Nat → Int32) → (Nat → Int32) → Option (Int32 × Int32 × Int32 × (Nat → Int32) × (Nat → Int32) × (Nat → Int32))) (y1 : Int32) (y2 : Int32) (y3 : Int32) (v0_newG : Int32) (v0_newL : Int32) (v0_newS : Int32) (c1 : (Nat → Int32)) (c2 : (Nat → Int32)) (c10 : (Nat → Int32)) : Option (Int32 × Int32 × Int32 × (Nat → Int32) × (Nat → Int32) × (Nat → Int32)) :=
  if 32 ≤ y3 then
    nm (y2 + (-1)) fun x45 =>
    k61 y1 x45 v0_newG v0_newL v0_newS c1 c2 c10
  else
    fX11_solve_l76 v0_statements c3 c4 c5 c6 c7 c8 c9 c11 k48 k61 k67 FU y1 y2 y3 0 v0_newG v0_newL v0_newS c1 c2 c10
noncomputable def fX11_solve_l67 (v0_statements : Int32) (c3 : Nat → Int32) (c4 : Nat → Int32) (c5 : Nat → Int32) (c6 : Nat → Int32) (c7 : Nat → Int32) (c8 : Nat → Int32) (c9 : Nat → Int32) (c11 : Nat → Int32) (k48 : Int32 → Int32 → Int32 → Int32 → (Nat → Int32) → (Nat → Int32) → (Nat → Int32) → Option (Int32 × Int32 × Int32 × (Nat → Int32) × (Nat → Int32) × (Nat → Int32))) (k61 : Int32 → Int32 → Int32 → Int32 → Int32 → (Nat → Int32) → (Nat → Int32) → (Nat → Int32) → Option (Int32 × Int32 × Int32 × (Nat → Int32) × (Nat → Int32) × (Nat → Int32))) : Nat → Int32 → Int32 → Int32 → Int32 → Int32 → Int32 → (Nat → Int32) → (Nat → Int32) → (Nat → Int32) → Option (Int32 × Int32 × Int32 × (Nat → Int32) × (Nat → Int32) × (Nat → Int32))
  | 0 => fun _ _ _ _ _ _ _ _ _ => none
  | n + 1 => fX11_solve_b67 v0_statements c3 c4 c5 c6 c7 c8 c9 c11 k48 k61 (fX11_solve_l67 v0_statements c3 c4 c5 c6 c7 c8 c9 c11 k48 k61 n)
noncomputable def fX11_solve_b61 (v0_statements : Int32) (c3 : Nat → Int32) (c4 : Nat → Int32) (c5 : Nat → Int32) (c6 : Nat → Int32) (c7 : Nat → Int32) (c8 : Nat → Int32) (c9 : Nat → Int32) (c11 : Nat → Int32) (k48 : Int32 → Int32 → Int32 → Int32 → (Nat → Int32) → (Nat → Int32) → (Nat → Int32) → Option (Int32 × Int32 × Int32 × (Nat → Int32) × (Nat → Int32) × (Nat → Int32))) (k61 : Int32 → Int32 → Int32 → Int32 → Int32 → (Nat → Int32) → (Nat → Int32) → (Nat → Int32) → Option (Int32 × Int32 × Int32 × (Nat → Int32) × (Nat → Int32) × (Nat → Int32))) (y1 : Int32) (y2 : Int32) (v0_newG : Int32) (v0_newL : Int32) (v0_newS : Int32) (c1 : (Nat → Int32)) (c2 : (Nat → Int32)) (c10 : (Nat → Int32)) : Option (Int32 × Int32 × Int32 × (Nat → Int32) × (Nat → Int32) × (Nat → Int32)) :=
  if y2 < 0 then
    k48 y1 v0_newG v0_newL v0_newS c1 c2 c10
  else
    fX11_solve_l67 v0_statements c3 c4 c5 c6 c7 c8 c9 c11 k48 k61 FU y1 y2 0 v0_newG v0_newL v0_newS c1 c2 c10
noncomputable def fX11_solve_l61 (v0_statements : Int32) (c3 : Nat → Int32) (c4 : Nat → Int32) (c5 : Nat → Int32) (c6 : Nat → Int32) (c7 : Nat → Int32) (c8 : Nat → Int32) (c9 : Nat → Int32) (c11 : Nat → Int32) (k48 : Int32 → Int32 → Int32 → Int32 → (Nat → Int32) → (Nat → Int32) → (Nat → Int32) → Option (Int32 × Int32 × Int32 × (Nat → Int32) × (Nat → Int32) × (Nat → Int32))) : Nat → Int32 → Int32 → Int32 → Int32 → Int32 → (Nat → Int32) → (Nat → Int32) → (Nat → Int32) → Option (Int32 × Int32 × Int32 × (Nat → Int32) × (Nat → Int32) × (Nat → Int32))
  | 0 => fun _ _ _ _ _ _ _ _ => none
  | n + 1 => fX11_solve_b61 v0_statements c3 c4 c5 c6 c7 c8 c9 c11 k48 (fX11_solve_l61 v0_statements c3 c4 c5 c6 c7 c8 c9 c11 k48 n)
noncomputable def fX11_solve_b48 (v0_statements : Int32) (c3 : Nat → Int32) (c4 : Nat → Int32) (c5 : Nat → Int32) (c6 : Nat → Int32) (c7 : Nat → Int32) (c8 : Nat → Int32) (c9 : Nat → Int32) (c11 : Nat → Int32) (k48 : Int32 → Int32 → Int32 → Int32 → (Nat → Int32) → (Nat → Int32) → (Nat → Int32) → Option (Int32 × Int32 × Int32 × (Nat → Int32) × (Nat → Int32) × (Nat → Int32))) (y1 : Int32) (v0_newG : Int32) (v0_newL : Int32) (v0_newS : Int32) (c1 : (Nat → Int32)) (c2 : (Nat → Int32)) (c10 : (Nat → Int32)) : Option (Int32 × Int32 × Int32 × (Nat → Int32) × (Nat → Int32) × (Nat → Int32)) :=
  if y1 = 0 then
    fX11_solve_l192 v0_statements c3 c4 c5 c6 c7 c8 c9 c11 FU 1 v0_newG v0_newL v0_newS c1 c2 c10
  else
    nm (v0_statements - 1) fun x48 =>
    fX11_solve_l61 v0_statements c3 c4 c5 c6 c7 c8 c9 c11 k48 FU 0 x48 v0_newG v0_newL v0_newS c1 c2 c10
noncomputable def fX11_solve_l48 (v0_statements : Int32) (c3 : Nat → Int32) (c4 : Nat → Int32) (c5 : Nat → Int32) (c6 : Nat → Int32) (c7 : Nat → Int32) (c8 : Nat → Int32) (c9 : Nat → Int32) (c11 : Nat → Int32) : Nat → Int32 → Int32 → Int32 → Int32 → (Nat → Int32) → (Nat → Int32) → (Nat → Int32) → Option (Int32 × Int32 × Int32 × (Nat → Int32) × (Nat → Int32) × (Nat → Int32))
  | 0 => fun _ _ _ _ _ _ _ => none
  | n + 1 => fX11_solve_b48 v0_statements c3 c4 c5 c6 c7 c8 c9 c11  (fX11_solve_l48 v0_statements c3 c4 c5 c6 c7 c8 c9 c11  n)
noncomputable def fX11_solve_b25 (v0_statements : Int32) (c3 : Nat → Int32) (c4 : Nat → Int32) (c5 : Nat → Int32) (c6 : Nat → Int32) (c7 : Nat → Int32) (c8 : Nat → Int32) (c9 : Nat → Int32) (c11 : Nat → Int32) (k25 : Int32 → Int32 → Int32 → Int32 → (Nat → Int32) → (Nat → Int32) → (Nat → Int32) → Option (Int32 × Int32 × Int32 × (Nat → Int32) × (Nat → Int32) × (Nat → Int32))) (y1 : Int32) (v0_newG : Int32) (v0_newL : Int32) (v0_newS : Int32) (c1 : (Nat → Int32)) (c2 : (Nat → Int32)) (c10 : (Nat → Int32)) : Option (Int32 × Int32 × Int32 × (Nat → Int32) × (Nat → Int32) × (Nat → Int32)) :=
  if 1280 ≤ y1 then
    fX11_solve_l48 v0_statements c3 c4 c5 c6 c7 c8 c9 c11 FU 1 v0_newG v0_newL v0_newS c1 c2 c10
  else
    bd (inb y1 1280) <|
    nm (upd c2 y1.toNatClampNeg 2000000) fun c50x =>
    nm (y1 + 1) fun x51 =>
    k25 x51 v0_newG v0_newL v0_newS c1 c50x c10
noncomputable def fX11_solve_l25 (v0_statements : Int32) (c3 : Nat → Int32) (c4 : Nat → Int32) (c5 : Nat → Int32) (c6 : Nat → Int32) (c7 : Nat → Int32) (c8 : Nat → Int32) (c9 : Nat → Int32) (c11 : Nat → Int32) : Nat → Int32 → Int32 → Int32 → Int32 → (Nat → Int32) → (Nat → Int32) → (Nat → Int32) → Option (Int32 × Int32 × Int32 × (Nat → Int32) × (Nat → Int32) × (Nat → Int32))
  | 0 => fun _ _ _ _ _ _ _ => none
  | n + 1 => fX11_solve_b25 v0_statements c3 c4 c5 c6 c7 c8 c9 c11  (fX11_solve_l25 v0_statements c3 c4 c5 c6 c7 c8 c9 c11  n)
noncomputable def fX11_solve_b2 (v0_statements : Int32) (c3 : Nat → Int32) (c4 : Nat → Int32) (c5 : Nat → Int32) (c6 : Nat → Int32) (c7 : Nat → Int32) (c8 : Nat → Int32) (c9 : Nat → Int32) (c11 : Nat → Int32) (k2 : Int32 → Int32 → Int32 → Int32 → (Nat → Int32) → (Nat → Int32) → (Nat → Int32) → Option (Int32 × Int32 × Int32 × (Nat → Int32) × (Nat → Int32) × (Nat → Int32))) (y1 : Int32) (v0_newG : Int32) (v0_newL : Int32) (v0_newS : Int32) (c1 : (Nat → Int32)) (c2 : (Nat → Int32)) (c10 : (Nat → Int32)) : Option (Int32 × Int32 × Int32 × (Nat → Int32) × (Nat → Int32) × (Nat → Int32)) :=
  if 10240 ≤ y1 then
    fX11_solve_l25 v0_statements c3 c4 c5 c6 c7 c8 c9 c11 FU 0 v0_newG v0_newL v0_newS c1 c2 c10
  else
    bd (inb y1 10240) <|
    nm (upd c1 y1.toNatClampNeg 2000000) fun c53x =>
    nm (y1 + 1) fun x54 =>
    k2 x54 v0_newG v0_newL v0_newS c53x c2 c10
noncomputable def fX11_solve_l2 (v0_statements : Int32) (c3 : Nat → Int32) (c4 : Nat → Int32) (c5 : Nat → Int32) (c6 : Nat → Int32) (c7 : Nat → Int32) (c8 : Nat → Int32) (c9 : Nat → Int32) (c11 : Nat → Int32) : Nat → Int32 → Int32 → Int32 → Int32 → (Nat → Int32) → (Nat → Int32) → (Nat → Int32) → Option (Int32 × Int32 × Int32 × (Nat → Int32) × (Nat → Int32) × (Nat → Int32))
  | 0 => fun _ _ _ _ _ _ _ => none
  | n + 1 => fX11_solve_b2 v0_statements c3 c4 c5 c6 c7 c8 c9 c11  (fX11_solve_l2 v0_statements c3 c4 c5 c6 c7 c8 c9 c11  n)
noncomputable def fX11_solve (v0_statements : Int32) (v0_newG : Int32) (v0_newL : Int32) (v0_newS : Int32) (c1 : Nat → Int32) (c2 : Nat → Int32) (c3 : Nat → Int32) (c4 : Nat → Int32) (c5 : Nat → Int32) (c6 : Nat → Int32) (c7 : Nat → Int32) (c8 : Nat → Int32) (c9 : Nat → Int32) (c10 : Nat → Int32) (c11 : Nat → Int32) : Option (Int32 × Int32 × Int32 × (Nat → Int32) × (Nat → Int32) × (Nat → Int32)) :=
  fX11_solve_l2 v0_statements c3 c4 c5 c6 c7 c8 c9 c11 FU 0 v0_newG v0_newL v0_newS c1 c2 c10
noncomputable def fX11_costOf_p125 (v0_calls : Int32) (c1 : Nat → Int32) (c2 : Nat → Int32) (c3 : Nat → Int32) (y4 : Int32) : Option (Int32 × Unit) :=
  some (y4, ())
noncomputable def fX11_costOf_p117 (v0_calls : Int32) (c1 : Nat → Int32) (c2 : Nat → Int32) (c3 : Nat → Int32) (k50 : Int32 → Int32 → Int32 → Int32 → Int32 → Option (Int32 × Unit)) (y1 : Int32) (y2 : Int32) (y3 : Int32) (y5 : Int32) (z0 : Int32) : Option (Int32 × Unit) :=
  nm (y5 + 1) fun x1 =>
  k50 y1 y2 y3 z0 x1
noncomputable def fX11_costOf_b50 (v0_calls : Int32) (c1 : Nat → Int32) (c2 : Nat → Int32) (c3 : Nat → Int32) (k50 : Int32 → Int32 → Int32 → Int32 → Int32 → Option (Int32 × Unit)) (y1 : Int32) (y2 : Int32) (y3 : Int32) (y4 : Int32) (y5 : Int32) : Option (Int32 × Unit) :=
  if 8 ≤ y5 then
    fX11_costOf_p125 v0_calls c1 c2 c3 y4
  else
    if v0_calls ≤ 0 then
      fX11_costOf_p125 v0_calls c1 c2 c3 y4
    else
      ob (fX11_at y1 y2 y3) fun o4 =>
      nm (8 * o4.1) fun x5 =>
      nm (x5 + y5) fun x6 =>
      bd (inb x6 10240) <|
      nm (c3 x6.toNatClampNeg) fun x8 =>
      nm (v0_calls - 1) fun x9 =>
      nm (8 * x9) fun x10 =>
      nm (x10 + y5) fun x11 =>
      bd (inb x11 16016) <|
      nm (c1 x11.toNatClampNeg) fun x13 =>
      ob (fX11_sum x8 x13) fun o14 =>
      if y4 ≤ o14.1 then
        fX11_costOf_p117 v0_calls c1 c2 c3 k50 y1 y2 y3 y5 y4
      else
        fX11_costOf_p117 v0_calls c1 c2 c3 k50 y1 y2 y3 y5 o14.1
noncomputable def fX11_costOf_l50 (v0_calls : Int32) (c1 : Nat → Int32) (c2 : Nat → Int32) (c3 : Nat → Int32) : Nat → Int32 → Int32 → Int32 → Int32 → Int32 → Option (Int32 × Unit)
  | 0 => fun _ _ _ _ _ => none
  | n + 1 => fX11_costOf_b50 v0_calls c1 c2 c3  (fX11_costOf_l50 v0_calls c1 c2 c3  n)
noncomputable def fX11_costOf_p33 (v0_calls : Int32) (c1 : Nat → Int32) (c2 : Nat → Int32) (c3 : Nat → Int32) (z0 : Int32) : Option (Int32 × Unit) :=
  some (z0, ())
noncomputable def fX11_costOf (a0 : Int32) (a1 : Int32) (a2 : Int32) (v0_calls : Int32) (c1 : Nat → Int32) (c2 : Nat → Int32) (c3 : Nat → Int32) : Option (Int32 × Unit) :=
  if a1 = (-1) then
    if v0_calls = 0 then
      fX11_costOf_p33 v0_calls c1 c2 c3 2000000
    else
      nm (v0_calls - 1) fun x21 =>
      nm (8 * x21) fun x22 =>
      nm (x22 + a0) fun x23 =>
      bd (inb x23 16016) <|
      nm (c1 x23.toNatClampNeg) fun x25 =>
      fX11_costOf_p33 v0_calls c1 c2 c3 x25
  else
    ob (fX11_at a0 a1 a2) fun o17 =>
    bd (inb o17.1 1280) <|
    nm (c2 o17.1.toNatClampNeg) fun x19 =>
    fX11_costOf_l50 v0_calls c1 c2 c3 FU a0 a1 a2 x19 0
noncomputable def fX11_chooses_p35 (c1 : Nat → Int32) (z0 : Int32) : Option (Int32 × Unit) :=
  bd (bz z0) <|
  some (z0, ())
noncomputable def fX11_chooses_p30 (c1 : Nat → Int32)  : Option (Int32 × Unit) :=
  fX11_chooses_p35 c1 1
noncomputable def fX11_chooses (a0 : Int32) (c1 : Nat → Int32) : Option (Int32 × Unit) :=
  bd (inb a0 40) <|
  nm (c1 a0.toNatClampNeg) fun x3 =>
  if x3 < 3 then
    fX11_chooses_p30 c1 
  else
    bd (inb a0 40) <|
    nm (c1 a0.toNatClampNeg) fun x6 =>
    if x6 = 4 then
      fX11_chooses_p30 c1 
    else
      bd (inb a0 40) <|
      nm (c1 a0.toNatClampNeg) fun x9 =>
      if x9 = 5 then
        fX11_chooses_p30 c1 
      else
        fX11_chooses_p35 c1 0
noncomputable def fX11_takes_p88 (v0_calls : Int32) (c1 : Nat → Int32) (c2 : Nat → Int32) (c3 : Nat → Int32) (c5 : Nat → Int32) (c6 : Nat → Int32) (c7 : Nat → Int32) (c8 : Nat → Int32) (c9 : Nat → Int32) (c10 : Nat → Int32) (c11 : Nat → Int32) (z0 : Int32) (v0_newG : Int32) (v0_newL : Int32) (v0_newS : Int32) (c4 : (Nat → Int32)) : Option (Int32 × Int32 × Int32 × Int32 × (Nat → Int32)) :=
  some (z0, (v0_newG, v0_newL, v0_newS, c4))
noncomputable def fX11_takes_p39 (v0_calls : Int32) (c1 : Nat → Int32) (c2 : Nat → Int32) (c3 : Nat → Int32) (c5 : Nat → Int32) (c6 : Nat → Int32) (c7 : Nat → Int32) (c8 : Nat → Int32) (c9 : Nat → Int32) (c10 : Nat → Int32) (c11 : Nat → Int32) (z0 : Int32) (v0_newG : Int32) (v0_newL : Int32) (v0_newS : Int32) (c4 : (Nat → Int32)) : Option (Int32 × Int32 × Int32 × Int32 × (Nat → Int32)) :=
  some (z0, (v0_newG, v0_newL, v0_newS, c4))
noncomputable def fX11_takes (a0 : Int32) (a1 : Int32) (a2 : Int32) (a3 : Int32) (v0_newG : Int32) (v0_newL : Int32) (v0_newS : Int32) (v0_calls : Int32) (c1 : Nat → Int32) (c2 : Nat → Int32) (c3 : Nat → Int32) (c4 : Nat → Int32) (c5 : Nat → Int32) (c6 : Nat → Int32) (c7 : Nat → Int32) (c8 : Nat → Int32) (c9 : Nat → Int32) (c10 : Nat → Int32) (c11 : Nat → Int32) : Option (Int32 × Int32 × Int32 × Int32 × (Nat → Int32)) :=
  ob (fX11_can a0 a1 a2 c1 c2 c3 c4) fun o1 =>
  nm (o1.1 &&& 1) fun x2 =>
  if x2 = 0 then
    some (1, (v0_newG, v0_newL, v0_newS, o1.2))
  else
    bd (inb a0 40) <|
    nm (c5 a0.toNatClampNeg) fun x5 =>
    if x5 = 4 then
      if a3 = 1 then
        fX11_takes_p39 v0_calls c1 c2 c3 c5 c6 c7 c8 c9 c10 c11 0 v0_newG v0_newL v0_newS o1.2
      else
        fX11_takes_p39 v0_calls c1 c2 c3 c5 c6 c7 c8 c9 c10 c11 1 v0_newG v0_newL v0_newS o1.2
    else
      bd (inb a0 40) <|
      nm (c5 a0.toNatClampNeg) fun x8 =>
      if x8 = 5 then
        some (1, (v0_newG, v0_newL, v0_newS, o1.2))
      else
        ob (fX11_go a0 a1 a2 0 v0_newG v0_newL v0_newS c6 c5 c7 c8) fun o10 =>
        ob (fX11_costOf o10.1 o10.2.2 o10.2.1 v0_calls c9 c10 c11) fun o11 =>
        nm (a3 - 1) fun x12 =>
        if o11.1 = x12 then
          fX11_takes_p88 v0_calls c1 c2 c3 c5 c6 c7 c8 c9 c10 c11 0 o10.1 o10.2.1 o10.2.2 o1.2
        else
          fX11_takes_p88 v0_calls c1 c2 c3 c5 c6 c7 c8 c9 c10 c11 1 o10.1 o10.2.1 o10.2.2 o1.2
noncomputable def fX11_follow_p360 (c1 : Nat → Int32) (c3 : Nat → Int32) (c4 : Nat → Int32) (c6 : Nat → Int32) (c7 : Nat → Int32) (c10 : Nat → Int32) (c11 : Nat → Int32) (c12 : Nat → Int32) (c13 : Nat → Int32) (c15 : Nat → Int32) (k25 : Int32 → Int32 → Int32 → Int32 → Int32 → Int32 → Int32 → Int32 → Int32 → Int32 → (Nat → Int32) → (Nat → Int32) → (Nat → Int32) → (Nat → Int32) → (Nat → Int32) → Option (Int32 × Int32 × Int32 × Int32 × Int32 × (Nat → Int32) × (Nat → Int32) × (Nat → Int32) × (Nat → Int32) × (Nat → Int32))) (y1 : Int32) (y2 : Int32) (y3 : Int32) (y4 : Int32) (y5 : Int32) (v0_newG : Int32) (v0_newL : Int32) (v0_newS : Int32) (v0_traceLong : Int32) (v0_calls : Int32) (c2 : (Nat → Int32)) (c5 : (Nat → Int32)) (c8 : (Nat → Int32)) (c9 : (Nat → Int32)) (c14 : (Nat → Int32)) : Option (Int32 × Int32 × Int32 × Int32 × Int32 × (Nat → Int32) × (Nat → Int32) × (Nat → Int32) × (Nat → Int32) × (Nat → Int32)) :=
  nm (y5 + 1) fun x1 =>
  k25 y1 y2 y3 y4 x1 v0_newG v0_newL v0_newS v0_traceLong v0_calls c2 c5 c8 c9 c14
noncomputable def fX11_follow_b314 (c1 : Nat → Int32) (c3 : Nat → Int32) (c4 : Nat → Int32) (c6 : Nat → Int32) (c7 : Nat → Int32) (c10 : Nat → Int32) (c11 : Nat → Int32) (c12 : Nat → Int32) (c13 : Nat → Int32) (c15 : Nat → Int32) (k25 : Int32 → Int32 → Int32 → Int32 → Int32 → Int32 → Int32 → Int32 → Int32 → Int32 → (Nat → Int32) → (Nat → Int32) → (Nat → Int32) → (Nat → Int32) → (Nat → Int32) → Option (Int32 × Int32 × Int32 × Int32 × Int32 × (Nat → Int32) × (Nat → Int32) × (Nat → Int32) × (Nat → Int32) × (Nat → Int32))) (k314 : Int32 → Int32 → Int32 → Int32 → Int32 → Int32 → Int32 → Int32 → Int32 → Int32 → (Nat → Int32) → (Nat → Int32) → (Nat → Int32) → (Nat → Int32) → (Nat → Int32) → Option (Int32 × Int32 × Int32 × Int32 × Int32 × (Nat → Int32) × (Nat → Int32) × (Nat → Int32) × (Nat → Int32) × (Nat → Int32))) (y1 : Int32) (y2 : Int32) (y3 : Int32) (y4 : Int32) (y5 : Int32) (v0_newG : Int32) (v0_newL : Int32) (v0_newS : Int32) (v0_traceLong : Int32) (v0_calls : Int32) (c2 : (Nat → Int32)) (c5 : (Nat → Int32)) (c8 : (Nat → Int32)) (c9 : (Nat → Int32)) (c14 : (Nat → Int32)) : Option (Int32 × Int32 × Int32 × Int32 × Int32 × (Nat → Int32) × (Nat → Int32) × (Nat → Int32) × (Nat → Int32) × (Nat → Int32)) :=
  if y2 = (-1) then
    if v0_calls ≤ 0 then
      fX11_follow_p360 c1 c3 c4 c6 c7 c10 c11 c12 c13 c15 k25 y1 y2 y3 y4 y5 v0_newG v0_newL v0_newS v0_traceLong v0_calls c2 c5 c8 c9 c14
    else
      nm (v0_calls - 1) fun x4 =>
      bd (inb x4 2002) <|
      nm (c8 x4.toNatClampNeg) fun x6 =>
      bd (inb x4 2002) <|
      nm (c9 x4.toNatClampNeg) fun x8 =>
      k314 y1 x6 y3 x8 y5 v0_newG v0_newL v0_newS v0_traceLong x4 c2 c5 c8 c9 c14
  else
    fX11_follow_p360 c1 c3 c4 c6 c7 c10 c11 c12 c13 c15 k25 y1 y2 y3 y4 y5 v0_newG v0_newL v0_newS v0_traceLong v0_calls c2 c5 c8 c9 c14
noncomputable def fX11_follow_l314 (c1 : Nat → Int32) (c3 : Nat → Int32) (c4 : Nat → Int32) (c6 : Nat → Int32) (c7 : Nat → Int32) (c10 : Nat → Int32) (c11 : Nat → Int32) (c12 : Nat → Int32) (c13 : Nat → Int32) (c15 : Nat → Int32) (k25 : Int32 → Int32 → Int32 → Int32 → Int32 → Int32 → Int32 → Int32 → Int32 → Int32 → (Nat → Int32) → (Nat → Int32) → (Nat → Int32) → (Nat → Int32) → (Nat → Int32) → Option (Int32 × Int32 × Int32 × Int32 × Int32 × (Nat → Int32) × (Nat → Int32) × (Nat → Int32) × (Nat → Int32) × (Nat → Int32))) : Nat → Int32 → Int32 → Int32 → Int32 → Int32 → Int32 → Int32 → Int32 → Int32 → Int32 → (Nat → Int32) → (Nat → Int32) → (Nat → Int32) → (Nat → Int32) → (Nat → Int32) → Option (Int32 × Int32 × Int32 × Int32 × Int32 × (Nat → Int32) × (Nat → Int32) × (Nat → Int32) × (Nat → Int32) × (Nat → Int32))
  | 0 => fun _ _ _ _ _ _ _ _ _ _ _ _ _ _ _ => none
  | n + 1 => fX11_follow_b314 c1 c3 c4 c6 c7 c10 c11 c12 c13 c15 k25 (fX11_follow_l314 c1 c3 c4 c6 c7 c10 c11 c12 c13 c15 k25 n)
noncomputable def fX11_follow_p298 (c1 : Nat → Int32) (c3 : Nat → Int32) (c4 : Nat → Int32) (c6 : Nat → Int32) (c7 : Nat → Int32) (c10 : Nat → Int32) (c11 : Nat → Int32) (c12 : Nat → Int32) (c13 : Nat → Int32) (c15 : Nat → Int32) (k25 : Int32 → Int32 → Int32 → Int32 → Int32 → Int32 → Int32 → Int32 → Int32 → Int32 → (Nat → Int32) → (Nat → Int32) → (Nat → Int32) → (Nat → Int32) → (Nat → Int32) → Option (Int32 × Int32 × Int32 × Int32 × Int32 × (Nat → Int32) × (Nat → Int32) × (Nat → Int32) × (Nat → Int32) × (Nat → Int32))) (y1 : Int32) (y5 : Int32) (v0_newG : Int32) (v0_newL : Int32) (v0_newS : Int32) (v0_traceLong : Int32) (v0_calls : Int32) (c2 : (Nat → Int32)) (c5 : (Nat → Int32)) (c8 : (Nat → Int32)) (c9 : (Nat → Int32)) (c14 : (Nat → Int32)) : Option (Int32 × Int32 × Int32 × Int32 × Int32 × (Nat → Int32) × (Nat → Int32) × (Nat → Int32) × (Nat → Int32) × (Nat → Int32)) :=
  fX11_follow_l314 c1 c3 c4 c6 c7 c10 c11 c12 c13 c15 k25 FU y1 v0_newS v0_newG v0_newL y5 v0_newG v0_newL v0_newS v0_traceLong v0_calls c2 c5 c8 c9 c14
noncomputable def fX11_follow_b135 (c1 : Nat → Int32) (c3 : Nat → Int32) (c4 : Nat → Int32) (c6 : Nat → Int32) (c7 : Nat → Int32) (c10 : Nat → Int32) (c11 : Nat → Int32) (c12 : Nat → Int32) (c13 : Nat → Int32) (c15 : Nat → Int32) (k25 : Int32 → Int32 → Int32 → Int32 → Int32 → Int32 → Int32 → Int32 → Int32 → Int32 → (Nat → Int32) → (Nat → Int32) → (Nat → Int32) → (Nat → Int32) → (Nat → Int32) → Option (Int32 × Int32 × Int32 × Int32 × Int32 × (Nat → Int32) × (Nat → Int32) × (Nat → Int32) × (Nat → Int32) × (Nat → Int32))) (k135 : Int32 → Int32 → Int32 → Int32 → Int32 → Int32 → Int32 → Int32 → Int32 → Int32 → (Nat → Int32) → (Nat → Int32) → (Nat → Int32) → (Nat → Int32) → (Nat → Int32) → Option (Int32 × Int32 × Int32 × Int32 × Int32 × (Nat → Int32) × (Nat → Int32) × (Nat → Int32) × (Nat → Int32) × (Nat → Int32))) (y1 : Int32) (y2 : Int32) (y4 : Int32) (y5 : Int32) (y7 : Int32) (v0_newG : Int32) (v0_newL : Int32) (v0_newS : Int32) (v0_traceLong : Int32) (v0_calls : Int32) (c2 : (Nat → Int32)) (c5 : (Nat → Int32)) (c8 : (Nat → Int32)) (c9 : (Nat → Int32)) (c14 : (Nat → Int32)) : Option (Int32 × Int32 × Int32 × Int32 × Int32 × (Nat → Int32) × (Nat → Int32) × (Nat → Int32) × (Nat → Int32) × (Nat → Int32)) :=
  if 8 ≤ y7 then
    bd (inb y2 40) <|
    nm (c3 y2.toNatClampNeg) fun x11 =>
    bd (inb v0_calls 2002) <|
    nm (upd c8 v0_calls.toNatClampNeg x11) fun c12x =>
    bd (inb v0_calls 2002) <|
    nm (upd c9 v0_calls.toNatClampNeg y4) fun c13x =>
    nm (v0_calls + 1) fun x14 =>
    bd (inb y2 40) <|
    nm (c10 y2.toNatClampNeg) fun x16 =>
    bd (inb x16 6) <|
    nm (c1 x16.toNatClampNeg) fun x18 =>
    fX11_follow_p298 c1 c3 c4 c6 c7 c10 c11 c12 c13 c15 k25 y1 y5 v0_newG 0 x18 v0_traceLong x14 c2 c5 c12x c13x c14
  else
    nm (8 * v0_calls) fun x19 =>
    nm (x19 + y7) fun x20 =>
    bd (inb y2 40) <|
    nm (c3 y2.toNatClampNeg) fun x22 =>
    ob (fX11_costOf y7 x22 y4 v0_calls c5 c6 c7) fun o23 =>
    bd (inb x20 16016) <|
    nm (upd c5 x20.toNatClampNeg o23.1) fun c24x =>
    nm (y7 + 1) fun x25 =>
    k135 y1 y2 y4 y5 x25 v0_newG v0_newL v0_newS v0_traceLong v0_calls c2 c24x c8 c9 c14
noncomputable def fX11_follow_l135 (c1 : Nat → Int32) (c3 : Nat → Int32) (c4 : Nat → Int32) (c6 : Nat → Int32) (c7 : Nat → Int32) (c10 : Nat → Int32) (c11 : Nat → Int32) (c12 : Nat → Int32) (c13 : Nat → Int32) (c15 : Nat → Int32) (k25 : Int32 → Int32 → Int32 → Int32 → Int32 → Int32 → Int32 → Int32 → Int32 → Int32 → (Nat → Int32) → (Nat → Int32) → (Nat → Int32) → (Nat → Int32) → (Nat → Int32) → Option (Int32 × Int32 × Int32 × Int32 × Int32 × (Nat → Int32) × (Nat → Int32) × (Nat → Int32) × (Nat → Int32) × (Nat → Int32))) : Nat → Int32 → Int32 → Int32 → Int32 → Int32 → Int32 → Int32 → Int32 → Int32 → Int32 → (Nat → Int32) → (Nat → Int32) → (Nat → Int32) → (Nat → Int32) → (Nat → Int32) → Option (Int32 × Int32 × Int32 × Int32 × Int32 × (Nat → Int32) × (Nat → Int32) × (Nat → Int32) × (Nat → Int32) × (Nat → Int32))
  | 0 => fun _ _ _ _ _ _ _ _ _ _ _ _ _ _ _ => none
  | n + 1 => fX11_follow_b135 c1 c3 c4 c6 c7 c10 c11 c12 c13 c15 k25 (fX11_follow_l135 c1 c3 c4 c6 c7 c10 c11 c12 c13 c15 k25 n)
noncomputable def fX11_follow_b25 (c1 : Nat → Int32) (c3 : Nat → Int32) (c4 : Nat → Int32) (c6 : Nat → Int32) (c7 : Nat → Int32) (c10 : Nat → Int32) (c11 : Nat → Int32) (c12 : Nat → Int32) (c13 : Nat → Int32) (c15 : Nat → Int32) (k25 : Int32 → Int32 → Int32 → Int32 → Int32 → Int32 → Int32 → Int32 → Int32 → Int32 → (Nat → Int32) → (Nat → Int32) → (Nat → Int32) → (Nat → Int32) → (Nat → Int32) → Option (Int32 × Int32 × Int32 × Int32 × Int32 × (Nat → Int32) × (Nat → Int32) × (Nat → Int32) × (Nat → Int32) × (Nat → Int32))) (y1 : Int32) (y2 : Int32) (y3 : Int32) (y4 : Int32) (y5 : Int32) (v0_newG : Int32) (v0_newL : Int32) (v0_newS : Int32) (v0_traceLong : Int32) (v0_calls : Int32) (c2 : (Nat → Int32)) (c5 : (Nat → Int32)) (c8 : (Nat → Int32)) (c9 : (Nat → Int32)) (c14 : (Nat → Int32)) : Option (Int32 × Int32 × Int32 × Int32 × Int32 × (Nat → Int32) × (Nat → Int32) × (Nat → Int32) × (Nat → Int32) × (Nat → Int32)) :=
  if y1 ≤ y5 then
    some (v0_newG, v0_newL, v0_newS, v0_traceLong, v0_calls, c2, c5, c8, c9, c14)
  else
    nm (y1 - y5) fun x27 =>
    nm (5 * y5) fun x28 =>
    bd (inb x28 10000) <|
    nm (upd c2 x28.toNatClampNeg y2) fun c29x =>
    nm (5 * y5) fun x30 =>
    nm (x30 + 1) fun x31 =>
    nm (v0_calls + 1) fun x32 =>
    bd (inb x31 10000) <|
    nm (upd c29x x31.toNatClampNeg x32) fun c33x =>
    nm (5 * y5) fun x34 =>
    nm (x34 + 2) fun x35 =>
    bd (inb x35 10000) <|
    nm (upd c33x x35.toNatClampNeg y3) fun c36x =>
    nm (5 * y5) fun x37 =>
    nm (x37 + 3) fun x38 =>
    bd (inb x38 10000) <|
    nm (upd c36x x38.toNatClampNeg y4) fun c39x =>
    nm (5 * y5) fun x40 =>
    nm (x40 + 4) fun x41 =>
    bd (inb x41 10000) <|
    nm (upd c39x x41.toNatClampNeg (-1)) fun c42x =>
    bd (inb y2 40) <|
    nm (c3 y2.toNatClampNeg) fun x44 =>
    bd (inb y2 40) <|
    nm (c4 y2.toNatClampNeg) fun x46 =>
    if x46 = 3 then
      fX11_follow_l135 c1 c3 c4 c6 c7 c10 c11 c12 c13 c15 k25 FU y1 y2 y4 y5 0 y3 y4 x44 v0_traceLong v0_calls c42x c5 c8 c9 c14
    else
      bd (inb y2 40) <|
      nm (c4 y2.toNatClampNeg) fun x49 =>
      if x49 = 6 then
        fX11_follow_p298 c1 c3 c4 c6 c7 c10 c11 c12 c13 c15 k25 y1 y5 y3 y4 (-1) v0_traceLong v0_calls c42x c5 c8 c9 c14
      else
        ob (fX11_chooses y2 c4) fun o51 =>
        if o51.1 = 0 then
          fX11_follow_p298 c1 c3 c4 c6 c7 c10 c11 c12 c13 c15 k25 y1 y5 y3 y4 x44 v0_traceLong v0_calls c42x c5 c8 c9 c14
        else
          ob (fX11_takes y2 y3 y4 x27 y3 y4 x44 v0_calls c11 c12 c13 c14 c4 c3 c10 c15 c5 c6 c7) fun o53 =>
          nm (5 * y5) fun x54 =>
          nm (x54 + 4) fun x55 =>
          bd (inb x55 10000) <|
          nm (upd c42x x55.toNatClampNeg o53.1) fun c56x =>
          ob (fX11_go y2 y3 y4 o53.1 o53.2.1 o53.2.2.1 o53.2.2.2.1 c3 c4 c10 c15) fun o57 =>
          fX11_follow_p298 c1 c3 c4 c6 c7 c10 c11 c12 c13 c15 k25 y1 y5 o57.1 o57.2.1 o57.2.2 v0_traceLong v0_calls c56x c5 c8 c9 o53.2.2.2.2
noncomputable def fX11_follow_l25 (c1 : Nat → Int32) (c3 : Nat → Int32) (c4 : Nat → Int32) (c6 : Nat → Int32) (c7 : Nat → Int32) (c10 : Nat → Int32) (c11 : Nat → Int32) (c12 : Nat → Int32) (c13 : Nat → Int32) (c15 : Nat → Int32) : Nat → Int32 → Int32 → Int32 → Int32 → Int32 → Int32 → Int32 → Int32 → Int32 → Int32 → (Nat → Int32) → (Nat → Int32) → (Nat → Int32) → (Nat → Int32) → (Nat → Int32) → Option (Int32 × Int32 × Int32 × Int32 × Int32 × (Nat → Int32) × (Nat → Int32) × (Nat → Int32) × (Nat → Int32) × (Nat → Int32))
  | 0 => fun _ _ _ _ _ _ _ _ _ _ _ _ _ _ _ => none
  | n + 1 => fX11_follow_b25 c1 c3 c4 c6 c7 c10 c11 c12 c13 c15  (fX11_follow_l25 c1 c3 c4 c6 c7 c10 c11 c12 c13 c15  n)
noncomputable def fX11_follow (a0 : Int32) (v0_newG : Int32) (v0_newL : Int32) (v0_newS : Int32) (v0_traceLong : Int32) (v0_calls : Int32) (c1 : Nat → Int32) (c2 : Nat → Int32) (c3 : Nat → Int32) (c4 : Nat → Int32) (c5 : Nat → Int32) (c6 : Nat → Int32) (c7 : Nat → Int32) (c8 : Nat → Int32) (c9 : Nat → Int32) (c10 : Nat → Int32) (c11 : Nat → Int32) (c12 : Nat → Int32) (c13 : Nat → Int32) (c14 : Nat → Int32) (c15 : Nat → Int32) : Option (Int32 × Int32 × Int32 × Int32 × Int32 × (Nat → Int32) × (Nat → Int32) × (Nat → Int32) × (Nat → Int32) × (Nat → Int32)) :=
  bd (inb 0 6) <|
  nm (c1 (0 : Int32).toNatClampNeg) fun x59 =>
  fX11_follow_l25 c1 c3 c4 c6 c7 c10 c11 c12 c13 c15 FU a0 x59 0 0 0 v0_newG v0_newL v0_newS a0 0 c2 c5 c8 c9 c14
noncomputable def fX11_check_p79 (v0_has : Int32) (v0_statements : Int32) (c3 : Nat → Int32) (c4 : Nat → Int32) (c5 : Nat → Int32) (c6 : Nat → Int32) (c7 : Nat → Int32) (c8 : Nat → Int32) (c9 : Nat → Int32) (c11 : Nat → Int32) (z0 : Int32) (v0_thrown : Int32) (v0_newG : Int32) (v0_newL : Int32) (v0_newS : Int32) (v0_traceLong : Int32) (v0_calls : Int32) (c1 : (Nat → Int32)) (c2 : (Nat → Int32)) (c10 : (Nat → Int32)) (c12 : (Nat → Int32)) (c13 : (Nat → Int32)) (c14 : (Nat → Int32)) (c15 : (Nat → Int32)) : Option (Int32 × Int32 × Int32 × Int32 × Int32 × Int32 × Int32 × (Nat → Int32) × (Nat → Int32) × (Nat → Int32) × (Nat → Int32) × (Nat → Int32) × (Nat → Int32) × (Nat → Int32)) :=
  some (z0, (v0_thrown, v0_newG, v0_newL, v0_newS, v0_traceLong, v0_calls, c1, c2, c10, c12, c13, c14, c15))
noncomputable def fX11_check_p68 (v0_has : Int32) (v0_statements : Int32) (c3 : Nat → Int32) (c4 : Nat → Int32) (c5 : Nat → Int32) (c6 : Nat → Int32) (c7 : Nat → Int32) (c8 : Nat → Int32) (c9 : Nat → Int32) (c11 : Nat → Int32) (y1 : Int32) (v0_thrown : Int32) (v0_newG : Int32) (v0_newL : Int32) (v0_newS : Int32) (v0_traceLong : Int32) (v0_calls : Int32) (c1 : (Nat → Int32)) (c2 : (Nat → Int32)) (c10 : (Nat → Int32)) (c12 : (Nat → Int32)) (c13 : (Nat → Int32)) (c14 : (Nat → Int32)) (c15 : (Nat → Int32)) : Option (Int32 × Int32 × Int32 × Int32 × Int32 × Int32 × Int32 × (Nat → Int32) × (Nat → Int32) × (Nat → Int32) × (Nat → Int32) × (Nat → Int32) × (Nat → Int32) × (Nat → Int32)) :=
  if y1 = 2000000 then
    fX11_check_p79 v0_has v0_statements c3 c4 c5 c6 c7 c8 c9 c11 (-1) v0_thrown v0_newG v0_newL v0_newS v0_traceLong v0_calls c1 c2 c10 c12 c13 c14 c15
  else
    fX11_check_p79 v0_has v0_statements c3 c4 c5 c6 c7 c8 c9 c11 y1 v0_thrown v0_newG v0_newL v0_newS v0_traceLong v0_calls c1 c2 c10 c12 c13 c14 c15
noncomputable def fX11_check_p50 (v0_has : Int32) (v0_statements : Int32) (c3 : Nat → Int32) (c4 : Nat → Int32) (c5 : Nat → Int32) (c6 : Nat → Int32) (c7 : Nat → Int32) (c8 : Nat → Int32) (c9 : Nat → Int32) (c11 : Nat → Int32) (z0 : Int32) (v0_thrown : Int32) (v0_newG : Int32) (v0_newL : Int32) (v0_newS : Int32) (v0_traceLong : Int32) (v0_calls : Int32) (c1 : (Nat → Int32)) (c2 : (Nat → Int32)) (c10 : (Nat → Int32)) (c12 : (Nat → Int32)) (c13 : (Nat → Int32)) (c14 : (Nat → Int32)) (c15 : (Nat → Int32)) : Option (Int32 × Int32 × Int32 × Int32 × Int32 × Int32 × Int32 × (Nat → Int32) × (Nat → Int32) × (Nat → Int32) × (Nat → Int32) × (Nat → Int32) × (Nat → Int32) × (Nat → Int32)) :=
  if 2000 < z0 then
    fX11_check_p68 v0_has v0_statements c3 c4 c5 c6 c7 c8 c9 c11 z0 v0_thrown v0_newG v0_newL v0_newS 0 v0_calls c1 c2 c10 c12 c13 c14 c15
  else
    ob (fX11_follow z0 v0_newG v0_newL v0_newS 0 v0_calls c6 c12 c4 c3 c13 c2 c1 c14 c15 c5 c7 c8 c9 c10 c11) fun o3 =>
    fX11_check_p68 v0_has v0_statements c3 c4 c5 c6 c7 c8 c9 c11 z0 v0_thrown o3.1 o3.2.1 o3.2.2.1 o3.2.2.2.1 o3.2.2.2.2.1 c1 c2 o3.2.2.2.2.2.2.2.2.2 o3.2.2.2.2.2.1 o3.2.2.2.2.2.2.1 o3.2.2.2.2.2.2.2.1 o3.2.2.2.2.2.2.2.2.1
noncomputable def fX11_check (v0_thrown : Int32) (v0_has : Int32) (v0_statements : Int32) (v0_newG : Int32) (v0_newL : Int32) (v0_newS : Int32) (v0_traceLong : Int32) (v0_calls : Int32) (c1 : Nat → Int32) (c2 : Nat → Int32) (c3 : Nat → Int32) (c4 : Nat → Int32) (c5 : Nat → Int32) (c6 : Nat → Int32) (c7 : Nat → Int32) (c8 : Nat → Int32) (c9 : Nat → Int32) (c10 : Nat → Int32) (c11 : Nat → Int32) (c12 : Nat → Int32) (c13 : Nat → Int32) (c14 : Nat → Int32) (c15 : Nat → Int32) : Option (Int32 × Int32 × Int32 × Int32 × Int32 × Int32 × Int32 × (Nat → Int32) × (Nat → Int32) × (Nat → Int32) × (Nat → Int32) × (Nat → Int32) × (Nat → Int32) × (Nat → Int32)) :=
  if v0_has = 0 then
    some ((-2), (0, v0_newG, v0_newL, v0_newS, v0_traceLong, v0_calls, c1, c2, c10, c12, c13, c14, c15))
  else
    ob (fX11_solve v0_statements v0_newG v0_newL v0_newS c1 c2 c3 c4 c5 c6 c7 c8 c9 c10 c11) fun o5 =>
    bd (inb 0 6) <|
    nm (c6 (0 : Int32).toNatClampNeg) fun x7 =>
    if x7 = (-1) then
      fX11_check_p50 v0_has v0_statements c3 c4 c5 c6 c7 c8 c9 c11 2000000 0 o5.1 o5.2.1 o5.2.2.1 v0_traceLong v0_calls o5.2.2.2.1 o5.2.2.2.2.1 o5.2.2.2.2.2 c12 c13 c14 c15
    else
      bd (inb 0 6) <|
      nm (c6 (0 : Int32).toNatClampNeg) fun x10 =>
      ob (fX11_at 0 x10 0) fun o11 =>
      bd (inb o11.1 1280) <|
      nm (o5.2.2.2.2.1 o11.1.toNatClampNeg) fun x13 =>
      fX11_check_p50 v0_has v0_statements c3 c4 c5 c6 c7 c8 c9 c11 x13 0 o5.1 o5.2.1 o5.2.2.1 v0_traceLong v0_calls o5.2.2.2.1 o5.2.2.2.2.1 o5.2.2.2.2.2 c12 c13 c14 c15
noncomputable def fX11_clear_b44  (k44 : Int32 → Int32 → Int32 → Int32 → Int32 → Int32 → Int32 → (Nat → Int32) → (Nat → Int32) → Option (Int32 × Int32 × Int32 × Int32 × Int32 × Int32 × (Nat → Int32) × (Nat → Int32))) (y1 : Int32) (y2 : Int32) (v0_thrown : Int32) (v0_rules : Int32) (v0_arcs : Int32) (v0_known : Int32) (v0_wayState : Int32) (c1 : (Nat → Int32)) (c2 : (Nat → Int32)) : Option (Int32 × Int32 × Int32 × Int32 × Int32 × Int32 × (Nat → Int32) × (Nat → Int32)) :=
  if 16 ≤ y2 then
    ob (fX11_forget v0_known v0_wayState) fun o2 =>
    some (y1, (v0_thrown, v0_rules, v0_arcs, o2.1, o2.2, c1, c2))
  else
    bd (inb y2 16) <|
    nm (upd c2 y2.toNatClampNeg (vp_nar .boolean 0)) fun c3x =>
    nm (y2 + 1) fun x4 =>
    k44 y1 x4 v0_thrown v0_rules v0_arcs v0_known v0_wayState c1 c3x
noncomputable def fX11_clear_l44  : Nat → Int32 → Int32 → Int32 → Int32 → Int32 → Int32 → Int32 → (Nat → Int32) → (Nat → Int32) → Option (Int32 × Int32 × Int32 × Int32 × Int32 × Int32 × (Nat → Int32) × (Nat → Int32))
  | 0 => fun _ _ _ _ _ _ _ _ _ => none
  | n + 1 => fX11_clear_b44   (fX11_clear_l44   n)
noncomputable def fX11_clear_b22  (k22 : Int32 → Int32 → Int32 → Int32 → Int32 → Int32 → Int32 → (Nat → Int32) → (Nat → Int32) → Option (Int32 × Int32 × Int32 × Int32 × Int32 × Int32 × (Nat → Int32) × (Nat → Int32))) (y1 : Int32) (y2 : Int32) (v0_thrown : Int32) (v0_rules : Int32) (v0_arcs : Int32) (v0_known : Int32) (v0_wayState : Int32) (c1 : (Nat → Int32)) (c2 : (Nat → Int32)) : Option (Int32 × Int32 × Int32 × Int32 × Int32 × Int32 × (Nat → Int32) × (Nat → Int32)) :=
  if 3072 ≤ y2 then
    fX11_clear_l44 FU y1 0 v0_thrown v0_rules v0_arcs v0_known v0_wayState c1 c2
  else
    bd (inb y2 3072) <|
    nm (upd c1 y2.toNatClampNeg (vp_nar .boolean 0)) fun c6x =>
    nm (y2 + 1) fun x7 =>
    k22 y1 x7 v0_thrown v0_rules v0_arcs v0_known v0_wayState c6x c2
noncomputable def fX11_clear_l22  : Nat → Int32 → Int32 → Int32 → Int32 → Int32 → Int32 → Int32 → (Nat → Int32) → (Nat → Int32) → Option (Int32 × Int32 × Int32 × Int32 × Int32 × Int32 × (Nat → Int32) × (Nat → Int32))
  | 0 => fun _ _ _ _ _ _ _ _ _ => none
  | n + 1 => fX11_clear_b22   (fX11_clear_l22   n)
noncomputable def fX11_clear (v0_thrown : Int32) (v0_rules : Int32) (v0_arcs : Int32) (v0_known : Int32) (v0_wayState : Int32) (c1 : Nat → Int32) (c2 : Nat → Int32) : Option (Int32 × Int32 × Int32 × Int32 × Int32 × Int32 × (Nat → Int32) × (Nat → Int32)) :=
  fX11_clear_l22 FU v0_rules 0 0 0 0 v0_known v0_wayState c1 c2
noncomputable def fX11_isNameByte_p27  (z0 : Int32) : Option (Int32 × Unit) :=
  bd (bz z0) <|
  some (z0, ())
noncomputable def fX11_isNameByte_p22   : Option (Int32 × Unit) :=
  fX11_isNameByte_p27 1
noncomputable def fX11_isNameByte (a0 : Int32) : Option (Int32 × Unit) :=
  ob (fX11_in a0 97 122) fun o2 =>
  if o2.1 = 0 then
    ob (fX11_in a0 48 57) fun o4 =>
    if o4.1 = 0 then
      fX11_isNameByte_p27 0
    else
      fX11_isNameByte_p22 
  else
    fX11_isNameByte_p22 
noncomputable def fX11_isWord_p85  (z0 : Int32) : Option (Int32 × Unit) :=
  bd (bz z0) <|
  some (z0, ())
noncomputable def fX11_isWord_p80   : Option (Int32 × Unit) :=
  fX11_isWord_p85 1
noncomputable def fX11_isWord (a0 : Int64) : Option (Int32 × Unit) :=
  nm (lg_cmp a0 7758194) fun x2 =>
  if x2 = 0 then
    fX11_isWord_p80 
  else
    nm (lg_cmp a0 1886547811) fun x4 =>
    if x4 = 0 then
      fX11_isWord_p80 
    else
      nm (lg_cmp a0 26982) fun x6 =>
      if x6 = 0 then
        fX11_isWord_p80 
      else
        nm (lg_cmp a0 1701606245) fun x8 =>
        if x8 = 0 then
          fX11_isWord_p80 
        else
          nm (lg_cmp a0 512852847717) fun x10 =>
          if x10 = 0 then
            fX11_isWord_p80 
          else
            nm (lg_cmp a0 1667329132) fun x12 =>
            if x12 = 0 then
              fX11_isWord_p80 
            else
              nm (lg_cmp a0 107148485161588) fun x14 =>
              if x14 = 0 then
                fX11_isWord_p80 
              else
                nm (lg_cmp a0 107148486208869) fun x16 =>
                if x16 = 0 then
                  fX11_isWord_p80 
                else
                  nm (lg_cmp a0 125780071117422) fun x18 =>
                  if x18 = 0 then
                    fX11_isWord_p80 
                  else
                    nm (lg_cmp a0 1936419184) fun x20 =>
                    if x20 = 0 then
                      fX11_isWord_p80 
                    else
                      fX11_isWord_p85 0
noncomputable def fX11_isSign_p83  (z0 : Int32) : Option (Int32 × Unit) :=
  bd (bz z0) <|
  some (z0, ())
noncomputable def fX11_isSign_p78   : Option (Int32 × Unit) :=
  fX11_isSign_p83 1
noncomputable def fX11_isSign (a0 : Int32) : Option (Int32 × Unit) :=
  if a0 = 48 then
    fX11_isSign_p78 
  else
    if a0 = 49 then
      fX11_isSign_p78 
    else
      if a0 = 42 then
        fX11_isSign_p78 
      else
        if a0 = 61 then
          fX11_isSign_p78 
        else
          if a0 = 59 then
            fX11_isSign_p78 
          else
            if a0 = 44 then
              fX11_isSign_p78 
            else
              if a0 = 123 then
                fX11_isSign_p78 
              else
                if a0 = 125 then
                  fX11_isSign_p78 
                else
                  if a0 = 40 then
                    fX11_isSign_p78 
                  else
                    if a0 = 41 then
                      fX11_isSign_p78 
                    else
                      if a0 = 33 then
                        fX11_isSign_p78 
                      else
                        if a0 = 38 then
                          fX11_isSign_p78 
                        else
                          if a0 = 124 then
                            fX11_isSign_p78 
                          else
                            fX11_isSign_p83 0
noncomputable def fX11_next_p34 (v0_textSize : Int32) (c1 : Nat → Int32) (k8 : Int32 → Int32 → Int32 → Int64 → Option (Int32 × Int32 × Int32 × Int64)) (v0_from : Int32) (v0_to : Int32) (v0_token : Int32) (v0_name : Int64) : Option (Int32 × Int32 × Int32 × Int64) :=
  nm (v0_from + 1) fun x1 =>
  k8 x1 v0_to v0_token v0_name
noncomputable def fX11_next_p227 (v0_textSize : Int32) (c1 : Nat → Int32) (v0_from : Int32) (v0_to : Int32) (v0_token : Int32) (v0_name : Int64) : Option (Int32 × Int32 × Int32 × Int64) :=
  some (v0_from, v0_to, v0_token, v0_name)
noncomputable def fX11_next_p214 (v0_textSize : Int32) (c1 : Nat → Int32) (z0 : Int32) (v0_from : Int32) (v0_to : Int32) (v0_token : Int32) (v0_name : Int64) : Option (Int32 × Int32 × Int32 × Int64) :=
  nm (v0_to + 1) fun x2 =>
  fX11_next_p227 v0_textSize c1 v0_from x2 z0 v0_name
noncomputable def fX11_next_p195 (v0_textSize : Int32) (c1 : Nat → Int32) (z0 : Int32) (v0_from : Int32) (v0_to : Int32) (v0_token : Int32) (v0_name : Int64) : Option (Int32 × Int32 × Int32 × Int64) :=
  fX11_next_p227 v0_textSize c1 v0_from v0_to z0 v0_name
noncomputable def fX11_next_p145 (v0_textSize : Int32) (c1 : Nat → Int32) (k92 : Int32 → Int32 → Int32 → Int64 → Option (Int32 × Int32 × Int32 × Int64)) (z0 : Int64) (v0_from : Int32) (v0_to : Int32) (v0_token : Int32) (v0_name : Int64) : Option (Int32 × Int32 × Int32 × Int64) :=
  nm (v0_to + 1) fun x3 =>
  k92 v0_from x3 v0_token z0
noncomputable def fX11_next_b92 (v0_textSize : Int32) (c1 : Nat → Int32) (k92 : Int32 → Int32 → Int32 → Int64 → Option (Int32 × Int32 × Int32 × Int64)) (v0_from : Int32) (v0_to : Int32) (v0_token : Int32) (v0_name : Int64) : Option (Int32 × Int32 × Int32 × Int64) :=
  ob (fX11_byteAt v0_to v0_textSize c1) fun o4 =>
  ob (fX11_isNameByte o4.1) fun o5 =>
  if o5.1 = 0 then
    nm (v0_to - v0_from) fun x7 =>
    if x7 ≤ 8 then
      ob (fX11_isWord v0_name) fun o9 =>
      if o9.1 = 0 then
        fX11_next_p195 v0_textSize c1 1 v0_from v0_to v0_token v0_name
      else
        fX11_next_p195 v0_textSize c1 2 v0_from v0_to v0_token v0_name
    else
      fX11_next_p195 v0_textSize c1 4 v0_from v0_to v0_token v0_name
  else
    nm (v0_to - v0_from) fun x11 =>
    if 8 ≤ x11 then
      fX11_next_p145 v0_textSize c1 k92 v0_name v0_from v0_to v0_token v0_name
    else
      nm (v0_name <<< ((8 : Int32).toInt64 &&& 63)) fun x13 =>
      ob (fX11_byteAt v0_to v0_textSize c1) fun o14 =>
      nm (o14.1.toInt64) fun x15 =>
      nm (x13 ||| x15) fun x16 =>
      fX11_next_p145 v0_textSize c1 k92 x16 v0_from v0_to v0_token v0_name
noncomputable def fX11_next_l92 (v0_textSize : Int32) (c1 : Nat → Int32) : Nat → Int32 → Int32 → Int32 → Int64 → Option (Int32 × Int32 × Int32 × Int64)
  | 0 => fun _ _ _ _ => none
  | n + 1 => fX11_next_b92 v0_textSize c1  (fX11_next_l92 v0_textSize c1  n)
noncomputable def fX11_next_b8 (v0_textSize : Int32) (c1 : Nat → Int32) (k8 : Int32 → Int32 → Int32 → Int64 → Option (Int32 × Int32 × Int32 × Int64)) (v0_from : Int32) (v0_to : Int32) (v0_token : Int32) (v0_name : Int64) : Option (Int32 × Int32 × Int32 × Int64) :=
  ob (fX11_byteAt v0_from v0_textSize c1) fun o17 =>
  if o17.1 = 32 then
    fX11_next_p34 v0_textSize c1 k8 v0_from v0_to v0_token v0_name
  else
    ob (fX11_byteAt v0_from v0_textSize c1) fun o19 =>
    if o19.1 = 10 then
      fX11_next_p34 v0_textSize c1 k8 v0_from v0_to v0_token v0_name
    else
      ob (fX11_byteAt v0_from v0_textSize c1) fun o21 =>
      if 0 ≤ o21.1 then
        ob (fX11_in o21.1 97 122) fun o23 =>
        if o23.1 = 0 then
          ob (fX11_isSign o21.1) fun o25 =>
          if o25.1 = 0 then
            fX11_next_p214 v0_textSize c1 4 v0_from v0_from v0_token v0_name
          else
            fX11_next_p214 v0_textSize c1 3 v0_from v0_from v0_token v0_name
        else
          fX11_next_l92 v0_textSize c1 FU v0_from v0_from v0_token 0
      else
        fX11_next_p227 v0_textSize c1 v0_from v0_from 0 v0_name
noncomputable def fX11_next_l8 (v0_textSize : Int32) (c1 : Nat → Int32) : Nat → Int32 → Int32 → Int32 → Int64 → Option (Int32 × Int32 × Int32 × Int64)
  | 0 => fun _ _ _ _ => none
  | n + 1 => fX11_next_b8 v0_textSize c1  (fX11_next_l8 v0_textSize c1  n)
noncomputable def fX11_next (v0_textSize : Int32) (v0_from : Int32) (v0_to : Int32) (v0_token : Int32) (v0_name : Int64) (c1 : Nat → Int32) : Option (Int32 × Int32 × Int32 × Int64) :=
  fX11_next_l8 v0_textSize c1 FU v0_to v0_to v0_token v0_name
noncomputable def fX11_may_p51 (v0_from : Int32) (v0_token : Int32) (z0 : Int32) (v0_wrong : Int32) (v0_wrongAt : Int32) : Option (Int32 × Int32 × Int32) :=
  bd (bz z0) <|
  some (z0, (v0_wrong, v0_wrongAt))
noncomputable def fX11_may_p50 (v0_from : Int32) (v0_token : Int32) (v0_wrong : Int32) (v0_wrongAt : Int32) : Option (Int32 × Int32 × Int32) :=
  fX11_may_p51 v0_from v0_token 0 v0_wrong v0_wrongAt
noncomputable def fX11_may_p46 (v0_from : Int32) (v0_token : Int32) (v0_wrong : Int32) (v0_wrongAt : Int32) : Option (Int32 × Int32 × Int32) :=
  fX11_may_p51 v0_from v0_token 1 v0_wrong v0_wrongAt
noncomputable def fX11_may (a0 : Int32) (v0_from : Int32) (v0_token : Int32) (v0_wrong : Int32) (v0_wrongAt : Int32) : Option (Int32 × Int32 × Int32) :=
  if v0_wrong = 0 then
    if v0_token = 4 then
      ob (fX11_fail 1 v0_from v0_wrong v0_wrongAt) fun o7 =>
      if o7.1 = 0 then
        fX11_may_p50 v0_from v0_token o7.2.1 o7.2.2
      else
        fX11_may_p46 v0_from v0_token o7.2.1 o7.2.2
    else
      if a0 = 0 then
        ob (fX11_fail 2 v0_from v0_wrong v0_wrongAt) fun o5 =>
        if o5.1 = 0 then
          fX11_may_p50 v0_from v0_token o5.2.1 o5.2.2
        else
          fX11_may_p46 v0_from v0_token o5.2.1 o5.2.2
      else
        fX11_may_p46 v0_from v0_token v0_wrong v0_wrongAt
  else
    fX11_may_p50 v0_from v0_token v0_wrong v0_wrongAt
noncomputable def fX11_isThe_p22 (v0_token : Int32) (v0_name : Int64) (z0 : Int32) : Option (Int32 × Unit) :=
  bd (bz z0) <|
  some (z0, ())
noncomputable def fX11_isThe_p21 (v0_token : Int32) (v0_name : Int64)  : Option (Int32 × Unit) :=
  fX11_isThe_p22 v0_token v0_name 0
noncomputable def fX11_isThe (a0 : Int64) (v0_token : Int32) (v0_name : Int64) : Option (Int32 × Unit) :=
  if v0_token = 2 then
    nm (lg_cmp v0_name a0) fun x3 =>
    if x3 = 0 then
      fX11_isThe_p22 v0_token v0_name 1
    else
      fX11_isThe_p21 v0_token v0_name 
  else
    fX11_isThe_p21 v0_token v0_name 
noncomputable def fX11_sees_p25 (v0_textSize : Int32) (v0_from : Int32) (v0_token : Int32) (c1 : Nat → Int32) (z0 : Int32) : Option (Int32 × Unit) :=
  bd (bz z0) <|
  some (z0, ())
noncomputable def fX11_sees_p24 (v0_textSize : Int32) (v0_from : Int32) (v0_token : Int32) (c1 : Nat → Int32)  : Option (Int32 × Unit) :=
  fX11_sees_p25 v0_textSize v0_from v0_token c1 0
noncomputable def fX11_sees (a0 : Int32) (v0_textSize : Int32) (v0_from : Int32) (v0_token : Int32) (c1 : Nat → Int32) : Option (Int32 × Unit) :=
  if v0_token = 3 then
    ob (fX11_byteAt v0_from v0_textSize c1) fun o3 =>
    if o3.1 = a0 then
      fX11_sees_p25 v0_textSize v0_from v0_token c1 1
    else
      fX11_sees_p24 v0_textSize v0_from v0_token c1 
  else
    fX11_sees_p24 v0_textSize v0_from v0_token c1 
noncomputable def fX11_openBlock (a0 : Int32) (a1 : Int32) (v0_textSize : Int32) (v0_from : Int32) (v0_to : Int32) (v0_token : Int32) (v0_name : Int64) (v0_wrong : Int32) (v0_wrongAt : Int32) (v0_blocks : Int32) (v0_open : Int32) (c1 : Nat → Int32) (c2 : Nat → Int32) (c3 : Nat → Int32) (c4 : Nat → Int32) (c5 : Nat → Int32) : Option (Int32 × Int32 × Int32 × Int32 × Int64 × Int32 × Int32 × Int32 × Int32 × (Nat → Int32) × (Nat → Int32) × (Nat → Int32) × (Nat → Int32)) :=
  ob (fX11_sees 123 v0_textSize v0_from v0_token c1) fun o1 =>
  ob (fX11_may o1.1 v0_from v0_token v0_wrong v0_wrongAt) fun o2 =>
  if o2.1 = 0 then
    some (0, (v0_from, v0_to, v0_token, v0_name, o2.2.1, o2.2.2, v0_blocks, v0_open, c2, c3, c4, c5))
  else
    if v0_open = 10 then
      ob (fX11_fail 3 v0_from o2.2.1 o2.2.2) fun o12 =>
      bd (bz o12.1) <|
      some (o12.1, (v0_from, v0_to, v0_token, v0_name, o12.2.1, o12.2.2, v0_blocks, v0_open, c2, c3, c4, c5))
    else
      bd (inb v0_blocks 90) <|
      nm (upd c2 v0_blocks.toNatClampNeg a0) fun c5x =>
      bd (inb v0_blocks 90) <|
      nm (upd c3 v0_blocks.toNatClampNeg a1) fun c6x =>
      bd (inb v0_blocks 90) <|
      nm (upd c4 v0_blocks.toNatClampNeg (-1)) fun c7x =>
      bd (inb v0_open 12) <|
      nm (upd c5 v0_open.toNatClampNeg v0_blocks) fun c8x =>
      nm (v0_open + 1) fun x9 =>
      nm (v0_blocks + 1) fun x10 =>
      ob (fX11_next v0_textSize v0_from v0_to v0_token v0_name c1) fun o11 =>
      some (1, (o11.1, o11.2.1, o11.2.2.1, o11.2.2.2, o2.2.1, o2.2.2, x10, x9, c5x, c6x, c7x, c8x))
noncomputable def fX11_closeBlock_p80 (v0_textSize : Int32) (c2 : Nat → Int32) (z0 : Int32) (v0_from : Int32) (v0_to : Int32) (v0_token : Int32) (v0_name : Int64) (v0_wrong : Int32) (v0_wrongAt : Int32) (v0_blocks : Int32) (v0_open : Int32) (c1 : (Nat → Int32)) (c3 : (Nat → Int32)) (c4 : (Nat → Int32)) (c5 : (Nat → Int32)) : Option (Int32 × Int32 × Int32 × Int32 × Int64 × Int32 × Int32 × Int32 × Int32 × (Nat → Int32) × (Nat → Int32) × (Nat → Int32) × (Nat → Int32)) :=
  bd (bz z0) <|
  some (z0, (v0_from, v0_to, v0_token, v0_name, v0_wrong, v0_wrongAt, v0_blocks, v0_open, c1, c3, c4, c5))
noncomputable def fX11_closeBlock_p68 (v0_textSize : Int32) (c2 : Nat → Int32) (v0_from : Int32) (v0_to : Int32) (v0_token : Int32) (v0_name : Int64) (v0_wrong : Int32) (v0_wrongAt : Int32) (v0_blocks : Int32) (v0_open : Int32) (c1 : (Nat → Int32)) (c3 : (Nat → Int32)) (c4 : (Nat → Int32)) (c5 : (Nat → Int32)) : Option (Int32 × Int32 × Int32 × Int32 × Int64 × Int32 × Int32 × Int32 × Int32 × (Nat → Int32) × (Nat → Int32) × (Nat → Int32) × (Nat → Int32)) :=
  if v0_wrong = 0 then
    fX11_closeBlock_p80 v0_textSize c2 1 v0_from v0_to v0_token v0_name v0_wrong v0_wrongAt v0_blocks v0_open c1 c3 c4 c5
  else
    fX11_closeBlock_p80 v0_textSize c2 0 v0_from v0_to v0_token v0_name v0_wrong v0_wrongAt v0_blocks v0_open c1 c3 c4 c5
noncomputable def fX11_closeBlock (v0_textSize : Int32) (v0_from : Int32) (v0_to : Int32) (v0_token : Int32) (v0_name : Int64) (v0_wrong : Int32) (v0_wrongAt : Int32) (v0_blocks : Int32) (v0_open : Int32) (c1 : Nat → Int32) (c2 : Nat → Int32) (c3 : Nat → Int32) (c4 : Nat → Int32) (c5 : Nat → Int32) : Option (Int32 × Int32 × Int32 × Int32 × Int64 × Int32 × Int32 × Int32 × Int32 × (Nat → Int32) × (Nat → Int32) × (Nat → Int32) × (Nat → Int32)) :=
  nm (v0_open - 1) fun x3 =>
  bd (inb x3 12) <|
  nm (c1 x3.toNatClampNeg) fun x5 =>
  ob (fX11_next v0_textSize v0_from v0_to v0_token v0_name c2) fun o6 =>
  bd (inb x5 90) <|
  nm (c3 x5.toNatClampNeg) fun x8 =>
  if x8 = 1 then
    ob (fX11_may 1 o6.1 o6.2.2.1 v0_wrong v0_wrongAt) fun o10 =>
    if o10.1 = 0 then
      fX11_closeBlock_p68 v0_textSize c2 o6.1 o6.2.1 o6.2.2.1 o6.2.2.2 o10.2.1 o10.2.2 v0_blocks x3 c1 c3 c4 c5
    else
      ob (fX11_isThe 1701606245 o6.2.2.1 o6.2.2.2) fun o12 =>
      if o12.1 = 0 then
        fX11_closeBlock_p68 v0_textSize c2 o6.1 o6.2.1 o6.2.2.1 o6.2.2.2 o10.2.1 o10.2.2 v0_blocks x3 c1 c3 c4 c5
      else
        ob (fX11_next v0_textSize o6.1 o6.2.1 o6.2.2.1 o6.2.2.2 c2) fun o14 =>
        bd (inb x5 90) <|
        nm (c4 x5.toNatClampNeg) fun x16 =>
        ob (fX11_openBlock x16 2 v0_textSize o14.1 o14.2.1 o14.2.2.1 o14.2.2.2 o10.2.1 o10.2.2 v0_blocks x3 c2 c4 c3 c5 c1) fun o17 =>
        bd (bz o17.1) <|
        some (o17.1, (o17.2.1, o17.2.2.1, o17.2.2.2.1, o17.2.2.2.2.1, o17.2.2.2.2.2.1, o17.2.2.2.2.2.2.1, o17.2.2.2.2.2.2.2.1, o17.2.2.2.2.2.2.2.2.1, o17.2.2.2.2.2.2.2.2.2.2.2.2, o17.2.2.2.2.2.2.2.2.2.2.1, o17.2.2.2.2.2.2.2.2.2.1, o17.2.2.2.2.2.2.2.2.2.2.2.1))
  else
    fX11_closeBlock_p68 v0_textSize c2 o6.1 o6.2.1 o6.2.2.1 o6.2.2.2 v0_wrong v0_wrongAt v0_blocks x3 c1 c3 c4 c5
noncomputable def fX11_drop (v0_thrown : Int32) (v0_size : Int32) (v0_wayState : Int32) : Option (Int32 × Int32 × Int32 × Int32) :=
  some (v0_size, (0, 0, (-1)))
noncomputable def fX11_emit (a0 : Int32) (v0_codes : Int32) (c1 : Nat → Int32) : Option (Int32 × (Nat → Int32)) :=
  bd (inb v0_codes 700) <|
  nm (upd c1 v0_codes.toNatClampNeg a0) fun c1x =>
  nm (v0_codes + 1) fun x2 =>
  some (x2, c1x)
noncomputable def fX11_end_p24  (v0_thrown : Int32) (v0_known : Int32) (v0_wayState : Int32) (c1 : (Nat → Int32)) : Option (Int32 × Int32 × Int32 × Int32 × (Nat → Int32)) :=
  some ((-2), (v0_thrown, v0_known, v0_wayState, c1))
noncomputable def fX11_end_p57  (y3 : Int32) (z0 : Int32) (z1 : Int32) (v0_thrown : Int32) (v0_known : Int32) (v0_wayState : Int32) (c1 : (Nat → Int32)) : Option (Int32 × Int32 × Int32 × Int32 × (Nat → Int32)) :=
  bd (inb z1 16) <|
  nm (upd c1 z1.toNatClampNeg (vp_nar .boolean z0)) fun c1x =>
  ob (fX11_forget v0_known v0_wayState) fun o2 =>
  some (y3, (v0_thrown, o2.1, o2.2, c1x))
noncomputable def fX11_end_p41  (y1 : Int32) (y2 : Int32) (z0 : Int32) (v0_thrown : Int32) (v0_known : Int32) (v0_wayState : Int32) (c1 : (Nat → Int32)) : Option (Int32 × Int32 × Int32 × Int32 × (Nat → Int32)) :=
  if y2 = 1 then
    fX11_end_p57 z0 1 y1 v0_thrown v0_known v0_wayState c1
  else
    fX11_end_p57 z0 0 y1 v0_thrown v0_known v0_wayState c1
noncomputable def fX11_end (a0 : Int32) (a1 : Int32) (v0_thrown : Int32) (v0_known : Int32) (v0_wayState : Int32) (c1 : Nat → Int32) : Option (Int32 × Int32 × Int32 × Int32 × (Nat → Int32)) :=
  ob (fX11_in a0 0 15) fun o4 =>
  if o4.1 = 0 then
    fX11_end_p24 0 v0_known v0_wayState c1
  else
    ob (fX11_in a1 0 1) fun o6 =>
    if o6.1 = 0 then
      fX11_end_p24 0 v0_known v0_wayState c1
    else
      bd (inb a0 16) <|
      nm (c1 a0.toNatClampNeg) fun x9 =>
      if x9 = 0 then
        fX11_end_p41 a0 a1 0 0 v0_known v0_wayState c1
      else
        fX11_end_p41 a0 a1 1 0 v0_known v0_wayState c1
noncomputable def fX11_reckon_p170 (v0_rules : Int32) (c1 : Nat → Int32) (c3 : Nat → Int32) (k51 : Int32 → Int32 → (Nat → Int32) → Option (Int32 × (Nat → Int32))) (k59 : Int32 → Int32 → Int32 → (Nat → Int32) → Option (Int32 × (Nat → Int32))) (k75 : Int32 → Int32 → Int32 → Int32 → Int32 → (Nat → Int32) → Option (Int32 × (Nat → Int32))) (y1 : Int32) (y2 : Int32) (y3 : Int32) (y4 : Int32) (z0 : Int32) (z1 : Int32) (v0_known : Int32) (c2 : (Nat → Int32)) : Option (Int32 × (Nat → Int32)) :=
  bd (inb z1 3072) <|
  nm (upd c2 z1.toNatClampNeg z0) fun c1x =>
  nm (y4 + 1) fun x2 =>
  k75 y1 y2 y3 x2 v0_known c1x
noncomputable def fX11_reckon_p139 (v0_rules : Int32) (c1 : Nat → Int32) (c3 : Nat → Int32) (k51 : Int32 → Int32 → (Nat → Int32) → Option (Int32 × (Nat → Int32))) (k59 : Int32 → Int32 → Int32 → (Nat → Int32) → Option (Int32 × (Nat → Int32))) (k75 : Int32 → Int32 → Int32 → Int32 → Int32 → (Nat → Int32) → Option (Int32 × (Nat → Int32))) (y2 : Int32) (y3 : Int32) (y4 : Int32) (y5 : Int32) (y6 : Int32) (z0 : Int32) (v0_known : Int32) (c2 : (Nat → Int32)) : Option (Int32 × (Nat → Int32)) :=
  bd (inb y5 3072) <|
  nm (c2 y5.toNatClampNeg) fun x4 =>
  if x4 ≤ y6 then
    bd (inb y5 3072) <|
    nm (c2 y5.toNatClampNeg) fun x7 =>
    fX11_reckon_p170 v0_rules c1 c3 k51 k59 k75 z0 y2 y3 y4 x7 y5 v0_known c2
  else
    fX11_reckon_p170 v0_rules c1 c3 k51 k59 k75 z0 y2 y3 y4 y6 y5 v0_known c2
noncomputable def fX11_reckon_p134 (v0_rules : Int32) (c1 : Nat → Int32) (c3 : Nat → Int32) (k51 : Int32 → Int32 → (Nat → Int32) → Option (Int32 × (Nat → Int32))) (k59 : Int32 → Int32 → Int32 → (Nat → Int32) → Option (Int32 × (Nat → Int32))) (k75 : Int32 → Int32 → Int32 → Int32 → Int32 → (Nat → Int32) → Option (Int32 × (Nat → Int32))) (y2 : Int32) (y3 : Int32) (y4 : Int32) (y5 : Int32) (y6 : Int32) (v0_known : Int32) (c2 : (Nat → Int32)) : Option (Int32 × (Nat → Int32)) :=
  fX11_reckon_p139 v0_rules c1 c3 k51 k59 k75 y2 y3 y4 y5 y6 1 v0_known c2
noncomputable def fX11_reckon_b75 (v0_rules : Int32) (c1 : Nat → Int32) (c3 : Nat → Int32) (k51 : Int32 → Int32 → (Nat → Int32) → Option (Int32 × (Nat → Int32))) (k59 : Int32 → Int32 → Int32 → (Nat → Int32) → Option (Int32 × (Nat → Int32))) (k75 : Int32 → Int32 → Int32 → Int32 → Int32 → (Nat → Int32) → Option (Int32 × (Nat → Int32))) (y1 : Int32) (y2 : Int32) (y3 : Int32) (y4 : Int32) (v0_known : Int32) (c2 : (Nat → Int32)) : Option (Int32 × (Nat → Int32)) :=
  if 16 ≤ y4 then
    nm (y2 + 1) fun x9 =>
    k59 y1 x9 v0_known c2
  else
    bd (inb y3 288) <|
    nm (c3 y3.toNatClampNeg) fun x11 =>
    nm (192 * x11) fun x12 =>
    nm (y3 + 1) fun x13 =>
    bd (inb x13 288) <|
    nm (c3 x13.toNatClampNeg) fun x15 =>
    nm (16 * x15) fun x16 =>
    nm (x12 + x16) fun x17 =>
    nm (x17 + y4) fun x18 =>
    ob (fX11_byRule y3 y4 c3 c2) fun o19 =>
    if y1 = 0 then
      bd (inb x18 3072) <|
      nm (c2 x18.toNatClampNeg) fun x22 =>
      if x22 ≤ o19.1 then
        fX11_reckon_p139 v0_rules c1 c3 k51 k59 k75 y2 y3 y4 x18 o19.1 0 v0_known c2
      else
        fX11_reckon_p134 v0_rules c1 c3 k51 k59 k75 y2 y3 y4 x18 o19.1 v0_known c2
    else
      fX11_reckon_p134 v0_rules c1 c3 k51 k59 k75 y2 y3 y4 x18 o19.1 v0_known c2
noncomputable def fX11_reckon_l75 (v0_rules : Int32) (c1 : Nat → Int32) (c3 : Nat → Int32) (k51 : Int32 → Int32 → (Nat → Int32) → Option (Int32 × (Nat → Int32))) (k59 : Int32 → Int32 → Int32 → (Nat → Int32) → Option (Int32 × (Nat → Int32))) : Nat → Int32 → Int32 → Int32 → Int32 → Int32 → (Nat → Int32) → Option (Int32 × (Nat → Int32))
  | 0 => fun _ _ _ _ _ _ => none
  | n + 1 => fX11_reckon_b75 v0_rules c1 c3 k51 k59 (fX11_reckon_l75 v0_rules c1 c3 k51 k59 n)
noncomputable def fX11_reckon_b59 (v0_rules : Int32) (c1 : Nat → Int32) (c3 : Nat → Int32) (k51 : Int32 → Int32 → (Nat → Int32) → Option (Int32 × (Nat → Int32))) (k59 : Int32 → Int32 → Int32 → (Nat → Int32) → Option (Int32 × (Nat → Int32))) (y1 : Int32) (y2 : Int32) (v0_known : Int32) (c2 : (Nat → Int32)) : Option (Int32 × (Nat → Int32)) :=
  if v0_rules ≤ y2 then
    k51 y1 v0_known c2
  else
    nm (6 * y2) fun x25 =>
    fX11_reckon_l75 v0_rules c1 c3 k51 k59 FU y1 y2 x25 0 v0_known c2
noncomputable def fX11_reckon_l59 (v0_rules : Int32) (c1 : Nat → Int32) (c3 : Nat → Int32) (k51 : Int32 → Int32 → (Nat → Int32) → Option (Int32 × (Nat → Int32))) : Nat → Int32 → Int32 → Int32 → (Nat → Int32) → Option (Int32 × (Nat → Int32))
  | 0 => fun _ _ _ _ => none
  | n + 1 => fX11_reckon_b59 v0_rules c1 c3 k51 (fX11_reckon_l59 v0_rules c1 c3 k51 n)
noncomputable def fX11_reckon_b51 (v0_rules : Int32) (c1 : Nat → Int32) (c3 : Nat → Int32) (k51 : Int32 → Int32 → (Nat → Int32) → Option (Int32 × (Nat → Int32))) (y1 : Int32) (v0_known : Int32) (c2 : (Nat → Int32)) : Option (Int32 × (Nat → Int32)) :=
  if y1 = 0 then
    some (v0_known, c2)
  else
    fX11_reckon_l59 v0_rules c1 c3 k51 FU 0 0 v0_known c2
noncomputable def fX11_reckon_l51 (v0_rules : Int32) (c1 : Nat → Int32) (c3 : Nat → Int32) : Nat → Int32 → Int32 → (Nat → Int32) → Option (Int32 × (Nat → Int32))
  | 0 => fun _ _ _ => none
  | n + 1 => fX11_reckon_b51 v0_rules c1 c3  (fX11_reckon_l51 v0_rules c1 c3  n)
noncomputable def fX11_reckon_p42 (v0_rules : Int32) (c1 : Nat → Int32) (c3 : Nat → Int32) (k15 : Int32 → Int32 → (Nat → Int32) → Option (Int32 × (Nat → Int32))) (y1 : Int32) (z0 : Int32) (z1 : Int32) (v0_known : Int32) (c2 : (Nat → Int32)) : Option (Int32 × (Nat → Int32)) :=
  bd (inb z1 3072) <|
  nm (upd c2 z1.toNatClampNeg z0) fun c27x =>
  nm (y1 + 1) fun x28 =>
  k15 x28 v0_known c27x
noncomputable def fX11_reckon_b15 (v0_rules : Int32) (c1 : Nat → Int32) (c3 : Nat → Int32) (k15 : Int32 → Int32 → (Nat → Int32) → Option (Int32 × (Nat → Int32))) (y1 : Int32) (v0_known : Int32) (c2 : (Nat → Int32)) : Option (Int32 × (Nat → Int32)) :=
  if 3072 ≤ y1 then
    fX11_reckon_l51 v0_rules c1 c3 FU 1 v0_known c2
  else
    bd (inb y1 3072) <|
    nm (c1 y1.toNatClampNeg) fun x31 =>
    if x31 = 0 then
      fX11_reckon_p42 v0_rules c1 c3 k15 y1 2000000 y1 v0_known c2
    else
      fX11_reckon_p42 v0_rules c1 c3 k15 y1 0 y1 v0_known c2
noncomputable def fX11_reckon_l15 (v0_rules : Int32) (c1 : Nat → Int32) (c3 : Nat → Int32) : Nat → Int32 → Int32 → (Nat → Int32) → Option (Int32 × (Nat → Int32))
  | 0 => fun _ _ _ => none
  | n + 1 => fX11_reckon_b15 v0_rules c1 c3  (fX11_reckon_l15 v0_rules c1 c3  n)
noncomputable def fX11_reckon (v0_rules : Int32) (v0_known : Int32) (c1 : Nat → Int32) (c2 : Nat → Int32) (c3 : Nat → Int32) : Option (Int32 × (Nat → Int32)) :=
  if v0_known = 0 then
    fX11_reckon_l15 v0_rules c1 c3 FU 0 1 c2
  else
    some (v0_known, c2)
noncomputable def fX11_lay_p78 (c2 : Nat → Int32) (k9 : Int32 → Int32 → Int32 → (Nat → Int32) → (Nat → Int32) → Option ((Nat → Int32) × (Nat → Int32))) (k22 : Int32 → Int32 → Int32 → Int32 → Int32 → (Nat → Int32) → (Nat → Int32) → Option ((Nat → Int32) × (Nat → Int32))) (y1 : Int32) (y2 : Int32) (y3 : Int32) (y5 : Int32) (z0 : Int32) (c1 : (Nat → Int32)) (c3 : (Nat → Int32)) : Option ((Nat → Int32) × (Nat → Int32)) :=
  nm (y5 + 1) fun x1 =>
  k22 y1 y2 y3 z0 x1 c1 c3
noncomputable def fX11_lay_b22 (c2 : Nat → Int32) (k9 : Int32 → Int32 → Int32 → (Nat → Int32) → (Nat → Int32) → Option ((Nat → Int32) × (Nat → Int32))) (k22 : Int32 → Int32 → Int32 → Int32 → Int32 → (Nat → Int32) → (Nat → Int32) → Option ((Nat → Int32) × (Nat → Int32))) (y1 : Int32) (y2 : Int32) (y3 : Int32) (y4 : Int32) (y5 : Int32) (c1 : (Nat → Int32)) (c3 : (Nat → Int32)) : Option ((Nat → Int32) × (Nat → Int32)) :=
  if 16 ≤ y5 then
    nm (y1 + 1) fun x3 =>
    nm (16 * x3) fun x4 =>
    nm (x4 + y3) fun x5 =>
    bd (inb x5 64128) <|
    nm (upd c3 x5.toNatClampNeg y4) fun c6x =>
    nm (y3 + 1) fun x7 =>
    k9 y1 y2 x7 c1 c6x
  else
    nm (192 * y3) fun x8 =>
    nm (16 * y2) fun x9 =>
    nm (x8 + x9) fun x10 =>
    nm (x10 + y5) fun x11 =>
    bd (inb x11 3072) <|
    nm (c2 x11.toNatClampNeg) fun x13 =>
    nm (16 * y1) fun x14 =>
    nm (x14 + y5) fun x15 =>
    bd (inb x15 64128) <|
    nm (c3 x15.toNatClampNeg) fun x17 =>
    ob (fX11_sum x13 x17) fun o18 =>
    if y4 ≤ o18.1 then
      fX11_lay_p78 c2 k9 k22 y1 y2 y3 y5 y4 c1 c3
    else
      fX11_lay_p78 c2 k9 k22 y1 y2 y3 y5 o18.1 c1 c3
noncomputable def fX11_lay_l22 (c2 : Nat → Int32) (k9 : Int32 → Int32 → Int32 → (Nat → Int32) → (Nat → Int32) → Option ((Nat → Int32) × (Nat → Int32))) : Nat → Int32 → Int32 → Int32 → Int32 → Int32 → (Nat → Int32) → (Nat → Int32) → Option ((Nat → Int32) × (Nat → Int32))
  | 0 => fun _ _ _ _ _ _ _ => none
  | n + 1 => fX11_lay_b22 c2 k9 (fX11_lay_l22 c2 k9 n)
noncomputable def fX11_lay_b9 (c2 : Nat → Int32) (k9 : Int32 → Int32 → Int32 → (Nat → Int32) → (Nat → Int32) → Option ((Nat → Int32) × (Nat → Int32))) (y1 : Int32) (y2 : Int32) (y3 : Int32) (c1 : (Nat → Int32)) (c3 : (Nat → Int32)) : Option ((Nat → Int32) × (Nat → Int32)) :=
  if 16 ≤ y3 then
    some (c1, c3)
  else
    fX11_lay_l22 c2 k9 FU y1 y2 y3 2000000 0 c1 c3
noncomputable def fX11_lay_l9 (c2 : Nat → Int32) : Nat → Int32 → Int32 → Int32 → (Nat → Int32) → (Nat → Int32) → Option ((Nat → Int32) × (Nat → Int32))
  | 0 => fun _ _ _ _ _ => none
  | n + 1 => fX11_lay_b9 c2  (fX11_lay_l9 c2  n)
noncomputable def fX11_lay (a0 : Int32) (a1 : Int32) (c1 : Nat → Int32) (c2 : Nat → Int32) (c3 : Nat → Int32) : Option ((Nat → Int32) × (Nat → Int32)) :=
  bd (inb a0 4008) <|
  nm (upd c1 a0.toNatClampNeg a1) fun c21x =>
  fX11_lay_l9 c2 FU a0 a1 0 c21x c3
noncomputable def fX11_layWord_b41 (v0_rules : Int32) (v0_size : Int32) (c1 : Nat → Int32) (c3 : Nat → Int32) (c4 : Nat → Int32) (c6 : Nat → Int32) (k41 : Int32 → Int32 → (Nat → Int32) → (Nat → Int32) → (Nat → Int32) → Option (Int32 × (Nat → Int32) × (Nat → Int32) × (Nat → Int32))) (y1 : Int32) (v0_known : Int32) (c2 : (Nat → Int32)) (c5 : (Nat → Int32)) (c7 : (Nat → Int32)) : Option (Int32 × (Nat → Int32) × (Nat → Int32) × (Nat → Int32)) :=
  if v0_size ≤ y1 then
    some (v0_known, c2, c5, c7)
  else
    bd (inb y1 30) <|
    nm (c6 y1.toNatClampNeg) fun x3 =>
    ob (fX11_lay y1 x3 c7 c2 c5) fun o4 =>
    nm (y1 + 1) fun x5 =>
    k41 x5 v0_known c2 o4.2 o4.1
noncomputable def fX11_layWord_l41 (v0_rules : Int32) (v0_size : Int32) (c1 : Nat → Int32) (c3 : Nat → Int32) (c4 : Nat → Int32) (c6 : Nat → Int32) : Nat → Int32 → Int32 → (Nat → Int32) → (Nat → Int32) → (Nat → Int32) → Option (Int32 × (Nat → Int32) × (Nat → Int32) × (Nat → Int32))
  | 0 => fun _ _ _ _ _ => none
  | n + 1 => fX11_layWord_b41 v0_rules v0_size c1 c3 c4 c6  (fX11_layWord_l41 v0_rules v0_size c1 c3 c4 c6  n)
noncomputable def fX11_layWord_p32 (v0_rules : Int32) (v0_size : Int32) (c1 : Nat → Int32) (c3 : Nat → Int32) (c4 : Nat → Int32) (c6 : Nat → Int32) (k6 : Int32 → Int32 → (Nat → Int32) → (Nat → Int32) → (Nat → Int32) → Option (Int32 × (Nat → Int32) × (Nat → Int32) × (Nat → Int32))) (y1 : Int32) (z0 : Int32) (z1 : Int32) (v0_known : Int32) (c2 : (Nat → Int32)) (c5 : (Nat → Int32)) (c7 : (Nat → Int32)) : Option (Int32 × (Nat → Int32) × (Nat → Int32) × (Nat → Int32)) :=
  bd (inb z1 64128) <|
  nm (upd c5 z1.toNatClampNeg z0) fun c6x =>
  nm (y1 + 1) fun x7 =>
  k6 x7 v0_known c2 c6x c7
noncomputable def fX11_layWord_b6 (v0_rules : Int32) (v0_size : Int32) (c1 : Nat → Int32) (c3 : Nat → Int32) (c4 : Nat → Int32) (c6 : Nat → Int32) (k6 : Int32 → Int32 → (Nat → Int32) → (Nat → Int32) → (Nat → Int32) → Option (Int32 × (Nat → Int32) × (Nat → Int32) × (Nat → Int32))) (y1 : Int32) (v0_known : Int32) (c2 : (Nat → Int32)) (c5 : (Nat → Int32)) (c7 : (Nat → Int32)) : Option (Int32 × (Nat → Int32) × (Nat → Int32) × (Nat → Int32)) :=
  if 16 ≤ y1 then
    fX11_layWord_l41 v0_rules v0_size c1 c3 c4 c6 FU 0 v0_known c2 c5 c7
  else
    bd (inb y1 16) <|
    nm (c4 y1.toNatClampNeg) fun x10 =>
    if x10 = 0 then
      fX11_layWord_p32 v0_rules v0_size c1 c3 c4 c6 k6 y1 2000000 y1 v0_known c2 c5 c7
    else
      fX11_layWord_p32 v0_rules v0_size c1 c3 c4 c6 k6 y1 0 y1 v0_known c2 c5 c7
noncomputable def fX11_layWord_l6 (v0_rules : Int32) (v0_size : Int32) (c1 : Nat → Int32) (c3 : Nat → Int32) (c4 : Nat → Int32) (c6 : Nat → Int32) : Nat → Int32 → Int32 → (Nat → Int32) → (Nat → Int32) → (Nat → Int32) → Option (Int32 × (Nat → Int32) × (Nat → Int32) × (Nat → Int32))
  | 0 => fun _ _ _ _ _ => none
  | n + 1 => fX11_layWord_b6 v0_rules v0_size c1 c3 c4 c6  (fX11_layWord_l6 v0_rules v0_size c1 c3 c4 c6  n)
noncomputable def fX11_layWord (v0_rules : Int32) (v0_size : Int32) (v0_known : Int32) (c1 : Nat → Int32) (c2 : Nat → Int32) (c3 : Nat → Int32) (c4 : Nat → Int32) (c5 : Nat → Int32) (c6 : Nat → Int32) (c7 : Nat → Int32) : Option (Int32 × (Nat → Int32) × (Nat → Int32) × (Nat → Int32)) :=
  ob (fX11_reckon v0_rules v0_known c1 c2 c3) fun o12 =>
  fX11_layWord_l6 v0_rules v0_size c1 c3 c4 c6 FU 0 o12.1 o12.2 c5 c7
noncomputable def fX11_far_p48 (v0_rules : Int32) (v0_size : Int32) (c1 : Nat → Int32) (c3 : Nat → Int32) (c4 : Nat → Int32) (c6 : Nat → Int32) (z0 : Int32) (v0_thrown : Int32) (v0_known : Int32) (c2 : (Nat → Int32)) (c5 : (Nat → Int32)) (c7 : (Nat → Int32)) : Option (Int32 × Int32 × Int32 × (Nat → Int32) × (Nat → Int32) × (Nat → Int32)) :=
  some (z0, (v0_thrown, v0_known, c2, c5, c7))
noncomputable def fX11_far (a0 : Int32) (v0_thrown : Int32) (v0_rules : Int32) (v0_size : Int32) (v0_known : Int32) (c1 : Nat → Int32) (c2 : Nat → Int32) (c3 : Nat → Int32) (c4 : Nat → Int32) (c5 : Nat → Int32) (c6 : Nat → Int32) (c7 : Nat → Int32) : Option (Int32 × Int32 × Int32 × (Nat → Int32) × (Nat → Int32) × (Nat → Int32)) :=
  ob (fX11_in a0 0 7) fun o1 =>
  if o1.1 = 0 then
    some ((-2), (0, v0_known, c2, c5, c7))
  else
    ob (fX11_layWord v0_rules v0_size v0_known c1 c2 c3 c4 c5 c6 c7) fun o3 =>
    nm (16 * v0_size) fun x4 =>
    nm (x4 + a0) fun x5 =>
    bd (inb x5 64128) <|
    nm (o3.2.2.1 x5.toNatClampNeg) fun x7 =>
    if x7 = 2000000 then
      fX11_far_p48 v0_rules v0_size c1 c3 c4 c6 (-1) 0 o3.1 o3.2.1 o3.2.2.1 o3.2.2.2
    else
      fX11_far_p48 v0_rules v0_size c1 c3 c4 c6 x7 0 o3.1 o3.2.1 o3.2.2.1 o3.2.2.2
noncomputable def fX11_findWay_p284 (v0_rules : Int32) (v0_size : Int32) (c1 : Nat → Int32) (c3 : Nat → Int32) (c4 : Nat → Int32) (c6 : Nat → Int32) (k53 : Int32 → Int32 → Int32 → Int32 → Int32 → Int32 → Int32 → (Nat → Int32) → (Nat → Int32) → (Nat → Int32) → (Nat → Int32) → Option (Int32 × Int32 × Int32 × (Nat → Int32) × (Nat → Int32) × (Nat → Int32) × (Nat → Int32))) (y2 : Int32) (y3 : Int32) (y4 : Int32) (y5 : Int32) (v0_known : Int32) (v0_wayState : Int32) (v0_wayLong : Int32) (c2 : (Nat → Int32)) (c5 : (Nat → Int32)) (c7 : (Nat → Int32)) (c8 : (Nat → Int32)) : Option (Int32 × Int32 × Int32 × (Nat → Int32) × (Nat → Int32) × (Nat → Int32) × (Nat → Int32)) :=
  nm (y5 + 1) fun x1 =>
  k53 y2 y3 y4 x1 v0_known v0_wayState v0_wayLong c2 c5 c7 c8
noncomputable def fX11_findWay_p278 (v0_rules : Int32) (v0_size : Int32) (c1 : Nat → Int32) (c3 : Nat → Int32) (c4 : Nat → Int32) (c6 : Nat → Int32) (k53 : Int32 → Int32 → Int32 → Int32 → Int32 → Int32 → Int32 → (Nat → Int32) → (Nat → Int32) → (Nat → Int32) → (Nat → Int32) → Option (Int32 × Int32 × Int32 × (Nat → Int32) × (Nat → Int32) × (Nat → Int32) × (Nat → Int32))) (k88 : Int32 → Int32 → Int32 → Int32 → Int32 → Int32 → Int32 → Int32 → Int32 → Int32 → (Nat → Int32) → (Nat → Int32) → (Nat → Int32) → (Nat → Int32) → Option (Int32 × Int32 × Int32 × (Nat → Int32) × (Nat → Int32) × (Nat → Int32) × (Nat → Int32))) (y2 : Int32) (y3 : Int32) (y4 : Int32) (y5 : Int32) (y6 : Int32) (y7 : Int32) (y8 : Int32) (v0_known : Int32) (v0_wayState : Int32) (v0_wayLong : Int32) (c2 : (Nat → Int32)) (c5 : (Nat → Int32)) (c7 : (Nat → Int32)) (c8 : (Nat → Int32)) : Option (Int32 × Int32 × Int32 × (Nat → Int32) × (Nat → Int32) × (Nat → Int32) × (Nat → Int32)) :=
  nm (y8 + 1) fun x2 =>
  k88 y2 y3 y4 y5 y6 y7 x2 v0_known v0_wayState v0_wayLong c2 c5 c7 c8
noncomputable def fX11_findWay_p232 (v0_rules : Int32) (v0_size : Int32) (c1 : Nat → Int32) (c3 : Nat → Int32) (c4 : Nat → Int32) (c6 : Nat → Int32) (k53 : Int32 → Int32 → Int32 → Int32 → Int32 → Int32 → Int32 → (Nat → Int32) → (Nat → Int32) → (Nat → Int32) → (Nat → Int32) → Option (Int32 × Int32 × Int32 × (Nat → Int32) × (Nat → Int32) × (Nat → Int32) × (Nat → Int32))) (k88 : Int32 → Int32 → Int32 → Int32 → Int32 → Int32 → Int32 → Int32 → Int32 → Int32 → (Nat → Int32) → (Nat → Int32) → (Nat → Int32) → (Nat → Int32) → Option (Int32 × Int32 × Int32 × (Nat → Int32) × (Nat → Int32) × (Nat → Int32) × (Nat → Int32))) (y2 : Int32) (y3 : Int32) (y4 : Int32) (y5 : Int32) (y7 : Int32) (y8 : Int32) (y9 : Int32) (y10 : Int32) (z0 : Int32) (v0_known : Int32) (v0_wayState : Int32) (v0_wayLong : Int32) (c2 : (Nat → Int32)) (c5 : (Nat → Int32)) (c7 : (Nat → Int32)) (c8 : (Nat → Int32)) : Option (Int32 × Int32 × Int32 × (Nat → Int32) × (Nat → Int32) × (Nat → Int32) × (Nat → Int32)) :=
  if z0 = 0 then
    nm (y4 - 1) fun x4 =>
    ob (fX11_lay x4 y7 c7 c2 c5) fun o5 =>
    fX11_findWay_p278 v0_rules v0_size c1 c3 c4 c6 k53 k88 y2 y3 y4 y5 z0 y7 y8 v0_known v0_wayState v0_wayLong c2 o5.2 o5.1 c8
  else
    bd (inb y5 2000) <|
    nm (upd c8 y5.toNatClampNeg y8) fun c6x =>
    nm (y2 + (-1)) fun x7 =>
    nm (y9 + 2) fun x8 =>
    bd (inb x8 288) <|
    nm (c3 x8.toNatClampNeg) fun x10 =>
    fX11_findWay_p278 v0_rules v0_size c1 c3 c4 c6 k53 k88 x7 x10 y10 y5 z0 y7 y8 v0_known v0_wayState v0_wayLong c2 c5 c7 c6x
noncomputable def fX11_findWay_p201 (v0_rules : Int32) (v0_size : Int32) (c1 : Nat → Int32) (c3 : Nat → Int32) (c4 : Nat → Int32) (c6 : Nat → Int32) (k53 : Int32 → Int32 → Int32 → Int32 → Int32 → Int32 → Int32 → (Nat → Int32) → (Nat → Int32) → (Nat → Int32) → (Nat → Int32) → Option (Int32 × Int32 × Int32 × (Nat → Int32) × (Nat → Int32) × (Nat → Int32) × (Nat → Int32))) (k88 : Int32 → Int32 → Int32 → Int32 → Int32 → Int32 → Int32 → Int32 → Int32 → Int32 → (Nat → Int32) → (Nat → Int32) → (Nat → Int32) → (Nat → Int32) → Option (Int32 × Int32 × Int32 × (Nat → Int32) × (Nat → Int32) × (Nat → Int32) × (Nat → Int32))) (y2 : Int32) (y3 : Int32) (y4 : Int32) (y5 : Int32) (y7 : Int32) (y8 : Int32) (y9 : Int32) (y10 : Int32) (v0_known : Int32) (v0_wayState : Int32) (v0_wayLong : Int32) (c2 : (Nat → Int32)) (c5 : (Nat → Int32)) (c7 : (Nat → Int32)) (c8 : (Nat → Int32)) : Option (Int32 × Int32 × Int32 × (Nat → Int32) × (Nat → Int32) × (Nat → Int32) × (Nat → Int32)) :=
  nm (16 * y10) fun x11 =>
  nm (y9 + 2) fun x12 =>
  bd (inb x12 288) <|
  nm (c3 x12.toNatClampNeg) fun x14 =>
  nm (x11 + x14) fun x15 =>
  bd (inb x15 64128) <|
  nm (c5 x15.toNatClampNeg) fun x17 =>
  nm (y2 - 1) fun x18 =>
  if x17 = x18 then
    fX11_findWay_p232 v0_rules v0_size c1 c3 c4 c6 k53 k88 y2 y3 y4 y5 y7 y8 y9 y10 1 v0_known v0_wayState v0_wayLong c2 c5 c7 c8
  else
    fX11_findWay_p232 v0_rules v0_size c1 c3 c4 c6 k53 k88 y2 y3 y4 y5 y7 y8 y9 y10 0 v0_known v0_wayState v0_wayLong c2 c5 c7 c8
noncomputable def fX11_findWay_p171 (v0_rules : Int32) (v0_size : Int32) (c1 : Nat → Int32) (c3 : Nat → Int32) (c4 : Nat → Int32) (c6 : Nat → Int32) (k53 : Int32 → Int32 → Int32 → Int32 → Int32 → Int32 → Int32 → (Nat → Int32) → (Nat → Int32) → (Nat → Int32) → (Nat → Int32) → Option (Int32 × Int32 × Int32 × (Nat → Int32) × (Nat → Int32) × (Nat → Int32) × (Nat → Int32))) (k88 : Int32 → Int32 → Int32 → Int32 → Int32 → Int32 → Int32 → Int32 → Int32 → Int32 → (Nat → Int32) → (Nat → Int32) → (Nat → Int32) → (Nat → Int32) → Option (Int32 × Int32 × Int32 × (Nat → Int32) × (Nat → Int32) × (Nat → Int32) × (Nat → Int32))) (y2 : Int32) (y3 : Int32) (y4 : Int32) (y5 : Int32) (y7 : Int32) (y8 : Int32) (y9 : Int32) (y10 : Int32) (v0_known : Int32) (v0_wayState : Int32) (v0_wayLong : Int32) (c2 : (Nat → Int32)) (c5 : (Nat → Int32)) (c7 : (Nat → Int32)) (c8 : (Nat → Int32)) : Option (Int32 × Int32 × Int32 × (Nat → Int32) × (Nat → Int32) × (Nat → Int32) × (Nat → Int32)) :=
  nm (y9 + 3) fun x20 =>
  bd (inb x20 288) <|
  nm (c3 x20.toNatClampNeg) fun x22 =>
  if x22 ≤ 0 then
    fX11_findWay_p201 v0_rules v0_size c1 c3 c4 c6 k53 k88 y2 y3 y4 y5 y7 y8 y9 y10 v0_known v0_wayState v0_wayLong c2 c5 c7 c8
  else
    nm (y9 + 4) fun x24 =>
    bd (inb x24 288) <|
    nm (c3 x24.toNatClampNeg) fun x26 =>
    ob (fX11_lay y10 x26 c7 c2 c5) fun o27 =>
    nm (y10 + 1) fun x28 =>
    fX11_findWay_p201 v0_rules v0_size c1 c3 c4 c6 k53 k88 y2 y3 y4 y5 y7 y8 y9 x28 v0_known v0_wayState v0_wayLong c2 o27.2 o27.1 c8
noncomputable def fX11_findWay_b88 (v0_rules : Int32) (v0_size : Int32) (c1 : Nat → Int32) (c3 : Nat → Int32) (c4 : Nat → Int32) (c6 : Nat → Int32) (k53 : Int32 → Int32 → Int32 → Int32 → Int32 → Int32 → Int32 → (Nat → Int32) → (Nat → Int32) → (Nat → Int32) → (Nat → Int32) → Option (Int32 × Int32 × Int32 × (Nat → Int32) × (Nat → Int32) × (Nat → Int32) × (Nat → Int32))) (k88 : Int32 → Int32 → Int32 → Int32 → Int32 → Int32 → Int32 → Int32 → Int32 → Int32 → (Nat → Int32) → (Nat → Int32) → (Nat → Int32) → (Nat → Int32) → Option (Int32 × Int32 × Int32 × (Nat → Int32) × (Nat → Int32) × (Nat → Int32) × (Nat → Int32))) (y2 : Int32) (y3 : Int32) (y4 : Int32) (y5 : Int32) (y6 : Int32) (y7 : Int32) (y8 : Int32) (v0_known : Int32) (v0_wayState : Int32) (v0_wayLong : Int32) (c2 : (Nat → Int32)) (c5 : (Nat → Int32)) (c7 : (Nat → Int32)) (c8 : (Nat → Int32)) : Option (Int32 × Int32 × Int32 × (Nat → Int32) × (Nat → Int32) × (Nat → Int32) × (Nat → Int32)) :=
  if v0_rules ≤ y8 then
    fX11_findWay_p284 v0_rules v0_size c1 c3 c4 c6 k53 y2 y3 y4 y5 v0_known v0_wayState v0_wayLong c2 c5 c7 c8
  else
    if y6 = 0 then
      nm (6 * y8) fun x31 =>
      bd (inb x31 288) <|
      nm (c3 x31.toNatClampNeg) fun x33 =>
      if x33 = y3 then
        nm (x31 + 1) fun x35 =>
        bd (inb x35 288) <|
        nm (c3 x35.toNatClampNeg) fun x37 =>
        if x37 = y7 then
          nm (y4 - 1) fun x39 =>
          nm (x31 + 3) fun x40 =>
          bd (inb x40 288) <|
          nm (c3 x40.toNatClampNeg) fun x42 =>
          if x42 = 2 then
            nm (x31 + 5) fun x44 =>
            bd (inb x44 288) <|
            nm (c3 x44.toNatClampNeg) fun x46 =>
            ob (fX11_lay x39 x46 c7 c2 c5) fun o47 =>
            nm (x39 + 1) fun x48 =>
            fX11_findWay_p171 v0_rules v0_size c1 c3 c4 c6 k53 k88 y2 y3 y4 y5 y7 y8 x31 x48 v0_known v0_wayState v0_wayLong c2 o47.2 o47.1 c8
          else
            fX11_findWay_p171 v0_rules v0_size c1 c3 c4 c6 k53 k88 y2 y3 y4 y5 y7 y8 x31 x39 v0_known v0_wayState v0_wayLong c2 c5 c7 c8
        else
          fX11_findWay_p278 v0_rules v0_size c1 c3 c4 c6 k53 k88 y2 y3 y4 y5 y6 y7 y8 v0_known v0_wayState v0_wayLong c2 c5 c7 c8
      else
        fX11_findWay_p278 v0_rules v0_size c1 c3 c4 c6 k53 k88 y2 y3 y4 y5 y6 y7 y8 v0_known v0_wayState v0_wayLong c2 c5 c7 c8
    else
      fX11_findWay_p284 v0_rules v0_size c1 c3 c4 c6 k53 y2 y3 y4 y5 v0_known v0_wayState v0_wayLong c2 c5 c7 c8
noncomputable def fX11_findWay_l88 (v0_rules : Int32) (v0_size : Int32) (c1 : Nat → Int32) (c3 : Nat → Int32) (c4 : Nat → Int32) (c6 : Nat → Int32) (k53 : Int32 → Int32 → Int32 → Int32 → Int32 → Int32 → Int32 → (Nat → Int32) → (Nat → Int32) → (Nat → Int32) → (Nat → Int32) → Option (Int32 × Int32 × Int32 × (Nat → Int32) × (Nat → Int32) × (Nat → Int32) × (Nat → Int32))) : Nat → Int32 → Int32 → Int32 → Int32 → Int32 → Int32 → Int32 → Int32 → Int32 → Int32 → (Nat → Int32) → (Nat → Int32) → (Nat → Int32) → (Nat → Int32) → Option (Int32 × Int32 × Int32 × (Nat → Int32) × (Nat → Int32) × (Nat → Int32) × (Nat → Int32))
  | 0 => fun _ _ _ _ _ _ _ _ _ _ _ _ _ _ => none
  | n + 1 => fX11_findWay_b88 v0_rules v0_size c1 c3 c4 c6 k53 (fX11_findWay_l88 v0_rules v0_size c1 c3 c4 c6 k53 n)
noncomputable def fX11_findWay_p83 (v0_rules : Int32) (v0_size : Int32) (c1 : Nat → Int32) (c3 : Nat → Int32) (c4 : Nat → Int32) (c6 : Nat → Int32) (k53 : Int32 → Int32 → Int32 → Int32 → Int32 → Int32 → Int32 → (Nat → Int32) → (Nat → Int32) → (Nat → Int32) → (Nat → Int32) → Option (Int32 × Int32 × Int32 × (Nat → Int32) × (Nat → Int32) × (Nat → Int32) × (Nat → Int32))) (y2 : Int32) (y3 : Int32) (y4 : Int32) (y5 : Int32) (y6 : Int32) (z0 : Int32) (v0_known : Int32) (v0_wayState : Int32) (v0_wayLong : Int32) (c2 : (Nat → Int32)) (c5 : (Nat → Int32)) (c7 : (Nat → Int32)) (c8 : (Nat → Int32)) : Option (Int32 × Int32 × Int32 × (Nat → Int32) × (Nat → Int32) × (Nat → Int32) × (Nat → Int32)) :=
  fX11_findWay_l88 v0_rules v0_size c1 c3 c4 c6 k53 FU y2 y3 y4 y5 y6 z0 0 v0_known v0_wayState v0_wayLong c2 c5 c7 c8
noncomputable def fX11_findWay_b53 (v0_rules : Int32) (v0_size : Int32) (c1 : Nat → Int32) (c3 : Nat → Int32) (c4 : Nat → Int32) (c6 : Nat → Int32) (k53 : Int32 → Int32 → Int32 → Int32 → Int32 → Int32 → Int32 → (Nat → Int32) → (Nat → Int32) → (Nat → Int32) → (Nat → Int32) → Option (Int32 × Int32 × Int32 × (Nat → Int32) × (Nat → Int32) × (Nat → Int32) × (Nat → Int32))) (y2 : Int32) (y3 : Int32) (y4 : Int32) (y5 : Int32) (v0_known : Int32) (v0_wayState : Int32) (v0_wayLong : Int32) (c2 : (Nat → Int32)) (c5 : (Nat → Int32)) (c7 : (Nat → Int32)) (c8 : (Nat → Int32)) : Option (Int32 × Int32 × Int32 × (Nat → Int32) × (Nat → Int32) × (Nat → Int32) × (Nat → Int32)) :=
  if v0_wayLong ≤ y5 then
    some (v0_known, v0_wayState, v0_wayLong, c2, c5, c7, c8)
  else
    if y4 ≤ 0 then
      fX11_findWay_p83 v0_rules v0_size c1 c3 c4 c6 k53 y2 y3 y4 y5 0 (-1) v0_known v0_wayState v0_wayLong c2 c5 c7 c8
    else
      nm (y4 - 1) fun x51 =>
      bd (inb x51 4008) <|
      nm (c7 x51.toNatClampNeg) fun x53 =>
      fX11_findWay_p83 v0_rules v0_size c1 c3 c4 c6 k53 y2 y3 y4 y5 0 x53 v0_known v0_wayState v0_wayLong c2 c5 c7 c8
noncomputable def fX11_findWay_l53 (v0_rules : Int32) (v0_size : Int32) (c1 : Nat → Int32) (c3 : Nat → Int32) (c4 : Nat → Int32) (c6 : Nat → Int32) : Nat → Int32 → Int32 → Int32 → Int32 → Int32 → Int32 → Int32 → (Nat → Int32) → (Nat → Int32) → (Nat → Int32) → (Nat → Int32) → Option (Int32 × Int32 × Int32 × (Nat → Int32) × (Nat → Int32) × (Nat → Int32) × (Nat → Int32))
  | 0 => fun _ _ _ _ _ _ _ _ _ _ _ => none
  | n + 1 => fX11_findWay_b53 v0_rules v0_size c1 c3 c4 c6  (fX11_findWay_l53 v0_rules v0_size c1 c3 c4 c6  n)
noncomputable def fX11_findWay (a0 : Int32) (v0_rules : Int32) (v0_size : Int32) (v0_known : Int32) (v0_wayState : Int32) (v0_wayLong : Int32) (c1 : Nat → Int32) (c2 : Nat → Int32) (c3 : Nat → Int32) (c4 : Nat → Int32) (c5 : Nat → Int32) (c6 : Nat → Int32) (c7 : Nat → Int32) (c8 : Nat → Int32) : Option (Int32 × Int32 × Int32 × (Nat → Int32) × (Nat → Int32) × (Nat → Int32) × (Nat → Int32)) :=
  ob (fX11_layWord v0_rules v0_size v0_known c1 c2 c3 c4 c5 c6 c7) fun o54 =>
  nm (16 * v0_size) fun x55 =>
  nm (x55 + a0) fun x56 =>
  bd (inb x56 64128) <|
  nm (o54.2.2.1 x56.toNatClampNeg) fun x58 =>
  if x58 ≤ 2000 then
    fX11_findWay_l53 v0_rules v0_size c1 c3 c4 c6 FU x58 a0 v0_size 0 o54.1 a0 x58 o54.2.1 o54.2.2.1 o54.2.2.2 c8
  else
    some (o54.1, a0, 0, o54.2.1, o54.2.2.1, o54.2.2.2, c8)
noncomputable def fX11_finish_p51 (c1 : Nat → Int32) (v0_codes : Int32) (v0_opSize : Int32) (v0_deep : Int32) (c2 : (Nat → Int32)) : Option (Int32 × Int32 × Int32 × (Nat → Int32)) :=
  some (v0_codes, v0_opSize, v0_deep, c2)
noncomputable def fX11_finish_b0 (c1 : Nat → Int32) (k0 : Int32 → Int32 → Int32 → (Nat → Int32) → Option (Int32 × Int32 × Int32 × (Nat → Int32))) (v0_codes : Int32) (v0_opSize : Int32) (v0_deep : Int32) (c2 : (Nat → Int32)) : Option (Int32 × Int32 × Int32 × (Nat → Int32)) :=
  if v0_opSize ≤ 0 then
    fX11_finish_p51 c1 v0_codes v0_opSize v0_deep c2
  else
    nm (v0_opSize - 1) fun x2 =>
    bd (inb x2 700) <|
    nm (c1 x2.toNatClampNeg) fun x4 =>
    if x4 = 33 then
      ob (fX11_emit 3 v0_codes c2) fun o6 =>
      nm (v0_opSize - 1) fun x7 =>
      nm (v0_deep - 1) fun x8 =>
      k0 o6.1 x7 x8 o6.2
    else
      fX11_finish_p51 c1 v0_codes v0_opSize v0_deep c2
noncomputable def fX11_finish_l0 (c1 : Nat → Int32) : Nat → Int32 → Int32 → Int32 → (Nat → Int32) → Option (Int32 × Int32 × Int32 × (Nat → Int32))
  | 0 => fun _ _ _ _ => none
  | n + 1 => fX11_finish_b0 c1  (fX11_finish_l0 c1  n)
noncomputable def fX11_finish (v0_codes : Int32) (v0_opSize : Int32) (v0_deep : Int32) (c1 : Nat → Int32) (c2 : Nat → Int32) : Option (Int32 × Int32 × Int32 × (Nat → Int32)) :=
  fX11_finish_l0 c1 FU v0_codes v0_opSize v0_deep c2
noncomputable def fX11_kindOf_p113 (v0_token : Int32) (v0_name : Int64) (z0 : Int32) : Option (Int32 × Unit) :=
  some (z0, ())
noncomputable def fX11_kindOf (v0_token : Int32) (v0_name : Int64) : Option (Int32 × Unit) :=
  if v0_token = 1 then
    fX11_kindOf_p113 v0_token v0_name 0
  else
    ob (fX11_isThe 26982 v0_token v0_name) fun o2 =>
    if o2.1 = 0 then
      ob (fX11_isThe 512852847717 v0_token v0_name) fun o4 =>
      if o4.1 = 0 then
        ob (fX11_isThe 1667329132 v0_token v0_name) fun o6 =>
        if o6.1 = 0 then
          ob (fX11_isThe 107148485161588 v0_token v0_name) fun o8 =>
          if o8.1 = 0 then
            ob (fX11_isThe 107148486208869 v0_token v0_name) fun o10 =>
            if o10.1 = 0 then
              ob (fX11_isThe 125780071117422 v0_token v0_name) fun o12 =>
              if o12.1 = 0 then
                ob (fX11_isThe 1936419184 v0_token v0_name) fun o14 =>
                if o14.1 = 0 then
                  fX11_kindOf_p113 v0_token v0_name (-1)
                else
                  fX11_kindOf_p113 v0_token v0_name 7
              else
                fX11_kindOf_p113 v0_token v0_name 6
            else
              fX11_kindOf_p113 v0_token v0_name 5
          else
            fX11_kindOf_p113 v0_token v0_name 4
        else
          fX11_kindOf_p113 v0_token v0_name 3
      else
        fX11_kindOf_p113 v0_token v0_name 2
    else
      fX11_kindOf_p113 v0_token v0_name 1
noncomputable def fX11_meetsEnd_p37 (c1 : Nat → Int32) (k4 : Int32 → Int32 → Int32 → Option (Int32 × Unit)) (y1 : Int32) (y3 : Int32) (z0 : Int32) : Option (Int32 × Unit) :=
  nm (y3 + 1) fun x1 =>
  k4 y1 z0 x1
noncomputable def fX11_meetsEnd_p32 (c1 : Nat → Int32) (k4 : Int32 → Int32 → Int32 → Option (Int32 × Unit)) (y1 : Int32) (y3 : Int32) : Option (Int32 × Unit) :=
  fX11_meetsEnd_p37 c1 k4 y1 y3 1
noncomputable def fX11_meetsEnd_p36 (c1 : Nat → Int32) (k4 : Int32 → Int32 → Int32 → Option (Int32 × Unit)) (y1 : Int32) (y3 : Int32) : Option (Int32 × Unit) :=
  fX11_meetsEnd_p37 c1 k4 y1 y3 0
noncomputable def fX11_meetsEnd_b4 (c1 : Nat → Int32) (k4 : Int32 → Int32 → Int32 → Option (Int32 × Unit)) (y1 : Int32) (y2 : Int32) (y3 : Int32) : Option (Int32 × Unit) :=
  if 16 ≤ y3 then
    bd (bz y2) <|
    some (y2, ())
  else
    if y2 = 0 then
      nm (y1 >>> (y3 &&& 31)) fun x5 =>
      nm (x5 &&& 1) fun x6 =>
      if x6 = 1 then
        bd (inb y3 16) <|
        nm (c1 y3.toNatClampNeg) fun x9 =>
        if x9 = 0 then
          fX11_meetsEnd_p36 c1 k4 y1 y3
        else
          fX11_meetsEnd_p32 c1 k4 y1 y3
      else
        fX11_meetsEnd_p36 c1 k4 y1 y3
    else
      fX11_meetsEnd_p32 c1 k4 y1 y3
noncomputable def fX11_meetsEnd_l4 (c1 : Nat → Int32) : Nat → Int32 → Int32 → Int32 → Option (Int32 × Unit)
  | 0 => fun _ _ _ => none
  | n + 1 => fX11_meetsEnd_b4 c1  (fX11_meetsEnd_l4 c1  n)
noncomputable def fX11_meetsEnd (a0 : Int32) (c1 : Nat → Int32) : Option (Int32 × Unit) :=
  fX11_meetsEnd_l4 c1 FU a0 0 0
noncomputable def fX11_lies_p141 (v0_size : Int32) (c1 : Nat → Int32) (c2 : Nat → Int32) (c3 : Nat → Int32) (z0 : Int32) (v0_thrown : Int32) : Option (Int32 × Int32) :=
  some (z0, v0_thrown)
noncomputable def fX11_lies_p104 (v0_size : Int32) (c1 : Nat → Int32) (c2 : Nat → Int32) (c3 : Nat → Int32) (k29 : Int32 → Int32 → Int32 → Option (Int32 × Int32)) (k39 : Int32 → Int32 → Int32 → Int32 → Int32 → Option (Int32 × Int32)) (k50 : Int32 → Int32 → Int32 → Int32 → Int32 → Int32 → Option (Int32 × Int32)) (y2 : Int32) (y3 : Int32) (y5 : Int32) (y6 : Int32) (z0 : Int32) (z1 : Int32) (v0_thrown : Int32) : Option (Int32 × Int32) :=
  nm (z1 ||| z0) fun x1 =>
  nm (y6 + 1) fun x2 =>
  k50 y2 y3 x1 y5 x2 v0_thrown
noncomputable def fX11_lies_p103 (v0_size : Int32) (c1 : Nat → Int32) (c2 : Nat → Int32) (c3 : Nat → Int32) (k29 : Int32 → Int32 → Int32 → Option (Int32 × Int32)) (k39 : Int32 → Int32 → Int32 → Int32 → Int32 → Option (Int32 × Int32)) (k50 : Int32 → Int32 → Int32 → Int32 → Int32 → Int32 → Option (Int32 × Int32)) (y2 : Int32) (y3 : Int32) (y5 : Int32) (y6 : Int32) (z0 : Int32) (v0_thrown : Int32) : Option (Int32 × Int32) :=
  fX11_lies_p104 v0_size c1 c2 c3 k29 k39 k50 y2 y3 y5 y6 0 z0 v0_thrown
noncomputable def fX11_lies_b50 (v0_size : Int32) (c1 : Nat → Int32) (c2 : Nat → Int32) (c3 : Nat → Int32) (k29 : Int32 → Int32 → Int32 → Option (Int32 × Int32)) (k39 : Int32 → Int32 → Int32 → Int32 → Int32 → Option (Int32 × Int32)) (k50 : Int32 → Int32 → Int32 → Int32 → Int32 → Int32 → Option (Int32 × Int32)) (y2 : Int32) (y3 : Int32) (y4 : Int32) (y5 : Int32) (y6 : Int32) (v0_thrown : Int32) : Option (Int32 × Int32) :=
  if 16 ≤ y6 then
    nm (y5 + 1) fun x4 =>
    k39 y2 y3 y4 x4 v0_thrown
  else
    nm (y2 >>> (y5 &&& 31)) fun x5 =>
    nm (x5 &&& 1) fun x6 =>
    if x6 = 1 then
      nm (192 * y5) fun x8 =>
      bd (inb y3 30) <|
      nm (c1 y3.toNatClampNeg) fun x10 =>
      nm (16 * x10) fun x11 =>
      nm (x8 + x11) fun x12 =>
      nm (x12 + y6) fun x13 =>
      bd (inb x13 3072) <|
      nm (c2 x13.toNatClampNeg) fun x15 =>
      if x15 = 0 then
        fX11_lies_p103 v0_size c1 c2 c3 k29 k39 k50 y2 y3 y5 y6 y4 v0_thrown
      else
        nm (1 <<< (y6 &&& 31)) fun x17 =>
        fX11_lies_p104 v0_size c1 c2 c3 k29 k39 k50 y2 y3 y5 y6 x17 y4 v0_thrown
    else
      fX11_lies_p103 v0_size c1 c2 c3 k29 k39 k50 y2 y3 y5 y6 y4 v0_thrown
noncomputable def fX11_lies_l50 (v0_size : Int32) (c1 : Nat → Int32) (c2 : Nat → Int32) (c3 : Nat → Int32) (k29 : Int32 → Int32 → Int32 → Option (Int32 × Int32)) (k39 : Int32 → Int32 → Int32 → Int32 → Int32 → Option (Int32 × Int32)) : Nat → Int32 → Int32 → Int32 → Int32 → Int32 → Int32 → Option (Int32 × Int32)
  | 0 => fun _ _ _ _ _ _ => none
  | n + 1 => fX11_lies_b50 v0_size c1 c2 c3 k29 k39 (fX11_lies_l50 v0_size c1 c2 c3 k29 k39 n)
noncomputable def fX11_lies_b39 (v0_size : Int32) (c1 : Nat → Int32) (c2 : Nat → Int32) (c3 : Nat → Int32) (k29 : Int32 → Int32 → Int32 → Option (Int32 × Int32)) (k39 : Int32 → Int32 → Int32 → Int32 → Int32 → Option (Int32 × Int32)) (y2 : Int32) (y3 : Int32) (y4 : Int32) (y5 : Int32) (v0_thrown : Int32) : Option (Int32 × Int32) :=
  if 16 ≤ y5 then
    nm (y3 + (-1)) fun x19 =>
    k29 y4 x19 v0_thrown
  else
    fX11_lies_l50 v0_size c1 c2 c3 k29 k39 FU y2 y3 y4 y5 8 v0_thrown
noncomputable def fX11_lies_l39 (v0_size : Int32) (c1 : Nat → Int32) (c2 : Nat → Int32) (c3 : Nat → Int32) (k29 : Int32 → Int32 → Int32 → Option (Int32 × Int32)) : Nat → Int32 → Int32 → Int32 → Int32 → Int32 → Option (Int32 × Int32)
  | 0 => fun _ _ _ _ _ => none
  | n + 1 => fX11_lies_b39 v0_size c1 c2 c3 k29 (fX11_lies_l39 v0_size c1 c2 c3 k29 n)
noncomputable def fX11_lies_b29 (v0_size : Int32) (c1 : Nat → Int32) (c2 : Nat → Int32) (c3 : Nat → Int32) (k29 : Int32 → Int32 → Int32 → Option (Int32 × Int32)) (y2 : Int32) (y3 : Int32) (v0_thrown : Int32) : Option (Int32 × Int32) :=
  if y3 < 0 then
    ob (fX11_meetsEnd y2 c3) fun o21 =>
    if o21.1 = 0 then
      fX11_lies_p141 v0_size c1 c2 c3 0 v0_thrown
    else
      fX11_lies_p141 v0_size c1 c2 c3 1 v0_thrown
  else
    fX11_lies_l39 v0_size c1 c2 c3 k29 FU y2 y3 0 0 v0_thrown
noncomputable def fX11_lies_l29 (v0_size : Int32) (c1 : Nat → Int32) (c2 : Nat → Int32) (c3 : Nat → Int32) : Nat → Int32 → Int32 → Int32 → Option (Int32 × Int32)
  | 0 => fun _ _ _ => none
  | n + 1 => fX11_lies_b29 v0_size c1 c2 c3  (fX11_lies_l29 v0_size c1 c2 c3  n)
noncomputable def fX11_lies (a0 : Int32) (v0_thrown : Int32) (v0_size : Int32) (c1 : Nat → Int32) (c2 : Nat → Int32) (c3 : Nat → Int32) : Option (Int32 × Int32) :=
  ob (fX11_in a0 0 7) fun o23 =>
  if o23.1 = 0 then
    some ((-2), 0)
  else
    nm (1 <<< (a0 &&& 31)) fun x25 =>
    nm (v0_size - 1) fun x26 =>
    fX11_lies_l29 v0_size c1 c2 c3 FU x25 x26 0
noncomputable def fX11_take_p18 (v0_textSize : Int32) (c1 : Nat → Int32) (y2 : Int32) (v0_from : Int32) (v0_to : Int32) (v0_token : Int32) (v0_name : Int64) (v0_wrong : Int32) (v0_wrongAt : Int32) : Option (Int32 × Int32 × Int32 × Int32 × Int64 × Int32 × Int32) :=
  bd (bz y2) <|
  some (y2, (v0_from, v0_to, v0_token, v0_name, v0_wrong, v0_wrongAt))
noncomputable def fX11_take (a0 : Int32) (v0_textSize : Int32) (v0_from : Int32) (v0_to : Int32) (v0_token : Int32) (v0_name : Int64) (v0_wrong : Int32) (v0_wrongAt : Int32) (c1 : Nat → Int32) : Option (Int32 × Int32 × Int32 × Int32 × Int64 × Int32 × Int32) :=
  ob (fX11_sees a0 v0_textSize v0_from v0_token c1) fun o2 =>
  ob (fX11_may o2.1 v0_from v0_token v0_wrong v0_wrongAt) fun o3 =>
  if o3.1 = 0 then
    fX11_take_p18 v0_textSize c1 o3.1 v0_from v0_to v0_token v0_name o3.2.1 o3.2.2
  else
    ob (fX11_next v0_textSize v0_from v0_to v0_token v0_name c1) fun o5 =>
    fX11_take_p18 v0_textSize c1 o3.1 o5.1 o5.2.1 o5.2.2.1 o5.2.2.2 o3.2.1 o3.2.2
noncomputable def fX11_takeVars_p152 (v0_textSize : Int32) (c4 : Nat → Int32) (v0_from : Int32) (v0_to : Int32) (v0_token : Int32) (v0_name : Int64) (v0_wrong : Int32) (v0_wrongAt : Int32) (v0_globals : Int32) (c1 : (Nat → Int64)) (c2 : (Nat → Int32)) (c3 : (Nat → Int64)) : Option (Int32 × Int32 × Int32 × Int32 × Int64 × Int32 × Int32 × Int32 × (Nat → Int64) × (Nat → Int32) × (Nat → Int64)) :=
  ob (fX11_fail 3 v0_from v0_wrong v0_wrongAt) fun o1 =>
  bd (bz o1.1) <|
  some (o1.1, (v0_from, v0_to, v0_token, v0_name, o1.2.1, o1.2.2, v0_globals, c1, c2, c3))
noncomputable def fX11_takeVars_p241 (v0_textSize : Int32) (c4 : Nat → Int32) (k2 : Int32 → Int32 → Int32 → Int32 → Int32 → Int64 → Int32 → Int32 → Int32 → (Nat → Int64) → (Nat → Int32) → (Nat → Int64) → Option (Int32 × Int32 × Int32 × Int32 × Int64 × Int32 × Int32 × Int32 × (Nat → Int64) × (Nat → Int32) × (Nat → Int64))) (y1 : Int32) (y2 : Int32) (v0_from : Int32) (v0_to : Int32) (v0_token : Int32) (v0_name : Int64) (v0_wrong : Int32) (v0_wrongAt : Int32) (v0_globals : Int32) (c1 : (Nat → Int64)) (c2 : (Nat → Int32)) (c3 : (Nat → Int64)) : Option (Int32 × Int32 × Int32 × Int32 × Int64 × Int32 × Int32 × Int32 × (Nat → Int64) × (Nat → Int32) × (Nat → Int64)) :=
  k2 y1 y2 v0_from v0_to v0_token v0_name v0_wrong v0_wrongAt v0_globals c1 c2 c3
noncomputable def fX11_takeVars_p222 (v0_textSize : Int32) (c4 : Nat → Int32) (k2 : Int32 → Int32 → Int32 → Int32 → Int32 → Int64 → Int32 → Int32 → Int32 → (Nat → Int64) → (Nat → Int32) → (Nat → Int64) → Option (Int32 × Int32 × Int32 × Int32 × Int64 × Int32 × Int32 × Int32 × (Nat → Int64) × (Nat → Int32) × (Nat → Int64))) (y1 : Int32) (v0_from : Int32) (v0_to : Int32) (v0_token : Int32) (v0_name : Int64) (v0_wrong : Int32) (v0_wrongAt : Int32) (v0_globals : Int32) (c1 : (Nat → Int64)) (c2 : (Nat → Int32)) (c3 : (Nat → Int64)) : Option (Int32 × Int32 × Int32 × Int32 × Int64 × Int32 × Int32 × Int32 × (Nat → Int64) × (Nat → Int32) × (Nat → Int64)) :=
  ob (fX11_next v0_textSize v0_from v0_to v0_token v0_name c4) fun o3 =>
  ob (fX11_sees 44 v0_textSize o3.1 o3.2.2.1 c4) fun o4 =>
  if o4.1 = 0 then
    fX11_takeVars_p241 v0_textSize c4 k2 y1 o4.1 o3.1 o3.2.1 o3.2.2.1 o3.2.2.2 v0_wrong v0_wrongAt v0_globals c1 c2 c3
  else
    ob (fX11_next v0_textSize o3.1 o3.2.1 o3.2.2.1 o3.2.2.2 c4) fun o6 =>
    fX11_takeVars_p241 v0_textSize c4 k2 y1 o4.1 o6.1 o6.2.1 o6.2.2.1 o6.2.2.2 v0_wrong v0_wrongAt v0_globals c1 c2 c3
noncomputable def fX11_takeVars_p162 (v0_textSize : Int32) (c4 : Nat → Int32) (k2 : Int32 → Int32 → Int32 → Int32 → Int32 → Int64 → Int32 → Int32 → Int32 → (Nat → Int64) → (Nat → Int32) → (Nat → Int64) → Option (Int32 × Int32 × Int32 × Int32 × Int64 × Int32 × Int32 × Int32 × (Nat → Int64) × (Nat → Int32) × (Nat → Int64))) (y1 : Int32) (v0_from : Int32) (v0_to : Int32) (v0_token : Int32) (v0_name : Int64) (v0_wrong : Int32) (v0_wrongAt : Int32) (v0_globals : Int32) (c1 : (Nat → Int64)) (c2 : (Nat → Int32)) (c3 : (Nat → Int64)) : Option (Int32 × Int32 × Int32 × Int32 × Int64 × Int32 × Int32 × Int32 × (Nat → Int64) × (Nat → Int32) × (Nat → Int64)) :=
  if y1 = (-1) then
    bd (inb v0_globals 3) <|
    nm (vp_updL c1 v0_globals.toNatClampNeg v0_name) fun c17x =>
    nm (v0_globals + 1) fun x18 =>
    fX11_takeVars_p222 v0_textSize c4 k2 y1 v0_from v0_to v0_token v0_name v0_wrong v0_wrongAt x18 c17x c2 c3
  else
    nm (2 * y1) fun x8 =>
    bd (inb y1 6) <|
    nm (c2 y1.toNatClampNeg) fun x10 =>
    nm (x8 + x10) fun x11 =>
    bd (inb x11 12) <|
    nm (vp_updL c3 x11.toNatClampNeg v0_name) fun c12x =>
    bd (inb y1 6) <|
    nm (c2 y1.toNatClampNeg) fun x14 =>
    nm (x14 + 1) fun x15 =>
    bd (inb y1 6) <|
    nm (upd c2 y1.toNatClampNeg x15) fun c16x =>
    fX11_takeVars_p222 v0_textSize c4 k2 y1 v0_from v0_to v0_token v0_name v0_wrong v0_wrongAt v0_globals c1 c16x c12x
noncomputable def fX11_takeVars_p121 (v0_textSize : Int32) (c4 : Nat → Int32) (k2 : Int32 → Int32 → Int32 → Int32 → Int32 → Int64 → Int32 → Int32 → Int32 → (Nat → Int64) → (Nat → Int32) → (Nat → Int64) → Option (Int32 × Int32 × Int32 × Int32 × Int64 × Int32 × Int32 × Int32 × (Nat → Int64) × (Nat → Int32) × (Nat → Int64))) (y1 : Int32) (y3 : Int32) (v0_from : Int32) (v0_to : Int32) (v0_token : Int32) (v0_name : Int64) (v0_wrong : Int32) (v0_wrongAt : Int32) (v0_globals : Int32) (c1 : (Nat → Int64)) (c2 : (Nat → Int32)) (c3 : (Nat → Int64)) : Option (Int32 × Int32 × Int32 × Int32 × Int64 × Int32 × Int32 × Int32 × (Nat → Int64) × (Nat → Int32) × (Nat → Int64)) :=
  if y3 = (-1) then
    if y1 = (-1) then
      if v0_globals = 3 then
        fX11_takeVars_p152 v0_textSize c4 v0_from v0_to v0_token v0_name v0_wrong v0_wrongAt v0_globals c1 c2 c3
      else
        fX11_takeVars_p162 v0_textSize c4 k2 y1 v0_from v0_to v0_token v0_name v0_wrong v0_wrongAt v0_globals c1 c2 c3
    else
      bd (inb y1 6) <|
      nm (c2 y1.toNatClampNeg) fun x22 =>
      if x22 = 2 then
        fX11_takeVars_p152 v0_textSize c4 v0_from v0_to v0_token v0_name v0_wrong v0_wrongAt v0_globals c1 c2 c3
      else
        fX11_takeVars_p162 v0_textSize c4 k2 y1 v0_from v0_to v0_token v0_name v0_wrong v0_wrongAt v0_globals c1 c2 c3
  else
    fX11_takeVars_p152 v0_textSize c4 v0_from v0_to v0_token v0_name v0_wrong v0_wrongAt v0_globals c1 c2 c3
noncomputable def fX11_takeVars_p114 (v0_textSize : Int32) (c4 : Nat → Int32) (k2 : Int32 → Int32 → Int32 → Int32 → Int32 → Int64 → Int32 → Int32 → Int32 → (Nat → Int64) → (Nat → Int32) → (Nat → Int64) → Option (Int32 × Int32 × Int32 × Int32 × Int64 × Int32 × Int32 × Int32 × (Nat → Int64) × (Nat → Int32) × (Nat → Int64))) (k73 : Int32 → Int32 → Int32 → Int32 → Int32 → Int32 → Int64 → Int32 → Int32 → Int32 → (Nat → Int64) → (Nat → Int32) → (Nat → Int64) → Option (Int32 × Int32 × Int32 × Int32 × Int64 × Int32 × Int32 × Int32 × (Nat → Int64) × (Nat → Int32) × (Nat → Int64))) (y1 : Int32) (y4 : Int32) (z0 : Int32) (v0_from : Int32) (v0_to : Int32) (v0_token : Int32) (v0_name : Int64) (v0_wrong : Int32) (v0_wrongAt : Int32) (v0_globals : Int32) (c1 : (Nat → Int64)) (c2 : (Nat → Int32)) (c3 : (Nat → Int64)) : Option (Int32 × Int32 × Int32 × Int32 × Int64 × Int32 × Int32 × Int32 × (Nat → Int64) × (Nat → Int32) × (Nat → Int64)) :=
  nm (y4 + 1) fun x25 =>
  k73 y1 z0 x25 v0_from v0_to v0_token v0_name v0_wrong v0_wrongAt v0_globals c1 c2 c3
noncomputable def fX11_takeVars_b73 (v0_textSize : Int32) (c4 : Nat → Int32) (k2 : Int32 → Int32 → Int32 → Int32 → Int32 → Int64 → Int32 → Int32 → Int32 → (Nat → Int64) → (Nat → Int32) → (Nat → Int64) → Option (Int32 × Int32 × Int32 × Int32 × Int64 × Int32 × Int32 × Int32 × (Nat → Int64) × (Nat → Int32) × (Nat → Int64))) (k73 : Int32 → Int32 → Int32 → Int32 → Int32 → Int32 → Int64 → Int32 → Int32 → Int32 → (Nat → Int64) → (Nat → Int32) → (Nat → Int64) → Option (Int32 × Int32 × Int32 × Int32 × Int64 × Int32 × Int32 × Int32 × (Nat → Int64) × (Nat → Int32) × (Nat → Int64))) (y1 : Int32) (y3 : Int32) (y4 : Int32) (v0_from : Int32) (v0_to : Int32) (v0_token : Int32) (v0_name : Int64) (v0_wrong : Int32) (v0_wrongAt : Int32) (v0_globals : Int32) (c1 : (Nat → Int64)) (c2 : (Nat → Int32)) (c3 : (Nat → Int64)) : Option (Int32 × Int32 × Int32 × Int32 × Int64 × Int32 × Int32 × Int32 × (Nat → Int64) × (Nat → Int32) × (Nat → Int64)) :=
  if y1 = (-1) then
    fX11_takeVars_p121 v0_textSize c4 k2 y1 y3 v0_from v0_to v0_token v0_name v0_wrong v0_wrongAt v0_globals c1 c2 c3
  else
    bd (inb y1 6) <|
    nm (c2 y1.toNatClampNeg) fun x28 =>
    if x28 ≤ y4 then
      fX11_takeVars_p121 v0_textSize c4 k2 y1 y3 v0_from v0_to v0_token v0_name v0_wrong v0_wrongAt v0_globals c1 c2 c3
    else
      nm (2 * y1) fun x30 =>
      nm (x30 + y4) fun x31 =>
      bd (inb x31 12) <|
      nm (c3 x31.toNatClampNeg) fun x33 =>
      nm (lg_cmp x33 v0_name) fun x34 =>
      if x34 = 0 then
        fX11_takeVars_p114 v0_textSize c4 k2 k73 y1 y4 y4 v0_from v0_to v0_token v0_name v0_wrong v0_wrongAt v0_globals c1 c2 c3
      else
        fX11_takeVars_p114 v0_textSize c4 k2 k73 y1 y4 y3 v0_from v0_to v0_token v0_name v0_wrong v0_wrongAt v0_globals c1 c2 c3
noncomputable def fX11_takeVars_l73 (v0_textSize : Int32) (c4 : Nat → Int32) (k2 : Int32 → Int32 → Int32 → Int32 → Int32 → Int64 → Int32 → Int32 → Int32 → (Nat → Int64) → (Nat → Int32) → (Nat → Int64) → Option (Int32 × Int32 × Int32 × Int32 × Int64 × Int32 × Int32 × Int32 × (Nat → Int64) × (Nat → Int32) × (Nat → Int64))) : Nat → Int32 → Int32 → Int32 → Int32 → Int32 → Int32 → Int64 → Int32 → Int32 → Int32 → (Nat → Int64) → (Nat → Int32) → (Nat → Int64) → Option (Int32 × Int32 × Int32 × Int32 × Int64 × Int32 × Int32 × Int32 × (Nat → Int64) × (Nat → Int32) × (Nat → Int64))
  | 0 => fun _ _ _ _ _ _ _ _ _ _ _ _ _ => none
  | n + 1 => fX11_takeVars_b73 v0_textSize c4 k2 (fX11_takeVars_l73 v0_textSize c4 k2 n)
noncomputable def fX11_takeVars_p63 (v0_textSize : Int32) (c4 : Nat → Int32) (k2 : Int32 → Int32 → Int32 → Int32 → Int32 → Int64 → Int32 → Int32 → Int32 → (Nat → Int64) → (Nat → Int32) → (Nat → Int64) → Option (Int32 × Int32 × Int32 × Int32 × Int64 × Int32 × Int32 × Int32 × (Nat → Int64) × (Nat → Int32) × (Nat → Int64))) (k33 : Int32 → Int32 → Int32 → Int32 → Int32 → Int32 → Int64 → Int32 → Int32 → Int32 → (Nat → Int64) → (Nat → Int32) → (Nat → Int64) → Option (Int32 × Int32 × Int32 × Int32 × Int64 × Int32 × Int32 × Int32 × (Nat → Int64) × (Nat → Int32) × (Nat → Int64))) (y1 : Int32) (y4 : Int32) (z0 : Int32) (v0_from : Int32) (v0_to : Int32) (v0_token : Int32) (v0_name : Int64) (v0_wrong : Int32) (v0_wrongAt : Int32) (v0_globals : Int32) (c1 : (Nat → Int64)) (c2 : (Nat → Int32)) (c3 : (Nat → Int64)) : Option (Int32 × Int32 × Int32 × Int32 × Int64 × Int32 × Int32 × Int32 × (Nat → Int64) × (Nat → Int32) × (Nat → Int64)) :=
  nm (y4 + 1) fun x36 =>
  k33 y1 z0 x36 v0_from v0_to v0_token v0_name v0_wrong v0_wrongAt v0_globals c1 c2 c3
noncomputable def fX11_takeVars_b33 (v0_textSize : Int32) (c4 : Nat → Int32) (k2 : Int32 → Int32 → Int32 → Int32 → Int32 → Int64 → Int32 → Int32 → Int32 → (Nat → Int64) → (Nat → Int32) → (Nat → Int64) → Option (Int32 × Int32 × Int32 × Int32 × Int64 × Int32 × Int32 × Int32 × (Nat → Int64) × (Nat → Int32) × (Nat → Int64))) (k33 : Int32 → Int32 → Int32 → Int32 → Int32 → Int32 → Int64 → Int32 → Int32 → Int32 → (Nat → Int64) → (Nat → Int32) → (Nat → Int64) → Option (Int32 × Int32 × Int32 × Int32 × Int64 × Int32 × Int32 × Int32 × (Nat → Int64) × (Nat → Int32) × (Nat → Int64))) (y1 : Int32) (y3 : Int32) (y4 : Int32) (v0_from : Int32) (v0_to : Int32) (v0_token : Int32) (v0_name : Int64) (v0_wrong : Int32) (v0_wrongAt : Int32) (v0_globals : Int32) (c1 : (Nat → Int64)) (c2 : (Nat → Int32)) (c3 : (Nat → Int64)) : Option (Int32 × Int32 × Int32 × Int32 × Int64 × Int32 × Int32 × Int32 × (Nat → Int64) × (Nat → Int32) × (Nat → Int64)) :=
  if v0_globals ≤ y4 then
    fX11_takeVars_l73 v0_textSize c4 k2 FU y1 y3 0 v0_from v0_to v0_token v0_name v0_wrong v0_wrongAt v0_globals c1 c2 c3
  else
    bd (inb y4 3) <|
    nm (c1 y4.toNatClampNeg) fun x39 =>
    nm (lg_cmp x39 v0_name) fun x40 =>
    if x40 = 0 then
      fX11_takeVars_p63 v0_textSize c4 k2 k33 y1 y4 y4 v0_from v0_to v0_token v0_name v0_wrong v0_wrongAt v0_globals c1 c2 c3
    else
      fX11_takeVars_p63 v0_textSize c4 k2 k33 y1 y4 y3 v0_from v0_to v0_token v0_name v0_wrong v0_wrongAt v0_globals c1 c2 c3
noncomputable def fX11_takeVars_l33 (v0_textSize : Int32) (c4 : Nat → Int32) (k2 : Int32 → Int32 → Int32 → Int32 → Int32 → Int64 → Int32 → Int32 → Int32 → (Nat → Int64) → (Nat → Int32) → (Nat → Int64) → Option (Int32 × Int32 × Int32 × Int32 × Int64 × Int32 × Int32 × Int32 × (Nat → Int64) × (Nat → Int32) × (Nat → Int64))) : Nat → Int32 → Int32 → Int32 → Int32 → Int32 → Int32 → Int64 → Int32 → Int32 → Int32 → (Nat → Int64) → (Nat → Int32) → (Nat → Int64) → Option (Int32 × Int32 × Int32 × Int32 × Int64 × Int32 × Int32 × Int32 × (Nat → Int64) × (Nat → Int32) × (Nat → Int64))
  | 0 => fun _ _ _ _ _ _ _ _ _ _ _ _ _ => none
  | n + 1 => fX11_takeVars_b33 v0_textSize c4 k2 (fX11_takeVars_l33 v0_textSize c4 k2 n)
noncomputable def fX11_takeVars_p20 (v0_textSize : Int32) (c4 : Nat → Int32) (k2 : Int32 → Int32 → Int32 → Int32 → Int32 → Int64 → Int32 → Int32 → Int32 → (Nat → Int64) → (Nat → Int32) → (Nat → Int64) → Option (Int32 × Int32 × Int32 × Int32 × Int64 × Int32 × Int32 × Int32 × (Nat → Int64) × (Nat → Int32) × (Nat → Int64))) (y1 : Int32) (z0 : Int32) (v0_from : Int32) (v0_to : Int32) (v0_token : Int32) (v0_name : Int64) (v0_wrong : Int32) (v0_wrongAt : Int32) (v0_globals : Int32) (c1 : (Nat → Int64)) (c2 : (Nat → Int32)) (c3 : (Nat → Int64)) : Option (Int32 × Int32 × Int32 × Int32 × Int64 × Int32 × Int32 × Int32 × (Nat → Int64) × (Nat → Int32) × (Nat → Int64)) :=
  ob (fX11_may z0 v0_from v0_token v0_wrong v0_wrongAt) fun o42 =>
  if o42.1 = 0 then
    some (0, (v0_from, v0_to, v0_token, v0_name, o42.2.1, o42.2.2, v0_globals, c1, c2, c3))
  else
    fX11_takeVars_l33 v0_textSize c4 k2 FU y1 (-1) 0 v0_from v0_to v0_token v0_name o42.2.1 o42.2.2 v0_globals c1 c2 c3
noncomputable def fX11_takeVars_b2 (v0_textSize : Int32) (c4 : Nat → Int32) (k2 : Int32 → Int32 → Int32 → Int32 → Int32 → Int64 → Int32 → Int32 → Int32 → (Nat → Int64) → (Nat → Int32) → (Nat → Int64) → Option (Int32 × Int32 × Int32 × Int32 × Int64 × Int32 × Int32 × Int32 × (Nat → Int64) × (Nat → Int32) × (Nat → Int64))) (y1 : Int32) (y2 : Int32) (v0_from : Int32) (v0_to : Int32) (v0_token : Int32) (v0_name : Int64) (v0_wrong : Int32) (v0_wrongAt : Int32) (v0_globals : Int32) (c1 : (Nat → Int64)) (c2 : (Nat → Int32)) (c3 : (Nat → Int64)) : Option (Int32 × Int32 × Int32 × Int32 × Int64 × Int32 × Int32 × Int32 × (Nat → Int64) × (Nat → Int32) × (Nat → Int64)) :=
  if y2 = 0 then
    ob (fX11_take 59 v0_textSize v0_from v0_to v0_token v0_name v0_wrong v0_wrongAt c4) fun o45 =>
    bd (bz o45.1) <|
    some (o45.1, (o45.2.1, o45.2.2.1, o45.2.2.2.1, o45.2.2.2.2.1, o45.2.2.2.2.2.1, o45.2.2.2.2.2.2, v0_globals, c1, c2, c3))
  else
    if v0_token = 1 then
      fX11_takeVars_p20 v0_textSize c4 k2 y1 1 v0_from v0_to v0_token v0_name v0_wrong v0_wrongAt v0_globals c1 c2 c3
    else
      fX11_takeVars_p20 v0_textSize c4 k2 y1 0 v0_from v0_to v0_token v0_name v0_wrong v0_wrongAt v0_globals c1 c2 c3
noncomputable def fX11_takeVars_l2 (v0_textSize : Int32) (c4 : Nat → Int32) : Nat → Int32 → Int32 → Int32 → Int32 → Int32 → Int64 → Int32 → Int32 → Int32 → (Nat → Int64) → (Nat → Int32) → (Nat → Int64) → Option (Int32 × Int32 × Int32 × Int32 × Int64 × Int32 × Int32 × Int32 × (Nat → Int64) × (Nat → Int32) × (Nat → Int64))
  | 0 => fun _ _ _ _ _ _ _ _ _ _ _ _ => none
  | n + 1 => fX11_takeVars_b2 v0_textSize c4  (fX11_takeVars_l2 v0_textSize c4  n)
noncomputable def fX11_takeVars (a0 : Int32) (v0_textSize : Int32) (v0_from : Int32) (v0_to : Int32) (v0_token : Int32) (v0_name : Int64) (v0_wrong : Int32) (v0_wrongAt : Int32) (v0_globals : Int32) (c1 : Nat → Int64) (c2 : Nat → Int32) (c3 : Nat → Int64) (c4 : Nat → Int32) : Option (Int32 × Int32 × Int32 × Int32 × Int64 × Int32 × Int32 × Int32 × (Nat → Int64) × (Nat → Int32) × (Nat → Int64)) :=
  fX11_takeVars_l2 v0_textSize c4 FU a0 1 v0_from v0_to v0_token v0_name v0_wrong v0_wrongAt v0_globals c1 c2 c3
noncomputable def fX11_variable_p85 (v0_globals : Int32) (c1 : Nat → Int64) (c2 : Nat → Int32) (c3 : Nat → Int64) (k48 : Int32 → Int64 → Int32 → Int32 → Option (Int32 × Unit)) (y1 : Int32) (y2 : Int64) (y5 : Int32) (z0 : Int32) : Option (Int32 × Unit) :=
  nm (y5 + 1) fun x1 =>
  k48 y1 y2 z0 x1
noncomputable def fX11_variable_b48 (v0_globals : Int32) (c1 : Nat → Int64) (c2 : Nat → Int32) (c3 : Nat → Int64) (k48 : Int32 → Int64 → Int32 → Int32 → Option (Int32 × Unit)) (y1 : Int32) (y2 : Int64) (y4 : Int32) (y5 : Int32) : Option (Int32 × Unit) :=
  bd (inb y1 6) <|
  nm (c2 y1.toNatClampNeg) fun x3 =>
  if x3 ≤ y5 then
    some (y4, ())
  else
    nm (2 * y1) fun x5 =>
    nm (x5 + y5) fun x6 =>
    bd (inb x6 12) <|
    nm (c3 x6.toNatClampNeg) fun x8 =>
    nm (lg_cmp x8 y2) fun x9 =>
    if x9 = 0 then
      nm (24 + y5) fun x11 =>
      fX11_variable_p85 v0_globals c1 c2 c3 k48 y1 y2 y5 x11
    else
      fX11_variable_p85 v0_globals c1 c2 c3 k48 y1 y2 y5 y4
noncomputable def fX11_variable_l48 (v0_globals : Int32) (c1 : Nat → Int64) (c2 : Nat → Int32) (c3 : Nat → Int64) : Nat → Int32 → Int64 → Int32 → Int32 → Option (Int32 × Unit)
  | 0 => fun _ _ _ _ => none
  | n + 1 => fX11_variable_b48 v0_globals c1 c2 c3  (fX11_variable_l48 v0_globals c1 c2 c3  n)
noncomputable def fX11_variable_p37 (v0_globals : Int32) (c1 : Nat → Int64) (c2 : Nat → Int32) (c3 : Nat → Int64) (k6 : Int32 → Int64 → Int32 → Int32 → Option (Int32 × Unit)) (y1 : Int32) (y2 : Int64) (y5 : Int32) (z0 : Int32) : Option (Int32 × Unit) :=
  nm (y5 + 1) fun x12 =>
  k6 y1 y2 z0 x12
noncomputable def fX11_variable_b6 (v0_globals : Int32) (c1 : Nat → Int64) (c2 : Nat → Int32) (c3 : Nat → Int64) (k6 : Int32 → Int64 → Int32 → Int32 → Option (Int32 × Unit)) (y1 : Int32) (y2 : Int64) (y4 : Int32) (y5 : Int32) : Option (Int32 × Unit) :=
  if v0_globals ≤ y5 then
    fX11_variable_l48 v0_globals c1 c2 c3 FU y1 y2 y4 0
  else
    bd (inb y5 3) <|
    nm (c1 y5.toNatClampNeg) fun x15 =>
    nm (lg_cmp x15 y2) fun x16 =>
    if x16 = 0 then
      nm (16 + y5) fun x18 =>
      fX11_variable_p37 v0_globals c1 c2 c3 k6 y1 y2 y5 x18
    else
      fX11_variable_p37 v0_globals c1 c2 c3 k6 y1 y2 y5 y4
noncomputable def fX11_variable_l6 (v0_globals : Int32) (c1 : Nat → Int64) (c2 : Nat → Int32) (c3 : Nat → Int64) : Nat → Int32 → Int64 → Int32 → Int32 → Option (Int32 × Unit)
  | 0 => fun _ _ _ _ => none
  | n + 1 => fX11_variable_b6 v0_globals c1 c2 c3  (fX11_variable_l6 v0_globals c1 c2 c3  n)
noncomputable def fX11_variable (a0 : Int32) (a1 : Int64) (v0_globals : Int32) (c1 : Nat → Int64) (c2 : Nat → Int32) (c3 : Nat → Int64) : Option (Int32 × Unit) :=
  fX11_variable_l6 v0_globals c1 c2 c3 FU a0 a1 (-1) 0
noncomputable def fX11_reduce_p79 (c1 : Nat → Int32) (v0_codes : Int32) (v0_opSize : Int32) (c2 : (Nat → Int32)) : Option (Int32 × Int32 × (Nat → Int32)) :=
  some (v0_codes, v0_opSize, c2)
noncomputable def fX11_reduce_p73 (c1 : Nat → Int32) (k0 : Int32 → Int32 → Int32 → (Nat → Int32) → Option (Int32 × Int32 × (Nat → Int32))) (y1 : Int32) (z0 : Int32) (v0_codes : Int32) (v0_opSize : Int32) (c2 : (Nat → Int32)) : Option (Int32 × Int32 × (Nat → Int32)) :=
  ob (fX11_emit z0 v0_codes c2) fun o1 =>
  k0 y1 o1.1 v0_opSize o1.2
noncomputable def fX11_reduce_p43 (c1 : Nat → Int32) (k0 : Int32 → Int32 → Int32 → (Nat → Int32) → Option (Int32 × Int32 × (Nat → Int32))) (y1 : Int32) (v0_codes : Int32) (v0_opSize : Int32) (c2 : (Nat → Int32)) : Option (Int32 × Int32 × (Nat → Int32)) :=
  nm (v0_opSize - 1) fun x2 =>
  bd (inb x2 700) <|
  nm (c1 x2.toNatClampNeg) fun x4 =>
  if x4 = 38 then
    fX11_reduce_p73 c1 k0 y1 4 v0_codes x2 c2
  else
    fX11_reduce_p73 c1 k0 y1 5 v0_codes x2 c2
noncomputable def fX11_reduce_b0 (c1 : Nat → Int32) (k0 : Int32 → Int32 → Int32 → (Nat → Int32) → Option (Int32 × Int32 × (Nat → Int32))) (y1 : Int32) (v0_codes : Int32) (v0_opSize : Int32) (c2 : (Nat → Int32)) : Option (Int32 × Int32 × (Nat → Int32)) :=
  if v0_opSize ≤ 0 then
    fX11_reduce_p79 c1 v0_codes v0_opSize c2
  else
    nm (v0_opSize - 1) fun x7 =>
    bd (inb x7 700) <|
    nm (c1 x7.toNatClampNeg) fun x9 =>
    if x9 = 38 then
      fX11_reduce_p43 c1 k0 y1 v0_codes v0_opSize c2
    else
      if y1 = 0 then
        fX11_reduce_p79 c1 v0_codes v0_opSize c2
      else
        nm (v0_opSize - 1) fun x12 =>
        bd (inb x12 700) <|
        nm (c1 x12.toNatClampNeg) fun x14 =>
        if x14 = 124 then
          fX11_reduce_p43 c1 k0 y1 v0_codes v0_opSize c2
        else
          fX11_reduce_p79 c1 v0_codes v0_opSize c2
noncomputable def fX11_reduce_l0 (c1 : Nat → Int32) : Nat → Int32 → Int32 → Int32 → (Nat → Int32) → Option (Int32 × Int32 × (Nat → Int32))
  | 0 => fun _ _ _ _ => none
  | n + 1 => fX11_reduce_b0 c1  (fX11_reduce_l0 c1  n)
noncomputable def fX11_reduce (a0 : Int32) (v0_codes : Int32) (v0_opSize : Int32) (c1 : Nat → Int32) (c2 : Nat → Int32) : Option (Int32 × Int32 × (Nat → Int32)) :=
  fX11_reduce_l0 c1 FU a0 v0_codes v0_opSize c2
noncomputable def fX11_takeExp_p412 (v0_textSize : Int32) (v0_globals : Int32) (c2 : Nat → Int32) (c4 : Nat → Int64) (c5 : Nat → Int32) (c6 : Nat → Int64) (z0 : Int32) (v0_from : Int32) (v0_to : Int32) (v0_token : Int32) (v0_name : Int64) (v0_wrong : Int32) (v0_wrongAt : Int32) (v0_codes : Int32) (v0_opSize : Int32) (v0_deep : Int32) (c1 : (Nat → Int32)) (c3 : (Nat → Int32)) (c7 : (Nat → Int32)) (c8 : (Nat → Int32)) : Option (Int32 × Int32 × Int32 × Int32 × Int64 × Int32 × Int32 × Int32 × Int32 × Int32 × (Nat → Int32) × (Nat → Int32) × (Nat → Int32) × (Nat → Int32)) :=
  ob (fX11_may z0 v0_from v0_token v0_wrong v0_wrongAt) fun o1 =>
  bd (bz o1.1) <|
  some (o1.1, (v0_from, v0_to, v0_token, v0_name, o1.2.1, o1.2.2, v0_codes, v0_opSize, v0_deep, c1, c3, c7, c8))
noncomputable def fX11_takeExp_p279 (v0_textSize : Int32) (v0_globals : Int32) (c2 : Nat → Int32) (c4 : Nat → Int64) (c5 : Nat → Int32) (c6 : Nat → Int64) (k25 : Int32 → Int32 → Int32 → Int32 → Int32 → Int32 → Int32 → Int64 → Int32 → Int32 → Int32 → Int32 → Int32 → (Nat → Int32) → (Nat → Int32) → (Nat → Int32) → (Nat → Int32) → Option (Int32 × Int32 × Int32 × Int32 × Int64 × Int32 × Int32 × Int32 × Int32 × Int32 × (Nat → Int32) × (Nat → Int32) × (Nat → Int32) × (Nat → Int32))) (y1 : Int32) (y2 : Int32) (y4 : Int32) (v0_from : Int32) (v0_to : Int32) (v0_token : Int32) (v0_name : Int64) (v0_wrong : Int32) (v0_wrongAt : Int32) (v0_codes : Int32) (v0_opSize : Int32) (v0_deep : Int32) (c1 : (Nat → Int32)) (c3 : (Nat → Int32)) (c7 : (Nat → Int32)) (c8 : (Nat → Int32)) : Option (Int32 × Int32 × Int32 × Int32 × Int64 × Int32 × Int32 × Int32 × Int32 × Int32 × (Nat → Int32) × (Nat → Int32) × (Nat → Int32) × (Nat → Int32)) :=
  ob (fX11_sees 124 v0_textSize v0_from v0_token c2) fun o3 =>
  ob (fX11_reduce o3.1 v0_codes v0_opSize c3 c7) fun o4 =>
  ob (fX11_byteAt v0_from v0_textSize c2) fun o5 =>
  bd (inb o4.2.1 700) <|
  nm (upd c3 o4.2.1.toNatClampNeg o5.1) fun c6x =>
  nm (o4.2.1 + 1) fun x7 =>
  ob (fX11_next v0_textSize v0_from v0_to v0_token v0_name c2) fun o8 =>
  k25 y1 y2 1 y4 o8.1 o8.2.1 o8.2.2.1 o8.2.2.2 v0_wrong v0_wrongAt o4.1 x7 v0_deep c1 c6x o4.2.2 c8
noncomputable def fX11_takeExp_p351 (v0_textSize : Int32) (v0_globals : Int32) (c2 : Nat → Int32) (c4 : Nat → Int64) (c5 : Nat → Int32) (c6 : Nat → Int64) (k25 : Int32 → Int32 → Int32 → Int32 → Int32 → Int32 → Int32 → Int64 → Int32 → Int32 → Int32 → Int32 → Int32 → (Nat → Int32) → (Nat → Int32) → (Nat → Int32) → (Nat → Int32) → Option (Int32 × Int32 × Int32 × Int32 × Int64 × Int32 × Int32 × Int32 × Int32 × Int32 × (Nat → Int32) × (Nat → Int32) × (Nat → Int32) × (Nat → Int32))) (y1 : Int32) (y2 : Int32) (y3 : Int32) (z0 : Int32) (v0_from : Int32) (v0_to : Int32) (v0_token : Int32) (v0_name : Int64) (v0_wrong : Int32) (v0_wrongAt : Int32) (v0_codes : Int32) (v0_opSize : Int32) (v0_deep : Int32) (c1 : (Nat → Int32)) (c3 : (Nat → Int32)) (c7 : (Nat → Int32)) (c8 : (Nat → Int32)) : Option (Int32 × Int32 × Int32 × Int32 × Int64 × Int32 × Int32 × Int32 × Int32 × Int32 × (Nat → Int32) × (Nat → Int32) × (Nat → Int32) × (Nat → Int32)) :=
  if z0 = 0 then
    k25 y1 y2 y3 z0 v0_from v0_to v0_token v0_name v0_wrong v0_wrongAt v0_codes v0_opSize v0_deep c1 c3 c7 c8
  else
    nm (v0_opSize - 1) fun x10 =>
    nm (v0_deep - 1) fun x11 =>
    ob (fX11_finish v0_codes x10 x11 c3 c7) fun o12 =>
    ob (fX11_next v0_textSize v0_from v0_to v0_token v0_name c2) fun o13 =>
    k25 y1 y2 y3 z0 o13.1 o13.2.1 o13.2.2.1 o13.2.2.2 v0_wrong v0_wrongAt o12.1 o12.2.1 o12.2.2.1 c1 c3 o12.2.2.2 c8
noncomputable def fX11_takeExp_p350 (v0_textSize : Int32) (v0_globals : Int32) (c2 : Nat → Int32) (c4 : Nat → Int64) (c5 : Nat → Int32) (c6 : Nat → Int64) (k25 : Int32 → Int32 → Int32 → Int32 → Int32 → Int32 → Int32 → Int64 → Int32 → Int32 → Int32 → Int32 → Int32 → (Nat → Int32) → (Nat → Int32) → (Nat → Int32) → (Nat → Int32) → Option (Int32 × Int32 × Int32 × Int32 × Int64 × Int32 × Int32 × Int32 × Int32 × Int32 × (Nat → Int32) × (Nat → Int32) × (Nat → Int32) × (Nat → Int32))) (y1 : Int32) (y2 : Int32) (y3 : Int32) (v0_from : Int32) (v0_to : Int32) (v0_token : Int32) (v0_name : Int64) (v0_wrong : Int32) (v0_wrongAt : Int32) (v0_codes : Int32) (v0_opSize : Int32) (v0_deep : Int32) (c1 : (Nat → Int32)) (c3 : (Nat → Int32)) (c7 : (Nat → Int32)) (c8 : (Nat → Int32)) : Option (Int32 × Int32 × Int32 × Int32 × Int64 × Int32 × Int32 × Int32 × Int32 × Int32 × (Nat → Int32) × (Nat → Int32) × (Nat → Int32) × (Nat → Int32)) :=
  fX11_takeExp_p351 v0_textSize v0_globals c2 c4 c5 c6 k25 y1 y2 y3 0 v0_from v0_to v0_token v0_name v0_wrong v0_wrongAt v0_codes v0_opSize v0_deep c1 c3 c7 c8
noncomputable def fX11_takeExp_p254 (v0_textSize : Int32) (v0_globals : Int32) (c2 : Nat → Int32) (c4 : Nat → Int64) (c5 : Nat → Int32) (c6 : Nat → Int64) (k25 : Int32 → Int32 → Int32 → Int32 → Int32 → Int32 → Int32 → Int64 → Int32 → Int32 → Int32 → Int32 → Int32 → (Nat → Int32) → (Nat → Int32) → (Nat → Int32) → (Nat → Int32) → Option (Int32 × Int32 × Int32 × Int32 × Int64 × Int32 × Int32 × Int32 × Int32 × Int32 × (Nat → Int32) × (Nat → Int32) × (Nat → Int32) × (Nat → Int32))) (y1 : Int32) (y2 : Int32) (y3 : Int32) (y4 : Int32) (v0_from : Int32) (v0_to : Int32) (v0_token : Int32) (v0_name : Int64) (v0_wrong : Int32) (v0_wrongAt : Int32) (v0_codes : Int32) (v0_opSize : Int32) (v0_deep : Int32) (c1 : (Nat → Int32)) (c3 : (Nat → Int32)) (c7 : (Nat → Int32)) (c8 : (Nat → Int32)) : Option (Int32 × Int32 × Int32 × Int32 × Int64 × Int32 × Int32 × Int32 × Int32 × Int32 × (Nat → Int32) × (Nat → Int32) × (Nat → Int32) × (Nat → Int32)) :=
  ob (fX11_next v0_textSize v0_from v0_to v0_token v0_name c2) fun o14 =>
  k25 y1 y2 y3 y4 o14.1 o14.2.1 o14.2.2.1 o14.2.2.2 v0_wrong v0_wrongAt v0_codes v0_opSize v0_deep c1 c3 c7 c8
noncomputable def fX11_takeExp_p224 (v0_textSize : Int32) (v0_globals : Int32) (c2 : Nat → Int32) (c4 : Nat → Int64) (c5 : Nat → Int32) (c6 : Nat → Int64) (k25 : Int32 → Int32 → Int32 → Int32 → Int32 → Int32 → Int32 → Int64 → Int32 → Int32 → Int32 → Int32 → Int32 → (Nat → Int32) → (Nat → Int32) → (Nat → Int32) → (Nat → Int32) → Option (Int32 × Int32 × Int32 × Int32 × Int64 × Int32 × Int32 × Int32 × Int32 × Int32 × (Nat → Int32) × (Nat → Int32) × (Nat → Int32) × (Nat → Int32))) (y1 : Int32) (y2 : Int32) (y4 : Int32) (z0 : Int32) (v0_from : Int32) (v0_to : Int32) (v0_token : Int32) (v0_name : Int64) (v0_wrong : Int32) (v0_wrongAt : Int32) (v0_codes : Int32) (v0_opSize : Int32) (v0_deep : Int32) (c1 : (Nat → Int32)) (c3 : (Nat → Int32)) (c7 : (Nat → Int32)) (c8 : (Nat → Int32)) : Option (Int32 × Int32 × Int32 × Int32 × Int64 × Int32 × Int32 × Int32 × Int32 × Int32 × (Nat → Int32) × (Nat → Int32) × (Nat → Int32) × (Nat → Int32)) :=
  if z0 = (-1) then
    ob (fX11_fail 3 v0_from v0_wrong v0_wrongAt) fun o18 =>
    bd (bz o18.1) <|
    some (o18.1, (v0_from, v0_to, v0_token, v0_name, o18.2.1, o18.2.2, v0_codes, v0_opSize, v0_deep, c1, c3, c7, c8))
  else
    ob (fX11_emit z0 v0_codes c7) fun o16 =>
    ob (fX11_finish o16.1 v0_opSize v0_deep c3 o16.2) fun o17 =>
    fX11_takeExp_p254 v0_textSize v0_globals c2 c4 c5 c6 k25 y1 y2 0 y4 v0_from v0_to v0_token v0_name v0_wrong v0_wrongAt o17.1 o17.2.1 o17.2.2.1 c1 c3 o17.2.2.2 c8
noncomputable def fX11_takeExp_p105 (v0_textSize : Int32) (v0_globals : Int32) (c2 : Nat → Int32) (c4 : Nat → Int64) (c5 : Nat → Int32) (c6 : Nat → Int64) (k25 : Int32 → Int32 → Int32 → Int32 → Int32 → Int32 → Int32 → Int64 → Int32 → Int32 → Int32 → Int32 → Int32 → (Nat → Int32) → (Nat → Int32) → (Nat → Int32) → (Nat → Int32) → Option (Int32 × Int32 × Int32 × Int32 × Int64 × Int32 × Int32 × Int32 × Int32 × Int32 × (Nat → Int32) × (Nat → Int32) × (Nat → Int32) × (Nat → Int32))) (y1 : Int32) (y2 : Int32) (y3 : Int32) (y4 : Int32) (y5 : Int32) (z0 : Int32) (v0_from : Int32) (v0_to : Int32) (v0_token : Int32) (v0_name : Int64) (v0_wrong : Int32) (v0_wrongAt : Int32) (v0_codes : Int32) (v0_opSize : Int32) (v0_deep : Int32) (c1 : (Nat → Int32)) (c3 : (Nat → Int32)) (c7 : (Nat → Int32)) (c8 : (Nat → Int32)) : Option (Int32 × Int32 × Int32 × Int32 × Int64 × Int32 × Int32 × Int32 × Int32 × Int32 × (Nat → Int32) × (Nat → Int32) × (Nat → Int32) × (Nat → Int32)) :=
  ob (fX11_may z0 v0_from v0_token v0_wrong v0_wrongAt) fun o20 =>
  if o20.1 = 0 then
    some (0, (v0_from, v0_to, v0_token, v0_name, o20.2.1, o20.2.2, v0_codes, v0_opSize, v0_deep, c1, c3, c7, c8))
  else
    if y5 = 0 then
      if v0_token = 1 then
        ob (fX11_variable y1 v0_name v0_globals c4 c5 c6) fun o28 =>
        fX11_takeExp_p224 v0_textSize v0_globals c2 c4 c5 c6 k25 y1 y2 y4 o28.1 v0_from v0_to v0_token v0_name o20.2.1 o20.2.2 v0_codes v0_opSize v0_deep c1 c3 c7 c8
      else
        ob (fX11_sees 48 v0_textSize v0_from v0_token c2) fun o24 =>
        if o24.1 = 0 then
          ob (fX11_sees 49 v0_textSize v0_from v0_token c2) fun o26 =>
          if o26.1 = 0 then
            fX11_takeExp_p224 v0_textSize v0_globals c2 c4 c5 c6 k25 y1 y2 y4 2 v0_from v0_to v0_token v0_name o20.2.1 o20.2.2 v0_codes v0_opSize v0_deep c1 c3 c7 c8
          else
            fX11_takeExp_p224 v0_textSize v0_globals c2 c4 c5 c6 k25 y1 y2 y4 1 v0_from v0_to v0_token v0_name o20.2.1 o20.2.2 v0_codes v0_opSize v0_deep c1 c3 c7 c8
        else
          fX11_takeExp_p224 v0_textSize v0_globals c2 c4 c5 c6 k25 y1 y2 y4 0 v0_from v0_to v0_token v0_name o20.2.1 o20.2.2 v0_codes v0_opSize v0_deep c1 c3 c7 c8
    else
      if v0_deep = 10 then
        ob (fX11_fail 3 v0_from o20.2.1 o20.2.2) fun o34 =>
        bd (bz o34.1) <|
        some (o34.1, (v0_from, v0_to, v0_token, v0_name, o34.2.1, o34.2.2, v0_codes, v0_opSize, v0_deep, c1, c3, c7, c8))
      else
        nm (v0_deep + 1) fun x30 =>
        ob (fX11_byteAt v0_from v0_textSize c2) fun o31 =>
        bd (inb v0_opSize 700) <|
        nm (upd c3 v0_opSize.toNatClampNeg o31.1) fun c32x =>
        nm (v0_opSize + 1) fun x33 =>
        fX11_takeExp_p254 v0_textSize v0_globals c2 c4 c5 c6 k25 y1 y2 y3 y4 v0_from v0_to v0_token v0_name o20.2.1 o20.2.2 v0_codes x33 x30 c1 c32x c7 c8
noncomputable def fX11_takeExp_p100 (v0_textSize : Int32) (v0_globals : Int32) (c2 : Nat → Int32) (c4 : Nat → Int64) (c5 : Nat → Int32) (c6 : Nat → Int64) (k25 : Int32 → Int32 → Int32 → Int32 → Int32 → Int32 → Int32 → Int64 → Int32 → Int32 → Int32 → Int32 → Int32 → (Nat → Int32) → (Nat → Int32) → (Nat → Int32) → (Nat → Int32) → Option (Int32 × Int32 × Int32 × Int32 × Int64 × Int32 × Int32 × Int32 × Int32 × Int32 × (Nat → Int32) × (Nat → Int32) × (Nat → Int32) × (Nat → Int32))) (y1 : Int32) (y2 : Int32) (y3 : Int32) (y4 : Int32) (y5 : Int32) (v0_from : Int32) (v0_to : Int32) (v0_token : Int32) (v0_name : Int64) (v0_wrong : Int32) (v0_wrongAt : Int32) (v0_codes : Int32) (v0_opSize : Int32) (v0_deep : Int32) (c1 : (Nat → Int32)) (c3 : (Nat → Int32)) (c7 : (Nat → Int32)) (c8 : (Nat → Int32)) : Option (Int32 × Int32 × Int32 × Int32 × Int64 × Int32 × Int32 × Int32 × Int32 × Int32 × (Nat → Int32) × (Nat → Int32) × (Nat → Int32) × (Nat → Int32)) :=
  fX11_takeExp_p105 v0_textSize v0_globals c2 c4 c5 c6 k25 y1 y2 y3 y4 y5 1 v0_from v0_to v0_token v0_name v0_wrong v0_wrongAt v0_codes v0_opSize v0_deep c1 c3 c7 c8
noncomputable def fX11_takeExp_p57 (v0_textSize : Int32) (v0_globals : Int32) (c2 : Nat → Int32) (c4 : Nat → Int64) (c5 : Nat → Int32) (c6 : Nat → Int64) (k25 : Int32 → Int32 → Int32 → Int32 → Int32 → Int32 → Int32 → Int64 → Int32 → Int32 → Int32 → Int32 → Int32 → (Nat → Int32) → (Nat → Int32) → (Nat → Int32) → (Nat → Int32) → Option (Int32 × Int32 × Int32 × Int32 × Int64 × Int32 × Int32 × Int32 × Int32 × Int32 × (Nat → Int32) × (Nat → Int32) × (Nat → Int32) × (Nat → Int32))) (y1 : Int32) (y2 : Int32) (y3 : Int32) (y4 : Int32) (z0 : Int32) (v0_from : Int32) (v0_to : Int32) (v0_token : Int32) (v0_name : Int64) (v0_wrong : Int32) (v0_wrongAt : Int32) (v0_codes : Int32) (v0_opSize : Int32) (v0_deep : Int32) (c1 : (Nat → Int32)) (c3 : (Nat → Int32)) (c7 : (Nat → Int32)) (c8 : (Nat → Int32)) : Option (Int32 × Int32 × Int32 × Int32 × Int64 × Int32 × Int32 × Int32 × Int32 × Int32 × (Nat → Int32) × (Nat → Int32) × (Nat → Int32) × (Nat → Int32)) :=
  if z0 = 0 then
    if v0_token = 1 then
      fX11_takeExp_p100 v0_textSize v0_globals c2 c4 c5 c6 k25 y1 y2 y3 y4 z0 v0_from v0_to v0_token v0_name v0_wrong v0_wrongAt v0_codes v0_opSize v0_deep c1 c3 c7 c8
    else
      ob (fX11_sees 48 v0_textSize v0_from v0_token c2) fun o38 =>
      if o38.1 = 0 then
        ob (fX11_sees 49 v0_textSize v0_from v0_token c2) fun o40 =>
        if o40.1 = 0 then
          ob (fX11_sees 42 v0_textSize v0_from v0_token c2) fun o42 =>
          if o42.1 = 0 then
            fX11_takeExp_p105 v0_textSize v0_globals c2 c4 c5 c6 k25 y1 y2 y3 y4 z0 0 v0_from v0_to v0_token v0_name v0_wrong v0_wrongAt v0_codes v0_opSize v0_deep c1 c3 c7 c8
          else
            fX11_takeExp_p100 v0_textSize v0_globals c2 c4 c5 c6 k25 y1 y2 y3 y4 z0 v0_from v0_to v0_token v0_name v0_wrong v0_wrongAt v0_codes v0_opSize v0_deep c1 c3 c7 c8
        else
          fX11_takeExp_p100 v0_textSize v0_globals c2 c4 c5 c6 k25 y1 y2 y3 y4 z0 v0_from v0_to v0_token v0_name v0_wrong v0_wrongAt v0_codes v0_opSize v0_deep c1 c3 c7 c8
      else
        fX11_takeExp_p100 v0_textSize v0_globals c2 c4 c5 c6 k25 y1 y2 y3 y4 z0 v0_from v0_to v0_token v0_name v0_wrong v0_wrongAt v0_codes v0_opSize v0_deep c1 c3 c7 c8
  else
    fX11_takeExp_p100 v0_textSize v0_globals c2 c4 c5 c6 k25 y1 y2 y3 y4 z0 v0_from v0_to v0_token v0_name v0_wrong v0_wrongAt v0_codes v0_opSize v0_deep c1 c3 c7 c8
noncomputable def fX11_takeExp_p52 (v0_textSize : Int32) (v0_globals : Int32) (c2 : Nat → Int32) (c4 : Nat → Int64) (c5 : Nat → Int32) (c6 : Nat → Int64) (k25 : Int32 → Int32 → Int32 → Int32 → Int32 → Int32 → Int32 → Int64 → Int32 → Int32 → Int32 → Int32 → Int32 → (Nat → Int32) → (Nat → Int32) → (Nat → Int32) → (Nat → Int32) → Option (Int32 × Int32 × Int32 × Int32 × Int64 × Int32 × Int32 × Int32 × Int32 × Int32 × (Nat → Int32) × (Nat → Int32) × (Nat → Int32) × (Nat → Int32))) (y1 : Int32) (y2 : Int32) (y3 : Int32) (y4 : Int32) (v0_from : Int32) (v0_to : Int32) (v0_token : Int32) (v0_name : Int64) (v0_wrong : Int32) (v0_wrongAt : Int32) (v0_codes : Int32) (v0_opSize : Int32) (v0_deep : Int32) (c1 : (Nat → Int32)) (c3 : (Nat → Int32)) (c7 : (Nat → Int32)) (c8 : (Nat → Int32)) : Option (Int32 × Int32 × Int32 × Int32 × Int64 × Int32 × Int32 × Int32 × Int32 × Int32 × (Nat → Int32) × (Nat → Int32) × (Nat → Int32) × (Nat → Int32)) :=
  fX11_takeExp_p57 v0_textSize v0_globals c2 c4 c5 c6 k25 y1 y2 y3 y4 1 v0_from v0_to v0_token v0_name v0_wrong v0_wrongAt v0_codes v0_opSize v0_deep c1 c3 c7 c8
noncomputable def fX11_takeExp_b25 (v0_textSize : Int32) (v0_globals : Int32) (c2 : Nat → Int32) (c4 : Nat → Int64) (c5 : Nat → Int32) (c6 : Nat → Int64) (k25 : Int32 → Int32 → Int32 → Int32 → Int32 → Int32 → Int32 → Int64 → Int32 → Int32 → Int32 → Int32 → Int32 → (Nat → Int32) → (Nat → Int32) → (Nat → Int32) → (Nat → Int32) → Option (Int32 × Int32 × Int32 × Int32 × Int64 × Int32 × Int32 × Int32 × Int32 × Int32 × (Nat → Int32) × (Nat → Int32) × (Nat → Int32) × (Nat → Int32))) (y1 : Int32) (y2 : Int32) (y3 : Int32) (y4 : Int32) (v0_from : Int32) (v0_to : Int32) (v0_token : Int32) (v0_name : Int64) (v0_wrong : Int32) (v0_wrongAt : Int32) (v0_codes : Int32) (v0_opSize : Int32) (v0_deep : Int32) (c1 : (Nat → Int32)) (c3 : (Nat → Int32)) (c7 : (Nat → Int32)) (c8 : (Nat → Int32)) : Option (Int32 × Int32 × Int32 × Int32 × Int64 × Int32 × Int32 × Int32 × Int32 × Int32 × (Nat → Int32) × (Nat → Int32) × (Nat → Int32) × (Nat → Int32)) :=
  if y4 = 0 then
    bd (inb y2 40) <|
    nm (upd c8 y2.toNatClampNeg v0_codes) fun c45x =>
    if v0_opSize = 0 then
      fX11_takeExp_p412 v0_textSize v0_globals c2 c4 c5 c6 1 v0_from v0_to v0_token v0_name v0_wrong v0_wrongAt v0_codes v0_opSize v0_deep c1 c3 c7 c45x
    else
      fX11_takeExp_p412 v0_textSize v0_globals c2 c4 c5 c6 0 v0_from v0_to v0_token v0_name v0_wrong v0_wrongAt v0_codes v0_opSize v0_deep c1 c3 c7 c45x
  else
    if y3 = 0 then
      ob (fX11_sees 38 v0_textSize v0_from v0_token c2) fun o48 =>
      if o48.1 = 0 then
        ob (fX11_sees 124 v0_textSize v0_from v0_token c2) fun o50 =>
        if o50.1 = 0 then
          ob (fX11_reduce 1 v0_codes v0_opSize c3 c7) fun o52 =>
          ob (fX11_sees 41 v0_textSize v0_from v0_token c2) fun o53 =>
          if o53.1 = 0 then
            fX11_takeExp_p350 v0_textSize v0_globals c2 c4 c5 c6 k25 y1 y2 y3 v0_from v0_to v0_token v0_name v0_wrong v0_wrongAt o52.1 o52.2.1 v0_deep c1 c3 o52.2.2 c8
          else
            if o52.2.1 ≤ 0 then
              fX11_takeExp_p350 v0_textSize v0_globals c2 c4 c5 c6 k25 y1 y2 y3 v0_from v0_to v0_token v0_name v0_wrong v0_wrongAt o52.1 o52.2.1 v0_deep c1 c3 o52.2.2 c8
            else
              fX11_takeExp_p351 v0_textSize v0_globals c2 c4 c5 c6 k25 y1 y2 y3 1 v0_from v0_to v0_token v0_name v0_wrong v0_wrongAt o52.1 o52.2.1 v0_deep c1 c3 o52.2.2 c8
        else
          fX11_takeExp_p279 v0_textSize v0_globals c2 c4 c5 c6 k25 y1 y2 y4 v0_from v0_to v0_token v0_name v0_wrong v0_wrongAt v0_codes v0_opSize v0_deep c1 c3 c7 c8
      else
        fX11_takeExp_p279 v0_textSize v0_globals c2 c4 c5 c6 k25 y1 y2 y4 v0_from v0_to v0_token v0_name v0_wrong v0_wrongAt v0_codes v0_opSize v0_deep c1 c3 c7 c8
    else
      ob (fX11_sees 40 v0_textSize v0_from v0_token c2) fun o56 =>
      if o56.1 = 0 then
        ob (fX11_sees 33 v0_textSize v0_from v0_token c2) fun o58 =>
        if o58.1 = 0 then
          fX11_takeExp_p57 v0_textSize v0_globals c2 c4 c5 c6 k25 y1 y2 y3 y4 0 v0_from v0_to v0_token v0_name v0_wrong v0_wrongAt v0_codes v0_opSize v0_deep c1 c3 c7 c8
        else
          fX11_takeExp_p52 v0_textSize v0_globals c2 c4 c5 c6 k25 y1 y2 y3 y4 v0_from v0_to v0_token v0_name v0_wrong v0_wrongAt v0_codes v0_opSize v0_deep c1 c3 c7 c8
      else
        fX11_takeExp_p52 v0_textSize v0_globals c2 c4 c5 c6 k25 y1 y2 y3 y4 v0_from v0_to v0_token v0_name v0_wrong v0_wrongAt v0_codes v0_opSize v0_deep c1 c3 c7 c8
noncomputable def fX11_takeExp_l25 (v0_textSize : Int32) (v0_globals : Int32) (c2 : Nat → Int32) (c4 : Nat → Int64) (c5 : Nat → Int32) (c6 : Nat → Int64) : Nat → Int32 → Int32 → Int32 → Int32 → Int32 → Int32 → Int32 → Int64 → Int32 → Int32 → Int32 → Int32 → Int32 → (Nat → Int32) → (Nat → Int32) → (Nat → Int32) → (Nat → Int32) → Option (Int32 × Int32 × Int32 × Int32 × Int64 × Int32 × Int32 × Int32 × Int32 × Int32 × (Nat → Int32) × (Nat → Int32) × (Nat → Int32) × (Nat → Int32))
  | 0 => fun _ _ _ _ _ _ _ _ _ _ _ _ _ _ _ _ _ => none
  | n + 1 => fX11_takeExp_b25 v0_textSize v0_globals c2 c4 c5 c6  (fX11_takeExp_l25 v0_textSize v0_globals c2 c4 c5 c6  n)
noncomputable def fX11_takeExp (a0 : Int32) (a1 : Int32) (v0_textSize : Int32) (v0_from : Int32) (v0_to : Int32) (v0_token : Int32) (v0_name : Int64) (v0_wrong : Int32) (v0_wrongAt : Int32) (v0_globals : Int32) (v0_codes : Int32) (v0_opSize : Int32) (v0_deep : Int32) (c1 : Nat → Int32) (c2 : Nat → Int32) (c3 : Nat → Int32) (c4 : Nat → Int64) (c5 : Nat → Int32) (c6 : Nat → Int64) (c7 : Nat → Int32) (c8 : Nat → Int32) : Option (Int32 × Int32 × Int32 × Int32 × Int64 × Int32 × Int32 × Int32 × Int32 × Int32 × (Nat → Int32) × (Nat → Int32) × (Nat → Int32) × (Nat → Int32)) :=
  bd (inb a1 40) <|
  nm (upd c1 a1.toNatClampNeg v0_codes) fun c60x =>
  fX11_takeExp_l25 v0_textSize v0_globals c2 c4 c5 c6 FU a0 a1 1 1 v0_from v0_to v0_token v0_name v0_wrong v0_wrongAt v0_codes 0 0 c60x c3 c7 c8
noncomputable def fX11_takeStatement_p190 (v0_textSize : Int32) (v0_globals : Int32) (c1 : Nat → Int64) (c2 : Nat → Int32) (c3 : Nat → Int64) (c17 : Nat → Int32) (z0 : Int32) (v0_from : Int32) (v0_to : Int32) (v0_token : Int32) (v0_name : Int64) (v0_wrong : Int32) (v0_wrongAt : Int32) (v0_statements : Int32) (v0_codes : Int32) (v0_blocks : Int32) (v0_open : Int32) (v0_opSize : Int32) (v0_deep : Int32) (c4 : (Nat → Int32)) (c5 : (Nat → Int32)) (c6 : (Nat → Int32)) (c7 : (Nat → Int32)) (c8 : (Nat → Int32)) (c9 : (Nat → Int32)) (c10 : (Nat → Int32)) (c11 : (Nat → Int32)) (c12 : (Nat → Int32)) (c13 : (Nat → Int32)) (c14 : (Nat → Int32)) (c15 : (Nat → Int32)) (c16 : (Nat → Int32)) (c18 : (Nat → Int32)) (c19 : (Nat → Int32)) (c20 : (Nat → Int32)) (c21 : (Nat → Int64)) (c22 : (Nat → Int32)) : Option (Int32 × Int32 × Int32 × Int32 × Int64 × Int32 × Int32 × Int32 × Int32 × Int32 × Int32 × Int32 × Int32 × (Nat → Int32) × (Nat → Int32) × (Nat → Int32) × (Nat → Int32) × (Nat → Int32) × (Nat → Int32) × (Nat → Int32) × (Nat → Int32) × (Nat → Int32) × (Nat → Int32) × (Nat → Int32) × (Nat → Int32) × (Nat → Int32) × (Nat → Int32) × (Nat → Int32) × (Nat → Int32) × (Nat → Int64) × (Nat → Int32)) :=
  bd (bz z0) <|
  some (z0, (v0_from, v0_to, v0_token, v0_name, v0_wrong, v0_wrongAt, v0_statements, v0_codes, v0_blocks, v0_open, v0_opSize, v0_deep, c4, c5, c6, c7, c8, c9, c10, c11, c12, c13, c14, c15, c16, c18, c19, c20, c21, c22))
noncomputable def fX11_takeStatement_p189 (v0_textSize : Int32) (v0_globals : Int32) (c1 : Nat → Int64) (c2 : Nat → Int32) (c3 : Nat → Int64) (c17 : Nat → Int32) (v0_from : Int32) (v0_to : Int32) (v0_token : Int32) (v0_name : Int64) (v0_wrong : Int32) (v0_wrongAt : Int32) (v0_statements : Int32) (v0_codes : Int32) (v0_blocks : Int32) (v0_open : Int32) (v0_opSize : Int32) (v0_deep : Int32) (c4 : (Nat → Int32)) (c5 : (Nat → Int32)) (c6 : (Nat → Int32)) (c7 : (Nat → Int32)) (c8 : (Nat → Int32)) (c9 : (Nat → Int32)) (c10 : (Nat → Int32)) (c11 : (Nat → Int32)) (c12 : (Nat → Int32)) (c13 : (Nat → Int32)) (c14 : (Nat → Int32)) (c15 : (Nat → Int32)) (c16 : (Nat → Int32)) (c18 : (Nat → Int32)) (c19 : (Nat → Int32)) (c20 : (Nat → Int32)) (c21 : (Nat → Int64)) (c22 : (Nat → Int32)) : Option (Int32 × Int32 × Int32 × Int32 × Int64 × Int32 × Int32 × Int32 × Int32 × Int32 × Int32 × Int32 × Int32 × (Nat → Int32) × (Nat → Int32) × (Nat → Int32) × (Nat → Int32) × (Nat → Int32) × (Nat → Int32) × (Nat → Int32) × (Nat → Int32) × (Nat → Int32) × (Nat → Int32) × (Nat → Int32) × (Nat → Int32) × (Nat → Int32) × (Nat → Int32) × (Nat → Int32) × (Nat → Int32) × (Nat → Int64) × (Nat → Int32)) :=
  fX11_takeStatement_p190 v0_textSize v0_globals c1 c2 c3 c17 0 v0_from v0_to v0_token v0_name v0_wrong v0_wrongAt v0_statements v0_codes v0_blocks v0_open v0_opSize v0_deep c4 c5 c6 c7 c8 c9 c10 c11 c12 c13 c14 c15 c16 c18 c19 c20 c21 c22
noncomputable def fX11_takeStatement_p179 (v0_textSize : Int32) (v0_globals : Int32) (c1 : Nat → Int64) (c2 : Nat → Int32) (c3 : Nat → Int64) (c17 : Nat → Int32) (z0 : Int32) (z1 : Int32) (v0_from : Int32) (v0_to : Int32) (v0_token : Int32) (v0_name : Int64) (v0_wrong : Int32) (v0_wrongAt : Int32) (v0_statements : Int32) (v0_codes : Int32) (v0_blocks : Int32) (v0_open : Int32) (v0_opSize : Int32) (v0_deep : Int32) (c4 : (Nat → Int32)) (c5 : (Nat → Int32)) (c6 : (Nat → Int32)) (c7 : (Nat → Int32)) (c8 : (Nat → Int32)) (c9 : (Nat → Int32)) (c10 : (Nat → Int32)) (c11 : (Nat → Int32)) (c12 : (Nat → Int32)) (c13 : (Nat → Int32)) (c14 : (Nat → Int32)) (c15 : (Nat → Int32)) (c16 : (Nat → Int32)) (c18 : (Nat → Int32)) (c19 : (Nat → Int32)) (c20 : (Nat → Int32)) (c21 : (Nat → Int64)) (c22 : (Nat → Int32)) : Option (Int32 × Int32 × Int32 × Int32 × Int64 × Int32 × Int32 × Int32 × Int32 × Int32 × Int32 × Int32 × Int32 × (Nat → Int32) × (Nat → Int32) × (Nat → Int32) × (Nat → Int32) × (Nat → Int32) × (Nat → Int32) × (Nat → Int32) × (Nat → Int32) × (Nat → Int32) × (Nat → Int32) × (Nat → Int32) × (Nat → Int32) × (Nat → Int32) × (Nat → Int32) × (Nat → Int32) × (Nat → Int32) × (Nat → Int64) × (Nat → Int32)) :=
  ob (fX11_openBlock z1 z0 v0_textSize v0_from v0_to v0_token v0_name v0_wrong v0_wrongAt v0_blocks v0_open c17 c16 c14 c13 c4) fun o2 =>
  if o2.1 = 0 then
    fX11_takeStatement_p189 v0_textSize v0_globals c1 c2 c3 c17 o2.2.1 o2.2.2.1 o2.2.2.2.1 o2.2.2.2.2.1 o2.2.2.2.2.2.1 o2.2.2.2.2.2.2.1 v0_statements v0_codes o2.2.2.2.2.2.2.2.1 o2.2.2.2.2.2.2.2.2.1 v0_opSize v0_deep o2.2.2.2.2.2.2.2.2.2.2.2.2 c5 c6 c7 c8 c9 c10 c11 c12 o2.2.2.2.2.2.2.2.2.2.2.2.1 o2.2.2.2.2.2.2.2.2.2.2.1 c15 o2.2.2.2.2.2.2.2.2.2.1 c18 c19 c20 c21 c22
  else
    fX11_takeStatement_p190 v0_textSize v0_globals c1 c2 c3 c17 1 o2.2.1 o2.2.2.1 o2.2.2.2.1 o2.2.2.2.2.1 o2.2.2.2.2.2.1 o2.2.2.2.2.2.2.1 v0_statements v0_codes o2.2.2.2.2.2.2.2.1 o2.2.2.2.2.2.2.2.2.1 v0_opSize v0_deep o2.2.2.2.2.2.2.2.2.2.2.2.2 c5 c6 c7 c8 c9 c10 c11 c12 o2.2.2.2.2.2.2.2.2.2.2.2.1 o2.2.2.2.2.2.2.2.2.2.2.1 c15 o2.2.2.2.2.2.2.2.2.2.1 c18 c19 c20 c21 c22
noncomputable def fX11_takeStatement_p156 (v0_textSize : Int32) (v0_globals : Int32) (c1 : Nat → Int64) (c2 : Nat → Int32) (c3 : Nat → Int64) (c17 : Nat → Int32) (y1 : Int32) (y2 : Int32) (y4 : Int32) (v0_from : Int32) (v0_to : Int32) (v0_token : Int32) (v0_name : Int64) (v0_wrong : Int32) (v0_wrongAt : Int32) (v0_statements : Int32) (v0_codes : Int32) (v0_blocks : Int32) (v0_open : Int32) (v0_opSize : Int32) (v0_deep : Int32) (c4 : (Nat → Int32)) (c5 : (Nat → Int32)) (c6 : (Nat → Int32)) (c7 : (Nat → Int32)) (c8 : (Nat → Int32)) (c9 : (Nat → Int32)) (c10 : (Nat → Int32)) (c11 : (Nat → Int32)) (c12 : (Nat → Int32)) (c13 : (Nat → Int32)) (c14 : (Nat → Int32)) (c15 : (Nat → Int32)) (c16 : (Nat → Int32)) (c18 : (Nat → Int32)) (c19 : (Nat → Int32)) (c20 : (Nat → Int32)) (c21 : (Nat → Int64)) (c22 : (Nat → Int32)) : Option (Int32 × Int32 × Int32 × Int32 × Int64 × Int32 × Int32 × Int32 × Int32 × Int32 × Int32 × Int32 × Int32 × (Nat → Int32) × (Nat → Int32) × (Nat → Int32) × (Nat → Int32) × (Nat → Int32) × (Nat → Int32) × (Nat → Int32) × (Nat → Int32) × (Nat → Int32) × (Nat → Int32) × (Nat → Int32) × (Nat → Int32) × (Nat → Int32) × (Nat → Int32) × (Nat → Int32) × (Nat → Int32) × (Nat → Int64) × (Nat → Int32)) :=
  ob (fX11_takeExp y1 y4 v0_textSize v0_from v0_to v0_token v0_name v0_wrong v0_wrongAt v0_globals v0_codes v0_opSize v0_deep c11 c17 c19 c1 c2 c3 c20 c12) fun o4 =>
  if o4.1 = 0 then
    fX11_takeStatement_p189 v0_textSize v0_globals c1 c2 c3 c17 o4.2.1 o4.2.2.1 o4.2.2.2.1 o4.2.2.2.2.1 o4.2.2.2.2.2.1 o4.2.2.2.2.2.2.1 v0_statements o4.2.2.2.2.2.2.2.1 v0_blocks v0_open o4.2.2.2.2.2.2.2.2.1 o4.2.2.2.2.2.2.2.2.2.1 c4 c5 c6 c7 c8 c9 c10 o4.2.2.2.2.2.2.2.2.2.2.1 o4.2.2.2.2.2.2.2.2.2.2.2.2.2 c13 c14 c15 c16 c18 o4.2.2.2.2.2.2.2.2.2.2.2.1 o4.2.2.2.2.2.2.2.2.2.2.2.2.1 c21 c22
  else
    if y2 = 1 then
      fX11_takeStatement_p179 v0_textSize v0_globals c1 c2 c3 c17 1 y4 o4.2.1 o4.2.2.1 o4.2.2.2.1 o4.2.2.2.2.1 o4.2.2.2.2.2.1 o4.2.2.2.2.2.2.1 v0_statements o4.2.2.2.2.2.2.2.1 v0_blocks v0_open o4.2.2.2.2.2.2.2.2.1 o4.2.2.2.2.2.2.2.2.2.1 c4 c5 c6 c7 c8 c9 c10 o4.2.2.2.2.2.2.2.2.2.2.1 o4.2.2.2.2.2.2.2.2.2.2.2.2.2 c13 c14 c15 c16 c18 o4.2.2.2.2.2.2.2.2.2.2.2.1 o4.2.2.2.2.2.2.2.2.2.2.2.2.1 c21 c22
    else
      fX11_takeStatement_p179 v0_textSize v0_globals c1 c2 c3 c17 3 y4 o4.2.1 o4.2.2.1 o4.2.2.2.1 o4.2.2.2.2.1 o4.2.2.2.2.2.1 o4.2.2.2.2.2.2.1 v0_statements o4.2.2.2.2.2.2.2.1 v0_blocks v0_open o4.2.2.2.2.2.2.2.2.1 o4.2.2.2.2.2.2.2.2.2.1 c4 c5 c6 c7 c8 c9 c10 o4.2.2.2.2.2.2.2.2.2.2.1 o4.2.2.2.2.2.2.2.2.2.2.2.2.2 c13 c14 c15 c16 c18 o4.2.2.2.2.2.2.2.2.2.2.2.1 o4.2.2.2.2.2.2.2.2.2.2.2.2.1 c21 c22
noncomputable def fX11_takeStatement_p280 (v0_textSize : Int32) (v0_globals : Int32) (c1 : Nat → Int64) (c2 : Nat → Int32) (c3 : Nat → Int64) (c17 : Nat → Int32) (z0 : Int32) (v0_from : Int32) (v0_to : Int32) (v0_token : Int32) (v0_name : Int64) (v0_wrong : Int32) (v0_wrongAt : Int32) (v0_statements : Int32) (v0_codes : Int32) (v0_blocks : Int32) (v0_open : Int32) (v0_opSize : Int32) (v0_deep : Int32) (c4 : (Nat → Int32)) (c5 : (Nat → Int32)) (c6 : (Nat → Int32)) (c7 : (Nat → Int32)) (c8 : (Nat → Int32)) (c9 : (Nat → Int32)) (c10 : (Nat → Int32)) (c11 : (Nat → Int32)) (c12 : (Nat → Int32)) (c13 : (Nat → Int32)) (c14 : (Nat → Int32)) (c15 : (Nat → Int32)) (c16 : (Nat → Int32)) (c18 : (Nat → Int32)) (c19 : (Nat → Int32)) (c20 : (Nat → Int32)) (c21 : (Nat → Int64)) (c22 : (Nat → Int32)) : Option (Int32 × Int32 × Int32 × Int32 × Int64 × Int32 × Int32 × Int32 × Int32 × Int32 × Int32 × Int32 × Int32 × (Nat → Int32) × (Nat → Int32) × (Nat → Int32) × (Nat → Int32) × (Nat → Int32) × (Nat → Int32) × (Nat → Int32) × (Nat → Int32) × (Nat → Int32) × (Nat → Int32) × (Nat → Int32) × (Nat → Int32) × (Nat → Int32) × (Nat → Int32) × (Nat → Int32) × (Nat → Int32) × (Nat → Int64) × (Nat → Int32)) :=
  bd (bz z0) <|
  some (z0, (v0_from, v0_to, v0_token, v0_name, v0_wrong, v0_wrongAt, v0_statements, v0_codes, v0_blocks, v0_open, v0_opSize, v0_deep, c4, c5, c6, c7, c8, c9, c10, c11, c12, c13, c14, c15, c16, c18, c19, c20, c21, c22))
noncomputable def fX11_takeStatement_p279 (v0_textSize : Int32) (v0_globals : Int32) (c1 : Nat → Int64) (c2 : Nat → Int32) (c3 : Nat → Int64) (c17 : Nat → Int32) (v0_from : Int32) (v0_to : Int32) (v0_token : Int32) (v0_name : Int64) (v0_wrong : Int32) (v0_wrongAt : Int32) (v0_statements : Int32) (v0_codes : Int32) (v0_blocks : Int32) (v0_open : Int32) (v0_opSize : Int32) (v0_deep : Int32) (c4 : (Nat → Int32)) (c5 : (Nat → Int32)) (c6 : (Nat → Int32)) (c7 : (Nat → Int32)) (c8 : (Nat → Int32)) (c9 : (Nat → Int32)) (c10 : (Nat → Int32)) (c11 : (Nat → Int32)) (c12 : (Nat → Int32)) (c13 : (Nat → Int32)) (c14 : (Nat → Int32)) (c15 : (Nat → Int32)) (c16 : (Nat → Int32)) (c18 : (Nat → Int32)) (c19 : (Nat → Int32)) (c20 : (Nat → Int32)) (c21 : (Nat → Int64)) (c22 : (Nat → Int32)) : Option (Int32 × Int32 × Int32 × Int32 × Int64 × Int32 × Int32 × Int32 × Int32 × Int32 × Int32 × Int32 × Int32 × (Nat → Int32) × (Nat → Int32) × (Nat → Int32) × (Nat → Int32) × (Nat → Int32) × (Nat → Int32) × (Nat → Int32) × (Nat → Int32) × (Nat → Int32) × (Nat → Int32) × (Nat → Int32) × (Nat → Int32) × (Nat → Int32) × (Nat → Int32) × (Nat → Int32) × (Nat → Int32) × (Nat → Int64) × (Nat → Int32)) :=
  fX11_takeStatement_p280 v0_textSize v0_globals c1 c2 c3 c17 0 v0_from v0_to v0_token v0_name v0_wrong v0_wrongAt v0_statements v0_codes v0_blocks v0_open v0_opSize v0_deep c4 c5 c6 c7 c8 c9 c10 c11 c12 c13 c14 c15 c16 c18 c19 c20 c21 c22
noncomputable def fX11_takeStatement_p266 (v0_textSize : Int32) (v0_globals : Int32) (c1 : Nat → Int64) (c2 : Nat → Int32) (c3 : Nat → Int64) (c17 : Nat → Int32) (v0_from : Int32) (v0_to : Int32) (v0_token : Int32) (v0_name : Int64) (v0_wrong : Int32) (v0_wrongAt : Int32) (v0_statements : Int32) (v0_codes : Int32) (v0_blocks : Int32) (v0_open : Int32) (v0_opSize : Int32) (v0_deep : Int32) (c4 : (Nat → Int32)) (c5 : (Nat → Int32)) (c6 : (Nat → Int32)) (c7 : (Nat → Int32)) (c8 : (Nat → Int32)) (c9 : (Nat → Int32)) (c10 : (Nat → Int32)) (c11 : (Nat → Int32)) (c12 : (Nat → Int32)) (c13 : (Nat → Int32)) (c14 : (Nat → Int32)) (c15 : (Nat → Int32)) (c16 : (Nat → Int32)) (c18 : (Nat → Int32)) (c19 : (Nat → Int32)) (c20 : (Nat → Int32)) (c21 : (Nat → Int64)) (c22 : (Nat → Int32)) : Option (Int32 × Int32 × Int32 × Int32 × Int64 × Int32 × Int32 × Int32 × Int32 × Int32 × Int32 × Int32 × Int32 × (Nat → Int32) × (Nat → Int32) × (Nat → Int32) × (Nat → Int32) × (Nat → Int32) × (Nat → Int32) × (Nat → Int32) × (Nat → Int32) × (Nat → Int32) × (Nat → Int32) × (Nat → Int32) × (Nat → Int32) × (Nat → Int32) × (Nat → Int32) × (Nat → Int32) × (Nat → Int32) × (Nat → Int64) × (Nat → Int32)) :=
  ob (fX11_take 59 v0_textSize v0_from v0_to v0_token v0_name v0_wrong v0_wrongAt c17) fun o8 =>
  if o8.1 = 0 then
    fX11_takeStatement_p279 v0_textSize v0_globals c1 c2 c3 c17 o8.2.1 o8.2.2.1 o8.2.2.2.1 o8.2.2.2.2.1 o8.2.2.2.2.2.1 o8.2.2.2.2.2.2 v0_statements v0_codes v0_blocks v0_open v0_opSize v0_deep c4 c5 c6 c7 c8 c9 c10 c11 c12 c13 c14 c15 c16 c18 c19 c20 c21 c22
  else
    fX11_takeStatement_p280 v0_textSize v0_globals c1 c2 c3 c17 1 o8.2.1 o8.2.2.1 o8.2.2.2.1 o8.2.2.2.2.1 o8.2.2.2.2.2.1 o8.2.2.2.2.2.2 v0_statements v0_codes v0_blocks v0_open v0_opSize v0_deep c4 c5 c6 c7 c8 c9 c10 c11 c12 c13 c14 c15 c16 c18 c19 c20 c21 c22
noncomputable def fX11_takeStatement_p232 (v0_textSize : Int32) (v0_globals : Int32) (c1 : Nat → Int64) (c2 : Nat → Int32) (c3 : Nat → Int64) (c17 : Nat → Int32) (z0 : Int32) (v0_from : Int32) (v0_to : Int32) (v0_token : Int32) (v0_name : Int64) (v0_wrong : Int32) (v0_wrongAt : Int32) (v0_statements : Int32) (v0_codes : Int32) (v0_blocks : Int32) (v0_open : Int32) (v0_opSize : Int32) (v0_deep : Int32) (c4 : (Nat → Int32)) (c5 : (Nat → Int32)) (c6 : (Nat → Int32)) (c7 : (Nat → Int32)) (c8 : (Nat → Int32)) (c9 : (Nat → Int32)) (c10 : (Nat → Int32)) (c11 : (Nat → Int32)) (c12 : (Nat → Int32)) (c13 : (Nat → Int32)) (c14 : (Nat → Int32)) (c15 : (Nat → Int32)) (c16 : (Nat → Int32)) (c18 : (Nat → Int32)) (c19 : (Nat → Int32)) (c20 : (Nat → Int32)) (c21 : (Nat → Int64)) (c22 : (Nat → Int32)) : Option (Int32 × Int32 × Int32 × Int32 × Int64 × Int32 × Int32 × Int32 × Int32 × Int32 × Int32 × Int32 × Int32 × (Nat → Int32) × (Nat → Int32) × (Nat → Int32) × (Nat → Int32) × (Nat → Int32) × (Nat → Int32) × (Nat → Int32) × (Nat → Int32) × (Nat → Int32) × (Nat → Int32) × (Nat → Int32) × (Nat → Int32) × (Nat → Int32) × (Nat → Int32) × (Nat → Int32) × (Nat → Int32) × (Nat → Int64) × (Nat → Int32)) :=
  ob (fX11_may z0 v0_from v0_token v0_wrong v0_wrongAt) fun o10 =>
  if o10.1 = 0 then
    some (0, (v0_from, v0_to, v0_token, v0_name, o10.2.1, o10.2.2, v0_statements, v0_codes, v0_blocks, v0_open, v0_opSize, v0_deep, c4, c5, c6, c7, c8, c9, c10, c11, c12, c13, c14, c15, c16, c18, c19, c20, c21, c22))
  else
    ob (fX11_next v0_textSize v0_from v0_to v0_token v0_name c17) fun o12 =>
    ob (fX11_take 59 v0_textSize o12.1 o12.2.1 o12.2.2.1 o12.2.2.2 o10.2.1 o10.2.2 c17) fun o13 =>
    bd (bz o13.1) <|
    some (o13.1, (o13.2.1, o13.2.2.1, o13.2.2.2.1, o13.2.2.2.2.1, o13.2.2.2.2.2.1, o13.2.2.2.2.2.2, v0_statements, v0_codes, v0_blocks, v0_open, v0_opSize, v0_deep, c4, c5, c6, c7, c8, c9, c10, c11, c12, c13, c14, c15, c16, c18, c19, c20, c21, c22))
noncomputable def fX11_takeStatement_p145 (v0_textSize : Int32) (v0_globals : Int32) (c1 : Nat → Int64) (c2 : Nat → Int32) (c3 : Nat → Int64) (c17 : Nat → Int32) (z0 : Int32) (v0_from : Int32) (v0_to : Int32) (v0_token : Int32) (v0_name : Int64) (v0_wrong : Int32) (v0_wrongAt : Int32) (v0_statements : Int32) (v0_codes : Int32) (v0_blocks : Int32) (v0_open : Int32) (v0_opSize : Int32) (v0_deep : Int32) (c4 : (Nat → Int32)) (c5 : (Nat → Int32)) (c6 : (Nat → Int32)) (c7 : (Nat → Int32)) (c8 : (Nat → Int32)) (c9 : (Nat → Int32)) (c10 : (Nat → Int32)) (c11 : (Nat → Int32)) (c12 : (Nat → Int32)) (c13 : (Nat → Int32)) (c14 : (Nat → Int32)) (c15 : (Nat → Int32)) (c16 : (Nat → Int32)) (c18 : (Nat → Int32)) (c19 : (Nat → Int32)) (c20 : (Nat → Int32)) (c21 : (Nat → Int64)) (c22 : (Nat → Int32)) : Option (Int32 × Int32 × Int32 × Int32 × Int64 × Int32 × Int32 × Int32 × Int32 × Int32 × Int32 × Int32 × Int32 × (Nat → Int32) × (Nat → Int32) × (Nat → Int32) × (Nat → Int32) × (Nat → Int32) × (Nat → Int32) × (Nat → Int32) × (Nat → Int32) × (Nat → Int32) × (Nat → Int32) × (Nat → Int32) × (Nat → Int32) × (Nat → Int32) × (Nat → Int32) × (Nat → Int32) × (Nat → Int32) × (Nat → Int64) × (Nat → Int32)) :=
  bd (bz z0) <|
  some (z0, (v0_from, v0_to, v0_token, v0_name, v0_wrong, v0_wrongAt, v0_statements, v0_codes, v0_blocks, v0_open, v0_opSize, v0_deep, c4, c5, c6, c7, c8, c9, c10, c11, c12, c13, c14, c15, c16, c18, c19, c20, c21, c22))
noncomputable def fX11_takeStatement_p144 (v0_textSize : Int32) (v0_globals : Int32) (c1 : Nat → Int64) (c2 : Nat → Int32) (c3 : Nat → Int64) (c17 : Nat → Int32) (v0_from : Int32) (v0_to : Int32) (v0_token : Int32) (v0_name : Int64) (v0_wrong : Int32) (v0_wrongAt : Int32) (v0_statements : Int32) (v0_codes : Int32) (v0_blocks : Int32) (v0_open : Int32) (v0_opSize : Int32) (v0_deep : Int32) (c4 : (Nat → Int32)) (c5 : (Nat → Int32)) (c6 : (Nat → Int32)) (c7 : (Nat → Int32)) (c8 : (Nat → Int32)) (c9 : (Nat → Int32)) (c10 : (Nat → Int32)) (c11 : (Nat → Int32)) (c12 : (Nat → Int32)) (c13 : (Nat → Int32)) (c14 : (Nat → Int32)) (c15 : (Nat → Int32)) (c16 : (Nat → Int32)) (c18 : (Nat → Int32)) (c19 : (Nat → Int32)) (c20 : (Nat → Int32)) (c21 : (Nat → Int64)) (c22 : (Nat → Int32)) : Option (Int32 × Int32 × Int32 × Int32 × Int64 × Int32 × Int32 × Int32 × Int32 × Int32 × Int32 × Int32 × Int32 × (Nat → Int32) × (Nat → Int32) × (Nat → Int32) × (Nat → Int32) × (Nat → Int32) × (Nat → Int32) × (Nat → Int32) × (Nat → Int32) × (Nat → Int32) × (Nat → Int32) × (Nat → Int32) × (Nat → Int32) × (Nat → Int32) × (Nat → Int32) × (Nat → Int32) × (Nat → Int32) × (Nat → Int64) × (Nat → Int32)) :=
  fX11_takeStatement_p145 v0_textSize v0_globals c1 c2 c3 c17 0 v0_from v0_to v0_token v0_name v0_wrong v0_wrongAt v0_statements v0_codes v0_blocks v0_open v0_opSize v0_deep c4 c5 c6 c7 c8 c9 c10 c11 c12 c13 c14 c15 c16 c18 c19 c20 c21 c22
noncomputable def fX11_takeStatement_p87 (v0_textSize : Int32) (v0_globals : Int32) (c1 : Nat → Int64) (c2 : Nat → Int32) (c3 : Nat → Int64) (c17 : Nat → Int32) (y1 : Int32) (y2 : Int32) (z0 : Int32) (v0_from : Int32) (v0_to : Int32) (v0_token : Int32) (v0_name : Int64) (v0_wrong : Int32) (v0_wrongAt : Int32) (v0_statements : Int32) (v0_codes : Int32) (v0_blocks : Int32) (v0_open : Int32) (v0_opSize : Int32) (v0_deep : Int32) (c4 : (Nat → Int32)) (c5 : (Nat → Int32)) (c6 : (Nat → Int32)) (c7 : (Nat → Int32)) (c8 : (Nat → Int32)) (c9 : (Nat → Int32)) (c10 : (Nat → Int32)) (c11 : (Nat → Int32)) (c12 : (Nat → Int32)) (c13 : (Nat → Int32)) (c14 : (Nat → Int32)) (c15 : (Nat → Int32)) (c16 : (Nat → Int32)) (c18 : (Nat → Int32)) (c19 : (Nat → Int32)) (c20 : (Nat → Int32)) (c21 : (Nat → Int64)) (c22 : (Nat → Int32)) : Option (Int32 × Int32 × Int32 × Int32 × Int64 × Int32 × Int32 × Int32 × Int32 × Int32 × Int32 × Int32 × Int32 × (Nat → Int32) × (Nat → Int32) × (Nat → Int32) × (Nat → Int32) × (Nat → Int32) × (Nat → Int32) × (Nat → Int32) × (Nat → Int32) × (Nat → Int32) × (Nat → Int32) × (Nat → Int32) × (Nat → Int32) × (Nat → Int32) × (Nat → Int32) × (Nat → Int32) × (Nat → Int32) × (Nat → Int64) × (Nat → Int32)) :=
  ob (fX11_begin y1 y2 v0_from v0_statements v0_open c4 c5 c6 c7 c8 c9 c10 c11 c12 c13 c14 c15 c16) fun o16 =>
  ob (fX11_next v0_textSize v0_from v0_to v0_token v0_name c17) fun o17 =>
  if y2 = 0 then
    bd (inb o16.1 40) <|
    nm (upd c18 o16.1.toNatClampNeg z0) fun c28x =>
    ob (fX11_take 61 v0_textSize o17.1 o17.2.1 o17.2.2.1 o17.2.2.2 v0_wrong v0_wrongAt c17) fun o29 =>
    if o29.1 = 0 then
      fX11_takeStatement_p144 v0_textSize v0_globals c1 c2 c3 c17 o29.2.1 o29.2.2.1 o29.2.2.2.1 o29.2.2.2.2.1 o29.2.2.2.2.2.1 o29.2.2.2.2.2.2 o16.2.1 v0_codes v0_blocks v0_open v0_opSize v0_deep c4 o16.2.2.1 o16.2.2.2.1 o16.2.2.2.2.1 o16.2.2.2.2.2.1 o16.2.2.2.2.2.2.1 o16.2.2.2.2.2.2.2.1 o16.2.2.2.2.2.2.2.2.1 o16.2.2.2.2.2.2.2.2.2.1 o16.2.2.2.2.2.2.2.2.2.2.1 c14 o16.2.2.2.2.2.2.2.2.2.2.2 c16 c28x c19 c20 c21 c22
    else
      ob (fX11_takeExp y1 o16.1 v0_textSize o29.2.1 o29.2.2.1 o29.2.2.2.1 o29.2.2.2.2.1 o29.2.2.2.2.2.1 o29.2.2.2.2.2.2 v0_globals v0_codes v0_opSize v0_deep o16.2.2.2.2.2.2.2.2.1 c17 c19 c1 c2 c3 c20 o16.2.2.2.2.2.2.2.2.2.1) fun o31 =>
      if o31.1 = 0 then
        fX11_takeStatement_p144 v0_textSize v0_globals c1 c2 c3 c17 o31.2.1 o31.2.2.1 o31.2.2.2.1 o31.2.2.2.2.1 o31.2.2.2.2.2.1 o31.2.2.2.2.2.2.1 o16.2.1 o31.2.2.2.2.2.2.2.1 v0_blocks v0_open o31.2.2.2.2.2.2.2.2.1 o31.2.2.2.2.2.2.2.2.2.1 c4 o16.2.2.1 o16.2.2.2.1 o16.2.2.2.2.1 o16.2.2.2.2.2.1 o16.2.2.2.2.2.2.1 o16.2.2.2.2.2.2.2.1 o31.2.2.2.2.2.2.2.2.2.2.1 o31.2.2.2.2.2.2.2.2.2.2.2.2.2 o16.2.2.2.2.2.2.2.2.2.2.1 c14 o16.2.2.2.2.2.2.2.2.2.2.2 c16 c28x o31.2.2.2.2.2.2.2.2.2.2.2.1 o31.2.2.2.2.2.2.2.2.2.2.2.2.1 c21 c22
      else
        ob (fX11_take 59 v0_textSize o31.2.1 o31.2.2.1 o31.2.2.2.1 o31.2.2.2.2.1 o31.2.2.2.2.2.1 o31.2.2.2.2.2.2.1 c17) fun o33 =>
        if o33.1 = 0 then
          fX11_takeStatement_p144 v0_textSize v0_globals c1 c2 c3 c17 o33.2.1 o33.2.2.1 o33.2.2.2.1 o33.2.2.2.2.1 o33.2.2.2.2.2.1 o33.2.2.2.2.2.2 o16.2.1 o31.2.2.2.2.2.2.2.1 v0_blocks v0_open o31.2.2.2.2.2.2.2.2.1 o31.2.2.2.2.2.2.2.2.2.1 c4 o16.2.2.1 o16.2.2.2.1 o16.2.2.2.2.1 o16.2.2.2.2.2.1 o16.2.2.2.2.2.2.1 o16.2.2.2.2.2.2.2.1 o31.2.2.2.2.2.2.2.2.2.2.1 o31.2.2.2.2.2.2.2.2.2.2.2.2.2 o16.2.2.2.2.2.2.2.2.2.2.1 c14 o16.2.2.2.2.2.2.2.2.2.2.2 c16 c28x o31.2.2.2.2.2.2.2.2.2.2.2.1 o31.2.2.2.2.2.2.2.2.2.2.2.2.1 c21 c22
        else
          fX11_takeStatement_p145 v0_textSize v0_globals c1 c2 c3 c17 1 o33.2.1 o33.2.2.1 o33.2.2.2.1 o33.2.2.2.2.1 o33.2.2.2.2.2.1 o33.2.2.2.2.2.2 o16.2.1 o31.2.2.2.2.2.2.2.1 v0_blocks v0_open o31.2.2.2.2.2.2.2.2.1 o31.2.2.2.2.2.2.2.2.2.1 c4 o16.2.2.1 o16.2.2.2.1 o16.2.2.2.2.1 o16.2.2.2.2.2.1 o16.2.2.2.2.2.2.1 o16.2.2.2.2.2.2.2.1 o31.2.2.2.2.2.2.2.2.2.2.1 o31.2.2.2.2.2.2.2.2.2.2.2.2.2 o16.2.2.2.2.2.2.2.2.2.2.1 c14 o16.2.2.2.2.2.2.2.2.2.2.2 c16 c28x o31.2.2.2.2.2.2.2.2.2.2.2.1 o31.2.2.2.2.2.2.2.2.2.2.2.2.1 c21 c22
  else
    if y2 = 1 then
      fX11_takeStatement_p156 v0_textSize v0_globals c1 c2 c3 c17 y1 y2 o16.1 o17.1 o17.2.1 o17.2.2.1 o17.2.2.2 v0_wrong v0_wrongAt o16.2.1 v0_codes v0_blocks v0_open v0_opSize v0_deep c4 o16.2.2.1 o16.2.2.2.1 o16.2.2.2.2.1 o16.2.2.2.2.2.1 o16.2.2.2.2.2.2.1 o16.2.2.2.2.2.2.2.1 o16.2.2.2.2.2.2.2.2.1 o16.2.2.2.2.2.2.2.2.2.1 o16.2.2.2.2.2.2.2.2.2.2.1 c14 o16.2.2.2.2.2.2.2.2.2.2.2 c16 c18 c19 c20 c21 c22
    else
      if y2 = 2 then
        fX11_takeStatement_p156 v0_textSize v0_globals c1 c2 c3 c17 y1 y2 o16.1 o17.1 o17.2.1 o17.2.2.1 o17.2.2.2 v0_wrong v0_wrongAt o16.2.1 v0_codes v0_blocks v0_open v0_opSize v0_deep c4 o16.2.2.1 o16.2.2.2.1 o16.2.2.2.2.1 o16.2.2.2.2.2.1 o16.2.2.2.2.2.2.1 o16.2.2.2.2.2.2.2.1 o16.2.2.2.2.2.2.2.2.1 o16.2.2.2.2.2.2.2.2.2.1 o16.2.2.2.2.2.2.2.2.2.2.1 c14 o16.2.2.2.2.2.2.2.2.2.2.2 c16 c18 c19 c20 c21 c22
      else
        if y2 = 3 then
          bd (inb o16.1 40) <|
          nm (vp_updL c21 o16.1.toNatClampNeg o17.2.2.2) fun c25x =>
          bd (inb o16.1 40) <|
          nm (upd c22 o16.1.toNatClampNeg o17.1) fun c26x =>
          if o17.2.2.1 = 1 then
            fX11_takeStatement_p232 v0_textSize v0_globals c1 c2 c3 c17 1 o17.1 o17.2.1 o17.2.2.1 o17.2.2.2 v0_wrong v0_wrongAt o16.2.1 v0_codes v0_blocks v0_open v0_opSize v0_deep c4 o16.2.2.1 o16.2.2.2.1 o16.2.2.2.2.1 o16.2.2.2.2.2.1 o16.2.2.2.2.2.2.1 o16.2.2.2.2.2.2.2.1 o16.2.2.2.2.2.2.2.2.1 o16.2.2.2.2.2.2.2.2.2.1 o16.2.2.2.2.2.2.2.2.2.2.1 c14 o16.2.2.2.2.2.2.2.2.2.2.2 c16 c18 c19 c20 c25x c26x
          else
            fX11_takeStatement_p232 v0_textSize v0_globals c1 c2 c3 c17 0 o17.1 o17.2.1 o17.2.2.1 o17.2.2.2 v0_wrong v0_wrongAt o16.2.1 v0_codes v0_blocks v0_open v0_opSize v0_deep c4 o16.2.2.1 o16.2.2.2.1 o16.2.2.2.2.1 o16.2.2.2.2.2.1 o16.2.2.2.2.2.2.1 o16.2.2.2.2.2.2.2.1 o16.2.2.2.2.2.2.2.2.1 o16.2.2.2.2.2.2.2.2.2.1 o16.2.2.2.2.2.2.2.2.2.2.1 c14 o16.2.2.2.2.2.2.2.2.2.2.2 c16 c18 c19 c20 c25x c26x
        else
          if 5 < y2 then
            fX11_takeStatement_p266 v0_textSize v0_globals c1 c2 c3 c17 o17.1 o17.2.1 o17.2.2.1 o17.2.2.2 v0_wrong v0_wrongAt o16.2.1 v0_codes v0_blocks v0_open v0_opSize v0_deep c4 o16.2.2.1 o16.2.2.2.1 o16.2.2.2.2.1 o16.2.2.2.2.2.1 o16.2.2.2.2.2.2.1 o16.2.2.2.2.2.2.2.1 o16.2.2.2.2.2.2.2.2.1 o16.2.2.2.2.2.2.2.2.2.1 o16.2.2.2.2.2.2.2.2.2.2.1 c14 o16.2.2.2.2.2.2.2.2.2.2.2 c16 c18 c19 c20 c21 c22
          else
            ob (fX11_takeExp y1 o16.1 v0_textSize o17.1 o17.2.1 o17.2.2.1 o17.2.2.2 v0_wrong v0_wrongAt v0_globals v0_codes v0_opSize v0_deep o16.2.2.2.2.2.2.2.2.1 c17 c19 c1 c2 c3 c20 o16.2.2.2.2.2.2.2.2.2.1) fun o23 =>
            if o23.1 = 0 then
              fX11_takeStatement_p279 v0_textSize v0_globals c1 c2 c3 c17 o23.2.1 o23.2.2.1 o23.2.2.2.1 o23.2.2.2.2.1 o23.2.2.2.2.2.1 o23.2.2.2.2.2.2.1 o16.2.1 o23.2.2.2.2.2.2.2.1 v0_blocks v0_open o23.2.2.2.2.2.2.2.2.1 o23.2.2.2.2.2.2.2.2.2.1 c4 o16.2.2.1 o16.2.2.2.1 o16.2.2.2.2.1 o16.2.2.2.2.2.1 o16.2.2.2.2.2.2.1 o16.2.2.2.2.2.2.2.1 o23.2.2.2.2.2.2.2.2.2.2.1 o23.2.2.2.2.2.2.2.2.2.2.2.2.2 o16.2.2.2.2.2.2.2.2.2.2.1 c14 o16.2.2.2.2.2.2.2.2.2.2.2 c16 c18 o23.2.2.2.2.2.2.2.2.2.2.2.1 o23.2.2.2.2.2.2.2.2.2.2.2.2.1 c21 c22
            else
              fX11_takeStatement_p266 v0_textSize v0_globals c1 c2 c3 c17 o23.2.1 o23.2.2.1 o23.2.2.2.1 o23.2.2.2.2.1 o23.2.2.2.2.2.1 o23.2.2.2.2.2.2.1 o16.2.1 o23.2.2.2.2.2.2.2.1 v0_blocks v0_open o23.2.2.2.2.2.2.2.2.1 o23.2.2.2.2.2.2.2.2.2.1 c4 o16.2.2.1 o16.2.2.2.1 o16.2.2.2.2.1 o16.2.2.2.2.2.1 o16.2.2.2.2.2.2.1 o16.2.2.2.2.2.2.2.1 o23.2.2.2.2.2.2.2.2.2.2.1 o23.2.2.2.2.2.2.2.2.2.2.2.2.2 o16.2.2.2.2.2.2.2.2.2.2.1 c14 o16.2.2.2.2.2.2.2.2.2.2.2 c16 c18 o23.2.2.2.2.2.2.2.2.2.2.2.1 o23.2.2.2.2.2.2.2.2.2.2.2.2.1 c21 c22
noncomputable def fX11_takeStatement_p70 (v0_textSize : Int32) (v0_globals : Int32) (c1 : Nat → Int64) (c2 : Nat → Int32) (c3 : Nat → Int64) (c17 : Nat → Int32) (y1 : Int32) (y2 : Int32) (v0_from : Int32) (v0_to : Int32) (v0_token : Int32) (v0_name : Int64) (v0_wrong : Int32) (v0_wrongAt : Int32) (v0_statements : Int32) (v0_codes : Int32) (v0_blocks : Int32) (v0_open : Int32) (v0_opSize : Int32) (v0_deep : Int32) (c4 : (Nat → Int32)) (c5 : (Nat → Int32)) (c6 : (Nat → Int32)) (c7 : (Nat → Int32)) (c8 : (Nat → Int32)) (c9 : (Nat → Int32)) (c10 : (Nat → Int32)) (c11 : (Nat → Int32)) (c12 : (Nat → Int32)) (c13 : (Nat → Int32)) (c14 : (Nat → Int32)) (c15 : (Nat → Int32)) (c16 : (Nat → Int32)) (c18 : (Nat → Int32)) (c19 : (Nat → Int32)) (c20 : (Nat → Int32)) (c21 : (Nat → Int64)) (c22 : (Nat → Int32)) : Option (Int32 × Int32 × Int32 × Int32 × Int64 × Int32 × Int32 × Int32 × Int32 × Int32 × Int32 × Int32 × Int32 × (Nat → Int32) × (Nat → Int32) × (Nat → Int32) × (Nat → Int32) × (Nat → Int32) × (Nat → Int32) × (Nat → Int32) × (Nat → Int32) × (Nat → Int32) × (Nat → Int32) × (Nat → Int32) × (Nat → Int32) × (Nat → Int32) × (Nat → Int32) × (Nat → Int32) × (Nat → Int32) × (Nat → Int64) × (Nat → Int32)) :=
  if y2 = 0 then
    ob (fX11_variable y1 v0_name v0_globals c1 c2 c3) fun o36 =>
    fX11_takeStatement_p87 v0_textSize v0_globals c1 c2 c3 c17 y1 y2 o36.1 v0_from v0_to v0_token v0_name v0_wrong v0_wrongAt v0_statements v0_codes v0_blocks v0_open v0_opSize v0_deep c4 c5 c6 c7 c8 c9 c10 c11 c12 c13 c14 c15 c16 c18 c19 c20 c21 c22
  else
    fX11_takeStatement_p87 v0_textSize v0_globals c1 c2 c3 c17 y1 y2 (-1) v0_from v0_to v0_token v0_name v0_wrong v0_wrongAt v0_statements v0_codes v0_blocks v0_open v0_opSize v0_deep c4 c5 c6 c7 c8 c9 c10 c11 c12 c13 c14 c15 c16 c18 c19 c20 c21 c22
noncomputable def fX11_takeStatement_p16 (v0_textSize : Int32) (v0_globals : Int32) (c1 : Nat → Int64) (c2 : Nat → Int32) (c3 : Nat → Int64) (c17 : Nat → Int32) (y1 : Int32) (y2 : Int32) (z0 : Int32) (v0_from : Int32) (v0_to : Int32) (v0_token : Int32) (v0_name : Int64) (v0_wrong : Int32) (v0_wrongAt : Int32) (v0_statements : Int32) (v0_codes : Int32) (v0_blocks : Int32) (v0_open : Int32) (v0_opSize : Int32) (v0_deep : Int32) (c4 : (Nat → Int32)) (c5 : (Nat → Int32)) (c6 : (Nat → Int32)) (c7 : (Nat → Int32)) (c8 : (Nat → Int32)) (c9 : (Nat → Int32)) (c10 : (Nat → Int32)) (c11 : (Nat → Int32)) (c12 : (Nat → Int32)) (c13 : (Nat → Int32)) (c14 : (Nat → Int32)) (c15 : (Nat → Int32)) (c16 : (Nat → Int32)) (c18 : (Nat → Int32)) (c19 : (Nat → Int32)) (c20 : (Nat → Int32)) (c21 : (Nat → Int64)) (c22 : (Nat → Int32)) : Option (Int32 × Int32 × Int32 × Int32 × Int64 × Int32 × Int32 × Int32 × Int32 × Int32 × Int32 × Int32 × Int32 × (Nat → Int32) × (Nat → Int32) × (Nat → Int32) × (Nat → Int32) × (Nat → Int32) × (Nat → Int32) × (Nat → Int32) × (Nat → Int32) × (Nat → Int32) × (Nat → Int32) × (Nat → Int32) × (Nat → Int32) × (Nat → Int32) × (Nat → Int32) × (Nat → Int32) × (Nat → Int32) × (Nat → Int64) × (Nat → Int32)) :=
  ob (fX11_may z0 v0_from v0_token v0_wrong v0_wrongAt) fun o37 =>
  if o37.1 = 0 then
    some (0, (v0_from, v0_to, v0_token, v0_name, o37.2.1, o37.2.2, v0_statements, v0_codes, v0_blocks, v0_open, v0_opSize, v0_deep, c4, c5, c6, c7, c8, c9, c10, c11, c12, c13, c14, c15, c16, c18, c19, c20, c21, c22))
  else
    if v0_statements = 40 then
      ob (fX11_fail 3 v0_from o37.2.1 o37.2.2) fun o45 =>
      bd (bz o45.1) <|
      some (o45.1, (v0_from, v0_to, v0_token, v0_name, o45.2.1, o45.2.2, v0_statements, v0_codes, v0_blocks, v0_open, v0_opSize, v0_deep, c4, c5, c6, c7, c8, c9, c10, c11, c12, c13, c14, c15, c16, c18, c19, c20, c21, c22))
    else
      if y2 = 0 then
        ob (fX11_variable y1 v0_name v0_globals c1 c2 c3) fun o41 =>
        if o41.1 = (-1) then
          ob (fX11_fail 3 v0_from o37.2.1 o37.2.2) fun o43 =>
          bd (bz o43.1) <|
          some (o43.1, (v0_from, v0_to, v0_token, v0_name, o43.2.1, o43.2.2, v0_statements, v0_codes, v0_blocks, v0_open, v0_opSize, v0_deep, c4, c5, c6, c7, c8, c9, c10, c11, c12, c13, c14, c15, c16, c18, c19, c20, c21, c22))
        else
          fX11_takeStatement_p70 v0_textSize v0_globals c1 c2 c3 c17 y1 y2 v0_from v0_to v0_token v0_name o37.2.1 o37.2.2 v0_statements v0_codes v0_blocks v0_open v0_opSize v0_deep c4 c5 c6 c7 c8 c9 c10 c11 c12 c13 c14 c15 c16 c18 c19 c20 c21 c22
      else
        fX11_takeStatement_p70 v0_textSize v0_globals c1 c2 c3 c17 y1 y2 v0_from v0_to v0_token v0_name o37.2.1 o37.2.2 v0_statements v0_codes v0_blocks v0_open v0_opSize v0_deep c4 c5 c6 c7 c8 c9 c10 c11 c12 c13 c14 c15 c16 c18 c19 c20 c21 c22
noncomputable def fX11_takeStatement (a0 : Int32) (v0_textSize : Int32) (v0_from : Int32) (v0_to : Int32) (v0_token : Int32) (v0_name : Int64) (v0_wrong : Int32) (v0_wrongAt : Int32) (v0_globals : Int32) (v0_statements : Int32) (v0_codes : Int32) (v0_blocks : Int32) (v0_open : Int32) (v0_opSize : Int32) (v0_deep : Int32) (c1 : Nat → Int64) (c2 : Nat → Int32) (c3 : Nat → Int64) (c4 : Nat → Int32) (c5 : Nat → Int32) (c6 : Nat → Int32) (c7 : Nat → Int32) (c8 : Nat → Int32) (c9 : Nat → Int32) (c10 : Nat → Int32) (c11 : Nat → Int32) (c12 : Nat → Int32) (c13 : Nat → Int32) (c14 : Nat → Int32) (c15 : Nat → Int32) (c16 : Nat → Int32) (c17 : Nat → Int32) (c18 : Nat → Int32) (c19 : Nat → Int32) (c20 : Nat → Int32) (c21 : Nat → Int64) (c22 : Nat → Int32) : Option (Int32 × Int32 × Int32 × Int32 × Int64 × Int32 × Int32 × Int32 × Int32 × Int32 × Int32 × Int32 × Int32 × (Nat → Int32) × (Nat → Int32) × (Nat → Int32) × (Nat → Int32) × (Nat → Int32) × (Nat → Int32) × (Nat → Int32) × (Nat → Int32) × (Nat → Int32) × (Nat → Int32) × (Nat → Int32) × (Nat → Int32) × (Nat → Int32) × (Nat → Int32) × (Nat → Int32) × (Nat → Int32) × (Nat → Int64) × (Nat → Int32)) :=
  ob (fX11_kindOf v0_token v0_name) fun o47 =>
  if o47.1 = (-1) then
    fX11_takeStatement_p16 v0_textSize v0_globals c1 c2 c3 c17 a0 o47.1 0 v0_from v0_to v0_token v0_name v0_wrong v0_wrongAt v0_statements v0_codes v0_blocks v0_open v0_opSize v0_deep c4 c5 c6 c7 c8 c9 c10 c11 c12 c13 c14 c15 c16 c18 c19 c20 c21 c22
  else
    fX11_takeStatement_p16 v0_textSize v0_globals c1 c2 c3 c17 a0 o47.1 1 v0_from v0_to v0_token v0_name v0_wrong v0_wrongAt v0_statements v0_codes v0_blocks v0_open v0_opSize v0_deep c4 c5 c6 c7 c8 c9 c10 c11 c12 c13 c14 c15 c16 c18 c19 c20 c21 c22
noncomputable def fX11_takeProcedure_p248 (v0_textSize : Int32) (c1 : Nat → Int32) (y3 : Int32) (v0_from : Int32) (v0_to : Int32) (v0_token : Int32) (v0_name : Int64) (v0_wrong : Int32) (v0_wrongAt : Int32) (v0_globals : Int32) (v0_procedures : Int32) (v0_statements : Int32) (v0_codes : Int32) (v0_blocks : Int32) (v0_open : Int32) (v0_opSize : Int32) (v0_deep : Int32) (c2 : (Nat → Int64)) (c3 : (Nat → Int32)) (c4 : (Nat → Int32)) (c5 : (Nat → Int32)) (c6 : (Nat → Int32)) (c7 : (Nat → Int32)) (c8 : (Nat → Int32)) (c9 : (Nat → Int64)) (c10 : (Nat → Int64)) (c11 : (Nat → Int32)) (c12 : (Nat → Int32)) (c13 : (Nat → Int32)) (c14 : (Nat → Int32)) (c15 : (Nat → Int32)) (c16 : (Nat → Int32)) (c17 : (Nat → Int32)) (c18 : (Nat → Int32)) (c19 : (Nat → Int32)) (c20 : (Nat → Int32)) (c21 : (Nat → Int32)) (c22 : (Nat → Int64)) (c23 : (Nat → Int32)) : Option (Int32 × Int32 × Int32 × Int32 × Int64 × Int32 × Int32 × Int32 × Int32 × Int32 × Int32 × Int32 × Int32 × Int32 × Int32 × (Nat → Int64) × (Nat → Int32) × (Nat → Int32) × (Nat → Int32) × (Nat → Int32) × (Nat → Int32) × (Nat → Int32) × (Nat → Int64) × (Nat → Int64) × (Nat → Int32) × (Nat → Int32) × (Nat → Int32) × (Nat → Int32) × (Nat → Int32) × (Nat → Int32) × (Nat → Int32) × (Nat → Int32) × (Nat → Int32) × (Nat → Int32) × (Nat → Int32) × (Nat → Int64) × (Nat → Int32)) :=
  bd (bz y3) <|
  some (y3, (v0_from, v0_to, v0_token, v0_name, v0_wrong, v0_wrongAt, v0_globals, v0_procedures, v0_statements, v0_codes, v0_blocks, v0_open, v0_opSize, v0_deep, c2, c3, c4, c5, c6, c7, c8, c9, c10, c11, c12, c13, c14, c15, c16, c17, c18, c19, c20, c21, c22, c23))
noncomputable def fX11_takeProcedure_p244 (v0_textSize : Int32) (c1 : Nat → Int32) (k193 : Int32 → Int32 → Int32 → Int32 → Int32 → Int64 → Int32 → Int32 → Int32 → Int32 → Int32 → Int32 → Int32 → Int32 → Int32 → Int32 → (Nat → Int64) → (Nat → Int32) → (Nat → Int32) → (Nat → Int32) → (Nat → Int32) → (Nat → Int32) → (Nat → Int32) → (Nat → Int64) → (Nat → Int64) → (Nat → Int32) → (Nat → Int32) → (Nat → Int32) → (Nat → Int32) → (Nat → Int32) → (Nat → Int32) → (Nat → Int32) → (Nat → Int32) → (Nat → Int32) → (Nat → Int32) → (Nat → Int32) → (Nat → Int64) → (Nat → Int32) → Option (Int32 × Int32 × Int32 × Int32 × Int64 × Int32 × Int32 × Int32 × Int32 × Int32 × Int32 × Int32 × Int32 × Int32 × Int32 × (Nat → Int64) × (Nat → Int32) × (Nat → Int32) × (Nat → Int32) × (Nat → Int32) × (Nat → Int32) × (Nat → Int32) × (Nat → Int64) × (Nat → Int64) × (Nat → Int32) × (Nat → Int32) × (Nat → Int32) × (Nat → Int32) × (Nat → Int32) × (Nat → Int32) × (Nat → Int32) × (Nat → Int32) × (Nat → Int32) × (Nat → Int32) × (Nat → Int32) × (Nat → Int64) × (Nat → Int32))) (y2 : Int32) (z0 : Int32) (v0_from : Int32) (v0_to : Int32) (v0_token : Int32) (v0_name : Int64) (v0_wrong : Int32) (v0_wrongAt : Int32) (v0_globals : Int32) (v0_procedures : Int32) (v0_statements : Int32) (v0_codes : Int32) (v0_blocks : Int32) (v0_open : Int32) (v0_opSize : Int32) (v0_deep : Int32) (c2 : (Nat → Int64)) (c3 : (Nat → Int32)) (c4 : (Nat → Int32)) (c5 : (Nat → Int32)) (c6 : (Nat → Int32)) (c7 : (Nat → Int32)) (c8 : (Nat → Int32)) (c9 : (Nat → Int64)) (c10 : (Nat → Int64)) (c11 : (Nat → Int32)) (c12 : (Nat → Int32)) (c13 : (Nat → Int32)) (c14 : (Nat → Int32)) (c15 : (Nat → Int32)) (c16 : (Nat → Int32)) (c17 : (Nat → Int32)) (c18 : (Nat → Int32)) (c19 : (Nat → Int32)) (c20 : (Nat → Int32)) (c21 : (Nat → Int32)) (c22 : (Nat → Int64)) (c23 : (Nat → Int32)) : Option (Int32 × Int32 × Int32 × Int32 × Int64 × Int32 × Int32 × Int32 × Int32 × Int32 × Int32 × Int32 × Int32 × Int32 × Int32 × (Nat → Int64) × (Nat → Int32) × (Nat → Int32) × (Nat → Int32) × (Nat → Int32) × (Nat → Int32) × (Nat → Int32) × (Nat → Int64) × (Nat → Int64) × (Nat → Int32) × (Nat → Int32) × (Nat → Int32) × (Nat → Int32) × (Nat → Int32) × (Nat → Int32) × (Nat → Int32) × (Nat → Int32) × (Nat → Int32) × (Nat → Int32) × (Nat → Int32) × (Nat → Int64) × (Nat → Int32)) :=
  k193 y2 z0 v0_from v0_to v0_token v0_name v0_wrong v0_wrongAt v0_globals v0_procedures v0_statements v0_codes v0_blocks v0_open v0_opSize v0_deep c2 c3 c4 c5 c6 c7 c8 c9 c10 c11 c12 c13 c14 c15 c16 c17 c18 c19 c20 c21 c22 c23
noncomputable def fX11_takeProcedure_p243 (v0_textSize : Int32) (c1 : Nat → Int32) (k193 : Int32 → Int32 → Int32 → Int32 → Int32 → Int64 → Int32 → Int32 → Int32 → Int32 → Int32 → Int32 → Int32 → Int32 → Int32 → Int32 → (Nat → Int64) → (Nat → Int32) → (Nat → Int32) → (Nat → Int32) → (Nat → Int32) → (Nat → Int32) → (Nat → Int32) → (Nat → Int64) → (Nat → Int64) → (Nat → Int32) → (Nat → Int32) → (Nat → Int32) → (Nat → Int32) → (Nat → Int32) → (Nat → Int32) → (Nat → Int32) → (Nat → Int32) → (Nat → Int32) → (Nat → Int32) → (Nat → Int32) → (Nat → Int64) → (Nat → Int32) → Option (Int32 × Int32 × Int32 × Int32 × Int64 × Int32 × Int32 × Int32 × Int32 × Int32 × Int32 × Int32 × Int32 × Int32 × Int32 × (Nat → Int64) × (Nat → Int32) × (Nat → Int32) × (Nat → Int32) × (Nat → Int32) × (Nat → Int32) × (Nat → Int32) × (Nat → Int64) × (Nat → Int64) × (Nat → Int32) × (Nat → Int32) × (Nat → Int32) × (Nat → Int32) × (Nat → Int32) × (Nat → Int32) × (Nat → Int32) × (Nat → Int32) × (Nat → Int32) × (Nat → Int32) × (Nat → Int32) × (Nat → Int64) × (Nat → Int32))) (y2 : Int32) (v0_from : Int32) (v0_to : Int32) (v0_token : Int32) (v0_name : Int64) (v0_wrong : Int32) (v0_wrongAt : Int32) (v0_globals : Int32) (v0_procedures : Int32) (v0_statements : Int32) (v0_codes : Int32) (v0_blocks : Int32) (v0_open : Int32) (v0_opSize : Int32) (v0_deep : Int32) (c2 : (Nat → Int64)) (c3 : (Nat → Int32)) (c4 : (Nat → Int32)) (c5 : (Nat → Int32)) (c6 : (Nat → Int32)) (c7 : (Nat → Int32)) (c8 : (Nat → Int32)) (c9 : (Nat → Int64)) (c10 : (Nat → Int64)) (c11 : (Nat → Int32)) (c12 : (Nat → Int32)) (c13 : (Nat → Int32)) (c14 : (Nat → Int32)) (c15 : (Nat → Int32)) (c16 : (Nat → Int32)) (c17 : (Nat → Int32)) (c18 : (Nat → Int32)) (c19 : (Nat → Int32)) (c20 : (Nat → Int32)) (c21 : (Nat → Int32)) (c22 : (Nat → Int64)) (c23 : (Nat → Int32)) : Option (Int32 × Int32 × Int32 × Int32 × Int64 × Int32 × Int32 × Int32 × Int32 × Int32 × Int32 × Int32 × Int32 × Int32 × Int32 × (Nat → Int64) × (Nat → Int32) × (Nat → Int32) × (Nat → Int32) × (Nat → Int32) × (Nat → Int32) × (Nat → Int32) × (Nat → Int64) × (Nat → Int64) × (Nat → Int32) × (Nat → Int32) × (Nat → Int32) × (Nat → Int32) × (Nat → Int32) × (Nat → Int32) × (Nat → Int32) × (Nat → Int32) × (Nat → Int32) × (Nat → Int32) × (Nat → Int32) × (Nat → Int64) × (Nat → Int32)) :=
  fX11_takeProcedure_p244 v0_textSize c1 k193 y2 0 v0_from v0_to v0_token v0_name v0_wrong v0_wrongAt v0_globals v0_procedures v0_statements v0_codes v0_blocks v0_open v0_opSize v0_deep c2 c3 c4 c5 c6 c7 c8 c9 c10 c11 c12 c13 c14 c15 c16 c17 c18 c19 c20 c21 c22 c23
noncomputable def fX11_takeProcedure_p239 (v0_textSize : Int32) (c1 : Nat → Int32) (k193 : Int32 → Int32 → Int32 → Int32 → Int32 → Int64 → Int32 → Int32 → Int32 → Int32 → Int32 → Int32 → Int32 → Int32 → Int32 → Int32 → (Nat → Int64) → (Nat → Int32) → (Nat → Int32) → (Nat → Int32) → (Nat → Int32) → (Nat → Int32) → (Nat → Int32) → (Nat → Int64) → (Nat → Int64) → (Nat → Int32) → (Nat → Int32) → (Nat → Int32) → (Nat → Int32) → (Nat → Int32) → (Nat → Int32) → (Nat → Int32) → (Nat → Int32) → (Nat → Int32) → (Nat → Int32) → (Nat → Int32) → (Nat → Int64) → (Nat → Int32) → Option (Int32 × Int32 × Int32 × Int32 × Int64 × Int32 × Int32 × Int32 × Int32 × Int32 × Int32 × Int32 × Int32 × Int32 × Int32 × (Nat → Int64) × (Nat → Int32) × (Nat → Int32) × (Nat → Int32) × (Nat → Int32) × (Nat → Int32) × (Nat → Int32) × (Nat → Int64) × (Nat → Int64) × (Nat → Int32) × (Nat → Int32) × (Nat → Int32) × (Nat → Int32) × (Nat → Int32) × (Nat → Int32) × (Nat → Int32) × (Nat → Int32) × (Nat → Int32) × (Nat → Int32) × (Nat → Int32) × (Nat → Int64) × (Nat → Int32))) (y2 : Int32) (v0_from : Int32) (v0_to : Int32) (v0_token : Int32) (v0_name : Int64) (v0_wrong : Int32) (v0_wrongAt : Int32) (v0_globals : Int32) (v0_procedures : Int32) (v0_statements : Int32) (v0_codes : Int32) (v0_blocks : Int32) (v0_open : Int32) (v0_opSize : Int32) (v0_deep : Int32) (c2 : (Nat → Int64)) (c3 : (Nat → Int32)) (c4 : (Nat → Int32)) (c5 : (Nat → Int32)) (c6 : (Nat → Int32)) (c7 : (Nat → Int32)) (c8 : (Nat → Int32)) (c9 : (Nat → Int64)) (c10 : (Nat → Int64)) (c11 : (Nat → Int32)) (c12 : (Nat → Int32)) (c13 : (Nat → Int32)) (c14 : (Nat → Int32)) (c15 : (Nat → Int32)) (c16 : (Nat → Int32)) (c17 : (Nat → Int32)) (c18 : (Nat → Int32)) (c19 : (Nat → Int32)) (c20 : (Nat → Int32)) (c21 : (Nat → Int32)) (c22 : (Nat → Int64)) (c23 : (Nat → Int32)) : Option (Int32 × Int32 × Int32 × Int32 × Int64 × Int32 × Int32 × Int32 × Int32 × Int32 × Int32 × Int32 × Int32 × Int32 × Int32 × (Nat → Int64) × (Nat → Int32) × (Nat → Int32) × (Nat → Int32) × (Nat → Int32) × (Nat → Int32) × (Nat → Int32) × (Nat → Int64) × (Nat → Int64) × (Nat → Int32) × (Nat → Int32) × (Nat → Int32) × (Nat → Int32) × (Nat → Int32) × (Nat → Int32) × (Nat → Int32) × (Nat → Int32) × (Nat → Int32) × (Nat → Int32) × (Nat → Int32) × (Nat → Int64) × (Nat → Int32)) :=
  fX11_takeProcedure_p244 v0_textSize c1 k193 y2 1 v0_from v0_to v0_token v0_name v0_wrong v0_wrongAt v0_globals v0_procedures v0_statements v0_codes v0_blocks v0_open v0_opSize v0_deep c2 c3 c4 c5 c6 c7 c8 c9 c10 c11 c12 c13 c14 c15 c16 c17 c18 c19 c20 c21 c22 c23
noncomputable def fX11_takeProcedure_b193 (v0_textSize : Int32) (c1 : Nat → Int32) (k193 : Int32 → Int32 → Int32 → Int32 → Int32 → Int64 → Int32 → Int32 → Int32 → Int32 → Int32 → Int32 → Int32 → Int32 → Int32 → Int32 → (Nat → Int64) → (Nat → Int32) → (Nat → Int32) → (Nat → Int32) → (Nat → Int32) → (Nat → Int32) → (Nat → Int32) → (Nat → Int64) → (Nat → Int64) → (Nat → Int32) → (Nat → Int32) → (Nat → Int32) → (Nat → Int32) → (Nat → Int32) → (Nat → Int32) → (Nat → Int32) → (Nat → Int32) → (Nat → Int32) → (Nat → Int32) → (Nat → Int32) → (Nat → Int64) → (Nat → Int32) → Option (Int32 × Int32 × Int32 × Int32 × Int64 × Int32 × Int32 × Int32 × Int32 × Int32 × Int32 × Int32 × Int32 × Int32 × Int32 × (Nat → Int64) × (Nat → Int32) × (Nat → Int32) × (Nat → Int32) × (Nat → Int32) × (Nat → Int32) × (Nat → Int32) × (Nat → Int64) × (Nat → Int64) × (Nat → Int32) × (Nat → Int32) × (Nat → Int32) × (Nat → Int32) × (Nat → Int32) × (Nat → Int32) × (Nat → Int32) × (Nat → Int32) × (Nat → Int32) × (Nat → Int32) × (Nat → Int32) × (Nat → Int64) × (Nat → Int32))) (y2 : Int32) (y3 : Int32) (v0_from : Int32) (v0_to : Int32) (v0_token : Int32) (v0_name : Int64) (v0_wrong : Int32) (v0_wrongAt : Int32) (v0_globals : Int32) (v0_procedures : Int32) (v0_statements : Int32) (v0_codes : Int32) (v0_blocks : Int32) (v0_open : Int32) (v0_opSize : Int32) (v0_deep : Int32) (c2 : (Nat → Int64)) (c3 : (Nat → Int32)) (c4 : (Nat → Int32)) (c5 : (Nat → Int32)) (c6 : (Nat → Int32)) (c7 : (Nat → Int32)) (c8 : (Nat → Int32)) (c9 : (Nat → Int64)) (c10 : (Nat → Int64)) (c11 : (Nat → Int32)) (c12 : (Nat → Int32)) (c13 : (Nat → Int32)) (c14 : (Nat → Int32)) (c15 : (Nat → Int32)) (c16 : (Nat → Int32)) (c17 : (Nat → Int32)) (c18 : (Nat → Int32)) (c19 : (Nat → Int32)) (c20 : (Nat → Int32)) (c21 : (Nat → Int32)) (c22 : (Nat → Int64)) (c23 : (Nat → Int32)) : Option (Int32 × Int32 × Int32 × Int32 × Int64 × Int32 × Int32 × Int32 × Int32 × Int32 × Int32 × Int32 × Int32 × Int32 × Int32 × (Nat → Int64) × (Nat → Int32) × (Nat → Int32) × (Nat → Int32) × (Nat → Int32) × (Nat → Int32) × (Nat → Int32) × (Nat → Int64) × (Nat → Int64) × (Nat → Int32) × (Nat → Int32) × (Nat → Int32) × (Nat → Int32) × (Nat → Int32) × (Nat → Int32) × (Nat → Int32) × (Nat → Int32) × (Nat → Int32) × (Nat → Int32) × (Nat → Int32) × (Nat → Int64) × (Nat → Int32)) :=
  if y3 = 0 then
    fX11_takeProcedure_p248 v0_textSize c1 y3 v0_from v0_to v0_token v0_name v0_wrong v0_wrongAt v0_globals v0_procedures v0_statements v0_codes v0_blocks v0_open v0_opSize v0_deep c2 c3 c4 c5 c6 c7 c8 c9 c10 c11 c12 c13 c14 c15 c16 c17 c18 c19 c20 c21 c22 c23
  else
    if v0_open ≤ 0 then
      fX11_takeProcedure_p248 v0_textSize c1 y3 v0_from v0_to v0_token v0_name v0_wrong v0_wrongAt v0_globals v0_procedures v0_statements v0_codes v0_blocks v0_open v0_opSize v0_deep c2 c3 c4 c5 c6 c7 c8 c9 c10 c11 c12 c13 c14 c15 c16 c17 c18 c19 c20 c21 c22 c23
    else
      ob (fX11_may 1 v0_from v0_token v0_wrong v0_wrongAt) fun o4 =>
      if o4.1 = 0 then
        fX11_takeProcedure_p243 v0_textSize c1 k193 y2 v0_from v0_to v0_token v0_name o4.2.1 o4.2.2 v0_globals v0_procedures v0_statements v0_codes v0_blocks v0_open v0_opSize v0_deep c2 c3 c4 c5 c6 c7 c8 c9 c10 c11 c12 c13 c14 c15 c16 c17 c18 c19 c20 c21 c22 c23
      else
        ob (fX11_sees 125 v0_textSize v0_from v0_token c1) fun o6 =>
        if o6.1 = 0 then
          ob (fX11_takeStatement y2 v0_textSize v0_from v0_to v0_token v0_name o4.2.1 o4.2.2 v0_globals v0_statements v0_codes v0_blocks v0_open v0_opSize v0_deep c9 c3 c10 c8 c11 c12 c13 c14 c15 c16 c17 c18 c7 c6 c4 c5 c1 c19 c20 c21 c22 c23) fun o8 =>
          if o8.1 = 0 then
            fX11_takeProcedure_p243 v0_textSize c1 k193 y2 o8.2.1 o8.2.2.1 o8.2.2.2.1 o8.2.2.2.2.1 o8.2.2.2.2.2.1 o8.2.2.2.2.2.2.1 v0_globals v0_procedures o8.2.2.2.2.2.2.2.1 o8.2.2.2.2.2.2.2.2.1 o8.2.2.2.2.2.2.2.2.2.1 o8.2.2.2.2.2.2.2.2.2.2.1 o8.2.2.2.2.2.2.2.2.2.2.2.1 o8.2.2.2.2.2.2.2.2.2.2.2.2.1 c2 c3 o8.2.2.2.2.2.2.2.2.2.2.2.2.2.2.2.2.2.2.2.2.2.2.2.2.1 o8.2.2.2.2.2.2.2.2.2.2.2.2.2.2.2.2.2.2.2.2.2.2.2.2.2.1 o8.2.2.2.2.2.2.2.2.2.2.2.2.2.2.2.2.2.2.2.2.2.2.2.1 o8.2.2.2.2.2.2.2.2.2.2.2.2.2.2.2.2.2.2.2.2.2.2.1 o8.2.2.2.2.2.2.2.2.2.2.2.2.2.1 c9 c10 o8.2.2.2.2.2.2.2.2.2.2.2.2.2.2.1 o8.2.2.2.2.2.2.2.2.2.2.2.2.2.2.2.1 o8.2.2.2.2.2.2.2.2.2.2.2.2.2.2.2.2.1 o8.2.2.2.2.2.2.2.2.2.2.2.2.2.2.2.2.2.1 o8.2.2.2.2.2.2.2.2.2.2.2.2.2.2.2.2.2.2.1 o8.2.2.2.2.2.2.2.2.2.2.2.2.2.2.2.2.2.2.2.1 o8.2.2.2.2.2.2.2.2.2.2.2.2.2.2.2.2.2.2.2.2.1 o8.2.2.2.2.2.2.2.2.2.2.2.2.2.2.2.2.2.2.2.2.2.1 o8.2.2.2.2.2.2.2.2.2.2.2.2.2.2.2.2.2.2.2.2.2.2.2.2.2.2.1 o8.2.2.2.2.2.2.2.2.2.2.2.2.2.2.2.2.2.2.2.2.2.2.2.2.2.2.2.1 o8.2.2.2.2.2.2.2.2.2.2.2.2.2.2.2.2.2.2.2.2.2.2.2.2.2.2.2.2.1 o8.2.2.2.2.2.2.2.2.2.2.2.2.2.2.2.2.2.2.2.2.2.2.2.2.2.2.2.2.2.1 o8.2.2.2.2.2.2.2.2.2.2.2.2.2.2.2.2.2.2.2.2.2.2.2.2.2.2.2.2.2.2
          else
            fX11_takeProcedure_p239 v0_textSize c1 k193 y2 o8.2.1 o8.2.2.1 o8.2.2.2.1 o8.2.2.2.2.1 o8.2.2.2.2.2.1 o8.2.2.2.2.2.2.1 v0_globals v0_procedures o8.2.2.2.2.2.2.2.1 o8.2.2.2.2.2.2.2.2.1 o8.2.2.2.2.2.2.2.2.2.1 o8.2.2.2.2.2.2.2.2.2.2.1 o8.2.2.2.2.2.2.2.2.2.2.2.1 o8.2.2.2.2.2.2.2.2.2.2.2.2.1 c2 c3 o8.2.2.2.2.2.2.2.2.2.2.2.2.2.2.2.2.2.2.2.2.2.2.2.2.1 o8.2.2.2.2.2.2.2.2.2.2.2.2.2.2.2.2.2.2.2.2.2.2.2.2.2.1 o8.2.2.2.2.2.2.2.2.2.2.2.2.2.2.2.2.2.2.2.2.2.2.2.1 o8.2.2.2.2.2.2.2.2.2.2.2.2.2.2.2.2.2.2.2.2.2.2.1 o8.2.2.2.2.2.2.2.2.2.2.2.2.2.1 c9 c10 o8.2.2.2.2.2.2.2.2.2.2.2.2.2.2.1 o8.2.2.2.2.2.2.2.2.2.2.2.2.2.2.2.1 o8.2.2.2.2.2.2.2.2.2.2.2.2.2.2.2.2.1 o8.2.2.2.2.2.2.2.2.2.2.2.2.2.2.2.2.2.1 o8.2.2.2.2.2.2.2.2.2.2.2.2.2.2.2.2.2.2.1 o8.2.2.2.2.2.2.2.2.2.2.2.2.2.2.2.2.2.2.2.1 o8.2.2.2.2.2.2.2.2.2.2.2.2.2.2.2.2.2.2.2.2.1 o8.2.2.2.2.2.2.2.2.2.2.2.2.2.2.2.2.2.2.2.2.2.1 o8.2.2.2.2.2.2.2.2.2.2.2.2.2.2.2.2.2.2.2.2.2.2.2.2.2.2.1 o8.2.2.2.2.2.2.2.2.2.2.2.2.2.2.2.2.2.2.2.2.2.2.2.2.2.2.2.1 o8.2.2.2.2.2.2.2.2.2.2.2.2.2.2.2.2.2.2.2.2.2.2.2.2.2.2.2.2.1 o8.2.2.2.2.2.2.2.2.2.2.2.2.2.2.2.2.2.2.2.2.2.2.2.2.2.2.2.2.2.1 o8.2.2.2.2.2.2.2.2.2.2.2.2.2.2.2.2.2.2.2.2.2.2.2.2.2.2.2.2.2.2
        else
          ob (fX11_closeBlock v0_textSize v0_from v0_to v0_token v0_name o4.2.1 o4.2.2 v0_blocks v0_open c8 c1 c6 c5 c7) fun o10 =>
          if o10.1 = 0 then
            fX11_takeProcedure_p243 v0_textSize c1 k193 y2 o10.2.1 o10.2.2.1 o10.2.2.2.1 o10.2.2.2.2.1 o10.2.2.2.2.2.1 o10.2.2.2.2.2.2.1 v0_globals v0_procedures v0_statements v0_codes o10.2.2.2.2.2.2.2.1 o10.2.2.2.2.2.2.2.2.1 v0_opSize v0_deep c2 c3 c4 o10.2.2.2.2.2.2.2.2.2.2.2.1 o10.2.2.2.2.2.2.2.2.2.2.1 o10.2.2.2.2.2.2.2.2.2.2.2.2 o10.2.2.2.2.2.2.2.2.2.1 c9 c10 c11 c12 c13 c14 c15 c16 c17 c18 c19 c20 c21 c22 c23
          else
            fX11_takeProcedure_p239 v0_textSize c1 k193 y2 o10.2.1 o10.2.2.1 o10.2.2.2.1 o10.2.2.2.2.1 o10.2.2.2.2.2.1 o10.2.2.2.2.2.2.1 v0_globals v0_procedures v0_statements v0_codes o10.2.2.2.2.2.2.2.1 o10.2.2.2.2.2.2.2.2.1 v0_opSize v0_deep c2 c3 c4 o10.2.2.2.2.2.2.2.2.2.2.2.1 o10.2.2.2.2.2.2.2.2.2.2.1 o10.2.2.2.2.2.2.2.2.2.2.2.2 o10.2.2.2.2.2.2.2.2.2.1 c9 c10 c11 c12 c13 c14 c15 c16 c17 c18 c19 c20 c21 c22 c23
noncomputable def fX11_takeProcedure_l193 (v0_textSize : Int32) (c1 : Nat → Int32) : Nat → Int32 → Int32 → Int32 → Int32 → Int32 → Int64 → Int32 → Int32 → Int32 → Int32 → Int32 → Int32 → Int32 → Int32 → Int32 → Int32 → (Nat → Int64) → (Nat → Int32) → (Nat → Int32) → (Nat → Int32) → (Nat → Int32) → (Nat → Int32) → (Nat → Int32) → (Nat → Int64) → (Nat → Int64) → (Nat → Int32) → (Nat → Int32) → (Nat → Int32) → (Nat → Int32) → (Nat → Int32) → (Nat → Int32) → (Nat → Int32) → (Nat → Int32) → (Nat → Int32) → (Nat → Int32) → (Nat → Int32) → (Nat → Int64) → (Nat → Int32) → Option (Int32 × Int32 × Int32 × Int32 × Int64 × Int32 × Int32 × Int32 × Int32 × Int32 × Int32 × Int32 × Int32 × Int32 × Int32 × (Nat → Int64) × (Nat → Int32) × (Nat → Int32) × (Nat → Int32) × (Nat → Int32) × (Nat → Int32) × (Nat → Int32) × (Nat → Int64) × (Nat → Int64) × (Nat → Int32) × (Nat → Int32) × (Nat → Int32) × (Nat → Int32) × (Nat → Int32) × (Nat → Int32) × (Nat → Int32) × (Nat → Int32) × (Nat → Int32) × (Nat → Int32) × (Nat → Int32) × (Nat → Int64) × (Nat → Int32))
  | 0 => fun _ _ _ _ _ _ _ _ _ _ _ _ _ _ _ _ _ _ _ _ _ _ _ _ _ _ _ _ _ _ _ _ _ _ _ _ _ _ => none
  | n + 1 => fX11_takeProcedure_b193 v0_textSize c1  (fX11_takeProcedure_l193 v0_textSize c1  n)
noncomputable def fX11_takeProcedure_p90 (v0_textSize : Int32) (c1 : Nat → Int32) (k59 : Int32 → Int32 → Int32 → Int32 → Int32 → Int64 → Int32 → Int32 → Int32 → Int32 → Int32 → Int32 → Int32 → Int32 → Int32 → Int32 → (Nat → Int64) → (Nat → Int32) → (Nat → Int32) → (Nat → Int32) → (Nat → Int32) → (Nat → Int32) → (Nat → Int32) → (Nat → Int64) → (Nat → Int64) → (Nat → Int32) → (Nat → Int32) → (Nat → Int32) → (Nat → Int32) → (Nat → Int32) → (Nat → Int32) → (Nat → Int32) → (Nat → Int32) → (Nat → Int32) → (Nat → Int32) → (Nat → Int32) → (Nat → Int64) → (Nat → Int32) → Option (Int32 × Int32 × Int32 × Int32 × Int64 × Int32 × Int32 × Int32 × Int32 × Int32 × Int32 × Int32 × Int32 × Int32 × Int32 × (Nat → Int64) × (Nat → Int32) × (Nat → Int32) × (Nat → Int32) × (Nat → Int32) × (Nat → Int32) × (Nat → Int32) × (Nat → Int64) × (Nat → Int64) × (Nat → Int32) × (Nat → Int32) × (Nat → Int32) × (Nat → Int32) × (Nat → Int32) × (Nat → Int32) × (Nat → Int32) × (Nat → Int32) × (Nat → Int32) × (Nat → Int32) × (Nat → Int32) × (Nat → Int64) × (Nat → Int32))) (y2 : Int32) (z0 : Int32) (v0_from : Int32) (v0_to : Int32) (v0_token : Int32) (v0_name : Int64) (v0_wrong : Int32) (v0_wrongAt : Int32) (v0_globals : Int32) (v0_procedures : Int32) (v0_statements : Int32) (v0_codes : Int32) (v0_blocks : Int32) (v0_open : Int32) (v0_opSize : Int32) (v0_deep : Int32) (c2 : (Nat → Int64)) (c3 : (Nat → Int32)) (c4 : (Nat → Int32)) (c5 : (Nat → Int32)) (c6 : (Nat → Int32)) (c7 : (Nat → Int32)) (c8 : (Nat → Int32)) (c9 : (Nat → Int64)) (c10 : (Nat → Int64)) (c11 : (Nat → Int32)) (c12 : (Nat → Int32)) (c13 : (Nat → Int32)) (c14 : (Nat → Int32)) (c15 : (Nat → Int32)) (c16 : (Nat → Int32)) (c17 : (Nat → Int32)) (c18 : (Nat → Int32)) (c19 : (Nat → Int32)) (c20 : (Nat → Int32)) (c21 : (Nat → Int32)) (c22 : (Nat → Int64)) (c23 : (Nat → Int32)) : Option (Int32 × Int32 × Int32 × Int32 × Int64 × Int32 × Int32 × Int32 × Int32 × Int32 × Int32 × Int32 × Int32 × Int32 × Int32 × (Nat → Int64) × (Nat → Int32) × (Nat → Int32) × (Nat → Int32) × (Nat → Int32) × (Nat → Int32) × (Nat → Int32) × (Nat → Int64) × (Nat → Int64) × (Nat → Int32) × (Nat → Int32) × (Nat → Int32) × (Nat → Int32) × (Nat → Int32) × (Nat → Int32) × (Nat → Int32) × (Nat → Int32) × (Nat → Int32) × (Nat → Int32) × (Nat → Int32) × (Nat → Int64) × (Nat → Int32)) :=
  nm (y2 + 1) fun x12 =>
  k59 z0 x12 v0_from v0_to v0_token v0_name v0_wrong v0_wrongAt v0_globals v0_procedures v0_statements v0_codes v0_blocks v0_open v0_opSize v0_deep c2 c3 c4 c5 c6 c7 c8 c9 c10 c11 c12 c13 c14 c15 c16 c17 c18 c19 c20 c21 c22 c23
noncomputable def fX11_takeProcedure_p85 (v0_textSize : Int32) (c1 : Nat → Int32) (k59 : Int32 → Int32 → Int32 → Int32 → Int32 → Int64 → Int32 → Int32 → Int32 → Int32 → Int32 → Int32 → Int32 → Int32 → Int32 → Int32 → (Nat → Int64) → (Nat → Int32) → (Nat → Int32) → (Nat → Int32) → (Nat → Int32) → (Nat → Int32) → (Nat → Int32) → (Nat → Int64) → (Nat → Int64) → (Nat → Int32) → (Nat → Int32) → (Nat → Int32) → (Nat → Int32) → (Nat → Int32) → (Nat → Int32) → (Nat → Int32) → (Nat → Int32) → (Nat → Int32) → (Nat → Int32) → (Nat → Int32) → (Nat → Int64) → (Nat → Int32) → Option (Int32 × Int32 × Int32 × Int32 × Int64 × Int32 × Int32 × Int32 × Int32 × Int32 × Int32 × Int32 × Int32 × Int32 × Int32 × (Nat → Int64) × (Nat → Int32) × (Nat → Int32) × (Nat → Int32) × (Nat → Int32) × (Nat → Int32) × (Nat → Int32) × (Nat → Int64) × (Nat → Int64) × (Nat → Int32) × (Nat → Int32) × (Nat → Int32) × (Nat → Int32) × (Nat → Int32) × (Nat → Int32) × (Nat → Int32) × (Nat → Int32) × (Nat → Int32) × (Nat → Int32) × (Nat → Int32) × (Nat → Int64) × (Nat → Int32))) (y2 : Int32) (v0_from : Int32) (v0_to : Int32) (v0_token : Int32) (v0_name : Int64) (v0_wrong : Int32) (v0_wrongAt : Int32) (v0_globals : Int32) (v0_procedures : Int32) (v0_statements : Int32) (v0_codes : Int32) (v0_blocks : Int32) (v0_open : Int32) (v0_opSize : Int32) (v0_deep : Int32) (c2 : (Nat → Int64)) (c3 : (Nat → Int32)) (c4 : (Nat → Int32)) (c5 : (Nat → Int32)) (c6 : (Nat → Int32)) (c7 : (Nat → Int32)) (c8 : (Nat → Int32)) (c9 : (Nat → Int64)) (c10 : (Nat → Int64)) (c11 : (Nat → Int32)) (c12 : (Nat → Int32)) (c13 : (Nat → Int32)) (c14 : (Nat → Int32)) (c15 : (Nat → Int32)) (c16 : (Nat → Int32)) (c17 : (Nat → Int32)) (c18 : (Nat → Int32)) (c19 : (Nat → Int32)) (c20 : (Nat → Int32)) (c21 : (Nat → Int32)) (c22 : (Nat → Int64)) (c23 : (Nat → Int32)) : Option (Int32 × Int32 × Int32 × Int32 × Int64 × Int32 × Int32 × Int32 × Int32 × Int32 × Int32 × Int32 × Int32 × Int32 × Int32 × (Nat → Int64) × (Nat → Int32) × (Nat → Int32) × (Nat → Int32) × (Nat → Int32) × (Nat → Int32) × (Nat → Int32) × (Nat → Int64) × (Nat → Int64) × (Nat → Int32) × (Nat → Int32) × (Nat → Int32) × (Nat → Int32) × (Nat → Int32) × (Nat → Int32) × (Nat → Int32) × (Nat → Int32) × (Nat → Int32) × (Nat → Int32) × (Nat → Int32) × (Nat → Int64) × (Nat → Int32)) :=
  fX11_takeProcedure_p90 v0_textSize c1 k59 y2 1 v0_from v0_to v0_token v0_name v0_wrong v0_wrongAt v0_globals v0_procedures v0_statements v0_codes v0_blocks v0_open v0_opSize v0_deep c2 c3 c4 c5 c6 c7 c8 c9 c10 c11 c12 c13 c14 c15 c16 c17 c18 c19 c20 c21 c22 c23
noncomputable def fX11_takeProcedure_b59 (v0_textSize : Int32) (c1 : Nat → Int32) (k59 : Int32 → Int32 → Int32 → Int32 → Int32 → Int64 → Int32 → Int32 → Int32 → Int32 → Int32 → Int32 → Int32 → Int32 → Int32 → Int32 → (Nat → Int64) → (Nat → Int32) → (Nat → Int32) → (Nat → Int32) → (Nat → Int32) → (Nat → Int32) → (Nat → Int32) → (Nat → Int64) → (Nat → Int64) → (Nat → Int32) → (Nat → Int32) → (Nat → Int32) → (Nat → Int32) → (Nat → Int32) → (Nat → Int32) → (Nat → Int32) → (Nat → Int32) → (Nat → Int32) → (Nat → Int32) → (Nat → Int32) → (Nat → Int64) → (Nat → Int32) → Option (Int32 × Int32 × Int32 × Int32 × Int64 × Int32 × Int32 × Int32 × Int32 × Int32 × Int32 × Int32 × Int32 × Int32 × Int32 × (Nat → Int64) × (Nat → Int32) × (Nat → Int32) × (Nat → Int32) × (Nat → Int32) × (Nat → Int32) × (Nat → Int32) × (Nat → Int64) × (Nat → Int64) × (Nat → Int32) × (Nat → Int32) × (Nat → Int32) × (Nat → Int32) × (Nat → Int32) × (Nat → Int32) × (Nat → Int32) × (Nat → Int32) × (Nat → Int32) × (Nat → Int32) × (Nat → Int32) × (Nat → Int64) × (Nat → Int32))) (y1 : Int32) (y2 : Int32) (v0_from : Int32) (v0_to : Int32) (v0_token : Int32) (v0_name : Int64) (v0_wrong : Int32) (v0_wrongAt : Int32) (v0_globals : Int32) (v0_procedures : Int32) (v0_statements : Int32) (v0_codes : Int32) (v0_blocks : Int32) (v0_open : Int32) (v0_opSize : Int32) (v0_deep : Int32) (c2 : (Nat → Int64)) (c3 : (Nat → Int32)) (c4 : (Nat → Int32)) (c5 : (Nat → Int32)) (c6 : (Nat → Int32)) (c7 : (Nat → Int32)) (c8 : (Nat → Int32)) (c9 : (Nat → Int64)) (c10 : (Nat → Int64)) (c11 : (Nat → Int32)) (c12 : (Nat → Int32)) (c13 : (Nat → Int32)) (c14 : (Nat → Int32)) (c15 : (Nat → Int32)) (c16 : (Nat → Int32)) (c17 : (Nat → Int32)) (c18 : (Nat → Int32)) (c19 : (Nat → Int32)) (c20 : (Nat → Int32)) (c21 : (Nat → Int32)) (c22 : (Nat → Int64)) (c23 : (Nat → Int32)) : Option (Int32 × Int32 × Int32 × Int32 × Int64 × Int32 × Int32 × Int32 × Int32 × Int32 × Int32 × Int32 × Int32 × Int32 × Int32 × (Nat → Int64) × (Nat → Int32) × (Nat → Int32) × (Nat → Int32) × (Nat → Int32) × (Nat → Int32) × (Nat → Int32) × (Nat → Int64) × (Nat → Int64) × (Nat → Int32) × (Nat → Int32) × (Nat → Int32) × (Nat → Int32) × (Nat → Int32) × (Nat → Int32) × (Nat → Int32) × (Nat → Int32) × (Nat → Int32) × (Nat → Int32) × (Nat → Int32) × (Nat → Int64) × (Nat → Int32)) :=
  if v0_procedures ≤ y2 then
    if y1 = 0 then
      nm (v0_procedures + 1) fun x15 =>
      bd (inb v0_procedures 6) <|
      nm (vp_updL c2 v0_procedures.toNatClampNeg v0_name) fun c16x =>
      bd (inb v0_procedures 6) <|
      nm (upd c3 v0_procedures.toNatClampNeg 0) fun c17x =>
      bd (inb v0_procedures 6) <|
      nm (upd c4 v0_procedures.toNatClampNeg (-1)) fun c18x =>
      ob (fX11_next v0_textSize v0_from v0_to v0_token v0_name c1) fun o19 =>
      ob (fX11_openBlock (-1) 0 v0_textSize o19.1 o19.2.1 o19.2.2.1 o19.2.2.2 v0_wrong v0_wrongAt v0_blocks v0_open c1 c5 c6 c7 c8) fun o20 =>
      if o20.1 = 0 then
        fX11_takeProcedure_l193 v0_textSize c1 FU v0_procedures o20.1 o20.2.1 o20.2.2.1 o20.2.2.2.1 o20.2.2.2.2.1 o20.2.2.2.2.2.1 o20.2.2.2.2.2.2.1 v0_globals x15 v0_statements v0_codes o20.2.2.2.2.2.2.2.1 o20.2.2.2.2.2.2.2.2.1 v0_opSize v0_deep c16x c17x c18x o20.2.2.2.2.2.2.2.2.2.1 o20.2.2.2.2.2.2.2.2.2.2.1 o20.2.2.2.2.2.2.2.2.2.2.2.1 o20.2.2.2.2.2.2.2.2.2.2.2.2 c9 c10 c11 c12 c13 c14 c15 c16 c17 c18 c19 c20 c21 c22 c23
      else
        ob (fX11_may 1 o20.2.1 o20.2.2.2.1 o20.2.2.2.2.2.1 o20.2.2.2.2.2.2.1) fun o22 =>
        if o22.1 = 0 then
          fX11_takeProcedure_l193 v0_textSize c1 FU v0_procedures o20.1 o20.2.1 o20.2.2.1 o20.2.2.2.1 o20.2.2.2.2.1 o22.2.1 o22.2.2 v0_globals x15 v0_statements v0_codes o20.2.2.2.2.2.2.2.1 o20.2.2.2.2.2.2.2.2.1 v0_opSize v0_deep c16x c17x c18x o20.2.2.2.2.2.2.2.2.2.1 o20.2.2.2.2.2.2.2.2.2.2.1 o20.2.2.2.2.2.2.2.2.2.2.2.1 o20.2.2.2.2.2.2.2.2.2.2.2.2 c9 c10 c11 c12 c13 c14 c15 c16 c17 c18 c19 c20 c21 c22 c23
        else
          ob (fX11_isThe 7758194 o20.2.2.2.1 o20.2.2.2.2.1) fun o24 =>
          if o24.1 = 0 then
            fX11_takeProcedure_l193 v0_textSize c1 FU v0_procedures o20.1 o20.2.1 o20.2.2.1 o20.2.2.2.1 o20.2.2.2.2.1 o22.2.1 o22.2.2 v0_globals x15 v0_statements v0_codes o20.2.2.2.2.2.2.2.1 o20.2.2.2.2.2.2.2.2.1 v0_opSize v0_deep c16x c17x c18x o20.2.2.2.2.2.2.2.2.2.1 o20.2.2.2.2.2.2.2.2.2.2.1 o20.2.2.2.2.2.2.2.2.2.2.2.1 o20.2.2.2.2.2.2.2.2.2.2.2.2 c9 c10 c11 c12 c13 c14 c15 c16 c17 c18 c19 c20 c21 c22 c23
          else
            ob (fX11_next v0_textSize o20.2.1 o20.2.2.1 o20.2.2.2.1 o20.2.2.2.2.1 c1) fun o26 =>
            ob (fX11_takeVars v0_procedures v0_textSize o26.1 o26.2.1 o26.2.2.1 o26.2.2.2 o22.2.1 o22.2.2 v0_globals c9 c17x c10 c1) fun o27 =>
            fX11_takeProcedure_l193 v0_textSize c1 FU v0_procedures o27.1 o27.2.1 o27.2.2.1 o27.2.2.2.1 o27.2.2.2.2.1 o27.2.2.2.2.2.1 o27.2.2.2.2.2.2.1 o27.2.2.2.2.2.2.2.1 x15 v0_statements v0_codes o20.2.2.2.2.2.2.2.1 o20.2.2.2.2.2.2.2.2.1 v0_opSize v0_deep c16x o27.2.2.2.2.2.2.2.2.2.1 c18x o20.2.2.2.2.2.2.2.2.2.1 o20.2.2.2.2.2.2.2.2.2.2.1 o20.2.2.2.2.2.2.2.2.2.2.2.1 o20.2.2.2.2.2.2.2.2.2.2.2.2 o27.2.2.2.2.2.2.2.2.1 o27.2.2.2.2.2.2.2.2.2.2 c11 c12 c13 c14 c15 c16 c17 c18 c19 c20 c21 c22 c23
    else
      ob (fX11_fail 3 v0_from v0_wrong v0_wrongAt) fun o28 =>
      bd (bz o28.1) <|
      some (o28.1, (v0_from, v0_to, v0_token, v0_name, o28.2.1, o28.2.2, v0_globals, v0_procedures, v0_statements, v0_codes, v0_blocks, v0_open, v0_opSize, v0_deep, c2, c3, c4, c5, c6, c7, c8, c9, c10, c11, c12, c13, c14, c15, c16, c17, c18, c19, c20, c21, c22, c23))
  else
    if y1 = 0 then
      bd (inb y2 6) <|
      nm (c2 y2.toNatClampNeg) fun x32 =>
      nm (lg_cmp x32 v0_name) fun x33 =>
      if x33 = 0 then
        fX11_takeProcedure_p85 v0_textSize c1 k59 y2 v0_from v0_to v0_token v0_name v0_wrong v0_wrongAt v0_globals v0_procedures v0_statements v0_codes v0_blocks v0_open v0_opSize v0_deep c2 c3 c4 c5 c6 c7 c8 c9 c10 c11 c12 c13 c14 c15 c16 c17 c18 c19 c20 c21 c22 c23
      else
        fX11_takeProcedure_p90 v0_textSize c1 k59 y2 0 v0_from v0_to v0_token v0_name v0_wrong v0_wrongAt v0_globals v0_procedures v0_statements v0_codes v0_blocks v0_open v0_opSize v0_deep c2 c3 c4 c5 c6 c7 c8 c9 c10 c11 c12 c13 c14 c15 c16 c17 c18 c19 c20 c21 c22 c23
    else
      fX11_takeProcedure_p85 v0_textSize c1 k59 y2 v0_from v0_to v0_token v0_name v0_wrong v0_wrongAt v0_globals v0_procedures v0_statements v0_codes v0_blocks v0_open v0_opSize v0_deep c2 c3 c4 c5 c6 c7 c8 c9 c10 c11 c12 c13 c14 c15 c16 c17 c18 c19 c20 c21 c22 c23
noncomputable def fX11_takeProcedure_l59 (v0_textSize : Int32) (c1 : Nat → Int32) : Nat → Int32 → Int32 → Int32 → Int32 → Int32 → Int64 → Int32 → Int32 → Int32 → Int32 → Int32 → Int32 → Int32 → Int32 → Int32 → Int32 → (Nat → Int64) → (Nat → Int32) → (Nat → Int32) → (Nat → Int32) → (Nat → Int32) → (Nat → Int32) → (Nat → Int32) → (Nat → Int64) → (Nat → Int64) → (Nat → Int32) → (Nat → Int32) → (Nat → Int32) → (Nat → Int32) → (Nat → Int32) → (Nat → Int32) → (Nat → Int32) → (Nat → Int32) → (Nat → Int32) → (Nat → Int32) → (Nat → Int32) → (Nat → Int64) → (Nat → Int32) → Option (Int32 × Int32 × Int32 × Int32 × Int64 × Int32 × Int32 × Int32 × Int32 × Int32 × Int32 × Int32 × Int32 × Int32 × Int32 × (Nat → Int64) × (Nat → Int32) × (Nat → Int32) × (Nat → Int32) × (Nat → Int32) × (Nat → Int32) × (Nat → Int32) × (Nat → Int64) × (Nat → Int64) × (Nat → Int32) × (Nat → Int32) × (Nat → Int32) × (Nat → Int32) × (Nat → Int32) × (Nat → Int32) × (Nat → Int32) × (Nat → Int32) × (Nat → Int32) × (Nat → Int32) × (Nat → Int32) × (Nat → Int64) × (Nat → Int32))
  | 0 => fun _ _ _ _ _ _ _ _ _ _ _ _ _ _ _ _ _ _ _ _ _ _ _ _ _ _ _ _ _ _ _ _ _ _ _ _ _ _ => none
  | n + 1 => fX11_takeProcedure_b59 v0_textSize c1  (fX11_takeProcedure_l59 v0_textSize c1  n)
noncomputable def fX11_takeProcedure_p56 (v0_textSize : Int32) (c1 : Nat → Int32) (z0 : Int32) (v0_from : Int32) (v0_to : Int32) (v0_token : Int32) (v0_name : Int64) (v0_wrong : Int32) (v0_wrongAt : Int32) (v0_globals : Int32) (v0_procedures : Int32) (v0_statements : Int32) (v0_codes : Int32) (v0_blocks : Int32) (v0_open : Int32) (v0_opSize : Int32) (v0_deep : Int32) (c2 : (Nat → Int64)) (c3 : (Nat → Int32)) (c4 : (Nat → Int32)) (c5 : (Nat → Int32)) (c6 : (Nat → Int32)) (c7 : (Nat → Int32)) (c8 : (Nat → Int32)) (c9 : (Nat → Int64)) (c10 : (Nat → Int64)) (c11 : (Nat → Int32)) (c12 : (Nat → Int32)) (c13 : (Nat → Int32)) (c14 : (Nat → Int32)) (c15 : (Nat → Int32)) (c16 : (Nat → Int32)) (c17 : (Nat → Int32)) (c18 : (Nat → Int32)) (c19 : (Nat → Int32)) (c20 : (Nat → Int32)) (c21 : (Nat → Int32)) (c22 : (Nat → Int64)) (c23 : (Nat → Int32)) : Option (Int32 × Int32 × Int32 × Int32 × Int64 × Int32 × Int32 × Int32 × Int32 × Int32 × Int32 × Int32 × Int32 × Int32 × Int32 × (Nat → Int64) × (Nat → Int32) × (Nat → Int32) × (Nat → Int32) × (Nat → Int32) × (Nat → Int32) × (Nat → Int32) × (Nat → Int64) × (Nat → Int64) × (Nat → Int32) × (Nat → Int32) × (Nat → Int32) × (Nat → Int32) × (Nat → Int32) × (Nat → Int32) × (Nat → Int32) × (Nat → Int32) × (Nat → Int32) × (Nat → Int32) × (Nat → Int32) × (Nat → Int64) × (Nat → Int32)) :=
  fX11_takeProcedure_l59 v0_textSize c1 FU z0 0 v0_from v0_to v0_token v0_name v0_wrong v0_wrongAt v0_globals v0_procedures v0_statements v0_codes v0_blocks v0_open v0_opSize v0_deep c2 c3 c4 c5 c6 c7 c8 c9 c10 c11 c12 c13 c14 c15 c16 c17 c18 c19 c20 c21 c22 c23
noncomputable def fX11_takeProcedure_p34 (v0_textSize : Int32) (c1 : Nat → Int32) (z0 : Int32) (v0_from : Int32) (v0_to : Int32) (v0_token : Int32) (v0_name : Int64) (v0_wrong : Int32) (v0_wrongAt : Int32) (v0_globals : Int32) (v0_procedures : Int32) (v0_statements : Int32) (v0_codes : Int32) (v0_blocks : Int32) (v0_open : Int32) (v0_opSize : Int32) (v0_deep : Int32) (c2 : (Nat → Int64)) (c3 : (Nat → Int32)) (c4 : (Nat → Int32)) (c5 : (Nat → Int32)) (c6 : (Nat → Int32)) (c7 : (Nat → Int32)) (c8 : (Nat → Int32)) (c9 : (Nat → Int64)) (c10 : (Nat → Int64)) (c11 : (Nat → Int32)) (c12 : (Nat → Int32)) (c13 : (Nat → Int32)) (c14 : (Nat → Int32)) (c15 : (Nat → Int32)) (c16 : (Nat → Int32)) (c17 : (Nat → Int32)) (c18 : (Nat → Int32)) (c19 : (Nat → Int32)) (c20 : (Nat → Int32)) (c21 : (Nat → Int32)) (c22 : (Nat → Int64)) (c23 : (Nat → Int32)) : Option (Int32 × Int32 × Int32 × Int32 × Int64 × Int32 × Int32 × Int32 × Int32 × Int32 × Int32 × Int32 × Int32 × Int32 × Int32 × (Nat → Int64) × (Nat → Int32) × (Nat → Int32) × (Nat → Int32) × (Nat → Int32) × (Nat → Int32) × (Nat → Int32) × (Nat → Int64) × (Nat → Int64) × (Nat → Int32) × (Nat → Int32) × (Nat → Int32) × (Nat → Int32) × (Nat → Int32) × (Nat → Int32) × (Nat → Int32) × (Nat → Int32) × (Nat → Int32) × (Nat → Int32) × (Nat → Int32) × (Nat → Int64) × (Nat → Int32)) :=
  ob (fX11_may z0 v0_from v0_token v0_wrong v0_wrongAt) fun o35 =>
  if o35.1 = 0 then
    some (0, (v0_from, v0_to, v0_token, v0_name, o35.2.1, o35.2.2, v0_globals, v0_procedures, v0_statements, v0_codes, v0_blocks, v0_open, v0_opSize, v0_deep, c2, c3, c4, c5, c6, c7, c8, c9, c10, c11, c12, c13, c14, c15, c16, c17, c18, c19, c20, c21, c22, c23))
  else
    if v0_procedures = 6 then
      fX11_takeProcedure_p56 v0_textSize c1 1 v0_from v0_to v0_token v0_name o35.2.1 o35.2.2 v0_globals v0_procedures v0_statements v0_codes v0_blocks v0_open v0_opSize v0_deep c2 c3 c4 c5 c6 c7 c8 c9 c10 c11 c12 c13 c14 c15 c16 c17 c18 c19 c20 c21 c22 c23
    else
      fX11_takeProcedure_p56 v0_textSize c1 0 v0_from v0_to v0_token v0_name o35.2.1 o35.2.2 v0_globals v0_procedures v0_statements v0_codes v0_blocks v0_open v0_opSize v0_deep c2 c3 c4 c5 c6 c7 c8 c9 c10 c11 c12 c13 c14 c15 c16 c17 c18 c19 c20 c21 c22 c23
noncomputable def fX11_takeProcedure (v0_textSize : Int32) (v0_from : Int32) (v0_to : Int32) (v0_token : Int32) (v0_name : Int64) (v0_wrong : Int32) (v0_wrongAt : Int32) (v0_globals : Int32) (v0_procedures : Int32) (v0_statements : Int32) (v0_codes : Int32) (v0_blocks : Int32) (v0_open : Int32) (v0_opSize : Int32) (v0_deep : Int32) (c1 : Nat → Int32) (c2 : Nat → Int64) (c3 : Nat → Int32) (c4 : Nat → Int32) (c5 : Nat → Int32) (c6 : Nat → Int32) (c7 : Nat → Int32) (c8 : Nat → Int32) (c9 : Nat → Int64) (c10 : Nat → Int64) (c11 : Nat → Int32) (c12 : Nat → Int32) (c13 : Nat → Int32) (c14 : Nat → Int32) (c15 : Nat → Int32) (c16 : Nat → Int32) (c17 : Nat → Int32) (c18 : Nat → Int32) (c19 : Nat → Int32) (c20 : Nat → Int32) (c21 : Nat → Int32) (c22 : Nat → Int64) (c23 : Nat → Int32) : Option (Int32 × Int32 × Int32 × Int32 × Int64 × Int32 × Int32 × Int32 × Int32 × Int32 × Int32 × Int32 × Int32 × Int32 × Int32 × (Nat → Int64) × (Nat → Int32) × (Nat → Int32) × (Nat → Int32) × (Nat → Int32) × (Nat → Int32) × (Nat → Int32) × (Nat → Int64) × (Nat → Int64) × (Nat → Int32) × (Nat → Int32) × (Nat → Int32) × (Nat → Int32) × (Nat → Int32) × (Nat → Int32) × (Nat → Int32) × (Nat → Int32) × (Nat → Int32) × (Nat → Int32) × (Nat → Int32) × (Nat → Int64) × (Nat → Int32)) :=
  ob (fX11_isThe 1886547811 v0_token v0_name) fun o38 =>
  ob (fX11_may o38.1 v0_from v0_token v0_wrong v0_wrongAt) fun o39 =>
  if o39.1 = 0 then
    some (0, (v0_from, v0_to, v0_token, v0_name, o39.2.1, o39.2.2, v0_globals, v0_procedures, v0_statements, v0_codes, v0_blocks, v0_open, v0_opSize, v0_deep, c2, c3, c4, c5, c6, c7, c8, c9, c10, c11, c12, c13, c14, c15, c16, c17, c18, c19, c20, c21, c22, c23))
  else
    ob (fX11_next v0_textSize v0_from v0_to v0_token v0_name c1) fun o41 =>
    if o41.2.2.1 = 1 then
      fX11_takeProcedure_p34 v0_textSize c1 1 o41.1 o41.2.1 o41.2.2.1 o41.2.2.2 o39.2.1 o39.2.2 v0_globals v0_procedures v0_statements v0_codes v0_blocks v0_open v0_opSize v0_deep c2 c3 c4 c5 c6 c7 c8 c9 c10 c11 c12 c13 c14 c15 c16 c17 c18 c19 c20 c21 c22 c23
    else
      fX11_takeProcedure_p34 v0_textSize c1 0 o41.1 o41.2.1 o41.2.2.1 o41.2.2.2 o39.2.1 o39.2.2 v0_globals v0_procedures v0_statements v0_codes v0_blocks v0_open v0_opSize v0_deep c2 c3 c4 c5 c6 c7 c8 c9 c10 c11 c12 c13 c14 c15 c16 c17 c18 c19 c20 c21 c22 c23
noncomputable def fX11_parse_p115 (v0_textSize : Int32) (c1 : Nat → Int32) (z0 : Int32) (v0_from : Int32) (v0_to : Int32) (v0_token : Int32) (v0_name : Int64) (v0_wrong : Int32) (v0_wrongAt : Int32) (v0_globals : Int32) (v0_procedures : Int32) (v0_statements : Int32) (v0_codes : Int32) (v0_blocks : Int32) (v0_open : Int32) (v0_opSize : Int32) (v0_deep : Int32) (c2 : (Nat → Int64)) (c3 : (Nat → Int32)) (c4 : (Nat → Int64)) (c5 : (Nat → Int64)) (c6 : (Nat → Int32)) (c7 : (Nat → Int32)) (c8 : (Nat → Int32)) (c9 : (Nat → Int32)) (c10 : (Nat → Int32)) (c11 : (Nat → Int32)) (c12 : (Nat → Int32)) (c13 : (Nat → Int32)) (c14 : (Nat → Int32)) (c15 : (Nat → Int32)) (c16 : (Nat → Int32)) (c17 : (Nat → Int32)) (c18 : (Nat → Int32)) (c19 : (Nat → Int32)) (c20 : (Nat → Int32)) (c21 : (Nat → Int32)) (c22 : (Nat → Int64)) (c23 : (Nat → Int32)) : Option (Int32 × Int32 × Int32 × Int32 × Int64 × Int32 × Int32 × Int32 × Int32 × Int32 × Int32 × Int32 × Int32 × Int32 × Int32 × (Nat → Int64) × (Nat → Int32) × (Nat → Int64) × (Nat → Int64) × (Nat → Int32) × (Nat → Int32) × (Nat → Int32) × (Nat → Int32) × (Nat → Int32) × (Nat → Int32) × (Nat → Int32) × (Nat → Int32) × (Nat → Int32) × (Nat → Int32) × (Nat → Int32) × (Nat → Int32) × (Nat → Int32) × (Nat → Int32) × (Nat → Int32) × (Nat → Int32) × (Nat → Int64) × (Nat → Int32)) :=
  bd (bz z0) <|
  some (z0, (v0_from, v0_to, v0_token, v0_name, v0_wrong, v0_wrongAt, v0_globals, v0_procedures, v0_statements, v0_codes, v0_blocks, v0_open, v0_opSize, v0_deep, c2, c3, c4, c5, c6, c7, c8, c9, c10, c11, c12, c13, c14, c15, c16, c17, c18, c19, c20, c21, c22, c23))
noncomputable def fX11_parse_p114 (v0_textSize : Int32) (c1 : Nat → Int32) (v0_from : Int32) (v0_to : Int32) (v0_token : Int32) (v0_name : Int64) (v0_wrong : Int32) (v0_wrongAt : Int32) (v0_globals : Int32) (v0_procedures : Int32) (v0_statements : Int32) (v0_codes : Int32) (v0_blocks : Int32) (v0_open : Int32) (v0_opSize : Int32) (v0_deep : Int32) (c2 : (Nat → Int64)) (c3 : (Nat → Int32)) (c4 : (Nat → Int64)) (c5 : (Nat → Int64)) (c6 : (Nat → Int32)) (c7 : (Nat → Int32)) (c8 : (Nat → Int32)) (c9 : (Nat → Int32)) (c10 : (Nat → Int32)) (c11 : (Nat → Int32)) (c12 : (Nat → Int32)) (c13 : (Nat → Int32)) (c14 : (Nat → Int32)) (c15 : (Nat → Int32)) (c16 : (Nat → Int32)) (c17 : (Nat → Int32)) (c18 : (Nat → Int32)) (c19 : (Nat → Int32)) (c20 : (Nat → Int32)) (c21 : (Nat → Int32)) (c22 : (Nat → Int64)) (c23 : (Nat → Int32)) : Option (Int32 × Int32 × Int32 × Int32 × Int64 × Int32 × Int32 × Int32 × Int32 × Int32 × Int32 × Int32 × Int32 × Int32 × Int32 × (Nat → Int64) × (Nat → Int32) × (Nat → Int64) × (Nat → Int64) × (Nat → Int32) × (Nat → Int32) × (Nat → Int32) × (Nat → Int32) × (Nat → Int32) × (Nat → Int32) × (Nat → Int32) × (Nat → Int32) × (Nat → Int32) × (Nat → Int32) × (Nat → Int32) × (Nat → Int32) × (Nat → Int32) × (Nat → Int32) × (Nat → Int32) × (Nat → Int32) × (Nat → Int64) × (Nat → Int32)) :=
  fX11_parse_p115 v0_textSize c1 0 v0_from v0_to v0_token v0_name v0_wrong v0_wrongAt v0_globals v0_procedures v0_statements v0_codes v0_blocks v0_open v0_opSize v0_deep c2 c3 c4 c5 c6 c7 c8 c9 c10 c11 c12 c13 c14 c15 c16 c17 c18 c19 c20 c21 c22 c23
noncomputable def fX11_parse_p95 (v0_textSize : Int32) (c1 : Nat → Int32) (k62 : Int32 → Int32 → Int32 → Int32 → Int32 → Int64 → Int32 → Int32 → Int32 → Int32 → Int32 → Int32 → Int32 → Int32 → Int32 → Int32 → (Nat → Int64) → (Nat → Int32) → (Nat → Int64) → (Nat → Int64) → (Nat → Int32) → (Nat → Int32) → (Nat → Int32) → (Nat → Int32) → (Nat → Int32) → (Nat → Int32) → (Nat → Int32) → (Nat → Int32) → (Nat → Int32) → (Nat → Int32) → (Nat → Int32) → (Nat → Int32) → (Nat → Int32) → (Nat → Int32) → (Nat → Int32) → (Nat → Int32) → (Nat → Int64) → (Nat → Int32) → Option (Int32 × Int32 × Int32 × Int32 × Int64 × Int32 × Int32 × Int32 × Int32 × Int32 × Int32 × Int32 × Int32 × Int32 × Int32 × (Nat → Int64) × (Nat → Int32) × (Nat → Int64) × (Nat → Int64) × (Nat → Int32) × (Nat → Int32) × (Nat → Int32) × (Nat → Int32) × (Nat → Int32) × (Nat → Int32) × (Nat → Int32) × (Nat → Int32) × (Nat → Int32) × (Nat → Int32) × (Nat → Int32) × (Nat → Int32) × (Nat → Int32) × (Nat → Int32) × (Nat → Int32) × (Nat → Int32) × (Nat → Int64) × (Nat → Int32))) (y1 : Int32) (z0 : Int32) (v0_from : Int32) (v0_to : Int32) (v0_token : Int32) (v0_name : Int64) (v0_wrong : Int32) (v0_wrongAt : Int32) (v0_globals : Int32) (v0_procedures : Int32) (v0_statements : Int32) (v0_codes : Int32) (v0_blocks : Int32) (v0_open : Int32) (v0_opSize : Int32) (v0_deep : Int32) (c2 : (Nat → Int64)) (c3 : (Nat → Int32)) (c4 : (Nat → Int64)) (c5 : (Nat → Int64)) (c6 : (Nat → Int32)) (c7 : (Nat → Int32)) (c8 : (Nat → Int32)) (c9 : (Nat → Int32)) (c10 : (Nat → Int32)) (c11 : (Nat → Int32)) (c12 : (Nat → Int32)) (c13 : (Nat → Int32)) (c14 : (Nat → Int32)) (c15 : (Nat → Int32)) (c16 : (Nat → Int32)) (c17 : (Nat → Int32)) (c18 : (Nat → Int32)) (c19 : (Nat → Int32)) (c20 : (Nat → Int32)) (c21 : (Nat → Int32)) (c22 : (Nat → Int64)) (c23 : (Nat → Int32)) : Option (Int32 × Int32 × Int32 × Int32 × Int64 × Int32 × Int32 × Int32 × Int32 × Int32 × Int32 × Int32 × Int32 × Int32 × Int32 × (Nat → Int64) × (Nat → Int32) × (Nat → Int64) × (Nat → Int64) × (Nat → Int32) × (Nat → Int32) × (Nat → Int32) × (Nat → Int32) × (Nat → Int32) × (Nat → Int32) × (Nat → Int32) × (Nat → Int32) × (Nat → Int32) × (Nat → Int32) × (Nat → Int32) × (Nat → Int32) × (Nat → Int32) × (Nat → Int32) × (Nat → Int32) × (Nat → Int32) × (Nat → Int64) × (Nat → Int32)) :=
  k62 y1 z0 v0_from v0_to v0_token v0_name v0_wrong v0_wrongAt v0_globals v0_procedures v0_statements v0_codes v0_blocks v0_open v0_opSize v0_deep c2 c3 c4 c5 c6 c7 c8 c9 c10 c11 c12 c13 c14 c15 c16 c17 c18 c19 c20 c21 c22 c23
noncomputable def fX11_parse_p94 (v0_textSize : Int32) (c1 : Nat → Int32) (k62 : Int32 → Int32 → Int32 → Int32 → Int32 → Int64 → Int32 → Int32 → Int32 → Int32 → Int32 → Int32 → Int32 → Int32 → Int32 → Int32 → (Nat → Int64) → (Nat → Int32) → (Nat → Int64) → (Nat → Int64) → (Nat → Int32) → (Nat → Int32) → (Nat → Int32) → (Nat → Int32) → (Nat → Int32) → (Nat → Int32) → (Nat → Int32) → (Nat → Int32) → (Nat → Int32) → (Nat → Int32) → (Nat → Int32) → (Nat → Int32) → (Nat → Int32) → (Nat → Int32) → (Nat → Int32) → (Nat → Int32) → (Nat → Int64) → (Nat → Int32) → Option (Int32 × Int32 × Int32 × Int32 × Int64 × Int32 × Int32 × Int32 × Int32 × Int32 × Int32 × Int32 × Int32 × Int32 × Int32 × (Nat → Int64) × (Nat → Int32) × (Nat → Int64) × (Nat → Int64) × (Nat → Int32) × (Nat → Int32) × (Nat → Int32) × (Nat → Int32) × (Nat → Int32) × (Nat → Int32) × (Nat → Int32) × (Nat → Int32) × (Nat → Int32) × (Nat → Int32) × (Nat → Int32) × (Nat → Int32) × (Nat → Int32) × (Nat → Int32) × (Nat → Int32) × (Nat → Int32) × (Nat → Int64) × (Nat → Int32))) (y1 : Int32) (v0_from : Int32) (v0_to : Int32) (v0_token : Int32) (v0_name : Int64) (v0_wrong : Int32) (v0_wrongAt : Int32) (v0_globals : Int32) (v0_procedures : Int32) (v0_statements : Int32) (v0_codes : Int32) (v0_blocks : Int32) (v0_open : Int32) (v0_opSize : Int32) (v0_deep : Int32) (c2 : (Nat → Int64)) (c3 : (Nat → Int32)) (c4 : (Nat → Int64)) (c5 : (Nat → Int64)) (c6 : (Nat → Int32)) (c7 : (Nat → Int32)) (c8 : (Nat → Int32)) (c9 : (Nat → Int32)) (c10 : (Nat → Int32)) (c11 : (Nat → Int32)) (c12 : (Nat → Int32)) (c13 : (Nat → Int32)) (c14 : (Nat → Int32)) (c15 : (Nat → Int32)) (c16 : (Nat → Int32)) (c17 : (Nat → Int32)) (c18 : (Nat → Int32)) (c19 : (Nat → Int32)) (c20 : (Nat → Int32)) (c21 : (Nat → Int32)) (c22 : (Nat → Int64)) (c23 : (Nat → Int32)) : Option (Int32 × Int32 × Int32 × Int32 × Int64 × Int32 × Int32 × Int32 × Int32 × Int32 × Int32 × Int32 × Int32 × Int32 × Int32 × (Nat → Int64) × (Nat → Int32) × (Nat → Int64) × (Nat → Int64) × (Nat → Int32) × (Nat → Int32) × (Nat → Int32) × (Nat → Int32) × (Nat → Int32) × (Nat → Int32) × (Nat → Int32) × (Nat → Int32) × (Nat → Int32) × (Nat → Int32) × (Nat → Int32) × (Nat → Int32) × (Nat → Int32) × (Nat → Int32) × (Nat → Int32) × (Nat → Int32) × (Nat → Int64) × (Nat → Int32)) :=
  fX11_parse_p95 v0_textSize c1 k62 y1 0 v0_from v0_to v0_token v0_name v0_wrong v0_wrongAt v0_globals v0_procedures v0_statements v0_codes v0_blocks v0_open v0_opSize v0_deep c2 c3 c4 c5 c6 c7 c8 c9 c10 c11 c12 c13 c14 c15 c16 c17 c18 c19 c20 c21 c22 c23
noncomputable def fX11_parse_b62 (v0_textSize : Int32) (c1 : Nat → Int32) (k62 : Int32 → Int32 → Int32 → Int32 → Int32 → Int64 → Int32 → Int32 → Int32 → Int32 → Int32 → Int32 → Int32 → Int32 → Int32 → Int32 → (Nat → Int64) → (Nat → Int32) → (Nat → Int64) → (Nat → Int64) → (Nat → Int32) → (Nat → Int32) → (Nat → Int32) → (Nat → Int32) → (Nat → Int32) → (Nat → Int32) → (Nat → Int32) → (Nat → Int32) → (Nat → Int32) → (Nat → Int32) → (Nat → Int32) → (Nat → Int32) → (Nat → Int32) → (Nat → Int32) → (Nat → Int32) → (Nat → Int32) → (Nat → Int64) → (Nat → Int32) → Option (Int32 × Int32 × Int32 × Int32 × Int64 × Int32 × Int32 × Int32 × Int32 × Int32 × Int32 × Int32 × Int32 × Int32 × Int32 × (Nat → Int64) × (Nat → Int32) × (Nat → Int64) × (Nat → Int64) × (Nat → Int32) × (Nat → Int32) × (Nat → Int32) × (Nat → Int32) × (Nat → Int32) × (Nat → Int32) × (Nat → Int32) × (Nat → Int32) × (Nat → Int32) × (Nat → Int32) × (Nat → Int32) × (Nat → Int32) × (Nat → Int32) × (Nat → Int32) × (Nat → Int32) × (Nat → Int32) × (Nat → Int64) × (Nat → Int32))) (y1 : Int32) (y2 : Int32) (v0_from : Int32) (v0_to : Int32) (v0_token : Int32) (v0_name : Int64) (v0_wrong : Int32) (v0_wrongAt : Int32) (v0_globals : Int32) (v0_procedures : Int32) (v0_statements : Int32) (v0_codes : Int32) (v0_blocks : Int32) (v0_open : Int32) (v0_opSize : Int32) (v0_deep : Int32) (c2 : (Nat → Int64)) (c3 : (Nat → Int32)) (c4 : (Nat → Int64)) (c5 : (Nat → Int64)) (c6 : (Nat → Int32)) (c7 : (Nat → Int32)) (c8 : (Nat → Int32)) (c9 : (Nat → Int32)) (c10 : (Nat → Int32)) (c11 : (Nat → Int32)) (c12 : (Nat → Int32)) (c13 : (Nat → Int32)) (c14 : (Nat → Int32)) (c15 : (Nat → Int32)) (c16 : (Nat → Int32)) (c17 : (Nat → Int32)) (c18 : (Nat → Int32)) (c19 : (Nat → Int32)) (c20 : (Nat → Int32)) (c21 : (Nat → Int32)) (c22 : (Nat → Int64)) (c23 : (Nat → Int32)) : Option (Int32 × Int32 × Int32 × Int32 × Int64 × Int32 × Int32 × Int32 × Int32 × Int32 × Int32 × Int32 × Int32 × Int32 × Int32 × (Nat → Int64) × (Nat → Int32) × (Nat → Int64) × (Nat → Int64) × (Nat → Int32) × (Nat → Int32) × (Nat → Int32) × (Nat → Int32) × (Nat → Int32) × (Nat → Int32) × (Nat → Int32) × (Nat → Int32) × (Nat → Int32) × (Nat → Int32) × (Nat → Int32) × (Nat → Int32) × (Nat → Int32) × (Nat → Int32) × (Nat → Int32) × (Nat → Int32) × (Nat → Int64) × (Nat → Int32)) :=
  if y2 = 0 then
    if y1 = 0 then
      fX11_parse_p114 v0_textSize c1 v0_from v0_to v0_token v0_name v0_wrong v0_wrongAt v0_globals v0_procedures v0_statements v0_codes v0_blocks v0_open v0_opSize v0_deep c2 c3 c4 c5 c6 c7 c8 c9 c10 c11 c12 c13 c14 c15 c16 c17 c18 c19 c20 c21 c22 c23
    else
      if v0_wrong = 0 then
        fX11_parse_p115 v0_textSize c1 1 v0_from v0_to v0_token v0_name v0_wrong v0_wrongAt v0_globals v0_procedures v0_statements v0_codes v0_blocks v0_open v0_opSize v0_deep c2 c3 c4 c5 c6 c7 c8 c9 c10 c11 c12 c13 c14 c15 c16 c17 c18 c19 c20 c21 c22 c23
      else
        fX11_parse_p114 v0_textSize c1 v0_from v0_to v0_token v0_name v0_wrong v0_wrongAt v0_globals v0_procedures v0_statements v0_codes v0_blocks v0_open v0_opSize v0_deep c2 c3 c4 c5 c6 c7 c8 c9 c10 c11 c12 c13 c14 c15 c16 c17 c18 c19 c20 c21 c22 c23
  else
    ob (fX11_takeProcedure v0_textSize v0_from v0_to v0_token v0_name v0_wrong v0_wrongAt v0_globals v0_procedures v0_statements v0_codes v0_blocks v0_open v0_opSize v0_deep c1 c5 c3 c6 c7 c8 c9 c10 c2 c4 c11 c12 c13 c14 c15 c16 c17 c18 c19 c20 c21 c22 c23) fun o5 =>
    if o5.1 = 0 then
      fX11_parse_p94 v0_textSize c1 k62 o5.1 o5.2.1 o5.2.2.1 o5.2.2.2.1 o5.2.2.2.2.1 o5.2.2.2.2.2.1 o5.2.2.2.2.2.2.1 o5.2.2.2.2.2.2.2.1 o5.2.2.2.2.2.2.2.2.1 o5.2.2.2.2.2.2.2.2.2.1 o5.2.2.2.2.2.2.2.2.2.2.1 o5.2.2.2.2.2.2.2.2.2.2.2.1 o5.2.2.2.2.2.2.2.2.2.2.2.2.1 o5.2.2.2.2.2.2.2.2.2.2.2.2.2.1 o5.2.2.2.2.2.2.2.2.2.2.2.2.2.2.1 o5.2.2.2.2.2.2.2.2.2.2.2.2.2.2.2.2.2.2.2.2.2.2.1 o5.2.2.2.2.2.2.2.2.2.2.2.2.2.2.2.2.1 o5.2.2.2.2.2.2.2.2.2.2.2.2.2.2.2.2.2.2.2.2.2.2.2.1 o5.2.2.2.2.2.2.2.2.2.2.2.2.2.2.2.1 o5.2.2.2.2.2.2.2.2.2.2.2.2.2.2.2.2.2.1 o5.2.2.2.2.2.2.2.2.2.2.2.2.2.2.2.2.2.2.1 o5.2.2.2.2.2.2.2.2.2.2.2.2.2.2.2.2.2.2.2.1 o5.2.2.2.2.2.2.2.2.2.2.2.2.2.2.2.2.2.2.2.2.1 o5.2.2.2.2.2.2.2.2.2.2.2.2.2.2.2.2.2.2.2.2.2.1 o5.2.2.2.2.2.2.2.2.2.2.2.2.2.2.2.2.2.2.2.2.2.2.2.2.1 o5.2.2.2.2.2.2.2.2.2.2.2.2.2.2.2.2.2.2.2.2.2.2.2.2.2.1 o5.2.2.2.2.2.2.2.2.2.2.2.2.2.2.2.2.2.2.2.2.2.2.2.2.2.2.1 o5.2.2.2.2.2.2.2.2.2.2.2.2.2.2.2.2.2.2.2.2.2.2.2.2.2.2.2.1 o5.2.2.2.2.2.2.2.2.2.2.2.2.2.2.2.2.2.2.2.2.2.2.2.2.2.2.2.2.1 o5.2.2.2.2.2.2.2.2.2.2.2.2.2.2.2.2.2.2.2.2.2.2.2.2.2.2.2.2.2.1 o5.2.2.2.2.2.2.2.2.2.2.2.2.2.2.2.2.2.2.2.2.2.2.2.2.2.2.2.2.2.2.1 o5.2.2.2.2.2.2.2.2.2.2.2.2.2.2.2.2.2.2.2.2.2.2.2.2.2.2.2.2.2.2.2.1 o5.2.2.2.2.2.2.2.2.2.2.2.2.2.2.2.2.2.2.2.2.2.2.2.2.2.2.2.2.2.2.2.2.1 o5.2.2.2.2.2.2.2.2.2.2.2.2.2.2.2.2.2.2.2.2.2.2.2.2.2.2.2.2.2.2.2.2.2.1 o5.2.2.2.2.2.2.2.2.2.2.2.2.2.2.2.2.2.2.2.2.2.2.2.2.2.2.2.2.2.2.2.2.2.2.1 o5.2.2.2.2.2.2.2.2.2.2.2.2.2.2.2.2.2.2.2.2.2.2.2.2.2.2.2.2.2.2.2.2.2.2.2.1 o5.2.2.2.2.2.2.2.2.2.2.2.2.2.2.2.2.2.2.2.2.2.2.2.2.2.2.2.2.2.2.2.2.2.2.2.2
    else
      ob (fX11_may 1 o5.2.1 o5.2.2.2.1 o5.2.2.2.2.2.1 o5.2.2.2.2.2.2.1) fun o7 =>
      if o7.1 = 0 then
        fX11_parse_p94 v0_textSize c1 k62 o5.1 o5.2.1 o5.2.2.1 o5.2.2.2.1 o5.2.2.2.2.1 o7.2.1 o7.2.2 o5.2.2.2.2.2.2.2.1 o5.2.2.2.2.2.2.2.2.1 o5.2.2.2.2.2.2.2.2.2.1 o5.2.2.2.2.2.2.2.2.2.2.1 o5.2.2.2.2.2.2.2.2.2.2.2.1 o5.2.2.2.2.2.2.2.2.2.2.2.2.1 o5.2.2.2.2.2.2.2.2.2.2.2.2.2.1 o5.2.2.2.2.2.2.2.2.2.2.2.2.2.2.1 o5.2.2.2.2.2.2.2.2.2.2.2.2.2.2.2.2.2.2.2.2.2.2.1 o5.2.2.2.2.2.2.2.2.2.2.2.2.2.2.2.2.1 o5.2.2.2.2.2.2.2.2.2.2.2.2.2.2.2.2.2.2.2.2.2.2.2.1 o5.2.2.2.2.2.2.2.2.2.2.2.2.2.2.2.1 o5.2.2.2.2.2.2.2.2.2.2.2.2.2.2.2.2.2.1 o5.2.2.2.2.2.2.2.2.2.2.2.2.2.2.2.2.2.2.1 o5.2.2.2.2.2.2.2.2.2.2.2.2.2.2.2.2.2.2.2.1 o5.2.2.2.2.2.2.2.2.2.2.2.2.2.2.2.2.2.2.2.2.1 o5.2.2.2.2.2.2.2.2.2.2.2.2.2.2.2.2.2.2.2.2.2.1 o5.2.2.2.2.2.2.2.2.2.2.2.2.2.2.2.2.2.2.2.2.2.2.2.2.1 o5.2.2.2.2.2.2.2.2.2.2.2.2.2.2.2.2.2.2.2.2.2.2.2.2.2.1 o5.2.2.2.2.2.2.2.2.2.2.2.2.2.2.2.2.2.2.2.2.2.2.2.2.2.2.1 o5.2.2.2.2.2.2.2.2.2.2.2.2.2.2.2.2.2.2.2.2.2.2.2.2.2.2.2.1 o5.2.2.2.2.2.2.2.2.2.2.2.2.2.2.2.2.2.2.2.2.2.2.2.2.2.2.2.2.1 o5.2.2.2.2.2.2.2.2.2.2.2.2.2.2.2.2.2.2.2.2.2.2.2.2.2.2.2.2.2.1 o5.2.2.2.2.2.2.2.2.2.2.2.2.2.2.2.2.2.2.2.2.2.2.2.2.2.2.2.2.2.2.1 o5.2.2.2.2.2.2.2.2.2.2.2.2.2.2.2.2.2.2.2.2.2.2.2.2.2.2.2.2.2.2.2.1 o5.2.2.2.2.2.2.2.2.2.2.2.2.2.2.2.2.2.2.2.2.2.2.2.2.2.2.2.2.2.2.2.2.1 o5.2.2.2.2.2.2.2.2.2.2.2.2.2.2.2.2.2.2.2.2.2.2.2.2.2.2.2.2.2.2.2.2.2.1 o5.2.2.2.2.2.2.2.2.2.2.2.2.2.2.2.2.2.2.2.2.2.2.2.2.2.2.2.2.2.2.2.2.2.2.1 o5.2.2.2.2.2.2.2.2.2.2.2.2.2.2.2.2.2.2.2.2.2.2.2.2.2.2.2.2.2.2.2.2.2.2.2.1 o5.2.2.2.2.2.2.2.2.2.2.2.2.2.2.2.2.2.2.2.2.2.2.2.2.2.2.2.2.2.2.2.2.2.2.2.2
      else
        if o5.2.2.2.1 = 0 then
          fX11_parse_p94 v0_textSize c1 k62 o5.1 o5.2.1 o5.2.2.1 o5.2.2.2.1 o5.2.2.2.2.1 o7.2.1 o7.2.2 o5.2.2.2.2.2.2.2.1 o5.2.2.2.2.2.2.2.2.1 o5.2.2.2.2.2.2.2.2.2.1 o5.2.2.2.2.2.2.2.2.2.2.1 o5.2.2.2.2.2.2.2.2.2.2.2.1 o5.2.2.2.2.2.2.2.2.2.2.2.2.1 o5.2.2.2.2.2.2.2.2.2.2.2.2.2.1 o5.2.2.2.2.2.2.2.2.2.2.2.2.2.2.1 o5.2.2.2.2.2.2.2.2.2.2.2.2.2.2.2.2.2.2.2.2.2.2.1 o5.2.2.2.2.2.2.2.2.2.2.2.2.2.2.2.2.1 o5.2.2.2.2.2.2.2.2.2.2.2.2.2.2.2.2.2.2.2.2.2.2.2.1 o5.2.2.2.2.2.2.2.2.2.2.2.2.2.2.2.1 o5.2.2.2.2.2.2.2.2.2.2.2.2.2.2.2.2.2.1 o5.2.2.2.2.2.2.2.2.2.2.2.2.2.2.2.2.2.2.1 o5.2.2.2.2.2.2.2.2.2.2.2.2.2.2.2.2.2.2.2.1 o5.2.2.2.2.2.2.2.2.2.2.2.2.2.2.2.2.2.2.2.2.1 o5.2.2.2.2.2.2.2.2.2.2.2.2.2.2.2.2.2.2.2.2.2.1 o5.2.2.2.2.2.2.2.2.2.2.2.2.2.2.2.2.2.2.2.2.2.2.2.2.1 o5.2.2.2.2.2.2.2.2.2.2.2.2.2.2.2.2.2.2.2.2.2.2.2.2.2.1 o5.2.2.2.2.2.2.2.2.2.2.2.2.2.2.2.2.2.2.2.2.2.2.2.2.2.2.1 o5.2.2.2.2.2.2.2.2.2.2.2.2.2.2.2.2.2.2.2.2.2.2.2.2.2.2.2.1 o5.2.2.2.2.2.2.2.2.2.2.2.2.2.2.2.2.2.2.2.2.2.2.2.2.2.2.2.2.1 o5.2.2.2.2.2.2.2.2.2.2.2.2.2.2.2.2.2.2.2.2.2.2.2.2.2.2.2.2.2.1 o5.2.2.2.2.2.2.2.2.2.2.2.2.2.2.2.2.2.2.2.2.2.2.2.2.2.2.2.2.2.2.1 o5.2.2.2.2.2.2.2.2.2.2.2.2.2.2.2.2.2.2.2.2.2.2.2.2.2.2.2.2.2.2.2.1 o5.2.2.2.2.2.2.2.2.2.2.2.2.2.2.2.2.2.2.2.2.2.2.2.2.2.2.2.2.2.2.2.2.1 o5.2.2.2.2.2.2.2.2.2.2.2.2.2.2.2.2.2.2.2.2.2.2.2.2.2.2.2.2.2.2.2.2.2.1 o5.2.2.2.2.2.2.2.2.2.2.2.2.2.2.2.2.2.2.2.2.2.2.2.2.2.2.2.2.2.2.2.2.2.2.1 o5.2.2.2.2.2.2.2.2.2.2.2.2.2.2.2.2.2.2.2.2.2.2.2.2.2.2.2.2.2.2.2.2.2.2.2.1 o5.2.2.2.2.2.2.2.2.2.2.2.2.2.2.2.2.2.2.2.2.2.2.2.2.2.2.2.2.2.2.2.2.2.2.2.2
        else
          fX11_parse_p95 v0_textSize c1 k62 o5.1 1 o5.2.1 o5.2.2.1 o5.2.2.2.1 o5.2.2.2.2.1 o7.2.1 o7.2.2 o5.2.2.2.2.2.2.2.1 o5.2.2.2.2.2.2.2.2.1 o5.2.2.2.2.2.2.2.2.2.1 o5.2.2.2.2.2.2.2.2.2.2.1 o5.2.2.2.2.2.2.2.2.2.2.2.1 o5.2.2.2.2.2.2.2.2.2.2.2.2.1 o5.2.2.2.2.2.2.2.2.2.2.2.2.2.1 o5.2.2.2.2.2.2.2.2.2.2.2.2.2.2.1 o5.2.2.2.2.2.2.2.2.2.2.2.2.2.2.2.2.2.2.2.2.2.2.1 o5.2.2.2.2.2.2.2.2.2.2.2.2.2.2.2.2.1 o5.2.2.2.2.2.2.2.2.2.2.2.2.2.2.2.2.2.2.2.2.2.2.2.1 o5.2.2.2.2.2.2.2.2.2.2.2.2.2.2.2.1 o5.2.2.2.2.2.2.2.2.2.2.2.2.2.2.2.2.2.1 o5.2.2.2.2.2.2.2.2.2.2.2.2.2.2.2.2.2.2.1 o5.2.2.2.2.2.2.2.2.2.2.2.2.2.2.2.2.2.2.2.1 o5.2.2.2.2.2.2.2.2.2.2.2.2.2.2.2.2.2.2.2.2.1 o5.2.2.2.2.2.2.2.2.2.2.2.2.2.2.2.2.2.2.2.2.2.1 o5.2.2.2.2.2.2.2.2.2.2.2.2.2.2.2.2.2.2.2.2.2.2.2.2.1 o5.2.2.2.2.2.2.2.2.2.2.2.2.2.2.2.2.2.2.2.2.2.2.2.2.2.1 o5.2.2.2.2.2.2.2.2.2.2.2.2.2.2.2.2.2.2.2.2.2.2.2.2.2.2.1 o5.2.2.2.2.2.2.2.2.2.2.2.2.2.2.2.2.2.2.2.2.2.2.2.2.2.2.2.1 o5.2.2.2.2.2.2.2.2.2.2.2.2.2.2.2.2.2.2.2.2.2.2.2.2.2.2.2.2.1 o5.2.2.2.2.2.2.2.2.2.2.2.2.2.2.2.2.2.2.2.2.2.2.2.2.2.2.2.2.2.1 o5.2.2.2.2.2.2.2.2.2.2.2.2.2.2.2.2.2.2.2.2.2.2.2.2.2.2.2.2.2.2.1 o5.2.2.2.2.2.2.2.2.2.2.2.2.2.2.2.2.2.2.2.2.2.2.2.2.2.2.2.2.2.2.2.1 o5.2.2.2.2.2.2.2.2.2.2.2.2.2.2.2.2.2.2.2.2.2.2.2.2.2.2.2.2.2.2.2.2.1 o5.2.2.2.2.2.2.2.2.2.2.2.2.2.2.2.2.2.2.2.2.2.2.2.2.2.2.2.2.2.2.2.2.2.1 o5.2.2.2.2.2.2.2.2.2.2.2.2.2.2.2.2.2.2.2.2.2.2.2.2.2.2.2.2.2.2.2.2.2.2.1 o5.2.2.2.2.2.2.2.2.2.2.2.2.2.2.2.2.2.2.2.2.2.2.2.2.2.2.2.2.2.2.2.2.2.2.2.1 o5.2.2.2.2.2.2.2.2.2.2.2.2.2.2.2.2.2.2.2.2.2.2.2.2.2.2.2.2.2.2.2.2.2.2.2.2
noncomputable def fX11_parse_l62 (v0_textSize : Int32) (c1 : Nat → Int32) : Nat → Int32 → Int32 → Int32 → Int32 → Int32 → Int64 → Int32 → Int32 → Int32 → Int32 → Int32 → Int32 → Int32 → Int32 → Int32 → Int32 → (Nat → Int64) → (Nat → Int32) → (Nat → Int64) → (Nat → Int64) → (Nat → Int32) → (Nat → Int32) → (Nat → Int32) → (Nat → Int32) → (Nat → Int32) → (Nat → Int32) → (Nat → Int32) → (Nat → Int32) → (Nat → Int32) → (Nat → Int32) → (Nat → Int32) → (Nat → Int32) → (Nat → Int32) → (Nat → Int32) → (Nat → Int32) → (Nat → Int32) → (Nat → Int64) → (Nat → Int32) → Option (Int32 × Int32 × Int32 × Int32 × Int64 × Int32 × Int32 × Int32 × Int32 × Int32 × Int32 × Int32 × Int32 × Int32 × Int32 × (Nat → Int64) × (Nat → Int32) × (Nat → Int64) × (Nat → Int64) × (Nat → Int32) × (Nat → Int32) × (Nat → Int32) × (Nat → Int32) × (Nat → Int32) × (Nat → Int32) × (Nat → Int32) × (Nat → Int32) × (Nat → Int32) × (Nat → Int32) × (Nat → Int32) × (Nat → Int32) × (Nat → Int32) × (Nat → Int32) × (Nat → Int32) × (Nat → Int32) × (Nat → Int64) × (Nat → Int32))
  | 0 => fun _ _ _ _ _ _ _ _ _ _ _ _ _ _ _ _ _ _ _ _ _ _ _ _ _ _ _ _ _ _ _ _ _ _ _ _ _ _ => none
  | n + 1 => fX11_parse_b62 v0_textSize c1  (fX11_parse_l62 v0_textSize c1  n)
noncomputable def fX11_parse_p60 (v0_textSize : Int32) (c1 : Nat → Int32) (y1 : Int32) (v0_from : Int32) (v0_to : Int32) (v0_token : Int32) (v0_name : Int64) (v0_wrong : Int32) (v0_wrongAt : Int32) (v0_globals : Int32) (v0_procedures : Int32) (v0_statements : Int32) (v0_codes : Int32) (v0_blocks : Int32) (v0_open : Int32) (v0_opSize : Int32) (v0_deep : Int32) (c2 : (Nat → Int64)) (c3 : (Nat → Int32)) (c4 : (Nat → Int64)) (c5 : (Nat → Int64)) (c6 : (Nat → Int32)) (c7 : (Nat → Int32)) (c8 : (Nat → Int32)) (c9 : (Nat → Int32)) (c10 : (Nat → Int32)) (c11 : (Nat → Int32)) (c12 : (Nat → Int32)) (c13 : (Nat → Int32)) (c14 : (Nat → Int32)) (c15 : (Nat → Int32)) (c16 : (Nat → Int32)) (c17 : (Nat → Int32)) (c18 : (Nat → Int32)) (c19 : (Nat → Int32)) (c20 : (Nat → Int32)) (c21 : (Nat → Int32)) (c22 : (Nat → Int64)) (c23 : (Nat → Int32)) : Option (Int32 × Int32 × Int32 × Int32 × Int64 × Int32 × Int32 × Int32 × Int32 × Int32 × Int32 × Int32 × Int32 × Int32 × Int32 × (Nat → Int64) × (Nat → Int32) × (Nat → Int64) × (Nat → Int64) × (Nat → Int32) × (Nat → Int32) × (Nat → Int32) × (Nat → Int32) × (Nat → Int32) × (Nat → Int32) × (Nat → Int32) × (Nat → Int32) × (Nat → Int32) × (Nat → Int32) × (Nat → Int32) × (Nat → Int32) × (Nat → Int32) × (Nat → Int32) × (Nat → Int32) × (Nat → Int32) × (Nat → Int64) × (Nat → Int32)) :=
  fX11_parse_l62 v0_textSize c1 FU y1 y1 v0_from v0_to v0_token v0_name v0_wrong v0_wrongAt v0_globals v0_procedures v0_statements v0_codes v0_blocks v0_open v0_opSize v0_deep c2 c3 c4 c5 c6 c7 c8 c9 c10 c11 c12 c13 c14 c15 c16 c17 c18 c19 c20 c21 c22 c23
noncomputable def fX11_parse (v0_textSize : Int32) (v0_from : Int32) (v0_to : Int32) (v0_token : Int32) (v0_name : Int64) (v0_wrong : Int32) (v0_wrongAt : Int32) (v0_globals : Int32) (v0_procedures : Int32) (v0_statements : Int32) (v0_codes : Int32) (v0_blocks : Int32) (v0_open : Int32) (v0_opSize : Int32) (v0_deep : Int32) (c1 : Nat → Int32) (c2 : Nat → Int64) (c3 : Nat → Int32) (c4 : Nat → Int64) (c5 : Nat → Int64) (c6 : Nat → Int32) (c7 : Nat → Int32) (c8 : Nat → Int32) (c9 : Nat → Int32) (c10 : Nat → Int32) (c11 : Nat → Int32) (c12 : Nat → Int32) (c13 : Nat → Int32) (c14 : Nat → Int32) (c15 : Nat → Int32) (c16 : Nat → Int32) (c17 : Nat → Int32) (c18 : Nat → Int32) (c19 : Nat → Int32) (c20 : Nat → Int32) (c21 : Nat → Int32) (c22 : Nat → Int64) (c23 : Nat → Int32) : Option (Int32 × Int32 × Int32 × Int32 × Int64 × Int32 × Int32 × Int32 × Int32 × Int32 × Int32 × Int32 × Int32 × Int32 × Int32 × (Nat → Int64) × (Nat → Int32) × (Nat → Int64) × (Nat → Int64) × (Nat → Int32) × (Nat → Int32) × (Nat → Int32) × (Nat → Int32) × (Nat → Int32) × (Nat → Int32) × (Nat → Int32) × (Nat → Int32) × (Nat → Int32) × (Nat → Int32) × (Nat → Int32) × (Nat → Int32) × (Nat → Int32) × (Nat → Int32) × (Nat → Int32) × (Nat → Int32) × (Nat → Int64) × (Nat → Int32)) :=
  ob (fX11_may 1 v0_from v0_token v0_wrong v0_wrongAt) fun o10 =>
  if o10.1 = 0 then
    fX11_parse_p60 v0_textSize c1 o10.1 v0_from v0_to v0_token v0_name o10.2.1 o10.2.2 0 0 0 0 0 0 v0_opSize v0_deep c2 c3 c4 c5 c6 c7 c8 c9 c10 c11 c12 c13 c14 c15 c16 c17 c18 c19 c20 c21 c22 c23
  else
    ob (fX11_isThe 7758194 v0_token v0_name) fun o12 =>
    if o12.1 = 0 then
      fX11_parse_p60 v0_textSize c1 o10.1 v0_from v0_to v0_token v0_name o10.2.1 o10.2.2 0 0 0 0 0 0 v0_opSize v0_deep c2 c3 c4 c5 c6 c7 c8 c9 c10 c11 c12 c13 c14 c15 c16 c17 c18 c19 c20 c21 c22 c23
    else
      ob (fX11_next v0_textSize v0_from v0_to v0_token v0_name c1) fun o14 =>
      ob (fX11_takeVars (-1) v0_textSize o14.1 o14.2.1 o14.2.2.1 o14.2.2.2 o10.2.1 o10.2.2 0 c2 c3 c4 c1) fun o15 =>
      fX11_parse_p60 v0_textSize c1 o15.1 o15.2.1 o15.2.2.1 o15.2.2.2.1 o15.2.2.2.2.1 o15.2.2.2.2.2.1 o15.2.2.2.2.2.2.1 o15.2.2.2.2.2.2.2.1 0 0 0 0 0 v0_opSize v0_deep o15.2.2.2.2.2.2.2.2.1 o15.2.2.2.2.2.2.2.2.2.1 o15.2.2.2.2.2.2.2.2.2.2 c5 c6 c7 c8 c9 c10 c11 c12 c13 c14 c15 c16 c17 c18 c19 c20 c21 c22 c23
noncomputable def fX11_place (v0_thrown : Int32) (v0_wrongAt : Int32) : Option (Int32 × Int32) :=
  some (v0_wrongAt, 0)
noncomputable def fX11_push (a0 : Int32) (v0_thrown : Int32) (v0_size : Int32) (v0_wayState : Int32) (c1 : Nat → Int32) : Option (Int32 × Int32 × Int32 × Int32 × (Nat → Int32)) :=
  ob (fX11_in a0 0 11) fun o1 =>
  if o1.1 = 0 then
    some ((-2), (0, v0_size, v0_wayState, c1))
  else
    if v0_size = 30 then
      some ((-3), (0, v0_size, v0_wayState, c1))
    else
      bd (inb v0_size 30) <|
      nm (upd c1 v0_size.toNatClampNeg a0) fun c4x =>
      nm (v0_size + 1) fun x5 =>
      some (x5, (0, x5, (-1), c4x))
noncomputable def fX11_read_p73 (c1 : Nat → Int32) (z0 : Int32) (v0_thrown : Int32) (v0_textSize : Int32) (v0_from : Int32) (v0_to : Int32) (v0_token : Int32) (v0_name : Int64) (v0_wrong : Int32) (v0_wrongAt : Int32) (v0_has : Int32) (v0_globals : Int32) (v0_procedures : Int32) (v0_statements : Int32) (v0_codes : Int32) (v0_blocks : Int32) (v0_open : Int32) (v0_opSize : Int32) (v0_deep : Int32) (c2 : (Nat → Int64)) (c3 : (Nat → Int32)) (c4 : (Nat → Int64)) (c5 : (Nat → Int64)) (c6 : (Nat → Int32)) (c7 : (Nat → Int32)) (c8 : (Nat → Int32)) (c9 : (Nat → Int32)) (c10 : (Nat → Int32)) (c11 : (Nat → Int32)) (c12 : (Nat → Int32)) (c13 : (Nat → Int32)) (c14 : (Nat → Int32)) (c15 : (Nat → Int32)) (c16 : (Nat → Int32)) (c17 : (Nat → Int32)) (c18 : (Nat → Int32)) (c19 : (Nat → Int32)) (c20 : (Nat → Int32)) (c21 : (Nat → Int32)) (c22 : (Nat → Int64)) (c23 : (Nat → Int32)) (c24 : (Nat → Int32)) : Option (Int32 × Int32 × Int32 × Int32 × Int32 × Int32 × Int64 × Int32 × Int32 × Int32 × Int32 × Int32 × Int32 × Int32 × Int32 × Int32 × Int32 × Int32 × (Nat → Int64) × (Nat → Int32) × (Nat → Int64) × (Nat → Int64) × (Nat → Int32) × (Nat → Int32) × (Nat → Int32) × (Nat → Int32) × (Nat → Int32) × (Nat → Int32) × (Nat → Int32) × (Nat → Int32) × (Nat → Int32) × (Nat → Int32) × (Nat → Int32) × (Nat → Int32) × (Nat → Int32) × (Nat → Int32) × (Nat → Int32) × (Nat → Int32) × (Nat → Int64) × (Nat → Int32) × (Nat → Int32)) :=
  some (z0, (v0_thrown, v0_textSize, v0_from, v0_to, v0_token, v0_name, v0_wrong, v0_wrongAt, v0_has, v0_globals, v0_procedures, v0_statements, v0_codes, v0_blocks, v0_open, v0_opSize, v0_deep, c2, c3, c4, c5, c6, c7, c8, c9, c10, c11, c12, c13, c14, c15, c16, c17, c18, c19, c20, c21, c22, c23, c24))
noncomputable def fX11_read_p44 (c1 : Nat → Int32) (z0 : Int32) (v0_thrown : Int32) (v0_textSize : Int32) (v0_from : Int32) (v0_to : Int32) (v0_token : Int32) (v0_name : Int64) (v0_wrong : Int32) (v0_wrongAt : Int32) (v0_has : Int32) (v0_globals : Int32) (v0_procedures : Int32) (v0_statements : Int32) (v0_codes : Int32) (v0_blocks : Int32) (v0_open : Int32) (v0_opSize : Int32) (v0_deep : Int32) (c2 : (Nat → Int64)) (c3 : (Nat → Int32)) (c4 : (Nat → Int64)) (c5 : (Nat → Int64)) (c6 : (Nat → Int32)) (c7 : (Nat → Int32)) (c8 : (Nat → Int32)) (c9 : (Nat → Int32)) (c10 : (Nat → Int32)) (c11 : (Nat → Int32)) (c12 : (Nat → Int32)) (c13 : (Nat → Int32)) (c14 : (Nat → Int32)) (c15 : (Nat → Int32)) (c16 : (Nat → Int32)) (c17 : (Nat → Int32)) (c18 : (Nat → Int32)) (c19 : (Nat → Int32)) (c20 : (Nat → Int32)) (c21 : (Nat → Int32)) (c22 : (Nat → Int64)) (c23 : (Nat → Int32)) (c24 : (Nat → Int32)) : Option (Int32 × Int32 × Int32 × Int32 × Int32 × Int32 × Int64 × Int32 × Int32 × Int32 × Int32 × Int32 × Int32 × Int32 × Int32 × Int32 × Int32 × Int32 × (Nat → Int64) × (Nat → Int32) × (Nat → Int64) × (Nat → Int64) × (Nat → Int32) × (Nat → Int32) × (Nat → Int32) × (Nat → Int32) × (Nat → Int32) × (Nat → Int32) × (Nat → Int32) × (Nat → Int32) × (Nat → Int32) × (Nat → Int32) × (Nat → Int32) × (Nat → Int32) × (Nat → Int32) × (Nat → Int32) × (Nat → Int32) × (Nat → Int32) × (Nat → Int64) × (Nat → Int32) × (Nat → Int32)) :=
  bd (bz z0) <|
  if z0 = 0 then
    nm ((-10) - v0_wrong) fun x3 =>
    fX11_read_p73 c1 x3 v0_thrown 0 v0_from v0_to v0_token v0_name v0_wrong v0_wrongAt z0 v0_globals v0_procedures v0_statements v0_codes v0_blocks v0_open v0_opSize v0_deep c2 c3 c4 c5 c6 c7 c8 c9 c10 c11 c12 c13 c14 c15 c16 c17 c18 c19 c20 c21 c22 c23 c24
  else
    fX11_read_p73 c1 v0_statements v0_thrown 0 v0_from v0_to v0_token v0_name v0_wrong v0_wrongAt z0 v0_globals v0_procedures v0_statements v0_codes v0_blocks v0_open v0_opSize v0_deep c2 c3 c4 c5 c6 c7 c8 c9 c10 c11 c12 c13 c14 c15 c16 c17 c18 c19 c20 c21 c22 c23 c24
noncomputable def fX11_read_p43 (c1 : Nat → Int32) (v0_thrown : Int32) (v0_textSize : Int32) (v0_from : Int32) (v0_to : Int32) (v0_token : Int32) (v0_name : Int64) (v0_wrong : Int32) (v0_wrongAt : Int32) (v0_has : Int32) (v0_globals : Int32) (v0_procedures : Int32) (v0_statements : Int32) (v0_codes : Int32) (v0_blocks : Int32) (v0_open : Int32) (v0_opSize : Int32) (v0_deep : Int32) (c2 : (Nat → Int64)) (c3 : (Nat → Int32)) (c4 : (Nat → Int64)) (c5 : (Nat → Int64)) (c6 : (Nat → Int32)) (c7 : (Nat → Int32)) (c8 : (Nat → Int32)) (c9 : (Nat → Int32)) (c10 : (Nat → Int32)) (c11 : (Nat → Int32)) (c12 : (Nat → Int32)) (c13 : (Nat → Int32)) (c14 : (Nat → Int32)) (c15 : (Nat → Int32)) (c16 : (Nat → Int32)) (c17 : (Nat → Int32)) (c18 : (Nat → Int32)) (c19 : (Nat → Int32)) (c20 : (Nat → Int32)) (c21 : (Nat → Int32)) (c22 : (Nat → Int64)) (c23 : (Nat → Int32)) (c24 : (Nat → Int32)) : Option (Int32 × Int32 × Int32 × Int32 × Int32 × Int32 × Int64 × Int32 × Int32 × Int32 × Int32 × Int32 × Int32 × Int32 × Int32 × Int32 × Int32 × Int32 × (Nat → Int64) × (Nat → Int32) × (Nat → Int64) × (Nat → Int64) × (Nat → Int32) × (Nat → Int32) × (Nat → Int32) × (Nat → Int32) × (Nat → Int32) × (Nat → Int32) × (Nat → Int32) × (Nat → Int32) × (Nat → Int32) × (Nat → Int32) × (Nat → Int32) × (Nat → Int32) × (Nat → Int32) × (Nat → Int32) × (Nat → Int32) × (Nat → Int32) × (Nat → Int64) × (Nat → Int32) × (Nat → Int32)) :=
  fX11_read_p44 c1 0 v0_thrown v0_textSize v0_from v0_to v0_token v0_name v0_wrong v0_wrongAt v0_has v0_globals v0_procedures v0_statements v0_codes v0_blocks v0_open v0_opSize v0_deep c2 c3 c4 c5 c6 c7 c8 c9 c10 c11 c12 c13 c14 c15 c16 c17 c18 c19 c20 c21 c22 c23 c24
noncomputable def fX11_read (v0_thrown : Int32) (v0_textSize : Int32) (v0_from : Int32) (v0_to : Int32) (v0_token : Int32) (v0_name : Int64) (v0_wrong : Int32) (v0_wrongAt : Int32) (v0_has : Int32) (v0_globals : Int32) (v0_procedures : Int32) (v0_statements : Int32) (v0_codes : Int32) (v0_blocks : Int32) (v0_open : Int32) (v0_opSize : Int32) (v0_deep : Int32) (c1 : Nat → Int32) (c2 : Nat → Int64) (c3 : Nat → Int32) (c4 : Nat → Int64) (c5 : Nat → Int64) (c6 : Nat → Int32) (c7 : Nat → Int32) (c8 : Nat → Int32) (c9 : Nat → Int32) (c10 : Nat → Int32) (c11 : Nat → Int32) (c12 : Nat → Int32) (c13 : Nat → Int32) (c14 : Nat → Int32) (c15 : Nat → Int32) (c16 : Nat → Int32) (c17 : Nat → Int32) (c18 : Nat → Int32) (c19 : Nat → Int32) (c20 : Nat → Int32) (c21 : Nat → Int32) (c22 : Nat → Int64) (c23 : Nat → Int32) (c24 : Nat → Int32) : Option (Int32 × Int32 × Int32 × Int32 × Int32 × Int32 × Int64 × Int32 × Int32 × Int32 × Int32 × Int32 × Int32 × Int32 × Int32 × Int32 × Int32 × Int32 × (Nat → Int64) × (Nat → Int32) × (Nat → Int64) × (Nat → Int64) × (Nat → Int32) × (Nat → Int32) × (Nat → Int32) × (Nat → Int32) × (Nat → Int32) × (Nat → Int32) × (Nat → Int32) × (Nat → Int32) × (Nat → Int32) × (Nat → Int32) × (Nat → Int32) × (Nat → Int32) × (Nat → Int32) × (Nat → Int32) × (Nat → Int32) × (Nat → Int32) × (Nat → Int64) × (Nat → Int32) × (Nat → Int32)) :=
  ob (fX11_next v0_textSize v0_from 0 v0_token v0_name c1) fun o4 =>
  ob (fX11_parse v0_textSize o4.1 o4.2.1 o4.2.2.1 o4.2.2.2 0 (-1) v0_globals v0_procedures v0_statements v0_codes v0_blocks v0_open v0_opSize v0_deep c1 c2 c3 c4 c5 c6 c7 c8 c9 c10 c11 c12 c13 c14 c15 c16 c17 c18 c19 c20 c21 c22 c23) fun o5 =>
  if o5.1 = 0 then
    fX11_read_p43 c1 0 v0_textSize o5.2.1 o5.2.2.1 o5.2.2.2.1 o5.2.2.2.2.1 o5.2.2.2.2.2.1 o5.2.2.2.2.2.2.1 v0_has o5.2.2.2.2.2.2.2.1 o5.2.2.2.2.2.2.2.2.1 o5.2.2.2.2.2.2.2.2.2.1 o5.2.2.2.2.2.2.2.2.2.2.1 o5.2.2.2.2.2.2.2.2.2.2.2.1 o5.2.2.2.2.2.2.2.2.2.2.2.2.1 o5.2.2.2.2.2.2.2.2.2.2.2.2.2.1 o5.2.2.2.2.2.2.2.2.2.2.2.2.2.2.1 o5.2.2.2.2.2.2.2.2.2.2.2.2.2.2.2.1 o5.2.2.2.2.2.2.2.2.2.2.2.2.2.2.2.2.1 o5.2.2.2.2.2.2.2.2.2.2.2.2.2.2.2.2.2.1 o5.2.2.2.2.2.2.2.2.2.2.2.2.2.2.2.2.2.2.1 o5.2.2.2.2.2.2.2.2.2.2.2.2.2.2.2.2.2.2.2.1 o5.2.2.2.2.2.2.2.2.2.2.2.2.2.2.2.2.2.2.2.2.1 o5.2.2.2.2.2.2.2.2.2.2.2.2.2.2.2.2.2.2.2.2.2.1 o5.2.2.2.2.2.2.2.2.2.2.2.2.2.2.2.2.2.2.2.2.2.2.1 o5.2.2.2.2.2.2.2.2.2.2.2.2.2.2.2.2.2.2.2.2.2.2.2.1 o5.2.2.2.2.2.2.2.2.2.2.2.2.2.2.2.2.2.2.2.2.2.2.2.2.1 o5.2.2.2.2.2.2.2.2.2.2.2.2.2.2.2.2.2.2.2.2.2.2.2.2.2.1 o5.2.2.2.2.2.2.2.2.2.2.2.2.2.2.2.2.2.2.2.2.2.2.2.2.2.2.1 o5.2.2.2.2.2.2.2.2.2.2.2.2.2.2.2.2.2.2.2.2.2.2.2.2.2.2.2.1 o5.2.2.2.2.2.2.2.2.2.2.2.2.2.2.2.2.2.2.2.2.2.2.2.2.2.2.2.2.1 o5.2.2.2.2.2.2.2.2.2.2.2.2.2.2.2.2.2.2.2.2.2.2.2.2.2.2.2.2.2.1 o5.2.2.2.2.2.2.2.2.2.2.2.2.2.2.2.2.2.2.2.2.2.2.2.2.2.2.2.2.2.2.1 o5.2.2.2.2.2.2.2.2.2.2.2.2.2.2.2.2.2.2.2.2.2.2.2.2.2.2.2.2.2.2.2.1 o5.2.2.2.2.2.2.2.2.2.2.2.2.2.2.2.2.2.2.2.2.2.2.2.2.2.2.2.2.2.2.2.2.1 o5.2.2.2.2.2.2.2.2.2.2.2.2.2.2.2.2.2.2.2.2.2.2.2.2.2.2.2.2.2.2.2.2.2.1 o5.2.2.2.2.2.2.2.2.2.2.2.2.2.2.2.2.2.2.2.2.2.2.2.2.2.2.2.2.2.2.2.2.2.2.1 o5.2.2.2.2.2.2.2.2.2.2.2.2.2.2.2.2.2.2.2.2.2.2.2.2.2.2.2.2.2.2.2.2.2.2.2.1 o5.2.2.2.2.2.2.2.2.2.2.2.2.2.2.2.2.2.2.2.2.2.2.2.2.2.2.2.2.2.2.2.2.2.2.2.2 c24
  else
    ob (fX11_bind o5.2.2.2.2.2.1 o5.2.2.2.2.2.2.1 o5.2.2.2.2.2.2.2.2.1 o5.2.2.2.2.2.2.2.2.2.1 o5.2.2.2.2.2.2.2.2.2.2.2.2.2.2.2.2.2.2.2.2.2.2.2.2.1 o5.2.2.2.2.2.2.2.2.2.2.2.2.2.2.2.2.2.2.2.2.2.2.2.2.2.2.2.2.2.2.2.2.1 o5.2.2.2.2.2.2.2.2.2.2.2.2.2.2.2.2.2.2.1 o5.2.2.2.2.2.2.2.2.2.2.2.2.2.2.2.2.2.2.2.2.2.2.2.2.2.2.2.2.2.2.2.2.2.2.2.1 o5.2.2.2.2.2.2.2.2.2.2.2.2.2.2.2.2.2.2.2.2.2.2.2.2.2.2.2.2.2.2.2.2.2.2.2.2 o5.2.2.2.2.2.2.2.2.2.2.2.2.2.2.2.2.2.2.2.2.2.2.2.2.2.2.2.2.1 o5.2.2.2.2.2.2.2.2.2.2.2.2.2.2.2.2.2.2.2.2.2.2.2.2.2.2.2.1 c24 o5.2.2.2.2.2.2.2.2.2.2.2.2.2.2.2.2.2.2.2.2.2.1 o5.2.2.2.2.2.2.2.2.2.2.2.2.2.2.2.2.2.2.2.2.1) fun o7 =>
    if o7.1 = 0 then
      fX11_read_p43 c1 0 v0_textSize o5.2.1 o5.2.2.1 o5.2.2.2.1 o5.2.2.2.2.1 o7.2.1 o7.2.2.1 v0_has o5.2.2.2.2.2.2.2.1 o5.2.2.2.2.2.2.2.2.1 o5.2.2.2.2.2.2.2.2.2.1 o5.2.2.2.2.2.2.2.2.2.2.1 o5.2.2.2.2.2.2.2.2.2.2.2.1 o5.2.2.2.2.2.2.2.2.2.2.2.2.1 o5.2.2.2.2.2.2.2.2.2.2.2.2.2.1 o5.2.2.2.2.2.2.2.2.2.2.2.2.2.2.1 o5.2.2.2.2.2.2.2.2.2.2.2.2.2.2.2.1 o5.2.2.2.2.2.2.2.2.2.2.2.2.2.2.2.2.1 o5.2.2.2.2.2.2.2.2.2.2.2.2.2.2.2.2.2.1 o5.2.2.2.2.2.2.2.2.2.2.2.2.2.2.2.2.2.2.1 o5.2.2.2.2.2.2.2.2.2.2.2.2.2.2.2.2.2.2.2.1 o5.2.2.2.2.2.2.2.2.2.2.2.2.2.2.2.2.2.2.2.2.1 o5.2.2.2.2.2.2.2.2.2.2.2.2.2.2.2.2.2.2.2.2.2.1 o5.2.2.2.2.2.2.2.2.2.2.2.2.2.2.2.2.2.2.2.2.2.2.1 o5.2.2.2.2.2.2.2.2.2.2.2.2.2.2.2.2.2.2.2.2.2.2.2.1 o5.2.2.2.2.2.2.2.2.2.2.2.2.2.2.2.2.2.2.2.2.2.2.2.2.1 o5.2.2.2.2.2.2.2.2.2.2.2.2.2.2.2.2.2.2.2.2.2.2.2.2.2.1 o5.2.2.2.2.2.2.2.2.2.2.2.2.2.2.2.2.2.2.2.2.2.2.2.2.2.2.1 o5.2.2.2.2.2.2.2.2.2.2.2.2.2.2.2.2.2.2.2.2.2.2.2.2.2.2.2.1 o5.2.2.2.2.2.2.2.2.2.2.2.2.2.2.2.2.2.2.2.2.2.2.2.2.2.2.2.2.1 o5.2.2.2.2.2.2.2.2.2.2.2.2.2.2.2.2.2.2.2.2.2.2.2.2.2.2.2.2.2.1 o5.2.2.2.2.2.2.2.2.2.2.2.2.2.2.2.2.2.2.2.2.2.2.2.2.2.2.2.2.2.2.1 o5.2.2.2.2.2.2.2.2.2.2.2.2.2.2.2.2.2.2.2.2.2.2.2.2.2.2.2.2.2.2.2.1 o7.2.2.2.1 o5.2.2.2.2.2.2.2.2.2.2.2.2.2.2.2.2.2.2.2.2.2.2.2.2.2.2.2.2.2.2.2.2.2.1 o5.2.2.2.2.2.2.2.2.2.2.2.2.2.2.2.2.2.2.2.2.2.2.2.2.2.2.2.2.2.2.2.2.2.2.1 o5.2.2.2.2.2.2.2.2.2.2.2.2.2.2.2.2.2.2.2.2.2.2.2.2.2.2.2.2.2.2.2.2.2.2.2.1 o5.2.2.2.2.2.2.2.2.2.2.2.2.2.2.2.2.2.2.2.2.2.2.2.2.2.2.2.2.2.2.2.2.2.2.2.2 o7.2.2.2.2
    else
      fX11_read_p44 c1 1 0 v0_textSize o5.2.1 o5.2.2.1 o5.2.2.2.1 o5.2.2.2.2.1 o7.2.1 o7.2.2.1 v0_has o5.2.2.2.2.2.2.2.1 o5.2.2.2.2.2.2.2.2.1 o5.2.2.2.2.2.2.2.2.2.1 o5.2.2.2.2.2.2.2.2.2.2.1 o5.2.2.2.2.2.2.2.2.2.2.2.1 o5.2.2.2.2.2.2.2.2.2.2.2.2.1 o5.2.2.2.2.2.2.2.2.2.2.2.2.2.1 o5.2.2.2.2.2.2.2.2.2.2.2.2.2.2.1 o5.2.2.2.2.2.2.2.2.2.2.2.2.2.2.2.1 o5.2.2.2.2.2.2.2.2.2.2.2.2.2.2.2.2.1 o5.2.2.2.2.2.2.2.2.2.2.2.2.2.2.2.2.2.1 o5.2.2.2.2.2.2.2.2.2.2.2.2.2.2.2.2.2.2.1 o5.2.2.2.2.2.2.2.2.2.2.2.2.2.2.2.2.2.2.2.1 o5.2.2.2.2.2.2.2.2.2.2.2.2.2.2.2.2.2.2.2.2.1 o5.2.2.2.2.2.2.2.2.2.2.2.2.2.2.2.2.2.2.2.2.2.1 o5.2.2.2.2.2.2.2.2.2.2.2.2.2.2.2.2.2.2.2.2.2.2.1 o5.2.2.2.2.2.2.2.2.2.2.2.2.2.2.2.2.2.2.2.2.2.2.2.1 o5.2.2.2.2.2.2.2.2.2.2.2.2.2.2.2.2.2.2.2.2.2.2.2.2.1 o5.2.2.2.2.2.2.2.2.2.2.2.2.2.2.2.2.2.2.2.2.2.2.2.2.2.1 o5.2.2.2.2.2.2.2.2.2.2.2.2.2.2.2.2.2.2.2.2.2.2.2.2.2.2.1 o5.2.2.2.2.2.2.2.2.2.2.2.2.2.2.2.2.2.2.2.2.2.2.2.2.2.2.2.1 o5.2.2.2.2.2.2.2.2.2.2.2.2.2.2.2.2.2.2.2.2.2.2.2.2.2.2.2.2.1 o5.2.2.2.2.2.2.2.2.2.2.2.2.2.2.2.2.2.2.2.2.2.2.2.2.2.2.2.2.2.1 o5.2.2.2.2.2.2.2.2.2.2.2.2.2.2.2.2.2.2.2.2.2.2.2.2.2.2.2.2.2.2.1 o5.2.2.2.2.2.2.2.2.2.2.2.2.2.2.2.2.2.2.2.2.2.2.2.2.2.2.2.2.2.2.2.1 o7.2.2.2.1 o5.2.2.2.2.2.2.2.2.2.2.2.2.2.2.2.2.2.2.2.2.2.2.2.2.2.2.2.2.2.2.2.2.2.1 o5.2.2.2.2.2.2.2.2.2.2.2.2.2.2.2.2.2.2.2.2.2.2.2.2.2.2.2.2.2.2.2.2.2.2.1 o5.2.2.2.2.2.2.2.2.2.2.2.2.2.2.2.2.2.2.2.2.2.2.2.2.2.2.2.2.2.2.2.2.2.2.2.1 o5.2.2.2.2.2.2.2.2.2.2.2.2.2.2.2.2.2.2.2.2.2.2.2.2.2.2.2.2.2.2.2.2.2.2.2.2 o7.2.2.2.2
noncomputable def fX11_rule_p78  (v0_thrown : Int32) (v0_rules : Int32) (v0_known : Int32) (v0_wayState : Int32) (c1 : (Nat → Int32)) : Option (Int32 × Int32 × Int32 × Int32 × Int32 × (Nat → Int32)) :=
  some ((-2), (v0_thrown, v0_rules, v0_known, v0_wayState, c1))
noncomputable def fX11_rule_p81  (y1 : Int32) (y2 : Int32) (y3 : Int32) (y4 : Int32) (y5 : Int32) (y6 : Int32) (v0_thrown : Int32) (v0_rules : Int32) (v0_known : Int32) (v0_wayState : Int32) (c1 : (Nat → Int32)) : Option (Int32 × Int32 × Int32 × Int32 × Int32 × (Nat → Int32)) :=
  if v0_rules = 48 then
    some ((-3), (v0_thrown, v0_rules, v0_known, v0_wayState, c1))
  else
    nm (6 * v0_rules) fun x2 =>
    bd (inb x2 288) <|
    nm (upd c1 x2.toNatClampNeg y1) fun c3x =>
    nm (6 * v0_rules) fun x4 =>
    nm (x4 + 1) fun x5 =>
    bd (inb x5 288) <|
    nm (upd c3x x5.toNatClampNeg y2) fun c6x =>
    nm (6 * v0_rules) fun x7 =>
    nm (x7 + 2) fun x8 =>
    bd (inb x8 288) <|
    nm (upd c6x x8.toNatClampNeg y3) fun c9x =>
    nm (6 * v0_rules) fun x10 =>
    nm (x10 + 3) fun x11 =>
    bd (inb x11 288) <|
    nm (upd c9x x11.toNatClampNeg y4) fun c12x =>
    nm (6 * v0_rules) fun x13 =>
    nm (x13 + 4) fun x14 =>
    bd (inb x14 288) <|
    nm (upd c12x x14.toNatClampNeg y5) fun c15x =>
    nm (6 * v0_rules) fun x16 =>
    nm (x16 + 5) fun x17 =>
    bd (inb x17 288) <|
    nm (upd c15x x17.toNatClampNeg y6) fun c18x =>
    nm (v0_rules + 1) fun x19 =>
    ob (fX11_forget v0_known v0_wayState) fun o20 =>
    nm (x19 - 1) fun x21 =>
    some (x21, (v0_thrown, x19, o20.1, o20.2, c18x))
noncomputable def fX11_rule_p61  (y1 : Int32) (y2 : Int32) (y3 : Int32) (y4 : Int32) (y5 : Int32) (y6 : Int32) (v0_thrown : Int32) (v0_rules : Int32) (v0_known : Int32) (v0_wayState : Int32) (c1 : (Nat → Int32)) : Option (Int32 × Int32 × Int32 × Int32 × Int32 × (Nat → Int32)) :=
  if y4 ≤ 1 then
    fX11_rule_p81 y1 y2 y3 y4 y5 y6 v0_thrown v0_rules v0_known v0_wayState c1
  else
    ob (fX11_in y6 0 11) fun o23 =>
    if o23.1 = 0 then
      fX11_rule_p78 v0_thrown v0_rules v0_known v0_wayState c1
    else
      fX11_rule_p81 y1 y2 y3 y4 y5 y6 v0_thrown v0_rules v0_known v0_wayState c1
noncomputable def fX11_rule (a0 : Int32) (a1 : Int32) (a2 : Int32) (a3 : Int32) (a4 : Int32) (a5 : Int32) (v0_thrown : Int32) (v0_rules : Int32) (v0_known : Int32) (v0_wayState : Int32) (c1 : Nat → Int32) : Option (Int32 × Int32 × Int32 × Int32 × Int32 × (Nat → Int32)) :=
  ob (fX11_in a0 0 7) fun o25 =>
  if o25.1 = 0 then
    fX11_rule_p78 0 v0_rules v0_known v0_wayState c1
  else
    ob (fX11_in a1 0 11) fun o27 =>
    if o27.1 = 0 then
      fX11_rule_p78 0 v0_rules v0_known v0_wayState c1
    else
      ob (fX11_in a2 0 7) fun o29 =>
      if o29.1 = 0 then
        fX11_rule_p78 0 v0_rules v0_known v0_wayState c1
      else
        ob (fX11_in a3 0 2) fun o31 =>
        if o31.1 = 0 then
          fX11_rule_p78 0 v0_rules v0_known v0_wayState c1
        else
          if a3 ≤ 0 then
            fX11_rule_p61 a0 a1 a2 a3 a4 a5 0 v0_rules v0_known v0_wayState c1
          else
            ob (fX11_in a4 0 11) fun o34 =>
            if o34.1 = 0 then
              fX11_rule_p78 0 v0_rules v0_known v0_wayState c1
            else
              fX11_rule_p61 a0 a1 a2 a3 a4 a5 0 v0_rules v0_known v0_wayState c1
noncomputable def fX11_told_p83 (v0_has : Int32) (v0_globals : Int32) (v0_procedures : Int32) (v0_statements : Int32) (c1 : Nat → Int32) (c2 : Nat → Int32) (c3 : Nat → Int32) (v0_thrown : Int32) : Option (Int32 × Int32) :=
  some ((-2), v0_thrown)
noncomputable def fX11_told_p120 (v0_has : Int32) (v0_globals : Int32) (v0_procedures : Int32) (v0_statements : Int32) (c1 : Nat → Int32) (c2 : Nat → Int32) (c3 : Nat → Int32) (z0 : Int32) (v0_thrown : Int32) : Option (Int32 × Int32) :=
  some (z0, v0_thrown)
noncomputable def fX11_told_p52 (v0_has : Int32) (v0_globals : Int32) (v0_procedures : Int32) (v0_statements : Int32) (c1 : Nat → Int32) (c2 : Nat → Int32) (c3 : Nat → Int32) (z0 : Int32) (v0_thrown : Int32) : Option (Int32 × Int32) :=
  some (z0, v0_thrown)
noncomputable def fX11_told (a0 : Int32) (a1 : Int32) (v0_thrown : Int32) (v0_has : Int32) (v0_globals : Int32) (v0_procedures : Int32) (v0_statements : Int32) (c1 : Nat → Int32) (c2 : Nat → Int32) (c3 : Nat → Int32) : Option (Int32 × Int32) :=
  ob (fX11_in a0 0 2) fun o1 =>
  if o1.1 = 0 then
    ob (fX11_in a0 3 5) fun o3 =>
    if o3.1 = 0 then
      fX11_told_p83 v0_has v0_globals v0_procedures v0_statements c1 c2 c3 0
    else
      if v0_has = 0 then
        fX11_told_p83 v0_has v0_globals v0_procedures v0_statements c1 c2 c3 0
      else
        nm (v0_statements - 1) fun x6 =>
        ob (fX11_in a1 0 x6) fun o7 =>
        if o7.1 = 0 then
          fX11_told_p83 v0_has v0_globals v0_procedures v0_statements c1 c2 c3 0
        else
          if a0 = 3 then
            bd (inb a1 40) <|
            nm (c1 a1.toNatClampNeg) fun x16 =>
            fX11_told_p120 v0_has v0_globals v0_procedures v0_statements c1 c2 c3 x16 0
          else
            if a0 = 4 then
              bd (inb a1 40) <|
              nm (c2 a1.toNatClampNeg) fun x14 =>
              fX11_told_p120 v0_has v0_globals v0_procedures v0_statements c1 c2 c3 x14 0
            else
              bd (inb a1 40) <|
              nm (c3 a1.toNatClampNeg) fun x12 =>
              fX11_told_p120 v0_has v0_globals v0_procedures v0_statements c1 c2 c3 x12 0
  else
    if v0_has = 0 then
      fX11_told_p52 v0_has v0_globals v0_procedures v0_statements c1 c2 c3 0 0
    else
      if a0 = 0 then
        fX11_told_p52 v0_has v0_globals v0_procedures v0_statements c1 c2 c3 v0_globals 0
      else
        if a0 = 1 then
          fX11_told_p52 v0_has v0_globals v0_procedures v0_statements c1 c2 c3 v0_procedures 0
        else
          fX11_told_p52 v0_has v0_globals v0_procedures v0_statements c1 c2 c3 v0_statements 0
noncomputable def fX11_trace_p45 (v0_traceLong : Int32) (c1 : Nat → Int32) (z0 : Int32) (v0_thrown : Int32) : Option (Int32 × Int32) :=
  some (z0, v0_thrown)
noncomputable def fX11_trace (a0 : Int32) (a1 : Int32) (v0_thrown : Int32) (v0_traceLong : Int32) (c1 : Nat → Int32) : Option (Int32 × Int32) :=
  ob (fX11_in a1 0 4) fun o1 =>
  if o1.1 = 0 then
    some ((-2), 0)
  else
    nm (v0_traceLong - 1) fun x3 =>
    ob (fX11_in a0 0 x3) fun o4 =>
    if o4.1 = 0 then
      fX11_trace_p45 v0_traceLong c1 (-1) 0
    else
      nm (5 * a0) fun x6 =>
      nm (x6 + a1) fun x7 =>
      bd (inb x7 10000) <|
      nm (c1 x7.toNatClampNeg) fun x9 =>
      fX11_trace_p45 v0_traceLong c1 x9 0
noncomputable def fX11_type_b36  (k36 : Int64 → Int32 → Int32 → Int32 → Int32 → (Nat → Int32) → Option (Int32 × Int32 × Int32 × (Nat → Int32))) (y1 : Int64) (y3 : Int32) (y4 : Int32) (v0_thrown : Int32) (v0_textSize : Int32) (c1 : (Nat → Int32)) : Option (Int32 × Int32 × Int32 × (Nat → Int32)) :=
  if y3 ≤ y4 then
    some (v0_textSize, (v0_thrown, v0_textSize, c1))
  else
    nm (8 * y4) fun x2 =>
    nm (y1 >>> (x2.toInt64 &&& 63)) fun x3 =>
    nm (x3 &&& 255) fun x4 =>
    nm (x4.toInt32) fun x5 =>
    bd (inb v0_textSize 600) <|
    nm (upd c1 v0_textSize.toNatClampNeg x5) fun c6x =>
    nm (v0_textSize + 1) fun x7 =>
    nm (y4 + 1) fun x8 =>
    k36 y1 y3 x8 v0_thrown x7 c6x
noncomputable def fX11_type_l36  : Nat → Int64 → Int32 → Int32 → Int32 → Int32 → (Nat → Int32) → Option (Int32 × Int32 × Int32 × (Nat → Int32))
  | 0 => fun _ _ _ _ _ _ => none
  | n + 1 => fX11_type_b36   (fX11_type_l36   n)
noncomputable def fX11_type (a0 : Int64) (a1 : Int32) (v0_thrown : Int32) (v0_textSize : Int32) (c1 : Nat → Int32) : Option (Int32 × Int32 × Int32 × (Nat → Int32)) :=
  ob (fX11_in a1 1 8) fun o9 =>
  if o9.1 = 0 then
    some ((-2), (0, v0_textSize, c1))
  else
    nm (v0_textSize + a1) fun x11 =>
    if x11 ≤ 600 then
      fX11_type_l36 FU a0 a1 0 0 v0_textSize c1
    else
      some ((-3), (0, v0_textSize, c1))
noncomputable def fX11_way_p55 (v0_rules : Int32) (v0_size : Int32) (c1 : Nat → Int32) (c3 : Nat → Int32) (c4 : Nat → Int32) (c6 : Nat → Int32) (z0 : Int32) (v0_thrown : Int32) (v0_known : Int32) (v0_wayState : Int32) (v0_wayLong : Int32) (c2 : (Nat → Int32)) (c5 : (Nat → Int32)) (c7 : (Nat → Int32)) (c8 : (Nat → Int32)) : Option (Int32 × Int32 × Int32 × Int32 × Int32 × (Nat → Int32) × (Nat → Int32) × (Nat → Int32) × (Nat → Int32)) :=
  some (z0, (v0_thrown, v0_known, v0_wayState, v0_wayLong, c2, c5, c7, c8))
noncomputable def fX11_way_p31 (v0_rules : Int32) (v0_size : Int32) (c1 : Nat → Int32) (c3 : Nat → Int32) (c4 : Nat → Int32) (c6 : Nat → Int32) (y2 : Int32) (v0_thrown : Int32) (v0_known : Int32) (v0_wayState : Int32) (v0_wayLong : Int32) (c2 : (Nat → Int32)) (c5 : (Nat → Int32)) (c7 : (Nat → Int32)) (c8 : (Nat → Int32)) : Option (Int32 × Int32 × Int32 × Int32 × Int32 × (Nat → Int32) × (Nat → Int32) × (Nat → Int32) × (Nat → Int32)) :=
  nm (v0_wayLong - 1) fun x1 =>
  ob (fX11_in y2 0 x1) fun o2 =>
  if o2.1 = 0 then
    fX11_way_p55 v0_rules v0_size c1 c3 c4 c6 (-1) v0_thrown v0_known v0_wayState v0_wayLong c2 c5 c7 c8
  else
    bd (inb y2 2000) <|
    nm (c8 y2.toNatClampNeg) fun x5 =>
    fX11_way_p55 v0_rules v0_size c1 c3 c4 c6 x5 v0_thrown v0_known v0_wayState v0_wayLong c2 c5 c7 c8
noncomputable def fX11_way (a0 : Int32) (a1 : Int32) (v0_thrown : Int32) (v0_rules : Int32) (v0_size : Int32) (v0_known : Int32) (v0_wayState : Int32) (v0_wayLong : Int32) (c1 : Nat → Int32) (c2 : Nat → Int32) (c3 : Nat → Int32) (c4 : Nat → Int32) (c5 : Nat → Int32) (c6 : Nat → Int32) (c7 : Nat → Int32) (c8 : Nat → Int32) : Option (Int32 × Int32 × Int32 × Int32 × Int32 × (Nat → Int32) × (Nat → Int32) × (Nat → Int32) × (Nat → Int32)) :=
  ob (fX11_in a0 0 7) fun o6 =>
  if o6.1 = 0 then
    some ((-2), (0, v0_known, v0_wayState, v0_wayLong, c2, c5, c7, c8))
  else
    if v0_wayState = a0 then
      fX11_way_p31 v0_rules v0_size c1 c3 c4 c6 a1 0 v0_known v0_wayState v0_wayLong c2 c5 c7 c8
    else
      ob (fX11_findWay a0 v0_rules v0_size v0_known v0_wayState v0_wayLong c1 c2 c3 c4 c5 c6 c7 c8) fun o9 =>
      fX11_way_p31 v0_rules v0_size c1 c3 c4 c6 a1 0 o9.1 o9.2.1 o9.2.2.1 o9.2.2.2.1 o9.2.2.2.2.1 o9.2.2.2.2.2.1 o9.2.2.2.2.2.2
