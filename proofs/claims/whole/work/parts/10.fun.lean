def fX6_forget  (M : Mem) : Option (Mem) :=
  bnd (mu M 105 0 0) fun M1 =>
  some M1
def fX11_state (p1 : Int32) (M : Mem) : Option (Int32 × Mem) :=
  bnd (M 2 0 : Int32) fun x1 =>
  bnd (mu M 2 0 p1) fun M2 =>
  (fX6_forget M2).bind fun M3 =>
  some (x1, M3)
def fX12_state (p1 : Int32) (M : Mem) : Option (Int32 × Mem) :=
  bnd (mu M 198 0 0) fun M1 =>
  (rd M1 199 83 1).bind fun v2 =>
  (wr M1 199 83 1 p1).bind fun M3 =>
  bnd (mu M3 198 3 0) fun M4 =>
  some (v2, M4)
def fX11_isWithin (p0 : Int32) (p1 : Int32) (p2 : Int32) : Int32 :=
  if p0 < p1 then
  (0)
  else
  (if p2 < p0 then
  (0)
  else
  (1))
def fX9_addPerson (p1 : Int32) (M : Mem) : Option (Mem) :=
  if 12 ≤ (M 2 4) then
  (some M)
  else
  ((wr M 3 12 (M 2 4) p1).bind fun M1 =>
  (wr M1 4 12 (M1 2 4) 0).bind fun M2 =>
  (wr M2 5 12 (M2 2 4) 0).bind fun M3 =>
  bnd (mu M3 2 4 ((M3 2 4) + 1)) fun M4 =>
  some M4)
def fX11_person (p1 : Int32) (M : Mem) : Option (Int32 × Mem) :=
  if (fX11_isWithin p1 0 9) = 0 then
  (some ((-1), M))
  else
  (if (M 2 4) < 12 then
  ((fX9_addPerson p1 M).bind fun M1 =>
  (fX6_forget M1).bind fun M2 =>
  some ((M2 2 4) - 1, M2))
  else
  (some ((-1), M)))
def fX12_isIn (p1 : Int32) (p2 : Int32) (p3 : Int32) : Int32 :=
  if p1 < p2 then
  (0)
  else
  (if p3 < p1 then
  (0)
  else
  (1))
def fX12_person (p1 : Int32) (M : Mem) : Option (Int32 × Mem) :=
  bnd (mu M 198 0 0) fun M1 =>
  if (fX12_isIn p1 0 9) = 0 then
  (some ((-1), M1))
  else
  (if (M1 198 6) = 12 then
  (some ((-1), M1))
  else
  ((wr M1 199 83 (5 + (M1 198 6)) p1).bind fun M2 =>
  (wr M2 199 83 (17 + (M2 198 6)) 0).bind fun M3 =>
  (wr M3 199 83 (29 + (M3 198 6)) 0).bind fun M4 =>
  bnd (mu M4 198 6 ((M4 198 6) + 1)) fun M5 =>
  bnd (mu M5 198 3 0) fun M6 =>
  some ((M6 198 6) - 1, M6)))
def fX9_hasPerson (k0 : Nat) (p1 : Int32) (M : Mem) : Int32 :=
  if p1 < 0 then
  (0)
  else
  (if (M k0 4) ≤ p1 then
  (0)
  else
  (1))
def fX9_areTwo (p1 : Int32) (p2 : Int32) (M : Mem) : Int32 :=
  if (fX9_hasPerson 2 p1 M) = 0 then
  (0)
  else
  (if (fX9_hasPerson 2 p2 M) = 0 then
  (0)
  else
  (if p1 = p2 then
  (0)
  else
  (1)))
def fX9_addBargain (p1 : Int32) (p2 : Int32) (p3 : Int32) (M : Mem) : Option (Mem) :=
  if 14 ≤ (M 2 5) then
  (some M)
  else
  ((wr M 6 14 (M 2 5) p1).bind fun M1 =>
  (wr M1 7 14 (M1 2 5) p2).bind fun M2 =>
  (wr M2 8 14 (M2 2 5) p3).bind fun M3 =>
  (wr M3 9 14 (M3 2 5) 9).bind fun M4 =>
  (wr M4 10 14 (M4 2 5) 0).bind fun M5 =>
  (wr M5 11 14 (M5 2 5) 0).bind fun M6 =>
  bnd (mu M6 2 5 ((M6 2 5) + 1)) fun M7 =>
  some M7)
def fX11_bargain (p1 : Int32) (p2 : Int32) (p3 : Int32) (M : Mem) : Option (Int32 × Mem) :=
  if (fX9_areTwo p1 p2 M) = 0 then
  (some ((-1), M))
  else
  (if (fX11_isWithin p3 1 9) = 0 then
  (some ((-1), M))
  else
  (if (M 2 5) < 14 then
  ((fX9_addBargain p1 p2 p3 M).bind fun M1 =>
  (fX6_forget M1).bind fun M2 =>
  some ((M2 2 5) - 1, M2))
  else
  (some ((-1), M))))
def fX12_isPerson (p1 : Int32) (M : Mem) : Int32 :=
  if p1 < 0 then
  (0)
  else
  (if (M 198 6) ≤ p1 then
  (0)
  else
  (1))
def fX12_bargain (p1 : Int32) (p2 : Int32) (p3 : Int32) (M : Mem) : Option (Int32 × Mem) :=
  bnd (mu M 198 0 0) fun M1 =>
  if (fX12_isPerson p1 M1) = 0 then
  (some ((-1), M1))
  else
  (if (fX12_isPerson p2 M1) = 0 then
  (some ((-1), M1))
  else
  (if p1 = p2 then
  (some ((-1), M1))
  else
  (if (fX12_isIn p3 1 9) = 0 then
  (some ((-1), M1))
  else
  (if (M1 198 7) = 14 then
  (some ((-1), M1))
  else
  ((wr M1 202 14 (M1 198 7) p1).bind fun M2 =>
  (wr M2 203 14 (M2 198 7) p2).bind fun M3 =>
  (wr M3 204 14 (M3 198 7) p3).bind fun M4 =>
  (wr M4 199 83 (41 + (M4 198 7)) 9).bind fun M5 =>
  (wr M5 199 83 (55 + (M5 198 7)) 0).bind fun M6 =>
  (wr M6 199 83 (69 + (M6 198 7)) 0).bind fun M7 =>
  bnd (mu M7 198 7 ((M7 198 7) + 1)) fun M8 =>
  bnd (mu M8 198 3 0) fun M9 =>
  some ((M9 198 7) - 1, M9))))))
def fX9_hasBargain (k0 : Nat) (p1 : Int32) (M : Mem) : Int32 :=
  if p1 < 0 then
  (0)
  else
  (if (M k0 5) ≤ p1 then
  (0)
  else
  (1))
def fX9_isOpen (k0 : Nat) (p1 : Int32) (M : Mem) : Option (Int32) :=
  if (fX9_hasBargain k0 p1 M) = 0 then
  (some 0)
  else
  ((rd M (k0 + 9) 14 p1).bind fun v1 =>
  if v1 = 0 then
  (some 1)
  else
  (some 0))
def fX11_set (p1 : Int32) (p2 : Int32) (p3 : Int32) (M : Mem) : Option (Int32 × Mem) :=
  if (fX11_isWithin p3 0 9) = 0 then
  (some (0, M))
  else
  (jn (fun (M2 : Mem) => (fX6_forget M2).bind fun M3 =>
  some (1, M3)) fun (J1 : (Mem) → Option (Int32 × Mem)) =>
  jn (jn (if p1 = 2 then
  (bnd (mu M 2 1 p3) fun M7 =>
  J1 M7)
  else
  (if p1 = 3 then
  (bnd (mu M 2 2 p3) fun M6 =>
  J1 M6)
  else
  (some (0, M)))) fun (J5 : Option (Int32 × Mem)) =>
  if p1 = 1 then
  ((fX9_isOpen 2 p2 M).bind fun v8 =>
  if v8 = 0 then
  (J5)
  else
  (if p3 ≤ 0 then
  (J5)
  else
  ((wr M 9 14 p2 p3).bind fun M9 =>
  J1 M9)))
  else
  (J5)) fun (J4 : Option (Int32 × Mem)) =>
  if p1 = 0 then
  (if (fX9_hasPerson 2 p2 M) = 0 then
  (J4)
  else
  ((wr M 3 12 p2 p3).bind fun M10 =>
  J1 M10))
  else
  (J4))
def fX12_isBargain (p1 : Int32) (M : Mem) : Int32 :=
  if p1 < 0 then
  (0)
  else
  (if (M 198 7) ≤ p1 then
  (0)
  else
  (1))
def fX12_set (p1 : Int32) (p2 : Int32) (p3 : Int32) (M : Mem) : Option (Int32 × Mem) :=
  bnd (mu M 198 0 0) fun M1 =>
  jn (fun (t3 : Int32) => if t3 = 0 then
  (some (0, M1))
  else
  (jn (fun (M5 : Mem) => jn (fun (M7 : Mem) => jn (fun (M9 : Mem) => bnd (mu M9 198 3 0) fun M10 =>
  some (1, M10)) fun (J8 : (Mem) → Option (Int32 × Mem)) =>
  if p1 ≤ 1 then
  (J8 M7)
  else
  ((wr M7 199 83 ((3 + p1) - 2) p3).bind fun M11 =>
  J8 M11)) fun (J6 : (Mem) → Option (Int32 × Mem)) =>
  if p1 = 1 then
  ((wr M5 199 83 (41 + p2) p3).bind fun M12 =>
  J6 M12)
  else
  (J6 M5)) fun (J4 : (Mem) → Option (Int32 × Mem)) =>
  if p1 = 0 then
  ((wr M1 199 83 (5 + p2) p3).bind fun M13 =>
  J4 M13)
  else
  (J4 M1))) fun (J2 : (Int32) → Option (Int32 × Mem)) =>
  if p1 = 0 then
  (jn (J2 0) fun (J17 : Option (Int32 × Mem)) =>
  if (fX12_isPerson p2 M1) = 0 then
  (J17)
  else
  (if (fX12_isIn p3 0 9) = 0 then
  (J17)
  else
  (J2 1)))
  else
  (if p1 = 1 then
  (jn (J2 0) fun (J15 : Option (Int32 × Mem)) =>
  if (fX12_isBargain p2 M1) = 0 then
  (J15)
  else
  ((rd M1 199 83 (69 + p2)).bind fun v16 =>
  if v16 = 0 then
  (if (fX12_isIn p3 1 9) = 0 then
  (J15)
  else
  (J2 1))
  else
  (J15)))
  else
  (jn (J2 0) fun (J14 : Option (Int32 × Mem)) =>
  if (fX12_isIn p1 2 3) = 0 then
  (J14)
  else
  (if (fX12_isIn p3 0 9) = 0 then
  (J14)
  else
  (J2 1))))
def fX9_hasSaid (k0 : Nat) (p1 : Int32) (p2 : Int32) (M : Mem) : Option (Int32) :=
  if (fX9_hasBargain k0 p1 M) = 0 then
  (some 0)
  else
  ((rd M (k0 + 8) 14 p1).bind fun v1 =>
  if ((jshr v1 p2) &&& 1) = 1 then
  (some 1)
  else
  (some 0))
def fX9_canClear (k0 : Nat) (p1 : Int32) (M : Mem) : Option (Int32) :=
  if (fX9_hasBargain k0 p1 M) = 0 then
  (some 0)
  else
  ((rd M (k0 + 9) 14 p1).bind fun v1 =>
  if v1 = 1 then
  (some 0)
  else
  (some 1))
def fX11_canAct (p1 : Int32) (p2 : Int32) (M : Mem) : Option (Int32) :=
  swt p1 0 [((fX9_isOpen 2 p2 M).bind fun v1 =>
  if v1 = 0 then
  (some 0)
  else
  ((fX9_hasSaid 2 p2 p1 M).bind fun v2 =>
  if v2 = 0 then
  (some 1)
  else
  (some 0))),
  ((fX9_isOpen 2 p2 M).bind fun v3 =>
  if v3 = 0 then
  (some 0)
  else
  ((fX9_hasSaid 2 p2 p1 M).bind fun v4 =>
  if v4 = 0 then
  (some 1)
  else
  (some 0))),
  ((fX9_canClear 2 p2 M).bind fun v5 =>
  if v5 = 0 then
  (some 0)
  else
  ((rd M 9 14 p2).bind fun v6 =>
  if 9 ≤ v6 then
  (some 0)
  else
  (some 1))),
  ((fX9_isOpen 2 p2 M).bind fun v7 =>
  if v7 = 0 ∨ v7 = 1 then some v7 else none),
  (if (fX9_hasPerson 2 p2 M) = 0 then
  (some 0)
  else
  ((rd M 5 12 p2).bind fun v8 =>
  if v8 ≤ 0 then
  (some 0)
  else
  (some 1)))] (some 0)
def fX9_copyFrom (k0 : Nat) (k1 : Nat) (M : Mem) : Option (Mem) :=
  bnd (mu M k0 0 (M k1 0)) fun M1 =>
  bnd (mu M1 k0 1 (M1 k1 1)) fun M2 =>
  bnd (mu M2 k0 2 (M2 k1 2)) fun M3 =>
  bnd (mu M3 k0 3 (M3 k1 3)) fun M4 =>
  bnd (mu M4 k0 4 (M4 k1 4)) fun M5 =>
  bnd (mu M5 k0 5 (M5 k1 5)) fun M6 =>
  (cpy M6 (k1 + 1) 12 (k0 + 1) 12 0 0 12).bind fun M7 =>
  (cpy M7 (k1 + 2) 12 (k0 + 2) 12 0 0 12).bind fun M8 =>
  (cpy M8 (k1 + 3) 12 (k0 + 3) 12 0 0 12).bind fun M9 =>
  (cpy M9 (k1 + 4) 14 (k0 + 4) 14 0 0 14).bind fun M10 =>
  (cpy M10 (k1 + 5) 14 (k0 + 5) 14 0 0 14).bind fun M11 =>
  (cpy M11 (k1 + 6) 14 (k0 + 6) 14 0 0 14).bind fun M12 =>
  (cpy M12 (k1 + 7) 14 (k0 + 7) 14 0 0 14).bind fun M13 =>
  (cpy M13 (k1 + 8) 14 (k0 + 8) 14 0 0 14).bind fun M14 =>
  (cpy M14 (k1 + 9) 14 (k0 + 9) 14 0 0 14).bind fun M15 =>
  some M15
def fX6_keep (p2 : Int32) (M : Mem) : Option (Mem) :=
  (rdt 106 6 (M 105 1)).bind fun q1 =>
  if kd q1 = (9, 15) then (
  (fX9_copyFrom q1 2 M).bind fun M2 =>
  (wr M2 107 6 (M2 105 1) p2).bind fun M3 =>
  jn (fun (t5 : Int32) => bnd (mu M3 105 1 t5) fun M6 =>
  bnd (mu M6 105 0 (jmin 6 ((M6 105 0) + 1))) fun M7 =>
  some M7) fun (J4 : (Int32) → Option (Mem)) =>
  if 6 ≤ ((M3 105 1) + 1) then
  (J4 0)
  else
  (J4 ((M3 105 1) + 1))) else none
def fX9_whoIs (k0 : Nat) (p1 : Int32) (p2 : Int32) (M : Mem) : Option (Int32) :=
  if (fX9_hasBargain k0 p1 M) = 0 then
  (some (-1))
  else
  (if (fX11_isWithin p2 0 1) = 0 then
  (some (-1))
  else
  (if p2 = 0 then
  ((rd M (k0 + 4) 14 p1).bind fun v2 =>
  some v2)
  else
  ((rd M (k0 + 5) 14 p1).bind fun v1 =>
  some v1)))
def fX0_hearersOf_L4 (z1 : Int32) (M : Mem) : Nat → Int32 → Int32 → Option (Int32)
  | 0, _, _ => none
  | n + 1, y2, y3 =>
    if (M 35 0) ≤ y3 then
    (some y2)
    else
    ((rd M 38 16 y3).bind fun v1 =>
    jn (fun (a3 : Int32) => fX0_hearersOf_L4 z1 M n a3 (y3 + 1)) fun (J2 : (Int32) → Option (Int32)) =>
    if v1 = z1 then
    ((rd M 39 16 y3).bind fun v4 =>
    bnd (y2 ||| (jshl 1 v4) : Int32) fun x5 =>
    J2 x5)
    else
    (J2 y2))
def fX0_hearersOf (p1 : Int32) (M : Mem) : Option (Int32) :=
  fX0_hearersOf_L4 p1 M FU 0 0
def fJ6_bitCount_0f7a4 (p0 : Int32) : Int32 :=
  bnd (p0 - ((jushr p0 1) &&& 1431655765) : Int32) fun x1 =>
  bnd ((x1 &&& 858993459) + ((jushr x1 2) &&& 858993459) : Int32) fun x2 =>
  bnd ((x2 + (jushr x2 4)) &&& 252645135 : Int32) fun x3 =>
  bnd (x3 + (jushr x3 8) : Int32) fun x4 =>
  bnd (x4 + (jushr x4 16) : Int32) fun x5 =>
  x5 &&& 63
def fX1_named (p1 : Int32) (M : Mem) : Option (Int32) :=
  if p1 < 0 then
  (some 0)
  else
  (if 10 ≤ p1 then
  (some 0)
  else
  ((rd M 23 10 p1).bind fun v1 =>
  some v1))
def fX1_joined (p0 : Int32) (p1 : Int32) (p2 : Int32) : Option (Int32) :=
  if p0 = 42 then
  (some (p1 * p2))
  else
  (if p0 = 43 then
  (some (p1 + p2))
  else
  (if p0 = 45 then
  (some (p1 - p2))
  else
  (if p0 = 47 then
  (if p2 = 0 then
  (some 0)
  else
  (if p2 = 0 then none else
  some (p1 / p2)))
  else
  (if p0 = 60 then
  (if p2 ≤ p1 then
  (some 0)
  else
  (some 1))
  else
  (if p0 = 61 then
  (if p1 = p2 then
  (some 1)
  else
  (some 0))
  else
  (if p0 = 62 then
  (if p1 ≤ p2 then
  (some 0)
  else
  (some 1))
  else
  (if p0 = 97 then
  (some (p1 &&& p2))
  else
  (some (p1 ||| p2)))))))))
def fX1_worked_L5 (K161 : Int32 → Mem → Option (Int32 × Mem)) (z2 : Int32) : Nat → Int32 → Int32 → Mem → Option (Int32 × Mem)
  | 0, _, _, _ => none
  | n + 1, y3, y4, M =>
    if y4 < 0 then
    (K161 y3 M)
    else
    (if z2 ≤ y4 then
    (K161 y3 M)
    else
    (if (M 17 1) ≤ y4 then
    (K161 y3 M)
    else
    ((rd M 22 400 y4).bind fun v1 =>
    jn (fun (a3 : Int32) (M4 : Mem) => fX1_worked_L5 K161 z2 n a3 (y4 + 1) M4) fun (J2 : (Int32) → (Mem) → Option (Int32 × Mem)) =>
    if 20000 ≤ v1 then
    (if v1 = 20110 then
    (if y3 ≤ 0 then
    (J2 y3 M)
    else
    ((rd M 24 32 (y3 - 1)).bind fun v9 =>
    (wr M 24 32 (y3 - 1) (1 - v9)).bind fun M10 =>
    J2 y3 M10))
    else
    (if y3 ≤ 1 then
    (J2 y3 M)
    else
    ((rd M 24 32 ((y3 + (-1)) - 1)).bind fun v5 =>
    (rd M 24 32 (y3 + (-1))).bind fun v6 =>
    (fX1_joined (v1 - 20000) v5 v6).bind fun v7 =>
    (wr M 24 32 ((y3 + (-1)) - 1) v7).bind fun M8 =>
    J2 (y3 + (-1)) M8)))
    else
    (if 32 ≤ y3 then
    (J2 y3 M)
    else
    (jn (fun (t12 : Int32) => (wr M 24 32 y3 t12).bind fun M13 =>
    J2 (y3 + 1) M13) fun (J11 : (Int32) → Option (Int32 × Mem)) =>
    if 10000 ≤ v1 then
    ((fX1_named (v1 - 10000) M).bind fun v14 =>
    J11 v14)
    else
    (J11 v1))))))
def fX1_worked (p1 : Int32) (p2 : Int32) (M : Mem) : Option (Int32 × Mem) :=
  fX1_worked_L5 (fun (e15 : Int32) (M16 : Mem) =>
  if e15 ≤ 0 then
  (some (0, M16))
  else
  ((rd M16 24 32 0).bind fun v17 =>
  some (v17, M16))) p2 FU 0 p1 M
def fX1_lineFor_L2 (K54 : Int32 → Mem → Option (Int32 × Mem)) (z1 : Int32) : Nat → Int32 → Mem → Option (Int32 × Mem)
  | 0, _, _ => none
  | n + 1, y2, M =>
    if (M 17 0) ≤ y2 then
    (some ((-1), M))
    else
    ((rd M 18 16 y2).bind fun v1 =>
    jn (fun (M3 : Mem) => fX1_lineFor_L2 K54 z1 n (y2 + 1) M3) fun (J2 : (Mem) → Option (Int32 × Mem)) =>
    if v1 = z1 then
    ((rd M 20 16 y2).bind fun v4 =>
    (rd M 21 16 y2).bind fun v5 =>
    if v4 = v5 then
    (K54 y2 M)
    else
    ((rd M 20 16 y2).bind fun v6 =>
    (rd M 21 16 y2).bind fun v7 =>
    (fX1_worked v6 v7 M).bind fun r8 =>
    if r8.1 = 0 then
    (J2 r8.2)
    else
    (K54 y2 r8.2)))
    else
    (J2 M))
def fX1_lineFor (p1 : Int32) (M : Mem) : Option (Int32 × Mem) :=
  fX1_lineFor_L2 (fun (e9 : Int32) (M10 : Mem) =>
  some (e9, M10)) p1 FU 0 M
def fX0_withoutLaw (p1 : Int32) (M : Mem) : Option (Int32) :=
  if p1 = 0 then
  ((rd M 23 10 0).bind fun v4 =>
  (rd M 23 10 4).bind fun v5 =>
  some ((700 + (50 * v4)) - (30 * v5)))
  else
  (if p1 = 1 then
  ((rd M 23 10 4).bind fun v2 =>
  (rd M 23 10 5).bind fun v3 =>
  some ((v2 / 2) + (v3 / 2)))
  else
  ((rd M 23 10 1).bind fun v1 =>
  some v1))
def fX1_valueOf (p1 : Int32) (M : Mem) : Option (Int32 × Mem) :=
  if p1 < 0 then
  (some (0, M))
  else
  (if (M 17 0) ≤ p1 then
  (some (0, M))
  else
  ((rd M 19 16 p1).bind fun v1 =>
  (rd M 20 16 p1).bind fun v2 =>
  (fX1_worked v1 v2 M).bind fun r3 =>
  some (r3.1, r3.2)))
def fX0_asked (p1 : Int32) (k2 : Nat) (p3 : Int32) (p4 : Int32) (p5 : Int32) (M : Mem) : Option (Int32 × Mem) :=
  if (fX9_hasBargain k2 p3 M) = 0 then
  (some (0, M))
  else
  ((fX9_whoIs k2 p3 p4 M).bind fun v1 =>
  bnd (fX9_hasPerson k2 v1 M : Int32) fun x2 =>
  jn (fun (t4 : Int32) => (wr M 23 10 0 t4).bind fun M5 =>
  jn (fun (t7 : Int32) => (wr M5 23 10 7 t7).bind fun M8 =>
  jn (fun (t10 : Int32) => (wr M8 23 10 8 t10).bind fun M11 =>
  (wr M11 23 10 1 p5).bind fun M12 =>
  (rd M12 (k2 + 6) 14 p3).bind fun v13 =>
  (wr M12 23 10 2 v13).bind fun M14 =>
  (rd M14 (k2 + 7) 14 p3).bind fun v15 =>
  (wr M14 23 10 3 v15).bind fun M16 =>
  (wr M16 23 10 4 (M16 k2 1)).bind fun M17 =>
  (wr M17 23 10 5 (M17 k2 2)).bind fun M18 =>
  (fX0_hearersOf p3 M18).bind fun v19 =>
  (wr M18 23 10 6 (fJ6_bitCount_0f7a4 v19)).bind fun M20 =>
  (wr M20 23 10 9 (M20 k2 3)).bind fun M21 =>
  (fX1_lineFor p1 M21).bind fun r22 =>
  jn (fun (t24 : Int32) (M25 : Mem) => jn (fun (t27 : Int32) => some (jmax 0 (jmin t27 t24), M25)) fun (J26 : (Int32) → Option (Int32 × Mem)) =>
  if p1 = 0 then
  (J26 1000)
  else
  (J26 9)) fun (J23 : (Int32) → (Mem) → Option (Int32 × Mem)) =>
  if r22.1 = (-1) then
  ((fX0_withoutLaw p1 r22.2).bind fun v29 =>
  J23 v29 r22.2)
  else
  ((fX1_valueOf r22.1 r22.2).bind fun r28 =>
  J23 r28.1 r28.2)) fun (J9 : (Int32) → Option (Int32 × Mem)) =>
  if x2 = 0 then
  (J9 0)
  else
  ((rd M8 (k2 + 2) 12 v1).bind fun v30 =>
  J9 v30)) fun (J6 : (Int32) → Option (Int32 × Mem)) =>
  if x2 = 0 then
  (J6 0)
  else
  ((rd M5 (k2 + 3) 12 v1).bind fun v31 =>
  J6 v31)) fun (J3 : (Int32) → Option (Int32 × Mem)) =>
  if x2 = 0 then
  (J3 0)
  else
  ((rd M (k2 + 1) 12 v1).bind fun v32 =>
  J3 v32))
def fX9_drawn (k0 : Nat) (p1 : Int32) (M : Mem) : Option (Int32 × Mem) :=
  bnd (mu M k0 0 ((1664525 * (M k0 0)) + 1013904223)) fun M1 =>
  if p1 ≤ 0 then
  (some (0, M1))
  else
  (if p1 = 0 then none else
  some (jrem (jushr (M1 k0 0) 8) p1, M1))
def fX3_append (k0 : Nat) (p1 : Int32) (p2 : Int32) (p3 : Int32) (p4 : Int32) (M : Mem) : Option (Mem) :=
  if (M k0 1) ≤ (M k0 0) then
  (some M)
  else
  ((wr M (k0 + 1) (kn (k0 + 1)) (M k0 0) p1).bind fun M1 =>
  (wr M1 (k0 + 2) (kn (k0 + 2)) (M1 k0 0) p2).bind fun M2 =>
  (wr M2 (k0 + 3) (kn (k0 + 3)) (M2 k0 0) p3).bind fun M3 =>
  (wr M3 (k0 + 4) (kn (k0 + 4)) (M3 k0 0) p4).bind fun M4 =>
  bnd (mu M4 k0 0 ((M4 k0 0) + 1)) fun M5 =>
  some M5)
def fX0_note (k1 : Nat) (p2 : Int32) (p3 : Int32) (p4 : Int32) (p5 : Int32) (M : Mem) : Option (Mem) :=
  if p5 = 0 then
  ((fX3_append 12 (M k1 3) p2 p3 p4 M).bind fun M1 =>
  some M1)
  else
  (some M)
def fX0_twist_L39 (K151 : Mem → Option (Int32 × Mem)) (K112 : Int32 → Mem → Option (Int32 × Mem)) (k1 : Nat) (z2 : Int32) (z3 : Int32) (z4 : Int32) : Nat → Int32 → Mem → Option (Int32 × Mem)
  | 0, _, _ => none
  | n + 1, y6, M =>
    (rd M (k1 + 6) 14 z2).bind fun v4 =>
    if v4 < y6 then
    (K151 M)
    else
    ((fX0_asked 0 k1 z2 z3 y6 M).bind fun r5 =>
    jn (fun (t7 : Int32) (M8 : Mem) => if t7 = 0 then
    (K112 y6 M8)
    else
    (fX0_twist_L39 K151 K112 k1 z2 z3 z4 n (y6 + 1) M8)) fun (J6 : (Int32) → (Mem) → Option (Int32 × Mem)) =>
    if z4 = 0 then
    (jn (fun (M10 : Mem) => J6 0 M10) fun (J9 : (Mem) → Option (Int32 × Mem)) =>
    if r5.1 ≤ 0 then
    (J9 r5.2)
    else
    ((fX9_drawn k1 1000 r5.2).bind fun r11 =>
    if r5.1 ≤ r11.1 then
    (J9 r11.2)
    else
    (J6 1 r11.2)))
    else
    (if r5.1 < 500 then
    (J6 0 r5.2)
    else
    (J6 1 r5.2)))
def fX0_twist (k1 : Nat) (p2 : Int32) (p3 : Int32) (p4 : Int32) (M : Mem) : Option (Int32 × Mem) :=
  (fX9_whoIs k1 p2 p3 M).bind fun v1 =>
  (fX9_isOpen k1 p2 M).bind fun v2 =>
  if v2 = 0 then
  (some (0, M))
  else
  ((fX9_hasSaid k1 p2 p3 M).bind fun v3 =>
  if v3 = 0 then
  (if (fX9_hasPerson k1 v1 M) = 0 then
  (some (0, M))
  else
  (fX0_twist_L39 (fun (M12 : Mem) =>
  (rd M12 (k1 + 8) 14 p2).bind fun v13 =>
  (wr M12 (k1 + 8) 14 p2 (v13 ||| (jshl 1 p3))).bind fun M14 =>
  (fX0_note k1 0 p2 v1 p4 M14).bind fun M15 =>
  (fX9_whoIs k1 p2 (1 - p3) M15).bind fun v16 =>
  (rd M15 (k1 + 8) 14 p2).bind fun v17 =>
  if v17 = 3 then
  (if (fX9_hasPerson k1 v16 M15) = 0 then
  (some (0, M15))
  else
  ((wr M15 (k1 + 9) 14 p2 1).bind fun M18 =>
  (rd M18 (k1 + 2) 12 v1).bind fun v19 =>
  (wr M18 (k1 + 2) 12 v1 (v19 + 1)).bind fun M20 =>
  (rd M20 (k1 + 2) 12 v16).bind fun v21 =>
  (wr M20 (k1 + 2) 12 v16 (v21 + 1)).bind fun M22 =>
  (rd M22 (k1 + 6) 14 p2).bind fun v23 =>
  (fX0_note k1 2 p2 v23 p4 M22).bind fun M24 =>
  some (1, M24)))
  else
  (some (0, M15))) (fun (e25 : Int32) (M26 : Mem) =>
  (rd M26 (k1 + 3) 12 v1).bind fun v27 =>
  (fX0_asked 2 k1 p2 p3 e25 M26).bind fun r28 =>
  (wr r28.2 (k1 + 3) 12 v1 (v27 + r28.1)).bind fun M29 =>
  (fX0_note k1 1 p2 e25 p4 M29).bind fun M30 =>
  some (0, M30)) k1 p2 p3 p4 FU 1 M))
  else
  (some (0, M)))
def fX9_makeClear (k0 : Nat) (p1 : Int32) (M : Mem) : Option (Mem) :=
  (fX9_canClear k0 p1 M).bind fun v1 =>
  if v1 = 0 then
  (some M)
  else
  ((wr M (k0 + 7) 14 p1 9).bind fun M2 =>
  (wr M2 (k0 + 9) 14 p1 0).bind fun M3 =>
  some M3)
def fX0_blurAway (k1 : Nat) (p2 : Int32) (p3 : Int32) (M : Mem) : Option (Mem) :=
  (fX9_isOpen k1 p2 M).bind fun v1 =>
  if v1 = 0 then
  (some M)
  else
  ((rd M (k1 + 8) 14 p2).bind fun v2 =>
  (fX0_note k1 3 p2 (fJ6_bitCount_0f7a4 v2) p3 M).bind fun M3 =>
  (wr M3 (k1 + 7) 14 p2 0).bind fun M4 =>
  (wr M4 (k1 + 9) 14 p2 2).bind fun M5 =>
  (wr M5 (k1 + 8) 14 p2 0).bind fun M6 =>
  some M6)
def fX11_act (p1 : Int32) (p2 : Int32) (M : Mem) : Option (Int32 × Mem) :=
  (fX11_canAct p1 p2 M).bind fun v1 =>
  if v1 = 0 then
  (some (0, M))
  else
  ((fX6_keep (M 12 0) M).bind fun M2 =>
  if 1 < p1 then
  (if p1 = 2 then
  ((fX9_makeClear 2 p2 M2).bind fun M6 =>
  some (1, M6))
  else
  (if p1 = 3 then
  ((fX0_blurAway 2 p2 0 M2).bind fun M5 =>
  some (1, M5))
  else
  ((rd M2 5 12 p2).bind fun v3 =>
  (wr M2 5 12 p2 (v3 - 1)).bind fun M4 =>
  some (1, M4))))
  else
  ((fX0_twist 2 p2 p1 0 M2).bind fun r7 =>
  some (1, r7.2)))
def fX12_has (p1 : Int32) (p2 : Int32) : Int32 :=
  if ((jshr p1 p2) &&& 1) = 1 then
  (1)
  else
  (0)
def fX12_canHop (p1 : Int32) (p2 : Int32) (M : Mem) : Option (Int32) :=
  (rd M 199 83 (69 + p1)).bind fun v1 =>
  if v1 = 0 then
  ((rd M 199 83 (55 + p1)).bind fun v2 =>
  if (fX12_has v2 p2) = 0 then
  (some 1)
  else
  (some 0))
  else
  (some 0)
def fX12_canAct (p1 : Int32) (p2 : Int32) (M : Mem) : Option (Int32) :=
  if p1 = 4 then
  (if (fX12_isPerson p2 M) = 0 then
  (some 0)
  else
  ((rd M 199 83 (29 + p2)).bind fun v7 =>
  if v7 ≤ 0 then
  (some 0)
  else
  (some 1)))
  else
  (if (fX12_isBargain p2 M) = 0 then
  (some 0)
  else
  (jn ((fX12_canHop p2 p1 M).bind fun v2 =>
  if v2 = 0 ∨ v2 = 1 then some v2 else none) fun (J1 : Option (Int32)) =>
  if p1 = 0 then
  (J1)
  else
  (if p1 = 1 then
  (J1)
  else
  (jn (if p1 = 3 then
  ((rd M 199 83 (69 + p2)).bind fun v4 =>
  if v4 = 0 then
  (some 1)
  else
  (some 0))
  else
  (some 0)) fun (J3 : Option (Int32)) =>
  if p1 = 2 then
  ((rd M 199 83 (69 + p2)).bind fun v5 =>
  if v5 = 1 then
  (J3)
  else
  ((rd M 199 83 (41 + p2)).bind fun v6 =>
  if v6 < 9 then
  (some 1)
  else
  (J3)))
  else
  (J3)))))
def fX12_keepsAhead_L55 (K87 : Mem → Option (Mem)) : Nat → Int32 → Mem → Option (Mem)
  | 0, _, _ => none
  | n + 1, y1, M =>
    if 83 ≤ y1 then
    (K87 M)
    else
    ((rd M 199 83 y1).bind fun v3 =>
    (wr M 200 498 ((83 * (M 198 3)) + y1) v3).bind fun M4 =>
    fX12_keepsAhead_L55 K87 n (y1 + 1) M4)
def fX12_keepsAhead_L21 (K53 : Mem → Option (Mem)) : Nat → Int32 → Mem → Option (Mem)
  | 0, _, _ => none
  | n + 1, y1, M =>
    if (83 * (M 198 3)) ≤ y1 then
    (K53 M)
    else
    ((rd M 200 498 (y1 + 83)).bind fun v8 =>
    (wr M 200 498 y1 v8).bind fun M9 =>
    fX12_keepsAhead_L21 K53 n (y1 + 1) M9)
def fX12_keepsAhead  (M : Mem) : Option (Mem) :=
  jn (fun (M2 : Mem) => fX12_keepsAhead_L55 (fun (M5 : Mem) =>
  bnd (mu M5 198 3 ((M5 198 3) + 1)) fun M6 =>
  some M6) FU 0 M2) fun (J1 : (Mem) → Option (Mem)) =>
  if (M 198 3) = 6 then
  (bnd (mu M 198 3 ((M 198 3) - 1)) fun M7 =>
  fX12_keepsAhead_L21 (fun (M10 : Mem) =>
  J1 M10) FU 0 M7)
  else
  (J1 M)
def fX12_hopperOf (p1 : Int32) (p2 : Int32) (M : Mem) : Option (Int32) :=
  if p2 = 0 then
  ((rd M 202 14 p1).bind fun v2 =>
  some v2)
  else
  ((rd M 203 14 p1).bind fun v1 =>
  some v1)
def fX12_onesOf_L4  : Nat → Int32 → Int32 → Option (Int32)
  | 0, _, _ => none
  | n + 1, y2, y3 =>
    if y3 = 0 then
    (some y2)
    else
    (bnd (y2 + 1 : Int32) fun x1 =>
    bnd (y3 &&& (y3 - 1) : Int32) fun x2 =>
    fX12_onesOf_L4 n x1 x2)
def fX12_onesOf (p1 : Int32) : Option (Int32) :=
  fX12_onesOf_L4 FU 0 p1
def fX12_asks (p1 : Int32) (p2 : Int32) (p3 : Int32) (M : Mem) : Option (Mem) :=
  jn (fun (t2 : Int32) => (wr M 219 10 0 t2).bind fun M3 =>
  (wr M3 219 10 1 p3).bind fun M4 =>
  (rd M4 204 14 p1).bind fun v5 =>
  (wr M4 219 10 2 v5).bind fun M6 =>
  (rd M6 199 83 (41 + p1)).bind fun v7 =>
  (wr M6 219 10 3 v7).bind fun M8 =>
  (rd M8 199 83 3).bind fun v9 =>
  (wr M8 219 10 4 v9).bind fun M10 =>
  (rd M10 199 83 4).bind fun v11 =>
  (wr M10 219 10 5 v11).bind fun M12 =>
  (rd M12 218 28 p1).bind fun v13 =>
  (fX12_onesOf v13).bind fun v14 =>
  (wr M12 219 10 6 v14).bind fun M15 =>
  jn (fun (t17 : Int32) => (wr M15 219 10 7 t17).bind fun M18 =>
  jn (fun (t20 : Int32) => (wr M18 219 10 8 t20).bind fun M21 =>
  (rd M21 199 83 0).bind fun v22 =>
  (wr M21 219 10 9 v22).bind fun M23 =>
  some M23) fun (J19 : (Int32) → Option (Mem)) =>
  if p2 = (-1) then
  (J19 0)
  else
  ((rd M18 199 83 (17 + p2)).bind fun v24 =>
  J19 v24)) fun (J16 : (Int32) → Option (Mem)) =>
  if p2 = (-1) then
  (J16 0)
  else
  ((rd M15 199 83 (29 + p2)).bind fun v25 =>
  J16 v25)) fun (J1 : (Int32) → Option (Mem)) =>
  if p2 = (-1) then
  (J1 0)
  else
  ((rd M 199 83 (5 + p2)).bind fun v26 =>
  J1 v26)
def fX12_twoOf (p1 : Int32) (p2 : Int32) (p3 : Int32) : Option (Int32) :=
  if p1 = 2 then
  (some (p2 + p3))
  else
  (if p1 = 3 then
  (some (p2 - p3))
  else
  (if p1 = 4 then
  (some (p2 * p3))
  else
  (if p1 = 5 then
  (if p3 = 0 then none else
  some (p2 / p3))
  else
  (if p1 = 6 then
  (if p3 ≤ p2 then
  (some 0)
  else
  (some 1))
  else
  (if p1 = 7 then
  (if p2 = p3 then
  (some 1)
  else
  (some 0))
  else
  (if p1 = 8 then
  (if p2 ≤ p3 then
  (some 0)
  else
  (some 1))
  else
  (if p1 = 10 then
  (some (p2 * p3))
  else
  (if (p2 + p3) ≤ 0 then
  (some 0)
  else
  (some 1)))))))))
def fX12_runs_L12 (z1 : Int32) (z3 : Int32) : Nat → Int32 → Int32 → Mem → Option (Int32 × Mem)
  | 0, _, _, _ => none
  | n + 1, y4, y5, M =>
    if ((400 * z1) + z3) ≤ y5 then
    ((rd M 220 420 0).bind fun v2 =>
    some (v2, M))
    else
    ((rd M 213 1200 y5).bind fun v3 =>
    jn (fun (a5 : Int32) (M6 : Mem) => fX12_runs_L12 z1 z3 n a5 (y5 + 1) M6) fun (J4 : (Int32) → (Mem) → Option (Int32 × Mem)) =>
    jn ((rd M 213 1200 y5).bind fun v8 =>
    jn (fun (t10 : Int32) => (wr M 220 420 y4 t10).bind fun M11 =>
    bnd (y4 + 1 : Int32) fun x12 =>
    J4 x12 M11) fun (J9 : (Int32) → Option (Int32 × Mem)) =>
    if v8 = 0 then
    ((rd M 214 1200 y5).bind fun v15 =>
    J9 v15)
    else
    ((rd M 214 1200 y5).bind fun v13 =>
    (rd M 219 10 v13).bind fun v14 =>
    J9 v14)) fun (J7 : Option (Int32 × Mem)) =>
    if v3 = 0 then
    (J7)
    else
    ((rd M 213 1200 y5).bind fun v16 =>
    if v16 = 1 then
    (J7)
    else
    ((rd M 213 1200 y5).bind fun v17 =>
    if v17 = 9 then
    ((rd M 220 420 (y4 - 1)).bind fun v24 =>
    (wr M 220 420 (y4 - 1) (1 - v24)).bind fun M25 =>
    J4 y4 M25)
    else
    (bnd (y4 - 1 : Int32) fun x18 =>
    (rd M 213 1200 y5).bind fun v19 =>
    (rd M 220 420 (x18 - 1)).bind fun v20 =>
    (rd M 220 420 x18).bind fun v21 =>
    (fX12_twoOf v19 v20 v21).bind fun v22 =>
    (wr M 220 420 (x18 - 1) v22).bind fun M23 =>
    J4 x18 M23))))
def fX12_runs (p1 : Int32) (p2 : Int32) (p3 : Int32) (M : Mem) : Option (Int32 × Mem) :=
  bnd ((400 * p1) + p2 : Int32) fun x1 =>
  fX12_runs_L12 p1 p3 FU 0 x1 M
def fX12_lineOf_L2 (K57 : Int32 → Mem → Option (Int32 × Mem)) (z1 : Int32) : Nat → Int32 → Mem → Option (Int32 × Mem)
  | 0, _, _ => none
  | n + 1, y2, M =>
    (rd M 208 2 0).bind fun v1 =>
    if v1 ≤ y2 then
    (some ((-1), M))
    else
    ((rd M 209 48 y2).bind fun v2 =>
    jn (fun (M4 : Mem) => fX12_lineOf_L2 K57 z1 n (y2 + 1) M4) fun (J3 : (Mem) → Option (Int32 × Mem)) =>
    if v2 = z1 then
    ((rd M 211 48 y2).bind fun v5 =>
    (rd M 212 48 y2).bind fun v6 =>
    if v5 = v6 then
    (K57 y2 M)
    else
    ((rd M 211 48 y2).bind fun v7 =>
    (rd M 212 48 y2).bind fun v8 =>
    (fX12_runs 0 v7 v8 M).bind fun r9 =>
    if r9.1 = 0 then
    (J3 r9.2)
    else
    (K57 y2 r9.2)))
    else
    (J3 M))
def fX12_lineOf (p1 : Int32) (M : Mem) : Option (Int32 × Mem) :=
  fX12_lineOf_L2 (fun (e10 : Int32) (M11 : Mem) =>
  some (e10, M11)) p1 FU 0 M
def fX12_held (p1 : Int32) (p2 : Int32) (p3 : Int32) : Int32 :=
  if p2 ≤ p1 then
  (if p1 ≤ p3 then
  (p1)
  else
  (p3))
  else
  (p2)
def fX12_lawTells (p1 : Int32) (p2 : Int32) (p3 : Int32) (M : Mem) : Option (Int32 × Mem) :=
  (fX12_lineOf p1 M).bind fun r1 =>
  jn (fun (t3 : Int32) (M4 : Mem) => some (fX12_held t3 0 p3, M4)) fun (J2 : (Int32) → (Mem) → Option (Int32 × Mem)) =>
  if r1.1 = (-1) then
  (J2 p2 r1.2)
  else
  ((rd r1.2 210 48 r1.1).bind fun v5 =>
  (rd r1.2 211 48 r1.1).bind fun v6 =>
  (fX12_runs 0 v5 v6 r1.2).bind fun r7 =>
  J2 r7.1 r7.2)
def fX12_landsOn (p1 : Int32) (p2 : Int32) (p3 : Int32) (M : Mem) : Option (Int32 × Mem) :=
  (fX12_asks p1 p2 p3 M).bind fun M1 =>
  (rd M1 219 10 0).bind fun v2 =>
  (rd M1 219 10 4).bind fun v3 =>
  (fX12_lawTells 0 ((700 + (50 * v2)) - (30 * v3)) 1000 M1).bind fun r4 =>
  some (r4.1, r4.2)
def fX12_draw (p1 : Int32) (M : Mem) : Option (Int32 × Mem) :=
  (rd M 199 83 1).bind fun v1 =>
  (wr M 199 83 1 ((1664525 * v1) + 1013904223)).bind fun M2 =>
  (rd M2 199 83 1).bind fun v3 =>
  if p1 = 0 then none else
  some (jrem (jushr v3 8) p1, M2)
def fX12_happens (p1 : Int32) (M : Mem) : Option (Int32 × Mem) :=
  if (M 198 5) = 0 then
  (if p1 ≤ 0 then
  (some (0, M))
  else
  ((fX12_draw 1000 M).bind fun r1 =>
  if p1 ≤ r1.1 then
  (some (0, r1.2))
  else
  (some (1, r1.2))))
  else
  (if (2 * p1) < 1000 then
  (some (0, M))
  else
  (some (1, M)))
def fX12_costsOn (p1 : Int32) (p2 : Int32) (p3 : Int32) (M : Mem) : Option (Int32 × Mem) :=
  (fX12_asks p1 p2 p3 M).bind fun M1 =>
  (fX12_lawTells 2 p3 9 M1).bind fun r2 =>
  some (r2.1, r2.2)
def fX12_notes (p1 : Int32) (p2 : Int32) (p3 : Int32) (M : Mem) : Option (Mem) :=
  if (M 198 5) = 0 then
  ((rd M 199 83 2).bind fun v1 =>
  if v1 = 150 then
  (some M)
  else
  ((rd M 199 83 2).bind fun v2 =>
  bnd (4 * v2 : Int32) fun x3 =>
  (rd M 199 83 0).bind fun v4 =>
  (wr M 205 600 x3 v4).bind fun M5 =>
  (wr M5 205 600 (x3 + 1) p1).bind fun M6 =>
  (wr M6 205 600 (x3 + 2) p2).bind fun M7 =>
  (wr M7 205 600 (x3 + 3) p3).bind fun M8 =>
  (rd M8 199 83 2).bind fun v9 =>
  (wr M8 199 83 2 (v9 + 1)).bind fun M10 =>
  some M10))
  else
  (some M)
def fX12_hopsOver_L10 (K82 : Mem → Option (Int32 × Mem)) (K39 : Int32 → Mem → Option (Int32 × Mem)) (z1 : Int32) (z3 : Int32) : Nat → Int32 → Mem → Option (Int32 × Mem)
  | 0, _, _ => none
  | n + 1, y4, M =>
    (rd M 204 14 z1).bind fun v2 =>
    if v2 < y4 then
    (K82 M)
    else
    ((fX12_landsOn z1 z3 y4 M).bind fun r3 =>
    (fX12_happens r3.1 r3.2).bind fun r4 =>
    if r4.1 = 0 then
    (K39 y4 r4.2)
    else
    (fX12_hopsOver_L10 K82 K39 z1 z3 n (y4 + 1) r4.2))
def fX12_hopsOver (p1 : Int32) (p2 : Int32) (M : Mem) : Option (Int32 × Mem) :=
  (fX12_hopperOf p1 p2 M).bind fun v1 =>
  fX12_hopsOver_L10 (fun (M5 : Mem) =>
  (rd M5 199 83 (55 + p1)).bind fun v6 =>
  (wr M5 199 83 (55 + p1) (v6 ||| (jshl 1 p2))).bind fun M7 =>
  (fX12_notes 0 p1 v1 M7).bind fun M8 =>
  (rd M8 199 83 (55 + p1)).bind fun v9 =>
  if v9 = 3 then
  ((wr M8 199 83 (69 + p1) 1).bind fun M10 =>
  (rd M10 202 14 p1).bind fun v11 =>
  (rd M10 202 14 p1).bind fun v12 =>
  (rd M10 199 83 (17 + v12)).bind fun v13 =>
  (wr M10 199 83 (17 + v11) (v13 + 1)).bind fun M14 =>
  (rd M14 203 14 p1).bind fun v15 =>
  (rd M14 203 14 p1).bind fun v16 =>
  (rd M14 199 83 (17 + v16)).bind fun v17 =>
  (wr M14 199 83 (17 + v15) (v17 + 1)).bind fun M18 =>
  (rd M18 204 14 p1).bind fun v19 =>
  (fX12_notes 2 p1 v19 M18).bind fun M20 =>
  some (1, M20))
  else
  (some (0, M8))) (fun (e21 : Int32) (M22 : Mem) =>
  (rd M22 199 83 (29 + v1)).bind fun v23 =>
  (fX12_costsOn p1 v1 e21 M22).bind fun r24 =>
  (wr r24.2 199 83 (29 + v1) (v23 + r24.1)).bind fun M25 =>
  (fX12_notes 1 p1 e21 M25).bind fun M26 =>
  some (0, M26)) p1 v1 FU 1 M
def fX12_isCleared (p1 : Int32) (M : Mem) : Option (Mem) :=
  (rd M 199 83 (69 + p1)).bind fun v1 =>
  if v1 = 1 then
  (some M)
  else
  ((wr M 199 83 (41 + p1) 9).bind fun M2 =>
  (wr M2 199 83 (69 + p1) 0).bind fun M3 =>
  some M3)
def fX12_isBlurred (p1 : Int32) (M : Mem) : Option (Mem) :=
  (rd M 199 83 (55 + p1)).bind fun v1 =>
  (fX12_onesOf v1).bind fun v2 =>
  (fX12_notes 3 p1 v2 M).bind fun M3 =>
  (wr M3 199 83 (41 + p1) 0).bind fun M4 =>
  (wr M4 199 83 (69 + p1) 2).bind fun M5 =>
  (wr M5 199 83 (55 + p1) 0).bind fun M6 =>
  some M6
def fX12_act (p1 : Int32) (p2 : Int32) (M : Mem) : Option (Int32 × Mem) :=
  bnd (mu M 198 0 0) fun M1 =>
  (fX12_canAct p1 p2 M1).bind fun v2 =>
  if v2 = 0 then
  (some (0, M1))
  else
  ((fX12_keepsAhead M1).bind fun M3 =>
  jn (fun (M5 : Mem) => jn (fun (M7 : Mem) => jn (fun (M9 : Mem) => if p1 = 4 then
  ((rd M9 199 83 (29 + p2)).bind fun v10 =>
  (wr M9 199 83 (29 + p2) (v10 - 1)).bind fun M11 =>
  some (1, M11))
  else
  (some (1, M9))) fun (J8 : (Mem) → Option (Int32 × Mem)) =>
  if p1 = 3 then
  ((fX12_isBlurred p2 M7).bind fun M12 =>
  J8 M12)
  else
  (J8 M7)) fun (J6 : (Mem) → Option (Int32 × Mem)) =>
  if p1 = 2 then
  ((fX12_isCleared p2 M5).bind fun M13 =>
  J6 M13)
  else
  (J6 M5)) fun (J4 : (Mem) → Option (Int32 × Mem)) =>
  if 2 ≤ p1 then
  (J4 M3)
  else
  ((fX12_hopsOver p2 p1 M3).bind fun r14 =>
  J4 r14.2))
def fX0_tellEvening (k1 : Nat) (p2 : Int32) (M : Mem) : Option (Mem) :=
  (rd M 33 16 p2).bind fun v1 =>
  (rd M 34 16 p2).bind fun v2 =>
  (rd M 32 16 p2).bind fun v3 =>
  swt v3 0 [(bnd (mu M k1 1 v2) fun M4 =>
  some M4),
  (bnd (mu M k1 2 v2) fun M5 =>
  some M5),
  ((fX9_makeClear k1 v1 M).bind fun M6 =>
  some M6)] (if (fX9_hasPerson k1 v1 M) = 0 then
  (some M)
  else
  ((wr M (k1 + 1) 12 v1 v2).bind fun M7 =>
  some M7))
def fX0_blurSome (k1 : Nat) (p2 : Int32) (p3 : Int32) (M : Mem) : Option (Mem) :=
  (fX9_isOpen k1 p2 M).bind fun v1 =>
  if v1 = 0 then
  (some M)
  else
  ((fX0_asked 1 k1 p2 (-1) 0 M).bind fun r2 =>
  (rd r2.2 (k1 + 7) 14 p2).bind fun v3 =>
  (wr r2.2 (k1 + 7) 14 p2 (jmax 0 (v3 - r2.1))).bind fun M4 =>
  (rd M4 (k1 + 7) 14 p2).bind fun v5 =>
  if v5 = 0 then
  ((fX0_blurAway k1 p2 p3 M4).bind fun M6 =>
  some M6)
  else
  (some M4))
def fX0_goDay_L2 (K41 : Mem → Option (Int32 × Mem)) (k1 : Nat) : Nat → Int32 → Mem → Option (Int32 × Mem)
  | 0, _, _ => none
  | n + 1, y3, M =>
    if (M 30 0) ≤ y3 then
    (K41 M)
    else
    ((rd M 31 16 y3).bind fun v1 =>
    jn (fun (M3 : Mem) => fX0_goDay_L2 K41 k1 n (y3 + 1) M3) fun (J2 : (Mem) → Option (Int32 × Mem)) =>
    if v1 = (M k1 3) then
    ((fX0_tellEvening k1 y3 M).bind fun M4 =>
    J2 M4)
    else
    (J2 M))
def fX0_goDay_L46 (K113 : Int32 → Mem → Option (Int32 × Mem)) (k1 : Nat) (z2 : Int32) : Nat → Int32 → Int32 → Mem → Option (Int32 × Mem)
  | 0, _, _, _ => none
  | n + 1, y3, y4, M =>
    if (M 25 0) ≤ y4 then
    (K113 y3 M)
    else
    ((rd M 26 16 y4).bind fun v6 =>
    jn (fun (a8 : Int32) (M9 : Mem) => fX0_goDay_L46 K113 k1 z2 n a8 (y4 + 1) M9) fun (J7 : (Int32) → (Mem) → Option (Int32 × Mem)) =>
    if v6 = (M k1 3) then
    ((rd M 28 16 y4).bind fun v10 =>
    (rd M 27 16 y4).bind fun v11 =>
    (fX0_twist k1 v10 v11 z2 M).bind fun r12 =>
    if r12.1 = 0 then
    (J7 y3 r12.2)
    else
    (J7 (y3 + 1) r12.2))
    else
    (J7 y3 M))
def fX0_goDay_L116 (K139 : Mem → Option (Int32 × Mem)) (k1 : Nat) (z2 : Int32) : Nat → Int32 → Mem → Option (Int32 × Mem)
  | 0, _, _ => none
  | n + 1, y4, M =>
    if (M k1 5) ≤ y4 then
    (K139 M)
    else
    ((fX0_blurSome k1 y4 z2 M).bind fun M15 =>
    fX0_goDay_L116 K139 k1 z2 n (y4 + 1) M15)
def fX0_goDay (k1 : Nat) (p2 : Int32) (M : Mem) : Option (Int32 × Mem) :=
  fX0_goDay_L2 (fun (M5 : Mem) =>
  fX0_goDay_L46 (fun (e13 : Int32) (M14 : Mem) =>
  fX0_goDay_L116 (fun (M16 : Mem) =>
  bnd (mu M16 k1 3 ((M16 k1 3) + 1)) fun M17 =>
  some (e13, M17)) k1 p2 FU 0 M14) k1 p2 FU 0 0 M5) k1 FU 0 M
def fX11_days_L37 (z1 : Int32) : Nat → Int32 → Int32 → Mem → Option (Int32 × Mem)
  | 0, _, _, _ => none
  | n + 1, y3, y4, M =>
    if z1 ≤ y4 then
    (some (y3, M))
    else
    ((fX6_keep (M 12 0) M).bind fun M1 =>
    (fX0_goDay 2 0 M1).bind fun r2 =>
    bnd (y3 + r2.1 : Int32) fun x3 =>
    fX11_days_L37 z1 n x3 (y4 + 1) r2.2)
def fX11_days (p1 : Int32) (M : Mem) : Option (Int32 × Mem) :=
  if (fX11_isWithin p1 1 60) = 0 then
  (some ((-1), M))
  else
  (if ((M 2 3) + p1) ≤ 9999 then
  (fX11_days_L37 p1 FU 0 0 M)
  else
  (some ((-1), M)))
def fX12_comes (p1 : Int32) (M : Mem) : Option (Mem) :=
  (rd M 217 128 (p1 + 1)).bind fun v1 =>
  (rd M 217 128 (p1 + 2)).bind fun v2 =>
  jn (fun (M4 : Mem) => jn (fun (M6 : Mem) => jn (fun (M8 : Mem) => if v1 = 3 then
  ((rd M8 217 128 (p1 + 3)).bind fun v9 =>
  (wr M8 199 83 (5 + v2) v9).bind fun M10 =>
  some M10)
  else
  (some M8)) fun (J7 : (Mem) → Option (Mem)) =>
  if v1 = 2 then
  ((fX12_isCleared v2 M6).bind fun M11 =>
  J7 M11)
  else
  (J7 M6)) fun (J5 : (Mem) → Option (Mem)) =>
  if v1 = 1 then
  ((wr M4 199 83 4 v2).bind fun M12 =>
  J5 M12)
  else
  (J5 M4)) fun (J3 : (Mem) → Option (Mem)) =>
  if v1 = 0 then
  ((wr M 199 83 3 v2).bind fun M13 =>
  J3 M13)
  else
  (J3 M)
def fX12_wipesOf (p1 : Int32) (M : Mem) : Option (Int32 × Mem) :=
  (fX12_asks p1 (-1) 0 M).bind fun M1 =>
  (rd M1 219 10 4).bind fun v2 =>
  (rd M1 219 10 5).bind fun v3 =>
  (fX12_lawTells 1 ((v2 / 2) + (v3 / 2)) 9 M1).bind fun r4 =>
  some (r4.1, r4.2)
def fX12_greater (p1 : Int32) (p2 : Int32) : Int32 :=
  if p1 ≤ p2 then
  (p2)
  else
  (p1)
def fX12_goesBy_L2 (K39 : Mem → Option (Int32 × Mem)) : Nat → Int32 → Mem → Option (Int32 × Mem)
  | 0, _, _ => none
  | n + 1, y1, M =>
    if (4 * (M 198 37)) ≤ y1 then
    (K39 M)
    else
    ((rd M 217 128 y1).bind fun v1 =>
    (rd M 199 83 0).bind fun v2 =>
    jn (fun (M4 : Mem) => bnd (y1 + 4 : Int32) fun x5 =>
    fX12_goesBy_L2 K39 n x5 M4) fun (J3 : (Mem) → Option (Int32 × Mem)) =>
    if v1 = v2 then
    ((fX12_comes y1 M).bind fun M6 =>
    J3 M6)
    else
    (J3 M))
def fX12_goesBy_L43 (K125 : Int32 → Mem → Option (Int32 × Mem)) : Nat → Int32 → Int32 → Mem → Option (Int32 × Mem)
  | 0, _, _, _ => none
  | n + 1, y1, y2, M =>
    if (3 * (M 198 35)) ≤ y2 then
    (K125 y1 M)
    else
    ((rd M 216 96 y2).bind fun v8 =>
    (rd M 199 83 0).bind fun v9 =>
    jn (fun (a11 : Int32) (M12 : Mem) => bnd (y2 + 3 : Int32) fun x13 =>
    fX12_goesBy_L43 K125 n a11 x13 M12) fun (J10 : (Int32) → (Mem) → Option (Int32 × Mem)) =>
    if v8 = v9 then
    ((rd M 216 96 (y2 + 1)).bind fun v14 =>
    (rd M 216 96 (y2 + 2)).bind fun v15 =>
    (fX12_canHop v14 v15 M).bind fun v16 =>
    if v16 = 0 then
    (J10 y1 M)
    else
    ((rd M 216 96 (y2 + 1)).bind fun v17 =>
    (rd M 216 96 (y2 + 2)).bind fun v18 =>
    (fX12_hopsOver v17 v18 M).bind fun r19 =>
    if r19.1 = 0 then
    (J10 y1 r19.2)
    else
    (bnd (y1 + 1 : Int32) fun x20 =>
    J10 x20 r19.2)))
    else
    (J10 y1 M))
def fX12_goesBy_L127 (K202 : Mem → Option (Int32 × Mem)) : Nat → Int32 → Mem → Option (Int32 × Mem)
  | 0, _, _ => none
  | n + 1, y2, M =>
    if (M 198 7) ≤ y2 then
    (K202 M)
    else
    ((rd M 199 83 (69 + y2)).bind fun v23 =>
    jn (fun (M25 : Mem) => fX12_goesBy_L127 K202 n (y2 + 1) M25) fun (J24 : (Mem) → Option (Int32 × Mem)) =>
    if v23 = 0 then
    ((rd M 199 83 (41 + y2)).bind fun v26 =>
    (fX12_wipesOf y2 M).bind fun r27 =>
    (wr r27.2 199 83 (41 + y2) (fX12_greater 0 (v26 - r27.1))).bind fun M28 =>
    (rd M28 199 83 (41 + y2)).bind fun v29 =>
    if v29 = 0 then
    ((fX12_isBlurred y2 M28).bind fun M30 =>
    J24 M30)
    else
    (J24 M28))
    else
    (J24 M))
def fX12_goesBy  (M : Mem) : Option (Int32 × Mem) :=
  fX12_goesBy_L2 (fun (M7 : Mem) =>
  fX12_goesBy_L43 (fun (e21 : Int32) (M22 : Mem) =>
  fX12_goesBy_L127 (fun (M31 : Mem) =>
  (rd M31 199 83 0).bind fun v32 =>
  (wr M31 199 83 0 (v32 + 1)).bind fun M33 =>
  some (e21, M33)) FU 0 M22) FU 0 0 M7) FU 0 M
def fX12_days_L36 (z1 : Int32) : Nat → Int32 → Int32 → Mem → Option (Int32 × Mem)
  | 0, _, _, _ => none
  | n + 1, y2, y3, M =>
    if z1 ≤ y3 then
    (some (y2, M))
    else
    ((fX12_keepsAhead M).bind fun M3 =>
    (fX12_goesBy M3).bind fun r4 =>
    bnd (y2 + r4.1 : Int32) fun x5 =>
    fX12_days_L36 z1 n x5 (y3 + 1) r4.2)
def fX12_days (p1 : Int32) (M : Mem) : Option (Int32 × Mem) :=
  bnd (mu M 198 0 0) fun M1 =>
  if (fX12_isIn p1 1 60) = 0 then
  (some ((-1), M1))
  else
  ((rd M1 199 83 0).bind fun v2 =>
  if (v2 + p1) ≤ 9999 then
  (fX12_days_L36 p1 FU 0 0 M1)
  else
  (some ((-1), M1)))
def fX8_append_L3 (z1 : Int32) : Nat → Int32 → Mem → Option (Mem)
  | 0, _, _ => none
  | n + 1, y2, M =>
    if y2 < 0 then
    (some M)
    else
    (jn (fun (M2 : Mem) => fX8_append_L3 z1 n (y2 + (-8)) M2) fun (J1 : (Mem) → Option (Mem)) =>
    if 400 ≤ (M 178 1) then
    (J1 M)
    else
    ((wr M 179 400 (M 178 1) (ji2b (ji2b (jshr z1 y2)))).bind fun M3 =>
    bnd (mu M3 178 1 ((M3 178 1) + 1)) fun M4 =>
    J1 M4))
def fX8_append (p1 : Int32) (M : Mem) : Option (Mem) :=
  fX8_append_L3 p1 FU 24 M
def fX11_feed (p1 : Int32) (p2 : Int32) (p3 : Int32) (p4 : Int32) (p5 : Int32) (M : Mem) : Option (Int32 × Mem) :=
  if ((M 178 1) + 20) ≤ 400 then
  ((fX8_append p1 M).bind fun M1 =>
  (fX8_append p2 M1).bind fun M2 =>
  (fX8_append p3 M2).bind fun M3 =>
  (fX8_append p4 M3).bind fun M4 =>
  (fX8_append p5 M4).bind fun M5 =>
  some (M5 178 1, M5))
  else
  (some ((-1), M))
def fX12_types_L3 (z1 : Int32) : Nat → Int32 → Mem → Option (Mem)
  | 0, _, _ => none
  | n + 1, y2, M =>
    if y2 < 0 then
    (some M)
    else
    ((wr M 206 400 (M 198 13) ((jshr z1 y2) &&& 255)).bind fun M1 =>
    bnd (mu M1 198 13 ((M1 198 13) + 1)) fun M2 =>
    fX12_types_L3 z1 n (y2 + (-8)) M2)
def fX12_types (p1 : Int32) (M : Mem) : Option (Mem) :=
  fX12_types_L3 p1 FU 24 M
def fX12_feed (p1 : Int32) (p2 : Int32) (p3 : Int32) (p4 : Int32) (p5 : Int32) (M : Mem) : Option (Int32 × Mem) :=
  bnd (mu M 198 0 0) fun M1 =>
  if (M1 198 13) ≤ 380 then
  ((fX12_types p1 M1).bind fun M2 =>
  (fX12_types p2 M2).bind fun M3 =>
  (fX12_types p3 M3).bind fun M4 =>
  (fX12_types p4 M4).bind fun M5 =>
  (fX12_types p5 M5).bind fun M6 =>
  some (M6 198 13, M6))
  else
  (some ((-1), M1))
def fX11_end (p1 : Int32) (M : Mem) : Option (Int32 × Mem) :=
  if (fX11_isWithin p1 0 (M 178 1)) = 0 then
  (some (0, M))
  else
  (bnd (mu M 178 1 p1) fun M1 =>
  some (1, M1))
def fX12_end (p1 : Int32) (M : Mem) : Option (Int32 × Mem) :=
  bnd (mu M 198 0 0) fun M1 =>
  if (fX12_isIn p1 0 (M1 198 13)) = 0 then
  (some (0, M1))
  else
  (bnd (mu M1 198 13 p1) fun M2 =>
  some (1, M2))
def fX8_kindAt (p1 : Int32) (M : Mem) : Option (Int32) :=
  if p1 < 0 then
  (some 0)
  else
  (if (M 178 1) ≤ p1 then
  (some 0)
  else
  (if p1 < 400 then
  ((rd M 179 400 p1).bind fun v1 =>
  jn (jn (jn (if v1 = 32 then
  (some 4)
  else
  (if v1 = 10 then
  (some 4)
  else
  (some 3))) fun (J4 : Option (Int32)) =>
  if v1 < 48 then
  (J4)
  else
  (if 57 < v1 then
  (J4)
  else
  (some 2))) fun (J3 : Option (Int32)) =>
  if v1 < 65 then
  (J3)
  else
  (if 90 < v1 then
  (J3)
  else
  (some 1))) fun (J2 : Option (Int32)) =>
  if v1 < 97 then
  (J2)
  else
  (if v1 ≤ 122 then
  (some 1)
  else
  (J2)))
  else
  (some 0)))
def fX8_advance_L0 (K36 : Mem → Option (Mem)) : Nat → Mem → Option (Mem)
  | 0, _ => none
  | n + 1, M =>
    if (M 178 1) ≤ (M 178 6) then
    (K36 M)
    else
    ((fX8_kindAt (M 178 6) M).bind fun v1 =>
    if v1 = 4 then
    (bnd (mu M 178 6 ((M 178 6) + 1)) fun M2 =>
    fX8_advance_L0 K36 n M2)
    else
    (K36 M))
def fX8_advance_L110 (K181 : Mem → Option (Mem)) : Nat → Mem → Option (Mem)
  | 0, _ => none
  | n + 1, M =>
    if (M 178 4) = 3 then
    (K181 M)
    else
    (if (M 178 1) ≤ (M 178 6) then
    (K181 M)
    else
    ((fX8_kindAt (M 178 6) M).bind fun v11 =>
    if v11 = (M 178 4) then
    ((rd M 179 400 (M 178 6)).bind fun v12 =>
    bnd (mu M 178 7 ((((M 178 7) * 10) + v12) - 48)) fun M13 =>
    bnd (mu M13 178 6 ((M13 178 6) + 1)) fun M14 =>
    fX8_advance_L110 K181 n M14)
    else
    (K181 M)))
def fX8_advance  (M : Mem) : Option (Mem) :=
  fX8_advance_L0 (fun (M3 : Mem) =>
  bnd (mu M3 178 5 (M3 178 6)) fun M4 =>
  (fX8_kindAt (M4 178 6) M4).bind fun v5 =>
  bnd (mu M4 178 4 v5) fun M6 =>
  if (M6 178 4) = 0 then
  (some M6)
  else
  (jn (fun (t8 : Int32) => bnd (mu M6 178 7 t8) fun M9 =>
  bnd (mu M9 178 6 ((M9 178 6) + 1)) fun M10 =>
  fX8_advance_L110 (fun (M15 : Mem) =>
  if (M15 178 4) = 2 then
  (if ((M15 178 6) - (M15 178 5)) ≤ 4 then
  (some M15)
  else
  (bnd (mu M15 178 4 5) fun M16 =>
  some M16))
  else
  (some M15)) FU M10) fun (J7 : (Int32) → Option (Mem)) =>
  if (M6 178 4) = 2 then
  ((rd M6 179 400 (M6 178 6)).bind fun v18 =>
  J7 (v18 - 48))
  else
  ((rd M6 179 400 (M6 178 6)).bind fun v17 =>
  J7 v17))) FU M
def fX8_begin  (M : Mem) : Option (Mem) :=
  bnd (mu M 178 2 0) fun M1 =>
  bnd (mu M1 178 3 (-1)) fun M2 =>
  bnd (mu M2 178 6 0) fun M3 =>
  (fX8_advance M3).bind fun M4 =>
  some M4
def fX1_clear  (M : Mem) : Option (Mem) :=
  bnd (mu M 181 0 0) fun M1 =>
  bnd (mu M1 181 1 0) fun M2 =>
  some M2
def fX8_isWord_L28 (K75 : Option (Int32)) (w1 : Nat) (M : Mem) : Nat → Int32 → Option (Int32)
  | 0, _ => none
  | n + 1, y2 =>
    if (nI (slen w1)) ≤ y2 then
    (K75)
    else
    (if 400 ≤ ((M 178 5) + y2) then
    (K75)
    else
    ((rd M 179 400 ((M 178 5) + y2)).bind fun v1 =>
    (schr w1 y2).bind fun v2 =>
    if v1 = v2 then
    (fX8_isWord_L28 K75 w1 M n (y2 + 1))
    else
    (some 0)))
def fX8_isWord (w1 : Nat) (M : Mem) : Option (Int32) :=
  if (M 178 4) = 1 then
  (if ((M 178 6) - (M 178 5)) = (nI (slen w1)) then
  (fX8_isWord_L28 (some 1) w1 M FU 0)
  else
  (some 0))
  else
  (some 0)
def fX2_wordAtHand  (M : Mem) : Option (Int32) :=
  (fX8_isWord 0 M).bind fun v1 =>
  if v1 = 0 then
  ((fX8_isWord 1 M).bind fun v2 =>
  if v2 = 0 then
  ((fX8_isWord 2 M).bind fun v3 =>
  if v3 = 0 then
  (some (-1))
  else
  (some 2))
  else
  (some 1))
  else
  (some 0)
def fX8_refuse (p1 : Int32) (M : Mem) : Option (Int32 × Mem) :=
  bnd (mu M 178 2 p1) fun M1 =>
  bnd (mu M1 178 3 (M1 178 5)) fun M2 =>
  some (0, M2)
def fX1_put (p1 : Int32) (M : Mem) : Option (Mem) :=
  if 400 ≤ (M 181 1) then
  (some M)
  else
  ((wr M 186 400 (M 181 1) p1).bind fun M1 =>
  bnd (mu M1 181 1 ((M1 181 1) + 1)) fun M2 =>
  some M2)
def fX2_nameAtHand  (M : Mem) : Option (Int32) :=
  (fX8_isWord 3 M).bind fun v1 =>
  if v1 = 0 then
  ((fX8_isWord 4 M).bind fun v2 =>
  if v2 = 0 then
  ((fX8_isWord 5 M).bind fun v3 =>
  if v3 = 0 then
  ((fX8_isWord 6 M).bind fun v4 =>
  if v4 = 0 then
  ((fX8_isWord 7 M).bind fun v5 =>
  if v5 = 0 then
  ((fX8_isWord 8 M).bind fun v6 =>
  if v6 = 0 then
  ((fX8_isWord 9 M).bind fun v7 =>
  if v7 = 0 then
  ((fX8_isWord 10 M).bind fun v8 =>
  if v8 = 0 then
  ((fX8_isWord 11 M).bind fun v9 =>
  if v9 = 0 then
  ((fX8_isWord 12 M).bind fun v10 =>
  if v10 = 0 then
  (some (-1))
  else
  (some 9))
  else
  (some 8))
  else
  (some 7))
  else
  (some 6))
  else
  (some 5))
  else
  (some 4))
  else
  (some 3))
  else
  (some 2))
  else
  (some 1))
  else
  (some 0)
def fX2_readUnit (p2 : Int32) (M : Mem) : Option (Int32 × Mem) :=
  if (M 178 4) = 2 then
  (jn ((fX1_put (M 178 7) M).bind fun M8 =>
  (fX8_advance M8).bind fun M9 =>
  some (1, M9)) fun (J7 : Option (Int32 × Mem)) =>
  if p2 = 0 then
  (J7)
  else
  (if (M 178 7) = 0 then
  ((fX8_refuse 2 M).bind fun r10 =>
  if r10.1 = 0 ∨ r10.1 = 1 then some (r10.1, r10.2) else none)
  else
  (J7)))
  else
  (jn (fun (t2 : Int32) => if t2 = (-1) then
  ((fX8_refuse 1 M).bind fun r5 =>
  if r5.1 = 0 ∨ r5.1 = 1 then some (r5.1, r5.2) else none)
  else
  ((fX1_put (10000 + t2) M).bind fun M3 =>
  (fX8_advance M3).bind fun M4 =>
  some (1, M4))) fun (J1 : (Int32) → Option (Int32 × Mem)) =>
  if p2 = 0 then
  ((fX2_nameAtHand M).bind fun v6 =>
  J1 v6)
  else
  (J1 (-1)))
def fX8_isSign (p1 : Int32) (M : Mem) : Int32 :=
  if (M 178 4) = 3 then
  (if (M 178 7) = p1 then
  (1)
  else
  (0))
  else
  (0)
def fX8_passSign (p1 : Int32) (p2 : Int32) (M : Mem) : Option (Int32 × Mem) :=
  jn (bnd (M 178 7 : Int32) fun x2 =>
  (fX8_advance M).bind fun M3 =>
  some (x2, M3)) fun (J1 : Option (Int32 × Mem)) =>
  if (fX8_isSign p1 M) = 0 then
  (if (fX8_isSign p2 M) = 0 then
  (some (0, M))
  else
  (J1))
  else
  (J1)
def fX2_readSum_L7  : Nat → Int32 → Int32 → Int32 → Mem → Option (Int32 × Mem)
  | 0, _, _, _, _ => none
  | n + 1, y2, y3, y4, M =>
    if 400 ≤ y4 then
    (some (0, M))
    else
    (jn (fun (t2 : Int32) => (fX2_readUnit t2 M).bind fun r3 =>
    if r3.1 = 0 then
    (some (0, r3.2))
    else
    (jn (fun (M5 : Mem) => (fX8_passSign 42 47 M5).bind fun r6 =>
    jn (fun (a8 : Int32) (M9 : Mem) => fX2_readSum_L7 n r6.1 a8 (y4 + 1) M9) fun (J7 : (Int32) → (Mem) → Option (Int32 × Mem)) =>
    if r6.1 = 0 then
    (jn (fun (M11 : Mem) => (fX8_passSign 43 45 M11).bind fun r12 =>
    if r12.1 = 0 then
    (some (1, r12.2))
    else
    (J7 r12.1 r12.2)) fun (J10 : (Mem) → Option (Int32 × Mem)) =>
    if y3 = 0 then
    (J10 r6.2)
    else
    ((fX1_put (20000 + y3) r6.2).bind fun M13 =>
    J10 M13))
    else
    (J7 y3 r6.2)) fun (J4 : (Mem) → Option (Int32 × Mem)) =>
    if y2 = 0 then
    (J4 r3.2)
    else
    ((fX1_put (20000 + y2) r3.2).bind fun M14 =>
    J4 M14))) fun (J1 : (Int32) → Option (Int32 × Mem)) =>
    if y2 = 47 then
    (J1 1)
    else
    (J1 0))
def fX2_readSum  (M : Mem) : Option (Int32 × Mem) :=
  fX2_readSum_L7 FU 0 0 0 M
def fX8_passWord (w1 : Nat) (M : Mem) : Option (Int32 × Mem) :=
  (fX8_isWord w1 M).bind fun v1 =>
  if v1 = 0 then
  (if v1 = 0 ∨ v1 = 1 then some (v1, M) else none)
  else
  ((fX8_advance M).bind fun M2 =>
  if v1 = 0 ∨ v1 = 1 then some (v1, M2) else none)
def fX8_takeSign (p1 : Int32) (M : Mem) : Option (Int32 × Mem) :=
  if (fX8_isSign p1 M) = 0 then
  ((fX8_refuse 1 M).bind fun r2 =>
  if r2.1 = 0 ∨ r2.1 = 1 then some (r2.1, r2.2) else none)
  else
  ((fX8_advance M).bind fun M1 =>
  some (1, M1))
def hX2_readTest (rX2_readEither : Int32 → Mem → Option (Int32 × Mem)) (rX2_readTest : Int32 → Mem → Option (Int32 × Mem)) (p2 : Int32) (M : Mem) : Option (Int32 × Mem) :=
  (fX8_isWord 14 M).bind fun v1 =>
  jn (if p2 < 8 then
  ((fX8_advance M).bind fun M3 =>
  if v1 = 0 then
  ((rX2_readEither (p2 + 1) M3).bind fun r6 =>
  if r6.1 = 0 then
  (some (0, r6.2))
  else
  ((fX8_takeSign 41 r6.2).bind fun r7 =>
  if r7.1 = 0 then
  (some (0, r7.2))
  else
  (some (1, r7.2))))
  else
  ((rX2_readTest (p2 + 1) M3).bind fun r4 =>
  if r4.1 = 0 then
  (some (0, r4.2))
  else
  ((fX1_put 20110 r4.2).bind fun M5 =>
  some (1, M5))))
  else
  ((fX8_refuse 3 M).bind fun r8 =>
  if r8.1 = 0 ∨ r8.1 = 1 then some (r8.1, r8.2) else none)) fun (J2 : Option (Int32 × Mem)) =>
  if v1 = 0 then
  (if (fX8_isSign 40 M) = 0 then
  ((fX2_readSum M).bind fun r9 =>
  if r9.1 = 0 then
  (some (0, r9.2))
  else
  (jn (bnd (r9.2 178 7 : Int32) fun x11 =>
  (fX8_advance r9.2).bind fun M12 =>
  (fX2_readSum M12).bind fun r13 =>
  if r13.1 = 0 then
  (some (0, r13.2))
  else
  ((fX1_put (20000 + x11) r13.2).bind fun M14 =>
  some (1, M14))) fun (J10 : Option (Int32 × Mem)) =>
  if (fX8_isSign 60 r9.2) = 0 then
  (if (fX8_isSign 61 r9.2) = 0 then
  (if (fX8_isSign 62 r9.2) = 0 then
  ((fX8_refuse 1 r9.2).bind fun r15 =>
  if r15.1 = 0 ∨ r15.1 = 1 then some (r15.1, r15.2) else none)
  else
  (J10))
  else
  (J10))
  else
  (J10)))
  else
  (J2))
  else
  (J2)
def fX2_readEither_L8 (rX2_readEither : Int32 → Mem → Option (Int32 × Mem)) (rX2_readTest : Int32 → Mem → Option (Int32 × Mem)) (z2 : Int32) : Nat → Int32 → Int32 → Int32 → Mem → Option (Int32 × Mem)
  | 0, _, _, _, _ => none
  | n + 1, y3, y4, y5, M =>
    if 400 ≤ y5 then
    (some (0, M))
    else
    ((rX2_readTest z2 M).bind fun r1 =>
    if r1.1 = 0 then
    (some (0, r1.2))
    else
    (jn (fun (M3 : Mem) => (fX8_passWord 15 M3).bind fun r4 =>
    jn (fun (a6 : Int32) (M7 : Mem) => fX2_readEither_L8 rX2_readEither rX2_readTest z2 n r4.1 a6 (y5 + 1) M7) fun (J5 : (Int32) → (Mem) → Option (Int32 × Mem)) =>
    if r4.1 = 0 then
    (jn (fun (M9 : Mem) => (fX8_passWord 16 M9).bind fun r10 =>
    if r10.1 = 0 then
    (some (1, r10.2))
    else
    (J5 r10.1 r10.2)) fun (J8 : (Mem) → Option (Int32 × Mem)) =>
    if y4 = 0 then
    (J8 r4.2)
    else
    ((fX1_put 20111 r4.2).bind fun M11 =>
    J8 M11))
    else
    (J5 y4 r4.2)) fun (J2 : (Mem) → Option (Int32 × Mem)) =>
    if y3 = 0 then
    (J2 r1.2)
    else
    ((fX1_put 20097 r1.2).bind fun M12 =>
    J2 M12)))
def hX2_readEither (rX2_readEither : Int32 → Mem → Option (Int32 × Mem)) (rX2_readTest : Int32 → Mem → Option (Int32 × Mem)) (p2 : Int32) (M : Mem) : Option (Int32 × Mem) :=
  fX2_readEither_L8 rX2_readEither rX2_readTest p2 FU 0 0 0 M
def fX2_grp : Nat → (Int32 → Mem → Option (Int32 × Mem)) × (Int32 → Mem → Option (Int32 × Mem))
  | 0 => (fun _ _ => none, fun _ _ => none)
  | n + 1 => (hX2_readEither (fX2_grp n).1 (fX2_grp n).2, hX2_readTest (fX2_grp n).1 (fX2_grp n).2)
def fX2_readEither (n : Nat) : Int32 → Mem → Option (Int32 × Mem) := (fX2_grp n).1
def fX2_readTest (n : Nat) : Int32 → Mem → Option (Int32 × Mem) := (fX2_grp n).2
def fX1_appendLine (p1 : Int32) (p2 : Int32) (p3 : Int32) (M : Mem) : Option (Mem) :=
  if 16 ≤ (M 181 0) then
  (some M)
  else
  ((wr M 182 16 (M 181 0) p1).bind fun M1 =>
  (wr M1 183 16 (M1 181 0) p2).bind fun M2 =>
  (wr M2 184 16 (M2 181 0) p3).bind fun M3 =>
  (wr M3 185 16 (M3 181 0) (M3 181 1)).bind fun M4 =>
  bnd (mu M4 181 0 ((M4 181 0) + 1)) fun M5 =>
  some M5)
def fX2_read_L9 (K131 : Mem → Option (Int32 × Mem)) : Nat → Int32 → Mem → Option (Int32 × Mem)
  | 0, _, _ => none
  | n + 1, y2, M =>
    if 16 < y2 then
    (K131 M)
    else
    (if (M 178 4) = 0 then
    (K131 M)
    else
    ((fX2_wordAtHand M).bind fun v2 =>
    if v2 = (-1) then
    ((fX8_refuse 1 M).bind fun r14 =>
    if r14.1 = 0 ∨ r14.1 = 1 then some (r14.1, r14.2) else none)
    else
    (if y2 = 16 then
    ((fX8_refuse 3 M).bind fun r13 =>
    if r13.1 = 0 ∨ r13.1 = 1 then some (r13.1, r13.2) else none)
    else
    ((fX8_advance M).bind fun M3 =>
    bnd (M3 181 1 : Int32) fun x4 =>
    (fX2_readSum M3).bind fun r5 =>
    if r5.1 = 0 then
    (some (0, r5.2))
    else
    (bnd (r5.2 181 1 : Int32) fun x6 =>
    (fX8_passWord 13 r5.2).bind fun r7 =>
    jn (fun (M9 : Mem) => (fX8_takeSign 59 M9).bind fun r10 =>
    if r10.1 = 0 then
    (some (0, r10.2))
    else
    ((fX1_appendLine v2 x4 x6 r10.2).bind fun M11 =>
    fX2_read_L9 K131 n (y2 + 1) M11)) fun (J8 : (Mem) → Option (Int32 × Mem)) =>
    if r7.1 = 0 then
    (J8 r7.2)
    else
    ((fX2_readEither RU 0 r7.2).bind fun r12 =>
    if r12.1 = 0 then
    (some (0, r12.2))
    else
    (J8 r12.2)))))))
def fX2_read  (M : Mem) : Option (Int32 × Mem) :=
  (fX1_clear M).bind fun M1 =>
  fX2_read_L9 (fun (M15 : Mem) =>
  some (1, M15)) FU 0 M1
def fX1_copyFrom (k0 : Nat) (k1 : Nat) (M : Mem) : Option (Mem) :=
  bnd (mu M k0 0 (M k1 0)) fun M1 =>
  bnd (mu M1 k0 1 (M1 k1 1)) fun M2 =>
  (cpy M2 (k1 + 1) 16 (k0 + 1) 16 0 0 16).bind fun M3 =>
  (cpy M3 (k1 + 2) 16 (k0 + 2) 16 0 0 16).bind fun M4 =>
  (cpy M4 (k1 + 3) 16 (k0 + 3) 16 0 0 16).bind fun M5 =>
  (cpy M5 (k1 + 4) 16 (k0 + 4) 16 0 0 16).bind fun M6 =>
  (cpy M6 (k1 + 5) 400 (k0 + 5) 400 0 0 400).bind fun M7 =>
  some M7
def fX8_takeNumber (p1 : Int32) (M : Mem) : Option (Int32 × Mem) :=
  if (M 178 4) = 2 then
  (if (M 178 7) < p1 then
  (bnd (mu M 178 8 (M 178 7)) fun M1 =>
  (fX8_advance M1).bind fun M2 =>
  some (1, M2))
  else
  ((fX8_refuse 2 M).bind fun r3 =>
  if r3.1 = 0 ∨ r3.1 = 1 then some (r3.1, r3.2) else none))
  else
  ((fX8_refuse 1 M).bind fun r4 =>
  if r4.1 = 0 ∨ r4.1 = 1 then some (r4.1, r4.2) else none)
def fX8_takeWord (w1 : Nat) (M : Mem) : Option (Int32 × Mem) :=
  (fX8_isWord w1 M).bind fun v1 =>
  if v1 = 0 then
  ((fX8_refuse 1 M).bind fun r3 =>
  if r3.1 = 0 ∨ r3.1 = 1 then some (r3.1, r3.2) else none)
  else
  ((fX8_advance M).bind fun M2 =>
  some (1, M2))
def fX9_isOneOf (p1 : Int32) (p2 : Int32) (M : Mem) : Option (Int32) :=
  if (fX9_hasBargain 2 p1 M) = 0 then
  (some 0)
  else
  ((rd M 6 14 p1).bind fun v1 =>
  if v1 = p2 then
  (some 1)
  else
  ((rd M 7 14 p1).bind fun v2 =>
  if v2 = p2 then
  (some 1)
  else
  (some 0)))
def fX4_readHearing  (M : Mem) : Option (Int32 × Mem) :=
  (fX8_takeNumber (M 2 5) M).bind fun r1 =>
  if r1.1 = 0 then
  (some (0, r1.2))
  else
  (bnd (mu r1.2 189 3 (r1.2 178 8)) fun M2 =>
  (fX8_takeWord 19 M2).bind fun r3 =>
  if r3.1 = 0 then
  (some (0, r3.2))
  else
  (jn ((fX8_takeNumber (r3.2 2 4) r3.2).bind fun r5 =>
  if r5.1 = 0 then
  (some (0, r5.2))
  else
  (bnd (mu r5.2 189 4 (r5.2 178 8)) fun M6 =>
  some (1, M6))) fun (J4 : Option (Int32 × Mem)) =>
  if (r3.2 178 4) = 2 then
  ((fX9_isOneOf (r3.2 189 3) (r3.2 178 7) r3.2).bind fun v7 =>
  if v7 = 0 then
  (J4)
  else
  ((fX8_refuse 2 r3.2).bind fun r8 =>
  if r8.1 = 0 ∨ r8.1 = 1 then some (r8.1, r8.2) else none))
  else
  (J4)))
def fX4_readTwist  (M : Mem) : Option (Int32 × Mem) :=
  (fX8_takeWord 17 M).bind fun r1 =>
  if r1.1 = 0 then
  (some (0, r1.2))
  else
  ((fX8_takeNumber (r1.2 2 5) r1.2).bind fun r2 =>
  if r2.1 = 0 then
  (some (0, r2.2))
  else
  (bnd (mu r2.2 189 3 (r2.2 178 8)) fun M3 =>
  (fX8_isWord 20 M3).bind fun v4 =>
  jn (fun (t6 : Int32) => bnd (mu M3 189 2 t6) fun M7 =>
  jn (fun (w9 : Nat) => (fX8_takeWord w9 M7).bind fun r10 =>
  if r10.1 = 0 ∨ r10.1 = 1 then some (r10.1, r10.2) else none) fun (J8 : (Nat) → Option (Int32 × Mem)) =>
  if (M7 189 2) = 1 then
  (J8 20)
  else
  (J8 21)) fun (J5 : (Int32) → Option (Int32 × Mem)) =>
  if v4 = 0 then
  (J5 0)
  else
  (J5 1)))
def fX4_kindAtHand  (M : Mem) : Option (Int32) :=
  (fX8_isWord 7 M).bind fun v1 =>
  if v1 = 0 then
  ((fX8_isWord 8 M).bind fun v2 =>
  if v2 = 0 then
  ((fX8_isWord 6 M).bind fun v3 =>
  if v3 = 0 then
  ((fX8_isWord 3 M).bind fun v4 =>
  if v4 = 0 then
  (some (-1))
  else
  (some 3))
  else
  (some 2))
  else
  (some 1))
  else
  (some 0)
def fX4_readEvening  (M : Mem) : Option (Int32 × Mem) :=
  (fX4_kindAtHand M).bind fun v1 =>
  bnd (mu M 189 2 v1) fun M2 =>
  if (M2 189 2) = (-1) then
  ((fX8_refuse 1 M2).bind fun r13 =>
  if r13.1 = 0 ∨ r13.1 = 1 then some (r13.1, r13.2) else none)
  else
  ((fX8_advance M2).bind fun M3 =>
  jn (fun (M5 : Mem) => if (M5 189 2) = 2 then
  (some (1, M5))
  else
  ((fX8_takeNumber 10 M5).bind fun r6 =>
  if r6.1 = 0 then
  (some (0, r6.2))
  else
  (bnd (mu r6.2 189 4 (r6.2 178 8)) fun M7 =>
  some (1, M7)))) fun (J4 : (Mem) → Option (Int32 × Mem)) =>
  jn (jn (fun (t10 : Int32) => (fX8_takeNumber t10 M3).bind fun r11 =>
  if r11.1 = 0 then
  (some (0, r11.2))
  else
  (bnd (mu r11.2 189 3 (r11.2 178 8)) fun M12 =>
  J4 M12)) fun (J9 : (Int32) → Option (Int32 × Mem)) =>
  if (M3 189 2) = 2 then
  (J9 (M3 2 5))
  else
  (J9 (M3 2 4))) fun (J8 : Option (Int32 × Mem)) =>
  if (M3 189 2) = 2 then
  (J8)
  else
  (if (M3 189 2) = 3 then
  (J8)
  else
  (J4 M3)))
def fX4_readLine (p2 : Int32) (M : Mem) : Option (Int32 × Mem) :=
  bnd (mu M 189 1 0) fun M1 =>
  bnd (mu M1 189 2 0) fun M2 =>
  bnd (mu M2 189 3 0) fun M3 =>
  bnd (mu M3 189 4 0) fun M4 =>
  if p2 = 3 then
  ((fX4_readHearing M4).bind fun r9 =>
  if r9.1 = 0 ∨ r9.1 = 1 then some (r9.1, r9.2) else none)
  else
  ((fX8_takeNumber 1000 M4).bind fun r5 =>
  if r5.1 = 0 then
  (some (0, r5.2))
  else
  (bnd (mu r5.2 189 1 (r5.2 178 8)) fun M6 =>
  if p2 = 1 then
  ((fX4_readTwist M6).bind fun r8 =>
  if r8.1 = 0 ∨ r8.1 = 1 then some (r8.1, r8.2) else none)
  else
  ((fX4_readEvening M6).bind fun r7 =>
  if r7.1 = 0 ∨ r7.1 = 1 then some (r7.1, r7.2) else none)))
def fX4_read_L11 (K117 : Mem → Option (Int32 × Mem)) (K86 : Mem → Option (Int32 × Mem)) (z2 : Int32) : Nat → Int32 → Mem → Option (Int32 × Mem)
  | 0, _, _ => none
  | n + 1, y4, M =>
    if 16 < y4 then
    (K117 M)
    else
    (if (M 178 4) = 0 then
    (K117 M)
    else
    (jn (fun (w3 : Nat) => (fX8_isWord w3 M).bind fun v4 =>
    if v4 = 0 then
    ((fX8_refuse 1 M).bind fun r10 =>
    if r10.1 = 0 ∨ r10.1 = 1 then some (r10.1, r10.2) else none)
    else
    (if y4 = 16 then
    ((fX8_refuse 3 M).bind fun r9 =>
    if r9.1 = 0 ∨ r9.1 = 1 then some (r9.1, r9.2) else none)
    else
    ((fX8_advance M).bind fun M5 =>
    (fX4_readLine z2 M5).bind fun r6 =>
    if r6.1 = 0 then
    (K86 r6.2)
    else
    ((fX8_takeSign 59 r6.2).bind fun r7 =>
    if r7.1 = 0 then
    (K86 r7.2)
    else
    ((fX3_append 190 (r7.2 189 1) (r7.2 189 2) (r7.2 189 3) (r7.2 189 4) r7.2).bind fun M8 =>
    fX4_read_L11 K117 K86 z2 n (y4 + 1) M8))))) fun (J2 : (Nat) → Option (Int32 × Mem)) =>
    if z2 = 3 then
    (J2 17)
    else
    (J2 18)))
def fX4_read (p2 : Int32) (M : Mem) : Option (Int32 × Mem) :=
  bnd (mu M 190 0 0) fun M1 =>
  fX4_read_L11 (fun (M11 : Mem) =>
  some (1, M11)) (fun (M12 : Mem) =>
  some (0, M12)) p2 FU 0 M1
def fX0_linesOf (p1 : Int32) (M : Mem) : Option (Nat) :=
  if p1 = 1 then
  (some 25)
  else
  (if p1 = 2 then
  (some 30)
  else
  (some 35))
def fX3_copyFrom (k0 : Nat) (k1 : Nat) (M : Mem) : Option (Mem) :=
  bnd (mu M k0 0 (jmin (M k0 1) (M k1 0))) fun M1 =>
  (cpy M1 (k1 + 1) (kn (k1 + 1)) (k0 + 1) (kn (k0 + 1)) 0 0 (M1 k0 0)).bind fun M2 =>
  (cpy M2 (k1 + 2) (kn (k1 + 2)) (k0 + 2) (kn (k0 + 2)) 0 0 (M2 k0 0)).bind fun M3 =>
  (cpy M3 (k1 + 3) (kn (k1 + 3)) (k0 + 3) (kn (k0 + 3)) 0 0 (M3 k0 0)).bind fun M4 =>
  (cpy M4 (k1 + 4) (kn (k1 + 4)) (k0 + 4) (kn (k0 + 4)) 0 0 (M4 k0 0)).bind fun M5 =>
  some M5
def fX11_text (p1 : Int32) (M : Mem) : Option (Int32 × Mem) :=
  (fX8_begin M).bind fun M1 =>
  jn (fun (a3 : Int32) (M4 : Mem) => jn (fun (a6 : Int32) (M7 : Mem) => bnd (mu M7 178 1 0) fun M8 =>
  if a6 = (-1) then
  (some (a6, M8))
  else
  (jn ((fX6_forget M8).bind fun M10 =>
  some (a6, M10)) fun (J9 : Option (Int32 × Mem)) =>
  if p1 = 1 then
  (J9)
  else
  (if p1 = 2 then
  (J9)
  else
  (some (a6, M8))))) fun (J5 : (Int32) → (Mem) → Option (Int32 × Mem)) =>
  if (fX11_isWithin p1 1 3) = 0 then
  (J5 a3 M4)
  else
  ((fX4_read p1 M4).bind fun r11 =>
  if r11.1 = 0 then
  (J5 a3 r11.2)
  else
  ((fX0_linesOf p1 r11.2).bind fun q12 =>
  if kd q12 = (3, 6) then (
  (fX3_copyFrom q12 190 r11.2).bind fun M13 =>
  bnd (M13 q12 0 : Int32) fun x14 =>
  J5 x14 M13) else none))) fun (J2 : (Int32) → (Mem) → Option (Int32 × Mem)) =>
  if p1 = 0 then
  ((fX2_read M1).bind fun r15 =>
  if r15.1 = 0 then
  (J2 (-1) r15.2)
  else
  ((fX1_copyFrom 17 181 r15.2).bind fun M16 =>
  bnd (M16 17 0 : Int32) fun x17 =>
  J2 x17 M16))
  else
  (J2 (-1) M1)
def fX12_raw (p1 : Int32) (M : Mem) : Option (Int32) :=
  if (M 198 13) ≤ p1 then
  (some (-1))
  else
  ((rd M 206 400 p1).bind fun v1 =>
  some v1)
def fX12_isLetter (p1 : Int32) : Int32 :=
  if (fX12_isIn p1 97 122) = 0 then
  (if (fX12_isIn p1 65 90) = 0 then
  (0)
  else
  (1))
  else
  (1)
def fX12_wordAt_L19 (K60 : Int32 → Option (Int32)) (z1 : Int32) (z2 : Int32) (z4 : Int32) (M : Mem) : Nat → Int32 → Option (Int32)
  | 0, _ => none
  | n + 1, y5 =>
    if z2 ≤ (z1 + y5) then
    (K60 y5)
    else
    ((rd M 207 118 ((z4 + 1) + y5)).bind fun v2 =>
    (rd M 206 400 (z1 + y5)).bind fun v3 =>
    if v2 = v3 then
    (bnd (y5 + 1 : Int32) fun x4 =>
    fX12_wordAt_L19 K60 z1 z2 z4 M n x4)
    else
    (K60 y5))
def fX12_wordAt_L93 (K114 : Int32 → Option (Int32)) (M : Mem) : Nat → Int32 → Option (Int32)
  | 0, _ => none
  | n + 1, y4 =>
    (rd M 207 118 y4).bind fun v8 =>
    if v8 = 32 then
    (K114 y4)
    else
    (bnd (y4 + 1 : Int32) fun x9 =>
    fX12_wordAt_L93 K114 M n x9)
def fX12_wordAt_L5 (z1 : Int32) (z2 : Int32) (M : Mem) : Nat → Int32 → Int32 → Option (Int32)
  | 0, _, _ => none
  | n + 1, y3, y4 =>
    if 117 ≤ y4 then
    (some (-1))
    else
    (bnd (y3 + 1 : Int32) fun x1 =>
    fX12_wordAt_L19 (fun (e5 : Int32) =>
    jn (bnd (y4 + 1 : Int32) fun x7 =>
    fX12_wordAt_L93 (fun (e10 : Int32) =>
    fX12_wordAt_L5 z1 z2 M n x1 e10) M FU x7) fun (J6 : Option (Int32)) =>
    if (z1 + e5) = z2 then
    ((rd M 207 118 ((y4 + 1) + e5)).bind fun v11 =>
    if v11 = 32 then
    (some x1)
    else
    (J6))
    else
    (J6)) z1 z2 y4 M FU 0)
def fX12_wordAt (p1 : Int32) (p2 : Int32) (M : Mem) : Option (Int32) :=
  fX12_wordAt_L5 p1 p2 M FU (-1) 0
def fX12_isDigit (p1 : Int32) : Int32 :=
  fX12_isIn p1 48 57
def fX12_isMarkSign (p1 : Int32) : Int32 :=
  if p1 = 59 then
  (1)
  else
  (if p1 = 43 then
  (1)
  else
  (if p1 = 45 then
  (1)
  else
  (if p1 = 42 then
  (1)
  else
  (if p1 = 47 then
  (1)
  else
  (if p1 = 40 then
  (1)
  else
  (if p1 = 41 then
  (1)
  else
  (if p1 = 60 then
  (1)
  else
  (if p1 = 61 then
  (1)
  else
  (if p1 = 62 then
  (1)
  else
  (0))))))))))
def fX12_reads_L0 (K39 : Mem → Option (Mem)) : Nat → Mem → Option (Mem)
  | 0, _ => none
  | n + 1, M =>
    (fX12_raw (M 198 14) M).bind fun v1 =>
    jn (bnd (mu M 198 14 ((M 198 14) + 1)) fun M3 =>
    fX12_reads_L0 K39 n M3) fun (J2 : Option (Mem)) =>
    if v1 = 32 then
    (J2)
    else
    ((fX12_raw (M 198 14) M).bind fun v4 =>
    if v4 = 10 then
    (J2)
    else
    (K39 M))
def fX12_reads_L171 (K239 : Mem → Option (Mem)) : Nat → Mem → Option (Mem)
  | 0, _ => none
  | n + 1, M =>
    (fX12_raw (M 198 14) M).bind fun v13 =>
    if (fX12_isDigit v13) = 0 then
    (K239 M)
    else
    (jn (fun (t15 : Int32) => bnd (mu M 198 17 t15) fun M16 =>
    bnd (mu M16 198 14 ((M16 198 14) + 1)) fun M17 =>
    fX12_reads_L171 K239 n M17) fun (J14 : (Int32) → Option (Mem)) =>
    if 10000 ≤ (M 198 17) then
    (J14 (M 198 17))
    else
    ((fX12_raw (M 198 14) M).bind fun v18 =>
    J14 (((10 * (M 198 17)) + v18) - 48)))
def fX12_reads_L95 (K123 : Mem → Option (Mem)) : Nat → Mem → Option (Mem)
  | 0, _ => none
  | n + 1, M =>
    (fX12_raw (M 198 14) M).bind fun v21 =>
    if (fX12_isLetter v21) = 0 then
    (K123 M)
    else
    (bnd (mu M 198 14 ((M 198 14) + 1)) fun M22 =>
    fX12_reads_L95 K123 n M22)
def fX12_reads  (M : Mem) : Option (Mem) :=
  fX12_reads_L0 (fun (M5 : Mem) =>
  bnd (mu M5 198 15 (M5 198 14)) fun M6 =>
  bnd (mu M6 198 16 1) fun M7 =>
  (fX12_raw (M7 198 14) M7).bind fun v8 =>
  if v8 = (-1) then
  (bnd (mu M7 198 16 0) fun M27 =>
  some M27)
  else
  (bnd (mu M7 198 14 ((M7 198 14) + 1)) fun M9 =>
  bnd (mu M9 198 17 v8) fun M10 =>
  if (fX12_isLetter v8) = 0 then
  (if (fX12_isDigit v8) = 0 then
  (if (fX12_isMarkSign v8) = 0 then
  (some M10)
  else
  (bnd (mu M10 198 16 4) fun M11 =>
  some M11))
  else
  (bnd (mu M10 198 17 (v8 - 48)) fun M12 =>
  fX12_reads_L171 (fun (M19 : Mem) =>
  if 5 ≤ ((M19 198 14) - (M19 198 15)) then
  (some M19)
  else
  (bnd (mu M19 198 16 3) fun M20 =>
  some M20)) FU M12))
  else
  (fX12_reads_L95 (fun (M23 : Mem) =>
  (fX12_wordAt (M23 198 15) (M23 198 14) M23).bind fun v24 =>
  bnd (mu M23 198 17 v24) fun M25 =>
  if (M25 198 17) = (-1) then
  (some M25)
  else
  (bnd (mu M25 198 16 2) fun M26 =>
  some M26)) FU M10))) FU M
def fX12_isWord (p1 : Int32) (M : Mem) : Int32 :=
  if (M 198 16) = 2 then
  (if (M 198 17) = p1 then
  (1)
  else
  (0))
  else
  (0)
def fX12_errs (p1 : Int32) (M : Mem) : Option (Int32 × Mem) :=
  bnd (mu M 198 31 p1) fun M1 =>
  bnd (mu M1 198 32 (M1 198 15)) fun M2 =>
  some ((-1), M2)
def fX12_readNumber (p1 : Int32) (p2 : Int32) (M : Mem) : Option (Int32 × Mem) :=
  if (M 198 16) = 3 then
  (if (fX12_isIn (M 198 17) p1 p2) = 0 then
  ((fX12_errs 2 M).bind fun r3 =>
  some (r3.1, r3.2))
  else
  (bnd (M 198 17 : Int32) fun x1 =>
  (fX12_reads M).bind fun M2 =>
  some (x1, M2)))
  else
  ((fX12_errs 1 M).bind fun r4 =>
  some (r4.1, r4.2))
def fX12_readTold (p1 : Int32) (p2 : Int32) (p3 : Int32) (M : Mem) : Option (Int32 × Mem) :=
  if (fX12_isWord p1 M) = 0 then
  ((fX12_errs 1 M).bind fun r3 =>
  some (r3.1, r3.2))
  else
  ((fX12_reads M).bind fun M1 =>
  (fX12_readNumber p2 p3 M1).bind fun r2 =>
  some (r2.1, r2.2))
def fX12_isSign (p1 : Int32) (M : Mem) : Int32 :=
  if (M 198 16) = 4 then
  (if (M 198 17) = p1 then
  (1)
  else
  (0))
  else
  (0)
def fX12_readMark (p1 : Int32) (M : Mem) : Option (Int32 × Mem) :=
  if (fX12_isSign p1 M) = 0 then
  ((fX12_errs 1 M).bind fun r2 =>
  some (r2.1, r2.2))
  else
  ((fX12_reads M).bind fun M1 =>
  some (0, M1))
def fX12_readHop (p1 : Int32) (M : Mem) : Option (Int32 × Mem) :=
  (fX12_readTold 17 0 999 M).bind fun r1 =>
  (wr r1.2 216 96 p1 r1.1).bind fun M2 =>
  (rd M2 216 96 p1).bind fun v3 =>
  if v3 = (-1) then
  (some ((-1), M2))
  else
  ((fX12_readTold 18 0 ((M2 198 7) - 1) M2).bind fun r4 =>
  (wr r4.2 216 96 (p1 + 1) r4.1).bind fun M5 =>
  (rd M5 216 96 (p1 + 1)).bind fun v6 =>
  if v6 = (-1) then
  (some ((-1), M5))
  else
  (jn ((wr M5 216 96 (p1 + 2) ((M5 198 17) - 19)).bind fun M8 =>
  (fX12_reads M8).bind fun M9 =>
  (fX12_readMark 59 M9).bind fun r10 =>
  some (r10.1, r10.2)) fun (J7 : Option (Int32 × Mem)) =>
  if (fX12_isWord 19 M5) = 0 then
  (if (fX12_isWord 20 M5) = 0 then
  ((fX12_errs 1 M5).bind fun r11 =>
  some (r11.1, r11.2))
  else
  (J7))
  else
  (J7)))
def fX12_readHops_L2 (K46 : Int32 → Mem → Option (Int32 × Mem)) : Nat → Int32 → Mem → Option (Int32 × Mem)
  | 0, _, _ => none
  | n + 1, y1, M =>
    if (fX12_isWord 17 M) = 0 then
    (K46 y1 M)
    else
    (if y1 = 16 then
    ((fX12_errs 3 M).bind fun r3 =>
    some (r3.1, r3.2))
    else
    ((fX12_readHop (48 + (3 * y1)) M).bind fun r1 =>
    if r1.1 = (-1) then
    (some ((-1), r1.2))
    else
    (bnd (y1 + 1 : Int32) fun x2 =>
    fX12_readHops_L2 K46 n x2 r1.2)))
def fX12_readHops  (M : Mem) : Option (Int32 × Mem) :=
  fX12_readHops_L2 (fun (e4 : Int32) (M5 : Mem) =>
  if (M5 198 16) = 0 then
  (some (e4, M5))
  else
  ((fX12_errs 1 M5).bind fun r6 =>
  some (r6.1, r6.2))) FU 0 M
def fX12_kindOfStreet  (M : Mem) : Int32 :=
  if (fX12_isWord 11 M) = 0 then
  (if (fX12_isWord 12 M) = 0 then
  (if (fX12_isWord 10 M) = 0 then
  (if (fX12_isWord 7 M) = 0 then
  ((-1))
  else
  (3))
  else
  (2))
  else
  (1))
  else
  (0)
def fX12_readStreetLine (p1 : Int32) (M : Mem) : Option (Int32 × Mem) :=
  (fX12_readTold 17 0 999 M).bind fun r1 =>
  (wr r1.2 217 128 p1 r1.1).bind fun M2 =>
  (rd M2 217 128 p1).bind fun v3 =>
  if v3 = (-1) then
  (some ((-1), M2))
  else
  (bnd (fX12_kindOfStreet M2 : Int32) fun x4 =>
  if x4 = (-1) then
  ((fX12_errs 1 M2).bind fun r19 =>
  some (r19.1, r19.2))
  else
  ((fX12_reads M2).bind fun M5 =>
  (wr M5 217 128 (p1 + 1) x4).bind fun M6 =>
  jn (fun (t8 : Int32) => (fX12_readNumber 0 t8 M6).bind fun r9 =>
  (wr r9.2 217 128 (p1 + 2) r9.1).bind fun M10 =>
  (rd M10 217 128 (p1 + 2)).bind fun v11 =>
  if v11 = (-1) then
  (some ((-1), M10))
  else
  (jn (fun (t13 : Int32) (M14 : Mem) => (wr M14 217 128 (p1 + 3) t13).bind fun M15 =>
  (rd M15 217 128 (p1 + 3)).bind fun v16 =>
  if v16 = (-1) then
  (some ((-1), M15))
  else
  ((fX12_readMark 59 M15).bind fun r17 =>
  some (r17.1, r17.2))) fun (J12 : (Int32) → (Mem) → Option (Int32 × Mem)) =>
  if x4 = 3 then
  ((fX12_readNumber 0 9 M10).bind fun r18 =>
  J12 r18.1 r18.2)
  else
  (J12 0 M10))) fun (J7 : (Int32) → Option (Int32 × Mem)) =>
  if x4 = 2 then
  (J7 ((M6 198 7) - 1))
  else
  (if x4 = 3 then
  (J7 ((M6 198 6) - 1))
  else
  (J7 9))))
def fX12_readStreet_L2 (K46 : Int32 → Mem → Option (Int32 × Mem)) : Nat → Int32 → Mem → Option (Int32 × Mem)
  | 0, _, _ => none
  | n + 1, y1, M =>
    if (fX12_isWord 17 M) = 0 then
    (K46 y1 M)
    else
    (if y1 = 16 then
    ((fX12_errs 3 M).bind fun r3 =>
    some (r3.1, r3.2))
    else
    ((fX12_readStreetLine (64 + (4 * y1)) M).bind fun r1 =>
    if r1.1 = (-1) then
    (some ((-1), r1.2))
    else
    (bnd (y1 + 1 : Int32) fun x2 =>
    fX12_readStreet_L2 K46 n x2 r1.2)))
def fX12_readStreet  (M : Mem) : Option (Int32 × Mem) :=
  fX12_readStreet_L2 (fun (e4 : Int32) (M5 : Mem) =>
  if (M5 198 16) = 0 then
  (some (e4, M5))
  else
  ((fX12_errs 1 M5).bind fun r6 =>
  some (r6.1, r6.2))) FU 0 M
def fX12_readLean  (M : Mem) : Option (Int32 × Mem) :=
  (fX12_readTold 18 0 ((M 198 7) - 1) M).bind fun r1 =>
  if r1.1 = (-1) then
  (some ((-1), r1.2))
  else
  (if (fX12_isWord 21 r1.2) = 0 then
  ((fX12_errs 1 r1.2).bind fun r12 =>
  some (r12.1, r12.2))
  else
  ((fX12_reads r1.2).bind fun M2 =>
  jn ((fX12_readNumber 0 ((M2 198 6) - 1) M2).bind fun r4 =>
  if r4.1 = (-1) then
  (some ((-1), r4.2))
  else
  ((rd r4.2 218 28 (14 + r1.1)).bind fun v5 =>
  (wr r4.2 218 28 (14 + r1.1) (v5 ||| (jshl 1 r4.1))).bind fun M6 =>
  (fX12_readMark 59 M6).bind fun r7 =>
  some (r7.1, r7.2))) fun (J3 : Option (Int32 × Mem)) =>
  if (M2 198 16) = 3 then
  ((rd M2 202 14 r1.1).bind fun v8 =>
  jn ((fX12_errs 2 M2).bind fun r10 =>
  some (r10.1, r10.2)) fun (J9 : Option (Int32 × Mem)) =>
  if (M2 198 17) = v8 then
  (J9)
  else
  ((rd M2 203 14 r1.1).bind fun v11 =>
  if (M2 198 17) = v11 then
  (J9)
  else
  (J3)))
  else
  (J3)))
def fX12_readLeans_L2 (K24 : Mem → Option (Int32 × Mem)) : Nat → Int32 → Mem → Option (Int32 × Mem)
  | 0, _, _ => none
  | n + 1, y1, M =>
    if 14 ≤ y1 then
    (K24 M)
    else
    ((wr M 218 28 (14 + y1) 0).bind fun M1 =>
    fX12_readLeans_L2 K24 n (y1 + 1) M1)
def fX12_readLeans_L26 (K64 : Int32 → Mem → Option (Int32 × Mem)) : Nat → Int32 → Mem → Option (Int32 × Mem)
  | 0, _, _ => none
  | n + 1, y1, M =>
    if (fX12_isWord 18 M) = 0 then
    (K64 y1 M)
    else
    (if y1 = 16 then
    ((fX12_errs 3 M).bind fun r5 =>
    some (r5.1, r5.2))
    else
    ((fX12_readLean M).bind fun r3 =>
    if r3.1 = (-1) then
    (some ((-1), r3.2))
    else
    (bnd (y1 + 1 : Int32) fun x4 =>
    fX12_readLeans_L26 K64 n x4 r3.2)))
def fX12_readLeans  (M : Mem) : Option (Int32 × Mem) :=
  fX12_readLeans_L2 (fun (M2 : Mem) =>
  fX12_readLeans_L26 (fun (e6 : Int32) (M7 : Mem) =>
  if (M7 198 16) = 0 then
  (some (e6, M7))
  else
  ((fX12_errs 1 M7).bind fun r8 =>
  some (r8.1, r8.2))) FU 0 M2) FU 0 M
def fX12_isLineWord  (M : Mem) : Int32 :=
  if (M 198 16) = 2 then
  (if (fX12_isIn (M 198 17) 0 2) = 0 then
  (0)
  else
  (1))
  else
  (0)
def fX12_canAsk (p1 : Int32) : Int32 :=
  fX12_isIn p1 7 16
def fX12_emits (p1 : Int32) (p2 : Int32) (M : Mem) : Option (Mem) :=
  (wr M 213 1200 (800 + (M 198 27)) p1).bind fun M1 =>
  (wr M1 214 1200 (800 + (M1 198 27)) p2).bind fun M2 =>
  bnd (mu M2 198 27 ((M2 198 27) + 1)) fun M3 =>
  some M3
def fX12_readUnit  (M : Mem) : Option (Int32 × Mem) :=
  jn (fun (t2 : Int32) => jn (jn (fun (t5 : Int32) => jn (fun (t7 : Int32) => (fX12_emits t5 t7 M).bind fun M8 =>
  (fX12_reads M8).bind fun M9 =>
  some (0, M9)) fun (J6 : (Int32) → Option (Int32 × Mem)) =>
  if t2 = 0 then
  (J6 (M 198 17))
  else
  (J6 ((M 198 17) - 7))) fun (J4 : (Int32) → Option (Int32 × Mem)) =>
  if t2 = 0 then
  (J4 0)
  else
  (J4 1)) fun (J3 : Option (Int32 × Mem)) =>
  if t2 = 0 then
  (if (M 198 16) = 3 then
  (J3)
  else
  ((fX12_errs 1 M).bind fun r10 =>
  some (r10.1, r10.2)))
  else
  (J3)) fun (J1 : (Int32) → Option (Int32 × Mem)) =>
  jn (J1 0) fun (J11 : Option (Int32 × Mem)) =>
  if (M 198 16) = 2 then
  (if (fX12_canAsk (M 198 17)) = 0 then
  (J11)
  else
  (J1 1))
  else
  (J11)
def fX12_readProduct_L10  : Nat → Mem → Option (Int32 × Mem)
  | 0, _ => none
  | n + 1, M =>
    jn (bnd (fX12_isSign 42 M : Int32) fun x3 =>
    (fX12_reads M).bind fun M4 =>
    jn (jn ((fX12_readUnit M4).bind fun r7 =>
    if r7.1 = (-1) then
    (some ((-1), r7.2))
    else
    (jn (fun (t9 : Int32) => (fX12_emits t9 0 r7.2).bind fun M10 =>
    fX12_readProduct_L10 n M10) fun (J8 : (Int32) → Option (Int32 × Mem)) =>
    if x3 = 0 then
    (J8 5)
    else
    (J8 4))) fun (J6 : Option (Int32 × Mem)) =>
    if x3 = 0 then
    (if (M4 198 17) = 0 then
    ((fX12_errs 2 M4).bind fun r11 =>
    some (r11.1, r11.2))
    else
    (J6))
    else
    (J6)) fun (J5 : Option (Int32 × Mem)) =>
    if x3 = 0 then
    (if (M4 198 16) = 3 then
    (J5)
    else
    ((fX12_errs 1 M4).bind fun r12 =>
    some (r12.1, r12.2)))
    else
    (J5)) fun (J2 : Option (Int32 × Mem)) =>
    if (fX12_isSign 42 M) = 0 then
    (if (fX12_isSign 47 M) = 0 then
    (some (0, M))
    else
    (J2))
    else
    (J2)
def fX12_readProduct  (M : Mem) : Option (Int32 × Mem) :=
  (fX12_readUnit M).bind fun r1 =>
  if r1.1 = (-1) then
  (some ((-1), r1.2))
  else
  (fX12_readProduct_L10 FU r1.2)
def fX12_readSum_L10  : Nat → Mem → Option (Int32 × Mem)
  | 0, _ => none
  | n + 1, M =>
    jn (jn (fun (t4 : Int32) => (fX12_reads M).bind fun M5 =>
    (fX12_readProduct M5).bind fun r6 =>
    if r6.1 = (-1) then
    (some ((-1), r6.2))
    else
    ((fX12_emits t4 0 r6.2).bind fun M7 =>
    fX12_readSum_L10 n M7)) fun (J3 : (Int32) → Option (Int32 × Mem)) =>
    if (M 198 17) = 43 then
    (J3 2)
    else
    (J3 3)) fun (J2 : Option (Int32 × Mem)) =>
    if (fX12_isSign 43 M) = 0 then
    (if (fX12_isSign 45 M) = 0 then
    (some (0, M))
    else
    (J2))
    else
    (J2)
def fX12_readSum  (M : Mem) : Option (Int32 × Mem) :=
  (fX12_readProduct M).bind fun r1 =>
  if r1.1 = (-1) then
  (some ((-1), r1.2))
  else
  (fX12_readSum_L10 FU r1.2)
def fX12_waits (p1 : Int32) (M : Mem) : Option (Mem) :=
  (wr M 215 40 (M 198 30) p1).bind fun M1 =>
  bnd (mu M1 198 30 ((M1 198 30) + 1)) fun M2 =>
  some M2
def fX12_readCompared  (M : Mem) : Option (Int32 × Mem) :=
  (fX12_readSum M).bind fun r1 =>
  if r1.1 = (-1) then
  (some ((-1), r1.2))
  else
  (jn (jn (fun (t4 : Int32) => (fX12_reads r1.2).bind fun M5 =>
  (fX12_readSum M5).bind fun r6 =>
  if r6.1 = (-1) then
  (some ((-1), r6.2))
  else
  ((fX12_emits t4 0 r6.2).bind fun M7 =>
  some (0, M7))) fun (J3 : (Int32) → Option (Int32 × Mem)) =>
  if (r1.2 198 17) = 60 then
  (J3 6)
  else
  (if (r1.2 198 17) = 61 then
  (J3 7)
  else
  (J3 8))) fun (J2 : Option (Int32 × Mem)) =>
  if (fX12_isSign 60 r1.2) = 0 then
  (if (fX12_isSign 61 r1.2) = 0 then
  (if (fX12_isSign 62 r1.2) = 0 then
  ((fX12_errs 1 r1.2).bind fun r8 =>
  some (r8.1, r8.2))
  else
  (J2))
  else
  (J2))
  else
  (J2))
def fX12_settles_L0 (K57 : Mem → Option (Mem)) (z1 : Int32) : Nat → Mem → Option (Mem)
  | 0, _ => none
  | n + 1, M =>
    if (M 198 30) ≤ 0 then
    (K57 M)
    else
    ((rd M 215 40 ((M 198 30) - 1)).bind fun v1 =>
    if v1 = z1 then
    (bnd (mu M 198 30 ((M 198 30) - 1)) fun M2 =>
    (fX12_emits z1 0 M2).bind fun M3 =>
    if z1 = 9 then
    (bnd (mu M3 198 28 ((M3 198 28) - 1)) fun M4 =>
    fX12_settles_L0 K57 z1 n M4)
    else
    (fX12_settles_L0 K57 z1 n M3))
    else
    (K57 M))
def fX12_settles (p1 : Int32) (M : Mem) : Option (Mem) :=
  fX12_settles_L0 (fun (M5 : Mem) =>
  some M5) p1 FU M
def fX12_readAny_L9  : Nat → Int32 → Int32 → Mem → Option (Int32 × Mem)
  | 0, _, _, _ => none
  | n + 1, y1, y2, M =>
    if y2 = 0 then
    (if (fX12_isWord 5 M) = 0 then
    (if (fX12_isWord 4 M) = 0 then
    ((fX12_settles 10 M).bind fun M2 =>
    (fX12_settles 11 M2).bind fun M3 =>
    if y1 = 0 then
    (some (0, M3))
    else
    (if (fX12_isSign 41 M3) = 0 then
    ((fX12_errs 1 M3).bind fun r9 =>
    some (r9.1, r9.2))
    else
    (bnd (mu M3 198 30 ((M3 198 30) - 1)) fun M4 =>
    bnd (y1 - 1 : Int32) fun x5 =>
    bnd (mu M4 198 28 ((M4 198 28) - 1)) fun M6 =>
    (fX12_settles 9 M6).bind fun M7 =>
    (fX12_reads M7).bind fun M8 =>
    fX12_readAny_L9 n x5 y2 M8)))
    else
    ((fX12_settles 10 M).bind fun M10 =>
    (fX12_settles 11 M10).bind fun M11 =>
    (fX12_waits 11 M11).bind fun M12 =>
    (fX12_reads M12).bind fun M13 =>
    fX12_readAny_L9 n y1 1 M13))
    else
    ((fX12_settles 10 M).bind fun M14 =>
    (fX12_waits 10 M14).bind fun M15 =>
    (fX12_reads M15).bind fun M16 =>
    fX12_readAny_L9 n y1 1 M16))
    else
    (bnd (fX12_isWord 6 M : Int32) fun x17 =>
    jn (if (M 198 28) = 8 then
    ((fX12_errs 3 M).bind fun r27 =>
    some (r27.1, r27.2))
    else
    (bnd (mu M 198 28 ((M 198 28) + 1)) fun M19 =>
    jn (fun (a21 : Int32) => jn (fun (t23 : Int32) => (fX12_waits t23 M19).bind fun M24 =>
    (fX12_reads M24).bind fun M25 =>
    fX12_readAny_L9 n a21 y2 M25) fun (J22 : (Int32) → Option (Int32 × Mem)) =>
    if x17 = 0 then
    (J22 12)
    else
    (J22 9)) fun (J20 : (Int32) → Option (Int32 × Mem)) =>
    if x17 = 0 then
    (bnd (y1 + 1 : Int32) fun x26 =>
    J20 x26)
    else
    (J20 y1))) fun (J18 : Option (Int32 × Mem)) =>
    if x17 = 0 then
    (if (fX12_isSign 40 M) = 0 then
    ((fX12_readCompared M).bind fun r28 =>
    if r28.1 = (-1) then
    (some ((-1), r28.2))
    else
    ((fX12_settles 9 r28.2).bind fun M29 =>
    fX12_readAny_L9 n y1 0 M29))
    else
    (J18))
    else
    (J18))
def fX12_readAny  (M : Mem) : Option (Int32 × Mem) :=
  bnd (mu M 198 30 0) fun M1 =>
  fX12_readAny_L9 FU 0 1 M1
def fX12_readLaw_L2 (K128 : Int32 → Mem → Option (Int32 × Mem)) : Nat → Int32 → Mem → Option (Int32 × Mem)
  | 0, _, _ => none
  | n + 1, y1, M =>
    if (fX12_isLineWord M) = 0 then
    (K128 y1 M)
    else
    (if y1 = 16 then
    ((fX12_errs 3 M).bind fun r15 =>
    some (r15.1, r15.2))
    else
    (bnd (32 + y1 : Int32) fun x1 =>
    (wr M 209 48 x1 (M 198 17)).bind fun M2 =>
    (fX12_reads M2).bind fun M3 =>
    (wr M3 210 48 x1 (M3 198 27)).bind fun M4 =>
    (fX12_readSum M4).bind fun r5 =>
    if r5.1 = (-1) then
    (some ((-1), r5.2))
    else
    ((wr r5.2 211 48 x1 (r5.2 198 27)).bind fun M6 =>
    jn (fun (M8 : Mem) => (wr M8 212 48 x1 (M8 198 27)).bind fun M9 =>
    if (fX12_isSign 59 M9) = 0 then
    ((fX12_errs 1 M9).bind fun r12 =>
    some (r12.1, r12.2))
    else
    ((fX12_reads M9).bind fun M10 =>
    bnd (y1 + 1 : Int32) fun x11 =>
    fX12_readLaw_L2 K128 n x11 M10)) fun (J7 : (Mem) → Option (Int32 × Mem)) =>
    if (fX12_isWord 3 M6) = 0 then
    (J7 M6)
    else
    ((fX12_reads M6).bind fun M13 =>
    (fX12_readAny M13).bind fun r14 =>
    if r14.1 = (-1) then
    (some ((-1), r14.2))
    else
    (J7 r14.2)))))
def fX12_readLaw  (M : Mem) : Option (Int32 × Mem) :=
  fX12_readLaw_L2 (fun (e16 : Int32) (M17 : Mem) =>
  if (M17 198 16) = 0 then
  (some (e16, M17))
  else
  ((fX12_errs 1 M17).bind fun r18 =>
  some (r18.1, r18.2))) FU 0 M
def fX12_readsText (p1 : Int32) (M : Mem) : Option (Int32 × Mem) :=
  bnd (mu M 198 26 0) fun M1 =>
  (fX12_reads M1).bind fun M2 =>
  if p1 = 1 then
  ((fX12_readHops M2).bind fun r6 =>
  some (r6.1, r6.2))
  else
  (if p1 = 2 then
  ((fX12_readStreet M2).bind fun r5 =>
  some (r5.1, r5.2))
  else
  (if p1 = 3 then
  ((fX12_readLeans M2).bind fun r4 =>
  some (r4.1, r4.2))
  else
  ((fX12_readLaw M2).bind fun r3 =>
  some (r3.1, r3.2))))
def fX12_takesLaw_L2 (K105 : Mem → Option (Mem)) (z1 : Int32) : Nat → Int32 → Mem → Option (Mem)
  | 0, _, _ => none
  | n + 1, y2, M =>
    if z1 ≤ y2 then
    (K105 M)
    else
    ((rd M 209 48 (32 + y2)).bind fun v1 =>
    (wr M 209 48 ((16 * (M 198 26)) + y2) v1).bind fun M2 =>
    (rd M2 210 48 (32 + y2)).bind fun v3 =>
    (wr M2 210 48 ((16 * (M2 198 26)) + y2) v3).bind fun M4 =>
    (rd M4 211 48 (32 + y2)).bind fun v5 =>
    (wr M4 211 48 ((16 * (M4 198 26)) + y2) v5).bind fun M6 =>
    (rd M6 212 48 (32 + y2)).bind fun v7 =>
    (wr M6 212 48 ((16 * (M6 198 26)) + y2) v7).bind fun M8 =>
    fX12_takesLaw_L2 K105 z1 n (y2 + 1) M8)
def fX12_takesLaw_L107 (K171 : Mem → Option (Mem)) : Nat → Int32 → Mem → Option (Mem)
  | 0, _, _ => none
  | n + 1, y2, M =>
    if (M 198 27) ≤ y2 then
    (K171 M)
    else
    ((rd M 213 1200 (800 + y2)).bind fun v10 =>
    (wr M 213 1200 ((400 * (M 198 26)) + y2) v10).bind fun M11 =>
    (rd M11 214 1200 (800 + y2)).bind fun v12 =>
    (wr M11 214 1200 ((400 * (M11 198 26)) + y2) v12).bind fun M13 =>
    fX12_takesLaw_L107 K171 n (y2 + 1) M13)
def fX12_takesLaw (p1 : Int32) (M : Mem) : Option (Mem) :=
  fX12_takesLaw_L2 (fun (M9 : Mem) =>
  fX12_takesLaw_L107 (fun (M14 : Mem) =>
  (wr M14 208 2 (M14 198 26) p1).bind fun M15 =>
  some M15) FU 0 M9) p1 FU 0 M
def fX12_takesOther_L42 (K75 : Mem → Option (Mem)) (z1 : Int32) (z2 : Int32) : Nat → Int32 → Mem → Option (Mem)
  | 0, _, _ => none
  | n + 1, y3, M =>
    if (3 * z2) ≤ y3 then
    (K75 M)
    else
    (if z1 = 1 then
    ((rd M 216 96 (48 + y3)).bind fun v1 =>
    (wr M 216 96 y3 v1).bind fun M2 =>
    fX12_takesOther_L42 K75 z1 z2 n (y3 + 1) M2)
    else
    (K75 M))
def fX12_takesOther_L77 (K110 : Mem → Option (Mem)) (z1 : Int32) (z2 : Int32) : Nat → Int32 → Mem → Option (Mem)
  | 0, _, _ => none
  | n + 1, y3, M =>
    if (4 * z2) ≤ y3 then
    (K110 M)
    else
    (if z1 = 2 then
    ((rd M 217 128 (64 + y3)).bind fun v4 =>
    (wr M 217 128 y3 v4).bind fun M5 =>
    fX12_takesOther_L77 K110 z1 z2 n (y3 + 1) M5)
    else
    (K110 M))
def fX12_takesOther_L7 (z2 : Int32) : Nat → Int32 → Mem → Option (Mem)
  | 0, _, _ => none
  | n + 1, y3, M =>
    if 14 ≤ y3 then
    (bnd (mu M 198 39 z2) fun M13 =>
    some M13)
    else
    ((rd M 218 28 (14 + y3)).bind fun v14 =>
    (wr M 218 28 y3 v14).bind fun M15 =>
    fX12_takesOther_L7 z2 n (y3 + 1) M15)
def fX12_takesOther (p1 : Int32) (p2 : Int32) (M : Mem) : Option (Mem) :=
  if p1 = 3 then
  (fX12_takesOther_L7 p2 FU 0 M)
  else
  (fX12_takesOther_L42 (fun (M3 : Mem) =>
  fX12_takesOther_L77 (fun (M6 : Mem) =>
  jn (fun (M8 : Mem) => if p1 = 2 then
  (bnd (mu M8 198 37 p2) fun M10 =>
  bnd (mu M10 198 3 0) fun M11 =>
  some M11)
  else
  (bnd (mu M8 198 3 0) fun M9 =>
  some M9)) fun (J7 : (Mem) → Option (Mem)) =>
  if p1 = 1 then
  (bnd (mu M6 198 35 p2) fun M12 =>
  J7 M12)
  else
  (J7 M6)) p1 p2 FU 0 M3) p1 p2 FU 0 M)
def fX12_text (p1 : Int32) (M : Mem) : Option (Int32 × Mem) :=
  bnd (mu M 198 0 0) fun M1 =>
  bnd (mu M1 198 33 0) fun M2 =>
  bnd (mu M2 198 34 (-1)) fun M3 =>
  bnd (mu M3 198 14 0) fun M4 =>
  bnd (mu M4 198 27 0) fun M5 =>
  bnd (mu M5 198 28 0) fun M6 =>
  jn (fun (a8 : Int32) (M9 : Mem) => bnd (mu M9 198 13 0) fun M10 =>
  if a8 = (-1) then
  (some ((-1), M10))
  else
  (if p1 = 0 then
  ((fX12_takesLaw a8 M10).bind fun M12 =>
  some (a8, M12))
  else
  ((fX12_takesOther p1 a8 M10).bind fun M11 =>
  some (a8, M11)))) fun (J7 : (Int32) → (Mem) → Option (Int32 × Mem)) =>
  if (fX12_isIn p1 0 3) = 0 then
  (J7 (-1) M6)
  else
  ((fX12_readsText p1 M6).bind fun r13 =>
  if r13.1 = (-1) then
  (bnd (mu r13.2 198 33 (r13.2 198 31)) fun M14 =>
  bnd (mu M14 198 34 (M14 198 32)) fun M15 =>
  J7 r13.1 M15)
  else
  (J7 r13.1 r13.2))
def fX11_fault (p1 : Int32) (M : Mem) : Int32 :=
  if p1 = 0 then
  (M 178 2)
  else
  (if p1 = 1 then
  (M 178 3)
  else
  ((-1)))
def fX12_fault (p1 : Int32) (M : Mem) : Option (Int32 × Mem) :=
  bnd (mu M 198 0 0) fun M1 =>
  if p1 = 0 then
  (some (M1 198 33, M1))
  else
  (if p1 = 1 then
  (some (M1 198 34, M1))
  else
  (some ((-1), M1)))
def fX9_bargainsOf_L4 (z1 : Int32) (M : Mem) : Nat → Int32 → Int32 → Option (Int32)
  | 0, _, _ => none
  | n + 1, y2, y3 =>
    if (M 2 5) ≤ y3 then
    (some y2)
    else
    ((fX9_isOneOf y3 z1 M).bind fun v1 =>
    jn (fun (a3 : Int32) => fX9_bargainsOf_L4 z1 M n a3 (y3 + 1)) fun (J2 : (Int32) → Option (Int32)) =>
    if v1 = 0 then
    (J2 y2)
    else
    (bnd (y2 ||| (jshl 1 y3) : Int32) fun x4 =>
    J2 x4))
def fX9_bargainsOf (p1 : Int32) (M : Mem) : Option (Int32) :=
  fX9_bargainsOf_L4 p1 M FU 0 0
def fX0_heardBy_L4 (z1 : Int32) (M : Mem) : Nat → Int32 → Int32 → Option (Int32)
  | 0, _, _ => none
  | n + 1, y2, y3 =>
    if (M 35 0) ≤ y3 then
    (some y2)
    else
    ((rd M 39 16 y3).bind fun v1 =>
    jn (fun (a3 : Int32) => fX0_heardBy_L4 z1 M n a3 (y3 + 1)) fun (J2 : (Int32) → Option (Int32)) =>
    if v1 = z1 then
    ((rd M 38 16 y3).bind fun v4 =>
    bnd (y2 ||| (jshl 1 v4) : Int32) fun x5 =>
    J2 x5)
    else
    (J2 y2))
def fX0_heardBy (p1 : Int32) (M : Mem) : Option (Int32) :=
  fX0_heardBy_L4 p1 M FU 0 0
def fX11_of (p1 : Int32) (p2 : Int32) (M : Mem) : Option (Int32) :=
  if (fX9_hasPerson 2 p1 M) = 0 then
  (some (-1))
  else
  (swt p2 0 [((rd M 3 12 p1).bind fun v1 =>
  some v1),
  ((rd M 4 12 p1).bind fun v2 =>
  some v2),
  ((rd M 5 12 p1).bind fun v3 =>
  some v3),
  ((fX9_bargainsOf p1 M).bind fun v4 =>
  some v4),
  ((fX0_heardBy p1 M).bind fun v5 =>
  some v5)] (some (-1)))
def fX12_bargainsOf_L4 (z1 : Int32) (M : Mem) : Nat → Int32 → Int32 → Option (Int32)
  | 0, _, _ => none
  | n + 1, y2, y3 =>
    if (M 198 7) ≤ y3 then
    (some y2)
    else
    ((rd M 202 14 y3).bind fun v1 =>
    jn (fun (a3 : Int32) => fX12_bargainsOf_L4 z1 M n a3 (y3 + 1)) fun (J2 : (Int32) → Option (Int32)) =>
    jn (bnd (y2 ||| (jshl 1 y3) : Int32) fun x5 =>
    J2 x5) fun (J4 : Option (Int32)) =>
    if v1 = z1 then
    (J4)
    else
    ((rd M 203 14 y3).bind fun v6 =>
    if v6 = z1 then
    (J4)
    else
    (J2 y2)))
def fX12_bargainsOf (p1 : Int32) (M : Mem) : Option (Int32) :=
  fX12_bargainsOf_L4 p1 M FU 0 0
def fX12_of_L62 (z1 : Int32) (M : Mem) : Nat → Int32 → Int32 → Option (Int32 × Mem)
  | 0, _, _ => none
  | n + 1, y3, y4 =>
    if (M 198 7) ≤ y4 then
    (some (y3, M))
    else
    ((rd M 218 28 y4).bind fun v2 =>
    jn (fun (a4 : Int32) => fX12_of_L62 z1 M n a4 (y4 + 1)) fun (J3 : (Int32) → Option (Int32 × Mem)) =>
    if (fX12_has v2 z1) = 0 then
    (J3 y3)
    else
    (bnd (y3 ||| (jshl 1 y4) : Int32) fun x5 =>
    J3 x5))
def fX12_of (p1 : Int32) (p2 : Int32) (M : Mem) : Option (Int32 × Mem) :=
  bnd (mu M 198 0 0) fun M1 =>
  if (fX12_isPerson p1 M1) = 0 then
  (some ((-1), M1))
  else
  (if (fX12_isIn p2 0 2) = 0 then
  (if p2 = 3 then
  ((fX12_bargainsOf p1 M1).bind fun v6 =>
  some (v6, M1))
  else
  (if p2 = 4 then
  (fX12_of_L62 p1 M1 FU 0 0)
  else
  (some ((-1), M1))))
  else
  ((rd M1 199 83 ((5 + (12 * p2)) + p1)).bind fun v7 =>
  some (v7, M1)))
def fX11_phraseTold (p1 : Int32) (p2 : Int32) (M : Mem) : Option (Int32 × Mem) :=
  if (fX9_hasBargain 2 p1 M) = 0 then
  (some ((-1), M))
  else
  (if (fX11_isWithin p2 10 49) = 0 then
  (some ((-1), M))
  else
  (bnd ((p2 / 10) - 1 : Int32) fun x1 =>
  bnd (jrem p2 10 : Int32) fun x2 =>
  (rd M 8 14 p1).bind fun v3 =>
  if (fX11_isWithin x2 1 v3) = 0 then
  (some ((-1), M))
  else
  (jn (fun (t5 : Int32) => (fX0_asked t5 2 p1 (jrem x1 2) x2 M).bind fun r6 =>
  some (r6.1, r6.2)) fun (J4 : (Int32) → Option (Int32 × Mem)) =>
  if 2 ≤ x1 then
  (J4 2)
  else
  (J4 0))))
def fX11_deal (p1 : Int32) (p2 : Int32) (M : Mem) : Option (Int32 × Mem) :=
  if (fX9_hasBargain 2 p1 M) = 0 then
  (some ((-1), M))
  else
  (swt p2 0 [((rd M 6 14 p1).bind fun v1 =>
  some (v1, M)),
  ((rd M 7 14 p1).bind fun v2 =>
  some (v2, M)),
  ((rd M 8 14 p1).bind fun v3 =>
  some (v3, M)),
  ((rd M 9 14 p1).bind fun v4 =>
  some (v4, M)),
  ((fX9_hasSaid 2 p1 0 M).bind fun v5 =>
  if v5 = 0 then
  (some (0, M))
  else
  (some (1, M))),
  ((fX9_hasSaid 2 p1 1 M).bind fun v6 =>
  if v6 = 0 then
  (some (0, M))
  else
  (some (1, M))),
  ((rd M 11 14 p1).bind fun v7 =>
  some (v7, M)),
  ((fX0_asked 1 2 p1 (-1) 0 M).bind fun r8 =>
  some (r8.1, r8.2)),
  ((fX0_hearersOf p1 M).bind fun v9 =>
  some (fJ6_bitCount_0f7a4 v9, M))] ((fX11_phraseTold p1 p2 M).bind fun r10 =>
  some (r10.1, r10.2)))
def fX12_deal (p1 : Int32) (p2 : Int32) (M : Mem) : Option (Int32 × Mem) :=
  bnd (mu M 198 0 0) fun M1 =>
  if (fX12_isBargain p1 M1) = 0 then
  (some ((-1), M1))
  else
  (if 0 ≤ p2 then
  (jn ((fX12_hopperOf p1 p2 M1).bind fun v3 =>
  some (v3, M1)) fun (J2 : Option (Int32 × Mem)) =>
  if p2 = 0 then
  (J2)
  else
  (if p2 = 1 then
  (J2)
  else
  (if p2 = 2 then
  ((rd M1 204 14 p1).bind fun v16 =>
  some (v16, M1))
  else
  (if p2 = 3 then
  ((rd M1 199 83 (41 + p1)).bind fun v15 =>
  some (v15, M1))
  else
  (jn ((rd M1 199 83 (55 + p1)).bind fun v5 =>
  if (fX12_has v5 (p2 - 4)) = 0 then
  (some (0, M1))
  else
  (some (1, M1))) fun (J4 : Option (Int32 × Mem)) =>
  if p2 = 4 then
  (J4)
  else
  (if p2 = 5 then
  (J4)
  else
  (if p2 = 6 then
  ((rd M1 199 83 (69 + p1)).bind fun v14 =>
  some (v14, M1))
  else
  (if p2 = 7 then
  ((fX12_wipesOf p1 M1).bind fun r13 =>
  some (r13.1, r13.2))
  else
  (if p2 = 8 then
  ((rd M1 218 28 p1).bind fun v11 =>
  (fX12_onesOf v11).bind fun v12 =>
  some (v12, M1))
  else
  (bnd (jrem p2 10 : Int32) fun x6 =>
  if (fX12_isIn p2 10 49) = 0 then
  (some ((-1), M1))
  else
  ((rd M1 204 14 p1).bind fun v7 =>
  if (fX12_isIn x6 1 v7) = 0 then
  (some ((-1), M1))
  else
  ((fX12_hopperOf p1 (jrem ((p2 / 10) + 1) 2) M1).bind fun v8 =>
  if 30 ≤ p2 then
  ((fX12_costsOn p1 v8 x6 M1).bind fun r9 =>
  some (r9.1, r9.2))
  else
  ((fX12_landsOn p1 v8 x6 M1).bind fun r10 =>
  some (r10.1, r10.2))))))))))))))
  else
  (some ((-1), M1)))
def fX11_book (p1 : Int32) (p2 : Int32) (M : Mem) : Option (Int32) :=
  if (fX11_isWithin p1 0 ((M 12 0) - 1)) = 0 then
  (some (-1))
  else
  (swt p2 0 [((rd M 13 150 p1).bind fun v1 =>
  some v1),
  ((rd M 14 150 p1).bind fun v2 =>
  some v2),
  ((rd M 15 150 p1).bind fun v3 =>
  some v3),
  ((rd M 16 150 p1).bind fun v4 =>
  some v4)] (some (-1)))
def fX12_book (p1 : Int32) (p2 : Int32) (M : Mem) : Option (Int32 × Mem) :=
  bnd (mu M 198 0 0) fun M1 =>
  (rd M1 199 83 2).bind fun v2 =>
  if (fX12_isIn p1 0 (v2 - 1)) = 0 then
  (some ((-1), M1))
  else
  (if (fX12_isIn p2 0 3) = 0 then
  (some ((-1), M1))
  else
  ((rd M1 205 600 ((4 * p1) + p2)).bind fun v3 =>
  some (v3, M1)))
def fX9_thoseThatAre_L4 (k0 : Nat) (z1 : Int32) (M : Mem) : Nat → Int32 → Int32 → Option (Int32)
  | 0, _, _ => none
  | n + 1, y2, y3 =>
    if (M k0 5) ≤ y3 then
    (some y2)
    else
    ((rd M (k0 + 9) 14 y3).bind fun v1 =>
    jn (fun (a3 : Int32) => fX9_thoseThatAre_L4 k0 z1 M n a3 (y3 + 1)) fun (J2 : (Int32) → Option (Int32)) =>
    if v1 = z1 then
    (bnd (y2 ||| (jshl 1 y3) : Int32) fun x4 =>
    J2 x4)
    else
    (J2 y2))
def fX9_thoseThatAre (k0 : Nat) (p1 : Int32) (M : Mem) : Option (Int32) :=
  fX9_thoseThatAre_L4 k0 p1 M FU 0 0
def fX9_owesOfAll_L4 (M : Mem) : Nat → Int32 → Int32 → Option (Int32)
  | 0, _, _ => none
  | n + 1, y1, y2 =>
    if (M 168 4) ≤ y2 then
    (some y1)
    else
    ((rd M 171 12 y2).bind fun v1 =>
    bnd (y1 + v1 : Int32) fun x2 =>
    fX9_owesOfAll_L4 M n x2 (y2 + 1))
def fX9_owesOfAll  (M : Mem) : Option (Int32) :=
  fX9_owesOfAll_L4 M FU 0 0
def fX9_clearOfAll_L4 (M : Mem) : Nat → Int32 → Int32 → Option (Int32)
  | 0, _, _ => none
  | n + 1, y1, y2 =>
    if (M 168 5) ≤ y2 then
    (some y1)
    else
    ((rd M 175 14 y2).bind fun v1 =>
    bnd (y1 + v1 : Int32) fun x2 =>
    fX9_clearOfAll_L4 M n x2 (y2 + 1))
def fX9_clearOfAll  (M : Mem) : Option (Int32) :=
  fX9_clearOfAll_L4 M FU 0 0
def fX11_goes_L37 (K61 : Mem → Option (Int32 × Mem)) (z1 : Int32) : Nat → Int32 → Mem → Option (Int32 × Mem)
  | 0, _, _ => none
  | n + 1, y3, M =>
    if z1 ≤ y3 then
    (K61 M)
    else
    ((fX0_goDay 168 1 M).bind fun r2 =>
    fX11_goes_L37 K61 z1 n (y3 + 1) r2.2)
def fX11_goes (p1 : Int32) (p2 : Int32) (M : Mem) : Option (Int32 × Mem) :=
  if (fX11_isWithin p1 1 60) = 0 then
  (some ((-1), M))
  else
  (if (fX11_isWithin p2 0 3) = 0 then
  (some ((-1), M))
  else
  ((fX9_copyFrom 168 2 M).bind fun M1 =>
  fX11_goes_L37 (fun (M3 : Mem) =>
  swt p2 0 [((fX9_thoseThatAre 168 1 M3).bind fun v4 =>
  some (fJ6_bitCount_0f7a4 v4, M3)),
  ((fX9_owesOfAll M3).bind fun v5 =>
  some (v5, M3)),
  ((fX9_thoseThatAre 168 2 M3).bind fun v6 =>
  some (fJ6_bitCount_0f7a4 v6, M3))] ((fX9_clearOfAll M3).bind fun v7 =>
  some (v7, M3))) p1 FU 0 M1))
def fX12_thinks_L2  : Nat → Int32 → Mem → Option (Mem)
  | 0, _, _ => none
  | n + 1, y1, M =>
    if 83 ≤ y1 then
    (bnd (mu M 198 5 1) fun M1 =>
    some M1)
    else
    ((rd M 199 83 y1).bind fun v2 =>
    (wr M 201 83 y1 v2).bind fun M3 =>
    fX12_thinks_L2 n (y1 + 1) M3)
def fX12_thinks  (M : Mem) : Option (Mem) :=
  fX12_thinks_L2 FU 0 M
def fX12_setThatIs_L4 (z1 : Int32) (M : Mem) : Nat → Int32 → Int32 → Option (Int32)
  | 0, _, _ => none
  | n + 1, y2, y3 =>
    if (M 198 7) ≤ y3 then
    (some y2)
    else
    ((rd M 199 83 (69 + y3)).bind fun v1 =>
    jn (fun (a3 : Int32) => fX12_setThatIs_L4 z1 M n a3 (y3 + 1)) fun (J2 : (Int32) → Option (Int32)) =>
    if v1 = z1 then
    (bnd (y2 ||| (jshl 1 y3) : Int32) fun x4 =>
    J2 x4)
    else
    (J2 y2))
def fX12_setThatIs (p1 : Int32) (M : Mem) : Option (Int32) :=
  fX12_setThatIs_L4 p1 M FU 0 0
def fX12_sumOf_L5 (z1 : Int32) (z2 : Int32) (M : Mem) : Nat → Int32 → Int32 → Option (Int32)
  | 0, _, _ => none
  | n + 1, y3, y4 =>
    if z2 ≤ y4 then
    (some y3)
    else
    ((rd M 199 83 (z1 + y4)).bind fun v1 =>
    bnd (y3 + v1 : Int32) fun x2 =>
    fX12_sumOf_L5 z1 z2 M n x2 (y4 + 1))
def fX12_sumOf (p1 : Int32) (p2 : Int32) (M : Mem) : Option (Int32) :=
  fX12_sumOf_L5 p1 p2 M FU 0 0
def fX12_endsThought_L2  : Nat → Int32 → Mem → Option (Mem)
  | 0, _, _ => none
  | n + 1, y1, M =>
    if 83 ≤ y1 then
    (bnd (mu M 198 5 0) fun M1 =>
    some M1)
    else
    ((rd M 201 83 y1).bind fun v2 =>
    (wr M 199 83 y1 v2).bind fun M3 =>
    fX12_endsThought_L2 n (y1 + 1) M3)
def fX12_endsThought  (M : Mem) : Option (Mem) :=
  fX12_endsThought_L2 FU 0 M
def fX12_goes_L34 (K50 : Mem → Option (Int32 × Mem)) (z1 : Int32) : Nat → Int32 → Mem → Option (Int32 × Mem)
  | 0, _, _ => none
  | n + 1, y3, M =>
    if z1 ≤ y3 then
    (K50 M)
    else
    ((fX12_goesBy M).bind fun r3 =>
    fX12_goes_L34 K50 z1 n (y3 + 1) r3.2)
def fX12_goes (p1 : Int32) (p2 : Int32) (M : Mem) : Option (Int32 × Mem) :=
  bnd (mu M 198 0 0) fun M1 =>
  if (fX12_isIn p1 1 60) = 0 then
  (some ((-1), M1))
  else
  (if (fX12_isIn p2 0 3) = 0 then
  (some ((-1), M1))
  else
  ((fX12_thinks M1).bind fun M2 =>
  fX12_goes_L34 (fun (M4 : Mem) =>
  jn (fun (t6 : Int32) => (fX12_endsThought M4).bind fun M7 =>
  some (t6, M7)) fun (J5 : (Int32) → Option (Int32 × Mem)) =>
  if p2 = 0 then
  ((fX12_setThatIs 1 M4).bind fun v12 =>
  (fX12_onesOf v12).bind fun v13 =>
  J5 v13)
  else
  (if p2 = 1 then
  ((fX12_sumOf 29 (M4 198 6) M4).bind fun v11 =>
  J5 v11)
  else
  (if p2 = 2 then
  ((fX12_setThatIs 2 M4).bind fun v9 =>
  (fX12_onesOf v9).bind fun v10 =>
  J5 v10)
  else
  ((fX12_sumOf 41 (M4 198 7) M4).bind fun v8 =>
  J5 v8)))) p1 FU 0 M2))
def fX11_holds_L32 (z1 : Int32) : Nat → Int32 → Mem → Option (Int32 × Mem)
  | 0, _, _ => none
  | n + 1, y2, M =>
    if 60 < y2 then
    (some ((-1), M))
    else
    ((rd M 177 14 z1).bind fun v2 =>
    if v2 = 1 then
    (some (y2, M))
    else
    ((fX0_goDay 168 1 M).bind fun r3 =>
    fX11_holds_L32 z1 n (y2 + 1) r3.2))
def fX11_holds (p1 : Int32) (M : Mem) : Option (Int32 × Mem) :=
  if (fX9_hasBargain 2 p1 M) = 0 then
  (some ((-1), M))
  else
  ((fX9_copyFrom 168 2 M).bind fun M1 =>
  fX11_holds_L32 p1 FU 0 M1)
def fX12_holds_L21 (K52 : Int32 → Mem → Option (Int32 × Mem)) (z1 : Int32) : Nat → Int32 → Mem → Option (Int32 × Mem)
  | 0, _, _ => none
  | n + 1, y2, M =>
    if 60 < y2 then
    (K52 y2 M)
    else
    ((rd M 199 83 (69 + z1)).bind fun v3 =>
    if v3 = 1 then
    (K52 y2 M)
    else
    ((fX12_goesBy M).bind fun r4 =>
    bnd (y2 + 1 : Int32) fun x5 =>
    fX12_holds_L21 K52 z1 n x5 r4.2))
def fX12_holds (p1 : Int32) (M : Mem) : Option (Int32 × Mem) :=
  bnd (mu M 198 0 0) fun M1 =>
  if (fX12_isBargain p1 M1) = 0 then
  (some ((-1), M1))
  else
  ((fX12_thinks M1).bind fun M2 =>
  fX12_holds_L21 (fun (e6 : Int32) (M7 : Mem) =>
  (fX12_endsThought M7).bind fun M8 =>
  if e6 ≤ 60 then
  (some (e6, M8))
  else
  (some ((-1), M8))) p1 FU 0 M2)
def fX11_deals (p1 : Int32) (p2 : Int32) (M : Mem) : Option (Int32) :=
  if (fX9_areTwo p1 p2 M) = 0 then
  (some (-1))
  else
  ((fX9_bargainsOf p1 M).bind fun v1 =>
  (fX9_bargainsOf p2 M).bind fun v2 =>
  (fX9_thoseThatAre 2 1 M).bind fun v3 =>
  some (fJ6_bitCount_0f7a4 ((v1 &&& v2) &&& v3)))
def fX12_deals (p1 : Int32) (p2 : Int32) (M : Mem) : Option (Int32 × Mem) :=
  bnd (mu M 198 0 0) fun M1 =>
  if (fX12_isPerson p1 M1) = 0 then
  (some ((-1), M1))
  else
  (if (fX12_isPerson p2 M1) = 0 then
  (some ((-1), M1))
  else
  (if p1 = p2 then
  (some ((-1), M1))
  else
  ((fX12_bargainsOf p1 M1).bind fun v2 =>
  (fX12_bargainsOf p2 M1).bind fun v3 =>
  (fX12_setThatIs 1 M1).bind fun v4 =>
  (fX12_onesOf ((v2 &&& v3) &&& v4)).bind fun v5 =>
  some (v5, M1))))
def fX7_has_L2 (k0 : Nat) (z1 : Int32) (M : Mem) : Nat → Int32 → Option (Int32)
  | 0, _ => none
  | n + 1, y2 =>
    if (M k0 0) ≤ y2 then
    (some 0)
    else
    ((rd M (k0 + 1) (kn (k0 + 1)) y2).bind fun v1 =>
    if v1 = z1 then
    (some 1)
    else
    (fX7_has_L2 k0 z1 M n (y2 + 1)))
def fX7_has (k0 : Nat) (p1 : Int32) (M : Mem) : Option (Int32) :=
  fX7_has_L2 k0 p1 M FU 0
def fX7_tell (k0 : Nat) (p1 : Int32) (M : Mem) : Option (Int32 × Mem) :=
  if p1 = (-1) then
  (bnd (mu M k0 0 0) fun M5 =>
  some (0, M5))
  else
  (if (fX11_isWithin p1 (M k0 2) (M k0 3)) = 0 then
  (some ((-1), M))
  else
  (if (nI (kn (k0 + 1))) ≤ (M k0 0) then
  (some ((-1), M))
  else
  (jn ((wr M (k0 + 1) (kn (k0 + 1)) (M k0 0) p1).bind fun M2 =>
  bnd (mu M2 k0 0 ((M2 k0 0) + 1)) fun M3 =>
  some (M3 k0 0, M3)) fun (J1 : Option (Int32 × Mem)) =>
  if (M k0 4) = 0 then
  (J1)
  else
  ((fX7_has k0 p1 M).bind fun v4 =>
  if v4 = 0 then
  (J1)
  else
  (some ((-1), M))))))
def fX11_jump (p1 : Int32) (M : Mem) : Option (Int32 × Mem) :=
  (fX7_tell 41 p1 M).bind fun r1 =>
  some (r1.1, r1.2)
def fX12_jump (p1 : Int32) (M : Mem) : Option (Int32 × Mem) :=
  bnd (mu M 198 0 0) fun M1 =>
  if p1 = (-1) then
  (bnd (mu M1 198 43 0) fun M4 =>
  some (0, M4))
  else
  (if (fX12_isIn p1 0 9) = 0 then
  (some ((-1), M1))
  else
  (if (M1 198 43) = 14 then
  (some ((-1), M1))
  else
  ((wr M1 221 14 (M1 198 43) p1).bind fun M2 =>
  bnd (mu M2 198 43 ((M2 198 43) + 1)) fun M3 =>
  some (M3 198 43, M3))))
def fX10_fewestJumps_L42 (K91 : Mem → Option (Int32 × Mem)) (z1 : Int32) : Nat → Int32 → Mem → Option (Int32 × Mem)
  | 0, _, _ => none
  | n + 1, y2, M =>
    if z1 ≤ y2 then
    (K91 M)
    else
    ((rd M 42 14 y2).bind fun v3 =>
    jn (fun (M5 : Mem) => fX10_fewestJumps_L42 K91 z1 n (y2 + 1) M5) fun (J4 : (Mem) → Option (Int32 × Mem)) =>
    if (y2 + v3) < z1 then
    (J4 M)
    else
    ((rd M 50 14 z1).bind fun v6 =>
    (rd M 50 14 y2).bind fun v7 =>
    (wr M 50 14 z1 (jmin v6 (v7 + 1))).bind fun M8 =>
    J4 M8))
def fX10_fewestJumps_L21 (K97 : Mem → Option (Int32 × Mem)) : Nat → Int32 → Mem → Option (Int32 × Mem)
  | 0, _, _ => none
  | n + 1, y1, M =>
    if (M 41 0) ≤ y1 then
    (K97 M)
    else
    ((wr M 50 14 y1 99).bind fun M2 =>
    fX10_fewestJumps_L42 (fun (M9 : Mem) =>
    fX10_fewestJumps_L21 K97 n (y1 + 1) M9) y1 FU 0 M2)
def fX10_fewestJumps  (M : Mem) : Option (Int32 × Mem) :=
  if 0 < (M 41 0) then
  ((wr M 50 14 0 0).bind fun M1 =>
  fX10_fewestJumps_L21 (fun (M10 : Mem) =>
  (rd M10 50 14 ((M10 41 0) - 1)).bind fun v11 =>
  if 99 ≤ v11 then
  (some ((-1), M10))
  else
  (some (v11, M10))) FU 1 M1)
  else
  (some ((-1), M))
def fX10_furthestPlace_L4 (K42 : Int32 → Option (Int32)) (M : Mem) : Nat → Int32 → Int32 → Option (Int32)
  | 0, _, _ => none
  | n + 1, y1, y2 =>
    if (M 41 0) ≤ y2 then
    (K42 y1)
    else
    (if y1 < y2 then
    (K42 y1)
    else
    ((rd M 42 14 y2).bind fun v1 =>
    bnd (jmax y1 (y2 + v1) : Int32) fun x2 =>
    fX10_furthestPlace_L4 K42 M n x2 (y2 + 1)))
def fX10_furthestPlace  (M : Mem) : Option (Int32) :=
  fX10_furthestPlace_L4 (fun (e3 : Int32) =>
  some (jmin e3 ((M 41 0) - 1))) M FU 0 0
def fX11_jumps (p1 : Int32) (M : Mem) : Option (Int32 × Mem) :=
  if p1 = 0 then
  ((fX10_fewestJumps M).bind fun r2 =>
  some (r2.1, r2.2))
  else
  (if p1 = 1 then
  ((fX10_furthestPlace M).bind fun v1 =>
  some (v1, M))
  else
  (some ((-1), M)))
def fX12_lesser (p1 : Int32) (p2 : Int32) : Int32 :=
  if p2 ≤ p1 then
  (p2)
  else
  (p1)
def fX12_jumps_L56 (K107 : Mem → Option (Int32 × Mem)) (z3 : Int32) : Nat → Int32 → Mem → Option (Int32 × Mem)
  | 0, _, _ => none
  | n + 1, y4, M =>
    if z3 ≤ y4 then
    (K107 M)
    else
    ((rd M 221 14 y4).bind fun v5 =>
    jn (fun (M7 : Mem) => fX12_jumps_L56 K107 z3 n (y4 + 1) M7) fun (J6 : (Mem) → Option (Int32 × Mem)) =>
    if (y4 + v5) < z3 then
    (J6 M)
    else
    ((rd M 222 14 z3).bind fun v8 =>
    (rd M 222 14 y4).bind fun v9 =>
    (wr M 222 14 z3 (fX12_lesser v8 (v9 + 1))).bind fun M10 =>
    J6 M10))
def fX12_jumps_L28 (K127 : Int32 → Mem → Option (Int32 × Mem)) : Nat → Int32 → Int32 → Mem → Option (Int32 × Mem)
  | 0, _, _, _ => none
  | n + 1, y2, y3, M =>
    if (M 198 43) ≤ y3 then
    (K127 y2 M)
    else
    (jn (fun (t3 : Int32) => (wr M 222 14 y3 t3).bind fun M4 =>
    fX12_jumps_L56 (fun (M11 : Mem) =>
    (rd M11 222 14 y3).bind fun v12 =>
    jn (fun (a14 : Int32) => fX12_jumps_L28 K127 n a14 (y3 + 1) M11) fun (J13 : (Int32) → Option (Int32 × Mem)) =>
    if 100000000 ≤ v12 then
    (J13 y2)
    else
    (J13 y3)) y3 FU 0 M4) fun (J2 : (Int32) → Option (Int32 × Mem)) =>
    if y3 = 0 then
    (J2 0)
    else
    (J2 100000000))
def fX12_jumps (p1 : Int32) (M : Mem) : Option (Int32 × Mem) :=
  bnd (mu M 198 0 0) fun M1 =>
  if (fX12_isIn p1 0 1) = 0 then
  (some ((-1), M1))
  else
  (if (M1 198 43) = 0 then
  (some ((-1), M1))
  else
  (fX12_jumps_L28 (fun (e15 : Int32) (M16 : Mem) =>
  if p1 = 1 then
  (some (e15, M16))
  else
  ((rd M16 222 14 ((M16 198 43) - 1)).bind fun v17 =>
  if 100000000 ≤ v17 then
  (some ((-1), M16))
  else
  ((rd M16 222 14 ((M16 198 43) - 1)).bind fun v18 =>
  some (v18, M16)))) FU 0 0 M1))
def hX5_walksFrom (rX5_walksFrom : Int32 → Int32 → Int32 → Mem → Option (Int32 × Mem)) (p1 : Int32) (p2 : Int32) (p3 : Int32) (M : Mem) : Option (Int32 × Mem) :=
  if p1 < 0 then
  (some (0, M))
  else
  (if 289 ≤ p1 then
  (some (0, M))
  else
  ((rd M 196 289 p1).bind fun v1 =>
  if v1 = 0 then
  (if 0 < p2 then
  ((wr M 196 289 p1 (nzb 1)).bind fun M2 =>
  (rX5_walksFrom (p1 + 17) (p2 - 1) p3 M2).bind fun r3 =>
  (rX5_walksFrom (p1 + 1) (p2 - 1) p3 r3.2).bind fun r4 =>
  (rX5_walksFrom (p1 - 17) (p2 - 1) p3 r4.2).bind fun r5 =>
  (rX5_walksFrom (p1 - 1) (p2 - 1) p3 r5.2).bind fun r6 =>
  bnd (((r3.1 + r4.1) + r5.1) + r6.1 : Int32) fun x7 =>
  (wr r6.2 196 289 p1 (nzb 0)).bind fun M8 =>
  some (x7, M8))
  else
  (if p3 = (-1) then
  (some (1, M))
  else
  (if p3 = p1 then
  (some (1, M))
  else
  (some (0, M)))))
  else
  (some (0, M))))
def fX5_walksFrom : Nat → Int32 → Int32 → Int32 → Mem → Option (Int32 × Mem)
  | 0 => fun _ _ _ _ => none
  | n + 1 => hX5_walksFrom (fX5_walksFrom n)
def fX5_walksTo (p1 : Int32) (p2 : Int32) (M : Mem) : Option (Int32 × Mem) :=
  (fX5_walksFrom RU 144 p1 p2 M).bind fun r1 =>
  some (r1.1, r1.2)
def fX11_walks (p1 : Int32) (p2 : Int32) (p3 : Int32) (M : Mem) : Option (Int32 × Mem) :=
  if (fX11_isWithin p1 0 8) = 0 then
  (some ((-1), M))
  else
  (if p2 = (-100) then
  ((fX5_walksTo p1 (-1) M).bind fun r2 =>
  some (r2.1, r2.2))
  else
  (if (fX11_isWithin p2 (-8) 8) = 0 then
  (some ((-1), M))
  else
  (if (fX11_isWithin p3 (-8) 8) = 0 then
  (some ((-1), M))
  else
  ((fX5_walksTo p1 ((((p3 + 8) * 17) + p2) + 8) M).bind fun r1 =>
  some (r1.1, r1.2)))))
def fX12_walkEnds_L69 (K96 : Option (Int32 × Mem)) (z4 : Int32) (z5 : Int32) (M : Mem) : Nat → Int32 → Option (Int32 × Mem)
  | 0, _ => none
  | n + 1, y7 =>
    if z5 ≤ y7 then
    (K96)
    else
    ((rd M 223 9 y7).bind fun v6 =>
    if v6 = z4 then
    (some ((-1), M))
    else
    (fX12_walkEnds_L69 K96 z4 z5 M n (y7 + 1)))
def fX12_walkEnds_L18 (z1 : Int32) : Nat → Int32 → Int32 → Int32 → Mem → Option (Int32 × Mem)
  | 0, _, _, _, _ => none
  | n + 1, y3, y4, y5, M =>
    if z1 < y5 then
    (some (y4, M))
    else
    (bnd (jrem y3 4 : Int32) fun x2 =>
    jn (fun (t4 : Int32) => bnd (y4 + t4 : Int32) fun x5 =>
    fX12_walkEnds_L69 ((wr M 223 9 y5 x5).bind fun M7 =>
    bnd (y3 / 4 : Int32) fun x8 =>
    fX12_walkEnds_L18 z1 n x8 x5 (y5 + 1) M7) x5 y5 M FU 0) fun (J3 : (Int32) → Option (Int32 × Mem)) =>
    if x2 = 0 then
    (J3 1)
    else
    (if x2 = 1 then
    (J3 (-1))
    else
    (if x2 = 2 then
    (J3 100)
    else
    (J3 (-100)))))
def fX12_walkEnds (p1 : Int32) (p2 : Int32) (M : Mem) : Option (Int32 × Mem) :=
  (wr M 223 9 0 5050).bind fun M1 =>
  fX12_walkEnds_L18 p1 FU p2 5050 1 M1
def fX12_walks_L66 (z1 : Int32) (z2 : Int32) (z3 : Int32) (z4 : Int32) : Nat → Int32 → Int32 → Mem → Option (Int32 × Mem)
  | 0, _, _, _ => none
  | n + 1, y5, y6, M =>
    if (jshl 1 (2 * z1)) ≤ y6 then
    (some (y5, M))
    else
    ((fX12_walkEnds z1 y6 M).bind fun r5 =>
    jn (fun (a7 : Int32) => fX12_walks_L66 z1 z2 z3 z4 n a7 (y6 + 1) r5.2) fun (J6 : (Int32) → Option (Int32 × Mem)) =>
    if r5.1 = (-1) then
    (J6 y5)
    else
    (jn (bnd (y5 + 1 : Int32) fun x9 =>
    J6 x9) fun (J8 : Option (Int32 × Mem)) =>
    if z4 = 0 then
    (if r5.1 = ((5050 + (100 * z3)) + z2) then
    (J8)
    else
    (J6 y5))
    else
    (J8)))
def fX12_walks (p1 : Int32) (p2 : Int32) (p3 : Int32) (M : Mem) : Option (Int32 × Mem) :=
  bnd (mu M 198 0 0) fun M1 =>
  jn (fun (t3 : Int32) => if (fX12_isIn p1 0 8) = 0 then
  (some ((-1), M1))
  else
  (jn (fX12_walks_L66 p1 p2 p3 t3 FU 0 0 M1) fun (J4 : Option (Int32 × Mem)) =>
  if t3 = 0 then
  (if (fX12_isIn p2 (-8) 8) = 0 then
  (some ((-1), M1))
  else
  (if (fX12_isIn p3 (-8) 8) = 0 then
  (some ((-1), M1))
  else
  (J4)))
  else
  (J4))) fun (J2 : (Int32) → Option (Int32 × Mem)) =>
  if p2 = (-100) then
  (J2 1)
  else
  (J2 0)
def fX5_leastApart_L20 (K41 : Int32 → Option (Int32)) (z4 : Int32) : Nat → Int32 → Option (Int32)
  | 0, _ => none
  | n + 1, y2 =>
    if 30000 ≤ y2 then
    (K41 y2)
    else
    (if z4 ≤ (y2 * y2) then
    (K41 y2)
    else
    (fX5_leastApart_L20 K41 z4 n (y2 + 1)))
def fX5_leastApart_L4 (K49 : Int32 → Int32 → Option (Int32)) (z0 : Int32) : Nat → Int32 → Int32 → Option (Int32)
  | 0, _, _ => none
  | n + 1, y2, y3 =>
    if 3588 < y3 then
    (some (-1))
    else
    (bnd (1 + ((z0 * y3) * y3) : Int32) fun x1 =>
    fX5_leastApart_L20 (fun (e2 : Int32) =>
    if (e2 * e2) = x1 then
    (K49 e2 y3)
    else
    (fX5_leastApart_L4 K49 z0 n e2 (y3 + 1))) x1 FU y2)
def fX5_leastApart (p0 : Int32) (p1 : Int32) : Option (Int32) :=
  fX5_leastApart_L4 (fun (e3 : Int32) (e4 : Int32) =>
  if p1 = 0 then
  (some e4)
  else
  (some e3)) p0 FU 2 1
def fX11_apart (p1 : Int32) (p2 : Int32) : Option (Int32) :=
  if (fX11_isWithin p1 2 50) = 0 then
  (some (-1))
  else
  (if (fX11_isWithin p2 0 1) = 0 then
  (some (-1))
  else
  (jn (fun (t2 : Int32) => (fX5_leastApart p1 t2).bind fun v3 =>
  some v3) fun (J1 : (Int32) → Option (Int32)) =>
  if p2 = 0 then
  (J1 1)
  else
  (J1 0)))
def fX12_apart_L30 (K52 : Option (Int32 × Mem)) (z1 : Int32) (M : Mem) : Nat → Int32 → Option (Int32 × Mem)
  | 0, _ => none
  | n + 1, y3 =>
    if z1 < (y3 * y3) then
    (K52)
    else
    (if (y3 * y3) = z1 then
    (some ((-1), M))
    else
    (fX12_apart_L30 K52 z1 M n (y3 + 1)))
def fX12_apart_L57 (K103 : Int32 → Int32 → Option (Int32 × Mem)) (z1 : Int32) (M : Mem) : Nat → Int32 → Int32 → Option (Int32 × Mem)
  | 0, _, _ => none
  | n + 1, y3, y4 =>
    if (y3 * y3) = (((z1 * y4) * y4) + 1) then
    (K103 y3 y4)
    else
    (if (((z1 * y4) * y4) + 1) ≤ (y3 * y3) then
    (bnd (y4 + 1 : Int32) fun x2 =>
    fX12_apart_L57 K103 z1 M n y3 x2)
    else
    (bnd (y3 + 1 : Int32) fun x3 =>
    fX12_apart_L57 K103 z1 M n x3 y4))
def fX12_apart (p1 : Int32) (p2 : Int32) (M : Mem) : Option (Int32 × Mem) :=
  bnd (mu M 198 0 0) fun M1 =>
  if (fX12_isIn p1 2 50) = 0 then
  (some ((-1), M1))
  else
  (if (fX12_isIn p2 0 1) = 0 then
  (some ((-1), M1))
  else
  (fX12_apart_L30 (fX12_apart_L57 (fun (e4 : Int32) (e5 : Int32) =>
  if p2 = 0 then
  (some (e4, M1))
  else
  (some (e5, M1))) p1 M1 FU 1 1) p1 M1 FU 2))
def fX5_cornersUpTo_L40 (K59 : Int32 → Option (Int32)) (z0 : Int32) (z5 : Int32) : Nat → Int32 → Option (Int32)
  | 0, _ => none
  | n + 1, y3 =>
    if z0 < y3 then
    (K59 y3)
    else
    (if z5 ≤ (y3 * y3) then
    (K59 y3)
    else
    (fX5_cornersUpTo_L40 K59 z0 z5 n (y3 + 1)))
def fX5_cornersUpTo_L18 (K81 : Int32 → Option (Int32)) (z0 : Int32) (z2 : Int32) : Nat → Int32 → Int32 → Int32 → Option (Int32)
  | 0, _, _, _ => none
  | n + 1, y1, y3, y4 =>
    if z0 ≤ y4 then
    (K81 y1)
    else
    (if z0 < y3 then
    (K81 y1)
    else
    (bnd ((z2 * z2) + (y4 * y4) : Int32) fun x3 =>
    fX5_cornersUpTo_L40 (fun (e4 : Int32) =>
    jn (fun (a6 : Int32) => fX5_cornersUpTo_L18 K81 z0 z2 n a6 e4 (y4 + 1)) fun (J5 : (Int32) → Option (Int32)) =>
    if z0 < e4 then
    (J5 y1)
    else
    (if (e4 * e4) = x3 then
    (J5 (y1 + 1))
    else
    (J5 y1))) z0 x3 FU y3))
def fX5_cornersUpTo_L4 (z0 : Int32) : Nat → Int32 → Int32 → Option (Int32)
  | 0, _, _ => none
  | n + 1, y1, y2 =>
    if z0 ≤ y2 then
    (some y1)
    else
    (bnd (y2 + 1 : Int32) fun x1 =>
    bnd (y2 + 1 : Int32) fun x2 =>
    fX5_cornersUpTo_L18 (fun (e7 : Int32) =>
    fX5_cornersUpTo_L4 z0 n e7 (y2 + 1)) z0 y2 FU y1 x1 x2)
def fX5_cornersUpTo (p0 : Int32) : Option (Int32) :=
  fX5_cornersUpTo_L4 p0 FU 0 1
def fX5_cornersAround_L13 (K53 : Int32 → Option (Int32)) (z0 : Int32) (z2 : Int32) : Nat → Int32 → Int32 → Option (Int32)
  | 0, _, _ => none
  | n + 1, y1, y3 =>
    if z0 ≤ (z2 + (2 * y3)) then
    (K53 y1)
    else
    (bnd ((z0 - z2) - y3 : Int32) fun x2 =>
    jn (fun (a4 : Int32) => fX5_cornersAround_L13 K53 z0 z2 n a4 (y3 + 1)) fun (J3 : (Int32) → Option (Int32)) =>
    if ((z2 * z2) + (y3 * y3)) = (x2 * x2) then
    (J3 (y1 + 1))
    else
    (J3 y1))
def fX5_cornersAround_L4 (z0 : Int32) : Nat → Int32 → Int32 → Option (Int32)
  | 0, _, _ => none
  | n + 1, y1, y2 =>
    if z0 ≤ y2 then
    (some y1)
    else
    (bnd (y2 + 1 : Int32) fun x1 =>
    fX5_cornersAround_L13 (fun (e5 : Int32) =>
    fX5_cornersAround_L4 z0 n e5 (y2 + 1)) z0 y2 FU y1 x1)
def fX5_cornersAround (p0 : Int32) : Option (Int32) :=
  fX5_cornersAround_L4 p0 FU 0 1
def fX11_corners (p1 : Int32) (p2 : Int32) : Option (Int32) :=
  if (fX11_isWithin p1 1 200) = 0 then
  (some (-1))
  else
  (if p2 = 0 then
  ((fX5_cornersUpTo p1).bind fun v2 =>
  some v2)
  else
  (if p2 = 1 then
  ((fX5_cornersAround p1).bind fun v1 =>
  some v1)
  else
  (some (-1))))
def fX12_corners_L54 (K82 : Int32 → Option (Int32 × Mem)) (z4 : Int32) (z5 : Int32) (M : Mem) : Nat → Int32 → Option (Int32 × Mem)
  | 0, _ => none
  | n + 1, y6 =>
    if ((z4 * z4) + (z5 * z5)) ≤ (y6 * y6) then
    (K82 y6)
    else
    (bnd (y6 + 1 : Int32) fun x2 =>
    fX12_corners_L54 K82 z4 z5 M n x2)
def fX12_corners_L44 (K139 : Int32 → Option (Int32 × Mem)) (z1 : Int32) (z2 : Int32) (z4 : Int32) (M : Mem) : Nat → Int32 → Int32 → Option (Int32 × Mem)
  | 0, _, _ => none
  | n + 1, y3, y5 =>
    if z1 ≤ y5 then
    (K139 y3)
    else
    (fX12_corners_L54 (fun (e3 : Int32) =>
    jn (fun (a5 : Int32) => fX12_corners_L44 K139 z1 z2 z4 M n a5 (y5 + 1)) fun (J4 : (Int32) → Option (Int32 × Mem)) =>
    if (e3 * e3) = ((z4 * z4) + (y5 * y5)) then
    (jn (bnd (y3 + 1 : Int32) fun x7 =>
    J4 x7) fun (J6 : Option (Int32 × Mem)) =>
    if z2 = 0 then
    (if z1 < e3 then
    (J4 y3)
    else
    (J6))
    else
    (if ((z4 + y5) + e3) = z1 then
    (J6)
    else
    (J4 y3)))
    else
    (J4 y3)) z4 y5 M FU y5)
def fX12_corners_L34 (z1 : Int32) (z2 : Int32) (M : Mem) : Nat → Int32 → Int32 → Option (Int32 × Mem)
  | 0, _, _ => none
  | n + 1, y3, y4 =>
    if z1 ≤ y4 then
    (some (y3, M))
    else
    (fX12_corners_L44 (fun (e8 : Int32) =>
    fX12_corners_L34 z1 z2 M n e8 (y4 + 1)) z1 z2 y4 M FU y3 y4)
def fX12_corners (p1 : Int32) (p2 : Int32) (M : Mem) : Option (Int32 × Mem) :=
  bnd (mu M 198 0 0) fun M1 =>
  if (fX12_isIn p1 1 200) = 0 then
  (some ((-1), M1))
  else
  (if (fX12_isIn p2 0 1) = 0 then
  (some ((-1), M1))
  else
  (fX12_corners_L34 p1 p2 M1 FU 0 1))
def fX5_sumOfParts_L13 (z0 : Int32) : Nat → Int32 → Int32 → Option (Int32)
  | 0, _, _ => none
  | n + 1, y1, y2 =>
    if z0 < (y2 * y2) then
    (some y1)
    else
    (if y2 = 0 then none else
    jn (fun (a4 : Int32) => fX5_sumOfParts_L13 z0 n a4 (y2 + 1)) fun (J3 : (Int32) → Option (Int32)) =>
    if (jrem z0 y2) = 0 then
    (jn (fun (t6 : Int32) => bnd (y1 + t6 : Int32) fun x7 =>
    J3 x7) fun (J5 : (Int32) → Option (Int32)) =>
    if (y2 * y2) = z0 then
    (J5 y2)
    else
    (if y2 = 0 then none else
    J5 (y2 + (z0 / y2))))
    else
    (J3 y1))
def fX5_sumOfParts (p0 : Int32) : Option (Int32) :=
  jn (fun (t2 : Int32) => fX5_sumOfParts_L13 p0 FU t2 2) fun (J1 : (Int32) → Option (Int32)) =>
  if p0 ≤ 1 then
  (J1 0)
  else
  (J1 1)
def fX5_chainOfParts_L2 (K24 : Mem → Option (Int32 × Mem)) : Nat → Int32 → Mem → Option (Int32 × Mem)
  | 0, _, _ => none
  | n + 1, y3, M =>
    if 313 ≤ y3 then
    (K24 M)
    else
    ((wr M 197 313 y3 0).bind fun M1 =>
    fX5_chainOfParts_L2 K24 n (y3 + 1) M1)
def fX5_chainOfParts_L29 (K67 : Int32 → Int32 → Mem → Option (Int32 × Mem)) : Nat → Int32 → Int32 → Mem → Option (Int32 × Mem)
  | 0, _, _, _ => none
  | n + 1, y3, y4, M =>
    if 10000 < y4 then
    (some ((-1), M))
    else
    (if y3 ≤ 0 then
    (K67 y3 y4 M)
    else
    (if 9999 < y3 then
    (K67 y3 y4 M)
    else
    ((rd M 197 313 (jshr y3 5)).bind fun v3 =>
    if ((jshr v3 (y3 &&& 31)) &&& 1) = 1 then
    (K67 y3 y4 M)
    else
    ((rd M 197 313 (jshr y3 5)).bind fun v4 =>
    (wr M 197 313 (jshr y3 5) (v4 ||| (jshl 1 (y3 &&& 31)))).bind fun M5 =>
    (fX5_sumOfParts y3).bind fun v6 =>
    fX5_chainOfParts_L29 K67 n v6 (y4 + 1) M5))))
def fX5_chainOfParts (p1 : Int32) (p2 : Int32) (M : Mem) : Option (Int32 × Mem) :=
  fX5_chainOfParts_L2 (fun (M2 : Mem) =>
  fX5_chainOfParts_L29 (fun (e7 : Int32) (e8 : Int32) (M9 : Mem) =>
  if p2 = 0 then
  (some (e7, M9))
  else
  (some (e8, M9))) FU p1 0 M2) FU 0 M
def fX11_parts (p1 : Int32) (p2 : Int32) (M : Mem) : Option (Int32 × Mem) :=
  if (fX11_isWithin p1 1 999) = 0 then
  (some ((-1), M))
  else
  (if (fX11_isWithin p2 0 1) = 0 then
  (some ((-1), M))
  else
  (jn (fun (t2 : Int32) => (fX5_chainOfParts p1 t2 M).bind fun r3 =>
  some (r3.1, r3.2)) fun (J1 : (Int32) → Option (Int32 × Mem)) =>
  if p2 = 0 then
  (J1 1)
  else
  (J1 0)))
def fX12_partsTogether_L4 (z1 : Int32) : Nat → Int32 → Int32 → Option (Int32)
  | 0, _, _ => none
  | n + 1, y2, y3 =>
    if z1 < (2 * y3) then
    (some y2)
    else
    (if y3 = 0 then none else
    jn (fun (a2 : Int32) => fX12_partsTogether_L4 z1 n a2 (y3 + 1)) fun (J1 : (Int32) → Option (Int32)) =>
    if (jrem z1 y3) = 0 then
    (bnd (y2 + y3 : Int32) fun x3 =>
    J1 x3)
    else
    (J1 y2))
def fX12_partsTogether (p1 : Int32) : Option (Int32) :=
  fX12_partsTogether_L4 p1 FU 0 1
def fX12_parts_L31 (K51 : Mem → Option (Int32 × Mem)) : Nat → Int32 → Mem → Option (Int32 × Mem)
  | 0, _, _ => none
  | n + 1, y3, M =>
    if 10000 ≤ y3 then
    (K51 M)
    else
    ((wr M 224 10000 y3 0).bind fun M2 =>
    fX12_parts_L31 K51 n (y3 + 1) M2)
def fX12_parts_L56 (K99 : Int32 → Int32 → Mem → Option (Int32 × Mem)) : Nat → Int32 → Int32 → Mem → Option (Int32 × Mem)
  | 0, _, _, _ => none
  | n + 1, y3, y4, M =>
    if (fX12_isIn y3 1 9999) = 0 then
    (K99 y3 y4 M)
    else
    ((rd M 224 10000 y3).bind fun v4 =>
    if v4 = 0 then
    ((wr M 224 10000 y3 1).bind fun M5 =>
    (fX12_partsTogether y3).bind fun v6 =>
    bnd (y4 + 1 : Int32) fun x7 =>
    fX12_parts_L56 K99 n v6 x7 M5)
    else
    (K99 y3 y4 M))
def fX12_parts (p1 : Int32) (p2 : Int32) (M : Mem) : Option (Int32 × Mem) :=
  bnd (mu M 198 0 0) fun M1 =>
  if (fX12_isIn p1 1 999) = 0 then
  (some ((-1), M1))
  else
  (if (fX12_isIn p2 0 1) = 0 then
  (some ((-1), M1))
  else
  (fX12_parts_L31 (fun (M3 : Mem) =>
  fX12_parts_L56 (fun (e8 : Int32) (e9 : Int32) (M10 : Mem) =>
  if p2 = 0 then
  (some (e9, M10))
  else
  (some (e8, M10))) FU p1 0 M3) FU 0 M1))
def fX5_ofDigits_L12 (z1 : Int32) : Nat → Int32 → Int32 → Option (Int32)
  | 0, _, _ => none
  | n + 1, y2, y3 =>
    if y3 ≤ 0 then
    (some y2)
    else
    (jn (fun (t4 : Int32) => bnd (y3 / 10 : Int32) fun x5 =>
    fX5_ofDigits_L12 z1 n t4 x5) fun (J3 : (Int32) → Option (Int32)) =>
    if z1 = 0 then
    (J3 (y2 + (jrem y3 10)))
    else
    (J3 (y2 * (jrem y3 10))))
def fX5_ofDigits (p0 : Int32) (p1 : Int32) : Option (Int32) :=
  jn (fun (t2 : Int32) => fX5_ofDigits_L12 p1 FU t2 p0) fun (J1 : (Int32) → Option (Int32)) =>
  if p1 = 0 then
  (J1 0)
  else
  (J1 1)
def fX5_lasting_L5 (K31 : Int32 → Int32 → Option (Int32)) (z1 : Int32) : Nat → Int32 → Int32 → Option (Int32)
  | 0, _, _ => none
  | n + 1, y3, y4 =>
    if y3 ≤ 9 then
    (K31 y3 y4)
    else
    (if 1000 ≤ y4 then
    (K31 y3 y4)
    else
    ((fX5_ofDigits y3 z1).bind fun v1 =>
    fX5_lasting_L5 K31 z1 n v1 (y4 + 1)))
def fX5_lasting (p0 : Int32) (p1 : Int32) (p2 : Int32) : Option (Int32) :=
  fX5_lasting_L5 (fun (e2 : Int32) (e3 : Int32) =>
  if p2 = 0 then
  (some e2)
  else
  (some e3)) p1 FU p0 0
def fX11_lasts (p1 : Int32) (p2 : Int32) : Option (Int32) :=
  if (fX11_isWithin p1 0 999999) = 0 then
  (some (-1))
  else
  (if (fX11_isWithin p2 0 3) = 0 then
  (some (-1))
  else
  (jn (fun (t2 : Int32) => jn (fun (t4 : Int32) => (fX5_lasting p1 t2 t4).bind fun v5 =>
  some v5) fun (J3 : (Int32) → Option (Int32)) =>
  if (jrem p2 2) = 0 then
  (J3 1)
  else
  (J3 0)) fun (J1 : (Int32) → Option (Int32)) =>
  if p2 < 2 then
  (J1 0)
  else
  (J1 1)))
def fX12_digitsOf_L13 (z2 : Int32) : Nat → Int32 → Int32 → Option (Int32)
  | 0, _, _ => none
  | n + 1, y3, y4 =>
    if y4 ≤ 0 then
    (some y3)
    else
    (jn (fun (t4 : Int32) => bnd (y4 / 10 : Int32) fun x5 =>
    fX12_digitsOf_L13 z2 n t4 x5) fun (J3 : (Int32) → Option (Int32)) =>
    if z2 = 0 then
    (J3 (y3 + (jrem y4 10)))
    else
    (J3 (y3 * (jrem y4 10))))
def fX12_digitsOf (p1 : Int32) (p2 : Int32) : Option (Int32) :=
  jn (fun (t2 : Int32) => fX12_digitsOf_L13 p2 FU t2 p1) fun (J1 : (Int32) → Option (Int32)) =>
  if p2 = 0 then
  (J1 0)
  else
  (J1 1)
def fX12_lasts_L34 (K66 : Int32 → Int32 → Option (Int32 × Mem)) (z2 : Int32) (M : Mem) : Nat → Int32 → Int32 → Option (Int32 × Mem)
  | 0, _, _ => none
  | n + 1, y3, y4 =>
    if y4 ≤ 9 then
    (K66 y3 y4)
    else
    (jn (fun (t3 : Int32) => (fX12_digitsOf y4 t3).bind fun v4 =>
    bnd (y3 + 1 : Int32) fun x5 =>
    fX12_lasts_L34 K66 z2 M n x5 v4) fun (J2 : (Int32) → Option (Int32 × Mem)) =>
    if z2 ≤ 1 then
    (J2 0)
    else
    (J2 1))
def fX12_lasts (p1 : Int32) (p2 : Int32) (M : Mem) : Option (Int32 × Mem) :=
  bnd (mu M 198 0 0) fun M1 =>
  if (fX12_isIn p1 0 999999) = 0 then
  (some ((-1), M1))
  else
  (if (fX12_isIn p2 0 3) = 0 then
  (some ((-1), M1))
  else
  (fX12_lasts_L34 (fun (e6 : Int32) (e7 : Int32) =>
  if (jrem p2 2) = 0 then
  (some (e6, M1))
  else
  (some (e7, M1))) p2 M1 FU 0 p1))
def fX11_turn (p1 : Int32) (M : Mem) : Option (Int32 × Mem) :=
  (fX7_tell 43 p1 M).bind fun r1 =>
  some (r1.1, r1.2)
def fX12_turn (p1 : Int32) (M : Mem) : Option (Int32 × Mem) :=
  bnd (mu M 198 0 0) fun M1 =>
  if p1 = (-1) then
  (bnd (mu M1 198 48 0) fun M4 =>
  some (0, M4))
  else
  (if (fX12_isIn p1 0 2) = 0 then
  (some ((-1), M1))
  else
  (if (M1 198 48) = 16 then
  (some ((-1), M1))
  else
  ((wr M1 225 16 (M1 198 48) p1).bind fun M2 =>
  bnd (mu M2 198 48 ((M2 198 48) + 1)) fun M3 =>
  some (M3 198 48, M3))))
def fX10_stand_L11 (K37 : Option (Int32 × Mem)) (z1 : Int32) (z4 : Int32) (M : Mem) : Nat → Int32 → Option (Int32 × Mem)
  | 0, _ => none
  | n + 1, y5 =>
    if z1 ≤ y5 then
    (K37)
    else
    ((rd M 51 17 y5).bind fun v2 =>
    if v2 = z4 then
    (some (z1, M))
    else
    (fX10_stand_L11 K37 z1 z4 M n (y5 + 1)))
def fX10_stand (p1 : Int32) (p2 : Int32) (p3 : Int32) (M : Mem) : Option (Int32 × Mem) :=
  bnd ((100 * p3) + p2 : Int32) fun x1 =>
  fX10_stand_L11 (if p1 ≤ 16 then
  ((wr M 51 17 p1 x1).bind fun M3 =>
  some (p1 + 1, M3))
  else
  (some (p1, M))) p1 x1 M FU 0
def fX10_turned_L25 (K133 : Int32 → Int32 → Int32 → Int32 → Mem → Option (Int32 × Mem)) : Nat → Int32 → Int32 → Int32 → Int32 → Int32 → Int32 → Int32 → Mem → Option (Int32 × Mem)
  | 0, _, _, _, _, _, _, _, _ => none
  | n + 1, y2, y3, y4, y5, y6, y7, y8, M =>
    if (M 43 0) ≤ y8 then
    (K133 y2 y3 y6 y7 M)
    else
    ((rd M 44 16 y8).bind fun v2 =>
    jn (fun (a4 : Int32) (a5 : Int32) (a6 : Int32) (a7 : Int32) (a8 : Int32) (a9 : Int32) (M10 : Mem) => fX10_turned_L25 K133 n a4 a5 a6 a7 a8 a9 (y8 + 1) M10) fun (J3 : (Int32) → (Int32) → (Int32) → (Int32) → (Int32) → (Int32) → (Mem) → Option (Int32 × Mem)) =>
    if v2 = 0 then
    (bnd (y6 + ((y2 * (y3 + y5)) - ((y2 + y4) * y3)) : Int32) fun x15 =>
    bnd (y2 + y4 : Int32) fun x16 =>
    bnd (y3 + y5 : Int32) fun x17 =>
    (fX10_stand y7 x16 x17 M).bind fun r18 =>
    J3 x16 x17 y4 y5 x15 r18.1 r18.2)
    else
    (jn (fun (t12 : Int32) => bnd ((-t12) * y5 : Int32) fun x13 =>
    bnd (t12 * y4 : Int32) fun x14 =>
    J3 y2 y3 x13 x14 y6 y7 M) fun (J11 : (Int32) → Option (Int32 × Mem)) =>
    if v2 = 1 then
    (J11 1)
    else
    (J11 (-1))))
def fX10_turned (p1 : Int32) (M : Mem) : Option (Int32 × Mem) :=
  (fX10_stand 0 0 0 M).bind fun r1 =>
  fX10_turned_L25 (fun (e19 : Int32) (e20 : Int32) (e21 : Int32) (e22 : Int32) (M23 : Mem) =>
  swt p1 0 [(some (e19, M23)),
  (some (e20, M23)),
  (some (e22, M23))] (if e19 = 0 then
  (if e20 = 0 then
  (some (e21, M23))
  else
  (some ((-1000), M23)))
  else
  (some ((-1000), M23)))) FU 0 0 1 0 0 r1.1 0 r1.2
def fX11_turning (p1 : Int32) (M : Mem) : Option (Int32 × Mem) :=
  if (fX11_isWithin p1 0 3) = 0 then
  (some ((-10000), M))
  else
  ((fX10_turned p1 M).bind fun r1 =>
  some (r1.1, r1.2))
def fX12_turning_L190 (K237 : Int32 → Option (Int32 × Mem)) (z2 : Int32) (M : Mem) : Nat → Int32 → Int32 → Option (Int32 × Mem)
  | 0, _, _ => none
  | n + 1, y7, y8 =>
    if z2 ≤ y8 then
    (K237 y7)
    else
    ((rd M 226 17 y8).bind fun v22 =>
    (rd M 226 17 z2).bind fun v23 =>
    jn (fun (a25 : Int32) => fX12_turning_L190 K237 z2 M n a25 (y8 + 1)) fun (J24 : (Int32) → Option (Int32 × Mem)) =>
    if v22 = v23 then
    ((rd M 227 17 y8).bind fun v26 =>
    (rd M 227 17 z2).bind fun v27 =>
    if v26 = v27 then
    (J24 0)
    else
    (J24 y7))
    else
    (J24 y7))
def fX12_turning_L32 (K256 : Int32 → Int32 → Int32 → Mem → Option (Int32 × Mem)) : Nat → Int32 → Int32 → Int32 → Int32 → Int32 → Mem → Option (Int32 × Mem)
  | 0, _, _, _, _, _, _ => none
  | n + 1, y2, y3, y4, y5, y6, M =>
    if (M 198 48) ≤ y6 then
    (K256 y2 y3 y5 M)
    else
    ((rd M 225 16 y6).bind fun v2 =>
    jn (fun (a4 : Int32) (a5 : Int32) (a6 : Int32) (a7 : Int32) (M8 : Mem) => fX12_turning_L32 K256 n a4 a5 a6 a7 (y6 + 1) M8) fun (J3 : (Int32) → (Int32) → (Int32) → (Int32) → (Mem) → Option (Int32 × Mem)) =>
    if v2 ≤ 0 then
    ((rd M 226 17 (y2 - 1)).bind fun v9 =>
    jn (fun (t11 : Int32) => (wr M 226 17 y2 (v9 + t11)).bind fun M12 =>
    (rd M12 227 17 (y2 - 1)).bind fun v13 =>
    jn (fun (t15 : Int32) => (wr M12 227 17 y2 (v13 + t15)).bind fun M16 =>
    (rd M16 226 17 (y2 - 1)).bind fun v17 =>
    (rd M16 227 17 y2).bind fun v18 =>
    (rd M16 226 17 y2).bind fun v19 =>
    (rd M16 227 17 (y2 - 1)).bind fun v20 =>
    bnd ((y5 + (v17 * v18)) - (v19 * v20) : Int32) fun x21 =>
    fX12_turning_L190 (fun (e28 : Int32) =>
    jn (fun (a30 : Int32) => bnd (y2 + 1 : Int32) fun x31 =>
    J3 x31 a30 y4 x21 M16) fun (J29 : (Int32) → Option (Int32 × Mem)) =>
    if e28 = 0 then
    (J29 y3)
    else
    (bnd (y3 + 1 : Int32) fun x32 =>
    J29 x32)) y2 M16 FU 1 0) fun (J14 : (Int32) → Option (Int32 × Mem)) =>
    if y4 = 1 then
    (J14 1)
    else
    (if y4 = 3 then
    (J14 (-1))
    else
    (J14 0))) fun (J10 : (Int32) → Option (Int32 × Mem)) =>
    if y4 = 0 then
    (J10 1)
    else
    (if y4 = 2 then
    (J10 (-1))
    else
    (J10 0)))
    else
    ((rd M 225 16 y6).bind fun v33 =>
    jn (fun (t35 : Int32) => bnd (jrem (y4 + t35) 4 : Int32) fun x36 =>
    J3 y2 y3 x36 y5 M) fun (J34 : (Int32) → Option (Int32 × Mem)) =>
    if v33 = 1 then
    (J34 1)
    else
    (J34 3)))
def fX12_turning (p1 : Int32) (M : Mem) : Option (Int32 × Mem) :=
  bnd (mu M 198 0 0) fun M1 =>
  if (fX12_isIn p1 0 3) = 0 then
  (some ((-10000), M1))
  else
  (fX12_turning_L32 (fun (e37 : Int32) (e38 : Int32) (e39 : Int32) (M40 : Mem) =>
  (rd M40 226 17 (e37 - 1)).bind fun v41 =>
  (rd M40 227 17 (e37 - 1)).bind fun v42 =>
  if p1 = 3 then
  (if v41 = 0 then
  (if v42 = 0 then
  (some (e39, M40))
  else
  (some ((-1000), M40)))
  else
  (some ((-1000), M40)))
  else
  (if p1 = 0 then
  (some (v41, M40))
  else
  (if p1 = 1 then
  (some (v42, M40))
  else
  (some (e38, M40))))) FU 1 1 0 0 0 M1)
def fJ13_bitCount_95d88 (p0 : Int64) : Int32 :=
  bnd (p0 - ((jlushr p0 1) &&& 6148914691236517205) : Int64) fun x1 =>
  bnd ((x1 &&& 3689348814741910323) + ((jlushr x1 2) &&& 3689348814741910323) : Int64) fun x2 =>
  bnd ((x2 + (jlushr x2 4)) &&& 1085102592571150095 : Int64) fun x3 =>
  bnd (x3 + (jlushr x3 8) : Int64) fun x4 =>
  bnd (x4 + (jlushr x4 16) : Int64) fun x5 =>
  bnd (x5 + (jlushr x5 32) : Int64) fun x6 =>
  (x6.toInt32) &&& 127
def fX5_antWalk_L17 (K103 : Int64 → Int32 → Int32 → Option (Int32)) (z0 : Int32) : Nat → Int64 → Int32 → Int32 → Int32 → Int32 → Int32 → Option (Int32)
  | 0, _, _, _, _, _, _ => none
  | n + 1, y2, y4, y5, y6, y7, y8 =>
    if z0 ≤ y8 then
    (K103 y2 y4 y5)
    else
    (bnd ((8 * y5) + y4 : Int32) fun x1 =>
    jn (fun (t3 : Int32) => bnd ((-t3) * y7 : Int32) fun x4 =>
    bnd (t3 * y6 : Int32) fun x5 =>
    bnd (y2 ^^^ (jlshl 1 x1) : Int64) fun x6 =>
    bnd ((y4 + x4) &&& 7 : Int32) fun x7 =>
    bnd ((y5 + x5) &&& 7 : Int32) fun x8 =>
    fX5_antWalk_L17 K103 z0 n x6 x7 x8 x4 x5 (y8 + 1)) fun (J2 : (Int32) → Option (Int32)) =>
    if (jlcmp ((jlushr y2 x1) &&& 1) 0) = 0 then
    (J2 1)
    else
    (J2 (-1)))
def fX5_antWalk (p0 : Int32) (p1 : Int32) : Option (Int32) :=
  fX5_antWalk_L17 (fun (e9 : Int64) (e10 : Int32) (e11 : Int32) =>
  if p1 = 0 then
  (some (fJ13_bitCount_95d88 e9))
  else
  (some ((8 * e11) + e10))) p0 FU 0 3 3 0 (-1) 0
def fX11_ant (p1 : Int32) (p2 : Int32) : Option (Int32) :=
  if (fX11_isWithin p1 0 300) = 0 then
  (some (-1))
  else
  (if (fX11_isWithin p2 0 1) = 0 then
  (some (-1))
  else
  (jn (fun (t2 : Int32) => (fX5_antWalk p1 t2).bind fun v3 =>
  some v3) fun (J1 : (Int32) → Option (Int32)) =>
  if p2 = 0 then
  (J1 1)
  else
  (J1 0)))
def fX12_ant_L31 (K50 : Mem → Option (Int32 × Mem)) : Nat → Int32 → Mem → Option (Int32 × Mem)
  | 0, _, _ => none
  | n + 1, y3, M =>
    if 64 ≤ y3 then
    (K50 M)
    else
    ((wr M 228 64 y3 0).bind fun M2 =>
    fX12_ant_L31 K50 n (y3 + 1) M2)
def fX12_ant_L64 (K196 : Int32 → Int32 → Int32 → Mem → Option (Int32 × Mem)) (z1 : Int32) : Nat → Int32 → Int32 → Int32 → Int32 → Int32 → Mem → Option (Int32 × Mem)
  | 0, _, _, _, _, _, _ => none
  | n + 1, y3, y4, y5, y6, y7, M =>
    if z1 ≤ y7 then
    (K196 y3 y4 y6 M)
    else
    (bnd ((8 * y4) + y3 : Int32) fun x4 =>
    (rd M 228 64 x4).bind fun v5 =>
    jn (fun (t7 : Int32) => bnd (jrem (y5 + t7) 4 : Int32) fun x8 =>
    (rd M 228 64 x4).bind fun v9 =>
    (wr M 228 64 x4 (1 - v9)).bind fun M10 =>
    (rd M10 228 64 x4).bind fun v11 =>
    bnd ((y6 + (2 * v11)) - 1 : Int32) fun x12 =>
    jn (fun (t14 : Int32) => bnd (jrem (y3 + t14) 8 : Int32) fun x15 =>
    jn (fun (t17 : Int32) => bnd (jrem (y4 + t17) 8 : Int32) fun x18 =>
    fX12_ant_L64 K196 z1 n x15 x18 x8 x12 (y7 + 1) M10) fun (J16 : (Int32) → Option (Int32 × Mem)) =>
    if x8 = 2 then
    (J16 1)
    else
    (if x8 = 0 then
    (J16 7)
    else
    (J16 0))) fun (J13 : (Int32) → Option (Int32 × Mem)) =>
    if x8 = 1 then
    (J13 1)
    else
    (if x8 = 3 then
    (J13 7)
    else
    (J13 0))) fun (J6 : (Int32) → Option (Int32 × Mem)) =>
    if v5 = 0 then
    (J6 1)
    else
    (J6 3))
def fX12_ant (p1 : Int32) (p2 : Int32) (M : Mem) : Option (Int32 × Mem) :=
  bnd (mu M 198 0 0) fun M1 =>
  if (fX12_isIn p1 0 300) = 0 then
  (some ((-1), M1))
  else
  (if (fX12_isIn p2 0 1) = 0 then
  (some ((-1), M1))
  else
  (fX12_ant_L31 (fun (M3 : Mem) =>
  fX12_ant_L64 (fun (e19 : Int32) (e20 : Int32) (e21 : Int32) (M22 : Mem) =>
  if p2 = 0 then
  (some ((8 * e20) + e19, M22))
  else
  (some (e21, M22))) p1 FU 3 3 0 0 0 M3) FU 0 M1))
def fX5_nextRow_L4 (z0 : Int32) (z1 : Int32) : Nat → Int32 → Int32 → Option (Int32)
  | 0, _, _ => none
  | n + 1, y2, y3 =>
    if 16 ≤ y3 then
    (some y2)
    else
    (bnd ((jshr z0 (jrem (y3 + 1) 16)) &&& 1 : Int32) fun x1 =>
    bnd ((jshr z0 (jrem ((y3 + 16) - 1) 16)) &&& 1 : Int32) fun x2 =>
    bnd (((4 * x1) + (2 * ((jshr z0 y3) &&& 1))) + x2 : Int32) fun x3 =>
    bnd (y2 ||| (jshl ((jshr z1 x3) &&& 1) y3) : Int32) fun x4 =>
    fX5_nextRow_L4 z0 z1 n x4 (y3 + 1))
def fX5_nextRow (p0 : Int32) (p1 : Int32) : Option (Int32) :=
  fX5_nextRow_L4 p0 p1 FU 0 0
def fX11_row_L39 (K67 : Int32 → Option (Int32)) (z2 : Int32) : Nat → Int32 → Int32 → Option (Int32)
  | 0, _, _ => none
  | n + 1, y4, y5 =>
    if (z2 / 256) ≤ y5 then
    (K67 y4)
    else
    ((fX5_nextRow y4 (jrem z2 256)).bind fun v1 =>
    fX11_row_L39 K67 z2 n v1 (y5 + 1))
def fX11_row (p1 : Int32) (p2 : Int32) (p3 : Int32) : Option (Int32) :=
  if (fX11_isWithin p1 0 65535) = 0 then
  (some (-1))
  else
  (if (fX11_isWithin p2 0 7935) = 0 then
  (some (-1))
  else
  (if (fX11_isWithin p3 0 1) = 0 then
  (some (-1))
  else
  (fX11_row_L39 (fun (e2 : Int32) =>
  if p3 = 0 then
  (some e2)
  else
  (some (fJ6_bitCount_0f7a4 e2))) p2 FU p1 0)))
def fX12_row_L63 (K139 : Int32 → Option (Int32 × Mem)) (z2 : Int32) (z4 : Int32) (M : Mem) : Nat → Int32 → Int32 → Option (Int32 × Mem)
  | 0, _, _ => none
  | n + 1, y6, y7 =>
    if 16 ≤ y7 then
    (K139 y6)
    else
    (bnd (((4 * ((jshr z4 (jrem (y7 + 1) 16)) &&& 1)) + (2 * ((jshr z4 y7) &&& 1))) + ((jshr z4 (jrem (y7 + 15) 16)) &&& 1) : Int32) fun x2 =>
    jn (fun (a4 : Int32) => fX12_row_L63 K139 z2 z4 M n a4 (y7 + 1)) fun (J3 : (Int32) → Option (Int32 × Mem)) =>
    if (fX12_has (jrem z2 256) x2) = 0 then
    (J3 y6)
    else
    (bnd (y6 ||| (jshl 1 y7) : Int32) fun x5 =>
    J3 x5))
def fX12_row_L47 (K149 : Int32 → Option (Int32 × Mem)) (z2 : Int32) (M : Mem) : Nat → Int32 → Int32 → Option (Int32 × Mem)
  | 0, _, _ => none
  | n + 1, y4, y5 =>
    if (z2 / 256) ≤ y5 then
    (K149 y4)
    else
    (fX12_row_L63 (fun (e6 : Int32) =>
    fX12_row_L47 K149 z2 M n e6 (y5 + 1)) z2 y4 M FU 0 0)
def fX12_row (p1 : Int32) (p2 : Int32) (p3 : Int32) (M : Mem) : Option (Int32 × Mem) :=
  bnd (mu M 198 0 0) fun M1 =>
  if (fX12_isIn p1 0 65535) = 0 then
  (some ((-1), M1))
  else
  (if (fX12_isIn p2 0 7935) = 0 then
  (some ((-1), M1))
  else
  (if (fX12_isIn p3 0 1) = 0 then
  (some ((-1), M1))
  else
  (fX12_row_L47 (fun (e7 : Int32) =>
  if p3 = 0 then
  (some (e7, M1))
  else
  ((fX12_onesOf e7).bind fun v8 =>
  some (v8, M1))) p2 M1 FU p1 0)))
def fX5_ownDifference_L21 (K70 : Int32 → Int32 → Int32 → Option (Int32)) (z4 : Int32) : Nat → Int32 → Int32 → Int32 → Int32 → Int32 → Option (Int32)
  | 0, _, _, _, _, _ => none
  | n + 1, y1, y2, y3, y5, y6 =>
    if 4 ≤ y6 then
    (K70 y1 y2 y3)
    else
    (jn (fun (a2 : Int32) (a3 : Int32) (a4 : Int32) => bnd (y5 / 10 : Int32) fun x5 =>
    fX5_ownDifference_L21 K70 z4 n a2 a3 a4 x5 (y6 + 1)) fun (J1 : (Int32) → (Int32) → (Int32) → Option (Int32)) =>
    if (jrem y5 10) = z4 then
    (bnd ((y1 * 10) + z4 : Int32) fun x6 =>
    bnd (y2 + (z4 * y3) : Int32) fun x7 =>
    bnd (y3 * 10 : Int32) fun x8 =>
    J1 x6 x7 x8)
    else
    (J1 y1 y2 y3))
def fX5_ownDifference_L10 (z0 : Int32) : Nat → Int32 → Int32 → Int32 → Int32 → Option (Int32)
  | 0, _, _, _, _ => none
  | n + 1, y1, y2, y3, y4 =>
    if y4 < 0 then
    (some (y1 - y2))
    else
    (fX5_ownDifference_L21 (fun (e9 : Int32) (e10 : Int32) (e11 : Int32) =>
    fX5_ownDifference_L10 z0 n e9 e10 e11 (y4 + (-1))) y4 FU y1 y2 y3 z0 0)
def fX5_ownDifference (p0 : Int32) : Option (Int32) :=
  fX5_ownDifference_L10 p0 FU 0 0 1 9
def fX5_ownDifferences_L7 (K49 : Int32 → Option (Int32)) (K27 : Int32 → Int32 → Option (Int32)) : Nat → Int32 → Int32 → Int32 → Option (Int32)
  | 0, _, _, _ => none
  | n + 1, y2, y3, y4 =>
    if 20 < y4 then
    (K49 y3)
    else
    (bnd (jmax y3 y2 : Int32) fun x1 =>
    if y2 = 6174 then
    (K27 x1 y4)
    else
    ((fX5_ownDifference y2).bind fun v2 =>
    fX5_ownDifferences_L7 K49 K27 n v2 x1 (y4 + 1)))
def fX5_ownDifferences (p0 : Int32) (p1 : Int32) : Option (Int32) :=
  fX5_ownDifferences_L7 (fun (e3 : Int32) =>
  if p1 = 0 then
  (some e3)
  else
  (some (-1))) (fun (e4 : Int32) (e5 : Int32) =>
  if p1 = 0 then
  (some e4)
  else
  (some e5)) FU p0 p0 0
def fX11_own (p1 : Int32) (p2 : Int32) : Option (Int32) :=
  if (fX11_isWithin p1 0 9999) = 0 then
  (some (-1))
  else
  (if (fX11_isWithin p2 0 1) = 0 then
  (some (-1))
  else
  (jn (fun (t2 : Int32) => (fX5_ownDifferences p1 t2).bind fun v3 =>
  some v3) fun (J1 : (Int32) → Option (Int32)) =>
  if p2 = 0 then
  (J1 1)
  else
  (J1 0)))
def fX12_ownOf_L2 (K21 : Mem → Option (Int32 × Mem)) : Nat → Int32 → Mem → Option (Int32 × Mem)
  | 0, _, _ => none
  | n + 1, y2, M =>
    if 10 ≤ y2 then
    (K21 M)
    else
    ((wr M 229 10 y2 0).bind fun M1 =>
    fX12_ownOf_L2 K21 n (y2 + 1) M1)
def fX12_ownOf_L25 (K61 : Mem → Option (Int32 × Mem)) : Nat → Int32 → Int32 → Mem → Option (Int32 × Mem)
  | 0, _, _, _ => none
  | n + 1, y2, y3, M =>
    if 4 ≤ y3 then
    (K61 M)
    else
    ((rd M 229 10 (jrem y2 10)).bind fun v3 =>
    (wr M 229 10 (jrem y2 10) (v3 + 1)).bind fun M4 =>
    bnd (y2 / 10 : Int32) fun x5 =>
    fX12_ownOf_L25 K61 n x5 (y3 + 1) M4)
def fX12_ownOf_L79 (K105 : Int32 → Option (Int32 × Mem)) (z5 : Int32) (M : Mem) : Nat → Int32 → Int32 → Option (Int32 × Mem)
  | 0, _, _ => none
  | n + 1, y3, y6 =>
    (rd M 229 10 z5).bind fun v7 =>
    if v7 ≤ y6 then
    (K105 y3)
    else
    (bnd ((10 * y3) + z5 : Int32) fun x8 =>
    fX12_ownOf_L79 K105 z5 M n x8 (y6 + 1))
def fX12_ownOf_L108 (K142 : Int32 → Option (Int32 × Mem)) (z5 : Int32) (M : Mem) : Nat → Int32 → Int32 → Option (Int32 × Mem)
  | 0, _, _ => none
  | n + 1, y4, y6 =>
    (rd M 229 10 (9 - z5)).bind fun v10 =>
    if v10 ≤ y6 then
    (K142 y4)
    else
    (bnd (((10 * y4) + 9) - z5 : Int32) fun x11 =>
    fX12_ownOf_L108 K142 z5 M n x11 (y6 + 1))
def fX12_ownOf_L69 (M : Mem) : Nat → Int32 → Int32 → Int32 → Option (Int32 × Mem)
  | 0, _, _, _ => none
  | n + 1, y3, y4, y5 =>
    if 10 ≤ y5 then
    (some (y4 - y3, M))
    else
    (fX12_ownOf_L79 (fun (e9 : Int32) =>
    fX12_ownOf_L108 (fun (e12 : Int32) =>
    fX12_ownOf_L69 M n e9 e12 (y5 + 1)) y5 M FU y4 0) y5 M FU y3 0)
def fX12_ownOf (p1 : Int32) (M : Mem) : Option (Int32 × Mem) :=
  fX12_ownOf_L2 (fun (M2 : Mem) =>
  fX12_ownOf_L25 (fun (M6 : Mem) =>
  fX12_ownOf_L69 M6 FU 0 0 0) FU p1 0 M2) FU 0 M
def fX12_own_L37 (K72 : Int32 → Int32 → Int32 → Mem → Option (Int32 × Mem)) : Nat → Int32 → Int32 → Int32 → Mem → Option (Int32 × Mem)
  | 0, _, _, _, _ => none
  | n + 1, y3, y4, y5, M =>
    if y3 = 6174 then
    (K72 y3 y4 y5 M)
    else
    (if y3 = 0 then
    (K72 y3 y4 y5 M)
    else
    ((fX12_ownOf y3 M).bind fun r2 =>
    bnd (fX12_greater y4 r2.1 : Int32) fun x3 =>
    bnd (y5 + 1 : Int32) fun x4 =>
    fX12_own_L37 K72 n r2.1 x3 x4 r2.2))
def fX12_own (p1 : Int32) (p2 : Int32) (M : Mem) : Option (Int32 × Mem) :=
  bnd (mu M 198 0 0) fun M1 =>
  if (fX12_isIn p1 0 9999) = 0 then
  (some ((-1), M1))
  else
  (if (fX12_isIn p2 0 1) = 0 then
  (some ((-1), M1))
  else
  (fX12_own_L37 (fun (e5 : Int32) (e6 : Int32) (e7 : Int32) (M8 : Mem) =>
  if p2 = 1 then
  (some (e6, M8))
  else
  (if e5 = 0 then
  (some ((-1), M8))
  else
  (some (e7, M8)))) FU p1 p1 0 M1))
def fX5_shifted_L6 (z0 : Int32) (z1 : Int32) (z3 : Int32) : Nat → Int32 → Int32 → Option (Int32)
  | 0, _, _ => none
  | n + 1, y4, y5 =>
    if z3 ≤ y5 then
    (some y4)
    else
    (bnd ((fJ6_bitCount_0f7a4 (y4 &&& z1)) &&& 1 : Int32) fun x1 =>
    bnd ((jshr y4 1) ||| (jshl x1 (z0 - 1)) : Int32) fun x2 =>
    fX5_shifted_L6 z0 z1 z3 n x2 (y5 + 1))
def fX5_shifted (p0 : Int32) (p1 : Int32) (p2 : Int32) (p3 : Int32) : Option (Int32) :=
  fX5_shifted_L6 p0 p1 p3 FU p2 0
def fX5_timesRound_L5 (z0 : Int32) (z1 : Int32) (z2 : Int32) : Nat → Int32 → Int32 → Option (Int32)
  | 0, _, _ => none
  | n + 1, y3, y4 =>
    if (jshl 1 z0) < y4 then
    (some (-1))
    else
    ((fX5_shifted z0 z1 y3 1).bind fun v1 =>
    if v1 = z2 then
    (some y4)
    else
    (fX5_timesRound_L5 z0 z1 z2 n v1 (y4 + 1)))
def fX5_timesRound (p0 : Int32) (p1 : Int32) (p2 : Int32) : Option (Int32) :=
  fX5_timesRound_L5 p0 p1 p2 FU p2 1
def fX11_round (p1 : Int32) (p2 : Int32) (p3 : Int32) (p4 : Int32) : Option (Int32) :=
  if (fX11_isWithin p1 2 8) = 0 then
  (some (-1))
  else
  (if (fX11_isWithin p4 (-1) 1000) = 0 then
  (some (-1))
  else
  (bnd ((jshl 1 p1) - 1 : Int32) fun x1 =>
  if (fX11_isWithin p2 1 x1) = 0 then
  (some (-1))
  else
  (if (fX11_isWithin p3 1 x1) = 0 then
  (some (-1))
  else
  (if p4 = (-1) then
  ((fX5_timesRound p1 p2 p3).bind fun v3 =>
  some v3)
  else
  ((fX5_shifted p1 p2 p3 p4).bind fun v2 =>
  some v2)))))
def fX12_roundOf (p1 : Int32) (p2 : Int32) (p3 : Int32) : Option (Int32) :=
  (fX12_onesOf (p3 &&& p2)).bind fun v1 =>
  if (jrem v1 2) = 1 then
  (some ((p3 / 2) + (jshl 1 (p1 - 1))))
  else
  (some ((p3 / 2) + 0))
def fX12_round_L106 (z1 : Int32) (z2 : Int32) (z3 : Int32) (M : Mem) : Nat → Int32 → Int32 → Option (Int32 × Mem)
  | 0, _, _ => none
  | n + 1, y5, y6 =>
    if 256 < y6 then
    (some ((-1), M))
    else
    ((fX12_roundOf z1 z2 y5).bind fun v3 =>
    if v3 = z3 then
    (some (y6, M))
    else
    (fX12_round_L106 z1 z2 z3 M n v3 (y6 + 1)))
def fX12_round_L77 (z1 : Int32) (z2 : Int32) (z4 : Int32) (M : Mem) : Nat → Int32 → Int32 → Option (Int32 × Mem)
  | 0, _, _ => none
  | n + 1, y5, y6 =>
    if z4 ≤ y6 then
    (some (y5, M))
    else
    ((fX12_roundOf z1 z2 y5).bind fun v4 =>
    fX12_round_L77 z1 z2 z4 M n v4 (y6 + 1))
def fX12_round (p1 : Int32) (p2 : Int32) (p3 : Int32) (p4 : Int32) (M : Mem) : Option (Int32 × Mem) :=
  bnd (mu M 198 0 0) fun M1 =>
  if (fX12_isIn p1 2 8) = 0 then
  (some ((-1), M1))
  else
  (if (fX12_isIn p2 1 ((jshl 1 p1) - 1)) = 0 then
  (some ((-1), M1))
  else
  (if (fX12_isIn p3 1 ((jshl 1 p1) - 1)) = 0 then
  (some ((-1), M1))
  else
  (jn (if p4 = (-1) then
  (fX12_round_L106 p1 p2 p3 M1 FU p3 1)
  else
  (fX12_round_L77 p1 p2 p4 M1 FU p3 0)) fun (J2 : Option (Int32 × Mem)) =>
  if p4 = (-1) then
  (J2)
  else
  (if (fX12_isIn p4 0 1000) = 0 then
  (some ((-1), M1))
  else
  (J2)))))
def fX11_nine (p1 : Int32) (p2 : Int32) (M : Mem) : Option (Int32 × Mem) :=
  if (fX11_isWithin p1 0 8) = 0 then
  (some (0, M))
  else
  (if (fX11_isWithin p2 0 30) = 0 then
  (some (0, M))
  else
  ((wr M 49 9 p1 p2).bind fun M1 =>
  some (1, M1)))
def fX12_nine (p1 : Int32) (p2 : Int32) (M : Mem) : Option (Int32 × Mem) :=
  bnd (mu M 198 0 0) fun M1 =>
  if (fX12_isIn p1 0 8) = 0 then
  (some (0, M1))
  else
  (if (fX12_isIn p2 0 30) = 0 then
  (some (0, M1))
  else
  ((wr M1 230 9 p1 p2).bind fun M2 =>
  some (1, M2)))
def fX10_sumOf (p1 : Int32) (M : Mem) : Option (Int32) :=
  bnd (3 * p1 : Int32) fun x1 =>
  (rdf (fun j => stL.getD j 0) 24 x1).bind fun v2 =>
  (rd M 49 9 v2).bind fun v3 =>
  (rdf (fun j => stL.getD j 0) 24 (x1 + 1)).bind fun v4 =>
  (rd M 49 9 v4).bind fun v5 =>
  (rdf (fun j => stL.getD j 0) 24 (x1 + 2)).bind fun v6 =>
  (rd M 49 9 v6).bind fun v7 =>
  some ((v3 + v5) + v7)
def fX10_linesOfSum_L4 (z1 : Int32) (M : Mem) : Nat → Int32 → Int32 → Option (Int32)
  | 0, _, _ => none
  | n + 1, y2, y3 =>
    if 8 ≤ y3 then
    (some y2)
    else
    ((fX10_sumOf y3 M).bind fun v1 =>
    jn (fun (a3 : Int32) => fX10_linesOfSum_L4 z1 M n a3 (y3 + 1)) fun (J2 : (Int32) → Option (Int32)) =>
    if v1 = z1 then
    (J2 (y2 + 1))
    else
    (J2 y2))
def fX10_linesOfSum (p1 : Int32) (M : Mem) : Option (Int32) :=
  fX10_linesOfSum_L4 p1 M FU 0 0
def fX10_waysToEven_L20 (K64 : Int32 → Mem → Option (Int32 × Mem)) (z2 : Int32) (z3 : Int32) : Nat → Int32 → Int32 → Mem → Option (Int32 × Mem)
  | 0, _, _, _ => none
  | n + 1, y1, y4, M =>
    if 30 < y4 then
    (K64 y1 M)
    else
    ((wr M 49 9 z2 y4).bind fun M2 =>
    jn (fun (a4 : Int32) => fX10_waysToEven_L20 K64 z2 z3 n a4 (y4 + 1) M2) fun (J3 : (Int32) → Option (Int32 × Mem)) =>
    if y4 = z3 then
    (J3 y1)
    else
    ((fX10_sumOf 0 M2).bind fun v5 =>
    (fX10_linesOfSum v5 M2).bind fun v6 =>
    if v6 = 8 then
    (J3 (y1 + 1))
    else
    (J3 y1)))
def fX10_waysToEven_L4  : Nat → Int32 → Int32 → Mem → Option (Int32 × Mem)
  | 0, _, _, _ => none
  | n + 1, y1, y2, M =>
    if 9 ≤ y2 then
    (some (y1, M))
    else
    ((rd M 49 9 y2).bind fun v1 =>
    fX10_waysToEven_L20 (fun (e7 : Int32) (M8 : Mem) =>
    (wr M8 49 9 y2 v1).bind fun M9 =>
    fX10_waysToEven_L4 n e7 (y2 + 1) M9) y2 v1 FU y1 0 M)
def fX10_waysToEven  (M : Mem) : Option (Int32 × Mem) :=
  fX10_waysToEven_L4 FU 0 0 M
def fX11_even (p1 : Int32) (M : Mem) : Option (Int32 × Mem) :=
  if p1 = (-1) then
  ((fX10_waysToEven M).bind fun r2 =>
  some (r2.1, r2.2))
  else
  (if (fX11_isWithin p1 0 90) = 0 then
  (some ((-1), M))
  else
  ((fX10_linesOfSum p1 M).bind fun v1 =>
  some (v1, M)))
def fX12_lineSum (p1 : Int32) (M : Mem) : Option (Int32) :=
  jn (fun (t2 : Int32) => jn (fun (t4 : Int32) => (rd M 230 9 t2).bind fun v5 =>
  (rd M 230 9 (t2 + t4)).bind fun v6 =>
  (rd M 230 9 (t2 + (2 * t4))).bind fun v7 =>
  some ((v5 + v6) + v7)) fun (J3 : (Int32) → Option (Int32)) =>
  if 3 ≤ p1 then
  (if 6 ≤ p1 then
  (if p1 = 6 then
  (J3 4)
  else
  (J3 2))
  else
  (J3 3))
  else
  (J3 1)) fun (J1 : (Int32) → Option (Int32)) =>
  if 3 ≤ p1 then
  (if 6 ≤ p1 then
  (if p1 = 6 then
  (J1 0)
  else
  (J1 2))
  else
  (J1 (p1 - 3)))
  else
  (J1 (3 * p1))
def fX12_linesThatCome_L4 (z1 : Int32) (M : Mem) : Nat → Int32 → Int32 → Option (Int32)
  | 0, _, _ => none
  | n + 1, y2, y3 =>
    if 8 ≤ y3 then
    (some y2)
    else
    ((fX12_lineSum y3 M).bind fun v1 =>
    jn (fun (a3 : Int32) => fX12_linesThatCome_L4 z1 M n a3 (y3 + 1)) fun (J2 : (Int32) → Option (Int32)) =>
    if v1 = z1 then
    (bnd (y2 + 1 : Int32) fun x4 =>
    J2 x4)
    else
    (J2 y2))
def fX12_linesThatCome (p1 : Int32) (M : Mem) : Option (Int32) :=
  fX12_linesThatCome_L4 p1 M FU 0 0
def fX12_even_L52 (K98 : Int32 → Mem → Option (Int32 × Mem)) (z3 : Int32) (z4 : Int32) : Nat → Int32 → Int32 → Mem → Option (Int32 × Mem)
  | 0, _, _, _ => none
  | n + 1, y2, y5, M =>
    if 31 ≤ y5 then
    (K98 y2 M)
    else
    ((wr M 230 9 z3 y5).bind fun M3 =>
    jn (fun (a5 : Int32) => fX12_even_L52 K98 z3 z4 n a5 (y5 + 1) M3) fun (J4 : (Int32) → Option (Int32 × Mem)) =>
    if y5 = z4 then
    (J4 y2)
    else
    ((fX12_lineSum 0 M3).bind fun v6 =>
    (fX12_linesThatCome v6 M3).bind fun v7 =>
    if v7 = 8 then
    (bnd (y2 + 1 : Int32) fun x8 =>
    J4 x8)
    else
    (J4 y2)))
def fX12_even_L35  : Nat → Int32 → Int32 → Mem → Option (Int32 × Mem)
  | 0, _, _, _ => none
  | n + 1, y2, y3, M =>
    if 9 ≤ y3 then
    (some (y2, M))
    else
    ((rd M 230 9 y3).bind fun v2 =>
    fX12_even_L52 (fun (e9 : Int32) (M10 : Mem) =>
    (wr M10 230 9 y3 v2).bind fun M11 =>
    fX12_even_L35 n e9 (y3 + 1) M11) y3 v2 FU y2 0 M)
def fX12_even (p1 : Int32) (M : Mem) : Option (Int32 × Mem) :=
  bnd (mu M 198 0 0) fun M1 =>
  if p1 = (-1) then
  (fX12_even_L35 FU 0 0 M1)
  else
  (if (fX12_isIn p1 0 90) = 0 then
  (some ((-1), M1))
  else
  ((fX12_linesThatCome p1 M1).bind fun v12 =>
  some (v12, M1)))
def fX11_rule (p1 : Int32) (p2 : Int32) (M : Mem) : Option (Int32 × Mem) :=
  if p1 = 0 then
  ((fX7_tell 45 p2 M).bind fun r2 =>
  some (r2.1, r2.2))
  else
  (if p1 = 1 then
  ((fX7_tell 47 p2 M).bind fun r1 =>
  some (r1.1, r1.2))
  else
  (some ((-1), M)))
def fX12_rule_L77 (K110 : Option (Int32 × Mem)) (z1 : Int32) (z2 : Int32) (M : Mem) : Nat → Int32 → Option (Int32 × Mem)
  | 0, _ => none
  | n + 1, y3 =>
    (rd M 231 2 z1).bind fun v7 =>
    if v7 ≤ y3 then
    (K110)
    else
    ((rd M 232 16 ((8 * z1) + y3)).bind fun v8 =>
    if v8 = z2 then
    (some ((-1), M))
    else
    (fX12_rule_L77 K110 z1 z2 M n (y3 + 1)))
def fX12_rule (p1 : Int32) (p2 : Int32) (M : Mem) : Option (Int32 × Mem) :=
  bnd (mu M 198 0 0) fun M1 =>
  if (fX12_isIn p1 0 1) = 0 then
  (some ((-1), M1))
  else
  (if p2 = (-1) then
  ((wr M1 231 2 p1 0).bind fun M14 =>
  some (0, M14))
  else
  (jn (fun (t3 : Int32) => if (fX12_isIn p2 (1 - p1) t3) = 0 then
  (some ((-1), M1))
  else
  ((rd M1 231 2 p1).bind fun v4 =>
  jn (fun (t6 : Int32) => if v4 = t6 then
  (some ((-1), M1))
  else
  (fX12_rule_L77 ((rd M1 231 2 p1).bind fun v9 =>
  (wr M1 232 16 ((8 * p1) + v9) p2).bind fun M10 =>
  (rd M10 231 2 p1).bind fun v11 =>
  (wr M10 231 2 p1 (v11 + 1)).bind fun M12 =>
  (rd M12 231 2 p1).bind fun v13 =>
  some (v13, M12)) p1 p2 M1 FU 0)) fun (J5 : (Int32) → Option (Int32 × Mem)) =>
  if p1 = 0 then
  (J5 5)
  else
  (J5 8))) fun (J2 : (Int32) → Option (Int32 × Mem)) =>
  if p1 = 0 then
  (J2 9)
  else
  (J2 200)))
def fX10_leastStep_L4 (z1 : Int32) (M : Mem) : Nat → Int32 → Int32 → Option (Int32)
  | 0, _, _ => none
  | n + 1, y2, y3 =>
    if (M 45 0) ≤ y3 then
    (some y2)
    else
    ((rd M 46 5 y3).bind fun v1 =>
    bnd (z1 - v1 : Int32) fun x2 =>
    jn (fun (a4 : Int32) => fX10_leastStep_L4 z1 M n a4 (y3 + 1)) fun (J3 : (Int32) → Option (Int32)) =>
    if x2 < 0 then
    (J3 y2)
    else
    (if 200 < x2 then
    (J3 y2)
    else
    ((fX7_has 47 x2 M).bind fun v5 =>
    if v5 = 0 then
    ((rd M 52 201 x2).bind fun v6 =>
    if v6 = 0 then
    (jn (J3 v1) fun (J7 : Option (Int32)) =>
    if y2 = (-1) then
    (J7)
    else
    (if y2 ≤ v1 then
    (J3 y2)
    else
    (J7)))
    else
    (J3 y2))
    else
    (J3 y2))))
def fX10_leastStep (p1 : Int32) (M : Mem) : Option (Int32) :=
  fX10_leastStep_L4 p1 M FU (-1) 0
def fX10_workWins_L2 (K51 : Mem → Option (Mem)) (z1 : Int32) : Nat → Int32 → Mem → Option (Mem)
  | 0, _, _ => none
  | n + 1, y2, M =>
    if z1 < y2 then
    (K51 M)
    else
    (if 200 < y2 then
    (K51 M)
    else
    ((fX7_has 47 y2 M).bind fun v1 =>
    jn (fun (t3 : Int32) => (wr M 52 201 y2 (nzb t3)).bind fun M4 =>
    fX10_workWins_L2 K51 z1 n (y2 + 1) M4) fun (J2 : (Int32) → Option (Mem)) =>
    jn (J2 0) fun (J5 : Option (Mem)) =>
    if v1 = 0 then
    ((fX10_leastStep y2 M).bind fun v6 =>
    if v6 = (-1) then
    (J5)
    else
    (J2 1))
    else
    (J5)))
def fX10_workWins (p1 : Int32) (M : Mem) : Option (Mem) :=
  fX10_workWins_L2 (fun (M7 : Mem) =>
  some M7) p1 FU 0 M
def fX10_winningStep (p1 : Int32) (M : Mem) : Option (Int32 × Mem) :=
  (fX10_workWins p1 M).bind fun M1 =>
  (fX7_has 47 p1 M1).bind fun v2 =>
  if v2 = 0 then
  ((fX10_leastStep p1 M1).bind fun v3 =>
  some (v3, M1))
  else
  (some ((-1), M1))
def fX10_winningSquares_L9 (K39 : Int32 → Option (Int32 × Mem)) (z1 : Int32) (M : Mem) : Nat → Int32 → Int32 → Option (Int32 × Mem)
  | 0, _, _ => none
  | n + 1, y2, y3 =>
    if z1 < y3 then
    (K39 y2)
    else
    (if 200 < y3 then
    (K39 y2)
    else
    ((rd M 52 201 y3).bind fun v2 =>
    jn (fun (a4 : Int32) => fX10_winningSquares_L9 K39 z1 M n a4 (y3 + 1)) fun (J3 : (Int32) → Option (Int32 × Mem)) =>
    if v2 = 0 then
    (J3 y2)
    else
    (J3 (y2 + 1))))
def fX10_winningSquares (p1 : Int32) (M : Mem) : Option (Int32 × Mem) :=
  (fX10_workWins p1 M).bind fun M1 =>
  fX10_winningSquares_L9 (fun (e5 : Int32) =>
  some (e5, M1)) p1 M1 FU 0 0
def fX11_game (p1 : Int32) (p2 : Int32) (M : Mem) : Option (Int32 × Mem) :=
  if (fX11_isWithin p1 0 200) = 0 then
  (some ((-1), M))
  else
  (if p2 = 0 then
  ((fX10_winningStep p1 M).bind fun r2 =>
  some (r2.1, r2.2))
  else
  (if p2 = 1 then
  ((fX10_winningSquares p1 M).bind fun r1 =>
  some (r1.1, r1.2))
  else
  (some ((-1), M))))
def fX12_isBarred_L2 (z1 : Int32) (M : Mem) : Nat → Int32 → Option (Int32)
  | 0, _ => none
  | n + 1, y2 =>
    (rd M 231 2 1).bind fun v1 =>
    if v1 ≤ y2 then
    (some 0)
    else
    ((rd M 232 16 (8 + y2)).bind fun v2 =>
    if v2 = z1 then
    (some 1)
    else
    (fX12_isBarred_L2 z1 M n (y2 + 1)))
def fX12_isBarred (p1 : Int32) (M : Mem) : Option (Int32) :=
  fX12_isBarred_L2 p1 M FU 0
def fX12_goodStep_L4 (z1 : Int32) (M : Mem) : Nat → Int32 → Int32 → Option (Int32)
  | 0, _, _ => none
  | n + 1, y2, y3 =>
    (rd M 231 2 0).bind fun v1 =>
    if v1 ≤ y3 then
    (some y2)
    else
    ((rd M 232 16 y3).bind fun v2 =>
    bnd (z1 - v2 : Int32) fun x3 =>
    jn (fun (a5 : Int32) => fX12_goodStep_L4 z1 M n a5 (y3 + 1)) fun (J4 : (Int32) → Option (Int32)) =>
    if x3 < 0 then
    (J4 y2)
    else
    ((fX12_isBarred x3 M).bind fun v6 =>
    if v6 = 0 then
    ((rd M 233 201 x3).bind fun v7 =>
    if v7 = 1 then
    (J4 y2)
    else
    (jn ((rd M 232 16 y3).bind fun v9 =>
    J4 v9) fun (J8 : Option (Int32)) =>
    if y2 = (-1) then
    (J8)
    else
    ((rd M 232 16 y3).bind fun v10 =>
    if y2 ≤ v10 then
    (J4 y2)
    else
    (J8))))
    else
    (J4 y2)))
def fX12_goodStep (p1 : Int32) (M : Mem) : Option (Int32) :=
  fX12_goodStep_L4 p1 M FU (-1) 0
def fX12_game_L34 (K87 : Int32 → Mem → Option (Int32 × Mem)) (z1 : Int32) : Nat → Int32 → Int32 → Mem → Option (Int32 × Mem)
  | 0, _, _, _ => none
  | n + 1, y3, y4, M =>
    if z1 < y4 then
    (K87 y3 M)
    else
    ((fX12_goodStep y4 M).bind fun v2 =>
    jn (fun (t4 : Int32) => (wr M 233 201 y4 t4).bind fun M5 =>
    (fX12_isBarred y4 M5).bind fun v6 =>
    jn (fun (a8 : Int32) => fX12_game_L34 K87 z1 n a8 (y4 + 1) M5) fun (J7 : (Int32) → Option (Int32 × Mem)) =>
    if v6 = 0 then
    ((rd M5 233 201 y4).bind fun v9 =>
    bnd (y3 + v9 : Int32) fun x10 =>
    J7 x10)
    else
    (J7 y3)) fun (J3 : (Int32) → Option (Int32 × Mem)) =>
    if v2 = (-1) then
    (J3 0)
    else
    (J3 1))
def fX12_game (p1 : Int32) (p2 : Int32) (M : Mem) : Option (Int32 × Mem) :=
  bnd (mu M 198 0 0) fun M1 =>
  if (fX12_isIn p1 0 200) = 0 then
  (some ((-1), M1))
  else
  (if (fX12_isIn p2 0 1) = 0 then
  (some ((-1), M1))
  else
  (fX12_game_L34 (fun (e11 : Int32) (M12 : Mem) =>
  if p2 = 1 then
  (some (e11, M12))
  else
  ((fX12_isBarred p1 M12).bind fun v13 =>
  if v13 = 0 then
  ((fX12_goodStep p1 M12).bind fun v14 =>
  some (v14, M12))
  else
  (some ((-1), M12)))) p1 FU 0 0 M1))
def fX6_goBack  (M : Mem) : Option (Int32 × Mem) :=
  if 0 < (M 105 0) then
  (jn (fun (t2 : Int32) => bnd (mu M 105 1 t2) fun M3 =>
  bnd (mu M3 105 0 ((M3 105 0) - 1)) fun M4 =>
  (rdt 106 6 (M4 105 1)).bind fun q5 =>
  if kd q5 = (9, 15) then (
  (fX9_copyFrom 2 q5 M4).bind fun M6 =>
  (rd M6 107 6 (M6 105 1)).bind fun v7 =>
  bnd (mu M6 12 0 v7) fun M8 =>
  some (1, M8)) else none) fun (J1 : (Int32) → Option (Int32 × Mem)) =>
  if (M 105 1) ≤ 0 then
  (J1 5)
  else
  (J1 ((M 105 1) - 1)))
  else
  (some (0, M))
def fX11_undo  (M : Mem) : Option (Int32 × Mem) :=
  (fX6_goBack M).bind fun r1 =>
  if r1.1 = 0 ∨ r1.1 = 1 then some (r1.1, r1.2) else none
def fX12_undo_L26  : Nat → Int32 → Mem → Option (Int32 × Mem)
  | 0, _, _ => none
  | n + 1, y1, M =>
    if 83 ≤ y1 then
    (some (1, M))
    else
    ((rd M 200 498 ((83 * (M 198 3)) + y1)).bind fun v3 =>
    (wr M 199 83 y1 v3).bind fun M4 =>
    fX12_undo_L26 n (y1 + 1) M4)
def fX12_undo  (M : Mem) : Option (Int32 × Mem) :=
  bnd (mu M 198 0 0) fun M1 =>
  if (M1 198 3) = 0 then
  (some (0, M1))
  else
  (bnd (mu M1 198 3 ((M1 198 3) - 1)) fun M2 =>
  fX12_undo_L26 FU 0 M2)
def fX7_copyFrom (k0 : Nat) (k1 : Nat) (M : Mem) : Option (Mem) :=
  bnd (mu M k0 0 (jmin (nI (kn (k0 + 1))) (M k1 0))) fun M1 =>
  (cpy M1 (k1 + 1) (kn (k1 + 1)) (k0 + 1) (kn (k0 + 1)) 0 0 (M1 k0 0)).bind fun M2 =>
  some M2
def fX10_copyFrom (k0 : Nat) (k1 : Nat) (M : Mem) : Option (Mem) :=
  (fX7_copyFrom (k0 + 1) (k1 + 1) M).bind fun M1 =>
  (fX7_copyFrom (k0 + 3) (k1 + 3) M1).bind fun M2 =>
  (fX7_copyFrom (k0 + 5) (k1 + 5) M2).bind fun M3 =>
  (fX7_copyFrom (k0 + 7) (k1 + 7) M3).bind fun M4 =>
  (cpy M4 (k1 + 9) 9 (k0 + 9) 9 0 0 9).bind fun M5 =>
  some M5
def fX0_copyFrom (k0 : Nat) (k1 : Nat) (M : Mem) : Option (Mem) :=
  (fX9_copyFrom (k0 + 1) (k1 + 1) M).bind fun M1 =>
  (fX3_copyFrom (k0 + 11) (k1 + 11) M1).bind fun M2 =>
  (fX1_copyFrom (k0 + 16) (k1 + 16) M2).bind fun M3 =>
  (fX3_copyFrom (k0 + 24) (k1 + 24) M3).bind fun M4 =>
  (fX3_copyFrom (k0 + 29) (k1 + 29) M4).bind fun M5 =>
  (fX3_copyFrom (k0 + 34) (k1 + 34) M5).bind fun M6 =>
  (fX10_copyFrom (k0 + 39) (k1 + 39) M6).bind fun M7 =>
  some M7
def fX11_image (p1 : Int32) (M : Mem) : Option (Int32 × Mem) :=
  if p1 = 0 then
  (if (M 0 2) = 0 then
  (if M 0 2 = 0 ∨ M 0 2 = 1 then some (M 0 2, M) else none)
  else
  ((fX0_copyFrom 1 53 M).bind fun M1 =>
  (fX6_forget M1).bind fun M2 =>
  if M2 0 2 = 0 ∨ M2 0 2 = 1 then some (M2 0 2, M2) else none))
  else
  ((fX0_copyFrom 53 1 M).bind fun M3 =>
  bnd (mu M3 0 2 1) fun M4 =>
  if M4 0 2 = 0 ∨ M4 0 2 = 1 then some (M4 0 2, M4) else none)
def fX12_keeps (p1 : Int32) (M : Mem) : Option (Int32 × Mem) :=
  bnd (mu M 198 60 ((M 198 60) + 1)) fun M1 =>
  if (M1 198 58) = 0 then
  ((rd M1 234 2200 ((M1 198 60) - 1)).bind fun v3 =>
  some (v3, M1))
  else
  ((wr M1 234 2200 ((M1 198 60) - 1) p1).bind fun M2 =>
  some (p1, M2))
def fX12_keepsTold_L118 (K210 : Mem → Option (Mem)) : Nat → Int32 → Mem → Option (Mem)
  | 0, _, _ => none
  | n + 1, y1, M =>
    if 14 ≤ y1 then
    (K210 M)
    else
    ((rd M 202 14 y1).bind fun v21 =>
    (fX12_keeps v21 M).bind fun r22 =>
    (wr r22.2 202 14 y1 r22.1).bind fun M23 =>
    (rd M23 203 14 y1).bind fun v24 =>
    (fX12_keeps v24 M23).bind fun r25 =>
    (wr r25.2 203 14 y1 r25.1).bind fun M26 =>
    (rd M26 204 14 y1).bind fun v27 =>
    (fX12_keeps v27 M26).bind fun r28 =>
    (wr r28.2 204 14 y1 r28.1).bind fun M29 =>
    (rd M29 218 28 y1).bind fun v30 =>
    (fX12_keeps v30 M29).bind fun r31 =>
    (wr r31.2 218 28 y1 r31.1).bind fun M32 =>
    (rd M32 221 14 y1).bind fun v33 =>
    (fX12_keeps v33 M32).bind fun r34 =>
    (wr r34.2 221 14 y1 r34.1).bind fun M35 =>
    fX12_keepsTold_L118 K210 n (y1 + 1) M35)
def fX12_keepsTold_L212 (K240 : Mem → Option (Mem)) : Nat → Int32 → Mem → Option (Mem)
  | 0, _, _ => none
  | n + 1, y1, M =>
    if 48 ≤ y1 then
    (K240 M)
    else
    ((rd M 216 96 y1).bind fun v37 =>
    (fX12_keeps v37 M).bind fun r38 =>
    (wr r38.2 216 96 y1 r38.1).bind fun M39 =>
    fX12_keepsTold_L212 K240 n (y1 + 1) M39)
def fX12_keepsTold_L242 (K270 : Mem → Option (Mem)) : Nat → Int32 → Mem → Option (Mem)
  | 0, _, _ => none
  | n + 1, y1, M =>
    if 64 ≤ y1 then
    (K270 M)
    else
    ((rd M 217 128 y1).bind fun v41 =>
    (fX12_keeps v41 M).bind fun r42 =>
    (wr r42.2 217 128 y1 r42.1).bind fun M43 =>
    fX12_keepsTold_L242 K270 n (y1 + 1) M43)
def fX12_keepsTold_L272 (K316 : Mem → Option (Mem)) : Nat → Int32 → Mem → Option (Mem)
  | 0, _, _ => none
  | n + 1, y1, M =>
    if 16 ≤ y1 then
    (K316 M)
    else
    ((rd M 225 16 y1).bind fun v45 =>
    (fX12_keeps v45 M).bind fun r46 =>
    (wr r46.2 225 16 y1 r46.1).bind fun M47 =>
    (rd M47 232 16 y1).bind fun v48 =>
    (fX12_keeps v48 M47).bind fun r49 =>
    (wr r49.2 232 16 y1 r49.1).bind fun M50 =>
    fX12_keepsTold_L272 K316 n (y1 + 1) M50)
def fX12_keepsTold_L318  : Nat → Int32 → Mem → Option (Mem)
  | 0, _, _ => none
  | n + 1, y1, M =>
    if 9 ≤ y1 then
    (some M)
    else
    ((rd M 230 9 y1).bind fun v52 =>
    (fX12_keeps v52 M).bind fun r53 =>
    (wr r53.2 230 9 y1 r53.1).bind fun M54 =>
    fX12_keepsTold_L318 n (y1 + 1) M54)
def fX12_keepsTold  (M : Mem) : Option (Mem) :=
  (fX12_keeps (M 198 6) M).bind fun r1 =>
  bnd (mu r1.2 198 6 r1.1) fun M2 =>
  (fX12_keeps (M2 198 7) M2).bind fun r3 =>
  bnd (mu r3.2 198 7 r3.1) fun M4 =>
  (fX12_keeps (M4 198 35) M4).bind fun r5 =>
  bnd (mu r5.2 198 35 r5.1) fun M6 =>
  (fX12_keeps (M6 198 37) M6).bind fun r7 =>
  bnd (mu r7.2 198 37 r7.1) fun M8 =>
  (fX12_keeps (M8 198 39) M8).bind fun r9 =>
  bnd (mu r9.2 198 39 r9.1) fun M10 =>
  (fX12_keeps (M10 198 43) M10).bind fun r11 =>
  bnd (mu r11.2 198 43 r11.1) fun M12 =>
  (fX12_keeps (M12 198 48) M12).bind fun r13 =>
  bnd (mu r13.2 198 48 r13.1) fun M14 =>
  (rd M14 231 2 0).bind fun v15 =>
  (fX12_keeps v15 M14).bind fun r16 =>
  (wr r16.2 231 2 0 r16.1).bind fun M17 =>
  (rd M17 231 2 1).bind fun v18 =>
  (fX12_keeps v18 M17).bind fun r19 =>
  (wr r19.2 231 2 1 r19.1).bind fun M20 =>
  fX12_keepsTold_L118 (fun (M36 : Mem) =>
  fX12_keepsTold_L212 (fun (M40 : Mem) =>
  fX12_keepsTold_L242 (fun (M44 : Mem) =>
  fX12_keepsTold_L272 (fun (M51 : Mem) =>
  fX12_keepsTold_L318 FU 0 M51) FU 0 M44) FU 0 M40) FU 0 M36) FU 0 M20
def fX12_keepsLaw_L18 (K94 : Mem → Option (Mem)) : Nat → Int32 → Mem → Option (Mem)
  | 0, _, _ => none
  | n + 1, y1, M =>
    if 16 ≤ y1 then
    (K94 M)
    else
    ((rd M 209 48 y1).bind fun v4 =>
    (fX12_keeps v4 M).bind fun r5 =>
    (wr r5.2 209 48 y1 r5.1).bind fun M6 =>
    (rd M6 210 48 y1).bind fun v7 =>
    (fX12_keeps v7 M6).bind fun r8 =>
    (wr r8.2 210 48 y1 r8.1).bind fun M9 =>
    (rd M9 211 48 y1).bind fun v10 =>
    (fX12_keeps v10 M9).bind fun r11 =>
    (wr r11.2 211 48 y1 r11.1).bind fun M12 =>
    (rd M12 212 48 y1).bind fun v13 =>
    (fX12_keeps v13 M12).bind fun r14 =>
    (wr r14.2 212 48 y1 r14.1).bind fun M15 =>
    fX12_keepsLaw_L18 K94 n (y1 + 1) M15)
def fX12_keepsLaw_L96  : Nat → Int32 → Mem → Option (Mem)
  | 0, _, _ => none
  | n + 1, y1, M =>
    if 400 ≤ y1 then
    (some M)
    else
    ((rd M 213 1200 y1).bind fun v17 =>
    (fX12_keeps v17 M).bind fun r18 =>
    (wr r18.2 213 1200 y1 r18.1).bind fun M19 =>
    (rd M19 214 1200 y1).bind fun v20 =>
    (fX12_keeps v20 M19).bind fun r21 =>
    (wr r21.2 214 1200 y1 r21.1).bind fun M22 =>
    fX12_keepsLaw_L96 n (y1 + 1) M22)
def fX12_keepsLaw  (M : Mem) : Option (Mem) :=
  (rd M 208 2 0).bind fun v1 =>
  (fX12_keeps v1 M).bind fun r2 =>
  (wr r2.2 208 2 0 r2.1).bind fun M3 =>
  fX12_keepsLaw_L18 (fun (M16 : Mem) =>
  fX12_keepsLaw_L96 FU 0 M16) FU 0 M3
def fX12_image_L35 (K63 : Mem → Option (Int32 × Mem)) : Nat → Int32 → Mem → Option (Int32 × Mem)
  | 0, _, _ => none
  | n + 1, y2, M =>
    if 83 ≤ y2 then
    (K63 M)
    else
    ((rd M 199 83 y2).bind fun v6 =>
    (fX12_keeps v6 M).bind fun r7 =>
    (wr r7.2 199 83 y2 r7.1).bind fun M8 =>
    fX12_image_L35 K63 n (y2 + 1) M8)
def fX12_image_L69 (K98 : Mem → Option (Int32 × Mem)) : Nat → Int32 → Mem → Option (Int32 × Mem)
  | 0, _, _ => none
  | n + 1, y2, M =>
    if 600 ≤ y2 then
    (K98 M)
    else
    ((rd M 205 600 y2).bind fun v11 =>
    (fX12_keeps v11 M).bind fun r12 =>
    (wr r12.2 205 600 y2 r12.1).bind fun M13 =>
    fX12_image_L69 K98 n (y2 + 1) M13)
def fX12_image (p1 : Int32) (M : Mem) : Option (Int32 × Mem) :=
  bnd (mu M 198 0 0) fun M1 =>
  jn (if p1 = 0 ∨ p1 = 1 then (bnd (mu M1 198 58 p1) fun M3 =>
  bnd (mu M3 198 59 1) fun M4 =>
  bnd (mu M4 198 60 0) fun M5 =>
  fX12_image_L35 (fun (M9 : Mem) =>
  (fX12_keepsTold M9).bind fun M10 =>
  fX12_image_L69 (fun (M14 : Mem) =>
  (fX12_keepsLaw M14).bind fun M15 =>
  if p1 = 0 then
  (bnd (mu M15 198 3 0) fun M16 =>
  some (1, M16))
  else
  (some (1, M15))) FU 0 M10) FU 0 M5) else none) fun (J2 : Option (Int32 × Mem)) =>
  if p1 = 0 then
  (if (M1 198 59) = 0 then
  (some (0, M1))
  else
  (J2))
  else
  (J2)
def fX11_look (p1 : Int32) (M : Mem) : Option (Int32) :=
  swt p1 0 [(some (M 2 4)),
  (some (M 2 5)),
  ((fX9_thoseThatAre 2 1 M).bind fun v1 =>
  some v1),
  ((fX9_thoseThatAre 2 2 M).bind fun v2 =>
  some v2),
  (some (M 2 1)),
  (some (M 2 2)),
  (some (M 2 3)),
  (some (M 12 0)),
  (some (M 2 0)),
  (some (M 17 0)),
  (some (M 25 0)),
  (some (M 30 0)),
  (some (M 35 0)),
  (some (M 105 0))] (some (-100000))
def fX12_look (p1 : Int32) (M : Mem) : Option (Int32 × Mem) :=
  bnd (mu M 198 0 0) fun M1 =>
  if p1 = 0 then
  (some (M1 198 6, M1))
  else
  (if p1 = 1 then
  (some (M1 198 7, M1))
  else
  (jn ((fX12_setThatIs (p1 - 1) M1).bind fun v3 =>
  some (v3, M1)) fun (J2 : Option (Int32 × Mem)) =>
  if p1 = 2 then
  (J2)
  else
  (if p1 = 3 then
  (J2)
  else
  (jn ((rd M1 199 83 ((3 + p1) - 4)).bind fun v5 =>
  some (v5, M1)) fun (J4 : Option (Int32 × Mem)) =>
  if p1 = 4 then
  (J4)
  else
  (if p1 = 5 then
  (J4)
  else
  (if p1 = 6 then
  ((rd M1 199 83 0).bind fun v9 =>
  some (v9, M1))
  else
  (if p1 = 7 then
  ((rd M1 199 83 2).bind fun v8 =>
  some (v8, M1))
  else
  (if p1 = 8 then
  ((rd M1 199 83 1).bind fun v7 =>
  some (v7, M1))
  else
  (if p1 = 9 then
  ((rd M1 208 2 0).bind fun v6 =>
  some (v6, M1))
  else
  (if p1 = 10 then
  (some (M1 198 35, M1))
  else
  (if p1 = 11 then
  (some (M1 198 37, M1))
  else
  (if p1 = 12 then
  (some (M1 198 39, M1))
  else
  (if p1 = 13 then
  (some (M1 198 3, M1))
  else
  (some ((-100000), M1)))))))))))))))
def fL_law_L18 (g : G)  : Nat → Int32 → Mem → Option (Int32 × Mem)
  | 0, _, _ => none
  | n + 1, y3, M =>
    if ((nI (gL g)) - 6) < y3 then
    (some (1, M))
    else
    ((rdf (gx g) (gL g) y3).bind fun v1 =>
    jn (fun (M3 : Mem) => fL_law_L18 g n (y3 + 6) M3) fun (J2 : (Mem) → Option (Int32 × Mem)) =>
    swt (v1 &&& 63) 0 [((rdf (gx g) (gL g) (y3 + 1)).bind fun v4 =>
    (fX11_state v4 M).bind fun r5 =>
    (rdf (gx g) (gL g) (y3 + 1)).bind fun v6 =>
    (fX12_state v6 r5.2).bind fun r7 =>
    if r5.1 = r7.1 then
    (J2 r7.2)
    else
    (some (0, r7.2))),
    ((rdf (gx g) (gL g) (y3 + 1)).bind fun v8 =>
    (fX11_person v8 M).bind fun r9 =>
    (rdf (gx g) (gL g) (y3 + 1)).bind fun v10 =>
    (fX12_person v10 r9.2).bind fun r11 =>
    if r9.1 = r11.1 then
    (J2 r11.2)
    else
    (some (0, r11.2))),
    ((rdf (gx g) (gL g) (y3 + 1)).bind fun v12 =>
    (rdf (gx g) (gL g) (y3 + 2)).bind fun v13 =>
    (rdf (gx g) (gL g) (y3 + 3)).bind fun v14 =>
    (fX11_bargain v12 v13 v14 M).bind fun r15 =>
    (rdf (gx g) (gL g) (y3 + 1)).bind fun v16 =>
    (rdf (gx g) (gL g) (y3 + 2)).bind fun v17 =>
    (rdf (gx g) (gL g) (y3 + 3)).bind fun v18 =>
    (fX12_bargain v16 v17 v18 r15.2).bind fun r19 =>
    if r15.1 = r19.1 then
    (J2 r19.2)
    else
    (some (0, r19.2))),
    ((rdf (gx g) (gL g) (y3 + 1)).bind fun v20 =>
    (rdf (gx g) (gL g) (y3 + 2)).bind fun v21 =>
    (rdf (gx g) (gL g) (y3 + 3)).bind fun v22 =>
    (fX11_set v20 v21 v22 M).bind fun r23 =>
    (rdf (gx g) (gL g) (y3 + 1)).bind fun v24 =>
    (rdf (gx g) (gL g) (y3 + 2)).bind fun v25 =>
    (rdf (gx g) (gL g) (y3 + 3)).bind fun v26 =>
    (fX12_set v24 v25 v26 r23.2).bind fun r27 =>
    if r23.1 = r27.1 then
    (J2 r27.2)
    else
    (some (0, r27.2))),
    ((rdf (gx g) (gL g) (y3 + 1)).bind fun v28 =>
    (rdf (gx g) (gL g) (y3 + 2)).bind fun v29 =>
    (fX11_act v28 v29 M).bind fun r30 =>
    (rdf (gx g) (gL g) (y3 + 1)).bind fun v31 =>
    (rdf (gx g) (gL g) (y3 + 2)).bind fun v32 =>
    (fX12_act v31 v32 r30.2).bind fun r33 =>
    if r30.1 = r33.1 then
    (J2 r33.2)
    else
    (some (0, r33.2))),
    ((rdf (gx g) (gL g) (y3 + 1)).bind fun v34 =>
    (fX11_days v34 M).bind fun r35 =>
    (rdf (gx g) (gL g) (y3 + 1)).bind fun v36 =>
    (fX12_days v36 r35.2).bind fun r37 =>
    if r35.1 = r37.1 then
    (J2 r37.2)
    else
    (some (0, r37.2))),
    ((rdf (gx g) (gL g) (y3 + 1)).bind fun v38 =>
    (rdf (gx g) (gL g) (y3 + 2)).bind fun v39 =>
    (rdf (gx g) (gL g) (y3 + 3)).bind fun v40 =>
    (rdf (gx g) (gL g) (y3 + 4)).bind fun v41 =>
    (rdf (gx g) (gL g) (y3 + 5)).bind fun v42 =>
    (fX11_feed v38 v39 v40 v41 v42 M).bind fun r43 =>
    (rdf (gx g) (gL g) (y3 + 1)).bind fun v44 =>
    (rdf (gx g) (gL g) (y3 + 2)).bind fun v45 =>
    (rdf (gx g) (gL g) (y3 + 3)).bind fun v46 =>
    (rdf (gx g) (gL g) (y3 + 4)).bind fun v47 =>
    (rdf (gx g) (gL g) (y3 + 5)).bind fun v48 =>
    (fX12_feed v44 v45 v46 v47 v48 r43.2).bind fun r49 =>
    if r43.1 = r49.1 then
    (J2 r49.2)
    else
    (some (0, r49.2))),
    ((rdf (gx g) (gL g) (y3 + 1)).bind fun v50 =>
    (fX11_end v50 M).bind fun r51 =>
    (rdf (gx g) (gL g) (y3 + 1)).bind fun v52 =>
    (fX12_end v52 r51.2).bind fun r53 =>
    if r51.1 = r53.1 then
    (J2 r53.2)
    else
    (some (0, r53.2))),
    ((rdf (gx g) (gL g) (y3 + 1)).bind fun v54 =>
    (fX11_text v54 M).bind fun r55 =>
    (rdf (gx g) (gL g) (y3 + 1)).bind fun v56 =>
    (fX12_text v56 r55.2).bind fun r57 =>
    if r55.1 = r57.1 then
    (J2 r57.2)
    else
    (some (0, r57.2))),
    ((rdf (gx g) (gL g) (y3 + 1)).bind fun v58 =>
    (rdf (gx g) (gL g) (y3 + 1)).bind fun v59 =>
    (fX12_fault v59 M).bind fun r60 =>
    if (fX11_fault v58 M) = r60.1 then
    (J2 r60.2)
    else
    (some (0, r60.2))),
    ((rdf (gx g) (gL g) (y3 + 1)).bind fun v61 =>
    (rdf (gx g) (gL g) (y3 + 2)).bind fun v62 =>
    (fX11_of v61 v62 M).bind fun v63 =>
    (rdf (gx g) (gL g) (y3 + 1)).bind fun v64 =>
    (rdf (gx g) (gL g) (y3 + 2)).bind fun v65 =>
    (fX12_of v64 v65 M).bind fun r66 =>
    if v63 = r66.1 then
    (J2 r66.2)
    else
    (some (0, r66.2))),
    ((rdf (gx g) (gL g) (y3 + 1)).bind fun v67 =>
    (rdf (gx g) (gL g) (y3 + 2)).bind fun v68 =>
    (fX11_deal v67 v68 M).bind fun r69 =>
    (rdf (gx g) (gL g) (y3 + 1)).bind fun v70 =>
    (rdf (gx g) (gL g) (y3 + 2)).bind fun v71 =>
    (fX12_deal v70 v71 r69.2).bind fun r72 =>
    if r69.1 = r72.1 then
    (J2 r72.2)
    else
    (some (0, r72.2))),
    ((rdf (gx g) (gL g) (y3 + 1)).bind fun v73 =>
    (rdf (gx g) (gL g) (y3 + 2)).bind fun v74 =>
    (fX11_book v73 v74 M).bind fun v75 =>
    (rdf (gx g) (gL g) (y3 + 1)).bind fun v76 =>
    (rdf (gx g) (gL g) (y3 + 2)).bind fun v77 =>
    (fX12_book v76 v77 M).bind fun r78 =>
    if v75 = r78.1 then
    (J2 r78.2)
    else
    (some (0, r78.2))),
    ((rdf (gx g) (gL g) (y3 + 1)).bind fun v79 =>
    (rdf (gx g) (gL g) (y3 + 2)).bind fun v80 =>
    (fX11_goes v79 v80 M).bind fun r81 =>
    (rdf (gx g) (gL g) (y3 + 1)).bind fun v82 =>
    (rdf (gx g) (gL g) (y3 + 2)).bind fun v83 =>
    (fX12_goes v82 v83 r81.2).bind fun r84 =>
    if r81.1 = r84.1 then
    (J2 r84.2)
    else
    (some (0, r84.2))),
    ((rdf (gx g) (gL g) (y3 + 1)).bind fun v85 =>
    (fX11_holds v85 M).bind fun r86 =>
    (rdf (gx g) (gL g) (y3 + 1)).bind fun v87 =>
    (fX12_holds v87 r86.2).bind fun r88 =>
    if r86.1 = r88.1 then
    (J2 r88.2)
    else
    (some (0, r88.2))),
    ((rdf (gx g) (gL g) (y3 + 1)).bind fun v89 =>
    (rdf (gx g) (gL g) (y3 + 2)).bind fun v90 =>
    (fX11_deals v89 v90 M).bind fun v91 =>
    (rdf (gx g) (gL g) (y3 + 1)).bind fun v92 =>
    (rdf (gx g) (gL g) (y3 + 2)).bind fun v93 =>
    (fX12_deals v92 v93 M).bind fun r94 =>
    if v91 = r94.1 then
    (J2 r94.2)
    else
    (some (0, r94.2))),
    ((rdf (gx g) (gL g) (y3 + 1)).bind fun v95 =>
    (fX11_jump v95 M).bind fun r96 =>
    (rdf (gx g) (gL g) (y3 + 1)).bind fun v97 =>
    (fX12_jump v97 r96.2).bind fun r98 =>
    if r96.1 = r98.1 then
    (J2 r98.2)
    else
    (some (0, r98.2))),
    ((rdf (gx g) (gL g) (y3 + 1)).bind fun v99 =>
    (fX11_jumps v99 M).bind fun r100 =>
    (rdf (gx g) (gL g) (y3 + 1)).bind fun v101 =>
    (fX12_jumps v101 r100.2).bind fun r102 =>
    if r100.1 = r102.1 then
    (J2 r102.2)
    else
    (some (0, r102.2))),
    ((rdf (gx g) (gL g) (y3 + 1)).bind fun v103 =>
    (rdf (gx g) (gL g) (y3 + 2)).bind fun v104 =>
    (rdf (gx g) (gL g) (y3 + 3)).bind fun v105 =>
    (fX11_walks v103 v104 v105 M).bind fun r106 =>
    (rdf (gx g) (gL g) (y3 + 1)).bind fun v107 =>
    (rdf (gx g) (gL g) (y3 + 2)).bind fun v108 =>
    (rdf (gx g) (gL g) (y3 + 3)).bind fun v109 =>
    (fX12_walks v107 v108 v109 r106.2).bind fun r110 =>
    if r106.1 = r110.1 then
    (J2 r110.2)
    else
    (some (0, r110.2))),
    ((rdf (gx g) (gL g) (y3 + 1)).bind fun v111 =>
    (rdf (gx g) (gL g) (y3 + 2)).bind fun v112 =>
    (fX11_apart v111 v112).bind fun v113 =>
    (rdf (gx g) (gL g) (y3 + 1)).bind fun v114 =>
    (rdf (gx g) (gL g) (y3 + 2)).bind fun v115 =>
    (fX12_apart v114 v115 M).bind fun r116 =>
    if v113 = r116.1 then
    (J2 r116.2)
    else
    (some (0, r116.2))),
    ((rdf (gx g) (gL g) (y3 + 1)).bind fun v117 =>
    (rdf (gx g) (gL g) (y3 + 2)).bind fun v118 =>
    (fX11_corners v117 v118).bind fun v119 =>
    (rdf (gx g) (gL g) (y3 + 1)).bind fun v120 =>
    (rdf (gx g) (gL g) (y3 + 2)).bind fun v121 =>
    (fX12_corners v120 v121 M).bind fun r122 =>
    if v119 = r122.1 then
    (J2 r122.2)
    else
    (some (0, r122.2))),
    ((rdf (gx g) (gL g) (y3 + 1)).bind fun v123 =>
    (rdf (gx g) (gL g) (y3 + 2)).bind fun v124 =>
    (fX11_parts v123 v124 M).bind fun r125 =>
    (rdf (gx g) (gL g) (y3 + 1)).bind fun v126 =>
    (rdf (gx g) (gL g) (y3 + 2)).bind fun v127 =>
    (fX12_parts v126 v127 r125.2).bind fun r128 =>
    if r125.1 = r128.1 then
    (J2 r128.2)
    else
    (some (0, r128.2))),
    ((rdf (gx g) (gL g) (y3 + 1)).bind fun v129 =>
    (rdf (gx g) (gL g) (y3 + 2)).bind fun v130 =>
    (fX11_lasts v129 v130).bind fun v131 =>
    (rdf (gx g) (gL g) (y3 + 1)).bind fun v132 =>
    (rdf (gx g) (gL g) (y3 + 2)).bind fun v133 =>
    (fX12_lasts v132 v133 M).bind fun r134 =>
    if v131 = r134.1 then
    (J2 r134.2)
    else
    (some (0, r134.2))),
    ((rdf (gx g) (gL g) (y3 + 1)).bind fun v135 =>
    (fX11_turn v135 M).bind fun r136 =>
    (rdf (gx g) (gL g) (y3 + 1)).bind fun v137 =>
    (fX12_turn v137 r136.2).bind fun r138 =>
    if r136.1 = r138.1 then
    (J2 r138.2)
    else
    (some (0, r138.2))),
    ((rdf (gx g) (gL g) (y3 + 1)).bind fun v139 =>
    (fX11_turning v139 M).bind fun r140 =>
    (rdf (gx g) (gL g) (y3 + 1)).bind fun v141 =>
    (fX12_turning v141 r140.2).bind fun r142 =>
    if r140.1 = r142.1 then
    (J2 r142.2)
    else
    (some (0, r142.2))),
    ((rdf (gx g) (gL g) (y3 + 1)).bind fun v143 =>
    (rdf (gx g) (gL g) (y3 + 2)).bind fun v144 =>
    (fX11_ant v143 v144).bind fun v145 =>
    (rdf (gx g) (gL g) (y3 + 1)).bind fun v146 =>
    (rdf (gx g) (gL g) (y3 + 2)).bind fun v147 =>
    (fX12_ant v146 v147 M).bind fun r148 =>
    if v145 = r148.1 then
    (J2 r148.2)
    else
    (some (0, r148.2))),
    ((rdf (gx g) (gL g) (y3 + 1)).bind fun v149 =>
    (rdf (gx g) (gL g) (y3 + 2)).bind fun v150 =>
    (rdf (gx g) (gL g) (y3 + 3)).bind fun v151 =>
    (fX11_row v149 v150 v151).bind fun v152 =>
    (rdf (gx g) (gL g) (y3 + 1)).bind fun v153 =>
    (rdf (gx g) (gL g) (y3 + 2)).bind fun v154 =>
    (rdf (gx g) (gL g) (y3 + 3)).bind fun v155 =>
    (fX12_row v153 v154 v155 M).bind fun r156 =>
    if v152 = r156.1 then
    (J2 r156.2)
    else
    (some (0, r156.2))),
    ((rdf (gx g) (gL g) (y3 + 1)).bind fun v157 =>
    (rdf (gx g) (gL g) (y3 + 2)).bind fun v158 =>
    (fX11_own v157 v158).bind fun v159 =>
    (rdf (gx g) (gL g) (y3 + 1)).bind fun v160 =>
    (rdf (gx g) (gL g) (y3 + 2)).bind fun v161 =>
    (fX12_own v160 v161 M).bind fun r162 =>
    if v159 = r162.1 then
    (J2 r162.2)
    else
    (some (0, r162.2))),
    ((rdf (gx g) (gL g) (y3 + 1)).bind fun v163 =>
    (rdf (gx g) (gL g) (y3 + 2)).bind fun v164 =>
    (rdf (gx g) (gL g) (y3 + 3)).bind fun v165 =>
    (rdf (gx g) (gL g) (y3 + 4)).bind fun v166 =>
    (fX11_round v163 v164 v165 v166).bind fun v167 =>
    (rdf (gx g) (gL g) (y3 + 1)).bind fun v168 =>
    (rdf (gx g) (gL g) (y3 + 2)).bind fun v169 =>
    (rdf (gx g) (gL g) (y3 + 3)).bind fun v170 =>
    (rdf (gx g) (gL g) (y3 + 4)).bind fun v171 =>
    (fX12_round v168 v169 v170 v171 M).bind fun r172 =>
    if v167 = r172.1 then
    (J2 r172.2)
    else
    (some (0, r172.2))),
    ((rdf (gx g) (gL g) (y3 + 1)).bind fun v173 =>
    (rdf (gx g) (gL g) (y3 + 2)).bind fun v174 =>
    (fX11_nine v173 v174 M).bind fun r175 =>
    (rdf (gx g) (gL g) (y3 + 1)).bind fun v176 =>
    (rdf (gx g) (gL g) (y3 + 2)).bind fun v177 =>
    (fX12_nine v176 v177 r175.2).bind fun r178 =>
    if r175.1 = r178.1 then
    (J2 r178.2)
    else
    (some (0, r178.2))),
    ((rdf (gx g) (gL g) (y3 + 1)).bind fun v179 =>
    (fX11_even v179 M).bind fun r180 =>
    (rdf (gx g) (gL g) (y3 + 1)).bind fun v181 =>
    (fX12_even v181 r180.2).bind fun r182 =>
    if r180.1 = r182.1 then
    (J2 r182.2)
    else
    (some (0, r182.2))),
    ((rdf (gx g) (gL g) (y3 + 1)).bind fun v183 =>
    (rdf (gx g) (gL g) (y3 + 2)).bind fun v184 =>
    (fX11_rule v183 v184 M).bind fun r185 =>
    (rdf (gx g) (gL g) (y3 + 1)).bind fun v186 =>
    (rdf (gx g) (gL g) (y3 + 2)).bind fun v187 =>
    (fX12_rule v186 v187 r185.2).bind fun r188 =>
    if r185.1 = r188.1 then
    (J2 r188.2)
    else
    (some (0, r188.2))),
    ((rdf (gx g) (gL g) (y3 + 1)).bind fun v189 =>
    (rdf (gx g) (gL g) (y3 + 2)).bind fun v190 =>
    (fX11_game v189 v190 M).bind fun r191 =>
    (rdf (gx g) (gL g) (y3 + 1)).bind fun v192 =>
    (rdf (gx g) (gL g) (y3 + 2)).bind fun v193 =>
    (fX12_game v192 v193 r191.2).bind fun r194 =>
    if r191.1 = r194.1 then
    (J2 r194.2)
    else
    (some (0, r194.2))),
    ((fX11_undo M).bind fun r195 =>
    (fX12_undo r195.2).bind fun r196 =>
    if r195.1 = r196.1 then
    (J2 r196.2)
    else
    (some (0, r196.2))),
    ((rdf (gx g) (gL g) (y3 + 1)).bind fun v197 =>
    jn (fun (t199 : Int32) => (fX11_image t199 M).bind fun r200 =>
    (rdf (gx g) (gL g) (y3 + 1)).bind fun v201 =>
    jn (fun (t203 : Int32) => (fX12_image t203 r200.2).bind fun r204 =>
    if r200.1 = r204.1 then
    (J2 r204.2)
    else
    (some (0, r204.2))) fun (J202 : (Int32) → Option (Int32 × Mem)) =>
    if v201 = 0 then
    (J202 0)
    else
    (J202 1)) fun (J198 : (Int32) → Option (Int32 × Mem)) =>
    if v197 = 0 then
    (J198 0)
    else
    (J198 1)),
    ((rdf (gx g) (gL g) (y3 + 1)).bind fun v205 =>
    (fX11_look v205 M).bind fun v206 =>
    (rdf (gx g) (gL g) (y3 + 1)).bind fun v207 =>
    (fX12_look v207 M).bind fun r208 =>
    if v206 = r208.1 then
    (J2 r208.2)
    else
    (some (0, r208.2)))] (J2 M))
def fL_law (g : G) (p3 : Int32) (M : Mem) : Option (Int32 × Mem) :=
  fL_law_L18 g FU p3 M
