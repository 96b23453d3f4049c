-- X1_twins
def F_X1_twins_J28 (a : Nat) (rc4 : (Int32 × Int32) → Option (Int32)) (x1 : Int32) (x2 : Int32) (h : HP) : Option (Int32) :=
  rc4 (x1, (x2 + 1))
def F_X1_twins_L4 (a : Nat) (h : HP) : Nat → (Int32 × Int32) → Option (Int32) :=
  lp (fun rc4 x =>
  (if (h.1 a 2) ≤ x.2 then
  some x.1
  else
  gd x.2 6 (
  (if (ld h (a + 5) x.2) = 3 then
  nm (x.1 ||| (1 <<< (x.2 &&& 31))) (fun v27 =>
  F_X1_twins_J28 a rc4 v27 x.2 h)
  else
  F_X1_twins_J28 a rc4 x.1 x.2 h))))
def F_X1_twins (a : Nat) (h : HP) : Option (Int32) :=
  F_X1_twins_L4 a h sg_fuel (0, 0)
-- X7_begin
def F_X7_begin_L39 (a : Nat) (q1 : Nat) : Nat → (Int32 × HP) → Option (HP) :=
  lp (fun rc39 x =>
  (if 6 ≤ x.1 then
  some x.2
  else
  gd x.1 6 (
  gd x.1 6 (
  nm (st x.2 (a + 1) x.1 (ld x.2 (q1 + 4) x.1)) (fun h56 =>
  gd x.1 6 (
  nm (st h56 (a + 2) x.1 (-4)) (fun h64 =>
  gd x.1 6 (
  nm (st h64 (a + 3) x.1 0) (fun h71 =>
  gd x.1 6 (
  nm (st h71 (a + 4) x.1 0) (fun h78 =>
  rc39 ((x.1 + 1), h78))))))))))))
def F_X7_begin (a : Nat) (q1 : Nat) (h : HP) : Option (HP) :=
  nm (ur h a 0 (q1 + 1)) (fun h2 =>
  nm (ui h2 a 1 (h2.1 q1 3)) (fun h10 =>
  nm (ui h10 a 2 (-1)) (fun h15 =>
  nm (ui h15 a 3 (-4)) (fun h21 =>
  nm (ui h21 a 4 0) (fun h26 =>
  cl (F_X1_twins q1 h26) (fun p31 =>
  nm (ui h26 a 5 p31) (fun h34 =>
  F_X7_begin_L39 a q1 sg_fuel (0, h34))))))))
-- X1_slopeAt
def F_X1_slopeAt (a : Nat) (x1 : Int32) (h : HP) : Option (Int32) :=
  gd x1 120 (
  gd (ld h (a + 6) x1) 6 (
  some (ld h (a + 2) (ld h (a + 6) x1))))
-- X7_drawnAt
def F_X7_drawnAt (a : Nat) (x1 : Int32) (h : HP) : Option (Int32) :=
  (if (h.1 a 2) = (-1) then
  some 0
  else
  nm (((7919 * (h.1 a 2).toInt64) + (6151 * x1.toInt64)) + 1) (fun v28 =>
  some ((((v28 * v28) - (v28 * v28) / 65521 * 65521) - ((v28 * v28) - (v28 * v28) / 65521 * 65521) / 3 * 3).toInt32)))
-- J6_bitCount_0f7a4
def F_J6_bitCount_0f7a4 (x0 : Int32) : Option (Int32) :=
  nm (x0 - ((x0.toUInt32 >>> ((1 : Int32).toUInt32 &&& Int32.toUInt32 31)).toInt32 &&& 1431655765)) (fun v9 =>
  nm ((v9 &&& 858993459) + ((v9.toUInt32 >>> ((2 : Int32).toUInt32 &&& Int32.toUInt32 31)).toInt32 &&& 858993459)) (fun v23 =>
  nm ((v23 + (v23.toUInt32 >>> ((4 : Int32).toUInt32 &&& Int32.toUInt32 31)).toInt32) &&& 252645135) (fun v33 =>
  nm (v33 + (v33.toUInt32 >>> ((8 : Int32).toUInt32 &&& Int32.toUInt32 31)).toInt32) (fun v40 =>
  nm (v40 + (v40.toUInt32 >>> ((16 : Int32).toUInt32 &&& Int32.toUInt32 31)).toInt32) (fun v47 =>
  some (v47 &&& 63))))))
-- X8_isIn
def F_X8_isIn (x0 : Int32) (x1 : Int32) : Option (Int32) :=
  (if ((x1 >>> (x0 &&& 31)) &&& 1) = 0 then
  some 0
  else
  some 1)
-- X8_toll
def F_X8_toll_J45 (s0 : Int32) : Option (Int32) :=
  (if 1 ≤ s0 then
  some s0
  else
  some 1)
def F_X8_toll_J31 (x2 : Int32) (x4 : Int32) : Option (Int32) :=
  (if x2 ≤ 1 then
  F_X8_toll_J45 x4
  else
  gz x2 (
  F_X8_toll_J45 (x4 / x2)))
def F_X8_toll (x0 : Int32) (x1 : Int32) (x2 : Int32) (x3 : Int32) : Option (Int32) :=
  (if x1 = 1 then
  nm (2 * x0) (fun v11 =>
  F_X8_toll_J31 x2 v11)
  else
  (if x1 = 3 then
  (if x3 ≤ 1 then
  F_X8_toll_J31 x2 x0
  else
  nm (x0 - 1) (fun v29 =>
  F_X8_toll_J31 x2 v29))
  else
  F_X8_toll_J31 x2 x0))
-- X7_setCosts
def F_X7_setCosts_J64 (a : Nat) (rc19 : (Int32 × HP) → Option (HP)) (x1 : Int32) (x2 : Int32) (x3 : Int32) (x4 : Int32) (x5 : Int32) (h : HP) : Option (HP) :=
  rc19 ((x5 + 1), h)
def F_X7_setCosts_L19 (a : Nat) (x1 : Int32) (x2 : Int32) (x3 : Int32) (x4 : Int32) : Nat → (Int32 × HP) → Option (HP) :=
  lp (fun rc19 x =>
  gn (x.2.2 a 0) (nm ((x.2.2 a 0) - 1) (fun q22 =>
  (if (x.2.1 q22 2) ≤ x.1 then
  some x.2
  else
  cl (F_X8_isIn x.1 x1) (fun p34 =>
  (if p34 = 0 then
  F_X7_setCosts_J64 a rc19 x1 x2 x3 x4 x.1 x.2
  else
  gn (x.2.2 a 0) (nm ((x.2.2 a 0) - 1) (fun q48 =>
  gd x.1 6 (
  cl (F_X8_toll x2 (ld x.2 (q48 + 5) x.1) x3 x4) (fun p60 =>
  gd x.1 6 (
  nm (st x.2 (a + 6) x.1 p60) (fun h63 =>
  F_X7_setCosts_J64 a rc19 x1 x2 x3 x4 x.1 h63))))))))))))
def F_X7_setCosts (a : Nat) (x1 : Int32) (x2 : Int32) (h : HP) : Option (HP) :=
  cl (F_J6_bitCount_0f7a4 x1) (fun p1 =>
  cl (F_J6_bitCount_0f7a4 (x1 &&& (h.1 a 5))) (fun p11 =>
  F_X7_setCosts_L19 a x1 x2 p1 p11 sg_fuel (0, h)))
-- X7_stumbling
def F_X7_stumbling_J64 (a : Nat) (x3 : Int32) (h : HP) : Option (Int32 × HP) :=
  nm (ui h a 4 ((h.1 a 4) ||| x3)) (fun h71 =>
  some (x3, h71))
def F_X7_stumbling_J58 (a : Nat) (rc5 : (Int32 × Int32 × HP) → Option (Int32 × HP)) (x1 : Int32) (x2 : Int32) (x3 : Int32) (x4 : Int32) (h : HP) : Option (Int32 × HP) :=
  rc5 (x3, (x4 + 1), h)
def F_X7_stumbling_L5 (a : Nat) (x1 : Int32) (x2 : Int32) : Nat → (Int32 × Int32 × HP) → Option (Int32 × HP) :=
  lp (fun rc5 x =>
  gn (x.2.2.2 a 0) (nm ((x.2.2.2 a 0) - 1) (fun q8 =>
  (if (x.2.2.1 q8 2) ≤ x.2.1 then
  F_X7_stumbling_J64 a x.1 x.2.2
  else
  cl (F_X8_isIn x.2.1 x1) (fun p20 =>
  (if p20 = 0 then
  F_X7_stumbling_J58 a rc5 x1 x2 x.1 x.2.1 x.2.2
  else
  gd x.2.1 6 (
  gd x.2.1 6 (
  (if (ld x.2.2 (a + 6) x.2.1) ≤ (ld x.2.2 (a + 1) x.2.1) then
  F_X7_stumbling_J58 a rc5 x1 x2 x.1 x.2.1 x.2.2
  else
  nm (x.1 ||| (1 <<< (x.2.1 &&& 31))) (fun v49 =>
  gd x.2.1 6 (
  nm (st x.2.2 (a + 2) x.2.1 x2) (fun h57 =>
  F_X7_stumbling_J58 a rc5 x1 x2 v49 x.2.1 h57))))))))))))
def F_X7_stumbling (a : Nat) (x1 : Int32) (x2 : Int32) (h : HP) : Option (Int32 × HP) :=
  F_X7_stumbling_L5 a x1 x2 sg_fuel (0, 0, h)
-- X1_priceAt
def F_X1_priceAt (a : Nat) (x1 : Int32) (h : HP) : Option (Int32) :=
  gd x1 120 (
  gd (ld h (a + 6) x1) 6 (
  some (ld h (a + 3) (ld h (a + 6) x1))))
-- X7_bringUp
def F_X7_bringUp_J82 (a : Nat) (rc21 : (Int32 × HP) → Option (HP)) (x1 : Int32) (x4 : Int32) (x5 : Int32) (h : HP) : Option (HP) :=
  rc21 ((x5 + 1), h)
def F_X7_bringUp_L21 (a : Nat) (x1 : Int32) (x4 : Int32) : Nat → (Int32 × HP) → Option (HP) :=
  lp (fun rc21 x =>
  gn (x.2.2 a 0) (nm ((x.2.2 a 0) - 1) (fun q24 =>
  (if (x.2.1 q24 2) ≤ x.1 then
  some x.2
  else
  cl (F_X8_isIn x.1 x1) (fun p36 =>
  (if p36 = 0 then
  F_X7_bringUp_J82 a rc21 x1 x4 x.1 x.2
  else
  gd x.1 6 (
  gd x.1 6 (
  gd x.1 6 (
  nm (st x.2 (a + 1) x.1 ((ld x.2 (a + 1) x.1) - (ld x.2 (a + 6) x.1))) (fun h58 =>
  gd x.1 6 (
  gd x.1 6 (
  nm (st h58 (a + 3) x.1 ((ld h58 (a + 3) x.1) + 1)) (fun h69 =>
  gd x.1 6 (
  gd x.1 6 (
  nm (st h69 (a + 4) x.1 ((ld h69 (a + 4) x.1) + x4)) (fun h81 =>
  F_X7_bringUp_J82 a rc21 x1 x4 x.1 h81))))))))))))))))
def F_X7_bringUp_J16 (a : Nat) (x1 : Int32) (s0 : Int32) (h : HP) : Option (HP) :=
  F_X7_bringUp_L21 a x1 s0 sg_fuel (0, h)
def F_X7_bringUp (a : Nat) (x1 : Int32) (x2 : Int32) (h : HP) : Option (HP) :=
  cl (F_J6_bitCount_0f7a4 x1) (fun p1 =>
  (if p1 ≤ 0 then
  F_X7_bringUp_J16 a x1 0 h
  else
  gz p1 (
  F_X7_bringUp_J16 a x1 (x2 / p1) h)))
-- X7_step
def F_X7_step (a : Nat) (x1 : Int32) (x2 : Int32) (h : HP) : Option (Int32 × HP) :=
  (if (h.1 a 3) = (-4) then
  nm (x2 &&& ((h.1 a 4) ^^^ (-1))) (fun v19 =>
  gn (h.2 a 0) (nm ((h.2 a 0) - 1) (fun q24 =>
  cl (F_X1_slopeAt q24 x1 h) (fun p28 =>
  gn (h.2 a 0) (nm ((h.2 a 0) - 1) (fun q33 =>
  cl (F_X7_drawnAt a x1 h) (fun p42 =>
  cl (F_X7_setCosts a v19 (((1 + p28) + (h.1 q33 4)) + p42) h) (fun p46 =>
  cl (F_X7_stumbling a v19 x1 p46) (fun p53 =>
  nm (v19 &&& (p53.1 ^^^ (-1))) (fun v59 =>
  cl (F_J6_bitCount_0f7a4 v59) (fun p63 =>
  (if (p53.2.1 a 1) ≤ p63 then
  gn (p53.2.2 a 0) (nm ((p53.2.2 a 0) - 1) (fun q86 =>
  cl (F_X1_priceAt q86 x1 p53.2) (fun p90 =>
  cl (F_X7_bringUp a v59 (60 * p90) p53.2) (fun p94 =>
  some (v59, p94)))))
  else
  nm (ui p53.2 a 3 x1) (fun h75 =>
  some (0, h75))))))))))))))
  else
  some (0, h))
-- X0_bearStretch
def F_X0_bearStretch_J114 (a : Nat) (rc32 : (Int32 × HP) → Option (HP)) (x2 : Int32) (x3 : Int32) (x4 : Int32) (x5 : Int32) (x6 : Int32) (s0 : Int32) (s1 : Int32) (h : HP) : Option (HP) :=
  nm (ui h a 9 (s1 + s0)) (fun h115 =>
  rc32 ((x6 + 1), h115))
def F_X0_bearStretch_J89 (a : Nat) (rc32 : (Int32 × HP) → Option (HP)) (x2 : Int32) (x3 : Int32) (x4 : Int32) (x5 : Int32) (x6 : Int32) (x7 : Int32) (x8 : Int32) (s0 : Int32) (s1 : Int32) (h : HP) : Option (HP) :=
  nm (ui h a 8 (s1 + s0)) (fun h90 =>
  cl (F_X8_isIn x4 x7) (fun p102 =>
  (if p102 = 0 then
  F_X0_bearStretch_J114 a rc32 x2 x3 x4 x5 x6 0 (h90.1 a 9) h90
  else
  F_X0_bearStretch_J114 a rc32 x2 x3 x4 x5 x6 x8 (h90.1 a 9) h90)))
def F_X0_bearStretch_J67 (a : Nat) (rc32 : (Int32 × HP) → Option (HP)) (x2 : Int32) (x3 : Int32) (x4 : Int32) (x5 : Int32) (x6 : Int32) (x7 : Int32) (s0 : Int32) (h : HP) : Option (HP) :=
  cl (F_X8_isIn x3 x7) (fun p77 =>
  (if p77 = 0 then
  F_X0_bearStretch_J89 a rc32 x2 x3 x4 x5 x6 x7 s0 0 (h.1 a 8) h
  else
  F_X0_bearStretch_J89 a rc32 x2 x3 x4 x5 x6 x7 s0 s0 (h.1 a 8) h))
def F_X0_bearStretch_L32 (a : Nat) (x2 : Int32) (x3 : Int32) (x4 : Int32) (x5 : Int32) : Nat → (Int32 × HP) → Option (HP) :=
  lp (fun rc32 x =>
  (if x2 ≤ x.1 then
  some x.2
  else
  cl (F_X7_step (a + 5) x.1 x5 x.2) (fun p46 =>
  cl (F_J6_bitCount_0f7a4 p46.1) (fun p53 =>
  (if p53 ≤ 1 then
  F_X0_bearStretch_J67 a rc32 x2 x3 x4 x5 x.1 p46.1 60 p46.2
  else
  F_X0_bearStretch_J67 a rc32 x2 x3 x4 x5 x.1 p46.1 30 p46.2)))))
def F_X0_bearStretch (a : Nat) (x1 : Int32) (x2 : Int32) (x3 : Int32) (x4 : Int32) (x5 : Int32) (h : HP) : Option (HP) :=
  cl (F_X7_begin (a + 5) 15 h) (fun p8 =>
  nm (ui p8 (a + 5) 1 0) (fun h16 =>
  nm (ui h16 a 8 0) (fun h21 =>
  nm (ui h21 a 9 0) (fun h26 =>
  F_X0_bearStretch_L32 a x2 x3 x4 x5 sg_fuel (x1, h26)))))
-- X0_fill
def F_X0_fill_L5 (a : Nat) (x1 : Int32) (x2 : Int32) : Nat → (Int32 × Int32 × HP) → Option (HP) :=
  lp (fun rc5 x =>
  (if (x.2.2.1 15 0) ≤ x.2.1 then
  some x.2.2
  else
  gd x.2.1 6 (
  nm (x.1 + (ld x.2.2 16 x.2.1)) (fun v29 =>
  cl (F_X0_bearStretch a x.1 v29 x1 x2 (1 <<< (x1 &&& 31)) x.2.2) (fun p40 =>
  gd x.2.1 6 (
  nm (st p40 (a + 1) x.2.1 (p40.1 a 8)) (fun h53 =>
  cl (F_X0_bearStretch a x.1 v29 x1 x2 (1 <<< (x2 &&& 31)) h53) (fun p63 =>
  gd x.2.1 6 (
  nm (st p63 (a + 3) x.2.1 (p63.1 a 9)) (fun h76 =>
  cl (F_X0_bearStretch a x.1 v29 x1 x2 ((1 <<< (x1 &&& 31)) ||| (1 <<< (x2 &&& 31))) h76) (fun p90 =>
  gd x.2.1 6 (
  nm (st p90 (a + 2) x.2.1 (p90.1 a 8)) (fun h103 =>
  gd x.2.1 6 (
  nm (st h103 (a + 4) x.2.1 (h103.1 a 9)) (fun h114 =>
  rc5 (v29, (x.2.1 + 1), h114))))))))))))))))
def F_X0_fill (a : Nat) (x1 : Int32) (x2 : Int32) (h : HP) : Option (HP) :=
  F_X0_fill_L5 a x1 x2 sg_fuel (0, 0, h)
-- X0_ofFirst
def F_X0_ofFirst (a : Nat) (x1 : Int32) (x2 : Int32) (h : HP) : Option (Int32) :=
  (if x1 = x2 then
  gd x1 6 (
  some (ld h (a + 2) x1))
  else
  gd x1 6 (
  some (ld h (a + 1) x1)))
-- X0_ofOther
def F_X0_ofOther (a : Nat) (x1 : Int32) (x2 : Int32) (h : HP) : Option (Int32) :=
  (if x1 = x2 then
  gd x2 6 (
  some (ld h (a + 4) x2))
  else
  gd x2 6 (
  some (ld h (a + 3) x2)))
-- X0_isRest
def F_X0_isRest_L2 (a : Nat) (x1 : Int32) (x2 : Int32) (h : HP) : Nat → Int32 → Option (Int32) :=
  lp (fun rc2 x =>
  (if (h.1 15 0) ≤ x then
  some 1
  else
  cl (F_X0_ofFirst a x x2 h) (fun p16 =>
  cl (F_X0_ofFirst a x1 x2 h) (fun p22 =>
  (if p22 < p16 then
  some 0
  else
  cl (F_X0_ofOther a x1 x h) (fun p31 =>
  cl (F_X0_ofOther a x1 x2 h) (fun p37 =>
  (if p31 ≤ p37 then
  rc2 (x + 1)
  else
  some 0))))))))
def F_X0_isRest (a : Nat) (x1 : Int32) (x2 : Int32) (h : HP) : Option (Int32) :=
  F_X0_isRest_L2 a x1 x2 h sg_fuel 0
-- X0_weigh
def F_X0_weigh_J98 (a : Nat) (rc19 : (Int32 × HP) → Option (HP)) (x3 : Int32) (h : HP) : Option (HP) :=
  rc19 ((x3 + 1), h)
def F_X0_weigh_J92 (a : Nat) (rc19 : (Int32 × HP) → Option (HP)) (rc33 : (Int32 × HP) → Option (HP)) (x3 : Int32) (x4 : Int32) (h : HP) : Option (HP) :=
  rc33 ((x4 + 1), h)
def F_X0_weigh_J89 (a : Nat) (rc19 : (Int32 × HP) → Option (HP)) (rc33 : (Int32 × HP) → Option (HP)) (x3 : Int32) (x4 : Int32) (s0 : Int32) (h : HP) : Option (HP) :=
  nm (ui h a 1 s0) (fun h89 =>
  F_X0_weigh_J92 a rc19 rc33 x3 x4 h89)
def F_X0_weigh_L33 (a : Nat) (rc19 : (Int32 × HP) → Option (HP)) (x3 : Int32) : Nat → (Int32 × HP) → Option (HP) :=
  lp (fun rc33 x =>
  (if (x.2.1 15 0) ≤ x.1 then
  F_X0_weigh_J98 a rc19 x3 x.2
  else
  cl (F_X0_isRest a x3 x.1 x.2) (fun p49 =>
  (if p49 = 0 then
  F_X0_weigh_J92 a rc19 rc33 x3 x.1 x.2
  else
  nm (ui x.2 a 0 ((x.2.1 a 0) + 1)) (fun h62 =>
  (if (h62.1 a 1) = (-4) then
  F_X0_weigh_J89 a rc19 rc33 x3 x.1 ((8 * x3) + x.1) h62
  else
  F_X0_weigh_J89 a rc19 rc33 x3 x.1 (h62.1 a 1) h62))))))
def F_X0_weigh_L19 (a : Nat) : Nat → (Int32 × HP) → Option (HP) :=
  lp (fun rc19 x =>
  (if (x.2.1 15 0) ≤ x.1 then
  some x.2
  else
  F_X0_weigh_L33 a rc19 x.1 sg_fuel (0, x.2)))
def F_X0_weigh (a : Nat) (x1 : Int32) (x2 : Int32) (h : HP) : Option (HP) :=
  cl (F_X0_fill a x1 x2 h) (fun p3 =>
  nm (ui p3 a 0 0) (fun h8 =>
  nm (ui h8 a 1 (-4)) (fun h14 =>
  F_X0_weigh_L19 a sg_fuel (0, h14))))
-- X1_clear
def F_X1_clear (a : Nat) (h : HP) : Option (HP) :=
  nm (ui h a 0 0) (fun h2 =>
  nm (ui h2 a 1 0) (fun h7 =>
  nm (ui h7 a 2 0) (fun h12 =>
  nm (ui h12 a 3 1) (fun h17 =>
  nm (ui h17 a 4 0) (fun h22 =>
  some h22)))))
-- X8_within
def F_X8_within (x0 : Int32) (x1 : Int32) (x2 : Int32) : Option (Int32) :=
  (if x0 < x1 then
  some 0
  else
  (if x2 < x0 then
  some 0
  else
  some 1))
-- X1_addStretch
def F_X1_addStretch (a : Nat) (x1 : Int32) (x2 : Int32) (h : HP) : Option (Int32 × HP) :=
  (if 6 ≤ (h.1 a 0) then
  some (0, h)
  else
  cl (F_X8_within x1 1 30) (fun p13 =>
  (if p13 = 0 then
  some (0, h)
  else
  (if 120 < ((h.1 a 1) + x1) then
  some (0, h)
  else
  cl (F_X8_within x2 0 5) (fun p33 =>
  (if p33 = 0 then
  some (0, h)
  else
  gd (h.1 a 0) 6 (
  nm (st h (a + 1) (h.1 a 0) x1) (fun h50 =>
  gd (h50.1 a 0) 6 (
  nm (st h50 (a + 2) (h50.1 a 0) x2) (fun h60 =>
  gd (h60.1 a 0) 6 (
  nm (st h60 (a + 3) (h60.1 a 0) 1) (fun h70 =>
  nm (ui h70 a 0 ((h70.1 a 0) + 1)) (fun h78 =>
  nm (ui h78 a 1 ((h78.1 a 1) + x1)) (fun h88 =>
  some (1, h88)))))))))))))))
-- X1_addBearer
def F_X1_addBearer (a : Nat) (x1 : Int32) (x2 : Int32) (h : HP) : Option (Int32 × HP) :=
  (if 6 ≤ (h.1 a 2) then
  some (0, h)
  else
  cl (F_X8_within x1 1 60) (fun p13 =>
  (if p13 = 0 then
  some (0, h)
  else
  cl (F_X8_within x2 0 3) (fun p22 =>
  (if p22 = 0 then
  some (0, h)
  else
  gd (h.1 a 2) 6 (
  nm (st h (a + 4) (h.1 a 2) (10 * x1)) (fun h42 =>
  gd (h42.1 a 2) 6 (
  nm (st h42 (a + 5) (h42.1 a 2) x2) (fun h52 =>
  nm (ui h52 a 2 ((h52.1 a 2) + 1)) (fun h60 =>
  some (1, h60)))))))))))
-- X1_setMust
def F_X1_setMust (a : Nat) (x1 : Int32) (h : HP) : Option (Int32 × HP) :=
  cl (F_X8_within x1 1 3) (fun p3 =>
  (if p3 = 0 then
  some (0, h)
  else
  nm (ui h a 3 x1) (fun h13 =>
  some (1, h13))))
-- X1_setWet
def F_X1_setWet (a : Nat) (x1 : Int32) (h : HP) : Option (Int32 × HP) :=
  cl (F_X8_within x1 0 3) (fun p3 =>
  (if p3 = 0 then
  some (0, h)
  else
  nm (ui h a 4 x1) (fun h13 =>
  some (1, h13))))
-- X1_hasStretch
def F_X1_hasStretch (a : Nat) (x1 : Int32) (h : HP) : Option (Int32) :=
  (if x1 < 0 then
  some 0
  else
  (if (h.1 a 0) ≤ x1 then
  some 0
  else
  some 1))
-- X1_setPrice
def F_X1_setPrice (a : Nat) (x1 : Int32) (x2 : Int32) (h : HP) : Option (Int32 × HP) :=
  cl (F_X1_hasStretch a x1 h) (fun p2 =>
  (if p2 = 0 then
  some (0, h)
  else
  cl (F_X8_within x2 1 9) (fun p12 =>
  (if p12 = 0 then
  some (0, h)
  else
  gd x1 6 (
  nm (st h (a + 3) x1 x2) (fun h26 =>
  some (1, h26)))))))
-- X1_markYards
def F_X1_markYards_J46 (a : Nat) (rc4 : (Int32 × Int32 × HP) → Option (HP)) (x1 : Int32) (x2 : Int32) (h : HP) : Option (HP) :=
  rc4 (x1, (x2 + 1), h)
def F_X1_markYards_L14 (a : Nat) (rc4 : (Int32 × Int32 × HP) → Option (HP)) (x2 : Int32) : Nat → (Int32 × Int32 × HP) → Option (HP) :=
  lp (fun rc14 x =>
  gd x2 6 (
  (if (ld x.2.2 (a + 1) x2) ≤ x.2.1 then
  F_X1_markYards_J46 a rc4 x.1 x2 x.2.2
  else
  (if 120 ≤ x.1 then
  F_X1_markYards_J46 a rc4 x.1 x2 x.2.2
  else
  gd x.1 120 (
  nm (st x.2.2 (a + 6) x.1 x2) (fun h36 =>
  rc14 ((x.1 + 1), (x.2.1 + 1), h36)))))))
def F_X1_markYards_L4 (a : Nat) : Nat → (Int32 × Int32 × HP) → Option (HP) :=
  lp (fun rc4 x =>
  (if (x.2.2.1 a 0) ≤ x.2.1 then
  some x.2.2
  else
  F_X1_markYards_L14 a rc4 x.2.1 sg_fuel (x.1, 0, x.2.2)))
def F_X1_markYards (a : Nat) (h : HP) : Option (HP) :=
  F_X1_markYards_L4 a sg_fuel (0, 0, h)
-- X1_copy
def F_X1_copy (a : Nat) (q1 : Nat) (h : HP) : Option (HP) :=
  nm (ui h a 0 (h.1 q1 0)) (fun h5 =>
  nm (ui h5 a 1 (h5.1 q1 1)) (fun h13 =>
  nm (ui h13 a 2 (h13.1 q1 2)) (fun h21 =>
  nm (ui h21 a 3 (h21.1 q1 3)) (fun h29 =>
  nm (ui h29 a 4 (h29.1 q1 4)) (fun h37 =>
  nm (uc h37 (q1 + 1) (a + 1) (0 : Int32).toNatClampNeg (0 : Int32).toNatClampNeg (6 : Int32).toNatClampNeg) (fun h52 =>
  nm (uc h52 (q1 + 2) (a + 2) (0 : Int32).toNatClampNeg (0 : Int32).toNatClampNeg (6 : Int32).toNatClampNeg) (fun h67 =>
  nm (uc h67 (q1 + 3) (a + 3) (0 : Int32).toNatClampNeg (0 : Int32).toNatClampNeg (6 : Int32).toNatClampNeg) (fun h82 =>
  nm (uc h82 (q1 + 4) (a + 4) (0 : Int32).toNatClampNeg (0 : Int32).toNatClampNeg (6 : Int32).toNatClampNeg) (fun h97 =>
  nm (uc h97 (q1 + 5) (a + 5) (0 : Int32).toNatClampNeg (0 : Int32).toNatClampNeg (6 : Int32).toNatClampNeg) (fun h112 =>
  cl (F_X1_markYards a h112) (fun p116 =>
  some p116)))))))))))
-- X1_moveBorder
def F_X1_moveBorder (a : Nat) (x1 : Int32) (x2 : Int32) (h : HP) : Option (Int32 × HP) :=
  (if x1 < 0 then
  some (0, h)
  else
  (if (h.1 a 0) ≤ (x1 + 1) then
  some (0, h)
  else
  gd x1 6 (
  (if ((ld h (a + 1) x1) + x2) < 1 then
  some (0, h)
  else
  gd (x1 + 1) 6 (
  (if 1 ≤ ((ld h (a + 1) (x1 + 1)) - x2) then
  gd x1 6 (
  gd x1 6 (
  nm (st h (a + 1) x1 ((ld h (a + 1) x1) + x2)) (fun h51 =>
  gd (x1 + 1) 6 (
  gd (x1 + 1) 6 (
  nm (st h51 (a + 1) (x1 + 1) ((ld h51 (a + 1) (x1 + 1)) - x2)) (fun h63 =>
  cl (F_X1_markYards a h63) (fun p65 =>
  some (1, p65))))))))
  else
  some (0, h)))))))
-- X1_hasYard
def F_X1_hasYard (a : Nat) (x1 : Int32) (h : HP) : Option (Int32) :=
  (if x1 < 0 then
  some 0
  else
  (if (h.1 a 1) ≤ x1 then
  some 0
  else
  some 1))
-- X1_hasBearer
def F_X1_hasBearer (a : Nat) (x1 : Int32) (h : HP) : Option (Int32) :=
  (if x1 < 0 then
  some 0
  else
  (if (h.1 a 2) ≤ x1 then
  some 0
  else
  some 1))
-- X2_note
def F_X2_note (a : Nat) (x1 : Int32) (h : HP) : Option (HP) :=
  (if x1 ≤ (h.1 a 0) then
  some h
  else
  nm (ui h a 0 x1) (fun h10 =>
  nm (uc h10 (a + 2) (a + 1) (0 : Int32).toNatClampNeg (0 : Int32).toNatClampNeg (6 : Int32).toNatClampNeg) (fun h25 =>
  some h25)))
-- X2_goAlone
def F_X2_goAlone_J91 (a : Nat) (h : HP) : Option (Int32) :=
  some (h.1 15 1)
def F_X2_goAlone_L30 (a : Nat) (x1 : Int32) (h : HP) : Nat → (Int32 × Int32) → Option (Int32) :=
  lp (fun rc30 x =>
  (if (h.1 15 1) ≤ x.2 then
  F_X2_goAlone_J91 a h
  else
  cl (F_X1_slopeAt 15 x.2 h) (fun p50 =>
  gd x1 6 (
  cl (F_X8_toll ((1 + p50) + (h.1 15 4)) (ld h 20 x1) 1 1) (fun p73 =>
  nm (x.1 - p73) (fun v77 =>
  (if 0 ≤ v77 then
  rc30 (v77, (x.2 + 1))
  else
  some x.2)))))))
def F_X2_goAlone_J25 (a : Nat) (x1 : Int32) (x2 : Int32) (s0 : Int32) (s1 : Int32) (h : HP) : Option (Int32) :=
  nm (s1 + s0) (fun v26 =>
  F_X2_goAlone_L30 a x1 h sg_fuel (v26, x2))
def F_X2_goAlone (a : Nat) (x1 : Int32) (x2 : Int32) (h : HP) : Option (Int32) :=
  gd x1 6 (
  (if x1 = (h.1 a 4) then
  F_X2_goAlone_J25 a x1 x2 (h.1 a 5) (ld h 19 x1) h
  else
  F_X2_goAlone_J25 a x1 x2 0 (ld h 19 x1) h))
-- X2_tryNext
def F_X2_tryNext_J17 (rcS : (Nat × Int32 × Int32 × Int32 × HP) → Option (HP)) (q0 : Nat) (x3 : Int32) (h : HP) : Option (HP) :=
  cl (F_X2_note q0 x3 h) (fun p19 =>
  some p19)
def F_X2_tryNext_J89 (rcS : (Nat × Int32 × Int32 × Int32 × HP) → Option (HP)) (q0 : Nat) (rc26 : (Int32 × HP) → Option (HP)) (x1 : Int32) (x2 : Int32) (x3 : Int32) (x4 : Int32) (h : HP) : Option (HP) :=
  rc26 ((x4 + 1), h)
def F_X2_tryNext_L26 (rcS : (Nat × Int32 × Int32 × Int32 × HP) → Option (HP)) (q0 : Nat) (x1 : Int32) (x2 : Int32) (x3 : Int32) : Nat → (Int32 × HP) → Option (HP) :=
  lp (fun rc26 x =>
  (if (x.2.1 15 2) ≤ x.1 then
  some x.2
  else
  (if (x.2.1 15 1) ≤ (x.2.1 q0 0) then
  some x.2
  else
  cl (F_X8_isIn x.1 x2) (fun p55 =>
  (if p55 = 0 then
  gd x1 6 (
  nm (st x.2 (q0 + 2) x1 x.1) (fun h68 =>
  cl (F_X2_goAlone q0 x.1 x3 h68) (fun p83 =>
  cl (rcS (q0, (x1 + 1), (x2 ||| (1 <<< (x.1 &&& 31))), p83, h68)) (fun p86 =>
  F_X2_tryNext_J89 rcS q0 rc26 x1 x2 x3 x.1 p86))))
  else
  F_X2_tryNext_J89 rcS q0 rc26 x1 x2 x3 x.1 x.2)))))
def F_X2_tryNext_B (rcS : (Nat × Int32 × Int32 × Int32 × HP) → Option (HP)) (q0 : Nat) (x1 : Int32) (x2 : Int32) (x3 : Int32) (h : HP) : Option (HP) :=
  (if (h.1 15 2) ≤ x1 then
  F_X2_tryNext_J17 rcS q0 x3 h
  else
  (if x1 < 6 then
  F_X2_tryNext_L26 rcS q0 x1 x2 x3 sg_fuel (0, h)
  else
  F_X2_tryNext_J17 rcS q0 x3 h))
def F_X2_tryNext_R : Nat → (Nat × Int32 × Int32 × Int32 × HP) → Option (HP) := lp (fun rcS x => F_X2_tryNext_B rcS x.1 x.2.1 x.2.2.1 x.2.2.2.1 x.2.2.2.2)
def F_X2_tryNext (q0 : Nat) (x1 : Int32) (x2 : Int32) (x3 : Int32) (h : HP) : Option (HP) := F_X2_tryNext_R 8 (q0, x1, x2, x3, h)
-- X2_seek
def F_X2_seek (a : Nat) (x1 : Int32) (x2 : Int32) (h : HP) : Option (HP) :=
  nm (ui h a 4 x1) (fun h2 =>
  nm (ui h2 a 5 x2) (fun h7 =>
  nm (ui h7 a 0 (-4)) (fun h13 =>
  cl (F_X2_tryNext a 0 0 0 h13) (fun p20 =>
  some p20))))
-- X3_isFull
def F_X3_isFull (a : Nat) (h : HP) : Option (Int32) :=
  (if (h.1 a 1) < (Int32.ofNat (sg_N (a + 1))) then
  some 0
  else
  some 1)
-- X3_dropOldest
def F_X3_dropOldest_J40 (a : Nat) (q1 : Nat) (h : HP) : Option (HP) :=
  gd ((Int32.ofNat (sg_N (a + 1))) - 1) (sg_N (a + 1)) (
  nm (ur h (a + 1) ((Int32.ofNat (sg_N (a + 1))) - 1).toNatClampNeg (q1 + 1)) (fun h52 =>
  nm (ui h52 a 1 ((h52.1 a 1) - 1)) (fun h60 =>
  some h60)))
def F_X3_dropOldest_L9 (a : Nat) (q1 : Nat) : Nat → (Int32 × HP) → Option (HP) :=
  lp (fun rc9 x =>
  (if (Int32.ofNat (sg_N (a + 1))) ≤ (x.1 + 1) then
  F_X3_dropOldest_J40 a q1 x.2
  else
  gd (x.1 + 1) (sg_N (a + 1)) (gn (x.2.2 (a + 1) (x.1 + 1).toNatClampNeg) (nm ((x.2.2 (a + 1) (x.1 + 1).toNatClampNeg) - 1) (fun q32 =>
  gd x.1 (sg_N (a + 1)) (
  nm (ur x.2 (a + 1) x.1.toNatClampNeg (q32 + 1)) (fun h33 =>
  rc9 ((x.1 + 1), h33))))))))
def F_X3_dropOldest (a : Nat) (h : HP) : Option (HP) :=
  gd (0 : Int32) (sg_N (a + 1)) (gn (h.2 (a + 1) (0 : Int32).toNatClampNeg) (nm ((h.2 (a + 1) (0 : Int32).toNatClampNeg) - 1) (fun q5 =>
  F_X3_dropOldest_L9 a q5 sg_fuel (0, h))))
-- X6_copy
def F_X6_copy (a : Nat) (q1 : Nat) (h : HP) : Option (HP) :=
  nm (ui h a 0 (h.1 q1 0)) (fun h5 =>
  nm (uc h5 (q1 + 1) (a + 1) (0 : Int32).toNatClampNeg (0 : Int32).toNatClampNeg (9 : Int32).toNatClampNeg) (fun h20 =>
  nm (uc h20 (q1 + 2) (a + 2) (0 : Int32).toNatClampNeg (0 : Int32).toNatClampNeg (9 : Int32).toNatClampNeg) (fun h35 =>
  nm (uc h35 (q1 + 3) (a + 3) (0 : Int32).toNatClampNeg (0 : Int32).toNatClampNeg (9 : Int32).toNatClampNeg) (fun h50 =>
  some h50))))
-- X3_push
def F_X3_push_J11 (a : Nat) (q1 : Nat) (h : HP) : Option (HP) :=
  gd (h.1 a 1) (sg_N (a + 1)) (gn (h.2 (a + 1) (h.1 a 1).toNatClampNeg) (nm ((h.2 (a + 1) (h.1 a 1).toNatClampNeg) - 1) (fun q19 =>
  cl (F_X6_copy q19 q1 h) (fun p21 =>
  nm (ui p21 a 1 ((p21.1 a 1) + 1)) (fun h31 =>
  some h31)))))
def F_X3_push (a : Nat) (q1 : Nat) (h : HP) : Option (HP) :=
  cl (F_X3_isFull a h) (fun p1 =>
  (if p1 = 0 then
  F_X3_push_J11 a q1 h
  else
  cl (F_X3_dropOldest a h) (fun p8 =>
  F_X3_push_J11 a q1 p8)))
-- X3_popInto
def F_X3_popInto (a : Nat) (q1 : Nat) (h : HP) : Option (Int32 × HP) :=
  (if (h.1 a 1) = 0 then
  some (0, h)
  else
  nm (ui h a 1 ((h.1 a 1) - 1)) (fun h16 =>
  gd (h16.1 a 1) (sg_N (a + 1)) (gn (h16.2 (a + 1) (h16.1 a 1).toNatClampNeg) (nm ((h16.2 (a + 1) (h16.1 a 1).toNatClampNeg) - 1) (fun q28 =>
  cl (F_X6_copy q1 q28 h16) (fun p29 =>
  some (1, p29)))))))
-- X4_numbersOf
def F_X4_numbersOf (x0 : Int32) : Option (Int32) :=
  (if x0 = 98 then
  some 2
  else
  (if x0 = 109 then
  some 1
  else
  (if x0 = 114 then
  some 1
  else
  (if x0 = 115 then
  some 2
  else
  (if x0 = 116 then
  some 3
  else
  (if x0 = 120 then
  some 2
  else
  some 0))))))
-- X4_readNumbers
def F_X4_readNumbers_J137 (a : Nat) (q1 : Nat) (x4 : Int32) (x5 : Int32) (h : HP) : Option (Int32 × HP) :=
  (if x4 ≤ 0 then
  some ((-4), h)
  else
  some (x5, h))
def F_X4_readNumbers_J101 (a : Nat) (q1 : Nat) (rc6 : (Int32 × Int32 × HP) → Option (Int32 × HP)) (x3 : Int32) (x4 : Int32) (x5 : Int32) (x6 : Int32) (x7 : Int32) (s0 : Int32) (h : HP) : Option (Int32 × HP) :=
  (if x5 = x7 then
  some ((-4), h)
  else
  (if x3 ≤ x5 then
  some ((-4), h)
  else
  gd x5 (sg_N q1) (
  (if (ld h q1 x5) = s0 then
  rc6 ((x5 + 1), (x6 + 1), h)
  else
  some ((-4), h)))))
def F_X4_readNumbers_J85 (a : Nat) (q1 : Nat) (rc6 : (Int32 × Int32 × HP) → Option (Int32 × HP)) (x3 : Int32) (x4 : Int32) (x5 : Int32) (x6 : Int32) (x7 : Int32) (h : HP) : Option (Int32 × HP) :=
  (if x4 ≤ (x6 + 1) then
  F_X4_readNumbers_J101 a q1 rc6 x3 x4 x5 x6 x7 59 h
  else
  F_X4_readNumbers_J101 a q1 rc6 x3 x4 x5 x6 x7 44 h)
def F_X4_readNumbers_L25 (a : Nat) (q1 : Nat) (rc6 : (Int32 × Int32 × HP) → Option (Int32 × HP)) (x3 : Int32) (x4 : Int32) (x6 : Int32) (x7 : Int32) : Nat → (Int32 × HP) → Option (Int32 × HP) :=
  lp (fun rc25 x =>
  (if x3 ≤ x.1 then
  F_X4_readNumbers_J85 a q1 rc6 x3 x4 x.1 x6 x7 x.2
  else
  (if (x7 + 2) ≤ x.1 then
  F_X4_readNumbers_J85 a q1 rc6 x3 x4 x.1 x6 x7 x.2
  else
  gd x.1 (sg_N q1) (
  cl (F_X8_within (ld x.2 q1 x.1) 48 57) (fun p48 =>
  (if p48 = 0 then
  F_X4_readNumbers_J85 a q1 rc6 x3 x4 x.1 x6 x7 x.2
  else
  gd x6 3 (
  gd x.1 (sg_N q1) (
  gd x6 3 (
  nm (st x.2 (a + 12) x6 (((10 * (ld x.2 (a + 12) x6)) + (ld x.2 q1 x.1)) - 48)) (fun h78 =>
  rc25 ((x.1 + 1), h78)))))))))))
def F_X4_readNumbers_L6 (a : Nat) (q1 : Nat) (x3 : Int32) (x4 : Int32) : Nat → (Int32 × Int32 × HP) → Option (Int32 × HP) :=
  lp (fun rc6 x =>
  (if x4 ≤ x.2.1 then
  F_X4_readNumbers_J137 a q1 x4 x.1 x.2.2
  else
  gd x.2.1 3 (
  nm (st x.2.2 (a + 12) x.2.1 0) (fun h24 =>
  F_X4_readNumbers_L25 a q1 rc6 x3 x4 x.2.1 x.1 sg_fuel (x.1, h24)))))
def F_X4_readNumbers (a : Nat) (q1 : Nat) (x2 : Int32) (x3 : Int32) (x4 : Int32) (h : HP) : Option (Int32 × HP) :=
  F_X4_readNumbers_L6 a q1 x3 x4 sg_fuel (x2, 0, h)
-- X6_isFull
def F_X6_isFull (a : Nat) (h : HP) : Option (Int32) :=
  (if (h.1 a 0) < 9 then
  some 0
  else
  some 1)
-- X6_add
def F_X6_add (a : Nat) (x1 : Int32) (x2 : Int32) (x3 : Int32) (h : HP) : Option (Int32 × HP) :=
  cl (F_X6_isFull a h) (fun p1 =>
  (if p1 = 0 then
  (if x2 ≤ x3 then
  gd (h.1 a 0) 9 (
  nm (st h (a + 1) (h.1 a 0) x1) (fun h23 =>
  gd (h23.1 a 0) 9 (
  nm (st h23 (a + 2) (h23.1 a 0) x2) (fun h33 =>
  gd (h33.1 a 0) 9 (
  nm (st h33 (a + 3) (h33.1 a 0) x3) (fun h43 =>
  nm (ui h43 a 0 ((h43.1 a 0) + 1)) (fun h51 =>
  some (1, h51))))))))
  else
  some (0, h))
  else
  some (0, h)))
-- X4_take
def F_X4_take (a : Nat) (x1 : Int32) (h : HP) : Option (Int32 × HP) :=
  (if x1 = 98 then
  cl (F_X1_addBearer (a + 1) (ld h (a + 12) 0) (ld h (a + 12) 1) h) (fun p96 =>
  some (p96.1, p96.2))
  else
  (if x1 = 109 then
  cl (F_X1_setMust (a + 1) (ld h (a + 12) 0) h) (fun p110 =>
  some (p110.1, p110.2))
  else
  (if x1 = 114 then
  cl (F_X1_setWet (a + 1) (ld h (a + 12) 0) h) (fun p124 =>
  some (p124.1, p124.2))
  else
  (if x1 = 115 then
  cl (F_X1_addStretch (a + 1) (ld h (a + 12) 0) (ld h (a + 12) 1) h) (fun p76 =>
  some (p76.1, p76.2))
  else
  (if x1 = 116 then
  cl (F_X1_hasBearer (a + 1) (ld h (a + 12) 0) h) (fun p138 =>
  (if p138 = 0 then
  some (0, h)
  else
  cl (F_X6_add (a + 8) (ld h (a + 12) 0) (ld h (a + 12) 1) (ld h (a + 12) 2) h) (fun p166 =>
  (if p166.1 = 0 then
  some (0, p166.2)
  else
  some (1, p166.2)))))
  else
  (if x1 = 120 then
  cl (F_X1_setPrice (a + 1) (ld h (a + 12) 0) (ld h (a + 12) 1) h) (fun p194 =>
  some (p194.1, p194.2))
  else
  some (0, h)))))))
-- X4_firstFault
def F_X4_firstFault_L17 (a : Nat) (q1 : Nat) (x2 : Int32) : Nat → (Int32 × HP) → Option (Int32 × HP) :=
  lp (fun rc17 x =>
  (if x2 ≤ x.1 then
  some ((-4), x.2)
  else
  gd x.1 (sg_N q1) (
  nm (ld x.2 q1 x.1) (fun v25 =>
  cl (F_X4_numbersOf v25) (fun p35 =>
  cl (F_X4_readNumbers a q1 (x.1 + 1) x2 p35 x.2) (fun p38 =>
  (if p38.1 ≤ x.1 then
  some (x.1, p38.2)
  else
  cl (F_X4_take a v25 p38.2) (fun p52 =>
  (if p52.1 = 0 then
  some (x.1, p52.2)
  else
  rc17 (p38.1, p52.2))))))))))
def F_X4_firstFault (a : Nat) (q1 : Nat) (x2 : Int32) (h : HP) : Option (Int32 × HP) :=
  cl (F_X1_clear (a + 1) h) (fun p4 =>
  nm (ui p4 (a + 8) 0 0) (fun h12 =>
  F_X4_firstFault_L17 a q1 x2 sg_fuel (0, h12)))
-- X5_lookAhead
def F_X5_lookAhead_J99 (a : Nat) (rc29 : (Int32 × HP) → Option (HP)) (x1 : Int32) (h : HP) : Option (HP) :=
  rc29 ((x1 + (-1)), h)
def F_X5_lookAhead_J79 (a : Nat) (rc29 : (Int32 × HP) → Option (HP)) (x1 : Int32) (x2 : Int32) (s0 : Int32) (s1 : Int32) (s2 : Int32) (h : HP) : Option (HP) :=
  gd s2 121 (
  nm (st h (a + 1) s2 (s1 + s0)) (fun h80 =>
  (if x2 = 0 then
  F_X5_lookAhead_J99 a rc29 x1 h80
  else
  (if (h80.1 a 4) = (-4) then
  nm (ui h80 a 4 x1) (fun h96 =>
  F_X5_lookAhead_J99 a rc29 x1 h96)
  else
  F_X5_lookAhead_J99 a rc29 x1 h80))))
def F_X5_lookAhead_L29 (a : Nat) : Nat → (Int32 × HP) → Option (HP) :=
  lp (fun rc29 x =>
  (if x.1 < 0 then
  some x.2
  else
  gd x.1 120 (
  cl (F_X8_isIn (x.2.1 a 3) (ld x.2 79 x.1)) (fun p43 =>
  gd (x.1 + 1) 121 (
  (if p43 = 0 then
  F_X5_lookAhead_J79 a rc29 x.1 p43 0 (ld x.2 (a + 1) (x.1 + 1)) x.1 x.2
  else
  cl (F_X1_priceAt 15 x.1 x.2) (fun p71 =>
  F_X5_lookAhead_J79 a rc29 x.1 p43 (60 * p71) (ld x.2 (a + 1) (x.1 + 1)) x.1 x.2)))))))
def F_X5_lookAhead (a : Nat) (h : HP) : Option (HP) :=
  nm (ui h a 4 (-4)) (fun h3 =>
  gd (h3.1 15 1) 121 (
  nm (st h3 (a + 1) (h3.1 15 1) 0) (fun h18 =>
  nm ((h18.1 15 1) - 1) (fun v28 =>
  F_X5_lookAhead_L29 a sg_fuel (v28, h18)))))
-- X7_hasStumbled
def F_X7_hasStumbled (a : Nat) (x1 : Int32) (h : HP) : Option (Int32) :=
  cl (F_X8_isIn x1 (h.1 a 4)) (fun p5 =>
  some p5)
-- X5_isOpen
def F_X5_isOpen (a : Nat) (q1 : Nat) (h : HP) : Option (Int32) :=
  (if (h.1 q1 3) = (-4) then
  cl (F_X7_hasStumbled q1 (h.1 a 3) h) (fun p14 =>
  (if p14 = 0 then
  some 1
  else
  some 0))
  else
  some 0)
-- X7_follow
def F_X7_follow (a : Nat) (q1 : Nat) (h : HP) : Option (HP) :=
  gn (h.2 q1 0) (nm ((h.2 q1 0) - 1) (fun q2 =>
  nm (ur h a 0 (q2 + 1)) (fun h5 =>
  nm (ui h5 a 1 (h5.1 q1 1)) (fun h13 =>
  nm (ui h13 a 2 (h13.1 q1 2)) (fun h21 =>
  nm (ui h21 a 3 (h21.1 q1 3)) (fun h29 =>
  nm (ui h29 a 4 (h29.1 q1 4)) (fun h37 =>
  nm (ui h37 a 5 (h37.1 q1 5)) (fun h45 =>
  nm (uc h45 (q1 + 1) (a + 1) (0 : Int32).toNatClampNeg (0 : Int32).toNatClampNeg (6 : Int32).toNatClampNeg) (fun h60 =>
  nm (uc h60 (q1 + 2) (a + 2) (0 : Int32).toNatClampNeg (0 : Int32).toNatClampNeg (6 : Int32).toNatClampNeg) (fun h75 =>
  nm (uc h75 (q1 + 3) (a + 3) (0 : Int32).toNatClampNeg (0 : Int32).toNatClampNeg (6 : Int32).toNatClampNeg) (fun h90 =>
  nm (uc h90 (q1 + 4) (a + 4) (0 : Int32).toNatClampNeg (0 : Int32).toNatClampNeg (6 : Int32).toNatClampNeg) (fun h105 =>
  some h105))))))))))))
-- X7_acres
def F_X7_acres (a : Nat) (x1 : Int32) (h : HP) : Option (Int32) :=
  gn (h.2 a 0) (nm ((h.2 a 0) - 1) (fun q1 =>
  gd x1 6 (
  (if (ld h (q1 + 5) x1) = 2 then
  some 0
  else
  cl (F_X7_hasStumbled a x1 h) (fun p15 =>
  (if p15 = 0 then
  gd x1 6 (
  some (ld h (a + 4) x1))
  else
  some 0))))))
-- X5_weigh
def F_X5_weigh_J83 (a : Nat) (x1 : Int32) (x2 : Int32) (h : HP) : Option (HP) :=
  cl (F_X7_acres (a + 16) (h.1 a 3) h) (fun p91 =>
  (if p91 ≤ (h.1 a 0) then
  some h
  else
  cl (F_X7_acres (a + 16) (h.1 a 3) h) (fun p110 =>
  nm (ui h a 0 p110) (fun h113 =>
  nm (ui h113 a 1 x1) (fun h118 =>
  nm (ui h118 a 2 x2) (fun h123 =>
  nm (ui h123 a 5 1) (fun h128 =>
  some h128)))))))
def F_X5_weigh_L43 (a : Nat) (x1 : Int32) (x2 : Int32) : Nat → (Int32 × HP) → Option (HP) :=
  lp (fun rc43 x =>
  (if (x.2.1 a 4) < x.1 then
  F_X5_weigh_J83 a x1 x2 x.2
  else
  cl (F_X5_isOpen a (a + 16) x.2) (fun p56 =>
  (if p56 = 0 then
  F_X5_weigh_J83 a x1 x2 x.2
  else
  gd x.1 120 (
  cl (F_X7_step (a + 16) x.1 (ld x.2 79 x.1) x.2) (fun p73 =>
  rc43 ((x.1 + 1), p73.2)))))))
def F_X5_weigh (a : Nat) (x1 : Int32) (x2 : Int32) (h : HP) : Option (HP) :=
  cl (F_X7_acres (a + 9) (h.1 a 3) h) (fun p8 =>
  gd (x2 + 1) 121 (
  (if (h.1 a 0) < (p8 + (ld h (a + 1) (x2 + 1))) then
  cl (F_X7_follow (a + 16) (a + 9) h) (fun p36 =>
  nm (x2 + 1) (fun v42 =>
  F_X5_weigh_L43 a x1 x2 sg_fuel (v42, p36)))
  else
  some h)))
-- X5_seekFrom
def F_X5_seekFrom_J79 (a : Nat) (rc13 : (Int32 × HP) → Option (HP)) (x1 : Int32) (x2 : Int32) (h : HP) : Option (HP) :=
  rc13 ((x2 + 1), h)
def F_X5_seekFrom_L13 (a : Nat) (x1 : Int32) : Nat → (Int32 × HP) → Option (HP) :=
  lp (fun rc13 x =>
  (if (x.2.1 15 1) ≤ x.1 then
  some x.2
  else
  cl (F_X5_isOpen a (a + 9) x.2) (fun p29 =>
  (if p29 = 0 then
  some x.2
  else
  gd x.1 120 (
  cl (F_X7_step (a + 9) x.1 ((ld x.2 79 x.1) ||| (1 <<< ((x.2.1 a 3) &&& 31))) x.2) (fun p53 =>
  gd x.1 120 (
  cl (F_X8_isIn (p53.2.1 a 3) (ld p53.2 79 x.1)) (fun p67 =>
  (if p67 = 0 then
  cl (F_X5_weigh a x1 x.1 p53.2) (fun p76 =>
  F_X5_seekFrom_J79 a rc13 x1 x.1 p76)
  else
  F_X5_seekFrom_J79 a rc13 x1 x.1 p53.2)))))))))
def F_X5_seekFrom (a : Nat) (x1 : Int32) (h : HP) : Option (HP) :=
  cl (F_X7_follow (a + 9) (a + 2) h) (fun p8 =>
  F_X5_seekFrom_L13 a x1 sg_fuel (x1, p8))
-- X5_seek
def F_X5_seek_J117 (a : Nat) (h : HP) : Option (Int32 × HP) :=
  gb (h.1 a 5) (some ((h.1 a 5), h))
def F_X5_seek_J96 (a : Nat) (rc47 : (Int32 × HP) → Option (Int32 × HP)) (x3 : Int32) (h : HP) : Option (Int32 × HP) :=
  gd x3 120 (
  cl (F_X7_step (a + 2) x3 (ld h 79 x3) h) (fun p107 =>
  rc47 ((x3 + 1), p107.2)))
def F_X5_seek_J91 (a : Nat) (rc47 : (Int32 × HP) → Option (Int32 × HP)) (x3 : Int32) (h : HP) : Option (Int32 × HP) :=
  cl (F_X5_seekFrom a x3 h) (fun p93 =>
  F_X5_seek_J96 a rc47 x3 p93)
def F_X5_seek_L47 (a : Nat) : Nat → (Int32 × HP) → Option (Int32 × HP) :=
  lp (fun rc47 x =>
  (if (x.2.1 15 1) ≤ x.1 then
  F_X5_seek_J117 a x.2
  else
  cl (F_X5_isOpen a (a + 2) x.2) (fun p63 =>
  (if p63 = 0 then
  F_X5_seek_J117 a x.2
  else
  (if x.1 = 0 then
  F_X5_seek_J91 a rc47 x.1 x.2
  else
  gd (x.1 - 1) 120 (
  cl (F_X8_isIn (x.2.1 a 3) (ld x.2 79 (x.1 - 1))) (fun p85 =>
  (if p85 = 0 then
  F_X5_seek_J91 a rc47 x.1 x.2
  else
  F_X5_seek_J96 a rc47 x.1 x.2))))))))
def F_X5_seek (a : Nat) (x1 : Int32) (x2 : Int32) (h : HP) : Option (Int32 × HP) :=
  nm (ui h a 0 x2) (fun h2 =>
  nm (ui h2 a 3 x1) (fun h7 =>
  nm (ui h7 a 5 0) (fun h12 =>
  gd x1 6 (
  (if (ld h12 20 x1) = 2 then
  some (0, h12)
  else
  cl (F_X5_lookAhead a h12) (fun p31 =>
  cl (F_X7_begin (a + 2) 15 p31) (fun p42 =>
  F_X5_seek_L47 a sg_fuel (0, p42))))))))
-- X6_has
def F_X6_has (a : Nat) (x1 : Int32) (h : HP) : Option (Int32) :=
  (if x1 < 0 then
  some 0
  else
  (if (h.1 a 0) ≤ x1 then
  some 0
  else
  some 1))
-- X6_drop
def F_X6_drop_J60 (a : Nat) (h : HP) : Option (HP) :=
  nm (ui h a 0 ((h.1 a 0) - 1)) (fun h67 =>
  some h67)
def F_X6_drop_L2 (a : Nat) : Nat → (Int32 × HP) → Option (HP) :=
  lp (fun rc2 x =>
  (if (x.2.1 a 0) ≤ (x.1 + 1) then
  F_X6_drop_J60 a x.2
  else
  gd (x.1 + 1) 9 (
  gd x.1 9 (
  nm (st x.2 (a + 1) x.1 (ld x.2 (a + 1) (x.1 + 1))) (fun h25 =>
  gd (x.1 + 1) 9 (
  gd x.1 9 (
  nm (st h25 (a + 2) x.1 (ld h25 (a + 2) (x.1 + 1))) (fun h39 =>
  gd (x.1 + 1) 9 (
  gd x.1 9 (
  nm (st h39 (a + 3) x.1 (ld h39 (a + 3) (x.1 + 1))) (fun h53 =>
  rc2 ((x.1 + 1), h53))))))))))))
def F_X6_drop (a : Nat) (x1 : Int32) (h : HP) : Option (HP) :=
  F_X6_drop_L2 a sg_fuel (x1, h)
-- X6_tellDuty
def F_X6_tellDuty_J90 (a : Nat) (q3 : Nat) (rc23 : (Int32 × HP) → Option (HP)) (x1 : Int32) (x2 : Int32) (x4 : Int32) (h : HP) : Option (HP) :=
  rc23 ((x4 + 1), h)
def F_X6_tellDuty_L50 (a : Nat) (q3 : Nat) (rc23 : (Int32 × HP) → Option (HP)) (x1 : Int32) (x2 : Int32) (x4 : Int32) : Nat → (Int32 × HP) → Option (HP) :=
  lp (fun rc50 x =>
  gd x4 9 (
  (if (ld x.2 (a + 3) x4) < x.1 then
  F_X6_tellDuty_J90 a q3 rc23 x1 x2 x4 x.2
  else
  (if x2 ≤ x.1 then
  F_X6_tellDuty_J90 a q3 rc23 x1 x2 x4 x.2
  else
  gd x.1 (sg_N q3) (
  gd x4 9 (
  gd x.1 (sg_N q3) (
  nm (st x.2 q3 x.1 ((ld x.2 q3 x.1) ||| (1 <<< ((ld x.2 (a + 1) x4) &&& 31)))) (fun h83 =>
  rc50 ((x.1 + 1), h83)))))))))
def F_X6_tellDuty_L23 (a : Nat) (q3 : Nat) (x1 : Int32) (x2 : Int32) : Nat → (Int32 × HP) → Option (HP) :=
  lp (fun rc23 x =>
  (if (x.2.1 a 0) ≤ x.1 then
  some x.2
  else
  cl (F_X8_isIn x.1 x1) (fun p35 =>
  (if p35 = 0 then
  gd x.1 9 (
  nm (ld x.2 (a + 2) x.1) (fun v48 =>
  F_X6_tellDuty_L50 a q3 rc23 x1 x2 x.1 sg_fuel (v48, x.2)))
  else
  F_X6_tellDuty_J90 a q3 rc23 x1 x2 x.1 x.2))))
def F_X6_tellDuty_J20 (a : Nat) (q3 : Nat) (x1 : Int32) (x2 : Int32) (h : HP) : Option (HP) :=
  F_X6_tellDuty_L23 a q3 x1 x2 sg_fuel (0, h)
def F_X6_tellDuty_L3 (a : Nat) (q3 : Nat) (x1 : Int32) (x2 : Int32) : Nat → (Int32 × HP) → Option (HP) :=
  lp (fun rc3 x =>
  (if x2 ≤ x.1 then
  F_X6_tellDuty_J20 a q3 x1 x2 x.2
  else
  gd x.1 (sg_N q3) (
  nm (st x.2 q3 x.1 0) (fun h13 =>
  rc3 ((x.1 + 1), h13)))))
def F_X6_tellDuty (a : Nat) (x1 : Int32) (x2 : Int32) (q3 : Nat) (h : HP) : Option (HP) :=
  F_X6_tellDuty_L3 a q3 x1 x2 sg_fuel (0, h)
-- X7_go
def F_X7_go_L2 (a : Nat) (q1 : Nat) : Nat → (Int32 × HP) → Option (HP) :=
  lp (fun rc2 x =>
  gn (x.2.2 a 0) (nm ((x.2.2 a 0) - 1) (fun q4 =>
  (if (x.2.1 q4 1) ≤ x.1 then
  some x.2
  else
  gd x.1 (sg_N q1) (
  cl (F_X7_step a x.1 (ld x.2 q1 x.1) x.2) (fun p23 =>
  gd x.1 120 (
  nm (st p23.2 (a + 5) x.1 p23.1) (fun h26 =>
  rc2 ((x.1 + 1), h26)))))))))
def F_X7_go (a : Nat) (q1 : Nat) (h : HP) : Option (HP) :=
  F_X7_go_L2 a q1 sg_fuel (0, h)
-- X7_merit
def F_X7_merit (a : Nat) (x1 : Int32) (x2 : Int32) (h : HP) : Option (Int32) :=
  (if x2 = 0 then
  cl (F_X7_acres a x1 h) (fun p30 =>
  some p30)
  else
  (if x2 = 1 then
  gd x1 6 (
  some (ld h (a + 3) x1))
  else
  gn (h.2 a 0) (nm ((h.2 a 0) - 1) (fun q42 =>
  gd x1 6 (
  gd x1 6 (
  some ((ld h (q42 + 4) x1) - (ld h (a + 1) x1))))))))
-- X7_first
def F_X7_first_J32 (a : Nat) (rc4 : (Int32 × Int32) → Option (Int32)) (x1 : Int32) (x2 : Int32) (x3 : Int32) (h : HP) : Option (Int32) :=
  rc4 (x2, (x3 + 1))
def F_X7_first_L4 (a : Nat) (x1 : Int32) (h : HP) : Nat → (Int32 × Int32) → Option (Int32) :=
  lp (fun rc4 x =>
  gn (h.2 a 0) (nm ((h.2 a 0) - 1) (fun q6 =>
  (if (h.1 q6 2) ≤ x.2 then
  some x.1
  else
  cl (F_X7_merit a x.2 x1 h) (fun p18 =>
  cl (F_X7_merit a x.1 x1 h) (fun p24 =>
  (if p18 ≤ p24 then
  F_X7_first_J32 a rc4 x1 x.1 x.2 h
  else
  F_X7_first_J32 a rc4 x1 x.2 x.2 h)))))))
def F_X7_first (a : Nat) (x1 : Int32) (h : HP) : Option (Int32) :=
  F_X7_first_L4 a x1 h sg_fuel (0, 1)
-- X8_write
def F_X8_write (a : Nat) (x1 : Int32) (h : HP) : Option (Int32 × HP) :=
  cl (F_X8_within x1 32 126) (fun p5 =>
  (if p5 = 0 then
  some ((-1), h)
  else
  (if (h.1 a 1) < 200 then
  gd (h.1 a 1) 200 (
  nm (st h (a + 1) (h.1 a 1) (vp_nar .char ((x1.toUInt32 % 65536).toInt32))) (fun h36 =>
  nm (ui h36 a 1 ((h36.1 a 1) + 1)) (fun h44 =>
  some ((h44.1 a 1), h44))))
  else
  some ((-3), h))))
-- X8_wipe
def F_X8_wipe (a : Nat) (h : HP) : Option (Int32 × HP) :=
  nm (h.1 a 1) (fun v4 =>
  nm (ui h a 1 0) (fun h7 =>
  some (v4, h7)))
-- X8_fault
def F_X8_fault (a : Nat) (h : HP) : Option (Int32 × HP) :=
  cl (F_X4_firstFault (a + 2) (a + 1) (h.1 a 1) h) (fun p12 =>
  some (p12.1, p12.2))
-- X8_settle
def F_X8_settle (a : Nat) (h : HP) : Option (HP) :=
  cl (F_X6_tellDuty (a + 29) 0 (h.1 (a + 15) 1) (a + 79) h) (fun p16 =>
  cl (F_X7_begin (a + 81) (a + 15) p16) (fun p27 =>
  cl (F_X7_go (a + 81) (a + 79) p27) (fun p38 =>
  some p38)))
-- X8_layText
def F_X8_layText (a : Nat) (h : HP) : Option (Int32 × HP) :=
  cl (F_X4_firstFault (a + 2) (a + 1) (h.1 a 1) h) (fun p12 =>
  (if p12.1 = (-4) then
  (if (p12.2.1 (a + 3) 0) = 0 then
  some ((-2), p12.2)
  else
  (if (p12.2.1 (a + 3) 2) = 0 then
  some ((-2), p12.2)
  else
  cl (F_X1_copy (a + 15) (a + 3) p12.2) (fun p63 =>
  cl (F_X6_copy (a + 29) (a + 10) p63) (fun p77 =>
  nm (ui p77 a 10 0) (fun h82 =>
  nm (ui h82 (a + 33) 1 0) (fun h90 =>
  nm (ui h90 (a + 67) 1 0) (fun h98 =>
  cl (F_X8_settle a h98) (fun p102 =>
  some ((p102.1 (a + 15) 1), p102)))))))))
  else
  some ((-2), p12.2)))
-- X8_lay
def F_X8_lay (a : Nat) (h : HP) : Option (Int32 × HP) :=
  cl (F_X8_layText a h) (fun p1 =>
  some (p1.1, p1.2))
-- X8_yard
def F_X8_yard (a : Nat) (x1 : Int32) (x2 : Int32) (h : HP) : Option (Int32) :=
  cl (F_X1_hasYard (a + 15) x1 h) (fun p5 =>
  (if p5 = 0 then
  some (-1)
  else
  (if x2 = 0 then
  gd x1 120 (
  some (ld h (a + 21) x1))
  else
  (if x2 = 1 then
  cl (F_X1_slopeAt (a + 15) x1 h) (fun p63 =>
  some p63)
  else
  (if x2 = 2 then
  cl (F_X1_priceAt (a + 15) x1 h) (fun p72 =>
  some p72)
  else
  (if x2 = 3 then
  gd x1 120 (
  some (ld h (a + 79) x1))
  else
  (if x2 = 4 then
  gd x1 120 (
  some (ld h (a + 86) x1))
  else
  some (-1))))))))
-- X8_bearer
def F_X8_bearer (a : Nat) (x1 : Int32) (x2 : Int32) (h : HP) : Option (Int32) :=
  cl (F_X1_hasBearer (a + 15) x1 h) (fun p5 =>
  (if p5 = 0 then
  some (-1)
  else
  (if x2 = 0 then
  gd x1 6 (
  some (ld h (a + 19) x1))
  else
  (if x2 = 1 then
  gd x1 6 (
  some (ld h (a + 20) x1))
  else
  (if x2 = 2 then
  gd x1 6 (
  some (ld h (a + 82) x1))
  else
  (if x2 = 3 then
  cl (F_X7_acres (a + 81) x1 h) (fun p87 =>
  some p87)
  else
  (if x2 = 4 then
  gd x1 6 (
  some (ld h (a + 83) x1))
  else
  (if x2 = 5 then
  gd x1 6 (
  some (ld h (a + 84) x1))
  else
  some (-1)))))))))
-- X8_stands
def F_X8_stands (a : Nat) (h : HP) : Option (Int32) :=
  some (h.1 (a + 81) 3)
-- X8_commonDivisor
def F_X8_commonDivisor_L7 : Nat → (Int32 × Int32 × Int32) → Option (Int32) :=
  lp (fun rc7 x =>
  (if 100 ≤ x.2.2 then
  some x.1
  else
  (if x.2.1 = 0 then
  some x.1
  else
  gz x.2.1 (
  nm (x.1 - x.1 / x.2.1 * x.2.1) (fun v21 =>
  rc7 (x.2.1, v21, (x.2.2 + 1)))))))
def F_X8_commonDivisor (x0 : Int32) (x1 : Int32) : Option (Int32) :=
  F_X8_commonDivisor_L7 sg_fuel (x0, x1, 0)
-- X8_lowestTerms
def F_X8_lowestTerms_J8 (x2 : Int32) : Option (Int32) :=
  (if x2 = 0 then
  some 0
  else
  some 1)
def F_X8_lowestTerms_J47 (x3 : Int32) (s0 : Int32) : Option (Int32) :=
  gz x3 (
  some (s0 / x3))
def F_X8_lowestTerms (x0 : Int32) (x1 : Int32) (x2 : Int32) : Option (Int32) :=
  (if x0 = 0 then
  F_X8_lowestTerms_J8 x2
  else
  (if x1 = 0 then
  F_X8_lowestTerms_J8 x2
  else
  cl (F_X8_commonDivisor x0 x1) (fun p20 =>
  (if p20 = 0 then
  (if x2 = 0 then
  some x0
  else
  some x1)
  else
  (if x2 = 0 then
  F_X8_lowestTerms_J47 p20 x0
  else
  F_X8_lowestTerms_J47 p20 x1)))))
-- X8_share
def F_X8_share_J57 (a : Nat) (x1 : Int32) (x2 : Int32) (x3 : Int32) (h : HP) : Option (Int32) :=
  cl (F_X7_acres (a + 81) x1 h) (fun p62 =>
  cl (F_X8_lowestTerms p62 x3 x2) (fun p67 =>
  some p67))
def F_X8_share_L27 (a : Nat) (x1 : Int32) (x2 : Int32) (h : HP) : Nat → (Int32 × Int32) → Option (Int32) :=
  lp (fun rc27 x =>
  (if (h.1 (a + 15) 2) ≤ x.2 then
  F_X8_share_J57 a x1 x2 x.1 h
  else
  cl (F_X7_acres (a + 81) x.2 h) (fun p46 =>
  nm (x.1 + p46) (fun v50 =>
  rc27 (v50, (x.2 + 1))))))
def F_X8_share (a : Nat) (x1 : Int32) (x2 : Int32) (h : HP) : Option (Int32) :=
  cl (F_X1_hasBearer (a + 15) x1 h) (fun p5 =>
  (if p5 = 0 then
  some (-1)
  else
  cl (F_X8_within x2 0 1) (fun p14 =>
  (if p14 = 0 then
  some (-1)
  else
  F_X8_share_L27 a x1 x2 h sg_fuel (0, 0)))))
-- X8_turn
def F_X8_turn (a : Nat) (x1 : Int32) (x2 : Int32) (h : HP) : Option (Int32) :=
  cl (F_X6_has (a + 29) x1 h) (fun p5 =>
  (if p5 = 0 then
  some (-1)
  else
  (if x2 = 0 then
  gd x1 9 (
  some (ld h (a + 30) x1))
  else
  (if x2 = 1 then
  gd x1 9 (
  some (ld h (a + 31) x1))
  else
  (if x2 = 2 then
  gd x1 9 (
  some (ld h (a + 32) x1))
  else
  some (-1))))))
-- X8_bear
def F_X8_bear (a : Nat) (x1 : Int32) (x2 : Int32) (x3 : Int32) (h : HP) : Option (Int32 × HP) :=
  cl (F_X1_hasBearer (a + 15) x1 h) (fun p5 =>
  (if p5 = 0 then
  some ((-1), h)
  else
  cl (F_X8_within x2 0 119) (fun p15 =>
  (if p15 = 0 then
  some ((-1), h)
  else
  cl (F_X8_within x3 x2 119) (fun p25 =>
  (if p25 = 0 then
  some ((-1), h)
  else
  cl (F_X6_isFull (a + 29) h) (fun p37 =>
  (if p37 = 0 then
  cl (F_X3_push (a + 33) (a + 29) h) (fun p54 =>
  cl (F_X6_add (a + 29) x1 x2 x3 p54) (fun p64 =>
  cl (F_X8_settle a p64.2) (fun p69 =>
  some ((p69.1 (a + 29) 0), p69))))
  else
  some ((-3), h)))))))))
-- X8_leave
def F_X8_leave (a : Nat) (x1 : Int32) (h : HP) : Option (Int32 × HP) :=
  cl (F_X6_has (a + 29) x1 h) (fun p5 =>
  (if p5 = 0 then
  some ((-1), h)
  else
  cl (F_X3_push (a + 33) (a + 29) h) (fun p21 =>
  cl (F_X6_drop (a + 29) x1 p21) (fun p29 =>
  cl (F_X8_settle a p29) (fun p33 =>
  some ((p33.1 (a + 29) 0), p33))))))
-- X8_undo
def F_X8_undo (a : Nat) (h : HP) : Option (Int32 × HP) :=
  cl (F_X3_popInto (a + 33) (a + 29) h) (fun p8 =>
  (if p8.1 = 0 then
  some ((-2), p8.2)
  else
  cl (F_X8_settle a p8.2) (fun p18 =>
  some ((p18.1 (a + 33) 1), p18))))
-- X8_best
def F_X8_best (a : Nat) (x1 : Int32) (x2 : Int32) (h : HP) : Option (Int32 × HP) :=
  cl (F_X1_hasBearer (a + 15) x1 h) (fun p5 =>
  (if p5 = 0 then
  some ((-1), h)
  else
  cl (F_X8_within x2 0 1) (fun p14 =>
  (if p14 = 0 then
  some ((-1), h)
  else
  cl (F_X7_acres (a + 81) x1 h) (fun p32 =>
  cl (F_X5_seek (a + 95) x1 p32 h) (fun p35 =>
  (if p35.1 = 0 then
  some ((-4), p35.2)
  else
  (if x2 = 0 then
  some (((200 * (p35.2.1 (a + 95) 1)) + (p35.2.1 (a + 95) 2)), p35.2)
  else
  some ((p35.2.1 (a + 95) 0), p35.2)))))))))
-- X8_walkWithout
def F_X8_walkWithout (a : Nat) (x1 : Int32) (h : HP) : Option (HP) :=
  cl (F_X7_begin (a + 88) (a + 15) h) (fun p8 =>
  gd x1 6 (
  nm (st p8 (a + 89) x1 0) (fun h20 =>
  cl (F_X7_go (a + 88) (a + 79) h20) (fun p29 =>
  some p29))))
-- X8_safe
def F_X8_safe_L2 (a : Nat) : Nat → (Int32 × HP) → Option (Int32 × HP) :=
  lp (fun rc2 x =>
  (if (x.2.1 (a + 15) 2) ≤ x.1 then
  some ((-4), x.2)
  else
  cl (F_X8_walkWithout a x.1 x.2) (fun p15 =>
  (if (p15.1 (a + 88) 3) = (-4) then
  rc2 ((x.1 + 1), p15)
  else
  some (x.1, p15)))))
def F_X8_safe (a : Nat) (h : HP) : Option (Int32 × HP) :=
  F_X8_safe_L2 a sg_fuel (0, h)
-- X8_bearUpAlone
def F_X8_bearUpAlone_J26 (a : Nat) (h : HP) : Option (Int32 × HP) :=
  cl (F_X7_begin (a + 88) (a + 15) h) (fun p34 =>
  cl (F_X7_go (a + 88) (a + 80) p34) (fun p45 =>
  (if (p45.1 (a + 88) 3) = (-4) then
  some (1, p45)
  else
  some (0, p45))))
def F_X8_bearUpAlone_L2 (a : Nat) (x1 : Int32) : Nat → (Int32 × HP) → Option (Int32 × HP) :=
  lp (fun rc2 x =>
  (if (x.2.1 (a + 15) 1) ≤ x.1 then
  F_X8_bearUpAlone_J26 a x.2
  else
  gd x.1 120 (
  nm (st x.2 (a + 80) x.1 x1) (fun h19 =>
  rc2 ((x.1 + 1), h19)))))
def F_X8_bearUpAlone (a : Nat) (x1 : Int32) (h : HP) : Option (Int32 × HP) :=
  F_X8_bearUpAlone_L2 a x1 sg_fuel (0, h)
-- X8_needed
def F_X8_needed_J44 (a : Nat) (rc8 : (Int32 × Int32 × Int32 × HP) → Option (Int32 × HP)) (x1 : Int32) (x2 : Int32) (x3 : Int32) (h : HP) : Option (Int32 × HP) :=
  rc8 (x1, x2, (x3 + 1), h)
def F_X8_needed_L8 (a : Nat) : Nat → (Int32 × Int32 × Int32 × HP) → Option (Int32 × HP) :=
  lp (fun rc8 x =>
  (if (1 <<< ((x.2.2.2.1 (a + 15) 2) &&& 31)) ≤ x.2.2.1 then
  some (x.1, x.2.2.2)
  else
  cl (F_J6_bitCount_0f7a4 x.2.2.1) (fun p22 =>
  (if x.2.1 ≤ p22 then
  F_X8_needed_J44 a rc8 x.1 x.2.1 x.2.2.1 x.2.2.2
  else
  cl (F_X8_bearUpAlone a x.2.2.1 x.2.2.2) (fun p31 =>
  (if p31.1 = 0 then
  F_X8_needed_J44 a rc8 x.1 x.2.1 x.2.2.1 p31.2
  else
  cl (F_J6_bitCount_0f7a4 x.2.2.1) (fun p40 =>
  F_X8_needed_J44 a rc8 x.2.2.1 p40 x.2.2.1 p31.2)))))))
def F_X8_needed (a : Nat) (h : HP) : Option (Int32 × HP) :=
  F_X8_needed_L8 a sg_fuel ((-4), 7, 1, h)
-- X8_far
def F_X8_far_J18 (a : Nat) (x1 : Int32) (h : HP) : Option (Int32 × HP) :=
  cl (F_X2_seek (a + 118) (-1) 0 h) (fun p24 =>
  (if x1 = (-1) then
  some ((p24.1 (a + 118) 0), p24)
  else
  gd x1 6 (
  some ((ld p24 (a + 119) x1), p24))))
def F_X8_far (a : Nat) (x1 : Int32) (h : HP) : Option (Int32 × HP) :=
  (if x1 = (-1) then
  F_X8_far_J18 a x1 h
  else
  cl (F_X1_hasBearer (a + 15) x1 h) (fun p10 =>
  (if p10 = 0 then
  some ((-1), h)
  else
  F_X8_far_J18 a x1 h)))
-- X8_son
def F_X8_son (a : Nat) (x1 : Int32) (x2 : Int32) (h : HP) : Option (Int32 × HP) :=
  cl (F_X1_hasBearer (a + 15) x1 h) (fun p5 =>
  (if p5 = 0 then
  some ((-1), h)
  else
  cl (F_X8_within x2 0 99) (fun p15 =>
  (if p15 = 0 then
  some ((-1), h)
  else
  cl (F_X2_seek (a + 118) (-1) 0 h) (fun p29 =>
  nm (p29.1 (a + 118) 0) (fun v39 =>
  cl (F_X2_seek (a + 118) x1 x2 p29) (fun p46 =>
  some (((p46.1 (a + 118) 0) - v39), p46))))))))
-- X8_cairn
def F_X8_cairn (a : Nat) (x1 : Int32) (x2 : Int32) (x3 : Int32) (h : HP) : Option (Int32 × HP) :=
  cl (F_X1_hasBearer (a + 15) x1 h) (fun p5 =>
  (if p5 = 0 then
  some ((-1), h)
  else
  cl (F_X1_hasStretch (a + 15) x2 h) (fun p16 =>
  (if p16 = 0 then
  some ((-1), h)
  else
  cl (F_X8_within x3 (-9) 9) (fun p27 =>
  (if p27 = 0 then
  some ((-1), h)
  else
  (if x3 = 0 then
  some ((-1), h)
  else
  cl (F_X1_copy (a + 22) (a + 15) h) (fun p47 =>
  cl (F_X1_moveBorder (a + 22) x2 x3 p47) (fun p56 =>
  (if p56.1 = 0 then
  some ((-2), p56.2)
  else
  cl (F_X7_begin (a + 88) (a + 22) p56.2) (fun p73 =>
  cl (F_X7_go (a + 88) (a + 79) p73) (fun p84 =>
  cl (F_X7_acres (a + 88) x1 p84) (fun p92 =>
  cl (F_X7_acres (a + 81) x1 p84) (fun p100 =>
  some (((p92 - p100) + 9999), p84)))))))))))))))
-- X8_heir
def F_X8_heir (a : Nat) (x1 : Int32) (h : HP) : Option (Int32) :=
  cl (F_X8_within x1 0 2) (fun p3 =>
  (if p3 = 0 then
  some (-1)
  else
  cl (F_X7_first (a + 81) x1 h) (fun p16 =>
  some p16)))
-- X8_rests
def F_X8_rests (a : Nat) (x1 : Int32) (x2 : Int32) (x3 : Int32) (h : HP) : Option (Int32 × HP) :=
  cl (F_X1_hasBearer (a + 15) x1 h) (fun p5 =>
  (if p5 = 0 then
  some ((-1), h)
  else
  cl (F_X1_hasBearer (a + 15) x2 h) (fun p16 =>
  (if p16 = 0 then
  some ((-1), h)
  else
  (if x1 = x2 then
  some ((-1), h)
  else
  cl (F_X8_within x3 0 1) (fun p30 =>
  (if p30 = 0 then
  some ((-1), h)
  else
  cl (F_X0_weigh (a + 121) x1 x2 h) (fun p44 =>
  (if x3 = 0 then
  some ((p44.1 (a + 121) 0), p44)
  else
  some ((p44.1 (a + 121) 1), p44))))))))))
-- X8_print
def F_X8_print (a : Nat) (x1 : Int32) (x2 : Int32) (h : HP) : Option (Int32 × HP) :=
  cl (F_X1_hasYard (a + 15) x1 h) (fun p5 =>
  (if p5 = 0 then
  some ((-1), h)
  else
  cl (F_X8_within x2 0 6) (fun p15 =>
  (if p15 = 0 then
  some ((-1), h)
  else
  (if (h.1 a 10) < 8 then
  gd (h.1 a 10) 8 (
  nm (st h (a + 77) (h.1 a 10) x1) (fun h44 =>
  gd (h44.1 a 10) 8 (
  nm (st h44 (a + 78) (h44.1 a 10) x2) (fun h54 =>
  nm (ui h54 a 10 ((h54.1 a 10) + 1)) (fun h62 =>
  some ((h62.1 a 10), h62))))))
  else
  some ((-3), h))))))
-- X8_forget
def F_X8_forget (a : Nat) (h : HP) : Option (Int32 × HP) :=
  nm (h.1 a 10) (fun v4 =>
  nm (ui h a 10 0) (fun h7 =>
  some (v4, h7)))
-- X8_printsAreSo
def F_X8_printsAreSo_L2 (a : Nat) (q1 : Nat) (h : HP) : Nat → Int32 → Option (Int32) :=
  lp (fun rc2 x =>
  (if (h.1 a 10) ≤ x then
  some 1
  else
  gd x 8 (
  gd (ld h (a + 77) x) 120 (
  cl (F_J6_bitCount_0f7a4 (ld h (q1 + 5) (ld h (a + 77) x))) (fun p21 =>
  gd x 8 (
  (if p21 = (ld h (a + 78) x) then
  rc2 (x + 1)
  else
  some 0)))))))
def F_X8_printsAreSo (a : Nat) (q1 : Nat) (h : HP) : Option (Int32) :=
  F_X8_printsAreSo_L2 a q1 h sg_fuel 0
-- X8_failed
def F_X8_failed_J53 (a : Nat) (rc20 : (Int32 × Int32 × HP) → Option (Int32 × HP)) (x1 : Int32) (x2 : Int32) (h : HP) : Option (Int32 × HP) :=
  rc20 (x1, (x2 + 1), h)
def F_X8_failed_L20 (a : Nat) : Nat → (Int32 × Int32 × HP) → Option (Int32 × HP) :=
  lp (fun rc20 x =>
  (if (x.2.2.1 (a + 15) 2) ≤ x.2.1 then
  some (x.1, x.2.2)
  else
  cl (F_X8_walkWithout a x.2.1 x.2.2) (fun p33 =>
  cl (F_X8_printsAreSo a (a + 88) p33) (fun p41 =>
  (if p41 = 0 then
  F_X8_failed_J53 a rc20 x.1 x.2.1 p33
  else
  nm (x.1 ||| (1 <<< (x.2.1 &&& 31))) (fun v52 =>
  F_X8_failed_J53 a rc20 v52 x.2.1 p33))))))
def F_X8_failed_J17 (a : Nat) (s0 : Int32) (h : HP) : Option (Int32 × HP) :=
  F_X8_failed_L20 a sg_fuel (s0, 0, h)
def F_X8_failed (a : Nat) (h : HP) : Option (Int32 × HP) :=
  cl (F_X8_printsAreSo a (a + 81) h) (fun p5 =>
  (if p5 = 0 then
  F_X8_failed_J17 a 0 h
  else
  F_X8_failed_J17 a 64 h))
-- X8_power
def F_X8_power_L4 (x0 : Int32) (x1 : Int32) : Nat → (Int32 × Int32) → Option (Int32) :=
  lp (fun rc4 x =>
  (if x1 ≤ x.2 then
  some x.1
  else
  nm (x.1 * x0) (fun v12 =>
  rc4 (v12, (x.2 + 1)))))
def F_X8_power (x0 : Int32) (x1 : Int32) : Option (Int32) :=
  F_X8_power_L4 x0 x1 sg_fuel (1, 0)
-- X8_neverStandsWithout
def F_X8_neverStandsWithout (a : Nat) (x1 : Int32) (h : HP) : Option (Int32 × HP) :=
  cl (F_X6_tellDuty (a + 29) x1 (h.1 (a + 15) 1) (a + 80) h) (fun p16 =>
  cl (F_X7_begin (a + 88) (a + 15) p16) (fun p27 =>
  cl (F_X7_go (a + 88) (a + 80) p27) (fun p38 =>
  (if (p38.1 (a + 88) 3) = (-4) then
  some (1, p38)
  else
  some (0, p38)))))
-- X8_odds
def F_X8_odds_J122 (a : Nat) (x3 : Int32) (x5 : Int32) (x6 : Int32) (h : HP) : Option (Int32 × HP) :=
  cl (F_X8_lowestTerms x5 x6 x3) (fun p127 =>
  some (p127, h))
def F_X8_odds_J116 (a : Nat) (rc58 : (Int32 × Int32 × HP) → Option (Int32 × HP)) (x2 : Int32) (x3 : Int32) (x4 : Int32) (x5 : Int32) (x6 : Int32) (x7 : Int32) (h : HP) : Option (Int32 × HP) :=
  rc58 (x5, (x7 + 1), h)
def F_X8_odds_L58 (a : Nat) (x2 : Int32) (x3 : Int32) (x4 : Int32) (x6 : Int32) : Nat → (Int32 × Int32 × HP) → Option (Int32 × HP) :=
  lp (fun rc58 x =>
  (if (1 <<< (x4 &&& 31)) ≤ x.2.1 then
  F_X8_odds_J122 a x3 x.1 x6 x.2.2
  else
  cl (F_J6_bitCount_0f7a4 x.2.1) (fun p69 =>
  cl (F_X8_power x2 p69) (fun p77 =>
  cl (F_X8_power (10 - x2) (x4 - p69)) (fun p89 =>
  nm (p77 * p89) (fun v93 =>
  (if v93 ≤ 0 then
  F_X8_odds_J116 a rc58 x2 x3 x4 x.1 x6 x.2.1 x.2.2
  else
  cl (F_X8_neverStandsWithout a x.2.1 x.2.2) (fun p103 =>
  (if p103.1 = 0 then
  F_X8_odds_J116 a rc58 x2 x3 x4 x.1 x6 x.2.1 p103.2
  else
  nm (x.1 + v93) (fun v114 =>
  F_X8_odds_J116 a rc58 x2 x3 x4 v114 x6 x.2.1 p103.2))))))))))
def F_X8_odds (a : Nat) (x1 : Int32) (x2 : Int32) (x3 : Int32) (h : HP) : Option (Int32 × HP) :=
  cl (F_X8_within x1 0 5) (fun p3 =>
  (if p3 = 0 then
  some ((-1), h)
  else
  cl (F_X8_within x2 0 10) (fun p13 =>
  (if p13 = 0 then
  some ((-1), h)
  else
  cl (F_X8_within x3 0 1) (fun p22 =>
  (if p22 = 0 then
  some ((-1), h)
  else
  nm (if (h.1 (a + 29) 0) < x1 then (h.1 (a + 29) 0) else x1) (fun v41 =>
  cl (F_X8_power 10 v41) (fun p50 =>
  F_X8_odds_L58 a x2 x3 v41 p50 sg_fuel (0, 0, h)))))))))
-- X8_rain
def F_X8_rain (a : Nat) (x1 : Int32) (x2 : Int32) (h : HP) : Option (Int32 × HP) :=
  cl (F_X8_within x1 0 9999) (fun p5 =>
  (if p5 = 0 then
  some ((-1), h)
  else
  cl (F_X8_within x2 0 1) (fun p14 =>
  (if p14 = 0 then
  some ((-1), h)
  else
  cl (F_X7_begin (a + 88) (a + 15) h) (fun p30 =>
  nm (ui p30 (a + 88) 2 x1) (fun h38 =>
  cl (F_X7_go (a + 88) (a + 79) h38) (fun p49 =>
  (if x2 = 0 then
  some ((p49.1 (a + 88) 3), p49)
  else
  cl (F_X7_first (a + 88) 0 p49) (fun p71 =>
  some (p71, p49))))))))))
-- X8_keep
def F_X8_keep (a : Nat) (h : HP) : Option (Int32 × HP) :=
  cl (F_X3_isFull (a + 67) h) (fun p4 =>
  (if p4 = 0 then
  cl (F_X3_push (a + 67) (a + 29) h) (fun p21 =>
  some ((p21.1 (a + 67) 1), p21))
  else
  some ((-3), h)))
-- X8_back
def F_X8_back (a : Nat) (h : HP) : Option (Int32 × HP) :=
  cl (F_X3_popInto (a + 67) (a + 29) h) (fun p8 =>
  (if p8.1 = 0 then
  some ((-2), p8.2)
  else
  nm (ui p8.2 (a + 33) 1 0) (fun h22 =>
  cl (F_X8_settle a h22) (fun p26 =>
  some ((p26.1 (a + 67) 1), p26)))))
-- X8_count
def F_X8_count (a : Nat) (x1 : Int32) (h : HP) : Option (Int32) :=
  (if x1 = 0 then
  some (h.1 (a + 15) 0)
  else
  (if x1 = 1 then
  some (h.1 (a + 15) 1)
  else
  (if x1 = 2 then
  some (h.1 (a + 15) 2)
  else
  (if x1 = 3 then
  some (h.1 (a + 15) 3)
  else
  (if x1 = 4 then
  some (h.1 (a + 15) 4)
  else
  (if x1 = 5 then
  some (h.1 (a + 29) 0)
  else
  (if x1 = 6 then
  some (h.1 a 10)
  else
  (if x1 = 7 then
  some (h.1 (a + 33) 1)
  else
  (if x1 = 8 then
  some (h.1 (a + 67) 1)
  else
  (if x1 = 9 then
  some (h.1 a 1)
  else
  some (-1)))))))))))
-- X9_in
def F_X9_in (z0 : Int64) (z2 : Int64) (z4 : Int64) : Option (Int32) :=
  (if (lg_cmp z0 z2) < 0 then
  some 0
  else
  (if 0 < (lg_cmp z0 z4) then
  some 0
  else
  some 1))
-- X9_isTwo
def F_X9_isTwo (x0 : Int32) : Option (Int32) :=
  cl (F_X9_in (x0.toInt64) 0 1) (fun p4 =>
  some p4)
-- X9_has
def F_X9_has (x0 : Int32) (x1 : Int32) : Option (Int32) :=
  (if ((x0 >>> (x1 &&& 31)) &&& 1) = 1 then
  some 1
  else
  some 0)
-- X9_bits
def F_X9_bits_L4 : Nat → (Int32 × Int32) → Option (Int32) :=
  lp (fun rc4 x =>
  (if x.2 = 0 then
  some x.1
  else
  nm (x.2 &&& (x.2 - 1)) (fun v16 =>
  rc4 ((x.1 + 1), v16))))
def F_X9_bits (x0 : Int32) : Option (Int32) :=
  F_X9_bits_L4 sg_fuel (0, x0)
-- X9_write
def F_X9_write (a : Nat) (x1 : Int32) (h : HP) : Option (Int32 × HP) :=
  cl (F_X9_in (x1.toInt64) 32 126) (fun p8 =>
  (if p8 = 0 then
  some ((-1), h)
  else
  (if (h.1 a 9) = 200 then
  some ((-3), h)
  else
  gd (h.1 a 9) 200 (
  nm (st h (a + 7) (h.1 a 9) x1) (fun h38 =>
  nm (ui h38 a 9 ((h38.1 a 9) + 1)) (fun h46 =>
  some ((h46.1 a 9), h46)))))))
-- X9_wipe
def F_X9_wipe (a : Nat) (h : HP) : Option (Int32 × HP) :=
  nm (h.1 a 9) (fun v4 =>
  nm (ui h a 9 0) (fun h7 =>
  some (v4, h7)))
-- X9_clean
def F_X9_clean_L51 (a : Nat) : Nat → (Int32 × HP) → Option (HP) :=
  lp (fun rc51 x =>
  (if 6 ≤ x.1 then
  some x.2
  else
  gd (16 + x.1) 34 (
  nm (st x.2 (a + 2) (16 + x.1) 1) (fun h66 =>
  rc51 ((x.1 + 1), h66)))))
def F_X9_clean_J42 (a : Nat) (h : HP) : Option (HP) :=
  nm (st h (a + 2) 2 1) (fun h48 =>
  F_X9_clean_L51 a sg_fuel (0, h48))
def F_X9_clean_L23 (a : Nat) : Nat → (Int32 × HP) → Option (HP) :=
  lp (fun rc23 x =>
  (if 31 ≤ x.1 then
  F_X9_clean_J42 a x.2
  else
  gd x.1 31 (
  nm (st x.2 (a + 4) x.1 0) (fun h35 =>
  rc23 ((x.1 + 1), h35)))))
def F_X9_clean_J21 (a : Nat) (h : HP) : Option (HP) :=
  F_X9_clean_L23 a sg_fuel (0, h)
def F_X9_clean_L2 (a : Nat) : Nat → (Int32 × HP) → Option (HP) :=
  lp (fun rc2 x =>
  (if 34 ≤ x.1 then
  F_X9_clean_J21 a x.2
  else
  gd x.1 34 (
  nm (st x.2 (a + 2) x.1 0) (fun h14 =>
  rc2 ((x.1 + 1), h14)))))
def F_X9_clean (a : Nat) (h : HP) : Option (HP) :=
  F_X9_clean_L2 a sg_fuel (0, h)
-- X9_stretch
def F_X9_stretch (a : Nat) (x1 : Int32) (x2 : Int32) (h : HP) : Option (HP) :=
  nm (ld h (a + 2) 0) (fun v6 =>
  gd (4 + v6) 34 (
  nm (st h (a + 2) (4 + v6) x1) (fun h15 =>
  gd (10 + v6) 34 (
  nm (st h15 (a + 2) (10 + v6) x2) (fun h25 =>
  nm (st h25 (a + 2) 0 ((ld h25 (a + 2) 0) + 1)) (fun h35 =>
  some h35))))))
-- X9_comes
def F_X9_comes (a : Nat) (x1 : Int32) (x2 : Int32) (h : HP) : Option (HP) :=
  nm (ld h (a + 2) 1) (fun v6 =>
  gd (22 + v6) 34 (
  nm (st h (a + 2) (22 + v6) x1) (fun h16 =>
  gd (28 + v6) 34 (
  nm (st h16 (a + 2) (28 + v6) x2) (fun h26 =>
  nm (st h26 (a + 2) 1 ((ld h26 (a + 2) 1) + 1)) (fun h36 =>
  some h36))))))
-- X9_takesTurn
def F_X9_takesTurn (a : Nat) (x1 : Int32) (x2 : Int32) (x3 : Int32) (h : HP) : Option (HP) :=
  nm (ld h (a + 4) 0) (fun v6 =>
  gd (1 + v6) 31 (
  nm (st h (a + 4) (1 + v6) x1) (fun h17 =>
  gd (11 + v6) 31 (
  nm (st h17 (a + 4) (11 + v6) x2) (fun h28 =>
  gd (21 + v6) 31 (
  nm (st h28 (a + 4) (21 + v6) x3) (fun h39 =>
  nm (st h39 (a + 4) 0 ((ld h39 (a + 4) 0) + 1)) (fun h49 =>
  some h49))))))))
-- X9_yardsOf
def F_X9_yardsOf_L4 (q0 : Nat) (h : HP) : Nat → (Int32 × Int32) → Option (Int32) :=
  lp (fun rc4 x =>
  gd 0 (sg_N q0) (
  (if (ld h q0 0) ≤ x.2 then
  some x.1
  else
  gd (4 + x.2) (sg_N q0) (
  nm (x.1 + (ld h q0 (4 + x.2))) (fun v18 =>
  rc4 (v18, (x.2 + 1)))))))
def F_X9_yardsOf (q0 : Nat) (h : HP) : Option (Int32) :=
  F_X9_yardsOf_L4 q0 h sg_fuel (0, 0)
-- X9_takes
def F_X9_takes_J131 (a : Nat) (rc2 : (Int32 × HP) → Option (Int32 × HP)) (x1 : Int32) (x2 : Int32) (x3 : Int32) (x4 : Int32) (s0 : Int32) (h : HP) : Option (Int32 × HP) :=
  cl (F_X9_in (x4.toInt64) 1 2) (fun p140 =>
  (if p140 = 0 then
  some (0, h)
  else
  (if s0 = 0 then
  some (0, h)
  else
  gd x2 3 (
  nm (st h (a + 9) x2 x3) (fun h159 =>
  nm (ui h159 a 12 ((h159.1 a 12) + 1)) (fun h167 =>
  rc2 ((x2 + 1), h167)))))))
def F_X9_takes_J130 (a : Nat) (rc2 : (Int32 × HP) → Option (Int32 × HP)) (x1 : Int32) (x2 : Int32) (x3 : Int32) (x4 : Int32) (h : HP) : Option (Int32 × HP) :=
  F_X9_takes_J131 a rc2 x1 x2 x3 x4 0 h
def F_X9_takes_J123 (a : Nat) (rc2 : (Int32 × HP) → Option (Int32 × HP)) (x1 : Int32) (x2 : Int32) (x3 : Int32) (x4 : Int32) (s0 : Int32) (s1 : Int32) (h : HP) : Option (Int32 × HP) :=
  (if s1 = s0 then
  F_X9_takes_J131 a rc2 x1 x2 x3 x4 1 h
  else
  F_X9_takes_J130 a rc2 x1 x2 x3 x4 h)
def F_X9_takes_J89 (a : Nat) (rc2 : (Int32 × HP) → Option (Int32 × HP)) (x1 : Int32) (x2 : Int32) (x3 : Int32) (x4 : Int32) (h : HP) : Option (Int32 × HP) :=
  (if (h.1 a 9) ≤ (h.1 a 12) then
  F_X9_takes_J130 a rc2 x1 x2 x3 x4 h
  else
  gd (h.1 a 12) 200 (
  (if (x1 - 1) ≤ x2 then
  F_X9_takes_J123 a rc2 x1 x2 x3 x4 59 (ld h (a + 7) (h.1 a 12)) h
  else
  F_X9_takes_J123 a rc2 x1 x2 x3 x4 44 (ld h (a + 7) (h.1 a 12)) h)))
def F_X9_takes_J72 (a : Nat) (rc2 : (Int32 × HP) → Option (Int32 × HP)) (rc12 : (Int32 × Int32 × HP) → Option (Int32 × HP)) (x1 : Int32) (x2 : Int32) (x4 : Int32) (s0 : Int32) (h : HP) : Option (Int32 × HP) :=
  nm (ui h a 12 ((h.1 a 12) + 1)) (fun h83 =>
  rc12 (s0, (x4 + 1), h83))
def F_X9_takes_L12 (a : Nat) (rc2 : (Int32 × HP) → Option (Int32 × HP)) (x1 : Int32) (x2 : Int32) : Nat → (Int32 × Int32 × HP) → Option (Int32 × HP) :=
  lp (fun rc12 x =>
  (if (x.2.2.1 a 9) ≤ (x.2.2.1 a 12) then
  F_X9_takes_J89 a rc2 x1 x2 x.1 x.2.1 x.2.2
  else
  gd (x.2.2.1 a 12) 200 (
  cl (F_X9_in ((ld x.2.2 (a + 7) (x.2.2.1 a 12)).toInt64) 48 57) (fun p39 =>
  (if p39 = 0 then
  F_X9_takes_J89 a rc2 x1 x2 x.1 x.2.1 x.2.2
  else
  (if 2 ≤ x.2.1 then
  F_X9_takes_J72 a rc2 rc12 x1 x2 x.2.1 x.1 x.2.2
  else
  gd (x.2.2.1 a 12) 200 (
  F_X9_takes_J72 a rc2 rc12 x1 x2 x.2.1 (((10 * x.1) + (ld x.2.2 (a + 7) (x.2.2.1 a 12))) - 48) x.2.2)))))))
def F_X9_takes_L2 (a : Nat) (x1 : Int32) : Nat → (Int32 × HP) → Option (Int32 × HP) :=
  lp (fun rc2 x =>
  (if x1 ≤ x.1 then
  some (1, x.2)
  else
  F_X9_takes_L12 a rc2 x1 x.1 sg_fuel (0, 0, x.2)))
def F_X9_takes (a : Nat) (x1 : Int32) (h : HP) : Option (Int32 × HP) :=
  F_X9_takes_L2 a x1 sg_fuel (0, h)
-- X9_is
def F_X9_is (a : Nat) (x1 : Int32) (x2 : Int32) (x3 : Int32) (h : HP) : Option (Int32) :=
  gd x1 3 (
  cl (F_X9_in ((ld h (a + 9) x1).toInt64) (x2.toInt64) (x3.toInt64)) (fun p11 =>
  some p11))
-- X9_takesStretch
def F_X9_takesStretch (a : Nat) (h : HP) : Option (Int32 × HP) :=
  cl (F_X9_takes a 2 h) (fun p2 =>
  (if p2.1 = 0 then
  some (0, p2.2)
  else
  cl (F_X9_is a 0 1 30 p2.2) (fun p13 =>
  (if p13 = 0 then
  some (0, p2.2)
  else
  cl (F_X9_is a 1 0 5 p2.2) (fun p23 =>
  (if p23 = 0 then
  some (0, p2.2)
  else
  (if (ld p2.2 (a + 2) 0) = 6 then
  some (0, p2.2)
  else
  cl (F_X9_yardsOf (a + 2) p2.2) (fun p44 =>
  (if (p44 + (ld p2.2 (a + 9) 0)) ≤ 120 then
  cl (F_X9_stretch a (ld p2.2 (a + 9) 0) (ld p2.2 (a + 9) 1) p2.2) (fun p74 =>
  some (1, p74))
  else
  some (0, p2.2))))))))))
-- X9_takesBearer
def F_X9_takesBearer (a : Nat) (h : HP) : Option (Int32 × HP) :=
  cl (F_X9_takes a 2 h) (fun p2 =>
  (if p2.1 = 0 then
  some (0, p2.2)
  else
  cl (F_X9_is a 0 1 60 p2.2) (fun p13 =>
  (if p13 = 0 then
  some (0, p2.2)
  else
  cl (F_X9_is a 1 0 3 p2.2) (fun p23 =>
  (if p23 = 0 then
  some (0, p2.2)
  else
  (if (ld p2.2 (a + 2) 1) = 6 then
  some (0, p2.2)
  else
  cl (F_X9_comes a (10 * (ld p2.2 (a + 9) 0)) (ld p2.2 (a + 9) 1) p2.2) (fun p58 =>
  some (1, p58)))))))))
-- X9_takesOne
def F_X9_takesOne (a : Nat) (x1 : Int32) (x2 : Int32) (x3 : Int32) (h : HP) : Option (Int32 × HP) :=
  cl (F_X9_takes a 1 h) (fun p2 =>
  (if p2.1 = 0 then
  some (0, p2.2)
  else
  cl (F_X9_is a 0 x2 x3 p2.2) (fun p12 =>
  (if p12 = 0 then
  some (0, p2.2)
  else
  gd x1 34 (
  nm (st p2.2 (a + 2) x1 (ld p2.2 (a + 9) 0)) (fun h31 =>
  some (1, h31)))))))
-- X9_takesTurns
def F_X9_takesTurns (a : Nat) (h : HP) : Option (Int32 × HP) :=
  cl (F_X9_takes a 3 h) (fun p2 =>
  (if p2.1 = 0 then
  some (0, p2.2)
  else
  cl (F_X9_is a 0 0 ((ld p2.2 (a + 2) 1) - 1) p2.2) (fun p19 =>
  (if p19 = 0 then
  some (0, p2.2)
  else
  (if (ld p2.2 (a + 9) 2) < (ld p2.2 (a + 9) 1) then
  some (0, p2.2)
  else
  (if (ld p2.2 (a + 4) 0) = 9 then
  some (0, p2.2)
  else
  cl (F_X9_takesTurn a (ld p2.2 (a + 9) 0) (ld p2.2 (a + 9) 1) (ld p2.2 (a + 9) 2) p2.2) (fun p72 =>
  some (1, p72))))))))
-- X9_takesPrice
def F_X9_takesPrice (a : Nat) (h : HP) : Option (Int32 × HP) :=
  cl (F_X9_takes a 2 h) (fun p2 =>
  (if p2.1 = 0 then
  some (0, p2.2)
  else
  cl (F_X9_is a 0 0 ((ld p2.2 (a + 2) 0) - 1) p2.2) (fun p19 =>
  (if p19 = 0 then
  some (0, p2.2)
  else
  cl (F_X9_is a 1 1 9 p2.2) (fun p30 =>
  (if p30 = 0 then
  some (0, p2.2)
  else
  gd (16 + (ld p2.2 (a + 9) 0)) 34 (
  nm (st p2.2 (a + 2) (16 + (ld p2.2 (a + 9) 0)) (ld p2.2 (a + 9) 1)) (fun h57 =>
  some (1, h57)))))))))
-- X9_takesItem
def F_X9_takesItem (a : Nat) (h : HP) : Option (Int32 × HP) :=
  gd (h.1 a 12) 200 (
  nm (ld h (a + 7) (h.1 a 12)) (fun v9 =>
  nm (ui h a 12 ((h.1 a 12) + 1)) (fun h17 =>
  (if v9 = 98 then
  cl (F_X9_takesBearer a h17) (fun p86 =>
  some (p86.1, p86.2))
  else
  (if v9 = 109 then
  cl (F_X9_takesOne a 2 1 3 h17) (fun p94 =>
  some (p94.1, p94.2))
  else
  (if v9 = 114 then
  cl (F_X9_takesOne a 3 0 3 h17) (fun p102 =>
  some (p102.1, p102.2))
  else
  (if v9 = 115 then
  cl (F_X9_takesStretch a h17) (fun p81 =>
  some (p81.1, p81.2))
  else
  (if v9 = 116 then
  cl (F_X9_takesTurns a h17) (fun p107 =>
  some (p107.1, p107.2))
  else
  (if v9 = 120 then
  cl (F_X9_takesPrice a h17) (fun p112 =>
  some (p112.1, p112.2))
  else
  some (0, h17))))))))))
-- X9_fault
def F_X9_fault_L9 (a : Nat) : Nat → HP → Option (Int32 × HP) :=
  lp (fun rc9 x =>
  (if (x.1 a 9) ≤ (x.1 a 12) then
  some ((-4), x)
  else
  nm (x.1 a 12) (fun v24 =>
  cl (F_X9_takesItem a x) (fun p26 =>
  (if p26.1 = 0 then
  some (v24, p26.2)
  else
  rc9 p26.2)))))
def F_X9_fault (a : Nat) (h : HP) : Option (Int32 × HP) :=
  cl (F_X9_clean a h) (fun p1 =>
  nm (ui p1 a 12 0) (fun h6 =>
  F_X9_fault_L9 a sg_fuel h6))
-- X9_begins
def F_X9_begins_J52 (a : Nat) (h : HP) : Option (HP) :=
  nm (ui h a 11 0) (fun h54 =>
  nm (ui h54 a 5 0) (fun h59 =>
  nm (ui h59 a 7 0) (fun h64 =>
  some h64)))
def F_X9_begins_L28 (a : Nat) : Nat → (Int32 × HP) → Option (HP) :=
  lp (fun rc28 x =>
  (if 31 ≤ x.1 then
  F_X9_begins_J52 a x.2
  else
  gd x.1 31 (
  gd x.1 31 (
  nm (st x.2 (a + 3) x.1 (ld x.2 (a + 4) x.1)) (fun h45 =>
  rc28 ((x.1 + 1), h45))))))
def F_X9_begins_J26 (a : Nat) (h : HP) : Option (HP) :=
  F_X9_begins_L28 a sg_fuel (0, h)
def F_X9_begins_L2 (a : Nat) : Nat → (Int32 × HP) → Option (HP) :=
  lp (fun rc2 x =>
  (if 34 ≤ x.1 then
  F_X9_begins_J26 a x.2
  else
  gd x.1 34 (
  gd x.1 34 (
  nm (st x.2 (a + 1) x.1 (ld x.2 (a + 2) x.1)) (fun h19 =>
  rc2 ((x.1 + 1), h19))))))
def F_X9_begins (a : Nat) (h : HP) : Option (HP) :=
  F_X9_begins_L2 a sg_fuel (0, h)
-- X9_lay
def F_X9_lay (a : Nat) (h : HP) : Option (Int32 × HP) :=
  cl (F_X9_fault a h) (fun p1 =>
  (if p1.1 = (-4) then
  (if (ld p1.2 (a + 2) 0) = 0 then
  some ((-2), p1.2)
  else
  (if (ld p1.2 (a + 2) 1) = 0 then
  some ((-2), p1.2)
  else
  cl (F_X9_begins a p1.2) (fun p31 =>
  cl (F_X9_yardsOf (a + 1) p31) (fun p38 =>
  some (p38, p31)))))
  else
  some ((-2), p1.2)))
-- X9_isBearer
def F_X9_isBearer (a : Nat) (x1 : Int32) (h : HP) : Option (Int32) :=
  cl (F_X9_in (x1.toInt64) 0 (((ld h (a + 1) 1) - 1).toInt64)) (fun p12 =>
  some p12)
-- X9_isYard
def F_X9_isYard (a : Nat) (x1 : Int32) (h : HP) : Option (Int32) :=
  cl (F_X9_yardsOf (a + 1) h) (fun p7 =>
  cl (F_X9_in (x1.toInt64) 0 ((p7 - 1).toInt64)) (fun p13 =>
  some p13))
-- X9_stretchAt
def F_X9_stretchAt_L4 (q0 : Nat) (h : HP) : Nat → (Int32 × Int32) → Option (Int32) :=
  lp (fun rc4 x =>
  gd (4 + x.1) (sg_N q0) (
  (if x.2 < (ld h q0 (4 + x.1)) then
  some x.1
  else
  gd (4 + x.1) (sg_N q0) (
  nm (x.2 - (ld h q0 (4 + x.1))) (fun v20 =>
  rc4 ((x.1 + 1), v20))))))
def F_X9_stretchAt (q0 : Nat) (x1 : Int32) (h : HP) : Option (Int32) :=
  F_X9_stretchAt_L4 q0 h sg_fuel (0, x1)
-- X9_asItIs
def F_X9_asItIs_J52 (a : Nat) (h : HP) : Option (HP) :=
  nm (ui h a 16 (-1)) (fun h54 =>
  nm (ui h54 a 17 (-1)) (fun h59 =>
  some h59))
def F_X9_asItIs_L28 (a : Nat) : Nat → (Int32 × HP) → Option (HP) :=
  lp (fun rc28 x =>
  (if 31 ≤ x.1 then
  F_X9_asItIs_J52 a x.2
  else
  gd x.1 31 (
  gd x.1 31 (
  nm (st x.2 (a + 11) x.1 (ld x.2 (a + 3) x.1)) (fun h45 =>
  rc28 ((x.1 + 1), h45))))))
def F_X9_asItIs_J26 (a : Nat) (h : HP) : Option (HP) :=
  F_X9_asItIs_L28 a sg_fuel (0, h)
def F_X9_asItIs_L2 (a : Nat) : Nat → (Int32 × HP) → Option (HP) :=
  lp (fun rc2 x =>
  (if 34 ≤ x.1 then
  F_X9_asItIs_J26 a x.2
  else
  gd x.1 34 (
  gd x.1 34 (
  nm (st x.2 (a + 10) x.1 (ld x.2 (a + 1) x.1)) (fun h19 =>
  rc2 ((x.1 + 1), h19))))))
def F_X9_asItIs (a : Nat) (h : HP) : Option (HP) :=
  F_X9_asItIs_L2 a sg_fuel (0, h)
-- X9_tolds
def F_X9_tolds_J57 (a : Nat) (rc4 : (Int32 × Int32) → Option (Int32)) (x1 : Int32) (x3 : Int32) (s0 : Int32) (s1 : Int32) (h : HP) : Option (Int32) :=
  nm (s1 ||| s0) (fun v58 =>
  rc4 (v58, (x3 + 1)))
def F_X9_tolds_L4 (a : Nat) (x1 : Int32) (h : HP) : Nat → (Int32 × Int32) → Option (Int32) :=
  lp (fun rc4 x =>
  (if (ld h (a + 11) 0) ≤ x.2 then
  some x.1
  else
  gd (11 + x.2) 31 (
  gd (21 + x.2) 31 (
  cl (F_X9_in (x1.toInt64) ((ld h (a + 11) (11 + x.2)).toInt64) ((ld h (a + 11) (21 + x.2)).toInt64)) (fun p37 =>
  (if p37 = 0 then
  F_X9_tolds_J57 a rc4 x1 x.2 0 x.1 h
  else
  gd (1 + x.2) 31 (
  F_X9_tolds_J57 a rc4 x1 x.2 (1 <<< ((ld h (a + 11) (1 + x.2)) &&& 31)) x.1 h)))))))
def F_X9_tolds (a : Nat) (x1 : Int32) (h : HP) : Option (Int32) :=
  F_X9_tolds_L4 a x1 h sg_fuel (0, 0)
-- X9_rainAt
def F_X9_rainAt (a : Nat) (x1 : Int32) (h : HP) : Option (Int32) :=
  (if 0 ≤ (h.1 a 17) then
  nm (((7919 * (h.1 a 17).toInt64) + (6151 * x1.toInt64)) + 1) (fun v32 =>
  some ((ld h (a + 10) 3) + (((v32 * v32) - (v32 * v32) / 65521 * 65521) - ((v32 * v32) - (v32 * v32) / 65521 * 65521) / 3 * 3).toInt32))
  else
  some (ld h (a + 10) 3))
-- X9_isTwin
def F_X9_isTwin_J48 (q0 : Nat) (rc5 : (Int32 × Int32) → Option (Int32)) (x1 : Int32) (x2 : Int32) (x4 : Int32) (s0 : Int32) (h : HP) : Option (Int32) :=
  rc5 (s0, (x4 + 1))
def F_X9_isTwin_J43 (q0 : Nat) (rc5 : (Int32 × Int32) → Option (Int32)) (x1 : Int32) (x2 : Int32) (x4 : Int32) (h : HP) : Option (Int32) :=
  F_X9_isTwin_J48 q0 rc5 x1 x2 x4 1 h
def F_X9_isTwin_J47 (q0 : Nat) (rc5 : (Int32 × Int32) → Option (Int32)) (x1 : Int32) (x2 : Int32) (x4 : Int32) (h : HP) : Option (Int32) :=
  F_X9_isTwin_J48 q0 rc5 x1 x2 x4 0 h
def F_X9_isTwin_L5 (q0 : Nat) (x1 : Int32) (x2 : Int32) (h : HP) : Nat → (Int32 × Int32) → Option (Int32) :=
  lp (fun rc5 x =>
  gd 1 (sg_N q0) (
  (if (ld h q0 1) ≤ x.2 then
  gb x.1 (some x.1)
  else
  (if x.1 = 0 then
  (if x.2 = x2 then
  F_X9_isTwin_J47 q0 rc5 x1 x2 x.2 h
  else
  cl (F_X9_has x1 x.2) (fun p26 =>
  (if p26 = 0 then
  F_X9_isTwin_J47 q0 rc5 x1 x2 x.2 h
  else
  gd (28 + x.2) (sg_N q0) (
  (if (ld h q0 (28 + x.2)) = 3 then
  F_X9_isTwin_J43 q0 rc5 x1 x2 x.2 h
  else
  F_X9_isTwin_J47 q0 rc5 x1 x2 x.2 h)))))
  else
  F_X9_isTwin_J43 q0 rc5 x1 x2 x.2 h))))
def F_X9_isTwin (q0 : Nat) (x1 : Int32) (x2 : Int32) (h : HP) : Option (Int32) :=
  F_X9_isTwin_L5 q0 x1 x2 h sg_fuel (0, 0)
-- X9_cost
def F_X9_cost_J42 (q0 : Nat) (x2 : Int32) (s0 : Int32) (h : HP) : Option (Int32) :=
  cl (F_X9_bits x2) (fun p47 =>
  gz p47 (
  nm (s0 / p47) (fun v51 =>
  (if 1 ≤ v51 then
  some v51
  else
  some 1))))
def F_X9_cost_J41 (q0 : Nat) (x2 : Int32) (x3 : Int32) (h : HP) : Option (Int32) :=
  F_X9_cost_J42 q0 x2 x3 h
def F_X9_cost (q0 : Nat) (x1 : Int32) (x2 : Int32) (x3 : Int32) (h : HP) : Option (Int32) :=
  gd (28 + x1) (sg_N q0) (
  nm (ld h q0 (28 + x1)) (fun v6 =>
  (if v6 = 1 then
  F_X9_cost_J42 q0 x2 (2 * x3) h
  else
  (if v6 = 3 then
  cl (F_X9_isTwin q0 x2 x1 h) (fun p29 =>
  (if p29 = 0 then
  F_X9_cost_J41 q0 x2 x3 h
  else
  F_X9_cost_J42 q0 x2 (x3 - 1) h))
  else
  F_X9_cost_J41 q0 x2 x3 h))))
-- X9_bears
def F_X9_bears_J95 (a : Nat) (rc6 : (Int32 × Int32 × HP) → Option (Int32 × HP)) (x1 : Int32) (x2 : Int32) (x3 : Int32) (x4 : Int32) (x5 : Int32) (h : HP) : Option (Int32 × HP) :=
  rc6 (x4, (x5 + 1), h)
def F_X9_bears_J94 (a : Nat) (rc6 : (Int32 × Int32 × HP) → Option (Int32 × HP)) (x1 : Int32) (x2 : Int32) (x3 : Int32) (x4 : Int32) (x5 : Int32) (s0 : Int32) (s1 : Int32) (h : HP) : Option (Int32 × HP) :=
  gd s1 6 (
  nm (st h (a + 14) s1 s0) (fun h94 =>
  F_X9_bears_J95 a rc6 x1 x2 x3 x4 x5 h94))
def F_X9_bears_J69 (a : Nat) (rc6 : (Int32 × Int32 × HP) → Option (Int32 × HP)) (x1 : Int32) (x2 : Int32) (x3 : Int32) (x5 : Int32) (x6 : Int32) (s0 : Int32) (s1 : Int32) (h : HP) : Option (Int32 × HP) :=
  nm (s1 ||| s0) (fun v70 =>
  (if x6 = 0 then
  F_X9_bears_J94 a rc6 x1 x2 x3 v70 x5 x1 x5 h
  else
  gd x5 6 (
  F_X9_bears_J94 a rc6 x1 x2 x3 v70 x5 (ld h (a + 14) x5) x5 h)))
def F_X9_bears_J52 (a : Nat) (rc6 : (Int32 × Int32 × HP) → Option (Int32 × HP)) (x1 : Int32) (x2 : Int32) (x3 : Int32) (x4 : Int32) (x5 : Int32) (s0 : Int32) (h : HP) : Option (Int32 × HP) :=
  (if s0 = 0 then
  F_X9_bears_J69 a rc6 x1 x2 x3 x5 s0 0 x4 h
  else
  F_X9_bears_J69 a rc6 x1 x2 x3 x5 s0 (1 <<< (x5 &&& 31)) x4 h)
def F_X9_bears_L6 (a : Nat) (x1 : Int32) (x2 : Int32) (x3 : Int32) : Nat → (Int32 × Int32 × HP) → Option (Int32 × HP) :=
  lp (fun rc6 x =>
  (if (ld x.2.2 (a + 10) 1) ≤ x.2.1 then
  some (x.1, x.2.2)
  else
  cl (F_X9_has x2 x.2.1) (fun p20 =>
  (if p20 = 0 then
  F_X9_bears_J95 a rc6 x1 x2 x3 x.1 x.2.1 x.2.2
  else
  gd x.2.1 6 (
  cl (F_X9_cost (a + 10) x.2.1 x2 x3 x.2.2) (fun p41 =>
  (if (ld x.2.2 (a + 12) x.2.1) < p41 then
  F_X9_bears_J52 a rc6 x1 x2 x3 x.1 x.2.1 0 x.2.2
  else
  F_X9_bears_J52 a rc6 x1 x2 x3 x.1 x.2.1 1 x.2.2)))))))
def F_X9_bears (a : Nat) (x1 : Int32) (x2 : Int32) (x3 : Int32) (h : HP) : Option (Int32 × HP) :=
  F_X9_bears_L6 a x1 x2 x3 sg_fuel (0, 0, h)
-- X9_unfallen
def F_X9_unfallen_J39 (a : Nat) (rc4 : (Int32 × Int32) → Option (Int32)) (x1 : Int32) (x3 : Int32) (s0 : Int32) (s1 : Int32) (h : HP) : Option (Int32) :=
  nm (s1 ||| s0) (fun v40 =>
  rc4 (v40, (x3 + 1)))
def F_X9_unfallen_J38 (a : Nat) (rc4 : (Int32 × Int32) → Option (Int32)) (x1 : Int32) (x3 : Int32) (s0 : Int32) (h : HP) : Option (Int32) :=
  F_X9_unfallen_J39 a rc4 x1 x3 0 s0 h
def F_X9_unfallen_L4 (a : Nat) (x1 : Int32) (h : HP) : Nat → (Int32 × Int32) → Option (Int32) :=
  lp (fun rc4 x =>
  (if (ld h (a + 10) 1) ≤ x.2 then
  some x.1
  else
  cl (F_X9_has x1 x.2) (fun p17 =>
  (if p17 = 0 then
  F_X9_unfallen_J38 a rc4 x1 x.2 x.1 h
  else
  gd x.2 6 (
  (if 0 ≤ (ld h (a + 14) x.2) then
  F_X9_unfallen_J38 a rc4 x1 x.2 x.1 h
  else
  F_X9_unfallen_J39 a rc4 x1 x.2 (1 <<< (x.2 &&& 31)) x.1 h))))))
def F_X9_unfallen (a : Nat) (x1 : Int32) (h : HP) : Option (Int32) :=
  F_X9_unfallen_L4 a x1 h sg_fuel (0, 0)
-- X9_startsUp
def F_X9_startsUp_J62 (a : Nat) (h : HP) : Option (HP) :=
  nm (ui h a 23 (-4)) (fun h65 =>
  some h65)
def F_X9_startsUp_J34 (a : Nat) (rc2 : (Int32 × HP) → Option (HP)) (x1 : Int32) (s0 : Int32) (s1 : Int32) (h : HP) : Option (HP) :=
  gd s1 6 (
  nm (st h (a + 12) s1 s0) (fun h34 =>
  gd x1 6 (
  nm (st h34 (a + 13) x1 0) (fun h41 =>
  gd x1 6 (
  nm (st h41 (a + 14) x1 (-1)) (fun h48 =>
  gd x1 6 (
  nm (st h48 (a + 15) x1 0) (fun h55 =>
  rc2 ((x1 + 1), h55)))))))))
def F_X9_startsUp_L2 (a : Nat) : Nat → (Int32 × HP) → Option (HP) :=
  lp (fun rc2 x =>
  (if 6 ≤ x.1 then
  F_X9_startsUp_J62 a x.2
  else
  (if x.1 = (x.2.1 a 16) then
  F_X9_startsUp_J34 a rc2 x.1 0 x.1 x.2
  else
  gd (22 + x.1) 34 (
  F_X9_startsUp_J34 a rc2 x.1 (ld x.2 (a + 10) (22 + x.1)) x.1 x.2))))
def F_X9_startsUp (a : Nat) (h : HP) : Option (HP) :=
  F_X9_startsUp_L2 a sg_fuel (0, h)
-- X9_pays
def F_X9_pays_J72 (a : Nat) (rc3 : (Int32 × HP) → Option (HP)) (x1 : Int32) (x2 : Int32) (x3 : Int32) (x4 : Int32) (x5 : Int32) (h : HP) : Option (HP) :=
  rc3 ((x5 + 1), h)
def F_X9_pays_L3 (a : Nat) (x1 : Int32) (x2 : Int32) (x3 : Int32) (x4 : Int32) : Nat → (Int32 × HP) → Option (HP) :=
  lp (fun rc3 x =>
  (if (ld x.2 (a + 10) 1) ≤ x.1 then
  some x.2
  else
  cl (F_X9_has x1 x.1) (fun p17 =>
  (if p17 = 0 then
  F_X9_pays_J72 a rc3 x1 x2 x3 x4 x.1 x.2
  else
  gd x.1 6 (
  cl (F_X9_cost (a + 10) x.1 x2 x3 x.2) (fun p39 =>
  gd x.1 6 (
  nm (st x.2 (a + 12) x.1 ((ld x.2 (a + 12) x.1) - p39)) (fun h43 =>
  gd x.1 6 (
  cl (F_X9_bits x1) (fun p55 =>
  gz p55 (
  gd x.1 6 (
  nm (st h43 (a + 13) x.1 ((ld h43 (a + 13) x.1) + (x4 / p55))) (fun h60 =>
  gd x.1 6 (
  gd x.1 6 (
  nm (st h60 (a + 15) x.1 ((ld h60 (a + 15) x.1) + 1)) (fun h71 =>
  F_X9_pays_J72 a rc3 x1 x2 x3 x4 x.1 h71))))))))))))))))
def F_X9_pays (a : Nat) (x1 : Int32) (x2 : Int32) (x3 : Int32) (x4 : Int32) (h : HP) : Option (HP) :=
  F_X9_pays_L3 a x1 x2 x3 x4 sg_fuel (0, h)
-- X9_goesUp
def F_X9_goesUp_J202 (a : Nat) (rc159 : (Int32 × HP) → Option (HP)) (x2 : Int32) (s0 : Int32) (s1 : Int32) (h : HP) : Option (HP) :=
  gd s1 6 (
  nm (st h (a + 13) s1 s0) (fun h202 =>
  rc159 ((x2 + 1), h202)))
def F_X9_goesUp_J192 (a : Nat) (rc159 : (Int32 × HP) → Option (HP)) (x2 : Int32) (s0 : Int32) (h : HP) : Option (HP) :=
  F_X9_goesUp_J202 a rc159 x2 0 s0 h
def F_X9_goesUp_L159 (a : Nat) : Nat → (Int32 × HP) → Option (HP) :=
  lp (fun rc159 x =>
  (if 6 ≤ x.1 then
  some x.2
  else
  gd x.1 6 (
  (if 0 ≤ (ld x.2 (a + 14) x.1) then
  F_X9_goesUp_J192 a rc159 x.1 x.1 x.2
  else
  gd (28 + x.1) 34 (
  (if (ld x.2 (a + 10) (28 + x.1)) = 2 then
  F_X9_goesUp_J192 a rc159 x.1 x.1 x.2
  else
  gd x.1 6 (
  F_X9_goesUp_J202 a rc159 x.1 (ld x.2 (a + 13) x.1) x.1 x.2)))))))
def F_X9_goesUp_J157 (a : Nat) (h : HP) : Option (HP) :=
  F_X9_goesUp_L159 a sg_fuel (0, h)
def F_X9_goesUp_J151 (a : Nat) (rc35 : (Int32 × HP) → Option (HP)) (x1 : Int32) (x2 : Int32) (h : HP) : Option (HP) :=
  rc35 ((x2 + 1), h)
def F_X9_goesUp_L35 (a : Nat) (x1 : Int32) : Nat → (Int32 × HP) → Option (HP) :=
  lp (fun rc35 x =>
  (if x1 ≤ x.1 then
  F_X9_goesUp_J157 a x.2
  else
  (if (x.2.1 a 23) = (-4) then
  cl (F_X9_stretchAt (a + 10) x.1 x.2) (fun p54 =>
  gd (10 + p54) 34 (
  cl (F_X9_rainAt a x.1 x.2) (fun p71 =>
  nm ((1 + (ld x.2 (a + 10) (10 + p54))) + p71) (fun v75 =>
  cl (F_X9_tolds a x.1 x.2) (fun p80 =>
  cl (F_X9_unfallen a p80 x.2) (fun p83 =>
  cl (F_X9_bears a x.1 p83 v75 x.2) (fun p94 =>
  cl (F_X9_bits p94.1) (fun p101 =>
  (if (ld p94.2 (a + 10) 2) ≤ p101 then
  gd x.1 120 (
  nm (st p94.2 (a + 16) x.1 p94.1) (fun h128 =>
  gd (16 + p54) 34 (
  cl (F_X9_pays a p94.1 p83 v75 (60 * (ld h128 (a + 10) (16 + p54))) h128) (fun p148 =>
  F_X9_goesUp_J151 a rc35 x1 x.1 p148))))
  else
  nm (ui p94.2 a 23 x.1) (fun h115 =>
  F_X9_goesUp_J151 a rc35 x1 x.1 h115))))))))))
  else
  F_X9_goesUp_J157 a x.2)))
def F_X9_goesUp_J33 (a : Nat) (x1 : Int32) (h : HP) : Option (HP) :=
  F_X9_goesUp_L35 a x1 sg_fuel (0, h)
def F_X9_goesUp_L14 (a : Nat) (x1 : Int32) : Nat → (Int32 × HP) → Option (HP) :=
  lp (fun rc14 x =>
  (if 120 ≤ x.1 then
  F_X9_goesUp_J33 a x1 x.2
  else
  gd x.1 120 (
  nm (st x.2 (a + 16) x.1 0) (fun h26 =>
  rc14 ((x.1 + 1), h26)))))
def F_X9_goesUp (a : Nat) (h : HP) : Option (HP) :=
  cl (F_X9_startsUp a h) (fun p1 =>
  cl (F_X9_yardsOf (a + 10) p1) (fun p8 =>
  F_X9_goesUp_L14 a p8 sg_fuel (0, p1)))
-- X9_yard
def F_X9_yard (a : Nat) (x1 : Int32) (x2 : Int32) (h : HP) : Option (Int32 × HP) :=
  cl (F_X9_isYard a x1 h) (fun p2 =>
  (if p2 = 0 then
  some ((-1), h)
  else
  cl (F_X9_in (x2.toInt64) 0 4) (fun p14 =>
  (if p14 = 0 then
  some ((-1), h)
  else
  cl (F_X9_stretchAt (a + 1) x1 h) (fun p27 =>
  cl (F_X9_asItIs a h) (fun p32 =>
  (if x2 = 0 then
  some (p27, p32)
  else
  (if x2 = 1 then
  gd (10 + p27) 34 (
  some ((ld p32 (a + 1) (10 + p27)), p32))
  else
  (if x2 = 2 then
  gd (16 + p27) 34 (
  some ((ld p32 (a + 1) (16 + p27)), p32))
  else
  (if x2 = 3 then
  cl (F_X9_tolds a x1 p32) (fun p92 =>
  some (p92, p32))
  else
  cl (F_X9_goesUp a p32) (fun p97 =>
  gd x1 120 (
  some ((ld p97 (a + 16) x1), p97)))))))))))))
-- X9_bearer
def F_X9_bearer (a : Nat) (x1 : Int32) (x2 : Int32) (h : HP) : Option (Int32 × HP) :=
  cl (F_X9_isBearer a x1 h) (fun p2 =>
  (if p2 = 0 then
  some ((-1), h)
  else
  cl (F_X9_in (x2.toInt64) 0 5) (fun p14 =>
  (if p14 = 0 then
  some ((-1), h)
  else
  cl (F_X9_asItIs a h) (fun p23 =>
  cl (F_X9_goesUp a p23) (fun p27 =>
  (if x2 = 0 then
  gd (22 + x1) 34 (
  some ((ld p27 (a + 1) (22 + x1)), p27))
  else
  (if x2 = 1 then
  gd (28 + x1) 34 (
  some ((ld p27 (a + 1) (28 + x1)), p27))
  else
  (if x2 = 2 then
  gd x1 6 (
  some ((ld p27 (a + 12) x1), p27))
  else
  (if x2 = 3 then
  gd x1 6 (
  some ((ld p27 (a + 13) x1), p27))
  else
  (if x2 = 4 then
  gd x1 6 (
  (if 0 ≤ (ld p27 (a + 14) x1) then
  gd x1 6 (
  some ((ld p27 (a + 14) x1), p27))
  else
  some ((-4), p27)))
  else
  gd x1 6 (
  some ((ld p27 (a + 15) x1), p27)))))))))))))
-- X9_stands
def F_X9_stands (a : Nat) (h : HP) : Option (Int32 × HP) :=
  cl (F_X9_asItIs a h) (fun p1 =>
  cl (F_X9_goesUp a p1) (fun p5 =>
  some ((p5.1 a 23), p5)))
-- X9_fraction
def F_X9_fraction_J41 (z5 : Int64) (s0 : Int64) : Option (Int32) :=
  gzl z5 (
  some ((s0 / z5).toInt32))
def F_X9_fraction_J31 (z0 : Int64) (z2 : Int64) (x4 : Int32) (z5 : Int64) : Option (Int32) :=
  (if x4 = 0 then
  F_X9_fraction_J41 z5 z0
  else
  F_X9_fraction_J41 z5 z2)
def F_X9_fraction_L6 (z0 : Int64) (z2 : Int64) (x4 : Int32) : Nat → (Int64 × Int64) → Option (Int32) :=
  lp (fun rc6 x =>
  (if (lg_cmp x.2 0) = 0 then
  F_X9_fraction_J31 z0 z2 x4 x.1
  else
  gzl x.2 (
  nm (x.1 - x.1 / x.2 * x.2) (fun v18 =>
  rc6 (x.2, v18)))))
def F_X9_fraction (z0 : Int64) (z2 : Int64) (x4 : Int32) : Option (Int32) :=
  F_X9_fraction_L6 z0 z2 x4 sg_fuel (z0, z2)
-- X9_share
def F_X9_share_J74 (a : Nat) (x2 : Int32) (s0 : Int64) (s1 : Int64) (h : HP) : Option (Int32 × HP) :=
  cl (F_X9_fraction s1 s0 x2) (fun p75 =>
  some (p75, h))
def F_X9_share_J57 (a : Nat) (x1 : Int32) (x2 : Int32) (x3 : Int32) (h : HP) : Option (Int32 × HP) :=
  gd x1 6 (
  (if x3 = 0 then
  F_X9_share_J74 a x2 1 ((ld h (a + 13) x1).toInt64) h
  else
  F_X9_share_J74 a x2 (x3.toInt64) ((ld h (a + 13) x1).toInt64) h))
def F_X9_share_L30 (a : Nat) (x1 : Int32) (x2 : Int32) (h : HP) : Nat → (Int32 × Int32) → Option (Int32 × HP) :=
  lp (fun rc30 x =>
  (if (ld h (a + 1) 1) ≤ x.2 then
  F_X9_share_J57 a x1 x2 x.1 h
  else
  gd x.2 6 (
  nm (x.1 + (ld h (a + 13) x.2)) (fun v50 =>
  rc30 (v50, (x.2 + 1))))))
def F_X9_share (a : Nat) (x1 : Int32) (x2 : Int32) (h : HP) : Option (Int32 × HP) :=
  cl (F_X9_isBearer a x1 h) (fun p2 =>
  (if p2 = 0 then
  some ((-1), h)
  else
  cl (F_X9_isTwo x2) (fun p9 =>
  (if p9 = 0 then
  some ((-1), h)
  else
  cl (F_X9_asItIs a h) (fun p18 =>
  cl (F_X9_goesUp a p18) (fun p22 =>
  F_X9_share_L30 a x1 x2 p22 sg_fuel (0, 0)))))))
-- X9_copies
def F_X9_copies_L3 (q0 : Nat) (q2 : Nat) (x1 : Int32) (x3 : Int32) : Nat → (Int32 × HP) → Option (HP) :=
  lp (fun rc3 x =>
  (if 31 ≤ x.1 then
  some x.2
  else
  gd (x1 + x.1) (sg_N q0) (
  gd (x3 + x.1) (sg_N q2) (
  nm (st x.2 q2 (x3 + x.1) (ld x.2 q0 (x1 + x.1))) (fun h21 =>
  rc3 ((x.1 + 1), h21))))))
def F_X9_copies (q0 : Nat) (x1 : Int32) (q2 : Nat) (x3 : Int32) (h : HP) : Option (HP) :=
  F_X9_copies_L3 q0 q2 x1 x3 sg_fuel (0, h)
-- X9_isTurn
def F_X9_isTurn (a : Nat) (x1 : Int32) (h : HP) : Option (Int32) :=
  cl (F_X9_in (x1.toInt64) 0 (((ld h (a + 3) 0) - 1).toInt64)) (fun p12 =>
  some p12)
-- X9_turn
def F_X9_turn (a : Nat) (x1 : Int32) (x2 : Int32) (h : HP) : Option (Int32) :=
  cl (F_X9_isTurn a x1 h) (fun p2 =>
  (if p2 = 0 then
  some (-1)
  else
  cl (F_X9_in (x2.toInt64) 0 2) (fun p14 =>
  (if p14 = 0 then
  some (-1)
  else
  gd ((1 + (10 * x2)) + x1) 31 (
  some (ld h (a + 3) ((1 + (10 * x2)) + x1)))))))
-- X9_remember
def F_X9_remember_J49 (a : Nat) (h : HP) : Option (HP) :=
  cl (F_X9_copies (a + 3) 0 (a + 5) (31 * (h.1 a 5)) h) (fun p65 =>
  nm (ui p65 a 5 ((p65.1 a 5) + 1)) (fun h75 =>
  some h75))
def F_X9_remember_J39 (a : Nat) (h : HP) : Option (HP) :=
  nm (ui h a 5 ((h.1 a 5) - 1)) (fun h46 =>
  F_X9_remember_J49 a h46)
def F_X9_remember_L11 (a : Nat) : Nat → (Int32 × HP) → Option (HP) :=
  lp (fun rc11 x =>
  (if 217 ≤ x.1 then
  F_X9_remember_J39 a x.2
  else
  gd (x.1 + 31) 248 (
  gd x.1 248 (
  nm (st x.2 (a + 5) x.1 (ld x.2 (a + 5) (x.1 + 31))) (fun h32 =>
  rc11 ((x.1 + 1), h32))))))
def F_X9_remember (a : Nat) (h : HP) : Option (HP) :=
  (if (h.1 a 5) = 8 then
  F_X9_remember_L11 a sg_fuel (0, h)
  else
  F_X9_remember_J49 a h)
-- X9_adds
def F_X9_adds (q0 : Nat) (x1 : Int32) (x2 : Int32) (x3 : Int32) (h : HP) : Option (HP) :=
  gd 0 (sg_N q0) (
  nm (ld h q0 0) (fun v3 =>
  gd (1 + v3) (sg_N q0) (
  nm (st h q0 (1 + v3) x1) (fun h11 =>
  gd (11 + v3) (sg_N q0) (
  nm (st h11 q0 (11 + v3) x2) (fun h19 =>
  gd (21 + v3) (sg_N q0) (
  nm (st h19 q0 (21 + v3) x3) (fun h27 =>
  gd 0 (sg_N q0) (
  gd 0 (sg_N q0) (
  nm (st h27 q0 0 ((ld h27 q0 0) + 1)) (fun h34 =>
  some h34)))))))))))
-- X9_bear
def F_X9_bear (a : Nat) (x1 : Int32) (x2 : Int32) (x3 : Int32) (h : HP) : Option (Int32 × HP) :=
  cl (F_X9_isBearer a x1 h) (fun p2 =>
  (if p2 = 0 then
  some ((-1), h)
  else
  cl (F_X9_in (x2.toInt64) 0 119) (fun p14 =>
  (if p14 = 0 then
  some ((-1), h)
  else
  cl (F_X9_in (x3.toInt64) (x2.toInt64) 119) (fun p27 =>
  (if p27 = 0 then
  some ((-1), h)
  else
  (if (ld h (a + 3) 0) = 9 then
  some ((-3), h)
  else
  cl (F_X9_remember a h) (fun p50 =>
  cl (F_X9_adds (a + 3) x1 x2 x3 p50) (fun p60 =>
  some ((ld p60 (a + 3) 0), p60))))))))))
-- X9_leave
def F_X9_leave_J75 (a : Nat) (h : HP) : Option (Int32 × HP) :=
  nm (st h (a + 3) 0 ((ld h (a + 3) 0) - 1)) (fun h84 =>
  some ((ld h84 (a + 3) 0), h84))
def F_X9_leave_J69 (a : Nat) (rc16 : (Int32 × HP) → Option (Int32 × HP)) (x2 : Int32) (h : HP) : Option (Int32 × HP) :=
  rc16 ((x2 + 1), h)
def F_X9_leave_L30 (a : Nat) (rc16 : (Int32 × HP) → Option (Int32 × HP)) (x2 : Int32) : Nat → (Int32 × HP) → Option (Int32 × HP) :=
  lp (fun rc30 x =>
  (if 3 ≤ x.1 then
  F_X9_leave_J69 a rc16 x2 x.2
  else
  gd (((1 + (10 * x.1)) + x2) + 1) 31 (
  gd ((1 + (10 * x.1)) + x2) 31 (
  nm (st x.2 (a + 3) ((1 + (10 * x.1)) + x2) (ld x.2 (a + 3) (((1 + (10 * x.1)) + x2) + 1))) (fun h62 =>
  rc30 ((x.1 + 1), h62))))))
def F_X9_leave_L16 (a : Nat) : Nat → (Int32 × HP) → Option (Int32 × HP) :=
  lp (fun rc16 x =>
  (if ((ld x.2 (a + 3) 0) - 1) ≤ x.1 then
  F_X9_leave_J75 a x.2
  else
  F_X9_leave_L30 a rc16 x.1 sg_fuel (0, x.2)))
def F_X9_leave (a : Nat) (x1 : Int32) (h : HP) : Option (Int32 × HP) :=
  cl (F_X9_isTurn a x1 h) (fun p2 =>
  (if p2 = 0 then
  some ((-1), h)
  else
  cl (F_X9_remember a h) (fun p11 =>
  F_X9_leave_L16 a sg_fuel (x1, p11))))
-- X9_undo
def F_X9_undo (a : Nat) (h : HP) : Option (Int32 × HP) :=
  (if (h.1 a 5) = 0 then
  some ((-2), h)
  else
  nm (ui h a 5 ((h.1 a 5) - 1)) (fun h17 =>
  cl (F_X9_copies (a + 5) (31 * (h17.1 a 5)) (a + 3) 0 h17) (fun p36 =>
  some ((p36.1 a 5), p36))))
-- X9_best
def F_X9_best_J145 (a : Nat) (x2 : Int32) (x3 : Int32) (x4 : Int32) (h : HP) : Option (Int32 × HP) :=
  (if x4 = (-4) then
  some (x4, h)
  else
  (if x2 = 0 then
  some (x4, h)
  else
  some (x3, h)))
def F_X9_best_J139 (a : Nat) (rc48 : (Int32 × Int32 × Int32 × HP) → Option (Int32 × HP)) (x1 : Int32) (x2 : Int32) (x3 : Int32) (x4 : Int32) (x5 : Int32) (x6 : Int32) (h : HP) : Option (Int32 × HP) :=
  rc48 (x3, x4, (x6 + 1), h)
def F_X9_best_J132 (a : Nat) (rc48 : (Int32 × Int32 × Int32 × HP) → Option (Int32 × HP)) (rc59 : (Int32 × Int32 × Int32 × HP) → Option (Int32 × HP)) (x1 : Int32) (x2 : Int32) (x4 : Int32) (x5 : Int32) (x6 : Int32) (x7 : Int32) (s0 : Int32) (h : HP) : Option (Int32 × HP) :=
  rc59 (s0, x4, (x7 + 1), h)
def F_X9_best_J110 (a : Nat) (rc48 : (Int32 × Int32 × Int32 × HP) → Option (Int32 × HP)) (rc59 : (Int32 × Int32 × Int32 × HP) → Option (Int32 × HP)) (x1 : Int32) (x2 : Int32) (x3 : Int32) (x5 : Int32) (x6 : Int32) (x7 : Int32) (s0 : Int32) (h : HP) : Option (Int32 × HP) :=
  gd x1 6 (
  (if (ld h (a + 13) x1) ≤ x3 then
  F_X9_best_J132 a rc48 rc59 x1 x2 s0 x5 x6 x7 x3 h
  else
  gd x1 6 (
  F_X9_best_J132 a rc48 rc59 x1 x2 s0 x5 x6 x7 (ld h (a + 13) x1) h)))
def F_X9_best_L59 (a : Nat) (rc48 : (Int32 × Int32 × Int32 × HP) → Option (Int32 × HP)) (x1 : Int32) (x2 : Int32) (x5 : Int32) (x6 : Int32) : Nat → (Int32 × Int32 × Int32 × HP) → Option (Int32 × HP) :=
  lp (fun rc59 x =>
  (if x5 ≤ x.2.2.1 then
  F_X9_best_J139 a rc48 x1 x2 x.1 x.2.1 x5 x6 x.2.2.2
  else
  cl (F_X9_asItIs a x.2.2.2) (fun p67 =>
  cl (F_X9_adds (a + 11) x1 x6 x.2.2.1 p67) (fun p79 =>
  cl (F_X9_goesUp a p79) (fun p83 =>
  gd x1 6 (
  (if (ld p83 (a + 13) x1) ≤ x.1 then
  F_X9_best_J110 a rc48 rc59 x1 x2 x.1 x5 x6 x.2.2.1 x.2.1 p83
  else
  F_X9_best_J110 a rc48 rc59 x1 x2 x.1 x5 x6 x.2.2.1 ((200 * x6) + x.2.2.1) p83)))))))
def F_X9_best_L48 (a : Nat) (x1 : Int32) (x2 : Int32) (x5 : Int32) : Nat → (Int32 × Int32 × Int32 × HP) → Option (Int32 × HP) :=
  lp (fun rc48 x =>
  (if x5 ≤ x.2.2.1 then
  F_X9_best_J145 a x2 x.1 x.2.1 x.2.2.2
  else
  F_X9_best_L59 a rc48 x1 x2 x5 x.2.2.1 sg_fuel (x.1, x.2.1, x.2.2.1, x.2.2.2)))
def F_X9_best (a : Nat) (x1 : Int32) (x2 : Int32) (h : HP) : Option (Int32 × HP) :=
  cl (F_X9_isBearer a x1 h) (fun p2 =>
  (if p2 = 0 then
  some ((-1), h)
  else
  cl (F_X9_isTwo x2) (fun p9 =>
  (if p9 = 0 then
  some ((-1), h)
  else
  cl (F_X9_asItIs a h) (fun p18 =>
  cl (F_X9_goesUp a p18) (fun p22 =>
  gd x1 6 (
  nm (ld p22 (a + 13) x1) (fun v31 =>
  cl (F_X9_yardsOf (a + 1) p22) (fun p40 =>
  F_X9_best_L48 a x1 x2 p40 sg_fuel (v31, (-4), 0, p22))))))))))
-- X9_safe
def F_X9_safe_L2 (a : Nat) : Nat → (Int32 × HP) → Option (Int32 × HP) :=
  lp (fun rc2 x =>
  (if (ld x.2 (a + 1) 1) ≤ x.1 then
  some ((-4), x.2)
  else
  cl (F_X9_asItIs a x.2) (fun p13 =>
  nm (ui p13 a 16 x.1) (fun h18 =>
  cl (F_X9_goesUp a h18) (fun p22 =>
  (if (p22.1 a 23) = (-4) then
  rc2 ((x.1 + 1), p22)
  else
  some (x.1, p22)))))))
def F_X9_safe (a : Nat) (h : HP) : Option (Int32 × HP) :=
  F_X9_safe_L2 a sg_fuel (0, h)
-- X9_needed
def F_X9_needed_J110 (a : Nat) (rc5 : (Int32 × Int32 × HP) → Option (Int32 × HP)) (x2 : Int32) (s0 : Int32) (h : HP) : Option (Int32 × HP) :=
  rc5 (s0, (x2 + 1), h)
def F_X9_needed_J109 (a : Nat) (rc5 : (Int32 × Int32 × HP) → Option (Int32 × HP)) (x1 : Int32) (x2 : Int32) (h : HP) : Option (Int32 × HP) :=
  F_X9_needed_J110 a rc5 x2 x1 h
def F_X9_needed_J91 (a : Nat) (rc5 : (Int32 × Int32 × HP) → Option (Int32 × HP)) (x1 : Int32) (x2 : Int32) (s0 : Int32) (h : HP) : Option (Int32 × HP) :=
  (if (h.1 a 23) = (-4) then
  (if s0 = 0 then
  F_X9_needed_J109 a rc5 x1 x2 h
  else
  F_X9_needed_J110 a rc5 x2 x2 h)
  else
  F_X9_needed_J109 a rc5 x1 x2 h)
def F_X9_needed_J86 (a : Nat) (rc5 : (Int32 × Int32 × HP) → Option (Int32 × HP)) (x1 : Int32) (x2 : Int32) (h : HP) : Option (Int32 × HP) :=
  F_X9_needed_J91 a rc5 x1 x2 1 h
def F_X9_needed_J65 (a : Nat) (rc5 : (Int32 × Int32 × HP) → Option (Int32 × HP)) (x1 : Int32) (x2 : Int32) (h : HP) : Option (Int32 × HP) :=
  cl (F_X9_goesUp a h) (fun p66 =>
  (if x1 = (-4) then
  F_X9_needed_J86 a rc5 x1 x2 p66
  else
  cl (F_X9_bits x2) (fun p76 =>
  cl (F_X9_bits x1) (fun p80 =>
  (if p80 ≤ p76 then
  F_X9_needed_J91 a rc5 x1 x2 0 p66
  else
  F_X9_needed_J86 a rc5 x1 x2 p66)))))
def F_X9_needed_J59 (a : Nat) (rc5 : (Int32 × Int32 × HP) → Option (Int32 × HP)) (rc30 : (Int32 × HP) → Option (Int32 × HP)) (x1 : Int32) (x2 : Int32) (x3 : Int32) (h : HP) : Option (Int32 × HP) :=
  rc30 ((x3 + 1), h)
def F_X9_needed_L30 (a : Nat) (rc5 : (Int32 × Int32 × HP) → Option (Int32 × HP)) (x1 : Int32) (x2 : Int32) : Nat → (Int32 × HP) → Option (Int32 × HP) :=
  lp (fun rc30 x =>
  (if (ld x.2 (a + 1) 1) ≤ x.1 then
  F_X9_needed_J65 a rc5 x1 x2 x.2
  else
  cl (F_X9_has x2 x.1) (fun p42 =>
  (if p42 = 0 then
  F_X9_needed_J59 a rc5 rc30 x1 x2 x.1 x.2
  else
  cl (F_X9_adds (a + 11) x.1 0 119 x.2) (fun p56 =>
  F_X9_needed_J59 a rc5 rc30 x1 x2 x.1 p56)))))
def F_X9_needed_L5 (a : Nat) : Nat → (Int32 × Int32 × HP) → Option (Int32 × HP) :=
  lp (fun rc5 x =>
  (if (1 <<< ((ld x.2.2 (a + 1) 1) &&& 31)) ≤ x.2.1 then
  some (x.1, x.2.2)
  else
  cl (F_X9_asItIs a x.2.2) (fun p18 =>
  nm (st p18 (a + 11) 0 0) (fun h27 =>
  F_X9_needed_L30 a rc5 x.1 x.2.1 sg_fuel (0, h27)))))
def F_X9_needed (a : Nat) (h : HP) : Option (Int32 × HP) :=
  F_X9_needed_L5 a sg_fuel ((-4), 0, h)
-- X9_layOrder
def F_X9_layOrder_J58 (a : Nat) (x2 : Int32) (x4 : Int32) (h : HP) : Option (Int32 × HP) :=
  (if x4 = ((1 <<< (x2 &&& 31)) - 1) then
  some (1, h)
  else
  some (0, h))
def F_X9_layOrder_L17 (a : Nat) (x2 : Int32) : Nat → (Int32 × Int32 × Int32 × HP) → Option (Int32 × HP) :=
  lp (fun rc17 x =>
  (if x.2.2.1 < 0 then
  F_X9_layOrder_J58 a x2 x.2.1 x.2.2.2
  else
  gd x.2.2.1 6 (
  nm (st x.2.2.2 (a + 17) x.2.2.1 (x.1 - x.1 / 6 * 6)) (fun h32 =>
  nm (x.1 / 6) (fun v37 =>
  gd x.2.2.1 6 (
  nm (x.2.1 ||| (1 <<< ((ld h32 (a + 17) x.2.2.1) &&& 31))) (fun v50 =>
  rc17 (v37, v50, (x.2.2.1 + (-1)), h32))))))))
def F_X9_layOrder (a : Nat) (x1 : Int32) (h : HP) : Option (Int32 × HP) :=
  nm (ld h (a + 1) 1) (fun v6 =>
  nm (v6 - 1) (fun v15 =>
  F_X9_layOrder_L17 a v6 sg_fuel (x1, 0, v15, h)))
-- X9_comesTo
def F_X9_comesTo_J152 (a : Nat) (rc14 : (Int32 × Int32) → Option (Int32)) (x1 : Int32) (x2 : Int32) (x3 : Int32) (x4 : Int32) (x5 : Int32) (h : HP) : Option (Int32) :=
  rc14 (x4, (x5 + 1))
def F_X9_comesTo_J146 (a : Nat) (rc14 : (Int32 × Int32) → Option (Int32)) (rc61 : (Int32 × Int32 × Int32) → Option (Int32)) (x1 : Int32) (x2 : Int32) (x3 : Int32) (x5 : Int32) (x6 : Int32) (x7 : Int32) (x8 : Int32) (s0 : Int32) (s1 : Int32) (h : HP) : Option (Int32) :=
  nm (s1 + s0) (fun v147 =>
  rc61 (v147, x7, x8))
def F_X9_comesTo_J125 (a : Nat) (rc14 : (Int32 × Int32) → Option (Int32)) (rc61 : (Int32 × Int32 × Int32) → Option (Int32)) (x1 : Int32) (x2 : Int32) (x3 : Int32) (x4 : Int32) (x5 : Int32) (x6 : Int32) (x7 : Int32) (x9 : Int32) (s0 : Int32) (h : HP) : Option (Int32) :=
  nm (x7 - x9) (fun v132 =>
  (if s0 = 0 then
  F_X9_comesTo_J146 a rc14 rc61 x1 x2 x3 x5 x6 v132 s0 0 x4 h
  else
  F_X9_comesTo_J146 a rc14 rc61 x1 x2 x3 x5 x6 v132 s0 1 x4 h))
def F_X9_comesTo_L61 (a : Nat) (rc14 : (Int32 × Int32) → Option (Int32)) (x1 : Int32) (x2 : Int32) (x3 : Int32) (x5 : Int32) (x6 : Int32) (h : HP) : Nat → (Int32 × Int32 × Int32) → Option (Int32) :=
  lp (fun rc61 x =>
  (if x3 ≤ x.1 then
  F_X9_comesTo_J152 a rc14 x1 x2 x3 x.1 x5 h
  else
  (if x.2.2 = 0 then
  F_X9_comesTo_J152 a rc14 x1 x2 x3 x.1 x5 h
  else
  cl (F_X9_stretchAt (a + 1) x.1 h) (fun p95 =>
  gd (10 + p95) 34 (
  cl (F_X9_cost (a + 1) x6 (1 <<< (x6 &&& 31)) ((1 + (ld h (a + 1) (10 + p95))) + (ld h (a + 1) 3)) h) (fun p108 =>
  (if x.2.1 < p108 then
  F_X9_comesTo_J125 a rc14 rc61 x1 x2 x3 x.1 x5 x6 x.2.1 p108 0 h
  else
  F_X9_comesTo_J125 a rc14 rc61 x1 x2 x3 x.1 x5 x6 x.2.1 p108 1 h)))))))
def F_X9_comesTo_J55 (a : Nat) (rc14 : (Int32 × Int32) → Option (Int32)) (x1 : Int32) (x2 : Int32) (x3 : Int32) (x4 : Int32) (x5 : Int32) (x6 : Int32) (s0 : Int32) (s1 : Int32) (h : HP) : Option (Int32) :=
  nm (s1 + s0) (fun v56 =>
  F_X9_comesTo_L61 a rc14 x1 x2 x3 x5 x6 h sg_fuel (x4, v56, 1))
def F_X9_comesTo_L14 (a : Nat) (x1 : Int32) (x2 : Int32) (x3 : Int32) (h : HP) : Nat → (Int32 × Int32) → Option (Int32) :=
  lp (fun rc14 x =>
  (if (ld h (a + 1) 1) ≤ x.2 then
  some x.1
  else
  gd x.2 6 (
  nm (ld h (a + 17) x.2) (fun v32 =>
  gd (22 + v32) 34 (
  (if v32 = x1 then
  F_X9_comesTo_J55 a rc14 x1 x2 x3 x.1 x.2 v32 x2 (ld h (a + 1) (22 + v32)) h
  else
  F_X9_comesTo_J55 a rc14 x1 x2 x3 x.1 x.2 v32 0 (ld h (a + 1) (22 + v32)) h))))))
def F_X9_comesTo (a : Nat) (x1 : Int32) (x2 : Int32) (h : HP) : Option (Int32) :=
  cl (F_X9_yardsOf (a + 1) h) (fun p4 =>
  F_X9_comesTo_L14 a x1 x2 p4 h sg_fuel (0, 0))
-- X9_layFarthest
def F_X9_layFarthest_J111 (a : Nat) (rc35 : (Int32 × Int32 × HP) → Option (Int32 × HP)) (x1 : Int32) (x2 : Int32) (x4 : Int32) (x5 : Int32) (s0 : Int32) (h : HP) : Option (Int32 × HP) :=
  rc35 (s0, (x5 + 1), h)
def F_X9_layFarthest_J99 (a : Nat) (rc35 : (Int32 × Int32 × HP) → Option (Int32 × HP)) (x1 : Int32) (x2 : Int32) (x3 : Int32) (x4 : Int32) (x5 : Int32) (x6 : Int32) (h : HP) : Option (Int32 × HP) :=
  (if x6 ≤ x3 then
  F_X9_layFarthest_J111 a rc35 x1 x2 x4 x5 x3 h
  else
  F_X9_layFarthest_J111 a rc35 x1 x2 x4 x5 x6 h)
def F_X9_layFarthest_L66 (a : Nat) (rc35 : (Int32 × Int32 × HP) → Option (Int32 × HP)) (x1 : Int32) (x2 : Int32) (x3 : Int32) (x4 : Int32) (x5 : Int32) (x6 : Int32) : Nat → (Int32 × HP) → Option (Int32 × HP) :=
  lp (fun rc66 x =>
  (if 6 ≤ x.1 then
  F_X9_layFarthest_J99 a rc35 x1 x2 x3 x4 x5 x6 x.2
  else
  (if x6 ≤ x3 then
  F_X9_layFarthest_J99 a rc35 x1 x2 x3 x4 x5 x6 x.2
  else
  gd x.1 6 (
  gd x.1 6 (
  nm (st x.2 (a + 18) x.1 (ld x.2 (a + 17) x.1)) (fun h92 =>
  rc66 ((x.1 + 1), h92)))))))
def F_X9_layFarthest_J61 (a : Nat) (rc35 : (Int32 × Int32 × HP) → Option (Int32 × HP)) (x1 : Int32) (x2 : Int32) (x3 : Int32) (x4 : Int32) (x5 : Int32) (s0 : Int32) (h : HP) : Option (Int32 × HP) :=
  F_X9_layFarthest_L66 a rc35 x1 x2 x3 x4 x5 s0 sg_fuel (0, h)
def F_X9_layFarthest_L35 (a : Nat) (x1 : Int32) (x2 : Int32) (x4 : Int32) : Nat → (Int32 × Int32 × HP) → Option (Int32 × HP) :=
  lp (fun rc35 x =>
  (if x4 ≤ x.2.1 then
  some (x.1, x.2.2)
  else
  cl (F_X9_layOrder a x.2.1 x.2.2) (fun p45 =>
  (if p45.1 = 0 then
  F_X9_layFarthest_J61 a rc35 x1 x2 x.1 x4 x.2.1 (-1) p45.2
  else
  cl (F_X9_comesTo a x1 x2 p45.2) (fun p54 =>
  F_X9_layFarthest_J61 a rc35 x1 x2 x.1 x4 x.2.1 p54 p45.2)))))
def F_X9_layFarthest_J32 (a : Nat) (x1 : Int32) (x2 : Int32) (x3 : Int32) (x4 : Int32) (h : HP) : Option (Int32 × HP) :=
  F_X9_layFarthest_L35 a x1 x2 x4 sg_fuel (x3, 0, h)
def F_X9_layFarthest_L8 (a : Nat) (x1 : Int32) (x2 : Int32) (x3 : Int32) (h : HP) : Nat → (Int32 × Int32) → Option (Int32 × HP) :=
  lp (fun rc8 x =>
  (if (ld h (a + 1) 1) ≤ x.2 then
  F_X9_layFarthest_J32 a x1 x2 x3 x.1 h
  else
  nm (x.1 * 6) (fun v24 =>
  rc8 (v24, (x.2 + 1)))))
def F_X9_layFarthest (a : Nat) (x1 : Int32) (x2 : Int32) (h : HP) : Option (Int32 × HP) :=
  F_X9_layFarthest_L8 a x1 x2 (-1) h sg_fuel (1, 0)
-- X9_far
def F_X9_far (a : Nat) (x1 : Int32) (h : HP) : Option (Int32 × HP) :=
  cl (F_X9_in (x1.toInt64) (-1) (((ld h (a + 1) 1) - 1).toInt64)) (fun p14 =>
  (if p14 = 0 then
  some ((-1), h)
  else
  cl (F_X9_layFarthest a (-1) 0 h) (fun p25 =>
  (if 0 ≤ x1 then
  gd x1 6 (
  some ((ld p25.2 (a + 18) x1), p25.2))
  else
  some (p25.1, p25.2)))))
-- X9_son
def F_X9_son (a : Nat) (x1 : Int32) (x2 : Int32) (h : HP) : Option (Int32 × HP) :=
  cl (F_X9_isBearer a x1 h) (fun p2 =>
  (if p2 = 0 then
  some ((-1), h)
  else
  cl (F_X9_in (x2.toInt64) 0 99) (fun p14 =>
  (if p14 = 0 then
  some ((-1), h)
  else
  cl (F_X9_layFarthest a x1 x2 h) (fun p25 =>
  cl (F_X9_layFarthest a (-1) 0 p25.2) (fun p31 =>
  some ((p25.1 - p31.1), p31.2)))))))
-- X9_cairn
def F_X9_cairn (a : Nat) (x1 : Int32) (x2 : Int32) (x3 : Int32) (h : HP) : Option (Int32 × HP) :=
  cl (F_X9_isBearer a x1 h) (fun p2 =>
  (if p2 = 0 then
  some ((-1), h)
  else
  cl (F_X9_in (x2.toInt64) 0 (((ld h (a + 1) 0) - 1).toInt64)) (fun p20 =>
  (if p20 = 0 then
  some ((-1), h)
  else
  cl (F_X9_in (x3.toInt64) (-9) 9) (fun p34 =>
  (if p34 = 0 then
  some ((-1), h)
  else
  (if x3 = 0 then
  some ((-1), h)
  else
  (if x2 = ((ld h (a + 1) 0) - 1) then
  some ((-2), h)
  else
  gd (4 + x2) 34 (
  (if ((ld h (a + 1) (4 + x2)) + x3) < 1 then
  some ((-2), h)
  else
  gd ((4 + x2) + 1) 34 (
  (if 1 ≤ ((ld h (a + 1) ((4 + x2) + 1)) - x3) then
  cl (F_X9_asItIs a h) (fun p92 =>
  cl (F_X9_goesUp a p92) (fun p96 =>
  gd x1 6 (
  nm (ld p96 (a + 13) x1) (fun v105 =>
  cl (F_X9_asItIs a p96) (fun p108 =>
  gd (4 + x2) 34 (
  gd (4 + x2) 34 (
  nm (st p108 (a + 10) (4 + x2) ((ld p108 (a + 10) (4 + x2)) + x3)) (fun h122 =>
  gd ((4 + x2) + 1) 34 (
  gd ((4 + x2) + 1) 34 (
  nm (st h122 (a + 10) ((4 + x2) + 1) ((ld h122 (a + 10) ((4 + x2) + 1)) - x3)) (fun h136 =>
  cl (F_X9_goesUp a h136) (fun p138 =>
  gd x1 6 (
  some ((((ld p138 (a + 13) x1) - v105) + 9999), p138))))))))))))))
  else
  some ((-2), h)))))))))))))
-- X9_heirBy
def F_X9_heirBy_J92 (a : Nat) (rc7 : (Int32 × Int32 × Int32) → Option (Int32)) (x1 : Int32) (x2 : Int32) (x4 : Int32) (s0 : Int32) (h : HP) : Option (Int32) :=
  rc7 (x2, s0, (x4 + 1))
def F_X9_heirBy_J79 (a : Nat) (rc7 : (Int32 × Int32 × Int32) → Option (Int32)) (x1 : Int32) (x3 : Int32) (x4 : Int32) (x5 : Int32) (s0 : Int32) (h : HP) : Option (Int32) :=
  (if x5 ≤ x3 then
  F_X9_heirBy_J92 a rc7 x1 s0 x4 x3 h
  else
  F_X9_heirBy_J92 a rc7 x1 s0 x4 x5 h)
def F_X9_heirBy_J65 (a : Nat) (rc7 : (Int32 × Int32 × Int32) → Option (Int32)) (x1 : Int32) (x2 : Int32) (x3 : Int32) (x4 : Int32) (s0 : Int32) (h : HP) : Option (Int32) :=
  (if s0 ≤ x3 then
  F_X9_heirBy_J79 a rc7 x1 x3 x4 s0 x2 h
  else
  F_X9_heirBy_J79 a rc7 x1 x3 x4 s0 x4 h)
def F_X9_heirBy_L7 (a : Nat) (x1 : Int32) (h : HP) : Nat → (Int32 × Int32 × Int32) → Option (Int32) :=
  lp (fun rc7 x =>
  (if (ld h (a + 1) 1) ≤ x.2.2 then
  some x.1
  else
  (if x1 = 0 then
  gd x.2.2 6 (
  F_X9_heirBy_J65 a rc7 x1 x.1 x.2.1 x.2.2 (ld h (a + 13) x.2.2) h)
  else
  (if x1 = 1 then
  gd x.2.2 6 (
  F_X9_heirBy_J65 a rc7 x1 x.1 x.2.1 x.2.2 (ld h (a + 15) x.2.2) h)
  else
  gd (22 + x.2.2) 34 (
  gd x.2.2 6 (
  F_X9_heirBy_J65 a rc7 x1 x.1 x.2.1 x.2.2 ((ld h (a + 1) (22 + x.2.2)) - (ld h (a + 12) x.2.2)) h))))))
def F_X9_heirBy (a : Nat) (x1 : Int32) (h : HP) : Option (Int32) :=
  F_X9_heirBy_L7 a x1 h sg_fuel (0, (-1), 0)
-- X9_heir
def F_X9_heir (a : Nat) (x1 : Int32) (h : HP) : Option (Int32 × HP) :=
  cl (F_X9_in (x1.toInt64) 0 2) (fun p6 =>
  (if p6 = 0 then
  some ((-1), h)
  else
  cl (F_X9_asItIs a h) (fun p15 =>
  cl (F_X9_goesUp a p15) (fun p19 =>
  cl (F_X9_heirBy a x1 p19) (fun p24 =>
  some (p24, p19))))))
-- X9_layChoice
def F_X9_layChoice_J226 (a : Nat) (x3 : Int32) (x4 : Int32) (x5 : Int32) (x6 : Int32) (h : HP) : Option (HP) :=
  gd ((6 * x3) + x4) 36 (
  nm (st h (a + 19) ((6 * x3) + x4) x5) (fun h239 =>
  gd ((6 * x3) + x4) 36 (
  nm (st h239 (a + 20) ((6 * x3) + x4) x6) (fun h253 =>
  some h253))))
def F_X9_layChoice_J220 (a : Nat) (rc17 : (Int32 × Int32 × Int32 × HP) → Option (HP)) (x1 : Int32) (x2 : Int32) (x3 : Int32) (x4 : Int32) (x5 : Int32) (x6 : Int32) (x7 : Int32) (h : HP) : Option (HP) :=
  rc17 (x5, x6, (x7 + 1), h)
def F_X9_layChoice_J214 (a : Nat) (rc17 : (Int32 × Int32 × Int32 × HP) → Option (HP)) (rc102 : (Int32 × Int32 × Int32 × HP) → Option (HP)) (x1 : Int32) (x2 : Int32) (x3 : Int32) (x4 : Int32) (x5 : Int32) (x6 : Int32) (x7 : Int32) (x8 : Int32) (x9 : Int32) (x10 : Int32) (x11 : Int32) (h : HP) : Option (HP) :=
  rc102 (x5, x6, (x11 + 1), h)
def F_X9_layChoice_J211 (a : Nat) (rc17 : (Int32 × Int32 × Int32 × HP) → Option (HP)) (rc102 : (Int32 × Int32 × Int32 × HP) → Option (HP)) (x1 : Int32) (x2 : Int32) (x3 : Int32) (x4 : Int32) (x5 : Int32) (x7 : Int32) (x8 : Int32) (x9 : Int32) (x10 : Int32) (x11 : Int32) (s0 : Int32) (s1 : Int32) (h : HP) : Option (HP) :=
  nm (s1 + s0) (fun v212 =>
  F_X9_layChoice_J214 a rc17 rc102 x1 x2 x3 x4 x5 v212 x7 x8 x9 x10 x11 h)
def F_X9_layChoice_J185 (a : Nat) (rc17 : (Int32 × Int32 × Int32 × HP) → Option (HP)) (rc102 : (Int32 × Int32 × Int32 × HP) → Option (HP)) (x1 : Int32) (x2 : Int32) (x3 : Int32) (x4 : Int32) (x6 : Int32) (x7 : Int32) (x8 : Int32) (x9 : Int32) (x10 : Int32) (x11 : Int32) (x13 : Int32) (s0 : Int32) (s1 : Int32) (h : HP) : Option (HP) :=
  nm (s1 + s0) (fun v186 =>
  cl (F_X9_has x13 x2) (fun p193 =>
  (if p193 = 0 then
  F_X9_layChoice_J211 a rc17 rc102 x1 x2 x3 x4 v186 x7 x8 x9 x10 x11 0 x6 h
  else
  cl (F_X9_bits x13) (fun p203 =>
  gz p203 (
  F_X9_layChoice_J211 a rc17 rc102 x1 x2 x3 x4 v186 x7 x8 x9 x10 x11 (60 / p203) x6 h)))))
def F_X9_layChoice_J143 (a : Nat) (rc17 : (Int32 × Int32 × Int32 × HP) → Option (HP)) (rc102 : (Int32 × Int32 × Int32 × HP) → Option (HP)) (x1 : Int32) (x2 : Int32) (x3 : Int32) (x4 : Int32) (x5 : Int32) (x6 : Int32) (x7 : Int32) (x8 : Int32) (x9 : Int32) (x10 : Int32) (x11 : Int32) (x12 : Int32) (s0 : Int32) (h : HP) : Option (HP) :=
  (if s0 = 0 then
  F_X9_layChoice_J214 a rc17 rc102 x1 x2 x3 x4 x5 x6 x7 x8 x9 x10 x11 h
  else
  cl (F_X9_pays a s0 x12 x10 60 h) (fun p159 =>
  cl (F_X9_has s0 x1) (fun p167 =>
  (if p167 = 0 then
  F_X9_layChoice_J185 a rc17 rc102 x1 x2 x3 x4 x6 x7 x8 x9 x10 x11 s0 0 x5 p159
  else
  cl (F_X9_bits s0) (fun p177 =>
  gz p177 (
  F_X9_layChoice_J185 a rc17 rc102 x1 x2 x3 x4 x6 x7 x8 x9 x10 x11 s0 (60 / p177) x5 p159))))))
def F_X9_layChoice_L102 (a : Nat) (rc17 : (Int32 × Int32 × Int32 × HP) → Option (HP)) (x1 : Int32) (x2 : Int32) (x3 : Int32) (x4 : Int32) (x7 : Int32) (x8 : Int32) (x9 : Int32) (x10 : Int32) : Nat → (Int32 × Int32 × Int32 × HP) → Option (HP) :=
  lp (fun rc102 x =>
  gd (4 + x8) 34 (
  (if (ld x.2.2.2 (a + 10) (4 + x8)) ≤ x.2.2.1 then
  F_X9_layChoice_J220 a rc17 x1 x2 x3 x4 x.1 x.2.1 x7 x.2.2.2
  else
  cl (F_X9_unfallen a x9 x.2.2.2) (fun p119 =>
  (if p119 = 0 then
  F_X9_layChoice_J143 a rc17 rc102 x1 x2 x3 x4 x.1 x.2.1 x7 x8 x9 x10 x.2.2.1 p119 0 x.2.2.2
  else
  cl (F_X9_bears a x.2.2.1 p119 x10 x.2.2.2) (fun p140 =>
  F_X9_layChoice_J143 a rc17 rc102 x1 x2 x3 x4 x.1 x.2.1 x7 x8 x9 x10 x.2.2.1 p119 p140.1 p140.2))))))
def F_X9_layChoice_J76 (a : Nat) (rc17 : (Int32 × Int32 × Int32 × HP) → Option (HP)) (x1 : Int32) (x2 : Int32) (x3 : Int32) (x4 : Int32) (x5 : Int32) (x6 : Int32) (x7 : Int32) (x8 : Int32) (s0 : Int32) (h : HP) : Option (HP) :=
  gd (10 + x8) 34 (
  nm ((1 + (ld h (a + 10) (10 + x8))) + (ld h (a + 10) 3)) (fun v97 =>
  F_X9_layChoice_L102 a rc17 x1 x2 x3 x4 x7 x8 s0 v97 sg_fuel (x5, x6, 0, h)))
def F_X9_layChoice_J44 (a : Nat) (rc17 : (Int32 × Int32 × Int32 × HP) → Option (HP)) (x1 : Int32) (x2 : Int32) (x3 : Int32) (x4 : Int32) (x5 : Int32) (x6 : Int32) (x7 : Int32) (s0 : Int32) (h : HP) : Option (HP) :=
  (if x3 = x4 then
  F_X9_layChoice_J76 a rc17 x1 x2 x3 x4 x5 x6 x7 s0 ((1 <<< (x1 &&& 31)) ||| (1 <<< (x2 &&& 31))) h
  else
  (if x7 = 0 then
  F_X9_layChoice_J76 a rc17 x1 x2 x3 x4 x5 x6 x7 s0 (1 <<< (x1 &&& 31)) h
  else
  F_X9_layChoice_J76 a rc17 x1 x2 x3 x4 x5 x6 x7 s0 (1 <<< (x2 &&& 31)) h))
def F_X9_layChoice_J30 (a : Nat) (rc17 : (Int32 × Int32 × Int32 × HP) → Option (HP)) (x1 : Int32) (x2 : Int32) (x3 : Int32) (x4 : Int32) (x5 : Int32) (x6 : Int32) (x7 : Int32) (s0 : Int32) (s1 : Int32) (h : HP) : Option (HP) :=
  (if s0 ≤ s1 then
  F_X9_layChoice_J226 a x3 x4 x5 x6 h
  else
  (if x7 = 0 then
  F_X9_layChoice_J44 a rc17 x1 x2 x3 x4 x5 x6 x7 x3 h
  else
  F_X9_layChoice_J44 a rc17 x1 x2 x3 x4 x5 x6 x7 x4 h))
def F_X9_layChoice_L17 (a : Nat) (x1 : Int32) (x2 : Int32) (x3 : Int32) (x4 : Int32) : Nat → (Int32 × Int32 × Int32 × HP) → Option (HP) :=
  lp (fun rc17 x =>
  (if x3 = x4 then
  F_X9_layChoice_J30 a rc17 x1 x2 x3 x4 x.1 x.2.1 x.2.2.1 1 x.2.2.1 x.2.2.2
  else
  F_X9_layChoice_J30 a rc17 x1 x2 x3 x4 x.1 x.2.1 x.2.2.1 2 x.2.2.1 x.2.2.2))
def F_X9_layChoice (a : Nat) (x1 : Int32) (x2 : Int32) (x3 : Int32) (x4 : Int32) (h : HP) : Option (HP) :=
  cl (F_X9_asItIs a h) (fun p1 =>
  cl (F_X9_startsUp a p1) (fun p5 =>
  F_X9_layChoice_L17 a x1 x2 x3 x4 sg_fuel (0, 0, 0, p5)))
-- X9_rests
def F_X9_rests_J245 (a : Nat) (x3 : Int32) (x5 : Int32) (x6 : Int32) (h : HP) : Option (Int32 × HP) :=
  (if x3 = 0 then
  some (x5, h)
  else
  some (x6, h))
def F_X9_rests_J239 (a : Nat) (rc93 : (Int32 × Int32 × Int32) → Option (Int32 × HP)) (x3 : Int32) (x4 : Int32) (x5 : Int32) (x6 : Int32) (x7 : Int32) (h : HP) : Option (Int32 × HP) :=
  rc93 (x5, x6, (x7 + (-1)))
def F_X9_rests_J231 (a : Nat) (rc93 : (Int32 × Int32 × Int32) → Option (Int32 × HP)) (rc104 : (Int32 × Int32 × Int32) → Option (Int32 × HP)) (x3 : Int32) (x4 : Int32) (x5 : Int32) (x7 : Int32) (x8 : Int32) (s0 : Int32) (h : HP) : Option (Int32 × HP) :=
  rc104 (x5, s0, (x8 + (-1)))
def F_X9_rests_J210 (a : Nat) (rc93 : (Int32 × Int32 × Int32) → Option (Int32 × HP)) (rc104 : (Int32 × Int32 × Int32) → Option (Int32 × HP)) (x3 : Int32) (x4 : Int32) (x6 : Int32) (x7 : Int32) (x8 : Int32) (x9 : Int32) (s0 : Int32) (s1 : Int32) (h : HP) : Option (Int32 × HP) :=
  nm (s1 + s0) (fun v211 =>
  (if x9 = 0 then
  F_X9_rests_J231 a rc93 rc104 x3 x4 v211 x7 x8 x6 h
  else
  F_X9_rests_J231 a rc93 rc104 x3 x4 v211 x7 x8 ((8 * x7) + x8) h))
def F_X9_rests_J198 (a : Nat) (rc93 : (Int32 × Int32 × Int32) → Option (Int32 × HP)) (rc104 : (Int32 × Int32 × Int32) → Option (Int32 × HP)) (x3 : Int32) (x4 : Int32) (x5 : Int32) (x6 : Int32) (x7 : Int32) (x8 : Int32) (x9 : Int32) (h : HP) : Option (Int32 × HP) :=
  (if x9 = 0 then
  F_X9_rests_J210 a rc93 rc104 x3 x4 x6 x7 x8 x9 0 x5 h
  else
  F_X9_rests_J210 a rc93 rc104 x3 x4 x6 x7 x8 x9 1 x5 h)
def F_X9_rests_J190 (a : Nat) (rc93 : (Int32 × Int32 × Int32) → Option (Int32 × HP)) (rc104 : (Int32 × Int32 × Int32) → Option (Int32 × HP)) (rc115 : (Int32 × Int32) → Option (Int32 × HP)) (x3 : Int32) (x4 : Int32) (x5 : Int32) (x6 : Int32) (x7 : Int32) (x8 : Int32) (x10 : Int32) (s0 : Int32) (h : HP) : Option (Int32 × HP) :=
  rc115 (s0, (x10 + 1))
def F_X9_rests_J189 (a : Nat) (rc93 : (Int32 × Int32 × Int32) → Option (Int32 × HP)) (rc104 : (Int32 × Int32 × Int32) → Option (Int32 × HP)) (rc115 : (Int32 × Int32) → Option (Int32 × HP)) (x3 : Int32) (x4 : Int32) (x5 : Int32) (x6 : Int32) (x7 : Int32) (x8 : Int32) (x10 : Int32) (h : HP) : Option (Int32 × HP) :=
  F_X9_rests_J190 a rc93 rc104 rc115 x3 x4 x5 x6 x7 x8 x10 0 h
def F_X9_rests_L115 (a : Nat) (rc93 : (Int32 × Int32 × Int32) → Option (Int32 × HP)) (rc104 : (Int32 × Int32 × Int32) → Option (Int32 × HP)) (x3 : Int32) (x4 : Int32) (x5 : Int32) (x6 : Int32) (x7 : Int32) (x8 : Int32) (h : HP) : Nat → (Int32 × Int32) → Option (Int32 × HP) :=
  lp (fun rc115 x =>
  (if x4 ≤ x.2 then
  F_X9_rests_J198 a rc93 rc104 x3 x4 x5 x6 x7 x8 x.1 h
  else
  (if x.1 = 0 then
  F_X9_rests_J189 a rc93 rc104 rc115 x3 x4 x5 x6 x7 x8 x.2 h
  else
  gd ((6 * x.2) + x8) 36 (
  gd ((6 * x7) + x8) 36 (
  (if (ld h (a + 19) ((6 * x7) + x8)) < (ld h (a + 19) ((6 * x.2) + x8)) then
  F_X9_rests_J189 a rc93 rc104 rc115 x3 x4 x5 x6 x7 x8 x.2 h
  else
  gd ((6 * x7) + x.2) 36 (
  gd ((6 * x7) + x8) 36 (
  (if (ld h (a + 20) ((6 * x7) + x8)) < (ld h (a + 20) ((6 * x7) + x.2)) then
  F_X9_rests_J189 a rc93 rc104 rc115 x3 x4 x5 x6 x7 x8 x.2 h
  else
  F_X9_rests_J190 a rc93 rc104 rc115 x3 x4 x5 x6 x7 x8 x.2 1 h)))))))))
def F_X9_rests_L104 (a : Nat) (rc93 : (Int32 × Int32 × Int32) → Option (Int32 × HP)) (x3 : Int32) (x4 : Int32) (x7 : Int32) (h : HP) : Nat → (Int32 × Int32 × Int32) → Option (Int32 × HP) :=
  lp (fun rc104 x =>
  (if x.2.2 < 0 then
  F_X9_rests_J239 a rc93 x3 x4 x.1 x.2.1 x7 h
  else
  F_X9_rests_L115 a rc93 rc104 x3 x4 x.1 x.2.1 x7 x.2.2 h sg_fuel (1, 0)))
def F_X9_rests_L93 (a : Nat) (x3 : Int32) (x4 : Int32) (h : HP) : Nat → (Int32 × Int32 × Int32) → Option (Int32 × HP) :=
  lp (fun rc93 x =>
  (if x.2.2 < 0 then
  F_X9_rests_J245 a x3 x.1 x.2.1 h
  else
  nm (x4 - 1) (fun v102 =>
  F_X9_rests_L104 a rc93 x3 x4 x.2.2 h sg_fuel (x.1, x.2.1, v102))))
def F_X9_rests_J80 (a : Nat) (x3 : Int32) (x4 : Int32) (h : HP) : Option (Int32 × HP) :=
  nm (x4 - 1) (fun v91 =>
  F_X9_rests_L93 a x3 x4 h sg_fuel (0, (-4), v91))
def F_X9_rests_J74 (a : Nat) (rc41 : (Int32 × HP) → Option (Int32 × HP)) (x1 : Int32) (x2 : Int32) (x3 : Int32) (x4 : Int32) (x5 : Int32) (h : HP) : Option (Int32 × HP) :=
  rc41 ((x5 + 1), h)
def F_X9_rests_L51 (a : Nat) (rc41 : (Int32 × HP) → Option (Int32 × HP)) (x1 : Int32) (x2 : Int32) (x3 : Int32) (x4 : Int32) (x5 : Int32) : Nat → (Int32 × HP) → Option (Int32 × HP) :=
  lp (fun rc51 x =>
  (if x4 ≤ x.1 then
  F_X9_rests_J74 a rc41 x1 x2 x3 x4 x5 x.2
  else
  cl (F_X9_layChoice a x1 x2 x5 x.1 x.2) (fun p65 =>
  rc51 ((x.1 + 1), p65))))
def F_X9_rests_L41 (a : Nat) (x1 : Int32) (x2 : Int32) (x3 : Int32) (x4 : Int32) : Nat → (Int32 × HP) → Option (Int32 × HP) :=
  lp (fun rc41 x =>
  (if x4 ≤ x.1 then
  F_X9_rests_J80 a x3 x4 x.2
  else
  F_X9_rests_L51 a rc41 x1 x2 x3 x4 x.1 sg_fuel (0, x.2)))
def F_X9_rests (a : Nat) (x1 : Int32) (x2 : Int32) (x3 : Int32) (h : HP) : Option (Int32 × HP) :=
  cl (F_X9_isBearer a x1 h) (fun p2 =>
  (if p2 = 0 then
  some ((-1), h)
  else
  cl (F_X9_isBearer a x2 h) (fun p10 =>
  (if p10 = 0 then
  some ((-1), h)
  else
  (if x1 = x2 then
  some ((-1), h)
  else
  cl (F_X9_isTwo x3) (fun p22 =>
  (if p22 = 0 then
  some ((-1), h)
  else
  nm (ld h (a + 1) 0) (fun v36 =>
  F_X9_rests_L41 a x1 x2 x3 v36 sg_fuel (0, h)))))))))
-- X9_print
def F_X9_print (a : Nat) (x1 : Int32) (x2 : Int32) (h : HP) : Option (Int32 × HP) :=
  cl (F_X9_isYard a x1 h) (fun p2 =>
  (if p2 = 0 then
  some ((-1), h)
  else
  cl (F_X9_in (x2.toInt64) 0 6) (fun p14 =>
  (if p14 = 0 then
  some ((-1), h)
  else
  (if (h.1 a 11) = 8 then
  some ((-3), h)
  else
  gd (2 * (h.1 a 11)) 16 (
  nm (st h (a + 8) (2 * (h.1 a 11)) x1) (fun h45 =>
  gd ((2 * (h45.1 a 11)) + 1) 16 (
  nm (st h45 (a + 8) ((2 * (h45.1 a 11)) + 1) x2) (fun h59 =>
  nm (ui h59 a 11 ((h59.1 a 11) + 1)) (fun h67 =>
  some ((h67.1 a 11), h67)))))))))))
-- X9_forget
def F_X9_forget (a : Nat) (h : HP) : Option (Int32 × HP) :=
  nm (h.1 a 11) (fun v4 =>
  nm (ui h a 11 0) (fun h7 =>
  some (v4, h7)))
-- X9_areSo
def F_X9_areSo_J63 (a : Nat) (rc17 : (Int32 × Int32) → Option (Int32 × HP)) (x3 : Int32) (s0 : Int32) (h : HP) : Option (Int32 × HP) :=
  rc17 (s0, (x3 + 1))
def F_X9_areSo_J62 (a : Nat) (rc17 : (Int32 × Int32) → Option (Int32 × HP)) (x3 : Int32) (h : HP) : Option (Int32 × HP) :=
  F_X9_areSo_J63 a rc17 x3 0 h
def F_X9_areSo_L17 (a : Nat) (h : HP) : Nat → (Int32 × Int32) → Option (Int32 × HP) :=
  lp (fun rc17 x =>
  (if (h.1 a 11) ≤ x.2 then
  gb x.1 (some (x.1, h))
  else
  (if x.1 = 0 then
  F_X9_areSo_J62 a rc17 x.2 h
  else
  gd (2 * x.2) 16 (
  gd (ld h (a + 8) (2 * x.2)) 120 (
  cl (F_X9_bits (ld h (a + 16) (ld h (a + 8) (2 * x.2)))) (fun p42 =>
  gd ((2 * x.2) + 1) 16 (
  (if p42 = (ld h (a + 8) ((2 * x.2) + 1)) then
  F_X9_areSo_J63 a rc17 x.2 1 h
  else
  F_X9_areSo_J62 a rc17 x.2 h))))))))
def F_X9_areSo (a : Nat) (x1 : Int32) (h : HP) : Option (Int32 × HP) :=
  cl (F_X9_asItIs a h) (fun p1 =>
  nm (ui p1 a 16 x1) (fun h6 =>
  cl (F_X9_goesUp a h6) (fun p10 =>
  F_X9_areSo_L17 a p10 sg_fuel (1, 0))))
-- X9_failed
def F_X9_failed_J43 (a : Nat) (rc17 : (Int32 × Int32 × HP) → Option (Int32 × HP)) (x2 : Int32) (s0 : Int32) (s1 : Int32) (h : HP) : Option (Int32 × HP) :=
  nm (s1 ||| s0) (fun v44 =>
  rc17 (v44, (x2 + 1), h))
def F_X9_failed_L17 (a : Nat) : Nat → (Int32 × Int32 × HP) → Option (Int32 × HP) :=
  lp (fun rc17 x =>
  (if (ld x.2.2 (a + 1) 1) ≤ x.2.1 then
  some (x.1, x.2.2)
  else
  cl (F_X9_areSo a x.2.1 x.2.2) (fun p30 =>
  (if p30.1 = 0 then
  F_X9_failed_J43 a rc17 x.2.1 0 x.1 p30.2
  else
  F_X9_failed_J43 a rc17 x.2.1 (1 <<< (x.2.1 &&& 31)) x.1 p30.2))))
def F_X9_failed_J14 (a : Nat) (s0 : Int32) (h : HP) : Option (Int32 × HP) :=
  F_X9_failed_L17 a sg_fuel (s0, 0, h)
def F_X9_failed (a : Nat) (h : HP) : Option (Int32 × HP) :=
  cl (F_X9_areSo a (-1) h) (fun p2 =>
  (if p2.1 = 0 then
  F_X9_failed_J14 a 0 p2.2
  else
  F_X9_failed_J14 a 64 p2.2))
-- X9_odds
def F_X9_odds_J258 (a : Nat) (x3 : Int32) (z5 : Int64) (z7 : Int64) (h : HP) : Option (Int32 × HP) :=
  cl (F_X9_fraction z5 z7 x3) (fun p263 =>
  some (p263, h))
def F_X9_odds_J249 (a : Nat) (rc88 : (Int64 × Int32 × HP) → Option (Int32 × HP)) (x2 : Int32) (x3 : Int32) (x4 : Int32) (z7 : Int64) (x9 : Int32) (s0 : Int64) (s1 : Int64) (h : HP) : Option (Int32 × HP) :=
  nm (s1 + s0) (fun v250 =>
  rc88 (v250, (x9 + 1), h))
def F_X9_odds_J228 (a : Nat) (rc88 : (Int64 × Int32 × HP) → Option (Int32 × HP)) (x2 : Int32) (x3 : Int32) (x4 : Int32) (z5 : Int64) (z7 : Int64) (x9 : Int32) (z10 : Int64) (h : HP) : Option (Int32 × HP) :=
  cl (F_X9_goesUp a h) (fun p229 =>
  (if (p229.1 a 23) = (-4) then
  F_X9_odds_J249 a rc88 x2 x3 x4 z7 x9 z10 z5 p229
  else
  F_X9_odds_J249 a rc88 x2 x3 x4 z7 x9 0 z5 p229))
def F_X9_odds_J219 (a : Nat) (rc88 : (Int64 × Int32 × HP) → Option (Int32 × HP)) (rc114 : (Int64 × Int32 × HP) → Option (Int32 × HP)) (x2 : Int32) (x3 : Int32) (x4 : Int32) (z5 : Int64) (z7 : Int64) (x9 : Int32) (x12 : Int32) (s0 : Int64) (s1 : Int64) (h : HP) : Option (Int32 × HP) :=
  nm (s1 * s0) (fun v220 =>
  rc114 (v220, (x12 + 1), h))
def F_X9_odds_J190 (a : Nat) (rc88 : (Int64 × Int32 × HP) → Option (Int32 × HP)) (rc114 : (Int64 × Int32 × HP) → Option (Int32 × HP)) (x2 : Int32) (x3 : Int32) (x4 : Int32) (z5 : Int64) (z7 : Int64) (x9 : Int32) (z10 : Int64) (x12 : Int32) (x13 : Int32) (h : HP) : Option (Int32 × HP) :=
  (if x12 < x4 then
  (if x13 = 0 then
  F_X9_odds_J219 a rc88 rc114 x2 x3 x4 z5 z7 x9 x12 (x2.toInt64) z10 h
  else
  F_X9_odds_J219 a rc88 rc114 x2 x3 x4 z5 z7 x9 x12 (10 - x2.toInt64) z10 h)
  else
  F_X9_odds_J219 a rc88 rc114 x2 x3 x4 z5 z7 x9 x12 1 z10 h)
def F_X9_odds_J147 (a : Nat) (rc88 : (Int64 × Int32 × HP) → Option (Int32 × HP)) (rc114 : (Int64 × Int32 × HP) → Option (Int32 × HP)) (x2 : Int32) (x3 : Int32) (x4 : Int32) (z5 : Int64) (z7 : Int64) (x9 : Int32) (z10 : Int64) (x12 : Int32) (s0 : Int32) (h : HP) : Option (Int32 × HP) :=
  (if s0 = 0 then
  F_X9_odds_J190 a rc88 rc114 x2 x3 x4 z5 z7 x9 z10 x12 s0 h
  else
  gd (1 + x12) 31 (
  gd (11 + x12) 31 (
  gd (21 + x12) 31 (
  cl (F_X9_adds (a + 11) (ld h (a + 3) (1 + x12)) (ld h (a + 3) (11 + x12)) (ld h (a + 3) (21 + x12)) h) (fun p187 =>
  F_X9_odds_J190 a rc88 rc114 x2 x3 x4 z5 z7 x9 z10 x12 s0 p187)))))
def F_X9_odds_J142 (a : Nat) (rc88 : (Int64 × Int32 × HP) → Option (Int32 × HP)) (rc114 : (Int64 × Int32 × HP) → Option (Int32 × HP)) (x2 : Int32) (x3 : Int32) (x4 : Int32) (z5 : Int64) (z7 : Int64) (x9 : Int32) (z10 : Int64) (x12 : Int32) (h : HP) : Option (Int32 × HP) :=
  F_X9_odds_J147 a rc88 rc114 x2 x3 x4 z5 z7 x9 z10 x12 1 h
def F_X9_odds_L114 (a : Nat) (rc88 : (Int64 × Int32 × HP) → Option (Int32 × HP)) (x2 : Int32) (x3 : Int32) (x4 : Int32) (z5 : Int64) (z7 : Int64) (x9 : Int32) : Nat → (Int64 × Int32 × HP) → Option (Int32 × HP) :=
  lp (fun rc114 x =>
  (if (ld x.2.2 (a + 3) 0) ≤ x.2.1 then
  F_X9_odds_J228 a rc88 x2 x3 x4 z5 z7 x9 x.1 x.2.2
  else
  (if x4 ≤ x.2.1 then
  F_X9_odds_J142 a rc88 rc114 x2 x3 x4 z5 z7 x9 x.1 x.2.1 x.2.2
  else
  cl (F_X9_has x9 x.2.1) (fun p136 =>
  (if p136 = 0 then
  F_X9_odds_J142 a rc88 rc114 x2 x3 x4 z5 z7 x9 x.1 x.2.1 x.2.2
  else
  F_X9_odds_J147 a rc88 rc114 x2 x3 x4 z5 z7 x9 x.1 x.2.1 0 x.2.2)))))
def F_X9_odds_L88 (a : Nat) (x2 : Int32) (x3 : Int32) (x4 : Int32) (z7 : Int64) : Nat → (Int64 × Int32 × HP) → Option (Int32 × HP) :=
  lp (fun rc88 x =>
  (if (1 <<< (x4 &&& 31)) ≤ x.2.1 then
  F_X9_odds_J258 a x3 x.1 z7 x.2.2
  else
  cl (F_X9_asItIs a x.2.2) (fun p98 =>
  nm (st p98 (a + 11) 0 0) (fun h110 =>
  F_X9_odds_L114 a rc88 x2 x3 x4 x.1 z7 x.2.1 sg_fuel (1, 0, h110)))))
def F_X9_odds_J85 (a : Nat) (x2 : Int32) (x3 : Int32) (x4 : Int32) (z5 : Int64) (z7 : Int64) (h : HP) : Option (Int32 × HP) :=
  F_X9_odds_L88 a x2 x3 x4 z7 sg_fuel (z5, 0, h)
def F_X9_odds_L64 (a : Nat) (x2 : Int32) (x3 : Int32) (x4 : Int32) (z5 : Int64) (h : HP) : Nat → (Int64 × Int32) → Option (Int32 × HP) :=
  lp (fun rc64 x =>
  (if x4 ≤ x.2 then
  F_X9_odds_J85 a x2 x3 x4 z5 x.1 h
  else
  nm (x.1 * 10) (fun v77 =>
  rc64 (v77, (x.2 + 1)))))
def F_X9_odds_J53 (a : Nat) (x2 : Int32) (x3 : Int32) (s0 : Int32) (h : HP) : Option (Int32 × HP) :=
  F_X9_odds_L64 a x2 x3 s0 0 h sg_fuel (1, 0)
def F_X9_odds (a : Nat) (x1 : Int32) (x2 : Int32) (x3 : Int32) (h : HP) : Option (Int32 × HP) :=
  cl (F_X9_in (x1.toInt64) 0 5) (fun p6 =>
  (if p6 = 0 then
  some ((-1), h)
  else
  cl (F_X9_in (x2.toInt64) 0 10) (fun p18 =>
  (if p18 = 0 then
  some ((-1), h)
  else
  cl (F_X9_isTwo x3) (fun p25 =>
  (if p25 = 0 then
  some ((-1), h)
  else
  (if (ld h (a + 3) 0) ≤ x1 then
  F_X9_odds_J53 a x2 x3 (ld h (a + 3) 0) h
  else
  F_X9_odds_J53 a x2 x3 x1 h)))))))
-- X9_rain
def F_X9_rain (a : Nat) (x1 : Int32) (x2 : Int32) (h : HP) : Option (Int32 × HP) :=
  cl (F_X9_in (x1.toInt64) 0 9999) (fun p6 =>
  (if p6 = 0 then
  some ((-1), h)
  else
  cl (F_X9_isTwo x2) (fun p13 =>
  (if p13 = 0 then
  some ((-1), h)
  else
  cl (F_X9_asItIs a h) (fun p22 =>
  nm (ui p22 a 17 x1) (fun h27 =>
  cl (F_X9_goesUp a h27) (fun p31 =>
  (if x2 = 0 then
  some ((p31.1 a 23), p31)
  else
  cl (F_X9_heirBy a 0 p31) (fun p47 =>
  some (p47, p31))))))))))
-- X9_keep
def F_X9_keep (a : Nat) (h : HP) : Option (Int32 × HP) :=
  (if (h.1 a 7) = 2 then
  some ((-3), h)
  else
  cl (F_X9_copies (a + 3) 0 (a + 6) (31 * (h.1 a 7)) h) (fun p27 =>
  nm (ui p27 a 7 ((p27.1 a 7) + 1)) (fun h37 =>
  some ((h37.1 a 7), h37))))
-- X9_back
def F_X9_back (a : Nat) (h : HP) : Option (Int32 × HP) :=
  (if (h.1 a 7) = 0 then
  some ((-2), h)
  else
  nm (ui h a 7 ((h.1 a 7) - 1)) (fun h17 =>
  cl (F_X9_copies (a + 6) (31 * (h17.1 a 7)) (a + 3) 0 h17) (fun p36 =>
  nm (ui p36 a 5 0) (fun h41 =>
  some ((h41.1 a 7), h41)))))
-- X9_count
def F_X9_count (a : Nat) (x1 : Int32) (h : HP) : Option (Int32) :=
  (if x1 = 0 then
  some (ld h (a + 1) 0)
  else
  (if x1 = 1 then
  cl (F_X9_yardsOf (a + 1) h) (fun p67 =>
  some p67)
  else
  (if x1 = 2 then
  some (ld h (a + 1) 1)
  else
  (if x1 = 3 then
  some (ld h (a + 1) 2)
  else
  (if x1 = 4 then
  some (ld h (a + 1) 3)
  else
  (if x1 = 5 then
  some (ld h (a + 3) 0)
  else
  (if x1 = 6 then
  some (h.1 a 11)
  else
  (if x1 = 7 then
  some (h.1 a 5)
  else
  (if x1 = 8 then
  some (h.1 a 7)
  else
  (if x1 = 9 then
  some (h.1 a 9)
  else
  some (-1)))))))))))
