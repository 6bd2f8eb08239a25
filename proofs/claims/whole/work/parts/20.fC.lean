def f_X0_forgetAll (M : fz_M) : Option fz_M :=
  fz_bd (fz_sf M 5 2 0) fun M1 =>
  some M1
def f_X6_takePlacesAndTies_2_s (k : Nat) (k0 : Nat) (k1 : Nat) (ag2 : (Int32 × fz_M) → Option fz_M) (v3 : Int32) (M : fz_M) : Option fz_M :=
  if 6 ≤ v3 then
    some M
  else
    fz_gd (fz_in v3 6) <|
    fz_gd (fz_in v3 6) <|
    fz_bd (fz_s M (k + 1) v3 (fz_g M k0 v3)) fun M4 =>
    fz_gd (fz_in v3 6) <|
    fz_gd (fz_in v3 6) <|
    fz_bd (fz_s M4 (k + 2) v3 (fz_g M4 k1 v3)) fun M7 =>
    ag2 ((v3 + 1), M7)
def f_X6_takePlacesAndTies_2 (k : Nat) (k0 : Nat) (k1 : Nat) (v3 : Int32) (M : fz_M) : Option fz_M :=
  fz_lp (fun ag z => f_X6_takePlacesAndTies_2_s k k0 k1 ag z.1 z.2) fz_fuel (v3, M)
def f_X6_takePlacesAndTies (k : Nat) (k0 : Nat) (k1 : Nat) (M : fz_M) : Option fz_M :=
  f_X6_takePlacesAndTies_2 k k0 k1 0 M
def f_X6_takeAllButShut_54_s (k : Nat) (k0 : Nat) (ag22 : (Int32 × fz_M) → Option fz_M) (ag54 : (Int32 × fz_M) → Option fz_M) (v2 : Int32) (v3 : Int32) (M : fz_M) : Option fz_M :=
  if 8 ≤ v3 then
    ag22 ((v2 + 1), M)
  else
    fz_gd (fz_in v2 6) <|
    fz_gd (fz_in v2 6) <|
    fz_gd (fz_in v3 8) <|
    fz_gd (fz_in v3 8) <|
    fz_bd (fz_s M ((k + 6) + 1 * v2.toNatClampNeg) v3 (fz_g M ((k0 + 6) + 1 * v2.toNatClampNeg) v3)) fun M6 =>
    ag54 ((v3 + 1), M6)
def f_X6_takeAllButShut_54 (k : Nat) (k0 : Nat) (ag22 : (Int32 × fz_M) → Option fz_M) (v2 : Int32) (v3 : Int32) (M : fz_M) : Option fz_M :=
  fz_lp (fun ag z => f_X6_takeAllButShut_54_s k k0 ag22 ag v2 z.1 z.2) fz_fuel (v3, M)
def f_X6_takeAllButShut_22_s (k : Nat) (k0 : Nat) (ag22 : (Int32 × fz_M) → Option fz_M) (v2 : Int32) (M : fz_M) : Option fz_M :=
  if 6 ≤ v2 then
    some M
  else
    fz_gd (fz_in v2 6) <|
    fz_gd (fz_in v2 6) <|
    fz_bd (fz_s M (k + 3) v2 (fz_g M (k0 + 3) v2)) fun M4 =>
    fz_gd (fz_in v2 6) <|
    fz_gd (fz_in v2 6) <|
    fz_bd (fz_s M4 (k + 4) v2 (fz_g M4 (k0 + 4) v2)) fun M7 =>
    f_X6_takeAllButShut_54 k k0 ag22 v2 0 M7
def f_X6_takeAllButShut_22 (k : Nat) (k0 : Nat) (v2 : Int32) (M : fz_M) : Option fz_M :=
  fz_lp (fun ag z => f_X6_takeAllButShut_22_s k k0 ag z.1 z.2) fz_fuel (v2, M)
def f_X6_takeAllButShut (k : Nat) (k0 : Nat) (M : fz_M) : Option fz_M :=
  fz_bd (fz_sf M k 0 (fz_f M k0 0)) fun M1 =>
  fz_b1 (f_X6_takePlacesAndTies k (k0 + 1) (k0 + 2) M1) fun M3 =>
  f_X6_takeAllButShut_22 k k0 0 M3
def f_X0_remember_32 (k0 : Nat) (M : fz_M) : Option fz_M :=
  fz_gd (fz_in (((fz_f M 5 1) + (fz_f M 5 2)) - ((fz_f M 5 1) + (fz_f M 5 2)) / 12 * 12) 12) <|
  fz_b1 (f_X6_takeAllButShut (79 + 13 * (((fz_f M 5 1) + (fz_f M 5 2)) - ((fz_f M 5 1) + (fz_f M 5 2)) / 12 * 12).toNatClampNeg) k0 M) fun M3 =>
  fz_bd (fz_sf M3 5 2 ((fz_f M3 5 2) + 1)) fun M5 =>
  some M5
def f_X0_remember (k0 : Nat) (M : fz_M) : Option fz_M :=
  if ¬ (fz_f M 5 2) = 12 then
    f_X0_remember_32 k0 M
  else
    fz_bd (fz_sf M 5 1 (((fz_f M 5 1) + 1) - ((fz_f M 5 1) + 1) / 12 * 12)) fun M2 =>
    fz_bd (fz_sf M2 5 2 ((fz_f M2 5 2) - 1)) fun M3 =>
    f_X0_remember_32 k0 M3
def f_X0_takeBack (k0 : Nat) (M : fz_M) : Option fz_M :=
  if (fz_f M 5 2) ≤ 0 then
    some M
  else
    fz_bd (fz_sf M 5 2 ((fz_f M 5 2) - 1)) fun M2 =>
    fz_gd (fz_in (((fz_f M2 5 1) + (fz_f M2 5 2)) - ((fz_f M2 5 1) + (fz_f M2 5 2)) / 12 * 12) 12) <|
    fz_b1 (f_X6_takeAllButShut k0 (79 + 13 * (((fz_f M2 5 1) + (fz_f M2 5 2)) - ((fz_f M2 5 1) + (fz_f M2 5 2)) / 12 * 12).toNatClampNeg) M2) fun M5 =>
    some M5
def f_X1_append_5_s (ag5 : (Int32 × fz_M) → Option fz_M) (v2 : Int64) (v4 : Int32) (M : fz_M) : Option fz_M :=
  if v4 < 0 then
    some M
  else
    if 96 ≤ (fz_f M 1 1) then
      some M
    else
      fz_gd (fz_in (fz_f M 1 1) 96) <|
      fz_bd (fz_s M 2 (fz_f M 1 1) ((((v2.toUInt64 >>> ((8 * v4).toInt64.toUInt64 &&& Int64.toUInt64 63)).toInt64).toInt32) &&& 255)) fun M4 =>
      fz_bd (fz_sf M4 1 1 ((fz_f M4 1 1) + 1)) fun M5 =>
      ag5 ((v4 + (-1)), M5)
def f_X1_append_5 (v2 : Int64) (v4 : Int32) (M : fz_M) : Option fz_M :=
  fz_lp (fun ag z => f_X1_append_5_s ag v2 z.1 z.2) fz_fuel (v4, M)
def f_X1_append (v1 : Int32) (v2 : Int64) (M : fz_M) : Option fz_M :=
  fz_bd (v1 - 1) fun x1 =>
  f_X1_append_5 v2 x1 M
def f_X2_add (v1 : Int32) (v2 : Int32) (M : fz_M) : Option fz_M :=
  if 8 ≤ (fz_f M 7 2) then
    some M
  else
    fz_gd (fz_in (fz_f M 7 2) 8) <|
    fz_bd (fz_s M 8 (fz_f M 7 2) v1) fun M3 =>
    fz_gd (fz_in (fz_f M3 7 2) 8) <|
    fz_bd (fz_s M3 9 (fz_f M3 7 2) v2) fun M5 =>
    fz_bd (fz_sf M5 7 2 ((fz_f M5 7 2) + 1)) fun M6 =>
    some M6
def f_X2_hold_2_s (ag2 : (Int32) → Option Int32) (v1 : Int32) (v2 : Int32) (v3 : Int32) (M : fz_M) : Option Int32 :=
  if (fz_f M 7 2) ≤ v3 then
    some 1
  else
    fz_gd (fz_in v3 8) <|
    if ¬ (fz_g M 8 v3) = v1 then
      ag2 (v3 + 1)
    else
      fz_gd (fz_in v3 8) <|
      if (fz_g M 9 v3) = v2 then
        ag2 (v3 + 1)
      else
        some 0
def f_X2_hold_2 (v1 : Int32) (v2 : Int32) (v3 : Int32) (M : fz_M) : Option Int32 :=
  fz_lp (fun ag z => f_X2_hold_2_s ag v1 v2 z M) fz_fuel v3
def f_X2_hold (v1 : Int32) (v2 : Int32) (M : fz_M) : Option Int32 :=
  f_X2_hold_2 v1 v2 0 M
def f_X3_clear (k : Nat) (M : fz_M) : Option fz_M :=
  fz_bd (fz_sf M k 0 0) fun M1 =>
  fz_bd (fz_sf M1 k 1 0) fun M2 =>
  fz_bd (fz_sf M2 k 2 0) fun M3 =>
  some M3
def f_X3_addHouse (k : Nat) (v1 : Int32) (v2 : Int32) (M : fz_M) : Option fz_M :=
  if 6 ≤ (fz_f M k 0) then
    some M
  else
    fz_gd (fz_in (fz_f M k 0) 6) <|
    fz_bd (fz_s M (k + 1) (fz_f M k 0) v1) fun M3 =>
    fz_gd (fz_in (fz_f M3 k 0) 6) <|
    fz_bd (fz_s M3 (k + 2) (fz_f M3 k 0) v2) fun M5 =>
    fz_bd (fz_sf M5 k 0 ((fz_f M5 k 0) + 1)) fun M6 =>
    some M6
def f_X3_addStream (k : Nat) (v1 : Int32) (v2 : Int32) (v3 : Int32) (M : fz_M) : Option fz_M :=
  if 10 ≤ (fz_f M k 1) then
    some M
  else
    fz_gd (fz_in (fz_f M k 1) 10) <|
    fz_bd (fz_s M (k + 3) (fz_f M k 1) v1) fun M3 =>
    fz_gd (fz_in (fz_f M3 k 1) 10) <|
    fz_bd (fz_s M3 (k + 4) (fz_f M3 k 1) v2) fun M5 =>
    fz_gd (fz_in (fz_f M5 k 1) 10) <|
    fz_bd (fz_s M5 (k + 5) (fz_f M5 k 1) v3) fun M7 =>
    fz_bd (fz_sf M7 k 1 ((fz_f M7 k 1) + 1)) fun M8 =>
    some M8
def f_X3_addPiece (k : Nat) (v1 : Int32) (v2 : Int32) (v3 : Int32) (v4 : Int32) (M : fz_M) : Option fz_M :=
  if 6 ≤ (fz_f M k 2) then
    some M
  else
    fz_gd (fz_in (fz_f M k 2) 6) <|
    fz_bd (fz_s M (k + 6) (fz_f M k 2) v1) fun M3 =>
    fz_gd (fz_in (fz_f M3 k 2) 6) <|
    fz_bd (fz_s M3 (k + 7) (fz_f M3 k 2) v2) fun M5 =>
    fz_gd (fz_in (fz_f M5 k 2) 6) <|
    fz_bd (fz_s M5 (k + 8) (fz_f M5 k 2) v3) fun M7 =>
    fz_gd (fz_in (fz_f M7 k 2) 6) <|
    fz_bd (fz_s M7 (k + 9) (fz_f M7 k 2) v4) fun M9 =>
    fz_bd (fz_sf M9 k 2 ((fz_f M9 k 2) + 1)) fun M10 =>
    some M10
def f_X3_tenthsLeftFrom_5_s (k : Nat) (ag5 : (Int32 × Int32) → Option Int32) (v1 : Int32) (v2 : Int32) (v3 : Int32) (M : fz_M) : Option Int32 :=
  if (fz_f M k 1) ≤ v3 then
    some v2
  else
    fz_gd (fz_in v3 10) <|
    if ¬ (fz_g M (k + 3) v3) = v1 then
      ag5 (v2, (v3 + 1))
    else
      fz_gd (fz_in v3 10) <|
      fz_bd (v2 - (fz_g M (k + 5) v3)) fun x5 =>
      ag5 (x5, (v3 + 1))
def f_X3_tenthsLeftFrom_5 (k : Nat) (v1 : Int32) (v2 : Int32) (v3 : Int32) (M : fz_M) : Option Int32 :=
  fz_lp (fun ag z => f_X3_tenthsLeftFrom_5_s k ag v1 z.1 z.2 M) fz_fuel (v2, v3)
def f_X3_tenthsLeftFrom (k : Nat) (v1 : Int32) (M : fz_M) : Option Int32 :=
  f_X3_tenthsLeftFrom_5 k v1 10 0 M
def f_X3_canJoin_17_s (k : Nat) (ag17 : (Int32) → Option Int32) (v1 : Int32) (v2 : Int32) (v3 : Int32) (M : fz_M) : Option Int32 :=
  if (fz_f M k 1) ≤ v3 then
    some 1
  else
    fz_gd (fz_in v3 10) <|
    if ¬ (fz_g M (k + 3) v3) = v1 then
      ag17 (v3 + 1)
    else
      fz_gd (fz_in v3 10) <|
      if ¬ (fz_g M (k + 4) v3) = v2 then
        ag17 (v3 + 1)
      else
        some 0
def f_X3_canJoin_17 (k : Nat) (v1 : Int32) (v2 : Int32) (v3 : Int32) (M : fz_M) : Option Int32 :=
  fz_lp (fun ag z => f_X3_canJoin_17_s k ag v1 v2 z M) fz_fuel v3
def f_X3_canJoin (k : Nat) (v1 : Int32) (v2 : Int32) (M : fz_M) : Option Int32 :=
  if v1 = v2 then
    some 0
  else
    if v2 < (fz_f M k 0) then
      f_X3_canJoin_17 k v1 v2 0 M
    else
      some 0
def f_X3_canLeave_21_s (k : Nat) (ag21 : (Int32) → Option Int32) (v1 : Int32) (v2 : Int32) (M : fz_M) : Option Int32 :=
  if (fz_f M k 0) ≤ v2 then
    some 0
  else
    fz_b1 (f_X3_canJoin k v1 v2 M) fun r2 =>
    if r2 = 0 then
      ag21 (v2 + 1)
    else
      some 1
def f_X3_canLeave_21 (k : Nat) (v1 : Int32) (v2 : Int32) (M : fz_M) : Option Int32 :=
  fz_lp (fun ag z => f_X3_canLeave_21_s k ag v1 z M) fz_fuel v2
def f_X3_canLeave (k : Nat) (v1 : Int32) (M : fz_M) : Option Int32 :=
  if (fz_f M k 0) ≤ v1 then
    some 0
  else
    fz_b1 (f_X3_tenthsLeftFrom k v1 M) fun r2 =>
    if 1 ≤ r2 then
      f_X3_canLeave_21 k v1 0 M
    else
      some 0
def f_X3_canHaveStream_13_s (k : Nat) (ag13 : (Int32) → Option Int32) (v1 : Int32) (M : fz_M) : Option Int32 :=
  if (fz_f M k 0) ≤ v1 then
    some 0
  else
    fz_b1 (f_X3_canLeave k v1 M) fun r2 =>
    if r2 = 0 then
      ag13 (v1 + 1)
    else
      some 1
def f_X3_canHaveStream_13 (k : Nat) (v1 : Int32) (M : fz_M) : Option Int32 :=
  fz_lp (fun ag z => f_X3_canHaveStream_13_s k ag z M) fz_fuel v1
def f_X3_canHaveStream (k : Nat) (M : fz_M) : Option Int32 :=
  if (fz_f M k 1) < 10 then
    f_X3_canHaveStream_13 k 0 M
  else
    some 0
def f_X3_waterIn (k : Nat) (v1 : Int32) (v2 : Int32) (M : fz_M) : Option Int32 :=
  fz_gd (fz_in v1 6) <|
  some (if 0 < (v2 - (fz_g M (k + 1) v1)) then (v2 - (fz_g M (k + 1) v1)) else 0)
def f_X4_canBegin (k1 : Nat) (v0 : Int32) (M : fz_M) : Option Int32 :=
  if v0 = 72 then
    if 6 ≤ (fz_f M k1 0) then
      some 0
    else
      some 1
  else
  if v0 = 80 then
    if (fz_f M k1 0) ≤ 0 then
      some 0
    else
      if 6 ≤ (fz_f M k1 2) then
        some 0
      else
        some 1
  else
  if v0 = 83 then
    fz_b1 (f_X3_canHaveStream k1 M) fun r7 =>
    fz_gd (fz_nb r7) <|
    some r7
  else
  some 0
def f_X4_canGoOnWithStream (k1 : Nat) (v1 : Int32) (M : fz_M) : Option Int32 :=
  if (fz_f M 3 1) = 1 then
    fz_b1 (f_X3_canLeave k1 v1 M) fun r2 =>
    fz_gd (fz_nb r2) <|
    some r2
  else
  if (fz_f M 3 1) = 2 then
    fz_gd (fz_in 1 5) <|
    fz_b1 (f_X3_canJoin k1 (fz_g M 4 1) v1 M) fun r8 =>
    fz_gd (fz_nb r8) <|
    some r8
  else
  if v1 ≤ 0 then
    some 0
  else
    fz_gd (fz_in 1 5) <|
    fz_b1 (f_X3_tenthsLeftFrom k1 (fz_g M 4 1) M) fun r14 =>
    if r14 < v1 then
      some 0
    else
      some 1
def f_X4_canGoOnWithPiece (k1 : Nat) (v1 : Int32) (M : fz_M) : Option Int32 :=
  if (fz_f M 3 1) = 1 then
    if (fz_f M k1 0) ≤ v1 then
      some 0
    else
      some 1
  else
  if (fz_f M 3 1) = 4 then
    some 1
  else
  if v1 ≤ 0 then
    some 0
  else
    some 1
def f_X4_canGoOn (k1 : Nat) (v1 : Int32) (M : fz_M) : Option Int32 :=
  fz_gd (fz_in 0 5) <|
  if (fz_g M 4 0) = 72 then
    if (fz_f M 3 1) = 1 then
      some 1
    else
      if v1 ≤ 0 then
        some 0
      else
        some 1
  else
  if (fz_g M 4 0) = 83 then
    fz_b1 (f_X4_canGoOnWithStream k1 v1 M) fun r6 =>
    fz_gd (fz_nb r6) <|
    some r6
  else
  fz_b1 (f_X4_canGoOnWithPiece k1 v1 M) fun r10 =>
  fz_gd (fz_nb r10) <|
  some r10
def f_X4_lengthOfPart (M : fz_M) : Option Int32 :=
  fz_gd (fz_in 0 5) <|
  if (fz_g M 4 0) = 72 then
    some 3
  else
  if (fz_g M 4 0) = 83 then
    some 4
  else
  some 5
def f_X4_addPart (k0 : Nat) (M : fz_M) : Option fz_M :=
  fz_gd (fz_in 0 5) <|
  if (fz_g M 4 0) = 72 then
    fz_gd (fz_in 1 5) <|
    fz_gd (fz_in 2 5) <|
    fz_b1 (f_X3_addHouse k0 (fz_g M 4 1) (fz_g M 4 2) M) fun M6 =>
    some M6
  else
  if (fz_g M 4 0) = 83 then
    fz_gd (fz_in 1 5) <|
    fz_gd (fz_in 2 5) <|
    fz_gd (fz_in 3 5) <|
    fz_b1 (f_X3_addStream k0 (fz_g M 4 1) (fz_g M 4 2) (fz_g M 4 3) M) fun M13 =>
    some M13
  else
  fz_gd (fz_in 1 5) <|
  fz_gd (fz_in 2 5) <|
  fz_gd (fz_in 3 5) <|
  fz_gd (fz_in 4 5) <|
  fz_b1 (f_X3_addPiece k0 (fz_g M 4 1) (fz_g M 4 2) (fz_g M 4 3) (fz_g M 4 4) M) fun M20 =>
  some M20
def f_X4_takes_63 (k1 : Nat) (M : fz_M) : Option (Int32 × fz_M) :=
  fz_bd (fz_sf M 3 1 ((fz_f M 3 1) + 1)) fun M1 =>
  fz_b1 (f_X4_lengthOfPart M1) fun r2 =>
  if ¬ (fz_f M1 3 1) = r2 then
    some (1, M1)
  else
    fz_b1 (f_X4_addPart k1 M1) fun M7 =>
    fz_bd (fz_sf M7 3 1 0) fun M9 =>
    some (1, M9)
def f_X4_takes (k1 : Nat) (v1 : Int32) (M : fz_M) : Option (Int32 × fz_M) :=
  if ¬ (fz_f M 3 1) = 0 then
    fz_bd (v1 - 48) fun x2 =>
    if x2 < 0 then
      some (0, M)
    else
      if 9 < x2 then
        some (0, M)
      else
        fz_b1 (f_X4_canGoOn k1 x2 M) fun r5 =>
        if ¬ r5 = 0 then
          fz_gd (fz_in (fz_f M 3 1) 5) <|
          fz_bd (fz_s M 4 (fz_f M 3 1) x2) fun M10 =>
          f_X4_takes_63 k1 M10
        else
          some (0, M)
  else
    fz_b1 (f_X4_canBegin k1 v1 M) fun r11 =>
    if ¬ r11 = 0 then
      fz_gd (fz_in 0 5) <|
      fz_bd (fz_s M 4 0 v1) fun M16 =>
      f_X4_takes_63 k1 M16
    else
      some (0, M)
def f_X4_firstFault_11_s (k1 : Nat) (ag11 : (Int32 × fz_M) → Option (Int32 × fz_M)) (v3 : Int32) (M : fz_M) : Option (Int32 × fz_M) :=
  if (fz_f M 1 1) ≤ v3 then
    if ¬ (fz_f M 3 1) = 0 then
      some ((fz_f M 1 1), M)
    else
      some ((-9), M)
  else
    fz_gd (fz_in v3 96) <|
    fz_b2 (f_X4_takes k1 (fz_g M 2 v3) M) fun r4 M5 =>
    if ¬ r4 = 0 then
      ag11 ((v3 + 1), M5)
    else
      some (v3, M5)
def f_X4_firstFault_11 (k1 : Nat) (v3 : Int32) (M : fz_M) : Option (Int32 × fz_M) :=
  fz_lp (fun ag z => f_X4_firstFault_11_s k1 ag z.1 z.2) fz_fuel (v3, M)
def f_X4_firstFault (k1 : Nat) (M : fz_M) : Option (Int32 × fz_M) :=
  fz_b1 (f_X3_clear k1 M) fun M2 =>
  fz_bd (fz_sf M2 3 1 0) fun M4 =>
  f_X4_firstFault_11 k1 0 M4
def f_X5_begin_23 (e0 : Nat) (ag2 : (Int32 × fz_M) → Option fz_M) (v1 : Int32) (v2 : Int32) (s1 : Int32) (s2 : Int64) (M : fz_M) : Option fz_M :=
  fz_gd (fz_in s1 6) <|
  fz_bd (fz_sl M e0 s1 s2) fun M2 =>
  ag2 ((v2 + 1), M2)
def f_X5_begin_2_s (ag2 : (Int32 × fz_M) → Option fz_M) (v1 : Int32) (v2 : Int32) (M : fz_M) : Option fz_M :=
  if 6 ≤ v2 then
    some M
  else
    fz_bd (fz_d M 15 0) fun y2 =>
    fz_gd (fz_isL y2) <|
    if ¬ v2 = v1 then
      f_X5_begin_23 y2 ag2 v1 v2 v2 0 M
    else
      f_X5_begin_23 y2 ag2 v1 v2 v2 1 M
def f_X5_begin_2 (v1 : Int32) (v2 : Int32) (M : fz_M) : Option fz_M :=
  fz_lp (fun ag z => f_X5_begin_2_s ag v1 z.1 z.2) fz_fuel (v2, M)
def f_X5_begin (v1 : Int32) (M : fz_M) : Option fz_M :=
  f_X5_begin_2 v1 0 M
def f_X5_move (v1 : Int32) (v2 : Int32) (v3 : Int32) (M : fz_M) : Option fz_M :=
  fz_bd (fz_d M 15 1) fun y1 =>
  fz_gd (fz_isL y1) <|
  fz_gd (fz_in v1 6) <|
  fz_bd (fz_d M 15 0) fun y4 =>
  fz_gd (fz_isL y4) <|
  fz_gd (fz_in v1 6) <|
  fz_gd (fz_in v1 6) <|
  fz_bd (fz_sl M y1 v1 ((fz_gl M y1 v1) - ((v3.toInt64) * (fz_gl M y4 v1)))) fun M8 =>
  fz_bd (fz_d M8 15 1) fun y9 =>
  fz_gd (fz_isL y9) <|
  fz_gd (fz_in v2 6) <|
  fz_bd (fz_d M8 15 0) fun y12 =>
  fz_gd (fz_isL y12) <|
  fz_gd (fz_in v1 6) <|
  fz_gd (fz_in v2 6) <|
  fz_bd (fz_sl M8 y9 v2 ((fz_gl M8 y9 v2) + ((v3.toInt64) * (fz_gl M8 y12 v1)))) fun M16 =>
  some M16
def f_X5_turn (M : fz_M) : Option fz_M :=
  fz_bd (fz_d M 15 0) fun y1 =>
  fz_gd (fz_isL y1) <|
  fz_bd (fz_d M 15 1) fun y3 =>
  fz_gd (fz_isL y3) <|
  fz_bd (fz_sd M 15 0 y3) fun M5 =>
  fz_bd (fz_sd M5 15 1 y1) fun M6 =>
  some M6
def f_X5_drawHour_37_s (k0 : Nat) (k1 : Nat) (ag37 : (Int32 × fz_M) → Option fz_M) (v3 : Int32) (v4 : Int32) (v5 : Int32) (M : fz_M) : Option fz_M :=
  if (fz_f M k0 1) ≤ v5 then
    fz_b1 (f_X5_turn M) fun M3 =>
    some M3
  else
    fz_gd (fz_in v5 10) <|
    fz_bd (fz_g M (k0 + 3) v5) fun x6 =>
    fz_gd (fz_in v5 10) <|
    if ¬ (fz_g M k1 v5) = 0 then
      ag37 ((v5 + 1), M)
    else
      fz_b1 (f_X3_waterIn k0 x6 v4 M) fun r9 =>
      if r9 < v3 then
        ag37 ((v5 + 1), M)
      else
        fz_gd (fz_in v5 10) <|
        fz_gd (fz_in v5 10) <|
        fz_b1 (f_X5_move x6 (fz_g M (k0 + 4) v5) (fz_g M (k0 + 5) v5) M) fun M16 =>
        ag37 ((v5 + 1), M16)
def f_X5_drawHour_37 (k0 : Nat) (k1 : Nat) (v3 : Int32) (v4 : Int32) (v5 : Int32) (M : fz_M) : Option fz_M :=
  fz_lp (fun ag z => f_X5_drawHour_37_s k0 k1 ag v3 v4 z.1 z.2) fz_fuel (v5, M)
def f_X5_drawHour_3_s (k0 : Nat) (k1 : Nat) (ag3 : (Int32 × fz_M) → Option fz_M) (v3 : Int32) (v4 : Int32) (v5 : Int32) (M : fz_M) : Option fz_M :=
  if 6 ≤ v5 then
    f_X5_drawHour_37 k0 k1 v3 v4 0 M
  else
    fz_bd (fz_d M 15 1) fun y2 =>
    fz_gd (fz_isL y2) <|
    fz_bd (fz_d M 15 0) fun y4 =>
    fz_gd (fz_isL y4) <|
    fz_gd (fz_in v5 6) <|
    fz_gd (fz_in v5 6) <|
    fz_bd (fz_sl M y2 v5 (10 * (fz_gl M y4 v5))) fun M8 =>
    ag3 ((v5 + 1), M8)
def f_X5_drawHour_3 (k0 : Nat) (k1 : Nat) (v3 : Int32) (v4 : Int32) (v5 : Int32) (M : fz_M) : Option fz_M :=
  fz_lp (fun ag z => f_X5_drawHour_3_s k0 k1 ag v3 v4 z.1 z.2) fz_fuel (v5, M)
def f_X5_drawHour (k0 : Nat) (k1 : Nat) (v3 : Int32) (v4 : Int32) (M : fz_M) : Option fz_M :=
  f_X5_drawHour_3 k0 k1 v3 v4 0 M
def f_X5_drawSpring_28_s (k0 : Nat) (ag28 : (Int32 × fz_M) → Option fz_M) (v2 : Int32) (M : fz_M) : Option fz_M :=
  if (fz_f M k0 1) ≤ v2 then
    fz_b1 (f_X5_turn M) fun M3 =>
    some M3
  else
    fz_bd (fz_d M 15 1) fun y5 =>
    fz_gd (fz_isL y5) <|
    fz_gd (fz_in v2 10) <|
    fz_gd (fz_in (fz_g M (k0 + 4) v2) 6) <|
    fz_bd (fz_d M 15 0) fun y9 =>
    fz_gd (fz_isL y9) <|
    fz_gd (fz_in v2 10) <|
    fz_gd (fz_in (fz_g M (k0 + 3) v2) 6) <|
    fz_gd (fz_in (fz_g M (k0 + 4) v2) 6) <|
    fz_bd (fz_sl M y5 (fz_g M (k0 + 4) v2) ((fz_gl M y5 (fz_g M (k0 + 4) v2)) + (fz_gl M y9 (fz_g M (k0 + 3) v2)))) fun M14 =>
    ag28 ((v2 + 1), M14)
def f_X5_drawSpring_28 (k0 : Nat) (v2 : Int32) (M : fz_M) : Option fz_M :=
  fz_lp (fun ag z => f_X5_drawSpring_28_s k0 ag z.1 z.2) fz_fuel (v2, M)
def f_X5_drawSpring_2_s (k0 : Nat) (ag2 : (Int32 × fz_M) → Option fz_M) (v2 : Int32) (M : fz_M) : Option fz_M :=
  if 6 ≤ v2 then
    f_X5_drawSpring_28 k0 0 M
  else
    fz_bd (fz_d M 15 1) fun y2 =>
    fz_gd (fz_isL y2) <|
    fz_bd (fz_d M 15 0) fun y4 =>
    fz_gd (fz_isL y4) <|
    fz_gd (fz_in v2 6) <|
    fz_gd (fz_in v2 6) <|
    fz_bd (fz_sl M y2 v2 (fz_gl M y4 v2)) fun M8 =>
    ag2 ((v2 + 1), M8)
def f_X5_drawSpring_2 (k0 : Nat) (v2 : Int32) (M : fz_M) : Option fz_M :=
  fz_lp (fun ag z => f_X5_drawSpring_2_s k0 ag z.1 z.2) fz_fuel (v2, M)
def f_X5_drawSpring (k0 : Nat) (M : fz_M) : Option fz_M :=
  f_X5_drawSpring_2 k0 0 M
def f_X5_holdTo_2_s (ag2 : (Int32 × fz_M) → Option fz_M) (v2 : Int32) (v3 : Int32) (M : fz_M) : Option fz_M :=
  if 6 ≤ v3 then
    some M
  else
    fz_b1 (f_X2_hold v2 v3 M) fun r2 =>
    if ¬ r2 = 0 then
      ag2 ((v3 + 1), M)
    else
      fz_bd (fz_d M 15 0) fun y6 =>
      fz_gd (fz_isL y6) <|
      fz_gd (fz_in v3 6) <|
      fz_bd (fz_sl M y6 v3 0) fun M9 =>
      ag2 ((v3 + 1), M9)
def f_X5_holdTo_2 (v2 : Int32) (v3 : Int32) (M : fz_M) : Option fz_M :=
  fz_lp (fun ag z => f_X5_holdTo_2_s ag v2 z.1 z.2) fz_fuel (v3, M)
def f_X5_holdTo (v2 : Int32) (M : fz_M) : Option fz_M :=
  f_X5_holdTo_2 v2 0 M
def f_X6_begin_72_s (k : Nat) (k0 : Nat) (ag72 : (Int32 × fz_M) → Option fz_M) (v2 : Int32) (M : fz_M) : Option fz_M :=
  if 10 ≤ v2 then
    some M
  else
    fz_gd (fz_in v2 10) <|
    fz_bd (fz_s M (k + 12) v2 (fz_z 0)) fun M3 =>
    ag72 ((v2 + 1), M3)
def f_X6_begin_72 (k : Nat) (k0 : Nat) (v2 : Int32) (M : fz_M) : Option fz_M :=
  fz_lp (fun ag z => f_X6_begin_72_s k k0 ag z.1 z.2) fz_fuel (v2, M)
def f_X6_begin_7_s (k : Nat) (k0 : Nat) (ag7 : (Int32 × fz_M) → Option fz_M) (v2 : Int32) (M : fz_M) : Option fz_M :=
  if (fz_f M k0 2) ≤ v2 then
    f_X6_begin_72 k k0 0 M
  else
    fz_gd (fz_in v2 6) <|
    fz_bd (fz_g M (k0 + 6) v2) fun x3 =>
    fz_gd (fz_in v2 6) <|
    fz_bd (fz_s M (k + 1) v2 x3) fun M5 =>
    fz_gd (fz_in v2 6) <|
    fz_gd (fz_in v2 6) <|
    fz_bd (fz_s M5 (k + 2) v2 (fz_g M5 (k0 + 9) v2)) fun M8 =>
    fz_gd (fz_in v2 6) <|
    fz_bd (fz_s M8 (k + 3) v2 x3) fun M10 =>
    fz_gd (fz_in v2 6) <|
    fz_gd (fz_in 0 8) <|
    fz_bd (fz_s M10 ((k + 6) + 1 * v2.toNatClampNeg) 0 x3) fun M13 =>
    fz_gd (fz_in v2 6) <|
    fz_bd (fz_s M13 (k + 4) v2 1) fun M15 =>
    ag7 ((v2 + 1), M15)
def f_X6_begin_7 (k : Nat) (k0 : Nat) (v2 : Int32) (M : fz_M) : Option fz_M :=
  fz_lp (fun ag z => f_X6_begin_7_s k k0 ag z.1 z.2) fz_fuel (v2, M)
def f_X6_begin (k : Nat) (k0 : Nat) (M : fz_M) : Option fz_M :=
  fz_bd (fz_sf M k 0 0) fun M1 =>
  f_X6_begin_7 k k0 0 M1
def f_X6_takeAll_7_s (k : Nat) (k0 : Nat) (ag7 : (Int32 × fz_M) → Option fz_M) (v2 : Int32) (M : fz_M) : Option fz_M :=
  if 10 ≤ v2 then
    some M
  else
    fz_gd (fz_in v2 10) <|
    fz_gd (fz_in v2 10) <|
    fz_bd (fz_s M (k + 12) v2 (fz_z (fz_g M (k0 + 12) v2))) fun M4 =>
    ag7 ((v2 + 1), M4)
def f_X6_takeAll_7 (k : Nat) (k0 : Nat) (v2 : Int32) (M : fz_M) : Option fz_M :=
  fz_lp (fun ag z => f_X6_takeAll_7_s k k0 ag z.1 z.2) fz_fuel (v2, M)
def f_X6_takeAll (k : Nat) (k0 : Nat) (M : fz_M) : Option fz_M :=
  fz_b1 (f_X6_takeAllButShut k k0 M) fun M2 =>
  f_X6_takeAll_7 k k0 0 M2
def f_X6_addOwner (k : Nat) (v1 : Int32) (v2 : Int32) (M : fz_M) : Option fz_M :=
  fz_gd (fz_in v1 6) <|
  fz_bd (fz_s M (k + 3) v1 v2) fun M2 =>
  fz_gd (fz_in v1 6) <|
  fz_bd (fz_g M2 (k + 4) v1) fun x4 =>
  if 8 ≤ x4 then
    some M2
  else
    fz_gd (fz_in v1 6) <|
    fz_gd (fz_in x4 8) <|
    fz_bd (fz_s M2 ((k + 6) + 1 * v1.toNatClampNeg) x4 v2) fun M8 =>
    fz_gd (fz_in v1 6) <|
    fz_bd (fz_s M8 (k + 4) v1 (x4 + 1)) fun M10 =>
    some M10
def f_X6_passSpring_14_s (k : Nat) (ag14 : (Int32 × Int32 × fz_M) → Option (Int32 × fz_M)) (v1 : Int32) (v2 : Int32) (v3 : Int32) (M : fz_M) : Option (Int32 × fz_M) :=
  if v1 ≤ v3 then
    some (v2, M)
  else
    fz_gd (fz_in v3 6) <|
    fz_gd (fz_in v3 6) <|
    if (fz_g M (k + 3) v3) = (fz_g M (k + 1) v3) then
      ag14 (v2, (v3 + 1), M)
    else
      fz_gd (fz_in v3 6) <|
      fz_b1 (f_X6_addOwner k v3 (fz_g M (k + 1) v3) M) fun M7 =>
      ag14 ((v2 + 1), (v3 + 1), M7)
def f_X6_passSpring_14 (k : Nat) (v1 : Int32) (v2 : Int32) (v3 : Int32) (M : fz_M) : Option (Int32 × fz_M) :=
  fz_lp (fun ag z => f_X6_passSpring_14_s k ag v1 z.1 z.2.1 z.2.2) fz_fuel (v2, v3, M)
def f_X6_passSpring (k : Nat) (v1 : Int32) (M : fz_M) : Option (Int32 × fz_M) :=
  fz_bd (fz_sf M k 0 ((fz_f M k 0) + 1)) fun M1 =>
  f_X6_passSpring_14 k v1 0 0 M1
def f_X6_countUnlike_5_s (k0 : Nat) (k1 : Nat) (ag5 : (Int32 × Int32) → Option Int32) (v2 : Int32) (v3 : Int32) (v4 : Int32) (M : fz_M) : Option Int32 :=
  if v2 ≤ v4 then
    some v3
  else
    fz_gd (fz_in v4 6) <|
    fz_gd (fz_in v4 6) <|
    if (fz_g M k0 v4) = (fz_g M k1 v4) then
      ag5 (v3, (v4 + 1))
    else
      ag5 ((v3 + 1), (v4 + 1))
def f_X6_countUnlike_5 (k0 : Nat) (k1 : Nat) (v2 : Int32) (v3 : Int32) (v4 : Int32) (M : fz_M) : Option Int32 :=
  fz_lp (fun ag z => f_X6_countUnlike_5_s k0 k1 ag v2 z.1 z.2 M) fz_fuel (v3, v4)
def f_X6_countUnlike (k0 : Nat) (k1 : Nat) (v2 : Int32) (M : fz_M) : Option Int32 :=
  f_X6_countUnlike_5 k0 k1 v2 0 0 M
def f_X6_countNotAtHome (k : Nat) (k0 : Nat) (M : fz_M) : Option Int32 :=
  fz_b1 (f_X6_countUnlike (k + 1) (k0 + 6) (fz_f M k0 2) M) fun r1 =>
  some r1
def f_X6_countNotOwnedByHome (k : Nat) (k0 : Nat) (M : fz_M) : Option Int32 :=
  fz_b1 (f_X6_countUnlike (k + 3) (k0 + 6) (fz_f M k0 2) M) fun r1 =>
  some r1
def f_X7_weigh_38 (k0 : Nat) (v2 : Int32) (v3 : Int32) (M : fz_M) : Option fz_M :=
  fz_gd (fz_in v3 6) <|
  fz_bd (fz_s M 13 v3 v2) fun M2 =>
  some M2
def f_X7_weigh (k0 : Nat) (v2 : Int32) (M : fz_M) : Option fz_M :=
  fz_gd (fz_in v2 10) <|
  fz_bd (fz_g M (k0 + 3) v2) fun x2 =>
  fz_gd (fz_in x2 6) <|
  fz_bd (fz_g M 13 x2) fun x4 =>
  if x4 = (-9) then
    f_X7_weigh_38 k0 v2 x2 M
  else
    fz_gd (fz_in x4 10) <|
    fz_gd (fz_in v2 10) <|
    if (fz_g M (k0 + 5) v2) ≤ (fz_g M (k0 + 5) x4) then
      some M
    else
      f_X7_weigh_38 k0 v2 x2 M
def f_X7_begin_76_s (k0 : Nat) (k1 : Nat) (ag76 : (Int32 × fz_M) → Option fz_M) (v3 : Int32) (v4 : Int32) (M : fz_M) : Option fz_M :=
  if (fz_f M k0 1) ≤ v4 then
    some M
  else
    if v4 = v3 then
      ag76 ((v4 + 1), M)
    else
      fz_gd (fz_in v4 10) <|
      if ¬ (fz_g M (k1 + 12) v4) = 0 then
        ag76 ((v4 + 1), M)
      else
        fz_b1 (f_X7_weigh k0 v4 M) fun M6 =>
        ag76 ((v4 + 1), M6)
def f_X7_begin_76 (k0 : Nat) (k1 : Nat) (v3 : Int32) (v4 : Int32) (M : fz_M) : Option fz_M :=
  fz_lp (fun ag z => f_X7_begin_76_s k0 k1 ag v3 z.1 z.2) fz_fuel (v4, M)
def f_X7_begin_49_s (k0 : Nat) (k1 : Nat) (ag49 : (Int32 × fz_M) → Option fz_M) (v3 : Int32) (v4 : Int32) (M : fz_M) : Option fz_M :=
  if (fz_f M k0 0) ≤ v4 then
    f_X7_begin_76 k0 k1 v3 0 M
  else
    fz_gd (fz_in v4 6) <|
    fz_bd (fz_s M 13 v4 (-9)) fun M3 =>
    ag49 ((v4 + 1), M3)
def f_X7_begin_49 (k0 : Nat) (k1 : Nat) (v3 : Int32) (v4 : Int32) (M : fz_M) : Option fz_M :=
  fz_lp (fun ag z => f_X7_begin_49_s k0 k1 ag v3 z.1 z.2) fz_fuel (v4, M)
def f_X7_begin_3_s (k0 : Nat) (k1 : Nat) (ag3 : (Int32 × fz_M) → Option fz_M) (v3 : Int32) (v4 : Int32) (M : fz_M) : Option fz_M :=
  if (fz_f M k0 2) ≤ v4 then
    f_X7_begin_49 k0 k1 v3 0 M
  else
    fz_gd (fz_in v4 6) <|
    fz_gd (fz_in v4 6) <|
    fz_bd (fz_s M 11 v4 (fz_g M (k1 + 1) v4)) fun M4 =>
    fz_gd (fz_in v4 6) <|
    fz_gd (fz_in v4 6) <|
    fz_bd (fz_s M4 12 v4 (fz_g M4 (k1 + 2) v4)) fun M7 =>
    ag3 ((v4 + 1), M7)
def f_X7_begin_3 (k0 : Nat) (k1 : Nat) (v3 : Int32) (v4 : Int32) (M : fz_M) : Option fz_M :=
  fz_lp (fun ag z => f_X7_begin_3_s k0 k1 ag v3 z.1 z.2) fz_fuel (v4, M)
def f_X7_begin (k0 : Nat) (k1 : Nat) (v3 : Int32) (M : fz_M) : Option fz_M :=
  f_X7_begin_3 k0 k1 v3 0 M
def f_X7_isLoose (k0 : Nat) (v2 : Int32) (v3 : Int32) (M : fz_M) : Option Int32 :=
  fz_gd (fz_in v2 6) <|
  fz_b1 (f_X3_waterIn k0 (fz_g M 11 v2) v3 M) fun r2 =>
  fz_gd (fz_in v2 6) <|
  if r2 < (fz_g M (k0 + 8) v2) then
    some 0
  else
    fz_gd (fz_in v2 6) <|
    if r2 ≤ (fz_g M 12 v2) then
      some 0
    else
      some 1
def f_X7_letGo_47 (k3 : Nat) (v1 : Int32) (M : fz_M) : Option fz_M :=
  fz_bd (fz_sf M 10 5 ((fz_f M 10 5) ||| (1 <<< (v1 &&& 31)))) fun M1 =>
  some M1
def f_X7_letGo (k3 : Nat) (v1 : Int32) (v2 : Int32) (v3 : Int32) (M : fz_M) : Option fz_M :=
  fz_gd (fz_in v1 6) <|
  fz_bd (fz_g M (k3 + 7) v1) fun x2 =>
  fz_gd (fz_in v2 6) <|
  fz_gd (fz_in v2 6) <|
  if (fz_g M (k3 + 2) v2) < ((fz_g M 14 v2) + x2) then
    f_X7_letGo_47 k3 v1 M
  else
    fz_gd (fz_in v3 6) <|
    fz_gd (fz_in v3 6) <|
    if ((fz_g M 14 v3) + x2) ≤ (fz_g M (k3 + 2) v3) then
      fz_gd (fz_in v2 6) <|
      fz_gd (fz_in v2 6) <|
      fz_bd (fz_s M 14 v2 ((fz_g M 14 v2) + x2)) fun M11 =>
      fz_gd (fz_in v3 6) <|
      fz_gd (fz_in v3 6) <|
      fz_bd (fz_s M11 14 v3 ((fz_g M11 14 v3) + x2)) fun M14 =>
      fz_gd (fz_in v1 6) <|
      fz_bd (fz_s M14 11 v1 v3) fun M16 =>
      fz_bd (fz_sf M16 10 4 ((fz_f M16 10 4) ||| (1 <<< (v1 &&& 31)))) fun M17 =>
      some M17
    else
      f_X7_letGo_47 k3 v1 M
def f_X7_passHour_35_s (k0 : Nat) (ag35 : (Int32 × fz_M) → Option fz_M) (v2 : Int32) (v3 : Int32) (M : fz_M) : Option fz_M :=
  if (fz_f M k0 2) ≤ v3 then
    some M
  else
    fz_gd (fz_in v3 6) <|
    fz_bd (fz_g M 11 v3) fun x3 =>
    fz_b1 (f_X7_isLoose k0 v3 v2 M) fun r4 =>
    if r4 = 0 then
      ag35 ((v3 + 1), M)
    else
      fz_gd (fz_in v3 6) <|
      fz_bd (fz_s M 12 v3 0) fun M9 =>
      fz_gd (fz_in x3 6) <|
      if (fz_g M9 13 x3) = (-9) then
        ag35 ((v3 + 1), M9)
      else
        fz_gd (fz_in x3 6) <|
        fz_gd (fz_in (fz_g M9 13 x3) 10) <|
        fz_b1 (f_X7_letGo k0 v3 x3 (fz_g M9 (k0 + 4) (fz_g M9 13 x3)) M9) fun M15 =>
        ag35 ((v3 + 1), M15)
def f_X7_passHour_35 (k0 : Nat) (v2 : Int32) (v3 : Int32) (M : fz_M) : Option fz_M :=
  fz_lp (fun ag z => f_X7_passHour_35_s k0 ag v2 z.1 z.2) fz_fuel (v3, M)
def f_X7_passHour_12_s (k0 : Nat) (ag12 : (Int32 × fz_M) → Option fz_M) (v2 : Int32) (v3 : Int32) (M : fz_M) : Option fz_M :=
  if (fz_f M k0 0) ≤ v3 then
    f_X7_passHour_35 k0 v2 0 M
  else
    fz_gd (fz_in v3 6) <|
    fz_bd (fz_s M 14 v3 0) fun M3 =>
    ag12 ((v3 + 1), M3)
def f_X7_passHour_12 (k0 : Nat) (v2 : Int32) (v3 : Int32) (M : fz_M) : Option fz_M :=
  fz_lp (fun ag z => f_X7_passHour_12_s k0 ag v2 z.1 z.2) fz_fuel (v3, M)
def f_X7_passHour (k0 : Nat) (v2 : Int32) (M : fz_M) : Option fz_M :=
  fz_bd (fz_sf M 10 4 0) fun M1 =>
  fz_bd (fz_sf M1 10 5 0) fun M2 =>
  f_X7_passHour_12 k0 v2 0 M2
def f_X7_passHours_3_s (k0 : Nat) (ag3 : (Int32 × fz_M) → Option fz_M) (v2 : Int32) (v3 : Int32) (v4 : Int32) (M : fz_M) : Option fz_M :=
  if v3 ≤ v4 then
    some M
  else
    fz_b1 (f_X7_passHour k0 v2 M) fun M3 =>
    if ¬ (fz_f M3 10 4) = 0 then
      ag3 ((v4 + 1), M3)
    else
      some M3
def f_X7_passHours_3 (k0 : Nat) (v2 : Int32) (v3 : Int32) (v4 : Int32) (M : fz_M) : Option fz_M :=
  fz_lp (fun ag z => f_X7_passHours_3_s k0 ag v2 v3 z.1 z.2) fz_fuel (v4, M)
def f_X7_passHours (k0 : Nat) (v2 : Int32) (v3 : Int32) (M : fz_M) : Option fz_M :=
  f_X7_passHours_3 k0 v2 v3 0 M
def f_X8_write (v1 : Int32) (v2 : Int64) (M : fz_M) : Option (Int32 × fz_M) :=
  if v1 < 1 then
    some ((-2), M)
  else
    if v1 ≤ 8 then
      if ((fz_f M 1 1) + v1) ≤ 96 then
        fz_b1 (f_X1_append v1 v2 M) fun M5 =>
        some ((fz_f M5 1 1), M5)
      else
        some ((-4), M)
    else
      some ((-2), M)
def f_X8_wipe (M : fz_M) : Option (Int32 × fz_M) :=
  fz_bd (fz_f M 1 1) fun x1 =>
  fz_bd (fz_sf M 1 1 0) fun M2 =>
  some (x1, M2)
def f_X8_fault (M : fz_M) : Option (Int32 × fz_M) :=
  fz_bd (fz_d M 0 10) fun y1 =>
  fz_gd (fz_isP y1) <|
  fz_b2 (f_X4_firstFault y1 M) fun r3 M4 =>
  some (r3, M4)
def f_X8_town_61_s (ag61 : (Int32 × fz_M) → Option (Int32 × fz_M)) (v2 : Int32) (M : fz_M) : Option (Int32 × fz_M) :=
  if 2 ≤ v2 then
    fz_bd (fz_d M 0 9) fun y2 =>
    fz_gd (fz_isP y2) <|
    some ((fz_f M y2 0), M)
  else
    fz_gd (fz_in v2 2) <|
    fz_bd (fz_s M 19 v2 (fz_z 0)) fun M5 =>
    ag61 ((v2 + 1), M5)
def f_X8_town_61 (v2 : Int32) (M : fz_M) : Option (Int32 × fz_M) :=
  fz_lp (fun ag z => f_X8_town_61_s ag z.1 z.2) fz_fuel (v2, M)
def f_X8_town (M : fz_M) : Option (Int32 × fz_M) :=
  fz_bd (fz_d M 0 10) fun y1 =>
  fz_gd (fz_isP y1) <|
  fz_b2 (f_X4_firstFault y1 M) fun r3 M4 =>
  if r3 = (-9) then
    fz_bd (fz_d M4 0 10) fun y7 =>
    fz_gd (fz_isP y7) <|
    fz_bd (fz_d M4 0 9) fun y9 =>
    fz_gd (fz_isP y9) <|
    fz_bd (fz_sd M4 0 10 y9) fun M11 =>
    fz_bd (fz_sd M11 0 9 y7) fun M12 =>
    fz_bd (fz_d M12 0 9) fun y13 =>
    fz_gd (fz_isP y13) <|
    fz_b1 (f_X6_begin 40 y13 M12) fun M16 =>
    fz_b1 (f_X0_forgetAll M16) fun M19 =>
    f_X8_town_61 0 M19
  else
    some ((-3), M4)
def f_X8_about (v1 : Int32) (M : fz_M) : Option Int32 :=
  if v1 = 0 then
    fz_bd (fz_d M 0 9) fun y2 =>
    fz_gd (fz_isP y2) <|
    some (fz_f M y2 0)
  else
  if v1 = 1 then
    fz_bd (fz_d M 0 9) fun y5 =>
    fz_gd (fz_isP y5) <|
    some (fz_f M y5 1)
  else
  if v1 = 2 then
    fz_bd (fz_d M 0 9) fun y8 =>
    fz_gd (fz_isP y8) <|
    some (fz_f M y8 2)
  else
  if v1 = 3 then
    some (fz_f M 40 0)
  else
  if v1 = 4 then
    some (fz_f M 5 2)
  else
  if v1 = 5 then
    fz_bd (fz_d M 0 9) fun y13 =>
    fz_gd (fz_isP y13) <|
    fz_b1 (f_X6_countNotAtHome 40 y13 M) fun r15 =>
    some r15
  else
  if v1 = 6 then
    fz_bd (fz_d M 0 9) fun y19 =>
    fz_gd (fz_isP y19) <|
    fz_b1 (f_X6_countNotOwnedByHome 40 y19 M) fun r21 =>
    some r21
  else
  if v1 = 7 then
    some (fz_f M 7 2)
  else
  if v1 = 8 then
    some (fz_f M 1 1)
  else
  some (-2)
def f_X8_isHouse (v1 : Int32) (M : fz_M) : Option Int32 :=
  if v1 < 0 then
    some 0
  else
    fz_bd (fz_d M 0 9) fun y2 =>
    fz_gd (fz_isP y2) <|
    if (fz_f M y2 0) ≤ v1 then
      some 0
    else
      some 1
def f_X8_piecesIn_4_s (ag4 : (Int32 × Int32) → Option Int32) (v1 : Int32) (v2 : Int32) (v3 : Int32) (M : fz_M) : Option Int32 :=
  fz_bd (fz_d M 0 9) fun y1 =>
  fz_gd (fz_isP y1) <|
  if (fz_f M y1 2) ≤ v3 then
    some v2
  else
    fz_gd (fz_in v3 6) <|
    if ¬ (fz_g M (40 + 1) v3) = v1 then
      ag4 (v2, (v3 + 1))
    else
      fz_bd (v2 ||| (1 <<< (v3 &&& 31))) fun x6 =>
      ag4 (x6, (v3 + 1))
def f_X8_piecesIn_4 (v1 : Int32) (v2 : Int32) (v3 : Int32) (M : fz_M) : Option Int32 :=
  fz_lp (fun ag z => f_X8_piecesIn_4_s ag v1 z.1 z.2 M) fz_fuel (v2, v3)
def f_X8_piecesIn (v1 : Int32) (M : fz_M) : Option Int32 :=
  f_X8_piecesIn_4 v1 0 0 M
def f_X8_widthOf_5_s (k0 : Nat) (ag5 : (Int32 × Int32) → Option Int32) (v2 : Int32) (v3 : Int32) (v4 : Int32) (M : fz_M) : Option Int32 :=
  fz_bd (fz_d M 0 9) fun y1 =>
  fz_gd (fz_isP y1) <|
  if (fz_f M y1 2) ≤ v4 then
    some v3
  else
    fz_gd (fz_in v4 6) <|
    if ¬ (fz_g M k0 v4) = v2 then
      ag5 (v3, (v4 + 1))
    else
      fz_bd (fz_d M 0 9) fun y6 =>
      fz_gd (fz_isP y6) <|
      fz_gd (fz_in v4 6) <|
      fz_bd (v3 + (fz_g M (y6 + 7) v4)) fun x9 =>
      ag5 (x9, (v4 + 1))
def f_X8_widthOf_5 (k0 : Nat) (v2 : Int32) (v3 : Int32) (v4 : Int32) (M : fz_M) : Option Int32 :=
  fz_lp (fun ag z => f_X8_widthOf_5_s k0 ag v2 z.1 z.2 M) fz_fuel (v3, v4)
def f_X8_widthOf (k0 : Nat) (v2 : Int32) (M : fz_M) : Option Int32 :=
  f_X8_widthOf_5 k0 v2 0 0 M
def f_X8_house (v1 : Int32) (v2 : Int32) (M : fz_M) : Option Int32 :=
  fz_b1 (f_X8_isHouse v1 M) fun r1 =>
  if ¬ r1 = 0 then
    if v2 = 0 then
      fz_bd (fz_d M 0 9) fun y6 =>
      fz_gd (fz_isP y6) <|
      fz_gd (fz_in v1 6) <|
      some (fz_g M (y6 + 1) v1)
    else
    if v2 = 1 then
      fz_bd (fz_d M 0 9) fun y10 =>
      fz_gd (fz_isP y10) <|
      fz_gd (fz_in v1 6) <|
      some (fz_g M (y10 + 2) v1)
    else
    if v2 = 2 then
      fz_b1 (f_X8_piecesIn v1 M) fun r14 =>
      some r14
    else
    if v2 = 3 then
      fz_b1 (f_X8_widthOf (40 + 1) v1 M) fun r18 =>
      some r18
    else
    some (-2)
  else
    some (-1)
def f_X8_isStream (v1 : Int32) (M : fz_M) : Option Int32 :=
  if v1 < 0 then
    some 0
  else
    fz_bd (fz_d M 0 9) fun y2 =>
    fz_gd (fz_isP y2) <|
    if (fz_f M y2 1) ≤ v1 then
      some 0
    else
      some 1
def f_X8_stream (v1 : Int32) (v2 : Int32) (M : fz_M) : Option Int32 :=
  fz_b1 (f_X8_isStream v1 M) fun r1 =>
  if ¬ r1 = 0 then
    if v2 = 0 then
      fz_bd (fz_d M 0 9) fun y6 =>
      fz_gd (fz_isP y6) <|
      fz_gd (fz_in v1 10) <|
      some (fz_g M (y6 + 3) v1)
    else
    if v2 = 1 then
      fz_bd (fz_d M 0 9) fun y10 =>
      fz_gd (fz_isP y10) <|
      fz_gd (fz_in v1 10) <|
      some (fz_g M (y10 + 4) v1)
    else
    if v2 = 2 then
      fz_bd (fz_d M 0 9) fun y14 =>
      fz_gd (fz_isP y14) <|
      fz_gd (fz_in v1 10) <|
      some (fz_g M (y14 + 5) v1)
    else
    if v2 = 3 then
      fz_gd (fz_in v1 10) <|
      if (fz_g M (40 + 12) v1) = 0 then
        some 0
      else
        some 1
    else
    some (-2)
  else
    some (-1)
def f_X8_isPiece (v1 : Int32) (M : fz_M) : Option Int32 :=
  if v1 < 0 then
    some 0
  else
    fz_bd (fz_d M 0 9) fun y2 =>
    fz_gd (fz_isP y2) <|
    if (fz_f M y2 2) ≤ v1 then
      some 0
    else
      some 1
def f_X8_piece (v1 : Int32) (v2 : Int32) (M : fz_M) : Option Int32 :=
  fz_b1 (f_X8_isPiece v1 M) fun r1 =>
  if ¬ r1 = 0 then
    if v2 = 0 then
      fz_gd (fz_in v1 6) <|
      some (fz_g M (40 + 1) v1)
    else
    if v2 = 1 then
      fz_bd (fz_d M 0 9) fun y8 =>
      fz_gd (fz_isP y8) <|
      fz_gd (fz_in v1 6) <|
      some (fz_g M (y8 + 7) v1)
    else
    if v2 = 2 then
      fz_bd (fz_d M 0 9) fun y12 =>
      fz_gd (fz_isP y12) <|
      fz_gd (fz_in v1 6) <|
      some (fz_g M (y12 + 8) v1)
    else
    if v2 = 3 then
      fz_gd (fz_in v1 6) <|
      some (fz_g M (40 + 2) v1)
    else
    if v2 = 4 then
      fz_bd (fz_d M 0 9) fun y18 =>
      fz_gd (fz_isP y18) <|
      fz_gd (fz_in v1 6) <|
      some (fz_g M (y18 + 6) v1)
    else
    if v2 = 5 then
      fz_gd (fz_in v1 6) <|
      some (fz_g M (40 + 3) v1)
    else
    some (-2)
  else
    some (-1)
def f_X8_owner (v1 : Int32) (v2 : Int32) (M : fz_M) : Option Int32 :=
  fz_b1 (f_X8_isPiece v1 M) fun r1 =>
  if ¬ r1 = 0 then
    if v2 < 0 then
      some (-9)
    else
      fz_gd (fz_in v1 6) <|
      if v2 < (fz_g M (40 + 4) v1) then
        fz_gd (fz_in v1 6) <|
        fz_gd (fz_in v2 8) <|
        some (fz_g M ((40 + 6) + 1 * v1.toNatClampNeg) v2)
      else
        some (-9)
  else
    some (-1)
def f_X8_tie (v1 : Int32) (v2 : Int32) (M : fz_M) : Option (Int32 × fz_M) :=
  fz_b1 (f_X8_isPiece v1 M) fun r1 =>
  if ¬ r1 = 0 then
    if v2 < 0 then
      some ((-2), M)
    else
      if v2 ≤ 9 then
        fz_gd (fz_in v1 6) <|
        fz_bd (fz_g M (40 + 2) v1) fun x8 =>
        fz_gd (fz_in v1 6) <|
        fz_bd (fz_s M (40 + 2) v1 v2) fun M10 =>
        some (x8, M10)
      else
        some ((-2), M)
  else
    some ((-1), M)
def f_X8_carry (v1 : Int32) (v2 : Int32) (M : fz_M) : Option (Int32 × fz_M) :=
  fz_b1 (f_X8_isPiece v1 M) fun r1 =>
  if r1 = 0 then
    some ((-1), M)
  else
    fz_b1 (f_X8_isHouse v2 M) fun r5 =>
    if ¬ r5 = 0 then
      fz_gd (fz_in v1 6) <|
      fz_bd (fz_g M (40 + 1) v1) fun x10 =>
      fz_gd (fz_in v1 6) <|
      fz_bd (fz_s M (40 + 1) v1 v2) fun M12 =>
      some (x10, M12)
    else
      some ((-1), M)
def f_X8_shut (v1 : Int32) (v2 : Int32) (M : fz_M) : Option (Int32 × fz_M) :=
  fz_b1 (f_X8_isStream v1 M) fun r1 =>
  if ¬ r1 = 0 then
    fz_gd (fz_in v1 10) <|
    fz_bd (fz_g M (40 + 12) v1) fun x6 =>
    fz_gd (fz_in v1 10) <|
    fz_bd (fz_s M (40 + 12) v1 (fz_z v2)) fun M8 =>
    if ¬ x6 = v2 then
      some (1, M8)
    else
      some (0, M8)
  else
    some ((-1), M)
def f_X8_isLevel (v0 : Int32) (M : fz_M) : Option Int32 :=
  if v0 < 0 then
    some 0
  else
    if 19 < v0 then
      some 0
    else
      some 1
def f_X8_deep (v1 : Int32) (v2 : Int32) (M : fz_M) : Option Int32 :=
  fz_b1 (f_X8_isHouse v1 M) fun r1 =>
  if ¬ r1 = 0 then
    fz_b1 (f_X8_isLevel v2 M) fun r5 =>
    if ¬ r5 = 0 then
      fz_bd (fz_d M 0 9) fun y9 =>
      fz_gd (fz_isP y9) <|
      fz_b1 (f_X3_waterIn y9 v1 v2 M) fun r11 =>
      some r11
    else
      some (-2)
  else
    some (-1)
def f_X8_hour (v1 : Int32) (M : fz_M) : Option (Int32 × fz_M) :=
  fz_b1 (f_X8_isLevel v1 M) fun r1 =>
  if ¬ r1 = 0 then
    fz_b1 (f_X0_remember 40 M) fun M6 =>
    fz_bd (fz_d M6 0 9) fun y8 =>
    fz_gd (fz_isP y8) <|
    fz_b1 (f_X7_begin y8 40 (-9) M6) fun M11 =>
    fz_bd (fz_d M11 0 9) fun y13 =>
    fz_gd (fz_isP y13) <|
    fz_b1 (f_X7_passHour y13 v1 M11) fun M16 =>
    fz_b1 (f_X6_takePlacesAndTies 40 11 12 M16) fun M19 =>
    some ((fz_f M19 10 4), M19)
  else
    some ((-2), M)
def f_X8_jams (v1 : Int32) (M : fz_M) : Option (Int32 × fz_M) :=
  fz_b1 (f_X8_isLevel v1 M) fun r1 =>
  if ¬ r1 = 0 then
    fz_bd (fz_d M 0 9) fun y5 =>
    fz_gd (fz_isP y5) <|
    fz_b1 (f_X7_begin y5 40 (-9) M) fun M8 =>
    fz_bd (fz_d M8 0 9) fun y10 =>
    fz_gd (fz_isP y10) <|
    fz_b1 (f_X7_passHour y10 v1 M8) fun M13 =>
    some ((fz_f M13 10 5), M13)
  else
    some ((-2), M)
def f_X8_spring (M : fz_M) : Option (Int32 × fz_M) :=
  fz_b1 (f_X0_remember 40 M) fun M2 =>
  fz_bd (fz_d M2 0 9) fun y4 =>
  fz_gd (fz_isP y4) <|
  fz_b2 (f_X6_passSpring 40 (fz_f M2 y4 2) M2) fun r6 M7 =>
  some (r6, M7)
def f_X8_undo (M : fz_M) : Option (Int32 × fz_M) :=
  if ¬ (fz_f M 5 2) = 0 then
    fz_b1 (f_X0_takeBack 40 M) fun M3 =>
    some ((fz_f M3 5 2), M3)
  else
    some ((-3), M)
def f_X8_areHours (v0 : Int32) (M : fz_M) : Option Int32 :=
  if v0 < 1 then
    some 0
  else
    if 9 < v0 then
      some 0
    else
      some 1
def f_X8_after (v1 : Int32) (v2 : Int32) (v3 : Int32) (M : fz_M) : Option (Int32 × fz_M) :=
  fz_b1 (f_X8_isPiece v1 M) fun r1 =>
  if ¬ r1 = 0 then
    fz_b1 (f_X8_isLevel v2 M) fun r5 =>
    if r5 = 0 then
      some ((-2), M)
    else
      fz_b1 (f_X8_areHours v3 M) fun r9 =>
      if ¬ r9 = 0 then
        fz_bd (fz_d M 0 9) fun y13 =>
        fz_gd (fz_isP y13) <|
        fz_b1 (f_X7_begin y13 40 (-9) M) fun M16 =>
        fz_bd (fz_d M16 0 9) fun y18 =>
        fz_gd (fz_isP y18) <|
        fz_b1 (f_X7_passHours y18 v2 v3 M16) fun M21 =>
        fz_gd (fz_in v1 6) <|
        some ((fz_g M21 11 v1), M21)
      else
        some ((-2), M)
  else
    some ((-1), M)
def f_X8_arePieces (v1 : Int32) (M : fz_M) : Option Int32 :=
  if v1 < 0 then
    some 0
  else
    fz_bd (fz_d M 0 9) fun y2 =>
    fz_gd (fz_isP y2) <|
    if (1 <<< ((fz_f M y2 2) &&& 31)) ≤ v1 then
      some 0
    else
      some 1
def f_X8_tieAll_5_s (ag5 : (Int32 × Int32 × fz_M) → Option (Int32 × fz_M)) (v1 : Int32) (v2 : Int32) (v3 : Int32) (v4 : Int32) (M : fz_M) : Option (Int32 × fz_M) :=
  fz_bd (fz_d M 0 9) fun y1 =>
  fz_gd (fz_isP y1) <|
  if (fz_f M y1 2) ≤ v4 then
    some (v3, M)
  else
    if ¬ ((v1 >>> (v4 &&& 31)) &&& 1) = 1 then
      ag5 (v3, (v4 + 1), M)
    else
      fz_bd (fz_d M 0 9) fun y5 =>
      fz_gd (fz_isP y5) <|
      fz_gd (fz_in v4 6) <|
      fz_b1 (f_X3_waterIn y5 (fz_g M 11 v4) v2 M) fun r8 =>
      fz_bd (if 9 < r8 then 9 else r8) fun x11 =>
      fz_gd (fz_in v4 6) <|
      fz_bd (fz_s M 12 v4 x11) fun M13 =>
      fz_bd (v3 + x11) fun x14 =>
      ag5 (x14, (v4 + 1), M13)
def f_X8_tieAll_5 (v1 : Int32) (v2 : Int32) (v3 : Int32) (v4 : Int32) (M : fz_M) : Option (Int32 × fz_M) :=
  fz_lp (fun ag z => f_X8_tieAll_5_s ag v1 v2 z.1 z.2.1 z.2.2) fz_fuel (v3, v4, M)
def f_X8_tieAll (v1 : Int32) (v2 : Int32) (M : fz_M) : Option (Int32 × fz_M) :=
  f_X8_tieAll_5 v1 v2 0 0 M
def f_X8_areWhereTheyWere_2_s (ag2 : (Int32) → Option Int32) (v1 : Int32) (v2 : Int32) (M : fz_M) : Option Int32 :=
  fz_bd (fz_d M 0 9) fun y1 =>
  fz_gd (fz_isP y1) <|
  if (fz_f M y1 2) ≤ v2 then
    some 1
  else
    if ¬ ((v1 >>> (v2 &&& 31)) &&& 1) = 1 then
      ag2 (v2 + 1)
    else
      fz_gd (fz_in v2 6) <|
      fz_gd (fz_in v2 6) <|
      if (fz_g M 11 v2) = (fz_g M (40 + 1) v2) then
        ag2 (v2 + 1)
      else
        some 0
def f_X8_areWhereTheyWere_2 (v1 : Int32) (v2 : Int32) (M : fz_M) : Option Int32 :=
  fz_lp (fun ag z => f_X8_areWhereTheyWere_2_s ag v1 z M) fz_fuel v2
def f_X8_areWhereTheyWere (v1 : Int32) (M : fz_M) : Option Int32 :=
  f_X8_areWhereTheyWere_2 v1 0 M
def f_X8_ties_94 (ag47 : (Int32 × Int32 × Int32 × fz_M) → Option (Int32 × fz_M)) (v1 : Int32) (v2 : Int32) (v3 : Int32) (v4 : Int32) (v5 : Int32) (v6 : Int32) (v7 : Int32) (v8 : Int32) (v9 : Int32) (M : fz_M) : Option (Int32 × fz_M) :=
  fz_bd (fz_d M 0 9) fun y1 =>
  fz_gd (fz_isP y1) <|
  fz_b1 (f_X7_passHours y1 v2 v3 M) fun M4 =>
  fz_b1 (f_X8_areWhereTheyWere v1 M4) fun r6 =>
  if r6 = 0 then
    ag47 (v5, v6, (v8 + 1), M4)
  else
    ag47 (v9, v8, (v8 + 1), M4)
def f_X8_ties_47_s (ag47 : (Int32 × Int32 × Int32 × fz_M) → Option (Int32 × fz_M)) (v1 : Int32) (v2 : Int32) (v3 : Int32) (v4 : Int32) (v7 : Int32) (v5 : Int32) (v6 : Int32) (v8 : Int32) (M : fz_M) : Option (Int32 × fz_M) :=
  if v7 ≤ v8 then
    if v4 = 0 then
      some (v5, M)
    else
      some (v6, M)
  else
    fz_bd (fz_d M 0 9) fun y3 =>
    fz_gd (fz_isP y3) <|
    fz_b1 (f_X7_begin y3 40 (-9) M) fun M6 =>
    fz_b2 (f_X8_tieAll v8 v2 M6) fun r8 M9 =>
    if v6 = (-9) then
      f_X8_ties_94 ag47 v1 v2 v3 v4 v5 v6 v7 v8 r8 M9
    else
      if v5 ≤ r8 then
        ag47 (v5, v6, (v8 + 1), M9)
      else
        f_X8_ties_94 ag47 v1 v2 v3 v4 v5 v6 v7 v8 r8 M9
def f_X8_ties_47 (v1 : Int32) (v2 : Int32) (v3 : Int32) (v4 : Int32) (v5 : Int32) (v6 : Int32) (v7 : Int32) (v8 : Int32) (M : fz_M) : Option (Int32 × fz_M) :=
  fz_lp (fun ag z => f_X8_ties_47_s ag v1 v2 v3 v4 v7 z.1 z.2.1 z.2.2.1 z.2.2.2) fz_fuel (v5, v6, v8, M)
def f_X8_ties (v1 : Int32) (v2 : Int32) (v3 : Int32) (v4 : Int32) (M : fz_M) : Option (Int32 × fz_M) :=
  fz_b1 (f_X8_arePieces v1 M) fun r1 =>
  if r1 = 0 then
    some ((-2), M)
  else
    fz_b1 (f_X8_isLevel v2 M) fun r5 =>
    if r5 = 0 then
      some ((-2), M)
    else
      fz_b1 (f_X8_areHours v3 M) fun r9 =>
      if ¬ r9 = 0 then
        fz_bd (fz_d M 0 9) fun y13 =>
        fz_gd (fz_isP y13) <|
        fz_bd (1 <<< ((fz_f M y13 2) &&& 31)) fun x15 =>
        f_X8_ties_47 v1 v2 v3 v4 (-9) (-9) x15 0 M
      else
        some ((-2), M)
def f_X8_dowry_39_s (ag39 : (Int32 × fz_M) → Option (Int32 × fz_M)) (v1 : Int32) (v2 : Int32) (v3 : Int32) (v4 : Int32) (v5 : Int32) (M : fz_M) : Option (Int32 × fz_M) :=
  fz_bd (fz_d M 0 9) fun y1 =>
  fz_gd (fz_isP y1) <|
  if (fz_f M y1 0) ≤ v5 then
    some ((-9), M)
  else
    fz_bd (fz_d M 0 9) fun y4 =>
    fz_gd (fz_isP y4) <|
    fz_b1 (f_X7_begin y4 40 (-9) M) fun M7 =>
    fz_gd (fz_in v1 6) <|
    fz_bd (fz_s M7 11 v1 v5) fun M10 =>
    fz_bd (fz_d M10 0 9) fun y11 =>
    fz_gd (fz_isP y11) <|
    fz_b1 (f_X7_passHours y11 v2 v3 M10) fun M14 =>
    fz_gd (fz_in v1 6) <|
    if ¬ (fz_g M14 11 v1) = v4 then
      ag39 ((v5 + 1), M14)
    else
      some (v5, M14)
def f_X8_dowry_39 (v1 : Int32) (v2 : Int32) (v3 : Int32) (v4 : Int32) (v5 : Int32) (M : fz_M) : Option (Int32 × fz_M) :=
  fz_lp (fun ag z => f_X8_dowry_39_s ag v1 v2 v3 v4 z.1 z.2) fz_fuel (v5, M)
def f_X8_dowry (v1 : Int32) (v2 : Int32) (v3 : Int32) (v4 : Int32) (M : fz_M) : Option (Int32 × fz_M) :=
  fz_b1 (f_X8_isPiece v1 M) fun r1 =>
  if r1 = 0 then
    some ((-1), M)
  else
    fz_b1 (f_X8_isHouse v4 M) fun r5 =>
    if ¬ r5 = 0 then
      fz_b1 (f_X8_isLevel v2 M) fun r9 =>
      if r9 = 0 then
        some ((-2), M)
      else
        fz_b1 (f_X8_areHours v3 M) fun r13 =>
        if ¬ r13 = 0 then
          f_X8_dowry_39 v1 v2 v3 v4 0 M
        else
          some ((-2), M)
    else
      some ((-1), M)
def f_X8_toShut_78_s (ag78 : (Int32 × Int32 × Int32 × fz_M) → Option (Int32 × fz_M)) (v1 : Int32) (v2 : Int32) (v3 : Int32) (v4 : Int32) (v5 : Int32) (v6 : Int32) (M : fz_M) : Option (Int32 × fz_M) :=
  fz_bd (fz_d M 0 9) fun y1 =>
  fz_gd (fz_isP y1) <|
  if (fz_f M y1 1) ≤ v6 then
    some (v5, M)
  else
    fz_bd (fz_d M 0 9) fun y4 =>
    fz_gd (fz_isP y4) <|
    fz_b1 (f_X7_begin y4 40 v6 M) fun M7 =>
    fz_bd (fz_d M7 0 9) fun y9 =>
    fz_gd (fz_isP y9) <|
    fz_b1 (f_X7_passHours y9 v2 v3 M7) fun M12 =>
    fz_b1 (f_X8_widthOf 11 v1 M12) fun r14 =>
    if r14 ≤ v4 then
      ag78 (v4, v5, (v6 + 1), M12)
    else
      ag78 (r14, v6, (v6 + 1), M12)
def f_X8_toShut_78 (v1 : Int32) (v2 : Int32) (v3 : Int32) (v4 : Int32) (v5 : Int32) (v6 : Int32) (M : fz_M) : Option (Int32 × fz_M) :=
  fz_lp (fun ag z => f_X8_toShut_78_s ag v1 v2 v3 z.1 z.2.1 z.2.2.1 z.2.2.2) fz_fuel (v4, v5, v6, M)
def f_X8_toShut (v1 : Int32) (v2 : Int32) (v3 : Int32) (M : fz_M) : Option (Int32 × fz_M) :=
  fz_b1 (f_X8_isHouse v1 M) fun r1 =>
  if ¬ r1 = 0 then
    fz_b1 (f_X8_isLevel v2 M) fun r5 =>
    if r5 = 0 then
      some ((-2), M)
    else
      fz_b1 (f_X8_areHours v3 M) fun r9 =>
      if ¬ r9 = 0 then
        fz_bd (fz_d M 0 9) fun y13 =>
        fz_gd (fz_isP y13) <|
        fz_b1 (f_X7_begin y13 40 (-9) M) fun M16 =>
        fz_bd (fz_d M16 0 9) fun y18 =>
        fz_gd (fz_isP y18) <|
        fz_b1 (f_X7_passHours y18 v2 v3 M16) fun M21 =>
        fz_b1 (f_X8_widthOf 11 v1 M21) fun r23 =>
        f_X8_toShut_78 v1 v2 v3 r23 (-9) 0 M21
      else
        some ((-2), M)
  else
    some ((-1), M)
def f_X8_commonPower_39 (v5 : Int64) (M : fz_M) : Option Int64 :=
  some v5
def f_X8_commonPower_6_s (ag6 : (Int64 × Int32) → Option Int64) (v0 : Int64) (v2 : Int64) (v4 : Int32) (v5 : Int64) (v7 : Int32) (M : fz_M) : Option Int64 :=
  if 9 ≤ v7 then
    some v5
  else
    fz_bd (v5 * (v4.toInt64)) fun x2 =>
    fz_gd (fz_nzl x2) <|
    if ¬ (lg_cmp (v0 - v0 / x2 * x2) 0) = 0 then
      f_X8_commonPower_39 v5 M
    else
      fz_gd (fz_nzl x2) <|
      if (lg_cmp (v2 - v2 / x2 * x2) 0) = 0 then
        ag6 (x2, (v7 + 1))
      else
        f_X8_commonPower_39 v5 M
def f_X8_commonPower_6 (v0 : Int64) (v2 : Int64) (v4 : Int32) (v5 : Int64) (v7 : Int32) (M : fz_M) : Option Int64 :=
  fz_lp (fun ag z => f_X8_commonPower_6_s ag v0 v2 v4 z.1 z.2 M) fz_fuel (v5, v7)
def f_X8_commonPower (v0 : Int64) (v2 : Int64) (v4 : Int32) (M : fz_M) : Option Int64 :=
  f_X8_commonPower_6 v0 v2 v4 1 0 M
def f_X8_drawn_17 (M : fz_M) : Option (Int64 × fz_M) :=
  some ((-1), M)
def f_X8_drawn_35 (M : fz_M) : Option (Int64 × fz_M) :=
  some ((-2), M)
def f_X8_drawn_61_s (ag61 : (Int64 × Int32 × fz_M) → Option (Int64 × fz_M)) (v1 : Int32) (v2 : Int32) (v3 : Int32) (v4 : Int32) (v5 : Int32) (v6 : Int64) (v8 : Int32) (M : fz_M) : Option (Int64 × fz_M) :=
  if v3 ≤ v8 then
    fz_bd (fz_d M 15 0) fun y2 =>
    fz_gd (fz_isL y2) <|
    fz_gd (fz_in v4 6) <|
    fz_bd (fz_gl M y2 v4) fun x5 =>
    fz_b1 (f_X8_commonPower x5 v6 2 M) fun r6 =>
    fz_b1 (f_X8_commonPower x5 v6 5 M) fun r9 =>
    fz_bd (r6 * r9) fun x12 =>
    if v5 = 0 then
      fz_gd (fz_nzl x12) <|
      some ((v6 / x12), M)
    else
      fz_gd (fz_nzl x12) <|
      some ((x5 / x12), M)
  else
    fz_bd (fz_d M 0 9) fun y16 =>
    fz_gd (fz_isP y16) <|
    fz_bd (fz_d M 0 9) fun y18 =>
    fz_gd (fz_isP y18) <|
    fz_gd (fz_in v1 6) <|
    fz_b1 (f_X5_drawHour y16 (40 + 12) (fz_g M (y18 + 8) v1) v2 M) fun M22 =>
    fz_bd (v6 * 10) fun x24 =>
    ag61 (x24, (v8 + 1), M22)
def f_X8_drawn_61 (v1 : Int32) (v2 : Int32) (v3 : Int32) (v4 : Int32) (v5 : Int32) (v6 : Int64) (v8 : Int32) (M : fz_M) : Option (Int64 × fz_M) :=
  fz_lp (fun ag z => f_X8_drawn_61_s ag v1 v2 v3 v4 v5 z.1 z.2.1 z.2.2) fz_fuel (v6, v8, M)
def f_X8_drawn (v1 : Int32) (v2 : Int32) (v3 : Int32) (v4 : Int32) (v5 : Int32) (M : fz_M) : Option (Int64 × fz_M) :=
  fz_b1 (f_X8_isPiece v1 M) fun r1 =>
  if r1 = 0 then
    f_X8_drawn_17 M
  else
    fz_b1 (f_X8_isHouse v4 M) fun r5 =>
    if ¬ r5 = 0 then
      fz_b1 (f_X8_isLevel v2 M) fun r9 =>
      if r9 = 0 then
        f_X8_drawn_35 M
      else
        fz_b1 (f_X8_areHours v3 M) fun r13 =>
        if ¬ r13 = 0 then
          fz_gd (fz_in v1 6) <|
          fz_b1 (f_X5_begin (fz_g M (40 + 1) v1) M) fun M19 =>
          f_X8_drawn_61 v1 v2 v3 v4 v5 1 0 M19
        else
          f_X8_drawn_35 M
    else
      f_X8_drawn_17 M
def f_X8_goesFrom_54_s (ag54 : (Int32) → Option (Int32 × fz_M)) (v1 : Int32) (v2 : Int32) (M : fz_M) : Option (Int32 × fz_M) :=
  if 19 < v2 then
    some ((-9), M)
  else
    fz_bd (fz_d M 0 9) fun y2 =>
    fz_gd (fz_isP y2) <|
    fz_b1 (f_X7_isLoose y2 v1 v2 M) fun r4 =>
    if r4 = 0 then
      ag54 (v2 + 1)
    else
      some (v2, M)
def f_X8_goesFrom_54 (v1 : Int32) (v2 : Int32) (M : fz_M) : Option (Int32 × fz_M) :=
  fz_lp (fun ag z => f_X8_goesFrom_54_s ag v1 z M) fz_fuel v2
def f_X8_goesFrom (v1 : Int32) (M : fz_M) : Option (Int32 × fz_M) :=
  fz_b1 (f_X8_isPiece v1 M) fun r1 =>
  if ¬ r1 = 0 then
    fz_bd (fz_d M 0 9) fun y5 =>
    fz_gd (fz_isP y5) <|
    fz_b1 (f_X7_begin y5 40 (-9) M) fun M8 =>
    fz_gd (fz_in v1 6) <|
    fz_gd (fz_in (fz_g M8 (40 + 1) v1) 6) <|
    if ¬ (fz_g M8 13 (fz_g M8 (40 + 1) v1)) = (-9) then
      f_X8_goesFrom_54 v1 0 M8
    else
      some ((-9), M8)
  else
    some ((-1), M)
def f_X8_mark (v1 : Int32) (v2 : Int32) (M : fz_M) : Option (Int32 × fz_M) :=
  fz_b1 (f_X8_isHouse v2 M) fun r1 =>
  if ¬ r1 = 0 then
    if v1 < 1 then
      some ((-2), M)
    else
      if v1 ≤ 9 then
        if (fz_f M 7 2) < 8 then
          fz_b1 (f_X2_add v1 v2 M) fun M9 =>
          some ((fz_f M9 7 2), M9)
        else
          some ((-4), M)
      else
        some ((-2), M)
  else
    some ((-1), M)
def f_X8_unmark (M : fz_M) : Option (Int32 × fz_M) :=
  fz_bd (fz_f M 7 2) fun x1 =>
  fz_bd (fz_sf M 7 2 0) fun M2 =>
  some (x1, M2)
def f_X8_areSprings (v0 : Int32) (M : fz_M) : Option Int32 :=
  if v0 < 0 then
    some 0
  else
    if 9 < v0 then
      some 0
    else
      some 1
def f_X8_spreadRows_10_s (ag10 : (Int32 × fz_M) → Option fz_M) (v1 : Int32) (v3 : Int32) (M : fz_M) : Option fz_M :=
  if v1 < v3 then
    some M
  else
    fz_bd (fz_d M 0 9) fun y2 =>
    fz_gd (fz_isP y2) <|
    fz_b1 (f_X5_drawSpring y2 M) fun M5 =>
    fz_b1 (f_X5_holdTo v3 M5) fun M8 =>
    ag10 ((v3 + 1), M8)
def f_X8_spreadRows_10 (v1 : Int32) (v3 : Int32) (M : fz_M) : Option fz_M :=
  fz_lp (fun ag z => f_X8_spreadRows_10_s ag v1 z.1 z.2) fz_fuel (v3, M)
def f_X8_spreadRows (v1 : Int32) (v2 : Int32) (M : fz_M) : Option fz_M :=
  fz_b1 (f_X5_begin v2 M) fun M2 =>
  f_X8_spreadRows_10 v1 1 M2
def f_X8_rows_34_s (ag34 : (Int64 × Int32) → Option (Int64 × fz_M)) (v3 : Int64) (v5 : Int32) (M : fz_M) : Option (Int64 × fz_M) :=
  fz_bd (fz_d M 0 9) fun y1 =>
  fz_gd (fz_isP y1) <|
  if (fz_f M y1 0) ≤ v5 then
    some (v3, M)
  else
    fz_bd (fz_d M 15 0) fun y4 =>
    fz_gd (fz_isL y4) <|
    fz_gd (fz_in v5 6) <|
    fz_bd (v3 + (fz_gl M y4 v5)) fun x7 =>
    ag34 (x7, (v5 + 1))
def f_X8_rows_34 (v3 : Int64) (v5 : Int32) (M : fz_M) : Option (Int64 × fz_M) :=
  fz_lp (fun ag z => f_X8_rows_34_s ag z.1 z.2 M) fz_fuel (v3, v5)
def f_X8_rows (v1 : Int32) (v2 : Int32) (M : fz_M) : Option (Int64 × fz_M) :=
  fz_b1 (f_X8_isHouse v2 M) fun r1 =>
  if ¬ r1 = 0 then
    fz_b1 (f_X8_areSprings v1 M) fun r5 =>
    if ¬ r5 = 0 then
      fz_b1 (f_X8_spreadRows v1 v2 M) fun M10 =>
      f_X8_rows_34 0 0 M10
    else
      some ((-2), M)
  else
    some ((-1), M)
def f_X8_ends_31_s (ag31 : (Int32 × Int32) → Option (Int32 × fz_M)) (v3 : Int32) (v4 : Int32) (M : fz_M) : Option (Int32 × fz_M) :=
  fz_bd (fz_d M 0 9) fun y1 =>
  fz_gd (fz_isP y1) <|
  if (fz_f M y1 0) ≤ v4 then
    some (v3, M)
  else
    fz_bd (fz_d M 15 0) fun y4 =>
    fz_gd (fz_isL y4) <|
    fz_gd (fz_in v4 6) <|
    if (lg_cmp (fz_gl M y4 v4) 0) ≤ 0 then
      ag31 (v3, (v4 + 1))
    else
      fz_bd (v3 ||| (1 <<< (v4 &&& 31))) fun x8 =>
      ag31 (x8, (v4 + 1))
def f_X8_ends_31 (v3 : Int32) (v4 : Int32) (M : fz_M) : Option (Int32 × fz_M) :=
  fz_lp (fun ag z => f_X8_ends_31_s ag z.1 z.2 M) fz_fuel (v3, v4)
def f_X8_ends (v1 : Int32) (v2 : Int32) (M : fz_M) : Option (Int32 × fz_M) :=
  fz_b1 (f_X8_isHouse v2 M) fun r1 =>
  if ¬ r1 = 0 then
    fz_b1 (f_X8_areSprings v1 M) fun r5 =>
    if ¬ r5 = 0 then
      fz_b1 (f_X8_spreadRows v1 v2 M) fun M10 =>
      f_X8_ends_31 0 0 M10
    else
      some ((-2), M)
  else
    some ((-1), M)
def f_X8_keep (v1 : Int32) (M : fz_M) : Option (Int32 × fz_M) :=
  if v1 < 0 then
    some ((-1), M)
  else
    if v1 < 2 then
      fz_gd (fz_in v1 2) <|
      fz_b1 (f_X6_takeAll (53 + 13 * v1.toNatClampNeg) 40 M) fun M5 =>
      fz_gd (fz_in v1 2) <|
      fz_bd (fz_s M5 19 v1 (fz_z 1)) fun M8 =>
      some ((fz_f M8 40 0), M8)
    else
      some ((-1), M)
def f_X8_again (v1 : Int32) (M : fz_M) : Option (Int32 × fz_M) :=
  if v1 < 0 then
    some ((-1), M)
  else
    if v1 < 2 then
      fz_gd (fz_in v1 2) <|
      if ¬ (fz_g M 19 v1) = 0 then
        fz_gd (fz_in v1 2) <|
        fz_b1 (f_X6_takeAll 40 (53 + 13 * v1.toNatClampNeg) M) fun M7 =>
        fz_b1 (f_X0_forgetAll M7) fun M10 =>
        some ((fz_f M10 40 0), M10)
      else
        some ((-3), M)
    else
      some ((-1), M)
