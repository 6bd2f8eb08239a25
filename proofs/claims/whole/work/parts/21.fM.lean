def f_X9_in (v0 : Int64) (v2 : Int64) (v4 : Int64) (M : fz_M) : Option Int32 :=
  if (lg_cmp v0 v2) < 0 then
    some 0
  else
    if 0 < (lg_cmp v0 v4) then
      some 0
    else
      some 1
def f_X9_has (v0 : Int32) (v1 : Int32) (M : fz_M) : Option Int32 :=
  if ¬ ((v0 >>> (v1 &&& 31)) &&& 1) = 1 then
    some 0
  else
    some 1
def f_X9_noHouse (v1 : Int32) (M : fz_M) : Option Int32 :=
  fz_b1 (f_X9_in (v1.toInt64) 0 (((fz_f M 0 4) - 1).toInt64) M) fun r1 =>
  if ¬ r1 = 0 then
    some 0
  else
    some 1
def f_X9_noPiece (v1 : Int32) (M : fz_M) : Option Int32 :=
  fz_b1 (f_X9_in (v1.toInt64) 0 (((fz_f M 0 6) - 1).toInt64) M) fun r1 =>
  if ¬ r1 = 0 then
    some 0
  else
    some 1
def f_X9_noFlood (v0 : Int32) (v1 : Int32) (M : fz_M) : Option Int32 :=
  fz_b1 (f_X9_in (v0.toInt64) 0 19 M) fun r1 =>
  if r1 = 0 then
    some 1
  else
    fz_b1 (f_X9_in (v1.toInt64) 1 9 M) fun r5 =>
    if ¬ r5 = 0 then
      some 0
    else
      some 1
def f_X9_write_39_s (ag39 : (Int32 × fz_M) → Option (Int32 × fz_M)) (v2 : Int64) (v4 : Int32) (M : fz_M) : Option (Int32 × fz_M) :=
  if v4 < 0 then
    some ((fz_f M 0 2), M)
  else
    fz_gd (fz_in (fz_f M 0 2) 96) <|
    fz_bd (fz_s M 1 (fz_f M 0 2) (((v2 >>> ((8 * v4).toInt64 &&& 63)).toInt32) &&& 255)) fun M3 =>
    fz_bd (fz_sf M3 0 2 ((fz_f M3 0 2) + 1)) fun M4 =>
    ag39 ((v4 + (-1)), M4)
def f_X9_write_39 (v2 : Int64) (v4 : Int32) (M : fz_M) : Option (Int32 × fz_M) :=
  fz_lp (fun ag z => f_X9_write_39_s ag v2 z.1 z.2) fz_fuel (v4, M)
def f_X9_write (v1 : Int32) (v2 : Int64) (M : fz_M) : Option (Int32 × fz_M) :=
  fz_bd (fz_sf M 0 0 0) fun M1 =>
  fz_b1 (f_X9_in (v1.toInt64) 1 8 M1) fun r2 =>
  if ¬ r2 = 0 then
    if ((fz_f M1 0 2) + v1) ≤ 96 then
      fz_bd (v1 - 1) fun x7 =>
      f_X9_write_39 v2 x7 M1
    else
      some ((-4), M1)
  else
    some ((-2), M1)
def f_X9_wipe (M : fz_M) : Option (Int32 × fz_M) :=
  fz_bd (fz_sf M 0 0 0) fun M1 =>
  fz_bd (fz_f M1 0 2) fun x2 =>
  fz_bd (fz_sf M1 0 2 0) fun M3 =>
  some (x2, M3)
def f_X9_figure (v1 : Int32) (v2 : Int32) (M : fz_M) : Option (Int32 × fz_M) :=
  if (fz_f M 0 3) = (fz_f M 0 2) then
    some ((-9), M)
  else
    fz_gd (fz_in (fz_f M 0 3) 96) <|
    fz_b1 (f_X9_in (((fz_g M 1 (fz_f M 0 3)) - 48).toInt64) (v1.toInt64) (v2.toInt64) M) fun r3 =>
    if ¬ r3 = 0 then
      fz_bd (fz_sf M 0 3 ((fz_f M 0 3) + 1)) fun M7 =>
      fz_gd (fz_in ((fz_f M7 0 3) - 1) 96) <|
      some (((fz_g M7 1 ((fz_f M7 0 3) - 1)) - 48), M7)
    else
      some ((-9), M)
def f_X9_readHouse_26 (v1 : Int32) (s0 : Int32) (M : fz_M) : Option (Int32 × fz_M) :=
  if ¬ s0 = (-9) then
    fz_gd (fz_in (fz_f M 0 22) 6) <|
    fz_bd (fz_s M 16 (fz_f M 0 22) v1) fun M3 =>
    fz_gd (fz_in (fz_f M3 0 22) 6) <|
    fz_bd (fz_s M3 17 (fz_f M3 0 22) s0) fun M5 =>
    fz_bd (fz_sf M5 0 22 ((fz_f M5 0 22) + 1)) fun M6 =>
    some (1, M6)
  else
    some (0, M)
def f_X9_readHouse (M : fz_M) : Option (Int32 × fz_M) :=
  fz_b2 (f_X9_figure 0 9 M) fun r1 M2 =>
  if ¬ r1 = (-9) then
    fz_b2 (f_X9_figure 1 9 M2) fun r5 M6 =>
    f_X9_readHouse_26 r1 r5 M6
  else
    f_X9_readHouse_26 r1 (-9) M2
def f_X9_leftOf_34 (ag5 : (Int32 × Int32) → Option Int32) (v1 : Int32) (v3 : Int32) (s0 : Int32) (s1 : Int32) (M : fz_M) : Option Int32 :=
  fz_bd (s0 - s1) fun x1 =>
  ag5 (x1, (v3 + 1))
def f_X9_leftOf_5_s (ag5 : (Int32 × Int32) → Option Int32) (v1 : Int32) (v2 : Int32) (v3 : Int32) (M : fz_M) : Option Int32 :=
  if (fz_f M 0 23) ≤ v3 then
    some v2
  else
    fz_gd (fz_in v3 10) <|
    if ¬ (fz_g M 18 v3) = v1 then
      f_X9_leftOf_34 ag5 v1 v3 v2 0 M
    else
      fz_gd (fz_in v3 10) <|
      f_X9_leftOf_34 ag5 v1 v3 v2 (fz_g M 20 v3) M
def f_X9_leftOf_5 (v1 : Int32) (v2 : Int32) (v3 : Int32) (M : fz_M) : Option Int32 :=
  fz_lp (fun ag z => f_X9_leftOf_5_s ag v1 z.1 z.2 M) fz_fuel (v2, v3)
def f_X9_leftOf (v1 : Int32) (M : fz_M) : Option Int32 :=
  f_X9_leftOf_5 v1 10 0 M
def f_X9_isTold_45 (ag5 : (Int32 × Int32) → Option Int32) (v1 : Int32) (v2 : Int32) (v4 : Int32) (s0 : Int32) (M : fz_M) : Option Int32 :=
  ag5 (s0, (v4 + 1))
def f_X9_isTold_44 (ag5 : (Int32 × Int32) → Option Int32) (v1 : Int32) (v2 : Int32) (v4 : Int32) (M : fz_M) : Option Int32 :=
  f_X9_isTold_45 ag5 v1 v2 v4 0 M
def f_X9_isTold_5_s (ag5 : (Int32 × Int32) → Option Int32) (v1 : Int32) (v2 : Int32) (v3 : Int32) (v4 : Int32) (M : fz_M) : Option Int32 :=
  if (fz_f M 0 23) ≤ v4 then
    fz_gd (fz_nb v3) <|
    some v3
  else
    if ¬ v3 = 0 then
      f_X9_isTold_45 ag5 v1 v2 v4 1 M
    else
      fz_gd (fz_in v4 10) <|
      if ¬ (fz_g M 18 v4) = v1 then
        f_X9_isTold_44 ag5 v1 v2 v4 M
      else
        fz_gd (fz_in v4 10) <|
        if ¬ (fz_g M 19 v4) = v2 then
          f_X9_isTold_44 ag5 v1 v2 v4 M
        else
          f_X9_isTold_45 ag5 v1 v2 v4 1 M
def f_X9_isTold_5 (v1 : Int32) (v2 : Int32) (v3 : Int32) (v4 : Int32) (M : fz_M) : Option Int32 :=
  fz_lp (fun ag z => f_X9_isTold_5_s ag v1 v2 z.1 z.2 M) fz_fuel (v3, v4)
def f_X9_isTold (v1 : Int32) (v2 : Int32) (M : fz_M) : Option Int32 :=
  f_X9_isTold_5 v1 v2 0 0 M
def f_X9_hasMore_35 (ag4 : (Int32 × Int32) → Option Int32) (v1 : Int32) (v3 : Int32) (s0 : Int32) (M : fz_M) : Option Int32 :=
  ag4 (s0, (v3 + 1))
def f_X9_hasMore_34 (ag4 : (Int32 × Int32) → Option Int32) (v1 : Int32) (v3 : Int32) (M : fz_M) : Option Int32 :=
  f_X9_hasMore_35 ag4 v1 v3 0 M
def f_X9_hasMore_4_s (ag4 : (Int32 × Int32) → Option Int32) (v1 : Int32) (v2 : Int32) (v3 : Int32) (M : fz_M) : Option Int32 :=
  if (fz_f M 0 22) ≤ v3 then
    if v2 = 0 then
      some 0
    else
      fz_b1 (f_X9_leftOf v1 M) fun r3 =>
      if r3 ≤ 0 then
        some 0
      else
        some 1
  else
    if ¬ v2 = 0 then
      f_X9_hasMore_35 ag4 v1 v3 1 M
    else
      if v1 = v3 then
        f_X9_hasMore_34 ag4 v1 v3 M
      else
        fz_b1 (f_X9_isTold v1 v3 M) fun r9 =>
        if ¬ r9 = 0 then
          f_X9_hasMore_34 ag4 v1 v3 M
        else
          f_X9_hasMore_35 ag4 v1 v3 1 M
def f_X9_hasMore_4 (v1 : Int32) (v2 : Int32) (v3 : Int32) (M : fz_M) : Option Int32 :=
  fz_lp (fun ag z => f_X9_hasMore_4_s ag v1 z.1 z.2 M) fz_fuel (v2, v3)
def f_X9_hasMore (v1 : Int32) (M : fz_M) : Option Int32 :=
  f_X9_hasMore_4 v1 0 0 M
def f_X9_hasAnyMore_29 (ag4 : (Int32 × Int32) → Option Int32) (v2 : Int32) (s0 : Int32) (M : fz_M) : Option Int32 :=
  ag4 (s0, (v2 + 1))
def f_X9_hasAnyMore_4_s (ag4 : (Int32 × Int32) → Option Int32) (v1 : Int32) (v2 : Int32) (M : fz_M) : Option Int32 :=
  if (fz_f M 0 22) ≤ v2 then
    fz_gd (fz_nb v1) <|
    some v1
  else
    if ¬ v1 = 0 then
      f_X9_hasAnyMore_29 ag4 v2 1 M
    else
      fz_b1 (f_X9_hasMore v2 M) fun r4 =>
      if r4 = 0 then
        f_X9_hasAnyMore_29 ag4 v2 0 M
      else
        f_X9_hasAnyMore_29 ag4 v2 1 M
def f_X9_hasAnyMore_4 (v1 : Int32) (v2 : Int32) (M : fz_M) : Option Int32 :=
  fz_lp (fun ag z => f_X9_hasAnyMore_4_s ag z.1 z.2 M) fz_fuel (v1, v2)
def f_X9_hasAnyMore (M : fz_M) : Option Int32 :=
  f_X9_hasAnyMore_4 0 0 M
def f_X9_readStream_156 (v1 : Int32) (v2 : Int32) (s1 : Int32) (s2 : Int32) (M : fz_M) : Option (Int32 × fz_M) :=
  fz_b2 (f_X9_figure s1 s2 M) fun r1 M2 =>
  if ¬ r1 = (-9) then
    fz_gd (fz_in (fz_f M2 0 23) 10) <|
    fz_bd (fz_s M2 18 (fz_f M2 0 23) v1) fun M6 =>
    fz_gd (fz_in (fz_f M6 0 23) 10) <|
    fz_bd (fz_s M6 19 (fz_f M6 0 23) v2) fun M8 =>
    fz_gd (fz_in (fz_f M8 0 23) 10) <|
    fz_bd (fz_s M8 20 (fz_f M8 0 23) r1) fun M10 =>
    fz_bd (fz_sf M10 0 23 ((fz_f M10 0 23) + 1)) fun M11 =>
    some (1, M11)
  else
    some (0, M2)
def f_X9_readStream_93 (v1 : Int32) (s0 : Int32) (M : fz_M) : Option (Int32 × fz_M) :=
  fz_b1 (f_X9_in (s0.toInt64) 0 (((fz_f M 0 22) - 1).toInt64) M) fun r1 =>
  if r1 = 0 then
    some (0, M)
  else
    if v1 = s0 then
      some (0, M)
    else
      fz_b1 (f_X9_isTold v1 s0 M) fun r6 =>
      if r6 = 0 then
        fz_bd (fz_sf M 0 3 ((fz_f M 0 3) + 1)) fun M10 =>
        fz_b1 (f_X9_leftOf v1 M10) fun r11 =>
        if 9 ≤ r11 then
          f_X9_readStream_156 v1 s0 1 9 M10
        else
          f_X9_readStream_156 v1 s0 1 r11 M10
      else
        some (0, M)
def f_X9_readStream_28 (s0 : Int32) (M : fz_M) : Option (Int32 × fz_M) :=
  fz_b1 (f_X9_in (s0.toInt64) 0 (((fz_f M 0 22) - 1).toInt64) M) fun r1 =>
  if r1 = 0 then
    some (0, M)
  else
    fz_b1 (f_X9_hasMore s0 M) fun r5 =>
    if ¬ r5 = 0 then
      fz_bd (fz_sf M 0 3 ((fz_f M 0 3) + 1)) fun M9 =>
      if (fz_f M9 0 2) ≤ (fz_f M9 0 3) then
        f_X9_readStream_93 s0 (-9) M9
      else
        fz_gd (fz_in (fz_f M9 0 3) 96) <|
        f_X9_readStream_93 s0 ((fz_g M9 1 (fz_f M9 0 3)) - 48) M9
    else
      some (0, M)
def f_X9_readStream (M : fz_M) : Option (Int32 × fz_M) :=
  if (fz_f M 0 2) ≤ (fz_f M 0 3) then
    f_X9_readStream_28 (-9) M
  else
    fz_gd (fz_in (fz_f M 0 3) 96) <|
    f_X9_readStream_28 ((fz_g M 1 (fz_f M 0 3)) - 48) M
def f_X9_readPiece_68 (v1 : Int32) (v2 : Int32) (v3 : Int32) (s0 : Int32) (M : fz_M) : Option (Int32 × fz_M) :=
  if ¬ s0 = (-9) then
    fz_gd (fz_in (fz_f M 0 24) 6) <|
    fz_bd (fz_s M 21 (fz_f M 0 24) v1) fun M3 =>
    fz_gd (fz_in (fz_f M3 0 24) 6) <|
    fz_bd (fz_s M3 22 (fz_f M3 0 24) v2) fun M5 =>
    fz_gd (fz_in (fz_f M5 0 24) 6) <|
    fz_bd (fz_s M5 23 (fz_f M5 0 24) v3) fun M7 =>
    fz_gd (fz_in (fz_f M7 0 24) 6) <|
    fz_bd (fz_s M7 24 (fz_f M7 0 24) s0) fun M9 =>
    fz_bd (fz_sf M9 0 24 ((fz_f M9 0 24) + 1)) fun M10 =>
    some (1, M10)
  else
    some (0, M)
def f_X9_readPiece_49 (v1 : Int32) (v2 : Int32) (s0 : Int32) (M : fz_M) : Option (Int32 × fz_M) :=
  if ¬ s0 = (-9) then
    fz_b2 (f_X9_figure 0 9 M) fun r2 M3 =>
    f_X9_readPiece_68 v1 v2 s0 r2 M3
  else
    f_X9_readPiece_68 v1 v2 s0 (-9) M
def f_X9_readPiece_30 (v1 : Int32) (s0 : Int32) (M : fz_M) : Option (Int32 × fz_M) :=
  if ¬ s0 = (-9) then
    fz_b2 (f_X9_figure 1 9 M) fun r2 M3 =>
    f_X9_readPiece_49 v1 s0 r2 M3
  else
    f_X9_readPiece_49 v1 s0 (-9) M
def f_X9_readPiece (M : fz_M) : Option (Int32 × fz_M) :=
  fz_b2 (f_X9_figure 0 ((fz_f M 0 22) - 1) M) fun r1 M2 =>
  if ¬ r1 = (-9) then
    fz_b2 (f_X9_figure 1 9 M2) fun r5 M6 =>
    f_X9_readPiece_30 r1 r5 M6
  else
    f_X9_readPiece_30 r1 (-9) M2
def f_X9_readPart_77 (v1 : Int32) (M : fz_M) : Option (Int32 × fz_M) :=
  if ¬ v1 = 80 then
    some (0, M)
  else
    if 6 ≤ (fz_f M 0 24) then
      some (0, M)
    else
      if (fz_f M 0 22) ≤ 0 then
        some (0, M)
      else
        fz_bd (fz_sf M 0 3 ((fz_f M 0 3) + 1)) fun M4 =>
        fz_b2 (f_X9_readPiece M4) fun r5 M6 =>
        fz_gd (fz_nb r5) <|
        some (r5, M6)
def f_X9_readPart_40 (v1 : Int32) (M : fz_M) : Option (Int32 × fz_M) :=
  if ¬ v1 = 83 then
    f_X9_readPart_77 v1 M
  else
    if 10 ≤ (fz_f M 0 23) then
      f_X9_readPart_77 v1 M
    else
      fz_b1 (f_X9_hasAnyMore M) fun r3 =>
      if r3 = 0 then
        f_X9_readPart_77 v1 M
      else
        fz_bd (fz_sf M 0 3 ((fz_f M 0 3) + 1)) fun M7 =>
        fz_b2 (f_X9_readStream M7) fun r8 M9 =>
        fz_gd (fz_nb r8) <|
        some (r8, M9)
def f_X9_readPart (M : fz_M) : Option (Int32 × fz_M) :=
  fz_gd (fz_in (fz_f M 0 3) 96) <|
  fz_bd (fz_g M 1 (fz_f M 0 3)) fun x2 =>
  if ¬ x2 = 72 then
    f_X9_readPart_40 x2 M
  else
    if 6 ≤ (fz_f M 0 22) then
      f_X9_readPart_40 x2 M
    else
      fz_bd (fz_sf M 0 3 ((fz_f M 0 3) + 1)) fun M5 =>
      fz_b2 (f_X9_readHouse M5) fun r6 M7 =>
      fz_gd (fz_nb r6) <|
      some (r6, M7)
def f_X9_readTown_20_s (ag20 : (fz_M) → Option (Int32 × fz_M)) (M : fz_M) : Option (Int32 × fz_M) :=
  if (fz_f M 0 2) ≤ (fz_f M 0 3) then
    some ((-9), M)
  else
    fz_b2 (f_X9_readPart M) fun r2 M3 =>
    if ¬ r2 = 0 then
      ag20 M3
    else
      some ((fz_f M3 0 3), M3)
def f_X9_readTown_20 (M : fz_M) : Option (Int32 × fz_M) :=
  fz_lp (fun ag z => f_X9_readTown_20_s ag z) fz_fuel M
def f_X9_readTown (M : fz_M) : Option (Int32 × fz_M) :=
  fz_bd (fz_sf M 0 3 0) fun M1 =>
  fz_bd (fz_sf M1 0 22 0) fun M2 =>
  fz_bd (fz_sf M2 0 23 0) fun M3 =>
  fz_bd (fz_sf M3 0 24 0) fun M4 =>
  f_X9_readTown_20 M4
def f_X9_fault (M : fz_M) : Option (Int32 × fz_M) :=
  fz_bd (fz_sf M 0 0 0) fun M1 =>
  fz_b2 (f_X9_readTown M1) fun r2 M3 =>
  some (r2, M3)
def f_X9_town_140_s (ag140 : (Int32 × fz_M) → Option (Int32 × fz_M)) (v1 : Int32) (M : fz_M) : Option (Int32 × fz_M) :=
  if (fz_f M 0 6) ≤ v1 then
    fz_bd (fz_sf M 0 21 0) fun M2 =>
    fz_bd (fz_sf M2 0 35 0) fun M3 =>
    fz_gd (fz_in 0 2) <|
    fz_bd (fz_s M3 28 0 (fz_z 0)) fun M5 =>
    fz_gd (fz_in 1 2) <|
    fz_bd (fz_s M5 28 1 (fz_z 0)) fun M7 =>
    some ((fz_f M7 0 4), M7)
  else
    fz_gd (fz_in v1 6) <|
    fz_gd (fz_in v1 6) <|
    fz_bd (fz_s M 8 v1 (fz_g M 21 v1)) fun M10 =>
    fz_gd (fz_in v1 6) <|
    fz_gd (fz_in v1 6) <|
    fz_bd (fz_s M10 9 v1 (fz_g M10 22 v1)) fun M13 =>
    fz_gd (fz_in v1 6) <|
    fz_gd (fz_in v1 6) <|
    fz_bd (fz_s M13 10 v1 (fz_g M13 23 v1)) fun M16 =>
    fz_gd (fz_in v1 6) <|
    fz_gd (fz_in v1 6) <|
    fz_bd (fz_s M16 12 v1 (fz_g M16 24 v1)) fun M19 =>
    fz_gd (fz_in v1 6) <|
    fz_gd (fz_in v1 6) <|
    fz_bd (fz_s M19 11 v1 (fz_g M19 8 v1)) fun M22 =>
    fz_gd (fz_in v1 6) <|
    fz_gd (fz_in v1 6) <|
    fz_bd (fz_s M22 15 v1 (fz_g M22 8 v1)) fun M25 =>
    fz_gd (fz_in v1 6) <|
    fz_gd (fz_in (8 * v1) 48) <|
    fz_bd (fz_s M25 13 (8 * v1) (fz_g M25 8 v1)) fun M28 =>
    fz_gd (fz_in v1 6) <|
    fz_bd (fz_s M28 14 v1 1) fun M30 =>
    ag140 ((v1 + 1), M30)
def f_X9_town_140 (v1 : Int32) (M : fz_M) : Option (Int32 × fz_M) :=
  fz_lp (fun ag z => f_X9_town_140_s ag z.1 z.2) fz_fuel (v1, M)
def f_X9_town_83_s (ag83 : (Int32 × fz_M) → Option (Int32 × fz_M)) (v1 : Int32) (M : fz_M) : Option (Int32 × fz_M) :=
  if 10 ≤ v1 then
    f_X9_town_140 0 M
  else
    fz_gd (fz_in v1 10) <|
    fz_gd (fz_in v1 10) <|
    fz_bd (fz_s M 4 v1 (fz_g M 18 v1)) fun M4 =>
    fz_gd (fz_in v1 10) <|
    fz_gd (fz_in v1 10) <|
    fz_bd (fz_s M4 5 v1 (fz_g M4 19 v1)) fun M7 =>
    fz_gd (fz_in v1 10) <|
    fz_gd (fz_in v1 10) <|
    fz_bd (fz_s M7 6 v1 (fz_g M7 20 v1)) fun M10 =>
    fz_gd (fz_in v1 10) <|
    fz_bd (fz_s M10 7 v1 (fz_z 0)) fun M12 =>
    ag83 ((v1 + 1), M12)
def f_X9_town_83 (v1 : Int32) (M : fz_M) : Option (Int32 × fz_M) :=
  fz_lp (fun ag z => f_X9_town_83_s ag z.1 z.2) fz_fuel (v1, M)
def f_X9_town_43_s (ag43 : (Int32 × fz_M) → Option (Int32 × fz_M)) (v1 : Int32) (M : fz_M) : Option (Int32 × fz_M) :=
  if (fz_f M 0 4) ≤ v1 then
    f_X9_town_83 0 M
  else
    fz_gd (fz_in v1 6) <|
    fz_gd (fz_in v1 6) <|
    fz_bd (fz_s M 2 v1 (fz_g M 16 v1)) fun M4 =>
    fz_gd (fz_in v1 6) <|
    fz_gd (fz_in v1 6) <|
    fz_bd (fz_s M4 3 v1 (fz_g M4 17 v1)) fun M7 =>
    ag43 ((v1 + 1), M7)
def f_X9_town_43 (v1 : Int32) (M : fz_M) : Option (Int32 × fz_M) :=
  fz_lp (fun ag z => f_X9_town_43_s ag z.1 z.2) fz_fuel (v1, M)
def f_X9_town (M : fz_M) : Option (Int32 × fz_M) :=
  fz_bd (fz_sf M 0 0 0) fun M1 =>
  fz_b2 (f_X9_readTown M1) fun r2 M3 =>
  if r2 = (-9) then
    fz_bd (fz_sf M3 0 4 (fz_f M3 0 22)) fun M6 =>
    fz_bd (fz_sf M6 0 5 (fz_f M6 0 23)) fun M7 =>
    fz_bd (fz_sf M7 0 6 (fz_f M7 0 24)) fun M8 =>
    f_X9_town_43 0 M8
  else
    some ((-3), M3)
def f_X9_about_69 (ag12 : (Int32 × Int32 × Int32) → Option (Int32 × fz_M)) (v1 : Int32) (v2 : Int32) (v4 : Int32) (s0 : Int32) (s1 : Int32) (M : fz_M) : Option (Int32 × fz_M) :=
  fz_bd (s0 + s1) fun x1 =>
  ag12 (v2, x1, (v4 + 1))
def f_X9_about_44 (ag12 : (Int32 × Int32 × Int32) → Option (Int32 × fz_M)) (v1 : Int32) (v3 : Int32) (v4 : Int32) (s0 : Int32) (s1 : Int32) (M : fz_M) : Option (Int32 × fz_M) :=
  fz_bd (s0 + s1) fun x1 =>
  fz_gd (fz_in v4 6) <|
  fz_gd (fz_in v4 6) <|
  if ¬ (fz_g M 15 v4) = (fz_g M 8 v4) then
    f_X9_about_69 ag12 v1 x1 v4 v3 1 M
  else
    f_X9_about_69 ag12 v1 x1 v4 v3 0 M
def f_X9_about_12_s (ag12 : (Int32 × Int32 × Int32) → Option (Int32 × fz_M)) (v1 : Int32) (v2 : Int32) (v3 : Int32) (v4 : Int32) (M : fz_M) : Option (Int32 × fz_M) :=
  if (fz_f M 0 6) ≤ v4 then
    if v1 = 0 then
      some ((fz_f M 0 4), M)
    else
    if v1 = 1 then
      some ((fz_f M 0 5), M)
    else
    if v1 = 2 then
      some ((fz_f M 0 6), M)
    else
    if v1 = 3 then
      some ((fz_f M 0 21), M)
    else
    if v1 = 4 then
      some ((fz_f M 0 35), M)
    else
    if v1 = 5 then
      some (v2, M)
    else
    if v1 = 6 then
      some (v3, M)
    else
    if v1 = 7 then
      some ((fz_f M 0 43), M)
    else
    if v1 = 8 then
      some ((fz_f M 0 2), M)
    else
    some ((-2), M)
  else
    fz_gd (fz_in v4 6) <|
    fz_gd (fz_in v4 6) <|
    if ¬ (fz_g M 11 v4) = (fz_g M 8 v4) then
      f_X9_about_44 ag12 v1 v3 v4 v2 1 M
    else
      f_X9_about_44 ag12 v1 v3 v4 v2 0 M
def f_X9_about_12 (v1 : Int32) (v2 : Int32) (v3 : Int32) (v4 : Int32) (M : fz_M) : Option (Int32 × fz_M) :=
  fz_lp (fun ag z => f_X9_about_12_s ag v1 z.1 z.2.1 z.2.2 M) fz_fuel (v2, v3, v4)
def f_X9_about (v1 : Int32) (M : fz_M) : Option (Int32 × fz_M) :=
  fz_bd (fz_sf M 0 0 0) fun M1 =>
  f_X9_about_12 v1 0 0 0 M1
def f_X9_house_78 (ag23 : (Int32 × Int32 × Int32) → Option (Int32 × fz_M)) (v1 : Int32) (v2 : Int32) (v3 : Int32) (v5 : Int32) (s0 : Int32) (s1 : Int32) (M : fz_M) : Option (Int32 × fz_M) :=
  fz_bd (s0 + s1) fun x1 =>
  ag23 (v3, x1, (v5 + 1))
def f_X9_house_52 (ag23 : (Int32 × Int32 × Int32) → Option (Int32 × fz_M)) (v1 : Int32) (v2 : Int32) (v4 : Int32) (v5 : Int32) (s0 : Int32) (s1 : Int32) (M : fz_M) : Option (Int32 × fz_M) :=
  fz_bd (s0 ||| s1) fun x1 =>
  fz_gd (fz_in v5 6) <|
  if ¬ (fz_g M 11 v5) = v1 then
    f_X9_house_78 ag23 v1 v2 x1 v5 v4 0 M
  else
    fz_gd (fz_in v5 6) <|
    f_X9_house_78 ag23 v1 v2 x1 v5 v4 (fz_g M 9 v5) M
def f_X9_house_23_s (ag23 : (Int32 × Int32 × Int32) → Option (Int32 × fz_M)) (v1 : Int32) (v2 : Int32) (v3 : Int32) (v4 : Int32) (v5 : Int32) (M : fz_M) : Option (Int32 × fz_M) :=
  if (fz_f M 0 6) ≤ v5 then
    if ¬ v2 = 0 then
      if ¬ v2 = 1 then
        if ¬ v2 = 2 then
          if ¬ v2 = 3 then
            some ((-2), M)
          else
            some (v4, M)
        else
          some (v3, M)
      else
        fz_gd (fz_in v1 6) <|
        some ((fz_g M 3 v1), M)
    else
      fz_gd (fz_in v1 6) <|
      some ((fz_g M 2 v1), M)
  else
    fz_gd (fz_in v5 6) <|
    if ¬ (fz_g M 11 v5) = v1 then
      f_X9_house_52 ag23 v1 v2 v4 v5 v3 0 M
    else
      f_X9_house_52 ag23 v1 v2 v4 v5 v3 (1 <<< (v5 &&& 31)) M
def f_X9_house_23 (v1 : Int32) (v2 : Int32) (v3 : Int32) (v4 : Int32) (v5 : Int32) (M : fz_M) : Option (Int32 × fz_M) :=
  fz_lp (fun ag z => f_X9_house_23_s ag v1 v2 z.1 z.2.1 z.2.2 M) fz_fuel (v3, v4, v5)
def f_X9_house (v1 : Int32) (v2 : Int32) (M : fz_M) : Option (Int32 × fz_M) :=
  fz_bd (fz_sf M 0 0 0) fun M1 =>
  fz_b1 (f_X9_noHouse v1 M1) fun r2 =>
  if r2 = 0 then
    f_X9_house_23 v1 v2 0 0 0 M1
  else
    some ((-1), M1)
def f_X9_stream (v1 : Int32) (v2 : Int32) (M : fz_M) : Option (Int32 × fz_M) :=
  fz_bd (fz_sf M 0 0 0) fun M1 =>
  fz_b1 (f_X9_in (v1.toInt64) 0 (((fz_f M1 0 5) - 1).toInt64) M1) fun r2 =>
  if ¬ r2 = 0 then
    if ¬ v2 = 0 then
      if ¬ v2 = 1 then
        if ¬ v2 = 2 then
          if ¬ v2 = 3 then
            some ((-2), M1)
          else
            fz_gd (fz_in v1 10) <|
            if (fz_g M1 7 v1) = 0 then
              some (0, M1)
            else
              some (1, M1)
        else
          fz_gd (fz_in v1 10) <|
          some ((fz_g M1 6 v1), M1)
      else
        fz_gd (fz_in v1 10) <|
        some ((fz_g M1 5 v1), M1)
    else
      fz_gd (fz_in v1 10) <|
      some ((fz_g M1 4 v1), M1)
  else
    some ((-1), M1)
def f_X9_piece (v1 : Int32) (v2 : Int32) (M : fz_M) : Option (Int32 × fz_M) :=
  fz_bd (fz_sf M 0 0 0) fun M1 =>
  fz_b1 (f_X9_noPiece v1 M1) fun r2 =>
  if r2 = 0 then
    if v2 = 0 then
      fz_gd (fz_in v1 6) <|
      some ((fz_g M1 11 v1), M1)
    else
    if v2 = 1 then
      fz_gd (fz_in v1 6) <|
      some ((fz_g M1 9 v1), M1)
    else
    if v2 = 2 then
      fz_gd (fz_in v1 6) <|
      some ((fz_g M1 10 v1), M1)
    else
    if v2 = 3 then
      fz_gd (fz_in v1 6) <|
      some ((fz_g M1 12 v1), M1)
    else
    if v2 = 4 then
      fz_gd (fz_in v1 6) <|
      some ((fz_g M1 8 v1), M1)
    else
    if v2 = 5 then
      fz_gd (fz_in v1 6) <|
      some ((fz_g M1 15 v1), M1)
    else
    some ((-2), M1)
  else
    some ((-1), M1)
def f_X9_owner (v1 : Int32) (v2 : Int32) (M : fz_M) : Option (Int32 × fz_M) :=
  fz_bd (fz_sf M 0 0 0) fun M1 =>
  fz_b1 (f_X9_noPiece v1 M1) fun r2 =>
  if r2 = 0 then
    fz_gd (fz_in v1 6) <|
    fz_b1 (f_X9_in (v2.toInt64) 0 (((fz_g M1 14 v1) - 1).toInt64) M1) fun r7 =>
    if r7 = 0 then
      some ((-9), M1)
    else
      fz_gd (fz_in ((8 * v1) + v2) 48) <|
      some ((fz_g M1 13 ((8 * v1) + v2)), M1)
  else
    some ((-1), M1)
def f_X9_tie (v1 : Int32) (v2 : Int32) (M : fz_M) : Option (Int32 × fz_M) :=
  fz_bd (fz_sf M 0 0 0) fun M1 =>
  fz_b1 (f_X9_noPiece v1 M1) fun r2 =>
  if r2 = 0 then
    fz_b1 (f_X9_in (v2.toInt64) 0 9 M1) fun r6 =>
    if ¬ r6 = 0 then
      fz_gd (fz_in v1 6) <|
      fz_bd (fz_g M1 12 v1) fun x11 =>
      fz_gd (fz_in v1 6) <|
      fz_bd (fz_s M1 12 v1 v2) fun M13 =>
      some (x11, M13)
    else
      some ((-2), M1)
  else
    some ((-1), M1)
def f_X9_carry (v1 : Int32) (v2 : Int32) (M : fz_M) : Option (Int32 × fz_M) :=
  fz_bd (fz_sf M 0 0 0) fun M1 =>
  fz_b1 (f_X9_noPiece v1 M1) fun r2 =>
  if ¬ r2 = 0 then
    some ((-1), M1)
  else
    fz_b1 (f_X9_noHouse v2 M1) fun r6 =>
    if r6 = 0 then
      fz_gd (fz_in v1 6) <|
      fz_bd (fz_g M1 11 v1) fun x11 =>
      fz_gd (fz_in v1 6) <|
      fz_bd (fz_s M1 11 v1 v2) fun M13 =>
      some (x11, M13)
    else
      some ((-1), M1)
def f_X9_shut (v1 : Int32) (v2 : Int32) (M : fz_M) : Option (Int32 × fz_M) :=
  fz_bd (fz_sf M 0 0 0) fun M1 =>
  fz_b1 (f_X9_in (v1.toInt64) 0 (((fz_f M1 0 5) - 1).toInt64) M1) fun r2 =>
  if ¬ r2 = 0 then
    fz_gd (fz_in v1 10) <|
    fz_bd (fz_g M1 7 v1) fun x7 =>
    fz_gd (fz_in v1 10) <|
    fz_bd (fz_s M1 7 v1 (fz_z v2)) fun M9 =>
    if ¬ x7 = v2 then
      some (1, M9)
    else
      some (0, M9)
  else
    some ((-1), M1)
def f_X9_depth (v1 : Int32) (v2 : Int32) (M : fz_M) : Option Int32 :=
  fz_gd (fz_in v1 6) <|
  if v2 ≤ (fz_g M 2 v1) then
    some 0
  else
    fz_gd (fz_in v1 6) <|
    some (v2 - (fz_g M 2 v1))
def f_X9_deep (v1 : Int32) (v2 : Int32) (M : fz_M) : Option (Int32 × fz_M) :=
  fz_bd (fz_sf M 0 0 0) fun M1 =>
  fz_b1 (f_X9_noHouse v1 M1) fun r2 =>
  if r2 = 0 then
    fz_b1 (f_X9_in (v2.toInt64) 0 19 M1) fun r6 =>
    if r6 = 0 then
      some ((-2), M1)
    else
      fz_b1 (f_X9_depth v1 v2 M1) fun r10 =>
      some (r10, M1)
  else
    some ((-1), M1)
def f_X9_strongest_70 (ag5 : (Int32 × Int32) → Option Int32) (v1 : Int32) (v3 : Int32) (s0 : Int32) (M : fz_M) : Option Int32 :=
  ag5 (s0, (v3 + 1))
def f_X9_strongest_69 (ag5 : (Int32 × Int32) → Option Int32) (v1 : Int32) (v2 : Int32) (v3 : Int32) (M : fz_M) : Option Int32 :=
  f_X9_strongest_70 ag5 v1 v3 v2 M
def f_X9_strongest_37 (ag5 : (Int32 × Int32) → Option Int32) (v1 : Int32) (v2 : Int32) (v3 : Int32) (s0 : Int32) (M : fz_M) : Option Int32 :=
  if s0 = 0 then
    f_X9_strongest_69 ag5 v1 v2 v3 M
  else
    if v2 = (-9) then
      f_X9_strongest_70 ag5 v1 v3 v3 M
    else
      fz_gd (fz_in v3 10) <|
      fz_gd (fz_in v2 10) <|
      if (fz_g M 6 v3) ≤ (fz_g M 6 v2) then
        f_X9_strongest_69 ag5 v1 v2 v3 M
      else
        f_X9_strongest_70 ag5 v1 v3 v3 M
def f_X9_strongest_36 (ag5 : (Int32 × Int32) → Option Int32) (v1 : Int32) (v2 : Int32) (v3 : Int32) (M : fz_M) : Option Int32 :=
  f_X9_strongest_37 ag5 v1 v2 v3 0 M
def f_X9_strongest_5_s (ag5 : (Int32 × Int32) → Option Int32) (v1 : Int32) (v2 : Int32) (v3 : Int32) (M : fz_M) : Option Int32 :=
  if (fz_f M 0 5) ≤ v3 then
    some v2
  else
    fz_gd (fz_in v3 10) <|
    if ¬ (fz_g M 4 v3) = v1 then
      f_X9_strongest_36 ag5 v1 v2 v3 M
    else
      fz_gd (fz_in v3 10) <|
      if ¬ (fz_g M 7 v3) = 0 then
        f_X9_strongest_36 ag5 v1 v2 v3 M
      else
        f_X9_strongest_37 ag5 v1 v2 v3 1 M
def f_X9_strongest_5 (v1 : Int32) (v2 : Int32) (v3 : Int32) (M : fz_M) : Option Int32 :=
  fz_lp (fun ag z => f_X9_strongest_5_s ag v1 z.1 z.2 M) fz_fuel (v2, v3)
def f_X9_strongest (v1 : Int32) (M : fz_M) : Option Int32 :=
  f_X9_strongest_5 v1 (-9) 0 M
def f_X9_begin_2_s (ag2 : (Int32 × fz_M) → Option fz_M) (v1 : Int32) (M : fz_M) : Option fz_M :=
  if (fz_f M 0 6) ≤ v1 then
    some M
  else
    fz_gd (fz_in v1 6) <|
    fz_gd (fz_in v1 6) <|
    fz_bd (fz_s M 29 v1 (fz_g M 11 v1)) fun M4 =>
    fz_gd (fz_in v1 6) <|
    fz_gd (fz_in v1 6) <|
    fz_bd (fz_s M4 30 v1 (fz_g M4 12 v1)) fun M7 =>
    ag2 ((v1 + 1), M7)
def f_X9_begin_2 (v1 : Int32) (M : fz_M) : Option fz_M :=
  fz_lp (fun ag z => f_X9_begin_2_s ag z.1 z.2) fz_fuel (v1, M)
def f_X9_begin (M : fz_M) : Option fz_M :=
  f_X9_begin_2 0 M
def f_X9_goHour_193 (ag37 : (Int32 × Int32 × fz_M) → Option (Int32 × fz_M)) (v1 : Int32) (v2 : Int32) (v3 : Int32) (v6 : Int32) (s0 : Int32) (M : fz_M) : Option (Int32 × fz_M) :=
  if s0 = 0 then
    fz_bd (fz_sf M 0 42 ((fz_f M 0 42) ||| (1 <<< (v3 &&& 31)))) fun M2 =>
    ag37 (v2, (v3 + 1), M2)
  else
    fz_gd (fz_in v6 10) <|
    fz_gd (fz_in (fz_g M 4 v6) 6) <|
    fz_gd (fz_in v3 6) <|
    fz_gd (fz_in (fz_g M 4 v6) 6) <|
    fz_bd (fz_s M 31 (fz_g M 4 v6) ((fz_g M 31 (fz_g M 4 v6)) - (fz_g M 9 v3))) fun M7 =>
    fz_gd (fz_in v6 10) <|
    fz_gd (fz_in (fz_g M7 5 v6) 6) <|
    fz_gd (fz_in v3 6) <|
    fz_gd (fz_in (fz_g M7 5 v6) 6) <|
    fz_bd (fz_s M7 31 (fz_g M7 5 v6) ((fz_g M7 31 (fz_g M7 5 v6)) - (fz_g M7 9 v3))) fun M12 =>
    fz_gd (fz_in v6 10) <|
    fz_gd (fz_in v3 6) <|
    fz_bd (fz_s M12 29 v3 (fz_g M12 5 v6)) fun M15 =>
    fz_bd (v2 ||| (1 <<< (v3 &&& 31))) fun x16 =>
    ag37 (x16, (v3 + 1), M15)
def f_X9_goHour_192 (ag37 : (Int32 × Int32 × fz_M) → Option (Int32 × fz_M)) (v1 : Int32) (v2 : Int32) (v3 : Int32) (v6 : Int32) (M : fz_M) : Option (Int32 × fz_M) :=
  f_X9_goHour_193 ag37 v1 v2 v3 v6 0 M
def f_X9_goHour_137 (ag37 : (Int32 × Int32 × fz_M) → Option (Int32 × fz_M)) (v1 : Int32) (v2 : Int32) (v3 : Int32) (s0 : Int32) (M : fz_M) : Option (Int32 × fz_M) :=
  if s0 = (-9) then
    ag37 (v2, (v3 + 1), M)
  else
    fz_gd (fz_in s0 10) <|
    fz_gd (fz_in (fz_g M 4 s0) 6) <|
    fz_gd (fz_in v3 6) <|
    if (fz_g M 31 (fz_g M 4 s0)) < (fz_g M 9 v3) then
      f_X9_goHour_192 ag37 v1 v2 v3 s0 M
    else
      fz_gd (fz_in s0 10) <|
      fz_gd (fz_in (fz_g M 5 s0) 6) <|
      fz_gd (fz_in v3 6) <|
      if (fz_g M 31 (fz_g M 5 s0)) < (fz_g M 9 v3) then
        f_X9_goHour_192 ag37 v1 v2 v3 s0 M
      else
        f_X9_goHour_193 ag37 v1 v2 v3 s0 1 M
def f_X9_goHour_135 (ag37 : (Int32 × Int32 × fz_M) → Option (Int32 × fz_M)) (v1 : Int32) (v2 : Int32) (v3 : Int32) (M : fz_M) : Option (Int32 × fz_M) :=
  f_X9_goHour_137 ag37 v1 v2 v3 (-9) M
def f_X9_goHour_107 (ag37 : (Int32 × Int32 × fz_M) → Option (Int32 × fz_M)) (v1 : Int32) (v2 : Int32) (v3 : Int32) (v5 : Int32) (s1 : Int32) (s2 : Int32) (M : fz_M) : Option (Int32 × fz_M) :=
  fz_gd (fz_in s1 6) <|
  fz_bd (fz_s M 30 s1 s2) fun M2 =>
  if v5 = 0 then
    f_X9_goHour_135 ag37 v1 v2 v3 M2
  else
    fz_gd (fz_in v3 6) <|
    if ¬ (fz_g M2 30 v3) = 0 then
      f_X9_goHour_135 ag37 v1 v2 v3 M2
    else
      fz_gd (fz_in v3 6) <|
      fz_b1 (f_X9_strongest (fz_g M2 29 v3) M2) fun r7 =>
      f_X9_goHour_137 ag37 v1 v2 v3 r7 M2
def f_X9_goHour_101 (ag37 : (Int32 × Int32 × fz_M) → Option (Int32 × fz_M)) (v1 : Int32) (v2 : Int32) (v3 : Int32) (v5 : Int32) (s1 : Int32) (M : fz_M) : Option (Int32 × fz_M) :=
  fz_gd (fz_in v3 6) <|
  f_X9_goHour_107 ag37 v1 v2 v3 v5 s1 (fz_g M 30 v3) M
def f_X9_goHour_74 (ag37 : (Int32 × Int32 × fz_M) → Option (Int32 × fz_M)) (v1 : Int32) (v2 : Int32) (v3 : Int32) (v4 : Int32) (s0 : Int32) (M : fz_M) : Option (Int32 × fz_M) :=
  if s0 = 0 then
    f_X9_goHour_101 ag37 v1 v2 v3 s0 v3 M
  else
    fz_gd (fz_in v3 6) <|
    if v4 ≤ (fz_g M 30 v3) then
      f_X9_goHour_101 ag37 v1 v2 v3 s0 v3 M
    else
      f_X9_goHour_107 ag37 v1 v2 v3 s0 v3 0 M
def f_X9_goHour_37_s (ag37 : (Int32 × Int32 × fz_M) → Option (Int32 × fz_M)) (v1 : Int32) (v2 : Int32) (v3 : Int32) (M : fz_M) : Option (Int32 × fz_M) :=
  if (fz_f M 0 6) ≤ v3 then
    some (v2, M)
  else
    fz_gd (fz_in v3 6) <|
    fz_b1 (f_X9_depth (fz_g M 29 v3) v1 M) fun r3 =>
    fz_gd (fz_in v3 6) <|
    if r3 < (fz_g M 10 v3) then
      f_X9_goHour_74 ag37 v1 v2 v3 r3 0 M
    else
      f_X9_goHour_74 ag37 v1 v2 v3 r3 1 M
def f_X9_goHour_37 (v1 : Int32) (v2 : Int32) (v3 : Int32) (M : fz_M) : Option (Int32 × fz_M) :=
  fz_lp (fun ag z => f_X9_goHour_37_s ag v1 z.1 z.2.1 z.2.2) fz_fuel (v2, v3, M)
def f_X9_goHour_9_s (ag9 : (Int32 × fz_M) → Option (Int32 × fz_M)) (v1 : Int32) (v2 : Int32) (v3 : Int32) (M : fz_M) : Option (Int32 × fz_M) :=
  if (fz_f M 0 4) ≤ v3 then
    f_X9_goHour_37 v1 v2 0 M
  else
    fz_gd (fz_in v3 6) <|
    fz_gd (fz_in v3 6) <|
    fz_bd (fz_s M 31 v3 (fz_g M 3 v3)) fun M4 =>
    ag9 ((v3 + 1), M4)
def f_X9_goHour_9 (v1 : Int32) (v2 : Int32) (v3 : Int32) (M : fz_M) : Option (Int32 × fz_M) :=
  fz_lp (fun ag z => f_X9_goHour_9_s ag v1 v2 z.1 z.2) fz_fuel (v3, M)
def f_X9_goHour (v1 : Int32) (M : fz_M) : Option (Int32 × fz_M) :=
  fz_bd (fz_sf M 0 42 0) fun M1 =>
  f_X9_goHour_9 v1 0 0 M1
def f_X9_goHours_2_s (ag2 : (Int32 × fz_M) → Option fz_M) (v1 : Int32) (v2 : Int32) (v3 : Int32) (M : fz_M) : Option fz_M :=
  if v2 ≤ v3 then
    some M
  else
    fz_b2 (f_X9_goHour v1 M) fun r2 M3 =>
    ag2 ((v3 + 1), M3)
def f_X9_goHours_2 (v1 : Int32) (v2 : Int32) (v3 : Int32) (M : fz_M) : Option fz_M :=
  fz_lp (fun ag z => f_X9_goHours_2_s ag v1 v2 z.1 z.2) fz_fuel (v3, M)
def f_X9_goHours (v1 : Int32) (v2 : Int32) (M : fz_M) : Option fz_M :=
  f_X9_goHours_2 v1 v2 0 M
def f_X9_layPage_69_s (k0 : Nat) (ag69 : (Int32 × fz_M) → Option fz_M) (v2 : Int32) (v3 : Int32) (M : fz_M) : Option fz_M :=
  if 48 ≤ v3 then
    fz_gd (fz_in (v2 + 72) (fz_pg k0)) <|
    fz_bd (fz_s M k0 (v2 + 72) (fz_f M 0 21)) fun M3 =>
    some M3
  else
    fz_gd (fz_in v3 48) <|
    fz_gd (fz_in ((v2 + 24) + v3) (fz_pg k0)) <|
    fz_bd (fz_s M k0 ((v2 + 24) + v3) (fz_g M 13 v3)) fun M6 =>
    ag69 ((v3 + 1), M6)
def f_X9_layPage_69 (k0 : Nat) (v2 : Int32) (v3 : Int32) (M : fz_M) : Option fz_M :=
  fz_lp (fun ag z => f_X9_layPage_69_s k0 ag v2 z.1 z.2) fz_fuel (v3, M)
def f_X9_layPage_2_s (k0 : Nat) (ag2 : (Int32 × fz_M) → Option fz_M) (v2 : Int32) (v3 : Int32) (M : fz_M) : Option fz_M :=
  if 6 ≤ v3 then
    f_X9_layPage_69 k0 v2 0 M
  else
    fz_gd (fz_in v3 6) <|
    fz_gd (fz_in (v2 + v3) (fz_pg k0)) <|
    fz_bd (fz_s M k0 (v2 + v3) (fz_g M 11 v3)) fun M4 =>
    fz_gd (fz_in v3 6) <|
    fz_gd (fz_in ((v2 + 6) + v3) (fz_pg k0)) <|
    fz_bd (fz_s M4 k0 ((v2 + 6) + v3) (fz_g M4 12 v3)) fun M7 =>
    fz_gd (fz_in v3 6) <|
    fz_gd (fz_in ((v2 + 12) + v3) (fz_pg k0)) <|
    fz_bd (fz_s M7 k0 ((v2 + 12) + v3) (fz_g M7 14 v3)) fun M10 =>
    fz_gd (fz_in v3 6) <|
    fz_gd (fz_in ((v2 + 18) + v3) (fz_pg k0)) <|
    fz_bd (fz_s M10 k0 ((v2 + 18) + v3) (fz_g M10 15 v3)) fun M13 =>
    ag2 ((v3 + 1), M13)
def f_X9_layPage_2 (k0 : Nat) (v2 : Int32) (v3 : Int32) (M : fz_M) : Option fz_M :=
  fz_lp (fun ag z => f_X9_layPage_2_s k0 ag v2 z.1 z.2) fz_fuel (v3, M)
def f_X9_layPage (k0 : Nat) (v2 : Int32) (M : fz_M) : Option fz_M :=
  f_X9_layPage_2 k0 v2 0 M
def f_X9_takePage_69_s (k0 : Nat) (ag69 : (Int32 × fz_M) → Option fz_M) (v2 : Int32) (v3 : Int32) (M : fz_M) : Option fz_M :=
  if 48 ≤ v3 then
    fz_gd (fz_in (v2 + 72) (fz_pg k0)) <|
    fz_bd (fz_sf M 0 21 (fz_g M k0 (v2 + 72))) fun M3 =>
    some M3
  else
    fz_gd (fz_in ((v2 + 24) + v3) (fz_pg k0)) <|
    fz_gd (fz_in v3 48) <|
    fz_bd (fz_s M 13 v3 (fz_g M k0 ((v2 + 24) + v3))) fun M6 =>
    ag69 ((v3 + 1), M6)
def f_X9_takePage_69 (k0 : Nat) (v2 : Int32) (v3 : Int32) (M : fz_M) : Option fz_M :=
  fz_lp (fun ag z => f_X9_takePage_69_s k0 ag v2 z.1 z.2) fz_fuel (v3, M)
def f_X9_takePage_2_s (k0 : Nat) (ag2 : (Int32 × fz_M) → Option fz_M) (v2 : Int32) (v3 : Int32) (M : fz_M) : Option fz_M :=
  if 6 ≤ v3 then
    f_X9_takePage_69 k0 v2 0 M
  else
    fz_gd (fz_in (v2 + v3) (fz_pg k0)) <|
    fz_gd (fz_in v3 6) <|
    fz_bd (fz_s M 11 v3 (fz_g M k0 (v2 + v3))) fun M4 =>
    fz_gd (fz_in ((v2 + 6) + v3) (fz_pg k0)) <|
    fz_gd (fz_in v3 6) <|
    fz_bd (fz_s M4 12 v3 (fz_g M4 k0 ((v2 + 6) + v3))) fun M7 =>
    fz_gd (fz_in ((v2 + 12) + v3) (fz_pg k0)) <|
    fz_gd (fz_in v3 6) <|
    fz_bd (fz_s M7 14 v3 (fz_g M7 k0 ((v2 + 12) + v3))) fun M10 =>
    fz_gd (fz_in ((v2 + 18) + v3) (fz_pg k0)) <|
    fz_gd (fz_in v3 6) <|
    fz_bd (fz_s M10 15 v3 (fz_g M10 k0 ((v2 + 18) + v3))) fun M13 =>
    ag2 ((v3 + 1), M13)
def f_X9_takePage_2 (k0 : Nat) (v2 : Int32) (v3 : Int32) (M : fz_M) : Option fz_M :=
  fz_lp (fun ag z => f_X9_takePage_2_s k0 ag v2 z.1 z.2) fz_fuel (v3, M)
def f_X9_takePage (k0 : Nat) (v2 : Int32) (M : fz_M) : Option fz_M :=
  f_X9_takePage_2 k0 v2 0 M
def f_X9_note_49 (M : fz_M) : Option fz_M :=
  fz_b1 (f_X9_layPage 25 (73 * (fz_f M 0 35)) M) fun M2 =>
  fz_bd (fz_sf M2 0 35 ((fz_f M2 0 35) + 1)) fun M4 =>
  some M4
def f_X9_note_11_s (ag11 : (Int32 × fz_M) → Option fz_M) (v1 : Int32) (M : fz_M) : Option fz_M :=
  if 803 ≤ v1 then
    fz_bd (fz_sf M 0 35 ((fz_f M 0 35) - 1)) fun M2 =>
    f_X9_note_49 M2
  else
    fz_gd (fz_in (v1 + 73) 876) <|
    fz_gd (fz_in v1 876) <|
    fz_bd (fz_s M 25 v1 (fz_g M 25 (v1 + 73))) fun M5 =>
    ag11 ((v1 + 1), M5)
def f_X9_note_11 (v1 : Int32) (M : fz_M) : Option fz_M :=
  fz_lp (fun ag z => f_X9_note_11_s ag z.1 z.2) fz_fuel (v1, M)
def f_X9_note (M : fz_M) : Option fz_M :=
  if ¬ (fz_f M 0 35) = 12 then
    f_X9_note_49 M
  else
    f_X9_note_11 0 M
def f_X9_hour_36_s (ag36 : (Int32 × fz_M) → Option (Int32 × fz_M)) (v2 : Int32) (v3 : Int32) (M : fz_M) : Option (Int32 × fz_M) :=
  if (fz_f M 0 6) ≤ v3 then
    some (v2, M)
  else
    fz_gd (fz_in v3 6) <|
    fz_gd (fz_in v3 6) <|
    fz_bd (fz_s M 11 v3 (fz_g M 29 v3)) fun M4 =>
    fz_gd (fz_in v3 6) <|
    fz_gd (fz_in v3 6) <|
    fz_bd (fz_s M4 12 v3 (fz_g M4 30 v3)) fun M7 =>
    ag36 ((v3 + 1), M7)
def f_X9_hour_36 (v2 : Int32) (v3 : Int32) (M : fz_M) : Option (Int32 × fz_M) :=
  fz_lp (fun ag z => f_X9_hour_36_s ag v2 z.1 z.2) fz_fuel (v3, M)
def f_X9_hour (v1 : Int32) (M : fz_M) : Option (Int32 × fz_M) :=
  fz_bd (fz_sf M 0 0 0) fun M1 =>
  fz_b1 (f_X9_in (v1.toInt64) 0 19 M1) fun r2 =>
  if ¬ r2 = 0 then
    fz_b1 (f_X9_note M1) fun M7 =>
    fz_b1 (f_X9_begin M7) fun M10 =>
    fz_b2 (f_X9_goHour v1 M10) fun r12 M13 =>
    f_X9_hour_36 r12 0 M13
  else
    some ((-2), M1)
def f_X9_jams (v1 : Int32) (M : fz_M) : Option (Int32 × fz_M) :=
  fz_bd (fz_sf M 0 0 0) fun M1 =>
  fz_b1 (f_X9_in (v1.toInt64) 0 19 M1) fun r2 =>
  if ¬ r2 = 0 then
    fz_b1 (f_X9_begin M1) fun M7 =>
    fz_b2 (f_X9_goHour v1 M7) fun r9 M10 =>
    some ((fz_f M10 0 42), M10)
  else
    some ((-2), M1)
def f_X9_spring_13_s (ag13 : (Int32 × Int32 × fz_M) → Option (Int32 × fz_M)) (v1 : Int32) (v2 : Int32) (M : fz_M) : Option (Int32 × fz_M) :=
  if (fz_f M 0 6) ≤ v2 then
    fz_bd (fz_sf M 0 21 ((fz_f M 0 21) + 1)) fun M2 =>
    some (v1, M2)
  else
    fz_gd (fz_in v2 6) <|
    fz_gd (fz_in v2 6) <|
    if (fz_g M 15 v2) = (fz_g M 11 v2) then
      ag13 (v1, (v2 + 1), M)
    else
      fz_gd (fz_in v2 6) <|
      fz_gd (fz_in v2 6) <|
      fz_bd (fz_s M 15 v2 (fz_g M 11 v2)) fun M8 =>
      fz_gd (fz_in v2 6) <|
      if 8 ≤ (fz_g M8 14 v2) then
        ag13 ((v1 + 1), (v2 + 1), M8)
      else
        fz_gd (fz_in v2 6) <|
        fz_gd (fz_in v2 6) <|
        fz_gd (fz_in ((8 * v2) + (fz_g M8 14 v2)) 48) <|
        fz_bd (fz_s M8 13 ((8 * v2) + (fz_g M8 14 v2)) (fz_g M8 11 v2)) fun M14 =>
        fz_gd (fz_in v2 6) <|
        fz_gd (fz_in v2 6) <|
        fz_bd (fz_s M14 14 v2 ((fz_g M14 14 v2) + 1)) fun M17 =>
        ag13 ((v1 + 1), (v2 + 1), M17)
def f_X9_spring_13 (v1 : Int32) (v2 : Int32) (M : fz_M) : Option (Int32 × fz_M) :=
  fz_lp (fun ag z => f_X9_spring_13_s ag z.1 z.2.1 z.2.2) fz_fuel (v1, v2, M)
def f_X9_spring (M : fz_M) : Option (Int32 × fz_M) :=
  fz_bd (fz_sf M 0 0 0) fun M1 =>
  fz_b1 (f_X9_note M1) fun M3 =>
  f_X9_spring_13 0 0 M3
def f_X9_undo (M : fz_M) : Option (Int32 × fz_M) :=
  fz_bd (fz_sf M 0 0 0) fun M1 =>
  if ¬ (fz_f M1 0 35) = 0 then
    fz_bd (fz_sf M1 0 35 ((fz_f M1 0 35) - 1)) fun M3 =>
    fz_b1 (f_X9_takePage 25 (73 * (fz_f M3 0 35)) M3) fun M5 =>
    some ((fz_f M5 0 35), M5)
  else
    some ((-3), M1)
def f_X9_after (v1 : Int32) (v2 : Int32) (v3 : Int32) (M : fz_M) : Option (Int32 × fz_M) :=
  fz_bd (fz_sf M 0 0 0) fun M1 =>
  fz_b1 (f_X9_noPiece v1 M1) fun r2 =>
  if r2 = 0 then
    fz_b1 (f_X9_noFlood v2 v3 M1) fun r6 =>
    if r6 = 0 then
      fz_b1 (f_X9_begin M1) fun M11 =>
      fz_b1 (f_X9_goHours v2 v3 M11) fun M14 =>
      fz_gd (fz_in v1 6) <|
      some ((fz_g M14 29 v1), M14)
    else
      some ((-2), M1)
  else
    some ((-1), M1)
def f_X9_findTies_231 (ag7 : (Int32 × Int32 × fz_M) → Option (Int32 × fz_M)) (v1 : Int32) (v2 : Int32) (v3 : Int32) (v4 : Int32) (v5 : Int32) (s1 : Int32) (M : fz_M) : Option (Int32 × fz_M) :=
  fz_bd (fz_sf M 0 48 s1) fun M1 =>
  ag7 (v4, (v5 + 1), M1)
def f_X9_findTies_214 (ag7 : (Int32 × Int32 × fz_M) → Option (Int32 × fz_M)) (v1 : Int32) (v2 : Int32) (v3 : Int32) (v5 : Int32) (v7 : Int32) (s0 : Int32) (M : fz_M) : Option (Int32 × fz_M) :=
  if v7 = 0 then
    f_X9_findTies_231 ag7 v1 v2 v3 s0 v5 (fz_f M 0 48) M
  else
    f_X9_findTies_231 ag7 v1 v2 v3 s0 v5 v5 M
def f_X9_findTies_194 (ag7 : (Int32 × Int32 × fz_M) → Option (Int32 × fz_M)) (ag149 : (Int32 × Int32) → Option (Int32 × fz_M)) (v1 : Int32) (v2 : Int32) (v3 : Int32) (v4 : Int32) (v5 : Int32) (v6 : Int32) (v8 : Int32) (s0 : Int32) (M : fz_M) : Option (Int32 × fz_M) :=
  ag149 (s0, (v8 + 1))
def f_X9_findTies_193 (ag7 : (Int32 × Int32 × fz_M) → Option (Int32 × fz_M)) (ag149 : (Int32 × Int32) → Option (Int32 × fz_M)) (v1 : Int32) (v2 : Int32) (v3 : Int32) (v4 : Int32) (v5 : Int32) (v6 : Int32) (v8 : Int32) (M : fz_M) : Option (Int32 × fz_M) :=
  f_X9_findTies_194 ag7 ag149 v1 v2 v3 v4 v5 v6 v8 0 M
def f_X9_findTies_149_s (ag7 : (Int32 × Int32 × fz_M) → Option (Int32 × fz_M)) (ag149 : (Int32 × Int32) → Option (Int32 × fz_M)) (v1 : Int32) (v2 : Int32) (v3 : Int32) (v4 : Int32) (v5 : Int32) (v6 : Int32) (v7 : Int32) (v8 : Int32) (M : fz_M) : Option (Int32 × fz_M) :=
  if (fz_f M 0 6) ≤ v8 then
    if v7 = 0 then
      f_X9_findTies_214 ag7 v1 v2 v3 v5 v7 v4 M
    else
      f_X9_findTies_214 ag7 v1 v2 v3 v5 v7 v6 M
  else
    if v7 = 0 then
      f_X9_findTies_193 ag7 ag149 v1 v2 v3 v4 v5 v6 v8 M
    else
      fz_b1 (f_X9_has v1 v8 M) fun r4 =>
      if r4 = 0 then
        f_X9_findTies_194 ag7 ag149 v1 v2 v3 v4 v5 v6 v8 1 M
      else
        fz_gd (fz_in v8 6) <|
        fz_gd (fz_in v8 6) <|
        if ¬ (fz_g M 29 v8) = (fz_g M 11 v8) then
          f_X9_findTies_193 ag7 ag149 v1 v2 v3 v4 v5 v6 v8 M
        else
          f_X9_findTies_194 ag7 ag149 v1 v2 v3 v4 v5 v6 v8 1 M
def f_X9_findTies_149 (ag7 : (Int32 × Int32 × fz_M) → Option (Int32 × fz_M)) (v1 : Int32) (v2 : Int32) (v3 : Int32) (v4 : Int32) (v5 : Int32) (v6 : Int32) (v7 : Int32) (v8 : Int32) (M : fz_M) : Option (Int32 × fz_M) :=
  fz_lp (fun ag z => f_X9_findTies_149_s ag7 ag v1 v2 v3 v4 v5 v6 z.1 z.2 M) fz_fuel (v7, v8)
def f_X9_findTies_137 (ag7 : (Int32 × Int32 × fz_M) → Option (Int32 × fz_M)) (v1 : Int32) (v2 : Int32) (v3 : Int32) (v4 : Int32) (v5 : Int32) (v6 : Int32) (M : fz_M) : Option (Int32 × fz_M) :=
  fz_b1 (f_X9_goHours v2 v3 M) fun M2 =>
  f_X9_findTies_149 ag7 v1 v2 v3 v4 v5 v6 1 0 M2
def f_X9_findTies_116 (ag7 : (Int32 × Int32 × fz_M) → Option (Int32 × fz_M)) (ag28 : (Int32 × Int32 × fz_M) → Option (Int32 × fz_M)) (v1 : Int32) (v2 : Int32) (v3 : Int32) (v4 : Int32) (v5 : Int32) (v6 : Int32) (v7 : Int32) (s1 : Int32) (s2 : Int32) (M : fz_M) : Option (Int32 × fz_M) :=
  fz_gd (fz_in s1 6) <|
  fz_bd (fz_s M 30 s1 s2) fun M2 =>
  ag28 (v6, (v7 + 1), M2)
def f_X9_findTies_85 (ag7 : (Int32 × Int32 × fz_M) → Option (Int32 × fz_M)) (ag28 : (Int32 × Int32 × fz_M) → Option (Int32 × fz_M)) (v1 : Int32) (v2 : Int32) (v3 : Int32) (v4 : Int32) (v5 : Int32) (v7 : Int32) (v8 : Int32) (s0 : Int32) (s1 : Int32) (M : fz_M) : Option (Int32 × fz_M) :=
  fz_bd (s0 + s1) fun x1 =>
  fz_b1 (f_X9_has v5 v7 M) fun r2 =>
  if r2 = 0 then
    fz_gd (fz_in v7 6) <|
    f_X9_findTies_116 ag7 ag28 v1 v2 v3 v4 v5 x1 v7 v7 (fz_g M 30 v7) M
  else
    f_X9_findTies_116 ag7 ag28 v1 v2 v3 v4 v5 x1 v7 v7 v8 M
def f_X9_findTies_65 (ag7 : (Int32 × Int32 × fz_M) → Option (Int32 × fz_M)) (ag28 : (Int32 × Int32 × fz_M) → Option (Int32 × fz_M)) (v1 : Int32) (v2 : Int32) (v3 : Int32) (v4 : Int32) (v5 : Int32) (v6 : Int32) (v7 : Int32) (s0 : Int32) (M : fz_M) : Option (Int32 × fz_M) :=
  fz_b1 (f_X9_has v5 v7 M) fun r1 =>
  if r1 = 0 then
    f_X9_findTies_85 ag7 ag28 v1 v2 v3 v4 v5 v7 s0 v6 0 M
  else
    f_X9_findTies_85 ag7 ag28 v1 v2 v3 v4 v5 v7 s0 v6 s0 M
def f_X9_findTies_28_s (ag7 : (Int32 × Int32 × fz_M) → Option (Int32 × fz_M)) (ag28 : (Int32 × Int32 × fz_M) → Option (Int32 × fz_M)) (v1 : Int32) (v2 : Int32) (v3 : Int32) (v4 : Int32) (v5 : Int32) (v6 : Int32) (v7 : Int32) (M : fz_M) : Option (Int32 × fz_M) :=
  if (fz_f M 0 6) ≤ v7 then
    if v4 = (-9) then
      f_X9_findTies_137 ag7 v1 v2 v3 v4 v5 v6 M
    else
      if v4 ≤ v6 then
        ag7 (v4, (v5 + 1), M)
      else
        f_X9_findTies_137 ag7 v1 v2 v3 v4 v5 v6 M
  else
    fz_gd (fz_in v7 6) <|
    fz_b1 (f_X9_depth (fz_g M 29 v7) v2 M) fun r5 =>
    if r5 ≤ 9 then
      f_X9_findTies_65 ag7 ag28 v1 v2 v3 v4 v5 v6 v7 r5 M
    else
      f_X9_findTies_65 ag7 ag28 v1 v2 v3 v4 v5 v6 v7 9 M
def f_X9_findTies_28 (ag7 : (Int32 × Int32 × fz_M) → Option (Int32 × fz_M)) (v1 : Int32) (v2 : Int32) (v3 : Int32) (v4 : Int32) (v5 : Int32) (v6 : Int32) (v7 : Int32) (M : fz_M) : Option (Int32 × fz_M) :=
  fz_lp (fun ag z => f_X9_findTies_28_s ag7 ag v1 v2 v3 v4 v5 z.1 z.2.1 z.2.2) fz_fuel (v6, v7, M)
def f_X9_findTies_7_s (ag7 : (Int32 × Int32 × fz_M) → Option (Int32 × fz_M)) (v1 : Int32) (v2 : Int32) (v3 : Int32) (v4 : Int32) (v5 : Int32) (M : fz_M) : Option (Int32 × fz_M) :=
  if (1 <<< ((fz_f M 0 6) &&& 31)) ≤ v5 then
    some (v4, M)
  else
    fz_b1 (f_X9_begin M) fun M3 =>
    f_X9_findTies_28 ag7 v1 v2 v3 v4 v5 0 0 M3
def f_X9_findTies_7 (v1 : Int32) (v2 : Int32) (v3 : Int32) (v4 : Int32) (v5 : Int32) (M : fz_M) : Option (Int32 × fz_M) :=
  fz_lp (fun ag z => f_X9_findTies_7_s ag v1 v2 v3 z.1 z.2.1 z.2.2) fz_fuel (v4, v5, M)
def f_X9_findTies (v1 : Int32) (v2 : Int32) (v3 : Int32) (M : fz_M) : Option (Int32 × fz_M) :=
  f_X9_findTies_7 v1 v2 v3 (-9) 0 M
def f_X9_ties (v1 : Int32) (v2 : Int32) (v3 : Int32) (v4 : Int32) (M : fz_M) : Option (Int32 × fz_M) :=
  fz_bd (fz_sf M 0 0 0) fun M1 =>
  fz_b1 (f_X9_in (v1.toInt64) 0 (((1 <<< ((fz_f M1 0 6) &&& 31)) - 1).toInt64) M1) fun r2 =>
  if r2 = 0 then
    some ((-2), M1)
  else
    fz_b1 (f_X9_noFlood v2 v3 M1) fun r6 =>
    if r6 = 0 then
      fz_b2 (f_X9_findTies v1 v2 v3 M1) fun r10 M11 =>
      if r10 = (-9) then
        some (r10, M11)
      else
        if ¬ v4 = 0 then
          some ((fz_f M11 0 48), M11)
        else
          some (r10, M11)
    else
      some ((-2), M1)
def f_X9_dowry_38_s (ag38 : (Int32 × fz_M) → Option (Int32 × fz_M)) (v1 : Int32) (v2 : Int32) (v3 : Int32) (v4 : Int32) (v5 : Int32) (M : fz_M) : Option (Int32 × fz_M) :=
  if (fz_f M 0 4) ≤ v5 then
    some ((-9), M)
  else
    fz_b1 (f_X9_begin M) fun M3 =>
    fz_gd (fz_in v1 6) <|
    fz_bd (fz_s M3 29 v1 v5) fun M6 =>
    fz_b1 (f_X9_goHours v2 v3 M6) fun M8 =>
    fz_gd (fz_in v1 6) <|
    if ¬ (fz_g M8 29 v1) = v4 then
      ag38 ((v5 + 1), M8)
    else
      some (v5, M8)
def f_X9_dowry_38 (v1 : Int32) (v2 : Int32) (v3 : Int32) (v4 : Int32) (v5 : Int32) (M : fz_M) : Option (Int32 × fz_M) :=
  fz_lp (fun ag z => f_X9_dowry_38_s ag v1 v2 v3 v4 z.1 z.2) fz_fuel (v5, M)
def f_X9_dowry (v1 : Int32) (v2 : Int32) (v3 : Int32) (v4 : Int32) (M : fz_M) : Option (Int32 × fz_M) :=
  fz_bd (fz_sf M 0 0 0) fun M1 =>
  fz_b1 (f_X9_noPiece v1 M1) fun r2 =>
  if ¬ r2 = 0 then
    some ((-1), M1)
  else
    fz_b1 (f_X9_noHouse v4 M1) fun r6 =>
    if r6 = 0 then
      fz_b1 (f_X9_noFlood v2 v3 M1) fun r10 =>
      if r10 = 0 then
        f_X9_dowry_38 v1 v2 v3 v4 0 M1
      else
        some ((-2), M1)
    else
      some ((-1), M1)
def f_X9_widthIn_49 (ag16 : (Int32 × Int32) → Option (Int32 × fz_M)) (v1 : Int32) (v5 : Int32) (s0 : Int32) (s1 : Int32) (M : fz_M) : Option (Int32 × fz_M) :=
  fz_bd (s0 + s1) fun x1 =>
  ag16 (x1, (v5 + 1))
def f_X9_widthIn_16_s (ag16 : (Int32 × Int32) → Option (Int32 × fz_M)) (v1 : Int32) (v4 : Int32) (v5 : Int32) (M : fz_M) : Option (Int32 × fz_M) :=
  if (fz_f M 0 6) ≤ v5 then
    some (v4, M)
  else
    fz_gd (fz_in v5 6) <|
    if ¬ (fz_g M 29 v5) = v1 then
      f_X9_widthIn_49 ag16 v1 v5 v4 0 M
    else
      fz_gd (fz_in v5 6) <|
      f_X9_widthIn_49 ag16 v1 v5 v4 (fz_g M 9 v5) M
def f_X9_widthIn_16 (v1 : Int32) (v4 : Int32) (v5 : Int32) (M : fz_M) : Option (Int32 × fz_M) :=
  fz_lp (fun ag z => f_X9_widthIn_16_s ag v1 z.1 z.2 M) fz_fuel (v4, v5)
def f_X9_widthIn (v1 : Int32) (v2 : Int32) (v3 : Int32) (M : fz_M) : Option (Int32 × fz_M) :=
  fz_b1 (f_X9_begin M) fun M2 =>
  fz_b1 (f_X9_goHours v2 v3 M2) fun M5 =>
  f_X9_widthIn_16 v1 0 0 M5
def f_X9_toShut_116 (ag42 : (Int32 × Int32 × Int32 × fz_M) → Option (Int32 × fz_M)) (v1 : Int32) (v2 : Int32) (v3 : Int32) (v5 : Int32) (v6 : Int32) (s0 : Int32) (M : fz_M) : Option (Int32 × fz_M) :=
  ag42 (s0, v5, (v6 + 1), M)
def f_X9_toShut_100 (ag42 : (Int32 × Int32 × Int32 × fz_M) → Option (Int32 × fz_M)) (v1 : Int32) (v2 : Int32) (v3 : Int32) (v4 : Int32) (v6 : Int32) (v7 : Int32) (s0 : Int32) (M : fz_M) : Option (Int32 × fz_M) :=
  if v7 ≤ v4 then
    f_X9_toShut_116 ag42 v1 v2 v3 s0 v6 v4 M
  else
    f_X9_toShut_116 ag42 v1 v2 v3 s0 v6 v7 M
def f_X9_toShut_42_s (ag42 : (Int32 × Int32 × Int32 × fz_M) → Option (Int32 × fz_M)) (v1 : Int32) (v2 : Int32) (v3 : Int32) (v4 : Int32) (v5 : Int32) (v6 : Int32) (M : fz_M) : Option (Int32 × fz_M) :=
  if (fz_f M 0 5) ≤ v6 then
    some (v5, M)
  else
    fz_gd (fz_in v6 10) <|
    if ¬ (fz_g M 7 v6) = 0 then
      ag42 (v4, v5, (v6 + 1), M)
    else
      fz_gd (fz_in v6 10) <|
      fz_bd (fz_s M 7 v6 (fz_z 1)) fun M5 =>
      fz_b2 (f_X9_widthIn v1 v2 v3 M5) fun r6 M7 =>
      fz_gd (fz_in v6 10) <|
      fz_bd (fz_s M7 7 v6 (fz_z 0)) fun M10 =>
      if r6 ≤ v4 then
        f_X9_toShut_100 ag42 v1 v2 v3 v4 v6 r6 v5 M10
      else
        f_X9_toShut_100 ag42 v1 v2 v3 v4 v6 r6 v6 M10
def f_X9_toShut_42 (v1 : Int32) (v2 : Int32) (v3 : Int32) (v4 : Int32) (v5 : Int32) (v6 : Int32) (M : fz_M) : Option (Int32 × fz_M) :=
  fz_lp (fun ag z => f_X9_toShut_42_s ag v1 v2 v3 z.1 z.2.1 z.2.2.1 z.2.2.2) fz_fuel (v4, v5, v6, M)
def f_X9_toShut (v1 : Int32) (v2 : Int32) (v3 : Int32) (M : fz_M) : Option (Int32 × fz_M) :=
  fz_bd (fz_sf M 0 0 0) fun M1 =>
  fz_b1 (f_X9_noHouse v1 M1) fun r2 =>
  if r2 = 0 then
    fz_b1 (f_X9_noFlood v2 v3 M1) fun r6 =>
    if r6 = 0 then
      fz_b2 (f_X9_widthIn v1 v2 v3 M1) fun r10 M11 =>
      f_X9_toShut_42 v1 v2 v3 r10 (-9) 0 M11
    else
      some ((-2), M1)
  else
    some ((-1), M1)
def f_X9_divisor_6_s (ag6 : (Int64 × Int64) → Option Int64) (v4 : Int64) (v6 : Int64) (M : fz_M) : Option Int64 :=
  if (lg_cmp v6 0) = 0 then
    some v4
  else
    fz_gd (fz_nzl v6) <|
    fz_bd (v4 - v4 / v6 * v6) fun x3 =>
    ag6 (v6, x3)
def f_X9_divisor_6 (v4 : Int64) (v6 : Int64) (M : fz_M) : Option Int64 :=
  fz_lp (fun ag z => f_X9_divisor_6_s ag z.1 z.2 M) fz_fuel (v4, v6)
def f_X9_divisor (v0 : Int64) (v2 : Int64) (M : fz_M) : Option Int64 :=
  f_X9_divisor_6 v0 v2 M
def f_X9_drawn_22 (M : fz_M) : Option (Int64 × fz_M) :=
  some ((-1), M)
def f_X9_drawn_240_s (ag83 : (Int64 × Int32 × fz_M) → Option (Int64 × fz_M)) (ag240 : (Int32 × fz_M) → Option (Int64 × fz_M)) (v1 : Int32) (v2 : Int32) (v3 : Int32) (v4 : Int32) (v5 : Int32) (v6 : Int64) (v8 : Int32) (v9 : Int32) (M : fz_M) : Option (Int64 × fz_M) :=
  if 6 ≤ v9 then
    ag83 (v6, (v8 + 1), M)
  else
    fz_gd (fz_in v9 6) <|
    fz_gd (fz_in v9 6) <|
    fz_bd (fz_sl M 34 v9 (fz_gl M 35 v9)) fun M4 =>
    ag240 ((v9 + 1), M4)
def f_X9_drawn_240 (ag83 : (Int64 × Int32 × fz_M) → Option (Int64 × fz_M)) (v1 : Int32) (v2 : Int32) (v3 : Int32) (v4 : Int32) (v5 : Int32) (v6 : Int64) (v8 : Int32) (v9 : Int32) (M : fz_M) : Option (Int64 × fz_M) :=
  fz_lp (fun ag z => f_X9_drawn_240_s ag83 ag v1 v2 v3 v4 v5 v6 v8 z.1 z.2) fz_fuel (v9, M)
def f_X9_drawn_134_s (ag83 : (Int64 × Int32 × fz_M) → Option (Int64 × fz_M)) (ag134 : (Int32 × fz_M) → Option (Int64 × fz_M)) (v1 : Int32) (v2 : Int32) (v3 : Int32) (v4 : Int32) (v5 : Int32) (v6 : Int64) (v8 : Int32) (v9 : Int32) (M : fz_M) : Option (Int64 × fz_M) :=
  if (fz_f M 0 5) ≤ v9 then
    f_X9_drawn_240 ag83 v1 v2 v3 v4 v5 v6 v8 0 M
  else
    fz_gd (fz_in v9 10) <|
    if ¬ (fz_g M 7 v9) = 0 then
      ag134 ((v9 + 1), M)
    else
      fz_gd (fz_in v9 10) <|
      fz_b1 (f_X9_depth (fz_g M 4 v9) v2 M) fun r5 =>
      fz_gd (fz_in v1 6) <|
      if r5 < (fz_g M 10 v1) then
        ag134 ((v9 + 1), M)
      else
        fz_gd (fz_in v9 10) <|
        fz_gd (fz_in (fz_g M 4 v9) 6) <|
        fz_gd (fz_in v9 10) <|
        fz_bd ((fz_gl M 34 (fz_g M 4 v9)) * ((fz_g M 6 v9).toInt64)) fun x13 =>
        fz_gd (fz_in v9 10) <|
        fz_gd (fz_in (fz_g M 4 v9) 6) <|
        fz_gd (fz_in (fz_g M 4 v9) 6) <|
        fz_bd (fz_sl M 35 (fz_g M 4 v9) ((fz_gl M 35 (fz_g M 4 v9)) - x13)) fun M17 =>
        fz_gd (fz_in v9 10) <|
        fz_gd (fz_in (fz_g M17 5 v9) 6) <|
        fz_gd (fz_in (fz_g M17 5 v9) 6) <|
        fz_bd (fz_sl M17 35 (fz_g M17 5 v9) ((fz_gl M17 35 (fz_g M17 5 v9)) + x13)) fun M21 =>
        ag134 ((v9 + 1), M21)
def f_X9_drawn_134 (ag83 : (Int64 × Int32 × fz_M) → Option (Int64 × fz_M)) (v1 : Int32) (v2 : Int32) (v3 : Int32) (v4 : Int32) (v5 : Int32) (v6 : Int64) (v8 : Int32) (v9 : Int32) (M : fz_M) : Option (Int64 × fz_M) :=
  fz_lp (fun ag z => f_X9_drawn_134_s ag83 ag v1 v2 v3 v4 v5 v6 v8 z.1 z.2) fz_fuel (v9, M)
def f_X9_drawn_100_s (ag83 : (Int64 × Int32 × fz_M) → Option (Int64 × fz_M)) (ag100 : (Int32 × fz_M) → Option (Int64 × fz_M)) (v1 : Int32) (v2 : Int32) (v3 : Int32) (v4 : Int32) (v5 : Int32) (v6 : Int64) (v8 : Int32) (v9 : Int32) (M : fz_M) : Option (Int64 × fz_M) :=
  if 6 ≤ v9 then
    f_X9_drawn_134 ag83 v1 v2 v3 v4 v5 v6 v8 0 M
  else
    fz_gd (fz_in v9 6) <|
    fz_gd (fz_in v9 6) <|
    fz_bd (fz_sl M 35 v9 (10 * (fz_gl M 34 v9))) fun M4 =>
    ag100 ((v9 + 1), M4)
def f_X9_drawn_100 (ag83 : (Int64 × Int32 × fz_M) → Option (Int64 × fz_M)) (v1 : Int32) (v2 : Int32) (v3 : Int32) (v4 : Int32) (v5 : Int32) (v6 : Int64) (v8 : Int32) (v9 : Int32) (M : fz_M) : Option (Int64 × fz_M) :=
  fz_lp (fun ag z => f_X9_drawn_100_s ag83 ag v1 v2 v3 v4 v5 v6 v8 z.1 z.2) fz_fuel (v9, M)
def f_X9_drawn_83_s (ag83 : (Int64 × Int32 × fz_M) → Option (Int64 × fz_M)) (v1 : Int32) (v2 : Int32) (v3 : Int32) (v4 : Int32) (v5 : Int32) (v6 : Int64) (v8 : Int32) (M : fz_M) : Option (Int64 × fz_M) :=
  if v3 ≤ v8 then
    fz_gd (fz_in v4 6) <|
    fz_b1 (f_X9_divisor (fz_gl M 34 v4) v6 M) fun r3 =>
    if v5 = 0 then
      fz_gd (fz_nzl r3) <|
      some ((v6 / r3), M)
    else
      fz_gd (fz_in v4 6) <|
      fz_gd (fz_nzl r3) <|
      some (((fz_gl M 34 v4) / r3), M)
  else
    fz_bd (v6 * 10) fun x10 =>
    f_X9_drawn_100 ag83 v1 v2 v3 v4 v5 x10 v8 0 M
def f_X9_drawn_83 (v1 : Int32) (v2 : Int32) (v3 : Int32) (v4 : Int32) (v5 : Int32) (v6 : Int64) (v8 : Int32) (M : fz_M) : Option (Int64 × fz_M) :=
  fz_lp (fun ag z => f_X9_drawn_83_s ag v1 v2 v3 v4 v5 z.1 z.2.1 z.2.2) fz_fuel (v6, v8, M)
def f_X9_drawn_70 (ag41 : (Int32 × fz_M) → Option (Int64 × fz_M)) (v1 : Int32) (v2 : Int32) (v3 : Int32) (v4 : Int32) (v5 : Int32) (v6 : Int32) (s1 : Int32) (s2 : Int64) (M : fz_M) : Option (Int64 × fz_M) :=
  fz_gd (fz_in s1 6) <|
  fz_bd (fz_sl M 34 s1 s2) fun M2 =>
  ag41 ((v6 + 1), M2)
def f_X9_drawn_41_s (ag41 : (Int32 × fz_M) → Option (Int64 × fz_M)) (v1 : Int32) (v2 : Int32) (v3 : Int32) (v4 : Int32) (v5 : Int32) (v6 : Int32) (M : fz_M) : Option (Int64 × fz_M) :=
  if 6 ≤ v6 then
    f_X9_drawn_83 v1 v2 v3 v4 v5 1 0 M
  else
    fz_gd (fz_in v1 6) <|
    if ¬ v6 = (fz_g M 11 v1) then
      f_X9_drawn_70 ag41 v1 v2 v3 v4 v5 v6 v6 0 M
    else
      f_X9_drawn_70 ag41 v1 v2 v3 v4 v5 v6 v6 1 M
def f_X9_drawn_41 (v1 : Int32) (v2 : Int32) (v3 : Int32) (v4 : Int32) (v5 : Int32) (v6 : Int32) (M : fz_M) : Option (Int64 × fz_M) :=
  fz_lp (fun ag z => f_X9_drawn_41_s ag v1 v2 v3 v4 v5 z.1 z.2) fz_fuel (v6, M)
def f_X9_drawn (v1 : Int32) (v2 : Int32) (v3 : Int32) (v4 : Int32) (v5 : Int32) (M : fz_M) : Option (Int64 × fz_M) :=
  fz_bd (fz_sf M 0 0 0) fun M1 =>
  fz_b1 (f_X9_noPiece v1 M1) fun r2 =>
  if ¬ r2 = 0 then
    f_X9_drawn_22 M1
  else
    fz_b1 (f_X9_noHouse v4 M1) fun r6 =>
    if r6 = 0 then
      fz_b1 (f_X9_noFlood v2 v3 M1) fun r10 =>
      if r10 = 0 then
        f_X9_drawn_41 v1 v2 v3 v4 v5 0 M1
      else
        some ((-2), M1)
    else
      f_X9_drawn_22 M1
def f_X9_goesFrom_17_s (ag17 : (Int32) → Option (Int32 × fz_M)) (v1 : Int32) (v2 : Int32) (M : fz_M) : Option (Int32 × fz_M) :=
  if 20 ≤ v2 then
    some ((-9), M)
  else
    fz_gd (fz_in v1 6) <|
    fz_b1 (f_X9_strongest (fz_g M 11 v1) M) fun r3 =>
    if r3 = (-9) then
      some ((-9), M)
    else
      fz_gd (fz_in v1 6) <|
      fz_b1 (f_X9_depth (fz_g M 11 v1) v2 M) fun r8 =>
      fz_gd (fz_in v1 6) <|
      if r8 < (fz_g M 10 v1) then
        ag17 (v2 + 1)
      else
        fz_gd (fz_in v1 6) <|
        if (fz_g M 12 v1) = 0 then
          some (v2, M)
        else
          fz_gd (fz_in v1 6) <|
          if r8 ≤ (fz_g M 12 v1) then
            ag17 (v2 + 1)
          else
            some (v2, M)
def f_X9_goesFrom_17 (v1 : Int32) (v2 : Int32) (M : fz_M) : Option (Int32 × fz_M) :=
  fz_lp (fun ag z => f_X9_goesFrom_17_s ag v1 z M) fz_fuel v2
def f_X9_goesFrom (v1 : Int32) (M : fz_M) : Option (Int32 × fz_M) :=
  fz_bd (fz_sf M 0 0 0) fun M1 =>
  fz_b1 (f_X9_noPiece v1 M1) fun r2 =>
  if r2 = 0 then
    f_X9_goesFrom_17 v1 0 M1
  else
    some ((-1), M1)
def f_X9_mark (v1 : Int32) (v2 : Int32) (M : fz_M) : Option (Int32 × fz_M) :=
  fz_bd (fz_sf M 0 0 0) fun M1 =>
  fz_b1 (f_X9_noHouse v2 M1) fun r2 =>
  if r2 = 0 then
    fz_b1 (f_X9_in (v1.toInt64) 1 9 M1) fun r6 =>
    if ¬ r6 = 0 then
      if ¬ (fz_f M1 0 43) = 8 then
        fz_gd (fz_in (fz_f M1 0 43) 8) <|
        fz_bd (fz_s M1 32 (fz_f M1 0 43) v1) fun M12 =>
        fz_gd (fz_in (fz_f M12 0 43) 8) <|
        fz_bd (fz_s M12 33 (fz_f M12 0 43) v2) fun M14 =>
        fz_bd (fz_sf M14 0 43 ((fz_f M14 0 43) + 1)) fun M15 =>
        some ((fz_f M15 0 43), M15)
      else
        some ((-4), M1)
    else
      some ((-2), M1)
  else
    some ((-1), M1)
def f_X9_unmark (M : fz_M) : Option (Int32 × fz_M) :=
  fz_bd (fz_sf M 0 0 0) fun M1 =>
  fz_bd (fz_f M1 0 43) fun x2 =>
  fz_bd (fz_sf M1 0 43 0) fun M3 =>
  some (x2, M3)
def f_X9_isMarked_45 (ag5 : (Int32 × Int32) → Option Int32) (v1 : Int32) (v2 : Int32) (v4 : Int32) (s0 : Int32) (M : fz_M) : Option Int32 :=
  ag5 (s0, (v4 + 1))
def f_X9_isMarked_44 (ag5 : (Int32 × Int32) → Option Int32) (v1 : Int32) (v2 : Int32) (v4 : Int32) (M : fz_M) : Option Int32 :=
  f_X9_isMarked_45 ag5 v1 v2 v4 0 M
def f_X9_isMarked_5_s (ag5 : (Int32 × Int32) → Option Int32) (v1 : Int32) (v2 : Int32) (v3 : Int32) (v4 : Int32) (M : fz_M) : Option Int32 :=
  if (fz_f M 0 43) ≤ v4 then
    fz_gd (fz_nb v3) <|
    some v3
  else
    if v3 = 0 then
      f_X9_isMarked_44 ag5 v1 v2 v4 M
    else
      fz_gd (fz_in v4 8) <|
      if ¬ (fz_g M 32 v4) = v1 then
        f_X9_isMarked_45 ag5 v1 v2 v4 1 M
      else
        fz_gd (fz_in v4 8) <|
        if ¬ (fz_g M 33 v4) = v2 then
          f_X9_isMarked_44 ag5 v1 v2 v4 M
        else
          f_X9_isMarked_45 ag5 v1 v2 v4 1 M
def f_X9_isMarked_5 (v1 : Int32) (v2 : Int32) (v3 : Int32) (v4 : Int32) (M : fz_M) : Option Int32 :=
  fz_lp (fun ag z => f_X9_isMarked_5_s ag v1 v2 z.1 z.2 M) fz_fuel (v3, v4)
def f_X9_isMarked (v1 : Int32) (v2 : Int32) (M : fz_M) : Option Int32 :=
  f_X9_isMarked_5 v1 v2 1 0 M
def f_X9_layRows_149 (ag32 : (Int32 × fz_M) → Option fz_M) (ag115 : (Int32 × fz_M) → Option fz_M) (v1 : Int32) (v3 : Int32) (v4 : Int32) (s1 : Int32) (s2 : Int64) (M : fz_M) : Option fz_M :=
  fz_gd (fz_in s1 6) <|
  fz_bd (fz_sl M 34 s1 s2) fun M2 =>
  ag115 ((v4 + 1), M2)
def f_X9_layRows_115_s (ag32 : (Int32 × fz_M) → Option fz_M) (ag115 : (Int32 × fz_M) → Option fz_M) (v1 : Int32) (v3 : Int32) (v4 : Int32) (M : fz_M) : Option fz_M :=
  if 6 ≤ v4 then
    ag32 ((v3 + 1), M)
  else
    fz_b1 (f_X9_isMarked v3 v4 M) fun r2 =>
    if r2 = 0 then
      f_X9_layRows_149 ag32 ag115 v1 v3 v4 v4 0 M
    else
      fz_gd (fz_in v4 6) <|
      f_X9_layRows_149 ag32 ag115 v1 v3 v4 v4 (fz_gl M 35 v4) M
def f_X9_layRows_115 (ag32 : (Int32 × fz_M) → Option fz_M) (v1 : Int32) (v3 : Int32) (v4 : Int32) (M : fz_M) : Option fz_M :=
  fz_lp (fun ag z => f_X9_layRows_115_s ag32 ag v1 v3 z.1 z.2) fz_fuel (v4, M)
def f_X9_layRows_70_s (ag32 : (Int32 × fz_M) → Option fz_M) (ag70 : (Int32 × fz_M) → Option fz_M) (v1 : Int32) (v3 : Int32) (v4 : Int32) (M : fz_M) : Option fz_M :=
  if (fz_f M 0 5) ≤ v4 then
    f_X9_layRows_115 ag32 v1 v3 0 M
  else
    fz_gd (fz_in v4 10) <|
    fz_gd (fz_in (fz_g M 5 v4) 6) <|
    fz_gd (fz_in v4 10) <|
    fz_gd (fz_in (fz_g M 4 v4) 6) <|
    fz_gd (fz_in (fz_g M 5 v4) 6) <|
    fz_bd (fz_sl M 35 (fz_g M 5 v4) ((fz_gl M 35 (fz_g M 5 v4)) + (fz_gl M 34 (fz_g M 4 v4)))) fun M7 =>
    ag70 ((v4 + 1), M7)
def f_X9_layRows_70 (ag32 : (Int32 × fz_M) → Option fz_M) (v1 : Int32) (v3 : Int32) (v4 : Int32) (M : fz_M) : Option fz_M :=
  fz_lp (fun ag z => f_X9_layRows_70_s ag32 ag v1 v3 z.1 z.2) fz_fuel (v4, M)
def f_X9_layRows_40_s (ag32 : (Int32 × fz_M) → Option fz_M) (ag40 : (Int32 × fz_M) → Option fz_M) (v1 : Int32) (v3 : Int32) (v4 : Int32) (M : fz_M) : Option fz_M :=
  if 6 ≤ v4 then
    f_X9_layRows_70 ag32 v1 v3 0 M
  else
    fz_gd (fz_in v4 6) <|
    fz_gd (fz_in v4 6) <|
    fz_bd (fz_sl M 35 v4 (fz_gl M 34 v4)) fun M4 =>
    ag40 ((v4 + 1), M4)
def f_X9_layRows_40 (ag32 : (Int32 × fz_M) → Option fz_M) (v1 : Int32) (v3 : Int32) (v4 : Int32) (M : fz_M) : Option fz_M :=
  fz_lp (fun ag z => f_X9_layRows_40_s ag32 ag v1 v3 z.1 z.2) fz_fuel (v4, M)
def f_X9_layRows_32_s (ag32 : (Int32 × fz_M) → Option fz_M) (v1 : Int32) (v3 : Int32) (M : fz_M) : Option fz_M :=
  if v1 < v3 then
    some M
  else
    f_X9_layRows_40 ag32 v1 v3 0 M
def f_X9_layRows_32 (v1 : Int32) (v3 : Int32) (M : fz_M) : Option fz_M :=
  fz_lp (fun ag z => f_X9_layRows_32_s ag v1 z.1 z.2) fz_fuel (v3, M)
def f_X9_layRows_23 (ag2 : (Int32 × fz_M) → Option fz_M) (v1 : Int32) (v2 : Int32) (v3 : Int32) (s1 : Int32) (s2 : Int64) (M : fz_M) : Option fz_M :=
  fz_gd (fz_in s1 6) <|
  fz_bd (fz_sl M 34 s1 s2) fun M2 =>
  ag2 ((v3 + 1), M2)
def f_X9_layRows_2_s (ag2 : (Int32 × fz_M) → Option fz_M) (v1 : Int32) (v2 : Int32) (v3 : Int32) (M : fz_M) : Option fz_M :=
  if 6 ≤ v3 then
    f_X9_layRows_32 v1 1 M
  else
    if ¬ v3 = v2 then
      f_X9_layRows_23 ag2 v1 v2 v3 v3 0 M
    else
      f_X9_layRows_23 ag2 v1 v2 v3 v3 1 M
def f_X9_layRows_2 (v1 : Int32) (v2 : Int32) (v3 : Int32) (M : fz_M) : Option fz_M :=
  fz_lp (fun ag z => f_X9_layRows_2_s ag v1 v2 z.1 z.2) fz_fuel (v3, M)
def f_X9_layRows (v1 : Int32) (v2 : Int32) (M : fz_M) : Option fz_M :=
  f_X9_layRows_2 v1 v2 0 M
def f_X9_rows_44_s (ag44 : (Int64 × Int32) → Option (Int64 × fz_M)) (v3 : Int64) (v5 : Int32) (M : fz_M) : Option (Int64 × fz_M) :=
  if 6 ≤ v5 then
    some (v3, M)
  else
    fz_gd (fz_in v5 6) <|
    fz_bd (v3 + (fz_gl M 34 v5)) fun x3 =>
    ag44 (x3, (v5 + 1))
def f_X9_rows_44 (v3 : Int64) (v5 : Int32) (M : fz_M) : Option (Int64 × fz_M) :=
  fz_lp (fun ag z => f_X9_rows_44_s ag z.1 z.2 M) fz_fuel (v3, v5)
def f_X9_rows (v1 : Int32) (v2 : Int32) (M : fz_M) : Option (Int64 × fz_M) :=
  fz_bd (fz_sf M 0 0 0) fun M1 =>
  fz_b1 (f_X9_noHouse v2 M1) fun r2 =>
  if r2 = 0 then
    fz_b1 (f_X9_in (v1.toInt64) 0 9 M1) fun r6 =>
    if ¬ r6 = 0 then
      fz_b1 (f_X9_layRows v1 v2 M1) fun M11 =>
      f_X9_rows_44 0 0 M11
    else
      some ((-2), M1)
  else
    some ((-1), M1)
def f_X9_ends_69 (ag41 : (Int32 × Int32) → Option (Int32 × fz_M)) (v4 : Int32) (s0 : Int32) (s1 : Int32) (M : fz_M) : Option (Int32 × fz_M) :=
  fz_bd (s0 ||| s1) fun x1 =>
  ag41 (x1, (v4 + 1))
def f_X9_ends_41_s (ag41 : (Int32 × Int32) → Option (Int32 × fz_M)) (v3 : Int32) (v4 : Int32) (M : fz_M) : Option (Int32 × fz_M) :=
  if 6 ≤ v4 then
    some (v3, M)
  else
    fz_gd (fz_in v4 6) <|
    if (lg_cmp (fz_gl M 34 v4) 0) ≤ 0 then
      f_X9_ends_69 ag41 v4 v3 0 M
    else
      f_X9_ends_69 ag41 v4 v3 (1 <<< (v4 &&& 31)) M
def f_X9_ends_41 (v3 : Int32) (v4 : Int32) (M : fz_M) : Option (Int32 × fz_M) :=
  fz_lp (fun ag z => f_X9_ends_41_s ag z.1 z.2 M) fz_fuel (v3, v4)
def f_X9_ends (v1 : Int32) (v2 : Int32) (M : fz_M) : Option (Int32 × fz_M) :=
  fz_bd (fz_sf M 0 0 0) fun M1 =>
  fz_b1 (f_X9_noHouse v2 M1) fun r2 =>
  if r2 = 0 then
    fz_b1 (f_X9_in (v1.toInt64) 0 9 M1) fun r6 =>
    if ¬ r6 = 0 then
      fz_b1 (f_X9_layRows v1 v2 M1) fun M11 =>
      f_X9_ends_41 0 0 M11
    else
      some ((-2), M1)
  else
    some ((-1), M1)
def f_X9_keep_38_s (ag38 : (Int32 × fz_M) → Option (Int32 × fz_M)) (v1 : Int32) (v2 : Int32) (M : fz_M) : Option (Int32 × fz_M) :=
  if 10 ≤ v2 then
    some ((fz_f M 0 21), M)
  else
    fz_gd (fz_in v2 10) <|
    fz_gd (fz_in ((10 * v1) + v2) 20) <|
    fz_bd (fz_s M 27 ((10 * v1) + v2) (fz_z (fz_g M 7 v2))) fun M4 =>
    ag38 ((v2 + 1), M4)
def f_X9_keep_38 (v1 : Int32) (v2 : Int32) (M : fz_M) : Option (Int32 × fz_M) :=
  fz_lp (fun ag z => f_X9_keep_38_s ag v1 z.1 z.2) fz_fuel (v2, M)
def f_X9_keep (v1 : Int32) (M : fz_M) : Option (Int32 × fz_M) :=
  fz_bd (fz_sf M 0 0 0) fun M1 =>
  fz_b1 (f_X9_in (v1.toInt64) 0 1 M1) fun r2 =>
  if ¬ r2 = 0 then
    fz_gd (fz_in v1 2) <|
    fz_bd (fz_s M1 28 v1 (fz_z 1)) fun M7 =>
    fz_b1 (f_X9_layPage 26 (73 * v1) M7) fun M9 =>
    f_X9_keep_38 v1 0 M9
  else
    some ((-1), M1)
def f_X9_again_43_s (ag43 : (Int32 × fz_M) → Option (Int32 × fz_M)) (v1 : Int32) (v2 : Int32) (M : fz_M) : Option (Int32 × fz_M) :=
  if 10 ≤ v2 then
    fz_bd (fz_sf M 0 35 0) fun M2 =>
    some ((fz_f M2 0 21), M2)
  else
    fz_gd (fz_in ((10 * v1) + v2) 20) <|
    fz_gd (fz_in v2 10) <|
    fz_bd (fz_s M 7 v2 (fz_z (fz_g M 27 ((10 * v1) + v2)))) fun M5 =>
    ag43 ((v2 + 1), M5)
def f_X9_again_43 (v1 : Int32) (v2 : Int32) (M : fz_M) : Option (Int32 × fz_M) :=
  fz_lp (fun ag z => f_X9_again_43_s ag v1 z.1 z.2) fz_fuel (v2, M)
def f_X9_again (v1 : Int32) (M : fz_M) : Option (Int32 × fz_M) :=
  fz_bd (fz_sf M 0 0 0) fun M1 =>
  fz_b1 (f_X9_in (v1.toInt64) 0 1 M1) fun r2 =>
  if ¬ r2 = 0 then
    fz_gd (fz_in v1 2) <|
    if ¬ (fz_g M1 28 v1) = 0 then
      fz_b1 (f_X9_takePage 26 (73 * v1) M1) fun M9 =>
      f_X9_again_43 v1 0 M9
    else
      some ((-3), M1)
  else
    some ((-1), M1)
