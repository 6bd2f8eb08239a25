/-! THE CELLS of the class's world (main object 0; its parts; two plans at 20, 30; fifteen stands from 40 on, thirteen cells each: now, two kept, twelve ahead) and of the model's -/
def fz_KC : Nat := 235
def fz_lC : List fz_Sh := [.inr (8, [some (some 1), some (some 3), some (some 5), some (some 7), some (some 10), some (some 15), some (some 40), some (some 18), some (some 19), some none, some none]), .inr (1, [some (some 2), none]), .inl (0, 96, 0, 0), .inr (4, [some (some 4), none]), .inl (0, 5, 0, 0), .inr (0, [some (some 6), none, none]), .inl (3, 12, 79, 13), .inr (2, [some (some 8), some (some 9), none]), .inl (0, 8, 0, 0), .inl (0, 8, 0, 0), .inr (7, [some (some 11), some (some 12), some (some 13), some (some 14), none, none]), .inl (0, 6, 0, 0), .inl (0, 6, 0, 0), .inl (0, 6, 0, 0), .inl (0, 6, 0, 0), .inr (5, [some none, some none]), .inl (2, 6, 0, 0), .inl (2, 6, 0, 0), .inl (3, 2, 53, 13), .inl (1, 2, 0, 0), .inr (3, [none, none, none, some (some 21), some (some 22), some (some 23), some (some 24), some (some 25), some (some 26), some (some 27), some (some 28), some (some 29)]), .inl (0, 6, 0, 0), .inl (0, 6, 0, 0), .inl (0, 10, 0, 0), .inl (0, 10, 0, 0), .inl (0, 10, 0, 0), .inl (0, 6, 0, 0), .inl (0, 6, 0, 0), .inl (0, 6, 0, 0), .inl (0, 6, 0, 0), .inr (3, [none, none, none, some (some 31), some (some 32), some (some 33), some (some 34), some (some 35), some (some 36), some (some 37), some (some 38), some (some 39)]), .inl (0, 6, 0, 0), .inl (0, 6, 0, 0), .inl (0, 10, 0, 0), .inl (0, 10, 0, 0), .inl (0, 10, 0, 0), .inl (0, 6, 0, 0), .inl (0, 6, 0, 0), .inl (0, 6, 0, 0), .inl (0, 6, 0, 0), .inr (6, [none, some (some 41), some (some 42), some (some 43), some (some 44), some (some 45), some (some 52)]), .inl (0, 6, 0, 0), .inl (0, 6, 0, 0), .inl (0, 6, 0, 0), .inl (0, 6, 0, 0), .inl (4, 6, 46, 1), .inl (0, 8, 0, 0), .inl (0, 8, 0, 0), .inl (0, 8, 0, 0), .inl (0, 8, 0, 0), .inl (0, 8, 0, 0), .inl (0, 8, 0, 0), .inl (1, 10, 0, 0), .inr (6, [none, some (some 54), some (some 55), some (some 56), some (some 57), some (some 58), some (some 65)]), .inl (0, 6, 0, 0), .inl (0, 6, 0, 0), .inl (0, 6, 0, 0), .inl (0, 6, 0, 0), .inl (4, 6, 59, 1), .inl (0, 8, 0, 0), .inl (0, 8, 0, 0), .inl (0, 8, 0, 0), .inl (0, 8, 0, 0), .inl (0, 8, 0, 0), .inl (0, 8, 0, 0), .inl (1, 10, 0, 0), .inr (6, [none, some (some 67), some (some 68), some (some 69), some (some 70), some (some 71), some (some 78)]), .inl (0, 6, 0, 0), .inl (0, 6, 0, 0), .inl (0, 6, 0, 0), .inl (0, 6, 0, 0), .inl (4, 6, 72, 1), .inl (0, 8, 0, 0), .inl (0, 8, 0, 0), .inl (0, 8, 0, 0), .inl (0, 8, 0, 0), .inl (0, 8, 0, 0), .inl (0, 8, 0, 0), .inl (1, 10, 0, 0), .inr (6, [none, some (some 80), some (some 81), some (some 82), some (some 83), some (some 84), some (some 91)]), .inl (0, 6, 0, 0), .inl (0, 6, 0, 0), .inl (0, 6, 0, 0), .inl (0, 6, 0, 0), .inl (4, 6, 85, 1), .inl (0, 8, 0, 0), .inl (0, 8, 0, 0), .inl (0, 8, 0, 0), .inl (0, 8, 0, 0), .inl (0, 8, 0, 0), .inl (0, 8, 0, 0), .inl (1, 10, 0, 0), .inr (6, [none, some (some 93), some (some 94), some (some 95), some (some 96), some (some 97), some (some 104)]), .inl (0, 6, 0, 0), .inl (0, 6, 0, 0), .inl (0, 6, 0, 0), .inl (0, 6, 0, 0), .inl (4, 6, 98, 1), .inl (0, 8, 0, 0), .inl (0, 8, 0, 0), .inl (0, 8, 0, 0), .inl (0, 8, 0, 0), .inl (0, 8, 0, 0), .inl (0, 8, 0, 0), .inl (1, 10, 0, 0), .inr (6, [none, some (some 106), some (some 107), some (some 108), some (some 109), some (some 110), some (some 117)]), .inl (0, 6, 0, 0), .inl (0, 6, 0, 0), .inl (0, 6, 0, 0), .inl (0, 6, 0, 0), .inl (4, 6, 111, 1), .inl (0, 8, 0, 0), .inl (0, 8, 0, 0), .inl (0, 8, 0, 0), .inl (0, 8, 0, 0), .inl (0, 8, 0, 0), .inl (0, 8, 0, 0), .inl (1, 10, 0, 0), .inr (6, [none, some (some 119), some (some 120), some (some 121), some (some 122), some (some 123), some (some 130)]), .inl (0, 6, 0, 0), .inl (0, 6, 0, 0), .inl (0, 6, 0, 0), .inl (0, 6, 0, 0), .inl (4, 6, 124, 1), .inl (0, 8, 0, 0), .inl (0, 8, 0, 0), .inl (0, 8, 0, 0), .inl (0, 8, 0, 0), .inl (0, 8, 0, 0), .inl (0, 8, 0, 0), .inl (1, 10, 0, 0), .inr (6, [none, some (some 132), some (some 133), some (some 134), some (some 135), some (some 136), some (some 143)]), .inl (0, 6, 0, 0), .inl (0, 6, 0, 0), .inl (0, 6, 0, 0), .inl (0, 6, 0, 0), .inl (4, 6, 137, 1), .inl (0, 8, 0, 0), .inl (0, 8, 0, 0), .inl (0, 8, 0, 0), .inl (0, 8, 0, 0), .inl (0, 8, 0, 0), .inl (0, 8, 0, 0), .inl (1, 10, 0, 0), .inr (6, [none, some (some 145), some (some 146), some (some 147), some (some 148), some (some 149), some (some 156)]), .inl (0, 6, 0, 0), .inl (0, 6, 0, 0), .inl (0, 6, 0, 0), .inl (0, 6, 0, 0), .inl (4, 6, 150, 1), .inl (0, 8, 0, 0), .inl (0, 8, 0, 0), .inl (0, 8, 0, 0), .inl (0, 8, 0, 0), .inl (0, 8, 0, 0), .inl (0, 8, 0, 0), .inl (1, 10, 0, 0), .inr (6, [none, some (some 158), some (some 159), some (some 160), some (some 161), some (some 162), some (some 169)]), .inl (0, 6, 0, 0), .inl (0, 6, 0, 0), .inl (0, 6, 0, 0), .inl (0, 6, 0, 0), .inl (4, 6, 163, 1), .inl (0, 8, 0, 0), .inl (0, 8, 0, 0), .inl (0, 8, 0, 0), .inl (0, 8, 0, 0), .inl (0, 8, 0, 0), .inl (0, 8, 0, 0), .inl (1, 10, 0, 0), .inr (6, [none, some (some 171), some (some 172), some (some 173), some (some 174), some (some 175), some (some 182)]), .inl (0, 6, 0, 0), .inl (0, 6, 0, 0), .inl (0, 6, 0, 0), .inl (0, 6, 0, 0), .inl (4, 6, 176, 1), .inl (0, 8, 0, 0), .inl (0, 8, 0, 0), .inl (0, 8, 0, 0), .inl (0, 8, 0, 0), .inl (0, 8, 0, 0), .inl (0, 8, 0, 0), .inl (1, 10, 0, 0), .inr (6, [none, some (some 184), some (some 185), some (some 186), some (some 187), some (some 188), some (some 195)]), .inl (0, 6, 0, 0), .inl (0, 6, 0, 0), .inl (0, 6, 0, 0), .inl (0, 6, 0, 0), .inl (4, 6, 189, 1), .inl (0, 8, 0, 0), .inl (0, 8, 0, 0), .inl (0, 8, 0, 0), .inl (0, 8, 0, 0), .inl (0, 8, 0, 0), .inl (0, 8, 0, 0), .inl (1, 10, 0, 0), .inr (6, [none, some (some 197), some (some 198), some (some 199), some (some 200), some (some 201), some (some 208)]), .inl (0, 6, 0, 0), .inl (0, 6, 0, 0), .inl (0, 6, 0, 0), .inl (0, 6, 0, 0), .inl (4, 6, 202, 1), .inl (0, 8, 0, 0), .inl (0, 8, 0, 0), .inl (0, 8, 0, 0), .inl (0, 8, 0, 0), .inl (0, 8, 0, 0), .inl (0, 8, 0, 0), .inl (1, 10, 0, 0), .inr (6, [none, some (some 210), some (some 211), some (some 212), some (some 213), some (some 214), some (some 221)]), .inl (0, 6, 0, 0), .inl (0, 6, 0, 0), .inl (0, 6, 0, 0), .inl (0, 6, 0, 0), .inl (4, 6, 215, 1), .inl (0, 8, 0, 0), .inl (0, 8, 0, 0), .inl (0, 8, 0, 0), .inl (0, 8, 0, 0), .inl (0, 8, 0, 0), .inl (0, 8, 0, 0), .inl (1, 10, 0, 0), .inr (6, [none, some (some 223), some (some 224), some (some 225), some (some 226), some (some 227), some (some 234)]), .inl (0, 6, 0, 0), .inl (0, 6, 0, 0), .inl (0, 6, 0, 0), .inl (0, 6, 0, 0), .inl (4, 6, 228, 1), .inl (0, 8, 0, 0), .inl (0, 8, 0, 0), .inl (0, 8, 0, 0), .inl (0, 8, 0, 0), .inl (0, 8, 0, 0), .inl (0, 8, 0, 0), .inl (1, 10, 0, 0)]
def fz_shC (c : Nat) : fz_Sh := fz_lC.getD c (.inl (0, 0, 0, 0))
def fz_KM : Nat := 36
def fz_lM : List fz_Sh := [.inr (9, [none, some (some 1), none, none, none, none, none, some (some 2), some (some 3), some (some 4), some (some 5), some (some 6), some (some 7), some (some 8), some (some 9), some (some 10), some (some 11), some (some 12), some (some 13), some (some 14), some (some 15), none, none, none, none, some (some 16), some (some 17), some (some 18), some (some 19), some (some 20), some (some 21), some (some 22), some (some 23), some (some 24), some (some 25), none, some (some 26), some (some 27), some (some 28), some (some 29), some (some 30), some (some 31), none, none, some (some 32), some (some 33), some (some 34), some (some 35), none]), .inl (0, 96, 0, 0), .inl (0, 6, 0, 0), .inl (0, 6, 0, 0), .inl (0, 10, 0, 0), .inl (0, 10, 0, 0), .inl (0, 10, 0, 0), .inl (1, 10, 0, 0), .inl (0, 6, 0, 0), .inl (0, 6, 0, 0), .inl (0, 6, 0, 0), .inl (0, 6, 0, 0), .inl (0, 6, 0, 0), .inl (0, 48, 0, 0), .inl (0, 6, 0, 0), .inl (0, 6, 0, 0), .inl (0, 6, 0, 0), .inl (0, 6, 0, 0), .inl (0, 10, 0, 0), .inl (0, 10, 0, 0), .inl (0, 10, 0, 0), .inl (0, 6, 0, 0), .inl (0, 6, 0, 0), .inl (0, 6, 0, 0), .inl (0, 6, 0, 0), .inl (0, 876, 0, 0), .inl (0, 146, 0, 0), .inl (1, 20, 0, 0), .inl (1, 2, 0, 0), .inl (0, 6, 0, 0), .inl (0, 6, 0, 0), .inl (0, 6, 0, 0), .inl (0, 8, 0, 0), .inl (0, 8, 0, 0), .inl (2, 6, 0, 0), .inl (2, 6, 0, 0)]
def fz_shM (c : Nat) : fz_Sh := fz_lM.getD c (.inl (0, 0, 0, 0))
theorem fz_c0 : fz_ob fz_shC fz_KC 0 8 [some (some 1), some (some 3), some (some 5), some (some 7), some (some 10), some (some 15), some (some 40), some (some 18), some (some 19), some none, some none] := ⟨by decide, rfl⟩
theorem fz_c1 : fz_ob fz_shC fz_KC 1 1 [some (some 2), none] := ⟨by decide, rfl⟩
theorem fz_c3 : fz_ob fz_shC fz_KC 3 4 [some (some 4), none] := ⟨by decide, rfl⟩
theorem fz_c5 : fz_ob fz_shC fz_KC 5 0 [some (some 6), none, none] := ⟨by decide, rfl⟩
theorem fz_c7 : fz_ob fz_shC fz_KC 7 2 [some (some 8), some (some 9), none] := ⟨by decide, rfl⟩
theorem fz_c10 : fz_ob fz_shC fz_KC 10 7 [some (some 11), some (some 12), some (some 13), some (some 14), none, none] := ⟨by decide, rfl⟩
theorem fz_c15 : fz_ob fz_shC fz_KC 15 5 [some none, some none] := ⟨by decide, rfl⟩
theorem fz_c2 : fz_ar fz_shC fz_KC 2 0 96 0 0 := ⟨by decide, rfl⟩
theorem fz_c4 : fz_ar fz_shC fz_KC 4 0 5 0 0 := ⟨by decide, rfl⟩
theorem fz_c6 : fz_ar fz_shC fz_KC 6 3 12 79 13 := ⟨by decide, rfl⟩
theorem fz_c8 : fz_ar fz_shC fz_KC 8 0 8 0 0 := ⟨by decide, rfl⟩
theorem fz_c9 : fz_ar fz_shC fz_KC 9 0 8 0 0 := ⟨by decide, rfl⟩
theorem fz_c11 : fz_ar fz_shC fz_KC 11 0 6 0 0 := ⟨by decide, rfl⟩
theorem fz_c12 : fz_ar fz_shC fz_KC 12 0 6 0 0 := ⟨by decide, rfl⟩
theorem fz_c13 : fz_ar fz_shC fz_KC 13 0 6 0 0 := ⟨by decide, rfl⟩
theorem fz_c14 : fz_ar fz_shC fz_KC 14 0 6 0 0 := ⟨by decide, rfl⟩
theorem fz_c16 : fz_ar fz_shC fz_KC 16 2 6 0 0 := ⟨by decide, rfl⟩
theorem fz_c17 : fz_ar fz_shC fz_KC 17 2 6 0 0 := ⟨by decide, rfl⟩
theorem fz_c18 : fz_ar fz_shC fz_KC 18 3 2 53 13 := ⟨by decide, rfl⟩
theorem fz_c19 : fz_ar fz_shC fz_KC 19 1 2 0 0 := ⟨by decide, rfl⟩
theorem fz_m0 : fz_ob fz_shM fz_KM 0 9 [none, some (some 1), none, none, none, none, none, some (some 2), some (some 3), some (some 4), some (some 5), some (some 6), some (some 7), some (some 8), some (some 9), some (some 10), some (some 11), some (some 12), some (some 13), some (some 14), some (some 15), none, none, none, none, some (some 16), some (some 17), some (some 18), some (some 19), some (some 20), some (some 21), some (some 22), some (some 23), some (some 24), some (some 25), none, some (some 26), some (some 27), some (some 28), some (some 29), some (some 30), some (some 31), none, none, some (some 32), some (some 33), some (some 34), some (some 35), none] := ⟨by decide, rfl⟩
theorem fz_m1 : fz_ar fz_shM fz_KM 1 0 96 0 0 := ⟨by decide, rfl⟩
theorem fz_m2 : fz_ar fz_shM fz_KM 2 0 6 0 0 := ⟨by decide, rfl⟩
theorem fz_m3 : fz_ar fz_shM fz_KM 3 0 6 0 0 := ⟨by decide, rfl⟩
theorem fz_m4 : fz_ar fz_shM fz_KM 4 0 10 0 0 := ⟨by decide, rfl⟩
theorem fz_m5 : fz_ar fz_shM fz_KM 5 0 10 0 0 := ⟨by decide, rfl⟩
theorem fz_m6 : fz_ar fz_shM fz_KM 6 0 10 0 0 := ⟨by decide, rfl⟩
theorem fz_m7 : fz_ar fz_shM fz_KM 7 1 10 0 0 := ⟨by decide, rfl⟩
theorem fz_m8 : fz_ar fz_shM fz_KM 8 0 6 0 0 := ⟨by decide, rfl⟩
theorem fz_m9 : fz_ar fz_shM fz_KM 9 0 6 0 0 := ⟨by decide, rfl⟩
theorem fz_m10 : fz_ar fz_shM fz_KM 10 0 6 0 0 := ⟨by decide, rfl⟩
theorem fz_m11 : fz_ar fz_shM fz_KM 11 0 6 0 0 := ⟨by decide, rfl⟩
theorem fz_m12 : fz_ar fz_shM fz_KM 12 0 6 0 0 := ⟨by decide, rfl⟩
theorem fz_m13 : fz_ar fz_shM fz_KM 13 0 48 0 0 := ⟨by decide, rfl⟩
theorem fz_m14 : fz_ar fz_shM fz_KM 14 0 6 0 0 := ⟨by decide, rfl⟩
theorem fz_m15 : fz_ar fz_shM fz_KM 15 0 6 0 0 := ⟨by decide, rfl⟩
theorem fz_m16 : fz_ar fz_shM fz_KM 16 0 6 0 0 := ⟨by decide, rfl⟩
theorem fz_m17 : fz_ar fz_shM fz_KM 17 0 6 0 0 := ⟨by decide, rfl⟩
theorem fz_m18 : fz_ar fz_shM fz_KM 18 0 10 0 0 := ⟨by decide, rfl⟩
theorem fz_m19 : fz_ar fz_shM fz_KM 19 0 10 0 0 := ⟨by decide, rfl⟩
theorem fz_m20 : fz_ar fz_shM fz_KM 20 0 10 0 0 := ⟨by decide, rfl⟩
theorem fz_m21 : fz_ar fz_shM fz_KM 21 0 6 0 0 := ⟨by decide, rfl⟩
theorem fz_m22 : fz_ar fz_shM fz_KM 22 0 6 0 0 := ⟨by decide, rfl⟩
theorem fz_m23 : fz_ar fz_shM fz_KM 23 0 6 0 0 := ⟨by decide, rfl⟩
theorem fz_m24 : fz_ar fz_shM fz_KM 24 0 6 0 0 := ⟨by decide, rfl⟩
theorem fz_m25 : fz_ar fz_shM fz_KM 25 0 876 0 0 := ⟨by decide, rfl⟩
theorem fz_m26 : fz_ar fz_shM fz_KM 26 0 146 0 0 := ⟨by decide, rfl⟩
theorem fz_m27 : fz_ar fz_shM fz_KM 27 1 20 0 0 := ⟨by decide, rfl⟩
theorem fz_m28 : fz_ar fz_shM fz_KM 28 1 2 0 0 := ⟨by decide, rfl⟩
theorem fz_m29 : fz_ar fz_shM fz_KM 29 0 6 0 0 := ⟨by decide, rfl⟩
theorem fz_m30 : fz_ar fz_shM fz_KM 30 0 6 0 0 := ⟨by decide, rfl⟩
theorem fz_m31 : fz_ar fz_shM fz_KM 31 0 6 0 0 := ⟨by decide, rfl⟩
theorem fz_m32 : fz_ar fz_shM fz_KM 32 0 8 0 0 := ⟨by decide, rfl⟩
theorem fz_m33 : fz_ar fz_shM fz_KM 33 0 8 0 0 := ⟨by decide, rfl⟩
theorem fz_m34 : fz_ar fz_shM fz_KM 34 2 6 0 0 := ⟨by decide, rfl⟩
theorem fz_m35 : fz_ar fz_shM fz_KM 35 2 6 0 0 := ⟨by decide, rfl⟩
/-- a plan's cell; a row of longs of the spread; a stand's cell; a page row of the model -/
def fz_isP (k : Nat) : Bool := k == 20 || k == 30
def fz_isL (k : Nat) : Bool := k == 16 || k == 17
def fz_isS (k : Nat) : Prop := ∃ j, j < 15 ∧ k = 40 + 13 * j
def fz_isG (k : Nat) : Prop := k = 25 ∨ k = 26
def fz_pg (k : Nat) : Nat := if k = 25 then 876 else 146
theorem fz_j15 {j : Nat} (h : j < 15) : j = 0 ∨ j = 1 ∨ j = 2 ∨ j = 3 ∨ j = 4 ∨ j = 5 ∨ j = 6 ∨ j = 7 ∨ j = 8 ∨ j = 9 ∨ j = 10 ∨ j = 11 ∨ j = 12 ∨ j = 13 ∨ j = 14 := by omega
theorem fz_i6 {j : Nat} (h : j < 6) : j = 0 ∨ j = 1 ∨ j = 2 ∨ j = 3 ∨ j = 4 ∨ j = 5 := by omega
theorem fz_isP_s {k : Nat} (h : fz_isP k = true) : k = 20 ∨ k = 30 := by simpa [fz_isP] using h
theorem fz_isL_s {k : Nat} (h : fz_isL k = true) : k = 16 ∨ k = 17 := by simpa [fz_isL] using h
theorem fz_now : fz_isS 40 := ⟨0, by decide, rfl⟩
theorem fz_lg {k : Nat} (h : fz_isL k = true) : fz_ar fz_shC fz_KC k 2 6 0 0 := by rcases fz_isL_s h with rfl | rfl <;> exact ⟨by decide, rfl⟩
theorem fz_mp {k : Nat} (h : fz_isG k) : fz_ar fz_shM fz_KM k 0 (fz_pg k) 0 0 := by rcases h with rfl | rfl <;> exact ⟨by decide, rfl⟩
theorem fz_stk {i : Int32} (h : fz_in i 2 = true) : fz_isS (53 + 13 * i.toNatClampNeg) := by
  unfold fz_in at h
  rw [Bool.and_eq_true, decide_eq_true_eq, decide_eq_true_eq] at h
  exact ⟨i.toNatClampNeg + 1, by omega, by omega⟩
theorem fz_sta {i : Int32} (h : fz_in i 12 = true) : fz_isS (79 + 13 * i.toNatClampNeg) := by
  unfold fz_in at h
  rw [Bool.and_eq_true, decide_eq_true_eq, decide_eq_true_eq] at h
  exact ⟨i.toNatClampNeg + 3, by omega, by omega⟩
theorem fz_pl {k : Nat} (h : fz_isP k = true) : fz_ob fz_shC fz_KC k 3 [none, none, none, some (some (k + 1)), some (some (k + 2)), some (some (k + 3)), some (some (k + 4)), some (some (k + 5)), some (some (k + 6)), some (some (k + 7)), some (some (k + 8)), some (some (k + 9))] := by rcases fz_isP_s h with rfl | rfl <;> exact ⟨by decide, rfl⟩
theorem fz_pl1 {k : Nat} (h : fz_isP k = true) : fz_ar fz_shC fz_KC (k + 1) 0 6 0 0 := by rcases fz_isP_s h with rfl | rfl <;> exact ⟨by decide, rfl⟩
theorem fz_pl2 {k : Nat} (h : fz_isP k = true) : fz_ar fz_shC fz_KC (k + 2) 0 6 0 0 := by rcases fz_isP_s h with rfl | rfl <;> exact ⟨by decide, rfl⟩
theorem fz_pl3 {k : Nat} (h : fz_isP k = true) : fz_ar fz_shC fz_KC (k + 3) 0 10 0 0 := by rcases fz_isP_s h with rfl | rfl <;> exact ⟨by decide, rfl⟩
theorem fz_pl4 {k : Nat} (h : fz_isP k = true) : fz_ar fz_shC fz_KC (k + 4) 0 10 0 0 := by rcases fz_isP_s h with rfl | rfl <;> exact ⟨by decide, rfl⟩
theorem fz_pl5 {k : Nat} (h : fz_isP k = true) : fz_ar fz_shC fz_KC (k + 5) 0 10 0 0 := by rcases fz_isP_s h with rfl | rfl <;> exact ⟨by decide, rfl⟩
theorem fz_pl6 {k : Nat} (h : fz_isP k = true) : fz_ar fz_shC fz_KC (k + 6) 0 6 0 0 := by rcases fz_isP_s h with rfl | rfl <;> exact ⟨by decide, rfl⟩
theorem fz_pl7 {k : Nat} (h : fz_isP k = true) : fz_ar fz_shC fz_KC (k + 7) 0 6 0 0 := by rcases fz_isP_s h with rfl | rfl <;> exact ⟨by decide, rfl⟩
theorem fz_pl8 {k : Nat} (h : fz_isP k = true) : fz_ar fz_shC fz_KC (k + 8) 0 6 0 0 := by rcases fz_isP_s h with rfl | rfl <;> exact ⟨by decide, rfl⟩
theorem fz_pl9 {k : Nat} (h : fz_isP k = true) : fz_ar fz_shC fz_KC (k + 9) 0 6 0 0 := by rcases fz_isP_s h with rfl | rfl <;> exact ⟨by decide, rfl⟩
theorem fz_st_a : ∀ j, j < 15 → ((40 + 13 * j) < fz_KC ∧ fz_shC (40 + 13 * j) = .inr (6, [none, some (some ((40 + 13 * j) + 1)), some (some ((40 + 13 * j) + 2)), some (some ((40 + 13 * j) + 3)), some (some ((40 + 13 * j) + 4)), some (some ((40 + 13 * j) + 5)), some (some ((40 + 13 * j) + 12))])) := by
  intro j hj
  rcases fz_j15 hj with rfl | rfl | rfl | rfl | rfl | rfl | rfl | rfl | rfl | rfl | rfl | rfl | rfl | rfl | rfl <;> exact ⟨by decide, rfl⟩
theorem fz_st {k : Nat} (h : fz_isS k) : fz_ob fz_shC fz_KC k 6 [none, some (some (k + 1)), some (some (k + 2)), some (some (k + 3)), some (some (k + 4)), some (some (k + 5)), some (some (k + 12))] := by
  obtain ⟨j, hj, rfl⟩ := h
  exact fz_st_a j hj
theorem fz_st1_a : ∀ j, j < 15 → ((40 + 13 * j) + 1 < fz_KC ∧ fz_shC ((40 + 13 * j) + 1) = .inl (0, 6, 0, 0)) := by
  intro j hj
  rcases fz_j15 hj with rfl | rfl | rfl | rfl | rfl | rfl | rfl | rfl | rfl | rfl | rfl | rfl | rfl | rfl | rfl <;> exact ⟨by decide, rfl⟩
theorem fz_st1 {k : Nat} (h : fz_isS k) : fz_ar fz_shC fz_KC (k + 1) 0 6 0 0 := by
  obtain ⟨j, hj, rfl⟩ := h
  exact fz_st1_a j hj
theorem fz_st2_a : ∀ j, j < 15 → ((40 + 13 * j) + 2 < fz_KC ∧ fz_shC ((40 + 13 * j) + 2) = .inl (0, 6, 0, 0)) := by
  intro j hj
  rcases fz_j15 hj with rfl | rfl | rfl | rfl | rfl | rfl | rfl | rfl | rfl | rfl | rfl | rfl | rfl | rfl | rfl <;> exact ⟨by decide, rfl⟩
theorem fz_st2 {k : Nat} (h : fz_isS k) : fz_ar fz_shC fz_KC (k + 2) 0 6 0 0 := by
  obtain ⟨j, hj, rfl⟩ := h
  exact fz_st2_a j hj
theorem fz_st3_a : ∀ j, j < 15 → ((40 + 13 * j) + 3 < fz_KC ∧ fz_shC ((40 + 13 * j) + 3) = .inl (0, 6, 0, 0)) := by
  intro j hj
  rcases fz_j15 hj with rfl | rfl | rfl | rfl | rfl | rfl | rfl | rfl | rfl | rfl | rfl | rfl | rfl | rfl | rfl <;> exact ⟨by decide, rfl⟩
theorem fz_st3 {k : Nat} (h : fz_isS k) : fz_ar fz_shC fz_KC (k + 3) 0 6 0 0 := by
  obtain ⟨j, hj, rfl⟩ := h
  exact fz_st3_a j hj
theorem fz_st4_a : ∀ j, j < 15 → ((40 + 13 * j) + 4 < fz_KC ∧ fz_shC ((40 + 13 * j) + 4) = .inl (0, 6, 0, 0)) := by
  intro j hj
  rcases fz_j15 hj with rfl | rfl | rfl | rfl | rfl | rfl | rfl | rfl | rfl | rfl | rfl | rfl | rfl | rfl | rfl <;> exact ⟨by decide, rfl⟩
theorem fz_st4 {k : Nat} (h : fz_isS k) : fz_ar fz_shC fz_KC (k + 4) 0 6 0 0 := by
  obtain ⟨j, hj, rfl⟩ := h
  exact fz_st4_a j hj
theorem fz_st5_a : ∀ j, j < 15 → ((40 + 13 * j) + 5 < fz_KC ∧ fz_shC ((40 + 13 * j) + 5) = .inl (4, 6, (40 + 13 * j) + 6, 1)) := by
  intro j hj
  rcases fz_j15 hj with rfl | rfl | rfl | rfl | rfl | rfl | rfl | rfl | rfl | rfl | rfl | rfl | rfl | rfl | rfl <;> exact ⟨by decide, rfl⟩
theorem fz_st5 {k : Nat} (h : fz_isS k) : fz_ar fz_shC fz_KC (k + 5) 4 6 (k + 6) 1 := by
  obtain ⟨j, hj, rfl⟩ := h
  exact fz_st5_a j hj
theorem fz_st12_a : ∀ j, j < 15 → ((40 + 13 * j) + 12 < fz_KC ∧ fz_shC ((40 + 13 * j) + 12) = .inl (1, 10, 0, 0)) := by
  intro j hj
  rcases fz_j15 hj with rfl | rfl | rfl | rfl | rfl | rfl | rfl | rfl | rfl | rfl | rfl | rfl | rfl | rfl | rfl <;> exact ⟨by decide, rfl⟩
theorem fz_st12 {k : Nat} (h : fz_isS k) : fz_ar fz_shC fz_KC (k + 12) 1 10 0 0 := by
  obtain ⟨j, hj, rfl⟩ := h
  exact fz_st12_a j hj
theorem fz_str_a : ∀ j, j < 15 → ∀ i, i < 6 → ((40 + 13 * j) + 6 + 1 * i < fz_KC ∧ fz_shC ((40 + 13 * j) + 6 + 1 * i) = .inl (0, 8, 0, 0)) := by
  intro j hj i hi
  rcases fz_j15 hj with rfl | rfl | rfl | rfl | rfl | rfl | rfl | rfl | rfl | rfl | rfl | rfl | rfl | rfl | rfl <;> rcases fz_i6 hi with rfl | rfl | rfl | rfl | rfl | rfl <;> exact ⟨by decide, rfl⟩
theorem fz_str {k : Nat} (h : fz_isS k) {i : Int32} (hi : fz_in i 6 = true) : fz_ar fz_shC fz_KC (k + 6 + 1 * i.toNatClampNeg) 0 8 0 0 := by
  obtain ⟨j, hj, rfl⟩ := h
  unfold fz_in at hi
  rw [Bool.and_eq_true, decide_eq_true_eq, decide_eq_true_eq] at hi
  exact fz_str_a j hj _ hi.2
def fz_nzi (y : Int32) : Bool := !decide (y = 0)
def fz_nzl (y : Int64) : Bool := !decide (y = 0)
theorem fz_nzi_s {y : Int32} (h : fz_nzi y = true) : ¬ y = 0 := by simpa [fz_nzi] using h
theorem fz_nzl_s {y : Int64} (h : fz_nzl y = true) : ¬ y = 0 := by simpa [fz_nzl] using h
theorem fz_ni {x y : Int32} {i : Int} (h : ¬ x = y) (hi : y.toInt = i) : x.toInt ≠ i := fun q => h (Int32.toInt_inj.mp (q.trans hi.symm))
section FZNM
variable {p : Program} {l : Launch} {e : Env} {R : Room} {s : State} {m : MethodId} {args : Array Value} {below : List Frame} {meth : Method} {c : Code} {H : Heap} {locs : List Loc} {cells slots pc : Nat} {ls : Array Slot} {rest : List Value} {Q : State → Prop}
theorem fz_nmi {x y : Int32} (h : y = x) (k : W p l e R s m args below meth c H locs cells slots Q (F0 m pc ls (.int y :: rest))) : W p l e R s m args below meth c H locs cells slots Q (F0 m pc ls (.int x :: rest)) := h ▸ k
theorem fz_nml {x y : Int64} (h : y = x) (k : W p l e R s m args below meth c H locs cells slots Q (F0 m pc ls (.long y :: rest))) : W p l e R s m args below meth c H locs cells slots Q (F0 m pc ls (.long x :: rest)) := h ▸ k
end FZNM
