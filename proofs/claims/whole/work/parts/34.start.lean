/-! printed by wip/gen/p33.py: what both constructors leave -/
def cI8 (I : Nat → Nat → Int32) : Nat → Nat → Int32 := (zu (zu (zfill (zu (zfill (zfill (zu (zu (zfill (zfill (zfill (zu (zu (zu (zu (zu (zu (zfill (zfill (zu (zu (zu (zfill (zu (zfill (zfill (zfill (zfill (zfill (zu (zfill (zu (zfill (zfill (zu (zfill (zfill (zu (zfill (zfill (zfill (zu (zfill (zfill (zfill (zu (zfill (zfill (zfill (zu (zfill (zfill (zfill (zfill (zu (zfill (zfill (zu (zfill (zfill (zu (zu (zu (zu (zu (zu (zu (zfill (zu (zfill (zfill (zfill (zu (zfill (zfill (zfill (zfill (zu (zfill (zfill (zu (zfill (zfill (zu (zu (zu (zu (zu (zu (zu (zfill (zu (zfill (zfill (zfill (zu (zfill (zfill (zfill (zfill (zu (zfill (zfill (zu (zfill (zfill (zu (zu (zu (zu (zu (zu (zu (zfill (zu (zfill I 2 0) 2 0 5) 3 0) 3 0 1) 3 1 1) 3 2 1) 3 3 1) 3 4 1) 3 5 1) 3 6 1) 4 0) 5 0) 2 4 0) 6 0) 7 0) 2 7 0) 8 0) 9 0) 10 0) 11 0) 2 12 0) 12 0) 13 0) 14 0) 14 0 5) 15 0) 15 0 1) 15 1 1) 15 2 1) 15 3 1) 15 4 1) 15 5 1) 15 6 1) 16 0) 17 0) 14 4 0) 18 0) 19 0) 14 7 0) 20 0) 21 0) 22 0) 23 0) 14 12 0) 24 0) 25 0) 26 0) 26 0 5) 27 0) 27 0 1) 27 1 1) 27 2 1) 27 3 1) 27 4 1) 27 5 1) 27 6 1) 28 0) 29 0) 26 4 0) 30 0) 31 0) 26 7 0) 32 0) 33 0) 34 0) 35 0) 26 12 0) 36 0) 37 0) 38 0) 38 0 0) 39 0) 40 0) 41 0) 41 0 0) 42 0) 43 0) 44 0) 44 0 0) 45 0) 46 0) 46 0 0) 47 0) 48 0) 48 0 0) 49 0) 48 2 0) 50 0) 51 0) 52 0) 53 0) 54 0) 54 0 0) 55 0) 54 2 0) 54 3 0) 54 4 0) 56 0) 57 0) 57 0 (-1)) 57 1 (-1)) 57 2 (-1)) 57 3 (-1)) 57 4 (-1)) 57 5 (-1)) 58 0) 59 0) 60 0) 60 0 0) 60 1 0) 61 0) 62 0) 60 4 0) 63 0) 1 12 0) 1 13 0)
def cJ8 (J : Nat → Nat → Int64) : Nat → Nat → Int64 := (zfill (zfill (zfill (zfill (zfill (zfill (zfill (zfill (zfill (zfill (zfill (zfill (zfill (zfill (zfill (zfill (zfill (zfill (zfill (zfill (zfill (zfill (zfill (zfill (zfill (zfill (zfill (zfill (zfill (zfill (zfill (zfill (zfill (zfill (zfill (zfill (zfill (zfill (zfill (zfill (zfill (zfill (zfill (zfill (zfill (zfill (zfill (zfill (zfill (zfill J 3 0) 4 0) 5 0) 6 0) 7 0) 8 0) 9 0) 10 0) 11 0) 12 0) 13 0) 15 0) 16 0) 17 0) 18 0) 19 0) 20 0) 21 0) 22 0) 23 0) 24 0) 25 0) 27 0) 28 0) 29 0) 30 0) 31 0) 32 0) 33 0) 34 0) 35 0) 36 0) 37 0) 39 0) 40 0) 42 0) 43 0) 45 0) 47 0) 49 0) 51 0) 52 0) 53 0) 55 0) 57 0) 58 0) 59 0) 61 0) 62 0) 63 0)
def cQ8 (Q : Nat → Nat → Nat) : Nat → Nat → Nat := (zu (zfill (zfill (zfill (zfill (zfill (zfill (zfill (zfill (zfill (zu (zfill (zu (zfill (zu (zfill Q 2 0) 2 13 0) 14 0) 14 13 0) 26 0) 26 13 0) 38 0) 41 0) 44 0) 46 0) 48 0) 50 0) 54 0) 56 0) 60 0) 1 11 60)
def cS8 (sl : Nat) : Nat := ((((((((((((((((((((((((((((((((((((((((((((((((((((((((((((((sl + zN 7) + zn (7 : Int32)) + zn (7 : Int32)) + zn (7 : Int32)) + zn (7 : Int32)) + zn (7 : Int32)) + zn (6 : Int32)) + zn (6 : Int32)) + zn (6 : Int32)) + zn (6 : Int32)) + zn (7 : Int32)) + zn (6 : Int32)) + zN 7) + zn (7 : Int32)) + zn (7 : Int32)) + zn (7 : Int32)) + zn (7 : Int32)) + zn (7 : Int32)) + zn (6 : Int32)) + zn (6 : Int32)) + zn (6 : Int32)) + zn (6 : Int32)) + zn (7 : Int32)) + zn (6 : Int32)) + zN 7) + zn (7 : Int32)) + zn (7 : Int32)) + zn (7 : Int32)) + zn (7 : Int32)) + zn (7 : Int32)) + zn (6 : Int32)) + zn (6 : Int32)) + zn (6 : Int32)) + zn (6 : Int32)) + zn (7 : Int32)) + zn (6 : Int32)) + zN 5) + zn (8 : Int32)) + zn (8 : Int32)) + zN 5) + zn (8 : Int32)) + zn (8 : Int32)) + zN 2) + zn (12 : Int32)) + zN 2) + zn (12 : Int32)) + zN 4) + zn (100 : Int32)) + zN 1) + zn (42 : Int32)) + zn (42 : Int32)) + zn (448 : Int32)) + zN 0) + zn (20 : Int32)) + zN 6) + zn (6 : Int32)) + zn (6 : Int32)) + zn (360 : Int32)) + zN 3) + zn (10 : Int32)) + zn (10 : Int32)) + zn (100 : Int32))
set_option maxRecDepth 100000 in
theorem k_X8 {d : Nat} {I : Nat → Nat → Int32} {J : Nat → Nat → Int64} {Q : Nat → Nat → Nat} {sl L : Nat} : Rt (d + 2) 79 [zR 28 1] (I, J, Q, 2, sl, L) (cI8 I, cJ8 J, cQ8 Q, 64, cS8 sl, L) none := ro_rt (ro_of rfl (b_X8_0 k_X7_2 (b_X8_12 (b_X8_15 k_X7_14 (b_X8_23 (b_X8_26 k_X7_26 (b_X8_34 (b_X8_37 k_X5_38 (b_X8_45 (b_X8_48 k_X5_41 (b_X8_56 (b_X8_59 k_X2_44 (b_X8_67 (b_X8_70 k_X2_46 (b_X8_78 (b_X8_81 k_X4_48 (b_X8_89 (b_X8_92 k_X1_50 (b_X8_100 (b_X8_103 k_X0_54 (b_X8_111 (b_X8_114 k_X6_56 (b_X8_122 (b_X8_125 k_X3_60 (b_X8_133 (b_X8_136 (b_X8_141 (b_X8_146 ⟨rfl, rfl⟩))))))))))))))))))))))))))))
def cI9 (I : Nat → Nat → Int32) : Nat → Nat → Int32 := (zfill (zfill (zfill (zu (zu (zu (zu (zu (zu (zfill (zfill (zu (zfill (zfill (zfill (zfill (zfill (zfill (zfill (zfill (zfill (zfill (zfill (zfill (zu (zu (zu (zu (zu (zu (zu (zu (zfill (zfill (zu (zfill (zfill (zfill (zu (zfill (zfill (zfill (zfill (zfill (zfill (zfill (zu (zu (zu (zu (zu (zu (zu (zu (zu (zu (zu (zu (zfill (zu (zu (zu (zfill (zfill (zfill (zfill (zfill (zfill (zfill (zfill (zu (zu (zu (zu (zu (zfill (zfill (zfill (zfill (zfill (zfill (zfill (zfill (zu (zu (zu (zu (zu (zu (zu (zfill (zu (zu (zu (zu I 64 0 5) 64 1 0) 64 2 0) 64 3 0) 65 0) 65 0 1) 65 1 1) 65 2 1) 65 3 1) 65 4 1) 65 5 1) 65 6 1) 66 0) 67 0) 68 0) 69 0) 70 0) 71 0) 72 0) 73 0) 64 13 0) 64 14 (-1)) 64 15 0) 64 16 0) 64 17 0) 74 0) 75 0) 76 0) 77 0) 78 0) 79 0) 80 0) 81 0) 64 26 0) 64 27 0) 64 28 0) 82 0) 82 0 108) 82 1 105) 82 2 107) 82 3 101) 82 4 108) 82 5 111) 82 6 97) 82 7 116) 82 8 104) 82 9 116) 82 10 105) 82 11 101) 83 0) 84 0) 85 0) 86 0) 87 0) 88 0) 89 0) 64 37 0) 90 0) 91 0) 92 0) 64 41 0) 93 0) 94 0) 64 44 0) 64 45 (-1)) 64 46 5) 64 47 0) 64 48 0) 64 49 0) 64 50 0) 64 51 0) 95 0) 96 0) 97 0) 98 0) 99 0) 100 0) 101 0) 102 0) 103 0) 104 0) 105 0) 106 0) 64 64 0) 107 0) 108 0) 108 0 (-1)) 108 1 (-1)) 108 2 (-1)) 108 3 (-1)) 108 4 (-1)) 108 5 (-1)) 109 0) 110 0) 111 0)
def cJ9 (J : Nat → Nat → Int64) : Nat → Nat → Int64 := (zfill (zfill (zfill (zfill (zfill (zfill (zfill (zfill (zfill (zfill (zfill (zfill (zfill (zfill (zfill (zfill (zfill (zfill (zfill (zfill (zfill (zfill (zfill (zfill (zfill (zfill (zfill (zfill (zfill (zfill (zfill (zfill (zfill (zfill (zfill (zfill (zfill (zfill (zfill (zfill (zfill (zfill (zfill (zfill (zfill (zfill (zfill J 65 0) 66 0) 67 0) 68 0) 69 0) 70 0) 71 0) 72 0) 73 0) 74 0) 75 0) 76 0) 77 0) 78 0) 79 0) 80 0) 81 0) 82 0) 83 0) 84 0) 85 0) 86 0) 87 0) 88 0) 89 0) 90 0) 91 0) 92 0) 93 0) 94 0) 95 0) 96 0) 97 0) 98 0) 99 0) 100 0) 101 0) 102 0) 103 0) 104 0) 105 0) 106 0) 107 0) 108 0) 109 0) 110 0) 111 0)
def cQ9 (Q : Nat → Nat → Nat) : Nat → Nat → Nat := Q
def cS9 (sl : Nat) : Nat := (((((((((((((((((((((((((((((((((((((((((((((((sl + zn (7 : Int32)) + zn (7 : Int32)) + zn (7 : Int32)) + zn (7 : Int32)) + zn (7 : Int32)) + zn (6 : Int32)) + zn (6 : Int32)) + zn (6 : Int32)) + zn (6 : Int32)) + zn (100 : Int32)) + zn (6 : Int32)) + zn (60 : Int32)) + zn (60 : Int32)) + zn (60 : Int32)) + zn (60 : Int32)) + zn (600 : Int32)) + zn (101 : Int32)) + zn (12 : Int32)) + zn (100 : Int32)) + zn (7 : Int32)) + zn (6 : Int32)) + zn (6 : Int32)) + zn (7 : Int32)) + zn (7 : Int32)) + zn (6 : Int32)) + zn (8 : Int32)) + zn (8 : Int32)) + zn (7 : Int32)) + zn (12 : Int32)) + zn (6 : Int32)) + zn (7 : Int32)) + zn (7 : Int32)) + zn (7 : Int32)) + zn (7 : Int32)) + zn (7 : Int32)) + zn (6 : Int32)) + zn (6 : Int32)) + zn (6 : Int32)) + zn (8 : Int32)) + zn (8 : Int32)) + zn (12 : Int32)) + zn (6 : Int32)) + zn (20 : Int32)) + zn (6 : Int32)) + zn (6 : Int32)) + zn (360 : Int32)) + zn (60 : Int32))
set_option maxRecDepth 100000 in
theorem k_X9 {d : Nat} {I : Nat → Nat → Int32} {J : Nat → Nat → Int64} {Q : Nat → Nat → Nat} {sl L : Nat} : Rt (d + 2) 135 [zR 29 64] (I, J, Q, 65, sl, L) (cI9 I, cJ9 J, cQ9 Q, 112, cS9 sl, L) none := ro_rt (ro_of rfl (b_X9_0 (b_X9_9 (b_X9_14 (b_X9_19 (b_X9_24 (b_X9_61 (b_X9_69 (b_X9_77 (b_X9_85 (b_X9_93 (b_X9_101 (b_X9_109 (b_X9_117 (b_X9_125 (b_X9_130 (b_X9_135 (b_X9_140 (b_X9_145 (b_X9_150 (b_X9_158 (b_X9_166 (b_X9_174 (b_X9_182 (b_X9_190 (b_X9_198 (b_X9_207 (b_X9_215 (b_X9_220 (b_X9_225 (b_X9_230 (b_X9_304 (b_X9_312 (b_X9_320 (b_X9_328 (b_X9_336 (b_X9_344 (b_X9_352 (b_X9_360 (b_X9_365 (b_X9_373 (b_X9_381 (b_X9_389 (b_X9_394 (b_X9_402 (b_X9_410 (b_X9_415 (b_X9_420 (b_X9_425 (b_X9_430 (b_X9_435 (b_X9_440 (b_X9_445 (b_X9_450 (b_X9_458 (b_X9_466 (b_X9_474 (b_X9_482 (b_X9_490 (b_X9_498 (b_X9_506 (b_X9_514 (b_X9_522 (b_X9_530 (b_X9_538 (b_X9_546 (b_X9_551 (b_X9_559 (b_X9_591 (b_X9_599 (b_X9_608 (b_X9_616 ⟨rfl, rfl⟩))))))))))))))))))))))))))))))))))))))))))))))))))))))))))))))))))))))))
/-- the first wheel -/
def W0 : Wv := (5, 0, 0, 0, (fun _ => 1), (fun _ => 0), (fun _ => 0), (fun _ => 0), (fun _ => 0), (fun _ => 0), (fun _ => 0), (fun _ => 0), (fun _ => false), [])
def M9 (L : Nat) (xs : Nat → Int32) : ZM := (cI9 (zfill (cI8 (zfill (fun a j => bif Nat.beq a 0 then xs j else 0) 1 0)) 64 0), cJ9 (cJ8 (fun _ _ => 0)), cQ9 (zfill (cQ8 (zfill (fun _ _ => 0) 1 0)) 64 0), 112, cS9 (cS8 (0 + zN 8) + zN 9), L)

set_option maxRecDepth 100000 in
theorem st_WX (L : Nat) (xs : Nat → Int32) : WX (M9 L xs) 1 W0 := by
  refine ⟨rfl, rfl, rfl, rfl, ?_, fun k _ => rfl, fun k _ => rfl, fun k _ => rfl, fun k _ => rfl, fun k _ => rfl, fun k _ => rfl, fun k _ => rfl, fun k _ => rfl, Or.inl ⟨rfl, rfl⟩⟩
  intro k hk
  match k, hk with
  | 0, _ => rfl
  | 1, _ => rfl
  | 2, _ => rfl
  | 3, _ => rfl
  | 4, _ => rfl
  | 5, _ => rfl
  | 6, _ => rfl

set_option maxRecDepth 100000 in
theorem st_WM (L : Nat) (xs : Nat → Int32) : WM (M9 L xs) W0 := by
  refine ⟨rfl, rfl, rfl, rfl, ?_, fun k _ => rfl, fun k _ => rfl, fun k _ => rfl, fun k _ => rfl, fun k _ => rfl, fun k _ => rfl, fun k _ => rfl, fun k _ => rfl, Or.inl ⟨rfl, rfl⟩⟩
  intro k hk
  match k, hk with
  | 0, _ => rfl
  | 1, _ => rfl
  | 2, _ => rfl
  | 3, _ => rfl
  | 4, _ => rfl
  | 5, _ => rfl
  | 6, _ => rfl

set_option maxRecDepth 100000 in
theorem st_TP (L : Nat) (xs : Nat → Int32) : TP (M9 L xs) := by
  intro t ht
  refine ⟨0, by omega, rfl, rfl, Or.inl ?_, fun i hi => absurd hi (Nat.not_lt_zero i)⟩
  match t, ht with
  | 0, _ => exact ⟨rfl, rfl, rfl⟩
  | 1, _ => exact ⟨rfl, rfl, rfl⟩
  | 2, _ => exact ⟨rfl, rfl, rfl⟩
  | 3, _ => exact ⟨rfl, rfl, rfl⟩
  | 4, _ => exact ⟨rfl, rfl, rfl⟩
  | 5, _ => exact ⟨rfl, rfl, rfl⟩

set_option maxRecDepth 100000 in
theorem st_LT (L : Nat) (xs : Nat → Int32) : LT (M9 L xs) := by
  refine ⟨fun k hk => ?_, fun k _ => rfl⟩
  match k, hk with
  | 0, _ => rfl
  | 1, _ => rfl
  | 2, _ => rfl
  | 3, _ => rfl
  | 4, _ => rfl
  | 5, _ => rfl
  | 6, _ => rfl
  | 7, _ => rfl
  | 8, _ => rfl
  | 9, _ => rfl
  | 10, _ => rfl
  | 11, _ => rfl

set_option maxRecDepth 100000 in
theorem st_sl : cS9 (cS8 (0 + zN 8) + zN 9) ≤ 30000 := by decide +kernel
theorem st_HO (L : Nat) (xs : Nat → Int32) : HO (M9 L xs) 0 := ⟨by omega, rfl, rfl, rfl, rfl, st_sl⟩
theorem st_Iv (L : Nat) (xs : Nat → Int32) : Iv (M9 L xs) W0 0 := by
  refine ⟨st_WX L xs, st_WM L xs, ⟨by decide, by decide, by decide, by decide, by decide, fun k => by show 1 ≤ 4; omega, fun k => by show 0 ≤ 9; omega, fun k => by show 0 ≤ 99; omega⟩, by decide, Or.inl ⟨rfl, rfl⟩, st_HO L xs, Or.inl ⟨rfl, rfl⟩, ⟨0, by omega, rfl, rfl, fun r hr => absurd hr (Nat.not_lt_zero r)⟩, ⟨0, by omega, rfl, rfl, fun r hr => absurd hr (Nat.not_lt_zero r)⟩, ⟨0, by omega, rfl, rfl, fun r hr => absurd hr (Nat.not_lt_zero r)⟩, st_TP L xs, ⟨0, by omega, rfl, rfl, fun r hr => absurd hr (Nat.not_lt_zero r)⟩, st_LT L xs, fun k => by show 1 ≤ 3; omega, fun k => ⟨0, by omega, rfl⟩, fun m => Or.inr ⟨0, by omega, rfl⟩⟩
set_option maxRecDepth 100000 in
theorem st_LK (L : Nat) (xs : Nat → Int32) : LK xs L (M9 L xs) := ⟨rfl, rfl⟩
set_option maxRecDepth 100000 in
theorem st_run {L : Nat} {xs : Nat → Int32} (hL : L ≤ 3072) (hh : Op 88 166 []) : Eo 60 (fun H n => zrunF H zc_L_law 0 n (zM0 L xs) 0 [zR 13 1, zU, zU, zU] [] []) LE :=
  b_LW_0 (k_X8 (d := 58)) (b_LW_7 (k_X9 (d := 58)) (b_LW_15 (lawloop hL hh 600 0 (M9 L xs) W0 0 (by omega) (by omega) (st_Iv L xs) (st_LK L xs))))

