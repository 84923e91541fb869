/-! printed by wip/gen/p33.py: the constructors -/
def zcb (r : ZRes) (f : ZM → ZRes) : ZRes := match r with
  | some (M', none) => f M'
  | _ => none
theorem ev_callc {d m : Nat} {as : List ZV} {M M1 M' : ZM} {v : Option ZV} {g : ZH → Nat → ZM → ZRes} (h : Rt d m as M M1 none) (hg : Ev d (fun H n => g H n M1) M' v) : Ev d (fun H n => zcb (H m as M) (g H n)) M' v := by
  obtain ⟨N1, h1⟩ := h
  obtain ⟨N2, h2⟩ := hg
  refine ⟨N1 + N2, fun n0 n q0 q1 => ?_⟩
  show zcb (zrun d n0 m as M) (g (zrun d n0) n) = _
  rw [h1 n0 (by omega)]
  exact h2 n0 n (by omega) (by omega)
def B_X7_2_0 (d : Nat) (I : Nat → Nat → Int32) (J : Nat → Nat → Int64) (Q : Nat → Nat → Nat) (sl L : Nat) (R : ZM → Option ZV → Prop) : Prop := Eo d (fun H n => zrunF H zc_X7_init 2 n (I, J, Q, 3, sl, L) 0 [zR 27 2] [] []) R
def B_X7_2_9 (d : Nat) (I : Nat → Nat → Int32) (J : Nat → Nat → Int64) (Q : Nat → Nat → Nat) (sl L : Nat) (R : ZM → Option ZV → Prop) : Prop := Eo d (fun H n => zrunF H zc_X7_init 2 n (I, J, Q, 3, sl, L) 9 [zR 27 2] [] []) R
def B_X7_2_46 (d : Nat) (I : Nat → Nat → Int32) (J : Nat → Nat → Int64) (Q : Nat → Nat → Nat) (sl L : Nat) (R : ZM → Option ZV → Prop) : Prop := Eo d (fun H n => zrunF H zc_X7_init 2 n (I, J, Q, 4, sl, L) 46 [zR 27 2] [] [1]) R
def B_X7_2_54 (d : Nat) (I : Nat → Nat → Int32) (J : Nat → Nat → Int64) (Q : Nat → Nat → Nat) (sl L : Nat) (R : ZM → Option ZV → Prop) : Prop := Eo d (fun H n => zrunF H zc_X7_init 2 n (I, J, Q, 5, sl, L) 54 [zR 27 2] [] [2, 1]) R
def B_X7_2_62 (d : Nat) (I : Nat → Nat → Int32) (J : Nat → Nat → Int64) (Q : Nat → Nat → Nat) (sl L : Nat) (R : ZM → Option ZV → Prop) : Prop := Eo d (fun H n => zrunF H zc_X7_init 2 n (I, J, Q, 6, sl, L) 62 [zR 27 2] [] [3, 2, 1]) R
def B_X7_2_67 (d : Nat) (I : Nat → Nat → Int32) (J : Nat → Nat → Int64) (Q : Nat → Nat → Nat) (sl L : Nat) (R : ZM → Option ZV → Prop) : Prop := Eo d (fun H n => zrunF H zc_X7_init 2 n (I, J, Q, 6, sl, L) 67 [zR 27 2] [] [3, 2, 1]) R
def B_X7_2_75 (d : Nat) (I : Nat → Nat → Int32) (J : Nat → Nat → Int64) (Q : Nat → Nat → Nat) (sl L : Nat) (R : ZM → Option ZV → Prop) : Prop := Eo d (fun H n => zrunF H zc_X7_init 2 n (I, J, Q, 7, sl, L) 75 [zR 27 2] [] [5, 3, 2, 1]) R
def B_X7_2_83 (d : Nat) (I : Nat → Nat → Int32) (J : Nat → Nat → Int64) (Q : Nat → Nat → Nat) (sl L : Nat) (R : ZM → Option ZV → Prop) : Prop := Eo d (fun H n => zrunF H zc_X7_init 2 n (I, J, Q, 8, sl, L) 83 [zR 27 2] [] [6, 5, 3, 2, 1]) R
def B_X7_2_88 (d : Nat) (I : Nat → Nat → Int32) (J : Nat → Nat → Int64) (Q : Nat → Nat → Nat) (sl L : Nat) (R : ZM → Option ZV → Prop) : Prop := Eo d (fun H n => zrunF H zc_X7_init 2 n (I, J, Q, 8, sl, L) 88 [zR 27 2] [] [6, 5, 3, 2, 1]) R
def B_X7_2_96 (d : Nat) (I : Nat → Nat → Int32) (J : Nat → Nat → Int64) (Q : Nat → Nat → Nat) (sl L : Nat) (R : ZM → Option ZV → Prop) : Prop := Eo d (fun H n => zrunF H zc_X7_init 2 n (I, J, Q, 9, sl, L) 96 [zR 27 2] [] [8, 6, 5, 3, 2, 1]) R
def B_X7_2_104 (d : Nat) (I : Nat → Nat → Int32) (J : Nat → Nat → Int64) (Q : Nat → Nat → Nat) (sl L : Nat) (R : ZM → Option ZV → Prop) : Prop := Eo d (fun H n => zrunF H zc_X7_init 2 n (I, J, Q, 10, sl, L) 104 [zR 27 2] [] [9, 8, 6, 5, 3, 2, 1]) R
def B_X7_2_112 (d : Nat) (I : Nat → Nat → Int32) (J : Nat → Nat → Int64) (Q : Nat → Nat → Nat) (sl L : Nat) (R : ZM → Option ZV → Prop) : Prop := Eo d (fun H n => zrunF H zc_X7_init 2 n (I, J, Q, 11, sl, L) 112 [zR 27 2] [] [10, 9, 8, 6, 5, 3, 2, 1]) R
def B_X7_2_120 (d : Nat) (I : Nat → Nat → Int32) (J : Nat → Nat → Int64) (Q : Nat → Nat → Nat) (sl L : Nat) (R : ZM → Option ZV → Prop) : Prop := Eo d (fun H n => zrunF H zc_X7_init 2 n (I, J, Q, 12, sl, L) 120 [zR 27 2] [] [11, 10, 9, 8, 6, 5, 3, 2, 1]) R
def B_X7_2_125 (d : Nat) (I : Nat → Nat → Int32) (J : Nat → Nat → Int64) (Q : Nat → Nat → Nat) (sl L : Nat) (R : ZM → Option ZV → Prop) : Prop := Eo d (fun H n => zrunF H zc_X7_init 2 n (I, J, Q, 12, sl, L) 125 [zR 27 2] [] [11, 10, 9, 8, 6, 5, 3, 2, 1]) R
def B_X7_2_130 (d : Nat) (I : Nat → Nat → Int32) (J : Nat → Nat → Int64) (Q : Nat → Nat → Nat) (sl L : Nat) (R : ZM → Option ZV → Prop) : Prop := Eo d (fun H n => zrunF H zc_X7_init 2 n (I, J, Q, 12, sl, L) 130 [zR 27 2] [] [11, 10, 9, 8, 6, 5, 3, 2, 1]) R
def B_X7_2_138 (d : Nat) (I : Nat → Nat → Int32) (J : Nat → Nat → Int64) (Q : Nat → Nat → Nat) (sl L : Nat) (R : ZM → Option ZV → Prop) : Prop := Eo d (fun H n => zrunF H zc_X7_init 2 n (I, J, Q, 13, sl, L) 138 [zR 27 2] [] [14, 11, 10, 9, 8, 6, 5, 3, 2, 1]) R
def B_X7_2_146 (d : Nat) (I : Nat → Nat → Int32) (J : Nat → Nat → Int64) (Q : Nat → Nat → Nat) (sl L : Nat) (R : ZM → Option ZV → Prop) : Prop := Eo d (fun H n => zrunF H zc_X7_init 2 n (I, J, Q, 14, sl, L) 146 [zR 27 2] [] [15, 14, 11, 10, 9, 8, 6, 5, 3, 2, 1]) R
set_option maxRecDepth 100000 in
theorem b_X7_2_0 {d : Nat} {I : Nat → Nat → Int32} {J : Nat → Nat → Int64} {Q : Nat → Nat → Nat} {sl L : Nat} {R : ZM → Option ZV → Prop} (h : B_X7_2_9 d (zu I 2 0 5) J Q sl L R) : B_X7_2_0 d I J Q sl L R := eo_shift 5 (fun _ _ => rfl) h
set_option maxRecDepth 100000 in
theorem b_X7_2_9 {d : Nat} {I : Nat → Nat → Int32} {J : Nat → Nat → Int64} {Q : Nat → Nat → Nat} {sl L : Nat} {R : ZM → Option ZV → Prop} (h : B_X7_2_46 d (zu (zu (zu (zu (zu (zu (zu (zfill I 3 0) 3 0 1) 3 1 1) 3 2 1) 3 3 1) 3 4 1) 3 5 1) 3 6 1) (zfill J 3 0) Q (sl + zn (7 : Int32)) L R) : B_X7_2_9 d I J Q sl L R := eo_shift 32 (fun _ _ => rfl) h
set_option maxRecDepth 100000 in
theorem b_X7_2_46 {d : Nat} {I : Nat → Nat → Int32} {J : Nat → Nat → Int64} {Q : Nat → Nat → Nat} {sl L : Nat} {R : ZM → Option ZV → Prop} (h : B_X7_2_54 d (zfill I 4 0) (zfill J 4 0) Q (sl + zn (7 : Int32)) L R) : B_X7_2_46 d I J Q sl L R := eo_shift 4 (fun _ _ => rfl) h
set_option maxRecDepth 100000 in
theorem b_X7_2_54 {d : Nat} {I : Nat → Nat → Int32} {J : Nat → Nat → Int64} {Q : Nat → Nat → Nat} {sl L : Nat} {R : ZM → Option ZV → Prop} (h : B_X7_2_62 d (zfill I 5 0) (zfill J 5 0) Q (sl + zn (7 : Int32)) L R) : B_X7_2_54 d I J Q sl L R := eo_shift 4 (fun _ _ => rfl) h
set_option maxRecDepth 100000 in
theorem b_X7_2_62 {d : Nat} {I : Nat → Nat → Int32} {J : Nat → Nat → Int64} {Q : Nat → Nat → Nat} {sl L : Nat} {R : ZM → Option ZV → Prop} (h : B_X7_2_67 d (zu I 2 4 0) J Q sl L R) : B_X7_2_62 d I J Q sl L R := eo_shift 3 (fun _ _ => rfl) h
set_option maxRecDepth 100000 in
theorem b_X7_2_67 {d : Nat} {I : Nat → Nat → Int32} {J : Nat → Nat → Int64} {Q : Nat → Nat → Nat} {sl L : Nat} {R : ZM → Option ZV → Prop} (h : B_X7_2_75 d (zfill I 6 0) (zfill J 6 0) Q (sl + zn (7 : Int32)) L R) : B_X7_2_67 d I J Q sl L R := eo_shift 4 (fun _ _ => rfl) h
set_option maxRecDepth 100000 in
theorem b_X7_2_75 {d : Nat} {I : Nat → Nat → Int32} {J : Nat → Nat → Int64} {Q : Nat → Nat → Nat} {sl L : Nat} {R : ZM → Option ZV → Prop} (h : B_X7_2_83 d (zfill I 7 0) (zfill J 7 0) Q (sl + zn (7 : Int32)) L R) : B_X7_2_75 d I J Q sl L R := eo_shift 4 (fun _ _ => rfl) h
set_option maxRecDepth 100000 in
theorem b_X7_2_83 {d : Nat} {I : Nat → Nat → Int32} {J : Nat → Nat → Int64} {Q : Nat → Nat → Nat} {sl L : Nat} {R : ZM → Option ZV → Prop} (h : B_X7_2_88 d (zu I 2 7 0) J Q sl L R) : B_X7_2_83 d I J Q sl L R := eo_shift 3 (fun _ _ => rfl) h
set_option maxRecDepth 100000 in
theorem b_X7_2_88 {d : Nat} {I : Nat → Nat → Int32} {J : Nat → Nat → Int64} {Q : Nat → Nat → Nat} {sl L : Nat} {R : ZM → Option ZV → Prop} (h : B_X7_2_96 d (zfill I 8 0) (zfill J 8 0) Q (sl + zn (6 : Int32)) L R) : B_X7_2_88 d I J Q sl L R := eo_shift 4 (fun _ _ => rfl) h
set_option maxRecDepth 100000 in
theorem b_X7_2_96 {d : Nat} {I : Nat → Nat → Int32} {J : Nat → Nat → Int64} {Q : Nat → Nat → Nat} {sl L : Nat} {R : ZM → Option ZV → Prop} (h : B_X7_2_104 d (zfill I 9 0) (zfill J 9 0) Q (sl + zn (6 : Int32)) L R) : B_X7_2_96 d I J Q sl L R := eo_shift 4 (fun _ _ => rfl) h
set_option maxRecDepth 100000 in
theorem b_X7_2_104 {d : Nat} {I : Nat → Nat → Int32} {J : Nat → Nat → Int64} {Q : Nat → Nat → Nat} {sl L : Nat} {R : ZM → Option ZV → Prop} (h : B_X7_2_112 d (zfill I 10 0) (zfill J 10 0) Q (sl + zn (6 : Int32)) L R) : B_X7_2_104 d I J Q sl L R := eo_shift 4 (fun _ _ => rfl) h
set_option maxRecDepth 100000 in
theorem b_X7_2_112 {d : Nat} {I : Nat → Nat → Int32} {J : Nat → Nat → Int64} {Q : Nat → Nat → Nat} {sl L : Nat} {R : ZM → Option ZV → Prop} (h : B_X7_2_120 d (zfill I 11 0) (zfill J 11 0) Q (sl + zn (6 : Int32)) L R) : B_X7_2_112 d I J Q sl L R := eo_shift 4 (fun _ _ => rfl) h
set_option maxRecDepth 100000 in
theorem b_X7_2_120 {d : Nat} {I : Nat → Nat → Int32} {J : Nat → Nat → Int64} {Q : Nat → Nat → Nat} {sl L : Nat} {R : ZM → Option ZV → Prop} (h : B_X7_2_125 d (zu I 2 12 0) J Q sl L R) : B_X7_2_120 d I J Q sl L R := eo_shift 3 (fun _ _ => rfl) h
set_option maxRecDepth 100000 in
theorem b_X7_2_125 {d : Nat} {I : Nat → Nat → Int32} {J : Nat → Nat → Int64} {Q : Nat → Nat → Nat} {sl L : Nat} {R : ZM → Option ZV → Prop} (h : B_X7_2_130 d I J (zu Q 2 13 0) sl L R) : B_X7_2_125 d I J Q sl L R := eo_shift 3 (fun _ _ => rfl) h
set_option maxRecDepth 100000 in
theorem b_X7_2_130 {d : Nat} {I : Nat → Nat → Int32} {J : Nat → Nat → Int64} {Q : Nat → Nat → Nat} {sl L : Nat} {R : ZM → Option ZV → Prop} (h : B_X7_2_138 d (zfill I 12 0) (zfill J 12 0) Q (sl + zn (7 : Int32)) L R) : B_X7_2_130 d I J Q sl L R := eo_shift 4 (fun _ _ => rfl) h
set_option maxRecDepth 100000 in
theorem b_X7_2_138 {d : Nat} {I : Nat → Nat → Int32} {J : Nat → Nat → Int64} {Q : Nat → Nat → Nat} {sl L : Nat} {R : ZM → Option ZV → Prop} (h : B_X7_2_146 d (zfill I 13 0) (zfill J 13 0) Q (sl + zn (6 : Int32)) L R) : B_X7_2_138 d I J Q sl L R := eo_shift 4 (fun _ _ => rfl) h
set_option maxRecDepth 100000 in
theorem b_X7_2_146 {d : Nat} {I : Nat → Nat → Int32} {J : Nat → Nat → Int64} {Q : Nat → Nat → Nat} {sl L : Nat} {R : ZM → Option ZV → Prop} (h : R (I, J, Q, 14, sl, L) none) : B_X7_2_146 d I J Q sl L R := eo_shift 1 (g := fun _ _ => some ((I, J, Q, 14, sl, L), none)) (fun _ _ => rfl) (eo_ret h)
theorem k_X7_2 {d : Nat} {I : Nat → Nat → Int32} {J : Nat → Nat → Int64} {Q : Nat → Nat → Nat} {sl L : Nat} : Rt (d + 1) 59 [zR 27 2] (I, J, Q, 3, sl, L) ((zfill (zfill (zu (zfill (zfill (zfill (zfill (zu (zfill (zfill (zu (zfill (zfill (zu (zu (zu (zu (zu (zu (zu (zfill (zu I 2 0 5) 3 0) 3 0 1) 3 1 1) 3 2 1) 3 3 1) 3 4 1) 3 5 1) 3 6 1) 4 0) 5 0) 2 4 0) 6 0) 7 0) 2 7 0) 8 0) 9 0) 10 0) 11 0) 2 12 0) 12 0) 13 0), (zfill (zfill (zfill (zfill (zfill (zfill (zfill (zfill (zfill (zfill (zfill J 3 0) 4 0) 5 0) 6 0) 7 0) 8 0) 9 0) 10 0) 11 0) 12 0) 13 0), (zu Q 2 13 0), 14, (((((((((((sl + zn (7 : Int32)) + zn (7 : Int32)) + zn (7 : Int32)) + zn (7 : Int32)) + zn (7 : Int32)) + zn (6 : Int32)) + zn (6 : Int32)) + zn (6 : Int32)) + zn (6 : Int32)) + zn (7 : Int32)) + zn (6 : Int32)), L) none := ro_rt (ro_of rfl (b_X7_2_0 (b_X7_2_9 (b_X7_2_46 (b_X7_2_54 (b_X7_2_62 (b_X7_2_67 (b_X7_2_75 (b_X7_2_83 (b_X7_2_88 (b_X7_2_96 (b_X7_2_104 (b_X7_2_112 (b_X7_2_120 (b_X7_2_125 (b_X7_2_130 (b_X7_2_138 (b_X7_2_146 ⟨rfl, rfl⟩))))))))))))))))))
def B_X7_14_0 (d : Nat) (I : Nat → Nat → Int32) (J : Nat → Nat → Int64) (Q : Nat → Nat → Nat) (sl L : Nat) (R : ZM → Option ZV → Prop) : Prop := Eo d (fun H n => zrunF H zc_X7_init 14 n (I, J, Q, 15, sl, L) 0 [zR 27 14] [] []) R
def B_X7_14_9 (d : Nat) (I : Nat → Nat → Int32) (J : Nat → Nat → Int64) (Q : Nat → Nat → Nat) (sl L : Nat) (R : ZM → Option ZV → Prop) : Prop := Eo d (fun H n => zrunF H zc_X7_init 14 n (I, J, Q, 15, sl, L) 9 [zR 27 14] [] []) R
def B_X7_14_46 (d : Nat) (I : Nat → Nat → Int32) (J : Nat → Nat → Int64) (Q : Nat → Nat → Nat) (sl L : Nat) (R : ZM → Option ZV → Prop) : Prop := Eo d (fun H n => zrunF H zc_X7_init 14 n (I, J, Q, 16, sl, L) 46 [zR 27 14] [] [1]) R
def B_X7_14_54 (d : Nat) (I : Nat → Nat → Int32) (J : Nat → Nat → Int64) (Q : Nat → Nat → Nat) (sl L : Nat) (R : ZM → Option ZV → Prop) : Prop := Eo d (fun H n => zrunF H zc_X7_init 14 n (I, J, Q, 17, sl, L) 54 [zR 27 14] [] [2, 1]) R
def B_X7_14_62 (d : Nat) (I : Nat → Nat → Int32) (J : Nat → Nat → Int64) (Q : Nat → Nat → Nat) (sl L : Nat) (R : ZM → Option ZV → Prop) : Prop := Eo d (fun H n => zrunF H zc_X7_init 14 n (I, J, Q, 18, sl, L) 62 [zR 27 14] [] [3, 2, 1]) R
def B_X7_14_67 (d : Nat) (I : Nat → Nat → Int32) (J : Nat → Nat → Int64) (Q : Nat → Nat → Nat) (sl L : Nat) (R : ZM → Option ZV → Prop) : Prop := Eo d (fun H n => zrunF H zc_X7_init 14 n (I, J, Q, 18, sl, L) 67 [zR 27 14] [] [3, 2, 1]) R
def B_X7_14_75 (d : Nat) (I : Nat → Nat → Int32) (J : Nat → Nat → Int64) (Q : Nat → Nat → Nat) (sl L : Nat) (R : ZM → Option ZV → Prop) : Prop := Eo d (fun H n => zrunF H zc_X7_init 14 n (I, J, Q, 19, sl, L) 75 [zR 27 14] [] [5, 3, 2, 1]) R
def B_X7_14_83 (d : Nat) (I : Nat → Nat → Int32) (J : Nat → Nat → Int64) (Q : Nat → Nat → Nat) (sl L : Nat) (R : ZM → Option ZV → Prop) : Prop := Eo d (fun H n => zrunF H zc_X7_init 14 n (I, J, Q, 20, sl, L) 83 [zR 27 14] [] [6, 5, 3, 2, 1]) R
def B_X7_14_88 (d : Nat) (I : Nat → Nat → Int32) (J : Nat → Nat → Int64) (Q : Nat → Nat → Nat) (sl L : Nat) (R : ZM → Option ZV → Prop) : Prop := Eo d (fun H n => zrunF H zc_X7_init 14 n (I, J, Q, 20, sl, L) 88 [zR 27 14] [] [6, 5, 3, 2, 1]) R
def B_X7_14_96 (d : Nat) (I : Nat → Nat → Int32) (J : Nat → Nat → Int64) (Q : Nat → Nat → Nat) (sl L : Nat) (R : ZM → Option ZV → Prop) : Prop := Eo d (fun H n => zrunF H zc_X7_init 14 n (I, J, Q, 21, sl, L) 96 [zR 27 14] [] [8, 6, 5, 3, 2, 1]) R
def B_X7_14_104 (d : Nat) (I : Nat → Nat → Int32) (J : Nat → Nat → Int64) (Q : Nat → Nat → Nat) (sl L : Nat) (R : ZM → Option ZV → Prop) : Prop := Eo d (fun H n => zrunF H zc_X7_init 14 n (I, J, Q, 22, sl, L) 104 [zR 27 14] [] [9, 8, 6, 5, 3, 2, 1]) R
def B_X7_14_112 (d : Nat) (I : Nat → Nat → Int32) (J : Nat → Nat → Int64) (Q : Nat → Nat → Nat) (sl L : Nat) (R : ZM → Option ZV → Prop) : Prop := Eo d (fun H n => zrunF H zc_X7_init 14 n (I, J, Q, 23, sl, L) 112 [zR 27 14] [] [10, 9, 8, 6, 5, 3, 2, 1]) R
def B_X7_14_120 (d : Nat) (I : Nat → Nat → Int32) (J : Nat → Nat → Int64) (Q : Nat → Nat → Nat) (sl L : Nat) (R : ZM → Option ZV → Prop) : Prop := Eo d (fun H n => zrunF H zc_X7_init 14 n (I, J, Q, 24, sl, L) 120 [zR 27 14] [] [11, 10, 9, 8, 6, 5, 3, 2, 1]) R
def B_X7_14_125 (d : Nat) (I : Nat → Nat → Int32) (J : Nat → Nat → Int64) (Q : Nat → Nat → Nat) (sl L : Nat) (R : ZM → Option ZV → Prop) : Prop := Eo d (fun H n => zrunF H zc_X7_init 14 n (I, J, Q, 24, sl, L) 125 [zR 27 14] [] [11, 10, 9, 8, 6, 5, 3, 2, 1]) R
def B_X7_14_130 (d : Nat) (I : Nat → Nat → Int32) (J : Nat → Nat → Int64) (Q : Nat → Nat → Nat) (sl L : Nat) (R : ZM → Option ZV → Prop) : Prop := Eo d (fun H n => zrunF H zc_X7_init 14 n (I, J, Q, 24, sl, L) 130 [zR 27 14] [] [11, 10, 9, 8, 6, 5, 3, 2, 1]) R
def B_X7_14_138 (d : Nat) (I : Nat → Nat → Int32) (J : Nat → Nat → Int64) (Q : Nat → Nat → Nat) (sl L : Nat) (R : ZM → Option ZV → Prop) : Prop := Eo d (fun H n => zrunF H zc_X7_init 14 n (I, J, Q, 25, sl, L) 138 [zR 27 14] [] [14, 11, 10, 9, 8, 6, 5, 3, 2, 1]) R
def B_X7_14_146 (d : Nat) (I : Nat → Nat → Int32) (J : Nat → Nat → Int64) (Q : Nat → Nat → Nat) (sl L : Nat) (R : ZM → Option ZV → Prop) : Prop := Eo d (fun H n => zrunF H zc_X7_init 14 n (I, J, Q, 26, sl, L) 146 [zR 27 14] [] [15, 14, 11, 10, 9, 8, 6, 5, 3, 2, 1]) R
set_option maxRecDepth 100000 in
theorem b_X7_14_0 {d : Nat} {I : Nat → Nat → Int32} {J : Nat → Nat → Int64} {Q : Nat → Nat → Nat} {sl L : Nat} {R : ZM → Option ZV → Prop} (h : B_X7_14_9 d (zu I 14 0 5) J Q sl L R) : B_X7_14_0 d I J Q sl L R := eo_shift 5 (fun _ _ => rfl) h
set_option maxRecDepth 100000 in
theorem b_X7_14_9 {d : Nat} {I : Nat → Nat → Int32} {J : Nat → Nat → Int64} {Q : Nat → Nat → Nat} {sl L : Nat} {R : ZM → Option ZV → Prop} (h : B_X7_14_46 d (zu (zu (zu (zu (zu (zu (zu (zfill I 15 0) 15 0 1) 15 1 1) 15 2 1) 15 3 1) 15 4 1) 15 5 1) 15 6 1) (zfill J 15 0) Q (sl + zn (7 : Int32)) L R) : B_X7_14_9 d I J Q sl L R := eo_shift 32 (fun _ _ => rfl) h
set_option maxRecDepth 100000 in
theorem b_X7_14_46 {d : Nat} {I : Nat → Nat → Int32} {J : Nat → Nat → Int64} {Q : Nat → Nat → Nat} {sl L : Nat} {R : ZM → Option ZV → Prop} (h : B_X7_14_54 d (zfill I 16 0) (zfill J 16 0) Q (sl + zn (7 : Int32)) L R) : B_X7_14_46 d I J Q sl L R := eo_shift 4 (fun _ _ => rfl) h
set_option maxRecDepth 100000 in
theorem b_X7_14_54 {d : Nat} {I : Nat → Nat → Int32} {J : Nat → Nat → Int64} {Q : Nat → Nat → Nat} {sl L : Nat} {R : ZM → Option ZV → Prop} (h : B_X7_14_62 d (zfill I 17 0) (zfill J 17 0) Q (sl + zn (7 : Int32)) L R) : B_X7_14_54 d I J Q sl L R := eo_shift 4 (fun _ _ => rfl) h
set_option maxRecDepth 100000 in
theorem b_X7_14_62 {d : Nat} {I : Nat → Nat → Int32} {J : Nat → Nat → Int64} {Q : Nat → Nat → Nat} {sl L : Nat} {R : ZM → Option ZV → Prop} (h : B_X7_14_67 d (zu I 14 4 0) J Q sl L R) : B_X7_14_62 d I J Q sl L R := eo_shift 3 (fun _ _ => rfl) h
set_option maxRecDepth 100000 in
theorem b_X7_14_67 {d : Nat} {I : Nat → Nat → Int32} {J : Nat → Nat → Int64} {Q : Nat → Nat → Nat} {sl L : Nat} {R : ZM → Option ZV → Prop} (h : B_X7_14_75 d (zfill I 18 0) (zfill J 18 0) Q (sl + zn (7 : Int32)) L R) : B_X7_14_67 d I J Q sl L R := eo_shift 4 (fun _ _ => rfl) h
set_option maxRecDepth 100000 in
theorem b_X7_14_75 {d : Nat} {I : Nat → Nat → Int32} {J : Nat → Nat → Int64} {Q : Nat → Nat → Nat} {sl L : Nat} {R : ZM → Option ZV → Prop} (h : B_X7_14_83 d (zfill I 19 0) (zfill J 19 0) Q (sl + zn (7 : Int32)) L R) : B_X7_14_75 d I J Q sl L R := eo_shift 4 (fun _ _ => rfl) h
set_option maxRecDepth 100000 in
theorem b_X7_14_83 {d : Nat} {I : Nat → Nat → Int32} {J : Nat → Nat → Int64} {Q : Nat → Nat → Nat} {sl L : Nat} {R : ZM → Option ZV → Prop} (h : B_X7_14_88 d (zu I 14 7 0) J Q sl L R) : B_X7_14_83 d I J Q sl L R := eo_shift 3 (fun _ _ => rfl) h
set_option maxRecDepth 100000 in
theorem b_X7_14_88 {d : Nat} {I : Nat → Nat → Int32} {J : Nat → Nat → Int64} {Q : Nat → Nat → Nat} {sl L : Nat} {R : ZM → Option ZV → Prop} (h : B_X7_14_96 d (zfill I 20 0) (zfill J 20 0) Q (sl + zn (6 : Int32)) L R) : B_X7_14_88 d I J Q sl L R := eo_shift 4 (fun _ _ => rfl) h
set_option maxRecDepth 100000 in
theorem b_X7_14_96 {d : Nat} {I : Nat → Nat → Int32} {J : Nat → Nat → Int64} {Q : Nat → Nat → Nat} {sl L : Nat} {R : ZM → Option ZV → Prop} (h : B_X7_14_104 d (zfill I 21 0) (zfill J 21 0) Q (sl + zn (6 : Int32)) L R) : B_X7_14_96 d I J Q sl L R := eo_shift 4 (fun _ _ => rfl) h
set_option maxRecDepth 100000 in
theorem b_X7_14_104 {d : Nat} {I : Nat → Nat → Int32} {J : Nat → Nat → Int64} {Q : Nat → Nat → Nat} {sl L : Nat} {R : ZM → Option ZV → Prop} (h : B_X7_14_112 d (zfill I 22 0) (zfill J 22 0) Q (sl + zn (6 : Int32)) L R) : B_X7_14_104 d I J Q sl L R := eo_shift 4 (fun _ _ => rfl) h
set_option maxRecDepth 100000 in
theorem b_X7_14_112 {d : Nat} {I : Nat → Nat → Int32} {J : Nat → Nat → Int64} {Q : Nat → Nat → Nat} {sl L : Nat} {R : ZM → Option ZV → Prop} (h : B_X7_14_120 d (zfill I 23 0) (zfill J 23 0) Q (sl + zn (6 : Int32)) L R) : B_X7_14_112 d I J Q sl L R := eo_shift 4 (fun _ _ => rfl) h
set_option maxRecDepth 100000 in
theorem b_X7_14_120 {d : Nat} {I : Nat → Nat → Int32} {J : Nat → Nat → Int64} {Q : Nat → Nat → Nat} {sl L : Nat} {R : ZM → Option ZV → Prop} (h : B_X7_14_125 d (zu I 14 12 0) J Q sl L R) : B_X7_14_120 d I J Q sl L R := eo_shift 3 (fun _ _ => rfl) h
set_option maxRecDepth 100000 in
theorem b_X7_14_125 {d : Nat} {I : Nat → Nat → Int32} {J : Nat → Nat → Int64} {Q : Nat → Nat → Nat} {sl L : Nat} {R : ZM → Option ZV → Prop} (h : B_X7_14_130 d I J (zu Q 14 13 0) sl L R) : B_X7_14_125 d I J Q sl L R := eo_shift 3 (fun _ _ => rfl) h
set_option maxRecDepth 100000 in
theorem b_X7_14_130 {d : Nat} {I : Nat → Nat → Int32} {J : Nat → Nat → Int64} {Q : Nat → Nat → Nat} {sl L : Nat} {R : ZM → Option ZV → Prop} (h : B_X7_14_138 d (zfill I 24 0) (zfill J 24 0) Q (sl + zn (7 : Int32)) L R) : B_X7_14_130 d I J Q sl L R := eo_shift 4 (fun _ _ => rfl) h
set_option maxRecDepth 100000 in
theorem b_X7_14_138 {d : Nat} {I : Nat → Nat → Int32} {J : Nat → Nat → Int64} {Q : Nat → Nat → Nat} {sl L : Nat} {R : ZM → Option ZV → Prop} (h : B_X7_14_146 d (zfill I 25 0) (zfill J 25 0) Q (sl + zn (6 : Int32)) L R) : B_X7_14_138 d I J Q sl L R := eo_shift 4 (fun _ _ => rfl) h
set_option maxRecDepth 100000 in
theorem b_X7_14_146 {d : Nat} {I : Nat → Nat → Int32} {J : Nat → Nat → Int64} {Q : Nat → Nat → Nat} {sl L : Nat} {R : ZM → Option ZV → Prop} (h : R (I, J, Q, 26, sl, L) none) : B_X7_14_146 d I J Q sl L R := eo_shift 1 (g := fun _ _ => some ((I, J, Q, 26, sl, L), none)) (fun _ _ => rfl) (eo_ret h)
theorem k_X7_14 {d : Nat} {I : Nat → Nat → Int32} {J : Nat → Nat → Int64} {Q : Nat → Nat → Nat} {sl L : Nat} : Rt (d + 1) 59 [zR 27 14] (I, J, Q, 15, sl, L) ((zfill (zfill (zu (zfill (zfill (zfill (zfill (zu (zfill (zfill (zu (zfill (zfill (zu (zu (zu (zu (zu (zu (zu (zfill (zu I 14 0 5) 15 0) 15 0 1) 15 1 1) 15 2 1) 15 3 1) 15 4 1) 15 5 1) 15 6 1) 16 0) 17 0) 14 4 0) 18 0) 19 0) 14 7 0) 20 0) 21 0) 22 0) 23 0) 14 12 0) 24 0) 25 0), (zfill (zfill (zfill (zfill (zfill (zfill (zfill (zfill (zfill (zfill (zfill J 15 0) 16 0) 17 0) 18 0) 19 0) 20 0) 21 0) 22 0) 23 0) 24 0) 25 0), (zu Q 14 13 0), 26, (((((((((((sl + zn (7 : Int32)) + zn (7 : Int32)) + zn (7 : Int32)) + zn (7 : Int32)) + zn (7 : Int32)) + zn (6 : Int32)) + zn (6 : Int32)) + zn (6 : Int32)) + zn (6 : Int32)) + zn (7 : Int32)) + zn (6 : Int32)), L) none := ro_rt (ro_of rfl (b_X7_14_0 (b_X7_14_9 (b_X7_14_46 (b_X7_14_54 (b_X7_14_62 (b_X7_14_67 (b_X7_14_75 (b_X7_14_83 (b_X7_14_88 (b_X7_14_96 (b_X7_14_104 (b_X7_14_112 (b_X7_14_120 (b_X7_14_125 (b_X7_14_130 (b_X7_14_138 (b_X7_14_146 ⟨rfl, rfl⟩))))))))))))))))))
def B_X7_26_0 (d : Nat) (I : Nat → Nat → Int32) (J : Nat → Nat → Int64) (Q : Nat → Nat → Nat) (sl L : Nat) (R : ZM → Option ZV → Prop) : Prop := Eo d (fun H n => zrunF H zc_X7_init 26 n (I, J, Q, 27, sl, L) 0 [zR 27 26] [] []) R
def B_X7_26_9 (d : Nat) (I : Nat → Nat → Int32) (J : Nat → Nat → Int64) (Q : Nat → Nat → Nat) (sl L : Nat) (R : ZM → Option ZV → Prop) : Prop := Eo d (fun H n => zrunF H zc_X7_init 26 n (I, J, Q, 27, sl, L) 9 [zR 27 26] [] []) R
def B_X7_26_46 (d : Nat) (I : Nat → Nat → Int32) (J : Nat → Nat → Int64) (Q : Nat → Nat → Nat) (sl L : Nat) (R : ZM → Option ZV → Prop) : Prop := Eo d (fun H n => zrunF H zc_X7_init 26 n (I, J, Q, 28, sl, L) 46 [zR 27 26] [] [1]) R
def B_X7_26_54 (d : Nat) (I : Nat → Nat → Int32) (J : Nat → Nat → Int64) (Q : Nat → Nat → Nat) (sl L : Nat) (R : ZM → Option ZV → Prop) : Prop := Eo d (fun H n => zrunF H zc_X7_init 26 n (I, J, Q, 29, sl, L) 54 [zR 27 26] [] [2, 1]) R
def B_X7_26_62 (d : Nat) (I : Nat → Nat → Int32) (J : Nat → Nat → Int64) (Q : Nat → Nat → Nat) (sl L : Nat) (R : ZM → Option ZV → Prop) : Prop := Eo d (fun H n => zrunF H zc_X7_init 26 n (I, J, Q, 30, sl, L) 62 [zR 27 26] [] [3, 2, 1]) R
def B_X7_26_67 (d : Nat) (I : Nat → Nat → Int32) (J : Nat → Nat → Int64) (Q : Nat → Nat → Nat) (sl L : Nat) (R : ZM → Option ZV → Prop) : Prop := Eo d (fun H n => zrunF H zc_X7_init 26 n (I, J, Q, 30, sl, L) 67 [zR 27 26] [] [3, 2, 1]) R
def B_X7_26_75 (d : Nat) (I : Nat → Nat → Int32) (J : Nat → Nat → Int64) (Q : Nat → Nat → Nat) (sl L : Nat) (R : ZM → Option ZV → Prop) : Prop := Eo d (fun H n => zrunF H zc_X7_init 26 n (I, J, Q, 31, sl, L) 75 [zR 27 26] [] [5, 3, 2, 1]) R
def B_X7_26_83 (d : Nat) (I : Nat → Nat → Int32) (J : Nat → Nat → Int64) (Q : Nat → Nat → Nat) (sl L : Nat) (R : ZM → Option ZV → Prop) : Prop := Eo d (fun H n => zrunF H zc_X7_init 26 n (I, J, Q, 32, sl, L) 83 [zR 27 26] [] [6, 5, 3, 2, 1]) R
def B_X7_26_88 (d : Nat) (I : Nat → Nat → Int32) (J : Nat → Nat → Int64) (Q : Nat → Nat → Nat) (sl L : Nat) (R : ZM → Option ZV → Prop) : Prop := Eo d (fun H n => zrunF H zc_X7_init 26 n (I, J, Q, 32, sl, L) 88 [zR 27 26] [] [6, 5, 3, 2, 1]) R
def B_X7_26_96 (d : Nat) (I : Nat → Nat → Int32) (J : Nat → Nat → Int64) (Q : Nat → Nat → Nat) (sl L : Nat) (R : ZM → Option ZV → Prop) : Prop := Eo d (fun H n => zrunF H zc_X7_init 26 n (I, J, Q, 33, sl, L) 96 [zR 27 26] [] [8, 6, 5, 3, 2, 1]) R
def B_X7_26_104 (d : Nat) (I : Nat → Nat → Int32) (J : Nat → Nat → Int64) (Q : Nat → Nat → Nat) (sl L : Nat) (R : ZM → Option ZV → Prop) : Prop := Eo d (fun H n => zrunF H zc_X7_init 26 n (I, J, Q, 34, sl, L) 104 [zR 27 26] [] [9, 8, 6, 5, 3, 2, 1]) R
def B_X7_26_112 (d : Nat) (I : Nat → Nat → Int32) (J : Nat → Nat → Int64) (Q : Nat → Nat → Nat) (sl L : Nat) (R : ZM → Option ZV → Prop) : Prop := Eo d (fun H n => zrunF H zc_X7_init 26 n (I, J, Q, 35, sl, L) 112 [zR 27 26] [] [10, 9, 8, 6, 5, 3, 2, 1]) R
def B_X7_26_120 (d : Nat) (I : Nat → Nat → Int32) (J : Nat → Nat → Int64) (Q : Nat → Nat → Nat) (sl L : Nat) (R : ZM → Option ZV → Prop) : Prop := Eo d (fun H n => zrunF H zc_X7_init 26 n (I, J, Q, 36, sl, L) 120 [zR 27 26] [] [11, 10, 9, 8, 6, 5, 3, 2, 1]) R
def B_X7_26_125 (d : Nat) (I : Nat → Nat → Int32) (J : Nat → Nat → Int64) (Q : Nat → Nat → Nat) (sl L : Nat) (R : ZM → Option ZV → Prop) : Prop := Eo d (fun H n => zrunF H zc_X7_init 26 n (I, J, Q, 36, sl, L) 125 [zR 27 26] [] [11, 10, 9, 8, 6, 5, 3, 2, 1]) R
def B_X7_26_130 (d : Nat) (I : Nat → Nat → Int32) (J : Nat → Nat → Int64) (Q : Nat → Nat → Nat) (sl L : Nat) (R : ZM → Option ZV → Prop) : Prop := Eo d (fun H n => zrunF H zc_X7_init 26 n (I, J, Q, 36, sl, L) 130 [zR 27 26] [] [11, 10, 9, 8, 6, 5, 3, 2, 1]) R
def B_X7_26_138 (d : Nat) (I : Nat → Nat → Int32) (J : Nat → Nat → Int64) (Q : Nat → Nat → Nat) (sl L : Nat) (R : ZM → Option ZV → Prop) : Prop := Eo d (fun H n => zrunF H zc_X7_init 26 n (I, J, Q, 37, sl, L) 138 [zR 27 26] [] [14, 11, 10, 9, 8, 6, 5, 3, 2, 1]) R
def B_X7_26_146 (d : Nat) (I : Nat → Nat → Int32) (J : Nat → Nat → Int64) (Q : Nat → Nat → Nat) (sl L : Nat) (R : ZM → Option ZV → Prop) : Prop := Eo d (fun H n => zrunF H zc_X7_init 26 n (I, J, Q, 38, sl, L) 146 [zR 27 26] [] [15, 14, 11, 10, 9, 8, 6, 5, 3, 2, 1]) R
set_option maxRecDepth 100000 in
theorem b_X7_26_0 {d : Nat} {I : Nat → Nat → Int32} {J : Nat → Nat → Int64} {Q : Nat → Nat → Nat} {sl L : Nat} {R : ZM → Option ZV → Prop} (h : B_X7_26_9 d (zu I 26 0 5) J Q sl L R) : B_X7_26_0 d I J Q sl L R := eo_shift 5 (fun _ _ => rfl) h
set_option maxRecDepth 100000 in
theorem b_X7_26_9 {d : Nat} {I : Nat → Nat → Int32} {J : Nat → Nat → Int64} {Q : Nat → Nat → Nat} {sl L : Nat} {R : ZM → Option ZV → Prop} (h : B_X7_26_46 d (zu (zu (zu (zu (zu (zu (zu (zfill I 27 0) 27 0 1) 27 1 1) 27 2 1) 27 3 1) 27 4 1) 27 5 1) 27 6 1) (zfill J 27 0) Q (sl + zn (7 : Int32)) L R) : B_X7_26_9 d I J Q sl L R := eo_shift 32 (fun _ _ => rfl) h
set_option maxRecDepth 100000 in
theorem b_X7_26_46 {d : Nat} {I : Nat → Nat → Int32} {J : Nat → Nat → Int64} {Q : Nat → Nat → Nat} {sl L : Nat} {R : ZM → Option ZV → Prop} (h : B_X7_26_54 d (zfill I 28 0) (zfill J 28 0) Q (sl + zn (7 : Int32)) L R) : B_X7_26_46 d I J Q sl L R := eo_shift 4 (fun _ _ => rfl) h
set_option maxRecDepth 100000 in
theorem b_X7_26_54 {d : Nat} {I : Nat → Nat → Int32} {J : Nat → Nat → Int64} {Q : Nat → Nat → Nat} {sl L : Nat} {R : ZM → Option ZV → Prop} (h : B_X7_26_62 d (zfill I 29 0) (zfill J 29 0) Q (sl + zn (7 : Int32)) L R) : B_X7_26_54 d I J Q sl L R := eo_shift 4 (fun _ _ => rfl) h
set_option maxRecDepth 100000 in
theorem b_X7_26_62 {d : Nat} {I : Nat → Nat → Int32} {J : Nat → Nat → Int64} {Q : Nat → Nat → Nat} {sl L : Nat} {R : ZM → Option ZV → Prop} (h : B_X7_26_67 d (zu I 26 4 0) J Q sl L R) : B_X7_26_62 d I J Q sl L R := eo_shift 3 (fun _ _ => rfl) h
set_option maxRecDepth 100000 in
theorem b_X7_26_67 {d : Nat} {I : Nat → Nat → Int32} {J : Nat → Nat → Int64} {Q : Nat → Nat → Nat} {sl L : Nat} {R : ZM → Option ZV → Prop} (h : B_X7_26_75 d (zfill I 30 0) (zfill J 30 0) Q (sl + zn (7 : Int32)) L R) : B_X7_26_67 d I J Q sl L R := eo_shift 4 (fun _ _ => rfl) h
set_option maxRecDepth 100000 in
theorem b_X7_26_75 {d : Nat} {I : Nat → Nat → Int32} {J : Nat → Nat → Int64} {Q : Nat → Nat → Nat} {sl L : Nat} {R : ZM → Option ZV → Prop} (h : B_X7_26_83 d (zfill I 31 0) (zfill J 31 0) Q (sl + zn (7 : Int32)) L R) : B_X7_26_75 d I J Q sl L R := eo_shift 4 (fun _ _ => rfl) h
set_option maxRecDepth 100000 in
theorem b_X7_26_83 {d : Nat} {I : Nat → Nat → Int32} {J : Nat → Nat → Int64} {Q : Nat → Nat → Nat} {sl L : Nat} {R : ZM → Option ZV → Prop} (h : B_X7_26_88 d (zu I 26 7 0) J Q sl L R) : B_X7_26_83 d I J Q sl L R := eo_shift 3 (fun _ _ => rfl) h
set_option maxRecDepth 100000 in
theorem b_X7_26_88 {d : Nat} {I : Nat → Nat → Int32} {J : Nat → Nat → Int64} {Q : Nat → Nat → Nat} {sl L : Nat} {R : ZM → Option ZV → Prop} (h : B_X7_26_96 d (zfill I 32 0) (zfill J 32 0) Q (sl + zn (6 : Int32)) L R) : B_X7_26_88 d I J Q sl L R := eo_shift 4 (fun _ _ => rfl) h
set_option maxRecDepth 100000 in
theorem b_X7_26_96 {d : Nat} {I : Nat → Nat → Int32} {J : Nat → Nat → Int64} {Q : Nat → Nat → Nat} {sl L : Nat} {R : ZM → Option ZV → Prop} (h : B_X7_26_104 d (zfill I 33 0) (zfill J 33 0) Q (sl + zn (6 : Int32)) L R) : B_X7_26_96 d I J Q sl L R := eo_shift 4 (fun _ _ => rfl) h
set_option maxRecDepth 100000 in
theorem b_X7_26_104 {d : Nat} {I : Nat → Nat → Int32} {J : Nat → Nat → Int64} {Q : Nat → Nat → Nat} {sl L : Nat} {R : ZM → Option ZV → Prop} (h : B_X7_26_112 d (zfill I 34 0) (zfill J 34 0) Q (sl + zn (6 : Int32)) L R) : B_X7_26_104 d I J Q sl L R := eo_shift 4 (fun _ _ => rfl) h
set_option maxRecDepth 100000 in
theorem b_X7_26_112 {d : Nat} {I : Nat → Nat → Int32} {J : Nat → Nat → Int64} {Q : Nat → Nat → Nat} {sl L : Nat} {R : ZM → Option ZV → Prop} (h : B_X7_26_120 d (zfill I 35 0) (zfill J 35 0) Q (sl + zn (6 : Int32)) L R) : B_X7_26_112 d I J Q sl L R := eo_shift 4 (fun _ _ => rfl) h
set_option maxRecDepth 100000 in
theorem b_X7_26_120 {d : Nat} {I : Nat → Nat → Int32} {J : Nat → Nat → Int64} {Q : Nat → Nat → Nat} {sl L : Nat} {R : ZM → Option ZV → Prop} (h : B_X7_26_125 d (zu I 26 12 0) J Q sl L R) : B_X7_26_120 d I J Q sl L R := eo_shift 3 (fun _ _ => rfl) h
set_option maxRecDepth 100000 in
theorem b_X7_26_125 {d : Nat} {I : Nat → Nat → Int32} {J : Nat → Nat → Int64} {Q : Nat → Nat → Nat} {sl L : Nat} {R : ZM → Option ZV → Prop} (h : B_X7_26_130 d I J (zu Q 26 13 0) sl L R) : B_X7_26_125 d I J Q sl L R := eo_shift 3 (fun _ _ => rfl) h
set_option maxRecDepth 100000 in
theorem b_X7_26_130 {d : Nat} {I : Nat → Nat → Int32} {J : Nat → Nat → Int64} {Q : Nat → Nat → Nat} {sl L : Nat} {R : ZM → Option ZV → Prop} (h : B_X7_26_138 d (zfill I 36 0) (zfill J 36 0) Q (sl + zn (7 : Int32)) L R) : B_X7_26_130 d I J Q sl L R := eo_shift 4 (fun _ _ => rfl) h
set_option maxRecDepth 100000 in
theorem b_X7_26_138 {d : Nat} {I : Nat → Nat → Int32} {J : Nat → Nat → Int64} {Q : Nat → Nat → Nat} {sl L : Nat} {R : ZM → Option ZV → Prop} (h : B_X7_26_146 d (zfill I 37 0) (zfill J 37 0) Q (sl + zn (6 : Int32)) L R) : B_X7_26_138 d I J Q sl L R := eo_shift 4 (fun _ _ => rfl) h
set_option maxRecDepth 100000 in
theorem b_X7_26_146 {d : Nat} {I : Nat → Nat → Int32} {J : Nat → Nat → Int64} {Q : Nat → Nat → Nat} {sl L : Nat} {R : ZM → Option ZV → Prop} (h : R (I, J, Q, 38, sl, L) none) : B_X7_26_146 d I J Q sl L R := eo_shift 1 (g := fun _ _ => some ((I, J, Q, 38, sl, L), none)) (fun _ _ => rfl) (eo_ret h)
theorem k_X7_26 {d : Nat} {I : Nat → Nat → Int32} {J : Nat → Nat → Int64} {Q : Nat → Nat → Nat} {sl L : Nat} : Rt (d + 1) 59 [zR 27 26] (I, J, Q, 27, sl, L) ((zfill (zfill (zu (zfill (zfill (zfill (zfill (zu (zfill (zfill (zu (zfill (zfill (zu (zu (zu (zu (zu (zu (zu (zfill (zu I 26 0 5) 27 0) 27 0 1) 27 1 1) 27 2 1) 27 3 1) 27 4 1) 27 5 1) 27 6 1) 28 0) 29 0) 26 4 0) 30 0) 31 0) 26 7 0) 32 0) 33 0) 34 0) 35 0) 26 12 0) 36 0) 37 0), (zfill (zfill (zfill (zfill (zfill (zfill (zfill (zfill (zfill (zfill (zfill J 27 0) 28 0) 29 0) 30 0) 31 0) 32 0) 33 0) 34 0) 35 0) 36 0) 37 0), (zu Q 26 13 0), 38, (((((((((((sl + zn (7 : Int32)) + zn (7 : Int32)) + zn (7 : Int32)) + zn (7 : Int32)) + zn (7 : Int32)) + zn (6 : Int32)) + zn (6 : Int32)) + zn (6 : Int32)) + zn (6 : Int32)) + zn (7 : Int32)) + zn (6 : Int32)), L) none := ro_rt (ro_of rfl (b_X7_26_0 (b_X7_26_9 (b_X7_26_46 (b_X7_26_54 (b_X7_26_62 (b_X7_26_67 (b_X7_26_75 (b_X7_26_83 (b_X7_26_88 (b_X7_26_96 (b_X7_26_104 (b_X7_26_112 (b_X7_26_120 (b_X7_26_125 (b_X7_26_130 (b_X7_26_138 (b_X7_26_146 ⟨rfl, rfl⟩))))))))))))))))))
def B_X5_38_0 (d : Nat) (I : Nat → Nat → Int32) (J : Nat → Nat → Int64) (Q : Nat → Nat → Nat) (sl L : Nat) (R : ZM → Option ZV → Prop) : Prop := Eo d (fun H n => zrunF H zc_X5_init 38 n (I, J, Q, 39, sl, L) 0 [zR 25 38] [] []) R
def B_X5_38_9 (d : Nat) (I : Nat → Nat → Int32) (J : Nat → Nat → Int64) (Q : Nat → Nat → Nat) (sl L : Nat) (R : ZM → Option ZV → Prop) : Prop := Eo d (fun H n => zrunF H zc_X5_init 38 n (I, J, Q, 39, sl, L) 9 [zR 25 38] [] []) R
def B_X5_38_17 (d : Nat) (I : Nat → Nat → Int32) (J : Nat → Nat → Int64) (Q : Nat → Nat → Nat) (sl L : Nat) (R : ZM → Option ZV → Prop) : Prop := Eo d (fun H n => zrunF H zc_X5_init 38 n (I, J, Q, 40, sl, L) 17 [zR 25 38] [] [1]) R
def B_X5_38_25 (d : Nat) (I : Nat → Nat → Int32) (J : Nat → Nat → Int64) (Q : Nat → Nat → Nat) (sl L : Nat) (R : ZM → Option ZV → Prop) : Prop := Eo d (fun H n => zrunF H zc_X5_init 38 n (I, J, Q, 41, sl, L) 25 [zR 25 38] [] [2, 1]) R
set_option maxRecDepth 100000 in
theorem b_X5_38_0 {d : Nat} {I : Nat → Nat → Int32} {J : Nat → Nat → Int64} {Q : Nat → Nat → Nat} {sl L : Nat} {R : ZM → Option ZV → Prop} (h : B_X5_38_9 d (zu I 38 0 0) J Q sl L R) : B_X5_38_0 d I J Q sl L R := eo_shift 5 (fun _ _ => rfl) h
set_option maxRecDepth 100000 in
theorem b_X5_38_9 {d : Nat} {I : Nat → Nat → Int32} {J : Nat → Nat → Int64} {Q : Nat → Nat → Nat} {sl L : Nat} {R : ZM → Option ZV → Prop} (h : B_X5_38_17 d (zfill I 39 0) (zfill J 39 0) Q (sl + zn (8 : Int32)) L R) : B_X5_38_9 d I J Q sl L R := eo_shift 4 (fun _ _ => rfl) h
set_option maxRecDepth 100000 in
theorem b_X5_38_17 {d : Nat} {I : Nat → Nat → Int32} {J : Nat → Nat → Int64} {Q : Nat → Nat → Nat} {sl L : Nat} {R : ZM → Option ZV → Prop} (h : B_X5_38_25 d (zfill I 40 0) (zfill J 40 0) Q (sl + zn (8 : Int32)) L R) : B_X5_38_17 d I J Q sl L R := eo_shift 4 (fun _ _ => rfl) h
set_option maxRecDepth 100000 in
theorem b_X5_38_25 {d : Nat} {I : Nat → Nat → Int32} {J : Nat → Nat → Int64} {Q : Nat → Nat → Nat} {sl L : Nat} {R : ZM → Option ZV → Prop} (h : R (I, J, Q, 41, sl, L) none) : B_X5_38_25 d I J Q sl L R := eo_shift 1 (g := fun _ _ => some ((I, J, Q, 41, sl, L), none)) (fun _ _ => rfl) (eo_ret h)
theorem k_X5_38 {d : Nat} {I : Nat → Nat → Int32} {J : Nat → Nat → Int64} {Q : Nat → Nat → Nat} {sl L : Nat} : Rt (d + 1) 41 [zR 25 38] (I, J, Q, 39, sl, L) ((zfill (zfill (zu I 38 0 0) 39 0) 40 0), (zfill (zfill J 39 0) 40 0), Q, 41, ((sl + zn (8 : Int32)) + zn (8 : Int32)), L) none := ro_rt (ro_of rfl (b_X5_38_0 (b_X5_38_9 (b_X5_38_17 (b_X5_38_25 ⟨rfl, rfl⟩)))))
def B_X5_41_0 (d : Nat) (I : Nat → Nat → Int32) (J : Nat → Nat → Int64) (Q : Nat → Nat → Nat) (sl L : Nat) (R : ZM → Option ZV → Prop) : Prop := Eo d (fun H n => zrunF H zc_X5_init 41 n (I, J, Q, 42, sl, L) 0 [zR 25 41] [] []) R
def B_X5_41_9 (d : Nat) (I : Nat → Nat → Int32) (J : Nat → Nat → Int64) (Q : Nat → Nat → Nat) (sl L : Nat) (R : ZM → Option ZV → Prop) : Prop := Eo d (fun H n => zrunF H zc_X5_init 41 n (I, J, Q, 42, sl, L) 9 [zR 25 41] [] []) R
def B_X5_41_17 (d : Nat) (I : Nat → Nat → Int32) (J : Nat → Nat → Int64) (Q : Nat → Nat → Nat) (sl L : Nat) (R : ZM → Option ZV → Prop) : Prop := Eo d (fun H n => zrunF H zc_X5_init 41 n (I, J, Q, 43, sl, L) 17 [zR 25 41] [] [1]) R
def B_X5_41_25 (d : Nat) (I : Nat → Nat → Int32) (J : Nat → Nat → Int64) (Q : Nat → Nat → Nat) (sl L : Nat) (R : ZM → Option ZV → Prop) : Prop := Eo d (fun H n => zrunF H zc_X5_init 41 n (I, J, Q, 44, sl, L) 25 [zR 25 41] [] [2, 1]) R
set_option maxRecDepth 100000 in
theorem b_X5_41_0 {d : Nat} {I : Nat → Nat → Int32} {J : Nat → Nat → Int64} {Q : Nat → Nat → Nat} {sl L : Nat} {R : ZM → Option ZV → Prop} (h : B_X5_41_9 d (zu I 41 0 0) J Q sl L R) : B_X5_41_0 d I J Q sl L R := eo_shift 5 (fun _ _ => rfl) h
set_option maxRecDepth 100000 in
theorem b_X5_41_9 {d : Nat} {I : Nat → Nat → Int32} {J : Nat → Nat → Int64} {Q : Nat → Nat → Nat} {sl L : Nat} {R : ZM → Option ZV → Prop} (h : B_X5_41_17 d (zfill I 42 0) (zfill J 42 0) Q (sl + zn (8 : Int32)) L R) : B_X5_41_9 d I J Q sl L R := eo_shift 4 (fun _ _ => rfl) h
set_option maxRecDepth 100000 in
theorem b_X5_41_17 {d : Nat} {I : Nat → Nat → Int32} {J : Nat → Nat → Int64} {Q : Nat → Nat → Nat} {sl L : Nat} {R : ZM → Option ZV → Prop} (h : B_X5_41_25 d (zfill I 43 0) (zfill J 43 0) Q (sl + zn (8 : Int32)) L R) : B_X5_41_17 d I J Q sl L R := eo_shift 4 (fun _ _ => rfl) h
set_option maxRecDepth 100000 in
theorem b_X5_41_25 {d : Nat} {I : Nat → Nat → Int32} {J : Nat → Nat → Int64} {Q : Nat → Nat → Nat} {sl L : Nat} {R : ZM → Option ZV → Prop} (h : R (I, J, Q, 44, sl, L) none) : B_X5_41_25 d I J Q sl L R := eo_shift 1 (g := fun _ _ => some ((I, J, Q, 44, sl, L), none)) (fun _ _ => rfl) (eo_ret h)
theorem k_X5_41 {d : Nat} {I : Nat → Nat → Int32} {J : Nat → Nat → Int64} {Q : Nat → Nat → Nat} {sl L : Nat} : Rt (d + 1) 41 [zR 25 41] (I, J, Q, 42, sl, L) ((zfill (zfill (zu I 41 0 0) 42 0) 43 0), (zfill (zfill J 42 0) 43 0), Q, 44, ((sl + zn (8 : Int32)) + zn (8 : Int32)), L) none := ro_rt (ro_of rfl (b_X5_41_0 (b_X5_41_9 (b_X5_41_17 (b_X5_41_25 ⟨rfl, rfl⟩)))))
def B_X2_44_0 (d : Nat) (I : Nat → Nat → Int32) (J : Nat → Nat → Int64) (Q : Nat → Nat → Nat) (sl L : Nat) (R : ZM → Option ZV → Prop) : Prop := Eo d (fun H n => zrunF H zc_X2_init 44 n (I, J, Q, 45, sl, L) 0 [zR 22 44] [] []) R
def B_X2_44_9 (d : Nat) (I : Nat → Nat → Int32) (J : Nat → Nat → Int64) (Q : Nat → Nat → Nat) (sl L : Nat) (R : ZM → Option ZV → Prop) : Prop := Eo d (fun H n => zrunF H zc_X2_init 44 n (I, J, Q, 45, sl, L) 9 [zR 22 44] [] []) R
def B_X2_44_17 (d : Nat) (I : Nat → Nat → Int32) (J : Nat → Nat → Int64) (Q : Nat → Nat → Nat) (sl L : Nat) (R : ZM → Option ZV → Prop) : Prop := Eo d (fun H n => zrunF H zc_X2_init 44 n (I, J, Q, 46, sl, L) 17 [zR 22 44] [] [1]) R
set_option maxRecDepth 100000 in
theorem b_X2_44_0 {d : Nat} {I : Nat → Nat → Int32} {J : Nat → Nat → Int64} {Q : Nat → Nat → Nat} {sl L : Nat} {R : ZM → Option ZV → Prop} (h : B_X2_44_9 d (zu I 44 0 0) J Q sl L R) : B_X2_44_0 d I J Q sl L R := eo_shift 5 (fun _ _ => rfl) h
set_option maxRecDepth 100000 in
theorem b_X2_44_9 {d : Nat} {I : Nat → Nat → Int32} {J : Nat → Nat → Int64} {Q : Nat → Nat → Nat} {sl L : Nat} {R : ZM → Option ZV → Prop} (h : B_X2_44_17 d (zfill I 45 0) (zfill J 45 0) Q (sl + zn (12 : Int32)) L R) : B_X2_44_9 d I J Q sl L R := eo_shift 4 (fun _ _ => rfl) h
set_option maxRecDepth 100000 in
theorem b_X2_44_17 {d : Nat} {I : Nat → Nat → Int32} {J : Nat → Nat → Int64} {Q : Nat → Nat → Nat} {sl L : Nat} {R : ZM → Option ZV → Prop} (h : R (I, J, Q, 46, sl, L) none) : B_X2_44_17 d I J Q sl L R := eo_shift 1 (g := fun _ _ => some ((I, J, Q, 46, sl, L), none)) (fun _ _ => rfl) (eo_ret h)
theorem k_X2_44 {d : Nat} {I : Nat → Nat → Int32} {J : Nat → Nat → Int64} {Q : Nat → Nat → Nat} {sl L : Nat} : Rt (d + 1) 14 [zR 22 44] (I, J, Q, 45, sl, L) ((zfill (zu I 44 0 0) 45 0), (zfill J 45 0), Q, 46, (sl + zn (12 : Int32)), L) none := ro_rt (ro_of rfl (b_X2_44_0 (b_X2_44_9 (b_X2_44_17 ⟨rfl, rfl⟩))))
def B_X2_46_0 (d : Nat) (I : Nat → Nat → Int32) (J : Nat → Nat → Int64) (Q : Nat → Nat → Nat) (sl L : Nat) (R : ZM → Option ZV → Prop) : Prop := Eo d (fun H n => zrunF H zc_X2_init 46 n (I, J, Q, 47, sl, L) 0 [zR 22 46] [] []) R
def B_X2_46_9 (d : Nat) (I : Nat → Nat → Int32) (J : Nat → Nat → Int64) (Q : Nat → Nat → Nat) (sl L : Nat) (R : ZM → Option ZV → Prop) : Prop := Eo d (fun H n => zrunF H zc_X2_init 46 n (I, J, Q, 47, sl, L) 9 [zR 22 46] [] []) R
def B_X2_46_17 (d : Nat) (I : Nat → Nat → Int32) (J : Nat → Nat → Int64) (Q : Nat → Nat → Nat) (sl L : Nat) (R : ZM → Option ZV → Prop) : Prop := Eo d (fun H n => zrunF H zc_X2_init 46 n (I, J, Q, 48, sl, L) 17 [zR 22 46] [] [1]) R
set_option maxRecDepth 100000 in
theorem b_X2_46_0 {d : Nat} {I : Nat → Nat → Int32} {J : Nat → Nat → Int64} {Q : Nat → Nat → Nat} {sl L : Nat} {R : ZM → Option ZV → Prop} (h : B_X2_46_9 d (zu I 46 0 0) J Q sl L R) : B_X2_46_0 d I J Q sl L R := eo_shift 5 (fun _ _ => rfl) h
set_option maxRecDepth 100000 in
theorem b_X2_46_9 {d : Nat} {I : Nat → Nat → Int32} {J : Nat → Nat → Int64} {Q : Nat → Nat → Nat} {sl L : Nat} {R : ZM → Option ZV → Prop} (h : B_X2_46_17 d (zfill I 47 0) (zfill J 47 0) Q (sl + zn (12 : Int32)) L R) : B_X2_46_9 d I J Q sl L R := eo_shift 4 (fun _ _ => rfl) h
set_option maxRecDepth 100000 in
theorem b_X2_46_17 {d : Nat} {I : Nat → Nat → Int32} {J : Nat → Nat → Int64} {Q : Nat → Nat → Nat} {sl L : Nat} {R : ZM → Option ZV → Prop} (h : R (I, J, Q, 48, sl, L) none) : B_X2_46_17 d I J Q sl L R := eo_shift 1 (g := fun _ _ => some ((I, J, Q, 48, sl, L), none)) (fun _ _ => rfl) (eo_ret h)
theorem k_X2_46 {d : Nat} {I : Nat → Nat → Int32} {J : Nat → Nat → Int64} {Q : Nat → Nat → Nat} {sl L : Nat} : Rt (d + 1) 14 [zR 22 46] (I, J, Q, 47, sl, L) ((zfill (zu I 46 0 0) 47 0), (zfill J 47 0), Q, 48, (sl + zn (12 : Int32)), L) none := ro_rt (ro_of rfl (b_X2_46_0 (b_X2_46_9 (b_X2_46_17 ⟨rfl, rfl⟩))))
def B_X4_48_0 (d : Nat) (I : Nat → Nat → Int32) (J : Nat → Nat → Int64) (Q : Nat → Nat → Nat) (sl L : Nat) (R : ZM → Option ZV → Prop) : Prop := Eo d (fun H n => zrunF H zc_X4_init 48 n (I, J, Q, 49, sl, L) 0 [zR 24 48] [] []) R
def B_X4_48_9 (d : Nat) (I : Nat → Nat → Int32) (J : Nat → Nat → Int64) (Q : Nat → Nat → Nat) (sl L : Nat) (R : ZM → Option ZV → Prop) : Prop := Eo d (fun H n => zrunF H zc_X4_init 48 n (I, J, Q, 49, sl, L) 9 [zR 24 48] [] []) R
def B_X4_48_17 (d : Nat) (I : Nat → Nat → Int32) (J : Nat → Nat → Int64) (Q : Nat → Nat → Nat) (sl L : Nat) (R : ZM → Option ZV → Prop) : Prop := Eo d (fun H n => zrunF H zc_X4_init 48 n (I, J, Q, 50, sl, L) 17 [zR 24 48] [] [1]) R
def B_X4_48_22 (d : Nat) (I : Nat → Nat → Int32) (J : Nat → Nat → Int64) (Q : Nat → Nat → Nat) (sl L : Nat) (R : ZM → Option ZV → Prop) : Prop := Eo d (fun H n => zrunF H zc_X4_init 48 n (I, J, Q, 50, sl, L) 22 [zR 24 48] [] [1]) R
set_option maxRecDepth 100000 in
theorem b_X4_48_0 {d : Nat} {I : Nat → Nat → Int32} {J : Nat → Nat → Int64} {Q : Nat → Nat → Nat} {sl L : Nat} {R : ZM → Option ZV → Prop} (h : B_X4_48_9 d (zu I 48 0 0) J Q sl L R) : B_X4_48_0 d I J Q sl L R := eo_shift 5 (fun _ _ => rfl) h
set_option maxRecDepth 100000 in
theorem b_X4_48_9 {d : Nat} {I : Nat → Nat → Int32} {J : Nat → Nat → Int64} {Q : Nat → Nat → Nat} {sl L : Nat} {R : ZM → Option ZV → Prop} (h : B_X4_48_17 d (zfill I 49 0) (zfill J 49 0) Q (sl + zn (100 : Int32)) L R) : B_X4_48_9 d I J Q sl L R := eo_shift 4 (fun _ _ => rfl) h
set_option maxRecDepth 100000 in
theorem b_X4_48_17 {d : Nat} {I : Nat → Nat → Int32} {J : Nat → Nat → Int64} {Q : Nat → Nat → Nat} {sl L : Nat} {R : ZM → Option ZV → Prop} (h : B_X4_48_22 d (zu I 48 2 0) J Q sl L R) : B_X4_48_17 d I J Q sl L R := eo_shift 3 (fun _ _ => rfl) h
set_option maxRecDepth 100000 in
theorem b_X4_48_22 {d : Nat} {I : Nat → Nat → Int32} {J : Nat → Nat → Int64} {Q : Nat → Nat → Nat} {sl L : Nat} {R : ZM → Option ZV → Prop} (h : R (I, J, Q, 50, sl, L) none) : B_X4_48_22 d I J Q sl L R := eo_shift 1 (g := fun _ _ => some ((I, J, Q, 50, sl, L), none)) (fun _ _ => rfl) (eo_ret h)
theorem k_X4_48 {d : Nat} {I : Nat → Nat → Int32} {J : Nat → Nat → Int64} {Q : Nat → Nat → Nat} {sl L : Nat} : Rt (d + 1) 27 [zR 24 48] (I, J, Q, 49, sl, L) ((zu (zfill (zu I 48 0 0) 49 0) 48 2 0), (zfill J 49 0), Q, 50, (sl + zn (100 : Int32)), L) none := ro_rt (ro_of rfl (b_X4_48_0 (b_X4_48_9 (b_X4_48_17 (b_X4_48_22 ⟨rfl, rfl⟩)))))
def B_X1_50_0 (d : Nat) (I : Nat → Nat → Int32) (J : Nat → Nat → Int64) (Q : Nat → Nat → Nat) (sl L : Nat) (R : ZM → Option ZV → Prop) : Prop := Eo d (fun H n => zrunF H zc_X1_init 50 n (I, J, Q, 51, sl, L) 0 [zR 21 50] [] []) R
def B_X1_50_12 (d : Nat) (I : Nat → Nat → Int32) (J : Nat → Nat → Int64) (Q : Nat → Nat → Nat) (sl L : Nat) (R : ZM → Option ZV → Prop) : Prop := Eo d (fun H n => zrunF H zc_X1_init 50 n (I, J, Q, 52, sl, L) 12 [zR 21 50] [] [0]) R
def B_X1_50_20 (d : Nat) (I : Nat → Nat → Int32) (J : Nat → Nat → Int64) (Q : Nat → Nat → Nat) (sl L : Nat) (R : ZM → Option ZV → Prop) : Prop := Eo d (fun H n => zrunF H zc_X1_init 50 n (I, J, Q, 53, sl, L) 20 [zR 21 50] [] [1, 0]) R
def B_X1_50_29 (d : Nat) (I : Nat → Nat → Int32) (J : Nat → Nat → Int64) (Q : Nat → Nat → Nat) (sl L : Nat) (R : ZM → Option ZV → Prop) : Prop := Eo d (fun H n => zrunF H zc_X1_init 50 n (I, J, Q, 54, sl, L) 29 [zR 21 50] [] [2, 1, 0]) R
set_option maxRecDepth 100000 in
theorem b_X1_50_0 {d : Nat} {I : Nat → Nat → Int32} {J : Nat → Nat → Int64} {Q : Nat → Nat → Nat} {sl L : Nat} {R : ZM → Option ZV → Prop} (h : B_X1_50_12 d (zfill I 51 0) (zfill J 51 0) Q (sl + zn (42 : Int32)) L R) : B_X1_50_0 d I J Q sl L R := eo_shift 6 (fun _ _ => rfl) h
set_option maxRecDepth 100000 in
theorem b_X1_50_12 {d : Nat} {I : Nat → Nat → Int32} {J : Nat → Nat → Int64} {Q : Nat → Nat → Nat} {sl L : Nat} {R : ZM → Option ZV → Prop} (h : B_X1_50_20 d (zfill I 52 0) (zfill J 52 0) Q (sl + zn (42 : Int32)) L R) : B_X1_50_12 d I J Q sl L R := eo_shift 4 (fun _ _ => rfl) h
set_option maxRecDepth 100000 in
theorem b_X1_50_20 {d : Nat} {I : Nat → Nat → Int32} {J : Nat → Nat → Int64} {Q : Nat → Nat → Nat} {sl L : Nat} {R : ZM → Option ZV → Prop} (h : B_X1_50_29 d (zfill I 53 0) (zfill J 53 0) Q (sl + zn (448 : Int32)) L R) : B_X1_50_20 d I J Q sl L R := eo_shift 4 (fun _ _ => rfl) h
set_option maxRecDepth 100000 in
theorem b_X1_50_29 {d : Nat} {I : Nat → Nat → Int32} {J : Nat → Nat → Int64} {Q : Nat → Nat → Nat} {sl L : Nat} {R : ZM → Option ZV → Prop} (h : R (I, J, Q, 54, sl, L) none) : B_X1_50_29 d I J Q sl L R := eo_shift 1 (g := fun _ _ => some ((I, J, Q, 54, sl, L), none)) (fun _ _ => rfl) (eo_ret h)
theorem k_X1_50 {d : Nat} {I : Nat → Nat → Int32} {J : Nat → Nat → Int64} {Q : Nat → Nat → Nat} {sl L : Nat} : Rt (d + 1) 6 [zR 21 50] (I, J, Q, 51, sl, L) ((zfill (zfill (zfill I 51 0) 52 0) 53 0), (zfill (zfill (zfill J 51 0) 52 0) 53 0), Q, 54, (((sl + zn (42 : Int32)) + zn (42 : Int32)) + zn (448 : Int32)), L) none := ro_rt (ro_of rfl (b_X1_50_0 (b_X1_50_12 (b_X1_50_20 (b_X1_50_29 ⟨rfl, rfl⟩)))))
def B_X0_54_0 (d : Nat) (I : Nat → Nat → Int32) (J : Nat → Nat → Int64) (Q : Nat → Nat → Nat) (sl L : Nat) (R : ZM → Option ZV → Prop) : Prop := Eo d (fun H n => zrunF H zc_X0_init 54 n (I, J, Q, 55, sl, L) 0 [zR 20 54] [] []) R
def B_X0_54_9 (d : Nat) (I : Nat → Nat → Int32) (J : Nat → Nat → Int64) (Q : Nat → Nat → Nat) (sl L : Nat) (R : ZM → Option ZV → Prop) : Prop := Eo d (fun H n => zrunF H zc_X0_init 54 n (I, J, Q, 55, sl, L) 9 [zR 20 54] [] []) R
def B_X0_54_17 (d : Nat) (I : Nat → Nat → Int32) (J : Nat → Nat → Int64) (Q : Nat → Nat → Nat) (sl L : Nat) (R : ZM → Option ZV → Prop) : Prop := Eo d (fun H n => zrunF H zc_X0_init 54 n (I, J, Q, 56, sl, L) 17 [zR 20 54] [] [1]) R
def B_X0_54_22 (d : Nat) (I : Nat → Nat → Int32) (J : Nat → Nat → Int64) (Q : Nat → Nat → Nat) (sl L : Nat) (R : ZM → Option ZV → Prop) : Prop := Eo d (fun H n => zrunF H zc_X0_init 54 n (I, J, Q, 56, sl, L) 22 [zR 20 54] [] [1]) R
def B_X0_54_27 (d : Nat) (I : Nat → Nat → Int32) (J : Nat → Nat → Int64) (Q : Nat → Nat → Nat) (sl L : Nat) (R : ZM → Option ZV → Prop) : Prop := Eo d (fun H n => zrunF H zc_X0_init 54 n (I, J, Q, 56, sl, L) 27 [zR 20 54] [] [1]) R
def B_X0_54_32 (d : Nat) (I : Nat → Nat → Int32) (J : Nat → Nat → Int64) (Q : Nat → Nat → Nat) (sl L : Nat) (R : ZM → Option ZV → Prop) : Prop := Eo d (fun H n => zrunF H zc_X0_init 54 n (I, J, Q, 56, sl, L) 32 [zR 20 54] [] [1]) R
set_option maxRecDepth 100000 in
theorem b_X0_54_0 {d : Nat} {I : Nat → Nat → Int32} {J : Nat → Nat → Int64} {Q : Nat → Nat → Nat} {sl L : Nat} {R : ZM → Option ZV → Prop} (h : B_X0_54_9 d (zu I 54 0 0) J Q sl L R) : B_X0_54_0 d I J Q sl L R := eo_shift 5 (fun _ _ => rfl) h
set_option maxRecDepth 100000 in
theorem b_X0_54_9 {d : Nat} {I : Nat → Nat → Int32} {J : Nat → Nat → Int64} {Q : Nat → Nat → Nat} {sl L : Nat} {R : ZM → Option ZV → Prop} (h : B_X0_54_17 d (zfill I 55 0) (zfill J 55 0) Q (sl + zn (20 : Int32)) L R) : B_X0_54_9 d I J Q sl L R := eo_shift 4 (fun _ _ => rfl) h
set_option maxRecDepth 100000 in
theorem b_X0_54_17 {d : Nat} {I : Nat → Nat → Int32} {J : Nat → Nat → Int64} {Q : Nat → Nat → Nat} {sl L : Nat} {R : ZM → Option ZV → Prop} (h : B_X0_54_22 d (zu I 54 2 0) J Q sl L R) : B_X0_54_17 d I J Q sl L R := eo_shift 3 (fun _ _ => rfl) h
set_option maxRecDepth 100000 in
theorem b_X0_54_22 {d : Nat} {I : Nat → Nat → Int32} {J : Nat → Nat → Int64} {Q : Nat → Nat → Nat} {sl L : Nat} {R : ZM → Option ZV → Prop} (h : B_X0_54_27 d (zu I 54 3 0) J Q sl L R) : B_X0_54_22 d I J Q sl L R := eo_shift 3 (fun _ _ => rfl) h
set_option maxRecDepth 100000 in
theorem b_X0_54_27 {d : Nat} {I : Nat → Nat → Int32} {J : Nat → Nat → Int64} {Q : Nat → Nat → Nat} {sl L : Nat} {R : ZM → Option ZV → Prop} (h : B_X0_54_32 d (zu I 54 4 0) J Q sl L R) : B_X0_54_27 d I J Q sl L R := eo_shift 3 (fun _ _ => rfl) h
set_option maxRecDepth 100000 in
theorem b_X0_54_32 {d : Nat} {I : Nat → Nat → Int32} {J : Nat → Nat → Int64} {Q : Nat → Nat → Nat} {sl L : Nat} {R : ZM → Option ZV → Prop} (h : R (I, J, Q, 56, sl, L) none) : B_X0_54_32 d I J Q sl L R := eo_shift 1 (g := fun _ _ => some ((I, J, Q, 56, sl, L), none)) (fun _ _ => rfl) (eo_ret h)
theorem k_X0_54 {d : Nat} {I : Nat → Nat → Int32} {J : Nat → Nat → Int64} {Q : Nat → Nat → Nat} {sl L : Nat} : Rt (d + 1) 0 [zR 20 54] (I, J, Q, 55, sl, L) ((zu (zu (zu (zfill (zu I 54 0 0) 55 0) 54 2 0) 54 3 0) 54 4 0), (zfill J 55 0), Q, 56, (sl + zn (20 : Int32)), L) none := ro_rt (ro_of rfl (b_X0_54_0 (b_X0_54_9 (b_X0_54_17 (b_X0_54_22 (b_X0_54_27 (b_X0_54_32 ⟨rfl, rfl⟩)))))))
def B_X6_56_0 (d : Nat) (I : Nat → Nat → Int32) (J : Nat → Nat → Int64) (Q : Nat → Nat → Nat) (sl L : Nat) (R : ZM → Option ZV → Prop) : Prop := Eo d (fun H n => zrunF H zc_X6_init 56 n (I, J, Q, 57, sl, L) 0 [zR 26 56] [] []) R
def B_X6_56_36 (d : Nat) (I : Nat → Nat → Int32) (J : Nat → Nat → Int64) (Q : Nat → Nat → Nat) (sl L : Nat) (R : ZM → Option ZV → Prop) : Prop := Eo d (fun H n => zrunF H zc_X6_init 56 n (I, J, Q, 58, sl, L) 36 [zR 26 56] [] [0]) R
def B_X6_56_44 (d : Nat) (I : Nat → Nat → Int32) (J : Nat → Nat → Int64) (Q : Nat → Nat → Nat) (sl L : Nat) (R : ZM → Option ZV → Prop) : Prop := Eo d (fun H n => zrunF H zc_X6_init 56 n (I, J, Q, 59, sl, L) 44 [zR 26 56] [] [1, 0]) R
def B_X6_56_53 (d : Nat) (I : Nat → Nat → Int32) (J : Nat → Nat → Int64) (Q : Nat → Nat → Nat) (sl L : Nat) (R : ZM → Option ZV → Prop) : Prop := Eo d (fun H n => zrunF H zc_X6_init 56 n (I, J, Q, 60, sl, L) 53 [zR 26 56] [] [2, 1, 0]) R
set_option maxRecDepth 100000 in
theorem b_X6_56_0 {d : Nat} {I : Nat → Nat → Int32} {J : Nat → Nat → Int64} {Q : Nat → Nat → Nat} {sl L : Nat} {R : ZM → Option ZV → Prop} (h : B_X6_56_36 d (zu (zu (zu (zu (zu (zu (zfill I 57 0) 57 0 (-1)) 57 1 (-1)) 57 2 (-1)) 57 3 (-1)) 57 4 (-1)) 57 5 (-1)) (zfill J 57 0) Q (sl + zn (6 : Int32)) L R) : B_X6_56_0 d I J Q sl L R := eo_shift 30 (fun _ _ => rfl) h
set_option maxRecDepth 100000 in
theorem b_X6_56_36 {d : Nat} {I : Nat → Nat → Int32} {J : Nat → Nat → Int64} {Q : Nat → Nat → Nat} {sl L : Nat} {R : ZM → Option ZV → Prop} (h : B_X6_56_44 d (zfill I 58 0) (zfill J 58 0) Q (sl + zn (6 : Int32)) L R) : B_X6_56_36 d I J Q sl L R := eo_shift 4 (fun _ _ => rfl) h
set_option maxRecDepth 100000 in
theorem b_X6_56_44 {d : Nat} {I : Nat → Nat → Int32} {J : Nat → Nat → Int64} {Q : Nat → Nat → Nat} {sl L : Nat} {R : ZM → Option ZV → Prop} (h : B_X6_56_53 d (zfill I 59 0) (zfill J 59 0) Q (sl + zn (360 : Int32)) L R) : B_X6_56_44 d I J Q sl L R := eo_shift 4 (fun _ _ => rfl) h
set_option maxRecDepth 100000 in
theorem b_X6_56_53 {d : Nat} {I : Nat → Nat → Int32} {J : Nat → Nat → Int64} {Q : Nat → Nat → Nat} {sl L : Nat} {R : ZM → Option ZV → Prop} (h : R (I, J, Q, 60, sl, L) none) : B_X6_56_53 d I J Q sl L R := eo_shift 1 (g := fun _ _ => some ((I, J, Q, 60, sl, L), none)) (fun _ _ => rfl) (eo_ret h)
theorem k_X6_56 {d : Nat} {I : Nat → Nat → Int32} {J : Nat → Nat → Int64} {Q : Nat → Nat → Nat} {sl L : Nat} : Rt (d + 1) 48 [zR 26 56] (I, J, Q, 57, sl, L) ((zfill (zfill (zu (zu (zu (zu (zu (zu (zfill I 57 0) 57 0 (-1)) 57 1 (-1)) 57 2 (-1)) 57 3 (-1)) 57 4 (-1)) 57 5 (-1)) 58 0) 59 0), (zfill (zfill (zfill J 57 0) 58 0) 59 0), Q, 60, (((sl + zn (6 : Int32)) + zn (6 : Int32)) + zn (360 : Int32)), L) none := ro_rt (ro_of rfl (b_X6_56_0 (b_X6_56_36 (b_X6_56_44 (b_X6_56_53 ⟨rfl, rfl⟩)))))
def B_X3_60_0 (d : Nat) (I : Nat → Nat → Int32) (J : Nat → Nat → Int64) (Q : Nat → Nat → Nat) (sl L : Nat) (R : ZM → Option ZV → Prop) : Prop := Eo d (fun H n => zrunF H zc_X3_init 60 n (I, J, Q, 61, sl, L) 0 [zR 23 60] [] []) R
def B_X3_60_9 (d : Nat) (I : Nat → Nat → Int32) (J : Nat → Nat → Int64) (Q : Nat → Nat → Nat) (sl L : Nat) (R : ZM → Option ZV → Prop) : Prop := Eo d (fun H n => zrunF H zc_X3_init 60 n (I, J, Q, 61, sl, L) 9 [zR 23 60] [] []) R
def B_X3_60_14 (d : Nat) (I : Nat → Nat → Int32) (J : Nat → Nat → Int64) (Q : Nat → Nat → Nat) (sl L : Nat) (R : ZM → Option ZV → Prop) : Prop := Eo d (fun H n => zrunF H zc_X3_init 60 n (I, J, Q, 61, sl, L) 14 [zR 23 60] [] []) R
def B_X3_60_22 (d : Nat) (I : Nat → Nat → Int32) (J : Nat → Nat → Int64) (Q : Nat → Nat → Nat) (sl L : Nat) (R : ZM → Option ZV → Prop) : Prop := Eo d (fun H n => zrunF H zc_X3_init 60 n (I, J, Q, 62, sl, L) 22 [zR 23 60] [] [2]) R
def B_X3_60_30 (d : Nat) (I : Nat → Nat → Int32) (J : Nat → Nat → Int64) (Q : Nat → Nat → Nat) (sl L : Nat) (R : ZM → Option ZV → Prop) : Prop := Eo d (fun H n => zrunF H zc_X3_init 60 n (I, J, Q, 63, sl, L) 30 [zR 23 60] [] [3, 2]) R
def B_X3_60_35 (d : Nat) (I : Nat → Nat → Int32) (J : Nat → Nat → Int64) (Q : Nat → Nat → Nat) (sl L : Nat) (R : ZM → Option ZV → Prop) : Prop := Eo d (fun H n => zrunF H zc_X3_init 60 n (I, J, Q, 63, sl, L) 35 [zR 23 60] [] [3, 2]) R
def B_X3_60_43 (d : Nat) (I : Nat → Nat → Int32) (J : Nat → Nat → Int64) (Q : Nat → Nat → Nat) (sl L : Nat) (R : ZM → Option ZV → Prop) : Prop := Eo d (fun H n => zrunF H zc_X3_init 60 n (I, J, Q, 64, sl, L) 43 [zR 23 60] [] [5, 3, 2]) R
set_option maxRecDepth 100000 in
theorem b_X3_60_0 {d : Nat} {I : Nat → Nat → Int32} {J : Nat → Nat → Int64} {Q : Nat → Nat → Nat} {sl L : Nat} {R : ZM → Option ZV → Prop} (h : B_X3_60_9 d (zu I 60 0 0) J Q sl L R) : B_X3_60_0 d I J Q sl L R := eo_shift 5 (fun _ _ => rfl) h
set_option maxRecDepth 100000 in
theorem b_X3_60_9 {d : Nat} {I : Nat → Nat → Int32} {J : Nat → Nat → Int64} {Q : Nat → Nat → Nat} {sl L : Nat} {R : ZM → Option ZV → Prop} (h : B_X3_60_14 d (zu I 60 1 0) J Q sl L R) : B_X3_60_9 d I J Q sl L R := eo_shift 3 (fun _ _ => rfl) h
set_option maxRecDepth 100000 in
theorem b_X3_60_14 {d : Nat} {I : Nat → Nat → Int32} {J : Nat → Nat → Int64} {Q : Nat → Nat → Nat} {sl L : Nat} {R : ZM → Option ZV → Prop} (h : B_X3_60_22 d (zfill I 61 0) (zfill J 61 0) Q (sl + zn (10 : Int32)) L R) : B_X3_60_14 d I J Q sl L R := eo_shift 4 (fun _ _ => rfl) h
set_option maxRecDepth 100000 in
theorem b_X3_60_22 {d : Nat} {I : Nat → Nat → Int32} {J : Nat → Nat → Int64} {Q : Nat → Nat → Nat} {sl L : Nat} {R : ZM → Option ZV → Prop} (h : B_X3_60_30 d (zfill I 62 0) (zfill J 62 0) Q (sl + zn (10 : Int32)) L R) : B_X3_60_22 d I J Q sl L R := eo_shift 4 (fun _ _ => rfl) h
set_option maxRecDepth 100000 in
theorem b_X3_60_30 {d : Nat} {I : Nat → Nat → Int32} {J : Nat → Nat → Int64} {Q : Nat → Nat → Nat} {sl L : Nat} {R : ZM → Option ZV → Prop} (h : B_X3_60_35 d (zu I 60 4 0) J Q sl L R) : B_X3_60_30 d I J Q sl L R := eo_shift 3 (fun _ _ => rfl) h
set_option maxRecDepth 100000 in
theorem b_X3_60_35 {d : Nat} {I : Nat → Nat → Int32} {J : Nat → Nat → Int64} {Q : Nat → Nat → Nat} {sl L : Nat} {R : ZM → Option ZV → Prop} (h : B_X3_60_43 d (zfill I 63 0) (zfill J 63 0) Q (sl + zn (100 : Int32)) L R) : B_X3_60_35 d I J Q sl L R := eo_shift 4 (fun _ _ => rfl) h
set_option maxRecDepth 100000 in
theorem b_X3_60_43 {d : Nat} {I : Nat → Nat → Int32} {J : Nat → Nat → Int64} {Q : Nat → Nat → Nat} {sl L : Nat} {R : ZM → Option ZV → Prop} (h : R (I, J, Q, 64, sl, L) none) : B_X3_60_43 d I J Q sl L R := eo_shift 1 (g := fun _ _ => some ((I, J, Q, 64, sl, L), none)) (fun _ _ => rfl) (eo_ret h)
theorem k_X3_60 {d : Nat} {I : Nat → Nat → Int32} {J : Nat → Nat → Int64} {Q : Nat → Nat → Nat} {sl L : Nat} : Rt (d + 1) 19 [zR 23 60] (I, J, Q, 61, sl, L) ((zfill (zu (zfill (zfill (zu (zu I 60 0 0) 60 1 0) 61 0) 62 0) 60 4 0) 63 0), (zfill (zfill (zfill J 61 0) 62 0) 63 0), Q, 64, (((sl + zn (10 : Int32)) + zn (10 : Int32)) + zn (100 : Int32)), L) none := ro_rt (ro_of rfl (b_X3_60_0 (b_X3_60_9 (b_X3_60_14 (b_X3_60_22 (b_X3_60_30 (b_X3_60_35 (b_X3_60_43 ⟨rfl, rfl⟩))))))))
