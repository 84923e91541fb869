/-! THE PURE MACHINE. Values: int, long, reference (tag, address). Tags: 0..9 an object of that class, 20 + c one that is being made, 100 + 4 * length + type an array (0 int, 1 long, 2 boolean), 10 a String constant, 11 SeatOn.ABOVE, 12 Acts.BODIES, 13 the script, 14 a static that is only carried, 15 a String constant's bytes, 99 nothing. Address 0 is null. -/
abbrev ZV : Type := Int32 ⊕ (Int64 ⊕ (Nat × Nat))
abbrev zI (x : Int32) : ZV := .inl x
abbrev zL (x : Int64) : ZV := .inr (.inl x)
abbrev zR (t a : Nat) : ZV := .inr (.inr (t, a))
abbrev zU : ZV := .inr (.inr (99, 0))
/-- ints, longs, references that may change, the next address, slots made, the script's length -/
abbrev ZM : Type := (Nat → Nat → Int32) × (Nat → Nat → Int64) × (Nat → Nat → Nat) × Nat × Nat × Nat
abbrev ZRes : Type := Option (ZM × Option ZV)
abbrev ZOp : Type := Nat × Nat × Nat × Nat × Nat × ZV × List (Int32 × Nat)
abbrev ZK : Type := ZM → Nat → List ZV → List ZV → List Nat → ZRes
abbrev ZH : Type := Nat → List ZV → ZM → ZRes
def zu {α : Type} (f : Nat → Nat → α) (a k : Nat) (v : α) : Nat → Nat → α := fun a' k' => bif Nat.beq a' a && Nat.beq k' k then v else f a' k'
def zfill {α : Type} (f : Nat → Nat → α) (a : Nat) (v : α) : Nat → Nat → α := fun a' k' => bif Nat.beq a' a then v else f a' k'
def zcp {α : Type} (f : Nat → Nat → α) (a sp b dp n : Nat) : Nat → Nat → α := fun a' k' => bif Nat.beq a' b && (Nat.ble dp k' && Nat.blt k' (dp + n)) then f a (sp + (k' - dp)) else f a' k'
abbrev zn (i : Int32) : Nat := i.toNatClampNeg
def zlen (t : Nat) : Nat := (t - 100) / 4
def zty (t : Nat) : Nat := (t - 100) % 4
-- operations: number, three numbers, the next place, a value, cases
def oNone : ZOp := (0, 0, 0, 0, 0, zU, [])
def oK (n : Nat) (v : ZV) : ZOp := (1, 0, 0, 0, n, v, [])
def oLoad (n i ty : Nat) : ZOp := (2, i, ty, 0, n, zU, [])
def oStore (n i ty : Nat) : ZOp := (3, i, ty, 0, n, zU, [])
def oInc (n i : Nat) (x : Int32) : ZOp := (4, i, 0, 0, n, zI x, [])
def oBin (n f : Nat) : ZOp := (5, f, 0, 0, n, zU, [])
def oDiv (n f : Nat) : ZOp := (6, f, 0, 0, n, zU, [])
def oUn (n f : Nat) : ZOp := (7, f, 0, 0, n, zU, [])
def oLBin (n f : Nat) : ZOp := (8, f, 0, 0, n, zU, [])
def oStk (n f : Nat) : ZOp := (9, f, 0, 0, n, zU, [])
def oCmp (n f t : Nat) : ZOp := (10, f, t, 0, n, zU, [])
def oIf (n f t : Nat) : ZOp := (11, f, t, 0, n, zU, [])
def oGoto (t : Nat) : ZOp := (12, 0, t, 0, 0, zU, [])
def oIfN (n t : Nat) : ZOp := (13, 0, t, 0, n, zU, [])
def oSw (d : Nat) (cs : List (Int32 × Nat)) : ZOp := (14, 0, d, 0, 0, zU, cs)
def oGet (n c kd k : Nat) (v : ZV) : ZOp := (15, c, kd, k, n, v, [])
def oPut (n c kd k : Nat) (v : ZV) : ZOp := (16, c, kd, k, n, v, [])
def oLen (n : Nat) : ZOp := (17, 0, 0, 0, n, zU, [])
def oALd (n f : Nat) : ZOp := (18, f, 0, 0, n, zU, [])
def oASt (n f : Nat) : ZOp := (19, f, 0, 0, n, zU, [])
def oNewA (n ty : Nat) : ZOp := (20, ty, 0, 0, n, zU, [])
def oNew (n c : Nat) : ZOp := (21, c, 0, 0, n, zU, [])
def oCall (n m ar kd c : Nat) : ZOp := (22, m, ar, kd, n, zR c 0, [])
def oCopy (n : Nat) : ZOp := (23, 0, 0, 0, n, zU, [])
def oMax (n : Nat) : ZOp := (26, 0, 0, 0, n, zU, [])
def oObj (n : Nat) : ZOp := (24, 0, 0, 0, n, zU, [])
def oRet (kd c : Nat) : ZOp := (25, kd, c, 0, 0, zU, [])
def zsLoad (i ty n : Nat) (M : ZM) (ls st : List ZV) (F : List Nat) (k : ZK) : ZRes :=
  match ty, ls[i]? with
  | 0, some (.inl x) => k M n ls (zI x :: st) F
  | 1, some (.inr (.inl x)) => k M n ls (zL x :: st) F
  | 2, some (.inr (.inr (t, a))) => bif Nat.beq t 99 || Nat.beq t 14 || Nat.beq a 0 then none else k M n ls (zR t a :: st) F
  | _, _ => none
/-- the half ahead of a place is nothing, if it held a long -/
def zclr (ls : List ZV) (i : Nat) : List ZV :=
  match i with
  | 0 => ls
  | j + 1 => match ls[j]? with
    | some (.inr (.inl _)) => ls.set j zU
    | _ => ls
def zsStore (i ty n : Nat) (M : ZM) (ls st : List ZV) (F : List Nat) (k : ZK) : ZRes :=
  match ty, st with
  | 0, .inl x :: r => bif Nat.blt i ls.length then k M n ((zclr ls i).set i (zI x)) r F else none
  | 1, .inr (.inl x) :: r => bif Nat.blt (i + 1) ls.length then k M n (((zclr ls i).set i (zL x)).set (i + 1) zU) r F else none
  | 2, .inr (.inr (t, a)) :: r => bif Nat.beq t 14 || Nat.beq a 0 then none else bif Nat.blt i ls.length then k M n ((zclr ls i).set i (zR t a)) r F else none
  | _, _ => none
def zsInc (i n : Nat) (v : ZV) (M : ZM) (ls st : List ZV) (F : List Nat) (k : ZK) : ZRes :=
  match v, ls[i]? with
  | .inl y, some (.inl x) => k M n (ls.set i (zI (x + y))) st F
  | _, _ => none
/-- the rest of a division, as the machine makes it -/
def zrem (x y : Int32) : Int32 := x - x / y * y
def zreml (x y : Int64) : Int64 := x - x / y * y
def zbin (f : Nat) (x y : Int32) : Int32 :=
  match f with
  | 0 => x + y
  | 1 => x - y
  | 2 => x * y
  | 3 => x &&& y
  | 4 => x ||| y
  | 5 => x ^^^ y
  | 6 => x <<< (y &&& 31)
  | 7 => x >>> (y &&& 31)
  | 8 => (x.toUInt32 >>> (y.toUInt32 &&& Int32.toUInt32 31)).toInt32
  | _ => if x < y then y else x
def zsMax (n : Nat) (M : ZM) (ls st : List ZV) (F : List Nat) (k : ZK) : ZRes :=
  match st with
  | .inl y :: .inl x :: r => bif Nat.ble r.length 4 then k M n ls (zI (zbin 9 x y) :: r) F else none
  | _ => none
def zsBin (f n : Nat) (M : ZM) (ls st : List ZV) (F : List Nat) (k : ZK) : ZRes :=
  match st with
  | .inl y :: .inl x :: r => k M n ls (zI (zbin f x y) :: r) F
  | _ => none
def zsDiv (f n : Nat) (M : ZM) (ls st : List ZV) (F : List Nat) (k : ZK) : ZRes :=
  match st with
  | .inl y :: .inl x :: r => if y = 0 then none else (match f with | 0 => k M n ls (zI (x / y) :: r) F | 1 => k M n ls (zI (zrem x y) :: r) F | _ => none)
  | .inr (.inl y) :: .inr (.inl x) :: r => if y = 0 then none else (match f with | 2 => k M n ls (zL (x / y) :: r) F | 3 => k M n ls (zL (zreml x y) :: r) F | _ => none)
  | _ => none
def zsUn (f n : Nat) (M : ZM) (ls st : List ZV) (F : List Nat) (k : ZK) : ZRes :=
  match st with
  | .inl x :: r => (match f with
    | 0 => k M n ls (zI (-x) :: r) F
    | 1 => k M n ls (zL x.toInt64 :: r) F
    | 3 => k M n ls (zI x.toInt8.toInt32 :: r) F
    | 4 => k M n ls (zI x.toInt16.toInt32 :: r) F
    | 5 => k M n ls (zI (x.toUInt32 % 65536).toInt32 :: r) F
    | _ => none)
  | .inr (.inl x) :: r => (match f with | 2 => k M n ls (zI x.toInt32 :: r) F | _ => none)
  | _ => none
def zsLBin (f n : Nat) (M : ZM) (ls st : List ZV) (F : List Nat) (k : ZK) : ZRes :=
  match st with
  | .inr (.inl y) :: .inr (.inl x) :: r => (match f with
    | 0 => k M n ls (zL (x + y) :: r) F
    | 1 => k M n ls (zL (x &&& y) :: r) F
    | 2 => k M n ls (zL (x ||| y) :: r) F
    | 3 => k M n ls (zI (lg_cmp x y) :: r) F
    | _ => none)
  | .inl y :: .inr (.inl x) :: r => (match f with | 4 => k M n ls (zL (x <<< (y.toInt64 &&& 63)) :: r) F | _ => none)
  | _ => none
def zcat1 (v : ZV) : Bool := match v with
  | .inr (.inl _) => false
  | _ => true
def zsStk (f n : Nat) (M : ZM) (ls st : List ZV) (F : List Nat) (k : ZK) : ZRes :=
  match f, st with
  | 0, a :: r => bif zcat1 a then k M n ls (a :: a :: r) F else none
  | 1, a :: b :: r => bif zcat1 a && zcat1 b then k M n ls (a :: b :: a :: r) F else none
  | 2, a :: b :: r => bif zcat1 a && zcat1 b then k M n ls (a :: b :: a :: b :: r) F else none
  | 3, a :: r => bif zcat1 a then k M n ls r F else none
  | _, _ => none
def zsCmp (f n t : Nat) (M : ZM) (ls st : List ZV) (F : List Nat) (k : ZK) : ZRes :=
  match st with
  | .inl y :: .inl x :: r => (match f with
    | 0 => if x = y then k M t ls r F else k M n ls r F
    | 1 => if x = y then k M n ls r F else k M t ls r F
    | 2 => if x < y then k M t ls r F else k M n ls r F
    | 3 => if x < y then k M n ls r F else k M t ls r F
    | 4 => if y < x then k M t ls r F else k M n ls r F
    | 5 => if y < x then k M n ls r F else k M t ls r F
    | _ => none)
  | _ => none
def zsIf (f n t : Nat) (M : ZM) (ls st : List ZV) (F : List Nat) (k : ZK) : ZRes := zsCmp f n t M ls (zI 0 :: st) F k
def zsIfN (n t : Nat) (M : ZM) (ls st : List ZV) (F : List Nat) (k : ZK) : ZRes :=
  match st with
  | .inr (.inr (t', a)) :: r => bif Nat.blt t' 10 then (bif Nat.beq a 0 then k M n ls r F else k M t ls r F) else none
  | _ => none
def zpick (x : Int32) (d : Nat) : List (Int32 × Nat) → (Nat → ZRes) → ZRes
  | [], g => g d
  | (v, t) :: cs, g => if x = v then g t else zpick x d cs g
def zsSw (d : Nat) (cs : List (Int32 × Nat)) (M : ZM) (ls st : List ZV) (F : List Nat) (k : ZK) : ZRes :=
  match st with
  | .inl x :: r => zpick x d cs (fun t => k M t ls r F)
  | _ => none
def zsGet (c kd f n : Nat) (v : ZV) (M : ZM) (ls st : List ZV) (F : List Nat) (k : ZK) : ZRes :=
  match st with
  | .inr (.inr (t, a)) :: r => bif Nat.beq t c then (match kd, v with
    | 0, _ => bif Nat.beq a 0 then none else k M n ls (zI (M.1 a f) :: r) F
    | 1, .inr (.inr (t', o)) => bif Nat.beq a 0 then none else k M n ls (zR t' (a + o) :: r) F
    | 2, .inr (.inr (t', _)) => bif Nat.beq a 0 then none else k M n ls (zR t' (M.2.2.1 a f) :: r) F
    | 3, _ => k M n ls (zR 15 a :: r) F
    | 4, _ => k M n ls (zI 0 :: r) F
    | _, _ => none) else none
  | _ => none
def zsPut (c kd f n : Nat) (v : ZV) (th : Nat) (M : ZM) (ls st : List ZV) (F : List Nat) (k : ZK) : ZRes :=
  match st with
  | w :: .inr (.inr (t, a)) :: r => bif Nat.beq a 0 then none else (match kd, w, v with
    | 0, .inl x, _ => bif Nat.beq t c || Nat.beq t (20 + c) then k (zu M.1 a f x, M.2) n ls r F else none
    | 5, .inl x, _ => bif Nat.beq t c || Nat.beq t (20 + c) then (if x = 0 ∨ x = 1 then k (zu M.1 a f x, M.2) n ls r F else none) else none
    | 1, .inr (.inr (t2, b)), .inr (.inr (t', o)) => bif Nat.beq t (20 + c) && (Nat.beq t2 t' && (Nat.beq a th && Nat.beq b (a + o))) then k M n ls r (f :: F) else none
    | 2, .inr (.inr (t2, b)), .inr (.inr (t', _)) => bif (Nat.beq t c || Nat.beq t (20 + c)) && Nat.beq t2 t' then k (M.1, M.2.1, zu M.2.2.1 a f b, M.2.2.2) n ls r F else none
    | _, _, _ => none)
  | _ => none
/-- the class's constant tables, and the bytes of the String constants -/
def zCA (t : Nat) : List Int32 := match t with
  | 11 => [-1, 0, 0, 0, 1, 2, 3]
  | _ => [10, 11, 12, 0, 20, 0, 30, 0, 0, 0, 0, 40, 50, 51, 0, 0, 0, 60, 71, 70, 0]
def zSB (i : Nat) : List Int32 := match i with
  | 1 => [105, 101, 32]
  | 2 => [107, 101, 32]
  | 3 => [111, 97, 116, 104, 32]
  | 4 => [112, 115, 107, 109, 116, 119]
  | _ => [60, 61, 62]
def zsLen (n : Nat) (M : ZM) (ls st : List ZV) (F : List Nat) (k : ZK) : ZRes :=
  match st with
  | .inr (.inr (t, a)) :: r => bif Nat.ble 100 t then (bif Nat.beq a 0 then none else k M n ls (zI (Int32.ofNat (zlen t)) :: r) F)
    else bif Nat.beq t 13 then k M n ls (zI (Int32.ofNat M.2.2.2.2.2) :: r) F
    else bif Nat.beq t 15 then k M n ls (zI (Int32.ofNat (zSB a).length) :: r) F
    else none
  | _ => none
def zsALd (f n : Nat) (M : ZM) (ls st : List ZV) (F : List Nat) (k : ZK) : ZRes :=
  match st with
  | .inl i :: .inr (.inr (t, a)) :: r =>
    bif Nat.ble 100 t then (bif Nat.beq a 0 then none else if i < 0 ∨ zlen t ≤ zn i then none else (match f with
      | 0 => bif Nat.beq (zty t) 0 then k M n ls (zI (M.1 a (zn i)) :: r) F else none
      | 1 => bif Nat.beq (zty t) 2 then k M n ls (zI (M.1 a (zn i)) :: r) F else none
      | 2 => bif Nat.beq (zty t) 1 then k M n ls (zL (M.2.1 a (zn i)) :: r) F else none
      | _ => none))
    else bif Nat.beq t 13 then (if i < 0 ∨ M.2.2.2.2.2 ≤ zn i then none else (match f with | 0 => k M n ls (zI (M.1 0 (zn i)) :: r) F | _ => none))
    else bif Nat.beq t 15 then (if i < 0 ∨ (zSB a).length ≤ zn i then none else (match f with | 1 => k M n ls (zI ((zSB a).getD (zn i) 0) :: r) F | _ => none))
    else bif Nat.beq t 11 || Nat.beq t 12 then (if i < 0 ∨ (zCA t).length ≤ zn i then none else (match f with | 0 => k M n ls (zI ((zCA t).getD (zn i) 0) :: r) F | _ => none))
    else none
  | _ => none
def zsASt (f n : Nat) (M : ZM) (ls st : List ZV) (F : List Nat) (k : ZK) : ZRes :=
  match st with
  | .inl x :: .inl i :: .inr (.inr (t, a)) :: r =>
    bif Nat.ble 100 t then (bif Nat.beq a 0 then none else if i < 0 ∨ zlen t ≤ zn i then none else (match f with
      | 0 => bif Nat.beq (zty t) 0 then k (zu M.1 a (zn i) x, M.2) n ls r F else none
      | 1 => bif Nat.beq (zty t) 2 then k (zu M.1 a (zn i) (vp_nar .boolean x), M.2) n ls r F else none
      | _ => none)) else none
  | .inr (.inl x) :: .inl i :: .inr (.inr (t, a)) :: r =>
    bif Nat.ble 100 t then (bif Nat.beq a 0 then none else if i < 0 ∨ zlen t ≤ zn i then none else (match f with
      | 2 => bif Nat.beq (zty t) 1 then k (M.1, zu M.2.1 a (zn i) x, M.2.2) n ls r F else none
      | _ => none)) else none
  | _ => none
def zsNewA (S : Nat → Nat) (ty n : Nat) (M : ZM) (ls st : List ZV) (F : List Nat) (k : ZK) : ZRes :=
  match M, st with
  | (I, J, Q, top, sl, L), .inl x :: r => if x < 0 then none else bif Nat.beq (S top) (100 + 4 * zn x + ty) then k (zfill I top 0, zfill J top 0, Q, top + 1, sl + zn x, L) n ls (zR (100 + 4 * zn x + ty) top :: r) F else none
  | _, _ => none
def zsNew (S : Nat → Nat) (N : Nat → Nat) (c n : Nat) (M : ZM) (ls st : List ZV) (F : List Nat) (k : ZK) : ZRes :=
  match M with
  | (I, J, Q, top, sl, L) => bif Nat.beq (S top) c then k (zfill I top 0, J, zfill Q top 0, top + 1, sl + N c, L) n ls (zR (20 + c) top :: st) F else none
def zsCopy (n : Nat) (M : ZM) (ls st : List ZV) (F : List Nat) (k : ZK) : ZRes :=
  match st with
  | .inl x :: .inl d :: .inr (.inr (t1, b)) :: .inl s :: .inr (.inr (t0, a)) :: r =>
    bif Nat.ble 100 t0 && Nat.ble 100 t1 && Nat.beq (zty t0) (zty t1) && !(Nat.beq a 0) && !(Nat.beq b 0) && Nat.ble r.length 4 then
      (if s < 0 ∨ d < 0 ∨ x < 0 ∨ zlen t0 < zn s + zn x ∨ zlen t1 < zn d + zn x then none else
        (match zty t0 with
        | 0 => k (zcp M.1 a (zn s) b (zn d) (zn x), M.2) n ls r F
        | 1 => k (M.1, zcp M.2.1 a (zn s) b (zn d) (zn x), M.2.2) n ls r F
        | _ => none))
    else none
  | _ => none
def zsObj (n : Nat) (M : ZM) (ls st : List ZV) (F : List Nat) (k : ZK) : ZRes :=
  match st with
  | .inr (.inr (t, a)) :: r => bif Nat.beq a 0 || Nat.ble 5 r.length || Nat.beq t 14 then none else k M n ls r F
  | _ => none
def zpush (v : Option ZV) (r : List ZV) : List ZV := match v with
  | some x => x :: r
  | none => r
/-- a call: kind 0 virtual or private, 1 static, 2 a constructor -/
def zsCall (H : ZH) (m ar kd c n : Nat) (M : ZM) (ls st : List ZV) (F : List Nat) (k : ZK) : ZRes :=
  bif Nat.ble (st.drop ar).length 4 && Nat.ble ar st.length then (match kd with
    | 1 => (match H m (st.take ar).reverse M with
      | some (M', v) => k M' n ls (zpush v (st.drop ar)) F
      | none => none)
    | 0 => (match (st.take ar).reverse with
      | .inr (.inr (t, a)) :: as => bif Nat.beq t c && !(Nat.beq a 0) then (match H m (.inr (.inr (t, a)) :: as) M with
        | some (M', v) => k M' n ls (zpush v (st.drop ar)) F
        | none => none) else none
      | _ => none)
    | 2 => (match (st.take ar).reverse, st.drop ar with
      | .inr (.inr (t, a)) :: as, .inr (.inr (t2, a2)) :: r => bif Nat.beq t (20 + c) && Nat.beq t2 (20 + c) && Nat.beq a a2 && !(Nat.beq a 0) then (match H m (.inr (.inr (t, a)) :: as) M with
        | some (M', none) => k M' n ls (zR c a :: r) F
        | _ => none) else none
      | _, _ => none)
    | _ => none) else none
def zelem (k : Nat) : List Nat → Bool
  | [] => false
  | j :: l => Nat.beq k j || zelem k l
/-- a return: 0 void, 1 int, 2 boolean, 3 char, 4 long, 5 a row of ints, 6 a constructor's, 7 byte -/
def zsRet (fin : Nat → List Nat) (kd c : Nat) (M : ZM) (st : List ZV) (F : List Nat) : ZRes :=
  match kd, st with
  | 0, [] => some (M, none)
  | 1, [.inl x] => some (M, some (zI x))
  | 2, [.inl x] => if x = 0 ∨ x = 1 then some (M, some (zI x)) else none
  | 3, [.inl x] => if x.toUInt32.toUInt16.toUInt32.toInt32 = x then some (M, some (zI x)) else none
  | 4, [.inr (.inl x)] => some (M, some (zL x))
  | 5, [.inr (.inr (t, a))] => bif Nat.ble 100 t then some (M, some (zR t a)) else none
  | 6, [] => bif (fin c).all (fun k => zelem k F) then some (M, none) else none
  | 7, [.inl x] => if x.toInt8.toInt32 = x then some (M, some (zI x)) else none
  | _, _ => none
def zstep (S N : Nat → Nat) (fin : Nat → List Nat) (H : ZH) (th : Nat) (op : ZOp) (M : ZM) (ls st : List ZV) (F : List Nat) (k : ZK) : ZRes :=
  match op with
  | (o, a, b, c, n, v, cs) =>
    bif Nat.ble o 7 then
      (bif Nat.ble o 3 then
        (bif Nat.ble o 1 then (bif Nat.beq o 1 then k M n ls (v :: st) F else none)
         else bif Nat.beq o 2 then zsLoad a b n M ls st F k else zsStore a b n M ls st F k)
       else bif Nat.ble o 5 then (bif Nat.beq o 4 then zsInc a n v M ls st F k else zsBin a n M ls st F k)
         else bif Nat.beq o 6 then zsDiv a n M ls st F k else zsUn a n M ls st F k)
    else bif Nat.ble o 15 then
      (bif Nat.ble o 11 then
        (bif Nat.ble o 9 then (bif Nat.beq o 8 then zsLBin a n M ls st F k else zsStk a n M ls st F k)
         else bif Nat.beq o 10 then zsCmp a n b M ls st F k else zsIf a n b M ls st F k)
       else bif Nat.ble o 13 then (bif Nat.beq o 12 then k M b ls st F else zsIfN n b M ls st F k)
         else bif Nat.beq o 14 then zsSw b cs M ls st F k else zsGet a b c n v M ls st F k)
    else bif Nat.ble o 20 then
      (bif Nat.ble o 18 then (bif Nat.beq o 16 then zsPut a b c n v th M ls st F k else bif Nat.beq o 17 then zsLen n M ls st F k else zsALd a n M ls st F k)
       else bif Nat.beq o 19 then zsASt a n M ls st F k else zsNewA S a n M ls st F k)
    else bif Nat.ble o 22 then (bif Nat.beq o 21 then zsNew S N a n M ls st F k else zsCall H a b c (match v with | .inr (.inr (t, _)) => t | _ => 0) n M ls st F k)
    else bif Nat.ble o 24 then (bif Nat.beq o 23 then zsCopy n M ls st F k else zsObj n M ls st F k)
    else bif Nat.beq o 25 then zsRet fin a b M st F else bif Nat.beq o 26 then zsMax n M ls st F k else none
def zloc : List ZV → List ZV
  | [] => []
  | .inr (.inl x) :: vs => zL x :: zU :: zloc vs
  | v :: vs => v :: zloc vs
def zini (n : Nat) (as : List ZV) : List ZV := zloc as ++ List.replicate (n - (zloc as).length) zU
def zthis (as : List ZV) : Nat := match as with
  | .inr (.inr (_, a)) :: _ => a
  | _ => 0
