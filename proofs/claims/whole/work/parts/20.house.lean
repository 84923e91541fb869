/-! A HOUSE as both sides hold it: tokens (kind 0 test, 1 not, 2 and, 3 or; letter, relation, number), their two codes, what they say -/
abbrev Tok : Type := Nat × Nat × Nat × Nat
def tX (t : Tok) : Int32 := match t.1 with
  | 0 => nI ((t.2.1 * 3 + t.2.2.1) * 100 + t.2.2.2)
  | 1 => -1
  | 2 => -2
  | _ => -3
def tM (t : Tok) : Int32 := match t.1 with
  | 0 => nI (1000 * t.2.1 + 100 * t.2.2.1 + t.2.2.2)
  | 1 => -33
  | 2 => -38
  | _ => -124
def tOk (t : Tok) : Prop := t.2.1 < 6 ∧ t.2.2.1 < 3 ∧ t.2.2.2 < 100
/-- how high the pile is behind the tokens; none: one of them has too little, or it is too high -/
def hrun : List Tok → Nat → Option Nat
  | [], h => some h
  | t :: r, h => match t.1 with
    | 0 => if h < 11 ∧ t.2.1 < 6 ∧ t.2.2.1 < 3 ∧ t.2.2.2 < 100 then hrun r (h + 1) else none
    | 1 => if 1 ≤ h then hrun r h else none
    | _ => if 2 ≤ h then hrun r (h - 1) else none
noncomputable def tval (t : Tok) (F : Nat → Int32) : Bool := match t.2.2.1 with
  | 0 => decide (F t.2.1 < nI t.2.2.2)
  | 1 => decide (F t.2.1 = nI t.2.2.2)
  | _ => decide (nI t.2.2.2 < F t.2.1)
noncomputable def hstep (t : Tok) (F : Nat → Int32) (st : List Bool) : List Bool := match t.1, st with
  | 0, st => tval t F :: st
  | 1, b :: st => (!b) :: st
  | 2, a :: b :: st => (b && a) :: st
  | _, a :: b :: st => (b || a) :: st
  | _, st => st
noncomputable def hval (F : Nat → Int32) : List Tok → List Bool → List Bool
  | [], st => st
  | t :: r, st => hval F r (hstep t F st)
def sv : List Bool → Nat
  | [] => 0
  | b :: st => 2 * sv st + (bif b then 1 else 0)
theorem sv_lt : ∀ st : List Bool, sv st < 2 ^ st.length
  | [] => by decide
  | b :: st => by
    have := sv_lt st
    have h : 2 ^ (b :: st).length = 2 * 2 ^ st.length := by rw [List.length_cons, Nat.pow_succ]; omega
    rw [h]
    unfold sv
    cases b <;> simp <;> omega
abbrev Cls : Type := Int32 × List Tok
/-- LIKE of clauses that have a weight -/
noncomputable def hLk (F : Nat → Int32) : List Cls → Int32 → Int32
  | [], acc => acc
  | c :: r, acc => hLk F r (if (hval F c.2 []).headD false = true then acc + c.1 else acc)
/-- a clause: word (0 like, 1 loath, 2 tie), number, tokens -/
abbrev Hs : Type := List (Nat × Nat × List Tok)
def hCl : Hs → List Cls
  | [] => []
  | c :: r => match c.1 with
    | 0 => (nI c.2.1, c.2.2) :: hCl r
    | 1 => (-nI c.2.1, c.2.2) :: hCl r
    | _ => hCl r
def hTie : Hs → Nat → Nat
  | [], n => n
  | c :: r, n => hTie r (if c.1 = 2 then c.2.1 else n)
noncomputable def hLike (H : Hs) (F : Nat → Int32) : Int32 := hLk F (hCl H) 0
def cX (I : Nat → Nat → Int32) (a : Nat) : List Tok → Nat → Prop
  | [], _ => True
  | t :: r, i => I a i = tX t ∧ cX I a r (i + 1)
def HXr (I : Nat → Nat → Int32) (o : Nat) : List Cls → Nat → Nat → Prop
  | [], c, f => I (o + 1) 1 = nI c ∧ I (o + 1) 4 = nI f ∧ c ≤ 10 ∧ f ≤ 100
  | w :: r, c, f => I (o + 2) c = w.1 ∧ I (o + 3) c = nI (f + w.2.length) ∧ cX I (o + 4) w.2 f ∧ hrun w.2 0 = some 1 ∧ HXr I o r (c + 1) (f + w.2.length)
/-- SeatOn's House at o + 1 is the house -/
def HX (I : Nat → Nat → Int32) (o : Nat) (H : Hs) : Prop := I (o + 1) 0 = nI (hTie H 0) ∧ hTie H 0 < 100 ∧ HXr I o (hCl H) 0 0
theorem HXr_b {I : Nat → Nat → Int32} {o : Nat} : ∀ {l : List Cls} {c f : Nat}, HXr I o l c f → c + l.length ≤ 10 ∧ f ≤ 100 ∧ I (o + 1) 1 = nI (c + l.length)
  | [], c, f, h => ⟨h.2.2.1, h.2.2.2, h.1⟩
  | w :: r, c, f, h => by
    have := HXr_b h.2.2.2.2
    refine ⟨?_, by omega, ?_⟩
    · rw [List.length_cons]; omega
    · rw [this.2.2, List.length_cons]; congr 1; omega
theorem hrun_le : ∀ {l : List Tok} {h k : Nat}, hrun l h = some k → h ≤ 11 → k ≤ 11
  | [], h, k, e, q => by cases e; exact q
  | t :: r, h, k, e, q => by
    unfold hrun at e
    split at e
    · split at e
      · exact hrun_le e (by omega)
      · cases e
    · split at e
      · exact hrun_le e (by omega)
      · cases e
    · split at e
      · exact hrun_le e (by omega)
      · cases e
-- bits
theorem bt_1 : ∀ x, x < 1024 → ∀ b, b < 2 → nI (2 * x + b) ^^^ 1 = nI (2 * x + (1 - b)) := by decide +kernel
theorem bt_2 : ∀ x, x < 1024 → ∀ b, b < 2 → nI (2 * x + b) >>> ((1 : Int32) &&& 31) = nI x := by decide +kernel
theorem bt_3 : ∀ x, x < 1024 → ∀ b, b < 2 → nI (2 * x + b) &&& 1 = nI b := by decide +kernel
theorem bt_4 : ∀ x, x < 1024 → ∀ b, b < 2 → ∀ c, c < 2 → nI (2 * x + b) ||| nI c = nI (2 * x + (if c = 0 then b else 1)) := by decide +kernel
theorem bt_5 : ∀ x, x < 1024 → ∀ b, b < 2 → nI (2 * x + b) &&& (-2) = nI (2 * x) := by decide +kernel
theorem bt_6 : ∀ x, x < 1024 → ∀ b, b < 2 → (nI x <<< ((1 : Int32) &&& 31)) ||| nI b = nI (2 * x + b) := by decide +kernel
