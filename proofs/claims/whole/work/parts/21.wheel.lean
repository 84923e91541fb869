/-! THE WHEEL, as both sides hold it -/
abbrev Wv : Type := Nat × Nat × Nat × Nat × (Nat → Nat) × (Nat → Int32) × (Nat → Int32) × (Nat → Int32) × (Nat → Nat) × (Nat → Int32) × (Nat → Nat) × (Nat → Int32) × (Nat → Bool) × Hs
/-- seats, people, matters, turn; votes, vetoes, breakers, kinds, numbers, asks, worths, bys, carried; the house -/
def wN (W : Wv) : Nat := W.1
def wP (W : Wv) : Nat := W.2.1
def wM (W : Wv) : Nat := W.2.2.1
def wT (W : Wv) : Nat := W.2.2.2.1
def wV (W : Wv) : Nat → Nat := W.2.2.2.2.1
def wX (W : Wv) : Nat → Int32 := W.2.2.2.2.2.1
def wB (W : Wv) : Nat → Int32 := W.2.2.2.2.2.2.1
def wK (W : Wv) : Nat → Int32 := W.2.2.2.2.2.2.2.1
def wU (W : Wv) : Nat → Nat := W.2.2.2.2.2.2.2.2.1
def wA (W : Wv) : Nat → Int32 := W.2.2.2.2.2.2.2.2.2.1
def wW (W : Wv) : Nat → Nat := W.2.2.2.2.2.2.2.2.2.2.1
def wY (W : Wv) : Nat → Int32 := W.2.2.2.2.2.2.2.2.2.2.2.1
def wC (W : Wv) : Nat → Bool := W.2.2.2.2.2.2.2.2.2.2.2.2.1
def wH (W : Wv) : Hs := W.2.2.2.2.2.2.2.2.2.2.2.2.2
/-- the turn is another -/
def wTu (W : Wv) (t : Nat) : Wv := (W.1, W.2.1, W.2.2.1, t, W.2.2.2.2)
def wCa (W : Wv) (f : Nat → Bool) : Wv := (wN W, wP W, wM W, wT W, wV W, wX W, wB W, wK W, wU W, wA W, wW W, wY W, f, wH W)
def wVo (W : Wv) (f : Nat → Nat) : Wv := (wN W, wP W, wM W, wT W, f, wX W, wB W, wK W, wU W, wA W, wW W, wY W, wC W, wH W)
def WBd (W : Wv) : Prop := 2 ≤ wN W ∧ wN W ≤ 7 ∧ wP W ≤ wN W ∧ wM W ≤ 6 ∧ wT W ≤ 100000 ∧ (∀ k, wV W k ≤ 4) ∧ (∀ k, wU W k ≤ 9) ∧ (∀ k, wW W k ≤ 99)
def WX (M : ZM) (o : Nat) (W : Wv) : Prop :=
  M.1 (o + 1) 0 = nI (wN W) ∧ M.1 (o + 1) 4 = nI (wP W) ∧ M.1 (o + 1) 7 = nI (wM W) ∧ M.1 (o + 1) 12 = nI (wT W) ∧ (∀ k, k < 7 → M.1 (o + 2) k = nI (wV W k)) ∧ (∀ k, k < 7 → M.1 (o + 3) k = wX W k) ∧ (∀ k, k < 7 → M.1 (o + 4) k = wB W k) ∧ (∀ k, k < 7 → M.1 (o + 5) k = wK W k) ∧ (∀ k, k < 7 → M.1 (o + 6) k = nI (wU W k)) ∧ (∀ k, k < 6 → M.1 (o + 7) k = wA W k) ∧ (∀ k, k < 6 → M.1 (o + 8) k = nI (wW W k)) ∧ (∀ k, k < 6 → M.1 (o + 9) k = wY W k) ∧ (∀ k, k < 6 → M.1 (o + 10) k = zb (wC W k)) ∧ ((M.2.2.1 (o + 1) 13 = 0 ∧ wH W = []) ∨ (∃ h, M.2.2.1 (o + 1) 13 = h + 1 ∧ (h = 59 ∨ 111 ≤ h) ∧ HX M.1 h (wH W)))
def FX (o : Nat) (M M' : ZM) : Prop := (∀ a, a ≠ o + 11 → a ≠ o + 12 → M'.1 a = M.1 a) ∧ M'.2 = M.2
theorem FX.rfl {o : Nat} {M : ZM} : FX o M M := ⟨fun _ _ _ => Eq.refl _, Eq.refl _⟩
theorem FX.trans {o : Nat} {M M' M'' : ZM} (h : FX o M M') (g : FX o M' M'') : FX o M M'' := ⟨fun a q r => (g.1 a q r).trans (h.1 a q r), g.2.trans h.2⟩
/-- the facts alone are others -/
def FF (o : Nat) (M M' : ZM) : Prop := (∀ a, a ≠ o + 12 → M'.1 a = M.1 a) ∧ M'.2 = M.2
theorem FF.rfl {o : Nat} {M : ZM} : FF o M M := ⟨fun _ _ => Eq.refl _, Eq.refl _⟩
theorem FF.trans {o : Nat} {M M' M'' : ZM} (h : FF o M M') (g : FF o M' M'') : FF o M M'' := ⟨fun a q => (g.1 a q).trans (h.1 a q), g.2.trans h.2⟩
theorem FF.x {o : Nat} {M M' : ZM} (h : FF o M M') : FX o M M' := ⟨fun a _ q => h.1 a q, h.2⟩
theorem cX_eq {I I' : Nat → Nat → Int32} {a : Nat} (h : I' a = I a) : ∀ (t : List Tok) (i : Nat), cX I a t i → cX I' a t i
  | [], _, _ => trivial
  | t :: r, i, q => ⟨by rw [h]; exact q.1, cX_eq h r (i + 1) q.2⟩
theorem HXr_eq {I I' : Nat → Nat → Int32} {o : Nat} (h : ∀ a, o < a → a < o + 5 → I' a = I a) : ∀ (l : List Cls) (c f : Nat), HXr I o l c f → HXr I' o l c f
  | [], c, f, q => by
    unfold HXr at q ⊢
    rw [h (o + 1) (by omega) (by omega)]
    exact q
  | w :: r, c, f, q => by
    unfold HXr at q ⊢
    rw [h (o + 2) (by omega) (by omega), h (o + 3) (by omega) (by omega)]
    exact ⟨q.1, q.2.1, cX_eq (h (o + 4) (by omega) (by omega)) _ _ q.2.2.1, q.2.2.2.1, HXr_eq h r _ _ q.2.2.2.2⟩
theorem HX_eq {I I' : Nat → Nat → Int32} {o : Nat} {H : Hs} (h : ∀ a, o < a → a < o + 5 → I' a = I a) (q : HX I o H) : HX I' o H := by
  unfold HX at q ⊢
  rw [h (o + 1) (by omega) (by omega)]
  exact ⟨q.1, q.2.1, HXr_eq h _ _ _ q.2.2⟩
theorem WX_eq {M M' : ZM} {o : Nat} {W : Wv} (ho : o ≤ 25) (h : ∀ a, o < a → a < o + 11 → M'.1 a = M.1 a) (hr : M'.2.2.1 (o + 1) 13 = M.2.2.1 (o + 1) 13) (hh : ∀ a, (60 ≤ a ∧ a < 64) ∨ 112 ≤ a → M.2.2.1 (o + 1) 13 ≤ a → a < M.2.2.1 (o + 1) 13 + 4 → M'.1 a = M.1 a) (q : WX M o W) : WX M' o W := by
  unfold WX at q ⊢
  rw [h (o + 1) (by omega) (by omega), h (o + 2) (by omega) (by omega), h (o + 3) (by omega) (by omega), h (o + 4) (by omega) (by omega), h (o + 5) (by omega) (by omega), h (o + 6) (by omega) (by omega), h (o + 7) (by omega) (by omega), h (o + 8) (by omega) (by omega), h (o + 9) (by omega) (by omega), h (o + 10) (by omega) (by omega), hr]
  obtain ⟨q1, q2, q3, q4, q5, q6, q7, q8, q9, q10, q11, q12, q13, q14⟩ := q
  refine ⟨q1, q2, q3, q4, q5, q6, q7, q8, q9, q10, q11, q12, q13, ?_⟩
  rcases q14 with ⟨x, y⟩ | ⟨a, x, y, z⟩
  · exact Or.inl ⟨x, y⟩
  · exact Or.inr ⟨a, x, y, HX_eq (fun b h1 h2 => hh b (by omega) (by omega) (by omega)) z⟩
theorem WX_FX {M M' : ZM} {o : Nat} {W : Wv} (ho : o ≤ 25) (h : FX o M M') (q : WX M o W) : WX M' o W :=
  WX_eq ho (fun a h1 h2 => h.1 a (by omega) (by omega)) (by rw [h.2]) (fun a h1 _ _ => h.1 a (by omega) (by omega)) q
-- what the wheel says
def sSeat (W : Wv) (a : Nat) : Nat := (a + wT W) % wN W
def sSit (W : Wv) (s : Nat) : Option Nat := lfnd (fun a => sSeat W a == s) (wP W) 0
def sFact (W : Wv) (a m : Nat) : Nat → Int32
  | 0 => nI a
  | 1 => nI (sSeat W a)
  | 2 => wK W a
  | 3 => nI m
  | 4 => nI (wT W % 60)
  | _ => nI (wV W (sSeat W a))
noncomputable def sLike (W : Wv) (a m : Nat) : Int32 := hLike (wH W) (sFact W a m)
def sSign (x : Int32) : Int32 := if 0 < x then 1 else if x < 0 then -1 else 0
noncomputable def sPlain (W : Wv) (a m : Nat) : Int32 := sSign (sLike W a m)
noncomputable def sIdly (W : Wv) (a m : Nat) : Int32 := if wV W (sSeat W a) = 0 then 0 else sPlain W a m
noncomputable def sSided (W : Wv) (a m : Nat) : Int32 := if sIdly W a m ≠ 0 then sIdly W a m else match sSit W ((sSeat W a + 1) % wN W) with
  | none => 0
  | some b => sPlain W b m
noncomputable def sAway (W : Wv) (a m : Nat) : Int32 := if wT W % (wU W a + 2) = 0 then 0 else sPlain W a m
noncomputable def sSays (W : Wv) (a m : Nat) : Int32 :=
  if wK W a = 1 then (if wY W m = nI a then 1 else sPlain W a m)
  else if wK W a = 2 then sIdly W a m
  else if wK W a = 3 then sAway W a m
  else if wK W a = 4 then (if wY W m = nI a then 1 else if wX W (sSeat W a) = 1 then -1 else sPlain W a m)
  else if wK W a = 5 then sSided W a m
  else if wK W a = 6 then sAway W a (wU W a % wM W)
  else sPlain W a m
theorem sSeat_lt {W : Wv} (hB : WBd W) (a : Nat) : sSeat W a < 7 := by
  have h := Nat.mod_lt (a + wT W) (by have := hB.1; omega : 0 < wN W)
  have := hB.2.1
  unfold sSeat
  omega
theorem sSign_c (x : Int32) : sSign x = 1 ∨ sSign x = -1 ∨ sSign x = 0 := by
  unfold sSign
  split
  · exact Or.inl rfl
  · split
    · exact Or.inr (Or.inl rfl)
    · exact Or.inr (Or.inr rfl)
