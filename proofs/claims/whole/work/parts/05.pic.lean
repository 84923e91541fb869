/-! THE PICTURE: what the heap holds of a pure memory -/
/-- base; the two tables; the String constants and their bytes; the carried static; the script -/
abbrev ZE : Type := Nat × Nat × Nat × (Nat → Nat) × (Nat → Nat) × Option Nat × Nat
abbrev ztop (M : ZM) : Nat := M.2.2.2.1
abbrev zsl (M : ZM) : Nat := M.2.2.2.2.1
def zcv (E : ZE) (v : ZV) : Value := match v with
  | .inl x => .int x
  | .inr (.inl x) => .long x
  | .inr (.inr (t, a)) =>
    if t = 10 then .ref (E.2.2.2.1 (a - 1)) else if t = 11 then .ref E.2.1 else if t = 12 then .ref E.2.2.1 else if t = 13 then .ref E.2.2.2.2.2.2
    else if t = 14 then va_rf E.2.2.2.2.2.1 else if t = 15 then .ref (E.2.2.2.2.1 (a - 1)) else if a = 0 then .null else .ref (E.1 + a)
def zA (E : ZE) : Nat → Prop := fun q => E.1 < q
abbrev zTys (cT : Nat → ClassId) : List (ClassId × FieldType) := [(cT 0, .int), (cT 1, .long), (cT 2, .boolean)]
def zCl : List vw_C := (List.range 10).map fun c => (zcname c, zT c, zN c)
theorem zCl_at {c : Nat} (h : c < 10) : zCl[c]? = some (zcname c, zT c, zN c) := by
  simp [zCl, h]
def zfv (E : ZE) (fl : Nat → Nat → Bool) (M : ZM) (a c k : Nat) : Value := match (zFk c k).1 with
  | 0 => .int (M.1 a k)
  | 5 => .int (M.1 a k)
  | 1 => bif fl a k then .ref (E.1 + (a + (zFk c k).2.2)) else .null
  | 2 => bif Nat.beq (M.2.2.1 a k) 0 then .null else .ref (E.1 + M.2.2.1 a k)
  | _ => .null
def zav (M : ZM) (a t : Nat) (j : Nat) : Value := if zty t = 1 then .long (M.2.1 a j) else .int (M.1 a j)
def zcell (E : ZE) (D : va_G) (cT : Nat → ClassId) (fl : Nat → Nat → Bool) (M : ZM) (H : Heap) (a : Nat) : Prop :=
  (zS a < 10 → t_OB (E.1 + a) (D.1 (zS a)) (zN (zS a)) (D.2 (zS a)) H (zfv E fl M a (zS a))) ∧
  (100 ≤ zS a → H[E.1 + a]? = some (arrV (cT (zty (zS a))) (zlen (zS a)) (zav M a (zS a))))
def ZP (E : ZE) (D : va_G) (cT : Nat → ClassId) (fl : Nat → Nat → Bool) (M : ZM) (H : Heap) : Prop :=
  H.size = E.1 + ztop M ∧ 1 ≤ ztop M ∧ ∀ a, 1 ≤ a → a < ztop M → zcell E D cT fl M H a
/-- an object that is made: all that its cluster's objects keep for good is set -/
def zokO (fl : Nat → Nat → Bool) (top c a : Nat) : Prop := 1 ≤ a ∧ zS a = c ∧ a + zSize c ≤ top ∧ ∀ a', a ≤ a' → a' < a + zSize c → ∀ k ∈ zFin (zS a'), fl a' k = true
def zokR (fl : Nat → Nat → Bool) (top t a : Nat) : Prop :=
  (t < 10 → a = 0 ∨ zokO fl top t a) ∧ (20 ≤ t → t < 30 → 1 ≤ a ∧ a < top ∧ zS a = t - 20) ∧ (100 ≤ t → 1 ≤ a ∧ a < top ∧ zS a = t) ∧ (t = 10 ∨ t = 15 → 1 ≤ a ∧ a ≤ 5) ∧ (t < 16 ∨ (20 ≤ t ∧ t < 30) ∨ t = 99 ∨ 100 ≤ t)
def zok (fl : Nat → Nat → Bool) (top : Nat) (v : ZV) : Prop := match v with
  | .inr (.inr (t, a)) => zokR fl top t a
  | _ => True
/-- the references that may change are good -/
def zgood (L : Nat) (xs : Nat → Int32) (fl : Nat → Nat → Bool) (M : ZM) : Prop := (∀ a k, 1 ≤ a → a < ztop M → zS a < 10 → (zFk (zS a) k).1 = 2 → zokR fl (ztop M) (zFk (zS a) k).2.1 (M.2.2.1 a k)) ∧ (∀ a k, ztop M ≤ a → fl a k = false) ∧ (∀ j, M.1 0 j = xs j) ∧ M.2.2.2.2.2 = L
/-- what a constructor has set so far -/
abbrev ZT : Type := Nat × (Nat → Nat → Bool)
def zFok (fl : Nat → Nat → Bool) (top : Nat) (th : ZT) (F : List Nat) : Prop := (∀ k ∈ F, (zFk (zS th.1) k).1 = 1 ∧ fl th.1 k = true ∧ zokR fl top (zFk (zS th.1) k).2.1 (th.1 + (zFk (zS th.1) k).2.2)) ∧ ∀ a k, th.2 a k = true → fl a k = true
def zset (v : ZV) : Bool := match v with
  | .inr (.inr (t, _)) => !(Nat.beq t 99)
  | _ => true
def zLr (E : ZE) (Ls : Array Slot) (ls : List ZV) : Prop := Ls.size = ls.length ∧ lv_wf Ls ∧ ∀ (i : Nat) (v : ZV), ls[i]? = some v → zset v = true → Ls[i]? = some (.val (zcv E v))
def zEnv (E : ZE) (L : Nat) (xs : Nat → Int32) (U : State) (H : Heap) : Prop :=
  (va_Z "SeatOn" "ABOVE" "[I" (.ref E.2.1) (zA E) U H ∧ va_T .int E.2.1 7 (fun j => .int ((zCA 11).getD j 0)) (zA E) U H) ∧
  (va_Z "SeatOn$Acts" "BODIES" "[I" (.ref E.2.2.1) (zA E) U H ∧ va_T .int E.2.2.1 21 (fun j => .int ((zCA 12).getD j 0)) (zA E) U H) ∧
  vk_S 5 [3, 3, 5, 6, 3] [zSB 1, zSB 2, zSB 3, zSB 4, zSB 5] E.2.2.2.1 E.2.2.2.2.1 (zA E) U H ∧
  (vk_R "SeatOn$Reader" 59 "ie " (E.2.2.2.1 0) U ∧ vk_R "SeatOn$Reader" 65 "ke " (E.2.2.2.1 1) U ∧ vk_R "SeatOn$Reader" 67 "oath " (E.2.2.2.1 2) U ∧ vk_R "SeatOn$Reader" 84 "pskmtw" (E.2.2.2.1 3) U ∧ vk_R "SeatOn$Reader" 90 "<=>" (E.2.2.2.1 4) U) ∧
  va_Z "java/lang/String" "COMPACT_STRINGS" "Z" (.int 1) (zA E) U H ∧
  va_Z "jdk/internal/util/Preconditions" "SIOOBE_FORMATTER" "Ljava/util/function/BiFunction;" (va_rf E.2.2.2.2.2.1) (zA E) U H ∧
  (va_X E.2.2.2.2.2.2 L xs U H ∧ E.2.2.2.2.2.2 < H.size ∧ ¬ zA E E.2.2.2.2.2.2) ∧
  (va_Nw (.fieldLinkNest "SeatOn$Acts" 39 "SeatOn" "ABOVE" "[I" "SeatOn") U ∧ ∀ q ∈ zLm, q.2.2.2 = 1 → va_Nw (.methodLinkNest (zcname q.1) q.2.1 (zy q.2.2.1) "SeatOn") U)
theorem zEnv.warm {E : ZE} {L : Nat} {xs : Nat → Int32} {s U : State} {H H1 : Heap} (hW : s.WarmedH U.vm) (hz : H.size ≤ H1.size) (hq : ∀ a : Nat, a < H.size → ¬ zA E a → H1[a]? = H[a]?) (h : zEnv E L xs s H) : zEnv E L xs U H1 := by
  obtain ⟨⟨a1, a2⟩, ⟨b1, b2⟩, c1, ⟨d1, d2, d3, d4, d5⟩, e1, f1, ⟨g1, g2, g3⟩, n1, n2⟩ := h
  have hv := hW.alike
  refine ⟨⟨(va_Z.moved hv a1).kept hq, (va_T.moved hv a2).kept hq⟩, ⟨(va_Z.moved hv b1).kept hq, (va_T.moved hv b2).kept hq⟩, (vk_S.moved hv c1).kept hq, ⟨d1.warm hW, d2.warm hW, d3.warm hW, d4.warm hW, d5.warm hW⟩, (va_Z.moved hv e1).kept hq, (va_Z.moved hv f1).kept hq, ⟨?_, Nat.lt_of_lt_of_le g2 hz, g3⟩, va_Nw.warmF hW n1, fun q hm h1 => va_Nw.warmM hW (n2 q hm h1)⟩
  obtain ⟨scr, h1, h2, h3, h4, h5⟩ := g1
  exact ⟨scr, by rw [hq _ g2 g3]; exact h1, State.isArrayOf_alike hv h2, h3, h4, h5⟩
theorem zEnv.same {E : ZE} {L : Nat} {xs : Nat → Int32} {u U : State} {H : Heap} (hv : U.vm = u.vm) (h : zEnv E L xs u H) : zEnv E L xs U H := by
  obtain ⟨⟨a1, a2⟩, ⟨b1, b2⟩, c1, ⟨d1, d2, d3, d4, d5⟩, e1, f1, ⟨g1, g2, g3⟩, n1, n2⟩ := h
  have hv' : u.vm.Alike U.vm := by rw [hv]; exact Vm.Alike.refl _
  refine ⟨⟨va_Z.moved hv' a1, va_T.moved hv' a2⟩, ⟨va_Z.moved hv' b1, va_T.moved hv' b2⟩, vk_S.moved hv' c1, ⟨d1.same hv, d2.same hv, d3.same hv, d4.same hv, d5.same hv⟩, va_Z.moved hv' e1, va_Z.moved hv' f1, ⟨?_, g2, g3⟩, va_Nw.same rfl hv.symm n1, fun q hm h1 => va_Nw.same rfl hv.symm (n2 q hm h1)⟩
  obtain ⟨scr, h1, h2, h3, h4, h5⟩ := g1
  exact ⟨scr, h1, State.isArrayOf_alike hv' h2, h3, h4, h5⟩
-- small facts of the tables
theorem zx_ft : ∀ c, c < 10 → ∀ k, k < zN c → (zFk c k).1 = 0 ∨ (zFk c k).1 = 5 ∨ (zFk c k).1 = 1 ∨ (zFk c k).1 = 2 := by decide +kernel
theorem zx_S : ∀ a, a < zStb.length → a = 0 ∨ zS a < 10 ∨ 100 ≤ zS a := by decide +kernel
