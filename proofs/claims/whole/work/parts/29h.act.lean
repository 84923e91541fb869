/-! The call act -/
def aR (c : Nat) (p v x : Int32) : Int32 := if c = 2 ∨ c = 5 then x * 3 + p else if c = 4 then -(x + p) else if c = 6 then (x + p) ^^^ v else x + p
def bR (c : Nat) : List Int32 := if c = 2 ∨ c = 5 then [30, 10] else if c = 4 then [50, 10] else if c = 6 then [71, 10] else [10]
def aVS (c : Nat) (p v x : Int32) : Int32 := aR c p v x - v
def bVS (c : Nat) : List Int32 := 11 :: bR c
def aFS (c : Nat) (p v x : Int32) : Int32 := aVS c p v x ^^^ 6
def bFS (c : Nat) : List Int32 := 20 :: bVS c
def aS (c : Nat) (p v x : Int32) : Int32 := if c = 1 then aFS c p v x else if c = 4 then aFS c p v (x + 1) else if c = 6 then aVS c p v x + (2 + p) else aVS c p v x
def bS (c : Nat) : List Int32 := if c = 1 then bFS c else if c = 4 then 51 :: bFS c else if c = 6 then 70 :: (bVS c ++ [10]) else bVS c
def aVT (c : Nat) (p v x : Int32) : Int32 := aS c p v x * 2
def bVT (c : Nat) : List Int32 := 12 :: bS c
def aT (c : Nat) (p v x : Int32) : Int32 := if c = 3 ∨ c = 6 then aVT c p v x + aS c p v 1 else if c = 5 then aVT c p v (x - p) else aVT c p v x
def bT (c : Nat) : List Int32 := if c = 3 ∨ c = 6 then 40 :: (bVT c ++ bS c) else if c = 5 then 60 :: bVT c else bVT c
/-- SeatOn's acts on the way: what was noted, n more may be -/
def T0 (M0 : ZM) (p v : Int32) (c n : Nat) (bs : List Int32) (M : ZM) : Prop := (∀ a, a ≠ 54 → a ≠ 55 → M.1 a = M0.1 a) ∧ M.2 = M0.2 ∧ M.1 54 2 = p ∧ M.1 54 3 = nI c ∧ M.1 54 4 = v ∧ M.1 54 0 = nI bs.length ∧ bs.length + n ≤ 900 ∧ ∀ r, r < bs.length → r < 20 → M.1 55 r = bs.getD r 0
/-- the reference's -/
def U0 (M0 : ZM) (n : Nat) (bs : List Int32) (M : ZM) : Prop := (∀ a, a ≠ 64 → a ≠ 107 → M.1 a = M0.1 a) ∧ (∀ j, j ≠ 64 → M.1 64 j = M0.1 64 j) ∧ M.2 = M0.2 ∧ M.1 64 64 = nI bs.length ∧ bs.length + n ≤ 900 ∧ ∀ r, r < bs.length → r < 20 → M.1 107 r = bs.getD r 0
theorem T0.w {M0 M : ZM} {p v : Int32} {c n m : Nat} {bs : List Int32} (h : m ≤ n) (q : T0 M0 p v c n bs M) : T0 M0 p v c m bs M := ⟨q.1, q.2.1, q.2.2.1, q.2.2.2.1, q.2.2.2.2.1, q.2.2.2.2.2.1, by have := q.2.2.2.2.2.2.1; omega, q.2.2.2.2.2.2.2⟩
theorem U0.w {M0 M : ZM} {n m : Nat} {bs : List Int32} (h : m ≤ n) (q : U0 M0 n bs M) : U0 M0 m bs M := ⟨q.1, q.2.1, q.2.2.1, q.2.2.2.1, by have := q.2.2.2.2.1; omega, q.2.2.2.2.2⟩
theorem gD_lt {l : List Int32} {b : Int32} {r : Nat} (h : r < l.length) : (l ++ [b]).getD r 0 = l.getD r 0 := by
  rw [List.getD_eq_getElem?_getD, List.getD_eq_getElem?_getD, List.getElem?_append_left h]
theorem gD_eq {l : List Int32} {b : Int32} : (l ++ [b]).getD l.length 0 = b := by
  rw [List.getD_eq_getElem?_getD, List.getElem?_append_right (Nat.le_refl _), Nat.sub_self]
  rfl
def hld : Nat → Option Nat → Nat → Option Nat
  | 0, _, _ => none
  | _ + 1, none, _ => none
  | f + 1, some g, a => if (zCA 12).getD (3 * g + a) 0 = 0 then hld f (kAb g) a else some g
section AX
variable {d c n k : Nat} {M0 M : ZM} {p v x : Int32} {bs : List Int32}
theorem c0_note (T : T0 M0 p v c (n + 1) bs M) (b : Int32) : ∃ M', Rt (d + 1) 5 [zR 0 54, zI b] M M' none ∧ T0 M0 p v c n (bs ++ [b]) M' := by
  obtain ⟨h1, h2, h3, h4, h5, h6, h7, h8⟩ := T
  have hl : (bs ++ [b]).length = bs.length + 1 := by rw [List.length_append]; rfl
  by_cases q : bs.length < 20
  · refine ⟨(zu (zu M.1 55 bs.length b) 54 0 (nI (bs.length + 1)), M.2), ro_rt (g_X0_note ?_), fun a ha hb => (zu_ne ha).trans ((zu_ne hb).trans (h1 a ha hb)), h2, h3, h4, h5, by rw [hl]; rfl, by rw [hl]; omega, fun r hr hr2 => ?_⟩
    · rw [h6, zn_nI (by omega), nI_1]
      exact ⟨fun _ => ⟨in_n q (by omega), rfl, rfl⟩, fun r => absurd (nI_lt (b := 20) q (by omega)) r⟩
    · show zu M.1 55 bs.length b 55 r = _
      rw [hl] at hr
      by_cases e : r = bs.length
      · rw [e, zu_kk, gD_eq]
      · rw [zu_kn e, gD_lt (by omega)]
        exact h8 r (by omega) hr2
  · refine ⟨(zu M.1 54 0 (nI (bs.length + 1)), M.2), ro_rt (g_X0_note ?_), fun a ha hb => (zu_ne ha).trans (h1 a ha hb), h2, h3, h4, h5, by rw [hl]; rfl, by rw [hl]; omega, fun r hr hr2 => ?_⟩
    · rw [h6, nI_1]
      exact ⟨fun r => absurd ((nI_ltI (b := 20) (by omega) (by omega)).mp r) q, fun _ => ⟨rfl, rfl⟩⟩
    · show M.1 55 r = _
      rw [gD_lt (by omega)]
      exact h8 r (by omega) hr2
theorem c9_body (T : U0 M0 (n + 1) bs M) (b : Int32) : ∃ M', Rt (d + 1) 217 [zR 9 64, zI b] M M' none ∧ U0 M0 n (bs ++ [b]) M' := by
  obtain ⟨h1, h2, h3, h6, h7, h8⟩ := T
  have hl : (bs ++ [b]).length = bs.length + 1 := by rw [List.length_append]; rfl
  by_cases q : bs.length < 20
  · refine ⟨(zu (zu M.1 107 bs.length b) 64 64 (nI (bs.length + 1)), M.2), ro_rt (g_X9_body ?_), fun a ha hb => (zu_ne ha).trans ((zu_ne hb).trans (h1 a ha hb)), fun j hj => (zu_kn hj).trans (h2 j hj), h3, by rw [hl]; rfl, by rw [hl]; omega, fun r hr hr2 => ?_⟩
    · rw [h6, zn_nI (by omega), nI_1]
      exact ⟨fun _ => ⟨in_n q (by omega), rfl, rfl⟩, fun r => absurd (nI_lt (b := 20) q (by omega)) r⟩
    · show zu M.1 107 bs.length b 107 r = _
      rw [hl] at hr
      by_cases e : r = bs.length
      · rw [e, zu_kk, gD_eq]
      · rw [zu_kn e, gD_lt (by omega)]
        exact h8 r (by omega) hr2
  · refine ⟨(zu M.1 64 64 (nI (bs.length + 1)), M.2), ro_rt (g_X9_body ?_), fun a ha hb => (zu_ne ha).trans (h1 a ha hb), fun j hj => (zu_kn hj).trans (h2 j hj), h3, by rw [hl]; rfl, by rw [hl]; omega, fun r hr hr2 => ?_⟩
    · rw [h6, nI_1]
      exact ⟨fun r => absurd ((nI_ltI (b := 20) (by omega) (by omega)).mp r) q, fun _ => ⟨rfl, rfl⟩⟩
    · show M.1 107 r = _
      rw [gD_lt (by omega)]
      exact h8 r (by omega) hr2
theorem l0_hold {i0 a : Nat} (ha : a < 3) : ∀ (f k : Nat) (o : Option Nat), k + f = 7 → (∀ c, o = some c → c < 7) → A_X0_holderOf_4 d M (nI i0) (nI a) (zoi (-1) o) (nI k) (fun M' v => M' = M ∧ v = some (zI (zoi (-1) (hld f o a)))) := by
  intro f
  induction f with
  | zero =>
    intro k o hk ho
    refine a_X0_holderOf_4 ⟨fun q => absurd q (nI_nlt (b := 7) (by omega) (by omega)), fun _ => ⟨rfl, ?_⟩⟩
    cases o <;> rfl
  | succ f ih =>
    intro k o hk ho
    refine a_X0_holderOf_4 ⟨fun _ => ?_, fun q => absurd (nI_lt (b := 7) (by omega) (by omega)) q⟩
    cases o with
    | none => exact ⟨fun _ => ⟨rfl, rfl⟩, fun q => absurd (by decide) q⟩
    | some g =>
      have hg := ho g rfl
      have e : nI g * 3 + nI a = nI (3 * g + a) := by rw [l_3, pk_mul, nI_add, Nat.mul_comm]
      refine ⟨fun q => absurd q (nI_pos (n := g) (by omega)), fun _ => ?_⟩
      show ¬ (nI g * 3 + nI a < 0 ∨ 21 ≤ zn (nI g * 3 + nI a)) ∧ (((zCA 12).getD (zn (nI g * 3 + nI a)) 0 = 0 → ¬ (nI g < 0 ∨ 7 ≤ zn (nI g)) ∧ A_X0_holderOf_4 d M _ _ ((zCA 11).getD (zn (nI g)) 0) _ _) ∧ (¬ (zCA 12).getD (zn (nI g * 3 + nI a)) 0 = 0 → M = M ∧ some (zI (nI g)) = _))
      rw [e, zn_nI (by omega), zn_nI (by omega), kAb_ABOVE g hg, nI_1]
      unfold hld
      refine ⟨in_n (by omega) (by omega), fun q => ⟨in_n (by omega) (by omega), ?_⟩, fun q => ⟨rfl, ?_⟩⟩
      · rw [if_pos q]
        exact ih (k + 1) (kAb g) (by omega) (fun c hc => kAb_lt hc)
      · rw [if_neg q]
        rfl
theorem c0_perf {f a g : Nat} {M' : ZM} {y : Int32} (hf : f < 7) (ha : a < 3) (hk : k ≤ 40) (hg : hld 7 (some f) a = some g) (g7 : g < 7) (h : Rt (d + 1) 3 [zR 0 54, zI ((zCA 12).getD (3 * g + a) 0), zI (zoi (-1) (kAb g)), zI x, zI (nI (k + 1))] M M' (some (zI y))) : Rt (d + 2) 2 [zR 0 54, zI (nI f), zI (nI a), zI x, zI (nI k)] M M' (some (zI y)) := by
  have e : nI g * 3 + nI a = nI (3 * g + a) := by rw [l_3, pk_mul, nI_add, Nat.mul_comm]
  have hh : Rt (d + 1) 4 [zI (nI f), zI (nI a)] M M (some (zI (nI g))) := by
    have := ro_rt (g_X0_holderOf (l0_hold (d := d) (M := M) (i0 := f) ha 7 0 (some f) (by omega) (fun c hc => by cases hc; exact hf)))
    rw [hg] at this
    exact this
  refine ro_rt (g_X0_perform ⟨M, _, hh, fun q => absurd q (nI_pos (n := g) (by omega)), fun _ => ⟨fun q => absurd q (nI_nlt (a := 40) (by omega) (by omega)), fun _ => ?_⟩⟩)
  rw [e, zn_nI (by omega), zn_nI (by omega), kAb_ABOVE g g7, nI_1]
  exact ⟨in_n (by omega) (by omega), in_n (by omega) (by omega), M', _, h, rfl, rfl⟩
theorem c0_10 {ab : Int32} (T : T0 M0 p v c (n + 1) bs M) : ∃ M', Rt (d + 2) 3 [zR 0 54, zI 10, zI ab, zI x, zI (nI k)] M M' (some (zI (x + p))) ∧ T0 M0 p v c n (bs ++ [10]) M' := by
  obtain ⟨M1, h1, t1⟩ := c0_note (d := d) T 10
  exact ⟨M1, ro_rt (g_X0_runBody ⟨M1, h1, fun _ => ⟨rfl, by rw [t1.2.2.1]⟩, fun q => absurd rfl q⟩), t1⟩
theorem c0_r0 {f : Nat} (hf : f = 0 ∨ f = 1 ∨ f = 3) (hk : k ≤ 40) (T : T0 M0 p v c (n + 1) bs M) : ∃ M', Rt (d + 3) 2 [zR 0 54, zI (nI f), zI 0, zI x, zI (nI k)] M M' (some (zI (x + p))) ∧ T0 M0 p v c n (bs ++ [10]) M' := by
  obtain ⟨M1, h1, t1⟩ := c0_10 (d := d) (k := k + 1) (x := x) (ab := -1) T
  refine ⟨M1, c0_perf (a := 0) (g := 0) (by omega) (by omega) hk ?_ (by omega) h1, t1⟩
  rcases hf with e | e | e <;> rw [e] <;> decide
theorem c0_r (hc : c < 7) (hk : k ≤ 30) (T : T0 M0 p v c (n + 2) bs M) : ∃ M', Rt (d + 5) 2 [zR 0 54, zI (nI c), zI 0, zI x, zI (nI k)] M M' (some (zI (aR c p v x))) ∧ T0 M0 p v c n (bs ++ bR c) M' := by
  match c, hc, T with
  | 0, _, T =>
    obtain ⟨M1, h1, t1⟩ := c0_r0 (d := d + 2) (x := x) (k := k) (f := 0) (Or.inl rfl) (by omega) T
    exact ⟨M1, h1, t1.w (by omega)⟩
  | 1, _, T =>
    obtain ⟨M1, h1, t1⟩ := c0_r0 (d := d + 2) (x := x) (k := k) (f := 1) (Or.inr (Or.inl rfl)) (by omega) T
    exact ⟨M1, h1, t1.w (by omega)⟩
  | 3, _, T =>
    obtain ⟨M1, h1, t1⟩ := c0_r0 (d := d + 2) (x := x) (k := k) (f := 3) (Or.inr (Or.inr rfl)) (by omega) T
    exact ⟨M1, h1, t1.w (by omega)⟩
  | 2, _, T =>
    obtain ⟨M1, h1, t1⟩ := c0_note (d := d + 2) T 30
    obtain ⟨M2, h2, t2⟩ := c0_r0 (d := d) (x := x * 3) (k := k + 1) (f := 0) (Or.inl rfl) (by omega) t1
    refine ⟨M2, c0_perf (a := 0) (g := 2) (by omega) (by omega) (by omega) (by decide) (by omega) (ro_rt (g_X0_runBody ⟨M1, h1, fun q => absurd q (by decide), fun _ => ⟨fun q => absurd q (by decide), fun _ => ⟨fun q => absurd q (by decide), fun _ => ⟨fun q => absurd q (by decide), fun _ => ⟨fun _ => ⟨M2, _, h2, rfl, rfl⟩, fun q => absurd rfl q⟩⟩⟩⟩⟩)), ?_⟩
    rw [List.append_assoc] at t2
    exact t2
  | 5, _, T =>
    obtain ⟨M1, h1, t1⟩ := c0_note (d := d + 2) T 30
    obtain ⟨M2, h2, t2⟩ := c0_r0 (d := d) (x := x * 3) (k := k + 1) (f := 0) (Or.inl rfl) (by omega) t1
    refine ⟨M2, c0_perf (a := 0) (g := 2) (by omega) (by omega) (by omega) (by decide) (by omega) (ro_rt (g_X0_runBody ⟨M1, h1, fun q => absurd q (by decide), fun _ => ⟨fun q => absurd q (by decide), fun _ => ⟨fun q => absurd q (by decide), fun _ => ⟨fun q => absurd q (by decide), fun _ => ⟨fun _ => ⟨M2, _, h2, rfl, rfl⟩, fun q => absurd rfl q⟩⟩⟩⟩⟩)), ?_⟩
    rw [List.append_assoc] at t2
    exact t2
  | 4, _, T =>
    obtain ⟨M1, h1, t1⟩ := c0_note (d := d + 2) T 50
    obtain ⟨M2, h2, t2⟩ := c0_r0 (d := d) (x := x) (k := k + 1) (f := 1) (Or.inr (Or.inl rfl)) (by omega) t1
    refine ⟨M2, c0_perf (a := 0) (g := 4) (by omega) (by omega) (by omega) (by decide) (by omega) (ro_rt (g_X0_runBody ⟨M1, h1, fun q => absurd q (by decide), fun _ => ⟨fun q => absurd q (by decide), fun _ => ⟨fun q => absurd q (by decide), fun _ => ⟨fun q => absurd q (by decide), fun _ => ⟨fun q => absurd q (by decide), fun _ => ⟨fun q => absurd q (by decide), fun _ => ⟨fun _ => ⟨M2, _, h2, rfl, rfl⟩, fun q => absurd rfl q⟩⟩⟩⟩⟩⟩⟩)), ?_⟩
    rw [List.append_assoc] at t2
    exact t2
  | 6, _, T =>
    obtain ⟨M1, h1, t1⟩ := c0_note (d := d + 2) T 71
    obtain ⟨M2, h2, t2⟩ := c0_r0 (d := d) (x := x) (k := k + 1) (f := 3) (Or.inr (Or.inr rfl)) (by omega) t1
    refine ⟨M2, c0_perf (a := 0) (g := 6) (by omega) (by omega) (by omega) (by decide) (by omega) (ro_rt (g_X0_runBody ⟨M1, h1, fun q => absurd q (by decide), fun _ => ⟨fun q => absurd q (by decide), fun _ => ⟨fun q => absurd q (by decide), fun _ => ⟨fun q => absurd q (by decide), fun _ => ⟨fun q => absurd q (by decide), fun _ => ⟨fun q => absurd q (by decide), fun _ => ⟨fun q => absurd q (by decide), fun _ => ⟨fun q => absurd q (by decide), fun _ => ⟨fun q => absurd q (by decide), fun _ => ⟨fun q => absurd q (by decide), fun _ => ⟨fun _ => ⟨M2, _, h2, rfl, (by rw [t2.2.2.2.2.1]; rfl)⟩, fun q => absurd rfl q⟩⟩⟩⟩⟩⟩⟩⟩⟩⟩⟩)), ?_⟩
    rw [List.append_assoc] at t2
    exact t2
theorem c0_vs {f : Nat} (hf : f = 0 ∨ f = 2 ∨ f = 3 ∨ f = 5) (hc : c < 7) (hk : k ≤ 28) (T : T0 M0 p v c (n + 3) bs M) : ∃ M', Rt (d + 7) 2 [zR 0 54, zI (nI f), zI 1, zI x, zI (nI k)] M M' (some (zI (aVS c p v x))) ∧ T0 M0 p v c n (bs ++ bVS c) M' := by
  obtain ⟨M1, h1, t1⟩ := c0_note (d := d + 4) T 11
  obtain ⟨M2, h2, t2⟩ := c0_r (d := d) (x := x) (k := k + 1) hc (by omega) t1
  refine ⟨M2, c0_perf (a := 1) (g := 0) (by omega) (by omega) (by omega) ?_ (by omega) (ro_rt (g_X0_runBody ⟨M1, h1, fun q => absurd q (by decide), fun _ => ⟨fun _ => ⟨M2, _, by rw [t1.2.2.2.1]; exact h2, rfl, by rw [t2.2.2.2.2.1]; rfl⟩, fun q => absurd rfl q⟩⟩)), ?_⟩
  · rcases hf with e | e | e | e <;> rw [e] <;> decide
  · rw [List.append_assoc] at t2
    exact t2
theorem c0_fs (hc : c < 7) (hk : k ≤ 26) (T : T0 M0 p v c (n + 4) bs M) : ∃ M', Rt (d + 9) 2 [zR 0 54, zI (nI 1), zI 1, zI x, zI (nI k)] M M' (some (zI (aFS c p v x))) ∧ T0 M0 p v c n (bs ++ bFS c) M' := by
  obtain ⟨M1, h1, t1⟩ := c0_note (d := d + 6) T 20
  obtain ⟨M2, h2, t2⟩ := c0_vs (d := d) (x := x) (k := k + 1) (f := 0) (Or.inl rfl) hc (by omega) t1
  refine ⟨M2, c0_perf (a := 1) (g := 1) (by omega) (by omega) (by omega) (by decide) (by omega) (ro_rt (g_X0_runBody ⟨M1, h1, fun q => absurd q (by decide), fun _ => ⟨fun q => absurd q (by decide), fun _ => ⟨fun q => absurd q (by decide), fun _ => ⟨fun _ => ⟨M2, _, h2, rfl, rfl⟩, fun q => absurd rfl q⟩⟩⟩⟩)), ?_⟩
  rw [List.append_assoc] at t2
  exact t2
theorem c0_s (hc : c < 7) (hk : k ≤ 24) (T : T0 M0 p v c (n + 5) bs M) : ∃ M', Rt (d + 11) 2 [zR 0 54, zI (nI c), zI 1, zI x, zI (nI k)] M M' (some (zI (aS c p v x))) ∧ T0 M0 p v c n (bs ++ bS c) M' := by
  match c, hc, T with
  | 0, hc, T =>
    obtain ⟨M1, h1, t1⟩ := c0_vs (d := d + 4) (x := x) (k := k) (f := 0) (Or.inl rfl) hc (by omega) (T.w (m := n + 3) (by omega))
    exact ⟨M1, h1, t1⟩
  | 2, hc, T =>
    obtain ⟨M1, h1, t1⟩ := c0_vs (d := d + 4) (x := x) (k := k) (f := 2) (Or.inr (Or.inl rfl)) hc (by omega) (T.w (m := n + 3) (by omega))
    exact ⟨M1, h1, t1⟩
  | 3, hc, T =>
    obtain ⟨M1, h1, t1⟩ := c0_vs (d := d + 4) (x := x) (k := k) (f := 3) (Or.inr (Or.inr (Or.inl rfl))) hc (by omega) (T.w (m := n + 3) (by omega))
    exact ⟨M1, h1, t1⟩
  | 5, hc, T =>
    obtain ⟨M1, h1, t1⟩ := c0_vs (d := d + 4) (x := x) (k := k) (f := 5) (Or.inr (Or.inr (Or.inr rfl))) hc (by omega) (T.w (m := n + 3) (by omega))
    exact ⟨M1, h1, t1⟩
  | 1, hc, T =>
    obtain ⟨M1, h1, t1⟩ := c0_fs (d := d + 2) (x := x) (k := k) hc (by omega) (T.w (m := n + 4) (by omega))
    exact ⟨M1, h1, t1⟩
  | 4, hc, T =>
    obtain ⟨M1, h1, t1⟩ := c0_note (d := d + 8) T 51
    obtain ⟨M2, h2, t2⟩ := c0_fs (d := d) (x := x + 1) (k := k + 1) hc (by omega) t1
    refine ⟨M2, c0_perf (a := 1) (g := 4) (by omega) (by omega) (by omega) (by decide) (by omega) (ro_rt (g_X0_runBody ⟨M1, h1, fun q => absurd q (by decide), fun _ => ⟨fun q => absurd q (by decide), fun _ => ⟨fun q => absurd q (by decide), fun _ => ⟨fun q => absurd q (by decide), fun _ => ⟨fun q => absurd q (by decide), fun _ => ⟨fun q => absurd q (by decide), fun _ => ⟨fun q => absurd q (by decide), fun _ => ⟨fun _ => ⟨M2, _, h2, rfl, rfl⟩, fun q => absurd rfl q⟩⟩⟩⟩⟩⟩⟩⟩)), ?_⟩
    rw [List.append_assoc] at t2
    exact t2
  | 6, hc, T =>
    obtain ⟨M1, h1, t1⟩ := c0_note (d := d + 8) T 70
    obtain ⟨M2, h2, t2⟩ := c0_vs (d := d + 2) (x := x) (k := k + 1) (f := 3) (Or.inr (Or.inr (Or.inl rfl))) hc (by omega) (t1.w (m := n + 1 + 3) (by omega))
    obtain ⟨M3, h3, t3⟩ := c0_r0 (d := d + 6) (x := 2) (k := k + 1) (f := 3) (Or.inr (Or.inr rfl)) (by omega) t2
    refine ⟨M3, c0_perf (a := 1) (g := 6) (by omega) (by omega) (by omega) (by decide) (by omega) (ro_rt (g_X0_runBody ⟨M1, h1, fun q => absurd q (by decide), fun _ => ⟨fun q => absurd q (by decide), fun _ => ⟨fun q => absurd q (by decide), fun _ => ⟨fun q => absurd q (by decide), fun _ => ⟨fun q => absurd q (by decide), fun _ => ⟨fun q => absurd q (by decide), fun _ => ⟨fun q => absurd q (by decide), fun _ => ⟨fun q => absurd q (by decide), fun _ => ⟨fun q => absurd q (by decide), fun _ => ⟨fun _ => ⟨M2, _, h2, M3, _, h3, rfl, rfl⟩, fun q => absurd rfl q⟩⟩⟩⟩⟩⟩⟩⟩⟩⟩)), ?_⟩
    rw [List.append_assoc, List.append_assoc] at t3
    exact t3
theorem c0_vt {f : Nat} (hf : f = 0 ∨ f = 1 ∨ f = 2 ∨ f = 4) (hc : c < 7) (hk : k ≤ 22) (T : T0 M0 p v c (n + 6) bs M) : ∃ M', Rt (d + 13) 2 [zR 0 54, zI (nI f), zI 2, zI x, zI (nI k)] M M' (some (zI (aVT c p v x))) ∧ T0 M0 p v c n (bs ++ bVT c) M' := by
  obtain ⟨M1, h1, t1⟩ := c0_note (d := d + 10) T 12
  obtain ⟨M2, h2, t2⟩ := c0_s (d := d) (x := x) (k := k + 1) hc (by omega) t1
  refine ⟨M2, c0_perf (a := 2) (g := 0) (by omega) (by omega) (by omega) ?_ (by omega) (ro_rt (g_X0_runBody ⟨M1, h1, fun q => absurd q (by decide), fun _ => ⟨fun q => absurd q (by decide), fun _ => ⟨fun _ => ⟨M2, _, by rw [t1.2.2.2.1]; exact h2, rfl, rfl⟩, fun q => absurd rfl q⟩⟩⟩)), ?_⟩
  · rcases hf with e | e | e | e <;> rw [e] <;> decide
  · rw [List.append_assoc] at t2
    exact t2
theorem c0_t (hc : c < 7) (hk : k ≤ 20) (T : T0 M0 p v c (n + 12) bs M) : ∃ M', Rt (d + 15) 2 [zR 0 54, zI (nI c), zI 2, zI x, zI (nI k)] M M' (some (zI (aT c p v x))) ∧ T0 M0 p v c n (bs ++ bT c) M' := by
  match c, hc, T with
  | 0, hc, T =>
    obtain ⟨M1, h1, t1⟩ := c0_vt (d := d + 2) (x := x) (k := k) (f := 0) (Or.inl rfl) hc (by omega) (T.w (m := n + 6) (by omega))
    exact ⟨M1, h1, t1⟩
  | 1, hc, T =>
    obtain ⟨M1, h1, t1⟩ := c0_vt (d := d + 2) (x := x) (k := k) (f := 1) (Or.inr (Or.inl rfl)) hc (by omega) (T.w (m := n + 6) (by omega))
    exact ⟨M1, h1, t1⟩
  | 2, hc, T =>
    obtain ⟨M1, h1, t1⟩ := c0_vt (d := d + 2) (x := x) (k := k) (f := 2) (Or.inr (Or.inr (Or.inl rfl))) hc (by omega) (T.w (m := n + 6) (by omega))
    exact ⟨M1, h1, t1⟩
  | 4, hc, T =>
    obtain ⟨M1, h1, t1⟩ := c0_vt (d := d + 2) (x := x) (k := k) (f := 4) (Or.inr (Or.inr (Or.inr rfl))) hc (by omega) (T.w (m := n + 6) (by omega))
    exact ⟨M1, h1, t1⟩
  | 3, hc, T =>
    obtain ⟨M1, h1, t1⟩ := c0_note (d := d + 12) T 40
    obtain ⟨M2, h2, t2⟩ := c0_vt (d := d) (x := x) (k := k + 1) (f := 0) (Or.inl rfl) hc (by omega) (t1.w (m := n + 5 + 6) (by omega))
    obtain ⟨M3, h3, t3⟩ := c0_s (d := d + 2) (x := 1) (k := k + 1) hc (by omega) t2
    refine ⟨M3, c0_perf (a := 2) (g := 3) (by omega) (by omega) (by omega) (by decide) (by omega) (ro_rt (g_X0_runBody ⟨M1, h1, fun q => absurd q (by decide), fun _ => ⟨fun q => absurd q (by decide), fun _ => ⟨fun q => absurd q (by decide), fun _ => ⟨fun q => absurd q (by decide), fun _ => ⟨fun q => absurd q (by decide), fun _ => ⟨fun _ => ⟨M2, _, h2, M3, _, by rw [t2.2.2.2.1]; exact h3, rfl, rfl⟩, fun q => absurd rfl q⟩⟩⟩⟩⟩⟩)), ?_⟩
    rw [List.append_assoc, List.append_assoc] at t3
    exact t3
  | 6, hc, T =>
    obtain ⟨M1, h1, t1⟩ := c0_note (d := d + 12) T 40
    obtain ⟨M2, h2, t2⟩ := c0_vt (d := d) (x := x) (k := k + 1) (f := 0) (Or.inl rfl) hc (by omega) (t1.w (m := n + 5 + 6) (by omega))
    obtain ⟨M3, h3, t3⟩ := c0_s (d := d + 2) (x := 1) (k := k + 1) hc (by omega) t2
    refine ⟨M3, c0_perf (a := 2) (g := 3) (by omega) (by omega) (by omega) (by decide) (by omega) (ro_rt (g_X0_runBody ⟨M1, h1, fun q => absurd q (by decide), fun _ => ⟨fun q => absurd q (by decide), fun _ => ⟨fun q => absurd q (by decide), fun _ => ⟨fun q => absurd q (by decide), fun _ => ⟨fun q => absurd q (by decide), fun _ => ⟨fun _ => ⟨M2, _, h2, M3, _, by rw [t2.2.2.2.1]; exact h3, rfl, rfl⟩, fun q => absurd rfl q⟩⟩⟩⟩⟩⟩)), ?_⟩
    rw [List.append_assoc, List.append_assoc] at t3
    exact t3
  | 5, hc, T =>
    obtain ⟨M1, h1, t1⟩ := c0_note (d := d + 12) T 60
    obtain ⟨M2, h2, t2⟩ := c0_vt (d := d) (x := x - p) (k := k + 1) (f := 2) (Or.inr (Or.inr (Or.inl rfl))) hc (by omega) (t1.w (m := n + 6) (by omega))
    refine ⟨M2, c0_perf (a := 2) (g := 5) (by omega) (by omega) (by omega) (by decide) (by omega) (ro_rt (g_X0_runBody ⟨M1, h1, fun q => absurd q (by decide), fun _ => ⟨fun q => absurd q (by decide), fun _ => ⟨fun q => absurd q (by decide), fun _ => ⟨fun q => absurd q (by decide), fun _ => ⟨fun q => absurd q (by decide), fun _ => ⟨fun q => absurd q (by decide), fun _ => ⟨fun q => absurd q (by decide), fun _ => ⟨fun q => absurd q (by decide), fun _ => ⟨fun _ => ⟨M2, _, by rw [t1.2.2.1]; exact h2, rfl, rfl⟩, fun q => absurd rfl q⟩⟩⟩⟩⟩⟩⟩⟩⟩)), ?_⟩
    rw [List.append_assoc] at t2
    exact t2
-- the reference's acts of person a
variable {a : Nat}
theorem c9_vr (T : U0 M0 (n + 1) bs M) : ∃ M', Rt (d + 2) 218 [zR 9 64, zI p, zI x] M M' (some (zI (x + p))) ∧ U0 M0 n (bs ++ [10]) M' := by
  obtain ⟨M1, h1, t1⟩ := c9_body (d := d) T 10
  exact ⟨M1, ro_rt (g_X9_voiceRises ⟨M1, h1, rfl, rfl⟩), t1⟩
theorem c9_r (hc : c < 7) (ha : a < 7) (hk : M0.1 68 a = nI c) (hv : M0.1 69 a = v) (T : U0 M0 (n + 2) bs M) : ∃ M', Rt (d + 3) 219 [zR 9 64, zI (nI a), zI x] M M' (some (zI (aR c (nI a) v x))) ∧ U0 M0 n (bs ++ bR c) M' := by
  have i := in_nI (n := a) (N := 7) ha (by omega)
  have k68 : M.1 68 (zn (nI a)) = nI c := by rw [zn_nI (by omega), T.1 68 (by omega) (by omega)]; exact hk
  match c, hc with
  | 0, _ =>
    obtain ⟨M1, h1, t1⟩ := c9_vr (d := d) (p := nI a) (x := x) T
    refine ⟨M1, ro_rt (g_X9_risesAct ⟨i, ?_⟩), t1.w (by omega)⟩
    rw [k68]
    exact ⟨fun q => absurd q (by decide), fun _ => ⟨fun q => absurd q (by decide), fun _ => ⟨fun q => absurd q (by decide), fun _ => ⟨fun q => absurd q (by decide), fun _ => ⟨fun q => absurd q (by decide), fun _ => ⟨M1, _, h1, rfl, rfl⟩⟩⟩⟩⟩⟩
  | 1, _ =>
    obtain ⟨M1, h1, t1⟩ := c9_vr (d := d) (p := nI a) (x := x) T
    refine ⟨M1, ro_rt (g_X9_risesAct ⟨i, ?_⟩), t1.w (by omega)⟩
    rw [k68]
    exact ⟨fun q => absurd q (by decide), fun _ => ⟨fun q => absurd q (by decide), fun _ => ⟨fun q => absurd q (by decide), fun _ => ⟨fun q => absurd q (by decide), fun _ => ⟨fun q => absurd q (by decide), fun _ => ⟨M1, _, h1, rfl, rfl⟩⟩⟩⟩⟩⟩
  | 2, _ =>
    obtain ⟨M1, h1, t1⟩ := c9_body (d := d + 1) T 30
    obtain ⟨M2, h2, t2⟩ := c9_vr (d := d) (p := nI a) (x := x * 3) t1
    refine ⟨M2, ro_rt (g_X9_risesAct ⟨i, ?_⟩), by rw [List.append_assoc] at t2; exact t2⟩
    rw [k68]
    exact ⟨fun _ => ⟨M1, h1, M2, _, h2, rfl, rfl⟩, fun q => absurd rfl q⟩
  | 3, _ =>
    obtain ⟨M1, h1, t1⟩ := c9_vr (d := d) (p := nI a) (x := x) T
    refine ⟨M1, ro_rt (g_X9_risesAct ⟨i, ?_⟩), t1.w (by omega)⟩
    rw [k68]
    exact ⟨fun q => absurd q (by decide), fun _ => ⟨fun _ => ⟨M1, _, h1, rfl, rfl⟩, fun q => absurd rfl q⟩⟩
  | 4, _ =>
    obtain ⟨M1, h1, t1⟩ := c9_body (d := d + 1) T 50
    obtain ⟨M2, h2, t2⟩ := c9_vr (d := d) (p := nI a) (x := x) t1
    refine ⟨M2, ro_rt (g_X9_risesAct ⟨i, ?_⟩), by rw [List.append_assoc] at t2; exact t2⟩
    rw [k68]
    exact ⟨fun q => absurd q (by decide), fun _ => ⟨fun q => absurd q (by decide), fun _ => ⟨fun _ => ⟨M1, h1, M2, _, h2, rfl, rfl⟩, fun q => absurd rfl q⟩⟩⟩
  | 5, _ =>
    obtain ⟨M1, h1, t1⟩ := c9_body (d := d + 1) T 30
    obtain ⟨M2, h2, t2⟩ := c9_vr (d := d) (p := nI a) (x := x * 3) t1
    refine ⟨M2, ro_rt (g_X9_risesAct ⟨i, ?_⟩), by rw [List.append_assoc] at t2; exact t2⟩
    rw [k68]
    exact ⟨fun q => absurd q (by decide), fun _ => ⟨fun q => absurd q (by decide), fun _ => ⟨fun q => absurd q (by decide), fun _ => ⟨fun _ => ⟨M1, h1, M2, _, h2, rfl, rfl⟩, fun q => absurd rfl q⟩⟩⟩⟩
  | 6, _ =>
    obtain ⟨M1, h1, t1⟩ := c9_body (d := d + 1) T 71
    obtain ⟨M2, h2, t2⟩ := c9_vr (d := d) (p := nI a) (x := x) t1
    have k69 : M2.1 69 (zn (nI a)) = v := by rw [zn_nI (by omega), t2.1 69 (by omega) (by omega)]; exact hv
    refine ⟨M2, ro_rt (g_X9_risesAct ⟨i, ?_⟩), by rw [List.append_assoc] at t2; exact t2⟩
    rw [k68]
    exact ⟨fun q => absurd q (by decide), fun _ => ⟨fun q => absurd q (by decide), fun _ => ⟨fun q => absurd q (by decide), fun _ => ⟨fun q => absurd q (by decide), fun _ => ⟨fun _ => ⟨M1, h1, M2, _, h2, i, rfl, by rw [k69]; rfl⟩, fun q => absurd rfl q⟩⟩⟩⟩⟩
theorem c9_vs (hc : c < 7) (ha : a < 7) (hk : M0.1 68 a = nI c) (hv : M0.1 69 a = v) (T : U0 M0 (n + 3) bs M) : ∃ M', Rt (d + 4) 220 [zR 9 64, zI (nI a), zI x] M M' (some (zI (aVS c (nI a) v x))) ∧ U0 M0 n (bs ++ bVS c) M' := by
  obtain ⟨M1, h1, t1⟩ := c9_body (d := d + 2) T 11
  obtain ⟨M2, h2, t2⟩ := c9_r (d := d) (x := x) hc ha hk hv t1
  have k69 : M2.1 69 (zn (nI a)) = v := by rw [zn_nI (by omega), t2.1 69 (by omega) (by omega)]; exact hv
  refine ⟨M2, ro_rt (g_X9_voiceSits ⟨M1, h1, M2, _, h2, in_nI ha (by omega), rfl, by rw [k69]; rfl⟩), by rw [List.append_assoc] at t2; exact t2⟩
theorem c9_fs (hc : c < 7) (ha : a < 7) (hk : M0.1 68 a = nI c) (hv : M0.1 69 a = v) (T : U0 M0 (n + 4) bs M) : ∃ M', Rt (d + 5) 221 [zR 9 64, zI (nI a), zI x] M M' (some (zI (aFS c (nI a) v x))) ∧ U0 M0 n (bs ++ bFS c) M' := by
  obtain ⟨M1, h1, t1⟩ := c9_body (d := d + 3) T 20
  obtain ⟨M2, h2, t2⟩ := c9_vs (d := d) (x := x) hc ha hk hv t1
  refine ⟨M2, ro_rt (g_X9_firmSits ⟨M1, h1, M2, _, h2, rfl, rfl⟩), by rw [List.append_assoc] at t2; exact t2⟩
theorem c9_s (hc : c < 7) (ha : a < 7) (hk : M0.1 68 a = nI c) (hv : M0.1 69 a = v) (T : U0 M0 (n + 5) bs M) : ∃ M', Rt (d + 6) 222 [zR 9 64, zI (nI a), zI x] M M' (some (zI (aS c (nI a) v x))) ∧ U0 M0 n (bs ++ bS c) M' := by
  have i := in_nI (n := a) (N := 7) ha (by omega)
  have k68 : M.1 68 (zn (nI a)) = nI c := by rw [zn_nI (by omega), T.1 68 (by omega) (by omega)]; exact hk
  have hc' := hc
  match c, hc with
  | 0, _ =>
    obtain ⟨M1, h1, t1⟩ := c9_vs (d := d + 1) (x := x) hc' ha hk hv (T.w (m := n + 3) (by omega))
    refine ⟨M1, ro_rt (g_X9_sitsAct ⟨i, ?_⟩), t1⟩
    rw [k68]
    exact ⟨fun q => absurd q (by decide), fun _ => ⟨fun q => absurd q (by decide), fun _ => ⟨fun q => absurd q (by decide), fun _ => ⟨M1, _, h1, rfl, rfl⟩⟩⟩⟩
  | 1, _ =>
    obtain ⟨M1, h1, t1⟩ := c9_fs (d := d) (x := x) hc' ha hk hv (T.w (m := n + 4) (by omega))
    refine ⟨M1, ro_rt (g_X9_sitsAct ⟨i, ?_⟩), t1⟩
    rw [k68]
    exact ⟨fun _ => ⟨M1, _, h1, rfl, rfl⟩, fun q => absurd rfl q⟩
  | 2, _ =>
    obtain ⟨M1, h1, t1⟩ := c9_vs (d := d + 1) (x := x) hc' ha hk hv (T.w (m := n + 3) (by omega))
    refine ⟨M1, ro_rt (g_X9_sitsAct ⟨i, ?_⟩), t1⟩
    rw [k68]
    exact ⟨fun q => absurd q (by decide), fun _ => ⟨fun q => absurd q (by decide), fun _ => ⟨fun q => absurd q (by decide), fun _ => ⟨M1, _, h1, rfl, rfl⟩⟩⟩⟩
  | 3, _ =>
    obtain ⟨M1, h1, t1⟩ := c9_vs (d := d + 1) (x := x) hc' ha hk hv (T.w (m := n + 3) (by omega))
    refine ⟨M1, ro_rt (g_X9_sitsAct ⟨i, ?_⟩), t1⟩
    rw [k68]
    exact ⟨fun q => absurd q (by decide), fun _ => ⟨fun q => absurd q (by decide), fun _ => ⟨fun q => absurd q (by decide), fun _ => ⟨M1, _, h1, rfl, rfl⟩⟩⟩⟩
  | 4, _ =>
    obtain ⟨M1, h1, t1⟩ := c9_body (d := d + 4) T 51
    obtain ⟨M2, h2, t2⟩ := c9_fs (d := d) (x := x + 1) hc' ha hk hv t1
    refine ⟨M2, ro_rt (g_X9_sitsAct ⟨i, ?_⟩), by rw [List.append_assoc] at t2; exact t2⟩
    rw [k68]
    exact ⟨fun q => absurd q (by decide), fun _ => ⟨fun _ => ⟨M1, h1, M2, _, h2, rfl, rfl⟩, fun q => absurd rfl q⟩⟩
  | 5, _ =>
    obtain ⟨M1, h1, t1⟩ := c9_vs (d := d + 1) (x := x) hc' ha hk hv (T.w (m := n + 3) (by omega))
    refine ⟨M1, ro_rt (g_X9_sitsAct ⟨i, ?_⟩), t1⟩
    rw [k68]
    exact ⟨fun q => absurd q (by decide), fun _ => ⟨fun q => absurd q (by decide), fun _ => ⟨fun q => absurd q (by decide), fun _ => ⟨M1, _, h1, rfl, rfl⟩⟩⟩⟩
  | 6, _ =>
    obtain ⟨M1, h1, t1⟩ := c9_body (d := d + 4) T 70
    obtain ⟨M2, h2, t2⟩ := c9_vs (d := d + 1) (x := x) hc' ha hk hv (t1.w (m := n + 1 + 3) (by omega))
    obtain ⟨M3, h3, t3⟩ := c9_vr (d := d + 3) (p := nI a) (x := 2) t2
    refine ⟨M3, ro_rt (g_X9_sitsAct ⟨i, ?_⟩), by rw [List.append_assoc, List.append_assoc] at t3; exact t3⟩
    rw [k68]
    exact ⟨fun q => absurd q (by decide), fun _ => ⟨fun q => absurd q (by decide), fun _ => ⟨fun _ => ⟨M1, h1, M2, _, h2, M3, _, h3, rfl, rfl⟩, fun q => absurd rfl q⟩⟩⟩
theorem c9_vt (hc : c < 7) (ha : a < 7) (hk : M0.1 68 a = nI c) (hv : M0.1 69 a = v) (T : U0 M0 (n + 6) bs M) : ∃ M', Rt (d + 7) 223 [zR 9 64, zI (nI a), zI x] M M' (some (zI (aVT c (nI a) v x))) ∧ U0 M0 n (bs ++ bVT c) M' := by
  obtain ⟨M1, h1, t1⟩ := c9_body (d := d + 5) T 12
  obtain ⟨M2, h2, t2⟩ := c9_s (d := d) (x := x) hc ha hk hv t1
  refine ⟨M2, ro_rt (g_X9_voiceTells ⟨M1, h1, M2, _, h2, rfl, rfl⟩), by rw [List.append_assoc] at t2; exact t2⟩
theorem c9_t (hc : c < 7) (ha : a < 7) (hk : M0.1 68 a = nI c) (hv : M0.1 69 a = v) (T : U0 M0 (n + 12) bs M) : ∃ M', Rt (d + 8) 224 [zR 9 64, zI (nI a), zI x] M M' (some (zI (aT c (nI a) v x))) ∧ U0 M0 n (bs ++ bT c) M' := by
  have i := in_nI (n := a) (N := 7) ha (by omega)
  have k68 : M.1 68 (zn (nI a)) = nI c := by rw [zn_nI (by omega), T.1 68 (by omega) (by omega)]; exact hk
  have hc' := hc
  match c, hc with
  | 0, _ =>
    obtain ⟨M1, h1, t1⟩ := c9_vt (d := d) (x := x) hc' ha hk hv (T.w (m := n + 6) (by omega))
    refine ⟨M1, ro_rt (g_X9_tellsAct ⟨i, ?_⟩), t1⟩
    rw [k68]
    exact ⟨fun q => absurd q (by decide), fun _ => ⟨fun q => absurd q (by decide), fun _ => ⟨fun q => absurd q (by decide), fun _ => ⟨fun q => absurd q (by decide), fun _ => ⟨M1, _, h1, rfl, rfl⟩⟩⟩⟩⟩
  | 1, _ =>
    obtain ⟨M1, h1, t1⟩ := c9_vt (d := d) (x := x) hc' ha hk hv (T.w (m := n + 6) (by omega))
    refine ⟨M1, ro_rt (g_X9_tellsAct ⟨i, ?_⟩), t1⟩
    rw [k68]
    exact ⟨fun q => absurd q (by decide), fun _ => ⟨fun q => absurd q (by decide), fun _ => ⟨fun q => absurd q (by decide), fun _ => ⟨fun q => absurd q (by decide), fun _ => ⟨M1, _, h1, rfl, rfl⟩⟩⟩⟩⟩
  | 2, _ =>
    obtain ⟨M1, h1, t1⟩ := c9_vt (d := d) (x := x) hc' ha hk hv (T.w (m := n + 6) (by omega))
    refine ⟨M1, ro_rt (g_X9_tellsAct ⟨i, ?_⟩), t1⟩
    rw [k68]
    exact ⟨fun q => absurd q (by decide), fun _ => ⟨fun q => absurd q (by decide), fun _ => ⟨fun q => absurd q (by decide), fun _ => ⟨fun q => absurd q (by decide), fun _ => ⟨M1, _, h1, rfl, rfl⟩⟩⟩⟩⟩
  | 3, _ =>
    obtain ⟨M1, h1, t1⟩ := c9_body (d := d + 6) T 40
    obtain ⟨M2, h2, t2⟩ := c9_vt (d := d) (x := x) hc' ha hk hv (t1.w (m := n + 5 + 6) (by omega))
    obtain ⟨M3, h3, t3⟩ := c9_s (d := d + 1) (x := 1) hc' ha hk hv t2
    refine ⟨M3, ro_rt (g_X9_tellsAct ⟨i, ?_⟩), by rw [List.append_assoc, List.append_assoc] at t3; exact t3⟩
    rw [k68]
    exact ⟨fun _ => ⟨M1, h1, M2, _, h2, M3, _, h3, rfl, rfl⟩, fun q => absurd rfl q⟩
  | 4, _ =>
    obtain ⟨M1, h1, t1⟩ := c9_vt (d := d) (x := x) hc' ha hk hv (T.w (m := n + 6) (by omega))
    refine ⟨M1, ro_rt (g_X9_tellsAct ⟨i, ?_⟩), t1⟩
    rw [k68]
    exact ⟨fun q => absurd q (by decide), fun _ => ⟨fun _ => ⟨M1, _, h1, rfl, rfl⟩, fun q => absurd rfl q⟩⟩
  | 5, _ =>
    obtain ⟨M1, h1, t1⟩ := c9_body (d := d + 6) T 60
    obtain ⟨M2, h2, t2⟩ := c9_vt (d := d) (x := x - nI a) hc' ha hk hv (t1.w (m := n + 6) (by omega))
    refine ⟨M2, ro_rt (g_X9_tellsAct ⟨i, ?_⟩), by rw [List.append_assoc] at t2; exact t2⟩
    rw [k68]
    exact ⟨fun q => absurd q (by decide), fun _ => ⟨fun q => absurd q (by decide), fun _ => ⟨fun _ => ⟨M1, h1, M2, _, h2, rfl, rfl⟩, fun q => absurd rfl q⟩⟩⟩
  | 6, _ =>
    obtain ⟨M1, h1, t1⟩ := c9_body (d := d + 6) T 40
    obtain ⟨M2, h2, t2⟩ := c9_vt (d := d) (x := x) hc' ha hk hv (t1.w (m := n + 5 + 6) (by omega))
    obtain ⟨M3, h3, t3⟩ := c9_s (d := d + 1) (x := 1) hc' ha hk hv t2
    refine ⟨M3, ro_rt (g_X9_tellsAct ⟨i, ?_⟩), by rw [List.append_assoc, List.append_assoc] at t3; exact t3⟩
    rw [k68]
    exact ⟨fun q => absurd q (by decide), fun _ => ⟨fun q => absurd q (by decide), fun _ => ⟨fun q => absurd q (by decide), fun _ => ⟨fun _ => ⟨M1, h1, M2, _, h2, M3, _, h3, rfl, rfl⟩, fun q => absurd rfl q⟩⟩⟩⟩
end AX
theorem op_act (i k x : Int32) : Op 118 225 [zI i, zI k, zI x] := fun M W h hi => by
  obtain ⟨q1, q2, q3, q4, q5, q6, q7, q8, q9, q10, q11, ac, q13, V⟩ := id hi
  have b2 := q3.2.1
  have b3 := q3.2.2.1
  have g1 : ∀ M', (∀ a, a ≠ 54 → a ≠ 55 → M'.1 a = M.1 a) → M'.2 = M.2 → WX M' 1 W := fun M' e r => WX_eq (M := M) (by omega) (fun a _ _ => e a (by omega) (by omega)) (by rw [r]) (fun a h _ _ => e a (by omega) (by omega)) q1
  have g2 : ∀ M', (∀ a, a ≠ 54 → a ≠ 55 → M'.1 a = M.1 a) → M'.2 = M.2 → WM M' W := fun M' e r => WM_eq (M := M) (fun a _ _ => e a (by omega) (by omega)) q2
  have g3 : ∀ M', WM M' W → WM (zu M'.1 64 64 0, M'.2) W := fun M' w => WM_eq2 (M := M') (fun j hj => zu_kn (by omega)) (fun a _ _ => zu_ne (by omega)) w
  -- nothing is done
  have none' : Rt 60 118 [zR 8 1, zI i, zI k, zI x] M (zu M.1 54 0 0, M.2) (some (zI 0)) → Rt 60 225 [zR 9 64, zI i, zI k, zI x] (zu M.1 54 0 0, M.2) (zu (zu M.1 54 0 0) 64 64 0, M.2) (some (zI 0)) → ∃ (M1 M2 : ZM) (v : ZV) (W' : Wv) (h' : Nat), Rt 60 118 [zR 8 1, zI i, zI k, zI x] M M1 (some v) ∧ Rt 60 225 [zR 9 64, zI i, zI k, zI x] M1 M2 (some v) ∧ Iv M2 W' h' ∧ h' ≤ 6 := fun a b => ⟨_, _, _, W, h, a, b, Iv_a (M := M) (fun a _ _ _ _ => (zu_ne (by omega)).trans (zu_ne (by omega))) (fun j hj => zu_kn hj) rfl hi ⟨0, by omega, rfl, rfl, fun r hr => absurd hr (by omega)⟩, q6.1⟩
  have e0 : ∀ a, a ≠ 54 → a ≠ 55 → ((zu M.1 54 0 0, M.2) : ZM).1 a = M.1 a := fun a h _ => zu_ne h
  have X0 := g1 (zu M.1 54 0 0, M.2) e0 rfl
  have M0 := g3 _ (g2 (zu M.1 54 0 0, M.2) e0 rfl)
  cases hv : vix i (wP W)
  · exact none' (ro_rt (g_X8_act ⟨_, _, (c8_isP X0).1 hv, fun _ => ⟨rfl, rfl⟩, z00⟩)) (ro_rt (g_X9_act ⟨_, _, (c9_isP M0 q3).1 hv, fun _ => ⟨rfl, rfl⟩, z00⟩))
  by_cases c : ¬ k < 0 ∧ ¬ (2 : Int32) < k
  case neg =>
    refine none' (ro_rt (g_X8_act ⟨_, _, (c8_isP X0).2 hv, z10, fun _ => ⟨fun _ => ⟨rfl, rfl⟩, fun q => ⟨fun r => absurd ⟨q, ?_⟩ c, fun _ => ⟨rfl, rfl⟩⟩⟩⟩)) (ro_rt (g_X9_act ⟨_, _, (c9_isP M0 q3).2 hv, z10, fun _ => ⟨_, _, in_0 c, fun _ => ⟨rfl, rfl⟩, z00⟩⟩))
    have h2 : (2 : Int32).toInt = 2 := by decide
    have h3 : (3 : Int32).toInt = 3 := by decide
    rw [Int32.lt_iff_toInt_lt] at r ⊢
    omega
  have c3 : k < 3 := by
    have h2 : (2 : Int32).toInt = 2 := by decide
    have h3 : (3 : Int32).toInt = 3 := by decide
    have := c.2
    rw [Int32.lt_iff_toInt_lt] at this ⊢
    omega
  obtain ⟨a, ha, ea⟩ := vix_t (by omega) hv
  obtain ⟨b, _, hb, eb⟩ := rng (lo := 0) (hi := 2) (by omega) (by omega) c
  obtain ⟨cc, hcc, ecc⟩ := V.2.1 a
  have za : zn i = a := by rw [ea]; exact zn_nI (by omega)
  have ia : ¬ (i < 0 ∨ 7 ≤ zn i) := by rw [za, ea]; exact in_n (by omega) (by omega)
  have x6 : zu M.1 54 0 0 6 (zn i) = nI cc := by rw [za, ← ecc]; exact q1.2.2.2.2.2.2.2.1 a (by omega)
  have x7 : zu M.1 54 0 0 7 (zn i) = nI (wU W a) := by rw [za]; exact q1.2.2.2.2.2.2.2.2.1 a (by omega)
  have y6 : M.1 68 a = nI cc := by rw [← ecc]; exact q2.2.2.2.2.2.2.2.1 a (by omega)
  have y7 : M.1 69 a = nI (wU W a) := q2.2.2.2.2.2.2.2.2.1 a (by omega)
  -- what both come to
  have fin : ∀ (M3 M5 : ZM) (bs : List Int32) (y : Int32), bs.length ≤ 900 → Rt 58 2 [zR 0 54, zI (nI cc), zI (nI b), zI x, zI 0] (zu (zu (zu (zu M.1 54 0 0) 54 2 i) 54 3 (nI cc)) 54 4 (nI (wU W a)), M.2) M3 (some (zI y)) → T0 M i (nI (wU W a)) cc 0 bs M3 → Rt 59 (if b = 0 then 219 else if b = 1 then 222 else 224) [zR 9 64, zI i, zI x] (zu M3.1 64 64 0, M3.2) M5 (some (zI y)) → U0 (zu M3.1 64 64 0, M3.2) 0 bs M5 → ∃ (M1 M2 : ZM) (v : ZV) (W' : Wv) (h' : Nat), Rt 60 118 [zR 8 1, zI i, zI k, zI x] M M1 (some v) ∧ Rt 60 225 [zR 9 64, zI i, zI k, zI x] M1 M2 (some v) ∧ Iv M2 W' h' ∧ h' ≤ 6 := by
    intro M3 M5 bs y hl r3 t3 r5 t5
    have M3w := g3 _ (g2 M3 t3.1 t3.2.1)
    refine ⟨M3, M5, zI y, W, h, ro_rt (g_X8_act ⟨_, _, (c8_isP X0).2 hv, z10, fun _ => ⟨fun q => absurd q c.1, fun _ => ⟨fun _ => ⟨ia, ia, ?_⟩, fun q => absurd c3 q⟩⟩⟩), ro_rt (g_X9_act ⟨_, _, (c9_isP M3w q3).2 hv, z10, fun _ => ⟨_, _, in_1 c, z10, fun _ => ?_⟩⟩), Iv_a (M := M) (fun a h1 h2 h3 h4 => ?_) (fun j hj => ?_) ?_ hi ⟨bs.length, by omega, ?_, t5.2.2.2.1, fun r h1 h2 => ?_⟩, q6.1⟩
    · dsimp only
      rw [x6, x7, eb]
      exact ⟨M3, _, ro_rt (g_X0_begin ⟨M3, _, r3, rfl, rfl⟩), rfl, rfl⟩
    · rw [eb]
      match b, hb, r5 with
      | 0, _, r5 => exact ⟨fun _ => ⟨M5, _, r5, rfl, rfl⟩, fun q => absurd rfl q⟩
      | 1, _, r5 => exact ⟨fun q => absurd q (by decide), fun _ => ⟨fun _ => ⟨M5, _, r5, rfl, rfl⟩, fun q => absurd rfl q⟩⟩
      | 2, _, r5 => exact ⟨fun q => absurd q (by decide), fun _ => ⟨fun q => absurd q (by decide), fun _ => ⟨M5, _, r5, rfl, rfl⟩⟩⟩
    · rw [t5.1 a h4 h3]
      show zu M3.1 64 64 0 a = _
      rw [zu_ne h4, t3.1 a h1 h2]
    · rw [t5.2.1 j hj]
      show zu M3.1 64 64 0 64 j = _
      rw [zu_kn hj, t3.1 64 (by omega) (by omega)]
    · rw [t5.2.2.1]
      exact t3.2.1
    · rw [t5.1 54 (by omega) (by omega)]
      exact t3.2.2.2.2.2.1
    · rw [t5.1 55 (by omega) (by omega), t5.2.2.2.2.2 r h1 h2]
      exact t3.2.2.2.2.2.2.2 r h1 h2
  have T : T0 M i (nI (wU W a)) cc 100 [] (zu (zu (zu (zu M.1 54 0 0) 54 2 i) 54 3 (nI cc)) 54 4 (nI (wU W a)), M.2) := ⟨fun a h1 _ => (zu_ne h1).trans ((zu_ne h1).trans ((zu_ne h1).trans (zu_ne h1))), rfl, rfl, rfl, rfl, rfl, by show 0 + 100 ≤ 900; omega, fun r hr => absurd hr (Nat.not_lt_zero r)⟩
  have U : ∀ M3 : ZM, U0 (zu M3.1 64 64 0, M3.2) 100 [] (zu M3.1 64 64 0, M3.2) := fun M3 => ⟨fun _ _ _ => rfl, fun _ _ => rfl, rfl, rfl, by show 0 + 100 ≤ 900; omega, fun r hr => absurd hr (Nat.not_lt_zero r)⟩
  have kk : ∀ (M3 : ZM) n bs, T0 M i (nI (wU W a)) cc n bs M3 → (zu M3.1 64 64 0, M3.2).1 68 a = nI cc ∧ (zu M3.1 64 64 0, M3.2).1 69 a = nI (wU W a) := fun M3 n bs t => by
    refine ⟨?_, ?_⟩
    · show zu M3.1 64 64 0 68 a = _
      rw [zu_ne (by omega), t.1 68 (by omega) (by omega)]; exact y6
    · show zu M3.1 64 64 0 69 a = _
      rw [zu_ne (by omega), t.1 69 (by omega) (by omega)]; exact y7
  match b, hb, fin with
  | 0, _, fin =>
    obtain ⟨M3, r3, t3⟩ := c0_r (d := 53) (x := x) (k := 0) hcc (by omega) (T.w (m := 0 + 2) (by omega))
    obtain ⟨k1, k2⟩ := kk M3 _ _ t3
    obtain ⟨M5, r5, t5⟩ := c9_r (d := 56) (x := x) (v := nI (wU W a)) hcc (by omega : a < 7) k1 k2 ((U M3).w (m := 0 + 2) (by omega))
    rw [← ea] at r5
    exact fin M3 M5 _ _ (by have := t3.2.2.2.2.2.2.1; omega) r3 t3 r5 t5
  | 1, _, fin =>
    obtain ⟨M3, r3, t3⟩ := c0_s (d := 47) (x := x) (k := 0) hcc (by omega) (T.w (m := 0 + 5) (by omega))
    obtain ⟨k1, k2⟩ := kk M3 _ _ t3
    obtain ⟨M5, r5, t5⟩ := c9_s (d := 53) (x := x) (v := nI (wU W a)) hcc (by omega : a < 7) k1 k2 ((U M3).w (m := 0 + 5) (by omega))
    rw [← ea] at r5
    exact fin M3 M5 _ _ (by have := t3.2.2.2.2.2.2.1; omega) r3 t3 r5 t5
  | 2, _, fin =>
    obtain ⟨M3, r3, t3⟩ := c0_t (d := 43) (x := x) (k := 0) hcc (by omega) (T.w (m := 0 + 12) (by omega))
    obtain ⟨k1, k2⟩ := kk M3 _ _ t3
    obtain ⟨M5, r5, t5⟩ := c9_t (d := 51) (x := x) (v := nI (wU W a)) hcc (by omega : a < 7) k1 k2 ((U M3).w (m := 0 + 12) (by omega))
    rw [← ea] at r5
    exact fin M3 M5 _ _ (by have := t3.2.2.2.2.2.2.1; omega) r3 t3 r5 t5
