/-! The reference's reader: what it takes -/
/-- the sign that is next; none is -1 -/
def chI (T : Nat → Nat) (n p : Nat) : Int32 := if p < n then nI (T p) else -1
theorem chI_eq {T : Nat → Nat} {n p x : Nat} (h : ∀ k, k < n → T k < 128) (hx : x < 128) : (chI T n p = nI x) = (chT T n p = x) := by
  unfold chI chT
  by_cases c : p < n
  · rw [if_pos c, if_pos c, nI_eqe (by have := h p c; omega) (by omega)]
  · rw [if_neg c, if_neg c]
    refine propext ⟨fun q => ?_, fun q => by omega⟩
    have := nI_m1 (a := x) (by omega)
    exact (this.mp q.symm).elim
def STk (I : Nat → Nat → Int32) : List Nat → Prop
  | [] => True
  | x :: r => I 81 r.length = nI x ∧ x < 128 ∧ STk I r
theorem STk_up {I I' : Nat → Nat → Int32} : ∀ {l : List Nat}, STk I l → (∀ k, k < l.length → I' 81 k = I 81 k) → STk I' l
  | [], _, _ => trivial
  | x :: r, h, e => ⟨(e r.length (by rw [List.length_cons]; omega)).trans h.1, h.2.1, STk_up h.2.2 (fun k hk => e k (by rw [List.length_cons]; omega))⟩
def opn : List Nat → Nat
  | [] => 0
  | x :: r => if x = 33 ∨ x = 40 then opn r + 1 else opn r
theorem cM_up {I I' : Nat → Nat → Int32} : ∀ {l : List Tok} {i : Nat}, cMt I l i → (∀ k, i ≤ k → k < i + l.length → I' 80 k = I 80 k) → cMt I' l i
  | [], _, _, _ => trivial
  | t :: r, i, h, e => by
    rw [List.length_cons] at e
    exact ⟨(e i (by omega) (by omega)).trans h.1, cM_up h.2 (fun k h1 h2 => e k (by omega) (by omega))⟩
theorem cM_snoc {I : Nat → Nat → Int32} {t : Tok} : ∀ {l : List Tok} {i : Nat}, cMt I l i → I 80 (i + l.length) = tM t → cMt I (l ++ [t]) i
  | [], i, _, e => ⟨e, trivial⟩
  | x :: r, i, h, e => ⟨h.1, cM_snoc h.2 (by rw [show i + 1 + r.length = i + (x :: r).length by rw [List.length_cons]; omega]; exact e)⟩
/-- frames of the reference's reader -/
def FRm (M0 M : ZM) (s0 ci : Nat) : Prop := (∀ a, a ≠ 64 → a ≠ 79 → a ≠ 80 → a ≠ 81 → M.1 a = M0.1 a) ∧ (∀ k, k ≠ 16 → k ≠ 17 → k ≠ 26 → k ≠ 27 → k ≠ 28 → M.1 64 k = M0.1 64 k) ∧ (∀ k, k ≠ ci → M.1 79 k = M0.1 79 k) ∧ (∀ k, k < s0 → M.1 80 k = M0.1 80 k) ∧ M.2 = M0.2
def EMs (M0 M : ZM) (s0 hb ci p : Nat) (out : List Tok) (st : List Nat) : Prop := M.1 64 16 = nI p ∧ M.1 64 26 = nI (s0 + out.length) ∧ cMt M.1 out s0 ∧ M.1 64 27 = nI st.length ∧ STk M.1 st ∧ M.1 64 28 = nI (opn st) ∧ s0 + out.length + st.length ≤ hb + p ∧ FRm M0 M s0 ci
/-- a cell of the reference alone is another -/
def mvC (M : ZM) (k : Nat) (x : Int32) : ZM := (zu M.1 64 k x, M.2)
section MP
variable {d n p : Nat} {M : ZM} {T : Nat → Nat}
theorem mvC_n {k : Nat} {x : Int32} {a : Nat} (h : a ≠ 64) : (mvC M k x).1 a = M.1 a := (zu_ne h : zu M.1 64 k x a = M.1 a)
theorem mvC_c {k : Nat} {x : Int32} {j : Nat} (h : j ≠ k) : (mvC M k x).1 64 j = M.1 64 j := (zu_kn h : zu M.1 64 k x 64 j = M.1 64 j)
theorem mvC_k {k : Nat} {x : Int32} : (mvC M k x).1 64 k = x := (zu_kk : zu M.1 64 k x 64 k = x)
theorem TXm_mv {k : Nat} {x : Int32} (hk : k ≠ 15) (h : TXm M T n) : TXm (mvC M k x) T n := ⟨h.1, (mvC_c (Ne.symm hk)).trans h.2.1, fun j hj => by rw [mvC_n (by omega)]; exact h.2.2 j hj⟩
theorem mvC_mvC {k : Nat} {x y : Int32} : mvC (mvC M k x) k y = mvC M k y := by
  unfold mvC
  refine Prod.ext ?_ rfl
  funext a j
  show zu (zu M.1 64 k x) 64 k y a j = zu M.1 64 k y a j
  by_cases ha : a = 64
  · by_cases hj : j = k
    · rw [ha, hj, zu_kk, zu_kk]
    · rw [ha, zu_kn hj, zu_kn hj, zu_kn hj]
  · rw [congrFun (zu_ne ha) j, congrFun (zu_ne ha) j, congrFun (zu_ne ha) j]
theorem mvC_self {k : Nat} {x : Int32} (h : M.1 64 k = x) : mvC M k x = M := by
  unfold mvC
  refine Prod.ext ?_ rfl
  funext a j
  show zu M.1 64 k x a j = M.1 a j
  by_cases ha : a = 64
  · by_cases hj : j = k
    · rw [ha, hj, zu_kk, h]
    · rw [ha, zu_kn hj]
  · rw [congrFun (zu_ne ha) j]
theorem c9_next (h : TXm M T n) (hp : M.1 64 16 = nI p) (pn : p ≤ n) : Rt (d + 1) 151 [zR 9 64] M M (some (zI (chI T n p))) := by
  obtain ⟨h1, h2, h3⟩ := h
  refine ro_rt (g_X9_next ?_)
  rw [hp, h2]
  unfold chI
  by_cases c : p < n
  · rw [if_pos c, zn_nI (by omega), (h3 p c).1]
    exact ⟨fun _ => ⟨in_n (by omega) (by omega), rfl, rfl⟩, fun q => absurd (nI_lt c (by omega)) q⟩
  · rw [if_neg c]
    exact ⟨fun q => absurd ((nI_ltI (by omega) (by omega)).mp q) c, fun _ => ⟨rfl, rfl⟩⟩
theorem c9_second (h : TXm M T n) (hp : M.1 64 16 = nI p) (pn : p ≤ n) : Rt (d + 1) 152 [zR 9 64] M M (some (zI (chI T n (p + 1)))) := by
  obtain ⟨h1, h2, h3⟩ := h
  refine ro_rt (g_X9_second ?_)
  rw [hp, h2, nI_1]
  unfold chI
  by_cases c : p + 1 < n
  · rw [if_pos c, zn_nI (by omega), (h3 (p + 1) c).1]
    exact ⟨fun _ => ⟨in_n (by omega) (by omega), rfl, rfl⟩, fun q => absurd (nI_lt c (by omega)) q⟩
  · rw [if_neg c]
    exact ⟨fun q => absurd ((nI_ltI (by omega) (by omega)).mp q) c, fun _ => ⟨rfl, rfl⟩⟩
theorem c9_takes (h : TXm M T n) (hp : M.1 64 16 = nI p) (pn : p ≤ n) {x : Nat} (hx : x < 128) : (chT T n p = x → Rt (d + 2) 153 [zR 9 64, zI (nI x)] M (mvC M 16 (nI (p + 1))) (some (zI 1))) ∧ (chT T n p ≠ x → Rt (d + 2) 153 [zR 9 64, zI (nI x)] M M (some (zI 0))) := by
  have k := c9_next (d := d) h hp pn
  have e := chI_eq (T := T) (n := n) (p := p) (fun k hk => (h.2.2 k hk).2) hx
  refine ⟨fun q => ro_rt (g_X9_takes ⟨M, _, k, ?_⟩), fun q => ro_rt (g_X9_takes ⟨M, _, k, ?_⟩)⟩
  · rw [e, hp, nI_1]
    exact ⟨fun _ => ⟨rfl, rfl⟩, fun r => absurd q r⟩
  · rw [e]
    exact ⟨fun r => absurd r q, fun _ => ⟨rfl, rfl⟩⟩
/-- a word of the reference -/
theorem l9_word (hL : ∀ k, k < 12 → M.1 82 k = ([108, 105, 107, 101, 108, 111, 97, 116, 104, 116, 105, 101] : List Int32).getD k 0) {f N : Nat} {l : List Nat} (hN : f + N ≤ 12) (hl : ∀ i, i < N → ([108, 105, 107, 101, 108, 111, 97, 116, 104, 116, 105, 101] : List Int32).getD (f + i) 0 = nI (l.getD i 0)) : ∀ (r : List Nat) i p M1, i + r.length = N → (∀ k, k < r.length → l.getD (i + k) 0 = r.getD k 0) → (∀ x ∈ r, x < 128) → M1 = mvC M 16 (nI p) → TXm M T n → p ≤ n → A_X9_takesWord_2 (d + 2) M1 (nI f) (nI N) (nI i) (fun M' v => M' = mvC M 16 (nI (p + wdT T n (r ++ [32]) p)) ∧ v = some (zI (zb (decide (wdT T n (r ++ [32]) p = r.length + 1))))) := by
  intro r
  induction r with
  | nil =>
    intro i p M1 hi hk hr hM h pn
    rw [List.length_nil] at hi
    have tk := c9_takes (d := d) (M := M1) (T := T) (n := n) (p := p) (by rw [hM]; exact TXm_mv (by omega) h) (by rw [hM]; exact mvC_k) pn (x := 32) (by omega)
    refine a_X9_takesWord_2 ⟨fun q => absurd q (nI_nlt (by omega) (by omega)), fun _ => ?_⟩
    have e : wdT T n ([] ++ [32]) p = if chT T n p = 32 then 0 + 1 else 0 := rfl
    rw [e]
    by_cases c : chT T n p = 32
    · rw [if_pos c]
      refine ⟨_, _, tk.1 c, Or.inr rfl, ?_, rfl⟩
      rw [hM, mvC_mvC]
    · rw [if_neg c]
      exact ⟨_, _, tk.2 c, Or.inl rfl, hM, rfl⟩
  | cons x r ih =>
    intro i p M1 hi hk hr hM h pn
    rw [List.length_cons] at hi
    have hx : x < 128 := hr x (List.mem_cons_self ..)
    have e0 : l.getD i 0 = x := hk 0 (by rw [List.length_cons]; omega)
    have tk := c9_takes (d := d) (M := M1) (T := T) (n := n) (p := p) (by rw [hM]; exact TXm_mv (by omega) h) (by rw [hM]; exact mvC_k) pn hx
    have e82 : M1.1 82 (f + i) = nI x := by rw [hM, mvC_n (by omega), hL _ (by omega), hl i (by omega), e0]
    refine a_X9_takesWord_2 ⟨fun _ => ?_, fun q => absurd (nI_lt (by omega) (by omega)) q⟩
    rw [nI_add, zn_nI (by omega), e82, nI_1]
    refine ⟨in_n (by omega) (by omega), ?_⟩
    have e : wdT T n (x :: r ++ [32]) p = if chT T n p = x then wdT T n (r ++ [32]) (p + 1) + 1 else 0 := rfl
    rw [e, List.length_cons]
    by_cases c : chT T n p = x
    · have pl := chT_lt hx c
      rw [if_pos c]
      refine ⟨_, _, tk.1 c, z10, fun _ => ?_⟩
      have := ih (i + 1) (p + 1) (mvC M1 16 (nI (p + 1))) (by omega) (fun k hk' => by
        have := hk (k + 1) (by rw [List.length_cons]; omega)
        rw [show i + (k + 1) = i + 1 + k by omega] at this
        exact this) (fun y hy => hr y (List.mem_cons_of_mem _ hy)) (by rw [hM, mvC_mvC]) h pl
      rw [show p + 1 + wdT T n (r ++ [32]) (p + 1) = p + (wdT T n (r ++ [32]) (p + 1) + 1) by omega] at this
      have ed : decide (wdT T n (r ++ [32]) (p + 1) = r.length + 1) = decide (wdT T n (r ++ [32]) (p + 1) + 1 = r.length + 1 + 1) := decide_eq_decide.mpr ⟨fun q => by omega, fun q => by omega⟩
      rw [← ed]
      exact this
    · rw [if_neg c]
      refine ⟨_, _, tk.2 c, fun _ => ⟨hM, ?_⟩, z00⟩
      rw [decide_eq_false (by omega)]; rfl
theorem dg_in : ∀ c, c < 128 → (¬ nI c < 48 ∧ ¬ (57 : Int32) < nI c) = (dgT c = true) := by
  have h : ∀ c, c < 128 → decide (¬ nI c < 48 ∧ ¬ (57 : Int32) < nI c) = dgT c := by decide +kernel
  intro c hc
  have := h c hc
  rw [← this]
  exact propext ⟨fun q => decide_eq_true q, fun q => of_decide_eq_true q⟩
theorem c9_isDigit (h : TXm M T n) (hp : M.1 64 16 = nI p) (pn : p ≤ n) : Rt (d + 2) 155 [zR 9 64] M M (some (zI (zb (dgT (chT T n p))))) := by
  have k := c9_next (d := d) h hp pn
  have hz : ∀ b : Bool, zb b = 0 ∨ zb b = 1 := fun b => by cases b; exact Or.inl rfl; exact Or.inr rfl
  refine ro_rt (g_X9_isDigit ⟨M, _, k, M, _, ?_, hz _, rfl, rfl⟩)
  unfold chI chT
  by_cases c : p < n
  · rw [if_pos c, if_pos c]
    have e := dg_in (T p) (h.2.2 p c).2
    cases q : dgT (T p)
    · rw [q] at e
      exact in_0 (by rw [e]; decide)
    · rw [q] at e
      exact in_1 (by rw [e])
  · rw [if_neg c, if_neg c]
    exact in_0 (by decide)
theorem nI_sub {a b : Nat} (h : b ≤ a) : nI a - nI b = nI (a - b) := by
  have : nI a = nI (a - b) + nI b := by rw [nI_add]; congr 1; omega
  rw [this]
  exact Int32.add_sub_cancel _ _
theorem c9_num (h : TXm M T n) (hp : M.1 64 16 = nI p) (pn : p ≤ n) : (∀ v, (nmT T n p).1 = some v → Rt (d + 4) 156 [zR 9 64] M (mvC (mvC M 17 (nI v)) 16 (nI (nmT T n p).2)) (some (zI 1))) ∧ ((nmT T n p).1 = none → Rt (d + 4) 156 [zR 9 64] M M (some (zI 0))) := by
  have k := c9_isDigit (d := d + 1) h hp pn
  have dig : ∀ {c : Nat}, dgT (chT T n c) = true → c < n ∧ chI T n c = nI (chT T n c) ∧ 48 ≤ chT T n c ∧ chT T n c ≤ 57 := by
    intro c hc
    have h1 := dgT_lt hc
    have h2 := chT_lt (T := T) (n := n) (p := c) (by omega) rfl
    exact ⟨h2, by unfold chI chT; rw [if_pos h2, if_pos h2], h1⟩
  have com : ∀ {x y z : Int32} , mvC (mvC (mvC (mvC (mvC M 17 0) 17 x) 16 y) 17 z) 16 (nI (p + 2)) = mvC (mvC M 17 z) 16 (nI (p + 2)) := by
    intro x y z
    unfold mvC
    refine Prod.ext ?_ rfl
    funext a j
    show zu (zu (zu (zu (zu M.1 64 17 0) 64 17 x) 64 16 y) 64 17 z) 64 16 (nI (p + 2)) a j = zu (zu M.1 64 17 z) 64 16 (nI (p + 2)) a j
    by_cases ha : a = 64
    · rw [ha]
      by_cases hj : j = 16
      · rw [hj, zu_kk, zu_kk]
      · rw [zu_kn hj, zu_kn hj]
        by_cases hi : j = 17
        · rw [hi, zu_kk, zu_kk]
        · rw [zu_kn hi, zu_kn hi, zu_kn hj, zu_kn hi, zu_kn hi]
    · rw [zu_ne ha, zu_ne ha, zu_ne ha, zu_ne ha, zu_ne ha, zu_ne ha, zu_ne ha]
  unfold nmT
  by_cases c : dgT (chT T n p) = true
  · rw [if_pos c]
    obtain ⟨p1, i1, c1, c2⟩ := dig c
    rw [c] at k
    have hA : TXm (mvC M 17 0) T n := TXm_mv (by omega) h
    have pA : (mvC M 17 0).1 64 16 = nI p := (mvC_c (by omega)).trans hp
    have kA := c9_isDigit (d := d + 1) hA pA pn
    rw [c] at kA
    have nA := c9_next (d := d + 2) hA pA pn
    rw [i1] at nA
    have v1 : (10 * (mvC M 17 0).1 64 17 + nI (chT T n p)) - 48 = nI (chT T n p - 48) := by
      rw [mvC_k, show (10 : Int32) * 0 = nI 0 from rfl, nI_add, show (48 : Int32) = nI 48 from rfl, nI_sub (by omega)]
      congr 1; omega
    have hB : TXm (mvC (mvC (mvC M 17 0) 17 (nI (chT T n p - 48))) 16 (nI (p + 1))) T n := TXm_mv (by omega) (TXm_mv (by omega) hA)
    have kB := c9_isDigit (d := d + 1) (p := p + 1) hB mvC_k p1
    have nB := c9_next (d := d + 2) (p := p + 1) hB mvC_k p1
    have z0 : ¬ (0 : Int32) + 1 < 2 → False := fun q => q (by decide)
    have start : ∀ {R : ZM → Option ZV → Prop}, A_X9_takesNumber_16 (d + 3) (mvC (mvC (mvC M 17 0) 17 (nI (chT T n p - 48))) 16 (nI (p + 1))) 1 R → Ro (d + 4) 156 [zR 9 64] M R := by
      intro R hR
      refine g_X9_takesNumber ⟨M, _, k, z10, fun _ => ?_⟩
      refine a_X9_takesNumber_16 ⟨fun _ => ⟨_, _, kA, z10, fun _ => ⟨_, _, nA, ?_⟩⟩, fun q => absurd (by decide) q⟩
      have e16 : ((mvC M 17 0).1 64 16) + 1 = nI (p + 1) := by rw [pA, nI_1]
      show A_X9_takesNumber_16 (d + 3) (zu (zu (mvC M 17 0).1 64 17 ((10 * (mvC M 17 0).1 64 17 + nI (chT T n p)) - 48)) 64 16 (((mvC M 17 0).1 64 16) + 1), (mvC M 17 0).2) (0 + 1) R
      rw [v1, e16]
      exact hR
    by_cases c2 : dgT (chT T n (p + 1)) = true
    · rw [if_pos c2]
      obtain ⟨p2, i2, c3, c4⟩ := dig c2
      rw [c2] at kB
      rw [i2] at nB
      refine ⟨fun v hv => ro_rt (start (a_X9_takesNumber_16 ⟨fun _ => ⟨_, _, kB, z10, fun _ => ⟨_, _, nB, ?_⟩⟩, fun q => absurd (by decide) q⟩)), fun q => (by cases q)⟩
      cases hv
      refine a_X9_takesNumber_16 ⟨fun q => absurd q (by decide), fun _ => ⟨?_, rfl⟩⟩
      rw [← com (x := nI (chT T n p - 48)) (y := nI (p + 1))]
      have e17 : (10 * (mvC (mvC (mvC M 17 0) 17 (nI (chT T n p - 48))) 16 (nI (p + 1))).1 64 17 + nI (chT T n (p + 1))) - 48 = nI (10 * (chT T n p - 48) + (chT T n (p + 1) - 48)) := by
        rw [mvC_c (by omega), mvC_k, l_10, pk_mul, nI_add, show (48 : Int32) = nI 48 from rfl, nI_sub (by omega)]
        congr 1; omega
      have e16 : (mvC (mvC (mvC M 17 0) 17 (nI (chT T n p - 48))) 16 (nI (p + 1))).1 64 16 + 1 = nI (p + 2) := by rw [mvC_k, nI_1]
      show (zu (zu (mvC (mvC (mvC M 17 0) 17 (nI (chT T n p - 48))) 16 (nI (p + 1))).1 64 17 ((10 * (mvC (mvC (mvC M 17 0) 17 (nI (chT T n p - 48))) 16 (nI (p + 1))).1 64 17 + nI (chT T n (p + 1))) - 48)) 64 16 ((mvC (mvC (mvC M 17 0) 17 (nI (chT T n p - 48))) 16 (nI (p + 1))).1 64 16 + 1), (mvC (mvC (mvC M 17 0) 17 (nI (chT T n p - 48))) 16 (nI (p + 1))).2) = _
      rw [e17, e16]
      rfl
    · rw [if_neg c2]
      have c2' : dgT (chT T n (p + 1)) = false := by cases q : dgT (chT T n (p + 1)); rfl; exact absurd q c2
      rw [c2'] at kB
      refine ⟨fun v hv => ro_rt (start (a_X9_takesNumber_16 ⟨fun _ => ⟨_, _, kB, fun _ => ⟨?_, rfl⟩, z00⟩, fun q => absurd (by decide) q⟩)), fun q => (by cases q)⟩
      cases hv
      rw [mvC_mvC]
  · rw [if_neg c]
    have c' : dgT (chT T n p) = false := by cases q : dgT (chT T n p); rfl; exact absurd q c
    rw [c'] at k
    exact ⟨fun v hv => (by cases hv), fun _ => ro_rt (g_X9_takesNumber ⟨M, _, k, fun _ => ⟨rfl, rfl⟩, z00⟩)⟩
theorem pl_ok : ∀ c, c < 128 → (lfnd (fun i => decide (wdL.getD i 0 = c)) 6 0) = (if c = 112 then some 0 else if c = 115 then some 1 else if c = 107 then some 2 else if c = 109 then some 3 else if c = 116 then some 4 else if c = 119 then some 5 else none) := by decide +kernel
end MP
