/-! The text, as SeatOn's reader reads it -/
/-- the sign at a place; behind the end none -/
def chT (T : Nat → Nat) (n p : Nat) : Nat := if p < n then T p else 999
def TXx (M : ZM) (T : Nat → Nat) (n : Nat) : Prop := n ≤ 100 ∧ M.1 48 0 = nI n ∧ ∀ k, k < n → M.1 49 k = nI (T k) ∧ T k < 128
def TXm (M : ZM) (T : Nat → Nat) (n : Nat) : Prop := n ≤ 100 ∧ M.1 64 15 = nI n ∧ ∀ k, k < n → M.1 74 k = nI (T k) ∧ T k < 128
theorem chT_lt {T : Nat → Nat} {n p x : Nat} (hx : x < 128) (h : chT T n p = x) : p < n := by
  unfold chT at h
  by_cases c : p < n
  · exact c
  · rw [if_neg c] at h
    omega
/-- the place alone is another -/
def mvX (M : ZM) (p : Nat) : ZM := (zu M.1 48 2 (nI p), M.2)
section TX
variable {d n p : Nat} {M : ZM} {T : Nat → Nat}
theorem TXx_mv (h : TXx M T n) : TXx (mvX M p) T n := ⟨h.1, h.2.1, h.2.2⟩
theorem mvX_p : (mvX M p).1 48 2 = nI p := show zu M.1 48 2 (nI p) 48 2 = nI p from zu_kk
theorem mvX_mv {q : Nat} : mvX (mvX M p) q = mvX M q := by
  unfold mvX
  refine Prod.ext ?_ rfl
  funext a k
  show zu (zu M.1 48 2 (nI p)) 48 2 (nI q) a k = zu M.1 48 2 (nI q) a k
  by_cases ha : a = 48
  · by_cases hk : k = 2
    · rw [ha, hk, zu_kk, zu_kk]
    · rw [ha, zu_kn hk, zu_kn hk, zu_kn hk]
  · rw [congrFun (zu_ne ha) k, congrFun (zu_ne ha) k, congrFun (zu_ne ha) k]
theorem mvX_self (h : M.1 48 2 = nI p) : mvX M p = M := by
  unfold mvX
  refine Prod.ext ?_ rfl
  funext a k
  show zu M.1 48 2 (nI p) a k = M.1 a k
  by_cases ha : a = 48
  · by_cases hk : k = 2
    · rw [ha, hk, zu_kk, h]
    · rw [ha, zu_kn hk]
  · rw [congrFun (zu_ne ha) k]
/-- a sign is passed, or not -/
theorem c4_sign (h : TXx M T n) (hp : M.1 48 2 = nI p) (pn : p ≤ n) {x : Nat} (hx : x < 128) : (chT T n p = x → Rt (d + 1) 30 [zR 4 48, zI (nI x)] M (mvX M (p + 1)) (some (zI 1))) ∧ (chT T n p ≠ x → Rt (d + 1) 30 [zR 4 48, zI (nI x)] M M (some (zI 0))) := by
  obtain ⟨h1, h2, h3⟩ := h
  unfold chT
  by_cases c : p < n
  · obtain ⟨t1, t2⟩ := h3 p c
    rw [if_pos c]
    refine ⟨fun e => ro_rt (g_X4_passSign ?_), fun e => ro_rt (g_X4_passSign ?_)⟩
    · rw [hp, h2, zn_nI (by omega), t1, nI_eqe (by omega) (by omega), nI_1]
      exact ⟨fun _ => ⟨in_n (by omega) (by omega), fun _ => ⟨rfl, rfl⟩, fun q => absurd e q⟩, fun q => absurd (nI_lt c (by omega)) q⟩
    · rw [hp, h2, zn_nI (by omega), t1, nI_eqe (by omega) (by omega)]
      exact ⟨fun _ => ⟨in_n (by omega) (by omega), fun q => absurd q e, fun _ => ⟨rfl, rfl⟩⟩, fun q => absurd (nI_lt c (by omega)) q⟩
  · rw [if_neg c]
    refine ⟨fun e => by omega, fun e => ro_rt (g_X4_passSign ?_)⟩
    rw [hp, h2]
    exact ⟨fun q => absurd ((nI_ltI (by omega) (by omega)).mp q) c, fun _ => ⟨rfl, rfl⟩⟩
/-- how many signs of a word stand there -/
def wdT (T : Nat → Nat) (n : Nat) : List Nat → Nat → Nat
  | [], _ => 0
  | x :: r, p => if chT T n p = x then wdT T n r (p + 1) + 1 else 0
theorem wdT_le : ∀ (l : List Nat) (p : Nat), (∀ x ∈ l, x < 128) → p ≤ n → wdT T n l p ≤ l.length ∧ p + wdT T n l p ≤ n := by
  intro l
  induction l with
  | nil => intro p _ hp; exact ⟨Nat.le_refl _, hp⟩
  | cons x r ih =>
    intro p hl hp
    unfold wdT
    rw [List.length_cons]
    by_cases e : chT T n p = x
    · rw [if_pos e]
      have := chT_lt (hl x (List.mem_cons_self ..)) e
      have := ih (p + 1) (fun y hy => hl y (List.mem_cons_of_mem _ hy)) this
      omega
    · rw [if_neg e]
      omega
theorem l4_word {p1 N : Nat} {l : List Nat} (hN : N < 100) (hlen : ∀ M : ZM, Rt (d + 1) 236 [zR 10 (p1 + 1)] M M (some (zI (nI N)))) (hch : ∀ (M : ZM) i, i < N → Rt (d + 1) 237 [zR 10 (p1 + 1), zI (nI i)] M M (some (zI (nI (l.getD i 0))))) : ∀ (r : List Nat) i p M, i + r.length = N → (∀ k, k < r.length → l.getD (i + k) 0 = r.getD k 0) → (∀ x ∈ r, x < 128) → TXx M T n → M.1 48 2 = nI p → p ≤ n → A_X4_passWord_2 (d + 1) p1 M (nI i) (fun M' v => M' = mvX M (p + wdT T n r p) ∧ v = some (zI (zb (decide (wdT T n r p = r.length))))) := by
  intro r
  induction r with
  | nil =>
    intro i p M hi hk hr h hp pn
    rw [List.length_nil] at hi
    exact a_X4_passWord_2 ⟨M, _, hlen M, fun q => absurd q (nI_nlt (by omega) (by omega)), fun _ => ⟨(mvX_self hp).symm, rfl⟩⟩
  | cons x r ih =>
    intro i p M hi hk hr h hp pn
    rw [List.length_cons] at hi
    have hx : x < 128 := hr x (List.mem_cons_self ..)
    have e0 : l.getD i 0 = x := hk 0 (by rw [List.length_cons]; omega)
    have ch := hch M i (by omega)
    rw [e0] at ch
    refine a_X4_passWord_2 ⟨M, _, hlen M, fun _ => ⟨M, _, ch, ?_⟩, fun q => absurd (nI_lt (by omega) (by omega)) q⟩
    have e : wdT T n (x :: r) p = if chT T n p = x then wdT T n r (p + 1) + 1 else 0 := rfl
    rw [e, List.length_cons]
    by_cases c : chT T n p = x
    · have pl := chT_lt hx c
      rw [if_pos c]
      refine ⟨mvX M (p + 1), _, (c4_sign h hp pn hx).1 c, z10, fun _ => ?_⟩
      rw [nI_1]
      have := ih (i + 1) (p + 1) (mvX M (p + 1)) (by omega) (fun k hk' => by
        have := hk (k + 1) (by rw [List.length_cons]; omega)
        rw [show i + (k + 1) = i + 1 + k by omega] at this
        exact this) (fun y hy => hr y (List.mem_cons_of_mem _ hy)) (TXx_mv h) mvX_p pl
      rw [mvX_mv, show p + 1 + wdT T n r (p + 1) = p + (wdT T n r (p + 1) + 1) by omega] at this
      have ed : decide (wdT T n r (p + 1) = r.length) = decide (wdT T n r (p + 1) + 1 = r.length + 1) := decide_eq_decide.mpr ⟨fun q => by omega, fun q => by omega⟩
      rw [← ed]
      exact this
    · rw [if_neg c]
      refine ⟨M, _, (c4_sign h hp pn hx).2 c, fun _ => ⟨?_, ?_⟩, z00⟩
      · exact (mvX_self hp).symm
      · rw [decide_eq_false (by omega)]; rfl
def wdI : List Nat := [105, 101, 32]
def wdK : List Nat := [107, 101, 32]
def wdO : List Nat := [111, 97, 116, 104, 32]
theorem c4_word1 (h : TXx M T n) (hp : M.1 48 2 = nI p) (pn : p ≤ n) : Rt (d + 7) 31 [zR 4 48, zR 10 1] M (mvX M (p + wdT T n wdI p)) (some (zI (zb (decide (wdT T n wdI p = 3))))) := ro_rt (g_X4_passWord (p1 := 0) (l4_word (d := d + 5) (l := wdI) (N := 3) (by omega) (fun M => sl_1) (fun M i hi => match i, hi with | 0, _ => sc_1_0 | 1, _ => sc_1_1 | 2, _ => sc_1_2) wdI 0 p M rfl (fun k hk => by rw [Nat.zero_add]) (by decide) h hp pn))
theorem c4_word2 (h : TXx M T n) (hp : M.1 48 2 = nI p) (pn : p ≤ n) : Rt (d + 7) 31 [zR 4 48, zR 10 2] M (mvX M (p + wdT T n wdK p)) (some (zI (zb (decide (wdT T n wdK p = 3))))) := ro_rt (g_X4_passWord (p1 := 1) (l4_word (d := d + 5) (l := wdK) (N := 3) (by omega) (fun M => sl_2) (fun M i hi => match i, hi with | 0, _ => sc_2_0 | 1, _ => sc_2_1 | 2, _ => sc_2_2) wdK 0 p M rfl (fun k hk => by rw [Nat.zero_add]) (by decide) h hp pn))
theorem c4_word3 (h : TXx M T n) (hp : M.1 48 2 = nI p) (pn : p ≤ n) : Rt (d + 7) 31 [zR 4 48, zR 10 3] M (mvX M (p + wdT T n wdO p)) (some (zI (zb (decide (wdT T n wdO p = 5))))) := ro_rt (g_X4_passWord (p1 := 2) (l4_word (d := d + 5) (l := wdO) (N := 5) (by omega) (fun M => sl_3) (fun M i hi => match i, hi with | 0, _ => sc_3_0 | 1, _ => sc_3_1 | 2, _ => sc_3_2 | 3, _ => sc_3_3 | 4, _ => sc_3_4) wdO 0 p M rfl (fun k hk => by rw [Nat.zero_add]) (by decide) h hp pn))
/-- a number of one or two digits: its value, the place behind it -/
def dgT (c : Nat) : Bool := decide (48 ≤ c) && decide (c ≤ 57)
def nmT (T : Nat → Nat) (n p : Nat) : Option Nat × Nat := if dgT (chT T n p) = true then (if dgT (chT T n (p + 1)) = true then (some (10 * (chT T n p - 48) + (chT T n (p + 1) - 48)), p + 2) else (some (chT T n p - 48), p + 1)) else (none, p)
theorem dg_ok : ∀ c, c < 128 → (nI c - 48 < 0 ∨ (9 : Int32) < nI c - 48) = (dgT c = false) ∧ (dgT c = true → nI c - 48 = nI (c - 48)) := by
  have h : ∀ c, c < 128 → decide (nI c - 48 < 0 ∨ (9 : Int32) < nI c - 48) = !dgT c := by decide +kernel
  have h2 : ∀ c, c < 128 → (dgT c = true → nI c - 48 = nI (c - 48)) := by decide +kernel
  intro c hc
  refine ⟨?_, h2 c hc⟩
  have := h c hc
  refine propext ⟨fun q => ?_, fun q => ?_⟩
  · rw [decide_eq_true q] at this
    cases e : dgT c
    · rfl
    · rw [e] at this; cases this
  · rw [q] at this
    exact of_decide_eq_true this
theorem dgT_lt {c : Nat} (h : dgT c = true) : 48 ≤ c ∧ c ≤ 57 := by
  unfold dgT at h
  rw [Bool.and_eq_true] at h
  exact ⟨of_decide_eq_true h.1, of_decide_eq_true h.2⟩
theorem nmT_le (pn : p ≤ n) : p ≤ (nmT T n p).2 ∧ (nmT T n p).2 ≤ n ∧ ((nmT T n p).1 = none → (nmT T n p).2 = p) ∧ ∀ v, (nmT T n p).1 = some v → v < 100 ∧ p < (nmT T n p).2 := by
  unfold nmT
  by_cases c : dgT (chT T n p) = true
  · have h1 := dgT_lt c
    have p1 := chT_lt (by omega) (Eq.refl (chT T n p))
    rw [if_pos c]
    by_cases c2 : dgT (chT T n (p + 1)) = true
    · have h2 := dgT_lt c2
      have p2 := chT_lt (by omega) (Eq.refl (chT T n (p + 1)))
      rw [if_pos c2]
      refine ⟨by show p ≤ p + 2; omega, p2, fun q => (by cases q), fun v hv => ?_⟩
      cases hv
      exact ⟨by omega, by show p < p + 2; omega⟩
    · rw [if_neg c2]
      refine ⟨by show p ≤ p + 1; omega, p1, fun q => (by cases q), fun v hv => ?_⟩
      cases hv
      exact ⟨by omega, by show p < p + 1; omega⟩
  · rw [if_neg c]
    exact ⟨Nat.le_refl _, pn, fun _ => rfl, fun v hv => (by cases hv)⟩
/-- one look for a digit -/
theorem l4_dig (h : TXx M T n) (hp : M.1 48 2 = nI p) (pn : p ≤ n) {i1 i2 : Int32} {u : ZV} {R : ZM → Option ZV → Prop} (h2 : i2 < 2) (K0 : dgT (chT T n p) = false → R M (some (zI i1))) (K1 : dgT (chT T n p) = true → ∀ u', (i1 < 0 → A_X4_passNumber_4 d (mvX M (p + 1)) (nI (chT T n p - 48)) (i2 + 1) u' R) ∧ (¬ i1 < 0 → A_X4_passNumber_4 d (mvX M (p + 1)) (i1 * 10 + nI (chT T n p - 48)) (i2 + 1) u' R)) : A_X4_passNumber_4 d M i1 i2 u R := by
  obtain ⟨h1, h3, h4⟩ := h
  refine a_X4_passNumber_4 ⟨fun _ => ?_, fun q => absurd h2 q⟩
  rw [hp, h3]
  by_cases c : p < n
  · obtain ⟨t1, t2⟩ := h4 p c
    have ec : chT T n p = T p := if_pos c
    obtain ⟨d1, d2⟩ := dg_ok (T p) t2
    rw [ec] at K0 K1
    rw [zn_nI (by omega), t1, nI_1]
    refine ⟨fun _ => ⟨in_n (by omega) (by omega), fun q => ?_, fun q => ⟨fun r => ?_, fun r => ?_⟩⟩, fun q => absurd (nI_lt c (by omega)) q⟩
    · exact K0 (by rw [← d1]; exact Or.inl q)
    · exact K0 (by rw [← d1]; exact Or.inr r)
    · have e : dgT (T p) = true := by
        cases e : dgT (T p)
        · rw [← d1] at e
          rcases e with x | x
          · exact absurd x q
          · exact absurd x r
        · rfl
      rw [d2 e]
      exact K1 e _
  · have ec : chT T n p = 999 := if_neg c
    rw [ec] at K0
    exact ⟨fun q => absurd ((nI_ltI (by omega) (by omega)).mp q) c, fun _ => K0 rfl⟩
theorem c4_num (h : TXx M T n) (hp : M.1 48 2 = nI p) (pn : p ≤ n) : Rt (d + 1) 34 [zR 4 48] M (mvX M (nmT T n p).2) (some (zI (zoi (-1) (nmT T n p).1))) := by
  have hm : ¬ ((0 : Int32) + 1 < 2) → False := fun q => q (by decide)
  refine ro_rt (g_X4_passNumber ?_)
  refine l4_dig h hp pn (by decide) (fun c => ?_) (fun c u => ⟨fun _ => ?_, fun q => absurd (by decide) q⟩)
  · unfold nmT
    rw [if_neg (by rw [c]; decide)]
    exact ⟨(mvX_self hp).symm, rfl⟩
  · have h1 := dgT_lt c
    have p1 := chT_lt (by omega) (Eq.refl (chT T n p))
    refine l4_dig (p := p + 1) (TXx_mv h) mvX_p p1 (by decide) (fun c2 => ?_) (fun c2 u' => ⟨fun q => absurd q (nI_pos (by omega)), fun _ => ?_⟩)
    · unfold nmT
      rw [if_pos c, if_neg (by rw [c2]; decide)]
      exact ⟨rfl, rfl⟩
    · have h2 := dgT_lt c2
      refine a_X4_passNumber_4 ⟨fun q => absurd q (by decide), fun _ => ?_⟩
      unfold nmT
      rw [if_pos c, if_pos c2]
      refine ⟨mvX_mv, ?_⟩
      rw [l_10, pk_mul, nI_add, Nat.mul_comm]
      rfl
def wdL : List Nat := [112, 115, 107, 109, 116, 119]
def wdR : List Nat := [60, 61, 62]
/-- which of the signs stands there -/
def ixT (T : Nat → Nat) (n : Nat) (l : List Nat) (p : Nat) : Option Nat := lfnd (fun i => decide (l.getD i 0 = chT T n p)) l.length 0
theorem l4_one {p1 : Nat} {l : List Nat} (hl : l.length < 100) (h128 : ∀ i, i < l.length → l.getD i 0 < 128) (hlen : ∀ M : ZM, Rt (d + 1) 236 [zR 10 (p1 + 1)] M M (some (zI (nI l.length)))) (hch : ∀ (M : ZM) i, i < l.length → Rt (d + 1) 237 [zR 10 (p1 + 1), zI (nI i)] M M (some (zI (nI (l.getD i 0))))) (h : TXx M T n) (hp : M.1 48 2 = nI p) (pn : p ≤ n) : ∀ j i, i + j = l.length → A_X4_passOneOf_2 (d + 1) p1 M (nI i) (fun M' v => (match lfnd (fun i => decide (l.getD i 0 = chT T n p)) j i with | some a => M' = mvX M (p + 1) ∧ v = some (zI (nI a)) | none => M' = M ∧ v = some (zI (-1)))) := by
  obtain ⟨h1, h2, h3⟩ := h
  intro j
  induction j with
  | zero =>
    intro i hi
    exact a_X4_passOneOf_2 ⟨M, _, hlen M, fun q => absurd q (nI_nlt (by omega) (by omega)), fun _ => ⟨rfl, rfl⟩⟩
  | succ j ih =>
    intro i hi
    have ih' := ih (i + 1) (by omega)
    have b := h128 i (by omega)
    refine a_X4_passOneOf_2 ⟨M, _, hlen M, fun _ => ?_, fun q => absurd (nI_lt (by omega) (by omega)) q⟩
    rw [hp, h2, nI_1]
    by_cases c : p < n
    · obtain ⟨t1, t2⟩ := h3 p c
      have ec : chT T n p = T p := if_pos c
      refine ⟨fun _ => ⟨M, _, hch M i (by omega), ?_⟩, fun q => absurd (nI_lt c (by omega)) q⟩
      rw [hp, zn_nI (by omega), t1, nI_eqe (by omega) (by omega), nI_1]
      refine ⟨in_n (by omega) (by omega), fun q => ?_, fun q => ?_⟩
      · rw [lfnd_p (by rw [ec]; exact decide_eq_true q)]
        exact ⟨rfl, rfl⟩
      · rw [lfnd_n (by rw [ec]; exact decide_eq_false q)]
        exact ih'
    · have ec : chT T n p = 999 := if_neg c
      refine ⟨fun q => absurd ((nI_ltI (by omega) (by omega)).mp q) c, fun _ => ?_⟩
      rw [lfnd_n (by rw [ec]; exact decide_eq_false (by omega))]
      exact ih'
theorem c4_let (h : TXx M T n) (hp : M.1 48 2 = nI p) (pn : p ≤ n) : (∀ a, ixT T n wdL p = some a → Rt (d + 7) 35 [zR 4 48, zR 10 4] M (mvX M (p + 1)) (some (zI (nI a)))) ∧ (ixT T n wdL p = none → Rt (d + 7) 35 [zR 4 48, zR 10 4] M M (some (zI (-1)))) := by
  have key := l4_one (d := d + 5) (p1 := 3) (l := wdL) (by decide) (by decide) (fun M => sl_4) (fun M i hi => match i, hi with | 0, _ => sc_4_0 | 1, _ => sc_4_1 | 2, _ => sc_4_2 | 3, _ => sc_4_3 | 4, _ => sc_4_4 | 5, _ => sc_4_5) h hp pn 6 0 rfl
  refine ⟨fun a ha => ?_, fun ha => ?_⟩
  · have e : lfnd (fun i => decide (wdL.getD i 0 = chT T n p)) 6 0 = some a := ha
    rw [e] at key
    exact ro_rt (g_X4_passOneOf (p1 := 3) key)
  · have e : lfnd (fun i => decide (wdL.getD i 0 = chT T n p)) 6 0 = none := ha
    rw [e] at key
    exact ro_rt (g_X4_passOneOf (p1 := 3) key)
theorem c4_rel (h : TXx M T n) (hp : M.1 48 2 = nI p) (pn : p ≤ n) : (∀ a, ixT T n wdR p = some a → Rt (d + 7) 35 [zR 4 48, zR 10 5] M (mvX M (p + 1)) (some (zI (nI a)))) ∧ (ixT T n wdR p = none → Rt (d + 7) 35 [zR 4 48, zR 10 5] M M (some (zI (-1)))) := by
  have key := l4_one (d := d + 5) (p1 := 4) (l := wdR) (by decide) (by decide) (fun M => sl_5) (fun M i hi => match i, hi with | 0, _ => sc_5_0 | 1, _ => sc_5_1 | 2, _ => sc_5_2) h hp pn 3 0 rfl
  refine ⟨fun a ha => ?_, fun ha => ?_⟩
  · have e : lfnd (fun i => decide (wdR.getD i 0 = chT T n p)) 3 0 = some a := ha
    rw [e] at key
    exact ro_rt (g_X4_passOneOf (p1 := 4) key)
  · have e : lfnd (fun i => decide (wdR.getD i 0 = chT T n p)) 3 0 = none := ha
    rw [e] at key
    exact ro_rt (g_X4_passOneOf (p1 := 4) key)
end TX
