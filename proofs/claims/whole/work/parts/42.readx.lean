/-! SeatOn's reader within a CLAUSE's E: what it has passed and put -/
theorem cX_up {I I' : Nat → Nat → Int32} {a b : Nat} : ∀ {l : List Tok} {i : Nat}, cX I a l i → (∀ k, i ≤ k → k < i + l.length → I' b k = I a k) → cX I' b l i
  | [], _, _, _ => trivial
  | t :: r, i, h, e => by
    rw [List.length_cons] at e
    exact ⟨(e i (by omega) (by omega)).trans h.1, cX_up h.2 (fun k h1 h2 => e k (by omega) (by omega))⟩
theorem cX_snoc {I : Nat → Nat → Int32} {a : Nat} {t : Tok} : ∀ {l : List Tok} {i : Nat}, cX I a l i → I a (i + l.length) = tX t → cX I a (l ++ [t]) i
  | [], i, _, e => ⟨e, trivial⟩
  | x :: r, i, h, e => ⟨h.1, cX_snoc h.2 (by rw [show i + 1 + r.length = i + (x :: r).length by rw [List.length_cons]; omega]; exact e)⟩
theorem cX_drop {I : Nat → Nat → Int32} {a : Nat} : ∀ {l m : List Tok} {i : Nat}, cX I a (l ++ m) i → cX I a m (i + l.length)
  | [], _, _, h => h
  | x :: r, m, i, h => by
    have := cX_drop (l := r) h.2
    rw [show i + (x :: r).length = i + 1 + r.length by rw [List.length_cons]; omega]
    exact this
theorem cX_take {I : Nat → Nat → Int32} {a : Nat} : ∀ {l m : List Tok} {i : Nat}, cX I a (l ++ m) i → cX I a l i
  | [], _, _, _ => trivial
  | x :: r, m, i, h => ⟨h.1, cX_take (l := r) h.2⟩
def EXs (M0 M : ZM) (o f0 p : Nat) (out : List Tok) : Prop := M.1 48 2 = nI p ∧ M.1 (o + 1) 4 = nI (f0 + out.length) ∧ cX M.1 (o + 4) out f0 ∧ f0 + out.length ≤ p ∧ (∀ a, a ≠ 48 → a ≠ o + 1 → a ≠ o + 4 → M.1 a = M0.1 a) ∧ (∀ k, k ≠ 2 → M.1 48 k = M0.1 48 k) ∧ (∀ k, k ≠ 4 → M.1 (o + 1) k = M0.1 (o + 1) k) ∧ (∀ k, k < f0 → M.1 (o + 4) k = M0.1 (o + 4) k) ∧ M.2 = M0.2
/-- what came of it: the tokens, or none; and where it stands -/
abbrev Rs : Type := Option (List Tok) × Nat
def XR (M0 M' : ZM) (o f0 : Nat) (out : List Tok) (r : Rs) : Prop := ∃ ts, EXs M0 M' o f0 r.2 (out ++ ts) ∧ ∀ ys, r.1 = some ys → ys = ts
section EX
variable {d n p o f0 : Nat} {M0 M : ZM} {T : Nat → Nat} {out : List Tok}
theorem EXs_t (ho : 49 < o) (h : TXx M0 T n) (e : EXs M0 M o f0 p out) : TXx M T n := ⟨h.1, (e.2.2.2.2.2.1 0 (by omega)).trans h.2.1, fun k hk => by
  rw [e.2.2.2.2.1 49 (by omega) (by omega) (by omega)]
  exact h.2.2 k hk⟩
theorem EXs_mv (ho : 49 < o) {q : Nat} (hq : p ≤ q) (e : EXs M0 M o f0 p out) : EXs M0 (mvX M q) o f0 q out := by
  obtain ⟨e1, e2, e3, e4, e5, e6, e7, e8, e9⟩ := e
  have n1 : ∀ a, a ≠ 48 → (mvX M q).1 a = M.1 a := fun a h => (zu_ne h : zu M.1 48 2 (nI q) a = M.1 a)
  exact ⟨mvX_p, by rw [n1 _ (by omega)]; exact e2, cX_up e3 (fun k _ _ => by rw [n1 _ (by omega)]), by omega, fun a h1 h2 h3 => by rw [n1 _ h1]; exact e5 a h1 h2 h3, fun k hk => (show zu M.1 48 2 (nI q) 48 k = M.1 48 k from zu_kn hk).trans (e6 k hk), fun k hk => by rw [n1 _ (by omega)]; exact e7 k hk, fun k hk => by rw [n1 _ (by omega)]; exact e8 k hk, e9⟩
theorem c3_step (ho : 49 < o) (hp : p ≤ 100) (t : Tok) (e : EXs M0 M o f0 p out) (hl : f0 + out.length + 1 ≤ p) : ∃ M', Rt (d + 1) 22 [zR 3 (o + 1), zI (tX t)] M M' none ∧ EXs M0 M' o f0 p (out ++ [t]) := by
  obtain ⟨e1, e2, e3, e4, e5, e6, e7, e8, e9⟩ := e
  refine ⟨(zu (zu M.1 (o + 1) 4 (nI (f0 + out.length + 1))) (o + 4) (f0 + out.length) (tX t), M.2), ?_, ?_⟩
  · refine ro_rt (g_X3_addStep ?_)
    rw [e2, zn_nI (by omega), nI_1]
    exact ⟨fun _ => ⟨in_n (by omega) (by omega), rfl, rfl⟩, fun q => absurd (nI_lt (by omega) (by omega)) q⟩
  · have nn : ∀ a, a ≠ o + 1 → a ≠ o + 4 → zu (zu M.1 (o + 1) 4 (nI (f0 + out.length + 1))) (o + 4) (f0 + out.length) (tX t) a = M.1 a := fun a h1 h2 => (zu_ne h2).trans (zu_ne h1)
    have n4 : ∀ k, k ≠ f0 + out.length → zu (zu M.1 (o + 1) 4 (nI (f0 + out.length + 1))) (o + 4) (f0 + out.length) (tX t) (o + 4) k = M.1 (o + 4) k := fun k hk => by rw [zu_kn hk, zu_ne (show o + 4 ≠ o + 1 by omega)]
    have n1 : zu (zu M.1 (o + 1) 4 (nI (f0 + out.length + 1))) (o + 4) (f0 + out.length) (tX t) (o + 1) = zu M.1 (o + 1) 4 (nI (f0 + out.length + 1)) (o + 1) := zu_ne (by omega)
    have hL : (out ++ [t]).length = out.length + 1 := by rw [List.length_append]; rfl
    refine ⟨?_, ?_, ?_, ?_, ?_, ?_, ?_, ?_, e9⟩
    · show zu (zu M.1 (o + 1) 4 (nI (f0 + out.length + 1))) (o + 4) (f0 + out.length) (tX t) 48 2 = _
      rw [nn 48 (by omega) (by omega)]; exact e1
    · show zu (zu M.1 (o + 1) 4 (nI (f0 + out.length + 1))) (o + 4) (f0 + out.length) (tX t) (o + 1) 4 = _
      rw [n1, zu_kk, hL]; rfl
    · exact cX_snoc (cX_up e3 (fun k h1 h2 => n4 k (by omega))) zu_kk
    · rw [hL]; omega
    · exact fun a h1 h2 h3 => (nn a h2 h3).trans (e5 a h1 h2 h3)
    · intro k hk
      show zu (zu M.1 (o + 1) 4 (nI (f0 + out.length + 1))) (o + 4) (f0 + out.length) (tX t) 48 k = _
      rw [nn 48 (by omega) (by omega)]; exact e6 k hk
    · intro k hk
      show zu (zu M.1 (o + 1) 4 (nI (f0 + out.length + 1))) (o + 4) (f0 + out.length) (tX t) (o + 1) k = _
      rw [n1, zu_kn hk]; exact e7 k hk
    · exact fun k hk => (n4 k (by omega)).trans (e8 k hk)
/-- a test: its token, or none, and the place behind what could be read -/
def tsT (T : Nat → Nat) (n p : Nat) : Rs := match ixT T n wdL p with
  | none => (none, p)
  | some a => match ixT T n wdR (p + 1) with
    | none => (none, p + 1)
    | some b => match (nmT T n (p + 2)).1 with
      | none => (none, p + 2)
      | some v => (some [(0, a, b, v)], (nmT T n (p + 2)).2)
theorem ixT_lt {l : List Nat} (h128 : ∀ i, i < l.length → l.getD i 0 < 128) {a : Nat} (h : ixT T n l p = some a) : a < l.length ∧ p < n := by
  unfold ixT at h
  have := lfnd_lt h
  refine ⟨by omega, chT_lt (x := l.getD a 0) (h128 a (by omega)) (of_decide_eq_true this.2.2).symm⟩
theorem tsT_le (pn : p ≤ n) : p ≤ (tsT T n p).2 ∧ (tsT T n p).2 ≤ n ∧ ∀ ts, (tsT T n p).1 = some ts → ts.length + p + 2 ≤ (tsT T n p).2 ∧ ∀ h, h ≤ 10 → hrun ts h = some (h + 1) := by
  unfold tsT
  cases h1 : ixT T n wdL p with
  | none => exact ⟨Nat.le_refl _, pn, fun ts q => (by cases q)⟩
  | some a =>
    have l1 := ixT_lt (l := wdL) (by decide) h1
    cases h2 : ixT T n wdR (p + 1) with
    | none => exact ⟨by show p ≤ p + 1; omega, by show p + 1 ≤ n; omega, fun ts q => (by cases q)⟩
    | some b =>
      have l2 := ixT_lt (l := wdR) (by decide) h2
      have m := nmT_le (T := T) (n := n) (p := p + 2) (by omega)
      cases h3 : (nmT T n (p + 2)).1 with
      | none => exact ⟨by show p ≤ p + 2; omega, by show p + 2 ≤ n; omega, fun ts q => (by cases q)⟩
      | some v =>
        obtain ⟨m1, m2, m3, m4⟩ := m
        have := m4 v h3
        refine ⟨by show p ≤ (nmT T n (p + 2)).2; omega, m2, fun ts q => ?_⟩
        cases q
        refine ⟨by show 1 + p + 2 ≤ (nmT T n (p + 2)).2; omega, fun h hh => ?_⟩
        have k1 : a < 6 := l1.1
        have k2 : b < 3 := l2.1
        show (if h < 11 ∧ a < 6 ∧ b < 3 ∧ v < 100 then some (h + 1) else none) = some (h + 1)
        rw [if_pos ⟨by omega, k1, k2, this.1⟩]
/-- SeatOn's test -/
theorem c4_test (ho : 49 < o) (h : TXx M0 T n) (pn : p ≤ n) (e : EXs M0 M o f0 p out) : ∃ M', Rt (d + 8) 40 [zR 4 48, zR 3 (o + 1)] M M' (some (zI (zb (tsT T n p).1.isSome))) ∧ XR M0 M' o f0 out (tsT T n p) := by
  have hn := h.1
  have ht := EXs_t ho h e
  have nil : ∀ {q : Nat} {M' : ZM}, EXs M0 M' o f0 q out → XR M0 M' o f0 out (none, q) := fun x => ⟨[], by rw [List.append_nil]; exact x, fun ys q => (by cases q)⟩
  have k := c4_let (d := d) ht e.1 pn
  unfold tsT
  cases h1 : ixT T n wdL p with
  | none => exact ⟨M, ro_rt (g_X4_passTest ⟨M, _, k.2 h1, fun _ => ⟨rfl, rfl⟩, fun q => absurd (by decide) q⟩), nil e⟩
  | some a =>
    have l1 := ixT_lt (l := wdL) (by decide) h1
    have k1 : a < 6 := l1.1
    have e1 := EXs_mv ho (q := p + 1) (by omega) e
    have kk := c4_rel (d := d) (EXs_t ho h e1) e1.1 l1.2
    cases h2 : ixT T n wdR (p + 1) with
    | none => exact ⟨_, ro_rt (g_X4_passTest ⟨_, _, k.1 a h1, fun q => absurd q (nI_pos (by omega)), fun _ => ⟨_, _, kk.2 h2, fun _ => ⟨rfl, rfl⟩, fun q => absurd (by decide) q⟩⟩), nil e1⟩
    | some b =>
      have l2 := ixT_lt (l := wdR) (by decide) h2
      have k2 : b < 3 := l2.1
      have e2 := EXs_mv ho (q := p + 1 + 1) (by omega) e1
      have kn := c4_num (d := d + 6) (EXs_t ho h e2) e2.1 l2.2
      have m := nmT_le (T := T) (n := n) (p := p + 2) (by omega)
      have e3 := EXs_mv ho (q := (nmT T n (p + 2)).2) (by omega) e2
      cases h3 : (nmT T n (p + 2)).1 with
      | none =>
        have kn' : Rt (d + 7) 34 [zR 4 48] (mvX (mvX M (p + 1)) (p + 1 + 1)) (mvX (mvX (mvX M (p + 1)) (p + 1 + 1)) (nmT T n (p + 2)).2) (some (zI (zoi (-1) (nmT T n (p + 2)).1))) := kn
        rw [h3] at kn'
        rw [m.2.2.1 h3] at kn' e3
        exact ⟨_, ro_rt (g_X4_passTest ⟨_, _, k.1 a h1, fun q => absurd q (nI_pos (by omega)), fun _ => ⟨_, _, kk.1 b h2, fun q => absurd q (nI_pos (by omega)), fun _ => ⟨_, _, kn', fun _ => ⟨rfl, rfl⟩, fun q => absurd (by decide) q⟩⟩⟩), nil e3⟩
      | some v =>
        have kn' : Rt (d + 7) 34 [zR 4 48] (mvX (mvX M (p + 1)) (p + 1 + 1)) (mvX (mvX (mvX M (p + 1)) (p + 1 + 1)) (nmT T n (p + 2)).2) (some (zI (zoi (-1) (nmT T n (p + 2)).1))) := kn
        rw [h3] at kn'
        obtain ⟨m1, m2, m3, m4⟩ := m
        have mv := m4 v h3
        have e4 := e.2.2.2.1
        obtain ⟨M', s1, s2⟩ := c3_step (d := d + 5) ho (by omega) (0, a, b, v) e3 (by omega)
        refine ⟨M', ro_rt (g_X4_passTest ⟨_, _, k.1 a h1, fun q => absurd q (nI_pos (by omega)), fun _ => ⟨_, _, kk.1 b h2, fun q => absurd q (nI_pos (by omega)), fun _ => ⟨_, _, kn', fun q => absurd q (nI_pos (show v < 2 ^ 31 by omega)), fun _ => ⟨M', ?_, rfl, rfl⟩⟩⟩⟩), [(0, a, b, v)], s2, fun ys q => (by cases q; rfl)⟩
        refine ro_rt (g_X3_addTest ⟨M', ?_, rfl, rfl⟩)
        rw [l_3, l_100, pk_mul, nI_add, pk_mul]
        show Rt (d + 5 + 1) 22 [zR 3 (o + 1), zI (nI ((a * 3 + b) * 100) + nI v)] _ _ _
        rw [nI_add]
        exact s1
end EX
