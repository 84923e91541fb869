/-! A CLAUSE's E: SeatOn's descent and the reference's waits come to the same tokens and to the same place -/
theorem hrun_app {b : List Tok} : ∀ {a : List Tok} {h k : Nat}, hrun a h = some k → hrun (a ++ b) h = hrun b k
  | [], h, k, e => by cases e; rfl
  | t :: r, h, k, e => by
    rw [List.cons_append]
    generalize hX : hrun b k = X
    unfold hrun at e ⊢
    split at e
    · split at e
      · rename_i q
        rw [if_pos q]
        rw [← hX]
        exact hrun_app e
      · cases e
    · split at e
      · rename_i q
        rw [if_pos q]
        rw [← hX]
        exact hrun_app e
      · cases e
    · split at e
      · rename_i q
        rw [if_pos q]
        rw [← hX]
        exact hrun_app e
      · cases e
theorem pd_app : ∀ (a b : List Nat), pd (a ++ b) = pd a ++ pd b
  | [], _ => rfl
  | x :: r, b => by
    show (if x = 38 then (2, 0, 0, 0) else (3, 0, 0, 0)) :: pd (r ++ b) = _
    rw [pd_app r b]
    rfl
def psM (M : ZM) (len : Nat) (x : Int32) (q : Nat) : ZM := mvC (mvC (mv81 M len x) 27 (nI (len + 1))) 16 (nI q)
section PS
variable {p s0 hb ci : Nat} {M0 M : ZM} {out : List Tok} {st : List Nat}
theorem EMs_ps {x : Nat} (hx : x < 128) (e : EMs M0 M s0 hb ci p out st) : EMs M0 (psM (mvC M 28 (nI (opn (x :: st)))) st.length (nI x) (p + 1)) s0 hb ci (p + 1) out (x :: st) := by
  obtain ⟨e1, e2, e3, e4, e5, e6, e7, e8⟩ := id e
  have n6 : (mv81 (mvC M 28 (nI (opn (x :: st)))) st.length (nI x)).1 64 = (mvC M 28 (nI (opn (x :: st)))).1 64 := (zu_ne (by omega) : zu (mvC M 28 (nI (opn (x :: st)))).1 81 st.length (nI x) 64 = (mvC M 28 (nI (opn (x :: st)))).1 64)
  have na : ∀ a, a ≠ 64 → a ≠ 81 → (psM (mvC M 28 (nI (opn (x :: st)))) st.length (nI x) (p + 1)).1 a = M.1 a := fun a h h2 => (mvC_n h).trans ((mvC_n h).trans ((zu_ne h2 : zu (mvC M 28 (nI (opn (x :: st)))).1 81 st.length (nI x) a = (mvC M 28 (nI (opn (x :: st)))).1 a).trans (mvC_n h)))
  have n1 : (psM (mvC M 28 (nI (opn (x :: st)))) st.length (nI x) (p + 1)).1 81 = zu (mvC M 28 (nI (opn (x :: st)))).1 81 st.length (nI x) 81 := (mvC_n (by omega)).trans (mvC_n (by omega))
  refine EMs_tr e mvC_k ?_ (cM_up e3 (fun k _ _ => by rw [na 80 (by omega) (by omega)])) ?_ ⟨?_, hx, STk_up e5 (fun k hk => ?_)⟩ ?_ (by rw [List.length_cons]; omega) ((FRm_c (by omega)).trans (FRm_81.trans ((FRm_c (by omega)).trans (FRm_c (by omega)))))
  · exact (mvC_c (by omega)).trans ((mvC_c (by omega)).trans (by rw [n6]; exact (mvC_c (by omega)).trans e2))
  · exact (mvC_c (by omega)).trans mvC_k
  · rw [n1, zu_kk]
  · rw [n1, zu_kn (by omega), mvC_n (by omega)]
  · exact (mvC_c (by omega)).trans ((mvC_c (by omega)).trans (by rw [n6]; exact mvC_k))
theorem EMs_po {x : Nat} (hx : x = 38 ∨ x = 124) (e : EMs M0 M s0 hb ci p out st) : EMs M0 (psM M st.length (nI x) (p + 1)) s0 hb ci (p + 1) out (x :: st) := by
  have h := EMs_ps (x := x) (by omega) e
  have ho : opn (x :: st) = opn st := if_neg (by omega)
  rw [ho, mvC_self e.2.2.2.2.2.1] at h
  exact h
/-- a bracket is off -/
theorem EMs_br {y : Int32} (e : EMs M0 M s0 hb ci p out (40 :: st)) : EMs M0 (mvC (mvC (mvC (mv79 M ci y) 27 (nI st.length)) 28 (nI (opn st))) 16 (nI (p + 1))) s0 hb ci (p + 1) out st := by
  obtain ⟨e1, e2, e3, e4, e5, e6, e7, e8⟩ := id e
  rw [List.length_cons] at e7
  have n6 : (mv79 M ci y).1 64 = M.1 64 := (zu_ne (by omega) : zu M.1 79 ci y 64 = M.1 64)
  have na : ∀ a, a ≠ 64 → a ≠ 79 → (mvC (mvC (mvC (mv79 M ci y) 27 (nI st.length)) 28 (nI (opn st))) 16 (nI (p + 1))).1 a = M.1 a := fun a h h2 => (mvC_n h).trans ((mvC_n h).trans ((mvC_n h).trans (zu_ne h2 : zu M.1 79 ci y a = M.1 a)))
  refine EMs_tr e mvC_k ?_ (cM_up e3 (fun k _ _ => by rw [na 80 (by omega) (by omega)])) ?_ (STk_up e5.2.2 (fun k hk => by rw [na 81 (by omega) (by omega)])) ?_ (by omega) (FRm_79.trans ((FRm_c (by omega)).trans ((FRm_c (by omega)).trans (FRm_c (by omega)))))
  · exact (mvC_c (by omega)).trans ((mvC_c (by omega)).trans ((mvC_c (by omega)).trans (by rw [n6]; exact e2)))
  · exact (mvC_c (by omega)).trans ((mvC_c (by omega)).trans mvC_k)
  · exact (mvC_c (by omega)).trans mvC_k
end PS
section GD
variable (T : Nat → Nat) (n o f0 : Nat) (X0 M0 : ZM) (s0 hb ci : Nat)
def OkR (p b : Nat) (r : Rs) : Prop := p ≤ r.2 ∧ r.2 ≤ n ∧ ∀ ts, r.1 = some ts → ts.length + p ≤ r.2 ∧ p < r.2 ∧ ∀ h, h ≤ b → hrun ts h = some (h + 1)
def OkL (p b : Nat) (r : Rs) : Prop := p ≤ r.2 ∧ r.2 ≤ n ∧ ∀ ts, r.1 = some ts → ts.length + p ≤ r.2 ∧ ∀ h, h ≤ b → hrun ts (h + 1) = some (h + 1)
def Nb (r : Rs) : Prop := r.1.isSome = true → chT T n r.2 ≠ 38
def Ne (r : Rs) : Prop := r.1.isSome = true → chT T n r.2 ≠ 38 ∧ chT T n r.2 ≠ 124
def XCt (m D p c : Nat) (r : Rs) : Prop := ∀ k M out, D ≤ k → EXs X0 M o f0 p out → ∃ M', Rt k m [zR 4 48, zR 3 (o + 1), zI (nI c)] M M' (some (zI (zb r.1.isSome))) ∧ XR X0 M' o f0 out r
def XLb (D p c : Nat) (r : Rs) : Prop := ∀ k M out j, D ≤ k → j ≤ p → EXs X0 M o f0 p out → A_X4_passBoth_13 k o M (nI c) (nI j) (fun M' v => v = some (zI (zb r.1.isSome)) ∧ XR X0 M' o f0 out r)
def XLe (D p c : Nat) (r : Rs) : Prop := ∀ k M out j, D ≤ k → j ≤ p → EXs X0 M o f0 p out → A_X4_passEither_13 k o M (nI c) (nI j) (fun M' v => v = some (zI (zb r.1.isSome)) ∧ XR X0 M' o f0 out r)
def Fl (q : Nat) (R : ZM → Option ZV → Prop) : Prop := ∀ M' out st, EMs M0 M' s0 hb ci q out st → R M' (some (zI 0))
def MCp (p c : Nat) (r : Rs) : Prop := ∀ d M out st u R, EMs M0 M s0 hb ci p out st → opn st = c → (∀ ts, r.1 = some ts → ∀ M' u', EMs M0 M' s0 hb ci r.2 (out ++ ts ++ nts st) (pl st) → A_X9_takesE_22 (d + 5) M' (nI ci) 0 u' R) → (r.1 = none → Fl M0 s0 hb ci r.2 R) → A_X9_takesE_22 (d + 5) M (nI ci) 1 u R
def MCb (p c : Nat) (r : Rs) : Prop := ∀ d M out st u R, EMs M0 M s0 hb ci p out st → opn st = c → st.head? ≠ some 33 → st.head? ≠ some 38 → (∀ ts, r.1 = some ts → ∀ M' u' A t0, (∀ x ∈ A, x = 38) → ts = t0 ++ pd A → EMs M0 M' s0 hb ci r.2 (out ++ t0) (A ++ st) → A_X9_takesE_22 (d + 5) M' (nI ci) 0 u' R) → (r.1 = none → Fl M0 s0 hb ci r.2 R) → A_X9_takesE_22 (d + 5) M (nI ci) 1 u R
def MLb (p c : Nat) (r : Rs) : Prop := ∀ d M out st A u R, (∀ x ∈ A, x = 38) → EMs M0 M s0 hb ci p out (A ++ st) → opn st = c → st.head? ≠ some 33 → st.head? ≠ some 38 → (∀ ts, r.1 = some ts → ∀ M' u' A' t0, (∀ x ∈ A', x = 38) → pd A ++ ts = t0 ++ pd A' → EMs M0 M' s0 hb ci r.2 (out ++ t0) (A' ++ st) → A_X9_takesE_22 (d + 5) M' (nI ci) 0 u' R) → (r.1 = none → Fl M0 s0 hb ci r.2 R) → A_X9_takesE_22 (d + 5) M (nI ci) 0 u R
def MCe (p c : Nat) (r : Rs) : Prop := ∀ d M out st u R, EMs M0 M s0 hb ci p out st → opn st = c → st.head? ≠ some 33 → st.head? ≠ some 38 → st.head? ≠ some 124 → (∀ ts, r.1 = some ts → ∀ M' u' A t0, (∀ x ∈ A, x = 38 ∨ x = 124) → ts = t0 ++ pd A → EMs M0 M' s0 hb ci r.2 (out ++ t0) (A ++ st) → A_X9_takesE_22 (d + 5) M' (nI ci) 0 u' R) → (r.1 = none → Fl M0 s0 hb ci r.2 R) → A_X9_takesE_22 (d + 5) M (nI ci) 1 u R
def MLe (p c : Nat) (r : Rs) : Prop := ∀ d M out st A u R, (∀ x ∈ A, x = 38 ∨ x = 124) → EMs M0 M s0 hb ci p out (A ++ st) → opn st = c → st.head? ≠ some 33 → st.head? ≠ some 38 → st.head? ≠ some 124 → (∀ ts, r.1 = some ts → ∀ M' u' A' t0, (∀ x ∈ A', x = 38 ∨ x = 124) → pd A ++ ts = t0 ++ pd A' → EMs M0 M' s0 hb ci r.2 (out ++ t0) (A' ++ st) → A_X9_takesE_22 (d + 5) M' (nI ci) 0 u' R) → (r.1 = none → Fl M0 s0 hb ci r.2 R) → A_X9_takesE_22 (d + 5) M (nI ci) 0 u R
def Pp (p c e : Nat) : Prop := ∃ r, OkR n p (2 * c + 2) r ∧ XCt o f0 X0 38 (3 * e + 9) p c r ∧ MCp M0 s0 hb ci p c r
def Pb (p c e : Nat) : Prop := ∃ r, OkR n p (2 * c + 1) r ∧ Nb T n r ∧ XCt o f0 X0 37 (3 * e + 10) p c r ∧ MCb M0 s0 hb ci p c r
def Pe (p c e : Nat) : Prop := ∃ r, OkR n p (2 * c) r ∧ Ne T n r ∧ XCt o f0 X0 36 (3 * e + 11) p c r ∧ MCe M0 s0 hb ci p c r
def Qb (p c e : Nat) : Prop := ∃ r, OkL n p (2 * c + 1) r ∧ Nb T n r ∧ XLb o f0 X0 (3 * e + 9) p c r ∧ MLb M0 s0 hb ci p c r
def Qe (p c e : Nat) : Prop := ∃ r, OkL n p (2 * c) r ∧ Ne T n r ∧ XLe o f0 X0 (3 * e + 10) p c r ∧ MLe M0 s0 hb ci p c r
def Gp (p : Nat) : Prop := ∀ c e, c + e = 4 → Pp n o f0 X0 M0 s0 hb ci p c e ∧ Pb T n o f0 X0 M0 s0 hb ci p c e ∧ Pe T n o f0 X0 M0 s0 hb ci p c e ∧ Qb T n o f0 X0 M0 s0 hb ci p c e ∧ (chT T n p ≠ 38 → Qe T n o f0 X0 M0 s0 hb ci p c e)
end GD
theorem XR_none {M0 M' : ZM} {o f0 : Nat} {out : List Tok} {r r' : Rs} (h : XR M0 M' o f0 out r) (e : r.2 = r'.2) (hn : r'.1 = none) : XR M0 M' o f0 out r' := by
  obtain ⟨ts, h1, h2⟩ := h
  exact ⟨ts, by rw [← e]; exact h1, fun ys q => by rw [hn] at q; cases q⟩
theorem XR_some {M0 M' : ZM} {o f0 : Nat} {out ts : List Tok} {r : Rs} (h : XR M0 M' o f0 out r) (e : r.1 = some ts) : EXs M0 M' o f0 r.2 (out ++ ts) := by
  obtain ⟨t, h1, h2⟩ := h
  rw [h2 ts e]
  exact h1
theorem XR_mk {M0 M' : ZM} {o f0 q : Nat} {out ts : List Tok} (h : EXs M0 M' o f0 q (out ++ ts)) : XR M0 M' o f0 out (some ts, q) := ⟨ts, h, fun ys e => by cases e; rfl⟩
theorem EXs_len {M0 M : ZM} {o f0 p : Nat} {out : List Tok} (e : EXs M0 M o f0 p out) : f0 + out.length ≤ p := e.2.2.2.1
theorem EMs_len {M0 M : ZM} {s0 hb ci p : Nat} {out : List Tok} {st : List Nat} (e : EMs M0 M s0 hb ci p out st) : s0 + out.length + st.length ≤ hb + p := e.2.2.2.2.2.2.1
section GR
variable {T : Nat → Nat} {n o f0 : Nat} {X0 M0 : ZM} {s0 hb ci : Nat}
theorem tsT_no {p x : Nat} (hx : x = 33 ∨ x = 40) (h : chT T n p = x) : tsT T n p = (none, p) := by
  unfold tsT ixT
  rw [h]
  have : lfnd (fun i => decide (wdL.getD i 0 = x)) wdL.length 0 = none := by
    rcases hx with r | r
    · rw [r]; decide +kernel
    · rw [r]; decide +kernel
  rw [this]
theorem nts_0 {st : List Nat} (h : st.head? ≠ some 33) : nts st = [] ∧ pl st = st := by
  match st with
  | [] => exact ⟨rfl, rfl⟩
  | x :: r =>
    have : x ≠ 33 := fun q => h (by rw [q]; rfl)
    exact ⟨if_neg this, if_neg this⟩
/-- part: a test -/
theorem s_tst (ho : 49 < o) (hx : TXx X0 T n) (hm : TXm M0 T n) (hb5 : hb ≤ 500) (hs : hb ≤ s0) {p c e : Nat} (pn : p ≤ n) (hce : c + e = 4) (hc : (chT T n p = 33 ∨ chT T n p = 40) → e = 0) : Pp n o f0 X0 M0 s0 hb ci p c e := by
  have hn := hx.1
  have h128 : ∀ k, k < n → T k < 128 := fun k hk => (hx.2.2 k hk).2
  obtain ⟨t1, t2, t3⟩ := tsT_le (T := T) pn
  refine ⟨tsT T n p, ⟨t1, t2, fun ts q => ⟨by have := (t3 ts q).1; omega, by have := (t3 ts q).1; omega, fun h hh => (t3 ts q).2 h (by omega)⟩⟩, fun k M out hk ex => ?_, fun d M out st u R em hop hok hfl => ?_⟩
  · obtain ⟨j, rfl⟩ : ∃ j, k = j + 9 := ⟨k - 9, by omega⟩
    obtain ⟨M', x1, x2⟩ := c4_test (d := j) ho hx pn ex
    have hz : ∀ b : Bool, zb b = 0 ∨ zb b = 1 := fun b => by cases b; exact Or.inl rfl; exact Or.inr rfl
    have s33 := c4_sign (d := j + 7) (EXs_t ho hx ex) ex.1 pn (x := 33) (by omega)
    have s40 := c4_sign (d := j + 7) (EXs_t ho hx ex) ex.1 pn (x := 40) (by omega)
    refine ⟨M', ro_rt (g_X4_passPart ⟨fun q => ?_, fun q => ⟨fun q2 => absurd q2 q, fun _ => ⟨_, _, x1, hz _, rfl, rfl⟩⟩⟩), x2⟩
    have hc4 : c < 4 := (nI_ltI (by omega) (by omega)).mp q
    refine ⟨_, _, s33.2 (fun r => by have := hc (Or.inl r); omega), fun _ => ⟨fun _ => ⟨_, _, s40.2 (fun r => by have := hc (Or.inr r); omega), fun _ => ⟨_, _, x1, hz _, rfl, rfl⟩, z00⟩, fun q2 => absurd q q2⟩, z00⟩
  · have hM := EMs_m hm em
    have nx := c9_next (d := d + 4) hM em.1 pn
    have tt := c9_test (d := d) hm pn hb5 hs em
    refine a_X9_takesE_22 ⟨M, _, nx, z10, fun _ => ?_⟩
    have i33 : (chI T n p = 33) = (chT T n p = 33) := chI_eq (x := 33) h128 (by omega)
    have i40 : (chI T n p = 40) = (chT T n p = 40) := chI_eq (x := 40) h128 (by omega)
    rw [i33, i40, em.2.2.2.2.2.1, hop]
    have full : (chT T n p = 33 ∨ chT T n p = 40) → c = 4 ∧ R M (some (zI 0)) := by
      intro q
      have e0 := hc q
      have tn : tsT T n p = (none, p) := q.elim (fun r => tsT_no (Or.inl rfl) r) (fun r => tsT_no (Or.inr rfl) r)
      rw [tn] at hfl
      exact ⟨by omega, hfl rfl M out st em⟩
    have end2 : ∃ (M7 : ZM) (r8 : Int32), Rt (d + 5) 161 [zR 9 64] M M7 (some (zI r8)) ∧ (r8 = 0 → R M7 (some (zI 0))) ∧ (¬ (r8 = 0) → A_X9_takesE_22 (d + 5) M7 (nI ci) 0 (zI (chI T n p)) R) := by
      cases q : (tsT T n p).1 with
      | none =>
        obtain ⟨M', w1, w2⟩ := tt.2 q
        exact ⟨M', _, w1, fun _ => hfl q M' _ _ w2, z00⟩
      | some ts =>
        obtain ⟨M', w1, w2⟩ := tt.1 ts q
        exact ⟨M', _, w1, z10, fun _ => hok ts q M' _ w2⟩
    refine ⟨fun q => ⟨fun _ => (full (Or.inl q)).2, fun q2 => absurd ?_ q2⟩, fun _ => ⟨fun q => ⟨fun _ => (full (Or.inr q)).2, fun q2 => absurd ?_ q2⟩, fun _ => end2⟩⟩
    · rw [(full (Or.inl q)).1]; rfl
    · rw [(full (Or.inr q)).1]; rfl
/-- part: what is behind a ! -/
theorem s_not (ho : 49 < o) (hx : TXx X0 T n) (hm : TXm M0 T n) (hs : hb ≤ s0) {p c e : Nat} (pn : p < n) (hce : c + (e + 1) = 4) (h33 : chT T n p = 33) (ih : Pp n o f0 X0 M0 s0 hb ci (p + 1) (c + 1) e) : Pp n o f0 X0 M0 s0 hb ci p c (e + 1) := by
  have hn := hx.1
  have h128 : ∀ k, k < n → T k < 128 := fun k hk => (hx.2.2 k hk).2
  obtain ⟨r, ⟨o1, o2, o3⟩, hX, hM⟩ := ih
  refine ⟨(r.1.map (· ++ [(1, 0, 0, 0)]), r.2), ⟨by show p ≤ r.2; omega, o2, fun ts q => ?_⟩, fun k M out hk ex => ?_, fun d M out st u R em hop hok hfl => ?_⟩
  · obtain ⟨t1, q1, q2⟩ := Option.map_eq_some_iff.mp q
    obtain ⟨x1, x2, x3⟩ := o3 t1 q1
    subst q2
    refine ⟨?_, by show p < r.2; omega, fun h hh => ?_⟩
    · show (t1 ++ [(1, 0, 0, 0)]).length + p ≤ r.2
      rw [List.length_append]
      show t1.length + 1 + p ≤ r.2
      omega
    · rw [hrun_app (x3 h (by omega))]
      show (if 1 ≤ h + 1 then some (h + 1) else none) = _
      rw [if_pos (by omega)]
  · obtain ⟨j, rfl⟩ : ∃ j, k = j + 12 := ⟨k - 12, by omega⟩
    have s33 := c4_sign (d := j + 10) (EXs_t ho hx ex) ex.1 (by omega) (x := 33) (by omega)
    have e1 := EXs_mv ho (q := p + 1) (by omega) ex
    obtain ⟨M2, x1, x2⟩ := hX (j + 10) _ out (by omega) e1
    have hc4 : nI c < 4 := nI_lt (b := 4) (by omega) (by omega)
    have hcs : nI c + 1 = nI (c + 1) := nI_1 c
    cases q : r.1 with
    | none =>
      rw [q] at x1
      refine ⟨M2, ro_rt (g_X4_passPart ⟨fun _ => ⟨_, _, s33.1 h33, z10, fun _ => ⟨M2, 0, ?_, Or.inl rfl, rfl, rfl⟩⟩, fun q2 => absurd hc4 q2⟩), XR_none x2 rfl rfl⟩
      rw [hcs]
      exact ro_rt (g_X4_passNot ⟨M2, _, x1, fun _ => ⟨rfl, rfl⟩, z00⟩)
    | some t1 =>
      rw [q] at x1
      have e2 := XR_some x2 q
      have := (o3 t1 q).1
      have hl := EXs_len ex
      obtain ⟨M3, y1, y2⟩ := c3_step (d := j + 9) ho (by omega) (1, 0, 0, 0) e2 (by rw [List.length_append]; omega)
      refine ⟨M3, ro_rt (g_X4_passPart ⟨fun _ => ⟨_, _, s33.1 h33, z10, fun _ => ⟨M3, 1, ?_, Or.inr rfl, rfl, rfl⟩⟩, fun q2 => absurd hc4 q2⟩), ?_⟩
      · rw [hcs]
        exact ro_rt (g_X4_passNot ⟨M2, _, x1, z10, fun _ => ⟨M3, y1, rfl, rfl⟩⟩)
      · rw [List.append_assoc] at y2
        exact XR_mk y2
  · have nx := c9_next (d := d + 4) (EMs_m hm em) em.1 (by omega)
    refine a_X9_takesE_22 ⟨M, _, nx, z10, fun _ => ⟨fun _ => ⟨fun q => ?_, fun _ => ?_⟩, fun q => absurd ?_ q⟩⟩
    · rw [em.2.2.2.2.2.1, hop] at q
      have := (nI_eq (b := 4) (by omega) (by omega)).mp q
      omega
    · have hl := EMs_len em
      have e1 := EMs_ps (x := 33) (by omega) em
      have i33 : chI T n p = 33 := (chI_eq (x := 33) h128 (by omega)).mpr h33
      have ho1 : opn (33 :: st) = opn st + 1 := rfl
      rw [em.2.2.2.1, zn_nI (by omega), i33, em.2.2.2.2.2.1, em.1, nI_1, nI_1, nI_1]
      refine ⟨in_n (by omega) (by omega), ?_⟩
      refine hM d _ out (33 :: st) _ R e1 (by rw [ho1, hop]) (fun ts q M' u' em' => ?_) (fun q M' o' st' em' => hfl (by show r.1.map _ = none; rw [q]; rfl) M' o' st' em')
      refine hok (ts ++ [(1, 0, 0, 0)]) (by show r.1.map _ = _; rw [q]; rfl) M' u' ?_
      have ea : out ++ (ts ++ [(1, 0, 0, 0)]) ++ nts st = out ++ ts ++ nts (33 :: st) := by
        show _ = out ++ ts ++ ((1, 0, 0, 0) :: nts st)
        simp only [List.append_assoc, List.cons_append, List.nil_append]
      rw [ea]
      exact em'
    · exact (chI_eq (x := 33) h128 (by omega)).mpr h33
/-- part: in brackets -/
theorem s_brk (ho : 49 < o) (hx : TXx X0 T n) (hm : TXm M0 T n) (hb5 : hb ≤ 500) (hs : hb ≤ s0) (hci : ci < 60) {p c e : Nat} (pn : p < n) (hce : c + (e + 1) = 4) (h40 : chT T n p = 40) (ih : Pe T n o f0 X0 M0 s0 hb ci (p + 1) (c + 1) e) : Pp n o f0 X0 M0 s0 hb ci p c (e + 1) := by
  have hn := hx.1
  have h128 : ∀ k, k < n → T k < 128 := fun k hk => (hx.2.2 k hk).2
  obtain ⟨r, ⟨o1, o2, o3⟩, hN, hX, hM⟩ := ih
  have h41 : chT T n r.2 = 41 → r.2 < n := fun q => chT_lt (by omega) q
  have hr : ∃ r' : Rs, r' = (if r.1.isSome = true ∧ chT T n r.2 = 41 then (r.1, r.2 + 1) else (none, r.2)) := ⟨_, rfl⟩
  obtain ⟨r', hr'⟩ := hr
  have i33 : ¬ chI T n p = 33 := fun q => by
    have : chT T n p = 33 := ((chI_eq (x := 33) h128 (by omega)).mp q)
    omega
  have i40 : chI T n p = 40 := (chI_eq (x := 40) h128 (by omega)).mpr h40
  refine ⟨r', ⟨?_, ?_, fun ts q => ?_⟩, fun k M out hk ex => ?_, fun d M out st u R em hop hok hfl => ?_⟩
  · rw [hr']
    split
    · show p ≤ r.2 + 1; omega
    · show p ≤ r.2; omega
  · rw [hr']
    split
    · rename_i q; exact h41 q.2
    · exact o2
  · rw [hr'] at q ⊢
    split at q
    · rename_i q2
      rw [if_pos q2]
      obtain ⟨x1, x2, x3⟩ := o3 ts q
      exact ⟨by show ts.length + p ≤ r.2 + 1; omega, by show p < r.2 + 1; omega, fun h hh => x3 h (by omega)⟩
    · cases q
  · obtain ⟨j, rfl⟩ : ∃ j, k = j + 12 := ⟨k - 12, by omega⟩
    have s33 := c4_sign (d := j + 10) (EXs_t ho hx ex) ex.1 (by omega) (x := 33) (by omega)
    have s40 := c4_sign (d := j + 10) (EXs_t ho hx ex) ex.1 (by omega) (x := 40) (by omega)
    have e1 := EXs_mv ho (q := p + 1) (by omega) ex
    obtain ⟨M2, x1, x2⟩ := hX (j + 11) _ out (by omega) e1
    have hc4 : nI c < 4 := nI_lt (b := 4) (by omega) (by omega)
    have hcs : nI c + 1 = nI (c + 1) := nI_1 c
    have start : ∀ {R : ZM → Option ZV → Prop}, ((zb r.1.isSome = 0 → R M2 (some (zI 0))) ∧ (¬ zb r.1.isSome = 0 → ∃ (M9 : ZM) (r10 : Int32), Rt (j + 11) 30 [zR 4 48, zI 41] M2 M9 (some (zI r10)) ∧ (r10 = 0 → R M9 (some (zI 0))) ∧ (¬ r10 = 0 → R M9 (some (zI 1))))) → Ro (j + 12) 38 [zR 4 48, zR 3 (o + 1), zI (nI c)] M R := fun hR =>
      g_X4_passPart ⟨fun _ => ⟨_, _, s33.2 (by omega), fun _ => ⟨fun _ => ⟨_, _, s40.1 h40, z10, fun _ => ⟨M2, _, by rw [hcs]; exact x1, hR⟩⟩, fun q => absurd hc4 q⟩, z00⟩, fun q => absurd hc4 q⟩
    cases q : r.1 with
    | none =>
      rw [q] at start
      have hr2 : r' = (none, r.2) := by rw [hr', q]; rfl
      rw [hr2]
      exact ⟨M2, ro_rt (start ⟨fun _ => ⟨rfl, rfl⟩, z00⟩), XR_none x2 rfl rfl⟩
    | some t1 =>
      rw [q] at start
      have e2 := XR_some x2 q
      have s41 := c4_sign (d := j + 10) (EXs_t ho hx e2) e2.1 o2 (x := 41) (by omega)
      by_cases q4 : chT T n r.2 = 41
      · have hr2 : r' = (some t1, r.2 + 1) := by rw [hr', q]; exact if_pos ⟨rfl, q4⟩
        rw [hr2]
        exact ⟨_, ro_rt (start ⟨z10, fun _ => ⟨_, _, s41.1 q4, z10, fun _ => ⟨rfl, rfl⟩⟩⟩), XR_mk (EXs_mv ho (by omega) e2)⟩
      · have hr2 : r' = (none, r.2) := by rw [hr', q]; exact if_neg (fun x => q4 x.2)
        rw [hr2]
        exact ⟨_, ro_rt (start ⟨z10, fun _ => ⟨_, _, s41.2 q4, fun _ => ⟨rfl, rfl⟩, z00⟩⟩), XR_none x2 rfl rfl⟩
  · have nx := c9_next (d := d + 4) (EMs_m hm em) em.1 (by omega)
    refine a_X9_takesE_22 ⟨M, _, nx, z10, fun _ => ⟨fun q => absurd q i33, fun _ => ⟨fun _ => ⟨fun q => ?_, fun _ => ?_⟩, fun q => absurd i40 q⟩⟩⟩
    · rw [em.2.2.2.2.2.1, hop] at q
      have := (nI_eq (b := 4) (by omega) (by omega)).mp q
      omega
    · have hl := EMs_len em
      have e1 := EMs_ps (x := 40) (by omega) em
      have ho1 : opn (40 :: st) = opn st + 1 := rfl
      rw [em.2.2.2.1, zn_nI (by omega), i40, em.2.2.2.2.2.1, em.1, nI_1, nI_1, nI_1]
      refine ⟨in_n (by omega) (by omega), ?_⟩
      refine hM d _ out (40 :: st) _ R e1 (by rw [ho1, hop]) (fun q => by cases q) (fun q => by cases q) (fun q => by cases q) (fun ts q M' u' A t0 hA ht em' => ?_) (fun q M' o' st' em' => ?_)
      · obtain ⟨n38, n124⟩ := hN (by rw [q]; rfl)
        have j38 : ¬ chI T n r.2 = 38 := fun z => n38 ((chI_eq (x := 38) h128 (by omega)).mp z)
        have j124 : ¬ chI T n r.2 = 124 := fun z => n124 ((chI_eq (x := 124) h128 (by omega)).mp z)
        have nx2 := c9_next (d := d + 4) (EMs_m hm em') em'.1 o2
        obtain ⟨M5, w1, w2⟩ := c9_settle (d := d + 3) (s := 124) (by omega) (by omega) hs (by omega) (st := 40 :: st) ⟨fun z => (by cases z), fun _ z => (by cases z)⟩ (A := A) (fun x hx => by rcases hA x hx with z | z; exact Or.inl z; exact Or.inr ⟨z, by omega⟩) em'
        rw [List.append_assoc, ← ht] at w2
        refine a_X9_takesE_22 ⟨M', _, nx2, fun _ => ⟨fun z => absurd z j38, fun _ => ⟨fun z => absurd z j124, fun _ => ⟨M5, w1, in_nI hci (by omega), fun z => ?_, fun _ => ?_⟩⟩⟩, fun z => absurd rfl z⟩
        · have l5 := w2.2.2.2.1
          rw [List.length_cons] at l5
          rw [l5] at z
          have hl5 := EMs_len w2
          rw [List.length_cons] at hl5
          have := (nI_eq (b := 0) (by omega) (by omega)).mp z
          omega
        · rw [zn_nI (by omega)]
          refine ⟨fun z => ?_, fun z => ?_⟩
          · have q41 : chT T n r.2 = 41 := (chI_eq (x := 41) h128 (by omega)).mp z
            have hr2 : r' = (some ts, r.2 + 1) := by rw [hr', q]; exact if_pos ⟨rfl, q41⟩
            rw [hr2] at hok
            have l5 := w2.2.2.2.1
            rw [List.length_cons] at l5
            have e6 := EMs_br (y := M5.1 64 26) w2
            have hl6 := EMs_len e6
            have := h41 q41
            obtain ⟨M6, v1, v2⟩ := c9_whole (d := d + 3) (by omega) (by omega) hs e6
            refine ⟨M6, ?_, hok ts rfl M6 _ v2⟩
            have f6 : (mv79 M5 ci (M5.1 64 26)).1 64 = M5.1 64 := (zu_ne (by omega) : zu M5.1 79 ci (M5.1 64 26) 64 = M5.1 64)
            have g1 : (zu M5.1 79 ci (M5.1 64 26)) 64 27 - 1 = nI st.length := by
              rw [show zu M5.1 79 ci (M5.1 64 26) 64 27 = M5.1 64 27 from congrFun f6 27, l5, l_1, nI_sub (by omega)]; congr 1
            have g2 : (zu M5.1 79 ci (M5.1 64 26)) 64 28 - 1 = nI (opn st) := by
              rw [show zu M5.1 79 ci (M5.1 64 26) 64 28 = M5.1 64 28 from congrFun f6 28, w2.2.2.2.2.2.1, ho1, l_1, nI_sub (by omega)]; congr 1
            have g3 : M5.1 64 16 + 1 = nI (r.2 + 1) := by rw [w2.1, nI_1]
            have g4 : M5.1 64 27 - 1 = nI st.length := by rw [l5, l_1, nI_sub (by omega)]; congr 1
            have g5 : M5.1 64 28 - 1 = nI (opn st) := by rw [w2.2.2.2.2.2.1, ho1, l_1, nI_sub (by omega)]; congr 1
            rw [g4, g5, g3]
            exact v1
          · have q41 : ¬ chT T n r.2 = 41 := fun z2 => z ((chI_eq (x := 41) h128 (by omega)).mpr z2)
            have hr2 : r' = (none, r.2) := by rw [hr', q]; exact if_neg (fun x => q41 x.2)
            rw [hr2] at hfl
            exact hfl rfl _ _ _ (EMs_79 w2)
      · have hr2 : r' = (none, r.2) := by rw [hr', q]; rfl
        rw [hr2] at hfl
        exact hfl rfl M' o' st' em'
end GR
