/-! The reference's reader: what it puts, its waits, its test -/
def WTr (d : Nat) (M : ZM) (R : ZM → Option ZV → Prop) : Prop := (((0 : Int32) < (M.1 64 27) → (¬ (((M.1 64 27) - 1) < 0 ∨ 101 ≤ zn ((M.1 64 27) - 1)) ∧ (((M.1 81 (zn ((M.1 64 27) - 1))) = 33 → (∃ (M1 : ZM) , Rt d 157 [zR 9 64, zI (-33)] M M1 none ∧ A_X9_whole_0 d (zu (zu (M1.1) 64 27 ((M1.1 64 27) - 1)) 64 28 ((M1.1 64 28) - 1), M1.2) R)) ∧ (¬ ((M.1 81 (zn ((M.1 64 27) - 1))) = 33) → R M (none))))) ∧ (¬ ((0 : Int32) < (M.1 64 27)) → R M (none)))
def STr (d : Nat) (M : ZM) (i1 : Int32) (R : ZM → Option ZV → Prop) : Prop := (((0 : Int32) < (M.1 64 27) → (¬ (((M.1 64 27) - 1) < 0 ∨ 101 ≤ zn ((M.1 64 27) - 1)) ∧ (((M.1 81 (zn ((M.1 64 27) - 1))) = 38 → (¬ (((M.1 64 27) - 1) < 0 ∨ 101 ≤ zn ((M.1 64 27) - 1)) ∧ (∃ (M1 : ZM) , Rt d 157 [zR 9 64, zI (-(M.1 81 (zn ((M.1 64 27) - 1))))] (zu (M.1) 64 27 ((M.1 64 27) - 1), M.2) M1 none ∧ A_X9_settle_0 d M1 i1 R))) ∧ (¬ ((M.1 81 (zn ((M.1 64 27) - 1))) = 38) → (¬ (((M.1 64 27) - 1) < 0 ∨ 101 ≤ zn ((M.1 64 27) - 1)) ∧ (((M.1 81 (zn ((M.1 64 27) - 1))) = 124 → ((i1 = 38 → R M (none)) ∧ (¬ (i1 = 38) → (¬ (((M.1 64 27) - 1) < 0 ∨ 101 ≤ zn ((M.1 64 27) - 1)) ∧ (∃ (M2 : ZM) , Rt d 157 [zR 9 64, zI (-(M.1 81 (zn ((M.1 64 27) - 1))))] (zu (M.1) 64 27 ((M.1 64 27) - 1), M.2) M2 none ∧ A_X9_settle_0 d M2 i1 R))))) ∧ (¬ ((M.1 81 (zn ((M.1 64 27) - 1))) = 124) → R M (none)))))))) ∧ (¬ ((0 : Int32) < (M.1 64 27)) → R M (none)))
def mv80 (M : ZM) (k : Nat) (x : Int32) : ZM := (zu M.1 80 k x, M.2)
def mv81 (M : ZM) (k : Nat) (x : Int32) : ZM := (zu M.1 81 k x, M.2)
def mv79 (M : ZM) (k : Nat) (x : Int32) : ZM := (zu M.1 79 k x, M.2)
theorem FRm.rfl {M : ZM} {s0 ci : Nat} : FRm M M s0 ci := ⟨fun _ _ _ _ _ => Eq.refl _, fun _ _ _ _ _ _ => Eq.refl _, fun _ _ => Eq.refl _, fun _ _ => Eq.refl _, Eq.refl _⟩
theorem FRm.trans {M M' M'' : ZM} {s0 ci : Nat} (h : FRm M M' s0 ci) (g : FRm M' M'' s0 ci) : FRm M M'' s0 ci := ⟨fun a h1 h2 h3 h4 => (g.1 a h1 h2 h3 h4).trans (h.1 a h1 h2 h3 h4), fun k h1 h2 h3 h4 h5 => (g.2.1 k h1 h2 h3 h4 h5).trans (h.2.1 k h1 h2 h3 h4 h5), fun k hk => (g.2.2.1 k hk).trans (h.2.2.1 k hk), fun k hk => (g.2.2.2.1 k hk).trans (h.2.2.2.1 k hk), g.2.2.2.2.trans h.2.2.2.2⟩
section MT
variable {d n p s0 hb ci : Nat} {M0 M : ZM} {T : Nat → Nat} {out : List Tok} {st : List Nat}
theorem FRm_c {k : Nat} {x : Int32} (hk : k = 16 ∨ k = 17 ∨ k = 26 ∨ k = 27 ∨ k = 28) : FRm M (mvC M k x) s0 ci := ⟨fun a h1 _ _ _ => mvC_n h1, fun j h1 h2 h3 h4 h5 => mvC_c (by omega), fun j _ => by rw [mvC_n (by omega)], fun j _ => by rw [mvC_n (by omega)], rfl⟩
theorem FRm_80 {k : Nat} {x : Int32} (hk : s0 ≤ k) : FRm M (mv80 M k x) s0 ci := ⟨fun a _ _ h3 _ => (zu_ne h3 : zu M.1 80 k x a = M.1 a), fun j _ _ _ _ _ => by rw [show (mv80 M k x).1 64 = M.1 64 from (zu_ne (by omega) : zu M.1 80 k x 64 = M.1 64)], fun j _ => by rw [show (mv80 M k x).1 79 = M.1 79 from (zu_ne (by omega) : zu M.1 80 k x 79 = M.1 79)], fun j hj => (zu_kn (by omega) : zu M.1 80 k x 80 j = M.1 80 j), rfl⟩
theorem FRm_81 {k : Nat} {x : Int32} : FRm M (mv81 M k x) s0 ci := ⟨fun a _ _ _ h4 => (zu_ne h4 : zu M.1 81 k x a = M.1 a), fun j _ _ _ _ _ => by rw [show (mv81 M k x).1 64 = M.1 64 from (zu_ne (by omega) : zu M.1 81 k x 64 = M.1 64)], fun j _ => by rw [show (mv81 M k x).1 79 = M.1 79 from (zu_ne (by omega) : zu M.1 81 k x 79 = M.1 79)], fun j hj => by rw [show (mv81 M k x).1 80 = M.1 80 from (zu_ne (by omega) : zu M.1 81 k x 80 = M.1 80)], rfl⟩
theorem FRm_79 {x : Int32} : FRm M (mv79 M ci x) s0 ci := ⟨fun a _ h2 _ _ => (zu_ne h2 : zu M.1 79 ci x a = M.1 a), fun j _ _ _ _ _ => by rw [show (mv79 M ci x).1 64 = M.1 64 from (zu_ne (by omega) : zu M.1 79 ci x 64 = M.1 64)], fun j hj => (zu_kn hj : zu M.1 79 ci x 79 j = M.1 79 j), fun j hj => by rw [show (mv79 M ci x).1 80 = M.1 80 from (zu_ne (by omega) : zu M.1 79 ci x 80 = M.1 80)], rfl⟩
theorem TXm_f (h : TXm M0 T n) (e : FRm M0 M s0 ci) : TXm M T n := ⟨h.1, (e.2.1 15 (by omega) (by omega) (by omega) (by omega) (by omega)).trans h.2.1, fun k hk => by rw [e.1 74 (by omega) (by omega) (by omega) (by omega)]; exact h.2.2 k hk⟩
theorem EMs_m (h : TXm M0 T n) (e : EMs M0 M s0 hb ci p out st) : TXm M T n := TXm_f h e.2.2.2.2.2.2.2
theorem EMs_tr {M' : ZM} {p' : Nat} {out' : List Tok} {st' : List Nat} (e : EMs M0 M s0 hb ci p out st) (h16 : M'.1 64 16 = nI p') (h26 : M'.1 64 26 = nI (s0 + out'.length)) (h80 : cMt M'.1 out' s0) (h27 : M'.1 64 27 = nI st'.length) (h81 : STk M'.1 st') (h28 : M'.1 64 28 = nI (opn st')) (hl : s0 + out'.length + st'.length ≤ hb + p') (fr : FRm M M' s0 ci) : EMs M0 M' s0 hb ci p' out' st' := ⟨h16, h26, h80, h27, h81, h28, hl, e.2.2.2.2.2.2.2.trans fr⟩
theorem EMs_mv {q : Nat} (hq : p ≤ q) (e : EMs M0 M s0 hb ci p out st) : EMs M0 (mvC M 16 (nI q)) s0 hb ci q out st := by
  obtain ⟨e1, e2, e3, e4, e5, e6, e7, e8⟩ := id e
  exact EMs_tr e mvC_k ((mvC_c (by omega)).trans e2) (cM_up e3 (fun k _ _ => by rw [mvC_n (by omega)])) ((mvC_c (by omega)).trans e4) (STk_up e5 (fun k _ => by rw [mvC_n (by omega)])) ((mvC_c (by omega)).trans e6) (by omega) (FRm_c (by omega))
theorem EMs_17 {x : Int32} (e : EMs M0 M s0 hb ci p out st) : EMs M0 (mvC M 17 x) s0 hb ci p out st := by
  obtain ⟨e1, e2, e3, e4, e5, e6, e7, e8⟩ := id e
  exact EMs_tr e ((mvC_c (by omega)).trans e1) ((mvC_c (by omega)).trans e2) (cM_up e3 (fun k _ _ => by rw [mvC_n (by omega)])) ((mvC_c (by omega)).trans e4) (STk_up e5 (fun k _ => by rw [mvC_n (by omega)])) ((mvC_c (by omega)).trans e6) e7 (FRm_c (by omega))
theorem EMs_79 {x : Int32} (e : EMs M0 M s0 hb ci p out st) : EMs M0 (mv79 M ci x) s0 hb ci p out st := by
  obtain ⟨e1, e2, e3, e4, e5, e6, e7, e8⟩ := id e
  have n6 : (mv79 M ci x).1 64 = M.1 64 := (zu_ne (by omega) : zu M.1 79 ci x 64 = M.1 64)
  have n8 : (mv79 M ci x).1 80 = M.1 80 := (zu_ne (by omega) : zu M.1 79 ci x 80 = M.1 80)
  have n9 : (mv79 M ci x).1 81 = M.1 81 := (zu_ne (by omega) : zu M.1 79 ci x 81 = M.1 81)
  exact EMs_tr e (by rw [n6]; exact e1) (by rw [n6]; exact e2) (cM_up e3 (fun k _ _ => by rw [n8])) (by rw [n6]; exact e4) (STk_up e5 (fun k _ => by rw [n9])) (by rw [n6]; exact e6) e7 FRm_79
/-- a sign is put -/
def ptM (M : ZM) (s : Nat) (x : Int32) : ZM := mvC (mv80 M s x) 26 (nI (s + 1))
theorem c9_put {s : Nat} {x : Int32} (h : M.1 64 26 = nI s) (hs : s < 600) : Rt (d + 1) 157 [zR 9 64, zI x] M (ptM M s x) none := by
  refine ro_rt (g_X9_put ?_)
  rw [h, zn_nI (by omega), nI_1]
  exact ⟨in_n (by omega) (by omega), rfl, rfl⟩
theorem EMs_pt (t : Tok) (e : EMs M0 M s0 hb ci p out st) (hl : s0 + out.length + 1 + st.length ≤ hb + p) : EMs M0 (ptM M (s0 + out.length) (tM t)) s0 hb ci p (out ++ [t]) st := by
  obtain ⟨e1, e2, e3, e4, e5, e6, e7, e8⟩ := id e
  have hL : (out ++ [t]).length = out.length + 1 := by rw [List.length_append]; rfl
  have n6 : (mv80 M (s0 + out.length) (tM t)).1 64 = M.1 64 := (zu_ne (by omega) : zu M.1 80 (s0 + out.length) (tM t) 64 = M.1 64)
  have n8 : (ptM M (s0 + out.length) (tM t)).1 81 = M.1 81 := (mvC_n (by omega)).trans (zu_ne (by omega) : zu M.1 80 (s0 + out.length) (tM t) 81 = M.1 81)
  have n9 : (ptM M (s0 + out.length) (tM t)).1 80 = zu M.1 80 (s0 + out.length) (tM t) 80 := mvC_n (by omega)
  refine EMs_tr e ((mvC_c (by omega)).trans (by rw [n6]; exact e1)) (by rw [hL]; exact mvC_k) (cM_snoc (cM_up e3 (fun k h1 h2 => by rw [n9, zu_kn (by omega)])) (by rw [n9, zu_kk])) ((mvC_c (by omega)).trans (by rw [n6]; exact e4)) (STk_up e5 (fun k _ => by rw [n8])) ((mvC_c (by omega)).trans (by rw [n6]; exact e6)) (by rw [hL]; omega) ((FRm_80 (by omega)).trans (FRm_c (by omega)))
/-- what a part that is whole brings: signs of NOT, and the waits behind them -/
def nts : List Nat → List Tok
  | [] => []
  | x :: r => if x = 33 then (1, 0, 0, 0) :: nts r else []
def pl : List Nat → List Nat
  | [] => []
  | x :: r => if x = 33 then pl r else x :: r
theorem pl_len : ∀ st : List Nat, (nts st).length + (pl st).length = st.length
  | [] => rfl
  | x :: r => by
    unfold nts pl
    by_cases h : x = 33
    · rw [if_pos h, if_pos h, List.length_cons, List.length_cons]
      have := pl_len r
      omega
    · rw [if_neg h, if_neg h]
      simp
/-- one wait is off -/
theorem EMs_pop {x : Nat} {dd : Int32} (t : Tok) (e : EMs M0 M s0 hb ci p out (x :: st)) (hd : dd = nI (opn st)) : EMs M0 (mvC (mvC (ptM M (s0 + out.length) (tM t)) 27 (nI st.length)) 28 dd) s0 hb ci p (out ++ [t]) st := by
  obtain ⟨e1, e2, e3, e4, e5, e6, e7, e8⟩ := id e
  rw [List.length_cons] at e4 e7
  have hL : (out ++ [t]).length = out.length + 1 := by rw [List.length_append]; rfl
  have n6 : (mv80 M (s0 + out.length) (tM t)).1 64 = M.1 64 := (zu_ne (by omega) : zu M.1 80 (s0 + out.length) (tM t) 64 = M.1 64)
  have na : ∀ a, a ≠ 64 → (mvC (mvC (ptM M (s0 + out.length) (tM t)) 27 (nI st.length)) 28 dd).1 a = zu M.1 80 (s0 + out.length) (tM t) a := fun a h => (mvC_n h).trans ((mvC_n h).trans (mvC_n h))
  have nc : ∀ j, j ≠ 26 → j ≠ 27 → j ≠ 28 → (mvC (mvC (ptM M (s0 + out.length) (tM t)) 27 (nI st.length)) 28 dd).1 64 j = M.1 64 j := fun j h1 h2 h3 => (mvC_c h3).trans ((mvC_c h2).trans ((mvC_c h1).trans (by rw [n6])))
  refine EMs_tr e ((nc 16 (by omega) (by omega) (by omega)).trans e1) ?_ (cM_snoc (cM_up e3 (fun k h1 h2 => by rw [na 80 (by omega), zu_kn (by omega)])) (by rw [na 80 (by omega), zu_kk])) ?_ (STk_up e5.2.2 (fun k _ => by rw [na 81 (by omega), zu_ne (show 81 ≠ 80 by omega)])) ?_ (by rw [hL]; omega) (((FRm_80 (by omega)).trans (FRm_c (by omega))).trans ((FRm_c (by omega)).trans (FRm_c (by omega))))
  · rw [hL]
    exact (mvC_c (by omega)).trans ((mvC_c (by omega)).trans mvC_k)
  · exact (mvC_c (by omega)).trans mvC_k
  · rw [← hd]
    exact mvC_k
theorem t9_whole (hp : hb + p ≤ 600) (hp2 : p ≤ 100) (hs : hb ≤ s0) : ∀ (st : List Nat) (out : List Tok) (M : ZM), EMs M0 M s0 hb ci p out st → WTr (d + 1) M (fun M' v => v = none ∧ EMs M0 M' s0 hb ci p (out ++ nts st) (pl st)) := by
  intro st
  induction st with
  | nil =>
    intro out M e
    unfold WTr
    rw [e.2.2.2.1]
    exact ⟨fun q => absurd q (by decide), fun _ => ⟨rfl, by rw [show out ++ nts [] = out from List.append_nil _]; exact e⟩⟩
  | cons x st ih =>
    intro out M e
    obtain ⟨e1, e2, e3, e4, e5, e6, e7, e8⟩ := id e
    rw [List.length_cons] at e4 e7
    have hm : M.1 64 27 - 1 = nI st.length := by rw [e4, l_1, nI_sub (by omega)]; congr 1
    unfold WTr
    rw [hm, zn_nI (by omega), e5.1, e4]
    refine ⟨fun _ => ⟨in_n (by omega) (by omega), fun q => ?_, fun q => ?_⟩, fun q => absurd (nI_lt (a := 0) (by omega) (by omega)) q⟩
    · have hx : x = 33 := (nI_eq (by have := e5.2.1; omega) (by omega)).mp q
      subst hx
      have ho : opn (33 :: st) = opn st + 1 := rfl
      refine ⟨ptM M (s0 + out.length) (-33), c9_put e2 (by omega), ?_⟩
      have q6 : (mv80 M (s0 + out.length) (-33)).1 64 = M.1 64 := (zu_ne (by omega) : zu M.1 80 (s0 + out.length) (-33) 64 = M.1 64)
      have f1 : (ptM M (s0 + out.length) (-33)).1 64 27 - 1 = nI st.length := by
        rw [show (ptM M (s0 + out.length) (-33)).1 64 27 = M.1 64 27 from (mvC_c (by omega)).trans (by rw [q6]), hm]
      have f2 : (ptM M (s0 + out.length) (-33)).1 64 28 - 1 = nI (opn st) := by
        rw [show (ptM M (s0 + out.length) (-33)).1 64 28 = M.1 64 28 from (mvC_c (by omega)).trans (by rw [q6]), e6, ho, l_1, nI_sub (by omega)]; congr 1
      rw [f1, f2]
      have en := EMs_pop (dd := nI (opn st)) (1, 0, 0, 0) e rfl
      have := ih (out ++ [(1, 0, 0, 0)]) _ en
      have e0 : out ++ [(1, 0, 0, 0)] ++ nts st = out ++ nts (33 :: st) := by rw [List.append_assoc]; rfl
      have e9 : pl (33 :: st) = pl st := rfl
      rw [e9, ← e0]
      exact a_X9_whole_0 this
    · have hx : x ≠ 33 := fun r => q (by rw [r]; rfl)
      refine ⟨rfl, ?_⟩
      have e0 : nts (x :: st) = [] := if_neg hx
      have e9 : pl (x :: st) = x :: st := if_neg hx
      rw [e0, e9, List.append_nil]
      exact e
theorem c9_whole (hp : hb + p ≤ 600) (hp2 : p ≤ 100) (hs : hb ≤ s0) (e : EMs M0 M s0 hb ci p out st) : ∃ M', Rt (d + 2) 158 [zR 9 64] M M' none ∧ EMs M0 M' s0 hb ci p (out ++ nts st) (pl st) := by
  obtain ⟨M', v, h1, h2, h3⟩ := g_X9_whole (t9_whole (d := d) hp hp2 hs st out M e)
  rw [h2] at h1
  exact ⟨M', h1, h3⟩
/-- signs that wait, as tokens -/
def pd : List Nat → List Tok
  | [] => []
  | x :: r => (if x = 38 then (2, 0, 0, 0) else (3, 0, 0, 0)) :: pd r
theorem t9_settle (hp : hb + p ≤ 600) (hp2 : p ≤ 100) (hs : hb ≤ s0) {s : Nat} (h128 : s < 128) (hst : st.head? ≠ some 38 ∧ (s ≠ 38 → st.head? ≠ some 124)) : ∀ (A : List Nat) (out : List Tok) (M : ZM), (∀ x ∈ A, x = 38 ∨ (x = 124 ∧ s ≠ 38)) → EMs M0 M s0 hb ci p out (A ++ st) → STr (d + 1) M (nI s) (fun M' v => v = none ∧ EMs M0 M' s0 hb ci p (out ++ pd A) st) := by
  intro A
  induction A with
  | nil =>
    intro out M _ e
    unfold STr
    match st, hst, e with
    | [], _, e =>
      rw [e.2.2.2.1]
      exact ⟨fun q => absurd q (by decide), fun _ => ⟨rfl, by rw [show out ++ pd [] = out from List.append_nil _]; exact e⟩⟩
    | x :: r, hst, e =>
      obtain ⟨e1, e2, e3, e4, e5, e6, e7, e8⟩ := id e
      simp only [List.nil_append, List.length_cons] at e4 e5 e7
      have hm : M.1 64 27 - 1 = nI r.length := by rw [e4, l_1, nI_sub (by omega)]; congr 1
      rw [hm, zn_nI (by omega), e5.1, e4]
      have fin : EMs M0 M s0 hb ci p (out ++ pd []) (x :: r) := by rw [show out ++ pd [] = out from List.append_nil _]; exact e
      refine ⟨fun _ => ⟨in_n (by omega) (by omega), fun q => ?_, fun _ => ⟨in_n (by omega) (by omega), fun q => ⟨fun _ => ⟨rfl, fin⟩, fun q2 => ?_⟩, fun _ => ⟨rfl, fin⟩⟩⟩, fun q => absurd (nI_lt (a := 0) (by omega) (by omega)) q⟩
      · have hx : x = 38 := (nI_eq (by have := e5.2.1; omega) (by omega)).mp q
        exact absurd (by rw [hx]; rfl) hst.1
      · have hx : x = 124 := (nI_eq (by have := e5.2.1; omega) (by omega)).mp q
        refine absurd (by rw [hx]; rfl) (hst.2 (fun r => q2 ?_))
        rw [r]; rfl
  | cons x A ih =>
    intro out M hA e
    obtain ⟨e1, e2, e3, e4, e5, e6, e7, e8⟩ := id e
    rw [List.cons_append, List.length_cons] at e4 e7
    have hm : M.1 64 27 - 1 = nI (A ++ st).length := by rw [e4, l_1, nI_sub (by omega)]; congr 1
    have e5' : M.1 81 (A ++ st).length = nI x := e5.1
    have hx := hA x (List.mem_cons_self ..)
    have hA' : ∀ y ∈ A, y = 38 ∨ (y = 124 ∧ s ≠ 38) := fun y hy => hA y (List.mem_cons_of_mem _ hy)
    unfold STr
    rw [hm, zn_nI (by omega), e5', e4]
    have go : ∀ t : Tok, tM t = - nI x → (if x = 38 then (2, 0, 0, 0) else (3, 0, 0, 0)) = t → ∃ M1 : ZM, Rt (d + 1) 157 [zR 9 64, zI (- nI x)] (zu M.1 64 27 (nI (A ++ st).length), M.2) M1 none ∧ A_X9_settle_0 (d + 1) M1 (nI s) (fun M' v => v = none ∧ EMs M0 M' s0 hb ci p (out ++ pd (x :: A)) st) := by
      intro t ht htx
      have ho : opn (x :: (A ++ st)) = opn (A ++ st) := if_neg (by omega)
      have b1 : (mvC M 27 (nI (A ++ st).length)).1 64 26 = nI (s0 + out.length) := (mvC_c (by omega)).trans e2
      refine ⟨_, c9_put (M := mvC M 27 (nI (A ++ st).length)) b1 (by omega), ?_⟩
      have en := EMs_pop (dd := M.1 64 28) t e (by rw [e6]; congr 1)
      have es : ptM (mvC M 27 (nI (A ++ st).length)) (s0 + out.length) (tM t) = mvC (mvC (ptM M (s0 + out.length) (tM t)) 27 (nI (A ++ st).length)) 28 (M.1 64 28) := by
        have e28 : (mvC (ptM M (s0 + out.length) (tM t)) 27 (nI (A ++ st).length)).1 64 28 = M.1 64 28 := (mvC_c (by omega)).trans ((mvC_c (by omega)).trans (by rw [show (mv80 M (s0 + out.length) (tM t)).1 64 = M.1 64 from (zu_ne (by omega) : zu M.1 80 (s0 + out.length) (tM t) 64 = M.1 64)]))
        rw [mvC_self e28]
        refine Prod.ext ?_ rfl
        funext a j
        show zu (zu (zu M.1 64 27 (nI (A ++ st).length)) 80 (s0 + out.length) (tM t)) 64 26 (nI (s0 + out.length + 1)) a j = zu (zu (zu M.1 80 (s0 + out.length) (tM t)) 64 26 (nI (s0 + out.length + 1))) 64 27 (nI (A ++ st).length) a j
        by_cases ha : a = 64
        · rw [ha]
          by_cases h1 : j = 26
          · rw [h1, zu_kk, zu_kn (show 26 ≠ 27 by omega), zu_kk]
          · rw [zu_kn h1, zu_ne (show 64 ≠ 80 by omega)]
            by_cases h2 : j = 27
            · rw [h2, zu_kk, zu_kk]
            · rw [zu_kn h2, zu_kn h2, zu_kn h1, zu_ne (show 64 ≠ 80 by omega)]
        · rw [zu_ne ha, zu_ne ha, zu_ne ha]
          by_cases h1 : a = 80
          · rw [h1]
            by_cases h2 : j = s0 + out.length
            · rw [h2, zu_kk, zu_kk]
            · rw [zu_kn h2, zu_kn h2, zu_ne (show 80 ≠ 64 by omega)]
          · rw [zu_ne h1, zu_ne h1, zu_ne ha]
      have e0 : out ++ pd (x :: A) = out ++ [t] ++ pd A := by rw [List.append_assoc]; show out ++ ((if x = 38 then (2, 0, 0, 0) else (3, 0, 0, 0)) :: pd A) = _; rw [htx]; rfl
      rw [e0, ← ht, es]
      exact a_X9_settle_0 (ih (out ++ [t]) _ hA' en)
    refine ⟨fun _ => ⟨in_n (by omega) (by omega), fun q => ⟨in_n (by omega) (by omega), ?_⟩, fun q => ⟨in_n (by omega) (by omega), fun q1 => ⟨fun q2 => ?_, fun q2 => ⟨in_n (by omega) (by omega), ?_⟩⟩, fun q1 => ?_⟩⟩, fun q => absurd (nI_lt (a := 0) (by omega) (by omega)) q⟩
    · have hx : x = 38 := (nI_eq (by omega) (by omega)).mp q
      exact go (2, 0, 0, 0) (by rw [hx]; rfl) (if_pos hx)
    · have hs : s = 38 := (nI_eq (by omega) (by omega)).mp q2
      rcases hx with r | ⟨r, r2⟩
      · exact absurd (by rw [r]; rfl) q
      · exact absurd hs r2
    · have hx : x = 124 := (nI_eq (by omega) (by omega)).mp q1
      exact go (3, 0, 0, 0) (by rw [hx]; rfl) (if_neg (by omega))
    · rcases hx with r | ⟨r, r2⟩
      · exact absurd (by rw [r]; rfl) q
      · exact absurd (by rw [r]; rfl) q1
theorem c9_settle (hp : hb + p ≤ 600) (hp2 : p ≤ 100) (hs : hb ≤ s0) {s : Nat} (h128 : s < 128) (hst : st.head? ≠ some 38 ∧ (s ≠ 38 → st.head? ≠ some 124)) {A : List Nat} (hA : ∀ x ∈ A, x = 38 ∨ (x = 124 ∧ s ≠ 38)) (e : EMs M0 M s0 hb ci p out (A ++ st)) : ∃ M', Rt (d + 2) 159 [zR 9 64, zI (nI s)] M M' none ∧ EMs M0 M' s0 hb ci p (out ++ pd A) st := by
  obtain ⟨M', v, h1, h2, h3⟩ := g_X9_settle (t9_settle (d := d) hp hp2 hs h128 hst A out M hA e)
  rw [h2] at h1
  exact ⟨M', h1, h3⟩
def plc (x : Int32) : Int32 := if x = 107 then 2 else if x = 108 then -1 else if x = 109 then 3 else if x = 110 then -1 else if x = 111 then -1 else if x = 112 then 0 else if x = 113 then -1 else if x = 114 then -1 else if x = 115 then 1 else if x = 116 then 4 else if x = 117 then -1 else if x = 118 then -1 else if x = 119 then 5 else -1
theorem c9_plc {x : Int32} : Rt (d + 1) 160 [zR 9 64, zI x] M M (some (zI (plc x))) := by
  refine ro_rt (g_X9_place ?_)
  unfold plc
  repeat (refine ⟨fun q => ⟨rfl, by rw [if_pos q]⟩, fun q => ?_⟩; rw [if_neg q])
  exact ⟨rfl, rfl⟩
theorem plc_ok : ∀ c, c < 128 → plc (nI c) = zoi (-1) (lfnd (fun i => decide (wdL.getD i 0 = c)) 6 0) := by decide +kernel
theorem plc_ix (h : ∀ k, k < n → T k < 128) : plc (chI T n p) = zoi (-1) (ixT T n wdL p) := by
  unfold chI ixT chT
  by_cases c : p < n
  · rw [if_pos c, if_pos c]
    exact plc_ok _ (h p c)
  · rw [if_neg c, if_neg c]
    decide +kernel
theorem rel_ok : ∀ c, c < 128 → (lfnd (fun i => decide (wdR.getD i 0 = c)) 3 0) = (if ¬ nI c < 60 ∧ ¬ (62 : Int32) < nI c then some (c - 60) else none) := by decide +kernel
theorem rel_ix (h : ∀ k, k < n → T k < 128) : (∀ b, ixT T n wdR p = some b → chI T n p = nI (b + 60) ∧ ¬ chI T n p < 60 ∧ ¬ (62 : Int32) < chI T n p) ∧ (ixT T n wdR p = none → ¬ (¬ chI T n p < 60 ∧ ¬ (62 : Int32) < chI T n p)) := by
  unfold chI ixT chT
  by_cases c : p < n
  · rw [if_pos c, if_pos c]
    have k := rel_ok _ (h p c)
    refine ⟨fun b hb => ?_, fun hb => ?_⟩
    · rw [show lfnd (fun i => decide (wdR.getD i 0 = T p)) wdR.length 0 = lfnd (fun i => decide (wdR.getD i 0 = T p)) 3 0 from rfl, k] at hb
      by_cases q : ¬ nI (T p) < 60 ∧ ¬ (62 : Int32) < nI (T p)
      · rw [if_pos q] at hb
        cases hb
        have h60 : 60 ≤ T p := Nat.le_of_not_lt (fun r => q.1 (nI_lt (b := 60) r (by omega)))
        exact ⟨by congr 1; omega, q⟩
      · rw [if_neg q] at hb
        cases hb
    · rw [show lfnd (fun i => decide (wdR.getD i 0 = T p)) wdR.length 0 = lfnd (fun i => decide (wdR.getD i 0 = T p)) 3 0 from rfl, k] at hb
      by_cases q : ¬ nI (T p) < 60 ∧ ¬ (62 : Int32) < nI (T p)
      · rw [if_pos q] at hb
        cases hb
      · exact q
  · rw [if_neg c, if_neg c]
    have k : lfnd (fun i => decide (wdR.getD i 0 = 999)) wdR.length 0 = none := by decide +kernel
    rw [k]
    exact ⟨fun b hb => (by cases hb), fun _ => by decide⟩
/-- the reference's test -/
theorem c9_test (h : TXm M0 T n) (pn : p ≤ n) (hb5 : hb ≤ 500) (hs : hb ≤ s0) (e : EMs M0 M s0 hb ci p out st) : (∀ ts, (tsT T n p).1 = some ts → ∃ M', Rt (d + 5) 161 [zR 9 64] M M' (some (zI 1)) ∧ EMs M0 M' s0 hb ci (tsT T n p).2 (out ++ ts ++ nts st) (pl st)) ∧ ((tsT T n p).1 = none → ∃ M', Rt (d + 5) 161 [zR 9 64] M M' (some (zI 0)) ∧ EMs M0 M' s0 hb ci (tsT T n p).2 out st) := by
  have hn := h.1
  have h128 : ∀ k, k < n → T k < 128 := fun k hk => (h.2.2 k hk).2
  have n1 := c9_next (d := d + 3) (EMs_m h e) e.1 pn
  have pl1 := c9_plc (d := d + 3) (M := M) (x := chI T n p)
  rw [plc_ix h128] at pl1
  unfold tsT
  cases h1 : ixT T n wdL p with
  | none =>
    rw [h1] at pl1
    exact ⟨fun ts q => (by cases q), fun _ => ⟨M, ro_rt (g_X9_takesTest ⟨M, _, n1, M, _, pl1, fun _ => ⟨rfl, rfl⟩, fun q => absurd (by decide) q⟩), e⟩⟩
  | some a =>
    rw [h1] at pl1
    have l1 := ixT_lt (l := wdL) (by decide) h1
    have k1 : a < 6 := l1.1
    have e1 := EMs_mv (q := p + 1) (by omega) e
    have n2 := c9_next (d := d + 3) (EMs_m h e1) e1.1 l1.2
    have i16 : M.1 64 16 + 1 = nI (p + 1) := by rw [e.1, nI_1]
    have rx := rel_ix (T := T) (n := n) (p := p + 1) h128
    cases h2 : ixT T n wdR (p + 1) with
    | none =>
      refine ⟨fun ts q => (by cases q), fun _ => ⟨mvC M 16 (nI (p + 1)), ro_rt (g_X9_takesTest ⟨M, _, n1, M, _, pl1, fun q => absurd q (nI_pos (by omega)), fun _ => ?_⟩), e1⟩⟩
      rw [i16]
      exact ⟨_, _, n2, _, _, in_0 (rx.2 h2), fun _ => ⟨rfl, rfl⟩, z00⟩
    | some b =>
      have l2 := ixT_lt (l := wdR) (by decide) h2
      have k2 : b < 3 := l2.1
      obtain ⟨r1, r2⟩ := rx.1 b h2
      have e2 := EMs_mv (q := p + 2) (by omega) e1
      have i17 : (mvC M 16 (nI (p + 1))).1 64 16 + 1 = nI (p + 2) := by rw [e1.1, nI_1]
      have nm := c9_num (d := d) (EMs_m h e2) e2.1 (by omega)
      have m := nmT_le (T := T) (n := n) (p := p + 2) (by omega)
      cases h3 : (nmT T n (p + 2)).1 with
      | none =>
        refine ⟨fun ts q => (by cases q), fun _ => ⟨mvC (mvC M 16 (nI (p + 1))) 16 (nI (p + 2)), ro_rt (g_X9_takesTest ⟨M, _, n1, M, _, pl1, fun q => absurd q (nI_pos (by omega)), fun _ => ?_⟩), e2⟩⟩
        rw [i16]
        refine ⟨_, _, n2, _, _, in_1 r2, z10, fun _ => ?_⟩
        show ∃ (M9 : ZM) (r10 : Int32), Rt (d + 4) 156 [zR 9 64] (zu (mvC M 16 (nI (p + 1))).1 64 16 ((mvC M 16 (nI (p + 1))).1 64 16 + 1), (mvC M 16 (nI (p + 1))).2) M9 (some (zI r10)) ∧ _
        rw [i17]
        exact ⟨_, _, nm.2 h3, fun _ => ⟨rfl, rfl⟩, z00⟩
      | some v =>
        obtain ⟨m1, m2, m3, m4⟩ := m
        have mv := m4 v h3
        have e7 := e.2.2.2.2.2.2.1
        have e3 : EMs M0 (mvC (mvC (mvC (mvC M 16 (nI (p + 1))) 16 (nI (p + 2))) 17 (nI v)) 16 (nI (nmT T n (p + 2)).2)) s0 hb ci (nmT T n (p + 2)).2 out st := EMs_mv (by omega) (EMs_17 e2)
        have e4 := EMs_pt (0, a, b, v) e3 (by omega)
        obtain ⟨M', w1, w2⟩ := c9_whole (d := d + 2) (by omega) (by omega) hs e4
        refine ⟨fun ts q => ⟨M', ro_rt (g_X9_takesTest ⟨M, _, n1, M, _, pl1, fun q => absurd q (nI_pos (by omega)), fun _ => ?_⟩), ?_⟩, fun q => (by cases q)⟩
        · rw [i16]
          refine ⟨_, _, n2, _, _, in_1 r2, z10, fun _ => ?_⟩
          show ∃ (M9 : ZM) (r10 : Int32), Rt (d + 4) 156 [zR 9 64] (zu (mvC M 16 (nI (p + 1))).1 64 16 ((mvC M 16 (nI (p + 1))).1 64 16 + 1), (mvC M 16 (nI (p + 1))).2) M9 (some (zI r10)) ∧ _
          rw [i17]
          refine ⟨_, _, nm.1 v h3, z10, fun _ => ⟨_, ?_, M', w1, rfl, rfl⟩⟩
          have ev : (1000 * nI a + 100 * (chI T n (p + 1) - 60)) + (mvC (mvC (mvC (mvC M 16 (nI (p + 1))) 16 (nI (p + 2))) 17 (nI v)) 16 (nI (nmT T n (p + 2)).2)).1 64 17 = tM (0, a, b, v) := by
            rw [mvC_c (by omega), mvC_k, r1, show (60 : Int32) = nI 60 from rfl, nI_sub (by omega), l_1000, l_100, pk_mul, pk_mul, nI_add, nI_add, Nat.add_sub_cancel]
            rfl
          show Rt (d + 4) 157 [zR 9 64, zI ((1000 * nI a + 100 * (chI T n (p + 1) - 60)) + (mvC (mvC (mvC (mvC M 16 (nI (p + 1))) 16 (nI (p + 2))) 17 (nI v)) 16 (nI (nmT T n (p + 2)).2)).1 64 17)] _ _ _
          rw [ev]
          exact c9_put e3.2.1 (by omega)
        · cases q
          exact w2
end MT
