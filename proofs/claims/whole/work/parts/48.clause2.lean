/-! A CLAUSE in both: what it changes, what it is -/
def FXg (X0 M : ZM) (o : Nat) : Prop := (∀ a, a ≠ 48 → (a ≤ o ∨ o + 4 < a) → M.1 a = X0.1 a) ∧ (∀ k, k ≠ 2 → M.1 48 k = X0.1 48 k) ∧ M.2 = X0.2
theorem FXg.rfl {M : ZM} {o : Nat} : FXg M M o := ⟨fun _ _ _ => Eq.refl _, fun _ _ => Eq.refl _, Eq.refl _⟩
theorem FXg.trans {M M' M'' : ZM} {o : Nat} (h : FXg M M' o) (g : FXg M' M'' o) : FXg M M'' o := ⟨fun a q r => (g.1 a q r).trans (h.1 a q r), fun k q => (g.2.1 k q).trans (h.2.1 k q), g.2.2.trans h.2.2⟩
theorem FXg_mv {M : ZM} {o p : Nat} : FXg M (mvX M p) o := ⟨fun a q _ => (zu_ne q : zu M.1 48 2 (nI p) a = M.1 a), fun k q => (zu_kn q : zu M.1 48 2 (nI p) 48 k = M.1 48 k), rfl⟩
theorem FXg_ex {M M' : ZM} {o f0 p : Nat} {out : List Tok} (e : EXs M M' o f0 p out) : FXg M M' o := ⟨fun a q r => e.2.2.2.2.1 a q (by omega) (by omega), e.2.2.2.2.2.1, e.2.2.2.2.2.2.2.2⟩
def tot : List Cls → Nat
  | [] => 0
  | w :: r => w.2.length + tot r
theorem HXr_tot {I : Nat → Nat → Int32} {o : Nat} : ∀ {l : List Cls} {c f : Nat}, HXr I o l c f → I (o + 1) 4 = nI (f + tot l)
  | [], c, f, h => h.2.1
  | w :: r, c, f, h => by
    have := HXr_tot h.2.2.2.2
    rw [this, Nat.add_assoc]
    rfl
theorem tot_app : ∀ (a b : List Cls), tot (a ++ b) = tot a + tot b
  | [], b => by show tot b = 0 + tot b; omega
  | w :: r, b => by
    show w.2.length + tot (r ++ b) = w.2.length + tot r + tot b
    rw [tot_app r b]
    omega
theorem HXr_snoc {I I' : Nat → Nat → Int32} {o : Nat} {w : Cls} : ∀ {l : List Cls} {c f : Nat}, HXr I o l c f → (∀ k, k < c + l.length → I' (o + 2) k = I (o + 2) k) → (∀ k, k < c + l.length → I' (o + 3) k = I (o + 3) k) → (∀ k, k < f + tot l → I' (o + 4) k = I (o + 4) k) → I' (o + 2) (c + l.length) = w.1 → I' (o + 3) (c + l.length) = nI (f + tot l + w.2.length) → cX I' (o + 4) w.2 (f + tot l) → hrun w.2 0 = some 1 → I' (o + 1) 1 = nI (c + l.length + 1) → I' (o + 1) 4 = nI (f + tot l + w.2.length) → c + l.length + 1 ≤ 10 → f + tot l + w.2.length ≤ 100 → HXr I' o (l ++ [w]) c f
  | [], c, f, _, _, _, _, a1, a2, a3, a4, a5, a6, a7, a8 => ⟨a1, a2, a3, a4, a5, a6, a7, a8⟩
  | x :: r, c, f, h, b1, b2, b3, a1, a2, a3, a4, a5, a6, a7, a8 => by
    have e1 : c + (x :: r).length = c + 1 + r.length := by rw [List.length_cons]; omega
    have e2 : f + tot (x :: r) = f + x.2.length + tot r := by show f + (x.2.length + tot r) = _; omega
    rw [e1] at b1 b2 a1 a2 a5 a7
    rw [e2] at b3 a2 a3 a6 a8
    exact ⟨(b1 c (by omega)).trans h.1, (b2 c (by omega)).trans h.2.1, cX_up h.2.2.1 (fun k h1 h2 => b3 k (by omega)), h.2.2.2.1, HXr_snoc h.2.2.2.2 b1 b2 b3 a1 a2 a3 a4 a5 a6 a7 a8⟩
theorem hCl_app : ∀ (a b : Hs), hCl (a ++ b) = hCl a ++ hCl b
  | [], b => rfl
  | (0, x, t) :: r, b => by
    show (nI x, t) :: hCl (r ++ b) = (nI x, t) :: hCl r ++ hCl b
    rw [hCl_app r b]; rfl
  | (1, x, t) :: r, b => by
    show (-nI x, t) :: hCl (r ++ b) = (-nI x, t) :: hCl r ++ hCl b
    rw [hCl_app r b]; rfl
  | (k + 2, x, t) :: r, b => hCl_app r b
theorem hCl_len : ∀ (a : Hs), (hCl a).length ≤ a.length
  | [] => Nat.le_refl _
  | (0, x, t) :: r => Nat.succ_le_succ (hCl_len r)
  | (1, x, t) :: r => Nat.succ_le_succ (hCl_len r)
  | (k + 2, x, t) :: r => Nat.le_succ_of_le (hCl_len r)
theorem hTie_app {w : Nat × Nat × List Tok} : ∀ (a : Hs) (m : Nat), hTie (a ++ [w]) m = if w.1 = 2 then w.2.1 else hTie a m
  | [], m => rfl
  | x :: r, m => hTie_app r _
/-- SeatOn's reader at a place, the house so far -/
def PXs (X : ZM) (o p : Nat) (H : Hs) : Prop := X.1 48 2 = nI p ∧ HX X.1 o H ∧ tot (hCl H) ≤ p
theorem PXs_mv {X : ZM} {o p q : Nat} {H : Hs} (ho : 49 < o) (hq : p ≤ q) (h : PXs X o p H) : PXs (mvX X q) o q H := ⟨mvX_p, HX_eq (fun a h1 h2 => (zu_ne (by omega) : zu X.1 48 2 (nI q) a = X.1 a)) h.2.1, by have := h.2.2; omega⟩
theorem c3_end {d o cn f : Nat} {M : ZM} {x : Int32} (h1 : M.1 (o + 1) 1 = nI cn) (hc : cn < 10) (h4 : M.1 (o + 1) 4 = nI f) : Rt (d + 1) 23 [zR 3 (o + 1), zI x] M (zu (zu (zu M.1 (o + 2) cn x) (o + 3) cn (nI f)) (o + 1) 1 (nI (cn + 1)), M.2) none := by
  refine ro_rt (g_X3_endClause ?_)
  have n1 : ∀ (I : Nat → Nat → Int32) (k : Nat) (y : Int32), zu I (o + 2) k y (o + 1) = I (o + 1) := fun I k y => zu_ne (by omega)
  have n2 : ∀ (I : Nat → Nat → Int32) (k : Nat) (y : Int32), zu I (o + 3) k y (o + 1) = I (o + 1) := fun I k y => zu_ne (by omega)
  rw [n1, n2, n1, h1, h4, zn_nI (by omega), nI_1]
  exact ⟨fun _ => ⟨in_n (by omega) (by omega), in_n (by omega) (by omega), rfl, rfl⟩, fun q => absurd (nI_lt (by omega) (by omega)) q⟩
/-- the reference's houses, clause by clause, their signs from lo to s -/
def HMs (I : Nat → Nat → Int32) (lo s : Nat) : Hs → Nat → Prop
  | [], _ => True
  | w :: r, c => (I 76 c = nI w.1 ∧ w.1 < 3 ∧ I 77 c = nI w.2.1 ∧ w.2.1 < 100 ∧ (w.1 ≠ 2 → ∃ f, I 78 c = nI f ∧ I 79 c = nI (f + w.2.2.length) ∧ (lo ≤ f ∧ f + w.2.2.length ≤ s) ∧ cMt I w.2.2 f ∧ hrun w.2.2 0 = some 1)) ∧ HMs I lo s r (c + 1)
def FRk (M M' : ZM) (ci s0 : Nat) : Prop := (∀ a, a ≠ 64 → (a < 76 ∨ 81 < a) → M'.1 a = M.1 a) ∧ (∀ k, k ≠ 16 → k ≠ 17 → k ≠ 26 → k ≠ 27 → k ≠ 28 → M'.1 64 k = M.1 64 k) ∧ (∀ a, 76 ≤ a → a < 80 → ∀ k, k ≠ ci → M'.1 a k = M.1 a k) ∧ (∀ k, k < s0 → M'.1 80 k = M.1 80 k) ∧ M'.2 = M.2
theorem FRk.trans {M M' M'' : ZM} {s0 ci : Nat} (h : FRk M M' ci s0) (g : FRk M' M'' ci s0) : FRk M M'' ci s0 := ⟨fun a h1 h2 => (g.1 a h1 h2).trans (h.1 a h1 h2), fun k h1 h2 h3 h4 h5 => (g.2.1 k h1 h2 h3 h4 h5).trans (h.2.1 k h1 h2 h3 h4 h5), fun a h1 h2 k hk => (g.2.2.1 a h1 h2 k hk).trans (h.2.2.1 a h1 h2 k hk), fun k hk => (g.2.2.2.1 k hk).trans (h.2.2.2.1 k hk), g.2.2.2.2.trans h.2.2.2.2⟩
theorem FRk_m {M M' : ZM} {s0 ci : Nat} (h : FRm M M' s0 ci) : FRk M M' ci s0 := ⟨fun a h1 h2 => h.1 a h1 (by omega) (by omega) (by omega), h.2.1, fun a h1 h2 k hk => by
  by_cases q : a = 79
  · rw [q]; exact h.2.2.1 k hk
  · rw [h.1 a (by omega) q (by omega) (by omega)], h.2.2.2.1, h.2.2.2.2⟩
theorem FRk_7 {M : ZM} {s0 ci a : Nat} {x : Int32} (ha : 76 ≤ a) (ha2 : a < 80) : FRk M (zu M.1 a ci x, M.2) ci s0 := ⟨fun b h1 h2 => (zu_ne (by omega) : zu M.1 a ci x b = M.1 b), fun k _ _ _ _ _ => congrFun (zu_ne (by omega) : zu M.1 a ci x 64 = M.1 64) k, fun b h1 h2 k hk => by
  show zu M.1 a ci x b k = M.1 b k
  by_cases q : b = a
  · rw [q]; exact zu_kn hk
  · rw [zu_ne q], fun k hk => congrFun (zu_ne (by omega) : zu M.1 a ci x 80 = M.1 80) k, rfl⟩
theorem HMs_up {M M' : ZM} {ci s0 s' lo : Nat} (g : FRk M M' ci s0) (hs : s0 ≤ s') : ∀ {l : Hs} {c : Nat}, HMs M.1 lo s0 l c → c + l.length ≤ ci → HMs M'.1 lo s' l c
  | [], _, _, _ => trivial
  | w :: r, c, h, e => by
    rw [List.length_cons] at e
    obtain ⟨⟨h1, h2, h3, h4, h5⟩, h6⟩ := h
    refine ⟨⟨(g.2.2.1 76 (by omega) (by omega) c (by omega)).trans h1, h2, (g.2.2.1 77 (by omega) (by omega) c (by omega)).trans h3, h4, fun q => ?_⟩, HMs_up g hs h6 (by omega)⟩
    obtain ⟨f, f1, f2, f3, f4, f5⟩ := h5 q
    exact ⟨f, (g.2.2.1 78 (by omega) (by omega) c (by omega)).trans f1, (g.2.2.1 79 (by omega) (by omega) c (by omega)).trans f2, ⟨f3.1, by omega⟩, cM_up f4 (fun k k1 k2 => g.2.2.2.1 k (by omega)), f5⟩
theorem HMs_snoc {I : Nat → Nat → Int32} {lo s : Nat} {w : Nat × Nat × List Tok} : ∀ {l : Hs} {c : Nat}, HMs I lo s l c → (I 76 (c + l.length) = nI w.1 ∧ w.1 < 3 ∧ I 77 (c + l.length) = nI w.2.1 ∧ w.2.1 < 100 ∧ (w.1 ≠ 2 → ∃ f, I 78 (c + l.length) = nI f ∧ I 79 (c + l.length) = nI (f + w.2.2.length) ∧ (lo ≤ f ∧ f + w.2.2.length ≤ s) ∧ cMt I w.2.2 f ∧ hrun w.2.2 0 = some 1)) → HMs I lo s (l ++ [w]) c
  | [], c, _, h => ⟨h, trivial⟩
  | x :: r, c, g, h => ⟨g.1, HMs_snoc g.2 (by rw [show c + 1 + r.length = c + (x :: r).length by rw [List.length_cons]; omega]; exact h)⟩
/-- the reference at a place, the house so far from clause c0 on -/
def PMs (M : ZM) (hb p s0 : Nat) (H : Hs) (c0 : Nat) : Prop := M.1 64 16 = nI p ∧ M.1 64 26 = nI s0 ∧ hb ≤ s0 ∧ s0 ≤ hb + p ∧ HMs M.1 hb s0 H c0
/-- the reference at the start of an E -/
def bsM (M : ZM) (ci s0 : Nat) : ZM := (zu (zu (zu M.1 64 27 0) 64 28 0) 78 ci (nI s0), M.2)
section CL
variable {T : Nat → Nat} {d dm n o p hb s0 ci : Nat} {X0 M0 : ZM}
theorem bsM_f : FRk M0 (bsM M0 ci s0) ci s0 := ((FRk_m (FRm_c (M := M0) (k := 27) (x := 0) (by omega))).trans (FRk_m (FRm_c (k := 28) (x := 0) (by omega)))).trans (FRk_7 (a := 78) (by omega) (by omega))
theorem bsM_e (h16 : M0.1 64 16 = nI p) (h26 : M0.1 64 26 = nI s0) (h : s0 ≤ hb + p) : EMs (bsM M0 ci s0) (bsM M0 ci s0) s0 hb ci p [] [] := by
  have e : (bsM M0 ci s0).1 64 = zu (zu M0.1 64 27 0) 64 28 0 64 := (zu_ne (by omega) : zu (zu (zu M0.1 64 27 0) 64 28 0) 78 ci (nI s0) 64 = zu (zu M0.1 64 27 0) 64 28 0 64)
  refine ⟨?_, ?_, trivial, ?_, trivial, ?_, by show s0 + 0 + 0 ≤ hb + p; omega, FRm.rfl⟩
  · rw [e, zu_kn (by omega), zu_kn (by omega)]; exact h16
  · rw [e, zu_kn (by omega), zu_kn (by omega)]; exact h26
  · rw [e, zu_kn (by omega), zu_kk]; rfl
  · rw [e, zu_kk]; rfl
theorem TXm_k {M M' : ZM} (g : FRk M M' ci s0) (h : TXm M T n) : TXm M' T n := ⟨h.1, (g.2.1 15 (by omega) (by omega) (by omega) (by omega) (by omega)).trans h.2.1, fun j hj => by rw [g.1 74 (by omega) (by omega)]; exact h.2.2 j hj⟩
/-- an E in both -/
theorem cE (ho : 49 < o) (hx : TXx X0 T n) (hm : TXm M0 T n) (hb5 : hb ≤ 500) (hs : hb ≤ s0) (hci : ci < 60) (pn : p ≤ n) {f0 : Nat} (xp : X0.1 48 2 = nI p) (xf : X0.1 (o + 1) 4 = nI f0) (hf : f0 ≤ p) (h16 : M0.1 64 16 = nI p) (h26 : M0.1 64 26 = nI s0) (hl : s0 ≤ hb + p) : ∃ r : Rs, OkR n p 0 r ∧ (∃ X', Rt (d + 23) 36 [zR 4 48, zR 3 (o + 1), zI 0] X0 X' (some (zI (zb r.1.isSome))) ∧ XR X0 X' o f0 [] r) ∧ (∃ M', Rt (dm + 6) 162 [zR 9 64, zI (nI ci)] M0 M' (some (zI (zb r.1.isSome))) ∧ FRk M0 M' ci s0 ∧ M'.1 64 16 = nI r.2 ∧ ∀ ts, r.1 = some ts → M'.1 78 ci = nI s0 ∧ M'.1 79 ci = nI (s0 + ts.length) ∧ cMt M'.1 ts s0 ∧ M'.1 64 26 = nI (s0 + ts.length) ∧ s0 + ts.length ≤ hb + r.2 ∧ M'.1 76 ci = M0.1 76 ci ∧ M'.1 77 ci = M0.1 77 ci) := by
  have hmb : TXm (bsM M0 ci s0) T n := TXm_k bsM_f hm
  have h128 : ∀ k, k < n → T k < 128 := fun k hk => (hx.2.2 k hk).2
  have hn := hx.1
  obtain ⟨r, hr, hN, hX, hM⟩ := (gram (f0 := f0) ho hx hmb hb5 hs hci (n - p + 1) p pn (by omega) 0 4 rfl).2.2.1
  have hr' := hr
  obtain ⟨o1, o2, o3⟩ := hr'
  have b76 : (bsM M0 ci s0).1 76 = M0.1 76 := by
    show zu (zu (zu M0.1 64 27 0) 64 28 0) 78 ci (nI s0) 76 = M0.1 76
    rw [zu_ne (by omega), zu_ne (by omega), zu_ne (by omega)]
  have b77 : (bsM M0 ci s0).1 77 = M0.1 77 := by
    show zu (zu (zu M0.1 64 27 0) 64 28 0) 78 ci (nI s0) 77 = M0.1 77
    rw [zu_ne (by omega), zu_ne (by omega), zu_ne (by omega)]
  refine ⟨r, hr, hX (d + 23) X0 [] (by omega) ⟨xp, xf, trivial, by show f0 + 0 ≤ p; omega, fun _ _ _ _ => rfl, fun _ _ => rfl, fun _ _ => rfl, fun _ _ => rfl, rfl⟩, ?_⟩
  have e0 := bsM_e (ci := ci) h16 h26 hl
  have key : A_X9_takesE_22 (dm + 5) (bsM M0 ci s0) (nI ci) 1 zU (fun M' v => v = some (zI (zb r.1.isSome)) ∧ FRk M0 M' ci s0 ∧ M'.1 64 16 = nI r.2 ∧ ∀ ts, r.1 = some ts → M'.1 78 ci = nI s0 ∧ M'.1 79 ci = nI (s0 + ts.length) ∧ cMt M'.1 ts s0 ∧ M'.1 64 26 = nI (s0 + ts.length) ∧ s0 + ts.length ≤ hb + r.2 ∧ M'.1 76 ci = M0.1 76 ci ∧ M'.1 77 ci = M0.1 77 ci) := by
    refine hM dm _ [] [] zU _ e0 rfl (fun q => by cases q) (fun q => by cases q) (fun q => by cases q) (fun ts q M' u' A t0 hA ht em' => ?_) (fun q M' o' st' em' => ?_)
    · obtain ⟨n38, n124⟩ := hN (by rw [q]; rfl)
      have j38 : ¬ chI T n r.2 = 38 := fun z => n38 ((chI_eq (x := 38) h128 (by omega)).mp z)
      have j124 : ¬ chI T n r.2 = 124 := fun z => n124 ((chI_eq (x := 124) h128 (by omega)).mp z)
      have nx2 := c9_next (d := dm + 4) (EMs_m hmb em') em'.1 o2
      obtain ⟨M5, w1, w2⟩ := c9_settle (d := dm + 3) (s := 124) (by omega) (by omega) hs (by omega) (st := []) ⟨fun z => (by cases z), fun _ z => (by cases z)⟩ (A := A) (fun x hx => by rcases hA x hx with z | z; exact Or.inl z; exact Or.inr ⟨z, by omega⟩) em'
      rw [List.append_assoc, ← ht, List.nil_append] at w2
      have w3 := EMs_79 (x := M5.1 64 26) w2
      refine a_X9_takesE_22 ⟨M', _, nx2, fun _ => ⟨fun z => absurd z j38, fun _ => ⟨fun z => absurd z j124, fun _ => ⟨M5, w1, in_nI hci (by omega), fun _ => ?_, fun z => absurd w2.2.2.2.1 z⟩⟩⟩, fun z => absurd rfl z⟩
      rw [zn_nI (by omega)]
      refine ⟨by rw [q]; rfl, bsM_f.trans (FRk_m w3.2.2.2.2.2.2.2), w3.1, fun ts' q' => ?_⟩
      rw [q] at q'
      cases q'
      refine ⟨?_, ?_, w3.2.2.1, w3.2.1, ?_, ?_, ?_⟩
      · exact (congrFun (w3.2.2.2.2.2.2.2.1 78 (by omega) (by omega) (by omega) (by omega)) ci).trans (zu_kk : zu (zu (zu M0.1 64 27 0) 64 28 0) 78 ci (nI s0) 78 ci = nI s0)
      · exact (zu_kk : zu M5.1 79 ci (M5.1 64 26) 79 ci = M5.1 64 26).trans w2.2.1
      · have := EMs_len w3
        have e0 : ([] : List Nat).length = 0 := rfl
        omega
      · exact (congrFun (w3.2.2.2.2.2.2.2.1 76 (by omega) (by omega) (by omega) (by omega)) ci).trans (congrFun b76 ci)
      · exact (congrFun (w3.2.2.2.2.2.2.2.1 77 (by omega) (by omega) (by omega) (by omega)) ci).trans (congrFun b77 ci)
    · exact ⟨by rw [q]; rfl, bsM_f.trans (FRk_m em'.2.2.2.2.2.2.2), em'.1, fun ts q' => by rw [q] at q'; cases q'⟩
  have e26 : zu (zu M0.1 64 27 0) 64 28 0 64 26 = nI s0 := by rw [zu_kn (by omega), zu_kn (by omega)]; exact h26
  refine ro_rv (g_X9_takesE ⟨in_nI hci (by omega), ?_⟩)
  rw [zn_nI (by omega)]
  have e26' : M0.1 64 26 = nI s0 := h26
  rw [e26']
  exact key
/-- a CLAUSE in both -/
theorem clause (ho : 49 < o) (hx : TXx X0 T n) (hm : TXm M0 T n) (hb5 : hb ≤ 500) (hL : ∀ k, k < 12 → M0.1 82 k = ([108, 105, 107, 101, 108, 111, 97, 116, 104, 116, 105, 101] : List Int32).getD k 0) (pn : p ≤ n) {H : Hs} {c0 : Nat} (hH : H.length < 10) (hc : c0 ≤ 50) (px : PXs X0 o p H) (pm : PMs M0 hb p s0 H c0) : ∃ (ok : Option (Nat × Nat × List Tok)) (q : Nat), p ≤ q ∧ q ≤ n ∧ (∃ X', Rt (d + 24) 32 [zR 4 48, zR 3 (o + 1)] X0 X' (some (zI (zb ok.isSome))) ∧ FXg X0 X' o ∧ X'.1 48 2 = nI q ∧ ∀ w, ok = some w → PXs X' o q (H ++ [w])) ∧ (∃ M', Rt (dm + 7) 164 [zR 9 64, zI (nI (c0 + H.length))] M0 M' (some (zI (zb ok.isSome))) ∧ FRk M0 M' (c0 + H.length) s0 ∧ M'.1 64 16 = nI q ∧ ∀ w, ok = some w → ∃ s', PMs M' hb q s' (H ++ [w]) c0) := by
  have hn := hx.1
  obtain ⟨x1, x2, x3⟩ := id px
  obtain ⟨m1, m2, m3, m4, m5⟩ := id pm
  generalize hci : c0 + H.length = ci
  have ci60 : ci < 60 := by omega
  have kw := c4_kw (d := d + 15) hx x1 pn
  obtain ⟨wx, hw, hd⟩ := c9_head (d := dm + 2) (M := M0) hL ci60 hm m1 pn
  obtain ⟨k1, k2, k3⟩ := kwT_le (T := T) pn
  generalize hK : kwT T n p = K at kw hw hd k1 k2 k3
  obtain ⟨kw1, q1⟩ := K
  dsimp only at kw hw hd k1 k2 k3
  have g1 : FRk M0 (mvC (mv76 M0 ci wx) 16 (nI q1)) ci s0 := (FRk_7 (by omega) (by omega)).trans (FRk_m (FRm_c (by omega)))
  have m1' : (mvC (mv76 M0 ci wx) 16 (nI q1)).1 64 16 = nI q1 := mvC_k
  have f1 : FXg X0 (mvX X0 q1) o := FXg_mv
  have px1 := PXs_mv ho k1 px
  cases kw1 with
  | none =>
    exact ⟨none, q1, k1, k2, ⟨_, ro_rt (g_X4_passClause ⟨_, _, kw, fun _ => ⟨rfl, rfl⟩, fun q => absurd rfl q⟩), f1, mvX_p, fun w q => (by cases q)⟩, ⟨_, ro_rt (g_X9_takesClause ⟨_, _, hd, fun _ => ⟨rfl, rfl⟩, z00⟩), g1, m1', fun w q => (by cases q)⟩⟩
  | some w =>
    have hwx : wx = nI w := hw w rfl
    subst hwx
    have w3 : w < 3 := k3 w rfl
    have hx1 : TXx (mvX X0 q1) T n := TXx_mv hx
    have hm1 := TXm_k g1 hm
    have nu := c4_num (d := d + 22) hx1 mvX_p k2
    have mu := c9_num (d := dm + 2) hm1 m1' k2
    obtain ⟨l1, l2, l3, l4⟩ := nmT_le (T := T) (n := n) k2
    rw [mvX_mv] at nu
    generalize hV : nmT T n q1 = V at nu mu l1 l2 l3 l4
    obtain ⟨v1, q2⟩ := V
    dsimp only at nu mu l1 l2 l3 l4
    have nw : ¬ (nI w = -1) := fun q => by
      have := nI_m1 (a := w) (by omega)
      rw [this] at q
      exact q
    have px2 := PXs_mv (q := q2) ho (by omega) px
    cases v1 with
    | none =>
      have hq2 := l3 rfl
      subst hq2
      refine ⟨none, q2, k1, k2, ⟨_, ro_rt (g_X4_passClause ⟨_, _, kw, fun q => absurd q nw, fun _ => ⟨_, _, nu, fun _ => ⟨rfl, rfl⟩, fun q => absurd (by decide) q⟩⟩), f1, mvX_p, fun w q => (by cases q)⟩, ⟨_, ro_rt (g_X9_takesClause ⟨_, _, hd, z10, fun _ => ⟨_, _, mu.2 rfl, fun _ => ⟨rfl, rfl⟩, z00⟩⟩), g1, m1', fun w q => (by cases q)⟩⟩
    | some v =>
      obtain ⟨v2, v3⟩ := l4 v rfl
      have mu' := mu.1 v rfl
      have g2 : FRk M0 (mvC (mvC (mvC (mv76 M0 ci (nI w)) 16 (nI q1)) 17 (nI v)) 16 (nI q2)) ci s0 := g1.trans ((FRk_m (FRm_c (by omega))).trans (FRk_m (FRm_c (by omega))))
      generalize hM2 : mvC (mvC (mvC (mv76 M0 ci (nI w)) 16 (nI q1)) 17 (nI v)) 16 (nI q2) = M2 at mu' g2
      have c16 : M2.1 64 16 = nI q2 := by rw [← hM2]; exact mvC_k
      have c17 : M2.1 64 17 = nI v := by rw [← hM2]; exact (mvC_c (by omega)).trans mvC_k
      have c26 : M2.1 64 26 = nI s0 := by
        rw [← hM2]
        refine (mvC_c (by omega)).trans ((mvC_c (by omega)).trans ((mvC_c (by omega)).trans ?_))
        exact (congrFun (zu_ne (by omega) : zu M0.1 76 ci (nI w) 64 = M0.1 64) 26).trans m2
      have c76 : M2.1 76 ci = nI w := by
        rw [← hM2]
        rw [mvC_n (by omega), mvC_n (by omega), mvC_n (by omega)]
        exact (zu_kk : zu M0.1 76 ci (nI w) 76 ci = nI w)
      generalize hM3 : ((zu M2.1 77 ci (nI v), M2.2) : ZM) = M3
      have g3 : FRk M0 M3 ci s0 := by rw [← hM3]; exact g2.trans (FRk_7 (by omega) (by omega))
      have e6 : M3.1 64 = M2.1 64 := by rw [← hM3]; exact (zu_ne (by omega) : zu M2.1 77 ci (nI v) 64 = M2.1 64)
      have e76 : M3.1 76 ci = nI w := by rw [← hM3]; exact (congrFun (zu_ne (by omega) : zu M2.1 77 ci (nI v) 76 = M2.1 76) ci).trans c76
      have e77 : M3.1 77 ci = nI v := by rw [← hM3]; exact (zu_kk : zu M2.1 77 ci (nI v) 77 ci = nI v)
      have goM : ∀ {R : ZM → Option ZV → Prop}, ((nI w = 2 → R M3 (some (zI 1))) ∧ (¬ nI w = 2 → ∃ (M5 : ZM) (r6 : Int32), Rt (dm + 6) 153 [zR 9 64, zI 32] M3 M5 (some (zI r6)) ∧ (r6 = 0 → R M5 (some (zI 0))) ∧ (¬ r6 = 0 → ∃ (M7 : ZM) (r8 : Int32), Rt (dm + 6) 162 [zR 9 64, zI (nI ci)] M5 M7 (some (zI r8)) ∧ (r8 = 0 → R M7 (some (zI 0))) ∧ (¬ r8 = 0 → R M7 (some (zI 1)))))) → Ro (dm + 7) 164 [zR 9 64, zI (nI ci)] M0 R := by
        intro R hR
        refine g_X9_takesClause ⟨_, _, hd, z10, fun _ => ⟨_, _, mu', z10, fun _ => ⟨in_nI ci60 (by omega), in_nI ci60 (by omega), ?_⟩⟩⟩
        rw [zn_nI (by omega), c76, c17, hM3]
        exact hR
      have goX : ∀ {R : ZM → Option ZV → Prop}, ((nI w = 2 → R (zu (mvX X0 q2).1 (o + 1) 0 (nI v), (mvX X0 q2).2) (some (zI 1))) ∧ (¬ nI w = 2 → ∃ (M5 : ZM) (r6 : Int32), Rt (d + 23) 30 [zR 4 48, zI 32] (mvX X0 q2) M5 (some (zI r6)) ∧ (r6 = 0 → R M5 (some (zI 0))) ∧ (¬ r6 = 0 → ∃ (M7 : ZM) (r8 : Int32), Rt (d + 23) 36 [zR 4 48, zR 3 (o + 1), zI 0] M5 M7 (some (zI r8)) ∧ (r8 = 0 → R M7 (some (zI 0))) ∧ (¬ r8 = 0 → (nI w = 0 → ∃ (M9 : ZM), Rt (d + 23) 23 [zR 3 (o + 1), zI (nI v)] M7 M9 none ∧ R M9 (some (zI 1))) ∧ (¬ nI w = 0 → ∃ (M10 : ZM), Rt (d + 23) 23 [zR 3 (o + 1), zI (-(nI v))] M7 M10 none ∧ R M10 (some (zI 1))))))) → Ro (d + 24) 32 [zR 4 48, zR 3 (o + 1)] X0 R := fun hR => g_X4_passClause ⟨_, _, kw, fun q => absurd q nw, fun _ => ⟨_, _, nu, fun q => absurd q (nI_pos (show v < 2 ^ 31 by omega)), fun _ => hR⟩⟩
      have m5' : HMs M3.1 hb s0 H c0 := HMs_up g3 (Nat.le_refl _) m5 (by omega)
      have f2 : FXg X0 (mvX X0 q2) o := FXg_mv
      by_cases h2 : w = 2
      · have i2 : nI w = 2 := by rw [h2]; rfl
        refine ⟨some (w, v, []), q2, by omega, l2, ⟨_, ro_rt (goX ⟨fun _ => ⟨rfl, rfl⟩, fun q => absurd i2 q⟩), ?_, ?_, fun w' q => ?_⟩, ⟨M3, ro_rt (goM ⟨fun _ => ⟨rfl, rfl⟩, fun q => absurd i2 q⟩), g3, by rw [e6]; exact c16, fun w' q => ?_⟩⟩
        · exact f2.trans ⟨fun a h1 h2 => (zu_ne (by omega) : zu (mvX X0 q2).1 (o + 1) 0 (nI v) a = (mvX X0 q2).1 a), fun k _ => congrFun (zu_ne (by omega) : zu (mvX X0 q2).1 (o + 1) 0 (nI v) 48 = (mvX X0 q2).1 48) k, rfl⟩
        · exact (congrFun (zu_ne (by omega) : zu (mvX X0 q2).1 (o + 1) 0 (nI v) 48 = (mvX X0 q2).1 48) 2).trans mvX_p
        · cases q
          have et : hTie (H ++ [(w, v, [])]) 0 = v := by rw [hTie_app]; exact if_pos h2
          have ec : hCl (H ++ [(w, v, [])]) = hCl H := by rw [hCl_app, h2]; exact List.append_nil _
          obtain ⟨y1, ⟨y2, y3, y4⟩, y5⟩ := px2
          refine ⟨(congrFun (zu_ne (by omega) : zu (mvX X0 q2).1 (o + 1) 0 (nI v) 48 = (mvX X0 q2).1 48) 2).trans mvX_p, ⟨?_, by rw [et]; exact v2, ?_⟩, by rw [ec]; exact y5⟩
          · rw [et]; exact zu_kk
          · rw [ec]
            have gen : ∀ (l : List Cls) (c f : Nat), HXr (mvX X0 q2).1 o l c f → HXr (zu (mvX X0 q2).1 (o + 1) 0 (nI v)) o l c f := by
              intro l
              induction l with
              | nil =>
                intro c f h
                exact ⟨(zu_kn (by omega)).trans h.1, (zu_kn (by omega)).trans h.2.1, h.2.2.1, h.2.2.2⟩
              | cons x r ih =>
                intro c f h
                exact ⟨(congrFun (zu_ne (by omega)) c).trans h.1, (congrFun (zu_ne (by omega)) c).trans h.2.1, cX_eq (zu_ne (by omega)) _ _ h.2.2.1, h.2.2.2.1, ih _ _ h.2.2.2.2⟩
            exact gen _ _ _ y4
        · cases q
          refine ⟨s0, by rw [e6]; exact c16, by rw [e6]; exact c26, m3, by omega, HMs_snoc m5' ⟨by rw [hci]; exact e76, w3, by rw [hci]; exact e77, v2, fun q => absurd h2 q⟩⟩
      · have i2 : ¬ nI w = 2 := fun q => h2 ((nI_eq (b := 2) (by omega) (by omega)).mp q)
        have s32 := c4_sign (d := d + 22) (TXx_mv (p := q2) hx) mvX_p l2 (x := 32) (by omega)
        have hm3 := TXm_k g3 hm
        have t16 : M3.1 64 16 = nI q2 := by rw [e6]; exact c16
        have t32 := c9_takes (d := dm + 4) hm3 t16 l2 (x := 32) (by omega)
        by_cases h32 : chT T n q2 = 32
        · have q3n := chT_lt (by omega) h32
          have s32' := s32.1 h32
          rw [mvX_mv] at s32'
          have px3 := PXs_mv (q := q2 + 1) ho (by omega) px
          have g4 : FRk M0 (mvC M3 16 (nI (q2 + 1))) ci s0 := g3.trans (FRk_m (FRm_c (by omega)))
          have f0e := HXr_tot px3.2.1.2.2
          rw [Nat.zero_add] at f0e
          have c0e := (HXr_b px3.2.1.2.2).2.2
          rw [Nat.zero_add] at c0e
          have n76 : (mvC M3 16 (nI (q2 + 1))).1 76 = M3.1 76 := mvC_n (by omega)
          have n77 : (mvC M3 16 (nI (q2 + 1))).1 77 = M3.1 77 := mvC_n (by omega)
          obtain ⟨r, ⟨o1, o2, o3⟩, ⟨X', xr1, xr2⟩, ⟨M', mr1, mr2, mr3, mr4⟩⟩ := cE (d := d) (dm := dm) (hb := hb) (s0 := s0) (ci := ci) (p := q2 + 1) ho (TXx_mv (p := q2 + 1) hx) (TXm_k g4 hm) hb5 m3 ci60 q3n mvX_p f0e px3.2.2 mvC_k ((mvC_c (by omega)).trans (by rw [e6]; exact c26)) (by omega)
          cases qr : r.1 with
          | none =>
            rw [qr] at xr1 mr1
            obtain ⟨ts, xe, _⟩ := xr2
            exact ⟨none, r.2, by omega, o2, ⟨X', ro_rt (goX ⟨fun q => absurd q i2, fun _ => ⟨_, _, s32', z10, fun _ => ⟨X', _, xr1, fun _ => ⟨rfl, rfl⟩, z00⟩⟩⟩), FXg_mv.trans (FXg_ex xe), xe.1, fun w q => (by cases q)⟩, ⟨M', ro_rt (goM ⟨fun q => absurd q i2, fun _ => ⟨_, _, t32.1 h32, z10, fun _ => ⟨M', _, mr1, fun _ => ⟨rfl, rfl⟩, z00⟩⟩⟩), g4.trans mr2, mr3, fun w q => (by cases q)⟩⟩
          | some ts =>
            rw [qr] at xr1 mr1
            have xe := XR_some xr2 qr
            rw [List.nil_append] at xe
            obtain ⟨o4, o5, o6⟩ := o3 ts qr
            have hr := o6 0 (Nat.le_refl _)
            obtain ⟨a1, a2, a3, a4, a5, a6, a7⟩ := mr4 ts qr
            have cl10 : (hCl H).length < 10 := by have := hCl_len H; omega
            have X1 : X'.1 (o + 1) 1 = nI (hCl H).length := (xe.2.2.2.2.2.2.1 1 (by omega)).trans c0e
            have en : ∀ x : Int32, Rt (d + 23) 23 [zR 3 (o + 1), zI x] X' _ none := fun x => c3_end (d := d + 22) (x := x) X1 cl10 xe.2.1
            have fin : ∀ x : Int32, (hCl [(w, v, ts)] = [(x, ts)]) → FXg X0 (zu (zu (zu X'.1 (o + 2) (hCl H).length x) (o + 3) (hCl H).length (nI (tot (hCl H) + ts.length))) (o + 1) 1 (nI ((hCl H).length + 1)), X'.2) o ∧ (zu (zu (zu X'.1 (o + 2) (hCl H).length x) (o + 3) (hCl H).length (nI (tot (hCl H) + ts.length))) (o + 1) 1 (nI ((hCl H).length + 1))) 48 2 = nI r.2 ∧ ∀ w', some (w, v, ts) = some w' → PXs (zu (zu (zu X'.1 (o + 2) (hCl H).length x) (o + 3) (hCl H).length (nI (tot (hCl H) + ts.length))) (o + 1) 1 (nI ((hCl H).length + 1)), X'.2) o r.2 (H ++ [w']) := by
              intro x hxc
              generalize hI : zu (zu (zu X'.1 (o + 2) (hCl H).length x) (o + 3) (hCl H).length (nI (tot (hCl H) + ts.length))) (o + 1) 1 (nI ((hCl H).length + 1)) = I
              have na : ∀ a, a ≠ o + 1 → a ≠ o + 2 → a ≠ o + 3 → I a = X'.1 a := fun a h1 h2 h3 => by rw [← hI, zu_ne h1, zu_ne h3, zu_ne h2]
              have n1 : ∀ k, k ≠ 1 → I (o + 1) k = X'.1 (o + 1) k := fun k hk => by rw [← hI, zu_kn hk, zu_ne (show o + 1 ≠ o + 3 by omega), zu_ne (show o + 1 ≠ o + 2 by omega)]
              have n11 : I (o + 1) 1 = nI ((hCl H).length + 1) := by rw [← hI, zu_kk]
              have n2 : ∀ k, k ≠ (hCl H).length → I (o + 2) k = X'.1 (o + 2) k := fun k hk => by rw [← hI, zu_ne (show o + 2 ≠ o + 1 by omega), zu_ne (show o + 2 ≠ o + 3 by omega), zu_kn hk]
              have n22 : I (o + 2) (hCl H).length = x := by rw [← hI, zu_ne (show o + 2 ≠ o + 1 by omega), zu_ne (show o + 2 ≠ o + 3 by omega), zu_kk]
              have n3 : ∀ k, k ≠ (hCl H).length → I (o + 3) k = X'.1 (o + 3) k := fun k hk => by rw [← hI, zu_ne (show o + 3 ≠ o + 1 by omega), zu_kn hk, zu_ne (show o + 3 ≠ o + 2 by omega)]
              have n33 : I (o + 3) (hCl H).length = nI (tot (hCl H) + ts.length) := by rw [← hI, zu_ne (show o + 3 ≠ o + 1 by omega), zu_kk]
              have n4 : I (o + 4) = X'.1 (o + 4) := na (o + 4) (by omega) (by omega) (by omega)
              have n48 : I 48 = X'.1 48 := na 48 (by omega) (by omega) (by omega)
              refine ⟨FXg_mv.trans ((FXg_ex xe).trans ⟨fun a h1 h2 => na a (by omega) (by omega) (by omega), fun k _ => congrFun n48 k, rfl⟩), by rw [n48]; exact xe.1, fun w' q => ?_⟩
              cases q
              have ec : hCl (H ++ [(w, v, ts)]) = hCl H ++ [(x, ts)] := by rw [hCl_app, hxc]
              have et : hTie (H ++ [(w, v, ts)]) 0 = hTie H 0 := by rw [hTie_app]; exact if_neg h2
              have xl := EXs_len xe
              have X2 : X'.1 (o + 2) = (mvX X0 (q2 + 1)).1 (o + 2) := xe.2.2.2.2.1 _ (by omega) (by omega) (by omega)
              have X3 : X'.1 (o + 3) = (mvX X0 (q2 + 1)).1 (o + 3) := xe.2.2.2.2.1 _ (by omega) (by omega) (by omega)
              show I 48 2 = nI r.2 ∧ (I (o + 1) 0 = nI (hTie (H ++ [(w, v, ts)]) 0) ∧ hTie (H ++ [(w, v, ts)]) 0 < 100 ∧ HXr I o (hCl (H ++ [(w, v, ts)])) 0 0) ∧ tot (hCl (H ++ [(w, v, ts)])) ≤ r.2
              refine ⟨by rw [n48]; exact xe.1, ⟨?_, by rw [et]; exact px3.2.1.2.1, ?_⟩, ?_⟩
              · rw [et, n1 0 (by omega), xe.2.2.2.2.2.2.1 0 (by omega)]
                exact px3.2.1.1
              · rw [ec]
                refine HXr_snoc px3.2.1.2.2 (fun k hk => ?_) (fun k hk => ?_) (fun k hk => ?_) ?_ ?_ ?_ hr ?_ ?_ (by omega) (by show 0 + tot (hCl H) + ts.length ≤ 100; omega)
                · rw [n2 k (by omega), X2]
                · rw [n3 k (by omega), X3]
                · rw [n4]
                  exact xe.2.2.2.2.2.2.2.1 k (by omega)
                · rw [Nat.zero_add]; exact n22
                · rw [Nat.zero_add, Nat.zero_add]; exact n33
                · rw [Nat.zero_add]
                  exact cX_eq n4 _ _ xe.2.2.1
                · rw [Nat.zero_add]; exact n11
                · rw [Nat.zero_add, n1 4 (by omega)]; exact xe.2.1
              · rw [ec, tot_app]
                show tot (hCl H) + (ts.length + 0) ≤ r.2
                omega
            have mfin : ∀ w', some (w, v, ts) = some w' → ∃ s', PMs M' hb r.2 s' (H ++ [w']) c0 := by
              intro w' q
              cases q
              refine ⟨s0 + ts.length, mr3, a4, by omega, a5, HMs_snoc (HMs_up (g4.trans mr2) (by omega) m5 (by omega)) ⟨?_, w3, ?_, v2, fun _ => ⟨s0, by rw [hci]; exact a1, by rw [hci]; exact a2, ⟨m3, Nat.le_refl _⟩, a3, hr⟩⟩⟩
              · rw [hci, a6, n76]; exact e76
              · rw [hci, a7, n77]; exact e77
            have mend := ro_rt (goM (R := fun M'' v => M'' = M' ∧ v = some (zI 1)) ⟨fun q => absurd q i2, fun _ => ⟨_, _, t32.1 h32, z10, fun _ => ⟨M', _, mr1, z10, fun _ => ⟨rfl, rfl⟩⟩⟩⟩)
            by_cases h0 : w = 0
            · have i0 : nI w = 0 := by rw [h0]; rfl
              obtain ⟨y1, y2, y3⟩ := fin (nI v) (by rw [h0]; rfl)
              exact ⟨some (w, v, ts), r.2, by omega, o2, ⟨_, ro_rt (goX ⟨fun q => absurd q i2, fun _ => ⟨_, _, s32', z10, fun _ => ⟨X', _, xr1, z10, fun _ => ⟨fun _ => ⟨_, en (nI v), rfl, rfl⟩, fun q => absurd i0 q⟩⟩⟩⟩), y1, y2, y3⟩, ⟨M', mend, g4.trans mr2, mr3, mfin⟩⟩
            · have i0 : ¬ nI w = 0 := fun q => h0 ((nI_eq (b := 0) (by omega) (by omega)).mp q)
              have h1 : w = 1 := by omega
              obtain ⟨y1, y2, y3⟩ := fin (-nI v) (by rw [h1]; rfl)
              exact ⟨some (w, v, ts), r.2, by omega, o2, ⟨_, ro_rt (goX ⟨fun q => absurd q i2, fun _ => ⟨_, _, s32', z10, fun _ => ⟨X', _, xr1, z10, fun _ => ⟨fun q => absurd q i0, fun _ => ⟨_, en (-nI v), rfl, rfl⟩⟩⟩⟩⟩), y1, y2, y3⟩, ⟨M', mend, g4.trans mr2, mr3, mfin⟩⟩
        · exact ⟨none, q2, by omega, l2, ⟨_, ro_rt (goX ⟨fun q => absurd q i2, fun _ => ⟨_, _, s32.2 h32, fun _ => ⟨rfl, rfl⟩, z00⟩⟩), f2, mvX_p, fun w q => (by cases q)⟩, ⟨M3, ro_rt (goM ⟨fun q => absurd q i2, fun _ => ⟨_, _, t32.2 h32, fun _ => ⟨rfl, rfl⟩, z00⟩⟩), g3, t16, fun w q => (by cases q)⟩⟩
end CL
