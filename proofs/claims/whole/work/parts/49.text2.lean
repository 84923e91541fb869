/-! THE TEXT in both: clause by clause -/
def FRh (M M' : ZM) (h : Nat) : Prop := (∀ a, a ≠ 64 → (a < 75 ∨ 81 < a) → M'.1 a = M.1 a) ∧ (∀ k, k ≠ 16 → k ≠ 17 → k ≠ 26 → k ≠ 27 → k ≠ 28 → M'.1 64 k = M.1 64 k) ∧ (∀ k, k ≠ h → M'.1 75 k = M.1 75 k) ∧ (∀ a, 76 ≤ a → a < 80 → ∀ k, k < 10 * h → M'.1 a k = M.1 a k) ∧ (∀ k, k < 100 * h → M'.1 80 k = M.1 80 k) ∧ M'.2 = M.2
theorem FRh.trans {M M' M'' : ZM} {h : Nat} (f : FRh M M' h) (g : FRh M' M'' h) : FRh M M'' h := ⟨fun a h1 h2 => (g.1 a h1 h2).trans (f.1 a h1 h2), fun k h1 h2 h3 h4 h5 => (g.2.1 k h1 h2 h3 h4 h5).trans (f.2.1 k h1 h2 h3 h4 h5), fun k hk => (g.2.2.1 k hk).trans (f.2.2.1 k hk), fun a h1 h2 k hk => (g.2.2.2.1 a h1 h2 k hk).trans (f.2.2.2.1 a h1 h2 k hk), fun k hk => (g.2.2.2.2.1 k hk).trans (f.2.2.2.2.1 k hk), g.2.2.2.2.2.trans f.2.2.2.2.2⟩
theorem FRh_k {M M' : ZM} {h ci s0 : Nat} (hc : 10 * h ≤ ci) (hs : 100 * h ≤ s0) (f : FRk M M' ci s0) : FRh M M' h := ⟨fun a h1 h2 => f.1 a h1 (by omega), f.2.1, fun k _ => by rw [f.1 75 (by omega) (by omega)], fun a h1 h2 k hk => f.2.2.1 a h1 h2 k (by omega), fun k hk => f.2.2.2.1 k (by omega), f.2.2.2.2⟩
def mv75 (M : ZM) (h : Nat) (x : Int32) : ZM := (zu M.1 75 h x, M.2)
theorem mv75_n {M : ZM} {h a : Nat} {x : Int32} (q : a ≠ 75) : (mv75 M h x).1 a = M.1 a := (zu_ne q : zu M.1 75 h x a = M.1 a)
theorem FRh_75 {M : ZM} {h : Nat} {x : Int32} : FRh M (mv75 M h x) h := ⟨fun a _ h2 => mv75_n (by omega), fun k _ _ _ _ _ => by rw [mv75_n (by omega)], fun k hk => (zu_kn hk : zu M.1 75 h x 75 k = M.1 75 k), fun a h1 h2 k _ => by rw [mv75_n (by omega)], fun k _ => by rw [mv75_n (by omega)], rfl⟩
theorem HMs_same {I I' : Nat → Nat → Int32} {lo s : Nat} (e : ∀ a, 76 ≤ a → a ≤ 80 → I' a = I a) : ∀ {l : Hs} {c : Nat}, HMs I lo s l c → HMs I' lo s l c
  | [], _, _ => trivial
  | w :: r, c, h => by
    obtain ⟨⟨h1, h2, h3, h4, h5⟩, h6⟩ := h
    refine ⟨⟨by rw [e 76 (by omega) (by omega)]; exact h1, h2, by rw [e 77 (by omega) (by omega)]; exact h3, h4, fun q => ?_⟩, HMs_same e h6⟩
    obtain ⟨f, f1, f2, f3, f4, f5⟩ := h5 q
    exact ⟨f, by rw [e 78 (by omega) (by omega)]; exact f1, by rw [e 79 (by omega) (by omega)]; exact f2, f3, cMt_eq (e 80 (by omega) (by omega)) _ _ f4, f5⟩
theorem HMr_of {I : Nat → Nat → Int32} {h s : Nat} (hs : s ≤ 100 * h + 100) (h5 : h ≤ 5) : ∀ {l : Hs} {c : Nat}, HMs I (100 * h) s l c → 10 * h ≤ c → c + l.length ≤ 10 * h + 10 → HMr I l c
  | [], _, _, _, _ => trivial
  | w :: r, c, g, c1, c2 => by
    rw [List.length_cons] at c2
    obtain ⟨⟨h1, h2, h3, h4, h6⟩, h7⟩ := g
    refine ⟨h1, h2, h3, h4, fun q => ?_, HMr_of hs h5 h7 (by omega) (by omega)⟩
    obtain ⟨f, f1, f2, f3, f4, f5⟩ := h6 q
    have hc : c / 10 = h := by omega
    exact ⟨f, f1, f2, by rw [hc]; omega, f4, f5⟩
theorem TXx_g {X X' : ZM} {T : Nat → Nat} {n o : Nat} (ho : 49 < o) (g : FXg X X' o) (h : TXx X T n) : TXx X' T n := ⟨h.1, (g.2.1 0 (by omega)).trans h.2.1, fun k hk => by rw [g.1 49 (by omega) (by omega)]; exact h.2.2 k hk⟩
section TT
variable {T : Nat → Nat} {d dm n o h : Nat}
theorem text (ho : 49 < o) (h5 : h ≤ 5) : ∀ (j : Nat) (X0 M0 : ZM) (p s0 : Nat) (H : Hs), H.length + j = 9 → TXx X0 T n → TXm M0 T n → (∀ k, k < 12 → M0.1 82 k = ([108, 105, 107, 101, 108, 111, 97, 116, 104, 116, 105, 101] : List Int32).getD k 0) → p ≤ n → PXs X0 o p H → PMs M0 (100 * h) p s0 H (10 * h) → ∃ (ok : Option Hs) (q : Nat), q ≤ n ∧ A_X4_parse_12 (d + 24) o X0 (nI j) (fun X' v => FXg X0 X' o ∧ (ok = none → v = some (zI (nI q))) ∧ ∀ H', ok = some H' → v = some (zI (-1)) ∧ HX X'.1 o H') ∧ A_X9_goesText_15 (dm + 7) M0 (nI h) (nI H.length) (fun M' v => v = some (zI (zb ok.isSome)) ∧ FRh M0 M' h ∧ M'.1 64 16 = nI q ∧ ∀ H', ok = some H' → HM M'.1 h H') := by
  intro j
  induction j with
  | zero =>
    intro X0 M0 p s0 H hj hx hm hL pn px pm
    have hn := hx.1
    obtain ⟨ok, q, q1, q2, ⟨X', x1, x2, x3, x4⟩, ⟨M', m1, m2, m3, m4⟩⟩ := clause (d := d) (dm := dm) (hb := 100 * h) ho hx hm (by omega) hL pn (by omega) (show 10 * h ≤ 50 by omega) px pm
    have fr := FRh_k (h := h) (by omega) pm.2.2.1 m2
    have ei : 10 * nI h + nI H.length = nI (10 * h + H.length) := by rw [l_10, pk_mul, nI_add]
    cases ok with
    | none =>
      refine ⟨none, q, q2, a_X4_parse_12 ⟨fun z => absurd z (by decide), fun _ => ⟨X', _, x1, fun _ => ⟨x2, fun _ => by rw [x3], fun H' z => (by cases z)⟩, z00⟩⟩, a_X9_goesText_15 ⟨M', 0, ?_, fun _ => ⟨rfl, fr, m3, fun H' z => (by cases z)⟩, z00⟩⟩
      rw [ei]
      exact m1
    | some w =>
      obtain ⟨s', pm'⟩ := m4 w rfl
      have px' := x4 w rfl
      have hx' := TXx_g ho x2 hx
      have hm' := TXm_k m2 hm
      have i1 : ∀ {P : Prop}, P → ¬ (nI h < 0 ∨ 6 ≤ zn (nI h)) ∧ P := fun p => ⟨in_nI (by omega) (by omega), p⟩
      have fr2 : FRh M0 (mv75 M' h (nI (H.length + 1))) h := fr.trans FRh_75
      have p2 : (mv75 M' h (nI (H.length + 1))).1 64 16 = nI q := by rw [mv75_n (by omega)]; exact m3
      by_cases hq : q = n
      · refine ⟨some (H ++ [w]), q, q2, a_X4_parse_12 ⟨fun z => absurd z (by decide), fun _ => ⟨X', _, x1, z10, fun _ => ?_⟩⟩, a_X9_goesText_15 ⟨M', 1, ?_, z10, fun _ => i1 ?_⟩⟩
        · rw [x3, hx'.2.1, hq]
          exact ⟨fun z => absurd z (nI_nlt (Nat.le_refl _) (by omega)), fun _ => ⟨x2, fun z => (by cases z), fun H' z => by cases z; exact ⟨rfl, px'.2.1⟩⟩⟩
        · rw [ei]; exact m1
        · rw [m3, hm'.2.1, hq, zn_nI (by omega), nI_1]
          refine ⟨fun _ => ⟨rfl, fr2, by rw [← hq]; exact p2, fun H' z => ?_⟩, fun z => absurd rfl z⟩
          cases z
          have hl : (H ++ [w]).length = H.length + 1 := by rw [List.length_append]; rfl
          refine ⟨?_, by omega, HMr_of (s := s') (by have := pm'.2.2.2.1; omega) h5 (HMs_same (fun a h1 h2 => mv75_n (by omega)) pm'.2.2.2.2) (by omega) (by omega)⟩
          rw [hl]
          exact (zu_kk : zu M'.1 75 h (nI (H.length + 1)) 75 h = nI (H.length + 1))
      · have hq' : q < n := by omega
        refine ⟨none, q, q2, a_X4_parse_12 ⟨fun z => absurd z (by decide), fun _ => ⟨X', _, x1, z10, fun _ => ?_⟩⟩, a_X9_goesText_15 ⟨M', 1, ?_, z10, fun _ => i1 ?_⟩⟩
        · rw [x3, hx'.2.1]
          exact ⟨fun _ => ⟨fun _ => ⟨x2, fun _ => rfl, fun H' z => (by cases z)⟩, fun z => absurd rfl z⟩, fun z => absurd (nI_lt hq' (by omega)) z⟩
        · rw [ei]; exact m1
        · rw [m3, hm'.2.1, zn_nI (by omega), nI_1]
          refine ⟨fun z => absurd ((nI_eq (by omega) (by omega)).mp z) hq, fun _ => ⟨fun _ => ⟨rfl, fr2, p2, fun H' z => (by cases z)⟩, fun z => absurd ?_ z⟩⟩
          rw [show H.length + 1 = 10 by omega]; rfl
  | succ j ih =>
    intro X0 M0 p s0 H hj hx hm hL pn px pm
    have hn := hx.1
    obtain ⟨ok, q, q1, q2, ⟨X', x1, x2, x3, x4⟩, ⟨M', m1, m2, m3, m4⟩⟩ := clause (d := d) (dm := dm) (hb := 100 * h) ho hx hm (by omega) hL pn (by omega) (show 10 * h ≤ 50 by omega) px pm
    have fr := FRh_k (h := h) (by omega) pm.2.2.1 m2
    have ei : 10 * nI h + nI H.length = nI (10 * h + H.length) := by rw [l_10, pk_mul, nI_add]
    have j0 : ¬ nI (j + 1) < 0 := nI_pos (by omega)
    cases ok with
    | none =>
      refine ⟨none, q, q2, a_X4_parse_12 ⟨fun z => absurd z j0, fun _ => ⟨X', _, x1, fun _ => ⟨x2, fun _ => by rw [x3], fun H' z => (by cases z)⟩, z00⟩⟩, a_X9_goesText_15 ⟨M', 0, ?_, fun _ => ⟨rfl, fr, m3, fun H' z => (by cases z)⟩, z00⟩⟩
      rw [ei]
      exact m1
    | some w =>
      obtain ⟨s', pm'⟩ := m4 w rfl
      have px' := x4 w rfl
      have hx' := TXx_g ho x2 hx
      have hm' := TXm_k m2 hm
      have hl : (H ++ [w]).length = H.length + 1 := by rw [List.length_append]; rfl
      have i1 : ∀ {P : Prop}, P → ¬ (nI h < 0 ∨ 6 ≤ zn (nI h)) ∧ P := fun p => ⟨in_nI (by omega) (by omega), p⟩
      have fr2 : FRh M0 (mv75 M' h (nI (H.length + 1))) h := fr.trans FRh_75
      have p2 : (mv75 M' h (nI (H.length + 1))).1 64 16 = nI q := by rw [mv75_n (by omega)]; exact m3
      by_cases hq : q = n
      · refine ⟨some (H ++ [w]), q, q2, a_X4_parse_12 ⟨fun z => absurd z j0, fun _ => ⟨X', _, x1, z10, fun _ => ?_⟩⟩, a_X9_goesText_15 ⟨M', 1, ?_, z10, fun _ => i1 ?_⟩⟩
        · rw [x3, hx'.2.1, hq]
          exact ⟨fun z => absurd z (nI_nlt (Nat.le_refl _) (by omega)), fun _ => ⟨x2, fun z => (by cases z), fun H' z => by cases z; exact ⟨rfl, px'.2.1⟩⟩⟩
        · rw [ei]; exact m1
        · rw [m3, hm'.2.1, hq, zn_nI (by omega), nI_1]
          refine ⟨fun _ => ⟨rfl, fr2, by rw [← hq]; exact p2, fun H' z => ?_⟩, fun z => absurd rfl z⟩
          cases z
          refine ⟨?_, by omega, HMr_of (s := s') (by have := pm'.2.2.2.1; omega) h5 (HMs_same (fun a h1 h2 => mv75_n (by omega)) pm'.2.2.2.2) (by omega) (by omega)⟩
          rw [hl]
          exact (zu_kk : zu M'.1 75 h (nI (H.length + 1)) 75 h = nI (H.length + 1))
      · have hq' : q < n := by omega
        have s59 := c4_sign (d := d + 23) hx' x3 q2 (x := 59) (by omega)
        have hm2 : TXm (mv75 M' h (nI (H.length + 1))) T n := ⟨hm'.1, by rw [mv75_n (by omega)]; exact hm'.2.1, fun k hk => by rw [mv75_n (by omega)]; exact hm'.2.2 k hk⟩
        have t59 := c9_takes (d := dm + 5) hm2 p2 q2 (x := 59) (by omega)
        have jn : ¬ nI (j + 1) = 0 := nI_ne0 (by omega) (by omega)
        have n10 : ¬ nI (H.length + 1) = 10 := fun z => by
          have := (nI_eq (b := 10) (by omega) (by omega)).mp z
          omega
        have goX : ∀ {R : ZM → Option ZV → Prop}, (∃ (M3 : ZM) (r4 : Int32), Rt (d + 24) 30 [zR 4 48, zI 59] X' M3 (some (zI r4)) ∧ (r4 = 0 → R M3 (some (zI (M3.1 48 2)))) ∧ (¬ r4 = 0 → A_X4_parse_63 (d + 24) o M3 (nI (j + 1) + (-1)) R)) → A_X4_parse_12 (d + 24) o X0 (nI (j + 1)) R := by
          intro R hR
          refine a_X4_parse_12 ⟨fun z => absurd z j0, fun _ => ⟨X', _, x1, z10, fun _ => ?_⟩⟩
          rw [x3, hx'.2.1]
          exact ⟨fun _ => ⟨fun z => absurd z jn, fun _ => hR⟩, fun z => absurd (nI_lt hq' (by omega)) z⟩
        have goM : ∀ {R : ZM → Option ZV → Prop}, (∃ (M3 : ZM) (r4 : Int32), Rt (dm + 7) 153 [zR 9 64, zI 59] (mv75 M' h (nI (H.length + 1))) M3 (some (zI r4)) ∧ (r4 = 0 → R M3 (some (zI 0))) ∧ (¬ r4 = 0 → A_X9_goesText_15 (dm + 7) M3 (nI h) (nI (H.length + 1)) R)) → A_X9_goesText_15 (dm + 7) M0 (nI h) (nI H.length) R := by
          intro R hR
          refine a_X9_goesText_15 ⟨M', 1, by rw [ei]; exact m1, z10, fun _ => i1 ?_⟩
          rw [m3, hm'.2.1, zn_nI (by omega), nI_1]
          exact ⟨fun z => absurd ((nI_eq (by omega) (by omega)).mp z) hq, fun _ => ⟨fun z => absurd z n10, fun _ => hR⟩⟩
        by_cases h59 : chT T n q = 59
        · have pl := chT_lt (by omega) h59
          have g2 : FRk (mv75 M' h (nI (H.length + 1))) (mvC (mv75 M' h (nI (H.length + 1))) 16 (nI (q + 1))) (10 * h + H.length) s' := FRk_m (FRm_c (by omega))
          have pm2 : PMs (mvC (mv75 M' h (nI (H.length + 1))) 16 (nI (q + 1))) (100 * h) (q + 1) s' (H ++ [w]) (10 * h) := by
            obtain ⟨y1, y2, y3, y4, y5⟩ := pm'
            refine ⟨mvC_k, (mvC_c (by omega)).trans (by rw [mv75_n (by omega)]; exact y2), y3, by omega, HMs_same (fun a h1 h2 => (mvC_n (by omega)).trans (mv75_n (by omega))) y5⟩
          obtain ⟨ok, q', r1, r2, r3⟩ := ih (mvX X' (q + 1)) (mvC (mv75 M' h (nI (H.length + 1))) 16 (nI (q + 1))) (q + 1) s' (H ++ [w]) (by rw [hl]; omega) (TXx_mv hx') (TXm_k g2 hm2) (fun k hk => by
            rw [mvC_n (by omega), mv75_n (by omega), m2.1 82 (by omega) (by omega)]
            exact hL k hk) pl (PXs_mv ho (by omega) px') pm2
          rw [hl] at r3
          refine ⟨ok, q', r1, goX ⟨_, _, s59.1 h59, z10, fun _ => a_X4_parse_63 ?_⟩, goM ⟨_, _, t59.1 h59, z10, fun _ => ?_⟩⟩
          · have ej : nI (j + 1) + (-1) = nI j := by
              rw [← nI_1]
              exact (Int32.add_assoc _ _ _).trans (Int32.add_zero _)
            rw [ej]
            obtain ⟨Y, v, e1, e2, e3, e4⟩ := r2
            exact ⟨Y, v, e1, x2.trans (FXg_mv.trans e2), e3, e4⟩
          · obtain ⟨Y, v, e1, e2, e3, e4, e5⟩ := r3
            exact ⟨Y, v, e1, e2, fr2.trans ((FRh_k (by omega) pm'.2.2.1 g2).trans e3), e4, e5⟩
        · exact ⟨none, q, q2, goX ⟨_, _, s59.2 h59, fun _ => ⟨x2, fun _ => by rw [x3], fun H' z => (by cases z)⟩, z00⟩, goM ⟨_, _, t59.2 h59, fun _ => ⟨rfl, fr2, p2, fun H' z => (by cases z)⟩, z00⟩⟩
/-- the text in both -/
theorem text0 (ho : 49 < o) (h5 : h ≤ 5) {X M : ZM} (hx : TXx X T n) (hm : TXm M T n) (hL : ∀ k, k < 12 → M.1 82 k = ([108, 105, 107, 101, 108, 111, 97, 116, 104, 116, 105, 101] : List Int32).getD k 0) : ∃ (ok : Option Hs) (q : Nat), q ≤ n ∧ (∃ X' r, Rt (d + 25) 29 [zR 4 48, zR 3 (o + 1)] X X' (some (zI r)) ∧ FXg X X' o ∧ (ok = none → r = nI q) ∧ ∀ H', ok = some H' → r = -1 ∧ HX X'.1 o H') ∧ (∃ M', Rt (dm + 8) 165 [zR 9 64, zI (nI h)] M M' (some (zI (zb ok.isSome))) ∧ FRh M M' h ∧ M'.1 64 16 = nI q ∧ ∀ H', ok = some H' → HM M'.1 h H') := by
  have hc : Rt (d + 24) 20 [zR 3 (o + 1)] X (zu (zu (zu X.1 (o + 1) 0 0) (o + 1) 1 0) (o + 1) 4 0, X.2) none := ro_rt (g_X3_clear ⟨rfl, rfl⟩)
  generalize hI : zu (zu (zu X.1 (o + 1) 0 0) (o + 1) 1 0) (o + 1) 4 0 = I at hc
  have na : ∀ a, a ≠ o + 1 → I a = X.1 a := fun a q => by rw [← hI, zu_ne q, zu_ne q, zu_ne q]
  have f1 : FXg X (mvX (I, X.2) 0) o := ⟨fun a h1 h2 => (zu_ne h1 : zu I 48 2 (nI 0) a = I a).trans (na a (by omega)), fun k hk => (zu_kn hk : zu I 48 2 (nI 0) 48 k = I 48 k).trans (by rw [na 48 (by omega)]), rfl⟩
  have px : PXs (mvX (I, X.2) 0) o 0 [] := by
    have e : (mvX (I, X.2) 0).1 (o + 1) = I (o + 1) := (zu_ne (by omega) : zu I 48 2 (nI 0) (o + 1) = I (o + 1))
    refine ⟨mvX_p, ⟨?_, by decide, ?_, ?_, by decide, by decide⟩, Nat.le_refl _⟩
    · rw [e, ← hI, zu_kn (by omega), zu_kn (by omega), zu_kk]; rfl
    · rw [e, ← hI, zu_kn (by omega), zu_kk]; rfl
    · rw [e, ← hI, zu_kk]; rfl
  have eh : (100 : Int32) * nI h = nI (100 * h) := by rw [l_100, pk_mul]
  have g1 : FRm M (mvC (mvC M 16 0) 26 (nI (100 * h))) (100 * h) (10 * h) := (FRm_c (by omega)).trans (FRm_c (by omega))
  have pm : PMs (mvC (mvC M 16 0) 26 (nI (100 * h))) (100 * h) 0 (100 * h) [] (10 * h) := ⟨(mvC_c (by omega)).trans mvC_k, mvC_k, Nat.le_refl _, Nat.le_refl _, trivial⟩
  obtain ⟨ok, q, r1, r2, r3⟩ := text (d := d) (dm := dm) (n := n) (T := T) ho h5 9 (mvX (I, X.2) 0) (mvC (mvC M 16 0) 26 (nI (100 * h))) 0 (100 * h) [] rfl (TXx_g ho f1 hx) (TXm_f hm g1) (fun k hk => by
    rw [mvC_n (by omega), mvC_n (by omega)]
    exact hL k hk) (Nat.zero_le _) px pm
  refine ⟨ok, q, r1, ?_, ?_⟩
  · obtain ⟨Y, v, e1, e2, e3, e4⟩ := r2
    have ev : ∃ r, v = some (zI r) ∧ (ok = none → r = nI q) ∧ ∀ H', ok = some H' → r = -1 ∧ HX Y.1 o H' := by
      cases ok with
      | none => exact ⟨nI q, e3 rfl, fun _ => rfl, fun H' z => (by cases z)⟩
      | some H => exact ⟨-1, (e4 H rfl).1, fun z => (by cases z), fun H' z => ⟨rfl, (e4 H' z).2⟩⟩
    obtain ⟨r, er, e5, e6⟩ := ev
    rw [er] at e1
    exact ⟨Y, r, ro_rt (g_X4_parse ⟨_, hc, Y, _, e1, rfl, rfl⟩), f1.trans e2, e5, e6⟩
  · obtain ⟨Y, v, e1, e2, e3, e4, e5⟩ := r3
    rw [e2] at e1
    refine ⟨Y, ro_rt (g_X9_goesText ?_), (FRh_k (Nat.le_refl _) (Nat.le_refl _) (FRk_m g1)).trans e3, e4, e5⟩
    rw [eh]
    exact ⟨Y, _, e1, rfl, rfl⟩
end TT
