/-! THE CALL house in both: alike -/
theorem op_house : Op 88 166 [] := fun M W h hi => by
  obtain ⟨q1, q2, q3, q4, q5, ⟨h6, o1, o2, o3, o4, o5⟩, q7, q8, q9, ⟨n, hn, t1, t2, t3⟩, q11, q12, q13, q14⟩ := id hi
  by_cases hh6 : h = 6
  · refine op_z (v := zI (-4)) hi (ro_rt (g_X8_house ?_)) (ro_rt (g_X9_house ?_))
    · rw [o1, hh6]
      exact ⟨fun q => absurd q (by decide), fun _ => ⟨rfl, rfl⟩⟩
    · rw [o2, hh6]
      exact ⟨fun _ => ⟨rfl, rfl⟩, fun q => absurd rfl q⟩
  have h5 : h ≤ 5 := by omega
  have nm6 : ¬ nI h = 6 := fun q => by
    have := (nI_eq (b := 6) (by omega) (by omega)).mp q
    omega
  -- the text
  have tT : ∀ r, r < n → M.1 49 r = nI (zn (M.1 49 r)) ∧ M.1 74 r = nI (zn (M.1 49 r)) ∧ zn (M.1 49 r) < 128 := fun r hr => by
    obtain ⟨c, c1, c2, c3⟩ := t3 r hr
    rw [c2, zn_nI (by omega)]
    exact ⟨rfl, c3, c1⟩
  have hx : TXx M (fun r => zn (M.1 49 r)) n := ⟨hn, t1, fun k hk => ⟨(tT k hk).1, (tT k hk).2.2⟩⟩
  have hm : TXm M (fun r => zn (M.1 49 r)) n := ⟨hn, t2, fun k hk => ⟨(tT k hk).2.1, (tT k hk).2.2⟩⟩
  -- where the house is made
  obtain ⟨o, ho, hox⟩ : ∃ o, hAd h = o + 1 ∧ (o = 59 ∨ 111 ≤ o) := by
    unfold hAd
    by_cases j0 : h = 0
    · rw [if_pos j0]; exact ⟨59, rfl, Or.inl rfl⟩
    · rw [if_neg j0]; exact ⟨107 + 4 * h, by omega, by omega⟩
  have ho49 : 49 < o := by omega
  have hoh : o + 4 < 112 + 4 * h := by
    unfold hAd at ho
    by_cases j0 : h = 0
    · rw [if_pos j0] at ho; omega
    · rw [if_neg j0] at ho; omega
  obtain ⟨ok1, p1, _, ⟨X', r1, x1, x2, x3, x4⟩, _⟩ := text0 (d := 34) (dm := 51) ho49 h5 hx hm q13.1
  have eX : M.2.2.1 1 11 = o + 1 := by rw [o3, ho]
  have x1' : Rt 59 29 [zR 4 48, zR 3 (M.2.2.1 1 11)] M X' (some (zI r1)) := by rw [eX]; exact x1
  -- what SeatOn leaves
  have kX : ∀ (M1 : ZM) (ok : Option Hs) (q : Nat), (∃ X'' r, Rt 59 29 [zR 4 48, zR 3 (o + 1)] M X'' (some (zI r)) ∧ FXg M X'' o ∧ (ok = none → r = nI q) ∧ ∀ H', ok = some H' → r = -1 ∧ HX X''.1 o H') → (ok = none → r1 = nI q) ∧ ∀ H', ok = some H' → r1 = -1 ∧ HX X'.1 o H' := by
    intro M1 ok q ⟨X'', r, y1, y2, y3, y4⟩
    obtain ⟨z1, z2⟩ := rt_fun x1 y1
    have z3 : r1 = r := by
      have := Option.some.inj z2
      exact Sum.inl.inj this
    rw [z3, z1]
    exact ⟨y3, y4⟩
  have g48 : ∀ a, a ≠ 48 → (a ≤ o ∨ o + 4 < a) → zu X'.1 48 0 0 a = M.1 a := fun a a1 a2 => (zu_ne a1).trans (x2.1 a a1 a2)
  by_cases hr : r1 = -1
  · -- a house was read
    have e2 : M.2 = X'.2 := x2.2.2.symm
    obtain ⟨M1, nw, hX42⟩ := c8_new (d := 58) h5 (M := (zu X'.1 48 0 0, X'.2)) (by rw [← e2]; exact o4) (i1 := r1)
    obtain ⟨w1, w2, w3, w4, w5, w6, w7, w8, w9⟩ := nw
    have b1 : ∀ a, a ≠ 1 → a ≠ 48 → a < 112 + 4 * h → (a ≤ o ∨ o + 4 < a) → M1.1 a = M.1 a := fun a a1 a2 a3 a4 => (w1 a a1 a3).trans (g48 a a2 a4)
    have c12 : zu X'.1 48 0 0 1 12 = nI h := by rw [g48 1 (by omega) (by omega)]; exact o1
    have m64 : M1.1 64 = M.1 64 := b1 64 (by omega) (by omega) (by omega) (by omega)
    have hm1 : TXm M1 (fun r => zn (M.1 49 r)) n := ⟨hn, by rw [m64]; exact t2, fun k hk => by rw [b1 74 (by omega) (by omega) (by omega) (by omega)]; exact hm.2.2 k hk⟩
    obtain ⟨ok, q, hq, hX, ⟨M2, m1, m2, m3, m4⟩⟩ := text0 (d := 34) (dm := 51) ho49 h5 hx hm1 (fun k hk => by rw [b1 82 (by omega) (by omega) (by omega) (by omega)]; exact q13.1 k hk)
    obtain ⟨k1, k2⟩ := kX M1 ok q hX
    cases ok with
    | none =>
      rw [k1 rfl, nI_m1 (by omega)] at hr
      exact hr.elim
    | some H =>
      have hHX := (k2 H rfl).2
      have hHM := m4 H rfl
      have m13 : M2.1 64 13 = nI h := (m2.2.1 13 (by omega) (by omega) (by omega) (by omega) (by omega)).trans (by rw [m64]; exact o2)
      have rX : Rt 60 88 [zR 8 1] M M1 (some (zI (nI h))) := by
        refine ro_rt (g_X8_house ?_)
        rw [o1]
        refine ⟨fun _ => ⟨X', r1, x1', fun _ => hX42 _ ⟨rfl, ?_⟩, fun z => absurd hr z⟩, fun z => absurd (nI_lt (b := 6) (by omega) (by omega)) z⟩
        exact sz c12
      have rM : Rt 60 166 [zR 9 64] M1 (zu (zu (zu M2.1 64 15 0) 64 14 (nI h)) 64 13 (nI (h + 1)), M2.2) (some (zI (nI h))) := by
        refine ro_rt (g_X9_house ?_)
        rw [m64, o2]
        refine ⟨fun z => absurd z nm6, fun _ => ⟨M2, 1, m1, z10, fun _ => ?_⟩⟩
        rw [m13, nI_1]
        exact ⟨rfl, rfl⟩
      generalize hM3 : ((zu (zu (zu M2.1 64 15 0) 64 14 (nI h)) 64 13 (nI (h + 1)), M2.2) : ZM) = M3 at rM
      have f3 : ∀ a, a ≠ 64 → M3.1 a = M2.1 a := fun a ha => by rw [← hM3]; exact (zu_ne ha).trans ((zu_ne ha).trans (zu_ne ha))
      have f64 : ∀ k, k ≠ 13 → k ≠ 14 → k ≠ 15 → M3.1 64 k = M2.1 64 k := fun k z1 z2 z3 => by rw [← hM3]; exact (zu_kn z1).trans ((zu_kn z2).trans (zu_kn z3))
      have f13 : M3.1 64 13 = nI (h + 1) := by rw [← hM3]; dsimp only; rw [zu_kk]
      have f14 : M3.1 64 14 = nI h := by rw [← hM3]; dsimp only; rw [zu_kn (by decide), zu_kk]
      have f15 : M3.1 64 15 = nI 0 := by rw [← hM3]; dsimp only; rw [zu_kn (by decide), zu_kn (by decide), zu_kk]; rfl
      have f2 : M3.2 = M1.2 := by rw [← hM3]; exact m2.2.2.2.2.2
      have e2' : (zu X'.1 48 0 0, X'.2).2 = M.2 := e2.symm
      have fa : ∀ a, a ≠ 64 → (a < 75 ∨ 81 < a) → M3.1 a = M1.1 a := fun a a1 a2 => (f3 a a1).trans (m2.1 a a1 a2)
      have g : Fh M M3 h := by
        refine ⟨fun a a1 a2 a3 a4 a5 a6 => (fa a a3 a4).trans (b1 a a1 a2 a5 (by omega)), fun k hk => ?_, fun k hk => ?_, fun k hk => ?_, fun a a1 a2 k hk => ?_, fun k hk => ?_, fun a ha => ?_, fun a k ha h1 h2 => ?_⟩
        · rw [fa 1 (by omega) (by omega)]
          exact (w2 k hk).trans (by show zu X'.1 48 0 0 1 k = M.1 1 k; rw [g48 1 (by omega) (by omega)])
        · rw [f64 k (by omega) (by omega) (by omega), m2.2.1 k (by omega) (by omega) (by omega) (by omega) (by omega), m64]
        · rw [f3 75 (by omega), m2.2.2.1 k hk, b1 75 (by omega) (by omega) (by omega) (by omega)]
        · rw [f3 a (by omega), m2.2.2.2.1 a a1 a2 k hk, b1 a (by omega) (by omega) (by omega) (by omega)]
        · rw [f3 80 (by omega), m2.2.2.2.2.1 k hk, b1 80 (by omega) (by omega) (by omega) (by omega)]
        · rw [f2]
          exact (w4 a ha).trans (by rw [e2'])
        · rw [f2]
          exact (w5 a k ha h1 h2).trans (by rw [e2'])
      have s13 : M3.2.2.1 2 13 = o + 1 := by rw [f2, w6, e2']; exact eX
      have hAdn : hAd (h + 1) = 112 + 4 * h := by
        unfold hAd
        rw [if_neg (by omega)]
        omega
      have hHX3 : HX M3.1 o H := HX_eq (fun a a1 a2 => (fa a (by omega) (by omega)).trans ((w1 a (by omega) (by omega)).trans (zu_ne (by omega)))) hHX
      have hHM3 : HM M3.1 h H := ⟨by rw [f3 75 (by omega)]; exact hHM.1, hHM.2.1, HMr_eq (fun a a1 a2 => f3 a (by omega)) _ _ hHM.2.2⟩
      refine ⟨M1, M3, zI (nI h), wHo W H, h + 1, rX, rM, Iv_h g hi (by omega) (fun _ _ _ => trivial) ?_ (Or.inr ⟨h, f14, by omega, hHM3⟩) (Or.inr ⟨h, by omega, by rw [s13, ho], f14⟩) ⟨by omega, ?_, f13, ?_, ?_, ?_⟩ ⟨by omega, ?_, f15, fun r hr => absurd hr (Nat.not_lt_zero r)⟩, by omega⟩
      · obtain ⟨y1, y2, y3, y4, y5, y6, y7, y8, y9, y10, y11, y12, y13, y14⟩ := q1
        refine ⟨?_, ?_, ?_, ?_, ?_, ?_, ?_, ?_, ?_, ?_, ?_, ?_, ?_, Or.inr ⟨o, s13, hox, hHX3⟩⟩
        · rw [Fh_a g (a := 1 + 1) (by omega)]; exact y1
        · rw [Fh_a g (a := 1 + 1) (by omega)]; exact y2
        · rw [Fh_a g (a := 1 + 1) (by omega)]; exact y3
        · rw [Fh_a g (a := 1 + 1) (by omega)]; exact y4
        · rw [Fh_a g (a := 1 + 2) (by omega)]; exact y5
        · rw [Fh_a g (a := 1 + 3) (by omega)]; exact y6
        · rw [Fh_a g (a := 1 + 4) (by omega)]; exact y7
        · rw [Fh_a g (a := 1 + 5) (by omega)]; exact y8
        · rw [Fh_a g (a := 1 + 6) (by omega)]; exact y9
        · rw [Fh_a g (a := 1 + 7) (by omega)]; exact y10
        · rw [Fh_a g (a := 1 + 8) (by omega)]; exact y11
        · rw [Fh_a g (a := 1 + 9) (by omega)]; exact y12
        · rw [Fh_a g (a := 1 + 10) (by omega)]; exact y13
      · rw [fa 1 (by omega) (by omega)]
        exact w3.trans (by dsimp only; rw [c12, nI_1])
      · rw [f2, w7, hAdn]
      · rw [f2, w8]; omega
      · rw [f2]
        have w9' : M1.2.2.2.2.1 ≤ M.2.2.2.2.1 + 1000 := by
          have := w9
          rw [e2'] at this
          exact this
        rw [Nat.mul_succ, ← Nat.add_assoc]
        exact Nat.le_trans w9' (Nat.add_le_add_right o5 1000)
      · rw [fa 48 (by omega) (by omega)]
        exact (congrFun (w1 48 (by omega) (by omega)) 0).trans (zu_kk : zu X'.1 48 0 0 48 0 = 0)
  · -- no house was read
    have e2 : X'.2 = M.2 := x2.2.2
    have m64 : zu X'.1 48 0 0 64 = M.1 64 := g48 64 (by omega) (by omega)
    have hm1 : TXm (zu X'.1 48 0 0, X'.2) (fun r => zn (M.1 49 r)) n := ⟨hn, by show zu X'.1 48 0 0 64 15 = nI n; rw [m64]; exact t2, fun k hk => by
      show zu X'.1 48 0 0 74 k = _ ∧ _
      rw [g48 74 (by omega) (by omega)]; exact hm.2.2 k hk⟩
    obtain ⟨ok, q, hq, hX, ⟨M2, m1, m2, m3, m4⟩⟩ := text0 (d := 34) (dm := 51) ho49 h5 hx hm1 (fun k hk => by
      show zu X'.1 48 0 0 82 k = _
      rw [g48 82 (by omega) (by omega)]; exact q13.1 k hk)
    obtain ⟨k1, k2⟩ := kX M ok q hX
    cases ok with
    | some H => exact absurd (k2 H rfl).1 hr
    | none =>
      have e1 := k1 rfl
      have rX : Rt 60 88 [zR 8 1] M (zu X'.1 48 0 0, X'.2) (some (zI (-10 - r1))) := by
        refine ro_rt (g_X8_house ?_)
        rw [o1]
        exact ⟨fun _ => ⟨X', r1, x1', fun z => absurd z hr, fun _ => ⟨rfl, rfl⟩⟩, fun z => absurd (nI_lt (b := 6) (by omega) (by omega)) z⟩
      have rM : Rt 60 166 [zR 9 64] (zu X'.1 48 0 0, X'.2) (zu M2.1 64 15 0, M2.2) (some (zI (-10 - r1))) := by
        refine ro_rt (g_X9_house ?_)
        dsimp only
        rw [m64, o2]
        refine ⟨fun z => absurd z nm6, fun _ => ⟨M2, 0, m1, fun _ => ⟨rfl, ?_⟩, z00⟩⟩
        rw [m3, e1]
      generalize hM3 : ((zu M2.1 64 15 0, M2.2) : ZM) = M3 at rM
      have f3 : ∀ a, a ≠ 64 → M3.1 a = M2.1 a := fun a ha => by rw [← hM3]; exact zu_ne ha
      have f64 : ∀ k, k ≠ 15 → M3.1 64 k = M2.1 64 k := fun k z1 => by rw [← hM3]; exact zu_kn z1
      have f15 : M3.1 64 15 = nI 0 := by rw [← hM3]; dsimp only; rw [zu_kk]; rfl
      have f2 : M3.2 = M.2 := by rw [← hM3]; exact m2.2.2.2.2.2.trans e2
      have fa : ∀ a, a ≠ 64 → (a < 75 ∨ 81 < a) → M3.1 a = zu X'.1 48 0 0 a := fun a a1 a2 => (f3 a a1).trans (m2.1 a a1 a2)
      have s64 : ∀ k, k ≠ 15 → k ≠ 16 → k ≠ 17 → k ≠ 26 → k ≠ 27 → k ≠ 28 → M3.1 64 k = M.1 64 k := fun k z0 z1 z2 z3 z4 z5 => by
        rw [f64 k z0, m2.2.1 k z1 z2 z3 z4 z5]
        show zu X'.1 48 0 0 64 k = M.1 64 k
        rw [m64]
      have g : Fh M M3 h := by
        refine ⟨fun a a1 a2 a3 a4 a5 a6 => (fa a a3 a4).trans (g48 a a2 (by omega)), fun k hk => ?_, fun k hk => s64 k (by omega) (by omega) (by omega) (by omega) (by omega) (by omega), fun k hk => ?_, fun a a1 a2 k hk => ?_, fun k hk => ?_, fun a ha => by rw [f2], fun a k ha h1 h2 => by rw [f2]⟩
        · rw [fa 1 (by omega) (by omega), g48 1 (by omega) (by omega)]
        · rw [f3 75 (by omega), m2.2.2.1 k hk]
          show zu X'.1 48 0 0 75 k = _
          rw [g48 75 (by omega) (by omega)]
        · rw [f3 a (by omega), m2.2.2.2.1 a a1 a2 k hk]
          show zu X'.1 48 0 0 a k = _
          rw [g48 a (by omega) (by omega)]
        · rw [f3 80 (by omega), m2.2.2.2.2.1 k hk]
          show zu X'.1 48 0 0 80 k = _
          rw [g48 80 (by omega) (by omega)]
      have r213 : M3.2.2.1 2 13 = M.2.2.1 2 13 := by rw [f2]
      have e14 : M3.1 64 14 = M.1 64 14 := s64 14 (by omega) (by omega) (by omega) (by omega) (by omega) (by omega)
      have hwx : WX M3 1 (wHo W (wH W)) := Fh_WX (W := wHo W (wH W)) g (Or.inr ⟨rfl, r213⟩) q5 q1
      refine ⟨_, M3, _, wHo W (wH W), h, rX, rM, Iv_h g hi (Nat.le_refl _) (fun _ _ _ => trivial) hwx (Fh_14 g h6 e14 q5 q2.2.2.2.2.2.2.2.2.2.2.2.2.2) (HL_eq r213 e14 q5) ⟨h6, ?_, ?_, by rw [f2]; exact o3, by rw [f2]; exact o4, by rw [f2]; exact o5⟩ ⟨by omega, ?_, f15, fun r hr => absurd hr (Nat.not_lt_zero r)⟩, h6⟩
      · rw [fa 1 (by omega) (by omega), g48 1 (by omega) (by omega)]; exact o1
      · exact (s64 13 (by omega) (by omega) (by omega) (by omega) (by omega) (by omega)).trans o2
      · rw [fa 48 (by omega) (by omega)]; exact zu_kk
