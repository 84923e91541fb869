/-! The calls: image, undo (2) -/
theorem op_image : Op 116 215 [] := fun M W h hi => by
  obtain ⟨q1, q2, q3, q4, q5, q6, q7, ⟨nS, q8⟩, ⟨nB, q9⟩, ⟨nT, q10⟩, q11, ⟨nA, q12⟩, q13, V⟩ := id hi
  obtain ⟨M1, h1, w1, f1, j1, k1, l1⟩ := c7_become (d := 58) (o := 13) (p := 1) (by omega) (by omega) (by omega) q1
  obtain ⟨M1', h1', r1⟩ := c7_bref (d := 58) (M := M) 13 1
  have eM := (rt_det h1 h1').1
  rw [← eM] at r1
  obtain ⟨M2, h2, a2, b2, c2, f2, r2⟩ := c5_become (d := 58) (o := 40) (p := 37) (M := M1) (by omega)
  obtain ⟨M3, h3, a3, b3, f3, r3⟩ := c2_become (d := 58) (o := 45) (p := 43) (M := M2) (by omega)
  have e3 : ∀ a, (a ≤ 13 ∨ 24 ≤ a) ∧ a ≠ 41 ∧ a ≠ 42 ∧ a ≠ 43 ∧ a ≠ 46 ∧ a ≠ 47 → M3.1 a = M.1 a := fun a ha => by rw [f3 a (by omega) (by omega), f2 a (by omega) (by omega) (by omega), f1 a (by omega)]
  have x4 : M3.1 2 4 = nI (wP W) := by rw [e3 2 (by omega)]; exact q1.2.1
  have cx : Rt 60 116 [zR 8 1] M (zu M3.1 1 13 1, M3.2) (some (zI (nI (wP W)))) := ro_rt (g_X8_image ⟨M1, h1, M2, h2, M3, h3, rfl, by rw [x4]⟩)
  obtain ⟨M5, h5, f5, r5, i1, i2, i3, i4, i5, i6, i7, i8, i9, s1, s2, t1⟩ := c9_image (d := 59) (M := (zu M3.1 1 13 1, M3.2))
  have e5 : ∀ a, (a ≤ 13 ∨ 24 ≤ a) ∧ a ≠ 41 ∧ a ≠ 42 ∧ a ≠ 43 ∧ a ≠ 46 ∧ a ≠ 47 ∧ a ≠ 1 ∧ a ≠ 64 ∧ (a < 95 ∨ 106 < a) → M5.1 a = M.1 a := fun a ha => by
    rw [f5 a (by omega) (by omega) (by omega) (by omega) (by omega) (by omega) (by omega) (by omega) (by omega) (by omega) (by omega) (by omega), zu_ne (by omega), zu_ne (by omega), zu_ne (by omega), zu_ne (by omega), zu_ne (by omega), zu_ne (by omega), zu_ne (by omega), zu_ne (by omega)]
    show zu M3.1 1 13 1 a = _
    rw [zu_ne (by omega), e3 a (by omega)]
  have e4 : ∀ a, a ≠ 1 → (zu M3.1 1 13 1, M3.2).1 a = M3.1 a := fun a ha => zu_ne ha
  have m64 : M3.1 64 = M.1 64 := e3 64 (by omega)
  have f64 := f5 64 (by omega) (by omega) (by omega) (by omega) (by omega) (by omega) (by omega) (by omega) (by omega) (by omega) (by omega) (by omega)
  have c64 : ∀ j, j < 44 ∨ 51 < j → M5.1 64 j = M.1 64 j := fun j hj => by
    rw [f64, zu_kn (by omega), zu_kn (by omega), zu_kn (by omega), zu_kn (by omega), zu_kn (by omega), zu_kn (by omega), zu_kn (by omega), zu_kn (by omega)]
    show zu M3.1 1 13 1 64 j = _
    rw [zu_ne (by omega), m64]
  have d44 : M5.1 64 44 = 1 := by rw [f64]; rfl
  have g64 : ∀ j, (zu M3.1 1 13 1, M3.2).1 64 j = M.1 64 j := fun j => by
    show zu M3.1 1 13 1 64 j = _
    rw [zu_ne (by omega), m64]
  have d45 : M5.1 64 45 = M.1 64 14 := by rw [f64]; exact g64 14
  have d46 : M5.1 64 46 = M.1 64 0 := by rw [f64]; exact g64 0
  have d47 : M5.1 64 47 = M.1 64 1 := by rw [f64]; exact g64 1
  have d48 : M5.1 64 48 = M.1 64 2 := by rw [f64]; exact g64 2
  have d49 : M5.1 64 49 = M.1 64 3 := by rw [f64]; exact g64 3
  have d50 : M5.1 64 50 = M.1 64 37 := by rw [f64]; exact g64 37
  have d51 : M5.1 64 51 = M.1 64 41 := by rw [f64]; exact g64 41
  have s4 : ∀ a, a ≠ 1 ∧ (a ≤ 13 ∨ 24 ≤ a) ∧ a ≠ 41 ∧ a ≠ 42 ∧ a ≠ 43 ∧ a ≠ 46 ∧ a ≠ 47 → (zu M3.1 1 13 1, M3.2).1 a = M.1 a := fun a ha => (e4 a (by omega)).trans (e3 a (by omega))
  have f113 : M5.1 1 13 = 1 := by
    rw [f5 1 (by omega) (by omega) (by omega) (by omega) (by omega) (by omega) (by omega) (by omega) (by omega) (by omega) (by omega) (by omega)]
    rfl
  have f112 : M5.1 1 12 = M.1 1 12 := by
    rw [f5 1 (by omega) (by omega) (by omega) (by omega) (by omega) (by omega) (by omega) (by omega) (by omega) (by omega) (by omega) (by omega)]
    exact congrFun (e3 1 (by omega)) 12
  -- what X has kept
  have k13 : ∀ a, 13 < a ∧ a < 24 → M5.1 a = M1.1 a := fun a ha => by
    rw [f5 a (by omega) (by omega) (by omega) (by omega) (by omega) (by omega) (by omega) (by omega) (by omega) (by omega) (by omega) (by omega), zu_ne (by omega), zu_ne (by omega), zu_ne (by omega), zu_ne (by omega), zu_ne (by omega), zu_ne (by omega), zu_ne (by omega), zu_ne (by omega)]
    show zu M3.1 1 13 1 a = _
    rw [zu_ne (by omega), f3 a (by omega) (by omega), f2 a (by omega) (by omega) (by omega)]
  have k41 : ∀ a, a = 41 ∨ a = 42 ∨ a = 43 → M5.1 a = M2.1 a := fun a ha => by
    rw [f5 a (by omega) (by omega) (by omega) (by omega) (by omega) (by omega) (by omega) (by omega) (by omega) (by omega) (by omega) (by omega), zu_ne (by omega), zu_ne (by omega), zu_ne (by omega), zu_ne (by omega), zu_ne (by omega), zu_ne (by omega), zu_ne (by omega), zu_ne (by omega)]
    show zu M3.1 1 13 1 a = _
    rw [zu_ne (by omega), f3 a (by omega) (by omega)]
  have k46 : ∀ a, a = 46 ∨ a = 47 → M5.1 a = M3.1 a := fun a ha => by
    rw [f5 a (by omega) (by omega) (by omega) (by omega) (by omega) (by omega) (by omega) (by omega) (by omega) (by omega) (by omega) (by omega), zu_ne (by omega), zu_ne (by omega), zu_ne (by omega), zu_ne (by omega), zu_ne (by omega), zu_ne (by omega), zu_ne (by omega), zu_ne (by omega)]
    show zu M3.1 1 13 1 a = _
    rw [zu_ne (by omega)]
  have rr : M5.2 = M1.2 := by rw [r5]; show M3.2 = _; rw [r3, r2]
  have j5 : M5.2.1 = M.2.1 := by rw [rr]; exact j1
  have l5 : M5.2.2.2 = M.2.2.2 := by rw [rr]; exact l1
  have ref : ∀ a k, a ≠ 14 → M5.2.2.1 a k = M.2.2.1 a k := fun a k ha => by rw [rr]; exact k1 a k ha
  have f1' : ∀ a, a < 14 ∨ 24 ≤ a → M1.1 a = M.1 a := fun a ha => f1 a (by omega)
  rw [c64 1 (by omega), q2.2.1] at h5
  obtain ⟨v1, v2, v3, v4, v5, v6, v7, v8, v9, v10, v11, v12, v13, v14⟩ := id q2
  have wx : WX M5 13 W := WX_eq (M := M1) (by omega) (fun a _ _ => k13 a (by omega)) (by rw [rr]) (fun a ha _ _ => (e5 a (by omega)).trans (f1' a (by omega)).symm) w1
  have wk : WK M5 W := by
    refine ⟨d46.trans v1, d47.trans v2, d48.trans v3, d49.trans v4, fun k hk => ?_, fun k hk => ?_, fun k hk => ?_, fun k hk => ?_, fun k hk => ?_, fun k hk => ?_, fun k hk => ?_, fun k hk => ?_, fun k hk => ?_, ?_⟩
    · rw [i1 k hk, s4 65 (by omega)]; exact v5 k hk
    · rw [i2 k hk, s4 66 (by omega)]; exact v6 k hk
    · rw [i3 k hk, s4 67 (by omega)]; exact v7 k hk
    · rw [i4 k hk, s4 68 (by omega)]; exact v8 k hk
    · rw [i5 k hk, s4 69 (by omega)]; exact v9 k hk
    · rw [i6 k hk, s4 70 (by omega)]; exact v10 k hk
    · rw [i7 k hk, s4 71 (by omega)]; exact v11 k hk
    · rw [i8 k hk, s4 72 (by omega)]; exact v12 k hk
    · rw [i9 k hk, s4 73 (by omega), v13 k hk, nar_zb]
    · rw [d45]
      rcases v14 with x | ⟨f, x, y, z1, z2, z3⟩
      · exact Or.inl x
      · exact Or.inr ⟨f, x, y, by rw [e5 75 (by omega)]; exact z1, z2, HMr_eq (fun a _ _ => e5 a (by omega)) _ _ z3⟩
  have hl : HL M5 14 45 h := by
    unfold HL at q5 ⊢
    have e : M5.2.2.1 14 13 = M.2.2.1 2 13 := by rw [rr]; exact r1
    rw [e, d45]
    exact q5
  have sn : SN M5 41 50 103 104 nS := by
    obtain ⟨x1, x2, x3, x5⟩ := q8
    refine ⟨x1, ?_, d50.trans x3, fun r hr => ?_⟩
    · rw [k41 41 (by omega), a2]
      exact (congrFun (f1' 38 (by omega)) 0).trans x2
    · obtain ⟨p, s, y1, y2, y3, y4, y5, y6⟩ := x5 r hr
      refine ⟨p, s, y1, y2, ?_, ?_, ?_, ?_⟩
      · rw [k41 (41 + 1) (by omega), b2 r (by omega)]
        exact (congrFun (f1' 39 (by omega)) r).trans y3
      · rw [s1 r (by omega), s4 90 (by omega)]; exact y4
      · rw [k41 (41 + 2) (by omega), c2 r (by omega)]
        exact (congrFun (f1' 40 (by omega)) r).trans y5
      · rw [s2 r (by omega), s4 91 (by omega)]; exact y6
  have bk : BK M5 46 51 105 nB (wM W) := by
    obtain ⟨x1, x2, x3, x5⟩ := q9
    have g2 : ∀ a, a = 44 ∨ a = 45 → M2.1 a = M.1 a := fun a ha => by rw [f2 a (by omega) (by omega) (by omega)]; exact f1' a (by omega)
    refine ⟨x1, ?_, d51.trans x3, fun r hr => ?_⟩
    · rw [k46 46 (by omega), a3, g2 44 (by omega)]; exact x2
    · obtain ⟨t, y1, y2, y3, y4⟩ := x5 r hr
      refine ⟨t, y1, y2, ?_, ?_⟩
      · rw [k46 (46 + 1) (by omega), b3 r (by omega), g2 45 (by omega)]; exact y3
      · rw [t1 r (by omega), s4 93 (by omega)]; exact y4
  exact ⟨_, M5, _, W, h, cx, h5, ⟨WX_eq (M := M) (by omega) (fun a _ _ => e5 a (by omega)) (ref _ _ (by omega)) (fun a h _ _ => e5 a (by omega)) q1, WM_eq2 (fun j hj => c64 j (by omega)) (fun a _ _ => e5 a (by omega)) q2, q3, q4, HL_eq (ref _ _ (by omega)) (c64 14 (by omega)) q5, HO_eq f112 (c64 13 (by omega)) (ref _ _ (by omega)) l5 q6, Or.inr ⟨f113, d44, W, nS, nB, wx, wk, q3, q4, hl, sn, bk, V⟩, ⟨nS, SN_eq (e5 _ (by omega)) (c64 _ (by omega)) (e5 _ (by omega)) (e5 _ (by omega)) (e5 _ (by omega)) (e5 _ (by omega)) q8⟩, ⟨nB, BK_eq (e5 _ (by omega)) (c64 _ (by omega)) (e5 _ (by omega)) (e5 _ (by omega)) q9⟩, ⟨nT, TX_eq (by rw [e5 48 (by omega)]) (c64 _ (by omega)) (e5 _ (by omega)) (e5 _ (by omega)) q10⟩, TP_eq (e5 _ (by omega)) (e5 _ (by omega)) (e5 _ (by omega)) (e5 _ (by omega)) (by rw [j5]) (by rw [j5]) q11, AC_eq (by rw [e5 54 (by omega)]) (c64 _ (by omega)) (e5 _ (by omega)) (e5 _ (by omega)) ⟨nA, q12⟩, LT_eq (e5 82 (by omega)) (e5 53 (by omega)) q13, V⟩, q6.1⟩
theorem op_undo : Op 117 216 [] := fun M W h hi => by
  obtain ⟨q1, q2, q3, q4, q5, q6, q7, ⟨nS, q8⟩, ⟨nB, q9⟩, ⟨nT, q10⟩, q11, ⟨nA, q12⟩, q13, V⟩ := id hi
  rcases id q7 with ⟨x0, m0⟩ | ⟨x0, m0, W', n, m, u1, u2, u3, u4, u5, u6, u7, V'⟩
  · exact op_z (v := zI (-3)) hi (ro_rt (g_X8_undo ⟨fun _ => ⟨rfl, rfl⟩, fun q => absurd x0 q⟩)) (ro_rt (g_X9_undo ⟨fun _ => ⟨rfl, rfl⟩, fun q => absurd m0 q⟩))
  obtain ⟨M1, h1, w1, f1, j1, k1, l1⟩ := c7_become (d := 58) (o := 1) (p := 13) (by omega) (by omega) (by omega) u1
  obtain ⟨M1', h1', r1⟩ := c7_bref (d := 58) (M := M) 1 13
  have eM := (rt_det h1 h1').1
  rw [← eM] at r1
  obtain ⟨M2, h2, a2, b2, c2, f2, r2⟩ := c5_become (d := 58) (o := 37) (p := 40) (M := M1) (by omega)
  obtain ⟨M3, h3, a3, b3, f3, r3⟩ := c2_become (d := 58) (o := 43) (p := 45) (M := M2) (by omega)
  have e3 : ∀ a, (a ≤ 1 ∨ 12 ≤ a) ∧ a ≠ 38 ∧ a ≠ 39 ∧ a ≠ 40 ∧ a ≠ 44 ∧ a ≠ 45 → M3.1 a = M.1 a := fun a ha => by rw [f3 a (by omega) (by omega), f2 a (by omega) (by omega) (by omega), f1 a (by omega)]
  have x4 : M3.1 2 4 = nI (wP W') := by
    rw [f3 2 (by omega) (by omega), f2 2 (by omega) (by omega) (by omega)]
    exact w1.2.1
  have cx : Rt 60 117 [zR 8 1] M M3 (some (zI (nI (wP W')))) := ro_rt (g_X8_undo ⟨fun q => absurd (x0.symm.trans q) (by decide), fun _ => ⟨M1, h1, M2, h2, M3, h3, rfl, by rw [x4]⟩⟩)
  have m44 : ¬ M3.1 64 44 = 0 := by rw [e3 64 (by omega), m0]; decide
  obtain ⟨M5, h5, f5, r5, i1, i2, i3, i4, i5, i6, i7, i8, i9, s1, s2, t1⟩ := c9_undo (d := 59) (M := M3) m44
  have e5 : ∀ a, (a ≤ 1 ∨ 12 ≤ a) ∧ a ≠ 38 ∧ a ≠ 39 ∧ a ≠ 40 ∧ a ≠ 44 ∧ a ≠ 45 ∧ (a < 64 ∨ 73 < a) ∧ a ≠ 90 ∧ a ≠ 91 ∧ a ≠ 93 → M5.1 a = M.1 a := fun a ha => by
    rw [f5 a (by omega) (by omega) (by omega) (by omega) (by omega) (by omega) (by omega) (by omega) (by omega) (by omega) (by omega) (by omega), zu_ne (by omega), zu_ne (by omega), zu_ne (by omega), zu_ne (by omega), zu_ne (by omega), zu_ne (by omega), zu_ne (by omega), e3 a (by omega)]
  have m64 : M3.1 64 = M.1 64 := e3 64 (by omega)
  have f64 := f5 64 (by omega) (by omega) (by omega) (by omega) (by omega) (by omega) (by omega) (by omega) (by omega) (by omega) (by omega) (by omega)
  have c64 : ∀ j, j ≠ 14 ∧ j ≠ 0 ∧ j ≠ 1 ∧ j ≠ 2 ∧ j ≠ 3 ∧ j ≠ 37 ∧ j ≠ 41 → M5.1 64 j = M.1 64 j := fun j hj => by
    rw [f64, zu_kn (by omega), zu_kn (by omega), zu_kn (by omega), zu_kn (by omega), zu_kn (by omega), zu_kn (by omega), zu_kn (by omega), m64]
  have g64 : ∀ j, M3.1 64 j = M.1 64 j := fun j => congrFun m64 j
  have d14 : M5.1 64 14 = M.1 64 45 := by rw [f64]; exact g64 45
  have d0 : M5.1 64 0 = M.1 64 46 := by rw [f64]; exact g64 46
  have d1 : M5.1 64 1 = M.1 64 47 := by rw [f64]; exact g64 47
  have d2 : M5.1 64 2 = M.1 64 48 := by rw [f64]; exact g64 48
  have d3 : M5.1 64 3 = M.1 64 49 := by rw [f64]; exact g64 49
  have d37 : M5.1 64 37 = M.1 64 50 := by rw [f64]; exact g64 50
  have d41 : M5.1 64 41 = M.1 64 51 := by rw [f64]; exact g64 51
  have k1' : ∀ a, (1 < a ∧ a < 12) ∨ (37 < a ∧ a < 46) → M5.1 a = M3.1 a := fun a ha => by
    rw [f5 a (by omega) (by omega) (by omega) (by omega) (by omega) (by omega) (by omega) (by omega) (by omega) (by omega) (by omega) (by omega), zu_ne (by omega), zu_ne (by omega), zu_ne (by omega), zu_ne (by omega), zu_ne (by omega), zu_ne (by omega), zu_ne (by omega)]
  have rr : M5.2 = M1.2 := by rw [r5, r3, r2]
  have j5 : M5.2.1 = M.2.1 := by rw [rr]; exact j1
  have l5 : M5.2.2.2 = M.2.2.2 := by rw [rr]; exact l1
  have ref : ∀ a k, a ≠ 2 → M5.2.2.1 a k = M.2.2.1 a k := fun a k ha => by rw [rr]; exact k1 a k ha
  have f1' : ∀ a, a < 2 ∨ 12 ≤ a → M1.1 a = M.1 a := fun a ha => f1 a (by omega)
  rw [d1, u2.2.1] at h5
  obtain ⟨v1, v2, v3, v4, v5, v6, v7, v8, v9, v10, v11, v12, v13, v14⟩ := id u2
  have wx : WX M5 1 W' := WX_eq (M := M1) (by omega) (fun a _ _ => by rw [k1' a (by omega), f3 a (by omega) (by omega), f2 a (by omega) (by omega) (by omega)]) (by rw [rr]) (fun a ha _ _ => (e5 a (by omega)).trans (f1' a (by omega)).symm) w1
  have wm : WM M5 W' := by
    refine ⟨d0.trans v1, d1.trans v2, d2.trans v3, d3.trans v4, fun k hk => ?_, fun k hk => ?_, fun k hk => ?_, fun k hk => ?_, fun k hk => ?_, fun k hk => ?_, fun k hk => ?_, fun k hk => ?_, fun k hk => ?_, ?_⟩
    · rw [i1 k hk, e3 95 (by omega)]; exact v5 k hk
    · rw [i2 k hk, e3 96 (by omega)]; exact v6 k hk
    · rw [i3 k hk, e3 97 (by omega)]; exact v7 k hk
    · rw [i4 k hk, e3 98 (by omega)]; exact v8 k hk
    · rw [i5 k hk, e3 99 (by omega)]; exact v9 k hk
    · rw [i6 k hk, e3 100 (by omega)]; exact v10 k hk
    · rw [i7 k hk, e3 101 (by omega)]; exact v11 k hk
    · rw [i8 k hk, e3 102 (by omega)]; exact v12 k hk
    · rw [i9 k hk, e3 106 (by omega), v13 k hk, nar_zb]
    · rw [d14]
      rcases v14 with x | ⟨f, x, y, z1, z2, z3⟩
      · exact Or.inl x
      · exact Or.inr ⟨f, x, y, by rw [e5 75 (by omega)]; exact z1, z2, HMr_eq (fun a _ _ => e5 a (by omega)) _ _ z3⟩
  have hl : HL M5 2 14 h := by
    unfold HL at u5 ⊢
    have e : M5.2.2.1 2 13 = M.2.2.1 14 13 := by rw [rr]; exact r1
    rw [e, d14]
    exact u5
  have sn : SN M5 38 37 90 91 n := by
    obtain ⟨y1, y2, y3, y5⟩ := u6
    refine ⟨y1, ?_, d37.trans y3, fun r hr => ?_⟩
    · rw [k1' 38 (by omega), f3 38 (by omega) (by omega), a2]
      exact (congrFun (f1' 41 (by omega)) 0).trans y2
    · obtain ⟨p, s, z1, z2, z3, z4, z5, z6⟩ := y5 r hr
      refine ⟨p, s, z1, z2, ?_, ?_, ?_, ?_⟩
      · rw [k1' (38 + 1) (by omega), f3 (38 + 1) (by omega) (by omega), b2 r (by omega)]
        exact (congrFun (f1' 42 (by omega)) r).trans z3
      · rw [s1 r (by omega), e3 103 (by omega)]; exact z4
      · rw [k1' (38 + 2) (by omega), f3 (38 + 2) (by omega) (by omega), c2 r (by omega)]
        exact (congrFun (f1' 43 (by omega)) r).trans z5
      · rw [s2 r (by omega), e3 104 (by omega)]; exact z6
  have bk : BK M5 44 41 93 m (wM W') := by
    obtain ⟨y1, y2, y3, y5⟩ := u7
    have g2 : ∀ a, a = 46 ∨ a = 47 → M2.1 a = M.1 a := fun a ha => by rw [f2 a (by omega) (by omega) (by omega)]; exact f1' a (by omega)
    refine ⟨y1, ?_, d41.trans y3, fun r hr => ?_⟩
    · rw [k1' 44 (by omega), a3, g2 46 (by omega)]; exact y2
    · obtain ⟨t, z1, z2, z3, z4⟩ := y5 r hr
      refine ⟨t, z1, z2, ?_, ?_⟩
      · rw [k1' (44 + 1) (by omega), b3 r (by omega), g2 47 (by omega)]; exact z3
      · rw [t1 r (by omega), e3 105 (by omega)]; exact z4
  exact ⟨M3, M5, _, W', h, cx, h5, ⟨wx, wm, u3, u4, hl, HO_eq (by rw [e5 1 (by omega)]) (c64 13 (by omega)) (ref _ _ (by omega)) l5 q6, IM_eq2 (by rw [e5 1 (by omega)]) (fun j _ _ => c64 j (by omega)) (fun a ha => e5 a (by omega)) (ref _ _ (by omega)) q7, ⟨n, sn⟩, ⟨m, bk⟩, ⟨nT, TX_eq (by rw [e5 48 (by omega)]) (c64 _ (by omega)) (e5 _ (by omega)) (e5 _ (by omega)) q10⟩, TP_eq (e5 _ (by omega)) (e5 _ (by omega)) (e5 _ (by omega)) (e5 _ (by omega)) (by rw [j5]) (by rw [j5]) q11, AC_eq (by rw [e5 54 (by omega)]) (c64 _ (by omega)) (e5 _ (by omega)) (e5 _ (by omega)) ⟨nA, q12⟩, LT_eq (e5 82 (by omega)) (e5 53 (by omega)) q13, V'⟩, q6.1⟩
