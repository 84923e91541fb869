/-! The calls: feed, see, book; of, who, at, told, trace, taken, count -/
theorem op_feed (i : Int32) : Op 87 150 [zI i] := fun M W h hi => by
  obtain ⟨q1, q2, q3, q4, q5, q6, q7, q8, q9, ⟨n, hn, t1, t2, t3⟩, q11, q12, q13⟩ := id hi
  by_cases c : ¬ i < 0 ∧ ¬ (127 : Int32) < i
  case neg => exact op_z (v := zI (-2)) hi (ro_rt (g_X8_feed ⟨fun _ => ⟨rfl, rfl⟩, fun q => ⟨fun _ => ⟨rfl, rfl⟩, fun r => absurd ⟨q, r⟩ c⟩⟩)) (ro_rt (g_X9_feed ⟨M, _, in_0 c, fun _ => ⟨rfl, rfl⟩, z00⟩))
  obtain ⟨s, _, hs, es⟩ := rng (lo := 0) (hi := 127) (by omega) (by omega) c
  by_cases p : n < 100
  case neg =>
    refine op_z (v := zI (-4)) hi (ro_rt (g_X8_feed ⟨fun q => absurd q c.1, fun _ => ⟨fun q => absurd q c.2, fun _ => ⟨M, 0, ro_rt (g_X4_add ?_), fun _ => ⟨rfl, rfl⟩, z00⟩⟩⟩)) (ro_rt (g_X9_feed ⟨M, _, in_1 c, z10, fun _ => ?_⟩))
    · rw [t1]
      exact ⟨fun q => absurd ((nI_ltI (b := 100) (by omega) (by omega)).mp q) p, fun _ => ⟨rfl, rfl⟩⟩
    · rw [t2]
      exact ⟨fun _ => ⟨rfl, rfl⟩, fun q => absurd (congrArg nI (by omega : n = 100)) q⟩
  have zp : zn (nI n) = n := zn_nI (by omega)
  have c4 : Rt 59 28 [zR 4 48, zI i] M (zu (zu M.1 48 0 (nI (n + 1))) 49 n i, M.2) (some (zI 1)) := by
    refine ro_rt (g_X4_add ?_)
    rw [t1, nI_1, zp]
    exact ⟨fun _ => ⟨in_n p (by omega), rfl, rfl⟩, fun q => absurd (nI_lt (b := 100) p (by omega)) q⟩
  have y2 : (zu (zu M.1 48 0 (nI (n + 1))) 49 n i) 64 15 = nI n := t2
  refine ⟨(zu (zu M.1 48 0 (nI (n + 1))) 49 n i, M.2), (zu (zu (zu (zu M.1 48 0 (nI (n + 1))) 49 n i) 74 n i) 64 15 (nI (n + 1)), M.2), zI (nI (n + 1)), W, h, ro_rt (g_X8_feed ⟨fun q => absurd q c.1, fun _ => ⟨fun q => absurd q c.2, fun _ => ⟨_, _, c4, z10, fun _ => ⟨rfl, rfl⟩⟩⟩⟩), ro_rt (g_X9_feed ⟨_, _, in_1 c, z10, fun _ => ?_⟩), ?_, q6.1⟩
  · dsimp only
    rw [y2, nI_1, zp]
    exact ⟨fun q => absurd ((nI_eq (b := 100) (by omega) (by omega)).mp q) (by omega), fun _ => ⟨in_n p (by omega), rfl, rfl⟩⟩
  · refine Iv_x (M := M) (fun a _ _ _ _ => (zu_ne (by omega)).trans ((zu_ne (by omega)).trans ((zu_ne (by omega)).trans (zu_ne (by omega))))) (fun j hj => zu_kn hj) rfl hi ⟨n + 1, p, rfl, rfl, fun r hr => ?_⟩
    by_cases hrn : r = n
    · refine ⟨s, by omega, ?_, ?_⟩
      · rw [hrn, ← es]; exact zu_kk
      · rw [hrn, ← es]; exact zu_kk
    · obtain ⟨c, h1, h2, h3⟩ := t3 r (by omega)
      exact ⟨c, h1, (zu_kn hrn).trans h2, (zu_kn hrn).trans h3⟩
theorem op_see (i k : Int32) : Op 109 205 [zI i, zI k] := fun M W h hi => by
  obtain ⟨q1, q2, q3, q4, q5, q6, q7, ⟨n, hn, t1, t2, t3⟩, ⟨nB, q9⟩, ⟨nT, q10⟩, q11, q12, q13⟩ := id hi
  by_cases e : i = -1
  · refine ⟨(zu M.1 38 0 0, M.2), (zu (zu M.1 38 0 0) 64 37 0, M.2), zI 0, W, h, ro_rt (g_X8_see ⟨fun _ => ⟨rfl, rfl⟩, fun q => absurd e q⟩), ro_rt (g_X9_see ⟨fun _ => ⟨rfl, rfl⟩, fun q => absurd e q⟩), ?_, q6.1⟩
    exact Iv_s (M := M) (fun a _ _ _ _ _ _ => (zu_ne (by omega)).trans (zu_ne (by omega))) (fun j hj => zu_kn hj) rfl hi ⟨0, by omega, rfl, rfl, fun r hr => absurd hr (by omega)⟩
  cases hv : vix i (wP W)
  · exact op_z (v := zI (-1)) hi (ro_rt (g_X8_see ⟨fun q => absurd q e, fun _ => ⟨M, _, (c8_isP q1).1 hv, fun _ => ⟨rfl, rfl⟩, z00⟩⟩)) (ro_rt (g_X9_see ⟨fun q => absurd q e, fun _ => ⟨M, _, (c9_isP q2 q3).1 hv, fun _ => ⟨rfl, rfl⟩, z00⟩⟩))
  cases hu : vix k (wN W)
  · exact op_z (v := zI (-1)) hi (ro_rt (g_X8_see ⟨fun q => absurd q e, fun _ => ⟨M, _, (c8_isP q1).2 hv, z10, fun _ => ⟨M, _, (c8_isS q1).1 hu, fun _ => ⟨rfl, rfl⟩, z00⟩⟩⟩)) (ro_rt (g_X9_see ⟨fun q => absurd q e, fun _ => ⟨M, _, (c9_isP q2 q3).2 hv, z10, fun _ => ⟨M, _, (c9_isS q2 q3).1 hu, fun _ => ⟨rfl, rfl⟩, z00⟩⟩⟩))
  have b2 := q3.2.1
  have b3 := q3.2.2.1
  obtain ⟨a, ha, ea⟩ := vix_t (by omega) hv
  obtain ⟨s, hs, es⟩ := vix_t (by omega) hu
  by_cases p : n < 8
  case neg =>
    refine op_z (v := zI (-4)) hi (ro_rt (g_X8_see ⟨fun q => absurd q e, fun _ => ⟨M, _, (c8_isP q1).2 hv, z10, fun _ => ⟨M, _, (c8_isS q1).2 hu, z10, fun _ => ⟨M, 0, ro_rt (g_X5_add (o := 37) ?_), fun _ => ⟨rfl, rfl⟩, z00⟩⟩⟩⟩)) (ro_rt (g_X9_see ⟨fun q => absurd q e, fun _ => ⟨M, _, (c9_isP q2 q3).2 hv, z10, fun _ => ⟨M, _, (c9_isS q2 q3).2 hu, z10, fun _ => ?_⟩⟩⟩))
    · refine ⟨fun q => absurd (by rw [← show M.1 38 0 = nI n from t1]; exact q) (fun r => p ((nI_ltI (b := 8) (by omega) (by omega)).mp r)), fun _ => ⟨rfl, rfl⟩⟩
    · rw [t2]
      exact ⟨fun _ => ⟨rfl, rfl⟩, fun q => absurd (congrArg nI (by omega : n = 8)) q⟩
  have zp : zn (nI n) = n := zn_nI (by omega)
  have c5 : Rt 59 43 [zR 5 38, zI i, zI k] M (zu (zu (zu M.1 39 n i) 40 n k) 38 0 (nI (n + 1)), M.2) (some (zI 1)) := by
    refine ro_rt (g_X5_add (o := 37) ?_)
    have w1 : M.1 (37 + 1) 0 = nI n := t1
    have w2 : ∀ v, zu M.1 (37 + 2) n v (37 + 1) 0 = nI n := fun v => t1
    have w3 : ∀ v w, zu (zu M.1 (37 + 2) n v) (37 + 3) n w (37 + 1) 0 = nI n := fun v w => t1
    rw [w1, zp, w2, zp, w3, nI_1]
    exact ⟨fun _ => ⟨in_n p (by omega), in_n p (by omega), rfl, rfl⟩, fun q => absurd (nI_lt (b := 8) p (by omega)) q⟩
  have y2 : (zu (zu (zu M.1 39 n i) 40 n k) 38 0 (nI (n + 1))) 64 37 = nI n := t2
  have wm : WM (zu (zu (zu M.1 39 n i) 40 n k) 38 0 (nI (n + 1)), M.2) W := WM_eq (fun a _ _ => (zu_ne (by omega)).trans ((zu_ne (by omega)).trans (zu_ne (by omega)))) q2
  refine ⟨(zu (zu (zu M.1 39 n i) 40 n k) 38 0 (nI (n + 1)), M.2), (zu (zu (zu (zu (zu (zu M.1 39 n i) 40 n k) 38 0 (nI (n + 1))) 90 n i) 91 n k) 64 37 (nI (n + 1)), M.2), zI (nI (n + 1)), W, h, ro_rt (g_X8_see ⟨fun q => absurd q e, fun _ => ⟨M, _, (c8_isP q1).2 hv, z10, fun _ => ⟨M, _, (c8_isS q1).2 hu, z10, fun _ => ⟨_, _, c5, z10, fun _ => ⟨rfl, rfl⟩⟩⟩⟩⟩), ro_rt (g_X9_see ⟨fun q => absurd q e, fun _ => ⟨_, _, (c9_isP wm q3).2 hv, z10, fun _ => ⟨_, _, (c9_isS wm q3).2 hu, z10, fun _ => ?_⟩⟩⟩), ?_, q6.1⟩
  · dsimp only
    rw [y2, nI_1, zp]
    exact ⟨fun q => absurd ((nI_eq (b := 8) (by omega) (by omega)).mp q) (by omega), fun _ => ⟨in_n p (by omega), in_n p (by omega), rfl, rfl⟩⟩
  · refine Iv_s (M := M) (fun a _ _ _ _ _ _ => (zu_ne (by omega)).trans ((zu_ne (by omega)).trans ((zu_ne (by omega)).trans ((zu_ne (by omega)).trans ((zu_ne (by omega)).trans (zu_ne (by omega))))))) (fun j hj => zu_kn hj) rfl hi ⟨n + 1, p, rfl, rfl, fun r hr => ?_⟩
    by_cases hrn : r = n
    · refine ⟨a, s, by omega, by omega, ?_, ?_, ?_, ?_⟩
      · rw [hrn, ← ea]; exact zu_kk
      · rw [hrn, ← ea]; exact zu_kk
      · rw [hrn, ← es]; exact zu_kk
      · rw [hrn, ← es]; exact zu_kk
    · obtain ⟨p, s, h1, h2, h3, h4, h5, h6⟩ := t3 r (by omega)
      exact ⟨p, s, h1, h2, (zu_kn hrn).trans h3, (zu_kn hrn).trans h4, (zu_kn hrn).trans h5, (zu_kn hrn).trans h6⟩
theorem op_book (i : Int32) : Op 113 211 [zI i] := fun M W h hi => by
  obtain ⟨q1, q2, q3, q4, q5, q6, q7, ⟨nS, q8⟩, ⟨n, hn, t1, t2, t3⟩, ⟨nT, q10⟩, q11, q12, q13⟩ := id hi
  by_cases e : i = -1
  · refine ⟨(zu M.1 44 0 0, M.2), (zu (zu M.1 44 0 0) 64 41 0, M.2), zI 0, W, h, ro_rt (g_X8_book ⟨fun _ => ⟨rfl, rfl⟩, fun q => absurd e q⟩), ro_rt (g_X9_book ⟨fun _ => ⟨rfl, rfl⟩, fun q => absurd e q⟩), ?_, q6.1⟩
    exact Iv_b (M := M) (fun a _ _ _ _ => (zu_ne (by omega)).trans (zu_ne (by omega))) (fun j hj => zu_kn hj) rfl hi ⟨0, by omega, rfl, rfl, fun r hr => absurd hr (by omega)⟩
  by_cases e0 : i < 0
  · exact op_z (v := zI (-1)) hi (ro_rt (g_X8_book ⟨fun q => absurd q e, fun _ => ⟨fun _ => ⟨rfl, rfl⟩, fun q => absurd e0 q⟩⟩)) (ro_rt (g_X9_book ⟨fun q => absurd q e, fun _ => ⟨fun _ => ⟨rfl, rfl⟩, fun q => absurd e0 q⟩⟩))
  obtain ⟨t, ht, et⟩ := nI_of e0
  have e10 : i / 10 = nI (t / 10) := by rw [et, l_10, pk_div (by omega) (by omega) (by omega)]
  have er : zrem i 10 = nI (t % 10) := by rw [et, l_10, zrem_nI (by omega) (by omega) (by omega)]
  cases hv : vix (i / 10) (wM W)
  · exact op_z (v := zI (-1)) hi (ro_rt (g_X8_book ⟨fun q => absurd q e, fun _ => ⟨fun q => absurd q e0, fun _ => ⟨M, _, (c8_isM q1).1 hv, fun _ => ⟨rfl, rfl⟩, z00⟩⟩⟩)) (ro_rt (g_X9_book ⟨fun q => absurd q e, fun _ => ⟨fun q => absurd q e0, fun _ => ⟨M, _, (c9_isM q2 q3).1 hv, fun _ => ⟨rfl, rfl⟩, z00⟩⟩⟩))
  by_cases c : (2 : Int32) < zrem i 10
  · exact op_z (v := zI (-1)) hi (ro_rt (g_X8_book ⟨fun q => absurd q e, fun _ => ⟨fun q => absurd q e0, fun _ => ⟨M, _, (c8_isM q1).2 hv, z10, fun _ => ⟨fun _ => ⟨rfl, rfl⟩, fun q => absurd c q⟩⟩⟩⟩)) (ro_rt (g_X9_book ⟨fun q => absurd q e, fun _ => ⟨fun q => absurd q e0, fun _ => ⟨M, _, (c9_isM q2 q3).2 hv, z10, fun _ => ⟨fun _ => ⟨rfl, rfl⟩, fun q => absurd c q⟩⟩⟩⟩))
  have b4 := q3.2.2.2.1
  obtain ⟨a, ha, ea⟩ := vix_t (by omega) hv
  have ta : t / 10 = a := (nI_eq (by omega) (by omega)).mp (e10.symm.trans ea)
  have tr : t % 10 < 3 := by
    refine Nat.lt_of_not_le (fun q => c ?_)
    rw [er]
    exact nI_lt (a := 2) q (by omega)
  by_cases p : n < 12
  case neg =>
    refine op_z (v := zI (-4)) hi (ro_rt (g_X8_book ⟨fun q => absurd q e, fun _ => ⟨fun q => absurd q e0, fun _ => ⟨M, _, (c8_isM q1).2 hv, z10, fun _ => ⟨fun q => absurd q c, fun _ => ⟨M, 0, ro_rt (g_X2_add (o := 43) ?_), fun _ => ⟨rfl, rfl⟩, z00⟩⟩⟩⟩⟩)) (ro_rt (g_X9_book ⟨fun q => absurd q e, fun _ => ⟨fun q => absurd q e0, fun _ => ⟨M, _, (c9_isM q2 q3).2 hv, z10, fun _ => ⟨fun q => absurd q c, fun _ => ?_⟩⟩⟩⟩))
    · refine ⟨fun q => absurd (by rw [← show M.1 44 0 = nI n from t1]; exact q) (fun r => p ((nI_ltI (b := 12) (by omega) (by omega)).mp r)), fun _ => ⟨rfl, rfl⟩⟩
    · rw [t2]
      exact ⟨fun _ => ⟨rfl, rfl⟩, fun q => absurd (congrArg nI (by omega : n = 12)) q⟩
  have zp : zn (nI n) = n := zn_nI (by omega)
  have c5 : Rt 59 16 [zR 2 44, zI i] M (zu (zu M.1 44 0 (nI (n + 1))) 45 n i, M.2) (some (zI 1)) := by
    refine ro_rt (g_X2_add (o := 43) ?_)
    have w1 : M.1 (43 + 1) 0 = nI n := t1
    rw [w1, zp, nI_1]
    exact ⟨fun _ => ⟨in_n p (by omega), rfl, rfl⟩, fun q => absurd (nI_lt (b := 12) p (by omega)) q⟩
  have y2 : (zu (zu M.1 44 0 (nI (n + 1))) 45 n i) 64 41 = nI n := t2
  have wm : WM (zu (zu M.1 44 0 (nI (n + 1))) 45 n i, M.2) W := WM_eq (fun a _ _ => (zu_ne (by omega)).trans (zu_ne (by omega))) q2
  refine ⟨(zu (zu M.1 44 0 (nI (n + 1))) 45 n i, M.2), (zu (zu (zu (zu M.1 44 0 (nI (n + 1))) 45 n i) 93 n i) 64 41 (nI (n + 1)), M.2), zI (nI (n + 1)), W, h, ro_rt (g_X8_book ⟨fun q => absurd q e, fun _ => ⟨fun q => absurd q e0, fun _ => ⟨M, _, (c8_isM q1).2 hv, z10, fun _ => ⟨fun q => absurd q c, fun _ => ⟨_, _, c5, z10, fun _ => ⟨rfl, rfl⟩⟩⟩⟩⟩⟩), ro_rt (g_X9_book ⟨fun q => absurd q e, fun _ => ⟨fun q => absurd q e0, fun _ => ⟨_, _, (c9_isM wm q3).2 hv, z10, fun _ => ⟨fun q => absurd q c, fun _ => ?_⟩⟩⟩⟩), ?_, q6.1⟩
  · dsimp only
    rw [y2, nI_1, zp]
    exact ⟨fun q => absurd ((nI_eq (b := 12) (by omega) (by omega)).mp q) (by omega), fun _ => ⟨in_n p (by omega), rfl, rfl⟩⟩
  · refine Iv_b (M := M) (fun a _ _ _ _ => (zu_ne (by omega)).trans ((zu_ne (by omega)).trans ((zu_ne (by omega)).trans (zu_ne (by omega))))) (fun j hj => zu_kn hj) rfl hi ⟨n + 1, p, rfl, rfl, fun r hr => ?_⟩
    by_cases hrn : r = n
    · refine ⟨t, by omega, tr, ?_, ?_⟩
      · rw [hrn, ← et]; exact zu_kk
      · rw [hrn, ← et]; exact zu_kk
    · obtain ⟨c, h1, h2, h3, h4⟩ := t3 r (by omega)
      exact ⟨c, h1, h2, (zu_kn hrn).trans h3, (zu_kn hrn).trans h4⟩
theorem op_of (i k : Int32) : Op 83 146 [zI i, zI k] := fun M W h hi => by
  obtain ⟨q1, q2, q3, q4⟩ := id hi
  cases hv : vix i (wP W)
  · exact op_z (v := zI (-1)) hi (ro_rt (g_X8_of ⟨M, _, (c8_isP q1).1 hv, fun _ => ⟨rfl, rfl⟩, z00⟩)) (ro_rt (g_X9_of ⟨M, _, (c9_isP q2 q3).1 hv, fun _ => ⟨rfl, rfl⟩, z00⟩))
  have b2 := q3.2.1
  have b3 := q3.2.2.1
  obtain ⟨a, ha, ea⟩ := vix_t (by omega) hv
  have za : zn i = a := by rw [ea]; exact zn_nI (by omega)
  have ia : ¬ (i < 0 ∨ 7 ≤ zn i) := by rw [za, ea]; exact in_n (by omega) (by omega)
  have x6 : M.1 6 (zn i) = wK W a := by rw [za]; exact q1.2.2.2.2.2.2.2.1 a (by omega)
  have y6 : M.1 68 (zn i) = wK W a := by rw [za]; exact q2.2.2.2.2.2.2.2.1 a (by omega)
  have x7 : M.1 7 (zn i) = nI (wU W a) := by rw [za]; exact q1.2.2.2.2.2.2.2.2.1 a (by omega)
  have y7 : M.1 69 (zn i) = nI (wU W a) := by rw [za]; exact q2.2.2.2.2.2.2.2.2.1 a (by omega)
  by_cases k0 : k = 0
  · exact op_z (v := zI (wK W a)) hi (ro_rt (g_X8_of ⟨M, _, (c8_isP q1).2 hv, z10, fun _ => ⟨fun _ => ⟨ia, rfl, by rw [x6]⟩, fun q => absurd k0 q⟩⟩)) (ro_rt (g_X9_of ⟨M, _, (c9_isP q2 q3).2 hv, z10, fun _ => ⟨fun _ => ⟨ia, rfl, by rw [y6]⟩, fun q => absurd k0 q⟩⟩))
  by_cases k1 : k = 1
  · exact op_z (v := zI (nI (wU W a))) hi (ro_rt (g_X8_of ⟨M, _, (c8_isP q1).2 hv, z10, fun _ => ⟨fun q => absurd q k0, fun _ => ⟨fun _ => ⟨ia, rfl, by rw [x7]⟩, fun q => absurd k1 q⟩⟩⟩)) (ro_rt (g_X9_of ⟨M, _, (c9_isP q2 q3).2 hv, z10, fun _ => ⟨fun q => absurd q k0, fun _ => ⟨fun _ => ⟨ia, rfl, by rw [y7]⟩, fun q => absurd k1 q⟩⟩⟩))
  by_cases k2 : k = 2
  · have c8 := c7_seatOf (d := 58) q1 q3 (by omega : a < 7)
    have c9 := c9_seatOf (d := 58) q2 q3 (by omega : a < 7)
    rw [← ea] at c8 c9
    exact op_z (v := zI (nI (sSeat W a))) hi (ro_rt (g_X8_of ⟨M, _, (c8_isP q1).2 hv, z10, fun _ => ⟨fun q => absurd q k0, fun _ => ⟨fun q => absurd q k1, fun _ => ⟨fun _ => ⟨M, _, c8, rfl, rfl⟩, fun q => absurd k2 q⟩⟩⟩⟩)) (ro_rt (g_X9_of ⟨M, _, (c9_isP q2 q3).2 hv, z10, fun _ => ⟨fun q => absurd q k0, fun _ => ⟨fun q => absurd q k1, fun _ => ⟨fun _ => ⟨M, _, c9, rfl, rfl⟩, fun q => absurd k2 q⟩⟩⟩⟩))
  exact op_z (v := zI (-1)) hi (ro_rt (g_X8_of ⟨M, _, (c8_isP q1).2 hv, z10, fun _ => ⟨fun q => absurd q k0, fun _ => ⟨fun q => absurd q k1, fun _ => ⟨fun q => absurd q k2, fun _ => ⟨rfl, rfl⟩⟩⟩⟩⟩)) (ro_rt (g_X9_of ⟨M, _, (c9_isP q2 q3).2 hv, z10, fun _ => ⟨fun q => absurd q k0, fun _ => ⟨fun q => absurd q k1, fun _ => ⟨fun q => absurd q k2, fun _ => ⟨rfl, rfl⟩⟩⟩⟩⟩))
theorem op_who (i : Int32) : Op 84 147 [zI i] := fun M W h hi => by
  obtain ⟨q1, q2, q3, q4⟩ := id hi
  cases hv : vix i (wN W)
  · exact op_z (v := zI (-1)) hi (ro_rt (g_X8_who ⟨M, _, (c8_isS q1).1 hv, fun _ => ⟨rfl, rfl⟩, z00⟩)) (ro_rt (g_X9_who ⟨M, _, (c9_isS q2 q3).1 hv, fun _ => ⟨rfl, rfl⟩, z00⟩))
  have b2 := q3.2.1
  have b3 := q3.2.2.1
  obtain ⟨a, ha, ea⟩ := vix_t (by omega) hv
  have c8 := c7_sitter (d := 57) q1 q3 (by omega : a < 7)
  have c9 := c9_whoIn (d := 57) q2 q3 (by omega : a < 7)
  rw [← ea] at c8 c9
  refine op_z (v := zI (zoi (-5) (sSit W a))) hi (ro_rt (g_X8_who ⟨M, _, (c8_isS q1).2 hv, z10, fun _ => ⟨M, _, c8, rfl, rfl⟩⟩)) (ro_rt (g_X9_who ⟨M, _, (c9_isS q2 q3).2 hv, z10, fun _ => ⟨M, _, c9, ?_⟩⟩))
  cases hs : sSit W a with
  | none => exact ⟨fun _ => ⟨rfl, rfl⟩, fun q => absurd (by decide) q⟩
  | some b =>
    have hb := lfnd_lt hs
    exact ⟨fun q => absurd q (nI_pos (n := b) (by omega)), fun _ => ⟨rfl, rfl⟩⟩
theorem op_at (i k : Int32) : Op 86 149 [zI i, zI k] := fun M W h hi => by
  obtain ⟨q1, q2, q3, q4⟩ := id hi
  have V := hi.2.2.2.2.2.2.2.2.2.2.2.2.2
  cases hv : vix i (wM W)
  · exact op_z (v := zI (-1)) hi (ro_rt (g_X8_at ⟨M, _, (c8_isM q1).1 hv, fun _ => ⟨rfl, rfl⟩, z00⟩)) (ro_rt (g_X9_at ⟨M, _, (c9_isM q2 q3).1 hv, fun _ => ⟨rfl, rfl⟩, z00⟩))
  have b4 := q3.2.2.2.1
  obtain ⟨a, ha, ea⟩ := vix_t (by omega) hv
  have za : zn i = a := by rw [ea]; exact zn_nI (by omega)
  have ia : ¬ (i < 0 ∨ 6 ≤ zn i) := by rw [za, ea]; exact in_n (by omega) (by omega)
  obtain ⟨-, -, -, -, -, -, -, -, -, x10, x11, x12, x13, -⟩ := id q1
  obtain ⟨-, -, -, -, -, -, -, -, -, y10, y11, y12, y13, -⟩ := id q2
  replace x10 : M.1 8 (zn i) = wA W a := by rw [za]; exact x10 a (by omega)
  replace x11 : M.1 9 (zn i) = nI (wW W a) := by rw [za]; exact x11 a (by omega)
  replace x12 : M.1 10 (zn i) = wY W a := by rw [za]; exact x12 a (by omega)
  replace x13 : M.1 11 (zn i) = zb (wC W a) := by rw [za]; exact x13 a (by omega)
  replace y10 : M.1 70 (zn i) = wA W a := by rw [za]; exact y10 a (by omega)
  replace y11 : M.1 71 (zn i) = nI (wW W a) := by rw [za]; exact y11 a (by omega)
  replace y12 : M.1 72 (zn i) = wY W a := by rw [za]; exact y12 a (by omega)
  replace y13 : M.1 73 (zn i) = zb (wC W a) := by rw [za]; exact y13 a (by omega)
  by_cases k0 : k = 0
  · exact op_z (v := zI (wA W a)) hi (ro_rt (g_X8_at ⟨M, _, (c8_isM q1).2 hv, z10, fun _ => ⟨fun _ => ⟨ia, rfl, by rw [x10]⟩, fun q => absurd k0 q⟩⟩)) (ro_rt (g_X9_at ⟨M, _, (c9_isM q2 q3).2 hv, z10, fun _ => ⟨fun _ => ⟨ia, rfl, by rw [y10]⟩, fun q => absurd k0 q⟩⟩))
  by_cases k1 : k = 1
  · exact op_z (v := zI (nI (wW W a))) hi (ro_rt (g_X8_at ⟨M, _, (c8_isM q1).2 hv, z10, fun _ => ⟨fun q => absurd q k0, fun _ => ⟨fun _ => ⟨ia, rfl, by rw [x11]⟩, fun q => absurd k1 q⟩⟩⟩)) (ro_rt (g_X9_at ⟨M, _, (c9_isM q2 q3).2 hv, z10, fun _ => ⟨fun q => absurd q k0, fun _ => ⟨fun _ => ⟨ia, rfl, by rw [y11]⟩, fun q => absurd k1 q⟩⟩⟩))
  by_cases k2 : k = 2
  · rcases V.2.2 a with y | ⟨c, hc, y⟩
    · exact op_z (v := zI (-5)) hi (ro_rt (g_X8_at ⟨M, _, (c8_isM q1).2 hv, z10, fun _ => ⟨fun q => absurd q k0, fun _ => ⟨fun q => absurd q k1, fun _ => ⟨fun _ => ⟨ia, by rw [x12, y]; exact ⟨fun _ => ⟨rfl, rfl⟩, fun q => absurd rfl q⟩⟩, fun q => absurd k2 q⟩⟩⟩⟩)) (ro_rt (g_X9_at ⟨M, _, (c9_isM q2 q3).2 hv, z10, fun _ => ⟨fun q => absurd q k0, fun _ => ⟨fun q => absurd q k1, fun _ => ⟨fun _ => ⟨ia, by rw [y12, y]; exact ⟨fun _ => ⟨rfl, rfl⟩, fun q => absurd (by decide) q⟩⟩, fun q => absurd k2 q⟩⟩⟩⟩))
    · refine op_z (v := zI (nI c)) hi (ro_rt (g_X8_at ⟨M, _, (c8_isM q1).2 hv, z10, fun _ => ⟨fun q => absurd q k0, fun _ => ⟨fun q => absurd q k1, fun _ => ⟨fun _ => ⟨ia, ?_⟩, fun q => absurd k2 q⟩⟩⟩⟩)) (ro_rt (g_X9_at ⟨M, _, (c9_isM q2 q3).2 hv, z10, fun _ => ⟨fun q => absurd q k0, fun _ => ⟨fun q => absurd q k1, fun _ => ⟨fun _ => ⟨ia, ?_⟩, fun q => absurd k2 q⟩⟩⟩⟩))
      · rw [x12, y, nI_m1 (by omega)]
        exact ⟨fun q => q.elim, fun _ => ⟨ia, rfl, rfl⟩⟩
      · rw [y12, y]
        exact ⟨fun q => absurd q (nI_pos (n := c) (by omega)), fun _ => ⟨ia, rfl, rfl⟩⟩
  by_cases k3 : k = 3
  · refine op_z (v := zI (zb (wC W a))) hi (ro_rt (g_X8_at ⟨M, _, (c8_isM q1).2 hv, z10, fun _ => ⟨fun q => absurd q k0, fun _ => ⟨fun q => absurd q k1, fun _ => ⟨fun q => absurd q k2, fun _ => ⟨fun _ => ⟨ia, rfl, by rw [x13]⟩, fun q => absurd k3 q⟩⟩⟩⟩⟩)) (ro_rt (g_X9_at ⟨M, _, (c9_isM q2 q3).2 hv, z10, fun _ => ⟨fun q => absurd q k0, fun _ => ⟨fun q => absurd q k1, fun _ => ⟨fun q => absurd q k2, fun _ => ⟨fun _ => ⟨ia, ?_⟩, fun q => absurd k3 q⟩⟩⟩⟩⟩))
    rw [y13]
    cases wC W a
    · exact ⟨fun _ => ⟨rfl, rfl⟩, fun q => absurd rfl q⟩
    · exact ⟨z10, fun _ => ⟨rfl, rfl⟩⟩
  exact op_z (v := zI (-1)) hi (ro_rt (g_X8_at ⟨M, _, (c8_isM q1).2 hv, z10, fun _ => ⟨fun q => absurd q k0, fun _ => ⟨fun q => absurd q k1, fun _ => ⟨fun q => absurd q k2, fun _ => ⟨fun q => absurd q k3, fun _ => ⟨rfl, rfl⟩⟩⟩⟩⟩⟩)) (ro_rt (g_X9_at ⟨M, _, (c9_isM q2 q3).2 hv, z10, fun _ => ⟨fun q => absurd q k0, fun _ => ⟨fun q => absurd q k1, fun _ => ⟨fun q => absurd q k2, fun _ => ⟨fun q => absurd q k3, fun _ => ⟨rfl, rfl⟩⟩⟩⟩⟩⟩))
theorem op_trace (i : Int32) : Op 119 226 [zI i] := fun M W h hi => by
  obtain ⟨n, hn, t1, t2, t3⟩ := hi.2.2.2.2.2.2.2.2.2.2.2.1
  by_cases c : ¬ i < 0 ∧ ¬ (19 : Int32) < i
  case neg =>
    refine op_z (v := zI (-1)) hi (ro_rt (g_X8_trace ⟨fun _ => ⟨rfl, rfl⟩, fun q => ⟨fun _ => ⟨fun r => ?_, fun _ => ⟨rfl, rfl⟩⟩, fun _ => ⟨rfl, rfl⟩⟩⟩)) (ro_rt (g_X9_trace ⟨M, _, in_0 c, fun _ => ⟨rfl, rfl⟩, z00⟩))
    refine absurd ⟨q, fun r2 => ?_⟩ c
    have h19 : (19 : Int32).toInt = 19 := by decide
    have h20 : (Int32.ofNat 20).toInt = 20 := by decide
    rw [Int32.lt_iff_toInt_lt] at r r2
    omega
  obtain ⟨a, _, ha, ea⟩ := rng (lo := 0) (hi := 19) (by omega) (by omega) c
  have za : zn i = a := by rw [ea]; exact zn_nI (by omega)
  have ia : ¬ (i < 0 ∨ 20 ≤ zn i) := by rw [za, ea]; exact in_n (by omega) (by omega)
  have i20 : i < Int32.ofNat 20 := by rw [ea]; exact nI_lt (b := 20) (by omega) (by omega)
  by_cases p : i < nI n
  · have hp : a < n := by rw [ea] at p; exact (nI_ltI (by omega) (by omega)).mp p
    refine op_z (v := zI (M.1 55 a)) hi (ro_rt (g_X8_trace ⟨fun q => absurd q c.1, fun _ => ?_⟩)) (ro_rt (g_X9_trace ⟨M, _, in_1 c, z10, fun _ => ?_⟩))
    · rw [t1, za]
      rw [za] at ia
      exact ⟨fun _ => ⟨fun _ => ⟨ia, rfl, rfl⟩, fun q => absurd i20 q⟩, fun q => absurd p q⟩
    · rw [t2, za]
      rw [za] at ia
      exact ⟨fun _ => ⟨ia, rfl, by rw [t3 a hp (by omega)]⟩, fun q => absurd p q⟩
  · refine op_z (v := zI (-1)) hi (ro_rt (g_X8_trace ⟨fun q => absurd q c.1, fun _ => ?_⟩)) (ro_rt (g_X9_trace ⟨M, _, in_1 c, z10, fun _ => ?_⟩))
    · rw [t1]
      exact ⟨fun q => absurd q p, fun _ => ⟨rfl, rfl⟩⟩
    · rw [t2]
      exact ⟨fun q => absurd q p, fun _ => ⟨rfl, rfl⟩⟩
theorem op_count (i : Int32) : Op 122 228 [zI i] := fun M W h hi => by
  obtain ⟨q1, q2, q3, q4, q5, q6, q7, ⟨nS, q8⟩, ⟨nB, q9⟩, ⟨nT, q10⟩, q11, ⟨nA, q12⟩, q13⟩ := id hi
  have h0 : M.1 64 1 = M.1 2 4 := q2.2.1.trans (Eq.symm q1.2.1)
  have h1 : M.1 64 2 = M.1 2 7 := q2.2.2.1.trans (Eq.symm q1.2.2.1)
  have h2 : M.1 64 13 = M.1 1 12 := q6.2.2.1.trans q6.2.1.symm
  have h3 : M.1 64 37 = M.1 38 0 := q8.2.2.1.trans q8.2.1.symm
  have h4 : M.1 64 41 = M.1 44 0 := q9.2.2.1.trans q9.2.1.symm
  have h5 : M.1 64 15 = M.1 48 0 := q10.2.2.1.trans q10.2.1.symm
  have h6 : M.1 64 64 = M.1 54 0 := q12.2.2.1.trans q12.2.1.symm
  have k : ∀ v : Int32, (if i = 0 then M.1 2 4 else if i = 1 then M.1 2 7 else if i = 2 then M.1 1 12 else if i = 3 then M.1 38 0 else if i = 4 then M.1 44 0 else if i = 5 then M.1 48 0 else if i = 6 then M.1 54 0 else -2) = v → Rt 60 122 [zR 8 1, zI i] M M (some (zI v)) ∧ Rt 60 228 [zR 9 64, zI i] M M (some (zI v)) := fun v hv => by
    refine ⟨ro_rt (g_X8_count ?_), ro_rt (g_X9_count ?_)⟩
    · refine ⟨fun a => ⟨rfl, ?_⟩, fun a => ⟨fun b => ⟨rfl, ?_⟩, fun b => ⟨fun c => ⟨rfl, ?_⟩, fun c => ⟨fun d => ⟨rfl, ?_⟩, fun d => ⟨fun e => ⟨rfl, ?_⟩, fun e => ⟨fun f => ⟨rfl, ?_⟩, fun f => ⟨fun g => ⟨rfl, ?_⟩, fun g => ⟨rfl, ?_⟩⟩⟩⟩⟩⟩⟩⟩
      · rw [← hv, if_pos a]
      · rw [← hv, if_neg a, if_pos b]
      · rw [← hv, if_neg a, if_neg b, if_pos c]
      · rw [← hv, if_neg a, if_neg b, if_neg c, if_pos d]
      · rw [← hv, if_neg a, if_neg b, if_neg c, if_neg d, if_pos e]
      · rw [← hv, if_neg a, if_neg b, if_neg c, if_neg d, if_neg e, if_pos f]
      · rw [← hv, if_neg a, if_neg b, if_neg c, if_neg d, if_neg e, if_neg f, if_pos g]
      · rw [← hv, if_neg a, if_neg b, if_neg c, if_neg d, if_neg e, if_neg f, if_neg g]
    · rw [h0, h1, h2, h3, h4, h5, h6]
      refine ⟨fun a => ⟨rfl, ?_⟩, fun a => ⟨fun b => ⟨rfl, ?_⟩, fun b => ⟨fun c => ⟨rfl, ?_⟩, fun c => ⟨fun d => ⟨rfl, ?_⟩, fun d => ⟨fun e => ⟨rfl, ?_⟩, fun e => ⟨fun f => ⟨rfl, ?_⟩, fun f => ⟨fun g => ⟨rfl, ?_⟩, fun g => ⟨rfl, ?_⟩⟩⟩⟩⟩⟩⟩⟩
      · rw [← hv, if_pos a]
      · rw [← hv, if_neg a, if_pos b]
      · rw [← hv, if_neg a, if_neg b, if_pos c]
      · rw [← hv, if_neg a, if_neg b, if_neg c, if_pos d]
      · rw [← hv, if_neg a, if_neg b, if_neg c, if_neg d, if_pos e]
      · rw [← hv, if_neg a, if_neg b, if_neg c, if_neg d, if_neg e, if_pos f]
      · rw [← hv, if_neg a, if_neg b, if_neg c, if_neg d, if_neg e, if_neg f, if_pos g]
      · rw [← hv, if_neg a, if_neg b, if_neg c, if_neg d, if_neg e, if_neg f, if_neg g]
  obtain ⟨a, b⟩ := k _ rfl
  exact op_z hi a b
