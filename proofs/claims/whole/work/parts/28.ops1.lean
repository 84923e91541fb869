/-! The calls, one by one: like, says, would, soon, hold, decides -/
theorem z10 {P : Prop} (q : (1 : Int32) = 0) : P := absurd q (by decide)
theorem z00 {P : Prop} (q : ¬ (0 : Int32) = 0) : P := absurd rfl q
theorem op_q {x m : Nat} {as : List ZV} (H : ∀ M W h, Iv M W h → ∃ M1 M2 v, Rt 60 x (zR 8 1 :: as) M M1 (some v) ∧ Rt 60 m (zR 9 64 :: as) M1 M2 (some v) ∧ Gq M M2) : Op x m as := fun M W h hi => by
  obtain ⟨M1, M2, v, a, b, g⟩ := H M W h hi
  exact ⟨M1, M2, v, W, h, a, b, Iv_q g hi, hi.2.2.2.2.2.1.1⟩
theorem op_like (i j : Int32) : Op 91 179 [zI i, zI j] := op_q fun M W h hi => by
  have X := hi.1
  have Mo := hi.2.1
  have B := hi.2.2.1
  cases hv : vix i (wP W)
  · exact ⟨M, M, _, ro_rt (g_X8_like ⟨M, _, (c8_isP X).1 hv, fun _ => ⟨rfl, rfl⟩, z00⟩), ro_rt (g_X9_like ⟨M, _, (c9_isP Mo B).1 hv, fun _ => ⟨rfl, rfl⟩, z00⟩), Gq.rfl⟩
  cases hu : vix j (wM W)
  · exact ⟨M, M, _, ro_rt (g_X8_like ⟨M, _, (c8_isP X).2 hv, z10, fun _ => ⟨M, _, (c8_isM X).1 hu, fun _ => ⟨rfl, rfl⟩, z00⟩⟩), ro_rt (g_X9_like ⟨M, _, (c9_isP Mo B).2 hv, z10, fun _ => ⟨M, _, (c9_isM Mo B).1 hu, fun _ => ⟨rfl, rfl⟩, z00⟩⟩), Gq.rfl⟩
  have b2 := B.2.1
  have b3 := B.2.2.1
  obtain ⟨a, ha, ea⟩ := vix_t (by omega) hv
  obtain ⟨m, hm, em⟩ := vix_t (by have := B.2.2.2.1; omega) hu
  obtain ⟨M1, h1, f1⟩ := c7_liking (d := 56) (o := 1) (m := m) (by omega) X B (by omega : a < 7)
  have g1 := f1.x.q1
  obtain ⟨M2, h2, f2⟩ := c9_like (d := 55) (m := m) (WM_q g1 Mo) B (by omega : a < 7)
  have hi1 := Iv_q g1 hi
  rw [← ea, ← em] at h1 h2
  exact ⟨M1, M2, _, ro_rt (g_X8_like ⟨M, _, (c8_isP X).2 hv, z10, fun _ => ⟨M, _, (c8_isM X).2 hu, z10, fun _ => ⟨M1, _, h1, rfl, rfl⟩⟩⟩), ro_rt (g_X9_like ⟨M1, _, (c9_isP hi1.2.1 B).2 hv, z10, fun _ => ⟨M1, _, (c9_isM hi1.2.1 B).2 hu, z10, fun _ => ⟨M2, _, h2, rfl, rfl⟩⟩⟩), g1.trans f2.q⟩
theorem op_says (i j : Int32) : Op 92 180 [zI i, zI j] := op_q fun M W h hi => by
  have X := hi.1
  have Mo := hi.2.1
  have B := hi.2.2.1
  cases hv : vix i (wP W)
  · exact ⟨M, M, _, ro_rt (g_X8_says ⟨M, _, (c8_isP X).1 hv, fun _ => ⟨rfl, rfl⟩, z00⟩), ro_rt (g_X9_says ⟨M, _, (c9_isP Mo B).1 hv, fun _ => ⟨rfl, rfl⟩, z00⟩), Gq.rfl⟩
  cases hu : vix j (wM W)
  · exact ⟨M, M, _, ro_rt (g_X8_says ⟨M, _, (c8_isP X).2 hv, z10, fun _ => ⟨M, _, (c8_isM X).1 hu, fun _ => ⟨rfl, rfl⟩, z00⟩⟩), ro_rt (g_X9_says ⟨M, _, (c9_isP Mo B).2 hv, z10, fun _ => ⟨M, _, (c9_isM Mo B).1 hu, fun _ => ⟨rfl, rfl⟩, z00⟩⟩), Gq.rfl⟩
  have b2 := B.2.1
  have b3 := B.2.2.1
  obtain ⟨a, ha, ea⟩ := vix_t (by omega) hv
  obtain ⟨m, hm, em⟩ := vix_t (by have := B.2.2.2.1; omega) hu
  obtain ⟨M1, h1, f1⟩ := c7_answer (d := 55) (o := 1) (m := m) (by omega) X B ha hm
  have g1 := f1.x.q1
  have hi1 := Iv_q g1 hi
  obtain ⟨M2, h2, f2⟩ := c9_says (d := 51) (m := m) hi1.2.1 B (by omega : a < 7) hm
  rw [← ea, ← em] at h1 h2
  exact ⟨M1, M2, _, ro_rt (g_X8_says ⟨M, _, (c8_isP X).2 hv, z10, fun _ => ⟨M, _, (c8_isM X).2 hu, z10, fun _ => ⟨M1, _, h1, rfl, rfl⟩⟩⟩), ro_rt (g_X9_says ⟨M1, _, (c9_isP hi1.2.1 B).2 hv, z10, fun _ => ⟨M1, _, (c9_isM hi1.2.1 B).2 hu, z10, fun _ => ⟨M2, _, h2, rfl, rfl⟩⟩⟩), g1.trans f2.q⟩
theorem vix60 {k : Int32} : (¬ k < 0 ∧ ¬ (60 : Int32) < k) → ∃ n, n ≤ 60 ∧ k = nI n := fun q => by
  obtain ⟨j, hj, e⟩ := nI_of q.1
  refine ⟨j, ?_, e⟩
  have := q.2
  rw [e] at this
  exact Nat.le_of_not_lt (fun h => this (nI_lt (a := 60) h hj))
theorem op_would (i k : Int32) : Op 95 188 [zI i, zI k] := op_q fun M W h hi => by
  have X := hi.1
  have Mo := hi.2.1
  have B := hi.2.2.1
  have T := hi.2.2.2.1
  cases hv : vix i (wM W)
  · exact ⟨M, M, _, ro_rt (g_X8_would ⟨M, _, (c8_isM X).1 hv, fun _ => ⟨rfl, rfl⟩, z00⟩), ro_rt (g_X9_would ⟨M, _, (c9_isM Mo B).1 hv, fun _ => ⟨rfl, rfl⟩, z00⟩), Gq.rfl⟩
  by_cases hk : ¬ k < 0 ∧ ¬ (60 : Int32) < k
  · obtain ⟨m, hm, em⟩ := vix_t (by have := B.2.2.2.1; omega) hv
    obtain ⟨n, hn, en⟩ := vix60 hk
    obtain ⟨M0, h0, w0, g0⟩ := c8_ask (d := 57) X
    obtain ⟨M1, h1, _, g1, _⟩ := c8_behind (d := 53) (k := n) (WX_q (Or.inl rfl) g0 X) w0 B hm (by omega)
    have g := g0.trans g1
    have hi1 := Iv_q g hi
    obtain ⟨M2, h2, g2⟩ := c9_would (d := 48) (k := n) hi1.2.1 B hm (by omega)
    rw [← en, ← em] at h1 h2
    exact ⟨M1, M2, _, ro_rt (g_X8_would ⟨M, _, (c8_isM X).2 hv, z10, fun _ => ⟨fun q => absurd q hk.1, fun _ => ⟨fun q => absurd q hk.2, fun _ => ⟨M0, h0, M1, _, h1, rfl, rfl⟩⟩⟩⟩), ro_rt (g_X9_would ⟨M1, _, (c9_isM hi1.2.1 B).2 hv, z10, fun _ => ⟨M1, _, c9_in, fun q => absurd q (by rw [decide_eq_true hk]; decide), fun _ => ⟨M2, _, h2, rfl, rfl⟩⟩⟩), g.trans g2⟩
  · refine ⟨M, M, zI (-2), ro_rt (g_X8_would ⟨M, _, (c8_isM X).2 hv, z10, fun _ => ⟨fun q => ⟨rfl, rfl⟩, fun q => ⟨fun _ => ⟨rfl, rfl⟩, fun q2 => absurd ⟨q, q2⟩ hk⟩⟩⟩), ro_rt (g_X9_would ⟨M, _, (c9_isM Mo B).2 hv, z10, fun _ => ⟨M, _, c9_in, fun _ => ⟨rfl, rfl⟩, fun q => absurd (by rw [decide_eq_false hk]; rfl) q⟩⟩), Gq.rfl⟩
/-- how it would go k turns from now -/
noncomputable def sWd (W : Wv) (m k : Nat) : Nat := sGo (wTu W (wT W + k)) m
theorem nI_1e {a : Nat} (ha : a < 2 ^ 31) : (nI a = 1) = (a = 1) := nI_eqe ha (by decide)
theorem l8_soon {M0 : ZM} {W : Wv} {h : Nat} (hi : Iv M0 W h) {m : Nat} (hm : m < wM W) : ∀ (j k t : Nat) (M : ZM), k + j = 61 → Gq M0 M → WX M 25 (wTu W t) → t ≤ 100000 → A_X8_soon_16 59 M (nI m) (nI k) (fun M' v => v = some (zI (zoi (-5) (lfnd (fun k => decide (sWd W m k = 1)) j k))) ∧ Gq M0 M') := by
  have B := hi.2.2.1
  have T := hi.2.2.2.1
  intro j
  induction j with
  | zero =>
    intro k t M hk g wA ht
    refine a_X8_soon_16 ?_
    have : (60 : Int32) < nI k := nI_lt (a := 60) (by omega) (by omega)
    exact ⟨fun _ => ⟨rfl, g⟩, fun q => absurd this q⟩
  | succ j ih =>
    intro k t M hk g wA ht
    have hi1 := Iv_q g hi
    have : ¬ (60 : Int32) < nI k := nI_nlt (b := k) (a := 60) (by omega) (by omega)
    refine a_X8_soon_16 ⟨fun q => absurd q this, fun _ => ?_⟩
    obtain ⟨M1, h1, w1, g1, _⟩ := c8_behind (d := 53) (k := k) hi1.1 wA (wTu_B B ht) (m := m) hm (by omega)
    refine ⟨M1, _, h1, ?_⟩
    have hl : sGo (wTu (wTu W t) (wT W + k)) m < 3 := sGoes_lt
    rw [nI_1e (by omega), nI_1]
    refine ⟨fun q => ⟨?_, g.trans g1⟩, fun q => ?_⟩
    · rw [lfnd_p (decide_eq_true q)]; rfl
    · rw [lfnd_n (decide_eq_false q)]
      exact ih (k + 1) (wT W + k) M1 (by omega) (g.trans g1) w1 (by omega)
theorem l9_soon {M0 : ZM} {W : Wv} {h : Nat} (hi : Iv M0 W h) {m : Nat} (hm : m < wM W) : ∀ (j k : Nat) (M : ZM), k + j = 61 → Gq M0 M → A_X9_soon_12 59 M (nI m) (nI k) (fun M' v => v = some (zI (zoi (-5) (lfnd (fun k => decide (sWd W m k = 1)) j k))) ∧ Gq M0 M') := by
  have B := hi.2.2.1
  have T := hi.2.2.2.1
  intro j
  induction j with
  | zero =>
    intro k M hk g
    refine a_X9_soon_12 ?_
    have : ¬ nI k < 61 := nI_nlt (b := 61) (by omega) (by omega)
    exact ⟨fun q => absurd q this, fun _ => ⟨rfl, g⟩⟩
  | succ j ih =>
    intro k M hk g
    have hi1 := Iv_q g hi
    have : nI k < 61 := nI_lt (b := 61) (by omega) (by omega)
    refine a_X9_soon_12 ⟨fun _ => ?_, fun q => absurd this q⟩
    obtain ⟨M1, h1, g1⟩ := c9_would (d := 48) (k := k) hi1.2.1 B (m := m) hm (by omega)
    refine ⟨M1, _, h1, ?_⟩
    have hl : sGo (wTu W (wT W + k)) m < 3 := sGoes_lt
    rw [nI_1e (by omega), nI_1]
    refine ⟨fun q => ⟨?_, g.trans g1⟩, fun q => ?_⟩
    · rw [lfnd_p (decide_eq_true q)]; rfl
    · rw [lfnd_n (decide_eq_false q)]
      exact ih (k + 1) M1 (by omega) (g.trans g1)
theorem op_soon (i : Int32) : Op 96 189 [zI i] := op_q fun M W h hi => by
  have X := hi.1
  have Mo := hi.2.1
  have B := hi.2.2.1
  have T := hi.2.2.2.1
  cases hv : vix i (wM W)
  · exact ⟨M, M, _, ro_rt (g_X8_soon ⟨M, _, (c8_isM X).1 hv, fun _ => ⟨rfl, rfl⟩, z00⟩), ro_rt (g_X9_soon ⟨M, _, (c9_isM Mo B).1 hv, fun _ => ⟨rfl, rfl⟩, z00⟩), Gq.rfl⟩
  obtain ⟨m, hm, em⟩ := vix_t (by have := B.2.2.2.1; omega) hv
  obtain ⟨M0, h0, w0, g0⟩ := c8_ask (d := 57) X
  obtain ⟨M1, h1, g1⟩ := ro_rv (g_X8_soon (i1 := i) ⟨M, _, (c8_isM X).2 hv, z10, fun _ => ⟨M0, h0, by rw [em]; exact l8_soon hi hm 61 0 (wT W) M0 (by omega) g0 w0 (by omega)⟩⟩)
  have hi1 := Iv_q g1 hi
  obtain ⟨M2, h2, g2⟩ := ro_rv (g_X9_soon (i1 := i) ⟨M1, _, (c9_isM hi1.2.1 B).2 hv, z10, fun _ => by rw [em]; exact l9_soon hi1 hm 61 0 M1 (by omega) Gq.rfl⟩)
  exact ⟨M1, M2, _, h1, h2, g1.trans g2⟩
