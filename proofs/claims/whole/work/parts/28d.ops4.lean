/-! The calls: meet, wheels, bestSeat -/
section O4
variable {d : Nat} {M : ZM} {W : Wv}
def sMeet (W : Wv) (a b s t k : Nat) : Bool := decide (sSeat (wTu W (wT W + k)) a = s) && decide (sSeat (wTu W (wT W + k)) b = t)
theorem sSeat_k (W : Wv) (a k : Nat) : (sSeat W a + k) % wN W = sSeat (wTu W (wT W + k)) a := by
  show ((a + wT W) % wN W + k) % wN W = (a + (wT W + k)) % wN W
  rw [Nat.mod_add_mod, Nat.add_assoc]
theorem l8_meet {M0 : ZM} {h : Nat} (hi : Iv M0 W h) {a b s t : Nat} (ha : a < 7) (hb : b < 7) (hs : s < 7) (ht : t < 7) : ∀ (j k u : Nat) (M : ZM), k + j = wN W → Gq M0 M → WX M 25 (wTu W u) → A_X8_meet_50 59 M (nI a) (nI b) (nI s) (nI t) (nI k) (fun M' v => v = some (zI (zoi (-5) (lfnd (sMeet W a b s t) j k))) ∧ Gq M0 M') := by
  have B := hi.2.2.1
  have T := hi.2.2.2.1
  have b1 := B.1
  have b2 := B.2.1
  intro j
  induction j with
  | zero =>
    intro k u M hk g wA
    have hi1 := Iv_q g hi
    refine a_X8_meet_50 ?_
    rw [show M.1 2 0 = nI (wN W) from hi1.1.1]
    exact ⟨fun q => absurd q (nI_nlt (by omega) (by omega)), fun _ => ⟨rfl, g⟩⟩
  | succ j ih =>
    intro k u M hk g wA
    have hi1 := Iv_q g hi
    refine a_X8_meet_50 ?_
    rw [show M.1 2 0 = nI (wN W) from hi1.1.1, show M.1 2 12 = nI (wT W) from hi1.1.2.2.2.1, nI_add]
    refine ⟨fun _ => ?_, fun q => absurd (nI_lt (by omega) (by omega)) q⟩
    have w1 : WX (zu M.1 26 12 (nI (wT W + k)), M.2) 25 (wTu W (wT W + k)) := WX_turn (W := wTu W u) (t := wT W + k) (by omega) wA
    have hB := wTu_B B (by omega : wT W + k ≤ 100000)
    have g1 : Gq M (zu M.1 26 12 (nI (wT W + k)), M.2) := ⟨fun a q => zu_ne (by unfold qa at q; omega), rfl, fun _ _ _ => rfl, rfl⟩
    have la := sSeat_lt hB a
    have lb := sSeat_lt hB b
    refine ⟨_, _, c7_seatOf (d := 58) w1 hB ha, ?_⟩
    rw [nI_eqe (by omega) (by omega), nI_1]
    refine ⟨fun q => ⟨_, _, c7_seatOf (d := 58) w1 hB hb, ?_⟩, fun q => ?_⟩
    · rw [nI_eqe (by omega) (by omega)]
      refine ⟨fun r => ⟨?_, g.trans g1⟩, fun r => ?_⟩
      · rw [lfnd_p (by unfold sMeet; rw [decide_eq_true q, decide_eq_true r]; rfl)]
        rfl
      · rw [lfnd_n (by unfold sMeet; rw [decide_eq_false r, Bool.and_false])]
        exact ih (k + 1) (wT W + k) _ (by omega) (g.trans g1) w1
    · rw [lfnd_n (by unfold sMeet; rw [decide_eq_false q, Bool.false_and])]
      exact ih (k + 1) (wT W + k) _ (by omega) (g.trans g1) w1
theorem l9_meet (hW : WM M W) (B : WBd W) {a b s t : Nat} (ha : a < 7) (hb : b < 7) (hs : s < 7) (ht : t < 7) : ∀ (j k : Nat), k + j = wN W → A_X9_meet_46 59 M (nI a) (nI b) (nI s) (nI t) (nI k) (fun M' v => M' = M ∧ v = some (zI (zoi (-5) (lfnd (sMeet W a b s t) j k)))) := by
  have b1 := B.1
  have b2 := B.2.1
  have la := sSeat_lt B a
  have lb := sSeat_lt B b
  intro j
  induction j with
  | zero =>
    intro k hk
    refine a_X9_meet_46 ?_
    rw [hW.1]
    exact ⟨fun q => absurd q (nI_nlt (by omega) (by omega)), fun _ => ⟨rfl, rfl⟩⟩
  | succ j ih =>
    intro k hk
    refine a_X9_meet_46 ?_
    rw [hW.1]
    have n0 := nI_ne0 (n := wN W) (by omega) (by omega)
    refine ⟨fun _ => ⟨_, _, c9_seatOf (d := 58) hW B ha, by rw [hW.1]; exact n0, ?_⟩, fun q => absurd (nI_lt (by omega) (by omega)) q⟩
    have m1 := Nat.mod_lt (sSeat W a + k) (by omega : 0 < wN W)
    have m2 := Nat.mod_lt (sSeat W b + k) (by omega : 0 < wN W)
    rw [hW.1, nI_add, zrem_nI (by omega) (by omega) (by omega), nI_eqe (by omega) (by omega), nI_1]
    refine ⟨fun q => ⟨_, _, c9_seatOf (d := 58) hW B hb, by rw [hW.1]; exact n0, ?_⟩, fun q => ?_⟩
    · rw [hW.1, nI_add, zrem_nI (by omega) (by omega) (by omega), nI_eqe (by omega) (by omega)]
      rw [sSeat_k] at q
      refine ⟨fun r => ?_, fun r => ?_⟩
      · rw [sSeat_k] at r
        rw [lfnd_p (by unfold sMeet; rw [decide_eq_true q, decide_eq_true r]; rfl)]
        exact ⟨rfl, rfl⟩
      · rw [sSeat_k] at r
        rw [lfnd_n (by unfold sMeet; rw [decide_eq_false r, Bool.and_false])]
        exact ih (k + 1) (by omega)
    · rw [sSeat_k] at q
      rw [lfnd_n (by unfold sMeet; rw [decide_eq_false q, Bool.false_and])]
      exact ih (k + 1) (by omega)
theorem op_meet (i1 i2 i3 i4 : Int32) : Op 104 200 [zI i1, zI i2, zI i3, zI i4] := op_q fun M W h hi => by
  have X := hi.1
  have Mo := hi.2.1
  have B := hi.2.2.1
  have T := hi.2.2.2.1
  have b2 := B.2.1
  have b3 := B.2.2.1
  cases h1 : vix i1 (wP W)
  · exact ⟨M, M, _, ro_rt (g_X8_meet ⟨M, _, (c8_isP X).1 h1, fun _ => ⟨rfl, rfl⟩, z00⟩), ro_rt (g_X9_meet ⟨M, _, (c9_isP Mo B).1 h1, fun _ => ⟨rfl, rfl⟩, z00⟩), Gq.rfl⟩
  cases h2 : vix i2 (wP W)
  · exact ⟨M, M, _, ro_rt (g_X8_meet ⟨M, _, (c8_isP X).2 h1, z10, fun _ => ⟨M, _, (c8_isP X).1 h2, fun _ => ⟨rfl, rfl⟩, z00⟩⟩), ro_rt (g_X9_meet ⟨M, _, (c9_isP Mo B).2 h1, z10, fun _ => ⟨M, _, (c9_isP Mo B).1 h2, fun _ => ⟨rfl, rfl⟩, z00⟩⟩), Gq.rfl⟩
  cases h3 : vix i3 (wN W)
  · exact ⟨M, M, _, ro_rt (g_X8_meet ⟨M, _, (c8_isP X).2 h1, z10, fun _ => ⟨M, _, (c8_isP X).2 h2, z10, fun _ => ⟨M, _, (c8_isS X).1 h3, fun _ => ⟨rfl, rfl⟩, z00⟩⟩⟩), ro_rt (g_X9_meet ⟨M, _, (c9_isP Mo B).2 h1, z10, fun _ => ⟨M, _, (c9_isP Mo B).2 h2, z10, fun _ => ⟨M, _, (c9_isS Mo B).1 h3, fun _ => ⟨rfl, rfl⟩, z00⟩⟩⟩), Gq.rfl⟩
  cases h4 : vix i4 (wN W)
  · exact ⟨M, M, _, ro_rt (g_X8_meet ⟨M, _, (c8_isP X).2 h1, z10, fun _ => ⟨M, _, (c8_isP X).2 h2, z10, fun _ => ⟨M, _, (c8_isS X).2 h3, z10, fun _ => ⟨M, _, (c8_isS X).1 h4, fun _ => ⟨rfl, rfl⟩, z00⟩⟩⟩⟩), ro_rt (g_X9_meet ⟨M, _, (c9_isP Mo B).2 h1, z10, fun _ => ⟨M, _, (c9_isP Mo B).2 h2, z10, fun _ => ⟨M, _, (c9_isS Mo B).2 h3, z10, fun _ => ⟨M, _, (c9_isS Mo B).1 h4, fun _ => ⟨rfl, rfl⟩, z00⟩⟩⟩⟩), Gq.rfl⟩
  by_cases h5 : i1 = i2
  · exact ⟨M, M, _, ro_rt (g_X8_meet ⟨M, _, (c8_isP X).2 h1, z10, fun _ => ⟨M, _, (c8_isP X).2 h2, z10, fun _ => ⟨M, _, (c8_isS X).2 h3, z10, fun _ => ⟨M, _, (c8_isS X).2 h4, z10, fun _ => ⟨fun _ => ⟨rfl, rfl⟩, fun q => absurd h5 q⟩⟩⟩⟩⟩), ro_rt (g_X9_meet ⟨M, _, (c9_isP Mo B).2 h1, z10, fun _ => ⟨M, _, (c9_isP Mo B).2 h2, z10, fun _ => ⟨M, _, (c9_isS Mo B).2 h3, z10, fun _ => ⟨M, _, (c9_isS Mo B).2 h4, z10, fun _ => ⟨fun _ => ⟨rfl, rfl⟩, fun q => absurd h5 q⟩⟩⟩⟩⟩), Gq.rfl⟩
  obtain ⟨a, ha, ea⟩ := vix_t (by omega) h1
  obtain ⟨b, hb, eb⟩ := vix_t (by omega) h2
  obtain ⟨s, hs, es⟩ := vix_t (by omega) h3
  obtain ⟨t, ht, et⟩ := vix_t (by omega) h4
  obtain ⟨M0, h0, w0, g0⟩ := c8_ask (d := 57) X
  obtain ⟨M1, r1, g1⟩ := ro_rv (g_X8_meet (i1 := i1) (i2 := i2) (i3 := i3) (i4 := i4) ⟨M, _, (c8_isP X).2 h1, z10, fun _ => ⟨M, _, (c8_isP X).2 h2, z10, fun _ => ⟨M, _, (c8_isS X).2 h3, z10, fun _ => ⟨M, _, (c8_isS X).2 h4, z10, fun _ => ⟨fun q => absurd q h5, fun _ => ⟨M0, h0, by rw [ea, eb, es, et]; exact l8_meet hi (by omega) (by omega) (by omega) (by omega) (wN W) 0 (wT W) M0 (by omega) g0 w0⟩⟩⟩⟩⟩⟩)
  have hi1 := Iv_q g1 hi
  have r2 : Rt 60 200 [zR 9 64, zI i1, zI i2, zI i3, zI i4] M1 M1 (some (zI (zoi (-5) (lfnd (sMeet W a b s t) (wN W) 0)))) := ro_rt (g_X9_meet ⟨M1, _, (c9_isP hi1.2.1 B).2 h1, z10, fun _ => ⟨M1, _, (c9_isP hi1.2.1 B).2 h2, z10, fun _ => ⟨M1, _, (c9_isS hi1.2.1 B).2 h3, z10, fun _ => ⟨M1, _, (c9_isS hi1.2.1 B).2 h4, z10, fun _ => ⟨fun q => absurd q h5, fun _ => by rw [ea, eb, es, et]; exact l9_meet hi1.2.1 B (by omega) (by omega) (by omega) (by omega) (wN W) 0 (by omega)⟩⟩⟩⟩⟩)
  exact ⟨M1, M1, _, r1, r2, g1⟩
def sWh (a b x y r : Nat) : Bool := decide ((r * a + x) % b = y)
def sWo (a x : Nat) : Option Nat → Int32
  | none => -5
  | some r => nI (r * a + x)
theorem rax {r a x b : Nat} (ha : a ≤ 99) (hb : b ≤ 99) (hx : x < a) (hr : r < b) : r * a + x < a * b ∧ a * b ≤ 9801 ∧ r * a ≤ 9801 := by
  have h1 : (r + 1) * a ≤ b * a := Nat.mul_le_mul_right a hr
  have h2 : a * b ≤ 99 * 99 := Nat.mul_le_mul ha hb
  rw [Nat.succ_mul] at h1
  rw [Nat.mul_comm a b] at h2 ⊢
  omega
theorem l8_wheels {a b x y : Nat} (ha : a ≤ 99) (hb0 : 0 < b) (hb : b ≤ 99) (hx : x < a) (hy : y < b) : ∀ (j k : Nat) (u : ZV), k + j = b → A_X8_wheels_51 59 M (nI a) (nI b) (nI x) (nI y) (nI k) u (fun M' v => M' = M ∧ v = some (zI (sWo a x (lfnd (sWh a b x y) j k)))) := by
  intro j
  induction j with
  | zero =>
    intro k u hk
    exact a_X8_wheels_51 ⟨fun q => absurd q (nI_nlt (by omega) (by omega)), fun _ => ⟨rfl, rfl⟩⟩
  | succ j ih =>
    intro k u hk
    have r := rax ha hb hx (by omega : k < b)
    have m := Nat.mod_lt (k * a + x) hb0
    refine a_X8_wheels_51 ?_
    rw [pk_mul, nI_add, zrem_nI (by omega) (by omega) (by omega), nI_eqe (by omega) (by omega), nI_1]
    refine ⟨fun _ => ⟨nI_ne0 (by omega) (by omega), fun q => ⟨rfl, ?_⟩, fun q => ?_⟩, fun q => absurd (nI_lt (by omega) (by omega)) q⟩
    · rw [lfnd_p (decide_eq_true q)]; rfl
    · rw [lfnd_n (decide_eq_false q)]
      exact ih (k + 1) _ (by omega)
theorem l9_wheels {a b x y : Nat} (ha : a ≤ 99) (hb0 : 0 < b) (hb : b ≤ 99) (hx : x < a) (hy : y < b) : ∀ (j k : Nat), k + j = b → A_X9_wheels_53 59 M (nI a) (nI b) (nI x) (nI y) (nI (k * a + x)) (fun M' v => M' = M ∧ v = some (zI (sWo a x (lfnd (sWh a b x y) j k)))) := by
  have h2 : a * b ≤ 99 * 99 := Nat.mul_le_mul ha hb
  intro j
  induction j with
  | zero =>
    intro k hk
    have e : k = b := by omega
    subst e
    refine a_X9_wheels_53 ?_
    rw [pk_mul, Nat.mul_comm a k]
    rw [Nat.mul_comm] at h2
    exact ⟨fun q => absurd q (nI_nlt (by omega) (by omega)), fun _ => ⟨rfl, rfl⟩⟩
  | succ j ih =>
    intro k hk
    have r := rax ha hb hx (by omega : k < b)
    have m := Nat.mod_lt (k * a + x) hb0
    refine a_X9_wheels_53 ?_
    rw [pk_mul, zrem_nI (by omega) (by omega) (by omega), nI_eqe (by omega) (by omega), nI_add]
    refine ⟨fun _ => ⟨nI_ne0 (by omega) (by omega), fun q => ⟨rfl, ?_⟩, fun q => ?_⟩, fun q => absurd (nI_lt (by omega) (by omega)) q⟩
    · rw [lfnd_p (decide_eq_true q)]; rfl
    · rw [lfnd_n (decide_eq_false q)]
      have := ih (k + 1) (by omega)
      have e : (k + 1) * a + x = k * a + x + a := by rw [Nat.succ_mul]; omega
      rw [e] at this
      exact this
theorem v299 {i : Int32} (h : ¬ i < 2 ∧ ¬ (99 : Int32) < i) : ∃ a, 2 ≤ a ∧ a ≤ 99 ∧ i = nI a := by
  have e0 : (0 : Int32).toInt = 0 := by decide
  have e2 : (2 : Int32).toInt = 2 := by decide
  have h0 : ¬ i < 0 := fun q => h.1 (Int32.lt_iff_toInt_lt.mpr (by rw [Int32.lt_iff_toInt_lt] at q; omega))
  obtain ⟨j, hj, e⟩ := nI_of h0
  rw [e] at h
  exact ⟨j, Nat.le_of_not_lt (fun q => h.1 (nI_lt (b := 2) q (by omega))), Nat.le_of_not_lt (fun q => h.2 (nI_lt (a := 99) q hj)), e⟩
theorem op_wheels (i1 i2 i3 i4 : Int32) : Op 105 201 [zI i1, zI i2, zI i3, zI i4] := op_q fun M W h hi => by
  by_cases h1 : ¬ i1 < 2 ∧ ¬ (99 : Int32) < i1
  case neg => exact ⟨M, M, zI (-2), ro_rt (g_X8_wheels ⟨fun _ => ⟨rfl, rfl⟩, fun q => ⟨fun _ => ⟨rfl, rfl⟩, fun r => absurd ⟨q, r⟩ h1⟩⟩), ro_rt (g_X9_wheels ⟨M, _, c9_in, fun _ => ⟨rfl, rfl⟩, fun q => absurd (by rw [decide_eq_false h1]; rfl) q⟩), Gq.rfl⟩
  by_cases h2 : ¬ i2 < 2 ∧ ¬ (99 : Int32) < i2
  case neg => exact ⟨M, M, zI (-2), ro_rt (g_X8_wheels ⟨fun q => absurd q h1.1, fun _ => ⟨fun q => absurd q h1.2, fun _ => ⟨fun _ => ⟨rfl, rfl⟩, fun q => ⟨fun _ => ⟨rfl, rfl⟩, fun r => absurd ⟨q, r⟩ h2⟩⟩⟩⟩), ro_rt (g_X9_wheels ⟨M, _, c9_in, fun q => absurd q (by rw [decide_eq_true h1]; decide), fun _ => ⟨M, _, c9_in, fun _ => ⟨rfl, rfl⟩, fun q => absurd (by rw [decide_eq_false h2]; rfl) q⟩⟩), Gq.rfl⟩
  obtain ⟨a, ha2, ha, ea⟩ := v299 h1
  obtain ⟨b, hb2, hb, eb⟩ := v299 h2
  have in3 : Rt 59 136 [zR 9 64, zI i3, zI 0, zI (i1 - 1)] M M (some (zI (zb (vix i3 a)))) := by rw [ea]; exact c9_inN (by omega)
  have in4 : Rt 59 136 [zR 9 64, zI i4, zI 0, zI (i2 - 1)] M M (some (zI (zb (vix i4 b)))) := by rw [eb]; exact c9_inN (by omega)
  cases h3 : vix i3 a
  · rw [h3] at in3
    have h3' := fun q => vix_f h3 q
    rw [← ea] at h3'
    exact ⟨M, M, zI (-2), ro_rt (g_X8_wheels ⟨fun q => absurd q h1.1, fun _ => ⟨fun q => absurd q h1.2, fun _ => ⟨fun q => absurd q h2.1, fun q => ⟨fun q => absurd q h2.2, fun _ => ⟨fun _ => ⟨rfl, rfl⟩, fun q => ⟨fun r => absurd r (h3' q), fun _ => ⟨rfl, rfl⟩⟩⟩⟩⟩⟩⟩), ro_rt (g_X9_wheels ⟨M, _, c9_in, fun q => absurd q (by rw [decide_eq_true h1]; decide), fun _ => ⟨M, _, c9_in, fun q => absurd q (by rw [decide_eq_true h2]; decide), fun _ => ⟨M, _, in3, fun _ => ⟨rfl, rfl⟩, z00⟩⟩⟩), Gq.rfl⟩
  rw [h3] at in3
  have h3' := of_decide_eq_true h3
  rw [← ea] at h3'
  cases h4 : vix i4 b
  · rw [h4] at in4
    have h4' := fun q => vix_f h4 q
    rw [← eb] at h4'
    exact ⟨M, M, zI (-2), ro_rt (g_X8_wheels ⟨fun q => absurd q h1.1, fun _ => ⟨fun q => absurd q h1.2, fun _ => ⟨fun q => absurd q h2.1, fun q => ⟨fun q => absurd q h2.2, fun _ => ⟨fun q => absurd q h3'.1, fun _ => ⟨fun _ => ⟨fun _ => ⟨rfl, rfl⟩, fun q => ⟨fun r => absurd r (h4' q), fun _ => ⟨rfl, rfl⟩⟩⟩, fun q => absurd h3'.2 q⟩⟩⟩⟩⟩⟩), ro_rt (g_X9_wheels ⟨M, _, c9_in, fun q => absurd q (by rw [decide_eq_true h1]; decide), fun _ => ⟨M, _, c9_in, fun q => absurd q (by rw [decide_eq_true h2]; decide), fun _ => ⟨M, _, in3, z10, fun _ => ⟨M, _, in4, fun _ => ⟨rfl, rfl⟩, z00⟩⟩⟩⟩), Gq.rfl⟩
  rw [h4] at in4
  have h4' := of_decide_eq_true h4
  rw [← eb] at h4'
  obtain ⟨x, hx, ex⟩ := vix_t (by omega) h3
  obtain ⟨y, hy, ey⟩ := vix_t (by omega) h4
  have k8 := l8_wheels (M := M) ha (by omega) hb hx hy b 0 zU (by omega)
  have k9 := l9_wheels (M := M) ha (by omega) hb hx hy b 0 (by omega)
  rw [Nat.zero_mul, Nat.zero_add] at k9
  rw [← ea, ← eb, ← ex, ← ey] at k8 k9
  exact ⟨M, M, _, ro_rt (g_X8_wheels ⟨fun q => absurd q h1.1, fun _ => ⟨fun q => absurd q h1.2, fun _ => ⟨fun q => absurd q h2.1, fun q => ⟨fun q => absurd q h2.2, fun _ => ⟨fun q => absurd q h3'.1, fun _ => ⟨fun _ => ⟨fun q => absurd q h4'.1, fun _ => ⟨fun _ => k8, fun q => absurd h4'.2 q⟩⟩, fun q => absurd h3'.2 q⟩⟩⟩⟩⟩⟩), ro_rt (g_X9_wheels ⟨M, _, c9_in, fun q => absurd q (by rw [decide_eq_true h1]; decide), fun _ => ⟨M, _, c9_in, fun q => absurd q (by rw [decide_eq_true h2]; decide), fun _ => ⟨M, _, in3, z10, fun _ => ⟨M, _, in4, z10, fun _ => k9⟩⟩⟩⟩), Gq.rfl⟩
end O4
