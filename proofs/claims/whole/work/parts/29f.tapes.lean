/-! The calls: tape, item, read, judge, shift -/
theorem lcm_z {i : Int32} : (lg_cmp i.toInt64 0 < 0) = (i < 0) := by
  rw [lg_cmp_lt, Int64.lt_iff_toInt_lt, Int32.lt_iff_toInt_lt, Int32.toInt_toInt64]
  rfl
theorem lcm_n {i : Int32} {l : Nat} (hl : l < 1000) : (lg_cmp i.toInt64 (nI l).toInt64 < 0) = (i < nI l) := by
  rw [lg_cmp_lt, Int64.lt_iff_toInt_lt, Int32.lt_iff_toInt_lt, Int32.toInt_toInt64, Int32.toInt_toInt64]
theorem vix_tt {i : Int32} {n : Nat} (h0 : ¬ i < 0) (h : i < nI n) : vix i n = true := decide_eq_true ⟨h0, h⟩
section TA
variable {d : Nat} {M : ZM}
theorem c6_is {i : Int32} : (vix i 6 = false → Rt (d + 1) 49 [zI i] M M (some (zI 0))) ∧ (vix i 6 = true → Rt (d + 1) 49 [zI i] M M (some (zI 1))) := by
  refine ⟨fun h => ro_rt (g_X6_isTape ?_), fun h => ro_rt (g_X6_isTape ?_)⟩
  · exact ⟨fun _ => ⟨rfl, rfl⟩, fun q => ⟨fun r => absurd r (vix_f h q), fun _ => ⟨rfl, rfl⟩⟩⟩
  · have h' := of_decide_eq_true h
    exact ⟨fun q => absurd q h'.1, fun q => ⟨fun r => ⟨rfl, rfl⟩, fun r => absurd h'.2 r⟩⟩
theorem c9_isT {i : Int32} : (vix i 6 = false → Rt (d + 2) 229 [zR 9 64, zI i] M M (some (zI 0))) ∧ (vix i 6 = true → Rt (d + 2) 229 [zR 9 64, zI i] M M (some (zI 1))) := by
  have h : Rt (d + 2) 229 [zR 9 64, zI i] M M (some (zI (zb (vix i 6)))) := ro_rt (g_X9_isTape ⟨M, _, c9_inN (n := 6) (by omega), zb_01 _, rfl, rfl⟩)
  exact ⟨fun q => by rw [q] at h; exact h, fun q => by rw [q] at h; exact h⟩
theorem c6_holds {t : Nat} (ht : t < 6) : (M.1 57 t = -1 → Rt (d + 1) 50 [zR 6 56, zI (nI t)] M M (some (zI 0))) ∧ (¬ M.1 57 t = -1 → Rt (d + 1) 50 [zR 6 56, zI (nI t)] M M (some (zI 1))) := by
  refine ⟨fun h => ro_rt (g_X6_holds ⟨in_nI ht (by omega), ?_⟩), fun h => ro_rt (g_X6_holds ⟨in_nI ht (by omega), ?_⟩)⟩
  · rw [zn_nI (by omega)]; exact ⟨fun _ => ⟨rfl, rfl⟩, fun q => absurd h q⟩
  · rw [zn_nI (by omega)]; exact ⟨fun q => absurd q h, fun _ => ⟨rfl, rfl⟩⟩
theorem c6_place {t l : Nat} (ht : t < 6) (hl : l ≤ 60) (h58 : M.1 58 t = nI l) {i : Int32} : (vix i l = false → Rt (d + 1) 51 [zR 6 56, zI (nI t), zL i.toInt64] M M (some (zI 0))) ∧ (vix i l = true → Rt (d + 1) 51 [zR 6 56, zI (nI t), zL i.toInt64] M M (some (zI 1))) := by
  refine ⟨fun h => ro_rt (g_X6_hasPlace ?_), fun h => ro_rt (g_X6_hasPlace ?_)⟩
  · rw [zn_nI (by omega), h58, lcm_z, lcm_n (by omega)]
    exact ⟨fun _ => ⟨rfl, rfl⟩, fun q => ⟨in_n ht (by omega), fun r => absurd r (vix_f h q), fun _ => ⟨rfl, rfl⟩⟩⟩
  · have h' := of_decide_eq_true h
    rw [zn_nI (by omega), h58, lcm_z, lcm_n (by omega)]
    exact ⟨fun q => absurd q h'.1, fun q => ⟨in_n ht (by omega), fun r => ⟨rfl, rfl⟩, fun r => absurd h'.2 r⟩⟩
theorem z60 (t i : Nat) : nI t * 60 + nI i = nI (60 * t + i) := by
  rw [l_60, pk_mul, nI_add, Nat.mul_comm]
theorem z60' (t i : Nat) : (60 : Int32) * nI t + nI i = nI (60 * t + i) := by
  rw [l_60, pk_mul, nI_add]
theorem c6_get {t i : Nat} (ht : t < 6) (hi : i < 60) : Rt (d + 1) 55 [zR 6 56, zI (nI t), zI (nI i)] M M (some (zL (M.2.1 59 (60 * t + i)))) := by
  refine ro_rt (g_X6_get ?_)
  rw [z60, zn_nI (by omega)]
  exact ⟨in_n (by omega) (by omega), rfl, rfl⟩
end TA
theorem s_neg {s : Nat} (hs : s < 5) : ¬ (nI s = -1) ∧ ¬ (nI s < 0) := ⟨fun q => by rw [nI_m1 (by omega)] at q; exact q, nI_pos (by omega)⟩
theorem op_read (i k : Int32) : Op 125 233 [zI i, zI k] := fun M W h hi => by
  obtain ⟨q1, q2, q3, q4, q5, q6, q7, q8, q9, q10, tp, q12⟩ := id hi
  cases hv : vix i 6
  · exact op_z (v := zL (-9223372036854775808)) hi (ro_rt (g_X8_read ⟨M, _, c6_is.1 hv, fun _ => ⟨rfl, rfl⟩, z00⟩)) (ro_rt (g_X9_read ⟨M, _, c9_isT.1 hv, fun _ => ⟨rfl, rfl⟩, z00⟩))
  obtain ⟨t, ht, et⟩ := vix_t (by omega) hv
  obtain ⟨l, hl, t58, t109, ts, tv⟩ := tp t ht
  have zt : zn i = t := by rw [et]; exact zn_nI (by omega)
  have it : ¬ (i < 0 ∨ 6 ≤ zn i) := by rw [zt, et]; exact in_n (by omega) (by omega)
  have it' : ¬ (i < 0 ∨ 6 ≤ t) := by rw [zt] at it; exact it
  have pl := c6_place (d := 58) (i := k) ht hl t58
  rw [← et] at pl
  have in9 : Rt 59 136 [zR 9 64, zI k, zI 0, zI (nI l - 1)] M M (some (zI (zb (vix k l)))) := c9_inN (by omega)
  rcases ts with ⟨s1, s2, s3⟩ | ⟨s, hs, s1, s2⟩
  · have hk : vix k l = false := by
      cases e : vix k l
      · rfl
      · obtain ⟨a, ha, _⟩ := vix_t (by omega) e
        omega
    refine op_z (v := zL (-9223372036854775808)) hi (ro_rt (g_X8_read ⟨M, _, c6_is.2 hv, z10, fun _ => ⟨M, _, pl.1 hk, fun _ => ⟨rfl, rfl⟩, z00⟩⟩)) (ro_rt (g_X9_read ⟨M, _, c9_isT.2 hv, z10, fun _ => ?_⟩))
    rw [zt, s2]
    exact ⟨it', fun _ => ⟨rfl, rfl⟩, fun q => absurd (by decide) q⟩
  · cases hk : vix k l
    · rw [hk] at in9
      refine op_z (v := zL (-9223372036854775808)) hi (ro_rt (g_X8_read ⟨M, _, c6_is.2 hv, z10, fun _ => ⟨M, _, pl.1 hk, fun _ => ⟨rfl, rfl⟩, z00⟩⟩)) (ro_rt (g_X9_read ⟨M, _, c9_isT.2 hv, z10, fun _ => ?_⟩))
      rw [zt, s2, t109]
      exact ⟨it', fun q => absurd q (s_neg hs).2, fun _ => ⟨it', M, _, in9, fun _ => ⟨rfl, rfl⟩, z00⟩⟩
    · obtain ⟨a, ha, ea⟩ := vix_t (by omega) hk
      rw [hk] at in9
      have g := c6_get (d := 58) (M := M) ht (by omega : a < 60)
      rw [← et, ← ea] at g
      refine op_z (v := zL (M.2.1 59 (60 * t + a))) hi (ro_rt (g_X8_read ⟨M, _, c6_is.2 hv, z10, fun _ => ⟨M, _, pl.2 hk, z10, fun _ => ⟨M, _, g, rfl, rfl⟩⟩⟩)) (ro_rt (g_X9_read ⟨M, _, c9_isT.2 hv, z10, fun _ => ?_⟩))
      have e60 : (60 : Int32) * i + k = nI (60 * t + a) := by rw [et, ea, z60']
      rw [zt, s2, t109, e60, zn_nI (by omega)]
      exact ⟨it', fun q => absurd q (s_neg hs).2, fun _ => ⟨it', M, _, in9, z10, fun _ => ⟨in_n (by omega) (by omega), rfl, by rw [tv a ha]⟩⟩⟩
/-- what a tape of a sort keeps of a number -/
theorem c6_cut {d : Nat} {M : ZM} {s : Nat} (hs : s < 5) {x : Int64} : ∃ y, (∀ M d, Rt (d + 1) 58 [zI (nI s), zL x] M M (some (zL y))) ∧ (∀ M d, Rt (d + 1) 231 [zR 9 64, zI (nI s), zL x] M M (some (zL y))) := by
  have e10 : ¬ (1 : Int32) = 0 := by decide
  have e20 : ¬ (2 : Int32) = 0 := by decide
  have e21 : ¬ (2 : Int32) = 1 := by decide
  have e30 : ¬ (3 : Int32) = 0 := by decide
  have e31 : ¬ (3 : Int32) = 1 := by decide
  have e32 : ¬ (3 : Int32) = 2 := by decide
  have e34 : ¬ (3 : Int32) = 4 := by decide
  have e40 : ¬ (4 : Int32) = 0 := by decide
  have e41 : ¬ (4 : Int32) = 1 := by decide
  have e42 : ¬ (4 : Int32) = 2 := by decide
  have e43 : ¬ (4 : Int32) = 3 := by decide
  match s, hs with
  | 0, _ => exact ⟨_, fun M d => ro_rt (g_X6_cut ⟨fun _ => ⟨rfl, rfl⟩, fun q => absurd rfl q⟩), fun M d => ro_rt (g_X9_narrow ⟨fun _ => ⟨rfl, rfl⟩, fun q => absurd rfl q⟩)⟩
  | 1, _ => exact ⟨_, fun M d => ro_rt (g_X6_cut ⟨fun q => absurd q e10, fun _ => ⟨fun _ => ⟨rfl, rfl⟩, fun q => absurd rfl q⟩⟩), fun M d => ro_rt (g_X9_narrow ⟨fun q => absurd q e10, fun _ => ⟨fun _ => ⟨rfl, rfl⟩, fun q => absurd rfl q⟩⟩)⟩
  | 2, _ => exact ⟨_, fun M d => ro_rt (g_X6_cut ⟨fun q => absurd q e20, fun _ => ⟨fun q => absurd q e21, fun _ => ⟨fun _ => ⟨rfl, rfl⟩, fun q => absurd rfl q⟩⟩⟩), fun M d => ro_rt (g_X9_narrow ⟨fun q => absurd q e20, fun _ => ⟨fun q => absurd q e21, fun _ => ⟨fun _ => ⟨rfl, rfl⟩, fun q => absurd rfl q⟩⟩⟩)⟩
  | 3, _ => exact ⟨_, fun M d => ro_rt (g_X6_cut ⟨fun q => absurd q e30, fun _ => ⟨fun q => absurd q e31, fun _ => ⟨fun q => absurd q e32, fun _ => ⟨fun _ => ⟨rfl, rfl⟩, fun q => absurd rfl q⟩⟩⟩⟩), fun M d => ro_rt (g_X9_narrow ⟨fun q => absurd q e30, fun _ => ⟨fun q => absurd q e31, fun _ => ⟨fun q => absurd q e32, fun _ => ⟨fun q => absurd q e34, fun _ => ⟨rfl, rfl⟩⟩⟩⟩⟩)⟩
  | 4, _ =>
    by_cases hx : lg_cmp x 0 = 0
    · exact ⟨_, fun M d => ro_rt (g_X6_cut ⟨fun q => absurd q e40, fun _ => ⟨fun q => absurd q e41, fun _ => ⟨fun q => absurd q e42, fun _ => ⟨fun q => absurd q e43, fun _ => ⟨fun _ => ⟨fun _ => ⟨rfl, rfl⟩, fun q => absurd hx q⟩, fun q => absurd rfl q⟩⟩⟩⟩⟩), fun M d => ro_rt (g_X9_narrow ⟨fun q => absurd q e40, fun _ => ⟨fun q => absurd q e41, fun _ => ⟨fun q => absurd q e42, fun _ => ⟨fun _ => ⟨fun _ => ⟨rfl, rfl⟩, fun q => absurd hx q⟩, fun q => absurd rfl q⟩⟩⟩⟩)⟩
    · exact ⟨_, fun M d => ro_rt (g_X6_cut ⟨fun q => absurd q e40, fun _ => ⟨fun q => absurd q e41, fun _ => ⟨fun q => absurd q e42, fun _ => ⟨fun q => absurd q e43, fun _ => ⟨fun _ => ⟨fun q => absurd q hx, fun _ => ⟨rfl, rfl⟩⟩, fun q => absurd rfl q⟩⟩⟩⟩⟩), fun M d => ro_rt (g_X9_narrow ⟨fun q => absurd q e40, fun _ => ⟨fun q => absurd q e41, fun _ => ⟨fun q => absurd q e42, fun _ => ⟨fun _ => ⟨fun q => absurd q hx, fun _ => ⟨rfl, rfl⟩⟩, fun q => absurd rfl q⟩⟩⟩⟩)⟩
theorem op_item (i k : Int32) (x : Int64) : Op 124 232 [zI i, zI k, zL x] := fun M W h hi => by
  obtain ⟨q1, q2, q3, q4, q5, q6, q7, q8, q9, q10, tp, q12⟩ := id hi
  cases hv : vix i 6
  · exact op_z (v := zI (-1)) hi (ro_rt (g_X8_item ⟨M, _, c6_is.1 hv, fun _ => ⟨rfl, rfl⟩, z00⟩)) (ro_rt (g_X9_item ⟨M, _, c9_isT.1 hv, fun _ => ⟨rfl, rfl⟩, z00⟩))
  obtain ⟨t, ht, et⟩ := vix_t (by omega) hv
  obtain ⟨l, hl, t58, t109, ts, tv⟩ := tp t ht
  have zt : zn i = t := by rw [et]; exact zn_nI (by omega)
  have it : ¬ (i < 0 ∨ 6 ≤ zn i) := by rw [zt, et]; exact in_n (by omega) (by omega)
  have it' : ¬ (i < 0 ∨ 6 ≤ t) := by rw [zt] at it; exact it
  have pl := c6_place (d := 58) (i := k) ht hl t58
  have ho := c6_holds (d := 58) (M := M) ht
  rw [← et] at pl ho
  rcases ts with ⟨s1, s2, s3⟩ | ⟨s, hs, s1, s2⟩
  · refine op_z (v := zI (-11)) hi (ro_rt (g_X8_item ⟨M, _, c6_is.2 hv, z10, fun _ => ⟨M, _, ho.1 s1, fun _ => ⟨rfl, rfl⟩, z00⟩⟩)) (ro_rt (g_X9_item ⟨M, _, c9_isT.2 hv, z10, fun _ => ?_⟩))
    rw [zt, s2]
    exact ⟨it', fun _ => ⟨rfl, rfl⟩, fun q => absurd (by decide) q⟩
  have s1' : ¬ M.1 57 t = -1 := by rw [s1]; exact (s_neg hs).1
  cases hk : vix k l
  · have in9 : Rt 59 136 [zR 9 64, zI k, zI 0, zI (nI l - 1)] M M (some (zI (zb (vix k l)))) := c9_inN (by omega)
    rw [hk] at in9
    refine op_z (v := zI (-13)) hi (ro_rt (g_X8_item ⟨M, _, c6_is.2 hv, z10, fun _ => ⟨M, _, ho.2 s1', z10, fun _ => ⟨M, _, pl.1 hk, fun _ => ⟨rfl, rfl⟩, z00⟩⟩⟩)) (ro_rt (g_X9_item ⟨M, _, c9_isT.2 hv, z10, fun _ => ?_⟩))
    rw [zt, s2, t109]
    exact ⟨it', fun q => absurd q (s_neg hs).2, fun _ => ⟨it', M, _, in9, fun _ => ⟨rfl, rfl⟩, z00⟩⟩
  obtain ⟨a, ha, ea⟩ := vix_t (by omega) hk
  obtain ⟨y, y8, y9⟩ := c6_cut (d := 0) (M := M) hs (x := x)
  have e60 : (60 : Int32) * i + k = nI (60 * t + a) := by rw [et, ea, z60']
  have e60' : i * 60 + k = nI (60 * t + a) := by rw [et, ea, z60]
  have c6 : Rt 59 56 [zR 6 56, zI i, zI k, zL x] M (M.1, zu M.2.1 59 (60 * t + a) y, M.2.2) none := by
    refine ro_rt (g_X6_set ⟨it, ?_⟩)
    rw [zt, s1]
    refine ⟨M, _, y8 M 57, ?_⟩
    rw [e60', zn_nI (by omega)]
    exact ⟨in_n (by omega) (by omega), rfl, rfl⟩
  have in9 : Rt 59 136 [zR 9 64, zI k, zI 0, zI (nI l - 1)] (M.1, zu M.2.1 59 (60 * t + a) y, M.2.2) (M.1, zu M.2.1 59 (60 * t + a) y, M.2.2) (some (zI (zb (vix k l)))) := c9_inN (by omega)
  rw [hk] at in9
  refine ⟨(M.1, zu M.2.1 59 (60 * t + a) y, M.2.2), (M.1, zu (zu M.2.1 59 (60 * t + a) y) 110 (60 * t + a) y, M.2.2), zI 1, W, h, ro_rt (g_X8_item ⟨M, _, c6_is.2 hv, z10, fun _ => ⟨M, _, ho.2 s1', z10, fun _ => ⟨M, _, pl.2 hk, z10, fun _ => ⟨_, c6, rfl, rfl⟩⟩⟩⟩), ro_rt (g_X9_item ⟨_, _, c9_isT.2 hv, z10, fun _ => ?_⟩), Iv_t (M := M) (fun a _ _ _ _ => rfl) rfl hi (fun t' ht' => ?_), q6.1⟩
  · show ¬ (i < 0 ∨ 6 ≤ zn i) ∧ ((M.1 108 (zn i) < 0 → _) ∧ (¬ M.1 108 (zn i) < 0 → _))
    refine ⟨it, fun q => absurd q (by rw [zt, s2]; exact (s_neg hs).2), fun _ => ⟨it, ?_⟩⟩
    refine ⟨_, _, by rw [zt, show (M.1, zu M.2.1 59 (60 * t + a) y, M.2.2).1 109 t = nI l from t109]; exact in9, z10, fun _ => ⟨it, ?_⟩⟩
    refine ⟨_, _, by rw [zt, show (M.1, zu M.2.1 59 (60 * t + a) y, M.2.2).1 108 t = nI s from s2]; exact y9 _ 58, ?_⟩
    rw [e60, zn_nI (by omega)]
    exact ⟨in_n (by omega) (by omega), rfl, rfl⟩
  · obtain ⟨l', h1, h2, h3, h4, h5⟩ := tp t' ht'
    refine ⟨l', h1, h2, h3, h4, fun j hj => ?_⟩
    show zu (zu M.2.1 59 (60 * t + a) y) 110 (60 * t + a) y 59 (60 * t' + j) = zu (zu M.2.1 59 (60 * t + a) y) 110 (60 * t + a) y 110 (60 * t' + j)
    rw [zu_ne (by omega : (59 : Nat) ≠ 110), zu_if, zu_if, zu_ne (by omega : (110 : Nat) ≠ 59)]
    split
    · rfl
    · exact h5 j hj
theorem op_judge (i k : Int32) : Op 115 214 [zI i, zI k] := fun M W h hi => by
  obtain ⟨q1, q2, q3, q4, q5, q6, q7, q8, q9, q10, tp, q12⟩ := id hi
  have b2 := q3.2.1
  have b3 := q3.2.2.1
  cases hv : vix i 6
  · exact op_z (v := zI (-1)) hi (ro_rt (g_X8_judge ⟨M, _, c6_is.1 hv, fun _ => ⟨rfl, rfl⟩, z00⟩)) (ro_rt (g_X9_judge ⟨M, _, c9_isT.1 hv, fun _ => ⟨rfl, rfl⟩, z00⟩))
  obtain ⟨t, ht, et⟩ := vix_t (by omega) hv
  obtain ⟨l, hl, t58, t109, ts, tv⟩ := tp t ht
  have zt : zn i = t := by rw [et]; exact zn_nI (by omega)
  have it : ¬ (i < 0 ∨ 6 ≤ zn i) := by rw [zt, et]; exact in_n (by omega) (by omega)
  have it' : ¬ (i < 0 ∨ 6 ≤ t) := by rw [zt] at it; exact it
  have ho := c6_holds (d := 58) (M := M) ht
  rw [← et] at ho
  have x4 : M.1 2 4 = nI (wP W) := q1.2.1
  have m1 : M.1 64 1 = nI (wP W) := q2.2.1
  -- both loops, at once
  have loop : ∀ j p, p + j = wP W → ∃ v, A_X8_judge_37 59 M i k (nI p) (fun M' v' => M' = M ∧ v' = some (zI v)) ∧ ((M.1 108 t < 0 → l = 0) → A_X9_judge_24 59 M i k (nI p) (fun M' v' => M' = M ∧ v' = some (zI v))) := by
    intro j
    induction j with
    | zero =>
      intro p hp
      refine ⟨-5, a_X8_judge_37 ?_, fun _ => a_X9_judge_24 ?_⟩
      · rw [x4]; exact ⟨fun q => absurd q (nI_nlt (by omega) (by omega)), fun _ => ⟨rfl, rfl⟩⟩
      · rw [m1]; exact ⟨fun q => absurd q (nI_nlt (by omega) (by omega)), fun _ => ⟨rfl, rfl⟩⟩
    | succ j ih =>
      intro p hp
      have pl : p < wP W := by omega
      by_cases k0 : k < 0
      · refine ⟨100 + nI p, a_X8_judge_37 ?_, fun _ => a_X9_judge_24 ?_⟩
        · rw [x4]; exact ⟨fun _ => ⟨fun _ => ⟨rfl, rfl⟩, fun q => absurd k0 q⟩, fun q => absurd (nI_lt pl (by omega)) q⟩
        · rw [m1]; exact ⟨fun _ => ⟨it, fun _ => ⟨rfl, rfl⟩, fun _ => ⟨fun _ => ⟨rfl, rfl⟩, fun q => absurd k0 q⟩⟩, fun q => absurd (nI_lt pl (by omega)) q⟩
      obtain ⟨a, ha, ea⟩ := nI_of k0
      have ap : k.toInt64 + (nI p).toInt64 = lN (a + p) := by rw [ea, nI_l ha, nI_l (by omega), lN_add]
      have c1 : (lg_cmp (lN (a + p)) 0 < 0) = False := eq_false (fun q => by
        rw [lg_cmp_lt] at q
        exact absurd ((pk_lLT (b := 0) (by omega) (by omega)).mp q) (by omega))
      have c2 : (lg_cmp (lN (a + p)) (nI l).toInt64 < 0) = (a + p < l) := by
        rw [lg_cmp_lt, nI_l (by omega)]
        exact propext (pk_lLT (by omega) (by omega))
      have pla : ∀ b, (a + p < l → b = 1) → (¬ a + p < l → b = 0) → Rt 59 51 [zR 6 56, zI i, zL (k.toInt64 + (nI p).toInt64)] M M (some (zI b)) := fun b h1 h0 => by
        refine ro_rt (g_X6_hasPlace ?_)
        rw [ap, zt, t58, c1, c2]
        exact ⟨fun q => q.elim, fun _ => ⟨it', fun q => ⟨rfl, by rw [h1 q]⟩, fun q => ⟨rfl, by rw [h0 q]⟩⟩⟩
      have c3 : (nI l - nI p - 1 < k) = ¬ (a + p < l) := by
        have e1 : (nI l - nI p).toInt = (l : Int) - p := pk_sub_toInt (by omega) (by omega)
        have h : (nI l - nI p - 1).toInt = (l : Int) - p - 1 := by
          rw [Int32.toInt_sub, e1]
          have e2 : (1 : Int32).toInt = 1 := by decide
          rw [e2]
          exact Int.bmod_eq_of_le (by omega) (by omega)
        rw [Int32.lt_iff_toInt_lt, h, ea, nI_toInt ha]
        exact propext (by omega)
      by_cases hl2 : a + p < l
      · have g := c6_get (d := 58) (M := M) ht (by omega : a + p < 60)
        have sk : k + nI p = nI (a + p) := by rw [ea, nI_add]
        rw [← et, ← sk] at g
        have e60 : (60 : Int32) * i + k + nI p = nI (60 * t + (a + p)) := by rw [et, ea, z60', nI_add, Nat.add_assoc]
        have st8 := c7_seatOf (d := 58) q1 q3 (by omega : p < 7)
        have st9 := c9_seatOf (d := 58) q2 q3 (by omega : p < 7)
        obtain ⟨v, v8, v9⟩ := ih (p + 1) (by omega)
        by_cases hc : lg_cmp (M.2.1 59 (60 * t + (a + p))) (nI (sSeat W p)).toInt64 = 0
        · refine ⟨v, a_X8_judge_37 ?_, fun hs => a_X9_judge_24 ?_⟩
          · rw [x4, nI_1]
            exact ⟨fun _ => ⟨fun q => absurd q k0, fun _ => ⟨M, _, pla 1 (fun _ => rfl) (fun q => absurd hl2 q), z10, fun _ => ⟨M, _, g, M, _, st8, fun _ => v8, fun q => absurd hc q⟩⟩⟩, fun q => absurd (nI_lt pl (by omega)) q⟩
          · rw [m1, nI_1, zt, t109, c3, e60, zn_nI (by omega)]
            exact ⟨fun _ => ⟨it', fun q => absurd (hs q) (by omega), fun _ => ⟨fun q => absurd q k0, fun _ => ⟨it', fun q => absurd hl2 q, fun _ => ⟨in_n (by omega) (by omega), M, _, st9, fun _ => v9 hs, fun q => absurd (by rw [← tv _ hl2]; exact hc) q⟩⟩⟩⟩, fun q => absurd (nI_lt pl (by omega)) q⟩
        · refine ⟨nI p, a_X8_judge_37 ?_, fun hs => a_X9_judge_24 ?_⟩
          · rw [x4]
            exact ⟨fun _ => ⟨fun q => absurd q k0, fun _ => ⟨M, _, pla 1 (fun _ => rfl) (fun q => absurd hl2 q), z10, fun _ => ⟨M, _, g, M, _, st8, fun q => absurd q hc, fun _ => ⟨rfl, rfl⟩⟩⟩⟩, fun q => absurd (nI_lt pl (by omega)) q⟩
          · rw [m1, zt, t109, c3, e60, zn_nI (by omega)]
            exact ⟨fun _ => ⟨it', fun q => absurd (hs q) (by omega), fun _ => ⟨fun q => absurd q k0, fun _ => ⟨it', fun q => absurd hl2 q, fun _ => ⟨in_n (by omega) (by omega), M, _, st9, fun q => absurd (by rw [← tv _ hl2] at q; exact q) hc, fun _ => ⟨rfl, rfl⟩⟩⟩⟩⟩, fun q => absurd (nI_lt pl (by omega)) q⟩
      · refine ⟨100 + nI p, a_X8_judge_37 ?_, fun _ => a_X9_judge_24 ?_⟩
        · rw [x4]; exact ⟨fun _ => ⟨fun q => absurd q k0, fun _ => ⟨M, _, pla 0 (fun q => absurd q hl2) (fun _ => rfl), fun _ => ⟨rfl, rfl⟩, z00⟩⟩, fun q => absurd (nI_lt pl (by omega)) q⟩
        · rw [m1, zt, t109, c3]; exact ⟨fun _ => ⟨it', fun _ => ⟨rfl, rfl⟩, fun _ => ⟨fun q => absurd q k0, fun _ => ⟨it', fun _ => ⟨rfl, rfl⟩, fun q => absurd hl2 q⟩⟩⟩, fun q => absurd (nI_lt pl (by omega)) q⟩
  obtain ⟨v, v8, v9⟩ := loop (wP W) 0 (by omega)
  rcases ts with ⟨s1, s2, s3⟩ | ⟨s, hs, s1, s2⟩
  · refine op_z (v := zI v) hi (ro_rt (g_X8_judge ⟨M, _, c6_is.2 hv, z10, fun _ => ⟨M, _, ho.1 s1, fun _ => v8, z00⟩⟩)) (ro_rt (g_X9_judge ⟨M, _, c9_isT.2 hv, z10, fun _ => ⟨it, ?_⟩⟩))
    rw [zt, s2]
    exact ⟨fun q => absurd q (by decide), fun _ => v9 (fun _ => s3)⟩
  · have s1' : ¬ M.1 57 t = -1 := by rw [s1]; exact (s_neg hs).1
    by_cases s0 : s = 0
    · refine op_z (v := zI v) hi (ro_rt (g_X8_judge ⟨M, _, c6_is.2 hv, z10, fun _ => ⟨M, _, ho.2 s1', z10, fun _ => ⟨it, ?_⟩⟩⟩)) (ro_rt (g_X9_judge ⟨M, _, c9_isT.2 hv, z10, fun _ => ⟨it, ?_⟩⟩))
      · rw [zt, s1, s0]; exact ⟨fun _ => v8, fun q => absurd rfl q⟩
      · rw [zt, s2, s0]; exact ⟨fun q => absurd q (by decide), fun _ => v9 (fun q => absurd q (by rw [s2, s0]; decide))⟩
    · refine op_z (v := zI (-12)) hi (ro_rt (g_X8_judge ⟨M, _, c6_is.2 hv, z10, fun _ => ⟨M, _, ho.2 s1', z10, fun _ => ⟨it, ?_⟩⟩⟩)) (ro_rt (g_X9_judge ⟨M, _, c9_isT.2 hv, z10, fun _ => ⟨it, ?_⟩⟩))
      · rw [zt, s1, nI_z (by omega)]; exact ⟨fun q => absurd q s0, fun _ => ⟨rfl, rfl⟩⟩
      · rw [zt, s2, nI_zlt (by omega)]; exact ⟨fun _ => ⟨rfl, rfl⟩, fun q => absurd (by omega) q⟩
