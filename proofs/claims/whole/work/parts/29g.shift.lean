/-! The calls: tape, shift -/
theorem zcp_if {α : Type} {f : Nat → Nat → α} {a sp b dp n k : Nat} : zcp f a sp b dp n b k = if dp ≤ k ∧ k < dp + n then f a (sp + (k - dp)) else f b k := by
  unfold zcp
  rw [nbq]
  by_cases h1 : dp ≤ k
  · rw [Nat.ble_eq_true_of_le h1]
    by_cases h2 : k < dp + n
    · rw [show Nat.blt k (dp + n) = true from Nat.ble_eq_true_of_le h2, if_pos ⟨h1, h2⟩]
      rfl
    · have e : Nat.blt k (dp + n) = false := by
        cases q : Nat.blt k (dp + n)
        · rfl
        · exact absurd (Nat.le_of_ble_eq_true q) h2
      rw [e, if_neg (fun q => h2 q.2)]
      rfl
  · have e : Nat.ble dp k = false := by
      cases q : Nat.ble dp k
      · rfl
      · exact absurd (Nat.le_of_ble_eq_true q) h1
    rw [e, if_neg (fun q => h1 q.1)]
    rfl
theorem sub_toIntB {a b : Nat} (ha : a < 2 ^ 30) (hb : b < 2 ^ 31) : (nI a - nI b).toInt = (a : Int) - b := by
  rw [Int32.toInt_sub, nI_toInt (by omega), nI_toInt (by omega)]
  exact Int.bmod_eq_of_le (by omega) (by omega)
section TB
variable {d : Nat}
theorem l6_lay {t n : Nat} (ht : t < 6) (hn : n ≤ 60) {I : Nat → Nat → Int32} {L0 : Nat → Nat → Int64} {r : (Nat → Nat → Nat) × Nat × Nat × Nat} {i2 : Int32} : ∀ j k (L : Nat → Nat → Int64), k + j = n → (∀ a, a ≠ 59 → L a = L0 a) → (∀ q, L 59 q = if 60 * t ≤ q ∧ q < 60 * t + k then 0 else L0 59 q) → A_X6_lay_17 d (I, L, r) (nI t) i2 (nI n) (nI k) (fun M' v => v = none ∧ M'.1 = I ∧ M'.2.2 = r ∧ (∀ a, a ≠ 59 → M'.2.1 a = L0 a) ∧ ∀ q, M'.2.1 59 q = if 60 * t ≤ q ∧ q < 60 * t + n then 0 else L0 59 q) := by
  intro j
  induction j with
  | zero =>
    intro k L hk h1 h2
    have e : k = n := by omega
    subst e
    exact a_X6_lay_17 ⟨fun q => absurd q (nI_nlt (by omega) (by omega)), fun _ => ⟨rfl, rfl, rfl, h1, h2⟩⟩
  | succ j ih =>
    intro k L hk h1 h2
    refine a_X6_lay_17 ?_
    rw [z60, zn_nI (by omega), nI_1]
    refine ⟨fun _ => ⟨in_n (by omega) (by omega), ih (k + 1) _ (by omega) (fun a ha => (zu_ne ha).trans (h1 a ha)) (fun q => ?_)⟩, fun q => absurd (nI_lt (by omega) (by omega)) q⟩
    rw [zu_if]
    dsimp only
    rw [h2 q]
    by_cases e : q = 60 * t + k
    · rw [if_pos e, if_pos (by omega)]
    · rw [if_neg e]
      by_cases e2 : 60 * t ≤ q ∧ q < 60 * t + k
      · rw [if_pos e2, if_pos (by omega)]
      · rw [if_neg e2, if_neg (by omega)]
theorem l9_lay0 {t : Nat} (ht : t < 6) {I : Nat → Nat → Int32} {L0 : Nat → Nat → Int64} {r : (Nat → Nat → Nat) × Nat × Nat × Nat} {i2 i3 : Int32} : ∀ j k (L : Nat → Nat → Int64), k + j = 60 → (∀ a, a ≠ 110 → L a = L0 a) → (∀ q, L 110 q = if 60 * t ≤ q ∧ q < 60 * t + k then 0 else L0 110 q) → A_X9_tape_69 d (I, L, r) (nI t) i2 i3 (nI k) (fun M' v => v = some (zI 1) ∧ M'.1 = I ∧ M'.2.2 = r ∧ (∀ a, a ≠ 110 → M'.2.1 a = L0 a) ∧ ∀ q, M'.2.1 110 q = if 60 * t ≤ q ∧ q < 60 * t + 60 then 0 else L0 110 q) := by
  intro j
  induction j with
  | zero =>
    intro k L hk h1 h2
    have e : k = 60 := by omega
    subst e
    exact a_X9_tape_69 ⟨fun q => absurd q (nI_nlt (b := 60) (by omega) (by omega)), fun _ => ⟨rfl, rfl, rfl, h1, h2⟩⟩
  | succ j ih =>
    intro k L hk h1 h2
    refine a_X9_tape_69 ?_
    rw [z60', zn_nI (by omega), nI_1]
    refine ⟨fun _ => ⟨in_n (by omega) (by omega), ih (k + 1) _ (by omega) (fun a ha => (zu_ne ha).trans (h1 a ha)) (fun q => ?_)⟩, fun q => absurd (nI_lt (b := 60) (by omega) (by omega)) q⟩
    rw [zu_if]
    dsimp only
    rw [h2 q]
    by_cases e : q = 60 * t + k
    · rw [if_pos e, if_pos (by omega)]
    · rw [if_neg e]
      by_cases e2 : 60 * t ≤ q ∧ q < 60 * t + k
      · rw [if_pos e2, if_pos (by omega)]
      · rw [if_neg e2, if_neg (by omega)]
theorem op_tape (i s n : Int32) : Op 123 230 [zI i, zI s, zI n] := fun M W h hi => by
  obtain ⟨q1, q2, q3, q4, q5, q6, q7, q8, q9, q10, tp, q12⟩ := id hi
  cases hv : vix i 6
  · exact op_z (v := zI (-1)) hi (ro_rt (g_X8_tape ⟨M, _, c6_is.1 hv, fun _ => ⟨rfl, rfl⟩, z00⟩)) (ro_rt (g_X9_tape ⟨M, _, c9_isT.1 hv, fun _ => ⟨rfl, rfl⟩, z00⟩))
  obtain ⟨t, ht, et⟩ := vix_t (by omega) hv
  have zt : zn i = t := by rw [et]; exact zn_nI (by omega)
  have it : ¬ (i < 0 ∨ 6 ≤ zn i) := by rw [zt, et]; exact in_n (by omega) (by omega)
  have e0 : (0 : Int32).toInt = 0 := by decide
  have e1 : (-1 : Int32).toInt = -1 := by decide
  have e4 : (4 : Int32).toInt = 4 := by decide
  have e5 : (5 : Int32).toInt = 5 := by decide
  -- what the tapes become
  have fin : ∀ (M' : ZM) (l : Nat) (s' : Int32), l ≤ 60 → ((s' = -1 ∧ l = 0) ∨ (∃ c, c < 5 ∧ s' = nI c)) → (∀ a, a ≠ 57 → a ≠ 58 → a ≠ 108 → a ≠ 109 → M'.1 a = M.1 a) → M'.2.2 = M.2.2 → (∀ q, M'.1 57 q = if q = t then s' else M.1 57 q) → (∀ q, M'.1 58 q = if q = t then nI l else M.1 58 q) → (∀ q, M'.1 108 q = if q = t then s' else M.1 108 q) → (∀ q, M'.1 109 q = if q = t then nI l else M.1 109 q) → (∀ q, M'.2.1 59 q = if 60 * t ≤ q ∧ q < 60 * t + l then 0 else M.2.1 59 q) → (∀ q, M'.2.1 110 q = if 60 * t ≤ q ∧ q < 60 * t + 60 then 0 else M.2.1 110 q) → Iv M' W h := by
    intro M' l s' hl hs he hr h57 h58 h108 h109 h59 h110
    refine Iv_t he hr hi (fun t' ht' => ?_)
    by_cases e : t' = t
    · refine ⟨l, hl, by rw [h58, if_pos e], by rw [h109, if_pos e], ?_, fun p hp => ?_⟩
      · rw [h57, if_pos e, h108, if_pos e]
        rcases hs with ⟨a, b⟩ | ⟨c, a, b⟩
        · exact Or.inl ⟨a, a, b⟩
        · exact Or.inr ⟨c, a, b, b⟩
      · rw [h59, h110, if_pos (by omega), if_pos (by omega)]
    · obtain ⟨l', a1, a2, a3, a4, a5⟩ := tp t' ht'
      refine ⟨l', a1, by rw [h58, if_neg e]; exact a2, by rw [h109, if_neg e]; exact a3, ?_, fun p hp => ?_⟩
      · rw [h57, if_neg e, h108, if_neg e]; exact a4
      · rw [h59, h110, if_neg (by omega), if_neg (by omega)]; exact a5 p hp
  by_cases sm : s = -1
  · have s0 : s < 0 := by rw [sm]; decide
    have cs : ¬ s < -1 ∧ ¬ (4 : Int32) < s := by rw [sm]; decide
    obtain ⟨M2, v2, f1, f2⟩ := l9_lay0 (d := 59) ht (I := zu (zu (zu (zu M.1 57 t (-1)) 58 t 0) 108 t s) 109 t 0) (L0 := M.2.1) (r := M.2.2) (i2 := s) (i3 := n) 60 0 M.2.1 (by omega) (fun _ _ => rfl) (fun q => by rw [if_neg (by omega)])
    have ck6 : Rt 59 53 [zR 6 56, zI i] M (zu (zu M.1 57 t (-1)) 58 t 0, M.2) none := by
      refine ro_rt (g_X6_empty ⟨it, it, ?_⟩)
      rw [zt]
      exact ⟨rfl, rfl⟩
    obtain ⟨rfl, f2, f3, f4, f5⟩ := f2
    refine ⟨(zu (zu M.1 57 t (-1)) 58 t 0, M.2), M2, zI 1, W, h, ro_rt (g_X8_tape ⟨M, _, c6_is.2 hv, z10, fun _ => ⟨fun _ => ⟨_, ck6, rfl, rfl⟩, fun q => absurd sm q⟩⟩), ?_, fin M2 0 (-1) (by omega) (Or.inl ⟨rfl, rfl⟩) (fun a h1 h2 h3 h4 => ?_) f3 (fun q => ?_) (fun q => ?_) (fun q => ?_) (fun q => ?_) (fun q => ?_) f5, q6.1⟩
    · refine ro_rt (g_X9_tape ⟨_, _, c9_isT.2 hv, z10, fun _ => ⟨_, _, in_1 cs, z10, fun _ => ⟨fun _ => ⟨fun _ => ⟨it, fun _ => ⟨it, ?_⟩, fun q => absurd s0 q⟩, fun q => absurd s0 q⟩, fun q => absurd s0 q⟩⟩⟩)
      rw [zt, et]
      exact ⟨M2, _, f1, rfl, rfl⟩
    · rw [f2]; exact (zu_ne h4).trans ((zu_ne h3).trans ((zu_ne h2).trans (zu_ne h1)))
    · rw [f2]; exact zu_if
    · rw [f2]; exact zu_if
    · rw [f2, ← sm]; exact zu_if
    · rw [f2]; exact zu_if
    · rw [f4 59 (by omega), if_neg (by omega)]
  by_cases c : ¬ s < 0 ∧ ¬ (4 : Int32) < s
  case neg =>
    have cs : ¬ (¬ s < -1 ∧ ¬ (4 : Int32) < s) := fun q => c ⟨fun r => q.1 (by
      rw [Int32.lt_iff_toInt_lt] at r ⊢
      have : ¬ s.toInt = -1 := fun e => sm (Int32.toInt_inj.mp (e.trans e1.symm))
      omega), q.2⟩
    refine op_z (v := zI (-2)) hi (ro_rt (g_X8_tape ⟨M, _, c6_is.2 hv, z10, fun _ => ⟨fun q => absurd q sm, fun _ => ⟨fun _ => ⟨rfl, rfl⟩, fun q => ⟨fun r => absurd ⟨q, ?_⟩ c, fun _ => ⟨rfl, rfl⟩⟩⟩⟩⟩)) (ro_rt (g_X9_tape ⟨M, _, c9_isT.2 hv, z10, fun _ => ⟨M, _, in_0 cs, fun _ => ⟨rfl, rfl⟩, z00⟩⟩))
    rw [Int32.lt_iff_toInt_lt] at r ⊢
    omega
  have cs : ¬ s < -1 ∧ ¬ (4 : Int32) < s := ⟨fun q => c.1 (by rw [Int32.lt_iff_toInt_lt] at q ⊢; omega), c.2⟩
  have s5 : s < 5 := by
    have := c.2
    rw [Int32.lt_iff_toInt_lt] at this ⊢
    omega
  obtain ⟨a, _, ha, ea⟩ := rng (lo := 0) (hi := 4) (by omega) (by omega) c
  by_cases n60 : (60 : Int32) < n
  · exact op_z (v := zI (-2)) hi (ro_rt (g_X8_tape ⟨M, _, c6_is.2 hv, z10, fun _ => ⟨fun q => absurd q sm, fun _ => ⟨fun q => absurd q c.1, fun _ => ⟨fun _ => ⟨fun _ => ⟨rfl, rfl⟩, fun q => absurd n60 q⟩, fun q => absurd s5 q⟩⟩⟩⟩)) (ro_rt (g_X9_tape ⟨M, _, c9_isT.2 hv, z10, fun _ => ⟨M, _, in_1 cs, z10, fun _ => ⟨fun q => absurd q c.1, fun _ => ⟨fun _ => ⟨rfl, rfl⟩, fun q => absurd n60 q⟩⟩⟩⟩))
  by_cases n0 : n < 0
  · exact op_z (v := zI (-14)) hi (ro_rt (g_X8_tape ⟨M, _, c6_is.2 hv, z10, fun _ => ⟨fun q => absurd q sm, fun _ => ⟨fun q => absurd q c.1, fun _ => ⟨fun _ => ⟨fun q => absurd q n60, fun _ => ⟨fun _ => ⟨rfl, rfl⟩, fun q => absurd n0 q⟩⟩, fun q => absurd s5 q⟩⟩⟩⟩)) (ro_rt (g_X9_tape ⟨M, _, c9_isT.2 hv, z10, fun _ => ⟨M, _, in_1 cs, z10, fun _ => ⟨fun q => absurd q c.1, fun _ => ⟨fun q => absurd q n60, fun _ => ⟨fun q => absurd q c.1, fun _ => ⟨fun _ => ⟨rfl, rfl⟩, fun q => absurd n0 q⟩⟩⟩⟩⟩⟩))
  obtain ⟨l, _, hl, el⟩ := rng (lo := 0) (hi := 60) (by omega) (by omega) ⟨n0, n60⟩
  obtain ⟨M1, v1, g1, g2⟩ := l6_lay (d := 58) ht hl (I := zu (zu M.1 57 t s) 58 t n) (L0 := M.2.1) (r := M.2.2) (i2 := s) l 0 M.2.1 (by omega) (fun _ _ => rfl) (fun q => by rw [if_neg (by omega)])
  obtain ⟨rfl, g2, g3, g4, g5⟩ := g2
  have c6 : Rt 59 54 [zR 6 56, zI i, zI s, zI n] M M1 none := by
    refine ro_rt (g_X6_lay ⟨it, it, ?_⟩)
    rw [zt, et, el]
    rw [el] at g1
    exact ⟨M1, _, g1, rfl, rfl⟩
  obtain ⟨M2, v2, f1, f2⟩ := l9_lay0 (d := 59) ht (I := zu (zu M1.1 108 t s) 109 t n) (L0 := M1.2.1) (r := M1.2.2) (i2 := s) (i3 := n) 60 0 M1.2.1 (by omega) (fun _ _ => rfl) (fun q => by rw [if_neg (by omega)])
  obtain ⟨rfl, f2, f3, f4, f5⟩ := f2
  refine ⟨M1, M2, zI 1, W, h, ro_rt (g_X8_tape ⟨M, _, c6_is.2 hv, z10, fun _ => ⟨fun q => absurd q sm, fun _ => ⟨fun q => absurd q c.1, fun _ => ⟨fun _ => ⟨fun q => absurd q n60, fun _ => ⟨fun q => absurd q n0, fun _ => ⟨M1, c6, rfl, rfl⟩⟩⟩, fun q => absurd s5 q⟩⟩⟩⟩), ?_, fin M2 l s hl (Or.inr ⟨a, by omega, ea⟩) (fun a h1 h2 h3 h4 => ?_) (f3.trans g3) (fun q => ?_) (fun q => ?_) (fun q => ?_) (fun q => ?_) (fun q => ?_) (fun q => ?_), q6.1⟩
  · refine ro_rt (g_X9_tape ⟨_, _, c9_isT.2 hv, z10, fun _ => ⟨_, _, in_1 cs, z10, fun _ => ⟨fun q => absurd q c.1, fun _ => ⟨fun q => absurd q n60, fun _ => ⟨fun q => absurd q c.1, fun _ => ⟨fun q => absurd q n0, fun _ => ⟨it, fun q => absurd q c.1, fun _ => ⟨it, ?_⟩⟩⟩⟩⟩⟩⟩⟩)
    rw [zt, et]
    exact ⟨M2, _, f1, rfl, rfl⟩
  · rw [f2, g2]; exact (zu_ne h4).trans ((zu_ne h3).trans ((zu_ne h2).trans (zu_ne h1)))
  · rw [f2, g2]; exact zu_if
  · rw [f2, g2, ← el]; exact zu_if
  · rw [f2, g2]; exact zu_if
  · rw [f2, g2, ← el]; exact zu_if
  · rw [f4 59 (by omega)]; exact g5 q
  · rw [f5 q, g4 110 (by omega)]
theorem l9_sh1 {t i n : Nat} (ht : t < 6) (hin : i + n ≤ 60) {I : Nat → Nat → Int32} {L0 : Nat → Nat → Int64} {r : (Nat → Nat → Nat) × Nat × Nat × Nat} {i3 i4 : Int32} {R : ZM → Option ZV → Prop} : ∀ j k (L : Nat → Nat → Int64), k + j = n → (∀ a, a ≠ 111 → L a = L0 a) → (∀ q, q < k → L 111 q = L0 110 (60 * t + i + q)) → (∀ L', (∀ a, a ≠ 111 → L' a = L0 a) → (∀ q, q < n → L' 111 q = L0 110 (60 * t + i + q)) → A_X9_shift_141 d (I, L', r) (nI t) (nI i) i3 i4 (nI n) 0 R) → A_X9_shift_104 d (I, L, r) (nI t) (nI i) i3 i4 (nI n) (nI k) R := by
  intro j
  induction j with
  | zero =>
    intro k L hk h1 h2 K
    have e : k = n := by omega
    subst e
    exact a_X9_shift_104 ⟨fun q => absurd q (nI_nlt (by omega) (by omega)), fun _ => K L h1 h2⟩
  | succ j ih =>
    intro k L hk h1 h2 K
    refine a_X9_shift_104 ?_
    rw [z60', nI_add, zn_nI (by omega), zn_nI (by omega), nI_1]
    refine ⟨fun _ => ⟨in_n (by omega) (by omega), in_n (by omega) (by omega), ih (k + 1) _ (by omega) (fun a ha => (zu_ne ha).trans (h1 a ha)) (fun q hq => ?_) K⟩, fun q => absurd (nI_lt (by omega) (by omega)) q⟩
    rw [zu_if]
    by_cases e : q = k
    · rw [if_pos e, e]
      show L 110 _ = _
      rw [h1 110 (by omega)]
    · rw [if_neg e]
      exact h2 q (by omega)
theorem l9_sh2 {o j0 n : Nat} (ho : o < 6) (hin : j0 + n ≤ 60) {I : Nat → Nat → Int32} {L0 : Nat → Nat → Int64} {r : (Nat → Nat → Nat) × Nat × Nat × Nat} {i1 i2 : Int32} : ∀ j k (L : Nat → Nat → Int64), k + j = n → (∀ a, a ≠ 110 → L a = L0 a) → (∀ q, L 110 q = if 60 * o + j0 ≤ q ∧ q < 60 * o + j0 + k then L0 111 (q - (60 * o + j0)) else L0 110 q) → A_X9_shift_141 d (I, L, r) i1 i2 (nI o) (nI j0) (nI n) (nI k) (fun M' v => v = some (zI (nI n)) ∧ M'.1 = I ∧ M'.2.2 = r ∧ (∀ a, a ≠ 110 → M'.2.1 a = L0 a) ∧ ∀ q, M'.2.1 110 q = if 60 * o + j0 ≤ q ∧ q < 60 * o + j0 + n then L0 111 (q - (60 * o + j0)) else L0 110 q) := by
  intro j
  induction j with
  | zero =>
    intro k L hk h1 h2
    have e : k = n := by omega
    subst e
    exact a_X9_shift_141 ⟨fun q => absurd q (nI_nlt (by omega) (by omega)), fun _ => ⟨rfl, rfl, rfl, h1, h2⟩⟩
  | succ j ih =>
    intro k L hk h1 h2
    refine a_X9_shift_141 ?_
    rw [z60', nI_add, zn_nI (by omega), zn_nI (by omega), nI_1]
    refine ⟨fun _ => ⟨in_n (by omega) (by omega), in_n (by omega) (by omega), ih (k + 1) _ (by omega) (fun a ha => (zu_ne ha).trans (h1 a ha)) (fun q => ?_)⟩, fun q => absurd (nI_lt (by omega) (by omega)) q⟩
    rw [zu_if]
    dsimp only
    rw [h2 q]
    by_cases e : q = 60 * o + j0 + k
    · rw [if_pos e, if_pos (by omega)]
      show L 111 k = _
      rw [h1 111 (by omega), show q - (60 * o + j0) = k by omega]
    · rw [if_neg e]
      by_cases e2 : 60 * o + j0 ≤ q ∧ q < 60 * o + j0 + k
      · rw [if_pos e2, if_pos (by omega)]
      · rw [if_neg e2, if_neg (by omega)]
theorem op_shift (i k o j n : Int32) : Op 126 234 [zI i, zI k, zI o, zI j, zI n] := fun M W h hi => by
  obtain ⟨q1, q2, q3, q4, q5, q6, q7, q8, q9, q10, tp, q12⟩ := id hi
  cases hv : vix i 6
  · exact op_z (v := zI (-1)) hi (ro_rt (g_X8_shift ⟨M, _, c6_is.1 hv, fun _ => ⟨rfl, rfl⟩, z00⟩)) (ro_rt (g_X9_shift ⟨M, _, c9_isT.1 hv, fun _ => ⟨rfl, rfl⟩, z00⟩))
  cases hu : vix o 6
  · exact op_z (v := zI (-1)) hi (ro_rt (g_X8_shift ⟨M, _, c6_is.2 hv, z10, fun _ => ⟨M, _, c6_is.1 hu, fun _ => ⟨rfl, rfl⟩, z00⟩⟩)) (ro_rt (g_X9_shift ⟨M, _, c9_isT.2 hv, z10, fun _ => ⟨M, _, c9_isT.1 hu, fun _ => ⟨rfl, rfl⟩, z00⟩⟩))
  obtain ⟨t, ht, et⟩ := vix_t (by omega) hv
  obtain ⟨p, hp, ep⟩ := vix_t (by omega) hu
  have zt : zn i = t := by rw [et]; exact zn_nI (by omega)
  have zp : zn o = p := by rw [ep]; exact zn_nI (by omega)
  have it : ¬ (i < 0 ∨ 6 ≤ t) := by rw [et]; exact in_n (by omega) (by omega)
  have ip : ¬ (o < 0 ∨ 6 ≤ p) := by rw [ep]; exact in_n (by omega) (by omega)
  obtain ⟨l, hl, t58, t109, ts, tv⟩ := tp t ht
  obtain ⟨m, hm, p58, p109, ps, pv⟩ := tp p hp
  have h1 := c6_holds (d := 58) (M := M) ht
  have h2 := c6_holds (d := 58) (M := M) hp
  rw [← et] at h1
  rw [← ep] at h2
  have n11 : (-1 : Int32) < 0 := by decide
  rcases ts with ⟨s1, s2, s3⟩ | ⟨s, hs, s1, s2⟩
  · refine op_z (v := zI (-11)) hi (ro_rt (g_X8_shift ⟨M, _, c6_is.2 hv, z10, fun _ => ⟨M, _, c6_is.2 hu, z10, fun _ => ⟨M, _, h1.1 s1, fun _ => ⟨rfl, rfl⟩, z00⟩⟩⟩)) (ro_rt (g_X9_shift ⟨M, _, c9_isT.2 hv, z10, fun _ => ⟨M, _, c9_isT.2 hu, z10, fun _ => ?_⟩⟩))
    rw [zt, s2]
    exact ⟨it, fun _ => ⟨rfl, rfl⟩, fun q => absurd n11 q⟩
  have s1' : ¬ M.1 57 t = -1 := by rw [s1]; exact (s_neg hs).1
  rcases ps with ⟨r1, r2, r3⟩ | ⟨r, hr, r1, r2⟩
  · refine op_z (v := zI (-11)) hi (ro_rt (g_X8_shift ⟨M, _, c6_is.2 hv, z10, fun _ => ⟨M, _, c6_is.2 hu, z10, fun _ => ⟨M, _, h1.2 s1', z10, fun _ => ⟨M, _, h2.1 r1, fun _ => ⟨rfl, rfl⟩, z00⟩⟩⟩⟩)) (ro_rt (g_X9_shift ⟨M, _, c9_isT.2 hv, z10, fun _ => ⟨M, _, c9_isT.2 hu, z10, fun _ => ?_⟩⟩))
    rw [zt, s2, zp, r2]
    exact ⟨it, fun q => absurd q (s_neg hs).2, fun _ => ⟨ip, fun _ => ⟨rfl, rfl⟩, fun q => absurd n11 q⟩⟩
  have r1' : ¬ M.1 57 p = -1 := by rw [r1]; exact (s_neg hr).1
  -- up to the sorts
  have X8 : ∀ {v : ZV} {M1 : ZM}, ((nI s = nI r → (∃ (M9 : ZM) (r10 : Int32), Rt 59 52 [zR 6 56, zI i, zI k, zI n] M M9 (some (zI r10)) ∧ ((r10 = 0 → M9 = M1 ∧ some (zI (-13)) = some v) ∧ (¬ r10 = 0 → (∃ (M11 : ZM) (r12 : Int32), Rt 59 52 [zR 6 56, zI o, zI j, zI n] M9 M11 (some (zI r12)) ∧ ((r12 = 0 → M11 = M1 ∧ some (zI (-13)) = some v) ∧ (¬ r12 = 0 → (∃ M13 : ZM, Rt 59 57 [zR 6 56, zI i, zI k, zI o, zI j, zI n] M11 M13 none ∧ (M13 = M1 ∧ some (zI n) = some v))))))))) ∧ (¬ nI s = nI r → M = M1 ∧ some (zI (-12)) = some v)) → Rt 60 126 [zR 8 1, zI i, zI k, zI o, zI j, zI n] M M1 (some v) := fun {v M1} H => ro_rt (g_X8_shift ⟨M, _, c6_is.2 hv, z10, fun _ => ⟨M, _, c6_is.2 hu, z10, fun _ => ⟨M, _, h1.2 s1', z10, fun _ => ⟨M, _, h2.2 r1', z10, fun _ => by rw [zt, zp, s1, r1]; exact ⟨it, ip, H⟩⟩⟩⟩⟩)
  by_cases sr : nI s = nI r
  case neg =>
    refine op_z (v := zI (-12)) hi (X8 ⟨fun q => absurd q sr, fun _ => ⟨rfl, rfl⟩⟩) (ro_rt (g_X9_shift ⟨M, _, c9_isT.2 hv, z10, fun _ => ⟨M, _, c9_isT.2 hu, z10, fun _ => ?_⟩⟩))
    rw [zt, s2, zp, r2]
    exact ⟨it, fun q => absurd q (s_neg hs).2, fun _ => ⟨ip, fun q => absurd q (s_neg hr).2, fun _ => ⟨it, ip, fun q => absurd q sr, fun _ => ⟨rfl, rfl⟩⟩⟩⟩
  -- whether a tape has the places
  have pl : ∀ (u : Nat) (hu6 : u < 6) (lu : Nat) (hlu : lu ≤ 60) (hu58 : M.1 58 u = nI lu) (a : Int32), ∃ b : Bool, Rt 59 52 [zR 6 56, zI (nI u), zI a, zI n] M M (some (zI (zb b))) ∧ (b = true ↔ ¬ n < 0 ∧ ¬ a < 0 ∧ ¬ nI lu - n < a) := by
    intro u hu6 lu hlu hu58 a
    by_cases n0 : n < 0
    · exact ⟨false, ro_rt (g_X6_hasPlaces ⟨fun _ => ⟨rfl, rfl⟩, fun q => absurd n0 q⟩), fun q => (by cases q), fun q => absurd n0 q.1⟩
    by_cases a0 : a < 0
    · exact ⟨false, ro_rt (g_X6_hasPlaces ⟨fun q => absurd q n0, fun _ => ⟨fun _ => ⟨rfl, rfl⟩, fun q => absurd a0 q⟩⟩), fun q => (by cases q), fun q => absurd a0 q.2.1⟩
    obtain ⟨x, hx, ex⟩ := nI_of n0
    obtain ⟨y, hy, ey⟩ := nI_of a0
    have c1 : (0 < lg_cmp (a.toInt64 + n.toInt64) (nI lu).toInt64) = (lu < y + x) := by
      rw [lg_cmp_gt, ex, ey, nI_l hx, nI_l hy, nI_l (by omega), lN_add]
      exact propext (pk_lLT (by omega) (by omega))
    have c2 : (nI lu - n < a) = (lu < y + x) := by
      have e : (nI lu - n).toInt = (lu : Int) - x := by
        rw [ex]
        exact sub_toIntB (by omega) hx
      rw [Int32.lt_iff_toInt_lt, e, ey, nI_toInt hy]
      exact propext (by omega)
    refine ⟨decide (¬ lu < y + x), ro_rt (g_X6_hasPlaces ⟨fun q => absurd q n0, fun _ => ⟨fun q => absurd q a0, fun _ => ⟨in_nI hu6 (by omega), ?_⟩⟩⟩), ?_⟩
    · rw [zn_nI (by omega), hu58, c1]
      exact ⟨fun q => ⟨rfl, by rw [decide_eq_false (fun r => r q)]; rfl⟩, fun q => ⟨rfl, by rw [decide_eq_true q]; rfl⟩⟩
    · rw [c2]
      exact ⟨fun q => ⟨n0, a0, of_decide_eq_true q⟩, fun q => decide_eq_true q.2.2⟩
  obtain ⟨b1, B1, B1'⟩ := pl t ht l hl t58 k
  obtain ⟨b2, B2, B2'⟩ := pl p hp m hm p58 j
  rw [← et] at B1
  rw [← ep] at B2
  have M9 : ∀ {v : ZV} {M1 M2 : ZM}, M1.1 = M.1 → ((n < 0 → M1 = M2 ∧ some (zI (-13)) = some v) ∧ (¬ n < 0 → ((k < 0 → M1 = M2 ∧ some (zI (-13)) = some v) ∧ (¬ k < 0 → ((j < 0 → M1 = M2 ∧ some (zI (-13)) = some v) ∧ (¬ j < 0 → ((nI l - n < k → M1 = M2 ∧ some (zI (-13)) = some v) ∧ (¬ nI l - n < k → ((nI m - n < j → M1 = M2 ∧ some (zI (-13)) = some v) ∧ (¬ nI m - n < j → A_X9_shift_104 59 M1 i k o j n 0 (fun M' v' => M' = M2 ∧ v' = some v))))))))))) → Rt 60 234 [zR 9 64, zI i, zI k, zI o, zI j, zI n] M1 M2 (some v) := fun {v M1 M2} e H => by
    refine ro_rt (g_X9_shift ⟨M1, _, c9_isT.2 hv, z10, fun _ => ⟨M1, _, c9_isT.2 hu, z10, fun _ => ?_⟩⟩)
    rw [e, zt, s2, zp, r2, t109, p109]
    obtain ⟨H1, H2⟩ := H
    exact ⟨it, fun q => absurd q (s_neg hs).2, fun _ => ⟨ip, fun q => absurd q (s_neg hr).2, fun _ => ⟨it, ip, fun _ => ⟨H1, fun q => ⟨(H2 q).1, fun q' => ⟨((H2 q).2 q').1, fun q'' => ⟨it, (((H2 q).2 q').2 q'').1, fun q3 => ⟨ip, ((((H2 q).2 q').2 q'').2 q3)⟩⟩⟩⟩⟩, fun q => absurd sr q⟩⟩⟩
  cases hb1 : b1
  · have no : ¬ (¬ n < 0 ∧ ¬ k < 0 ∧ ¬ nI l - n < k) := fun q => by
      have := B1'.mpr q
      rw [hb1] at this
      cases this
    rw [hb1] at B1
    refine op_z (v := zI (-13)) hi (X8 ⟨fun _ => ⟨M, _, B1, fun _ => ⟨rfl, rfl⟩, z00⟩, fun q => absurd sr q⟩) (M9 rfl ⟨fun _ => ⟨rfl, rfl⟩, fun n0 => ⟨fun _ => ⟨rfl, rfl⟩, fun k0 => ⟨fun _ => ⟨rfl, rfl⟩, fun j0 => ⟨fun _ => ⟨rfl, rfl⟩, fun c => absurd ⟨n0, k0, c⟩ no⟩⟩⟩⟩)
  rw [hb1] at B1
  have y1 := B1'.mp hb1
  cases hb2 : b2
  · have no : ¬ (¬ n < 0 ∧ ¬ j < 0 ∧ ¬ nI m - n < j) := fun q => by
      have := B2'.mpr q
      rw [hb2] at this
      cases this
    rw [hb2] at B2
    refine op_z (v := zI (-13)) hi (X8 ⟨fun _ => ⟨M, _, B1, z10, fun _ => ⟨M, _, B2, fun _ => ⟨rfl, rfl⟩, z00⟩⟩, fun q => absurd sr q⟩) (M9 rfl ⟨fun _ => ⟨rfl, rfl⟩, fun n0 => ⟨fun _ => ⟨rfl, rfl⟩, fun k0 => ⟨fun _ => ⟨rfl, rfl⟩, fun j0 => ⟨fun _ => ⟨rfl, rfl⟩, fun c => ⟨fun _ => ⟨rfl, rfl⟩, fun c2 => absurd ⟨n0, j0, c2⟩ no⟩⟩⟩⟩⟩)
  rw [hb2] at B2
  have y2 := B2'.mp hb2
  obtain ⟨x, hx, ex⟩ := nI_of y1.1
  obtain ⟨a, ha, ea⟩ := nI_of y1.2.1
  obtain ⟨b, hb, eb⟩ := nI_of y2.2.1
  have c1 : a + x ≤ l := by
    have q := y1.2.2
    have e : (nI l - n).toInt = (l : Int) - x := by rw [ex]; exact sub_toIntB (by omega) hx
    rw [Int32.lt_iff_toInt_lt, e, ea, nI_toInt ha] at q
    omega
  have c2 : b + x ≤ m := by
    have q := y2.2.2
    have e : (nI m - n).toInt = (m : Int) - x := by rw [ex]; exact sub_toIntB (by omega) hx
    rw [Int32.lt_iff_toInt_lt, e, eb, nI_toInt hb] at q
    omega
  have mv : Rt 59 57 [zR 6 56, zI i, zI k, zI o, zI j, zI n] M (M.1, zcp M.2.1 59 (60 * t + a) 59 (60 * p + b) x, M.2.2) none := by
    refine ro_rt (g_X6_move ?_)
    rw [et, ea, ep, eb, ex, z60, z60, zn_nI (by omega), zn_nI (by omega), zn_nI (by omega)]
    refine ⟨fun q => ?_, rfl, rfl⟩
    rcases q with q | q | q | q | q
    · exact nI_pos (by omega) q
    · exact nI_pos (by omega) q
    · exact nI_pos (by omega) q
    · omega
    · omega
  obtain ⟨M2, v2, f1, f2⟩ := l9_sh1 (d := 59) (i := a) (n := x) ht (by omega) (I := M.1) (L0 := zcp M.2.1 59 (60 * t + a) 59 (60 * p + b) x) (r := M.2.2) (i3 := nI p) (i4 := nI b) (R := fun M' v => v = some (zI (nI x)) ∧ M'.1 = M.1 ∧ M'.2.2 = M.2.2 ∧ M'.2.1 59 = zcp M.2.1 59 (60 * t + a) 59 (60 * p + b) x 59 ∧ ∀ q, M'.2.1 110 q = if 60 * p + b ≤ q ∧ q < 60 * p + b + x then M.2.1 110 (60 * t + a + (q - (60 * p + b))) else M.2.1 110 q) x 0 _ (by omega) (fun _ _ => rfl) (fun q hq => absurd hq (by omega)) (fun L' g1 g2 => by
    obtain ⟨M3, v3, k1, k2, k3, k4, k5, k6⟩ := l9_sh2 (d := 59) (o := p) (j0 := b) (n := x) hp (by omega) (I := M.1) (L0 := L') (r := M.2.2) (i1 := nI t) (i2 := nI a) x 0 L' (by omega) (fun _ _ => rfl) (fun q => by rw [if_neg (by omega)])
    refine ⟨M3, v3, k1, k2, k3, k4, ?_, fun q => ?_⟩
    · rw [k5 59 (by omega), g1 59 (by omega)]
    · rw [k6 q]
      have e110 : L' 110 = M.2.1 110 := by rw [g1 110 (by omega)]; exact zcp_ne (by omega)
      by_cases c : 60 * p + b ≤ q ∧ q < 60 * p + b + x
      · rw [if_pos c, if_pos c, g2 _ (by omega)]
        show zcp M.2.1 59 _ 59 _ x 110 _ = _
        rw [zcp_ne (by omega)]
      · rw [if_neg c, if_neg c, e110])
  obtain ⟨rfl, f2, f3, f4, f5⟩ := f2
  have e22 : (60 * t + a) + 0 = 60 * t + a := rfl
  refine ⟨(M.1, zcp M.2.1 59 (60 * t + a) 59 (60 * p + b) x, M.2.2), M2, zI n, W, h, X8 ⟨fun _ => ⟨M, _, B1, z10, fun _ => ⟨M, _, B2, z10, fun _ => ⟨_, mv, rfl, rfl⟩⟩⟩, fun q => absurd sr q⟩, M9 rfl ⟨fun q => absurd q y1.1, fun _ => ⟨fun q => absurd q y1.2.1, fun _ => ⟨fun q => absurd q y2.2.1, fun _ => ⟨fun q => absurd q y1.2.2, fun _ => ⟨fun q => absurd q y2.2.2, fun _ => ?_⟩⟩⟩⟩⟩, Iv_t (M := M) (fun a _ _ _ _ => by rw [f2]) f3 hi (fun t' ht' => ?_), q6.1⟩
  · rw [et, ea, ep, eb, ex]
    exact ⟨M2, _, f1, rfl, rfl⟩
  · obtain ⟨l', a1, a2, a3, a4, a5⟩ := tp t' ht'
    refine ⟨l', a1, by rw [f2]; exact a2, by rw [f2]; exact a3, by rw [f2]; exact a4, fun q hq => ?_⟩
    rw [f4, f5, zcp_if]
    by_cases c : 60 * p + b ≤ 60 * t' + q ∧ 60 * t' + q < 60 * p + b + x
    · rw [if_pos c, if_pos c, Nat.add_assoc, tv _ (by omega)]
    · rw [if_neg c, if_neg c]; exact a5 q hq
end TB
