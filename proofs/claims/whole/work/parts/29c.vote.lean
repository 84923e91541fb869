/-! The calls: idle, vote -/
noncomputable def wDe (W : Wv) (m : Nat) : Wv := if sGo W m = 1 then wTu (wCa W (fun k => if k = m then true else wC W k)) (wT W + 1) else if sGo W m = 2 then W else wTu W (wT W + 1)
theorem wDe_B {W : Wv} {m : Nat} (hB : WBd W) (ht : wT W + 1 ≤ 100000) : WBd (wDe W m) := by
  unfold wDe
  split
  · exact wTu_B hB ht
  · split
    · exact hB
    · exact wTu_B hB ht
theorem WX_car {M : ZM} {o m : Nat} {W : Wv} (ho : o ≤ 25) (q : WX M o W) : WX (zu M.1 (o + 10) m 1, M.2) o (wCa W (fun k => if k = m then true else wC W k)) := by
  obtain ⟨q1, q2, q3, q4, q5, q6, q7, q8, q9, q10, q11, q12, q13, q14⟩ := q
  have f : ∀ a, a ≠ o + 10 → zu M.1 (o + 10) m 1 a = M.1 a := fun a h => zu_ne h
  refine ⟨?_, ?_, ?_, ?_, ?_, ?_, ?_, ?_, ?_, ?_, ?_, ?_, ?_, WX14 (M := M) rfl (fun a ha => f a (by omega)) q14⟩
  · exact (congrFun (f _ (by omega)) 0).trans q1
  · exact (congrFun (f _ (by omega)) 4).trans q2
  · exact (congrFun (f _ (by omega)) 7).trans q3
  · exact (congrFun (f _ (by omega)) 12).trans q4
  · intro k hk; exact (congrFun (f _ (by omega)) k).trans (q5 k hk)
  · intro k hk; exact (congrFun (f _ (by omega)) k).trans (q6 k hk)
  · intro k hk; exact (congrFun (f _ (by omega)) k).trans (q7 k hk)
  · intro k hk; exact (congrFun (f _ (by omega)) k).trans (q8 k hk)
  · intro k hk; exact (congrFun (f _ (by omega)) k).trans (q9 k hk)
  · intro k hk; exact (congrFun (f _ (by omega)) k).trans (q10 k hk)
  · intro k hk; exact (congrFun (f _ (by omega)) k).trans (q11 k hk)
  · intro k hk; exact (congrFun (f _ (by omega)) k).trans (q12 k hk)
  · intro k hk
    show zu M.1 (o + 10) m 1 (o + 10) k = zb (if k = m then true else wC W k)
    refine Eq.trans (b := if k = m then 1 else M.1 (o + 10) k) zu_if ?_
    split
    · rfl
    · exact q13 k hk
theorem WM_car {M : ZM} {m : Nat} {W : Wv} {x : Int32} {f : Nat → Bool} (hx : ∀ k, (if k = m then x else zb (wC W k)) = zb (f k)) (q : WM M W) : WM (zu M.1 73 m x, M.2) (wCa W f) := by
  obtain ⟨q1, q2, q3, q4, q5, q6, q7, q8, q9, q10, q11, q12, q13, q14⟩ := q
  refine ⟨q1, q2, q3, q4, q5, q6, q7, q8, q9, q10, q11, q12, fun k hk => ?_, WM14 (M := M) rfl (fun a _ _ => zu_ne (by omega)) q14⟩
  refine Eq.trans (b := if k = m then x else M.1 73 k) zu_if ?_
  rw [q13 k hk]
  exact hx k
theorem WM_same {M : ZM} {m : Nat} {W : Wv} {x : Int32} (hx : x = 0) (hc : wC W m = false) (q : WM M W) : WM (zu M.1 73 m x, M.2) W := WM_car (f := wC W) (fun k => by
  split
  · rename_i h
    rw [h, hc, hx]
    rfl
  · rfl) q
section DE
variable {d o : Nat} {M : ZM} {W : Wv}
theorem c7_decide (ho : o ≤ 25) (hW : WX M o W) (hB : WBd W) {m : Nat} (hm : m < wM W) : ∃ M', Rt (d + 6) 77 [zR 7 (o + 1), zI (nI m)] M M' (some (zI (nI (sGo W m)))) ∧ WX M' o (wDe W m) ∧ (∀ a, a ≠ o + 1 → a ≠ o + 10 → a ≠ o + 11 → a ≠ o + 12 → M'.1 a = M.1 a) ∧ M'.2 = M.2 := by
  have b4 := hB.2.2.2.1
  obtain ⟨M1, h1, f1, s1⟩ := c7_hear (d := d) ho hW hB hm
  have w1 := WX_FX ho f1 hW
  have h2 := c7_goes (d := d + 1) (S := fun p => sSays W p m) w1 hB s1 (by omega : m < 6)
  have e2 : sGoes W (fun p => sSays W p m) m = sGo W m := rfl
  rw [e2] at h2
  have hl : sGo W m < 3 := sGoes_lt
  have n12 : M1.1 (o + 1) 12 = nI (wT W) := w1.2.2.2.1
  have e21 : ¬ (2 : Int32) = 1 := by decide
  have e12 : ¬ (1 : Int32) = 2 := by decide
  refine ro_rv (g_X7_decide ⟨M1, h1, M1, _, h2, ?_⟩)
  have e2' : (nI (sGo W m) = 2) = (sGo W m = 2) := nI_eqe (b := 2) (by omega) (by omega)
  rw [nI_1e (by omega), e2', zn_nI (by omega), n12, nI_1]
  have z12 : zu M1.1 (o + 10) m 1 (o + 1) 12 = nI (wT W) := by rw [zu_ne (by omega)]; exact n12
  rw [z12, nI_1]
  have fr : ∀ (f : Nat → Nat → Int32), (∀ a, a ≠ o + 1 → a ≠ o + 10 → f a = M1.1 a) → ∀ a, a ≠ o + 1 → a ≠ o + 10 → a ≠ o + 11 → a ≠ o + 12 → f a = M.1 a := fun f hf a h1 h2 h3 h4 => (hf a h1 h2).trans (f1.1 a h3 h4)
  refine ⟨fun q => ⟨in_n (by omega) (by omega), fun r => absurd (q.symm.trans r) (by decide), fun _ => ⟨rfl, ?_, fr _ (fun a h1 h2 => (zu_ne h1).trans (zu_ne h2)), f1.2⟩⟩, fun q => ⟨fun r => ⟨rfl, ?_, fr _ (fun a _ _ => rfl), f1.2⟩, fun r => ⟨rfl, ?_, fr _ (fun a h1 _ => zu_ne h1), f1.2⟩⟩⟩
  · unfold wDe
    rw [if_pos q]
    exact WX_turn ho (WX_car ho w1)
  · unfold wDe
    rw [if_neg q, if_pos r]
    exact w1
  · unfold wDe
    rw [if_neg q, if_neg r]
    exact WX_turn ho w1
/-- the reference's goes and what is set behind it; the end told by a property -/
theorem c9_set (hW : WM M W) (hB : WBd W) {m : Nat} (hm : m < wM W) (hc : wC W m = false) : WM (zu (zu M.1 73 m (zb (decide (sGo W m = 1)))) 64 3 (nI (wT W + (if sGo W m = 2 then 0 else 1))), M.2) (wDe W m) := by
  unfold wDe
  by_cases q : sGo W m = 1
  · rw [if_pos q, decide_eq_true q, if_neg (by omega)]
    refine WM_turn (WM_car (W := W) (fun k => ?_) hW)
    split <;> rfl
  · rw [if_neg q, decide_eq_false q]
    by_cases r : sGo W m = 2
    · rw [if_pos r, if_pos r]
      exact WM_turn (t := wT W) (WM_same (m := m) (x := zb false) rfl hc hW)
    · rw [if_neg r, if_neg r]
      exact WM_turn (WM_same (m := m) (x := zb false) rfl hc hW)
end DE
theorem op_idle (i : Int32) : Op 94 186 [zI i] := fun M W h hi => by
  have T := hi.2.2.2.1
  have V := hi.2.2.2.2.2.2.2.2.2.2.2.2.2
  have B := hi.2.2.1
  have x12 : M.1 2 12 = nI (wT W) := hi.1.2.2.2.1
  have m3 : M.1 64 3 = nI (wT W) := hi.2.1.2.2.2.1
  by_cases c : ¬ i < 0 ∧ ¬ (60 : Int32) < i
  case neg => exact op_z (v := zI (-2)) hi (ro_rt (g_X8_idle ⟨fun _ => ⟨rfl, rfl⟩, fun q => ⟨fun _ => ⟨rfl, rfl⟩, fun r => absurd ⟨q, r⟩ c⟩⟩)) (ro_rt (g_X9_idle ⟨M, _, in_0 c, fun _ => ⟨rfl, rfl⟩, z00⟩))
  obtain ⟨n, _, hn, e⟩ := rng (lo := 0) (hi := 60) (by omega) (by omega) c
  have s : nI (wT W) + i = nI (wT W + n) := by rw [e, nI_add]
  by_cases p : (9999 : Int32) < nI (wT W + n)
  · refine op_z (v := zI (-3)) hi (ro_rt (g_X8_idle ⟨fun q => absurd q c.1, fun _ => ⟨fun q => absurd q c.2, fun _ => ?_⟩⟩)) (ro_rt (g_X9_idle ⟨M, _, in_1 c, z10, fun _ => ?_⟩))
    · rw [x12, s]; exact ⟨fun _ => ⟨rfl, rfl⟩, fun q => absurd p q⟩
    · rw [m3, s]; exact ⟨fun _ => ⟨rfl, rfl⟩, fun q => absurd p q⟩
  have hT : wT W + n ≤ 9999 := Nat.le_of_not_lt (fun q => p (nI_lt (a := 9999) q (by omega)))
  have y3 : zu M.1 2 12 (nI (wT W + n)) 64 3 = nI (wT W) := m3
  have wx : WX (zu M.1 2 12 (nI (wT W + n)), M.2) 1 (wTu W (wT W + n)) := WX_turn (o := 1) (by omega) hi.1
  have wm : WM (zu M.1 2 12 (nI (wT W + n)), M.2) W := WM_eq (fun a _ _ => zu_ne (by omega)) hi.2.1
  refine ⟨(zu M.1 2 12 (nI (wT W + n)), M.2), (zu (zu M.1 2 12 (nI (wT W + n))) 64 3 (nI (wT W + n)), M.2), zI (nI (wT W + n)), wTu W (wT W + n), h, ro_rt (g_X8_idle ⟨fun q => absurd q c.1, fun _ => ⟨fun q => absurd q c.2, fun _ => ?_⟩⟩), ro_rt (g_X9_idle ⟨_, _, in_1 c, z10, fun _ => ?_⟩), Iv_w ⟨fun a _ r s => (zu_ne (by omega)).trans (zu_ne (by omega)), fun j hj => zu_kn (by omega), rfl, fun _ _ _ => rfl, rfl⟩ hi (WX_eq (M := (zu M.1 2 12 (nI (wT W + n)), M.2)) (by omega) (fun a _ _ => zu_ne (by omega)) rfl (fun a h1 _ _ => zu_ne (by omega)) wx) (WM_turn wm) (wTu_B B (by omega)) hT V (Nat.le_refl _), hi.2.2.2.2.2.1.1⟩
  · rw [x12, s]; exact ⟨fun q => absurd q p, fun _ => ⟨rfl, rfl⟩⟩
  · dsimp only; rw [y3, s]; exact ⟨fun q => absurd q p, fun _ => ⟨rfl, rfl⟩⟩
theorem op_vote (i : Int32) : Op 93 185 [zI i] := fun M W h hi => by
  have T := hi.2.2.2.1
  have V := hi.2.2.2.2.2.2.2.2.2.2.2.2.2
  have B := hi.2.2.1
  have b4 := B.2.2.2.1
  cases hv : vix i (wM W)
  · exact op_z (v := zI (-1)) hi (ro_rt (g_X8_vote ⟨M, _, (c8_isM hi.1).1 hv, fun _ => ⟨rfl, rfl⟩, z00⟩)) (ro_rt (g_X9_vote ⟨M, _, (c9_isM hi.2.1 B).1 hv, fun _ => ⟨rfl, rfl⟩, z00⟩))
  obtain ⟨m, hm, em⟩ := vix_t (by omega) hv
  have zs : zn i = m := by rw [em]; exact zn_nI (by omega)
  have is : ¬ (i < 0 ∨ 6 ≤ zn i) := by rw [em]; exact in_nI (by omega) (by omega)
  have x12 : M.1 2 12 = nI (wT W) := hi.1.2.2.2.1
  have m3 : M.1 64 3 = nI (wT W) := hi.2.1.2.2.2.1
  have xc : M.1 11 (zn i) = zb (wC W m) := by rw [zs]; exact hi.1.2.2.2.2.2.2.2.2.2.2.2.2.1 m (by omega)
  have mc : M.1 73 (zn i) = zb (wC W m) := by rw [zs]; exact hi.2.1.2.2.2.2.2.2.2.2.2.2.2.2.1 m (by omega)
  have x9 : (nI (wT W) < 9999) = (wT W < 9999) := nI_lte (b := 9999) (by omega) (by omega)
  have m9 : (nI (wT W) = 9999) = (wT W = 9999) := nI_eqe (b := 9999) (by omega) (by omega)
  cases hc : wC W m
  case true =>
    refine op_z (v := zI (-3)) hi (ro_rt (g_X8_vote ⟨M, _, (c8_isM hi.1).2 hv, z10, fun _ => ⟨is, ?_⟩⟩)) (ro_rt (g_X9_vote ⟨M, _, (c9_isM hi.2.1 B).2 hv, z10, fun _ => ⟨is, ?_⟩⟩))
    · rw [xc, hc]; exact ⟨fun _ => ⟨rfl, rfl⟩, fun q => absurd rfl q⟩
    · rw [mc, hc]; exact ⟨z10, fun _ => ⟨rfl, rfl⟩⟩
  rw [hc] at xc mc
  by_cases p : wT W < 9999
  case neg =>
    refine op_z (v := zI (-3)) hi (ro_rt (g_X8_vote ⟨M, _, (c8_isM hi.1).2 hv, z10, fun _ => ⟨is, ?_⟩⟩)) (ro_rt (g_X9_vote ⟨M, _, (c9_isM hi.2.1 B).2 hv, z10, fun _ => ⟨is, ?_⟩⟩))
    · rw [xc, x12, x9]; exact ⟨fun q => absurd q (by decide), fun _ => ⟨fun q => absurd q p, fun _ => ⟨rfl, rfl⟩⟩⟩
    · rw [mc, m3, m9]; exact ⟨fun _ => ⟨fun _ => ⟨rfl, rfl⟩, fun q => absurd (by omega) q⟩, fun q => absurd rfl q⟩
  obtain ⟨M1, h1, w1, f1, g1⟩ := c7_decide (d := 53) (o := 1) (by omega) hi.1 B hm
  have wm1 : WM M1 W := WM_eq (fun a _ _ => f1 a (by omega) (by omega) (by omega) (by omega)) hi.2.1
  obtain ⟨M2, h2, f2, s2⟩ := c9_goes (d := 49) wm1 B hm
  have wm2 := WM_FM f2 wm1
  have m3' : M2.1 64 3 = nI (wT W) := wm2.2.2.2.1
  have cs := c9_set wm2 B hm hc
  have hl : sGo W m < 3 := sGoes_lt
  have k1 : M1.1 73 (zn i) = 0 := by rw [f1 73 (by omega) (by omega) (by omega) (by omega), mc]; rfl
  have k2 : ¬ M1.1 64 3 = 9999 := by rw [wm1.2.2.2.1, m9]; omega
  have fin : Iv (zu (zu M2.1 73 m (zb (decide (sGo W m = 1)))) 64 3 (nI (wT W + (if sGo W m = 2 then 0 else 1))), M2.2) (wDe W m) h := by
    refine Iv_w ⟨fun a ha r s => ?_, fun j hj => ?_, ?_, fun a k _ => ?_, ?_⟩ hi ?_ cs (wDe_B B (by omega)) ?_ ?_ ?_
    · refine (zu_ne (by omega)).trans ((zu_ne (by omega)).trans ((f2.1 a ?_ ?_).trans (f1 a (by omega) (by omega) ?_ ?_)))
      all_goals (unfold qa at ha; omega)
    · refine (zu_kn (by omega)).trans ?_
      show zu M2.1 73 m _ 64 j = _
      rw [zu_ne (by omega), f2.1 64 (by omega) (by omega), f1 64 (by omega) (by omega) (by omega) (by omega)]
    · show M2.2.1 = _
      rw [f2.2, g1]
    · show M2.2.2.1 a k = _
      rw [f2.2, g1]
    · show M2.2.2.2 = _
      rw [f2.2, g1]
    · refine WX_eq (by omega) (fun a _ _ => (zu_ne (by omega)).trans ((zu_ne (by omega)).trans (f2.1 a (by omega) (by omega)))) ?_ (fun a h1 _ _ => (zu_ne (by omega)).trans ((zu_ne (by omega)).trans (f2.1 a (by omega) (by omega)))) w1
      show M2.2.2.1 _ _ = _
      rw [f2.2]
    · unfold wDe
      split
      · show wT W + 1 ≤ 9999; omega
      · split
        · exact T
        · show wT W + 1 ≤ 9999; omega
    · unfold wDe
      split
      · exact V
      · split
        · exact V
        · exact V
    · unfold wDe
      split
      · exact Nat.le_refl _
      · split
        · exact Nat.le_refl _
        · exact Nat.le_refl _
  refine ⟨M1, _, zI (nI (sGo W m)), wDe W m, h, ro_rt (g_X8_vote ⟨M, _, (c8_isM hi.1).2 hv, z10, fun _ => ⟨is, ?_⟩⟩), ro_rt (g_X9_vote ⟨M1, _, (c9_isM wm1 B).2 hv, z10, fun _ => ⟨is, fun _ => ⟨fun q => absurd q k2, fun _ => ⟨M2, _, by rw [em]; exact h2, ?_⟩⟩, fun q => absurd k1 q⟩⟩), fin, hi.2.2.2.2.2.1.1⟩
  · rw [xc, x12, x9]
    exact ⟨fun q => absurd q (by decide), fun _ => ⟨fun _ => ⟨M1, _, by rw [em]; exact h1, rfl, rfl⟩, fun q => absurd p q⟩⟩
  · have z0 : nI (wT W) + 0 = nI (wT W) := by rw [l_0, nI_add]; rfl
    have is' : ¬ (i < 0 ∨ 6 ≤ m) := by rw [zs] at is; exact is
    have e2' : (nI (sGo W m) = 2) = (sGo W m = 2) := nI_eqe (b := 2) (by omega) (by omega)
    rw [m3', zs, nar_1, nar_0, z0, nI_1, nI_1e (by omega), e2']
    refine ⟨fun q => ⟨is', fun r => absurd (q.symm.trans r) (by decide), fun _ => ⟨?_, rfl⟩⟩, fun q => ⟨is', fun r => ⟨?_, rfl⟩, fun r => ⟨?_, rfl⟩⟩⟩
    · rw [decide_eq_true q, if_neg (by omega)]; rfl
    · rw [decide_eq_false q, if_pos r]; rfl
    · rw [decide_eq_false q, if_neg r]; rfl
