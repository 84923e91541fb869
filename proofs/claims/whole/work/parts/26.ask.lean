/-! Asking: the wheel that is asked, goesBehind; the reference's wouldBy -/
def vix (i : Int32) (n : Nat) : Bool := decide (¬ i < 0 ∧ i < nI n)
theorem vix_t {i : Int32} {n : Nat} (hn : n < 2 ^ 31) (h : vix i n = true) : ∃ a, a < n ∧ i = nI a := by
  have h' := of_decide_eq_true h
  obtain ⟨j, hj, e⟩ := nI_of h'.1
  refine ⟨j, ?_, e⟩
  have := h'.2
  rw [e] at this
  exact (nI_ltI hj hn).mp this
theorem vix_f {i : Int32} {n : Nat} (h : vix i n = false) (q : ¬ i < 0) : ¬ i < nI n := fun r => (of_decide_eq_false h) ⟨q, r⟩
theorem nI_m1lt {n : Nat} (hn : n < 2 ^ 30) (i : Int32) : (nI n - 1 < i) = ¬ (i < nI n) := by
  have h1 : (nI n - 1).toInt = (n : Int) - 1 := pk_sub_toInt (b := 1) hn (by omega)
  have h2 := nI_toInt (n := n) (by omega)
  rw [Int32.lt_iff_toInt_lt, Int32.lt_iff_toInt_lt, h1, h2]
  exact propext (by omega)
section AS
variable {d : Nat} {M : ZM} {W : Wv}
theorem c8_isP (hW : WX M 1 W) {i : Int32} : (vix i (wP W) = false → Rt (d + 1) 128 [zR 8 1, zI i] M M (some (zI 0))) ∧ (vix i (wP W) = true → Rt (d + 1) 128 [zR 8 1, zI i] M M (some (zI 1))) := by
  have n4 : M.1 2 4 = nI (wP W) := hW.2.1
  refine ⟨fun h => ro_rt (g_X8_isPerson ?_), fun h => ro_rt (g_X8_isPerson ?_)⟩
  · rw [n4]
    exact ⟨fun _ => ⟨rfl, rfl⟩, fun q => ⟨fun r => absurd r (vix_f h q), fun _ => ⟨rfl, rfl⟩⟩⟩
  · have h' := of_decide_eq_true h
    rw [n4]
    exact ⟨fun q => absurd q h'.1, fun q => ⟨fun r => ⟨rfl, rfl⟩, fun r => absurd h'.2 r⟩⟩
theorem c8_isM (hW : WX M 1 W) {i : Int32} : (vix i (wM W) = false → Rt (d + 1) 129 [zR 8 1, zI i] M M (some (zI 0))) ∧ (vix i (wM W) = true → Rt (d + 1) 129 [zR 8 1, zI i] M M (some (zI 1))) := by
  have n4 : M.1 2 7 = nI (wM W) := hW.2.2.1
  refine ⟨fun h => ro_rt (g_X8_isMatter ?_), fun h => ro_rt (g_X8_isMatter ?_)⟩
  · rw [n4]
    exact ⟨fun _ => ⟨rfl, rfl⟩, fun q => ⟨fun r => absurd r (vix_f h q), fun _ => ⟨rfl, rfl⟩⟩⟩
  · have h' := of_decide_eq_true h
    rw [n4]
    exact ⟨fun q => absurd q h'.1, fun q => ⟨fun r => ⟨rfl, rfl⟩, fun r => absurd h'.2 r⟩⟩
theorem c8_isS (hW : WX M 1 W) {i : Int32} : (vix i (wN W) = false → Rt (d + 1) 127 [zR 8 1, zI i] M M (some (zI 0))) ∧ (vix i (wN W) = true → Rt (d + 1) 127 [zR 8 1, zI i] M M (some (zI 1))) := by
  have n4 : M.1 2 0 = nI (wN W) := hW.1
  refine ⟨fun h => ro_rt (g_X8_isSeat ?_), fun h => ro_rt (g_X8_isSeat ?_)⟩
  · rw [n4]
    exact ⟨fun _ => ⟨rfl, rfl⟩, fun q => ⟨fun r => absurd r (vix_f h q), fun _ => ⟨rfl, rfl⟩⟩⟩
  · have h' := of_decide_eq_true h
    rw [n4]
    exact ⟨fun q => absurd q h'.1, fun q => ⟨fun r => ⟨rfl, rfl⟩, fun r => absurd h'.2 r⟩⟩
theorem c9_in {a b c : Int32} : Rt (d + 1) 136 [zR 9 64, zI a, zI b, zI c] M M (some (zI (zb (decide (¬ a < b ∧ ¬ c < a))))) := by
  refine ro_rt (g_X9_in ⟨fun h => ⟨rfl, ?_⟩, fun h => ⟨fun q => ⟨rfl, ?_⟩, fun q => ⟨rfl, ?_⟩⟩⟩)
  · rw [decide_eq_false (fun x => x.1 h)]; rfl
  · rw [decide_eq_false (fun x => x.2 q)]; rfl
  · rw [decide_eq_true ⟨h, q⟩]; rfl
theorem zb_01 (b : Bool) : zb b = 0 ∨ zb b = 1 := by
  cases b
  · exact Or.inl rfl
  · exact Or.inr rfl
theorem c9_inN {i : Int32} {n : Nat} (hn : n ≤ 100) : Rt (d + 1) 136 [zR 9 64, zI i, zI 0, zI (nI n - 1)] M M (some (zI (zb (vix i n)))) := by
  have h := c9_in (d := d) (M := M) (a := i) (b := 0) (c := nI n - 1)
  have e : decide (¬ i < 0 ∧ ¬ nI n - 1 < i) = vix i n := by
    unfold vix
    have e1 := nI_m1lt (n := n) (by omega) i
    exact decide_eq_decide.mpr ⟨fun q => ⟨q.1, Classical.not_not.mp (by have := q.2; rw [e1] at this; exact this)⟩, fun q => ⟨q.1, by rw [e1]; exact fun r => r q.2⟩⟩
  rw [e] at h
  exact h
theorem c9_isP (hW : WM M W) (hB : WBd W) {i : Int32} : (vix i (wP W) = false → Rt (d + 2) 139 [zR 9 64, zI i] M M (some (zI 0))) ∧ (vix i (wP W) = true → Rt (d + 2) 139 [zR 9 64, zI i] M M (some (zI 1))) := by
  have h : Rt (d + 2) 139 [zR 9 64, zI i] M M (some (zI (zb (vix i (wP W))))) := ro_rt (g_X9_isPerson ⟨M, _, by rw [hW.2.1]; exact c9_inN (by have := hB.2.1; have := hB.2.2.1; omega), zb_01 _, rfl, rfl⟩)
  exact ⟨fun q => by rw [q] at h; exact h, fun q => by rw [q] at h; exact h⟩
theorem c9_isM (hW : WM M W) (hB : WBd W) {i : Int32} : (vix i (wM W) = false → Rt (d + 2) 140 [zR 9 64, zI i] M M (some (zI 0))) ∧ (vix i (wM W) = true → Rt (d + 2) 140 [zR 9 64, zI i] M M (some (zI 1))) := by
  have h : Rt (d + 2) 140 [zR 9 64, zI i] M M (some (zI (zb (vix i (wM W))))) := ro_rt (g_X9_isMatter ⟨M, _, by rw [hW.2.2.1]; exact c9_inN (by have := hB.2.2.2.1; omega), zb_01 _, rfl, rfl⟩)
  exact ⟨fun q => by rw [q] at h; exact h, fun q => by rw [q] at h; exact h⟩
theorem c9_isS (hW : WM M W) (hB : WBd W) {i : Int32} : (vix i (wN W) = false → Rt (d + 2) 138 [zR 9 64, zI i] M M (some (zI 0))) ∧ (vix i (wN W) = true → Rt (d + 2) 138 [zR 9 64, zI i] M M (some (zI 1))) := by
  have h : Rt (d + 2) 138 [zR 9 64, zI i] M M (some (zI (zb (vix i (wN W))))) := ro_rt (g_X9_isSeat ⟨M, _, by rw [hW.1]; exact c9_inN (by have := hB.2.1; omega), zb_01 _, rfl, rfl⟩)
  exact ⟨fun q => by rw [q] at h; exact h, fun q => by rw [q] at h; exact h⟩
theorem zn_0 : zn (0 : Int32) = 0 := rfl
theorem zn_7 : zn (7 : Int32) = 7 := by decide
theorem zn_6 : zn (6 : Int32) = 6 := by decide
/-- one wheel becomes as another -/
theorem c7_become {o p : Nat} (hp : p ≤ 25) (ho : o ≤ 25) (hop : o + 12 ≤ p ∨ p + 12 ≤ o) (hW : WX M p W) : ∃ M', Rt (d + 1) 60 [zR 7 (o + 1), zR 7 (p + 1)] M M' none ∧ WX M' o W ∧ (∀ a, a ≤ o ∨ o + 11 ≤ a → M'.1 a = M.1 a) ∧ M'.2.1 = M.2.1 ∧ (∀ a k, a ≠ o + 1 → M'.2.2.1 a k = M.2.2.1 a k) ∧ M'.2.2.2 = M.2.2.2 := by
  refine ro_rv (g_X7_becomeAs ?_)
  generalize h1 : ((zu M.1 (o + 1) 0 (M.1 (p + 1) 0), M.2) : ZM) = M1
  have f1 : ∀ b, b ≠ o + 1 → M1.1 b = M.1 b := fun b h => by rw [← h1]; exact zu_ne h
  have g1 : ∀ j, j ≠ 0 → M1.1 (o + 1) j = M.1 (o + 1) j := fun j h => by rw [← h1]; exact zu_kn h
  have e1 : M1.1 (o + 1) 0 = M.1 (p + 1) 0 := by rw [← h1]; exact zu_kk
  have r1 : M1.2 = M.2 := by rw [← h1]
  refine a_X7_becomeAs_8 ?_
  generalize h2 : ((zcp M1.1 (p + 2) (zn 0) (o + 2) (zn 0) (zn 7), M1.2) : ZM) = M2
  have f2 : ∀ b, b ≠ o + 2 → M2.1 b = M1.1 b := fun b h => by rw [← h2]; exact zcp_ne h
  have v2 : ∀ k, k < 7 → M2.1 (o + 2) k = M1.1 (p + 2) k := fun k h => by rw [← h2]; exact zcp_all h
  have r2 : M2.2 = M1.2 := by rw [← h2]
  refine a_X7_becomeAs_23 ?_
  generalize h3 : ((zcp M2.1 (p + 3) (zn 0) (o + 3) (zn 0) (zn 7), M2.2) : ZM) = M3
  have f3 : ∀ b, b ≠ o + 3 → M3.1 b = M2.1 b := fun b h => by rw [← h3]; exact zcp_ne h
  have v3 : ∀ k, k < 7 → M3.1 (o + 3) k = M2.1 (p + 3) k := fun k h => by rw [← h3]; exact zcp_all h
  have r3 : M3.2 = M2.2 := by rw [← h3]
  refine a_X7_becomeAs_38 ?_
  generalize h4 : ((zcp M3.1 (p + 4) (zn 0) (o + 4) (zn 0) (zn 7), M3.2) : ZM) = M4
  have f4 : ∀ b, b ≠ o + 4 → M4.1 b = M3.1 b := fun b h => by rw [← h4]; exact zcp_ne h
  have v4 : ∀ k, k < 7 → M4.1 (o + 4) k = M3.1 (p + 4) k := fun k h => by rw [← h4]; exact zcp_all h
  have r4 : M4.2 = M3.2 := by rw [← h4]
  refine a_X7_becomeAs_53 ?_
  generalize h5 : ((zu M4.1 (o + 1) 4 (M4.1 (p + 1) 4), M4.2) : ZM) = M5
  have f5 : ∀ b, b ≠ o + 1 → M5.1 b = M4.1 b := fun b h => by rw [← h5]; exact zu_ne h
  have g5 : ∀ j, j ≠ 4 → M5.1 (o + 1) j = M4.1 (o + 1) j := fun j h => by rw [← h5]; exact zu_kn h
  have e5 : M5.1 (o + 1) 4 = M4.1 (p + 1) 4 := by rw [← h5]; exact zu_kk
  have r5 : M5.2 = M4.2 := by rw [← h5]
  refine a_X7_becomeAs_61 ?_
  generalize h6 : ((zcp M5.1 (p + 5) (zn 0) (o + 5) (zn 0) (zn 7), M5.2) : ZM) = M6
  have f6 : ∀ b, b ≠ o + 5 → M6.1 b = M5.1 b := fun b h => by rw [← h6]; exact zcp_ne h
  have v6 : ∀ k, k < 7 → M6.1 (o + 5) k = M5.1 (p + 5) k := fun k h => by rw [← h6]; exact zcp_all h
  have r6 : M6.2 = M5.2 := by rw [← h6]
  refine a_X7_becomeAs_76 ?_
  generalize h7 : ((zcp M6.1 (p + 6) (zn 0) (o + 6) (zn 0) (zn 7), M6.2) : ZM) = M7
  have f7 : ∀ b, b ≠ o + 6 → M7.1 b = M6.1 b := fun b h => by rw [← h7]; exact zcp_ne h
  have v7 : ∀ k, k < 7 → M7.1 (o + 6) k = M6.1 (p + 6) k := fun k h => by rw [← h7]; exact zcp_all h
  have r7 : M7.2 = M6.2 := by rw [← h7]
  refine a_X7_becomeAs_91 ?_
  generalize h8 : ((zu M7.1 (o + 1) 7 (M7.1 (p + 1) 7), M7.2) : ZM) = M8
  have f8 : ∀ b, b ≠ o + 1 → M8.1 b = M7.1 b := fun b h => by rw [← h8]; exact zu_ne h
  have g8 : ∀ j, j ≠ 7 → M8.1 (o + 1) j = M7.1 (o + 1) j := fun j h => by rw [← h8]; exact zu_kn h
  have e8 : M8.1 (o + 1) 7 = M7.1 (p + 1) 7 := by rw [← h8]; exact zu_kk
  have r8 : M8.2 = M7.2 := by rw [← h8]
  refine a_X7_becomeAs_99 ?_
  generalize h9 : ((zcp M8.1 (p + 7) (zn 0) (o + 7) (zn 0) (zn 6), M8.2) : ZM) = M9
  have f9 : ∀ b, b ≠ o + 7 → M9.1 b = M8.1 b := fun b h => by rw [← h9]; exact zcp_ne h
  have v9 : ∀ k, k < 6 → M9.1 (o + 7) k = M8.1 (p + 7) k := fun k h => by rw [← h9]; exact zcp_all h
  have r9 : M9.2 = M8.2 := by rw [← h9]
  refine a_X7_becomeAs_114 ?_
  generalize h10 : ((zcp M9.1 (p + 8) (zn 0) (o + 8) (zn 0) (zn 6), M9.2) : ZM) = M10
  have f10 : ∀ b, b ≠ o + 8 → M10.1 b = M9.1 b := fun b h => by rw [← h10]; exact zcp_ne h
  have v10 : ∀ k, k < 6 → M10.1 (o + 8) k = M9.1 (p + 8) k := fun k h => by rw [← h10]; exact zcp_all h
  have r10 : M10.2 = M9.2 := by rw [← h10]
  refine a_X7_becomeAs_129 ?_
  generalize h11 : ((zcp M10.1 (p + 9) (zn 0) (o + 9) (zn 0) (zn 6), M10.2) : ZM) = M11
  have f11 : ∀ b, b ≠ o + 9 → M11.1 b = M10.1 b := fun b h => by rw [← h11]; exact zcp_ne h
  have v11 : ∀ k, k < 6 → M11.1 (o + 9) k = M10.1 (p + 9) k := fun k h => by rw [← h11]; exact zcp_all h
  have r11 : M11.2 = M10.2 := by rw [← h11]
  refine a_X7_becomeAs_144 ?_
  generalize h12 : ((zcp M11.1 (p + 10) (zn 0) (o + 10) (zn 0) (zn 6), M11.2) : ZM) = M12
  have f12 : ∀ b, b ≠ o + 10 → M12.1 b = M11.1 b := fun b h => by rw [← h12]; exact zcp_ne h
  have v12 : ∀ k, k < 6 → M12.1 (o + 10) k = M11.1 (p + 10) k := fun k h => by rw [← h12]; exact zcp_all h
  have r12 : M12.2 = M11.2 := by rw [← h12]
  refine a_X7_becomeAs_159 ?_
  generalize h13 : ((zu M12.1 (o + 1) 12 (M12.1 (p + 1) 12), M12.2) : ZM) = M13
  have f13 : ∀ b, b ≠ o + 1 → M13.1 b = M12.1 b := fun b h => by rw [← h13]; exact zu_ne h
  have g13 : ∀ j, j ≠ 12 → M13.1 (o + 1) j = M12.1 (o + 1) j := fun j h => by rw [← h13]; exact zu_kn h
  have e13 : M13.1 (o + 1) 12 = M12.1 (p + 1) 12 := by rw [← h13]; exact zu_kk
  have r13 : M13.2 = M12.2 := by rw [← h13]
  refine a_X7_becomeAs_167 ?_
  refine a_X7_becomeAs_175 ⟨rfl, ?_⟩
  have r : M13.2 = M.2 := ((((((((((((r13.trans r12).trans r11).trans r10).trans r9).trans r8).trans r7).trans r6).trans r5).trans r4).trans r3).trans r2).trans r1)
  have fr : ∀ a, a ≤ o ∨ o + 11 ≤ a → M13.1 a = M.1 a := fun a h => by rw [f13 a (by omega), f12 a (by omega), f11 a (by omega), f10 a (by omega), f9 a (by omega), f8 a (by omega), f7 a (by omega), f6 a (by omega), f5 a (by omega), f4 a (by omega), f3 a (by omega), f2 a (by omega), f1 a (by omega)]
  obtain ⟨q1, q2, q3, q4, q5, q6, q7, q8, q9, q10, q11, q12, q13, q14⟩ := hW
  refine ⟨⟨?_, ?_, ?_, ?_, ?_, ?_, ?_, ?_, ?_, ?_, ?_, ?_, ?_, ?_⟩, fr, congrArg (fun x => x.1) r, fun a k ha => ?_, congrArg (fun x => x.2.2) r⟩
  · show M13.1 (o + 1) 0 = _
    rw [g13 _ (by decide), f12 _ (by omega), f11 _ (by omega), f10 _ (by omega), f9 _ (by omega), g8 _ (by decide), f7 _ (by omega), f6 _ (by omega), g5 _ (by decide), f4 _ (by omega), f3 _ (by omega), f2 _ (by omega), e1]
    exact q1
  · show M13.1 (o + 1) 4 = _
    rw [g13 _ (by decide), f12 _ (by omega), f11 _ (by omega), f10 _ (by omega), f9 _ (by omega), g8 _ (by decide), f7 _ (by omega), f6 _ (by omega), e5, f4 _ (by omega), f3 _ (by omega), f2 _ (by omega), f1 _ (by omega)]
    exact q2
  · show M13.1 (o + 1) 7 = _
    rw [g13 _ (by decide), f12 _ (by omega), f11 _ (by omega), f10 _ (by omega), f9 _ (by omega), e8, f7 _ (by omega), f6 _ (by omega), f5 _ (by omega), f4 _ (by omega), f3 _ (by omega), f2 _ (by omega), f1 _ (by omega)]
    exact q3
  · show M13.1 (o + 1) 12 = _
    rw [e13, f12 _ (by omega), f11 _ (by omega), f10 _ (by omega), f9 _ (by omega), f8 _ (by omega), f7 _ (by omega), f6 _ (by omega), f5 _ (by omega), f4 _ (by omega), f3 _ (by omega), f2 _ (by omega), f1 _ (by omega)]
    exact q4
  · intro k hk
    show M13.1 (o + 2) k = _
    rw [f13 _ (by omega), f12 _ (by omega), f11 _ (by omega), f10 _ (by omega), f9 _ (by omega), f8 _ (by omega), f7 _ (by omega), f6 _ (by omega), f5 _ (by omega), f4 _ (by omega), f3 _ (by omega), v2 k hk, f1 _ (by omega)]
    exact q5 k hk
  · intro k hk
    show M13.1 (o + 3) k = _
    rw [f13 _ (by omega), f12 _ (by omega), f11 _ (by omega), f10 _ (by omega), f9 _ (by omega), f8 _ (by omega), f7 _ (by omega), f6 _ (by omega), f5 _ (by omega), f4 _ (by omega), v3 k hk, f2 _ (by omega), f1 _ (by omega)]
    exact q6 k hk
  · intro k hk
    show M13.1 (o + 4) k = _
    rw [f13 _ (by omega), f12 _ (by omega), f11 _ (by omega), f10 _ (by omega), f9 _ (by omega), f8 _ (by omega), f7 _ (by omega), f6 _ (by omega), f5 _ (by omega), v4 k hk, f3 _ (by omega), f2 _ (by omega), f1 _ (by omega)]
    exact q7 k hk
  · intro k hk
    show M13.1 (o + 5) k = _
    rw [f13 _ (by omega), f12 _ (by omega), f11 _ (by omega), f10 _ (by omega), f9 _ (by omega), f8 _ (by omega), f7 _ (by omega), v6 k hk, f5 _ (by omega), f4 _ (by omega), f3 _ (by omega), f2 _ (by omega), f1 _ (by omega)]
    exact q8 k hk
  · intro k hk
    show M13.1 (o + 6) k = _
    rw [f13 _ (by omega), f12 _ (by omega), f11 _ (by omega), f10 _ (by omega), f9 _ (by omega), f8 _ (by omega), v7 k hk, f6 _ (by omega), f5 _ (by omega), f4 _ (by omega), f3 _ (by omega), f2 _ (by omega), f1 _ (by omega)]
    exact q9 k hk
  · intro k hk
    show M13.1 (o + 7) k = _
    rw [f13 _ (by omega), f12 _ (by omega), f11 _ (by omega), f10 _ (by omega), v9 k hk, f8 _ (by omega), f7 _ (by omega), f6 _ (by omega), f5 _ (by omega), f4 _ (by omega), f3 _ (by omega), f2 _ (by omega), f1 _ (by omega)]
    exact q10 k hk
  · intro k hk
    show M13.1 (o + 8) k = _
    rw [f13 _ (by omega), f12 _ (by omega), f11 _ (by omega), v10 k hk, f9 _ (by omega), f8 _ (by omega), f7 _ (by omega), f6 _ (by omega), f5 _ (by omega), f4 _ (by omega), f3 _ (by omega), f2 _ (by omega), f1 _ (by omega)]
    exact q11 k hk
  · intro k hk
    show M13.1 (o + 9) k = _
    rw [f13 _ (by omega), f12 _ (by omega), v11 k hk, f10 _ (by omega), f9 _ (by omega), f8 _ (by omega), f7 _ (by omega), f6 _ (by omega), f5 _ (by omega), f4 _ (by omega), f3 _ (by omega), f2 _ (by omega), f1 _ (by omega)]
    exact q12 k hk
  · intro k hk
    show M13.1 (o + 10) k = _
    rw [f13 _ (by omega), v12 k hk, f11 _ (by omega), f10 _ (by omega), f9 _ (by omega), f8 _ (by omega), f7 _ (by omega), f6 _ (by omega), f5 _ (by omega), f4 _ (by omega), f3 _ (by omega), f2 _ (by omega), f1 _ (by omega)]
    exact q13 k hk
  · have hr : zu M13.2.2.1 (o + 1) 13 (M13.2.2.1 (p + 1) 13) (o + 1) 13 = M.2.2.1 (p + 1) 13 := zu_kk.trans (by rw [r])
    rcases q14 with ⟨x, y⟩ | ⟨b, x, y, z⟩
    · exact Or.inl ⟨hr.trans x, y⟩
    · exact Or.inr ⟨b, hr.trans x, y, HX_eq (fun c h1 h2 => fr c (by omega)) z⟩
  · show zu M13.2.2.1 (o + 1) 13 _ a k = _
    rw [zu_ne ha, r]
end AS
