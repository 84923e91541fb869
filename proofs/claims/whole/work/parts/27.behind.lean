/-! goesBehind, wouldBy -/
theorem wTu_B {W : Wv} {t : Nat} (hB : WBd W) (ht : t ≤ 100000) : WBd (wTu W t) := ⟨hB.1, hB.2.1, hB.2.2.1, hB.2.2.2.1, ht, hB.2.2.2.2.2⟩
theorem WX_turn {M : ZM} {o : Nat} {W : Wv} {t : Nat} (ho : o ≤ 25) (q : WX M o W) : WX (zu M.1 (o + 1) 12 (nI t), M.2) o (wTu W t) := by
  obtain ⟨q1, q2, q3, q4, q5, q6, q7, q8, q9, q10, q11, q12, q13, q14⟩ := q
  have f : ∀ a, a ≠ o + 1 → zu M.1 (o + 1) 12 (nI t) a = M.1 a := fun a h => zu_ne h
  refine ⟨?_, ?_, ?_, ?_, ?_, ?_, ?_, ?_, ?_, ?_, ?_, ?_, ?_, ?_⟩
  · exact (zu_kn (by decide)).trans q1
  · exact (zu_kn (by decide)).trans q2
  · exact (zu_kn (by decide)).trans q3
  · exact zu_kk
  · intro k hk; exact (congrFun (f _ (by omega)) k).trans (q5 k hk)
  · intro k hk; exact (congrFun (f _ (by omega)) k).trans (q6 k hk)
  · intro k hk; exact (congrFun (f _ (by omega)) k).trans (q7 k hk)
  · intro k hk; exact (congrFun (f _ (by omega)) k).trans (q8 k hk)
  · intro k hk; exact (congrFun (f _ (by omega)) k).trans (q9 k hk)
  · intro k hk; exact (congrFun (f _ (by omega)) k).trans (q10 k hk)
  · intro k hk; exact (congrFun (f _ (by omega)) k).trans (q11 k hk)
  · intro k hk; exact (congrFun (f _ (by omega)) k).trans (q12 k hk)
  · intro k hk; exact (congrFun (f _ (by omega)) k).trans (q13 k hk)
  · rcases q14 with ⟨x, y⟩ | ⟨b, x, y, z⟩
    · exact Or.inl ⟨x, y⟩
    · exact Or.inr ⟨b, x, y, HX_eq (fun c h1 h2 => f c (by omega)) z⟩
theorem WM_turn {M : ZM} {W : Wv} {t : Nat} (q : WM M W) : WM (zu M.1 64 3 (nI t), M.2) (wTu W t) := by
  obtain ⟨q1, q2, q3, q4, q5, q6, q7, q8, q9, q10, q11, q12, q13, q14⟩ := q
  have g : ∀ j, j ≠ 3 → zu M.1 64 3 (nI t) 64 j = M.1 64 j := fun j h => zu_kn h
  have e : zu M.1 64 3 (nI t) 64 3 = nI t := zu_kk
  have f : ∀ a, a ≠ 64 → zu M.1 64 3 (nI t) a = M.1 a := fun a h => zu_ne h
  refine ⟨?_, ?_, ?_, ?_, ?_, ?_, ?_, ?_, ?_, ?_, ?_, ?_, ?_, ?_⟩
  · exact (g 0 (by decide)).trans q1
  · exact (g 1 (by decide)).trans q2
  · exact (g 2 (by decide)).trans q3
  · exact e
  · intro k hk; exact (congrFun (f _ (by decide)) k).trans (q5 k hk)
  · intro k hk; exact (congrFun (f _ (by decide)) k).trans (q6 k hk)
  · intro k hk; exact (congrFun (f _ (by decide)) k).trans (q7 k hk)
  · intro k hk; exact (congrFun (f _ (by decide)) k).trans (q8 k hk)
  · intro k hk; exact (congrFun (f _ (by decide)) k).trans (q9 k hk)
  · intro k hk; exact (congrFun (f _ (by decide)) k).trans (q10 k hk)
  · intro k hk; exact (congrFun (f _ (by decide)) k).trans (q11 k hk)
  · intro k hk; exact (congrFun (f _ (by decide)) k).trans (q12 k hk)
  · intro k hk; exact (congrFun (f _ (by decide)) k).trans (q13 k hk)
  · rcases q14 with ⟨x, y⟩ | ⟨b, x, y, z⟩
    · exact Or.inl ⟨(g 14 (by decide)).trans x, y⟩
    · refine Or.inr ⟨b, (g 14 (by decide)).trans x, y, ?_⟩
      unfold HM at z ⊢
      show zu M.1 64 3 (nI t) 75 b = _ ∧ _
      rw [f 75 (by decide)]
      exact ⟨z.1, z.2.1, HMr_eq (fun c h1 h2 => by by_cases hc : c = 64; omega; exact f c hc) _ _ z.2.2⟩
section BE
variable {d : Nat} {M : ZM} {W : Wv}
theorem c8_ask (hW : WX M 1 W) : ∃ M', Rt (d + 2) 131 [zR 8 1] M M' none ∧ WX M' 25 W ∧ Gq M M' := by
  obtain ⟨M1, h1, w1, f1, j1, r1, t1⟩ := c7_become (d := d) (o := 25) (p := 1) (by omega) (by omega) (by omega) hW
  exact ro_rv (g_X8_ask ⟨M1, h1, rfl, w1, fun a h => f1 a (by unfold qa at h; omega), j1, r1, t1⟩)
/-- a vote on the wheel that is asked, k turns from now -/
theorem c8_behind {W' : Wv} (hW : WX M 1 W) (hA : WX M 25 W') (hB : WBd W') {m k : Nat} (hm : m < wM W') (ht : wT W + k ≤ 100000) : ∃ M', Rt (d + 6) 132 [zR 8 1, zI (nI m), zI (nI k)] M M' (some (zI (nI (sGo (wTu W' (wT W + k)) m)))) ∧ WX M' 25 (wTu W' (wT W + k)) ∧ Gq M M' ∧ (∀ p, p < wP W' → M'.1 36 p = sSays (wTu W' (wT W + k)) p m) := by
  have hb := wTu_B hB ht
  have b4 := hB.2.2.2.1
  have w1 := WX_turn (t := wT W + k) (by omega) hA
  obtain ⟨M1, h1, f1, s1⟩ := c7_hear (d := d) (by omega) w1 hb (m := m) hm
  have w2 := WX_FX (by omega) f1 w1
  have g0 : Gq M (zu M.1 26 12 (nI (wT W + k)), M.2) := ⟨fun a h => zu_ne (by unfold qa at h; omega), rfl, fun _ _ _ => rfl, rfl⟩
  refine ro_rv (g_X8_goesBehind ⟨M1, ?_, M1, _, c7_goes (S := fun p => sSays (wTu W' (wT W + k)) p m) w2 hb s1 (by omega), rfl, w2, g0.trans f1.q25, s1⟩)
  have n12 : M.1 2 12 = nI (wT W) := hW.2.2.2.1
  rw [n12, nI_add]
  exact h1
theorem zu_back {f g : Nat → Nat → Int32} {a k : Nat} {v : Int32} (h : ∀ j, j ≠ k → f a j = g a j) (hv : v = g a k) : zu f a k v a = g a := by
  funext j
  by_cases hj : j = k
  · rw [hj, zu_kk, hv]
  · rw [zu_kn hj, h j hj]
theorem c9_would (hW : WM M W) (hB : WBd W) {m k : Nat} (hm : m < wM W) (ht : wT W + k ≤ 100000) : ∃ M', Rt (d + 11) 187 [zR 9 64, zI (nI m), zI (nI k)] M M' (some (zI (nI (sGo (wTu W (wT W + k)) m)))) ∧ Gq M M' := by
  have hb := wTu_B hB ht
  have w1 := WM_turn (t := wT W + k) hW
  obtain ⟨M1, h1, f1, s1⟩ := c9_goes (d := d) w1 hb (m := m) hm
  have n3 : M.1 64 3 = nI (wT W) := hW.2.2.2.1
  have e1 : M1.1 64 = zu M.1 64 3 (nI (wT W + k)) 64 := f1.1 64 (by omega) (by omega)
  refine ro_rv (g_X9_wouldBy ⟨M1, _, by rw [n3, nI_add]; exact h1, rfl, fun a h => ?_, by rw [f1.2], fun _ _ _ => by rw [f1.2], by rw [f1.2]⟩)
  by_cases ha : a = 64
  · rw [ha]
    refine zu_back (fun j hj => ?_) ?_
    · rw [e1, zu_kn hj]
    · rw [e1, zu_kk, pk_sub (by omega), n3, Nat.add_sub_cancel]
  · show zu M1.1 64 3 _ a = _
    rw [zu_ne ha, f1.1 a (by unfold qa at h; omega) (by unfold qa at h; omega)]
    exact zu_ne ha
end BE
