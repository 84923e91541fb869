/-! The call up (2), bestSeat -/
section UQ
variable {d : Nat} {M : ZM} {W : Wv}
theorem l9_up_20 {M0 : ZM} {i1 i2 : Int32} {R : ZM → Option ZV → Prop} : ∀ (j k : Nat) (M : ZM), k + j = 7 → (∀ a, a ≠ 87 → a ≠ 88 → M.1 a = M0.1 a) → M.2 = M0.2 → (∀ q, M.1 87 q = (if q < k then M0.1 68 q else M0.1 87 q) ∧ M.1 88 q = (if q < k then M0.1 69 q else M0.1 88 q)) → (∀ M' : ZM, (∀ a, a ≠ 87 → a ≠ 88 → M'.1 a = M0.1 a) → M'.2 = M0.2 → (∀ q, M'.1 87 q = (if q < 7 then M0.1 68 q else M0.1 87 q) ∧ M'.1 88 q = (if q < 7 then M0.1 69 q else M0.1 88 q)) → A_X9_up_58 d M' i1 i2 0 R) → A_X9_up_20 d M i1 i2 (nI k) R := by
  intro j
  induction j with
  | zero =>
    intro k M hk hf hr hq K
    have e : k = 7 := by omega
    subst e
    exact a_X9_up_20 ⟨fun q => absurd q (nI_nlt (b := 7) (by omega) (by omega)), fun _ => K M hf hr hq⟩
  | succ j ih =>
    intro k M hk hf hr hq K
    refine a_X9_up_20 ?_
    rw [zn_nI (by omega), nI_1]
    refine ⟨fun _ => ⟨in_n (by omega) (by omega), in_n (by omega) (by omega), in_n (by omega) (by omega), in_n (by omega) (by omega), ih (k + 1) _ (by omega) (fun a h0 h1 => (zu_ne h1).trans ((zu_ne h0).trans (hf a h0 h1))) hr (fun q => ?_) K⟩, fun q => absurd (nI_lt (b := 7) (by omega) (by omega)) q⟩
    have hs : ∀ s, s ≠ 87 ∧ s ≠ 88 → M.1 s = M0.1 s := fun s h => hf s (by omega) (by omega)
    by_cases e : q = k
    · rw [e]
      refine ⟨?_, ?_⟩
      · refine Eq.trans (zu_kk (f := M.1) (a := 87) (k := k) (v := M.1 68 k)) ?_
        rw [hs 68 (by omega), if_pos (Nat.lt_succ_self k)]
      · refine Eq.trans (zu_kk (f := M.1) (a := 88) (k := k) (v := M.1 69 k)) ?_
        rw [hs 69 (by omega), if_pos (Nat.lt_succ_self k)]
    · have h' := hq q
      have hi : ∀ (x y : Int32), (if q < k + 1 then x else y) = (if q < k then x else y) := fun x y => by
        by_cases c : q < k
        · rw [if_pos c, if_pos (by omega)]
        · rw [if_neg c, if_neg (by omega)]
      simp only [hi]
      refine ⟨?_, ?_⟩
      · exact Eq.trans (zu_kn (f := M.1) (a := 87) (k := k) (v := M.1 68 k) e) h'.1
      · exact Eq.trans (zu_kn (f := M.1) (a := 88) (k := k) (v := M.1 69 k) e) h'.2
theorem l9_up_204 {M0 : ZM} {i1 i2 i3 : Int32} {R : ZM → Option ZV → Prop} : ∀ (j k : Nat) (M : ZM), k + j = 7 → (∀ a, a ≠ 68 → a ≠ 69 → M.1 a = M0.1 a) → M.2 = M0.2 → (∀ q, M.1 68 q = (if q < k then M0.1 87 q else M0.1 68 q) ∧ M.1 69 q = (if q < k then M0.1 88 q else M0.1 69 q)) → (∀ M' : ZM, (∀ a, a ≠ 68 → a ≠ 69 → M'.1 a = M0.1 a) → M'.2 = M0.2 → (∀ q, M'.1 68 q = (if q < 7 then M0.1 87 q else M0.1 68 q) ∧ M'.1 69 q = (if q < 7 then M0.1 88 q else M0.1 69 q)) → A_X9_up_248 d M' i1 i2 i3 0 R) → A_X9_up_204 d M i1 i2 i3 (nI k) R := by
  intro j
  induction j with
  | zero =>
    intro k M hk hf hr hq K
    have e : k = 7 := by omega
    subst e
    exact a_X9_up_204 ⟨fun q => absurd q (nI_nlt (b := 7) (by omega) (by omega)), fun _ => K M hf hr hq⟩
  | succ j ih =>
    intro k M hk hf hr hq K
    refine a_X9_up_204 ?_
    rw [zn_nI (by omega), nI_1]
    refine ⟨fun _ => ⟨in_n (by omega) (by omega), in_n (by omega) (by omega), in_n (by omega) (by omega), in_n (by omega) (by omega), ih (k + 1) _ (by omega) (fun a h0 h1 => (zu_ne h1).trans ((zu_ne h0).trans (hf a h0 h1))) hr (fun q => ?_) K⟩, fun q => absurd (nI_lt (b := 7) (by omega) (by omega)) q⟩
    have hs : ∀ s, s ≠ 68 ∧ s ≠ 69 → M.1 s = M0.1 s := fun s h => hf s (by omega) (by omega)
    by_cases e : q = k
    · rw [e]
      refine ⟨?_, ?_⟩
      · refine Eq.trans (zu_kk (f := M.1) (a := 68) (k := k) (v := M.1 87 k)) ?_
        rw [hs 87 (by omega), if_pos (Nat.lt_succ_self k)]
      · refine Eq.trans (zu_kk (f := M.1) (a := 69) (k := k) (v := M.1 88 k)) ?_
        rw [hs 88 (by omega), if_pos (Nat.lt_succ_self k)]
    · have h' := hq q
      have hi : ∀ (x y : Int32), (if q < k + 1 then x else y) = (if q < k then x else y) := fun x y => by
        by_cases c : q < k
        · rw [if_pos c, if_pos (by omega)]
        · rw [if_neg c, if_neg (by omega)]
      simp only [hi]
      refine ⟨?_, ?_⟩
      · exact Eq.trans (zu_kn (f := M.1) (a := 68) (k := k) (v := M.1 87 k) e) h'.1
      · exact Eq.trans (zu_kn (f := M.1) (a := 69) (k := k) (v := M.1 88 k) e) h'.2
theorem l9_up_248 {M0 : ZM} {i1 i2 i3 : Int32} {R : ZM → Option ZV → Prop} : ∀ (j k : Nat) (M : ZM), k + j = 6 → (∀ a, a ≠ 72 → M.1 a = M0.1 a) → M.2 = M0.2 → (∀ q, M.1 72 q = (if q < k then M0.1 89 q else M0.1 72 q)) → (∀ M' : ZM, (∀ a, a ≠ 72 → M'.1 a = M0.1 a) → M'.2 = M0.2 → (∀ q, M'.1 72 q = (if q < 6 then M0.1 89 q else M0.1 72 q)) → R M' (some (zI i3))) → A_X9_up_248 d M i1 i2 i3 (nI k) R := by
  intro j
  induction j with
  | zero =>
    intro k M hk hf hr hq K
    have e : k = 6 := by omega
    subst e
    exact a_X9_up_248 ⟨fun q => absurd q (nI_nlt (b := 6) (by omega) (by omega)), fun _ => K M hf hr hq⟩
  | succ j ih =>
    intro k M hk hf hr hq K
    refine a_X9_up_248 ?_
    rw [zn_nI (by omega), nI_1]
    refine ⟨fun _ => ⟨in_n (by omega) (by omega), in_n (by omega) (by omega), ih (k + 1) _ (by omega) (fun a h0 => (zu_ne h0).trans (hf a h0)) hr (fun q => ?_) K⟩, fun q => absurd (nI_lt (b := 6) (by omega) (by omega)) q⟩
    have hs : ∀ s, s ≠ 72 → M.1 s = M0.1 s := fun s h => hf s (by omega)
    by_cases e : q = k
    · rw [e]
      refine ?_
      · refine Eq.trans (zu_kk (f := M.1) (a := 72) (k := k) (v := M.1 89 k)) ?_
        rw [hs 89 (by omega), if_pos (Nat.lt_succ_self k)]
    · have h' := hq q
      have hi : ∀ (x y : Int32), (if q < k + 1 then x else y) = (if q < k then x else y) := fun x y => by
        by_cases c : q < k
        · rw [if_pos c, if_pos (by omega)]
        · rw [if_neg c, if_neg (by omega)]
      simp only [hi]
      refine ?_
      · exact Eq.trans (zu_kn (f := M.1) (a := 72) (k := k) (v := M.1 89 k) e) h'
theorem l9_up_58 {M0 : ZM} {p : Nat} {i2 : Int32} {R : ZM → Option ZV → Prop} : ∀ (j k : Nat) (M : ZM), k + j = 6 → (∀ a, a ≠ 89 → a ≠ 72 → M.1 a = M0.1 a) → M.2 = M0.2 → (∀ q, M.1 89 q = (if q < k then M0.1 72 q else M0.1 89 q) ∧ M.1 72 q = (if q < k then reY (M0.1 72 q) p else M0.1 72 q)) → (∀ M' : ZM, (∀ a, a ≠ 89 → a ≠ 72 → M'.1 a = M0.1 a) → M'.2 = M0.2 → (∀ q, M'.1 89 q = (if q < 6 then M0.1 72 q else M0.1 89 q) ∧ M'.1 72 q = (if q < 6 then reY (M0.1 72 q) p else M0.1 72 q)) → A_X9_up_131 d M' (nI p) i2 (nI p) R) → A_X9_up_58 d M (nI p) i2 (nI k) R := by
  intro j
  induction j with
  | zero =>
    intro k M hk hf hr hq K
    have e : k = 6 := by omega
    subst e
    exact a_X9_up_58 ⟨fun q => absurd q (nI_nlt (b := 6) (by omega) (by omega)), fun _ => K M hf hr hq⟩
  | succ j ih =>
    intro k M hk hf hr hq K
    have hk2 := (hq k).2
    rw [if_neg (Nat.lt_irrefl k)] at hk2
    have i6 := in_n (n := k) (N := 6) (by omega) (by omega)
    have step : ∀ v, v = reY (M.1 72 k) p → A_X9_up_58 d (zu (zu M.1 89 k (M.1 72 k)) 72 k v, M.2) (nI p) i2 (nI (k + 1)) R := fun v hv => by
      refine ih (k + 1) _ (by omega) (fun a h1 h2 => (zu_ne h2).trans ((zu_ne h1).trans (hf a h1 h2))) hr (fun q => ?_) K
      by_cases e : q = k
      · rw [e, if_pos (Nat.lt_succ_self k), if_pos (Nat.lt_succ_self k)]
        exact ⟨(zu_kk (f := M.1) (a := 89) (k := k) (v := M.1 72 k)).trans hk2, by rw [← hk2, ← hv]; exact zu_kk⟩
      · have h' := hq q
        have hi : ∀ (x y : Int32), (if q < k + 1 then x else y) = (if q < k then x else y) := fun x y => by
          by_cases c : q < k
          · rw [if_pos c, if_pos (by omega)]
          · rw [if_neg c, if_neg (by omega)]
        simp only [hi]
        exact ⟨(zu_kn (f := M.1) (a := 89) (k := k) (v := M.1 72 k) e).trans h'.1, (zu_kn e).trans ((congrFun (zu_ne (by omega)) q).trans h'.2)⟩
    refine a_X9_up_58 ?_
    rw [zn_nI (by omega), nI_1]
    refine ⟨fun _ => ⟨i6, i6, i6, fun q => ⟨i6, step _ ?_⟩, fun q => ⟨i6, fun r => ⟨i6, i6, step _ ?_⟩, fun r => ⟨i6, i6, step _ ?_⟩⟩⟩, fun q => absurd (nI_lt (b := 6) (by omega) (by omega)) q⟩
    · unfold reY; rw [if_pos q]
    · unfold reY; rw [if_neg q, if_pos r]
    · unfold reY; rw [if_neg q, if_neg r]
theorem l9_up_131 {M0 : ZM} {p n : Nat} {i2 : Int32} {R : ZM → Option ZV → Prop} (hn : n < 7) (h64 : M0.1 64 1 = nI (n + 1)) : ∀ (j k : Nat) (M : ZM), k + j = n → p ≤ k → (∀ a, a ≠ 68 → a ≠ 69 → M.1 a = M0.1 a) → M.2 = M0.2 → (∀ q, M.1 68 q = (if p ≤ q ∧ q < k then M0.1 87 (q + 1) else M0.1 68 q) ∧ M.1 69 q = (if p ≤ q ∧ q < k then M0.1 88 (q + 1) else M0.1 69 q)) → (∀ M' : ZM, (∀ a, a ≠ 68 → a ≠ 69 → M'.1 a = M0.1 a) → M'.2 = M0.2 → (∀ q, M'.1 68 q = (if p ≤ q ∧ q < n then M0.1 87 (q + 1) else M0.1 68 q) ∧ M'.1 69 q = (if p ≤ q ∧ q < n then M0.1 88 (q + 1) else M0.1 69 q)) → (∃ (M1 : ZM) (r2 : Int32), Rt d 184 [zR 9 64, zI i2] (zu M'.1 64 1 (nI n), M'.2) M1 (some (zI r2)) ∧ A_X9_up_204 d (zu M1.1 64 1 (M1.1 64 1 + 1), M1.2) (nI p) i2 r2 0 R)) → A_X9_up_131 d M (nI p) i2 (nI k) R := by
  intro j
  induction j with
  | zero =>
    intro k M hk hp hf hr hq K
    have e : k = n := by omega
    subst e
    refine a_X9_up_131 ?_
    have e64 : M.1 64 1 - 1 = nI k := by rw [hf 64 (by omega) (by omega), h64]; exact nI_pred k
    rw [e64]
    exact ⟨fun q => absurd q (nI_nlt (by omega) (by omega)), fun _ => K M hf hr hq⟩
  | succ j ih =>
    intro k M hk hp hf hr hq K
    refine a_X9_up_131 ?_
    have e64 : M.1 64 1 - 1 = nI n := by rw [hf 64 (by omega) (by omega), h64]; exact nI_pred n
    rw [e64, nI_1, zn_nI (by omega), zn_nI (by omega)]
    have i1 := in_n (n := k + 1) (N := 7) (by omega) (by omega)
    have i2 := in_n (n := k) (N := 7) (by omega) (by omega)
    refine ⟨fun _ => ⟨i1, i2, i1, i2, ih (k + 1) _ (by omega) (by omega) (fun a h1 h2 => (zu_ne h2).trans ((zu_ne h1).trans (hf a h1 h2))) hr (fun q => ?_) K⟩, fun q => absurd (nI_lt (by omega) (by omega)) q⟩
    by_cases e : q = k
    · rw [e, if_pos (by omega), if_pos (by omega)]
      exact ⟨(zu_kk (f := M.1) (a := 68) (k := k) (v := M.1 87 (k + 1))).trans (congrFun (hf 87 (by omega) (by omega)) _), (zu_kk (f := M.1) (a := 69) (k := k) (v := M.1 88 (k + 1))).trans (congrFun (hf 88 (by omega) (by omega)) _)⟩
    · have h' := hq q
      have hi : ∀ (x y : Int32), (if p ≤ q ∧ q < k + 1 then x else y) = (if p ≤ q ∧ q < k then x else y) := fun x y => by
        by_cases c : p ≤ q ∧ q < k
        · rw [if_pos c, if_pos (by omega)]
        · rw [if_neg c, if_neg (by omega)]
      simp only [hi]
      exact ⟨(zu_kn (f := M.1) (a := 68) (k := k) (v := M.1 87 (k + 1)) e).trans h'.1, (zu_kn (f := M.1) (a := 69) (k := k) (v := M.1 88 (k + 1)) e).trans h'.2⟩
theorem c9_up (hW : WM M W) (hB : WBd W) {p m : Nat} (hp : p < wP W) (hm : m < wM W) : ∃ M', Rt (d + 12) 202 [zR 9 64, zI (nI p), zI (nI m)] M M' (some (zI (nI (sGo (wRe W p (fun k => reY (wY W k) p)) m)))) ∧ Gq M M' := by
  have b2 := hB.2.1
  have b3 := hB.2.2.1
  have b4 := hB.2.2.2.1
  obtain ⟨w1, w2, w3, w4, w5, w6, w7, w8, w9, w10, w11, w12, w13, w14⟩ := id hW
  have vp : vix (nI p) (wP W) = true := decide_eq_true ⟨nI_pos (by omega), nI_lt hp (by omega)⟩
  have vm : vix (nI m) (wM W) = true := decide_eq_true ⟨nI_pos (by omega), nI_lt hm (by omega)⟩
  refine ro_rv (g_X9_up ⟨M, _, (c9_isP hW hB).2 vp, z10, fun _ => ⟨M, _, (c9_isM hW hB).2 vm, z10, fun _ => ?_⟩⟩)
  refine l9_up_20 (M0 := M) 7 0 M (by omega) (fun _ _ _ => rfl) rfl (fun q => ⟨by rw [if_neg (by omega)], by rw [if_neg (by omega)]⟩) (fun N1 f1 r1 e1 => ?_)
  refine l9_up_58 (M0 := N1) 6 0 N1 (by omega) (fun _ _ _ => rfl) rfl (fun q => ⟨by rw [if_neg (by omega)], by rw [if_neg (by omega)]⟩) (fun N2 f2 r2 e2 => ?_)
  have g1 : ∀ a, a ≠ 87 ∧ a ≠ 88 → N1.1 a = M.1 a := fun a h => f1 a h.1 h.2
  have g2 : ∀ a, a ≠ 89 ∧ a ≠ 72 → N2.1 a = N1.1 a := fun a h => f2 a h.1 h.2
  have h64 : N2.1 64 1 = nI (wP W - 1 + 1) := by rw [g2 64 (by omega), g1 64 (by omega), w2, show wP W - 1 + 1 = wP W by omega]
  refine l9_up_131 (M0 := N2) (n := wP W - 1) (by omega) h64 (wP W - 1 - p) p N2 (by omega) (Nat.le_refl _) (fun _ _ _ => rfl) rfl (fun q => ⟨by rw [if_neg (by omega)], by rw [if_neg (by omega)]⟩) (fun N3 f3 r3 e3 => ?_)
  have g3 : ∀ a, a ≠ 68 ∧ a ≠ 69 → N3.1 a = N2.1 a := fun a h => f3 a h.1 h.2
  have gg : ∀ a, a ≠ 87 ∧ a ≠ 88 ∧ a ≠ 89 ∧ a ≠ 72 ∧ a ≠ 68 ∧ a ≠ 69 → N3.1 a = M.1 a := fun a h => by rw [g3 a (by omega), g2 a (by omega), g1 a (by omega)]
  have wr : WM (zu N3.1 64 1 (nI (wP W - 1)), N3.2) (wRe W p (fun k => reY (wY W k) p)) := by
    have z : ∀ a, a ≠ 64 → zu N3.1 64 1 (nI (wP W - 1)) a = N3.1 a := fun a h => zu_ne h
    have c64 : ∀ j, j ≠ 1 → zu N3.1 64 1 (nI (wP W - 1)) 64 j = M.1 64 j := fun j h => by rw [zu_kn h, gg 64 (by omega)]
    refine ⟨(c64 0 (by omega)).trans w1, rfl, (c64 2 (by omega)).trans w3, (c64 3 (by omega)).trans w4, fun k hk => ?_, fun k hk => ?_, fun k hk => ?_, fun k hk => ?_, fun k hk => ?_, fun k hk => ?_, fun k hk => ?_, fun k hk => ?_, fun k hk => ?_, WM14 (M := M) (c64 14 (by omega)) (fun a _ _ => (z a (by omega)).trans (gg a (by omega))) w14⟩
    · show zu N3.1 64 1 (nI (wP W - 1)) 65 k = _
      rw [z 65 (by omega), gg 65 (by omega)]; exact w5 k hk
    · show zu N3.1 64 1 (nI (wP W - 1)) 66 k = _
      rw [z 66 (by omega), gg 66 (by omega)]; exact w6 k hk
    · show zu N3.1 64 1 (nI (wP W - 1)) 67 k = _
      rw [z 67 (by omega), gg 67 (by omega)]; exact w7 k hk
    · show zu N3.1 64 1 (nI (wP W - 1)) 68 k = (if p ≤ k ∧ k < wP W - 1 then wK W (k + 1) else wK W k)
      rw [z 68 (by omega), (e3 k).1]
      by_cases c : p ≤ k ∧ k < wP W - 1
      · rw [if_pos c, if_pos c, g2 87 (by omega), (e1 (k + 1)).1, if_pos (by omega)]
        exact w8 (k + 1) (by omega)
      · rw [if_neg c, if_neg c, g2 68 (by omega), g1 68 (by omega)]
        exact w8 k hk
    · show zu N3.1 64 1 (nI (wP W - 1)) 69 k = nI (if p ≤ k ∧ k < wP W - 1 then wU W (k + 1) else wU W k)
      rw [z 69 (by omega), (e3 k).2]
      by_cases c : p ≤ k ∧ k < wP W - 1
      · rw [if_pos c, if_pos c, g2 88 (by omega), (e1 (k + 1)).2, if_pos (by omega)]
        exact w9 (k + 1) (by omega)
      · rw [if_neg c, if_neg c, g2 69 (by omega), g1 69 (by omega)]
        exact w9 k hk
    · show zu N3.1 64 1 (nI (wP W - 1)) 70 k = _
      rw [z 70 (by omega), gg 70 (by omega)]; exact w10 k hk
    · show zu N3.1 64 1 (nI (wP W - 1)) 71 k = _
      rw [z 71 (by omega), gg 71 (by omega)]; exact w11 k hk
    · show zu N3.1 64 1 (nI (wP W - 1)) 72 k = reY (wY W k) p
      rw [z 72 (by omega), g3 72 (by omega), (e2 k).2, if_pos hk, g1 72 (by omega), w12 k hk]
    · show zu N3.1 64 1 (nI (wP W - 1)) 73 k = _
      rw [z 73 (by omega), gg 73 (by omega)]; exact w13 k hk
  obtain ⟨N4, h4, f4, _⟩ := c9_goes (d := d + 1) wr (wRe_B hB) (m := m) hm
  refine ⟨N4, _, h4, ?_⟩
  have g4 : ∀ a, a ≠ 83 ∧ a ≠ 84 ∧ a ≠ 64 → N4.1 a = N3.1 a := fun a h => (f4.1 a h.1 h.2.1).trans (zu_ne h.2.2)
  have e64 : N4.1 64 1 + 1 = nI (wP W) := by
    rw [f4.1 64 (by omega) (by omega)]
    show zu N3.1 64 1 (nI (wP W - 1)) 64 1 + 1 = _
    rw [zu_kk, nI_1, show wP W - 1 + 1 = wP W by omega]
  rw [e64]
  have g5 : ∀ a, a ≠ 83 ∧ a ≠ 84 ∧ a ≠ 64 → zu N4.1 64 1 (nI (wP W)) a = N3.1 a := fun a h => (zu_ne h.2.2).trans (g4 a h)
  refine l9_up_204 (M0 := (zu N4.1 64 1 (nI (wP W)), N4.2)) 7 0 _ (by omega) (fun _ _ _ => rfl) rfl (fun q => ⟨by rw [if_neg (by omega)], by rw [if_neg (by omega)]⟩) (fun N6 f6 r6 e6 => ?_)
  refine l9_up_248 (M0 := N6) 6 0 N6 (by omega) (fun _ _ => rfl) rfl (fun q => by rw [if_neg (by omega)]) (fun N7 f7 r7 e7 => ?_)
  have rr : N7.2 = M.2 := by rw [r7, r6]; show N4.2 = _; rw [f4.2]; show N3.2 = _; rw [r3, r2, r1]
  refine ⟨rfl, fun a ha => ?_, by rw [rr], fun _ _ _ => by rw [rr], by rw [rr]⟩
  have k6 : ∀ a, a ≠ 68 ∧ a ≠ 69 → N6.1 a = zu N4.1 64 1 (nI (wP W)) a := fun a h => f6 a h.1 h.2
  have b72 : N6.1 72 = N2.1 72 := by rw [k6 72 (by omega), g5 72 (by omega), g3 72 (by omega)]
  by_cases a72 : a = 72
  · rw [a72]
    funext q
    rw [e7 q]
    by_cases c : q < 6
    · rw [if_pos c, k6 89 (by omega), g5 89 (by omega), g3 89 (by omega), (e2 q).1, if_pos c, g1 72 (by omega)]
    · rw [if_neg c, b72, (e2 q).2, if_neg c, g1 72 (by omega)]
  rw [f7 a a72]
  have e87 : ∀ q, zu N4.1 64 1 (nI (wP W)) 87 q = N1.1 87 q := fun q => by rw [g5 87 (by omega), g3 87 (by omega), g2 87 (by omega)]
  have e88 : ∀ q, zu N4.1 64 1 (nI (wP W)) 88 q = N1.1 88 q := fun q => by rw [g5 88 (by omega), g3 88 (by omega), g2 88 (by omega)]
  by_cases a68 : a = 68
  · rw [a68]
    funext q
    rw [(e6 q).1]
    show (if q < 7 then zu N4.1 64 1 (nI (wP W)) 87 q else zu N4.1 64 1 (nI (wP W)) 68 q) = _
    by_cases c : q < 7
    · rw [if_pos c, e87, (e1 q).1, if_pos c]
    · rw [if_neg c, g5 68 (by omega), (e3 q).1, if_neg (by omega), g2 68 (by omega), g1 68 (by omega)]
  by_cases a69 : a = 69
  · rw [a69]
    funext q
    rw [(e6 q).2]
    show (if q < 7 then zu N4.1 64 1 (nI (wP W)) 88 q else zu N4.1 64 1 (nI (wP W)) 69 q) = _
    by_cases c : q < 7
    · rw [if_pos c, e88, (e1 q).2, if_pos c]
    · rw [if_neg c, g5 69 (by omega), (e3 q).2, if_neg (by omega), g2 69 (by omega), g1 69 (by omega)]
  rw [k6 a (by omega)]
  unfold qa at ha
  by_cases a64 : a = 64
  · rw [a64]
    refine zu_back (fun j hj => ?_) w2.symm
    rw [f4.1 64 (by omega) (by omega)]
    show zu N3.1 64 1 (nI (wP W - 1)) 64 j = _
    rw [zu_kn hj, gg 64 (by omega)]
  · rw [g5 a (by omega), gg a (by omega)]
end UQ
theorem op_up (i k : Int32) : Op 106 202 [zI i, zI k] := op_q fun M W h hi => by
  have X := hi.1
  have Mo := hi.2.1
  have B := hi.2.2.1
  have T := hi.2.2.2.1
  cases hv : vix i (wP W)
  · exact ⟨M, M, _, ro_rt (g_X8_up ⟨M, _, (c8_isP X).1 hv, fun _ => ⟨rfl, rfl⟩, z00⟩), ro_rt (g_X9_up ⟨M, _, (c9_isP Mo B).1 hv, fun _ => ⟨rfl, rfl⟩, z00⟩), Gq.rfl⟩
  cases hu : vix k (wM W)
  · exact ⟨M, M, _, ro_rt (g_X8_up ⟨M, _, (c8_isP X).2 hv, z10, fun _ => ⟨M, _, (c8_isM X).1 hu, fun _ => ⟨rfl, rfl⟩, z00⟩⟩), ro_rt (g_X9_up ⟨M, _, (c9_isP Mo B).2 hv, z10, fun _ => ⟨M, _, (c9_isM Mo B).1 hu, fun _ => ⟨rfl, rfl⟩, z00⟩⟩), Gq.rfl⟩
  have b2 := B.2.1
  have b3 := B.2.2.1
  have b4 := B.2.2.2.1
  obtain ⟨p, hp, ep⟩ := vix_t (by omega) hv
  obtain ⟨m, hm, em⟩ := vix_t (by omega) hu
  obtain ⟨M0, h0, w0, g0⟩ := c8_ask (d := 57) X
  obtain ⟨M1, h1, w1, g1⟩ := c7_resign (d := 58) w0 B hp
  obtain ⟨M2, h2, w2, g2, _⟩ := c8_behind (d := 53) (k := 0) (WX_q (Or.inl rfl) (g0.trans g1) X) w1 (wRe_B B) (m := m) hm (by omega)
  have eW : wTu (wRe W p (fun m => if m < wM W then reY (wY W m) p else wY W m)) (wT W + 0) = wRe W p (fun m => if m < wM W then reY (wY W m) p else wY W m) := rfl
  rw [eW, sGo_re (g := fun k => reY (wY W k) p) (by show (if m < wM W then reY (wY W m) p else wY W m) = _; rw [if_pos hm])] at h2
  have g := (g0.trans g1).trans g2
  have hi2 := Iv_q g hi
  obtain ⟨M3, h3, g3⟩ := c9_up (d := 48) hi2.2.1 B hp hm
  rw [← em] at h2
  rw [← ep] at h1
  rw [← ep, ← em] at h3
  exact ⟨M2, M3, _, ro_rt (g_X8_up ⟨M, _, (c8_isP X).2 hv, z10, fun _ => ⟨M, _, (c8_isM X).2 hu, z10, fun _ => ⟨M0, h0, M1, h1, M2, _, h2, rfl, rfl⟩⟩⟩), h3, g.trans g3⟩
