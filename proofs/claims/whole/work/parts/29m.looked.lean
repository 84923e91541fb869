/-! The call looked -/
noncomputable def sLk (t : Nat → Nat) : Nat → Nat → Wv → Option Nat
  | 0, _, _ => none
  | j + 1, k, W => if wC W (t k / 10) = true then some k else if sGo W (t k / 10) = t k % 10 then sLk t j (k + 1) (wDe W (t k / 10)) else some k
theorem wDe_T {W : Wv} {m : Nat} : wT (wDe W m) ≤ wT W + 1 := by
  unfold wDe
  split
  · exact Nat.le_refl _
  · split
    · exact Nat.le_succ _
    · exact Nat.le_refl _
theorem wDe_M {W : Wv} {m : Nat} : wM (wDe W m) = wM W := by
  unfold wDe
  split
  · rfl
  · split <;> rfl
/-- the reference's votes on trial -/
def G2 (M M' : ZM) : Prop := (∀ a, a ≠ 83 → a ≠ 84 → a ≠ 64 → a ≠ 73 → M'.1 a = M.1 a) ∧ (∀ j, j ≠ 3 → M'.1 64 j = M.1 64 j) ∧ (∀ q, 6 ≤ q → M'.1 73 q = M.1 73 q) ∧ M'.2 = M.2
theorem G2.rfl {M : ZM} : G2 M M := ⟨fun _ _ _ _ _ => Eq.refl _, fun _ _ => Eq.refl _, fun _ _ => Eq.refl _, Eq.refl _⟩
theorem G2.trans {M M' M'' : ZM} (h : G2 M M') (g : G2 M' M'') : G2 M M'' := ⟨fun a p q r s => (g.1 a p q r s).trans (h.1 a p q r s), fun j q => (g.2.1 j q).trans (h.2.1 j q), fun q k => (g.2.2.1 q k).trans (h.2.2.1 q k), g.2.2.2.trans h.2.2.2⟩
section LK
variable {d : Nat} {M : ZM} {W : Wv}
theorem c9_so (hW : WM M W) (hB : WBd W) {m t : Nat} (hm : m < wM W) (ht : t < 3) : ∃ M', Rt (d + 11) 212 [zR 9 64, zI (nI m), zI (nI t)] M M' (some (zI (zb (decide (wC W m = false ∧ sGo W m = t))))) ∧ G2 M M' ∧ (wC W m = false → WM M' (wDe W m)) := by
  have b4 := hB.2.2.2.1
  have i6 := in_n (n := m) (N := 6) (by omega) (by omega)
  have i6' := in_nI (n := m) (N := 6) (by omega) (by omega)
  have c73 : M.1 73 (zn (nI m)) = zb (wC W m) := by rw [zn_nI (by omega)]; exact hW.2.2.2.2.2.2.2.2.2.2.2.2.1 m (by omega)
  cases hc : wC W m
  case true =>
    refine ⟨M, ro_rt (g_X9_goesSo ⟨i6', ?_⟩), G2.rfl, fun q => by cases q⟩
    rw [c73, hc]
    exact ⟨z10, fun _ => ⟨rfl, by rw [decide_eq_false (fun q => by cases q.1)]; rfl⟩⟩
  obtain ⟨M1, h1, f1, _⟩ := c9_goes (d := d) hW hB hm
  have w1 := WM_FM f1 hW
  have m3 : M1.1 64 3 = nI (wT W) := w1.2.2.2.1
  have hl : sGo W m < 3 := sGoes_lt
  have cs := c9_set w1 hB hm hc
  refine ⟨(zu (zu M1.1 73 m (zb (decide (sGo W m = 1)))) 64 3 (nI (wT W + (if sGo W m = 2 then 0 else 1))), M1.2), ro_rt (g_X9_goesSo ⟨i6', ?_⟩), ⟨fun a p q r s => (zu_ne r).trans ((zu_ne s).trans (f1.1 a p q)), fun j hj => (zu_kn hj).trans (congrFun (f1.1 64 (by omega) (by omega)) j), fun q hq => ?_, f1.2⟩, fun _ => cs⟩
  · rw [c73, hc]
    refine ⟨fun _ => ⟨M1, _, h1, ?_⟩, fun q => absurd rfl q⟩
    have e2' : (nI (sGo W m) = 2) = (sGo W m = 2) := nI_eqe (b := 2) (by omega) (by omega)
    have z0 : nI (wT W) + 0 = nI (wT W) := by rw [l_0, nI_add]; rfl
    rw [zn_nI (by omega), m3, nar_1, nar_0, z0, nI_1, nI_1e (by omega), e2', nI_eqe (by omega) (by omega)]
    have key : ∀ b : Bool, b = decide (sGo W m = t) → some (zI (zb b)) = some (zI (zb (decide (false = false ∧ sGo W m = t)))) := fun b hb => by
      rw [hb]
      by_cases q : sGo W m = t
      · rw [decide_eq_true q, decide_eq_true ⟨rfl, q⟩]
      · rw [decide_eq_false q, decide_eq_false (fun r => q r.2)]
    have k1 : sGo W m = t → some (zI 1) = some (zI (zb (decide (false = false ∧ sGo W m = t)))) := fun q => key true (decide_eq_true q).symm
    have k0 : ¬ sGo W m = t → some (zI 0) = some (zI (zb (decide (false = false ∧ sGo W m = t)))) := fun q => key false (decide_eq_false q).symm
    refine ⟨fun q => ⟨i6, fun r => absurd (q.symm.trans r) (by decide), fun r => ?_⟩, fun q => ⟨i6, fun r => ?_, fun r => ?_⟩⟩
    · rw [decide_eq_true q, if_neg r]
      exact ⟨fun s => ⟨rfl, k1 s⟩, fun s => ⟨rfl, k0 s⟩⟩
    · rw [decide_eq_false q, if_pos r]
      exact ⟨fun s => ⟨rfl, k1 s⟩, fun s => ⟨rfl, k0 s⟩⟩
    · rw [decide_eq_false q, if_neg r]
      exact ⟨fun s => ⟨rfl, k1 s⟩, fun s => ⟨rfl, k0 s⟩⟩
  · show zu (zu M1.1 73 m (zb (decide (sGo W m = 1)))) 64 3 (nI (wT W + (if sGo W m = 2 then 0 else 1))) 73 q = _
    rw [zu_ne (by omega), zu_kn (by omega), f1.1 73 (by omega) (by omega)]
theorem l8_lk {M0 : ZM} {h n : Nat} {t : Nat → Nat} (hi : Iv M0 W h) (hn : n ≤ 12) (h0 : M0.1 44 0 = nI n) (ht : ∀ r, r < n → t r / 10 < wM W ∧ t r % 10 < 3 ∧ t r < 100 ∧ M0.1 45 r = nI (t r)) : ∀ (j k : Nat) (W' : Wv) (u : ZV) (M : ZM), k + j = n → Gq M0 M → WX M 25 W' → WBd W' → wT W' ≤ 9999 + k → wM W' = wM W → A_X8_looked_6 (d + 6) M (nI k) u (fun M' v => v = some (zI (zoi (-5) (sLk t j k W'))) ∧ Gq M0 M') := by
  have b4 := hi.2.2.1.2.2.2.1
  intro j
  induction j with
  | zero =>
    intro k W' u M hk g wA hB hT hM
    refine a_X8_looked_6 ?_
    rw [g.1 44 (by unfold qa; omega), h0]
    exact ⟨fun q => absurd q (nI_nlt (by omega) (by omega)), fun _ => ⟨rfl, g⟩⟩
  | succ j ih =>
    intro k W' u M hk g wA hB hT hM
    obtain ⟨t1, t2, t3, t4⟩ := ht k (by omega)
    have e45 : ∀ N : ZM, Gq M0 N → N.1 (43 + 2) (zn (nI k)) = nI (t k) := fun N gN => by rw [zn_nI (by omega), gN.1 (43 + 2) (by unfold qa; omega)]; exact t4
    have i12 := in_nI (n := k) (N := 12) (by omega) (by omega)
    have r17 : Rt (d + 6) 17 [zR 2 44, zI (nI k)] M M (some (zI (nI (t k / 10)))) := ro_rt (g_X2_matterOf (o := 43) ⟨i12, by rw [e45 M g, l_10, pk_div (by omega) (by omega) (by omega)]; exact ⟨rfl, rfl⟩⟩)
    have c35 : M.1 35 (t k / 10) = zb (wC W' (t k / 10)) := wA.2.2.2.2.2.2.2.2.2.2.2.2.1 _ (by omega)
    refine a_X8_looked_6 ?_
    rw [g.1 44 (by unfold qa; omega), h0]
    refine ⟨fun _ => ⟨M, _, r17, in_nI (by omega) (by omega), ?_⟩, fun q => absurd (nI_lt (by omega) (by omega)) q⟩
    rw [zn_nI (by omega), c35, zb1]
    unfold sLk
    refine ⟨fun q => ⟨by rw [if_pos q]; rfl, g⟩, fun q => ?_⟩
    rw [if_neg q]
    obtain ⟨M1, h1, w1, f1, r1⟩ := c7_decide (d := d) (o := 25) (by omega) wA hB (m := t k / 10) (by omega)
    have g1 : Gq M M1 := ⟨fun a ha => f1 a (by unfold qa at ha; omega) (by unfold qa at ha; omega) (by unfold qa at ha; omega) (by unfold qa at ha; omega), by rw [r1], fun _ _ _ => by rw [r1], by rw [r1]⟩
    have gg := g.trans g1
    have r18 : Rt (d + 6) 18 [zR 2 44, zI (nI k)] M1 M1 (some (zI (nI (t k % 10)))) := ro_rt (g_X2_howOf (o := 43) ⟨i12, by rw [e45 M1 gg, l_10, zrem_nI (by omega) (by omega) (by omega)]; exact ⟨rfl, rfl⟩⟩)
    have hl : sGo W' (t k / 10) < 3 := sGoes_lt
    refine ⟨M1, _, h1, M1, _, r18, ?_⟩
    rw [nI_eqe (by omega) (by omega), nI_1]
    refine ⟨fun r => ?_, fun r => ⟨by rw [if_neg r]; rfl, gg⟩⟩
    rw [if_pos r]
    exact ih (k + 1) (wDe W' (t k / 10)) _ M1 (by omega) gg w1 (wDe_B hB (by omega)) (by have := wDe_T (W := W') (m := t k / 10); omega) (wDe_M.trans hM)
theorem l9_lk {M0 : ZM} {n : Nat} {t : Nat → Nat} {i1 : Int32} {R : ZM → Option ZV → Prop} (hn : n ≤ 12) (h0 : M0.1 64 41 = nI n) (h6 : wM W ≤ 6) (ht : ∀ r, r < n → t r / 10 < wM W ∧ t r % 10 < 3 ∧ t r < 100 ∧ M0.1 93 r = nI (t r)) : ∀ (j k : Nat) (W' : Wv) (M : ZM), k + j = n → G2 M0 M → WM M W' → WBd W' → wT W' ≤ 9999 + k → wM W' = wM W → (∀ M', G2 M0 M' → A_X9_looked_93 (d + 11) (zu M'.1 64 3 i1, M'.2) i1 (zoi (-5) (sLk t j k W')) 0 R) → A_X9_looked_36 (d + 11) M i1 (-5) (nI k) R := by
  intro j
  induction j with
  | zero =>
    intro k W' M hk g wA hB hT hM K
    refine a_X9_looked_36 ?_
    rw [g.2.1 41 (by omega), h0]
    exact ⟨fun q => absurd q (nI_nlt (by omega) (by omega)), fun _ => K M g⟩
  | succ j ih =>
    intro k W' M hk g wA hB hT hM K
    obtain ⟨t1, t2, t3, t4⟩ := ht k (by omega)
    have i12 := in_n (n := k) (N := 12) (by omega) (by omega)
    have e93 : M.1 93 k = nI (t k) := by rw [g.1 93 (by omega) (by omega) (by omega) (by omega)]; exact t4
    have d10 : nI (t k) / 10 = nI (t k / 10) := by rw [l_10, pk_div (by omega) (by omega) (by omega)]
    have m10 : zrem (nI (t k)) 10 = nI (t k % 10) := by rw [l_10, zrem_nI (by omega) (by omega) (by omega)]
    obtain ⟨M1, h1, g1, w1⟩ := c9_so (d := d) wA hB (m := t k / 10) (t := t k % 10) (by omega) t2
    have gg := g.trans g1
    refine a_X9_looked_36 ?_
    rw [g.2.1 41 (by omega), h0, zn_nI (by omega), e93, d10, m10, nI_1]
    refine ⟨fun _ => ⟨fun _ => ⟨i12, i12, M1, _, h1, ?_⟩, fun q => absurd (by decide) q⟩, fun q => absurd (nI_lt (by omega) (by omega)) q⟩
    have out : sLk t (j + 1) k W' = some k → A_X9_looked_36 (d + 11) M1 i1 (nI k) (nI (k + 1)) R := fun e => by
      have K1 := K M1 gg
      rw [e] at K1
      refine a_X9_looked_36 ⟨fun _ => ⟨fun q => absurd q (nI_pos (by omega)), fun _ => K1⟩, fun _ => K1⟩
    rw [zb0]
    refine ⟨fun q => out ?_, fun q => ?_⟩
    · have q' := of_decide_eq_false q
      unfold sLk
      by_cases c : wC W' (t k / 10) = true
      · rw [if_pos c]
      · have c' : wC W' (t k / 10) = false := eq_false_of_ne_true c
        rw [if_neg c, if_neg (fun e => q' ⟨c', e⟩)]
    · have q' := of_decide_eq_true (eq_true_of_ne_false q)
      refine ih (k + 1) (wDe W' (t k / 10)) M1 (by omega) gg (w1 q'.1) (wDe_B hB (by omega)) (by have := wDe_T (W := W') (m := t k / 10); omega) (wDe_M.trans hM) (fun M' g' => ?_)
      have K1 := K M' g'
      unfold sLk at K1
      rw [if_neg (by rw [q'.1]; decide), if_pos q'.2] at K1
      exact K1
theorem l9_lk7 {M0 : ZM} {i1 : Int32} {R : ZM → Option ZV → Prop} : ∀ (j k : Nat) (M : ZM), k + j = 6 → (∀ a, a ≠ 94 → M.1 a = M0.1 a) → M.2 = M0.2 → (∀ q, q < k → M.1 94 q = vp_nar .boolean (M0.1 73 q)) → (∀ M' : ZM, (∀ a, a ≠ 94 → M'.1 a = M0.1 a) → M'.2 = M0.2 → (∀ q, q < 6 → M'.1 94 q = vp_nar .boolean (M0.1 73 q)) → A_X9_looked_36 d M' i1 (-5) 0 R) → A_X9_looked_7 d M i1 (nI k) R := by
  intro j
  induction j with
  | zero =>
    intro k M hk hf hr hq K
    exact a_X9_looked_7 ⟨fun q => absurd q (nI_nlt (b := 6) (by omega) (by omega)), fun _ => K M hf hr (fun q h => hq q (by omega))⟩
  | succ j ih =>
    intro k M hk hf hr hq K
    refine a_X9_looked_7 ?_
    rw [zn_nI (by omega), nI_1]
    refine ⟨fun _ => ⟨in_n (by omega) (by omega), in_n (by omega) (by omega), ih (k + 1) _ (by omega) (fun a h => (zu_ne h).trans (hf a h)) hr (fun q h => ?_) K⟩, fun q => absurd (nI_lt (b := 6) (by omega) (by omega)) q⟩
    by_cases e : q = k
    · rw [e, ← hf 73 (by omega)]; exact zu_kk
    · exact (zu_kn e).trans (hq q (by omega))
theorem l9_lk93 {M0 : ZM} {i1 i2 : Int32} {R : ZM → Option ZV → Prop} : ∀ (j k : Nat) (M : ZM), k + j = 6 → (∀ a, a ≠ 73 → M.1 a = M0.1 a) → M.2 = M0.2 → (∀ q, M.1 73 q = if q < k then vp_nar .boolean (M0.1 94 q) else M0.1 73 q) → (∀ M' : ZM, (∀ a, a ≠ 73 → M'.1 a = M0.1 a) → M'.2 = M0.2 → (∀ q, M'.1 73 q = if q < 6 then vp_nar .boolean (M0.1 94 q) else M0.1 73 q) → R M' (some (zI i2))) → A_X9_looked_93 d M i1 i2 (nI k) R := by
  intro j
  induction j with
  | zero =>
    intro k M hk hf hr hq K
    have e : k = 6 := by omega
    subst e
    exact a_X9_looked_93 ⟨fun q => absurd q (nI_nlt (b := 6) (by omega) (by omega)), fun _ => K M hf hr hq⟩
  | succ j ih =>
    intro k M hk hf hr hq K
    refine a_X9_looked_93 ?_
    rw [zn_nI (by omega), nI_1]
    refine ⟨fun _ => ⟨in_n (by omega) (by omega), in_n (by omega) (by omega), ih (k + 1) _ (by omega) (fun a h => (zu_ne h).trans (hf a h)) hr (fun q => ?_) K⟩, fun q => absurd (nI_lt (b := 6) (by omega) (by omega)) q⟩
    by_cases e : q = k
    · rw [e, if_pos (by omega), ← hf 94 (by omega)]; exact zu_kk
    · refine (zu_kn e).trans ((hq q).trans ?_)
      by_cases c : q < k
      · rw [if_pos c, if_pos (by omega)]
      · rw [if_neg c, if_neg (by omega)]
theorem op_looked : Op 114 213 [] := op_q fun M W h hi => by
  obtain ⟨q1, q2, q3, q4, q5, q6, q7, q8, ⟨n, hn, t1, t2, t3⟩, q10⟩ := id hi
  have b4 := q3.2.2.2.1
  -- the rows
  have ex : ∃ t : Nat → Nat, ∀ r, r < n → t r / 10 < wM W ∧ t r % 10 < 3 ∧ t r < 100 ∧ M.1 45 r = nI (t r) ∧ M.1 93 r = nI (t r) := by
    refine ⟨fun r => if c : r < n then Classical.choose (t3 r c) else 0, fun r hr => ?_⟩
    have s := Classical.choose_spec (t3 r hr)
    simp only [dif_pos hr]
    exact ⟨s.1, s.2.1, by omega, s.2.2.1, s.2.2.2⟩
  obtain ⟨t, ht⟩ := ex
  obtain ⟨M0, h0, w0, g0⟩ := c8_ask (d := 57) q1
  obtain ⟨M1, h1, g1⟩ := ro_rv (g_X8_looked (d := 59) (M := M) (R := fun M' v => v = some (zI (zoi (-5) (sLk t n 0 W))) ∧ Gq M M') ⟨M0, h0, l8_lk (d := 53) hi hn t1 (fun r hr => ⟨(ht r hr).1, (ht r hr).2.1, (ht r hr).2.2.1, (ht r hr).2.2.2.1⟩) n 0 W zU M0 (by omega) g0 w0 q3 (by omega) rfl⟩)
  have hi1 := Iv_q g1 hi
  obtain ⟨u1, u2, u3, u4, u5, u6, u7, u8, u9, u10⟩ := id hi1
  have m3 : M1.1 64 3 = nI (wT W) := u2.2.2.2.1
  have e41 : M1.1 64 41 = nI n := by rw [g1.1 64 (by unfold qa; omega)]; exact t2
  have e93 : M1.1 93 = M.1 93 := g1.1 93 (by unfold qa; omega)
  have c73 : ∀ q, q < 6 → M1.1 73 q = zb (wC W q) := u2.2.2.2.2.2.2.2.2.2.2.2.2.1
  obtain ⟨M2, h2, g2⟩ := ro_rv (g_X9_looked (d := 59) (M := M1) (R := fun M' v => v = some (zI (zoi (-5) (sLk t n 0 W))) ∧ Gq M1 M') (by
    rw [m3]
    refine l9_lk7 (M0 := M1) 6 0 M1 (by omega) (fun _ _ => rfl) rfl (fun q hq => absurd hq (by omega)) (fun N1 f1 r1 e1 => ?_)
    have wN1 : WM N1 W := WM_eq (fun a _ _ => f1 a (by omega)) u2
    refine l9_lk (d := 48) (W := W) (M0 := N1) hn (by rw [f1 64 (by omega)]; exact e41) b4 (fun r hr => ⟨(ht r hr).1, (ht r hr).2.1, (ht r hr).2.2.1, by rw [f1 93 (by omega), e93]; exact (ht r hr).2.2.2.2⟩) n 0 W N1 (by omega) G2.rfl wN1 q3 (by omega) rfl (fun N2 G => ?_)
    refine l9_lk93 (M0 := (zu N2.1 64 3 (nI (wT W)), N2.2)) 6 0 _ (by omega) (fun _ _ => rfl) rfl (fun q => by rw [if_neg (by omega)]) (fun N3 f3 r3 e3 => ⟨rfl, fun a ha => ?_, ?_, fun _ _ _ => ?_, ?_⟩)
    · have r94 : N2.1 94 = N1.1 94 := G.1 94 (by omega) (by omega) (by omega) (by omega)
      by_cases a73 : a = 73
      · rw [a73]
        funext q
        rw [e3 q]
        show (if q < 6 then vp_nar .boolean (zu N2.1 64 3 (nI (wT W)) 94 q) else zu N2.1 64 3 (nI (wT W)) 73 q) = _
        rw [zu_ne (by omega : (94 : Nat) ≠ 64), zu_ne (by omega : (73 : Nat) ≠ 64)]
        by_cases c : q < 6
        · rw [if_pos c, r94, e1 q c, c73 q c, nar_zb, nar_zb]
        · rw [if_neg c, G.2.2.1 q (by omega), f1 73 (by omega)]
      · rw [f3 a a73]
        unfold qa at ha
        by_cases a64 : a = 64
        · rw [a64]
          refine zu_back (fun j hj => ?_) m3.symm
          rw [G.2.1 j hj, f1 64 (by omega)]
        · show zu N2.1 64 3 (nI (wT W)) a = _
          rw [zu_ne a64, G.1 a (by omega) (by omega) a64 a73, f1 a (by omega)]
    · rw [r3]; show N2.2.1 = _; rw [G.2.2.2, r1]
    · rw [r3]; show N2.2.2.1 _ _ = _; rw [G.2.2.2, r1]
    · rw [r3]; show N2.2.2.2 = _; rw [G.2.2.2, r1]))
  exact ⟨M1, M2, _, h1, h2, g1.trans g2⟩
end LK
