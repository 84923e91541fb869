/-! The calls: hold, decides, mean, meet -/
/-- the reference's turn alone is another, over what questions change -/
def Gt (M M' : ZM) : Prop := (∀ a, qa a → a ≠ 64 → M'.1 a = M.1 a) ∧ (∀ j, j ≠ 3 → M'.1 64 j = M.1 64 j) ∧ M'.2.1 = M.2.1 ∧ (∀ a k, a ≠ 26 → M'.2.2.1 a k = M.2.2.1 a k) ∧ M'.2.2.2 = M.2.2.2
theorem Gt.trans {M M' M'' : ZM} (h : Gt M M') (g : Gt M' M'') : Gt M M'' := ⟨fun a q r => (g.1 a q r).trans (h.1 a q r), fun j q => (g.2.1 j q).trans (h.2.1 j q), g.2.2.1.trans h.2.2.1, fun a k q => (g.2.2.2.1 a k q).trans (h.2.2.2.1 a k q), g.2.2.2.2.trans h.2.2.2.2⟩
theorem Gq.t {M M' : ZM} (h : Gq M M') : Gt M M' := ⟨fun a q _ => h.1 a q, fun j _ => by rw [h.1 64 (by unfold qa; omega)], h.2⟩
theorem Gt_zu (M : ZM) (v : Int32) : Gt M (zu M.1 64 3 v, M.2) := ⟨fun a _ h => zu_ne h, fun j h => zu_kn h, rfl, fun _ _ _ => rfl, rfl⟩
theorem Gt_end {M M' : ZM} {v : Int32} (h : Gt M M') (hv : M.1 64 3 = v) : Gq M (zu M'.1 64 3 v, M'.2) := by
  refine ⟨fun a q => ?_, h.2.2.1, h.2.2.2.1, h.2.2.2.2⟩
  by_cases ha : a = 64
  · rw [ha]
    exact zu_back (fun j hj => h.2.1 j hj) hv.symm
  · exact (zu_ne ha).trans (h.1 a q ha)
/-- a vote in which one says something else -/
noncomputable def sIf (W : Wv) (m p : Nat) (x : Int32) : Nat := sGoes W (fun q => if q = p then x else sSays W q m) m
section O2
variable {d : Nat} {M : ZM} {W : Wv}
theorem c9_if (hW : WM M W) (hB : WBd W) {m p : Nat} (hm : m < wM W) (hp : p < wP W) {x : Int32} (hx : x = 1 ∨ x = -1 ∨ x = 0) : ∃ M', Rt (d + 10) 194 [zR 9 64, zI (nI m), zI (nI p), zI x] M M' (some (zI (nI (sIf W m p x)))) ∧ FM M M' := by
  have b2 := hB.2.1
  have b3 := hB.2.2.1
  have b4 := hB.2.2.2.1
  obtain ⟨M1, h1, f1, s1⟩ := c9_lay (d := d) hW hB hm
  have f2 : FM M1 (zu M1.1 84 p x, M1.2) := ⟨fun a _ q => zu_ne q, rfl⟩
  refine ro_rv (g_X9_goesIf ⟨M1, h1, in_nI (by omega) (by omega), ?_⟩)
  rw [zn_nI (by omega)]
  refine ⟨_, _, c9_goesBy (S := fun q => if q = p then x else sSays W q m) (WM_FM f2 (WM_FM f1 hW)) hB (fun q _ => ?_) (fun q hq => ?_) (by omega), rfl, f1.trans f2⟩
  · dsimp only
    split
    · exact hx
    · exact sSays_c W q m
  · show zu M1.1 84 p x 84 q = (if q = p then x else sSays W q m)
    by_cases h : q = p
    · rw [h, zu_kk, if_pos rfl]
    · rw [zu_kn h, if_neg h]
      exact s1 q hq
theorem l_m1 {P : Prop} (q : (-1 : Int32) = 0) : P := absurd q (by decide)
theorem op_hold (i k : Int32) : Op 100 195 [zI i, zI k] := op_q fun M W h hi => by
  have X := hi.1
  have Mo := hi.2.1
  have B := hi.2.2.1
  have T := hi.2.2.2.1
  cases hv : vix i (wM W)
  · exact ⟨M, M, _, ro_rt (g_X8_hold ⟨M, _, (c8_isM X).1 hv, fun _ => ⟨rfl, rfl⟩, z00⟩), ro_rt (g_X9_hold ⟨M, _, (c9_isM Mo B).1 hv, fun _ => ⟨rfl, rfl⟩, z00⟩), Gq.rfl⟩
  cases hu : vix k (wP W)
  · exact ⟨M, M, _, ro_rt (g_X8_hold ⟨M, _, (c8_isM X).2 hv, z10, fun _ => ⟨M, _, (c8_isP X).1 hu, fun _ => ⟨rfl, rfl⟩, z00⟩⟩), ro_rt (g_X9_hold ⟨M, _, (c9_isM Mo B).2 hv, z10, fun _ => ⟨M, _, (c9_isP Mo B).1 hu, fun _ => ⟨rfl, rfl⟩, z00⟩⟩), Gq.rfl⟩
  have b2 := B.2.1
  have b3 := B.2.2.1
  have b4 := B.2.2.2.1
  obtain ⟨m, hm, em⟩ := vix_t (by omega) hv
  obtain ⟨p, hp, ep⟩ := vix_t (by omega) hu
  obtain ⟨M0, h0, w0, g0⟩ := c8_ask (d := 57) X
  obtain ⟨M1, h1, w1, g1, s1⟩ := c8_behind (d := 53) (k := 0) (WX_q (Or.inl rfl) g0 X) w0 B hm (by omega)
  have eW : wTu W (wT W + 0) = W := rfl
  rw [eW] at h1 w1 s1
  have g2 : Gq M1 (zu M1.1 36 p (-1), M1.2) := ⟨fun a q => zu_ne (by unfold qa at q; omega), rfl, fun _ _ _ => rfl, rfl⟩
  have w2 : WX (zu M1.1 36 p (-1), M1.2) 25 W := WX_FX (by omega) ⟨fun a q _ => zu_ne (by omega), rfl⟩ w1
  have c2 := c7_goes (d := 55) (S := fun q => if q = p then -1 else sSays W q m) w2 B (fun q hq => by
    show zu M1.1 36 p (-1) 36 q = (if q = p then -1 else sSays W q m)
    by_cases h : q = p
    · rw [h, zu_kk, if_pos rfl]
    · rw [zu_kn h, if_neg h]
      exact s1 q hq) (by omega : m < 6)
  have e2 : sGoes W (fun q => if q = p then -1 else sSays W q m) m = sIf W m p (-1) := rfl
  rw [e2] at c2
  have g := g0.trans g1
  have hl : sGo W m < 3 := sGoes_lt
  have hl2 : sIf W m p (-1) < 3 := sGoes_lt
  have e1 : (nI (sGo W m) = 1) = (sGo W m = 1) := nI_1e (by omega)
  have e3 : (nI (sIf W m p (-1)) = 1) = (sIf W m p (-1) = 1) := nI_1e (by omega)
  by_cases hg : sGo W m = 1
  · have hi2 := Iv_q (g.trans g2) hi
    obtain ⟨M3, h3, f3, _⟩ := c9_goes (d := 49) hi2.2.1 B hm
    obtain ⟨M4, h4, f4⟩ := c9_if (d := 49) (WM_FM f3 hi2.2.1) B hm hp (x := -1) (Or.inr (Or.inl rfl))
    have cx : Rt 60 100 [zR 8 1, zI i, zI k] M (zu M1.1 36 p (-1), M1.2) (some (zI (if sIf W m p (-1) = 1 then 0 else 1))) := ro_rt (g_X8_hold ⟨M, _, (c8_isM X).2 hv, z10, fun _ => ⟨M, _, (c8_isP X).2 hu, z10, fun _ => ⟨M0, h0, M1, _, by rw [em]; exact h1, fun _ => by
      rw [ep, em]
      refine ⟨in_nI (by omega) (by omega), ?_⟩
      rw [zn_nI (by omega)]
      refine ⟨_, _, c2, ?_⟩
      rw [e3]
      exact ⟨fun q => ⟨rfl, by rw [if_pos q]⟩, fun q => ⟨rfl, by rw [if_neg q]⟩⟩, fun q => absurd (by rw [e1]; exact hg) q⟩⟩⟩)
    have cm : Rt 60 195 [zR 9 64, zI i, zI k] (zu M1.1 36 p (-1), M1.2) M4 (some (zI (if sIf W m p (-1) = 1 then 0 else 1))) := ro_rt (g_X9_hold ⟨_, _, (c9_isM hi2.2.1 B).2 hv, z10, fun _ => ⟨_, _, (c9_isP hi2.2.1 B).2 hu, z10, fun _ => ⟨M3, _, by rw [em]; exact h3, fun _ => by
      rw [ep, em]
      refine ⟨M4, _, h4, ?_⟩
      rw [e3]
      exact ⟨fun q => ⟨rfl, by rw [if_pos q]⟩, fun q => ⟨rfl, by rw [if_neg q]⟩⟩, fun q => absurd (by rw [e1]; exact hg) q⟩⟩⟩)
    exact ⟨_, M4, _, cx, cm, (g.trans g2).trans (f3.q.trans f4.q)⟩
  · have hi2 := Iv_q g hi
    obtain ⟨M3, h3, f3, _⟩ := c9_goes (d := 49) hi2.2.1 B hm
    have cx : Rt 60 100 [zR 8 1, zI i, zI k] M M1 (some (zI 0)) := ro_rt (g_X8_hold ⟨M, _, (c8_isM X).2 hv, z10, fun _ => ⟨M, _, (c8_isP X).2 hu, z10, fun _ => ⟨M0, h0, M1, _, by rw [em]; exact h1, fun q => absurd (by rw [e1] at q; exact q) hg, fun _ => ⟨rfl, rfl⟩⟩⟩⟩)
    have cm : Rt 60 195 [zR 9 64, zI i, zI k] M1 M3 (some (zI 0)) := ro_rt (g_X9_hold ⟨_, _, (c9_isM hi2.2.1 B).2 hv, z10, fun _ => ⟨_, _, (c9_isP hi2.2.1 B).2 hu, z10, fun _ => ⟨M3, _, by rw [em]; exact h3, fun q => absurd (by rw [e1] at q; exact q) hg, fun _ => ⟨rfl, rfl⟩⟩⟩⟩)
    exact ⟨_, M3, _, cx, cm, g.trans f3.q⟩
/-- how often one decides, a turn each -/
noncomputable def sDec (W : Wv) (m p k : Nat) : Nat := if sGo (wTu W (wT W + k)) m = sIf (wTu W (wT W + k)) m p 0 then 0 else 1
theorem l8_dec {M0 : ZM} {h : Nat} (hi : Iv M0 W h) {m p : Nat} (hm : m < wM W) (hp : p < wP W) : ∀ (j k a t : Nat) (u : ZV) (M : ZM), k + j = wN W → Gq M0 M → WX M 25 (wTu W t) → t ≤ 100000 → A_X8_decides_27 59 M (nI m) (nI p) (nI a) (nI k) u (fun M' v => v = some (zI (nI (a + lsum (sDec W m p) j k))) ∧ Gq M0 M') := by
  have B := hi.2.2.1
  have T := hi.2.2.2.1
  have b2 := B.2.1
  have b3 := B.2.2.1
  have b4 := B.2.2.2.1
  intro j
  induction j with
  | zero =>
    intro k a t u M hk g wA ht
    have hi1 := Iv_q g hi
    refine a_X8_decides_27 ?_
    rw [show M.1 2 0 = nI (wN W) from hi1.1.1]
    exact ⟨fun q => absurd q (nI_nlt (by omega) (by omega)), fun _ => ⟨rfl, g⟩⟩
  | succ j ih =>
    intro k a t u M hk g wA ht
    have hi1 := Iv_q g hi
    refine a_X8_decides_27 ?_
    rw [show M.1 2 0 = nI (wN W) from hi1.1.1]
    refine ⟨fun _ => ?_, fun q => absurd (nI_lt (by omega) (by omega)) q⟩
    obtain ⟨M1, h1, w1, g1, s1⟩ := c8_behind (d := 53) (k := k) hi1.1 wA (wTu_B B ht) (m := m) hm (by omega)
    have eW : wTu (wTu W t) (wT W + k) = wTu W (wT W + k) := rfl
    rw [eW] at h1 w1 s1
    have g2 : Gq M1 (zu M1.1 36 p 0, M1.2) := ⟨fun a q => zu_ne (by unfold qa at q; omega), rfl, fun _ _ _ => rfl, rfl⟩
    have w2 : WX (zu M1.1 36 p 0, M1.2) 25 (wTu W (wT W + k)) := WX_FX (by omega) ⟨fun a q _ => zu_ne (by omega), rfl⟩ w1
    have c2 := c7_goes (d := 55) (S := fun q => if q = p then 0 else sSays (wTu W (wT W + k)) q m) w2 (wTu_B B (by omega)) (fun q hq => by
      show zu M1.1 36 p 0 36 q = (if q = p then 0 else _)
      by_cases h : q = p
      · rw [h, zu_kk, if_pos rfl]
      · rw [zu_kn h, if_neg h]
        exact s1 q hq) (by omega : m < 6)
    have e2 : sGoes (wTu W (wT W + k)) (fun q => if q = p then 0 else sSays (wTu W (wT W + k)) q m) m = sIf (wTu W (wT W + k)) m p 0 := rfl
    rw [e2] at c2
    have hl : sGo (wTu W (wT W + k)) m < 3 := sGoes_lt
    have hl2 : sIf (wTu W (wT W + k)) m p 0 < 3 := sGoes_lt
    refine ⟨M1, _, h1, in_nI (by omega) (by omega), ?_⟩
    rw [zn_nI (by omega)]
    refine ⟨_, _, c2, ?_⟩
    rw [nI_eqe (by omega) (by omega), nI_1, nI_1]
    have gg := (g.trans g1).trans g2
    unfold lsum
    refine ⟨fun q => ?_, fun q => ?_⟩
    · have hd : sDec W m p k = 0 := if_pos q.symm
      rw [hd, Nat.zero_add]
      exact ih (k + 1) a (wT W + k) _ _ (by omega) gg w2 (by omega)
    · have hd : sDec W m p k = 1 := if_neg (fun r => q r.symm)
      rw [hd, ← Nat.add_assoc]
      exact ih (k + 1) (a + 1) (wT W + k) _ _ (by omega) gg w2 (by omega)
theorem l9_dec {M0 : ZM} {h : Nat} (hi : Iv M0 W h) {m p : Nat} (hm : m < wM W) (hp : p < wP W) : ∀ (j k a t : Nat) (M : ZM), k + j = wN W → Gt M0 M → WM M (wTu W t) → A_X9_decides_29 59 M (nI m) (nI p) (nI (wT W)) (nI a) (nI k) (fun M' v => v = some (zI (nI (a + lsum (sDec W m p) j k))) ∧ Gq M0 M') := by
  have B := hi.2.2.1
  have T := hi.2.2.2.1
  have b2 := B.2.1
  have b3 := B.2.2.1
  have b4 := B.2.2.2.1
  intro j
  induction j with
  | zero =>
    intro k a t M hk g wA
    refine a_X9_decides_29 ?_
    rw [show M.1 64 0 = nI (wN W) from wA.1]
    exact ⟨fun q => absurd q (nI_nlt (by omega) (by omega)), fun _ => ⟨rfl, Gt_end g hi.2.1.2.2.2.1⟩⟩
  | succ j ih =>
    intro k a t M hk g wA
    refine a_X9_decides_29 ?_
    rw [show M.1 64 0 = nI (wN W) from wA.1, nI_add (wT W)]
    refine ⟨fun _ => ?_, fun q => absurd (nI_lt (by omega) (by omega)) q⟩
    have w1 : WM (zu M.1 64 3 (nI (wT W + k)), M.2) (wTu W (wT W + k)) := WM_turn (W := wTu W t) (t := wT W + k) wA
    have hB := wTu_B B (by omega : wT W + k ≤ 100000)
    obtain ⟨M1, h1, f1, _⟩ := c9_goes (d := 49) w1 hB (m := m) hm
    have w2 := WM_FM f1 w1
    obtain ⟨M2, h2, f2⟩ := c9_if (d := 49) w2 hB (m := m) hm (p := p) hp (x := 0) (Or.inr (Or.inr rfl))
    have hl : sGo (wTu W (wT W + k)) m < 3 := sGoes_lt
    have hl2 : sIf (wTu W (wT W + k)) m p 0 < 3 := sGoes_lt
    refine ⟨M1, _, h1, M2, _, h2, ?_⟩
    rw [nI_eqe (by omega) (by omega), nI_1, nI_1, l_0, nI_add a 0, Nat.add_zero]
    have gg := ((g.trans (Gt_zu M _)).trans f1.q.t).trans f2.q.t
    unfold lsum
    refine ⟨fun q => ?_, fun q => ?_⟩
    · have hd : sDec W m p k = 0 := if_pos q
      rw [hd, Nat.zero_add]
      exact ih (k + 1) a (wT W + k) _ (by omega) gg (WM_FM f2 w2)
    · have hd : sDec W m p k = 1 := if_neg q
      rw [hd, ← Nat.add_assoc]
      exact ih (k + 1) (a + 1) (wT W + k) _ (by omega) gg (WM_FM f2 w2)
theorem op_decides (i k : Int32) : Op 101 196 [zI i, zI k] := op_q fun M W h hi => by
  have X := hi.1
  have Mo := hi.2.1
  have B := hi.2.2.1
  have T := hi.2.2.2.1
  cases hv : vix i (wM W)
  · exact ⟨M, M, _, ro_rt (g_X8_decides ⟨M, _, (c8_isM X).1 hv, fun _ => ⟨rfl, rfl⟩, z00⟩), ro_rt (g_X9_decides ⟨M, _, (c9_isM Mo B).1 hv, fun _ => ⟨rfl, rfl⟩, z00⟩), Gq.rfl⟩
  cases hu : vix k (wP W)
  · exact ⟨M, M, _, ro_rt (g_X8_decides ⟨M, _, (c8_isM X).2 hv, z10, fun _ => ⟨M, _, (c8_isP X).1 hu, fun _ => ⟨rfl, rfl⟩, z00⟩⟩), ro_rt (g_X9_decides ⟨M, _, (c9_isM Mo B).2 hv, z10, fun _ => ⟨M, _, (c9_isP Mo B).1 hu, fun _ => ⟨rfl, rfl⟩, z00⟩⟩), Gq.rfl⟩
  have b2 := B.2.1
  have b3 := B.2.2.1
  have b4 := B.2.2.2.1
  obtain ⟨m, hm, em⟩ := vix_t (by omega) hv
  obtain ⟨p, hp, ep⟩ := vix_t (by omega) hu
  obtain ⟨M0, h0, w0, g0⟩ := c8_ask (d := 57) X
  obtain ⟨M1, h1, g1⟩ := ro_rv (g_X8_decides (i1 := i) (i2 := k) ⟨M, _, (c8_isM X).2 hv, z10, fun _ => ⟨M, _, (c8_isP X).2 hu, z10, fun _ => ⟨M0, h0, by rw [em, ep]; exact l8_dec hi hm hp (wN W) 0 0 (wT W) zU M0 (by omega) g0 w0 (by omega)⟩⟩⟩)
  have hi1 := Iv_q g1 hi
  obtain ⟨M2, h2, g2⟩ := ro_rv (g_X9_decides (i1 := i) (i2 := k) ⟨M1, _, (c9_isM hi1.2.1 B).2 hv, z10, fun _ => ⟨M1, _, (c9_isP hi1.2.1 B).2 hu, z10, fun _ => by rw [em, ep, hi1.2.1.2.2.2.1]; exact l9_dec hi1 hm hp (wN W) 0 0 (wT W) M1 (by omega) Gq.rfl.t hi1.2.1⟩⟩)
  exact ⟨M1, M2, _, h1, h2, g1.trans g2⟩
end O2
