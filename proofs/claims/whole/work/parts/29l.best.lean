/-! The call bestSeat -/
def lsI (f : Nat → Int32) : Nat → Nat → Int32 → Int32
  | 0, _, a => a
  | j + 1, k, a => lsI f j (k + 1) (a + f k)
noncomputable def sDf (W : Wv) (m k : Nat) : Int32 := nI (sVotes (wTu W (wT W + k)) (fun q => sSays (wTu W (wT W + k)) q m) 1) - nI (sVotes (wTu W (wT W + k)) (fun q => sSays (wTu W (wT W + k)) q m) (-1))
def wMo (W : Wv) (s : Nat) : Wv := wVo W (fun j => if j = s then wV W j + 1 else wV W j)
noncomputable def sLead (W : Wv) (m s : Nat) : Int32 := lsI (sDf (wMo W s) m) (wN W) 0 0
noncomputable def sBest (f : Nat → Int32) : Nat → Nat → Nat → Int32 → Nat
  | 0, _, b, _ => b
  | j + 1, k, b, m => if m < f k then sBest f j (k + 1) k (f k) else sBest f j (k + 1) b m
theorem wMo_B {W : Wv} {s : Nat} (hB : WBd W) (hV : ∀ k, wV W k ≤ 3) : WBd (wMo W s) := by
  obtain ⟨b1, b2, b3, b4, b5, b6, b7, b8⟩ := hB
  refine ⟨b1, b2, b3, b4, b5, fun k => ?_, b7, b8⟩
  show (if k = s then wV W k + 1 else wV W k) ≤ 4
  have := hV k
  split <;> omega
section BS
variable {d : Nat} {M : ZM} {W : Wv}
theorem l8_lead {M0 : ZM} {h m s : Nat} {W' : Wv} (hi : Iv M0 W h) (hB : WBd W') (hN : wN W' = wN W) (hT : wT W' = wT W) (hm : m < wM W') : ∀ (j k t : Nat) (a : Int32) (M : ZM), k + j = wN W → Gq M0 M → WX M 25 (wTu W' t) → t ≤ 100000 → A_X8_leadWithMore_22 (d + 6) M (nI s) (nI m) a (nI k) (fun M' v => v = some (zI (lsI (sDf W' m) j k a)) ∧ Gq M0 M') := by
  have B := hi.2.2.1
  have T := hi.2.2.2.1
  have b1 := B.1
  have b2 := B.2.1
  intro j
  induction j with
  | zero =>
    intro k t a M hk g wA ht
    have hi1 := Iv_q g hi
    refine a_X8_leadWithMore_22 ?_
    rw [show M.1 2 0 = nI (wN W) from hi1.1.1]
    exact ⟨fun q => absurd q (nI_nlt (by omega) (by omega)), fun _ => ⟨rfl, g⟩⟩
  | succ j ih =>
    intro k t a M hk g wA ht
    have hi1 := Iv_q g hi
    refine a_X8_leadWithMore_22 ?_
    rw [show M.1 2 0 = nI (wN W) from hi1.1.1, show M.1 2 12 = nI (wT W) from hi1.1.2.2.2.1, nI_add, ← hT]
    refine ⟨fun _ => ?_, fun q => absurd (nI_lt (by omega) (by omega)) q⟩
    have w1 : WX (zu M.1 26 12 (nI (wT W' + k)), M.2) 25 (wTu W' (wT W' + k)) := WX_turn (W := wTu W' t) (t := wT W' + k) (by omega) wA
    have hB2 := wTu_B hB (by omega : wT W' + k ≤ 100000)
    have g1 : Gq M (zu M.1 26 12 (nI (wT W' + k)), M.2) := ⟨fun a q => zu_ne (by unfold qa at q; omega), rfl, fun _ _ _ => rfl, rfl⟩
    obtain ⟨M1, h1, f1, s1⟩ := c7_hear (d := d + 1) (by omega) w1 hB2 (m := m) hm
    have w2 := WX_FX (by omega) f1 w1
    have c1 := c7_votes (d := d + 4) (x := 1) (S := fun q => sSays (wTu W' (wT W' + k)) q m) w2 hB2 s1
    have c2 := c7_votes (d := d + 4) (x := -1) (S := fun q => sSays (wTu W' (wT W' + k)) q m) w2 hB2 s1
    refine ⟨M1, h1, M1, _, c1, M1, _, c2, ?_⟩
    rw [nI_1]
    exact ih (k + 1) (wT W' + k) _ M1 (by omega) ((g.trans g1).trans f1.q25) w2 (by omega)
theorem c8_lead {h m s : Nat} (hi : Iv M W h) (hm : m < wM W) (hs : s < wN W) : ∃ M', Rt (d + 7) 108 [zR 8 1, zI (nI s), zI (nI m)] M M' (some (zI (sLead W m s))) ∧ Gq M M' := by
  have B := hi.2.2.1
  have V := hi.2.2.2.2.2.2.2.2.2.2.2.2.2
  have T := hi.2.2.2.1
  have b2 := B.2.1
  obtain ⟨M0, h0, w0, g0⟩ := c8_ask (d := d + 4) hi.1
  have i7 := in_n (n := s) (N := 7) (by omega) (by omega)
  have v1 : M0.1 27 s = nI (wV W s) := w0.2.2.2.2.1 s (by omega)
  refine ro_rv (g_X8_leadWithMore ⟨M0, h0, ?_⟩)
  rw [zn_nI (by omega), v1, nI_1]
  have g1 : Gq M0 (zu M0.1 27 s (nI (wV W s + 1)), M0.2) := ⟨fun a q => zu_ne (by unfold qa at q; omega), rfl, fun _ _ _ => rfl, rfl⟩
  have wx : WX (zu M0.1 27 s (nI (wV W s + 1)), M0.2) 25 (wMo W s) := by
    obtain ⟨q1, q2, q3, q4, q5, q6, q7, q8, q9, q10, q11, q12, q13, q14⟩ := w0
    refine ⟨q1, q2, q3, q4, fun k hk => ?_, q6, q7, q8, q9, q10, q11, q12, q13, WX14 (M := M0) rfl (fun a ha => zu_ne (by omega)) q14⟩
    show zu M0.1 27 s (nI (wV W s + 1)) 27 k = nI (if k = s then wV W k + 1 else wV W k)
    rw [zu_if]
    by_cases e : k = s
    · rw [if_pos e, if_pos e, e]
    · rw [if_neg e, if_neg e]; exact q5 k hk
  exact ⟨i7, i7, l8_lead (W' := wMo W s) hi (wMo_B B V.1) rfl rfl hm (wN W) 0 (wT W) 0 _ (by omega) (g0.trans g1) wx (by omega)⟩
theorem l9_fors {M0 : ZM} {m : Nat} (hW : WM M0 W) (hB : WBd W) (hT : wT W ≤ 9999) (hm : m < wM W) : ∀ (j k t : Nat) (a : Int32) (M : ZM), k + j = wN W → Gt M0 M → WM M (wTu W t) → A_X9_forsOff_10 (d + 9) M (nI m) (nI (wT W)) a (nI k) (fun M' v => v = some (zI (lsI (sDf W m) j k a)) ∧ Gq M0 M') := by
  have b1 := hB.1
  have b2 := hB.2.1
  intro j
  induction j with
  | zero =>
    intro k t a M hk g wA
    refine a_X9_forsOff_10 ?_
    rw [show M.1 64 0 = nI (wN W) from wA.1]
    exact ⟨fun q => absurd q (nI_nlt (by omega) (by omega)), fun _ => ⟨rfl, Gt_end g hW.2.2.2.1⟩⟩
  | succ j ih =>
    intro k t a M hk g wA
    refine a_X9_forsOff_10 ?_
    rw [show M.1 64 0 = nI (wN W) from wA.1, nI_add (wT W)]
    refine ⟨fun _ => ?_, fun q => absurd (nI_lt (by omega) (by omega)) q⟩
    have w1 : WM (zu M.1 64 3 (nI (wT W + k)), M.2) (wTu W (wT W + k)) := WM_turn (W := wTu W t) (t := wT W + k) wA
    have hB2 := wTu_B hB (by omega : wT W + k ≤ 100000)
    obtain ⟨M1, h1, f1, s1⟩ := c9_lay (d := d) w1 hB2 (m := m) hm
    have w2 := WM_FM f1 w1
    have c1 := c9_votes (d := d + 7) (x := 1) (S := fun q => sSays (wTu W (wT W + k)) q m) w2 hB2 s1
    have c2 := c9_votes (d := d + 7) (x := -1) (S := fun q => sSays (wTu W (wT W + k)) q m) w2 hB2 s1
    refine ⟨M1, h1, M1, _, c1, M1, _, c2, ?_⟩
    rw [nI_1]
    exact ih (k + 1) (wT W + k) _ M1 (by omega) ((g.trans (Gt_zu M _)).trans f1.q.t) w2
theorem l8_best {M0 : ZM} {h m : Nat} (hi : Iv M0 W h) (hm : m < wM W) : ∀ (j k b : Nat) (x : Int32) (u : ZV) (M : ZM), k + j = wN W → Gq M0 M → (∃ c, k = c + 1) → A_X8_bestSeat_17 (d + 7) M (nI m) (nI b) x (nI k) u (fun M' v => v = some (zI (nI (sBest (sLead W m) j k b x))) ∧ Gq M0 M') := by
  have B := hi.2.2.1
  have b2 := B.2.1
  intro j
  induction j with
  | zero =>
    intro k b x u M hk g hc
    have hi1 := Iv_q g hi
    refine a_X8_bestSeat_17 ?_
    rw [show M.1 2 0 = nI (wN W) from hi1.1.1]
    exact ⟨fun q => absurd q (nI_nlt (by omega) (by omega)), fun _ => ⟨rfl, g⟩⟩
  | succ j ih =>
    intro k b x u M hk g hc
    obtain ⟨c, hc⟩ := hc
    have hi1 := Iv_q g hi
    refine a_X8_bestSeat_17 ?_
    rw [show M.1 2 0 = nI (wN W) from hi1.1.1]
    obtain ⟨M1, h1, g1⟩ := c8_lead (d := d) hi1 hm (by omega : k < wN W)
    refine ⟨fun _ => ⟨M1, _, h1, fun q => absurd q (nI_ne0 (by omega) (by omega)), fun _ => ?_⟩, fun q => absurd (nI_lt (by omega) (by omega)) q⟩
    rw [nI_1]
    unfold sBest
    refine ⟨fun q => ?_, fun q => ?_⟩
    · rw [if_pos q]; exact ih (k + 1) k _ _ M1 (by omega) (g.trans g1) ⟨k, rfl⟩
    · rw [if_neg q]; exact ih (k + 1) b x _ M1 (by omega) (g.trans g1) ⟨k, rfl⟩
/-- one step of the reference's loop -/
theorem c9_lead {m s : Nat} (hW : WM M W) (hB : WBd W) (hT : wT W ≤ 9999) (hV : ∀ k, wV W k ≤ 3) (hm : m < wM W) (hs : s < wN W) : ∃ M', Rt (d + 10) 203 [zR 9 64, zI (nI m)] (zu M.1 65 s (M.1 65 s + 1), M.2) M' (some (zI (sLead W m s))) ∧ Gq M (zu M'.1 65 s (M'.1 65 s - 1), M'.2) := by
  have b2 := hB.2.1
  have v1 : M.1 65 s = nI (wV W s) := hW.2.2.2.2.1 s (by omega)
  have wm : WM (zu M.1 65 s (M.1 65 s + 1), M.2) (wMo W s) := by
    rw [v1, nI_1]
    obtain ⟨q1, q2, q3, q4, q5, q6, q7, q8, q9, q10, q11, q12, q13, q14⟩ := id hW
    refine ⟨q1, q2, q3, q4, fun k hk => ?_, q6, q7, q8, q9, q10, q11, q12, q13, WM14 (M := M) rfl (fun a _ _ => zu_ne (by omega)) q14⟩
    show zu M.1 65 s (nI (wV W s + 1)) 65 k = nI (if k = s then wV W k + 1 else wV W k)
    rw [zu_if]
    by_cases e : k = s
    · rw [if_pos e, if_pos e, e]
    · rw [if_neg e, if_neg e]; exact q5 k hk
  have t3 : zu M.1 65 s (M.1 65 s + 1) 64 3 = nI (wT W) := hW.2.2.2.1
  obtain ⟨M', h1, g1⟩ := ro_rv (g_X9_forsOff (d := d + 9) (i1 := nI m) (M := (zu M.1 65 s (M.1 65 s + 1), M.2)) (by dsimp only; rw [t3]; exact l9_fors (W := wMo W s) wm (wMo_B hB hV) hT hm (wN W) 0 (wT W) 0 _ (show 0 + wN W = wN W from Nat.zero_add _) Gq.rfl.t wm))
  refine ⟨M', h1, fun a ha => ?_, g1.2.1, g1.2.2.1, g1.2.2.2⟩
  by_cases e : a = 65
  · rw [e]
    refine zu_back (fun j hj => ?_) ?_
    · rw [g1.1 65 (by unfold qa; omega)]
      exact zu_kn hj
    · rw [g1.1 65 (by unfold qa; omega)]
      show zu M.1 65 s (M.1 65 s + 1) 65 s - 1 = _
      rw [zu_kk, v1, nI_1, nI_pred]
  · show zu M'.1 65 s _ a = _
    rw [zu_ne e, g1.1 a ha]
    exact zu_ne e
theorem l9_best {M0 : ZM} {h m : Nat} (hi : Iv M0 W h) (hm : m < wM W) : ∀ (j k b : Nat) (x : Int32) (u : ZV) (M : ZM), k + j = wN W → Gq M0 M → b < 100 → A_X9_bestSeat_17 (d + 10) M (nI m) (nI b) x (nI k) u (fun M' v => v = some (zI (nI (sBest (sLead W m) j k b x))) ∧ Gq M0 M') := by
  have B := hi.2.2.1
  have b2 := B.2.1
  have V := hi.2.2.2.2.2.2.2.2.2.2.2.2.2
  intro j
  induction j with
  | zero =>
    intro k b x u M hk g hb
    have hi1 := Iv_q g hi
    refine a_X9_bestSeat_17 ?_
    rw [hi1.2.1.1]
    exact ⟨fun q => absurd q (nI_nlt (by omega) (by omega)), fun _ => ⟨rfl, g⟩⟩
  | succ j ih =>
    intro k b x u M hk g hb
    have hi1 := Iv_q g hi
    refine a_X9_bestSeat_17 ?_
    obtain ⟨M1, h1, g1⟩ := c9_lead (d := d) hi1.2.1 B hi.2.2.2.1 V.1 hm (by omega : k < wN W)
    have i7 := in_n (n := k) (N := 7) (by omega) (by omega)
    rw [hi1.2.1.1, zn_nI (by omega), nI_1]
    refine ⟨fun _ => ⟨i7, i7, M1, _, h1, i7, i7, fun q => absurd q (nI_pos (by omega)), fun _ => ?_⟩, fun q => absurd (nI_lt (by omega) (by omega)) q⟩
    unfold sBest
    refine ⟨fun q => ?_, fun q => ?_⟩
    · rw [if_pos q]; exact ih (k + 1) k _ _ _ (by omega) (g.trans g1) (by omega)
    · rw [if_neg q]; exact ih (k + 1) b x _ _ (by omega) (g.trans g1) hb
theorem op_bestSeat (i : Int32) : Op 107 204 [zI i] := op_q fun M W h hi => by
  have X := hi.1
  have Mo := hi.2.1
  have B := hi.2.2.1
  have T := hi.2.2.2.1
  have V := hi.2.2.2.2.2.2.2.2.2.2.2.2.2
  have b1 := B.1
  have b2 := B.2.1
  cases hv : vix i (wM W)
  · exact ⟨M, M, _, ro_rt (g_X8_bestSeat ⟨M, _, (c8_isM X).1 hv, fun _ => ⟨rfl, rfl⟩, z00⟩), ro_rt (g_X9_bestSeat ⟨M, _, (c9_isM Mo B).1 hv, fun _ => ⟨rfl, rfl⟩, z00⟩), Gq.rfl⟩
  obtain ⟨m, hm, em⟩ := vix_t (by have := B.2.2.2.1; omega) hv
  obtain ⟨n, hn⟩ : ∃ n, wN W = n + 1 := ⟨wN W - 1, by omega⟩
  -- X
  obtain ⟨M1, h1, g1⟩ := ro_rv (g_X8_bestSeat (d := 59) (i1 := i) (M := M) (R := fun M' v => v = some (zI (nI (sBest (sLead W m) n 1 0 (sLead W m 0)))) ∧ Gq M M') ⟨M, _, (c8_isM X).2 hv, z10, fun _ => by
    rw [em]
    refine a_X8_bestSeat_17 ?_
    rw [show M.1 2 0 = nI (wN W) from X.1]
    obtain ⟨N1, k1, e1⟩ := c8_lead (d := 52) hi hm (by omega : 0 < wN W)
    exact ⟨fun _ => ⟨N1, _, k1, fun _ => l8_best (d := 52) hi hm n 1 0 _ _ N1 (by omega) e1 ⟨0, rfl⟩, fun q => absurd rfl q⟩, fun q => absurd (nI_lt (a := 0) (by omega) (by omega)) q⟩⟩)
  have hi1 := Iv_q g1 hi
  obtain ⟨M2, h2, g2⟩ := ro_rv (g_X9_bestSeat (d := 59) (i1 := i) (M := M1) (R := fun M' v => v = some (zI (nI (sBest (sLead W m) n 1 0 (sLead W m 0)))) ∧ Gq M1 M') ⟨M1, _, (c9_isM hi1.2.1 B).2 hv, z10, fun _ => by
    rw [em]
    refine a_X9_bestSeat_17 ?_
    obtain ⟨N1, k1, e1⟩ := c9_lead (d := 49) hi1.2.1 B T V.1 hm (by omega : 0 < wN W)
    have i7 : ¬ ((0 : Int32) < 0 ∨ 7 ≤ zn (0 : Int32)) := by decide
    rw [hi1.2.1.1]
    exact ⟨fun _ => ⟨i7, i7, N1, _, k1, i7, i7, fun _ => l9_best (d := 49) hi1 hm n 1 0 _ _ _ (by omega) e1 (by omega), fun q => absurd (by decide) q⟩, fun q => absurd (nI_lt (a := 0) (by omega) (by omega)) q⟩⟩)
  exact ⟨M1, M2, _, h1, h2, g1.trans g2⟩
end BS
