/-! The reference: LIKE, tie, what all say, how a vote goes -/
section MW
variable {d : Nat} {M : ZM} {W : Wv}
theorem c9_behind {f : Nat} {H : Hs} (x : M.1 64 14 = nI f) (y : f < 6) (z : HM M.1 f H) : Rt (d + 1) 168 [zR 9 64] M M (some (zI (nI (10 * f + H.length)))) := by
  refine ro_rt (g_X9_behind ?_)
  rw [x]
  refine ⟨fun h => absurd h (nI_pos (by omega)), fun _ => ⟨in_nI y (by omega), rfl, ?_⟩⟩
  rw [zn_nI (by omega), z.1, l_10, pk_mul, nI_add]
theorem hCl_0 {w : Nat × Nat × List Tok} {r : Hs} (h : w.1 = 0) : hCl (w :: r) = (nI w.2.1, w.2.2) :: hCl r := by
  obtain ⟨a, b, c⟩ := w
  simp only at h
  subst h
  rfl
theorem hCl_1 {w : Nat × Nat × List Tok} {r : Hs} (h : w.1 = 1) : hCl (w :: r) = (-nI w.2.1, w.2.2) :: hCl r := by
  obtain ⟨a, b, c⟩ := w
  simp only at h
  subst h
  rfl
theorem hCl_2 {w : Nat × Nat × List Tok} {r : Hs} (h : w.1 = 2) : hCl (w :: r) = hCl r := by
  obtain ⟨a, b, c⟩ := w
  simp only at h
  subst h
  rfl
theorem l9_like {M0 : ZM} (hW : WM M0 W) (hB : WBd W) {a m f : Nat} {H : Hs} (ha : a < 7) (x : M0.1 64 14 = nI f) (y : f < 6) (z : HM M0.1 f H) : ∀ (r : Hs) (c : Nat) (acc : Int32) (M : ZM), FP M0 M → HMr M0.1 r c → c + r.length = 10 * f + H.length → A_X9_likeOf_8 (d + 3) M (nI a) (nI m) acc (nI c) (fun M' v => v = some (zI (hLk (sFact W a m) (hCl r) acc)) ∧ FP M0 M') := by
  have z2 := z.2.1
  intro r
  induction r with
  | nil =>
    intro c acc M hF hr hc
    have hb := c9_behind (d := d + 2) (M := M) (by rw [hF.1 64 (by omega)]; exact x) y (by have := z; unfold HM at this ⊢; rw [hF.1 75 (by omega)]; exact ⟨this.1, this.2.1, HMr_eq (fun b _ _ => hF.1 b (by omega)) _ _ this.2.2⟩ : HM M.1 f H)
    refine a_X9_likeOf_8 ⟨M, _, hb, ?_⟩
    rw [List.length_nil] at hc
    exact ⟨fun h => absurd h (nI_nlt (by omega) (by omega)), fun _ => ⟨rfl, hF⟩⟩
  | cons w r ih =>
    intro c acc M hF hr hc
    have hb := c9_behind (d := d + 2) (M := M) (by rw [hF.1 64 (by omega)]; exact x) y (by have := z; unfold HM at this ⊢; rw [hF.1 75 (by omega)]; exact ⟨this.1, this.2.1, HMr_eq (fun b _ _ => hF.1 b (by omega)) _ _ this.2.2⟩ : HM M.1 f H)
    refine a_X9_likeOf_8 ⟨M, _, hb, ?_⟩
    rw [List.length_cons] at hc
    obtain ⟨q1, q2, q3, q4, q5, q6⟩ := hr
    rw [zn_nI (by omega), hF.1 76 (by omega), q1, nI_1]
    refine ⟨fun _ => ⟨in_n (by omega) (by omega), fun h => ?_, fun h => ?_⟩, fun h => absurd (nI_lt (by omega) (by omega)) h⟩
    · have hw : w.1 = 2 := (nI_eq (by omega) (by omega)).mp h
      rw [hCl_2 hw]
      exact ih (c + 1) acc M hF q6 (by omega)
    · have hw : w.1 ≠ 2 := fun q => h (by rw [q]; rfl)
      obtain ⟨g, x1, x2, x3, x4, x5⟩ := q5 hw
      have hh := l9_holds (d := d) (m := m) hW hB (by omega : c < 60) ha x3.1 x2 w.2.2 [] g zU zU zU M hF trivial x5 (by decide) x4 rfl
      obtain ⟨M1, r1, f1⟩ := ro_rv (g_X9_holds (d := d + 2) (i1 := nI c) (i2 := nI a) (i3 := nI m) (M := M) ⟨in_nI (by omega) (by omega), by rw [zn_nI (by omega), hF.1 78 (by omega), x1]; exact hh⟩)
      refine ⟨M1, _, r1, ?_⟩
      rw [f1.1 76 (by omega), q1, f1.1 77 (by omega), q3]
      have hw3 : w.1 = 0 ∨ w.1 = 1 := by omega
      have hk : hLk (sFact W a m) (hCl (w :: r)) acc = hLk (sFact W a m) (hCl r) (if (hval (sFact W a m) w.2.2 []).headD false = true then acc + (if w.1 = 0 then nI w.2.1 else -nI w.2.1) else acc) := by
        rcases hw3 with q | q
        · rw [hCl_0 q, if_pos q]; rfl
        · rw [hCl_1 q, if_neg (by rw [q]; decide : ¬ w.1 = 0)]; rfl
      rw [hk]
      cases hv : (hval (sFact W a m) w.2.2 []).headD false
      · exact ⟨fun _ => ih (c + 1) acc M1 f1 q6 (by omega), fun q => absurd rfl q⟩
      · refine ⟨fun q => absurd q (by decide), fun _ => ⟨in_n (by omega) (by omega), fun q => ⟨in_n (by omega) (by omega), ?_⟩, fun q => ⟨in_n (by omega) (by omega), ?_⟩⟩⟩
        · have hw0 : w.1 = 0 := (nI_eq (by omega) (by omega)).mp q
          rw [if_pos rfl, if_pos hw0]
          exact ih (c + 1) _ M1 f1 q6 (by omega)
        · have hw0 : w.1 ≠ 0 := fun e => q (by rw [e]; rfl)
          rw [if_pos rfl, if_neg hw0]
          exact ih (c + 1) _ M1 f1 q6 (by omega)
theorem c9_like (hW : WM M W) (hB : WBd W) {a m : Nat} (ha : a < 7) : ∃ M', Rt (d + 4) 172 [zR 9 64, zI (nI a), zI (nI m)] M M' (some (zI (sLike W a m))) ∧ FP M M' := by
  refine ro_rv (g_X9_likeOf ?_)
  rcases hW.2.2.2.2.2.2.2.2.2.2.2.2.2 with ⟨x, y⟩ | ⟨f, x, y, z⟩
  · have h1 : Rt (d + 3) 167 [zR 9 64] M M (some (zI 0)) := ro_rt (g_X9_begin (by rw [x]; exact ⟨fun _ => ⟨rfl, rfl⟩, fun h => absurd (by decide) h⟩))
    have h2 : Rt (d + 3) 168 [zR 9 64] M M (some (zI 0)) := ro_rt (g_X9_behind (by rw [x]; exact ⟨fun _ => ⟨rfl, rfl⟩, fun h => absurd (by decide) h⟩))
    refine ⟨M, _, h1, a_X9_likeOf_8 ⟨M, _, h2, fun h => absurd h (by decide), fun _ => ⟨?_, FP.rfl⟩⟩⟩
    unfold sLike
    rw [y]
    rfl
  · have h1 : Rt (d + 3) 167 [zR 9 64] M M (some (zI (nI (10 * f)))) := ro_rt (g_X9_begin (by
      rw [x]
      refine ⟨fun h => absurd h (nI_pos (by omega)), fun _ => ⟨rfl, ?_⟩⟩
      rw [l_10, pk_mul]))
    exact ⟨M, _, h1, l9_like hW hB ha x y z (wH W) (10 * f) 0 M FP.rfl z.2.2 rfl⟩
theorem l9_tie {f : Nat} {H : Hs} (x : M.1 64 14 = nI f) (y : f < 6) (z : HM M.1 f H) : ∀ (r : Hs) (c n : Nat), HMr M.1 r c → c + r.length = 10 * f + H.length → A_X9_tieNow_7 (d + 1) M (nI n) (nI c) (fun M' v => M' = M ∧ v = some (zI (nI (hTie r n)))) := by
  have z2 := z.2.1
  intro r
  induction r with
  | nil =>
    intro c n hr hc
    refine a_X9_tieNow_7 ⟨M, _, c9_behind x y z, ?_⟩
    rw [List.length_nil] at hc
    exact ⟨fun h => absurd h (nI_nlt (by omega) (by omega)), fun _ => ⟨rfl, rfl⟩⟩
  | cons w r ih =>
    intro c n hr hc
    refine a_X9_tieNow_7 ⟨M, _, c9_behind x y z, ?_⟩
    rw [List.length_cons] at hc
    obtain ⟨q1, q2, q3, q4, q5, q6⟩ := hr
    rw [zn_nI (by omega), q1, q3, nI_1]
    have e : hTie (w :: r) n = hTie r (if w.1 = 2 then w.2.1 else n) := rfl
    rw [e]
    refine ⟨fun _ => ⟨in_n (by omega) (by omega), fun h => ⟨in_n (by omega) (by omega), ?_⟩, fun h => ?_⟩, fun h => absurd (nI_lt (by omega) (by omega)) h⟩
    · rw [if_pos ((nI_eq (b := 2) (by omega) (by omega)).mp h)]
      exact ih (c + 1) _ q6 (by omega)
    · rw [if_neg (fun q => h (by rw [q]; rfl))]
      exact ih (c + 1) _ q6 (by omega)
theorem c9_tie (hW : WM M W) : Rt (d + 2) 169 [zR 9 64] M M (some (zI (nI (hTie (wH W) 0)))) := by
  refine ro_rt (g_X9_tieNow ?_)
  rcases hW.2.2.2.2.2.2.2.2.2.2.2.2.2 with ⟨x, y⟩ | ⟨f, x, y, z⟩
  · have h1 : Rt (d + 1) 167 [zR 9 64] M M (some (zI 0)) := ro_rt (g_X9_begin (by rw [x]; exact ⟨fun _ => ⟨rfl, rfl⟩, fun h => absurd (by decide) h⟩))
    have h2 : Rt (d + 1) 168 [zR 9 64] M M (some (zI 0)) := ro_rt (g_X9_behind (by rw [x]; exact ⟨fun _ => ⟨rfl, rfl⟩, fun h => absurd (by decide) h⟩))
    refine ⟨M, _, h1, a_X9_tieNow_7 ⟨M, _, h2, fun h => absurd h (by decide), fun _ => ⟨rfl, ?_⟩⟩⟩
    rw [y]
    rfl
  · have h1 : Rt (d + 1) 167 [zR 9 64] M M (some (zI (nI (10 * f)))) := ro_rt (g_X9_begin (by
      rw [x]
      refine ⟨fun h => absurd h (nI_pos (by omega)), fun _ => ⟨rfl, ?_⟩⟩
      rw [l_10, pk_mul]))
    exact ⟨M, _, h1, l9_tie x y z (wH W) (10 * f) 0 z.2.2 rfl⟩
theorem c9_plain (hW : WM M W) (hB : WBd W) {a m : Nat} (ha : a < 7) : ∃ M', Rt (d + 5) 174 [zR 9 64, zI (nI a), zI (nI m)] M M' (some (zI (sPlain W a m))) ∧ FP M M' := by
  obtain ⟨M1, h1, f1⟩ := c9_like (d := d) (m := m) hW hB ha
  refine ro_rv (g_X9_plain ⟨M1, _, h1, ?_⟩)
  unfold sPlain sSign
  refine ⟨fun h => ?_, fun h => ⟨fun h2 => ?_, fun h2 => ?_⟩⟩
  · rw [if_pos h]; exact ⟨rfl, f1⟩
  · rw [if_neg h, if_pos h2]; exact ⟨rfl, f1⟩
  · rw [if_neg h, if_neg h2]; exact ⟨rfl, f1⟩
theorem c9_idly (hW : WM M W) (hB : WBd W) {a m : Nat} (ha : a < 7) : ∃ M', Rt (d + 6) 175 [zR 9 64, zI (nI a), zI (nI m)] M M' (some (zI (sIdly W a m))) ∧ FP M M' := by
  have hl := sSeat_lt hB a
  have b6 := hB.2.2.2.2.2.1 (sSeat W a)
  refine ro_rv (g_X9_idly ⟨M, _, c9_seatOf hW hB ha, in_nI hl (by omega), ?_⟩)
  rw [zn_nI (by omega), hW.2.2.2.2.1 _ (by omega), nI_z (by omega)]
  unfold sIdly
  refine ⟨fun h => ?_, fun h => ?_⟩
  · rw [if_pos h]; exact ⟨rfl, FP.rfl⟩
  · rw [if_neg h]
    obtain ⟨M1, h1, f1⟩ := c9_plain (d := d) (m := m) hW hB ha
    exact ⟨M1, _, h1, rfl, f1⟩
theorem c9_away (hW : WM M W) (hB : WBd W) {a m : Nat} (ha : a < 7) : ∃ M', Rt (d + 6) 177 [zR 9 64, zI (nI a), zI (nI m)] M M' (some (zI (sAway W a m))) ∧ FP M M' := by
  have b7 := hB.2.2.2.2.2.2.1 a
  have b5 := hB.2.2.2.2.1
  refine ro_rv (g_X9_away ⟨in_nI ha (by omega), ?_⟩)
  rw [zn_nI (by omega), hW.2.2.2.1, hW.2.2.2.2.2.2.2.2.1 _ (by omega), l_2, nI_add, zrem_nI (by omega) (by omega) (by omega), nI_z (a := wT W % (wU W a + 2)) (by have := Nat.mod_le (wT W) (wU W a + 2); omega)]
  unfold sAway
  refine ⟨nI_ne0 (by omega) (by omega), fun h => ?_, fun h => ?_⟩
  · rw [if_pos h]; exact ⟨rfl, FP.rfl⟩
  · rw [if_neg h]
    obtain ⟨M1, h1, f1⟩ := c9_plain (d := d) (m := m) hW hB ha
    exact ⟨M1, _, h1, rfl, f1⟩
theorem c9_sided (hW : WM M W) (hB : WBd W) {a m : Nat} (ha : a < 7) : ∃ M', Rt (d + 7) 176 [zR 9 64, zI (nI a), zI (nI m)] M M' (some (zI (sSided W a m))) ∧ FP M M' := by
  have hl := sSeat_lt hB a
  obtain ⟨M1, h1, f1⟩ := c9_idly (d := d) (m := m) hW hB ha
  have hW1 := WM_FM f1.m hW
  have b1 := hB.1
  have b2 := hB.2.1
  have b3 := hB.2.2.1
  have hn : (sSeat W a + 1) % wN W < 7 := Nat.lt_of_lt_of_le (Nat.mod_lt _ (by omega)) b2
  refine ro_rv (g_X9_sided ⟨M1, _, h1, M1, _, c9_seatOf hW1 hB ha, ?_⟩)
  rw [hW1.1, nI_1, zrem_nI (by omega) (by omega) (by omega)]
  refine ⟨nI_ne0 (by omega) (by omega), M1, _, c9_whoIn hW1 hB hn, ?_⟩
  unfold sSided
  refine ⟨fun h => ?_, fun h => ?_⟩
  · rw [if_neg (by simp [h])]
    cases hs : sSit W ((sSeat W a + 1) % wN W) with
    | none => exact ⟨fun _ => ⟨by rw [h], f1⟩, fun q => absurd (by decide) q⟩
    | some b =>
      have hb := lfnd_lt hs
      refine ⟨fun q => absurd q (nI_pos (n := b) (by omega)), fun _ => ?_⟩
      obtain ⟨M2, h2, f2⟩ := c9_plain (d := d + 1) (m := m) hW1 hB (by omega : b < 7)
      exact ⟨M2, _, h2, rfl, f1.trans f2⟩
  · rw [if_pos h]
    exact ⟨rfl, f1⟩
theorem c9_says (hW : WM M W) (hB : WBd W) {a m : Nat} (ha : a < 7) (hm : m < wM W) : ∃ M', Rt (d + 8) 178 [zR 9 64, zI (nI a), zI (nI m)] M M' (some (zI (sSays W a m))) ∧ FP M M' := by
  have hl := sSeat_lt hB a
  have b4 := hB.2.2.2.1
  have b7 := hB.2.2.2.2.2.2.1 a
  have hm6 : m < 6 := by omega
  refine ro_rv (g_X9_saysOf ⟨in_nI ha (by omega), ?_⟩)
  rw [zn_nI (by omega : a < 2 ^ 31), zn_nI (by omega : m < 2 ^ 31), hW.2.2.2.2.2.2.2.1 _ (by omega), hW.2.2.2.2.2.2.2.2.2.2.2.1 _ (by omega), hW.2.2.1, hW.2.2.2.2.2.2.2.2.1 _ (by omega), zrem_nI (by omega) (by omega) (by omega)]
  unfold sSays
  have p := fun m' => c9_plain (d := d + 2) (m := m') hW hB ha
  refine ⟨fun k1 => ⟨in_n hm6 (by omega), fun q => ?_, fun q => ?_⟩, fun k1 => ⟨fun k2 => ?_, fun k2 => ⟨fun k3 => ?_, fun k3 => ⟨fun k4 => ⟨in_n hm6 (by omega), fun q => ?_, fun q => ⟨M, _, c9_seatOf hW hB ha, in_nI hl (by omega), ?_⟩⟩, fun k4 => ⟨fun k5 => ?_, fun k5 => ⟨fun k6 => ⟨in_n ha (by omega), nI_ne0 (by omega) (by omega), ?_⟩, fun k6 => ?_⟩⟩⟩⟩⟩⟩
  · rw [if_pos k1, if_pos q]; exact ⟨rfl, FP.rfl⟩
  · rw [if_pos k1, if_neg q]
    obtain ⟨M1, h1, f1⟩ := p m
    exact ⟨M1, _, h1, rfl, f1⟩
  · rw [if_neg k1, if_pos k2]
    obtain ⟨M1, h1, f1⟩ := c9_idly (d := d + 1) (m := m) hW hB ha
    exact ⟨M1, _, h1, rfl, f1⟩
  · rw [if_neg k1, if_neg k2, if_pos k3]
    obtain ⟨M1, h1, f1⟩ := c9_away (d := d + 1) (m := m) hW hB ha
    exact ⟨M1, _, h1, rfl, f1⟩
  · rw [if_neg k1, if_neg k2, if_neg k3, if_pos k4, if_pos q]; exact ⟨rfl, FP.rfl⟩
  · rw [zn_nI (by omega), hW.2.2.2.2.2.1 _ (by omega), if_neg k1, if_neg k2, if_neg k3, if_pos k4, if_neg q]
    refine ⟨fun x => ?_, fun x => ?_⟩
    · rw [if_pos x]; exact ⟨rfl, FP.rfl⟩
    · rw [if_neg x]
      obtain ⟨M1, h1, f1⟩ := p m
      exact ⟨M1, _, h1, rfl, f1⟩
  · rw [if_neg k1, if_neg k2, if_neg k3, if_neg k4, if_pos k5]
    obtain ⟨M1, h1, f1⟩ := c9_sided (d := d) (m := m) hW hB ha
    exact ⟨M1, _, h1, rfl, f1⟩
  · rw [if_neg k1, if_neg k2, if_neg k3, if_neg k4, if_neg k5, if_pos k6]
    obtain ⟨M1, h1, f1⟩ := c9_away (d := d + 1) (m := wU W a % wM W) hW hB ha
    exact ⟨M1, _, h1, rfl, f1⟩
  · rw [if_neg k1, if_neg k2, if_neg k3, if_neg k4, if_neg k5, if_neg k6]
    obtain ⟨M1, h1, f1⟩ := p m
    exact ⟨M1, _, h1, rfl, f1⟩
theorem l9_lay (hB : WBd W) {m : Nat} (hm : m < wM W) (M0 : ZM) : ∀ j k M, k + j = wP W → WM M W → FM M0 M → (∀ p, p < k → M.1 84 p = sSays W p m) → A_X9_laySaid_2 (d + 8) M (nI m) (nI k) (fun M' v => v = none ∧ FM M0 M' ∧ ∀ p, p < wP W → M'.1 84 p = sSays W p m) := by
  have h1 := hB.2.1
  have h2 := hB.2.2.1
  intro j
  induction j with
  | zero =>
    intro k M hk hW hF hS
    refine a_X9_laySaid_2 ?_
    rw [hW.2.1]
    exact ⟨fun h => absurd h (nI_nlt (by omega) (by omega)), fun _ => ⟨rfl, hF, fun p hp => hS p (by omega)⟩⟩
  | succ j ih =>
    intro k M hk hW hF hS
    refine a_X9_laySaid_2 ?_
    rw [hW.2.1]
    refine ⟨fun _ => ?_, fun h => absurd (nI_lt (by omega) (by omega)) h⟩
    obtain ⟨M1, r1, f1⟩ := c9_says (d := d) hW hB (by omega : k < 7) hm
    refine ⟨M1, _, r1, in_nI (by omega) (by omega), ?_⟩
    rw [nI_1, zn_nI (by omega)]
    have f2 : FM M1 (zu M1.1 84 k (sSays W k m), M1.2) := ⟨fun a _ q => zu_ne q, rfl⟩
    refine ih (k + 1) _ (by omega) (WM_FM f2 (WM_FM f1.m hW)) (hF.trans (f1.m.trans f2)) (fun p hp => ?_)
    by_cases hpk : p = k
    · rw [hpk]; exact zu_kk
    · show zu M1.1 84 k (sSays W k m) 84 p = _
      rw [zu_kn hpk, f1.1 _ (by omega)]
      exact hS p (by omega)
theorem c9_lay (hW : WM M W) (hB : WBd W) {m : Nat} (hm : m < wM W) : ∃ M', Rt (d + 9) 181 [zR 9 64, zI (nI m)] M M' none ∧ FM M M' ∧ ∀ p, p < wP W → M'.1 84 p = sSays W p m :=
  ro_rv (g_X9_laySaid (l9_lay hB hm M (wP W) 0 M (by omega) hW FM.rfl (fun p hp => by omega)))
theorem l9_votes {S : Nat → Int32} (hW : WM M W) (hB : WBd W) {x : Int32} (hS : ∀ p, p < wP W → M.1 84 p = S p) : ∀ j k a, k + j = wP W → A_X9_votesOf_4 (d + 1) M x (nI a) (nI k) (fun M' v => M' = M ∧ v = some (zI (nI (a + lsum (fun p => if S p = x then wV W (sSeat W p) else 0) j k)))) := by
  have h1 := hB.2.1
  have h2 := hB.2.2.1
  intro j
  induction j with
  | zero =>
    intro k a hk
    refine a_X9_votesOf_4 ?_
    rw [hW.2.1]
    exact ⟨fun h => absurd h (nI_nlt (by omega) (by omega)), fun _ => ⟨rfl, rfl⟩⟩
  | succ j ih =>
    intro k a hk
    refine a_X9_votesOf_4 ?_
    rw [hW.2.1, zn_nI (by omega), hS k (by omega), nI_1, l_0, nI_add, ← l_0]
    have hl := sSeat_lt hB k
    refine ⟨fun _ => ⟨in_n (by omega) (by omega), fun h => ⟨M, _, c9_seatOf hW hB (by omega), in_nI hl (by omega), ?_⟩, fun h => ?_⟩, fun h => absurd (nI_lt (by omega) (by omega)) h⟩
    · rw [zn_nI (by omega), hW.2.2.2.2.1 _ (by omega), nI_add]
      have := ih (k + 1) (a + wV W (sSeat W k)) (by omega)
      unfold lsum
      rw [if_pos h, ← Nat.add_assoc]
      exact this
    · have := ih (k + 1) a (by omega)
      unfold lsum
      rw [if_neg h, Nat.zero_add]
      exact this
theorem c9_votes {S : Nat → Int32} (hW : WM M W) (hB : WBd W) {x : Int32} (hS : ∀ p, p < wP W → M.1 84 p = S p) : Rt (d + 2) 182 [zR 9 64, zI x] M M (some (zI (nI (sVotes W S x)))) := by
  have := l9_votes (d := d) (x := x) hW hB hS (wP W) 0 0 (by omega)
  rw [Nat.zero_add] at this
  exact ro_rt (g_X9_votesOf this)
end MW
