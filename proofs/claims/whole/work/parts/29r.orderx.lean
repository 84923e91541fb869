/-! The call order: SeatOn's side -/
noncomputable def gO (W : Wv) (m k : Nat) : Nat := if sGo (wTu W (wT W + k)) m = 1 then wW W m else 0
noncomputable def pO (W : Wv) (m k : Nat) : Nat := if sGo (wTu W (wT W + k)) m = 2 then 0 else 1
def subB (r s : Nat) : Bool := decide ((nI r &&& (nI s ^^^ (-1))) = 0)
theorem subB_1 : ∀ s, s < 64 → ∀ r, r < 64 → subB r s = true → pop r ≤ pop s ∧ r ≤ s := by decide +kernel
theorem subB_2 : ∀ s, s < 64 → ∀ r, r < 64 → ∀ m, m < 6 → (subB r s && Nat.testBit r m) = true → (Nat.testBit s m && subB (rmb r m) s) = true := by decide +kernel
theorem subB_ok (s : Nat) (hs : s < 64) (r : Nat) (hr : r < 64) (h : subB r s = true) : pop r ≤ pop s ∧ r ≤ s ∧ ∀ m, m < 6 → Nat.testBit r m = true → Nat.testBit s m = true ∧ subB (rmb r m) s = true :=
  ⟨(subB_1 s hs r hr h).1, (subB_1 s hs r hr h).2, fun m hm hb => by
    have := subB_2 s hs r hr m hm (by rw [h, hb]; rfl)
    rw [Bool.and_eq_true] at this
    exact this⟩
theorem subB_rfl : ∀ s, s < 64 → subB s s = true := by decide +kernel
theorem subB_e (r s : Nat) : ((nI r &&& (nI s ^^^ (-1))) = 0) = (subB r s = true) := propext ⟨fun h => decide_eq_true h, fun h => of_decide_eq_true h⟩
theorem tb_lt {s m P : Nat} (hs : s < 2 ^ P) (h : Nat.testBit s m = true) : m < P := by
  refine Nat.lt_of_not_le (fun q => ?_)
  rw [Nat.testBit_lt_two_pow (Nat.lt_of_lt_of_le hs (Nat.pow_le_pow_right (by omega) q))] at h
  cases h
theorem lt64 {s P : Nat} (hP : P ≤ 6) (hs : s < 2 ^ P) : s < 64 := Nat.lt_of_lt_of_le hs (Nat.pow_le_pow_right (by omega) hP)
theorem mob_le {g p : Nat → Nat → Nat} (hg : ∀ m k, g m k ≤ 99) : ∀ n s t, mob g p n s t ≤ 99 * n
  | 0, _, _ => Nat.le_refl _
  | n + 1, s, t => by
    have e : mob g p (n + 1) s t = mxb s (fun m => g m t + mob g p n (rmb s m) (t + p m t)) 6 0 0 := rfl
    obtain ⟨_, _, i3⟩ := mxb_ok s (fun m => g m t + mob g p n (rmb s m) (t + p m t)) 6 0 0
    rw [← e] at i3
    rcases i3 with x | ⟨m, _, _, _, x⟩
    · omega
    · have h1 := hg m t
      have h2 := mob_le (p := p) hg n (rmb s m) (t + p m t)
      omega
section OX
variable {d : Nat} {M : ZM} {W : Wv}
theorem gO_le (hB : WBd W) (m k : Nat) : gO W m k ≤ 99 := by
  unfold gO
  split
  · exact hB.2.2.2.2.2.2.2 m
  · omega
theorem pO_le (m k : Nat) : pO W m k ≤ 1 := by
  unfold pO
  split <;> omega
theorem l8_open (hW : WX M 1 W) (hB : WBd W) {s : Nat} (hs : s < 64) : ∀ j k, k + j = wM W → A_X8_areOpen_21 d M (nI s) (nI k) (fun M' v => M' = M ∧ v = some (zI (zb (lfnd (fun m => Nat.testBit s m && wC W m) j k).isNone))) := by
  have b4 := hB.2.2.2.1
  have n7 : M.1 2 7 = nI (wM W) := hW.2.2.1
  intro j
  induction j with
  | zero =>
    intro k hk
    refine a_X8_areOpen_21 ?_
    rw [n7]
    exact ⟨fun q => absurd q (nI_nlt (by omega) (by omega)), fun _ => ⟨rfl, rfl⟩⟩
  | succ j ih =>
    intro k hk
    have ih' := ih (k + 1) (by omega)
    refine a_X8_areOpen_21 ?_
    rw [n7, bt_t, bt_nat s (by omega) k (by omega), nI_1, zn_nI (by omega), show M.1 11 k = zb (wC W k) from hW.2.2.2.2.2.2.2.2.2.2.2.2.1 k (by omega), zb1]
    refine ⟨fun _ => ⟨fun c => ⟨in_n (by omega) (by omega), fun c2 => ⟨rfl, ?_⟩, fun c2 => ?_⟩, fun c => ?_⟩, fun q => absurd (nI_lt (by omega) (by omega)) q⟩
    · rw [lfnd_p (by rw [c, c2]; rfl)]; rfl
    · rw [lfnd_n (by rw [c, eq_false_of_ne_true c2]; rfl)]; exact ih'
    · rw [lfnd_n (by rw [eq_false_of_ne_true c]; rfl)]; exact ih'
theorem z7 (a b : Nat) : nI a * 7 + nI b = nI (7 * a + b) := by
  rw [l_7, pk_mul, nI_add, Nat.mul_comm]
theorem c1_put {m k r w : Nat} (hm : m < 6) (hk : k < 7) (hr : r < 3) : Rt (d + 1) 7 [zR 1 50, zI (nI m), zI (nI k), zI (nI r), zI (nI w)] M (zu (zu M.1 51 (7 * m + k) (nI (if r = 1 then w else 0))) 52 (7 * m + k) (nI (if r = 2 then 0 else 1)), M.2) none := by
  refine ro_rt (g_X1_put ?_)
  have e1 : (nI r = 1) = (r = 1) := nI_1e (by omega)
  have e2 : (nI r = 2) = (r = 2) := nI_eqe (b := 2) (by omega) (by omega)
  rw [z7, zn_nI (by omega), e1, e2]
  have i := in_n (n := 7 * m + k) (N := 42) (by omega) (by omega)
  refine ⟨fun q => ⟨i, fun q2 => absurd (q.symm.trans q2) (by decide), fun q2 => ⟨i, ?_, rfl⟩⟩, fun q => ⟨i, fun q2 => ⟨i, ?_, rfl⟩, fun q2 => ⟨i, ?_, rfl⟩⟩⟩
  · rw [if_pos q, if_neg q2]; rfl
  · rw [if_neg q, if_pos q2]; rfl
  · rw [if_neg q, if_neg q2]; rfl
/-- the agenda is told of all matters of the set up to (k, m) -/
def AGd (M : ZM) (W : Wv) (s k m : Nat) : Prop := ∀ m' k', m' < wM W → Nat.testBit s m' = true → (k' < k ∨ (k' = k ∧ m' < m)) → k' < 7 → M.1 51 (7 * m' + k') = nI (gO W m' k') ∧ M.1 52 (7 * m' + k') = nI (pO W m' k')
theorem AGd_eq {M' : ZM} {s k m : Nat} (h1 : M'.1 51 = M.1 51) (h2 : M'.1 52 = M.1 52) (q : AGd M W s k m) : AGd M' W s k m := by
  unfold AGd at q ⊢
  rw [h1, h2]
  exact q
/-- what lookAhead leaves as it was -/
def Gl (M M' : ZM) : Prop := Gq M M'
theorem l8_look32 {M0 : ZM} {h : Nat} (hi : Iv M0 W h) {s k : Nat} (hs : s < 64) (hk : k < 7) {R : ZM → Option ZV → Prop} : ∀ j m M, m + j = wM W → Gq M0 M → WX M 25 (wTu W (wT W + k)) → AGd M W s k m → (∀ M' u, Gq M0 M' → WX M' 25 (wTu W (wT W + k)) → AGd M' W s k (wM W) → A_X8_lookAhead_6 (d + 5) M' (nI s) (nI (k + 1)) u R) → A_X8_lookAhead_32 (d + 5) M (nI s) (nI k) (nI m) R := by
  have B := hi.2.2.1
  have T := hi.2.2.2.1
  have b4 := B.2.2.2.1
  have hB2 := wTu_B B (by omega : wT W + k ≤ 100000)
  intro j
  induction j with
  | zero =>
    intro m M hm g wA ag K
    have hi1 := Iv_q g hi
    have e : m = wM W := by omega
    subst e
    refine a_X8_lookAhead_32 ?_
    rw [show M.1 2 7 = nI (wM W) from hi1.1.2.2.1, nI_1 k]
    exact ⟨fun q => absurd q (nI_nlt (by omega) (by omega)), fun _ => K M _ g wA ag⟩
  | succ j ih =>
    intro m M hm g wA ag K
    have hi1 := Iv_q g hi
    have e0 : ((nI s >>> (nI m &&& 31)) &&& 1 = 0) = (Nat.testBit s m = false) := by
      have hb := bt_nat s (by omega) m (by omega)
      have : ∀ x, x < 64 → ∀ q, q < 6 → decide ((nI x >>> (nI q &&& 31)) &&& 1 = 0) = !Nat.testBit x q := by decide +kernel
      have h2 := this s hs m (by omega)
      exact propext ⟨fun x => (by rw [decide_eq_true x] at h2; cases hq : Nat.testBit s m; rfl; rw [hq] at h2; cases h2), fun x => (by rw [x] at h2; exact of_decide_eq_true h2)⟩
    refine a_X8_lookAhead_32 ?_
    rw [show M.1 2 7 = nI (wM W) from hi1.1.2.2.1, e0, nI_1]
    refine ⟨fun _ => ⟨fun c => ?_, fun c => ?_⟩, fun q => absurd (nI_lt (by omega) (by omega)) q⟩
    · refine ih (m + 1) M (by omega) g wA (fun m' k' h1 h2 h3 h4 => ag m' k' h1 h2 ?_ h4) K
      rcases h3 with x | ⟨x, y⟩
      · exact Or.inl x
      · by_cases e : m' = m
        · rw [e, c] at h2; cases h2
        · exact Or.inr ⟨x, by omega⟩
    · obtain ⟨M1, h1, f1, s1⟩ := c7_hear (d := d) (by omega) wA hB2 (m := m) (by show m < wM W; omega)
      have w1 := WX_FX (by omega) f1 wA
      have cg := c7_goes (d := d + 1) (S := fun q => sSays (wTu W (wT W + k)) q m) w1 hB2 s1 (by omega : m < 6)
      have eg : sGoes (wTu W (wT W + k)) (fun q => sSays (wTu W (wT W + k)) q m) m = sGo (wTu W (wT W + k)) m := rfl
      rw [eg] at cg
      have hl : sGo (wTu W (wT W + k)) m < 3 := sGoes_lt
      have hi2 := Iv_q (g.trans f1.q25) hi
      have v9 : M1.1 9 (zn (nI m)) = nI (wW W m) := by rw [zn_nI (by omega)]; exact hi2.1.2.2.2.2.2.2.2.2.2.2.1 m (by omega)
      have g2 : Gq M1 (zu (zu M1.1 51 (7 * m + k) (nI (gO W m k))) 52 (7 * m + k) (nI (pO W m k)), M1.2) := ⟨fun a ha => (zu_ne (by unfold qa at ha; omega)).trans (zu_ne (by unfold qa at ha; omega)), rfl, fun _ _ _ => rfl, rfl⟩
      refine ⟨M1, h1, M1, _, cg, in_nI (by omega) (by omega), ?_⟩
      rw [v9]
      refine ⟨_, c1_put (d := d + 4) (by omega) hk hl, ?_⟩
      have ew : (if sGo (wTu W (wT W + k)) m = 1 then wW W m else 0) = gO W m k := rfl
      have ep : (if sGo (wTu W (wT W + k)) m = 2 then 0 else 1) = pO W m k := rfl
      rw [ew, ep]
      refine ih (m + 1) _ (by omega) ((g.trans f1.q25).trans g2) (WX_eq (M := M1) (by omega) (fun a _ _ => (zu_ne (by omega)).trans (zu_ne (by omega))) rfl (fun a h1 _ _ => (zu_ne (by omega)).trans (zu_ne (by omega))) w1) (fun m' k' h1 h2 h3 h4 => ?_) K
      have ag1 := AGd_eq (M' := M1) (f1.1 51 (by omega) (by omega)) (f1.1 52 (by omega) (by omega)) ag
      show zu (zu M1.1 51 (7 * m + k) (nI (gO W m k))) 52 (7 * m + k) (nI (pO W m k)) 51 (7 * m' + k') = _ ∧ zu (zu M1.1 51 (7 * m + k) (nI (gO W m k))) 52 (7 * m + k) (nI (pO W m k)) 52 (7 * m' + k') = _
      by_cases e : k' = k ∧ m' = m
      · rw [e.1, e.2]
        exact ⟨(congrFun (zu_ne (by omega)) _).trans zu_kk, zu_kk⟩
      · have ne : 7 * m' + k' ≠ 7 * m + k := by omega
        have o := ag1 m' k' h1 h2 (by omega) h4
        exact ⟨((congrFun (zu_ne (by omega)) _).trans (zu_kn ne)).trans o.1, ((zu_kn ne).trans (congrFun (zu_ne (by omega)) _)).trans o.2⟩
theorem l8_look6 {M0 : ZM} {h : Nat} (hi : Iv M0 W h) {s : Nat} (hs : s < 64) : ∀ j k t u M, k + j = pop s → Gq M0 M → WX M 25 (wTu W t) → t ≤ 100000 → AGd M W s k 0 → A_X8_lookAhead_6 (d + 5) M (nI s) (nI k) u (fun M' v => v = none ∧ Gq M0 M' ∧ AGd M' W s (pop s) 0) := by
  have B := hi.2.2.1
  have T := hi.2.2.2.1
  have p7 := pop_7 s hs
  intro j
  induction j with
  | zero =>
    intro k t u M hk g wA ht ag
    have e : k = pop s := by omega
    subst e
    exact a_X8_lookAhead_6 ⟨M, _, c6_bits (by omega), fun q => absurd q (nI_nlt (by omega) (by omega)), fun _ => ⟨rfl, g, ag⟩⟩
  | succ j ih =>
    intro k t u M hk g wA ht ag
    have hi1 := Iv_q g hi
    refine a_X8_lookAhead_6 ⟨M, _, c6_bits (by omega), fun _ => ?_, fun q => absurd (nI_lt (by omega) (by omega)) q⟩
    rw [show M.1 2 12 = nI (wT W) from hi1.1.2.2.2.1, nI_add]
    have w1 : WX (zu M.1 26 12 (nI (wT W + k)), M.2) 25 (wTu W (wT W + k)) := WX_turn (W := wTu W t) (t := wT W + k) (by omega) wA
    have g1 : Gq M (zu M.1 26 12 (nI (wT W + k)), M.2) := ⟨fun a q => zu_ne (by unfold qa at q; omega), rfl, fun _ _ _ => rfl, rfl⟩
    refine l8_look32 hi hs (by omega) (wM W) 0 _ (by omega) (g.trans g1) w1 (AGd_eq (M := M) (M' := (zu M.1 26 12 (nI (wT W + k)), M.2)) (show zu M.1 26 12 (nI (wT W + k)) 51 = M.1 51 from zu_ne (by omega)) (show zu M.1 26 12 (nI (wT W + k)) 52 = M.1 52 from zu_ne (by omega)) ag) (fun M' u' g' w' ag' => ?_)
    exact ih (k + 1) (wT W + k) u' M' (by omega) g' w' (by omega) (fun m' k' h1 h2 h3 h4 => ag' m' k' h1 h2 (by omega) h4)
/-- the row of the most: entries of sets below r -/
def DPd (M : ZM) (W : Wv) (s r : Nat) : Prop := (∀ k, k < 7 → M.1 53 k = 0) ∧ ∀ r', r' < r → subB r' s = true → ∀ k, k + pop r' ≤ pop s → M.1 53 (7 * r' + k) = nI (mob (gO W) (pO W) (pop r') r' k)
theorem c1_worth (hB : WBd W) {s r m k n : Nat} (hs : s < 2 ^ wM W) (ag : AGd M W s (pop s) 0) (dp : DPd M W s r) (hr : r < 64) (hsub : subB r s = true) (hn : pop r = n + 1) (hk : k + pop r ≤ pop s) (hm : m < 6) (hb : Nat.testBit r m = true) : Rt (d + 1) 10 [zR 1 50, zI (nI m), zI (nI r), zI (nI k)] M M (some (zI (nI (gO W m k + mob (gO W) (pO W) n (rmb r m) (k + pO W m k))))) := by
  have b4 := hB.2.2.2.1
  have hs6 := lt64 b4 hs
  have p7 := pop_7 s hs6
  obtain ⟨u1, _, u3⟩ := subB_ok s hs6 r hr hsub
  obtain ⟨t1, t2⟩ := u3 m hm hb
  obtain ⟨r1, r2, _, _⟩ := rmb_ok r hr m hm hb
  obtain ⟨a1, a2⟩ := ag m k (tb_lt hs t1) t1 (by omega) (by omega)
  have hp := pO_le (W := W) m k
  have hd : M.1 53 (7 * rmb r m + (k + pO W m k)) = nI (mob (gO W) (pO W) (pop (rmb r m)) (rmb r m) (k + pO W m k)) := dp.2 _ r2 t2 _ (by omega)
  have en : pop (rmb r m) = n := by omega
  rw [en] at hd
  refine ro_rt (g_X1_worthFrom ?_)
  rw [rmb_I r hr m hm hb, z7, z7, zn_nI (by omega), a2, a1, nI_add (7 * rmb r m + k), zn_nI (by omega), show 7 * rmb r m + k + pO W m k = 7 * rmb r m + (k + pO W m k) by omega, hd, nI_add]
  exact ⟨in_n (by omega) (by omega), in_n (by omega) (by omega), in_n (by omega) (by omega), rfl, rfl⟩
theorem zmax {a b : Nat} (ha : a < 2 ^ 31) (hb : b < 2 ^ 31) : zbin 9 (nI a) (nI b) = nI (if a < b then b else a) := by
  show (if nI a < nI b then nI b else nI a) = _
  by_cases c : a < b
  · rw [if_pos c, if_pos (nI_lt c hb)]
  · rw [if_neg c, if_neg (nI_nlt (by omega) ha)]
theorem l1_most (hB : WBd W) {s r k n : Nat} (hs : s < 2 ^ wM W) (ag : AGd M W s (pop s) 0) (dp : DPd M W s r) (hr : r < 64) (hsub : subB r s = true) (hn : pop r = n + 1) (hk : k + pop r ≤ pop s) : ∀ j m a, m + j = 6 → a < 10000 → A_X1_mostWith_5 (d + 1) M (nI r) (nI k) (nI a) (nI m) (fun M' v => M' = M ∧ v = some (zI (nI (mxb r (fun m => gO W m k + mob (gO W) (pO W) n (rmb r m) (k + pO W m k)) j m a)))) := by
  have b4 := hB.2.2.2.1
  have hs6 := lt64 b4 hs
  have p7 := pop_7 r hr
  intro j
  induction j with
  | zero =>
    intro m a hm ha
    exact a_X1_mostWith_5 ⟨fun q => absurd q (nI_nlt (b := 6) (by omega) (by omega)), fun _ => ⟨rfl, rfl⟩⟩
  | succ j ih =>
    intro m a hm ha
    refine a_X1_mostWith_5 ?_
    rw [bt_t, bt_nat r (by omega) m (by omega), nI_1]
    have e : mxb r (fun m => gO W m k + mob (gO W) (pO W) n (rmb r m) (k + pO W m k)) (j + 1) m a = mxb r (fun m => gO W m k + mob (gO W) (pO W) n (rmb r m) (k + pO W m k)) j (m + 1) (if Nat.testBit r m = true then (if a < gO W m k + mob (gO W) (pO W) n (rmb r m) (k + pO W m k) then gO W m k + mob (gO W) (pO W) n (rmb r m) (k + pO W m k) else a) else a) := rfl
    rw [e]
    have l1 := gO_le hB m k
    have l2 := mob_le (p := pO W) (gO_le hB) n (rmb r m) (k + pO W m k)
    refine ⟨fun _ => ⟨fun c => ⟨M, _, c1_worth (d := d) hB hs ag dp hr hsub hn hk (by omega) c, ?_⟩, fun c => ?_⟩, fun q => absurd (nI_lt (b := 6) (by omega) (by omega)) q⟩
    · rw [zmax (by omega) (by omega), if_pos c]
      exact ih (m + 1) _ (by omega) (by split <;> omega)
    · rw [if_neg c]
      exact ih (m + 1) a (by omega) ha
/-- the row alone is another -/
def G5 (M M' : ZM) : Prop := (∀ a, a ≠ 53 → M'.1 a = M.1 a) ∧ M'.2 = M.2
theorem l1_w32 {M0 : ZM} (hB : WBd W) {s r n : Nat} (hs : s < 2 ^ wM W) (hr : r < 64) (hr0 : 0 < r) (hsub : subB r s = true) (hn : pop r = n + 1) (hle : pop r ≤ pop s) {R : ZM → Option ZV → Prop} : ∀ j k M, k + j + pop r = pop s + 1 → G5 M0 M → AGd M W s (pop s) 0 → DPd M W s r → (∀ k', k' < k → M.1 53 (7 * r + k') = nI (mob (gO W) (pO W) (pop r) r k')) → (∀ M' u, G5 M0 M' → AGd M' W s (pop s) 0 → DPd M' W s (r + 1) → A_X1_weigh_7 (d + 2) M' (nI s) (nI (pop s)) (nI (r + 1)) u R) → A_X1_weigh_32 (d + 2) M (nI s) (nI (pop s)) (nI r) (nI k) R := by
  have b4 := hB.2.2.2.1
  have hs6 := lt64 b4 hs
  have p7 := pop_7 s hs6
  intro j
  induction j with
  | zero =>
    intro k M hk g ag dp hrow K
    refine a_X1_weigh_32 ⟨M, _, c6_bits (by omega), ?_⟩
    rw [pk_sub (by omega), nI_1]
    refine ⟨fun _ => K M _ g ag ⟨dp.1, fun r' h1 h2 k' h3 => ?_⟩, fun q => absurd (nI_lt (by omega) (by omega)) q⟩
    by_cases e : r' = r
    · rw [e] at h3 ⊢
      exact hrow k' (by omega)
    · exact dp.2 r' (by omega) h2 k' h3
  | succ j ih =>
    intro k M hk g ag dp hrow K
    have lm := l1_most (d := d) hB hs ag dp hr hsub hn (k := k) (by omega) 6 0 0 (by omega) (by omega)
    have e : mxb r (fun m => gO W m k + mob (gO W) (pO W) n (rmb r m) (k + pO W m k)) 6 0 0 = mob (gO W) (pO W) (pop r) r k := by rw [hn]; rfl
    rw [e] at lm
    refine a_X1_weigh_32 ⟨M, _, c6_bits (by omega), ?_⟩
    rw [pk_sub (by omega)]
    refine ⟨fun q => absurd q (nI_nlt (by omega) (by omega)), fun _ => ⟨M, _, ro_rt (g_X1_mostWith lm), ?_⟩⟩
    rw [z7, zn_nI (by omega), nI_1]
    refine ⟨in_n (by omega) (by omega), ih (k + 1) _ (by omega) ⟨fun a ha => (zu_ne ha).trans (g.1 a ha), g.2⟩ (AGd_eq (M := M) (M' := (zu M.1 53 (7 * r + k) (nI (mob (gO W) (pO W) (pop r) r k)), M.2)) (show zu M.1 53 (7 * r + k) (nI (mob (gO W) (pO W) (pop r) r k)) 51 = M.1 51 from zu_ne (by omega)) (show zu M.1 53 (7 * r + k) (nI (mob (gO W) (pO W) (pop r) r k)) 52 = M.1 52 from zu_ne (by omega)) ag) ⟨fun k' h => (zu_kn (by omega)).trans (dp.1 k' h), fun r' h1 h2 k' h3 => (zu_kn (by omega)).trans (dp.2 r' h1 h2 k' h3)⟩ (fun k' h => ?_) K⟩
    show zu M.1 53 (7 * r + k) _ 53 (7 * r + k') = _
    by_cases e : k' = k
    · rw [e]; exact zu_kk
    · exact (zu_kn (by omega)).trans (hrow k' (by omega))
theorem l1_w7 {M0 : ZM} (hB : WBd W) {s : Nat} (hs : s < 2 ^ wM W) : ∀ j r u M, r + j = s + 1 → 0 < r → G5 M0 M → AGd M W s (pop s) 0 → DPd M W s r → A_X1_weigh_7 (d + 2) M (nI s) (nI (pop s)) (nI r) u (fun M' v => v = none ∧ G5 M0 M' ∧ AGd M' W s (pop s) 0 ∧ DPd M' W s (s + 1)) := by
  have b4 := hB.2.2.2.1
  have hs6 := lt64 b4 hs
  intro j
  induction j with
  | zero =>
    intro r u M hr h0 g ag dp
    have e : r = s + 1 := by omega
    subst e
    exact a_X1_weigh_7 ⟨fun _ => ⟨rfl, g, ag, dp⟩, fun q => absurd (nI_lt (by omega) (by omega)) q⟩
  | succ j ih =>
    intro r u M hr h0 g ag dp
    refine a_X1_weigh_7 ?_
    rw [subB_e, nI_1]
    refine ⟨fun q => absurd q (nI_nlt (by omega) (by omega)), fun _ => ⟨fun _ => ⟨fun c => ?_, fun c => ?_⟩, fun q => absurd (nI_lt (b := 64) (by omega) (by omega)) q⟩⟩
    · have hp : pop r ≠ 0 := fun q => by
        have := pop_0 r (by omega) q
        omega
      obtain ⟨n, hn⟩ : ∃ n, pop r = n + 1 := ⟨pop r - 1, by omega⟩
      have hle := (subB_ok s hs6 r (by omega) c).1
      exact l1_w32 (M0 := M0) hB hs (by omega) h0 c hn hle (pop s + 1 - pop r) 0 M (by omega) g ag dp (fun k' h => absurd h (Nat.not_lt_zero _)) (fun M' u' g' ag' dp' => ih (r + 1) u' M' (by omega) (by omega) g' ag' dp')
    · exact ih (r + 1) u M (by omega) (by omega) g ag ⟨dp.1, fun r' h1 h2 k' h3 => dp.2 r' (by
        have : r' ≠ r := fun e => c (by rw [← e]; exact h2)
        omega) h2 k' h3⟩
theorem l1_first (hB : WBd W) {s r k n : Nat} (hs : s < 2 ^ wM W) (ag : AGd M W s (pop s) 0) (dp : DPd M W s (s + 1)) (hr : r < 64) (hsub : subB r s = true) (hn : pop r = n + 1) (hk : k + pop r ≤ pop s) : ∀ j m, m + j = 6 → A_X1_firstOf_2 (d + 1) M (nI r) (nI k) (nI m) (fun M' v => M' = M ∧ v = some (zI (zoi (-5) (lfnd (fun m => Nat.testBit r m && decide (gO W m k + mob (gO W) (pO W) n (rmb r m) (k + pO W m k) = mob (gO W) (pO W) (n + 1) r k)) j m)))) := by
  have b4 := hB.2.2.2.1
  have hs6 := lt64 b4 hs
  have p7 := pop_7 s hs6
  have hle := (subB_ok s hs6 r hr hsub).2.1
  have dpr : DPd M W s r := ⟨dp.1, fun r' h1 h2 k' h3 => dp.2 r' (by omega) h2 k' h3⟩
  have hv : M.1 53 (7 * r + k) = nI (mob (gO W) (pO W) (pop r) r k) := dp.2 r (by omega) hsub k hk
  rw [hn] at hv
  have lm := mob_le (p := pO W) (gO_le hB) (n + 1) r k
  intro j
  induction j with
  | zero =>
    intro m hm
    exact a_X1_firstOf_2 ⟨fun q => absurd q (nI_nlt (b := 6) (by omega) (by omega)), fun _ => ⟨rfl, rfl⟩⟩
  | succ j ih =>
    intro m hm
    have ih' := ih (m + 1) (by omega)
    have l1 := gO_le hB m k
    have l2 := mob_le (p := pO W) (gO_le hB) n (rmb r m) (k + pO W m k)
    refine a_X1_firstOf_2 ?_
    rw [bt_t, bt_nat r (by omega) m (by omega), z7, zn_nI (by omega), nI_1]
    refine ⟨fun _ => ⟨fun c => ⟨M, _, c1_worth (d := d) hB hs ag dpr hr hsub hn hk (by omega) c, in_n (by omega) (by omega), ?_⟩, fun c => ?_⟩, fun q => absurd (nI_lt (b := 6) (by omega) (by omega)) q⟩
    · rw [hv, nI_eqe (by omega) (by omega)]
      refine ⟨fun q => ⟨rfl, ?_⟩, fun q => ?_⟩
      · rw [lfnd_p (by rw [c, decide_eq_true q]; rfl)]; rfl
      · rw [lfnd_n (by rw [c, decide_eq_false q]; rfl)]; exact ih'
    · rw [lfnd_n (by rw [eq_false_of_ne_true c]; rfl)]; exact ih'
theorem l1_first0 {k : Nat} : ∀ j m, m + j = 6 → A_X1_firstOf_2 (d + 1) M (nI 0) (nI k) (nI m) (fun M' v => M' = M ∧ v = some (zI (-5))) := by
  intro j
  induction j with
  | zero =>
    intro m hm
    exact a_X1_firstOf_2 ⟨fun q => absurd q (nI_nlt (b := 6) (by omega) (by omega)), fun _ => ⟨rfl, rfl⟩⟩
  | succ j ih =>
    intro m hm
    refine a_X1_firstOf_2 ?_
    rw [bt_t, bt_nat 0 (by omega) m (by omega), nI_1]
    exact ⟨fun _ => ⟨fun c => absurd c (by rw [Nat.zero_testBit]; decide), fun c => ih (m + 1) (by omega)⟩, fun q => absurd (nI_lt (b := 6) (by omega) (by omega)) q⟩
theorem l1_pick (hB : WBd W) {s q : Nat} (hs : s < 2 ^ wM W) (hq : q < 6) (ag : AGd M W s (pop s) 0) (dp : DPd M W s (s + 1)) : ∀ n r k pl u, r < 64 → subB r s = true → pop r = n → k + n ≤ pop s → pl ≤ q → A_X1_pick_8 (d + 2) M (nI s) (nI q) (nI r) (nI k) (nI pl) u (fun M' v => M' = M ∧ v = some (zI (zoi (-5) ((pkb (gO W) (pO W) n r k)[q - pl]?)))) := by
  have b4 := hB.2.2.2.1
  have hs6 := lt64 b4 hs
  have p7 := pop_7 s hs6
  intro n
  induction n with
  | zero =>
    intro r k pl u hr hsub hn hk hpl
    have r0 := pop_0 r hr hn
    subst r0
    exact a_X1_pick_8 ⟨fun x => absurd x (nI_nlt (by omega) (by omega)), fun _ => ⟨M, _, ro_rt (g_X1_firstOf (l1_first0 6 0 (by omega))), fun _ => ⟨rfl, rfl⟩, fun x => absurd rfl x⟩⟩
  | succ n ih =>
    intro r k pl u hr hsub hn hk hpl
    obtain ⟨m, hm⟩ := mob_fnd (gO W) (pO W) (n := n) (s := r) (t := k) hr hn
    obtain ⟨_, m6, mP⟩ := lfnd_lt hm
    have mb : Nat.testBit r m = true := (Bool.and_eq_true _ _ ▸ mP : _ ∧ _).1
    have fr := ro_rt (g_X1_firstOf (l1_first (d := d) hB hs ag dp hr hsub hn (by omega : k + pop r ≤ pop s) 6 0 (by omega)))
    rw [hm] at fr
    have ep : pkb (gO W) (pO W) (n + 1) r k = m :: pkb (gO W) (pO W) n (rmb r m) (k + pO W m k) := by
      show (match lfnd (fun m => Nat.testBit r m && decide (gO W m k + mob (gO W) (pO W) n (rmb r m) (k + pO W m k) = mob (gO W) (pO W) (n + 1) r k)) 6 0 with
        | some m => m :: pkb (gO W) (pO W) n (rmb r m) (k + pO W m k)
        | none => []) = _
      rw [hm]
    obtain ⟨_, _, u3⟩ := subB_ok s hs6 r hr hsub
    obtain ⟨t1, t2⟩ := u3 m (by omega) mb
    obtain ⟨r1, r2, _, _⟩ := rmb_ok r hr m (by omega) mb
    obtain ⟨_, a2⟩ := ag m k (tb_lt hs t1) t1 (by omega) (by omega)
    have hp := pO_le (W := W) m k
    refine a_X1_pick_8 ⟨fun x => absurd x (nI_nlt (by omega) (by omega)), fun _ => ⟨M, _, fr, fun x => ?_, fun _ => ?_⟩⟩
    · have x' : nI m = -5 := x
      rw [nI_m5 (by omega)] at x'
      exact x'.elim
    · show (nI pl = nI q → _) ∧ (¬ nI pl = nI q → ¬ (nI m * 7 + nI k < 0 ∨ 42 ≤ zn (nI m * 7 + nI k)) ∧ A_X1_pick_8 (d + 2) M (nI s) (nI q) (nI r &&& ((1 <<< (nI m &&& 31)) ^^^ (-1))) (nI k + M.1 52 (zn (nI m * 7 + nI k))) (nI pl + 1) (zI (nI m)) _)
      rw [nI_eqe (by omega) (by omega), z7, zn_nI (by omega), a2, nI_add k, nI_1, rmb_I r hr m (by omega) mb, ep]
      refine ⟨fun x => ⟨rfl, ?_⟩, fun x => ⟨in_n (by omega) (by omega), ?_⟩⟩
      · rw [x, Nat.sub_self]
        rfl
      · have e : q - pl = (q - (pl + 1)) + 1 := by omega
        rw [e, List.getElem?_cons_succ]
        exact ih (rmb r m) (k + pO W m k) (pl + 1) _ (by omega) t2 (by omega) (by omega) (by omega)
end OX
