/-! The call order: the reference's side -/
theorem ones_ok : ∀ x, x < 64 → x ≠ 0 → nI x &&& (nI x - 1) = nI (x &&& (x - 1)) ∧ pop (x &&& (x - 1)) + 1 = pop x ∧ (x &&& (x - 1)) < 64 := by decide +kernel
theorem fac_720 : ∀ n, n < 7 → fac n ≤ 720 := by decide
theorem pmb_len (n : Nat) : ∀ s x, (pmb n s x).length = n := by
  induction n with
  | zero => intro s x; rfl
  | succ n ih =>
    intro s x
    show (pmb n _ _).length + 1 = n + 1
    rw [ih]
theorem FMx_uniq {f : Nat → Nat} {N K L : Nat} (h : FMx f N K) (g : FMx f N L) : K = L := by
  rcases Nat.lt_trichotomy K L with l | l | l
  · have := g.2.2 K l
    have := h.2.1 L g.1
    omega
  · exact l
  · have := h.2.2 L l
    have := g.2.1 K h.1
    omega
section OM
variable {d : Nat} {M : ZM} {W : Wv}
theorem l9_ones {s : Nat} : ∀ n x a, x < 64 → pop x = n → A_X9_ones_4 d M (nI s) (nI a) (nI x) (fun M' v => M' = M ∧ v = some (zI (nI (a + n)))) := by
  intro n
  induction n with
  | zero =>
    intro x a hx hn
    have := pop_0 x hx hn
    subst this
    exact a_X9_ones_4 ⟨fun _ => ⟨rfl, rfl⟩, fun q => absurd rfl q⟩
  | succ n ih =>
    intro x a hx hn
    have h0 : x ≠ 0 := fun q => by rw [q] at hn; cases hn
    obtain ⟨e1, e2, e3⟩ := ones_ok x hx h0
    refine a_X9_ones_4 ?_
    rw [e1, nI_1]
    refine ⟨fun q => absurd q (nI_ne0 (by omega) (by omega)), fun _ => ?_⟩
    have := ih _ (a + 1) e3 (by omega)
    rw [show a + 1 + n = a + (n + 1) by omega] at this
    exact this
theorem c9_ones {s : Nat} (hs : s < 64) : Rt (d + 1) 190 [zR 9 64, zI (nI s)] M M (some (zI (nI (pop s)))) := by
  have := l9_ones (d := d) (M := M) (s := s) (pop s) s 0 hs rfl
  rw [Nat.zero_add] at this
  exact ro_rt (g_X9_ones this)
/-- the order that is laid alone is another -/
def G85 (M M' : ZM) : Prop := (∀ a, a ≠ 85 → M'.1 a = M.1 a) ∧ M'.2 = M.2
theorem l9_lay80 {i1 i2 i3 i4 i6 : Int32} {r k : Nat} (hr : r < 64) (hk : k < 6) {R : ZM → Option ZV → Prop} : ∀ f m p, m + f = 6 → nthb r f m p < 6 → Nat.testBit r (nthb r f m p) = true → p < 1000 → (∀ u u', A_X9_layOrder_48 (d + 1) (zu M.1 85 k (nI (nthb r f m p)), M.2) i1 i2 i3 i4 (nI (rmb r (nthb r f m p))) i6 (nI (k + 1)) u u' R) → A_X9_layOrder_80 (d + 1) M i1 i2 i3 i4 (nI r) i6 (nI k) (nI p) (nI m) R := by
  intro f
  induction f with
  | zero =>
    intro m p hm h1 h2 hp K
    have h1' : m < 6 := h1
    omega
  | succ f ih =>
    intro m p hm h1 h2 hp K
    have e : nthb r (f + 1) m p = if Nat.testBit r m = true ∧ p = 0 then m else nthb r f (m + 1) (if Nat.testBit r m = true then p - 1 else p) := rfl
    refine a_X9_layOrder_80 ⟨M, _, c9_has, ?_⟩
    rw [bt_nat r (by omega) m (by omega), zb0, Int32.sub_zero, nI_1 m]
    cases hb : Nat.testBit r m
    · rw [hb] at e
      rw [if_neg (fun q => absurd q.1 (by decide)), if_neg (by decide)] at e
      rw [e] at h1 h2 K
      have c := ih (m + 1) p (by omega) h1 h2 hp K
      refine ⟨fun _ => ⟨M, _, c9_has, ?_⟩, fun q => absurd rfl q⟩
      rw [bt_nat r (by omega) m (by omega), zb0, hb]
      exact ⟨fun _ => c, fun q => absurd rfl q⟩
    · refine ⟨fun q => (by cases q), fun _ => ⟨fun q => ⟨M, _, c9_has, ?_⟩, fun q => ?_⟩⟩
      · rw [nI_zlt (by omega)] at q
        rw [hb, if_neg (fun x => absurd x.2 (by omega)), if_pos rfl] at e
        rw [e] at h1 h2 K
        have c := ih (m + 1) (p - 1) (by omega) h1 h2 (by omega) K
        rw [bt_nat r (by omega) m (by omega), zb0, hb, show nI p - 1 = nI (p - 1) from pk_sub (b := 1) (by omega)]
        exact ⟨fun x => (by cases x), fun _ => c⟩
      · rw [nI_zlt (by omega)] at q
        rw [hb, if_pos ⟨rfl, by omega⟩] at e
        rw [e] at K
        rw [zn_nI (by omega), rmb_I r hr m (by omega) hb, nI_1]
        exact ⟨in_n (by omega) (by omega), K _ _⟩
theorem l9_lay48 {i1 i2 : Int32} {N : Nat} (hN : N ≤ 6) : ∀ n r x k u u' M, k + n = N → r < 64 → pop r = n → x < fac n → A_X9_layOrder_48 (d + 1) M i1 i2 (nI N) (nI (fac n)) (nI r) (nI x) (nI k) u u' (fun M' v => v = some (zI 1) ∧ G85 M M' ∧ (∀ q, q < k → M'.1 85 q = M.1 85 q) ∧ ∀ q, q < n → M'.1 85 (k + q) = nI ((pmb n r x).getD q 0)) := by
  intro n
  induction n with
  | zero =>
    intro r x k u u' M hk hr hp hx
    exact a_X9_layOrder_48 ⟨fun q => absurd q (nI_nlt (by omega) (by omega)), fun _ => ⟨rfl, ⟨fun _ _ => rfl, rfl⟩, fun _ _ => rfl, fun q h => absurd h (Nat.not_lt_zero q)⟩⟩
  | succ n ih =>
    intro r x k u u' M hk hr hp hx
    have p7 := pop_7 r hr
    have f7 := fac_720 n (by omega)
    have f8 := fac_720 (n + 1) (by omega)
    have fp := fac_pos n
    have e1 : nI (fac (n + 1)) / (nI N - nI k) = nI (fac n) := by
      rw [pk_sub (by omega), pk_div (by omega) (by omega) (by omega), show N - k = n + 1 by omega]
      show nI ((n + 1) * fac n / (n + 1)) = _
      rw [Nat.mul_div_cancel_left _ (Nat.succ_pos n)]
    have dv : x / fac n < n + 1 := (Nat.div_lt_iff_lt_mul fp).mpr hx
    obtain ⟨a1, a2, a3⟩ := nthb_ok r hr (x / fac n) (by omega) (by omega)
    obtain ⟨r1, r2, _, _⟩ := rmb_ok r hr _ a1 a2
    refine a_X9_layOrder_48 ?_
    rw [e1, zrem_nI (by omega) (by omega) (by omega), pk_div (by omega) (by omega) (by omega)]
    refine ⟨fun _ => ⟨by rw [pk_sub (by omega)]; exact nI_ne0 (by omega) (by omega), nI_ne0 (by omega) (by omega), nI_ne0 (by omega) (by omega), ?_⟩, fun q => absurd (nI_lt (by omega) (by omega)) q⟩
    refine l9_lay80 hr (by omega) 6 0 (x / fac n) (by omega) a1 a2 (by omega) (fun v v' => ?_)
    obtain ⟨M', w, h1, h2, h3, h4, h5⟩ := ih (rmb r (nthb r 6 0 (x / fac n))) (x % fac n) (k + 1) v v' (zu M.1 85 k (nI (nthb r 6 0 (x / fac n))), M.2) (by omega) (by omega) (by omega) (Nat.mod_lt _ fp)
    refine ⟨M', w, h1, h2, ⟨fun a ha => (h3.1 a ha).trans (zu_ne ha), h3.2⟩, fun q hq => (h4 q (by omega)).trans (zu_kn (by omega)), fun q hq => ?_⟩
    cases q with
    | zero =>
      rw [Nat.add_zero, h4 k (by omega)]
      exact zu_kk
    | succ q =>
      have := h5 q (by omega)
      rw [show k + 1 + q = k + (q + 1) by omega] at this
      rw [this]
      rfl
theorem l9_lay12 {i1 i2 : Int32} {N : Nat} (hN : N ≤ 6) {R : ZM → Option ZV → Prop} (K1 : i2 < nI (fac N) → A_X9_layOrder_48 (d + 1) M i1 i2 (nI N) (nI (fac N)) i1 i2 0 zU zU R) (K0 : ¬ i2 < nI (fac N) → R M (some (zI 0))) : ∀ j k, k + j = N + 1 → 2 ≤ k → A_X9_layOrder_12 (d + 1) M i1 i2 (nI N) (nI (fac (k - 1))) (nI k) R := by
  intro j
  induction j with
  | zero =>
    intro k hk h2
    have e : k - 1 = N := by omega
    refine a_X9_layOrder_12 ⟨fun _ => ?_, fun q => absurd (nI_lt (by omega) (by omega)) q⟩
    rw [e]
    exact ⟨K1, K0⟩
  | succ j ih =>
    intro k hk h2
    refine a_X9_layOrder_12 ⟨fun q => absurd q (nI_nlt (by omega) (by omega)), fun _ => ?_⟩
    have e : fac (k + 1 - 1) = fac (k - 1) * k := by
      rw [show k + 1 - 1 = (k - 1) + 1 by omega]
      show (k - 1 + 1) * fac (k - 1) = _
      rw [show k - 1 + 1 = k by omega, Nat.mul_comm]
    have ih' := ih (k + 1) (by omega) (by omega)
    rw [e] at ih'
    rw [pk_mul, nI_1]
    exact ih'
theorem c9_layO {s x : Nat} (hs : s < 64) (hx : x < 10000) : (x < fac (pop s) → ∃ M', Rt (d + 2) 191 [zR 9 64, zI (nI s), zI (nI x)] M M' (some (zI 1)) ∧ G85 M M' ∧ ∀ q, q < pop s → M'.1 85 q = nI ((pmb (pop s) s x).getD q 0)) ∧ (¬ x < fac (pop s) → Rt (d + 2) 191 [zR 9 64, zI (nI s), zI (nI x)] M M (some (zI 0))) := by
  have p7 := pop_7 s hs
  have f7 := fac_720 (pop s) p7
  have el : (nI x < nI (fac (pop s))) = (x < fac (pop s)) := nI_lte (by omega) (by omega)
  have go : ∀ {R : ZM → Option ZV → Prop}, (x < fac (pop s) → A_X9_layOrder_48 (d + 1) M (nI s) (nI x) (nI (pop s)) (nI (fac (pop s))) (nI s) (nI x) 0 zU zU R) → (¬ x < fac (pop s) → R M (some (zI 0))) → Ro (d + 2) 191 [zR 9 64, zI (nI s), zI (nI x)] M R := fun {R} K1 K0 => by
    refine g_X9_layOrder ⟨M, _, c9_ones hs, ?_⟩
    rw [← el] at K1 K0
    by_cases h0 : pop s = 0
    · refine a_X9_layOrder_12 ⟨fun _ => ?_, fun q => absurd (nI_lt (b := 2) (by omega) (by omega)) q⟩
      have e1 : (1 : Int32) = nI (fac (pop s)) := by rw [h0]; rfl
      rw [e1]
      exact ⟨K1, K0⟩
    · exact l9_lay12 (d := d) (by omega) K1 K0 (pop s - 1) 2 (by omega) (by omega)
  refine ⟨fun h => ?_, fun h => ro_rt (go (fun q => absurd q h) (fun _ => ⟨rfl, rfl⟩))⟩
  obtain ⟨M', h1, h2, h3⟩ := ro_rv (go (R := fun M' v => v = some (zI 1) ∧ G85 M M' ∧ ∀ q, q < pop s → M'.1 85 q = nI ((pmb (pop s) s x).getD q 0)) (fun _ => by
    obtain ⟨M', v, q1, q2, q3, q4, q5⟩ := l9_lay48 (d := d) (i1 := nI s) (i2 := nI x) (N := pop s) (by omega) (pop s) s x 0 zU zU M (by omega) hs rfl h
    exact ⟨M', v, q1, q2, q3, fun q hq => by have := q5 q hq; rw [Nat.zero_add] at this; exact this⟩) (fun q => absurd h q))
  exact ⟨M', h1, h2, h3⟩
theorem rmb_in : ∀ r, r < 64 → ∀ m, m < 6 → ∀ y, y < 6 → (Nat.testBit (rmb r m) y = true → Nat.testBit r y = true) := by decide +kernel
theorem pmb_in : ∀ n r x, r < 64 → pop r = n → x < fac n → ∀ q, q < n → Nat.testBit r ((pmb n r x).getD q 0) = true := by
  intro n
  induction n with
  | zero => intro r x _ _ _ q hq; exact absurd hq (Nat.not_lt_zero q)
  | succ n ih =>
    intro r x hr hp hx q hq
    have p7 := pop_7 r hr
    have fp := fac_pos n
    have dv : x / fac n < n + 1 := (Nat.div_lt_iff_lt_mul fp).mpr hx
    obtain ⟨a1, a2, a3⟩ := nthb_ok r hr (x / fac n) (by omega) (by omega)
    obtain ⟨r1, r2, _, _⟩ := rmb_ok r hr _ a1 a2
    cases q with
    | zero => exact a2
    | succ q =>
      have := ih (rmb r (nthb r 6 0 (x / fac n))) (x % fac n) (by omega) (by omega) (Nat.mod_lt _ fp) q (by omega)
      exact rmb_in r hr _ a1 _ (tb_lt (P := 6) (by omega) this) this
theorem wob_le {g p : Nat → Nat → Nat} (hg : ∀ m k, g m k ≤ 99) : ∀ l t, wob g p l t ≤ 99 * l.length
  | [], _ => Nat.le_refl _
  | m :: r, t => by
    have h1 := hg m t
    have h2 := wob_le (p := p) hg r (t + p m t)
    show g m t + wob g p r (t + p m t) ≤ 99 * (r.length + 1)
    omega
def Gt5 (M M' : ZM) : Prop := Gt M M' ∧ M'.1 85 = M.1 85 ∧ M'.1 86 = M.1 86
theorem Gt5.trans {M M' M'' : ZM} (h : Gt5 M M') (g : Gt5 M' M'') : Gt5 M M'' := ⟨h.1.trans g.1, g.2.1.trans h.2.1, g.2.2.trans h.2.2⟩
theorem l9_worthO {M0 : ZM} (hW0 : WM M0 W) (hB : WBd W) (hT : wT W ≤ 9999) {N : Nat} (hN : N ≤ 6) : ∀ (r : List Nat) k gone a u M, k + r.length = N → gone ≤ k → a ≤ 99 * k → (∀ q, q < r.length → M0.1 85 (k + q) = nI (r.getD q 0) ∧ r.getD q 0 < wM W) → Gt5 M0 M → WM M (wTu W (wT W + gone)) → A_X9_worthOfOrder_10 (d + 10) M (nI N) (nI (wT W)) (nI a) (nI k) u (fun M' v => v = some (zI (nI (a + wob (gO W) (pO W) r gone))) ∧ Gq M0 M' ∧ M'.1 85 = M0.1 85 ∧ M'.1 86 = M0.1 86) := by
  have b4 := hB.2.2.2.1
  intro r
  induction r with
  | nil =>
    intro k gone a u M hk hg ha hl g wm
    rw [List.length_nil] at hk
    refine a_X9_worthOfOrder_10 ⟨fun q => absurd q (nI_nlt (by omega) (by omega)), fun _ => ⟨rfl, Gt_end g.1 hW0.2.2.2.1, (show zu M.1 64 3 (nI (wT W)) 85 = M.1 85 from zu_ne (by omega)).trans g.2.1, (show zu M.1 64 3 (nI (wT W)) 86 = M.1 86 from zu_ne (by omega)).trans g.2.2⟩⟩
  | cons m r ih =>
    intro k gone a u M hk hg ha hl g wm
    rw [List.length_cons] at hk
    have h0 := hl 0 (by rw [List.length_cons]; omega)
    rw [Nat.add_zero] at h0
    have hm : m < wM W := h0.2
    have h85 : M.1 85 (zn (nI k)) = nI m := by rw [zn_nI (by omega), g.2.1]; exact h0.1
    have hB2 := wTu_B hB (by omega : wT W + gone ≤ 100000)
    obtain ⟨M1, h1, f1, _⟩ := c9_goes (d := d) wm hB2 (m := m) hm
    have w1 := WM_FM f1 wm
    have hl3 : sGo (wTu W (wT W + gone)) m < 3 := sGoes_lt
    have e2' : (nI (sGo (wTu W (wT W + gone)) m) = 2) = (sGo (wTu W (wT W + gone)) m = 2) := nI_eqe (b := 2) (by omega) (by omega)
    have k85 : M1.1 85 (zn (nI k)) = nI m := by rw [f1.1 85 (by omega) (by omega)]; exact h85
    have k71 : M1.1 71 (zn (nI m)) = nI (wW W m) := by rw [zn_nI (by omega)]; exact w1.2.2.2.2.2.2.2.2.2.2.1 m (by omega)
    have k3 : M1.1 64 3 = nI (wT W + gone) := w1.2.2.2.1
    have z0 : ∀ x, nI x + 0 = nI (x + 0) := fun x => by rw [l_0, nI_add]
    have i6 := in_nI (n := k) (N := 6) (by omega) (by omega)
    have g1 : ∀ t, Gt5 M (zu M1.1 64 3 (nI t), M1.2) := fun t => ⟨(f1.q.t).trans (Gt_zu M1 _), (show zu M1.1 64 3 (nI t) 85 = M1.1 85 from zu_ne (by omega)).trans (f1.1 85 (by omega) (by omega)), (show zu M1.1 64 3 (nI t) 86 = M1.1 86 from zu_ne (by omega)).trans (f1.1 86 (by omega) (by omega))⟩
    have step : ∀ (x t : Nat), x = gO W m gone → t = gone + pO W m gone → ∀ u', A_X9_worthOfOrder_10 (d + 10) (zu M1.1 64 3 (nI (wT W + t)), M1.2) (nI N) (nI (wT W)) (nI (a + x)) (nI (k + 1)) u' (fun M' v => v = some (zI (nI (a + wob (gO W) (pO W) (m :: r) gone))) ∧ Gq M0 M' ∧ M'.1 85 = M0.1 85 ∧ M'.1 86 = M0.1 86) := fun x t hx ht u' => by
      have hp := pO_le (W := W) m gone
      have hg9 := gO_le hB m gone
      have := ih (k + 1) t (a + x) u' (zu M1.1 64 3 (nI (wT W + t)), M1.2) (by omega) (by omega) (by omega) (fun q hq => by
        have := hl (q + 1) (by rw [List.length_cons]; omega)
        rw [show k + (q + 1) = k + 1 + q by omega] at this
        exact this) (g.trans (g1 _)) (WM_turn (W := wTu W (wT W + gone)) (t := wT W + t) w1)
      have e : wob (gO W) (pO W) (m :: r) gone = gO W m gone + wob (gO W) (pO W) r (gone + pO W m gone) := rfl
      rw [e, ← hx, ← ht, ← Nat.add_assoc]
      exact this
    refine a_X9_worthOfOrder_10 ?_
    rw [h85]
    refine ⟨fun _ => ⟨i6, M1, _, h1, ?_⟩, fun q => absurd (nI_lt (by omega) (by omega)) q⟩
    rw [k85, k71, k3, nI_1e (by omega), e2', z0, z0, nI_add a, nI_1 (wT W + gone), nI_1 k]
    refine ⟨fun q => ⟨i6, in_nI (by omega) (by omega), fun q2 => absurd (q.symm.trans q2) (by decide), fun q2 => ?_⟩, fun q => ⟨fun q2 => ?_, fun q2 => ?_⟩⟩
    · exact step (wW W m) (gone + 1) (if_pos q).symm (by rw [show pO W m gone = 1 from if_neg q2]) _
    · exact step 0 gone (if_neg q).symm (by rw [show pO W m gone = 0 from if_pos q2]; rfl) _
    · exact step 0 (gone + 1) (if_neg q).symm (by rw [show pO W m gone = 1 from if_neg q2]) _
theorem l9_115 {M0 : ZM} {i1 i2 i3 i4 i5 i6 : Int32} {R : ZM → Option ZV → Prop} : ∀ j k M, k + j = 6 → (∀ a, a ≠ 86 → M.1 a = M0.1 a) → M.2 = M0.2 → (∀ q, q < k → M.1 86 q = M0.1 85 q) → (∀ (M' : ZM) u u', (∀ a, a ≠ 86 → M'.1 a = M0.1 a) → M'.2 = M0.2 → (∀ q, q < 6 → M'.1 86 q = M0.1 85 q) → A_X9_order_81 d M' i1 i2 i3 i4 (i5 + 1) u u' R) → A_X9_order_115 d M i1 i2 i3 i4 i5 i6 (nI k) R := by
  intro j
  induction j with
  | zero =>
    intro k M hk hf hr hq K
    exact a_X9_order_115 ⟨fun q => absurd q (nI_nlt (b := 6) (by omega) (by omega)), fun _ => K M _ _ hf hr (fun q h => hq q (by omega))⟩
  | succ j ih =>
    intro k M hk hf hr hq K
    refine a_X9_order_115 ?_
    rw [zn_nI (by omega), nI_1]
    refine ⟨fun _ => ⟨in_n (by omega) (by omega), in_n (by omega) (by omega), ih (k + 1) _ (by omega) (fun a h => (zu_ne h).trans (hf a h)) hr (fun q h => ?_) K⟩, fun q => absurd (nI_lt (b := 6) (by omega) (by omega)) q⟩
    by_cases e : q = k
    · rw [e, ← hf 85 (by omega)]; exact zu_kk
    · exact (zu_kn e).trans (hq q (by omega))
theorem l9_81 {M0 : ZM} {h : Nat} (hi : Iv M0 W h) {s K0 : Nat} {i2 : Int32} (hs : s < 2 ^ wM W) (hi2 : i2 < 0 ∨ ∃ q, q < 6 ∧ i2 = nI q) (hK : FMx (fun x => wob (gO W) (pO W) (pmb (pop s) s x) 0) (fac (pop s)) K0) : ∀ j x i4 u6 u7 M, x + j = fac (pop s) → Gq M0 M → ((x = 0 ∧ i4 = -1) ∨ ∃ K, FMx (fun x => wob (gO W) (pO W) (pmb (pop s) s x) 0) x K ∧ i4 = nI (wob (gO W) (pO W) (pmb (pop s) s K) 0) ∧ ∀ q, q < pop s → M.1 86 q = nI ((pmb (pop s) s K).getD q 0)) → A_X9_order_81 (d + 11) M (nI s) i2 (nI (pop s)) i4 (nI x) u6 u7 (fun M' v => v = some (zI (if i2 < 0 then nI (wob (gO W) (pO W) (pmb (pop s) s K0) 0) else if i2 < nI (pop s) then nI ((pmb (pop s) s K0).getD (zn i2) 0) else -5)) ∧ Gq M0 M') := by
  have B := hi.2.2.1
  have T := hi.2.2.2.1
  have b4 := B.2.2.2.1
  have hs6 := lt64 b4 hs
  have p7 := pop_7 s hs6
  have f7 := fac_720 (pop s) p7
  have fp := fac_pos (pop s)
  have wl : ∀ x, wob (gO W) (pO W) (pmb (pop s) s x) 0 ≤ 99 * 6 := fun x => by
    have := wob_le (p := pO W) (gO_le B) (pmb (pop s) s x) 0
    rw [pmb_len] at this
    omega
  intro j
  induction j with
  | zero =>
    intro x i4 u6 u7 M hx g hc
    have e : x = fac (pop s) := by omega
    rcases hc with ⟨c, _⟩ | ⟨K, k1, k2, k3⟩
    · omega
    rw [e] at k1
    have eK := FMx_uniq k1 hK
    rw [eK] at k2 k3
    refine a_X9_order_81 ⟨M, _, (c9_layO (d := d + 9) hs6 (by omega)).2 (by omega), fun _ => ⟨fun q => ⟨by rw [if_pos q, k2], g⟩, fun q => ⟨fun r => ⟨?_, ?_, g⟩, fun r => ⟨by rw [if_neg q, if_neg r], g⟩⟩⟩, z00⟩
    · rcases hi2 with y | ⟨y, y1, y2⟩
      · exact absurd y q
      · rw [y2]; exact in_nI y1 (by omega)
    · rcases hi2 with y | ⟨y, y1, y2⟩
      · exact absurd y q
      · rw [if_neg q, if_pos r]
        rw [y2] at r ⊢
        rw [zn_nI (by omega), k3 y ((nI_ltI (by omega) (by omega)).mp r)]
  | succ j ih =>
    intro x i4 u6 u7 M hx g hc
    obtain ⟨M1, h1, g1, l1⟩ := (c9_layO (d := d + 9) (M := M) hs6 (by omega : x < 10000)).1 (by omega)
    have gq1 : Gq M M1 := ⟨fun a ha => g1.1 a (by unfold qa at ha; omega), by rw [g1.2], fun _ _ _ => by rw [g1.2], by rw [g1.2]⟩
    have hi1 := Iv_q (g.trans gq1) hi
    have pin := pmb_in (pop s) s x hs6 rfl (by omega)
    obtain ⟨M2, h2, g2, e85, e86⟩ := ro_rv (g_X9_worthOfOrder (d := d + 10) (i1 := nI (pop s)) (M := M1) (R := fun M' v => v = some (zI (nI (0 + wob (gO W) (pO W) (pmb (pop s) s x) 0))) ∧ Gq M1 M' ∧ M'.1 85 = M1.1 85 ∧ M'.1 86 = M1.1 86) (by
      rw [hi1.2.1.2.2.2.1]
      refine l9_worthO hi1.2.1 B T (by omega) (pmb (pop s) s x) 0 0 0 zU M1 (by rw [pmb_len]; omega) (by omega) (by omega) (fun q hq => ?_) ⟨Gq.rfl.t, rfl, rfl⟩ hi1.2.1
      rw [pmb_len] at hq
      rw [Nat.zero_add]
      exact ⟨l1 q hq, tb_lt hs (pin q hq)⟩))
    rw [Nat.zero_add] at h2
    have gg := (g.trans gq1).trans g2
    have wx := wl x
    refine a_X9_order_81 ⟨M1, _, h1, z10, fun _ => ⟨M2, _, h2, fun q => ?_, fun q => ?_⟩⟩
    · refine l9_115 (M0 := M2) 6 0 M2 (by omega) (fun _ _ => rfl) rfl (fun q h => absurd h (Nat.not_lt_zero q)) (fun M3 u u' f3 r3 c3 => ?_)
      have g3 : Gq M2 M3 := ⟨fun a ha => f3 a (by unfold qa at ha; omega), by rw [r3], fun _ _ _ => by rw [r3], by rw [r3]⟩
      rw [nI_1]
      refine ih (x + 1) _ u u' M3 (by omega) (gg.trans g3) (Or.inr ⟨x, ⟨by omega, fun y hy => ?_, fun y hy => ?_⟩, rfl, fun q hq => ?_⟩)
      · rcases hc with ⟨c, _⟩ | ⟨K, k1, k2, k3⟩
        · have : y = x := by omega
          rw [this]; exact Nat.le_refl _
        · by_cases e : y = x
          · rw [e]; exact Nat.le_refl _
          · have a1 := k1.2.1 y (by omega)
            have wk := wl K
            rw [k2, nI_lte (by omega) (by omega)] at q
            dsimp only at a1 ⊢
            omega
      · rcases hc with ⟨c, _⟩ | ⟨K, k1, k2, k3⟩
        · omega
        · have a1 := k1.2.1 y (by omega)
          have wk := wl K
          rw [k2, nI_lte (by omega) (by omega)] at q
          dsimp only at a1 ⊢
          omega
      · rw [c3 q (by omega), e85]
        exact l1 q hq
    · rw [nI_1]
      rcases hc with ⟨c, c4⟩ | ⟨K, k1, k2, k3⟩
      · rw [c4] at q
        exact absurd (Int32.lt_iff_toInt_lt.mpr (by rw [nI_toInt (by omega)]; have : (-1 : Int32).toInt = -1 := (by decide); omega)) q
      · have wk := wl K
        have q' := q
        rw [k2, nI_lte (by omega) (by omega)] at q'
        refine ih (x + 1) i4 _ _ M2 (by omega) gg (Or.inr ⟨K, ⟨by have := k1.1; omega, fun y hy => ?_, k1.2.2⟩, k2, fun q hq => ?_⟩)
        · by_cases e : y = x
          · rw [e]; dsimp only; omega
          · exact k1.2.1 y (by omega)
        · rw [e86, g1.1 86 (by omega)]
          exact k3 q hq
theorem l9_34 (hW : WM M W) (hB : WBd W) {s : Nat} {i2 : Int32} (hs : s < 64) {R : ZM → Option ZV → Prop} (K0 : lfnd (fun m => Nat.testBit s m && wC W m) (wM W) 0 ≠ none → R M (some (zI (-2)))) (K1 : lfnd (fun m => Nat.testBit s m && wC W m) (wM W) 0 = none → A_X9_order_81 (d + 1) M (nI s) i2 (nI (pop s)) (-1) 0 zU zU R) : ∀ j k, k + j = wM W → lfnd (fun m => Nat.testBit s m && wC W m) (wM W) 0 = lfnd (fun m => Nat.testBit s m && wC W m) j k → A_X9_order_34 (d + 1) M (nI s) i2 (nI k) R := by
  have b4 := hB.2.2.2.1
  intro j
  induction j with
  | zero =>
    intro k hk hl
    refine a_X9_order_34 ?_
    rw [hW.2.2.1]
    exact ⟨fun q => absurd q (nI_nlt (by omega) (by omega)), fun _ => ⟨M, _, c9_ones hs, K1 hl⟩⟩
  | succ j ih =>
    intro k hk hl
    refine a_X9_order_34 ?_
    rw [hW.2.2.1]
    refine ⟨fun _ => ⟨M, _, c9_has, ?_⟩, fun q => absurd (nI_lt (by omega) (by omega)) q⟩
    rw [bt_nat s (by omega) k (by omega), zb0, zn_nI (by omega), hW.2.2.2.2.2.2.2.2.2.2.2.2.1 k (by omega), zb0, nI_1]
    refine ⟨fun c => ih (k + 1) (by omega) ?_, fun c => ⟨in_n (by omega) (by omega), fun c2 => ih (k + 1) (by omega) ?_, fun c2 => K0 ?_⟩⟩
    · rw [lfnd_n (by rw [c]; rfl)] at hl; exact hl
    · rw [lfnd_n (by rw [c2, Bool.and_false])] at hl; exact hl
    · rw [hl, lfnd_p (by rw [eq_true_of_ne_false c, eq_true_of_ne_false c2]; rfl)]
      exact fun x => by cases x
end OM
theorem Iv_q5 {M M' : ZM} {W : Wv} {h : Nat} (e : ∀ a, a ≠ 53 → M'.1 a = M.1 a) (r : M'.2 = M.2) (z : ∀ k, k < 7 → M'.1 53 k = 0) (q : Iv M W h) : Iv M' W h := by
  obtain ⟨q1, q2, q3, q4, q5, q6, q7, ⟨nS, q8⟩, ⟨nB, q9⟩, ⟨nT, q10⟩, q11, q12, q13, V⟩ := id q
  have f : ∀ a, a < 53 ∨ 53 < a → M'.1 a = M.1 a := fun a ha => e a (by omega)
  exact ⟨WX_eq (M := M) (by omega) (fun a _ _ => f a (by omega)) (by rw [r]) (fun a h _ _ => f a (by omega)) q1, WM_eq (M := M) (fun a _ _ => f a (by omega)) q2, q3, q4, HL_eq (by rw [r]) (by rw [f 64 (by omega)]) q5, HO_eq (by rw [f 1 (by omega)]) (by rw [f 64 (by omega)]) (by rw [r]) (by rw [r]) q6, IM_eq2 (by rw [f 1 (by omega)]) (fun j _ _ => by rw [f 64 (by omega)]) (fun a ha => f a (by omega)) (by rw [r]) q7, ⟨nS, SN_eq (f _ (by omega)) (by rw [f 64 (by omega)]) (f _ (by omega)) (f _ (by omega)) (f _ (by omega)) (f _ (by omega)) q8⟩, ⟨nB, BK_eq (f _ (by omega)) (by rw [f 64 (by omega)]) (f _ (by omega)) (f _ (by omega)) q9⟩, ⟨nT, TX_eq (by rw [f 48 (by omega)]) (by rw [f 64 (by omega)]) (f _ (by omega)) (f _ (by omega)) q10⟩, TP_eq (f _ (by omega)) (f _ (by omega)) (f _ (by omega)) (f _ (by omega)) (by rw [r]) (by rw [r]) q11, AC_eq (by rw [f 54 (by omega)]) (by rw [f 64 (by omega)]) (f _ (by omega)) (f _ (by omega)) q12, ⟨fun k hk => by rw [f 82 (by omega)]; exact q13.1 k hk, z⟩, V⟩
theorem op_order (i k : Int32) : Op 97 193 [zI i, zI k] := fun M W h hi => by
  obtain ⟨q1, q2, q3, q4, q5, q6, q7, q8, q9, q10, q11, q12, q13, V⟩ := id hi
  have b4 := q3.2.2.2.1
  have em1 : (-1 : Int32).toInt = -1 := by decide
  have e5 : (5 : Int32).toInt = 5 := by decide
  have e6 : (6 : Int32).toInt = 6 := by decide
  have x7 : M.1 2 7 = nI (wM W) := q1.2.2.1
  obtain ⟨t1, t2, _⟩ := two_le (wM W) (by omega)
  have t64 : 2 ^ wM W ≤ 64 := Nat.pow_le_pow_right (n := 2) (by omega) b4
  by_cases c : ¬ k < -1 ∧ ¬ (5 : Int32) < k
  case neg =>
    refine op_z (v := zI (-1)) hi (ro_rt (g_X8_order ⟨fun _ => ⟨rfl, rfl⟩, fun q => ⟨fun r => absurd ⟨q, ?_⟩ c, fun _ => ⟨rfl, rfl⟩⟩⟩)) (ro_rt (g_X9_order ⟨M, _, in_0 c, fun _ => ⟨rfl, rfl⟩, z00⟩))
    rw [Int32.lt_iff_toInt_lt] at r ⊢
    omega
  have c6 : k < 6 := by
    have := c.2
    rw [Int32.lt_iff_toInt_lt] at this ⊢
    omega
  have hk : k = -1 ∨ ∃ q, q < 6 ∧ k = nI q := by
    by_cases k1 : k = -1
    · exact Or.inl k1
    · have k0 : ¬ k < 0 := fun q => by
        have := c.1
        rw [Int32.lt_iff_toInt_lt] at q this
        have h0 : (0 : Int32).toInt = 0 := by decide
        exact k1 (Int32.toInt_inj.mp (by omega))
      obtain ⟨q, _, hq, eq⟩ := rng (lo := 0) (hi := 5) (by omega) (by omega) ⟨k0, c.2⟩
      exact Or.inr ⟨q, by omega, eq⟩
  have mr : Rt 59 136 [zR 9 64, zI i, zI 0, zI (((1 : Int32) <<< (M.1 64 2 &&& 31)) - 1)] M M (some (zI (zb (vix i (2 ^ wM W))))) := by
    rw [q2.2.2.1, shl_P _ (by omega)]
    exact c9_inN (by omega)
  cases hv : vix i (2 ^ wM W)
  · rw [hv] at mr
    have op0 : Rt 59 98 [zR 8 1, zI i] M M (some (zI 0)) := by
      refine ro_rt (g_X8_areOpen ⟨fun _ => ⟨rfl, rfl⟩, fun q => ?_⟩)
      rw [x7, shl_P _ (by omega)]
      exact ⟨fun r => absurd r (vix_f hv q), fun _ => ⟨rfl, rfl⟩⟩
    exact op_z (v := zI (-2)) hi (ro_rt (g_X8_order ⟨fun q => absurd q c.1, fun _ => ⟨fun _ => ⟨M, _, op0, fun _ => ⟨rfl, rfl⟩, z00⟩, fun q => absurd c6 q⟩⟩)) (ro_rt (g_X9_order ⟨M, _, in_1 c, z10, fun _ => ⟨M, _, mr, fun _ => ⟨rfl, rfl⟩, z00⟩⟩))
  rw [hv] at mr
  obtain ⟨s, hs, es⟩ := vix_t (by omega) hv
  have hs6 : s < 64 := by omega
  have p7 := pop_7 s hs6
  have op1 : Rt 59 98 [zR 8 1, zI i] M M (some (zI (zb (lfnd (fun m => Nat.testBit s m && wC W m) (wM W) 0).isNone))) := by
    refine ro_rt (g_X8_areOpen ⟨fun q => absurd q (by rw [es]; exact nI_pos (by omega)), fun q => ?_⟩)
    rw [x7, shl_P _ (by omega), es]
    exact ⟨fun _ => l8_open q1 q3 hs6 (wM W) 0 (by omega), fun q => absurd (nI_lt hs (by omega)) q⟩
  cases ho : lfnd (fun m => Nat.testBit s m && wC W m) (wM W) 0 with
  | some m =>
    rw [ho] at op1
    refine op_z (v := zI (-2)) hi (ro_rt (g_X8_order ⟨fun q => absurd q c.1, fun _ => ⟨fun _ => ⟨M, _, op1, fun _ => ⟨rfl, rfl⟩, fun q => absurd rfl q⟩, fun q => absurd c6 q⟩⟩)) (ro_rt (g_X9_order ⟨M, _, in_1 c, z10, fun _ => ⟨M, _, mr, z10, fun _ => ?_⟩⟩))
    rw [es]
    exact l9_34 (d := 58) q2 q3 hs6 (fun _ => ⟨rfl, rfl⟩) (fun x => by rw [ho] at x; cases x) (wM W) 0 (by omega) rfl
  | none =>
    rw [ho] at op1
    obtain ⟨M0, h0, w0, g0⟩ := c8_ask (d := 56) q1
    obtain ⟨M1, h1, g1, ag1⟩ := ro_rv (g_X8_lookAhead (d := 58) (i1 := i) (M := M) (R := fun M' v => v = none ∧ Gq M M' ∧ AGd M' W s (pop s) 0) ⟨M0, h0, by rw [es]; exact l8_look6 (d := 53) hi hs6 (pop s) 0 (wT W) zU M0 (by omega) g0 w0 (by omega) (fun m' k' _ _ h3 _ => by omega)⟩)
    have hi1 := Iv_q g1 hi
    obtain ⟨_, _, _, _, _, _, _, _, _, _, _, _, u13, _⟩ := id hi1
    have dp1 : DPd M1 W s 1 := ⟨u13.2, fun r' h1 h2 k' h3 => by
      have e0 : r' = 0 := by omega
      rw [e0]
      exact u13.2 _ (by rw [e0] at h3; omega)⟩
    obtain ⟨M2, h2, g2, ag2, dp2⟩ := ro_rv (g_X1_weigh (d := 58) (i1 := i) (M := M1) (R := fun M' v => v = none ∧ G5 M1 M' ∧ AGd M' W s (pop s) 0 ∧ DPd M' W s (s + 1)) ⟨M1, _, by rw [es]; exact c6_bits (d := 57) (by omega), by rw [es]; exact l1_w7 (d := 56) q3 hs s 1 zU M1 (by omega) (by omega) ⟨fun _ _ => rfl, rfl⟩ ag1 dp1⟩)
    have hi2 := Iv_q5 g2.1 g2.2 dp2.1 hi1
    obtain ⟨K0, hK, hK1, hK2⟩ := ord_main (gO W) (pO W) (pop s) s 0 hs6 rfl
    have lm := mob_le (p := pO W) (gO_le q3) (pop s) s 0
    -- the reference
    have hk2 : k < 0 ∨ ∃ q, q < 6 ∧ k = nI q := hk.elim (fun x => Or.inl (by rw [x]; decide)) Or.inr
    have mr2 : Rt 59 136 [zR 9 64, zI i, zI 0, zI (((1 : Int32) <<< (M2.1 64 2 &&& 31)) - 1)] M2 M2 (some (zI 1)) := by
      have : Rt 59 136 [zR 9 64, zI i, zI 0, zI (((1 : Int32) <<< (M2.1 64 2 &&& 31)) - 1)] M2 M2 (some (zI (zb (vix i (2 ^ wM W))))) := by
        rw [hi2.2.1.2.2.1, shl_P _ (by omega)]
        exact c9_inN (by omega)
      rw [hv] at this
      exact this
    obtain ⟨M3, h3, g3⟩ := ro_rv (g_X9_order (d := 59) (i1 := i) (i2 := k) (M := M2) (R := fun M' v => v = some (zI (if k < 0 then nI (wob (gO W) (pO W) (pmb (pop s) s K0) 0) else if k < nI (pop s) then nI ((pmb (pop s) s K0).getD (zn k) 0) else -5)) ∧ Gq M2 M') ⟨M2, _, in_1 c, z10, fun _ => ⟨M2, _, mr2, z10, fun _ => by
      rw [es]
      exact l9_34 (d := 58) hi2.2.1 q3 hs6 (fun x => absurd ho x) (fun _ => l9_81 (d := 48) hi2 hs hk2 hK (fac (pop s)) 0 (-1) zU zU M2 (by omega) Gq.rfl (Or.inl ⟨rfl, rfl⟩)) (wM W) 0 (by omega) rfl⟩⟩)
    have hi3 := Iv_q g3 hi2
    rcases hk with k1 | ⟨q, hq, eq⟩
    · have kl : k < 0 := by rw [k1]; decide
      rw [if_pos kl, hK1] at h3
      have hm : M2.1 53 (zn (nI s * 7)) = nI (mob (gO W) (pO W) (pop s) s 0) := by
        have e7 : nI s * 7 = nI (7 * s) := by rw [l_7, pk_mul, Nat.mul_comm]
        have := dp2.2 s (by omega) (subB_rfl s hs6) 0 (by omega)
        rw [Nat.add_zero] at this
        rw [e7, zn_nI (by omega)]
        exact this
      have e7 : nI s * 7 = nI (7 * s) := by rw [l_7, pk_mul, Nat.mul_comm]
      refine ⟨M2, M3, zI (nI (mob (gO W) (pO W) (pop s) s 0)), W, h, ro_rt (g_X8_order ⟨fun q => absurd q c.1, fun _ => ⟨fun _ => ⟨M, _, op1, z10, fun _ => ⟨M1, h1, M2, h2, fun _ => ⟨M2, _, ro_rt (g_X1_mostOf ?_), rfl, rfl⟩, fun x => absurd k1 x⟩⟩, fun q => absurd c6 q⟩⟩), h3, hi3, q6.1⟩
      rw [es]
      refine ⟨by rw [e7]; exact in_nI (by omega) (by omega), rfl, ?_⟩
      rw [hm]
    · have kn : ¬ k < 0 := by rw [eq]; exact nI_pos (by omega)
      have kne : ¬ k = -1 := fun x => by rw [eq, nI_m1 (by omega)] at x; exact x
      have val : (if k < 0 then nI (wob (gO W) (pO W) (pmb (pop s) s K0) 0) else if k < nI (pop s) then nI ((pmb (pop s) s K0).getD (zn k) 0) else -5) = zoi (-5) ((pkb (gO W) (pO W) (pop s) s 0)[q - 0]?) := by
        have len : (pkb (gO W) (pO W) (pop s) s 0).length = pop s := by rw [← hK2]; exact pmb_len _ _ _
        rw [if_neg kn, eq, zn_nI (by omega), hK2, Nat.sub_zero]
        by_cases l : q < pop s
        · rw [if_pos (nI_lt l (by omega)), List.getElem?_eq_getElem (by omega), List.getD_eq_getElem?_getD, List.getElem?_eq_getElem (by omega)]
          rfl
        · rw [if_neg (nI_nlt (by omega) (by omega)), List.getElem?_eq_none (by omega)]
          rfl
      rw [val] at h3
      refine ⟨M2, M3, _, W, h, ro_rt (g_X8_order ⟨fun q => absurd q c.1, fun _ => ⟨fun _ => ⟨M, _, op1, z10, fun _ => ⟨M1, h1, M2, h2, fun x => absurd x kne, fun _ => ⟨M2, _, ro_rt (g_X1_pick ?_), rfl, rfl⟩⟩⟩, fun q => absurd c6 q⟩⟩), h3, hi3, q6.1⟩
      rw [es, eq]
      exact l1_pick (d := 56) q3 hs hq ag2 dp2 (pop s) s 0 0 zU hs6 (subB_rfl s hs6) rfl (by omega) (by omega)
