/-! The call odds -/
theorem rkz_congr {z y : Nat → Bool} : ∀ k, (∀ q, q < k → z q = y q) → rkz z k = rkz y k
  | 0, _ => rfl
  | k + 1, h => by
    unfold rkz
    rw [rkz_congr k (fun q hq => h q (by omega)), h k (by omega)]
theorem pop_rkz : ∀ P, P < 8 → ∀ s, s < 2 ^ P → pop s = rkz (fun q => Nat.testBit s q) P := by decide +kernel
theorem pop_mkz {z : Nat → Bool} {P : Nat} (hP : P < 8) : pop (mkz z P) = rkz z P := by
  rw [pop_rkz P hP _ (mkz_lt z P)]
  exact rkz_congr P (fun q hq => mkz_bit z P q hq)
def muteQ (S : Nat → Int32) (q : Nat) : Bool := decide (S q = 0)
def Sx (S : Nat → Int32) (w q : Nat) : Int32 := if muteQ S q = true then (if Nat.testBit w q = true then 1 else -1) else S q
def Tm (S : Nat → Int32) (s q : Nat) : Int32 := if muteQ S q = true then (if Nat.testBit s (rkz (muteQ S) q) = true then 1 else -1) else S q
noncomputable def gG (W : Wv) (m : Nat) (S : Nat → Int32) : Nat := if sGoes W S m = 1 then 1 else 0
theorem lsum_le1 {f : Nat → Nat} (h : ∀ k, f k ≤ 1) (j k : Nat) : lsum f j k ≤ j := by
  have := lsum_le h j k
  omega
theorem gG_le (W : Wv) (m : Nat) (S : Nat → Int32) : gG W m S ≤ 1 := by
  unfold gG
  split <;> omega
section OD
variable {d o : Nat} {M : ZM} {W : Wv} {S : Nat → Int32}
theorem l7_silent (hW : WX M o W) (hB : WBd W) (hS : ∀ p, p < wP W → M.1 (o + 11) p = S p) : ∀ j k, k + j = wP W → A_X7_silent_4 d o M (nI (mkz (muteQ S) k)) (nI k) (fun M' v => M' = M ∧ v = some (zI (nI (mkz (muteQ S) (wP W))))) := by
  have h1 := hB.2.1
  have h2 := hB.2.2.1
  intro j
  induction j with
  | zero =>
    intro k hk
    refine a_X7_silent_4 ?_
    rw [hW.2.1]
    have e : k = wP W := by omega
    exact ⟨fun h => absurd h (nI_nlt (by omega) (by omega)), fun _ => ⟨rfl, by rw [e]⟩⟩
  | succ j ih =>
    intro k hk
    have ih' := ih (k + 1) (by omega)
    have e : mkz (muteQ S) (k + 1) = if muteQ S k = true then 2 ^ k + mkz (muteQ S) k else mkz (muteQ S) k := rfl
    rw [e] at ih'
    refine a_X7_silent_4 ?_
    rw [hW.2.1, zn_nI (by omega), hS k (by omega), nI_1, or_shl k (by omega) _ (mkz_lt _ k)]
    refine ⟨fun _ => ⟨in_n (by omega) (by omega), fun h => ?_, fun h => ?_⟩, fun h => absurd (nI_lt (by omega) (by omega)) h⟩
    · rw [if_pos (show muteQ S k = true from decide_eq_true h)] at ih'
      exact ih'
    · rw [if_neg (show ¬ muteQ S k = true from fun q => h (of_decide_eq_true q))] at ih'
      exact ih'
theorem c7_silent (hW : WX M o W) (hB : WBd W) (hS : ∀ p, p < wP W → M.1 (o + 11) p = S p) : Rt (d + 1) 71 [zR 7 (o + 1)] M M (some (zI (nI (mkz (muteQ S) (wP W))))) := ro_rt (g_X7_silent (l7_silent hW hB hS (wP W) 0 (by omega)))
theorem l7_break {M0 : ZM} {sil way P : Nat} (hP : P ≤ 7) (h4 : M0.1 (o + 1) 4 = nI P) : ∀ j k M, k + j = P → (∀ a, a ≠ o + 11 → M.1 a = M0.1 a) → M.2 = M0.2 → (∀ q, q < P → M.1 (o + 11) q = if q < k ∧ bt (nI sil) (nI q) = true then (if bt (nI way) (nI q) = true then 1 else -1) else M0.1 (o + 11) q) → A_X7_breakSilence_2 d o M (nI sil) (nI way) (nI k) (fun M' v => v = none ∧ (∀ a, a ≠ o + 11 → M'.1 a = M0.1 a) ∧ M'.2 = M0.2 ∧ (∀ q, q < P → M'.1 (o + 11) q = if bt (nI sil) (nI q) = true then (if bt (nI way) (nI q) = true then 1 else -1) else M0.1 (o + 11) q)) := by
  intro j
  induction j with
  | zero =>
    intro k M hk hf hr hq
    refine a_X7_breakSilence_2 ?_
    rw [hf _ (by omega), h4]
    refine ⟨fun h => absurd h (nI_nlt (by omega) (by omega)), fun _ => ⟨rfl, hf, hr, fun q hqp => ?_⟩⟩
    rw [hq q hqp]
    by_cases c : bt (nI sil) (nI q) = true
    · rw [if_pos c, if_pos ⟨by omega, c⟩]
    · rw [if_neg c, if_neg (fun x => c x.2)]
  | succ j ih =>
    intro k M hk hf hr hq
    refine a_X7_breakSilence_2 ?_
    rw [hf _ (by omega), h4, bt_t, bt_t, nI_1, zn_nI (by omega)]
    have i7 := in_n (n := k) (N := 7) (by omega) (by omega)
    have step : ∀ x, bt (nI sil) (nI k) = true → x = (if bt (nI way) (nI k) = true then 1 else -1) → A_X7_breakSilence_2 d o (zu M.1 (o + 11) k x, M.2) (nI sil) (nI way) (nI (k + 1)) _ := fun x hb hx => ih (k + 1) (zu M.1 (o + 11) k x, M.2) (by omega) (fun a ha => (zu_ne ha).trans (hf a ha)) hr (fun q hqp => by
      show zu M.1 (o + 11) k x (o + 11) q = _
      rw [zu_if]
      by_cases e : q = k
      · rw [if_pos e, e, if_pos ⟨by omega, hb⟩, hx]
      · rw [if_neg e, hq q hqp]
        by_cases c : q < k ∧ bt (nI sil) (nI q) = true
        · rw [if_pos c, if_pos (show q < k + 1 ∧ bt (nI sil) (nI q) = true from ⟨by omega, c.2⟩)]
        · rw [if_neg c, if_neg (fun x => c ⟨by omega, x.2⟩)])
    refine ⟨fun _ => ⟨fun c => ⟨fun b => ⟨i7, step 1 c (by rw [if_pos b])⟩, fun b => ⟨i7, step (-1) c (by rw [if_neg b])⟩⟩, fun c => ?_⟩, fun h => absurd (nI_lt (by omega) (by omega)) h⟩
    refine ih (k + 1) M (by omega) hf hr (fun q hqp => ?_)
    rw [hq q hqp]
    by_cases e : q = k
    · rw [e, if_neg (fun x => c x.2), if_neg (fun x => c x.2)]
    · by_cases c : q < k ∧ bt (nI sil) (nI q) = true
      · rw [if_pos c, if_pos (show q < k + 1 ∧ bt (nI sil) (nI q) = true from ⟨by omega, c.2⟩)]
      · rw [if_neg c, if_neg (fun x => c ⟨by omega, x.2⟩)]
theorem l8_odds {M0 : ZM} {h : Nat} (hi : Iv M0 W h) {m : Nat} (hm : m < wM W) {i2 : Int32} : ∀ j k n M, k + j = 2 ^ wP W → n ≤ k → Gq M0 M → WX M 25 W → (∀ q, q < wP W → muteQ S q = false → M.1 36 q = S q) → A_X8_odds_45 (d + 5) M (nI m) i2 (nI (mkz (muteQ S) (wP W))) (nI n) (nI k) (fun M' v => v = some (zL (sLow (n + lsum (fun w => if okz (muteQ S) (wP W) w = true then gG W m (Sx S w) else 0) j k) (2 ^ rkz (muteQ S) (wP W)) i2)) ∧ Gq M0 M') := by
  have B := hi.2.2.1
  have b2 := B.2.1
  have b3 := B.2.2.1
  have b4 := B.2.2.2.1
  obtain ⟨e1, e2, e3⟩ := two_le (wP W) (by omega)
  have e4 := shl_P (wP W) (by omega)
  have hr := rkz_le (muteQ S) (wP W)
  have e5 := shl_P (rkz (muteQ S) (wP W)) (by omega)
  have e6 := two_le (rkz (muteQ S) (wP W)) (by omega)
  have hmk := mkz_lt (muteQ S) (wP W)
  intro j
  induction j with
  | zero =>
    intro k n M hk hn g wA hS
    refine a_X8_odds_45 ?_
    rw [show M.1 26 4 = nI (wP W) from wA.2.1, e4]
    refine ⟨fun q => absurd q (nI_nlt (by omega) (by omega)), fun _ => ⟨M, _, c6_bits (by omega), M, _, ?_, rfl, g⟩⟩
    rw [pop_mkz (by omega), e5]
    have := c8_low (d := d + 3) (M := M) (a := n) (b := 2 ^ rkz (muteQ S) (wP W)) (i := i2) (by omega) (by omega) (by omega)
    exact this
  | succ j ih =>
    intro k n M hk hn g wA hS
    have sk := sub_ok (wP W) (by omega) _ hmk k (by omega)
    have sz' : okz (fun q => Nat.testBit (mkz (muteQ S) (wP W)) q) (wP W) k = okz (muteQ S) (wP W) k := okz_congr _ _ (fun q hq => mkz_bit _ _ q hq)
    have ec : ((nI k &&& (nI (mkz (muteQ S) (wP W)) ^^^ (-1))) = 0) = (okz (muteQ S) (wP W) k = true) := propext ⟨fun x => by rw [← sz', ← sk]; exact decide_eq_true x, fun x => by rw [← sz', ← sk] at x; exact of_decide_eq_true x⟩
    refine a_X8_odds_45 ?_
    rw [show M.1 26 4 = nI (wP W) from wA.2.1, e4, ec, nI_1, nI_1]
    have el : lsum (fun w => if okz (muteQ S) (wP W) w = true then gG W m (Sx S w) else 0) (j + 1) k = (if okz (muteQ S) (wP W) k = true then gG W m (Sx S k) else 0) + lsum (fun w => if okz (muteQ S) (wP W) w = true then gG W m (Sx S w) else 0) j (k + 1) := rfl
    rw [el]
    refine ⟨fun _ => ⟨fun c => ?_, fun c => ?_⟩, fun q => absurd (nI_lt (by omega) (by omega)) q⟩
    · obtain ⟨M1, h1, f1, r1, s1⟩ := ro_rv (g_X7_breakSilence (d := d + 4) (o := 25) (M := M) (l7_break (sil := mkz (muteQ S) (wP W)) (way := k) (P := wP W) (M0 := M) (by omega) wA.2.1 (wP W) 0 M (by omega) (fun _ _ => rfl) rfl (fun q _ => by rw [if_neg (fun x => absurd x.1 (Nat.not_lt_zero q))])))
      have fx : FX 25 M M1 := ⟨fun a h2 _ => f1 a h2, r1⟩
      have w1 := WX_FX (by omega) fx wA
      have s2 : ∀ q, q < wP W → M1.1 36 q = Sx S k q := fun q hq => by
        rw [s1 q hq, bt_nat _ (by omega) q (by omega), bt_nat _ (by omega) q (by omega), mkz_bit _ _ q hq]
        unfold Sx
        cases hz : muteQ S q
        · rw [if_neg (by decide), if_neg (by decide)]
          exact hS q hq hz
        · rw [if_pos rfl, if_pos rfl]
      have cg := c7_goes (d := d + 1) (S := Sx S k) w1 B s2 (m := m) (by omega)
      have hl : sGoes W (Sx S k) m < 3 := sGoes_lt
      refine ⟨M1, h1, M1, _, cg, ?_⟩
      rw [nI_1e (by omega), if_pos c]
      have hS1 : ∀ q, q < wP W → muteQ S q = false → M1.1 36 q = S q := fun q hq hz => by
        rw [s2 q hq]
        unfold Sx
        rw [hz, if_neg (by decide)]
      refine ⟨fun x => ?_, fun x => ?_⟩
      · have : gG W m (Sx S k) = 1 := if_pos x
        rw [this, ← Nat.add_assoc]
        exact ih (k + 1) (n + 1) M1 (by omega) (by omega) (g.trans fx.q25) w1 hS1
      · have : gG W m (Sx S k) = 0 := if_neg x
        rw [this, Nat.zero_add]
        exact ih (k + 1) n M1 (by omega) (by omega) (g.trans fx.q25) w1 hS1
    · rw [if_neg c, Nat.zero_add]
      exact ih (k + 1) n M (by omega) (by omega) g wA hS
theorem l9_od32 {M0 : ZM} {i1 i2 : Int32} {R : ZM → Option ZV → Prop} {P : Nat} (hP : P ≤ 7) (h4 : M0.1 64 1 = nI P) (hS : ∀ q, q < P → M0.1 84 q = S q) : ∀ j k M, k + j = P → (∀ a, a ≠ 92 → M.1 a = M0.1 a) → M.2 = M0.2 → (∀ q, q < k → muteQ S q = true → M.1 92 (rkz (muteQ S) q) = nI q) → (∀ M' : ZM, (∀ a, a ≠ 92 → M'.1 a = M0.1 a) → M'.2 = M0.2 → (∀ q, q < P → muteQ S q = true → M'.1 92 (rkz (muteQ S) q) = nI q) → A_X9_odds_77 d M' i1 i2 (nI (rkz (muteQ S) P)) 0 0 zU R) → A_X9_odds_32 d M i1 i2 (nI (rkz (muteQ S) k)) (nI k) R := by
  intro j
  induction j with
  | zero =>
    intro k M hk hf hr hq K
    have e : k = P := by omega
    refine a_X9_odds_32 ?_
    rw [hf 64 (by omega), h4, e]
    exact ⟨fun x => absurd x (nI_nlt (by omega) (by omega)), fun _ => K M hf hr (fun q h => hq q (by omega))⟩
  | succ j ih =>
    intro k M hk hf hr hq K
    have hrk := rkz_le (muteQ S) k
    have e : rkz (muteQ S) (k + 1) = rkz (muteQ S) k + (if muteQ S k = true then 1 else 0) := rfl
    refine a_X9_odds_32 ?_
    rw [hf 64 (by omega), h4, zn_nI (by omega), hf 84 (by omega), hS k (by omega), nI_1, nI_1, zn_nI (by omega)]
    refine ⟨fun _ => ⟨in_n (by omega) (by omega), fun c => ⟨in_n (by omega) (by omega), ?_⟩, fun c => ?_⟩, fun x => absurd (nI_lt (by omega) (by omega)) x⟩
    · have hz : muteQ S k = true := decide_eq_true c
      rw [if_pos hz] at e
      rw [← e]
      refine ih (k + 1) _ (by omega) (fun a ha => (zu_ne ha).trans (hf a ha)) hr (fun q hqk hzq => ?_) K
      show zu M.1 92 (rkz (muteQ S) k) (nI k) 92 (rkz (muteQ S) q) = nI q
      by_cases eq : q = k
      · rw [eq]; exact zu_kk
      · have := rkz_lt (z := muteQ S) (k := k) (q := q) (by omega) hzq
        rw [zu_kn (by omega)]
        exact hq q (by omega) hzq
    · have hz : ¬ muteQ S k = true := fun x => c (of_decide_eq_true x)
      rw [if_neg hz, Nat.add_zero] at e
      have ih' := ih (k + 1) M (by omega) hf hr (fun q hqk hzq => hq q (by
        have : q ≠ k := fun x => hz (by rw [← x]; exact hzq)
        omega) hzq) K
      rw [e] at ih'
      exact ih'
theorem Tm_b {m : Nat} (s : Nat) (hb : SBd W S) : SBd W (Tm S s) := fun p hp => by
  unfold Tm
  split
  · split
    · exact Or.inl rfl
    · exact Or.inr (Or.inl rfl)
  · exact hb p hp
/-- a set's signs are laid and the matter goes -/
theorem l9_od88 {M0 : ZM} {i2 : Int32} {R : ZM → Option ZV → Prop} {m s n : Nat} (hW0 : WM M0 W) (hB : WBd W) (hb : SBd W S) (hm : m < 6) (hs : s < 128) (hmu : ∀ q, q < wP W → muteQ S q = true → M0.1 92 (rkz (muteQ S) q) = nI q) : ∀ j r M, r + j = rkz (muteQ S) (wP W) → (∀ a, a ≠ 84 → M.1 a = M0.1 a) → M.2 = M0.2 → (∀ q, q < wP W → muteQ S q = false → M.1 84 q = S q) → (∀ q, q < wP W → muteQ S q = true → rkz (muteQ S) q < r → M.1 84 q = Tm S s q) → (∀ (M' : ZM) u, (∀ a, a ≠ 84 → M'.1 a = M0.1 a) → M'.2 = M0.2 → (∀ q, q < wP W → muteQ S q = false → M'.1 84 q = S q) → A_X9_odds_77 (d + 3) M' (nI m) i2 (nI (rkz (muteQ S) (wP W))) (nI (n + gG W m (Tm S s))) (nI (s + 1)) u R) → A_X9_odds_88 (d + 3) M (nI m) i2 (nI (rkz (muteQ S) (wP W))) (nI n) (nI s) (nI r) R := by
  have b2 := hB.2.1
  have b3 := hB.2.2.1
  have hr7 := rkz_le (muteQ S) (wP W)
  intro j
  induction j with
  | zero =>
    intro r M hk hf hr h0 h1 K
    have wm : WM M W := WM_eq (fun a _ _ => hf a (by omega)) hW0
    have hS : ∀ p, p < wP W → M.1 84 p = Tm S s p := fun p hp => by
      cases hz : muteQ S p
      · rw [h0 p hp hz]
        unfold Tm
        rw [hz, if_neg (by decide)]
      · exact h1 p hp hz (by have := rkz_lt hp hz; omega)
    have cg := c9_goesBy (d := d) wm hB (Tm_b (m := m) s hb) hS hm
    have hl : sGoes W (Tm S s) m < 3 := sGoes_lt
    refine a_X9_odds_88 ⟨fun x => absurd x (nI_nlt (by omega) (by omega)), fun _ => ⟨M, _, cg, ?_⟩⟩
    have z0 : nI n + 0 = nI (n + 0) := by rw [l_0, nI_add]
    have K' := K M (zI (nI r)) hf hr h0
    rw [nI_1e (by omega), z0, nI_1, nI_1]
    refine ⟨fun x => ?_, fun x => ?_⟩
    · have : gG W m (Tm S s) = 1 := if_pos x
      rw [this] at K'
      exact K'
    · have : gG W m (Tm S s) = 0 := if_neg x
      rw [this] at K'
      exact K'
  | succ j ih =>
    intro r M hk hf hr h0 h1 K
    obtain ⟨q0, hq0, hz0, hr0⟩ := rkz_sur (muteQ S) (wP W) r (by omega)
    have m92 : M.1 92 r = nI q0 := by rw [hf 92 (by omega), ← hr0]; exact hmu q0 hq0 hz0
    have step : ∀ x, x = Tm S s q0 → A_X9_odds_88 (d + 3) (zu M.1 84 q0 x, M.2) (nI m) i2 (nI (rkz (muteQ S) (wP W))) (nI n) (nI s) (nI (r + 1)) R := fun x hx => by
      refine ih (r + 1) _ (by omega) (fun a ha => (zu_ne ha).trans (hf a ha)) hr (fun q hq hz => ?_) (fun q hq hz hl => ?_) K
      · refine (zu_kn ?_).trans (h0 q hq hz)
        intro e
        rw [e, hz0] at hz
        cases hz
      · show zu M.1 84 q0 x 84 q = _
        by_cases e : q = q0
        · rw [e, zu_kk, hx]
        · have : rkz (muteQ S) q ≠ r := fun y => e (rkz_inj hz hz0 (y.trans hr0.symm))
          rw [zu_kn e]
          exact h1 q hq hz (by omega)
    refine a_X9_odds_88 ?_
    rw [zn_nI (by omega), m92, zn_nI (by omega), nI_1]
    have t : Tm S s q0 = if bt (nI s) (nI r) = true then 1 else -1 := by
      unfold Tm
      rw [if_pos hz0, hr0, bt_nat s hs r (by omega)]
    refine ⟨fun _ => ⟨in_n (by omega) (by omega), M, _, c9_has, ?_⟩, fun x => absurd (nI_lt (by omega) (by omega)) x⟩
    rw [zb0]
    refine ⟨fun c => ⟨in_n (by omega) (by omega), step _ ?_⟩, fun c => ⟨in_n (by omega) (by omega), step _ ?_⟩⟩
    · rw [t, c]; rfl
    · rw [t, if_pos (eq_true_of_ne_false c)]
theorem l9_od77 {M0 : ZM} {i2 : Int32} {m : Nat} (hW0 : WM M0 W) (hB : WBd W) (hb : SBd W S) (hm : m < 6) (hmu : ∀ q, q < wP W → muteQ S q = true → M0.1 92 (rkz (muteQ S) q) = nI q) : ∀ j k n u M, k + j = 2 ^ rkz (muteQ S) (wP W) → n ≤ k → (∀ a, a ≠ 84 → M.1 a = M0.1 a) → M.2 = M0.2 → (∀ q, q < wP W → muteQ S q = false → M.1 84 q = S q) → A_X9_odds_77 (d + 3) M (nI m) i2 (nI (rkz (muteQ S) (wP W))) (nI n) (nI k) u (fun M' v => v = some (zL (sLow (n + lsum (fun s => gG W m (Tm S s)) j k) (2 ^ rkz (muteQ S) (wP W)) i2)) ∧ (∀ a, a ≠ 84 → M'.1 a = M0.1 a) ∧ M'.2 = M0.2) := by
  have b2 := hB.2.1
  have b3 := hB.2.2.1
  have hr7 := rkz_le (muteQ S) (wP W)
  have e5 := shl_P (rkz (muteQ S) (wP W)) (by omega)
  have e6 := two_le (rkz (muteQ S) (wP W)) (by omega)
  intro j
  induction j with
  | zero =>
    intro k n u M hk hn hf hr h0
    refine a_X9_odds_77 ?_
    rw [e5, nI_l (by omega), nI_l (by omega)]
    exact ⟨fun x => absurd x (nI_nlt (by omega) (by omega)), fun _ => ⟨M, _, c9_low (d := d + 1) (a := n) (by omega) (by omega) (by omega), rfl, hf, hr⟩⟩
  | succ j ih =>
    intro k n u M hk hn hf hr h0
    refine a_X9_odds_77 ?_
    rw [e5]
    refine ⟨fun _ => ?_, fun x => absurd (nI_lt (by omega) (by omega)) x⟩
    refine l9_od88 (s := k) hW0 hB hb hm (by omega) hmu (rkz (muteQ S) (wP W)) 0 M (by omega) hf hr h0 (fun q _ _ x => absurd x (Nat.not_lt_zero _)) (fun M' u' f' r' h' => ?_)
    have gl := gG_le W m (Tm S k)
    have ih' := ih (k + 1) (n + gG W m (Tm S k)) u' M' (by omega) (by omega) f' r' h'
    rw [Nat.add_assoc] at ih'
    exact ih'
theorem op_odds (i k : Int32) : Op 111 209 [zI i, zI k] := op_q fun M W h hi => by
  have X := hi.1
  have Mo := hi.2.1
  have B := hi.2.2.1
  have T := hi.2.2.2.1
  cases hv : vix i (wM W)
  · exact ⟨M, M, _, ro_rt (g_X8_odds ⟨M, _, (c8_isM X).1 hv, fun _ => ⟨rfl, rfl⟩, z00⟩), ro_rt (g_X9_odds ⟨M, _, (c9_isM Mo B).1 hv, fun _ => ⟨rfl, rfl⟩, z00⟩), Gq.rfl⟩
  by_cases hu : k = 0 ∨ k = 1
  case neg => exact ⟨M, M, _, ro_rt (g_X8_odds ⟨M, _, (c8_isM X).2 hv, z10, fun _ => ⟨M, _, c8_part.2 hu, fun _ => ⟨rfl, rfl⟩, z00⟩⟩), ro_rt (g_X9_odds ⟨M, _, (c9_isM Mo B).2 hv, z10, fun _ => ⟨M, _, c9_part.2 hu, fun _ => ⟨rfl, rfl⟩, z00⟩⟩), Gq.rfl⟩
  have b2 := B.2.1
  have b3 := B.2.2.1
  have b4 := B.2.2.2.1
  obtain ⟨m, hm, em⟩ := vix_t (by omega) hv
  obtain ⟨M0, h0, w0, g0⟩ := c8_ask (d := 57) X
  obtain ⟨M1, h1, f1, s1⟩ := c7_hear (d := 54) (by omega) w0 B (m := m) hm
  have w1 := WX_FX (by omega) f1 w0
  have g1 := g0.trans f1.q25
  have cs := c7_silent (d := 58) (S := fun q => sSays W q m) w1 B s1
  obtain ⟨M2, h2, g2⟩ := ro_rv (g_X8_odds (d := 59) (i1 := i) (i2 := k) (M := M) (R := fun M' v => v = some (zL (sLow (0 + lsum (fun w => if okz (muteQ (fun q => sSays W q m)) (wP W) w = true then gG W m (Sx (fun q => sSays W q m) w) else 0) (2 ^ wP W) 0) (2 ^ rkz (muteQ (fun q => sSays W q m)) (wP W)) k)) ∧ Gq M M') ⟨M, _, (c8_isM X).2 hv, z10, fun _ => ⟨M, _, c8_part.1 hu, z10, fun _ => ⟨M0, h0, M1, by rw [em]; exact h1, M1, _, cs, by rw [em]; exact l8_odds (d := 54) hi hm (2 ^ wP W) 0 0 M1 (by omega) (by omega) g1 w1 (fun q hq _ => s1 q hq)⟩⟩⟩)
  have hi2 := Iv_q g2 hi
  obtain ⟨M3, h3, f3, s3⟩ := c9_lay (d := 50) hi2.2.1 B (m := m) hm
  have w3 := WM_FM f3 hi2.2.1
  have hb : SBd W (fun q => sSays W q m) := fun p _ => sSays_c W p m
  have eqc : lsum (fun w => if okz (muteQ (fun q => sSays W q m)) (wP W) w = true then gG W m (Sx (fun q => sSays W q m) w) else 0) (2 ^ wP W) 0 = lsum (fun s => gG W m (Tm (fun q => sSays W q m) s)) (2 ^ rkz (muteQ (fun q => sSays W q m)) (wP W)) 0 := by
    rw [cnt_sub (muteQ (fun q => sSays W q m)) (wP W) (fun w => gG W m (Sx (fun q => sSays W q m) w))]
    refine lsum_congr _ _ (fun s _ hs => ?_)
    show gG W m _ = gG W m _
    unfold gG
    rw [sGoes_congr (T := Tm (fun q => sSays W q m) s) (fun p hp => ?_) m]
    unfold Sx Tm
    cases hz : muteQ (fun q => sSays W q m) p
    · rfl
    · rw [if_pos rfl, if_pos rfl, dpz_bit _ _ s p (by omega) hp hz]
  rw [eqc] at h2
  obtain ⟨M4, h4, f4, r4⟩ := ro_rv (g_X9_odds (d := 59) (i1 := i) (i2 := k) (M := M2) (R := fun M' v => v = some (zL (sLow (0 + lsum (fun s => gG W m (Tm (fun q => sSays W q m) s)) (2 ^ rkz (muteQ (fun q => sSays W q m)) (wP W)) 0) (2 ^ rkz (muteQ (fun q => sSays W q m)) (wP W)) k)) ∧ (∀ a, qa a → M'.1 a = M2.1 a) ∧ M'.2 = M2.2) ⟨M2, _, (c9_isM hi2.2.1 B).2 hv, z10, fun _ => ⟨M2, _, c9_part.1 hu, z10, fun _ => ⟨M3, by rw [em]; exact h3, by
    rw [em]
    refine l9_od32 (S := fun q => sSays W q m) (M0 := M3) (P := wP W) (by omega) w3.2.1 s3 (wP W) 0 M3 (by omega) (fun _ _ => rfl) rfl (fun q hq => absurd hq (Nat.not_lt_zero q)) (fun M5 f5 r5 e5 => ?_)
    have w5 : WM M5 W := WM_eq (fun a _ _ => f5 a (by omega)) w3
    obtain ⟨M6, v6, q1, q2, q3, q4⟩ := l9_od77 (d := 56) (i2 := k) w5 B hb (by omega : m < 6) e5 (2 ^ rkz (muteQ (fun q => sSays W q m)) (wP W)) 0 0 zU M5 (by omega) (by omega) (fun _ _ => rfl) rfl (fun q hq _ => by rw [f5 84 (by omega)]; exact s3 q hq)
    refine ⟨M6, v6, q1, q2, fun a ha => ?_, by rw [q4, r5, f3.2]⟩
    unfold qa at ha
    rw [q3 a (by omega), f5 a (by omega), f3.1 a (by omega) (by omega)]⟩⟩⟩)
  exact ⟨M2, M4, _, h2, h4, g2.trans ⟨f4, by rw [r4], fun _ _ _ => by rw [r4], by rw [r4]⟩⟩
end OD
