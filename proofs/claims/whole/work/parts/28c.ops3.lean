/-! The calls: fractions; mean, meet, wheels -/
def est : Nat → Nat → Nat → Bool
  | 0, _, b => Nat.beq b 0
  | f + 1, a, b => bif Nat.beq b 0 then true else est f b (a % b)
def eu : Nat → Nat → Nat → Nat
  | 0, a, _ => a
  | f + 1, a, b => bif Nat.beq b 0 then a else eu f b (a % b)
theorem est_all : ∀ a, a < 200 → ∀ b, b < 130 → (est 20 a b && (Nat.beq b 0 || Nat.blt 0 (eu 20 a b))) = true := by decide +kernel
theorem eu_le : ∀ f a b, eu f a b ≤ a + b
  | 0, a, b => Nat.le_add_right a b
  | f + 1, a, b => by
    unfold eu
    cases h : Nat.beq b 0
    · show eu f b (a % b) ≤ _
      have := eu_le f b (a % b)
      have := Nat.mod_le a b
      omega
    · show a ≤ _
      omega
/-- a fraction's part, in lowest terms -/
def sLow (a b : Nat) (i : Int32) : Int64 := if i = 0 then lN (a / eu 20 a b) else lN (b / eu 20 a b)
section FR
variable {d : Nat} {M : ZM}
theorem l8_div {x y : Int32} : ∀ (f a b k : Nat) (u : ZV), est f a b = true → a < 1000 → b < 1000 → k + f < 64 → A_X8_greatestDivisor_7 d M x y (nI a) (nI b) (nI k) u (fun M' v => M' = M ∧ v = some (zI (nI (eu f a b)))) := by
  intro f
  induction f with
  | zero =>
    intro a b k u he ha hb hk
    have h0 : b = 0 := Nat.eq_of_beq_eq_true he
    refine a_X8_greatestDivisor_7 ⟨fun _ => ⟨fun _ => ⟨rfl, rfl⟩, fun q => absurd (by rw [h0]; rfl) q⟩, fun q => absurd (nI_lt (b := 64) (by omega) (by omega)) q⟩
  | succ f ih =>
    intro a b k u he ha hb hk
    refine a_X8_greatestDivisor_7 ⟨fun _ => ⟨fun q => ⟨rfl, ?_⟩, fun q => ⟨q, ?_⟩⟩, fun q => absurd (nI_lt (b := 64) (by omega) (by omega)) q⟩
    · have h0 : b = 0 := by rw [nI_z (by omega)] at q; exact q
      rw [h0]
      rfl
    · have h0 : b ≠ 0 := by rw [nI_z (by omega)] at q; exact q
      have hm := Nat.mod_lt a (by omega : 0 < b)
      rw [zrem_nI (by omega) (by omega) (by omega), nI_1]
      unfold est at he
      unfold eu
      rw [nbf h0] at he ⊢
      exact ih b (a % b) (k + 1) _ he hb (by omega) (by omega)
theorem l9_div {x y : Int64} : ∀ (f a b : Nat) (u : ZV), est f a b = true → a < 1000 → b < 1000 → A_X9_divisor_6 d M x y (lN a) (lN b) u (fun M' v => M' = M ∧ v = some (zL (lN (eu f a b)))) := by
  have hz : ∀ b, b < 1000 → ((lg_cmp (lN b) 0 = 0) = (b = 0)) := fun b hb => by
    have h0 : (0 : Int64) = lN 0 := rfl
    unfold lg_cmp
    by_cases h : b = 0
    · rw [h]
      exact propext ⟨fun _ => rfl, fun _ => by decide⟩
    · have h1 : ¬ (lN b = 0) := fun q => h ((lN_eq (b := 0) (by omega) (by omega)).mp q)
      refine propext ⟨fun q => ?_, fun q => absurd q h⟩
      rw [if_neg h1] at q
      split at q <;> exact absurd q (by decide)
  intro f
  induction f with
  | zero =>
    intro a b u he ha hb
    have h0 : b = 0 := Nat.eq_of_beq_eq_true he
    refine a_X9_divisor_6 ?_
    rw [hz b hb]
    exact ⟨fun _ => ⟨rfl, rfl⟩, fun q => absurd h0 q⟩
  | succ f ih =>
    intro a b u he ha hb
    refine a_X9_divisor_6 ?_
    rw [hz b hb]
    refine ⟨fun h0 => ⟨rfl, ?_⟩, fun h0 => ⟨fun q => h0 ((lN_eq (b := 0) (by omega) (by omega)).mp q), ?_⟩⟩
    · rw [h0]
      rfl
    · have hm := Nat.mod_lt a (by omega : 0 < b)
      have e : zreml (lN a) (lN b) = lN (a % b) := pk_lRem (by omega) (by omega) (by omega)
      rw [e]
      unfold est at he
      unfold eu
      rw [nbf h0] at he ⊢
      exact ih b (a % b) _ he hb (by omega)
theorem est_ab {a b : Nat} (ha : a < 200) (h0 : 0 < b) (hb : b < 130) : est 20 a b = true ∧ 0 < eu 20 a b := by
  have h := est_all a ha b hb
  rw [Bool.and_eq_true, Bool.or_eq_true] at h
  refine ⟨h.1, ?_⟩
  rcases h.2 with q | q
  · have := Nat.eq_of_beq_eq_true q
    omega
  · exact Nat.le_of_ble_eq_true q
theorem c8_low {a b : Nat} (ha : a < 200) (h0 : 0 < b) (hb : b < 130) {i : Int32} : Rt (d + 2) 133 [zI (nI a), zI (nI b), zI i] M M (some (zL (sLow a b i))) := by
  obtain ⟨e1, e2⟩ := est_ab ha h0 hb
  have e3 := eu_le 20 a b
  have hr : Rt (d + 1) 134 [zI (nI a), zI (nI b)] M M (some (zI (nI (eu 20 a b)))) := ro_rt (g_X8_greatestDivisor (l8_div 20 a b 0 zU e1 (by omega) (by omega) (by omega)))
  have n0 := nI_ne0 e2 (by omega)
  refine ro_rt (g_X8_inLowestTerms ⟨M, _, hr, fun q => absurd q n0, fun _ => ⟨fun q => ⟨n0, rfl, ?_⟩, fun q => ⟨n0, rfl, ?_⟩⟩⟩)
  · have := Nat.div_le_self a (eu 20 a b)
    rw [pk_div (by omega) e2 (by omega), nI_l (by omega)]
    unfold sLow
    rw [if_pos q]
  · have := Nat.div_le_self b (eu 20 a b)
    rw [pk_div (by omega) e2 (by omega), nI_l (by omega)]
    unfold sLow
    rw [if_neg q]
theorem c9_low {a b : Nat} (ha : a < 200) (h0 : 0 < b) (hb : b < 130) {i : Int32} : Rt (d + 2) 198 [zR 9 64, zL (lN a), zL (lN b), zI i] M M (some (zL (sLow a b i))) := by
  obtain ⟨e1, e2⟩ := est_ab ha h0 hb
  have e3 := eu_le 20 a b
  have hr : Rt (d + 1) 197 [zR 9 64, zL (lN a), zL (lN b)] M M (some (zL (lN (eu 20 a b)))) := ro_rt (g_X9_divisor (l9_div 20 a b zU e1 (by omega) (by omega)))
  have n0 : ¬ lN (eu 20 a b) = 0 := fun q => by
    have := (lN_eq (b := 0) (by omega) (by omega)).mp q
    omega
  refine ro_rt (g_X9_lowest ⟨M, _, hr, fun q => ⟨n0, rfl, ?_⟩, fun q => ⟨n0, rfl, ?_⟩⟩)
  · rw [pk_lDiv (by omega) e2 (by omega)]
    unfold sLow
    rw [if_pos q]
  · rw [pk_lDiv (by omega) e2 (by omega)]
    unfold sLow
    rw [if_neg q]
theorem vpart {i : Int32} : (¬ i < 0 ∧ ¬ (1 : Int32) < i) = (i = 0 ∨ i = 1) := by
  have h0 : (0 : Int32).toInt = 0 := by decide
  have h1 : (1 : Int32).toInt = 1 := by decide
  rw [Int32.lt_iff_toInt_lt, Int32.lt_iff_toInt_lt, ← Int32.toInt_inj, ← Int32.toInt_inj, h0, h1]
  exact propext (by omega)
theorem c8_part {i : Int32} : ((i = 0 ∨ i = 1) → Rt (d + 1) 130 [zI i] M M (some (zI 1))) ∧ (¬ (i = 0 ∨ i = 1) → Rt (d + 1) 130 [zI i] M M (some (zI 0))) := by
  refine ⟨fun h => ro_rt (g_X8_isPart ⟨fun _ => ⟨rfl, rfl⟩, fun q => ⟨fun _ => ⟨rfl, rfl⟩, fun r => absurd (h.elim (fun x => absurd x q) id) r⟩⟩), fun h => ro_rt (g_X8_isPart ⟨fun q => absurd (Or.inl q) h, fun q => ⟨fun r => absurd (Or.inr r) h, fun _ => ⟨rfl, rfl⟩⟩⟩)⟩
theorem c9_part {i : Int32} : ((i = 0 ∨ i = 1) → Rt (d + 1) 136 [zR 9 64, zI i, zI 0, zI 1] M M (some (zI 1))) ∧ (¬ (i = 0 ∨ i = 1) → Rt (d + 1) 136 [zR 9 64, zI i, zI 0, zI 1] M M (some (zI 0))) := by
  have h := c9_in (d := d) (M := M) (a := i) (b := 0) (c := 1)
  refine ⟨fun q => ?_, fun q => ?_⟩
  · rw [decide_eq_true (by rw [vpart]; exact q)] at h
    exact h
  · rw [decide_eq_false (by rw [vpart]; exact q)] at h
    exact h
end FR
section O3
variable {d : Nat} {M : ZM} {W : Wv}
noncomputable def sFor (W : Wv) (m k : Nat) : Nat := sVotes (wTu W (wT W + k)) (fun q => sSays (wTu W (wT W + k)) q m) 1
theorem l8_mean {M0 : ZM} {h : Nat} (hi : Iv M0 W h) {m : Nat} (hm : m < wM W) {i : Int32} : ∀ (j k a t : Nat) (M : ZM), k + j = wN W → a ≤ 28 * k → Gq M0 M → WX M 25 (wTu W t) → t ≤ 100000 → A_X8_mean_28 59 M (nI m) i (nI a) (nI k) (fun M' v => v = some (zL (sLow (a + lsum (sFor W m) j k) (wN W) i)) ∧ Gq M0 M') := by
  have B := hi.2.2.1
  have T := hi.2.2.2.1
  have b1 := B.1
  have b2 := B.2.1
  intro j
  induction j with
  | zero =>
    intro k a t M hk ha g wA ht
    have hi1 := Iv_q g hi
    refine a_X8_mean_28 ?_
    rw [show M.1 2 0 = nI (wN W) from hi1.1.1]
    refine ⟨fun q => absurd q (nI_nlt (by omega) (by omega)), fun _ => ⟨M, _, c8_low (d := 57) (by omega) (by omega) (by omega), rfl, g⟩⟩
  | succ j ih =>
    intro k a t M hk ha g wA ht
    have hi1 := Iv_q g hi
    refine a_X8_mean_28 ?_
    rw [show M.1 2 0 = nI (wN W) from hi1.1.1, show M.1 2 12 = nI (wT W) from hi1.1.2.2.2.1, nI_add]
    refine ⟨fun _ => ?_, fun q => absurd (nI_lt (by omega) (by omega)) q⟩
    have w1 : WX (zu M.1 26 12 (nI (wT W + k)), M.2) 25 (wTu W (wT W + k)) := WX_turn (W := wTu W t) (t := wT W + k) (by omega) wA
    have hB := wTu_B B (by omega : wT W + k ≤ 100000)
    have g1 : Gq M (zu M.1 26 12 (nI (wT W + k)), M.2) := ⟨fun a q => zu_ne (by unfold qa at q; omega), rfl, fun _ _ _ => rfl, rfl⟩
    obtain ⟨M1, h1, f1, s1⟩ := c7_hear (d := 54) (by omega) w1 hB (m := m) hm
    have w2 := WX_FX (by omega) f1 w1
    have c := c7_votes (d := 57) (x := 1) (S := fun q => sSays (wTu W (wT W + k)) q m) w2 hB s1
    have hle := sVotes_le hB (fun q => sSays (wTu W (wT W + k)) q m) 1
    have e : lsum (sFor W m) (j + 1) k = sVotes (wTu W (wT W + k)) (fun q => sSays (wTu W (wT W + k)) q m) 1 + lsum (sFor W m) j (k + 1) := rfl
    rw [e, ← Nat.add_assoc]
    refine ⟨M1, h1, M1, _, c, ?_⟩
    rw [nI_add, nI_1]
    exact ih (k + 1) _ (wT W + k) M1 (by omega) (by omega) ((g.trans g1).trans f1.q25) w2 (by omega)
theorem l9_mean {M0 : ZM} {h : Nat} (hi : Iv M0 W h) {m : Nat} (hm : m < wM W) {i : Int32} : ∀ (j k a t : Nat) (M : ZM), k + j = wN W → a ≤ 28 * k → Gt M0 M → WM M (wTu W t) → A_X9_mean_33 59 M (nI m) i (nI (wT W)) (nI a) (nI k) (fun M' v => v = some (zL (sLow (a + lsum (sFor W m) j k) (wN W) i)) ∧ Gq M0 M') := by
  have B := hi.2.2.1
  have T := hi.2.2.2.1
  have b1 := B.1
  have b2 := B.2.1
  intro j
  induction j with
  | zero =>
    intro k a t M hk ha g wA
    refine a_X9_mean_33 ?_
    rw [show M.1 64 0 = nI (wN W) from wA.1, nI_l (by omega), nI_l (by omega)]
    refine ⟨fun q => absurd q (nI_nlt (by omega) (by omega)), fun _ => ⟨_, _, c9_low (d := 57) (by omega) (by omega) (by omega), rfl, Gt_end g hi.2.1.2.2.2.1⟩⟩
  | succ j ih =>
    intro k a t M hk ha g wA
    refine a_X9_mean_33 ?_
    rw [show M.1 64 0 = nI (wN W) from wA.1, nI_add (wT W)]
    refine ⟨fun _ => ?_, fun q => absurd (nI_lt (by omega) (by omega)) q⟩
    have w1 : WM (zu M.1 64 3 (nI (wT W + k)), M.2) (wTu W (wT W + k)) := WM_turn (W := wTu W t) (t := wT W + k) wA
    have hB := wTu_B B (by omega : wT W + k ≤ 100000)
    obtain ⟨M1, h1, f1, s1⟩ := c9_lay (d := 50) w1 hB (m := m) hm
    have w2 := WM_FM f1 w1
    have c := c9_votes (d := 57) (x := 1) (S := fun q => sSays (wTu W (wT W + k)) q m) w2 hB s1
    have hle := sVotes_le hB (fun q => sSays (wTu W (wT W + k)) q m) 1
    have e : lsum (sFor W m) (j + 1) k = sVotes (wTu W (wT W + k)) (fun q => sSays (wTu W (wT W + k)) q m) 1 + lsum (sFor W m) j (k + 1) := rfl
    rw [e, ← Nat.add_assoc]
    refine ⟨M1, h1, M1, _, c, ?_⟩
    rw [nI_add, nI_1]
    exact ih (k + 1) _ (wT W + k) M1 (by omega) (by omega) ((g.trans (Gt_zu M _)).trans f1.q.t) w2
theorem op_mean (i k : Int32) : Op 112 210 [zI i, zI k] := op_q fun M W h hi => by
  have X := hi.1
  have Mo := hi.2.1
  have B := hi.2.2.1
  have T := hi.2.2.2.1
  cases hv : vix i (wM W)
  · exact ⟨M, M, _, ro_rt (g_X8_mean ⟨M, _, (c8_isM X).1 hv, fun _ => ⟨rfl, rfl⟩, z00⟩), ro_rt (g_X9_mean ⟨M, _, (c9_isM Mo B).1 hv, fun _ => ⟨rfl, rfl⟩, z00⟩), Gq.rfl⟩
  by_cases hu : k = 0 ∨ k = 1
  · obtain ⟨m, hm, em⟩ := vix_t (by have := B.2.2.2.1; omega) hv
    obtain ⟨M0, h0, w0, g0⟩ := c8_ask (d := 57) X
    obtain ⟨M1, h1, g1⟩ := ro_rv (g_X8_mean (i1 := i) (i2 := k) ⟨M, _, (c8_isM X).2 hv, z10, fun _ => ⟨M, _, c8_part.1 hu, z10, fun _ => ⟨M0, h0, by rw [em]; exact l8_mean hi hm (wN W) 0 0 (wT W) M0 (by omega) (by omega) g0 w0 (by omega)⟩⟩⟩)
    have hi1 := Iv_q g1 hi
    obtain ⟨M2, h2, g2⟩ := ro_rv (g_X9_mean (i1 := i) (i2 := k) ⟨M1, _, (c9_isM hi1.2.1 B).2 hv, z10, fun _ => ⟨M1, _, c9_part.1 hu, z10, fun _ => by rw [em, hi1.2.1.2.2.2.1]; exact l9_mean hi1 hm (wN W) 0 0 (wT W) M1 (by omega) (by omega) Gq.rfl.t hi1.2.1⟩⟩)
    exact ⟨M1, M2, _, h1, h2, g1.trans g2⟩
  · exact ⟨M, M, _, ro_rt (g_X8_mean ⟨M, _, (c8_isM X).2 hv, z10, fun _ => ⟨M, _, c8_part.2 hu, fun _ => ⟨rfl, rfl⟩, z00⟩⟩), ro_rt (g_X9_mean ⟨M, _, (c9_isM Mo B).2 hv, z10, fun _ => ⟨M, _, c9_part.2 hu, fun _ => ⟨rfl, rfl⟩, z00⟩⟩), Gq.rfl⟩
end O3
