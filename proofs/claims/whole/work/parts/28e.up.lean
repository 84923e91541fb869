/-! The call up -/
def reY (y : Int32) (p : Nat) : Int32 := if y = nI p then -1 else if nI p < y then y - 1 else y
/-- one resigned; bys as told -/
def wRe (W : Wv) (p : Nat) (f : Nat → Int32) : Wv := (wN W, wP W - 1, wM W, wT W, wV W, wX W, wB W, (fun k => if p ≤ k ∧ k < wP W - 1 then wK W (k + 1) else wK W k), (fun k => if p ≤ k ∧ k < wP W - 1 then wU W (k + 1) else wU W k), wA W, wW W, f, wC W, wH W)
theorem wRe_B {W : Wv} {p : Nat} {f : Nat → Int32} (hB : WBd W) : WBd (wRe W p f) := by
  obtain ⟨b1, b2, b3, b4, b5, b6, b7, b8⟩ := hB
  refine ⟨b1, b2, by show wP W - 1 ≤ wN W; omega, b4, b5, b6, fun k => ?_, b8⟩
  show (if p ≤ k ∧ k < wP W - 1 then wU W (k + 1) else wU W k) ≤ 9
  split
  · exact b7 _
  · exact b7 _
theorem sGo_re {W : Wv} {p m : Nat} {f g : Nat → Int32} (h : f m = g m) : sGo (wRe W p f) m = sGo (wRe W p g) m := by
  have e : (fun q => sSays (wRe W p f) q m) = (fun q => sSays (wRe W p g) q m) := by
    funext a
    unfold sSays
    rw [show wY (wRe W p f) m = wY (wRe W p g) m from h]
    rfl
  unfold sGo
  rw [e]
  rfl
section UP
variable {d : Nat} {W : Wv}
/-- on the way: people that moved up, from p up to k; M0 is where it began, its people are told one less -/
theorem l7_re2 {o : Nat} (ho : o ≤ 25) (hB : WBd W) {p : Nat} (M0 : ZM) (hp : M0.1 (o + 1) 7 = nI (wM W)) {R : ZM → Option ZV → Prop} : ∀ (j k : Nat) (M : ZM), k + j = wM W → (∀ a, a ≠ o + 9 → M.1 a = M0.1 a) → M.2 = M0.2 → (∀ q, M.1 (o + 9) q = if q < k then reY (M0.1 (o + 9) q) p else M0.1 (o + 9) q) → (∀ M', (∀ a, a ≠ o + 9 → M'.1 a = M0.1 a) → M'.2 = M0.2 → (∀ q, M'.1 (o + 9) q = if q < wM W then reY (M0.1 (o + 9) q) p else M0.1 (o + 9) q) → R M' none) → A_X7_resign_56 d o M (nI p) (nI k) R := by
  have b4 := hB.2.2.2.1
  intro j
  induction j with
  | zero =>
    intro k M hk hf hr hq K
    refine a_X7_resign_56 ?_
    rw [hf _ (by omega), hp]
    have e : k = wM W := by omega
    subst e
    exact ⟨fun q => absurd q (nI_nlt (by omega) (by omega)), fun _ => K M hf hr hq⟩
  | succ j ih =>
    intro k M hk hf hr hq K
    refine a_X7_resign_56 ?_
    rw [hf _ (by omega), hp, zn_nI (by omega), hq k, if_neg (Nat.lt_irrefl k), nI_1]
    have hin := in_n (n := k) (N := 6) (by omega) (by omega)
    have step : ∀ v, v = reY (M0.1 (o + 9) k) p → A_X7_resign_56 d o (zu M.1 (o + 9) k v, M.2) (nI p) (nI (k + 1)) R := fun v hv => by
      refine ih (k + 1) _ (by omega) (fun a ha => (zu_ne ha).trans (hf a ha)) hr (fun q => ?_) K
      show zu M.1 (o + 9) k v (o + 9) q = _
      by_cases hqk : q = k
      · rw [hqk, zu_kk, if_pos (by omega), hv]
      · rw [zu_kn hqk, hq q]
        by_cases h1 : q < k
        · rw [if_pos h1, if_pos (by omega)]
        · rw [if_neg h1, if_neg (by omega)]
    refine ⟨fun _ => ⟨hin, fun h => ⟨hin, ?_⟩, fun h => ⟨hin, fun h2 => ⟨hin, hin, ?_⟩, fun h2 => ?_⟩⟩, fun q => absurd (nI_lt (by omega) (by omega)) q⟩
    · exact step _ (by unfold reY; rw [if_pos h])
    · exact step _ (by unfold reY; rw [if_neg h, if_pos h2])
    · refine ih (k + 1) M (by omega) hf hr (fun q => ?_) K
      rw [hq q]
      by_cases h1 : q < k
      · rw [if_pos h1, if_pos (by omega)]
      · by_cases hqk : q = k
        · rw [if_neg h1, if_pos (by omega), hqk]
          unfold reY
          rw [if_neg h, if_neg h2]
        · rw [if_neg h1, if_neg (by omega)]
theorem l7_re1 {o : Nat} (ho : o ≤ 25) (hB : WBd W) {p : Nat} (M0 : ZM) (hn : M0.1 (o + 1) 4 = nI (wP W - 1)) {R : ZM → Option ZV → Prop} : ∀ (j k : Nat) (M : ZM), k + j = wP W - 1 → p ≤ k → (∀ a, a ≠ o + 5 → a ≠ o + 6 → M.1 a = M0.1 a) → M.2 = M0.2 → (∀ q, M.1 (o + 5) q = (if p ≤ q ∧ q < k then M0.1 (o + 5) (q + 1) else M0.1 (o + 5) q) ∧ M.1 (o + 6) q = (if p ≤ q ∧ q < k then M0.1 (o + 6) (q + 1) else M0.1 (o + 6) q)) → (∀ M', (∀ a, a ≠ o + 5 → a ≠ o + 6 → M'.1 a = M0.1 a) → M'.2 = M0.2 → (∀ q, M'.1 (o + 5) q = (if p ≤ q ∧ q < wP W - 1 then M0.1 (o + 5) (q + 1) else M0.1 (o + 5) q) ∧ M'.1 (o + 6) q = (if p ≤ q ∧ q < wP W - 1 then M0.1 (o + 6) (q + 1) else M0.1 (o + 6) q)) → A_X7_resign_56 d o M' (nI p) 0 R) → A_X7_resign_12 d o M (nI p) (nI k) R := by
  have b2 := hB.2.1
  have b3 := hB.2.2.1
  intro j
  induction j with
  | zero =>
    intro k M hk hpk hf hr hq K
    refine a_X7_resign_12 ?_
    rw [hf _ (by omega) (by omega), hn]
    have e : k = wP W - 1 := by omega
    subst e
    exact ⟨fun q => absurd q (nI_nlt (by omega) (by omega)), fun _ => K M hf hr hq⟩
  | succ j ih =>
    intro k M hk hpk hf hr hq K
    refine a_X7_resign_12 ?_
    rw [hf _ (by omega) (by omega), hn, nI_1, zn_nI (by omega), zn_nI (by omega)]
    have i1 := in_n (n := k + 1) (N := 7) (by omega) (by omega)
    have i2 := in_n (n := k) (N := 7) (by omega) (by omega)
    refine ⟨fun _ => ⟨i1, i2, i1, i2, ?_⟩, fun q => absurd (nI_lt (by omega) (by omega)) q⟩
    refine ih (k + 1) _ (by omega) (by omega) (fun a h1 h2 => (zu_ne h2).trans ((zu_ne h1).trans (hf a h1 h2))) hr (fun q => ?_) K
    have n1 : (if p ≤ k + 1 ∧ k + 1 < k then M0.1 (o + 5) (k + 1 + 1) else M0.1 (o + 5) (k + 1)) = M0.1 (o + 5) (k + 1) := if_neg (by omega)
    have n2 : (if p ≤ k + 1 ∧ k + 1 < k then M0.1 (o + 6) (k + 1 + 1) else M0.1 (o + 6) (k + 1)) = M0.1 (o + 6) (k + 1) := if_neg (by omega)
    have q1 := hq (k + 1)
    rw [n1, n2] at q1
    constructor
    · show zu (zu M.1 (o + 5) k _) (o + 6) k _ (o + 5) q = _
      rw [zu_ne (by omega)]
      by_cases hqk : q = k
      · rw [hqk, zu_kk, if_pos (by omega), q1.1]
      · rw [zu_kn hqk, (hq q).1]
        by_cases h1 : p ≤ q ∧ q < k
        · rw [if_pos h1, if_pos (by omega)]
        · rw [if_neg h1, if_neg (by omega)]
    · show zu (zu M.1 (o + 5) k _) (o + 6) k (zu M.1 (o + 5) k _ (o + 6) (k + 1)) (o + 6) q = _
      by_cases hqk : q = k
      · rw [hqk, zu_kk, if_pos (by omega), zu_ne (by omega), q1.2]
      · rw [zu_kn hqk, zu_ne (by omega), (hq q).2]
        by_cases h1 : p ≤ q ∧ q < k
        · rw [if_pos h1, if_pos (by omega)]
        · rw [if_neg h1, if_neg (by omega)]
theorem c7_resign {M : ZM} (hW : WX M 25 W) (hB : WBd W) {p : Nat} (hp : p < wP W) : ∃ M', Rt (d + 1) 78 [zR 7 26, zI (nI p)] M M' none ∧ WX M' 25 (wRe W p (fun m => if m < wM W then reY (wY W m) p else wY W m)) ∧ Gq M M' := by
  have b2 := hB.2.1
  have b3 := hB.2.2.1
  have b4 := hB.2.2.2.1
  have n4 : M.1 26 4 = nI (wP W) := hW.2.1
  have n7 : M.1 26 7 = nI (wM W) := hW.2.2.1
  have hWW := hW
  refine ro_rv (g_X7_resign (o := 25) ?_)
  have e : M.1 (25 + 1) 4 - 1 = nI (wP W - 1) := by
    show M.1 26 4 - nI 1 = _
    rw [n4, pk_sub (by omega)]
  rw [e]
  refine l7_re1 (o := 25) (by omega) hB (zu M.1 26 4 (nI (wP W - 1)), M.2) (show zu M.1 26 4 (nI (wP W - 1)) 26 4 = nI (wP W - 1) from zu_kk) (wP W - 1 - p) p _ (by omega) (Nat.le_refl _) (fun _ _ _ => rfl) rfl (fun q => ⟨by rw [if_neg (by omega)], by rw [if_neg (by omega)]⟩) (fun M1 f1 r1 q1 => ?_)
  refine l7_re2 (o := 25) (by omega) hB M1 (by rw [f1 26 (by omega) (by omega)]; exact n7) (wM W) 0 M1 (by omega) (fun _ _ => rfl) rfl (fun q => by rw [if_neg (by omega)]) (fun M2 f2 r2 q2 => ⟨rfl, ?_⟩)
  have fr : ∀ a, a ≠ 26 → a ≠ 30 → a ≠ 31 → a ≠ 34 → M2.1 a = M.1 a := fun a h1 h2 h3 h4 => by
    rw [f2 a h4, f1 a h2 h3]
    exact zu_ne h1
  have ob : ∀ k, M2.1 26 k = zu M.1 26 4 (nI (wP W - 1)) 26 k := fun k => by
    rw [f2 26 (by omega), f1 26 (by omega) (by omega)]
  have ob' : ∀ k, k ≠ 4 → M2.1 26 k = M.1 26 k := fun k hk => (ob k).trans (zu_kn hk)
  have kk : ∀ q, M2.1 30 q = (if p ≤ q ∧ q < wP W - 1 then M.1 30 (q + 1) else M.1 30 q) := fun q => by
    rw [f2 30 (by omega)]
    have := (q1 q).1
    have e30 : zu M.1 26 4 (nI (wP W - 1)) 30 = M.1 30 := zu_ne (by omega)
    show M1.1 (25 + 5) q = _
    rw [this]
    show (if _ then zu M.1 26 4 (nI (wP W - 1)) 30 (q + 1) else zu M.1 26 4 (nI (wP W - 1)) 30 q) = _
    rw [e30]
  have uu : ∀ q, M2.1 31 q = (if p ≤ q ∧ q < wP W - 1 then M.1 31 (q + 1) else M.1 31 q) := fun q => by
    rw [f2 31 (by omega)]
    have := (q1 q).2
    have e30 : zu M.1 26 4 (nI (wP W - 1)) 31 = M.1 31 := zu_ne (by omega)
    show M1.1 (25 + 6) q = _
    rw [this]
    show (if _ then zu M.1 26 4 (nI (wP W - 1)) 31 (q + 1) else zu M.1 26 4 (nI (wP W - 1)) 31 q) = _
    rw [e30]
  have yy : ∀ q, M2.1 34 q = (if q < wM W then reY (M.1 34 q) p else M.1 34 q) := fun q => by
    have e34 : M1.1 34 = M.1 34 := by
      rw [f1 34 (by omega) (by omega)]
      show zu M.1 26 4 (nI (wP W - 1)) 34 = M.1 34
      exact zu_ne (by decide)
    have := q2 q
    rw [show (25 + 9 : Nat) = 34 from rfl, e34] at this
    exact this
  obtain ⟨w1, w2, w3, w4, w5, w6, w7, w8, w9, w10, w11, w12, w13, w14⟩ := hWW
  refine ⟨⟨?_, ?_, ?_, ?_, ?_, ?_, ?_, ?_, ?_, ?_, ?_, ?_, ?_, ?_⟩, fun a h => fr a (by unfold qa at h; omega) (by unfold qa at h; omega) (by unfold qa at h; omega) (by unfold qa at h; omega), by rw [r2, r1], fun a k _ => by rw [r2, r1], by rw [r2, r1]⟩
  · exact (ob' 0 (by decide)).trans w1
  · exact (ob 4).trans zu_kk
  · exact (ob' 7 (by decide)).trans w3
  · exact (ob' 12 (by decide)).trans w4
  · intro k hk; rw [show (25 + 2 : Nat) = 27 from rfl, fr 27 (by omega) (by omega) (by omega) (by omega)]; exact w5 k hk
  · intro k hk; rw [show (25 + 3 : Nat) = 28 from rfl, fr 28 (by omega) (by omega) (by omega) (by omega)]; exact w6 k hk
  · intro k hk; rw [show (25 + 4 : Nat) = 29 from rfl, fr 29 (by omega) (by omega) (by omega) (by omega)]; exact w7 k hk
  · intro k hk
    show M2.1 30 k = (if p ≤ k ∧ k < wP W - 1 then wK W (k + 1) else wK W k)
    rw [kk k]
    by_cases h : p ≤ k ∧ k < wP W - 1
    · rw [if_pos h, if_pos h]; exact w8 (k + 1) (by omega)
    · rw [if_neg h, if_neg h]; exact w8 k hk
  · intro k hk
    show M2.1 31 k = nI (if p ≤ k ∧ k < wP W - 1 then wU W (k + 1) else wU W k)
    rw [uu k]
    by_cases h : p ≤ k ∧ k < wP W - 1
    · rw [if_pos h, if_pos h]; exact w9 (k + 1) (by omega)
    · rw [if_neg h, if_neg h]; exact w9 k hk
  · intro k hk; rw [show (25 + 7 : Nat) = 32 from rfl, fr 32 (by omega) (by omega) (by omega) (by omega)]; exact w10 k hk
  · intro k hk; rw [show (25 + 8 : Nat) = 33 from rfl, fr 33 (by omega) (by omega) (by omega) (by omega)]; exact w11 k hk
  · intro k hk
    show M2.1 34 k = (if k < wM W then reY (wY W k) p else wY W k)
    rw [yy k, show M.1 34 k = wY W k from w12 k hk]
  · intro k hk; rw [show (25 + 10 : Nat) = 35 from rfl, fr 35 (by omega) (by omega) (by omega) (by omega)]; exact w13 k hk
  · rcases w14 with ⟨x, y⟩ | ⟨b, x, y, z⟩
    · exact Or.inl ⟨by rw [r2, r1]; exact x, y⟩
    · exact Or.inr ⟨b, by rw [r2, r1]; exact x, y, HX_eq (fun c h1 h2 => fr c (by omega) (by omega) (by omega) (by omega)) z⟩
end UP
