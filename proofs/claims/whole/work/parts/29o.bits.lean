/-! Bits: masks, subsets in two countings -/
theorem bt_nat : ∀ x, x < 128 → ∀ q, q < 7 → bt (nI x) (nI q) = Nat.testBit x q := by decide +kernel
def okz (z : Nat → Bool) : Nat → Nat → Bool
  | 0, _ => true
  | k + 1, w => if w < 2 ^ k then okz z k w else z k && okz z k (w - 2 ^ k)
def rkz (z : Nat → Bool) : Nat → Nat
  | 0 => 0
  | k + 1 => rkz z k + (if z k = true then 1 else 0)
def dpz (z : Nat → Bool) : Nat → Nat → Nat
  | 0, _ => 0
  | k + 1, s => if z k = true then (if s < 2 ^ rkz z k then dpz z k s else 2 ^ k + dpz z k (s - 2 ^ rkz z k)) else dpz z k s
/-- the mask of z below k -/
def mkz (z : Nat → Bool) : Nat → Nat
  | 0 => 0
  | k + 1 => if z k = true then 2 ^ k + mkz z k else mkz z k
theorem mkz_lt (z : Nat → Bool) : ∀ k, mkz z k < 2 ^ k
  | 0 => Nat.one_pos
  | k + 1 => by
    have := mkz_lt z k
    have e : 2 ^ (k + 1) = 2 ^ k + 2 ^ k := by rw [Nat.pow_succ]; omega
    unfold mkz
    split <;> omega
theorem rkz_le (z : Nat → Bool) : ∀ k, rkz z k ≤ k
  | 0 => Nat.le_refl _
  | k + 1 => by
    have := rkz_le z k
    unfold rkz
    split <;> omega
theorem rkz_mono (z : Nat → Bool) : ∀ k q, q ≤ k → rkz z q ≤ rkz z k
  | 0, q, h => by rw [Nat.le_zero.mp h]; exact Nat.le_refl _
  | k + 1, q, h => by
    by_cases e : q = k + 1
    · rw [e]; exact Nat.le_refl _
    · have := rkz_mono z k q (by omega)
      show _ ≤ rkz z k + _
      omega
theorem rkz_lt {z : Nat → Bool} {k q : Nat} (h : q < k) (hz : z q = true) : rkz z q < rkz z k := by
  have h1 := rkz_mono z k (q + 1) h
  have h2 : rkz z (q + 1) = rkz z q + 1 := by
    show rkz z q + (if z q = true then 1 else 0) = _
    rw [if_pos hz]
  omega
theorem rkz_inj {z : Nat → Bool} {p q : Nat} (hp : z p = true) (hq : z q = true) (h : rkz z p = rkz z q) : p = q := by
  rcases Nat.lt_trichotomy p q with l | l | l
  · have := rkz_lt l hp; omega
  · exact l
  · have := rkz_lt l hq; omega
theorem rkz_sur (z : Nat → Bool) : ∀ k r, r < rkz z k → ∃ q, q < k ∧ z q = true ∧ rkz z q = r
  | 0, r, h => absurd h (Nat.not_lt_zero r)
  | k + 1, r, h => by
    by_cases c : r < rkz z k
    · obtain ⟨q, h1, h2, h3⟩ := rkz_sur z k r c
      exact ⟨q, by omega, h2, h3⟩
    · have h' : r < rkz z k + (if z k = true then 1 else 0) := h
      by_cases e : z k = true
      · rw [if_pos e] at h'
        exact ⟨k, by omega, e, by omega⟩
      · rw [if_neg e] at h'
        omega
theorem mkz_bit (z : Nat → Bool) : ∀ k q, q < k → Nat.testBit (mkz z k) q = z q
  | 0, q, h => absurd h (Nat.not_lt_zero q)
  | k + 1, q, h => by
    have hl := mkz_lt z k
    unfold mkz
    by_cases e : q = k
    · rw [e]
      cases c : z k
      · rw [if_neg (by decide), Nat.testBit_lt_two_pow hl]
      · rw [if_pos rfl, Nat.testBit_two_pow_add_eq, Nat.testBit_lt_two_pow hl]
        rfl
    · have ih := mkz_bit z k q (by omega)
      split
      · rw [Nat.testBit_two_pow_add_gt (by omega)]; exact ih
      · exact ih
theorem okz_congr {z y : Nat → Bool} : ∀ k w, (∀ q, q < k → z q = y q) → okz z k w = okz y k w
  | 0, _, _ => rfl
  | k + 1, w, h => by
    unfold okz
    rw [okz_congr k w (fun q hq => h q (by omega)), okz_congr k (w - 2 ^ k) (fun q hq => h q (by omega)), h k (by omega)]
theorem sub_ok : ∀ P, P < 8 → ∀ s, s < 2 ^ P → ∀ w, w < 2 ^ P → decide ((nI w &&& (nI s ^^^ (-1))) = 0) = okz (fun q => Nat.testBit s q) P w := by decide +kernel
theorem lsum_add (f : Nat → Nat) : ∀ a b k, lsum f (a + b) k = lsum f a k + lsum f b (k + a)
  | 0, b, k => by
    show lsum f (0 + b) k = 0 + lsum f b (k + 0)
    rw [Nat.zero_add, Nat.zero_add, Nat.add_zero]
  | a + 1, b, k => by
    have e : a + 1 + b = (a + b) + 1 := by omega
    rw [e]
    show f k + lsum f (a + b) (k + 1) = f k + lsum f a (k + 1) + lsum f b (k + (a + 1))
    rw [lsum_add f a b (k + 1), show k + 1 + a = k + (a + 1) by omega, Nat.add_assoc]
theorem lsum_sh (f : Nat → Nat) (c : Nat) : ∀ j k, lsum (fun w => f (c + w)) j k = lsum f j (c + k)
  | 0, _ => rfl
  | j + 1, k => by
    show f (c + k) + lsum (fun w => f (c + w)) j (k + 1) = f (c + k) + lsum f j (c + k + 1)
    rw [lsum_sh f c j (k + 1), show c + (k + 1) = c + k + 1 by omega]
theorem lsum_0 : ∀ j k, lsum (fun _ => 0) j k = 0
  | 0, _ => rfl
  | j + 1, k => by
    show 0 + lsum (fun _ => 0) j (k + 1) = 0
    rw [lsum_0 j (k + 1)]
/-- both countings of the subsets come to the same -/
theorem cnt_sub (z : Nat → Bool) : ∀ (k : Nat) (G : Nat → Nat), lsum (fun w => if okz z k w = true then G w else 0) (2 ^ k) 0 = lsum (fun s => G (dpz z k s)) (2 ^ rkz z k) 0
  | 0, G => rfl
  | k + 1, G => by
    have e : 2 ^ (k + 1) = 2 ^ k + 2 ^ k := by rw [Nat.pow_succ]; omega
    have ih := cnt_sub z k
    rw [e, lsum_add, Nat.zero_add]
    have h1 : lsum (fun w => if okz z (k + 1) w = true then G w else 0) (2 ^ k) 0 = lsum (fun s => G (dpz z k s)) (2 ^ rkz z k) 0 := by
      rw [← ih G]
      refine lsum_congr _ _ (fun w _ hw => ?_)
      show (if okz z (k + 1) w = true then G w else 0) = (if okz z k w = true then G w else 0)
      have : okz z (k + 1) w = okz z k w := by
        show (if w < 2 ^ k then okz z k w else z k && okz z k (w - 2 ^ k)) = _
        rw [if_pos (by omega)]
      rw [this]
    have h2 : lsum (fun w => if okz z (k + 1) w = true then G w else 0) (2 ^ k) (2 ^ k) = lsum (fun w => if okz z (k + 1) (2 ^ k + w) = true then G (2 ^ k + w) else 0) (2 ^ k) 0 := (lsum_sh (fun w => if okz z (k + 1) w = true then G w else 0) (2 ^ k) (2 ^ k) 0).symm
    have h3 : ∀ w, okz z (k + 1) (2 ^ k + w) = (z k && okz z k w) := fun w => by
      show (if 2 ^ k + w < 2 ^ k then okz z k (2 ^ k + w) else z k && okz z k (2 ^ k + w - 2 ^ k)) = _
      rw [if_neg (by omega), Nat.add_sub_cancel_left]
    rw [h1, h2]
    cases hz : z k
    · have h4 : lsum (fun w => if okz z (k + 1) (2 ^ k + w) = true then G (2 ^ k + w) else 0) (2 ^ k) 0 = 0 := by
        refine Eq.trans (lsum_congr (g := fun _ => 0) _ _ (fun w _ _ => ?_)) (lsum_0 (2 ^ k) 0)
        show (if okz z (k + 1) (2 ^ k + w) = true then G (2 ^ k + w) else 0) = 0
        rw [h3, hz]
        rfl
      have h5 : rkz z (k + 1) = rkz z k := by
        show rkz z k + (if z k = true then 1 else 0) = _
        rw [hz]
        rfl
      rw [h4, h5, Nat.add_zero]
      refine lsum_congr _ _ (fun s _ _ => ?_)
      show G (dpz z k s) = G (if z k = true then _ else dpz z k s)
      rw [hz]
      rfl
    · have h4 : lsum (fun w => if okz z (k + 1) (2 ^ k + w) = true then G (2 ^ k + w) else 0) (2 ^ k) 0 = lsum (fun s => G (2 ^ k + dpz z k s)) (2 ^ rkz z k) 0 := by
        rw [← ih (fun w => G (2 ^ k + w))]
        refine lsum_congr _ _ (fun w _ _ => ?_)
        show (if okz z (k + 1) (2 ^ k + w) = true then G (2 ^ k + w) else 0) = (if okz z k w = true then G (2 ^ k + w) else 0)
        rw [h3, hz, Bool.true_and]
      have h5 : 2 ^ rkz z (k + 1) = 2 ^ rkz z k + 2 ^ rkz z k := by
        have : rkz z (k + 1) = rkz z k + 1 := by
          show rkz z k + (if z k = true then 1 else 0) = _
          rw [if_pos hz]
        rw [this, Nat.pow_succ]
        omega
      have h6 : ∀ s, dpz z (k + 1) s = (if s < 2 ^ rkz z k then dpz z k s else 2 ^ k + dpz z k (s - 2 ^ rkz z k)) := fun s => by
        show (if z k = true then _ else _) = _
        rw [if_pos hz]
      rw [h4, h5, lsum_add, Nat.zero_add]
      congr 1
      · refine lsum_congr _ _ (fun s _ hs => ?_)
        show G (dpz z k s) = G (dpz z (k + 1) s)
        rw [h6, if_pos (by omega)]
      · have h7 : lsum (fun s => G (dpz z (k + 1) s)) (2 ^ rkz z k) (2 ^ rkz z k) = lsum (fun s => G (dpz z (k + 1) (2 ^ rkz z k + s))) (2 ^ rkz z k) 0 := (lsum_sh (fun s => G (dpz z (k + 1) s)) (2 ^ rkz z k) (2 ^ rkz z k) 0).symm
        rw [h7]
        refine lsum_congr _ _ (fun s _ _ => ?_)
        show G (2 ^ k + dpz z k s) = G (dpz z (k + 1) (2 ^ rkz z k + s))
        rw [h6, if_neg (by omega), Nat.add_sub_cancel_left]
theorem dpz_lt (z : Nat → Bool) : ∀ k s, dpz z k s < 2 ^ k
  | 0, _ => Nat.one_pos
  | k + 1, s => by
    have e : 2 ^ (k + 1) = 2 ^ k + 2 ^ k := by rw [Nat.pow_succ]; omega
    have h1 := dpz_lt z k s
    have h2 := dpz_lt z k (s - 2 ^ rkz z k)
    unfold dpz
    split
    · split <;> omega
    · omega
theorem dpz_bit (z : Nat → Bool) : ∀ k s q, s < 2 ^ rkz z k → q < k → z q = true → Nat.testBit (dpz z k s) q = Nat.testBit s (rkz z q)
  | 0, _, q, _, h, _ => absurd h (Nat.not_lt_zero q)
  | k + 1, s, q, hs, hq, hz => by
    have e : dpz z (k + 1) s = (if z k = true then (if s < 2 ^ rkz z k then dpz z k s else 2 ^ k + dpz z k (s - 2 ^ rkz z k)) else dpz z k s) := rfl
    have er : rkz z (k + 1) = rkz z k + (if z k = true then 1 else 0) := rfl
    rw [er] at hs
    rw [e]
    by_cases hk : z k = true
    · rw [if_pos hk] at hs ⊢
      have e2 : 2 ^ (rkz z k + 1) = 2 ^ rkz z k + 2 ^ rkz z k := by rw [Nat.pow_succ]; omega
      by_cases hl : s < 2 ^ rkz z k
      · rw [if_pos hl]
        by_cases eq : q = k
        · rw [eq, Nat.testBit_lt_two_pow (dpz_lt z k s), Nat.testBit_lt_two_pow hl]
        · exact dpz_bit z k s q hl (by omega) hz
      · rw [if_neg hl]
        have e3 : s = 2 ^ rkz z k + (s - 2 ^ rkz z k) := by omega
        by_cases eq : q = k
        · rw [eq, Nat.testBit_two_pow_add_eq, Nat.testBit_lt_two_pow (dpz_lt z k _)]
          rw [e3, Nat.testBit_two_pow_add_eq, Nat.testBit_lt_two_pow (by omega)]
        · rw [Nat.testBit_two_pow_add_gt (by omega), dpz_bit z k _ q (by omega) (by omega) hz]
          have := rkz_lt (z := z) (k := k) (q := q) (by omega) hz
          rw [← Nat.testBit_two_pow_add_gt (i := rkz z k) (by omega) (s - 2 ^ rkz z k), ← e3]
    · rw [if_neg hk] at hs ⊢
      have : q ≠ k := fun e => hk (by rw [← e]; exact hz)
      exact dpz_bit z k s q hs (by omega) hz
theorem or_shl : ∀ k, k < 7 → ∀ a, a < 2 ^ k → nI a ||| ((1 : Int32) <<< (nI k &&& 31)) = nI (2 ^ k + a) := by decide +kernel
