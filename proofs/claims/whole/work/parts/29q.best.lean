/-! Orders, purely: all orders by number, the best of them, the greedy one -/
def fac : Nat → Nat
  | 0 => 1
  | n + 1 => (n + 1) * fac n
theorem fac_pos : ∀ n, 0 < fac n
  | 0 => Nat.one_pos
  | n + 1 => Nat.mul_pos (Nat.succ_pos n) (fac_pos n)
def rmb (s m : Nat) : Nat := if Nat.testBit s m = true then s - 2 ^ m else s
def nthb (s : Nat) : Nat → Nat → Nat → Nat
  | 0, m, _ => m
  | f + 1, m, p => if Nat.testBit s m = true ∧ p = 0 then m else nthb s f (m + 1) (if Nat.testBit s m = true then p - 1 else p)
theorem nthb_ok : ∀ s, s < 64 → ∀ j, j < 7 → j < pop s → nthb s 6 0 j < 6 ∧ Nat.testBit s (nthb s 6 0 j) = true ∧ rkz (fun q => Nat.testBit s q) (nthb s 6 0 j) = j := by decide +kernel
theorem rmb_ok : ∀ s, s < 64 → ∀ m, m < 6 → Nat.testBit s m = true → pop (rmb s m) + 1 = pop s ∧ rmb s m < s ∧ rkz (fun q => Nat.testBit s q) m < pop s ∧ nthb s 6 0 (rkz (fun q => Nat.testBit s q) m) = m := by decide +kernel
theorem rmb_I : ∀ s, s < 64 → ∀ m, m < 6 → Nat.testBit s m = true → nI s &&& (((1 : Int32) <<< (nI m &&& 31)) ^^^ (-1)) = nI (rmb s m) := by decide +kernel
theorem pop_0 : ∀ s, s < 64 → pop s = 0 → s = 0 := by decide +kernel
theorem pop_7 : ∀ s, s < 64 → pop s < 7 := by decide +kernel
theorem lfnd_min {P : Nat → Bool} : ∀ {j k a : Nat}, lfnd P j k = some a → ∀ m, k ≤ m → m < a → P m = false
  | 0, _, _, h => by cases h
  | j + 1, k, a, h => by
    intro m h1 h2
    cases hp : P k
    · rw [lfnd_n hp] at h
      by_cases e : m = k
      · rw [e]; exact hp
      · exact lfnd_min h m (by omega) h2
    · rw [lfnd_p hp] at h
      cases h
      omega
theorem lfnd_no {P : Nat → Bool} : ∀ {j k : Nat}, lfnd P j k = none → ∀ m, k ≤ m → m < k + j → P m = false
  | 0, _, _ => fun m h1 h2 => by omega
  | j + 1, k, h => by
    intro m h1 h2
    cases hp : P k
    · rw [lfnd_n hp] at h
      by_cases e : m = k
      · rw [e]; exact hp
      · exact lfnd_no h m (by omega) (by omega)
    · rw [lfnd_p hp] at h
      cases h
def mxb (s : Nat) (h : Nat → Nat) : Nat → Nat → Nat → Nat
  | 0, _, a => a
  | j + 1, k, a => mxb s h j (k + 1) (if Nat.testBit s k = true then (if a < h k then h k else a) else a)
theorem mxb_ok (s : Nat) (h : Nat → Nat) : ∀ j k a, a ≤ mxb s h j k a ∧ (∀ m, k ≤ m → m < k + j → Nat.testBit s m = true → h m ≤ mxb s h j k a) ∧ (mxb s h j k a = a ∨ ∃ m, k ≤ m ∧ m < k + j ∧ Nat.testBit s m = true ∧ h m = mxb s h j k a)
  | 0, k, a => ⟨Nat.le_refl _, fun m h1 h2 => by omega, Or.inl rfl⟩
  | j + 1, k, a => by
    obtain ⟨i1, i2, i3⟩ := mxb_ok s h j (k + 1) (if Nat.testBit s k = true then (if a < h k then h k else a) else a)
    have e : mxb s h (j + 1) k a = mxb s h j (k + 1) (if Nat.testBit s k = true then (if a < h k then h k else a) else a) := rfl
    rw [e]
    by_cases b : Nat.testBit s k = true
    · rw [if_pos b] at i1 i2 i3 ⊢
      by_cases c : a < h k
      · rw [if_pos c] at i1 i2 i3 ⊢
        refine ⟨by omega, fun m h1 h2 h3 => ?_, ?_⟩
        · by_cases e : m = k
          · rw [e]; exact i1
          · exact i2 m (by omega) (by omega) h3
        · rcases i3 with x | ⟨m, x1, x2, x3, x4⟩
          · exact Or.inr ⟨k, by omega, by omega, b, x.symm⟩
          · exact Or.inr ⟨m, by omega, by omega, x3, x4⟩
      · rw [if_neg c] at i1 i2 i3 ⊢
        refine ⟨i1, fun m h1 h2 h3 => ?_, ?_⟩
        · by_cases e : m = k
          · rw [e]; omega
          · exact i2 m (by omega) (by omega) h3
        · rcases i3 with x | ⟨m, x1, x2, x3, x4⟩
          · exact Or.inl x
          · exact Or.inr ⟨m, by omega, by omega, x3, x4⟩
    · rw [if_neg b] at i1 i2 i3 ⊢
      refine ⟨i1, fun m h1 h2 h3 => ?_, ?_⟩
      · by_cases e : m = k
        · rw [e] at h3; exact absurd h3 b
        · exact i2 m (by omega) (by omega) h3
      · rcases i3 with x | ⟨m, x1, x2, x3, x4⟩
        · exact Or.inl x
        · exact Or.inr ⟨m, by omega, by omega, x3, x4⟩
section ORD
variable (g p : Nat → Nat → Nat)
def mob : Nat → Nat → Nat → Nat
  | 0, _, _ => 0
  | n + 1, s, t => mxb s (fun m => g m t + mob n (rmb s m) (t + p m t)) 6 0 0
def pkb : Nat → Nat → Nat → List Nat
  | 0, _, _ => []
  | n + 1, s, t => match lfnd (fun m => Nat.testBit s m && decide (g m t + mob g p n (rmb s m) (t + p m t) = mob g p (n + 1) s t)) 6 0 with
    | some m => m :: pkb n (rmb s m) (t + p m t)
    | none => []
def wob : List Nat → Nat → Nat
  | [], _ => 0
  | m :: r, t => g m t + wob r (t + p m t)
def pmb : Nat → Nat → Nat → List Nat
  | 0, _, _ => []
  | n + 1, s, x => nthb s 6 0 (x / fac n) :: pmb n (rmb s (nthb s 6 0 (x / fac n))) (x % fac n)
/-- the first of the largest -/
def FMx (f : Nat → Nat) (N K : Nat) : Prop := K < N ∧ (∀ x, x < N → f x ≤ f K) ∧ ∀ x, x < K → f x < f K
theorem mob_fnd {n s t : Nat} (hs : s < 64) (hp : pop s = n + 1) : ∃ m, lfnd (fun m => Nat.testBit s m && decide (g m t + mob g p n (rmb s m) (t + p m t) = mob g p (n + 1) s t)) 6 0 = some m := by
  cases h : lfnd (fun m => Nat.testBit s m && decide (g m t + mob g p n (rmb s m) (t + p m t) = mob g p (n + 1) s t)) 6 0 with
  | some m => exact ⟨m, rfl⟩
  | none =>
    exfalso
    have hn := lfnd_no h
    obtain ⟨i1, i2, i3⟩ := mxb_ok s (fun m => g m t + mob g p n (rmb s m) (t + p m t)) 6 0 0
    have e : mob g p (n + 1) s t = mxb s (fun m => g m t + mob g p n (rmb s m) (t + p m t)) 6 0 0 := rfl
    have bad : ∀ m, m < 6 → Nat.testBit s m = true → g m t + mob g p n (rmb s m) (t + p m t) = mob g p (n + 1) s t → False := fun m h1 h2 h3 => by
      have := hn m (Nat.zero_le _) (by omega)
      rw [h2, Bool.true_and, decide_eq_true h3] at this
      cases this
    rcases i3 with x | ⟨m, x1, x2, x3, x4⟩
    · obtain ⟨a1, a2, a3⟩ := nthb_ok s hs 0 (by omega) (by omega)
      have := i2 _ (Nat.zero_le _) (by omega) a2
      exact bad _ a1 a2 (by rw [e]; omega)
    · exact bad m (by omega) x3 (by rw [e]; exact x4)
theorem ord_main : ∀ n s t, s < 64 → pop s = n → ∃ K, FMx (fun x => wob g p (pmb n s x) t) (fac n) K ∧ wob g p (pmb n s K) t = mob g p n s t ∧ pmb n s K = pkb g p n s t
  | 0, s, t, hs, hp => ⟨0, ⟨Nat.one_pos, fun x _ => Nat.le_refl _, fun x h => absurd h (Nat.not_lt_zero x)⟩, rfl, rfl⟩
  | n + 1, s, t, hs, hp => by
    have p7 := pop_7 s hs
    have fp := fac_pos n
    have ih := fun i (hi : i < n + 1) => ord_main n (rmb s (nthb s 6 0 i)) (t + p (nthb s 6 0 i) t) (by
      obtain ⟨a1, a2, a3⟩ := nthb_ok s hs i (by omega) (by omega)
      have := (rmb_ok s hs _ a1 a2).2.1
      omega) (by
      obtain ⟨a1, a2, a3⟩ := nthb_ok s hs i (by omega) (by omega)
      have := (rmb_ok s hs _ a1 a2).1
      omega)
    obtain ⟨i1, i2, i3⟩ := mxb_ok s (fun m => g m t + mob g p n (rmb s m) (t + p m t)) 6 0 0
    have e : mob g p (n + 1) s t = mxb s (fun m => g m t + mob g p n (rmb s m) (t + p m t)) 6 0 0 := rfl
    rw [← e] at i2
    obtain ⟨ms, hm⟩ := mob_fnd g p (t := t) hs hp
    obtain ⟨_, m6, mP⟩ := lfnd_lt hm
    have mmin := lfnd_min hm
    have mb : Nat.testBit s ms = true := (Bool.and_eq_true _ _ ▸ mP : _ ∧ _).1
    have mv : g ms t + mob g p n (rmb s ms) (t + p ms t) = mob g p (n + 1) s t := of_decide_eq_true (Bool.and_eq_true _ _ ▸ mP : _ ∧ _).2
    obtain ⟨r1, r2, r3, r4⟩ := rmb_ok s hs ms (by omega) mb
    -- the index of the first
    generalize hi : rkz (fun q => Nat.testBit s q) ms = i at r3 r4
    obtain ⟨K, ⟨k1, k2, k3⟩, k4, k5⟩ := ih i (by omega)
    rw [r4] at k2 k3 k4 k5
    have dv : (i * fac n + K) / fac n = i := by
      rw [Nat.mul_comm, Nat.mul_add_div fp, Nat.div_eq_of_lt k1, Nat.add_zero]
    have md : (i * fac n + K) % fac n = K := by
      rw [Nat.mul_comm, Nat.mul_add_mod, Nat.mod_eq_of_lt k1]
    have pmK : pmb (n + 1) s (i * fac n + K) = ms :: pmb n (rmb s ms) K := by
      show nthb s 6 0 ((i * fac n + K) / fac n) :: pmb n (rmb s (nthb s 6 0 ((i * fac n + K) / fac n))) ((i * fac n + K) % fac n) = _
      rw [dv, md, r4]
    have wK : wob g p (pmb (n + 1) s (i * fac n + K)) t = mob g p (n + 1) s t := by
      rw [pmK]
      show g ms t + wob g p (pmb n (rmb s ms) K) (t + p ms t) = _
      rw [k4]
      exact mv
    have val : ∀ x, x < fac (n + 1) → x / fac n < n + 1 := fun x hx => (Nat.div_lt_iff_lt_mul fp).mpr hx
    have wx : ∀ x, wob g p (pmb (n + 1) s x) t = g (nthb s 6 0 (x / fac n)) t + wob g p (pmb n (rmb s (nthb s 6 0 (x / fac n))) (x % fac n)) (t + p (nthb s 6 0 (x / fac n)) t) := fun x => rfl
    have le1 : ∀ x, x < fac (n + 1) → wob g p (pmb (n + 1) s x) t ≤ g (nthb s 6 0 (x / fac n)) t + mob g p n (rmb s (nthb s 6 0 (x / fac n))) (t + p (nthb s 6 0 (x / fac n)) t) := fun x hx => by
      obtain ⟨K', ⟨_, q2, _⟩, q4, _⟩ := ih (x / fac n) (val x hx)
      have := q2 (x % fac n) (Nat.mod_lt _ fp)
      dsimp only at this
      rw [q4] at this
      rw [wx]
      omega
    refine ⟨i * fac n + K, ⟨?_, fun x hx => ?_, fun x hx => ?_⟩, wK, ?_⟩
    · show i * fac n + K < (n + 1) * fac n
      have : (i + 1) * fac n ≤ (n + 1) * fac n := Nat.mul_le_mul_right _ (by omega)
      rw [Nat.succ_mul] at this
      omega
    · dsimp only
      rw [wK]
      obtain ⟨a1, a2, a3⟩ := nthb_ok s hs (x / fac n) (by have := val x hx; omega) (by have := val x hx; omega)
      exact Nat.le_trans (le1 x hx) (i2 _ (Nat.zero_le _) (by omega) a2)
    · dsimp only
      rw [wK]
      have hx2 : x < fac (n + 1) := by
        show x < (n + 1) * fac n
        have : (i + 1) * fac n ≤ (n + 1) * fac n := Nat.mul_le_mul_right _ (by omega)
        rw [Nat.succ_mul] at this
        omega
      have hv := val x hx2
      by_cases c : x / fac n = i
      · have hr : x % fac n < K := by
          have := Nat.div_add_mod x (fac n)
          rw [c, Nat.mul_comm] at this
          omega
        have := k3 (x % fac n) hr
        dsimp only at this
        rw [wx, c, r4, ← mv]
        rw [k4] at this
        omega
      · have hlt : x / fac n < i := by
          have h1 : x / fac n ≤ i := by
            have : x / fac n < i + 1 := (Nat.div_lt_iff_lt_mul fp).mpr (by rw [Nat.succ_mul]; omega)
            omega
          omega
        obtain ⟨a1, a2, a3⟩ := nthb_ok s hs (x / fac n) (by omega) (by omega)
        have hmm : nthb s 6 0 (x / fac n) < ms := by
          refine Nat.lt_of_not_le (fun q => ?_)
          have := rkz_mono (fun q => Nat.testBit s q) _ _ q
          rw [hi, a3] at this
          omega
        have hne := mmin _ (Nat.zero_le _) hmm
        rw [a2, Bool.true_and] at hne
        have hne' := of_decide_eq_false hne
        have := i2 _ (Nat.zero_le _) (by omega) a2
        have := le1 x hx2
        omega
    · rw [pmK]
      have : pkb g p (n + 1) s t = ms :: pkb g p n (rmb s ms) (t + p ms t) := by
        show (match lfnd (fun m => Nat.testBit s m && decide (g m t + mob g p n (rmb s m) (t + p m t) = mob g p (n + 1) s t)) 6 0 with
          | some m => m :: pkb g p n (rmb s m) (t + p m t)
          | none => []) = _
        rw [hm]
      rw [this, k5]
end ORD
