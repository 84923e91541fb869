/-! WORDS OF THE CONTRACTS: ends, numbers, loops' pure forms -/
theorem ro_rt {d m : Nat} {as : List ZV} {M M1 : ZM} {v : Option ZV} (h : Ro d m as M (fun M' v' => M' = M1 ∧ v' = v)) : Rt d m as M M1 v := by
  obtain ⟨M', v', h1, rfl, rfl⟩ := h
  exact h1
theorem ro_rv {d m : Nat} {as : List ZV} {M : ZM} {v : Option ZV} {F : ZM → Prop} (h : Ro d m as M (fun M' v' => v' = v ∧ F M')) : ∃ M', Rt d m as M M' v ∧ F M' := by
  obtain ⟨M', v', h1, rfl, h2⟩ := h
  exact ⟨M', h1, h2⟩
theorem zn_nI {n : Nat} (h : n < 2 ^ 31) : zn (nI n) = n := nI_clamp h
theorem in_nI {n N : Nat} (h : n < N) (hN : N < 2 ^ 31) : ¬ (nI n < 0 ∨ N ≤ zn (nI n)) := nI_in h hN
theorem in_n {n N : Nat} (h : n < N) (hN : N < 2 ^ 31) : ¬ (nI n < 0 ∨ N ≤ n) := fun q => q.elim (nI_pos (by omega)) (fun r => by omega)
theorem in_nIe {n N : Nat} (h : n < N) (hN : N < 2 ^ 31) : (nI n < 0 ∨ N ≤ zn (nI n)) = False := eq_false (nI_in h hN)
theorem zrem_nI {a d : Nat} (ha : a < 2 ^ 31) (h0 : 0 < d) (hd : d < 2 ^ 31) : zrem (nI a) (nI d) = nI (a % d) := pk_rem ha h0 hd
theorem nI_eqe {a b : Nat} (ha : a < 2 ^ 31) (hb : b < 2 ^ 31) : (nI a = nI b) = (a = b) := propext (nI_eq ha hb)
theorem nI_lte {a b : Nat} (ha : a < 2 ^ 31) (hb : b < 2 ^ 31) : (nI a < nI b) = (a < b) := propext (nI_ltI ha hb)
theorem nI_m1 {a : Nat} (ha : a < 2 ^ 31) : (nI a = -1) = False := by
  refine eq_false fun h => ?_
  have h2 := congrArg Int32.toInt h
  rw [nI_toInt ha] at h2
  have h3 : (-1 : Int32).toInt = -1 := by decide
  omega
theorem nI_m5 {a : Nat} (ha : a < 2 ^ 31) : (nI a = -5) = False := by
  refine eq_false fun h => ?_
  have h2 := congrArg Int32.toInt h
  rw [nI_toInt ha] at h2
  have h3 : (-5 : Int32).toInt = -5 := by decide
  omega
theorem l_0 : (0 : Int32) = nI 0 := rfl
theorem l_1 : (1 : Int32) = nI 1 := rfl
theorem l_2 : (2 : Int32) = nI 2 := rfl
theorem l_3 : (3 : Int32) = nI 3 := rfl
theorem l_4 : (4 : Int32) = nI 4 := rfl
theorem l_5 : (5 : Int32) = nI 5 := rfl
theorem l_6 : (6 : Int32) = nI 6 := rfl
theorem l_7 : (7 : Int32) = nI 7 := rfl
theorem l_8 : (8 : Int32) = nI 8 := rfl
theorem l_9 : (9 : Int32) = nI 9 := rfl
theorem l_10 : (10 : Int32) = nI 10 := rfl
theorem l_12 : (12 : Int32) = nI 12 := rfl
theorem l_60 : (60 : Int32) = nI 60 := rfl
theorem l_100 : (100 : Int32) = nI 100 := rfl
theorem l_1000 : (1000 : Int32) = nI 1000 := rfl
/-- the first of j numbers from k on -/
def lfnd (P : Nat → Bool) : Nat → Nat → Option Nat
  | 0, _ => none
  | j + 1, k => if P k = true then some k else lfnd P j (k + 1)
def lsum (f : Nat → Nat) : Nat → Nat → Nat
  | 0, _ => 0
  | j + 1, k => f k + lsum f j (k + 1)
def zoi (d : Int32) : Option Nat → Int32
  | none => d
  | some a => nI a
def zb (b : Bool) : Int32 := if b = true then 1 else 0
theorem lfnd_lt {P : Nat → Bool} : ∀ {j k a : Nat}, lfnd P j k = some a → k ≤ a ∧ a < k + j ∧ P a = true
  | 0, _, _, h => by cases h
  | j + 1, k, a, h => by
    unfold lfnd at h
    split at h
    · rename_i hp
      cases h
      exact ⟨Nat.le_refl _, by omega, hp⟩
    · have := lfnd_lt h
      exact ⟨by omega, by omega, this.2.2⟩
theorem lsum_le {f : Nat → Nat} {c : Nat} (h : ∀ k, f k ≤ c) : ∀ j k, lsum f j k ≤ c * j
  | 0, _ => by unfold lsum; omega
  | j + 1, k => by
    have h1 := lsum_le h j (k + 1)
    have h2 := h k
    unfold lsum
    rw [Nat.mul_succ]
    omega
theorem zu_ne {α : Type} {f : Nat → Nat → α} {a b k : Nat} {v : α} (h : b ≠ a) : zu f a k v b = f b := by
  funext j
  unfold zu
  rw [nbf h]
  rfl
theorem zu_kn {α : Type} {f : Nat → Nat → α} {a j k : Nat} {v : α} (h : j ≠ k) : zu f a k v a j = f a j := by
  unfold zu
  rw [nbf h]
  cases Nat.beq a a <;> rfl
theorem nbq (a : Nat) : Nat.beq a a = true := Nat.beq_refl a
theorem zu_kk {α : Type} {f : Nat → Nat → α} {a k : Nat} {v : α} : zu f a k v a k = v := by
  unfold zu
  rw [nbq, nbq]
  rfl
theorem zcp_ne {α : Type} {f : Nat → Nat → α} {a sp b dp n c : Nat} (h : c ≠ b) : zcp f a sp b dp n c = f c := by
  funext j
  unfold zcp
  rw [nbf h]
  rfl
theorem zcp_all {α : Type} {f : Nat → Nat → α} {a b n k : Nat} (h : k < n) : zcp f a 0 b 0 n b k = f a k := by
  unfold zcp
  rw [nbq]
  have h1 : Nat.ble 0 k = true := Nat.ble_eq_true_of_le (Nat.zero_le _) 
  have h2 : Nat.blt k (0 + n) = true := Nat.ble_eq_true_of_le (by omega)
  rw [h1, h2]
  show f a (0 + (k - 0)) = _
  rw [Nat.zero_add, Nat.sub_zero]
