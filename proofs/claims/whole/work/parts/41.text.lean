/-! The text, as both sides read it: SeatOn's side -/
/-- the sign at a place; behind the end none -/
def chT (T : Nat → Nat) (n p : Nat) : Nat := if p < n then T p else 999
def TXx (M : ZM) (T : Nat → Nat) (n : Nat) : Prop := n ≤ 100 ∧ M.1 48 0 = nI n ∧ ∀ k, k < n → M.1 49 k = nI (T k) ∧ T k < 128
def TXm (M : ZM) (T : Nat → Nat) (n : Nat) : Prop := n ≤ 100 ∧ M.1 64 15 = nI n ∧ ∀ k, k < n → M.1 74 k = nI (T k) ∧ T k < 128
/-- the place alone is another -/
def mvX (M : ZM) (p : Nat) : ZM := (zu M.1 48 2 (nI p), M.2)
section TX
variable {d n p : Nat} {M : ZM} {T : Nat → Nat}
theorem TXx_mv (h : TXx M T n) : TXx (mvX M p) T n := ⟨h.1, h.2.1, h.2.2⟩
theorem mvX_p : (mvX M p).1 48 2 = nI p := zu_kk
theorem mvX_mv {q : Nat} : mvX (mvX M p) q = mvX M q := by
  unfold mvX
  refine Prod.ext ?_ rfl
  funext a k
  show zu (zu M.1 48 2 (nI p)) 48 2 (nI q) a k = zu M.1 48 2 (nI q) a k
  by_cases ha : a = 48
  · by_cases hk : k = 2
    · rw [ha, hk, zu_kk, zu_kk]
    · rw [ha, zu_kn hk, zu_kn hk, zu_kn hk]
  · rw [congrFun (zu_ne ha) k, congrFun (zu_ne ha) k, congrFun (zu_ne ha) k]
theorem mvX_self (h : M.1 48 2 = nI p) : mvX M p = M := by
  unfold mvX
  refine Prod.ext ?_ rfl
  funext a k
  show zu M.1 48 2 (nI p) a k = M.1 a k
  by_cases ha : a = 48
  · by_cases hk : k = 2
    · rw [ha, hk, zu_kk, h]
    · rw [ha, zu_kn hk]
  · rw [congrFun (zu_ne ha) k]
/-- a sign is passed, or not -/
theorem c4_sign (h : TXx M T n) (hp : M.1 48 2 = nI p) (pn : p ≤ n) {x : Nat} (hx : x < 128) : (chT T n p = x → p < n ∧ Rt (d + 1) 30 [zR 4 48, zI (nI x)] M (mvX M (p + 1)) (some (zI 1))) ∧ (chT T n p ≠ x → Rt (d + 1) 30 [zR 4 48, zI (nI x)] M M (some (zI 0))) := by
  obtain ⟨h1, h2, h3⟩ := h
  unfold chT
  by_cases c : p < n
  · obtain ⟨t1, t2⟩ := h3 p c
    rw [if_pos c]
    refine ⟨fun e => ⟨c, ro_rt (g_X4_passSign ?_)⟩, fun e => ro_rt (g_X4_passSign ?_)⟩
    · rw [hp, h2, zn_nI (by omega), t1, nI_eqe (by omega) (by omega), nI_1]
      exact ⟨fun _ => ⟨in_n (by omega) (by omega), fun _ => ⟨rfl, rfl⟩, fun q => absurd e q⟩, fun q => absurd (nI_lt c (by omega)) q⟩
    · rw [hp, h2, zn_nI (by omega), t1, nI_eqe (by omega) (by omega)]
      exact ⟨fun _ => ⟨in_n (by omega) (by omega), fun q => absurd q e, fun _ => ⟨rfl, rfl⟩⟩, fun q => absurd (nI_lt c (by omega)) q⟩
  · rw [if_neg c]
    refine ⟨fun e => by omega, fun e => ro_rt (g_X4_passSign ?_)⟩
    rw [hp, h2]
    exact ⟨fun q => absurd ((nI_ltI (by omega) (by omega)).mp q) c, fun _ => ⟨rfl, rfl⟩⟩
/-- how many signs of a word stand there -/
def wdT (T : Nat → Nat) (n : Nat) : List Nat → Nat → Nat
  | [], _ => 0
  | x :: r, p => if chT T n p = x then wdT T n r (p + 1) + 1 else 0
theorem wdT_le : ∀ (l : List Nat) (p : Nat), p ≤ n → wdT T n l p ≤ l.length ∧ p + wdT T n l p ≤ n := by
  intro l
  induction l with
  | nil => intro p hp; exact ⟨Nat.le_refl _, hp⟩
  | cons x r ih =>
    intro p hp
    unfold wdT
    by_cases c : chT T n p = x ∧ p < n
    · rw [if_pos c.1]
      have := ih (p + 1) c.2
      rw [List.length_cons]
      omega
    · by_cases e : chT T n p = x
      · rw [if_pos e]
        have pn : ¬ p < n := fun q => c ⟨e, q⟩
        have := ih (p + 1)
        sorry
      · rw [if_neg e, List.length_cons]
        omega
end TX
