/-! RUNS OF THE PURE MACHINE, for all fuels that are large enough -/
def Ev (d : Nat) (f : ZH → Nat → ZRes) (M' : ZM) (v : Option ZV) : Prop := ∃ N, ∀ n0 n, N ≤ n0 → N ≤ n → f (zrun d n0) n = some (M', v)
def Rf (d : Nat) (code : Nat → ZOp) (th : Nat) (M : ZM) (pc : Nat) (ls st : List ZV) (M' : ZM) (v : Option ZV) : Prop := Ev d (fun H n => zrunF H code th n M pc ls st []) M' v
def Rt (d : Nat) (m : Nat) (as : List ZV) (M M' : ZM) (v : Option ZV) : Prop := ∃ N, ∀ n, N ≤ n → zrun d n m as M = some (M', v)
def zbind (r : ZRes) (f : ZM → Option ZV → ZRes) : ZRes := match r with
  | some (M', v) => f M' v
  | none => none
theorem zrunF_s (H : ZH) (code : Nat → ZOp) (th n : Nat) (M : ZM) (pc : Nat) (ls st : List ZV) (F : List Nat) : zrunF H code th (n + 1) M pc ls st F = zstep zS zN zFin H th (code pc) M ls st F (fun M pc ls st F => zrunF H code th n M pc ls st F) := rfl
section EV
variable {d : Nat} {f g : ZH → Nat → ZRes} {M' : ZM} {v : Option ZV} {P Q : Prop}
theorem ev_shift (k : Nat) (h : ∀ H n, f H (n + k) = g H n) (hg : Ev d g M' v) : Ev d f M' v := by
  obtain ⟨N, hN⟩ := hg
  refine ⟨N + k, fun n0 n h0 h1 => ?_⟩
  obtain ⟨j, rfl⟩ : ∃ j, n = j + k := ⟨n - k, by omega⟩
  rw [h]
  exact hN n0 j (by omega) (by omega)
theorem ev_leaf {code : Nat → ZOp} {th : Nat} {M : ZM} {pc : Nat} {ls st : List ZV} (s : Nat) (h : Rf d code th M pc ls st M' v) : Ev d (fun H n => zrunF H code th (n + s) M pc ls st []) M' v := by
  obtain ⟨N, hN⟩ := h
  exact ⟨N, fun n0 n h0 h1 => hN n0 (n + s) h0 (by omega)⟩
theorem rf_shift {code : Nat → ZOp} {th : Nat} {M : ZM} {pc : Nat} {ls st : List ZV} (k : Nat) (h : ∀ H n, zrunF H code th (n + k) M pc ls st [] = g H n) (hg : Ev d g M' v) : Rf d code th M pc ls st M' v := ev_shift k h hg
theorem ev_if {c : Prop} (dc : Decidable c) (h : (c → P) ∧ (¬ c → Q)) (p : P → Ev d f M' v) (q : Q → Ev d g M' v) : Ev d (fun H n => @ite _ c dc (f H n) (g H n)) M' v := by
  by_cases hc : c
  · obtain ⟨N, hN⟩ := p (h.1 hc)
    exact ⟨N, fun n0 n h0 h1 => by show @ite _ c dc _ _ = _; rw [if_pos hc]; exact hN n0 n h0 h1⟩
  · obtain ⟨N, hN⟩ := q (h.2 hc)
    exact ⟨N, fun n0 n h0 h1 => by show @ite _ c dc _ _ = _; rw [if_neg hc]; exact hN n0 n h0 h1⟩
/-- what would be refused isn't so -/
theorem ev_ck {c : Prop} (dc : Decidable c) (h : ¬ c ∧ P) (p : P → Ev d f M' v) : Ev d (fun H n => @ite _ c dc none (f H n)) M' v := by
  obtain ⟨N, hN⟩ := p h.2
  exact ⟨N, fun n0 n h0 h1 => by show @ite _ c dc _ _ = _; rw [if_neg h.1]; exact hN n0 n h0 h1⟩
theorem ev_ok {c : Prop} (dc : Decidable c) (h : c ∧ P) (p : P → Ev d f M' v) : Ev d (fun H n => @ite _ c dc (f H n) none) M' v := by
  obtain ⟨N, hN⟩ := p h.2
  exact ⟨N, fun n0 n h0 h1 => by show @ite _ c dc _ _ = _; rw [if_pos h.1]; exact hN n0 n h0 h1⟩
theorem ev_nz {a : Nat} (h : a ≠ 0 ∧ P) (p : P → Ev d f M' v) : Ev d (fun H n => bif Nat.beq a 0 then none else f H n) M' v := by
  obtain ⟨N, hN⟩ := p h.2
  exact ⟨N, fun n0 n h0 h1 => by rw [nbf h.1]; exact hN n0 n h0 h1⟩
theorem ev_nz2 {a : Nat} (h : a ≠ 0 ∧ P) (p : P → Ev d f M' v) : Ev d (fun H n => bif !(Nat.beq a 0) then f H n else none) M' v := by
  obtain ⟨N, hN⟩ := p h.2
  exact ⟨N, fun n0 n h0 h1 => by rw [nbf h.1]; exact hN n0 n h0 h1⟩
theorem ev_null {a : Nat} (h : (a = 0 → P) ∧ (a ≠ 0 → Q)) (p : P → Ev d f M' v) (q : Q → Ev d g M' v) : Ev d (fun H n => bif Nat.beq a 0 then f H n else g H n) M' v := by
  by_cases hc : a = 0
  · obtain ⟨N, hN⟩ := p (h.1 hc)
    exact ⟨N, fun n0 n h0 h1 => by rw [hc]; exact hN n0 n h0 h1⟩
  · obtain ⟨N, hN⟩ := q (h.2 hc)
    exact ⟨N, fun n0 n h0 h1 => by rw [nbf hc]; exact hN n0 n h0 h1⟩
theorem ev_call {m : Nat} {as : List ZV} {M M1 : ZM} {v1 : Option ZV} {g : ZH → Nat → ZM → Option ZV → ZRes} (h : Rt d m as M M1 v1) (hg : Ev d (fun H n => g H n M1 v1) M' v) : Ev d (fun H n => zbind (H m as M) (g H n)) M' v := by
  obtain ⟨N1, h1⟩ := h
  obtain ⟨N2, h2⟩ := hg
  refine ⟨N1 + N2, fun n0 n q0 q1 => ?_⟩
  show zbind (zrun d n0 m as M) (g (zrun d n0) n) = _
  rw [h1 n0 (by omega)]
  exact h2 n0 n (by omega) (by omega)
theorem ev_ret {M : ZM} {w : Option ZV} (h : M' = M ∧ v = w) : Ev d (fun _ _ => some (M, w)) M' v := ⟨0, fun _ _ _ _ => by rw [h.1, h.2]⟩
theorem rt_of {m : Nat} {as : List ZV} {M : ZM} (hl : Nat.ble (zloc as).length (znl m) = true) (h : Rf d (zcode m) (zthis as) M 0 (zini (znl m) as) [] M' v) : Rt (d + 1) m as M M' v := by
  obtain ⟨N, hN⟩ := h
  refine ⟨N, fun n h1 => ?_⟩
  unfold zrun
  rw [hl]
  exact hN n n h1 h1
end EV
