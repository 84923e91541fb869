/-! RUNS THAT COME TO AN END WITH SOMETHING: the rules of 17 with an end that is told by a property -/
def Eo (d : Nat) (f : ZH → Nat → ZRes) (R : ZM → Option ZV → Prop) : Prop := ∃ M' v, Ev d f M' v ∧ R M' v
def Ror (d : Nat) (code : Nat → ZOp) (th : Nat) (M : ZM) (pc : Nat) (ls st : List ZV) (R : ZM → Option ZV → Prop) : Prop := Eo d (fun H n => zrunF H code th n M pc ls st []) R
def Ro (d : Nat) (m : Nat) (as : List ZV) (M : ZM) (R : ZM → Option ZV → Prop) : Prop := ∃ M' v, Rt d m as M M' v ∧ R M' v
section EO
variable {d : Nat} {f g : ZH → Nat → ZRes} {R : ZM → Option ZV → Prop} {P Q : Prop}
theorem eo_leaf {code : Nat → ZOp} {th : Nat} {M : ZM} {pc : Nat} {ls st : List ZV} (s : Nat) (h : Ror d code th M pc ls st R) : Eo d (fun H n => zrunF H code th (n + s) M pc ls st []) R := by
  obtain ⟨M', v, h1, h2⟩ := h
  exact ⟨M', v, ev_leaf s h1, h2⟩
theorem ro_shift {code : Nat → ZOp} {th : Nat} {M : ZM} {pc : Nat} {ls st : List ZV} (k : Nat) (h : ∀ H n, zrunF H code th (n + k) M pc ls st [] = g H n) (hg : Eo d g R) : Ror d code th M pc ls st R := by
  obtain ⟨M', v, h1, h2⟩ := hg
  exact ⟨M', v, ev_shift k h h1, h2⟩
theorem eo_shift (k : Nat) (h : ∀ H n, f H (n + k) = g H n) (hg : Eo d g R) : Eo d f R := by
  obtain ⟨M', v, h1, h2⟩ := hg
  exact ⟨M', v, ev_shift k h h1, h2⟩
theorem eo_if {c : Prop} (dc : Decidable c) (h : (c → P) ∧ (¬ c → Q)) (p : P → Eo d f R) (q : Q → Eo d g R) : Eo d (fun H n => @ite _ c dc (f H n) (g H n)) R := by
  by_cases hc : c
  · obtain ⟨M', v, h1, h2⟩ := p (h.1 hc)
    exact ⟨M', v, ev_if (P := True) (Q := False) dc ⟨fun _ => trivial, fun x => x hc⟩ (fun _ => h1) (fun x => x.elim), h2⟩
  · obtain ⟨M', v, h1, h2⟩ := q (h.2 hc)
    exact ⟨M', v, ev_if (P := False) (Q := True) dc ⟨fun x => hc x, fun _ => trivial⟩ (fun x => x.elim) (fun _ => h1), h2⟩
theorem eo_ck {c : Prop} (dc : Decidable c) (h : ¬ c ∧ P) (p : P → Eo d f R) : Eo d (fun H n => @ite _ c dc none (f H n)) R := by
  obtain ⟨M', v, h1, h2⟩ := p h.2
  exact ⟨M', v, ev_ck dc h (fun _ => h1), h2⟩
theorem eo_ok {c : Prop} (dc : Decidable c) (h : c ∧ P) (p : P → Eo d f R) : Eo d (fun H n => @ite _ c dc (f H n) none) R := by
  obtain ⟨M', v, h1, h2⟩ := p h.2
  exact ⟨M', v, ev_ok dc h (fun _ => h1), h2⟩
theorem eo_nz {a : Nat} (h : a ≠ 0 ∧ P) (p : P → Eo d f R) : Eo d (fun H n => bif Nat.beq a 0 then none else f H n) R := by
  obtain ⟨M', v, h1, h2⟩ := p h.2
  exact ⟨M', v, ev_nz h (fun _ => h1), h2⟩
theorem eo_nz2 {a : Nat} (h : a ≠ 0 ∧ P) (p : P → Eo d f R) : Eo d (fun H n => bif !(Nat.beq a 0) then f H n else none) R := by
  obtain ⟨M', v, h1, h2⟩ := p h.2
  exact ⟨M', v, ev_nz2 h (fun _ => h1), h2⟩
theorem eo_null {a : Nat} (h : (a = 0 → P) ∧ (a ≠ 0 → Q)) (p : P → Eo d f R) (q : Q → Eo d g R) : Eo d (fun H n => bif Nat.beq a 0 then f H n else g H n) R := by
  by_cases hc : a = 0
  · obtain ⟨M', v, h1, h2⟩ := p (h.1 hc)
    exact ⟨M', v, ev_null (P := True) (Q := False) ⟨fun _ => trivial, fun x => x hc⟩ (fun _ => h1) (fun x => x.elim), h2⟩
  · obtain ⟨M', v, h1, h2⟩ := q (h.2 hc)
    exact ⟨M', v, ev_null (P := False) (Q := True) ⟨fun x => hc x, fun _ => trivial⟩ (fun x => x.elim) (fun _ => h1), h2⟩
theorem eo_call {m : Nat} {as : List ZV} {M M1 : ZM} {v1 : Option ZV} {g : ZH → Nat → ZM → Option ZV → ZRes} (h : Rt d m as M M1 v1) (hg : Eo d (fun H n => g H n M1 v1) R) : Eo d (fun H n => zbind (H m as M) (g H n)) R := by
  obtain ⟨M', v, h1, h2⟩ := hg
  exact ⟨M', v, ev_call h h1, h2⟩
theorem eo_ret {M : ZM} {w : Option ZV} (h : R M w) : Eo d (fun _ _ => some (M, w)) R := ⟨M, w, ev_ret ⟨rfl, rfl⟩, h⟩
theorem ro_of {m : Nat} {as : List ZV} {M : ZM} (hl : Nat.ble (zloc as).length (znl m) = true) (h : Ror d (zcode m) (zthis as) M 0 (zini (znl m) as) [] R) : Ro (d + 1) m as M R := by
  obtain ⟨M', v, h1, h2⟩ := h
  exact ⟨M', v, rt_of hl h1, h2⟩
end EO
