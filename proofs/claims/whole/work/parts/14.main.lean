theorem zw_ne {l len : Nat} {op : ZOp} (h : (zw l len op).1 ≠ 0) : len = l ∧ zw l len op = op := by
  unfold zw at h ⊢
  cases hb : Nat.beq len l with
  | false => rw [hb] at h; exact absurd rfl h
  | true => exact ⟨nbt hb, rfl⟩
theorem zwt_ne {pc : Nat} {off : Int} {op : ZOp} (h : (zwt pc off op).1 ≠ 0) : 0 ≤ (pc : Int) + off ∧ zwt pc off op = op := by
  unfold zwt at h ⊢
  split
  · rename_i h1; exact ⟨h1, rfl⟩
  · rename_i h1; rw [if_neg h1] at h; exact absurd rfl h
theorem zlk_in {α : Type} : ∀ {l : List (Nat × Nat × α)} {oc idx : Nat} {x : α}, zlk l oc idx = some x → (oc, idx, x) ∈ l
  | [], _, _, _, h => by cases h
  | (o, i, y) :: r, oc, idx, x, h => by
    unfold zlk at h
    cases hb : Nat.beq o oc && Nat.beq i idx with
    | false => rw [hb] at h; exact List.mem_cons_of_mem _ (zlk_in h)
    | true =>
      rw [hb] at h
      cases h
      rw [Bool.and_eq_true] at hb
      rw [nbt hb.1, nbt hb.2]
      exact List.mem_cons_self
theorem zx_lmy : ∀ q ∈ zLm, q.2.2.1 < 243 ∧ (q.2.2.2 = 0 ∨ q.2.2.2 = 1) := by decide +kernel
section ZMN
variable {p : Program} {l : Launch} {e : Env} {R : Room} {s : State} {mi : MethodId} {args : Array Value} {below : List Frame} {meth : Method} {c : Code} {E : ZE} {D : va_G} {cT : Nat → ClassId} {Q : State → Prop} {t0 s0 : Nat} {th : ZT} {L : Nat} {xs : Nat → Int32} {m : Nat} {d n0 : Nat}
variable {Mf : ZM} {v : Option ZV}
/-- what a step's end needs: the memory only grows, and the goal holds -/
def ZR2 (p : Program) (l : Launch) (e : Env) (R : Room) (s : State) (mi : MethodId) (args : Array Value) (below : List Frame) (meth : Method) (c : Code) (E : ZE) (D : va_G) (cT : Nat → ClassId) (L : Nat) (xs : Nat → Int32) (Q : State → Prop) (t0 s0 : Nat) (th : ZT) (Mf : ZM) (M : ZM) (pc : Nat) (ls st : List ZV) (F : List Nat) : Prop :=
  (ztop M ≤ ztop Mf ∧ zsl M ≤ zsl Mf) ∧ ZG p l e R s mi args below meth c E D cT L xs Q t0 s0 th M pc ls st F
theorem zstep_frame (C : ZC p s mi args meth c E D cT L xs m) (hm : m < 244) (S : ZSound l E D cT L xs d) (hR : ZRm R d (ztop Mf) (zsl Mf) t0 s0)
    (HR : ∀ (M : ZM) (pc : Nat) (ls st : List ZV) (F : List Nat), decode (zby m) pc = .ok (zri (zrk m), 1) → zsRet zFin (zrk m) (match zrk m with | 6 => zcn m | _ => 0) M st F = some (Mf, v) → ZR2 p l e R s mi args below meth c E D cT L xs Q t0 s0 th Mf M pc ls st F)
    {M : ZM} {pc : Nat} {ls st : List ZV} {F : List Nat} (htop : 1 ≤ ztop M) (hlen : M.2.2.2.2.2 = L) (hls : ls.length = znl m) (k : ZK)
    (hk : ∀ (M' : ZM) (pc' : Nat) (ls' st' : List ZV) (F' : List Nat), 1 ≤ ztop M' → M'.2.2.2.2.2 = L → ls'.length = znl m → k M' pc' ls' st' F' = some (Mf, v) → ZR2 p l e R s mi args below meth c E D cT L xs Q t0 s0 th Mf M' pc' ls' st' F')
    (h : zstep zS zN zFin (zrun d n0) th.1 (zcode m pc) M ls st F k = some (Mf, v)) : ZR2 p l e R s mi args below meth c E D cT L xs Q t0 s0 th Mf M pc ls st F := by
  rcases zck_all m hm pc with h0 | ⟨i, len, hd, hop⟩
  · exfalso
    revert h h0
    generalize zcode m pc = op
    obtain ⟨o, q⟩ := op
    intro h h0
    have : o = 0 := h0
    subst this
    cases h
  by_cases h00 : (zcode m pc).1 = 0
  · exfalso
    revert h h00
    generalize zcode m pc = op
    obtain ⟨o, q⟩ := op
    intro h h0
    have : o = 0 := h0
    subst this
    cases h
  rw [hop] at h h00
  clear hop
  cases i <;> simp only [zcomp] at h h00
  all_goals try (exact absurd rfl h00)
  case iconst n =>
    obtain ⟨rfl, e1⟩ := zw_ne h00
    rw [e1] at h
    have h2 := hk _ _ _ _ _ htop hlen hls h
    exact ⟨h2.1, so_iconst C hd h2.2⟩
  all_goals sorry
end ZMN
