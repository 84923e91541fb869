def ZMono (d : Nat) : Prop := ∀ (n m : Nat) (as : List ZV) (M M' : ZM) (v : Option ZV), zrun d n m as M = some (M', v) → ztop M ≤ ztop M' ∧ zsl M ≤ zsl M'
section ZMN
variable {p : Program} {l : Launch} {e : Env} {R : Room} {s : State} {mi : MethodId} {args : Array Value} {below : List Frame} {meth : Method} {c : Code} {E : ZE} {D : va_G} {cT : Nat → ClassId} {Q : State → Prop} {t0 s0 : Nat} {th : ZT} {L : Nat} {xs : Nat → Int32} {m : Nat} {d n0 : Nat}
variable {Mf : ZM} {v : Option ZV}
/-- what a step's end needs: the memory only grows, and the goal holds -/
def ZR2 (p : Program) (l : Launch) (e : Env) (R : Room) (s : State) (mi : MethodId) (args : Array Value) (below : List Frame) (meth : Method) (c : Code) (E : ZE) (D : va_G) (cT : Nat → ClassId) (L : Nat) (xs : Nat → Int32) (Q : State → Prop) (t0 s0 : Nat) (th : ZT) (Mf : ZM) (M : ZM) (pc : Nat) (ls st : List ZV) (F : List Nat) : Prop :=
  (ztop M ≤ ztop Mf ∧ zsl M ≤ zsl Mf) ∧ ZG p l e R s mi args below meth c E D cT L xs Q t0 s0 th M pc ls st F
theorem zstep_frame (C : ZC p s mi args meth c E D cT L xs m) (hm : m < 244) (S : ZSound l E D cT L xs d) (Mo : ZMono d) (hR : ZRm R d (ztop Mf) (zsl Mf) t0 s0)
    (HR : ∀ (M : ZM) (pc : Nat) (ls st : List ZV) (F : List Nat), decode (zby m) pc = .ok (zri (zrk m), 1) → zsRet zFin (zrk m) (match zrk m with | 6 => zcn m | _ => 0) M st F = some (Mf, v) → ZR2 p l e R s mi args below meth c E D cT L xs Q t0 s0 th Mf M pc ls st F)
    {M : ZM} {pc : Nat} {ls st : List ZV} {F : List Nat} (hls : ls.length = znl m) (k : ZK)
    (hk : ∀ (M' : ZM) (pc' : Nat) (ls' st' : List ZV) (F' : List Nat), ls'.length = znl m → k M' pc' ls' st' F' = some (Mf, v) → ZR2 p l e R s mi args below meth c E D cT L xs Q t0 s0 th Mf M' pc' ls' st' F')
    (h : zstep zS zN zFin (zrun d n0) th.1 (zcode m pc) M ls st F k = some (Mf, v)) : ZR2 p l e R s mi args below meth c E D cT L xs Q t0 s0 th Mf M pc ls st F := by
  rcases zck_all m hm pc with h0 | ⟨i, len, hd, hop⟩
  · exfalso
    revert h h0
    generalize zcode m pc = op
    obtain ⟨o, q⟩ := op
    intro h h0
    have : o = 0 := h0
    subst this
    cases h
  by_cases h00 : (zcode m pc).1 = 0
  · exfalso
    revert h h00
    generalize zcode m pc = op
    obtain ⟨o, q⟩ := op
    intro h h0
    have : o = 0 := h0
    subst this
    cases h
  rw [hop] at h h00
  clear hop
  cases i <;> simp only [zcomp] at h h00
  all_goals try (exact absurd rfl h00)
  case iconst n =>
    obtain ⟨rfl, e1⟩ := zw_ne h00
    rw [e1] at h
    have h2 := hk _ _ _ _ _ hls h
    exact ⟨h2.1, so_iconst C hd h2.2⟩
  case bipush n =>
    obtain ⟨rfl, e1⟩ := zw_ne h00
    rw [e1] at h
    have h2 := hk _ _ _ _ _ hls h
    exact ⟨h2.1, so_bipush C hd h2.2⟩
  case sipush n =>
    obtain ⟨rfl, e1⟩ := zw_ne h00
    rw [e1] at h
    have h2 := hk _ _ _ _ _ hls h
    exact ⟨h2.1, so_sipush C hd h2.2⟩
  case lconst n =>
    obtain ⟨rfl, e1⟩ := zw_ne h00
    rw [e1] at h
    have h2 := hk _ _ _ _ _ hls h
    exact ⟨h2.1, so_lconst C hd h2.2⟩
  case aconst_null =>
    obtain ⟨rfl, e1⟩ := zw_ne h00
    rw [e1] at h
    have h2 := hk _ _ _ _ _ hls h
    exact ⟨h2.1, so_null C hd h2.2⟩
  case ldc_w j =>
    cases h1 : zlk zLk (zcn m) j with
    | none => simp only [h1] at h00; exact absurd rfl h00
    | some x =>
      simp only [h1] at h h00
      obtain ⟨rfl, e1⟩ := zw_ne h00
      rw [e1] at h
      have hx := zlk_in h1
      have h2 := hk _ _ _ _ _ hls h
      exact ⟨h2.1, so_ldcw C (zall_in zx_lk0 _ hx) hd h2.2⟩
  case ldc2_w j =>
    cases h1 : zlk zLkl (zcn m) j with
    | none => simp only [h1] at h00; exact absurd rfl h00
    | some x =>
      simp only [h1] at h h00
      obtain ⟨rfl, e1⟩ := zw_ne h00
      rw [e1] at h
      have hx := zlk_in h1
      have h2 := hk _ _ _ _ _ hls h
      exact ⟨h2.1, so_ldc2 C (zall_in zx_lkl0 _ hx) hd h2.2⟩
  case ldc j =>
    cases h1 : zlk zLs (zcn m) j with
    | none => simp only [h1] at h00; exact absurd rfl h00
    | some x =>
      simp only [h1] at h h00
      obtain ⟨rfl, e1⟩ := zw_ne h00
      rw [e1] at h
      have hx := zlk_in h1
      have hs : ∀ q ∈ zLs, q.1 = 4 ∧ ((q.2.1 = 59 ∧ q.2.2 = 1) ∨ (q.2.1 = 65 ∧ q.2.2 = 2) ∨ (q.2.1 = 67 ∧ q.2.2 = 3) ∨ (q.2.1 = 84 ∧ q.2.2 = 4) ∨ (q.2.1 = 90 ∧ q.2.2 = 5)) := by decide
      have h2 := hk _ _ _ _ _ hls h
      exact ⟨h2.1, so_ldcS C (hs _ hx).1 (hs _ hx).2 hd h2.2⟩
  case getstatic j =>
    cases h1 : zlk zLst (zcn m) j with
    | none => simp only [h1] at h00; exact absurd rfl h00
    | some x =>
      simp only [h1] at h h00
      obtain ⟨rfl, e1⟩ := zw_ne h00
      rw [e1] at h
      have hx := zlk_in h1
      have h2 := hk _ _ _ _ _ hls h
      exact ⟨h2.1, so_gets C hx hd h2.2⟩
  case iload j =>
    obtain ⟨rfl, e1⟩ := zw_ne h00
    rw [e1] at h
    change zsLoad j 0 (pc + 2) M ls st F k = some _ at h
    unfold zsLoad at h
    split at h
    · rename_i x hz hl
      have h2 := hk _ _ _ _ _ hls h
      exact ⟨h2.1, so_loadI C hl (Or.inr ⟨hd, rfl⟩) h2.2⟩
    · rename_i hz hl
      cases hz
    · rename_i hz hl
      cases hz
    · cases h
  case iload_n j =>
    obtain ⟨rfl, e1⟩ := zw_ne h00
    rw [e1] at h
    change zsLoad (j : Nat) 0 (pc + 1) M ls st F k = some _ at h
    unfold zsLoad at h
    split at h
    · rename_i x hz hl
      have h2 := hk _ _ _ _ _ hls h
      exact ⟨h2.1, so_loadI C hl (Or.inl ⟨_, rfl, hd, rfl⟩) h2.2⟩
    · rename_i hz hl
      cases hz
    · rename_i hz hl
      cases hz
    · cases h
  case lload j =>
    obtain ⟨rfl, e1⟩ := zw_ne h00
    rw [e1] at h
    change zsLoad j 1 (pc + 2) M ls st F k = some _ at h
    unfold zsLoad at h
    split at h
    · rename_i hz hl
      cases hz
    · rename_i x hz hl
      have h2 := hk _ _ _ _ _ hls h
      exact ⟨h2.1, so_loadL C hl (Or.inr ⟨hd, rfl⟩) h2.2⟩
    · rename_i hz hl
      cases hz
    · cases h
  case lload_n j =>
    obtain ⟨rfl, e1⟩ := zw_ne h00
    rw [e1] at h
    change zsLoad (j : Nat) 1 (pc + 1) M ls st F k = some _ at h
    unfold zsLoad at h
    split at h
    · rename_i hz hl
      cases hz
    · rename_i x hz hl
      have h2 := hk _ _ _ _ _ hls h
      exact ⟨h2.1, so_loadL C hl (Or.inl ⟨_, rfl, hd, rfl⟩) h2.2⟩
    · rename_i hz hl
      cases hz
    · cases h
  case aload j =>
    obtain ⟨rfl, e1⟩ := zw_ne h00
    rw [e1] at h
    change zsLoad j 2 (pc + 2) M ls st F k = some _ at h
    unfold zsLoad at h
    split at h
    · rename_i hz hl
      cases hz
    · rename_i hz hl
      cases hz
    · rename_i t a hz hl
      cases hb : Nat.beq t 99 || Nat.beq t 14 || Nat.beq a 0 with
      | true => rw [hb] at h; cases h
      | false =>
        rw [hb] at h
        simp only [Bool.or_eq_false_iff] at hb
        have h2 := hk _ _ _ _ _ hls h
        exact ⟨h2.1, so_loadA C hl (fun z => by rw [z] at hb; exact absurd hb.1.1 (by decide)) (fun z => by rw [z] at hb; exact absurd hb.1.2 (by decide)) (fun z => by rw [z] at hb; exact absurd hb.2 (by decide)) (Or.inr ⟨hd, rfl⟩) h2.2⟩
    · cases h
  case aload_n j =>
    obtain ⟨rfl, e1⟩ := zw_ne h00
    rw [e1] at h
    change zsLoad (j : Nat) 2 (pc + 1) M ls st F k = some _ at h
    unfold zsLoad at h
    split at h
    · rename_i hz hl
      cases hz
    · rename_i hz hl
      cases hz
    · rename_i t a hz hl
      cases hb : Nat.beq t 99 || Nat.beq t 14 || Nat.beq a 0 with
      | true => rw [hb] at h; cases h
      | false =>
        rw [hb] at h
        simp only [Bool.or_eq_false_iff] at hb
        have h2 := hk _ _ _ _ _ hls h
        exact ⟨h2.1, so_loadA C hl (fun z => by rw [z] at hb; exact absurd hb.1.1 (by decide)) (fun z => by rw [z] at hb; exact absurd hb.1.2 (by decide)) (fun z => by rw [z] at hb; exact absurd hb.2 (by decide)) (Or.inl ⟨_, rfl, hd, rfl⟩) h2.2⟩
    · cases h
  case istore j =>
    obtain ⟨rfl, e1⟩ := zw_ne h00
    rw [e1] at h
    change zsStore j 0 (pc + 2) M ls st F k = some _ at h
    unfold zsStore at h
    split at h
    · rename_i x r hz
      cases hb : Nat.blt j ls.length with
      | false => rw [hb] at h; cases h
      | true =>
        rw [hb] at h
        have hj := Nat.ble_eq.mp hb
        have h2 := hk _ _ _ _ _ (by rw [List.length_set, zclr_len]; exact hls) h
        exact ⟨h2.1, so_storeI C hj (Or.inr ⟨hd, rfl⟩) h2.2⟩
    · rename_i hz
      cases hz
    · rename_i hz
      cases hz
    · cases h
  case istore_n j =>
    obtain ⟨rfl, e1⟩ := zw_ne h00
    rw [e1] at h
    change zsStore (j : Nat) 0 (pc + 1) M ls st F k = some _ at h
    unfold zsStore at h
    split at h
    · rename_i x r hz
      cases hb : Nat.blt (j : Nat) ls.length with
      | false => rw [hb] at h; cases h
      | true =>
        rw [hb] at h
        have hj := Nat.ble_eq.mp hb
        have h2 := hk _ _ _ _ _ (by rw [List.length_set, zclr_len]; exact hls) h
        exact ⟨h2.1, so_storeI C hj (Or.inl ⟨_, rfl, hd, rfl⟩) h2.2⟩
    · rename_i hz
      cases hz
    · rename_i hz
      cases hz
    · cases h
  case lstore j =>
    obtain ⟨rfl, e1⟩ := zw_ne h00
    rw [e1] at h
    change zsStore j 1 (pc + 2) M ls st F k = some _ at h
    unfold zsStore at h
    split at h
    · rename_i hz
      cases hz
    · rename_i x r hz
      cases hb : Nat.blt (j + 1) ls.length with
      | false => rw [hb] at h; cases h
      | true =>
        rw [hb] at h
        have hj := Nat.ble_eq.mp hb
        have h2 := hk _ _ _ _ _ (by rw [List.length_set, List.length_set, zclr_len]; exact hls) h
        exact ⟨h2.1, so_storeL C hj (Or.inr ⟨hd, rfl⟩) h2.2⟩
    · rename_i hz
      cases hz
    · cases h
  case lstore_n j =>
    obtain ⟨rfl, e1⟩ := zw_ne h00
    rw [e1] at h
    change zsStore (j : Nat) 1 (pc + 1) M ls st F k = some _ at h
    unfold zsStore at h
    split at h
    · rename_i hz
      cases hz
    · rename_i x r hz
      cases hb : Nat.blt ((j : Nat) + 1) ls.length with
      | false => rw [hb] at h; cases h
      | true =>
        rw [hb] at h
        have hj := Nat.ble_eq.mp hb
        have h2 := hk _ _ _ _ _ (by rw [List.length_set, List.length_set, zclr_len]; exact hls) h
        exact ⟨h2.1, so_storeL C hj (Or.inl ⟨_, rfl, hd, rfl⟩) h2.2⟩
    · rename_i hz
      cases hz
    · cases h
  case astore j =>
    obtain ⟨rfl, e1⟩ := zw_ne h00
    rw [e1] at h
    change zsStore j 2 (pc + 2) M ls st F k = some _ at h
    unfold zsStore at h
    split at h
    · rename_i hz
      cases hz
    · rename_i hz
      cases hz
    · rename_i t a r hz
      cases hb0 : Nat.beq t 14 || Nat.beq a 0 with
      | true => rw [hb0] at h; cases h
      | false =>
        rw [hb0] at h
        simp only [Bool.or_eq_false_iff] at hb0
        cases hb : Nat.blt j ls.length with
        | false => rw [hb] at h; cases h
        | true =>
          rw [hb] at h
          have hj := Nat.ble_eq.mp hb
          have h2 := hk _ _ _ _ _ (by rw [List.length_set, zclr_len]; exact hls) h
          exact ⟨h2.1, so_storeA C hj (fun z => by rw [z] at hb0; exact absurd hb0.1 (by decide)) (fun z => by rw [z] at hb0; exact absurd hb0.2 (by decide)) (Or.inr ⟨hd, rfl⟩) h2.2⟩
    · cases h
  case astore_n j =>
    obtain ⟨rfl, e1⟩ := zw_ne h00
    rw [e1] at h
    change zsStore (j : Nat) 2 (pc + 1) M ls st F k = some _ at h
    unfold zsStore at h
    split at h
    · rename_i hz
      cases hz
    · rename_i hz
      cases hz
    · rename_i t a r hz
      cases hb0 : Nat.beq t 14 || Nat.beq a 0 with
      | true => rw [hb0] at h; cases h
      | false =>
        rw [hb0] at h
        simp only [Bool.or_eq_false_iff] at hb0
        cases hb : Nat.blt (j : Nat) ls.length with
        | false => rw [hb] at h; cases h
        | true =>
          rw [hb] at h
          have hj := Nat.ble_eq.mp hb
          have h2 := hk _ _ _ _ _ (by rw [List.length_set, zclr_len]; exact hls) h
          exact ⟨h2.1, so_storeA C hj (fun z => by rw [z] at hb0; exact absurd hb0.1 (by decide)) (fun z => by rw [z] at hb0; exact absurd hb0.2 (by decide)) (Or.inl ⟨_, rfl, hd, rfl⟩) h2.2⟩
    · cases h
  case iinc j n =>
    obtain ⟨rfl, e1⟩ := zw_ne h00
    rw [e1] at h
    change zsInc j (pc + 3) (zI (Int32.ofInt n)) M ls st F k = some _ at h
    unfold zsInc at h
    split at h
    · rename_i hz hl
      cases hz
      have h2 := hk _ _ _ _ _ (by rw [List.length_set]; exact hls) h
      exact ⟨h2.1, so_inc C hl hd h2.2⟩
    · cases h
  case iadd =>
    obtain ⟨rfl, e1⟩ := zw_ne h00
    rw [e1] at h
    change zsBin 0 (pc + 1) M ls st F k = some _ at h
    unfold zsBin at h
    split at h
    · have h2 := hk _ _ _ _ _ hls h
      exact ⟨h2.1, so_bin C (Or.inl ⟨rfl, rfl⟩) hd h2.2⟩
    · cases h
  case isub =>
    obtain ⟨rfl, e1⟩ := zw_ne h00
    rw [e1] at h
    change zsBin 1 (pc + 1) M ls st F k = some _ at h
    unfold zsBin at h
    split at h
    · have h2 := hk _ _ _ _ _ hls h
      exact ⟨h2.1, so_bin C (Or.inr (Or.inl ⟨rfl, rfl⟩)) hd h2.2⟩
    · cases h
  case imul =>
    obtain ⟨rfl, e1⟩ := zw_ne h00
    rw [e1] at h
    change zsBin 2 (pc + 1) M ls st F k = some _ at h
    unfold zsBin at h
    split at h
    · have h2 := hk _ _ _ _ _ hls h
      exact ⟨h2.1, so_bin C (Or.inr (Or.inr (Or.inl ⟨rfl, rfl⟩))) hd h2.2⟩
    · cases h
  case iand =>
    obtain ⟨rfl, e1⟩ := zw_ne h00
    rw [e1] at h
    change zsBin 3 (pc + 1) M ls st F k = some _ at h
    unfold zsBin at h
    split at h
    · have h2 := hk _ _ _ _ _ hls h
      exact ⟨h2.1, so_bin C (Or.inr (Or.inr (Or.inr (Or.inl ⟨rfl, rfl⟩)))) hd h2.2⟩
    · cases h
  case ior =>
    obtain ⟨rfl, e1⟩ := zw_ne h00
    rw [e1] at h
    change zsBin 4 (pc + 1) M ls st F k = some _ at h
    unfold zsBin at h
    split at h
    · have h2 := hk _ _ _ _ _ hls h
      exact ⟨h2.1, so_bin C (Or.inr (Or.inr (Or.inr (Or.inr (Or.inl ⟨rfl, rfl⟩))))) hd h2.2⟩
    · cases h
  case ixor =>
    obtain ⟨rfl, e1⟩ := zw_ne h00
    rw [e1] at h
    change zsBin 5 (pc + 1) M ls st F k = some _ at h
    unfold zsBin at h
    split at h
    · have h2 := hk _ _ _ _ _ hls h
      exact ⟨h2.1, so_bin C (Or.inr (Or.inr (Or.inr (Or.inr (Or.inr (Or.inl ⟨rfl, rfl⟩)))))) hd h2.2⟩
    · cases h
  case ishl =>
    obtain ⟨rfl, e1⟩ := zw_ne h00
    rw [e1] at h
    change zsBin 6 (pc + 1) M ls st F k = some _ at h
    unfold zsBin at h
    split at h
    · have h2 := hk _ _ _ _ _ hls h
      exact ⟨h2.1, so_bin C (Or.inr (Or.inr (Or.inr (Or.inr (Or.inr (Or.inr (Or.inl ⟨rfl, rfl⟩))))))) hd h2.2⟩
    · cases h
  case ishr =>
    obtain ⟨rfl, e1⟩ := zw_ne h00
    rw [e1] at h
    change zsBin 7 (pc + 1) M ls st F k = some _ at h
    unfold zsBin at h
    split at h
    · have h2 := hk _ _ _ _ _ hls h
      exact ⟨h2.1, so_bin C (Or.inr (Or.inr (Or.inr (Or.inr (Or.inr (Or.inr (Or.inr (Or.inl ⟨rfl, rfl⟩)))))))) hd h2.2⟩
    · cases h
  case iushr =>
    obtain ⟨rfl, e1⟩ := zw_ne h00
    rw [e1] at h
    change zsBin 8 (pc + 1) M ls st F k = some _ at h
    unfold zsBin at h
    split at h
    · have h2 := hk _ _ _ _ _ hls h
      exact ⟨h2.1, so_bin C (Or.inr (Or.inr (Or.inr (Or.inr (Or.inr (Or.inr (Or.inr (Or.inr ⟨rfl, rfl⟩)))))))) hd h2.2⟩
    · cases h
  case idiv =>
    obtain ⟨rfl, e1⟩ := zw_ne h00
    rw [e1] at h
    change zsDiv 0 (pc + 1) M ls st F k = some _ at h
    unfold zsDiv at h
    split at h
    · split at h
      · cases h
      · rename_i hy
        have h2 := hk _ _ _ _ _ hls h
        exact ⟨h2.1, so_div C hy hd h2.2⟩
    · split at h <;> cases h
    · cases h
  case irem =>
    obtain ⟨rfl, e1⟩ := zw_ne h00
    rw [e1] at h
    change zsDiv 1 (pc + 1) M ls st F k = some _ at h
    unfold zsDiv at h
    split at h
    · split at h
      · cases h
      · rename_i hy
        have h2 := hk _ _ _ _ _ hls h
        exact ⟨h2.1, so_rem C hy hd h2.2⟩
    · split at h <;> cases h
    · cases h
  case ldiv =>
    obtain ⟨rfl, e1⟩ := zw_ne h00
    rw [e1] at h
    change zsDiv 2 (pc + 1) M ls st F k = some _ at h
    unfold zsDiv at h
    split at h
    · split at h <;> cases h
    · split at h
      · cases h
      · rename_i hy
        have h2 := hk _ _ _ _ _ hls h
        exact ⟨h2.1, so_ldiv C hy hd h2.2⟩
    · cases h
  case lrem =>
    obtain ⟨rfl, e1⟩ := zw_ne h00
    rw [e1] at h
    change zsDiv 3 (pc + 1) M ls st F k = some _ at h
    unfold zsDiv at h
    split at h
    · split at h <;> cases h
    · split at h
      · cases h
      · rename_i hy
        have h2 := hk _ _ _ _ _ hls h
        exact ⟨h2.1, so_lrem C hy hd h2.2⟩
    · cases h
  case ineg =>
    obtain ⟨rfl, e1⟩ := zw_ne h00
    rw [e1] at h
    change zsUn 0 (pc + 1) M ls st F k = some _ at h
    unfold zsUn at h
    split at h
    · have h2 := hk _ _ _ _ _ hls h
      exact ⟨h2.1, so_ineg C hd h2.2⟩
    · cases h
    · cases h
  case i2l =>
    obtain ⟨rfl, e1⟩ := zw_ne h00
    rw [e1] at h
    change zsUn 1 (pc + 1) M ls st F k = some _ at h
    unfold zsUn at h
    split at h
    · have h2 := hk _ _ _ _ _ hls h
      exact ⟨h2.1, so_i2l C hd h2.2⟩
    · cases h
    · cases h
  case l2i =>
    obtain ⟨rfl, e1⟩ := zw_ne h00
    rw [e1] at h
    change zsUn 2 (pc + 1) M ls st F k = some _ at h
    unfold zsUn at h
    split at h
    · cases h
    · have h2 := hk _ _ _ _ _ hls h
      exact ⟨h2.1, so_l2i C hd h2.2⟩
    · cases h
  case i2b =>
    obtain ⟨rfl, e1⟩ := zw_ne h00
    rw [e1] at h
    change zsUn 3 (pc + 1) M ls st F k = some _ at h
    unfold zsUn at h
    split at h
    · have h2 := hk _ _ _ _ _ hls h
      exact ⟨h2.1, so_i2b C hd h2.2⟩
    · cases h
    · cases h
  case i2s =>
    obtain ⟨rfl, e1⟩ := zw_ne h00
    rw [e1] at h
    change zsUn 4 (pc + 1) M ls st F k = some _ at h
    unfold zsUn at h
    split at h
    · have h2 := hk _ _ _ _ _ hls h
      exact ⟨h2.1, so_i2s C hd h2.2⟩
    · cases h
    · cases h
  case i2c =>
    obtain ⟨rfl, e1⟩ := zw_ne h00
    rw [e1] at h
    change zsUn 5 (pc + 1) M ls st F k = some _ at h
    unfold zsUn at h
    split at h
    · have h2 := hk _ _ _ _ _ hls h
      exact ⟨h2.1, so_i2c C hd h2.2⟩
    · cases h
    · cases h
  case ladd =>
    obtain ⟨rfl, e1⟩ := zw_ne h00
    rw [e1] at h
    change zsLBin 0 (pc + 1) M ls st F k = some _ at h
    unfold zsLBin at h
    split at h
    · have h2 := hk _ _ _ _ _ hls h
      exact ⟨h2.1, so_ladd C hd h2.2⟩
    · cases h
    · cases h
  case land =>
    obtain ⟨rfl, e1⟩ := zw_ne h00
    rw [e1] at h
    change zsLBin 1 (pc + 1) M ls st F k = some _ at h
    unfold zsLBin at h
    split at h
    · have h2 := hk _ _ _ _ _ hls h
      exact ⟨h2.1, so_land C hd h2.2⟩
    · cases h
    · cases h
  case lor =>
    obtain ⟨rfl, e1⟩ := zw_ne h00
    rw [e1] at h
    change zsLBin 2 (pc + 1) M ls st F k = some _ at h
    unfold zsLBin at h
    split at h
    · have h2 := hk _ _ _ _ _ hls h
      exact ⟨h2.1, so_lor C hd h2.2⟩
    · cases h
    · cases h
  case lcmp =>
    obtain ⟨rfl, e1⟩ := zw_ne h00
    rw [e1] at h
    change zsLBin 3 (pc + 1) M ls st F k = some _ at h
    unfold zsLBin at h
    split at h
    · have h2 := hk _ _ _ _ _ hls h
      exact ⟨h2.1, so_lcmp C hd h2.2⟩
    · cases h
    · cases h
  case lshl =>
    obtain ⟨rfl, e1⟩ := zw_ne h00
    rw [e1] at h
    change zsLBin 4 (pc + 1) M ls st F k = some _ at h
    unfold zsLBin at h
    split at h
    · cases h
    · have h2 := hk _ _ _ _ _ hls h
      exact ⟨h2.1, so_lshl C hd h2.2⟩
    · cases h
  case dup =>
    obtain ⟨rfl, e1⟩ := zw_ne h00
    rw [e1] at h
    change zsStk 0 (pc + 1) M ls st F k = some _ at h
    unfold zsStk at h
    split at h
    · rename_i hz
      cases hb : zcat1 _ with
      | false => rw [hb] at h; cases h
      | true =>
        rw [hb] at h
        have h2 := hk _ _ _ _ _ hls h
        exact ⟨h2.1, so_dup C hb hd h2.2⟩
    · rename_i hz
      cases hz
    · rename_i hz
      cases hz
    · rename_i hz
      cases hz
    · cases h
  case dup_x1 =>
    obtain ⟨rfl, e1⟩ := zw_ne h00
    rw [e1] at h
    change zsStk 1 (pc + 1) M ls st F k = some _ at h
    unfold zsStk at h
    split at h
    · rename_i hz
      cases hz
    · rename_i hz
      cases hb : zcat1 _ && zcat1 _ with
      | false => rw [hb] at h; cases h
      | true =>
        rw [hb] at h
        rw [Bool.and_eq_true] at hb
        have h2 := hk _ _ _ _ _ hls h
        exact ⟨h2.1, so_dup_x1 C hb.1 hb.2 hd h2.2⟩
    · rename_i hz
      cases hz
    · rename_i hz
      cases hz
    · cases h
  case dup2 =>
    obtain ⟨rfl, e1⟩ := zw_ne h00
    rw [e1] at h
    change zsStk 2 (pc + 1) M ls st F k = some _ at h
    unfold zsStk at h
    split at h
    · rename_i hz
      cases hz
    · rename_i hz
      cases hz
    · rename_i hz
      cases hb : zcat1 _ && zcat1 _ with
      | false => rw [hb] at h; cases h
      | true =>
        rw [hb] at h
        rw [Bool.and_eq_true] at hb
        have h2 := hk _ _ _ _ _ hls h
        exact ⟨h2.1, so_dup2 C hb.1 hb.2 hd h2.2⟩
    · rename_i hz
      cases hz
    · cases h
  case pop =>
    obtain ⟨rfl, e1⟩ := zw_ne h00
    rw [e1] at h
    change zsStk 3 (pc + 1) M ls st F k = some _ at h
    unfold zsStk at h
    split at h
    · rename_i hz
      cases hz
    · rename_i hz
      cases hz
    · rename_i hz
      cases hz
    · rename_i hz
      cases hb : zcat1 _ with
      | false => rw [hb] at h; cases h
      | true =>
        rw [hb] at h
        have h2 := hk _ _ _ _ _ hls h
        exact ⟨h2.1, so_pop C hb hd h2.2⟩
    · cases h
  case if_icmp co off =>
    obtain ⟨rfl, e1⟩ := zw_ne h00
    rw [e1] at h h00
    obtain ⟨h0', e2⟩ := zwt_ne h00
    rw [e2] at h
    change zsCmp (zcd co) (pc + 3) (zt pc off) M ls st F k = some _ at h
    unfold zsCmp at h
    split at h
    · rename_i hst
      cases co
      · simp only [zcd] at h
        split at h
        · rename_i hc
          have h2 := hk _ _ _ _ _ hls h
          exact ⟨h2.1, so_cmp C h0' hd (fun _ => h2.2) (fun q => absurd hc q)⟩
        · rename_i hc
          have h2 := hk _ _ _ _ _ hls h
          exact ⟨h2.1, so_cmp C h0' hd (fun q => absurd q hc) (fun _ => h2.2)⟩
      · simp only [zcd] at h
        split at h
        · rename_i hc
          have h2 := hk _ _ _ _ _ hls h
          exact ⟨h2.1, so_cmp C h0' hd (fun q => absurd hc q) (fun _ => h2.2)⟩
        · rename_i hc
          have h2 := hk _ _ _ _ _ hls h
          exact ⟨h2.1, so_cmp C h0' hd (fun _ => h2.2) (fun q => absurd hc q)⟩
      · simp only [zcd] at h
        split at h
        · rename_i hc
          have h2 := hk _ _ _ _ _ hls h
          exact ⟨h2.1, so_cmp C h0' hd (fun _ => h2.2) (fun q => absurd hc q)⟩
        · rename_i hc
          have h2 := hk _ _ _ _ _ hls h
          exact ⟨h2.1, so_cmp C h0' hd (fun q => absurd q hc) (fun _ => h2.2)⟩
      · simp only [zcd] at h
        split at h
        · rename_i hc
          have h2 := hk _ _ _ _ _ hls h
          exact ⟨h2.1, so_cmp C h0' hd (fun q => absurd hc q) (fun _ => h2.2)⟩
        · rename_i hc
          have h2 := hk _ _ _ _ _ hls h
          exact ⟨h2.1, so_cmp C h0' hd (fun _ => h2.2) (fun q => absurd hc q)⟩
      · simp only [zcd] at h
        split at h
        · rename_i hc
          have h2 := hk _ _ _ _ _ hls h
          exact ⟨h2.1, so_cmp C h0' hd (fun _ => h2.2) (fun q => absurd hc q)⟩
        · rename_i hc
          have h2 := hk _ _ _ _ _ hls h
          exact ⟨h2.1, so_cmp C h0' hd (fun q => absurd q hc) (fun _ => h2.2)⟩
      · simp only [zcd] at h
        split at h
        · rename_i hc
          have h2 := hk _ _ _ _ _ hls h
          exact ⟨h2.1, so_cmp C h0' hd (fun q => absurd hc q) (fun _ => h2.2)⟩
        · rename_i hc
          have h2 := hk _ _ _ _ _ hls h
          exact ⟨h2.1, so_cmp C h0' hd (fun _ => h2.2) (fun q => absurd hc q)⟩
    · cases h
  case ifCond co off =>
    obtain ⟨rfl, e1⟩ := zw_ne h00
    rw [e1] at h h00
    obtain ⟨h0', e2⟩ := zwt_ne h00
    rw [e2] at h
    change zsCmp (zcd co) (pc + 3) (zt pc off) M ls (zI 0 :: st) F k = some _ at h
    unfold zsCmp at h
    split at h
    · rename_i hst
      cases hst
      cases co
      · simp only [zcd] at h
        split at h
        · rename_i hc
          have h2 := hk _ _ _ _ _ hls h
          exact ⟨h2.1, so_if C h0' hd (fun _ => h2.2) (fun q => absurd hc q)⟩
        · rename_i hc
          have h2 := hk _ _ _ _ _ hls h
          exact ⟨h2.1, so_if C h0' hd (fun q => absurd q hc) (fun _ => h2.2)⟩
      · simp only [zcd] at h
        split at h
        · rename_i hc
          have h2 := hk _ _ _ _ _ hls h
          exact ⟨h2.1, so_if C h0' hd (fun q => absurd hc q) (fun _ => h2.2)⟩
        · rename_i hc
          have h2 := hk _ _ _ _ _ hls h
          exact ⟨h2.1, so_if C h0' hd (fun _ => h2.2) (fun q => absurd hc q)⟩
      · simp only [zcd] at h
        split at h
        · rename_i hc
          have h2 := hk _ _ _ _ _ hls h
          exact ⟨h2.1, so_if C h0' hd (fun _ => h2.2) (fun q => absurd hc q)⟩
        · rename_i hc
          have h2 := hk _ _ _ _ _ hls h
          exact ⟨h2.1, so_if C h0' hd (fun q => absurd q hc) (fun _ => h2.2)⟩
      · simp only [zcd] at h
        split at h
        · rename_i hc
          have h2 := hk _ _ _ _ _ hls h
          exact ⟨h2.1, so_if C h0' hd (fun q => absurd hc q) (fun _ => h2.2)⟩
        · rename_i hc
          have h2 := hk _ _ _ _ _ hls h
          exact ⟨h2.1, so_if C h0' hd (fun _ => h2.2) (fun q => absurd hc q)⟩
      · simp only [zcd] at h
        split at h
        · rename_i hc
          have h2 := hk _ _ _ _ _ hls h
          exact ⟨h2.1, so_if C h0' hd (fun _ => h2.2) (fun q => absurd hc q)⟩
        · rename_i hc
          have h2 := hk _ _ _ _ _ hls h
          exact ⟨h2.1, so_if C h0' hd (fun q => absurd q hc) (fun _ => h2.2)⟩
      · simp only [zcd] at h
        split at h
        · rename_i hc
          have h2 := hk _ _ _ _ _ hls h
          exact ⟨h2.1, so_if C h0' hd (fun q => absurd hc q) (fun _ => h2.2)⟩
        · rename_i hc
          have h2 := hk _ _ _ _ _ hls h
          exact ⟨h2.1, so_if C h0' hd (fun _ => h2.2) (fun q => absurd hc q)⟩
    · cases h
  case goto off =>
    obtain ⟨rfl, e1⟩ := zw_ne h00
    rw [e1] at h h00
    obtain ⟨h0', e2⟩ := zwt_ne h00
    rw [e2] at h
    have h2 := hk _ _ _ _ _ hls h
    exact ⟨h2.1, so_goto C h0' hd h2.2⟩
  case ifnonnull off =>
    obtain ⟨rfl, e1⟩ := zw_ne h00
    rw [e1] at h h00
    obtain ⟨h0', e2⟩ := zwt_ne h00
    rw [e2] at h
    change zsIfN (pc + 3) (zt pc off) M ls st F k = some _ at h
    unfold zsIfN at h
    split at h
    · rename_i t a r
      cases hb0 : Nat.blt t 10 with
      | false => rw [hb0] at h; cases h
      | true =>
        rw [hb0] at h
        cases hb : Nat.beq a 0 with
        | true =>
          rw [hb] at h
          have h2 := hk _ _ _ _ _ hls h
          exact ⟨h2.1, so_ifnn C h0' (Nat.ble_eq.mp hb0) hd (fun q => absurd (nbt hb) q) (fun _ => h2.2)⟩
        | false =>
          rw [hb] at h
          have h2 := hk _ _ _ _ _ hls h
          exact ⟨h2.1, so_ifnn C h0' (Nat.ble_eq.mp hb0) hd (fun _ => h2.2) (fun q => by rw [q] at hb; exact absurd hb (by decide))⟩
    · cases h
  case arraylength =>
    obtain ⟨rfl, e1⟩ := zw_ne h00
    rw [e1] at h
    change zsLen (pc + 1) M ls st F k = some _ at h
    unfold zsLen at h
    split at h
    · rename_i t a r
      cases hb : Nat.ble 100 t with
      | true =>
        rw [hb] at h
        cases hb1 : Nat.beq a 0 with
        | true => rw [hb1] at h; cases h
        | false =>
          rw [hb1] at h
          have h2 := hk _ _ _ _ _ hls h
          exact ⟨h2.1, so_alenO' C (Nat.ble_eq.mp hb) (fun q => by rw [q] at hb1; exact absurd hb1 (by decide)) hd h2.2⟩
      | false =>
        rw [hb] at h
        cases hb1 : Nat.beq t 13 with
        | true =>
          rw [hb1] at h
          have h2 := hk _ _ _ _ _ hls h
          have ht := nbt hb1
          subst ht
          exact ⟨h2.1, so_alenS C hd h2.2⟩
        | false =>
          rw [hb1] at h
          cases hb2 : Nat.beq t 15 with
          | true =>
            rw [hb2] at h
            have h2 := hk _ _ _ _ _ hls h
            have ht := nbt hb2
            subst ht
            exact ⟨h2.1, so_alenB' C hd h2.2⟩
          | false => rw [hb2] at h; cases h
    · cases h
  case iaload =>
    obtain ⟨rfl, e1⟩ := zw_ne h00
    rw [e1] at h
    change zsALd 0 (pc + 1) M ls st F k = some _ at h
    unfold zsALd at h
    split at h
    · rename_i i t a r
      cases hb : Nat.ble 100 t with
      | true =>
        rw [hb] at h
        cases hb1 : Nat.beq a 0 with
        | true => rw [hb1] at h; cases h
        | false =>
          rw [hb1] at h
          simp only [cond_true, cond_false] at h
          split at h
          · cases h
          · rename_i hin
            cases hb2 : Nat.beq (zty t) 0 with
            | false => rw [hb2] at h; cases h
            | true =>
              rw [hb2] at h
              have h2 := hk _ _ _ _ _ hls h
              exact ⟨h2.1, so_aldO C (Nat.ble_eq.mp hb) (fun q => by rw [q] at hb1; exact absurd hb1 (by decide)) hin (Or.inl ⟨nbt hb2, hd⟩) h2.2⟩
      | false =>
        rw [hb] at h
        simp only [cond_false] at h
        cases hb1 : Nat.beq t 13 with
        | true =>
          rw [hb1] at h
          simp only [cond_true] at h
          split at h
          · cases h
          · rename_i hin
            have ht := nbt hb1
            subst ht
            have h2 := hk _ _ _ _ _ hls h
            exact ⟨h2.1, so_aldS C hin hd h2.2⟩
        | false =>
          rw [hb1] at h
          simp only [cond_false] at h
          cases hb2 : Nat.beq t 15 with
          | true =>
            rw [hb2] at h
            simp only [cond_true] at h
            split at h
            · cases h
            · rename_i hin
              cases h
          | false =>
            rw [hb2] at h
            simp only [cond_false] at h
            cases hb3 : Nat.beq t 11 || Nat.beq t 12 with
            | false => rw [hb3] at h; cases h
            | true =>
              rw [hb3] at h
              simp only [cond_true] at h
              split at h
              · cases h
              · rename_i hin
                have h2 := hk _ _ _ _ _ hls h
                rw [Bool.or_eq_true] at hb3
                exact ⟨h2.1, so_aldC C (hb3.imp nbt nbt) hin hd h2.2⟩
    · cases h
  case baload =>
    obtain ⟨rfl, e1⟩ := zw_ne h00
    rw [e1] at h
    change zsALd 1 (pc + 1) M ls st F k = some _ at h
    unfold zsALd at h
    split at h
    · rename_i i t a r
      cases hb : Nat.ble 100 t with
      | true =>
        rw [hb] at h
        cases hb1 : Nat.beq a 0 with
        | true => rw [hb1] at h; cases h
        | false =>
          rw [hb1] at h
          simp only [cond_true, cond_false] at h
          split at h
          · cases h
          · rename_i hin
            cases hb2 : Nat.beq (zty t) 2 with
            | false => rw [hb2] at h; cases h
            | true =>
              rw [hb2] at h
              have h2 := hk _ _ _ _ _ hls h
              exact ⟨h2.1, so_aldO C (Nat.ble_eq.mp hb) (fun q => by rw [q] at hb1; exact absurd hb1 (by decide)) hin (Or.inr ⟨nbt hb2, hd⟩) h2.2⟩
      | false =>
        rw [hb] at h
        simp only [cond_false] at h
        cases hb1 : Nat.beq t 13 with
        | true =>
          rw [hb1] at h
          simp only [cond_true] at h
          split at h
          · cases h
          · rename_i hin
            cases h
        | false =>
          rw [hb1] at h
          simp only [cond_false] at h
          cases hb2 : Nat.beq t 15 with
          | true =>
            rw [hb2] at h
            simp only [cond_true] at h
            split at h
            · cases h
            · rename_i hin
              have ht := nbt hb2
              subst ht
              have h2 := hk _ _ _ _ _ hls h
              exact ⟨h2.1, so_aldB' C hin hd h2.2⟩
          | false =>
            rw [hb2] at h
            simp only [cond_false] at h
            cases hb3 : Nat.beq t 11 || Nat.beq t 12 with
            | false => rw [hb3] at h; cases h
            | true =>
              rw [hb3] at h
              simp only [cond_true] at h
              split at h
              · cases h
              · rename_i hin
                cases h
    · cases h
  case laload =>
    obtain ⟨rfl, e1⟩ := zw_ne h00
    rw [e1] at h
    change zsALd 2 (pc + 1) M ls st F k = some _ at h
    unfold zsALd at h
    split at h
    · rename_i i t a r
      cases hb : Nat.ble 100 t with
      | true =>
        rw [hb] at h
        cases hb1 : Nat.beq a 0 with
        | true => rw [hb1] at h; cases h
        | false =>
          rw [hb1] at h
          simp only [cond_true, cond_false] at h
          split at h
          · cases h
          · rename_i hin
            cases hb2 : Nat.beq (zty t) 1 with
            | false => rw [hb2] at h; cases h
            | true =>
              rw [hb2] at h
              have h2 := hk _ _ _ _ _ hls h
              exact ⟨h2.1, so_aldL C (Nat.ble_eq.mp hb) (fun q => by rw [q] at hb1; exact absurd hb1 (by decide)) hin (nbt hb2) hd h2.2⟩
      | false =>
        rw [hb] at h
        simp only [cond_false] at h
        cases hb1 : Nat.beq t 13 with
        | true =>
          rw [hb1] at h
          simp only [cond_true] at h
          split at h
          · cases h
          · rename_i hin
            cases h
        | false =>
          rw [hb1] at h
          simp only [cond_false] at h
          cases hb2 : Nat.beq t 15 with
          | true =>
            rw [hb2] at h
            simp only [cond_true] at h
            split at h
            · cases h
            · rename_i hin
              cases h
          | false =>
            rw [hb2] at h
            simp only [cond_false] at h
            cases hb3 : Nat.beq t 11 || Nat.beq t 12 with
            | false => rw [hb3] at h; cases h
            | true =>
              rw [hb3] at h
              simp only [cond_true] at h
              split at h
              · cases h
              · rename_i hin
                cases h
    · cases h
  case iastore =>
    obtain ⟨rfl, e1⟩ := zw_ne h00
    rw [e1] at h
    change zsASt 0 (pc + 1) M ls st F k = some _ at h
    unfold zsASt at h
    split at h
    · rename_i x i t a r
      cases hb : Nat.ble 100 t with
      | false => rw [hb] at h; cases h
      | true =>
        rw [hb] at h
        cases hb1 : Nat.beq a 0 with
        | true => rw [hb1] at h; cases h
        | false =>
          rw [hb1] at h
          simp only [cond_true, cond_false] at h
          split at h
          · cases h
          · rename_i hin
            cases hb2 : Nat.beq (zty t) 0 with
            | false => rw [hb2] at h; cases h
            | true =>
              rw [hb2] at h
              have h2 := hk (zu M.1 a (zn i) x, M.2) _ _ _ _ hls h
              exact ⟨h2.1, so_astI C (Nat.ble_eq.mp hb) (nbt hb2) (fun q => by rw [q] at hb1; exact absurd hb1 (by decide)) hin hd h2.2⟩
    · rename_i x i t a r
      cases hb : Nat.ble 100 t with
      | false => rw [hb] at h; cases h
      | true =>
        rw [hb] at h
        cases hb1 : Nat.beq a 0 with
        | true => rw [hb1] at h; cases h
        | false =>
          rw [hb1] at h
          simp only [cond_true, cond_false] at h
          split at h
          · cases h
          · rename_i hin
            cases h
    · cases h
  case bastore =>
    obtain ⟨rfl, e1⟩ := zw_ne h00
    rw [e1] at h
    change zsASt 1 (pc + 1) M ls st F k = some _ at h
    unfold zsASt at h
    split at h
    · rename_i x i t a r
      cases hb : Nat.ble 100 t with
      | false => rw [hb] at h; cases h
      | true =>
        rw [hb] at h
        cases hb1 : Nat.beq a 0 with
        | true => rw [hb1] at h; cases h
        | false =>
          rw [hb1] at h
          simp only [cond_true, cond_false] at h
          split at h
          · cases h
          · rename_i hin
            cases hb2 : Nat.beq (zty t) 2 with
            | false => rw [hb2] at h; cases h
            | true =>
              rw [hb2] at h
              have h2 := hk (zu M.1 a (zn i) (vp_nar .boolean x), M.2) _ _ _ _ hls h
              exact ⟨h2.1, so_astZ C (Nat.ble_eq.mp hb) (nbt hb2) (fun q => by rw [q] at hb1; exact absurd hb1 (by decide)) hin hd h2.2⟩
    · rename_i x i t a r
      cases hb : Nat.ble 100 t with
      | false => rw [hb] at h; cases h
      | true =>
        rw [hb] at h
        cases hb1 : Nat.beq a 0 with
        | true => rw [hb1] at h; cases h
        | false =>
          rw [hb1] at h
          simp only [cond_true, cond_false] at h
          split at h
          · cases h
          · rename_i hin
            cases h
    · cases h
  case lastore =>
    obtain ⟨rfl, e1⟩ := zw_ne h00
    rw [e1] at h
    change zsASt 2 (pc + 1) M ls st F k = some _ at h
    unfold zsASt at h
    split at h
    · rename_i x i t a r
      cases hb : Nat.ble 100 t with
      | false => rw [hb] at h; cases h
      | true =>
        rw [hb] at h
        cases hb1 : Nat.beq a 0 with
        | true => rw [hb1] at h; cases h
        | false =>
          rw [hb1] at h
          simp only [cond_true, cond_false] at h
          split at h
          · cases h
          · rename_i hin
            cases h
    · rename_i x i t a r
      cases hb : Nat.ble 100 t with
      | false => rw [hb] at h; cases h
      | true =>
        rw [hb] at h
        cases hb1 : Nat.beq a 0 with
        | true => rw [hb1] at h; cases h
        | false =>
          rw [hb1] at h
          simp only [cond_true, cond_false] at h
          split at h
          · cases h
          · rename_i hin
            cases hb2 : Nat.beq (zty t) 1 with
            | false => rw [hb2] at h; cases h
            | true =>
              rw [hb2] at h
              have h2 := hk (M.1, zu M.2.1 a (zn i) x, M.2.2) _ _ _ _ hls h
              exact ⟨h2.1, so_astL C (Nat.ble_eq.mp hb) (nbt hb2) (fun q => by rw [q] at hb1; exact absurd hb1 (by decide)) hin hd h2.2⟩
    · cases h
  case newarray t =>
    cases h1 : zat t with
    | none => simp only [h1] at h00; exact absurd rfl h00
    | some ty =>
      simp only [h1] at h h00
      obtain ⟨rfl, e1⟩ := zw_ne h00
      rw [e1] at h
      obtain ⟨I, J, Q', top, sl, L'⟩ := M
      change zsNewA zS ty (pc + 2) (I, J, Q', top, sl, L') ls st F k = some _ at h
      unfold zsNewA at h
      split at h
      · rename_i hM
        cases hM
        split at h
        · cases h
        · rename_i hx0
          cases hb : Nat.beq (zS top) (100 + 4 * zn _ + ty) with
          | false => rw [hb] at h; cases h
          | true =>
            rw [hb] at h
            have h2 := hk (zfill I top 0, zfill J top 0, Q', top + 1, sl + _, L') _ _ _ _ hls h
            obtain ⟨⟨m1, m2⟩, g⟩ := h2
            have m1' : top + 1 ≤ ztop Mf := m1
            have m2' : sl + zn _ ≤ zsl Mf := m2
            have hr3 := hR.2.2.1
            have hr4 := hR.2.2.2
            exact ⟨⟨show top ≤ ztop Mf by omega, show sl ≤ zsl Mf from Nat.le_trans (Nat.le_add_right _ _) m2'⟩, so_newa C h1 hx0 (nbt hb) ⟨show top + 1 - t0 ≤ R.cells by omega, show sl + zn _ - s0 ≤ R.slots from Nat.le_trans (Nat.sub_le_sub_right m2' _) hr4⟩ hd g⟩
      · cases h
  case new j =>
    cases h1 : zlk zLc (zcn m) j with
    | none => simp only [h1] at h00; exact absurd rfl h00
    | some x =>
      simp only [h1] at h h00
      obtain ⟨rfl, e1⟩ := zw_ne h00
      rw [e1] at h
      have hx := zlk_in h1
      have hcc : ∀ q ∈ zLc, q.2.2 < 10 := by decide
      have hx10 := hcc _ hx
      obtain ⟨I, J, Q', top, sl, L'⟩ := M
      change zsNew zS zN x (pc + 3) (I, J, Q', top, sl, L') ls st F k = some _ at h
      unfold zsNew at h
      simp only at h
      cases hb : Nat.beq (zS top) x with
      | false => rw [hb] at h; cases h
      | true =>
        rw [hb] at h
        have h2 := hk (zfill I top 0, J, zfill Q' top 0, top + 1, sl + zN x, L') _ _ _ _ hls h
        obtain ⟨⟨m1, m2⟩, g⟩ := h2
        have m1' : top + 1 ≤ ztop Mf := m1
        have m2' : sl + zN x ≤ zsl Mf := m2
        have hr3 := hR.2.2.1
        have hr4 := hR.2.2.2
        exact ⟨⟨show top ≤ ztop Mf by omega, show sl ≤ zsl Mf by omega⟩, so_new C hx hx10 (nbt hb) ⟨show top + 1 - t0 ≤ R.cells by omega, show sl + zN x - s0 ≤ R.slots by omega⟩ hd g⟩
  case getfield j =>
    change ¬ (zcomp m pc (.getfield j) len).1 = 0 at h00
    change zstep zS zN zFin (zrun d n0) th.1 (zcomp m pc (.getfield j) len) M ls st F k = some (Mf, v) at h
    obtain ⟨rfl, ⟨cc, f, hx, e1⟩ | ⟨x, hx, e1⟩⟩ := zc_getf h00
    · rw [e1] at h
      obtain ⟨hc, hf, -⟩ := zx_lf _ hx
      dsimp only at hc hf
      change zsGet cc (match (zFk cc f).1 with | 5 => 0 | x => x) f (pc + 3) (zfv0 (zFk cc f)) M ls st F k = some _ at h
      unfold zsGet at h
      split at h
      · rename_i t a r
        cases hb : Nat.beq t cc with
        | false => rw [hb] at h; cases h
        | true =>
          rw [hb] at h
          have ht := nbt hb
          subst ht
          simp only [cond_true] at h
          rcases zx_ft t hc f hf with hk0 | hk0 | hk0 | hk0
          · rw [hk0] at h
            simp only at h
            cases hb1 : Nat.beq a 0 with
            | true => rw [hb1] at h; cases h
            | false =>
              rw [hb1] at h
              have h2 := hk _ _ _ _ _ hls h
              exact ⟨h2.1, so_get0 C hx (Or.inl hk0) (fun q => by rw [q] at hb1; exact absurd hb1 (by decide)) hd h2.2⟩
          · rw [hk0] at h
            simp only at h
            cases hb1 : Nat.beq a 0 with
            | true => rw [hb1] at h; cases h
            | false =>
              rw [hb1] at h
              have h2 := hk _ _ _ _ _ hls h
              exact ⟨h2.1, so_get0 C hx (Or.inr hk0) (fun q => by rw [q] at hb1; exact absurd hb1 (by decide)) hd h2.2⟩
          · have hz : zfv0 (zFk t f) = zR (zFk t f).2.1 (zFk t f).2.2 := by unfold zfv0; rw [hk0]; rfl
            rw [hz, hk0] at h
            simp only at h
            cases hb1 : Nat.beq a 0 with
            | true => rw [hb1] at h; cases h
            | false =>
              rw [hb1] at h
              have h2 := hk _ _ _ _ _ hls h
              exact ⟨h2.1, so_get1 C hx hk0 (fun q => by rw [q] at hb1; exact absurd hb1 (by decide)) hd h2.2⟩
          · have hz : zfv0 (zFk t f) = zR (zFk t f).2.1 (zFk t f).2.2 := by unfold zfv0; rw [hk0]; rfl
            rw [hz, hk0] at h
            simp only at h
            cases hb1 : Nat.beq a 0 with
            | true => rw [hb1] at h; cases h
            | false =>
              rw [hb1] at h
              have h2 := hk _ _ _ _ _ hls h
              exact ⟨h2.1, so_get2 C hx hk0 (fun q => by rw [q] at hb1; exact absurd hb1 (by decide)) hd h2.2⟩
      · cases h
    · rw [e1] at h
      change zsGet 10 x 0 (pc + 3) zU M ls st F k = some _ at h
      unfold zsGet at h
      split at h
      · rename_i t a r
        cases hb : Nat.beq t 10 with
        | false => rw [hb] at h; cases h
        | true =>
          rw [hb] at h
          have ht := nbt hb
          subst ht
          simp only [cond_true] at h
          have hs : ∀ q ∈ zLsf, q.2.2 = 3 ∨ q.2.2 = 4 := by decide
          rcases (hs _ hx : x = 3 ∨ x = 4) with rfl | rfl
          · have h2 := hk _ _ _ _ _ hls h
            exact ⟨h2.1, so_getV C hx hd h2.2⟩
          · have h2 := hk _ _ _ _ _ hls h
            exact ⟨h2.1, so_getO C hx hd h2.2⟩
      · cases h
  case putfield j =>
    change ¬ (zcomp m pc (.putfield j) len).1 = 0 at h00
    change zstep zS zN zFin (zrun d n0) th.1 (zcomp m pc (.putfield j) len) M ls st F k = some (Mf, v) at h
    obtain ⟨rfl, cc, f, hx, e1, hown⟩ := zc_putf h00
    rw [e1] at h
    obtain ⟨hc, hf, -⟩ := zx_lf _ hx
    dsimp only at hc hf
    change zsPut cc (zFk cc f).1 f (pc + 3) (zfv0 (zFk cc f)) th.1 M ls st F k = some _ at h
    unfold zsPut at h
    split at h
    · rename_i w t a r
      cases hb1 : Nat.beq a 0 with
      | true => rw [hb1] at h; cases h
      | false =>
        rw [hb1] at h
        simp only [cond_false] at h
        have ha : a ≠ 0 := fun q => by rw [q] at hb1; exact absurd hb1 (by decide)
        rcases zx_ft cc hc f hf with hk0 | hk0 | hk0 | hk0
        · rw [hk0] at h
          split at h
          · cases hb2 : Nat.beq t cc || Nat.beq t (20 + cc) with
            | false => rw [hb2] at h; cases h
            | true =>
              rw [hb2] at h
              rw [Bool.or_eq_true] at hb2
              have h2 := hk (zu M.1 a f _, M.2) _ _ _ _ hls h
              exact ⟨h2.1, so_put0 C hx (Or.inl hk0) ha (hb2.imp nbt nbt) hd h2.2⟩
          · contradiction
          · contradiction
          · contradiction
          · cases h
        · rw [hk0] at h
          split at h
          · contradiction
          · cases hb2 : Nat.beq t cc || Nat.beq t (20 + cc) with
            | false => rw [hb2] at h; cases h
            | true =>
              rw [hb2] at h
              rw [Bool.or_eq_true] at hb2
              simp only [cond_true] at h
              split at h
              · rename_i h01
                have h2 := hk (zu M.1 a f _, M.2) _ _ _ _ hls h
                exact ⟨h2.1, so_put0 C hx (Or.inr ⟨hk0, h01⟩) ha (hb2.imp nbt nbt) hd h2.2⟩
              · cases h
          · contradiction
          · contradiction
          · cases h
        · have hz : zfv0 (zFk cc f) = zR (zFk cc f).2.1 (zFk cc f).2.2 := by unfold zfv0; rw [hk0]; rfl
          rw [hz, hk0] at h
          split at h
          · contradiction
          · contradiction
          · rename_i t2 b t' o' _ hz2
            cases hz2
            cases hb2 : Nat.beq t (20 + cc) && (Nat.beq t2 (zFk cc f).2.1 && (Nat.beq a th.1 && Nat.beq b (a + (zFk cc f).2.2))) with
            | false => rw [hb2] at h; cases h
            | true =>
              rw [hb2] at h
              simp only [Bool.and_eq_true] at hb2
              have g1 := nbt hb2.1
              have g2 := nbt hb2.2.1
              have g3 := nbt hb2.2.2.1
              have g4 := nbt hb2.2.2.2
              subst g1 g2 g4
              have h2 := hk _ _ _ _ _ hls h
              exact ⟨h2.1, so_put1 C hx (hown hk0).1 (hown hk0).2 hk0 ha g3.symm hd h2.2⟩
          · contradiction
          · cases h
        · have hz : zfv0 (zFk cc f) = zR (zFk cc f).2.1 (zFk cc f).2.2 := by unfold zfv0; rw [hk0]; rfl
          rw [hz, hk0] at h
          split at h
          · contradiction
          · contradiction
          · contradiction
          · rename_i t2 b t' o' _ hz2
            cases hz2
            cases hb2 : (Nat.beq t cc || Nat.beq t (20 + cc)) && Nat.beq t2 (zFk cc f).2.1 with
            | false => rw [hb2] at h; cases h
            | true =>
              rw [hb2] at h
              simp only [Bool.and_eq_true, Bool.or_eq_true] at hb2
              have g2 := nbt hb2.2
              subst g2
              have h2 := hk (M.1, M.2.1, zu M.2.2.1 a f b, M.2.2.2) _ _ _ _ hls h
              exact ⟨h2.1, so_put2 C hx hk0 ha (hb2.1.imp nbt nbt) hd h2.2⟩
          · cases h
    · cases h
  case return_ =>
    obtain ⟨rfl, e1⟩ := zw_ne h00
    rw [e1] at h h00
    cases hrk : zrk m with
    | zero =>
      rw [hrk] at h
      exact HR M pc ls st F (by rw [hrk]; exact hd) (by rw [hrk]; exact h)
    | succ q =>
      by_cases h6 : q = 5
      · subst h6
        rw [hrk] at h
        exact HR M pc ls st F (by rw [hrk]; exact hd) (by rw [hrk]; exact h)
      · rw [hrk] at h00
        exfalso
        apply h00
        split
        · rename_i hz; omega
        · rename_i hz; omega
        · rfl
  case ireturn =>
    obtain ⟨rfl, e1⟩ := zw_ne h00
    rw [e1] at h h00
    have hkd : zrk m = 1 ∨ zrk m = 2 ∨ zrk m = 3 ∨ zrk m = 7 := by
      split at h00
      · rename_i hz; exact Or.inl hz
      · rename_i hz; exact Or.inr (Or.inl hz)
      · rename_i hz; exact Or.inr (Or.inr (Or.inl hz))
      · rename_i hz; exact Or.inr (Or.inr (Or.inr (hz)))
      · exact absurd rfl h00
    rcases hkd with hrk | hrk | hrk | hrk
    · rw [hrk] at h
      exact HR M pc ls st F (by rw [hrk]; exact hd) (by rw [hrk]; exact h)
    · rw [hrk] at h
      exact HR M pc ls st F (by rw [hrk]; exact hd) (by rw [hrk]; exact h)
    · rw [hrk] at h
      exact HR M pc ls st F (by rw [hrk]; exact hd) (by rw [hrk]; exact h)
    · rw [hrk] at h
      exact HR M pc ls st F (by rw [hrk]; exact hd) (by rw [hrk]; exact h)
  case lreturn =>
    obtain ⟨rfl, e1⟩ := zw_ne h00
    rw [e1] at h h00
    have hkd : zrk m = 4 := by
      split at h00
      · rename_i hz; exact hz
      · exact absurd rfl h00
    have hrk := hkd
    · rw [hrk] at h
      exact HR M pc ls st F (by rw [hrk]; exact hd) (by rw [hrk]; exact h)
  case areturn =>
    obtain ⟨rfl, e1⟩ := zw_ne h00
    rw [e1] at h h00
    have hkd : zrk m = 5 := by
      split at h00
      · rename_i hz; exact hz
      · exact absurd rfl h00
    have hrk := hkd
    · rw [hrk] at h
      exact HR M pc ls st F (by rw [hrk]; exact hd) (by rw [hrk]; exact h)
  case tableswitch dd lo hi offs =>
    split at h
    · rename_i hc
      obtain ⟨c1, c2, c3, c4, c5⟩ := hc
      change zsSw (zt pc dd) _ M ls st F k = some _ at h
      unfold zsSw at h
      split at h
      · rename_i x r
        obtain ⟨t', ht, hz⟩ := zpick_table (g := fun t => k M t ls r F) h c2 c3 c4
        rcases ht with ⟨h3, rfl⟩ | ⟨h3, h4, off, ho, rfl⟩
        · have h2 := hk _ _ _ _ _ hls hz
          exact ⟨h2.1, ZG.stk (fun fl q => zok_tl q) (fun H locs Ls _ _ w => lv_tableOut C.1 C.2.1 hd h3 (by unfold zt; omega) w) h2.2⟩
        · have h2 := hk _ _ _ _ _ hls hz
          have h5 := c5 off (List.mem_of_getElem? (by rw [Array.getElem?_toList]; exact ho))
          exact ⟨h2.1, ZG.stk (fun fl q => zok_tl q) (fun H locs Ls _ _ w => lv_tableIn C.1 C.2.1 hd h3 h4 ho (by unfold zt; omega) w) h2.2⟩
      · cases h
    · rename_i hc
      rw [if_neg hc] at h00
      exact absurd rfl h00
  case lookupswitch dd ps =>
    split at h
    · rename_i hc
      obtain ⟨c1, c2, c3⟩ := hc
      change zsSw (zt pc dd) _ M ls st F k = some _ at h
      unfold zsSw at h
      split at h
      · rename_i x r
        obtain ⟨off, ho, h3, hz⟩ := zpick_look (g := fun t => k M t ls r F) h c1 c3
        have h2 := hk _ _ _ _ _ hls hz
        exact ⟨h2.1, ZG.stk (fun fl q => zok_tl q) (fun H locs Ls _ _ w => lv_lookup C.1 C.2.1 hd c2 ho (by unfold zt; omega) w) h2.2⟩
      · cases h
    · rename_i hc
      rw [if_neg hc] at h00
      exact absurd rfl h00
  case invokevirtual j =>
    change ¬ (zcomp m pc (.invokevirtual j) len).1 = 0 at h00
    change zstep zS zN zFin (zrun d n0) th.1 (zcomp m pc (.invokevirtual j) len) M ls st F k = some (Mf, v) at h
    obtain ⟨rfl, y, hx, hst, hrk, e1⟩ := zc_virtual h00
    rw [e1] at h
    have hy := (zx_lmy _ hx).1
    change zsCall (zrun d n0) y ((zpar y).1 + 1) 0 (zcn y) (pc + 3) M ls st F k = some _ at h
    obtain ⟨a, as, rest, M1, v1, g1, g2, g3, g4, g5, g6⟩ := zcall0 h
    have h2 := hk _ _ _ _ _ hls g6
    have mo := Mo _ _ _ _ _ _ g5
    have hR' : ZRm R d (ztop M1) (zsl M1) t0 s0 := ⟨hR.1, hR.2.1, by have := hR.2.2.1; have := h2.1.1; omega, by have := hR.2.2.2; have := h2.1.2; omega⟩
    exact ⟨⟨Nat.le_trans mo.1 h2.1.1, Nat.le_trans mo.2 h2.1.2⟩, so_callV C S hx hy hst hrk (zx_lm10 _ hx hst hrk) g3 g2 g5 g1 g4 hls hR' hd h2.2⟩
  case invokestatic j =>
    change ¬ (zcomp m pc (.invokestatic j) len).1 = 0 at h00
    change zstep zS zN zFin (zrun d n0) th.1 (zcomp m pc (.invokestatic j) len) M ls st F k = some (Mf, v) at h
    obtain ⟨rfl, ⟨y, cc, hx, hst, e1⟩ | ⟨hx, e1⟩ | ⟨hx, e1⟩⟩ := zc_static h00
    · rw [e1] at h
      have hy := (zx_lmy _ hx).1
      change zsCall (zrun d n0) y (zpar y).1 1 cc (pc + 3) M ls st F k = some _ at h
      obtain ⟨as, rest, M1, v1, g1, g2, g4, g5, g6⟩ := zcall1 h
      have h2 := hk _ _ _ _ _ hls g6
      have mo := Mo _ _ _ _ _ _ g5
      have hR' : ZRm R d (ztop M1) (zsl M1) t0 s0 := ⟨hR.1, hR.2.1, by have := hR.2.2.1; have := h2.1.1; omega, by have := hR.2.2.2; have := h2.1.2; omega⟩
      exact ⟨⟨Nat.le_trans mo.1 h2.1.1, Nat.le_trans mo.2 h2.1.2⟩, so_callS C S hx hy hst g2 g5 g1 g4 hls hR' hd h2.2⟩
    · rw [e1] at h
      change zsCopy (pc + 3) M ls st F k = some _ at h
      unfold zsCopy at h
      split at h
      · rename_i x dd t1 b s' t0' a r
        cases hb : Nat.ble 100 t0' && Nat.ble 100 t1 && Nat.beq (zty t0') (zty t1) && !(Nat.beq a 0) && !(Nat.beq b 0) && Nat.ble r.length 4 with
        | false => rw [hb] at h; cases h
        | true =>
          rw [hb] at h
          simp only [cond_true] at h
          simp only [Bool.and_eq_true, Bool.not_eq_true'] at hb
          split at h
          · cases h
          · rename_i hin
            have hrm : 1 ≤ R.frames ∧ 40 ≤ R.locals := ⟨by have := hR.1; omega, by have := hR.2.1; omega⟩
            have ha : a ≠ 0 := fun q => by rw [q] at hb; exact absurd hb.1.1.2 (by decide)
            have hb0 : b ≠ 0 := fun q => by rw [q] at hb; exact absurd hb.1.2 (by decide)
            split at h
            · rename_i hz
              have h2 := hk (zcp M.1 a (zn s') b (zn dd) (zn x), M.2) _ _ _ _ hls h
              exact ⟨h2.1, so_copy C hx hls (Nat.ble_eq.mp hb.1.1.1.1.1) (Nat.ble_eq.mp hb.1.1.1.1.2) (nbt hb.1.1.1.2) ha hb0 (Nat.ble_eq.mp hb.2) hin hrm hd (Or.inl ⟨hz, rfl⟩) h2.2⟩
            · rename_i hz
              have h2 := hk (M.1, zcp M.2.1 a (zn s') b (zn dd) (zn x), M.2.2) _ _ _ _ hls h
              exact ⟨h2.1, so_copy C hx hls (Nat.ble_eq.mp hb.1.1.1.1.1) (Nat.ble_eq.mp hb.1.1.1.1.2) (nbt hb.1.1.1.2) ha hb0 (Nat.ble_eq.mp hb.2) hin hrm hd (Or.inr ⟨hz, rfl⟩) h2.2⟩
            · cases h
      · cases h
    · rw [e1] at h
      change zsMax (pc + 3) M ls st F k = some _ at h
      unfold zsMax at h
      split at h
      · rename_i y x r
        cases hb : Nat.ble r.length 4 with
        | false => rw [hb] at h; cases h
        | true =>
          rw [hb] at h
          have h2 := hk _ _ _ _ _ hls h
          exact ⟨h2.1, so_max C hx (Nat.ble_eq.mp hb) hls ⟨by have := hR.1; omega, by have := hR.2.1; omega, by have := hR.2.2.1; have := h2.1.1; omega, by have := hR.2.2.2; have := h2.1.2; omega⟩ hd h2.2⟩
      · cases h
  case invokespecial j =>
    change ¬ (zcomp m pc (.invokespecial j) len).1 = 0 at h00
    change zstep zS zN zFin (zrun d n0) th.1 (zcomp m pc (.invokespecial j) len) M ls st F k = some (Mf, v) at h
    obtain ⟨rfl, ⟨y, b, hx, hrk, hcn, e1⟩ | ⟨hx, e1⟩⟩ := zc_special h00
    · rw [e1] at h
      have hy := (zx_lmy _ hx).1
      change zsCall (zrun d n0) y ((zpar y).1 + 1) 2 (zcn y) (pc + 3) M ls st F k = some _ at h
      obtain ⟨a, as, r, M1, g1, g2, g3, g4, g5, g6⟩ := zcall2 h
      have h2 := hk _ _ _ _ _ hls g6
      have mo := Mo _ _ _ _ _ _ g5
      have hR' : ZRm R d (ztop M1) (zsl M1) t0 s0 := ⟨hR.1, hR.2.1, by have := hR.2.2.1; have := h2.1.1; omega, by have := hR.2.2.2; have := h2.1.2; omega⟩
      exact ⟨⟨Nat.le_trans mo.1 h2.1.1, Nat.le_trans mo.2 h2.1.2⟩, so_callI C S hx (zx_lmy _ hx).2 hy (zx_ini2 y hy hrk) hrk hcn g3 g2 g5 g1 g4 hls hR' hd h2.2⟩
    · rw [e1] at h
      change zsObj (pc + 3) M ls st F k = some _ at h
      unfold zsObj at h
      split at h
      · rename_i t a r
        cases hb : Nat.beq a 0 || Nat.ble 5 r.length || Nat.beq t 14 with
        | true => rw [hb] at h; cases h
        | false =>
          rw [hb] at h
          simp only [Bool.or_eq_false_iff] at hb
          have h2 := hk _ _ _ _ _ hls h
          exact ⟨h2.1, so_obj C hx (fun q => by rw [q] at hb; exact absurd hb.1.1 (by decide)) (fun q => by rw [q] at hb; exact absurd hb.2 (by decide)) (by have := hb.1.2; rcases Nat.lt_or_ge 4 r.length with q | q; exact absurd (Nat.ble_eq.mpr q) (by rw [show Nat.ble (4 + 1) r.length = false from this]; decide); exact q) hls ⟨by have := hR.1; omega, by have := hR.2.1; omega⟩ hd h2.2⟩
      · cases h
end ZMN
