theorem zw_ne {l len : Nat} {op : ZOp} (h : (zw l len op).1 ≠ 0) : len = l ∧ zw l len op = op := by
  unfold zw at h ⊢
  cases hb : Nat.beq len l with
  | false => rw [hb] at h; exact absurd rfl h
  | true => exact ⟨nbt hb, rfl⟩
theorem zwt_ne {pc : Nat} {off : Int} {op : ZOp} (h : (zwt pc off op).1 ≠ 0) : 0 ≤ (pc : Int) + off ∧ zwt pc off op = op := by
  unfold zwt at h ⊢
  split
  · rename_i h1; exact ⟨h1, rfl⟩
  · rename_i h1; rw [if_neg h1] at h; exact absurd rfl h
theorem zlk_in {α : Type} : ∀ {l : List (Nat × Nat × α)} {oc idx : Nat} {x : α}, zlk l oc idx = some x → (oc, idx, x) ∈ l
  | [], _, _, _, h => by cases h
  | (o, i, y) :: r, oc, idx, x, h => by
    unfold zlk at h
    cases hb : Nat.beq o oc && Nat.beq i idx with
    | false => rw [hb] at h; exact List.mem_cons_of_mem _ (zlk_in h)
    | true =>
      rw [hb] at h
      cases h
      rw [Bool.and_eq_true] at hb
      rw [nbt hb.1, nbt hb.2]
      exact List.mem_cons_self
theorem zx_lmy : ∀ q ∈ zLm, q.2.2.1 < 243 ∧ (q.2.2.2 = 0 ∨ q.2.2.2 = 1) := by decide +kernel
theorem zbif {b : Bool} {op : ZOp} (h : (bif b then op else oNone).1 ≠ 0) : b = true ∧ (bif b then op else oNone) = op := by
  cases b with
  | false => exact absurd rfl h
  | true => exact ⟨rfl, rfl⟩
theorem zc_static {m pc j len : Nat} (h : (zcomp m pc (.invokestatic j) len).1 ≠ 0) : len = 3 ∧ ((∃ y cc, (zcn m, j, y, 0) ∈ zLm ∧ (zpar y).2 = 1 ∧ zcomp m pc (.invokestatic j) len = oCall (pc + 3) y (zpar y).1 1 cc) ∨ ((zcn m, j, ()) ∈ zLcp ∧ zcomp m pc (.invokestatic j) len = oCopy (pc + 3)) ∨ ((zcn m, j, ()) ∈ zLmx ∧ zcomp m pc (.invokestatic j) len = oBin (pc + 3) 9)) := by
  have rest : (match zlk zLcp (zcn m) j with | some _ => zw 3 len (oCopy (pc + 3)) | none => (match zlk zLmx (zcn m) j with | some _ => zw 3 len (oBin (pc + 3) 9) | none => oNone)).1 ≠ 0 → len = 3 ∧ (((zcn m, j, ()) ∈ zLcp ∧ (match zlk zLcp (zcn m) j with | some _ => zw 3 len (oCopy (pc + 3)) | none => (match zlk zLmx (zcn m) j with | some _ => zw 3 len (oBin (pc + 3) 9) | none => oNone)) = oCopy (pc + 3)) ∨ ((zcn m, j, ()) ∈ zLmx ∧ (match zlk zLcp (zcn m) j with | some _ => zw 3 len (oCopy (pc + 3)) | none => (match zlk zLmx (zcn m) j with | some _ => zw 3 len (oBin (pc + 3) 9) | none => oNone)) = oBin (pc + 3) 9)) := by
    intro h
    cases h1 : zlk zLcp (zcn m) j with
    | some u =>
      rw [h1] at h
      obtain ⟨e1, e2⟩ := zw_ne h
      exact ⟨e1, Or.inl ⟨zlk_in h1, e2⟩⟩
    | none =>
      cases h2 : zlk zLmx (zcn m) j with
      | some u =>
        rw [h1, h2] at h
        obtain ⟨e1, e2⟩ := zw_ne h
        exact ⟨e1, Or.inr ⟨zlk_in h2, e2⟩⟩
      | none =>
        rw [h1, h2] at h
        exact absurd rfl h
  cases h1 : zlk zLm (zcn m) j with
  | none =>
    simp only [zcomp, h1] at h ⊢
    obtain ⟨e1, e2⟩ := rest h
    exact ⟨e1, Or.inr e2⟩
  | some q =>
    obtain ⟨y, b⟩ := q
    cases b with
    | zero =>
      simp only [zcomp, h1] at h ⊢
      obtain ⟨b1, e1⟩ := zbif h
      rw [e1] at h ⊢
      obtain ⟨rfl, e2⟩ := zw_ne h
      exact ⟨rfl, Or.inl ⟨y, _, zlk_in h1, nbt b1, e2⟩⟩
    | succ b =>
      simp only [zcomp, h1] at h ⊢
      obtain ⟨e1, e2⟩ := rest h
      exact ⟨e1, Or.inr e2⟩
theorem zc_virtual {m pc j len : Nat} (h : (zcomp m pc (.invokevirtual j) len).1 ≠ 0) : len = 3 ∧ ∃ y, (zcn m, j, y, 0) ∈ zLm ∧ (zpar y).2 = 0 ∧ zrk y ≠ 6 ∧ zcomp m pc (.invokevirtual j) len = oCall (pc + 3) y ((zpar y).1 + 1) 0 (zcn y) := by
  cases h1 : zlk zLm (zcn m) j with
  | none =>
    simp only [zcomp, h1] at h
    exact absurd rfl h
  | some q =>
    obtain ⟨y, b⟩ := q
    cases b with
    | zero =>
      simp only [zcomp, h1] at h ⊢
      obtain ⟨b1, e1⟩ := zbif h
      rw [e1] at h ⊢
      obtain ⟨rfl, e2⟩ := zw_ne h
      rw [Bool.and_eq_true] at b1
      exact ⟨rfl, y, zlk_in h1, nbt b1.1, fun z => by rw [z] at b1; exact absurd b1.2 (by decide), e2⟩
    | succ b =>
      simp only [zcomp, h1] at h
      exact absurd rfl h
theorem zc_special {m pc j len : Nat} (h : (zcomp m pc (.invokespecial j) len).1 ≠ 0) : len = 3 ∧ ((∃ y b, (zcn m, j, y, b) ∈ zLm ∧ zrk y = 6 ∧ zcn y < 10 ∧ zcomp m pc (.invokespecial j) len = oCall (pc + 3) y ((zpar y).1 + 1) 2 (zcn y)) ∨ ((zcn m, j, ()) ∈ zLob ∧ zcomp m pc (.invokespecial j) len = oObj (pc + 3))) := by
  cases h1 : zlk zLm (zcn m) j with
  | some q =>
    obtain ⟨y, b⟩ := q
    simp only [zcomp, h1] at h ⊢
    obtain ⟨b1, e1⟩ := zbif h
    rw [e1] at h ⊢
    obtain ⟨rfl, e2⟩ := zw_ne h
    rw [Bool.and_eq_true] at b1
    exact ⟨rfl, Or.inl ⟨y, b, zlk_in h1, nbt b1.1, Nat.ble_eq.mp b1.2, e2⟩⟩
  | none =>
    cases h2 : zlk zLob (zcn m) j with
    | some u =>
      simp only [zcomp, h1, h2] at h ⊢
      obtain ⟨rfl, e2⟩ := zw_ne h
      exact ⟨rfl, Or.inr ⟨zlk_in h2, e2⟩⟩
    | none =>
      simp only [zcomp, h1, h2] at h
      exact absurd rfl h
theorem zc_getf {m pc j len : Nat} (h : (zcomp m pc (.getfield j) len).1 ≠ 0) : len = 3 ∧ ((∃ cc f, (zcn m, j, cc, f) ∈ zLf ∧ zcomp m pc (.getfield j) len = oGet (pc + 3) cc (match (zFk cc f).1 with | 5 => 0 | x => x) f (zfv0 (zFk cc f))) ∨ (∃ x, (zcn m, j, x) ∈ zLsf ∧ zcomp m pc (.getfield j) len = oGet (pc + 3) 10 x 0 zU)) := by
  cases h1 : zlk zLf (zcn m) j with
  | some q =>
    obtain ⟨cc, f⟩ := q
    simp only [zcomp, h1] at h ⊢
    obtain ⟨rfl, e2⟩ := zw_ne h
    exact ⟨rfl, Or.inl ⟨cc, f, zlk_in h1, e2⟩⟩
  | none =>
    cases h2 : zlk zLsf (zcn m) j with
    | some u =>
      simp only [zcomp, h1, h2] at h ⊢
      obtain ⟨rfl, e2⟩ := zw_ne h
      exact ⟨rfl, Or.inr ⟨u, zlk_in h2, e2⟩⟩
    | none =>
      simp only [zcomp, h1, h2] at h
      exact absurd rfl h
theorem zc_putf {m pc j len : Nat} (h : (zcomp m pc (.putfield j) len).1 ≠ 0) : len = 3 ∧ ∃ cc f, (zcn m, j, cc, f) ∈ zLf ∧ zcomp m pc (.putfield j) len = oPut (pc + 3) cc (zFk cc f).1 f (zfv0 (zFk cc f)) ∧ ((zFk cc f).1 = 1 → zcn m = cc ∧ zrk m = 6) := by
  cases h1 : zlk zLf (zcn m) j with
  | some q =>
    obtain ⟨cc, f⟩ := q
    simp only [zcomp, h1] at h ⊢
    obtain ⟨b1, e1⟩ := zbif h
    rw [e1] at h ⊢
    obtain ⟨rfl, e2⟩ := zw_ne h
    refine ⟨rfl, cc, f, zlk_in h1, e2, fun q => ?_⟩
    rw [q] at b1
    have b2 : (Nat.beq (zcn m) cc && Nat.beq (zrk m) 6) = true := b1
    rw [Bool.and_eq_true] at b2
    exact ⟨nbt b2.1, nbt b2.2⟩
  | none =>
    simp only [zcomp, h1] at h
    exact absurd rfl h
/-- one lookup, one operation -/
theorem zc_one {α : Type} {l : List (Nat × Nat × α)} {oc j n len : Nat} {f : α → ZOp} (h : (match zlk l oc j with | some x => zw n len (f x) | none => oNone).1 ≠ 0) : len = n ∧ ∃ x, (oc, j, x) ∈ l ∧ (match zlk l oc j with | some x => zw n len (f x) | none => oNone) = f x := by
  cases h1 : zlk l oc j with
  | some x =>
    rw [h1] at h
    obtain ⟨e1, e2⟩ := zw_ne h
    exact ⟨e1, x, zlk_in h1, e2⟩
  | none =>
    rw [h1] at h
    exact absurd rfl h
