theorem zw_ne {l len : Nat} {op : ZOp} (h : (zw l len op).1 ≠ 0) : len = l ∧ zw l len op = op := by
  unfold zw at h ⊢
  cases hb : Nat.beq len l with
  | false => rw [hb] at h; exact absurd rfl h
  | true => exact ⟨nbt hb, rfl⟩
theorem zwt_ne {pc : Nat} {off : Int} {op : ZOp} (h : (zwt pc off op).1 ≠ 0) : 0 ≤ (pc : Int) + off ∧ zwt pc off op = op := by
  unfold zwt at h ⊢
  split
  · rename_i h1; exact ⟨h1, rfl⟩
  · rename_i h1; rw [if_neg h1] at h; exact absurd rfl h
theorem zlk_in {α : Type} : ∀ {l : List (Nat × Nat × α)} {oc idx : Nat} {x : α}, zlk l oc idx = some x → (oc, idx, x) ∈ l
  | [], _, _, _, h => by cases h
  | (o, i, y) :: r, oc, idx, x, h => by
    unfold zlk at h
    cases hb : Nat.beq o oc && Nat.beq i idx with
    | false => rw [hb] at h; exact List.mem_cons_of_mem _ (zlk_in h)
    | true =>
      rw [hb] at h
      cases h
      rw [Bool.and_eq_true] at hb
      rw [nbt hb.1, nbt hb.2]
      exact List.mem_cons_self
theorem zx_lmy : ∀ q ∈ zLm, q.2.2.1 < 243 ∧ (q.2.2.2 = 0 ∨ q.2.2.2 = 1) := by decide +kernel
theorem zbif {b : Bool} {op : ZOp} (h : (bif b then op else oNone).1 ≠ 0) : b = true ∧ (bif b then op else oNone) = op := by
  cases b with
  | false => exact absurd rfl h
  | true => exact ⟨rfl, rfl⟩
theorem zc_static {m pc j len : Nat} (h : (zcomp m pc (.invokestatic j) len).1 ≠ 0) : len = 3 ∧ ((∃ y cc, (zcn m, j, y, 0) ∈ zLm ∧ (zpar y).2 = 1 ∧ zcomp m pc (.invokestatic j) len = oCall (pc + 3) y (zpar y).1 1 cc) ∨ ((zcn m, j, ()) ∈ zLcp ∧ zcomp m pc (.invokestatic j) len = oCopy (pc + 3)) ∨ ((zcn m, j, ()) ∈ zLmx ∧ zcomp m pc (.invokestatic j) len = oMax (pc + 3))) := by
  have rest : (match zlk zLcp (zcn m) j with | some _ => zw 3 len (oCopy (pc + 3)) | none => (match zlk zLmx (zcn m) j with | some _ => zw 3 len (oMax (pc + 3)) | none => oNone)).1 ≠ 0 → len = 3 ∧ (((zcn m, j, ()) ∈ zLcp ∧ (match zlk zLcp (zcn m) j with | some _ => zw 3 len (oCopy (pc + 3)) | none => (match zlk zLmx (zcn m) j with | some _ => zw 3 len (oMax (pc + 3)) | none => oNone)) = oCopy (pc + 3)) ∨ ((zcn m, j, ()) ∈ zLmx ∧ (match zlk zLcp (zcn m) j with | some _ => zw 3 len (oCopy (pc + 3)) | none => (match zlk zLmx (zcn m) j with | some _ => zw 3 len (oMax (pc + 3)) | none => oNone)) = oMax (pc + 3))) := by
    intro h
    cases h1 : zlk zLcp (zcn m) j with
    | some u =>
      rw [h1] at h
      obtain ⟨e1, e2⟩ := zw_ne h
      exact ⟨e1, Or.inl ⟨zlk_in h1, e2⟩⟩
    | none =>
      cases h2 : zlk zLmx (zcn m) j with
      | some u =>
        rw [h1, h2] at h
        obtain ⟨e1, e2⟩ := zw_ne h
        exact ⟨e1, Or.inr ⟨zlk_in h2, e2⟩⟩
      | none =>
        rw [h1, h2] at h
        exact absurd rfl h
  cases h1 : zlk zLm (zcn m) j with
  | none =>
    simp only [zcomp, h1] at h ⊢
    obtain ⟨e1, e2⟩ := rest h
    exact ⟨e1, Or.inr e2⟩
  | some q =>
    obtain ⟨y, b⟩ := q
    cases b with
    | zero =>
      simp only [zcomp, h1] at h ⊢
      obtain ⟨b1, e1⟩ := zbif h
      rw [e1] at h ⊢
      obtain ⟨rfl, e2⟩ := zw_ne h
      exact ⟨rfl, Or.inl ⟨y, _, zlk_in h1, nbt b1, e2⟩⟩
    | succ b =>
      simp only [zcomp, h1] at h ⊢
      obtain ⟨e1, e2⟩ := rest h
      exact ⟨e1, Or.inr e2⟩
theorem zc_virtual {m pc j len : Nat} (h : (zcomp m pc (.invokevirtual j) len).1 ≠ 0) : len = 3 ∧ ∃ y, (zcn m, j, y, 0) ∈ zLm ∧ (zpar y).2 = 0 ∧ zrk y ≠ 6 ∧ zcomp m pc (.invokevirtual j) len = oCall (pc + 3) y ((zpar y).1 + 1) 0 (zcn y) := by
  cases h1 : zlk zLm (zcn m) j with
  | none =>
    simp only [zcomp, h1] at h
    exact absurd rfl h
  | some q =>
    obtain ⟨y, b⟩ := q
    cases b with
    | zero =>
      simp only [zcomp, h1] at h ⊢
      obtain ⟨b1, e1⟩ := zbif h
      rw [e1] at h ⊢
      obtain ⟨rfl, e2⟩ := zw_ne h
      rw [Bool.and_eq_true] at b1
      exact ⟨rfl, y, zlk_in h1, nbt b1.1, fun z => by rw [z] at b1; exact absurd b1.2 (by decide), e2⟩
    | succ b =>
      simp only [zcomp, h1] at h
      exact absurd rfl h
theorem zc_special {m pc j len : Nat} (h : (zcomp m pc (.invokespecial j) len).1 ≠ 0) : len = 3 ∧ ((∃ y b, (zcn m, j, y, b) ∈ zLm ∧ zrk y = 6 ∧ zcn y < 10 ∧ zcomp m pc (.invokespecial j) len = oCall (pc + 3) y ((zpar y).1 + 1) 2 (zcn y)) ∨ ((zcn m, j, ()) ∈ zLob ∧ zcomp m pc (.invokespecial j) len = oObj (pc + 3))) := by
  cases h1 : zlk zLm (zcn m) j with
  | some q =>
    obtain ⟨y, b⟩ := q
    simp only [zcomp, h1] at h ⊢
    obtain ⟨b1, e1⟩ := zbif h
    rw [e1] at h ⊢
    obtain ⟨rfl, e2⟩ := zw_ne h
    rw [Bool.and_eq_true] at b1
    exact ⟨rfl, Or.inl ⟨y, b, zlk_in h1, nbt b1.1, Nat.ble_eq.mp b1.2, e2⟩⟩
  | none =>
    cases h2 : zlk zLob (zcn m) j with
    | some u =>
      simp only [zcomp, h1, h2] at h ⊢
      obtain ⟨rfl, e2⟩ := zw_ne h
      exact ⟨rfl, Or.inr ⟨zlk_in h2, e2⟩⟩
    | none =>
      simp only [zcomp, h1, h2] at h
      exact absurd rfl h
theorem zc_getf {m pc j len : Nat} (h : (zcomp m pc (.getfield j) len).1 ≠ 0) : len = 3 ∧ ((∃ cc f, (zcn m, j, cc, f) ∈ zLf ∧ zcomp m pc (.getfield j) len = oGet (pc + 3) cc (match (zFk cc f).1 with | 5 => 0 | x => x) f (zfv0 (zFk cc f))) ∨ (∃ x, (zcn m, j, x) ∈ zLsf ∧ zcomp m pc (.getfield j) len = oGet (pc + 3) 10 x 0 zU)) := by
  cases h1 : zlk zLf (zcn m) j with
  | some q =>
    obtain ⟨cc, f⟩ := q
    simp only [zcomp, h1] at h ⊢
    obtain ⟨rfl, e2⟩ := zw_ne h
    exact ⟨rfl, Or.inl ⟨cc, f, zlk_in h1, e2⟩⟩
  | none =>
    cases h2 : zlk zLsf (zcn m) j with
    | some u =>
      simp only [zcomp, h1, h2] at h ⊢
      obtain ⟨rfl, e2⟩ := zw_ne h
      exact ⟨rfl, Or.inr ⟨u, zlk_in h2, e2⟩⟩
    | none =>
      simp only [zcomp, h1, h2] at h
      exact absurd rfl h
theorem zc_putf {m pc j len : Nat} (h : (zcomp m pc (.putfield j) len).1 ≠ 0) : len = 3 ∧ ∃ cc f, (zcn m, j, cc, f) ∈ zLf ∧ zcomp m pc (.putfield j) len = oPut (pc + 3) cc (zFk cc f).1 f (zfv0 (zFk cc f)) ∧ ((zFk cc f).1 = 1 → zcn m = cc ∧ zrk m = 6) := by
  cases h1 : zlk zLf (zcn m) j with
  | some q =>
    obtain ⟨cc, f⟩ := q
    simp only [zcomp, h1] at h ⊢
    obtain ⟨b1, e1⟩ := zbif h
    rw [e1] at h ⊢
    obtain ⟨rfl, e2⟩ := zw_ne h
    refine ⟨rfl, cc, f, zlk_in h1, e2, fun q => ?_⟩
    rw [q] at b1
    have b2 : (Nat.beq (zcn m) cc && Nat.beq (zrk m) 6) = true := b1
    rw [Bool.and_eq_true] at b2
    exact ⟨nbt b2.1, nbt b2.2⟩
  | none =>
    simp only [zcomp, h1] at h
    exact absurd rfl h
/-- one lookup, one operation -/
theorem zc_one {α : Type} {l : List (Nat × Nat × α)} {oc j n len : Nat} {f : α → ZOp} (h : (match zlk l oc j with | some x => zw n len (f x) | none => oNone).1 ≠ 0) : len = n ∧ ∃ x, (oc, j, x) ∈ l ∧ (match zlk l oc j with | some x => zw n len (f x) | none => oNone) = f x := by
  cases h1 : zlk l oc j with
  | some x =>
    rw [h1] at h
    obtain ⟨e1, e2⟩ := zw_ne h
    exact ⟨e1, x, zlk_in h1, e2⟩
  | none =>
    rw [h1] at h
    exact absurd rfl h
theorem zx_lm10 : ∀ q ∈ zLm, (zpar q.2.2.1).2 = 0 → zrk q.2.2.1 ≠ 6 → zcn q.2.2.1 ≤ 10 := by decide +kernel
theorem zx_ini2 : ∀ y, y < 243 → zrk y = 6 → (zpar y).2 = 0 := by decide +kernel
theorem zsplit {α : Type} {st : List α} {n : Nat} {x : α} {as : List α} (h : (st.take n).reverse = x :: as) (hn : n ≤ st.length) : st = as.reverse ++ x :: st.drop n ∧ as.length + 1 = n := by
  have h1 : st.take n = (x :: as).reverse := by rw [← h, List.reverse_reverse]
  refine ⟨?_, ?_⟩
  · conv => lhs; rw [← List.take_append_drop n st, h1, List.reverse_cons, List.append_assoc]
    rfl
  · have h2 := congrArg List.length h1
    rw [List.length_take, List.length_reverse, List.length_cons, Nat.min_eq_left hn] at h2
    omega
theorem zcall0 {H : ZH} {y ar c n : Nat} {M : ZM} {ls st : List ZV} {F : List Nat} {k : ZK} {r : ZM × Option ZV} (h : zsCall H y (ar + 1) 0 c n M ls st F k = some r) : ∃ a as rest M1 v1, st = as.reverse ++ zR c a :: rest ∧ as.length = ar ∧ a ≠ 0 ∧ rest.length ≤ 4 ∧ H y (zR c a :: as) M = some (M1, v1) ∧ k M1 n ls (zpush v1 rest) F = some r := by
  unfold zsCall at h
  cases hb : Nat.ble (st.drop (ar + 1)).length 4 && Nat.ble (ar + 1) st.length with
  | false => rw [hb] at h; cases h
  | true =>
    rw [hb] at h
    simp only [cond_true] at h
    rw [Bool.and_eq_true] at hb
    split at h
    · rename_i t a as hst
      cases hb2 : Nat.beq t c && !(Nat.beq a 0) with
      | false => rw [hb2] at h; cases h
      | true =>
        rw [hb2] at h
        simp only [cond_true] at h
        rw [Bool.and_eq_true] at hb2
        have ht := nbt hb2.1
        subst ht
        obtain ⟨s1, s2⟩ := zsplit hst (Nat.ble_eq.mp hb.2)
        split at h
        · rename_i M1 v1 hr
          exact ⟨a, as, _, M1, v1, s1, by omega, fun q => by rw [q] at hb2; exact absurd hb2.2 (by decide), Nat.ble_eq.mp hb.1, hr, h⟩
        · cases h
    · cases h
theorem zcall1 {H : ZH} {y ar c n : Nat} {M : ZM} {ls st : List ZV} {F : List Nat} {k : ZK} {r : ZM × Option ZV} (h : zsCall H y ar 1 c n M ls st F k = some r) : ∃ as rest M1 v1, st = as.reverse ++ rest ∧ as.length = ar ∧ rest.length ≤ 4 ∧ H y as M = some (M1, v1) ∧ k M1 n ls (zpush v1 rest) F = some r := by
  unfold zsCall at h
  cases hb : Nat.ble (st.drop ar).length 4 && Nat.ble ar st.length with
  | false => rw [hb] at h; cases h
  | true =>
    rw [hb] at h
    simp only [cond_true] at h
    rw [Bool.and_eq_true] at hb
    split at h
    · rename_i M1 v1 hr
      refine ⟨(st.take ar).reverse, st.drop ar, M1, v1, by rw [List.reverse_reverse, List.take_append_drop], ?_, Nat.ble_eq.mp hb.1, hr, h⟩
      rw [List.length_reverse, List.length_take, Nat.min_eq_left (Nat.ble_eq.mp hb.2)]
    · cases h
theorem zcall2 {H : ZH} {y ar c n : Nat} {M : ZM} {ls st : List ZV} {F : List Nat} {k : ZK} {r : ZM × Option ZV} (h : zsCall H y (ar + 1) 2 c n M ls st F k = some r) : ∃ a as rest M1, st = as.reverse ++ zR (20 + c) a :: zR (20 + c) a :: rest ∧ as.length = ar ∧ a ≠ 0 ∧ rest.length ≤ 3 ∧ H y (zR (20 + c) a :: as) M = some (M1, none) ∧ k M1 n ls (zR c a :: rest) F = some r := by
  unfold zsCall at h
  cases hb : Nat.ble (st.drop (ar + 1)).length 4 && Nat.ble (ar + 1) st.length with
  | false => rw [hb] at h; cases h
  | true =>
    rw [hb] at h
    simp only [cond_true] at h
    rw [Bool.and_eq_true] at hb
    split at h
    · rename_i t a as t2 a2 r2 hst hdr
      cases hb2 : Nat.beq t (20 + c) && Nat.beq t2 (20 + c) && Nat.beq a a2 && !(Nat.beq a 0) with
      | false => rw [hb2] at h; cases h
      | true =>
        rw [hb2] at h
        simp only [cond_true] at h
        simp only [Bool.and_eq_true] at hb2
        have h1 := nbt hb2.1.1.1
        have h2 := nbt hb2.1.1.2
        have h3 := nbt hb2.1.2
        subst h1 h2 h3
        obtain ⟨s1, s2⟩ := zsplit hst (Nat.ble_eq.mp hb.2)
        rw [hdr] at s1
        have hl : r2.length ≤ 3 := by
          have := Nat.ble_eq.mp hb.1
          rw [hdr, List.length_cons] at this
          omega
        split at h
        · rename_i M1 hr
          exact ⟨a, as, r2, M1, s1, by omega, fun q => by rw [q] at hb2; exact absurd hb2.2 (by decide), hl, hr, h⟩
        · cases h
    · cases h
theorem zpick_in {x : Int32} {dd : Nat} {g : Nat → ZRes} {r : ZM × Option ZV} : ∀ {cs : List (Int32 × Nat)}, zpick x dd cs g = some r → ((∀ q ∈ cs, x ≠ q.1) ∧ g dd = some r) ∨ ∃ (i : Nat) (q : Int32 × Nat), cs[i]? = some q ∧ x = q.1 ∧ (∀ (j : Nat) (q' : Int32 × Nat), j < i → cs[j]? = some q' → x ≠ q'.1) ∧ g q.2 = some r
  | [], h => Or.inl ⟨fun _ q => absurd q List.not_mem_nil, h⟩
  | (v, t) :: cs, h => by
    unfold zpick at h
    split at h
    · rename_i hx
      exact Or.inr ⟨0, (v, t), rfl, hx, fun j _ hj => absurd hj (Nat.not_lt_zero _), h⟩
    · rename_i hx
      rcases zpick_in h with ⟨h1, h2⟩ | ⟨i, q, h1, h2, h3, h4⟩
      · refine Or.inl ⟨fun q hq => ?_, h2⟩
        rcases List.mem_cons.mp hq with rfl | hq
        · exact hx
        · exact h1 q hq
      · refine Or.inr ⟨i + 1, q, h1, h2, fun j q' hj hq' => ?_, h4⟩
        cases j with
        | zero => cases hq'; exact hx
        | succ j => exact h3 j q' (by omega) hq'
theorem zofInt {z : Int} (h1 : -2147483648 ≤ z) (h2 : z < 2147483648) : (Int32.ofInt z).toInt = z := Int32.toInt_ofInt_of_le (by simpa using h1) (by simpa using h2)
theorem zpick_table {x : Int32} {pc : Nat} {dd lo hi : Int} {offs : Array Int} {g : Nat → ZRes} {r : ZM × Option ZV} (h : zpick x (zt pc dd) (offs.toList.zipIdx.map fun q => (Int32.ofInt (lo + q.2), zt pc q.1)) g = some r) (h2 : hi - lo + 1 = offs.size) (h3 : -2147483648 ≤ lo) (h4 : hi < 2147483648) :
    ∃ t, (((x.toInt < lo ∨ hi < x.toInt) ∧ t = zt pc dd) ∨ (¬ x.toInt < lo ∧ ¬ hi < x.toInt ∧ ∃ off, offs[(x.toInt - lo).toNat]? = some off ∧ t = zt pc off)) ∧ g t = some r := by
  have hget : ∀ i : Nat, (offs.toList.zipIdx.map fun q => (Int32.ofInt (lo + q.2), zt pc q.1))[i]? = offs[i]?.map fun o => (Int32.ofInt (lo + i), zt pc o) := by
    intro i
    rw [List.getElem?_map, List.getElem?_zipIdx, Array.getElem?_toList]
    cases offs[i]? <;> simp
  rcases zpick_in h with ⟨q1, q2⟩ | ⟨i, q, q1, q2, -, q4⟩
  · refine ⟨_, Or.inl ⟨?_, rfl⟩, q2⟩
    rcases Int.lt_or_le x.toInt lo with z1 | z1
    · exact Or.inl z1
    · rcases Int.lt_or_le hi x.toInt with z2 | z2
      · exact Or.inr z2
      · exfalso
        have hlt : (x.toInt - lo).toNat < offs.size := by omega
        have hm := hget (x.toInt - lo).toNat
        rw [Array.getElem?_eq_getElem hlt] at hm
        refine q1 _ (List.mem_of_getElem? hm) ?_
        show x = Int32.ofInt (lo + ((x.toInt - lo).toNat : Nat))
        rw [show lo + ((x.toInt - lo).toNat : Nat) = x.toInt by omega]
        exact (Int32.ofInt_toInt x).symm
  · rw [hget i] at q1
    cases ho : offs[i]? with
    | none => rw [ho] at q1; cases q1
    | some o =>
      rw [ho] at q1
      cases q1
      have hi' : i < offs.size := (Array.getElem?_eq_some_iff.mp ho).1
      have hx : x.toInt = lo + i := by
        rw [q2]
        exact zofInt (by omega) (by omega)
      refine ⟨_, Or.inr ⟨by omega, by omega, o, ?_, rfl⟩, q4⟩
      rw [show (x.toInt - lo).toNat = i by omega]
      exact ho
theorem zpick_look {x : Int32} {pc : Nat} {dd : Int} {ps : Array (Int × Int)} {g : Nat → ZRes} {r : ZM × Option ZV} (h : zpick x (zt pc dd) (ps.toList.map fun q => (Int32.ofInt q.1, zt pc q.2)) g = some r) (h1 : 0 ≤ (pc : Int) + dd) (h2 : ∀ q ∈ ps.toList, 0 ≤ (pc : Int) + q.2 ∧ -2147483648 ≤ q.1 ∧ q.1 < 2147483648) :
    ∃ off, Op.lookupswitch.offset ps.toList dd x.toInt = off ∧ 0 ≤ (pc : Int) + off ∧ g (zt pc off) = some r := by
  revert h h2
  generalize ps.toList = l
  intro h h2
  induction l with
  | nil => exact ⟨dd, rfl, h1, h⟩
  | cons q l ih =>
    obtain ⟨a, o⟩ := q
    have hq := h2 (a, o) List.mem_cons_self
    dsimp only at hq
    rw [List.map_cons] at h
    unfold zpick at h
    split at h
    · rename_i hx
      refine ⟨o, ?_, hq.1, h⟩
      rw [Op.lookupswitch.offset_cons, if_pos]
      rw [hx]
      exact (zofInt hq.2.1 hq.2.2).symm
    · rename_i hx
      obtain ⟨off, g1, g2, g3⟩ := ih h (fun q hm => h2 q (List.mem_cons_of_mem _ hm))
      refine ⟨off, ?_, g2, g3⟩
      rw [lv_osw hx (zofInt hq.2.1 hq.2.2)]
      exact g1
