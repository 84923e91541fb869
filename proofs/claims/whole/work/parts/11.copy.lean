theorem zint_nn {z : Int32} (hz : ¬ z < 0) : z.toInt = (zn z : Int) := by
  have hz0 : (0 : Int) ≤ z.toInt := by
    have := Int32.not_lt.mp hz
    simpa using Int32.le_iff_toInt_le.mp this
  show z.toInt = ((z.toInt.toNat : Nat) : Int)
  omega
section ZCP
variable {p : Program} {l : Launch} {e : Env} {R : Room} {s : State} {mi : MethodId} {args : Array Value} {below : List Frame} {meth : Method} {c : Code} {E : ZE} {D : va_G} {cT : Nat → ClassId} {Q : State → Prop} {t0 s0 : Nat} {th : ZT} {L : Nat} {xs : Nat → Int32} {m : Nat}
variable {M : ZM} {pc : Nat} {ls st r : List ZV} {F : List Nat} {H : Heap} {locs : List Loc} {cells slots : Nat}
/-- a stretch of one row comes to another (or the same) -/
theorem z_copy {α : Type} (mk : α → Value) {cc : ByteArray} {Ls : Array Slot} {rest : List Value} (hexec : p.tables.exec = Jvm.exec) (hb : c.code = cc) (hml : c.maxLocals = Ls.size) {own : String} {index : Nat} (hown : s.vm.findClass own = some mi.cls) (hlink : (Cond.methodLink own index arraycopyName).before args s = true) (hnat : (Cond.native arraycopyName).before args s = true) (hstat : (Cond.static arraycopyName).before args s = true) (hini : (Cond.initialized "java/lang/System").before args s = true)
    {a b : Nat} {cA : ClassId} {n0 n1 : Nat} {f g : Nat → α} {ty : FieldType} (hcA : ArrOfT s cA ty) (hc0 : H[a]? = some (arrV cA n0 fun j => mk (f j))) (hc1 : H[b]? = some (arrV cA n1 fun j => mk (g j))) (hprim : refKind ty = false)
    {sp dp n : Int32} (h1 : ¬ sp < 0) (h2 : ¬ dp < 0) (h3 : ¬ n < 0) (h4 : zn sp + zn n ≤ n0) (h5 : zn dp + zn n ≤ n1) (hfit : ∀ x, fits ty (mk x) = true) (htk : ∀ (U : State) (k : ClassId) (x : α), U.takes k (mk x))
    (hframes : 1 ≤ R.frames) (hlocals : (rest.map fun v => v.category).sum + (nativeFrameWords "java/lang/System" "arraycopy" 5 + 11) ≤ R.locals) (hdg : decode cc pc = .ok (.invokestatic index, 3))
    (kk : ∀ (H1 : Heap) (L2 : List Loc), H1[b]? = some (arrV cA n1 fun j => mk (va_cpy f g (zn sp) (zn dp) (zn n) j)) → H1.size = H.size → (∀ q, q ≠ b → H1[q]? = H[q]?) → (∀ q ∈ L2, q.base = b) → W p l e R s mi args below meth c H1 (locs ++ L2) cells slots Q (F0 mi (pc + 3) Ls rest)) : W p l e R s mi args below meth c H locs cells slots Q (F0 mi pc Ls (.int n :: .int dp :: .ref b :: .int sp :: .ref a :: rest)) := by
  intro T hT X
  obtain ⟨-, k0, hk0, cm0, hkk0⟩ := hcA n0 (fun j => mk (f j))
  obtain ⟨-, k1, hk1, cm1, hkk1⟩ := hcA n1 (fun j => mk (g j))
  obtain ⟨vm', X', step⟩ := X.arraycopy hexec hown hlink hnat hstat hini (src := a) (dst := b) (cs := arrV cA n0 fun j => mk (f j)) (cd := arrV cA n1 fun j => mk (g j)) (srcPos := sp) (destPos := dp) (n := n) (by rw [hT]; exact hc0) (by rw [hT]; exact hc1)
    (fun _ h => by cases h) (fun _ h => by cases h) (fun h => by cases h) (fun h => by cases h) hk0 hk1 hkk0 hkk1 (by simp [hprim]) h1 h2 h3
    (by rw [zint_nn h1, zint_nn h3, arrV_size]; omega)
    (by rw [zint_nn h2, zint_nn h3, arrV_size]; omega)
    (fun vm₁ _ i hi => by
      have e : (arrV cA n0 fun j => mk (f j)).slots.getD (sp.toNatClampNeg + i) .null = mk (f (sp.toNatClampNeg + i)) := by
        have hlt : sp.toNatClampNeg + i < n0 := Nat.lt_of_lt_of_le (Nat.add_lt_add_left hi _) h4
        rw [Array.getD_eq_getD_getElem?, arrV_read _ _ hlt]
        rfl
      refine ⟨?_, ?_⟩
      · rw [e]
        exact hfit _
      · rw [e]
        exact htk _ _ _)
    (g := F0 mi pc Ls (.int n :: .int dp :: .ref b :: .int sp :: .ref a :: rest)) rfl (by rw [hml]) (rest := rest) rfl (by rw [hb]; exact hdg) hframes (by show 2 * 0 + _ + _ ≤ _; omega)
  have e1 : copied (arrV cA n0 fun j => mk (f j)) (arrV cA n1 fun j => mk (g j)) sp dp n = arrV cA n1 fun j => mk (va_cpy f g (zn sp) (zn dp) (zn n) j) := va_copied mk cA cA f g h4
  rw [e1] at X' step
  have hl : b < H.size := (Array.getElem?_eq_some_iff.mp hc1).1
  have hheap : ((T.setVm vm').setCell b (arrV cA n1 fun j => mk (va_cpy f g (zn sp) (zn dp) (zn n) j))).heap = H.setIfInBounds b (arrV cA n1 fun j => mk (va_cpy f g (zn sp) (zn dp) (zn n) j)) := by rw [← hT]; rfl
  obtain ⟨t, a1, b1⟩ := kk (H.setIfInBounds b (arrV cA n1 fun j => mk (va_cpy f g (zn sp) (zn dp) (zn n) j))) _ (by simp [Array.getElem?_setIfInBounds, hl]) (by simp) (fun q hq => by simp [Array.getElem?_setIfInBounds, Ne.symm hq]) (fun q hq => by
      obtain ⟨z, -, hz⟩ := List.mem_map.mp hq
      rw [← hz]) _ hheap X'
  exact ⟨t, step t a1, b1⟩
theorem so_copy (C : ZC p s mi args meth c E D cT L xs m) {j : Nat} {x d s' : Int32} {t1 b t0' a : Nat} (hq : (zcn m, j, ()) ∈ zLcp) (hls : ls.length = znl m) (h0 : 100 ≤ t0') (h1' : 100 ≤ t1) (hty : zty t0' = zty t1) (ha : a ≠ 0) (hb : b ≠ 0) (hr : r.length ≤ 4) (hin : ¬ (s' < 0 ∨ d < 0 ∨ x < 0 ∨ zlen t0' < zn s' + zn x ∨ zlen t1 < zn d + zn x)) (hroom : 1 ≤ R.frames ∧ 40 ≤ R.locals) (hd : decode (zby m) pc = .ok (.invokestatic j, 3))
    {M' : ZM} (hM : (zty t0' = 0 ∧ M' = (zcp M.1 a (zn s') b (zn d) (zn x), M.2)) ∨ (zty t0' = 1 ∧ M' = (M.1, zcp M.2.1 a (zn s') b (zn d) (zn x), M.2.2)))
    (k : ZG p l e R s mi args below meth c E D cT L xs Q t0 s0 th M' (pc + 3) ls r F) : ZG p l e R s mi args below meth c E D cT L xs Q t0 s0 th M pc ls (zI x :: zI d :: zR t1 b :: zI s' :: zR t0' a :: r) F := by
  intro fl H locs Ls h1 h2 h3 h4 h5 h6 h7 h8 h9
  obtain ⟨g1, g2, g3, g4⟩ := zrow h1 h1' (zok_hd (zok_tl (zok_tl h8)))
  obtain ⟨f1, f2, f3, f4⟩ := zrow h1 h0 (zok_hd (zok_tl (zok_tl (zok_tl (zok_tl h8)))))
  rw [List.map_cons, List.map_cons, List.map_cons, List.map_cons, List.map_cons, zcv_own (t := t1) (by omega) hb, zcv_own (t := t0') (by omega) ha]
  have hms := zall_in zx_misc0
  have hl := zall_in zx_lcp0 _ hq
  dsimp only at hl
  have hs2 := zcat_sum (E := E) r
  have hnat : nativeFrameWords "java/lang/System" "arraycopy" 5 + 11 ≤ 30 := by decide +kernel
  have i1 : ¬ s' < 0 := fun z => hin (Or.inl z)
  have i2 : ¬ d < 0 := fun z => hin (Or.inr (Or.inl z))
  have i3 : ¬ x < 0 := fun z => hin (Or.inr (Or.inr (Or.inl z)))
  have i4 : zn s' + zn x ≤ zlen t0' := Nat.not_lt.mp fun z => hin (Or.inr (Or.inr (Or.inr (Or.inl z))))
  have i5 : zn d + zn x ≤ zlen t1 := Nat.not_lt.mp fun z => hin (Or.inr (Or.inr (Or.inr (Or.inr z))))
  have fin : ∀ (H1 : Heap) (L2 : List Loc), H1[E.1 + b]? = some (arrV (cT (zty t1)) (zlen t1) (zav M' b t1)) → H1.size = H.size → (∀ q, q ≠ E.1 + b → H1[q]? = H[q]?) → (∀ q ∈ L2, q.base = E.1 + b) → (ztop M' = ztop M ∧ zsl M' = zsl M ∧ (∀ b' k, b' ≠ b → M'.1 b' k = M.1 b' k) ∧ (∀ b' k, b' ≠ b → M'.2.1 b' k = M.2.1 b' k) ∧ M'.2.2.1 = M.2.2.1 ∧ M'.2.2.2.2.2 = M.2.2.2.2.2) → W p l e R s mi args below meth c H1 (locs ++ L2) (ztop M - t0) (zsl M - s0) Q (F0 mi (pc + 3) Ls (r.map (zcv E))) := by
    intro H1 L2 e1 e2 e3 e4 ⟨htop, hsl, hI, hJ, hR, hLen⟩
    have w2 := k fl H1 (locs ++ L2) Ls (h1.frame (a := b) (fl' := fl) e2 htop e3 hI hJ (fun b k _ => by rw [hR]) (fun _ _ _ => rfl) (fun _ _ => ⟨fun z => by omega, fun z => by rw [g2]; exact e1⟩)) ⟨fun b k' b1 b2 b3 b4 => by rw [htop] at b2 ⊢; rw [hR]; exact h2.1 b k' b1 b2 b3 b4, by rw [htop]; exact h2.2.1, fun j => by rw [hI 0 j (Ne.symm hb)]; exact h2.2.2.1 j, by rw [hLen]; exact h2.2.2.2⟩ ⟨by rw [e2]; exact h3.1, fun q q1 q2 => by rw [e3 q (fun z => q2 (by rw [z]; show E.1 < E.1 + b; omega))]; exact h3.2.1 q q1 q2, fun q hq => ?_⟩ (by rw [htop]; exact h4) (by rw [hsl]; exact h5) h6 (by rw [htop]; exact h7) (by rw [htop]; exact zok_tl (zok_tl (zok_tl (zok_tl (zok_tl h8))))) (by rw [htop]; exact h9)
    · rw [htop, hsl] at w2
      exact w2
    · rcases List.mem_append.mp hq with h | h
      · exact h3.2.2 q h
      · rw [e4 q h]; show E.1 < E.1 + b; omega
  have hml : c.maxLocals = Ls.size := by rw [C.2.2.1, h6.1, hls]
  have hown := C.2.2.2.1
  rcases hM with ⟨hz, rfl⟩ | ⟨hz, rfl⟩
  · have hz1 : zty t1 = 0 := by rw [← hty]; exact hz
    rw [hz] at f1
    rw [hz1] at g1 fin
    have ea : ∀ (a t : Nat) (M : ZM), zty t = 0 → zav M a t = fun j => Value.int (M.1 a j) := fun a t M h => by funext j; unfold zav; rw [if_neg (by omega)]
    rw [ea a t0' M hz] at f1
    rw [ea b t1 M hz1] at g1
    refine z_copy (fun z => Value.int z) (ty := .int) C.1 C.2.1 hml hown (C.2.2.2.2.1 _ hl) (C.2.2.2.2.1 _ (hms (.native arraycopyName) (by simp))) (C.2.2.2.2.1 _ (hms (.static arraycopyName) (by simp))) (C.2.2.2.2.1 _ (hms (.initialized "java/lang/System") (by simp))) (zarr C).1 f1 g1 rfl i1 i2 i3 i4 i5 (fun _ => rfl) (fun _ _ _ => trivial) hroom.1 (by omega) hd (fun H1 L2 e1 e2 e3 e4 => fin H1 L2 ?_ e2 e3 e4 ⟨rfl, rfl, fun b' k' hb' => ?_, fun _ _ _ => rfl, rfl, rfl⟩)
    · rw [e1, ea b t1 _ hz1]
      congr 2
      funext q
      dsimp only
      rw [zcp_eq]
      unfold va_cpy
      simp
    · show zcp M.1 a (zn s') b (zn d) (zn x) b' k' = _
      rw [zcp_eq, if_neg (fun q => hb' q.1)]
  · have hz1 : zty t1 = 1 := by rw [← hty]; exact hz
    rw [hz] at f1
    rw [hz1] at g1 fin
    have ea : ∀ (a t : Nat) (M : ZM), zty t = 1 → zav M a t = fun j => Value.long (M.2.1 a j) := fun a t M h => by funext j; unfold zav; rw [if_pos h]
    rw [ea a t0' M hz] at f1
    rw [ea b t1 M hz1] at g1
    refine z_copy (fun z => Value.long z) (ty := .long) C.1 C.2.1 hml hown (C.2.2.2.2.1 _ hl) (C.2.2.2.2.1 _ (hms (.native arraycopyName) (by simp))) (C.2.2.2.2.1 _ (hms (.static arraycopyName) (by simp))) (C.2.2.2.2.1 _ (hms (.initialized "java/lang/System") (by simp))) (zarr C).2.1 f1 g1 rfl i1 i2 i3 i4 i5 (fun _ => rfl) (fun _ _ _ => trivial) hroom.1 (by omega) hd (fun H1 L2 e1 e2 e3 e4 => fin H1 L2 ?_ e2 e3 e4 ⟨rfl, rfl, fun _ _ _ => rfl, fun b' k' hb' => ?_, rfl, rfl⟩)
    · rw [e1, ea b t1 _ hz1]
      congr 2
      funext q
      dsimp only
      rw [zcp_eq]
      unfold va_cpy
      simp
    · show zcp M.2.1 a (zn s') b (zn d) (zn x) b' k' = _
      rw [zcp_eq, if_neg (fun q => hb' q.1)]
theorem so_max (C : ZC p s mi args meth c E D cT L xs m) {x y : Int32} {j : Nat} (hq : (zcn m, j, ()) ∈ zLmx) (hr : r.length ≤ 4) (hls : ls.length = znl m) (hroom : 1 ≤ R.frames ∧ 40 ≤ R.locals ∧ ztop M - t0 ≤ R.cells ∧ zsl M - s0 ≤ R.slots) (hd : decode (zby m) pc = .ok (.invokestatic j, 3)) (k : ZG p l e R s mi args below meth c E D cT L xs Q t0 s0 th M (pc + 3) ls (zI (zbin 9 x y) :: r) F) : ZG p l e R s mi args below meth c E D cT L xs Q t0 s0 th M pc ls (zI y :: zI x :: r) F := by
  intro fl H locs Ls h1 h2 h3 h4 h5 h6 h7 h8 h9
  have w := k fl H locs Ls h1 h2 h3 h4 h5 h6 h7 (zok_cons zok_int (zok_tl (zok_tl h8))) h9
  have hl := zall_in zx_lmx0 _ hq
  have hm0 := zall_in zx_mx0
  have hs2 := zcat_sum (E := E) r
  exact va_mmax C.1 C.2.1 (by rw [C.2.2.1, h6.1, hls]) C.2.2.2.1 (C.2.2.2.2.1 _ hl) (C.2.2.2.2.1 _ (hm0 (.static Lib.Math.max.name) (by simp))) (C.2.2.2.2.1 _ (hm0 (.initialized "java/lang/Math") (by simp))) (C.2.2.2.2.1 _ (zWs_of (List.mem_of_getElem? zx_mx1) rfl)) hroom.1 (by omega) hroom.2.2.1 hroom.2.2.2 hd w
theorem so_alenO' (C : ZC p s mi args meth c E D cT L xs m) {t a : Nat} (ht : 100 ≤ t) (ha : a ≠ 0) (hd : decode (zby m) pc = .ok (.arraylength, 1)) (k : ZG p l e R s mi args below meth c E D cT L xs Q t0 s0 th M (pc + 1) ls (zI (Int32.ofNat (zlen t)) :: r) F) : ZG p l e R s mi args below meth c E D cT L xs Q t0 s0 th M pc ls (zR t a :: r) F :=
  fun fl H locs Ls h1 h2 h3 h4 h5 h6 h7 h8 h9 => so_alenO C ht (by
    obtain ⟨g1, g2, g3, g4⟩ := zrow h1 ht (zok_hd h8)
    have := (zS_small (a := a) (by omega)).2
    rw [g2] at this
    exact this) ha hd k fl H locs Ls h1 h2 h3 h4 h5 h6 h7 h8 h9
theorem so_alenB' (C : ZC p s mi args meth c E D cT L xs m) {a : Nat} (hd : decode (zby m) pc = .ok (.arraylength, 1)) (k : ZG p l e R s mi args below meth c E D cT L xs Q t0 s0 th M (pc + 1) ls (zI (Int32.ofNat (zSB a).length) :: r) F) : ZG p l e R s mi args below meth c E D cT L xs Q t0 s0 th M pc ls (zR 15 a :: r) F :=
  fun fl H locs Ls h1 h2 h3 h4 h5 h6 h7 h8 h9 => so_alenB C ((zok_hd h8 : zokR fl (ztop M) 15 a).2.2.2.1 (Or.inr rfl)) hd k fl H locs Ls h1 h2 h3 h4 h5 h6 h7 h8 h9
theorem so_aldB' (C : ZC p s mi args meth c E D cT L xs m) {i : Int32} {a : Nat} (hin : ¬ (i < 0 ∨ (zSB a).length ≤ zn i)) (hd : decode (zby m) pc = .ok (.baload, 1)) (k : ZG p l e R s mi args below meth c E D cT L xs Q t0 s0 th M (pc + 1) ls (zI ((zSB a).getD (zn i) 0) :: r) F) : ZG p l e R s mi args below meth c E D cT L xs Q t0 s0 th M pc ls (zI i :: zR 15 a :: r) F :=
  fun fl H locs Ls h1 h2 h3 h4 h5 h6 h7 h8 h9 => so_aldB C ((zok_hd (zok_tl h8) : zokR fl (ztop M) 15 a).2.2.2.1 (Or.inr rfl)) hin hd k fl H locs Ls h1 h2 h3 h4 h5 h6 h7 h8 h9
end ZCP
