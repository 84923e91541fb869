section ZN1
variable {p : Program} {l : Launch} {e : Env} {R : Room} {s : State} {mi : MethodId} {args : Array Value} {below : List Frame} {meth : Method} {c : Code} {E : ZE} {D : va_G} {cT : Nat → ClassId} {Q : State → Prop} {t0 s0 : Nat} {th : ZT} {L : Nat} {xs : Nat → Int32} {m : Nat}
variable {M : ZM} {pc : Nat} {ls st r : List ZV} {F : List Nat}
theorem zFk_out {c k : Nat} (hc : c < 10) (h : zN c ≤ k) : (zFk c k).1 ≠ 2 := by
  have hh : ∀ c, c < 10 → ∀ n, n < 100 → zN c ≤ n → (zFk c n).1 ≠ 2 := by decide +kernel
  rcases Nat.lt_or_ge k 100 with q | q
  · exact hh c hc k q h
  · have h2 : ∀ c, c < 10 → zFk c k = (9, 99, 0) := by
      intro c hc
      have hl : ∀ c, c < 10 → (zFkL.getD c []).length ≤ 100 := by decide +kernel
      unfold zFk
      rw [List.getD_eq_getElem?_getD, List.getElem?_eq_none (Nat.le_trans (hl c hc) q)]
      rfl
    rw [h2 c hc]
    decide
/-- a cell comes at the end of the heap -/
theorem ZP.push {fl : Nat → Nat → Bool} {M M' : ZM} {H H' : Heap} (h : ZP E D cT fl M H) (hz : H'.size = H.size + 1) (ht : ztop M' = ztop M + 1) (hq : ∀ q, q < H.size → H'[q]? = H[q]?)
    (hI : ∀ b k, b ≠ ztop M → M'.1 b k = M.1 b k) (hJ : ∀ b k, b ≠ ztop M → M'.2.1 b k = M.2.1 b k) (hR : ∀ b k, b ≠ ztop M → M'.2.2.1 b k = M.2.2.1 b k)
    (hc : zcell E D cT fl M' H' (ztop M)) : ZP E D cT fl M' H' := by
  have h1 := h.1
  refine ⟨by rw [hz, ht]; omega, by omega, fun b b1 b2 => ?_⟩
  rw [ht] at b2
  by_cases hb : b = ztop M
  · subst hb; exact hc
  · obtain ⟨c1, c2⟩ := h.2.2 b b1 (by omega)
    have hqb := hq (E.1 + b) (by omega)
    refine ⟨fun z => ?_, fun z => ?_⟩
    · refine ((c1 z).kept hqb).to (fun k _ => ?_)
      unfold zfv
      rw [hI b k hb, hR b k hb]
    · rw [hqb, c2 z]
      congr 2
      funext j
      unfold zav
      rw [hI b j hb, hJ b j hb]
theorem va_S.psh {A : Nat → Prop} {H0 H H' : Heap} {locs : List Loc} (h : va_S A H0 H locs) (hz : H'.size = H.size + 1) (hq : ∀ q, q < H.size → H'[q]? = H[q]?) : va_S A H0 H' locs :=
  ⟨by have := h.1; omega, fun q h1 h2 => (hq q (Nat.lt_of_lt_of_le h1 h.1)).trans (h.2.1 q h1 h2), h.2.2⟩
theorem zmono {fl : Nat → Nat → Bool} {top top' : Nat} (h : top ≤ top') {l : List ZV} (k : ∀ v ∈ l, zok fl top v) : ∀ v ∈ l, zok fl top' v := fun v hv => (k v hv).mono (fun _ _ z => z) h
theorem zS_small {a : Nat} (h : 100 ≤ zS a) : zlen (zS a) ≤ 1000 ∧ zty (zS a) ≤ 2 := by
  have hk : ∀ a, a < zStb.length → 100 ≤ zS a → zlen (zS a) ≤ 1000 ∧ zty (zS a) ≤ 2 := by decide +kernel
  by_cases h9 : zS a = 99
  · omega
  · exact hk a (zS_lt rfl h9) h
theorem so_newa (C : ZC p s mi args meth c E D cT L xs m) {x : Int32} {ty : Nat} {at0 : ArrayType} (hat : zat at0 = some ty) (hx : ¬ x < 0) (hS : zS (ztop M) = 100 + 4 * zn x + ty) (hroom : ztop M + 1 - t0 ≤ R.cells ∧ zsl M + zn x - s0 ≤ R.slots) (hd : decode (zby m) pc = .ok (.newarray at0, 2)) (k : ZG p l e R s mi args below meth c E D cT L xs Q t0 s0 th (zfill M.1 (ztop M) 0, zfill M.2.1 (ztop M) 0, M.2.2.1, ztop M + 1, zsl M + zn x, M.2.2.2.2.2) (pc + 2) ls (zR (100 + 4 * zn x + ty) (ztop M) :: r) F) : ZG p l e R s mi args below meth c E D cT L xs Q t0 s0 th M pc ls (zI x :: r) F := by
  intro fl H locs Ls h1 h2 h3 h4 h5 h6 h7 h8 h9
  have hty : ty ≤ 2 := by
    cases at0 <;> simp [zat] at hat <;> omega
  have hlen : zlen (zS (ztop M)) = zn x := by rw [hS]; unfold zlen; omega
  have hzt : zty (zS (ztop M)) = ty := by rw [hS]; unfold zty; omega
  have hbnd := (zS_small (a := ztop M) (by omega)).1
  rw [hlen] at hbnd
  have hH := h1.1
  have key : ∀ (H' : Heap), H'[H.size]? = some (arrV (cT ty) (zn x) (fun _ => defaultValue (newarray.typeOf at0))) → H'.size = H.size + 1 → (∀ q, q < H.size → H'[q]? = H[q]?) → W p l e R s mi args below meth c H' locs (ztop M - t0 + 1) (zsl M - s0 + zn x) Q (F0 mi (pc + 2) Ls (.ref H.size :: r.map (zcv E))) := by
    intro H' e1 e2 e3
    have w := k fl H' locs Ls (h1.push e2 rfl e3 (fun b k hb => ?_) (fun b k hb => ?_) (fun _ _ _ => rfl) ⟨fun z => by omega, fun z => ?_⟩) ⟨fun a k' b1 b2 b3 b4 => ?_, fun a k' ha => h2.2.1 a k' (by have : ztop M + 1 ≤ a := ha; omega), fun j => ?_, h2.2.2.2⟩ (h3.psh e2 e3) (Nat.le_succ_of_le h4) (Nat.le_trans h5 (Nat.le_add_right _ _)) h6 (zmono (Nat.le_succ _) h7) (zok_cons (v := zR _ _) (show zokR fl (ztop M + 1) (100 + 4 * zn x + ty) (ztop M) from ⟨fun q => by omega, fun q1 q2 => by omega, fun q => ⟨h1.2.1, Nat.lt_succ_self _, hS⟩, fun q => by omega, by omega⟩) (zmono (Nat.le_succ _) (zok_tl h8))) (h9.mono (fun _ _ z => z) (Nat.le_succ _))
    · rw [List.map_cons, zcv_own (t := 100 + 4 * zn x + ty) (by omega) (by have := h1.2.1; omega)] at w
      have e4 : ztop M + 1 - t0 = ztop M - t0 + 1 := by omega
      have e5 : zsl M + zn x - s0 = zsl M - s0 + zn x := by omega
      rw [hH]
      have w' : W p l e R s mi args below meth c H' locs (ztop M + 1 - t0) (zsl M + zn x - s0) Q (F0 mi (pc + 2) Ls (.ref (E.1 + ztop M) :: r.map (zcv E))) := w
      rw [e4, e5] at w'
      exact w'
    · show zfill M.1 (ztop M) 0 b k = _
      rw [zfill_eq, if_neg hb]
    · show zfill M.2.1 (ztop M) 0 b k = _
      rw [zfill_eq, if_neg hb]
    · rw [hlen, hzt, ← hH, e1]
      congr 2
      funext j
      unfold zav
      rw [hzt]
      dsimp only
      rw [zfill_eq, zfill_eq, if_pos rfl, if_pos rfl]
      cases at0 <;> simp [zat] at hat <;> subst hat <;> rfl
    · have hne : a ≠ ztop M := by rintro rfl; omega
      exact (h2.1 a k' b1 (by have : a < ztop M + 1 := b2; omega) b3 b4).mono (fun _ _ z => z) (Nat.le_succ _)
    · show zfill M.1 (ztop M) 0 0 j = _
      rw [zfill_eq, if_neg (by have := h1.2.1; omega)]
      exact h2.2.2.1 j
  have hK := C.2.2.2.2.2.2.2.2.1
  have hbytes : ∀ n, n ≤ 8 → zn x * n ≤ 536870912 := fun n hn => by
    have : zn x * n ≤ 1000 * 8 := Nat.mul_le_mul hbnd hn
    omega
  have hcells : ztop M - t0 + 1 ≤ R.cells := by omega
  have hslots : zsl M - s0 + zn x ≤ R.slots := by omega
  have hms := zall_in zx_misc0
  cases at0 <;> simp [zat] at hat <;> subst hat
  · refine va_newaK (atype := .boolean) C.1 C.2.1 (C.2.2.2.2.1 _ (hms (.arrayClass .boolean) (by simp))) rfl hd rfl hx rfl (hbytes _ (by decide)) hcells hslots rfl fun H' cA e1 e2 e3 e4 e5 => ?_
    have : cA = cT 2 := Option.some.inj (e5.symm.trans ((hK.2 2 _ rfl).2))
    subst this
    exact key H' e1 e2 e3
  · refine va_newaK (atype := .int) C.1 C.2.1 (C.2.2.2.2.1 _ (hms (.arrayClass .int) (by simp))) rfl hd rfl hx rfl (hbytes _ (by decide)) hcells hslots rfl fun H' cA e1 e2 e3 e4 e5 => ?_
    have : cA = cT 0 := Option.some.inj (e5.symm.trans ((hK.2 0 _ rfl).2))
    subst this
    exact key H' e1 e2 e3
  · refine va_newaK (atype := .long) C.1 C.2.1 (C.2.2.2.2.1 _ (hms (.arrayClass .long) (by simp))) rfl hd rfl hx rfl (hbytes _ (by decide)) hcells hslots rfl fun H' cA e1 e2 e3 e4 e5 => ?_
    have : cA = cT 1 := Option.some.inj (e5.symm.trans ((hK.2 1 _ rfl).2))
    subst this
    exact key H' e1 e2 e3
theorem so_new (C : ZC p s mi args meth c E D cT L xs m) {j cc : Nat} (hq : (zcn m, j, cc) ∈ zLc) (hcc : cc < 10) (hS : zS (ztop M) = cc) (hroom : ztop M + 1 - t0 ≤ R.cells ∧ zsl M + zN cc - s0 ≤ R.slots) (hd : decode (zby m) pc = .ok (.new j, 3)) (k : ZG p l e R s mi args below meth c E D cT L xs Q t0 s0 th (zfill M.1 (ztop M) 0, M.2.1, zfill M.2.2.1 (ztop M) 0, ztop M + 1, zsl M + zN cc, M.2.2.2.2.2) (pc + 3) ls (zR (20 + cc) (ztop M) :: st) F) : ZG p l e R s mi args below meth c E D cT L xs Q t0 s0 th M pc ls st F := by
  intro fl H locs Ls h1 h2 h3 h4 h5 h6 h7 h8 h9
  have hH := h1.1
  have hKn := C.2.2.2.2.2.2.2.2.1.1 cc _ (zCl_at hcc)
  have hl := zall_in zx_lc0 _ hq
  dsimp only at hl
  refine W.newcK C.1 C.2.1 C.2.2.2.1 (C.2.2.2.2.1 _ hl) (C.2.2.2.2.1 _ (zall_in zx_inst1 cc (List.mem_range.mpr hcc))) (C.2.2.2.2.1 _ (zall_in zx_ini1 cc (List.mem_range.mpr hcc))) rfl hd (by omega) (by omega) hKn.2.1 rfl fun H' kC hkC e1 e2 e3 => ?_
  have hob := u_born (o := H.size) (H := H') (zTy cc) C.2.2.2.2.1 (zx_in cc hcc) hKn hkC e1 (zx_ty cc hcc)
  have w := k fl H' locs Ls (h1.push e2 rfl e3 (fun b k hb => ?_) (fun _ _ _ => rfl) (fun b k hb => ?_) ⟨fun z => ?_, fun z => by omega⟩) ⟨fun a k' b1 b2 b3 b4 => ?_, fun a k' ha => h2.2.1 a k' (by have : ztop M + 1 ≤ a := ha; omega), fun j => ?_, h2.2.2.2⟩ (h3.psh e2 e3) (Nat.le_succ_of_le h4) (Nat.le_trans h5 (Nat.le_add_right _ _)) h6 (zmono (Nat.le_succ _) h7) (zok_cons (v := zR _ _) (show zokR fl (ztop M + 1) (20 + cc) (ztop M) from ⟨fun q => by omega, fun q1 q2 => ⟨h1.2.1, Nat.lt_succ_self _, by omega⟩, fun q => by omega, fun q => by omega, by omega⟩) (zmono (Nat.le_succ _) h8)) (h9.mono (fun _ _ z => z) (Nat.le_succ _))
  · rw [List.map_cons, zcv_own (t := 20 + cc) (by omega) (by have := h1.2.1; omega)] at w
    have e4 : ztop M + 1 - t0 = ztop M - t0 + 1 := by omega
    have e5 : zsl M + zN cc - s0 = zsl M - s0 + zN cc := by omega
    rw [hH]
    have w' : W p l e R s mi args below meth c H' locs (ztop M + 1 - t0) (zsl M + zN cc - s0) Q (F0 mi (pc + 3) Ls (.ref (E.1 + ztop M) :: st.map (zcv E))) := w
    rw [e4, e5] at w'
    exact w'
  · show zfill M.1 (ztop M) 0 b k = _
    rw [zfill_eq, if_neg hb]
  · show zfill M.2.2.1 (ztop M) 0 b k = _
    rw [zfill_eq, if_neg hb]
  · rw [hS, ← hH]
    refine hob.to (fun f hf => ?_)
    have hkt := zx_kty cc hcc f hf
    have hrt := zx_rty cc hcc f hf
    unfold zfv
    dsimp only
    rw [zfill_eq, zfill_eq, if_pos rfl, if_pos rfl, h2.2.1 (ztop M) f (Nat.le_refl _)]
    rcases zx_ft cc hcc f hf with h | h | h | h
    · rw [h, hkt.1 h]; rfl
    · rw [h, hkt.2 h]; rfl
    · rw [h]
      have hr := hrt (Or.inl h)
      generalize zTy cc f = ty at hr ⊢
      cases ty <;> first | (cases hr; done) | rfl
    · rw [h]
      have hr := hrt (Or.inr h)
      generalize zTy cc f = ty at hr ⊢
      cases ty <;> first | (cases hr; done) | rfl
  · show zokR fl (ztop M + 1) _ (zfill M.2.2.1 (ztop M) 0 a k')
    rw [zfill_eq]
    by_cases ha : a = ztop M
    · rw [if_pos ha]
      have h10 : (zFk (zS a) k').2.1 < 10 := by
        have hk' : k' < zN (zS a) := by
          rcases Nat.lt_or_ge k' (zN (zS a)) with q | q
          · exact q
          · exfalso
            exact absurd b4 (zFk_out b3 q)
        exact zx_mref _ b3 _ hk' b4
      exact ⟨fun _ => Or.inl rfl, fun q => by omega, fun q => by omega, fun q => by omega, by omega⟩
    · rw [if_neg ha]
      exact (h2.1 a k' b1 (by have : a < ztop M + 1 := b2; omega) b3 b4).mono (fun _ _ z => z) (Nat.le_succ _)
  · show zfill M.1 (ztop M) 0 0 j = _
    rw [zfill_eq, if_neg (by have := h1.2.1; omega)]
    exact h2.2.2.1 j
theorem so_obj (C : ZC p s mi args meth c E D cT L xs m) {j t a : Nat} (hq : (zcn m, j, ()) ∈ zLob) (ha : a ≠ 0) (ht : t ≠ 14) (hr : r.length ≤ 4) (hls : ls.length = znl m) (hroom : 1 ≤ R.frames ∧ 20 ≤ R.locals) (hd : decode (zby m) pc = .ok (.invokespecial j, 3)) (k : ZG p l e R s mi args below meth c E D cT L xs Q t0 s0 th M (pc + 3) ls r F) : ZG p l e R s mi args below meth c E D cT L xs Q t0 s0 th M pc ls (zR t a :: r) F := by
  intro fl H locs Ls h1 h2 h3 h4 h5 h6 h7 h8 h9
  have w := k fl H locs Ls h1 h2 h3 h4 h5 h6 h7 (zok_tl h8) h9
  obtain ⟨q, hq2⟩ := zcv_ref (E := E) ht ha
  rw [List.map_cons, hq2]
  have hms := zall_in zx_misc0
  have hl := zall_in zx_lob0 _ hq
  dsimp only at hl
  have hs2 := zcat_sum (E := E) r
  exact W.objInit C.1 C.2.1 C.2.2.2.1 (C.2.2.2.2.1 _ hl) (C.2.2.2.2.1 _ (hms (.instanceMethod objectInit) (by simp))) (C.2.2.2.2.1 _ (zWs_of (List.mem_of_getElem? zx_oi0) rfl)) rfl (by rw [C.2.2.1, ← hls]; exact h6.1) rfl hd hroom.1 (by show 2 * 0 + _ + 12 ≤ _; omega) w
theorem so_ldcS (C : ZC p s mi args meth c E D cT L xs m) {j i : Nat} (hm : zcn m = 4) (hi : (j = 59 ∧ i = 1) ∨ (j = 65 ∧ i = 2) ∨ (j = 67 ∧ i = 3) ∨ (j = 84 ∧ i = 4) ∨ (j = 90 ∧ i = 5)) (hd : decode (zby m) pc = .ok (.ldc j, 2)) (k : ZG p l e R s mi args below meth c E D cT L xs Q t0 s0 th M (pc + 2) ls (zR 10 i :: st) F) : ZG p l e R s mi args below meth c E D cT L xs Q t0 s0 th M pc ls st F := by
  refine ZG.stk (fun fl h => zok_cons (v := zR 10 i) (show zokR fl (ztop M) 10 i from ⟨fun q => by omega, fun q => by omega, fun q => by omega, fun _ => by omega, by omega⟩) h) (fun H locs Ls _ _ w => ?_) k
  obtain ⟨d1, d2, d3, d4, d5⟩ := C.2.2.2.2.2.2.2.2.2.2.2.2.1
  have ho : s.vm.findClass "SeatOn$Reader" = some mi.cls := by have := C.2.2.2.1; rw [hm] at this; exact this
  rcases hi with ⟨rfl, rfl⟩ | ⟨rfl, rfl⟩ | ⟨rfl, rfl⟩ | ⟨rfl, rfl⟩ | ⟨rfl, rfl⟩
  · exact va_ldcS C.1 C.2.1 ho d1 hd w
  · exact va_ldcS C.1 C.2.1 ho d2 hd w
  · exact va_ldcS C.1 C.2.1 ho d3 hd w
  · exact va_ldcS C.1 C.2.1 ho d4 hd w
  · exact va_ldcS C.1 C.2.1 ho d5 hd w
theorem so_getV (C : ZC p s mi args meth c E D cT L xs m) {j i : Nat} (hq : (zcn m, j, 3) ∈ zLsf) (hd : decode (zby m) pc = .ok (.getfield j, 3)) (k : ZG p l e R s mi args below meth c E D cT L xs Q t0 s0 th M (pc + 3) ls (zR 15 i :: r) F) : ZG p l e R s mi args below meth c E D cT L xs Q t0 s0 th M pc ls (zR 10 i :: r) F := by
  intro fl H locs Ls h1 h2 h3 h4 h5 h6 h7 h8 h9
  have hi := (zok_hd h8 : zokR fl (ztop M) 10 i).2.2.2.1 (Or.inl rfl)
  have w := k fl H locs Ls h1 h2 h3 h4 h5 h6 h7 (zok_cons (v := zR 15 i) (show zokR fl (ztop M) 15 i from ⟨fun q => by omega, fun q => by omega, fun q => by omega, fun _ => hi, by omega⟩) (zok_tl h8)) h9
  have hl := zall_in zx_lsf0 _ hq
  obtain ⟨-, -, g, -⟩ := zstrs C hi.1 hi.2
  exact vk_getf C.1 C.2.1 g h3 C.2.2.2.1 (C.2.2.2.2.1 _ hl) (fun x h => h) hd w
theorem so_getO (C : ZC p s mi args meth c E D cT L xs m) {j i : Nat} (hq : (zcn m, j, 4) ∈ zLsf) (hd : decode (zby m) pc = .ok (.getfield j, 3)) (k : ZG p l e R s mi args below meth c E D cT L xs Q t0 s0 th M (pc + 3) ls (zI 0 :: r) F) : ZG p l e R s mi args below meth c E D cT L xs Q t0 s0 th M pc ls (zR 10 i :: r) F := by
  intro fl H locs Ls h1 h2 h3 h4 h5 h6 h7 h8 h9
  have hi := (zok_hd h8 : zokR fl (ztop M) 10 i).2.2.2.1 (Or.inl rfl)
  have w := k fl H locs Ls h1 h2 h3 h4 h5 h6 h7 (zok_cons zok_int (zok_tl h8)) h9
  have hl := zall_in zx_lsf0 _ hq
  obtain ⟨-, g, -, -⟩ := zstrs C hi.1 hi.2
  exact vk_getf C.1 C.2.1 g h3 C.2.2.2.1 (C.2.2.2.2.1 _ hl) (fun x h => h) hd w
theorem so_gets (C : ZC p s mi args meth c E D cT L xs m) {j n : Nat} (hq : (zcn m, j, n) ∈ zLst) (hd : decode (zby m) pc = .ok (.getstatic j, 3)) (k : ZG p l e R s mi args below meth c E D cT L xs Q t0 s0 th M (pc + 3) ls (zstv n :: st) F) : ZG p l e R s mi args below meth c E D cT L xs Q t0 s0 th M pc ls st F := by
  intro fl H locs Ls h1 h2 h3 h4 h5 h6 h7 h8 h9
  have hz : zok fl (ztop M) (zstv n) := by
    unfold zstv
    split
    · exact ⟨fun q => by omega, fun q => by omega, fun q => by omega, fun q => by omega, by omega⟩
    · exact ⟨fun q => by omega, fun q => by omega, fun q => by omega, fun q => by omega, by omega⟩
    · trivial
    · exact ⟨fun q => by omega, fun q => by omega, fun q => by omega, fun q => by omega, by omega⟩
  have w := k fl H locs Ls h1 h2 h3 h4 h5 h6 h7 (zok_cons hz h8) h9
  obtain ⟨a1, b1, c1, d1, e1, f1, g1, n1, n2⟩ := C.2.2.2.2.2.2.2.2.2
  have hcase : ((zcn m, j, n) ∈ zLst0) ∨ (zcn m = 0 ∧ j = 39 ∧ n = 0) := by
    have : ∀ q ∈ zLst, q ∈ zLst0 ∨ (q.1 = 0 ∧ q.2.1 = 39 ∧ q.2.2 = 0) := by decide +kernel
    exact this _ hq
  rcases hcase with h | ⟨hm, rfl, rfl⟩
  · have hl := C.2.2.2.2.1 _ (zall_in zx_lst0 _ h)
    dsimp only at hl
    have hn : ∀ q ∈ zLst0, q.2.2 = 0 ∨ q.2.2 = 1 ∨ q.2.2 = 2 ∨ q.2.2 = 3 := by decide +kernel
    rcases (hn _ h : n = 0 ∨ n = 1 ∨ n = 2 ∨ n = 3) with rfl | rfl | rfl | rfl
    · exact va_gets C.1 C.2.1 a1.1 h3 C.2.2.2.1 hl (fun x h => h) hd w
    · exact va_gets C.1 C.2.1 b1.1 h3 C.2.2.2.1 hl (fun x h => h) hd w
    · exact va_gets C.1 C.2.1 e1 h3 C.2.2.2.1 hl (fun x h => h) hd w
    · exact va_gets C.1 C.2.1 f1 h3 C.2.2.2.1 hl (fun x h => h) hd w
  · have ho : s.vm.findClass "SeatOn$Acts" = some mi.cls := by have := C.2.2.2.1; rw [hm] at this; exact this
    exact va_getsN C.1 C.2.1 a1.1 h3 ho (va_Nw.use rfl n1) (fun x h => h) hd w
end ZN1
