theorem zwsp : ∀ c, c < 10 → ∀ k, k < zN c → (Cond.lays (zcname c) (zT c k).1 (zT c k).2.1 (zT c k).2.2.1 ∈ zWs ∨ Cond.laysFinal (zcname c) (zT c k).1 (zT c k).2.1 (zT c k).2.2.1 ∈ zWs) := fun c hc k hk => by
  have h := zx_in c hc _ (u_in_lay hk)
  unfold u_lay at h
  split at h
  · exact Or.inr h
  · exact Or.inl h
theorem zu_eq {α : Type} (f : Nat → Nat → α) (a k : Nat) (v : α) (a' k' : Nat) : zu f a k v a' k' = if a' = a ∧ k' = k then v else f a' k' := by
  unfold zu
  by_cases h1 : a' = a
  · by_cases h2 : k' = k
    · rw [if_pos ⟨h1, h2⟩, h1, h2]
      simp
    · rw [if_neg (fun q => h2 q.2), nbf h2]
      simp
  · rw [if_neg (fun q => h1 q.1), nbf h1]
    simp
theorem zfill_eq {α : Type} (f : Nat → Nat → α) (a : Nat) (v : α) (a' k' : Nat) : zfill f a v a' k' = if a' = a then v else f a' k' := by
  unfold zfill
  by_cases h1 : a' = a
  · rw [if_pos h1, h1]; simp
  · rw [if_neg h1, nbf h1]; rfl
theorem zcp_eq {α : Type} (f : Nat → Nat → α) (a sp b dp n : Nat) (a' k' : Nat) : zcp f a sp b dp n a' k' = if a' = b ∧ dp ≤ k' ∧ k' < dp + n then f a (sp + (k' - dp)) else f a' k' := by
  unfold zcp
  by_cases h1 : a' = b
  · by_cases h2 : dp ≤ k' ∧ k' < dp + n
    · rw [if_pos ⟨h1, h2⟩, h1, Nat.ble_eq.mpr h2.1, show Nat.blt k' (dp + n) = true from Nat.ble_eq.mpr h2.2]
      simp
    · rw [if_neg (fun q => h2 q.2)]
      have : (Nat.ble dp k' && Nat.blt k' (dp + n)) = false := by
        cases h3 : Nat.ble dp k' with
        | false => rfl
        | true =>
          cases h4 : Nat.blt k' (dp + n) with
          | false => rfl
          | true => exact absurd ⟨Nat.ble_eq.mp h3, Nat.ble_eq.mp h4⟩ h2
      rw [this]
      simp
  · rw [if_neg (fun q => h1 q.1), nbf h1]
    simp
/-- addresses of the picture lie beyond the base, and are told apart -/
theorem ZP.frame {E : ZE} {D : va_G} {cT : Nat → ClassId} {fl fl' : Nat → Nat → Bool} {M M' : ZM} {H H' : Heap} {a : Nat} (h : ZP E D cT fl M H) (hz : H'.size = H.size) (ht : ztop M' = ztop M) (hq : ∀ q, q ≠ E.1 + a → H'[q]? = H[q]?)
    (hI : ∀ b k, b ≠ a → M'.1 b k = M.1 b k) (hJ : ∀ b k, b ≠ a → M'.2.1 b k = M.2.1 b k) (hR : ∀ b k, b ≠ a → M'.2.2.1 b k = M.2.2.1 b k) (hf : ∀ b k, b ≠ a → fl' b k = fl b k)
    (hc : 1 ≤ a → a < ztop M → zcell E D cT fl' M' H' a) : ZP E D cT fl' M' H' := by
  refine ⟨by rw [hz, ht]; exact h.1, by rw [ht]; exact h.2.1, fun b h1 h2 => ?_⟩
  rw [ht] at h2
  by_cases hb : b = a
  · subst hb; exact hc h1 h2
  · obtain ⟨c1, c2⟩ := h.2.2 b h1 h2
    have hqb := hq (E.1 + b) (by omega)
    refine ⟨fun z => ?_, fun z => ?_⟩
    · refine ((c1 z).kept hqb).to (fun k _ => ?_)
      unfold zfv
      rw [hI b k hb, hR b k hb, hf b k hb]
    · rw [hqb, c2 z]
      congr 2
      funext j
      unfold zav
      rw [hI b j hb, hJ b j hb]
theorem zfv_put {E : ZE} {fl fl' : Nat → Nat → Bool} {M M' : ZM} {a c f : Nat} {v : Value} (hv : zfv E fl' M' a c f = v) (ho : ∀ k, k ≠ f → zfv E fl' M' a c k = zfv E fl M a c k) (k : Nat) : updV (zfv E fl M a c) f v k = zfv E fl' M' a c k := by
  unfold updV
  by_cases h : k = f
  · subst h; rw [if_pos rfl, hv]
  · rw [if_neg h, ho k h]
section ZF
variable {p : Program} {l : Launch} {e : Env} {R : Room} {s : State} {mi : MethodId} {args : Array Value} {below : List Frame} {meth : Method} {c : Code} {E : ZE} {D : va_G} {cT : Nat → ClassId} {Q : State → Prop} {t0 s0 : Nat} {th : ZT} {L : Nat} {xs : Nat → Int32} {m : Nat}
variable {M : ZM} {pc : Nat} {ls st r : List ZV} {F : List Nat}
theorem zobj {fl : Nat → Nat → Bool} {H : Heap} {cc a : Nat} (h1 : ZP E D cT fl M H) (hc : cc < 10) (ha : 1 ≤ a) (ht : a < ztop M) (hs : zS a = cc) : t_OB (E.1 + a) (D.1 cc) (zN cc) (D.2 cc) H (zfv E fl M a cc) := by
  have h := (h1.2.2 a ha ht).1 (by omega)
  rw [hs] at h
  exact h
theorem zapart (C : ZC p s mi args meth c E D cT L xs m) {cc : Nat} (hc : cc < 10) : ∀ x y, x < zN cc → y < zN cc → x ≠ y → D.2 cc x ≠ D.2 cc y :=
  va_apart (own := zcname cc) C.2.2.2.2.1 (zx_in cc hc) (zTy cc) (zx_ty cc hc) (zx_nm cc hc) C.2.2.2.2.2.2.2.2.1 (zCl_at hc)
/-- a field is read -/
theorem so_getf (C : ZC p s mi args meth c E D cT L xs m) {j cc f a t : Nat} (hq : (zcn m, j, cc, f) ∈ zLf) (ha : a ≠ 0) {v : ZV} (hd : decode (zby m) pc = .ok (.getfield j, 3))
    (ht : t = cc)
    (hv : ∀ fl, zgood L xs fl M → zokR fl (ztop M) cc a → zcv E v = zfv E fl M a cc f ∧ zok fl (ztop M) v) (k : ZG p l e R s mi args below meth c E D cT L xs Q t0 s0 th M (pc + 3) ls (v :: r) F) : ZG p l e R s mi args below meth c E D cT L xs Q t0 s0 th M pc ls (zR t a :: r) F := by
  subst ht
  obtain ⟨hc, hf, hl⟩ := zx_lf _ hq
  dsimp only at hc hf hl
  intro fl H locs Ls h1 h2 h3 h4 h5 h6 h7 h8 h9
  have hk : zokR fl (ztop M) t a := zok_hd h8
  obtain ⟨e1, e2⟩ := hv fl h2 hk
  have hO := (hk.1 hc).resolve_left ha
  have hsz : 1 ≤ zSize t := by
    have : ∀ c, c < 10 → 1 ≤ zSize c := by decide
    exact this t hc
  have w := k fl H locs Ls h1 h2 h3 h4 h5 h6 h7 (zok_cons e2 (zok_tl h8)) h9
  obtain ⟨cell, q1, q2, q3, q4⟩ := zobj h1 hc hO.1 (by have := hO.2.2.1; omega) hO.2.1
  obtain ⟨hS, hfc, kC, hkC, hkind⟩ := C.2.2.2.2.2.2.2.2.1.1 t _ (zCl_at hc)
  obtain ⟨cf, kf, fi, fd, hi, hsl⟩ := hS f hf
  rw [List.map_cons, zcv_own (Or.inl hc) ha]
  rw [List.map_cons, e1] at w
  refine W.getf C.1 C.2.1 C.2.2.2.1 (C.2.2.2.2.1 _ hl) hi (u_facts hfc hkC (u_lays C.2.2.2.2.1 (zx_in t hc) hf) hi).1 q1 (by rw [q3]; exact fun h => by cases h) (v := zfv E fl M a t f) ?_ rfl rfl hd w
  rw [hsl]
  exact q4 f hf
theorem zS_lt {a c : Nat} (h : zS a = c) (hc : c ≠ 99) : a < zStb.length := by
  rcases Nat.lt_or_ge a zStb.length with q | q
  · exact q
  · exfalso
    unfold zS at h
    rw [List.getD_eq_getElem?_getD, List.getElem?_eq_none q] at h
    exact hc h.symm
/-- the target of a reference that stays -/
theorem ztarget {fl : Nat → Nat → Bool} {top a cc f : Nat} (hc : cc < 10) (hf : f < zN cc) (hk : (zFk cc f).1 = 1) (hO : zokO fl top cc a) : fl a f = true ∧ zokR fl top (zFk cc f).2.1 (a + (zFk cc f).2.2) ∧ ((zFk cc f).2.1 < 10 ∨ 100 ≤ (zFk cc f).2.1) := by
  obtain ⟨h1, h2, h3, h4⟩ := hO
  have hfin := zx_finK cc hc f hf hk
  obtain ⟨g1, g2, g3, g4, g5⟩ := zx_off a (zS_lt h2 (by omega)) (by omega) f (by rw [h2]; exact hfin)
  rw [h2] at g1 g2 g3 g4 g5
  have hsz : 1 ≤ zSize cc := by omega
  refine ⟨h4 a (Nat.le_refl _) (by omega) f (by rw [h2]; exact hfin), ⟨fun q => Or.inr ⟨by omega, g2, ?_, fun a' z1 z2 k z3 => h4 a' (by omega) ?_ k z3⟩, fun q1 q2 => by omega, fun q => ⟨by omega, by omega, g2⟩, fun q => by omega, by omega⟩, g5⟩
  · have := g4 q; omega
  · have := g4 q; omega
theorem so_get0 (C : ZC p s mi args meth c E D cT L xs m) {j cc f a : Nat} (hq : (zcn m, j, cc, f) ∈ zLf) (hkd : (zFk cc f).1 = 0 ∨ (zFk cc f).1 = 5) (ha : a ≠ 0) (hd : decode (zby m) pc = .ok (.getfield j, 3)) (k : ZG p l e R s mi args below meth c E D cT L xs Q t0 s0 th M (pc + 3) ls (zI (M.1 a f) :: r) F) : ZG p l e R s mi args below meth c E D cT L xs Q t0 s0 th M pc ls (zR cc a :: r) F :=
  so_getf (v := zI (M.1 a f)) C hq ha hd rfl (fun fl _ _ => ⟨by unfold zfv; rcases hkd with h | h <;> rw [h] <;> rfl, trivial⟩) k
theorem so_get1 (C : ZC p s mi args meth c E D cT L xs m) {j cc f a : Nat} (hq : (zcn m, j, cc, f) ∈ zLf) (hkd : (zFk cc f).1 = 1) (ha : a ≠ 0) (hd : decode (zby m) pc = .ok (.getfield j, 3)) (k : ZG p l e R s mi args below meth c E D cT L xs Q t0 s0 th M (pc + 3) ls (zR (zFk cc f).2.1 (a + (zFk cc f).2.2) :: r) F) : ZG p l e R s mi args below meth c E D cT L xs Q t0 s0 th M pc ls (zR cc a :: r) F := by
  obtain ⟨hc, hf, -⟩ := zx_lf _ hq
  dsimp only at hc hf
  refine so_getf C hq ha hd rfl (fun fl _ hk => ?_) k
  obtain ⟨g1, g2, g3⟩ := ztarget hc hf hkd ((hk.1 hc).resolve_left ha)
  refine ⟨?_, g2⟩
  rw [zcv_own (by omega) (by omega)]
  unfold zfv
  rw [hkd, g1]
  rfl
theorem so_get2 (C : ZC p s mi args meth c E D cT L xs m) {j cc f a : Nat} (hq : (zcn m, j, cc, f) ∈ zLf) (hkd : (zFk cc f).1 = 2) (ha : a ≠ 0) (hd : decode (zby m) pc = .ok (.getfield j, 3)) (k : ZG p l e R s mi args below meth c E D cT L xs Q t0 s0 th M (pc + 3) ls (zR (zFk cc f).2.1 (M.2.2.1 a f) :: r) F) : ZG p l e R s mi args below meth c E D cT L xs Q t0 s0 th M pc ls (zR cc a :: r) F := by
  obtain ⟨hc, hf, -⟩ := zx_lf _ hq
  dsimp only at hc hf
  refine so_getf C hq ha hd rfl (fun fl hg hk => ?_) k
  obtain ⟨o1, o2, o3, -⟩ := (hk.1 hc).resolve_left ha
  have hsz : 1 ≤ zSize cc := by
    have : ∀ c, c < 10 → 1 ≤ zSize c := by decide
    exact this cc hc
  have g := hg.1 a f o1 (by omega) (by omega) (by rw [o2]; exact hkd)
  rw [o2] at g
  have h3 : (zFk cc f).2.1 < 10 := by
    have : ∀ c, c < 10 → ∀ k, k < zN c → (zFk c k).1 = 2 → (zFk c k).2.1 < 10 := by decide +kernel
    exact this cc hc f hf hkd
  refine ⟨?_, g⟩
  unfold zfv
  rw [hkd]
  by_cases hz : M.2.2.1 a f = 0
  · rw [hz]
    show (if (zFk cc f).2.1 = 10 then _ else _) = Value.null
    rw [if_neg (by omega), if_neg (by omega), if_neg (by omega), if_neg (by omega), if_neg (by omega), if_neg (by omega), if_pos rfl]
  · rw [zcv_own (Or.inl h3) hz]
    show _ = (bif Nat.beq (M.2.2.1 a f) 0 then _ else _)
    rw [nbf hz]
    rfl
theorem zokO.mono {fl fl' : Nat → Nat → Bool} {top top' c a : Nat} (hf : ∀ a k, fl a k = true → fl' a k = true) (ht : top ≤ top') (h : zokO fl top c a) : zokO fl' top' c a :=
  ⟨h.1, h.2.1, Nat.le_trans h.2.2.1 ht, fun a' h1 h2 k hk => hf _ _ (h.2.2.2 a' h1 h2 k hk)⟩
theorem zokR.mono {fl fl' : Nat → Nat → Bool} {top top' t a : Nat} (hf : ∀ a k, fl a k = true → fl' a k = true) (ht : top ≤ top') (h : zokR fl top t a) : zokR fl' top' t a :=
  ⟨fun q => (h.1 q).imp id (zokO.mono hf ht), fun q1 q2 => ⟨(h.2.1 q1 q2).1, by have := (h.2.1 q1 q2).2.1; omega, (h.2.1 q1 q2).2.2⟩, fun q => ⟨(h.2.2.1 q).1, by have := (h.2.2.1 q).2.1; omega, (h.2.2.1 q).2.2⟩, h.2.2.2.1, h.2.2.2.2⟩
theorem zok.mono {fl fl' : Nat → Nat → Bool} {top top' : Nat} {v : ZV} (hf : ∀ a k, fl a k = true → fl' a k = true) (ht : top ≤ top') (h : zok fl top v) : zok fl' top' v := by
  rcases v with x | x | ⟨t, a⟩
  · trivial
  · trivial
  · exact zokR.mono hf ht h
theorem zFok.mono {fl fl' : Nat → Nat → Bool} {top top' : Nat} {th : ZT} {F : List Nat} (hf : ∀ a k, fl a k = true → fl' a k = true) (ht : top ≤ top') (h : zFok fl top th F) : zFok fl' top' th F :=
  ⟨fun k hk => ⟨(h.1 k hk).1, hf _ _ (h.1 k hk).2.1, (h.1 k hk).2.2.mono hf ht⟩, fun a k q => hf _ _ (h.2 a k q)⟩
/-- an object, made or being made, has its class's shape -/
theorem zmine {fl : Nat → Nat → Bool} {top t cc a : Nat} (hc : cc < 10) (ha : a ≠ 0) (ht : t = cc ∨ t = 20 + cc) (h : zokR fl top t a) : 1 ≤ a ∧ a < top ∧ zS a = cc := by
  have hsz : ∀ c, c < 10 → 1 ≤ zSize c := by decide
  have hs := hsz cc hc
  rcases ht with rfl | rfl
  · obtain ⟨o1, o2, o3, -⟩ := (h.1 hc).resolve_left ha
    exact ⟨o1, by omega, o2⟩
  · obtain ⟨o1, o2, o3⟩ := h.2.1 (by omega) (by omega)
    exact ⟨o1, o2, by omega⟩
/-- a field that may change is written -/
theorem so_putf (C : ZC p s mi args meth c E D cT L xs m) {j cc f a t : Nat} (hq : (zcn m, j, cc, f) ∈ zLf) (hkd : (zFk cc f).1 ≠ 1) (ha : a ≠ 0) (ht : t = cc ∨ t = 20 + cc) {w : ZV} {M' : ZM} (hd : decode (zby m) pc = .ok (.putfield j, 3))
    (htop : ztop M' = ztop M) (hsl : zsl M' = zsl M) (hI : ∀ b k, b ≠ a → M'.1 b k = M.1 b k) (hJ : ∀ b k, M'.2.1 b k = M.2.1 b k) (hR : ∀ b k, b ≠ a → M'.2.2.1 b k = M.2.2.1 b k)
    (hn : narrow (zTy cc f) (zcv E w) = zcv E w) (hfit : fits (zTy cc f) (zcv E w) = true) (hv : ∀ fl, zfv E fl M' a cc f = zcv E w) (ho : ∀ fl k, k ≠ f → zfv E fl M' a cc k = zfv E fl M a cc k)
    (hg : ∀ fl, zgood L xs fl M → zok fl (ztop M) w → zS a = cc → zgood L xs fl M')
    (k : ZG p l e R s mi args below meth c E D cT L xs Q t0 s0 th M' (pc + 3) ls r F) : ZG p l e R s mi args below meth c E D cT L xs Q t0 s0 th M pc ls (w :: zR t a :: r) F := by
  obtain ⟨hc, hf, hl⟩ := zx_lf _ hq
  dsimp only at hc hf hl
  intro fl H locs Ls h1 h2 h3 h4 h5 h6 h7 h8 h9
  obtain ⟨o1, o2, o3⟩ := zmine hc ha ht (zok_hd (zok_tl h8) : zokR fl (ztop M) t a)
  obtain ⟨cell, q1, q2, q3, q4⟩ := zobj h1 hc o1 o2 o3
  obtain ⟨hS, hfc, kC, hkC, hkind⟩ := C.2.2.2.2.2.2.2.2.1.1 cc _ (zCl_at hc)
  obtain ⟨cf, kf, fi, fd, hi, hsl2⟩ := hS f hf
  have hlay := C.2.2.2.2.1 _ (zx_in cc hc _ (u_in_lay hf))
  unfold u_lay at hlay
  rw [if_neg (fun z => hkd ((zx_fin cc hc f hf).mp z))] at hlay
  have hst := (u_facts hfc hkC (u_lays C.2.2.2.2.1 (zx_in cc hc) hf) hi).1
  have h6' := u_store hfc hkC hkind hlay hi (zx_ty cc hc f hf) hn hfit
  rw [List.map_cons, List.map_cons, zcv_own (t := t) (by omega) ha]
  refine W.putK C.1 C.2.1 (f := fd) ⟨C.2.2.2.1, C.2.2.2.2.1 _ hl, ⟨_, _, _, hi⟩, hst⟩ (by rw [q2]; exact h6') q1 q3 (by rw [hsl2]; exact k2_hasslot (q4 f hf)) rfl rfl hd fun H' e1 e2 e3 => ?_
  rw [hsl2] at e1 ⊢
  have w2 := k fl H' (locs ++ [⟨E.1 + a, D.2 cc f⟩]) Ls (h1.frame (a := a) (fl' := fl) e2 htop e3 hI (fun b k _ => hJ b k) hR (fun _ _ _ => rfl) (fun _ _ => ⟨fun z => ?_, fun z => by omega⟩)) (hg fl h2 (zok_hd h8) o3) (h3.put e2 e3 (show E.1 < E.1 + a by omega)) (by rw [htop]; exact h4) (by rw [hsl]; exact h5) h6 (by rw [htop]; exact h7) (by rw [htop]; exact zok_tl (zok_tl h8)) (by rw [htop]; exact h9)
  · rw [htop, hsl] at w2
    exact w2
  · rw [o3]
    exact t_OB.to (V := updV (zfv E fl M a cc) f (zcv E w)) ⟨_, e1, q2, q3, t_set q4 (zapart C hc) hf _⟩ (fun j _ => zfv_put (hv fl) (ho fl) j)
theorem so_put0 (C : ZC p s mi args meth c E D cT L xs m) {j cc f a t : Nat} (hq : (zcn m, j, cc, f) ∈ zLf) {x : Int32} (hkd : (zFk cc f).1 = 0 ∨ ((zFk cc f).1 = 5 ∧ (x = 0 ∨ x = 1))) (ha : a ≠ 0) (ht : t = cc ∨ t = 20 + cc) (hd : decode (zby m) pc = .ok (.putfield j, 3)) (k : ZG p l e R s mi args below meth c E D cT L xs Q t0 s0 th (zu M.1 a f x, M.2) (pc + 3) ls r F) : ZG p l e R s mi args below meth c E D cT L xs Q t0 s0 th M pc ls (zI x :: zR t a :: r) F := by
  obtain ⟨hc, hf, -⟩ := zx_lf _ hq
  dsimp only at hc hf
  have hk2 := zx_kty cc hc f hf
  refine so_putf (M' := (zu M.1 a f x, M.2)) C hq (by omega) ha ht hd rfl rfl (fun b k hb => ?_) (fun _ _ => rfl) (fun _ _ _ => rfl) ?_ ?_ (fun fl => ?_) (fun fl k hk => ?_) (fun fl hg _ hs => ⟨hg.1, hg.2.1, fun j => by show zu M.1 a f x 0 j = _; rw [zu_eq, if_neg (fun q => ha q.1.symm)]; exact hg.2.2.1 j, hg.2.2.2⟩) k
  · show zu M.1 a f x b k = _
    rw [zu_eq, if_neg (fun q => hb q.1)]
  · rcases hkd with h | ⟨h, h'⟩
    · rw [hk2.1 h]; rfl
    · rw [hk2.2 h]; rcases h' with rfl | rfl <;> rfl
  · rcases hkd with h | ⟨h, h'⟩
    · rw [hk2.1 h]; rfl
    · rw [hk2.2 h]; rcases h' with rfl | rfl <;> rfl
  · have e0 : zu M.1 a f x a f = x := by rw [zu_eq, if_pos ⟨rfl, rfl⟩]
    unfold zfv
    dsimp only
    rw [e0]
    rcases hkd with h | ⟨h, -⟩ <;> rw [h] <;> rfl
  · have e0 : zu M.1 a f x a k = M.1 a k := by rw [zu_eq, if_neg (fun q => hk q.2)]
    unfold zfv
    dsimp only
    rw [e0]
theorem zx_mref : ∀ c, c < 10 → ∀ k, k < zN c → (zFk c k).1 = 2 → (zFk c k).2.1 < 10 := by decide +kernel
theorem znar_ref {ty : FieldType} (h : zisref ty = true) {E : ZE} {t a : Nat} (ht : t < 10 ∨ 16 ≤ t) : narrow ty (zcv E (zR t a)) = zcv E (zR t a) ∧ fits ty (zcv E (zR t a)) = true := by
  by_cases ha : a = 0
  · have e : zcv E (zR t a) = .null := by
      show (if t = 10 then _ else _) = Value.null
      rw [if_neg (by omega), if_neg (by omega), if_neg (by omega), if_neg (by omega), if_neg (by omega), if_neg (by omega), if_pos ha]
    rw [e]
    cases ty <;> first | (cases h; done) | exact ⟨rfl, rfl⟩
  · rw [zcv_own ht ha]
    cases ty <;> first | (cases h; done) | exact ⟨rfl, rfl⟩
theorem so_put2 (C : ZC p s mi args meth c E D cT L xs m) {j cc f a t b : Nat} (hq : (zcn m, j, cc, f) ∈ zLf) (hkd : (zFk cc f).1 = 2) (ha : a ≠ 0) (ht : t = cc ∨ t = 20 + cc) (hd : decode (zby m) pc = .ok (.putfield j, 3)) (k : ZG p l e R s mi args below meth c E D cT L xs Q t0 s0 th (M.1, M.2.1, zu M.2.2.1 a f b, M.2.2.2) (pc + 3) ls r F) : ZG p l e R s mi args below meth c E D cT L xs Q t0 s0 th M pc ls (zR (zFk cc f).2.1 b :: zR t a :: r) F := by
  obtain ⟨hc, hf, -⟩ := zx_lf _ hq
  dsimp only at hc hf
  have h10 := zx_mref cc hc f hf hkd
  have hnf := znar_ref (zx_rty cc hc f hf (Or.inr hkd)) (E := E) (t := (zFk cc f).2.1) (a := b) (Or.inl h10)
  refine so_putf (M' := (M.1, M.2.1, zu M.2.2.1 a f b, M.2.2.2)) C hq (by omega) ha ht hd rfl rfl (fun _ _ _ => rfl) (fun _ _ => rfl) (fun b' k hb => ?_) hnf.1 hnf.2 (fun fl => ?_) (fun fl k hk => ?_) (fun fl hg hw hs => ⟨fun b' k' b1 b2 b3 b4 => ?_, hg.2.1, hg.2.2.1, hg.2.2.2⟩) k
  · show zu M.2.2.1 a f b b' k = _
    rw [zu_eq, if_neg (fun q => hb q.1)]
  · unfold zfv
    rw [hkd]
    show (bif Nat.beq (zu M.2.2.1 a f b a f) 0 then Value.null else .ref (E.1 + zu M.2.2.1 a f b a f)) = _
    rw [zu_eq, if_pos ⟨rfl, rfl⟩]
    by_cases hb : b = 0
    · subst hb
      show Value.null = (if (zFk cc f).2.1 = 10 then _ else _)
      rw [if_neg (by omega), if_neg (by omega), if_neg (by omega), if_neg (by omega), if_neg (by omega), if_neg (by omega), if_pos rfl]
    · rw [zcv_own (Or.inl h10) hb, nbf hb]; rfl
  · have e0 : zu M.2.2.1 a f b a k = M.2.2.1 a k := by rw [zu_eq, if_neg (fun q => hk q.2)]
    unfold zfv
    dsimp only
    rw [e0]
  · show zokR fl (ztop M) _ (zu M.2.2.1 a f b b' k')
    rw [zu_eq]
    by_cases hh : b' = a ∧ k' = f
    · rw [if_pos hh, hh.1, hh.2, hs]
      exact hw
    · rw [if_neg hh]
      exact hg.1 b' k' b1 b2 b3 b4
/-- a field that stays is set, in the class's own constructor -/
theorem so_put1 (C : ZC p s mi args meth c E D cT L xs m) {j cc f a : Nat} (hq : (zcn m, j, cc, f) ∈ zLf) (hown : zcn m = cc) (hm : zrk m = 6) (hkd : (zFk cc f).1 = 1) (ha : a ≠ 0) (hth : th.1 = a) (hd : decode (zby m) pc = .ok (.putfield j, 3)) (k : ZG p l e R s mi args below meth c E D cT L xs Q t0 s0 th M (pc + 3) ls r (f :: F)) : ZG p l e R s mi args below meth c E D cT L xs Q t0 s0 th M pc ls (zR (zFk cc f).2.1 (a + (zFk cc f).2.2) :: zR (20 + cc) a :: r) F := by
  obtain ⟨hc, hf, hl⟩ := zx_lf _ hq
  dsimp only at hc hf hl
  intro fl H locs Ls h1 h2 h3 h4 h5 h6 h7 h8 h9
  obtain ⟨o1, o2, o3⟩ := zmine hc ha (Or.inr rfl) (zok_hd (zok_tl h8) : zokR fl (ztop M) (20 + cc) a)
  obtain ⟨cell, q1, q2, q3, q4⟩ := zobj h1 hc o1 o2 o3
  obtain ⟨hS, hfc, kC, hkC, hkind⟩ := C.2.2.2.2.2.2.2.2.1.1 cc _ (zCl_at hc)
  obtain ⟨cf, kf, fi, fd, hi, hsl2⟩ := hS f hf
  obtain ⟨g1, g2, g3, g4, g5⟩ := zx_off a (zS_lt o3 (by omega)) (by omega) f (by rw [o3]; exact zx_finK cc hc f hf hkd)
  rw [o3] at g1 g2 g3 g4 g5
  have hnf := znar_ref (zx_rty cc hc f hf (Or.inl hkd)) (E := E) (t := (zFk cc f).2.1) (a := a + (zFk cc f).2.2) (by omega)
  have hlay := C.2.2.2.2.1 _ (zx_in cc hc _ (u_in_lay hf))
  unfold u_lay at hlay
  rw [if_pos ((zx_fin cc hc f hf).mpr hkd)] at hlay
  have hst := (u_facts hfc hkC (u_lays C.2.2.2.2.1 (zx_in cc hc) hf) hi).1
  have hcf : mi.cls = cf := by
    obtain ⟨_, _, c', _, _, _, -, -, hf', -, -, -, hown2, -⟩ := Cond.laysFinal_spec hlay
    have e1 : c' = cf := by have := hi.symm.trans hf'; simp at this; exact this.1.symm
    rw [zx_decl cc hc f hf, ← hown] at hown2
    rw [← e1]; exact Option.some.inj (C.2.2.2.1.symm.trans hown2)
  have h6' := u_fits hfc hkC hkind (Or.inr hlay) hi (zx_ty cc hc f hf) hnf.1 hnf.2
  rw [List.map_cons, List.map_cons, zcv_own (t := 20 + cc) (by omega) ha]
  refine W.putFinK C.1 C.2.1 C.2.2.2.1 (C.2.2.2.2.1 _ hl) hi hst hcf (C.2.2.2.2.2.2.2.1 hm) (by rw [q2]; exact h6') q1 q3 (by rw [hsl2]; exact k2_hasslot (q4 f hf)) rfl rfl hd fun H' e1 e2 e3 => ?_
  rw [hsl2] at e1 ⊢
  have hmono : ∀ a' k', fl a' k' = true → (fun x y => if x = a ∧ y = f then true else fl x y) a' k' = true := fun a' k' z => by
    dsimp only
    split
    · rfl
    · exact z
  have hsame : ∀ b k, ¬ (b = a ∧ k = f) → (fun x y => if x = a ∧ y = f then true else fl x y) b k = fl b k := fun b k z => by
    dsimp only
    rw [if_neg z]
  refine k (fun x y => if x = a ∧ y = f then true else fl x y) H' (locs ++ [⟨E.1 + a, D.2 cc f⟩]) Ls (h1.frame (a := a) e2 rfl e3 (fun _ _ _ => rfl) (fun _ _ _ => rfl) (fun _ _ _ => rfl) (fun b k hb => hsame b k (fun q => hb q.1)) (fun _ _ => ⟨fun z => ?_, fun z => by omega⟩)) ⟨fun b k' b1 b2 b3 b4 => (h2.1 b k' b1 b2 b3 b4).mono hmono (Nat.le_refl _), fun b k' hb => by rw [hsame b k' (fun q => by rw [q.1] at hb; omega)]; exact h2.2.1 b k' hb, h2.2.2.1, h2.2.2.2⟩ (h3.put e2 e3 (show E.1 < E.1 + a by omega)) h4 h5 h6 (fun v hv => (h7 v hv).mono hmono (Nat.le_refl _)) (fun v hv => (zok_tl (zok_tl h8) v hv).mono hmono (Nat.le_refl _)) ⟨fun k' hk' => ?_, fun a' k' q => hmono _ _ (h9.2 a' k' q)⟩
  · rw [o3]
    refine t_OB.to (V := updV (zfv E fl M a cc) f (zcv E (zR (zFk cc f).2.1 (a + (zFk cc f).2.2)))) ⟨_, e1, q2, q3, t_set q4 (zapart C hc) hf _⟩ (fun j _ => ?_)
    unfold updV
    by_cases hj : j = f
    · subst hj
      rw [if_pos rfl, zcv_own (by omega) (by omega)]
      unfold zfv
      rw [hkd]
      simp
    · rw [if_neg hj]
      unfold zfv
      rw [hsame a j (fun q => hj q.2)]
  · rcases List.mem_cons.mp hk' with rfl | hk'
    · rw [hth]
      refine ⟨by rw [o3]; exact hkd, by simp, ?_⟩
      rw [o3]
      exact (zok_hd h8 : zokR fl (ztop M) _ _).mono hmono (Nat.le_refl _)
    · exact ⟨(h9.1 k' hk').1, hmono _ _ (h9.1 k' hk').2.1, (h9.1 k' hk').2.2.mono hmono (Nat.le_refl _)⟩
end ZF
