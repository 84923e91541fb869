section ZR1
variable {p : Program} {l : Launch} {e : Env} {R : Room} {s : State} {mi : MethodId} {args : Array Value} {below : List Frame} {meth : Method} {c : Code} {E : ZE} {D : va_G} {cT : Nat → ClassId} {Q : State → Prop} {t0 s0 : Nat} {th : ZT} {L : Nat} {xs : Nat → Int32} {m : Nat}
variable {M : ZM} {pc : Nat} {ls st r : List ZV} {F : List Nat}
theorem zrow {fl : Nat → Nat → Bool} {H : Heap} {t a : Nat} (h1 : ZP E D cT fl M H) (ht : 100 ≤ t) (h : zokR fl (ztop M) t a) : H[E.1 + a]? = some (arrV (cT (zty t)) (zlen t) (zav M a t)) ∧ zS a = t ∧ 1 ≤ a ∧ a < ztop M := by
  obtain ⟨o1, o2, o3⟩ := h.2.2.1 ht
  have h2 := (h1.2.2 a o1 o2).2 (by omega)
  rw [o3] at h2
  exact ⟨h2, o3, o1, o2⟩
theorem zarr (C : ZC p s mi args meth c E D cT L xs m) : ArrOfT s (cT 0) .int ∧ ArrOfT s (cT 1) .long ∧ ArrOfT s (cT 2) .boolean :=
  ⟨(C.2.2.2.2.2.2.2.2.1.2 0 _ rfl).1, (C.2.2.2.2.2.2.2.2.1.2 1 _ rfl).1, (C.2.2.2.2.2.2.2.2.1.2 2 _ rfl).1⟩
theorem zconst {H : Heap} {locs : List Loc} {ty : FieldType} {t N : Nat} {f : Nat → Value} (h : va_T ty t N f (zA E) s s.heap) (hS : va_S (zA E) s.heap H locs) : ∃ cell : Cell, H[t]? = some cell ∧ s.isArrayOf cell ty ∧ cell.vm ≠ .unknown ∧ N ≤ cell.slots.size ∧ cell.slots.size.toInt32 = Int32.ofNat N ∧ ∀ j : Nat, j < N → cell.slots[j]? = some (f j) := by
  obtain ⟨cell, g1, g2, g3, g4, g5, g6, g7⟩ := h
  exact ⟨cell, by rw [hS.2.1 t (Array.getElem?_eq_some_iff.mp g1).1 g7]; exact g1, g2, g3, g4, g5, g6⟩
theorem zstrs (C : ZC p s mi args meth c E D cT L xs m) {i : Nat} (h1 : 1 ≤ i) (h5 : i ≤ 5) : va_O "java/lang/String" (E.2.2.2.1 (i - 1)) (zA E) s s.heap ∧ va_OF "java/lang/String" "coder" "B" (.int 0) (E.2.2.2.1 (i - 1)) (zA E) s s.heap ∧ va_OF "java/lang/String" "value" "[B" (.ref (E.2.2.2.2.1 (i - 1))) (E.2.2.2.1 (i - 1)) (zA E) s s.heap ∧ va_T .byte (E.2.2.2.2.1 (i - 1)) (zSB i).length (fun j => .int ((zSB i).getD j 0)) (zA E) s s.heap := by
  have hE := C.2.2.2.2.2.2.2.2.2.2.2.1
  obtain ⟨a1, a2, a3, a4⟩ := hE.1 (i - 1) (by omega)
  have hh : i = 1 ∨ i = 2 ∨ i = 3 ∨ i = 4 ∨ i = 5 := by omega
  refine ⟨a1, a2, a3, ?_⟩
  rcases hh with rfl | rfl | rfl | rfl | rfl <;> exact a4
theorem so_alenO (C : ZC p s mi args meth c E D cT L xs m) {t a : Nat} (ht : 100 ≤ t) (hty : zty t ≤ 2) (ha : a ≠ 0) (hd : decode (zby m) pc = .ok (.arraylength, 1)) (k : ZG p l e R s mi args below meth c E D cT L xs Q t0 s0 th M (pc + 1) ls (zI (Int32.ofNat (zlen t)) :: r) F) : ZG p l e R s mi args below meth c E D cT L xs Q t0 s0 th M pc ls (zR t a :: r) F := by
  intro fl H locs Ls h1 h2 h3 h4 h5 h6 h7 h8 h9
  have w := k fl H locs Ls h1 h2 h3 h4 h5 h6 h7 (zok_cons zok_int (zok_tl h8)) h9
  obtain ⟨g1, g2, g3, g4⟩ := zrow h1 ht (zok_hd h8)
  rw [List.map_cons, zcv_own (by omega) ha]
  obtain ⟨k0, k1, k2⟩ := zarr C
  have hh : zty t = 0 ∨ zty t = 1 ∨ zty t = 2 := by omega
  rcases hh with hz | hz | hz <;> rw [hz] at g1
  · exact W.alen C.1 C.2.1 g1 (k0 _ _) (by rw [arrV_size] <;> rfl) rfl rfl hd w
  · exact W.alen C.1 C.2.1 g1 (k1 _ _) (by rw [arrV_size] <;> rfl) rfl rfl hd w
  · exact W.alen C.1 C.2.1 g1 (k2 _ _) (by rw [arrV_size] <;> rfl) rfl rfl hd w
theorem so_alenS (C : ZC p s mi args meth c E D cT L xs m) {a : Nat} (hd : decode (zby m) pc = .ok (.arraylength, 1)) (k : ZG p l e R s mi args below meth c E D cT L xs Q t0 s0 th M (pc + 1) ls (zI (Int32.ofNat M.2.2.2.2.2) :: r) F) : ZG p l e R s mi args below meth c E D cT L xs Q t0 s0 th M pc ls (zR 13 a :: r) F := by
  intro fl H locs Ls h1 h2 h3 h4 h5 h6 h7 h8 h9
  have w := k fl H locs Ls h1 h2 h3 h4 h5 h6 h7 (zok_cons zok_int (zok_tl h8)) h9
  rw [h2.2.2.2] at w
  obtain ⟨g1, g2, g3⟩ := C.2.2.2.2.2.2.2.2.2.2.2.2.2.2.2.1
  exact va_slen C.1 C.2.1 g1 g2 g3 h3 hd w
theorem so_alenB (C : ZC p s mi args meth c E D cT L xs m) {a : Nat} (h15 : 1 ≤ a ∧ a ≤ 5) (hd : decode (zby m) pc = .ok (.arraylength, 1)) (k : ZG p l e R s mi args below meth c E D cT L xs Q t0 s0 th M (pc + 1) ls (zI (Int32.ofNat (zSB a).length) :: r) F) : ZG p l e R s mi args below meth c E D cT L xs Q t0 s0 th M pc ls (zR 15 a :: r) F := by
  intro fl H locs Ls h1 h2 h3 h4 h5 h6 h7 h8 h9
  have w := k fl H locs Ls h1 h2 h3 h4 h5 h6 h7 (zok_cons zok_int (zok_tl h8)) h9
  obtain ⟨-, -, -, g⟩ := zstrs C h15.1 h15.2
  obtain ⟨cell, g1, g2, g3, g4, g5, g6⟩ := zconst g h3
  exact W.alen C.1 C.2.1 g1 g2 g5 rfl rfl hd w
theorem so_aldO (C : ZC p s mi args meth c E D cT L xs m) {i : Int32} {t a : Nat} (ht : 100 ≤ t) (ha : a ≠ 0) (hin : ¬ (i < 0 ∨ zlen t ≤ zn i)) (hty : (zty t = 0 ∧ decode (zby m) pc = .ok (.iaload, 1)) ∨ (zty t = 2 ∧ decode (zby m) pc = .ok (.baload, 1))) (k : ZG p l e R s mi args below meth c E D cT L xs Q t0 s0 th M (pc + 1) ls (zI (M.1 a (zn i)) :: r) F) : ZG p l e R s mi args below meth c E D cT L xs Q t0 s0 th M pc ls (zI i :: zR t a :: r) F := by
  intro fl H locs Ls h1 h2 h3 h4 h5 h6 h7 h8 h9
  have w := k fl H locs Ls h1 h2 h3 h4 h5 h6 h7 (zok_cons zok_int (zok_tl (zok_tl h8))) h9
  obtain ⟨g1, g2, g3, g4⟩ := zrow h1 ht (zok_hd (zok_tl h8))
  rw [List.map_cons, List.map_cons, zcv_own (t := t) (by omega) ha]
  obtain ⟨k0, k1, k2⟩ := zarr C
  have hlt : zn i < zlen t := Nat.not_le.mp fun q => hin (Or.inr q)
  have hav : zty t ≠ 1 → zav M a t (zn i) = .int (M.1 a (zn i)) := fun h => by unfold zav; rw [if_neg h]
  rcases hty with ⟨hz, hd⟩ | ⟨hz, hd⟩
  · rw [hz] at g1
    exact W.iald C.1 C.2.1 g1 (k0 _ _) (fun q => by cases q) (by rw [arrV_size]; exact hin) (by rw [arrV_read _ _ hlt, hav (by omega)]; rfl) rfl rfl hd w
  · rw [hz] at g1
    exact W.zald C.1 C.2.1 g1 (k2 _ _) (fun q => by cases q) (by rw [arrV_size]; exact hin) (by rw [arrV_read _ _ hlt, hav (by omega)]; rfl) rfl rfl hd w
theorem so_aldL (C : ZC p s mi args meth c E D cT L xs m) {i : Int32} {t a : Nat} (ht : 100 ≤ t) (ha : a ≠ 0) (hin : ¬ (i < 0 ∨ zlen t ≤ zn i)) (hty : zty t = 1) (hd : decode (zby m) pc = .ok (.laload, 1)) (k : ZG p l e R s mi args below meth c E D cT L xs Q t0 s0 th M (pc + 1) ls (zL (M.2.1 a (zn i)) :: r) F) : ZG p l e R s mi args below meth c E D cT L xs Q t0 s0 th M pc ls (zI i :: zR t a :: r) F := by
  intro fl H locs Ls h1 h2 h3 h4 h5 h6 h7 h8 h9
  have w := k fl H locs Ls h1 h2 h3 h4 h5 h6 h7 (zok_cons zok_long (zok_tl (zok_tl h8))) h9
  obtain ⟨g1, g2, g3, g4⟩ := zrow h1 ht (zok_hd (zok_tl h8))
  rw [List.map_cons, List.map_cons, zcv_own (t := t) (by omega) ha]
  have hlt : zn i < zlen t := Nat.not_le.mp fun q => hin (Or.inr q)
  rw [hty] at g1
  exact W.lald C.1 C.2.1 g1 ((zarr C).2.1 _ _) (fun q => by cases q) (by rw [arrV_size]; exact hin) (by rw [arrV_read _ _ hlt]; unfold zav; rw [if_pos hty]; rfl) rfl rfl hd w
theorem so_aldS (C : ZC p s mi args meth c E D cT L xs m) {i : Int32} {a : Nat} (hin : ¬ (i < 0 ∨ M.2.2.2.2.2 ≤ zn i)) (hd : decode (zby m) pc = .ok (.iaload, 1)) (k : ZG p l e R s mi args below meth c E D cT L xs Q t0 s0 th M (pc + 1) ls (zI (M.1 0 (zn i)) :: r) F) : ZG p l e R s mi args below meth c E D cT L xs Q t0 s0 th M pc ls (zI i :: zR 13 a :: r) F := by
  intro fl H locs Ls h1 h2 h3 h4 h5 h6 h7 h8 h9
  have w := k fl H locs Ls h1 h2 h3 h4 h5 h6 h7 (zok_cons zok_int (zok_tl (zok_tl h8))) h9
  obtain ⟨g1, g2, g3⟩ := C.2.2.2.2.2.2.2.2.2.2.2.2.2.2.2.1
  rw [h2.2.2.1] at w
  rw [h2.2.2.2] at hin
  exact va_sld C.1 C.2.1 g1 g2 g3 h3 hin hd w
theorem so_aldB (C : ZC p s mi args meth c E D cT L xs m) {i : Int32} {a : Nat} (h15 : 1 ≤ a ∧ a ≤ 5) (hin : ¬ (i < 0 ∨ (zSB a).length ≤ zn i)) (hd : decode (zby m) pc = .ok (.baload, 1)) (k : ZG p l e R s mi args below meth c E D cT L xs Q t0 s0 th M (pc + 1) ls (zI ((zSB a).getD (zn i) 0) :: r) F) : ZG p l e R s mi args below meth c E D cT L xs Q t0 s0 th M pc ls (zI i :: zR 15 a :: r) F := by
  intro fl H locs Ls h1 h2 h3 h4 h5 h6 h7 h8 h9
  have w := k fl H locs Ls h1 h2 h3 h4 h5 h6 h7 (zok_cons zok_int (zok_tl (zok_tl h8))) h9
  obtain ⟨-, -, -, g⟩ := zstrs C h15.1 h15.2
  obtain ⟨cell, g1, g2, g3, g4, g5, g6⟩ := zconst g h3
  have hlt : zn i < (zSB a).length := Nat.not_le.mp fun q => hin (Or.inr q)
  exact W.bald C.1 C.2.1 g1 g2 g3 (fun q => q.elim (fun z => hin (Or.inl z)) (fun z => absurd (Nat.le_trans g4 z) (Nat.not_le.mpr hlt))) (g6 _ hlt) rfl rfl hd w
theorem so_aldC (C : ZC p s mi args meth c E D cT L xs m) {i : Int32} {t a : Nat} (ht : t = 11 ∨ t = 12) (hin : ¬ (i < 0 ∨ (zCA t).length ≤ zn i)) (hd : decode (zby m) pc = .ok (.iaload, 1)) (k : ZG p l e R s mi args below meth c E D cT L xs Q t0 s0 th M (pc + 1) ls (zI ((zCA t).getD (zn i) 0) :: r) F) : ZG p l e R s mi args below meth c E D cT L xs Q t0 s0 th M pc ls (zI i :: zR t a :: r) F := by
  intro fl H locs Ls h1 h2 h3 h4 h5 h6 h7 h8 h9
  have w := k fl H locs Ls h1 h2 h3 h4 h5 h6 h7 (zok_cons zok_int (zok_tl (zok_tl h8))) h9
  have hlt : zn i < (zCA t).length := Nat.not_le.mp fun q => hin (Or.inr q)
  rcases ht with rfl | rfl
  · obtain ⟨cell, g1, g2, g3, g4, g5, g6⟩ := zconst C.2.2.2.2.2.2.2.2.2.1.2 h3
    exact W.iald C.1 C.2.1 g1 g2 g3 (fun q => q.elim (fun z => hin (Or.inl z)) (fun z => absurd (Nat.le_trans g4 z) (Nat.not_le.mpr hlt))) (g6 _ hlt) rfl rfl hd w
  · obtain ⟨cell, g1, g2, g3, g4, g5, g6⟩ := zconst C.2.2.2.2.2.2.2.2.2.2.1.2 h3
    exact W.iald C.1 C.2.1 g1 g2 g3 (fun q => q.elim (fun z => hin (Or.inl z)) (fun z => absurd (Nat.le_trans g4 z) (Nat.not_le.mpr hlt))) (g6 _ hlt) rfl rfl hd w
/-- a row's item is written -/
theorem so_ast (C : ZC p s mi args meth c E D cT L xs m) {i : Int32} {t a : Nat} {w : ZV} {M' : ZM} (ht : 100 ≤ t) (ha : a ≠ 0) (hin : ¬ (i < 0 ∨ zlen t ≤ zn i))
    (htop : ztop M' = ztop M) (hsl : zsl M' = zsl M) (hI : ∀ b k, b ≠ a → M'.1 b k = M.1 b k) (hJ : ∀ b k, b ≠ a → M'.2.1 b k = M.2.1 b k) (hR : M'.2.2.1 = M.2.2.1) (hLen : M'.2.2.2.2.2 = M.2.2.2.2.2)
    {x : Value} (hx : ∀ k, updV (zav M a t) (zn i) x k = zav M' a t k)
    (row : ∀ (H : Heap) (locs : List Loc) (Ls : Array Slot) (cells slots : Nat), H[E.1 + a]? = some (arrV (cT (zty t)) (zlen t) (zav M a t)) → (∀ H' : Heap, H'[E.1 + a]? = some ((arrV (cT (zty t)) (zlen t) (zav M a t)).setSlot (zn i) x) → H'.size = H.size → (∀ q, q ≠ E.1 + a → H'[q]? = H[q]?) → W p l e R s mi args below meth c H' (locs ++ [⟨E.1 + a, zn i⟩]) cells slots Q (F0 mi (pc + 1) Ls (r.map (zcv E)))) → W p l e R s mi args below meth c H locs cells slots Q (F0 mi pc Ls (zcv E w :: .int i :: .ref (E.1 + a) :: r.map (zcv E))))
    (k : ZG p l e R s mi args below meth c E D cT L xs Q t0 s0 th M' (pc + 1) ls r F) : ZG p l e R s mi args below meth c E D cT L xs Q t0 s0 th M pc ls (w :: zI i :: zR t a :: r) F := by
  intro fl H locs Ls h1 h2 h3 h4 h5 h6 h7 h8 h9
  obtain ⟨g1, g2, g3, g4⟩ := zrow h1 ht (zok_hd (zok_tl (zok_tl h8)))
  rw [List.map_cons, List.map_cons, List.map_cons, zcv_own (t := t) (by omega) ha]
  refine row H locs Ls _ _ g1 (fun H' e1 e2 e3 => ?_)
  have w2 := k fl H' (locs ++ [⟨E.1 + a, zn i⟩]) Ls (h1.frame (a := a) (fl' := fl) e2 htop e3 hI hJ (fun b k _ => by rw [hR]) (fun _ _ _ => rfl) (fun _ _ => ⟨fun z => by omega, fun z => ?_⟩)) ⟨fun b k' b1 b2 b3 b4 => by rw [htop] at b2 ⊢; rw [hR]; exact h2.1 b k' b1 b2 b3 b4, by rw [htop]; exact h2.2.1, fun j => by rw [hI 0 j (Ne.symm ha)]; exact h2.2.2.1 j, by rw [hLen]; exact h2.2.2.2⟩ (h3.put e2 e3 (show E.1 < E.1 + a by omega)) (by rw [htop]; exact h4) (by rw [hsl]; exact h5) h6 (by rw [htop]; exact h7) (by rw [htop]; exact zok_tl (zok_tl (zok_tl h8))) (by rw [htop]; exact h9)
  · rw [htop, hsl] at w2
    exact w2
  · rw [g2, e1, arrV_store]
    congr 2
    funext q
    exact hx q
theorem so_astI (C : ZC p s mi args meth c E D cT L xs m) {i x : Int32} {t a : Nat} (ht : 100 ≤ t) (hty : zty t = 0) (ha : a ≠ 0) (hin : ¬ (i < 0 ∨ zlen t ≤ zn i)) (hd : decode (zby m) pc = .ok (.iastore, 1)) (k : ZG p l e R s mi args below meth c E D cT L xs Q t0 s0 th (zu M.1 a (zn i) x, M.2) (pc + 1) ls r F) : ZG p l e R s mi args below meth c E D cT L xs Q t0 s0 th M pc ls (zI x :: zI i :: zR t a :: r) F := by
  refine so_ast (M' := (zu M.1 a (zn i) x, M.2)) (x := .int x) C ht ha hin rfl rfl (fun b k hb => ?_) (fun _ _ _ => rfl) rfl rfl (fun k => ?_) (fun H locs Ls cells slots g1 kk => ?_) k
  · show zu M.1 a (zn i) x b k = _
    rw [zu_eq, if_neg (fun q => hb q.1)]
  · unfold updV zav
    have h0 : ¬ zty t = 1 := by omega
    rw [if_neg h0, if_neg h0]
    dsimp only
    rw [zu_eq]
    by_cases h : k = zn i
    · rw [if_pos h, if_pos ⟨rfl, h⟩]
    · rw [if_neg h, if_neg (fun q => h q.2)]
  · rw [hty] at g1 kk
    exact W.iast C.1 C.2.1 g1 ((zarr C).1 _ _) (fun q => by cases q) (by rw [arrV_size]; exact hin) rfl rfl hd kk
theorem so_astZ (C : ZC p s mi args meth c E D cT L xs m) {i x : Int32} {t a : Nat} (ht : 100 ≤ t) (hty : zty t = 2) (ha : a ≠ 0) (hin : ¬ (i < 0 ∨ zlen t ≤ zn i)) (hd : decode (zby m) pc = .ok (.bastore, 1)) (k : ZG p l e R s mi args below meth c E D cT L xs Q t0 s0 th (zu M.1 a (zn i) (vp_nar .boolean x), M.2) (pc + 1) ls r F) : ZG p l e R s mi args below meth c E D cT L xs Q t0 s0 th M pc ls (zI x :: zI i :: zR t a :: r) F := by
  refine so_ast (M' := (zu M.1 a (zn i) (vp_nar .boolean x), M.2)) (x := .int (vp_nar .boolean x)) C ht ha hin rfl rfl (fun b k hb => ?_) (fun _ _ _ => rfl) rfl rfl (fun k => ?_) (fun H locs Ls cells slots g1 kk => ?_) k
  · show zu M.1 a (zn i) _ b k = _
    rw [zu_eq, if_neg (fun q => hb q.1)]
  · unfold updV zav
    have h0 : ¬ zty t = 1 := by omega
    rw [if_neg h0, if_neg h0]
    dsimp only
    rw [zu_eq]
    by_cases h : k = zn i
    · rw [if_pos h, if_pos ⟨rfl, h⟩]
    · rw [if_neg h, if_neg (fun q => h q.2)]
  · rw [hty] at g1 kk
    exact W.zast C.1 C.2.1 g1 ((zarr C).2.2 _ _) (fun q => by cases q) (by rw [arrV_size]; exact hin) rfl rfl hd kk
theorem so_astL (C : ZC p s mi args meth c E D cT L xs m) {i : Int32} {x : Int64} {t a : Nat} (ht : 100 ≤ t) (hty : zty t = 1) (ha : a ≠ 0) (hin : ¬ (i < 0 ∨ zlen t ≤ zn i)) (hd : decode (zby m) pc = .ok (.lastore, 1)) (k : ZG p l e R s mi args below meth c E D cT L xs Q t0 s0 th (M.1, zu M.2.1 a (zn i) x, M.2.2) (pc + 1) ls r F) : ZG p l e R s mi args below meth c E D cT L xs Q t0 s0 th M pc ls (zL x :: zI i :: zR t a :: r) F := by
  refine so_ast (M' := (M.1, zu M.2.1 a (zn i) x, M.2.2)) (x := .long x) C ht ha hin rfl rfl (fun _ _ _ => rfl) (fun b k hb => ?_) rfl rfl (fun k => ?_) (fun H locs Ls cells slots g1 kk => ?_) k
  · show zu M.2.1 a (zn i) _ b k = _
    rw [zu_eq, if_neg (fun q => hb q.1)]
  · unfold updV zav
    rw [if_pos hty, if_pos hty]
    dsimp only
    rw [zu_eq]
    by_cases h : k = zn i
    · rw [if_pos h, if_pos ⟨rfl, h⟩]
    · rw [if_neg h, if_neg (fun q => h q.2)]
  · rw [hty] at g1 kk
    exact W.last C.1 C.2.1 g1 ((zarr C).2.1 _ _) (fun q => by cases q) (by rw [arrV_size]; exact hin) rfl rfl hd kk
end ZR1
