/-! ONE INSTRUCTION: from what the pure machine does to what the real one does -/
def ZG (p : Program) (l : Launch) (e : Env) (R : Room) (s : State) (mi : MethodId) (args : Array Value) (below : List Frame) (meth : Method) (c : Code) (E : ZE) (D : va_G) (cT : Nat → ClassId) (L : Nat) (xs : Nat → Int32) (Q : State → Prop) (t0 s0 : Nat) (th : ZT) (M : ZM) (pc : Nat) (ls st : List ZV) (F : List Nat) : Prop :=
  ∀ (fl : Nat → Nat → Bool) (H : Heap) (locs : List Loc) (Ls : Array Slot), ZP E D cT fl M H → zgood L xs fl M → va_S (zA E) s.heap H locs → t0 ≤ ztop M → s0 ≤ zsl M → zLr E Ls ls → (∀ v ∈ ls, zok fl (ztop M) v) → (∀ v ∈ st, zok fl (ztop M) v) → zFok fl (ztop M) th F →
    W p l e R s mi args below meth c H locs (ztop M - t0) (zsl M - s0) Q (F0 mi pc Ls (st.map (zcv E)))
/-- what holds all through a method's run -/
def ZC (p : Program) (s : State) (mi : MethodId) (args : Array Value) (meth : Method) (c : Code) (E : ZE) (D : va_G) (cT : Nat → ClassId) (L : Nat) (xs : Nat → Int32) (m : Nat) : Prop :=
  p.tables.exec = Jvm.exec ∧ c.code = zby m ∧ c.maxLocals = znl m ∧ s.vm.findClass (zcname (zcn m)) = some mi.cls ∧ (∀ w ∈ zWs, w.before args s = true) ∧ meth.locks = false ∧ meth.sig.returnType = zret m ∧ (zrk m = 6 → meth.name = "<init>") ∧ va_K D zCl (zTys cT) s ∧ zEnv E L xs s s.heap
theorem nbf {a b : Nat} (h : a ≠ b) : Nat.beq a b = false := by
  cases h' : Nat.beq a b
  · rfl
  · exact absurd (Nat.eq_of_beq_eq_true h') h
theorem nbt {a b : Nat} (h : Nat.beq a b = true) : a = b := Nat.eq_of_beq_eq_true h
theorem zok_int {fl : Nat → Nat → Bool} {top : Nat} {x : Int32} : zok fl top (zI x) := trivial
theorem zok_long {fl : Nat → Nat → Bool} {top : Nat} {x : Int64} : zok fl top (zL x) := trivial
theorem zok_cons {fl : Nat → Nat → Bool} {top : Nat} {v : ZV} {r : List ZV} (h : zok fl top v) (k : ∀ w ∈ r, zok fl top w) : ∀ w ∈ v :: r, zok fl top w := fun w hw => by
  rcases List.mem_cons.mp hw with q | q
  · rw [q]; exact h
  · exact k w q
theorem zok_tl {fl : Nat → Nat → Bool} {top : Nat} {v : ZV} {r : List ZV} (k : ∀ w ∈ v :: r, zok fl top w) : ∀ w ∈ r, zok fl top w := fun w hw => k w (List.mem_cons_of_mem _ hw)
theorem zok_hd {fl : Nat → Nat → Bool} {top : Nat} {v : ZV} {r : List ZV} (k : ∀ w ∈ v :: r, zok fl top w) : zok fl top v := k v List.mem_cons_self
theorem zcat_1 {E : ZE} {v : ZV} (h : zcat1 v = true) : (zcv E v).category = 1 := by
  rcases v with x | x | ⟨t, a⟩
  · rfl
  · cases h
  · simp only [zcv]
    repeat' split
    all_goals first
      | rfl
      | (cases E.2.2.2.2.2.1 <;> rfl)
theorem zcat_le {E : ZE} (v : ZV) : (zcv E v).category ≤ 2 := by
  rcases lv_cat (zcv E v) with h | h <;> omega
theorem zcat_sum {E : ZE} : ∀ (r : List ZV), ((r.map (zcv E)).map fun v => v.category).sum ≤ 2 * r.length
  | [] => by simp
  | v :: r => by
    have h1 := zcat_le (E := E) v
    have h2 := zcat_sum (E := E) r
    simp only [List.map_cons, List.sum_cons, List.length_cons]
    omega
theorem zcv_ref {E : ZE} {t a : Nat} (h14 : t ≠ 14) (ha : a ≠ 0) : ∃ q, zcv E (zR t a) = .ref q := by
  show ∃ q, (if t = 10 then _ else _) = Value.ref q
  by_cases h1 : t = 10
  · rw [if_pos h1]; exact ⟨_, rfl⟩
  rw [if_neg h1]
  by_cases h1 : t = 11
  · rw [if_pos h1]; exact ⟨_, rfl⟩
  rw [if_neg h1]
  by_cases h1 : t = 12
  · rw [if_pos h1]; exact ⟨_, rfl⟩
  rw [if_neg h1]
  by_cases h1 : t = 13
  · rw [if_pos h1]; exact ⟨_, rfl⟩
  rw [if_neg h1, if_neg h14]
  by_cases h1 : t = 15
  · rw [if_pos h1]; exact ⟨_, rfl⟩
  rw [if_neg h1, if_neg ha]
  exact ⟨_, rfl⟩
theorem zcv_own {E : ZE} {t a : Nat} (h : t < 10 ∨ 16 ≤ t) (ha : a ≠ 0) : zcv E (zR t a) = .ref (E.1 + a) := by
  show (if t = 10 then _ else _) = Value.ref (E.1 + a)
  rw [if_neg (by omega), if_neg (by omega), if_neg (by omega), if_neg (by omega), if_neg (by omega), if_neg (by omega), if_neg ha]
/-! locals -/
theorem zLr.get {E : ZE} {Ls : Array Slot} {ls : List ZV} (h : zLr E Ls ls) {i : Nat} {v : ZV} (hv : ls[i]? = some v) (hs : zset v = true) : Ls[i]? = some (.val (zcv E v)) := h.2.2 i v hv hs
def zasc (E : ZE) (ls : List ZV) : List (Nat × Value) := (ls.zipIdx.filter fun q => zset q.1).map fun q => (q.2, zcv E q.1)
theorem zasc_mem {E : ZE} {ls : List ZV} {i : Nat} {v : ZV} (hv : ls[i]? = some v) (hs : zset v = true) : (i, zcv E v) ∈ zasc E ls := by
  refine List.mem_map.mpr ⟨(v, i), List.mem_filter.mpr ⟨?_, hs⟩, rfl⟩
  exact List.mem_zipIdx_iff_getElem?.mpr hv
theorem zasc_of {E : ZE} {ls : List ZV} {q : Nat × Value} (h : q ∈ zasc E ls) : ∃ v, ls[q.1]? = some v ∧ zset v = true ∧ q.2 = zcv E v := by
  obtain ⟨⟨v, i⟩, h1, rfl⟩ := List.mem_map.mp h
  obtain ⟨h2, h3⟩ := List.mem_filter.mp h1
  exact ⟨v, List.mem_zipIdx_iff_getElem?.mp h2, h3, rfl⟩
theorem zLr.has {E : ZE} {Ls : Array Slot} {ls : List ZV} (h : zLr E Ls ls) : lv_has Ls ls.length (zasc E ls) := by
  refine ⟨h.1, h.2.1, fun q hq => ?_⟩
  obtain ⟨v, h1, h2, h3⟩ := zasc_of hq
  rw [h3]
  exact h.2.2 q.1 v h1 h2
theorem zclr_len (ls : List ZV) (i : Nat) : (zclr ls i).length = ls.length := by
  unfold zclr
  split
  · rfl
  · split
    · simp
    · rfl
theorem zclr_get {ls : List ZV} {i j : Nat} {v : ZV} (h : (zclr ls i)[j]? = some v) (hs : zset v = true) : ls[j]? = some v ∧ ¬ (j + 1 = i ∧ ∃ x, v = zL x) := by
  unfold zclr at h
  cases i with
  | zero => exact ⟨h, fun q => by omega⟩
  | succ k =>
    simp only at h
    split at h
    · rename_i x hx
      by_cases hj : k = j
      · subst hj
        rw [List.getElem?_set_self (List.getElem?_eq_some_iff.mp hx).1] at h
        cases h
        cases hs
      · rw [List.getElem?_set_ne hj] at h
        exact ⟨h, fun q => by omega⟩
    · rename_i hx
      refine ⟨h, fun q => ?_⟩
      obtain ⟨q1, x, rfl⟩ := q
      have : j = k := by omega
      subst this
      exact hx x h
theorem zclr_ok {fl : Nat → Nat → Bool} {top : Nat} {ls : List ZV} {i : Nat} (h : ∀ v ∈ ls, zok fl top v) : ∀ v ∈ zclr ls i, zok fl top v := by
  unfold zclr
  split
  · exact h
  · split
    · intro v hv
      rcases List.mem_or_eq_of_mem_set hv with q | q
      · exact h v q
      · rw [q]; exact ⟨fun q => by omega, fun q => by omega, fun q => by omega, fun q => by omega, by omega⟩
    · exact h
theorem zok_set {fl : Nat → Nat → Bool} {top : Nat} {ls : List ZV} {i : Nat} {w : ZV} (h : ∀ v ∈ ls, zok fl top v) (hw : zok fl top w) : ∀ v ∈ ls.set i w, zok fl top v := fun v hv => by
  rcases List.mem_or_eq_of_mem_set hv with q | q
  · exact h v q
  · rw [q]; exact hw
theorem zcat_2 {E : ZE} {v : ZV} (h : (zcv E v).category = 2) : ∃ x, v = zL x := by
  rcases v with x | x | q
  · cases h
  · exact ⟨x, rfl⟩
  · have := zcat_1 (E := E) (v := .inr (.inr q)) rfl
    omega
theorem zLr.st1 {E : ZE} {Ls' : Array Slot} {ls : List ZV} {i : Nat} {w : ZV} (hi : i < ls.length) (h : lv_has Ls' ls.length ((i, zcv E w) :: (zasc E ls).filter (fun q => !(q.1 == i) && !(q.1 + 1 == i && q.2.category == 2)))) : zLr E Ls' ((zclr ls i).set i w) := by
  refine ⟨by rw [List.length_set, zclr_len]; exact h.1, h.2.1, fun j v hj hs => ?_⟩
  by_cases hij : i = j
  · subst hij
    rw [List.getElem?_set_self (by rw [zclr_len]; exact hi)] at hj
    cases hj
    exact h.2.2 _ List.mem_cons_self
  · rw [List.getElem?_set_ne hij] at hj
    obtain ⟨h1, h2⟩ := zclr_get hj hs
    refine h.2.2 (j, zcv E v) (List.mem_cons_of_mem _ (List.mem_filter.mpr ⟨zasc_mem h1 hs, ?_⟩))
    have hne : (j == i) = false := by simp; omega
    simp only [hne, Bool.not_false, Bool.true_and, Bool.not_eq_true', Bool.and_eq_false_iff]
    by_cases hc : (zcv E v).category = 2
    · left
      obtain ⟨x, rfl⟩ := zcat_2 hc
      simp only [beq_eq_false_iff_ne]
      exact fun q => h2 ⟨q, x, rfl⟩
    · right
      simp only [beq_eq_false_iff_ne]
      exact hc
theorem zLr.st2 {E : ZE} {Ls' : Array Slot} {ls : List ZV} {i : Nat} {w : ZV} (hi : i + 1 < ls.length) (h : lv_has Ls' ls.length ((i, zcv E w) :: (zasc E ls).filter (fun q => !(q.1 == i) && (!(q.1 == i + 1) && !(q.1 + 1 == i && q.2.category == 2))))) : zLr E Ls' (((zclr ls i).set i w).set (i + 1) zU) := by
  refine ⟨by rw [List.length_set, List.length_set, zclr_len]; exact h.1, h.2.1, fun j v hj hs => ?_⟩
  by_cases hij1 : i + 1 = j
  · subst hij1
    rw [List.getElem?_set_self (by rw [List.length_set, zclr_len]; exact hi)] at hj
    cases hj
    cases hs
  rw [List.getElem?_set_ne hij1] at hj
  by_cases hij : i = j
  · subst hij
    rw [List.getElem?_set_self (by rw [zclr_len]; omega)] at hj
    cases hj
    exact h.2.2 _ List.mem_cons_self
  · rw [List.getElem?_set_ne hij] at hj
    obtain ⟨h1, h2⟩ := zclr_get hj hs
    refine h.2.2 (j, zcv E v) (List.mem_cons_of_mem _ (List.mem_filter.mpr ⟨zasc_mem h1 hs, ?_⟩))
    have hne : (j == i) = false := by simp; omega
    have hne1 : (j == i + 1) = false := by simp; omega
    simp only [hne, hne1, Bool.not_false, Bool.true_and, Bool.not_eq_true', Bool.and_eq_false_iff]
    by_cases hc : (zcv E v).category = 2
    · left
      obtain ⟨x, rfl⟩ := zcat_2 hc
      simp only [beq_eq_false_iff_ne]
      exact fun q => h2 ⟨q, x, rfl⟩
    · right
      simp only [beq_eq_false_iff_ne]
      exact hc
section ZO
variable {p : Program} {l : Launch} {e : Env} {R : Room} {s : State} {mi : MethodId} {args : Array Value} {below : List Frame} {meth : Method} {c : Code} {E : ZE} {D : va_G} {cT : Nat → ClassId} {Q : State → Prop} {t0 s0 : Nat} {th : ZT} {L : Nat} {xs : Nat → Int32} {m : Nat}
variable {M : ZM} {pc : Nat} {ls st r : List ZV} {F : List Nat}
/-- the simplest: the stack alone changes -/
theorem ZG.stk {st' : List ZV} {n : Nat} (hok : ∀ fl, (∀ v ∈ st, zok fl (ztop M) v) → ∀ v ∈ st', zok fl (ztop M) v)
    (row : ∀ (H : Heap) (locs : List Loc) (Ls : Array Slot) (cells slots : Nat), W p l e R s mi args below meth c H locs cells slots Q (F0 mi n Ls (st'.map (zcv E))) → W p l e R s mi args below meth c H locs cells slots Q (F0 mi pc Ls (st.map (zcv E))))
    (k : ZG p l e R s mi args below meth c E D cT L xs Q t0 s0 th M n ls st' F) : ZG p l e R s mi args below meth c E D cT L xs Q t0 s0 th M pc ls st F :=
  fun fl H locs Ls h1 h2 h3 h4 h5 h6 h7 h8 h9 => row H locs Ls _ _ (k fl H locs Ls h1 h2 h3 h4 h5 h6 h7 (hok fl h8) h9)
theorem so_iconst (C : ZC p s mi args meth c E D cT L xs m) {n : Int} (hd : decode (zby m) pc = .ok (.iconst n, 1)) (k : ZG p l e R s mi args below meth c E D cT L xs Q t0 s0 th M (pc + 1) ls (zI (Int32.ofInt n) :: st) F) : ZG p l e R s mi args below meth c E D cT L xs Q t0 s0 th M pc ls st F :=
  ZG.stk (fun fl h => zok_cons zok_int h) (fun H locs Ls _ _ w => lv_iconst C.1 C.2.1 hd rfl w) k
theorem so_bipush (C : ZC p s mi args meth c E D cT L xs m) {n : Int} (hd : decode (zby m) pc = .ok (.bipush n, 2)) (k : ZG p l e R s mi args below meth c E D cT L xs Q t0 s0 th M (pc + 2) ls (zI (Int8.ofInt n).toInt32 :: st) F) : ZG p l e R s mi args below meth c E D cT L xs Q t0 s0 th M pc ls st F :=
  ZG.stk (fun fl h => zok_cons zok_int h) (fun H locs Ls _ _ w => lv_bipush C.1 C.2.1 hd rfl w) k
theorem so_sipush (C : ZC p s mi args meth c E D cT L xs m) {n : Int} (hd : decode (zby m) pc = .ok (.sipush n, 3)) (k : ZG p l e R s mi args below meth c E D cT L xs Q t0 s0 th M (pc + 3) ls (zI (Int16.ofInt n).toInt32 :: st) F) : ZG p l e R s mi args below meth c E D cT L xs Q t0 s0 th M pc ls st F :=
  ZG.stk (fun fl h => zok_cons zok_int h) (fun H locs Ls _ _ w => lv_sipush C.1 C.2.1 hd rfl w) k
theorem so_lconst (C : ZC p s mi args meth c E D cT L xs m) {n : Fin 2} (hd : decode (zby m) pc = .ok (.lconst n, 1)) (k : ZG p l e R s mi args below meth c E D cT L xs Q t0 s0 th M (pc + 1) ls (zL (Int64.ofNat (n : Nat)) :: st) F) : ZG p l e R s mi args below meth c E D cT L xs Q t0 s0 th M pc ls st F :=
  ZG.stk (fun fl h => zok_cons zok_long h) (fun H locs Ls _ _ w => lv_lconst C.1 C.2.1 hd rfl w) k
theorem so_null (C : ZC p s mi args meth c E D cT L xs m) (hd : decode (zby m) pc = .ok (.aconst_null, 1)) (k : ZG p l e R s mi args below meth c E D cT L xs Q t0 s0 th M (pc + 1) ls (zR 3 0 :: st) F) : ZG p l e R s mi args below meth c E D cT L xs Q t0 s0 th M pc ls st F :=
  ZG.stk (fun fl h => zok_cons (v := zR 3 0) (show zokR fl (ztop M) 3 0 from ⟨fun _ => Or.inl rfl, fun q => by omega, fun q => by omega, fun q => by omega, by omega⟩) h) (fun H locs Ls _ _ w => lv_null C.1 C.2.1 hd w) k
theorem so_ldcw (C : ZC p s mi args meth c E D cT L xs m) {j : Nat} {x : Int32} (hw : Cond.constant (zcname (zcn m)) j x ∈ zWs) (hd : decode (zby m) pc = .ok (.ldc_w j, 3)) (k : ZG p l e R s mi args below meth c E D cT L xs Q t0 s0 th M (pc + 3) ls (zI x :: st) F) : ZG p l e R s mi args below meth c E D cT L xs Q t0 s0 th M pc ls st F :=
  ZG.stk (fun fl h => zok_cons zok_int h) (fun H locs Ls _ _ w => lv_ldcw C.1 C.2.1 C.2.2.2.1 (C.2.2.2.2.1 _ hw) hd w) k
theorem so_ldc2 (C : ZC p s mi args meth c E D cT L xs m) {j : Nat} {x : Int64} (hw : Cond.constantLong (zcname (zcn m)) j x ∈ zWs) (hd : decode (zby m) pc = .ok (.ldc2_w j, 3)) (k : ZG p l e R s mi args below meth c E D cT L xs Q t0 s0 th M (pc + 3) ls (zL x :: st) F) : ZG p l e R s mi args below meth c E D cT L xs Q t0 s0 th M pc ls st F :=
  ZG.stk (fun fl h => zok_cons zok_long h) (fun H locs Ls _ _ w => lv_ldc2 C.1 C.2.1 C.2.2.2.1 (C.2.2.2.2.1 _ hw) hd w) k
theorem so_bin (C : ZC p s mi args meth c E D cT L xs m) {x y : Int32} {f : Nat} {i : Instr} (hi : (i = .iadd ∧ f = 0) ∨ (i = .isub ∧ f = 1) ∨ (i = .imul ∧ f = 2) ∨ (i = .iand ∧ f = 3) ∨ (i = .ior ∧ f = 4) ∨ (i = .ixor ∧ f = 5) ∨ (i = .ishl ∧ f = 6) ∨ (i = .ishr ∧ f = 7) ∨ (i = .iushr ∧ f = 8)) (hd : decode (zby m) pc = .ok (i, 1)) (k : ZG p l e R s mi args below meth c E D cT L xs Q t0 s0 th M (pc + 1) ls (zI (zbin f x y) :: r) F) : ZG p l e R s mi args below meth c E D cT L xs Q t0 s0 th M pc ls (zI y :: zI x :: r) F := by
  refine ZG.stk (fun fl h => zok_cons zok_int (zok_tl (zok_tl h))) (fun H locs Ls _ _ w => ?_) k
  rcases hi with ⟨rfl, rfl⟩ | ⟨rfl, rfl⟩ | ⟨rfl, rfl⟩ | ⟨rfl, rfl⟩ | ⟨rfl, rfl⟩ | ⟨rfl, rfl⟩ | ⟨rfl, rfl⟩ | ⟨rfl, rfl⟩ | ⟨rfl, rfl⟩
  · exact lv_iadd C.1 C.2.1 hd w
  · exact lv_isub C.1 C.2.1 hd w
  · exact lv_imul C.1 C.2.1 hd w
  · exact lv_iand C.1 C.2.1 hd w
  · exact lv_ior C.1 C.2.1 hd w
  · exact lv_ixor C.1 C.2.1 hd w
  · exact lv_ishl C.1 C.2.1 hd w
  · exact lv_ishr C.1 C.2.1 hd w
  · exact lv_iushr C.1 C.2.1 hd rfl w
theorem so_div (C : ZC p s mi args meth c E D cT L xs m) {x y : Int32} (hy : ¬ y = 0) (hd : decode (zby m) pc = .ok (.idiv, 1)) (k : ZG p l e R s mi args below meth c E D cT L xs Q t0 s0 th M (pc + 1) ls (zI (x / y) :: r) F) : ZG p l e R s mi args below meth c E D cT L xs Q t0 s0 th M pc ls (zI y :: zI x :: r) F :=
  ZG.stk (fun fl h => zok_cons zok_int (zok_tl (zok_tl h))) (fun H locs Ls _ _ w => lv_idiv C.1 C.2.1 hd hy w) k
theorem so_rem (C : ZC p s mi args meth c E D cT L xs m) {x y : Int32} (hy : ¬ y = 0) (hd : decode (zby m) pc = .ok (.irem, 1)) (k : ZG p l e R s mi args below meth c E D cT L xs Q t0 s0 th M (pc + 1) ls (zI (zrem x y) :: r) F) : ZG p l e R s mi args below meth c E D cT L xs Q t0 s0 th M pc ls (zI y :: zI x :: r) F :=
  ZG.stk (fun fl h => zok_cons zok_int (zok_tl (zok_tl h))) (fun H locs Ls _ _ w => lv_irem C.1 C.2.1 hd hy w) k
theorem so_ldiv (C : ZC p s mi args meth c E D cT L xs m) {x y : Int64} (hy : ¬ y = 0) (hd : decode (zby m) pc = .ok (.ldiv, 1)) (k : ZG p l e R s mi args below meth c E D cT L xs Q t0 s0 th M (pc + 1) ls (zL (x / y) :: r) F) : ZG p l e R s mi args below meth c E D cT L xs Q t0 s0 th M pc ls (zL y :: zL x :: r) F :=
  ZG.stk (fun fl h => zok_cons zok_long (zok_tl (zok_tl h))) (fun H locs Ls _ _ w => lv_ldiv C.1 C.2.1 hd hy w) k
theorem so_lrem (C : ZC p s mi args meth c E D cT L xs m) {x y : Int64} (hy : ¬ y = 0) (hd : decode (zby m) pc = .ok (.lrem, 1)) (k : ZG p l e R s mi args below meth c E D cT L xs Q t0 s0 th M (pc + 1) ls (zL (zreml x y) :: r) F) : ZG p l e R s mi args below meth c E D cT L xs Q t0 s0 th M pc ls (zL y :: zL x :: r) F :=
  ZG.stk (fun fl h => zok_cons zok_long (zok_tl (zok_tl h))) (fun H locs Ls _ _ w => lv_lrem C.1 C.2.1 hd hy w) k
theorem so_ineg (C : ZC p s mi args meth c E D cT L xs m) {x : Int32} (hd : decode (zby m) pc = .ok (.ineg, 1)) (k : ZG p l e R s mi args below meth c E D cT L xs Q t0 s0 th M (pc + 1) ls (zI (-x) :: r) F) : ZG p l e R s mi args below meth c E D cT L xs Q t0 s0 th M pc ls (zI x :: r) F :=
  ZG.stk (fun fl h => zok_cons zok_int (zok_tl h)) (fun H locs Ls _ _ w => lv_ineg C.1 C.2.1 hd w) k
theorem so_i2l (C : ZC p s mi args meth c E D cT L xs m) {x : Int32} (hd : decode (zby m) pc = .ok (.i2l, 1)) (k : ZG p l e R s mi args below meth c E D cT L xs Q t0 s0 th M (pc + 1) ls (zL x.toInt64 :: r) F) : ZG p l e R s mi args below meth c E D cT L xs Q t0 s0 th M pc ls (zI x :: r) F :=
  ZG.stk (fun fl h => zok_cons zok_long (zok_tl h)) (fun H locs Ls _ _ w => lv_i2l C.1 C.2.1 hd rfl w) k
theorem so_l2i (C : ZC p s mi args meth c E D cT L xs m) {x : Int64} (hd : decode (zby m) pc = .ok (.l2i, 1)) (k : ZG p l e R s mi args below meth c E D cT L xs Q t0 s0 th M (pc + 1) ls (zI x.toInt32 :: r) F) : ZG p l e R s mi args below meth c E D cT L xs Q t0 s0 th M pc ls (zL x :: r) F :=
  ZG.stk (fun fl h => zok_cons zok_int (zok_tl h)) (fun H locs Ls _ _ w => lv_l2i C.1 C.2.1 hd rfl w) k
theorem so_i2b (C : ZC p s mi args meth c E D cT L xs m) {x : Int32} (hd : decode (zby m) pc = .ok (.i2b, 1)) (k : ZG p l e R s mi args below meth c E D cT L xs Q t0 s0 th M (pc + 1) ls (zI x.toInt8.toInt32 :: r) F) : ZG p l e R s mi args below meth c E D cT L xs Q t0 s0 th M pc ls (zI x :: r) F :=
  ZG.stk (fun fl h => zok_cons zok_int (zok_tl h)) (fun H locs Ls _ _ w => lv_i2b C.1 C.2.1 hd rfl w) k
theorem so_i2s (C : ZC p s mi args meth c E D cT L xs m) {x : Int32} (hd : decode (zby m) pc = .ok (.i2s, 1)) (k : ZG p l e R s mi args below meth c E D cT L xs Q t0 s0 th M (pc + 1) ls (zI x.toInt16.toInt32 :: r) F) : ZG p l e R s mi args below meth c E D cT L xs Q t0 s0 th M pc ls (zI x :: r) F :=
  ZG.stk (fun fl h => zok_cons zok_int (zok_tl h)) (fun H locs Ls _ _ w => lv_i2s C.1 C.2.1 hd rfl w) k
theorem so_i2c (C : ZC p s mi args meth c E D cT L xs m) {x : Int32} (hd : decode (zby m) pc = .ok (.i2c, 1)) (k : ZG p l e R s mi args below meth c E D cT L xs Q t0 s0 th M (pc + 1) ls (zI (x.toUInt32 % 65536).toInt32 :: r) F) : ZG p l e R s mi args below meth c E D cT L xs Q t0 s0 th M pc ls (zI x :: r) F :=
  ZG.stk (fun fl h => zok_cons zok_int (zok_tl h)) (fun H locs Ls _ _ w => lv_i2c C.1 C.2.1 hd rfl w) k
theorem so_ladd (C : ZC p s mi args meth c E D cT L xs m) {x y : Int64} (hd : decode (zby m) pc = .ok (.ladd, 1)) (k : ZG p l e R s mi args below meth c E D cT L xs Q t0 s0 th M (pc + 1) ls (zL (x + y) :: r) F) : ZG p l e R s mi args below meth c E D cT L xs Q t0 s0 th M pc ls (zL y :: zL x :: r) F :=
  ZG.stk (fun fl h => zok_cons zok_long (zok_tl (zok_tl h))) (fun H locs Ls _ _ w => lv_ladd C.1 C.2.1 hd w) k
theorem so_land (C : ZC p s mi args meth c E D cT L xs m) {x y : Int64} (hd : decode (zby m) pc = .ok (.land, 1)) (k : ZG p l e R s mi args below meth c E D cT L xs Q t0 s0 th M (pc + 1) ls (zL (x &&& y) :: r) F) : ZG p l e R s mi args below meth c E D cT L xs Q t0 s0 th M pc ls (zL y :: zL x :: r) F :=
  ZG.stk (fun fl h => zok_cons zok_long (zok_tl (zok_tl h))) (fun H locs Ls _ _ w => lv_land C.1 C.2.1 hd w) k
theorem so_lor (C : ZC p s mi args meth c E D cT L xs m) {x y : Int64} (hd : decode (zby m) pc = .ok (.lor, 1)) (k : ZG p l e R s mi args below meth c E D cT L xs Q t0 s0 th M (pc + 1) ls (zL (x ||| y) :: r) F) : ZG p l e R s mi args below meth c E D cT L xs Q t0 s0 th M pc ls (zL y :: zL x :: r) F :=
  ZG.stk (fun fl h => zok_cons zok_long (zok_tl (zok_tl h))) (fun H locs Ls _ _ w => lv_lor C.1 C.2.1 hd w) k
theorem so_lcmp (C : ZC p s mi args meth c E D cT L xs m) {x y : Int64} (hd : decode (zby m) pc = .ok (.lcmp, 1)) (k : ZG p l e R s mi args below meth c E D cT L xs Q t0 s0 th M (pc + 1) ls (zI (lg_cmp x y) :: r) F) : ZG p l e R s mi args below meth c E D cT L xs Q t0 s0 th M pc ls (zL y :: zL x :: r) F :=
  ZG.stk (fun fl h => zok_cons zok_int (zok_tl (zok_tl h))) (fun H locs Ls _ _ w => W.lcmp C.1 C.2.1 hd w) k
theorem so_lshl (C : ZC p s mi args meth c E D cT L xs m) {x : Int64} {y : Int32} (hd : decode (zby m) pc = .ok (.lshl, 1)) (k : ZG p l e R s mi args below meth c E D cT L xs Q t0 s0 th M (pc + 1) ls (zL (x <<< (y.toInt64 &&& 63)) :: r) F) : ZG p l e R s mi args below meth c E D cT L xs Q t0 s0 th M pc ls (zI y :: zL x :: r) F :=
  ZG.stk (fun fl h => zok_cons zok_long (zok_tl (zok_tl h))) (fun H locs Ls _ _ w => lv_lshl C.1 C.2.1 hd rfl w) k
theorem so_dup (C : ZC p s mi args meth c E D cT L xs m) {a : ZV} (h1 : zcat1 a = true) (hd : decode (zby m) pc = .ok (.dup, 1)) (k : ZG p l e R s mi args below meth c E D cT L xs Q t0 s0 th M (pc + 1) ls (a :: a :: r) F) : ZG p l e R s mi args below meth c E D cT L xs Q t0 s0 th M pc ls (a :: r) F :=
  ZG.stk (fun fl h => zok_cons (zok_hd h) h) (fun H locs Ls _ _ w => lv_dup C.1 C.2.1 hd (zcat_1 h1) w) k
theorem so_dup_x1 (C : ZC p s mi args meth c E D cT L xs m) {a b : ZV} (h1 : zcat1 a = true) (h2 : zcat1 b = true) (hd : decode (zby m) pc = .ok (.dup_x1, 1)) (k : ZG p l e R s mi args below meth c E D cT L xs Q t0 s0 th M (pc + 1) ls (a :: b :: a :: r) F) : ZG p l e R s mi args below meth c E D cT L xs Q t0 s0 th M pc ls (a :: b :: r) F :=
  ZG.stk (fun fl h => zok_cons (zok_hd h) (zok_cons (zok_hd (zok_tl h)) (zok_cons (zok_hd h) (zok_tl (zok_tl h))))) (fun H locs Ls _ _ w => lv_dup_x1 C.1 C.2.1 hd (zcat_1 h1) (zcat_1 h2) w) k
theorem so_dup2 (C : ZC p s mi args meth c E D cT L xs m) {a b : ZV} (h1 : zcat1 a = true) (h2 : zcat1 b = true) (hd : decode (zby m) pc = .ok (.dup2, 1)) (k : ZG p l e R s mi args below meth c E D cT L xs Q t0 s0 th M (pc + 1) ls (a :: b :: a :: b :: r) F) : ZG p l e R s mi args below meth c E D cT L xs Q t0 s0 th M pc ls (a :: b :: r) F :=
  ZG.stk (fun fl h => zok_cons (zok_hd h) (zok_cons (zok_hd (zok_tl h)) h)) (fun H locs Ls _ _ w => lv_dup2_11 C.1 C.2.1 hd (zcat_1 h1) (zcat_1 h2) w) k
theorem so_pop (C : ZC p s mi args meth c E D cT L xs m) {a : ZV} (h1 : zcat1 a = true) (hd : decode (zby m) pc = .ok (.pop, 1)) (k : ZG p l e R s mi args below meth c E D cT L xs Q t0 s0 th M (pc + 1) ls r F) : ZG p l e R s mi args below meth c E D cT L xs Q t0 s0 th M pc ls (a :: r) F :=
  ZG.stk (fun fl h => zok_tl h) (fun H locs Ls _ _ w => lv_pop C.1 C.2.1 hd (zcat_1 h1) w) k
theorem so_goto (C : ZC p s mi args meth c E D cT L xs m) {off : Int} (h0 : 0 ≤ (pc : Int) + off) (hd : decode (zby m) pc = .ok (.goto off, 3)) (k : ZG p l e R s mi args below meth c E D cT L xs Q t0 s0 th M (zt pc off) ls st F) : ZG p l e R s mi args below meth c E D cT L xs Q t0 s0 th M pc ls st F :=
  ZG.stk (fun fl h => h) (fun H locs Ls _ _ w => lv_goto C.1 C.2.1 hd (by unfold zt; omega) w) k
theorem so_loadI (C : ZC p s mi args meth c E D cT L xs m) {x : Int32} {j : Nat} (hl : ls[j]? = some (zI x)) {n : Nat} (hd : (∃ k : Fin 4, (k : Nat) = j ∧ decode (zby m) pc = .ok (.iload_n k, 1) ∧ n = pc + 1) ∨ (decode (zby m) pc = .ok (.iload j, 2) ∧ n = pc + 2)) (k : ZG p l e R s mi args below meth c E D cT L xs Q t0 s0 th M n ls (zI x :: st) F) : ZG p l e R s mi args below meth c E D cT L xs Q t0 s0 th M pc ls st F := by
  intro fl H locs Ls h1 h2 h3 h4 h5 h6 h7 h8 h9
  have w := k fl H locs Ls h1 h2 h3 h4 h5 h6 h7 (zok_cons zok_int h8) h9
  have hg := h6.get hl rfl
  rcases hd with ⟨i, hi, hd, rfl⟩ | ⟨hd, rfl⟩
  · exact lv_iload_n C.1 C.2.1 hd hi hg w
  · exact lv_iload C.1 C.2.1 hd hg w
theorem so_loadL (C : ZC p s mi args meth c E D cT L xs m) {x : Int64} {j : Nat} (hl : ls[j]? = some (zL x)) {n : Nat} (hd : (∃ k : Fin 4, (k : Nat) = j ∧ decode (zby m) pc = .ok (.lload_n k, 1) ∧ n = pc + 1) ∨ (decode (zby m) pc = .ok (.lload j, 2) ∧ n = pc + 2)) (k : ZG p l e R s mi args below meth c E D cT L xs Q t0 s0 th M n ls (zL x :: st) F) : ZG p l e R s mi args below meth c E D cT L xs Q t0 s0 th M pc ls st F := by
  intro fl H locs Ls h1 h2 h3 h4 h5 h6 h7 h8 h9
  have w := k fl H locs Ls h1 h2 h3 h4 h5 h6 h7 (zok_cons zok_long h8) h9
  have hg := h6.get hl rfl
  rcases hd with ⟨i, hi, hd, rfl⟩ | ⟨hd, rfl⟩
  · exact lv_lload_n C.1 C.2.1 hd hi hg w
  · exact lv_lload C.1 C.2.1 hd hg w
theorem so_loadA (C : ZC p s mi args meth c E D cT L xs m) {t a : Nat} {j : Nat} (hl : ls[j]? = some (zR t a)) (h99 : t ≠ 99) (h14 : t ≠ 14) (ha : a ≠ 0) {n : Nat} (hd : (∃ k : Fin 4, (k : Nat) = j ∧ decode (zby m) pc = .ok (.aload_n k, 1) ∧ n = pc + 1) ∨ (decode (zby m) pc = .ok (.aload j, 2) ∧ n = pc + 2)) (k : ZG p l e R s mi args below meth c E D cT L xs Q t0 s0 th M n ls (zR t a :: st) F) : ZG p l e R s mi args below meth c E D cT L xs Q t0 s0 th M pc ls st F := by
  intro fl H locs Ls h1 h2 h3 h4 h5 h6 h7 h8 h9
  have w := k fl H locs Ls h1 h2 h3 h4 h5 h6 h7 (zok_cons (h7 _ (List.mem_of_getElem? hl)) h8) h9
  have hg := h6.get hl (by show (!(Nat.beq t 99)) = true; rw [nbf h99]; rfl)
  obtain ⟨q, hq⟩ := zcv_ref (E := E) h14 ha
  rw [List.map_cons, hq] at w
  rw [hq] at hg
  rcases hd with ⟨i, hi, hd, rfl⟩ | ⟨hd, rfl⟩
  · exact lv_aload_n C.1 C.2.1 hd hi hg w
  · exact lv_aload C.1 C.2.1 hd hg w
theorem so_storeI (C : ZC p s mi args meth c E D cT L xs m) {x : Int32} {j : Nat} (hj : j < ls.length) {n : Nat} (hd : (∃ k : Fin 4, (k : Nat) = j ∧ decode (zby m) pc = .ok (.istore_n k, 1) ∧ n = pc + 1) ∨ (decode (zby m) pc = .ok (.istore j, 2) ∧ n = pc + 2)) (k : ZG p l e R s mi args below meth c E D cT L xs Q t0 s0 th M n ((zclr ls j).set j (zI x)) r F) : ZG p l e R s mi args below meth c E D cT L xs Q t0 s0 th M pc ls (zI x :: r) F := by
  intro fl H locs Ls h1 h2 h3 h4 h5 h6 h7 h8 h9
  have w := fun (Ls' : Array Slot) (q : lv_has Ls' ls.length _) => k fl H locs Ls' h1 h2 h3 h4 h5 (zLr.st1 (w := zI x) hj q) (zok_set (zclr_ok h7) zok_int) (zok_tl h8) h9
  rcases hd with ⟨i, hi, hd, rfl⟩ | ⟨hd, rfl⟩
  · exact lv_istore_n C.1 C.2.1 hd hi h6.has hj rfl w
  · exact lv_istore C.1 C.2.1 hd h6.has hj rfl w
theorem so_storeL (C : ZC p s mi args meth c E D cT L xs m) {x : Int64} {j : Nat} (hj : j + 1 < ls.length) {n : Nat} (hd : (∃ k : Fin 4, (k : Nat) = j ∧ decode (zby m) pc = .ok (.lstore_n k, 1) ∧ n = pc + 1) ∨ (decode (zby m) pc = .ok (.lstore j, 2) ∧ n = pc + 2)) (k : ZG p l e R s mi args below meth c E D cT L xs Q t0 s0 th M n (((zclr ls j).set j (zL x)).set (j + 1) zU) r F) : ZG p l e R s mi args below meth c E D cT L xs Q t0 s0 th M pc ls (zL x :: r) F := by
  intro fl H locs Ls h1 h2 h3 h4 h5 h6 h7 h8 h9
  have w := fun (Ls' : Array Slot) (q : lv_has Ls' ls.length _) => k fl H locs Ls' h1 h2 h3 h4 h5 (zLr.st2 (w := zL x) hj q) (zok_set (zok_set (zclr_ok h7) zok_long) (w := zU) (show zokR fl (ztop M) 99 0 from ⟨fun q => by omega, fun q => by omega, fun q => by omega, fun q => by omega, by omega⟩)) (zok_tl h8) h9
  rcases hd with ⟨i, hi, hd, rfl⟩ | ⟨hd, rfl⟩
  · exact lv_lstore_n C.1 C.2.1 hd hi h6.has hj rfl w
  · exact lv_lstore C.1 C.2.1 hd h6.has hj rfl w
theorem so_storeA (C : ZC p s mi args meth c E D cT L xs m) {t a : Nat} {j : Nat} (hj : j < ls.length) (h14 : t ≠ 14) (ha : a ≠ 0) {n : Nat} (hd : (∃ k : Fin 4, (k : Nat) = j ∧ decode (zby m) pc = .ok (.astore_n k, 1) ∧ n = pc + 1) ∨ (decode (zby m) pc = .ok (.astore j, 2) ∧ n = pc + 2)) (k : ZG p l e R s mi args below meth c E D cT L xs Q t0 s0 th M n ((zclr ls j).set j (zR t a)) r F) : ZG p l e R s mi args below meth c E D cT L xs Q t0 s0 th M pc ls (zR t a :: r) F := by
  intro fl H locs Ls h1 h2 h3 h4 h5 h6 h7 h8 h9
  have w := fun (Ls' : Array Slot) (q : lv_has Ls' ls.length _) => k fl H locs Ls' h1 h2 h3 h4 h5 (zLr.st1 (w := zR t a) hj q) (zok_set (zclr_ok h7) (zok_hd h8)) (zok_tl h8) h9
  obtain ⟨q, hq⟩ := zcv_ref (E := E) h14 ha
  rw [hq] at w
  rw [List.map_cons, hq]
  rcases hd with ⟨i, hi, hd, rfl⟩ | ⟨hd, rfl⟩
  · exact lv_astore_n C.1 C.2.1 hd hi h6.has hj rfl w
  · exact lv_astore C.1 C.2.1 hd h6.has hj rfl w
theorem so_inc (C : ZC p s mi args meth c E D cT L xs m) {x : Int32} {j : Nat} {n : Int} (hl : ls[j]? = some (zI x)) (hd : decode (zby m) pc = .ok (.iinc j n, 3)) (k : ZG p l e R s mi args below meth c E D cT L xs Q t0 s0 th M (pc + 3) (ls.set j (zI (x + Int32.ofInt n))) st F) : ZG p l e R s mi args below meth c E D cT L xs Q t0 s0 th M pc ls st F := by
  intro fl H locs Ls h1 h2 h3 h4 h5 h6 h7 h8 h9
  have hj := (List.getElem?_eq_some_iff.mp hl).1
  have hz : zclr ls j = ls := by
    unfold zclr
    split
    · rfl
    · rename_i i
      split
      · rename_i x0 hx0
        exfalso
        have q1 := h6.get hx0 rfl
        have q2 := h6.2.1.1 i _ q1 rfl
        rw [h6.get hl rfl] at q2
        cases q2
      · rfl
  obtain ⟨k0, hk0⟩ := List.getElem?_of_mem (zasc_mem (E := E) hl rfl)
  refine lv_iinc C.1 C.2.1 hd h6.has hk0 rfl hj rfl (fun Ls' q => ?_)
  have q' := zLr.st1 (w := zI (x + Int32.ofInt n)) hj q
  rw [hz] at q'
  exact k fl H locs Ls' h1 h2 h3 h4 h5 q' (zok_set h7 zok_int) h8 h9
theorem so_cmp (C : ZC p s mi args meth c E D cT L xs m) {x y : Int32} {co : Jvm.ClassFile.Cond} {off : Int} (h0 : 0 ≤ (pc : Int) + off) (hd : decode (zby m) pc = .ok (.if_icmp co off, 3))
    (kt : (match zcd co with | 0 => x = y | 1 => ¬ x = y | 2 => x < y | 3 => ¬ x < y | 4 => y < x | _ => ¬ y < x) → ZG p l e R s mi args below meth c E D cT L xs Q t0 s0 th M (zt pc off) ls r F)
    (kf : ¬ (match zcd co with | 0 => x = y | 1 => ¬ x = y | 2 => x < y | 3 => ¬ x < y | 4 => y < x | _ => ¬ y < x) → ZG p l e R s mi args below meth c E D cT L xs Q t0 s0 th M (pc + 3) ls r F) : ZG p l e R s mi args below meth c E D cT L xs Q t0 s0 th M pc ls (zI y :: zI x :: r) F := by
  intro fl H locs Ls h1 h2 h3 h4 h5 h6 h7 h8 h9
  have wt := fun q => kt q fl H locs Ls h1 h2 h3 h4 h5 h6 h7 (zok_tl (zok_tl h8)) h9
  have wf := fun q => kf q fl H locs Ls h1 h2 h3 h4 h5 h6 h7 (zok_tl (zok_tl h8)) h9
  have ht : (pc : Int) + off = ((zt pc off : Nat) : Int) := by unfold zt; omega
  cases co with
  | eq => exact lv_icmp_eq C.1 C.2.1 hd ht wt wf
  | ne => exact lv_icmp_ne C.1 C.2.1 hd ht wt (fun q => wf (fun z => z q))
  | lt => exact lv_icmp_lt C.1 C.2.1 hd ht wt wf
  | ge => exact lv_icmp_ge C.1 C.2.1 hd ht (fun q => wt (Int32.not_lt.mpr q)) (fun q => wf (fun z => q (Int32.not_lt.mp z)))
  | gt => exact lv_icmp_gt C.1 C.2.1 hd ht wt wf
  | le => exact lv_icmp_le C.1 C.2.1 hd ht (fun q => wt (Int32.not_lt.mpr q)) (fun q => wf (fun z => q (Int32.not_lt.mp z)))
theorem so_if (C : ZC p s mi args meth c E D cT L xs m) {x : Int32} {co : Jvm.ClassFile.Cond} {off : Int} (h0 : 0 ≤ (pc : Int) + off) (hd : decode (zby m) pc = .ok (.ifCond co off, 3))
    (kt : (match zcd co with | 0 => x = 0 | 1 => ¬ x = 0 | 2 => x < 0 | 3 => ¬ x < 0 | 4 => 0 < x | _ => ¬ 0 < x) → ZG p l e R s mi args below meth c E D cT L xs Q t0 s0 th M (zt pc off) ls r F)
    (kf : ¬ (match zcd co with | 0 => x = 0 | 1 => ¬ x = 0 | 2 => x < 0 | 3 => ¬ x < 0 | 4 => 0 < x | _ => ¬ 0 < x) → ZG p l e R s mi args below meth c E D cT L xs Q t0 s0 th M (pc + 3) ls r F) : ZG p l e R s mi args below meth c E D cT L xs Q t0 s0 th M pc ls (zI x :: r) F := by
  intro fl H locs Ls h1 h2 h3 h4 h5 h6 h7 h8 h9
  have wt := fun q => kt q fl H locs Ls h1 h2 h3 h4 h5 h6 h7 (zok_tl h8) h9
  have wf := fun q => kf q fl H locs Ls h1 h2 h3 h4 h5 h6 h7 (zok_tl h8) h9
  have ht : (pc : Int) + off = ((zt pc off : Nat) : Int) := by unfold zt; omega
  cases co with
  | eq => exact lv_if_eq C.1 C.2.1 hd ht wt wf
  | ne => exact lv_if_ne C.1 C.2.1 hd ht wt (fun q => wf (fun z => z q))
  | lt => exact lv_if_lt C.1 C.2.1 hd ht wt wf
  | ge => exact lv_if_ge C.1 C.2.1 hd ht (fun q => wt (Int32.not_lt.mpr q)) (fun q => wf (fun z => q (Int32.not_lt.mp z)))
  | gt => exact lv_if_gt C.1 C.2.1 hd ht wt wf
  | le => exact lv_if_le C.1 C.2.1 hd ht (fun q => wt (Int32.not_lt.mpr q)) (fun q => wf (fun z => q (Int32.not_lt.mp z)))
theorem so_ifnn (C : ZC p s mi args meth c E D cT L xs m) {t a : Nat} {off : Int} (h0 : 0 ≤ (pc : Int) + off) (ht : t < 10) (hd : decode (zby m) pc = .ok (.ifnonnull off, 3))
    (kt : a ≠ 0 → ZG p l e R s mi args below meth c E D cT L xs Q t0 s0 th M (zt pc off) ls r F)
    (kf : a = 0 → ZG p l e R s mi args below meth c E D cT L xs Q t0 s0 th M (pc + 3) ls r F) : ZG p l e R s mi args below meth c E D cT L xs Q t0 s0 th M pc ls (zR t a :: r) F := by
  intro fl H locs Ls h1 h2 h3 h4 h5 h6 h7 h8 h9
  have wt := fun q => kt q fl H locs Ls h1 h2 h3 h4 h5 h6 h7 (zok_tl h8) h9
  have wf := fun q => kf q fl H locs Ls h1 h2 h3 h4 h5 h6 h7 (zok_tl h8) h9
  have ho : (pc : Int) + off = ((zt pc off : Nat) : Int) := by unfold zt; omega
  rw [List.map_cons]
  by_cases ha : a = 0
  · have e1 : zcv E (zR t a) = .null := by
      show (if t = 10 then _ else _) = Value.null
      rw [if_neg (by omega), if_neg (by omega), if_neg (by omega), if_neg (by omega), if_neg (by omega), if_neg (by omega), if_pos ha]
    rw [e1]
    exact lv_ifnonnullN C.1 C.2.1 hd (wf ha)
  · rw [zcv_own (Or.inl ht) ha]
    exact lv_ifnonnull C.1 C.2.1 hd ho (wt ha)
end ZO
