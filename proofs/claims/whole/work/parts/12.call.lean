def zws (m : Nat) : List Jvm.Cond := Cond.code (zy m) (zby m) (znl m) (zret m) :: zWs
theorem zx_code {m : Nat} (h : m < 243) : Cond.code (zy m) (zby m) (znl m) (zret m) ∈ zWs := by
  have h1 : Cond.code (zy m) (zby m) (znl m) (zret m) ∈ (List.range 243).map (fun m => Cond.code (zy m) (zby m) (znl m) (zret m)) := List.mem_map.mpr ⟨m, List.mem_range.mpr h, rfl⟩
  rw [zx_code0] at h1
  obtain ⟨i, -, hi⟩ := List.mem_filterMap.mp h1
  exact zWs_of (List.mem_of_getElem? hi) rfl
theorem zgoodIn {m : Nat} (h : m < 243) : GoodIn zWs (zws m) := by
  intro w hw
  rcases List.mem_cons.mp hw with rfl | hw
  · exact ⟨zx_code h, Or.inl rfl⟩
  · exact ⟨hw, good_of_word (List.mem_filter.mp hw).2⟩
theorem zx_y : ∀ m, m < 243 → (zy m).cls = zcname (zcn m) ∧ plainName (zy m).cls = true ∧ (zy m).cls ≠ "java/lang/invoke/MethodHandle" ∧ (zy m).cls ≠ "java/lang/invoke/VarHandle" ∧ (parseMethodDescriptor (zy m).desc).map (fun d => d.parameters.length) = some (zpar m).1 ∧ znl m ≤ 20 ∧ ((zrk m = 6 → (zy m).name = "<init>" ∧ zret m = none) ∧ zcn m < 15) := by decide +kernel
theorem zx_ret : ∀ m, m < 244 → (zrk m = 0 → zret m = none) ∧ (zrk m = 1 → zret m = some .int) ∧ (zrk m = 2 → zret m = some .boolean) ∧ (zrk m = 3 → zret m = some .char) ∧ (zrk m = 4 → zret m = some .long) ∧ (zrk m = 5 → zret m = some (.array .int)) ∧ (zrk m = 6 → zret m = none) ∧ (zrk m = 7 → zret m = some .byte) := by decide +kernel
def zroom (d k n : Nat) : Room := { frames := d, cells := k, slots := n, locals := 64 * d }
def zPc (E : ZE) (D : va_G) (cT : Nat → ClassId) (L : Nat) (xs : Nat → Int32) (fl : Nat → Nat → Bool) (M : ZM) (as : List ZV) : Array Value → State → Prop :=
  va_Pc (as.map (zcv E)) (fun U => ZP E D cT fl M U.heap ∧ va_K D zCl (zTys cT) U ∧ zEnv E L xs U U.heap)
def zQc (E : ZE) (D : va_G) (cT : Nat → ClassId) (L : Nat) (xs : Nat → Int32) (m : Nat) (fl : Nat → Nat → Bool) (as : List ZV) (M' : ZM) (v : Option ZV) : Array Value → State → Outcome → State → Prop := fun _ st oc t =>
  (∃ fl' : Nat → Nat → Bool, (∀ a k, fl a k = true → fl' a k = true) ∧ oc = .returned (v.map (zcv E)) ∧ ZP E D cT fl' M' t.heap ∧ zgood L xs fl' M' ∧ (∀ w, v = some w → zok fl' (ztop M') w) ∧ (zrk m = 6 → ∀ a as', as = zR (20 + zcn m) a :: as' → zokO fl' (ztop M') (zcn m) a)) ∧ va_F (zA E) st t
/-- all that the pure machine computes at depth d, the real one does -/
def ZSound (l : Launch) (E : ZE) (D : va_G) (cT : Nat → ClassId) (L : Nat) (xs : Nat → Int32) (d : Nat) : Prop :=
  ∀ (n m : Nat) (as : List ZV) (M M' : ZM) (v : Option ZV) (fl : Nat → Nat → Bool), m < 243 → zrun d n m as M = some (M', v) → zgood L xs fl M → 1 ≤ ztop M → (∀ w ∈ as, zok fl (ztop M) w) →
    (ztop M ≤ ztop M' ∧ zsl M ≤ zsl M') ∧ Met l (zy m) (zws m) (zroom d (ztop M' - ztop M) (zsl M' - zsl M)) (zPc E D cT L xs fl M as) (zQc E D cT L xs m fl as M' v) (ztop M' - ztop M) (zsl M' - zsl M) (zA E)
section ZCL
variable {p : Program} {l : Launch} {e : Env} {R : Room} {s : State} {mi : MethodId} {args : Array Value} {below : List Frame} {meth : Method} {c : Code} {E : ZE} {D : va_G} {cT : Nat → ClassId} {Q : State → Prop} {t0 s0 : Nat} {th : ZT} {L : Nat} {xs : Nat → Int32} {m : Nat}
variable {M M1 : ZM} {pc : Nat} {ls st r : List ZV} {F : List Nat} {H : Heap} {locs : List Loc} {fl : Nat → Nat → Bool} {Ls : Array Slot} {y : Nat} {as rest rest' : List ZV} {v : Option ZV} {d : Nat}
theorem zblind : FrameBlind (zPc E D cT L xs fl M as) := fun a U g mk q => ⟨q.1, q.2.1, va_K.moved (u := U) (U := U.calling g mk a) (Vm.Alike.refl U.vm) q.2.2.1, zEnv.same (u := U) (U := U.calling g mk a) rfl q.2.2.2⟩
theorem zpre (C : ZC p s mi args meth c E D cT L xs m) (h1 : ZP E D cT fl M H) (hS : va_S (zA E) s.heap H locs) : ∀ U : State, U.heap = H → s.WarmedH U.vm → zPc E D cT L xs fl M as (as.map (zcv E)).toArray U :=
  fun U hU hW => ⟨rfl, by rw [hU]; exact h1, va_K.moved hW.alike C.2.2.2.2.2.2.2.2.1, by rw [hU]; exact zEnv.warm hW hS.1 hS.2.1 C.2.2.2.2.2.2.2.2.2⟩
theorem zafter {a : Array Value} {stv : List Value} (htop : ztop M ≤ ztop M1 ∧ zsl M ≤ zsl M1) (hr : va_Run p l e R s mi args below meth c H locs (ztop M - t0) (zsl M - s0) (ztop M1 - ztop M) (zsl M1 - zsl M) (F0 mi pc Ls stv) (rest.map (zcv E)) (zQc E D cT L xs y fl as M1 v a) (zA E))
    (hmap : rest'.map (zcv E) = (v.map (zcv E)).toList ++ rest.map (zcv E))
    (hok : ∀ fl' : Nat → Nat → Bool, (∀ a k, fl a k = true → fl' a k = true) → (∀ w, v = some w → zok fl' (ztop M1) w) → (zrk y = 6 → ∀ a as', as = zR (20 + zcn y) a :: as' → zokO fl' (ztop M1) (zcn y) a) → ∀ w ∈ rest', zok fl' (ztop M1) w)
    (hS : va_S (zA E) s.heap H locs) (h4 : t0 ≤ ztop M) (h5 : s0 ≤ zsl M) (h6 : zLr E Ls ls) (h7 : ∀ v ∈ ls, zok fl (ztop M) v) (h9 : zFok fl (ztop M) th F)
    (k : ZG p l e R s mi args below meth c E D cT L xs Q t0 s0 th M1 (pc + 3) ls rest' F) : W p l e R s mi args below meth c H locs (ztop M - t0) (zsl M - s0) Q (F0 mi pc Ls stv) := by
  intro T hT X
  obtain ⟨v', st₀, t, T', L2, h0, X', hL, e1, e2, ⟨⟨fl', f1, f2, f3, f4, f5, f6⟩, hz, hk⟩, st⟩ := hr T hT X
  cases f2
  rw [h0] at hz hk
  have w := k fl' T'.heap (locs ++ L2) Ls (by rw [e1]; exact f3) f4 ⟨Nat.le_trans hS.1 (by rw [e1]; exact hz), fun q q1 q2 => by rw [e1, hk q (Nat.lt_of_lt_of_le q1 hS.1) q2]; exact hS.2.1 q q1 q2, fun q hq => by
      rcases List.mem_append.mp hq with h | h
      · exact hS.2.2 q h
      · exact hL q h⟩ (by omega) (by omega) h6 (fun w hw => (h7 w hw).mono f1 htop.1) (hok fl' f1 f5 f6) (h9.mono f1 htop.1)
  rw [show ztop M1 - t0 = ztop M - t0 + (ztop M1 - ztop M) by omega, show zsl M1 - s0 = zsl M - s0 + (zsl M1 - zsl M) by omega, hmap] at w
  obtain ⟨t2, a1, b1⟩ := w T' rfl X'
  exact ⟨t2, st t2 a1, b1⟩
theorem zok_push (h : ∀ w, v = some w → zok fl (ztop M1) w) (k : ∀ w ∈ rest, zok fl (ztop M1) w) : ∀ w ∈ zpush v rest, zok fl (ztop M1) w := by
  cases v with
  | none => exact k
  | some x => exact zok_cons (h x rfl) k
theorem zpush_map : (zpush v rest).map (zcv E) = (v.map (zcv E)).toList ++ rest.map (zcv E) := by
  cases v <;> rfl
/-- the room that calls have -/
def ZRm (R : Room) (d top sl t0 s0 : Nat) : Prop := d + 1 ≤ R.frames ∧ 64 * (d + 1) ≤ R.locals ∧ top - t0 ≤ R.cells ∧ sl - s0 ≤ R.slots
theorem zhW (h : rest.length ≤ 4) : 2 * (F0 mi pc Ls (st.map (zcv E))).monitorRoom + ((rest.map (zcv E)).map fun v => v.category).sum ≤ 8 := by
  have := zcat_sum (E := E) rest
  show 2 * 0 + _ ≤ 8
  omega
theorem so_callS (C : ZC p s mi args meth c E D cT L xs m) (S : ZSound l E D cT L xs d) {j n : Nat} (hq : (zcn m, j, y, 0) ∈ zLm) (hy : y < 243) (hst : (zpar y).2 = 1) (har : as.length = (zpar y).1) (hrun : zrun d n y as M = some (M1, v)) (he : st = as.reverse ++ rest) (hre : rest.length ≤ 4) (hls : ls.length = znl m) (hR : ZRm R d (ztop M1) (zsl M1) t0 s0) (hd : decode (zby m) pc = .ok (.invokestatic j, 3)) (k : ZG p l e R s mi args below meth c E D cT L xs Q t0 s0 th M1 (pc + 3) ls (zpush v rest) F) : ZG p l e R s mi args below meth c E D cT L xs Q t0 s0 th M pc ls st F := by
  intro fl H locs Ls h1 h2 h3 h4 h5 h6 h7 h8 h9
  subst he
  have hao : ∀ w ∈ as, zok fl (ztop M) w := fun w hw => h8 w (List.mem_append_left _ (List.mem_reverse.mpr hw))
  have hro : ∀ w ∈ rest, zok fl (ztop M) w := fun w hw => h8 w (List.mem_append_right _ hw)
  obtain ⟨ht, hM⟩ := S n y as M M1 v fl hy hrun h2 h1.2.1 hao
  obtain ⟨y1, y2, y3, y4, y5, y6, -⟩ := zx_y y hy
  have hlk : Cond.methodLink (zcname (zcn m)) j (zy y) ∈ zWs := zall_in zx_lm0 _ (show (zcn m, j, y, 0) ∈ zLm0 from List.mem_filter.mpr ⟨hq, rfl⟩)
  have hsw : Cond.static (zy y) ∈ zWs := zall_in zx_stat0 _ (show y ∈ zStat from List.mem_filter.mpr ⟨List.mem_range.mpr hy, by rw [hst]; rfl⟩)
  have hiw : Cond.initialized (zy y).cls ∈ zWs := zall_in zx_ini0 _ (List.mem_range.mpr hy)
  have cw := va_cwS (R := R) (s := s) (args := args) (own := zcname (zcn m)) (index := j) (y := zy y) (bytes := zby y) (maxL := znl y) (mc := ztop M1 - ztop M) (ms := zsl M1 - zsl M) (ret := zret y) (Ts := zWs) (ws := zws y) (ws' := zWs) (rm := zroom d (ztop M1 - ztop M) (zsl M1 - zsl M)) (zpar y).1 C.2.2.2.2.1 (by
      intro w hw
      simp only [va_wsS, List.mem_append, List.mem_cons, List.not_mem_nil, or_false] at hw
      rcases hw with (rfl | rfl | rfl) | hw
      · exact ⟨hlk, Or.inl rfl⟩
      · exact ⟨hsw, Or.inl rfl⟩
      · exact ⟨hiw, Or.inl rfl⟩
      · exact zgoodIn hy w hw) rfl rfl rfl ⟨y3, y4, y5⟩ ⟨hR.1, by show 8 + (znl y + 11) + 64 * d ≤ _; have := hR.2.1; omega⟩
  have hr := va_runS (e := e) (below := below) (meth := meth) (H := H) (locs := locs) (cells := ztop M - t0) (slots := zsl M - s0) (As := as.map (zcv E)) (rest := rest.map (zcv E)) (g := F0 mi pc Ls ((as.reverse ++ rest).map (zcv E))) ⟨C.1, C.2.1, C.2.2.1, C.2.2.2.1, C.2.2.2.2.1⟩ hM cw ⟨zblind, zpre C h1 h3⟩ rfl (by rw [List.length_map, har]) (by rw [← hls]; exact h6.1) (by show (as.reverse ++ rest).map (zcv E) = _; rw [List.map_append, List.map_reverse]) (zhW hre) hd (by have := hR.2.2; omega)
  exact zafter (rest' := zpush v rest) ht hr zpush_map (fun fl' f1 f5 _ => zok_push f5 (fun w hw => (hro w hw).mono f1 ht.1)) h3 h4 h5 h6 h7 h9 k
/-- the receiver's cell -/
theorem zrecv (C : ZC p s mi args meth c E D cT L xs m) {t a : Nat} (h1 : ZP E D cT fl M H) (hS : va_S (zA E) s.heap H locs) (ht : t ≤ 10) (ha : a ≠ 0) (hk : zokR fl (ztop M) t a) : ∃ b, zcv E (zR t a) = .ref b ∧ ∃ cellB : Cell, H[b]? = some cellB ∧ cellB.vm.isStatics = false ∧ s.vm.findClass (zcname t) = some cellB.cls := by
  by_cases h10 : t = 10
  · subst h10
    have hi := hk.2.2.2.1 (Or.inl rfl)
    obtain ⟨⟨cell, g1, g2, g3, g4⟩, -⟩ := zstrs C hi.1 hi.2
    exact ⟨_, rfl, cell, by rw [hS.2.1 _ (Array.getElem?_eq_some_iff.mp g1).1 g4]; exact g1, g2, g3⟩
  · have hc : t < 10 := by omega
    obtain ⟨o1, o2, o3⟩ := zmine hc ha (Or.inl rfl) hk
    obtain ⟨cell, q1, q2, q3, q4⟩ := zobj h1 hc o1 o2 o3
    refine ⟨_, zcv_own (Or.inl hc) ha, cell, q1, by rw [q3]; rfl, ?_⟩
    rw [q2]
    exact (C.2.2.2.2.2.2.2.2.1.1 t _ (zCl_at hc)).2.1
theorem so_callV (C : ZC p s mi args meth c E D cT L xs m) (S : ZSound l E D cT L xs d) {j n a : Nat} (hq : (zcn m, j, y, 0) ∈ zLm) (hy : y < 243) (hst : (zpar y).2 = 0) (hrk : zrk y ≠ 6) (hcn : zcn y ≤ 10) (ha : a ≠ 0) (har : as.length = (zpar y).1) (hrun : zrun d n y (zR (zcn y) a :: as) M = some (M1, v)) (he : st = as.reverse ++ zR (zcn y) a :: rest) (hre : rest.length ≤ 4) (hls : ls.length = znl m) (hR : ZRm R d (ztop M1) (zsl M1) t0 s0) (hd : decode (zby m) pc = .ok (.invokevirtual j, 3)) (k : ZG p l e R s mi args below meth c E D cT L xs Q t0 s0 th M1 (pc + 3) ls (zpush v rest) F) : ZG p l e R s mi args below meth c E D cT L xs Q t0 s0 th M pc ls st F := by
  intro fl H locs Ls h1 h2 h3 h4 h5 h6 h7 h8 h9
  subst he
  have hro : ∀ w ∈ zR (zcn y) a :: rest, zok fl (ztop M) w := fun w hw => h8 w (List.mem_append_right _ hw)
  have hao : ∀ w ∈ zR (zcn y) a :: as, zok fl (ztop M) w := zok_cons (zok_hd hro) (fun w hw => h8 w (List.mem_append_left _ (List.mem_reverse.mpr hw)))
  obtain ⟨ht, hM⟩ := S n y (zR (zcn y) a :: as) M M1 v fl hy hrun h2 h1.2.1 hao
  obtain ⟨y1, y2, y3, y4, y5, y6, -⟩ := zx_y y hy
  obtain ⟨b, hb1, hb2⟩ := zrecv C h1 h3 hcn ha (zok_hd hro)
  have hlk : Cond.methodLink (zcname (zcn m)) j (zy y) ∈ zWs := zall_in zx_lm0 _ (show (zcn m, j, y, 0) ∈ zLm0 from List.mem_filter.mpr ⟨hq, rfl⟩)
  have hinm : y ∈ zInst := List.mem_filter.mpr ⟨List.mem_range.mpr hy, by rw [hst]; rfl⟩
  have hsw : Cond.instanceMethod (zy y) ∈ zWs := zall_in zx_inst0 _ hinm
  have hse : Cond.selects (zy y).cls (zy y) (zy y) ∈ zWs := zall_in zx_virt0 _ (show y ∈ zVirt from List.mem_filter.mpr ⟨hinm, by rw [nbf hrk]; rfl⟩)
  have hiw : Cond.initialized (zy y).cls ∈ zWs := zall_in zx_ini0 _ (List.mem_range.mpr hy)
  have cw := cwV (R := R) (s := s) (args := args) (own := zcname (zcn m)) (C := (zy y).cls) (index := j) (y := zy y) (bytes := zby y) (maxL := znl y) (mc := ztop M1 - ztop M) (ms := zsl M1 - zsl M) (ret := zret y) (Ts := zWs) (ws := zws y) (ws' := zWs) (rm := zroom d (ztop M1 - ztop M) (zsl M1 - zsl M)) (zpar y).1 C.2.2.2.2.1 (by
      intro w hw
      simp only [wsV, List.mem_append, List.mem_cons, List.not_mem_nil, or_false] at hw
      rcases hw with (rfl | rfl | rfl | rfl) | hw
      · exact ⟨hlk, Or.inl rfl⟩
      · exact ⟨hsw, Or.inl rfl⟩
      · exact ⟨hse, Or.inl rfl⟩
      · exact ⟨hiw, Or.inl rfl⟩
      · exact zgoodIn hy w hw) rfl rfl rfl ⟨rfl, y3, y4, y5⟩ ⟨hR.1, by show 8 + (znl y + 11) + 64 * d ≤ _; have := hR.2.1; omega⟩
  have hpre := zpre (as := zR (zcn y) a :: as) C h1 h3
  rw [List.map_cons, hb1] at hpre
  have hr := va_runV (e := e) (below := below) (meth := meth) (H := H) (locs := locs) (cells := ztop M - t0) (slots := zsl M - s0) (b := b) (As := as.map (zcv E)) (rest := rest.map (zcv E)) (g := F0 mi pc Ls ((as.reverse ++ zR (zcn y) a :: rest).map (zcv E))) ⟨C.1, C.2.1, C.2.2.1, C.2.2.2.1, C.2.2.2.2.1⟩ hM cw ⟨zblind, by rw [y1]; exact hb2, hpre⟩ rfl (by rw [List.length_map, har]) (by rw [← hls]; exact h6.1) (by show (as.reverse ++ zR (zcn y) a :: rest).map (zcv E) = _; rw [List.map_append, List.map_reverse, List.map_cons, hb1]) (zhW hre) hd (by have := hR.2.2; omega)
  exact zafter (rest' := zpush v rest) ht hr zpush_map (fun fl' f1 f5 _ => zok_push f5 (fun w hw => (zok_tl hro w hw).mono f1 ht.1)) h3 h4 h5 h6 h7 h9 k
theorem so_callI (C : ZC p s mi args meth c E D cT L xs m) (S : ZSound l E D cT L xs d) {j n a b0 : Nat} (hq : (zcn m, j, y, b0) ∈ zLm) (hb0 : b0 = 0 ∨ b0 = 1) (hy : y < 243) (hst : (zpar y).2 = 0) (hrk : zrk y = 6) (hcn : zcn y < 10) (ha : a ≠ 0) (har : as.length = (zpar y).1) (hrun : zrun d n y (zR (20 + zcn y) a :: as) M = some (M1, none)) (he : st = as.reverse ++ zR (20 + zcn y) a :: zR (20 + zcn y) a :: r) (hre : r.length ≤ 3) (hls : ls.length = znl m) (hR : ZRm R d (ztop M1) (zsl M1) t0 s0) (hd : decode (zby m) pc = .ok (.invokespecial j, 3)) (k : ZG p l e R s mi args below meth c E D cT L xs Q t0 s0 th M1 (pc + 3) ls (zR (zcn y) a :: r) F) : ZG p l e R s mi args below meth c E D cT L xs Q t0 s0 th M pc ls st F := by
  intro fl H locs Ls h1 h2 h3 h4 h5 h6 h7 h8 h9
  subst he
  have hro : ∀ w ∈ zR (20 + zcn y) a :: zR (20 + zcn y) a :: r, zok fl (ztop M) w := fun w hw => h8 w (List.mem_append_right _ hw)
  have hao : ∀ w ∈ zR (20 + zcn y) a :: as, zok fl (ztop M) w := zok_cons (zok_hd hro) (fun w hw => h8 w (List.mem_append_left _ (List.mem_reverse.mpr hw)))
  obtain ⟨ht, hM⟩ := S n y (zR (20 + zcn y) a :: as) M M1 none fl hy hrun h2 h1.2.1 hao
  obtain ⟨y1, y2, y3, y4, y5, y6, y7, y8⟩ := zx_y y hy
  have hb1 : zcv E (zR (20 + zcn y) a) = .ref (E.1 + a) := zcv_own (by omega) ha
  have hinm : y ∈ zInst := List.mem_filter.mpr ⟨List.mem_range.mpr hy, by rw [hst]; rfl⟩
  have hsw : Cond.instanceMethod (zy y) ∈ zWs := zall_in zx_inst0 _ hinm
  have hiw : Cond.initialized (zy y).cls ∈ zWs := zall_in zx_ini0 _ (List.mem_range.mpr hy)
  have hcode := zx_code hy
  have hrn := (y7 hrk).2
  have hw : zws y = Cond.code (zy y) (zby y) (znl y) none :: zWs := by unfold zws; rw [hrn]
  have hpre := zpre (as := zR (20 + zcn y) a :: as) C h1 h3
  rw [List.map_cons, hb1] at hpre
  have hroom : (zroom d (ztop M1 - ztop M) (zsl M1 - zsl M)).frames + 1 ≤ R.frames ∧ 8 + (znl y + 11) + (zroom d (ztop M1 - ztop M) (zsl M1 - zsl M)).locals ≤ R.locals := ⟨hR.1, by show 8 + (znl y + 11) + 64 * d ≤ _; have := hR.2.1; omega⟩
  have hr : va_Run p l e R s mi args below meth c H locs (ztop M - t0) (zsl M - s0) (ztop M1 - ztop M) (zsl M1 - zsl M) (F0 mi pc Ls ((as.reverse ++ zR (20 + zcn y) a :: zR (20 + zcn y) a :: r).map (zcv E))) ((zR (20 + zcn y) a :: r).map (zcv E)) (zQc E D cT L xs y fl (zR (20 + zcn y) a :: as) M1 none (Value.ref (E.1 + a) :: as.map (zcv E)).toArray) (zA E) := by
    rcases hb0 with rfl | rfl
    · have hlk : Cond.methodLink (zcname (zcn m)) j (zy y) ∈ zWs := zall_in zx_lm0 _ (show (zcn m, j, y, 0) ∈ zLm0 from List.mem_filter.mpr ⟨hq, rfl⟩)
      have cw := cwI (R := R) (s := s) (args := args) (own := zcname (zcn m)) (index := j) (y := zy y) (bytes := zby y) (maxL := znl y) (mc := ztop M1 - ztop M) (ms := zsl M1 - zsl M) (Ts := zWs) (ws := zws y) (ws' := zWs) (rm := zroom d (ztop M1 - ztop M) (zsl M1 - zsl M)) (zpar y).1 C.2.2.2.2.1 (zgoodIn hy) hw rfl rfl (C.2.2.2.2.1 _ hiw) (C.2.2.2.2.1 _ hlk) (C.2.2.2.2.1 _ hsw) (y7 hrk).1 ⟨y3, y4, y5⟩ hroom
      exact va_runI (b := E.1 + a) (As := as.map (zcv E)) ⟨C.1, C.2.1, C.2.2.1, C.2.2.2.1, C.2.2.2.2.1⟩ hM cw ⟨zblind, hpre⟩ rfl (by rw [List.length_map, har]) (by rw [← hls]; exact h6.1) (by show List.map (zcv E) _ = _; rw [List.map_append, List.map_reverse, List.map_cons, hb1]) (zhW (rest := zR (20 + zcn y) a :: r) (by simp; omega)) hd (by have := hR.2.2; omega)
    · have hnl := C.2.2.2.2.2.2.2.2.2.2.2.2.2.2.2.2.2 _ hq rfl
      have cw := va_cnB (R := R) (s := s) (args := args) (own := zcname (zcn m)) (host := "SeatOn") (index := j) (y := zy y) (bytes := zby y) (maxL := znl y) (mc := ztop M1 - ztop M) (ms := zsl M1 - zsl M) (ret := none) (Ts := zWs) (ws := zws y) (ws' := zWs) (rm := zroom d (ztop M1 - ztop M) (zsl M1 - zsl M)) (zpar y).1 C.2.2.2.2.1 (zgoodIn hy) hw rfl rfl hnl (C.2.2.2.2.1 _ hiw) ⟨y3, y4, y5⟩ hroom
      exact va_runIN (b := E.1 + a) (As := as.map (zcv E)) ⟨C.1, C.2.1, C.2.2.1, C.2.2.2.1, C.2.2.2.2.1⟩ hM ⟨cw, (y7 hrk).1, C.2.2.2.2.1 _ hsw⟩ ⟨zblind, hpre⟩ rfl (by rw [List.length_map, har]) (by rw [← hls]; exact h6.1) (by show List.map (zcv E) _ = _; rw [List.map_append, List.map_reverse, List.map_cons, hb1]) (zhW (rest := zR (20 + zcn y) a :: r) (by simp; omega)) hd (by have := hR.2.2; omega)
  refine zafter (rest' := zR (zcn y) a :: r) ht hr ?_ (fun fl' f1 _ f6 => zok_cons (v := zR (zcn y) a) ?_ (fun w hw => (zok_tl (zok_tl hro) w hw).mono f1 ht.1)) h3 h4 h5 h6 h7 h9 k
  · rw [List.map_cons, List.map_cons, hb1, zcv_own (Or.inl hcn) ha]; rfl
  · exact ⟨fun _ => Or.inr (f6 hrk a as rfl), fun q => by omega, fun q => by omega, fun q => by omega, by omega⟩
end ZCL
