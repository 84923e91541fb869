/-! THE CLAIM OUT OF ONE WALK OF THE LAW'S BODY. Your part is whole_start (and what it stands on); all else here is the same for every law, but numbers. -/
def R_law : String := "SeatOnLaw"
def lw_P (b : Addr) (xs : List Int32) (args : Array Value) (s : State) : Prop := args = #[.ref b] ∧ s.IntsAt b xs ∧ xs.length ≤ 3072 ∧ (Jvm.Cond.and given_1 narrow_1).before args s = true
def lw_Q (_ : Array Value) (s : State) (o : Outcome) (t : State) : Prop := o = .returned (some (.int 1)) ∧ Framed s o t [] 600000 7302250
def lw_Z (below : List Frame) (a : Array Value) (s : State) : State → Prop := fun t => ∃ o, t.status = .running ∧ Ended t below o ∧ lw_Q a s o t
/-- the law's own end, with 1 on the stack, nothing written that was there before, its room as the claim has it -/
theorem lw_ret {p : Program} {l : Launch} {e : Env} {s : State} {m : MethodId} {below : List Frame} {meth : Method} {c : Code} {b : Nat} (hx : p.tables.exec = Jvm.exec) (hb : c.code = code) (hr : meth.sig.returnType = ret) (hlocks : meth.locks = false) {pc : Nat} {H : Heap} {ls : Array Slot} (hdg : decode code pc = .ok (.ireturn, 1)) : W p l e room_1 s m #[Value.ref b] below meth c H [] 600000 7302250 (lw_Z below #[Value.ref b] s) (F0 m pc ls [.int 1]) := by
  intro T hT X
  obtain ⟨fs, hret, hrun, hended, hW, hframe⟩ := X.leave (v := some (.int 1)) (hlocks := hlocks) (fun h => by rw [hr] at h; cases h)
  have hmeth' : T.vm.method? m = some meth := X.method'
  refine ⟨T.setFrames fs, ?_, .returned (some (.int 1)), hrun, hended, rfl, ⟨_, rfl⟩, hW, hframe⟩
  jvm_step X.here [X.here.top, hx, hb, hdg, hmeth', hr, ret, narrow_b1]
  (try refine ⟨rfl, ?_⟩); (try refine ⟨rfl, ?_⟩)
  first | (intro acts; rw [hret _ acts rfl rfl rfl]) | rw [hret _ _ rfl rfl rfl]
  exact Steps.refl _
/-- what holds at the law's entry: the machine, the code, the tables' words (any of lw_tbl by 'hts w (by decide +kernel)'), the script of L ints xs at the cell b, what the Statement gives of the start (any of its parts by flat_of_before) -/
def lw_At (p : Program) (s : State) (m : MethodId) (meth : Method) (c : Code) (b L : Nat) (xs : Nat → Int32) : Prop :=
  p.tables.exec = Jvm.exec ∧ c.code = code ∧ meth.sig.returnType = ret ∧ c.maxLocals = 4 ∧ s.vm.findClass R_law = some m.cls ∧ (∀ w ∈ lw_tbl, w.before #[Value.ref b] s = true) ∧ va_X b L xs s s.heap ∧ b < s.heap.size ∧ meth.locks = false ∧ (Jvm.Cond.and given_1 narrow_1).before #[Value.ref b] s = true
theorem zarrc {args : Array Value} {s : State} {ty : FieldType} (hr : ∀ n, ty ≠ .object n) (h : (Cond.arrayClass ty).before args s = true) : ∃ cA, ArrOfT s cA ty ∧ s.vm.findClass ("[" ++ ty.toString) = some cA := by
  obtain ⟨cA, kA, comp, h1, h2, h3⟩ := Cond.arrayClass_spec h
  exact ⟨cA, fun n z => ⟨fun k h => (by cases h), kA, h2, comp, h3⟩, h1⟩
def zFl : List Jvm.Cond := flatC (Jvm.Cond.and given_1 narrow_1)
def zSi (i : Nat) : Nat := [59, 65, 67, 84, 90].getD i 0
def zTm (i : Nat) : Term := .string "SeatOn$Reader" (zSi i)
theorem zl_1 : Cond.eq (.static "java/lang/String" "COMPACT_STRINGS" "Z") (.int 1) ∈ zFl := by decide +kernel
theorem zl_2 : Cond.isRef (.static "jdk/internal/util/Preconditions" "SIOOBE_FORMATTER" "Ljava/util/function/BiFunction;") ∈ zFl := by decide +kernel
theorem zl_3 : Cond.arrayOf (.static "SeatOn$Acts" "BODIES" "[I") .int ∈ zFl := by decide +kernel
theorem zl_4 : Cond.eq (.length (.static "SeatOn$Acts" "BODIES" "[I")) (.int 21) ∈ zFl := by decide +kernel
theorem zl_5 : ∀ j, j < 21 → Cond.eq (.elem (.static "SeatOn$Acts" "BODIES" "[I") (.int (Int32.ofNat j))) (.int ((zCA 12).getD j 0)) ∈ zFl := by decide +kernel
theorem zl_6 : Cond.arrayOf (.static "SeatOn" "ABOVE" "[I") .int ∈ zFl := by decide +kernel
theorem zl_7 : Cond.eq (.length (.static "SeatOn" "ABOVE" "[I")) (.int 7) ∈ zFl := by decide +kernel
theorem zl_8 : ∀ j, j < 7 → Cond.eq (.elem (.static "SeatOn" "ABOVE" "[I") (.int (Int32.ofNat j))) (.int ((zCA 11).getD j 0)) ∈ zFl := by decide +kernel
abbrev zLn : List Nat := [3, 3, 5, 6, 3]
abbrev zBt : List (List Int32) := [zSB 1, zSB 2, zSB 3, zSB 4, zSB 5]
theorem zl_9 : ∀ i, i < 5 → Cond.exactly (zTm i) "java/lang/String" ∈ zFl := by decide +kernel
theorem zl_10 : ∀ i, i < 5 → Cond.eq (.field (zTm i) "java/lang/String" "coder" "B") (.int 0) ∈ zFl := by decide +kernel
theorem zl_11 : ∀ i, i < 5 → Cond.arrayOf (.field (zTm i) "java/lang/String" "value" "[B") .byte ∈ zFl := by decide +kernel
theorem zl_12 : ∀ i, i < 5 → Cond.eq (.length (.field (zTm i) "java/lang/String" "value" "[B")) (.int (Int32.ofNat (zLn.getD i 0))) ∈ zFl := by decide +kernel
theorem zl_13 : ∀ i, i < 5 → ∀ j, j < zLn.getD i 0 → Cond.eq (.elem (.field (zTm i) "java/lang/String" "value" "[B") (.int (Int32.ofNat j))) (.int ((zBt.getD i []).getD j 0)) ∈ zFl := by decide +kernel
theorem zl_14 : ∀ i, i < 5 → ∀ j, j < 5 → i < j → Cond.not (.eq (zTm i) (zTm j)) ∈ zFl := by decide +kernel
theorem zl_20 : ∀ w ∈ ([.laysStatic "SeatOn" "ABOVE" "[I", .laysStatic "SeatOn$Acts" "BODIES" "[I", .laysStatic "java/lang/String" "COMPACT_STRINGS" "Z", .laysStatic "jdk/internal/util/Preconditions" "SIOOBE_FORMATTER" "Ljava/util/function/BiFunction;", .initialized "SeatOn", .initialized "SeatOn$Acts", .initialized "java/lang/String", .initialized "jdk/internal/util/Preconditions", .stringRef "SeatOn$Reader" 59 "ie ", .stringRef "SeatOn$Reader" 65 "ke ", .stringRef "SeatOn$Reader" 67 "oath ", .stringRef "SeatOn$Reader" 84 "pskmtw", .stringRef "SeatOn$Reader" 90 "<=>", .fieldLinkNest "SeatOn$Acts" 39 "SeatOn" "ABOVE" "[I" "SeatOn"] : List Jvm.Cond), w ∈ lw_tbl := by decide +kernel
theorem zl_21 : ∀ q ∈ zLm, q.2.2.2 = 1 → Cond.methodLinkNest (zcname q.1) q.2.1 (zy q.2.2.1) "SeatOn" ∈ lw_tbl := by decide +kernel
/-- the classes, as the start knows them -/
theorem zclasses {s : State} {args : Array Value} (hts : ∀ w ∈ zWs, w.before args s = true) : ∃ (D : va_G) (cT : Nat → ClassId), va_K D zCl (zTys cT) s := by
  have h : ∀ c, ∃ q : ClassId × (Nat → Nat), c < 10 → u_Kn s (zcname c) (zT c) (zN c) q.1 q.2 := by
    intro c
    by_cases hc : c < 10
    · obtain ⟨cC, iS, h⟩ := u_known (C := zcname c) (T := zT c) (N := zN c) hts (zx_in c hc) (hts _ (zall_in zx_inst1 c (List.mem_range.mpr hc)))
      exact ⟨(cC, iS), fun _ => h⟩
    · exact ⟨(0, fun _ => 0), fun q => absurd q hc⟩
  obtain ⟨f, hf⟩ := Classical.axiomOfChoice h
  have hms := zall_in zx_misc0
  obtain ⟨c0, i0, n0⟩ := zarrc (ty := .int) (fun n h => by cases h) (hts _ (hms (.arrayClass .int) (by simp)))
  obtain ⟨c1, i1, n1⟩ := zarrc (ty := .long) (fun n h => by cases h) (hts _ (hms (.arrayClass .long) (by simp)))
  obtain ⟨c2, i2, n2⟩ := zarrc (ty := .boolean) (fun n h => by cases h) (hts _ (hms (.arrayClass .boolean) (by simp)))
  refine ⟨(fun c => (f c).1, fun c => (f c).2), fun k => if k = 0 then c0 else if k = 1 then c1 else c2, fun c q hq => ?_, fun k q hq => ?_⟩
  · have hc : c < 10 := by
      have := (List.getElem?_eq_some_iff.mp hq).1
      simpa [zCl] using this
    rw [zCl_at hc] at hq
    cases hq
    exact hf c hc
  · match k, hq with
    | 0, hq => cases hq; exact ⟨i0, n0⟩
    | 1, hq => cases hq; exact ⟨i1, n1⟩
    | 2, hq => cases hq; exact ⟨i2, n2⟩
    | k + 3, hq => simp at hq
/-- what stands outside, as the start knows it -/
theorem zenv0 {s : State} {b L : Nat} {xs : Nat → Int32} (hts : ∀ w ∈ lw_tbl, w.before #[Value.ref b] s = true) (hX : va_X b L xs s s.heap) (hbl : b < s.heap.size) (hgv : (Jvm.Cond.and given_1 narrow_1).before #[Value.ref b] s = true) : ∃ E : ZE, E.1 + 1 = s.heap.size ∧ E.2.2.2.2.2.2 = b ∧ zEnv E L xs s s.heap := by
  have hs := flat_of_before _ hgv
  have hA : ∀ a : Nat, a < s.heap.size → ¬ (fun q => s.heap.size - 1 < q) a := fun a h => by show ¬ _ < _; omega
  have tb := fun w h => hts w (zl_20 w h)
  obtain ⟨tA, a1, a2⟩ := va_Tof (N := 7) (f := fun j => .int ((zCA 11).getD j 0)) (by decide) (hs _ zl_6) (va_eqt (hs _ zl_7)) (fun j hj => va_eqt (hs _ (zl_8 j hj))) hA
  obtain ⟨tB, b1, b2⟩ := va_Tof (N := 21) (f := fun j => .int ((zCA 12).getD j 0)) (by decide) (hs _ zl_3) (va_eqt (hs _ zl_4)) (fun j hj => va_eqt (hs _ (zl_5 j hj))) hA
  have a3 := va_Zof (tb (.laysStatic "SeatOn" "ABOVE" "[I") (by simp)) (tb (.initialized "SeatOn") (by simp)) a1 hA
  have b3 := va_Zof (tb (.laysStatic "SeatOn$Acts" "BODIES" "[I") (by simp)) (tb (.initialized "SeatOn$Acts") (by simp)) b1 hA
  have c3 := va_Zof (tb (.laysStatic "java/lang/String" "COMPACT_STRINGS" "Z") (by simp)) (tb (.initialized "java/lang/String") (by simp)) (va_eqi (hs _ zl_1)) hA
  have d3 := va_Zqof (tb (.laysStatic "jdk/internal/util/Preconditions" "SIOOBE_FORMATTER" "Ljava/util/function/BiFunction;") (by simp)) (tb (.initialized "jdk/internal/util/Preconditions") (by simp)) (hs _ zl_2) hA
  obtain ⟨adK, adV, e1, e2⟩ := vk_Sof (N := 5) (tm := zTm) (len := zLn) (byt := zBt) (by decide) (fun i hi => hs _ (zl_9 i hi)) (fun i hi => hs _ (zl_10 i hi)) (fun i hi => hs _ (zl_11 i hi)) (fun i hi => hs _ (zl_12 i hi)) (fun i hi j hj => hs _ (zl_13 i hi j hj)) (fun i j hi hj hne => by
    rcases Nat.lt_or_gt_of_ne hne with q | q
    · exact Or.inl (hs _ (zl_14 i hi j hj q))
    · exact Or.inr (hs _ (zl_14 j hj i hi q))) hA
  obtain ⟨vF, f3⟩ : ∃ vF : Option Nat, va_Z "jdk/internal/util/Preconditions" "SIOOBE_FORMATTER" "Ljava/util/function/BiFunction;" (va_rf vF) (fun q => s.heap.size - 1 < q) s s.heap := by
    rcases d3 with h | ⟨t, h⟩
    · exact ⟨none, h⟩
    · exact ⟨some t, h⟩
  refine ⟨(s.heap.size - 1, tA, tB, adK, adV, vF, b), by show s.heap.size - 1 + 1 = _; omega, rfl, ⟨a3, a2⟩, ⟨b3, b2⟩, e1, ⟨?_, ?_, ?_, ?_, ?_⟩, c3, f3, ⟨hX, hbl, hA b hbl⟩, va_Nw.of rfl (tb (.fieldLinkNest "SeatOn$Acts" 39 "SeatOn" "ABOVE" "[I" "SeatOn") (by simp)), fun q hq h1 => va_Nw.of rfl (hts _ (zl_21 q hq h1))⟩
  · exact vk_R.of (tb (.stringRef "SeatOn$Reader" 59 "ie ") (by simp)) (e2 0 (by decide))
  · exact vk_R.of (tb (.stringRef "SeatOn$Reader" 65 "ke ") (by simp)) (e2 1 (by decide))
  · exact vk_R.of (tb (.stringRef "SeatOn$Reader" 67 "oath ") (by simp)) (e2 2 (by decide))
  · exact vk_R.of (tb (.stringRef "SeatOn$Reader" 84 "pskmtw") (by simp)) (e2 3 (by decide))
  · exact vk_R.of (tb (.stringRef "SeatOn$Reader" 90 "<=>") (by simp)) (e2 4 (by decide))
/-- the memory at the law's entry: nothing but the script -/
def zM0 (L : Nat) (xs : Nat → Int32) : ZM := (fun a j => bif Nat.beq a 0 then xs j else 0, fun _ _ => 0, fun _ _ => 0, 1, 0, L)
set_option maxHeartbeats 4000000 in
/-- THE LAW OUT OF A RUN OF THE PURE MACHINE -/
theorem zlaw {p : Program} {e : Env} {s : State} {m : MethodId} {below : List Frame} {meth : Method} {c : Code} (l : Launch) {b L : Nat} {xs : Nat → Int32} (C0 : lw_At p s m meth c b L xs) (hrun : ∃ (d n0 n : Nat) (Mf : ZM), d ≤ 1000 ∧ zrunF (zrun d n0) (zcode 243) 0 n (zM0 L xs) 0 [zR 13 1, zU, zU, zU] [] [] = some (Mf, some (zI 1)) ∧ ztop Mf ≤ 600000 ∧ zsl Mf ≤ 7302250) : W p l e room_1 s m #[Value.ref b] below meth c s.heap [] 0 0 (lw_Z below #[Value.ref b] s) (entryFrame m ([Value.ref b] : List Value).toArray 4) := by
  obtain ⟨hx, hb, hr, hml, hown, hts, hX, hbl, hlocks, hgv⟩ := C0
  obtain ⟨d, n0, n, Mf, hd, hrun, ht, hs⟩ := hrun
  obtain ⟨E, hE1, hE2, hE⟩ := zenv0 hts hX hbl hgv
  obtain ⟨D, cT, hK⟩ := zclasses (fun w hw => hts w (zWs_in w hw))
  have C : ZC p s m #[Value.ref b] meth c E D cT L xs 243 := ⟨hx, hb, hml, hown, fun w hw => hts w (zWs_in w hw), hlocks, hr, fun h => absurd h (by decide), hK, hE⟩
  have hG := z_run (R := room_1) (l := l) (e := e) (below := below) (Q := lw_Z below #[Value.ref b] s) (t0 := 1) (s0 := 0) (th := (0, fun _ _ => false)) (n0 := n0) (Mf := Mf) (v := some (zI 1)) C (by decide) (zsound_all d) ⟨by show d + 1 ≤ 2048; omega, by show 64 * (d + 1) ≤ 84000; omega, by show ztop Mf - 1 ≤ 600000; omega, by show zsl Mf - 0 ≤ 7302250; omega⟩ (fun M pc ls st F hdg hrt => ⟨mo_ret hrt, fun fl H locs Ls h1 h2 h3 h4 h5 h6 h7 h8 h9 => by
    have hst : st = [zI 1] ∧ M = Mf := by
      change zsRet zFin 2 _ M st F = some (Mf, some (zI 1)) at hrt
      unfold zsRet at hrt
      split at hrt
      all_goals first
        | (split at hrt; cases hrt; exact ⟨rfl, rfl⟩; cases hrt; done)
        | (cases hrt; done)
        | (rename_i hz; cases hz; done)
    obtain ⟨rfl, rfl⟩ := hst
    refine va_forget (fun q hq => ?_) (W.widen (k := 600000) (n := 7302250) (Nat.le_trans (Nat.sub_le _ _) ht) (Nat.le_trans (Nat.sub_le _ _) hs) ?_)
    · have := h3.2.2 q hq
      have h' : E.1 < q.base := this
      omega
    · exact lw_ret hx hb hr hlocks hdg⟩) n (zM0 L xs) 0 [zR 13 1, zU, zU, zU] [] [] rfl hrun
  have hent := lv_entry ([.ref b]) (n := 4) (Nat.le_of_ble_eq_true rfl)
  have hW := hG.2 (fun _ _ => false) s.heap [] ((lg_sl ([.ref b]) ++ List.replicate (4 - (lg_sl ([.ref b])).length) Slot.unset).toArray) ⟨by show s.heap.size = E.1 + 1; omega, Nat.le_refl _, fun a h1 h2 => by have : a < 1 := h2; omega⟩ ⟨fun a k h1 h2 => by have : a < 1 := h2; omega, fun _ _ _ => rfl, fun _ => rfl, rfl⟩ ⟨Nat.le_refl _, fun _ _ _ => rfl, fun _ h => absurd h List.not_mem_nil⟩ (Nat.le_refl _) (Nat.le_refl _) ⟨hent.1, hent.2.1, fun i v hv hs => by
    match i, hv with
    | 0, hv =>
      cases hv
      have h0 := hent.2.2 (0, .ref b) (by simp [lv_args])
      rw [h0]
      show some (Slot.val (.ref b)) = some (Slot.val (.ref E.2.2.2.2.2.2))
      rw [hE2]
    | 1, hv => cases hv; cases hs
    | 2, hv => cases hv; cases hs
    | 3, hv => cases hv; cases hs
    | k + 4, hv => simp at hv⟩ (fun v hv => by
      rcases List.mem_cons.mp hv with rfl | hv
      · exact ⟨fun q => by omega, fun q => by omega, fun q => by omega, fun q => by omega, by omega⟩
      · have : v = zU := by
          rcases List.mem_cons.mp hv with h | hv
          · exact h
          rcases List.mem_cons.mp hv with h | hv
          · exact h
          rcases List.mem_cons.mp hv with h | hv
          · exact h
          · cases hv
        rw [this]
        exact ⟨fun q => by omega, fun q => by omega, fun q => by omega, fun q => by omega, by omega⟩) (fun v hv => absurd hv List.not_mem_nil) ⟨fun k hk => absurd hk List.not_mem_nil, fun _ _ q => q⟩
  rw [lg_entry_eq]
  exact hW
