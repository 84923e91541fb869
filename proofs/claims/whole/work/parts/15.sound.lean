theorem zlg_cons {E : ZE} (v : ZV) (as : List ZV) : lg_sl ((v :: as).map (zcv E)) = (if (zcv E v).category = 2 then [.val (zcv E v), .second] else [.val (zcv E v)]) ++ lg_sl (as.map (zcv E)) := by
  unfold lg_sl
  rw [List.map_cons, List.flatMap_cons]
theorem zloc_cons (v : ZV) (as : List ZV) : zloc (v :: as) = (if zcat1 v then [v] else [v, zU]) ++ zloc as := by
  rcases v with x | x | q
  · rfl
  · rfl
  · obtain ⟨t, a⟩ := q; rfl
theorem zlg_len {E : ZE} : ∀ (as : List ZV), (lg_sl (as.map (zcv E))).length = (zloc as).length
  | [] => rfl
  | v :: as => by
    rw [zlg_cons, zloc_cons, List.length_append, List.length_append, zlg_len as]
    cases h : zcat1 v with
    | true => rw [if_neg (by rw [zcat_1 h]; decide)]; rfl
    | false =>
      have h2 : (zcv E v).category = 2 := by
        rcases v with x | x | q
        · cases h
        · rfl
        · cases h
      rw [if_pos h2]; rfl
theorem zlv_args {E : ZE} : ∀ (as : List ZV) (o i : Nat) (v : ZV), (zloc as)[i]? = some v → zset v = true → (o + i, zcv E v) ∈ lv_args o (as.map (zcv E))
  | [], o, i, v, h, _ => by cases h
  | w :: as, o, i, v, h, hs => by
    rw [zloc_cons] at h
    rw [List.map_cons]
    show (o + i, zcv E v) ∈ (o, zcv E w) :: lv_args (if (zcv E w).category = 2 then o + 2 else o + 1) (as.map (zcv E))
    cases hw : zcat1 w with
    | true =>
      rw [if_neg (by rw [zcat_1 hw]; decide)]
      rw [hw] at h
      cases i with
      | zero => cases h; exact List.mem_cons_self
      | succ i =>
        have h' : (zloc as)[i]? = some v := by simpa using h
        have := zlv_args (E := E) as (o + 1) i v h' hs
        rw [show o + 1 + i = o + (i + 1) by omega] at this
        exact List.mem_cons_of_mem _ this
    | false =>
      have h2 : (zcv E w).category = 2 := by
        rcases w with x | x | q
        · cases hw
        · rfl
        · cases hw
      rw [if_pos h2]
      rw [hw] at h
      cases i with
      | zero => cases h; exact List.mem_cons_self
      | succ i =>
        cases i with
        | zero => cases h; cases hs
        | succ i =>
          have h' : (zloc as)[i]? = some v := by simpa using h
          have := zlv_args (E := E) as (o + 2) i v h' hs
          rw [show o + 2 + i = o + (i + 1 + 1) by omega] at this
          exact List.mem_cons_of_mem _ this
theorem zini_len {n : Nat} {as : List ZV} (h : (zloc as).length ≤ n) : (zini n as).length = n := by
  unfold zini
  rw [List.length_append, List.length_replicate]
  omega
theorem zini_get {n i : Nat} {as : List ZV} {v : ZV} (h : (zini n as)[i]? = some v) (hs : zset v = true) : (zloc as)[i]? = some v := by
  unfold zini at h
  rcases Nat.lt_or_ge i (zloc as).length with q | q
  · rwa [List.getElem?_append_left q] at h
  · rw [List.getElem?_append_right q] at h
    have := List.mem_of_getElem? h
    rw [(List.mem_replicate.mp this).2] at hs
    cases hs
theorem zini_ok {fl : Nat → Nat → Bool} {top n : Nat} {as : List ZV} (h : ∀ v ∈ as, zok fl top v) : ∀ v ∈ zini n as, zok fl top v := by
  have hU : zok fl top zU := ⟨fun q => by omega, fun q => by omega, fun q => by omega, fun q => by omega, by omega⟩
  have key : ∀ (as : List ZV), (∀ v ∈ as, zok fl top v) → ∀ v ∈ zloc as, zok fl top v := by
    intro as
    induction as with
    | nil => intro _ v hv; cases hv
    | cons w as ih =>
      intro h v hv
      rw [zloc_cons] at hv
      rcases List.mem_append.mp hv with q | q
      · split at q
        · rw [List.mem_singleton.mp q]; exact zok_hd h
        · rcases List.mem_cons.mp q with q | q
          · rw [q]; exact zok_hd h
          · rw [List.mem_singleton.mp q]; exact hU
      · exact ih (zok_tl h) v q
  intro v hv
  rcases List.mem_append.mp hv with q | q
  · exact key as h v q
  · rw [(List.mem_replicate.mp q).2]; exact hU
section ZSD
variable {p : Program} {l : Launch} {e : Env} {R : Room} {s : State} {mi : MethodId} {args : Array Value} {below : List Frame} {meth : Method} {c : Code} {E : ZE} {D : va_G} {cT : Nat → ClassId} {Q : State → Prop} {t0 s0 : Nat} {th : ZT} {L : Nat} {xs : Nat → Int32} {m : Nat} {d n0 : Nat}
variable {Mf : ZM} {v : Option ZV}
theorem z_run (C : ZC p s mi args meth c E D cT L xs m) (hm : m < 244) (S : ZSound l E D cT L xs d) (hR : ZRm R d (ztop Mf) (zsl Mf) t0 s0)
    (HR : ∀ (M : ZM) (pc : Nat) (ls st : List ZV) (F : List Nat), decode (zby m) pc = .ok (zri (zrk m), 1) → zsRet zFin (zrk m) (match zrk m with | 6 => zcn m | _ => 0) M st F = some (Mf, v) → ZR2 p l e R s mi args below meth c E D cT L xs Q t0 s0 th Mf M pc ls st F) :
    ∀ (n : Nat) (M : ZM) (pc : Nat) (ls st : List ZV) (F : List Nat), ls.length = znl m → zrunF (zrun d n0) (zcode m) th.1 n M pc ls st F = some (Mf, v) → ZR2 p l e R s mi args below meth c E D cT L xs Q t0 s0 th Mf M pc ls st F
  | 0, _, _, _, _, _, _, h => by cases h
  | n + 1, M, pc, ls, st, F, hl, h => zstep_frame C hm S (fun n m as M M' v q => zmono_all d n m as M M' v q) hR HR hl _ (fun M' pc' ls' st' F' hl' h' => z_run C hm S hR HR n M' pc' ls' st' F' hl' h') h
end ZSD
theorem zx_rk6 : ∀ m, m < 243 → zrk m = 6 → zcn m < 10 := by decide +kernel
theorem zsound_all {l : Launch} {E : ZE} {D : va_G} {cT : Nat → ClassId} {L : Nat} {xs : Nat → Int32} : ∀ d, ZSound l E D cT L xs d
  | 0 => fun n m as M M' v fl hm h => by cases h
  | d + 1 => fun n m as M M' v fl hm hrun hg htop hok => by
    have S := zsound_all (l := l) (E := E) (D := D) (cT := cT) (L := L) (xs := xs) d
    refine ⟨zmono_all _ _ _ _ _ _ _ hrun, ?_⟩
    unfold zrun at hrun
    cases hb : Nat.ble (zloc as).length (znl m) with
    | false => rw [hb] at hrun; cases hrun
    | true =>
      rw [hb] at hrun
      simp only [cond_true] at hrun
      have hln := Nat.ble_eq.mp hb
      obtain ⟨y1, y2, y3, y4, y5, y6, y7, y8⟩ := zx_y m hm
      refine Met.ofW (cc := zby m) (maxL := znl m) (ret := zret m) y2 rfl ?_
      intro p e s mi args below meth c s₁ B hml hv
      obtain ⟨rfl, hP, hK, hE⟩ := hv
      have hpre := atoms_spec (ws := zws m) B.pre
      have hown := findClass_of_methodNamed B.named
      rw [y1] at hown
      have C : ZC p s mi (as.map (zcv E)).toArray meth c E D cT L xs m := ⟨B.exec, B.bytes, hml, hown, fun w hw => hpre w (List.mem_cons_of_mem _ hw), B.notSynchronized, B.returns, fun h6 => by rw [(name_of_methodNamed B.named B.method).1]; exact (y7 h6).1, hK, hE⟩
      have hG := z_run (R := (headSpec (zws m) (zroom (d + 1) (ztop M' - ztop M) (zsl M' - zsl M))).room) (l := l) (e := e) (below := below) (Q := MQ below (zQc E D cT L xs m fl as M' v) (as.map (zcv E)).toArray s (ztop M' - ztop M) (zsl M' - zsl M) (zA E)) (t0 := ztop M) (s0 := zsl M) (th := (zthis as, fl)) (n0 := n) (Mf := M') (v := v) C (by omega) S ⟨Nat.le_refl _, Nat.le_refl _, Nat.le_refl _, Nat.le_refl _⟩ (fun M2 pc ls st F hd hr => ⟨mo_ret hr, so_ret C (by omega) (fun h6 => ⟨zx_rk6 m hm h6, fun a as' ha => by
        subst ha
        have hk := (zok_hd hok : zokR fl (ztop M) (20 + zcn m) a).2.1 (by omega) (by have := zx_rk6 m hm h6; omega)
        exact ⟨hk.1, by rw [hk.2.2]; omega, rfl⟩⟩) rfl hd hr⟩) n M 0 (zini (znl m) as) [] [] (zini_len hln) hrun
      have hent := lv_entry (as.map (zcv E)) (n := znl m) (by rw [zlg_len]; exact hln)
      have hW := hG.2 fl s.heap [] ((lg_sl (as.map (zcv E)) ++ List.replicate (znl m - (lg_sl (as.map (zcv E))).length) Slot.unset).toArray) hP hg ⟨Nat.le_refl _, fun _ _ _ => rfl, fun _ h => absurd h List.not_mem_nil⟩ (Nat.le_refl _) (Nat.le_refl _) ⟨by rw [zini_len hln]; exact hent.1, hent.2.1, fun i v hv hs => by
        have h2 := zlv_args (E := E) as 0 i v (zini_get hv hs) hs
        rw [Nat.zero_add] at h2
        exact hent.2.2 _ h2⟩ (zini_ok hok) (fun v hv => absurd hv List.not_mem_nil) ⟨fun k hk => absurd hk List.not_mem_nil, fun _ _ q => q⟩
      rw [Nat.sub_self, Nat.sub_self] at hW
      rw [lg_entry_eq]
      exact hW
