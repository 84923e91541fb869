theorem zx_cover0 : ((List.range zStb.length).all fun a => Nat.ble 10 (zS a) || (List.range (zSize (zS a))).all fun d => Nat.beq d 0 || (Nat.ble 100 (zS (a + d)) || (zFin (zS a)).any fun k => Nat.blt (zFk (zS a) k).2.1 10 && (Nat.ble (zFk (zS a) k).2.2 d && Nat.blt d ((zFk (zS a) k).2.2 + zSize (zFk (zS a) k).2.1)))) = true := by decide +kernel
theorem zx_cover (a : Nat) (ha : a < zStb.length) (h : zS a < 10) (d : Nat) (hd : d < zSize (zS a)) (h0 : 0 < d) : 100 ≤ zS (a + d) ∨ ∃ k ∈ zFin (zS a), (zFk (zS a) k).2.1 < 10 ∧ (zFk (zS a) k).2.2 ≤ d ∧ d < (zFk (zS a) k).2.2 + zSize (zFk (zS a) k).2.1 := by
  have h1 := List.all_eq_true.mp zx_cover0 a (List.mem_range.mpr ha)
  rw [Bool.or_eq_true] at h1
  rcases h1 with h1 | h1
  · have := Nat.ble_eq.mp h1; omega
  · have h2 := List.all_eq_true.mp h1 d (List.mem_range.mpr hd)
    rw [Bool.or_eq_true, Bool.or_eq_true] at h2
    rcases h2 with h2 | h2 | h2
    · have := nbt h2; omega
    · exact Or.inl (Nat.ble_eq.mp h2)
    · obtain ⟨k, hk, h3⟩ := List.any_eq_true.mp h2
      rw [Bool.and_eq_true, Bool.and_eq_true] at h3
      exact Or.inr ⟨k, hk, Nat.ble_eq.mp h3.1, Nat.ble_eq.mp h3.2.1, Nat.ble_eq.mp h3.2.2⟩
theorem zx_max : ∀ c, c < 10 → ∃ k ∈ zFin c, ((zFk c k).2.1 < 10 ∧ (zFk c k).2.2 + zSize (zFk c k).2.1 = zSize c) ∨ (100 ≤ (zFk c k).2.1 ∧ (zFk c k).2.2 + 1 = zSize c) := by decide +kernel
theorem zx_fk1 : ∀ c, c < 10 → ∀ k ∈ zFin c, (zFk c k).1 = 1 ∧ ((zFk c k).2.1 < 10 → 1 ≤ (zFk c k).2.2) := by decide +kernel
theorem zelem_in {k : Nat} : ∀ {l : List Nat}, zelem k l = true → k ∈ l
  | [], h => by cases h
  | j :: l, h => by
    simp only [zelem, Bool.or_eq_true] at h
    rcases h with h | h
    · rw [nbt h]; exact List.mem_cons_self
    · exact List.mem_cons_of_mem _ (zelem_in h)
theorem zmade {fl : Nat → Nat → Bool} {top cc a : Nat} {th : ZT} {F : List Nat} (hc : cc < 10) (ha : 1 ≤ a) (hs : zS a = cc) (hth : th.1 = a) (hF : zFok fl top th F) (hall : ((zFin cc).all fun k => zelem k F) = true) : zokO fl top cc a := by
  have hk : ∀ k ∈ zFin cc, fl a k = true ∧ zokR fl top (zFk cc k).2.1 (a + (zFk cc k).2.2) := fun k h => by
    have h2 := hF.1 k (zelem_in (List.all_eq_true.mp hall k h))
    rw [hth, hs] at h2
    exact h2.2
  refine ⟨ha, hs, ?_, fun a' h1 h2 k h3 => ?_⟩
  · obtain ⟨k, h1, h2 | h2⟩ := zx_max cc hc
    · have h4 := (zx_fk1 cc hc k h1).2 h2.1
      have h3 := ((hk k h1).2.1 h2.1).resolve_left (by omega)
      have := h3.2.2.1
      omega
    · have h3 := (hk k h1).2.2.2.1 h2.1
      omega
  · by_cases e : a' = a
    · subst e
      rw [hs] at h3
      exact (hk k h3).1
    · obtain ⟨d, rfl⟩ : ∃ d, a' = a + d := ⟨a' - a, by omega⟩
      rcases zx_cover a (zS_lt hs (by omega)) (by omega) d (by rw [hs]; omega) (by omega) with h4 | ⟨k2, g1, g2, g3, g4⟩
      · exfalso
        have : zFin (zS (a + d)) = [] := by
          have hz : ∀ a, a < zStb.length → 100 ≤ zS a → zFin (zS a) = [] := by decide +kernel
          exact hz _ (zS_lt rfl (by omega)) h4
        rw [this] at h3
        cases h3
      · rw [hs] at g1 g2 g3 g4
        have h5 := ((hk k2 g1).2.1 g2).resolve_left (by omega)
        exact h5.2.2.2 (a + d) (by omega) (by omega) k h3
section ZRT
variable {p : Program} {l : Launch} {e : Env} {R : Room} {s : State} {mi : MethodId} {args : Array Value} {below : List Frame} {meth : Method} {c : Code} {E : ZE} {D : va_G} {cT : Nat → ClassId} {t0 s0 : Nat} {th : ZT} {L : Nat} {xs : Nat → Int32} {m : Nat}
variable {M Mf : ZM} {pc : Nat} {ls st : List ZV} {F : List Nat} {as : List ZV} {v : Option ZV} {fl0 : Nat → Nat → Bool}
/-- the instruction of a return -/
def zri (kd : Nat) : Instr := match kd with
  | 0 => .return_
  | 6 => .return_
  | 4 => .lreturn
  | 5 => .areturn
  | _ => .ireturn
/-- the return's row, whatever comes back -/
theorem so_ret (C : ZC p s mi args meth c E D cT L xs m) (hm : m < 244) (hinit : zrk m = 6 → zcn m < 10 ∧ ∀ a as', as = zR (20 + zcn m) a :: as' → 1 ≤ a ∧ zS a = zcn m ∧ th.1 = a) (hfl0 : th.2 = fl0) (hd : decode (zby m) pc = .ok (zri (zrk m), 1)) (hr : zsRet zFin (zrk m) (match zrk m with | 6 => zcn m | _ => 0) M st F = some (Mf, v)) :
    ZG p l e R s mi args below meth c E D cT L xs (MQ below (zQc E D cT L xs m fl0 as Mf v) args s (ztop Mf - t0) (zsl Mf - s0) (zA E)) t0 s0 th M pc ls st F := by
  intro fl H locs Ls h1 h2 h3 h4 h5 h6 h7 h8 h9
  obtain ⟨r0, r1, r2, r3, r4, r5, r6, r7⟩ := zx_ret m hm
  have post : ∀ (w : Option ZV), (∀ x, w = some x → zok fl (ztop M) x) → (zrk m = 6 → ∀ a as', as = zR (20 + zcn m) a :: as' → zokO fl (ztop M) (zcn m) a) → ∀ t : State, t.heap = H → s.WarmedH t.vm → zQc E D cT L xs m fl0 as M w args s (.returned (w.map (zcv E))) t := by
    intro w hw hi t ht _
    exact ⟨⟨fl, fun a k z => h9.2 a k (by rw [hfl0]; exact z), rfl, by rw [ht]; exact h1, h2, hw, hi⟩, by rw [ht]; exact h3.1, fun q q1 q2 => by rw [ht]; exact h3.2.1 q q1 q2⟩
  have hx := C.1
  have hb := C.2.1
  have hlk := C.2.2.2.2.2.1
  have hrt := C.2.2.2.2.2.2.1
  generalize hkd : zrk m = kd at hd hr
  unfold zsRet at hr
  split at hr
  · cases hr
    exact W.vret hx hb (hrt.trans (r0 hkd)) (post none (fun x h => by cases h) (fun h => by omega)) h3.2.2 hd hlk
  · cases hr
    exact W.iret hx hb (hrt.trans (r1 hkd)) (post (some (zI _)) (fun x h => by cases h; trivial) (fun h => by omega)) h3.2.2 hd hlk
  · split at hr
    · rename_i x hx01
      cases hr
      exact W.zret hx hb (hrt.trans (r2 hkd)) (by rcases hx01 with rfl | rfl <;> rfl) (post (some (zI _)) (fun x h => by cases h; trivial) (fun h => by omega)) h3.2.2 hd hlk
    · cases hr
  · split at hr
    · rename_i x hx01
      cases hr
      exact W.zret hx hb (hrt.trans (r3 hkd)) (by show Value.int _ = _; rw [hx01]) (post (some (zI _)) (fun x h => by cases h; trivial) (fun h => by omega)) h3.2.2 hd hlk
    · cases hr
  · cases hr
    exact W.lret hx hb (hrt.trans (r4 hkd)) (post (some (zL _)) (fun x h => by cases h; trivial) (fun h => by omega)) h3.2.2 hd hlk
  · rename_i t a
    cases hb2 : Nat.ble 100 t with
    | false => rw [hb2] at hr; cases hr
    | true =>
      rw [hb2] at hr
      cases hr
      have ht := Nat.ble_eq.mp hb2
      have hok : zokR fl (ztop M) t a := zok_hd h8
      have ez := zcv_own (E := E) (t := t) (a := a) (by omega) (by have := (hok.2.2.1 ht).1; omega)
      show W p l e R s mi args below meth c H locs _ _ _ (F0 mi pc Ls [zcv E (zR t a)])
      have hp := post (some (zR t a)) (fun x h => by cases h; exact hok) (fun h => by omega)
      rw [show (some (zR t a) : Option ZV).map (zcv E) = some (.ref (E.1 + a)) by rw [Option.map_some, ez]] at hp
      rw [ez]
      exact W.aret hx hb (hrt.trans (r5 hkd)) (Or.inr ⟨_, rfl⟩) (Or.inr ⟨_, rfl⟩) hp h3.2.2 hd hlk
  · cases hal : (zFin (zcn m)).all (fun k => zelem k F) with
    | false =>
      exfalso
      have hr' : (bif (zFin (zcn m)).all (fun k => zelem k F) then some (M, none) else none) = some (Mf, v) := hr
      rw [hal] at hr'
      cases hr'
    | true =>
      have hr' : (bif (zFin (zcn m)).all (fun k => zelem k F) then some (M, none) else none) = some (Mf, v) := hr
      rw [hal] at hr'
      cases hr'
      obtain ⟨i1, i2⟩ := hinit hkd
      exact W.vret hx hb (hrt.trans (r6 hkd)) (post none (fun x h => by cases h) (fun _ a as' h => by
        obtain ⟨g1, g2, g3⟩ := i2 a as' h
        exact zmade i1 g1 g2 g3 h9 hal)) h3.2.2 hd hlk
  · split at hr
    · rename_i x hx01
      cases hr
      exact W.zret hx hb (hrt.trans (r7 hkd)) (by show Value.int _ = _; rw [hx01]) (post (some (zI _)) (fun x h => by cases h; trivial) (fun h => by omega)) h3.2.2 hd hlk
    · cases hr
  · cases hr
end ZRT
