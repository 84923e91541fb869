/-! A CLAUSE's E, its loops; and the whole -/
section GL
variable {T : Nat → Nat} {n o f0 : Nat} {X0 M0 : ZM} {s0 hb ci : Nat}
/-- behind a part -/
theorem s_lb (ho : 49 < o) (hx : TXx X0 T n) (hm : TXm M0 T n) (hb5 : hb ≤ 500) (hs : hb ≤ s0) {p c e : Nat} (pn : p ≤ n) (hce : c + e = 4) (ih : ∀ q, p < q → q ≤ n → Gp T n o f0 X0 M0 s0 hb ci q) : Qb T n o f0 X0 M0 s0 hb ci p c e := by
  have hn := hx.1
  have h128 : ∀ k, k < n → T k < 128 := fun k hk => (hx.2.2 k hk).2
  have i38 : (chI T n p = 38) = (chT T n p = 38) := chI_eq (x := 38) h128 (by omega)
  by_cases h38 : chT T n p = 38
  · have p1 := chT_lt (by omega) h38
    obtain ⟨r1, ⟨a1, a2, a3⟩, hX1, hM1⟩ := (ih (p + 1) (by omega) p1 c e hce).1
    cases q1 : r1.1 with
    | none =>
      refine ⟨(none, r1.2), ⟨by show p ≤ r1.2; omega, a2, fun ts q => (by cases q)⟩, fun q => (by cases q), fun k M out j hk hj ex => ?_, fun d M out st A u R hA em hop g1 g2 hok hfl => ?_⟩
      · obtain ⟨i, rfl⟩ : ∃ i, k = i + 9 := ⟨k - 9, by omega⟩
        have s38 := c4_sign (d := i + 8) (EXs_t ho hx ex) ex.1 (by omega) (x := 38) (by omega)
        have e1 := EXs_mv ho (q := p + 1) (by omega) ex
        obtain ⟨M2, x1, x2⟩ := hX1 (i + 9) _ out (by omega) e1
        rw [q1] at x1
        exact a_X4_passBoth_13 ⟨fun _ => ⟨_, _, s38.1 h38, z10, fun _ => ⟨M2, _, x1, fun _ => ⟨rfl, XR_none x2 rfl rfl⟩, z00⟩⟩, fun q => absurd (nI_lt (b := 100) (by omega) (by omega)) q⟩
      · have nx := c9_next (d := d + 4) (EMs_m hm em) em.1 (by omega)
        obtain ⟨M3, w1, w2⟩ := c9_settle (d := d + 3) (s := 38) (by omega) (by omega) hs (by omega) (st := st) ⟨g2, fun z => absurd rfl z⟩ (A := A) (fun x hx => Or.inl (hA x hx)) em
        have hl := EMs_len w2
        refine a_X9_takesE_22 ⟨M, _, nx, fun _ => ⟨fun _ => ⟨M3, ?_, ?_, ?_⟩, fun z => absurd (i38.mpr h38) z⟩, fun z => absurd rfl z⟩
        · rw [i38.mpr h38]; exact w1
        · rw [w2.2.2.2.1]; exact in_nI (by omega) (by omega)
        · have e1 := EMs_po (x := 38) (Or.inl rfl) w2
          have ho1 : opn (38 :: st) = opn st := rfl
          rw [w2.2.2.2.1, zn_nI (by omega), w2.1, i38.mpr h38, nI_1, nI_1]
          exact hM1 d _ (out ++ pd A) (38 :: st) _ R e1 (by rw [ho1, hop]) (fun ts q => by rw [q1] at q; cases q) (fun _ => hfl rfl)
    | some t1 =>
      obtain ⟨b1, b2, b3⟩ := a3 t1 q1
      obtain ⟨r2, ⟨c1, c2, c3⟩, hN2, hX2, hM2⟩ := (ih r1.2 (by omega) a2 c e hce).2.2.2.1
      refine ⟨(r2.1.map (t1 ++ (2, 0, 0, 0) :: ·), r2.2), ⟨by show p ≤ r2.2; omega, c2, fun ts q => ?_⟩, fun q => ?_, fun k M out j hk hj ex => ?_, fun d M out st A u R hA em hop g1 g2 hok hfl => ?_⟩
      · obtain ⟨t2, q2, q3⟩ := Option.map_eq_some_iff.mp q
        subst q3
        obtain ⟨d1, d2⟩ := c3 t2 q2
        refine ⟨?_, fun h hh => ?_⟩
        · show (t1 ++ (2, 0, 0, 0) :: t2).length + p ≤ r2.2
          rw [List.length_append, List.length_cons]
          omega
        · rw [hrun_app (b3 (h + 1) (by omega))]
          show (if 2 ≤ h + 1 + 1 then hrun t2 (h + 1 + 1 - 1) else none) = _
          rw [if_pos (by omega)]
          exact d2 h hh
      · refine hN2 ?_
        have q' : (r2.1.map (t1 ++ (2, 0, 0, 0) :: ·)).isSome = true := q
        rw [Option.isSome_map] at q'
        exact q'
      · obtain ⟨i, rfl⟩ : ∃ i, k = i + 9 := ⟨k - 9, by omega⟩
        have s38 := c4_sign (d := i + 8) (EXs_t ho hx ex) ex.1 (by omega) (x := 38) (by omega)
        have e1 := EXs_mv ho (q := p + 1) (by omega) ex
        obtain ⟨M2, x1, x2⟩ := hX1 (i + 9) _ out (by omega) e1
        rw [q1] at x1
        have e2 := XR_some x2 q1
        have hl := EXs_len ex
        obtain ⟨M3, y1, y2⟩ := c3_step (d := i + 8) ho (by omega) (2, 0, 0, 0) e2 (by rw [List.length_append]; omega)
        refine a_X4_passBoth_13 ⟨fun _ => ⟨_, _, s38.1 h38, z10, fun _ => ⟨M2, _, x1, z10, fun _ => ⟨M3, y1, ?_⟩⟩⟩, fun q => absurd (nI_lt (b := 100) (by omega) (by omega)) q⟩
        rw [nI_1]
        obtain ⟨M4, v, u1, u2, ts, u3, u4⟩ := hX2 (i + 9) M3 _ (j + 1) (by omega) (by omega) y2
        refine ⟨M4, v, u1, ?_, t1 ++ (2, 0, 0, 0) :: ts, ?_, fun ys q => ?_⟩
        · rw [u2, Option.isSome_map]
        · have : out ++ (t1 ++ (2, 0, 0, 0) :: ts) = out ++ t1 ++ [(2, 0, 0, 0)] ++ ts := by simp
          rw [this]
          exact u3
        · obtain ⟨t2, q2, q3⟩ := Option.map_eq_some_iff.mp q
          rw [← q3, u4 t2 q2]
      · have nx := c9_next (d := d + 4) (EMs_m hm em) em.1 (by omega)
        obtain ⟨M3, w1, w2⟩ := c9_settle (d := d + 3) (s := 38) (by omega) (by omega) hs (by omega) (st := st) ⟨g2, fun z => absurd rfl z⟩ (A := A) (fun x hx => Or.inl (hA x hx)) em
        have hl := EMs_len w2
        refine a_X9_takesE_22 ⟨M, _, nx, fun _ => ⟨fun _ => ⟨M3, ?_, ?_, ?_⟩, fun z => absurd (i38.mpr h38) z⟩, fun z => absurd rfl z⟩
        · rw [i38.mpr h38]; exact w1
        · rw [w2.2.2.2.1]; exact in_nI (by omega) (by omega)
        · have e1 := EMs_po (x := 38) (Or.inl rfl) w2
          have ho1 : opn (38 :: st) = opn st := rfl
          rw [w2.2.2.2.1, zn_nI (by omega), w2.1, i38.mpr h38, nI_1, nI_1]
          refine hM1 d _ (out ++ pd A) (38 :: st) _ R e1 (by rw [ho1, hop]) (fun ts q M' u' em' => ?_) (fun q => by rw [q1] at q; cases q)
          rw [q1] at q
          cases q
          have n0 : nts (38 :: st) = [] := rfl
          have n1 : pl (38 :: st) = 38 :: st := rfl
          rw [n0, n1, List.append_nil] at em'
          refine hM2 d M' _ st [38] u' R (fun x hx => by rcases List.mem_singleton.mp hx with z; exact z) em' hop g1 g2 (fun ts q M'' u'' A' t0 hA' ht em'' => ?_) (fun q => hfl (by show r2.1.map _ = none; rw [q]; rfl))
          refine hok (t1 ++ (2, 0, 0, 0) :: ts) (by show r2.1.map _ = _; rw [q]; rfl) M'' u'' A' (pd A ++ t1 ++ t0) hA' ?_ ?_
          · have : pd [38] ++ ts = (2, 0, 0, 0) :: ts := rfl
            rw [this] at ht
            rw [ht]
            simp
          · have : out ++ (pd A ++ t1 ++ t0) = out ++ pd A ++ t1 ++ t0 := by simp
            rw [this]
            exact em''
  · refine ⟨(some [], p), ⟨Nat.le_refl _, pn, fun ts q => ?_⟩, fun _ => h38, fun k M out j hk hj ex => ?_, fun d M out st A u R hA em hop g1 g2 hok hfl => ?_⟩
    · cases q
      exact ⟨by show 0 + p ≤ p; omega, fun h _ => rfl⟩
    · have fin : XR X0 M o f0 out (some [], p) := XR_mk (by rw [List.append_nil]; exact ex)
      obtain ⟨i, rfl⟩ : ∃ i, k = i + 9 := ⟨k - 9, by omega⟩
      have s38 := c4_sign (d := i + 8) (EXs_t ho hx ex) ex.1 pn (x := 38) (by omega)
      exact a_X4_passBoth_13 ⟨fun _ => ⟨_, _, s38.2 h38, fun _ => ⟨rfl, fin⟩, z00⟩, fun _ => ⟨rfl, fin⟩⟩
    · exact hok [] rfl M u A [] hA (by rw [List.append_nil]; rfl) (by rw [List.append_nil]; exact em)
theorem s_both (ho : 49 < o) (hx : TXx X0 T n) (hm : TXm M0 T n) (hb5 : hb ≤ 500) (hs : hb ≤ s0) {p c e : Nat} (pn : p ≤ n) (hce : c + e = 4) (hp : Pp n o f0 X0 M0 s0 hb ci p c e) (ih : ∀ q, p < q → q ≤ n → Gp T n o f0 X0 M0 s0 hb ci q) : Pb T n o f0 X0 M0 s0 hb ci p c e := by
  have hn := hx.1
  obtain ⟨r1, ⟨a1, a2, a3⟩, hX1, hM1⟩ := hp
  cases q1 : r1.1 with
  | none =>
    refine ⟨(none, r1.2), ⟨a1, a2, fun ts q => (by cases q)⟩, fun q => (by cases q), fun k M out hk ex => ?_, fun d M out st u R em hop g1 g2 hok hfl => ?_⟩
    · obtain ⟨i, rfl⟩ : ∃ i, k = i + 10 := ⟨k - 10, by omega⟩
      obtain ⟨M2, x1, x2⟩ := hX1 (i + 9) _ out (by omega) ex
      rw [q1] at x1
      exact ⟨M2, ro_rt (g_X4_passBoth ⟨M2, _, x1, fun _ => ⟨rfl, rfl⟩, z00⟩), XR_none x2 rfl rfl⟩
    · exact hM1 d M out st u R em hop (fun ts q => by rw [q1] at q; cases q) (fun _ => hfl rfl)
  | some t1 =>
    obtain ⟨b1, b2, b3⟩ := a3 t1 q1
    obtain ⟨r2, ⟨c1, c2, c3⟩, hN2, hX2, hM2⟩ := (ih r1.2 b2 a2 c e hce).2.2.2.1
    refine ⟨(r2.1.map (t1 ++ ·), r2.2), ⟨by show p ≤ r2.2; omega, c2, fun ts q => ?_⟩, fun q => ?_, fun k M out hk ex => ?_, fun d M out st u R em hop g1 g2 hok hfl => ?_⟩
    · obtain ⟨t2, q2, q3⟩ := Option.map_eq_some_iff.mp q
      subst q3
      obtain ⟨d1, d2⟩ := c3 t2 q2
      refine ⟨?_, by show p < r2.2; omega, fun h hh => ?_⟩
      · show (t1 ++ t2).length + p ≤ r2.2
        rw [List.length_append]
        omega
      · rw [hrun_app (b3 h (by omega))]
        exact d2 h hh
    · refine hN2 ?_
      have q' : (r2.1.map (t1 ++ ·)).isSome = true := q
      rw [Option.isSome_map] at q'
      exact q'
    · obtain ⟨i, rfl⟩ : ∃ i, k = i + 10 := ⟨k - 10, by omega⟩
      obtain ⟨M2, x1, x2⟩ := hX1 (i + 9) _ out (by omega) ex
      rw [q1] at x1
      have e2 := XR_some x2 q1
      obtain ⟨M4, v, u1, u2, ts, u3, u4⟩ := hX2 (i + 9) M2 _ 0 (by omega) (by omega) e2
      refine ⟨M4, ro_rt (g_X4_passBoth ⟨M2, _, x1, z10, fun _ => ⟨M4, v, u1, rfl, ?_⟩⟩), t1 ++ ts, ?_, fun ys q => ?_⟩
      · rw [u2, Option.isSome_map]
      · rw [← List.append_assoc]
        exact u3
      · obtain ⟨t2, q2, q3⟩ := Option.map_eq_some_iff.mp q
        rw [← q3, u4 t2 q2]
    · refine hM1 d M out st u R em hop (fun ts q M' u' em' => ?_) (fun q => by rw [q1] at q; cases q)
      rw [q1] at q
      cases q
      obtain ⟨n0, n1⟩ := nts_0 g1
      rw [n0, n1, List.append_nil] at em'
      refine hM2 d M' _ st [] u' R (fun x hx => absurd hx (List.not_mem_nil)) em' hop g1 g2 (fun ts q M'' u'' A' t0 hA' ht em'' => ?_) (fun q => hfl (by show r2.1.map _ = none; rw [q]; rfl))
      refine hok (t1 ++ ts) (by show r2.1.map _ = _; rw [q]; rfl) M'' u'' A' (t1 ++ t0) hA' ?_ (by rw [← List.append_assoc]; exact em'')
      have : pd [] ++ ts = ts := rfl
      rw [this] at ht
      rw [ht]
      simp
/-- behind a both -/
theorem s_le (ho : 49 < o) (hx : TXx X0 T n) (hm : TXm M0 T n) (hb5 : hb ≤ 500) (hs : hb ≤ s0) {p c e : Nat} (pn : p ≤ n) (hce : c + e = 4) (ih : ∀ q, p < q → q ≤ n → Gp T n o f0 X0 M0 s0 hb ci q) (h38 : chT T n p ≠ 38) : Qe T n o f0 X0 M0 s0 hb ci p c e := by
  have hn := hx.1
  have h128 : ∀ k, k < n → T k < 128 := fun k hk => (hx.2.2 k hk).2
  have i38 : ¬ chI T n p = 38 := fun z => h38 ((chI_eq (x := 38) h128 (by omega)).mp z)
  have i124 : (chI T n p = 124) = (chT T n p = 124) := chI_eq (x := 124) h128 (by omega)
  by_cases h124 : chT T n p = 124
  · have p1 := chT_lt (by omega) h124
    obtain ⟨r1, ⟨a1, a2, a3⟩, hN1, hX1, hM1⟩ := (ih (p + 1) (by omega) p1 c e hce).2.1
    cases q1 : r1.1 with
    | none =>
      refine ⟨(none, r1.2), ⟨by show p ≤ r1.2; omega, a2, fun ts q => (by cases q)⟩, fun q => (by cases q), fun k M out j hk hj ex => ?_, fun d M out st A u R hA em hop g1 g2 g3 hok hfl => ?_⟩
      · obtain ⟨i, rfl⟩ : ∃ i, k = i + 10 := ⟨k - 10, by omega⟩
        have s124 := c4_sign (d := i + 9) (EXs_t ho hx ex) ex.1 (by omega) (x := 124) (by omega)
        have e1 := EXs_mv ho (q := p + 1) (by omega) ex
        obtain ⟨M2, x1, x2⟩ := hX1 (i + 10) _ out (by omega) e1
        rw [q1] at x1
        exact a_X4_passEither_13 ⟨fun _ => ⟨_, _, s124.1 h124, z10, fun _ => ⟨M2, _, x1, fun _ => ⟨rfl, XR_none x2 rfl rfl⟩, z00⟩⟩, fun q => absurd (nI_lt (b := 100) (by omega) (by omega)) q⟩
      · have nx := c9_next (d := d + 4) (EMs_m hm em) em.1 (by omega)
        obtain ⟨M3, w1, w2⟩ := c9_settle (d := d + 3) (s := 124) (by omega) (by omega) hs (by omega) (st := st) ⟨g2, fun _ => g3⟩ (A := A) (fun x hx => by rcases hA x hx with z | z; exact Or.inl z; exact Or.inr ⟨z, by omega⟩) em
        have hl := EMs_len w2
        refine a_X9_takesE_22 ⟨M, _, nx, fun _ => ⟨fun z => absurd z i38, fun _ => ⟨fun _ => ⟨M3, ?_, ?_, ?_⟩, fun z => absurd (i124.mpr h124) z⟩⟩, fun z => absurd rfl z⟩
        · rw [i124.mpr h124]; exact w1
        · rw [w2.2.2.2.1]; exact in_nI (by omega) (by omega)
        · have e1 := EMs_po (x := 124) (Or.inr rfl) w2
          have ho1 : opn (124 :: st) = opn st := rfl
          rw [w2.2.2.2.1, zn_nI (by omega), w2.1, i124.mpr h124, nI_1, nI_1]
          exact hM1 d _ (out ++ pd A) (124 :: st) _ R e1 (by rw [ho1, hop]) (fun q => by cases q) (fun q => by cases q) (fun ts q => by rw [q1] at q; cases q) (fun _ => hfl rfl)
    | some t1 =>
      obtain ⟨b1, b2, b3⟩ := a3 t1 q1
      obtain ⟨r2, ⟨c1, c2, c3⟩, hN2, hX2, hM2⟩ := (ih r1.2 (by omega) a2 c e hce).2.2.2.2 (hN1 (by rw [q1]; rfl))
      refine ⟨(r2.1.map (t1 ++ (3, 0, 0, 0) :: ·), r2.2), ⟨by show p ≤ r2.2; omega, c2, fun ts q => ?_⟩, fun q => ?_, fun k M out j hk hj ex => ?_, fun d M out st A u R hA em hop g1 g2 g3 hok hfl => ?_⟩
      · obtain ⟨t2, q2, q3⟩ := Option.map_eq_some_iff.mp q
        subst q3
        obtain ⟨d1, d2⟩ := c3 t2 q2
        refine ⟨?_, fun h hh => ?_⟩
        · show (t1 ++ (3, 0, 0, 0) :: t2).length + p ≤ r2.2
          rw [List.length_append, List.length_cons]
          omega
        · rw [hrun_app (b3 (h + 1) (by omega))]
          show (if 2 ≤ h + 1 + 1 then hrun t2 (h + 1 + 1 - 1) else none) = _
          rw [if_pos (by omega)]
          exact d2 h hh
      · refine hN2 ?_
        have q' : (r2.1.map (t1 ++ (3, 0, 0, 0) :: ·)).isSome = true := q
        rw [Option.isSome_map] at q'
        exact q'
      · obtain ⟨i, rfl⟩ : ∃ i, k = i + 10 := ⟨k - 10, by omega⟩
        have s124 := c4_sign (d := i + 9) (EXs_t ho hx ex) ex.1 (by omega) (x := 124) (by omega)
        have e1 := EXs_mv ho (q := p + 1) (by omega) ex
        obtain ⟨M2, x1, x2⟩ := hX1 (i + 10) _ out (by omega) e1
        rw [q1] at x1
        have e2 := XR_some x2 q1
        have hl := EXs_len ex
        obtain ⟨M3, y1, y2⟩ := c3_step (d := i + 9) ho (by omega) (3, 0, 0, 0) e2 (by rw [List.length_append]; omega)
        refine a_X4_passEither_13 ⟨fun _ => ⟨_, _, s124.1 h124, z10, fun _ => ⟨M2, _, x1, z10, fun _ => ⟨M3, y1, ?_⟩⟩⟩, fun q => absurd (nI_lt (b := 100) (by omega) (by omega)) q⟩
        rw [nI_1]
        obtain ⟨M4, v, u1, u2, ts, u3, u4⟩ := hX2 (i + 10) M3 _ (j + 1) (by omega) (by omega) y2
        refine ⟨M4, v, u1, ?_, t1 ++ (3, 0, 0, 0) :: ts, ?_, fun ys q => ?_⟩
        · rw [u2, Option.isSome_map]
        · have : out ++ (t1 ++ (3, 0, 0, 0) :: ts) = out ++ t1 ++ [(3, 0, 0, 0)] ++ ts := by simp
          rw [this]
          exact u3
        · obtain ⟨t2, q2, q3⟩ := Option.map_eq_some_iff.mp q
          rw [← q3, u4 t2 q2]
      · have nx := c9_next (d := d + 4) (EMs_m hm em) em.1 (by omega)
        obtain ⟨M3, w1, w2⟩ := c9_settle (d := d + 3) (s := 124) (by omega) (by omega) hs (by omega) (st := st) ⟨g2, fun _ => g3⟩ (A := A) (fun x hx => by rcases hA x hx with z | z; exact Or.inl z; exact Or.inr ⟨z, by omega⟩) em
        have hl := EMs_len w2
        refine a_X9_takesE_22 ⟨M, _, nx, fun _ => ⟨fun z => absurd z i38, fun _ => ⟨fun _ => ⟨M3, ?_, ?_, ?_⟩, fun z => absurd (i124.mpr h124) z⟩⟩, fun z => absurd rfl z⟩
        · rw [i124.mpr h124]; exact w1
        · rw [w2.2.2.2.1]; exact in_nI (by omega) (by omega)
        · have e1 := EMs_po (x := 124) (Or.inr rfl) w2
          have ho1 : opn (124 :: st) = opn st := rfl
          rw [w2.2.2.2.1, zn_nI (by omega), w2.1, i124.mpr h124, nI_1, nI_1]
          refine hM1 d _ (out ++ pd A) (124 :: st) _ R e1 (by rw [ho1, hop]) (fun q => by cases q) (fun q => by cases q) (fun ts q M' u' A1 t3 hA1 ht1 em' => ?_) (fun q => by rw [q1] at q; cases q)
          rw [q1] at q
          cases q
          have ea : A1 ++ 124 :: st = (A1 ++ [124]) ++ st := by simp
          rw [ea] at em'
          refine hM2 d M' _ st (A1 ++ [124]) u' R (fun x hx => by
            rcases List.mem_append.mp hx with z | z
            · exact Or.inl (hA1 x z)
            · exact Or.inr (List.mem_singleton.mp z)) em' hop g1 g2 g3 (fun ts q M'' u'' A' t0 hA' ht em'' => ?_) (fun q => hfl (by show r2.1.map _ = none; rw [q]; rfl))
          refine hok (t1 ++ (3, 0, 0, 0) :: ts) (by show r2.1.map _ = _; rw [q]; rfl) M'' u'' A' (pd A ++ t3 ++ t0) hA' ?_ ?_
          · have e3 : pd (A1 ++ [124]) = pd A1 ++ [(3, 0, 0, 0)] := pd_app A1 [124]
            rw [e3] at ht
            rw [ht1]
            have : pd A ++ (t3 ++ pd A1 ++ (3, 0, 0, 0) :: ts) = pd A ++ t3 ++ (pd A1 ++ [(3, 0, 0, 0)] ++ ts) := by simp
            rw [this, ht]
            simp
          · have : out ++ (pd A ++ t3 ++ t0) = out ++ pd A ++ t3 ++ t0 := by simp
            rw [this]
            exact em''
  · refine ⟨(some [], p), ⟨Nat.le_refl _, pn, fun ts q => ?_⟩, fun _ => ⟨h38, h124⟩, fun k M out j hk hj ex => ?_, fun d M out st A u R hA em hop g1 g2 g3 hok hfl => ?_⟩
    · cases q
      exact ⟨by show 0 + p ≤ p; omega, fun h _ => rfl⟩
    · have fin : XR X0 M o f0 out (some [], p) := XR_mk (by rw [List.append_nil]; exact ex)
      obtain ⟨i, rfl⟩ : ∃ i, k = i + 10 := ⟨k - 10, by omega⟩
      have s124 := c4_sign (d := i + 9) (EXs_t ho hx ex) ex.1 pn (x := 124) (by omega)
      exact a_X4_passEither_13 ⟨fun _ => ⟨_, _, s124.2 h124, fun _ => ⟨rfl, fin⟩, z00⟩, fun _ => ⟨rfl, fin⟩⟩
    · exact hok [] rfl M u A [] hA (by rw [List.append_nil]; rfl) (by rw [List.append_nil]; exact em)
theorem s_either (ho : 49 < o) (hx : TXx X0 T n) {p c e : Nat} (pn : p ≤ n) (hce : c + e = 4) (hp : Pb T n o f0 X0 M0 s0 hb ci p c e) (ih : ∀ q, p < q → q ≤ n → Gp T n o f0 X0 M0 s0 hb ci q) : Pe T n o f0 X0 M0 s0 hb ci p c e := by
  have hn := hx.1
  obtain ⟨r1, ⟨a1, a2, a3⟩, hN1, hX1, hM1⟩ := hp
  cases q1 : r1.1 with
  | none =>
    refine ⟨(none, r1.2), ⟨a1, a2, fun ts q => (by cases q)⟩, fun q => (by cases q), fun k M out hk ex => ?_, fun d M out st u R em hop g1 g2 g3 hok hfl => ?_⟩
    · obtain ⟨i, rfl⟩ : ∃ i, k = i + 11 := ⟨k - 11, by omega⟩
      obtain ⟨M2, x1, x2⟩ := hX1 (i + 10) _ out (by omega) ex
      rw [q1] at x1
      exact ⟨M2, ro_rt (g_X4_passEither ⟨M2, _, x1, fun _ => ⟨rfl, rfl⟩, z00⟩), XR_none x2 rfl rfl⟩
    · exact hM1 d M out st u R em hop g1 g2 (fun ts q => by rw [q1] at q; cases q) (fun _ => hfl rfl)
  | some t1 =>
    obtain ⟨b1, b2, b3⟩ := a3 t1 q1
    obtain ⟨r2, ⟨c1, c2, c3⟩, hN2, hX2, hM2⟩ := (ih r1.2 b2 a2 c e hce).2.2.2.2 (hN1 (by rw [q1]; rfl))
    refine ⟨(r2.1.map (t1 ++ ·), r2.2), ⟨by show p ≤ r2.2; omega, c2, fun ts q => ?_⟩, fun q => ?_, fun k M out hk ex => ?_, fun d M out st u R em hop g1 g2 g3 hok hfl => ?_⟩
    · obtain ⟨t2, q2, q3⟩ := Option.map_eq_some_iff.mp q
      subst q3
      obtain ⟨d1, d2⟩ := c3 t2 q2
      refine ⟨?_, by show p < r2.2; omega, fun h hh => ?_⟩
      · show (t1 ++ t2).length + p ≤ r2.2
        rw [List.length_append]
        omega
      · rw [hrun_app (b3 h (by omega))]
        exact d2 h hh
    · refine hN2 ?_
      have q' : (r2.1.map (t1 ++ ·)).isSome = true := q
      rw [Option.isSome_map] at q'
      exact q'
    · obtain ⟨i, rfl⟩ : ∃ i, k = i + 11 := ⟨k - 11, by omega⟩
      obtain ⟨M2, x1, x2⟩ := hX1 (i + 10) _ out (by omega) ex
      rw [q1] at x1
      have e2 := XR_some x2 q1
      obtain ⟨M4, v, u1, u2, ts, u3, u4⟩ := hX2 (i + 10) M2 _ 0 (by omega) (by omega) e2
      refine ⟨M4, ro_rt (g_X4_passEither ⟨M2, _, x1, z10, fun _ => ⟨M4, v, u1, rfl, ?_⟩⟩), t1 ++ ts, ?_, fun ys q => ?_⟩
      · rw [u2, Option.isSome_map]
      · rw [← List.append_assoc]
        exact u3
      · obtain ⟨t2, q2, q3⟩ := Option.map_eq_some_iff.mp q
        rw [← q3, u4 t2 q2]
    · refine hM1 d M out st u R em hop g1 g2 (fun ts q M' u' A1 t3 hA1 ht1 em' => ?_) (fun q => by rw [q1] at q; cases q)
      rw [q1] at q
      cases q
      refine hM2 d M' _ st A1 u' R (fun x hx => Or.inl (hA1 x hx)) em' hop g1 g2 g3 (fun ts q M'' u'' A' t0 hA' ht em'' => ?_) (fun q => hfl (by show r2.1.map _ = none; rw [q]; rfl))
      refine hok (t1 ++ ts) (by show r2.1.map _ = _; rw [q]; rfl) M'' u'' A' (t3 ++ t0) hA' ?_ (by rw [← List.append_assoc]; exact em'')
      rw [ht1, List.append_assoc, ht]
      simp
theorem gram (ho : 49 < o) (hx : TXx X0 T n) (hm : TXm M0 T n) (hb5 : hb ≤ 500) (hs : hb ≤ s0) (hci : ci < 60) : ∀ m p, p ≤ n → n - p < m → Gp T n o f0 X0 M0 s0 hb ci p := by
  intro m
  induction m with
  | zero => intro p _ h; omega
  | succ m ihm =>
    intro p pn hpm c e hce
    have ih : ∀ q, p < q → q ≤ n → Gp T n o f0 X0 M0 s0 hb ci q := fun q h1 h2 => ihm q h2 (by omega)
    have hp : Pp n o f0 X0 M0 s0 hb ci p c e := by
      match e, hce with
      | 0, hce => exact s_tst ho hx hm hb5 hs pn hce (fun _ => rfl)
      | e + 1, hce =>
        by_cases h33 : chT T n p = 33
        · have p1 := chT_lt (by omega) h33
          exact s_not ho hx hm hs p1 hce h33 (ih (p + 1) (by omega) p1 (c + 1) e (by omega)).1
        · by_cases h40 : chT T n p = 40
          · have p1 := chT_lt (by omega) h40
            exact s_brk ho hx hm hb5 hs hci p1 hce h40 (ih (p + 1) (by omega) p1 (c + 1) e (by omega)).2.2.1
          · exact s_tst ho hx hm hb5 hs pn hce (fun q => by omega)
    have hb := s_both ho hx hm hb5 hs pn hce hp ih
    exact ⟨hp, hb, s_either ho hx pn hce hb ih, s_lb ho hx hm hb5 hs pn hce ih, s_le ho hx hm hb5 hs pn hce ih⟩
end GL
