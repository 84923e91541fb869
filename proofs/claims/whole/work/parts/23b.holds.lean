/-! The reference: what a clause's tests say, LIKE -/
def PL (I : Nat → Int32) : List Bool → Prop
  | [] => True
  | b :: r => I r.length = zb b ∧ PL I r
theorem PL_up {I I' : Nat → Int32} : ∀ {r : List Bool}, PL I r → (∀ k, k < r.length → I' k = I k) → PL I' r
  | [], _, _ => trivial
  | b :: r, h, q => by
    refine ⟨?_, PL_up h.2 (fun k hk => q k (by rw [List.length_cons]; omega))⟩
    rw [q _ (by rw [List.length_cons]; omega)]
    exact h.1
theorem nar_1 : vp_nar .boolean 1 = 1 := by decide +kernel
theorem nar_0 : vp_nar .boolean 0 = 0 := by decide +kernel
theorem nI_neg {a : Nat} {x : Int32} (ha : a < 2 ^ 31) (hx : x < 0) : (nI a = x) = False := by
  refine eq_false fun h => ?_
  rw [← h] at hx
  exact nI_pos ha hx
theorem tM_s {f s n : Nat} (h1 : f < 6) (h2 : s < 3) (h3 : n < 100) : nI (1000 * f + 100 * s + n) / 1000 = nI f ∧ zrem (nI (1000 * f + 100 * s + n) / 100) 10 = nI s ∧ zrem (nI (1000 * f + 100 * s + n)) 100 = nI n := by
  refine ⟨?_, ?_, ?_⟩
  · rw [l_1000, pk_div (by omega) (by omega) (by omega)]
    congr 1; omega
  · rw [l_100, l_10, pk_div (by omega) (by omega) (by omega), zrem_nI (by omega) (by omega) (by omega)]
    congr 1; omega
  · rw [l_100, zrem_nI (by omega) (by omega) (by omega)]
    congr 1; omega
section HX
variable {d : Nat} {M0 : ZM} {W : Wv}
theorem l9_holds (hW : WM M0 W) (hB : WBd W) {c a m e : Nat} (hc : c < 60) (ha : a < 7) (he : e ≤ 600) (hend : M0.1 79 c = nI e) : ∀ (t : List Tok) (st : List Bool) (i : Nat) (u6 u7 u8 : ZV) (M : ZM), FP M0 M → PL (M.1 83) st → hrun t st.length = some 1 → st.length ≤ 11 → cMt M0.1 t i → i + t.length = e → A_X9_holds_11 (d + 2) M (nI c) (nI a) (nI m) (nI st.length) (nI i) u6 u7 u8 (fun M' v => v = some (zI (zb ((hval (sFact W a m) t st).headD false))) ∧ FP M0 M') := by
  intro t
  induction t with
  | nil =>
    intro st i u6 u7 u8 M hF hP hr hl hx hi
    simp only [List.length_nil, Nat.add_zero] at hi
    subst hi
    refine a_X9_holds_11 ⟨in_nI hc (by omega), ?_⟩
    rw [zn_nI (by omega), hF.1 79 (by omega), hend]
    refine ⟨fun h => absurd h (nI_nlt (Nat.le_refl _) (by omega)), fun _ => ?_⟩
    have h1 : st.length = 1 := by unfold hrun at hr; exact Option.some.inj hr
    match st, h1, hP with
    | [b], _, hP =>
      have h0 : M.1 83 0 = zb b := hP.1
      rw [h0]
      refine ⟨?_, rfl, hF⟩
      cases b
      · exact Or.inl rfl
      · exact Or.inr rfl
  | cons t r ih =>
    intro st i u6 u7 u8 M hF hP hr hl hx hi
    rw [List.length_cons] at hi
    obtain ⟨hx1, hx2⟩ := hx
    have hWM := WM_FM hF.m hW
    have step : ∀ (j h : Nat) (st' : List Bool) (x : Int32) (u6 u7 u8 : ZV) (M1 : ZM), FP M0 M1 → st' = hstep t (sFact W a m) st → hrun r st'.length = some 1 → st'.length = h → h ≤ 11 → PL (zu M1.1 83 j x 83) st' → A_X9_holds_11 (d + 2) (zu M1.1 83 j x, M1.2) (nI c) (nI a) (nI m) (nI h) (nI (i + 1)) u6 u7 u8 (fun M' v => v = some (zI (zb ((hval (sFact W a m) (t :: r) st).headD false))) ∧ FP M0 M') := by
      intro j h st' x u6 u7 u8 M1 hF1 h1 h2 h3 h4 h5
      subst h1
      subst h3
      exact ih (hstep t (sFact W a m) st) (i + 1) u6 u7 u8 (zu M1.1 83 j x, M1.2) (hF1.trans ⟨fun b q => zu_ne q, rfl⟩) h5 h2 h4 hx2 (by omega)
    refine a_X9_holds_11 ⟨in_nI hc (by omega), ?_⟩
    rw [zn_nI (by omega), hF.1 79 (by omega), hend, zn_nI (by omega), hF.1 80 (by omega), hx1]
    refine ⟨fun _ => ⟨in_n (by omega) (by omega), ?_⟩, fun h => absurd (nI_lt (by omega) (by omega)) h⟩
    have hs := hstep_len (t := t) (F := sFact W a m) (st := st)
    rw [nI_1, nI_1, nar_0, nar_1]
    unfold hrun at hr
    obtain ⟨k, f, s, n⟩ := t
    match k with
    | 0 =>
      simp only at hr hs
      split at hr
      · rename_i hb
        obtain ⟨b0, b1, b2, b3⟩ := hb
        obtain ⟨e1, e2, e3⟩ := tM_s b1 b2 b3
        have e0 : tM (0, f, s, n) = nI (1000 * f + 100 * s + n) := rfl
        rw [e0, e1, e2, e3]
        refine ⟨fun h => by rw [nI_neg (by omega) (by decide)] at h; exact h.elim, fun _ => ⟨fun h => absurd h (nI_pos (by omega)), fun _ => ⟨M, _, c9_fact hWM hB b1 ha, ?_⟩⟩⟩
        have fin : ∀ (b : Bool) (x : Int32) (u6 u7 u8 : ZV), x = zb b → b = tval (0, f, s, n) (sFact W a m) → A_X9_holds_11 (d + 2) (zu M.1 83 (zn (nI st.length)) x, M.2) (nI c) (nI a) (nI m) (nI (st.length + 1)) (nI (i + 1)) u6 u7 u8 (fun M' v => v = some (zI (zb ((hval (sFact W a m) ((0, f, s, n) :: r) st).headD false))) ∧ FP M0 M') := by
          intro b x v6 v7 v8 hx hb
          rw [zn_nI (by omega)]
          refine step st.length (st.length + 1) (b :: st) x v6 v7 v8 M hF (by rw [hb]; rfl) hr rfl (by omega) ⟨?_, PL_up hP (fun k hk => zu_kn (by omega))⟩
          rw [zu_kk, hx]
        have i4 : ¬ (nI st.length < 0 ∨ 100 ≤ zn (nI st.length)) := in_nI (by omega) (by omega)
        match s, b2 with
        | 0, _ =>
          refine ⟨fun _ => ⟨fun h => ⟨i4, fin true 1 _ _ _ rfl ?_⟩, fun h => ⟨i4, fin false 0 _ _ _ rfl ?_⟩⟩, fun h => absurd rfl h⟩
          · exact (decide_eq_true h).symm
          · exact (decide_eq_false h).symm
        | 1, _ =>
          refine ⟨fun h => absurd h (by decide), fun _ => ⟨fun _ => ⟨fun h => ⟨i4, fin true 1 _ _ _ rfl ?_⟩, fun h => ⟨i4, fin false 0 _ _ _ rfl ?_⟩⟩, fun h => absurd rfl h⟩⟩
          · exact (decide_eq_true h).symm
          · exact (decide_eq_false h).symm
        | 2, _ =>
          refine ⟨fun h => absurd h (by decide), fun _ => ⟨fun h => absurd h (by decide), fun _ => ⟨fun h => ⟨i4, fin true 1 _ _ _ rfl ?_⟩, fun h => ⟨i4, fin false 0 _ _ _ rfl ?_⟩⟩⟩⟩
          · exact (decide_eq_true h).symm
          · exact (decide_eq_false h).symm
      · cases hr
    | 1 =>
      simp only at hr hs
      split at hr
      · rename_i hb
        match st, hb, hP, hr, hl, step with
        | b :: q, _, hP, hr, hl, step =>
          rw [List.length_cons] at hl hr
          have e4 : nI (b :: q).length - 1 = nI q.length := nI_pred _
          rw [e4, zn_nI (by omega), hP.1]
          have i4 : ¬ (nI q.length < 0 ∨ 100 ≤ q.length) := in_n (by omega) (by omega)
          have fin : ∀ (x : Int32) (u6 u7 u8 : ZV), x = zb (!b) → A_X9_holds_11 (d + 2) (zu M.1 83 q.length x, M.2) (nI c) (nI a) (nI m) (nI (b :: q).length) (nI (i + 1)) u6 u7 u8 (fun M' v => v = some (zI (zb ((hval (sFact W a m) ((1, f, s, n) :: r) (b :: q)).headD false))) ∧ FP M0 M') := by
            intro x v6 v7 v8 hx
            refine step q.length (b :: q).length ((!b) :: q) x v6 v7 v8 M hF rfl hr rfl (by rw [List.length_cons]; omega) ⟨?_, PL_up hP.2 (fun k hk => zu_kn (by omega))⟩
            rw [zu_kk, hx]
          refine ⟨fun _ => ⟨i4, ?_⟩, fun h => absurd rfl h⟩
          cases b
          · exact ⟨fun _ => ⟨i4, fin 1 _ _ _ rfl⟩, fun h => absurd rfl h⟩
          · exact ⟨fun h => absurd h (by decide), fun _ => ⟨i4, fin 0 _ _ _ rfl⟩⟩
      · cases hr
    | k + 2 =>
      have hr' : (if 2 ≤ st.length then hrun r (st.length - 1) else none) = some 1 := hr
      split at hr'
      · rename_i hb
        match st, hb, hP, hr', hl, step with
        | x :: y :: q, _, hP, hr, hl, step =>
          rw [List.length_cons, List.length_cons] at hl
          have e4 : nI (x :: y :: q).length + (-1) = nI (q.length + 1) := pk_m1 _
          have e5 : nI (q.length + 1) - 1 = nI q.length := nI_pred _
          rw [e4]
          have fin : ∀ (b : Bool) (v : Int32) (u6 u7 u8 : ZV), v = zb b → hstep (k + 2, f, s, n) (sFact W a m) (x :: y :: q) = b :: q → A_X9_holds_11 (d + 2) (zu M.1 83 (zn (nI q.length)) v, M.2) (nI c) (nI a) (nI m) (nI (q.length + 1)) (nI (i + 1)) u6 u7 u8 (fun M' v => v = some (zI (zb ((hval (sFact W a m) ((k + 2, f, s, n) :: r) (x :: y :: q)).headD false))) ∧ FP M0 M') := by
            intro b v v6 v7 v8 hv hh
            rw [zn_nI (by omega)]
            refine step q.length (q.length + 1) (b :: q) v v6 v7 v8 M hF hh.symm hr rfl (by omega) ⟨?_, PL_up hP.2.2 (fun k hk => zu_kn (by omega))⟩
            rw [zu_kk, hv]
          have i4 : ¬ (nI q.length < 0 ∨ 100 ≤ zn (nI q.length)) := in_nI (by omega) (by omega)
          have i5 : ¬ (nI (q.length + 1) < 0 ∨ 100 ≤ zn (nI (q.length + 1))) := in_nI (by omega) (by omega)
          have p1 : M.1 83 (zn (nI q.length)) = zb y := by rw [zn_nI (by omega)]; exact hP.2.1
          have p2 : M.1 83 (zn (nI (q.length + 1))) = zb x := by rw [zn_nI (by omega)]; exact hP.1
          have go : ∀ v7 v8, A_X9_holds_75 (d + 2) M (nI c) (nI a) (nI m) (nI (q.length + 1)) (nI i) (tM (k + 2, f, s, n)) v7 v8 (fun M' v => v = some (zI (zb ((hval (sFact W a m) ((k + 2, f, s, n) :: r) (x :: y :: q)).headD false))) ∧ FP M0 M') := by
            intro v7 v8
            refine a_X9_holds_75 ?_
            rw [e5, nI_1, nar_0, nar_1, p1, p2]
            match k with
            | 0 =>
              refine ⟨fun _ => ⟨i4, ?_⟩, fun h => absurd rfl h⟩
              cases y
              · exact ⟨fun _ => ⟨i4, fin false 0 _ _ _ rfl rfl⟩, fun h => absurd rfl h⟩
              · refine ⟨fun h => absurd h (by decide), fun _ => ⟨i5, ?_⟩⟩
                cases x
                · exact ⟨fun _ => ⟨i4, fin false 0 _ _ _ rfl rfl⟩, fun h => absurd rfl h⟩
                · exact ⟨fun h => absurd h (by decide), fun _ => ⟨i4, fin true 1 _ _ _ rfl rfl⟩⟩
            | k + 1 =>
              refine ⟨fun h => absurd h (by show ¬ (-124 : Int32) = -38; decide), fun _ => ⟨i4, ?_⟩⟩
              cases y
              · refine ⟨fun _ => ⟨i5, ?_⟩, fun h => absurd rfl h⟩
                cases x
                · exact ⟨fun _ => ⟨i4, fin false 0 _ _ _ rfl rfl⟩, fun h => absurd rfl h⟩
                · exact ⟨fun h => absurd h (by decide), fun _ => ⟨i4, fin true 1 _ _ _ rfl rfl⟩⟩
              · exact ⟨fun h => absurd h (by decide), fun _ => ⟨i4, fin true 1 _ _ _ rfl rfl⟩⟩
          match k with
          | 0 => exact ⟨fun h => absurd h (by show ¬ (-38 : Int32) = -33; decide), fun _ => ⟨fun _ => go _ _, fun h => absurd (by show (-38 : Int32) < 0; decide) h⟩⟩
          | k + 1 => exact ⟨fun h => absurd h (by show ¬ (-124 : Int32) = -33; decide), fun _ => ⟨fun _ => go _ _, fun h => absurd (by show (-124 : Int32) < 0; decide) h⟩⟩
      · cases hr'
end HX
