/-! SeatOn's House: meets, joined, weigh -/
theorem c3_meets {d p1 : Nat} {M : ZM} {t : Tok} {F : Nat → Int32} (h0 : t.1 = 0) (h1 : t.2.1 < 6) (h2 : t.2.2.1 < 3) (h3 : t.2.2.2 < 100) (hF : ∀ k, k < 6 → M.1 (p1 + 1) k = F k) : Rt (d + 1) 26 [zI (tX t), zR 124 (p1 + 1)] M M (some (zI (if tval t F = true then 1 else 0))) := by
  obtain ⟨k, f, s, n⟩ := t
  simp only at h0 h1 h2 h3
  subst h0
  have e0 : tX (0, f, s, n) = nI ((f * 3 + s) * 100 + n) := rfl
  have e1 : nI ((f * 3 + s) * 100 + n) / 100 = nI (f * 3 + s) := by
    rw [l_100, pk_div (by omega) (by omega) (by omega)]
    congr 1; omega
  have e2 : nI (f * 3 + s) / 3 = nI f := by
    rw [l_3, pk_div (by omega) (by omega) (by omega)]
    congr 1; omega
  have e3 : zrem (nI (f * 3 + s)) 3 = nI s := by
    rw [l_3, zrem_nI (by omega) (by omega) (by omega)]
    congr 1; omega
  have e4 : zrem (nI ((f * 3 + s) * 100 + n)) 100 = nI n := by
    rw [l_100, zrem_nI (by omega) (by omega) (by omega)]
    congr 1; omega
  have e5 : (Int32.ofNat 6) = nI 6 := rfl
  refine ro_rt (g_X3_meets ?_)
  rw [e0, e1, e2, e3, e4, e5, zn_nI (by omega), hF f h1]
  refine ⟨fun _ => ?_, fun h => absurd (nI_lt h1 (by omega)) h⟩
  have hin := in_n h1 (by omega)
  have q1 : ∀ b : Bool, b = true → (if b = true then (1 : Int32) else 0) = 1 := fun b h => if_pos h
  have q0 : ∀ b : Bool, b = false → (if b = true then (1 : Int32) else 0) = 0 := fun b h => by rw [h]; rfl
  match s, h2 with
  | 0, _ =>
    refine ⟨fun _ => ⟨hin, fun h => ⟨rfl, ?_⟩, fun h => ⟨rfl, ?_⟩⟩, fun h => absurd rfl h⟩
    · rw [q1 _ (by exact decide_eq_true h)]
    · rw [q0 _ (by exact decide_eq_false h)]
  | 1, _ =>
    refine ⟨fun h => absurd h (by decide), fun _ => ⟨fun _ => ⟨hin, fun h => ⟨rfl, ?_⟩, fun h => ⟨rfl, ?_⟩⟩, fun h => absurd rfl h⟩⟩
    · rw [q1 _ (by exact decide_eq_true h)]
    · rw [q0 _ (by exact decide_eq_false h)]
  | 2, _ =>
    refine ⟨fun h => absurd h (by decide), fun _ => ⟨fun h => absurd h (by decide), fun _ => ⟨hin, fun h => ⟨rfl, ?_⟩, fun h => ⟨rfl, ?_⟩⟩⟩⟩
    · rw [q1 _ (by exact decide_eq_true h)]
    · rw [q0 _ (by exact decide_eq_false h)]
theorem tX_neg {t : Tok} (h : t.1 ≠ 0) : tX t < 0 := by
  obtain ⟨k, f, s, n⟩ := t
  match k, h with
  | 0, h => exact absurd rfl h
  | 1, _ => exact (by decide : (-1 : Int32) < 0)
  | 2, _ => exact (by decide : (-2 : Int32) < 0)
  | k + 3, _ => exact (by decide : (-3 : Int32) < 0)
theorem tX_pos {t : Tok} (h : t.1 = 0) (h1 : t.2.1 < 6) (h2 : t.2.2.1 < 3) (h3 : t.2.2.2 < 100) : ¬ tX t < 0 := by
  obtain ⟨k, f, s, n⟩ := t
  simp only at h h1 h2 h3
  subst h
  exact nI_pos (n := (f * 3 + s) * 100 + n) (by omega)
theorem bq (b : Bool) : (bif b then 1 else 0 : Nat) < 2 := by cases b <;> decide
theorem c3_joined {d : Nat} {M : ZM} {t : Tok} {F : Nat → Int32} {st : List Bool} (h0 : t.1 ≠ 0) (hl : st.length ≤ 11) (h1 : t.1 = 1 → 1 ≤ st.length) (h2 : t.1 ≠ 1 → 2 ≤ st.length) : Rt (d + 1) 25 [zI (tX t), zI (nI (sv st))] M M (some (zI (nI (sv (hstep t F st))))) := by
  obtain ⟨k, f, s, n⟩ := t
  simp only at h0 h1 h2
  refine ro_rt (g_X3_joined ?_)
  match k, h0 with
  | 0, h => exact absurd rfl h
  | 1, _ =>
    match st, h1 rfl with
    | b :: r, _ =>
      have hr : sv r < 1024 := Nat.lt_of_lt_of_le (sv_lt r) (Nat.pow_le_pow_right (by decide) (by rw [List.length_cons] at hl; omega : r.length ≤ 10))
      refine ⟨fun h => absurd h (by show ¬ (-1 : Int32) = -3; decide), fun _ => ⟨fun h => absurd h (by show ¬ (-1 : Int32) = -2; decide), fun _ => ⟨fun _ => ⟨rfl, ?_⟩, fun h => absurd rfl h⟩⟩⟩
      show some (zI (nI (2 * sv r + _) ^^^ 1)) = some (zI (nI (2 * sv r + _)))
      rw [bt_1 _ hr _ (bq b)]
      cases b <;> rfl
  | 2, _ =>
    match st, h2 (by decide) with
    | a :: b :: r, _ =>
      have hr : sv (b :: r) < 1024 := Nat.lt_of_lt_of_le (sv_lt _) (Nat.pow_le_pow_right (by decide) (by rw [List.length_cons] at hl; omega : (b :: r).length ≤ 10))
      refine ⟨fun h => absurd h (by show ¬ (-2 : Int32) = -3; decide), fun _ => ⟨fun _ => ?_, fun h => absurd rfl h⟩⟩
      have e1 : nI (sv (a :: b :: r)) &&& 1 = nI (bif a then 1 else 0) := bt_3 _ hr _ (bq a)
      have e2 : nI (sv (a :: b :: r)) >>> ((1 : Int32) &&& 31) = nI (sv (b :: r)) := bt_2 _ hr _ (bq a)
      rw [e1, e2]
      cases a
      · refine ⟨fun h => absurd h (by decide), fun _ => ⟨rfl, ?_⟩⟩
        have e3 : nI (sv (b :: r)) &&& (-2) = nI (2 * sv r) := bt_5 _ (by unfold sv at hr; omega) _ (bq b)
        rw [e3]
        show _ = some (zI (nI (2 * sv r + (bif (b && false) then 1 else 0))))
        cases b <;> rfl
      · refine ⟨fun _ => ⟨rfl, ?_⟩, fun h => absurd rfl h⟩
        show _ = some (zI (nI (2 * sv r + (bif (b && true) then 1 else 0))))
        cases b <;> rfl
  | k + 3, _ =>
    match st, h2 (by omega) with
    | a :: b :: r, _ =>
      have hr : sv (b :: r) < 1024 := Nat.lt_of_lt_of_le (sv_lt _) (Nat.pow_le_pow_right (by decide) (by rw [List.length_cons] at hl; omega : (b :: r).length ≤ 10))
      refine ⟨fun _ => ⟨rfl, ?_⟩, fun h => absurd rfl h⟩
      have e1 : nI (sv (a :: b :: r)) &&& 1 = nI (bif a then 1 else 0) := bt_3 _ hr _ (bq a)
      have e2 : nI (sv (a :: b :: r)) >>> ((1 : Int32) &&& 31) = nI (sv (b :: r)) := bt_2 _ hr _ (bq a)
      have e3 : nI (sv (b :: r)) ||| nI (bif a then 1 else 0) = _ := bt_4 _ (by unfold sv at hr; omega : sv r < 1024) _ (bq b) _ (bq a)
      rw [e1, e2, e3]
      show _ = some (zI (nI (2 * sv r + (bif (b || a) then 1 else 0))))
      cases a <;> cases b <;> rfl
theorem sv_odd (st : List Bool) (hl : st.length ≤ 11) : (nI (sv st) &&& 1 = 1) ↔ st.headD false = true := by
  match st with
  | [] => exact ⟨fun h => absurd h (by decide), fun h => absurd h (by decide)⟩
  | b :: r =>
    have hr : sv r < 1024 := Nat.lt_of_lt_of_le (sv_lt r) (Nat.pow_le_pow_right (by decide) (by rw [List.length_cons] at hl; omega : r.length ≤ 10))
    have e1 : nI (sv (b :: r)) &&& 1 = nI (bif b then 1 else 0) := bt_3 _ hr _ (bq b)
    rw [e1]
    cases b
    · exact ⟨fun h => absurd h (by decide), fun h => absurd h Bool.false_ne_true⟩
    · exact ⟨fun _ => rfl, fun _ => rfl⟩
theorem hstep_len {t : Tok} {F : Nat → Int32} {st : List Bool} : (t.1 = 0 → (hstep t F st).length = st.length + 1) ∧ (t.1 = 1 → 1 ≤ st.length → (hstep t F st).length = st.length) ∧ (t.1 ≠ 0 → t.1 ≠ 1 → 2 ≤ st.length → (hstep t F st).length = st.length - 1) := by
  obtain ⟨k, f, s, n⟩ := t
  refine ⟨fun h => ?_, fun h => ?_, fun h h' => ?_⟩
  · simp only at h; subst h; rfl
  · simp only at h; subst h
    match st with
    | [] => intro q; simp at q
    | b :: r => intro _; rfl
  · simp only at h h'
    match k, h, h', st with
    | 0, h, _, _ => exact absurd rfl h
    | 1, _, h, _ => exact absurd rfl h
    | _, _, _, [] => intro q; simp at q
    | _, _, _, [b] => intro q; simp at q
    | 2, _, _, a :: b :: r => intro _; rfl
    | k + 3, _, _, a :: b :: r => intro _; rfl
theorem l3_in {d o p1 : Nat} {M : ZM} {F : Nat → Int32} {R : ZM → Option ZV → Prop} {c e : Nat} {i2 i3 : Int32} (hc : c < 10) (he : e ≤ 100) (hF : ∀ k, k < 6 → M.1 (p1 + 1) k = F k) (hend : M.1 (o + 3) c = nI e) : ∀ (t : List Tok) (st : List Bool) (i : Nat) (u : ZV), hrun t st.length = some 1 → st.length ≤ 11 → cX M.1 (o + 4) t i → i + t.length = e → (∀ u5 u6 u7, A_X3_weigh_7 (d + 1) o p1 M (if (hval F t st).headD false = true then i2 + M.1 (o + 2) c else i2) (nI e) (nI (c + 1)) u5 u6 u7 R) → A_X3_weigh_22 (d + 1) o p1 M i2 i3 (nI c) (nI (sv st)) (nI i) u R := by
  intro t
  induction t with
  | nil =>
    intro st i u hr hl hx hi K
    simp only [List.length_nil, Nat.add_zero] at hi
    subst hi
    refine a_X3_weigh_22 ⟨in_nI hc (by omega), ?_⟩
    rw [zn_nI (by omega), hend]
    refine ⟨fun h => absurd h (nI_nlt (Nat.le_refl _) (by omega)), fun _ => ⟨fun h => ⟨in_n hc (by omega), in_n hc (by omega), ?_⟩, fun h => ⟨in_n hc (by omega), ?_⟩⟩⟩
    · have := K (zI (nI (sv st))) (zI (nI i)) u
      rw [show hval F [] st = st from rfl, if_pos ((sv_odd st hl).mp h)] at this
      rw [nI_1]
      exact this
    · have := K (zI (nI (sv st))) (zI (nI i)) u
      rw [show hval F [] st = st from rfl, if_neg (fun q => h ((sv_odd st hl).mpr q))] at this
      rw [nI_1]
      exact this
  | cons t r ih =>
    intro st i u hr hl hx hi K
    rw [List.length_cons] at hi
    obtain ⟨hx1, hx2⟩ := hx
    refine a_X3_weigh_22 ⟨in_nI hc (by omega), ?_⟩
    rw [zn_nI (by omega), hend, zn_nI (by omega), hx1]
    refine ⟨fun _ => ⟨in_n (by omega) (by omega), ?_⟩, fun h => absurd (nI_lt (by omega) (by omega)) h⟩
    have K' : ∀ u5 u6 u7, A_X3_weigh_7 (d + 1) o p1 M (if (hval F r (hstep t F st)).headD false = true then i2 + M.1 (o + 2) c else i2) (nI e) (nI (c + 1)) u5 u6 u7 R := K
    have hs := hstep_len (t := t) (F := F) (st := st)
    unfold hrun at hr
    by_cases h0 : t.1 = 0
    · rw [h0] at hr
      simp only at hr
      split at hr
      · rename_i hb
        refine ⟨fun h => absurd h (tX_pos h0 hb.2.1 hb.2.2.1 hb.2.2.2), fun _ => ⟨_, _, c3_meets h0 hb.2.1 hb.2.2.1 hb.2.2.2 hF, ?_⟩⟩
        have hst : hstep t F st = tval t F :: st := by
          obtain ⟨k, f, s, n⟩ := t
          simp only at h0
          subst h0
          rfl
        have hrl : sv st < 1024 := Nat.lt_of_lt_of_le (sv_lt st) (Nat.pow_le_pow_right (by decide) (by omega : st.length ≤ 10))
        have ih' := ih (hstep t F st) (i + 1) (zI (tX t)) (by rw [hs.1 h0]; exact hr) (by rw [hs.1 h0]; omega) hx2 (by omega) K'
        rw [hst] at ih'
        rw [nI_1]
        cases hv : tval t F
        · rw [hv] at ih'
          refine ⟨fun _ => ?_, fun h => absurd rfl h⟩
          have e6 : nI (sv st) <<< ((1 : Int32) &&& 31) ||| 0 = nI (sv (false :: st)) := bt_6 _ hrl 0 (by decide)
          rw [e6]
          exact ih'
        · rw [hv] at ih'
          refine ⟨fun h => absurd h (by decide), fun _ => ?_⟩
          have e6 : nI (sv st) <<< ((1 : Int32) &&& 31) ||| 1 = nI (sv (true :: st)) := bt_6 _ hrl 1 (by decide)
          rw [e6]
          exact ih'
      · cases hr
    · by_cases h1 : t.1 = 1
      · rw [h1] at hr
        simp only at hr
        split at hr
        · rename_i hb
          refine ⟨fun _ => ⟨_, _, c3_joined (F := F) h0 hl (fun _ => hb) (fun q => absurd h1 q), ?_⟩, fun h => absurd (tX_neg h0) h⟩
          rw [nI_1]
          exact ih (hstep t F st) (i + 1) _ (by rw [hs.2.1 h1 hb]; exact hr) (by rw [hs.2.1 h1 hb]; omega) hx2 (by omega) K'
        · cases hr
      · have hr' : (if 2 ≤ st.length then hrun r (st.length - 1) else none) = some 1 := by
          obtain ⟨k, f, s, n⟩ := t
          match k, h0, h1, hr with
          | 0, h, _, _ => exact absurd rfl h
          | 1, _, h, _ => exact absurd rfl h
          | k + 2, _, _, hr => exact hr
        split at hr'
        · rename_i hb
          refine ⟨fun _ => ⟨_, _, c3_joined (F := F) h0 hl (fun q => absurd q h1) (fun _ => hb), ?_⟩, fun h => absurd (tX_neg h0) h⟩
          rw [nI_1]
          exact ih (hstep t F st) (i + 1) _ (by rw [hs.2.2 h0 h1 hb]; exact hr') (by rw [hs.2.2 h0 h1 hb]; omega) hx2 (by omega) K'
        · cases hr'
theorem l3_out {d o p1 : Nat} {M : ZM} {F : Nat → Int32} (hF : ∀ k, k < 6 → M.1 (p1 + 1) k = F k) : ∀ (l : List Cls) (c f : Nat) (acc : Int32) (u5 u6 u7 : ZV), HXr M.1 o l c f → A_X3_weigh_7 (d + 1) o p1 M acc (nI f) (nI c) u5 u6 u7 (fun M' v => M' = M ∧ v = some (zI (hLk F l acc))) := by
  intro l
  induction l with
  | nil =>
    intro c f acc u5 u6 u7 h
    have hb := HXr_b h
    refine a_X3_weigh_7 ?_
    rw [h.1]
    exact ⟨fun q => absurd q (nI_nlt (Nat.le_refl _) (by have := hb.1; omega)), fun _ => ⟨rfl, rfl⟩⟩
  | cons w r ih =>
    intro c f acc u5 u6 u7 h
    have hb := HXr_b h
    obtain ⟨x1, x2, x3, x4, x5⟩ := h
    have hb2 := HXr_b x5
    rw [List.length_cons] at hb
    refine a_X3_weigh_7 ?_
    rw [hb.2.2]
    refine ⟨fun _ => ?_, fun q => absurd (nI_lt (by omega) (by omega)) q⟩
    refine l3_in (e := f + w.2.length) (by omega) hb2.2.1 hF x2 w.2 [] f u7 x4 (by decide) x3 rfl (fun v5 v6 v7 => ?_)
    rw [x1]
    exact ih (c + 1) (f + w.2.length) _ v5 v6 v7 x5
theorem c3_weigh {d o p1 : Nat} {M : ZM} {F : Nat → Int32} {H : Hs} (hF : ∀ k, k < 6 → M.1 (p1 + 1) k = F k) (hH : HX M.1 o H) : Rt (d + 2) 24 [zR 3 (o + 1), zR 124 (p1 + 1)] M M (some (zI (hLike H F))) := ro_rt (g_X3_weigh (l3_out hF (hCl H) 0 0 0 zU zU zU hH.2.2))
