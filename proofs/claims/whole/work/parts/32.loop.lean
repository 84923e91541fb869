/-! The law's loop -/
/-- a step that doesn't return goes on -/
theorem zstep_ret {H : ZH} {th : Nat} {op : ZOp} {M : ZM} {ls st : List ZV} {F : List Nat} {k : ZK} {r : ZM × Option ZV} (hH : ∀ m as M M1 v1, H m as M = some (M1, v1) → zkp M M1) (h : zstep zS zN zFin H th op M ls st F k = some r) : (op.1 = 25 ∧ zsRet zFin op.2.1 op.2.2.1 M st F = some r) ∨ ∃ M' pc' ls' st' F', k M' pc' ls' st' F' = some r := by
  obtain ⟨o, a, b, c, n, w, cs⟩ := op
  have hk' : ∀ M' pc' ls' st' F', zkp M M' → k M' pc' ls' st' F' = some r → ((o, a, b, c, n, w, cs) : ZOp).1 = 25 ∧ zsRet zFin ((o, a, b, c, n, w, cs) : ZOp).2.1 ((o, a, b, c, n, w, cs) : ZOp).2.2.1 M st F = some r ∨ ∃ M' pc' ls' st' F', k M' pc' ls' st' F' = some r := fun M' pc' ls' st' F' _ h2 => Or.inr ⟨M', pc', ls', st', F', h2⟩
  unfold zstep at h
  try simp only [Bool.cond_eq_ite] at h
  repeat' split at h
  all_goals first
    | (cases h; done)
    | exact hk' _ _ _ _ _ zkp.rf h
    | exact kp_load hk' h
    | exact kp_store hk' h
    | exact kp_inc hk' h
    | exact kp_bin hk' h
    | exact kp_div hk' h
    | exact kp_un hk' h
    | exact kp_lbin hk' h
    | exact kp_stk hk' h
    | exact kp_cmp hk' h
    | exact kp_ifn hk' h
    | exact kp_get hk' h
    | exact kp_put hk' h
    | exact kp_len hk' h
    | exact kp_ald hk' h
    | exact kp_ast hk' h
    | exact kp_newa hk' h
    | exact kp_new hk' h
    | exact kp_copy hk' h
    | exact kp_obj hk' h
    | exact kp_max hk' h
    | exact kp_call (fun as M1 v1 q => hH _ as _ M1 v1 q) hk' h
    | (refine Or.inl ⟨?_, h⟩; rename_i q; exact Nat.eq_of_beq_eq_true q)
    | (unfold zsSw at h; split at h; exact kp_pick (fun t q => hk' _ _ _ _ _ zkp.rf q) h; cases h)
theorem zrunF_ret {H : ZH} {code : Nat → ZOp} {th : Nat} (hH : ∀ m as M M1 v1, H m as M = some (M1, v1) → zkp M M1) : ∀ (n : Nat) (M : ZM) (r : ZM × Option ZV) (pc : Nat) (ls st : List ZV) (F : List Nat), zrunF H code th n M pc ls st F = some r → ∃ pc M st F, (code pc).1 = 25 ∧ zsRet zFin (code pc).2.1 (code pc).2.2.1 M st F = some r
  | 0, _, _, _, _, _, _, h => by cases h
  | n + 1, M, r, pc, ls, st, F, h => by
    rcases zstep_ret hH h with ⟨q1, q2⟩ | ⟨M', pc', ls', st', F', q⟩
    · exact ⟨pc, M, st, F, q1, q2⟩
    · exact zrunF_ret hH n M' r pc' ls' st' F' q
def LI : List Nat := [80, 81, 82, 83, 84, 85, 86, 87, 88, 89, 91, 92, 93, 94, 95, 96, 97, 100, 101, 104, 105, 106, 107, 109, 110, 113, 114, 115, 116, 117, 118, 119, 120, 122, 123, 124, 126]
def LJ : List Nat := [102, 111, 112, 125]
set_option maxRecDepth 10000 in
theorem LI_kd : ∀ m ∈ LI, m < 244 ∧ ∀ pc, pc < zcl m → (zcode m pc).1 = 25 → (zcode m pc).2.1 = 1 := by decide +kernel
set_option maxRecDepth 10000 in
theorem LJ_kd : ∀ m ∈ LJ, m < 244 ∧ ∀ pc, pc < zcl m → (zcode m pc).1 = 25 → (zcode m pc).2.1 = 4 := by decide +kernel
theorem rt_keep {d m : Nat} {as : List ZV} {M M' : ZM} {v : Option ZV} (h : Rt d m as M M' v) : zkp M M' := by
  obtain ⟨N, g⟩ := h
  exact zkeep_all d N m as M M' v (g N (Nat.le_refl _))
theorem rt_ret {d m : Nat} {as : List ZV} {M M' : ZM} {v : Option ZV} (h : Rt (d + 1) m as M M' v) : ∃ pc M1 st F, (zcode m pc).1 = 25 ∧ zsRet zFin (zcode m pc).2.1 (zcode m pc).2.2.1 M1 st F = some (M', v) := by
  obtain ⟨N, g⟩ := h
  have h := g N (Nat.le_refl _)
  unfold zrun at h
  cases hb : Nat.ble (zloc as).length (znl m) with
  | false => rw [hb] at h; cases h
  | true =>
    rw [hb] at h
    exact zrunF_ret (fun m as M M1 v1 q => zkeep_all d N m as M M1 v1 q) N M (M', v) _ _ _ _ h
theorem rt_int {d m : Nat} {as : List ZV} {M M' : ZM} {v : ZV} (hm : m ∈ LI) (h : Rt (d + 1) m as M M' (some v)) : ∃ r, v = zI r := by
  obtain ⟨pc, M1, st, F, q1, q2⟩ := rt_ret h
  obtain ⟨k1, k2⟩ := LI_kd m hm
  rcases Nat.lt_or_ge pc (zcl m) with l | l
  · rw [k2 pc l q1] at q2
    unfold zsRet at q2
    split at q2
    all_goals first
      | (rename_i e; cases e; done)
      | (rename_i e _; cases e; done)
      | (cases q2; exact ⟨_, rfl⟩)
      | (cases q2; done)
      | contradiction
  · rw [zo_all m k1 pc l] at q1
    cases q1
theorem rt_long {d m : Nat} {as : List ZV} {M M' : ZM} {v : ZV} (hm : m ∈ LJ) (h : Rt (d + 1) m as M M' (some v)) : ∃ r, v = zL r := by
  obtain ⟨pc, M1, st, F, q1, q2⟩ := rt_ret h
  obtain ⟨k1, k2⟩ := LJ_kd m hm
  rcases Nat.lt_or_ge pc (zcl m) with l | l
  · rw [k2 pc l q1] at q2
    unfold zsRet at q2
    split at q2
    all_goals first
      | (rename_i e; cases e; done)
      | (rename_i e _; cases e; done)
      | (cases q2; exact ⟨_, rfl⟩)
      | (cases q2; done)
      | contradiction
  · rw [zo_all m k1 pc l] at q1
    cases q1
/-- the script and its length -/
def LK (xs : Nat → Int32) (L : Nat) (M : ZM) : Prop := M.1 0 = xs ∧ M.2.2.2.2.2 = L
theorem lk_keep {xs : Nat → Int32} {L : Nat} {M M' : ZM} (k : LK xs L M) (ht : 1 ≤ ztop M) (h : zkp M M') : LK xs L M' ∧ 1 ≤ ztop M' := by
  obtain ⟨a, b, c⟩ := h ht
  exact ⟨⟨a.trans k.1, b.trans k.2⟩, c⟩
theorem op_int {x m : Nat} {as : List ZV} (o : Op x m as) (hx : x ∈ LI) {M : ZM} {W : Wv} {h L : Nat} {xs : Nat → Int32} (hi : Iv M W h) (hl : LK xs L M) : ∃ (M1 M2 : ZM) (r : Int32) (W' : Wv) (h' : Nat), Rt 60 x (zR 8 1 :: as) M M1 (some (zI r)) ∧ Rt 60 m (zR 9 64 :: as) M1 M2 (some (zI r)) ∧ Iv M2 W' h' ∧ LK xs L M1 ∧ LK xs L M2 := by
  obtain ⟨M1, M2, v, W', h', a, b, c, _⟩ := o M W h hi
  have ht : 1 ≤ ztop M := by
    have := hi.2.2.2.2.2.1.2.2.2.2.1
    show 1 ≤ M.2.2.2.1
    omega
  obtain ⟨k1, t1⟩ := lk_keep hl ht (rt_keep a)
  obtain ⟨k2, _⟩ := lk_keep k1 t1 (rt_keep b)
  obtain ⟨r, rfl⟩ := rt_int hx a
  exact ⟨M1, M2, r, W', h', a, b, c, k1, k2⟩
theorem op_long {x m : Nat} {as : List ZV} (o : Op x m as) (hx : x ∈ LJ) {M : ZM} {W : Wv} {h L : Nat} {xs : Nat → Int32} (hi : Iv M W h) (hl : LK xs L M) : ∃ (M1 M2 : ZM) (r : Int64) (W' : Wv) (h' : Nat), Rt 60 x (zR 8 1 :: as) M M1 (some (zL r)) ∧ Rt 60 m (zR 9 64 :: as) M1 M2 (some (zL r)) ∧ Iv M2 W' h' ∧ LK xs L M1 ∧ LK xs L M2 := by
  obtain ⟨M1, M2, v, W', h', a, b, c, _⟩ := o M W h hi
  have ht : 1 ≤ ztop M := by
    have := hi.2.2.2.2.2.1.2.2.2.2.1
    show 1 ≤ M.2.2.2.1
    omega
  obtain ⟨k1, t1⟩ := lk_keep hl ht (rt_keep a)
  obtain ⟨k2, _⟩ := lk_keep k1 t1 (rt_keep b)
  obtain ⟨r, rfl⟩ := rt_long hx a
  exact ⟨M1, M2, r, W', h', a, b, c, k1, k2⟩
def LE (M' : ZM) (v : Option ZV) : Prop := v = some (zI 1) ∧ ztop M' ≤ 600000 ∧ zsl M' ≤ 7302250
theorem lawloop {xs : Nat → Int32} {L : Nat} (hL : L ≤ 3072) (hh : Op 88 166 []) : ∀ n i M W h, L ≤ i + 6 * n → i ≤ 4000 → Iv M W h → LK xs L M → A_L_law_18 60 M (nI i) LE := by
  have e6 : (Int32.ofNat L - 6).toInt = (L : Int) - 6 := pk_sub_toInt (a := L) (b := 6) (by omega) (by omega)
  have stop : ∀ i M W h, L < i + 6 → i ≤ 4000 → Iv M W h → LK xs L M → A_L_law_18 60 M (nI i) LE := fun i M W h hi4 hi5 hi hl => by
    have ho := hi.2.2.2.2.2.1
    refine a_L_law_18 ?_
    rw [hl.2]
    refine ⟨fun _ => ⟨rfl, ?_, ?_⟩, fun q => absurd ?_ q⟩
    · show M.2.2.2.1 ≤ _
      have := ho.1
      have := ho.2.2.2.2.1
      omega
    · show M.2.2.2.2.1 ≤ _
      have := ho.1
      have := ho.2.2.2.2.2
      omega
    · rw [Int32.lt_iff_toInt_lt, e6, nI_toInt (by omega)]
      omega
  intro n
  induction n with
  | zero => intro i M W h h1 h2 hi hl; exact stop i M W h (by omega) h2 hi hl
  | succ n ihn =>
    intro i M W h h1 h2 hi hl
    by_cases hs : L < i + 6
    · exact stop i M W h hs h2 hi hl
    have s6 : nI i + 6 = nI (i + 6) := nI_add i 6
    have ih : ∀ M W h, Iv M W h → LK xs L M → A_L_law_18 60 M (nI i + 6) LE := fun M W h a b => by
      rw [s6]
      exact ihn (i + 6) M W h (by omega) (by omega) a b
    have z1 : zn (nI i + 1) = i + 1 := by rw [show nI i + 1 = nI (i + 1) from nI_add i 1, zn_nI (by omega)]
    have z2 : zn (nI i + 2) = i + 2 := by rw [show nI i + 2 = nI (i + 2) from nI_add i 2, zn_nI (by omega)]
    have z3 : zn (nI i + 3) = i + 3 := by rw [show nI i + 3 = nI (i + 3) from nI_add i 3, zn_nI (by omega)]
    have z4 : zn (nI i + 4) = i + 4 := by rw [show nI i + 4 = nI (i + 4) from nI_add i 4, zn_nI (by omega)]
    have z5 : zn (nI i + 5) = i + 5 := by rw [show nI i + 5 = nI (i + 5) from nI_add i 5, zn_nI (by omega)]
    have cks : ∀ M : ZM, LK xs L M → ¬ (nI i + 1 < 0 ∨ M.2.2.2.2.2 ≤ zn (nI i + 1)) ∧ ¬ (nI i + 2 < 0 ∨ M.2.2.2.2.2 ≤ zn (nI i + 2)) ∧ ¬ (nI i + 3 < 0 ∨ M.2.2.2.2.2 ≤ zn (nI i + 3)) ∧ ¬ (nI i + 4 < 0 ∨ M.2.2.2.2.2 ≤ zn (nI i + 4)) ∧ ¬ (nI i + 5 < 0 ∨ M.2.2.2.2.2 ≤ zn (nI i + 5)) ∧ True := fun M hl => by
      rw [hl.2, z1, z2, z3, z4, z5, show nI i + 1 = nI (i + 1) from nI_add i 1, show nI i + 2 = nI (i + 2) from nI_add i 2, show nI i + 3 = nI (i + 3) from nI_add i 3, show nI i + 4 = nI (i + 4) from nI_add i 4, show nI i + 5 = nI (i + 5) from nI_add i 5]
      exact ⟨in_n (by omega) (by omega), in_n (by omega) (by omega), in_n (by omega) (by omega), in_n (by omega) (by omega), in_n (by omega) (by omega), trivial⟩
    have case0 : A_L_law_212 60 M (nI i) LE := by
      obtain ⟨M1, M2, r, W', h', e1, e2, hi', l1, l2⟩ := op_int (op_seats (xs (i + 1))) (by decide) hi hl
      have cc := cks M hl
      have cd := cks M1 l1
      exact a_L_law_212 ⟨cc.1, M1, r, (by rw [hl.1, z1]; exact e1), cd.1, M2, r, (by rw [l1.1, z1]; exact e2), fun _ => ih M2 W' h' hi' l2, fun q => absurd rfl q⟩
    have case1 : A_L_law_235 60 M (nI i) LE := by
      obtain ⟨M1, M2, r, W', h', e1, e2, hi', l1, l2⟩ := op_int (op_seat (xs (i + 1)) (xs (i + 2)) (xs (i + 3))) (by decide) hi hl
      have cc := cks M hl
      have cd := cks M1 l1
      exact a_L_law_235 ⟨cc.1, cc.2.1, cc.2.2.1, M1, r, (by rw [hl.1, z1, z2, z3]; exact e1), cd.1, cd.2.1, cd.2.2.1, M2, r, (by rw [l1.1, z1, z2, z3]; exact e2), fun _ => ih M2 W' h' hi' l2, fun q => absurd rfl q⟩
    have case2 : A_L_law_278 60 M (nI i) LE := by
      obtain ⟨M1, M2, r, W', h', e1, e2, hi', l1, l2⟩ := op_int (op_person (xs (i + 1)) (xs (i + 2))) (by decide) hi hl
      have cc := cks M hl
      have cd := cks M1 l1
      exact a_L_law_278 ⟨cc.1, cc.2.1, M1, r, (by rw [hl.1, z1, z2]; exact e1), cd.1, cd.2.1, M2, r, (by rw [l1.1, z1, z2]; exact e2), fun _ => ih M2 W' h' hi' l2, fun q => absurd rfl q⟩
    have case3 : A_L_law_311 60 M (nI i) LE := by
      obtain ⟨M1, M2, r, W', h', e1, e2, hi', l1, l2⟩ := op_int (op_of (xs (i + 1)) (xs (i + 2))) (by decide) hi hl
      have cc := cks M hl
      have cd := cks M1 l1
      exact a_L_law_311 ⟨cc.1, cc.2.1, M1, r, (by rw [hl.1, z1, z2]; exact e1), cd.1, cd.2.1, M2, r, (by rw [l1.1, z1, z2]; exact e2), fun _ => ih M2 W' h' hi' l2, fun q => absurd rfl q⟩
    have case4 : A_L_law_344 60 M (nI i) LE := by
      obtain ⟨M1, M2, r, W', h', e1, e2, hi', l1, l2⟩ := op_int (op_who (xs (i + 1))) (by decide) hi hl
      have cc := cks M hl
      have cd := cks M1 l1
      exact a_L_law_344 ⟨cc.1, M1, r, (by rw [hl.1, z1]; exact e1), cd.1, M2, r, (by rw [l1.1, z1]; exact e2), fun _ => ih M2 W' h' hi' l2, fun q => absurd rfl q⟩
    have case5 : A_L_law_367 60 M (nI i) LE := by
      obtain ⟨M1, M2, r, W', h', e1, e2, hi', l1, l2⟩ := op_int (op_matter (xs (i + 1)) (xs (i + 2)) (xs (i + 3))) (by decide) hi hl
      have cc := cks M hl
      have cd := cks M1 l1
      exact a_L_law_367 ⟨cc.1, cc.2.1, cc.2.2.1, M1, r, (by rw [hl.1, z1, z2, z3]; exact e1), cd.1, cd.2.1, cd.2.2.1, M2, r, (by rw [l1.1, z1, z2, z3]; exact e2), fun _ => ih M2 W' h' hi' l2, fun q => absurd rfl q⟩
    have case6 : A_L_law_410 60 M (nI i) LE := by
      obtain ⟨M1, M2, r, W', h', e1, e2, hi', l1, l2⟩ := op_int (op_at (xs (i + 1)) (xs (i + 2))) (by decide) hi hl
      have cc := cks M hl
      have cd := cks M1 l1
      exact a_L_law_410 ⟨cc.1, cc.2.1, M1, r, (by rw [hl.1, z1, z2]; exact e1), cd.1, cd.2.1, M2, r, (by rw [l1.1, z1, z2]; exact e2), fun _ => ih M2 W' h' hi' l2, fun q => absurd rfl q⟩
    have case7 : A_L_law_443 60 M (nI i) LE := by
      obtain ⟨M1, M2, r, W', h', e1, e2, hi', l1, l2⟩ := op_int (op_feed (xs (i + 1))) (by decide) hi hl
      have cc := cks M hl
      have cd := cks M1 l1
      exact a_L_law_443 ⟨cc.1, M1, r, (by rw [hl.1, z1]; exact e1), cd.1, M2, r, (by rw [l1.1, z1]; exact e2), fun _ => ih M2 W' h' hi' l2, fun q => absurd rfl q⟩
    have case8 : A_L_law_466 60 M (nI i) LE := by
      obtain ⟨M1, M2, r, W', h', e1, e2, hi', l1, l2⟩ := op_int (hh) (by decide) hi hl
      have cc := cks M hl
      have cd := cks M1 l1
      exact a_L_law_466 ⟨M1, r, e1, M2, r, e2, fun _ => ih M2 W' h' hi' l2, fun q => absurd rfl q⟩
    have case9 : A_L_law_479 60 M (nI i) LE := by
      obtain ⟨M1, M2, r, W', h', e1, e2, hi', l1, l2⟩ := op_int (op_told (xs (i + 1))) (by decide) hi hl
      have cc := cks M hl
      have cd := cks M1 l1
      exact a_L_law_479 ⟨cc.1, M1, r, (by rw [hl.1, z1]; exact e1), cd.1, M2, r, (by rw [l1.1, z1]; exact e2), fun _ => ih M2 W' h' hi' l2, fun q => absurd rfl q⟩
    have case10 : A_L_law_502 60 M (nI i) LE := by
      obtain ⟨M1, M2, r, W', h', e1, e2, hi', l1, l2⟩ := op_int (op_like (xs (i + 1)) (xs (i + 2))) (by decide) hi hl
      have cc := cks M hl
      have cd := cks M1 l1
      exact a_L_law_502 ⟨cc.1, cc.2.1, M1, r, (by rw [hl.1, z1, z2]; exact e1), cd.1, cd.2.1, M2, r, (by rw [l1.1, z1, z2]; exact e2), fun _ => ih M2 W' h' hi' l2, fun q => absurd rfl q⟩
    have case11 : A_L_law_535 60 M (nI i) LE := by
      obtain ⟨M1, M2, r, W', h', e1, e2, hi', l1, l2⟩ := op_int (op_says (xs (i + 1)) (xs (i + 2))) (by decide) hi hl
      have cc := cks M hl
      have cd := cks M1 l1
      exact a_L_law_535 ⟨cc.1, cc.2.1, M1, r, (by rw [hl.1, z1, z2]; exact e1), cd.1, cd.2.1, M2, r, (by rw [l1.1, z1, z2]; exact e2), fun _ => ih M2 W' h' hi' l2, fun q => absurd rfl q⟩
    have case12 : A_L_law_568 60 M (nI i) LE := by
      obtain ⟨M1, M2, r, W', h', e1, e2, hi', l1, l2⟩ := op_int (op_vote (xs (i + 1))) (by decide) hi hl
      have cc := cks M hl
      have cd := cks M1 l1
      exact a_L_law_568 ⟨cc.1, M1, r, (by rw [hl.1, z1]; exact e1), cd.1, M2, r, (by rw [l1.1, z1]; exact e2), fun _ => ih M2 W' h' hi' l2, fun q => absurd rfl q⟩
    have case13 : A_L_law_591 60 M (nI i) LE := by
      obtain ⟨M1, M2, r, W', h', e1, e2, hi', l1, l2⟩ := op_int (op_idle (xs (i + 1))) (by decide) hi hl
      have cc := cks M hl
      have cd := cks M1 l1
      exact a_L_law_591 ⟨cc.1, M1, r, (by rw [hl.1, z1]; exact e1), cd.1, M2, r, (by rw [l1.1, z1]; exact e2), fun _ => ih M2 W' h' hi' l2, fun q => absurd rfl q⟩
    have case14 : A_L_law_614 60 M (nI i) LE := by
      obtain ⟨M1, M2, r, W', h', e1, e2, hi', l1, l2⟩ := op_int (op_would (xs (i + 1)) (xs (i + 2))) (by decide) hi hl
      have cc := cks M hl
      have cd := cks M1 l1
      exact a_L_law_614 ⟨cc.1, cc.2.1, M1, r, (by rw [hl.1, z1, z2]; exact e1), cd.1, cd.2.1, M2, r, (by rw [l1.1, z1, z2]; exact e2), fun _ => ih M2 W' h' hi' l2, fun q => absurd rfl q⟩
    have case15 : A_L_law_647 60 M (nI i) LE := by
      obtain ⟨M1, M2, r, W', h', e1, e2, hi', l1, l2⟩ := op_int (op_soon (xs (i + 1))) (by decide) hi hl
      have cc := cks M hl
      have cd := cks M1 l1
      exact a_L_law_647 ⟨cc.1, M1, r, (by rw [hl.1, z1]; exact e1), cd.1, M2, r, (by rw [l1.1, z1]; exact e2), fun _ => ih M2 W' h' hi' l2, fun q => absurd rfl q⟩
    have case16 : A_L_law_670 60 M (nI i) LE := by
      obtain ⟨M1, M2, r, W', h', e1, e2, hi', l1, l2⟩ := op_int (op_order (xs (i + 1)) (xs (i + 2))) (by decide) hi hl
      have cc := cks M hl
      have cd := cks M1 l1
      exact a_L_law_670 ⟨cc.1, cc.2.1, M1, r, (by rw [hl.1, z1, z2]; exact e1), cd.1, cd.2.1, M2, r, (by rw [l1.1, z1, z2]; exact e2), fun _ => ih M2 W' h' hi' l2, fun q => absurd rfl q⟩
    have case17 : A_L_law_703 60 M (nI i) LE := by
      obtain ⟨M1, M2, r, W', h', e1, e2, hi', l1, l2⟩ := op_int (op_hold (xs (i + 1)) (xs (i + 2))) (by decide) hi hl
      have cc := cks M hl
      have cd := cks M1 l1
      exact a_L_law_703 ⟨cc.1, cc.2.1, M1, r, (by rw [hl.1, z1, z2]; exact e1), cd.1, cd.2.1, M2, r, (by rw [l1.1, z1, z2]; exact e2), fun _ => ih M2 W' h' hi' l2, fun q => absurd rfl q⟩
    have case18 : A_L_law_736 60 M (nI i) LE := by
      obtain ⟨M1, M2, r, W', h', e1, e2, hi', l1, l2⟩ := op_int (op_decides (xs (i + 1)) (xs (i + 2))) (by decide) hi hl
      have cc := cks M hl
      have cd := cks M1 l1
      exact a_L_law_736 ⟨cc.1, cc.2.1, M1, r, (by rw [hl.1, z1, z2]; exact e1), cd.1, cd.2.1, M2, r, (by rw [l1.1, z1, z2]; exact e2), fun _ => ih M2 W' h' hi' l2, fun q => absurd rfl q⟩
    have case19 : A_L_law_769 60 M (nI i) LE := by
      obtain ⟨M1, M2, r, W', h', e1, e2, hi', l1, l2⟩ := op_long (op_power (xs (i + 1)) (xs (i + 2))) (by decide) hi hl
      have cc := cks M hl
      have cd := cks M1 l1
      exact a_L_law_769 ⟨cc.1, cc.2.1, M1, r, (by rw [hl.1, z1, z2]; exact e1), cd.1, cd.2.1, M2, r, (by rw [l1.1, z1, z2]; exact e2), fun _ => ih M2 W' h' hi' l2, fun q => absurd ((lg_cmp_eq r r).mpr rfl) q⟩
    have case20 : A_L_law_803 60 M (nI i) LE := by
      obtain ⟨M1, M2, r, W', h', e1, e2, hi', l1, l2⟩ := op_int (op_meet (xs (i + 1)) (xs (i + 2)) (xs (i + 3)) (xs (i + 4))) (by decide) hi hl
      have cc := cks M hl
      have cd := cks M1 l1
      exact a_L_law_803 ⟨cc.1, cc.2.1, cc.2.2.1, cc.2.2.2.1, M1, r, (by rw [hl.1, z1, z2, z3, z4]; exact e1), cd.1, cd.2.1, cd.2.2.1, cd.2.2.2.1, M2, r, (by rw [l1.1, z1, z2, z3, z4]; exact e2), fun _ => ih M2 W' h' hi' l2, fun q => absurd rfl q⟩
    have case21 : A_L_law_856 60 M (nI i) LE := by
      obtain ⟨M1, M2, r, W', h', e1, e2, hi', l1, l2⟩ := op_int (op_wheels (xs (i + 1)) (xs (i + 2)) (xs (i + 3)) (xs (i + 4))) (by decide) hi hl
      have cc := cks M hl
      have cd := cks M1 l1
      exact a_L_law_856 ⟨cc.1, cc.2.1, cc.2.2.1, cc.2.2.2.1, M1, r, (by rw [hl.1, z1, z2, z3, z4]; exact e1), cd.1, cd.2.1, cd.2.2.1, cd.2.2.2.1, M2, r, (by rw [l1.1, z1, z2, z3, z4]; exact e2), fun _ => ih M2 W' h' hi' l2, fun q => absurd rfl q⟩
    have case22 : A_L_law_909 60 M (nI i) LE := by
      obtain ⟨M1, M2, r, W', h', e1, e2, hi', l1, l2⟩ := op_int (op_up (xs (i + 1)) (xs (i + 2))) (by decide) hi hl
      have cc := cks M hl
      have cd := cks M1 l1
      exact a_L_law_909 ⟨cc.1, cc.2.1, M1, r, (by rw [hl.1, z1, z2]; exact e1), cd.1, cd.2.1, M2, r, (by rw [l1.1, z1, z2]; exact e2), fun _ => ih M2 W' h' hi' l2, fun q => absurd rfl q⟩
    have case23 : A_L_law_942 60 M (nI i) LE := by
      obtain ⟨M1, M2, r, W', h', e1, e2, hi', l1, l2⟩ := op_int (op_bestSeat (xs (i + 1))) (by decide) hi hl
      have cc := cks M hl
      have cd := cks M1 l1
      exact a_L_law_942 ⟨cc.1, M1, r, (by rw [hl.1, z1]; exact e1), cd.1, M2, r, (by rw [l1.1, z1]; exact e2), fun _ => ih M2 W' h' hi' l2, fun q => absurd rfl q⟩
    have case24 : A_L_law_965 60 M (nI i) LE := by
      obtain ⟨M1, M2, r, W', h', e1, e2, hi', l1, l2⟩ := op_int (op_see (xs (i + 1)) (xs (i + 2))) (by decide) hi hl
      have cc := cks M hl
      have cd := cks M1 l1
      exact a_L_law_965 ⟨cc.1, cc.2.1, M1, r, (by rw [hl.1, z1, z2]; exact e1), cd.1, cd.2.1, M2, r, (by rw [l1.1, z1, z2]; exact e2), fun _ => ih M2 W' h' hi' l2, fun q => absurd rfl q⟩
    have case25 : A_L_law_998 60 M (nI i) LE := by
      obtain ⟨M1, M2, r, W', h', e1, e2, hi', l1, l2⟩ := op_int (op_stood (xs (i + 1))) (by decide) hi hl
      have cc := cks M hl
      have cd := cks M1 l1
      exact a_L_law_998 ⟨cc.1, M1, r, (by rw [hl.1, z1]; exact e1), cd.1, M2, r, (by rw [l1.1, z1]; exact e2), fun _ => ih M2 W' h' hi' l2, fun q => absurd rfl q⟩
    have case26 : A_L_law_1021 60 M (nI i) LE := by
      obtain ⟨M1, M2, r, W', h', e1, e2, hi', l1, l2⟩ := op_long (op_odds (xs (i + 1)) (xs (i + 2))) (by decide) hi hl
      have cc := cks M hl
      have cd := cks M1 l1
      exact a_L_law_1021 ⟨cc.1, cc.2.1, M1, r, (by rw [hl.1, z1, z2]; exact e1), cd.1, cd.2.1, M2, r, (by rw [l1.1, z1, z2]; exact e2), fun _ => ih M2 W' h' hi' l2, fun q => absurd ((lg_cmp_eq r r).mpr rfl) q⟩
    have case27 : A_L_law_1055 60 M (nI i) LE := by
      obtain ⟨M1, M2, r, W', h', e1, e2, hi', l1, l2⟩ := op_long (op_mean (xs (i + 1)) (xs (i + 2))) (by decide) hi hl
      have cc := cks M hl
      have cd := cks M1 l1
      exact a_L_law_1055 ⟨cc.1, cc.2.1, M1, r, (by rw [hl.1, z1, z2]; exact e1), cd.1, cd.2.1, M2, r, (by rw [l1.1, z1, z2]; exact e2), fun _ => ih M2 W' h' hi' l2, fun q => absurd ((lg_cmp_eq r r).mpr rfl) q⟩
    have case28 : A_L_law_1089 60 M (nI i) LE := by
      obtain ⟨M1, M2, r, W', h', e1, e2, hi', l1, l2⟩ := op_int (op_book (xs (i + 1))) (by decide) hi hl
      have cc := cks M hl
      have cd := cks M1 l1
      exact a_L_law_1089 ⟨cc.1, M1, r, (by rw [hl.1, z1]; exact e1), cd.1, M2, r, (by rw [l1.1, z1]; exact e2), fun _ => ih M2 W' h' hi' l2, fun q => absurd rfl q⟩
    have case29 : A_L_law_1112 60 M (nI i) LE := by
      obtain ⟨M1, M2, r, W', h', e1, e2, hi', l1, l2⟩ := op_int (op_looked) (by decide) hi hl
      have cc := cks M hl
      have cd := cks M1 l1
      exact a_L_law_1112 ⟨M1, r, e1, M2, r, e2, fun _ => ih M2 W' h' hi' l2, fun q => absurd rfl q⟩
    have case30 : A_L_law_1125 60 M (nI i) LE := by
      obtain ⟨M1, M2, r, W', h', e1, e2, hi', l1, l2⟩ := op_int (op_judge (xs (i + 1)) (xs (i + 2))) (by decide) hi hl
      have cc := cks M hl
      have cd := cks M1 l1
      exact a_L_law_1125 ⟨cc.1, cc.2.1, M1, r, (by rw [hl.1, z1, z2]; exact e1), cd.1, cd.2.1, M2, r, (by rw [l1.1, z1, z2]; exact e2), fun _ => ih M2 W' h' hi' l2, fun q => absurd rfl q⟩
    have case31 : A_L_law_1158 60 M (nI i) LE := by
      obtain ⟨M1, M2, r, W', h', e1, e2, hi', l1, l2⟩ := op_int (op_image) (by decide) hi hl
      have cc := cks M hl
      have cd := cks M1 l1
      exact a_L_law_1158 ⟨M1, r, e1, M2, r, e2, fun _ => ih M2 W' h' hi' l2, fun q => absurd rfl q⟩
    have case32 : A_L_law_1171 60 M (nI i) LE := by
      obtain ⟨M1, M2, r, W', h', e1, e2, hi', l1, l2⟩ := op_int (op_undo) (by decide) hi hl
      have cc := cks M hl
      have cd := cks M1 l1
      exact a_L_law_1171 ⟨M1, r, e1, M2, r, e2, fun _ => ih M2 W' h' hi' l2, fun q => absurd rfl q⟩
    have case33 : A_L_law_1184 60 M (nI i) LE := by
      obtain ⟨M1, M2, r, W', h', e1, e2, hi', l1, l2⟩ := op_int (op_act (xs (i + 1)) (xs (i + 2)) (xs (i + 3))) (by decide) hi hl
      have cc := cks M hl
      have cd := cks M1 l1
      exact a_L_law_1184 ⟨cc.1, cc.2.1, cc.2.2.1, M1, r, (by rw [hl.1, z1, z2, z3]; exact e1), cd.1, cd.2.1, cd.2.2.1, M2, r, (by rw [l1.1, z1, z2, z3]; exact e2), fun _ => ih M2 W' h' hi' l2, fun q => absurd rfl q⟩
    have case34 : A_L_law_1227 60 M (nI i) LE := by
      obtain ⟨M1, M2, r, W', h', e1, e2, hi', l1, l2⟩ := op_int (op_trace (xs (i + 1))) (by decide) hi hl
      have cc := cks M hl
      have cd := cks M1 l1
      exact a_L_law_1227 ⟨cc.1, M1, r, (by rw [hl.1, z1]; exact e1), cd.1, M2, r, (by rw [l1.1, z1]; exact e2), fun _ => ih M2 W' h' hi' l2, fun q => absurd rfl q⟩
    have case35 : A_L_law_1250 60 M (nI i) LE := by
      obtain ⟨M1, M2, r, W', h', e1, e2, hi', l1, l2⟩ := op_int (op_taken (xs (i + 1)) (xs (i + 2))) (by decide) hi hl
      have cc := cks M hl
      have cd := cks M1 l1
      exact a_L_law_1250 ⟨cc.1, cc.2.1, M1, r, (by rw [hl.1, z1, z2]; exact e1), cd.1, cd.2.1, M2, r, (by rw [l1.1, z1, z2]; exact e2), fun _ => ih M2 W' h' hi' l2, fun q => absurd rfl q⟩
    have case36 : A_L_law_1283 60 M (nI i) LE := by
      obtain ⟨M1, M2, r, W', h', e1, e2, hi', l1, l2⟩ := op_int (op_count (xs (i + 1))) (by decide) hi hl
      have cc := cks M hl
      have cd := cks M1 l1
      exact a_L_law_1283 ⟨cc.1, M1, r, (by rw [hl.1, z1]; exact e1), cd.1, M2, r, (by rw [l1.1, z1]; exact e2), fun _ => ih M2 W' h' hi' l2, fun q => absurd rfl q⟩
    have case37 : A_L_law_1306 60 M (nI i) LE := by
      obtain ⟨M1, M2, r, W', h', e1, e2, hi', l1, l2⟩ := op_int (op_tape (xs (i + 1)) (xs (i + 2)) (xs (i + 3))) (by decide) hi hl
      have cc := cks M hl
      have cd := cks M1 l1
      exact a_L_law_1306 ⟨cc.1, cc.2.1, cc.2.2.1, M1, r, (by rw [hl.1, z1, z2, z3]; exact e1), cd.1, cd.2.1, cd.2.2.1, M2, r, (by rw [l1.1, z1, z2, z3]; exact e2), fun _ => ih M2 W' h' hi' l2, fun q => absurd rfl q⟩
    have case38 : A_L_law_1349 60 M (nI i) LE := by
      obtain ⟨M1, M2, r, W', h', e1, e2, hi', l1, l2⟩ := op_int (op_item (xs (i + 1)) (xs (i + 2)) ((((xs (i + 3)).toInt64) <<< ((32 : Int32).toInt64 &&& 63)) ||| (((xs (i + 4)).toInt64) &&& 4294967295))) (by decide) hi hl
      have cc := cks M hl
      have cd := cks M1 l1
      exact a_L_law_1349 ⟨cc.1, cc.2.1, cc.2.2.1, cc.2.2.2.1, M1, r, (by rw [hl.1, z1, z2, z3, z4]; exact e1), cd.1, cd.2.1, cd.2.2.1, cd.2.2.2.1, M2, r, (by rw [l1.1, z1, z2, z3, z4]; exact e2), fun _ => ih M2 W' h' hi' l2, fun q => absurd rfl q⟩
    have case39 : A_L_law_1422 60 M (nI i) LE := by
      obtain ⟨M1, M2, r, W', h', e1, e2, hi', l1, l2⟩ := op_long (op_read (xs (i + 1)) (xs (i + 2))) (by decide) hi hl
      have cc := cks M hl
      have cd := cks M1 l1
      exact a_L_law_1422 ⟨cc.1, cc.2.1, M1, r, (by rw [hl.1, z1, z2]; exact e1), cd.1, cd.2.1, M2, r, (by rw [l1.1, z1, z2]; exact e2), fun _ => ih M2 W' h' hi' l2, fun q => absurd ((lg_cmp_eq r r).mpr rfl) q⟩
    have case40 : A_L_law_1456 60 M (nI i) LE := by
      obtain ⟨M1, M2, r, W', h', e1, e2, hi', l1, l2⟩ := op_int (op_shift (xs (i + 1)) (xs (i + 2)) (xs (i + 3)) (xs (i + 4)) (xs (i + 5))) (by decide) hi hl
      have cc := cks M hl
      have cd := cks M1 l1
      exact a_L_law_1456 ⟨cc.1, cc.2.1, cc.2.2.1, cc.2.2.2.1, cc.2.2.2.2.1, M1, r, (by rw [hl.1, z1, z2, z3, z4, z5]; exact e1), cd.1, cd.2.1, cd.2.2.1, cd.2.2.2.1, cd.2.2.2.2.1, M2, r, (by rw [l1.1, z1, z2, z3, z4, z5]; exact e2), fun _ => ih M2 W' h' hi' l2, fun q => absurd rfl q⟩
    refine a_L_law_18 ?_
    rw [hl.2]
    have sw : ¬ (Int32.ofNat L - 6 < nI i) := by
      rw [Int32.lt_iff_toInt_lt, e6, nI_toInt (by omega)]
      omega
    exact ⟨fun q => absurd q sw, fun _ => ⟨in_nI (by omega) (by omega), ⟨fun _ => case0, fun _ => ⟨fun _ => case1, fun _ => ⟨fun _ => case2, fun _ => ⟨fun _ => case3, fun _ => ⟨fun _ => case4, fun _ => ⟨fun _ => case5, fun _ => ⟨fun _ => case6, fun _ => ⟨fun _ => case7, fun _ => ⟨fun _ => case8, fun _ => ⟨fun _ => case9, fun _ => ⟨fun _ => case10, fun _ => ⟨fun _ => case11, fun _ => ⟨fun _ => case12, fun _ => ⟨fun _ => case13, fun _ => ⟨fun _ => case14, fun _ => ⟨fun _ => case15, fun _ => ⟨fun _ => case16, fun _ => ⟨fun _ => case17, fun _ => ⟨fun _ => case18, fun _ => ⟨fun _ => case19, fun _ => ⟨fun _ => case20, fun _ => ⟨fun _ => case21, fun _ => ⟨fun _ => case22, fun _ => ⟨fun _ => case23, fun _ => ⟨fun _ => case24, fun _ => ⟨fun _ => case25, fun _ => ⟨fun _ => case26, fun _ => ⟨fun _ => case27, fun _ => ⟨fun _ => case28, fun _ => ⟨fun _ => case29, fun _ => ⟨fun _ => case30, fun _ => ⟨fun _ => case31, fun _ => ⟨fun _ => case32, fun _ => ⟨fun _ => case33, fun _ => ⟨fun _ => case34, fun _ => ⟨fun _ => case35, fun _ => ⟨fun _ => case36, fun _ => ⟨fun _ => case37, fun _ => ⟨fun _ => case38, fun _ => ⟨fun _ => case39, fun _ => ⟨fun _ => case40, fun _ => ih M W h hi hl⟩⟩⟩⟩⟩⟩⟩⟩⟩⟩⟩⟩⟩⟩⟩⟩⟩⟩⟩⟩⟩⟩⟩⟩⟩⟩⟩⟩⟩⟩⟩⟩⟩⟩⟩⟩⟩⟩⟩⟩⟩⟩⟩
