/-! FRAMES: what a call that changes a part of the state leaves as it was -/
theorem WM14 {M M' : ZM} {H : Hs} (h0 : M'.1 64 14 = M.1 64 14) (h : ∀ a, 75 ≤ a → a < 81 → M'.1 a = M.1 a) (q : (M.1 64 14 = -1 ∧ H = []) ∨ (∃ f, M.1 64 14 = nI f ∧ f < 6 ∧ HM M.1 f H)) : (M'.1 64 14 = -1 ∧ H = []) ∨ (∃ f, M'.1 64 14 = nI f ∧ f < 6 ∧ HM M'.1 f H) := by
  unfold HM at q ⊢
  rw [h0, h 75 (by omega) (by omega)]
  rcases q with x | ⟨a, x, y, z1, z2, z3⟩
  · exact Or.inl x
  · exact Or.inr ⟨a, x, y, z1, z2, HMr_eq h _ _ z3⟩
theorem WX14 {M M' : ZM} {o : Nat} {H : Hs} (hr : M'.2.2.1 (o + 1) 13 = M.2.2.1 (o + 1) 13) (hh : ∀ a, (60 ≤ a ∧ a < 64) ∨ 112 ≤ a → M'.1 a = M.1 a) (q : (M.2.2.1 (o + 1) 13 = 0 ∧ H = []) ∨ (∃ h, M.2.2.1 (o + 1) 13 = h + 1 ∧ (h = 59 ∨ 111 ≤ h) ∧ HX M.1 h H)) : (M'.2.2.1 (o + 1) 13 = 0 ∧ H = []) ∨ (∃ h, M'.2.2.1 (o + 1) 13 = h + 1 ∧ (h = 59 ∨ 111 ≤ h) ∧ HX M'.1 h H) := by
  rw [hr]
  rcases q with ⟨x, y⟩ | ⟨a, x, y, z⟩
  · exact Or.inl ⟨x, y⟩
  · exact Or.inr ⟨a, x, y, HX_eq (fun b h1 h2 => hh b (by omega)) z⟩
theorem WM_eq2 {M M' : ZM} {W : Wv} (h0 : ∀ j, j < 15 → M'.1 64 j = M.1 64 j) (h : ∀ a, 65 ≤ a → a < 81 → M'.1 a = M.1 a) (q : WM M W) : WM M' W := by
  obtain ⟨q1, q2, q3, q4, q5, q6, q7, q8, q9, q10, q11, q12, q13, q14⟩ := q
  refine ⟨(h0 0 (by omega)).trans q1, (h0 1 (by omega)).trans q2, (h0 2 (by omega)).trans q3, (h0 3 (by omega)).trans q4, ?_, ?_, ?_, ?_, ?_, ?_, ?_, ?_, ?_, WM14 (h0 14 (by omega)) (fun a h1 h2 => h a (by omega) h2) q14⟩
  · rw [h 65 (by omega) (by omega)]; exact q5
  · rw [h 66 (by omega) (by omega)]; exact q6
  · rw [h 67 (by omega) (by omega)]; exact q7
  · rw [h 68 (by omega) (by omega)]; exact q8
  · rw [h 69 (by omega) (by omega)]; exact q9
  · rw [h 70 (by omega) (by omega)]; exact q10
  · rw [h 71 (by omega) (by omega)]; exact q11
  · rw [h 72 (by omega) (by omega)]; exact q12
  · rw [h 73 (by omega) (by omega)]; exact q13
theorem WK_eq2 {M M' : ZM} {W : Wv} (h0 : ∀ j, 45 ≤ j → j < 50 → M'.1 64 j = M.1 64 j) (h : ∀ a, (75 ≤ a ∧ a < 81) ∨ (95 ≤ a ∧ a < 107) → M'.1 a = M.1 a) (q : WK M W) : WK M' W := by
  obtain ⟨q1, q2, q3, q4, q5, q6, q7, q8, q9, q10, q11, q12, q13, q14⟩ := q
  refine ⟨(h0 46 (by omega) (by omega)).trans q1, (h0 47 (by omega) (by omega)).trans q2, (h0 48 (by omega) (by omega)).trans q3, (h0 49 (by omega) (by omega)).trans q4, ?_, ?_, ?_, ?_, ?_, ?_, ?_, ?_, ?_, ?_⟩
  · rw [h 95 (by omega)]; exact q5
  · rw [h 96 (by omega)]; exact q6
  · rw [h 97 (by omega)]; exact q7
  · rw [h 98 (by omega)]; exact q8
  · rw [h 99 (by omega)]; exact q9
  · rw [h 100 (by omega)]; exact q10
  · rw [h 101 (by omega)]; exact q11
  · rw [h 102 (by omega)]; exact q12
  · rw [h 106 (by omega)]; exact q13
  · unfold HM at q14 ⊢
    rw [h0 45 (by omega) (by omega), h 75 (by omega)]
    rcases q14 with x | ⟨a, x, y, z1, z2, z3⟩
    · exact Or.inl x
    · exact Or.inr ⟨a, x, y, z1, z2, HMr_eq (fun b h1 h2 => h b (by omega)) _ _ z3⟩
theorem IM_eq2 {M M' : ZM} {h : Nat} (h1 : M'.1 1 13 = M.1 1 13) (h0 : ∀ j, 44 ≤ j → j < 52 → M'.1 64 j = M.1 64 j) (hk : ∀ a, (13 < a ∧ a < 24) ∨ (41 ≤ a ∧ a < 44) ∨ (46 ≤ a ∧ a < 48) ∨ (60 ≤ a ∧ a < 64) ∨ (75 ≤ a ∧ a < 81) ∨ (95 ≤ a ∧ a < 107) ∨ 112 ≤ a → M'.1 a = M.1 a) (h4 : M'.2.2.1 14 13 = M.2.2.1 14 13) (q : IM M h) : IM M' h := by
  rcases q with ⟨a, b⟩ | ⟨a, b, W, n, m, q1, q2, q3, q4, q5, q6, q7, q8⟩
  · exact Or.inl ⟨by rw [h1]; exact a, by rw [h0 44 (by omega) (by omega)]; exact b⟩
  · exact Or.inr ⟨by rw [h1]; exact a, by rw [h0 44 (by omega) (by omega)]; exact b, W, n, m, WX_eq (by omega) (fun a _ _ => hk a (by omega)) h4 (fun a h1 _ _ => hk a (by omega)) q1, WK_eq2 (fun j h1 h2 => h0 j (by omega) (by omega)) (fun a h => hk a (by omega)) q2, q3, q4, HL_eq h4 (h0 _ (by omega) (by omega)) q5, SN_eq (hk _ (by omega)) (h0 _ (by omega) (by omega)) (hk _ (by omega)) (hk _ (by omega)) (hk _ (by omega)) (hk _ (by omega)) q6, BK_eq (hk _ (by omega)) (h0 _ (by omega) (by omega)) (hk _ (by omega)) (hk _ (by omega)) q7, q8⟩
theorem BK_le {M : ZM} {o k a n m m' : Nat} (h : m ≤ m') (q : BK M o k a n m) : BK M o k a n m' := ⟨q.1, q.2.1, q.2.2.1, fun r hr => by
  obtain ⟨t, h1, h2⟩ := q.2.2.2 r hr
  exact ⟨t, by omega, h2⟩⟩
theorem LT_eq {M M' : ZM} (h : M'.1 82 = M.1 82) (h' : M'.1 53 = M.1 53) (q : LT M) : LT M' := ⟨fun k hk => by rw [h]; exact q.1 k hk, fun k hk => by rw [h']; exact q.2 k hk⟩
/-- the wheel that is now is another, in both -/
def Gw (M M' : ZM) : Prop := (∀ a, qa a → (a < 2 ∨ 12 ≤ a) → (a < 64 ∨ 74 ≤ a) → M'.1 a = M.1 a) ∧ (∀ j, 4 ≤ j → M'.1 64 j = M.1 64 j) ∧ M'.2.1 = M.2.1 ∧ (∀ a k, a ≠ 26 → M'.2.2.1 a k = M.2.2.1 a k) ∧ M'.2.2.2 = M.2.2.2
theorem Gw.trans {M M' M'' : ZM} (h : Gw M M') (g : Gw M' M'') : Gw M M'' := ⟨fun a q r s => (g.1 a q r s).trans (h.1 a q r s), fun j q => (g.2.1 j q).trans (h.2.1 j q), g.2.2.1.trans h.2.2.1, fun a k q => (g.2.2.2.1 a k q).trans (h.2.2.2.1 a k q), g.2.2.2.2.trans h.2.2.2.2⟩
theorem Gq.w {M M' : ZM} (h : Gq M M') : Gw M M' := ⟨fun a q _ _ => h.1 a q, fun j _ => by rw [h.1 64 (by unfold qa; omega)], h.2.1, h.2.2.1, h.2.2.2⟩
theorem Iv_w {M M' : ZM} {W W' : Wv} {h : Nat} (g : Gw M M') (q : Iv M W h) (x : WX M' 1 W') (m : WM M' W') (b : WBd W') (t : wT W' ≤ 9999) (v : VB W') (c : wM W ≤ wM W') : Iv M' W' h := by
  obtain ⟨q1, q2, q3, q4, q5, q6, q7, ⟨n, q8⟩, ⟨k, q9⟩, ⟨y, q10⟩, q11, q12, q13⟩ := q
  have e : ∀ a, qa a → (a < 2 ∨ 12 ≤ a) → (a < 64 ∨ 74 ≤ a) → M'.1 a = M.1 a := g.1
  refine ⟨x, m, b, t, HL_eq (g.2.2.2.1 _ _ (by omega)) (g.2.1 _ (by omega)) q5, HO_eq (by rw [e 1 (by unfold qa; omega) (by omega) (by omega)]) (g.2.1 _ (by omega)) (g.2.2.2.1 _ _ (by omega)) g.2.2.2.2 q6, IM_eq2 (by rw [e 1 (by unfold qa; omega) (by omega) (by omega)]) (fun j h1 h2 => g.2.1 j (by omega)) (fun a ha => e a (by unfold qa; omega) (by omega) (by omega)) (g.2.2.2.1 _ _ (by omega)) q7, ⟨n, SN_eq ?_ (g.2.1 _ (by omega)) ?_ ?_ ?_ ?_ q8⟩, ⟨k, BK_le c (BK_eq ?_ (g.2.1 _ (by omega)) ?_ ?_ q9)⟩, ⟨y, TX_eq ?_ (g.2.1 _ (by omega)) ?_ ?_ q10⟩, TP_eq ?_ ?_ ?_ ?_ ?_ ?_ q11, AC_eq ?_ (g.2.1 _ (by omega)) ?_ ?_ q12, LT_eq ?_ ?_ q13.1, v⟩
  all_goals first
    | exact e _ (by unfold qa; omega) (by omega) (by omega)
    | (rw [e 48 (by unfold qa; omega) (by omega) (by omega)])
    | (rw [e 54 (by unfold qa; omega) (by omega) (by omega)])
    | (rw [g.2.2.1])
/-- the wheels stay as they are, in both; what else changed is told -/
theorem Iv_o {M M' : ZM} {W : Wv} {h : Nat} (e : ∀ a, (0 < a ∧ a < 12) ∨ (60 ≤ a ∧ a < 64) ∨ (65 ≤ a ∧ a < 74) ∨ (75 ≤ a ∧ a < 81) ∨ a = 82 ∨ a = 53 ∨ 112 ≤ a → M'.1 a = M.1 a) (e0 : ∀ j, j < 15 → M'.1 64 j = M.1 64 j) (r : M'.2.2 = M.2.2) (q : Iv M W h) (i : IM M' h) (s : ∃ n, SN M' 38 37 90 91 n) (b : ∃ n, BK M' 44 41 93 n (wM W)) (x : ∃ n, TX M' n) (t : TP M') (a : AC M') : Iv M' W h := by
  obtain ⟨q1, q2, q3, q4, q5, q6, q7, q8, q9, q10, q11, q12, q13⟩ := q
  refine ⟨WX_eq (by omega) (fun a _ _ => e a (by omega)) (by rw [r]) (fun a _ _ _ => e a (by omega)) q1, ?_, q3, q4, HL_eq (by rw [r]) (e0 _ (by omega)) q5, HO_eq (by rw [e 1 (by omega)]) (e0 _ (by omega)) (by rw [r]) (by rw [r]) q6, i, s, b, x, t, a, LT_eq (e 82 (by omega)) (e 53 (by omega)) q13.1, q13.2⟩
  obtain ⟨q1, q2, q3, q4, q5, q6, q7, q8, q9, q10, q11, q12, q13, q14⟩ := q2
  refine ⟨(e0 0 (by omega)).trans q1, (e0 1 (by omega)).trans q2, (e0 2 (by omega)).trans q3, (e0 3 (by omega)).trans q4, ?_, ?_, ?_, ?_, ?_, ?_, ?_, ?_, ?_, WM14 (e0 14 (by omega)) (fun a h1 h2 => e a (by omega)) q14⟩
  · rw [e 65 (by omega)]; exact q5
  · rw [e 66 (by omega)]; exact q6
  · rw [e 67 (by omega)]; exact q7
  · rw [e 68 (by omega)]; exact q8
  · rw [e 69 (by omega)]; exact q9
  · rw [e 70 (by omega)]; exact q10
  · rw [e 71 (by omega)]; exact q11
  · rw [e 72 (by omega)]; exact q12
  · rw [e 73 (by omega)]; exact q13
theorem op_z {x m : Nat} {as : List ZV} {M : ZM} {W : Wv} {h : Nat} {v : ZV} (hi : Iv M W h) (a : Rt 60 x (zR 8 1 :: as) M M (some v)) (b : Rt 60 m (zR 9 64 :: as) M M (some v)) : ∃ (M1 M2 : ZM) (v : ZV) (W' : Wv) (h' : Nat), Rt 60 x (zR 8 1 :: as) M M1 (some v) ∧ Rt 60 m (zR 9 64 :: as) M1 M2 (some v) ∧ Iv M2 W' h' ∧ h' ≤ 6 := ⟨M, M, v, W, h, a, b, hi, hi.2.2.2.2.2.1.1⟩
theorem rng {lo hi : Nat} (h1 : lo < 2 ^ 31) (h2 : hi < 2 ^ 31) {i : Int32} (h : ¬ i < nI lo ∧ ¬ nI hi < i) : ∃ n, lo ≤ n ∧ n ≤ hi ∧ i = nI n := by
  have e0 : (0 : Int32).toInt = 0 := by decide
  have h0 : ¬ i < 0 := fun q => h.1 (Int32.lt_iff_toInt_lt.mpr (by rw [Int32.lt_iff_toInt_lt] at q; rw [nI_toInt h1]; omega))
  obtain ⟨j, hj, e⟩ := nI_of h0
  rw [e] at h
  exact ⟨j, Nat.le_of_not_lt (fun q => h.1 (nI_lt q h1)), Nat.le_of_not_lt (fun q => h.2 (nI_lt q hj)), e⟩
theorem zu_if {α : Type} {f : Nat → Nat → α} {a s k : Nat} {v : α} : zu f a s v a k = if k = s then v else f a k := by
  by_cases h : k = s
  · rw [h, zu_kk, if_pos rfl]
  · rw [zu_kn h, if_neg h]
/-- the reference's test of a range -/
theorem in_1 {d : Nat} {M : ZM} {a b c : Int32} (h : ¬ a < b ∧ ¬ c < a) : Rt (d + 1) 136 [zR 9 64, zI a, zI b, zI c] M M (some (zI 1)) := by
  have := c9_in (d := d) (M := M) (a := a) (b := b) (c := c)
  rw [decide_eq_true h] at this
  exact this
theorem in_0 {d : Nat} {M : ZM} {a b c : Int32} (h : ¬ (¬ a < b ∧ ¬ c < a)) : Rt (d + 1) 136 [zR 9 64, zI a, zI b, zI c] M M (some (zI 0)) := by
  have := c9_in (d := d) (M := M) (a := a) (b := b) (c := c)
  rw [decide_eq_false h] at this
  exact this
theorem zb1 {b : Bool} : (zb b = 1) = (b = true) := by cases b <;> exact propext (by decide)
theorem zb0 {b : Bool} : (zb b = 0) = (b = false) := by cases b <;> exact propext (by decide)
theorem sz {a b : Int32} (h : a = b) : some (zI a) = some (zI b) := by rw [h]
/-- tapes alone are others -/
theorem Iv_t {M M' : ZM} {W : Wv} {h : Nat} (e : ∀ a, a ≠ 57 → a ≠ 58 → a ≠ 108 → a ≠ 109 → M'.1 a = M.1 a) (r : M'.2.2 = M.2.2) (q : Iv M W h) (t : TP M') : Iv M' W h := by
  obtain ⟨q1, q2, q3, q4, q5, q6, q7, ⟨nS, q8⟩, ⟨nB, q9⟩, ⟨nT, q10⟩, q11, q12, q13⟩ := id q
  have f : ∀ a, a < 57 ∨ (58 < a ∧ a < 108) ∨ 109 < a → M'.1 a = M.1 a := fun a h => e a (by omega) (by omega) (by omega) (by omega)
  exact Iv_o (fun a ha => f a (by omega)) (fun j _ => by rw [f 64 (by omega)]) r q (IM_eq2 (by rw [f 1 (by omega)]) (fun j _ _ => by rw [f 64 (by omega)]) (fun a ha => f a (by omega)) (by rw [r]) q7) ⟨nS, SN_eq (f _ (by omega)) (by rw [f 64 (by omega)]) (f _ (by omega)) (f _ (by omega)) (f _ (by omega)) (f _ (by omega)) q8⟩ ⟨nB, BK_eq (f _ (by omega)) (by rw [f 64 (by omega)]) (f _ (by omega)) (f _ (by omega)) q9⟩ ⟨nT, TX_eq (by rw [f 48 (by omega)]) (by rw [f 64 (by omega)]) (f _ (by omega)) (f _ (by omega)) q10⟩ t (AC_eq (by rw [f 54 (by omega)]) (by rw [f 64 (by omega)]) (f _ (by omega)) (f _ (by omega)) q12)
/-- rows of seen alone are others -/
theorem Iv_s {M M' : ZM} {W : Wv} {h : Nat} (e : ∀ a, a ≠ 38 → a ≠ 39 → a ≠ 40 → a ≠ 90 → a ≠ 91 → a ≠ 64 → M'.1 a = M.1 a) (f : ∀ j, j ≠ 37 → M'.1 64 j = M.1 64 j) (r : M'.2 = M.2) (q : Iv M W h) (t : ∃ n, SN M' 38 37 90 91 n) : Iv M' W h := by
  obtain ⟨q1, q2, q3, q4, q5, q6, q7, ⟨nS, q8⟩, ⟨nB, q9⟩, ⟨nT, q10⟩, q11, q12, q13⟩ := id q
  exact Iv_o (fun a ha => e a (by omega) (by omega) (by omega) (by omega) (by omega) (by omega)) (fun j hj => f j (by omega)) (by rw [r]) q (IM_eq2 (by rw [e 1 (by omega) (by omega) (by omega) (by omega) (by omega) (by omega)]) (fun j h1 h2 => f j (by omega)) (fun a ha => e a (by omega) (by omega) (by omega) (by omega) (by omega) (by omega)) (by rw [r]) q7) t ⟨nB, BK_eq (e _ (by omega) (by omega) (by omega) (by omega) (by omega) (by omega)) (f _ (by omega)) (e _ (by omega) (by omega) (by omega) (by omega) (by omega) (by omega)) (e _ (by omega) (by omega) (by omega) (by omega) (by omega) (by omega)) q9⟩ ⟨nT, TX_eq (by rw [e 48 (by omega) (by omega) (by omega) (by omega) (by omega) (by omega)]) (f _ (by omega)) (e _ (by omega) (by omega) (by omega) (by omega) (by omega) (by omega)) (e _ (by omega) (by omega) (by omega) (by omega) (by omega) (by omega)) q10⟩ (TP_eq (e _ (by omega) (by omega) (by omega) (by omega) (by omega) (by omega)) (e _ (by omega) (by omega) (by omega) (by omega) (by omega) (by omega)) (e _ (by omega) (by omega) (by omega) (by omega) (by omega) (by omega)) (e _ (by omega) (by omega) (by omega) (by omega) (by omega) (by omega)) (by rw [r]) (by rw [r]) q11) (AC_eq (by rw [e 54 (by omega) (by omega) (by omega) (by omega) (by omega) (by omega)]) (f _ (by omega)) (e _ (by omega) (by omega) (by omega) (by omega) (by omega) (by omega)) (e _ (by omega) (by omega) (by omega) (by omega) (by omega) (by omega)) q12)
/-- the book alone is another -/
theorem Iv_b {M M' : ZM} {W : Wv} {h : Nat} (e : ∀ a, a ≠ 44 → a ≠ 45 → a ≠ 93 → a ≠ 64 → M'.1 a = M.1 a) (f : ∀ j, j ≠ 41 → M'.1 64 j = M.1 64 j) (r : M'.2 = M.2) (q : Iv M W h) (t : ∃ n, BK M' 44 41 93 n (wM W)) : Iv M' W h := by
  obtain ⟨q1, q2, q3, q4, q5, q6, q7, ⟨nS, q8⟩, ⟨nB, q9⟩, ⟨nT, q10⟩, q11, q12, q13⟩ := id q
  exact Iv_o (fun a ha => e a (by omega) (by omega) (by omega) (by omega)) (fun j hj => f j (by omega)) (by rw [r]) q (IM_eq2 (by rw [e 1 (by omega) (by omega) (by omega) (by omega)]) (fun j h1 h2 => f j (by omega)) (fun a ha => e a (by omega) (by omega) (by omega) (by omega)) (by rw [r]) q7) ⟨nS, SN_eq (e _ (by omega) (by omega) (by omega) (by omega)) (f _ (by omega)) (e _ (by omega) (by omega) (by omega) (by omega)) (e _ (by omega) (by omega) (by omega) (by omega)) (e _ (by omega) (by omega) (by omega) (by omega)) (e _ (by omega) (by omega) (by omega) (by omega)) q8⟩ t ⟨nT, TX_eq (by rw [e 48 (by omega) (by omega) (by omega) (by omega)]) (f _ (by omega)) (e _ (by omega) (by omega) (by omega) (by omega)) (e _ (by omega) (by omega) (by omega) (by omega)) q10⟩ (TP_eq (e _ (by omega) (by omega) (by omega) (by omega)) (e _ (by omega) (by omega) (by omega) (by omega)) (e _ (by omega) (by omega) (by omega) (by omega)) (e _ (by omega) (by omega) (by omega) (by omega)) (by rw [r]) (by rw [r]) q11) (AC_eq (by rw [e 54 (by omega) (by omega) (by omega) (by omega)]) (f _ (by omega)) (e _ (by omega) (by omega) (by omega) (by omega)) (e _ (by omega) (by omega) (by omega) (by omega)) q12)
/-- the text alone is another -/
theorem Iv_x {M M' : ZM} {W : Wv} {h : Nat} (e : ∀ a, a ≠ 48 → a ≠ 49 → a ≠ 74 → a ≠ 64 → M'.1 a = M.1 a) (f : ∀ j, j ≠ 15 → M'.1 64 j = M.1 64 j) (r : M'.2 = M.2) (q : Iv M W h) (t : ∃ n, TX M' n) : Iv M' W h := by
  obtain ⟨q1, q2, q3, q4, q5, q6, q7, ⟨nS, q8⟩, ⟨nB, q9⟩, ⟨nT, q10⟩, q11, q12, q13⟩ := id q
  exact Iv_o (fun a ha => e a (by omega) (by omega) (by omega) (by omega)) (fun j hj => f j (by omega)) (by rw [r]) q (IM_eq2 (by rw [e 1 (by omega) (by omega) (by omega) (by omega)]) (fun j h1 h2 => f j (by omega)) (fun a ha => e a (by omega) (by omega) (by omega) (by omega)) (by rw [r]) q7) ⟨nS, SN_eq (e _ (by omega) (by omega) (by omega) (by omega)) (f _ (by omega)) (e _ (by omega) (by omega) (by omega) (by omega)) (e _ (by omega) (by omega) (by omega) (by omega)) (e _ (by omega) (by omega) (by omega) (by omega)) (e _ (by omega) (by omega) (by omega) (by omega)) q8⟩ ⟨nB, BK_eq (e _ (by omega) (by omega) (by omega) (by omega)) (f _ (by omega)) (e _ (by omega) (by omega) (by omega) (by omega)) (e _ (by omega) (by omega) (by omega) (by omega)) q9⟩ t (TP_eq (e _ (by omega) (by omega) (by omega) (by omega)) (e _ (by omega) (by omega) (by omega) (by omega)) (e _ (by omega) (by omega) (by omega) (by omega)) (e _ (by omega) (by omega) (by omega) (by omega)) (by rw [r]) (by rw [r]) q11) (AC_eq (by rw [e 54 (by omega) (by omega) (by omega) (by omega)]) (f _ (by omega)) (e _ (by omega) (by omega) (by omega) (by omega)) (e _ (by omega) (by omega) (by omega) (by omega)) q12)
/-- what acts left alone is another -/
theorem Iv_a {M M' : ZM} {W : Wv} {h : Nat} (e : ∀ a, a ≠ 54 → a ≠ 55 → a ≠ 107 → a ≠ 64 → M'.1 a = M.1 a) (f : ∀ j, j ≠ 64 → M'.1 64 j = M.1 64 j) (r : M'.2 = M.2) (q : Iv M W h) (t : AC M') : Iv M' W h := by
  obtain ⟨q1, q2, q3, q4, q5, q6, q7, ⟨nS, q8⟩, ⟨nB, q9⟩, ⟨nT, q10⟩, q11, q12, q13⟩ := id q
  exact Iv_o (fun a ha => e a (by omega) (by omega) (by omega) (by omega)) (fun j hj => f j (by omega)) (by rw [r]) q (IM_eq2 (by rw [e 1 (by omega) (by omega) (by omega) (by omega)]) (fun j h1 h2 => f j (by omega)) (fun a ha => e a (by omega) (by omega) (by omega) (by omega)) (by rw [r]) q7) ⟨nS, SN_eq (e _ (by omega) (by omega) (by omega) (by omega)) (f _ (by omega)) (e _ (by omega) (by omega) (by omega) (by omega)) (e _ (by omega) (by omega) (by omega) (by omega)) (e _ (by omega) (by omega) (by omega) (by omega)) (e _ (by omega) (by omega) (by omega) (by omega)) q8⟩ ⟨nB, BK_eq (e _ (by omega) (by omega) (by omega) (by omega)) (f _ (by omega)) (e _ (by omega) (by omega) (by omega) (by omega)) (e _ (by omega) (by omega) (by omega) (by omega)) q9⟩ ⟨nT, TX_eq (by rw [e 48 (by omega) (by omega) (by omega) (by omega)]) (f _ (by omega)) (e _ (by omega) (by omega) (by omega) (by omega)) (e _ (by omega) (by omega) (by omega) (by omega)) q10⟩ (TP_eq (e _ (by omega) (by omega) (by omega) (by omega)) (e _ (by omega) (by omega) (by omega) (by omega)) (e _ (by omega) (by omega) (by omega) (by omega)) (e _ (by omega) (by omega) (by omega) (by omega)) (by rw [r]) (by rw [r]) q11) t
