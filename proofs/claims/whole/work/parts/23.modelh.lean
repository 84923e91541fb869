/-! The reference: its houses, its wheel -/
def cMt (I : Nat → Nat → Int32) : List Tok → Nat → Prop
  | [], _ => True
  | t :: r, i => I 80 i = tM t ∧ cMt I r (i + 1)
def HMr (I : Nat → Nat → Int32) : Hs → Nat → Prop
  | [], _ => True
  | w :: r, c => I 76 c = nI w.1 ∧ w.1 < 3 ∧ I 77 c = nI w.2.1 ∧ w.2.1 < 100 ∧ (w.1 ≠ 2 → ∃ f, I 78 c = nI f ∧ I 79 c = nI (f + w.2.2.length) ∧ (f + w.2.2.length ≤ 600 ∧ 100 * (c / 10) ≤ f ∧ f + w.2.2.length ≤ 100 * (c / 10) + 100) ∧ cMt I w.2.2 f ∧ hrun w.2.2 0 = some 1) ∧ HMr I r (c + 1)
/-- the reference's house f is the house -/
def HM (I : Nat → Nat → Int32) (f : Nat) (H : Hs) : Prop := I 75 f = nI H.length ∧ H.length ≤ 10 ∧ HMr I H (10 * f)
def WM (M : ZM) (W : Wv) : Prop :=
  M.1 64 0 = nI (wN W) ∧ M.1 64 1 = nI (wP W) ∧ M.1 64 2 = nI (wM W) ∧ M.1 64 3 = nI (wT W) ∧ (∀ k, k < 7 → M.1 65 k = nI (wV W k)) ∧ (∀ k, k < 7 → M.1 66 k = wX W k) ∧ (∀ k, k < 7 → M.1 67 k = wB W k) ∧ (∀ k, k < 7 → M.1 68 k = wK W k) ∧ (∀ k, k < 7 → M.1 69 k = nI (wU W k)) ∧ (∀ k, k < 6 → M.1 70 k = wA W k) ∧ (∀ k, k < 6 → M.1 71 k = nI (wW W k)) ∧ (∀ k, k < 6 → M.1 72 k = wY W k) ∧ (∀ k, k < 6 → M.1 73 k = zb (wC W k)) ∧ ((M.1 64 14 = -1 ∧ wH W = []) ∨ (∃ f, M.1 64 14 = nI f ∧ f < 6 ∧ HM M.1 f (wH W)))
/-- the pile and what is said alone are others -/
def FM (M M' : ZM) : Prop := (∀ a, a ≠ 83 → a ≠ 84 → M'.1 a = M.1 a) ∧ M'.2 = M.2
def FP (M M' : ZM) : Prop := (∀ a, a ≠ 83 → M'.1 a = M.1 a) ∧ M'.2 = M.2
theorem FM.rfl {M : ZM} : FM M M := ⟨fun _ _ _ => Eq.refl _, Eq.refl _⟩
theorem FM.trans {M M' M'' : ZM} (h : FM M M') (g : FM M' M'') : FM M M'' := ⟨fun a q r => (g.1 a q r).trans (h.1 a q r), g.2.trans h.2⟩
theorem FP.rfl {M : ZM} : FP M M := ⟨fun _ _ => Eq.refl _, Eq.refl _⟩
theorem FP.trans {M M' M'' : ZM} (h : FP M M') (g : FP M' M'') : FP M M'' := ⟨fun a q => (g.1 a q).trans (h.1 a q), g.2.trans h.2⟩
theorem FP.m {M M' : ZM} (h : FP M M') : FM M M' := ⟨fun a q _ => h.1 a q, h.2⟩
theorem cMt_eq {I I' : Nat → Nat → Int32} (h : I' 80 = I 80) : ∀ (t : List Tok) (i : Nat), cMt I t i → cMt I' t i
  | [], _, _ => trivial
  | t :: r, i, q => ⟨by rw [h]; exact q.1, cMt_eq h r (i + 1) q.2⟩
theorem HMr_eq {I I' : Nat → Nat → Int32} (h : ∀ a, 75 ≤ a → a < 81 → I' a = I a) : ∀ (l : Hs) (c : Nat), HMr I l c → HMr I' l c
  | [], c, q => trivial
  | w :: r, c, q => by
    unfold HMr at q ⊢
    rw [h 76 (by omega) (by omega), h 77 (by omega) (by omega), h 78 (by omega) (by omega), h 79 (by omega) (by omega)]
    obtain ⟨q1, q2, q3, q4, q5, q6⟩ := q
    refine ⟨q1, q2, q3, q4, fun n => ?_, HMr_eq h r _ q6⟩
    obtain ⟨f, x1, x2, x3, x4, x5⟩ := q5 n
    exact ⟨f, x1, x2, x3, cMt_eq (h 80 (by omega) (by omega)) _ _ x4, x5⟩
theorem WM_eq {M M' : ZM} {W : Wv} (h : ∀ a, 64 ≤ a → a < 81 → M'.1 a = M.1 a) (q : WM M W) : WM M' W := by
  unfold WM HM at q ⊢
  rw [h 64 (by omega) (by omega), h 65 (by omega) (by omega), h 66 (by omega) (by omega), h 67 (by omega) (by omega), h 68 (by omega) (by omega), h 69 (by omega) (by omega), h 70 (by omega) (by omega), h 71 (by omega) (by omega), h 72 (by omega) (by omega), h 73 (by omega) (by omega), h 75 (by omega) (by omega)]
  obtain ⟨q1, q2, q3, q4, q5, q6, q7, q8, q9, q10, q11, q12, q13, q14⟩ := q
  refine ⟨q1, q2, q3, q4, q5, q6, q7, q8, q9, q10, q11, q12, q13, ?_⟩
  rcases q14 with x | ⟨a, x, y, z1, z2, z3⟩
  · exact Or.inl x
  · exact Or.inr ⟨a, x, y, z1, z2, HMr_eq (fun b h1 h2 => h b (by omega) h2) _ _ z3⟩
theorem WM_FM {M M' : ZM} {W : Wv} (h : FM M M') (q : WM M W) : WM M' W := WM_eq (fun a h1 h2 => h.1 a (by omega) (by omega)) q
section MX
variable {d : Nat} {M : ZM} {W : Wv}
theorem c9_seatOf (hW : WM M W) (hB : WBd W) {a : Nat} (ha : a < 7) : Rt (d + 1) 141 [zR 9 64, zI (nI a)] M M (some (zI (nI (sSeat W a)))) := by
  obtain ⟨n0, -, -, n12, -⟩ := hW
  obtain ⟨b1, b2, -, -, b5, -⟩ := hB
  refine ro_rt (g_X9_seatOf ?_)
  rw [n0, n12, nI_add, zrem_nI (by omega) (by omega) (by omega)]
  exact ⟨nI_ne0 (by omega) (by omega), rfl, rfl⟩
theorem l9_whoIn (hW : WM M W) (hB : WBd W) {s : Nat} (hs : s < 7) : ∀ j k, k + j = wP W → A_X9_whoIn_2 (d + 1) M (nI s) (nI k) (fun M' v => M' = M ∧ v = some (zI (zoi (-1) (lfnd (fun a => sSeat W a == s) j k)))) := by
  have n4 := hW.2.1
  have b := hB
  obtain ⟨b1, b2, b3, -, -, -⟩ := hB
  intro j
  induction j with
  | zero =>
    intro k hk
    refine a_X9_whoIn_2 ?_
    rw [n4]
    exact pk_lt k (wP W) (fun h => by omega) (fun _ => ⟨rfl, rfl⟩)
  | succ j ih =>
    intro k hk
    refine a_X9_whoIn_2 ?_
    rw [n4]
    refine pk_lt k (wP W) (fun h => ⟨_, _, c9_seatOf hW b (by omega), ?_⟩) (fun h => by omega)
    have hl := sSeat_lt b k
    refine pk_eq (sSeat W k) s (fun h => ⟨rfl, ?_⟩) (fun h => ?_)
    · unfold lfnd
      rw [if_pos (by simp [h])]
      rfl
    · rw [nI_1]
      unfold lfnd
      rw [if_neg (by simp [h])]
      exact ih (k + 1) (by omega)
theorem c9_whoIn (hW : WM M W) (hB : WBd W) {s : Nat} (hs : s < 7) : Rt (d + 2) 142 [zR 9 64, zI (nI s)] M M (some (zI (zoi (-1) (sSit W s)))) := ro_rt (g_X9_whoIn (l9_whoIn hW hB hs _ 0 (by omega)))
theorem c9_begin (hW : WM M W) : (Rt (d + 1) 167 [zR 9 64] M M (some (zI 0)) ∧ Rt (d + 1) 168 [zR 9 64] M M (some (zI 0)) ∧ wH W = []) ∨ (∃ f, f < 6 ∧ Rt (d + 1) 167 [zR 9 64] M M (some (zI (nI (10 * f)))) ∧ Rt (d + 1) 168 [zR 9 64] M M (some (zI (nI (10 * f + (wH W).length)))) ∧ HM M.1 f (wH W)) := by
  rcases hW.2.2.2.2.2.2.2.2.2.2.2.2.2 with ⟨x, y⟩ | ⟨f, x, y, z⟩
  · refine Or.inl ⟨ro_rt (g_X9_begin ?_), ro_rt (g_X9_behind ?_), y⟩
    · rw [x]
      exact ⟨fun _ => ⟨rfl, rfl⟩, fun h => absurd (by decide) h⟩
    · rw [x]
      exact ⟨fun _ => ⟨rfl, rfl⟩, fun h => absurd (by decide) h⟩
  · refine Or.inr ⟨f, y, ro_rt (g_X9_begin ?_), ro_rt (g_X9_behind ?_), z⟩
    · rw [x]
      refine ⟨fun h => absurd h (nI_pos (by omega)), fun _ => ⟨rfl, ?_⟩⟩
      rw [l_10, pk_mul]
    · rw [x]
      refine ⟨fun h => absurd h (nI_pos (by omega)), fun _ => ⟨in_nI y (by omega), rfl, ?_⟩⟩
      rw [zn_nI (by omega), z.1, l_10, pk_mul, nI_add]
theorem c9_fact (hW : WM M W) (hB : WBd W) {f a m : Nat} (hf : f < 6) (ha : a < 7) : Rt (d + 2) 170 [zR 9 64, zI (nI f), zI (nI a), zI (nI m)] M M (some (zI (sFact W a m f))) := by
  have hl := sSeat_lt hB a
  have b5 := hB.2.2.2.2.1
  refine ro_rt (g_X9_factOf ?_)
  have e3 : zrem (M.1 64 3) 60 = nI (wT W % 60) := by
    rw [hW.2.2.2.1, l_60, zrem_nI (by omega) (by omega) (by omega)]
  rw [e3, zn_nI (by omega), hW.2.2.2.2.2.2.2.1 _ (by omega)]
  match f, hf with
  | 0, _ => exact ⟨fun _ => ⟨rfl, rfl⟩, fun h => absurd rfl h⟩
  | 1, _ => exact ⟨fun h => absurd h (by decide), fun _ => ⟨fun _ => ⟨M, _, c9_seatOf hW hB ha, rfl, rfl⟩, fun h => absurd rfl h⟩⟩
  | 2, _ => exact ⟨fun h => absurd h (by decide), fun _ => ⟨fun h => absurd h (by decide), fun _ => ⟨fun _ => ⟨in_n ha (by omega), rfl, rfl⟩, fun h => absurd rfl h⟩⟩⟩
  | 3, _ => exact ⟨fun h => absurd h (by decide), fun _ => ⟨fun h => absurd h (by decide), fun _ => ⟨fun h => absurd h (by decide), fun _ => ⟨fun _ => ⟨rfl, rfl⟩, fun h => absurd rfl h⟩⟩⟩⟩
  | 4, _ => exact ⟨fun h => absurd h (by decide), fun _ => ⟨fun h => absurd h (by decide), fun _ => ⟨fun h => absurd h (by decide), fun _ => ⟨fun h => absurd h (by decide), fun _ => ⟨fun _ => ⟨rfl, rfl⟩, fun h => absurd rfl h⟩⟩⟩⟩⟩
  | 5, _ =>
    refine ⟨fun h => absurd h (by decide), fun _ => ⟨fun h => absurd h (by decide), fun _ => ⟨fun h => absurd h (by decide), fun _ => ⟨fun h => absurd h (by decide), fun _ => ⟨fun h => absurd h (by decide), fun _ => ⟨M, _, c9_seatOf hW hB ha, in_nI hl (by omega), rfl, ?_⟩⟩⟩⟩⟩⟩
    rw [zn_nI (by omega), hW.2.2.2.2.1 _ (by omega)]
    rfl
end MX
