/-! WHAT HOLDS BETWEEN TWO CALLS -/
/-- what questions leave as it was -/
def qa (a : Nat) : Prop := a < 12 ∨ (13 < a ∧ a < 26) ∨ (37 < a ∧ a < 51) ∨ (52 < a ∧ a < 83) ∨ (89 < a ∧ a ≠ 92 ∧ a ≠ 94)
def Gq (M M' : ZM) : Prop := (∀ a, qa a → M'.1 a = M.1 a) ∧ M'.2.1 = M.2.1 ∧ (∀ a k, a ≠ 26 → M'.2.2.1 a k = M.2.2.1 a k) ∧ M'.2.2.2 = M.2.2.2
theorem Gq.rfl {M : ZM} : Gq M M := ⟨fun _ _ => Eq.refl _, Eq.refl _, fun _ _ _ => Eq.refl _, Eq.refl _⟩
theorem Gq.trans {M M' M'' : ZM} (h : Gq M M') (g : Gq M' M'') : Gq M M'' := ⟨fun a q => (g.1 a q).trans (h.1 a q), g.2.1.trans h.2.1, fun a k q => (g.2.2.1 a k q).trans (h.2.2.1 a k q), g.2.2.2.trans h.2.2.2⟩
theorem FX.q1 {M M' : ZM} (h : FX 1 M M') : Gq M M' := ⟨fun a q => h.1 a (by unfold qa at q; omega) (by unfold qa at q; omega), by rw [h.2], fun _ _ _ => by rw [h.2], by rw [h.2]⟩
theorem FX.q25 {M M' : ZM} (h : FX 25 M M') : Gq M M' := ⟨fun a q => h.1 a (by unfold qa at q; omega) (by unfold qa at q; omega), by rw [h.2], fun _ _ _ => by rw [h.2], by rw [h.2]⟩
theorem FM.q {M M' : ZM} (h : FM M M') : Gq M M' := ⟨fun a q => h.1 a (by unfold qa at q; omega) (by unfold qa at q; omega), by rw [h.2], fun _ _ _ => by rw [h.2], by rw [h.2]⟩
theorem FP.q {M M' : ZM} (h : FP M M') : Gq M M' := h.m.q
/-- an address of a house j that was made -/
def hAd (j : Nat) : Nat := if j = 0 then 60 else 108 + 4 * j
/-- the image, in the reference -/
def WK (M : ZM) (W : Wv) : Prop :=
  M.1 64 46 = nI (wN W) ∧ M.1 64 47 = nI (wP W) ∧ M.1 64 48 = nI (wM W) ∧ M.1 64 49 = nI (wT W) ∧ (∀ k, k < 7 → M.1 95 k = nI (wV W k)) ∧ (∀ k, k < 7 → M.1 96 k = wX W k) ∧ (∀ k, k < 7 → M.1 97 k = wB W k) ∧ (∀ k, k < 7 → M.1 98 k = wK W k) ∧ (∀ k, k < 7 → M.1 99 k = nI (wU W k)) ∧ (∀ k, k < 6 → M.1 100 k = wA W k) ∧ (∀ k, k < 6 → M.1 101 k = nI (wW W k)) ∧ (∀ k, k < 6 → M.1 102 k = wY W k) ∧ (∀ k, k < 6 → M.1 106 k = zb (wC W k)) ∧ ((M.1 64 45 = -1 ∧ wH W = []) ∨ (∃ f, M.1 64 45 = nI f ∧ f < 6 ∧ HM M.1 f (wH W)))
/-- rows of SEEN: where they are told (SeatOn's o, the reference's number cell k and rows a, b) -/
def SN (M : ZM) (o k a b n : Nat) : Prop := n ≤ 8 ∧ M.1 o 0 = nI n ∧ M.1 64 k = nI n ∧ ∀ r, r < n → (∃ p s, p < 7 ∧ s < 7 ∧ M.1 (o + 1) r = nI p ∧ M.1 a r = nI p ∧ M.1 (o + 2) r = nI s ∧ M.1 b r = nI s)
/-- rows of the BOOK -/
def BK (M : ZM) (o k a n m : Nat) : Prop := n ≤ 12 ∧ M.1 o 0 = nI n ∧ M.1 64 k = nI n ∧ ∀ r, r < n → (∃ t, t / 10 < m ∧ t % 10 < 3 ∧ M.1 (o + 1) r = nI t ∧ M.1 a r = nI t)
def TX (M : ZM) (n : Nat) : Prop := n ≤ 100 ∧ M.1 48 0 = nI n ∧ M.1 64 15 = nI n ∧ ∀ r, r < n → (∃ c, c < 128 ∧ M.1 49 r = nI c ∧ M.1 74 r = nI c)
def TP (M : ZM) : Prop := ∀ t, t < 6 → ∃ l, l ≤ 60 ∧ M.1 58 t = nI l ∧ M.1 109 t = nI l ∧ ((M.1 57 t = -1 ∧ M.1 108 t = -1 ∧ l = 0) ∨ (∃ s, s < 5 ∧ M.1 57 t = nI s ∧ M.1 108 t = nI s)) ∧ ∀ i, i < l → M.2.1 59 (60 * t + i) = M.2.1 110 (60 * t + i)
def AC (M : ZM) : Prop := ∃ n, n < 1000 ∧ M.1 54 0 = nI n ∧ M.1 64 64 = nI n ∧ ∀ r, r < n → r < 20 → M.1 55 r = M.1 107 r
/-- which houses hold: in SeatOn the cell (a, 13) holds none or one of the first h, in the reference (64, k) likewise -/
def HL (M : ZM) (a k h : Nat) : Prop := (M.2.2.1 a 13 = 0 ∧ M.1 64 k = -1) ∨ (∃ j, j < h ∧ M.2.2.1 a 13 = hAd j ∧ M.1 64 k = nI j)
def HO (M : ZM) (h : Nat) : Prop := h ≤ 6 ∧ M.1 1 12 = nI h ∧ M.1 64 13 = nI h ∧ M.2.2.1 1 11 = hAd h ∧ M.2.2.2.1 = 112 + 4 * h ∧ M.2.2.2.2.1 ≤ 30000 + 1000 * h
/-- how large votes are, which kinds and persons stand in the wheel -/
def VB (W : Wv) : Prop := (∀ k, wV W k ≤ 3) ∧ (∀ k, ∃ c, c < 7 ∧ wK W k = nI c) ∧ (∀ m, wY W m = -1 ∨ ∃ c, c < 7 ∧ wY W m = nI c)
def IM (M : ZM) (h : Nat) : Prop := (M.1 1 13 = 0 ∧ M.1 64 44 = 0) ∨ (M.1 1 13 = 1 ∧ M.1 64 44 = 1 ∧ ∃ W n m, WX M 13 W ∧ WK M W ∧ WBd W ∧ wT W ≤ 9999 ∧ HL M 14 45 h ∧ SN M 41 50 103 104 n ∧ BK M 46 51 105 m (wM W) ∧ VB W)
/-- what is constant in the reference: the words' letters -/
def LT (M : ZM) : Prop := (∀ k, k < 12 → M.1 82 k = ([108, 105, 107, 101, 108, 111, 97, 116, 104, 116, 105, 101] : List Int32).getD k 0) ∧ ∀ k, k < 7 → M.1 53 k = 0
def Iv (M : ZM) (W : Wv) (h : Nat) : Prop := WX M 1 W ∧ WM M W ∧ WBd W ∧ wT W ≤ 9999 ∧ HL M 2 14 h ∧ HO M h ∧ IM M h ∧ (∃ n, SN M 38 37 90 91 n) ∧ (∃ n, BK M 44 41 93 n (wM W)) ∧ (∃ n, TX M n) ∧ TP M ∧ AC M ∧ LT M ∧ VB W
theorem WX_q {M M' : ZM} {o : Nat} {W : Wv} (ho : o = 1 ∨ o = 13) (g : Gq M M') (q : WX M o W) : WX M' o W :=
  WX_eq (by omega) (fun a h1 h2 => g.1 a (by unfold qa; omega)) (g.2.2.1 _ _ (by omega)) (fun a h1 h2 h3 => g.1 a (by unfold qa; omega)) q
theorem WM_q {M M' : ZM} {W : Wv} (g : Gq M M') (q : WM M W) : WM M' W := WM_eq (fun a h1 h2 => g.1 a (by unfold qa; omega)) q
theorem WK_eq {M M' : ZM} {W : Wv} (h : ∀ a, (64 ≤ a ∧ a < 81) ∨ (95 ≤ a ∧ a < 107) → M'.1 a = M.1 a) (q : WK M W) : WK M' W := by
  unfold WK HM at q ⊢
  rw [h 64 (by omega), h 75 (by omega), h 95 (by omega), h 96 (by omega), h 97 (by omega), h 98 (by omega), h 99 (by omega), h 100 (by omega), h 101 (by omega), h 102 (by omega), h 106 (by omega)]
  obtain ⟨q1, q2, q3, q4, q5, q6, q7, q8, q9, q10, q11, q12, q13, q14⟩ := q
  refine ⟨q1, q2, q3, q4, q5, q6, q7, q8, q9, q10, q11, q12, q13, ?_⟩
  rcases q14 with x | ⟨a, x, y, z1, z2, z3⟩
  · exact Or.inl x
  · exact Or.inr ⟨a, x, y, z1, z2, HMr_eq (fun b h1 h2 => h b (by omega)) _ _ z3⟩
theorem SN_eq {M M' : ZM} {o k a b n : Nat} (h1 : M'.1 o = M.1 o) (h2 : M'.1 64 k = M.1 64 k) (h3 : M'.1 (o + 1) = M.1 (o + 1)) (h4 : M'.1 (o + 2) = M.1 (o + 2)) (h5 : M'.1 a = M.1 a) (h6 : M'.1 b = M.1 b) (q : SN M o k a b n) : SN M' o k a b n := by
  unfold SN at q ⊢
  rw [h1, h2, h3, h4, h5, h6]
  exact q
theorem BK_eq {M M' : ZM} {o k a n m : Nat} (h1 : M'.1 o = M.1 o) (h2 : M'.1 64 k = M.1 64 k) (h3 : M'.1 (o + 1) = M.1 (o + 1)) (h5 : M'.1 a = M.1 a) (q : BK M o k a n m) : BK M' o k a n m := by
  unfold BK at q ⊢
  rw [h1, h2, h3, h5]
  exact q
theorem TX_eq {M M' : ZM} {n : Nat} (h1 : M'.1 48 0 = M.1 48 0) (h2 : M'.1 64 15 = M.1 64 15) (h3 : M'.1 49 = M.1 49) (h5 : M'.1 74 = M.1 74) (q : TX M n) : TX M' n := by
  unfold TX at q ⊢
  rw [h1, h2, h3, h5]
  exact q
theorem TP_eq {M M' : ZM} (h1 : M'.1 57 = M.1 57) (h2 : M'.1 58 = M.1 58) (h3 : M'.1 108 = M.1 108) (h5 : M'.1 109 = M.1 109) (h6 : M'.2.1 59 = M.2.1 59) (h7 : M'.2.1 110 = M.2.1 110) (q : TP M) : TP M' := by
  unfold TP at q ⊢
  rw [h1, h2, h3, h5, h6, h7]
  exact q
theorem AC_eq {M M' : ZM} (h1 : M'.1 54 0 = M.1 54 0) (h2 : M'.1 64 64 = M.1 64 64) (h3 : M'.1 55 = M.1 55) (h5 : M'.1 107 = M.1 107) (q : AC M) : AC M' := by
  unfold AC at q ⊢
  rw [h1, h2, h3, h5]
  exact q
theorem HL_eq {M M' : ZM} {a k h : Nat} (h1 : M'.2.2.1 a 13 = M.2.2.1 a 13) (h2 : M'.1 64 k = M.1 64 k) (q : HL M a k h) : HL M' a k h := by
  unfold HL at q ⊢
  rw [h1, h2]
  exact q
theorem HO_eq {M M' : ZM} {h : Nat} (h1 : M'.1 1 12 = M.1 1 12) (h2 : M'.1 64 13 = M.1 64 13) (h3 : M'.2.2.1 1 11 = M.2.2.1 1 11) (h4 : M'.2.2.2 = M.2.2.2) (q : HO M h) : HO M' h := by
  unfold HO at q ⊢
  rw [h1, h2, h3, h4]
  exact q
theorem IM_eq {M M' : ZM} {h : Nat} (h1 : M'.1 1 13 = M.1 1 13) (hx : ∀ W, WX M 13 W → WX M' 13 W) (hk : ∀ a, (41 ≤ a ∧ a < 44) ∨ (46 ≤ a ∧ a < 48) ∨ (64 ≤ a ∧ a < 81) ∨ (95 ≤ a ∧ a < 107) → M'.1 a = M.1 a) (h4 : M'.2.2.1 14 13 = M.2.2.1 14 13) (q : IM M h) : IM M' h := by
  rcases q with ⟨a, b⟩ | ⟨a, b, W, n, m, q1, q2, q3, q4, q5, q6, q7, q8⟩
  · exact Or.inl ⟨by rw [h1]; exact a, by rw [hk 64 (by omega)]; exact b⟩
  · exact Or.inr ⟨by rw [h1]; exact a, by rw [hk 64 (by omega)]; exact b, W, n, m, hx W q1, WK_eq (fun a h => hk a (by omega)) q2, q3, q4, HL_eq h4 (by rw [hk 64 (by omega)]) q5, SN_eq (hk _ (by omega)) (by rw [hk 64 (by omega)]) (hk _ (by omega)) (hk _ (by omega)) (hk _ (by omega)) (hk _ (by omega)) q6, BK_eq (hk _ (by omega)) (by rw [hk 64 (by omega)]) (hk _ (by omega)) (hk _ (by omega)) q7, q8⟩
theorem Iv_q {M M' : ZM} {W : Wv} {h : Nat} (g : Gq M M') (q : Iv M W h) : Iv M' W h := by
  obtain ⟨q1, q2, q3, q4, q5, q6, q7, ⟨n, q8⟩, ⟨m, q9⟩, ⟨x, q10⟩, q11, q12, q13⟩ := q
  have e : ∀ a, qa a → M'.1 a = M.1 a := g.1
  refine ⟨WX_q (Or.inl rfl) g q1, WM_q g q2, q3, q4, HL_eq (g.2.2.1 _ _ (by omega)) (by rw [e 64 (by unfold qa; omega)]) q5, HO_eq (by rw [e 1 (by unfold qa; omega)]) (by rw [e 64 (by unfold qa; omega)]) (g.2.2.1 _ _ (by omega)) g.2.2.2 q6, IM_eq (by rw [e 1 (by unfold qa; omega)]) (fun W => WX_q (Or.inr rfl) g) (fun a h => e a (by unfold qa; omega)) (g.2.2.1 _ _ (by omega)) q7, ⟨n, SN_eq ?_ ?_ ?_ ?_ ?_ ?_ q8⟩, ⟨m, BK_eq ?_ ?_ ?_ ?_ q9⟩, ⟨x, TX_eq ?_ ?_ ?_ ?_ q10⟩, TP_eq ?_ ?_ ?_ ?_ ?_ ?_ q11, AC_eq ?_ ?_ ?_ ?_ q12, ?_, q13.2⟩
  all_goals first
    | exact e _ (by unfold qa; omega)
    | (rw [e 64 (by unfold qa; omega)])
    | (rw [e 48 (by unfold qa; omega)])
    | (rw [e 54 (by unfold qa; omega)])
    | (rw [g.2.1])
    | (exact ⟨fun k hk => by rw [e 82 (by unfold qa; omega)]; exact q13.1.1 k hk, fun k hk => by rw [e 53 (by unfold qa; omega)]; exact q13.1.2 k hk⟩)
/-- an op's equation: from what holds between calls both answer alike, and it holds again -/
def Op (x m : Nat) (as : List ZV) : Prop := ∀ (M : ZM) (W : Wv) (h : Nat), Iv M W h → ∃ (M1 M2 : ZM) (v : ZV) (W' : Wv) (h' : Nat), Rt 60 x (zR 8 1 :: as) M M1 (some v) ∧ Rt 60 m (zR 9 64 :: as) M1 M2 (some v) ∧ Iv M2 W' h' ∧ h' ≤ 6
