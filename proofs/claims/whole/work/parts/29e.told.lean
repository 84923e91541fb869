/-! The calls: told, taken, stood -/
theorem c8_row {d : Nat} {M : ZM} {w : Nat} (hw : w < 3) : Rt (d + 1) 61 [zR 7 2, zI (nI w)] M M (some (zR 128 (3 + w))) := by
  refine ro_rt (g_X7_rowOfSeats (o := 1) ?_)
  match w, hw with
  | 0, _ => exact ⟨fun _ => ⟨rfl, rfl⟩, fun q => absurd rfl q⟩
  | 1, _ => exact ⟨fun q => absurd q (by decide), fun _ => ⟨fun _ => ⟨rfl, rfl⟩, fun q => absurd rfl q⟩⟩
  | 2, _ => exact ⟨fun q => absurd q (by decide), fun _ => ⟨fun q => absurd q (by decide), fun _ => ⟨rfl, rfl⟩⟩⟩
theorem op_told (i : Int32) : Op 89 173 [zI i] := fun M W h hi => by
  obtain ⟨q1, q2, q3, q4⟩ := id hi
  have b1 := q3.1
  have b2 := q3.2.1
  have x0 : M.1 2 0 = nI (wN W) := q1.1
  have m0 : M.1 64 0 = nI (wN W) := q2.1
  have x12 : M.1 2 12 = nI (wT W) := q1.2.2.2.1
  have m3 : M.1 64 3 = nI (wT W) := q2.2.2.2.1
  have s9 : (9 : Int32) + nI (wN W) = nI (9 + wN W) := nI_add 9 _
  have s19 : (19 : Int32) + nI (wN W) = nI (19 + wN W) := nI_add 19 _
  have s29 : (29 : Int32) + nI (wN W) = nI (29 + wN W) := nI_add 29 _
  have toI : ∀ n : Nat, n < 1000 → (nI n).toInt = n := fun n hn => nI_toInt (by omega)
  -- where no seat is told of
  have out : ∀ v, (¬ (10 ≤ i.toInt ∧ i.toInt ≤ 9 + wN W)) → (¬ (20 ≤ i.toInt ∧ i.toInt ≤ 19 + wN W)) → (¬ (30 ≤ i.toInt ∧ i.toInt ≤ 29 + wN W)) → ((i = 0 → v = nI (wN W)) ∧ (¬ i = 0 → ((i = 1 → v = nI (wT W)) ∧ (¬ i = 1 → (i = 2 → v = nI (hTie (wH W) 0)) ∧ (¬ i = 2 → v = -1))))) → Rt 60 173 [zR 9 64, zI i] M M (some (zI v)) := by
    intro v h1 h2 h3 hv
    have n1 : ¬ (¬ i < 10 ∧ ¬ nI (9 + wN W) < i) := fun q => h1 (by
      have e : (10 : Int32).toInt = 10 := by decide
      rw [Int32.lt_iff_toInt_lt, Int32.lt_iff_toInt_lt, toI _ (by omega), e] at q
      omega)
    have n2 : ¬ (¬ i < 20 ∧ ¬ nI (19 + wN W) < i) := fun q => h2 (by
      have e : (20 : Int32).toInt = 20 := by decide
      rw [Int32.lt_iff_toInt_lt, Int32.lt_iff_toInt_lt, toI _ (by omega), e] at q
      omega)
    have n3 : ¬ (¬ i < 30 ∧ ¬ nI (29 + wN W) < i) := fun q => h3 (by
      have e : (30 : Int32).toInt = 30 := by decide
      rw [Int32.lt_iff_toInt_lt, Int32.lt_iff_toInt_lt, toI _ (by omega), e] at q
      omega)
    refine ro_rt (g_X9_told ?_)
    rw [m0, s9]
    refine ⟨M, _, in_0 n1, fun _ => ?_, z00⟩
    rw [m0, s19]
    refine ⟨M, _, in_0 n2, fun _ => ?_, z00⟩
    rw [m0, s29]
    refine ⟨M, _, in_0 n3, fun _ => ?_, z00⟩
    rw [m0, m3]
    exact ⟨fun q => ⟨rfl, by rw [hv.1 q]⟩, fun q => ⟨fun r => ⟨rfl, by rw [(hv.2 q).1 r]⟩, fun r => ⟨fun s => ⟨M, _, c9_tie (d := 57) q2, rfl, by rw [((hv.2 q).2 r).1 s]⟩, fun s => ⟨rfl, by rw [((hv.2 q).2 r).2 s]⟩⟩⟩⟩
  by_cases i0 : i = 0
  · refine op_z (v := zI (nI (wN W))) hi (ro_rt (g_X8_told ⟨fun _ => ⟨rfl, by rw [x0]⟩, fun q => absurd i0 q⟩)) (out _ ?_ ?_ ?_ ⟨fun _ => rfl, fun q => absurd i0 q⟩)
    all_goals (rw [i0]; have e : (0 : Int32).toInt = 0 := (by decide); rw [e]; omega)
  by_cases i1 : i = 1
  · refine op_z (v := zI (nI (wT W))) hi (ro_rt (g_X8_told ⟨fun q => absurd q i0, fun _ => ⟨fun _ => ⟨rfl, by rw [x12]⟩, fun q => absurd i1 q⟩⟩)) (out _ ?_ ?_ ?_ ⟨fun q => absurd q i0, fun _ => ⟨fun _ => rfl, fun q => absurd i1 q⟩⟩)
    all_goals (rw [i1]; have e : (1 : Int32).toInt = 1 := (by decide); rw [e]; omega)
  by_cases i2 : i = 2
  · refine op_z (v := zI (nI (hTie (wH W) 0))) hi (ro_rt (g_X8_told ⟨fun q => absurd q i0, fun _ => ⟨fun q => absurd q i1, fun _ => ⟨fun _ => ⟨M, _, c7_tie (d := 58) q1, rfl, rfl⟩, fun q => absurd i2 q⟩⟩⟩)) (out _ ?_ ?_ ?_ ⟨fun q => absurd q i0, fun _ => ⟨fun q => absurd q i1, fun _ => ⟨fun _ => rfl, fun q => absurd i2 q⟩⟩⟩)
    all_goals (rw [i2]; have e : (2 : Int32).toInt = 2 := (by decide); rw [e]; omega)
  have no : ((i = 0 → (-1 : Int32) = nI (wN W)) ∧ (¬ i = 0 → ((i = 1 → (-1 : Int32) = nI (wT W)) ∧ (¬ i = 1 → (i = 2 → (-1 : Int32) = nI (hTie (wH W) 0)) ∧ (¬ i = 2 → (-1 : Int32) = -1))))) := ⟨fun q => absurd q i0, fun _ => ⟨fun q => absurd q i1, fun _ => ⟨fun q => absurd q i2, fun _ => rfl⟩⟩⟩
  have t10 : (10 : Int32).toInt = 10 := by decide
  have t39 : (39 : Int32).toInt = 39 := by decide
  by_cases c : ¬ i < 10 ∧ ¬ (39 : Int32) < i
  case neg =>
    refine op_z (v := zI (-1)) hi (ro_rt (g_X8_told ⟨fun q => absurd q i0, fun _ => ⟨fun q => absurd q i1, fun _ => ⟨fun q => absurd q i2, fun _ => ⟨fun _ => ⟨rfl, rfl⟩, fun q => ⟨fun _ => ⟨rfl, rfl⟩, fun r => absurd ⟨q, r⟩ c⟩⟩⟩⟩⟩)) (out _ ?_ ?_ ?_ no)
    all_goals (rw [Int32.lt_iff_toInt_lt, Int32.lt_iff_toInt_lt, t10, t39] at c; omega)
  obtain ⟨a, ha, ha2, ea⟩ := rng (lo := 10) (hi := 39) (by omega) (by omega) c
  have er : zrem i 10 = nI (a % 10) := by rw [ea, l_10, zrem_nI (by omega) (by omega) (by omega)]
  have ed : i / 10 - 1 = nI (a / 10 - 1) := by rw [ea, l_10, pk_div (by omega) (by omega) (by omega)]; exact pk_sub (b := 1) (by omega)
  have ti : i.toInt = a := by rw [ea]; exact toI _ (by omega)
  have k8 : ∀ v M', Rt 59 90 [zR 8 1, zI (nI (a % 10)), zI (nI (a / 10 - 1))] M M' (some (zI v)) → Rt 60 89 [zR 8 1, zI i] M M' (some (zI v)) := fun v M' hr => ro_rt (g_X8_told ⟨fun q => absurd q i0, fun _ => ⟨fun q => absurd q i1, fun _ => ⟨fun q => absurd q i2, fun _ => ⟨fun q => absurd q c.1, fun _ => ⟨fun q => absurd q c.2, fun _ => ⟨M', _, by rw [er, ed]; exact hr, rfl, rfl⟩⟩⟩⟩⟩⟩)
  cases hv : vix (nI (a % 10)) (wN W)
  · have hs : wN W ≤ a % 10 := by
      have := vix_f hv (nI_pos (by omega))
      exact Nat.le_of_not_lt (fun q => this (nI_lt q (by omega)))
    refine op_z (v := zI (-1)) hi (k8 _ _ (ro_rt (g_X8_toldOfSeat ⟨M, _, (c8_isS q1).1 hv, fun _ => ⟨rfl, rfl⟩, z00⟩))) (out _ ?_ ?_ ?_ no)
    all_goals (rw [ti]; omega)
  · obtain ⟨s, hs, es⟩ := vix_t (by omega) hv
    have es' : a % 10 = s := (nI_eq (by omega) (by omega)).mp es
    have zs : zn (nI (a % 10)) = s := by rw [es', zn_nI (by omega)]
    have is : ¬ (nI (a % 10) < 0 ∨ 7 ≤ zn (nI (a % 10))) := in_nI (by omega) (by omega)
    have row : Rt 59 90 [zR 8 1, zI (nI (a % 10)), zI (nI (a / 10 - 1))] M M (some (zI (M.1 (3 + (a / 10 - 1)) s))) := ro_rt (g_X8_toldOfSeat ⟨M, _, (c8_isS q1).2 hv, z10, fun _ => ⟨M, _, c8_row (by omega), by omega, is, rfl, by rw [zs]⟩⟩)
    have f10 : (9 + wN W < a) = ¬ (a < 10 + wN W) := propext (by omega)
    have tt : ∀ b n : Nat, b < 100 → n < 100 → (¬ i < nI b ∧ ¬ nI n < i) = (b ≤ a ∧ a ≤ n) := fun b n hb hn => by
      rw [ea, nI_lte (by omega) (by omega), nI_lte (by omega) (by omega)]
      exact propext (by omega)
    have sub : ∀ b, b ≤ a → b < 100 → i - nI b = nI (a - b) := fun b hb _ => by rw [ea, pk_sub hb]
    by_cases w0 : a < 20
    · have e3 : 3 + (a / 10 - 1) = 3 := by omega
      rw [e3] at row
      refine op_z hi (k8 _ _ row) (ro_rt (g_X9_told ?_))
      rw [m0, s9]
      refine ⟨M, _, in_1 (b := 10) (by rw [show (10 : Int32) = nI 10 from rfl, tt 10 _ (by omega) (by omega)]; omega), z10, fun _ => ?_⟩
      rw [show i - 10 = nI (a - 10) from sub 10 (by omega) (by omega), zn_nI (by omega), show a - 10 = s by omega]
      exact ⟨in_n (by omega) (by omega), rfl, by rw [q2.2.2.2.2.1 s (by omega), show M.1 3 s = _ from q1.2.2.2.2.1 s (by omega)]⟩
    · have i10 : ¬ (¬ i < 10 ∧ ¬ nI (9 + wN W) < i) := by rw [show (10 : Int32) = nI 10 from rfl, tt 10 _ (by omega) (by omega)]; omega
      by_cases w1 : a < 30
      · have e3 : 3 + (a / 10 - 1) = 4 := by omega
        rw [e3] at row
        refine op_z hi (k8 _ _ row) (ro_rt (g_X9_told ?_))
        rw [m0, s9]
        refine ⟨M, _, in_0 i10, fun _ => ?_, z00⟩
        rw [m0, s19]
        refine ⟨M, _, in_1 (b := 20) (by rw [show (20 : Int32) = nI 20 from rfl, tt 20 _ (by omega) (by omega)]; omega), z10, fun _ => ?_⟩
        rw [show i - 20 = nI (a - 20) from sub 20 (by omega) (by omega), zn_nI (by omega), show a - 20 = s by omega]
        exact ⟨in_n (by omega) (by omega), rfl, by rw [q2.2.2.2.2.2.1 s (by omega), show M.1 4 s = _ from q1.2.2.2.2.2.1 s (by omega)]⟩
      · have i20 : ¬ (¬ i < 20 ∧ ¬ nI (19 + wN W) < i) := by rw [show (20 : Int32) = nI 20 from rfl, tt 20 _ (by omega) (by omega)]; omega
        have e3 : 3 + (a / 10 - 1) = 5 := by omega
        rw [e3] at row
        refine op_z hi (k8 _ _ row) (ro_rt (g_X9_told ?_))
        rw [m0, s9]
        refine ⟨M, _, in_0 i10, fun _ => ?_, z00⟩
        rw [m0, s19]
        refine ⟨M, _, in_0 i20, fun _ => ?_, z00⟩
        rw [m0, s29]
        refine ⟨M, _, in_1 (b := 30) (by rw [show (30 : Int32) = nI 30 from rfl, tt 30 _ (by omega) (by omega)]; omega), z10, fun _ => ?_⟩
        rw [show i - 30 = nI (a - 30) from sub 30 (by omega) (by omega), zn_nI (by omega), show a - 30 = s by omega]
        exact ⟨in_n (by omega) (by omega), rfl, by rw [q2.2.2.2.2.2.2.1 s (by omega), show M.1 5 s = _ from q1.2.2.2.2.2.2.1 s (by omega)]⟩
/-- the kind above -/
def kAb : Nat → Option Nat
  | 0 => none
  | 1 => some 0
  | 2 => some 0
  | 3 => some 0
  | 4 => some 1
  | 5 => some 2
  | _ => some 3
def kUn : Nat → Option Nat → Nat → Bool
  | 0, _, _ => false
  | _ + 1, none, _ => false
  | f + 1, some a, b => if a = b then true else kUn f (kAb a) b
theorem kAb_lt {a c : Nat} (h : kAb a = some c) : c < 7 := by
  unfold kAb at h
  split at h <;> cases h <;> omega
theorem kAb_ABOVE : ∀ a, a < 7 → (zCA 11).getD a 0 = zoi (-1) (kAb a) := by decide
theorem l8_under {d b i0 : Nat} {M : ZM} (hb : b < 7) : ∀ (f k : Nat) (a : Option Nat), k + f = 7 → (∀ c, a = some c → c < 7) → A_X8_isUnder_4 d M (nI i0) (nI b) (zoi (-1) a) (nI k) (fun M' v => M' = M ∧ v = some (zI (zb (kUn f a b)))) := by
  intro f
  induction f with
  | zero =>
    intro k a hk ha
    refine a_X8_isUnder_4 ⟨fun q => absurd q (nI_nlt (b := 7) (by omega) (by omega)), fun _ => ⟨rfl, ?_⟩⟩
    cases a <;> rfl
  | succ f ih =>
    intro k a hk ha
    refine a_X8_isUnder_4 ⟨fun _ => ?_, fun q => absurd (nI_lt (b := 7) (by omega) (by omega)) q⟩
    cases a with
    | none => exact ⟨fun _ => ⟨rfl, rfl⟩, fun q => absurd (by decide) q⟩
    | some a =>
      have ha7 := ha a rfl
      refine ⟨fun q => absurd q (nI_pos (n := a) (by omega)), fun _ => ⟨fun q => ⟨rfl, ?_⟩, fun q => ⟨in_nI (n := a) (by omega) (by omega), ?_⟩⟩⟩
      · unfold kUn
        rw [if_pos ((nI_eq (by omega) (by omega)).mp q)]
        rfl
      · have hq : ¬ a = b := fun e => q (by rw [e]; rfl)
        show A_X8_isUnder_4 d M _ _ ((zCA 11).getD (zn (nI a)) 0) _ _
        rw [zn_nI (by omega), kAb_ABOVE a ha7, nI_1]
        unfold kUn
        rw [if_neg hq]
        exact ih (k + 1) (kAb a) (by omega) (fun c hc => kAb_lt hc)
theorem kUn_is : ∀ a, a < 7 → ∀ b, b < 7 → kUn 7 (some a) b = decide (b = 0 ∨ a = b ∨ (b = 1 ∧ a = 4) ∨ (b = 2 ∧ a = 5) ∨ (b = 3 ∧ a = 6)) := by decide
theorem op_taken (i k : Int32) : Op 120 227 [zI i, zI k] := fun M W h hi => by
  obtain ⟨q1, q2, q3, q4⟩ := id hi
  have V := hi.2.2.2.2.2.2.2.2.2.2.2.2.2
  have c7 : (k < 7) = ¬ ((6 : Int32) < k) := by
    have h6 : (6 : Int32).toInt = 6 := by decide
    have h7 : (7 : Int32).toInt = 7 := by decide
    rw [Int32.lt_iff_toInt_lt, Int32.lt_iff_toInt_lt, h6, h7]
    exact propext (by omega)
  by_cases c : ¬ k < 0 ∧ ¬ (6 : Int32) < k
  case neg => exact op_z (v := zI (-2)) hi (ro_rt (g_X8_taken ⟨fun _ => ⟨rfl, rfl⟩, fun q => ⟨fun r => absurd ⟨q, by rw [c7] at r; exact r⟩ c, fun _ => ⟨rfl, rfl⟩⟩⟩)) (ro_rt (g_X9_taken ⟨M, _, in_0 c, fun _ => ⟨rfl, rfl⟩, z00⟩))
  have c7' : k < 7 := by rw [c7]; exact c.2
  cases hv : vix i (wP W)
  · exact op_z (v := zI (-11)) hi (ro_rt (g_X8_taken ⟨fun q => absurd q c.1, fun _ => ⟨fun _ => ⟨M, _, (c8_isP q1).1 hv, fun _ => ⟨rfl, rfl⟩, z00⟩, fun q => absurd c7' q⟩⟩)) (ro_rt (g_X9_taken ⟨M, _, in_1 c, z10, fun _ => ⟨M, _, (c9_isP q2 q3).1 hv, fun _ => ⟨rfl, rfl⟩, z00⟩⟩))
  have b2 := q3.2.1
  have b3 := q3.2.2.1
  obtain ⟨p, hp, ep⟩ := vix_t (by omega) hv
  have zp : zn i = p := by rw [ep]; exact zn_nI (by omega)
  have ip : ¬ (i < 0 ∨ 7 ≤ zn i) := by rw [zp, ep]; exact in_n (by omega) (by omega)
  obtain ⟨a, ha, ea⟩ := V.2.1 p
  obtain ⟨b, _, hb, eb⟩ := rng (lo := 0) (hi := 6) (by omega) (by omega) c
  have x6 : M.1 6 (zn i) = nI a := by rw [zp, ← ea]; exact q1.2.2.2.2.2.2.2.1 p (by omega)
  have y6 : M.1 68 (zn i) = nI a := by rw [zp, ← ea]; exact q2.2.2.2.2.2.2.2.1 p (by omega)
  have un : Rt 59 121 [zI (nI a), zI (nI b)] M M (some (zI (zb (kUn 7 (some a) b)))) := ro_rt (g_X8_isUnder (l8_under (by omega) 7 0 (some a) (by omega) (fun c hc => by cases hc; exact ha)))
  rw [kUn_is a ha b (by omega)] at un
  refine op_z (v := zI (if b = 0 ∨ a = b ∨ (b = 1 ∧ a = 4) ∨ (b = 2 ∧ a = 5) ∨ (b = 3 ∧ a = 6) then nI a else -12)) hi (ro_rt (g_X8_taken ⟨fun q => absurd q c.1, fun _ => ⟨fun _ => ⟨M, _, (c8_isP q1).2 hv, z10, fun _ => ⟨ip, ?_⟩⟩, fun q => absurd c7' q⟩⟩)) (ro_rt (g_X9_taken ⟨M, _, in_1 c, z10, fun _ => ⟨M, _, (c9_isP q2 q3).2 hv, z10, fun _ => ⟨ip, ?_⟩⟩⟩))
  · rw [x6, eb]
    refine ⟨M, _, un, fun q => ⟨rfl, ?_⟩, fun q => ⟨rfl, ?_⟩⟩
    · rw [zb0] at q
      rw [if_neg (of_decide_eq_false q)]
    · have q' : decide (b = 0 ∨ a = b ∨ (b = 1 ∧ a = 4) ∨ (b = 2 ∧ a = 5) ∨ (b = 3 ∧ a = 6)) = true := by
        rw [zb0] at q
        exact eq_true_of_ne_false q
      rw [if_pos (of_decide_eq_true q')]
  · have e0 : (nI b = 0) = (b = 0) := nI_z (by omega)
    have e1 : (nI b = 1) = (b = 1) := nI_1e (by omega)
    have e2 : (nI b = 2) = (b = 2) := nI_eqe (b := 2) (by omega) (by omega)
    have e3 : (nI b = 3) = (b = 3) := nI_eqe (b := 3) (by omega) (by omega)
    have f4 : (nI a = 4) = (a = 4) := nI_eqe (b := 4) (by omega) (by omega)
    have f5 : (nI a = 5) = (a = 5) := nI_eqe (b := 5) (by omega) (by omega)
    have f6 : (nI a = 6) = (a = 6) := nI_eqe (b := 6) (by omega) (by omega)
    have fb : (nI a = nI b) = (a = b) := nI_eqe (by omega) (by omega)
    rw [y6, eb, e0, e1, e2, e3, f4, f5, f6, fb]
    repeat' first
      | (refine And.intro rfl ?_; rw [if_pos (by omega)]; done)
      | (refine And.intro rfl ?_; rw [if_neg (by omega)]; done)
      | (exfalso; omega)
      | refine And.intro (fun q => ?_) (fun q => ?_)
/-- whether the first could have been at a turn: rows as the memory tells them -/
def sFit (P S : Nat → Int32) (N t : Int32) (b : Int32) : Nat → Nat → Bool
  | 0, _ => true
  | j + 1, k => if nI k = b then sFit P S N t b j (k + 1) else if zrem (P k + t + nI k) N = S k then sFit P S N t b j (k + 1) else false
theorem sFit_congr {P S P' S' : Nat → Int32} {N t b : Int32} : ∀ j k, (∀ r, r < k + j → P r = P' r ∧ S r = S' r) → sFit P S N t b j k = sFit P' S' N t b j k
  | 0, _, _ => rfl
  | j + 1, k, h => by
    unfold sFit
    rw [(h k (by omega)).1, (h k (by omega)).2, sFit_congr j (k + 1) (fun r hr => h r (by omega))]
section ST
variable {d n : Nat} {M : ZM} {W : Wv}
theorem l5_fits (hn : n ≤ 8) (h0 : M.1 38 0 = nI n) {t N b : Int32} (hN : ¬ N = 0) : ∀ j k, k + j = n → A_X5_fits_9 d 37 M t N b (nI k) (fun M' v => M' = M ∧ v = some (zI (zb (sFit (M.1 39) (M.1 40) N t b j k)))) := by
  intro j
  induction j with
  | zero =>
    intro k hk
    refine a_X5_fits_9 ?_
    rw [show M.1 (37 + 1) 0 = nI n from h0]
    exact ⟨fun q => absurd q (nI_nlt (by omega) (by omega)), fun _ => ⟨rfl, rfl⟩⟩
  | succ j ih =>
    intro k hk
    refine a_X5_fits_9 ?_
    rw [show M.1 (37 + 1) 0 = nI n from h0, nI_1, zn_nI (by omega)]
    have ih' := ih (k + 1) (by omega)
    unfold sFit
    refine ⟨fun _ => ⟨fun q => ?_, fun q => ⟨in_n (by omega) (by omega), hN, in_n (by omega) (by omega), fun r => ?_, fun r => ⟨rfl, ?_⟩⟩⟩, fun q => absurd (nI_lt (by omega) (by omega)) q⟩
    · rw [if_pos q]; exact ih'
    · rw [if_neg q, if_pos r]; exact ih'
    · rw [if_neg q, if_neg r]; rfl
theorem l9_fits (hn : n ≤ 8) (h0 : M.1 64 37 = nI n) {t N b : Int32} (hN : ¬ N = 0) (hm : M.1 64 0 = N) : ∀ j k, k + j = n → A_X9_couldBe_2 d M t b (nI k) (fun M' v => M' = M ∧ v = some (zI (zb (sFit (M.1 90) (M.1 91) N t b j k)))) := by
  intro j
  induction j with
  | zero =>
    intro k hk
    refine a_X9_couldBe_2 ?_
    rw [h0]
    exact ⟨fun q => absurd q (nI_nlt (by omega) (by omega)), fun _ => ⟨rfl, rfl⟩⟩
  | succ j ih =>
    intro k hk
    refine a_X9_couldBe_2 ?_
    rw [h0, hm, nI_1, zn_nI (by omega)]
    have ih' := ih (k + 1) (by omega)
    unfold sFit
    refine ⟨fun _ => ⟨fun q => ?_, fun q => ⟨in_n (by omega) (by omega), hN, in_n (by omega) (by omega), fun r => ?_, fun r => ⟨rfl, ?_⟩⟩⟩, fun q => absurd (nI_lt (by omega) (by omega)) q⟩
    · rw [if_pos q]; exact ih'
    · rw [if_neg q, if_pos r]; exact ih'
    · rw [if_neg q, if_neg r]; rfl
/-- what both sides say: T t b whether all but row b fit the turn t -/
def sT (M : ZM) (n N : Nat) (b : Int32) (t : Nat) : Bool := sFit (M.1 39) (M.1 40) (nI N) (nI t) b n 0
theorem c5_fits (hs : SN M 38 37 90 91 n) {t N : Nat} {b : Int32} (h2 : 2 ≤ N) (h7 : N ≤ 7) : Rt (d + 1) 47 [zR 5 38, zI (nI t), zI (nI N), zI b] M M (some (zI (zb (sT M n N b t)))) := by
  refine ro_rt (g_X5_fits (o := 37) ⟨fun _ => l5_fits hs.1 hs.2.1 (nI_ne0 (by omega) (by omega)) n 0 (by omega), fun q => absurd (nI_lt (a := 0) (by omega) (by omega)) q⟩)
theorem c9_fits (hs : SN M 38 37 90 91 n) {t N : Nat} {b : Int32} (hm : M.1 64 0 = nI N) (h2 : 2 ≤ N) (h7 : N ≤ 7) : Rt (d + 1) 206 [zR 9 64, zI (nI t), zI b] M M (some (zI (zb (sT M n N b t)))) := by
  have e : sT M n N b t = sFit (M.1 90) (M.1 91) (nI N) (nI t) b n 0 := sFit_congr n 0 (fun r hr => by
    obtain ⟨p, s, h1, h2, h3, h4, h5, h6⟩ := hs.2.2.2 r (by omega)
    exact ⟨h3.trans h4.symm, h5.trans h6.symm⟩)
  rw [e]
  exact ro_rt (g_X9_couldBe (l9_fits hs.1 hs.2.2.1 (nI_ne0 (by omega) (by omega)) hm n 0 (by omega)))
theorem l5_turns (hs : SN M 38 37 90 91 n) {N : Nat} (h2 : 2 ≤ N) (h7 : N ≤ 7) : ∀ j k a, k + j = N → A_X5_turns_4 (d + 1) 37 M (nI N) (nI a) (nI k) (fun M' v => M' = M ∧ v = some (zI (nI (a + lsum (fun t => if sT M n N (-1) t = true then 1 else 0) j k)))) := by
  intro j
  induction j with
  | zero =>
    intro k a hk
    exact a_X5_turns_4 ⟨fun q => absurd q (nI_nlt (by omega) (by omega)), fun _ => ⟨rfl, rfl⟩⟩
  | succ j ih =>
    intro k a hk
    refine a_X5_turns_4 ⟨fun _ => ⟨M, _, c5_fits hs h2 h7, ?_⟩, fun q => absurd (nI_lt (by omega) (by omega)) q⟩
    rw [zb0, nI_1, nI_1]
    unfold lsum
    refine ⟨fun q => ?_, fun q => ?_⟩
    · rw [if_neg (by rw [q]; decide), Nat.zero_add]; exact ih (k + 1) a (by omega)
    · rw [if_pos (eq_true_of_ne_false q), ← Nat.add_assoc]; exact ih (k + 1) (a + 1) (by omega)
theorem l9_many (hs : SN M 38 37 90 91 n) {N : Nat} {b : Int32} (hm : M.1 64 0 = nI N) (h2 : 2 ≤ N) (h7 : N ≤ 7) : ∀ j k a, k + j = N → A_X9_manyStood_4 (d + 1) M b (nI a) (nI k) (fun M' v => M' = M ∧ v = some (zI (nI (a + lsum (fun t => if sT M n N b t = true then 1 else 0) j k)))) := by
  intro j
  induction j with
  | zero =>
    intro k a hk
    refine a_X9_manyStood_4 ?_
    rw [hm]
    exact ⟨fun q => absurd q (nI_nlt (by omega) (by omega)), fun _ => ⟨rfl, rfl⟩⟩
  | succ j ih =>
    intro k a hk
    refine a_X9_manyStood_4 ?_
    rw [hm]
    refine ⟨fun _ => ⟨M, _, c9_fits hs hm h2 h7, ?_⟩, fun q => absurd (nI_lt (by omega) (by omega)) q⟩
    have z0 : nI a + 0 = nI a := by rw [l_0, nI_add]; rfl
    rw [zb0, nI_1, nI_1, z0]
    unfold lsum
    refine ⟨fun q => ?_, fun q => ?_⟩
    · rw [if_neg (by rw [q]; decide), Nat.zero_add]; exact ih (k + 1) a (by omega)
    · rw [if_pos (eq_true_of_ne_false q), ← Nat.add_assoc]; exact ih (k + 1) (a + 1) (by omega)
theorem l5_first (hs : SN M 38 37 90 91 n) {N : Nat} {b : Int32} (h2 : 2 ≤ N) (h7 : N ≤ 7) : ∀ j k, k + j = N → A_X5_firstTurn_2 (d + 1) 37 M (nI N) b (nI k) (fun M' v => M' = M ∧ v = some (zI (zoi (-5) (lfnd (sT M n N b) j k)))) := by
  intro j
  induction j with
  | zero =>
    intro k hk
    exact a_X5_firstTurn_2 ⟨fun q => absurd q (nI_nlt (by omega) (by omega)), fun _ => ⟨rfl, rfl⟩⟩
  | succ j ih =>
    intro k hk
    refine a_X5_firstTurn_2 ⟨fun _ => ⟨M, _, c5_fits hs h2 h7, ?_⟩, fun q => absurd (nI_lt (by omega) (by omega)) q⟩
    rw [zb0, nI_1]
    refine ⟨fun q => ?_, fun q => ⟨rfl, ?_⟩⟩
    · rw [lfnd_n q]; exact ih (k + 1) (by omega)
    · rw [lfnd_p (eq_true_of_ne_false q)]; rfl
theorem l9_first (hs : SN M 38 37 90 91 n) {N : Nat} {i r : Int32} (hm : M.1 64 0 = nI N) (h2 : 2 ≤ N) (h7 : N ≤ 7) : ∀ j k, k + j = N → A_X9_stood_31 (d + 1) M i r (nI k) (fun M' v => M' = M ∧ v = some (zI (zoi (-5) (lfnd (sT M n N (-1)) j k)))) := by
  intro j
  induction j with
  | zero =>
    intro k hk
    refine a_X9_stood_31 ?_
    rw [hm]
    exact ⟨fun q => absurd q (nI_nlt (by omega) (by omega)), fun _ => ⟨rfl, rfl⟩⟩
  | succ j ih =>
    intro k hk
    refine a_X9_stood_31 ?_
    rw [hm]
    refine ⟨fun _ => ⟨M, _, c9_fits hs hm h2 h7, ?_⟩, fun q => absurd (nI_lt (by omega) (by omega)) q⟩
    rw [zb0, nI_1]
    refine ⟨fun q => ?_, fun q => ⟨rfl, ?_⟩⟩
    · rw [lfnd_n q]; exact ih (k + 1) (by omega)
    · rw [lfnd_p (eq_true_of_ne_false q)]; rfl
theorem lfnd_sum (P : Nat → Bool) : ∀ j k, lfnd P j k = none ↔ lsum (fun t => if P t = true then 1 else 0) j k = 0
  | 0, _ => ⟨fun _ => rfl, fun _ => rfl⟩
  | j + 1, k => by
    have ih := lfnd_sum P j (k + 1)
    have e : lsum (fun t => if P t = true then 1 else 0) (j + 1) k = (if P k = true then 1 else 0) + lsum (fun t => if P t = true then 1 else 0) j (k + 1) := rfl
    cases h : P k
    · rw [lfnd_n h, ih, e, if_neg (by rw [h]; decide), Nat.zero_add]
    · rw [lfnd_p h, e, if_pos h]
      exact ⟨fun q => (by cases q), fun q => (by omega)⟩
/-- whether it fits without a row -/
def sW (M : ZM) (n N r : Nat) : Bool := (lfnd (sT M n N (nI r)) N 0).isSome
theorem zoi5 {o : Option Nat} (h : ∀ a, o = some a → a < 100) : (zoi (-5) o = -5) = (o = none) := by
  cases o with
  | none => exact propext ⟨fun _ => rfl, fun _ => rfl⟩
  | some a =>
    have := h a rfl
    show (nI a = -5) = _
    rw [nI_m5 (by omega)]
    exact propext ⟨fun q => q.elim, fun q => by cases q⟩
theorem l5_false (hs : SN M 38 37 90 91 n) {N : Nat} (h2 : 2 ≤ N) (h7 : N ≤ 7) : ∀ j k, k + j = n → A_X5_falseRow_16 (d + 2) 37 M (nI N) (nI k) (fun M' v => M' = M ∧ v = some (zI (zoi (-5) (lfnd (sW M n N) j k)))) := by
  have hn := hs.1
  have h0 : M.1 (37 + 1) 0 = nI n := hs.2.1
  intro j
  induction j with
  | zero =>
    intro k hk
    refine a_X5_falseRow_16 ?_
    rw [h0]
    exact ⟨fun q => absurd q (nI_nlt (by omega) (by omega)), fun _ => ⟨rfl, rfl⟩⟩
  | succ j ih =>
    intro k hk
    refine a_X5_falseRow_16 ?_
    rw [h0]
    refine ⟨fun _ => ⟨M, _, ro_rt (g_X5_firstTurn (o := 37) (l5_first hs h2 h7 N 0 (by omega))), ?_⟩, fun q => absurd (nI_lt (by omega) (by omega)) q⟩
    rw [zoi5 (fun a ha => by have := (lfnd_lt ha).2.1; omega), nI_1]
    refine ⟨fun q => ?_, fun q => ⟨rfl, ?_⟩⟩
    · rw [lfnd_n (by unfold sW; rw [q]; rfl)]; exact ih (k + 1) (by omega)
    · rw [lfnd_p (by unfold sW; exact Option.isSome_iff_ne_none.mpr q)]; rfl
theorem l9_false (hs : SN M 38 37 90 91 n) {N : Nat} {i : Int32} (hm : M.1 64 0 = nI N) (h2 : 2 ≤ N) (h7 : N ≤ 7) : ∀ j k, k + j = n → A_X9_stood_61 (d + 2) M i 0 (nI k) (fun M' v => M' = M ∧ v = some (zI (zoi (-5) (lfnd (sW M n N) j k)))) := by
  have hn := hs.1
  have h0 := hs.2.2.1
  intro j
  induction j with
  | zero =>
    intro k hk
    refine a_X9_stood_61 ?_
    rw [h0]
    exact ⟨fun q => absurd q (nI_nlt (by omega) (by omega)), fun _ => ⟨rfl, rfl⟩⟩
  | succ j ih =>
    intro k hk
    refine a_X9_stood_61 ?_
    rw [h0]
    refine ⟨fun _ => ⟨fun _ => ⟨M, _, ro_rt (g_X9_manyStood (l9_many hs hm h2 h7 N 0 0 (by omega))), ?_⟩, fun q => absurd rfl q⟩, fun q => absurd (nI_lt (by omega) (by omega)) q⟩
    have hl := lsum_le (f := fun t => if sT M n N (nI k) t = true then 1 else 0) (c := 1) (fun t => by show (if _ then 1 else 0) ≤ 1; split <;> omega) N 0
    rw [nI_zlt (by omega), nI_1, Nat.zero_add]
    have key := lfnd_sum (sT M n N (nI k)) N 0
    refine ⟨fun q => ⟨rfl, ?_⟩, fun q => ?_⟩
    · rw [lfnd_p (by unfold sW; exact Option.isSome_iff_ne_none.mpr (fun e => by rw [key] at e; omega))]; rfl
    · rw [lfnd_n (by unfold sW; rw [key.mpr (by omega)]; rfl)]; exact ih (k + 1) (by omega)
theorem op_stood (i : Int32) : Op 110 208 [zI i] := fun M W h hi => by
  obtain ⟨q1, q2, q3, q4, q5, q6, q7, ⟨n, hs⟩, q9⟩ := id hi
  have b1 := q3.1
  have b2 := q3.2.1
  have x0 : M.1 2 0 = nI (wN W) := q1.1
  have m0 : M.1 64 0 = nI (wN W) := q2.1
  have many : Rt 59 207 [zR 9 64, zI (-1)] M M (some (zI (nI (0 + lsum (fun t => if sT M n (wN W) (-1) t = true then 1 else 0) (wN W) 0)))) := ro_rt (g_X9_manyStood (l9_many hs m0 b1 b2 (wN W) 0 0 (by omega)))
  rw [Nat.zero_add] at many
  have e01 : ¬ (1 : Int32) = 0 := by decide
  have e20 : ¬ (2 : Int32) = 0 := by decide
  have e21 : ¬ (2 : Int32) = 1 := by decide
  by_cases i0 : i = 0
  · subst i0
    have t := l5_turns (d := 57) hs b1 b2 (wN W) 0 0 (by omega)
    rw [Nat.zero_add] at t
    refine op_z hi (ro_rt (g_X8_stood ⟨fun _ => ⟨M, _, by rw [x0]; exact ro_rt (g_X5_turns (o := 37) t), rfl, rfl⟩, fun q => absurd rfl q⟩)) (ro_rt (g_X9_stood ⟨M, _, in_1 (by decide), z10, fun _ => ⟨M, _, many, fun _ => ⟨rfl, rfl⟩, fun q => absurd rfl q⟩⟩))
  by_cases i1 : i = 1
  · subst i1
    refine op_z hi (ro_rt (g_X8_stood ⟨fun q => absurd q e01, fun _ => ⟨fun _ => ⟨M, _, by rw [x0]; exact ro_rt (g_X5_firstTurn (o := 37) (l5_first hs b1 b2 (wN W) 0 (by omega))), rfl, rfl⟩, fun q => absurd rfl q⟩⟩)) (ro_rt (g_X9_stood ⟨M, _, in_1 (by decide), z10, fun _ => ⟨M, _, many, fun q => absurd q e01, fun _ => ⟨fun _ => l9_first hs m0 b1 b2 (wN W) 0 (by omega), fun q => absurd rfl q⟩⟩⟩))
  by_cases i2 : i = 2
  · subst i2
    have hn := hs.1
    have key := lfnd_sum (sT M n (wN W) (-1)) (wN W) 0
    have hlt : ∀ a, lfnd (sT M n (wN W) (-1)) (wN W) 0 = some a → a < 100 := fun a ha => by have := (lfnd_lt ha).2.1; omega
    have x8 : ∀ v, Rt 59 46 [zR 5 38, zI (nI (wN W))] M M (some (zI v)) → Rt 60 110 [zR 8 1, zI 2] M M (some (zI v)) := fun v hr => ro_rt (g_X8_stood ⟨fun q => absurd q e20, fun _ => ⟨fun q => absurd q e21, fun _ => ⟨fun _ => ⟨M, _, by rw [x0]; exact hr, rfl, rfl⟩, fun q => absurd rfl q⟩⟩⟩)
    cases hf : lfnd (sT M n (wN W) (-1)) (wN W) 0 with
    | none =>
      rw [key.mp hf] at many
      have fr := ro_rt (g_X5_firstTurn (o := 37) (l5_first (d := 56) (b := -1) hs b1 b2 (wN W) 0 (by omega)))
      rw [hf] at fr
      refine op_z hi (x8 _ (ro_rt (g_X5_falseRow (o := 37) ⟨M, _, fr, fun _ => l5_false (d := 56) hs b1 b2 n 0 (by omega), fun q => absurd rfl q⟩))) (ro_rt (g_X9_stood ⟨M, _, in_1 (by decide), z10, fun _ => ⟨M, _, many, fun q => absurd q e20, fun _ => ⟨fun q => absurd q e21, fun _ => l9_false hs m0 b1 b2 n 0 (by omega)⟩⟩⟩))
    | some a =>
      have ha := hlt a hf
      have fr := ro_rt (g_X5_firstTurn (o := 37) (l5_first (d := 56) (b := -1) hs b1 b2 (wN W) 0 (by omega)))
      rw [hf] at fr
      have hne : ¬ lsum (fun t => if sT M n (wN W) (-1) t = true then 1 else 0) (wN W) 0 = 0 := fun e => by
        have := key.mpr e
        rw [hf] at this
        cases this
      have hl := lsum_le (f := fun t => if sT M n (wN W) (-1) t = true then 1 else 0) (c := 1) (fun t => by show (if _ then 1 else 0) ≤ 1; split <;> omega) (wN W) 0
      refine op_z (v := zI (-5)) hi (x8 _ (ro_rt (g_X5_falseRow (o := 37) ⟨M, _, fr, fun q => absurd q (by show ¬ (nI a = -5); rw [nI_m5 (by omega)]; exact id), fun _ => ⟨rfl, rfl⟩⟩))) (ro_rt (g_X9_stood ⟨M, _, in_1 (by decide), z10, fun _ => ⟨M, _, many, fun q => absurd q e20, fun _ => ⟨fun q => absurd q e21, fun _ => a_X9_stood_61 ⟨fun _ => ⟨fun q => absurd q (nI_ne0 (by omega) (by omega)), fun _ => ⟨rfl, rfl⟩⟩, fun _ => ⟨rfl, rfl⟩⟩⟩⟩⟩))
  have cc : ¬ (¬ i < 0 ∧ ¬ (2 : Int32) < i) := fun q => by
    obtain ⟨a, _, ha, ea⟩ := rng (lo := 0) (hi := 2) (by omega) (by omega) q
    match a, ha with
    | 0, _ => exact i0 ea
    | 1, _ => exact i1 ea
    | 2, _ => exact i2 ea
  exact op_z (v := zI (-1)) hi (ro_rt (g_X8_stood ⟨fun q => absurd q i0, fun _ => ⟨fun q => absurd q i1, fun _ => ⟨fun q => absurd q i2, fun _ => ⟨rfl, rfl⟩⟩⟩⟩)) (ro_rt (g_X9_stood ⟨M, _, in_0 cc, fun _ => ⟨rfl, rfl⟩, z00⟩))
end ST
