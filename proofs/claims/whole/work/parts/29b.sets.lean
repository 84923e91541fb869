/-! The calls: seats, seat, person, matter -/
def wNu (W : Wv) (n : Nat) : Wv := (n, W.2)
def wPe (W : Wv) (k : Int32) (v : Nat) : Wv := (wN W, wP W + 1, wM W, wT W, wV W, wX W, wB W, (fun j => if j = wP W then k else wK W j), (fun j => if j = wP W then v else wU W j), wA W, wW W, wY W, wC W, wH W)
def wMa (W : Wv) (a : Int32) (w : Nat) (y : Int32) : Wv := (wN W, wP W, wM W + 1, wT W, wV W, wX W, wB W, wK W, wU W, (fun j => if j = wM W then a else wA W j), (fun j => if j = wM W then w else wW W j), (fun j => if j = wM W then y else wY W j), (fun j => if j = wM W then false else wC W j), wH W)
def wVe (W : Wv) (f : Nat → Int32) : Wv := (wN W, wP W, wM W, wT W, wV W, f, wB W, wK W, wU W, wA W, wW W, wY W, wC W, wH W)
def wBr (W : Wv) (f : Nat → Int32) : Wv := (wN W, wP W, wM W, wT W, wV W, wX W, f, wK W, wU W, wA W, wW W, wY W, wC W, wH W)
theorem op_seats (i : Int32) : Op 80 143 [zI i] := fun M W h hi => by
  have X := hi.1
  have Mo := hi.2.1
  have T := hi.2.2.2.1
  have V := hi.2.2.2.2.2.2.2.2.2.2.2.2.2
  obtain ⟨b1, b2, b3, b4, b5, b6, b7, b8⟩ := hi.2.2.1
  have x0 : M.1 2 0 = nI (wN W) := X.1
  have x4 : M.1 2 4 = nI (wP W) := X.2.1
  have m1 : M.1 64 1 = nI (wP W) := Mo.2.1
  by_cases c : ¬ i < 2 ∧ ¬ (7 : Int32) < i
  case neg => exact op_z (v := zI (-2)) hi (ro_rt (g_X8_seats ⟨fun _ => ⟨rfl, rfl⟩, fun q => ⟨fun _ => ⟨rfl, rfl⟩, fun r => absurd ⟨q, r⟩ c⟩⟩)) (ro_rt (g_X9_seats ⟨M, _, in_0 c, fun _ => ⟨rfl, rfl⟩, z00⟩))
  obtain ⟨n, h1, h2, e⟩ := rng (lo := 2) (hi := 7) (by omega) (by omega) c
  by_cases p : i < nI (wP W)
  · exact op_z (v := zI (-3)) hi (ro_rt (g_X8_seats ⟨fun q => absurd q c.1, fun _ => ⟨fun q => absurd q c.2, fun _ => by rw [x4]; exact ⟨fun _ => ⟨rfl, rfl⟩, fun q => absurd p q⟩⟩⟩)) (ro_rt (g_X9_seats ⟨M, _, in_1 c, z10, fun _ => by rw [m1]; exact ⟨fun _ => ⟨rfl, rfl⟩, fun q => absurd p q⟩⟩))
  have hp : wP W ≤ n := Nat.le_of_not_lt (fun q => p (by rw [e]; exact nI_lt q (by omega)))
  have m0 : zu M.1 2 0 i 64 0 = nI (wN W) := Mo.1
  obtain ⟨q1, q2, q3, q4, q5, q6, q7, q8, q9, q10, q11, q12, q13, q14⟩ := X
  obtain ⟨r1, r2, r3, r4, r5, r6, r7, r8, r9, r10, r11, r12, r13, r14⟩ := Mo
  refine ⟨(zu M.1 2 0 i, M.2), (zu (zu M.1 2 0 i) 64 0 i, M.2), zI (nI (wN W)), wNu W n, h, ro_rt (g_X8_seats ⟨fun q => absurd q c.1, fun _ => ⟨fun q => absurd q c.2, fun _ => by rw [x4]; exact ⟨fun q => absurd q p, fun _ => ⟨rfl, by rw [x0]⟩⟩⟩⟩), ro_rt (g_X9_seats ⟨_, _, in_1 c, z10, fun _ => ⟨fun q => absurd (by rw [← m1]; exact q) p, fun _ => ⟨rfl, sz m0⟩⟩⟩), Iv_w ⟨fun a _ r s => (zu_ne (by omega)).trans (zu_ne (by omega)), fun j hj => zu_kn (by omega), rfl, fun _ _ _ => rfl, rfl⟩ hi ⟨e, q2, q3, q4, q5, q6, q7, q8, q9, q10, q11, q12, q13, WX14 (M := M) rfl (fun a ha => (zu_ne (by omega)).trans (zu_ne (by omega))) q14⟩ ⟨e, r2, r3, r4, r5, r6, r7, r8, r9, r10, r11, r12, r13, WM14 (M := M) rfl (fun a _ _ => (zu_ne (by omega)).trans (zu_ne (by omega))) r14⟩ ⟨h1, h2, hp, b4, b5, b6, b7, b8⟩ T V (Nat.le_refl _), hi.2.2.2.2.2.1.1⟩
theorem op_seat (i k n : Int32) : Op 81 144 [zI i, zI k, zI n] := fun M W h hi => by
  have X := hi.1
  have Mo := hi.2.1
  have B := hi.2.2.1
  have T := hi.2.2.2.1
  have V := hi.2.2.2.2.2.2.2.2.2.2.2.2.2
  cases hv : vix i (wN W)
  · exact op_z (v := zI (-1)) hi (ro_rt (g_X8_seat ⟨M, _, (c8_isS X).1 hv, fun _ => ⟨rfl, rfl⟩, z00⟩)) (ro_rt (g_X9_seat ⟨M, _, (c9_isS Mo B).1 hv, fun _ => ⟨rfl, rfl⟩, z00⟩))
  by_cases c : ¬ k < 0 ∧ ¬ (2 : Int32) < k
  case neg => exact op_z (v := zI (-1)) hi (ro_rt (g_X8_seat ⟨M, _, (c8_isS X).2 hv, z10, fun _ => ⟨fun _ => ⟨rfl, rfl⟩, fun q => ⟨fun _ => ⟨rfl, rfl⟩, fun r => absurd ⟨q, r⟩ c⟩⟩⟩)) (ro_rt (g_X9_seat ⟨M, _, (c9_isS Mo B).2 hv, z10, fun _ => ⟨M, _, in_0 c, fun _ => ⟨rfl, rfl⟩, z00⟩⟩))
  have b2 := B.2.1
  obtain ⟨s, hs, es⟩ := vix_t (by omega) hv
  have zs : zn i = s := by rw [es]; exact zn_nI (by omega)
  have is : ¬ (i < 0 ∨ 7 ≤ zn i) := by rw [es]; exact in_nI (by omega) (by omega)
  obtain ⟨w, _, w2, ew⟩ := rng (lo := 0) (hi := 2) (by omega) (by omega) c
  obtain ⟨b1, -, b3, b4, b5, b6, b7, b8⟩ := B
  have B := hi.2.2.1
  obtain ⟨q1, q2, q3, q4, q5, q6, q7, q8, q9, q10, q11, q12, q13, q14⟩ := hi.1
  obtain ⟨r1, r2, r3, r4, r5, r6, r7, r8, r9, r10, r11, r12, r13, r14⟩ := hi.2.1
  match w, w2, ew with
  | 0, _, ew =>
    replace ew : k = 0 := ew
    subst ew
    by_cases c2 : ¬ n < 0 ∧ ¬ (3 : Int32) < n
    case neg => exact op_z (v := zI (-2)) hi (ro_rt (g_X8_seat ⟨M, _, (c8_isS X).2 hv, z10, fun _ => ⟨fun q => absurd q c.1, fun _ => ⟨fun q => absurd q c.2, fun _ => ⟨fun _ => ⟨rfl, rfl⟩, fun q => ⟨fun _ => ⟨fun _ => ⟨rfl, rfl⟩, fun r => absurd ⟨q, r⟩ c2⟩, fun q => absurd rfl q⟩⟩⟩⟩⟩)) (ro_rt (g_X9_seat ⟨M, _, (c9_isS Mo B).2 hv, z10, fun _ => ⟨M, _, in_1 c, z10, fun _ => ⟨fun _ => ⟨M, _, in_0 c2, fun _ => ⟨rfl, rfl⟩, z00⟩, fun q => absurd rfl q⟩⟩⟩))
    obtain ⟨a, _, ha, ea⟩ := rng (lo := 0) (hi := 3) (by omega) (by omega) c2
    have v1 : M.1 3 (zn i) = nI (wV W s) := by rw [zs]; exact q5 s (by omega)
    have v2 : zu M.1 3 (zn i) n 65 (zn i) = nI (wV W s) := by rw [zs]; exact r5 s (by omega)
    have f : ∀ k, (∀ j, wV W j ≤ k) → a ≤ k → ∀ j, (if j = s then a else wV W j) ≤ k := fun k h1 h2 j => by split; exact h2; exact h1 j
    have g : ∀ j, j < 7 → (if j = s then nI a else nI (wV W j)) = nI (if j = s then a else wV W j) := fun j _ => by split <;> rfl
    refine ⟨(zu M.1 3 (zn i) n, M.2), (zu (zu M.1 3 (zn i) n) 65 (zn i) n, M.2), zI (nI (wV W s)), wVo W (fun j => if j = s then a else wV W j), h, ro_rt (g_X8_seat ⟨M, _, (c8_isS X).2 hv, z10, fun _ => ⟨fun q => absurd q c.1, fun _ => ⟨fun q => absurd q c.2, fun _ => ⟨fun q => absurd q c2.1, fun _ => ⟨fun _ => ⟨fun q => absurd q c2.2, fun _ => ⟨M, 3, ro_rt (g_X7_rowOfSeats (o := 1) ⟨fun _ => ⟨rfl, rfl⟩, fun q => absurd rfl q⟩), by omega, by omega, by omega, is, by omega, by omega, is, rfl, sz v1⟩⟩, fun q => absurd rfl q⟩⟩⟩⟩⟩), ?_, ?_, hi.2.2.2.2.2.1.1⟩
    · have X1 : WX (zu M.1 3 (zn i) n, M.2) 1 (wVo W (fun j => if j = s then a else wV W j)) := ⟨q1, q2, q3, q4, fun j hj => by show _ = nI (if j = s then a else wV W j); rw [← g j hj, ← ea, ← q5 j hj, zs]; exact zu_if, q6, q7, q8, q9, q10, q11, q12, q13, WX14 (M := M) rfl (fun a ha => zu_ne (by omega)) q14⟩
      have M1 : WM (zu M.1 3 (zn i) n, M.2) W := WM_eq (fun a _ _ => zu_ne (by omega)) Mo
      exact ro_rt (g_X9_seat ⟨_, _, (c9_isS M1 B).2 hv, z10, fun _ => ⟨_, _, in_1 c, z10, fun _ => ⟨fun _ => ⟨_, _, in_1 c2, z10, fun _ => ⟨fun _ => ⟨is, fun _ => ⟨is, rfl, sz v2⟩, fun q => absurd rfl q⟩, fun q => absurd rfl q⟩⟩, fun q => absurd rfl q⟩⟩⟩)
    · exact Iv_w ⟨fun a _ r s => (zu_ne (by omega)).trans (zu_ne (by omega)), fun j hj => rfl, rfl, fun _ _ _ => rfl, rfl⟩ hi ⟨q1, q2, q3, q4, fun j hj => by show _ = nI (if j = s then a else wV W j); rw [← g j hj, ← ea, ← q5 j hj, zs]; exact zu_if, q6, q7, q8, q9, q10, q11, q12, q13, WX14 (M := M) rfl (fun a ha => (zu_ne (by omega)).trans (zu_ne (by omega))) q14⟩ ⟨r1, r2, r3, r4, fun j hj => by show _ = nI (if j = s then a else wV W j); rw [← g j hj, ← ea, ← r5 j hj, zs]; exact zu_if, r6, r7, r8, r9, r10, r11, r12, r13, WM14 (M := M) rfl (fun a _ _ => (zu_ne (by omega)).trans (zu_ne (by omega))) r14⟩ ⟨b1, b2, b3, b4, b5, f 4 b6 (by omega), b7, b8⟩ T ⟨f 3 V.1 ha, V.2⟩ (Nat.le_refl _)
  | 1, _, ew =>
    replace ew : k = 1 := ew
    subst ew
    by_cases c2 : ¬ n < 0 ∧ ¬ (1 : Int32) < n
    case neg => exact op_z (v := zI (-2)) hi (ro_rt (g_X8_seat ⟨M, _, (c8_isS X).2 hv, z10, fun _ => ⟨fun q => absurd q c.1, fun _ => ⟨fun q => absurd q c.2, fun _ => ⟨fun _ => ⟨rfl, rfl⟩, fun q => ⟨z10, fun _ => ⟨fun _ => ⟨rfl, rfl⟩, fun r => absurd ⟨q, r⟩ c2⟩⟩⟩⟩⟩⟩)) (ro_rt (g_X9_seat ⟨M, _, (c9_isS Mo B).2 hv, z10, fun _ => ⟨M, _, in_1 c, z10, fun _ => ⟨z10, fun _ => ⟨M, _, in_0 c2, fun _ => ⟨rfl, rfl⟩, z00⟩⟩⟩⟩))
    have v1 : M.1 4 (zn i) = wX W s := by rw [zs]; exact q6 s (by omega)
    have v2 : zu M.1 4 (zn i) n 66 (zn i) = wX W s := by rw [zs]; exact r6 s (by omega)
    refine ⟨(zu M.1 4 (zn i) n, M.2), (zu (zu M.1 4 (zn i) n) 66 (zn i) n, M.2), zI (wX W s), wVe W (fun j => if j = s then n else wX W j), h, ro_rt (g_X8_seat ⟨M, _, (c8_isS X).2 hv, z10, fun _ => ⟨fun q => absurd q c.1, fun _ => ⟨fun q => absurd q c.2, fun _ => ⟨fun q => absurd q c2.1, fun _ => ⟨z10, fun _ => ⟨fun q => absurd q c2.2, fun _ => ⟨M, 4, ro_rt (g_X7_rowOfSeats (o := 1) ⟨z10, fun _ => ⟨fun _ => ⟨rfl, rfl⟩, fun q => absurd rfl q⟩⟩), by omega, by omega, by omega, is, by omega, by omega, is, rfl, sz v1⟩⟩⟩⟩⟩⟩⟩), ?_, ?_, hi.2.2.2.2.2.1.1⟩
    · have M1 : WM (zu M.1 4 (zn i) n, M.2) W := WM_eq (fun a _ _ => zu_ne (by omega)) Mo
      exact ro_rt (g_X9_seat ⟨_, _, (c9_isS M1 B).2 hv, z10, fun _ => ⟨_, _, in_1 c, z10, fun _ => ⟨z10, fun _ => ⟨_, _, in_1 c2, z10, fun _ => ⟨z10, fun _ => ⟨fun _ => ⟨is, z10, fun _ => ⟨fun _ => ⟨is, rfl, sz v2⟩, fun q => absurd rfl q⟩⟩, fun q => absurd rfl q⟩⟩⟩⟩⟩⟩)
    · exact Iv_w ⟨fun a _ r s => (zu_ne (by omega)).trans (zu_ne (by omega)), fun j hj => rfl, rfl, fun _ _ _ => rfl, rfl⟩ hi ⟨q1, q2, q3, q4, q5, fun j hj => by show _ = (if j = s then n else wX W j); rw [← q6 j hj, zs]; exact zu_if, q7, q8, q9, q10, q11, q12, q13, WX14 (M := M) rfl (fun a ha => (zu_ne (by omega)).trans (zu_ne (by omega))) q14⟩ ⟨r1, r2, r3, r4, r5, fun j hj => by show _ = (if j = s then n else wX W j); rw [← r6 j hj, zs]; exact zu_if, r7, r8, r9, r10, r11, r12, r13, WM14 (M := M) rfl (fun a _ _ => (zu_ne (by omega)).trans (zu_ne (by omega))) r14⟩ ⟨b1, b2, b3, b4, b5, b6, b7, b8⟩ T V (Nat.le_refl _)
  | 2, _, ew =>
    replace ew : k = 2 := ew
    subst ew
    have e20 : ¬ (2 : Int32) = 0 := by decide
    have e21 : ¬ (2 : Int32) = 1 := by decide
    by_cases c2 : ¬ n < 0 ∧ ¬ (1 : Int32) < n
    case neg => exact op_z (v := zI (-2)) hi (ro_rt (g_X8_seat ⟨M, _, (c8_isS X).2 hv, z10, fun _ => ⟨fun q => absurd q c.1, fun _ => ⟨fun q => absurd q c.2, fun _ => ⟨fun _ => ⟨rfl, rfl⟩, fun q => ⟨fun q => absurd q e20, fun _ => ⟨fun _ => ⟨rfl, rfl⟩, fun r => absurd ⟨q, r⟩ c2⟩⟩⟩⟩⟩⟩)) (ro_rt (g_X9_seat ⟨M, _, (c9_isS Mo B).2 hv, z10, fun _ => ⟨M, _, in_1 c, z10, fun _ => ⟨fun q => absurd q e20, fun _ => ⟨M, _, in_0 c2, fun _ => ⟨rfl, rfl⟩, z00⟩⟩⟩⟩))
    have v1 : M.1 5 (zn i) = wB W s := by rw [zs]; exact q7 s (by omega)
    have v2 : zu M.1 5 (zn i) n 67 (zn i) = wB W s := by rw [zs]; exact r7 s (by omega)
    refine ⟨(zu M.1 5 (zn i) n, M.2), (zu (zu M.1 5 (zn i) n) 67 (zn i) n, M.2), zI (wB W s), wBr W (fun j => if j = s then n else wB W j), h, ro_rt (g_X8_seat ⟨M, _, (c8_isS X).2 hv, z10, fun _ => ⟨fun q => absurd q c.1, fun _ => ⟨fun q => absurd q c.2, fun _ => ⟨fun q => absurd q c2.1, fun _ => ⟨fun q => absurd q e20, fun _ => ⟨fun q => absurd q c2.2, fun _ => ⟨M, 5, ro_rt (g_X7_rowOfSeats (o := 1) ⟨fun q => absurd q e20, fun _ => ⟨fun q => absurd q e21, fun _ => ⟨rfl, rfl⟩⟩⟩), by omega, by omega, by omega, is, by omega, by omega, is, rfl, sz v1⟩⟩⟩⟩⟩⟩⟩), ?_, ?_, hi.2.2.2.2.2.1.1⟩
    · have M1 : WM (zu M.1 5 (zn i) n, M.2) W := WM_eq (fun a _ _ => zu_ne (by omega)) Mo
      exact ro_rt (g_X9_seat ⟨_, _, (c9_isS M1 B).2 hv, z10, fun _ => ⟨_, _, in_1 c, z10, fun _ => ⟨fun q => absurd q e20, fun _ => ⟨_, _, in_1 c2, z10, fun _ => ⟨fun q => absurd q e20, fun _ => ⟨fun q => absurd q e21, fun _ => ⟨is, fun q => absurd q e20, fun _ => ⟨fun q => absurd q e21, fun _ => ⟨is, rfl, sz v2⟩⟩⟩⟩⟩⟩⟩⟩⟩)
    · exact Iv_w ⟨fun a _ r s => (zu_ne (by omega)).trans (zu_ne (by omega)), fun j hj => rfl, rfl, fun _ _ _ => rfl, rfl⟩ hi ⟨q1, q2, q3, q4, q5, q6, fun j hj => by show _ = (if j = s then n else wB W j); rw [← q7 j hj, zs]; exact zu_if, q8, q9, q10, q11, q12, q13, WX14 (M := M) rfl (fun a ha => (zu_ne (by omega)).trans (zu_ne (by omega))) q14⟩ ⟨r1, r2, r3, r4, r5, r6, fun j hj => by show _ = (if j = s then n else wB W j); rw [← r7 j hj, zs]; exact zu_if, r8, r9, r10, r11, r12, r13, WM14 (M := M) rfl (fun a _ _ => (zu_ne (by omega)).trans (zu_ne (by omega))) r14⟩ ⟨b1, b2, b3, b4, b5, b6, b7, b8⟩ T V (Nat.le_refl _)
theorem op_person (i k : Int32) : Op 82 145 [zI i, zI k] := fun M W h hi => by
  have T := hi.2.2.2.1
  have V := hi.2.2.2.2.2.2.2.2.2.2.2.2.2
  obtain ⟨b1, b2, b3, b4, b5, b6, b7, b8⟩ := hi.2.2.1
  obtain ⟨q1, q2, q3, q4, q5, q6, q7, q8, q9, q10, q11, q12, q13, q14⟩ := hi.1
  obtain ⟨r1, r2, r3, r4, r5, r6, r7, r8, r9, r10, r11, r12, r13, r14⟩ := hi.2.1
  have c7 : (i < 7) = ¬ ((6 : Int32) < i) := by
    have h6 : (6 : Int32).toInt = 6 := by decide
    have h7 : (7 : Int32).toInt = 7 := by decide
    rw [Int32.lt_iff_toInt_lt, Int32.lt_iff_toInt_lt, h6, h7]
    exact propext (by omega)
  by_cases c : ¬ i < 0 ∧ ¬ (6 : Int32) < i
  case neg => exact op_z (v := zI (-1)) hi (ro_rt (g_X8_person ⟨fun _ => ⟨rfl, rfl⟩, fun q => ⟨fun r => absurd ⟨q, by rw [c7] at r; exact r⟩ c, fun _ => ⟨rfl, rfl⟩⟩⟩)) (ro_rt (g_X9_person ⟨M, _, in_0 c, fun _ => ⟨rfl, rfl⟩, z00⟩))
  have c7' : i < 7 := by rw [c7]; exact c.2
  by_cases c2 : ¬ k < 0 ∧ ¬ (9 : Int32) < k
  case neg => exact op_z (v := zI (-2)) hi (ro_rt (g_X8_person ⟨fun q => absurd q c.1, fun _ => ⟨fun _ => ⟨fun _ => ⟨rfl, rfl⟩, fun q => ⟨fun _ => ⟨rfl, rfl⟩, fun r => absurd ⟨q, r⟩ c2⟩⟩, fun q => absurd c7' q⟩⟩)) (ro_rt (g_X9_person ⟨M, _, in_1 c, z10, fun _ => ⟨M, _, in_0 c2, fun _ => ⟨rfl, rfl⟩, z00⟩⟩))
  obtain ⟨a, _, ha, ea⟩ := rng (lo := 0) (hi := 6) (by omega) (by omega) c
  obtain ⟨v, _, hv, ev⟩ := rng (lo := 0) (hi := 9) (by omega) (by omega) c2
  have x4 : M.1 2 4 = nI (wP W) := q2
  have x0 : M.1 2 0 = nI (wN W) := q1
  have i7 : wP W < wN W → ¬ (nI (wP W) < 0 ∨ 7 ≤ zn (nI (wP W))) := fun q => in_nI (by omega) (by omega)
  have zp : zn (nI (wP W)) = wP W := zn_nI (by omega)
  by_cases p : wP W < wN W
  · refine ⟨(zu (zu (zu M.1 6 (wP W) i) 7 (wP W) k) 2 4 (nI (wP W + 1)), M.2), (zu (zu (zu (zu (zu (zu M.1 6 (wP W) i) 7 (wP W) k) 2 4 (nI (wP W + 1))) 68 (wP W) i) 69 (wP W) k) 64 1 (nI (wP W + 1)), M.2), zI (nI (wP W)), wPe W i v, h, ro_rt (g_X8_person ⟨fun q => absurd q c.1, fun _ => ⟨fun _ => ⟨fun q => absurd q c2.1, fun _ => ⟨fun q => absurd q c2.2, fun _ => ?_⟩⟩, fun q => absurd c7' q⟩⟩), ro_rt (g_X9_person ⟨_, _, in_1 c, z10, fun _ => ⟨_, _, in_1 c2, z10, fun _ => ?_⟩⟩), ?_, hi.2.2.2.2.2.1.1⟩
    · rw [x4, x0, nI_1, zp]
      exact ⟨fun _ => ⟨in_n (by omega) (by omega), in_n (by omega) (by omega), rfl, rfl⟩, fun q => absurd (nI_lt p (by omega)) q⟩
    · have y1 : (zu (zu (zu M.1 6 (wP W) i) 7 (wP W) k) 2 4 (nI (wP W + 1))) 64 1 = nI (wP W) := r2
      have y0 : (zu (zu (zu M.1 6 (wP W) i) 7 (wP W) k) 2 4 (nI (wP W + 1))) 64 0 = nI (wN W) := r1
      dsimp only
      rw [y1, y0, nI_1, zp]
      exact ⟨fun q => absurd ((nI_eq (by omega) (by omega)).mp q) (by omega), fun _ => ⟨in_n (by omega) (by omega), in_n (by omega) (by omega), rfl, by rw [nI_pred]⟩⟩
    · refine Iv_w ⟨fun a _ r s => ?_, fun j hj => zu_kn (by omega), rfl, fun _ _ _ => rfl, rfl⟩ hi ⟨q1, rfl, q3, q4, q5, q6, q7, fun j hj => ?_, fun j hj => ?_, q10, q11, q12, q13, WX14 (M := M) rfl (fun a ha => ?_) q14⟩ ⟨r1, rfl, r3, r4, r5, r6, r7, fun j hj => ?_, fun j hj => ?_, r10, r11, r12, r13, WM14 (M := M) rfl (fun a _ _ => ?_) r14⟩ ⟨b1, b2, p, b4, b5, b6, fun j => ?_, b8⟩ T ⟨V.1, fun j => ?_, V.2.2⟩ (Nat.le_refl _)
      · exact (zu_ne (by omega)).trans ((zu_ne (by omega)).trans ((zu_ne (by omega)).trans ((zu_ne (by omega)).trans ((zu_ne (by omega)).trans (zu_ne (by omega))))))
      · show _ = (if j = wP W then i else wK W j)
        rw [← q8 j hj]; exact zu_if
      · show _ = nI (if j = wP W then v else wU W j)
        refine Eq.trans (b := if j = wP W then k else M.1 7 j) zu_if ?_
        split
        · exact ev
        · exact q9 j hj
      · exact (zu_ne (by omega)).trans ((zu_ne (by omega)).trans ((zu_ne (by omega)).trans ((zu_ne (by omega)).trans ((zu_ne (by omega)).trans (zu_ne (by omega))))))
      · show _ = (if j = wP W then i else wK W j)
        rw [← r8 j hj]; exact zu_if
      · show _ = nI (if j = wP W then v else wU W j)
        refine Eq.trans (b := if j = wP W then k else M.1 69 j) zu_if ?_
        split
        · exact ev
        · exact r9 j hj
      · exact (zu_ne (by omega)).trans ((zu_ne (by omega)).trans ((zu_ne (by omega)).trans ((zu_ne (by omega)).trans ((zu_ne (by omega)).trans (zu_ne (by omega))))))
      · show (if j = wP W then v else wU W j) ≤ 9
        split
        · exact hv
        · exact b7 j
      · show ∃ c, c < 7 ∧ (if j = wP W then i else wK W j) = nI c
        split
        · exact ⟨a, by omega, ea⟩
        · exact V.2.1 j
  · refine op_z (v := zI (-4)) hi (ro_rt (g_X8_person ⟨fun q => absurd q c.1, fun _ => ⟨fun _ => ⟨fun q => absurd q c2.1, fun _ => ⟨fun q => absurd q c2.2, fun _ => ?_⟩⟩, fun q => absurd c7' q⟩⟩)) (ro_rt (g_X9_person ⟨_, _, in_1 c, z10, fun _ => ⟨_, _, in_1 c2, z10, fun _ => ?_⟩⟩))
    · rw [x4, x0]
      exact ⟨fun q => absurd ((nI_ltI (by omega) (by omega)).mp q) p, fun _ => ⟨rfl, rfl⟩⟩
    · rw [r2, r1]
      exact ⟨fun _ => ⟨rfl, rfl⟩, fun q => absurd (congrArg nI (by omega)) q⟩
theorem op_matter (i k y : Int32) : Op 85 148 [zI i, zI k, zI y] := fun M W h hi => by
  have T := hi.2.2.2.1
  have V := hi.2.2.2.2.2.2.2.2.2.2.2.2.2
  have B := hi.2.2.1
  obtain ⟨b1, b2, b3, b4, b5, b6, b7, b8⟩ := hi.2.2.1
  obtain ⟨q1, q2, q3, q4, q5, q6, q7, q8, q9, q10, q11, q12, q13, q14⟩ := hi.1
  obtain ⟨r1, r2, r3, r4, r5, r6, r7, r8, r9, r10, r11, r12, r13, r14⟩ := hi.2.1
  have x7 : M.1 2 7 = nI (wM W) := q3
  by_cases c : ¬ i < 1 ∧ ¬ (100 : Int32) < i
  case neg =>
    by_cases y1 : y = -1
    · exact op_z (v := zI (-2)) hi (ro_rt (g_X8_matter ⟨fun _ => ⟨fun _ => ⟨rfl, rfl⟩, fun q => ⟨fun _ => ⟨rfl, rfl⟩, fun r => absurd ⟨q, r⟩ c⟩⟩, fun q => absurd y1 q⟩)) (ro_rt (g_X9_matter ⟨fun _ => ⟨M, _, in_0 c, fun _ => ⟨rfl, rfl⟩, z00⟩, fun q => absurd y1 q⟩))
    · cases hv : vix y (wP W)
      · exact op_z (v := zI (-1)) hi (ro_rt (g_X8_matter ⟨fun q => absurd q y1, fun _ => ⟨M, _, (c8_isP hi.1).1 hv, fun _ => ⟨rfl, rfl⟩, z00⟩⟩)) (ro_rt (g_X9_matter ⟨fun q => absurd q y1, fun _ => ⟨M, _, (c9_isP hi.2.1 B).1 hv, fun _ => ⟨rfl, rfl⟩, z00⟩⟩))
      · exact op_z (v := zI (-2)) hi (ro_rt (g_X8_matter ⟨fun q => absurd q y1, fun _ => ⟨M, _, (c8_isP hi.1).2 hv, z10, fun _ => ⟨fun _ => ⟨rfl, rfl⟩, fun q => ⟨fun _ => ⟨rfl, rfl⟩, fun r => absurd ⟨q, r⟩ c⟩⟩⟩⟩)) (ro_rt (g_X9_matter ⟨fun q => absurd q y1, fun _ => ⟨M, _, (c9_isP hi.2.1 B).2 hv, z10, fun _ => ⟨M, _, in_0 c, fun _ => ⟨rfl, rfl⟩, z00⟩⟩⟩))
  by_cases c2 : ¬ k < 0 ∧ ¬ (99 : Int32) < k
  case neg =>
    by_cases y1 : y = -1
    · exact op_z (v := zI (-2)) hi (ro_rt (g_X8_matter ⟨fun _ => ⟨fun q => absurd q c.1, fun _ => ⟨fun q => absurd q c.2, fun _ => ⟨fun _ => ⟨rfl, rfl⟩, fun q => ⟨fun _ => ⟨rfl, rfl⟩, fun r => absurd ⟨q, r⟩ c2⟩⟩⟩⟩, fun q => absurd y1 q⟩)) (ro_rt (g_X9_matter ⟨fun _ => ⟨M, _, in_1 c, z10, fun _ => ⟨M, _, in_0 c2, fun _ => ⟨rfl, rfl⟩, z00⟩⟩, fun q => absurd y1 q⟩))
    · cases hv : vix y (wP W)
      · exact op_z (v := zI (-1)) hi (ro_rt (g_X8_matter ⟨fun q => absurd q y1, fun _ => ⟨M, _, (c8_isP hi.1).1 hv, fun _ => ⟨rfl, rfl⟩, z00⟩⟩)) (ro_rt (g_X9_matter ⟨fun q => absurd q y1, fun _ => ⟨M, _, (c9_isP hi.2.1 B).1 hv, fun _ => ⟨rfl, rfl⟩, z00⟩⟩))
      · exact op_z (v := zI (-2)) hi (ro_rt (g_X8_matter ⟨fun q => absurd q y1, fun _ => ⟨M, _, (c8_isP hi.1).2 hv, z10, fun _ => ⟨fun q => absurd q c.1, fun _ => ⟨fun q => absurd q c.2, fun _ => ⟨fun _ => ⟨rfl, rfl⟩, fun q => ⟨fun _ => ⟨rfl, rfl⟩, fun r => absurd ⟨q, r⟩ c2⟩⟩⟩⟩⟩⟩)) (ro_rt (g_X9_matter ⟨fun q => absurd q y1, fun _ => ⟨M, _, (c9_isP hi.2.1 B).2 hv, z10, fun _ => ⟨M, _, in_1 c, z10, fun _ => ⟨M, _, in_0 c2, fun _ => ⟨rfl, rfl⟩, z00⟩⟩⟩⟩))
  obtain ⟨w, _, hw, ew⟩ := rng (lo := 0) (hi := 99) (by omega) (by omega) c2
  have zp : zn (nI (wM W)) = wM W := zn_nI (by omega)
  have n73 : vp_nar .boolean 0 = zb false := nar_0
  have fin : (y = -1 ∨ ∃ c, c < 7 ∧ y = nI c) → wM W < 6 → Iv (zu (zu (zu (zu (zu (zu (zu (zu (zu (zu M.1 8 (wM W) i) 9 (wM W) k) 10 (wM W) y) 11 (wM W) 0) 2 7 (nI (wM W + 1))) 70 (wM W) i) 71 (wM W) k) 72 (wM W) y) 73 (wM W) (vp_nar .boolean 0)) 64 2 (nI (wM W + 1)), M.2) (wMa W i w y) h := by
    intro hy p
    refine Iv_w ⟨fun a _ r s => ?_, fun j hj => zu_kn (by omega), rfl, fun _ _ _ => rfl, rfl⟩ hi ⟨q1, q2, rfl, q4, q5, q6, q7, q8, q9, fun j hj => ?_, fun j hj => ?_, fun j hj => ?_, fun j hj => ?_, WX14 (M := M) rfl (fun a ha => ?_) q14⟩ ⟨r1, r2, rfl, r4, r5, r6, r7, r8, r9, fun j hj => ?_, fun j hj => ?_, fun j hj => ?_, fun j hj => ?_, WM14 (M := M) rfl (fun a _ _ => ?_) r14⟩ ⟨b1, b2, b3, p, b5, b6, b7, fun j => ?_⟩ T ⟨V.1, V.2.1, fun j => ?_⟩ (Nat.le_succ _)
    · exact (zu_ne (by omega)).trans ((zu_ne (by omega)).trans ((zu_ne (by omega)).trans ((zu_ne (by omega)).trans ((zu_ne (by omega)).trans ((zu_ne (by omega)).trans ((zu_ne (by omega)).trans ((zu_ne (by omega)).trans ((zu_ne (by omega)).trans (zu_ne (by omega))))))))))
    · show _ = (if j = wM W then i else wA W j)
      rw [← q10 j hj]; exact zu_if
    · show _ = nI (if j = wM W then w else wW W j)
      refine Eq.trans (b := if j = wM W then k else M.1 9 j) zu_if ?_
      split
      · exact ew
      · exact q11 j hj
    · show _ = (if j = wM W then y else wY W j)
      rw [← q12 j hj]; exact zu_if
    · show _ = zb (if j = wM W then false else wC W j)
      refine Eq.trans (b := if j = wM W then 0 else M.1 11 j) zu_if ?_
      split
      · rfl
      · exact q13 j hj
    · exact (zu_ne (by omega)).trans ((zu_ne (by omega)).trans ((zu_ne (by omega)).trans ((zu_ne (by omega)).trans ((zu_ne (by omega)).trans ((zu_ne (by omega)).trans ((zu_ne (by omega)).trans ((zu_ne (by omega)).trans ((zu_ne (by omega)).trans (zu_ne (by omega))))))))))
    · show _ = (if j = wM W then i else wA W j)
      rw [← r10 j hj]; exact zu_if
    · show _ = nI (if j = wM W then w else wW W j)
      refine Eq.trans (b := if j = wM W then k else M.1 71 j) zu_if ?_
      split
      · exact ew
      · exact r11 j hj
    · show _ = (if j = wM W then y else wY W j)
      rw [← r12 j hj]; exact zu_if
    · show _ = zb (if j = wM W then false else wC W j)
      refine Eq.trans (b := if j = wM W then vp_nar .boolean 0 else M.1 73 j) zu_if ?_
      split
      · exact n73
      · exact r13 j hj
    · exact (zu_ne (by omega)).trans ((zu_ne (by omega)).trans ((zu_ne (by omega)).trans ((zu_ne (by omega)).trans ((zu_ne (by omega)).trans ((zu_ne (by omega)).trans ((zu_ne (by omega)).trans ((zu_ne (by omega)).trans ((zu_ne (by omega)).trans (zu_ne (by omega))))))))))
    · show (if j = wM W then w else wW W j) ≤ 99
      split
      · exact hw
      · exact b8 j
    · show (if j = wM W then y else wY W j) = -1 ∨ ∃ c, c < 7 ∧ (if j = wM W then y else wY W j) = nI c
      split
      · exact hy
      · exact V.2.2 j
  have M1w : WM (zu (zu (zu (zu (zu M.1 8 (wM W) i) 9 (wM W) k) 10 (wM W) y) 11 (wM W) 0) 2 7 (nI (wM W + 1)), M.2) W := WM_eq (fun a _ _ => (zu_ne (by omega)).trans ((zu_ne (by omega)).trans ((zu_ne (by omega)).trans ((zu_ne (by omega)).trans (zu_ne (by omega)))))) hi.2.1
  have y2 : (zu (zu (zu (zu (zu M.1 8 (wM W) i) 9 (wM W) k) 10 (wM W) y) 11 (wM W) 0) 2 7 (nI (wM W + 1))) 64 2 = nI (wM W) := r3
  by_cases y1 : y = -1
  · by_cases p : wM W < 6
    · refine ⟨(zu (zu (zu (zu (zu M.1 8 (wM W) i) 9 (wM W) k) 10 (wM W) y) 11 (wM W) 0) 2 7 (nI (wM W + 1)), M.2), _, zI (nI (wM W)), wMa W i w y, h, ro_rt (g_X8_matter ⟨fun _ => ⟨fun q => absurd q c.1, fun _ => ⟨fun q => absurd q c.2, fun _ => ⟨fun q => absurd q c2.1, fun _ => ⟨fun q => absurd q c2.2, fun _ => ?_⟩⟩⟩⟩, fun q => absurd y1 q⟩), ro_rt (g_X9_matter ⟨fun _ => ⟨_, _, in_1 c, z10, fun _ => ⟨_, _, in_1 c2, z10, fun _ => ?_⟩⟩, fun q => absurd y1 q⟩), fin (Or.inl y1) p, hi.2.2.2.2.2.1.1⟩
      · rw [x7, nI_1, zp]
        exact ⟨fun _ => ⟨in_n p (by omega), in_n p (by omega), in_n p (by omega), in_n p (by omega), rfl, rfl⟩, fun q => absurd (nI_lt (b := 6) p (by omega)) q⟩
      · dsimp only
        rw [y2, nI_1, zp]
        exact ⟨fun q => absurd ((nI_eq (b := 6) (by omega) (by omega)).mp q) (by omega), fun _ => ⟨in_n p (by omega), in_n p (by omega), in_n p (by omega), in_n p (by omega), rfl, by rw [nI_pred]⟩⟩
    · refine op_z (v := zI (-4)) hi (ro_rt (g_X8_matter ⟨fun _ => ⟨fun q => absurd q c.1, fun _ => ⟨fun q => absurd q c.2, fun _ => ⟨fun q => absurd q c2.1, fun _ => ⟨fun q => absurd q c2.2, fun _ => ?_⟩⟩⟩⟩, fun q => absurd y1 q⟩)) (ro_rt (g_X9_matter ⟨fun _ => ⟨_, _, in_1 c, z10, fun _ => ⟨_, _, in_1 c2, z10, fun _ => ?_⟩⟩, fun q => absurd y1 q⟩))
      · rw [x7]
        exact ⟨fun q => absurd ((nI_ltI (b := 6) (by omega) (by omega)).mp q) p, fun _ => ⟨rfl, rfl⟩⟩
      · rw [r3]
        exact ⟨fun _ => ⟨rfl, rfl⟩, fun q => absurd (congrArg nI (by omega : wM W = 6)) q⟩
  · cases hv : vix y (wP W)
    · exact op_z (v := zI (-1)) hi (ro_rt (g_X8_matter ⟨fun q => absurd q y1, fun _ => ⟨M, _, (c8_isP hi.1).1 hv, fun _ => ⟨rfl, rfl⟩, z00⟩⟩)) (ro_rt (g_X9_matter ⟨fun q => absurd q y1, fun _ => ⟨M, _, (c9_isP hi.2.1 B).1 hv, fun _ => ⟨rfl, rfl⟩, z00⟩⟩))
    obtain ⟨a, ha, ea⟩ := vix_t (by omega) hv
    by_cases p : wM W < 6
    · refine ⟨(zu (zu (zu (zu (zu M.1 8 (wM W) i) 9 (wM W) k) 10 (wM W) y) 11 (wM W) 0) 2 7 (nI (wM W + 1)), M.2), _, zI (nI (wM W)), wMa W i w y, h, ro_rt (g_X8_matter ⟨fun q => absurd q y1, fun _ => ⟨M, _, (c8_isP hi.1).2 hv, z10, fun _ => ⟨fun q => absurd q c.1, fun _ => ⟨fun q => absurd q c.2, fun _ => ⟨fun q => absurd q c2.1, fun _ => ⟨fun q => absurd q c2.2, fun _ => ?_⟩⟩⟩⟩⟩⟩), ro_rt (g_X9_matter ⟨fun q => absurd q y1, fun _ => ⟨_, _, (c9_isP M1w B).2 hv, z10, fun _ => ⟨_, _, in_1 c, z10, fun _ => ⟨_, _, in_1 c2, z10, fun _ => ?_⟩⟩⟩⟩), fin (Or.inr ⟨a, by omega, ea⟩) p, hi.2.2.2.2.2.1.1⟩
      · rw [x7, nI_1, zp]
        exact ⟨fun _ => ⟨in_n p (by omega), in_n p (by omega), in_n p (by omega), in_n p (by omega), rfl, rfl⟩, fun q => absurd (nI_lt (b := 6) p (by omega)) q⟩
      · dsimp only
        rw [y2, nI_1, zp]
        exact ⟨fun q => absurd ((nI_eq (b := 6) (by omega) (by omega)).mp q) (by omega), fun _ => ⟨in_n p (by omega), in_n p (by omega), in_n p (by omega), in_n p (by omega), rfl, by rw [nI_pred]⟩⟩
    · refine op_z (v := zI (-4)) hi (ro_rt (g_X8_matter ⟨fun q => absurd q y1, fun _ => ⟨M, _, (c8_isP hi.1).2 hv, z10, fun _ => ⟨fun q => absurd q c.1, fun _ => ⟨fun q => absurd q c.2, fun _ => ⟨fun q => absurd q c2.1, fun _ => ⟨fun q => absurd q c2.2, fun _ => ?_⟩⟩⟩⟩⟩⟩)) (ro_rt (g_X9_matter ⟨fun q => absurd q y1, fun _ => ⟨_, _, (c9_isP hi.2.1 B).2 hv, z10, fun _ => ⟨_, _, in_1 c, z10, fun _ => ⟨_, _, in_1 c2, z10, fun _ => ?_⟩⟩⟩⟩))
      · rw [x7]
        exact ⟨fun q => absurd ((nI_ltI (b := 6) (by omega) (by omega)).mp q) p, fun _ => ⟨rfl, rfl⟩⟩
      · rw [r3]
        exact ⟨fun _ => ⟨rfl, rfl⟩, fun q => absurd (congrArg nI (by omega : wM W = 6)) q⟩
