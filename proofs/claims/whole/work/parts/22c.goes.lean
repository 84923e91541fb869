/-! SeatOn's Wheel: how a vote goes -/
def FS (o : Nat) (M M' : ZM) : Prop := FX o M M'
noncomputable def sVotes (W : Wv) (S : Nat → Int32) (x : Int32) : Nat := lsum (fun p => if S p = x then wV W (sSeat W p) else 0) (wP W) 0
def sVeto (W : Wv) (S : Nat → Int32) : Bool := (lfnd (fun p => decide (S p = -1) && decide (wX W (sSeat W p) = 1)) (wP W) 0).isSome
/-- the first that has something to say, of j numbers from k on -/
def lopt (f : Nat → Option Nat) : Nat → Nat → Option Nat
  | 0, _ => none
  | j + 1, k => match f k with
    | some b => some b
    | none => lopt f j (k + 1)
def sBrk (W : Wv) (S : Nat → Int32) (s : Nat) : Option Nat := if wB W s = 1 then (match sSit W s with
  | some b => if S b = 0 then none else some b
  | none => none) else none
def sTie (W : Wv) (S : Nat → Int32) : Nat := match lopt (sBrk W S) (wN W) 0 with
  | some b => if S b = 1 then 1 else 0
  | none => if 0 < hTie (wH W) 0 then 1 else 2
noncomputable def sGoes (W : Wv) (S : Nat → Int32) (m : Nat) : Nat :=
  if sVeto W S = true then 0
  else if sVotes W S 1 = sVotes W S (-1) then sTie W S
  else if (100 : Int32) * nI (sVotes W S 1) < wA W m * (nI (sVotes W S 1) + nI (sVotes W S (-1))) then 0 else 1
theorem sVotes_le {W : Wv} (hB : WBd W) (S : Nat → Int32) (x : Int32) : sVotes W S x ≤ 28 := by
  have := lsum_le (f := fun p => if S p = x then wV W (sSeat W p) else 0) (c := 4) (fun p => by
    have := hB.2.2.2.2.2.1 (sSeat W p)
    show (if S p = x then wV W (sSeat W p) else 0) ≤ 4
    split <;> omega) (wP W) 0
  have h1 := hB.2.1
  have h2 := hB.2.2.1
  unfold sVotes
  omega
section GX
variable {d o : Nat} {M : ZM} {W : Wv} {S : Nat → Int32}
theorem l7_hear (ho : o ≤ 25) (hB : WBd W) {m : Nat} (hm : m < wM W) (M0 : ZM) : ∀ j k M, k + j = wP W → WX M o W → FX o M0 M → (∀ p, p < k → M.1 (o + 11) p = sSays W p m) → A_X7_hear_2 (d + 4) o M (nI m) (nI k) (fun M' v => v = none ∧ FX o M0 M' ∧ ∀ p, p < wP W → M'.1 (o + 11) p = sSays W p m) := by
  intro j
  induction j with
  | zero =>
    intro k M hk hW hF hS
    refine a_X7_hear_2 ?_
    rw [hW.2.1]
    refine pk_lt k (wP W) (fun h => by omega) (fun _ => ⟨rfl, hF, fun p hp => hS p (by omega)⟩) (by rfl) (by rfl) ?_ ?_
    all_goals (have := hB.2.1; have := hB.2.2.1; omega)
  | succ j ih =>
    intro k M hk hW hF hS
    have h1 := hB.2.1
    have h2 := hB.2.2.1
    refine a_X7_hear_2 ?_
    rw [hW.2.1]
    refine ⟨fun _ => ?_, fun h => absurd (nI_lt (by omega) (by omega)) h⟩
    obtain ⟨M1, r1, f1⟩ := c7_answer (d := d) ho hW hB (by omega : k < wP W) hm
    refine ⟨M1, _, r1, in_nI (by omega) (by omega), ?_⟩
    rw [nI_1, zn_nI (by omega)]
    have f2 : FX o M1 (zu M1.1 (o + 11) k (sSays W k m), M1.2) := ⟨fun a q _ => zu_ne q, rfl⟩
    refine ih (k + 1) _ (by omega) (WX_FX ho f2 (WX_FX ho f1.x hW)) (hF.trans (f1.x.trans f2)) (fun p hp => ?_)
    by_cases hpk : p = k
    · rw [hpk]; exact zu_kk
    · show zu M1.1 (o + 11) k (sSays W k m) (o + 11) p = _
      rw [zu_kn hpk, f1.1 _ (by omega)]
      exact hS p (by omega)
theorem c7_hear (ho : o ≤ 25) (hW : WX M o W) (hB : WBd W) {m : Nat} (hm : m < wM W) : ∃ M', Rt (d + 5) 70 [zR 7 (o + 1), zI (nI m)] M M' none ∧ FX o M M' ∧ ∀ p, p < wP W → M'.1 (o + 11) p = sSays W p m :=
  ro_rv (g_X7_hear (l7_hear ho hB hm M (wP W) 0 M (by omega) hW FX.rfl (fun p hp => by omega)))
theorem l7_votes (hW : WX M o W) (hB : WBd W) {x : Int32} (hS : ∀ p, p < wP W → M.1 (o + 11) p = S p) : ∀ j k a, k + j = wP W → A_X7_votesOfWhoSay_4 (d + 1) o M x (nI a) (nI k) (fun M' v => M' = M ∧ v = some (zI (nI (a + lsum (fun p => if S p = x then wV W (sSeat W p) else 0) j k)))) := by
  have h1 := hB.2.1
  have h2 := hB.2.2.1
  intro j
  induction j with
  | zero =>
    intro k a hk
    refine a_X7_votesOfWhoSay_4 ?_
    rw [hW.2.1]
    exact ⟨fun h => absurd h (nI_nlt (by omega) (by omega)), fun _ => ⟨rfl, rfl⟩⟩
  | succ j ih =>
    intro k a hk
    refine a_X7_votesOfWhoSay_4 ?_
    rw [hW.2.1, zn_nI (by omega), hS k (by omega), nI_1]
    have hl := sSeat_lt hB k
    refine ⟨fun _ => ⟨in_n (by omega) (by omega), fun h => ⟨M, _, c7_seatOf hW hB (by omega), in_nI hl (by omega), ?_⟩, fun h => ?_⟩, fun h => absurd (nI_lt (by omega) (by omega)) h⟩
    · rw [zn_nI (by omega), hW.2.2.2.2.1 _ (by omega), nI_add]
      have := ih (k + 1) (a + wV W (sSeat W k)) (by omega)
      unfold lsum
      rw [if_pos h, ← Nat.add_assoc]
      exact this
    · have := ih (k + 1) a (by omega)
      unfold lsum
      rw [if_neg h, Nat.zero_add]
      exact this
theorem c7_votes (hW : WX M o W) (hB : WBd W) {x : Int32} (hS : ∀ p, p < wP W → M.1 (o + 11) p = S p) : Rt (d + 2) 73 [zR 7 (o + 1), zI x] M M (some (zI (nI (sVotes W S x)))) := by
  have := l7_votes (d := d) (x := x) hW hB hS (wP W) 0 0 (by omega)
  rw [Nat.zero_add] at this
  exact ro_rt (g_X7_votesOfWhoSay this)
theorem l7_veto (hW : WX M o W) (hB : WBd W) (hS : ∀ p, p < wP W → M.1 (o + 11) p = S p) : ∀ j k, k + j = wP W → A_X7_isVetoed_2 (d + 1) o M (nI k) (fun M' v => M' = M ∧ v = some (zI (zb (lfnd (fun p => decide (S p = -1) && decide (wX W (sSeat W p) = 1)) j k).isSome))) := by
  have h1 := hB.2.1
  have h2 := hB.2.2.1
  intro j
  induction j with
  | zero =>
    intro k hk
    refine a_X7_isVetoed_2 ?_
    rw [hW.2.1]
    exact ⟨fun h => absurd h (nI_nlt (by omega) (by omega)), fun _ => ⟨rfl, rfl⟩⟩
  | succ j ih =>
    intro k hk
    refine a_X7_isVetoed_2 ?_
    rw [hW.2.1, zn_nI (by omega), hS k (by omega), nI_1]
    have hl := sSeat_lt hB k
    have ih' := ih (k + 1) (by omega)
    refine ⟨fun _ => ⟨in_n (by omega) (by omega), fun h => ⟨M, _, c7_seatOf hW hB (by omega), in_nI hl (by omega), ?_⟩, fun h => ?_⟩, fun h => absurd (nI_lt (by omega) (by omega)) h⟩
    · rw [zn_nI (by omega), hW.2.2.2.2.2.1 _ (by omega)]
      refine ⟨fun q => ⟨rfl, ?_⟩, fun q => ?_⟩
      · unfold lfnd
        rw [if_pos (by simp [h, q])]
        rfl
      · unfold lfnd
        rw [if_neg (by simp [q])]
        exact ih'
    · unfold lfnd
      rw [if_neg (by simp [h])]
      exact ih'
theorem c7_veto (hW : WX M o W) (hB : WBd W) (hS : ∀ p, p < wP W → M.1 (o + 11) p = S p) : Rt (d + 2) 75 [zR 7 (o + 1)] M M (some (zI (zb (sVeto W S)))) := ro_rt (g_X7_isVetoed (l7_veto hW hB hS _ 0 (by omega)))
theorem l7_tied (hW : WX M o W) (hB : WBd W) (hS : ∀ p, p < wP W → M.1 (o + 11) p = S p) : ∀ j k u, k + j = wN W → A_X7_goesByTie_2 (d + 2) o M (nI k) u (fun M' v => M' = M ∧ v = some (zI (nI (match lopt (sBrk W S) j k with | some b => if S b = 1 then 1 else 0 | none => if 0 < hTie (wH W) 0 then 1 else 2)))) := by
  have h1 := hB.2.1
  have h2 := hB.2.2.1
  have ht : hTie (wH W) 0 < 100 := by
    rcases hW.2.2.2.2.2.2.2.2.2.2.2.2.2 with ⟨x, y⟩ | ⟨a, x, y, z⟩
    · rw [y]; exact (by decide : (0 : Nat) < 100)
    · exact z.2.1
  intro j
  induction j with
  | zero =>
    intro k u hk
    refine a_X7_goesByTie_2 ?_
    rw [hW.1]
    refine ⟨fun h => absurd h (nI_nlt (by omega) (by omega)), fun _ => ⟨M, _, c7_tie hW, ?_⟩⟩
    rw [nI_zlt (by omega)]
    unfold lopt
    refine ⟨fun h => ⟨rfl, ?_⟩, fun h => ⟨rfl, ?_⟩⟩
    · simp only [if_pos h]; rfl
    · simp only [if_neg h]; rfl
  | succ j ih =>
    intro k u hk
    refine a_X7_goesByTie_2 ?_
    rw [hW.1, zn_nI (by omega), hW.2.2.2.2.2.2.1 _ (by omega), nI_1]
    refine ⟨fun _ => ⟨in_n (by omega) (by omega), fun h => ⟨M, _, c7_sitter hW hB (by omega), ?_⟩, fun h => ?_⟩, fun h => absurd (nI_lt (by omega) (by omega)) h⟩
    · cases hs : sSit W k with
      | none =>
        refine ⟨fun _ => ?_, fun q => absurd rfl q⟩
        have hf : sBrk W S k = none := by unfold sBrk; rw [if_pos h, hs]
        unfold lopt
        rw [hf]
        exact ih (k + 1) _ (by omega)
      | some b =>
        have hb := lfnd_lt hs
        refine ⟨fun q => ?_, fun _ => ?_⟩
        · have q' : (nI b = -5) := q
          rw [nI_m5 (by omega)] at q'
          exact q'.elim
        · show ¬ (nI b < 0 ∨ 7 ≤ zn (nI b)) ∧ _
          have e : zoi (-5) (some b) = nI b := rfl
          rw [e, zn_nI (by omega), hS b (by omega)]
          refine ⟨in_n (by omega) (by omega), fun q => ?_, fun q => ⟨in_n (by omega) (by omega), ?_⟩⟩
          · have hf : sBrk W S k = none := by unfold sBrk; rw [if_pos h, hs]; simp only [if_pos q]
            unfold lopt
            rw [hf]
            exact ih (k + 1) _ (by omega)
          · have hf : sBrk W S k = some b := by unfold sBrk; rw [if_pos h, hs]; simp only [if_neg q]
            unfold lopt
            rw [hf]
            refine ⟨fun x => ⟨rfl, ?_⟩, fun x => ⟨rfl, ?_⟩⟩
            · simp only [if_pos x]; rfl
            · simp only [if_neg x]; rfl
    · have hf : sBrk W S k = none := by unfold sBrk; rw [if_neg h]
      unfold lopt
      rw [hf]
      exact ih (k + 1) _ (by omega)
theorem c7_tied (hW : WX M o W) (hB : WBd W) (hS : ∀ p, p < wP W → M.1 (o + 11) p = S p) : Rt (d + 3) 76 [zR 7 (o + 1)] M M (some (zI (nI (sTie W S)))) := ro_rt (g_X7_goesByTie (l7_tied hW hB hS _ 0 _ (by omega)))
theorem c7_goes (hW : WX M o W) (hB : WBd W) (hS : ∀ p, p < wP W → M.1 (o + 11) p = S p) {m : Nat} (hm : m < 6) : Rt (d + 4) 74 [zR 7 (o + 1), zI (nI m)] M M (some (zI (nI (sGoes W S m)))) := by
  have hv1 := sVotes_le hB S 1
  have hv2 := sVotes_le hB S (-1)
  refine ro_rt (g_X7_goes ⟨M, _, c7_veto hW hB hS, ?_⟩)
  cases hv : sVeto W S
  · refine ⟨fun _ => ⟨M, _, c7_votes hW hB hS, M, _, c7_votes hW hB hS, ?_⟩, fun h => absurd rfl h⟩
    rw [nI_eqe (by omega) (by omega), zn_nI (by omega), hW.2.2.2.2.2.2.2.2.2.1 _ (by omega)]
    unfold sGoes
    rw [hv, if_neg (by decide)]
    refine ⟨fun h => ⟨M, _, c7_tied hW hB hS, rfl, ?_⟩, fun h => ⟨in_n hm (by omega), fun q => ⟨rfl, ?_⟩, fun q => ⟨rfl, ?_⟩⟩⟩
    · rw [if_pos h]
    · rw [if_neg h, if_pos q]; rfl
    · rw [if_neg h, if_neg q]; rfl
  · refine ⟨fun h => absurd h (by decide), fun _ => ⟨rfl, ?_⟩⟩
    unfold sGoes
    rw [hv, if_pos rfl]
    rfl
end GX
