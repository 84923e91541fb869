/-! The reference: how a vote goes -/
def SBd (W : Wv) (S : Nat → Int32) : Prop := ∀ p, p < wP W → S p = 1 ∨ S p = -1 ∨ S p = 0
theorem sSays_c (W : Wv) (a m : Nat) : sSays W a m = 1 ∨ sSays W a m = -1 ∨ sSays W a m = 0 := by
  have p : ∀ b m, sPlain W b m = 1 ∨ sPlain W b m = -1 ∨ sPlain W b m = 0 := fun b m => sSign_c _
  have pi : ∀ m, sIdly W a m = 1 ∨ sIdly W a m = -1 ∨ sIdly W a m = 0 := fun m => by
    unfold sIdly
    split
    · exact Or.inr (Or.inr rfl)
    · exact p a m
  have pa : ∀ m, sAway W a m = 1 ∨ sAway W a m = -1 ∨ sAway W a m = 0 := fun m => by
    unfold sAway
    split
    · exact Or.inr (Or.inr rfl)
    · exact p a m
  unfold sSays
  repeat' split
  all_goals first
    | exact Or.inl rfl
    | exact Or.inr (Or.inl rfl)
    | exact p _ _
    | exact pi _
    | exact pa _
    | skip
  unfold sSided
  split
  · exact pi _
  · split
    · exact Or.inr (Or.inr rfl)
    · exact p _ _
theorem sb_lt {x : Int32} (h : x = 1 ∨ x = -1 ∨ x = 0) : (x < 0) = (x = -1) := by
  rcases h with h | h | h <;> rw [h] <;> exact propext (by decide)
theorem sb_gt {x : Int32} (h : x = 1 ∨ x = -1 ∨ x = 0) : (0 < x) = (x = 1) := by
  rcases h with h | h | h <;> rw [h] <;> exact propext (by decide)
theorem lfnd_p {P : Nat → Bool} {j k : Nat} (h : P k = true) : lfnd P (j + 1) k = some k := by unfold lfnd; rw [if_pos h]
theorem lfnd_n {P : Nat → Bool} {j k : Nat} (h : P k = false) : lfnd P (j + 1) k = lfnd P j (k + 1) := by rw [show lfnd P (j + 1) k = if P k = true then some k else lfnd P j (k + 1) from rfl, if_neg (by rw [h]; decide)]
section MG
variable {d : Nat} {M : ZM} {W : Wv} {S : Nat → Int32}
theorem l9_tied (hW : WM M W) (hB : WBd W) (hb : SBd W S) (hS : ∀ p, p < wP W → M.1 84 p = S p) {m : Nat} {x y : Int32} : ∀ j k u, k + j = wN W → A_X9_goesBy_84 (d + 2) M (nI m) x y (nI k) u (fun M' v => M' = M ∧ v = some (zI (nI (match lopt (sBrk W S) j k with | some b => if S b = 1 then 1 else 0 | none => if 0 < hTie (wH W) 0 then 1 else 2)))) := by
  have h1 := hB.2.1
  have h2 := hB.2.2.1
  intro j
  induction j with
  | zero =>
    intro k u hk
    refine a_X9_goesBy_84 ?_
    rw [hW.1]
    refine ⟨fun h => absurd h (nI_nlt (by omega) (by omega)), fun _ => ⟨M, _, c9_tie hW, ?_⟩⟩
    have ht : ((0 : Int32) < nI (hTie (wH W) 0)) = (0 < hTie (wH W) 0) := by
      rcases hW.2.2.2.2.2.2.2.2.2.2.2.2.2 with ⟨x, y⟩ | ⟨f, x, y, z⟩
      · rw [y]; exact nI_zlt (by decide)
      · refine nI_zlt ?_
        have gen : ∀ (r : Hs) (c n : Nat), HMr M.1 r c → n < 100 → hTie r n < 100 := by
          intro r
          induction r with
          | nil => intro c n _ q; exact q
          | cons w r ih =>
            intro c n q hn
            have q' := q
            unfold HMr at q'
            obtain ⟨_, _, _, q4, _, q6⟩ := q'
            refine ih (c + 1) _ q6 ?_
            split
            · exact q4
            · exact hn
        have := gen _ _ 0 z.2.2 (by decide)
        omega
    rw [ht]
    unfold lopt
    refine ⟨fun h => ⟨rfl, ?_⟩, fun h => ⟨rfl, ?_⟩⟩
    · simp only [if_pos h]; rfl
    · simp only [if_neg h]; rfl
  | succ j ih =>
    intro k u hk
    refine a_X9_goesBy_84 ?_
    rw [hW.1]
    refine ⟨fun _ => ⟨M, _, c9_whoIn hW hB (by omega), in_nI (by omega) (by omega), ?_⟩, fun h => absurd (nI_lt (by omega) (by omega)) h⟩
    rw [zn_nI (by omega), hW.2.2.2.2.2.2.1 _ (by omega), nI_1]
    refine ⟨fun h => ?_, fun h => ?_⟩
    · cases hs : sSit W k with
      | none =>
        refine ⟨fun _ => ?_, fun q => absurd (by decide) q⟩
        have hf : sBrk W S k = none := by unfold sBrk; rw [if_pos h, hs]
        unfold lopt
        rw [hf]
        exact ih (k + 1) _ (by omega)
      | some b =>
        have hb' := lfnd_lt hs
        have e : zoi (-1) (some b) = nI b := rfl
        rw [e]
        have sb := hb b (by omega)
        rw [zn_nI (by omega), hS b (by omega), sb_gt sb]
        refine ⟨fun q => absurd q (nI_pos (by omega)), fun _ => ⟨in_n (by omega) (by omega), fun q => ?_, fun q => ⟨in_n (by omega) (by omega), ?_⟩⟩⟩
        · have hf : sBrk W S k = none := by unfold sBrk; rw [if_pos h, hs]; simp only [if_pos q]
          unfold lopt
          rw [hf]
          exact ih (k + 1) _ (by omega)
        · have hf : sBrk W S k = some b := by unfold sBrk; rw [if_pos h, hs]; simp only [if_neg q]
          unfold lopt
          rw [hf]
          refine ⟨fun x => ⟨rfl, ?_⟩, fun x => ⟨rfl, ?_⟩⟩
          · simp only [if_pos x]; rfl
          · simp only [if_neg x]; rfl
    · have hf : sBrk W S k = none := by unfold sBrk; rw [if_neg h]
      unfold lopt
      rw [hf]
      exact ih (k + 1) _ (by omega)
theorem l9_goesBy (hW : WM M W) (hB : WBd W) (hb : SBd W S) (hS : ∀ p, p < wP W → M.1 84 p = S p) {m : Nat} (hm : m < 6) : ∀ j k, k + j = wP W → A_X9_goesBy_2 (d + 2) M (nI m) (nI k) (fun M' v => M' = M ∧ v = some (zI (nI (if (lfnd (fun p => decide (S p = -1) && decide (wX W (sSeat W p) = 1)) j k).isSome = true then 0 else if sVotes W S 1 = sVotes W S (-1) then sTie W S
  else if (100 : Int32) * nI (sVotes W S 1) < wA W m * (nI (sVotes W S 1) + nI (sVotes W S (-1))) then 0 else 1)))) := by
  have h1 := hB.2.1
  have h2 := hB.2.2.1
  have hv1 := sVotes_le hB S 1
  have hv2 := sVotes_le hB S (-1)
  intro j
  induction j with
  | zero =>
    intro k hk
    refine a_X9_goesBy_2 ?_
    rw [hW.2.1]
    refine ⟨fun h => absurd h (nI_nlt (by omega) (by omega)), fun _ => ⟨M, _, c9_votes hW hB hS, M, _, c9_votes hW hB hS, ?_⟩⟩
    rw [nI_eqe (by omega) (by omega), zn_nI (by omega), hW.2.2.2.2.2.2.2.2.2.1 _ (by omega)]
    unfold lfnd
    refine ⟨fun h => ?_, fun h => ⟨in_n hm (by omega), fun q => ⟨rfl, ?_⟩, fun q => ⟨rfl, ?_⟩⟩⟩
    · have := l9_tied (d := d) (m := m) (x := nI (sVotes W S 1)) (y := nI (sVotes W S (-1))) hW hB hb hS (wN W) 0 zU (by omega)
      rw [if_neg (by decide), if_pos h]
      exact this
    · rw [if_neg (by decide), if_neg h, if_pos q]; rfl
    · rw [if_neg (by decide), if_neg h, if_neg q]; rfl
  | succ j ih =>
    intro k hk
    refine a_X9_goesBy_2 ?_
    have sb := hb k (by omega)
    rw [hW.2.1, zn_nI (by omega), hS k (by omega), nI_1, sb_lt sb]
    have hl := sSeat_lt hB k
    have ih' := ih (k + 1) (by omega)
    refine ⟨fun _ => ⟨in_n (by omega) (by omega), fun h => ⟨M, _, c9_seatOf hW hB (by omega), in_nI hl (by omega), ?_⟩, fun h => ?_⟩, fun h => absurd (nI_lt (by omega) (by omega)) h⟩
    · rw [zn_nI (by omega), hW.2.2.2.2.2.1 _ (by omega)]
      refine ⟨fun q => ⟨rfl, ?_⟩, fun q => ?_⟩
      · rw [lfnd_p (by simp [h, q])]
        rfl
      · rw [lfnd_n (by simp [q])]
        exact ih'
    · rw [lfnd_n (by simp [h])]
      exact ih'
theorem c9_goesBy (hW : WM M W) (hB : WBd W) (hb : SBd W S) (hS : ∀ p, p < wP W → M.1 84 p = S p) {m : Nat} (hm : m < 6) : Rt (d + 3) 183 [zR 9 64, zI (nI m)] M M (some (zI (nI (sGoes W S m)))) := ro_rt (g_X9_goesBy (l9_goesBy hW hB hb hS hm _ 0 (by omega)))
theorem lsum_congr {f g : Nat → Nat} : ∀ j k, (∀ p, k ≤ p → p < k + j → f p = g p) → lsum f j k = lsum g j k
  | 0, _, _ => rfl
  | j + 1, k, h => by
    unfold lsum
    rw [h k (by omega) (by omega), lsum_congr j (k + 1) (fun p h1 h2 => h p (by omega) (by omega))]
theorem lfnd_congr {f g : Nat → Bool} : ∀ j k, (∀ p, k ≤ p → p < k + j → f p = g p) → lfnd f j k = lfnd g j k
  | 0, _, _ => rfl
  | j + 1, k, h => by
    unfold lfnd
    rw [h k (by omega) (by omega), lfnd_congr j (k + 1) (fun p h1 h2 => h p (by omega) (by omega))]
theorem sGoes_congr {T : Nat → Int32} (h : ∀ p, p < wP W → S p = T p) (m : Nat) : sGoes W S m = sGoes W T m := by
  have v : ∀ x, sVotes W S x = sVotes W T x := fun x => lsum_congr _ _ (fun p _ hp => by show (if S p = x then _ else _) = _; rw [h p (by omega)])
  have w : sVeto W S = sVeto W T := by
    unfold sVeto
    rw [lfnd_congr _ _ (fun p _ hp => by show (decide (S p = -1) && _) = _; rw [h p (by omega)])]
  have t : sTie W S = sTie W T := by
    have e : sBrk W S = sBrk W T := by
      funext s
      unfold sBrk
      cases hs : sSit W s with
      | none => rfl
      | some b =>
        have := lfnd_lt hs
        simp only [h b (by omega)]
    unfold sTie
    rw [e]
    cases ho : lopt (sBrk W T) (wN W) 0 with
    | none => rfl
    | some b =>
      have hb : b < wP W := by
        have gen : ∀ j k, lopt (sBrk W T) j k = some b → b < wP W := by
          intro j
          induction j with
          | zero => intro k q; cases q
          | succ j ih =>
            intro k q
            unfold lopt at q
            cases hq : sBrk W T k with
            | none => rw [hq] at q; exact ih _ q
            | some c =>
              rw [hq] at q
              cases q
              unfold sBrk at hq
              split at hq
              · cases hs : sSit W k with
                | none => rw [hs] at hq; cases hq
                | some c =>
                  rw [hs] at hq
                  have := lfnd_lt hs
                  simp only at hq
                  split at hq
                  · cases hq
                  · cases hq; omega
              · cases hq
        exact gen _ _ ho
      simp only [h b hb]
  unfold sGoes
  rw [v, v, w, t]
/-- how a vote goes as all is -/
noncomputable def sGo (W : Wv) (m : Nat) : Nat := sGoes W (fun p => sSays W p m) m
theorem sGoes_lt {m : Nat} : sGoes W S m < 3 := by
  unfold sGoes sTie
  repeat' split
  all_goals omega
theorem c9_goes (hW : WM M W) (hB : WBd W) {m : Nat} (hm : m < wM W) : ∃ M', Rt (d + 10) 184 [zR 9 64, zI (nI m)] M M' (some (zI (nI (sGo W m)))) ∧ FM M M' ∧ (∀ p, p < wP W → M'.1 84 p = sSays W p m) := by
  have b4 := hB.2.2.2.1
  obtain ⟨M1, h1, f1, s1⟩ := c9_lay (d := d) hW hB hm
  exact ro_rv (g_X9_goes ⟨M1, h1, M1, _, c9_goesBy (WM_FM f1 hW) hB (S := fun p => sSays W p m) (fun p _ => sSays_c W p m) s1 (by omega), rfl, f1, s1⟩)
end MG
