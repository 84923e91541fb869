/-! SeatOn's Wheel: who sits where, what all say -/
section WX
variable {d o : Nat} {M : ZM} {W : Wv}
theorem c7_seatOf (hW : WX M o W) (hB : WBd W) {a : Nat} (ha : a < 7) : Rt (d + 1) 62 [zR 7 (o + 1), zI (nI a)] M M (some (zI (nI (sSeat W a)))) := by
  obtain ⟨n0, -, -, n12, -⟩ := hW
  obtain ⟨b1, b2, -, -, b5, -⟩ := hB
  refine ro_rt (g_X7_seatOf ?_)
  rw [n0, n12, nI_add, zrem_nI (by omega) (by omega) (by omega)]
  exact ⟨nI_ne0 (by omega) (by omega), rfl, rfl⟩
theorem l7_sitter (hW : WX M o W) (hB : WBd W) {s : Nat} (hs : s < 7) : ∀ j k, k + j = wP W → A_X7_sitter_2 (d + 1) o M (nI s) (nI k) (fun M' v => M' = M ∧ v = some (zI (zoi (-5) (lfnd (fun a => sSeat W a == s) j k)))) := by
  have n4 := hW.2.1
  have b := hB
  obtain ⟨b1, b2, b3, -, -, -⟩ := hB
  intro j
  induction j with
  | zero =>
    intro k hk
    refine a_X7_sitter_2 ?_
    rw [n4]
    exact pk_lt k (wP W) (fun h => by omega) (fun _ => ⟨rfl, rfl⟩)
  | succ j ih =>
    intro k hk
    refine a_X7_sitter_2 ?_
    rw [n4]
    refine pk_lt k (wP W) (fun h => ⟨_, _, c7_seatOf hW b (by omega), ?_⟩) (fun h => by omega)
    have hl := sSeat_lt b k
    refine pk_eq (sSeat W k) s (fun h => ⟨rfl, ?_⟩) (fun h => ?_)
    · unfold lfnd
      rw [if_pos (by simp [h])]
      rfl
    · rw [nI_1]
      unfold lfnd
      rw [if_neg (by simp [h])]
      exact ih (k + 1) (by omega)
theorem c7_sitter (hW : WX M o W) (hB : WBd W) {s : Nat} (hs : s < 7) : Rt (d + 2) 63 [zR 7 (o + 1), zI (nI s)] M M (some (zI (zoi (-5) (sSit W s)))) := ro_rt (g_X7_sitter (l7_sitter hW hB hs _ 0 (by omega)))
theorem c7_tie (hW : WX M o W) : Rt (d + 1) 64 [zR 7 (o + 1)] M M (some (zI (nI (hTie (wH W) 0)))) := by
  obtain ⟨-, -, -, -, -, -, -, -, -, -, -, -, -, h⟩ := hW
  refine ro_rt (g_X7_tie ?_)
  rcases h with ⟨h1, h2⟩ | ⟨a, h1, h2, h3⟩
  · rw [h1, h2]
    exact ⟨fun _ => ⟨rfl, rfl⟩, fun h => absurd rfl h⟩
  · rw [h1]
    exact ⟨fun h => by omega, fun _ => ⟨by omega, rfl, by rw [h3.1]⟩⟩
theorem c7_liking (ho : o ≤ 25) (hW : WX M o W) (hB : WBd W) {a m : Nat} (ha : a < 7) : ∃ M', Rt (d + 3) 65 [zR 7 (o + 1), zI (nI a), zI (nI m)] M M' (some (zI (sLike W a m))) ∧ FF o M M' := by
  have b := hB
  have hW' := hW
  obtain ⟨n0, -, -, n12, v2, -, -, v5, -, -, -, -, -, h⟩ := hW
  obtain ⟨b1, b2, b3, -, b5, -⟩ := hB
  refine ro_rv (g_X7_liking ?_)
  rcases h with ⟨h1, h2⟩ | ⟨q, h1, h2, h3⟩
  · rw [h1]
    refine ⟨fun _ => ⟨?_, FF.rfl⟩, fun h => absurd rfl h⟩
    unfold sLike
    rw [h2]
    rfl
  · rw [h1]
    have hl := sSeat_lt b a
    refine ⟨fun h => by omega, fun _ => ⟨M, _, c7_seatOf hW' b ha, in_nI ha (by omega), in_nI hl (by omega), by omega, ?_⟩⟩
    rw [h1]
    have e1 : ∀ (f : Nat → Nat → Int32) k v a', a' ≠ o + 12 → zu f (o + 12) k v a' = f a' := fun f k v a' h => zu_ne h
    refine ⟨_, _, c3_weigh (p1 := o + 11) (F := sFact W a m) (H := wH W) (fun k hk => ?_) ?_, rfl, ?_⟩
    · rw [zn_nI (by omega), zn_nI (by omega)]
      repeat rw [e1 _ _ _ (o + 5) (by omega)]
      repeat rw [e1 _ _ _ (o + 1) (by omega)]
      repeat rw [e1 _ _ _ (o + 2) (by omega)]
      rw [v5 _ (by omega), n12, v2 _ (by omega), l_60, zrem_nI (by omega) (by omega) (by omega)]
      show (zu (zu (zu (zu (zu (zu M.1 (o + 12) 0 _) (o + 12) 1 _) (o + 12) 2 _) (o + 12) 3 _) (o + 12) 4 _) (o + 12) 5 _) (o + 12) k = _
      match k, hk with
      | 0, _ => rw [zu_kn (by omega), zu_kn (by omega), zu_kn (by omega), zu_kn (by omega), zu_kn (by omega), zu_kk]; rfl
      | 1, _ => rw [zu_kn (by omega), zu_kn (by omega), zu_kn (by omega), zu_kn (by omega), zu_kk]; rfl
      | 2, _ => rw [zu_kn (by omega), zu_kn (by omega), zu_kn (by omega), zu_kk]; rfl
      | 3, _ => rw [zu_kn (by omega), zu_kn (by omega), zu_kk]; rfl
      | 4, _ => rw [zu_kn (by omega), zu_kk]; rfl
      | 5, _ => rw [zu_kk]; rfl
    · exact HX_eq (fun c h4 h5 => by
        show (zu (zu (zu (zu (zu (zu M.1 (o + 12) 0 _) (o + 12) 1 _) (o + 12) 2 _) (o + 12) 3 _) (o + 12) 4 _) (o + 12) 5 _) c = _
        rw [e1 _ _ _ c (by omega), e1 _ _ _ c (by omega), e1 _ _ _ c (by omega), e1 _ _ _ c (by omega), e1 _ _ _ c (by omega), e1 _ _ _ c (by omega)]) h3
    · refine ⟨fun c h5 => ?_, rfl⟩
      show (zu (zu (zu (zu (zu (zu M.1 (o + 12) 0 _) (o + 12) 1 _) (o + 12) 2 _) (o + 12) 3 _) (o + 12) 4 _) (o + 12) 5 _) c = _
      rw [e1 _ _ _ c (by omega), e1 _ _ _ c (by omega), e1 _ _ _ c (by omega), e1 _ _ _ c (by omega), e1 _ _ _ c (by omega), e1 _ _ _ c (by omega)]
theorem c7_signOf {x : Int32} : Rt (d + 1) 69 [zI x] M M (some (zI (sSign x))) := by
  refine ro_rt (g_X7_signOf ?_)
  unfold sSign
  refine ⟨fun h => ?_, fun h => ⟨fun h2 => ?_, fun h2 => ?_⟩⟩
  · rw [if_pos h]; exact ⟨rfl, rfl⟩
  · rw [if_neg h, if_pos h2]; exact ⟨rfl, rfl⟩
  · rw [if_neg h, if_neg h2]; exact ⟨rfl, rfl⟩
end WX
