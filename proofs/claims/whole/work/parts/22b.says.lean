/-! SeatOn's Wheel: what all say -/
theorem nI_z {a : Nat} (h : a < 2 ^ 31) : (nI a = 0) = (a = 0) := nI_eqe h (by decide)
theorem nI_zlt {a : Nat} (h : a < 2 ^ 31) : ((0 : Int32) < nI a) = (0 < a) := nI_lte (by decide) h
def sKind (W : Wv) (a m : Nat) : Int32 :=
  if wK W a = 1 then (if wY W m = nI a then 1 else 2)
  else if wK W a = 2 then (if wV W (sSeat W a) = 0 then 0 else 2)
  else if wK W a = 3 then (if wT W % (wU W a + 2) = 0 then 0 else 2)
  else if wK W a = 4 then (if wY W m = nI a then 1 else if wX W (sSeat W a) = 1 then -1 else 2)
  else if wK W a = 5 then (if wV W (sSeat W a) = 0 then 0 else 2)
  else if wK W a = 6 then (if wT W % (wU W a + 2) = 0 then 0 else 2)
  else 2
def sHeard (W : Wv) (a m : Nat) : Nat := if wK W a = 6 then wU W a % wM W else m
section SX
variable {d o : Nat} {M : ZM} {W : Wv}
theorem c7_kind (hW : WX M o W) (hB : WBd W) {a m : Nat} (ha : a < 7) (hm : m < 6) : Rt (d + 2) 67 [zR 7 (o + 1), zI (nI a), zI (nI m)] M M (some (zI (sKind W a m))) := by
  have hl := sSeat_lt hB a
  refine ro_rt (g_X7_answerOfKind ⟨M, _, c7_seatOf hW hB ha, in_nI hm (by omega), ?_⟩)
  obtain ⟨n0, -, -, n12, v2, v3, -, v5, v6, -, -, v9, -⟩ := hW
  obtain ⟨b1, b2, -, -, b5, b6, b7, -⟩ := hB
  have u := b7 a
  have z1 : ¬ (nI (wU W a) + 2 = 0) := by rw [l_2, nI_add]; exact nI_ne0 (by omega) (by omega)
  have z2 : (zrem (nI (wT W)) (nI (wU W a) + 2) = 0) = (wT W % (wU W a + 2) = 0) := by
    rw [l_2, nI_add, zrem_nI (by omega) (by omega) (by omega)]
    have := Nat.mod_le (wT W) (wU W a + 2)
    exact nI_z (by omega)
  have z3 : (nI (wV W (sSeat W a)) = 0) = (wV W (sSeat W a) = 0) := nI_z (by have := b6 (sSeat W a); omega)
  rw [zn_nI (by omega : m < 2 ^ 31), zn_nI (by omega : a < 2 ^ 31), zn_nI (by omega : sSeat W a < 2 ^ 31), v9 _ (by omega), v5 _ (by omega), v2 _ (by omega), v3 _ (by omega), v6 _ (by omega), n12, z2, z3]
  have i1 := in_n ha (by omega)
  have i2 := in_n hl (by omega)
  unfold sKind
  repeat' first
    | exact i1
    | exact i2
    | exact z1
    | (refine And.intro (fun h => ?_) (fun h => ?_))
    | (refine And.intro ?_ ?_)
    | done
  all_goals first
    | rfl
    | simp_all
theorem c7_heard (hW : WX M o W) (hB : WBd W) {a m : Nat} (ha : a < 7) (hm : m < wM W) : Rt (d + 1) 68 [zR 7 (o + 1), zI (nI a), zI (nI m)] M M (some (zI (nI (sHeard W a m)))) := by
  refine ro_rt (g_X7_heardBy ⟨in_nI ha (by omega), ?_⟩)
  obtain ⟨n0, -, n7, n12, v2, v3, -, v5, v6, -, -, v9, -⟩ := hW
  obtain ⟨b1, b2, -, b4, b5, b6, b7, -⟩ := hB
  have u := b7 a
  rw [zn_nI (by omega : a < 2 ^ 31), v5 _ (by omega), v6 _ (by omega), n7, zrem_nI (by omega) (by omega) (by omega)]
  unfold sHeard
  refine ⟨fun h => ⟨fun _ => ⟨in_n ha (by omega), nI_ne0 (by omega) (by omega), rfl, by rw [if_pos h]⟩, fun q => by rw [nI_zlt (by omega)] at q; omega⟩, fun h => ⟨rfl, by rw [if_neg h]⟩⟩
/-- the neighbour of a SIDED one -/
theorem c7_next (ho : o ≤ 25) (hW : WX M o W) (hB : WBd W) {a m : Nat} (ha : a < 7) {R : ZM → Option ZV → Prop} (K : ∀ M', FF o M M' → R M' (some (zI (match sSit W ((sSeat W a + 1) % wN W) with | none => 0 | some b => sPlain W b m)))) :
    ∃ (M9 : ZM) (r10 : Int32), Rt (d + 3) 62 [zR 7 (o + 1), zI (nI a)] M M9 (some (zI r10)) ∧ (¬ ((M9.1 (o + 1) 0) = 0) ∧ (∃ (M11 : ZM) (r12 : Int32), Rt (d + 3) 63 [zR 7 (o + 1), zI (zrem (r10 + 1) (M9.1 (o + 1) 0))] M9 M11 (some (zI r12)) ∧ ((r12 = (-5) → R M11 (some (zI 0))) ∧ (¬ (r12 = (-5)) → (∃ (M13 : ZM) (r14 : Int32), Rt (d + 3) 65 [zR 7 (o + 1), zI r12, zI (nI m)] M11 M13 (some (zI r14)) ∧ (∃ (M15 : ZM) (r16 : Int32), Rt (d + 3) 69 [zI r14] M13 M15 (some (zI r16)) ∧ R M15 (some (zI r16)))))))) := by
  have hl := sSeat_lt hB a
  have hW' := hW
  have hB' := hB
  obtain ⟨n0, -⟩ := hW
  obtain ⟨b1, b2, b3, -⟩ := hB
  have hn : (sSeat W a + 1) % wN W < 7 := Nat.lt_of_lt_of_le (Nat.mod_lt _ (by omega)) b2
  refine ⟨M, _, c7_seatOf hW' hB' ha, by rw [n0]; exact nI_ne0 (by omega) (by omega), ?_⟩
  rw [n0, nI_1, zrem_nI (by omega) (by omega) (by omega)]
  refine ⟨M, _, c7_sitter hW' hB' hn, ?_⟩
  cases hs : sSit W ((sSeat W a + 1) % wN W) with
  | none =>
    have := K M FF.rfl
    rw [hs] at this
    exact ⟨fun _ => this, fun h => absurd rfl h⟩
  | some b =>
    have hb := lfnd_lt hs
    refine ⟨fun h => ?_, fun _ => ?_⟩
    · have h' : (nI b = -5) := h
      rw [nI_m5 (by omega)] at h'
      exact h'.elim
    · obtain ⟨M2, h2, f2⟩ := c7_liking (d := d) (m := m) ho hW' hB' (by omega : b < 7)
      have := K M2 f2
      rw [hs] at this
      exact ⟨M2, _, h2, M2, _, c7_signOf, this⟩
theorem c7_answer (ho : o ≤ 25) (hW : WX M o W) (hB : WBd W) {a m : Nat} (ha : a < wP W) (hm : m < wM W) : ∃ M', Rt (d + 4) 66 [zR 7 (o + 1), zI (nI a), zI (nI m)] M M' (some (zI (sSays W a m))) ∧ FF o M M' := by
  have b3 := hB.2.2.1
  have b2 := hB.2.1
  have b4 := hB.2.2.2.1
  have ha7 : a < 7 := by omega
  have v5 := hW.2.2.2.2.2.2.2.1
  refine ro_rv (g_X7_answer ⟨M, _, c7_kind hW hB ha7 (by omega), ?_⟩)
  have h21 : (2 : Int32) = 1 ↔ False := by decide
  refine ⟨fun h2 => ?_, fun h2 => ?_⟩
  · obtain ⟨M1, h1, f1⟩ := c7_liking (d := d) (m := sHeard W a m) ho hW hB ha7
    have hW1 := WX_FX ho f1.x hW
    refine ⟨M, _, c7_heard hW hB ha7 hm, M1, _, h1, M1, _, c7_signOf, ?_⟩
    have v5' := hW1.2.2.2.2.2.2.2.1
    rw [zn_nI (by omega : a < 2 ^ 31), v5' _ (by omega)]
    have hp : sSign (sLike W a (sHeard W a m)) = sPlain W a (sHeard W a m) := rfl
    rw [hp]
    unfold sKind at h2
    refine ⟨fun h0 => ⟨in_n ha7 (by omega), fun h5 => ?_, fun h5 => ?_⟩, fun h0 => ?_⟩
    · refine c7_next (d := d) (m := m) (R := fun M' v => v = some (zI (sSays W a m)) ∧ FF o M M') ho hW1 hB ha7 (fun M2 f2 => ⟨?_, f1.trans f2⟩)
      rw [h5] at h2
      unfold sSays sSided sIdly
      unfold sHeard at h0
      rw [h5] at h0 ⊢
      have h56 : ¬ (5 : Int32) = 6 := by decide
      rw [if_neg h56] at h0
      by_cases hv : wV W (sSeat W a) = 0
      · rw [if_pos hv] at h2
        have h2' : (0 : Int32) = 2 := h2
        exact absurd h2' (by decide)
      · rw [if_neg hv, h0]
        rfl
    · refine ⟨?_, f1⟩
      unfold sSays sIdly sAway
      unfold sHeard at h0 ⊢
      congr 2
      (repeat' split at h2) <;> simp_all
    · refine ⟨?_, f1⟩
      unfold sSays sSided sIdly sAway
      unfold sHeard at h0 ⊢
      congr 2
      (repeat' split at h2) <;> simp_all
  · rw [zn_nI (by omega : a < 2 ^ 31), v5 _ (by omega)]
    refine ⟨fun h0 => ⟨in_n ha7 (by omega), fun h5 => ?_, fun h5 => ?_⟩, fun h0 => ?_⟩
    · refine c7_next (d := d) (m := m) (R := fun M' v => v = some (zI (sSays W a m)) ∧ FF o M M') ho hW hB ha7 (fun M2 f2 => ⟨?_, f2⟩)
      unfold sKind at h2 h0
      rw [h5] at h2
      unfold sSays sSided sIdly
      rw [h5]
      by_cases hv : wV W (sSeat W a) = 0
      · rw [if_pos hv]
        rfl
      · rw [if_neg hv] at h2
        exact absurd rfl h2
    · refine ⟨?_, FF.rfl⟩
      unfold sKind at h2 h0 ⊢
      unfold sSays sIdly sAway
      congr 2
      (repeat' split at h2) <;> simp_all
    · refine ⟨?_, FF.rfl⟩
      unfold sKind at h2 h0 ⊢
      unfold sSays sIdly sAway
      congr 2
      (repeat' split at h2) <;> simp_all
end SX
