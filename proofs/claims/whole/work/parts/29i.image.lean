/-! The calls: image, undo -/
theorem rt_det {d m : Nat} {as : List ZV} {M M1 M2 : ZM} {v1 v2 : Option ZV} (h1 : Rt d m as M M1 v1) (h2 : Rt d m as M M2 v2) : M1 = M2 ∧ v1 = v2 := by
  obtain ⟨N1, g1⟩ := h1
  obtain ⟨N2, g2⟩ := h2
  have a := g1 (N1 + N2) (by omega)
  have b := g2 (N1 + N2) (by omega)
  rw [a] at b
  have c := Option.some.inj b
  exact ⟨congrArg Prod.fst c, congrArg Prod.snd c⟩
section IM
variable {d : Nat} {M : ZM} {W : Wv}
theorem c7_bref (o p : Nat) : ∃ M', Rt (d + 1) 60 [zR 7 (o + 1), zR 7 (p + 1)] M M' none ∧ M'.2.2.1 (o + 1) 13 = M.2.2.1 (p + 1) 13 := ro_rv (g_X7_becomeAs (a_X7_becomeAs_8 (a_X7_becomeAs_23 (a_X7_becomeAs_38 (a_X7_becomeAs_53 (a_X7_becomeAs_61 (a_X7_becomeAs_76 (a_X7_becomeAs_91 (a_X7_becomeAs_99 (a_X7_becomeAs_114 (a_X7_becomeAs_129 (a_X7_becomeAs_144 (a_X7_becomeAs_159 (a_X7_becomeAs_167 (a_X7_becomeAs_175 ⟨rfl, zu_kk⟩)))))))))))))))
theorem c5_become {o p : Nat} (hop : o + 3 ≤ p ∨ p + 3 ≤ o) : ∃ M', Rt (d + 1) 42 [zR 5 (o + 1), zR 5 (p + 1)] M M' none ∧ M'.1 (o + 1) 0 = M.1 (p + 1) 0 ∧ (∀ k, k < 8 → M'.1 (o + 2) k = M.1 (p + 2) k) ∧ (∀ k, k < 8 → M'.1 (o + 3) k = M.1 (p + 3) k) ∧ (∀ a, a ≠ o + 1 → a ≠ o + 2 → a ≠ o + 3 → M'.1 a = M.1 a) ∧ M'.2 = M.2 := by
  refine ro_rv (g_X5_becomeAs ?_)
  generalize h1 : ((zu M.1 (o + 1) 0 (M.1 (p + 1) 0), M.2) : ZM) = M1
  have f1 : ∀ b, b ≠ o + 1 → M1.1 b = M.1 b := fun b h => by rw [← h1]; exact zu_ne h
  have e1 : M1.1 (o + 1) 0 = M.1 (p + 1) 0 := by rw [← h1]; exact zu_kk
  have r1 : M1.2 = M.2 := by rw [← h1]
  refine a_X5_becomeAs_8 ?_
  generalize h2 : ((zcp M1.1 (p + 2) (zn 0) (o + 2) (zn 0) (zn 8), M1.2) : ZM) = M2
  have f2 : ∀ b, b ≠ o + 2 → M2.1 b = M1.1 b := fun b h => by rw [← h2]; exact zcp_ne h
  have v2 : ∀ k, k < 8 → M2.1 (o + 2) k = M1.1 (p + 2) k := fun k h => by rw [← h2]; exact zcp_all h
  have r2 : M2.2 = M1.2 := by rw [← h2]
  refine a_X5_becomeAs_23 ?_
  generalize h3 : ((zcp M2.1 (p + 3) (zn 0) (o + 3) (zn 0) (zn 8), M2.2) : ZM) = M3
  have f3 : ∀ b, b ≠ o + 3 → M3.1 b = M2.1 b := fun b h => by rw [← h3]; exact zcp_ne h
  have v3 : ∀ k, k < 8 → M3.1 (o + 3) k = M2.1 (p + 3) k := fun k h => by rw [← h3]; exact zcp_all h
  have r3 : M3.2 = M2.2 := by rw [← h3]
  refine a_X5_becomeAs_38 ⟨rfl, ?_, fun k hk => ?_, fun k hk => ?_, fun a h1 h2 h3 => ?_, ?_⟩
  · rw [f3 _ (by omega), f2 _ (by omega), e1]
  · rw [f3 _ (by omega), v2 k hk, f1 _ (by omega)]
  · rw [v3 k hk, f2 _ (by omega), f1 _ (by omega)]
  · rw [f3 _ h3, f2 _ h2, f1 _ h1]
  · rw [r3, r2, r1]
theorem c2_become {o p : Nat} (hop : o + 2 ≤ p ∨ p + 2 ≤ o) : ∃ M', Rt (d + 1) 15 [zR 2 (o + 1), zR 2 (p + 1)] M M' none ∧ M'.1 (o + 1) 0 = M.1 (p + 1) 0 ∧ (∀ k, k < 12 → M'.1 (o + 2) k = M.1 (p + 2) k) ∧ (∀ a, a ≠ o + 1 → a ≠ o + 2 → M'.1 a = M.1 a) ∧ M'.2 = M.2 := by
  refine ro_rv (g_X2_becomeAs ?_)
  generalize h1 : ((zu M.1 (o + 1) 0 (M.1 (p + 1) 0), M.2) : ZM) = M1
  have f1 : ∀ b, b ≠ o + 1 → M1.1 b = M.1 b := fun b h => by rw [← h1]; exact zu_ne h
  have e1 : M1.1 (o + 1) 0 = M.1 (p + 1) 0 := by rw [← h1]; exact zu_kk
  have r1 : M1.2 = M.2 := by rw [← h1]
  refine a_X2_becomeAs_8 ?_
  generalize h2 : ((zcp M1.1 (p + 2) (zn 0) (o + 2) (zn 0) (zn 12), M1.2) : ZM) = M2
  have f2 : ∀ b, b ≠ o + 2 → M2.1 b = M1.1 b := fun b h => by rw [← h2]; exact zcp_ne h
  have v2 : ∀ k, k < 12 → M2.1 (o + 2) k = M1.1 (p + 2) k := fun k h => by rw [← h2]; exact zcp_all h
  have r2 : M2.2 = M1.2 := by rw [← h2]
  refine a_X2_becomeAs_23 ⟨rfl, ?_, fun k hk => ?_, fun a h1 h2 => ?_, ?_⟩
  · rw [f2 _ (by omega), e1]
  · rw [v2 k hk, f1 _ (by omega)]
  · rw [f2 _ h2, f1 _ h1]
  · rw [r2, r1]
theorem l9_image_63 {M0 : ZM} {R : ZM → Option ZV → Prop} : ∀ (j k : Nat) (M : ZM), k + j = 7 → (∀ a, a ≠ 95 → a ≠ 96 → a ≠ 97 → a ≠ 98 → a ≠ 99 → M.1 a = M0.1 a) → M.2 = M0.2 → (∀ q, q < k → M.1 95 q = M0.1 65 q ∧ M.1 96 q = M0.1 66 q ∧ M.1 97 q = M0.1 67 q ∧ M.1 98 q = M0.1 68 q ∧ M.1 99 q = M0.1 69 q) → (∀ M', (∀ a, a ≠ 95 → a ≠ 96 → a ≠ 97 → a ≠ 98 → a ≠ 99 → M'.1 a = M0.1 a) → M'.2 = M0.2 → (∀ q, q < 7 → M'.1 95 q = M0.1 65 q ∧ M'.1 96 q = M0.1 66 q ∧ M'.1 97 q = M0.1 67 q ∧ M'.1 98 q = M0.1 68 q ∧ M'.1 99 q = M0.1 69 q) → A_X9_image_137 d M' 0 R) → A_X9_image_63 d M (nI k) R := by
  intro j
  induction j with
  | zero =>
    intro k M hk hf hr hq K
    exact a_X9_image_63 ⟨fun q => absurd q (nI_nlt (b := 7) (by omega) (by omega)), fun _ => K M hf hr (fun q h => hq q (by omega))⟩
  | succ j ih =>
    intro k M hk hf hr hq K
    refine a_X9_image_63 ?_
    rw [zn_nI (by omega), nI_1]
    refine ⟨fun _ => ⟨in_n (by omega) (by omega), in_n (by omega) (by omega), in_n (by omega) (by omega), in_n (by omega) (by omega), in_n (by omega) (by omega), in_n (by omega) (by omega), in_n (by omega) (by omega), in_n (by omega) (by omega), in_n (by omega) (by omega), in_n (by omega) (by omega), ih (k + 1) _ (by omega) (fun a h0 h1 h2 h3 h4 => (zu_ne h4).trans ((zu_ne h3).trans ((zu_ne h2).trans ((zu_ne h1).trans ((zu_ne h0).trans (hf a h0 h1 h2 h3 h4)))))) hr (fun q h => ?_) K⟩, fun q => absurd (nI_lt (b := 7) (by omega) (by omega)) q⟩
    have hs : ∀ s, s ≠ 95 ∧ s ≠ 96 ∧ s ≠ 97 ∧ s ≠ 98 ∧ s ≠ 99 → M.1 s = M0.1 s := fun s h => hf s (by omega) (by omega) (by omega) (by omega) (by omega)
    by_cases e : q = k
    · rw [e]
      refine ⟨?_, ?_, ?_, ?_, ?_⟩
      · refine Eq.trans (zu_kk (f := M.1) (a := 95) (k := k) (v := M.1 65 k)) ?_
        rw [hs 65 (by omega)]
      · refine Eq.trans (zu_kk (f := M.1) (a := 96) (k := k) (v := M.1 66 k)) ?_
        rw [hs 66 (by omega)]
      · refine Eq.trans (zu_kk (f := M.1) (a := 97) (k := k) (v := M.1 67 k)) ?_
        rw [hs 67 (by omega)]
      · refine Eq.trans (zu_kk (f := M.1) (a := 98) (k := k) (v := M.1 68 k)) ?_
        rw [hs 68 (by omega)]
      · refine Eq.trans (zu_kk (f := M.1) (a := 99) (k := k) (v := M.1 69 k)) ?_
        rw [hs 69 (by omega)]
    · have h' := hq q (by omega)
      refine ⟨?_, ?_, ?_, ?_, ?_⟩
      · exact Eq.trans (zu_kn (f := M.1) (a := 95) (k := k) (v := M.1 65 k) e) h'.1
      · exact Eq.trans (zu_kn (f := M.1) (a := 96) (k := k) (v := M.1 66 k) e) h'.2.1
      · exact Eq.trans (zu_kn (f := M.1) (a := 97) (k := k) (v := M.1 67 k) e) h'.2.2.1
      · exact Eq.trans (zu_kn (f := M.1) (a := 98) (k := k) (v := M.1 68 k) e) h'.2.2.2.1
      · exact Eq.trans (zu_kn (f := M.1) (a := 99) (k := k) (v := M.1 69 k) e) h'.2.2.2.2
theorem l9_image_137 {M0 : ZM} {R : ZM → Option ZV → Prop} : ∀ (j k : Nat) (M : ZM), k + j = 6 → (∀ a, a ≠ 100 → a ≠ 101 → a ≠ 102 → a ≠ 106 → M.1 a = M0.1 a) → M.2 = M0.2 → (∀ q, q < k → M.1 100 q = M0.1 70 q ∧ M.1 101 q = M0.1 71 q ∧ M.1 102 q = M0.1 72 q ∧ M.1 106 q = vp_nar .boolean (M0.1 73 q)) → (∀ M', (∀ a, a ≠ 100 → a ≠ 101 → a ≠ 102 → a ≠ 106 → M'.1 a = M0.1 a) → M'.2 = M0.2 → (∀ q, q < 6 → M'.1 100 q = M0.1 70 q ∧ M'.1 101 q = M0.1 71 q ∧ M'.1 102 q = M0.1 72 q ∧ M'.1 106 q = vp_nar .boolean (M0.1 73 q)) → A_X9_image_199 d M' 0 R) → A_X9_image_137 d M (nI k) R := by
  intro j
  induction j with
  | zero =>
    intro k M hk hf hr hq K
    exact a_X9_image_137 ⟨fun q => absurd q (nI_nlt (b := 6) (by omega) (by omega)), fun _ => K M hf hr (fun q h => hq q (by omega))⟩
  | succ j ih =>
    intro k M hk hf hr hq K
    refine a_X9_image_137 ?_
    rw [zn_nI (by omega), nI_1]
    refine ⟨fun _ => ⟨in_n (by omega) (by omega), in_n (by omega) (by omega), in_n (by omega) (by omega), in_n (by omega) (by omega), in_n (by omega) (by omega), in_n (by omega) (by omega), in_n (by omega) (by omega), in_n (by omega) (by omega), ih (k + 1) _ (by omega) (fun a h0 h1 h2 h3 => (zu_ne h3).trans ((zu_ne h2).trans ((zu_ne h1).trans ((zu_ne h0).trans (hf a h0 h1 h2 h3))))) hr (fun q h => ?_) K⟩, fun q => absurd (nI_lt (b := 6) (by omega) (by omega)) q⟩
    have hs : ∀ s, s ≠ 100 ∧ s ≠ 101 ∧ s ≠ 102 ∧ s ≠ 106 → M.1 s = M0.1 s := fun s h => hf s (by omega) (by omega) (by omega) (by omega)
    by_cases e : q = k
    · rw [e]
      refine ⟨?_, ?_, ?_, ?_⟩
      · refine Eq.trans (zu_kk (f := M.1) (a := 100) (k := k) (v := M.1 70 k)) ?_
        rw [hs 70 (by omega)]
      · refine Eq.trans (zu_kk (f := M.1) (a := 101) (k := k) (v := M.1 71 k)) ?_
        rw [hs 71 (by omega)]
      · refine Eq.trans (zu_kk (f := M.1) (a := 102) (k := k) (v := M.1 72 k)) ?_
        rw [hs 72 (by omega)]
      · refine Eq.trans (zu_kk (f := M.1) (a := 106) (k := k) (v := vp_nar .boolean (M.1 73 k))) ?_
        rw [hs 73 (by omega)]
    · have h' := hq q (by omega)
      refine ⟨?_, ?_, ?_, ?_⟩
      · exact Eq.trans (zu_kn (f := M.1) (a := 100) (k := k) (v := M.1 70 k) e) h'.1
      · exact Eq.trans (zu_kn (f := M.1) (a := 101) (k := k) (v := M.1 71 k) e) h'.2.1
      · exact Eq.trans (zu_kn (f := M.1) (a := 102) (k := k) (v := M.1 72 k) e) h'.2.2.1
      · exact Eq.trans (zu_kn (f := M.1) (a := 106) (k := k) (v := vp_nar .boolean (M.1 73 k)) e) h'.2.2.2
theorem l9_image_199 {M0 : ZM} {R : ZM → Option ZV → Prop} : ∀ (j k : Nat) (M : ZM), k + j = 8 → (∀ a, a ≠ 103 → a ≠ 104 → M.1 a = M0.1 a) → M.2 = M0.2 → (∀ q, q < k → M.1 103 q = M0.1 90 q ∧ M.1 104 q = M0.1 91 q) → (∀ M', (∀ a, a ≠ 103 → a ≠ 104 → M'.1 a = M0.1 a) → M'.2 = M0.2 → (∀ q, q < 8 → M'.1 103 q = M0.1 90 q ∧ M'.1 104 q = M0.1 91 q) → A_X9_image_237 d M' 0 R) → A_X9_image_199 d M (nI k) R := by
  intro j
  induction j with
  | zero =>
    intro k M hk hf hr hq K
    exact a_X9_image_199 ⟨fun q => absurd q (nI_nlt (b := 8) (by omega) (by omega)), fun _ => K M hf hr (fun q h => hq q (by omega))⟩
  | succ j ih =>
    intro k M hk hf hr hq K
    refine a_X9_image_199 ?_
    rw [zn_nI (by omega), nI_1]
    refine ⟨fun _ => ⟨in_n (by omega) (by omega), in_n (by omega) (by omega), in_n (by omega) (by omega), in_n (by omega) (by omega), ih (k + 1) _ (by omega) (fun a h0 h1 => (zu_ne h1).trans ((zu_ne h0).trans (hf a h0 h1))) hr (fun q h => ?_) K⟩, fun q => absurd (nI_lt (b := 8) (by omega) (by omega)) q⟩
    have hs : ∀ s, s ≠ 103 ∧ s ≠ 104 → M.1 s = M0.1 s := fun s h => hf s (by omega) (by omega)
    by_cases e : q = k
    · rw [e]
      refine ⟨?_, ?_⟩
      · refine Eq.trans (zu_kk (f := M.1) (a := 103) (k := k) (v := M.1 90 k)) ?_
        rw [hs 90 (by omega)]
      · refine Eq.trans (zu_kk (f := M.1) (a := 104) (k := k) (v := M.1 91 k)) ?_
        rw [hs 91 (by omega)]
    · have h' := hq q (by omega)
      refine ⟨?_, ?_⟩
      · exact Eq.trans (zu_kn (f := M.1) (a := 103) (k := k) (v := M.1 90 k) e) h'.1
      · exact Eq.trans (zu_kn (f := M.1) (a := 104) (k := k) (v := M.1 91 k) e) h'.2
theorem l9_image_237 {M0 : ZM} {R : ZM → Option ZV → Prop} : ∀ (j k : Nat) (M : ZM), k + j = 12 → (∀ a, a ≠ 105 → M.1 a = M0.1 a) → M.2 = M0.2 → (∀ q, q < k → M.1 105 q = M0.1 93 q) → (∀ M', (∀ a, a ≠ 105 → M'.1 a = M0.1 a) → M'.2 = M0.2 → (∀ q, q < 12 → M'.1 105 q = M0.1 93 q) → R M' (some (zI (M'.1 64 1)))) → A_X9_image_237 d M (nI k) R := by
  intro j
  induction j with
  | zero =>
    intro k M hk hf hr hq K
    exact a_X9_image_237 ⟨fun q => absurd q (nI_nlt (b := 12) (by omega) (by omega)), fun _ => K M hf hr (fun q h => hq q (by omega))⟩
  | succ j ih =>
    intro k M hk hf hr hq K
    refine a_X9_image_237 ?_
    rw [zn_nI (by omega), nI_1]
    refine ⟨fun _ => ⟨in_n (by omega) (by omega), in_n (by omega) (by omega), ih (k + 1) _ (by omega) (fun a h0 => (zu_ne h0).trans (hf a h0)) hr (fun q h => ?_) K⟩, fun q => absurd (nI_lt (b := 12) (by omega) (by omega)) q⟩
    have hs : ∀ s, s ≠ 105 → M.1 s = M0.1 s := fun s h => hf s (by omega)
    by_cases e : q = k
    · rw [e]
      refine ?_
      · refine Eq.trans (zu_kk (f := M.1) (a := 105) (k := k) (v := M.1 93 k)) ?_
        rw [hs 93 (by omega)]
    · have h' := hq q (by omega)
      refine ?_
      · exact Eq.trans (zu_kn (f := M.1) (a := 105) (k := k) (v := M.1 93 k) e) h'
theorem l9_undo_68 {M0 : ZM} {R : ZM → Option ZV → Prop} : ∀ (j k : Nat) (M : ZM), k + j = 7 → (∀ a, a ≠ 65 → a ≠ 66 → a ≠ 67 → a ≠ 68 → a ≠ 69 → M.1 a = M0.1 a) → M.2 = M0.2 → (∀ q, q < k → M.1 65 q = M0.1 95 q ∧ M.1 66 q = M0.1 96 q ∧ M.1 67 q = M0.1 97 q ∧ M.1 68 q = M0.1 98 q ∧ M.1 69 q = M0.1 99 q) → (∀ M', (∀ a, a ≠ 65 → a ≠ 66 → a ≠ 67 → a ≠ 68 → a ≠ 69 → M'.1 a = M0.1 a) → M'.2 = M0.2 → (∀ q, q < 7 → M'.1 65 q = M0.1 95 q ∧ M'.1 66 q = M0.1 96 q ∧ M'.1 67 q = M0.1 97 q ∧ M'.1 68 q = M0.1 98 q ∧ M'.1 69 q = M0.1 99 q) → A_X9_undo_142 d M' 0 R) → A_X9_undo_68 d M (nI k) R := by
  intro j
  induction j with
  | zero =>
    intro k M hk hf hr hq K
    exact a_X9_undo_68 ⟨fun q => absurd q (nI_nlt (b := 7) (by omega) (by omega)), fun _ => K M hf hr (fun q h => hq q (by omega))⟩
  | succ j ih =>
    intro k M hk hf hr hq K
    refine a_X9_undo_68 ?_
    rw [zn_nI (by omega), nI_1]
    refine ⟨fun _ => ⟨in_n (by omega) (by omega), in_n (by omega) (by omega), in_n (by omega) (by omega), in_n (by omega) (by omega), in_n (by omega) (by omega), in_n (by omega) (by omega), in_n (by omega) (by omega), in_n (by omega) (by omega), in_n (by omega) (by omega), in_n (by omega) (by omega), ih (k + 1) _ (by omega) (fun a h0 h1 h2 h3 h4 => (zu_ne h4).trans ((zu_ne h3).trans ((zu_ne h2).trans ((zu_ne h1).trans ((zu_ne h0).trans (hf a h0 h1 h2 h3 h4)))))) hr (fun q h => ?_) K⟩, fun q => absurd (nI_lt (b := 7) (by omega) (by omega)) q⟩
    have hs : ∀ s, s ≠ 65 ∧ s ≠ 66 ∧ s ≠ 67 ∧ s ≠ 68 ∧ s ≠ 69 → M.1 s = M0.1 s := fun s h => hf s (by omega) (by omega) (by omega) (by omega) (by omega)
    by_cases e : q = k
    · rw [e]
      refine ⟨?_, ?_, ?_, ?_, ?_⟩
      · refine Eq.trans (zu_kk (f := M.1) (a := 65) (k := k) (v := M.1 95 k)) ?_
        rw [hs 95 (by omega)]
      · refine Eq.trans (zu_kk (f := M.1) (a := 66) (k := k) (v := M.1 96 k)) ?_
        rw [hs 96 (by omega)]
      · refine Eq.trans (zu_kk (f := M.1) (a := 67) (k := k) (v := M.1 97 k)) ?_
        rw [hs 97 (by omega)]
      · refine Eq.trans (zu_kk (f := M.1) (a := 68) (k := k) (v := M.1 98 k)) ?_
        rw [hs 98 (by omega)]
      · refine Eq.trans (zu_kk (f := M.1) (a := 69) (k := k) (v := M.1 99 k)) ?_
        rw [hs 99 (by omega)]
    · have h' := hq q (by omega)
      refine ⟨?_, ?_, ?_, ?_, ?_⟩
      · exact Eq.trans (zu_kn (f := M.1) (a := 65) (k := k) (v := M.1 95 k) e) h'.1
      · exact Eq.trans (zu_kn (f := M.1) (a := 66) (k := k) (v := M.1 96 k) e) h'.2.1
      · exact Eq.trans (zu_kn (f := M.1) (a := 67) (k := k) (v := M.1 97 k) e) h'.2.2.1
      · exact Eq.trans (zu_kn (f := M.1) (a := 68) (k := k) (v := M.1 98 k) e) h'.2.2.2.1
      · exact Eq.trans (zu_kn (f := M.1) (a := 69) (k := k) (v := M.1 99 k) e) h'.2.2.2.2
theorem l9_undo_142 {M0 : ZM} {R : ZM → Option ZV → Prop} : ∀ (j k : Nat) (M : ZM), k + j = 6 → (∀ a, a ≠ 70 → a ≠ 71 → a ≠ 72 → a ≠ 73 → M.1 a = M0.1 a) → M.2 = M0.2 → (∀ q, q < k → M.1 70 q = M0.1 100 q ∧ M.1 71 q = M0.1 101 q ∧ M.1 72 q = M0.1 102 q ∧ M.1 73 q = vp_nar .boolean (M0.1 106 q)) → (∀ M', (∀ a, a ≠ 70 → a ≠ 71 → a ≠ 72 → a ≠ 73 → M'.1 a = M0.1 a) → M'.2 = M0.2 → (∀ q, q < 6 → M'.1 70 q = M0.1 100 q ∧ M'.1 71 q = M0.1 101 q ∧ M'.1 72 q = M0.1 102 q ∧ M'.1 73 q = vp_nar .boolean (M0.1 106 q)) → A_X9_undo_204 d M' 0 R) → A_X9_undo_142 d M (nI k) R := by
  intro j
  induction j with
  | zero =>
    intro k M hk hf hr hq K
    exact a_X9_undo_142 ⟨fun q => absurd q (nI_nlt (b := 6) (by omega) (by omega)), fun _ => K M hf hr (fun q h => hq q (by omega))⟩
  | succ j ih =>
    intro k M hk hf hr hq K
    refine a_X9_undo_142 ?_
    rw [zn_nI (by omega), nI_1]
    refine ⟨fun _ => ⟨in_n (by omega) (by omega), in_n (by omega) (by omega), in_n (by omega) (by omega), in_n (by omega) (by omega), in_n (by omega) (by omega), in_n (by omega) (by omega), in_n (by omega) (by omega), in_n (by omega) (by omega), ih (k + 1) _ (by omega) (fun a h0 h1 h2 h3 => (zu_ne h3).trans ((zu_ne h2).trans ((zu_ne h1).trans ((zu_ne h0).trans (hf a h0 h1 h2 h3))))) hr (fun q h => ?_) K⟩, fun q => absurd (nI_lt (b := 6) (by omega) (by omega)) q⟩
    have hs : ∀ s, s ≠ 70 ∧ s ≠ 71 ∧ s ≠ 72 ∧ s ≠ 73 → M.1 s = M0.1 s := fun s h => hf s (by omega) (by omega) (by omega) (by omega)
    by_cases e : q = k
    · rw [e]
      refine ⟨?_, ?_, ?_, ?_⟩
      · refine Eq.trans (zu_kk (f := M.1) (a := 70) (k := k) (v := M.1 100 k)) ?_
        rw [hs 100 (by omega)]
      · refine Eq.trans (zu_kk (f := M.1) (a := 71) (k := k) (v := M.1 101 k)) ?_
        rw [hs 101 (by omega)]
      · refine Eq.trans (zu_kk (f := M.1) (a := 72) (k := k) (v := M.1 102 k)) ?_
        rw [hs 102 (by omega)]
      · refine Eq.trans (zu_kk (f := M.1) (a := 73) (k := k) (v := vp_nar .boolean (M.1 106 k))) ?_
        rw [hs 106 (by omega)]
    · have h' := hq q (by omega)
      refine ⟨?_, ?_, ?_, ?_⟩
      · exact Eq.trans (zu_kn (f := M.1) (a := 70) (k := k) (v := M.1 100 k) e) h'.1
      · exact Eq.trans (zu_kn (f := M.1) (a := 71) (k := k) (v := M.1 101 k) e) h'.2.1
      · exact Eq.trans (zu_kn (f := M.1) (a := 72) (k := k) (v := M.1 102 k) e) h'.2.2.1
      · exact Eq.trans (zu_kn (f := M.1) (a := 73) (k := k) (v := vp_nar .boolean (M.1 106 k)) e) h'.2.2.2
theorem l9_undo_204 {M0 : ZM} {R : ZM → Option ZV → Prop} : ∀ (j k : Nat) (M : ZM), k + j = 8 → (∀ a, a ≠ 90 → a ≠ 91 → M.1 a = M0.1 a) → M.2 = M0.2 → (∀ q, q < k → M.1 90 q = M0.1 103 q ∧ M.1 91 q = M0.1 104 q) → (∀ M', (∀ a, a ≠ 90 → a ≠ 91 → M'.1 a = M0.1 a) → M'.2 = M0.2 → (∀ q, q < 8 → M'.1 90 q = M0.1 103 q ∧ M'.1 91 q = M0.1 104 q) → A_X9_undo_242 d M' 0 R) → A_X9_undo_204 d M (nI k) R := by
  intro j
  induction j with
  | zero =>
    intro k M hk hf hr hq K
    exact a_X9_undo_204 ⟨fun q => absurd q (nI_nlt (b := 8) (by omega) (by omega)), fun _ => K M hf hr (fun q h => hq q (by omega))⟩
  | succ j ih =>
    intro k M hk hf hr hq K
    refine a_X9_undo_204 ?_
    rw [zn_nI (by omega), nI_1]
    refine ⟨fun _ => ⟨in_n (by omega) (by omega), in_n (by omega) (by omega), in_n (by omega) (by omega), in_n (by omega) (by omega), ih (k + 1) _ (by omega) (fun a h0 h1 => (zu_ne h1).trans ((zu_ne h0).trans (hf a h0 h1))) hr (fun q h => ?_) K⟩, fun q => absurd (nI_lt (b := 8) (by omega) (by omega)) q⟩
    have hs : ∀ s, s ≠ 90 ∧ s ≠ 91 → M.1 s = M0.1 s := fun s h => hf s (by omega) (by omega)
    by_cases e : q = k
    · rw [e]
      refine ⟨?_, ?_⟩
      · refine Eq.trans (zu_kk (f := M.1) (a := 90) (k := k) (v := M.1 103 k)) ?_
        rw [hs 103 (by omega)]
      · refine Eq.trans (zu_kk (f := M.1) (a := 91) (k := k) (v := M.1 104 k)) ?_
        rw [hs 104 (by omega)]
    · have h' := hq q (by omega)
      refine ⟨?_, ?_⟩
      · exact Eq.trans (zu_kn (f := M.1) (a := 90) (k := k) (v := M.1 103 k) e) h'.1
      · exact Eq.trans (zu_kn (f := M.1) (a := 91) (k := k) (v := M.1 104 k) e) h'.2
theorem l9_undo_242 {M0 : ZM} {R : ZM → Option ZV → Prop} : ∀ (j k : Nat) (M : ZM), k + j = 12 → (∀ a, a ≠ 93 → M.1 a = M0.1 a) → M.2 = M0.2 → (∀ q, q < k → M.1 93 q = M0.1 105 q) → (∀ M', (∀ a, a ≠ 93 → M'.1 a = M0.1 a) → M'.2 = M0.2 → (∀ q, q < 12 → M'.1 93 q = M0.1 105 q) → R M' (some (zI (M'.1 64 1)))) → A_X9_undo_242 d M (nI k) R := by
  intro j
  induction j with
  | zero =>
    intro k M hk hf hr hq K
    exact a_X9_undo_242 ⟨fun q => absurd q (nI_nlt (b := 12) (by omega) (by omega)), fun _ => K M hf hr (fun q h => hq q (by omega))⟩
  | succ j ih =>
    intro k M hk hf hr hq K
    refine a_X9_undo_242 ?_
    rw [zn_nI (by omega), nI_1]
    refine ⟨fun _ => ⟨in_n (by omega) (by omega), in_n (by omega) (by omega), ih (k + 1) _ (by omega) (fun a h0 => (zu_ne h0).trans (hf a h0)) hr (fun q h => ?_) K⟩, fun q => absurd (nI_lt (b := 12) (by omega) (by omega)) q⟩
    have hs : ∀ s, s ≠ 93 → M.1 s = M0.1 s := fun s h => hf s (by omega)
    by_cases e : q = k
    · rw [e]
      refine ?_
      · refine Eq.trans (zu_kk (f := M.1) (a := 93) (k := k) (v := M.1 105 k)) ?_
        rw [hs 105 (by omega)]
    · have h' := hq q (by omega)
      refine ?_
      · exact Eq.trans (zu_kn (f := M.1) (a := 93) (k := k) (v := M.1 105 k) e) h'
theorem nar_zb (b : Bool) : vp_nar .boolean (zb b) = zb b := by
  cases b
  · exact nar_0
  · exact nar_1
theorem c9_image : ∃ M', Rt (d + 1) 215 [zR 9 64] M M' (some (zI (M'.1 64 1))) ∧ (∀ a, a ≠ 95 → a ≠ 96 → a ≠ 97 → a ≠ 98 → a ≠ 99 → a ≠ 100 → a ≠ 101 → a ≠ 102 → a ≠ 106 → a ≠ 103 → a ≠ 104 → a ≠ 105 → M'.1 a = (zu (zu (zu (zu (zu (zu (zu (zu M.1 64 44 (1)) 64 45 (M.1 64 14)) 64 46 (M.1 64 0)) 64 47 (M.1 64 1)) 64 48 (M.1 64 2)) 64 49 (M.1 64 3)) 64 50 (M.1 64 37)) 64 51 (M.1 64 41)) a) ∧ M'.2 = M.2 ∧ (∀ q, q < 7 → M'.1 95 q = M.1 65 q) ∧ (∀ q, q < 7 → M'.1 96 q = M.1 66 q) ∧ (∀ q, q < 7 → M'.1 97 q = M.1 67 q) ∧ (∀ q, q < 7 → M'.1 98 q = M.1 68 q) ∧ (∀ q, q < 7 → M'.1 99 q = M.1 69 q) ∧ (∀ q, q < 6 → M'.1 100 q = M.1 70 q) ∧ (∀ q, q < 6 → M'.1 101 q = M.1 71 q) ∧ (∀ q, q < 6 → M'.1 102 q = M.1 72 q) ∧ (∀ q, q < 6 → M'.1 106 q = vp_nar .boolean (M.1 73 q)) ∧ (∀ q, q < 8 → M'.1 103 q = M.1 90 q) ∧ (∀ q, q < 8 → M'.1 104 q = M.1 91 q) ∧ (∀ q, q < 12 → M'.1 105 q = M.1 93 q) := by
  have key : Ro (d + 1) 215 [zR 9 64] M (fun M' v => v = some (zI (M'.1 64 1)) ∧ (∀ a, a ≠ 95 → a ≠ 96 → a ≠ 97 → a ≠ 98 → a ≠ 99 → a ≠ 100 → a ≠ 101 → a ≠ 102 → a ≠ 106 → a ≠ 103 → a ≠ 104 → a ≠ 105 → M'.1 a = (zu (zu (zu (zu (zu (zu (zu (zu M.1 64 44 (1)) 64 45 (M.1 64 14)) 64 46 (M.1 64 0)) 64 47 (M.1 64 1)) 64 48 (M.1 64 2)) 64 49 (M.1 64 3)) 64 50 (M.1 64 37)) 64 51 (M.1 64 41)) a) ∧ M'.2 = M.2 ∧ (∀ q, q < 7 → M'.1 95 q = M.1 65 q) ∧ (∀ q, q < 7 → M'.1 96 q = M.1 66 q) ∧ (∀ q, q < 7 → M'.1 97 q = M.1 67 q) ∧ (∀ q, q < 7 → M'.1 98 q = M.1 68 q) ∧ (∀ q, q < 7 → M'.1 99 q = M.1 69 q) ∧ (∀ q, q < 6 → M'.1 100 q = M.1 70 q) ∧ (∀ q, q < 6 → M'.1 101 q = M.1 71 q) ∧ (∀ q, q < 6 → M'.1 102 q = M.1 72 q) ∧ (∀ q, q < 6 → M'.1 106 q = vp_nar .boolean (M.1 73 q)) ∧ (∀ q, q < 8 → M'.1 103 q = M.1 90 q) ∧ (∀ q, q < 8 → M'.1 104 q = M.1 91 q) ∧ (∀ q, q < 12 → M'.1 105 q = M.1 93 q)) := by
    refine g_X9_image ?_
    refine l9_image_63 (M0 := (zu (zu (zu (zu (zu (zu (zu (zu M.1 64 44 (1)) 64 45 (M.1 64 14)) 64 46 (M.1 64 0)) 64 47 (M.1 64 1)) 64 48 (M.1 64 2)) 64 49 (M.1 64 3)) 64 50 (M.1 64 37)) 64 51 (M.1 64 41), M.2)) 7 0 _ (by omega) (fun _ _ _ _ _ _ => rfl) rfl (fun q h => absurd h (by omega)) (fun N1 f1 r1 e1 => ?_)
    refine l9_image_137 (M0 := N1) 6 0 _ (by omega) (fun _ _ _ _ _ => rfl) rfl (fun q h => absurd h (by omega)) (fun N2 f2 r2 e2 => ?_)
    refine l9_image_199 (M0 := N2) 8 0 _ (by omega) (fun _ _ _ => rfl) rfl (fun q h => absurd h (by omega)) (fun N3 f3 r3 e3 => ?_)
    refine l9_image_237 (M0 := N3) 12 0 _ (by omega) (fun _ _ => rfl) rfl (fun q h => absurd h (by omega)) (fun N4 f4 r4 e4 => ?_)
    have z : ∀ a, a ≠ 64 → (zu (zu (zu (zu (zu (zu (zu (zu M.1 64 44 (1)) 64 45 (M.1 64 14)) 64 46 (M.1 64 0)) 64 47 (M.1 64 1)) 64 48 (M.1 64 2)) 64 49 (M.1 64 3)) 64 50 (M.1 64 37)) 64 51 (M.1 64 41)) a = M.1 a := fun a h => (zu_ne h).trans ((zu_ne h).trans ((zu_ne h).trans ((zu_ne h).trans ((zu_ne h).trans ((zu_ne h).trans ((zu_ne h).trans (zu_ne h)))))))
    have g1 : ∀ a, a ≠ 95 ∧ a ≠ 96 ∧ a ≠ 97 ∧ a ≠ 98 ∧ a ≠ 99 → N1.1 a = (zu (zu (zu (zu (zu (zu (zu (zu M.1 64 44 (1)) 64 45 (M.1 64 14)) 64 46 (M.1 64 0)) 64 47 (M.1 64 1)) 64 48 (M.1 64 2)) 64 49 (M.1 64 3)) 64 50 (M.1 64 37)) 64 51 (M.1 64 41)) a := fun a h => f1 a (by omega) (by omega) (by omega) (by omega) (by omega)
    have g2 : ∀ a, a ≠ 100 ∧ a ≠ 101 ∧ a ≠ 102 ∧ a ≠ 106 → N2.1 a = N1.1 a := fun a h => f2 a (by omega) (by omega) (by omega) (by omega)
    have g3 : ∀ a, a ≠ 103 ∧ a ≠ 104 → N3.1 a = N2.1 a := fun a h => f3 a (by omega) (by omega)
    have g4 : ∀ a, a ≠ 105 → N4.1 a = N3.1 a := fun a h => f4 a (by omega)
    refine ⟨rfl, fun a m0 m1 m2 m3 m4 m5 m6 m7 m8 m9 m10 m11 => ?_, r4.trans (r3.trans (r2.trans r1)), fun q hq => ?_, fun q hq => ?_, fun q hq => ?_, fun q hq => ?_, fun q hq => ?_, fun q hq => ?_, fun q hq => ?_, fun q hq => ?_, fun q hq => ?_, fun q hq => ?_, fun q hq => ?_, fun q hq => ?_⟩
    · rw [g4 a (by omega), g3 a (by omega), g2 a (by omega), g1 a (by omega)]
    · rw [g4 _ (by omega), g3 _ (by omega), g2 _ (by omega), (e1 q hq).1]
      show (zu (zu (zu (zu (zu (zu (zu (zu M.1 64 44 (1)) 64 45 (M.1 64 14)) 64 46 (M.1 64 0)) 64 47 (M.1 64 1)) 64 48 (M.1 64 2)) 64 49 (M.1 64 3)) 64 50 (M.1 64 37)) 64 51 (M.1 64 41)) 65 q = M.1 65 q
      rw [z 65 (by omega)]
    · rw [g4 _ (by omega), g3 _ (by omega), g2 _ (by omega), (e1 q hq).2.1]
      show (zu (zu (zu (zu (zu (zu (zu (zu M.1 64 44 (1)) 64 45 (M.1 64 14)) 64 46 (M.1 64 0)) 64 47 (M.1 64 1)) 64 48 (M.1 64 2)) 64 49 (M.1 64 3)) 64 50 (M.1 64 37)) 64 51 (M.1 64 41)) 66 q = M.1 66 q
      rw [z 66 (by omega)]
    · rw [g4 _ (by omega), g3 _ (by omega), g2 _ (by omega), (e1 q hq).2.2.1]
      show (zu (zu (zu (zu (zu (zu (zu (zu M.1 64 44 (1)) 64 45 (M.1 64 14)) 64 46 (M.1 64 0)) 64 47 (M.1 64 1)) 64 48 (M.1 64 2)) 64 49 (M.1 64 3)) 64 50 (M.1 64 37)) 64 51 (M.1 64 41)) 67 q = M.1 67 q
      rw [z 67 (by omega)]
    · rw [g4 _ (by omega), g3 _ (by omega), g2 _ (by omega), (e1 q hq).2.2.2.1]
      show (zu (zu (zu (zu (zu (zu (zu (zu M.1 64 44 (1)) 64 45 (M.1 64 14)) 64 46 (M.1 64 0)) 64 47 (M.1 64 1)) 64 48 (M.1 64 2)) 64 49 (M.1 64 3)) 64 50 (M.1 64 37)) 64 51 (M.1 64 41)) 68 q = M.1 68 q
      rw [z 68 (by omega)]
    · rw [g4 _ (by omega), g3 _ (by omega), g2 _ (by omega), (e1 q hq).2.2.2.2]
      show (zu (zu (zu (zu (zu (zu (zu (zu M.1 64 44 (1)) 64 45 (M.1 64 14)) 64 46 (M.1 64 0)) 64 47 (M.1 64 1)) 64 48 (M.1 64 2)) 64 49 (M.1 64 3)) 64 50 (M.1 64 37)) 64 51 (M.1 64 41)) 69 q = M.1 69 q
      rw [z 69 (by omega)]
    · rw [g4 _ (by omega), g3 _ (by omega), (e2 q hq).1, g1 70 (by omega)]
      rw [z 70 (by omega)]
    · rw [g4 _ (by omega), g3 _ (by omega), (e2 q hq).2.1, g1 71 (by omega)]
      rw [z 71 (by omega)]
    · rw [g4 _ (by omega), g3 _ (by omega), (e2 q hq).2.2.1, g1 72 (by omega)]
      rw [z 72 (by omega)]
    · rw [g4 _ (by omega), g3 _ (by omega), (e2 q hq).2.2.2, g1 73 (by omega)]
      rw [z 73 (by omega)]
    · rw [g4 _ (by omega), (e3 q hq).1, g2 90 (by omega), g1 90 (by omega)]
      rw [z 90 (by omega)]
    · rw [g4 _ (by omega), (e3 q hq).2, g2 91 (by omega), g1 91 (by omega)]
      rw [z 91 (by omega)]
    · rw [(e4 q hq), g3 93 (by omega), g2 93 (by omega), g1 93 (by omega)]
      rw [z 93 (by omega)]
  obtain ⟨M', v, h, hv, g⟩ := key
  rw [hv] at h
  exact ⟨M', h, g⟩
theorem c9_undo (h1 : ¬ M.1 64 44 = 0) : ∃ M', Rt (d + 1) 216 [zR 9 64] M M' (some (zI (M'.1 64 1))) ∧ (∀ a, a ≠ 65 → a ≠ 66 → a ≠ 67 → a ≠ 68 → a ≠ 69 → a ≠ 70 → a ≠ 71 → a ≠ 72 → a ≠ 73 → a ≠ 90 → a ≠ 91 → a ≠ 93 → M'.1 a = (zu (zu (zu (zu (zu (zu (zu M.1 64 14 (M.1 64 45)) 64 0 (M.1 64 46)) 64 1 (M.1 64 47)) 64 2 (M.1 64 48)) 64 3 (M.1 64 49)) 64 37 (M.1 64 50)) 64 41 (M.1 64 51)) a) ∧ M'.2 = M.2 ∧ (∀ q, q < 7 → M'.1 65 q = M.1 95 q) ∧ (∀ q, q < 7 → M'.1 66 q = M.1 96 q) ∧ (∀ q, q < 7 → M'.1 67 q = M.1 97 q) ∧ (∀ q, q < 7 → M'.1 68 q = M.1 98 q) ∧ (∀ q, q < 7 → M'.1 69 q = M.1 99 q) ∧ (∀ q, q < 6 → M'.1 70 q = M.1 100 q) ∧ (∀ q, q < 6 → M'.1 71 q = M.1 101 q) ∧ (∀ q, q < 6 → M'.1 72 q = M.1 102 q) ∧ (∀ q, q < 6 → M'.1 73 q = vp_nar .boolean (M.1 106 q)) ∧ (∀ q, q < 8 → M'.1 90 q = M.1 103 q) ∧ (∀ q, q < 8 → M'.1 91 q = M.1 104 q) ∧ (∀ q, q < 12 → M'.1 93 q = M.1 105 q) := by
  have key : Ro (d + 1) 216 [zR 9 64] M (fun M' v => v = some (zI (M'.1 64 1)) ∧ (∀ a, a ≠ 65 → a ≠ 66 → a ≠ 67 → a ≠ 68 → a ≠ 69 → a ≠ 70 → a ≠ 71 → a ≠ 72 → a ≠ 73 → a ≠ 90 → a ≠ 91 → a ≠ 93 → M'.1 a = (zu (zu (zu (zu (zu (zu (zu M.1 64 14 (M.1 64 45)) 64 0 (M.1 64 46)) 64 1 (M.1 64 47)) 64 2 (M.1 64 48)) 64 3 (M.1 64 49)) 64 37 (M.1 64 50)) 64 41 (M.1 64 51)) a) ∧ M'.2 = M.2 ∧ (∀ q, q < 7 → M'.1 65 q = M.1 95 q) ∧ (∀ q, q < 7 → M'.1 66 q = M.1 96 q) ∧ (∀ q, q < 7 → M'.1 67 q = M.1 97 q) ∧ (∀ q, q < 7 → M'.1 68 q = M.1 98 q) ∧ (∀ q, q < 7 → M'.1 69 q = M.1 99 q) ∧ (∀ q, q < 6 → M'.1 70 q = M.1 100 q) ∧ (∀ q, q < 6 → M'.1 71 q = M.1 101 q) ∧ (∀ q, q < 6 → M'.1 72 q = M.1 102 q) ∧ (∀ q, q < 6 → M'.1 73 q = vp_nar .boolean (M.1 106 q)) ∧ (∀ q, q < 8 → M'.1 90 q = M.1 103 q) ∧ (∀ q, q < 8 → M'.1 91 q = M.1 104 q) ∧ (∀ q, q < 12 → M'.1 93 q = M.1 105 q)) := by
    refine g_X9_undo ⟨fun q => absurd q h1, fun _ => ?_⟩
    refine l9_undo_68 (M0 := (zu (zu (zu (zu (zu (zu (zu M.1 64 14 (M.1 64 45)) 64 0 (M.1 64 46)) 64 1 (M.1 64 47)) 64 2 (M.1 64 48)) 64 3 (M.1 64 49)) 64 37 (M.1 64 50)) 64 41 (M.1 64 51), M.2)) 7 0 _ (by omega) (fun _ _ _ _ _ _ => rfl) rfl (fun q h => absurd h (by omega)) (fun N1 f1 r1 e1 => ?_)
    refine l9_undo_142 (M0 := N1) 6 0 _ (by omega) (fun _ _ _ _ _ => rfl) rfl (fun q h => absurd h (by omega)) (fun N2 f2 r2 e2 => ?_)
    refine l9_undo_204 (M0 := N2) 8 0 _ (by omega) (fun _ _ _ => rfl) rfl (fun q h => absurd h (by omega)) (fun N3 f3 r3 e3 => ?_)
    refine l9_undo_242 (M0 := N3) 12 0 _ (by omega) (fun _ _ => rfl) rfl (fun q h => absurd h (by omega)) (fun N4 f4 r4 e4 => ?_)
    have z : ∀ a, a ≠ 64 → (zu (zu (zu (zu (zu (zu (zu M.1 64 14 (M.1 64 45)) 64 0 (M.1 64 46)) 64 1 (M.1 64 47)) 64 2 (M.1 64 48)) 64 3 (M.1 64 49)) 64 37 (M.1 64 50)) 64 41 (M.1 64 51)) a = M.1 a := fun a h => (zu_ne h).trans ((zu_ne h).trans ((zu_ne h).trans ((zu_ne h).trans ((zu_ne h).trans ((zu_ne h).trans (zu_ne h))))))
    have g1 : ∀ a, a ≠ 65 ∧ a ≠ 66 ∧ a ≠ 67 ∧ a ≠ 68 ∧ a ≠ 69 → N1.1 a = (zu (zu (zu (zu (zu (zu (zu M.1 64 14 (M.1 64 45)) 64 0 (M.1 64 46)) 64 1 (M.1 64 47)) 64 2 (M.1 64 48)) 64 3 (M.1 64 49)) 64 37 (M.1 64 50)) 64 41 (M.1 64 51)) a := fun a h => f1 a (by omega) (by omega) (by omega) (by omega) (by omega)
    have g2 : ∀ a, a ≠ 70 ∧ a ≠ 71 ∧ a ≠ 72 ∧ a ≠ 73 → N2.1 a = N1.1 a := fun a h => f2 a (by omega) (by omega) (by omega) (by omega)
    have g3 : ∀ a, a ≠ 90 ∧ a ≠ 91 → N3.1 a = N2.1 a := fun a h => f3 a (by omega) (by omega)
    have g4 : ∀ a, a ≠ 93 → N4.1 a = N3.1 a := fun a h => f4 a (by omega)
    refine ⟨rfl, fun a m0 m1 m2 m3 m4 m5 m6 m7 m8 m9 m10 m11 => ?_, r4.trans (r3.trans (r2.trans r1)), fun q hq => ?_, fun q hq => ?_, fun q hq => ?_, fun q hq => ?_, fun q hq => ?_, fun q hq => ?_, fun q hq => ?_, fun q hq => ?_, fun q hq => ?_, fun q hq => ?_, fun q hq => ?_, fun q hq => ?_⟩
    · rw [g4 a (by omega), g3 a (by omega), g2 a (by omega), g1 a (by omega)]
    · rw [g4 _ (by omega), g3 _ (by omega), g2 _ (by omega), (e1 q hq).1]
      show (zu (zu (zu (zu (zu (zu (zu M.1 64 14 (M.1 64 45)) 64 0 (M.1 64 46)) 64 1 (M.1 64 47)) 64 2 (M.1 64 48)) 64 3 (M.1 64 49)) 64 37 (M.1 64 50)) 64 41 (M.1 64 51)) 95 q = M.1 95 q
      rw [z 95 (by omega)]
    · rw [g4 _ (by omega), g3 _ (by omega), g2 _ (by omega), (e1 q hq).2.1]
      show (zu (zu (zu (zu (zu (zu (zu M.1 64 14 (M.1 64 45)) 64 0 (M.1 64 46)) 64 1 (M.1 64 47)) 64 2 (M.1 64 48)) 64 3 (M.1 64 49)) 64 37 (M.1 64 50)) 64 41 (M.1 64 51)) 96 q = M.1 96 q
      rw [z 96 (by omega)]
    · rw [g4 _ (by omega), g3 _ (by omega), g2 _ (by omega), (e1 q hq).2.2.1]
      show (zu (zu (zu (zu (zu (zu (zu M.1 64 14 (M.1 64 45)) 64 0 (M.1 64 46)) 64 1 (M.1 64 47)) 64 2 (M.1 64 48)) 64 3 (M.1 64 49)) 64 37 (M.1 64 50)) 64 41 (M.1 64 51)) 97 q = M.1 97 q
      rw [z 97 (by omega)]
    · rw [g4 _ (by omega), g3 _ (by omega), g2 _ (by omega), (e1 q hq).2.2.2.1]
      show (zu (zu (zu (zu (zu (zu (zu M.1 64 14 (M.1 64 45)) 64 0 (M.1 64 46)) 64 1 (M.1 64 47)) 64 2 (M.1 64 48)) 64 3 (M.1 64 49)) 64 37 (M.1 64 50)) 64 41 (M.1 64 51)) 98 q = M.1 98 q
      rw [z 98 (by omega)]
    · rw [g4 _ (by omega), g3 _ (by omega), g2 _ (by omega), (e1 q hq).2.2.2.2]
      show (zu (zu (zu (zu (zu (zu (zu M.1 64 14 (M.1 64 45)) 64 0 (M.1 64 46)) 64 1 (M.1 64 47)) 64 2 (M.1 64 48)) 64 3 (M.1 64 49)) 64 37 (M.1 64 50)) 64 41 (M.1 64 51)) 99 q = M.1 99 q
      rw [z 99 (by omega)]
    · rw [g4 _ (by omega), g3 _ (by omega), (e2 q hq).1, g1 100 (by omega)]
      rw [z 100 (by omega)]
    · rw [g4 _ (by omega), g3 _ (by omega), (e2 q hq).2.1, g1 101 (by omega)]
      rw [z 101 (by omega)]
    · rw [g4 _ (by omega), g3 _ (by omega), (e2 q hq).2.2.1, g1 102 (by omega)]
      rw [z 102 (by omega)]
    · rw [g4 _ (by omega), g3 _ (by omega), (e2 q hq).2.2.2, g1 106 (by omega)]
      rw [z 106 (by omega)]
    · rw [g4 _ (by omega), (e3 q hq).1, g2 103 (by omega), g1 103 (by omega)]
      rw [z 103 (by omega)]
    · rw [g4 _ (by omega), (e3 q hq).2, g2 104 (by omega), g1 104 (by omega)]
      rw [z 104 (by omega)]
    · rw [(e4 q hq), g3 105 (by omega), g2 105 (by omega), g1 105 (by omega)]
      rw [z 105 (by omega)]
  obtain ⟨M', v, h, hv, g⟩ := key
  rw [hv] at h
  exact ⟨M', h, g⟩
end IM
