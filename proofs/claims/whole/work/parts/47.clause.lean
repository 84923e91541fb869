/-! A CLAUSE: its word, its number, its E, in both -/
/-- the word and the place behind what stands there of it -/
def kwT (T : Nat → Nat) (n p : Nat) : Option Nat × Nat :=
  if chT T n p = 116 then (if wdT T n wdI (p + 1) = 3 then some 2 else none, p + 1 + wdT T n wdI (p + 1))
  else if chT T n p = 108 then
    (if chT T n (p + 1) = 105 then (if wdT T n wdK (p + 2) = 3 then some 0 else none, p + 2 + wdT T n wdK (p + 2))
     else (if wdT T n wdO (p + 1) = 5 then some 1 else none, p + 1 + wdT T n wdO (p + 1)))
  else (none, p)
section KW
variable {d n p : Nat} {M : ZM} {T : Nat → Nat}
theorem kwT_le (pn : p ≤ n) : p ≤ (kwT T n p).2 ∧ (kwT T n p).2 ≤ n ∧ ∀ w, (kwT T n p).1 = some w → w < 3 := by
  unfold kwT
  by_cases h1 : chT T n p = 116
  · rw [if_pos h1]
    have p1 := chT_lt (by omega) h1
    have := wdT_le (T := T) (n := n) wdI (p + 1) (by decide) p1
    refine ⟨by show p ≤ p + 1 + wdT T n wdI (p + 1); omega, this.2, fun w q => ?_⟩
    by_cases h2 : wdT T n wdI (p + 1) = 3
    · rw [if_pos h2] at q; cases q; decide
    · rw [if_neg h2] at q; cases q
  · rw [if_neg h1]
    by_cases h3 : chT T n p = 108
    · rw [if_pos h3]
      have p1 := chT_lt (by omega) h3
      by_cases h4 : chT T n (p + 1) = 105
      · rw [if_pos h4]
        have p2 := chT_lt (by omega) h4
        have := wdT_le (T := T) (n := n) wdK (p + 2) (by decide) p2
        refine ⟨by show p ≤ p + 2 + wdT T n wdK (p + 2); omega, this.2, fun w q => ?_⟩
        by_cases h2 : wdT T n wdK (p + 2) = 3
        · rw [if_pos h2] at q; cases q; decide
        · rw [if_neg h2] at q; cases q
      · rw [if_neg h4]
        have := wdT_le (T := T) (n := n) wdO (p + 1) (by decide) p1
        refine ⟨by show p ≤ p + 1 + wdT T n wdO (p + 1); omega, this.2, fun w q => ?_⟩
        by_cases h2 : wdT T n wdO (p + 1) = 5
        · rw [if_pos h2] at q; cases q; decide
        · rw [if_neg h2] at q; cases q
    · rw [if_neg h3]
      exact ⟨Nat.le_refl _, pn, fun w q => (by cases q)⟩
theorem c4_kw (h : TXx M T n) (hp : M.1 48 2 = nI p) (pn : p ≤ n) : Rt (d + 8) 33 [zR 4 48] M (mvX M (kwT T n p).2) (some (zI (zoi (-1) (kwT T n p).1))) := by
  have hz : ∀ c : Bool, (zb c = 0) = (c = false) := fun c => zb0
  have s1 := c4_sign (d := d + 6) h hp pn (x := 116) (by omega)
  have s2 := c4_sign (d := d + 6) h hp pn (x := 108) (by omega)
  refine ro_rt (g_X4_passKeyword ?_)
  unfold kwT
  by_cases h1 : chT T n p = 116
  · rw [if_pos h1]
    have p1 := chT_lt (by omega) h1
    have w := c4_word1 (d := d) (TXx_mv (p := p + 1) h) mvX_p p1
    rw [mvX_mv] at w
    refine ⟨_, _, s1.1 h1, z10, fun _ => ⟨_, _, w, fun q => ⟨rfl, ?_⟩, fun q => ⟨rfl, ?_⟩⟩⟩
    · rw [zb0] at q
      have := of_decide_eq_false q
      rw [if_neg this]; rfl
    · rw [zb0] at q
      have q2 : wdT T n wdI (p + 1) = 3 := by
        by_cases r : wdT T n wdI (p + 1) = 3
        · exact r
        · exact absurd (decide_eq_false r) q
      rw [if_pos q2]; rfl
  · rw [if_neg h1]
    refine ⟨_, _, s1.2 h1, fun _ => ?_, z00⟩
    by_cases h3 : chT T n p = 108
    · rw [if_pos h3]
      have p1 := chT_lt (by omega) h3
      have s3 := c4_sign (d := d + 6) (TXx_mv (p := p + 1) h) mvX_p p1 (x := 105) (by omega)
      refine ⟨_, _, s2.1 h3, z10, fun _ => ?_⟩
      by_cases h4 : chT T n (p + 1) = 105
      · rw [if_pos h4]
        have p2 := chT_lt (by omega) h4
        have w := c4_word2 (d := d) (TXx_mv (p := p + 2) h) mvX_p p2
        rw [mvX_mv] at w
        have s3' := s3.1 h4
        rw [mvX_mv] at s3'
        refine ⟨_, _, s3', z10, fun _ => ⟨_, _, w, fun q => ⟨rfl, ?_⟩, fun q => ⟨rfl, ?_⟩⟩⟩
        · rw [zb0] at q
          have := of_decide_eq_false q
          rw [if_neg this]; rfl
        · rw [zb0] at q
          have q2 : wdT T n wdK (p + 2) = 3 := by
            by_cases r : wdT T n wdK (p + 2) = 3
            · exact r
            · exact absurd (decide_eq_false r) q
          rw [if_pos q2]; rfl
      · rw [if_neg h4]
        have w := c4_word3 (d := d) (TXx_mv (p := p + 1) h) mvX_p p1
        rw [mvX_mv] at w
        refine ⟨_, _, s3.2 h4, fun _ => ⟨_, _, w, fun q => ⟨rfl, ?_⟩, fun q => ⟨rfl, ?_⟩⟩, z00⟩
        · rw [zb0] at q
          have := of_decide_eq_false q
          rw [if_neg this]; rfl
        · rw [zb0] at q
          have q2 : wdT T n wdO (p + 1) = 5 := by
            by_cases r : wdT T n wdO (p + 1) = 5
            · exact r
            · exact absurd (decide_eq_false r) q
          rw [if_pos q2]; rfl
    · rw [if_neg h3]
      exact ⟨_, _, s2.2 h3, fun _ => ⟨(mvX_self hp).symm, rfl⟩, z00⟩
/-- the reference's word -/
theorem c9_word (hL : ∀ k, k < 12 → M.1 82 k = ([108, 105, 107, 101, 108, 111, 97, 116, 104, 116, 105, 101] : List Int32).getD k 0) {f : Nat} {l : List Nat} (hN : f + l.length ≤ 12) (hl : ∀ i, i < l.length → ([108, 105, 107, 101, 108, 111, 97, 116, 104, 116, 105, 101] : List Int32).getD (f + i) 0 = nI (l.getD i 0)) (h128 : ∀ x ∈ l, x < 128) (h : TXm M T n) (hp : M.1 64 16 = nI p) (pn : p ≤ n) : Rt (d + 3) 154 [zR 9 64, zI (nI f), zI (nI l.length)] M (mvC M 16 (nI (p + wdT T n (l ++ [32]) p))) (some (zI (zb (decide (wdT T n (l ++ [32]) p = l.length + 1))))) :=
  ro_rt (g_X9_takesWord (l9_word (d := d) hL hN hl l 0 p M (by omega) (fun k _ => by rw [Nat.zero_add]) h128 (mvC_self hp).symm h pn))
def mv76 (M : ZM) (k : Nat) (x : Int32) : ZM := (zu M.1 76 k x, M.2)
theorem TXm_76 {k : Nat} {x : Int32} (h : TXm M T n) : TXm (mv76 M k x) T n := ⟨h.1, (congrFun (zu_ne (by omega) : zu M.1 76 k x 64 = M.1 64) 15).trans h.2.1, fun j hj => by rw [show (mv76 M k x).1 74 = M.1 74 from (zu_ne (by omega) : zu M.1 76 k x 74 = M.1 74)]; exact h.2.2 j hj⟩
theorem c9_head (hL : ∀ k, k < 12 → M.1 82 k = ([108, 105, 107, 101, 108, 111, 97, 116, 104, 116, 105, 101] : List Int32).getD k 0) {ci : Nat} (hci : ci < 60) (h : TXm M T n) (hp : M.1 64 16 = nI p) (pn : p ≤ n) : ∃ x, (∀ w, (kwT T n p).1 = some w → x = nI w) ∧ Rt (d + 4) 163 [zR 9 64, zI (nI ci)] M (mvC (mv76 M ci x) 16 (nI (kwT T n p).2)) (some (zI (zb (kwT T n p).1.isSome))) := by
  have h128 : ∀ k, k < n → T k < 128 := fun k hk => (h.2.2 k hk).2
  have hz : ∀ b : Bool, zb b = 0 ∨ zb b = 1 := fun b => by cases b; exact Or.inl rfl; exact Or.inr rfl
  have sc := c9_second (d := d + 2) h hp pn
  have nx := c9_next (d := d + 2) h hp pn
  have i108 : (chI T n p = 108) = (chT T n p = 108) := chI_eq (x := 108) h128 (by omega)
  have i111 : (chI T n (p + 1) = 111) = (chT T n (p + 1) = 111) := chI_eq (x := 111) h128 (by omega)
  have L76 : ∀ x : Int32, ∀ k, k < 12 → (mv76 M ci x).1 82 k = ([108, 105, 107, 101, 108, 111, 97, 116, 104, 116, 105, 101] : List Int32).getD k 0 := fun x k hk => by
    rw [show (mv76 M ci x).1 82 = M.1 82 from (zu_ne (by omega) : zu M.1 76 ci x 82 = M.1 82)]
    exact hL k hk
  have P76 : ∀ x : Int32, (mv76 M ci x).1 64 16 = nI p := fun x => by
    rw [show (mv76 M ci x).1 64 = M.1 64 from (zu_ne (by omega) : zu M.1 76 ci x 64 = M.1 64)]
    exact hp
  have wl := c9_word (d := d) (f := 0) (l := [108, 105, 107, 101]) (L76 0) (by decide) (by decide) (by decide) (TXm_76 h) (P76 0) pn
  have wo := c9_word (d := d) (f := 4) (l := [108, 111, 97, 116, 104]) (L76 1) (by decide) (by decide) (by decide) (TXm_76 h) (P76 1) pn
  have wt := c9_word (d := d) (f := 9) (l := [116, 105, 101]) (L76 2) (by decide) (by decide) (by decide) (TXm_76 h) (P76 2) pn
  have et : wdT T n ([116, 105, 101] ++ [32]) p = if chT T n p = 116 then wdT T n wdI (p + 1) + 1 else 0 := rfl
  have el : wdT T n ([108, 105, 107, 101] ++ [32]) p = if chT T n p = 108 then (if chT T n (p + 1) = 105 then wdT T n wdK (p + 2) + 1 else 0) + 1 else 0 := rfl
  have eo : wdT T n ([108, 111, 97, 116, 104] ++ [32]) p = if chT T n p = 108 then wdT T n wdO (p + 1) + 1 else 0 := rfl
  have eO : wdT T n wdO (p + 1) = if chT T n (p + 1) = 111 then wdT T n [97, 116, 104, 32] (p + 2) + 1 else 0 := rfl
  unfold kwT
  by_cases h1 : chT T n p = 108
  · rw [if_neg (show ¬ chT T n p = 116 by omega), if_pos h1]
    by_cases h2 : chT T n (p + 1) = 111
    · rw [if_neg (show ¬ chT T n (p + 1) = 105 by omega)]
      rw [eo, if_pos h1, show p + (wdT T n wdO (p + 1) + 1) = p + 1 + wdT T n wdO (p + 1) by omega] at wo
      refine ⟨1, fun w q => ?_, ro_rt (g_X9_takesHead ⟨_, _, sc, _, _, nx, fun _ => ⟨fun _ => ⟨in_nI hci (by omega), fun _ => ?_, fun q => absurd (i111.mpr h2) q⟩, fun q => absurd (i111.mpr h2) q⟩, fun q => absurd (i108.mpr h1) q⟩)⟩
      · by_cases q5 : wdT T n wdO (p + 1) = 5
        · rw [if_pos q5] at q; cases q; rfl
        · rw [if_neg q5] at q; cases q
      · rw [zn_nI (by omega)]
        refine ⟨_, _, wo, hz _, rfl, ?_⟩
        by_cases q5 : wdT T n wdO (p + 1) = 5
        · rw [if_pos q5, decide_eq_true (by show wdT T n wdO (p + 1) + 1 = 6; omega)]; rfl
        · rw [if_neg q5, decide_eq_false (by show ¬ wdT T n wdO (p + 1) + 1 = 6; omega)]; rfl
    · rw [el, if_pos h1] at wl
      refine ⟨0, fun w q => ?_, ro_rt (g_X9_takesHead ⟨_, _, sc, _, _, nx, fun _ => ⟨fun q => absurd (i111.mp q) h2, fun _ => ⟨in_nI hci (by omega), fun q => absurd (i111.mp q) h2, fun _ => ?_⟩⟩, fun q => absurd (i108.mpr h1) q⟩)⟩
      · by_cases h4 : chT T n (p + 1) = 105
        · rw [if_pos h4] at q
          by_cases q5 : wdT T n wdK (p + 2) = 3
          · rw [if_pos q5] at q; cases q; rfl
          · rw [if_neg q5] at q; cases q
        · rw [if_neg h4] at q
          rw [if_neg (by rw [eO, if_neg h2]; decide)] at q
          cases q
      · rw [zn_nI (by omega)]
        refine ⟨_, _, wl, hz _, ?_, ?_⟩
        · by_cases h4 : chT T n (p + 1) = 105
          · rw [if_pos h4, if_pos h4, show p + (wdT T n wdK (p + 2) + 1 + 1) = p + 2 + wdT T n wdK (p + 2) by omega]
          · rw [if_neg h4, if_neg h4, eO, if_neg h2]
        · by_cases h4 : chT T n (p + 1) = 105
          · rw [if_pos h4, if_pos h4]
            by_cases q5 : wdT T n wdK (p + 2) = 3
            · rw [if_pos q5, decide_eq_true (by show wdT T n wdK (p + 2) + 1 + 1 = 5; omega)]; rfl
            · rw [if_neg q5, decide_eq_false (by show ¬ wdT T n wdK (p + 2) + 1 + 1 = 5; omega)]; rfl
          · rw [if_neg h4, if_neg h4, eO, if_neg h2]; rfl
  · have tt : (if chT T n p = 116 then (if wdT T n wdI (p + 1) = 3 then some 2 else none, p + 1 + wdT T n wdI (p + 1)) else if chT T n p = 108 then (if chT T n (p + 1) = 105 then (if wdT T n wdK (p + 2) = 3 then some 0 else none, p + 2 + wdT T n wdK (p + 2)) else (if wdT T n wdO (p + 1) = 5 then some 1 else none, p + 1 + wdT T n wdO (p + 1))) else (none, p) : Option Nat × Nat) = (if chT T n p = 116 then (if wdT T n wdI (p + 1) = 3 then some 2 else none, p + 1 + wdT T n wdI (p + 1)) else (none, p)) := by rw [if_neg h1]
    rw [tt]
    rw [et] at wt
    refine ⟨2, fun w q => ?_, ro_rt (g_X9_takesHead ⟨_, _, sc, _, _, nx, fun q => absurd (i108.mp q) h1, fun _ => ⟨in_nI hci (by omega), ?_⟩⟩)⟩
    · by_cases h2 : chT T n p = 116
      · rw [if_pos h2] at q
        by_cases q5 : wdT T n wdI (p + 1) = 3
        · rw [if_pos q5] at q; cases q; rfl
        · rw [if_neg q5] at q; cases q
      · rw [if_neg h2] at q; cases q
    · rw [zn_nI (by omega)]
      refine ⟨_, _, wt, hz _, ?_, ?_⟩
      · by_cases h2 : chT T n p = 116
        · rw [if_pos h2, if_pos h2, show p + (wdT T n wdI (p + 1) + 1) = p + 1 + wdT T n wdI (p + 1) by omega]
        · rw [if_neg h2, if_neg h2]; rfl
      · by_cases h2 : chT T n p = 116
        · rw [if_pos h2, if_pos h2]
          by_cases q5 : wdT T n wdI (p + 1) = 3
          · rw [if_pos q5, decide_eq_true (by show wdT T n wdI (p + 1) + 1 = 4; omega)]; rfl
          · rw [if_neg q5, decide_eq_false (by show ¬ wdT T n wdI (p + 1) + 1 = 4; omega)]; rfl
        · rw [if_neg h2, if_neg h2]; rfl
end KW
