/-! THE CALL house in both -/
theorem rt_fun {d m : Nat} {as : List ZV} {M M1 M2 : ZM} {v1 v2 : Option ZV} (h1 : Rt d m as M M1 v1) (h2 : Rt d m as M M2 v2) : M1 = M2 ∧ v1 = v2 := by
  obtain ⟨N1, h1⟩ := h1
  obtain ⟨N2, h2⟩ := h2
  have e := (h1 (N1 + N2) (by omega)).symm.trans (h2 (N1 + N2) (by omega))
  have := Option.some.inj e
  exact ⟨congrArg Prod.fst this, congrArg Prod.snd this⟩
/-- another house -/
def wHo (W : Wv) (H : Hs) : Wv := (wN W, wP W, wM W, wT W, wV W, wX W, wB W, wK W, wU W, wA W, wW W, wY W, wC W, H)
def Fh (M M' : ZM) (h : Nat) : Prop := (∀ a, a ≠ 1 → a ≠ 48 → a ≠ 64 → (a < 75 ∨ 81 < a) → a < 112 + 4 * h → (a < hAd h ∨ hAd h + 4 ≤ a) → M'.1 a = M.1 a) ∧ (∀ k, k ≠ 12 → M'.1 1 k = M.1 1 k) ∧ (∀ k, k < 13 ∨ k = 18 ∨ 28 < k → M'.1 64 k = M.1 64 k) ∧ (∀ k, k ≠ h → M'.1 75 k = M.1 75 k) ∧ (∀ a, 76 ≤ a → a < 80 → ∀ k, k < 10 * h → M'.1 a k = M.1 a k) ∧ (∀ k, k < 100 * h → M'.1 80 k = M.1 80 k) ∧ (∀ a, a < 112 → M'.2.1 a = M.2.1 a) ∧ (∀ a k, a < 112 → (a ≠ 2 ∨ k ≠ 13) → (a ≠ 1 ∨ k ≠ 11) → M'.2.2.1 a k = M.2.2.1 a k)
theorem HMr_h {I I' : Nat → Nat → Int32} {h : Nat} (e5 : ∀ a, 76 ≤ a → a < 80 → ∀ k, k < 10 * h → I' a k = I a k) (e6 : ∀ k, k < 100 * h → I' 80 k = I 80 k) : ∀ {l : Hs} {c : Nat}, HMr I l c → c + l.length ≤ 10 * h → HMr I' l c
  | [], _, _, _ => trivial
  | w :: r, c, q, e => by
    rw [List.length_cons] at e
    obtain ⟨q1, q2, q3, q4, q5, q6⟩ := q
    refine ⟨(e5 76 (by omega) (by omega) c (by omega)).trans q1, q2, (e5 77 (by omega) (by omega) c (by omega)).trans q3, q4, fun n => ?_, HMr_h e5 e6 q6 (by omega)⟩
    obtain ⟨f, f1, f2, f3, f4, f5⟩ := q5 n
    exact ⟨f, (e5 78 (by omega) (by omega) c (by omega)).trans f1, (e5 79 (by omega) (by omega) c (by omega)).trans f2, f3, cM_up f4 (fun k k1 k2 => e6 k (by omega)), f5⟩
theorem HM_h {M M' : ZM} {h f : Nat} {H : Hs} (g : Fh M M' h) (hf : f < h) (q : HM M.1 f H) : HM M'.1 f H :=
  ⟨(g.2.2.2.1 f (by omega)).trans q.1, q.2.1, HMr_h g.2.2.2.2.1 g.2.2.2.2.2.1 q.2.2 (by have := q.2.1; omega)⟩
/-- where a house that was made lies -/
theorem hAd_in {j h a : Nat} (hj : j < h) (h1 : hAd j ≤ a) (h2 : a < hAd j + 4) : a ≠ 1 ∧ a ≠ 48 ∧ a ≠ 64 ∧ (a < 75 ∨ 81 < a) ∧ a < 112 + 4 * h ∧ (a < hAd h ∨ hAd h + 4 ≤ a) := by
  have e : hAd h = 108 + 4 * h := if_neg (by omega)
  rw [e]
  unfold hAd at h1 h2
  by_cases j0 : j = 0
  · rw [if_pos j0] at h1 h2; omega
  · rw [if_neg j0] at h1 h2; omega
theorem hAd_lo {h a : Nat} (ha : a < 60) : a < hAd h ∨ hAd h + 4 ≤ a := by
  unfold hAd
  by_cases j0 : h = 0
  · rw [if_pos j0]; omega
  · rw [if_neg j0]; omega
theorem hAd_mi {h a : Nat} (h1 : 64 ≤ a) (ha : a < 112) : a < hAd h ∨ hAd h + 4 ≤ a := by
  unfold hAd
  by_cases j0 : h = 0
  · rw [if_pos j0]; omega
  · rw [if_neg j0]; omega
section FH
variable {M M' : ZM} {h : Nat}
theorem Fh_a (g : Fh M M' h) {a : Nat} (ha : (1 < a ∧ a < 48) ∨ (48 < a ∧ a < 60) ∨ (64 < a ∧ a < 75) ∨ (81 < a ∧ a < 112)) : M'.1 a = M.1 a :=
  g.1 a (by omega) (by omega) (by omega) (by omega) (by omega) (by
    rcases ha with q | q | q | q
    · exact hAd_lo (by omega)
    · exact hAd_lo (by omega)
    · exact hAd_mi (by omega) (by omega)
    · exact hAd_mi (by omega) (by omega))
theorem Fh_WX (g : Fh M M' h) {o k : Nat} {W : Wv} (ho : o = 13 ∨ (o = 1 ∧ M'.2.2.1 2 13 = M.2.2.1 2 13)) (hl : HL M (o + 1) k h) (q : WX M o W) : WX M' o W := by
  refine WX_eq (by omega) (fun a h1 h2 => Fh_a g (by omega)) ?_ (fun a h1 h2 h3 => ?_) q
  · rcases ho with r | ⟨r, r2⟩
    · exact g.2.2.2.2.2.2.2 _ _ (by omega) (by omega) (by omega)
    · rw [r]; exact r2
  · rcases hl with ⟨r, _⟩ | ⟨j, j1, j2, _⟩
    · rw [r] at h3; omega
    · rw [j2] at h2 h3
      obtain ⟨x1, x2, x3, x4, x5, x6⟩ := hAd_in j1 h2 h3
      exact g.1 a x1 x2 x3 x4 x5 x6
/-- which house holds in the reference -/
theorem Fh_14 (g : Fh M M' h) (h6 : h ≤ 6) {a k : Nat} {H : Hs} (hk : M'.1 64 k = M.1 64 k) (hl : HL M a k h) (q : (M.1 64 k = -1 ∧ H = []) ∨ (∃ f, M.1 64 k = nI f ∧ f < 6 ∧ HM M.1 f H)) : (M'.1 64 k = -1 ∧ H = []) ∨ (∃ f, M'.1 64 k = nI f ∧ f < 6 ∧ HM M'.1 f H) := by
  rw [hk]
  rcases q with x | ⟨f, x, y, z⟩
  · exact Or.inl x
  · refine Or.inr ⟨f, x, y, HM_h g ?_ z⟩
    rcases hl with ⟨_, r⟩ | ⟨j, j1, _, j3⟩
    · rw [x, nI_m1 (by omega)] at r
      exact r.elim
    · rw [x] at j3
      have := (nI_eq (by omega) (by omega)).mp j3
      omega
theorem HL_le {a k h' : Nat} (hh : h ≤ h') (q : HL M a k h) : HL M a k h' := by
  rcases q with x | ⟨j, j1, j2⟩
  · exact Or.inl x
  · exact Or.inr ⟨j, by omega, j2⟩
theorem Fh_IM (g : Fh M M' h) (h6 : h ≤ 6) {h' : Nat} (hh : h ≤ h') (q : IM M h) : IM M' h' := by
  have e0 : ∀ j, j < 13 ∨ j = 18 ∨ 28 < j → M'.1 64 j = M.1 64 j := g.2.2.1
  rcases q with ⟨a, b⟩ | ⟨a, b, W, n, m, q1, q2, q3, q4, q5, q6, q7, q8⟩
  · exact Or.inl ⟨(g.2.1 13 (by omega)).trans a, (e0 44 (by omega)).trans b⟩
  · refine Or.inr ⟨(g.2.1 13 (by omega)).trans a, (e0 44 (by omega)).trans b, W, n, m, Fh_WX g (Or.inl rfl) q5 q1, ?_, q3, q4, HL_le hh (HL_eq (g.2.2.2.2.2.2.2 14 13 (by omega) (by omega) (by omega)) (e0 45 (by omega)) q5), SN_eq (Fh_a g (by omega)) (e0 _ (by omega)) (Fh_a g (by omega)) (Fh_a g (by omega)) (Fh_a g (by omega)) (Fh_a g (by omega)) q6, BK_eq (Fh_a g (by omega)) (e0 _ (by omega)) (Fh_a g (by omega)) (Fh_a g (by omega)) q7, q8⟩
    obtain ⟨p1, p2, p3, p4, p5, p6, p7, p8, p9, p10, p11, p12, p13, p14⟩ := q2
    refine ⟨(e0 46 (by omega)).trans p1, (e0 47 (by omega)).trans p2, (e0 48 (by omega)).trans p3, (e0 49 (by omega)).trans p4, ?_, ?_, ?_, ?_, ?_, ?_, ?_, ?_, ?_, Fh_14 g h6 (e0 45 (by omega)) q5 p14⟩
    · rw [Fh_a g (a := 95) (by omega)]; exact p5
    · rw [Fh_a g (a := 96) (by omega)]; exact p6
    · rw [Fh_a g (a := 97) (by omega)]; exact p7
    · rw [Fh_a g (a := 98) (by omega)]; exact p8
    · rw [Fh_a g (a := 99) (by omega)]; exact p9
    · rw [Fh_a g (a := 100) (by omega)]; exact p10
    · rw [Fh_a g (a := 101) (by omega)]; exact p11
    · rw [Fh_a g (a := 102) (by omega)]; exact p12
    · rw [Fh_a g (a := 106) (by omega)]; exact p13
theorem Iv_h (g : Fh M M' h) {W : Wv} {H : Hs} {h' : Nat} (hi : Iv M W h) (hh : h ≤ h') (x : ∀ a, 1 < a → a < 12 → True) (wx : WX M' 1 (wHo W H)) (wm : (M'.1 64 14 = -1 ∧ H = []) ∨ (∃ f, M'.1 64 14 = nI f ∧ f < 6 ∧ HM M'.1 f H)) (hl : HL M' 2 14 h') (ho : HO M' h') (t : TX M' 0) : Iv M' (wHo W H) h' := by
  obtain ⟨q1, q2, q3, q4, q5, q6, q7, ⟨nS, q8⟩, ⟨nB, q9⟩, ⟨nT, q10⟩, q11, ⟨nA, q12⟩, q13, q14⟩ := hi
  have e0 : ∀ j, j < 13 ∨ j = 18 ∨ 28 < j → M'.1 64 j = M.1 64 j := g.2.2.1
  refine ⟨wx, ?_, q3, q4, hl, ho, Fh_IM g q6.1 hh q7, ⟨nS, SN_eq (Fh_a g (by omega)) (e0 _ (by omega)) (Fh_a g (by omega)) (Fh_a g (by omega)) (Fh_a g (by omega)) (Fh_a g (by omega)) q8⟩, ⟨nB, BK_eq (Fh_a g (by omega)) (e0 _ (by omega)) (Fh_a g (by omega)) (Fh_a g (by omega)) q9⟩, ⟨0, t⟩, TP_eq (Fh_a g (by omega)) (Fh_a g (by omega)) (Fh_a g (by omega)) (Fh_a g (by omega)) (g.2.2.2.2.2.2.1 59 (by omega)) (g.2.2.2.2.2.2.1 110 (by omega)) q11, AC_eq (by rw [Fh_a g (a := 54) (by omega)]) (e0 _ (by omega)) (Fh_a g (by omega)) (Fh_a g (by omega)) ⟨nA, q12⟩, LT_eq (Fh_a g (by omega)) (Fh_a g (by omega)) q13, q14⟩
  obtain ⟨p1, p2, p3, p4, p5, p6, p7, p8, p9, p10, p11, p12, p13, p14⟩ := q2
  refine ⟨(e0 0 (by omega)).trans p1, (e0 1 (by omega)).trans p2, (e0 2 (by omega)).trans p3, (e0 3 (by omega)).trans p4, ?_, ?_, ?_, ?_, ?_, ?_, ?_, ?_, ?_, wm⟩
  · rw [Fh_a g (a := 65) (by omega)]; exact p5
  · rw [Fh_a g (a := 66) (by omega)]; exact p6
  · rw [Fh_a g (a := 67) (by omega)]; exact p7
  · rw [Fh_a g (a := 68) (by omega)]; exact p8
  · rw [Fh_a g (a := 69) (by omega)]; exact p9
  · rw [Fh_a g (a := 70) (by omega)]; exact p10
  · rw [Fh_a g (a := 71) (by omega)]; exact p11
  · rw [Fh_a g (a := 72) (by omega)]; exact p12
  · rw [Fh_a g (a := 73) (by omega)]; exact p13
end FH
/-- what making the next house leaves -/
def NW (M M' : ZM) (h : Nat) : Prop := (∀ a, a ≠ 1 → a < 112 + 4 * h → M'.1 a = M.1 a) ∧ (∀ k, k ≠ 12 → M'.1 1 k = M.1 1 k) ∧ M'.1 1 12 = M.1 1 12 + 1 ∧ (∀ a, a < 112 → M'.2.1 a = M.2.1 a) ∧ (∀ a k, a < 112 → (a ≠ 2 ∨ k ≠ 13) → (a ≠ 1 ∨ k ≠ 11) → M'.2.2.1 a k = M.2.2.1 a k) ∧ M'.2.2.1 2 13 = M.2.2.1 1 11 ∧ M'.2.2.1 1 11 = 112 + 4 * h ∧ M'.2.2.2.1 = 116 + 4 * h ∧ M'.2.2.2.2.1 ≤ M.2.2.2.2.1 + 1000
theorem zf_ne {α : Type} {f : Nat → Nat → α} {a b : Nat} {v : α} (q : b ≠ a) : zfill f a v b = f b := by
  funext k
  unfold zfill
  rw [nbf q]
  rfl
theorem nw_all {I : Nat → Nat → Int32} {J : Nat → Nat → Int64} {Q : Nat → Nat → Nat} {sl s2 L h : Nat} (hs : s2 ≤ sl + 1000) : NW (I, J, Q, 112 + 4 * h, sl, L) (zu (zfill (zu (zfill (zfill (zu (zu (zfill I (112 + 4 * h) 0) (112 + 4 * h) 0 0) (112 + 4 * h) 1 0) (113 + 4 * h) 0) (114 + 4 * h) 0) (112 + 4 * h) 4 0) (115 + 4 * h) 0) 1 12 ((zfill (zu (zfill (zfill (zu (zu (zfill I (112 + 4 * h) 0) (112 + 4 * h) 0 0) (112 + 4 * h) 1 0) (113 + 4 * h) 0) (114 + 4 * h) 0) (112 + 4 * h) 4 0) (115 + 4 * h) 0) 1 12 + 1), zfill (zfill (zfill J (113 + 4 * h) 0) (114 + 4 * h) 0) (115 + 4 * h) 0, zu (zfill (zu Q 2 13 (Q 1 11)) (112 + 4 * h) 0) 1 11 (112 + 4 * h), 116 + 4 * h, s2, L) h := by
  have n1 : ∀ a, a < 112 + 4 * h → zfill (zu (zfill (zfill (zu (zu (zfill I (112 + 4 * h) 0) (112 + 4 * h) 0 0) (112 + 4 * h) 1 0) (113 + 4 * h) 0) (114 + 4 * h) 0) (112 + 4 * h) 4 0) (115 + 4 * h) 0 a = I a := fun a ha => by
    rw [zf_ne (by omega), zu_ne (by omega), zf_ne (by omega), zf_ne (by omega), zu_ne (by omega), zu_ne (by omega), zf_ne (by omega)]
  refine ⟨fun a h1 h2 => (zu_ne h1).trans (n1 a h2), fun k hk => (zu_kn hk).trans (by rw [n1 1 (by omega)]), ?_, fun a ha => ?_, fun a k ha h1 h2 => ?_, ?_, (zu_kk : zu (zfill (zu Q 2 13 (Q 1 11)) (112 + 4 * h) 0) 1 11 (112 + 4 * h) 1 11 = 112 + 4 * h), rfl, hs⟩
  · dsimp only
    rw [zu_kk, n1 1 (by omega)]
  · show zfill (zfill (zfill J (113 + 4 * h) 0) (114 + 4 * h) 0) (115 + 4 * h) 0 a = J a
    rw [zf_ne (by omega), zf_ne (by omega), zf_ne (by omega)]
  · show zu (zfill (zu Q 2 13 (Q 1 11)) (112 + 4 * h) 0) 1 11 (112 + 4 * h) a k = Q a k
    have e1 : zu (zfill (zu Q 2 13 (Q 1 11)) (112 + 4 * h) 0) 1 11 (112 + 4 * h) a k = zfill (zu Q 2 13 (Q 1 11)) (112 + 4 * h) 0 a k := by
      by_cases q : a = 1
      · rw [q]; exact zu_kn (by omega)
      · rw [zu_ne q]
    rw [e1, zf_ne (by omega)]
    by_cases q : a = 2
    · rw [q]; exact zu_kn (by omega)
    · rw [zu_ne q]
  · show zu (zfill (zu Q 2 13 (Q 1 11)) (112 + 4 * h) 0) 1 11 (112 + 4 * h) 2 13 = Q 1 11
    rw [zu_ne (by omega), zf_ne (by omega), zu_kk]
theorem c8_new {d h : Nat} (h5 : h ≤ 5) {M : ZM} (ht : M.2.2.2.1 = 112 + 4 * h) {i1 : Int32} : ∃ M', NW M M' h ∧ ∀ R : ZM → Option ZV → Prop, R M' (some (zI (M.1 1 12))) → A_X8_house_42 (d + 1) M i1 R := by
  obtain ⟨I, J, Q, top, sl, L⟩ := M
  have ht' : top = 112 + 4 * h := ht
  subst ht'
  have z10' : zn (10 : Int32) = 10 := by decide
  have z100 : zn (100 : Int32) = 100 := by decide
  have zN3 : zN 3 = 6 := by decide
  have key : ∀ (I : Nat → Nat → Int32) (a : Nat), a ≠ 1 → a + 1 ≠ 1 → zfill (zu (zfill (zfill (zu (zu (zfill I (a) 0) (a) 0 0) (a) 1 0) (a + 1) 0) (a + 2) 0) (a) 4 0) (a + 3) 0 1 = I 1 := fun I a ha _ => by
    rw [zf_ne (by omega), zu_ne (by omega), zf_ne (by omega), zf_ne (by omega), zu_ne (by omega), zu_ne (by omega), zf_ne (by omega)]
  have hs : sl + zN 3 + zn (10 : Int32) + zn (10 : Int32) + zn (100 : Int32) ≤ sl + 1000 := by rw [z10', z100, zN3]; omega
  match h, h5 with
  | 0, _ => exact ⟨_, nw_all (h := 0) hs, fun R hR => e_H112 (by rw [congrFun (key I 112 (by omega) (by omega)) 12]; rw [congrFun (key I 112 (by omega) (by omega)) 12] at hR; exact hR)⟩
  | 1, _ => exact ⟨_, nw_all (h := 1) hs, fun R hR => e_H116 (by rw [congrFun (key I 116 (by omega) (by omega)) 12]; rw [congrFun (key I 116 (by omega) (by omega)) 12] at hR; exact hR)⟩
  | 2, _ => exact ⟨_, nw_all (h := 2) hs, fun R hR => e_H120 (by rw [congrFun (key I 120 (by omega) (by omega)) 12]; rw [congrFun (key I 120 (by omega) (by omega)) 12] at hR; exact hR)⟩
  | 3, _ => exact ⟨_, nw_all (h := 3) hs, fun R hR => e_H124 (by rw [congrFun (key I 124 (by omega) (by omega)) 12]; rw [congrFun (key I 124 (by omega) (by omega)) 12] at hR; exact hR)⟩
  | 4, _ => exact ⟨_, nw_all (h := 4) hs, fun R hR => e_H128 (by rw [congrFun (key I 128 (by omega) (by omega)) 12]; rw [congrFun (key I 128 (by omega) (by omega)) 12] at hR; exact hR)⟩
  | 5, _ => exact ⟨_, nw_all (h := 5) hs, fun R hR => e_H132 (by rw [congrFun (key I 132 (by omega) (by omega)) 12]; rw [congrFun (key I 132 (by omega) (by omega)) 12] at hR; exact hR)⟩
