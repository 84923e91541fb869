/-! The call power -/
def bt (x p : Int32) : Bool := decide ((x >>> (p &&& 31)) &&& 1 = 1)
def lsO (W : Wv) (way p : Nat) : Nat → Nat → Int32 → Int32
  | 0, _, a => a
  | j + 1, k, a => if k = p then lsO W way p j (k + 1) a else if bt (nI way) (nI k) = true then lsO W way p j (k + 1) (a + nI (wV W (sSeat W k))) else lsO W way p j (k + 1) (a + -nI (wV W (sSeat W k)))
def sPw (W : Wv) (p : Nat) (own : Int32) : Nat → Nat → Nat → Nat
  | 0, _, n => n
  | j + 1, k, n => if bt (nI k) (nI p) = true then sPw W p own j (k + 1) n else if 0 < lsO W k p (wP W) 0 0 + own ∧ ¬ 0 < lsO W k p (wP W) 0 0 - own then sPw W p own j (k + 1) (n + 1) else sPw W p own j (k + 1) n
def cntz (p : Nat) : Nat → Nat → Nat
  | 0, _ => 0
  | j + 1, k => (if bt (nI k) (nI p) = true then 0 else 1) + cntz p j (k + 1)
theorem cntz_half : ∀ P, P < 8 → ∀ p, p < P → cntz p (2 ^ P) 0 = 2 ^ (P - 1) := by decide +kernel
theorem shl_P : ∀ P, P < 8 → (1 : Int32) <<< (nI P &&& 31) = nI (2 ^ P) := by decide +kernel
theorem two_le : ∀ P, P < 8 → 1 ≤ 2 ^ P ∧ 2 ^ P ≤ 128 ∧ 2 ^ (P - 1) ≤ 64 := by decide +kernel
theorem bt_t {x p : Int32} : ((x >>> (p &&& 31)) &&& 1 = 1) = (bt x p = true) := by
  unfold bt
  exact propext ⟨fun h => decide_eq_true h, fun h => of_decide_eq_true h⟩
theorem c9_has {d : Nat} {M : ZM} {x p : Int32} : Rt (d + 1) 137 [zR 9 64, zI x, zI p] M M (some (zI (zb (bt x p)))) := by
  refine ro_rt (g_X9_has ?_)
  rw [bt_t]
  exact ⟨fun q => ⟨rfl, by rw [q]; rfl⟩, fun q => ⟨rfl, by rw [eq_false_of_ne_true q]; rfl⟩⟩
section PW
variable {d : Nat} {M : ZM} {W : Wv}
theorem l8_oth (hW : WX M 1 W) (hB : WBd W) {way p : Nat} (hp : p < 7) : ∀ (j k : Nat) (a : Int32) (u : ZV), k + j = wP W → A_X8_leadOfOthers_5 (d + 1) M (nI way) (nI p) a (nI k) u (fun M' v => M' = M ∧ v = some (zI (lsO W way p j k a))) := by
  have b2 := hB.2.1
  have b3 := hB.2.2.1
  have x4 : M.1 2 4 = nI (wP W) := hW.2.1
  intro j
  induction j with
  | zero =>
    intro k a u hk
    refine a_X8_leadOfOthers_5 ?_
    rw [x4]
    exact ⟨fun q => absurd q (nI_nlt (by omega) (by omega)), fun _ => ⟨rfl, rfl⟩⟩
  | succ j ih =>
    intro k a u hk
    have hl := sSeat_lt hB k
    refine a_X8_leadOfOthers_5 ?_
    rw [x4, nI_eqe (by omega) (by omega), nI_1]
    unfold lsO
    refine ⟨fun _ => ⟨fun q => ?_, fun q => ⟨M, _, c7_seatOf (d := d) hW hB (by omega), in_nI hl (by omega), ?_⟩⟩, fun q => absurd (nI_lt (by omega) (by omega)) q⟩
    · rw [if_pos q]; exact ih (k + 1) a u (by omega)
    · rw [bt_t, zn_nI (by omega), show M.1 3 (sSeat W k) = nI (wV W (sSeat W k)) from hW.2.2.2.2.1 _ (by omega), if_neg q]
      refine ⟨fun r => ?_, fun r => ?_⟩
      · rw [if_pos r]; exact ih (k + 1) _ _ (by omega)
      · rw [if_neg r]; exact ih (k + 1) _ _ (by omega)
theorem l8_pw (hW : WX M 1 W) (hB : WBd W) {p : Nat} (hp : p < wP W) {own i2 : Int32} : ∀ (j k n : Nat) (u : ZV), k + j = 2 ^ wP W → n ≤ k → A_X8_power_42 (d + 2) M (nI p) i2 own (nI n) (nI k) u (fun M' v => M' = M ∧ v = some (zL (sLow (sPw W p own j k n) (2 ^ (wP W - 1)) i2))) := by
  have b2 := hB.2.1
  have b3 := hB.2.2.1
  have x4 : M.1 2 4 = nI (wP W) := hW.2.1
  obtain ⟨e1, e2, e3⟩ := two_le (wP W) (by omega)
  have e4 := shl_P (wP W) (by omega)
  have e5 := shl_P (wP W - 1) (by omega)
  have e6 : nI (wP W) - 1 = nI (wP W - 1) := pk_sub (b := 1) (by omega)
  have e7 := (two_le (wP W - 1) (by omega)).1
  intro j
  induction j with
  | zero =>
    intro k n u hk hn
    refine a_X8_power_42 ?_
    rw [x4, e4, e6, e5]
    exact ⟨fun q => absurd q (nI_nlt (by omega) (by omega)), fun _ => ⟨M, _, c8_low (d := d) (by omega) (by omega) (by omega), rfl, rfl⟩⟩
  | succ j ih =>
    intro k n u hk hn
    refine a_X8_power_42 ?_
    rw [x4, e4, bt_t, nI_1, nI_1]
    unfold sPw
    refine ⟨fun _ => ⟨fun q => ?_, fun q => ⟨M, _, ro_rt (g_X8_leadOfOthers (l8_oth (d := d) hW hB (by omega) (wP W) 0 0 zU (by omega))), fun r => ⟨fun s => ?_, fun s => ?_⟩, fun r => ?_⟩⟩, fun q => absurd (nI_lt (by omega) (by omega)) q⟩
    · rw [if_pos q]; exact ih (k + 1) n _ (by omega) (by omega)
    · rw [if_neg q, if_neg (fun x => x.2 s)]; exact ih (k + 1) n _ (by omega) (by omega)
    · rw [if_neg q, if_pos ⟨r, s⟩]; exact ih (k + 1) (n + 1) _ (by omega) (by omega)
    · rw [if_neg q, if_neg (fun x => r x.1)]; exact ih (k + 1) n _ (by omega) (by omega)
theorem l9_pw75 (hW : WM M W) (hB : WBd W) {p way : Nat} (hp : p < 7) {own i2 i4 i5 : Int32} {R : ZM → Option ZV → Prop} : ∀ (j k : Nat) (a : Int32), k + j = wP W → (∀ u u', (0 < lsO W way p j k a + own ∧ ¬ 0 < lsO W way p j k a - own → A_X9_power_42 (d + 1) M (nI p) i2 own i4 (i5 + 1) (nI (way + 1)) u u' R) ∧ (¬ (0 < lsO W way p j k a + own ∧ ¬ 0 < lsO W way p j k a - own) → A_X9_power_42 (d + 1) M (nI p) i2 own i4 i5 (nI (way + 1)) u u' R)) → A_X9_power_75 (d + 1) M (nI p) i2 own i4 i5 (nI way) a (nI k) R := by
  have b2 := hB.2.1
  have b3 := hB.2.2.1
  have x4 : M.1 64 1 = nI (wP W) := hW.2.1
  intro j
  induction j with
  | zero =>
    intro k a hk K
    refine a_X9_power_75 ?_
    rw [x4, Int32.add_zero i5, nI_1 way]
    obtain ⟨K1, K2⟩ := K (zI a) (zI (nI k))
    exact ⟨fun q => absurd q (nI_nlt (by omega) (by omega)), fun _ => ⟨fun r => ⟨fun s => K2 (fun x => x.2 s), fun s => K1 ⟨r, s⟩⟩, fun r => K2 (fun x => r x.1)⟩⟩
  | succ j ih =>
    intro k a hk K
    have hl := sSeat_lt hB k
    refine a_X9_power_75 ?_
    rw [x4, nI_eqe (by omega) (by omega), Int32.add_zero, nI_1]
    unfold lsO at K
    refine ⟨fun _ => ⟨fun q => ?_, fun q => ⟨M, _, c9_has, ?_⟩⟩, fun q => absurd (nI_lt (by omega) (by omega)) q⟩
    · simp only [if_pos q] at K
      exact ih (k + 1) a (by omega) K
    · rw [zb0]
      simp only [if_neg q] at K
      refine ⟨fun r => ⟨M, _, c9_seatOf (d := d) hW hB (by omega), in_nI hl (by omega), ?_⟩, fun r => ⟨M, _, c9_seatOf (d := d) hW hB (by omega), in_nI hl (by omega), ?_⟩⟩
      · simp only [if_neg (show ¬ bt (nI way) (nI k) = true by rw [r]; decide)] at K
        rw [zn_nI (by omega), hW.2.2.2.2.1 _ (by omega)]
        exact ih (k + 1) _ (by omega) K
      · simp only [if_pos (eq_true_of_ne_false r)] at K
        rw [zn_nI (by omega), hW.2.2.2.2.1 _ (by omega)]
        exact ih (k + 1) _ (by omega) K
theorem l9_pw (hW : WM M W) (hB : WBd W) {p : Nat} (hp : p < wP W) {own i2 : Int32} : ∀ (j k n w : Nat) (u u' : ZV), k + j = 2 ^ wP W → n ≤ k → w ≤ k → w + cntz p j k = 2 ^ (wP W - 1) → A_X9_power_42 (d + 2) M (nI p) i2 own (nI w) (nI n) (nI k) u u' (fun M' v => M' = M ∧ v = some (zL (sLow (sPw W p own j k n) (2 ^ (wP W - 1)) i2))) := by
  have b2 := hB.2.1
  have b3 := hB.2.2.1
  have x4 : M.1 64 1 = nI (wP W) := hW.2.1
  obtain ⟨e1, e2, e3⟩ := two_le (wP W) (by omega)
  have e4 := shl_P (wP W) (by omega)
  have e7 := (two_le (wP W - 1) (by omega)).1
  intro j
  induction j with
  | zero =>
    intro k n w u u' hk hn hw hc
    have hc' : w = 2 ^ (wP W - 1) := by unfold cntz at hc; omega
    refine a_X9_power_42 ?_
    rw [x4, e4, nI_l (by omega), nI_l (by omega), hc']
    exact ⟨fun q => absurd q (nI_nlt (by omega) (by omega)), fun _ => ⟨M, _, c9_low (d := d) (by omega) (by omega) (by omega), rfl, rfl⟩⟩
  | succ j ih =>
    intro k n w u u' hk hn hw hc
    unfold cntz at hc
    refine a_X9_power_42 ?_
    rw [x4, e4, nI_1, nI_1]
    refine ⟨fun _ => ⟨M, _, c9_has, ?_⟩, fun q => absurd (nI_lt (by omega) (by omega)) q⟩
    rw [zb0]
    unfold sPw
    refine ⟨fun q => ?_, fun q => ?_⟩
    · have q' : ¬ bt (nI k) (nI p) = true := by rw [q]; decide
      rw [if_neg q'] at hc
      refine l9_pw75 (d := d + 1) hW hB (by omega) (wP W) 0 0 (by omega) (fun v v' => ?_)
      rw [if_neg q', nI_1]
      refine ⟨fun r => ?_, fun r => ?_⟩
      · rw [if_pos r]; exact ih (k + 1) (n + 1) (w + 1) v v' (by omega) (by omega) (by omega) (by omega)
      · rw [if_neg r]; exact ih (k + 1) n (w + 1) v v' (by omega) (by omega) (by omega) (by omega)
    · have q' := eq_true_of_ne_false q
      rw [if_pos q'] at hc ⊢
      exact ih (k + 1) n w u u' (by omega) (by omega) (by omega) (by omega)
theorem op_power (i k : Int32) : Op 102 199 [zI i, zI k] := fun M W h hi => by
  obtain ⟨q1, q2, q3, q4⟩ := id hi
  cases hv : vix i (wP W)
  · exact op_z (v := zL (-9223372036854775808)) hi (ro_rt (g_X8_power ⟨M, _, (c8_isP q1).1 hv, fun _ => ⟨rfl, rfl⟩, z00⟩)) (ro_rt (g_X9_power ⟨M, _, (c9_isP q2 q3).1 hv, fun _ => ⟨rfl, rfl⟩, z00⟩))
  by_cases hu : k = 0 ∨ k = 1
  case neg => exact op_z (v := zL (-9223372036854775808)) hi (ro_rt (g_X8_power ⟨M, _, (c8_isP q1).2 hv, z10, fun _ => ⟨M, _, c8_part.2 hu, fun _ => ⟨rfl, rfl⟩, z00⟩⟩)) (ro_rt (g_X9_power ⟨M, _, (c9_isP q2 q3).2 hv, z10, fun _ => ⟨M, _, c9_part.2 hu, fun _ => ⟨rfl, rfl⟩, z00⟩⟩))
  have b2 := q3.2.1
  have b3 := q3.2.2.1
  obtain ⟨p, hp, ep⟩ := vix_t (by omega) hv
  have hl := sSeat_lt q3 p
  have s8 := c7_seatOf (d := 58) q1 q3 (by omega : p < 7)
  have s9 := c9_seatOf (d := 58) q2 q3 (by omega : p < 7)
  have v8 : M.1 3 (zn (nI (sSeat W p))) = nI (wV W (sSeat W p)) := by rw [zn_nI (by omega)]; exact q1.2.2.2.2.1 _ (by omega)
  have v9 : M.1 65 (zn (nI (sSeat W p))) = nI (wV W (sSeat W p)) := by rw [zn_nI (by omega)]; exact q2.2.2.2.2.1 _ (by omega)
  have ch := cntz_half (wP W) (by omega) p hp
  refine op_z (v := zL (sLow (sPw W p (nI (wV W (sSeat W p))) (2 ^ wP W) 0 0) (2 ^ (wP W - 1)) k)) hi (ro_rt (g_X8_power ⟨M, _, (c8_isP q1).2 hv, z10, fun _ => ⟨M, _, c8_part.1 hu, z10, fun _ => ⟨M, _, by rw [ep]; exact s8, in_nI hl (by omega), ?_⟩⟩⟩)) (ro_rt (g_X9_power ⟨M, _, (c9_isP q2 q3).2 hv, z10, fun _ => ⟨M, _, c9_part.1 hu, z10, fun _ => ⟨M, _, by rw [ep]; exact s9, in_nI hl (by omega), ?_⟩⟩⟩))
  · rw [v8, ep]
    exact l8_pw (d := 57) q1 q3 hp (2 ^ wP W) 0 0 zU (by omega) (by omega)
  · rw [v9, ep]
    exact l9_pw (d := 57) q2 q3 hp (2 ^ wP W) 0 0 0 zU zU (by omega) (by omega) (by omega) (by omega)
end PW
