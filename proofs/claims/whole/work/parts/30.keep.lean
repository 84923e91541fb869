/-! the script stays as it is -/
def zkp (M M' : ZM) : Prop := 1 ≤ ztop M → (M'.1 0 = M.1 0 ∧ M'.2.2.2.2.2 = M.2.2.2.2.2 ∧ 1 ≤ ztop M')
theorem zkp.rf {M : ZM} : zkp M M := fun h => ⟨rfl, rfl, h⟩
theorem zkp.tr {A B C : ZM} (h : zkp A B) (k : zkp B C) : zkp A C := fun t => by
  obtain ⟨a, b, c⟩ := h t
  obtain ⟨x, y, z⟩ := k c
  exact ⟨x.trans a, y.trans b, z⟩
theorem zfill_0 {f : Nat → Nat → Int32} {t : Nat} (h : 1 ≤ t) : zfill f t 0 0 = f 0 := by
  funext j
  unfold zfill
  have : Nat.beq 0 t = false := by
    cases t with
    | zero => omega
    | succ t => rfl
  rw [this]
  rfl
section ZKP
variable {M Mf : ZM} {ls st : List ZV} {F : List Nat} {k : ZK} {r : ZM × Option ZV} {P : Prop} {n a b c t : Nat} {v : ZV}
theorem kp_load (hk : ∀ M' pc' ls' st' F', zkp M M' → k M' pc' ls' st' F' = some r → P) (h : zsLoad a b n M ls st F k = some r) : P := by
  unfold zsLoad at h
  try simp only [Bool.cond_eq_ite] at h
  repeat' split at h
  all_goals first
    | (cases h; done)
    | exact hk _ _ _ _ _ zkp.rf h
    | (refine hk _ _ _ _ _ ?_ h; intro ht; exact ⟨rfl, rfl, ht⟩)
    | (refine hk _ _ _ _ _ ?_ h; intro ht; exact ⟨zfill_0 ht, rfl, Nat.le_succ_of_le ht⟩)
    | (refine hk _ _ _ _ _ ?_ h; intro ht; refine ⟨zu_ne (fun e => ?_), rfl, ht⟩; subst e; simp_all; done)
    | (refine hk _ _ _ _ _ ?_ h; intro ht; refine ⟨zcp_ne (fun e => ?_), rfl, ht⟩; subst e; simp_all; done)
theorem kp_store (hk : ∀ M' pc' ls' st' F', zkp M M' → k M' pc' ls' st' F' = some r → P) (h : zsStore a b n M ls st F k = some r) : P := by
  unfold zsStore at h
  try simp only [Bool.cond_eq_ite] at h
  repeat' split at h
  all_goals first
    | (cases h; done)
    | exact hk _ _ _ _ _ zkp.rf h
    | (refine hk _ _ _ _ _ ?_ h; intro ht; exact ⟨rfl, rfl, ht⟩)
    | (refine hk _ _ _ _ _ ?_ h; intro ht; exact ⟨zfill_0 ht, rfl, Nat.le_succ_of_le ht⟩)
    | (refine hk _ _ _ _ _ ?_ h; intro ht; refine ⟨zu_ne (fun e => ?_), rfl, ht⟩; subst e; simp_all; done)
    | (refine hk _ _ _ _ _ ?_ h; intro ht; refine ⟨zcp_ne (fun e => ?_), rfl, ht⟩; subst e; simp_all; done)
theorem kp_inc (hk : ∀ M' pc' ls' st' F', zkp M M' → k M' pc' ls' st' F' = some r → P) (h : zsInc a n v M ls st F k = some r) : P := by
  unfold zsInc at h
  try simp only [Bool.cond_eq_ite] at h
  repeat' split at h
  all_goals first
    | (cases h; done)
    | exact hk _ _ _ _ _ zkp.rf h
    | (refine hk _ _ _ _ _ ?_ h; intro ht; exact ⟨rfl, rfl, ht⟩)
    | (refine hk _ _ _ _ _ ?_ h; intro ht; exact ⟨zfill_0 ht, rfl, Nat.le_succ_of_le ht⟩)
    | (refine hk _ _ _ _ _ ?_ h; intro ht; refine ⟨zu_ne (fun e => ?_), rfl, ht⟩; subst e; simp_all; done)
    | (refine hk _ _ _ _ _ ?_ h; intro ht; refine ⟨zcp_ne (fun e => ?_), rfl, ht⟩; subst e; simp_all; done)
theorem kp_bin (hk : ∀ M' pc' ls' st' F', zkp M M' → k M' pc' ls' st' F' = some r → P) (h : zsBin a n M ls st F k = some r) : P := by
  unfold zsBin at h
  try simp only [Bool.cond_eq_ite] at h
  repeat' split at h
  all_goals first
    | (cases h; done)
    | exact hk _ _ _ _ _ zkp.rf h
    | (refine hk _ _ _ _ _ ?_ h; intro ht; exact ⟨rfl, rfl, ht⟩)
    | (refine hk _ _ _ _ _ ?_ h; intro ht; exact ⟨zfill_0 ht, rfl, Nat.le_succ_of_le ht⟩)
    | (refine hk _ _ _ _ _ ?_ h; intro ht; refine ⟨zu_ne (fun e => ?_), rfl, ht⟩; subst e; simp_all; done)
    | (refine hk _ _ _ _ _ ?_ h; intro ht; refine ⟨zcp_ne (fun e => ?_), rfl, ht⟩; subst e; simp_all; done)
theorem kp_div (hk : ∀ M' pc' ls' st' F', zkp M M' → k M' pc' ls' st' F' = some r → P) (h : zsDiv a n M ls st F k = some r) : P := by
  unfold zsDiv at h
  try simp only [Bool.cond_eq_ite] at h
  repeat' split at h
  all_goals first
    | (cases h; done)
    | exact hk _ _ _ _ _ zkp.rf h
    | (refine hk _ _ _ _ _ ?_ h; intro ht; exact ⟨rfl, rfl, ht⟩)
    | (refine hk _ _ _ _ _ ?_ h; intro ht; exact ⟨zfill_0 ht, rfl, Nat.le_succ_of_le ht⟩)
    | (refine hk _ _ _ _ _ ?_ h; intro ht; refine ⟨zu_ne (fun e => ?_), rfl, ht⟩; subst e; simp_all; done)
    | (refine hk _ _ _ _ _ ?_ h; intro ht; refine ⟨zcp_ne (fun e => ?_), rfl, ht⟩; subst e; simp_all; done)
theorem kp_un (hk : ∀ M' pc' ls' st' F', zkp M M' → k M' pc' ls' st' F' = some r → P) (h : zsUn a n M ls st F k = some r) : P := by
  unfold zsUn at h
  try simp only [Bool.cond_eq_ite] at h
  repeat' split at h
  all_goals first
    | (cases h; done)
    | exact hk _ _ _ _ _ zkp.rf h
    | (refine hk _ _ _ _ _ ?_ h; intro ht; exact ⟨rfl, rfl, ht⟩)
    | (refine hk _ _ _ _ _ ?_ h; intro ht; exact ⟨zfill_0 ht, rfl, Nat.le_succ_of_le ht⟩)
    | (refine hk _ _ _ _ _ ?_ h; intro ht; refine ⟨zu_ne (fun e => ?_), rfl, ht⟩; subst e; simp_all; done)
    | (refine hk _ _ _ _ _ ?_ h; intro ht; refine ⟨zcp_ne (fun e => ?_), rfl, ht⟩; subst e; simp_all; done)
theorem kp_lbin (hk : ∀ M' pc' ls' st' F', zkp M M' → k M' pc' ls' st' F' = some r → P) (h : zsLBin a n M ls st F k = some r) : P := by
  unfold zsLBin at h
  try simp only [Bool.cond_eq_ite] at h
  repeat' split at h
  all_goals first
    | (cases h; done)
    | exact hk _ _ _ _ _ zkp.rf h
    | (refine hk _ _ _ _ _ ?_ h; intro ht; exact ⟨rfl, rfl, ht⟩)
    | (refine hk _ _ _ _ _ ?_ h; intro ht; exact ⟨zfill_0 ht, rfl, Nat.le_succ_of_le ht⟩)
    | (refine hk _ _ _ _ _ ?_ h; intro ht; refine ⟨zu_ne (fun e => ?_), rfl, ht⟩; subst e; simp_all; done)
    | (refine hk _ _ _ _ _ ?_ h; intro ht; refine ⟨zcp_ne (fun e => ?_), rfl, ht⟩; subst e; simp_all; done)
theorem kp_stk (hk : ∀ M' pc' ls' st' F', zkp M M' → k M' pc' ls' st' F' = some r → P) (h : zsStk a n M ls st F k = some r) : P := by
  unfold zsStk at h
  try simp only [Bool.cond_eq_ite] at h
  repeat' split at h
  all_goals first
    | (cases h; done)
    | exact hk _ _ _ _ _ zkp.rf h
    | (refine hk _ _ _ _ _ ?_ h; intro ht; exact ⟨rfl, rfl, ht⟩)
    | (refine hk _ _ _ _ _ ?_ h; intro ht; exact ⟨zfill_0 ht, rfl, Nat.le_succ_of_le ht⟩)
    | (refine hk _ _ _ _ _ ?_ h; intro ht; refine ⟨zu_ne (fun e => ?_), rfl, ht⟩; subst e; simp_all; done)
    | (refine hk _ _ _ _ _ ?_ h; intro ht; refine ⟨zcp_ne (fun e => ?_), rfl, ht⟩; subst e; simp_all; done)
theorem kp_cmp (hk : ∀ M' pc' ls' st' F', zkp M M' → k M' pc' ls' st' F' = some r → P) (h : zsCmp a n b M ls st F k = some r) : P := by
  unfold zsCmp at h
  try simp only [Bool.cond_eq_ite] at h
  repeat' split at h
  all_goals first
    | (cases h; done)
    | exact hk _ _ _ _ _ zkp.rf h
    | (refine hk _ _ _ _ _ ?_ h; intro ht; exact ⟨rfl, rfl, ht⟩)
    | (refine hk _ _ _ _ _ ?_ h; intro ht; exact ⟨zfill_0 ht, rfl, Nat.le_succ_of_le ht⟩)
    | (refine hk _ _ _ _ _ ?_ h; intro ht; refine ⟨zu_ne (fun e => ?_), rfl, ht⟩; subst e; simp_all; done)
    | (refine hk _ _ _ _ _ ?_ h; intro ht; refine ⟨zcp_ne (fun e => ?_), rfl, ht⟩; subst e; simp_all; done)
theorem kp_ifn (hk : ∀ M' pc' ls' st' F', zkp M M' → k M' pc' ls' st' F' = some r → P) (h : zsIfN n b M ls st F k = some r) : P := by
  unfold zsIfN at h
  try simp only [Bool.cond_eq_ite] at h
  repeat' split at h
  all_goals first
    | (cases h; done)
    | exact hk _ _ _ _ _ zkp.rf h
    | (refine hk _ _ _ _ _ ?_ h; intro ht; exact ⟨rfl, rfl, ht⟩)
    | (refine hk _ _ _ _ _ ?_ h; intro ht; exact ⟨zfill_0 ht, rfl, Nat.le_succ_of_le ht⟩)
    | (refine hk _ _ _ _ _ ?_ h; intro ht; refine ⟨zu_ne (fun e => ?_), rfl, ht⟩; subst e; simp_all; done)
    | (refine hk _ _ _ _ _ ?_ h; intro ht; refine ⟨zcp_ne (fun e => ?_), rfl, ht⟩; subst e; simp_all; done)
theorem kp_get (hk : ∀ M' pc' ls' st' F', zkp M M' → k M' pc' ls' st' F' = some r → P) (h : zsGet a b c n v M ls st F k = some r) : P := by
  unfold zsGet at h
  try simp only [Bool.cond_eq_ite] at h
  repeat' split at h
  all_goals first
    | (cases h; done)
    | exact hk _ _ _ _ _ zkp.rf h
    | (refine hk _ _ _ _ _ ?_ h; intro ht; exact ⟨rfl, rfl, ht⟩)
    | (refine hk _ _ _ _ _ ?_ h; intro ht; exact ⟨zfill_0 ht, rfl, Nat.le_succ_of_le ht⟩)
    | (refine hk _ _ _ _ _ ?_ h; intro ht; refine ⟨zu_ne (fun e => ?_), rfl, ht⟩; subst e; simp_all; done)
    | (refine hk _ _ _ _ _ ?_ h; intro ht; refine ⟨zcp_ne (fun e => ?_), rfl, ht⟩; subst e; simp_all; done)
theorem kp_put (hk : ∀ M' pc' ls' st' F', zkp M M' → k M' pc' ls' st' F' = some r → P) (h : zsPut a b c n v t M ls st F k = some r) : P := by
  unfold zsPut at h
  try simp only [Bool.cond_eq_ite] at h
  repeat' split at h
  all_goals first
    | (cases h; done)
    | exact hk _ _ _ _ _ zkp.rf h
    | (refine hk _ _ _ _ _ ?_ h; intro ht; exact ⟨rfl, rfl, ht⟩)
    | (refine hk _ _ _ _ _ ?_ h; intro ht; exact ⟨zfill_0 ht, rfl, Nat.le_succ_of_le ht⟩)
    | (refine hk _ _ _ _ _ ?_ h; intro ht; refine ⟨zu_ne (fun e => ?_), rfl, ht⟩; subst e; simp_all; done)
    | (refine hk _ _ _ _ _ ?_ h; intro ht; refine ⟨zcp_ne (fun e => ?_), rfl, ht⟩; subst e; simp_all; done)
theorem kp_len (hk : ∀ M' pc' ls' st' F', zkp M M' → k M' pc' ls' st' F' = some r → P) (h : zsLen n M ls st F k = some r) : P := by
  unfold zsLen at h
  try simp only [Bool.cond_eq_ite] at h
  repeat' split at h
  all_goals first
    | (cases h; done)
    | exact hk _ _ _ _ _ zkp.rf h
    | (refine hk _ _ _ _ _ ?_ h; intro ht; exact ⟨rfl, rfl, ht⟩)
    | (refine hk _ _ _ _ _ ?_ h; intro ht; exact ⟨zfill_0 ht, rfl, Nat.le_succ_of_le ht⟩)
    | (refine hk _ _ _ _ _ ?_ h; intro ht; refine ⟨zu_ne (fun e => ?_), rfl, ht⟩; subst e; simp_all; done)
    | (refine hk _ _ _ _ _ ?_ h; intro ht; refine ⟨zcp_ne (fun e => ?_), rfl, ht⟩; subst e; simp_all; done)
theorem kp_ald (hk : ∀ M' pc' ls' st' F', zkp M M' → k M' pc' ls' st' F' = some r → P) (h : zsALd a n M ls st F k = some r) : P := by
  unfold zsALd at h
  try simp only [Bool.cond_eq_ite] at h
  repeat' split at h
  all_goals first
    | (cases h; done)
    | exact hk _ _ _ _ _ zkp.rf h
    | (refine hk _ _ _ _ _ ?_ h; intro ht; exact ⟨rfl, rfl, ht⟩)
    | (refine hk _ _ _ _ _ ?_ h; intro ht; exact ⟨zfill_0 ht, rfl, Nat.le_succ_of_le ht⟩)
    | (refine hk _ _ _ _ _ ?_ h; intro ht; refine ⟨zu_ne (fun e => ?_), rfl, ht⟩; subst e; simp_all; done)
    | (refine hk _ _ _ _ _ ?_ h; intro ht; refine ⟨zcp_ne (fun e => ?_), rfl, ht⟩; subst e; simp_all; done)
theorem kp_ast (hk : ∀ M' pc' ls' st' F', zkp M M' → k M' pc' ls' st' F' = some r → P) (h : zsASt a n M ls st F k = some r) : P := by
  unfold zsASt at h
  try simp only [Bool.cond_eq_ite] at h
  repeat' split at h
  all_goals first
    | (cases h; done)
    | exact hk _ _ _ _ _ zkp.rf h
    | (refine hk _ _ _ _ _ ?_ h; intro ht; exact ⟨rfl, rfl, ht⟩)
    | (refine hk _ _ _ _ _ ?_ h; intro ht; exact ⟨zfill_0 ht, rfl, Nat.le_succ_of_le ht⟩)
    | (refine hk _ _ _ _ _ ?_ h; intro ht; refine ⟨zu_ne (fun e => ?_), rfl, ht⟩; subst e; simp_all; done)
    | (refine hk _ _ _ _ _ ?_ h; intro ht; refine ⟨zcp_ne (fun e => ?_), rfl, ht⟩; subst e; simp_all; done)
theorem kp_newa {S : Nat → Nat}  (hk : ∀ M' pc' ls' st' F', zkp M M' → k M' pc' ls' st' F' = some r → P) (h : zsNewA S a n M ls st F k = some r) : P := by
  unfold zsNewA at h
  try simp only [Bool.cond_eq_ite] at h
  repeat' split at h
  all_goals first
    | (cases h; done)
    | exact hk _ _ _ _ _ zkp.rf h
    | (refine hk _ _ _ _ _ ?_ h; intro ht; exact ⟨rfl, rfl, ht⟩)
    | (refine hk _ _ _ _ _ ?_ h; intro ht; exact ⟨zfill_0 ht, rfl, Nat.le_succ_of_le ht⟩)
    | (refine hk _ _ _ _ _ ?_ h; intro ht; refine ⟨zu_ne (fun e => ?_), rfl, ht⟩; subst e; simp_all; done)
    | (refine hk _ _ _ _ _ ?_ h; intro ht; refine ⟨zcp_ne (fun e => ?_), rfl, ht⟩; subst e; simp_all; done)
theorem kp_new {S N : Nat → Nat}  (hk : ∀ M' pc' ls' st' F', zkp M M' → k M' pc' ls' st' F' = some r → P) (h : zsNew S N a n M ls st F k = some r) : P := by
  unfold zsNew at h
  try simp only [Bool.cond_eq_ite] at h
  repeat' split at h
  all_goals first
    | (cases h; done)
    | exact hk _ _ _ _ _ zkp.rf h
    | (refine hk _ _ _ _ _ ?_ h; intro ht; exact ⟨rfl, rfl, ht⟩)
    | (refine hk _ _ _ _ _ ?_ h; intro ht; exact ⟨zfill_0 ht, rfl, Nat.le_succ_of_le ht⟩)
    | (refine hk _ _ _ _ _ ?_ h; intro ht; refine ⟨zu_ne (fun e => ?_), rfl, ht⟩; subst e; simp_all; done)
    | (refine hk _ _ _ _ _ ?_ h; intro ht; refine ⟨zcp_ne (fun e => ?_), rfl, ht⟩; subst e; simp_all; done)
theorem kp_copy (hk : ∀ M' pc' ls' st' F', zkp M M' → k M' pc' ls' st' F' = some r → P) (h : zsCopy n M ls st F k = some r) : P := by
  unfold zsCopy at h
  try simp only [Bool.cond_eq_ite] at h
  repeat' split at h
  all_goals first
    | (cases h; done)
    | exact hk _ _ _ _ _ zkp.rf h
    | (refine hk _ _ _ _ _ ?_ h; intro ht; exact ⟨rfl, rfl, ht⟩)
    | (refine hk _ _ _ _ _ ?_ h; intro ht; exact ⟨zfill_0 ht, rfl, Nat.le_succ_of_le ht⟩)
    | (refine hk _ _ _ _ _ ?_ h; intro ht; refine ⟨zu_ne (fun e => ?_), rfl, ht⟩; subst e; simp_all; done)
    | (refine hk _ _ _ _ _ ?_ h; intro ht; refine ⟨zcp_ne (fun e => ?_), rfl, ht⟩; subst e; simp_all; done)
theorem kp_obj (hk : ∀ M' pc' ls' st' F', zkp M M' → k M' pc' ls' st' F' = some r → P) (h : zsObj n M ls st F k = some r) : P := by
  unfold zsObj at h
  try simp only [Bool.cond_eq_ite] at h
  repeat' split at h
  all_goals first
    | (cases h; done)
    | exact hk _ _ _ _ _ zkp.rf h
    | (refine hk _ _ _ _ _ ?_ h; intro ht; exact ⟨rfl, rfl, ht⟩)
    | (refine hk _ _ _ _ _ ?_ h; intro ht; exact ⟨zfill_0 ht, rfl, Nat.le_succ_of_le ht⟩)
    | (refine hk _ _ _ _ _ ?_ h; intro ht; refine ⟨zu_ne (fun e => ?_), rfl, ht⟩; subst e; simp_all; done)
    | (refine hk _ _ _ _ _ ?_ h; intro ht; refine ⟨zcp_ne (fun e => ?_), rfl, ht⟩; subst e; simp_all; done)
theorem kp_max (hk : ∀ M' pc' ls' st' F', zkp M M' → k M' pc' ls' st' F' = some r → P) (h : zsMax n M ls st F k = some r) : P := by
  unfold zsMax at h
  try simp only [Bool.cond_eq_ite] at h
  repeat' split at h
  all_goals first
    | (cases h; done)
    | exact hk _ _ _ _ _ zkp.rf h
    | (refine hk _ _ _ _ _ ?_ h; intro ht; exact ⟨rfl, rfl, ht⟩)
    | (refine hk _ _ _ _ _ ?_ h; intro ht; exact ⟨zfill_0 ht, rfl, Nat.le_succ_of_le ht⟩)
    | (refine hk _ _ _ _ _ ?_ h; intro ht; refine ⟨zu_ne (fun e => ?_), rfl, ht⟩; subst e; simp_all; done)
    | (refine hk _ _ _ _ _ ?_ h; intro ht; refine ⟨zcp_ne (fun e => ?_), rfl, ht⟩; subst e; simp_all; done)
theorem kp_pick {x : Int32} {d : Nat} {g : Nat → ZRes} : ∀ {cs : List (Int32 × Nat)}, (∀ t, g t = some r → P) → zpick x d cs g = some r → P
  | [], hg, h => hg _ h
  | (v, t) :: cs, hg, h => by
    unfold zpick at h
    split at h
    · exact hg _ h
    · exact kp_pick hg h
theorem kp_call {H : ZH} {m ar kd c n : Nat} (hH : ∀ as M1 v1, H m as M = some (M1, v1) → zkp M M1) (hk : ∀ M' pc' ls' st' F', zkp M M' → k M' pc' ls' st' F' = some r → P) (h : zsCall H m ar kd c n M ls st F k = some r) : P := by
  unfold zsCall at h
  try simp only [Bool.cond_eq_ite] at h
  repeat' split at h
  all_goals first
    | (cases h; done)
    | (rename_i hr; exact hk _ _ _ _ _ (hH _ _ _ hr) h)
theorem kp_ret {fin : Nat → List Nat} {kd c : Nat} {w : Option ZV} (h : zsRet fin kd c M st F = some (Mf, w)) : zkp M Mf := by
  unfold zsRet at h
  try simp only [Bool.cond_eq_ite] at h
  repeat' split at h
  all_goals first
    | (cases h; done)
    | (cases h; exact zkp.rf)
end ZKP
theorem zstep_keep {H : ZH} {th : Nat} {op : ZOp} {M Mf : ZM} {v : Option ZV} {ls st : List ZV} {F : List Nat} {k : ZK} (hH : ∀ m as M M1 v1, H m as M = some (M1, v1) → zkp M M1) (hk : ∀ M' pc' ls' st' F', k M' pc' ls' st' F' = some (Mf, v) → zkp M' Mf) (h : zstep zS zN zFin H th op M ls st F k = some (Mf, v)) : zkp M Mf := by
  obtain ⟨o, a, b, c, n, w, cs⟩ := op
  have hk' : ∀ M' pc' ls' st' F', zkp M M' → k M' pc' ls' st' F' = some (Mf, v) → zkp M Mf := fun M' pc' ls' st' F' h1 h2 => h1.tr (hk M' pc' ls' st' F' h2)
  unfold zstep at h
  try simp only [Bool.cond_eq_ite] at h
  repeat' split at h
  all_goals first
    | (cases h; done)
    | exact hk' _ _ _ _ _ zkp.rf h
    | exact kp_load hk' h
    | exact kp_store hk' h
    | exact kp_inc hk' h
    | exact kp_bin hk' h
    | exact kp_div hk' h
    | exact kp_un hk' h
    | exact kp_lbin hk' h
    | exact kp_stk hk' h
    | exact kp_cmp hk' h
    | exact kp_ifn hk' h
    | exact kp_get hk' h
    | exact kp_put hk' h
    | exact kp_len hk' h
    | exact kp_ald hk' h
    | exact kp_ast hk' h
    | exact kp_newa hk' h
    | exact kp_new hk' h
    | exact kp_copy hk' h
    | exact kp_obj hk' h
    | exact kp_max hk' h
    | exact kp_call (fun as M1 v1 q => hH _ as _ M1 v1 q) hk' h
    | exact kp_ret h
    | (unfold zsSw at h; split at h; exact kp_pick (fun t q => hk' _ _ _ _ _ zkp.rf q) h; cases h)
theorem zrunF_keep {H : ZH} {code : Nat → ZOp} {th : Nat} (hH : ∀ m as M M1 v1, H m as M = some (M1, v1) → zkp M M1) : ∀ (n : Nat) (M Mf : ZM) (v : Option ZV) (pc : Nat) (ls st : List ZV) (F : List Nat), zrunF H code th n M pc ls st F = some (Mf, v) → zkp M Mf
  | 0, _, _, _, _, _, _, _, h => by cases h
  | n + 1, M, Mf, v, pc, ls, st, F, h => zstep_keep hH (fun M' pc' ls' st' F' q => zrunF_keep hH n M' Mf v pc' ls' st' F' q) h
theorem zkeep_all : ∀ (d n m : Nat) (as : List ZV) (M M' : ZM) (v : Option ZV), zrun d n m as M = some (M', v) → zkp M M'
  | 0, _, _, _, _, _, _, h => by cases h
  | d + 1, n, m, as, M, M', v, h => by
    unfold zrun at h
    cases hb : Nat.ble (zloc as).length (znl m) with
    | false => rw [hb] at h; cases h
    | true =>
      rw [hb] at h
      exact zrunF_keep (fun m as M M1 v1 q => zkeep_all d n m as M M1 v1 q) n M M' v _ _ _ _ h
