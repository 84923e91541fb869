/-! the memory only grows -/
def zle (M M' : ZM) : Prop := ztop M ≤ ztop M' ∧ zsl M ≤ zsl M'
theorem zle.rf {M : ZM} : zle M M := ⟨Nat.le_refl _, Nat.le_refl _⟩
theorem zle.tr {A B C : ZM} (h : zle A B) (k : zle B C) : zle A C := ⟨Nat.le_trans h.1 k.1, Nat.le_trans h.2 k.2⟩
section ZMO
variable {M Mf : ZM} {ls st : List ZV} {F : List Nat} {k : ZK} {r : ZM × Option ZV} {P : Prop} {n a b c t : Nat} {v : ZV}
theorem mo_load (hk : ∀ M' pc' ls' st' F', zle M M' → k M' pc' ls' st' F' = some r → P) (h : zsLoad a b n M ls st F k = some r) : P := by
  unfold zsLoad at h
  try simp only [Bool.cond_eq_ite] at h
  repeat' split at h
  all_goals first
    | (cases h; done)
    | exact hk _ _ _ _ _ zle.rf h
    | (refine hk _ _ _ _ _ ?_ h; exact ⟨Nat.le_refl _, Nat.le_refl _⟩)
    | (refine hk _ _ _ _ _ ?_ h; exact ⟨Nat.le_succ _, Nat.le_add_right _ _⟩)
theorem mo_store (hk : ∀ M' pc' ls' st' F', zle M M' → k M' pc' ls' st' F' = some r → P) (h : zsStore a b n M ls st F k = some r) : P := by
  unfold zsStore at h
  try simp only [Bool.cond_eq_ite] at h
  repeat' split at h
  all_goals first
    | (cases h; done)
    | exact hk _ _ _ _ _ zle.rf h
    | (refine hk _ _ _ _ _ ?_ h; exact ⟨Nat.le_refl _, Nat.le_refl _⟩)
    | (refine hk _ _ _ _ _ ?_ h; exact ⟨Nat.le_succ _, Nat.le_add_right _ _⟩)
theorem mo_inc (hk : ∀ M' pc' ls' st' F', zle M M' → k M' pc' ls' st' F' = some r → P) (h : zsInc a n v M ls st F k = some r) : P := by
  unfold zsInc at h
  try simp only [Bool.cond_eq_ite] at h
  repeat' split at h
  all_goals first
    | (cases h; done)
    | exact hk _ _ _ _ _ zle.rf h
    | (refine hk _ _ _ _ _ ?_ h; exact ⟨Nat.le_refl _, Nat.le_refl _⟩)
    | (refine hk _ _ _ _ _ ?_ h; exact ⟨Nat.le_succ _, Nat.le_add_right _ _⟩)
theorem mo_bin (hk : ∀ M' pc' ls' st' F', zle M M' → k M' pc' ls' st' F' = some r → P) (h : zsBin a n M ls st F k = some r) : P := by
  unfold zsBin at h
  try simp only [Bool.cond_eq_ite] at h
  repeat' split at h
  all_goals first
    | (cases h; done)
    | exact hk _ _ _ _ _ zle.rf h
    | (refine hk _ _ _ _ _ ?_ h; exact ⟨Nat.le_refl _, Nat.le_refl _⟩)
    | (refine hk _ _ _ _ _ ?_ h; exact ⟨Nat.le_succ _, Nat.le_add_right _ _⟩)
theorem mo_div (hk : ∀ M' pc' ls' st' F', zle M M' → k M' pc' ls' st' F' = some r → P) (h : zsDiv a n M ls st F k = some r) : P := by
  unfold zsDiv at h
  try simp only [Bool.cond_eq_ite] at h
  repeat' split at h
  all_goals first
    | (cases h; done)
    | exact hk _ _ _ _ _ zle.rf h
    | (refine hk _ _ _ _ _ ?_ h; exact ⟨Nat.le_refl _, Nat.le_refl _⟩)
    | (refine hk _ _ _ _ _ ?_ h; exact ⟨Nat.le_succ _, Nat.le_add_right _ _⟩)
theorem mo_un (hk : ∀ M' pc' ls' st' F', zle M M' → k M' pc' ls' st' F' = some r → P) (h : zsUn a n M ls st F k = some r) : P := by
  unfold zsUn at h
  try simp only [Bool.cond_eq_ite] at h
  repeat' split at h
  all_goals first
    | (cases h; done)
    | exact hk _ _ _ _ _ zle.rf h
    | (refine hk _ _ _ _ _ ?_ h; exact ⟨Nat.le_refl _, Nat.le_refl _⟩)
    | (refine hk _ _ _ _ _ ?_ h; exact ⟨Nat.le_succ _, Nat.le_add_right _ _⟩)
theorem mo_lbin (hk : ∀ M' pc' ls' st' F', zle M M' → k M' pc' ls' st' F' = some r → P) (h : zsLBin a n M ls st F k = some r) : P := by
  unfold zsLBin at h
  try simp only [Bool.cond_eq_ite] at h
  repeat' split at h
  all_goals first
    | (cases h; done)
    | exact hk _ _ _ _ _ zle.rf h
    | (refine hk _ _ _ _ _ ?_ h; exact ⟨Nat.le_refl _, Nat.le_refl _⟩)
    | (refine hk _ _ _ _ _ ?_ h; exact ⟨Nat.le_succ _, Nat.le_add_right _ _⟩)
theorem mo_stk (hk : ∀ M' pc' ls' st' F', zle M M' → k M' pc' ls' st' F' = some r → P) (h : zsStk a n M ls st F k = some r) : P := by
  unfold zsStk at h
  try simp only [Bool.cond_eq_ite] at h
  repeat' split at h
  all_goals first
    | (cases h; done)
    | exact hk _ _ _ _ _ zle.rf h
    | (refine hk _ _ _ _ _ ?_ h; exact ⟨Nat.le_refl _, Nat.le_refl _⟩)
    | (refine hk _ _ _ _ _ ?_ h; exact ⟨Nat.le_succ _, Nat.le_add_right _ _⟩)
theorem mo_cmp (hk : ∀ M' pc' ls' st' F', zle M M' → k M' pc' ls' st' F' = some r → P) (h : zsCmp a n b M ls st F k = some r) : P := by
  unfold zsCmp at h
  try simp only [Bool.cond_eq_ite] at h
  repeat' split at h
  all_goals first
    | (cases h; done)
    | exact hk _ _ _ _ _ zle.rf h
    | (refine hk _ _ _ _ _ ?_ h; exact ⟨Nat.le_refl _, Nat.le_refl _⟩)
    | (refine hk _ _ _ _ _ ?_ h; exact ⟨Nat.le_succ _, Nat.le_add_right _ _⟩)
theorem mo_ifn (hk : ∀ M' pc' ls' st' F', zle M M' → k M' pc' ls' st' F' = some r → P) (h : zsIfN n b M ls st F k = some r) : P := by
  unfold zsIfN at h
  try simp only [Bool.cond_eq_ite] at h
  repeat' split at h
  all_goals first
    | (cases h; done)
    | exact hk _ _ _ _ _ zle.rf h
    | (refine hk _ _ _ _ _ ?_ h; exact ⟨Nat.le_refl _, Nat.le_refl _⟩)
    | (refine hk _ _ _ _ _ ?_ h; exact ⟨Nat.le_succ _, Nat.le_add_right _ _⟩)
theorem mo_get (hk : ∀ M' pc' ls' st' F', zle M M' → k M' pc' ls' st' F' = some r → P) (h : zsGet a b c n v M ls st F k = some r) : P := by
  unfold zsGet at h
  try simp only [Bool.cond_eq_ite] at h
  repeat' split at h
  all_goals first
    | (cases h; done)
    | exact hk _ _ _ _ _ zle.rf h
    | (refine hk _ _ _ _ _ ?_ h; exact ⟨Nat.le_refl _, Nat.le_refl _⟩)
    | (refine hk _ _ _ _ _ ?_ h; exact ⟨Nat.le_succ _, Nat.le_add_right _ _⟩)
theorem mo_put (hk : ∀ M' pc' ls' st' F', zle M M' → k M' pc' ls' st' F' = some r → P) (h : zsPut a b c n v t M ls st F k = some r) : P := by
  unfold zsPut at h
  try simp only [Bool.cond_eq_ite] at h
  repeat' split at h
  all_goals first
    | (cases h; done)
    | exact hk _ _ _ _ _ zle.rf h
    | (refine hk _ _ _ _ _ ?_ h; exact ⟨Nat.le_refl _, Nat.le_refl _⟩)
    | (refine hk _ _ _ _ _ ?_ h; exact ⟨Nat.le_succ _, Nat.le_add_right _ _⟩)
theorem mo_len (hk : ∀ M' pc' ls' st' F', zle M M' → k M' pc' ls' st' F' = some r → P) (h : zsLen n M ls st F k = some r) : P := by
  unfold zsLen at h
  try simp only [Bool.cond_eq_ite] at h
  repeat' split at h
  all_goals first
    | (cases h; done)
    | exact hk _ _ _ _ _ zle.rf h
    | (refine hk _ _ _ _ _ ?_ h; exact ⟨Nat.le_refl _, Nat.le_refl _⟩)
    | (refine hk _ _ _ _ _ ?_ h; exact ⟨Nat.le_succ _, Nat.le_add_right _ _⟩)
theorem mo_ald (hk : ∀ M' pc' ls' st' F', zle M M' → k M' pc' ls' st' F' = some r → P) (h : zsALd a n M ls st F k = some r) : P := by
  unfold zsALd at h
  try simp only [Bool.cond_eq_ite] at h
  repeat' split at h
  all_goals first
    | (cases h; done)
    | exact hk _ _ _ _ _ zle.rf h
    | (refine hk _ _ _ _ _ ?_ h; exact ⟨Nat.le_refl _, Nat.le_refl _⟩)
    | (refine hk _ _ _ _ _ ?_ h; exact ⟨Nat.le_succ _, Nat.le_add_right _ _⟩)
theorem mo_ast (hk : ∀ M' pc' ls' st' F', zle M M' → k M' pc' ls' st' F' = some r → P) (h : zsASt a n M ls st F k = some r) : P := by
  unfold zsASt at h
  try simp only [Bool.cond_eq_ite] at h
  repeat' split at h
  all_goals first
    | (cases h; done)
    | exact hk _ _ _ _ _ zle.rf h
    | (refine hk _ _ _ _ _ ?_ h; exact ⟨Nat.le_refl _, Nat.le_refl _⟩)
    | (refine hk _ _ _ _ _ ?_ h; exact ⟨Nat.le_succ _, Nat.le_add_right _ _⟩)
theorem mo_newa {S : Nat → Nat}  (hk : ∀ M' pc' ls' st' F', zle M M' → k M' pc' ls' st' F' = some r → P) (h : zsNewA S a n M ls st F k = some r) : P := by
  unfold zsNewA at h
  try simp only [Bool.cond_eq_ite] at h
  repeat' split at h
  all_goals first
    | (cases h; done)
    | exact hk _ _ _ _ _ zle.rf h
    | (refine hk _ _ _ _ _ ?_ h; exact ⟨Nat.le_refl _, Nat.le_refl _⟩)
    | (refine hk _ _ _ _ _ ?_ h; exact ⟨Nat.le_succ _, Nat.le_add_right _ _⟩)
theorem mo_new {S N : Nat → Nat}  (hk : ∀ M' pc' ls' st' F', zle M M' → k M' pc' ls' st' F' = some r → P) (h : zsNew S N a n M ls st F k = some r) : P := by
  unfold zsNew at h
  try simp only [Bool.cond_eq_ite] at h
  repeat' split at h
  all_goals first
    | (cases h; done)
    | exact hk _ _ _ _ _ zle.rf h
    | (refine hk _ _ _ _ _ ?_ h; exact ⟨Nat.le_refl _, Nat.le_refl _⟩)
    | (refine hk _ _ _ _ _ ?_ h; exact ⟨Nat.le_succ _, Nat.le_add_right _ _⟩)
theorem mo_copy (hk : ∀ M' pc' ls' st' F', zle M M' → k M' pc' ls' st' F' = some r → P) (h : zsCopy n M ls st F k = some r) : P := by
  unfold zsCopy at h
  try simp only [Bool.cond_eq_ite] at h
  repeat' split at h
  all_goals first
    | (cases h; done)
    | exact hk _ _ _ _ _ zle.rf h
    | (refine hk _ _ _ _ _ ?_ h; exact ⟨Nat.le_refl _, Nat.le_refl _⟩)
    | (refine hk _ _ _ _ _ ?_ h; exact ⟨Nat.le_succ _, Nat.le_add_right _ _⟩)
theorem mo_obj (hk : ∀ M' pc' ls' st' F', zle M M' → k M' pc' ls' st' F' = some r → P) (h : zsObj n M ls st F k = some r) : P := by
  unfold zsObj at h
  try simp only [Bool.cond_eq_ite] at h
  repeat' split at h
  all_goals first
    | (cases h; done)
    | exact hk _ _ _ _ _ zle.rf h
    | (refine hk _ _ _ _ _ ?_ h; exact ⟨Nat.le_refl _, Nat.le_refl _⟩)
    | (refine hk _ _ _ _ _ ?_ h; exact ⟨Nat.le_succ _, Nat.le_add_right _ _⟩)
theorem mo_max (hk : ∀ M' pc' ls' st' F', zle M M' → k M' pc' ls' st' F' = some r → P) (h : zsMax n M ls st F k = some r) : P := by
  unfold zsMax at h
  try simp only [Bool.cond_eq_ite] at h
  repeat' split at h
  all_goals first
    | (cases h; done)
    | exact hk _ _ _ _ _ zle.rf h
    | (refine hk _ _ _ _ _ ?_ h; exact ⟨Nat.le_refl _, Nat.le_refl _⟩)
    | (refine hk _ _ _ _ _ ?_ h; exact ⟨Nat.le_succ _, Nat.le_add_right _ _⟩)
theorem mo_pick {x : Int32} {d : Nat} {g : Nat → ZRes} : ∀ {cs : List (Int32 × Nat)}, (∀ t, g t = some r → P) → zpick x d cs g = some r → P
  | [], hg, h => hg _ h
  | (v, t) :: cs, hg, h => by
    unfold zpick at h
    split at h
    · exact hg _ h
    · exact mo_pick hg h
theorem mo_call {H : ZH} {m ar kd c n : Nat} (hH : ∀ as M1 v1, H m as M = some (M1, v1) → zle M M1) (hk : ∀ M' pc' ls' st' F', zle M M' → k M' pc' ls' st' F' = some r → P) (h : zsCall H m ar kd c n M ls st F k = some r) : P := by
  unfold zsCall at h
  try simp only [Bool.cond_eq_ite] at h
  repeat' split at h
  all_goals first
    | (cases h; done)
    | (rename_i hr; exact hk _ _ _ _ _ (hH _ _ _ hr) h)
theorem mo_ret {fin : Nat → List Nat} {kd c : Nat} {w : Option ZV} (h : zsRet fin kd c M st F = some (Mf, w)) : zle M Mf := by
  unfold zsRet at h
  try simp only [Bool.cond_eq_ite] at h
  repeat' split at h
  all_goals first
    | (cases h; done)
    | (cases h; exact zle.rf)
end ZMO
theorem zstep_mono {H : ZH} {th : Nat} {op : ZOp} {M Mf : ZM} {v : Option ZV} {ls st : List ZV} {F : List Nat} {k : ZK} (hH : ∀ m as M M1 v1, H m as M = some (M1, v1) → zle M M1) (hk : ∀ M' pc' ls' st' F', k M' pc' ls' st' F' = some (Mf, v) → zle M' Mf) (h : zstep zS zN zFin H th op M ls st F k = some (Mf, v)) : zle M Mf := by
  obtain ⟨o, a, b, c, n, w, cs⟩ := op
  have hk' : ∀ M' pc' ls' st' F', zle M M' → k M' pc' ls' st' F' = some (Mf, v) → zle M Mf := fun M' pc' ls' st' F' h1 h2 => h1.tr (hk M' pc' ls' st' F' h2)
  unfold zstep at h
  try simp only [Bool.cond_eq_ite] at h
  repeat' split at h
  all_goals first
    | (cases h; done)
    | exact hk' _ _ _ _ _ zle.rf h
    | exact mo_load hk' h
    | exact mo_store hk' h
    | exact mo_inc hk' h
    | exact mo_bin hk' h
    | exact mo_div hk' h
    | exact mo_un hk' h
    | exact mo_lbin hk' h
    | exact mo_stk hk' h
    | exact mo_cmp hk' h
    | exact mo_ifn hk' h
    | exact mo_get hk' h
    | exact mo_put hk' h
    | exact mo_len hk' h
    | exact mo_ald hk' h
    | exact mo_ast hk' h
    | exact mo_newa hk' h
    | exact mo_new hk' h
    | exact mo_copy hk' h
    | exact mo_obj hk' h
    | exact mo_max hk' h
    | exact mo_call (fun as M1 v1 q => hH _ as _ M1 v1 q) hk' h
    | exact mo_ret h
    | (unfold zsSw at h; split at h; exact mo_pick (fun t q => hk' _ _ _ _ _ zle.rf q) h; cases h)
theorem zrunF_mono {H : ZH} {code : Nat → ZOp} {th : Nat} (hH : ∀ m as M M1 v1, H m as M = some (M1, v1) → zle M M1) : ∀ (n : Nat) (M Mf : ZM) (v : Option ZV) (pc : Nat) (ls st : List ZV) (F : List Nat), zrunF H code th n M pc ls st F = some (Mf, v) → zle M Mf
  | 0, _, _, _, _, _, _, _, h => by cases h
  | n + 1, M, Mf, v, pc, ls, st, F, h => zstep_mono hH (fun M' pc' ls' st' F' q => zrunF_mono hH n M' Mf v pc' ls' st' F' q) h
theorem zmono_all : ∀ (d n m : Nat) (as : List ZV) (M M' : ZM) (v : Option ZV), zrun d n m as M = some (M', v) → zle M M'
  | 0, _, _, _, _, _, _, h => by cases h
  | d + 1, n, m, as, M, M', v, h => by
    unfold zrun at h
    cases hb : Nat.ble (zloc as).length (znl m) with
    | false => rw [hb] at h; cases h
    | true =>
      rw [hb] at h
      exact zrunF_mono (fun m as M M1 v1 q => zmono_all d n m as M M1 v1 q) n M M' v _ _ _ _ h
