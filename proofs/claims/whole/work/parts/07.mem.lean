/-! fields, rows, new cells -/
theorem zx_cls : ∀ c, c < 10 → ∀ k, k < zN c → parseFieldDescriptor (zT c k).2.2.1 = some (match c with | 0 => tyX0 k | 1 => tyX1 k | 2 => tyX2 k | 3 => tyX3 k | 4 => tyX4 k | 5 => tyX5 k | 6 => tyX6 k | 7 => tyX7 k | 8 => tyX8 k | _ => tyX9 k) := by decide +kernel
def zTy (c k : Nat) : FieldType := match c with
  | 0 => tyX0 k
  | 1 => tyX1 k
  | 2 => tyX2 k
  | 3 => tyX3 k
  | 4 => tyX4 k
  | 5 => tyX5 k
  | 6 => tyX6 k
  | 7 => tyX7 k
  | 8 => tyX8 k
  | _ => tyX9 k
theorem zx_ty : ∀ c, c < 10 → ∀ k, k < zN c → parseFieldDescriptor (zT c k).2.2.1 = some (zTy c k) := by decide +kernel
theorem zx_nm : ∀ c, c < 10 → ∀ a, a < zN c → ∀ b, b < zN c → a ≠ b → (zT c a).2.1 ≠ (zT c b).2.1 := by decide +kernel
theorem zx_decl : ∀ c, c < 10 → ∀ k, k < zN c → (zT c k).1 = zcname c := by decide +kernel
theorem zx_fin : ∀ c, c < 10 → ∀ k, k < zN c → ((zT c k).2.2.2 = true ↔ (zFk c k).1 = 1) := by decide +kernel
theorem zx_kty : ∀ c, c < 10 → ∀ k, k < zN c → ((zFk c k).1 = 0 → zTy c k = .int) ∧ ((zFk c k).1 = 5 → zTy c k = .boolean) := by decide +kernel
def zisref : FieldType → Bool
  | .object _ => true
  | .array _ => true
  | _ => false
theorem zx_rty : ∀ c, c < 10 → ∀ k, k < zN c → ((zFk c k).1 = 1 ∨ (zFk c k).1 = 2 → zisref (zTy c k) = true) := by decide +kernel
/-- of a reference that stays: its target's tag, and that it lies in the object's cluster -/
theorem zx_off : ∀ a, a < zStb.length → zS a < 10 → ∀ k ∈ zFin (zS a), (zFk (zS a) k).1 = 1 ∧ zS (a + (zFk (zS a) k).2.2) = (zFk (zS a) k).2.1 ∧ (zFk (zS a) k).2.2 < zSize (zS a) ∧ ((zFk (zS a) k).2.1 < 10 → (zFk (zS a) k).2.2 + zSize (zFk (zS a) k).2.1 ≤ zSize (zS a)) ∧ ((zFk (zS a) k).2.1 < 10 ∨ 100 ≤ (zFk (zS a) k).2.1) := by decide +kernel
theorem zx_finN : ∀ c, c < 10 → ∀ k ∈ zFin c, k < zN c := by decide +kernel
theorem zx_finK : ∀ c, c < 10 → ∀ k, k < zN c → (zFk c k).1 = 1 → k ∈ zFin c := by decide +kernel
