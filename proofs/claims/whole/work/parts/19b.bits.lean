/-! printed by wip/gen/p18e.py: bitCount -/
def A_J6_bitCount_0f7a4_10 (d : Nat)  (M : ZM) (i0 : Int32) (R : ZM → Option ZV → Prop) : Prop := Ror d zc_J6_bitCount_0f7a4 0 M 10 [zI i0] [] R
def A_J6_bitCount_0f7a4_24 (d : Nat)  (M : ZM) (i0 : Int32) (R : ZM → Option ZV → Prop) : Prop := Ror d zc_J6_bitCount_0f7a4 0 M 24 [zI i0] [] R
def A_J6_bitCount_0f7a4_34 (d : Nat)  (M : ZM) (i0 : Int32) (R : ZM → Option ZV → Prop) : Prop := Ror d zc_J6_bitCount_0f7a4 0 M 34 [zI i0] [] R
def A_J6_bitCount_0f7a4_41 (d : Nat)  (M : ZM) (i0 : Int32) (R : ZM → Option ZV → Prop) : Prop := Ror d zc_J6_bitCount_0f7a4 0 M 41 [zI i0] [] R
def A_J6_bitCount_0f7a4_48 (d : Nat)  (M : ZM) (i0 : Int32) (R : ZM → Option ZV → Prop) : Prop := Ror d zc_J6_bitCount_0f7a4 0 M 48 [zI i0] [] R
set_option maxRecDepth 100000 in
theorem a_J6_bitCount_0f7a4_10 {d : Nat}  {M : ZM} {i0 : Int32} {R : ZM → Option ZV → Prop} (h : A_J6_bitCount_0f7a4_24 d M ((i0 &&& 858993459) + ((zbin 8 i0 2) &&& 858993459)) R) : A_J6_bitCount_0f7a4_10 d M i0 R :=
  (ro_shift 10 (g := fun H n => zrunF H zc_J6_bitCount_0f7a4 0 (n + 0) M 24 [zI ((i0 &&& 858993459) + ((zbin 8 i0 2) &&& 858993459))] [] []) (fun _ _ => rfl) (eo_leaf 0 h))
set_option maxRecDepth 100000 in
theorem a_J6_bitCount_0f7a4_24 {d : Nat}  {M : ZM} {i0 : Int32} {R : ZM → Option ZV → Prop} (h : A_J6_bitCount_0f7a4_34 d M ((i0 + (zbin 8 i0 4)) &&& 252645135) R) : A_J6_bitCount_0f7a4_24 d M i0 R :=
  (ro_shift 8 (g := fun H n => zrunF H zc_J6_bitCount_0f7a4 0 (n + 0) M 34 [zI ((i0 + (zbin 8 i0 4)) &&& 252645135)] [] []) (fun _ _ => rfl) (eo_leaf 0 h))
set_option maxRecDepth 100000 in
theorem a_J6_bitCount_0f7a4_34 {d : Nat}  {M : ZM} {i0 : Int32} {R : ZM → Option ZV → Prop} (h : A_J6_bitCount_0f7a4_41 d M (i0 + (zbin 8 i0 8)) R) : A_J6_bitCount_0f7a4_34 d M i0 R :=
  (ro_shift 6 (g := fun H n => zrunF H zc_J6_bitCount_0f7a4 0 (n + 0) M 41 [zI (i0 + (zbin 8 i0 8))] [] []) (fun _ _ => rfl) (eo_leaf 0 h))
set_option maxRecDepth 100000 in
theorem a_J6_bitCount_0f7a4_41 {d : Nat}  {M : ZM} {i0 : Int32} {R : ZM → Option ZV → Prop} (h : A_J6_bitCount_0f7a4_48 d M (i0 + (zbin 8 i0 16)) R) : A_J6_bitCount_0f7a4_41 d M i0 R :=
  (ro_shift 6 (g := fun H n => zrunF H zc_J6_bitCount_0f7a4 0 (n + 0) M 48 [zI (i0 + (zbin 8 i0 16))] [] []) (fun _ _ => rfl) (eo_leaf 0 h))
set_option maxRecDepth 100000 in
theorem a_J6_bitCount_0f7a4_48 {d : Nat}  {M : ZM} {i0 : Int32} {R : ZM → Option ZV → Prop} (h : R M (some (zI (i0 &&& 63)))) : A_J6_bitCount_0f7a4_48 d M i0 R :=
  (ro_shift 4 (g := fun H n => some (M, some (zI (i0 &&& 63)))) (fun _ _ => rfl) (eo_ret h))
set_option maxRecDepth 100000 in
theorem g_J6_bitCount_0f7a4 {d : Nat} {i0 : Int32} {M : ZM} {R : ZM → Option ZV → Prop} (h : A_J6_bitCount_0f7a4_10 d M (i0 - ((zbin 8 i0 1) &&& 1431655765)) R) : Ro (d + 1) 235 [zI i0] M R :=
  ro_of rfl (ro_shift 8 (g := fun H n => zrunF H zc_J6_bitCount_0f7a4 0 (n + 0) M 10 [zI (i0 - ((zbin 8 i0 1) &&& 1431655765))] [] []) (fun _ _ => rfl) (eo_leaf 0 h))
def j1 (i0 : Int32) : Int32 := i0 - ((zbin 8 i0 1) &&& 1431655765)
def j2 (i0 : Int32) : Int32 := (i0 &&& 858993459) + ((zbin 8 i0 2) &&& 858993459)
def j3 (i0 : Int32) : Int32 := (i0 + (zbin 8 i0 4)) &&& 252645135
def j4 (i0 : Int32) : Int32 := i0 + (zbin 8 i0 8)
def j5 (i0 : Int32) : Int32 := i0 + (zbin 8 i0 16)
def pop (x : Nat) : Nat := x % 2 + x / 2 % 2 + x / 4 % 2 + x / 8 % 2 + x / 16 % 2 + x / 32 % 2 + x / 64 % 2
theorem jbc_all : ∀ x, x < 128 → (j5 (j4 (j3 (j2 (j1 (nI x)))))) &&& 63 = nI (pop x) := by decide +kernel
theorem c6_bits {d x : Nat} {M : ZM} (h : x < 128) : Rt (d + 1) 235 [zI (nI x)] M M (some (zI (nI (pop x)))) := ro_rt (g_J6_bitCount_0f7a4 (a_J6_bitCount_0f7a4_10 (a_J6_bitCount_0f7a4_24 (a_J6_bitCount_0f7a4_34 (a_J6_bitCount_0f7a4_41 (a_J6_bitCount_0f7a4_48 ⟨rfl, congrArg (fun y => some (zI y)) (jbc_all x h)⟩))))))
