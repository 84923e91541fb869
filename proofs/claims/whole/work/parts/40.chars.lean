/-! printed by wip/gen/p40.py: the words' letters -/
theorem rt_n {d m : Nat} {as : List ZV} {M M' : ZM} {v : Option ZV} (N : Nat) (h : ∀ j, zrun d (j + N) m as M = some (M', v)) : Rt d m as M M' v := ⟨N, fun n hn => by
  have := h (n - N)
  rw [Nat.sub_add_cancel hn] at this
  exact this⟩
set_option maxRecDepth 100000 in
theorem sl_1 {d : Nat} {M : ZM} : Rt (d + 6) 236 [zR 10 1] M M (some (zI 3)) := rt_n 60 (fun _ => rfl)
set_option maxRecDepth 100000 in
theorem sc_1_0 {d : Nat} {M : ZM} : Rt (d + 6) 237 [zR 10 1, zI 0] M M (some (zI 105)) := rt_n 60 (fun _ => rfl)
set_option maxRecDepth 100000 in
theorem sc_1_1 {d : Nat} {M : ZM} : Rt (d + 6) 237 [zR 10 1, zI 1] M M (some (zI 101)) := rt_n 60 (fun _ => rfl)
set_option maxRecDepth 100000 in
theorem sc_1_2 {d : Nat} {M : ZM} : Rt (d + 6) 237 [zR 10 1, zI 2] M M (some (zI 32)) := rt_n 60 (fun _ => rfl)
set_option maxRecDepth 100000 in
theorem sl_2 {d : Nat} {M : ZM} : Rt (d + 6) 236 [zR 10 2] M M (some (zI 3)) := rt_n 60 (fun _ => rfl)
set_option maxRecDepth 100000 in
theorem sc_2_0 {d : Nat} {M : ZM} : Rt (d + 6) 237 [zR 10 2, zI 0] M M (some (zI 107)) := rt_n 60 (fun _ => rfl)
set_option maxRecDepth 100000 in
theorem sc_2_1 {d : Nat} {M : ZM} : Rt (d + 6) 237 [zR 10 2, zI 1] M M (some (zI 101)) := rt_n 60 (fun _ => rfl)
set_option maxRecDepth 100000 in
theorem sc_2_2 {d : Nat} {M : ZM} : Rt (d + 6) 237 [zR 10 2, zI 2] M M (some (zI 32)) := rt_n 60 (fun _ => rfl)
set_option maxRecDepth 100000 in
theorem sl_3 {d : Nat} {M : ZM} : Rt (d + 6) 236 [zR 10 3] M M (some (zI 5)) := rt_n 60 (fun _ => rfl)
set_option maxRecDepth 100000 in
theorem sc_3_0 {d : Nat} {M : ZM} : Rt (d + 6) 237 [zR 10 3, zI 0] M M (some (zI 111)) := rt_n 60 (fun _ => rfl)
set_option maxRecDepth 100000 in
theorem sc_3_1 {d : Nat} {M : ZM} : Rt (d + 6) 237 [zR 10 3, zI 1] M M (some (zI 97)) := rt_n 60 (fun _ => rfl)
set_option maxRecDepth 100000 in
theorem sc_3_2 {d : Nat} {M : ZM} : Rt (d + 6) 237 [zR 10 3, zI 2] M M (some (zI 116)) := rt_n 60 (fun _ => rfl)
set_option maxRecDepth 100000 in
theorem sc_3_3 {d : Nat} {M : ZM} : Rt (d + 6) 237 [zR 10 3, zI 3] M M (some (zI 104)) := rt_n 60 (fun _ => rfl)
set_option maxRecDepth 100000 in
theorem sc_3_4 {d : Nat} {M : ZM} : Rt (d + 6) 237 [zR 10 3, zI 4] M M (some (zI 32)) := rt_n 60 (fun _ => rfl)
set_option maxRecDepth 100000 in
theorem sl_4 {d : Nat} {M : ZM} : Rt (d + 6) 236 [zR 10 4] M M (some (zI 6)) := rt_n 60 (fun _ => rfl)
set_option maxRecDepth 100000 in
theorem sc_4_0 {d : Nat} {M : ZM} : Rt (d + 6) 237 [zR 10 4, zI 0] M M (some (zI 112)) := rt_n 60 (fun _ => rfl)
set_option maxRecDepth 100000 in
theorem sc_4_1 {d : Nat} {M : ZM} : Rt (d + 6) 237 [zR 10 4, zI 1] M M (some (zI 115)) := rt_n 60 (fun _ => rfl)
set_option maxRecDepth 100000 in
theorem sc_4_2 {d : Nat} {M : ZM} : Rt (d + 6) 237 [zR 10 4, zI 2] M M (some (zI 107)) := rt_n 60 (fun _ => rfl)
set_option maxRecDepth 100000 in
theorem sc_4_3 {d : Nat} {M : ZM} : Rt (d + 6) 237 [zR 10 4, zI 3] M M (some (zI 109)) := rt_n 60 (fun _ => rfl)
set_option maxRecDepth 100000 in
theorem sc_4_4 {d : Nat} {M : ZM} : Rt (d + 6) 237 [zR 10 4, zI 4] M M (some (zI 116)) := rt_n 60 (fun _ => rfl)
set_option maxRecDepth 100000 in
theorem sc_4_5 {d : Nat} {M : ZM} : Rt (d + 6) 237 [zR 10 4, zI 5] M M (some (zI 119)) := rt_n 60 (fun _ => rfl)
set_option maxRecDepth 100000 in
theorem sl_5 {d : Nat} {M : ZM} : Rt (d + 6) 236 [zR 10 5] M M (some (zI 3)) := rt_n 60 (fun _ => rfl)
set_option maxRecDepth 100000 in
theorem sc_5_0 {d : Nat} {M : ZM} : Rt (d + 6) 237 [zR 10 5, zI 0] M M (some (zI 60)) := rt_n 60 (fun _ => rfl)
set_option maxRecDepth 100000 in
theorem sc_5_1 {d : Nat} {M : ZM} : Rt (d + 6) 237 [zR 10 5, zI 1] M M (some (zI 61)) := rt_n 60 (fun _ => rfl)
set_option maxRecDepth 100000 in
theorem sc_5_2 {d : Nat} {M : ZM} : Rt (d + 6) 237 [zR 10 5, zI 2] M M (some (zI 62)) := rt_n 60 (fun _ => rfl)
