/-! the start -/
def pv_i0 (k : Nat) : Int32 := match k with
  | 4 => -1
  | 5 => -1
  | _ => 0
def pv_c0 : Nat → Int32 := va_cpy pv_ft (fun _ => 0) 0 1 5
def pv_w0 : Nat → Int32 := upd (upd (upd (upd (upd (fun _ => 0) 1 1) 2 1) 3 10) 4 20) 5 16
def pv_a0 (k : Nat) : Nat → Int32 := match k with
  | 0 => pv_c0
  | 13 => pv_w0
  | _ => fun _ => 0
def pv_s0 : pv_S := (pv_i0, pv_a0)
theorem law_true (xs : Nat → Int32) (L : Nat) (hL : L ≤ 2560) : ∃ R0 : Int32 × pv_S, R0.1 = 1 ∧ f_L_law xs L pv_FU 0 pv_s0 = some R0 := sorry
