/-! the start -/
def pv_i0 (k : Nat) : Int32 := match k with
  | 4 => -1
  | 5 => -1
  | _ => 0
def pv_c0 : Nat → Int32 := va_cpy pv_ft (fun _ => 0) 0 1 5
def pv_w0 : Nat → Int32 := upd (upd (upd (upd (upd (fun _ => 0) 1 1) 2 1) 3 10) 4 20) 5 16
def pv_a0 (k : Nat) : Nat → Int32 := match k with
  | 0 => pv_c0
  | 13 => pv_w0
  | _ => fun _ => 0
def pv_s0 : pv_S := (pv_i0, pv_a0)
def qt0 (j : Nat) : Nat := match j with
  | 0 => 1
  | 1 => 1
  | 2 => 10
  | 3 => 20
  | _ => 16
def q0 : Sc := (0, qt0, (fun _ => 0), (fun _ => 0), (fun _ => 0), fun _ => none)
def M0 : Zt := (q0, 0, (fun _ => q0), (fun _ => false), (fun _ => q0), (fun _ => 0), 0, (fun _ => 0), (fun _ => 0), 0)
theorem WF_q0 : WF q0 := ⟨⟨by decide, by decide, by decide, by decide, by decide⟩, ⟨Nat.zero_le _, fun i hi => absurd hi (Nat.not_lt_zero i)⟩, fun i j _ hj => absurd hj (Nat.not_lt_zero j), fun i j hi => absurd hi (Nat.not_lt_zero i), fun i k j hi => absurd hi (Nat.not_lt_zero i)⟩
theorem WM_0 : WM M0 := ⟨WF_q0, ⟨Nat.zero_le _, fun k hk => absurd hk (Nat.not_lt_zero k)⟩, fun i hi hz => (by cases hz), ⟨Nat.zero_le _, fun j hj => absurd hj (Nat.not_lt_zero j)⟩, by decide⟩
theorem CL_0 : CLb pv_s0 M0 := by
  have t : ∀ j, j < 5 → pv_c0 (0 + 1 + j) = nI (qt0 j) := by decide
  exact ⟨⟨by decide, t, fun i hi => absurd hi (Nat.not_lt_zero i)⟩, ⟨0, by decide, rfl, rfl, fun k hk => absurd hk (Nat.not_lt_zero k)⟩, fun i hi => ⟨rfl, fun hz => by cases hz⟩, ⟨rfl, fun j hj => absurd hj (Nat.not_lt_zero j)⟩, rfl⟩
theorem MO_0 : MO pv_s0 M0 := by
  have t : ∀ j, j < 5 → pv_w0 (0 + 1 + j) = nI (qt0 j) := by decide
  exact ⟨⟨by decide, t, fun i hi => absurd hi (Nat.not_lt_zero i)⟩, ⟨rfl, fun k hk => absurd hk (Nat.not_lt_zero k)⟩, ⟨0, by decide, rfl, fun i hi => ⟨Nat.zero_testBit i, fun hz => by cases hz⟩⟩, ⟨rfl, fun j hj => absurd hj (Nat.not_lt_zero j)⟩, rfl⟩
theorem CAC_0 : CAC pv_s0 (zq M0) 0 := ⟨0, Nat.le_refl _, rfl, Or.inl rfl, fun z => absurd z (by decide)⟩
theorem law_loop (xs : Nat → Int32) (L : Nat) (hL : L ≤ 2560) : ∀ (fuel i : Nat) (σ : pv_S) (M : Zt), i ≤ 2565 → 2565 < i + 5 * fuel → WM M → CLb σ M → CAC σ (zq M) (4 * i) → MO σ M → ∃ R0 : Int32 × pv_S, R0.1 = 1 ∧ f_L_law xs L fuel (nI i) σ = some R0 := by
  intro fuel
  induction fuel with
  | zero => intro i σ M h1 h2; omega
  | succ n ih =>
    intro i σ M h1 h2 hw hc hC hM
    have eL : (Int32.ofNat L - 5).toInt = (L : Int) - 5 := pk_sub_toInt (a := L) (b := 5) (by omega) (by decide)
    unfold f_L_law
    by_cases hend : (L : Int) - 5 < (i : Int)
    · rw [if_pos (by rw [Int32.lt_iff_toInt_lt, eL, nI_toInt (by omega)]; exact hend)]
      exact ⟨(1, σ), rfl, rfl⟩
    · rw [if_neg (by rw [Int32.lt_iff_toInt_lt, eL, nI_toInt (by omega)]; exact hend)]
      have hiL : i + 5 ≤ L := by omega
      have go : ∀ c m : pv_S → Option (Int32 × pv_S), OK c m → ∃ R0 : Int32 × pv_S, R0.1 = 1 ∧ (Option.bind (c σ) (fun q => (Option.bind (m q.2) (fun q' => (if q.1 = q'.1 then (f_L_law xs L n (nI (i + 5)) q'.2) else (some (0, q'.2))))))) = some R0 := fun c m hOK => by
        obtain ⟨r, τ, τ', M', o1, o2, o3, o4, o5, o6⟩ := hOK σ (4 * i) M (by omega) hw hc hC hM
        obtain ⟨R0, r1, r2⟩ := ih (i + 5) τ' M' (by omega) (by omega) o3 o4 (CAC_mono (by omega) o5) o6
        refine ⟨R0, r1, ?_⟩
        rw [o1, Option.bind_some]
        dsimp only
        rw [o2, Option.bind_some]
        dsimp only
        rw [if_pos rfl, r2]
      have a1 : nI i + 1 = nI (i + 1) := p1 i
      have a2 : nI i + 2 = nI (i + 2) := nI_add i 2
      have a3 : nI i + 3 = nI (i + 3) := nI_add i 3
      have a4 : nI i + 4 = nI (i + 4) := nI_add i 4
      have a5 : nI i + 5 = nI (i + 5) := nI_add i 5
      have hL31 : L < 2 ^ 31 := by omega
      have b0 : i < L := by omega
      have b1 : i + 1 < L := by omega
      have b2 : i + 2 < L := by omega
      have b3 : i + 3 < L := by omega
      have b4 : i + 4 < L := by omega
      rw [a1, a2, a3, a4, a5]
      simp only [gd_nI _ b0 hL31, gd_nI _ b1 hL31, gd_nI _ b2 hL31, gd_nI _ b3 hL31, gd_nI _ b4 hL31, nI_clamp (show i < 2 ^ 31 by omega), nI_clamp (show i + 1 < 2 ^ 31 by omega), nI_clamp (show i + 2 < 2 ^ 31 by omega), nI_clamp (show i + 3 < 2 ^ 31 by omega), nI_clamp (show i + 4 < 2 ^ 31 by omega)]
      by_cases k0 : (xs i &&& 31) = 0
      · rw [if_pos k0]; exact go (f_X7_told (xs (i + 1))) (f_X8_told (xs (i + 1))) (ok_told (xs (i + 1)))
      rw [if_neg k0]
      by_cases k1 : (xs i &&& 31) = 1
      · rw [if_pos k1]; exact go (f_X7_at (xs (i + 1)) (xs (i + 2))) (f_X8_at (xs (i + 1)) (xs (i + 2))) (ok_at (xs (i + 1)) (xs (i + 2)))
      rw [if_neg k1]
      by_cases k2 : (xs i &&& 31) = 2
      · rw [if_pos k2]; exact go (f_X7_cost (xs (i + 1)) (xs (i + 2))) (f_X8_cost (xs (i + 1)) (xs (i + 2))) (ok_cost (xs (i + 1)) (xs (i + 2)))
      rw [if_neg k2]
      by_cases k3 : (xs i &&& 31) = 3
      · rw [if_pos k3]; exact go (f_X7_least (xs (i + 1))) (f_X8_least (xs (i + 1))) (ok_least (xs (i + 1)))
      rw [if_neg k3]
      by_cases k4 : (xs i &&& 31) = 4
      · rw [if_pos k4]; exact go (f_X7_first (xs (i + 1)) (xs (i + 2))) (f_X8_first (xs (i + 1)) (xs (i + 2))) (ok_first (xs (i + 1)) (xs (i + 2)))
      rw [if_neg k4]
      by_cases k5 : (xs i &&& 31) = 5
      · rw [if_pos k5]; exact go (f_X7_voice (xs (i + 1)) (xs (i + 2))) (f_X8_voice (xs (i + 1)) (xs (i + 2))) (ok_voice (xs (i + 1)) (xs (i + 2)))
      rw [if_neg k5]
      by_cases k6 : (xs i &&& 31) = 6
      · rw [if_pos k6]; exact go (f_X7_member (xs (i + 1)) (xs (i + 2))) (f_X8_member (xs (i + 1)) (xs (i + 2))) (ok_member (xs (i + 1)) (xs (i + 2)))
      rw [if_neg k6]
      by_cases k7 : (xs i &&& 31) = 7
      · rw [if_pos k7]; exact go (f_X7_note (xs (i + 1)) (xs (i + 2)) (xs (i + 3))) (f_X8_note (xs (i + 1)) (xs (i + 2)) (xs (i + 3))) (ok_note (xs (i + 1)) (xs (i + 2)) (xs (i + 3)))
      rw [if_neg k7]
      by_cases k8 : (xs i &&& 31) = 8
      · rw [if_pos k8]; exact go (f_X7_take (xs (i + 1))) (f_X8_take (xs (i + 1))) (ok_take (xs (i + 1)))
      rw [if_neg k8]
      by_cases k9 : (xs i &&& 31) = 9
      · rw [if_pos k9]; exact go (f_X7_move (xs (i + 1)) (xs (i + 2)) (xs (i + 3)) (xs (i + 4))) (f_X8_move (xs (i + 1)) (xs (i + 2)) (xs (i + 3)) (xs (i + 4))) (ok_move (xs (i + 1)) (xs (i + 2)) (xs (i + 3)) (xs (i + 4)))
      rw [if_neg k9]
      by_cases k10 : (xs i &&& 31) = 10
      · rw [if_pos k10]; exact go (f_X7_share (xs (i + 1))) (f_X8_share (xs (i + 1))) (ok_share (xs (i + 1)))
      rw [if_neg k10]
      by_cases k11 : (xs i &&& 31) = 11
      · rw [if_pos k11]; exact go (f_X7_term (xs (i + 1)) (xs (i + 2))) (f_X8_term (xs (i + 1)) (xs (i + 2))) (ok_term (xs (i + 1)) (xs (i + 2)))
      rw [if_neg k11]
      by_cases k12 : (xs i &&& 31) = 12
      · rw [if_pos k12]; exact go (f_X7_follow (xs (i + 1)) (xs (i + 2))) (f_X8_follow (xs (i + 1)) (xs (i + 2))) (ok_follow (xs (i + 1)) (xs (i + 2)))
      rw [if_neg k12]
      by_cases k13 : (xs i &&& 31) = 13
      · rw [if_pos k13]; exact go (f_X7_cut (xs (i + 1))) (f_X8_cut (xs (i + 1))) (ok_cut (xs (i + 1)))
      rw [if_neg k13]
      by_cases k14 : (xs i &&& 31) = 14
      · rw [if_pos k14]; exact go (f_X7_part (xs (i + 1))) (f_X8_part (xs (i + 1))) (ok_part (xs (i + 1)))
      rw [if_neg k14]
      by_cases k15 : (xs i &&& 31) = 15
      · rw [if_pos k15]; exact go (f_X7_mend) (f_X8_mend) (ok_mend)
      rw [if_neg k15]
      by_cases k16 : (xs i &&& 31) = 16
      · rw [if_pos k16]; exact go (f_X7_clear) (f_X8_clear) (ok_clear)
      rw [if_neg k16]
      by_cases k17 : (xs i &&& 31) = 17
      · rw [if_pos k17]; exact go (f_X7_drift (xs (i + 1))) (f_X8_drift (xs (i + 1))) (ok_drift (xs (i + 1)))
      rw [if_neg k17]
      by_cases k18 : (xs i &&& 31) = 18
      · rw [if_pos k18]; exact go (f_X7_undo (xs (i + 1))) (f_X8_undo (xs (i + 1))) (ok_undo (xs (i + 1)))
      rw [if_neg k18]
      by_cases k19 : (xs i &&& 31) = 19
      · rw [if_pos k19]; exact go (f_X7_write (xs (i + 1)) (xs (i + 2))) (f_X8_write (xs (i + 1)) (xs (i + 2))) (ok_write (xs (i + 1)) (xs (i + 2)))
      rw [if_neg k19]
      by_cases k20 : (xs i &&& 31) = 20
      · rw [if_pos k20]; exact go (f_X7_tear) (f_X8_tear) (ok_tear)
      rw [if_neg k20]
      by_cases k21 : (xs i &&& 31) = 21
      · rw [if_pos k21]; exact go (f_X7_seed (xs (i + 1))) (f_X8_seed (xs (i + 1))) (ok_seed (xs (i + 1)))
      rw [if_neg k21]
      by_cases k22 : (xs i &&& 31) = 22
      · rw [if_pos k22]; exact go (f_X7_keep (xs (i + 1))) (f_X8_keep (xs (i + 1))) (ok_keep (xs (i + 1)))
      rw [if_neg k22]
      by_cases k23 : (xs i &&& 31) = 23
      · rw [if_pos k23]; exact go (f_X7_goBack (xs (i + 1))) (f_X8_goBack (xs (i + 1))) (ok_goBack (xs (i + 1)))
      rw [if_neg k23]
      exact ih (i + 5) σ M (by omega) (by omega) hw hc (CAC_mono (by omega) hC) hM
theorem law_true (xs : Nat → Int32) (L : Nat) (hL : L ≤ 2560) : ∃ R0 : Int32 × pv_S, R0.1 = 1 ∧ f_L_law xs L pv_FU 0 pv_s0 = some R0 := law_loop xs L hL pv_FU 0 pv_s0 M0 (by omega) (by unfold pv_FU; omega) WM_0 CL_0 CAC_0 MO_0
