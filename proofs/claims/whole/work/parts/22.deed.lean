/-! rows of deeds: closed forms -/
theorem pa_pa (σ : pv_S) (k : Nat) (f g : Nat → Int32) : pv_pa (pv_pa σ k f) k g = pv_pa σ k g := by unfold pv_pa; rw [bx_uu]
theorem pa_pi_pa (σ : pv_S) (k j : Nat) (v : Int32) (f g : Nat → Int32) : pv_pa (pv_pi (pv_pa σ k f) j v) k g = pv_pa (pv_pi σ j v) k g := by unfold pv_pa pv_pi; rw [bx_uu]
theorem pi_pi (σ : pv_S) (k : Nat) (f g : Int32) : pv_pi (pv_pi σ k f) k g = pv_pi σ k g := by unfold pv_pi; rw [bx_uu]
theorem pa_self (σ : pv_S) (k : Nat) : pv_pa σ k (σ.2 k) = σ := by
  unfold pv_pa
  have : va_up σ.2 k (σ.2 k) = σ.2 := by
    funext j; unfold va_up
    by_cases h : j = k
    · rw [if_pos h, h]
    · rw [if_neg h]
  rw [this]
theorem upd_ap (f : Nat → Int32) (k j : Nat) (x : Int32) : upd f k x j = if j = k then x else f j := rfl
theorem cp_nI (σ : pv_S) (k0 k1 : Nat) {a b n : Nat} (ha : a < 2 ^ 31) (hb : b < 2 ^ 31) (hn : n < 2 ^ 31) : pv_cp σ k0 k1 (nI a) (nI b) (nI n) = pv_pa σ k1 (va_cpy (σ.2 k0) (σ.2 k1) a b n) := by
  unfold pv_cp
  rw [nI_clamp ha, nI_clamp hb, nI_clamp hn]
theorem gc_nI {α : Type} {a b n n0 n1 : Nat} (x : Option α) (h0 : a + n ≤ n0) (h1 : b + n ≤ n1) (g0 : n0 < 2 ^ 31) (g1 : n1 < 2 ^ 31) : gc (nI a) (nI b) (nI n) n0 n1 x = x := by
  unfold gc
  rw [nI_clamp (by omega), nI_clamp (by omega), nI_clamp (by omega), if_pos]
  exact ⟨nI_pos (by omega), nI_pos (by omega), nI_pos (by omega), h0, h1⟩
section H0
variable {σ : pv_S} {n : Nat}
theorem h_count (h : σ.2 0 0 = nI n) : f_X6_count σ = some (nI n, σ) := by
  show gd (nI 0) 46 (some (pv_la σ 0 (nI 0), σ)) = _
  rw [gd_nI _ (by decide) (by decide), la_nI _ _ (by decide), h]
theorem h_has (hn : n ≤ 10) (h : σ.2 0 0 = nI n) {i : Nat} (hi : i < n) : f_X6_has (nI i) σ = some (1, σ) := by
  unfold f_X6_has
  rw [if_neg (nI_pos (by omega)), if_neg (show ¬ (10 : Int32) ≤ nI i from nI_ge (b := 10) (show i < 10 by omega) (by decide))]
  show gd (nI 0) 46 (if pv_la σ 0 (nI 0) ≤ nI i then some (0, σ) else some (1, σ)) = _
  rw [gd_nI _ (by decide) (by decide), la_nI _ _ (by decide), h, if_neg (nI_ge hi (by omega))]
theorem h_hasM (σ : pv_S) : f_X6_has (-1) σ = some (0, σ) := by
  unfold f_X6_has
  rw [if_pos (by decide)]
theorem h_link (hn : n ≤ 10) (h : σ.2 0 0 = nI n) {a : Nat} (ha : a < n) (v : Int32) : f_X6_link (nI a) v σ = some (pv_pa σ 0 (upd (σ.2 0) (9 + 4 * a) v)) := by
  unfold f_X6_link
  rw [h_has hn h ha, Option.bind_some, if_neg c10]
  dsimp only
  rw [show (6 + nI a * 4 + 3 : Int32) = nI (6 + 4 * a + 3) from cx6 a 3, gd_nI _ (by omega) (by decide), sa_nI _ _ _ (by omega), show 6 + 4 * a + 3 = 9 + 4 * a by omega]
theorem h_linkM (σ : pv_S) (v : Int32) : f_X6_link (-1) v σ = some σ := by
  unfold f_X6_link
  rw [h_hasM, Option.bind_some, if_pos rfl]
def chg (i : Nat) (c : Nat → Int32) : Nat → Int32 := fun x => if 9 ≤ x ∧ (x - 9) % 4 = 0 ∧ x < 9 + 4 * i then -1 else c x
theorem chg_0 (c : Nat → Int32) : chg 0 c = c := by
  funext x; unfold chg
  rw [if_neg (by omega)]
theorem chg_s (i : Nat) (c : Nat → Int32) : upd (chg i c) (9 + 4 * i) (-1) = chg (i + 1) c := by
  funext x; simp only [upd_ap, chg]
  repeat' split
  all_goals first | rfl | omega
theorem chg_at0 (i : Nat) (c : Nat → Int32) : chg i c 0 = c 0 := by unfold chg; rw [if_neg (by omega)]
theorem h_changed_12 (hn : n ≤ 10) (h : σ.2 0 0 = nI n) : ∀ (d fuel i : Nat), i + d = n → d < fuel → f_X6_changed_12 fuel (nI i) (pv_pa σ 0 (chg i (σ.2 0))) = some (pv_pa σ 0 (chg n (σ.2 0))) := by
  intro d
  induction d with
  | zero =>
    intro fuel i hi hf
    cases fuel with
    | zero => omega
    | succ f =>
      unfold f_X6_changed_12
      rw [h_count (n := n) (by rw [pa_2s, chg_at0]; exact h), Option.bind_some]
      dsimp only
      rw [if_pos (nI_le (by omega) (by omega)), show i = n by omega]
  | succ d ih =>
    intro fuel i hi hf
    cases fuel with
    | zero => omega
    | succ f =>
      unfold f_X6_changed_12
      rw [h_count (n := n) (by rw [pa_2s, chg_at0]; exact h), Option.bind_some]
      dsimp only
      rw [if_neg (nI_ge (by omega) (by omega)), h_link hn (by rw [pa_2s, chg_at0]; exact h) (by omega), Option.bind_some, pa_pa, pa_2s, chg_s, p1]
      exact ih f (i + 1) (by omega) (by omega)
theorem h_changed (hn : n ≤ 10) (h : σ.2 0 0 = nI n) : f_X6_changed σ = some (pv_pa (pv_pi σ 0 (σ.1 0 + 1)) 0 (chg n (σ.2 0))) := by
  unfold f_X6_changed
  have := h_changed_12 (σ := pv_pi σ 0 (σ.1 0 + 1)) hn h n pv_FU 0 (by omega) (by unfold pv_FU; omega)
  rw [pi_2, chg_0, ← pi_2 σ 0 (σ.1 0 + 1), pa_self] at this
  exact this
end H0
/-! history -/
theorem h_fits16 (σ : pv_S) {p : Nat} (hp : p < 16) : f_X6_fitsOn_16 (nI p) σ = some (1, σ) := by
  unfold f_X6_fitsOn_16
  rw [if_neg (nI_pos (by omega)), show (736 / 46 : Int32) = nI 16 by decide, if_neg (nI_ge hp (by decide))]
theorem h_fits17 (σ : pv_S) {p : Nat} (hp : p < 2) : f_X6_fitsOn_17 (nI p) σ = some (1, σ) := by
  unfold f_X6_fitsOn_17
  rw [if_neg (nI_pos (by omega)), show (92 / 46 : Int32) = nI 2 by decide, if_neg (nI_ge hp (by decide))]
theorem mul46 (p : Nat) : nI p * 46 = nI (46 * p) := by
  show nI p * nI 46 = _
  rw [pk_mul, Nat.mul_comm]
theorem h_copyTo16 (σ : pv_S) {p : Nat} (hp : p < 16) : f_X6_copyTo_16 (nI p) σ = some (pv_pa σ 7 (va_cpy (σ.2 0) (σ.2 7) 0 (46 * p) 46)) := by
  unfold f_X6_copyTo_16
  rw [h_fits16 σ hp, Option.bind_some, if_neg c10, mul46]
  show gc (nI 0) (nI (46 * p)) (nI 46) 46 736 (some (pv_cp σ 0 7 (nI 0) (nI (46 * p)) (nI 46))) = _
  rw [gc_nI _ (by omega) (by omega) (by decide) (by decide), cp_nI _ _ _ (by omega) (by omega) (by omega)]
theorem h_copyTo17 (σ : pv_S) {p : Nat} (hp : p < 2) : f_X6_copyTo_17 (nI p) σ = some (pv_pa σ 8 (va_cpy (σ.2 0) (σ.2 8) 0 (46 * p) 46)) := by
  unfold f_X6_copyTo_17
  rw [h_fits17 σ hp, Option.bind_some, if_neg c10, mul46]
  show gc (nI 0) (nI (46 * p)) (nI 46) 46 92 (some (pv_cp σ 0 8 (nI 0) (nI (46 * p)) (nI 46))) = _
  rw [gc_nI _ (by omega) (by omega) (by decide) (by decide), cp_nI _ _ _ (by omega) (by omega) (by omega)]
theorem h_copyFrom16 (σ : pv_S) {p : Nat} (hp : p < 16) : f_X6_copyFrom_16 (nI p) σ = some (pv_pi (pv_pa σ 0 (va_cpy (σ.2 7) (σ.2 0) (46 * p) 0 46)) 0 (σ.1 0 + 1)) := by
  unfold f_X6_copyFrom_16
  rw [h_fits16 σ hp, Option.bind_some, if_neg c10, mul46]
  show gc (nI (46 * p)) (nI 0) (nI 46) 736 46 (some (pv_pi (pv_cp σ 7 0 (nI (46 * p)) (nI 0) (nI 46)) 0 ((pv_cp σ 7 0 (nI (46 * p)) (nI 0) (nI 46)).1 0 + 1))) = _
  rw [gc_nI _ (by omega) (by omega) (by decide) (by decide), cp_nI _ _ _ (by omega) (by omega) (by omega)]
  rfl
theorem h_copyFrom17 (σ : pv_S) {p : Nat} (hp : p < 2) : f_X6_copyFrom_17 (nI p) σ = some (pv_pi (pv_pa σ 0 (va_cpy (σ.2 8) (σ.2 0) (46 * p) 0 46)) 0 (σ.1 0 + 1)) := by
  unfold f_X6_copyFrom_17
  rw [h_fits17 σ hp, Option.bind_some, if_neg c10, mul46]
  show gc (nI (46 * p)) (nI 0) (nI 46) 92 46 (some (pv_pi (pv_cp σ 8 0 (nI (46 * p)) (nI 0) (nI 46)) 0 ((pv_cp σ 8 0 (nI (46 * p)) (nI 0) (nI 46)).1 0 + 1))) = _
  rw [gc_nI _ (by omega) (by omega) (by decide) (by decide), cp_nI _ _ _ (by omega) (by omega) (by omega)]
  rfl
theorem h_record {σ : pv_S} {p h : Nat} (hp : p < 16) (hh : h ≤ 16) (e6 : σ.1 6 = nI p) (e7 : σ.1 7 = nI h) : f_X2_record σ = some (pv_pi (pv_pi (pv_pa σ 7 (va_cpy (σ.2 0) (σ.2 7) 0 (46 * p) 46)) 6 (nI ((p + 1) % 16))) 7 (nI (min (h + 1) 16))) := by
  unfold f_X2_record
  rw [e6, h_copyTo16 σ hp, Option.bind_some]
  simp only [pi_1, pa_1, e6, e7]
  rw [p1, show nI (p + 1) - nI (p + 1) / 16 * 16 = nI ((p + 1) % 16) from pk_rem (d := 16) (by omega) (by decide) (by decide)]
  rw [if_neg (show ¬ (7 = 6) by decide), p1]
  congr 2
  by_cases h16 : 16 < h + 1
  · rw [if_pos (show (16 : Int32) < nI (h + 1) from nI_lt (a := 16) h16 (by omega)), Nat.min_eq_right (by omega)]; rfl
  · rw [if_neg (show ¬ (16 : Int32) < nI (h + 1) from nI_nlt (a := 16) (b := h + 1) (by omega) (by decide)), Nat.min_eq_left (by omega)]
/-! the model's rows -/
theorem h_copyRow_2 {σ : pv_S} {a b : Nat} (w : Nat → Int32) (ha : a + 46 ≤ 874) (hb : b + 46 ≤ 874) (hd : a + 46 ≤ b ∨ b + 46 ≤ a) : ∀ (d fuel i : Nat), i + d = 46 → d < fuel → f_X8_copyRow_2 fuel (nI a) (nI b) (nI i) (pv_pa σ 13 (va_cpy w w a b i)) = some (pv_pa σ 13 (va_cpy w w a b 46)) := by
  intro d
  induction d with
  | zero =>
    intro fuel i hi hf
    cases fuel with
    | zero => omega
    | succ f =>
      unfold f_X8_copyRow_2
      rw [show i = 46 by omega, if_pos (show (46 : Int32) ≤ nI 46 from nI_le (Nat.le_refl 46) (by decide))]
  | succ d ih =>
    intro fuel i hi hf
    cases fuel with
    | zero => omega
    | succ f =>
      unfold f_X8_copyRow_2
      rw [if_neg (show ¬ (46 : Int32) ≤ nI i from nI_ge (b := 46) (by omega) (by decide)), nI_add, nI_add]
      simp (disch := omega) only [gd_nI, la_nI, sa_nI]
      rw [pa_pa, pa_2s, p1]
      have e : upd (va_cpy w w a b i) (b + i) (va_cpy w w a b i (a + i)) = va_cpy w w a b (i + 1) := by
        funext x; simp only [upd_ap, va_cpy]
        by_cases hx : x = b + i
        · subst hx
          rw [if_pos rfl, if_neg (by omega), if_pos (by omega)]
          congr 1; omega
        · rw [if_neg hx]
          by_cases h2 : b ≤ x ∧ x < b + i
          · rw [if_pos h2, if_pos (by omega)]
          · rw [if_neg h2, if_neg (by omega)]
      rw [e]
      exact ih f (i + 1) (by omega) (by omega)
theorem cpy_0 {α : Type} (f g : Nat → α) (a b : Nat) : va_cpy f g a b 0 = g := by
  funext x; unfold va_cpy; rw [if_neg (by omega)]
theorem h_copyRow {σ : pv_S} {a b : Nat} (ha : a + 46 ≤ 874) (hb : b + 46 ≤ 874) (hd : a + 46 ≤ b ∨ b + 46 ≤ a) : f_X8_copyRow (nI a) (nI b) σ = some (pv_pa σ 13 (va_cpy (σ.2 13) (σ.2 13) a b 46)) := by
  have := h_copyRow_2 (σ := σ) (σ.2 13) ha hb hd 46 pv_FU 0 (by omega) (by unfold pv_FU; omega)
  rw [cpy_0, pa_self] at this
  exact this
def shf (k : Nat) (w : Nat → Int32) : Nat → Int32 := fun x => if 46 * (k + 1) ≤ x ∧ x < 782 then w (x - 46) else w x
theorem shf_s (k : Nat) (hk : k + 1 ≤ 16) (w : Nat → Int32) : va_cpy (shf (k + 1) w) (shf (k + 1) w) (46 * k) (46 * (k + 1)) 46 = shf k w := by
  funext x; simp only [va_cpy, shf]
  by_cases h1 : 46 * (k + 1) ≤ x ∧ x < 46 * (k + 1) + 46
  · rw [if_pos h1, if_neg (by omega), if_pos (by omega)]; congr 1; omega
  · rw [if_neg h1]
    by_cases h2 : 46 * (k + 1 + 1) ≤ x ∧ x < 782
    · rw [if_pos h2, if_pos (by omega)]
    · rw [if_neg h2, if_neg (by omega)]
theorem shf_16 (w : Nat → Int32) : shf 16 w = w := by
  funext x; unfold shf; rw [if_neg (by omega)]
theorem h_remember_3 {σ : pv_S} {h : Nat} (w : Nat → Int32) (hh : h ≤ 16) (e : σ.1 10 = nI h) : ∀ (k fuel : Nat), k ≤ 16 → k < fuel → f_X8_remember_3 fuel (nI k) (pv_pa σ 13 (shf k w)) = some (pv_pi (pv_pa σ 13 (shf 0 w)) 10 (nI (min (h + 1) 16))) := by
  intro k
  induction k with
  | zero =>
    intro fuel hk hf
    cases fuel with
    | zero => omega
    | succ f =>
      unfold f_X8_remember_3
      rw [if_pos (show nI 0 ≤ 0 from nI_le (Nat.le_refl 0) (by decide)), pa_1, e]
      by_cases h16 : 16 ≤ h
      · rw [if_pos (show (16 : Int32) ≤ nI h from nI_le (a := 16) h16 (by omega)), Nat.min_eq_right (by omega)]; rfl
      · rw [if_neg (show ¬ (16 : Int32) ≤ nI h from nI_ge (b := 16) (by omega) (by decide)), Nat.min_eq_left (by omega), p1]; rfl
  | succ k ih =>
    intro fuel hk hf
    cases fuel with
    | zero => omega
    | succ f =>
      unfold f_X8_remember_3
      rw [if_neg (show ¬ nI (k + 1) ≤ 0 from nI_nle (by omega) (by omega)), nI_pred, pk_m1]
      rw [show (46 * nI k : Int32) = nI (46 * k) from pk_mul 46 k, show (46 * nI (k + 1) : Int32) = nI (46 * (k + 1)) from pk_mul 46 (k + 1)]
      rw [h_copyRow (by omega) (by omega) (by omega), Option.bind_some, pa_pa, pa_2s, shf_s k (by omega)]
      exact ih f (by omega) (by omega)
theorem h_remember {σ : pv_S} {h : Nat} (hh : h ≤ 16) (e : σ.1 10 = nI h) : f_X8_remember σ = some (pv_pi (pv_pa σ 13 (shf 0 (σ.2 13))) 10 (nI (min (h + 1) 16))) := by
  have := h_remember_3 (σ := σ) (σ.2 13) hh e 16 pv_FU (by omega) (by unfold pv_FU; omega)
  rw [shf_16, pa_self] at this
  exact this
def p0f (i : Nat) (w : Nat → Int32) : Nat → Int32 := fun x => if 36 ≤ x ∧ x < 36 + i then -1 else w x
theorem h_part0_2 {σ : pv_S} (w : Nat → Int32) : ∀ (d fuel i : Nat), i + d = 10 → d < fuel → f_X8_part0_2 fuel (nI i) (pv_pa σ 13 (p0f i w)) = some (pv_pa σ 13 (p0f 10 w)) := by
  intro d
  induction d with
  | zero =>
    intro fuel i hi hf
    cases fuel with
    | zero => omega
    | succ f =>
      unfold f_X8_part0_2
      rw [show i = 10 by omega, if_pos (show (10 : Int32) ≤ nI 10 from nI_le (Nat.le_refl 10) (by decide))]
  | succ d ih =>
    intro fuel i hi hf
    cases fuel with
    | zero => omega
    | succ f =>
      unfold f_X8_part0_2
      rw [if_neg (show ¬ (10 : Int32) ≤ nI i from nI_ge (b := 10) (by omega) (by decide)), ad36]
      simp (disch := omega) only [gd_nI, sa_nI]
      rw [pa_pa, pa_2s, p1]
      have e : upd (p0f i w) (36 + i) (-1) = p0f (i + 1) w := by
        funext x; simp only [upd_ap, p0f]
        repeat' split
        all_goals first | rfl | omega
      rw [e]
      exact ih f (i + 1) (by omega) (by omega)
theorem h_part0 (σ : pv_S) : f_X8_part0 σ = some (pv_pa σ 13 (p0f 10 (σ.2 13))) := by
  have := h_part0_2 (σ := σ) (σ.2 13) 10 pv_FU 0 (by omega) (by unfold pv_FU; omega)
  have e0 : p0f 0 (σ.2 13) = σ.2 13 := by funext x; unfold p0f; rw [if_neg (by omega)]
  rw [e0, pa_self] at this
  exact this
