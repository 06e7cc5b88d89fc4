/-! drift, undo, book, seed, images: both do alike -/
def dr (s : Nat) : Nat := (s * 1103515245 + 12345) % 2147483648
theorem dr_lt (s : Nat) : dr s < 2 ^ 31 := Nat.mod_lt _ (by decide)
theorem rgN' {α : Type} {x a b : Int32} {lo hi : Nat} (ha : a.toInt = (lo : Int)) (hb : b.toInt = (hi : Int)) (h : x.toInt < (lo : Int) ∨ (hi : Int) < x.toInt) (A B : α) : (if x < a then A else (if x ≤ b then B else A)) = A := by
  by_cases c : x < a
  · rw [if_pos c]
  · have : ¬ x ≤ b := by
      rw [Int32.lt_iff_toInt_lt, ha] at c
      rw [Int32.le_iff_toInt_le, hb]; omega
    rw [if_neg c, if_neg this]
theorem rgY' {α : Type} {a b : Int32} {k lo hi : Nat} (ha : a.toInt = (lo : Int)) (hb : b.toInt = (hi : Int)) (h1 : lo ≤ k) (h2 : k ≤ hi) (h3 : k < 2 ^ 31) (A B : α) : (if nI k < a then A else (if nI k ≤ b then B else A)) = B := by
  rw [if_neg (by rw [Int32.lt_iff_toInt_lt, ha, nI_toInt h3]; omega), if_pos (by rw [Int32.le_iff_toInt_le, hb, nI_toInt h3]; omega)]
theorem tb32 (N : Nat) : (nI N).toBitVec.toNat = N % 2 ^ 32 := rfl
theorem c_seed (s : Nat) : (((nI s * 1103515245) + 12345) &&& 2147483647 : Int32) = nI (dr s) := by
  rw [show (1103515245 : Int32) = nI 1103515245 from rfl, show (12345 : Int32) = nI 12345 from rfl, pk_mul, nI_add, pk_and _ 31 (by decide)]
  unfold dr
  generalize s * 1103515245 + 12345 = N
  rw [tb32, show N % 2 ^ 32 % 2 ^ 31 = N % 2147483648 by omega]
theorem m_seed {s : Nat} (hs : s < 2 ^ 31) : ((((nI s).toInt64 * 1103515245) + 12345) - (((nI s).toInt64 * 1103515245) + 12345) / 2147483648 * 2147483648 : Int64).toInt32 = nI (dr s) := by
  unfold dr
  rw [nI_l hs, show (1103515245 : Int64) = lN 1103515245 from rfl, show (12345 : Int64) = lN 12345 from rfl, show (2147483648 : Int64) = lN 2147483648 from rfl, lN_mul, lN_add, pk_lRem (by omega) (by decide) (by decide), lN_i]
theorem dv (n : Nat) (s : Nat) (hs : s < 2 ^ 31) (h1 : 1 ≤ n) (h2 : n < 2 ^ 31) : (nI s / 65536) - (nI s / 65536) / nI n * nI n = nI (s / 65536 % n) := by
  rw [show (65536 : Int32) = nI 65536 from rfl, pk_div hs (by decide) (by decide), pk_rem (by omega) h1 h2]
theorem c_draw {σ : pv_S} {s n : Nat} (h : σ.1 9 = nI s) (h1 : 1 ≤ n) (h2 : n < 2 ^ 31) : f_X1_draw (nI n) σ = some (nI (dr s / 65536 % n), pv_pi σ 9 (nI (dr s))) := by
  unfold f_X1_draw gn
  rw [if_pos (show (1 : Int32) ≤ nI n from nI_le (a := 1) h1 h2), if_neg (nI_ne0 h1 h2), h, c_seed, pi_1, if_pos rfl, dv n _ (dr_lt s) h1 h2]
theorem m_draw {σ : pv_S} {s n : Nat} (hs : s < 2 ^ 31) (h : σ.1 12 = nI s) (h1 : 1 ≤ n) (h2 : n < 2 ^ 31) : f_X8_draw (nI n) σ = some (nI (dr s / 65536 % n), pv_pi σ 12 (nI (dr s))) := by
  unfold f_X8_draw gn
  rw [if_neg (nI_ne0 h1 h2), h, m_seed hs, pi_1, if_pos rfl, dv n _ (dr_lt s) h1 h2]
theorem dr_lt' (s : Nat) : dr s < 2 ^ 31 := dr_lt s
def ss (M : Zt) (s : Nat) : Zt := (zq M, zh M, zH M, zK M, zI M, zS M, zb M, zv M, zc M, s)
theorem ss_ss (M : Zt) (a b : Nat) : ss (ss M a) b = ss M b := rfl
theorem zq_ss (M : Zt) (a : Nat) : zq (ss M a) = zq M := rfl
theorem WM_ss {M : Zt} (hw : WM M) {s : Nat} (hs : s < 2 ^ 31) : WM (ss M s) := ⟨hw.1, hw.2.1, hw.2.2.1, hw.2.2.2.1, hs⟩
theorem CLb_ss {σ : pv_S} {M : Zt} (h : CLb σ M) (s : Nat) : CLb (pv_pi σ 9 (nI s)) (ss M s) := ⟨h.1, h.2.1, h.2.2.1, h.2.2.2.1, rfl⟩
theorem MO_ss {σ : pv_S} {M : Zt} (h : MO σ M) (s : Nat) : MO (pv_pi σ 12 (nI s)) (ss M s) := ⟨h.1, h.2.1, h.2.2.1, h.2.2.2.1, rfl⟩
theorem CAC_9 {σ : pv_S} {q : Sc} {E : Nat} (h : CAC σ q E) (v : Int32) : CAC (pv_pi σ 9 v) q E := CAC_cg (σ := σ) (τ := pv_pi σ 9 v) rfl rfl rfl rfl rfl rfl rfl rfl h
theorem d_bringDrawn {σ : pv_S} {M : Zt} {E : Nat} (hw : WM M) (h : CLb σ M) (hC : CAC σ (zq M) E) (hE : E < 2 ^ 30) (hn : qn (zq M) < 10) : ∃ τ M', f_X7_bringDrawn σ = some τ ∧ WM M' ∧ CLb τ M' ∧ CAC τ (zq M') (E + 1) ∧ sm σ τ ∧ ∀ ρ, MO ρ M → ∃ o l t p τ' ρ1 ρ2 ρ3, f_X8_draw 24 ρ = some (o, ρ1) ∧ f_X8_draw 6 ρ1 = some (l, ρ2) ∧ f_X8_draw 25 ρ2 = some (t, ρ3) ∧ f_X8_add o (l + 1) (t + 48) ρ3 = some (p, τ') ∧ sc ρ τ' ∧ MO τ' M' := by
  have hs := hw.2.2.2.2
  obtain ⟨s, es⟩ : ∃ s, s = zs M := ⟨_, rfl⟩
  rw [← es] at hs
  have h9 : σ.1 9 = nI s := by rw [es]; exact h.2.2.2.2
  have d1 := c_draw (σ := σ) (n := 24) h9 (by decide) (by decide)
  have d2 := c_draw (σ := pv_pi σ 9 (nI (dr s))) (s := dr s) (n := 6) rfl (by decide) (by decide)
  have d3 := c_draw (σ := pv_pi (pv_pi σ 9 (nI (dr s))) 9 (nI (dr (dr s)))) (s := dr (dr s)) (n := 25) rfl (by decide) (by decide)
  have m1 : dr s / 65536 % 24 < 24 := Nat.mod_lt _ (by decide)
  have m2 : dr (dr s) / 65536 % 6 < 6 := Nat.mod_lt _ (by decide)
  have m3 : dr (dr (dr s)) / 65536 % 25 < 25 := Nat.mod_lt _ (by decide)
  have hw3 : WM (ss M (dr (dr (dr s)))) := WM_ss hw (dr_lt _)
  have c3 := CLb_ss (CLb_ss (CLb_ss h (dr s)) (dr (dr s))) (dr (dr (dr s)))
  rw [ss_ss, ss_ss] at c3
  have hC3 := CAC_9 (CAC_9 (CAC_9 hC (nI (dr s))) (nI (dr (dr s)))) (nI (dr (dr (dr s))))
  rw [← zq_ss M (dr (dr (dr s)))] at hC3 hn
  obtain ⟨p, τ, b1, b2, b3, b4, b5, b6⟩ := d_bring hw3 c3 hC3 hE hn (o := dr s / 65536 % 24) (l := dr (dr s) / 65536 % 6 + 1) (t := dr (dr (dr s)) / 65536 % 25 + 48) (by omega) (by omega) (by omega) (by omega)
  refine ⟨τ, _, ?_, WM_q hw3 b3, b4, b5, sm_t (sm_pi σ _ (by decide)) (sm_t (sm_pi _ _ (by decide)) (sm_t (sm_pi _ _ (by decide)) b6)), fun ρ hρ => ?_⟩
  · unfold f_X7_bringDrawn
    rw [show (24 : Int32) = nI 24 from rfl, d1, Option.bind_some]
    dsimp only
    rw [show (6 : Int32) = nI 6 from rfl, d2, Option.bind_some]
    dsimp only
    rw [show (25 : Int32) = nI 25 from rfl, d3, Option.bind_some]
    dsimp only
    rw [p1, show (48 : Int32) = nI 48 from rfl, nI_add, b1, Option.bind_some]
  · have h12 : ρ.1 12 = nI s := by rw [es]; exact hρ.2.2.2.2
    have e1 := m_draw (σ := ρ) (n := 24) hs h12 (by decide) (by decide)
    have e2 := m_draw (σ := pv_pi ρ 12 (nI (dr s))) (s := dr s) (n := 6) (dr_lt _) rfl (by decide) (by decide)
    have e3 := m_draw (σ := pv_pi (pv_pi ρ 12 (nI (dr s))) 12 (nI (dr (dr s)))) (s := dr (dr s)) (n := 25) (dr_lt _) rfl (by decide) (by decide)
    have r3 := MO_ss (MO_ss (MO_ss hρ (dr s)) (dr (dr s))) (dr (dr (dr s)))
    rw [ss_ss, ss_ss] at r3
    obtain ⟨τ', s1, s2, s3, -⟩ := dm_add hw3 r3 hn (by omega) (by omega) (by omega) b2
    refine ⟨nI (dr s / 65536 % 24), nI (dr (dr s) / 65536 % 6), nI (dr (dr (dr s)) / 65536 % 25), nI p, τ', pv_pi ρ 12 (nI (dr s)), pv_pi (pv_pi ρ 12 (nI (dr s))) 12 (nI (dr (dr s))), pv_pi (pv_pi (pv_pi ρ 12 (nI (dr s))) 12 (nI (dr (dr s)))) 12 (nI (dr (dr (dr s)))), e1, e2, e3, ?_, sc_t (sc_pi ρ _ (by decide)) (sc_t (sc_pi _ _ (by decide)) (sc_t (sc_pi _ _ (by decide)) s3)), s2⟩
    rw [p1, show (48 : Int32) = nI 48 from rfl, nI_add, s1]
theorem drift_loop {n : Nat} (hn10 : n ≤ 10) : ∀ (d fuel i : Nat) (σ : pv_S) (E : Nat) (M : Zt), i + d = n → d < fuel → E + d < 2 ^ 30 → WM M → CLb σ M → CAC σ (zq M) E → ∃ r τ M', f_X7_drift_16 fuel (nI n) (nI i) σ = some (r, τ) ∧ WM M' ∧ CLb τ M' ∧ CAC τ (zq M') (E + d) ∧ sm σ τ ∧ ∀ ρ, MO ρ M → ∃ τ', f_X8_drift_17 fuel (nI n) (nI i) ρ = some (r, τ') ∧ sc ρ τ' ∧ MO τ' M' := by
  intro d
  induction d with
  | zero =>
    intro fuel i σ E M hi hf hE hw h hC
    cases fuel with
    | zero => omega
    | succ r =>
      refine ⟨nI (qn (zq M)), σ, M, ?_, hw, h, hC, sm_r σ, fun ρ hρ => ⟨ρ, ?_, sc_r ρ, hρ⟩⟩
      · unfold f_X7_drift_16 f_X7_drift_52
        rw [if_pos (nI_le (by omega) (by omega)), e_X6_count h.1, Option.bind_some]
      · unfold f_X8_drift_17 f_X8_drift_80
        rw [if_pos (nI_le (by omega) (by omega)), gd_0, lm_0, hρ.1.1]
  | succ d ih =>
    intro fuel i σ E M hi hf hE hw h hC
    have hn := hw.1.2.1.1
    cases fuel with
    | zero => omega
    | succ r =>
      by_cases hfu : qn (zq M) = 10
      · refine ⟨nI (qn (zq M)), σ, M, ?_, hw, h, CAC_mono (by omega) hC, sm_r σ, fun ρ hρ => ⟨ρ, ?_, sc_r ρ, hρ⟩⟩
        · unfold f_X7_drift_16 f_X7_drift_52
          rw [if_neg (nI_ge (by omega) (by omega)), c_fullY h.1 hfu, Option.bind_some]
          dsimp only
          rw [if_neg c10, e_X6_count h.1, Option.bind_some]
        · unfold f_X8_drift_17 f_X8_drift_80
          rw [if_neg (nI_ge (by omega) (by omega)), gd_0, gd_0, lm_0, hρ.1.1, if_pos (show (10 : Int32) ≤ nI (qn (zq M)) from nI_le (a := 10) (by omega) (by omega))]
      · have hn' : qn (zq M) < 10 := by omega
        obtain ⟨τ, t1, t2, t3, t4⟩ := d_record hw h hC
        obtain ⟨τ2, M2, b1, b2, b3, b4, b5, b6⟩ := d_bringDrawn (WM_rec hw) t2 t3 (by omega) hn'
        obtain ⟨rr, τ3, M3, c1, c2, c3, c4, c5, c6⟩ := ih r (i + 1) τ2 (E + 1) M2 (by omega) (by omega) (by omega) b2 b3 b4
        refine ⟨rr, τ3, M3, ?_, c2, c3, CAC_mono (by omega) c4, sm_t t4 (sm_t b5 c5), fun ρ hρ => ?_⟩
        · unfold f_X7_drift_16
          rw [if_neg (nI_ge (by omega) (by omega)), c_fullN h.1 hn', Option.bind_some]
          dsimp only
          rw [if_pos rfl, t1, Option.bind_some, b1, Option.bind_some, p1, c1]
        · obtain ⟨τ4, r1, r2, r3⟩ := dm_remember hw hρ
          obtain ⟨o, l, t, p, τ', ρ1, ρ2, ρ3, e1, e2, e3, e4, e5, e6⟩ := b6 τ4 r2
          obtain ⟨τ5, f1, f2, f3⟩ := c6 (pv_pi τ' 14 p) e6
          refine ⟨τ5, ?_, sc_t r3 (sc_t e5 (sc_t (sc_pi τ' p (by decide)) f2)), f3⟩
          unfold f_X8_drift_17
          rw [if_neg (nI_ge (by omega) (by omega)), gd_0, lm_0, hρ.1.1, if_neg (show ¬ (10 : Int32) ≤ nI (qn (zq M)) from nI_ge (b := 10) hn' (by decide)), r1, Option.bind_some, e1, Option.bind_some]
          dsimp only
          rw [e2, Option.bind_some]
          dsimp only
          rw [e3, Option.bind_some]
          dsimp only
          rw [e4, Option.bind_some]
          dsimp only
          rw [p1, f1]
theorem ok_drift (p0 : Int32) : OK (f_X7_drift p0) (f_X8_drift p0) := by
  intro σ E M hE hw h hC hM
  rcases rgI p0 1 10 (by decide) with ⟨n, hn1, hn2, rfl⟩ | hx
  · obtain ⟨r, τ, M', t1, t2, t3, t4, t5, t6⟩ := drift_loop hn2 n pv_FU 0 σ E M (by omega) (by unfold pv_FU; omega) (by omega) hw h hC
    refine OK_of hw hM r τ M' ?_ t5 t2 t3 (CAC_mono (by omega) t4) (fun ρ hρ => ?_)
    · unfold f_X7_drift
      rw [rgY' (lo := 1) (hi := 10) rfl rfl hn1 hn2 (by omega)]
      exact t1
    · obtain ⟨τ', u1, u2, u3⟩ := t6 ρ hρ
      refine ⟨τ', ?_, u2, u3⟩
      unfold f_X8_drift
      rw [m_inY (lo := 1) (hi := 10) rfl rfl hn1 hn2 (by omega), Option.bind_some]
      dsimp only
      rw [if_neg c10]
      exact u1
  · refine OK_id hw h hC hM (-1000000002) ?_ (fun ρ hρ => ?_)
    · unfold f_X7_drift
      rw [rgN' (lo := 1) (hi := 10) rfl rfl hx]
    · unfold f_X8_drift
      rw [m_inN rfl rfl hx, Option.bind_some]
      dsimp only
      rw [if_pos rfl]; exact id17 _ _
def bk (M : Zt) (n : Nat) : Zt := (zH M (n - 1), zh M - n, (fun k => zH M (k + n)), M.2.2.2)
def ud (n r : Nat) (w : Nat → Int32) : Nat → Int32 := fun x => if x < 46 * r then w (x + 46 * n) else w x
theorem ud_s (n r : Nat) (hn : 1 ≤ n) (w : Nat → Int32) : va_cpy (ud n r w) (ud n r w) (46 * (r + n)) (46 * r) 46 = ud n (r + 1) w := by
  funext x
  by_cases c : 46 * r ≤ x ∧ x < 46 * r + 46
  · rw [pk_cpy_in c.1 c.2]
    unfold ud
    rw [if_neg (by omega), if_pos (by omega)]
    exact congrArg w (by omega)
  · rw [pk_cpy_out (by omega)]
    unfold ud
    by_cases c2 : x < 46 * r
    · rw [if_pos c2, if_pos (by omega)]
    · rw [if_neg c2, if_neg (by omega)]
theorem m_undo_28 {n h : Nat} (hn1 : 1 ≤ n) (hnh : n ≤ h) (hh : h ≤ 16) (w : Nat → Int32) : ∀ (d fuel r : Nat) (σ : pv_S), σ.1 10 = nI h → r + d = 17 - n → d < fuel → f_X8_undo_28 fuel (nI n) (nI r) (pv_pa σ 13 (ud n r w)) = some (ud n (17 - n) w 0, pv_pi (pv_pa σ 13 (ud n (17 - n) w)) 10 (nI (h - n))) := by
  intro d
  induction d with
  | zero =>
    intro fuel r σ h10 hr hf
    cases fuel with
    | zero => omega
    | succ m =>
      unfold f_X8_undo_28
      rw [nI_add, if_pos (show (16 : Int32) < nI (r + n) from nI_lt (a := 16) (by omega) (by omega)), gd_0, lm_0, pa_1, h10, pk_sub hnh, show 17 - n = r by omega]
      show some ((pv_pa σ 13 (ud n r w)).2 13 0, _) = _
      rw [pa_2s]
  | succ d ih =>
    intro fuel r σ h10 hr hf
    cases fuel with
    | zero => omega
    | succ m =>
      unfold f_X8_undo_28
      have e1 : (46 * nI (r + n) : Int32) = nI (46 * (r + n)) := by show nI 46 * nI (r + n) = _; rw [pk_mul]
      have e2 : (46 * nI r : Int32) = nI (46 * r) := by show nI 46 * nI r = _; rw [pk_mul]
      rw [nI_add, if_neg (show ¬ (16 : Int32) < nI (r + n) from nI_nlt (a := 16) (by omega) (by decide)), e1, e2, h_copyRow (by omega) (by omega) (by omega), Option.bind_some, pa_pa, pa_2s, ud_s n r hn1, p1]
      exact ih m (r + 1) σ h10 (by omega) (by omega)
theorem ok_undo (p0 : Int32) : OK (f_X7_undo p0) (f_X8_undo p0) := by
  intro σ E M hE hw h hC hM
  have hh := hw.2.1.1
  obtain ⟨h1, ⟨p, hp1, hp2, hp3, hp4⟩, h3⟩ := id h
  rcases rgI p0 1 16 (by decide) with ⟨n, hn1, hn2, rfl⟩ | hx
  · by_cases hnh : n ≤ zh M
    · have hwq : WF (zH M (n - 1)) := hw.2.1.2 (n - 1) (by omega)
      have hwM : WM (bk M n) := ⟨hwq, ⟨by show zh M - n ≤ 16; omega, fun k hk => hw.2.1.2 (k + n) (by have : k < zh M - n := hk; omega)⟩, hw.2.2⟩
      have eX : ((σ.1 6 + 16) - nI n) - ((σ.1 6 + 16) - nI n) / 16 * 16 = nI ((p + 16 - n) % 16) := by
        rw [hp2, show (16 : Int32) = nI 16 from rfl, nI_add, pk_sub (by omega), pk_rem (by omega) (by decide) (by decide)]
      have hpm : (p + 16 - n) % 16 < 16 := Nat.mod_lt _ (by decide)
      obtain ⟨ρ0, hρ0⟩ : ∃ ρ0, ρ0 = pv_pi (pv_pi σ 6 (nI ((p + 16 - n) % 16))) 7 (nI (zh M - n)) := ⟨_, rfl⟩
      have hcf := h_copyFrom16 ρ0 hpm
      have hgb : f_X2_giveBack (nI n) σ = some (pv_pi (pv_pa ρ0 0 (va_cpy (ρ0.2 7) (ρ0.2 0) (46 * ((p + 16 - n) % 16)) 0 46)) 0 (ρ0.1 0 + 1)) := by
        unfold f_X2_giveBack
        rw [if_neg (show ¬ nI n < 1 from nI_nlt (b := 1) hn1 (by omega)), hp3, if_pos (nI_le hnh (by omega)), eX]
        have e7 : (pv_pi σ 6 (nI ((p + 16 - n) % 16))).1 7 = nI (zh M) := hp3
        rw [e7, pk_sub hnh, ← hρ0]
        have e6 : ρ0.1 6 = nI ((p + 16 - n) % 16) := by rw [hρ0]; rfl
        rw [e6, hcf, Option.bind_some]
      have hRC : RC (va_cpy (ρ0.2 7) (ρ0.2 0) (46 * ((p + 16 - n) % 16)) 0 46) 0 (zH M (n - 1)) := by
        have := hp4 (n - 1) (by omega)
        rw [show p + 15 - (n - 1) = p + 16 - n by omega] at this
        refine RC_copy hwq.2.1.1 this (fun j hj => ?_)
        rw [pk_cpy_in (by omega) (by omega), hρ0]
        exact congrArg (σ.2 7) (by omega)
      have hCL : CLb (pv_pi (pv_pa ρ0 0 (va_cpy (ρ0.2 7) (ρ0.2 0) (46 * ((p + 16 - n) % 16)) 0 46)) 0 (ρ0.1 0 + 1)) (bk M n) := by
        rw [hρ0] at hRC ⊢
        refine ⟨hRC, ⟨(p + 16 - n) % 16, hpm, rfl, rfl, fun k hk => ?_⟩, h3⟩
        have hk' : k < zh M - n := hk
        have := hp4 (k + n) (by omega)
        show RC (σ.2 7) (46 * (((p + 16 - n) % 16 + 15 - k) % 16)) (zH M (k + n))
        rw [show ((p + 16 - n) % 16 + 15 - k) % 16 = (p + 15 - (k + n)) % 16 by omega]
        exact this
      refine OK_of hw hM (nI (qn (zH M (n - 1)))) _ (bk M n) ?_ ?_ hwM hCL (CAC_mono (E := E + 1) (by omega) (CAC_up (by omega) ?_ ?_ hC)) (fun ρ hρ => ?_)
      · unfold f_X7_undo f_X2_held
        rw [rgY' (lo := 1) (hi := 16) rfl rfl hn1 hn2 (by omega), Option.bind_some]
        dsimp only
        rw [hp3, if_pos (nI_le hnh (by omega)), hgb, Option.bind_some, e_X6_count hCL.1, Option.bind_some]; rfl
      · rw [hρ0]; exact sm_t (sm_pi σ _ (by decide)) (sm_t (sm_pi _ _ (by decide)) (sm_t (sm_pa _ _ (by decide)) (sm_pi _ _ (by decide))))
      · rw [hρ0]; rfl
      · rw [hρ0]; rfl
      · obtain ⟨m1, m2, m3, m4⟩ := hρ
        have hu := m_undo_28 hn1 hnh hh (ρ.2 13) (17 - n) pv_FU 0 ρ m2.1 (by omega) (by unfold pv_FU; omega)
        have e0 : ud n 0 (ρ.2 13) = ρ.2 13 := by funext x; unfold ud; rw [if_neg (by omega)]
        rw [e0, pa_self] at hu
        have hRM : RM (ud n (17 - n) (ρ.2 13)) 0 (zH M (n - 1)) := by
          have := m2.2 (n - 1) (by omega)
          refine RM_copy hwq.2.1.1 this (fun j hj => ?_)
          unfold ud
          rw [if_pos (by omega)]
          exact congrArg (ρ.2 13) (by omega)
        refine ⟨pv_pi (pv_pa ρ 13 (ud n (17 - n) (ρ.2 13))) 10 (nI (zh M - n)), ?_, sc_t (sc_pa ρ (ud n (17 - n) (ρ.2 13)) (by decide)) (sc_pi _ (nI (zh M - n)) (by decide)), hRM, ⟨rfl, fun k hk => ?_⟩, ?_, m4⟩
        · unfold f_X8_undo
          rw [m_inY (lo := 1) (hi := 16) rfl rfl hn1 hn2 (by omega), Option.bind_some]
          dsimp only
          rw [if_neg c10, m2.1, if_pos (nI_le hnh (by omega)), show (0 : Int32) = nI 0 from rfl, hu, hRM.1]
        · have hk' : k < zh M - n := hk
          show RM (ud n (17 - n) (ρ.2 13)) (46 * (k + 1)) (zH M (k + n))
          refine RM_copy (hw.2.1.2 (k + n) (by omega)).2.1.1 (m2.2 (k + n) (by omega)) (fun j hj => ?_)
          unfold ud
          rw [if_pos (by omega)]
          exact congrArg (ρ.2 13) (by omega)
        · obtain ⟨m, a1, a2, a3⟩ := m3
          refine ⟨m, a1, a2, fun i hi => ⟨(a3 i hi).1, fun z => ⟨?_, ((a3 i hi).2 z).2⟩⟩⟩
          show RM (ud n (17 - n) (ρ.2 13)) (782 + 46 * i) (zI M i)
          refine RM_copy (hw.2.2.1 i hi z).1.2.1.1 ((a3 i hi).2 z).1 (fun j hj => ?_)
          unfold ud
          rw [if_neg (by omega)]
    · refine OK_id hw h hC hM (-1000000003) ?_ (fun ρ hρ => ?_)
      · unfold f_X7_undo f_X2_held
        rw [rgY' (lo := 1) (hi := 16) rfl rfl hn1 hn2 (by omega), Option.bind_some]
        dsimp only
        rw [hp3, if_neg (nI_ge (by omega) (by omega))]
      · unfold f_X8_undo
        rw [m_inY (lo := 1) (hi := 16) rfl rfl hn1 hn2 (by omega), Option.bind_some]
        dsimp only
        rw [if_neg c10, hρ.2.1.1, if_neg (nI_ge (by omega) (by omega))]; exact id17 _ _
  · refine OK_id hw h hC hM (-1000000002) ?_ (fun ρ hρ => ?_)
    · unfold f_X7_undo
      rw [rgN' (lo := 1) (hi := 16) rfl rfl hx]
    · unfold f_X8_undo
      rw [m_inN rfl rfl hx, Option.bind_some]
      dsimp only
      rw [if_pos rfl]; exact id17 _ _
