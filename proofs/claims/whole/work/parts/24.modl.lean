/-! the model's notes come and go -/
def sh (at' n : Nat) (w : Nat → Int32) : Nat → Int32 := fun x => if (6 + at' < x ∧ x ≤ 6 + n) ∨ (16 + at' < x ∧ x ≤ 16 + n) ∨ (26 + at' < x ∧ x ≤ 26 + n) then w (x - 1) else w x
theorem sh_n (n : Nat) (w : Nat → Int32) : sh n n w = w := by
  funext x; unfold sh; rw [if_neg (by omega)]
theorem sh_s {at' n : Nat} (hn : n < 10) (ha : at' + 1 ≤ n) (w : Nat → Int32) : upd (upd (upd (sh (at' + 1) n w) (6 + (at' + 1)) (w (6 + at'))) (16 + (at' + 1)) (w (16 + at'))) (26 + (at' + 1)) (w (26 + at')) = sh at' n w := by
  funext x; simp only [upd_ap, sh]
  by_cases h1 : x = 26 + (at' + 1)
  · rw [if_pos h1, if_pos (by omega), h1]; rfl
  · rw [if_neg h1]
    by_cases h2 : x = 16 + (at' + 1)
    · rw [if_pos h2, if_pos (by omega), h2]; rfl
    · rw [if_neg h2]
      by_cases h3 : x = 6 + (at' + 1)
      · rw [if_pos h3, if_pos (by omega), h3]; rfl
      · rw [if_neg h3]
        by_cases h4 : (6 + (at' + 1) < x ∧ x ≤ 6 + n) ∨ (16 + (at' + 1) < x ∧ x ≤ 16 + n) ∨ (26 + (at' + 1) < x ∧ x ≤ 26 + n)
        · rw [if_pos h4, if_pos (by omega)]
        · rw [if_neg h4, if_neg (by omega)]
theorem h_stays {σ : pv_S} {i a b c o l t : Nat} (hi : i < 10) (ea : σ.2 13 (6 + i) = nI a) (eb : σ.2 13 (16 + i) = nI b) (ec : σ.2 13 (26 + i) = nI c) (ha : a ≤ 99) (hb : b ≤ 32) (hc : c ≤ 127) (ho : o ≤ 99) (hl : l ≤ 32) (ht : t ≤ 127) : f_X8_stays (nI i) (nI o) (nI l) (nI t) σ = some (if (a * 128 + c) * 64 + b ≤ (o * 128 + t) * 64 + l then 1 else 0, σ) := by
  unfold f_X8_stays
  simp (disch := omega) only [ad6, ad16, ad26, gd_nI, la_nI]
  rw [ea, eb, ec]
  by_cases h1 : a = o
  · rw [if_pos (by rw [h1])]
    by_cases h2 : c = t
    · rw [if_pos (by rw [h2])]
      by_cases h3 : l < b
      · rw [if_pos (nI_lt h3 (by omega)), if_neg (by omega)]
      · rw [if_neg (nI_nlt (by omega) (by omega)), if_pos (by omega)]
    · rw [if_neg (fun e => h2 ((nI_eq (by omega) (by omega)).mp e))]
      by_cases h3 : t ≤ c
      · rw [if_pos (nI_le h3 (by omega)), if_neg (by omega)]
      · rw [if_neg (nI_ge (by omega) (by omega)), if_pos (by omega)]
  · rw [if_neg (fun e => h1 ((nI_eq (by omega) (by omega)).mp e))]
    by_cases h3 : o ≤ a
    · rw [if_pos (nI_le h3 (by omega)), if_neg (by omega)]
    · rw [if_neg (nI_ge (by omega) (by omega)), if_pos (by omega)]
theorem RM4 {w : Nat → Int32} {q : Sc} (h : RM w 0 q) {i : Nat} (hi : i < qn q) : w (6 + i) = nI (qo q i) ∧ w (16 + i) = nI (ql q i) ∧ w (26 + i) = nI (qp q i) ∧ w (36 + i) = en (qx q i) := by
  have := h.2.2 i hi
  simpa using this
theorem RM_ins {w : Nat → Int32} {q : Sc} (h : RM w 0 q) (hn : qn q < 10) {p o l t : Nat} (hp : p ≤ qn q) : RM (p0f 10 (upd (upd (upd (upd (sh p (qn q) w) (6 + p) (nI o)) (16 + p) (nI l)) (26 + p) (nI t)) 0 (nI (qn q + 1)))) 0 (ins q p o l t) := by
  refine ⟨?_, fun j hj => ?_, fun i hi => ?_⟩
  · simp only [p0f, upd_ap]; rw [if_neg (by omega), if_pos trivial]; rfl
  · show _ = nI (qt q j)
    rw [← h.2.1 j hj]
    simp only [p0f, upd_ap, sh]
    rw [if_neg (by omega), if_neg (by omega), if_neg (by omega), if_neg (by omega), if_neg (by omega), if_neg (by omega)]
  · have hi : i < qn q + 1 := hi
    refine ⟨?_, ?_, ?_, ?_⟩
    · show _ = nI (if i < p then qo q i else if i = p then o else qo q (i - 1))
      simp only [p0f, upd_ap, sh]
      rw [if_neg (by omega), if_neg (by omega), if_neg (by omega), if_neg (by omega)]
      by_cases h1 : i < p
      · rw [if_pos h1, if_neg (by omega), if_neg (by omega), ← (RM4 h (i := i) (by omega)).1]
      · rw [if_neg h1]
        by_cases h2 : i = p
        · rw [if_pos h2, if_pos (by omega)]
        · rw [if_neg h2, if_neg (by omega), if_pos (by omega), ← (RM4 h (i := i - 1) (by omega)).1]; congr 1; omega
    · show _ = nI (if i < p then ql q i else if i = p then l else ql q (i - 1))
      simp only [p0f, upd_ap, sh]
      rw [if_neg (by omega), if_neg (by omega), if_neg (by omega)]
      by_cases h1 : i < p
      · rw [if_pos h1, if_neg (by omega), if_neg (by omega), if_neg (by omega), ← (RM4 h (i := i) (by omega)).2.1]
      · rw [if_neg h1]
        by_cases h2 : i = p
        · rw [if_pos h2, if_pos (by omega)]
        · rw [if_neg h2, if_neg (by omega), if_neg (by omega), if_pos (by omega), ← (RM4 h (i := i - 1) (by omega)).2.1]; congr 1; omega
    · show _ = nI (if i < p then qp q i else if i = p then t else qp q (i - 1))
      simp only [p0f, upd_ap, sh]
      rw [if_neg (by omega), if_neg (by omega)]
      by_cases h1 : i < p
      · rw [if_pos h1, if_neg (by omega), if_neg (by omega), if_neg (by omega), if_neg (by omega), ← (RM4 h (i := i) (by omega)).2.2.1]
      · rw [if_neg h1]
        by_cases h2 : i = p
        · rw [if_pos h2, if_pos (by omega)]
        · rw [if_neg h2, if_neg (by omega), if_neg (by omega), if_neg (by omega), if_pos (by omega), ← (RM4 h (i := i - 1) (by omega)).2.2.1]; congr 1; omega
    · unfold p0f
      rw [if_pos (by omega)]; rfl
def dh (i n : Nat) (p : Nat) (w : Nat → Int32) : Nat → Int32 := fun x => if (6 + p ≤ x ∧ x < 6 + i) ∨ (16 + p ≤ x ∧ x < 16 + i) ∨ (26 + p ≤ x ∧ x < 26 + i) then w (x + 1) else w x
theorem RM_del {w : Nat → Int32} {q : Sc} (h : RM w 0 q) (hn : qn q ≤ 10) {p : Nat} (hp : p < qn q) : RM (p0f 10 (upd (dh (qn q - 1) (qn q) p w) 0 (nI (qn q - 1)))) 0 (del q p) := by
  refine ⟨?_, fun j hj => ?_, fun i hi => ?_⟩
  · simp only [p0f, upd_ap]; rw [if_neg (by omega), if_pos trivial]; rfl
  · show _ = nI (qt q j)
    rw [← h.2.1 j hj]
    simp only [p0f, upd_ap, dh]
    rw [if_neg (by omega), if_neg (by omega), if_neg (by omega)]
  · have hi : i < qn q - 1 := hi
    refine ⟨?_, ?_, ?_, ?_⟩
    · show _ = nI (if i < p then qo q i else qo q (i + 1))
      simp only [p0f, upd_ap, dh]
      rw [if_neg (by omega), if_neg (by omega)]
      by_cases h1 : i < p
      · rw [if_pos h1, if_neg (by omega), ← (RM4 h (i := i) (by omega)).1]
      · rw [if_neg h1, if_pos (by omega), ← (RM4 h (i := i + 1) (by omega)).1]; rfl
    · show _ = nI (if i < p then ql q i else ql q (i + 1))
      simp only [p0f, upd_ap, dh]
      rw [if_neg (by omega), if_neg (by omega)]
      by_cases h1 : i < p
      · rw [if_pos h1, if_neg (by omega), ← (RM4 h (i := i) (by omega)).2.1]
      · rw [if_neg h1, if_pos (by omega), ← (RM4 h (i := i + 1) (by omega)).2.1]; rfl
    · show _ = nI (if i < p then qp q i else qp q (i + 1))
      simp only [p0f, upd_ap, dh]
      rw [if_neg (by omega), if_neg (by omega)]
      by_cases h1 : i < p
      · rw [if_pos h1, if_neg (by omega), ← (RM4 h (i := i) (by omega)).2.2.1]
      · rw [if_neg h1, if_pos (by omega), ← (RM4 h (i := i + 1) (by omega)).2.2.1]; rfl
    · unfold p0f
      rw [if_pos (by omega)]; rfl
theorem RM_stm {w : Nat → Int32} {q : Sc} (h : RM w 0 q) (hn : qn q ≤ 10) {j v : Nat} (hj : j < 5) : RM (p0f 10 (upd w (1 + j) (nI v))) 0 (stm q j v) := by
  refine ⟨?_, fun k hk => ?_, fun i hi => ?_⟩
  · simp only [p0f, upd_ap]; rw [if_neg (by omega), if_neg (by omega)]; exact h.1
  · show _ = nI (if k = j then v else qt q k)
    simp only [p0f, upd_ap]
    rw [if_neg (by omega)]
    by_cases e : k = j
    · rw [if_pos e, if_pos (by omega)]
    · rw [if_neg e, if_neg (by omega)]; exact h.2.1 k hk
  · have hi : i < qn q := hi
    obtain ⟨a1, a2, a3, -⟩ := h.2.2 i hi
    simp only [p0f, upd_ap]
    refine ⟨?_, ?_, ?_, ?_⟩
    · rw [if_neg (by omega), if_neg (by omega)]; exact a1
    · rw [if_neg (by omega), if_neg (by omega)]; exact a2
    · rw [if_neg (by omega), if_neg (by omega)]; exact a3
    · rw [if_pos (by omega)]; rfl
theorem RM_clr {w : Nat → Int32} {q : Sc} (h : RM w 0 q) : RM (p0f 10 (upd w 0 0)) 0 (clr q) := by
  refine ⟨by simp only [p0f, upd_ap]; rw [if_neg (by omega), if_pos trivial]; rfl, fun k hk => ?_, fun i hi => absurd hi (Nat.not_lt_zero i)⟩
  simp only [p0f, upd_ap]
  rw [if_neg (by omega), if_neg (by omega)]
  exact h.2.1 k hk
section MCOME
variable {σ : pv_S} {q : Sc}
theorem h_add_99 (w : Nat → Int32) (hn : qn q < 10) (h : RM w 0 q) {p : Nat} (hp : p ≤ qn q) (o l t : Nat) : f_X8_add_99 (nI o) (nI l) (nI t) (nI p) (pv_pa σ 13 (sh p (qn q) w)) = some (nI p, pv_pa σ 13 (p0f 10 (upd (upd (upd (upd (sh p (qn q) w) (6 + p) (nI o)) (16 + p) (nI l)) (26 + p) (nI t)) 0 (nI (qn q + 1))))) := by
  unfold f_X8_add_99
  rw [ad6, ad16, ad26]
  simp (disch := omega) only [gd_nI, gd_0, sa_nI, pa_pa, pa_2s]
  rw [lm_0, show (0 : Int32) = nI 0 from rfl, sa_nI _ _ _ (by omega)]
  simp only [pa_pa, pa_2s]
  rw [upd_n _ _ (by omega), upd_n _ _ (by omega), upd_n _ _ (by omega)]
  have e0 : sh p (qn q) w 0 = nI (qn q) := by unfold sh; rw [if_neg (by omega)]; exact h.1
  rw [e0, p1, h_part0, Option.bind_some]
  simp only [pa_pa, pa_2s]
theorem h_add_8 (w : Nat → Int32) (hw : WF q) (hn : qn q < 10) (h : RM w 0 q) {o l t : Nat} (ho : o ≤ 99) (hl : l ≤ 32) (ht : t ≤ 127) : ∀ (at' fuel : Nat), at' ≤ qn q → at' < fuel → (∀ j, at' ≤ j → j < qn q → (o * 128 + t) * 64 + l < ky q j) → ∃ p, f_X8_add_8 fuel (nI o) (nI l) (nI t) (nI at') (pv_pa σ 13 (sh at' (qn q) w)) = some (nI p, pv_pa σ 13 (p0f 10 (upd (upd (upd (upd (sh p (qn q) w) (6 + p) (nI o)) (16 + p) (nI l)) (26 + p) (nI t)) 0 (nI (qn q + 1))))) ∧ PL q ((o * 128 + t) * 64 + l) p := by
  intro at'
  induction at' with
  | zero =>
    intro fuel h1 h2 h3
    cases fuel with
    | zero => omega
    | succ f =>
      unfold f_X8_add_8
      rw [if_pos (show nI 0 ≤ 0 from nI_le (Nat.le_refl 0) (by decide)), h_add_99 w hn h h1]
      exact ⟨0, rfl, h1, fun j hj => by omega, h3⟩
  | succ a ih =>
    intro fuel h1 h2 h3
    cases fuel with
    | zero => omega
    | succ f =>
      unfold f_X8_add_8
      have n1 := hw.2.1.2 a (by omega)
      have sa : ∀ x, x ≤ 6 + a ∨ (16 ≤ x ∧ x ≤ 16 + a) ∨ (26 ≤ x ∧ x ≤ 26 + a) → sh (a + 1) (qn q) w x = w x := fun x hx => by unfold sh; rw [if_neg (by omega)]
      rw [if_neg (show ¬ nI (a + 1) ≤ 0 from nI_nle (by omega) (by omega)), nI_pred]
      rw [h_stays (i := a) (a := qo q a) (b := ql q a) (c := qp q a) (by omega) (by rw [pa_2s, sa _ (by omega)]; exact (RM4 h (by omega)).1) (by rw [pa_2s, sa _ (by omega)]; exact (RM4 h (by omega)).2.1) (by rw [pa_2s, sa _ (by omega)]; exact (RM4 h (by omega)).2.2.1) (by omega) (by omega) (by omega) ho hl ht, Option.bind_some]
      dsimp only
      by_cases hc : (qo q a * 128 + qp q a) * 64 + ql q a ≤ (o * 128 + t) * 64 + l
      · rw [if_pos hc, if_neg c10, h_add_99 w hn h h1]
        refine ⟨a + 1, rfl, h1, fun j hj => ?_, h3⟩
        have : ky q j ≤ ky q a := by
          rcases Nat.lt_or_ge j a with e | e
          · exact hw.2.2.1 j a e (by omega)
          · rw [show j = a by omega]; exact Nat.le_refl _
        exact Nat.le_trans this hc
      · rw [if_neg hc, if_pos rfl, ad6, ad16, ad26, pk_m1]
        have e5 : ∀ k : Nat, nI (k + (a + 1)) - 1 = nI (k + a) := fun k => nI_pred (k + a)
        rw [e5, e5, e5]
        simp (disch := omega) only [gd_nI, la_nI, sa_nI, pa_pa, pa_2s]
        rw [upd_n _ _ (by omega), upd_n _ _ (by omega), upd_n _ _ (by omega), sa _ (by omega), sa _ (by omega), sa _ (by omega), sh_s hn (by omega) w]
        exact ih f (by omega) (by omega) (fun j hj1 hj2 => by
          rcases Nat.eq_or_lt_of_le hj1 with e | e
          · rw [← e]; exact Nat.not_le.mp hc
          · exact h3 j e hj2)
theorem h_add (hw : WF q) (hn : qn q < 10) (h : RM (σ.2 13) 0 q) {o l t : Nat} (ho : o ≤ 99) (hl : l ≤ 32) (ht : t ≤ 127) : ∃ p w, f_X8_add (nI o) (nI l) (nI t) σ = some (nI p, pv_pa σ 13 w) ∧ PL q ((o * 128 + t) * 64 + l) p ∧ RM w 0 (ins q p o l t) ∧ ∀ x, 46 ≤ x → w x = σ.2 13 x := by
  obtain ⟨p, e, hp⟩ := h_add_8 (σ := σ) (σ.2 13) hw hn h ho hl ht (qn q) pv_FU (Nat.le_refl _) (by unfold pv_FU; omega) (fun j h1 h2 => by omega)
  refine ⟨p, _, ?_, hp, RM_ins h hn hp.1 (o := o) (l := l) (t := t), fun x hx => ?_⟩
  · unfold f_X8_add
    rw [gd_0, lm_0, h.1]
    rw [sh_n, pa_self] at e
    exact e
  · have := hp.1
    simp only [p0f, upd_ap, sh]
    rw [if_neg (by omega), if_neg (by omega), if_neg (by omega), if_neg (by omega), if_neg (by omega), if_neg (by omega)]
theorem dh_s {i n p : Nat} (hi : p ≤ i) (hin : i < 9) (w : Nat → Int32) : upd (upd (upd (dh i n p w) (6 + i) (w (6 + i + 1))) (16 + i) (w (16 + i + 1))) (26 + i) (w (26 + i + 1)) = dh (i + 1) n p w := by
  funext x; simp only [upd_ap, dh]
  by_cases h1 : x = 26 + i
  · rw [if_pos h1, if_pos (by omega), h1]
  · rw [if_neg h1]
    by_cases h2 : x = 16 + i
    · rw [if_pos h2, if_pos (by omega), h2]
    · rw [if_neg h2]
      by_cases h3 : x = 6 + i
      · rw [if_pos h3, if_pos (by omega), h3]
      · rw [if_neg h3]
        by_cases h4 : (6 + p ≤ x ∧ x < 6 + i) ∨ (16 + p ≤ x ∧ x < 16 + i) ∨ (26 + p ≤ x ∧ x < 26 + i)
        · rw [if_pos h4, if_pos (by omega)]
        · rw [if_neg h4, if_neg (by omega)]
theorem h_remove_2 (w : Nat → Int32) {n p : Nat} (hn : n ≤ 10) (h0 : w 0 = nI n) (hp : p < n) : ∀ (d fuel i : Nat), i + d = n - 1 → p ≤ i → d < fuel → f_X8_remove_2 fuel (nI i) (pv_pa σ 13 (dh i n p w)) = some (pv_pa σ 13 (p0f 10 (upd (dh (n - 1) n p w) 0 (nI (n - 1))))) := by
  have z : ∀ i, dh i n p w 0 = nI n := fun i => by unfold dh; rw [if_neg (by omega)]; exact h0
  have e1 : (nI n - 1 : Int32) = nI (n - 1) := pk_sub (b := 1) (by omega)
  intro d
  induction d with
  | zero =>
    intro fuel i hi hpi hf
    cases fuel with
    | zero => omega
    | succ f =>
      unfold f_X8_remove_2
      simp only [gd_0]
      rw [lm_0, pa_2s, z, e1, if_pos (nI_le (by omega) (by omega)), show (0 : Int32) = nI 0 from rfl, sa_nI _ _ _ (by omega), h_part0, Option.bind_some]
      simp only [pa_pa, pa_2s]
      rw [show i = n - 1 by omega]
  | succ d ih =>
    intro fuel i hi hpi hf
    cases fuel with
    | zero => omega
    | succ f =>
      unfold f_X8_remove_2
      simp only [gd_0]
      rw [lm_0, pa_2s, z, e1, if_neg (nI_ge (by omega) (by omega)), ad6, ad16, ad26, p1, p1, p1, p1]
      simp (disch := omega) only [gd_nI, la_nI, sa_nI, pa_pa, pa_2s]
      have sa : ∀ x, (x = 6 + i + 1 ∨ x = 16 + i + 1 ∨ x = 26 + i + 1) → dh i n p w x = w x := fun x hx => by unfold dh; rw [if_neg (by omega)]
      rw [upd_n _ _ (by omega), upd_n _ _ (by omega), upd_n _ _ (by omega), sa _ (by omega), sa _ (by omega), sa _ (by omega), dh_s hpi (by omega) w]
      exact ih f (i + 1) (by omega) (by omega) (by omega)
theorem h_remove (hw : WF q) (h : RM (σ.2 13) 0 q) {i : Nat} (hi : i < qn q) : ∃ w, f_X8_remove (nI i) σ = some (pv_pa σ 13 w) ∧ RM w 0 (del q i) ∧ ∀ x, 46 ≤ x → w x = σ.2 13 x := by
  have hn := hw.2.1.1
  have e := h_remove_2 (σ := σ) (σ.2 13) hn h.1 hi (qn q - 1 - i) pv_FU i (by omega) (Nat.le_refl _) (by unfold pv_FU; omega)
  have e0 : dh i (qn q) i (σ.2 13) = σ.2 13 := by funext x; unfold dh; rw [if_neg (by omega)]
  rw [e0, pa_self] at e
  refine ⟨_, e, RM_del h hn hi, fun x hx => ?_⟩
  simp only [p0f, upd_ap, dh]
  rw [if_neg (by omega), if_neg (by omega), if_neg (by omega)]
end MCOME
