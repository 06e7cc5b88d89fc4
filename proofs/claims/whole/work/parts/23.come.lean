/-! notes come and go -/
def ins (q : Sc) (p o l t : Nat) : Sc := (qn q + 1, qt q, (fun i => if i < p then qo q i else if i = p then o else qo q (i - 1)), (fun i => if i < p then ql q i else if i = p then l else ql q (i - 1)), (fun i => if i < p then qp q i else if i = p then t else qp q (i - 1)), fun _ => none)
def del (q : Sc) (p : Nat) : Sc := (qn q - 1, qt q, (fun i => if i < p then qo q i else qo q (i + 1)), (fun i => if i < p then ql q i else ql q (i + 1)), (fun i => if i < p then qp q i else qp q (i + 1)), fun _ => none)
def stm (q : Sc) (j v : Nat) : Sc := (qn q, (fun i => if i = j then v else qt q i), qo q, ql q, qp q, fun _ => none)
def clr (q : Sc) : Sc := (0, qt q, qo q, ql q, qp q, fun _ => none)
def PL (q : Sc) (K p : Nat) : Prop := p ≤ qn q ∧ (∀ j, j < p → ky q j ≤ K) ∧ ∀ j, p ≤ j → j < qn q → K < ky q j
theorem PL_u {q : Sc} {K p r : Nat} (h1 : PL q K p) (h2 : PL q K r) : p = r := by
  rcases Nat.lt_trichotomy p r with h | h | h
  · have a := h2.2.1 p h
    have b := h1.2.2 p (Nat.le_refl _) (Nat.lt_of_lt_of_le h h2.1)
    omega
  · exact h
  · have a := h1.2.1 r h
    have b := h2.2.2 r (Nat.le_refl _) (Nat.lt_of_lt_of_le h h1.1)
    omega
theorem WX_no {q : Sc} (h : ∀ i, qx q i = none) : WX q := ⟨fun i j hi hx => (by rw [h i] at hx; cases hx), fun i k j hi hk hx => (by rw [h i] at hx; cases hx)⟩
theorem WF_ins {q : Sc} (h : WF q) (hn : qn q < 10) {p o l t : Nat} (ho : o ≤ 99) (hl : 1 ≤ l) (hl2 : l ≤ 32) (ht : t ≤ 127) (hp : PL q ((o * 128 + t) * 64 + l) p) : WF (ins q p o l t) := by
  obtain ⟨hT, ⟨hN0, hN⟩, hS, hX⟩ := h
  obtain ⟨p1, p2, p3⟩ := hp
  refine ⟨hT, ⟨by show qn q + 1 ≤ 10; omega, fun i hi => ?_⟩, fun i j hij hj => ?_, WX_no (fun _ => rfl)⟩
  · have hi : i < qn q + 1 := hi
    show (if i < p then qo q i else if i = p then o else qo q (i - 1)) ≤ 99 ∧ 1 ≤ (if i < p then ql q i else if i = p then l else ql q (i - 1)) ∧ (if i < p then ql q i else if i = p then l else ql q (i - 1)) ≤ 32 ∧ (if i < p then qp q i else if i = p then t else qp q (i - 1)) ≤ 127
    by_cases h1 : i < p
    · simp only [if_pos h1]; exact hN i (by omega)
    · simp only [if_neg h1]
      by_cases h2 : i = p
      · simp only [if_pos h2]; exact ⟨ho, hl, hl2, ht⟩
      · simp only [if_neg h2]; exact hN (i - 1) (by omega)
  · have hj : j < qn q + 1 := hj
    have kk : ∀ i, ky (ins q p o l t) i = if i < p then ky q i else if i = p then (o * 128 + t) * 64 + l else ky q (i - 1) := fun i => by
      show ((if i < p then qo q i else if i = p then o else qo q (i - 1)) * 128 + (if i < p then qp q i else if i = p then t else qp q (i - 1))) * 64 + (if i < p then ql q i else if i = p then l else ql q (i - 1)) = _
      by_cases h1 : i < p
      · simp only [if_pos h1]; rfl
      · simp only [if_neg h1]
        by_cases h2 : i = p
        · simp only [if_pos h2]
        · simp only [if_neg h2]; rfl
    rw [kk i, kk j]
    by_cases a1 : i < p
    · rw [if_pos a1]
      by_cases b1 : j < p
      · rw [if_pos b1]; exact hS i j hij (by omega)
      · rw [if_neg b1]
        by_cases b2 : j = p
        · rw [if_pos b2]; exact p2 i a1
        · rw [if_neg b2]
          have := p2 i a1
          have := p3 (j - 1) (by omega) (by omega)
          omega
    · rw [if_neg a1, if_neg (show ¬ j < p by omega), if_neg (show ¬ j = p by omega)]
      by_cases a2 : i = p
      · rw [if_pos a2]
        have := p3 (j - 1) (by omega) (by omega)
        omega
      · rw [if_neg a2]; exact hS (i - 1) (j - 1) (by omega) (by omega)
theorem WF_del {q : Sc} (h : WF q) {p : Nat} (hp : p < qn q) : WF (del q p) := by
  obtain ⟨hT, ⟨hN0, hN⟩, hS, hX⟩ := h
  refine ⟨hT, ⟨by show qn q - 1 ≤ 10; omega, fun i hi => ?_⟩, fun i j hij hj => ?_, WX_no (fun _ => rfl)⟩
  · have hi : i < qn q - 1 := hi
    show (if i < p then qo q i else qo q (i + 1)) ≤ 99 ∧ 1 ≤ (if i < p then ql q i else ql q (i + 1)) ∧ (if i < p then ql q i else ql q (i + 1)) ≤ 32 ∧ (if i < p then qp q i else qp q (i + 1)) ≤ 127
    by_cases h1 : i < p
    · simp only [if_pos h1]; exact hN i (by omega)
    · simp only [if_neg h1]; exact hN (i + 1) (by omega)
  · have hj : j < qn q - 1 := hj
    have kk : ∀ i, ky (del q p) i = if i < p then ky q i else ky q (i + 1) := fun i => by
      show ((if i < p then qo q i else qo q (i + 1)) * 128 + (if i < p then qp q i else qp q (i + 1))) * 64 + (if i < p then ql q i else ql q (i + 1)) = _
      by_cases h1 : i < p
      · simp only [if_pos h1]; rfl
      · simp only [if_neg h1]; rfl
    rw [kk i, kk j]
    by_cases a1 : i < p
    · rw [if_pos a1]
      by_cases b1 : j < p
      · rw [if_pos b1]; exact hS i j hij (by omega)
      · rw [if_neg b1]; exact hS i (j + 1) (by omega) (by omega)
    · rw [if_neg a1, if_neg (show ¬ j < p by omega)]; exact hS (i + 1) (j + 1) (by omega) (by omega)
theorem WF_stm {q : Sc} (h : WF q) {j v : Nat} (h0 : j = 0 → v ≤ 9) (h1 : j = 1 → v ≤ 9) (h2 : j = 2 → v ≤ 99) (h3 : j = 3 → v ≤ 999) (h4 : j = 4 → v ≤ 99) : WF (stm q j v) := by
  obtain ⟨⟨t0, t1, t2, t3, t4⟩, hN, hS, hX⟩ := h
  refine ⟨⟨?_, ?_, ?_, ?_, ?_⟩, hN, hS, WX_no (fun _ => rfl)⟩
  · show (if 0 = j then v else qt q 0) ≤ 9
    split <;> omega
  · show (if 1 = j then v else qt q 1) ≤ 9
    split <;> omega
  · show (if 2 = j then v else qt q 2) ≤ 99
    split <;> omega
  · show (if 3 = j then v else qt q 3) ≤ 999
    split <;> omega
  · show (if 4 = j then v else qt q 4) ≤ 99
    split <;> omega
theorem WF_clr {q : Sc} (h : WF q) : WF (clr q) := by
  refine ⟨h.1, ⟨Nat.zero_le _, fun i hi => absurd hi (Nat.not_lt_zero i)⟩, fun i j _ hj => absurd hj (Nat.not_lt_zero j), WX_no (fun _ => rfl)⟩
theorem RC4 {c : Nat → Int32} {q : Sc} (h : RC c 0 q) {i : Nat} (hi : i < qn q) : c (6 + 4 * i) = nI (qo q i) ∧ c (7 + 4 * i) = nI (ql q i) ∧ c (8 + 4 * i) = nI (qp q i) ∧ c (9 + 4 * i) = en (qx q i) := by
  have := h.2.2 i hi
  simpa using this
theorem RC_ins {c : Nat → Int32} {q : Sc} (h : RC c 0 q) (hn : qn q < 10) {p o l t : Nat} (hp : p ≤ qn q) : RC (chg (qn q + 1) (upd (upd (upd (upd (va_cpy c c (6 + 4 * p) (10 + 4 * p) (4 * (qn q - p))) (6 + 4 * p) (nI o)) (7 + 4 * p) (nI l)) (8 + 4 * p) (nI t)) 0 (nI (qn q + 1)))) 0 (ins q p o l t) := by
  refine ⟨?_, fun j hj => ?_, fun i hi => ?_⟩
  · rw [chg_at0, upd_s]; rfl
  · show chg _ _ (0 + 1 + j) = nI (qt q j)
    rw [← h.2.1 j hj]
    simp only [chg, upd_ap, va_cpy]
    rw [if_neg (by omega), if_neg (by omega), if_neg (by omega), if_neg (by omega), if_neg (by omega), if_neg (by omega)]
  · have hi : i < qn q + 1 := hi
    have nxt : chg (qn q + 1) (upd (upd (upd (upd (va_cpy c c (6 + 4 * p) (10 + 4 * p) (4 * (qn q - p))) (6 + 4 * p) (nI o)) (7 + 4 * p) (nI l)) (8 + 4 * p) (nI t)) 0 (nI (qn q + 1))) (0 + 9 + 4 * i) = -1 := by
      unfold chg; rw [if_pos (by omega)]
    refine ⟨?_, ?_, ?_, nxt⟩
    all_goals simp only [chg, upd_ap, va_cpy]
    · show _ = nI (if i < p then qo q i else if i = p then o else qo q (i - 1))
      rw [if_neg (by omega), if_neg (by omega), if_neg (by omega), if_neg (by omega)]
      by_cases h1 : i < p
      · rw [if_pos h1, if_neg (by omega), if_neg (by omega), ← (RC4 h (i := i) (by omega)).1]
      · rw [if_neg h1]
        by_cases h2 : i = p
        · rw [if_pos h2, if_pos (by omega)]
        · rw [if_neg h2, if_neg (by omega), if_pos (by omega), ← (RC4 h (i := i - 1) (by omega)).1]; congr 1; omega
    · show _ = nI (if i < p then ql q i else if i = p then l else ql q (i - 1))
      rw [if_neg (by omega), if_neg (by omega), if_neg (by omega)]
      by_cases h1 : i < p
      · rw [if_pos h1, if_neg (by omega), if_neg (by omega), if_neg (by omega), ← (RC4 h (i := i) (by omega)).2.1]
      · rw [if_neg h1]
        by_cases h2 : i = p
        · rw [if_pos h2, if_pos (by omega)]
        · rw [if_neg h2, if_neg (by omega), if_neg (by omega), if_pos (by omega), ← (RC4 h (i := i - 1) (by omega)).2.1]; congr 1; omega
    · show _ = nI (if i < p then qp q i else if i = p then t else qp q (i - 1))
      rw [if_neg (by omega), if_neg (by omega)]
      by_cases h1 : i < p
      · rw [if_pos h1, if_neg (by omega), if_neg (by omega), if_neg (by omega), if_neg (by omega), ← (RC4 h (i := i) (by omega)).2.2.1]
      · rw [if_neg h1]
        by_cases h2 : i = p
        · rw [if_pos h2, if_pos (by omega)]
        · rw [if_neg h2, if_neg (by omega), if_neg (by omega), if_neg (by omega), if_pos (by omega), ← (RC4 h (i := i - 1) (by omega)).2.2.1]; congr 1; omega
theorem RC_del {c : Nat → Int32} {q : Sc} (h : RC c 0 q) (hn : qn q ≤ 10) {p : Nat} (hp : p < qn q) : RC (chg (qn q - 1) (upd (va_cpy c c (10 + 4 * p) (6 + 4 * p) (4 * (qn q - 1 - p))) 0 (nI (qn q - 1)))) 0 (del q p) := by
  refine ⟨?_, fun j hj => ?_, fun i hi => ?_⟩
  · rw [chg_at0, upd_s]; rfl
  · show chg _ _ (0 + 1 + j) = nI (qt q j)
    rw [← h.2.1 j hj]
    simp only [chg, upd_ap, va_cpy]
    rw [if_neg (by omega), if_neg (by omega), if_neg (by omega)]
  · have hi : i < qn q - 1 := hi
    have nxt : chg (qn q - 1) (upd (va_cpy c c (10 + 4 * p) (6 + 4 * p) (4 * (qn q - 1 - p))) 0 (nI (qn q - 1))) (0 + 9 + 4 * i) = -1 := by
      unfold chg; rw [if_pos (by omega)]
    refine ⟨?_, ?_, ?_, nxt⟩
    all_goals simp only [chg, upd_ap, va_cpy]
    · show _ = nI (if i < p then qo q i else qo q (i + 1))
      rw [if_neg (by omega), if_neg (by omega)]
      by_cases h1 : i < p
      · rw [if_pos h1, if_neg (by omega), ← (RC4 h (i := i) (by omega)).1]
      · rw [if_neg h1, if_pos (by omega), ← (RC4 h (i := i + 1) (by omega)).1]; congr 1; omega
    · show _ = nI (if i < p then ql q i else ql q (i + 1))
      rw [if_neg (by omega), if_neg (by omega)]
      by_cases h1 : i < p
      · rw [if_pos h1, if_neg (by omega), ← (RC4 h (i := i) (by omega)).2.1]
      · rw [if_neg h1, if_pos (by omega), ← (RC4 h (i := i + 1) (by omega)).2.1]; congr 1; omega
    · show _ = nI (if i < p then qp q i else qp q (i + 1))
      rw [if_neg (by omega), if_neg (by omega)]
      by_cases h1 : i < p
      · rw [if_pos h1, if_neg (by omega), ← (RC4 h (i := i) (by omega)).2.2.1]
      · rw [if_neg h1, if_pos (by omega), ← (RC4 h (i := i + 1) (by omega)).2.2.1]; congr 1; omega
theorem RC_stm {c : Nat → Int32} {q : Sc} (h : RC c 0 q) (hn : qn q ≤ 10) {j v : Nat} (hj : j < 5) : RC (chg (qn q) (upd c (1 + j) (nI v))) 0 (stm q j v) := by
  refine ⟨?_, fun k hk => ?_, fun i hi => ?_⟩
  · rw [chg_at0, upd_n _ _ (by omega)]; exact h.1
  · show _ = nI (if k = j then v else qt q k)
    simp only [chg, upd_ap]
    rw [if_neg (by omega)]
    by_cases e : k = j
    · rw [if_pos e, if_pos (by omega)]
    · rw [if_neg e, if_neg (by omega)]; exact h.2.1 k hk
  · have hi : i < qn q := hi
    obtain ⟨a1, a2, a3, -⟩ := h.2.2 i hi
    simp only [chg, upd_ap]
    refine ⟨?_, ?_, ?_, ?_⟩
    · rw [if_neg (by omega), if_neg (by omega)]; exact a1
    · rw [if_neg (by omega), if_neg (by omega)]; exact a2
    · rw [if_neg (by omega), if_neg (by omega)]; exact a3
    · rw [if_pos (by omega)]; rfl
theorem RC_clr {c : Nat → Int32} {q : Sc} (h : RC c 0 q) : RC (chg 0 (upd c 0 0)) 0 (clr q) := by
  refine ⟨by rw [chg_at0, upd_s]; rfl, fun k hk => ?_, fun i hi => absurd hi (Nat.not_lt_zero i)⟩
  rw [chg_0, upd_n _ _ (by omega)]
  exact h.2.1 k hk
section COME
variable {σ : pv_S} {q : Sc}
theorem key_nI (o l t : Nat) : (((nI o * 128) + nI t) * 64) + nI l = nI ((o * 128 + t) * 64 + l) := by
  show (((nI o * nI 128) + nI t) * nI 64) + nI l = _
  rw [pk_mul, nI_add, pk_mul, nI_add]
theorem ky_lt (hw : WF q) {i : Nat} (hi : i < qn q) : ky q i < 2 ^ 31 := by
  have := hw.2.1.2 i hi
  unfold ky; omega
theorem h_place_11 (hw : WF q) (h : RC (σ.2 0) 0 q) {K : Nat} (hK : K < 2 ^ 31) : ∀ (d fuel i : Nat), i + d = qn q → d < fuel → (∀ j, j < i → ky q j ≤ K) → ∃ p, f_X6_placeFor_11 fuel (nI K) (nI i) σ = some (nI p, σ) ∧ PL q K p := by
  have hn := hw.2.1.1
  intro d
  induction d with
  | zero =>
    intro fuel i hi hf hb
    cases fuel with
    | zero => omega
    | succ f =>
      unfold f_X6_placeFor_11
      rw [e_X6_count h, Option.bind_some, if_pos (nI_le (by omega) (by omega))]
      exact ⟨i, rfl, by omega, hb, fun j h1 h2 => by omega⟩
  | succ d ih =>
    intro fuel i hi hf hb
    cases fuel with
    | zero => omega
    | succ f =>
      have hi2 : i < qn q := by omega
      unfold f_X6_placeFor_11
      rw [e_X6_count h, Option.bind_some, if_neg (nI_ge (by omega) (by omega)), e_X6_on hn h hi2, Option.bind_some, e_X6_length hn h hi2, Option.bind_some, e_X6_pitch hn h hi2, Option.bind_some]
      unfold f_X6_orderKey
      rw [Option.bind_some]
      dsimp only
      rw [key_nI]
      by_cases hc : K < ky q i
      · rw [if_pos (show nI K < nI ((qo q i * 128 + qp q i) * 64 + ql q i) from nI_lt hc (ky_lt hw hi2))]
        refine ⟨i, rfl, by omega, hb, fun j h1 h2 => ?_⟩
        rcases Nat.eq_or_lt_of_le h1 with e | e
        · rw [← e]; exact hc
        · exact Nat.lt_of_lt_of_le hc (hw.2.2.1 i j e h2)
      · rw [if_neg (show ¬ nI K < nI ((qo q i * 128 + qp q i) * 64 + ql q i) from nI_nlt (by unfold ky at hc; omega) hK), p1]
        exact ih f (i + 1) (by omega) (by omega) (fun j hj => by
          rcases Nat.lt_or_ge j i with e | e
          · exact hb j e
          · rw [show j = i by omega]; omega)
theorem h_place (hw : WF q) (h : RC (σ.2 0) 0 q) {o l t : Nat} (ho : o ≤ 99) (hl : l ≤ 32) (ht : t ≤ 127) : ∃ p, f_X6_placeFor (nI o) (nI l) (nI t) σ = some (nI p, σ) ∧ PL q ((o * 128 + t) * 64 + l) p := by
  unfold f_X6_placeFor f_X6_orderKey
  rw [Option.bind_some]
  dsimp only
  rw [key_nI]
  exact h_place_11 hw h (by omega) (qn q) pv_FU 0 (by omega) (by have := hw.2.1.1; unfold pv_FU; omega) (fun j hj => by omega)
theorem h_bring (hw : WF q) (h : RC (σ.2 0) 0 q) (hn : qn q < 10) {o l t : Nat} (ho : o ≤ 99) (hl : 1 ≤ l) (hl2 : l ≤ 32) (ht : t ≤ 127) : ∃ p c, f_X6_bring (nI o) (nI l) (nI t) σ = some (nI p, pv_pa (pv_pi σ 0 (σ.1 0 + 1)) 0 c) ∧ PL q ((o * 128 + t) * 64 + l) p ∧ RC c 0 (ins q p o l t) := by
  obtain ⟨p, e1, hp⟩ := h_place hw h ho hl2 ht
  have hpn := hp.1
  refine ⟨p, _, ?_, hp, RC_ins h hn hpn (o := o) (l := l) (t := t)⟩
  unfold f_X6_bring
  rw [e_X6_count h, Option.bind_some, if_neg (nI_pos (by omega)), if_pos (show nI (qn q) < 10 from nI_lt (b := 10) hn (by decide)), e1, Option.bind_some]
  dsimp only
  have e6 : (6 + nI p * 4 : Int32) = nI (6 + 4 * p) := by show nI 6 + nI p * nI 4 = _; rw [pk_mul, nI_add, Nat.mul_comm]
  have e4 : (nI (6 + 4 * p) + 4 : Int32) = nI (10 + 4 * p) := by show nI (6 + 4 * p) + nI 4 = _; rw [nI_add]; congr 1; omega
  have e0 : (nI (6 + 4 * p) + 0 : Int32) = nI (6 + 4 * p) := p0 _
  have e7 : (nI (6 + 4 * p) + 1 : Int32) = nI (7 + 4 * p) := by rw [p1]; congr 1; omega
  have e8 : (nI (6 + 4 * p) + 2 : Int32) = nI (8 + 4 * p) := by show nI (6 + 4 * p) + nI 2 = _; rw [nI_add]; congr 1; omega
  have en4 : ((nI (qn q) - nI p) * 4 : Int32) = nI (4 * (qn q - p)) := by rw [pk_sub hpn]; show nI (qn q - p) * nI 4 = _; rw [pk_mul, Nat.mul_comm]
  rw [e6, e4, e0, e7, e8, en4, gc_nI _ (by omega) (by omega) (by decide) (by decide)]
  rw [show gd (0 : Int32) 46 = gd (nI 0) 46 from rfl]
  simp (disch := omega) only [gd_nI]
  rw [cp_nI _ _ _ (by omega) (by omega) (by omega), sa_nI _ _ _ (by omega), sa_nI _ _ _ (by omega), sa_nI _ _ _ (by omega), show (0 : Int32) = nI 0 from rfl, sa_nI _ _ _ (by omega), p1]
  simp only [pa_pa, pa_2s]
  rw [h_changed (n := qn q + 1) (by omega) (by rw [pa_2s, upd_s]), Option.bind_some]
  simp only [pa_2s, pa_1, pa_pi_pa]
theorem h_drop (hw : WF q) (h : RC (σ.2 0) 0 q) {i : Nat} (hi : i < qn q) : ∃ c, f_X6_drop (nI i) σ = some (pv_pa (pv_pi σ 0 (σ.1 0 + 1)) 0 c) ∧ RC c 0 (del q i) := by
  have hn := hw.2.1.1
  refine ⟨_, ?_, RC_del h hn hi⟩
  unfold f_X6_drop
  rw [e_X6_has hn h hi, Option.bind_some, if_neg c10, e_X6_count h, Option.bind_some]
  dsimp only
  have e6 : (6 + nI i * 4 : Int32) = nI (6 + 4 * i) := by show nI 6 + nI i * nI 4 = _; rw [pk_mul, nI_add, Nat.mul_comm]
  have e4 : (nI (6 + 4 * i) + 4 : Int32) = nI (10 + 4 * i) := by show nI (6 + 4 * i) + nI 4 = _; rw [nI_add]; congr 1; omega
  have e1 : (nI (qn q) - 1 : Int32) = nI (qn q - 1) := pk_sub (b := 1) (by omega)
  have en4 : ((nI (qn q - 1) - nI i) * 4 : Int32) = nI (4 * (qn q - 1 - i)) := by rw [pk_sub (by omega)]; show nI (qn q - 1 - i) * nI 4 = _; rw [pk_mul, Nat.mul_comm]
  rw [e6, e4, e1, en4, gc_nI _ (by omega) (by omega) (by decide) (by decide), cp_nI _ _ _ (by omega) (by omega) (by omega)]
  rw [h_count (n := qn q) (by rw [pa_2s]; unfold va_cpy; rw [if_neg (by omega)]; exact h.1), Option.bind_some]
  dsimp only
  rw [show gd (0 : Int32) 46 = gd (nI 0) 46 from rfl, gd_nI _ (by decide) (by decide), e1, show (0 : Int32) = nI 0 from rfl, sa_nI _ _ _ (by omega), pa_pa, pa_2s]
  rw [h_changed (n := qn q - 1) (by omega) (by rw [pa_2s, upd_s]), Option.bind_some]
  simp only [pa_2s, pa_1, pa_pi_pa]
end COME
