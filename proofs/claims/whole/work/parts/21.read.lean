theorem ad1 (i : Nat) : (1 : Int32) + nI i = nI (1 + i) := nI_add 1 i
theorem ad2 (i : Nat) : (2 : Int32) + nI i = nI (2 + i) := nI_add 2 i
theorem ad3 (i : Nat) : (3 : Int32) + nI i = nI (3 + i) := nI_add 3 i
theorem ad4 (i : Nat) : (4 : Int32) + nI i = nI (4 + i) := nI_add 4 i
theorem ad5 (i : Nat) : (5 : Int32) + nI i = nI (5 + i) := nI_add 5 i
theorem ad6 (i : Nat) : (6 : Int32) + nI i = nI (6 + i) := nI_add 6 i
theorem ad16 (i : Nat) : (16 : Int32) + nI i = nI (16 + i) := nI_add 16 i
theorem ad26 (i : Nat) : (26 : Int32) + nI i = nI (26 + i) := nI_add 26 i
theorem ad36 (i : Nat) : (36 : Int32) + nI i = nI (36 + i) := nI_add 36 i
theorem p1 (i : Nat) : nI i + 1 = nI (i + 1) := nI_1 i
theorem p0 (x : Int32) : x + 0 = x := Int32.add_zero x
theorem c10 : ¬ (1 : Int32) = 0 := by decide
theorem cx6 (i k : Nat) : (6 + (nI i * 4)) + nI k = nI (6 + 4 * i + k) := by
  show nI 6 + nI i * nI 4 + nI k = _
  rw [pk_mul, nI_add, nI_add]; congr 2; omega
/-! the class's readers -/
def my (q : Sc) (a b : Nat) : Bool := decide (b < qn q) && decide (qo q a + ql q a ≤ qo q b) && decide (qo q b ≤ qo q a + ql q a + qt q 4)
theorem my_iff {q : Sc} {a b : Nat} : my q a b = true ↔ may q a b := by
  unfold my may
  simp only [Bool.and_eq_true, decide_eq_true_eq]
  exact and_assoc
section RCS
variable {σ : pv_S} {q : Sc}
theorem RC_on (h : RC (σ.2 0) 0 q) {i : Nat} (hi : i < qn q) : σ.2 0 (6 + 4 * i + 0) = nI (qo q i) := by have := (h.2.2 i hi).1; simpa using this
theorem RC_len (h : RC (σ.2 0) 0 q) {i : Nat} (hi : i < qn q) : σ.2 0 (6 + 4 * i + 1) = nI (ql q i) := by
  have := (h.2.2 i hi).2.1
  rw [show 0 + 7 + 4 * i = 6 + 4 * i + 1 by omega] at this; exact this
theorem RC_pit (h : RC (σ.2 0) 0 q) {i : Nat} (hi : i < qn q) : σ.2 0 (6 + 4 * i + 2) = nI (qp q i) := by
  have := (h.2.2 i hi).2.2.1
  rw [show 0 + 8 + 4 * i = 6 + 4 * i + 2 by omega] at this; exact this
theorem RC_nx (h : RC (σ.2 0) 0 q) {i : Nat} (hi : i < qn q) : σ.2 0 (6 + 4 * i + 3) = en (qx q i) := by
  have := (h.2.2 i hi).2.2.2
  rw [show 0 + 9 + 4 * i = 6 + 4 * i + 3 by omega] at this; exact this
theorem RC_t (h : RC (σ.2 0) 0 q) {j : Nat} (hj : j < 5) : σ.2 0 (1 + j) = nI (qt q j) := by have := h.2.1 j hj; simpa using this
theorem RC_n (h : RC (σ.2 0) 0 q) : σ.2 0 0 = nI (qn q) := h.1
theorem e_X6_count (h : RC (σ.2 0) 0 q) : f_X6_count σ = some (nI (qn q), σ) := by
  show gd (nI 0) 46 (some (pv_la σ 0 (nI 0), σ)) = _
  rw [gd_nI _ (by decide) (by decide), la_nI _ _ (by decide), h.1]
theorem e_X6_cell (σ : pv_S) {i k : Nat} (hi : i < 10) (hk : k < 4) : f_X6_cell (nI i) (nI k) σ = some (σ.2 0 (6 + 4 * i + k), σ) := by
  unfold f_X6_cell
  rw [if_neg (nI_pos (by omega)), if_neg (show ¬ (10 : Int32) ≤ nI i from nI_ge hi (by decide)), cx6]
  simp (disch := omega) only [gd_nI, la_nI]
theorem e_X6_has (hn : qn q ≤ 10) (h : RC (σ.2 0) 0 q) {i : Nat} (hi : i < qn q) : f_X6_has (nI i) σ = some (1, σ) := by
  unfold f_X6_has
  rw [if_neg (nI_pos (by omega)), if_neg (show ¬ (10 : Int32) ≤ nI i from nI_ge (b := 10) (show i < 10 by omega) (by decide))]
  show gd (nI 0) 46 (if pv_la σ 0 (nI 0) ≤ nI i then some (0, σ) else some (1, σ)) = _
  rw [gd_nI _ (by decide) (by decide), la_nI _ _ (by decide), h.1, if_neg (nI_ge hi (by omega))]
theorem e_X6_hasN (hn : qn q ≤ 10) (h : RC (σ.2 0) 0 q) {x : Int32} (hx : ∀ i, i < qn q → x ≠ nI i) : f_X6_has x σ = some (0, σ) := by
  unfold f_X6_has
  rcases pk_ix x (n := 10) (by decide) with h1 | h1 | ⟨j, h1, rfl⟩
  · rw [if_pos h1]
  · by_cases h0 : x < 0
    · rw [if_pos h0]
    · rw [if_neg h0, if_pos (show (10 : Int32) ≤ x from h1)]
  · rw [if_neg (nI_pos (by omega)), if_neg (show ¬ (10 : Int32) ≤ nI j from nI_ge h1 (by decide))]
    show gd (nI 0) 46 (if pv_la σ 0 (nI 0) ≤ nI j then some (0, σ) else some (1, σ)) = _
    have hj : qn q ≤ j := by
      rcases Nat.lt_or_ge j (qn q) with h2 | h2
      · exact absurd rfl (hx j h2)
      · exact h2
    rw [gd_nI _ (by decide) (by decide), la_nI _ _ (by decide), h.1, if_pos (nI_le hj (by omega))]
theorem e_X6_on (hn : qn q ≤ 10) (h : RC (σ.2 0) 0 q) {i : Nat} (hi : i < qn q) : f_X6_on (nI i) σ = some (nI (qo q i), σ) := by
  show Option.bind (f_X6_cell (nI i) (nI 0) σ) _ = _
  rw [e_X6_cell σ (by omega) (by decide), RC_on h hi]; rfl
theorem e_X6_length (hn : qn q ≤ 10) (h : RC (σ.2 0) 0 q) {i : Nat} (hi : i < qn q) : f_X6_length (nI i) σ = some (nI (ql q i), σ) := by
  show Option.bind (f_X6_cell (nI i) (nI 1) σ) _ = _
  rw [e_X6_cell σ (by omega) (by decide), RC_len h hi]; rfl
theorem e_X6_pitch (hn : qn q ≤ 10) (h : RC (σ.2 0) 0 q) {i : Nat} (hi : i < qn q) : f_X6_pitch (nI i) σ = some (nI (qp q i), σ) := by
  show Option.bind (f_X6_cell (nI i) (nI 2) σ) _ = _
  rw [e_X6_cell σ (by omega) (by decide), RC_pit h hi]; rfl
theorem e_X6_next (hn : qn q ≤ 10) (h : RC (σ.2 0) 0 q) {i : Nat} (hi : i < qn q) : f_X6_next (nI i) σ = some (en (qx q i), σ) := by
  show Option.bind (f_X6_cell (nI i) (nI 3) σ) _ = _
  rw [e_X6_cell σ (by omega) (by decide), RC_nx h hi]; rfl
theorem e_X6_off (hn : qn q ≤ 10) (h : RC (σ.2 0) 0 q) {i : Nat} (hi : i < qn q) : f_X6_off (nI i) σ = some (nI (qo q i + ql q i), σ) := by
  show Option.bind (f_X6_cell (nI i) (nI 0) σ) (fun q1 => Option.bind (f_X6_cell (nI i) (nI 1) q1.2) (fun q2 => some (q1.1 + q2.1, q2.2))) = _
  rw [e_X6_cell σ (by omega) (by decide), RC_on h hi, Option.bind_some, e_X6_cell σ (by omega) (by decide), RC_len h hi, Option.bind_some, nI_add]
theorem e_X6_valueOf (h : RC (σ.2 0) 0 q) {j : Nat} (hj : j < 5) : f_X6_valueOf (nI j) σ = some (nI (qt q j), σ) := by
  unfold f_X6_valueOf
  rw [if_neg (nI_pos (by omega)), if_neg (show ¬ (5 : Int32) ≤ nI j from nI_ge hj (by decide)), ad1]
  simp (disch := omega) only [gd_nI, la_nI]
  rw [RC_t h hj]
theorem e_X6_mayFollow (hw : WF q) (h : RC (σ.2 0) 0 q) {a b : Nat} (ha : a < qn q) (hb : b < qn q) : f_X6_mayFollow (nI a) (nI b) σ = some (if my q a b then 1 else 0, σ) := by
  have hn := hw.2.1.1
  have n1 := hw.2.1.2 a ha
  have n2 := hw.2.1.2 b hb
  have t4 := hw.1.2.2.2.2
  unfold f_X6_mayFollow
  rw [e_X6_has hn h ha, Option.bind_some, if_neg c10, e_X6_has hn h hb, Option.bind_some, if_neg c10, e_X6_on hn h hb, Option.bind_some, e_X6_off hn h ha, Option.bind_some]
  show (if nI (qo q b) - nI (qo q a + ql q a) < 0 then some (0, σ) else Option.bind (f_X6_valueOf (nI 4) σ) (fun q8 => if q8.1 < nI (qo q b) - nI (qo q a + ql q a) then some (0, q8.2) else some (1, q8.2))) = _
  rw [e_X6_valueOf h (by decide), Option.bind_some]
  dsimp only
  by_cases h1 : qo q b < qo q a + ql q a
  · rw [if_pos (pk_sneg (by omega) h1)]
    have e : my q a b = false := by
      cases hm : my q a b with
      | false => rfl
      | true => have := (my_iff.mp hm).2.1; omega
    rw [e]; rfl
  · have h1 : qo q a + ql q a ≤ qo q b := by omega
    rw [pk_sub h1, if_neg (nI_pos (by omega))]
    by_cases h2 : qt q 4 < qo q b - (qo q a + ql q a)
    · rw [if_pos (nI_lt h2 (by omega))]
      have e : my q a b = false := by
        cases hm : my q a b with
        | false => rfl
        | true => have := (my_iff.mp hm).2.2; omega
      rw [e]; rfl
    · rw [if_neg (nI_nlt (by omega) (by omega))]
      have e : my q a b = true := my_iff.mpr ⟨hb, h1, by omega⟩
      rw [e]; rfl
theorem e_X6_costToFollow (hw : WF q) (h : RC (σ.2 0) 0 q) {a b : Nat} (ha : a < qn q) (hb : b < qn q) : f_X6_costToFollow (nI a) (nI b) σ = some (if my q a b then nI (cs q a b) else -1, σ) := by
  have hn := hw.2.1.1
  have n1 := hw.2.1.2 a ha
  have n2 := hw.2.1.2 b hb
  unfold f_X6_costToFollow
  rw [e_X6_mayFollow hw h ha hb, Option.bind_some]
  cases hm : my q a b with
  | false => rfl
  | true =>
    have m1 := my_iff.mp hm
    simp only [eq_self, if_true]
    rw [if_neg c10, e_X6_pitch hn h hb, Option.bind_some, e_X6_pitch hn h ha, Option.bind_some, e_X6_on hn h hb, Option.bind_some, e_X6_off hn h ha, Option.bind_some]
    dsimp only
    rw [abs_nI (by omega) (by omega), pk_sub m1.2.1]
    have fin : ∀ (s0 : Nat), f_X6_costToFollow_54 (nI (ds (qp q b) (qp q a))) (nI (qo q b - (qo q a + ql q a))) (nI s0) σ = some (nI (ds (qp q b) (qp q a) * qt q 0 + (qo q b - (qo q a + ql q a)) * qt q 1 + s0), σ) := fun s0 => by
      show Option.bind (f_X6_valueOf (nI 0) σ) (fun q1 => Option.bind (f_X6_valueOf (nI 1) q1.2) (fun q2 => some ((nI (ds (qp q b) (qp q a)) * q1.1 + nI (qo q b - (qo q a + ql q a)) * q2.1) + nI s0, q2.2))) = _
      rw [e_X6_valueOf h (by decide), Option.bind_some, e_X6_valueOf h (by decide), Option.bind_some]
      dsimp only
      rw [pk_mul, pk_mul, nI_add, nI_add]
    have hd : ds (qp q b) (qp q a) < 2 ^ 31 := by unfold ds; omega
    by_cases h12 : 12 < ds (qp q b) (qp q a)
    · rw [if_neg (show ¬ nI (ds (qp q b) (qp q a)) ≤ 12 from nI_ge h12 hd)]
      show Option.bind (f_X6_valueOf (nI 2) σ) _ = _
      rw [e_X6_valueOf h (by decide), Option.bind_some]
      dsimp only
      rw [fin]
      unfold cs
      rw [if_pos h12]
    · rw [if_pos (show nI (ds (qp q b) (qp q a)) ≤ 12 from nI_le (b := 12) (by omega) (by decide))]
      have := fin 0
      unfold cs
      rw [if_neg h12]
      exact this
end RCS
/-! the model's readers -/
section RMS
variable {σ : pv_S} {q : Sc}
theorem RM_on (h : RM (σ.2 13) 0 q) {i : Nat} (hi : i < qn q) : σ.2 13 (6 + i) = nI (qo q i) := by have := (h.2.2 i hi).1; simpa using this
theorem RM_len (h : RM (σ.2 13) 0 q) {i : Nat} (hi : i < qn q) : σ.2 13 (16 + i) = nI (ql q i) := by have := (h.2.2 i hi).2.1; simpa using this
theorem RM_pit (h : RM (σ.2 13) 0 q) {i : Nat} (hi : i < qn q) : σ.2 13 (26 + i) = nI (qp q i) := by have := (h.2.2 i hi).2.2.1; simpa using this
theorem RM_nx (h : RM (σ.2 13) 0 q) {i : Nat} (hi : i < qn q) : σ.2 13 (36 + i) = en (qx q i) := by have := (h.2.2 i hi).2.2.2; simpa using this
theorem RM_t (h : RM (σ.2 13) 0 q) {j : Nat} (hj : j < 5) : σ.2 13 (1 + j) = nI (qt q j) := by have := h.2.1 j hj; simpa using this
theorem RM_n (h : RM (σ.2 13) 0 q) : σ.2 13 0 = nI (qn q) := h.1
theorem lm_0 (σ : pv_S) : pv_la σ 13 0 = σ.2 13 0 := la_nI σ 13 (i := 0) (by decide)
theorem lm_k (σ : pv_S) {k : Nat} (hk : k < 2 ^ 31) : pv_la σ 13 (nI k) = σ.2 13 k := la_nI σ 13 hk
theorem gd_0 {α : Type} (x : Option α) : gd 0 874 x = x := gd_nI (i := 0) x (by decide) (by decide)
theorem e_X8_in (x lo hi : Int64) (σ : pv_S) : f_X8_in x lo hi σ = some (if lo.toInt ≤ x.toInt ∧ x.toInt ≤ hi.toInt then 1 else 0, σ) := by
  unfold f_X8_in
  by_cases h1 : x < lo
  · rw [if_pos ((lg_cmp_lt x lo).mpr h1)]
    have := Int64.lt_iff_toInt_lt.mp h1
    rw [if_neg (by omega)]
  · rw [if_neg (fun h => h1 ((lg_cmp_lt x lo).mp h))]
    have g1 : lo.toInt ≤ x.toInt := Int64.le_iff_toInt_le.mp (Int64.not_lt.mp h1)
    by_cases h2 : hi < x
    · rw [if_pos ((lg_cmp_gt x hi).mpr h2)]
      have := Int64.lt_iff_toInt_lt.mp h2
      rw [if_neg (by omega)]
    · rw [if_neg (fun h => h2 ((lg_cmp_gt x hi).mp h))]
      have g2 : x.toInt ≤ hi.toInt := Int64.le_iff_toInt_le.mp (Int64.not_lt.mp h2)
      rw [if_pos ⟨g1, g2⟩]
theorem i2l_toInt (x : Int32) : x.toInt64.toInt = x.toInt := by simp
theorem gz_1 {α : Type} (c : Prop) [Decidable c] (x : Option α) : gz (if c then (1 : Int32) else 0) x = x := by
  unfold gz
  by_cases h : c
  · rw [if_pos h, if_pos (Or.inr rfl)]
  · rw [if_neg h, if_pos (Or.inl rfl)]
theorem e_X8_off (hn : qn q ≤ 10) (h : RM (σ.2 13) 0 q) {i : Nat} (hi : i < qn q) : f_X8_off (nI i) σ = some (nI (qo q i + ql q i), σ) := by
  unfold f_X8_off
  simp (disch := omega) only [ad6, ad16, gd_nI, la_nI]
  rw [RM_on h hi, RM_len h hi, nI_add]
theorem e_X8_may (hw : WF q) (h : RM (σ.2 13) 0 q) {a b : Nat} (ha : a < qn q) (hb : b < qn q) : f_X8_may (nI a) (nI b) σ = some (if my q a b then 1 else 0, σ) := by
  have hn := hw.2.1.1
  have n1 := hw.2.1.2 a ha
  have n2 := hw.2.1.2 b hb
  have t4 := hw.1.2.2.2.2
  unfold f_X8_may
  rw [ad6, gd_nI _ (by omega) (by decide), e_X8_off hn h ha, Option.bind_some, e_X8_off hn h ha, Option.bind_some]
  dsimp only
  rw [show gd (5 : Int32) 874 = gd (nI 5) 874 from rfl, gd_nI _ (by decide) (by decide), e_X8_in, Option.bind_some]
  dsimp only
  rw [gz_1, lm_k σ (by omega), show pv_la σ 13 5 = σ.2 13 (1 + 4) from la_nI σ 13 (i := 5) (by decide), RM_on h hb, RM_t h (by decide), nI_add]
  simp only [i2l_toInt]
  rw [nI_toInt (by omega), nI_toInt (by omega), nI_toInt (by omega)]
  cases hm : my q a b with
  | false =>
    rw [if_neg]; rfl
    intro ⟨z1, z2⟩
    have : my q a b = true := my_iff.mpr ⟨hb, by omega, by omega⟩
    rw [hm] at this
    cases this
  | true =>
    have m1 := my_iff.mp hm
    rw [if_pos ⟨by have := m1.2.1; omega, by have := m1.2.2; omega⟩]; rfl
theorem ds_comm (a b : Nat) : ds a b = ds b a := by unfold ds; omega
theorem e_X8_costOf (hw : WF q) (h : RM (σ.2 13) 0 q) {a b : Nat} (ha : a < qn q) (hm : may q a b) : f_X8_costOf (nI a) (nI b) σ = some (nI (cs q a b), σ) := by
  have hb := hm.1
  have hn := hw.2.1.1
  have n1 := hw.2.1.2 a ha
  have n2 := hw.2.1.2 b hb
  unfold f_X8_costOf
  simp (disch := omega) only [ad26, gd_nI, la_nI]
  rw [RM_pit h ha, RM_pit h hb]
  have hd : ds (qp q b) (qp q a) < 2 ^ 31 := by unfold ds; omega
  have key : f_X8_costOf_30 (nI a) (nI b) (nI (ds (qp q b) (qp q a))) σ = some (nI (cs q a b), σ) := by
    unfold f_X8_costOf_30
    rw [show gd (1 : Int32) 874 = gd (nI 1) 874 from rfl, show gd (2 : Int32) 874 = gd (nI 2) 874 from rfl, show gd (3 : Int32) 874 = gd (nI 3) 874 from rfl, ad6]
    simp (disch := omega) only [gd_nI]
    rw [e_X8_off hn h ha, Option.bind_some, lm_k σ (by omega), RM_on h hb, show pv_la σ 13 1 = σ.2 13 (1 + 0) from la_nI σ 13 (i := 1) (by decide), show pv_la σ 13 2 = σ.2 13 (1 + 1) from la_nI σ 13 (i := 2) (by decide), RM_t h (by decide), RM_t h (by decide)]
    dsimp only
    rw [show pv_la σ 13 3 = σ.2 13 (1 + 2) from la_nI σ 13 (i := 3) (by decide), RM_t h (by decide), pk_sub hm.2.1, pk_mul, pk_mul, nI_add, nI_add]
    unfold cs
    by_cases h12 : 12 < ds (qp q b) (qp q a)
    · rw [if_neg (show ¬ nI (ds (qp q b) (qp q a)) ≤ 12 from nI_ge h12 hd), if_pos h12]
      congr 3
      rw [Nat.mul_comm (qt q 0), Nat.mul_comm (qt q 1)]
    · rw [if_pos (show nI (ds (qp q b) (qp q a)) ≤ 12 from nI_le (b := 12) (by omega) (by decide)), if_neg h12, p0]
      congr 3
      rw [Nat.mul_comm (qt q 0), Nat.mul_comm (qt q 1)]; rfl
  by_cases h0 : qp q b ≤ qp q a
  · rw [pk_sub h0, if_pos (nI_pos' (by omega)), show qp q a - qp q b = ds (qp q b) (qp q a) by unfold ds; omega, key]
  · have h0 : qp q a < qp q b := by omega
    rw [if_neg (Int32.not_le.mpr (pk_sneg (by omega) h0)), neg0, pk_sub (by omega), show qp q b - qp q a = ds (qp q b) (qp q a) by unfold ds; omega, key]
theorem e_X8_isNote (hn : qn q ≤ 10) (h : RM (σ.2 13) 0 q) {i : Nat} (hi : i < qn q) : f_X8_isNote (nI i) σ = some (1, σ) := by
  unfold f_X8_isNote
  rw [gd_0, lm_0, RM_n h, e_X8_in, Option.bind_some]
  dsimp only
  rw [gz_1]
  simp only [i2l_toInt]
  rw [show nI (qn q) - 1 = nI (qn q - 1) from pk_sub (b := 1) (by omega), nI_toInt (by omega), nI_toInt (by omega), if_pos]
  refine ⟨?_, by omega⟩
  show (0 : Int) ≤ _
  omega
theorem e_X8_isNoteN (hn : qn q ≤ 10) (h : RM (σ.2 13) 0 q) {x : Int32} (hx : ∀ i, i < qn q → x ≠ nI i) : f_X8_isNote x σ = some (0, σ) := by
  unfold f_X8_isNote
  rw [gd_0, lm_0, RM_n h, e_X8_in, Option.bind_some]
  dsimp only
  rw [gz_1]
  simp only [i2l_toInt]
  rw [if_neg]
  intro ⟨z1, z2⟩
  have z1 : (0 : Int) ≤ x.toInt := z1
  have z3 : (nI (qn q) - 1).toInt = (qn q : Int) - 1 := pk_sub_toInt (b := 1) (by omega) (by decide)
  rw [z3] at z2
  have hx0 : ¬ x < 0 := fun c => by have := Int32.lt_iff_toInt_lt.mp c; have e0 : (0 : Int32).toInt = 0 := rfl; omega
  obtain ⟨j, hj, rfl⟩ := nI_of hx0
  rw [nI_toInt hj] at z2
  exact hx j (by omega) rfl
end RMS
