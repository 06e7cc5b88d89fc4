/-! lines that cross, and their mending -/
def crB (q : Sc) (a c b d : Nat) : Bool := decide (qo q a < qo q d) && decide (qo q c < qo q b) && (decide (qp q a < qp q c) && decide (qp q d < qp q b) || decide (qp q c < qp q a) && decide (qp q b < qp q d))
def cr (q : Sc) (a c : Nat) : Bool := (qx q a).elim false (fun b => (qx q c).elim false (fun d => crB q a c b d))
def mb (q : Sc) (a c : Nat) : Bool := cr q a c && (qx q c).elim false (my q a) && (qx q a).elim false (my q c)
def cI' (q : Sc) (a : Nat) : Nat → Nat → Nat → Nat
  | 0, _, acc => acc
  | d + 1, c, acc => cI' q a d (c + 1) (if cr q a c then acc + 1 else acc)
def cO' (q : Sc) : Nat → Nat → Nat → Nat
  | 0, _, acc => acc
  | d + 1, a, acc => cO' q d (a + 1) (cI' q a (qn q - (a + 1)) (a + 1) acc)
def fI (q : Sc) (a : Nat) : Nat → Nat → Option Nat
  | 0, _ => none
  | d + 1, c => if mb q a c then some c else fI q a d (c + 1)
def fO (q : Sc) : Nat → Nat → Option (Nat × Nat)
  | 0, _ => none
  | d + 1, a => (fI q a (qn q - (a + 1)) (a + 1)).elim (fO q d (a + 1)) (fun c => some (a, c))
def fm (q : Sc) : Option (Nat × Nat) := fO q (qn q) 0
def sw2 (q : Sc) (a c : Nat) : Sc := (qn q, qt q, qo q, ql q, qp q, fun i => if i = a then qx q c else if i = c then qx q a else qx q i)
def md : Nat → Sc → Nat × Sc
  | 0, q => (0, q)
  | k + 1, q => (fm q).elim (0, q) (fun ac => ((md k (sw2 q ac.1 ac.2)).1 + 1, (md k (sw2 q ac.1 ac.2)).2))
theorem fI_s {q : Sc} {a : Nat} : ∀ (d c : Nat) {x : Nat}, fI q a d c = some x → c ≤ x ∧ x < c + d ∧ mb q a x = true := by
  intro d
  induction d with
  | zero => intro c x h; cases h
  | succ d ih =>
    intro c x h
    unfold fI at h
    by_cases e : mb q a c = true
    · rw [if_pos e] at h; cases h; exact ⟨Nat.le_refl _, by omega, e⟩
    · rw [if_neg e] at h
      have := ih (c + 1) h
      exact ⟨by omega, by omega, this.2.2⟩
theorem fO_s {q : Sc} : ∀ (d a : Nat) {x y : Nat}, a + d = qn q → fO q d a = some (x, y) → x < y ∧ y < qn q ∧ mb q x y = true := by
  intro d
  induction d with
  | zero => intro a x y _ h; cases h
  | succ d ih =>
    intro a x y hd h
    unfold fO at h
    cases e : fI q a (qn q - (a + 1)) (a + 1) with
    | none => rw [e] at h; exact ih (a + 1) (by omega) h
    | some c =>
      rw [e] at h
      cases h
      have := fI_s _ _ e
      exact ⟨by omega, by omega, this.2.2⟩
theorem fm_s {q : Sc} {x y : Nat} (h : fm q = some (x, y)) : x < y ∧ y < qn q ∧ mb q x y = true := fO_s (qn q) 0 (by omega) h
theorem mb_s {q : Sc} {a c : Nat} (h : mb q a c = true) : ∃ b d, qx q a = some b ∧ qx q c = some d ∧ my q a d = true ∧ my q c b = true := by
  unfold mb at h
  simp only [Bool.and_eq_true] at h
  cases ea : qx q a with
  | none => rw [ea] at h; exact absurd h.2 (by simp)
  | some b =>
    cases ec : qx q c with
    | none => rw [ec] at h; exact absurd h.1.2 (by simp)
    | some d =>
      rw [ea, ec] at h
      exact ⟨b, d, rfl, rfl, h.1.2, h.2⟩
theorem WF_sw2 {q : Sc} (hw : WF q) {a c : Nat} (hac : a < c) (hc : c < qn q) (hm : mb q a c = true) : WF (sw2 q a c) := by
  obtain ⟨b, d, ea, ec, m1, m2⟩ := mb_s hm
  obtain ⟨hT, hN, hS, hX1, hX2⟩ := hw
  refine ⟨hT, hN, hS, fun i j hi hx => ?_, fun i k j hi hk hx hy => ?_⟩
  · have hx : (if i = a then qx q c else if i = c then qx q a else qx q i) = some j := hx
    show may q i j
    by_cases h1 : i = a
    · rw [if_pos h1, ec] at hx; cases hx; rw [h1]; exact my_iff.mp m1
    · rw [if_neg h1] at hx
      by_cases h2 : i = c
      · rw [if_pos h2, ea] at hx; cases hx; rw [h2]; exact my_iff.mp m2
      · rw [if_neg h2] at hx; exact hX1 i j hi hx
  · have hx : (if i = a then qx q c else if i = c then qx q a else qx q i) = some j := hx
    have hy : (if k = a then qx q c else if k = c then qx q a else qx q k) = some j := hy
    have hi : i < qn q := hi
    have hk : k < qn q := hk
    have key : ∀ i, i < qn q → (if i = a then qx q c else if i = c then qx q a else qx q i) = some j → qx q (if i = a then c else if i = c then a else i) = some j := fun i _ h => by
      by_cases h1 : i = a
      · rw [if_pos h1] at h ⊢; exact h
      · rw [if_neg h1] at h ⊢
        by_cases h2 : i = c
        · rw [if_pos h2] at h ⊢; exact h
        · rw [if_neg h2] at h ⊢; exact h
    have bd : ∀ i, i < qn q → (if i = a then c else if i = c then a else i) < qn q := fun i hi => by
      repeat' split
      all_goals omega
    have := hX2 _ _ j (bd i hi) (bd k hk) (key i hi hx) (key k hk hy)
    repeat' split at this
    all_goals omega
theorem md_z (q : Sc) : md 0 q = (0, q) := rfl
theorem md_n {q : Sc} (k : Nat) (h : fm q = none) : md (k + 1) q = (0, q) := by unfold md; rw [h]; rfl
theorem md_y {q : Sc} (k : Nat) {a c : Nat} (h : fm q = some (a, c)) : md (k + 1) q = ((md k (sw2 q a c)).1 + 1, (md k (sw2 q a c)).2) := by
  conv => lhs; unfold md
  rw [h]; rfl
theorem WF_md : ∀ (k : Nat) (q : Sc), WF q → WF (md k q).2 := by
  intro k
  induction k with
  | zero => intro q h; exact h
  | succ k ih =>
    intro q h
    cases e : fm q with
    | none => rw [md_n k e]; exact h
    | some ac =>
      obtain ⟨a, c⟩ := ac
      rw [md_y k e]
      have := fm_s e
      exact ih _ (WF_sw2 h this.1 this.2.1 this.2.2)
theorem RC_sw2 {c' : Nat → Int32} {q : Sc} (h : RC c' 0 q) {a c : Nat} (hac : a < c) (hc : c < qn q) : RC (upd (upd c' (9 + 4 * a) (en (qx q c))) (9 + 4 * c) (en (qx q a))) 0 (sw2 q a c) := by
  refine ⟨?_, fun j hj => ?_, fun i hi => ?_⟩
  · rw [upd_n _ _ (by omega), upd_n _ _ (by omega)]; exact h.1
  · rw [upd_n _ _ (by omega), upd_n _ _ (by omega)]; exact h.2.1 j hj
  · obtain ⟨a1, a2, a3, a4⟩ := h.2.2 i hi
    refine ⟨?_, ?_, ?_, ?_⟩
    · rw [upd_n _ _ (by omega), upd_n _ _ (by omega)]; exact a1
    · rw [upd_n _ _ (by omega), upd_n _ _ (by omega)]; exact a2
    · rw [upd_n _ _ (by omega), upd_n _ _ (by omega)]; exact a3
    · show _ = en (if i = a then qx q c else if i = c then qx q a else qx q i)
      rw [upd_ap, upd_ap]
      by_cases e1 : i = a
      · rw [if_pos e1, if_neg (by omega), if_pos (by omega)]
      · rw [if_neg e1]
        by_cases e2 : i = c
        · rw [if_pos e2, if_pos (by omega)]
        · rw [if_neg e2, if_neg (by omega), if_neg (by omega)]; exact a4
theorem RM_sw2 {w : Nat → Int32} {q : Sc} (h : RM w 0 q) (hn : qn q ≤ 10) {a c : Nat} (hac : a < c) (hc : c < qn q) : RM (upd (upd w (36 + a) (en (qx q c))) (36 + c) (en (qx q a))) 0 (sw2 q a c) := by
  refine ⟨?_, fun j hj => ?_, fun i hi => ?_⟩
  · rw [upd_n _ _ (by omega), upd_n _ _ (by omega)]; exact h.1
  · rw [upd_n _ _ (by omega), upd_n _ _ (by omega)]; exact h.2.1 j hj
  · have hi2 : i < qn q := hi
    obtain ⟨a1, a2, a3, a4⟩ := h.2.2 i hi
    refine ⟨?_, ?_, ?_, ?_⟩
    · rw [upd_n _ _ (by omega), upd_n _ _ (by omega)]; exact a1
    · rw [upd_n _ _ (by omega), upd_n _ _ (by omega)]; exact a2
    · rw [upd_n _ _ (by omega), upd_n _ _ (by omega)]; exact a3
    · show _ = en (if i = a then qx q c else if i = c then qx q a else qx q i)
      rw [upd_ap, upd_ap]
      by_cases e1 : i = a
      · rw [if_pos e1, if_neg (by omega), if_pos (by omega)]
      · rw [if_neg e1]
        by_cases e2 : i = c
        · rw [if_pos e2, if_pos (by omega)]
        · rw [if_neg e2, if_neg (by omega), if_neg (by omega)]; exact a4
theorem sg_le {x y : Nat} (hx : x < 2 ^ 30) (hy : y < 2 ^ 30) : 0 ≤ nI x - nI y ↔ y ≤ x := by
  rw [Int32.le_iff_toInt_le, pk_sub_toInt hx hy]
  show (0 : Int) ≤ _ ↔ _
  omega
theorem sg_lt {x y : Nat} (hx : x < 2 ^ 30) (hy : y < 2 ^ 30) : 0 < nI x - nI y ↔ y < x := by
  rw [Int32.lt_iff_toInt_lt, pk_sub_toInt hx hy]
  show (0 : Int) < _ ↔ _
  omega
theorem sg_ge {x y : Nat} (hx : x < 2 ^ 30) (hy : y < 2 ^ 30) : nI x - nI y ≤ 0 ↔ x ≤ y := by
  rw [Int32.le_iff_toInt_le, pk_sub_toInt hx hy]
  show _ ≤ (0 : Int) ↔ _
  omega
section MD
variable {σ : pv_S} {q : Sc}
theorem c_cross (hw : WF q) (h : RC (σ.2 0) 0 q) {a c : Nat} (ha : a < qn q) (hc : c < qn q) : f_X4_cross (nI a) (nI c) σ = some (if cr q a c then 1 else 0, σ) := by
  have hn := hw.2.1.1
  unfold f_X4_cross cr
  rw [e_X6_next hn h ha, Option.bind_some]
  dsimp only
  rw [e_X6_next hn h hc, Option.bind_some]
  dsimp only
  cases ea : qx q a with
  | none => rw [en_n, if_pos rfl]; rfl
  | some b =>
    have hb := (hw.2.2.2.1 a b ha ea).1
    rw [en_s, if_neg (nI_nn1 (by omega))]
    cases ec : qx q c with
    | none => rw [en_n, if_pos rfl]; rfl
    | some d =>
      have hd := (hw.2.2.2.1 c d hc ec).1
      have na := hw.2.1.2 a ha
      have nb := hw.2.1.2 b hb
      have nc := hw.2.1.2 c hc
      have nd := hw.2.1.2 d hd
      rw [en_s, if_neg (nI_nn1 (by omega)), e_X6_on hn h ha, Option.bind_some]
      dsimp only
      rw [e_X6_on hn h hd, Option.bind_some]
      dsimp only
      have ecr : (some b).elim false (fun b => (some d).elim false (fun d => crB q a c b d)) = crB q a c b d := rfl
      rw [ecr]
      unfold crB
      by_cases h1 : qo q a < qo q d
      · rw [if_neg (nI_ge h1 (by omega)), e_X6_on hn h hc, Option.bind_some]
        dsimp only
        rw [e_X6_on hn h hb, Option.bind_some]
        dsimp only
        by_cases h2 : qo q c < qo q b
        · rw [if_pos (nI_lt h2 (by omega)), e_X6_pitch hn h ha, Option.bind_some]
          dsimp only
          rw [e_X6_pitch hn h hc, Option.bind_some]
          dsimp only
          rw [e_X6_pitch hn h hb, Option.bind_some]
          dsimp only
          rw [e_X6_pitch hn h hd, Option.bind_some]
          dsimp only
          unfold f_X4_cross_122
          simp only [sg_le (x := qp q a) (y := qp q c) (by omega) (by omega), sg_lt (x := qp q b) (y := qp q d) (by omega) (by omega), sg_ge (x := qp q a) (y := qp q c) (by omega) (by omega), sg_le (x := qp q b) (y := qp q d) (by omega) (by omega), h1, h2, decide_true, Bool.true_and, Bool.or_eq_true, Bool.and_eq_true, decide_eq_true_eq]
          repeat' split
          all_goals first | rfl | (exfalso; omega)
        · rw [if_neg (nI_nlt (by omega) (by omega))]
          simp only [h2, decide_false, Bool.and_false, Bool.false_and]
          rfl
      · rw [if_pos (nI_le (by omega) (by omega))]
        simp only [h1, decide_false, Bool.false_and]
        rfl
theorem m_cross (hw : WF q) (h : RM (σ.2 13) 0 q) {a c : Nat} (ha : a < qn q) (hc : c < qn q) (hac : a ≠ c) : f_X8_cross (nI a) (nI c) σ = some (if cr q a c then 1 else 0, σ) := by
  have hn := hw.2.1.1
  unfold f_X8_cross cr
  simp (disch := omega) only [ad36, gd_nI, la_nI]
  rw [RM_nx h ha, RM_nx h hc, if_neg (fun z => hac ((nI_eq (by omega) (by omega)).mp z))]
  cases ea : qx q a with
  | none => rw [en_n, if_pos (by decide)]; rfl
  | some b =>
    have hb := (hw.2.2.2.1 a b ha ea).1
    rw [en_s, if_neg (nI_pos (by omega))]
    cases ec : qx q c with
    | none => rw [en_n, if_pos (by decide)]; rfl
    | some d =>
      have hd := (hw.2.2.2.1 c d hc ec).1
      have na := hw.2.1.2 a ha
      have nb := hw.2.1.2 b hb
      have nc := hw.2.1.2 c hc
      have nd := hw.2.1.2 d hd
      rw [en_s, if_neg (nI_pos (by omega))]
      unfold f_X8_cross_128
      simp (disch := omega) only [ad6, ad26, gd_nI, la_nI]
      rw [RM_on h ha, RM_on h hd, RM_on h hc, RM_on h hb, RM_pit h ha, RM_pit h hc, RM_pit h hb, RM_pit h hd]
      have ecr : (some b).elim false (fun b => (some d).elim false (fun d => crB q a c b d)) = crB q a c b d := rfl
      rw [ecr]
      unfold crB
      simp only [nI_leI (a := qo q d) (b := qo q a) (by omega) (by omega), nI_ltI (a := qo q c) (b := qo q b) (by omega) (by omega), nI_leI (a := qp q c) (b := qp q a) (by omega) (by omega), nI_leI (a := qp q b) (b := qp q d) (by omega) (by omega), nI_leI (a := qp q a) (b := qp q c) (by omega) (by omega), nI_leI (a := qp q d) (b := qp q b) (by omega) (by omega), Bool.or_eq_true, Bool.and_eq_true, decide_eq_true_eq]
      simp only [if_true, c10, if_false]
      repeat' split
      all_goals first | rfl | (exfalso; omega)
/-! how many cross -/
theorem c_crossings_19 (hw : WF q) (h : RC (σ.2 0) 0 q) (K : Int32 → Int32 → pv_S → Option (Int32 × pv_S)) {a : Nat} (ha : a < qn q) : ∀ (d fuel c acc : Nat), c + d = qn q → d < fuel → f_X4_crossings_19 K fuel (nI acc) (nI a) (nI c) σ = K (nI (cI' q a d c acc)) (nI (a + 1)) σ := by
  have hn := hw.2.1.1
  intro d
  induction d with
  | zero =>
    intro fuel c acc hi hf
    cases fuel with
    | zero => omega
    | succ f =>
      unfold f_X4_crossings_19
      rw [e_X6_count h, Option.bind_some]
      dsimp only
      rw [if_pos (nI_le (by omega) (by omega)), p1]; rfl
  | succ d ih =>
    intro fuel c acc hi hf
    cases fuel with
    | zero => omega
    | succ f =>
      unfold f_X4_crossings_19
      rw [e_X6_count h, Option.bind_some]
      dsimp only
      rw [if_neg (nI_ge (by omega) (by omega)), c_cross hw h ha (by omega), Option.bind_some]
      dsimp only
      have hs : cI' q a (d + 1) c acc = cI' q a d (c + 1) (if cr q a c then acc + 1 else acc) := rfl
      rw [hs]
      by_cases e : cr q a c = true
      · rw [if_pos e, if_pos e, if_neg c10, p1, p1]; exact ih f (c + 1) (acc + 1) (by omega) (by omega)
      · rw [if_neg e, if_neg e, if_pos rfl, p1]; exact ih f (c + 1) acc (by omega) (by omega)
theorem c_crossings_4 (hw : WF q) (h : RC (σ.2 0) 0 q) : ∀ (d fuel a acc : Nat), a + d = qn q → d < fuel → f_X4_crossings_4 fuel (nI acc) (nI a) σ = some (nI (cO' q d a acc), σ) := by
  have hn := hw.2.1.1
  intro d
  induction d with
  | zero =>
    intro fuel c acc hi hf
    cases fuel with
    | zero => omega
    | succ f =>
      unfold f_X4_crossings_4
      rw [e_X6_count h, Option.bind_some]
      dsimp only
      rw [if_pos (nI_le (by omega) (by omega))]; rfl
  | succ d ih =>
    intro fuel a acc hi hf
    cases fuel with
    | zero => omega
    | succ f =>
      unfold f_X4_crossings_4
      rw [e_X6_count h, Option.bind_some]
      dsimp only
      rw [if_neg (nI_ge (by omega) (by omega)), p1, c_crossings_19 hw h _ (by omega) (qn q - (a + 1)) pv_FU (a + 1) acc (by omega) (by unfold pv_FU; omega)]
      exact ih f (a + 1) _ (by omega) (by omega)
theorem c_crossings (hw : WF q) (h : RC (σ.2 0) 0 q) : f_X4_crossings σ = some (nI (cO' q (qn q) 0 0), σ) :=
  c_crossings_4 hw h (qn q) pv_FU 0 0 (by omega) (by have := hw.2.1.1; unfold pv_FU; omega)
theorem m_crossings_18 (hw : WF q) (h : RM (σ.2 13) 0 q) (K : Int32 → Int32 → pv_S → Option (Int32 × pv_S)) {a : Nat} (ha : a < qn q) : ∀ (d fuel c acc : Nat), c + d = qn q → a < c → d < fuel → f_X8_crossings_18 K fuel (nI acc) (nI a) (nI c) σ = K (nI (cI' q a d c acc)) (nI (a + 1)) σ := by
  have hn := hw.2.1.1
  intro d
  induction d with
  | zero =>
    intro fuel c acc hi hac hf
    cases fuel with
    | zero => omega
    | succ f =>
      unfold f_X8_crossings_18
      rw [gd_0, lm_0, h.1, if_pos (nI_le (by omega) (by omega)), p1]; rfl
  | succ d ih =>
    intro fuel c acc hi hac hf
    cases fuel with
    | zero => omega
    | succ f =>
      unfold f_X8_crossings_18
      rw [gd_0, lm_0, h.1, if_neg (nI_ge (by omega) (by omega)), m_cross hw h ha (by omega) (by omega), Option.bind_some]
      dsimp only
      have hs : cI' q a (d + 1) c acc = cI' q a d (c + 1) (if cr q a c then acc + 1 else acc) := rfl
      rw [hs]
      by_cases e : cr q a c = true
      · rw [if_pos e, if_pos e, if_neg c10, p1, p1]; exact ih f (c + 1) (acc + 1) (by omega) (by omega) (by omega)
      · rw [if_neg e, if_neg e, if_pos rfl, p1, p0]; exact ih f (c + 1) acc (by omega) (by omega) (by omega)
theorem m_crossings_4 (hw : WF q) (h : RM (σ.2 13) 0 q) : ∀ (d fuel a acc : Nat), a + d = qn q → d < fuel → f_X8_crossings_4 fuel (nI acc) (nI a) σ = some (nI (cO' q d a acc), σ) := by
  have hn := hw.2.1.1
  intro d
  induction d with
  | zero =>
    intro fuel c acc hi hf
    cases fuel with
    | zero => omega
    | succ f =>
      unfold f_X8_crossings_4
      rw [gd_0, lm_0, h.1, if_pos (nI_le (by omega) (by omega))]; rfl
  | succ d ih =>
    intro fuel a acc hi hf
    cases fuel with
    | zero => omega
    | succ f =>
      unfold f_X8_crossings_4
      rw [gd_0, lm_0, h.1, if_neg (nI_ge (by omega) (by omega)), p1, m_crossings_18 hw h _ (by omega) (qn q - (a + 1)) pv_FU (a + 1) acc (by omega) (by omega) (by unfold pv_FU; omega)]
      exact ih f (a + 1) _ (by omega) (by omega)
theorem m_crossings (hw : WF q) (h : RM (σ.2 13) 0 q) : f_X8_crossings σ = some (nI (cO' q (qn q) 0 0), σ) :=
  m_crossings_4 hw h (qn q) pv_FU 0 0 (by omega) (by have := hw.2.1.1; unfold pv_FU; omega)
/-! mending -/
theorem c_canMend (hw : WF q) (h : RC (σ.2 0) 0 q) {a c : Nat} (ha : a < qn q) (hc : c < qn q) : f_X4_canMend (nI a) (nI c) σ = some (if mb q a c then 1 else 0, σ) := by
  have hn := hw.2.1.1
  unfold f_X4_canMend mb
  rw [c_cross hw h ha hc, Option.bind_some]
  dsimp only
  cases e : cr q a c with
  | false => rfl
  | true =>
    have : ∃ b d, qx q a = some b ∧ qx q c = some d := by
      unfold cr at e
      cases ea : qx q a with
      | none => rw [ea] at e; cases e
      | some b =>
        cases ec : qx q c with
        | none => rw [ea, ec] at e; cases e
        | some d => exact ⟨b, d, rfl, rfl⟩
    obtain ⟨b, d, ea, ec⟩ := this
    have hb := (hw.2.2.2.1 a b ha ea).1
    have hd := (hw.2.2.2.1 c d hc ec).1
    simp only [if_true]
    rw [if_neg c10, e_X6_next hn h hc, Option.bind_some, ec]
    dsimp only
    rw [en_s, e_X6_mayFollow hw h ha hd, Option.bind_some]
    dsimp only
    have e1 : (some d).elim false (my q a) = my q a d := rfl
    rw [e1]
    cases m1 : my q a d with
    | false => rfl
    | true =>
      simp only [if_true]
      rw [if_neg c10, e_X6_next hn h ha, Option.bind_some, ea]
      dsimp only
      rw [en_s, e_X6_mayFollow hw h hc hb, Option.bind_some]
      dsimp only
      have e2 : (some b).elim false (my q c) = my q c b := rfl
      rw [e2]
      cases m2 : my q c b with
      | false => rfl
      | true => rfl
theorem c_mendFirst_17 (hw : WF q) (h : RC (σ.2 0) 0 q) (K : Int32 → pv_S → Option (Int32 × pv_S)) {a : Nat} (ha : a < qn q) : ∀ (d fuel c : Nat), c + d = qn q → a < c → d < fuel → f_X4_mendFirst_17 K fuel (nI a) (nI c) σ = (fI q a d c).elim (K (nI (a + 1)) σ) (fun c => some (1, pv_pa σ 0 (upd (upd (σ.2 0) (9 + 4 * a) (en (qx q c))) (9 + 4 * c) (en (qx q a))))) := by
  have hn := hw.2.1.1
  intro d
  induction d with
  | zero =>
    intro fuel c hi hac hf
    cases fuel with
    | zero => omega
    | succ f =>
      unfold f_X4_mendFirst_17
      rw [e_X6_count h, Option.bind_some]
      dsimp only
      rw [if_pos (nI_le (by omega) (by omega)), p1]; rfl
  | succ d ih =>
    intro fuel c hi hac hf
    cases fuel with
    | zero => omega
    | succ f =>
      unfold f_X4_mendFirst_17
      rw [e_X6_count h, Option.bind_some]
      dsimp only
      rw [if_neg (nI_ge (by omega) (by omega)), c_canMend hw h ha (by omega), Option.bind_some]
      dsimp only
      have hs : fI q a (d + 1) c = if mb q a c then some c else fI q a d (c + 1) := rfl
      rw [hs]
      by_cases e : mb q a c = true
      · rw [if_pos e, if_pos e, if_neg c10, e_X6_next hn h ha, Option.bind_some]
        dsimp only
        rw [e_X6_next hn h (by omega), Option.bind_some]
        dsimp only
        rw [h_link hn h.1 ha, Option.bind_some, h_link hn (n := qn q) (by rw [pa_2s, upd_n _ _ (by omega)]; exact h.1) (by omega), Option.bind_some, pa_pa, pa_2s]
        rfl
      · rw [if_neg e, if_neg e, if_pos rfl, p1]; exact ih f (c + 1) (by omega) (by omega) (by omega)
theorem c_mendFirst_2 (hw : WF q) (h : RC (σ.2 0) 0 q) : ∀ (d fuel a : Nat), a + d = qn q → d < fuel → f_X4_mendFirst_2 fuel (nI a) σ = (fO q d a).elim (some (0, σ)) (fun ac => some (1, pv_pa σ 0 (upd (upd (σ.2 0) (9 + 4 * ac.1) (en (qx q ac.2))) (9 + 4 * ac.2) (en (qx q ac.1))))) := by
  have hn := hw.2.1.1
  intro d
  induction d with
  | zero =>
    intro fuel a hi hf
    cases fuel with
    | zero => omega
    | succ f =>
      unfold f_X4_mendFirst_2
      rw [e_X6_count h, Option.bind_some]
      dsimp only
      rw [if_pos (nI_le (by omega) (by omega))]; rfl
  | succ d ih =>
    intro fuel a hi hf
    cases fuel with
    | zero => omega
    | succ f =>
      unfold f_X4_mendFirst_2
      rw [e_X6_count h, Option.bind_some]
      dsimp only
      rw [if_neg (nI_ge (by omega) (by omega)), p1, c_mendFirst_17 hw h _ (by omega) (qn q - (a + 1)) pv_FU (a + 1) (by omega) (by omega) (by unfold pv_FU; omega)]
      have hs : fO q (d + 1) a = (fI q a (qn q - (a + 1)) (a + 1)).elim (fO q d (a + 1)) (fun c => some (a, c)) := rfl
      rw [hs]
      cases e : fI q a (qn q - (a + 1)) (a + 1) with
      | none => exact ih f (a + 1) (by omega) (by omega)
      | some c => rfl
theorem c_mend_2 : ∀ (k fuel t : Nat) (σ : pv_S) (q : Sc), t + k = 50 → k < fuel → WF q → RC (σ.2 0) 0 q → ∃ c', f_X4_mendCrossings_2 fuel (nI t) σ = some (nI (t + (md k q).1), pv_pa σ 0 c') ∧ RC c' 0 (md k q).2 := by
  intro k
  induction k with
  | zero =>
    intro fuel t σ q ht hf hw h
    cases fuel with
    | zero => omega
    | succ f =>
      unfold f_X4_mendCrossings_2
      rw [if_pos (show (50 : Int32) ≤ nI t from nI_le (a := 50) (by omega) (by omega))]
      exact ⟨σ.2 0, by rw [pa_self, md_z]; rfl, h⟩
  | succ k ih =>
    intro fuel t σ q ht hf hw h
    cases fuel with
    | zero => omega
    | succ f =>
      unfold f_X4_mendCrossings_2 f_X4_mendFirst
      rw [if_neg (show ¬ (50 : Int32) ≤ nI t from nI_ge (b := 50) (by omega) (by decide)), show f_X4_mendFirst_2 pv_FU 0 σ = _ from c_mendFirst_2 hw h (qn q) pv_FU 0 (by omega) (by have := hw.2.1.1; unfold pv_FU; omega)]
      cases e : fm q with
      | none =>
        have e' : fO q (qn q) 0 = none := e
        rw [e', md_n k e]
        exact ⟨σ.2 0, by rw [pa_self]; rfl, h⟩
      | some ac =>
        obtain ⟨a, c⟩ := ac
        have e' : fO q (qn q) 0 = some (a, c) := e
        have hs := fm_s e
        rw [e', md_y k e]
        show ∃ c', Option.bind (some ((1 : Int32), pv_pa σ 0 (upd (upd (σ.2 0) (9 + 4 * a) (en (qx q c))) (9 + 4 * c) (en (qx q a))))) _ = _ ∧ _
        rw [Option.bind_some, if_neg c10, p1]
        obtain ⟨c', e1, e2⟩ := ih f (t + 1) (pv_pa σ 0 (upd (upd (σ.2 0) (9 + 4 * a) (en (qx q c))) (9 + 4 * c) (en (qx q a)))) (sw2 q a c) (by omega) (by omega) (WF_sw2 hw hs.1 hs.2.1 hs.2.2) (by rw [pa_2s]; exact RC_sw2 h hs.1 hs.2.1)
        rw [pa_pa] at e1
        exact ⟨c', by rw [e1]; congr 3; omega, e2⟩
theorem m_mendOne_16 (hw : WF q) (h : RM (σ.2 13) 0 q) (K : Int32 → pv_S → Option (Int32 × pv_S)) {a : Nat} (ha : a < qn q) : ∀ (d fuel c : Nat), c + d = qn q → a < c → d < fuel → f_X8_mendOne_16 K fuel (nI a) (nI c) σ = (fI q a d c).elim (K (nI (a + 1)) σ) (fun c => some (1, pv_pa σ 13 (upd (upd (σ.2 13) (36 + a) (en (qx q c))) (36 + c) (en (qx q a))))) := by
  have hn := hw.2.1.1
  intro d
  induction d with
  | zero =>
    intro fuel c hi hac hf
    cases fuel with
    | zero => omega
    | succ f =>
      unfold f_X8_mendOne_16
      rw [gd_0, lm_0, h.1, if_pos (nI_le (by omega) (by omega)), p1]; rfl
  | succ d ih =>
    intro fuel c hi hac hf
    cases fuel with
    | zero => omega
    | succ f =>
      have hc : c < qn q := by omega
      unfold f_X8_mendOne_16
      rw [gd_0, lm_0, h.1, if_neg (nI_ge (by omega) (by omega)), m_cross hw h ha hc (by omega), Option.bind_some]
      dsimp only
      have hs : fI q a (d + 1) c = if mb q a c then some c else fI q a d (c + 1) := rfl
      rw [hs]
      cases e : cr q a c with
      | false =>
        have : mb q a c = false := by unfold mb; rw [e]; rfl
        rw [this, p1]
        exact ih f (c + 1) (by omega) (by omega) (by omega)
      | true =>
        have : ∃ b d, qx q a = some b ∧ qx q c = some d := by
          unfold cr at e
          cases ea : qx q a with
          | none => rw [ea] at e; cases e
          | some b =>
            cases ec : qx q c with
            | none => rw [ea, ec] at e; cases e
            | some d => exact ⟨b, d, rfl, rfl⟩
        obtain ⟨b, d', ea, ec⟩ := this
        have hb := (hw.2.2.2.1 a b ha ea).1
        have hd := (hw.2.2.2.1 c d' hc ec).1
        have emb : mb q a c = (my q a d' && my q c b) := by unfold mb; rw [e, ea, ec]; simp
        simp only [if_true]
        rw [if_neg c10, emb]
        simp (disch := omega) only [ad36, gd_nI, la_nI]
        rw [RM_nx h hc, ec, en_s, e_X8_may hw h ha hd, Option.bind_some]
        dsimp only
        cases m1 : my q a d' with
        | false => rw [p1]; exact ih f (c + 1) (by omega) (by omega) (by omega)
        | true =>
          simp only [if_true]
          rw [if_neg c10, RM_nx h ha, ea, en_s, e_X8_may hw h hc hb, Option.bind_some]
          dsimp only
          cases m2 : my q c b with
          | false =>
            rw [p1]
            have := ih f (c + 1) (by omega) (by omega) (by omega)
            rw [ea, en_s] at this
            exact this
          | true =>
            simp only [if_true, Bool.and_true]
            rw [if_neg c10]
            simp (disch := omega) only [sa_nI]
            rw [RM_nx h hc, RM_nx h ha, pa_pa, pa_2s, ea]
            rfl
theorem m_mendOne_2 (hw : WF q) (h : RM (σ.2 13) 0 q) : ∀ (d fuel a : Nat), a + d = qn q → d < fuel → f_X8_mendOne_2 fuel (nI a) σ = (fO q d a).elim (some (0, σ)) (fun ac => some (1, pv_pa σ 13 (upd (upd (σ.2 13) (36 + ac.1) (en (qx q ac.2))) (36 + ac.2) (en (qx q ac.1))))) := by
  have hn := hw.2.1.1
  intro d
  induction d with
  | zero =>
    intro fuel a hi hf
    cases fuel with
    | zero => omega
    | succ f =>
      unfold f_X8_mendOne_2
      rw [gd_0, lm_0, h.1, if_pos (nI_le (by omega) (by omega))]; rfl
  | succ d ih =>
    intro fuel a hi hf
    cases fuel with
    | zero => omega
    | succ f =>
      unfold f_X8_mendOne_2
      rw [gd_0, lm_0, h.1, if_neg (nI_ge (by omega) (by omega)), p1, m_mendOne_16 hw h _ (by omega) (qn q - (a + 1)) pv_FU (a + 1) (by omega) (by omega) (by unfold pv_FU; omega)]
      have hs : fO q (d + 1) a = (fI q a (qn q - (a + 1)) (a + 1)).elim (fO q d (a + 1)) (fun c => some (a, c)) := rfl
      rw [hs]
      cases e : fI q a (qn q - (a + 1)) (a + 1) with
      | none => exact ih f (a + 1) (by omega) (by omega)
      | some c => rfl
theorem m_mend_6 : ∀ (k fuel t : Nat) (σ : pv_S) (q : Sc), t + k = 50 → k < fuel → WF q → RM (σ.2 13) 0 q → ∃ w, f_X8_mend_6 fuel (nI t) σ = some (nI (t + (md k q).1), pv_pa σ 13 w) ∧ RM w 0 (md k q).2 ∧ ∀ x, 46 ≤ x → w x = σ.2 13 x := by
  intro k
  induction k with
  | zero =>
    intro fuel t σ q ht hf hw h
    cases fuel with
    | zero => omega
    | succ f =>
      unfold f_X8_mend_6
      rw [if_pos (show (50 : Int32) ≤ nI t from nI_le (a := 50) (by omega) (by omega))]
      exact ⟨σ.2 13, by rw [pa_self, md_z]; rfl, h, fun _ _ => rfl⟩
  | succ k ih =>
    intro fuel t σ q ht hf hw h
    have hn := hw.2.1.1
    cases fuel with
    | zero => omega
    | succ f =>
      unfold f_X8_mend_6 f_X8_mendOne
      rw [if_neg (show ¬ (50 : Int32) ≤ nI t from nI_ge (b := 50) (by omega) (by decide)), show f_X8_mendOne_2 pv_FU 0 σ = _ from m_mendOne_2 hw h (qn q) pv_FU 0 (by omega) (by unfold pv_FU; omega)]
      cases e : fm q with
      | none =>
        have e' : fO q (qn q) 0 = none := e
        rw [e', md_n k e]
        exact ⟨σ.2 13, by rw [pa_self]; rfl, h, fun _ _ => rfl⟩
      | some ac =>
        obtain ⟨a, c⟩ := ac
        have e' : fO q (qn q) 0 = some (a, c) := e
        have hs := fm_s e
        rw [e', md_y k e]
        show ∃ w, Option.bind (some ((1 : Int32), pv_pa σ 13 (upd (upd (σ.2 13) (36 + a) (en (qx q c))) (36 + c) (en (qx q a))))) _ = _ ∧ _
        rw [Option.bind_some, if_neg c10, p1]
        obtain ⟨w, e1, e2, e3⟩ := ih f (t + 1) (pv_pa σ 13 (upd (upd (σ.2 13) (36 + a) (en (qx q c))) (36 + c) (en (qx q a)))) (sw2 q a c) (by omega) (by omega) (WF_sw2 hw hs.1 hs.2.1 hs.2.2) (by rw [pa_2s]; exact RM_sw2 h hn hs.1 hs.2.1)
        rw [pa_pa] at e1
        refine ⟨w, by rw [e1]; congr 3; omega, e2, fun x hx => ?_⟩
        rw [e3 x hx, pa_2s, upd_n _ _ (by omega), upd_n _ _ (by omega)]
end MD
