/-! what voices are asked -/
def wb (q : Sc) (i : Nat) : Nat := (qx q i).elim 0 (cs q i)
def rb (q : Sc) (i : Nat) : Nat := (qx q i).elim 0 (fun y => qo q y - (qo q i + ql q i))
def sw (q : Sc) : Nat → Nat
  | 0 => 0
  | i + 1 => sw q i + wb q i
def ms (q : Sc) (v : Nat) : Nat → Nat → List Nat
  | 0, _ => []
  | d + 1, j => if vo q j = v then j :: ms q v d (j + 1) else ms q v d (j + 1)
def lowF (q : Sc) (acc i : Nat) : Nat := if qp q i < acc then qp q i else acc
def higF (q : Sc) (acc i : Nat) : Nat := if acc < qp q i then qp q i else acc
def sumF (f : Nat → Nat) : List Nat → Nat
  | [] => 0
  | a :: l => f a + sumF f l
def lsD : Nat → List Nat → Nat
  | la, [] => la
  | _, a :: l => lsD a l
theorem ms_s (q : Sc) (v d j : Nat) : ms q v (d + 1) j = if vo q j = v then j :: ms q v d (j + 1) else ms q v d (j + 1) := rfl
theorem sw_s (q : Sc) (i : Nat) : sw q (i + 1) = sw q i + wb q i := rfl
theorem ms_skip {q : Sc} {v : Nat} : ∀ (d j e : Nat), (∀ k, j ≤ k → k < j + d → vo q k ≠ v) → ms q v (d + e) j = ms q v e (j + d) := by
  intro d
  induction d with
  | zero => intro j e h; rw [Nat.zero_add]; rfl
  | succ d ih =>
    intro j e h
    rw [show d + 1 + e = (d + e) + 1 by omega, ms_s, if_neg (h j (Nat.le_refl _) (by omega)), ih (j + 1) e (fun k h1 h2 => h k (by omega) (by omega)), show j + 1 + d = j + (d + 1) by omega]
theorem ms_nil {q : Sc} {v : Nat} (d j : Nat) (h : ∀ k, j ≤ k → k < j + d → vo q k ≠ v) : ms q v d j = [] := by
  have := ms_skip d j 0 h
  simpa [ms] using this
theorem ms_nx {q : Sc} (hw : WF q) {v a : Nat} (ha : a < qn q) (hv : vo q a = v) : ms q v (qn q - a) a = a :: (qx q a).elim [] (fun y => ms q v (qn q - y) y) := by
  rw [show qn q - a = (qn q - (a + 1)) + 1 by omega, ms_s, if_pos hv]
  congr 1
  cases e : qx q a with
  | none =>
    refine ms_nil _ _ (fun k h1 h2 hk => ?_)
    obtain ⟨y, y1, -, -⟩ := vo_nx hw k a (by omega) (by omega) (by rw [hv, hk])
    rw [e] at y1; cases y1
  | some y =>
    have hy := hw.2.2.2.1 a y ha e
    have hay := may_lt hw ha hy
    have hyn := hy.1
    have := ms_skip (q := q) (v := v) (y - (a + 1)) (a + 1) (qn q - y) (fun k h1 h2 hk => by
      obtain ⟨y', y1, y2, -⟩ := vo_nx hw k a (by omega) (by omega) (by rw [hv, hk])
      rw [e] at y1; cases y1
      omega)
    rw [show y - (a + 1) + (qn q - y) = qn q - (a + 1) by omega, show a + 1 + (y - (a + 1)) = y by omega] at this
    exact this
theorem lsD_get : ∀ (l : List Nat) (a : Nat), (a :: l)[l.length]? = some (lsD a l) := by
  intro l
  induction l with
  | nil => intro a; rfl
  | cons b l ih => intro a; exact ih b
/-- the first of a voice -/
theorem fo_ex {q : Sc} : ∀ (d i v : Nat), cn q i ≤ v → v < cn q (i + d) → ∃ f, i ≤ f ∧ f < i + d ∧ pr q f = none ∧ cn q f = v := by
  intro d
  induction d with
  | zero => intro i v h1 h2; exact absurd h2 (by rw [Nat.add_zero]; omega)
  | succ d ih =>
    intro i v h1 h2
    by_cases hc : pr q i = none
    · rcases Nat.eq_or_lt_of_le h1 with e | e
      · exact ⟨i, Nat.le_refl _, by omega, hc, e⟩
      · obtain ⟨f, a1, a2, a3⟩ := ih (i + 1) v (by rw [cn_s, if_pos hc]; omega) (by rw [show i + 1 + d = i + (d + 1) by omega]; exact h2)
        exact ⟨f, by omega, by omega, a3⟩
    · obtain ⟨f, a1, a2, a3⟩ := ih (i + 1) v (by rw [cn_s, if_neg hc]; omega) (by rw [show i + 1 + d = i + (d + 1) by omega]; exact h2)
      exact ⟨f, by omega, by omega, a3⟩
theorem ms_fo {q : Sc} (hw : WF q) {f v : Nat} (hf : f < qn q) (h1 : pr q f = none) (h2 : cn q f = v) : ms q v (qn q) 0 = ms q v (qn q - f) f ∧ vo q f = v := by
  refine ⟨?_, by rw [vo_n h1, h2]⟩
  have := ms_skip (q := q) (v := v) f 0 (qn q - f) (fun k _ hk e => by
    have a := vo_lt hw k (by omega)
    have b : cn q (k + 1) ≤ cn q f := cn_mono q (by omega)
    omega)
  rw [show f + (qn q - f) = qn q by omega, Nat.zero_add] at this
  exact this
section VC
variable {σ : pv_S} {q : Sc}
theorem c_costBehind (hw : WF q) (h : RC (σ.2 0) 0 q) {i : Nat} (hi : i < qn q) : f_X4_costBehind (nI i) σ = some (nI (wb q i), σ) := by
  have hn := hw.2.1.1
  unfold f_X4_costBehind wb
  rw [e_X6_next hn h hi, Option.bind_some]
  cases e : qx q i with
  | none => rfl
  | some y =>
    have hy := hw.2.2.2.1 i y hi e
    have := hy.1
    dsimp only
    rw [en_s, if_neg (nI_nn1 (by omega)), e_X6_costToFollow hw h hi hy.1, Option.bind_some, my_iff.mpr hy]
    rfl
theorem c_costOfAll_16 (hw : WF q) (h : RC (σ.2 0) 0 q) (k : Nat) : ∀ (d fuel i : Nat), i + d = qn q → d < fuel → f_X4_costOfAll_16 fuel (nI (k + sw q i)) (nI i) σ = some (nI (k + sw q (qn q)), σ) := by
  have hn := hw.2.1.1
  intro d
  induction d with
  | zero =>
    intro fuel i hi hf
    cases fuel with
    | zero => omega
    | succ f =>
      unfold f_X4_costOfAll_16
      rw [e_X6_count h, Option.bind_some]
      dsimp only
      rw [if_pos (nI_le (by omega) (by omega)), show i = qn q by omega]
  | succ d ih =>
    intro fuel i hi hf
    cases fuel with
    | zero => omega
    | succ f =>
      unfold f_X4_costOfAll_16
      rw [e_X6_count h, Option.bind_some]
      dsimp only
      rw [if_neg (nI_ge (by omega) (by omega)), c_costBehind hw h (by omega), Option.bind_some]
      dsimp only
      rw [nI_add, p1, Nat.add_assoc, ← sw_s]
      exact ih f (i + 1) (by omega) (by omega)
theorem c_costOfAll (hw : WF q) (h : LN σ q) : f_X4_costOfAll σ = some (nI (cn q (qn q) * qt q 3 + sw q (qn q)), σ) := by
  have hn := hw.2.1.1
  unfold f_X4_costOfAll f_X4_countVoices
  rw [Option.bind_some]
  dsimp only
  rw [show (3 : Int32) = nI 3 from rfl, e_X6_valueOf h.1 (by decide), Option.bind_some, h.2.1]
  dsimp only
  rw [pk_mul]
  exact c_costOfAll_16 hw h.1 _ (qn q) pv_FU 0 (by omega) (by unfold pv_FU; omega)
theorem m_costNow_14 (hw : WF q) (h : RM (σ.2 13) 0 q) (k : Nat) : ∀ (d fuel i : Nat), i + d = qn q → d < fuel → f_X8_costNow_14 fuel (nI (k + sw q i)) (nI i) σ = some (nI (k + sw q (qn q)), σ) := by
  have hn := hw.2.1.1
  intro d
  induction d with
  | zero =>
    intro fuel i hi hf
    cases fuel with
    | zero => omega
    | succ f =>
      unfold f_X8_costNow_14
      rw [gd_0, lm_0, h.1, if_pos (nI_le (by omega) (by omega)), show i = qn q by omega]
  | succ d ih =>
    intro fuel i hi hf
    cases fuel with
    | zero => omega
    | succ f =>
      unfold f_X8_costNow_14
      rw [gd_0, lm_0, h.1, if_neg (nI_ge (by omega) (by omega)), ad36]
      simp (disch := omega) only [gd_nI, la_nI]
      rw [RM_nx h (by omega)]
      have := ih f (i + 1) (by omega) (by omega)
      rw [sw_s] at this
      have ewb : wb q i = (qx q i).elim 0 (cs q i) := rfl
      cases e : qx q i with
      | none =>
        rw [ewb, e] at this
        rw [en_n, if_neg (by decide), p0, p1]
        exact this
      | some y =>
        have hy := hw.2.2.2.1 i y (by omega) e
        have hy1 := hy.1
        rw [ewb, e] at this
        rw [en_s, if_pos (nI_pos' (by omega)), e_X8_costOf hw h (by omega) hy, Option.bind_some]
        dsimp only
        rw [nI_add, p1, Nat.add_assoc]
        exact this
end VC
section VC2
variable {σ : pv_S} {q : Sc}
theorem m_costNow (hw : WF q) (h : RM (σ.2 13) 0 q) : f_X8_costNow σ = some (nI (cn q (qn q) * qt q 3 + sw q (qn q)), σ) := by
  have hn := hw.2.1.1
  unfold f_X8_costNow
  rw [m_voices hw h, Option.bind_some, show gd (4 : Int32) 874 = gd (nI 4) 874 from rfl, gd_nI _ (by decide) (by decide)]
  dsimp only
  rw [show pv_la σ 13 4 = σ.2 13 (1 + 3) from la_nI σ 13 (i := 4) (by decide), RM_t h (by decide), pk_mul]
  exact m_costNow_14 hw h _ (qn q) pv_FU 0 (by omega) (by unfold pv_FU; omega)
theorem c_isIn (hw : WF q) (h : LN σ q) {v i : Nat} (hv : v < 2 ^ 31) (hi : i < qn q) : f_X4_isIn (nI v) (nI i) σ = some (if vo q i = v then 1 else 0, σ) := by
  have hn := hw.2.1.1
  have hl := vo_lt hw i hi
  have hc := cn_le q (i + 1)
  unfold f_X4_isIn
  rw [e_X6_has hn h.1 hi, Option.bind_some, if_neg c10, gd_nI _ (by omega) (by decide)]
  dsimp only
  rw [la_nI _ _ (by omega), h.2.2.2 i hi]
  by_cases e : vo q i = v
  · rw [if_pos (by rw [e]), if_pos e]
  · rw [if_neg (fun z => e ((nI_eq (by omega) hv).mp z)), if_neg e]
theorem c_size_4 (hw : WF q) (h : LN σ q) {v : Nat} (hv : v < 2 ^ 31) : ∀ (d fuel j acc : Nat), j + d = qn q → d < fuel → f_X4_size_4 fuel (nI v) (nI acc) (nI j) σ = some (nI (acc + (ms q v d j).length), σ) := by
  have hn := hw.2.1.1
  intro d
  induction d with
  | zero =>
    intro fuel j acc hi hf
    cases fuel with
    | zero => omega
    | succ f =>
      unfold f_X4_size_4
      rw [e_X6_count h.1, Option.bind_some]
      dsimp only
      rw [if_pos (nI_le (by omega) (by omega))]; rfl
  | succ d ih =>
    intro fuel j acc hi hf
    cases fuel with
    | zero => omega
    | succ f =>
      unfold f_X4_size_4 ms
      rw [e_X6_count h.1, Option.bind_some]
      dsimp only
      rw [if_neg (nI_ge (by omega) (by omega)), c_isIn hw h hv (by omega), Option.bind_some]
      dsimp only
      by_cases e : vo q j = v
      · rw [if_pos e, if_pos e, if_neg c10, p1, p1, ih f (j + 1) (acc + 1) (by omega) (by omega), List.length_cons]
        congr 3; omega
      · rw [if_neg e, if_neg e, if_pos rfl, p1, ih f (j + 1) acc (by omega) (by omega)]
theorem c_size (hw : WF q) (h : LN σ q) {v : Nat} (hv : v < 2 ^ 31) : f_X4_size (nI v) σ = some (nI (ms q v (qn q) 0).length, σ) := by
  have := c_size_4 hw h hv (qn q) pv_FU 0 0 (by omega) (by have := hw.2.1.1; unfold pv_FU; omega)
  rw [Nat.zero_add] at this
  exact this
theorem c_noteOf_5 (hw : WF q) (h : LN σ q) {v i : Nat} (hv : v < 2 ^ 31) (hi : i < 2 ^ 31) : ∀ (d fuel j seen : Nat), j + d = qn q → d < fuel → seen ≤ i → seen + d < 2 ^ 31 → f_X4_noteOf_5 fuel (nI v) (nI i) (nI seen) (nI j) σ = some (en ((ms q v d j)[i - seen]?), σ) := by
  have hn := hw.2.1.1
  intro d
  induction d with
  | zero =>
    intro fuel j seen h1 hf h2 h3
    cases fuel with
    | zero => omega
    | succ f =>
      unfold f_X4_noteOf_5
      rw [e_X6_count h.1, Option.bind_some]
      dsimp only
      rw [if_pos (nI_le (by omega) (by omega))]; rfl
  | succ d ih =>
    intro fuel j seen h1 hf h2 h3
    cases fuel with
    | zero => omega
    | succ f =>
      unfold f_X4_noteOf_5 ms
      rw [e_X6_count h.1, Option.bind_some]
      dsimp only
      rw [if_neg (nI_ge (by omega) (by omega)), c_isIn hw h hv (by omega), Option.bind_some]
      dsimp only
      by_cases e : vo q j = v
      · rw [if_pos e, if_pos e, if_neg c10]
        by_cases e2 : seen = i
        · rw [if_pos (by rw [e2]), show i - seen = 0 by omega]; rfl
        · rw [if_neg (fun z => e2 ((nI_eq (by omega) hi).mp z)), p1, p1, ih f (j + 1) (seen + 1) (by omega) (by omega) (by omega) (by omega), show i - seen = (i - (seen + 1)) + 1 by omega]
          rfl
      · rw [if_neg e, if_neg e, if_pos rfl, p1, ih f (j + 1) seen (by omega) (by omega) h2 (by omega)]
theorem c_noteOf (hw : WF q) (h : LN σ q) {v i : Nat} (hv : v < 2 ^ 31) (hi : i < 2 ^ 31) : f_X4_noteOf (nI v) (nI i) σ = some (en ((ms q v (qn q) 0)[i]?), σ) := by
  have hn := hw.2.1.1
  exact c_noteOf_5 hw h hv hi (qn q) pv_FU 0 0 (by omega) (by unfold pv_FU; omega) (by omega) (by omega)
theorem c_lowest_16 (hw : WF q) (h : LN σ q) {v : Nat} (hv : v < 2 ^ 31) : ∀ (d fuel j acc : Nat), j + d = qn q → d < fuel → acc < 2 ^ 31 → f_X4_lowest_16 fuel (nI v) (nI acc) (nI j) σ = some (nI ((ms q v d j).foldl (lowF q) acc), σ) := by
  have hn := hw.2.1.1
  intro d
  induction d with
  | zero =>
    intro fuel j acc hi hf ha
    cases fuel with
    | zero => omega
    | succ f =>
      unfold f_X4_lowest_16
      rw [e_X6_count h.1, Option.bind_some]
      dsimp only
      rw [if_pos (nI_le (by omega) (by omega))]; rfl
  | succ d ih =>
    intro fuel j acc hi hf ha
    cases fuel with
    | zero => omega
    | succ f =>
      have n1 := hw.2.1.2 j (by omega)
      unfold f_X4_lowest_16 ms
      rw [e_X6_count h.1, Option.bind_some]
      dsimp only
      rw [if_neg (nI_ge (by omega) (by omega)), c_isIn hw h hv (by omega), Option.bind_some]
      dsimp only
      by_cases e : vo q j = v
      · rw [if_pos e, if_pos e, if_neg c10, e_X6_pitch hn h.1 (by omega), Option.bind_some, p1]
        dsimp only
        have e2 : (if nI (qp q j) < nI acc then nI (qp q j) else nI acc) = nI (lowF q acc j) := by
          unfold lowF
          by_cases c : qp q j < acc
          · rw [if_pos c, if_pos (nI_lt c ha)]
          · rw [if_neg c, if_neg (nI_nlt (by omega) (by omega))]
        rw [e2, ih f (j + 1) _ (by omega) (by omega) (by unfold lowF; split <;> omega)]
        rfl
      · rw [if_neg e, if_neg e, if_pos rfl, p1, ih f (j + 1) acc (by omega) (by omega) ha]
theorem c_highest_16 (hw : WF q) (h : LN σ q) {v : Nat} (hv : v < 2 ^ 31) : ∀ (d fuel j acc : Nat), j + d = qn q → d < fuel → acc < 2 ^ 31 → f_X4_highest_16 fuel (nI v) (nI acc) (nI j) σ = some (nI ((ms q v d j).foldl (higF q) acc), σ) := by
  have hn := hw.2.1.1
  intro d
  induction d with
  | zero =>
    intro fuel j acc hi hf ha
    cases fuel with
    | zero => omega
    | succ f =>
      unfold f_X4_highest_16
      rw [e_X6_count h.1, Option.bind_some]
      dsimp only
      rw [if_pos (nI_le (by omega) (by omega))]; rfl
  | succ d ih =>
    intro fuel j acc hi hf ha
    cases fuel with
    | zero => omega
    | succ f =>
      have n1 := hw.2.1.2 j (by omega)
      unfold f_X4_highest_16 ms
      rw [e_X6_count h.1, Option.bind_some]
      dsimp only
      rw [if_neg (nI_ge (by omega) (by omega)), c_isIn hw h hv (by omega), Option.bind_some]
      dsimp only
      by_cases e : vo q j = v
      · rw [if_pos e, if_pos e, if_neg c10, e_X6_pitch hn h.1 (by omega), Option.bind_some, p1]
        dsimp only
        have e2 : (if nI acc < nI (qp q j) then nI (qp q j) else nI acc) = nI (higF q acc j) := by
          unfold higF
          by_cases c : acc < qp q j
          · rw [if_pos c, if_pos (nI_lt c (by omega))]
          · rw [if_neg c, if_neg (nI_nlt (by omega) ha)]
        rw [e2, ih f (j + 1) _ (by omega) (by omega) (by unfold higF; split <;> omega)]
        rfl
      · rw [if_neg e, if_neg e, if_pos rfl, p1, ih f (j + 1) acc (by omega) (by omega) ha]
theorem c_rests_4 (hw : WF q) (h : LN σ q) {v : Nat} (hv : v < 2 ^ 31) : ∀ (d fuel j acc : Nat), j + d = qn q → d < fuel → f_X4_rests_4 fuel (nI v) (nI acc) (nI j) σ = some (nI (acc + sumF (rb q) (ms q v d j)), σ) := by
  have hn := hw.2.1.1
  intro d
  induction d with
  | zero =>
    intro fuel j acc hi hf
    cases fuel with
    | zero => omega
    | succ f =>
      unfold f_X4_rests_4
      rw [e_X6_count h.1, Option.bind_some]
      dsimp only
      rw [if_pos (nI_le (by omega) (by omega))]; rfl
  | succ d ih =>
    intro fuel j acc hi hf
    cases fuel with
    | zero => omega
    | succ f =>
      have hj : j < qn q := by omega
      unfold f_X4_rests_4 ms
      rw [e_X6_count h.1, Option.bind_some]
      dsimp only
      rw [if_neg (nI_ge (by omega) (by omega)), e_X6_next hn h.1 hj, Option.bind_some]
      dsimp only
      rw [c_isIn hw h hv hj, Option.bind_some]
      dsimp only
      by_cases e : vo q j = v
      · rw [if_pos e, if_pos e, if_neg c10]
        have hr : sumF (rb q) (j :: ms q v d (j + 1)) = rb q j + sumF (rb q) (ms q v d (j + 1)) := rfl
        rw [hr]
        cases ex : qx q j with
        | none =>
          rw [en_n, if_pos rfl, p1, ih f (j + 1) acc (by omega) (by omega)]
          have : rb q j = 0 := by unfold rb; rw [ex]; rfl
          rw [this, Nat.zero_add]
        | some y =>
          have hy := hw.2.2.2.1 j y hj ex
          have hy1 := hy.1
          rw [en_s, if_neg (nI_nn1 (by omega)), e_X6_on hn h.1 hy.1, Option.bind_some]
          dsimp only
          rw [e_X6_off hn h.1 hj, Option.bind_some]
          dsimp only
          rw [pk_sub hy.2.1, nI_add, p1, ih f (j + 1) _ (by omega) (by omega)]
          have : rb q j = qo q y - (qo q j + ql q j) := by unfold rb; rw [ex]; rfl
          rw [this, Nat.add_assoc]
      · rw [if_neg e, if_neg e, if_pos rfl, p1, ih f (j + 1) acc (by omega) (by omega)]
theorem c_costOf_11 (hw : WF q) (h : LN σ q) {v : Nat} (hv : v < 2 ^ 31) : ∀ (d fuel j acc : Nat), j + d = qn q → d < fuel → f_X4_costOf_11 fuel (nI v) (nI acc) (nI j) σ = some (nI (acc + sumF (wb q) (ms q v d j)), σ) := by
  have hn := hw.2.1.1
  intro d
  induction d with
  | zero =>
    intro fuel j acc hi hf
    cases fuel with
    | zero => omega
    | succ f =>
      unfold f_X4_costOf_11
      rw [e_X6_count h.1, Option.bind_some]
      dsimp only
      rw [if_pos (nI_le (by omega) (by omega))]; rfl
  | succ d ih =>
    intro fuel j acc hi hf
    cases fuel with
    | zero => omega
    | succ f =>
      have hj : j < qn q := by omega
      unfold f_X4_costOf_11 ms
      rw [e_X6_count h.1, Option.bind_some]
      dsimp only
      rw [if_neg (nI_ge (by omega) (by omega)), c_isIn hw h hv hj, Option.bind_some]
      dsimp only
      by_cases e : vo q j = v
      · rw [if_pos e, if_pos e, if_neg c10, c_costBehind hw h.1 hj, Option.bind_some]
        dsimp only
        rw [nI_add, p1, ih f (j + 1) _ (by omega) (by omega)]
        have hr : sumF (wb q) (j :: ms q v d (j + 1)) = wb q j + sumF (wb q) (ms q v d (j + 1)) := rfl
        rw [hr, Nat.add_assoc]
      · rw [if_neg e, if_neg e, if_pos rfl, p1, ih f (j + 1) acc (by omega) (by omega)]
/-! the model's -/
theorem m_firstOf_4 (hw : WF q) (h : RM (σ.2 13) 0 q) {v : Nat} (hv : v < cn q (qn q)) : ∀ (d fuel i : Nat), i + d = qn q → d < fuel → cn q i ≤ v → ∃ f, f_X8_firstOf_4 fuel (nI v) (nI (cn q i)) (nI i) σ = some (nI f, σ) ∧ f < qn q ∧ pr q f = none ∧ cn q f = v := by
  have hn := hw.2.1.1
  have hcn := cn_le q (qn q)
  intro d
  induction d with
  | zero =>
    intro fuel i hi hf hc
    exfalso
    rw [show i = qn q by omega] at hc
    omega
  | succ d ih =>
    intro fuel i hi hf hc
    cases fuel with
    | zero => omega
    | succ f =>
      unfold f_X8_firstOf_4
      rw [gd_0, lm_0, h.1, if_neg (nI_ge (by omega) (by omega)), m_prior hw h (by omega), Option.bind_some]
      dsimp only
      by_cases hp : pr q i = none
      · rw [if_pos ((en_n1 hw i).mpr hp)]
        by_cases e : cn q i = v
        · rw [if_pos (by rw [e])]
          exact ⟨i, rfl, by omega, hp, e⟩
        · rw [if_neg (fun z => e ((nI_eq (by omega) (by omega)).mp z)), p1, p1]
          have := ih f (i + 1) (by omega) (by omega) (by rw [cn_s, if_pos hp]; omega)
          rw [cn_s, if_pos hp] at this
          exact this
      · rw [if_neg (fun z => hp ((en_n1 hw i).mp z)), p1]
        have := ih f (i + 1) (by omega) (by omega) (by rw [cn_s, if_neg hp]; omega)
        rw [cn_s, if_neg hp] at this
        exact this
theorem m_firstOf (hw : WF q) (h : RM (σ.2 13) 0 q) {v : Nat} (hv : v < cn q (qn q)) : ∃ f, f_X8_firstOf (nI v) σ = some (nI f, σ) ∧ f < qn q ∧ pr q f = none ∧ cn q f = v :=
  m_firstOf_4 hw h hv (qn q) pv_FU 0 (by omega) (by have := hw.2.1.1; unfold pv_FU; omega) (Nat.zero_le _)
def pk7 (p many first last low high rest cost : Int32) : Int32 := if p = 0 then many else if p = 1 then first else if p = 2 then last else if p = 3 then low else if p = 4 then high else if p = 5 then rest else cost
def cl (q : Sc) (v : Nat) (x : Option Nat) : List Nat := x.elim [] (fun y => ms q v (qn q - y) y)
theorem m_ofVoice_34 (hw : WF q) (h : RM (σ.2 13) 0 q) (p1' f0 : Int32) {v : Nat} : ∀ (fuel : Nat) (x : Option Nat) (m la lo hi re co : Nat), (∀ a, x = some a → a < qn q ∧ vo q a = v ∧ qn q - a < fuel) → 0 < fuel → lo < 2 ^ 31 → hi < 2 ^ 31 → f_X8_ofVoice_34 fuel f0 p1' (nI m) (nI la) (nI lo) (nI hi) (nI re) (nI co) (en x) σ = some (pk7 p1' (nI (m + (cl q v x).length)) f0 (nI (lsD la (cl q v x))) (nI ((cl q v x).foldl (lowF q) lo)) (nI ((cl q v x).foldl (higF q) hi)) (nI (re + sumF (rb q) (cl q v x))) (nI (co + sumF (wb q) (cl q v x))), σ) := by
  have hn := hw.2.1.1
  intro fuel
  induction fuel with
  | zero => intro x m la lo hi re co _ h0; omega
  | succ f ih =>
    intro x m la lo hi re co hx _ hlo hhi
    unfold f_X8_ofVoice_34
    cases x with
    | none =>
      rw [if_pos (show en none < 0 by decide)]
      unfold pk7 cl
      repeat' split
      all_goals rfl
    | some a =>
      obtain ⟨ha, hv, hf⟩ := hx a rfl
      have n1 := hw.2.1.2 a ha
      rw [en_s, if_neg (nI_pos (by omega)), ad36, ad26]
      simp (disch := omega) only [gd_nI, la_nI]
      rw [RM_pit h ha, RM_nx h ha]
      have ecl : cl q v (some a) = a :: cl q v (qx q a) := ms_nx hw ha hv
      rw [ecl]
      have low : (if nI lo ≤ nI (qp q a) then f_X8_ofVoice_88 (f_X8_ofVoice_34 f) f0 p1' (nI m + 1) (nI a) (nI hi) (nI re) (nI co) (nI a) (en (qx q a)) (nI lo) σ else f_X8_ofVoice_88 (f_X8_ofVoice_34 f) f0 p1' (nI m + 1) (nI a) (nI hi) (nI re) (nI co) (nI a) (en (qx q a)) (nI (qp q a)) σ) = f_X8_ofVoice_88 (f_X8_ofVoice_34 f) f0 p1' (nI m + 1) (nI a) (nI hi) (nI re) (nI co) (nI a) (en (qx q a)) (nI (lowF q lo a)) σ := by
        unfold lowF
        by_cases c : qp q a < lo
        · rw [if_neg (nI_ge c hlo), if_pos c]
        · rw [if_pos (nI_le (by omega) (by omega)), if_neg c]
      rw [low]
      unfold f_X8_ofVoice_88
      rw [ad26]
      simp (disch := omega) only [gd_nI, la_nI]
      rw [RM_pit h ha]
      have hig : (if nI (qp q a) ≤ nI hi then f_X8_ofVoice_120 (f_X8_ofVoice_34 f) f0 p1' (nI m + 1) (nI a) (nI (lowF q lo a)) (nI re) (nI co) (nI a) (en (qx q a)) (nI hi) σ else f_X8_ofVoice_120 (f_X8_ofVoice_34 f) f0 p1' (nI m + 1) (nI a) (nI (lowF q lo a)) (nI re) (nI co) (nI a) (en (qx q a)) (nI (qp q a)) σ) = f_X8_ofVoice_120 (f_X8_ofVoice_34 f) f0 p1' (nI m + 1) (nI a) (nI (lowF q lo a)) (nI re) (nI co) (nI a) (en (qx q a)) (nI (higF q hi a)) σ := by
        unfold higF
        by_cases c : hi < qp q a
        · rw [if_neg (nI_ge c (by omega)), if_pos c]
        · rw [if_pos (nI_le (by omega) hhi), if_neg c]
      rw [hig]
      have hlo' : lowF q lo a < 2 ^ 31 := by unfold lowF; split <;> omega
      have hhi' : higF q hi a < 2 ^ 31 := by unfold higF; split <;> omega
      have fin : ∀ (x : Option Nat), qx q a = x → f_X8_ofVoice_34 f f0 p1' (nI (m + 1)) (nI a) (nI (lowF q lo a)) (nI (higF q hi a)) (nI (re + rb q a)) (nI (co + wb q a)) (en x) σ = some (pk7 p1' (nI (m + (a :: cl q v x).length)) f0 (nI (lsD la (a :: cl q v x))) (nI ((a :: cl q v x).foldl (lowF q) lo)) (nI ((a :: cl q v x).foldl (higF q) hi)) (nI (re + sumF (rb q) (a :: cl q v x))) (nI (co + sumF (wb q) (a :: cl q v x))), σ) := fun x ex => by
        rw [ih x (m + 1) a _ _ _ _ (fun b hb => by
          have e2 : qx q a = some b := by rw [ex, hb]
          have hy := hw.2.2.2.1 a b ha e2
          have := may_lt hw ha hy
          exact ⟨hy.1, by rw [vo_of hw ha e2, hv], by have := hy.1; omega⟩) (by omega) hlo' hhi']
        rw [List.length_cons, List.foldl_cons, List.foldl_cons]
        have s1 : sumF (rb q) (a :: cl q v x) = rb q a + sumF (rb q) (cl q v x) := rfl
        have s2 : sumF (wb q) (a :: cl q v x) = wb q a + sumF (wb q) (cl q v x) := rfl
        have s3 : lsD la (a :: cl q v x) = lsD a (cl q v x) := rfl
        rw [s1, s2, s3, show m + 1 + (cl q v x).length = m + ((cl q v x).length + 1) by omega, Nat.add_assoc re, Nat.add_assoc co]
      unfold f_X8_ofVoice_120
      cases ex : qx q a with
      | none =>
        have r0 : rb q a = 0 := by unfold rb; rw [ex]; rfl
        have w0 : wb q a = 0 := by unfold wb; rw [ex]; rfl
        rw [en_n, if_neg (by decide)]
        unfold f_X8_ofVoice_150
        rw [if_neg (by decide)]
        unfold f_X8_ofVoice_172
        rw [ad36, gd_nI _ (by omega) (by decide), la_nI _ _ (by omega), RM_nx h ha, p0, p0, p1, ex]
        have := fin none ex
        rw [r0, w0] at this
        exact this
      | some y =>
        have hy := hw.2.2.2.1 a y ha ex
        have hy1 := hy.1
        have r0 : rb q a = qo q y - (qo q a + ql q a) := by unfold rb; rw [ex]; rfl
        have w0 : wb q a = cs q a y := by unfold wb; rw [ex]; rfl
        rw [en_s, if_pos (nI_pos' (by omega)), ad6, gd_nI _ (by omega) (by decide), e_X8_off hn h ha, Option.bind_some]
        dsimp only
        rw [la_nI _ _ (by omega), RM_on h hy.1, pk_sub hy.2.1]
        unfold f_X8_ofVoice_150
        rw [if_pos (nI_pos' (by omega)), e_X8_costOf hw h ha hy, Option.bind_some]
        dsimp only
        unfold f_X8_ofVoice_172
        rw [ad36, gd_nI _ (by omega) (by decide), la_nI _ _ (by omega), RM_nx h ha, nI_add, nI_add, p1, ex]
        have := fin (some y) ex
        rw [r0, w0] at this
        exact this
theorem m_member_35 (hw : WF q) (h : RM (σ.2 13) 0 q) {v i : Nat} (hi : i < 2 ^ 31) : ∀ (fuel : Nat) (x : Option Nat) (k : Nat), (∀ a, x = some a → a < qn q ∧ vo q a = v ∧ qn q - a < fuel) → 0 < fuel → k ≤ i → f_X8_member_35 fuel (nI i) (en x) (nI k) σ = some (en ((cl q v x)[i - k]?), σ) := by
  have hn := hw.2.1.1
  intro fuel
  induction fuel with
  | zero => intro x k _ h0; omega
  | succ f ih =>
    intro x k hx _ hk
    unfold f_X8_member_35
    by_cases hik : i ≤ k
    · rw [if_pos (nI_le hik (by omega)), show i - k = 0 by omega]
      cases x with
      | none => rfl
      | some a =>
        obtain ⟨ha, hv, -⟩ := hx a rfl
        rw [show cl q v (some a) = a :: cl q v (qx q a) from ms_nx hw ha hv]; rfl
    · rw [if_neg (nI_ge (by omega) hi)]
      cases x with
      | none => rw [if_pos (show en none < 0 by decide)]; rfl
      | some a =>
        obtain ⟨ha, hv, hf⟩ := hx a rfl
        rw [en_s, if_neg (nI_pos (by omega)), ad36, gd_nI _ (by omega) (by decide), la_nI _ _ (by omega), RM_nx h ha, p1]
        rw [ih (qx q a) (k + 1) (fun b hb => by
          have hy := hw.2.2.2.1 a b ha hb
          have := may_lt hw ha hy
          exact ⟨hy.1, by rw [vo_of hw ha hb, hv], by have := hy.1; omega⟩) (by omega) (by omega)]
        rw [show cl q v (some a) = a :: cl q v (qx q a) from ms_nx hw ha hv, show i - k = (i - (k + 1)) + 1 by omega]
        rfl
end VC2
