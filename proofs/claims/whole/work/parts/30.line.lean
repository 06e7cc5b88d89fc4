/-! who is ahead, voices -/
def prR (q : Sc) (j : Nat) : Nat → Option Nat
  | 0 => none
  | a + 1 => if qx q a = some j then some a else prR q j a
def pr (q : Sc) (j : Nat) : Option Nat := prR q j (qn q)
def cn (q : Sc) : Nat → Nat
  | 0 => 0
  | i + 1 => cn q i + (if pr q i = none then 1 else 0)
def voF (q : Sc) : Nat → Nat → Nat
  | 0, _ => 0
  | f + 1, j => (pr q j).elim (cn q j) (voF q f)
def vo (q : Sc) (j : Nat) : Nat := voF q (j + 1) j
theorem prR_s {q : Sc} {j : Nat} : ∀ {k i : Nat}, prR q j k = some i → i < k ∧ qx q i = some j := by
  intro k
  induction k with
  | zero => intro i h; cases h
  | succ k ih =>
    intro i h
    unfold prR at h
    by_cases hc : qx q k = some j
    · rw [if_pos hc] at h; cases h; exact ⟨by omega, hc⟩
    · rw [if_neg hc] at h
      have := ih h
      exact ⟨by omega, this.2⟩
theorem prR_n {q : Sc} {j : Nat} : ∀ {k : Nat}, prR q j k = none → ∀ i, i < k → qx q i ≠ some j := by
  intro k
  induction k with
  | zero => intro h i hi; omega
  | succ k ih =>
    intro h i hi
    unfold prR at h
    by_cases hc : qx q k = some j
    · rw [if_pos hc] at h; cases h
    · rw [if_neg hc] at h
      rcases Nat.lt_or_ge i k with e | e
      · exact ih h i e
      · rw [show i = k by omega]; exact hc
theorem pr_s {q : Sc} {j i : Nat} (h : pr q j = some i) : i < qn q ∧ qx q i = some j := prR_s h
theorem pr_of {q : Sc} (hw : WF q) {j i : Nat} (hi : i < qn q) (h : qx q i = some j) : pr q j = some i := by
  cases e : pr q j with
  | none => exact absurd h (prR_n e i hi)
  | some k =>
    have := pr_s e
    rw [hw.2.2.2.2 i k j hi this.1 h this.2]
theorem pr_lt {q : Sc} (hw : WF q) {j i : Nat} (h : pr q j = some i) : i < j ∧ j < qn q := by
  have h1 := pr_s h
  have h2 := hw.2.2.2.1 i j h1.1 h1.2
  exact ⟨may_lt hw h1.1 h2, h2.1⟩
theorem voF_st {q : Sc} (hw : WF q) : ∀ (j f : Nat), j < f → voF q f j = vo q j := by
  intro j
  induction j using Nat.strongRecOn with
  | ind j ih =>
    intro f hf
    cases f with
    | zero => omega
    | succ f =>
      unfold vo voF
      cases e : pr q j with
      | none => rfl
      | some p =>
        have := (pr_lt hw e).1
        show voF q f p = voF q j p
        rw [ih p this f (by omega), ih p this j this]
theorem vo_n {q : Sc} {j : Nat} (h : pr q j = none) : vo q j = cn q j := by
  unfold vo voF; rw [h]; rfl
theorem vo_s {q : Sc} (hw : WF q) {j p : Nat} (h : pr q j = some p) : vo q j = vo q p := by
  have h1 := (pr_lt hw h).1
  have : vo q j = voF q j p := by
    unfold vo; conv => lhs; unfold voF
    rw [h]; rfl
  rw [this, voF_st hw p j h1]
theorem cn_s (q : Sc) (i : Nat) : cn q (i + 1) = cn q i + (if pr q i = none then 1 else 0) := rfl
theorem cn_le (q : Sc) : ∀ i, cn q i ≤ i := by
  intro i
  induction i with
  | zero => exact Nat.le_refl 0
  | succ i ih => rw [cn_s]; split <;> omega
theorem cn_mono (q : Sc) {i j : Nat} (h : i ≤ j) : cn q i ≤ cn q j := by
  induction j with
  | zero => rw [show i = 0 by omega]; exact Nat.le_refl _
  | succ j ih =>
    rcases Nat.eq_or_lt_of_le h with e | e
    · rw [e]; exact Nat.le_refl _
    · have := ih (by omega)
      rw [cn_s]; omega
theorem vo_lt {q : Sc} (hw : WF q) : ∀ j, j < qn q → vo q j < cn q (j + 1) := by
  intro j
  induction j using Nat.strongRecOn with
  | ind j ih =>
    intro hj
    cases e : pr q j with
    | none => rw [vo_n e, cn_s, if_pos e]; omega
    | some p =>
      have h1 := (pr_lt hw e).1
      rw [vo_s hw e]
      exact Nat.lt_of_lt_of_le (ih p h1 (by omega)) (cn_mono q (by omega))
/-- of two notes in one voice the one ahead has a next, not behind the other -/
theorem vo_nx {q : Sc} (hw : WF q) : ∀ (b a : Nat), a < b → b < qn q → vo q a = vo q b → ∃ y, qx q a = some y ∧ y ≤ b ∧ vo q y = vo q a := by
  intro b
  induction b using Nat.strongRecOn with
  | ind b ih =>
    intro a hab hb he
    cases e : pr q b with
    | none =>
      exfalso
      have h1 := vo_lt hw a (by omega)
      have h2 : cn q (a + 1) ≤ cn q b := cn_mono q (by omega)
      rw [vo_n e] at he
      omega
    | some p =>
      have h1 := (pr_lt hw e).1
      have h2 := (pr_s e).2
      have h3 := vo_s hw e
      rcases Nat.lt_trichotomy p a with c | c | c
      · exfalso
        obtain ⟨y, y1, y2, -⟩ := ih a hab p c (by omega) (by rw [← h3, he])
        rw [h2] at y1
        cases y1
        omega
      · subst c; exact ⟨b, h2, Nat.le_refl _, h3⟩
      · obtain ⟨y, y1, y2, y3⟩ := ih p h1 a c (by omega) (by rw [he, h3])
        exact ⟨y, y1, by omega, y3⟩
theorem vo_of {q : Sc} (hw : WF q) {a y : Nat} (ha : a < qn q) (h : qx q a = some y) : vo q y = vo q a := vo_s hw (pr_of hw ha h)
section LN
variable {σ : pv_S} {q : Sc}
theorem en_eq (hw : WF q) {a i : Nat} (ha : a < qn q) (hi : i < 2 ^ 31) : en (qx q a) = nI i ↔ qx q a = some i := by
  constructor
  · intro h
    refine en_inj (fun j hj => ?_) (fun j hj => ?_) (h.trans (en_s i).symm)
    · have h1 := (hw.2.2.2.1 a j ha hj).1
      have := hw.2.1.1
      omega
    · cases hj; exact hi
  · intro h; rw [h]; rfl
theorem m_prior_4 (hw : WF q) (h : RM (σ.2 13) 0 q) {i : Nat} (hi : i < 2 ^ 31) : ∀ (d fuel a : Nat), a + d = qn q → d < fuel → f_X8_prior_4 fuel (nI i) (en (prR q i a)) (nI a) σ = some (en (pr q i), σ) := by
  have hn := hw.2.1.1
  intro d
  induction d with
  | zero =>
    intro fuel a ha hf
    cases fuel with
    | zero => omega
    | succ f =>
      unfold f_X8_prior_4
      rw [gd_0, lm_0, h.1, if_pos (nI_le (by omega) (by omega)), show a = qn q by omega]; rfl
  | succ d ih =>
    intro fuel a ha hf
    cases fuel with
    | zero => omega
    | succ f =>
      unfold f_X8_prior_4
      rw [gd_0, lm_0, h.1, if_neg (nI_ge (by omega) (by omega)), ad36, gd_nI _ (by omega) (by decide), lm_k _ (by omega), RM_nx h (by omega), p1]
      have := ih f (a + 1) (by omega) (by omega)
      unfold prR at this
      by_cases hc : qx q a = some i
      · rw [if_pos ((en_eq hw (by omega) hi).mpr hc)]
        rw [if_pos hc] at this
        exact this
      · rw [if_neg (fun e => hc ((en_eq hw (by omega) hi).mp e))]
        rw [if_neg hc] at this
        exact this
theorem m_prior (hw : WF q) (h : RM (σ.2 13) 0 q) {i : Nat} (hi : i < 2 ^ 31) : f_X8_prior (nI i) σ = some (en (pr q i), σ) :=
  m_prior_4 hw h hi (qn q) pv_FU 0 (by omega) (by have := hw.2.1.1; unfold pv_FU; omega)
theorem en_n1 (hw : WF q) (j : Nat) : (en (pr q j) = -1) ↔ pr q j = none := by
  cases e : pr q j with
  | none => exact ⟨fun _ => rfl, fun _ => rfl⟩
  | some p =>
    have h1 := (pr_lt hw e)
    have h2 := hw.2.1.1
    exact ⟨fun c => absurd c (nI_nn1 (by omega)), fun c => by cases c⟩
theorem m_voices_4 (hw : WF q) (h : RM (σ.2 13) 0 q) : ∀ (d fuel i : Nat), i + d = qn q → d < fuel → f_X8_voices_4 fuel (nI (cn q i)) (nI i) σ = some (nI (cn q (qn q)), σ) := by
  have hn := hw.2.1.1
  intro d
  induction d with
  | zero =>
    intro fuel i hi hf
    cases fuel with
    | zero => omega
    | succ f =>
      unfold f_X8_voices_4
      rw [gd_0, lm_0, h.1, if_pos (nI_le (by omega) (by omega)), show i = qn q by omega]
  | succ d ih =>
    intro fuel i hi hf
    cases fuel with
    | zero => omega
    | succ f =>
      unfold f_X8_voices_4
      rw [gd_0, lm_0, h.1, if_neg (nI_ge (by omega) (by omega)), m_prior hw h (by omega), Option.bind_some]
      dsimp only
      have := ih f (i + 1) (by omega) (by omega)
      rw [cn_s] at this
      by_cases hc : pr q i = none
      · rw [if_pos ((en_n1 hw i).mpr hc), p1, p1]
        rw [if_pos hc] at this
        exact this
      · rw [if_neg (fun e => hc ((en_n1 hw i).mp e)), p0, p1]
        rw [if_neg hc] at this
        exact this
theorem m_voices (hw : WF q) (h : RM (σ.2 13) 0 q) : f_X8_voices σ = some (nI (cn q (qn q)), σ) :=
  m_voices_4 hw h (qn q) pv_FU 0 (by omega) (by have := hw.2.1.1; unfold pv_FU; omega)
theorem m_voiceOf_25 (hw : WF q) (h : RM (σ.2 13) 0 q) {a : Nat} (ha : a < qn q) : ∀ (d fuel i : Nat), i + d = a → d < fuel → f_X8_voiceOf_25 fuel (nI a) (nI (cn q i)) (nI i) σ = some (nI (cn q a), σ) := by
  have hn := hw.2.1.1
  intro d
  induction d with
  | zero =>
    intro fuel i hi hf
    cases fuel with
    | zero => omega
    | succ f =>
      unfold f_X8_voiceOf_25
      rw [if_pos (nI_le (by omega) (by omega)), show i = a by omega]
  | succ d ih =>
    intro fuel i hi hf
    cases fuel with
    | zero => omega
    | succ f =>
      unfold f_X8_voiceOf_25
      rw [if_neg (nI_ge (by omega) (by omega)), m_prior hw h (by omega), Option.bind_some]
      dsimp only
      have := ih f (i + 1) (by omega) (by omega)
      rw [cn_s] at this
      by_cases hc : pr q i = none
      · rw [if_pos ((en_n1 hw i).mpr hc), p1, p1]
        rw [if_pos hc] at this
        exact this
      · rw [if_neg (fun e => hc ((en_n1 hw i).mp e)), p0, p1]
        rw [if_neg hc] at this
        exact this
theorem m_voiceOf_2 (hw : WF q) (h : RM (σ.2 13) 0 q) : ∀ (a fuel : Nat), a < qn q → a < fuel → f_X8_voiceOf_2 fuel (nI a) σ = some (nI (vo q a), σ) := by
  have hn := hw.2.1.1
  intro a
  induction a using Nat.strongRecOn with
  | ind a ih =>
    intro fuel ha hf
    cases fuel with
    | zero => omega
    | succ f =>
      unfold f_X8_voiceOf_2
      rw [m_prior hw h (by omega), Option.bind_some]
      dsimp only
      cases e : pr q a with
      | none =>
        rw [if_pos en_n, vo_n e]
        exact m_voiceOf_25 hw h ha a pv_FU 0 (by omega) (by unfold pv_FU; omega)
      | some p =>
        have h1 := (pr_lt hw e).1
        rw [en_s, if_neg (nI_nn1 (j := p) (by omega)), m_prior hw h (by omega), Option.bind_some, e]
        dsimp only
        rw [en_s, vo_s hw e]
        exact ih p h1 f (by omega) (by omega)
theorem m_voiceOf (hw : WF q) (h : RM (σ.2 13) 0 q) {a : Nat} (ha : a < qn q) : f_X8_voiceOf (nI a) σ = some (nI (vo q a), σ) :=
  m_voiceOf_2 hw h a pv_FU ha (by have := hw.2.1.1; unfold pv_FU; omega)
/-! the class reads -/
theorem c_fill (σ : pv_S) : ∀ (d fuel i : Nat) (f : Nat → Int32), i + d = 10 → d < fuel → (∀ j, j < i → f j = -1) → ∃ g, f_J7_fill_53178_10_5 fuel (-1) (nI i) 10 (pv_pa σ 1 f) = some (pv_pa σ 1 g) ∧ ∀ j, j < 10 → g j = -1 := by
  intro d
  induction d with
  | zero =>
    intro fuel i f hi hf hj
    cases fuel with
    | zero => omega
    | succ n =>
      unfold f_J7_fill_53178_10_5
      rw [if_pos (show (10 : Int32) ≤ nI i from nI_le (a := 10) (by omega) (by omega))]
      exact ⟨f, rfl, fun j h => hj j (by omega)⟩
  | succ d ih =>
    intro fuel i f hi hf hj
    cases fuel with
    | zero => omega
    | succ n =>
      unfold f_J7_fill_53178_10_5
      rw [if_neg (show ¬ (10 : Int32) ≤ nI i from nI_ge (b := 10) (by omega) (by decide)), gd_nI _ (by omega) (by decide), sa_nI _ _ _ (by omega), pa_pa, pa_2s, p1]
      exact ih n (i + 1) _ (by omega) (by omega) (fun j h => by
        rw [upd_ap]
        by_cases e : j = i
        · rw [if_pos e]
        · rw [if_neg e]; exact hj j (by omega))
theorem c_read_61 (hw : WF q) (h : RC (σ.2 0) 0 q) (A1 : Nat → Int32) (h1 : ∀ j, j < qn q → A1 j = en (pr q j)) : ∀ (d fuel i : Nat) (f : Nat → Int32), i + d = qn q → d < fuel → (∀ j, j < i → f j = nI (vo q j)) → ∃ g, f_X4_read_61 fuel (nI i) (pv_pi (pv_pa (pv_pa σ 1 A1) 2 f) 1 (nI (cn q i))) = some (pv_pi (pv_pa (pv_pa σ 1 A1) 2 g) 1 (nI (cn q (qn q)))) ∧ ∀ j, j < qn q → g j = nI (vo q j) := by
  have hn := hw.2.1.1
  intro d
  induction d with
  | zero =>
    intro fuel i f hi hf hj
    cases fuel with
    | zero => omega
    | succ n =>
      unfold f_X4_read_61
      rw [e_X6_count (q := q) (show RC ((pv_pi (pv_pa (pv_pa σ 1 A1) 2 f) 1 (nI (cn q i))).2 0) 0 q from h), Option.bind_some]
      dsimp only
      rw [if_pos (nI_le (by omega) (by omega)), show i = qn q by omega]
      exact ⟨f, rfl, fun j hj2 => hj j (by omega)⟩
  | succ d ih =>
    intro fuel i f hi hf hj
    cases fuel with
    | zero => omega
    | succ n =>
      unfold f_X4_read_61
      rw [e_X6_count (q := q) (show RC ((pv_pi (pv_pa (pv_pa σ 1 A1) 2 f) 1 (nI (cn q i))).2 0) 0 q from h), Option.bind_some]
      dsimp only
      rw [if_neg (nI_ge (by omega) (by omega)), if_neg (show ¬ (10 : Int32) ≤ nI i from nI_ge (b := 10) (by omega) (by decide)), gd_nI _ (by omega) (by decide), la_nI _ _ (by omega)]
      rw [show (pv_pi (pv_pa (pv_pa σ 1 A1) 2 f) 1 (nI (cn q i))).2 1 i = en (pr q i) from h1 i (by omega)]
      have st : ∀ x : Int32, pv_sa (pv_pi (pv_pa (pv_pa σ 1 A1) 2 f) 1 (nI (cn q i))) 2 (nI i) x = pv_pi (pv_pa (pv_pa σ 1 A1) 2 (upd f i x)) 1 (nI (cn q i)) := fun x => by
        rw [sa_nI _ _ _ (by omega)]
        show pv_pi (pv_pa (pv_pa (pv_pa σ 1 A1) 2 f) 2 (upd f i x)) 1 _ = _
        rw [pa_pa]
      cases e : pr q i with
      | none =>
        rw [if_pos (show en none < 0 by decide)]
        unfold f_X4_read_109
        rw [gd_nI _ (by omega) (by decide), st, p1]
        simp only [pi_1, if_pos, p1, pi_pi]
        have := ih n (i + 1) (upd f i (nI (cn q i))) (by omega) (by omega) (fun j h => by
          rw [upd_ap]
          by_cases c : j = i
          · rw [if_pos c, c, vo_n e]
          · rw [if_neg c]; exact hj j (by omega))
        rw [cn_s, if_pos e] at this
        exact this
      | some p =>
        have h2 := (pr_lt hw e).1
        rw [en_s, if_neg (nI_pos (by omega)), if_neg (nI_ge h2 (by omega)), gd_nI _ (by omega) (by decide), gd_nI _ (by omega) (by decide), la_nI _ _ (by omega), st, p1]
        have := ih n (i + 1) (upd f i (f p)) (by omega) (by omega) (fun j h => by
          rw [upd_ap]
          by_cases c : j = i
          · rw [if_pos c, c, vo_s hw e]; exact hj p h2
          · rw [if_neg c]; exact hj j (by omega))
        rw [cn_s, if_neg (by rw [e]; intro c; cases c)] at this
        exact this
theorem c_read_10 (hw : WF q) (h : RC (σ.2 0) 0 q) : ∀ (d fuel i : Nat) (f : Nat → Int32), i + d = qn q → d < fuel → (∀ j, j < qn q → f j = en (prR q j i)) → ∃ A1 A2, f_X4_read_10 fuel (nI i) (pv_pa σ 1 f) = some (pv_pi (pv_pa (pv_pa σ 1 A1) 2 A2) 1 (nI (cn q (qn q)))) ∧ (∀ j, j < qn q → A1 j = en (pr q j)) ∧ ∀ j, j < qn q → A2 j = nI (vo q j) := by
  have hn := hw.2.1.1
  intro d
  induction d with
  | zero =>
    intro fuel i f hi hf hj
    cases fuel with
    | zero => omega
    | succ n =>
      unfold f_X4_read_10
      rw [e_X6_count (q := q) (show RC ((pv_pa σ 1 f).2 0) 0 q from h), Option.bind_some]
      dsimp only
      rw [if_pos (nI_le (by omega) (by omega))]
      have h1 : ∀ j, j < qn q → f j = en (pr q j) := fun j hj2 => by rw [hj j hj2, show i = qn q by omega]; rfl
      obtain ⟨g, e1, e2⟩ := c_read_61 hw h f h1 (qn q) pv_FU 0 (σ.2 2) (by omega) (by unfold pv_FU; omega) (fun j hj => by omega)
      refine ⟨f, g, ?_, h1, e2⟩
      rw [show pv_pa (pv_pa σ 1 f) 2 (σ.2 2) = pv_pa σ 1 f from pa_self (pv_pa σ 1 f) 2] at e1
      exact e1
  | succ d ih =>
    intro fuel i f hi hf hj
    cases fuel with
    | zero => omega
    | succ n =>
      unfold f_X4_read_10
      rw [e_X6_count (q := q) (show RC ((pv_pa σ 1 f).2 0) 0 q from h), Option.bind_some]
      dsimp only
      rw [if_neg (nI_ge (by omega) (by omega)), e_X6_next (q := q) hn (show RC ((pv_pa σ 1 f).2 0) 0 q from h) (by omega), Option.bind_some]
      dsimp only
      cases e : qx q i with
      | none =>
        rw [en_n, h_hasM, Option.bind_some, if_pos rfl, p1]
        exact ih n (i + 1) f (by omega) (by omega) (fun j hj2 => by
          rw [hj j hj2]; show _ = en (if qx q i = some j then some i else prR q j i); rw [if_neg (by rw [e]; intro c; cases c)])
      | some y =>
        have hy := (hw.2.2.2.1 i y (by omega) e).1
        rw [en_s, e_X6_has (q := q) hn (show RC ((pv_pa σ 1 f).2 0) 0 q from h) hy, Option.bind_some, if_neg c10, gd_nI _ (by omega) (by decide)]
        dsimp only
        rw [sa_nI _ _ _ (by omega), pa_pa, pa_2s, p1]
        exact ih n (i + 1) _ (by omega) (by omega) (fun j hj2 => by
          show _ = en (if qx q i = some j then some i else prR q j i)
          rw [upd_ap]
          by_cases c : j = y
          · rw [if_pos c, if_pos (by rw [e, c])]; rfl
          · rw [if_neg c, if_neg (by rw [e]; intro z; cases z; exact c rfl)]; exact hj j hj2)
theorem c_read (hw : WF q) (h : RC (σ.2 0) 0 q) : ∃ A1 A2, f_X4_read σ = some (pv_pi (pv_pa (pv_pa σ 1 A1) 2 A2) 1 (nI (cn q (qn q)))) ∧ (∀ j, j < qn q → A1 j = en (pr q j)) ∧ ∀ j, j < qn q → A2 j = nI (vo q j) := by
  have hn := hw.2.1.1
  obtain ⟨g, e1, e2⟩ := c_fill σ 10 pv_FU 0 (σ.2 1) (by omega) (by unfold pv_FU; omega) (fun j hj => by omega)
  unfold f_X4_read f_J7_fill_53178_10
  rw [pa_self] at e1
  rw [show (0 : Int32) = nI 0 from rfl, e1, Option.bind_some]
  exact c_read_10 hw h (qn q) pv_FU 0 g (by omega) (by unfold pv_FU; omega) (fun j hj => by rw [e2 j (by omega)]; rfl)
/-- what stands behind read() -/
def LN (σ : pv_S) (q : Sc) : Prop := RC (σ.2 0) 0 q ∧ σ.1 1 = nI (cn q (qn q)) ∧ (∀ j, j < qn q → σ.2 1 j = en (pr q j)) ∧ ∀ j, j < qn q → σ.2 2 j = nI (vo q j)
def fr (is as : List Nat) (σ τ : pv_S) : Prop := (∀ k, k ∉ is → τ.1 k = σ.1 k) ∧ ∀ k, k ∉ as → τ.2 k = σ.2 k
theorem c_standing (hw : WF q) (h : RC (σ.2 0) 0 q) : ∃ τ, f_X7_standing σ = some τ ∧ LN τ q ∧ fr [1] [1, 2] σ τ := by
  obtain ⟨A1, A2, e, h1, h2⟩ := c_read hw h
  refine ⟨pv_pi (pv_pa (pv_pa σ 1 A1) 2 A2) 1 (nI (cn q (qn q))), by unfold f_X7_standing; rw [e, Option.bind_some], ⟨h, rfl, h1, h2⟩, fun k hk => ?_, fun k hk => ?_⟩
  · simp only [List.mem_cons, List.not_mem_nil, or_false] at hk
    rw [pi_1, if_neg hk]; rfl
  · simp only [List.mem_cons, List.not_mem_nil, or_false, not_or] at hk
    rw [pi_2, pa_2, if_neg hk.2, pa_2, if_neg hk.1]
end LN
