/-! notes, costs, least costs, voices: both answer alike -/
section ASK2
variable {σ : pv_S} {M : Zt} {E : Nat} {q : Sc}
theorem c_ahead (hw : WF q) (h : LN σ q) {i : Nat} (hi : i < qn q) : f_X4_ahead (nI i) σ = some (en (pr q i), σ) := by
  have hn := hw.2.1.1
  unfold f_X4_ahead
  rw [e_X6_has hn h.1 hi, Option.bind_some]
  dsimp only
  rw [if_neg c10, gd_nI _ (by omega) (by decide), la_nI _ _ (by omega), h.2.2.1 i hi]
theorem c_voiceWith (hw : WF q) (h : LN σ q) {i : Nat} (hi : i < qn q) : f_X4_voiceWith (nI i) σ = some (nI (vo q i), σ) := by
  have hn := hw.2.1.1
  unfold f_X4_voiceWith
  rw [e_X6_has hn h.1 hi, Option.bind_some]
  dsimp only
  rw [if_neg c10, gd_nI _ (by omega) (by decide), la_nI _ _ (by omega), h.2.2.2 i hi]
def cf (q : Sc) (a : Nat) : Nat → Nat → Nat → Nat
  | 0, _, acc => acc
  | d + 1, b, acc => cf q a d (b + 1) (if my q a b then acc + 1 else acc)
theorem c_followers (hw : WF q) (h : RC (σ.2 0) 0 q) {a : Nat} (ha : a < qn q) : ∀ (d fuel b acc : Nat), b + d = qn q → d < fuel → f_X6_countFollowers_4 fuel (nI a) (nI acc) (nI b) σ = some (nI (cf q a d b acc), σ) := by
  have hn := hw.2.1.1
  intro d
  induction d with
  | zero =>
    intro fuel b acc hb hf
    cases fuel with
    | zero => omega
    | succ r =>
      unfold f_X6_countFollowers_4
      rw [e_X6_count h, Option.bind_some]
      dsimp only
      rw [if_pos (nI_le (by omega) (by omega))]; rfl
  | succ d ih =>
    intro fuel b acc hb hf
    cases fuel with
    | zero => omega
    | succ r =>
      unfold f_X6_countFollowers_4
      rw [e_X6_count h, Option.bind_some]
      dsimp only
      rw [if_neg (nI_ge (by omega) (by omega)), e_X6_mayFollow hw h ha (by omega), Option.bind_some]
      dsimp only
      show _ = some (nI (cf q a d (b + 1) (if my q a b then acc + 1 else acc)), σ)
      rw [p1, p1]
      cases c : my q a b with
      | true => rw [if_neg (show ¬ (if true = true then (1 : Int32) else 0) = 0 by decide), if_pos rfl]; exact ih r (b + 1) (acc + 1) (by omega) (by omega)
      | false => rw [if_pos (show (if false = true then (1 : Int32) else 0) = 0 by decide), if_neg (by decide)]; exact ih r (b + 1) acc (by omega) (by omega)
theorem m_followers (hw : WF q) (h : RM (σ.2 13) 0 q) {a : Nat} (ha : a < qn q) : ∀ (d fuel b acc : Nat), b + d = qn q → d < fuel → f_X8_followers_4 fuel (nI a) (nI acc) (nI b) σ = some (nI (cf q a d b acc), σ) := by
  have hn := hw.2.1.1
  intro d
  induction d with
  | zero =>
    intro fuel b acc hb hf
    cases fuel with
    | zero => omega
    | succ r =>
      unfold f_X8_followers_4
      rw [gd_0, lm_0, h.1, if_pos (nI_le (by omega) (by omega))]; rfl
  | succ d ih =>
    intro fuel b acc hb hf
    cases fuel with
    | zero => omega
    | succ r =>
      unfold f_X8_followers_4
      rw [gd_0, lm_0, h.1, if_neg (nI_ge (by omega) (by omega)), e_X8_may hw h ha (by omega), Option.bind_some]
      dsimp only
      show _ = some (nI (cf q a d (b + 1) (if my q a b then acc + 1 else acc)), σ)
      rw [p1, p1, p0]
      cases c : my q a b with
      | true => rw [if_neg (show ¬ (if true = true then (1 : Int32) else 0) = 0 by decide), if_pos rfl]; exact ih r (b + 1) (acc + 1) (by omega) (by omega)
      | false => rw [if_pos (show (if false = true then (1 : Int32) else 0) = 0 by decide), if_neg (by decide)]; exact ih r (b + 1) acc (by omega) (by omega)
theorem c_price (hw : WM M) (h : CLb σ M) (hC : CAC σ (zq M) E) {i : Nat} (hi : i < qn (zq M)) : ∃ k j τ, f_X5_price (nI i) σ = some (nI (lk (zq M) none k + k * qt (zq M) 3) - nI (lk (zq M) (some i) (j + 1) + j * qt (zq M) 3), τ) ∧ CH (lk (zq M) none) (qt (zq M) 3) 11 k ∧ CH (fun j => lk (zq M) (some i) (j + 1)) (qt (zq M) 3) 11 j ∧ CLb τ M ∧ CAC τ (zq M) E ∧ sm σ τ := by
  have hn := hw.1.2.1.1
  obtain ⟨τ, t1, t2, t3, t4, t5, t6⟩ := c_weigh' (al := none) hw (fun i z => by cases z) h hC
  obtain ⟨k, a1, a2⟩ := c_cheapestCost hw.1 t2
  obtain ⟨ρ, r1, r2, r3, r4, r5, r6⟩ := c_weigh' (al := some i) hw (fun j z => by cases z; exact hi) t3 t4
  obtain ⟨j, b1, b2⟩ := c_cheapestCost hw.1 r2
  have hj : 1 ≤ j := by
    rcases Nat.eq_zero_or_pos j with c | c
    · rw [c] at b2; exact absurd b2.2.1 (lk_0 hw.1 (by omega))
    · exact c
  refine ⟨k, j - 1, ρ, ?_, a2, ?_, r3, r4, sm_t t5 r5⟩
  · unfold f_X5_price
    rw [show (-1 : Int32) = en none from rfl, t1, Option.bind_some, a1, Option.bind_some]
    dsimp only
    rw [show nI i = en (some i) from rfl, r1, Option.bind_some, b1, Option.bind_some]
    dsimp only
    have : j * qt (zq M) 3 = (j - 1) * qt (zq M) 3 + qt (zq M) 3 := by
      rw [← Nat.succ_mul, show (j - 1).succ = j by omega]
    rw [r2.2.1, pk_sub (by omega), show j - 1 + 1 = j by omega, show lk (zq M) (some i) j + j * qt (zq M) 3 - qt (zq M) 3 = lk (zq M) (some i) j + (j - 1) * qt (zq M) 3 by omega]
  · have hm : ∀ j, j * qt (zq M) 3 + qt (zq M) 3 = (j + 1) * qt (zq M) 3 := fun j => by rw [Nat.succ_mul]
    have hjj : j - 1 + 1 = j := by omega
    refine ⟨by have := b2.1; omega, by show lk (zq M) (some i) (j - 1 + 1) < FA; rw [hjj]; exact b2.2.1, fun x hx hl => ?_⟩
    have hx1 : x + 1 < 11 := by have := (lk_b hw.1 hl).1; omega
    have c := b2.2.2 (x + 1) hx1 hl
    have e1 := hm (j - 1)
    have e2 := hm x
    rw [hjj] at e1
    show (x < j - 1 → lk (zq M) (some i) (j - 1 + 1) + (j - 1) * qt (zq M) 3 < lk (zq M) (some i) (x + 1) + x * qt (zq M) 3) ∧ lk (zq M) (some i) (j - 1 + 1) + (j - 1) * qt (zq M) 3 ≤ lk (zq M) (some i) (x + 1) + x * qt (zq M) 3
    rw [hjj]
    refine ⟨fun z => ?_, ?_⟩
    · have := c.1 (by omega); omega
    · have := c.2; omega
end ASK2
theorem no_ix {x : Int32} {n : Nat} (h : ¬ ∃ i, i < n ∧ x = nI i) : ∀ i, i < n → x ≠ nI i := fun i hi e => h ⟨i, hi, e⟩
theorem ok_at (p0 p1' : Int32) : OK (f_X7_at p0 p1') (f_X8_at p0 p1') := by
  intro σ E M hE hw h hC hM
  have hn := hw.1.2.1.1
  by_cases hx : ∃ i, i < qn (zq M) ∧ p0 = nI i
  · obtain ⟨i, hi, rfl⟩ := hx
    have hc0 : f_X6_has (nI i) σ = some (1, σ) := e_X6_has hn h.1 hi
    have hm0 : ∀ ρ, MO ρ M → f_X8_isNote (nI i) ρ = some (1, ρ) := fun ρ hρ => e_X8_isNote hn hρ.1 hi
    by_cases k0 : p1' = 0
    · subst k0
      refine OK_id hw h hC hM (nI (qo (zq M) i)) ?_ (fun ρ hρ => ?_)
      · unfold f_X7_at
        rw [hc0, Option.bind_some]
        dsimp only
        rw [if_neg c10, if_pos rfl]
        rw [e_X6_on hn h.1 hi, Option.bind_some]
      · unfold f_X8_at
        rw [hm0 ρ hρ, Option.bind_some]
        dsimp only
        rw [if_neg c10, if_pos rfl]
        rw [ad6, gd_nI _ (by omega) (by decide), la_nI _ _ (by omega), RM_on hρ.1 hi]; exact id17 _ _
    by_cases k1 : p1' = 1
    · subst k1
      refine OK_id hw h hC hM (nI (qo (zq M) i + ql (zq M) i)) ?_ (fun ρ hρ => ?_)
      · unfold f_X7_at
        rw [hc0, Option.bind_some]
        dsimp only
        rw [if_neg c10, if_neg (by decide), if_pos rfl]
        rw [e_X6_off hn h.1 hi, Option.bind_some]
      · unfold f_X8_at
        rw [hm0 ρ hρ, Option.bind_some]
        dsimp only
        rw [if_neg c10, if_neg (by decide), if_pos rfl]
        rw [e_X8_off hn hρ.1 hi, Option.bind_some]; exact id17 _ _
    by_cases k2 : p1' = 2
    · subst k2
      refine OK_id hw h hC hM (nI (qp (zq M) i)) ?_ (fun ρ hρ => ?_)
      · unfold f_X7_at
        rw [hc0, Option.bind_some]
        dsimp only
        rw [if_neg c10, if_neg (by decide), if_neg (by decide), if_pos rfl]
        rw [e_X6_pitch hn h.1 hi, Option.bind_some]
      · unfold f_X8_at
        rw [hm0 ρ hρ, Option.bind_some]
        dsimp only
        rw [if_neg c10, if_neg (by decide), if_neg (by decide), if_pos rfl]
        rw [ad26, gd_nI _ (by omega) (by decide), la_nI _ _ (by omega), RM_pit hρ.1 hi]; exact id17 _ _
    by_cases k3 : p1' = 3
    · subst k3
      refine OK_id hw h hC hM (en (qx (zq M) i)) ?_ (fun ρ hρ => ?_)
      · unfold f_X7_at
        rw [hc0, Option.bind_some]
        dsimp only
        rw [if_neg c10, if_neg (by decide), if_neg (by decide), if_neg (by decide), if_pos rfl]
        rw [e_X6_next hn h.1 hi, Option.bind_some]
      · unfold f_X8_at
        rw [hm0 ρ hρ, Option.bind_some]
        dsimp only
        rw [if_neg c10, if_neg (by decide), if_neg (by decide), if_neg (by decide), if_pos rfl]
        rw [ad36, gd_nI _ (by omega) (by decide), la_nI _ _ (by omega), RM_nx hρ.1 hi]; exact id17 _ _
    by_cases k4 : p1' = 4
    · subst k4
      obtain ⟨τ, t1, t2, t3, t4, t5⟩ := c_stand hw h hC
      refine OK_of hw hM (en (pr (zq M) i)) τ M ?_ t5 hw t3 (CAC_mono (by omega) t4) (fun ρ hρ => ⟨ρ, ?_, sc_r ρ, hρ⟩)
      · unfold f_X7_at
        rw [hc0, Option.bind_some]
        dsimp only
        rw [if_neg c10, if_neg (by decide), if_neg (by decide), if_neg (by decide), if_neg (by decide), if_pos rfl]
        rw [t1, Option.bind_some, c_ahead hw.1 t2 hi, Option.bind_some]
      · unfold f_X8_at
        rw [hm0 ρ hρ, Option.bind_some]
        dsimp only
        rw [if_neg c10, if_neg (by decide), if_neg (by decide), if_neg (by decide), if_neg (by decide), if_pos rfl]
        rw [m_prior hw.1 hρ.1 (by omega), Option.bind_some]
    by_cases k5 : p1' = 5
    · subst k5
      obtain ⟨τ, t1, t2, t3, t4, t5⟩ := c_stand hw h hC
      refine OK_of hw hM (nI (vo (zq M) i)) τ M ?_ t5 hw t3 (CAC_mono (by omega) t4) (fun ρ hρ => ⟨ρ, ?_, sc_r ρ, hρ⟩)
      · unfold f_X7_at
        rw [hc0, Option.bind_some]
        dsimp only
        rw [if_neg c10, if_neg (by decide), if_neg (by decide), if_neg (by decide), if_neg (by decide), if_neg (by decide), if_pos rfl]
        rw [t1, Option.bind_some, c_voiceWith hw.1 t2 hi, Option.bind_some]
      · unfold f_X8_at
        rw [hm0 ρ hρ, Option.bind_some]
        dsimp only
        rw [if_neg c10, if_neg (by decide), if_neg (by decide), if_neg (by decide), if_neg (by decide), if_neg (by decide), if_pos rfl]
        rw [m_voiceOf hw.1 hρ.1 hi, Option.bind_some]
    by_cases k6 : p1' = 6
    · subst k6
      obtain ⟨k, j, τ, t1, t2, t3, t4, t5, t6⟩ := c_price hw h hC hi
      refine OK_of hw hM (nI (lk (zq M) none k + k * qt (zq M) 3) - nI (lk (zq M) (some i) (j + 1) + j * qt (zq M) 3)) τ M ?_ t6 hw t4 (CAC_mono (by omega) t5) (fun ρ hρ => ?_)
      · unfold f_X7_at
        rw [hc0, Option.bind_some]
        dsimp only
        rw [if_neg c10, if_neg (by decide), if_neg (by decide), if_neg (by decide), if_neg (by decide), if_neg (by decide), if_neg (by decide), if_pos rfl]
        rw [t1, Option.bind_some]
      · obtain ⟨k', g, g1, g2⟩ := m_leastOfAll (σ := ρ) (al := none) hw.1 (fun i z => by cases z) hρ.1
        obtain ⟨j', g', g3, g4⟩ := m_leastOfAll (σ := pv_pa ρ 17 g) (al := some i) hw.1 (fun j z => by cases z; exact hi) hρ.1
        have e1 : k = k' := CH_u t2 (show CH (lk (zq M) none) (qt (zq M) 3) 11 k' from g2)
        have e2 : j = j' := CH_u t3 (show CH (fun j => lk (zq M) (some i) (j + 1)) (qt (zq M) 3) 11 j' from g4)
        subst e1
        subst e2
        refine ⟨pv_pa ρ 17 g', ?_, sc_pa ρ g' (by decide), hρ⟩
        unfold f_X8_at
        rw [hm0 ρ hρ, Option.bind_some]
        dsimp only
        rw [if_neg c10, if_neg (by decide), if_neg (by decide), if_neg (by decide), if_neg (by decide), if_neg (by decide), if_neg (by decide), if_pos rfl]
        rw [show (-1 : Int32) = en none from rfl, g1, Option.bind_some]
        dsimp only
        rw [show nI i = en (some i) from rfl, g3, Option.bind_some, pa_pa]; rfl
    by_cases k7 : p1' = 7
    · subst k7
      refine OK_id hw h hC hM (nI (cf (zq M) i (qn (zq M)) 0 0)) ?_ (fun ρ hρ => ?_)
      · unfold f_X7_at
        rw [hc0, Option.bind_some]
        dsimp only
        rw [if_neg c10, if_neg (by decide), if_neg (by decide), if_neg (by decide), if_neg (by decide), if_neg (by decide), if_neg (by decide), if_neg (by decide), if_pos rfl]
        unfold f_X6_countFollowers
        rw [show (0 : Int32) = nI 0 from rfl, c_followers hw.1 h.1 hi (qn (zq M)) pv_FU 0 0 (by omega) (by unfold pv_FU; omega), Option.bind_some]
      · unfold f_X8_at
        rw [hm0 ρ hρ, Option.bind_some]
        dsimp only
        rw [if_neg c10, if_neg (by decide), if_neg (by decide), if_neg (by decide), if_neg (by decide), if_neg (by decide), if_neg (by decide), if_neg (by decide), if_pos rfl]
        unfold f_X8_followers
        rw [show (0 : Int32) = nI 0 from rfl, m_followers hw.1 hρ.1 hi (qn (zq M)) pv_FU 0 0 (by omega) (by unfold pv_FU; omega), Option.bind_some]; exact id17 _ _
    refine OK_id hw h hC hM (-1000000002) ?_ (fun ρ hρ => ?_)
    · unfold f_X7_at
      rw [hc0, Option.bind_some]
      dsimp only
      rw [if_neg c10, if_neg k0, if_neg k1, if_neg k2, if_neg k3, if_neg k4, if_neg k5, if_neg k6, if_neg k7]
    · unfold f_X8_at
      rw [hm0 ρ hρ, Option.bind_some]
      dsimp only
      rw [if_neg c10, if_neg k0, if_neg k1, if_neg k2, if_neg k3, if_neg k4, if_neg k5, if_neg k6, if_neg k7]; exact id17 _ _
  · refine OK_id hw h hC hM (-1000000001) ?_ (fun ρ hρ => ?_)
    · unfold f_X7_at
      rw [e_X6_hasN hn h.1 (no_ix hx), Option.bind_some]
      dsimp only
      rw [if_pos rfl]
    · unfold f_X8_at
      rw [e_X8_isNoteN hn hρ.1 (no_ix hx), Option.bind_some]
      dsimp only
      rw [if_pos rfl]; exact id17 _ _
theorem ok_cost (p0 p1' : Int32) : OK (f_X7_cost p0 p1') (f_X8_cost p0 p1') := by
  intro σ E M hE hw h hC hM
  have hn := hw.1.2.1.1
  by_cases hx : ∃ i, i < qn (zq M) ∧ p0 = nI i
  · obtain ⟨i, hi, rfl⟩ := hx
    by_cases hy : ∃ j, j < qn (zq M) ∧ p1' = nI j
    · obtain ⟨j, hj, rfl⟩ := hy
      refine OK_id hw h hC hM (if my (zq M) i j then nI (cs (zq M) i j) else -1) ?_ (fun ρ hρ => ?_)
      · unfold f_X7_cost
        rw [e_X6_has hn h.1 hi, Option.bind_some]
        dsimp only
        rw [if_neg c10, e_X6_has hn h.1 hj, Option.bind_some]
        dsimp only
        rw [if_neg c10, e_X6_costToFollow hw.1 h.1 hi hj, Option.bind_some]
      · unfold f_X8_cost
        rw [e_X8_isNote hn hρ.1 hi, Option.bind_some]
        dsimp only
        rw [if_neg c10, e_X8_isNote hn hρ.1 hj, Option.bind_some]
        dsimp only
        rw [if_neg c10, e_X8_may hw.1 hρ.1 hi hj, Option.bind_some]
        dsimp only
        cases c : my (zq M) i j with
        | true => rw [if_neg (show ¬ (if true = true then (1 : Int32) else 0) = 0 by decide), e_X8_costOf hw.1 hρ.1 hi (my_iff.mp c), Option.bind_some]; exact id17 _ _
        | false => rw [if_pos (show (if false = true then (1 : Int32) else 0) = 0 by decide)]; exact id17 _ _
    · refine OK_id hw h hC hM (-1000000001) ?_ (fun ρ hρ => ?_)
      · unfold f_X7_cost
        rw [e_X6_has hn h.1 hi, Option.bind_some]
        dsimp only
        rw [if_neg c10, e_X6_hasN hn h.1 (no_ix hy), Option.bind_some]
        dsimp only
        rw [if_pos rfl]
      · unfold f_X8_cost
        rw [e_X8_isNote hn hρ.1 hi, Option.bind_some]
        dsimp only
        rw [if_neg c10, e_X8_isNoteN hn hρ.1 (no_ix hy), Option.bind_some]
        dsimp only
        rw [if_pos rfl]; exact id17 _ _
  · refine OK_id hw h hC hM (-1000000001) ?_ (fun ρ hρ => ?_)
    · unfold f_X7_cost
      rw [e_X6_hasN hn h.1 (no_ix hx), Option.bind_some]
      dsimp only
      rw [if_pos rfl]
    · unfold f_X8_cost
      rw [e_X8_isNoteN hn hρ.1 (no_ix hx), Option.bind_some]
      dsimp only
      rw [if_pos rfl]; exact id17 _ _
theorem ok_least (p0 : Int32) : OK (f_X7_least p0) (f_X8_least p0) := by
  intro σ E M hE hw h hC hM
  rcases rgI p0 0 10 (by decide) with ⟨k, -, hk, rfl⟩ | hx
  · obtain ⟨τ, t1, t2, t3, t4, t5, -⟩ := c_weighed hw h hC
    refine OK_of hw hM (lw (zq M) none k) τ M ?_ t5 hw t3 (CAC_mono (by omega) t4) (fun ρ hρ => ?_)
    · unfold f_X7_least
      rw [c_isVC hk, Option.bind_some]
      dsimp only
      rw [if_neg c10, t1, Option.bind_some, c_leastCost t2 hk, Option.bind_some]
    · obtain ⟨g, g1, -⟩ := m_leastOf (σ := ρ) (al := none) hw.1 (fun i z => by cases z) hρ.1 hk
      refine ⟨pv_pa ρ 17 g, ?_, sc_pa ρ g (by decide), hρ⟩
      unfold f_X8_least
      rw [m_inY (lo := 0) (hi := 10) rfl rfl (by omega) hk (by omega), Option.bind_some]
      dsimp only
      rw [if_neg c10, show (-1 : Int32) = en none from rfl, g1, Option.bind_some, ml_none]
  · refine OK_id hw h hC hM (-1000000002) ?_ (fun ρ hρ => ?_)
    · unfold f_X7_least
      rw [c_isVCn hx, Option.bind_some]
      dsimp only
      rw [if_pos rfl]
    · unfold f_X8_least
      rw [m_inN rfl rfl hx, Option.bind_some]
      dsimp only
      rw [if_pos rfl]; exact id17 _ _
theorem ok_first (p0 p1' : Int32) : OK (f_X7_first p0 p1') (f_X8_first p0 p1') := by
  intro σ E M hE hw h hC hM
  have hn := hw.1.2.1.1
  by_cases hy : ∃ i, i < qn (zq M) ∧ p1' = nI i
  · obtain ⟨i, hi, rfl⟩ := hy
    have hc0 : f_X6_has (nI i) σ = some (1, σ) := e_X6_has hn h.1 hi
    have hm0 : ∀ ρ, MO ρ M → f_X8_isNote (nI i) ρ = some (1, ρ) := fun ρ hρ => e_X8_isNote hn hρ.1 hi
    rcases rgI p0 0 10 (by decide) with ⟨k, -, hk, rfl⟩ | hx
    · obtain ⟨τ, t1, t2, t3, t4, t5, -⟩ := c_weighed hw h hC
      by_cases hl : lk (zq M) none k < FA
      · obtain ⟨f, f1, f2⟩ := c_choose hw.1 t2 hk hl
        refine OK_of hw hM (en (nx (zq M) (qn (zq M) - k) i)) (pv_pa τ 6 f) M ?_ (sm_t t5 (sm_pa τ f (by decide))) hw t3 (CAC_mono (E := E) (by omega) t4) (fun ρ hρ => ?_)
        · unfold f_X7_first
          rw [hc0, Option.bind_some]
          dsimp only
          rw [if_neg c10, c_isVC hk, Option.bind_some]
          dsimp only
          rw [if_neg c10, t1, Option.bind_some, f1, Option.bind_some]
          dsimp only
          unfold f_X5_chosen
          rw [if_neg c10, if_neg (nI_pos (by omega)), if_neg (show ¬ (10 : Int32) ≤ nI i from nI_ge (b := 10) (by omega) (by decide)), gd_nI _ (by omega) (by decide), la_nI _ _ (by omega), pa_2s, f2 i hi, Option.bind_some]
        · obtain ⟨g, f', g1, g2⟩ := m_layFirst (σ := ρ) hw.1 hρ.1 hk hl
          refine ⟨pv_pa (pv_pa ρ 17 g) 18 f', ?_, sc_t (sc_pa ρ g (by decide)) (sc_pa _ f' (by decide)), hρ⟩
          unfold f_X8_first
          rw [hm0 ρ hρ, Option.bind_some]
          dsimp only
          rw [if_neg c10, m_inY (lo := 0) (hi := 10) rfl rfl (by omega) hk (by omega), Option.bind_some]
          dsimp only
          rw [if_neg c10, g1, Option.bind_some]
          dsimp only
          rw [if_neg c10, gd_nI _ (by omega) (by decide), la_nI _ _ (by omega), pa_2s, g2 i hi]
      · refine OK_of hw hM (-1000000003) τ M ?_ t5 hw t3 (CAC_mono (by omega) t4) (fun ρ hρ => ?_)
        · unfold f_X7_first
          rw [hc0, Option.bind_some]
          dsimp only
          rw [if_neg c10, c_isVC hk, Option.bind_some]
          dsimp only
          rw [if_neg c10, t1, Option.bind_some, c_chooseN t2 hk hl, Option.bind_some]
          dsimp only
          rw [if_pos rfl]
        · obtain ⟨g, g1⟩ := m_layFirstN (σ := ρ) hw.1 hρ.1 hk hl
          refine ⟨pv_pa ρ 17 g, ?_, sc_pa ρ g (by decide), hρ⟩
          unfold f_X8_first
          rw [hm0 ρ hρ, Option.bind_some]
          dsimp only
          rw [if_neg c10, m_inY (lo := 0) (hi := 10) rfl rfl (by omega) hk (by omega), Option.bind_some]
          dsimp only
          rw [if_neg c10, g1, Option.bind_some]
          dsimp only
          rw [if_pos rfl]
    · refine OK_id hw h hC hM (-1000000002) ?_ (fun ρ hρ => ?_)
      · unfold f_X7_first
        rw [hc0, Option.bind_some]
        dsimp only
        rw [if_neg c10, c_isVCn hx, Option.bind_some]
        dsimp only
        rw [if_pos rfl]
      · unfold f_X8_first
        rw [hm0 ρ hρ, Option.bind_some]
        dsimp only
        rw [if_neg c10, m_inN rfl rfl hx, Option.bind_some]
        dsimp only
        rw [if_pos rfl]; exact id17 _ _
  · refine OK_id hw h hC hM (-1000000001) ?_ (fun ρ hρ => ?_)
    · unfold f_X7_first
      rw [e_X6_hasN hn h.1 (no_ix hy), Option.bind_some]
      dsimp only
      rw [if_pos rfl]
    · unfold f_X8_first
      rw [e_X8_isNoteN hn hρ.1 (no_ix hy), Option.bind_some]
      dsimp only
      rw [if_pos rfl]; exact id17 _ _
section VOI
variable {σ : pv_S} {q : Sc}
theorem c_hasV (hw : WF q) (h : LN σ q) {v : Nat} (hv : v < cn q (qn q)) : f_X4_hasVoice (nI v) σ = some (1, σ) := by
  have hn := hw.2.1.1
  have := cn_le q (qn q)
  unfold f_X4_hasVoice
  rw [if_neg (nI_pos (by omega)), h.2.1, if_neg (nI_ge hv (by omega))]
theorem c_hasVN (hw : WF q) (h : LN σ q) {x : Int32} (hx : ∀ i, i < cn q (qn q) → x ≠ nI i) : f_X4_hasVoice x σ = some (0, σ) := by
  have hn := hw.2.1.1
  have := cn_le q (qn q)
  unfold f_X4_hasVoice
  by_cases h0 : x < 0
  · rw [if_pos h0]
  · obtain ⟨j, hj, rfl⟩ := nI_of h0
    rw [if_neg h0, h.2.1, if_pos]
    apply nI_le _ hj
    rcases Nat.lt_or_ge j (cn q (qn q)) with g | g
    · exact absurd rfl (hx j g)
    · exact g
theorem m_hasV {c v : Nat} (hc : c ≤ 10) (hv : v < c) : f_X8_in (nI v).toInt64 0 ((nI c - 1)).toInt64 σ = some (1, σ) := by
  rw [show (nI c - 1 : Int32) = nI (c - 1) from pk_sub (b := 1) (by omega)]
  exact m_inY (lo := 0) (hi := c - 1) rfl (by rw [i2l_toInt, nI_toInt (by omega)]) (by omega) (by omega) (by omega) σ
theorem m_hasVN {c : Nat} (hc : c ≤ 10) {x : Int32} (hx : ∀ i, i < c → x ≠ nI i) : f_X8_in x.toInt64 0 ((nI c - 1)).toInt64 σ = some (0, σ) := by
  have z3 : (nI c - 1).toInt = (c : Int) - 1 := pk_sub_toInt (b := 1) (by omega) (by decide)
  refine m_inN (lo := 0) (hi := (c : Int) - 1) rfl (by rw [i2l_toInt, z3]) ?_ σ
  by_cases h0 : x < 0
  · exact Or.inl (i_lt0.mp h0)
  · obtain ⟨j, hj, rfl⟩ := nI_of h0
    rw [nI_toInt hj]
    rcases Nat.lt_or_ge j c with g | g
    · exact absurd rfl (hx j g)
    · omega
end VOI
theorem cl_some (q : Sc) (v f : Nat) : cl q v (some f) = ms q v (qn q - f) f := rfl
theorem ok_voice (p0 p1' : Int32) : OK (f_X7_voice p0 p1') (f_X8_voice p0 p1') := by
  intro σ E M hE hw h hC hM
  have hn := hw.1.2.1.1
  have hcn := cn_le (zq M) (qn (zq M))
  obtain ⟨τ, t1, t2, t3, t4, t5⟩ := c_stand hw h hC
  by_cases hx : ∃ v, v < cn (zq M) (qn (zq M)) ∧ p0 = nI v
  · obtain ⟨v, hv, rfl⟩ := hx
    obtain ⟨f, -, f2, f3, f4⟩ := fo_ex (q := zq M) (qn (zq M)) 0 v (Nat.zero_le v) (by rw [Nat.zero_add]; exact hv)
    rw [Nat.zero_add] at f2
    obtain ⟨L1, L2⟩ := ms_fo hw.1 f2 f3 f4
    have L3 := ms_nx hw.1 f2 L2
    have hpf := (hw.1.2.1.2 f f2).2.2.2
    have hL : ms (zq M) v (qn (zq M)) 0 = f :: (qx (zq M) f).elim [] (fun y => ms (zq M) v (qn (zq M) - y) y) := by rw [L1, L3]
    have hlen : (ms (zq M) v (qn (zq M)) 0).length < 2 ^ 31 := by
      have : ∀ d j, (ms (zq M) v d j).length ≤ d := by
        intro d
        induction d with
        | zero => intro j; exact Nat.le_refl _
        | succ d ih => intro j; rw [ms_s]; split
                       · have := ih (j + 1); simp only [List.length_cons]; omega
                       · have := ih (j + 1); omega
      have := this (qn (zq M)) 0
      omega
    have hn0 : f_X4_noteOf (nI v) 0 τ = some (nI f, τ) := by
      have := c_noteOf hw.1 t2 (v := v) (i := 0) (by omega) (by decide)
      rw [hL] at this
      exact this
    have hfirst : ∀ ρ, MO ρ M → f_X8_firstOf (nI v) ρ = some (nI f, ρ) := fun ρ hρ => by
      obtain ⟨f', g1, g2, g3, g4⟩ := m_firstOf hw.1 hρ.1 hv
      have e : f' = f := by
        have a := ms_fo hw.1 g2 g3 g4
        have b := ms_nx hw.1 g2 a.2
        rw [← a.1, hL] at b
        injection b with b1 b2
        exact b1.symm
      rw [g1, e]
    have hm0 : ∀ ρ, MO ρ M → f_X8_in (nI v).toInt64 0 ((nI (cn (zq M) (qn (zq M))) - 1)).toInt64 ρ = some (1, ρ) := fun ρ _ => m_hasV (by omega) hv
    have hofv : ∀ ρ, MO ρ M → ∀ p : Int32, f_X8_ofVoice (nI f) p ρ = some (pk7 p (nI (0 + (ms (zq M) v (qn (zq M)) 0).length)) (nI f) (nI (lsD f (ms (zq M) v (qn (zq M)) 0))) (nI ((ms (zq M) v (qn (zq M)) 0).foldl (lowF (zq M)) (qp (zq M) f))) (nI ((ms (zq M) v (qn (zq M)) 0).foldl (higF (zq M)) (qp (zq M) f))) (nI (0 + sumF (rb (zq M)) (ms (zq M) v (qn (zq M)) 0))) (nI (qt (zq M) 3 + sumF (wb (zq M)) (ms (zq M) v (qn (zq M)) 0))), ρ) := fun ρ hρ p => by
      unfold f_X8_ofVoice
      rw [ad26, gd_nI _ (by omega) (by decide), show (4 : Int32) = nI (1 + 3) from rfl, gd_nI _ (by decide) (by decide), la_nI _ _ (by omega), la_nI _ _ (by decide), RM_pit hρ.1 f2, RM_t hρ.1 (by decide)]
      have := m_ofVoice_34 hw.1 hρ.1 p (nI f) (v := v) pv_FU (some f) 0 f (qp (zq M) f) (qp (zq M) f) 0 (qt (zq M) 3) (fun a ha => by cases ha; exact ⟨f2, L2, by unfold pv_FU; omega⟩) (by decide) (by omega) (by omega)
      rw [cl_some, ← L1] at this
      exact this
    have cpre : ∀ (p : Int32) (r : Int32), (if p = 0 then (Option.bind (f_X4_size (nI v) τ) (fun q5 => (some (q5.1, q5.2)))) else (if p = 1 then (Option.bind (f_X4_noteOf (nI v) 0 τ) (fun q7 => (some (q7.1, q7.2)))) else (if p = 2 then (Option.bind (f_X4_size (nI v) τ) (fun q9 => (Option.bind (f_X4_noteOf (nI v) (q9.1 - 1) q9.2) (fun q10 => (some (q10.1, q10.2)))))) else (if p = 3 then (Option.bind (f_X4_lowest (nI v) τ) (fun q12 => (some (q12.1, q12.2)))) else (if p = 4 then (Option.bind (f_X4_highest (nI v) τ) (fun q14 => (some (q14.1, q14.2)))) else (if p = 5 then (Option.bind (f_X4_rests (nI v) τ) (fun q16 => (some (q16.1, q16.2)))) else (if p = 6 then (Option.bind (f_X4_costOf (nI v) τ) (fun q18 => (some (q18.1, q18.2)))) else (some ((-1000000002), τ))))))))) = some (r, τ) → f_X7_voice (nI v) p σ = some (r, τ) := fun p r hr => by
      unfold f_X7_voice
      rw [t1, Option.bind_some, c_hasV hw.1 t2 hv, Option.bind_some]
      dsimp only
      rw [if_neg c10]; exact hr
    have mpre : ∀ ρ, MO ρ M → ∀ (k : Nat), k ≤ 6 → ∀ r, pk7 (nI k) (nI (0 + (ms (zq M) v (qn (zq M)) 0).length)) (nI f) (nI (lsD f (ms (zq M) v (qn (zq M)) 0))) (nI ((ms (zq M) v (qn (zq M)) 0).foldl (lowF (zq M)) (qp (zq M) f))) (nI ((ms (zq M) v (qn (zq M)) 0).foldl (higF (zq M)) (qp (zq M) f))) (nI (0 + sumF (rb (zq M)) (ms (zq M) v (qn (zq M)) 0))) (nI (qt (zq M) 3 + sumF (wb (zq M)) (ms (zq M) v (qn (zq M)) 0))) = r → f_X8_voice (nI v) (nI k) ρ = some (r, ρ) := fun ρ hρ k hk r hr => by
      unfold f_X8_voice
      rw [m_voices hw.1 hρ.1, Option.bind_some]
      dsimp only
      rw [hm0 ρ hρ, Option.bind_some]
      dsimp only
      rw [if_neg c10, m_inY (lo := 0) (hi := 6) rfl rfl (by omega) hk (by omega), Option.bind_some]
      dsimp only
      rw [if_neg c10, hfirst ρ hρ, Option.bind_some]
      dsimp only
      rw [hofv ρ hρ, Option.bind_some, hr]
    rcases rgI p1' 0 6 (by decide) with ⟨k, -, hk, rfl⟩ | hy
    · have go : ∀ r, f_X7_voice (nI v) (nI k) σ = some (r, τ) → pk7 (nI k) (nI (0 + (ms (zq M) v (qn (zq M)) 0).length)) (nI f) (nI (lsD f (ms (zq M) v (qn (zq M)) 0))) (nI ((ms (zq M) v (qn (zq M)) 0).foldl (lowF (zq M)) (qp (zq M) f))) (nI ((ms (zq M) v (qn (zq M)) 0).foldl (higF (zq M)) (qp (zq M) f))) (nI (0 + sumF (rb (zq M)) (ms (zq M) v (qn (zq M)) 0))) (nI (qt (zq M) 3 + sumF (wb (zq M)) (ms (zq M) v (qn (zq M)) 0))) = r → ∃ r τ τ' M', f_X7_voice (nI v) (nI k) σ = some (r, τ) ∧ f_X8_voice (nI v) (nI k) τ = some (r, τ') ∧ WM M' ∧ CLb τ' M' ∧ CAC τ' (zq M') (E + 20) ∧ MO τ' M' := fun r h1 h2 => OK_of hw hM r τ M h1 t5 hw t3 (CAC_mono (by omega) t4) (fun ρ hρ => ⟨ρ, mpre ρ hρ k hk r h2, sc_r ρ, hρ⟩)
      have hv31 : v < 2 ^ 31 := by omega
      have k7 : k = 0 ∨ k = 1 ∨ k = 2 ∨ k = 3 ∨ k = 4 ∨ k = 5 ∨ k = 6 := by omega
      rcases k7 with rfl | rfl | rfl | rfl | rfl | rfl | rfl
      · refine go (nI (ms (zq M) v (qn (zq M)) 0).length) (cpre _ _ ?_) (by rw [Nat.zero_add]; rfl)
        rw [if_pos (by decide), c_size hw.1 t2 hv31, Option.bind_some]
      · refine go (nI f) (cpre _ _ ?_) rfl
        rw [if_neg (by decide), if_pos (by decide), hn0, Option.bind_some]
      · refine go (nI (lsD f (ms (zq M) v (qn (zq M)) 0))) (cpre _ _ ?_) rfl
        rw [if_neg (by decide), if_neg (by decide), if_pos (by decide), c_size hw.1 t2 hv31, Option.bind_some]
        dsimp only
        have hl1 : 1 ≤ (ms (zq M) v (qn (zq M)) 0).length := by rw [hL]; simp
        rw [show (nI (ms (zq M) v (qn (zq M)) 0).length - 1 : Int32) = nI ((ms (zq M) v (qn (zq M)) 0).length - 1) from pk_sub (b := 1) hl1, c_noteOf hw.1 t2 hv31 (by omega), Option.bind_some, hL]
        have := lsD_get ((qx (zq M) f).elim [] (fun y => ms (zq M) v (qn (zq M) - y) y)) f
        simp only [List.length_cons, Nat.add_sub_cancel]
        rw [this]; rfl
      · refine go (nI ((ms (zq M) v (qn (zq M)) 0).foldl (lowF (zq M)) (qp (zq M) f))) (cpre _ _ ?_) rfl
        rw [if_neg (by decide), if_neg (by decide), if_neg (by decide), if_pos (by decide)]
        unfold f_X4_lowest
        rw [hn0, Option.bind_some]
        dsimp only
        rw [e_X6_pitch hn t2.1 f2, Option.bind_some]
        dsimp only
        have := c_lowest_16 hw.1 t2 hv31 (qn (zq M)) pv_FU 0 (qp (zq M) f) (by omega) (by unfold pv_FU; omega) (by omega)
        rw [show (0 : Int32) = nI 0 from rfl, this, Option.bind_some]
      · refine go (nI ((ms (zq M) v (qn (zq M)) 0).foldl (higF (zq M)) (qp (zq M) f))) (cpre _ _ ?_) rfl
        rw [if_neg (by decide), if_neg (by decide), if_neg (by decide), if_neg (by decide), if_pos (by decide)]
        unfold f_X4_highest
        rw [hn0, Option.bind_some]
        dsimp only
        rw [e_X6_pitch hn t2.1 f2, Option.bind_some]
        dsimp only
        have := c_highest_16 hw.1 t2 hv31 (qn (zq M)) pv_FU 0 (qp (zq M) f) (by omega) (by unfold pv_FU; omega) (by omega)
        rw [show (0 : Int32) = nI 0 from rfl, this, Option.bind_some]
      · refine go (nI (0 + sumF (rb (zq M)) (ms (zq M) v (qn (zq M)) 0))) (cpre _ _ ?_) rfl
        rw [if_neg (by decide), if_neg (by decide), if_neg (by decide), if_neg (by decide), if_neg (by decide), if_pos (by decide)]
        unfold f_X4_rests
        have := c_rests_4 hw.1 t2 hv31 (qn (zq M)) pv_FU 0 0 (by omega) (by unfold pv_FU; omega)
        rw [show (0 : Int32) = nI 0 from rfl, this, Option.bind_some]
      · refine go (nI (qt (zq M) 3 + sumF (wb (zq M)) (ms (zq M) v (qn (zq M)) 0))) (cpre _ _ ?_) rfl
        rw [if_neg (by decide), if_neg (by decide), if_neg (by decide), if_neg (by decide), if_neg (by decide), if_neg (by decide), if_pos (by decide)]
        unfold f_X4_costOf
        rw [show (3 : Int32) = nI 3 from rfl, e_X6_valueOf t2.1 (by decide), Option.bind_some]
        dsimp only
        have := c_costOf_11 hw.1 t2 hv31 (qn (zq M)) pv_FU 0 (qt (zq M) 3) (by omega) (by unfold pv_FU; omega)
        rw [show (0 : Int32) = nI 0 from rfl, this, Option.bind_some]
    · have hne : ∀ k : Nat, k ≤ 6 → p1' ≠ nI k := fun k hk e => by rw [e, nI_toInt (by omega)] at hy; omega
      refine OK_of hw hM (-1000000002) τ M (cpre _ _ ?_) t5 hw t3 (CAC_mono (by omega) t4) (fun ρ hρ => ⟨ρ, ?_, sc_r ρ, hρ⟩)
      · rw [if_neg (show ¬ p1' = 0 from hne 0 (by omega)), if_neg (show ¬ p1' = 1 from hne 1 (by omega)), if_neg (show ¬ p1' = 2 from hne 2 (by omega)), if_neg (show ¬ p1' = 3 from hne 3 (by omega)), if_neg (show ¬ p1' = 4 from hne 4 (by omega)), if_neg (show ¬ p1' = 5 from hne 5 (by omega)), if_neg (show ¬ p1' = 6 from hne 6 (by omega))]
      · unfold f_X8_voice
        rw [m_voices hw.1 hρ.1, Option.bind_some]
        dsimp only
        rw [hm0 ρ hρ, Option.bind_some]
        dsimp only
        rw [if_neg c10, m_inN rfl rfl hy, Option.bind_some]
        dsimp only
        rw [if_pos rfl]
  · refine OK_of hw hM (-1000000001) τ M ?_ t5 hw t3 (CAC_mono (by omega) t4) (fun ρ hρ => ⟨ρ, ?_, sc_r ρ, hρ⟩)
    · unfold f_X7_voice
      rw [t1, Option.bind_some, c_hasVN hw.1 t2 (no_ix hx), Option.bind_some]
      dsimp only
      rw [if_pos rfl]
    · unfold f_X8_voice
      rw [m_voices hw.1 hρ.1, Option.bind_some]
      dsimp only
      rw [m_hasVN (by omega) (no_ix hx), Option.bind_some]
      dsimp only
      rw [if_pos rfl]
theorem ok_member (p0 p1' : Int32) : OK (f_X7_member p0 p1') (f_X8_member p0 p1') := by
  intro σ E M hE hw h hC hM
  have hn := hw.1.2.1.1
  have hcn := cn_le (zq M) (qn (zq M))
  obtain ⟨τ, t1, t2, t3, t4, t5⟩ := c_stand hw h hC
  by_cases hx : ∃ v, v < cn (zq M) (qn (zq M)) ∧ p0 = nI v
  · obtain ⟨v, hv, rfl⟩ := hx
    by_cases h0 : p1' < 0
    · have h1 : ¬ 0 ≤ p1' := Int32.not_le.mpr h0
      refine OK_of hw hM (-1000000002) τ M ?_ t5 hw t3 (CAC_mono (by omega) t4) (fun ρ hρ => ⟨ρ, ?_, sc_r ρ, hρ⟩)
      · unfold f_X7_member
        rw [t1, Option.bind_some, c_hasV hw.1 t2 hv, Option.bind_some]
        dsimp only
        rw [if_neg c10, if_neg h1]
      · unfold f_X8_member
        rw [m_voices hw.1 hρ.1, Option.bind_some]
        dsimp only
        rw [m_hasV (by omega) hv, Option.bind_some]
        dsimp only
        rw [if_neg c10, if_neg h1]
    · obtain ⟨i, hi, rfl⟩ := nI_of h0
      refine OK_of hw hM (en ((ms (zq M) v (qn (zq M)) 0)[i]?)) τ M ?_ t5 hw t3 (CAC_mono (by omega) t4) (fun ρ hρ => ⟨ρ, ?_, sc_r ρ, hρ⟩)
      · unfold f_X7_member
        rw [t1, Option.bind_some, c_hasV hw.1 t2 hv, Option.bind_some]
        dsimp only
        rw [if_neg c10, if_pos (nI_pos' hi), c_noteOf hw.1 t2 (by omega) hi, Option.bind_some]
      · obtain ⟨f, g1, g2, g3, g4⟩ := m_firstOf hw.1 hρ.1 hv
        obtain ⟨L1, L2⟩ := ms_fo hw.1 g2 g3 g4
        unfold f_X8_member
        rw [m_voices hw.1 hρ.1, Option.bind_some]
        dsimp only
        rw [m_hasV (by omega) hv, Option.bind_some]
        dsimp only
        rw [if_neg c10, if_pos (nI_pos' hi), g1, Option.bind_some]
        dsimp only
        have := m_member_35 hw.1 hρ.1 (v := v) hi pv_FU (some f) 0 (fun a ha => by cases ha; exact ⟨g2, L2, by unfold pv_FU; omega⟩) (by decide) (by omega)
        rw [cl_some, ← L1] at this
        exact this
  · refine OK_of hw hM (-1000000001) τ M ?_ t5 hw t3 (CAC_mono (by omega) t4) (fun ρ hρ => ⟨ρ, ?_, sc_r ρ, hρ⟩)
    · unfold f_X7_member
      rw [t1, Option.bind_some, c_hasVN hw.1 t2 (no_ix hx), Option.bind_some]
      dsimp only
      rw [if_pos rfl]
    · unfold f_X8_member
      rw [m_voices hw.1 hρ.1, Option.bind_some]
      dsimp only
      rw [m_hasVN (by omega) (no_ix hx), Option.bind_some]
      dsimp only
      rw [if_pos rfl]
