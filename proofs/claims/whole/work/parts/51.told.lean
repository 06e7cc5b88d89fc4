/-! what is so: both answer alike -/
theorem rgI (x : Int32) (lo hi : Nat) (hh : hi < 2 ^ 31) : (∃ k, lo ≤ k ∧ k ≤ hi ∧ x = nI k) ∨ (x.toInt < (lo : Int) ∨ (hi : Int) < x.toInt) := by
  by_cases c : x.toInt < (lo : Int) ∨ (hi : Int) < x.toInt
  · exact Or.inr c
  · refine Or.inl ⟨x.toInt.toNat, by omega, by omega, Int32.toInt_inj.mp ?_⟩
    rw [nI_toInt (by omega)]; omega
theorem m_inY {k lo hi : Nat} {L H : Int64} (hL : L.toInt = (lo : Int)) (hH : H.toInt = (hi : Int)) (h1 : lo ≤ k) (h2 : k ≤ hi) (h3 : k < 2 ^ 31) (σ : pv_S) : f_X8_in (nI k).toInt64 L H σ = some (1, σ) := by
  rw [e_X8_in, i2l_toInt, nI_toInt h3, hL, hH, if_pos (by omega)]
theorem m_inN {x : Int32} {lo hi : Int} {L H : Int64} (hL : L.toInt = lo) (hH : H.toInt = hi) (h : x.toInt < lo ∨ hi < x.toInt) (σ : pv_S) : f_X8_in x.toInt64 L H σ = some (0, σ) := by
  rw [e_X8_in, i2l_toInt, hL, hH, if_neg (by omega)]
theorem i_lt0 {x : Int32} : x < 0 ↔ x.toInt < 0 := by rw [Int32.lt_iff_toInt_lt]; exact Iff.rfl
theorem c_isVCn {x : Int32} (h : x.toInt < ((0 : Nat) : Int) ∨ ((10 : Nat) : Int) < x.toInt) (σ : pv_S) : f_X7_isVoiceCount x σ = some (0, σ) := by
  unfold f_X7_isVoiceCount
  by_cases c : x < 0
  · rw [if_pos c]
  · have : (10 : Int32) < x := by
      rw [Int32.lt_iff_toInt_lt]
      rw [i_lt0] at c
      show (10 : Int) < x.toInt
      omega
    rw [if_neg c, if_pos this]
section ASK
variable {σ : pv_S} {M : Zt} {E : Nat}
theorem c_weigh' {al : Option Nat} (hw : WM M) (hal : ∀ i, al = some i → i < qn (zq M)) (h : CLb σ M) (hC : CAC σ (zq M) E) : ∃ τ, f_X5_weigh (en al) σ = some τ ∧ CA τ (zq M) al ∧ CLb τ M ∧ CAC τ (zq M) E ∧ sm σ τ ∧ τ.1 5 = en al := by
  have hn := hw.1.2.1.1
  obtain ⟨τ, t1, t2, t3, t4, t5⟩ := c_weigh (τ := σ) (al := al) hw.1 hal h.1 (fun u1 u2 => by
    obtain ⟨e, -, -, -, c4⟩ := hC
    obtain ⟨al', a1, a2, a3⟩ := c4 u1
    have : al' = al := en_inj (fun j hj => by have := a1 j hj; omega) (fun j hj => by have := hal j hj; omega) (by rw [← a2, u2])
    rw [this] at a3; exact a3)
  refine ⟨τ, t1, t2, CLb_rd t5 (by decide) (by decide) h, ?_, fr_sm t5 (by decide) (by decide), t4⟩
  obtain ⟨e, c1, c2, -, -⟩ := hC
  have e0 : τ.1 0 = nI e := by rw [t5.1 0 (by decide), c2]
  exact ⟨e, c1, e0, Or.inr ⟨e, by omega, by rw [t3, c2]⟩, fun _ => ⟨al, hal, t4, t2⟩⟩
theorem c_weighed (hw : WM M) (h : CLb σ M) (hC : CAC σ (zq M) E) : ∃ τ, f_X7_weighed σ = some τ ∧ CA τ (zq M) none ∧ CLb τ M ∧ CAC τ (zq M) E ∧ sm σ τ ∧ τ.1 5 = en none := by
  obtain ⟨τ, t1, t2⟩ := c_weigh' (al := none) hw (fun i z => by cases z) h hC
  refine ⟨τ, ?_, t2⟩
  unfold f_X7_weighed
  rw [show (-1 : Int32) = en none from rfl, t1, Option.bind_some]
theorem c_stand (hw : WM M) (h : CLb σ M) (hC : CAC σ (zq M) E) : ∃ τ, f_X7_standing σ = some τ ∧ LN τ (zq M) ∧ CLb τ M ∧ CAC τ (zq M) E ∧ sm σ τ := by
  obtain ⟨τ, t1, t2, t3⟩ := c_standing hw.1 h.1
  exact ⟨τ, t1, t2, CLb_rd t3 (by decide) (by decide) h, CAC_fr t3 (by decide) (by decide) hC, fr_sm t3 (by decide) (by decide)⟩
def wr (M : Zt) : Nat → Nat → Int32
  | 0, _ => -1
  | d + 1, j => if lw (zq M) none (zv M j) = zc M j then wr M d (j + 1) else nI j
theorem c_wrong (hw : WM M) (h : CLb σ M) (hA : CA σ (zq M) none) : ∀ (d fuel j : Nat), j + d = zb M → d < fuel → f_X0_wrong_2 fuel (nI j) σ = some (wr M d j, σ) := by
  have hb := hw.2.2.2.1
  obtain ⟨-, -, -, ⟨b1, b2⟩, -⟩ := h
  intro d
  induction d with
  | zero =>
    intro fuel j hj hf
    cases fuel with
    | zero => omega
    | succ r =>
      unfold f_X0_wrong_2
      rw [b1, if_pos (nI_le (by omega) (by omega))]; rfl
  | succ d ih =>
    intro fuel j hj hf
    cases fuel with
    | zero => omega
    | succ r =>
      have hb1 := hb.1
      unfold f_X0_wrong_2
      rw [b1, if_neg (nI_ge (by omega) (by omega)), if_neg (show ¬ (20 : Int32) ≤ nI j from nI_ge (b := 20) (by omega) (by decide)), gd_nI _ (by omega) (by decide), la_nI _ _ (by omega), (b2 j (by omega)).1, c_leastCost hA (hb.2 j (by omega)), Option.bind_some]
      dsimp only
      rw [gd_nI _ (by omega) (by decide), la_nI _ _ (by omega), (b2 j (by omega)).2, p1]
      show _ = some ((if lw (zq M) none (zv M j) = zc M j then wr M d (j + 1) else nI j), σ)
      by_cases c : lw (zq M) none (zv M j) = zc M j
      · rw [if_pos c, if_pos c]; exact ih r (j + 1) (by omega) (by omega)
      · rw [if_neg c, if_neg c]
theorem m_wrong (hw : WM M) : ∀ (d fuel j : Nat) (ρ : pv_S), MO ρ M → j + d = zb M → d < fuel → ∃ g, f_X8_wrong_2 fuel (nI j) ρ = some (wr M d j, pv_pa ρ 17 g) := by
  have hb := hw.2.2.2.1
  intro d
  induction d with
  | zero =>
    intro fuel j ρ hρ hj hf
    cases fuel with
    | zero => omega
    | succ r =>
      obtain ⟨-, -, -, ⟨b1, b2⟩, -⟩ := hρ
      have hb1 := hb.1
      unfold f_X8_wrong_2
      rw [b1, if_pos (nI_le (by omega) (by omega))]; exact id17 _ _
  | succ d ih =>
    intro fuel j ρ hρ hj hf
    cases fuel with
    | zero => omega
    | succ r =>
      have hb1 := hb.1
      have b1 := hρ.2.2.2.1.1
      have b2 := hρ.2.2.2.1.2
      obtain ⟨g, g1, -⟩ := m_leastOf (σ := ρ) (al := none) hw.1 (fun i z => by cases z) hρ.1 (hb.2 j (by omega))
      unfold f_X8_wrong_2
      rw [b1, if_neg (nI_ge (by omega) (by omega)), gd_nI _ (by omega) (by decide), la_nI _ _ (by omega), (b2 j (by omega)).1, show (-1 : Int32) = en none from rfl, g1, Option.bind_some]
      dsimp only
      rw [gd_nI _ (by omega) (by decide), la_nI _ _ (by omega), show (pv_pa ρ 17 g).2 16 = ρ.2 16 from rfl, (b2 j (by omega)).2, p1, ml_none]
      show ∃ g', _ = some ((if lw (zq M) none (zv M j) = zc M j then wr M d (j + 1) else nI j), _)
      by_cases c : lw (zq M) none (zv M j) = zc M j
      · rw [if_pos c]
        obtain ⟨g', g2⟩ := ih r (j + 1) (pv_pa ρ 17 g) hρ (by omega) (by omega)
        rw [g2, pa_pa]
        exact ⟨g', by rw [if_pos c]⟩
      · rw [if_neg c]; exact ⟨g, by rw [if_neg c]⟩
end ASK
theorem ok_told (p0 : Int32) : OK (f_X7_told p0) (f_X8_told p0) := by
  intro σ E M hE hw h hC hM
  have hn := hw.1.2.1.1
  have hH : σ.1 7 = nI (zh M) := by obtain ⟨-, ⟨p, -, -, p3, -⟩, -⟩ := h; exact p3
  by_cases k0 : p0 = 0
  · subst k0
    refine OK_id hw h hC hM (nI (qn (zq M))) ?_ (fun ρ hρ => ?_)
    · unfold f_X7_told
      rw [if_pos rfl]
      rw [e_X6_count h.1, Option.bind_some]
    · unfold f_X8_told
      rw [if_pos rfl]
      rw [gd_0, lm_0, hρ.1.1]; exact id17 _ _
  by_cases k1 : p0 = 1
  · subst k1
    obtain ⟨τ, t1, t2, t3, t4, t5⟩ := c_stand hw h hC
    refine OK_of hw hM (nI (cn (zq M) (qn (zq M)))) τ M ?_ t5 hw t3 (CAC_mono (by omega) t4) (fun ρ hρ => ⟨ρ, ?_, sc_r ρ, hρ⟩)
    · unfold f_X7_told
      rw [if_neg (by decide), if_pos rfl, t1, Option.bind_some]
      unfold f_X4_countVoices
      rw [Option.bind_some, t2.2.1]
    · unfold f_X8_told
      rw [if_neg (by decide), if_pos rfl]
      rw [m_voices hw.1 hρ.1, Option.bind_some]
  by_cases k2 : p0 = 2
  · subst k2
    obtain ⟨τ, t1, t2, t3, t4, t5⟩ := c_stand hw h hC
    refine OK_of hw hM (nI (cn (zq M) (qn (zq M)) * qt (zq M) 3 + sw (zq M) (qn (zq M)))) τ M ?_ t5 hw t3 (CAC_mono (by omega) t4) (fun ρ hρ => ⟨ρ, ?_, sc_r ρ, hρ⟩)
    · unfold f_X7_told
      rw [if_neg (by decide), if_neg (by decide), if_pos rfl, t1, Option.bind_some]
      rw [c_costOfAll hw.1 t2, Option.bind_some]
    · unfold f_X8_told
      rw [if_neg (by decide), if_neg (by decide), if_pos rfl]
      rw [m_costNow hw.1 hρ.1, Option.bind_some]
  by_cases k3 : p0 = 3
  · subst k3
    obtain ⟨τ, t1, t2, t3, t4, t5, -⟩ := c_weighed hw h hC
    obtain ⟨k, a1, a2, a3⟩ := fw_ex hw.1 none
    refine OK_of hw hM (nI k) τ M ?_ t5 hw t3 (CAC_mono (by omega) t4) (fun ρ hρ => ?_)
    · unfold f_X7_told
      rw [if_neg (by decide), if_neg (by decide), if_neg (by decide), if_pos rfl, t1, Option.bind_some]
      rw [c_fewest hw.1 t2 a1 a2 a3, Option.bind_some]
    · obtain ⟨g, g1⟩ := m_fewest hw.1 a1 a2 a3 k pv_FU 0 ρ hρ.1 (by omega) (by unfold pv_FU; omega)
      refine ⟨pv_pa ρ 17 g, ?_, sc_pa ρ g (by decide), hρ⟩
      unfold f_X8_told
      rw [if_neg (by decide), if_neg (by decide), if_neg (by decide), if_pos rfl]
      unfold f_X8_fewest
      rw [show (0 : Int32) = nI 0 from rfl, g1, Option.bind_some]
  by_cases k4 : p0 = 4
  · subst k4
    obtain ⟨τ, t1, t2, t3, t4, t5, -⟩ := c_weighed hw h hC
    obtain ⟨k, a1, a2⟩ := c_cheapest hw.1 t2
    refine OK_of hw hM (nI k) τ M ?_ t5 hw t3 (CAC_mono (by omega) t4) (fun ρ hρ => ?_)
    · unfold f_X7_told
      rw [if_neg (by decide), if_neg (by decide), if_neg (by decide), if_neg (by decide), if_pos rfl, t1, Option.bind_some]
      rw [a1, Option.bind_some]
    · obtain ⟨k', g, g1, g2⟩ := m_cheapest (al := none) hw.1 (fun i z => by cases z) hρ.1
      have e : k = k' := CH_u a2 (show CH (lk (zq M) none) (qt (zq M) 3) 11 k' from g2)
      subst e
      refine ⟨pv_pa ρ 17 g, ?_, sc_pa ρ g (by decide), hρ⟩
      unfold f_X8_told
      rw [if_neg (by decide), if_neg (by decide), if_neg (by decide), if_neg (by decide), if_pos rfl]
      rw [show (-1 : Int32) = en none from rfl, g1, Option.bind_some]
  by_cases k5 : p0 = 5
  · subst k5
    obtain ⟨τ, t1, t2, t3, t4, t5, -⟩ := c_weighed hw h hC
    obtain ⟨k, a1, a2⟩ := c_cheapestCost hw.1 t2
    refine OK_of hw hM (nI (lk (zq M) none k + k * qt (zq M) 3)) τ M ?_ t5 hw t3 (CAC_mono (by omega) t4) (fun ρ hρ => ?_)
    · unfold f_X7_told
      rw [if_neg (by decide), if_neg (by decide), if_neg (by decide), if_neg (by decide), if_neg (by decide), if_pos rfl, t1, Option.bind_some]
      rw [a1, Option.bind_some]
    · obtain ⟨k', g, g1, g2⟩ := m_leastOfAll (al := none) hw.1 (fun i z => by cases z) hρ.1
      have e : k = k' := CH_u a2 (show CH (lk (zq M) none) (qt (zq M) 3) 11 k' from g2)
      subst e
      refine ⟨pv_pa ρ 17 g, ?_, sc_pa ρ g (by decide), hρ⟩
      unfold f_X8_told
      rw [if_neg (by decide), if_neg (by decide), if_neg (by decide), if_neg (by decide), if_neg (by decide), if_pos rfl]
      rw [show (-1 : Int32) = en none from rfl, g1, Option.bind_some]; rfl
  by_cases k6 : p0 = 6
  · subst k6
    refine OK_id hw h hC hM (nI (cO' (zq M) (qn (zq M)) 0 0)) ?_ (fun ρ hρ => ?_)
    · unfold f_X7_told
      rw [if_neg (by decide), if_neg (by decide), if_neg (by decide), if_neg (by decide), if_neg (by decide), if_neg (by decide), if_pos rfl]
      rw [c_crossings hw.1 h.1, Option.bind_some]
    · unfold f_X8_told
      rw [if_neg (by decide), if_neg (by decide), if_neg (by decide), if_neg (by decide), if_neg (by decide), if_neg (by decide), if_pos rfl]
      rw [m_crossings hw.1 hρ.1, Option.bind_some]; exact id17 _ _
  by_cases k7 : p0 = 7
  · subst k7
    refine OK_id hw h hC hM (nI (qt (zq M) 0)) ?_ (fun ρ hρ => ?_)
    · unfold f_X7_told
      rw [if_neg (by decide), if_neg (by decide), if_neg (by decide), if_neg (by decide), if_neg (by decide), if_neg (by decide), if_neg (by decide), if_pos rfl]
      unfold f_X7_told_136
      rw [show (7 - 7 : Int32) = nI 0 by decide, e_X6_valueOf h.1 (by decide), Option.bind_some]
    · unfold f_X8_told
      rw [if_neg (by decide), if_neg (by decide), if_neg (by decide), if_neg (by decide), if_neg (by decide), if_neg (by decide), if_neg (by decide)]
      unfold f_X8_toldMore
      rw [if_pos rfl]
      unfold f_X8_toldMore_52
      rw [show ((1 + 7) - 7 : Int32) = nI (1 + 0) by decide, gd_nI _ (by decide) (by decide), la_nI _ _ (by decide), RM_t hρ.1 (by decide), Option.bind_some]; exact id17 _ _
  by_cases k8 : p0 = 8
  · subst k8
    refine OK_id hw h hC hM (nI (qt (zq M) 1)) ?_ (fun ρ hρ => ?_)
    · unfold f_X7_told
      rw [if_neg (by decide), if_neg (by decide), if_neg (by decide), if_neg (by decide), if_neg (by decide), if_neg (by decide), if_neg (by decide), if_neg (by decide), if_pos rfl]
      unfold f_X7_told_136
      rw [show (8 - 7 : Int32) = nI 1 by decide, e_X6_valueOf h.1 (by decide), Option.bind_some]
    · unfold f_X8_told
      rw [if_neg (by decide), if_neg (by decide), if_neg (by decide), if_neg (by decide), if_neg (by decide), if_neg (by decide), if_neg (by decide)]
      unfold f_X8_toldMore
      rw [if_neg (by decide), if_pos rfl]
      unfold f_X8_toldMore_52
      rw [show ((1 + 8) - 7 : Int32) = nI (1 + 1) by decide, gd_nI _ (by decide) (by decide), la_nI _ _ (by decide), RM_t hρ.1 (by decide), Option.bind_some]; exact id17 _ _
  by_cases k9 : p0 = 9
  · subst k9
    refine OK_id hw h hC hM (nI (qt (zq M) 2)) ?_ (fun ρ hρ => ?_)
    · unfold f_X7_told
      rw [if_neg (by decide), if_neg (by decide), if_neg (by decide), if_neg (by decide), if_neg (by decide), if_neg (by decide), if_neg (by decide), if_neg (by decide), if_neg (by decide), if_pos rfl]
      unfold f_X7_told_136
      rw [show (9 - 7 : Int32) = nI 2 by decide, e_X6_valueOf h.1 (by decide), Option.bind_some]
    · unfold f_X8_told
      rw [if_neg (by decide), if_neg (by decide), if_neg (by decide), if_neg (by decide), if_neg (by decide), if_neg (by decide), if_neg (by decide)]
      unfold f_X8_toldMore
      rw [if_neg (by decide), if_neg (by decide), if_pos rfl]
      unfold f_X8_toldMore_52
      rw [show ((1 + 9) - 7 : Int32) = nI (1 + 2) by decide, gd_nI _ (by decide) (by decide), la_nI _ _ (by decide), RM_t hρ.1 (by decide), Option.bind_some]; exact id17 _ _
  by_cases k10 : p0 = 10
  · subst k10
    refine OK_id hw h hC hM (nI (qt (zq M) 3)) ?_ (fun ρ hρ => ?_)
    · unfold f_X7_told
      rw [if_neg (by decide), if_neg (by decide), if_neg (by decide), if_neg (by decide), if_neg (by decide), if_neg (by decide), if_neg (by decide), if_neg (by decide), if_neg (by decide), if_neg (by decide), if_pos rfl]
      unfold f_X7_told_136
      rw [show (10 - 7 : Int32) = nI 3 by decide, e_X6_valueOf h.1 (by decide), Option.bind_some]
    · unfold f_X8_told
      rw [if_neg (by decide), if_neg (by decide), if_neg (by decide), if_neg (by decide), if_neg (by decide), if_neg (by decide), if_neg (by decide)]
      unfold f_X8_toldMore
      rw [if_neg (by decide), if_neg (by decide), if_neg (by decide), if_pos rfl]
      unfold f_X8_toldMore_52
      rw [show ((1 + 10) - 7 : Int32) = nI (1 + 3) by decide, gd_nI _ (by decide) (by decide), la_nI _ _ (by decide), RM_t hρ.1 (by decide), Option.bind_some]; exact id17 _ _
  by_cases k11 : p0 = 11
  · subst k11
    refine OK_id hw h hC hM (nI (qt (zq M) 4)) ?_ (fun ρ hρ => ?_)
    · unfold f_X7_told
      rw [if_neg (by decide), if_neg (by decide), if_neg (by decide), if_neg (by decide), if_neg (by decide), if_neg (by decide), if_neg (by decide), if_neg (by decide), if_neg (by decide), if_neg (by decide), if_neg (by decide), if_pos rfl]
      unfold f_X7_told_136
      rw [show (11 - 7 : Int32) = nI 4 by decide, e_X6_valueOf h.1 (by decide), Option.bind_some]
    · unfold f_X8_told
      rw [if_neg (by decide), if_neg (by decide), if_neg (by decide), if_neg (by decide), if_neg (by decide), if_neg (by decide), if_neg (by decide)]
      unfold f_X8_toldMore
      rw [if_neg (by decide), if_neg (by decide), if_neg (by decide), if_neg (by decide), if_pos rfl]
      unfold f_X8_toldMore_52
      rw [show ((1 + 11) - 7 : Int32) = nI (1 + 4) by decide, gd_nI _ (by decide) (by decide), la_nI _ _ (by decide), RM_t hρ.1 (by decide), Option.bind_some]; exact id17 _ _
  by_cases k12 : p0 = 12
  · subst k12
    refine OK_id hw h hC hM (nI (zb M)) ?_ (fun ρ hρ => ?_)
    · unfold f_X7_told
      rw [if_neg (by decide), if_neg (by decide), if_neg (by decide), if_neg (by decide), if_neg (by decide), if_neg (by decide), if_neg (by decide), if_neg (by decide), if_neg (by decide), if_neg (by decide), if_neg (by decide), if_neg (by decide), if_pos rfl]
      unfold f_X0_size
      rw [Option.bind_some, h.2.2.2.1.1]
    · unfold f_X8_told
      rw [if_neg (by decide), if_neg (by decide), if_neg (by decide), if_neg (by decide), if_neg (by decide), if_neg (by decide), if_neg (by decide)]
      unfold f_X8_toldMore
      rw [if_neg (by decide), if_neg (by decide), if_neg (by decide), if_neg (by decide), if_neg (by decide), if_pos rfl]
      rw [hρ.2.2.2.1.1, Option.bind_some]; exact id17 _ _
  by_cases k13 : p0 = 13
  · subst k13
    obtain ⟨τ, t1, t2, t3, t4, t5, -⟩ := c_weighed hw h hC
    refine OK_of hw hM (wr M (zb M) 0) τ M ?_ t5 hw t3 (CAC_mono (by omega) t4) (fun ρ hρ => ?_)
    · unfold f_X7_told
      rw [if_neg (by decide), if_neg (by decide), if_neg (by decide), if_neg (by decide), if_neg (by decide), if_neg (by decide), if_neg (by decide), if_neg (by decide), if_neg (by decide), if_neg (by decide), if_neg (by decide), if_neg (by decide), if_neg (by decide), if_pos rfl, t1, Option.bind_some]
      unfold f_X0_wrong
      rw [show (0 : Int32) = nI 0 from rfl, c_wrong hw t3 t2 (zb M) pv_FU 0 (by omega) (by have := hw.2.2.2.1.1; unfold pv_FU; omega), Option.bind_some]
    · obtain ⟨g, g1⟩ := m_wrong hw (zb M) pv_FU 0 ρ hρ (by omega) (by have := hw.2.2.2.1.1; unfold pv_FU; omega)
      refine ⟨pv_pa ρ 17 g, ?_, sc_pa ρ g (by decide), hρ⟩
      unfold f_X8_told
      rw [if_neg (by decide), if_neg (by decide), if_neg (by decide), if_neg (by decide), if_neg (by decide), if_neg (by decide), if_neg (by decide)]
      unfold f_X8_toldMore
      rw [if_neg (by decide), if_neg (by decide), if_neg (by decide), if_neg (by decide), if_neg (by decide), if_neg (by decide), if_pos rfl]
      unfold f_X8_wrong
      rw [show (0 : Int32) = nI 0 from rfl, g1, Option.bind_some, Option.bind_some]
  by_cases k14 : p0 = 14
  · subst k14
    refine OK_id hw h hC hM (nI (zh M)) ?_ (fun ρ hρ => ?_)
    · unfold f_X7_told
      rw [if_neg (by decide), if_neg (by decide), if_neg (by decide), if_neg (by decide), if_neg (by decide), if_neg (by decide), if_neg (by decide), if_neg (by decide), if_neg (by decide), if_neg (by decide), if_neg (by decide), if_neg (by decide), if_neg (by decide), if_neg (by decide), if_pos rfl]
      unfold f_X2_held
      rw [Option.bind_some, hH]
    · unfold f_X8_told
      rw [if_neg (by decide), if_neg (by decide), if_neg (by decide), if_neg (by decide), if_neg (by decide), if_neg (by decide), if_neg (by decide)]
      unfold f_X8_toldMore
      rw [if_neg (by decide), if_neg (by decide), if_neg (by decide), if_neg (by decide), if_neg (by decide), if_neg (by decide), if_neg (by decide), if_pos rfl]
      rw [hρ.2.1.1, Option.bind_some]; exact id17 _ _
  by_cases k15 : p0 = 15
  · subst k15
    refine OK_id hw h hC hM (nI (zs M)) ?_ (fun ρ hρ => ?_)
    · unfold f_X7_told
      rw [if_neg (by decide), if_neg (by decide), if_neg (by decide), if_neg (by decide), if_neg (by decide), if_neg (by decide), if_neg (by decide), if_neg (by decide), if_neg (by decide), if_neg (by decide), if_neg (by decide), if_neg (by decide), if_neg (by decide), if_neg (by decide), if_neg (by decide), if_pos rfl]
      unfold f_X1_state
      rw [Option.bind_some, h.2.2.2.2]
    · unfold f_X8_told
      rw [if_neg (by decide), if_neg (by decide), if_neg (by decide), if_neg (by decide), if_neg (by decide), if_neg (by decide), if_neg (by decide)]
      unfold f_X8_toldMore
      rw [if_neg (by decide), if_neg (by decide), if_neg (by decide), if_neg (by decide), if_neg (by decide), if_neg (by decide), if_neg (by decide), if_neg (by decide), if_pos rfl]
      rw [hρ.2.2.2.2, Option.bind_some]; exact id17 _ _
  refine OK_id hw h hC hM (-1000000002) ?_ (fun ρ hρ => ?_)
  · unfold f_X7_told
    rw [if_neg k0, if_neg k1, if_neg k2, if_neg k3, if_neg k4, if_neg k5, if_neg k6, if_neg k7, if_neg k8, if_neg k9, if_neg k10, if_neg k11, if_neg k12, if_neg k13, if_neg k14, if_neg k15]
  · unfold f_X8_told
    rw [if_neg k0, if_neg k1, if_neg k2, if_neg k3, if_neg k4, if_neg k5, if_neg k6]
    unfold f_X8_toldMore
    rw [if_neg k7, if_neg k8, if_neg k9, if_neg k10, if_neg k11, if_neg k12, if_neg k13, if_neg k14, if_neg k15, Option.bind_some]; exact id17 _ _
