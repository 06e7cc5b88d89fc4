/-! deeds: both do alike -/
theorem rgN {α : Type} {x a b : Int32} {lo hi : Nat} (ha : a.toInt = (lo : Int)) (hb : b.toInt = (hi : Int)) (h : x.toInt < (lo : Int) ∨ (hi : Int) < x.toInt) (A B : α) : (if x < a then A else (if b < x then A else B)) = A := by
  by_cases c : x < a
  · rw [if_pos c]
  · have : b < x := by
      rw [Int32.lt_iff_toInt_lt, ha] at c
      rw [Int32.lt_iff_toInt_lt, hb]; omega
    rw [if_neg c, if_pos this]
theorem rgY {α : Type} {a b : Int32} {k lo hi : Nat} (ha : a.toInt = (lo : Int)) (hb : b.toInt = (hi : Int)) (h1 : lo ≤ k) (h2 : k ≤ hi) (h3 : k < 2 ^ 31) (A B : α) : (if nI k < a then A else (if b < nI k then A else B)) = B := by
  rw [if_neg (by rw [Int32.lt_iff_toInt_lt, ha, nI_toInt h3]; omega), if_neg (by rw [Int32.lt_iff_toInt_lt, hb, nI_toInt h3]; omega)]
theorem vnote (p0 p1' p2 : Int32) : (∃ o l t, o ≤ 99 ∧ 1 ≤ l ∧ l ≤ 32 ∧ t ≤ 127 ∧ p0 = nI o ∧ p1' = nI l ∧ p2 = nI t ∧ (∀ σ, f_X6_canBe p0 p1' p2 σ = some (1, σ)) ∧ ∀ σ, f_X8_isNoteOf p0 p1' p2 σ = some (1, σ)) ∨ ((∀ σ, f_X6_canBe p0 p1' p2 σ = some (0, σ)) ∧ ∀ σ, f_X8_isNoteOf p0 p1' p2 σ = some (0, σ)) := by
  rcases rgI p0 0 99 (by decide) with ⟨o, -, ho, rfl⟩ | ho
  · rcases rgI p1' 1 32 (by decide) with ⟨l, hl1, hl2, rfl⟩ | hl
    · rcases rgI p2 0 127 (by decide) with ⟨t, -, ht, rfl⟩ | ht
      · refine Or.inl ⟨o, l, t, ho, hl1, hl2, ht, rfl, rfl, rfl, fun σ => ?_, fun σ => ?_⟩
        · unfold f_X6_canBe
          rw [rgY (lo := 0) (hi := 99) rfl rfl (by omega) ho (by omega), rgY (lo := 1) (hi := 32) rfl rfl hl1 hl2 (by omega), rgY (lo := 0) (hi := 127) rfl rfl (by omega) ht (by omega)]
        · unfold f_X8_isNoteOf
          rw [m_inY (lo := 0) (hi := 99) rfl rfl (by omega) ho (by omega), Option.bind_some]
          dsimp only
          rw [if_neg c10, m_inY (lo := 1) (hi := 32) rfl rfl hl1 hl2 (by omega), Option.bind_some]
          dsimp only
          rw [if_neg c10, m_inY (lo := 0) (hi := 127) rfl rfl (by omega) ht (by omega), Option.bind_some]
          dsimp only
          rw [if_neg c10]
      · refine Or.inr ⟨fun σ => ?_, fun σ => ?_⟩
        · unfold f_X6_canBe
          rw [rgY (lo := 0) (hi := 99) rfl rfl (by omega) ho (by omega), rgY (lo := 1) (hi := 32) rfl rfl hl1 hl2 (by omega), rgN (lo := 0) (hi := 127) rfl rfl ht]
        · unfold f_X8_isNoteOf
          rw [m_inY (lo := 0) (hi := 99) rfl rfl (by omega) ho (by omega), Option.bind_some]
          dsimp only
          rw [if_neg c10, m_inY (lo := 1) (hi := 32) rfl rfl hl1 hl2 (by omega), Option.bind_some]
          dsimp only
          rw [if_neg c10, m_inN rfl rfl ht, Option.bind_some]
          dsimp only
          rw [if_pos rfl]
    · refine Or.inr ⟨fun σ => ?_, fun σ => ?_⟩
      · unfold f_X6_canBe
        rw [rgY (lo := 0) (hi := 99) rfl rfl (by omega) ho (by omega), rgN (lo := 1) (hi := 32) rfl rfl hl]
      · unfold f_X8_isNoteOf
        rw [m_inY (lo := 0) (hi := 99) rfl rfl (by omega) ho (by omega), Option.bind_some]
        dsimp only
        rw [if_neg c10, m_inN rfl rfl hl, Option.bind_some]
        dsimp only
        rw [if_pos rfl]
  · refine Or.inr ⟨fun σ => ?_, fun σ => ?_⟩
    · unfold f_X6_canBe
      rw [rgN (lo := 0) (hi := 99) rfl rfl ho]
    · unfold f_X8_isNoteOf
      rw [m_inN rfl rfl ho, Option.bind_some]
      dsimp only
      rw [if_pos rfl]
section DEED
variable {σ : pv_S} {M : Zt} {E : Nat}
theorem WM_q (hw : WM M) {q' : Sc} (h : WF q') : WM (q', M.2) := ⟨h, hw.2⟩
theorem CLb_0 (c : Nat → Int32) (v : Int32) {q' : Sc} (hc : RC c 0 q') (h : CLb σ M) : CLb (pv_pa (pv_pi σ 0 v) 0 c) (q', M.2) := ⟨hc, h.2⟩
theorem CLb_00 (c : Nat → Int32) {q' : Sc} (hc : RC c 0 q') (h : CLb σ M) : CLb (pv_pa σ 0 c) (q', M.2) := ⟨hc, h.2⟩
theorem MO_13 {ρ : pv_S} (w : Nat → Int32) {q' : Sc} (hw : WM M) (hx : ∀ x, 46 ≤ x → w x = ρ.2 13 x) (hq : RM w 0 q') (h : MO ρ M) : MO (pv_pa ρ 13 w) (q', M.2) := MO_cg (σ := ρ) (τ := pv_pa ρ 13 w) rfl rfl rfl rfl rfl rfl rfl hx hw hq h
theorem d_bring (hw : WM M) (h : CLb σ M) (hC : CAC σ (zq M) E) (hE : E < 2 ^ 30) (hn : qn (zq M) < 10) {o l t : Nat} (ho : o ≤ 99) (hl : 1 ≤ l) (hl2 : l ≤ 32) (ht : t ≤ 127) : ∃ p τ, f_X6_bring (nI o) (nI l) (nI t) σ = some (nI p, τ) ∧ PL (zq M) ((o * 128 + t) * 64 + l) p ∧ WF (ins (zq M) p o l t) ∧ CLb τ (ins (zq M) p o l t, M.2) ∧ CAC τ (ins (zq M) p o l t) (E + 1) ∧ sm σ τ := by
  obtain ⟨p, c, c1, c2, c3⟩ := h_bring hw.1 h.1 hn ho hl hl2 ht
  refine ⟨p, _, c1, c2, WF_ins hw.1 hn ho hl hl2 ht c2, ?_, CAC_up hE rfl rfl hC, sm_t (sm_pi σ _ (by decide)) (sm_pa _ c (by decide))⟩
  exact CLb_0 c _ c3 h
theorem d_drop (hw : WM M) (h : CLb σ M) (hC : CAC σ (zq M) E) (hE : E < 2 ^ 30) {i : Nat} (hi : i < qn (zq M)) : ∃ τ, f_X6_drop (nI i) σ = some τ ∧ CLb τ (del (zq M) i, M.2) ∧ CAC τ (del (zq M) i) (E + 1) ∧ sm σ τ := by
  obtain ⟨c, c1, c2⟩ := h_drop hw.1 h.1 hi
  refine ⟨_, c1, ?_, CAC_up hE rfl rfl hC, sm_t (sm_pi σ _ (by decide)) (sm_pa _ c (by decide))⟩
  exact CLb_0 c _ c2 h
theorem d_record (hw : WM M) (h : CLb σ M) (hC : CAC σ (zq M) E) : ∃ τ, f_X2_record σ = some τ ∧ CLb τ (rec' M) ∧ CAC τ (zq (rec' M)) E ∧ sm σ τ := by
  obtain ⟨τ, t1, t2, t3⟩ := c_record hw h
  exact ⟨τ, t1, t2, CAC_fr t3 (by decide) (by decide) hC, fr_sm t3 (by decide) (by decide)⟩
theorem dm_add {ρ : pv_S} (hw : WM M) (h : MO ρ M) (hn : qn (zq M) < 10) {o l t p : Nat} (ho : o ≤ 99) (hl : l ≤ 32) (ht : t ≤ 127) (hp : PL (zq M) ((o * 128 + t) * 64 + l) p) : ∃ τ, f_X8_add (nI o) (nI l) (nI t) ρ = some (nI p, τ) ∧ MO τ (ins (zq M) p o l t, M.2) ∧ sc ρ τ ∧ ∀ k, τ.1 k = ρ.1 k := by
  obtain ⟨p', w, w1, w2, w3, w4⟩ := h_add hw.1 hn h.1 ho hl ht
  have e : p' = p := PL_u w2 hp
  subst e
  refine ⟨_, w1, ?_, sc_pa ρ w (by decide), fun _ => rfl⟩
  exact MO_13 w hw w4 w3 h
theorem dm_remove {ρ : pv_S} (hw : WM M) (h : MO ρ M) {i : Nat} (hi : i < qn (zq M)) : ∃ τ, f_X8_remove (nI i) ρ = some τ ∧ MO τ (del (zq M) i, M.2) ∧ sc ρ τ := by
  obtain ⟨w, w1, w2, w3⟩ := h_remove hw.1 h.1 hi
  refine ⟨_, w1, ?_, sc_pa ρ w (by decide)⟩
  exact MO_13 w hw w3 w2 h
theorem dm_remember {ρ : pv_S} (hw : WM M) (h : MO ρ M) : ∃ τ, f_X8_remember ρ = some τ ∧ MO τ (rec' M) ∧ sc ρ τ := by
  obtain ⟨τ, t1, t2, t3⟩ := m_remember hw h
  exact ⟨τ, t1, t2, fr_sc t3 (by decide) (by decide)⟩
theorem c_fullY (h : RC (σ.2 0) 0 (zq M)) (hn : qn (zq M) = 10) : f_X6_isFull σ = some (1, σ) := by
  unfold f_X6_isFull
  rw [show (0 : Int32) = nI 0 from rfl, gd_nI _ (by decide) (by decide), la_nI _ _ (by decide), h.1, hn, if_neg (by decide)]
theorem c_fullN (h : RC (σ.2 0) 0 (zq M)) (hn : qn (zq M) < 10) : f_X6_isFull σ = some (0, σ) := by
  unfold f_X6_isFull
  have : nI (qn (zq M)) < (10 : Int32) := nI_lt (b := 10) hn (by decide)
  rw [show (0 : Int32) = nI 0 from rfl, gd_nI _ (by decide) (by decide), la_nI _ _ (by decide), h.1, if_pos this]
end DEED
theorem ok_note (p0 p1' p2 : Int32) : OK (f_X7_note p0 p1' p2) (f_X8_note p0 p1' p2) := by
  intro σ E M hE hw h hC hM
  have hn := hw.1.2.1.1
  rcases vnote p0 p1' p2 with ⟨o, l, t, ho, hl, hl2, ht, rfl, rfl, rfl, v1, v2⟩ | ⟨v1, v2⟩
  · by_cases hf : qn (zq M) = 10
    · refine OK_id hw h hC hM (-1000000004) ?_ (fun ρ hρ => ?_)
      · unfold f_X7_note
        rw [v1, Option.bind_some]
        dsimp only
        rw [if_neg c10, c_fullY h.1 hf, Option.bind_some]
        dsimp only
        rw [if_neg c10]
      · unfold f_X8_note
        rw [v2, Option.bind_some]
        dsimp only
        rw [if_neg c10, gd_0, lm_0, hρ.1.1, hf, if_pos (by decide)]; exact id17 _ _
    · have hn' : qn (zq M) < 10 := by omega
      obtain ⟨τ, t1, t2, t3, t4⟩ := d_record hw h hC
      obtain ⟨p, τ2, b1, b2, b3, b4, b5, b6⟩ := d_bring (WM_rec hw) t2 t3 (by omega) hn' ho hl hl2 ht
      refine OK_of hw hM (nI p) τ2 (ins (zq (rec' M)) p o l t, (rec' M).2) ?_ (sm_t t4 b6) (WM_q (WM_rec hw) b3) b4 (CAC_mono (E := E + 1) (by omega) b5) (fun ρ hρ => ?_)
      · unfold f_X7_note
        rw [v1, Option.bind_some]
        dsimp only
        rw [if_neg c10, c_fullN h.1 hn', Option.bind_some]
        dsimp only
        rw [if_pos rfl, t1, Option.bind_some, b1, Option.bind_some]
      · obtain ⟨τ3, r1, r2, r3⟩ := dm_remember hw hρ
        obtain ⟨τ4, s1, s2, s3, -⟩ := dm_add (WM_rec hw) r2 hn' ho hl2 ht b2
        refine ⟨τ4, ?_, sc_t r3 s3, s2⟩
        unfold f_X8_note
        rw [v2, Option.bind_some]
        dsimp only
        rw [if_neg c10, gd_0, lm_0, hρ.1.1, if_neg (show ¬ nI (qn (zq M)) = 10 from fun z => hf ((nI_eq (b := 10) (by omega) (by decide)).mp z)), r1, Option.bind_some, s1, Option.bind_some]
  · refine OK_id hw h hC hM (-1000000002) ?_ (fun ρ hρ => ?_)
    · unfold f_X7_note
      rw [v1, Option.bind_some]
      dsimp only
      rw [if_pos rfl]
    · unfold f_X8_note
      rw [v2, Option.bind_some]
      dsimp only
      rw [if_pos rfl]; exact id17 _ _
theorem ok_take (p0 : Int32) : OK (f_X7_take p0) (f_X8_take p0) := by
  intro σ E M hE hw h hC hM
  have hn := hw.1.2.1.1
  by_cases hx : ∃ i, i < qn (zq M) ∧ p0 = nI i
  · obtain ⟨i, hi, rfl⟩ := hx
    obtain ⟨τ, t1, t2, t3, t4⟩ := d_record hw h hC
    obtain ⟨τ2, b1, b4, b5, b6⟩ := d_drop (WM_rec hw) t2 t3 (by omega) (i := i) hi
    refine OK_of hw hM (nI (qn (zq M) - 1)) τ2 (del (zq (rec' M)) i, (rec' M).2) ?_ (sm_t t4 b6) (WM_q (WM_rec hw) (WF_del hw.1 hi)) b4 (CAC_mono (E := E + 1) (by omega) b5) (fun ρ hρ => ?_)
    · unfold f_X7_take
      rw [e_X6_has hn h.1 hi, Option.bind_some]
      dsimp only
      rw [if_neg c10, t1, Option.bind_some, b1, Option.bind_some, e_X6_count b4.1, Option.bind_some]; rfl
    · obtain ⟨τ3, r1, r2, r3⟩ := dm_remember hw hρ
      obtain ⟨τ4, s1, s2, s3⟩ := dm_remove (WM_rec hw) r2 (i := i) hi
      refine ⟨τ4, ?_, sc_t r3 s3, s2⟩
      unfold f_X8_take
      rw [e_X8_isNote hn hρ.1 hi, Option.bind_some]
      dsimp only
      rw [if_neg c10, r1, Option.bind_some, s1, Option.bind_some, gd_0, lm_0, s2.1.1]; rfl
  · refine OK_id hw h hC hM (-1000000001) ?_ (fun ρ hρ => ?_)
    · unfold f_X7_take
      rw [e_X6_hasN hn h.1 (no_ix hx), Option.bind_some]
      dsimp only
      rw [if_pos rfl]
    · unfold f_X8_take
      rw [e_X8_isNoteN hn hρ.1 (no_ix hx), Option.bind_some]
      dsimp only
      rw [if_pos rfl]; exact id17 _ _
theorem ok_move (p0 p1' p2 p3 : Int32) : OK (f_X7_move p0 p1' p2 p3) (f_X8_move p0 p1' p2 p3) := by
  intro σ E M hE hw h hC hM
  have hn := hw.1.2.1.1
  by_cases hx : ∃ i, i < qn (zq M) ∧ p0 = nI i
  · obtain ⟨i, hi, rfl⟩ := hx
    rcases vnote p1' p2 p3 with ⟨o, l, t, ho, hl, hl2, ht, rfl, rfl, rfl, v1, v2⟩ | ⟨v1, v2⟩
    · obtain ⟨τ, t1, t2, t3, t4⟩ := d_record hw h hC
      obtain ⟨τ2, b1, b4, b5, b6⟩ := d_drop (WM_rec hw) t2 t3 (by omega) (i := i) hi
      have hw2 : WM (del (zq (rec' M)) i, (rec' M).2) := WM_q (WM_rec hw) (WF_del hw.1 hi)
      have hn2 : qn (zq (del (zq (rec' M)) i, (rec' M).2)) < 10 := by show qn (zq M) - 1 < 10; omega
      obtain ⟨p, τ5, c1, c2, c3, c4, c5, c6⟩ := d_bring hw2 b4 b5 (by omega) hn2 ho hl hl2 ht
      refine OK_of hw hM (nI p) τ5 (ins (del (zq (rec' M)) i) p o l t, (rec' M).2) ?_ (sm_t t4 (sm_t b6 c6)) (WM_q hw2 c3) c4 (CAC_mono (E := E + 1 + 1) (by omega) c5) (fun ρ hρ => ?_)
      · unfold f_X7_move
        rw [e_X6_has hn h.1 hi, Option.bind_some]
        dsimp only
        rw [if_neg c10, v1, Option.bind_some]
        dsimp only
        rw [if_neg c10, t1, Option.bind_some, b1, Option.bind_some, c1, Option.bind_some]
      · obtain ⟨τ3, r1, r2, r3⟩ := dm_remember hw hρ
        obtain ⟨τ4, s1, s2, s3⟩ := dm_remove (WM_rec hw) r2 (i := i) hi
        obtain ⟨τ6, u1, u2, u3, -⟩ := dm_add hw2 s2 hn2 ho hl2 ht c2
        refine ⟨τ6, ?_, sc_t r3 (sc_t s3 u3), u2⟩
        unfold f_X8_move
        rw [e_X8_isNote hn hρ.1 hi, Option.bind_some]
        dsimp only
        rw [if_neg c10, v2, Option.bind_some]
        dsimp only
        rw [if_neg c10, r1, Option.bind_some, s1, Option.bind_some, u1, Option.bind_some]
    · refine OK_id hw h hC hM (-1000000002) ?_ (fun ρ hρ => ?_)
      · unfold f_X7_move
        rw [e_X6_has hn h.1 hi, Option.bind_some]
        dsimp only
        rw [if_neg c10, v1, Option.bind_some]
        dsimp only
        rw [if_pos rfl]
      · unfold f_X8_move
        rw [e_X8_isNote hn hρ.1 hi, Option.bind_some]
        dsimp only
        rw [if_neg c10, v2, Option.bind_some]
        dsimp only
        rw [if_pos rfl]; exact id17 _ _
  · refine OK_id hw h hC hM (-1000000001) ?_ (fun ρ hρ => ?_)
    · unfold f_X7_move
      rw [e_X6_hasN hn h.1 (no_ix hx), Option.bind_some]
      dsimp only
      rw [if_pos rfl]
    · unfold f_X8_move
      rw [e_X8_isNoteN hn hρ.1 (no_ix hx), Option.bind_some]
      dsimp only
      rw [if_pos rfl]; exact id17 _ _
theorem ok_share (p0 : Int32) : OK (f_X7_share p0) (f_X8_share p0) := by
  intro σ E M hE hw h hC hM
  have hn := hw.1.2.1.1
  by_cases hx : ∃ i, i < qn (zq M) ∧ p0 = nI i
  · obtain ⟨i, hi, rfl⟩ := hx
    by_cases hf : qn (zq M) = 10
    · refine OK_id hw h hC hM (-1000000004) ?_ (fun ρ hρ => ?_)
      · unfold f_X7_share
        rw [e_X6_has hn h.1 hi, Option.bind_some]
        dsimp only
        rw [if_neg c10, c_fullY h.1 hf, Option.bind_some]
        dsimp only
        rw [if_neg c10]
      · unfold f_X8_share
        rw [e_X8_isNote hn hρ.1 hi, Option.bind_some]
        dsimp only
        rw [if_neg c10, gd_0, lm_0, hρ.1.1, hf, if_pos (by decide)]; exact id17 _ _
    · have hn' : qn (zq M) < 10 := by omega
      obtain ⟨ho, hl, hl2, ht⟩ := hw.1.2.1.2 i hi
      obtain ⟨τ, t1, t2, t3, t4⟩ := d_record hw h hC
      obtain ⟨p, τ2, b1, b2, b3, b4, b5, b6⟩ := d_bring (WM_rec hw) t2 t3 (by omega) hn' ho hl hl2 ht
      refine OK_of hw hM (nI p) τ2 (ins (zq (rec' M)) p (qo (zq M) i) (ql (zq M) i) (qp (zq M) i), (rec' M).2) ?_ (sm_t t4 b6) (WM_q (WM_rec hw) b3) b4 (CAC_mono (E := E + 1) (by omega) b5) (fun ρ hρ => ?_)
      · unfold f_X7_share
        rw [e_X6_has hn h.1 hi, Option.bind_some]
        dsimp only
        rw [if_neg c10, c_fullN h.1 hn', Option.bind_some]
        dsimp only
        rw [if_pos rfl, t1, Option.bind_some, e_X6_on hn t2.1 hi, Option.bind_some]
        dsimp only
        rw [e_X6_length hn t2.1 hi, Option.bind_some]
        dsimp only
        rw [e_X6_pitch hn t2.1 hi, Option.bind_some]
        dsimp only
        rw [b1, Option.bind_some]
      · obtain ⟨τ3, r1, r2, r3⟩ := dm_remember hw hρ
        obtain ⟨τ4, s1, s2, s3, -⟩ := dm_add (WM_rec hw) r2 hn' ho hl2 ht b2
        refine ⟨τ4, ?_, sc_t r3 s3, s2⟩
        unfold f_X8_share
        rw [e_X8_isNote hn hρ.1 hi, Option.bind_some]
        dsimp only
        rw [if_neg c10, gd_0, lm_0, hρ.1.1, if_neg (show ¬ nI (qn (zq M)) = 10 from fun z => hf ((nI_eq (b := 10) (by omega) (by decide)).mp z)), r1, Option.bind_some, ad6, ad16, ad26, gd_nI _ (by omega) (by decide), gd_nI _ (by omega) (by decide), gd_nI _ (by omega) (by decide), la_nI _ _ (by omega), la_nI _ _ (by omega), la_nI _ _ (by omega), RM_on r2.1 hi, RM_len r2.1 hi, RM_pit r2.1 hi, show zq (rec' M) = zq M from rfl, s1, Option.bind_some]
  · refine OK_id hw h hC hM (-1000000001) ?_ (fun ρ hρ => ?_)
    · unfold f_X7_share
      rw [e_X6_hasN hn h.1 (no_ix hx), Option.bind_some]
      dsimp only
      rw [if_pos rfl]
    · unfold f_X8_share
      rw [e_X8_isNoteN hn hρ.1 (no_ix hx), Option.bind_some]
      dsimp only
      rw [if_pos rfl]; exact id17 _ _
theorem p0f_hi (w : Nat → Int32) {x : Nat} (hx : 46 ≤ x) : p0f 10 w x = w x := by unfold p0f; rw [if_neg (by omega)]
theorem ok_term (p0 p1' : Int32) : OK (f_X7_term p0 p1') (f_X8_term p0 p1') := by
  intro σ E M hE hw h hC hM
  have hn := hw.1.2.1.1
  rcases rgI p0 0 4 (by decide) with ⟨j, -, hj, rfl⟩ | hx
  · have hg : ∃ G : Nat, pv_gt j = nI G ∧ G < 1000 ∧ (j = 0 → G = 9) ∧ (j = 1 → G = 9) ∧ (j = 2 → G = 99) ∧ (j = 3 → G = 999) ∧ (j = 4 → G = 99) ∧ ∀ ρ, f_X8_term (nI j) p1' ρ = f_X8_term_23 (nI j) p1' (nI G) ρ := by
      have j5 : j = 0 ∨ j = 1 ∨ j = 2 ∨ j = 3 ∨ j = 4 := by omega
      rcases j5 with rfl | rfl | rfl | rfl | rfl
      · exact ⟨9, rfl, by decide, by decide, by decide, by decide, by decide, by decide, fun ρ => by unfold f_X8_term; rw [if_neg (by decide)]; rfl⟩
      · exact ⟨9, rfl, by decide, by decide, by decide, by decide, by decide, by decide, fun ρ => by unfold f_X8_term; rw [if_neg (by decide)]; rfl⟩
      · exact ⟨99, rfl, by decide, by decide, by decide, by decide, by decide, by decide, fun ρ => by unfold f_X8_term; rw [if_pos (by decide), if_neg (by decide)]; rfl⟩
      · exact ⟨999, rfl, by decide, by decide, by decide, by decide, by decide, by decide, fun ρ => by unfold f_X8_term; rw [if_pos (by decide), if_pos (by decide)]; rfl⟩
      · exact ⟨99, rfl, by decide, by decide, by decide, by decide, by decide, by decide, fun ρ => by unfold f_X8_term; rw [if_pos (by decide), if_neg (by decide)]; rfl⟩
    obtain ⟨G, g1, g2, g3, g4, g5, g6, g7, g8⟩ := hg
    have hcb : ∀ τ : pv_S, f_X6_canBeTerm (nI j) p1' τ = (if p1' < 0 then some (0, τ) else (if nI G < p1' then some (0, τ) else some (1, τ))) := fun τ => by
      unfold f_X6_canBeTerm
      rw [if_neg (nI_pos (by omega)), if_neg (show ¬ (5 : Int32) ≤ nI j from nI_ge (b := 5) (by omega) (by decide)), gd_nI _ (by omega) (by decide), nI_clamp (by omega), g1]
    rcases rgI p1' 0 G (by omega) with ⟨v, -, hv, rfl⟩ | hy
    · obtain ⟨τ, t1, t2, t3, t4⟩ := d_record hw h hC
      have hwf : WF (stm (zq M) j v) := WF_stm hw.1 (fun z => by have := g3 z; omega) (fun z => by have := g4 z; omega) (fun z => by have := g5 z; omega) (fun z => by have := g6 z; omega) (fun z => by have := g7 z; omega)
      have hch := h_changed (σ := pv_pa τ 0 (upd (τ.2 0) (1 + j) (nI v))) (n := qn (zq M)) hn (by rw [pa_2s, upd_n _ _ (by omega)]; exact t2.1.1)
      rw [pa_1, pa_pi_pa, pa_2s] at hch
      have hRC : RC (chg (qn (zq M)) (upd (τ.2 0) (1 + j) (nI v))) 0 (stm (zq M) j v) := RC_stm t2.1 hn (by omega)
      refine OK_of hw hM (nI (qt (zq M) j)) (pv_pa (pv_pi τ 0 (τ.1 0 + 1)) 0 (chg (qn (zq M)) (upd (τ.2 0) (1 + j) (nI v)))) (stm (zq M) j v, (rec' M).2) ?_ (sm_t t4 (sm_t (sm_pi τ _ (by decide)) (sm_pa _ _ (by decide)))) (WM_q (WM_rec hw) hwf) (CLb_0 _ _ hRC t2) (CAC_mono (E := E + 1) (by omega) (CAC_up (by omega) rfl rfl t3)) (fun ρ hρ => ?_)
      · unfold f_X7_term
        rw [hcb, rgY (lo := 0) (hi := G) rfl (nI_toInt (by omega)) (by omega) hv (by omega), Option.bind_some]
        dsimp only
        rw [if_neg c10, t1, Option.bind_some]
        unfold f_X6_changeTerm
        rw [e_X6_valueOf t2.1 (by omega), Option.bind_some]
        dsimp only
        rw [if_neg (nI_pos (by omega)), if_neg (show ¬ (5 : Int32) ≤ nI j from nI_ge (b := 5) (by omega) (by decide)), ad1, gd_nI _ (by omega) (by decide), sa_nI _ _ _ (by omega), hch, Option.bind_some, Option.bind_some]; rfl
      · obtain ⟨τ3, r1, r2, r3⟩ := dm_remember hw hρ
        have hRM : RM (p0f 10 (upd (τ3.2 13) (1 + j) (nI v))) 0 (stm (zq M) j v) := RM_stm r2.1 hn (by omega)
        refine ⟨pv_pa τ3 13 (p0f 10 (upd (τ3.2 13) (1 + j) (nI v))), ?_, sc_t r3 (sc_pa _ _ (by decide)), MO_13 _ (WM_rec hw) (fun x hx => by rw [p0f_hi _ hx, upd_n _ _ (by omega)]) hRM r2⟩
        rw [g8]
        unfold f_X8_term_23
        rw [m_inY (lo := 0) (hi := 4) rfl rfl (by omega) hj (by omega), Option.bind_some]
        dsimp only
        rw [if_neg c10, m_inY (lo := 0) (hi := G) rfl (by rw [i2l_toInt, nI_toInt (by omega)]) (by omega) hv (by omega), Option.bind_some]
        dsimp only
        rw [if_neg c10, r1, Option.bind_some, ad1, gd_nI _ (by omega) (by decide), gd_nI _ (by omega) (by decide), sa_nI _ _ _ (by omega), h_part0, Option.bind_some, pa_pa, pa_2s, la_nI _ _ (by omega), RM_t r2.1 (by omega)]; rfl
    · refine OK_id hw h hC hM (-1000000002) ?_ (fun ρ hρ => ?_)
      · unfold f_X7_term
        rw [hcb, rgN (lo := 0) (hi := G) rfl (nI_toInt (by omega)) hy, Option.bind_some]
        dsimp only
        rw [if_pos rfl]
      · rw [g8]
        unfold f_X8_term_23
        rw [m_inY (lo := 0) (hi := 4) rfl rfl (by omega) hj (by omega), Option.bind_some]
        dsimp only
        rw [if_neg c10, m_inN (lo := ((0 : Nat) : Int)) (hi := (G : Int)) rfl (by rw [i2l_toInt, nI_toInt (by omega)]) hy, Option.bind_some]
        dsimp only
        rw [if_pos rfl]; exact id17 _ _
  · refine OK_id hw h hC hM (-1000000002) ?_ (fun ρ hρ => ?_)
    · have : f_X6_canBeTerm p0 p1' σ = some (0, σ) := by
        unfold f_X6_canBeTerm
        by_cases c : p0 < 0
        · rw [if_pos c]
        · have : (5 : Int32) ≤ p0 := by
            rw [i_lt0] at c
            rw [Int32.le_iff_toInt_le]
            show (5 : Int) ≤ p0.toInt
            omega
          rw [if_neg c, if_pos this]
      unfold f_X7_term
      rw [this, Option.bind_some]
      dsimp only
      rw [if_pos rfl]
    · have : ∀ s, f_X8_term_23 p0 p1' s ρ = some (-1000000002, ρ) := fun s => by
        unfold f_X8_term_23
        rw [m_inN rfl rfl hx, Option.bind_some]
        dsimp only
        rw [if_pos rfl]
      unfold f_X8_term
      rw [this, this, this]
      have e : (if 2 ≤ p0 then (if p0 = 3 then (some ((-1000000002 : Int32), ρ) : Option (Int32 × pv_S)) else some (-1000000002, ρ)) else some (-1000000002, ρ)) = some (-1000000002, ρ) := by
        split
        · split <;> rfl
        · rfl
      rw [e]; exact id17 _ _
theorem ok_clear : OK f_X7_clear f_X8_clear := by
  intro σ E M hE hw h hC hM
  obtain ⟨τ, t1, t2, t3, t4⟩ := d_record hw h hC
  have hch := h_changed (σ := pv_pa τ 0 (upd (τ.2 0) 0 0)) (n := 0) (by decide) (by rw [pa_2s, upd_s]; rfl)
  rw [pa_1, pa_pi_pa, pa_2s] at hch
  have hRC : RC (chg 0 (upd (τ.2 0) 0 0)) 0 (clr (zq M)) := RC_clr t2.1
  refine OK_of hw hM (nI (qn (zq M))) (pv_pa (pv_pi τ 0 (τ.1 0 + 1)) 0 (chg 0 (upd (τ.2 0) 0 0))) (clr (zq M), (rec' M).2) ?_ (sm_t t4 (sm_t (sm_pi τ _ (by decide)) (sm_pa _ _ (by decide)))) (WM_q (WM_rec hw) (WF_clr hw.1)) (CLb_0 _ _ hRC t2) (CAC_mono (E := E + 1) (by omega) (CAC_up (by omega) rfl rfl t3)) (fun ρ hρ => ?_)
  · unfold f_X7_clear
    rw [t1, Option.bind_some, e_X6_count t2.1, Option.bind_some]
    dsimp only
    unfold f_X6_dropAll
    have e0 : pv_sa τ 0 0 0 = pv_pa τ 0 (upd (τ.2 0) 0 0) := sa_nI τ 0 (i := 0) 0 (by decide)
    have e1 : (gd 0 46 (Option.bind (f_X6_changed (pv_sa τ 0 0 0)) (fun q2 => (some q2))) : Option pv_S) = Option.bind (f_X6_changed (pv_sa τ 0 0 0)) (fun q2 => (some q2)) := gd_nI (i := 0) _ (by decide) (by decide)
    rw [e1, e0, hch, Option.bind_some, Option.bind_some]; rfl
  · obtain ⟨τ3, r1, r2, r3⟩ := dm_remember hw hρ
    have hRM : RM (p0f 10 (upd (τ3.2 13) 0 0)) 0 (clr (zq M)) := RM_clr r2.1
    refine ⟨pv_pa τ3 13 (p0f 10 (upd (τ3.2 13) 0 0)), ?_, sc_t r3 (sc_pa _ _ (by decide)), MO_13 _ (WM_rec hw) (fun x hx => by rw [p0f_hi _ hx, upd_n _ _ (by omega)]) hRM r2⟩
    unfold f_X8_clear
    have e0 : pv_sa τ3 13 0 0 = pv_pa τ3 13 (upd (τ3.2 13) 0 0) := sa_nI τ3 13 (i := 0) 0 (by decide)
    rw [r1, Option.bind_some, gd_0, gd_0, e0, h_part0, Option.bind_some, pa_pa, pa_2s, lm_0, r2.1.1]; rfl
