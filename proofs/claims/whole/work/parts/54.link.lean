/-! deeds that change who follows whom -/
def ax (q : Sc) (f : Nat → Option Nat) : Sc := (qn q, qt q, qo q, ql q, qp q, f)
theorem lc_ax (q : Sc) (f : Nat → Option Nat) (al : Option Nat) (a b : Nat) : lc (ax q f) al a b = lc q al a b := rfl
theorem okb_ax (q : Sc) (f : Nat → Option Nat) (al : Option Nat) (a b : Nat) : okb (ax q f) al a b = okb q al a b := rfl
theorem cs_ax (q : Sc) (f : Nat → Option Nat) (a b : Nat) : cs (ax q f) a b = cs q a b := rfl
theorem qn_ax (q : Sc) (f : Nat → Option Nat) : qn (ax q f) = qn q := rfl
theorem PT_ax (q : Sc) (f : Nat → Option Nat) (al : Option Nat) : ∀ d s x, PT (ax q f) al d s x = PT q al d s x := by
  intro d
  induction d with
  | zero => intro s x; rfl
  | succ d ih =>
    intro s x
    unfold PT
    simp only [ih, okb_ax, cs_ax, qn_ax]
theorem mi_ax (q : Sc) (f : Nat → Option Nat) (al : Option Nat) (g : Nat → Nat) (a S : Nat) : ∀ k b acc, mi (ax q f) al g a S k b acc = mi q al g a S k b acc := by
  intro k
  induction k with
  | zero => intro b acc; rfl
  | succ k ih =>
    intro b acc
    rw [mi_s, mi_s, ih]; rfl
theorem lv_ax (q : Sc) (f : Nat → Option Nat) (al : Option Nat) (links : Nat) : ∀ d S, lv (ax q f) al links d S = lv q al links d S := by
  intro d
  induction d with
  | zero => intro S; rfl
  | succ d ih =>
    intro S
    have e : lv (ax q f) al links d = lv q al links d := funext ih
    rw [lv_s, lv_s, e, mi_ax]; rfl
theorem lw_ax (q : Sc) (f : Nat → Option Nat) (al : Option Nat) (k : Nat) : lw (ax q f) al k = lw q al k := by
  have e : lk (ax q f) al k = lk q al k := by unfold lk; rw [lv_ax]; rfl
  unfold lw
  rw [e]; rfl
theorem LT_ax (q : Sc) (f : Nat → Option Nat) (al : Option Nat) {d : Nat} {g : Nat → Int32} (h : LT q al d g) : LT (ax q f) al d g := fun s hs => by
  obtain ⟨x, x1, x2⟩ := h s hs
  exact ⟨x, x1, LE_cg (fun z => by rw [PT_ax]) x2⟩
theorem CA_ax {τ : pv_S} {q : Sc} {al : Option Nat} (f : Nat → Option Nat) (h : CA τ q al) : CA τ (ax q f) al := ⟨h.1, h.2.1, h.2.2.1, fun d hd => LT_ax q f al (h.2.2.2.1 d hd), fun k hk => by rw [lw_ax]; exact h.2.2.2.2 k hk⟩
theorem CAC_ax {τ : pv_S} {q : Sc} {E : Nat} (f : Nat → Option Nat) (h : CAC τ q E) : CAC τ (ax q f) E := by
  obtain ⟨e, h1, h2, h3, h4⟩ := h
  refine ⟨e, h1, h2, h3, fun z => ?_⟩
  obtain ⟨al, a1, a2, a3⟩ := h4 z
  exact ⟨al, a1, a2, CA_ax f a3⟩
theorem RC_ax {c c' : Nat → Int32} {q : Sc} (h : RC c 0 q) (f : Nat → Option Nat) (h1 : ∀ i, i < qn q → c' (9 + 4 * i) = en (f i)) (h2 : ∀ x, x < 9 ∨ (x - 9) % 4 ≠ 0 → c' x = c x) : RC c' 0 (ax q f) := by
  refine ⟨by rw [h2 0 (by omega)]; exact h.1, fun j hj => by rw [h2 _ (by omega)]; exact h.2.1 j hj, fun i hi => ?_⟩
  have hi' : i < qn q := hi
  have g := h.2.2 i hi'
  refine ⟨by rw [h2 _ (by omega)]; exact g.1, by rw [h2 _ (by omega)]; exact g.2.1, by rw [h2 _ (by omega)]; exact g.2.2.1, ?_⟩
  have := h1 i hi'
  rw [show 0 + 9 + 4 * i = 9 + 4 * i by omega]; exact this
theorem RM_ax {w w' : Nat → Int32} {q : Sc} (hn : qn q ≤ 10) (h : RM w 0 q) (f : Nat → Option Nat) (h1 : ∀ i, i < qn q → w' (36 + i) = en (f i)) (h2 : ∀ x, x < 36 → w' x = w x) : RM w' 0 (ax q f) := by
  refine ⟨by rw [h2 0 (by omega)]; exact h.1, fun j hj => by rw [h2 _ (by omega)]; exact h.2.1 j hj, fun i hi => ?_⟩
  have hi' : i < qn q := hi
  have g := h.2.2 i hi'
  refine ⟨by rw [h2 _ (by omega)]; exact g.1, by rw [h2 _ (by omega)]; exact g.2.1, by rw [h2 _ (by omega)]; exact g.2.2.1, ?_⟩
  have := h1 i hi'
  rw [show 0 + 36 + i = 36 + i by omega]; exact this
theorem WF_ax {q : Sc} (hw : WF q) (f : Nat → Option Nat) (h1 : ∀ i j, i < qn q → f i = some j → may q i j) (h2 : ∀ i k j, i < qn q → k < qn q → f i = some j → f k = some j → i = k) : WF (ax q f) := ⟨hw.1, hw.2.1, hw.2.2.1, h1, h2⟩
section LINK
variable {σ : pv_S} {M : Zt} {E : Nat}
theorem RC_9 {c : Nat → Int32} {q : Sc} (h : RC c 0 q) {i : Nat} (hi : i < qn q) : c (9 + 4 * i) = en (qx q i) := by
  have := (h.2.2 i hi).2.2.2
  rw [show 0 + 9 + 4 * i = 9 + 4 * i by omega] at this; exact this
theorem RM_36 {w : Nat → Int32} {q : Sc} (h : RM w 0 q) {i : Nat} (hi : i < qn q) : w (36 + i) = en (qx q i) := by
  have := (h.2.2 i hi).2.2.2
  rw [show 0 + 36 + i = 36 + i by omega] at this; exact this
theorem CLb_ax (c : Nat → Int32) (hC : CAC σ (zq M) E) : CAC (pv_pa σ 0 c) (zq M) E := CAC_cg (σ := σ) (τ := pv_pa σ 0 c) rfl rfl rfl rfl rfl rfl rfl rfl hC
def ct (q : Sc) (a : Nat) : Nat → Option Nat := fun i => if i = a then none else qx q i
theorem WF_ct {q : Sc} (hw : WF q) (a : Nat) : WF (ax q (ct q a)) := by
  refine WF_ax hw _ (fun i j hi hx => ?_) (fun i k j hi hk hx hy => ?_)
  · unfold ct at hx
    by_cases c : i = a
    · rw [if_pos c] at hx; cases hx
    · rw [if_neg c] at hx; exact hw.2.2.2.1 i j hi hx
  · unfold ct at hx hy
    by_cases c : i = a
    · rw [if_pos c] at hx; cases hx
    · rw [if_neg c] at hx
      by_cases c2 : k = a
      · rw [if_pos c2] at hy; cases hy
      · rw [if_neg c2] at hy; exact hw.2.2.2.2 i k j hi hk hx hy
def fol (q : Sc) (a b : Nat) : Nat → Option Nat := fun i => if i = a then some b else if pr q b = some i then none else qx q i
theorem WF_fol {q : Sc} (hw : WF q) {a b : Nat} (ha : a < qn q) (hm : may q a b) : WF (ax q (fol q a b)) := by
  refine WF_ax hw _ (fun i j hi hx => ?_) (fun i k j hi hk hx hy => ?_)
  · unfold fol at hx
    by_cases c : i = a
    · rw [if_pos c] at hx; cases hx; rw [c]; exact hm
    · rw [if_neg c] at hx
      by_cases c2 : pr q b = some i
      · rw [if_pos c2] at hx; cases hx
      · rw [if_neg c2] at hx; exact hw.2.2.2.1 i j hi hx
  · have key : ∀ i k, i < qn q → k < qn q → i = a → k ≠ a → fol q a b i = some j → fol q a b k = some j → False := fun i k hi hk e1 e2 hx hy => by
      unfold fol at hx hy
      rw [if_pos e1] at hx
      rw [if_neg e2] at hy
      cases hx
      by_cases c2 : pr q b = some k
      · rw [if_pos c2] at hy; cases hy
      · rw [if_neg c2] at hy; exact c2 (pr_of hw hk hy)
    by_cases c : i = a
    · by_cases c2 : k = a
      · omega
      · exact absurd (key i k hi hk c c2 hx hy) id
    · by_cases c2 : k = a
      · exact absurd (key k i hk hi c2 c hy hx) id
      · unfold fol at hx hy
        rw [if_neg c] at hx
        rw [if_neg c2] at hy
        by_cases c3 : pr q b = some i
        · rw [if_pos c3] at hx; cases hx
        · rw [if_neg c3] at hx
          by_cases c4 : pr q b = some k
          · rw [if_pos c4] at hy; cases hy
          · rw [if_neg c4] at hy; exact hw.2.2.2.2 i k j hi hk hx hy
end LINK
theorem ok_cut (p0 : Int32) : OK (f_X7_cut p0) (f_X8_cut p0) := by
  intro σ E M hE hw h hC hM
  have hn := hw.1.2.1.1
  by_cases hx : ∃ i, i < qn (zq M) ∧ p0 = nI i
  · obtain ⟨a, ha, rfl⟩ := hx
    obtain ⟨τ, t1, t2, t3, t4⟩ := d_record hw h hC
    have hRC : RC (upd (τ.2 0) (9 + 4 * a) (-1)) 0 (ax (zq M) (ct (zq M) a)) := RC_ax t2.1 _ (fun i hi => by
      have hi' : i < qn (zq M) := hi
      show upd (τ.2 0) (9 + 4 * a) (-1) (9 + 4 * i) = en (if i = a then none else qx (zq M) i)
      by_cases c : i = a
      · rw [if_pos c, c, upd_s]; rfl
      · rw [if_neg c, upd_n _ _ (by omega)]; exact RC_9 t2.1 hi) (fun x hx => upd_n _ _ (by omega))
    refine OK_of hw hM (en (qx (zq M) a)) (pv_pa τ 0 (upd (τ.2 0) (9 + 4 * a) (-1))) (ax (zq M) (ct (zq M) a), (rec' M).2) ?_ (sm_t t4 (sm_pa τ _ (by decide))) (WM_q (WM_rec hw) (WF_ct hw.1 a)) (CLb_00 _ hRC t2) (CAC_mono (E := E) (by omega) (CAC_ax _ (CLb_ax _ t3))) (fun ρ hρ => ?_)
    · unfold f_X7_cut
      rw [e_X6_has hn h.1 ha, Option.bind_some]
      dsimp only
      rw [if_neg c10, t1, Option.bind_some, e_X6_next hn t2.1 ha, Option.bind_some]
      dsimp only
      rw [h_link hn t2.1.1 ha, Option.bind_some]
    · obtain ⟨τ3, r1, r2, r3⟩ := dm_remember hw hρ
      have hRM : RM (upd (τ3.2 13) (36 + a) (-1)) 0 (ax (zq M) (ct (zq M) a)) := RM_ax hn r2.1 _ (fun i hi => by
        have hi' : i < qn (zq M) := hi
        show upd (τ3.2 13) (36 + a) (-1) (36 + i) = en (if i = a then none else qx (zq M) i)
        by_cases c : i = a
        · rw [if_pos c, c, upd_s]; rfl
        · rw [if_neg c, upd_n _ _ (by omega)]; exact RM_36 r2.1 hi) (fun x hx => upd_n _ _ (by omega))
      refine ⟨pv_pa τ3 13 (upd (τ3.2 13) (36 + a) (-1)), ?_, sc_t r3 (sc_pa _ _ (by decide)), MO_13 _ (WM_rec hw) (fun x hx => upd_n _ _ (by omega)) hRM r2⟩
      unfold f_X8_cut
      rw [e_X8_isNote hn hρ.1 ha, Option.bind_some]
      dsimp only
      rw [if_neg c10, r1, Option.bind_some, ad36, gd_nI _ (by omega) (by decide), gd_nI _ (by omega) (by decide), sa_nI _ _ _ (by omega), la_nI _ _ (by omega), RM_36 r2.1 ha]; rfl
  · refine OK_id hw h hC hM (-1000000001) ?_ (fun ρ hρ => ?_)
    · unfold f_X7_cut
      rw [e_X6_hasN hn h.1 (no_ix hx), Option.bind_some]
      dsimp only
      rw [if_pos rfl]
    · unfold f_X8_cut
      rw [e_X8_isNoteN hn hρ.1 (no_ix hx), Option.bind_some]
      dsimp only
      rw [if_pos rfl]; exact id17 _ _
theorem ok_follow (p0 p1' : Int32) : OK (f_X7_follow p0 p1') (f_X8_follow p0 p1') := by
  intro σ E M hE hw h hC hM
  have hn := hw.1.2.1.1
  by_cases hx : ∃ i, i < qn (zq M) ∧ p0 = nI i
  · obtain ⟨a, ha, rfl⟩ := hx
    by_cases hy : ∃ j, j < qn (zq M) ∧ p1' = nI j
    · obtain ⟨b, hb, rfl⟩ := hy
      cases hm : my (zq M) a b with
      | true =>
        have hmay := my_iff.mp hm
        obtain ⟨τ, t1, t2, t3, t4⟩ := d_record hw h hC
        obtain ⟨ρ1, s1, s2, s3, s4, s5⟩ := c_stand (WM_rec hw) t2 t3
        have hwf := WF_fol hw.1 ha hmay
        have go : ∀ c : Nat → Int32, RC c 0 (ax (zq M) (fol (zq M) a b)) → (∃ c0, f_X6_link (en (pr (zq M) b)) (-1) ρ1 = some (pv_pa ρ1 0 c0) ∧ c0 0 = nI (qn (zq M)) ∧ upd c0 (9 + 4 * a) (nI b) = c) → f_X7_follow (nI a) (nI b) σ = some (nI (cs (zq M) a b), pv_pa ρ1 0 c) := fun c hc hl => by
          obtain ⟨c0, l1, l2, l3⟩ := hl
          unfold f_X7_follow
          rw [e_X6_has hn h.1 ha, Option.bind_some]
          dsimp only
          rw [if_neg c10, e_X6_has hn h.1 hb, Option.bind_some]
          dsimp only
          rw [if_neg c10, e_X6_mayFollow hw.1 h.1 ha hb, hm, Option.bind_some]
          dsimp only
          rw [if_neg (show ¬ (if true = true then (1 : Int32) else 0) = 0 by decide), t1, Option.bind_some, s1, Option.bind_some, c_ahead (WM_rec hw).1 s2 hb, Option.bind_some]
          dsimp only
          rw [show zq (rec' M) = zq M from rfl, l1, Option.bind_some, h_link (σ := pv_pa ρ1 0 c0) hn (by rw [pa_2s]; exact l2) ha, Option.bind_some, pa_pa, pa_2s, l3, e_X6_costToFollow (σ := pv_pa ρ1 0 c) (q := ax (zq M) (fol (zq M) a b)) hwf (by rw [pa_2s]; exact hc) ha hb, Option.bind_some]
          show some ((if my (zq M) a b = true then nI (cs (zq M) a b) else -1), pv_pa ρ1 0 c) = _
          rw [hm, if_pos rfl]
        have hex : ∃ c, RC c 0 (ax (zq M) (fol (zq M) a b)) ∧ (∃ c0, f_X6_link (en (pr (zq M) b)) (-1) ρ1 = some (pv_pa ρ1 0 c0) ∧ c0 0 = nI (qn (zq M)) ∧ upd c0 (9 + 4 * a) (nI b) = c) := by
          cases hp : pr (zq M) b with
          | none =>
            refine ⟨upd (ρ1.2 0) (9 + 4 * a) (nI b), RC_ax s3.1 _ (fun i hi => ?_) (fun x hx => upd_n _ _ (by omega)), ρ1.2 0, ?_, s3.1.1, rfl⟩
            · show upd (ρ1.2 0) (9 + 4 * a) (nI b) (9 + 4 * i) = en (if i = a then some b else if pr (zq M) b = some i then none else qx (zq M) i)
              by_cases c : i = a
              · rw [if_pos c, c, upd_s]; rfl
              · rw [if_neg c, upd_n _ _ (by omega), if_neg (by rw [hp]; exact fun z => by cases z)]; exact RC_9 s3.1 hi
            · rw [pa_self]; exact h_linkM ρ1 (-1)
          | some p =>
            obtain ⟨p1', p2⟩ := pr_s hp
            refine ⟨upd (upd (ρ1.2 0) (9 + 4 * p) (-1)) (9 + 4 * a) (nI b), RC_ax s3.1 _ (fun i hi => ?_) (fun x hx => by rw [upd_n _ _ (by omega), upd_n _ _ (by omega)]), upd (ρ1.2 0) (9 + 4 * p) (-1), h_link hn s3.1.1 p1' (-1), by rw [upd_n _ _ (by omega)]; exact s3.1.1, rfl⟩
            show upd (upd (ρ1.2 0) (9 + 4 * p) (-1)) (9 + 4 * a) (nI b) (9 + 4 * i) = en (if i = a then some b else if pr (zq M) b = some i then none else qx (zq M) i)
            by_cases c : i = a
            · rw [if_pos c, c, upd_s]; rfl
            · rw [if_neg c, upd_n _ _ (by omega)]
              by_cases c2 : i = p
              · rw [if_pos (by rw [hp, c2]), c2, upd_s]; rfl
              · rw [if_neg (by rw [hp]; exact fun z => c2 (by cases z; rfl)), upd_n _ _ (by omega)]; exact RC_9 s3.1 hi
        obtain ⟨c, hc1, hc2⟩ := hex
        refine OK_of hw hM (nI (cs (zq M) a b)) (pv_pa ρ1 0 c) (ax (zq M) (fol (zq M) a b), (rec' M).2) (go c hc1 hc2) (sm_t t4 (sm_t s5 (sm_pa _ c (by decide)))) (WM_q (WM_rec hw) hwf) (CLb_00 _ hc1 s3) (CAC_mono (E := E) (by omega) (CAC_ax _ (CLb_ax _ s4))) (fun ρ hρ => ?_)
        obtain ⟨τ3, r1, r2, r3⟩ := dm_remember hw hρ
        have fin : ∀ w, RM (upd w (36 + a) (nI b)) 0 (ax (zq M) (fol (zq M) a b)) → (∀ x, 46 ≤ x → w x = τ3.2 13 x) → f_X8_follow_57 (nI a) (nI b) (pv_pa τ3 13 w) = some (nI (cs (zq M) a b), pv_pa τ3 13 (upd w (36 + a) (nI b))) := fun w h1 h2 => by
          unfold f_X8_follow_57
          rw [ad36, gd_nI _ (by omega) (by decide), sa_nI _ _ _ (by omega), pa_pa, pa_2s, e_X8_costOf (q := ax (zq M) (fol (zq M) a b)) (σ := pv_pa τ3 13 (upd w (36 + a) (nI b))) hwf (by rw [pa_2s]; exact h1) ha hmay, Option.bind_some]; rfl
        have pre : ∀ R, (if en (pr (zq M) b) < 0 then (f_X8_follow_57 (nI a) (nI b) τ3) else (Option.bind (f_X8_prior (nI b) τ3) (fun q10 => (gd (36 + q10.1) 874 (f_X8_follow_57 (nI a) (nI b) (pv_sa q10.2 13 (36 + q10.1) (-1))))))) = R → f_X8_follow (nI a) (nI b) ρ = R := fun R hR => by
          unfold f_X8_follow
          rw [e_X8_isNote hn hρ.1 ha, Option.bind_some]
          dsimp only
          rw [if_neg c10, e_X8_isNote hn hρ.1 hb, Option.bind_some]
          dsimp only
          rw [if_neg c10, e_X8_may hw.1 hρ.1 ha hb, hm, Option.bind_some]
          dsimp only
          rw [if_neg (show ¬ (if true = true then (1 : Int32) else 0) = 0 by decide), r1, Option.bind_some, m_prior (q := zq M) hw.1 r2.1 (by omega), Option.bind_some]
          exact hR
        cases hp : pr (zq M) b with
        | none =>
          have hRM : RM (upd (τ3.2 13) (36 + a) (nI b)) 0 (ax (zq M) (fol (zq M) a b)) := RM_ax hn r2.1 _ (fun i hi => by
            have hi' : i < qn (zq M) := hi
            show upd (τ3.2 13) (36 + a) (nI b) (36 + i) = en (if i = a then some b else if pr (zq M) b = some i then none else qx (zq M) i)
            by_cases c : i = a
            · rw [if_pos c, c, upd_s]; rfl
            · rw [if_neg c, upd_n _ _ (by omega), if_neg (by rw [hp]; exact fun z => by cases z)]; exact RM_36 r2.1 hi) (fun x hx => upd_n _ _ (by omega))
          refine ⟨pv_pa τ3 13 (upd (τ3.2 13) (36 + a) (nI b)), pre _ ?_, sc_t r3 (sc_pa _ _ (by decide)), MO_13 _ (WM_rec hw) (fun x hx => upd_n _ _ (by omega)) hRM r2⟩
          rw [hp, if_pos (by decide)]
          have := fin (τ3.2 13) hRM (fun _ _ => rfl)
          rw [pa_self] at this
          exact this
        | some p =>
          obtain ⟨p1', p2⟩ := pr_s hp
          have hRM : RM (upd (upd (τ3.2 13) (36 + p) (-1)) (36 + a) (nI b)) 0 (ax (zq M) (fol (zq M) a b)) := RM_ax hn r2.1 _ (fun i hi => by
            have hi' : i < qn (zq M) := hi
            show upd (upd (τ3.2 13) (36 + p) (-1)) (36 + a) (nI b) (36 + i) = en (if i = a then some b else if pr (zq M) b = some i then none else qx (zq M) i)
            by_cases c : i = a
            · rw [if_pos c, c, upd_s]; rfl
            · rw [if_neg c, upd_n _ _ (by omega)]
              by_cases c2 : i = p
              · rw [if_pos (by rw [hp, c2]), c2, upd_s]; rfl
              · rw [if_neg (by rw [hp]; exact fun z => c2 (by cases z; rfl)), upd_n _ _ (by omega)]; exact RM_36 r2.1 hi) (fun x hx => by rw [upd_n _ _ (by omega), upd_n _ _ (by omega)])
          refine ⟨pv_pa τ3 13 (upd (upd (τ3.2 13) (36 + p) (-1)) (36 + a) (nI b)), pre _ ?_, sc_t r3 (sc_pa _ _ (by decide)), MO_13 _ (WM_rec hw) (fun x hx => by rw [upd_n _ _ (by omega), upd_n _ _ (by omega)]) hRM r2⟩
          rw [hp, en_s, if_neg (nI_pos (by omega)), m_prior (q := zq M) hw.1 r2.1 (by omega), hp, en_s, Option.bind_some]
          dsimp only
          rw [ad36, gd_nI _ (by omega) (by decide), sa_nI _ _ _ (by omega)]
          exact fin _ hRM (fun x hx => upd_n _ _ (by omega))
      | false =>
        refine OK_id hw h hC hM (-1000000003) ?_ (fun ρ hρ => ?_)
        · unfold f_X7_follow
          rw [e_X6_has hn h.1 ha, Option.bind_some]
          dsimp only
          rw [if_neg c10, e_X6_has hn h.1 hb, Option.bind_some]
          dsimp only
          rw [if_neg c10, e_X6_mayFollow hw.1 h.1 ha hb, hm, Option.bind_some]
          dsimp only
          rw [if_pos (show (if false = true then (1 : Int32) else 0) = 0 by decide)]
        · unfold f_X8_follow
          rw [e_X8_isNote hn hρ.1 ha, Option.bind_some]
          dsimp only
          rw [if_neg c10, e_X8_isNote hn hρ.1 hb, Option.bind_some]
          dsimp only
          rw [if_neg c10, e_X8_may hw.1 hρ.1 ha hb, hm, Option.bind_some]
          dsimp only
          rw [if_pos (show (if false = true then (1 : Int32) else 0) = 0 by decide)]; exact id17 _ _
    · refine OK_id hw h hC hM (-1000000001) ?_ (fun ρ hρ => ?_)
      · unfold f_X7_follow
        rw [e_X6_has hn h.1 ha, Option.bind_some]
        dsimp only
        rw [if_neg c10, e_X6_hasN hn h.1 (no_ix hy), Option.bind_some]
        dsimp only
        rw [if_pos rfl]
      · unfold f_X8_follow
        rw [e_X8_isNote hn hρ.1 ha, Option.bind_some]
        dsimp only
        rw [if_neg c10, e_X8_isNoteN hn hρ.1 (no_ix hy), Option.bind_some]
        dsimp only
        rw [if_pos rfl]; exact id17 _ _
  · refine OK_id hw h hC hM (-1000000001) ?_ (fun ρ hρ => ?_)
    · unfold f_X7_follow
      rw [e_X6_hasN hn h.1 (no_ix hx), Option.bind_some]
      dsimp only
      rw [if_pos rfl]
    · unfold f_X8_follow
      rw [e_X8_isNoteN hn hρ.1 (no_ix hx), Option.bind_some]
      dsimp only
      rw [if_pos rfl]; exact id17 _ _
theorem md_ax : ∀ (k : Nat) (q : Sc), (md k q).2 = ax q (qx (md k q).2) := by
  intro k
  induction k with
  | zero => intro q; rfl
  | succ k ih =>
    intro q
    cases c : fm q with
    | none => rw [md_n k c]; rfl
    | some ac =>
      obtain ⟨a, c'⟩ := ac
      rw [md_y k c]
      exact ih (sw2 q a c')
theorem ok_mend : OK f_X7_mend f_X8_mend := by
  intro σ E M hE hw h hC hM
  obtain ⟨τ, t1, t2, t3, t4⟩ := d_record hw h hC
  obtain ⟨c, c1, c2⟩ := c_mend_2 50 pv_FU 0 τ (zq M) (by omega) (by unfold pv_FU; omega) hw.1 t2.1
  have hcac : CAC (pv_pa τ 0 c) (md 50 (zq M)).2 (E + 20) := by
    rw [md_ax]
    exact CAC_mono (E := E) (by omega) (CAC_ax _ (CLb_ax _ t3))
  refine OK_of hw hM (nI (0 + (md 50 (zq M)).1)) (pv_pa τ 0 c) ((md 50 (zq M)).2, (rec' M).2) ?_ (sm_t t4 (sm_pa _ c (by decide))) (WM_q (WM_rec hw) (WF_md 50 _ hw.1)) (CLb_00 _ c2 t2) hcac (fun ρ hρ => ?_)
  · unfold f_X7_mend f_X4_mendCrossings
    rw [t1, Option.bind_some, show (0 : Int32) = nI 0 from rfl, c1, Option.bind_some]
  · obtain ⟨τ3, r1, r2, r3⟩ := dm_remember hw hρ
    obtain ⟨w, w1, w2, w3⟩ := m_mend_6 50 pv_FU 0 τ3 (zq M) (by omega) (by unfold pv_FU; omega) hw.1 r2.1
    refine ⟨pv_pa τ3 13 w, ?_, sc_t r3 (sc_pa _ _ (by decide)), MO_13 _ (WM_rec hw) w3 w2 r2⟩
    unfold f_X8_mend
    rw [r1, Option.bind_some, show (0 : Int32) = nI 0 from rfl, w1]
theorem c_part_59 {q : Sc} (hw : WF q) {links : Nat} (hwx : WF (wnx q links)) : ∀ (d fuel i : Nat) (τ : pv_S), i + d = qn q → d < fuel → RC (τ.2 0) 0 (ax q (fun j => if j < i then nx q links j else qx q j)) → (∀ j, j < qn q → τ.2 6 j = en (nx q links j)) → ∃ c ρ, f_X7_part_59 fuel (nI i) τ = some (nI (cn (wnx q links) (qn q) * qt q 3 + sw (wnx q links) (qn q)), ρ) ∧ fr [1] [1, 2] (pv_pa τ 0 c) ρ ∧ RC c 0 (wnx q links) := by
  have hn := hw.2.1.1
  intro d
  induction d with
  | zero =>
    intro fuel i τ hi hf h h6
    cases fuel with
    | zero => omega
    | succ r =>
      have hR : RC (τ.2 0) 0 (wnx q links) := by
        refine ⟨h.1, h.2.1, fun j hj => ?_⟩
        have := h.2.2 j hj
        refine ⟨this.1, this.2.1, this.2.2.1, ?_⟩
        rw [this.2.2.2]
        show en (if j < i then nx q links j else qx q j) = en (nx q links j)
        rw [if_pos (by have : j < qn q := hj; omega)]
      obtain ⟨ρ, s1, s2, s3⟩ := c_standing hwx hR
      refine ⟨τ.2 0, ρ, ?_, by rw [pa_self]; exact s3, hR⟩
      unfold f_X7_part_59
      rw [e_X6_count h, Option.bind_some]
      dsimp only
      rw [qn_ax, if_pos (show nI (qn q) ≤ nI i from nI_le (by omega) (by omega)), s1, Option.bind_some, c_costOfAll hwx s2, Option.bind_some]; rfl
  | succ d ih =>
    intro fuel i τ hi hf h h6
    cases fuel with
    | zero => omega
    | succ r =>
      unfold f_X7_part_59
      rw [e_X6_count h, Option.bind_some]
      dsimp only
      have ec : f_X5_chosen (nI i) τ = some (en (nx q links i), τ) := by
        unfold f_X5_chosen
        rw [if_neg (nI_pos (by omega)), if_neg (show ¬ (10 : Int32) ≤ nI i from nI_ge (b := 10) (by omega) (by decide)), gd_nI _ (by omega) (by decide), la_nI _ _ (by omega), h6 i (by omega)]
      rw [qn_ax, if_neg (show ¬ nI (qn q) ≤ nI i from nI_ge (by omega) (by omega)), ec, Option.bind_some]
      dsimp only
      rw [h_link (n := qn q) hn h.1 (by omega), Option.bind_some, p1]
      obtain ⟨c, ρ, r1, r2, r3⟩ := ih r (i + 1) (pv_pa τ 0 (upd (τ.2 0) (9 + 4 * i) (en (nx q links i)))) (by omega) (by omega) (by
        rw [pa_2s]
        have := RC_ax (c' := upd (τ.2 0) (9 + 4 * i) (en (nx q links i))) h (fun j => if j < i + 1 then nx q links j else qx q j) (fun j hj => by
          have hj' : j < qn q := hj
          by_cases c : j = i
          · rw [c, upd_s, if_pos (by omega)]
          · rw [upd_n _ _ (by omega), RC_9 h hj]
            show en (if j < i then nx q links j else qx q j) = _
            by_cases c2 : j < i
            · rw [if_pos c2, if_pos (by omega)]
            · rw [if_neg c2, if_neg (by omega)]) (fun x hx => upd_n _ _ (by omega))
        exact this) h6
      rw [r1]
      refine ⟨c, ρ, rfl, ?_, r3⟩
      rw [pa_pa] at r2; exact r2
theorem m_part_46 {q : Sc} (hw : WF q) {links : Nat} (hwx : WF (wnx q links)) : ∀ (d fuel i : Nat) (τ : pv_S), i + d = qn q → d < fuel → RM (τ.2 13) 0 (ax q (fun j => if j < i then nx q links j else qx q j)) → (∀ j, j < qn q → τ.2 18 j = en (nx q links j)) → ∃ w, f_X8_part_46 fuel (nI i) τ = some (nI (cn (wnx q links) (qn q) * qt q 3 + sw (wnx q links) (qn q)), pv_pa τ 13 w) ∧ RM w 0 (wnx q links) ∧ ∀ x, 46 ≤ x → w x = τ.2 13 x := by
  have hn := hw.2.1.1
  intro d
  induction d with
  | zero =>
    intro fuel i τ hi hf h h6
    cases fuel with
    | zero => omega
    | succ r =>
      have hR : RM (τ.2 13) 0 (wnx q links) := by
        refine ⟨h.1, h.2.1, fun j hj => ?_⟩
        have := h.2.2 j hj
        refine ⟨this.1, this.2.1, this.2.2.1, ?_⟩
        rw [this.2.2.2]
        show en (if j < i then nx q links j else qx q j) = en (nx q links j)
        rw [if_pos (by have : j < qn q := hj; omega)]
      refine ⟨τ.2 13, ?_, hR, fun _ _ => rfl⟩
      unfold f_X8_part_46
      rw [gd_0, lm_0, h.1, qn_ax, if_pos (show nI (qn q) ≤ nI i from nI_le (by omega) (by omega)), m_costNow hwx hR, Option.bind_some, pa_self]; rfl
  | succ d ih =>
    intro fuel i τ hi hf h h6
    cases fuel with
    | zero => omega
    | succ r =>
      unfold f_X8_part_46
      rw [gd_0, lm_0, h.1, qn_ax, if_neg (show ¬ nI (qn q) ≤ nI i from nI_ge (by omega) (by omega)), gd_nI _ (by omega) (by decide), ad36, gd_nI _ (by omega) (by decide), sa_nI _ _ _ (by omega), la_nI _ _ (by omega), h6 i (by omega), p1]
      obtain ⟨w, r1, r2, r3⟩ := ih r (i + 1) (pv_pa τ 13 (upd (τ.2 13) (36 + i) (en (nx q links i)))) (by omega) (by omega) (by
        rw [pa_2s]
        have := RM_ax (q := ax q (fun j => if j < i then nx q links j else qx q j)) (w' := upd (τ.2 13) (36 + i) (en (nx q links i))) hn h (fun j => if j < i + 1 then nx q links j else qx q j) (fun j hj => by
          have hj' : j < qn q := hj
          by_cases c : j = i
          · rw [c, upd_s, if_pos (by omega)]
          · rw [upd_n _ _ (by omega), RM_36 h hj]
            show en (if j < i then nx q links j else qx q j) = _
            by_cases c2 : j < i
            · rw [if_pos c2, if_pos (by omega)]
            · rw [if_neg c2, if_neg (by omega)]) (fun x hx => upd_n _ _ (by omega))
        exact this) h6
      rw [r1, pa_pa]
      refine ⟨w, rfl, r2, fun x hx => ?_⟩
      rw [r3 x hx, pa_2s, upd_n _ _ (by omega)]
theorem ax_0 {c : Nat → Int32} {q : Sc} (links : Nat) (h : RC c 0 q) : RC c 0 (ax q (fun j => if j < 0 then nx q links j else qx q j)) := ⟨h.1, h.2.1, fun j hj => by
  have := h.2.2 j hj
  refine ⟨this.1, this.2.1, this.2.2.1, ?_⟩
  rw [this.2.2.2]
  show en (qx q j) = en (if j < 0 then nx q links j else qx q j)
  rw [if_neg (by omega)]⟩
theorem ax_0m {c : Nat → Int32} {q : Sc} (links : Nat) (h : RM c 0 q) : RM c 0 (ax q (fun j => if j < 0 then nx q links j else qx q j)) := ⟨h.1, h.2.1, fun j hj => by
  have := h.2.2 j hj
  refine ⟨this.1, this.2.1, this.2.2.1, ?_⟩
  rw [this.2.2.2]
  show en (qx q j) = en (if j < 0 then nx q links j else qx q j)
  rw [if_neg (by omega)]⟩
theorem ok_part (p0 : Int32) : OK (f_X7_part p0) (f_X8_part p0) := by
  intro σ E M hE hw h hC hM
  have hn := hw.1.2.1.1
  obtain ⟨τ, t1, t2, t3, t4, t5, -⟩ := c_weighed hw h hC
  have go : ∀ (k : Nat), k ≤ 10 → (∀ R, f_X7_part_33 (nI k) τ = R → f_X7_part p0 σ = R) → (∀ ρ, MO ρ M → ∃ g, ∀ R, f_X8_part_31 (nI k) (pv_pa ρ 17 g) = R → f_X8_part p0 ρ = R) → ∃ r τ τ' M', f_X7_part p0 σ = some (r, τ) ∧ f_X8_part p0 τ = some (r, τ') ∧ WM M' ∧ CLb τ' M' ∧ CAC τ' (zq M') (E + 20) ∧ MO τ' M' := fun k hk hc hm => by
    by_cases hl : lk (zq M) none k < FA
    · obtain ⟨f, f1, f2⟩ := c_choose hw.1 t2 hk hl
      have hkn := (lk_b hw.1 hl).1
      have e0 : lv (zq M) none (qn (zq M) - k) (qn (zq M)) 0 < FA := by unfold lk at hl; rw [if_pos hkn] at hl; exact hl
      have hwx := WF_wnx hw.1 e0
      obtain ⟨ρ1, s1, s2, s3, s4⟩ := d_record (σ := pv_pa τ 6 f) (E := E) hw t3 t4
      have s5 : ∀ j, j < qn (zq M) → ρ1.2 6 j = en (nx (zq M) (qn (zq M) - k) j) := fun j hj => by
        obtain ⟨ρ', u1, -, u3⟩ := c_record (σ := pv_pa τ 6 f) hw t3
        rw [s1] at u1
        cases u1
        rw [u3.2 6 (by decide)]
        exact f2 j hj
      obtain ⟨c, ρ2, v1, v2, v3⟩ := c_part_59 hw.1 (links := qn (zq M) - k) hwx (qn (zq M)) pv_FU 0 ρ1 (by omega) (by unfold pv_FU; omega) (ax_0 _ s2.1) s5
      have w1 : CLb (pv_pa ρ1 0 c) (wnx (zq M) (qn (zq M) - k), (rec' M).2) := CLb_00 _ v3 s2
      refine OK_of hw hM (nI (cn (wnx (zq M) (qn (zq M) - k)) (qn (zq M)) * qt (zq M) 3 + sw (wnx (zq M) (qn (zq M) - k)) (qn (zq M)))) ρ2 (wnx (zq M) (qn (zq M) - k), (rec' M).2) (hc _ ?_) (sm_t t5 (sm_t (sm_pa τ f (by decide)) (sm_t s4 (sm_t (sm_pa ρ1 c (by decide)) (fr_sm v2 (by decide) (by decide)))))) (WM_q (WM_rec hw) hwx) (CLb_rd v2 (by decide) (by decide) w1) (CAC_fr v2 (by decide) (by decide) (CAC_mono (E := E) (by omega) (CAC_ax (nx (zq M) (qn (zq M) - k)) (CLb_ax c s3)))) (fun ρ hρ => ?_)
      · unfold f_X7_part_33
        rw [f1, Option.bind_some]
        dsimp only
        rw [if_neg c10, s1, Option.bind_some]
        exact v1
      · obtain ⟨g0, g1⟩ := hm ρ hρ
        obtain ⟨g, f', l1, l2⟩ := m_layFirst (σ := pv_pa ρ 17 g0) hw.1 hρ.1 hk hl
        have hρ2 : MO (pv_pa (pv_pa (pv_pa ρ 17 g0) 17 g) 18 f') M := hρ
        obtain ⟨τ3, r1, r2, r3⟩ := m_remember hw hρ2
        obtain ⟨w, x1, x2, x3⟩ := m_part_46 hw.1 (links := qn (zq M) - k) hwx (qn (zq M)) pv_FU 0 τ3 (by omega) (by unfold pv_FU; omega) (ax_0m _ r2.1) (fun j hj => by
          rw [r3.2 18 (by decide), pa_2s]; exact l2 j hj)
        refine ⟨pv_pa τ3 13 w, g1 _ ?_, sc_t (sc_pa ρ g0 (by decide)) (sc_t (sc_pa _ g (by decide)) (sc_t (sc_pa _ f' (by decide)) (sc_t (fr_sc r3 (by decide) (by decide)) (sc_pa _ w (by decide))))), MO_13 _ (WM_rec hw) x3 x2 r2⟩
        unfold f_X8_part_31
        rw [l1, Option.bind_some]
        dsimp only
        rw [if_neg c10, r1, Option.bind_some]
        exact x1
    · refine OK_of hw hM (-1000000003) τ M (hc _ ?_) t5 hw t3 (CAC_mono (by omega) t4) (fun ρ hρ => ?_)
      · unfold f_X7_part_33
        rw [c_chooseN t2 hk hl, Option.bind_some]
        dsimp only
        rw [if_pos rfl]
      · obtain ⟨g0, g1⟩ := hm ρ hρ
        obtain ⟨g, l1⟩ := m_layFirstN (σ := pv_pa ρ 17 g0) hw.1 hρ.1 hk hl
        refine ⟨pv_pa (pv_pa ρ 17 g0) 17 g, g1 _ ?_, sc_t (sc_pa ρ g0 (by decide)) (sc_pa _ g (by decide)), hρ⟩
        unfold f_X8_part_31
        rw [l1, Option.bind_some]
        dsimp only
        rw [if_pos rfl]
  by_cases h1 : p0 = -1
  · subst h1
    obtain ⟨k, a1, a2⟩ := c_cheapest hw.1 t2
    refine go k (by have := a2.1; omega) (fun R hR => ?_) (fun ρ hρ => ?_)
    · unfold f_X7_part f_X7_part_15
      rw [if_pos rfl, t1, Option.bind_some, if_pos rfl, a1, Option.bind_some]
      exact hR
    · obtain ⟨k', g, g1, g2⟩ := m_cheapest (σ := ρ) (al := none) hw.1 (fun i z => by cases z) hρ.1
      have e : k = k' := CH_u a2 (show CH (lk (zq M) none) (qt (zq M) 3) 11 k' from g2)
      subst e
      refine ⟨g, fun R hR => ?_⟩
      have hin : f_X8_in (-1 : Int32).toInt64 (-1) 10 ρ = some (1, ρ) := by rw [e_X8_in, if_pos (by decide)]
      unfold f_X8_part
      rw [hin, Option.bind_some]
      dsimp only
      rw [if_neg c10, if_neg (by decide), show (-1 : Int32) = en none from rfl, g1, Option.bind_some]
      exact hR
  · rcases rgI p0 0 10 (by decide) with ⟨k, -, hk, rfl⟩ | hx
    · refine go k hk (fun R hR => ?_) (fun ρ hρ => ⟨ρ.2 17, fun R hR => ?_⟩)
      · unfold f_X7_part f_X7_part_15
        rw [if_neg h1, c_isVC hk, Option.bind_some]
        dsimp only
        rw [if_neg c10, t1, Option.bind_some, if_neg h1]
        exact hR
      · rw [pa_self] at hR
        unfold f_X8_part
        rw [e_X8_in, i2l_toInt, nI_toInt (by omega), Option.bind_some]
        dsimp only
        rw [if_pos (show (-1 : Int64).toInt ≤ (k : Int) ∧ (k : Int) ≤ (10 : Int64).toInt from by
          have e1 : (-1 : Int64).toInt = -1 := by decide
          have e2 : (10 : Int64).toInt = 10 := by decide
          omega), if_neg c10, if_pos (nI_pos' (by omega))]
        exact hR
    · refine OK_id hw h hC hM (-1000000002) ?_ (fun ρ hρ => ?_)
      · unfold f_X7_part
        rw [if_neg h1, c_isVCn hx, Option.bind_some]
        dsimp only
        rw [if_pos rfl]
      · have hne : p0.toInt ≠ -1 := fun z => h1 (Int32.toInt_inj.mp (by rw [z]; rfl))
        unfold f_X8_part
        rw [m_inN (lo := -1) (hi := 10) rfl rfl (by omega), Option.bind_some]
        dsimp only
        rw [if_pos rfl]; exact id17 _ _
