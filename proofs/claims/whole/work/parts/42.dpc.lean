/-! the class's least costs -/
def lc (q : Sc) (al : Option Nat) (a b : Nat) : Nat := if okb q al a b = true then cs q a b else FA
theorem lc_le {q : Sc} (hw : WF q) {al : Option Nat} {a b : Nat} (ha : a < qn q) (hb : b < qn q) : lc q al a b ≤ FA := by
  have := cs_le hw ha hb
  unfold lc FA; split <;> omega
theorem bc_ok : ∀ s, s < 1024 → ∀ σ : pv_S, f_J6_bitCount_0f7a4 (nI s) σ = some (nI (pop s), σ) := by
  have key : ∀ s, s < 1024 → (f_J6_bitCount_0f7a4 (nI s) ((fun _ => 0), fun _ _ => 0)).map Prod.fst = some (nI (pop s)) := by decide +kernel
  intro s hs σ
  have h := key s hs
  have e : ∀ τ : pv_S, f_J6_bitCount_0f7a4 (nI s) τ = ((f_J6_bitCount_0f7a4 (nI s) ((fun _ => 0), fun _ _ => 0)).map Prod.fst).map (fun v => (v, τ)) := fun τ => rfl
  rw [e σ, h]; rfl
theorem pop_lt : ∀ s, s < 1024 → ∀ m, m < 11 → s < 2 ^ m → pop s ≤ m := by decide +kernel
section DPC
variable {τ : pv_S} {q : Sc} {al : Option Nat}
theorem c_bit (hn : qn q ≤ 10) (h2 : τ.1 2 = nI (qn q)) {i : Nat} (hi : i < qn q) : f_X5_bit (nI i) τ = some (nI (2 ^ (qn q - 1 - i)), τ) := by
  unfold f_X5_bit
  rw [h2, show (nI (qn q) - 1 : Int32) = nI (qn q - 1) from pk_sub (b := 1) (by omega), pk_sub (by omega), bi_shl _ (by omega)]
theorem c_weigh_79 (hw : WF q) (hal : ∀ i, al = some i → i < qn q) (h : RC (τ.2 0) 0 q) (h2 : τ.1 2 = nI (qn q)) (K : Int32 → Int32 → pv_S → Option pv_S) {a : Nat} (ha : a < qn q) : ∀ (d fuel b : Nat) (f : Nat → Int32), b + d = qn q → d < fuel → (∀ a' b', a' < a → b' < qn q → f (10 * a' + b') = nI (lc q al a' b')) → (∀ b', b' < b → f (10 * a + b') = nI (lc q al a b')) → ∃ f', f_X5_weigh_79 K fuel (en al) (nI a) (nI b) (pv_pa τ 3 f) = K (en al) (nI (a + 1)) (pv_pa τ 3 f') ∧ ∀ a' b', a' < a + 1 → b' < qn q → f' (10 * a' + b') = nI (lc q al a' b') := by
  have hn := hw.2.1.1
  intro d
  induction d with
  | zero =>
    intro fuel b f hb hf h3 h4
    cases fuel with
    | zero => omega
    | succ m =>
      unfold f_X5_weigh_79
      rw [pa_1, h2, if_pos (nI_le (by omega) (by omega)), p1]
      refine ⟨f, rfl, fun a' b' h5 h6 => ?_⟩
      rcases Nat.lt_or_ge a' a with e | e
      · exact h3 a' b' e h6
      · rw [show a' = a by omega]; exact h4 b' (by omega)
  | succ d ih =>
    intro fuel b f hb hf h3 h4
    cases fuel with
    | zero => omega
    | succ m =>
      have go : ∀ v, v = nI (lc q al a b) → ∃ f', f_X5_weigh_124 K (f_X5_weigh_79 K m) (en al) (nI a) (nI b) v ((nI a * 10) + nI b) (pv_pa τ 3 f) = K (en al) (nI (a + 1)) (pv_pa τ 3 f') ∧ ∀ a' b', a' < a + 1 → b' < qn q → f' (10 * a' + b') = nI (lc q al a' b') := fun v hv => by
        unfold f_X5_weigh_124
        have e : (nI a * 10 + nI b : Int32) = nI (10 * a + b) := by show nI a * nI 10 + nI b = _; rw [pk_mul, nI_add, Nat.mul_comm]
        rw [e, gd_nI _ (by omega) (by decide), sa_nI _ _ _ (by omega), pa_pa, pa_2s, p1, hv]
        refine ih m (b + 1) _ (by omega) (by omega) (fun a' b' h5 h6 => ?_) (fun b' h5 => ?_)
        · rw [upd_n _ _ (by omega)]; exact h3 a' b' h5 h6
        · rw [upd_ap]
          by_cases c : b' = b
          · rw [if_pos (by rw [c]), c]
          · rw [if_neg (by omega)]; exact h4 b' (by omega)
      unfold f_X5_weigh_79
      rw [pa_1, h2, if_neg (nI_ge (by omega) (by omega))]
      by_cases e1 : al = some a
      · rw [if_pos ((al_ne hal hn (by omega)).mpr e1)]
        exact go _ (by unfold lc okb; rw [if_neg (by simp [e1])]; rfl)
      · rw [if_neg (fun z => e1 ((al_ne hal hn (by omega)).mp z))]
        by_cases e2 : al = some b
        · rw [if_pos ((al_ne hal hn (by omega)).mpr e2)]
          exact go _ (by unfold lc okb; rw [if_neg (by simp [e2])]; rfl)
        · rw [if_neg (fun z => e2 ((al_ne hal hn (by omega)).mp z)), e_X6_costToFollow (q := q) hw (show RC ((pv_pa τ 3 f).2 0) 0 q from h) ha (by omega), Option.bind_some]
          dsimp only
          have eo : okb q al a b = my q a b := by
            unfold okb
            have z1 : decide (al ≠ some a) = true := by simp [e1]
            have z2 : decide (al ≠ some b) = true := by simp [e2]
            rw [z1, z2, Bool.and_true, Bool.and_true]
          have eb : f_X5_barredOr (if my q a b = true then nI (cs q a b) else -1) (pv_pa τ 3 f) = some (nI (lc q al a b), pv_pa τ 3 f) := by
            unfold f_X5_barredOr lc
            rw [eo]
            have := cs_le hw ha (b := b) (by omega)
            cases my q a b with
            | true => rw [if_pos rfl, if_pos rfl, if_neg (nI_nn1 (by omega))]
            | false => rfl
          rw [eb, Option.bind_some]
          exact go _ rfl
/-- a row of leastTo holds the least costs -/
def LT (q : Sc) (al : Option Nat) (d : Nat) (f : Nat → Int32) : Prop := ∀ s, s < 2 ^ d → ∃ x, f (2 ^ d + s) = nI x ∧ LE (PT q al d s) x
def PTp (q : Sc) (al : Option Nat) (d lim s x : Nat) : Prop := (s < 2 ^ d ∧ PT q al d s x) ∨ ∃ e s' y, e ≤ d ∧ qn q - 1 - e < lim ∧ s' < 2 ^ d ∧ s'.testBit e = false ∧ s = s' ||| 2 ^ e ∧ okb q al (qn q - 1 - (d + 1)) (qn q - 1 - e) = true ∧ x = cs q (qn q - 1 - (d + 1)) (qn q - 1 - e) + y ∧ PT q al d s' y
theorem PTp_PT {q : Sc} {al : Option Nat} {d lim s x : Nat} (h : PTp q al d lim s x) : PT q al (d + 1) s x := by
  rcases h with h | ⟨e, s', y, h1, -, h3⟩
  · exact Or.inl h
  · exact Or.inr ⟨e, s', y, h1, h3⟩
theorem PTp_all {q : Sc} {al : Option Nat} {d s x : Nat} (hd : d < qn q) : PTp q al d (qn q) s x ↔ PT q al (d + 1) s x := by
  constructor
  · exact PTp_PT
  · rintro (h | ⟨e, s', y, h1, h3⟩)
    · exact Or.inl h
    · exact Or.inr ⟨e, s', y, h1, by omega, h3⟩
theorem or_inj {s t e : Nat} (hs : s.testBit e = false) (ht : t.testBit e = false) (h : s ||| 2 ^ e = t ||| 2 ^ e) : s = t := by
  apply Nat.eq_of_testBit_eq
  intro j
  have := congrArg (fun x => x.testBit j) h
  simp only [bt_or] at this
  by_cases c : e = j
  · rw [← c, hs, ht]
  · simpa [c] using this
theorem c_weighLine_3 (hw : WF q) {d e c : Nat} (hd : d + 1 < qn q) (he : e ≤ d) (hc : c ≤ 2133) (P : Nat → Nat → Prop) (hP : ∀ t z, P t z → z < FA) (hcy : ∀ t y, PT q al d t y → c + y < FA) : ∀ (k fuel s : Nat) (f : Nat → Int32), s + k = 2 ^ d → k < fuel → LT q al d f → (∀ t, t < 2 ^ (d + 1) → ∃ x, f (2 ^ (d + 1) + t) = nI x ∧ LE (fun z => P t z ∨ ∃ s' y, s' < s ∧ s'.testBit e = false ∧ t = s' ||| 2 ^ e ∧ z = c + y ∧ PT q al d s' y) x) → ∃ f', f_X5_weighLine_3 fuel (nI (2 ^ d)) (nI (2 ^ e)) (nI c) (nI s) (pv_pa τ 4 f) = some (pv_pa τ 4 f') ∧ LT q al d f' ∧ (∀ x, x < 2 ^ (d + 1) → f' x = f x) ∧ ∀ t, t < 2 ^ (d + 1) → ∃ x, f' (2 ^ (d + 1) + t) = nI x ∧ LE (fun z => P t z ∨ ∃ s' y, s' < 2 ^ d ∧ s'.testBit e = false ∧ t = s' ||| 2 ^ e ∧ z = c + y ∧ PT q al d s' y) x := by
  have hn := hw.2.1.1
  have b1 : 2 ^ (d + 1) = 2 * 2 ^ d := by rw [Nat.pow_succ]; omega
  have b2 : 2 * 2 ^ (d + 1) ≤ 1024 := by
    have : 2 ^ (d + 2) ≤ 2 ^ 10 := Nat.pow_le_pow_right (by decide) (by omega)
    rw [Nat.pow_succ] at this; omega
  have b3 : 2 ^ e ≤ 2 ^ d := Nat.pow_le_pow_right (by decide) he
  intro k
  induction k with
  | zero =>
    intro fuel s f hs hk h1 h3
    cases fuel with
    | zero => omega
    | succ m =>
      unfold f_X5_weighLine_3
      rw [if_pos (nI_le (by omega) (by omega))]
      refine ⟨f, rfl, h1, fun _ _ => rfl, fun t ht => ?_⟩
      rw [show 2 ^ d = s by omega]; exact h3 t ht
  | succ k ih =>
    intro fuel s f hs hk h1 h3
    cases fuel with
    | zero => omega
    | succ m =>
      unfold f_X5_weighLine_3
      rw [if_neg (nI_ge (by omega) (by omega)), bi_and]
      cases hb : s.testBit e with
      | true =>
        have : s &&& 2 ^ e ≠ 0 := fun z => by rw [bt_and2.mp z] at hb; cases hb
        have hle : s &&& 2 ^ e ≤ s := Nat.and_le_left
        rw [if_neg (nI_ne0 (by omega) (by omega)), p1]
        refine ih m (s + 1) f (by omega) (by omega) h1 (fun t ht => ?_)
        obtain ⟨x, x1, x2⟩ := h3 t ht
        refine ⟨x, x1, LE_cg (fun z => ?_) x2⟩
        constructor
        · rintro (c1 | ⟨s', y, c1, c2⟩)
          · exact Or.inl c1
          · exact Or.inr ⟨s', y, by omega, c2⟩
        · rintro (c1 | ⟨s', y, c1, c2, c3⟩)
          · exact Or.inl c1
          · rcases Nat.lt_or_ge s' s with g | g
            · exact Or.inr ⟨s', y, g, c2, c3⟩
            · rw [show s' = s by omega, hb] at c2; cases c2
      | false =>
        have eo : s + 2 ^ e = s ||| 2 ^ e := bt_add s (by omega) e (by omega) hb
        have ht0 : s ||| 2 ^ e < 2 ^ (d + 1) := by rw [← eo]; omega
        have ei : ((2 * nI (2 ^ d)) + nI s) + nI (2 ^ e) = nI (2 ^ (d + 1) + (s ||| 2 ^ e)) := by
          show ((nI 2 * nI (2 ^ d)) + nI s) + nI (2 ^ e) = _
          rw [pk_mul, nI_add, nI_add, ← eo, b1]; congr 1; omega
        obtain ⟨x0, x1, x2⟩ := h3 _ ht0
        obtain ⟨y0, y1, y2⟩ := h1 s (by omega)
        have hx0 : x0 ≤ FA := LE_le (fun z hz => by
          rcases hz with c1 | ⟨s', y, -, -, -, c1, c2⟩
          · exact hP _ z c1
          · rw [c1]; exact hcy s' y c2) x2
        have hy0 : y0 ≤ FA := LE_le (fun z hz => PT_FA hw (by omega) z hz) y2
        rw [bt_and2.mpr hb, if_pos (show nI 0 = 0 from rfl), ei, nI_add, p1]
        simp (disch := omega) only [gd_nI, la_nI, sa_nI, pa_pa, pa_2s]
        rw [x1, y1, nI_add]
        have emin : (if nI (c + y0) < nI x0 then nI (c + y0) else nI x0) = nI (if c + y0 < x0 then c + y0 else x0) := by
          unfold FA at hx0 hy0
          by_cases g : c + y0 < x0
          · rw [if_pos g, if_pos (nI_lt g (by omega))]
          · rw [if_neg g, if_neg (nI_nlt (by omega) (by omega))]
        rw [emin]
        obtain ⟨f', r1, r2, r3, r4⟩ := ih m (s + 1) (upd f (2 ^ (d + 1) + (s ||| 2 ^ e)) (nI (if c + y0 < x0 then c + y0 else x0))) (by omega) (by omega) (fun s' hs' => by
          rw [upd_n _ _ (by omega)]; exact h1 s' hs') (fun t ht => by
          by_cases g : t = s ||| 2 ^ e
          · subst g
            refine ⟨_, upd_s _ _ _, LE_cg (fun z => ?_) (LE_or (c := c) (fun z hz => ?_) x2 y2)⟩
            · constructor
              · rintro ((c1 | ⟨s', y, c1, c2⟩) | ⟨u, c1, c2⟩)
                · exact Or.inl c1
                · exact Or.inr ⟨s', y, by omega, c2⟩
                · exact Or.inr ⟨s, u, by omega, hb, rfl, c1, c2⟩
              · rintro (c1 | ⟨s', y, c1, c2, c3, c4, c5⟩)
                · exact Or.inl (Or.inl c1)
                · rcases Nat.lt_or_ge s' s with g | g
                  · exact Or.inl (Or.inr ⟨s', y, g, c2, c3, c4, c5⟩)
                  · have : s' = s := by omega
                    subst this
                    exact Or.inr ⟨y, c4, c5⟩
            · rcases hz with c1 | ⟨s', y, -, -, -, c1, c2⟩
              · exact hP _ z c1
              · rw [c1]; exact hcy s' y c2
          · obtain ⟨x, z1, z2⟩ := h3 t ht
            refine ⟨x, by rw [upd_n _ _ (by omega)]; exact z1, LE_cg (fun z => ?_) z2⟩
            constructor
            · rintro (c1 | ⟨s', y, c1, c2⟩)
              · exact Or.inl c1
              · exact Or.inr ⟨s', y, by omega, c2⟩
            · rintro (c1 | ⟨s', y, c1, c2, c3, c4⟩)
              · exact Or.inl c1
              · rcases Nat.lt_or_ge s' s with g2 | g2
                · exact Or.inr ⟨s', y, g2, c2, c3, c4⟩
                · exact absurd (by rw [c3, show s' = s by omega]) g)
        refine ⟨f', r1, r2, fun x hx => ?_, r4⟩
        rw [r3 x hx, upd_n _ _ (by omega)]
theorem c_lineCost (hn : qn q ≤ 10) (hL : ∀ a b, a < qn q → b < qn q → τ.2 3 (10 * a + b) = nI (lc q al a b)) {a b : Nat} (ha : a < qn q) (hb : b < qn q) : f_X5_lineCost (nI a) (nI b) τ = some (nI (lc q al a b), τ) := by
  unfold f_X5_lineCost
  have e : (nI a * 10 + nI b : Int32) = nI (10 * a + b) := by show nI a * nI 10 + nI b = _; rw [pk_mul, nI_add, Nat.mul_comm]
  rw [if_neg (nI_pos (by omega)), if_neg (show ¬ (10 : Int32) ≤ nI a from nI_ge (b := 10) (by omega) (by decide)), if_neg (nI_pos (by omega)), if_neg (show ¬ (10 : Int32) ≤ nI b from nI_ge (b := 10) (by omega) (by decide)), e, gd_nI _ (by omega) (by decide), la_nI _ _ (by omega), hL a b ha hb]
theorem c_weighFrom_55 (hw : WF q) (h2 : τ.1 2 = nI (qn q)) (hL : ∀ a b, a < qn q → b < qn q → τ.2 3 (10 * a + b) = nI (lc q al a b)) {d i : Nat} (hd : d + 1 < qn q) (hi : i = qn q - 1 - (d + 1)) : ∀ (k fuel b : Nat) (f : Nat → Int32), b + k = qn q → i < b → k < fuel → LT q al d f → (∀ t, t < 2 ^ (d + 1) → ∃ x, f (2 ^ (d + 1) + t) = nI x ∧ LE (PTp q al d b t) x) → ∃ f', f_X5_weighFrom_55 fuel (nI i) (nI (2 ^ d)) (nI b) (pv_pa τ 4 f) = some (pv_pa τ 4 f') ∧ LT q al (d + 1) f' ∧ ∀ x, x < 2 ^ (d + 1) → f' x = f x := by
  have hn := hw.2.1.1
  intro k
  induction k with
  | zero =>
    intro fuel b f hb hib hk h1 h3
    cases fuel with
    | zero => omega
    | succ m =>
      unfold f_X5_weighFrom_55
      rw [pa_1, h2, if_pos (nI_le (by omega) (by omega))]
      refine ⟨f, rfl, fun t ht => ?_, fun _ _ => rfl⟩
      obtain ⟨x, x1, x2⟩ := h3 t ht
      rw [show b = qn q by omega] at x2
      exact ⟨x, x1, LE_cg (fun z => PTp_all (by omega)) x2⟩
  | succ k ih =>
    intro fuel b f hb hib hk h1 h3
    cases fuel with
    | zero => omega
    | succ m =>
      unfold f_X5_weighFrom_55
      rw [pa_1, h2, if_neg (nI_ge (by omega) (by omega)), c_lineCost (τ := pv_pa τ 4 f) hn hL (by omega) (by omega), Option.bind_some]
      dsimp only
      have hlc := lc_le hw (al := al) (a := i) (b := b) (by omega) (by omega)
      by_cases ho : okb q al i b = true
      · have el : lc q al i b = cs q i b := by unfold lc; rw [if_pos ho]
        have hcs := cs_le hw (a := i) (b := b) (by omega) (by omega)
        rw [el, FA_nI, if_neg (nI_ge (show cs q i b < FA by unfold FA; omega) (by decide)), c_bit (q := q) hn (τ := pv_pa τ 4 f) h2 (by omega), Option.bind_some]
        dsimp only
        rw [c_lineCost (τ := pv_pa τ 4 f) hn hL (by omega) (by omega), Option.bind_some, el]
        dsimp only
        have he : qn q - 1 - (qn q - 1 - b) = b := by omega
        obtain ⟨f', r1, r2, r3, r4⟩ := c_weighLine_3 (τ := τ) (al := al) hw hd (e := qn q - 1 - b) (c := cs q i b) (by omega) hcs (PTp q al d b) (fun t z hz => PT_FA hw hd z (PTp_PT hz)) (fun t y hy => by
          have := PT_b hw d t y (by omega) hy
          unfold FA; omega) (2 ^ d) pv_FU 0 f (by omega) (by have : 2 ^ d ≤ 1024 := p2_le (by omega); unfold pv_FU; omega) h1 (fun t ht => by
          obtain ⟨x, x1, x2⟩ := h3 t ht
          refine ⟨x, x1, LE_cg (fun z => ?_) x2⟩
          constructor
          · exact Or.inl
          · rintro (c | ⟨s', y, c1, -⟩)
            · exact c
            · omega)
        unfold f_X5_weighLine
        rw [show (0 : Int32) = nI 0 from rfl, r1, Option.bind_some, p1]
        obtain ⟨f2, u1, u2, u3⟩ := ih m (b + 1) f' (by omega) (by omega) (by omega) r2 (fun t ht => by
          obtain ⟨x, x1, x2⟩ := r4 t ht
          refine ⟨x, x1, LE_cg (fun z => ?_) x2⟩
          constructor
          · rintro ((c | ⟨e, s', y, c1, c2, c3⟩) | ⟨s', y, c1, c2, c3, c4, c5⟩)
            · exact Or.inl c
            · exact Or.inr ⟨e, s', y, c1, by omega, c3⟩
            · exact Or.inr ⟨qn q - 1 - b, s', y, by omega, by omega, c1, c2, c3, by rw [he, ← hi]; exact ho, by rw [he, ← hi]; exact c4, c5⟩
          · rintro (c | ⟨e, s', y, c1, c2, c3, c4, c5, c6, c7, c8⟩)
            · exact Or.inl (Or.inl c)
            · by_cases g : qn q - 1 - e < b
              · exact Or.inl (Or.inr ⟨e, s', y, c1, g, c3, c4, c5, c6, c7, c8⟩)
              · have ee : e = qn q - 1 - b := by omega
                subst ee
                refine Or.inr ⟨s', y, c3, c4, c5, ?_, c8⟩
                rw [he, ← hi] at c7; exact c7)
        exact ⟨f2, u1, u2, fun x hx => by rw [u3 x hx, r3 x hx]⟩
      · have el : lc q al i b = FA := by unfold lc; rw [if_neg ho]
        rw [el, FA_nI, if_pos (nI_le (Nat.le_refl FA) (by decide)), p1]
        refine ih m (b + 1) f (by omega) (by omega) (by omega) h1 (fun t ht => ?_)
        obtain ⟨x, x1, x2⟩ := h3 t ht
        refine ⟨x, x1, LE_cg (fun z => ?_) x2⟩
        constructor
        · rintro (c | ⟨e, s', y, c1, c2, c3⟩)
          · exact Or.inl c
          · exact Or.inr ⟨e, s', y, c1, by omega, c3⟩
        · rintro (c | ⟨e, s', y, c1, c2, c3, c4, c5, c6, c7⟩)
          · exact Or.inl c
          · by_cases g : qn q - 1 - e < b
            · exact Or.inr ⟨e, s', y, c1, g, c3, c4, c5, c6, c7⟩
            · have ee : qn q - 1 - e = b := by omega
              rw [ee, ← hi] at c6
              exact absurd c6 ho
theorem c_weighFrom_10 (hw : WF q) (h2 : τ.1 2 = nI (qn q)) (hL : ∀ a b, a < qn q → b < qn q → τ.2 3 (10 * a + b) = nI (lc q al a b)) {d i : Nat} (hd : d + 1 < qn q) (hi : i = qn q - 1 - (d + 1)) : ∀ (k fuel s : Nat) (f : Nat → Int32), s + k = 2 ^ d → k < fuel → LT q al d f → (∀ t, t < s → f (2 ^ (d + 1) + t) = f (2 ^ d + t) ∧ f (2 ^ (d + 1) + 2 ^ d + t) = nI FA) → ∃ f', f_X5_weighFrom_10 fuel (nI i) (nI (2 ^ d)) (nI s) (pv_pa τ 4 f) = some (pv_pa τ 4 f') ∧ LT q al (d + 1) f' ∧ ∀ x, x < 2 ^ (d + 1) → f' x = f x := by
  have hn := hw.2.1.1
  have b1 : 2 ^ (d + 1) = 2 * 2 ^ d := by rw [Nat.pow_succ]; omega
  have b2 : 2 * 2 ^ (d + 1) ≤ 1024 := by
    have : 2 ^ (d + 2) ≤ 2 ^ 10 := Nat.pow_le_pow_right (by decide) (by omega)
    rw [Nat.pow_succ] at this; omega
  intro k
  induction k with
  | zero =>
    intro fuel s f hs hk h1 h3
    cases fuel with
    | zero => omega
    | succ m =>
      unfold f_X5_weighFrom_10
      rw [if_pos (nI_le (by omega) (by omega)), p1]
      refine c_weighFrom_55 hw h2 hL hd hi (qn q - (i + 1)) pv_FU (i + 1) f (by omega) (by omega) (by unfold pv_FU; omega) h1 (fun t ht => ?_)
      have noe : ∀ z, PTp q al d (i + 1) t z → t < 2 ^ d ∧ PT q al d t z := fun z hz => by
        rcases hz with c | ⟨e, s', y, c1, c2, -⟩
        · exact c
        · omega
      rcases Nat.lt_or_ge t (2 ^ d) with g | g
      · obtain ⟨x, x1, x2⟩ := h1 t g
        refine ⟨x, by rw [(h3 t (by omega)).1]; exact x1, LE_cg (fun z => ⟨fun c => Or.inl ⟨g, c⟩, fun c => (noe z c).2⟩) x2⟩
      · refine ⟨FA, ?_, Or.inr rfl, fun y hy => ?_⟩
        · have := (h3 (t - 2 ^ d) (by omega)).2
          rw [show 2 ^ (d + 1) + 2 ^ d + (t - 2 ^ d) = 2 ^ (d + 1) + t by omega] at this
          exact this
        · have := (noe y hy).1; omega
  | succ k ih =>
    intro fuel s f hs hk h1 h3
    cases fuel with
    | zero => omega
    | succ m =>
      unfold f_X5_weighFrom_10
      have e2 : (2 * nI (2 ^ d) + nI s : Int32) = nI (2 ^ (d + 1) + s) := by show nI 2 * nI (2 ^ d) + nI s = _; rw [pk_mul, nI_add, b1]
      have e3 : (3 * nI (2 ^ d) + nI s : Int32) = nI (2 ^ (d + 1) + 2 ^ d + s) := by show nI 3 * nI (2 ^ d) + nI s = _; rw [pk_mul, nI_add, b1]; congr 1; omega
      rw [if_neg (nI_ge (by omega) (by omega)), e2, e3, nI_add, p1]
      simp (disch := omega) only [gd_nI, la_nI, sa_nI, pa_pa, pa_2s]
      have lo : ∀ x, x < 2 ^ (d + 1) → upd (upd f (2 ^ (d + 1) + s) (f (2 ^ d + s))) (2 ^ (d + 1) + 2 ^ d + s) 1000000 x = f x := fun x hx => by rw [upd_n _ _ (by omega), upd_n _ _ (by omega)]
      obtain ⟨f', r1, r2, r3⟩ := ih m (s + 1) (upd (upd f (2 ^ (d + 1) + s) (f (2 ^ d + s))) (2 ^ (d + 1) + 2 ^ d + s) 1000000) (by omega) (by omega) (fun t ht => by rw [lo _ (by omega)]; exact h1 t ht) (fun t ht => by
        rw [lo (2 ^ d + t) (by omega)]
        constructor
        · rw [upd_n _ _ (by omega), upd_ap]
          by_cases c : t = s
          · rw [if_pos (by rw [c]), c]
          · rw [if_neg (by omega)]; exact (h3 t (by omega)).1
        · rw [upd_ap]
          by_cases c : t = s
          · rw [if_pos (by rw [c])]; rfl
          · rw [if_neg (by omega), upd_n _ _ (by omega)]; exact (h3 t (by omega)).2)
      exact ⟨f', r1, r2, fun x hx => by rw [r3 x hx, lo x hx]⟩
theorem c_weighFrom (hw : WF q) (h2 : τ.1 2 = nI (qn q)) (hL : ∀ a b, a < qn q → b < qn q → τ.2 3 (10 * a + b) = nI (lc q al a b)) {d i : Nat} (hd : d + 1 < qn q) (hi : i = qn q - 1 - (d + 1)) {f : Nat → Int32} (h1 : LT q al d f) : ∃ f', f_X5_weighFrom (nI i) (pv_pa τ 4 f) = some (pv_pa τ 4 f') ∧ LT q al (d + 1) f' ∧ ∀ x, x < 2 ^ (d + 1) → f' x = f x := by
  have hn := hw.2.1.1
  unfold f_X5_weighFrom
  rw [p1, c_bit (q := q) hn (τ := pv_pa τ 4 f) h2 (by omega), Option.bind_some]
  dsimp only
  rw [show qn q - 1 - (i + 1) = d by omega]
  exact c_weighFrom_10 hw h2 hL hd hi (2 ^ d) pv_FU 0 f (by omega) (by have : 2 ^ d ≤ 1024 := p2_le (by omega); unfold pv_FU; omega) h1 (fun t ht => by omega)
end DPC
