/-! the class weighs -/
def lk (q : Sc) (al : Option Nat) (k : Nat) : Nat := if k ≤ qn q then lv q al (qn q - k) (qn q) 0 else FA
def lw (q : Sc) (al : Option Nat) (k : Nat) : Int32 := if lk q al k < FA then nI (lk q al k + k * qt q 3) else -1
def CA (τ : pv_S) (q : Sc) (al : Option Nat) : Prop := τ.1 2 = nI (qn q) ∧ τ.1 3 = nI (qt q 3) ∧ (∀ a b, a < qn q → b < qn q → τ.2 3 (10 * a + b) = nI (lc q al a b)) ∧ (∀ d, d < qn q → LT q al d (τ.2 4)) ∧ ∀ k, k ≤ 10 → τ.2 5 k = lw q al k
theorem lk_le (q : Sc) (al : Option Nat) (k : Nat) : lk q al k ≤ FA := by
  unfold lk; split
  · exact lv_le q al _ _ _
  · omega
def VL (t : Nat) (P : Nat → Prop) (k : Nat) (v : Int32) : Prop := (∃ x, x < FA ∧ P x ∧ (∀ y, P y → x ≤ y) ∧ v = nI (x + k * t)) ∨ ((∀ x, ¬ P x) ∧ v = -1)
theorem VL_cg {t : Nat} {P Q : Nat → Prop} {k : Nat} {v : Int32} (h : ∀ z, P z ↔ Q z) (hv : VL t P k v) : VL t Q k v := by
  rcases hv with ⟨x, h1, h2, h3, h4⟩ | ⟨h1, h2⟩
  · exact Or.inl ⟨x, h1, (h x).mp h2, fun y hy => h3 y ((h y).mpr hy), h4⟩
  · exact Or.inr ⟨fun x hx => h1 x ((h x).mpr hx), h2⟩
theorem upd_id (f : Nat → Int32) (k : Nat) : upd f k (f k) = f := by
  funext j; rw [upd_ap]; by_cases c : j = k
  · rw [if_pos c, c]
  · rw [if_neg c]
theorem VL_lw {q : Sc} (hw : WF q) {al : Option Nat} {k : Nat} (hn : 1 ≤ qn q) {v : Int32} (h : VL (qt q 3) (fun x => ∃ s, s < 2 ^ (qn q - 1) ∧ pop s + k = qn q ∧ PT q al (qn q - 1) s x) k v) : v = lw q al k := by
  have hn2 := hw.2.1.1
  unfold lw lk
  by_cases hk : k ≤ qn q
  · rw [if_pos hk]
    have hl := lv_LE hw (al := al) (links := qn q - k) (qn q) 0 (Nat.le_refl _)
    have hb := PM_FA hw (al := al) (links := qn q - k) (S := 0) (Nat.le_refl (qn q))
    have e : ∀ x, PM q al (qn q - k) (qn q) 0 x ↔ ∃ s, s < 2 ^ (qn q - 1) ∧ pop s + k = qn q ∧ PT q al (qn q - 1) s x := fun x => by
      have := PM_PV hw (al := al) (links := qn q - k) (qn q - 1) 0 0 x (by omega) (rev_0 _) (by rw [pop_0]; omega)
      rw [show qn q - 1 + 1 = qn q by omega, pop_0] at this
      rw [this]
      constructor
      · rintro ⟨s, h1, h2, h3, h4⟩; exact ⟨s, h1, by omega, h4⟩
      · rintro ⟨s, h1, h2, h3⟩; exact ⟨s, h1, Nat.and_zero s, by omega, h3⟩
    rcases h with ⟨x, h1, h2, h3, h4⟩ | ⟨h1, h2⟩
    · have hx : LE (PM q al (qn q - k) (qn q) 0) x := ⟨Or.inl ((e x).mpr h2), fun y hy => h3 y ((e y).mp hy)⟩
      have := LE_u (fun z => Iff.rfl) hb hx hl
      rw [← this, if_pos h1]; exact h4
    · have : lv q al (qn q - k) (qn q) 0 = FA := by
        rcases hl.1 with c | c
        · exact absurd ((e _).mp c) (h1 _)
        · exact c
      rw [this, if_neg (by omega)]; exact h2
  · rw [if_neg hk, if_neg (by omega)]
    rcases h with ⟨x, -, ⟨s, -, h2, -⟩, -⟩ | ⟨-, h2⟩
    · omega
    · exact h2
section DPW
variable {τ : pv_S} {q : Sc} {al : Option Nat}
theorem c_isVC {k : Nat} (hk : k ≤ 10) (σ : pv_S) : f_X7_isVoiceCount (nI k) σ = some (1, σ) := by
  unfold f_X7_isVoiceCount
  rw [if_neg (nI_pos (by omega)), if_neg (show ¬ (10 : Int32) < nI k from nI_nlt (a := 10) hk (by decide))]
theorem c_offer {t : Nat} (ht : t ≤ 999) (h3 : τ.1 3 = nI t) {k x : Nat} (hk : k ≤ 10) (hx : x < FA) {P Q : Nat → Prop} (f : Nat → Int32) (hP : VL t P k (f k)) (hQ : Q x) (hQ2 : ∀ y, Q y → x ≤ y) : ∃ v, f_X5_offer (nI k) (nI x) (pv_pa τ 5 f) = some (pv_pa τ 5 (upd f k v)) ∧ VL t (fun z => P z ∨ Q z) k v := by
  have hkt : k * t ≤ 10 * 999 := Nat.mul_le_mul hk ht
  unfold FA at hx
  unfold f_X5_offer f_X5_offer_36
  rw [c_isVC hk, Option.bind_some]
  dsimp only
  rw [if_neg c10, gd_nI _ (by omega) (by decide), gd_nI _ (by omega) (by decide), gd_nI _ (by omega) (by decide), la_nI _ _ (by omega), sa_nI _ _ _ (by omega), pa_2s, pa_1, h3, pk_mul, nI_add, pa_pa]
  rcases hP with ⟨x0, p1', p2, p3, p4⟩ | ⟨p1', p2⟩
  · unfold FA at p1'
    rw [if_neg (by rw [p4]; exact nI_nn1 (by omega))]
    rcases Nat.lt_or_ge x x0 with c | c
    · rw [if_neg (by rw [p4]; exact nI_ge (by omega) (by omega))]
      refine ⟨_, rfl, Or.inl ⟨x, hx, Or.inr hQ, fun y hy => ?_, rfl⟩⟩
      rcases hy with hy | hy
      · have := p3 y hy; omega
      · exact hQ2 y hy
    · rw [if_pos (by rw [p4]; exact nI_le (by omega) (by omega))]
      refine ⟨f k, by rw [upd_id], Or.inl ⟨x0, p1', Or.inl p2, fun y hy => ?_, p4⟩⟩
      rcases hy with hy | hy
      · exact p3 y hy
      · have := hQ2 y hy; omega
  · rw [if_pos p2]
    refine ⟨_, rfl, Or.inl ⟨x, hx, Or.inr hQ, fun y hy => ?_, rfl⟩⟩
    rcases hy with hy | hy
    · exact absurd hy (p1' y)
    · exact hQ2 y hy
theorem c_findLeast_31 (hw : WF q) (h2 : τ.1 2 = nI (qn q)) (h3 : τ.1 3 = nI (qt q 3)) {d : Nat} (hd : d + 1 = qn q) (hT : LT q al d (τ.2 4)) : ∀ (m fuel s : Nat) (f : Nat → Int32), s + m = 2 ^ d → m < fuel → (∀ k, k ≤ 10 → VL (qt q 3) (fun x => ∃ u, u < s ∧ pop u + k = qn q ∧ PT q al d u x) k (f k)) → ∃ f', f_X5_findLeast_31 fuel (nI (2 ^ d)) (nI s) (pv_pa τ 5 f) = some (pv_pa τ 5 f') ∧ ∀ k, k ≤ 10 → VL (qt q 3) (fun x => ∃ u, u < 2 ^ d ∧ pop u + k = qn q ∧ PT q al d u x) k (f' k) := by
  have hn := hw.2.1.1
  have b2 : 2 * 2 ^ d ≤ 1024 := by
    have : 2 ^ (d + 1) ≤ 2 ^ 10 := Nat.pow_le_pow_right (by decide) (by omega)
    rw [Nat.pow_succ] at this; omega
  intro m
  induction m with
  | zero =>
    intro fuel s f hs hm h
    cases fuel with
    | zero => omega
    | succ r =>
      unfold f_X5_findLeast_31
      rw [if_pos (nI_le (by omega) (by omega))]
      refine ⟨f, rfl, fun k hk => ?_⟩
      rw [show 2 ^ d = s by omega]; exact h k hk
  | succ m ih =>
    intro fuel s f hs hm h
    cases fuel with
    | zero => omega
    | succ r =>
      obtain ⟨x, x1, x2⟩ := hT s (by omega)
      have hxF := LE_le (fun z hz => PT_FA hw (by omega) z hz) x2
      unfold f_X5_findLeast_31
      rw [if_neg (nI_ge (by omega) (by omega)), nI_add, gd_nI _ (by omega) (by decide), la_nI _ _ (by omega), show (pv_pa τ 5 f).2 4 = τ.2 4 from rfl, x1, p1, FA_nI]
      by_cases c : FA ≤ x
      · rw [if_pos (nI_le c (by unfold FA at hxF; omega))]
        refine ih r (s + 1) f (by omega) (by omega) (fun k hk => VL_cg (fun z => ?_) (h k hk))
        constructor
        · rintro ⟨u, u1, u2⟩; exact ⟨u, by omega, u2⟩
        · rintro ⟨u, u1, u2, u3⟩
          rcases Nat.lt_or_ge u s with g | g
          · exact ⟨u, g, u2, u3⟩
          · have : u = s := by omega
            subst this
            have a := x2.2 z u3
            have b := PT_FA hw (by omega) z u3
            omega
      · rw [if_neg (nI_ge (by omega) (by decide)), bc_ok s (by omega), Option.bind_some]
        dsimp only
        have hp := pop_lt s (by omega) d (by omega) (by omega)
        rw [pa_1, h2, pk_sub (by omega)]
        have hPx : PT q al d s x := by
          rcases x2.1 with g | g
          · exact g
          · omega
        obtain ⟨v, v1, v2⟩ := c_offer (τ := τ) (t := qt q 3) hw.1.2.2.2.1 h3 (k := qn q - pop s) (x := x) (by omega) (by omega) f (h (qn q - pop s) (by omega)) hPx x2.2
        rw [v1, Option.bind_some]
        refine ih r (s + 1) _ (by omega) (by omega) (fun k hk => ?_)
        by_cases ck : k = qn q - pop s
        · rw [ck, upd_s]
          refine VL_cg (fun z => ?_) v2
          constructor
          · rintro (⟨u, u1, u2⟩ | u1)
            · exact ⟨u, by omega, u2⟩
            · exact ⟨s, by omega, by omega, u1⟩
          · rintro ⟨u, u1, u2, u3⟩
            rcases Nat.lt_or_ge u s with g | g
            · exact Or.inl ⟨u, g, u2, u3⟩
            · have : u = s := by omega
              subst this
              exact Or.inr u3
        · rw [upd_n _ _ ck]
          refine VL_cg (fun z => ?_) (h k hk)
          constructor
          · rintro ⟨u, u1, u2⟩; exact ⟨u, by omega, u2⟩
          · rintro ⟨u, u1, u2, u3⟩
            rcases Nat.lt_or_ge u s with g | g
            · exact ⟨u, g, u2, u3⟩
            · have : u = s := by omega
              subst this
              omega
theorem c_fill14 (σ : pv_S) : ∀ (d fuel i : Nat) (f : Nat → Int32), i + d = 11 → d < fuel → (∀ j, j < i → f j = -1) → ∃ g, f_J7_fill_53178_14_5 fuel (-1) (nI i) 11 (pv_pa σ 5 f) = some (pv_pa σ 5 g) ∧ ∀ j, j < 11 → g j = -1 := by
  intro d
  induction d with
  | zero =>
    intro fuel i f hi hf h
    cases fuel with
    | zero => omega
    | succ m =>
      unfold f_J7_fill_53178_14_5
      rw [if_pos (show (11 : Int32) ≤ nI i from nI_le (a := 11) (by omega) (by omega))]
      exact ⟨f, rfl, fun j hj => h j (by omega)⟩
  | succ d ih =>
    intro fuel i f hi hf h
    cases fuel with
    | zero => omega
    | succ m =>
      unfold f_J7_fill_53178_14_5
      rw [if_neg (show ¬ (11 : Int32) ≤ nI i from nI_ge (b := 11) (by omega) (by decide)), gd_nI _ (by omega) (by decide), sa_nI _ _ _ (by omega), pa_pa, pa_2s, p1]
      refine ih m (i + 1) _ (by omega) (by omega) (fun j hj => ?_)
      rw [upd_ap]
      by_cases c : j = i
      · rw [if_pos c]
      · rw [if_neg c]; exact h j (by omega)
theorem c_findLeast (hw : WF q) (h2 : τ.1 2 = nI (qn q)) (h3 : τ.1 3 = nI (qt q 3)) (hT : 1 ≤ qn q → LT q al (qn q - 1) (τ.2 4)) : ∃ f, f_X5_findLeast τ = some (pv_pa τ 5 f) ∧ ∀ k, k ≤ 10 → f k = lw q al k := by
  have hn := hw.2.1.1
  obtain ⟨g, g1, g2⟩ := c_fill14 τ 11 pv_FU 0 (τ.2 5) (by omega) (by unfold pv_FU; omega) (fun j hj => by omega)
  rw [pa_self] at g1
  unfold f_X5_findLeast f_J7_fill_53178_14
  rw [show f_J7_fill_53178_14_5 pv_FU (-1) 0 11 τ = some (pv_pa τ 5 g) from g1, Option.bind_some, pa_1, h2]
  rcases Nat.eq_zero_or_pos (qn q) with c | c
  · rw [if_pos (by rw [c]; rfl), show (gd 0 11 (some (pv_sa (pv_pa τ 5 g) 5 0 0)) : Option pv_S) = some (pv_sa (pv_pa τ 5 g) 5 0 0) from gd_nI (i := 0) _ (by decide) (by decide), show pv_sa (pv_pa τ 5 g) 5 0 0 = pv_pa τ 5 (upd g 0 0) from by
      have := sa_nI (pv_pa τ 5 g) 5 (i := 0) 0 (by decide)
      rw [pa_pa, pa_2s] at this; exact this]
    refine ⟨_, rfl, fun k hk => ?_⟩
    unfold lw lk
    rw [upd_ap, c]
    by_cases e : k = 0
    · rw [if_pos e, e, if_pos (Nat.le_refl 0), lv_z, pop_0, if_pos rfl, if_pos (by decide), Nat.zero_mul]; rfl
    · rw [if_neg e, if_neg (show ¬ k ≤ 0 by omega), if_neg (Nat.lt_irrefl FA)]; exact g2 k (by omega)
  · rw [if_neg (nI_ne0 (by omega) (by omega)), show (0 : Int32) = nI 0 from rfl, c_bit (q := q) hn (τ := pv_pa τ 5 g) h2 c, Option.bind_some]
    dsimp only
    obtain ⟨f', r1, r2⟩ := c_findLeast_31 (τ := τ) (al := al) hw h2 h3 (d := qn q - 1) (by omega) (hT c) (2 ^ (qn q - 1)) pv_FU 0 g (by omega) (by have : 2 ^ (qn q - 1) ≤ 1024 := p2_le (by omega); unfold pv_FU; omega) (fun k hk => Or.inr ⟨fun x hx => by obtain ⟨u, u1, -⟩ := hx; omega, g2 k (by omega)⟩)
    rw [Nat.sub_zero, r1]
    exact ⟨f', rfl, fun k hk => VL_lw hw c (r2 k hk)⟩
theorem c_weigh_167 (hw : WF q) (h2 : τ.1 2 = nI (qn q)) (h3 : τ.1 3 = nI (qt q 3)) (hL : ∀ a b, a < qn q → b < qn q → τ.2 3 (10 * a + b) = nI (lc q al a b)) : ∀ (k fuel : Nat) (f : Nat → Int32), k < qn q → k < fuel → (∀ d, d < qn q - k → LT q al d f) → ∃ f4 f5, f_X5_weigh_167 fuel (nI k + (-1)) (pv_pa τ 4 f) = some (pv_pa (pv_pa τ 4 f4) 5 f5) ∧ (∀ d, d < qn q → LT q al d f4) ∧ ∀ k, k ≤ 10 → f5 k = lw q al k := by
  have hn := hw.2.1.1
  intro k
  induction k with
  | zero =>
    intro fuel f hk hf h
    cases fuel with
    | zero => omega
    | succ r =>
      unfold f_X5_weigh_167
      rw [if_pos (by decide)]
      obtain ⟨f5, r1, r2⟩ := c_findLeast (τ := pv_pa τ 4 f) (al := al) hw h2 h3 (fun _ => by rw [pa_2s]; exact h _ (by omega))
      rw [r1, Option.bind_some]
      exact ⟨f, f5, rfl, fun d hd => h d (by omega), r2⟩
  | succ k ih =>
    intro fuel f hk hf h
    cases fuel with
    | zero => omega
    | succ r =>
      unfold f_X5_weigh_167
      rw [pk_m1, if_neg (nI_pos (by omega))]
      obtain ⟨f', r1, r2, r3⟩ := c_weighFrom (τ := τ) (al := al) hw h2 hL (d := qn q - 1 - k - 1) (i := k) (by omega) (by omega) (f := f) (h _ (by omega))
      rw [r1, Option.bind_some]
      refine ih r f' (by omega) (by omega) (fun d hd => ?_)
      rcases Nat.lt_or_ge d (qn q - 1 - k - 1 + 1) with c | c
      · intro s hs
        have : 2 ^ (d + 1) ≤ 2 ^ (qn q - 1 - k - 1 + 1) := Nat.pow_le_pow_right (by decide) (by omega)
        rw [r3 _ (by rw [Nat.pow_succ] at this; omega)]
        exact h d (by omega) s hs
      · rw [show d = qn q - 1 - k - 1 + 1 by omega]; exact r2
theorem c_weigh_69 (hw : WF q) (hal : ∀ i, al = some i → i < qn q) (h : RC (τ.2 0) 0 q) (h2 : τ.1 2 = nI (qn q)) (h3 : τ.1 3 = nI (qt q 3)) : ∀ (d fuel a : Nat) (f : Nat → Int32), a + d = qn q → d < fuel → (∀ a' b', a' < a → b' < qn q → f (10 * a' + b') = nI (lc q al a' b')) → ∃ f3 f4 f5, f_X5_weigh_69 fuel (en al) (nI a) (pv_pa τ 3 f) = some (pv_pa (pv_pa (pv_pa τ 3 f3) 4 f4) 5 f5) ∧ (∀ a b, a < qn q → b < qn q → f3 (10 * a + b) = nI (lc q al a b)) ∧ (∀ d, d < qn q → LT q al d f4) ∧ ∀ k, k ≤ 10 → f5 k = lw q al k := by
  have hn := hw.2.1.1
  intro d
  induction d with
  | zero =>
    intro fuel a f ha hf hl
    cases fuel with
    | zero => omega
    | succ r =>
      unfold f_X5_weigh_69
      rw [pa_1, h2, if_pos (nI_le (by omega) (by omega))]
      rcases Nat.eq_zero_or_pos (qn q) with c | c
      · rw [if_pos (by rw [c]; decide), c]
        obtain ⟨f5, r1, r2⟩ := c_findLeast (τ := pv_pa τ 3 f) (al := al) hw h2 h3 (fun z => by omega)
        refine ⟨f, τ.2 4, f5, ?_, fun a b z => by omega, fun d z => by omega, r2⟩
        have : pv_pa (pv_pa τ 3 f) 4 (τ.2 4) = pv_pa τ 3 f := pa_self (pv_pa τ 3 f) 4
        rw [this, show pv_FU = 4999 + 1 from rfl]
        unfold f_X5_weigh_167
        rw [if_pos (by decide), r1, Option.bind_some]
      · rw [if_neg (show ¬ nI (qn q) ≤ 0 from nI_ge (a := 0) (b := qn q) (by omega) (by omega)), show (nI (qn q) - 1 : Int32) = nI (qn q - 1) from pk_sub (b := 1) (by omega), c_bit (q := q) hn (τ := pv_pa τ 3 f) h2 (by omega), Option.bind_some]
        dsimp only
        rw [show qn q - 1 - (qn q - 1) = 0 by omega, show (2 : Nat) ^ 0 = 1 from rfl, gd_nI _ (by omega) (by decide), sa_nI _ _ _ (by omega), pa_1, pa_1, h2]
        have e : (nI (qn q) - 2 : Int32) = nI (qn q - 1) + (-1) := by
          have : ∀ n, n < 11 → 1 ≤ n → (nI n - 2 : Int32) = nI (n - 1) + (-1) := by decide
          exact this _ (by omega) c
        rw [e]
        obtain ⟨f4, f5, r1, r2, r3⟩ := c_weigh_167 (τ := pv_pa τ 3 f) (al := al) hw h2 h3 (fun a' b' u1 u2 => by rw [pa_2s]; exact hl a' b' (by omega) u2) (qn q - 1) pv_FU (upd ((pv_pa τ 3 f).2 4) 1 0) (by omega) (by unfold pv_FU; omega) (fun d hd => by
          have : d = 0 := by omega
          subst this
          intro s hs
          have : s = 0 := by
            have : (2 : Nat) ^ 0 = 1 := rfl
            omega
          subst this
          exact ⟨0, upd_s _ _ _, Or.inl ⟨rfl, rfl⟩, fun y _ => Nat.zero_le y⟩)
        rw [r1]
        exact ⟨f, f4, f5, rfl, fun a' b' u1 u2 => hl a' b' (by omega) u2, r2, r3⟩
  | succ d ih =>
    intro fuel a f ha hf hl
    cases fuel with
    | zero => omega
    | succ r =>
      unfold f_X5_weigh_69
      rw [pa_1, h2, if_neg (nI_ge (by omega) (by omega))]
      obtain ⟨f', r1, r2⟩ := c_weigh_79 (τ := τ) hw hal h h2 (f_X5_weigh_69 r) (a := a) (by omega) (qn q) pv_FU 0 f (by omega) (by unfold pv_FU; omega) hl (fun b' z => by omega)
      rw [show f_X5_weigh_79 (f_X5_weigh_69 r) pv_FU (en al) (nI a) 0 (pv_pa τ 3 f) = f_X5_weigh_69 r (en al) (nI (a + 1)) (pv_pa τ 3 f') from r1]
      exact ih r (a + 1) f' (by omega) (by omega) r2
theorem c_weigh_23 (hw : WF q) (hal : ∀ i, al = some i → i < qn q) (h : RC (τ.2 0) 0 q) : ∃ τ', f_X5_weigh_23 (en al) τ = some τ' ∧ CA τ' q al ∧ τ'.1 4 = τ.1 0 ∧ τ'.1 5 = en al ∧ fr [2, 3, 4, 5] [3, 4, 5] τ τ' := by
  have hn := hw.2.1.1
  unfold f_X5_weigh_23 f_X6_edition
  rw [Option.bind_some]
  dsimp only
  rw [e_X6_count (q := q) (σ := pv_pi (pv_pi τ 4 (τ.1 0)) 5 (en al)) h, Option.bind_some]
  dsimp only
  rw [if_neg (show ¬ (10 : Int32) < nI (qn q) from nI_nlt (a := 10) hn (by decide)), show (3 : Int32) = nI 3 from rfl, e_X6_valueOf (q := q) (σ := pv_pi (pv_pi (pv_pi τ 4 (τ.1 0)) 5 (en al)) 2 (nI (qn q))) h (by decide), Option.bind_some]
  dsimp only
  obtain ⟨f3, f4, f5, r1, r2, r3, r4⟩ := c_weigh_69 (τ := pv_pi (pv_pi (pv_pi (pv_pi τ 4 (τ.1 0)) 5 (en al)) 2 (nI (qn q))) 3 (nI (qt q 3))) (al := al) hw hal h rfl rfl (qn q) pv_FU 0 (τ.2 3) (by omega) (by unfold pv_FU; omega) (fun a' b' z => by omega)
  have : pv_pa (pv_pi (pv_pi (pv_pi (pv_pi τ 4 (τ.1 0)) 5 (en al)) 2 (nI (qn q))) 3 (nI (qt q 3))) 3 (τ.2 3) = pv_pi (pv_pi (pv_pi (pv_pi τ 4 (τ.1 0)) 5 (en al)) 2 (nI (qn q))) 3 (nI (qt q 3)) := pa_self (pv_pi (pv_pi (pv_pi (pv_pi τ 4 (τ.1 0)) 5 (en al)) 2 (nI (qn q))) 3 (nI (qt q 3))) 3
  rw [this] at r1
  rw [show (0 : Int32) = nI 0 from rfl, r1]
  refine ⟨_, rfl, ⟨rfl, rfl, r2, r3, r4⟩, rfl, rfl, fun k hk => ?_, fun k hk => ?_⟩
  · simp only [List.mem_cons, List.not_mem_nil, or_false, not_or] at hk
    simp only [pa_1, pi_1]
    rw [if_neg hk.2.1, if_neg hk.1, if_neg hk.2.2.2, if_neg hk.2.2.1]
  · simp only [List.mem_cons, List.not_mem_nil, or_false, not_or] at hk
    simp only [pa_2, pi_2]
    rw [if_neg hk.2.2, if_neg hk.2.1, if_neg hk.1]
theorem c_weigh (hw : WF q) (hal : ∀ i, al = some i → i < qn q) (h : RC (τ.2 0) 0 q) (hc : τ.1 4 = τ.1 0 → τ.1 5 = en al → CA τ q al) : ∃ τ', f_X5_weigh (en al) τ = some τ' ∧ CA τ' q al ∧ τ'.1 4 = τ.1 0 ∧ τ'.1 5 = en al ∧ fr [2, 3, 4, 5] [3, 4, 5] τ τ' := by
  unfold f_X5_weigh
  have e : f_X6_edition τ = some (τ.1 0, τ) := rfl
  rw [e, Option.bind_some]
  dsimp only
  by_cases c1 : τ.1 4 = τ.1 0
  · rw [if_pos c1]
    by_cases c2 : τ.1 5 = en al
    · rw [if_pos c2]
      exact ⟨τ, rfl, hc c1 c2, c1, c2, fun _ _ => rfl, fun _ _ => rfl⟩
    · rw [if_neg c2]; exact c_weigh_23 hw hal h
  · rw [if_neg c1]; exact c_weigh_23 hw hal h
end DPW
