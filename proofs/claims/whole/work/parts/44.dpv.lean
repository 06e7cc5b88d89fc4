/-! least costs of both: fewest, cheapest -/
def oo (al : Option Nat) : Nat := al.elim 0 (fun _ => 1)
def ml (q : Sc) (al : Option Nat) (k : Nat) : Int32 := if lk q al (k + oo al) < FA then nI (lk q al (k + oo al) + k * qt q 3) else -1
theorem lk_b {q : Sc} (hw : WF q) {al : Option Nat} {k : Nat} (h : lk q al k < FA) : k ≤ qn q ∧ lk q al k ≤ 21330 := by
  have hn := hw.2.1.1
  unfold lk at h ⊢
  by_cases c : k ≤ qn q
  · rw [if_pos c] at h ⊢
    refine ⟨c, ?_⟩
    rcases (lv_LE hw (al := al) (links := qn q - k) (qn q) 0 (Nat.le_refl _)).1 with g | g
    · have := (PM_b hw _ _ _ (Nat.le_refl _) g).1; omega
    · omega
  · rw [if_neg c] at h; omega
theorem lk_n {q : Sc} (hw : WF q) (al : Option Nat) : lk q al (qn q) = 0 := by
  unfold lk
  rw [if_pos (Nat.le_refl _), Nat.sub_self]
  have key : ∀ d, PM q al 0 d 0 0 := by
    intro d
    induction d with
    | zero => exact ⟨pop_0, rfl⟩
    | succ d ih => exact Or.inl ih
  have := (lv_LE hw (al := al) (links := 0) (qn q) 0 (Nat.le_refl _)).2 0 (key _)
  omega
theorem lk_PT {q : Sc} (hw : WF q) {al : Option Nat} {k : Nat} (hn1 : 1 ≤ qn q) (h : lk q al k < FA) : ∃ s x, s < 2 ^ (qn q - 1) ∧ pop s + k = qn q ∧ PT q al (qn q - 1) s x := by
  have hk := (lk_b hw h).1
  unfold lk at h
  rw [if_pos hk] at h
  rcases (lv_LE hw (al := al) (links := qn q - k) (qn q) 0 (Nat.le_refl _)).1 with g | g
  · have := PM_PV hw (al := al) (links := qn q - k) (qn q - 1) 0 0 (lv q al (qn q - k) (qn q) 0) (by omega) (rev_0 _) (by rw [pop_0]; omega)
    rw [show qn q - 1 + 1 = qn q by omega, pop_0] at this
    obtain ⟨s, h1, -, h3, h4⟩ := this.mp g
    exact ⟨s, _, h1, by omega, h4⟩
  · omega
theorem lk_0 {q : Sc} (hw : WF q) {al : Option Nat} (hn1 : 1 ≤ qn q) : ¬ lk q al 0 < FA := fun h => by
  have hn := hw.2.1.1
  obtain ⟨s, x, h1, h2, h3⟩ := lk_PT hw hn1 h
  have := p2_le (show qn q - 1 ≤ 10 by omega)
  have := pop_lt s (by omega) (qn q - 1) (by omega) h1
  omega
theorem lk_1 {q : Sc} (hw : WF q) {i : Nat} (hi : i < qn q) (hn1 : 2 ≤ qn q) : ¬ lk q (some i) 1 < FA := fun h => by
  have hn := hw.2.1.1
  obtain ⟨s, x, h1, h2, h3⟩ := lk_PT hw (by omega) h
  have := (PT_al hw hi _ s x (by omega) h3).2.2 (by omega) (by omega)
  omega
/-- the cheapest below m, the least of them -/
def CH (L : Nat → Nat) (t m k : Nat) : Prop := k < m ∧ L k < FA ∧ ∀ j, j < m → L j < FA → (j < k → L k + k * t < L j + j * t) ∧ L k + k * t ≤ L j + j * t
theorem CH_u {L : Nat → Nat} {t m k k' : Nat} (h : CH L t m k) (h' : CH L t m k') : k = k' := by
  have a := h.2.2 k' h'.1 h'.2.1
  have b := h'.2.2 k h.1 h.2.1
  rcases Nat.lt_trichotomy k k' with c | c | c
  · have := b.1 c; omega
  · exact c
  · have := a.1 c; omega
theorem CH_up {L : Nat → Nat} {t m m' k : Nat} (h : CH L t m k) (hm : m ≤ m') (hL : ∀ j, m ≤ j → ¬ L j < FA) : CH L t m' k := by
  refine ⟨by have := h.1; omega, h.2.1, fun j hj hl => ?_⟩
  rcases Nat.lt_or_ge j m with c | c
  · exact h.2.2 j c hl
  · exact absurd hl (hL j c)
theorem CH_no {L : Nat → Nat} {t m k : Nat} (h : CH L t m k) (hL : ¬ L m < FA) : CH L t (m + 1) k := by
  refine ⟨by have := h.1; omega, h.2.1, fun j hj hl => ?_⟩
  rcases Nat.lt_or_ge j m with c | c
  · exact h.2.2 j c hl
  · rw [show j = m by omega] at hl; exact absurd hl hL
theorem CH_keep {L : Nat → Nat} {t m k : Nat} (h : CH L t m k) (hL : L k + k * t ≤ L m + m * t) : CH L t (m + 1) k := by
  have h1 := h.1
  refine ⟨by omega, h.2.1, fun j hj hl => ?_⟩
  rcases Nat.lt_or_ge j m with c | c
  · exact h.2.2 j c hl
  · have : j = m := by omega
    subst this; exact ⟨fun z => by omega, hL⟩
theorem CH_new {L : Nat → Nat} {t m k : Nat} (h : CH L t m k) (hl : L m < FA) (hL : L m + m * t < L k + k * t) : CH L t (m + 1) m := by
  refine ⟨by omega, hl, fun j hj hj2 => ?_⟩
  rcases Nat.lt_or_ge j m with c | c
  · have := (h.2.2 j c hj2).2; exact ⟨fun _ => by omega, by omega⟩
  · have : j = m := by omega
    subst this; exact ⟨fun z => by omega, Nat.le_refl _⟩
theorem CH_first {L : Nat → Nat} {t m : Nat} (hm : ∀ j, j < m → ¬ L j < FA) (hl : L m < FA) : CH L t (m + 1) m := by
  refine ⟨by omega, hl, fun j hj hj2 => ?_⟩
  rcases Nat.lt_or_ge j m with c | c
  · exact absurd hj2 (hm j c)
  · have : j = m := by omega
    subst this; exact ⟨fun z => by omega, Nat.le_refl _⟩
theorem fw_ex {q : Sc} (hw : WF q) (al : Option Nat) : ∃ k, k ≤ qn q ∧ lk q al k < FA ∧ ∀ j, j < k → ¬ lk q al j < FA := by
  obtain ⟨k, k1, k2⟩ := pk_least (fun k => lk q al k < FA) ⟨qn q, by rw [lk_n hw al]; decide⟩
  refine ⟨k, ?_, k1, k2⟩
  rcases Nat.lt_or_ge (qn q) k with c | c
  · exact absurd (by rw [lk_n hw al]; decide) (k2 _ c)
  · exact c
theorem lw_n {q : Sc} {al : Option Nat} {k : Nat} (h : ¬ lk q al k < FA) : lw q al k = -1 := by unfold lw; rw [if_neg h]
theorem lw_y {q : Sc} {al : Option Nat} {k : Nat} (h : lk q al k < FA) : lw q al k = nI (lk q al k + k * qt q 3) := by unfold lw; rw [if_pos h]
theorem co_b {q : Sc} (hw : WF q) {al : Option Nat} {k j : Nat} (hj : j ≤ 11) (h : lk q al k < FA) : lk q al k + j * qt q 3 < 100000 := by
  have := (lk_b hw h).2
  have : j * qt q 3 ≤ 11 * 999 := Nat.mul_le_mul hj hw.1.2.2.2.1
  omega
section DPV
variable {τ : pv_S} {q : Sc} {al : Option Nat}
theorem c_leastCost (h : CA τ q al) {k : Nat} (hk : k ≤ 10) : f_X5_leastCost (nI k) τ = some (lw q al k, τ) := by
  unfold f_X5_leastCost
  rw [c_isVC hk, Option.bind_some]
  dsimp only
  rw [if_neg c10, gd_nI _ (by omega) (by decide), la_nI _ _ (by omega), h.2.2.2.2 k hk]
theorem c_fewest (hw : WF q) (h : CA τ q al) {k : Nat} (hk : k ≤ qn q) (h1 : lk q al k < FA) (h2 : ∀ j, j < k → ¬ lk q al j < FA) : f_X5_fewest τ = some (nI k, τ) := by
  have hn := hw.2.1.1
  have key : ∀ (d fuel i : Nat), i + d = k → d < fuel → f_X5_fewest_2 fuel (nI i) τ = some (nI k, τ) := by
    intro d
    induction d with
    | zero =>
      intro fuel i hi hf
      cases fuel with
      | zero => omega
      | succ r =>
        unfold f_X5_fewest_2
        rw [if_neg (show ¬ (10 : Int32) < nI i from nI_nlt (a := 10) (by omega) (by decide)), gd_nI _ (by omega) (by decide), la_nI _ _ (by omega), h.2.2.2.2 i (by omega), show i = k by omega, lw_y h1, if_neg (nI_nn1 (by have := co_b hw (j := k) (by omega) h1; omega))]
    | succ d ih =>
      intro fuel i hi hf
      cases fuel with
      | zero => omega
      | succ r =>
        unfold f_X5_fewest_2
        rw [if_neg (show ¬ (10 : Int32) < nI i from nI_nlt (a := 10) (by omega) (by decide)), gd_nI _ (by omega) (by decide), la_nI _ _ (by omega), h.2.2.2.2 i (by omega), lw_n (h2 i (by omega)), if_pos rfl, p1]
        exact ih r (i + 1) (by omega) (by omega)
  exact key k pv_FU 0 (by omega) (by unfold pv_FU; omega)
theorem c_cheapest (hw : WF q) (h : CA τ q al) : ∃ k, f_X5_cheapest τ = some (nI k, τ) ∧ CH (lk q al) (qt q 3) 11 k := by
  have hn := hw.2.1.1
  obtain ⟨k0, a1, a2, a3⟩ := fw_ex hw al
  have key : ∀ (d fuel i k : Nat), i + d = 11 → d < fuel → CH (lk q al) (qt q 3) i k → ∃ k', f_X5_cheapest_9 fuel (nI k) (nI i) τ = some (nI k', τ) ∧ CH (lk q al) (qt q 3) 11 k' := by
    intro d
    induction d with
    | zero =>
      intro fuel i k hi hf hc
      cases fuel with
      | zero => omega
      | succ r =>
        unfold f_X5_cheapest_9
        rw [if_pos (show (10 : Int32) < nI i from nI_lt (a := 10) (by omega) (by omega))]
        exact ⟨k, rfl, by rw [show (11 : Nat) = i by omega]; exact hc⟩
    | succ d ih =>
      intro fuel i k hi hf hc
      cases fuel with
      | zero => omega
      | succ r =>
        unfold f_X5_cheapest_9
        have hk := hc.1
        rw [if_neg (show ¬ (10 : Int32) < nI i from nI_nlt (a := 10) (by omega) (by decide)), gd_nI _ (by omega) (by decide), gd_nI _ (by omega) (by decide), la_nI _ _ (by omega), h.2.2.2.2 i (by omega), p1]
        by_cases c : lk q al i < FA
        · have b1 := co_b hw (j := i) (by omega) c
          have b2 := co_b hw (j := k) (by omega) hc.2.1
          rw [lw_y c, if_neg (nI_nn1 (by omega)), c_leastCost h (by omega), Option.bind_some]
          dsimp only
          rw [lw_y hc.2.1]
          by_cases g : lk q al k + k * qt q 3 ≤ lk q al i + i * qt q 3
          · rw [if_pos (nI_le g (by omega))]
            exact ih r (i + 1) k (by omega) (by omega) (CH_keep hc g)
          · rw [if_neg (nI_ge (by omega) (by omega))]
            exact ih r (i + 1) i (by omega) (by omega) (CH_new hc c (by omega))
        · rw [lw_n c, if_pos rfl]
          exact ih r (i + 1) k (by omega) (by omega) (CH_no hc c)
  unfold f_X5_cheapest
  rw [c_fewest hw h a1 a2 a3, Option.bind_some]
  dsimp only
  rw [p1]
  exact key (11 - (k0 + 1)) pv_FU (k0 + 1) k0 (by omega) (by unfold pv_FU; omega) (CH_first a3 a2)
theorem c_cheapestCost (hw : WF q) (h : CA τ q al) : ∃ k, f_X5_cheapestCost τ = some (nI (lk q al k + k * qt q 3), τ) ∧ CH (lk q al) (qt q 3) 11 k := by
  obtain ⟨k, k1, k2⟩ := c_cheapest hw h
  unfold f_X5_cheapestCost
  have := k2.1
  rw [k1, Option.bind_some]
  dsimp only
  rw [c_leastCost h (by omega), Option.bind_some, lw_y k2.2.1]
  exact ⟨k, rfl, k2⟩
end DPV
section DPV2
variable {σ : pv_S} {q : Sc} {al : Option Nat}
theorem m_leastOf_28 (hw : WF q) (hal : ∀ i, al = some i → i < qn q) (h : RM (σ.2 13) 0 q) {k lo N : Nat} (s0 : Int64) (h0 : s0.toInt = (lo : Int)) (hk : k ≤ 10) (hN : N + oo al = qn q) : ∃ g, f_X8_leastOf_28 (nI k) (en al) (nI N) s0 (nI k).toInt64 σ = some (if lo ≤ k ∧ k ≤ N then (if lk q al (k + oo al) < FA then nI (lk q al (k + oo al) + k * qt q 3) else -1) else -1, pv_pa σ 17 g) ∧ (lo ≤ k → k ≤ N → ∀ a, a ≤ qn q → ∀ T, T < 2 ^ qn q → g (1024 * a + T) = nI (lv q al (N - k) (qn q - a) T)) := by
  have hn := hw.2.1.1
  unfold f_X8_leastOf_28
  rw [e_X8_in, Option.bind_some]
  dsimp only
  rw [i2l_toInt, i2l_toInt, nI_toInt (by omega), nI_toInt (by omega), h0]
  by_cases c : lo ≤ k ∧ k ≤ N
  · rw [if_pos (show (lo : Int) ≤ (k : Int) ∧ (k : Int) ≤ (N : Int) by omega), if_neg c10, pk_sub c.2]
    obtain ⟨g, g1, g2⟩ := m_lay (al := al) (links := N - k) hw hal (by omega) h
    have e0 : f_X8_bestAt 0 0 (pv_pa σ 17 g) = some (nI (lk q al (k + oo al)), pv_pa σ 17 g) := by
      have := m_bestAt (pv_pa σ 17 g) (a := 0) (S := 0) (by omega) (by omega)
      rw [pa_2s, g2 0 (by omega) 0 (Nat.two_pow_pos _)] at this
      rw [show f_X8_bestAt 0 0 (pv_pa σ 17 g) = f_X8_bestAt (nI 0) (nI 0) (pv_pa σ 17 g) from rfl, this]
      unfold lk
      rw [if_pos (by omega), Nat.sub_zero, show qn q - (k + oo al) = N - k by omega]
    have hle := lk_le q al (k + oo al)
    rw [g1, Option.bind_some, e0, Option.bind_some]
    dsimp only
    rw [if_pos c, FA_nI]
    refine ⟨g, ?_, fun _ _ => g2⟩
    by_cases e : lk q al (k + oo al) < FA
    · rw [if_neg (nI_ge e (by decide)), if_pos e, e0, Option.bind_some]
      dsimp only
      rw [show (4 : Int32) = nI (1 + 3) from rfl, gd_nI _ (by decide) (by decide), la_nI _ _ (by decide), RM_t (q := q) (σ := pv_pa σ 17 g) h (by decide), pk_mul, nI_add]
    · rw [if_pos (nI_le (by omega) (by unfold FA at hle; omega)), if_neg e]
  · rw [if_neg (show ¬ ((lo : Int) ≤ (k : Int) ∧ (k : Int) ≤ (N : Int)) by omega), if_pos rfl, if_neg c]
    exact ⟨σ.2 17, by rw [pa_self], fun u1 u2 => absurd ⟨u1, u2⟩ c⟩
theorem m_leastOf (hw : WF q) (hal : ∀ i, al = some i → i < qn q) (h : RM (σ.2 13) 0 q) {k : Nat} (hk : k ≤ 10) : ∃ g, f_X8_leastOf (nI k) (en al) σ = some (ml q al k, pv_pa σ 17 g) ∧ (lk q al (k + oo al) < FA → ∀ a, a ≤ qn q → ∀ T, T < 2 ^ qn q → g (1024 * a + T) = nI (lv q al (qn q - oo al - k) (qn q - a) T)) := by
  have hn := hw.2.1.1
  have fin : ∀ N, N + oo al = qn q → ∃ g, (if nI N ≤ 0 then (f_X8_leastOf_28 (nI k) (en al) (nI N) 0 (nI k).toInt64 σ) else (f_X8_leastOf_28 (nI k) (en al) (nI N) 1 (nI k).toInt64 σ)) = some (ml q al k, pv_pa σ 17 g) ∧ (lk q al (k + oo al) < FA → ∀ a, a ≤ qn q → ∀ T, T < 2 ^ qn q → g (1024 * a + T) = nI (lv q al (qn q - oo al - k) (qn q - a) T)) := fun N hN => by
    rcases Nat.eq_zero_or_pos N with c | c
    · rw [if_pos (by rw [c]; decide)]
      obtain ⟨g, g1, g2⟩ := m_leastOf_28 (al := al) (k := k) (lo := 0) hw hal h 0 rfl hk hN
      have hin : lk q al (k + oo al) < FA → 0 ≤ k ∧ k ≤ N := fun z => by have := (lk_b hw z).1; omega
      refine ⟨g, ?_, fun z a ha T hT => ?_⟩
      · rw [g1]
        unfold ml
        by_cases e : lk q al (k + oo al) < FA
        · rw [if_pos (hin e)]
        · rw [if_neg e]; simp
      · rw [g2 (hin z).1 (hin z).2 a ha T hT, show N - k = qn q - oo al - k by omega]
    · rw [if_neg (show ¬ nI N ≤ 0 from nI_ge (a := 0) (b := N) c (by omega))]
      obtain ⟨g, g1, g2⟩ := m_leastOf_28 (al := al) (k := k) (lo := 1) hw hal h 1 rfl hk hN
      have hin : lk q al (k + oo al) < FA → 1 ≤ k ∧ k ≤ N := fun z => by
        have h1 := (lk_b hw z).1
        refine ⟨?_, by omega⟩
        rcases Nat.eq_zero_or_pos k with e | e
        · exfalso
          subst e
          cases al with
          | none => exact lk_0 hw (by omega) z
          | some i => exact lk_1 hw (hal i rfl) (by have : oo (some i) = 1 := rfl; omega) z
        · exact e
      refine ⟨g, ?_, fun z a ha T hT => ?_⟩
      · rw [g1]
        unfold ml
        by_cases e : lk q al (k + oo al) < FA
        · rw [if_pos (hin e)]
        · rw [if_neg e]; simp
      · rw [g2 (hin z).1 (hin z).2 a ha T hT, show N - k = qn q - oo al - k by omega]
  unfold f_X8_leastOf f_X8_leastOf_15
  rw [gd_0, lm_0, h.1]
  cases al with
  | none =>
    rw [if_neg (show ¬ (0 : Int32) ≤ en none by decide), show (nI (qn q) - 0 : Int32) = nI (qn q) from pk_sub (b := 0) (by omega)]
    exact fin (qn q) rfl
  | some i =>
    have hi := hal i rfl
    rw [if_pos (show (0 : Int32) ≤ en (some i) from nI_pos' (by omega)), show (nI (qn q) - 1 : Int32) = nI (qn q - 1) from pk_sub (b := 1) (by omega)]
    exact fin (qn q - 1) (by show qn q - 1 + 1 = qn q; omega)
theorem ml_n {k : Nat} (h : ¬ lk q al (k + oo al) < FA) : ml q al k = -1 := by unfold ml; rw [if_neg h]
theorem ml_y {k : Nat} (h : lk q al (k + oo al) < FA) : ml q al k = nI (lk q al (k + oo al) + k * qt q 3) := by unfold ml; rw [if_pos h]
theorem ml_none (q : Sc) (k : Nat) : ml q none k = lw q none k := rfl
theorem m_fewest (hw : WF q) {k : Nat} (hk : k ≤ qn q) (h1 : lk q none k < FA) (h2 : ∀ j, j < k → ¬ lk q none j < FA) : ∀ (d fuel i : Nat) (σ : pv_S), RM (σ.2 13) 0 q → i + d = k → d < fuel → ∃ g, f_X8_fewest_2 fuel (nI i) σ = some (nI k, pv_pa σ 17 g) := by
  have hn := hw.2.1.1
  intro d
  induction d with
  | zero =>
    intro fuel i σ h hi hf
    cases fuel with
    | zero => omega
    | succ r =>
      unfold f_X8_fewest_2
      obtain ⟨g, g1, -⟩ := m_leastOf (al := none) (k := i) hw (fun i z => by cases z) h (by omega)
      rw [show (-1 : Int32) = en none from rfl, g1, Option.bind_some]
      dsimp only
      have e : i = k := by omega
      subst e
      rw [ml_none, lw_y h1, if_pos (nI_pos' (by have := co_b hw (j := i) (by omega) h1; omega))]
      exact ⟨g, rfl⟩
  | succ d ih =>
    intro fuel i σ h hi hf
    cases fuel with
    | zero => omega
    | succ r =>
      unfold f_X8_fewest_2
      obtain ⟨g, g1, -⟩ := m_leastOf (al := none) (k := i) hw (fun i z => by cases z) h (by omega)
      rw [show (-1 : Int32) = en none from rfl, g1, Option.bind_some]
      dsimp only
      rw [ml_none, lw_n (h2 i (by omega)), if_neg (by decide), p1]
      obtain ⟨g', g2⟩ := ih r (i + 1) (pv_pa σ 17 g) h (by omega) (by omega)
      rw [g2, pa_pa]
      exact ⟨g', rfl⟩
theorem m_cheapest_8 (hw : WF q) (hal : ∀ i, al = some i → i < qn q) : ∀ (d fuel i : Nat) (k : Nat) (v : Int32) (σ : pv_S), RM (σ.2 13) 0 q → i + d = qn q + 1 → d < fuel → ((∀ j, j < i → ¬ lk q al (j + oo al) < FA) ∧ k = 0 ∧ v = 1000000 ∧ i ≤ qn q ∨ CH (fun j => lk q al (j + oo al)) (qt q 3) i k ∧ v = nI (lk q al (k + oo al) + k * qt q 3)) → ∃ k' g, f_X8_cheapest_8 fuel (en al) (nI k) v (nI i) σ = some (nI k', pv_pa σ 17 g) ∧ CH (fun j => lk q al (j + oo al)) (qt q 3) (qn q + 1) k' := by
  have hn := hw.2.1.1
  intro d
  induction d with
  | zero =>
    intro fuel i k v σ h hi hf hc
    cases fuel with
    | zero => omega
    | succ r =>
      unfold f_X8_cheapest_8
      rw [gd_0, lm_0, h.1, if_pos (nI_lt (by omega) (by omega))]
      rcases hc with ⟨-, -, -, hc⟩ | hc
      · omega
      · exact ⟨k, σ.2 17, by rw [pa_self], by rw [show qn q + 1 = i by omega]; exact hc.1⟩
  | succ d ih =>
    intro fuel i k v σ h hi hf hc
    cases fuel with
    | zero => omega
    | succ r =>
      unfold f_X8_cheapest_8
      obtain ⟨g, g1, -⟩ := m_leastOf (al := al) (k := i) hw hal h (by omega)
      rw [gd_0, lm_0, h.1, if_neg (nI_nlt (by omega) (by omega)), g1, Option.bind_some]
      dsimp only
      unfold f_X8_cheapest_44 f_X8_cheapest_57
      rw [if_pos rfl, if_pos rfl, if_neg c10, if_neg c10, p1]
      have stay : (CH (fun j => lk q al (j + oo al)) (qt q 3) (i + 1) k ∧ v = nI (lk q al (k + oo al) + k * qt q 3) ∨ (∀ j, j < i + 1 → ¬ lk q al (j + oo al) < FA) ∧ k = 0 ∧ v = 1000000 ∧ i + 1 ≤ qn q) → ∃ k' g', f_X8_cheapest_8 r (en al) (nI k) v (nI (i + 1)) (pv_pa σ 17 g) = some (nI k', pv_pa σ 17 g') ∧ CH (fun j => lk q al (j + oo al)) (qt q 3) (qn q + 1) k' := fun z => by
        obtain ⟨k', g', r1, r2⟩ := ih r (i + 1) k v (pv_pa σ 17 g) h (by omega) (by omega) z.symm
        rw [pa_pa] at r1
        exact ⟨k', g', r1, r2⟩
      have go : CH (fun j => lk q al (j + oo al)) (qt q 3) (i + 1) i → ∃ k' g', f_X8_cheapest_8 r (en al) (nI i) (ml q al i) (nI (i + 1)) (pv_pa σ 17 g) = some (nI k', pv_pa σ 17 g') ∧ CH (fun j => lk q al (j + oo al)) (qt q 3) (qn q + 1) k' := fun z => by
        obtain ⟨k', g', r1, r2⟩ := ih r (i + 1) i (ml q al i) (pv_pa σ 17 g) h (by omega) (by omega) (Or.inr ⟨z, ml_y z.2.1⟩)
        rw [pa_pa] at r1
        exact ⟨k', g', r1, r2⟩
      by_cases c : lk q al (i + oo al) < FA
      · have b1 := co_b hw (j := i) (by omega) c
        rw [if_neg (show ¬ ml q al i < 0 by rw [ml_y c]; exact nI_pos (by omega))]
        rcases hc with ⟨c1, c2, c3, c4⟩ | ⟨c1, c2⟩
        · rw [if_neg (show ¬ v ≤ ml q al i by rw [c3, ml_y c, FA_nI]; exact nI_ge (by unfold FA; omega) (by decide))]
          exact go (CH_first (L := fun j => lk q al (j + oo al)) c1 c)
        · have b2 := co_b hw (k := k + oo al) (j := k) (by have := c1.1; omega) c1.2.1
          by_cases e : lk q al (k + oo al) + k * qt q 3 ≤ lk q al (i + oo al) + i * qt q 3
          · rw [if_pos (show v ≤ ml q al i by rw [c2, ml_y c]; exact nI_le e (by omega))]
            exact stay (Or.inl ⟨CH_keep c1 e, c2⟩)
          · rw [if_neg (show ¬ v ≤ ml q al i by rw [c2, ml_y c]; exact nI_ge (by omega) (by omega))]
            exact go (CH_new c1 c (by show lk q al (i + oo al) + i * qt q 3 < lk q al (k + oo al) + k * qt q 3; omega))
      · rw [if_pos (show ml q al i < 0 by rw [ml_n c]; decide)]
        refine stay ?_
        rcases hc with ⟨c1, c2, c3, c4⟩ | ⟨c1, c2⟩
        · refine Or.inr ⟨fun j hj => ?_, c2, c3, ?_⟩
          · rcases Nat.lt_or_ge j i with e | e
            · exact c1 j e
            · rw [show j = i by omega]; exact c
          · rcases Nat.lt_or_ge i (qn q) with e | e
            · exact e
            · exfalso
              have : i = qn q := by omega
              subst this
              cases al with
              | none => exact c (by show lk q none (qn q) < FA; rw [lk_n hw]; decide)
              | some w =>
                have hww := hal w rfl
                refine c1 (qn q - 1) (by omega) ?_
                show lk q (some w) (qn q - 1 + 1) < FA
                rw [show qn q - 1 + 1 = qn q by omega, lk_n hw]; decide
        · exact Or.inl ⟨CH_no c1 c, c2⟩
theorem m_cheapest (hw : WF q) (hal : ∀ i, al = some i → i < qn q) (h : RM (σ.2 13) 0 q) : ∃ k g, f_X8_cheapest (en al) σ = some (nI k, pv_pa σ 17 g) ∧ CH (fun j => lk q al (j + oo al)) (qt q 3) 11 k := by
  have hn := hw.2.1.1
  unfold f_X8_cheapest
  obtain ⟨k, g, r1, r2⟩ := m_cheapest_8 (al := al) hw hal (qn q + 1) pv_FU 0 0 1000000 σ h (by omega) (by unfold pv_FU; omega) (Or.inl ⟨fun j hj => by omega, rfl, rfl, by omega⟩)
  refine ⟨k, g, r1, CH_up r2 (by omega) (fun j hj z => ?_)⟩
  have := (lk_b hw z).1
  omega
theorem m_leastOfAll (hw : WF q) (hal : ∀ i, al = some i → i < qn q) (h : RM (σ.2 13) 0 q) : ∃ k g, f_X8_leastOfAll (en al) σ = some (nI (lk q al (k + oo al) + k * qt q 3), pv_pa σ 17 g) ∧ CH (fun j => lk q al (j + oo al)) (qt q 3) 11 k := by
  obtain ⟨k, g, r1, r2⟩ := m_cheapest (al := al) hw hal h
  have := r2.1
  unfold f_X8_leastOfAll
  rw [r1, Option.bind_some]
  dsimp only
  obtain ⟨g', g1, -⟩ := m_leastOf (σ := pv_pa σ 17 g) (al := al) (k := k) hw hal h (by omega)
  rw [g1, Option.bind_some, ml_y r2.2.1, pa_pa]
  exact ⟨k, g', rfl, r2⟩
end DPV2
