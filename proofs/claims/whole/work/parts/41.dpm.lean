/-! the model's least costs -/
def tv (q : Sc) (al : Option Nat) (f : Nat → Nat) (a S b : Nat) : Nat := if S.testBit b = false ∧ okb q al a b = true then f (S ||| 2 ^ b) + cs q a b else FA
def mi (q : Sc) (al : Option Nat) (f : Nat → Nat) (a S : Nat) : Nat → Nat → Nat → Nat
  | 0, _, acc => acc
  | k + 1, b, acc => mi q al f a S k (b + 1) (if tv q al f a S b < acc then tv q al f a S b else acc)
def lv (q : Sc) (al : Option Nat) (links : Nat) : Nat → Nat → Nat
  | 0, S => if pop S = links then 0 else FA
  | d + 1, S => if mi q al (lv q al links d) (qn q - (d + 1)) S (qn q) 0 (lv q al links d S) < FA then mi q al (lv q al links d) (qn q - (d + 1)) S (qn q) 0 (lv q al links d S) else FA
theorem lv_z (q : Sc) (al : Option Nat) (links S : Nat) : lv q al links 0 S = if pop S = links then 0 else FA := rfl
theorem lv_s (q : Sc) (al : Option Nat) (links d S : Nat) : lv q al links (d + 1) S = if mi q al (lv q al links d) (qn q - (d + 1)) S (qn q) 0 (lv q al links d S) < FA then mi q al (lv q al links d) (qn q - (d + 1)) S (qn q) 0 (lv q al links d S) else FA := rfl
theorem mi_s (q : Sc) (al : Option Nat) (f : Nat → Nat) (a S k b acc : Nat) : mi q al f a S (k + 1) b acc = mi q al f a S k (b + 1) (if tv q al f a S b < acc then tv q al f a S b else acc) := rfl
theorem mi_le {q : Sc} {al : Option Nat} {f : Nat → Nat} {a S : Nat} : ∀ (k b acc : Nat), mi q al f a S k b acc ≤ acc := by
  intro k
  induction k with
  | zero => intro b acc; exact Nat.le_refl _
  | succ k ih =>
    intro b acc
    rw [mi_s]
    refine Nat.le_trans (ih _ _) ?_
    split <;> omega
theorem lv_le (q : Sc) (al : Option Nat) (links : Nat) : ∀ (d S : Nat), lv q al links d S ≤ FA := by
  intro d
  cases d with
  | zero => intro S; rw [lv_z]; split <;> omega
  | succ d => intro S; rw [lv_s]; split <;> omega
theorem mi_id {q : Sc} {al : Option Nat} {f : Nat → Nat} {a S : Nat} (h : ∀ b, tv q al f a S b = FA) : ∀ (k b acc : Nat), acc ≤ FA → mi q al f a S k b acc = acc := by
  intro k
  induction k with
  | zero => intro b acc _; rfl
  | succ k ih =>
    intro b acc ha
    rw [mi_s, h, if_neg (by omega)]
    exact ih _ _ ha
theorem mi_LE {q : Sc} (hw : WF q) {al : Option Nat} {links d S : Nat} (hd : d + 1 ≤ qn q) (hf : ∀ T, LE (PM q al links d T) (lv q al links d T)) : ∀ (k b acc : Nat), b + k = qn q → LE (fun x => PM q al links d S x ∨ ∃ b' y, b' < b ∧ S.testBit b' = false ∧ okb q al (qn q - (d + 1)) b' = true ∧ x = cs q (qn q - (d + 1)) b' + y ∧ PM q al links d (S ||| 2 ^ b') y) acc → LE (PM q al links (d + 1) S) (mi q al (lv q al links d) (qn q - (d + 1)) S k b acc) := by
  intro k
  induction k with
  | zero =>
    intro b acc hb h
    refine LE_cg (fun z => ?_) h
    rw [show b = qn q by omega]
    exact Iff.rfl
  | succ k ih =>
    intro b acc hb h
    rw [mi_s]
    have hB : ∀ z, (PM q al links d S z ∨ ∃ b' y, b' < b ∧ S.testBit b' = false ∧ okb q al (qn q - (d + 1)) b' = true ∧ z = cs q (qn q - (d + 1)) b' + y ∧ PM q al links d (S ||| 2 ^ b') y) → z < FA := fun z hz => by
      refine PM_FA (al := al) (links := links) (S := S) hw hd z ?_
      rcases hz with c | ⟨b', y, c1, c2⟩
      · exact Or.inl c
      · exact Or.inr ⟨b', y, by omega, c2⟩
    apply ih (b + 1) _ (by omega)
    by_cases hc : S.testBit b = false ∧ okb q al (qn q - (d + 1)) b = true
    · have e : tv q al (lv q al links d) (qn q - (d + 1)) S b = cs q (qn q - (d + 1)) b + lv q al links d (S ||| 2 ^ b) := by unfold tv; rw [if_pos hc, Nat.add_comm]
      rw [e]
      refine LE_cg (fun z => ?_) (LE_or (c := cs q (qn q - (d + 1)) b) hB h (hf (S ||| 2 ^ b)))
      constructor
      · rintro ((c | ⟨b', y, c1, c2⟩) | ⟨u, c1, c2⟩)
        · exact Or.inl c
        · exact Or.inr ⟨b', y, by omega, c2⟩
        · exact Or.inr ⟨b, u, by omega, hc.1, hc.2, c1, c2⟩
      · rintro (c | ⟨b', y, c1, c2, c3, c4, c5⟩)
        · exact Or.inl (Or.inl c)
        · rcases Nat.lt_or_ge b' b with g | g
          · exact Or.inl (Or.inr ⟨b', y, g, c2, c3, c4, c5⟩)
          · have : b' = b := by omega
            subst this
            exact Or.inr ⟨y, c4, c5⟩
    · have e : tv q al (lv q al links d) (qn q - (d + 1)) S b = FA := by unfold tv; rw [if_neg hc]
      have hle := LE_le hB h
      rw [e, if_neg (by omega)]
      refine LE_cg (fun z => ?_) h
      constructor
      · rintro (c | ⟨b', y, c1, c2⟩)
        · exact Or.inl c
        · exact Or.inr ⟨b', y, by omega, c2⟩
      · rintro (c | ⟨b', y, c1, c2, c3, c4⟩)
        · exact Or.inl c
        · rcases Nat.lt_or_ge b' b with g | g
          · exact Or.inr ⟨b', y, g, c2, c3, c4⟩
          · have : b' = b := by omega
            subst this
            exact absurd ⟨c2, c3⟩ hc
theorem lv_LE {q : Sc} (hw : WF q) {al : Option Nat} {links : Nat} : ∀ (d S : Nat), d ≤ qn q → LE (PM q al links d S) (lv q al links d S) := by
  intro d
  induction d with
  | zero =>
    intro S _
    rw [lv_z]
    by_cases h : pop S = links
    · rw [if_pos h]; exact ⟨Or.inl ⟨h, rfl⟩, fun y _ => Nat.zero_le y⟩
    · rw [if_neg h]; exact ⟨Or.inr rfl, fun y hy => absurd hy.1 h⟩
  | succ d ih =>
    intro S hd
    have h := mi_LE hw (al := al) (links := links) (S := S) hd (fun T => ih T (by omega)) (qn q) 0 (lv q al links d S) (by omega) (LE_cg (fun z => by
      constructor
      · exact Or.inl
      · rintro (c | ⟨b', y, c1, -⟩)
        · exact c
        · omega) (ih S (by omega)))
    have hle := LE_le (PM_FA hw hd) h
    rw [lv_s]
    by_cases c : mi q al (lv q al links d) (qn q - (d + 1)) S (qn q) 0 (lv q al links d S) < FA
    · rw [if_pos c]; exact h
    · rw [if_neg c, show FA = mi q al (lv q al links d) (qn q - (d + 1)) S (qn q) 0 (lv q al links d S) by omega]; exact h
/-- beyond the links that are wanted there is nothing -/
theorem lv_up {q : Sc} (hw : WF q) {al : Option Nat} {links d S : Nat} (hd : d ≤ qn q) (h : links < pop S) : lv q al links d S = FA := by
  rcases (lv_LE hw (al := al) (links := links) d S hd).1 with c | c
  · have := (PM_b hw d S _ hd c).2; omega
  · exact c
section DPM
variable {σ : pv_S} {q : Sc} {al : Option Nat} {links : Nat}
theorem m_ones_4 (σ : pv_S) {S : Nat} (hS : S < 1024) : ∀ (d fuel k : Nat), k + d = 10 → d < fuel → f_X8_ones_4 fuel (nI S) (nI (popk k S)) (nI k) σ = some (nI (pop S), σ) := by
  intro d
  induction d with
  | zero =>
    intro fuel k hk hf
    cases fuel with
    | zero => omega
    | succ f =>
      unfold f_X8_ones_4
      rw [if_pos (show (10 : Int32) ≤ nI k from nI_le (a := 10) (by omega) (by omega)), show k = 10 by omega]; rfl
  | succ d ih =>
    intro fuel k hk hf
    cases fuel with
    | zero => omega
    | succ f =>
      unfold f_X8_ones_4
      rw [if_neg (show ¬ (10 : Int32) ≤ nI k from nI_ge (b := 10) (by omega) (by decide)), bi_tst S hS k (by omega), p1]
      have e : nI (popk k S) + (if S.testBit k then 1 else 0) = nI (popk (k + 1) S) := by
        have : popk (k + 1) S = popk k S + (if S.testBit k then 1 else 0) := rfl
        rw [this]
        by_cases c : S.testBit k = true
        · rw [if_pos c, if_pos c, p1]
        · rw [if_neg c, if_neg c, p0, Nat.add_zero]
      rw [e]
      exact ih f (k + 1) (by omega) (by omega)
theorem m_ones (σ : pv_S) {S : Nat} (hS : S < 1024) : f_X8_ones (nI S) σ = some (nI (pop S), σ) := m_ones_4 σ hS 10 pv_FU 0 (by omega) (by unfold pv_FU; omega)
theorem ix_b (a S : Nat) : (1024 * nI a : Int32) + nI S = nI (1024 * a + S) := by
  show nI 1024 * nI a + nI S = _
  rw [pk_mul, nI_add]
theorem m_bestAt (τ : pv_S) {a S : Nat} (ha : a ≤ 10) (hS : S < 1024) : f_X8_bestAt (nI a) (nI S) τ = some (τ.2 17 (1024 * a + S), τ) := by
  unfold f_X8_bestAt
  rw [ix_b, gd_nI _ (by omega) (by decide), la_nI _ _ (by omega)]
theorem m_throughN (τ : pv_S) {a S : Nat} (ha : a < 10) (hS : S < 1024) : f_X8_through (nI a) (nI S) (-1) τ = some (τ.2 17 (1024 * (a + 1) + S), τ) := by
  unfold f_X8_through
  rw [if_pos rfl, p1, m_bestAt τ (by omega) hS]; rfl
theorem p2_le {n : Nat} (h : n ≤ 10) : 2 ^ n ≤ 1024 := Nat.pow_le_pow_right (by decide) h
theorem m_through (hw : WF q) {τ : pv_S} (h : RM (τ.2 13) 0 q) {f : Nat → Nat} {a S b : Nat} (ha : a < qn q) (hb : b < qn q) (hS : S < 2 ^ qn q) (hf : ∀ T, T < 2 ^ qn q → τ.2 17 (1024 * (a + 1) + T) = nI (f T)) : f_X8_through (nI a) (nI S) (nI b) τ = some (nI (if S.testBit b = false ∧ my q a b = true then f (S ||| 2 ^ b) + cs q a b else FA), τ) := by
  have hn := hw.2.1.1
  have h2 := p2_le hn
  have hSb : S ||| 2 ^ b < 2 ^ qn q := Nat.or_lt_two_pow hS (Nat.pow_lt_pow_right (by decide) hb)
  unfold f_X8_through
  rw [if_neg (nI_nn1 (by omega)), bi_tst S (by omega) b (by omega)]
  cases c : S.testBit b with
  | true =>
    rw [if_neg (show ¬ (if true = true then (1 : Int32) else 0) = 0 by decide), if_neg (show ¬ (true = false ∧ my q a b = true) from fun z => by cases z.1)]
    unfold f_X8_through_36
    rw [if_pos rfl]; rfl
  | false =>
    rw [if_pos (show (if false = true then (1 : Int32) else 0) = 0 by decide), e_X8_may hw h ha hb, Option.bind_some]
    dsimp only
    unfold f_X8_through_36
    cases m : my q a b with
    | false =>
      rw [if_pos (show (if false = true then (1 : Int32) else 0) = 0 by decide), if_pos rfl, if_neg (show ¬ (false = false ∧ false = true) from fun z => by cases z.2)]; rfl
    | true =>
      rw [if_neg (show ¬ (if true = true then (1 : Int32) else 0) = 0 by decide), if_neg c10, bi_shl b (by omega), bi_or, p1, m_bestAt τ (by omega) (by omega), Option.bind_some]
      dsimp only
      rw [e_X8_costOf hw h ha (my_iff.mp m), Option.bind_some]
      dsimp only
      rw [hf _ hSb, nI_add, if_pos ⟨rfl, rfl⟩]
theorem FA_nI : (1000000 : Int32) = nI FA := rfl
theorem al_ne {al : Option Nat} {a : Nat} (hal : ∀ i, al = some i → i < qn q) (hn : qn q ≤ 10) (ha : a < 2 ^ 31) : (nI a = en al) ↔ al = some a := by
  cases al with
  | none => exact ⟨fun c => absurd c (nI_nn1 ha), fun c => by cases c⟩
  | some i =>
    have := hal i rfl
    rw [en_s]
    constructor
    · intro c; rw [(nI_eq ha (by omega)).mp c]
    · intro c; cases c; rfl
theorem mn_le {v acc : Nat} (h : acc ≤ FA) : (if v < acc then v else acc) ≤ FA := by split <;> omega
theorem m_lay_87 (hw : WF q) (hal : ∀ i, al = some i → i < qn q) {g : Nat → Int32} (h : RM (σ.2 13) 0 q) {f : Nat → Nat} {a S : Nat} (ha : a < qn q) (hS : S < 2 ^ qn q) (hfl : ∀ T, f T ≤ FA) (hf : ∀ T, T < 2 ^ qn q → g (1024 * (a + 1) + T) = nI (f T)) (K57 : Int32 → Int32 → Int32 → pv_S → Option pv_S) (K65 : Int32 → Int32 → Int32 → Int32 → pv_S → Option pv_S) : ∀ (k fuel b acc : Nat), b + k = qn q → k < fuel → acc ≤ FA → f_X8_lay_87 K57 K65 fuel (en al) (nI (qn q)) (nI a) (nI S) (nI acc) (nI b) (pv_pa σ 17 g) = K65 (en al) (nI (qn q)) (nI a) (nI (S + 1)) (pv_pa σ 17 (upd g (1024 * a + S) (nI (if mi q al f a S k b acc < FA then mi q al f a S k b acc else FA)))) := by
  have hn := hw.2.1.1
  have h2 := p2_le hn
  have fin : ∀ acc, acc ≤ FA → f_X8_lay_144 K57 K65 (en al) (nI (qn q)) (nI a) (nI S) (nI acc) (pv_pa σ 17 g) = K65 (en al) (nI (qn q)) (nI a) (nI (S + 1)) (pv_pa σ 17 (upd g (1024 * a + S) (nI (if acc < FA then acc else FA)))) := fun acc hacc => by
    unfold f_X8_lay_144 f_X8_lay_171
    rw [ix_b, gd_nI _ (by omega) (by decide), gd_nI _ (by omega) (by decide), p1, sa_nI _ _ _ (by omega), sa_nI _ _ _ (by omega), pa_pa, pa_pa, pa_2s, FA_nI]
    by_cases c : acc < FA
    · rw [if_neg (nI_ge c (by decide)), if_pos c]
    · rw [if_pos (nI_le (by omega) (by unfold FA at hacc; omega)), if_neg c]
  intro k
  induction k with
  | zero =>
    intro fuel b acc hb hk hacc
    cases fuel with
    | zero => omega
    | succ n =>
      unfold f_X8_lay_87
      rw [if_pos (nI_le (by omega) (by omega)), fin acc hacc]; rfl
  | succ k ih =>
    intro fuel b acc hb hk hacc
    cases fuel with
    | zero => omega
    | succ n =>
      unfold f_X8_lay_87
      rw [if_neg (nI_ge (by omega) (by omega))]
      by_cases e1 : al = some a
      · rw [if_pos ((al_ne hal hn (by omega)).mpr e1), fin acc hacc]
        have : ∀ b, tv q al f a S b = FA := fun b => by
          unfold tv okb
          rw [if_neg]
          intro ⟨_, z⟩
          simp [e1] at z
        rw [mi_id this _ _ _ hacc]
      · rw [if_neg (fun z => e1 ((al_ne hal hn (by omega)).mp z)), mi_s]
        have l120 : ∀ v, v < 2 ^ 31 → f_X8_lay_120 K57 K65 (f_X8_lay_87 K57 K65 n) (en al) (nI (qn q)) (nI a) (nI S) (nI acc) (nI b) (nI v) (pv_pa σ 17 g) = f_X8_lay_87 K57 K65 n (en al) (nI (qn q)) (nI a) (nI S) (nI (if v < acc then v else acc)) (nI (b + 1)) (pv_pa σ 17 g) := fun v hv => by
          unfold f_X8_lay_120
          rw [p1]
          by_cases c : v < acc
          · rw [if_neg (nI_ge c (by unfold FA at hacc; omega)), if_pos c]
          · rw [if_pos (nI_le (by omega) hv), if_neg c]
        by_cases e2 : al = some b
        · rw [if_pos ((al_ne hal hn (by omega)).mpr e2)]
          have : tv q al f a S b = FA := by
            unfold tv okb
            rw [if_neg]
            intro ⟨_, z⟩
            simp [e2] at z
          rw [FA_nI, l120 FA (by decide), this]
          exact ih n (b + 1) _ (by omega) (by omega) (mn_le hacc)
        · rw [if_neg (fun z => e2 ((al_ne hal hn (by omega)).mp z)), m_through hw (τ := pv_pa σ 17 g) (f := f) h ha (by omega) hS (fun T hT => by rw [pa_2s]; exact hf T hT), Option.bind_some]
          have eo : okb q al a b = my q a b := by
            unfold okb
            have z1 : decide (al ≠ some a) = true := by simp [e1]
            have z2 : decide (al ≠ some b) = true := by simp [e2]
            rw [z1, z2, Bool.and_true, Bool.and_true]
          have et : tv q al f a S b = (if S.testBit b = false ∧ my q a b = true then f (S ||| 2 ^ b) + cs q a b else FA) := by unfold tv; rw [eo]
          dsimp only
          have hvb : (if S.testBit b = false ∧ my q a b = true then f (S ||| 2 ^ b) + cs q a b else FA) < 2 ^ 31 := by
            have := hfl (S ||| 2 ^ b)
            have := cs_le hw ha (b := b) (by omega)
            unfold FA at *
            split <;> omega
          rw [l120 _ hvb, et]
          exact ih n (b + 1) _ (by omega) (by omega) (mn_le hacc)
theorem m_lay_65 (hw : WF q) (hal : ∀ i, al = some i → i < qn q) (h : RM (σ.2 13) 0 q) {a : Nat} (ha : a < qn q) (K57 : Int32 → Int32 → Int32 → pv_S → Option pv_S) : ∀ (k fuel S : Nat) (g : Nat → Int32), S + k = 2 ^ qn q → k < fuel → (∀ a', a < a' → a' ≤ qn q → ∀ T, T < 2 ^ qn q → g (1024 * a' + T) = nI (lv q al links (qn q - a') T)) → (∀ T, T < S → g (1024 * a + T) = nI (lv q al links (qn q - a) T)) → ∃ g', f_X8_lay_65 K57 fuel (en al) (nI (qn q)) (nI a) (nI S) (pv_pa σ 17 g) = K57 (en al) (nI (qn q)) (nI a + (-1)) (pv_pa σ 17 g') ∧ ∀ a', a ≤ a' → a' ≤ qn q → ∀ T, T < 2 ^ qn q → g' (1024 * a' + T) = nI (lv q al links (qn q - a') T) := by
  have hn := hw.2.1.1
  have h2 := p2_le hn
  intro k
  induction k with
  | zero =>
    intro fuel S g hS hk h1 h3
    cases fuel with
    | zero => omega
    | succ n =>
      unfold f_X8_lay_65
      rw [bi_shl _ (by omega), if_pos (nI_le (by omega) (by omega))]
      refine ⟨g, rfl, fun a' h4 h5 T hT => ?_⟩
      rcases Nat.eq_or_lt_of_le h4 with e | e
      · rw [← e]; exact h3 T (by omega)
      · exact h1 a' e h5 T hT
  | succ k ih =>
    intro fuel S g hS hk h1 h3
    cases fuel with
    | zero => omega
    | succ n =>
      unfold f_X8_lay_65
      rw [bi_shl _ (by omega), if_neg (nI_ge (by omega) (by omega)), m_throughN _ (by omega) (by omega), Option.bind_some]
      dsimp only
      rw [pa_2s, h1 (a + 1) (by omega) (by omega) S (by omega), show (0 : Int32) = nI 0 from rfl]
      rw [m_lay_87 hw hal h (f := lv q al links (qn q - (a + 1))) ha (by omega) (lv_le q al links _) (fun T hT => h1 (a + 1) (by omega) (by omega) T hT) K57 _ (qn q) pv_FU 0 _ (by omega) (by unfold pv_FU; omega) (lv_le q al links _ _)]
      have el : (if mi q al (lv q al links (qn q - (a + 1))) a S (qn q) 0 (lv q al links (qn q - (a + 1)) S) < FA then mi q al (lv q al links (qn q - (a + 1))) a S (qn q) 0 (lv q al links (qn q - (a + 1)) S) else FA) = lv q al links (qn q - a) S := by
        rw [show qn q - a = (qn q - (a + 1)) + 1 by omega, lv_s, show qn q - (qn q - (a + 1) + 1) = a by omega]
      rw [el]
      refine ih n (S + 1) _ (by omega) (by omega) (fun a' h4 h5 T hT => ?_) (fun T hT => ?_)
      · rw [upd_n _ _ (by omega)]; exact h1 a' h4 h5 T hT
      · rw [upd_ap]
        by_cases e : T = S
        · rw [if_pos (by rw [e]), e]
        · rw [if_neg (by omega)]; exact h3 T (by omega)
theorem m_lay_57 (hw : WF q) (hal : ∀ i, al = some i → i < qn q) (h : RM (σ.2 13) 0 q) : ∀ (k fuel : Nat) (g : Nat → Int32), k ≤ qn q → k < fuel → (∀ a', k ≤ a' → a' ≤ qn q → ∀ T, T < 2 ^ qn q → g (1024 * a' + T) = nI (lv q al links (qn q - a') T)) → ∃ g', f_X8_lay_57 fuel (en al) (nI (qn q)) (nI k + (-1)) (pv_pa σ 17 g) = some (pv_pa σ 17 g') ∧ ∀ a', a' ≤ qn q → ∀ T, T < 2 ^ qn q → g' (1024 * a' + T) = nI (lv q al links (qn q - a') T) := by
  have hn := hw.2.1.1
  have h2 := p2_le hn
  intro k
  induction k with
  | zero =>
    intro fuel g hk hf h1
    cases fuel with
    | zero => omega
    | succ n =>
      unfold f_X8_lay_57
      rw [if_pos (by decide)]
      exact ⟨g, rfl, fun a' h3 T hT => h1 a' (Nat.zero_le _) h3 T hT⟩
  | succ k ih =>
    intro fuel g hk hf h1
    cases fuel with
    | zero => omega
    | succ n =>
      unfold f_X8_lay_57
      rw [pk_m1, if_neg (nI_pos (by omega)), show (0 : Int32) = nI 0 from rfl]
      obtain ⟨g', e1, e2⟩ := m_lay_65 (links := links) hw hal h (a := k) (by omega) (f_X8_lay_57 n) (2 ^ qn q) pv_FU 0 g (by omega) (by unfold pv_FU; omega) (fun a' h3 h4 T hT => h1 a' h3 h4 T hT) (fun T hT => by omega)
      rw [e1]
      exact ih n g' (by omega) (by omega) e2
theorem m_lay_10 (hw : WF q) (hal : ∀ i, al = some i → i < qn q) (hl : links < 2 ^ 31) (h : RM (σ.2 13) 0 q) : ∀ (k fuel S : Nat) (g : Nat → Int32), S + k = 2 ^ qn q → k < fuel → (∀ T, T < S → g (1024 * qn q + T) = nI (lv q al links 0 T)) → ∃ g', f_X8_lay_10 fuel (nI links) (en al) (nI (qn q)) (nI S) (pv_pa σ 17 g) = some (pv_pa σ 17 g') ∧ ∀ a', a' ≤ qn q → ∀ T, T < 2 ^ qn q → g' (1024 * a' + T) = nI (lv q al links (qn q - a') T) := by
  have hn := hw.2.1.1
  have h2 := p2_le hn
  intro k
  induction k with
  | zero =>
    intro fuel S g hS hk h1
    cases fuel with
    | zero => omega
    | succ n =>
      unfold f_X8_lay_10
      rw [bi_shl _ (by omega), if_pos (nI_le (by omega) (by omega)), Int32.sub_eq_add_neg]
      refine m_lay_57 hw hal h (qn q) pv_FU g (Nat.le_refl _) (by unfold pv_FU; omega) (fun a' h3 h4 T hT => ?_)
      rw [show a' = qn q by omega, Nat.sub_self]
      exact h1 T (by omega)
  | succ k ih =>
    intro fuel S g hS hk h1
    cases fuel with
    | zero => omega
    | succ n =>
      unfold f_X8_lay_10
      rw [bi_shl _ (by omega), if_neg (nI_ge (by omega) (by omega)), m_ones _ (by omega), Option.bind_some]
      dsimp only
      have hp := pop_le S
      have fin : ∀ v : Nat, v = lv q al links 0 S → f_X8_lay_45 (f_X8_lay_10 n) (nI links) (en al) (nI (qn q)) (nI S) (nI v) ((1024 * nI (qn q)) + nI S) (pv_pa σ 17 g) = f_X8_lay_10 n (nI links) (en al) (nI (qn q)) (nI (S + 1)) (pv_pa σ 17 (upd g (1024 * qn q + S) (nI (lv q al links 0 S)))) := fun v hv => by
        unfold f_X8_lay_45
        rw [ix_b, gd_nI _ (by omega) (by decide), p1, sa_nI _ _ _ (by omega), pa_pa, pa_2s, hv]
      have go := ih n (S + 1) (upd g (1024 * qn q + S) (nI (lv q al links 0 S))) (by omega) (by omega) (fun T hT => by
        rw [upd_ap]
        by_cases e : T = S
        · rw [if_pos (by rw [e]), e]
        · rw [if_neg (by omega)]; exact h1 T (by omega))
      by_cases c : pop S = links
      · rw [if_pos (by rw [c]), show (0 : Int32) = nI 0 from rfl, fin 0 (by rw [lv_z, if_pos c])]; exact go
      · rw [if_neg (fun z => c ((nI_eq (by omega) hl).mp z)), FA_nI, fin FA (by rw [lv_z, if_neg c])]; exact go
theorem m_lay (hw : WF q) (hal : ∀ i, al = some i → i < qn q) (hl : links < 2 ^ 31) (h : RM (σ.2 13) 0 q) : ∃ g, f_X8_lay (nI links) (en al) σ = some (pv_pa σ 17 g) ∧ ∀ a, a ≤ qn q → ∀ T, T < 2 ^ qn q → g (1024 * a + T) = nI (lv q al links (qn q - a) T) := by
  have h2 := p2_le hw.2.1.1
  unfold f_X8_lay
  rw [gd_0, lm_0, h.1]
  have := m_lay_10 (σ := σ) hw hal hl h (2 ^ qn q) pv_FU 0 (σ.2 17) (by omega) (by unfold pv_FU; omega) (fun T hT => by omega)
  rw [pa_self] at this
  exact this
end DPM
