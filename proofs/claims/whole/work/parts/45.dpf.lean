/-! the first of the cheapest partings -/
def srch (p : Nat → Bool) : Nat → Nat → Option Nat
  | 0, _ => none
  | d + 1, b => if p b = true then some b else srch p d (b + 1)
theorem srch_y {p : Nat → Bool} : ∀ (d b x : Nat), b ≤ x → x < b + d → p x = true → ∃ y, srch p d b = some y ∧ b ≤ y ∧ y < b + d ∧ p y = true ∧ ∀ j, b ≤ j → j < y → p j = false := by
  intro d
  induction d with
  | zero => intro b x h1 h2; omega
  | succ d ih =>
    intro b x h1 h2 h3
    unfold srch
    cases c : p b with
    | true => exact ⟨b, if_pos rfl, by omega, by omega, c, fun j u1 u2 => by omega⟩
    | false =>
      rw [if_neg (by decide)]
      have : x ≠ b := fun z => by rw [z, c] at h3; cases h3
      obtain ⟨y, y1, y2, y3, y4, y5⟩ := ih (b + 1) x (by omega) (by omega) h3
      refine ⟨y, y1, by omega, by omega, y4, fun j u1 u2 => ?_⟩
      by_cases e : j = b
      · rw [e]; exact c
      · exact y5 j (by omega) u2
def pck (q : Sc) (links a S : Nat) : Option Nat := if lv q none links (qn q - (a + 1)) S = lv q none links (qn q - a) S then none else srch (fun b => decide (tv q none (lv q none links (qn q - (a + 1))) a S b = lv q none links (qn q - a) S)) (qn q) 0
def stp (S : Nat) (c : Option Nat) : Nat := c.elim S (fun b => S ||| 2 ^ b)
def Sf (q : Sc) (links : Nat) : Nat → Nat
  | 0 => 0
  | a + 1 => stp (Sf q links a) (pck q links a (Sf q links a))
def nx (q : Sc) (links a : Nat) : Option Nat := pck q links a (Sf q links a)
theorem Sf_s (q : Sc) (links a : Nat) : Sf q links (a + 1) = stp (Sf q links a) (nx q links a) := rfl
theorem mi_at {q : Sc} {al : Option Nat} {f : Nat → Nat} {a S : Nat} : ∀ (k b acc : Nat), mi q al f a S k b acc = acc ∨ ∃ b', b ≤ b' ∧ b' < b + k ∧ mi q al f a S k b acc = tv q al f a S b' := by
  intro k
  induction k with
  | zero => intro b acc; exact Or.inl rfl
  | succ k ih =>
    intro b acc
    rw [mi_s]
    rcases ih (b + 1) (if tv q al f a S b < acc then tv q al f a S b else acc) with h | ⟨b', h1, h2, h3⟩
    · rw [h]
      split
      · exact Or.inr ⟨b, by omega, by omega, rfl⟩
      · exact Or.inl rfl
    · exact Or.inr ⟨b', by omega, by omega, h3⟩
theorem okb_none (q : Sc) (a b : Nat) : okb q none a b = my q a b := by unfold okb; simp
/-- what is picked: none, or the least that keeps the least cost -/
def CHO (q : Sc) (links a S : Nat) (c : Option Nat) : Prop := (c = none ∧ lv q none links (qn q - (a + 1)) S = lv q none links (qn q - a) S) ∨ ∃ b, c = some b ∧ lv q none links (qn q - (a + 1)) S ≠ lv q none links (qn q - a) S ∧ b < qn q ∧ S.testBit b = false ∧ my q a b = true ∧ lv q none links (qn q - (a + 1)) (S ||| 2 ^ b) + cs q a b = lv q none links (qn q - a) S ∧ ∀ j, j < b → tv q none (lv q none links (qn q - (a + 1))) a S j ≠ lv q none links (qn q - a) S
theorem CHO_pck {q : Sc} {links a S : Nat} (ha : a < qn q) (hV : lv q none links (qn q - a) S < FA) : CHO q links a S (pck q links a S) := by
  unfold pck
  by_cases c : lv q none links (qn q - (a + 1)) S = lv q none links (qn q - a) S
  · rw [if_pos c]; exact Or.inl ⟨rfl, c⟩
  · rw [if_neg c]
    refine Or.inr ?_
    have e := lv_s q none links (qn q - (a + 1)) S
    rw [show qn q - (a + 1) + 1 = qn q - a by omega, show qn q - (qn q - a) = a by omega] at e
    have ex : ∃ b, b < qn q ∧ tv q none (lv q none links (qn q - (a + 1))) a S b = lv q none links (qn q - a) S := by
      by_cases g : mi q none (lv q none links (qn q - (a + 1))) a S (qn q) 0 (lv q none links (qn q - (a + 1)) S) < FA
      · rw [if_pos g] at e
        rcases mi_at (q := q) (al := none) (f := lv q none links (qn q - (a + 1))) (a := a) (S := S) (qn q) 0 (lv q none links (qn q - (a + 1)) S) with h | ⟨b', h1, h2, h3⟩
        · rw [h] at e; exact absurd e.symm c
        · exact ⟨b', by omega, by rw [e, h3]⟩
      · rw [if_neg g] at e; omega
    obtain ⟨b, b1, b2⟩ := ex
    obtain ⟨y, y1, y2, y3, y4, y5⟩ := srch_y (p := fun b => decide (tv q none (lv q none links (qn q - (a + 1))) a S b = lv q none links (qn q - a) S)) (qn q) 0 b (by omega) (by omega) (decide_eq_true b2)
    have y6 : tv q none (lv q none links (qn q - (a + 1))) a S y = lv q none links (qn q - a) S := of_decide_eq_true y4
    have y7 : S.testBit y = false ∧ okb q none a y = true := by
      by_cases g : S.testBit y = false ∧ okb q none a y = true
      · exact g
      · unfold tv at y6; rw [if_neg g] at y6; omega
    refine ⟨y, y1, c, by omega, y7.1, by rw [← okb_none]; exact y7.2, ?_, fun j hj => of_decide_eq_false (y5 j (by omega) hj)⟩
    unfold tv at y6; rw [if_pos y7] at y6; exact y6
theorem Sf_ok {q : Sc} (hw : WF q) {links : Nat} (h0 : lv q none links (qn q) 0 < FA) : ∀ a, a ≤ qn q → Sf q links a < 2 ^ qn q ∧ lv q none links (qn q - a) (Sf q links a) < FA := by
  intro a
  induction a with
  | zero => intro _; exact ⟨Nat.two_pow_pos _, h0⟩
  | succ a ih =>
    intro ha
    obtain ⟨i1, i2⟩ := ih (by omega)
    rw [Sf_s]
    rcases CHO_pck (by omega) i2 with ⟨c1, c2⟩ | ⟨b, c1, c2, c3, c4, c5, c6, c7⟩
    · rw [show nx q links a = none from c1]
      exact ⟨i1, by show lv q none links (qn q - (a + 1)) (Sf q links a) < FA; rw [c2]; exact i2⟩
    · rw [show nx q links a = some b from c1]
      exact ⟨Nat.or_lt_two_pow i1 (Nat.pow_lt_pow_right (by decide) c3), by show lv q none links (qn q - (a + 1)) (Sf q links a ||| 2 ^ b) < FA; omega⟩
theorem Sf_nx {q : Sc} (hw : WF q) {links : Nat} (h0 : lv q none links (qn q) 0 < FA) {a : Nat} (ha : a < qn q) : CHO q links a (Sf q links a) (nx q links a) := CHO_pck ha (Sf_ok hw h0 a (by omega)).2
theorem Sf_mono (q : Sc) (links : Nat) {j : Nat} : ∀ (d a : Nat), (Sf q links a).testBit j = true → (Sf q links (a + d)).testBit j = true := by
  intro d
  induction d with
  | zero => intro a h; exact h
  | succ d ih =>
    intro a h
    have := ih a h
    rw [← Nat.add_assoc, Sf_s]
    cases c : nx q links (a + d) with
    | none => exact this
    | some b => show (Sf q links (a + d) ||| 2 ^ b).testBit j = true; rw [bt_or, this]; rfl
def wnx (q : Sc) (links : Nat) : Sc := (qn q, qt q, qo q, ql q, qp q, nx q links)
theorem WF_wnx {q : Sc} (hw : WF q) {links : Nat} (h0 : lv q none links (qn q) 0 < FA) : WF (wnx q links) := by
  have key : ∀ i j, i < qn q → nx q links i = some j → my q i j = true ∧ (Sf q links i).testBit j = false ∧ (Sf q links (i + 1)).testBit j = true := fun i j hi hx => by
    rcases Sf_nx hw h0 hi with ⟨c1, c2⟩ | ⟨b, c1, c2, c3, c4, c5, c6, c7⟩
    · rw [hx] at c1; cases c1
    · rw [hx] at c1; cases c1
      refine ⟨c5, c4, ?_⟩
      rw [Sf_s, hx]
      show (Sf q links i ||| 2 ^ j).testBit j = true
      rw [bt_or]; simp
  refine ⟨hw.1, hw.2.1, hw.2.2.1, fun i j hi hx => my_iff.mp (key i j hi hx).1, fun i k j hi hk h1 h2 => ?_⟩
  have a := key i j hi h1
  have b := key k j hk h2
  rcases Nat.lt_trichotomy i k with c | c | c
  · have := Sf_mono q links (k - (i + 1)) (i + 1) a.2.2
    rw [show i + 1 + (k - (i + 1)) = k by omega, b.2.1] at this; cases this
  · exact c
  · have := Sf_mono q links (i - (k + 1)) (k + 1) b.2.2
    rw [show k + 1 + (i - (k + 1)) = i by omega, a.2.1] at this; cases this
section DPF
variable {τ : pv_S} {q : Sc}
theorem c_leastBehind_37 (hw : WF q) {d : Nat} (hd : d + 1 < qn q) (hT : LT q none d (τ.2 4)) (v2 : Int32) (led : Nat) : ∀ (m fuel s x : Nat), s + m = 2 ^ d → m < fuel → LE (fun z => ∃ u, u < s ∧ u &&& led = 0 ∧ nI (pop u) = v2 ∧ PT q none d u z) x → ∃ y, f_X5_leastBehind_37 fuel v2 (nI led) (nI (2 ^ d)) (nI x) (nI s) τ = some (nI y, τ) ∧ LE (fun z => ∃ u, u < 2 ^ d ∧ u &&& led = 0 ∧ nI (pop u) = v2 ∧ PT q none d u z) y := by
  have hn := hw.2.1.1
  have b2 : 2 * 2 ^ d ≤ 1024 := by
    have : 2 ^ (d + 1) ≤ 2 ^ 10 := Nat.pow_le_pow_right (by decide) (by omega)
    rw [Nat.pow_succ] at this; omega
  intro m
  induction m with
  | zero =>
    intro fuel s x hs hm h
    cases fuel with
    | zero => omega
    | succ r =>
      unfold f_X5_leastBehind_37
      rw [if_pos (nI_le (by omega) (by omega))]
      exact ⟨x, rfl, by rw [show 2 ^ d = s by omega]; exact h⟩
  | succ m ih =>
    intro fuel s x hs hm h
    cases fuel with
    | zero => omega
    | succ r =>
      have hxF : x ≤ FA := LE_le (fun z hz => by obtain ⟨u, -, -, -, u4⟩ := hz; exact PT_FA hw (by omega) z u4) h
      have skip : (∀ z, ¬ (s &&& led = 0 ∧ nI (pop s) = v2 ∧ PT q none d s z)) → LE (fun z => ∃ u, u < s + 1 ∧ u &&& led = 0 ∧ nI (pop u) = v2 ∧ PT q none d u z) x := fun hz => LE_cg (fun z => by
        constructor
        · rintro ⟨u, u1, u2⟩; exact ⟨u, by omega, u2⟩
        · rintro ⟨u, u1, u2⟩
          rcases Nat.lt_or_ge u s with g | g
          · exact ⟨u, g, u2⟩
          · rw [show u = s by omega] at u2; exact absurd u2 (hz z)) h
      unfold f_X5_leastBehind_37
      have hle : s &&& led ≤ s := Nat.and_le_left
      rw [if_neg (nI_ge (by omega) (by omega)), bi_and, p1]
      by_cases c : s &&& led = 0
      · rw [if_pos (by rw [c]; rfl), bc_ok s (by omega), Option.bind_some]
        dsimp only
        by_cases c2 : nI (pop s) = v2
        · obtain ⟨y, y1, y2⟩ := hT s (by omega)
          have hyF : y ≤ FA := LE_le (fun z hz => PT_FA hw (by omega) z hz) y2
          rw [if_pos c2, nI_add, gd_nI _ (by omega) (by decide), la_nI _ _ (by omega), y1]
          have emin : (if nI y < nI x then nI y else nI x) = nI (if 0 + y < x then 0 + y else x) := by
            unfold FA at hxF hyF
            rw [Nat.zero_add]
            by_cases g : y < x
            · rw [if_pos g, if_pos (nI_lt g (by omega))]
            · rw [if_neg g, if_neg (nI_nlt (by omega) (by omega))]
          rw [emin]
          refine ih r (s + 1) _ (by omega) (by omega) (LE_cg (fun z => ?_) (LE_or (c := 0) (fun z hz => by obtain ⟨u, -, -, -, u4⟩ := hz; exact PT_FA hw (by omega) z u4) h y2))
          constructor
          · rintro (⟨u, u1, u2⟩ | ⟨u, u1, u2⟩)
            · exact ⟨u, by omega, u2⟩
            · exact ⟨s, by omega, c, c2, by rw [show z = u by omega]; exact u2⟩
          · rintro ⟨u, u1, u2, u3, u4⟩
            rcases Nat.lt_or_ge u s with g | g
            · exact Or.inl ⟨u, g, u2, u3, u4⟩
            · rw [show u = s by omega] at u4; exact Or.inr ⟨z, by omega, u4⟩
        · rw [if_neg c2]
          exact ih r (s + 1) x (by omega) (by omega) (skip (fun z hz => c2 hz.2.1))
      · rw [if_neg (nI_ne0 (by omega) (by omega))]
        exact ih r (s + 1) x (by omega) (by omega) (skip (fun z hz => c hz.1))
theorem c_leastBehind (hw : WF q) (h : CA τ q none) {a : Nat} (ha : a + 1 < qn q) (v2 : Int32) (led : Nat) : ∃ y, f_X5_leastBehind (nI a) v2 (nI led) τ = some (nI y, τ) ∧ LE (fun z => ∃ u, u < 2 ^ (qn q - 1 - (a + 1)) ∧ u &&& led = 0 ∧ nI (pop u) = v2 ∧ PT q none (qn q - 1 - (a + 1)) u z) y := by
  have hn := hw.2.1.1
  unfold f_X5_leastBehind
  rw [p1, h.1, if_pos (nI_lt ha (by omega)), c_bit (q := q) hn (τ := τ) h.1 ha, Option.bind_some]
  dsimp only
  rw [FA_nI]
  exact c_leastBehind_37 hw (d := qn q - 1 - (a + 1)) (by omega) (h.2.2.2.1 _ (by omega)) v2 led (2 ^ (qn q - 1 - (a + 1))) pv_FU 0 FA (by omega) (by have : 2 ^ (qn q - 1 - (a + 1)) ≤ 1024 := p2_le (by omega); unfold pv_FU; omega) ⟨Or.inr rfl, fun y hy => by obtain ⟨u, u1, -⟩ := hy; omega⟩
theorem c_lb (hw : WF q) (h : CA τ q none) {a S led links : Nat} (ha : a < qn q) (hr : rev (qn q) S led) (hp : pop S ≤ links) (hl : links ≤ 10) : f_X5_leastBehind (nI a) (nI (links - pop S)) (nI led) τ = some (nI (lv q none links (qn q - (a + 1)) S), τ) := by
  have hn := hw.2.1.1
  rcases Nat.lt_or_ge (a + 1) (qn q) with c | c
  · obtain ⟨y, y1, y2⟩ := c_leastBehind hw h c (nI (links - pop S)) led
    rw [y1]
    have e := lv_LE hw (al := none) (links := links) (qn q - (a + 1)) S (by omega)
    have hb := PM_FA hw (al := none) (links := links) (S := S) (d := qn q - (a + 1)) (by omega)
    have pe : ∀ z, PM q none links (qn q - (a + 1)) S z ↔ ∃ u, u < 2 ^ (qn q - 1 - (a + 1)) ∧ u &&& led = 0 ∧ nI (pop u) = nI (links - pop S) ∧ PT q none (qn q - 1 - (a + 1)) u z := fun z => by
      have := PM_PV hw (al := none) (links := links) (qn q - 1 - (a + 1)) S led z (by omega) hr hp
      rw [show qn q - 1 - (a + 1) + 1 = qn q - (a + 1) by omega] at this
      rw [this]
      constructor
      · rintro ⟨u, u1, u2, u3, u4⟩; exact ⟨u, u1, u2, by rw [u3], u4⟩
      · rintro ⟨u, u1, u2, u3, u4⟩; exact ⟨u, u1, u2, (nI_eq (by have := pop_le u; omega) (by omega)).mp u3, u4⟩
    rw [LE_u pe hb e y2]
  · unfold f_X5_leastBehind
    rw [p1, h.1, if_neg (nI_nlt c (by omega)), show qn q - (a + 1) = 0 by omega, lv_z]
    by_cases g : pop S = links
    · rw [if_pos g, g, Nat.sub_self, if_pos (show nI 0 = 0 from rfl)]; rfl
    · rw [if_neg g, if_neg (nI_ne0 (by omega) (by omega))]; rfl
theorem c_lbM (hw : WF q) (h : CA τ q none) {a led : Nat} (ha : a < qn q) : f_X5_leastBehind (nI a) (-1) (nI led) τ = some (nI FA, τ) := by
  have hn := hw.2.1.1
  rcases Nat.lt_or_ge (a + 1) (qn q) with c | c
  · obtain ⟨y, y1, y2⟩ := c_leastBehind hw h c (-1) led
    rw [y1]
    rcases y2.1 with ⟨u, -, -, u3, -⟩ | g
    · exact absurd u3 (nI_nn1 (by have := pop_le u; omega))
    · rw [g]
  · unfold f_X5_leastBehind
    rw [p1, h.1, if_neg (nI_nlt c (by omega)), if_neg (by decide)]; rfl
theorem c_firstNext (hw : WF q) (h : CA τ q none) {a S led links : Nat} {c : Option Nat} (ha : a < qn q) (hr : rev (qn q) S led) (hp : pop S ≤ links) (hl : links ≤ 10) (hV : lv q none links (qn q - a) S < FA) (hc : CHO q links a S c) : f_X5_firstNext (nI a) (nI (lv q none links (qn q - a) S)) (nI (links - pop S)) (nI led) τ = some (en c, τ) := by
  have hn := hw.2.1.1
  have hle := lv_le q none links (qn q - (a + 1)) S
  unfold f_X5_firstNext
  rw [c_lb hw h ha hr hp hl, Option.bind_some]
  dsimp only
  rcases hc with ⟨c1, c2⟩ | ⟨b, c1, c2, c3, c4, c5, c6, c7⟩
  · rw [if_pos (by rw [c2]), c1]; rfl
  · rw [if_neg (fun z => c2 ((nI_eq (by unfold FA at hle; omega) (by unfold FA at hV; omega)).mp z)), c1, p1]
    have hab : a < b := may_lt hw ha (my_iff.mp c5)
    have val : ∀ j, a < j → j < qn q → S.testBit j = false → ∃ u, f_X5_leastBehind (nI a) (nI (links - pop S) - 1) (nI (led ||| 2 ^ (qn q - 1 - j))) τ = some (nI u, τ) ∧ u = lv q none links (qn q - (a + 1)) (S ||| 2 ^ j) := fun j hj1 hj2 hj3 => by
      refine ⟨_, ?_, rfl⟩
      have hpo := pop_or (s := S) (e := j) (by omega) hj3
      rcases Nat.lt_or_ge (pop S) links with g | g
      · rw [show (nI (links - pop S) - 1 : Int32) = nI (links - pop S - 1) from pk_sub (b := 1) (by omega), show links - pop S - 1 = links - pop (S ||| 2 ^ j) by omega]
        exact c_lb hw h ha (rev_or hr hj2) (by omega) hl
      · rw [show links - pop S = 0 by omega, show (nI 0 - 1 : Int32) = -1 by decide, c_lbM hw h ha, lv_up hw (by omega) (by omega)]
    have tb : ∀ j, j < qn q → (led &&& 2 ^ (qn q - 1 - j) = 0 ↔ S.testBit j = false) := fun j hj => by rw [bt_and2, hr j hj]
    have key : ∀ (d fuel i : Nat), i + d = b → a < i → d < fuel → f_X5_firstNext_19 fuel (nI a) (nI (lv q none links (qn q - a) S)) (nI (links - pop S)) (nI led) (nI i) τ = some (en (some b), τ) := by
      intro d
      induction d with
      | zero =>
        intro fuel i hi hai hf
        cases fuel with
        | zero => omega
        | succ r =>
          have e : i = b := by omega
          subst e
          unfold f_X5_firstNext_19
          obtain ⟨u, u1, u2⟩ := val i hab c3 c4
          rw [h.1, if_neg (nI_ge c3 (by omega)), c_bit (q := q) hn (τ := τ) h.1 c3, Option.bind_some]
          dsimp only
          rw [bi_and, if_pos (by rw [(tb i c3).mpr c4]; rfl), c_lineCost (al := none) hn h.2.2.1 ha c3, Option.bind_some]
          dsimp only
          rw [bi_or, u1, Option.bind_some]
          dsimp only
          rw [nI_add, u2]
          have : lc q none a i = cs q a i := by unfold lc; rw [okb_none, if_pos c5]
          rw [this, Nat.add_comm, if_pos (by rw [c6])]; rfl
      | succ d ih =>
        intro fuel i hi hai hf
        cases fuel with
        | zero => omega
        | succ r =>
          unfold f_X5_firstNext_19
          rw [h.1, if_neg (nI_ge (by omega) (by omega)), c_bit (q := q) hn (τ := τ) h.1 (by omega), Option.bind_some]
          dsimp only
          rw [bi_and, p1]
          have hand : led &&& 2 ^ (qn q - 1 - i) ≤ 2 ^ (qn q - 1 - i) := Nat.and_le_right
          have hp2 : 2 ^ (qn q - 1 - i) ≤ 1024 := p2_le (by omega)
          cases hb : S.testBit i with
          | true =>
            have : ¬ led &&& 2 ^ (qn q - 1 - i) = 0 := fun z => by rw [(tb i (by omega)).mp z] at hb; cases hb
            rw [if_neg (nI_ne0 (by omega) (by omega))]
            exact ih r (i + 1) (by omega) (by omega) (by omega)
          | false =>
            obtain ⟨u, u1, u2⟩ := val i hai (by omega) hb
            rw [if_pos (by rw [(tb i (by omega)).mpr hb]; rfl), c_lineCost (al := none) hn h.2.2.1 ha (by omega), Option.bind_some]
            dsimp only
            rw [bi_or, u1, Option.bind_some]
            dsimp only
            have hul : u ≤ FA := by rw [u2]; exact lv_le _ _ _ _ _
            have hll := lc_le hw (al := none) ha (b := i) (by omega)
            have hne : lc q none a i + u ≠ lv q none links (qn q - a) S := by
              have t7 := c7 i (by omega)
              unfold tv at t7
              unfold lc
              by_cases g : okb q none a i = true
              · rw [if_pos ⟨hb, g⟩, ← u2] at t7
                rw [if_pos g]; omega
              · rw [if_neg g]; omega
            rw [nI_add, if_neg (fun z => hne ((nI_eq (by unfold FA at hul hll; omega) (by unfold FA at hV; omega)).mp z))]
            exact ih r (i + 1) (by omega) (by omega) (by omega)
    exact key (b - (a + 1)) pv_FU (a + 1) (by omega) (by omega) (by unfold pv_FU; omega)
theorem c_choose_37 (hw : WF q) (h : CA τ q none) {links : Nat} (hl : links ≤ 10) (h0 : lv q none links (qn q) 0 < FA) : ∀ (d fuel a led : Nat) (f : Nat → Int32), a + d = qn q → d < fuel → rev (qn q) (Sf q links a) led → (∀ i, i < a → f i = en (nx q links i)) → ∃ f', f_X5_choose_37 fuel (nI (lv q none links (qn q - a) (Sf q links a))) (nI (links - pop (Sf q links a))) (nI led) (nI a) (pv_pa τ 6 f) = some (1, pv_pa τ 6 f') ∧ ∀ i, i < qn q → f' i = en (nx q links i) := by
  have hn := hw.2.1.1
  intro d
  induction d with
  | zero =>
    intro fuel a led f ha hf hr hx
    cases fuel with
    | zero => omega
    | succ r =>
      unfold f_X5_choose_37
      rw [pa_1, h.1, if_pos (nI_le (by omega) (by omega))]
      exact ⟨f, rfl, fun i hi => hx i (by omega)⟩
  | succ d ih =>
    intro fuel a led f ha hf hr hx
    cases fuel with
    | zero => omega
    | succ r =>
      have hV := (Sf_ok hw h0 a (by omega)).2
      have hp : pop (Sf q links a) ≤ links := by
        rcases Nat.lt_or_ge links (pop (Sf q links a)) with g | g
        · rw [lv_up hw (by omega) g] at hV; omega
        · exact g
      have hc := Sf_nx hw h0 (a := a) (by omega)
      have hV1 := (Sf_ok hw h0 (a + 1) (by omega)).2
      have hp1 : pop (Sf q links (a + 1)) ≤ links := by
        rcases Nat.lt_or_ge links (pop (Sf q links (a + 1))) with g | g
        · rw [lv_up hw (by omega) g] at hV1; omega
        · exact g
      have hx' : ∀ i, i < a + 1 → upd f a (en (nx q links a)) i = en (nx q links i) := fun i hi => by
        rw [upd_ap]
        by_cases e : i = a
        · rw [if_pos e, e]
        · rw [if_neg e]; exact hx i (by omega)
      unfold f_X5_choose_37
      rw [pa_1, h.1, if_neg (nI_ge (by omega) (by omega)), c_firstNext (τ := pv_pa τ 6 f) hw h (by omega) hr hp hl hV hc, Option.bind_some]
      dsimp only
      rw [gd_nI _ (by omega) (by decide), sa_nI _ _ _ (by omega), pa_pa, pa_2s, p1]
      rcases hc with ⟨c1, c2⟩ | ⟨b, c1, c2, c3, c4, c5, c6, c7⟩
      · rw [if_pos (by rw [c1]; rfl)]
        have eS : Sf q links (a + 1) = Sf q links a := by rw [Sf_s, c1]; rfl
        obtain ⟨f', r1, r2⟩ := ih r (a + 1) led _ (by omega) (by omega) (by rw [eS]; exact hr) hx'
        rw [eS, c2] at r1
        exact ⟨f', r1, r2⟩
      · have eS : Sf q links (a + 1) = Sf q links a ||| 2 ^ b := by rw [Sf_s, c1]; rfl
        have hpo := pop_or (s := Sf q links a) (e := b) (by omega) c4
        rw [eS] at hp1
        have : lc q none a b = cs q a b := by unfold lc; rw [okb_none, if_pos c5]
        rw [if_neg (by rw [c1]; exact nI_nn1 (by omega)), c1, en_s, c_lineCost (τ := pv_pa τ 6 (upd f a (nI b))) (al := none) hn h.2.2.1 (by omega) c3, Option.bind_some]
        dsimp only
        rw [c_bit (q := q) hn (τ := pv_pa τ 6 (upd f a (nI b))) h.1 c3, Option.bind_some]
        dsimp only
        rw [bi_or, this, pk_sub (by omega), show links - pop (Sf q links a) = (links - pop (Sf q links a) - 1) + 1 by omega, pk_m1]
        obtain ⟨f', r1, r2⟩ := ih r (a + 1) (led ||| 2 ^ (qn q - 1 - b)) _ (by omega) (by omega) (by rw [eS]; exact rev_or hr c3) hx'
        rw [eS, show lv q none links (qn q - (a + 1)) (Sf q links a ||| 2 ^ b) = lv q none links (qn q - a) (Sf q links a) - cs q a b by omega, show links - pop (Sf q links a ||| 2 ^ b) = links - pop (Sf q links a) - 1 by omega, c1, en_s] at r1
        exact ⟨f', r1, r2⟩
theorem c_chooseN (h : CA τ q none) {k : Nat} (hk : k ≤ 10) (h1 : ¬ lk q none k < FA) : f_X5_choose (nI k) τ = some (0, τ) := by
  unfold f_X5_choose
  rw [c_leastCost h hk, Option.bind_some]
  dsimp only
  rw [lw_n h1, if_pos rfl]
theorem c_choose (hw : WF q) (h : CA τ q none) {k : Nat} (hk : k ≤ 10) (h1 : lk q none k < FA) : ∃ f, f_X5_choose (nI k) τ = some (1, pv_pa τ 6 f) ∧ ∀ i, i < qn q → f i = en (nx q (qn q - k) i) := by
  have hn := hw.2.1.1
  have hkn := (lk_b hw h1).1
  have e0 : lk q none k = lv q none (qn q - k) (qn q) 0 := by unfold lk; rw [if_pos hkn]
  have b1 := co_b hw (j := k) (by omega) h1
  unfold f_X5_choose
  rw [c_leastCost h hk, Option.bind_some]
  dsimp only
  rw [lw_y h1, if_neg (nI_nn1 (by omega)), c_leastCost h hk, Option.bind_some]
  dsimp only
  rw [lw_y h1, h.1, h.2.1, pk_mul, pk_sub (by omega), pk_sub hkn, Nat.add_sub_cancel]
  obtain ⟨f', r1, r2⟩ := c_choose_37 hw h (links := qn q - k) (by omega) (by rw [← e0]; exact h1) (qn q) pv_FU 0 0 (τ.2 6) (by omega) (by unfold pv_FU; omega) (rev_0 _) (fun i hi => by omega)
  rw [pa_self, Nat.sub_zero, show Sf q (qn q - k) 0 = 0 from rfl, pop_0, Nat.sub_zero, ← e0] at r1
  rw [show (0 : Int32) = nI 0 from rfl, r1]
  exact ⟨f', rfl, r2⟩
end DPF
section DPF2
variable {σ : pv_S} {q : Sc}
theorem m_layFirst_28 (hw : WF q) (h : RM (σ.2 13) 0 q) {links : Nat} (hB : ∀ a, a ≤ qn q → ∀ T, T < 2 ^ qn q → σ.2 17 (1024 * a + T) = nI (lv q none links (qn q - a) T)) {a S : Nat} (ha : a < qn q) (hS : S < 2 ^ qn q) (hV : lv q none links (qn q - a) S < FA) {c : Option Nat} (hc : CHO q links a S c) (K : Int32 → Int32 → pv_S → Option (Int32 × pv_S)) (f : Nat → Int32) : f_X8_layFirst_28 K pv_FU (nI S) (nI a) (-1) (pv_pa σ 18 f) = K (nI (stp S c)) (nI (a + 1)) (pv_pa σ 18 (upd f a (en c))) := by
  have hn := hw.2.1.1
  have h2 := p2_le hn
  have hle := lv_le q none links (qn q - (a + 1)) S
  have eb : f_X8_bestAt (nI a) (nI S) (pv_pa σ 18 f) = some (nI (lv q none links (qn q - a) S), pv_pa σ 18 f) := by
    rw [m_bestAt _ (by omega) (by omega), show (pv_pa σ 18 f).2 17 = σ.2 17 from rfl, hB a (by omega) S hS]
  rw [show pv_FU = 4999 + 1 from rfl]
  unfold f_X8_layFirst_28
  rw [m_throughN _ (by omega) (by omega), show (pv_pa σ 18 f).2 17 = σ.2 17 from rfl, hB (a + 1) (by omega) S hS, Option.bind_some]
  dsimp only
  rw [eb, Option.bind_some]
  dsimp only
  rw [gd_nI _ (by omega) (by decide), sa_nI _ _ _ (by omega), pa_pa, pa_2s, p1]
  rcases hc with ⟨c1, c2⟩ | ⟨b, c1, c2, c3, c4, c5, c6, c7⟩
  · rw [if_pos (by rw [c2]), if_neg (by decide), c1, show (0 : Int32) = nI 0 from rfl, bi_or, Nat.or_zero]; rfl
  · rw [if_neg (fun z => c2 ((nI_eq (by unfold FA at hle; omega) (by unfold FA at hV; omega)).mp z)), show (-1 + 1 : Int32) = nI 0 by decide]
    have th : ∀ j, j < qn q → f_X8_through (nI a) (nI S) (nI j) (pv_pa σ 18 f) = some (nI (tv q none (lv q none links (qn q - (a + 1))) a S j), pv_pa σ 18 f) := fun j hj => by
      rw [m_through (τ := pv_pa σ 18 f) (f := lv q none links (qn q - (a + 1))) hw h ha hj hS (fun T hT => hB (a + 1) (by omega) T hT)]
      unfold tv; rw [okb_none]
    have tvb : ∀ j, j < qn q → tv q none (lv q none links (qn q - (a + 1))) a S j < 2 ^ 31 := fun j hj => by
      have := lv_le q none links (qn q - (a + 1)) (S ||| 2 ^ j)
      have := cs_le hw ha hj
      unfold tv FA at *
      split <;> omega
    have key : ∀ (d fuel i : Nat), i + d = b → d < fuel → f_X8_layFirst_28 K fuel (nI S) (nI a) (nI i) (pv_pa σ 18 f) = K (nI (stp S c)) (nI (a + 1)) (pv_pa σ 18 (upd f a (en c))) := by
      intro d
      induction d with
      | zero =>
        intro fuel i hi hf
        cases fuel with
        | zero => omega
        | succ r =>
          have e : i = b := by omega
          subst e
          unfold f_X8_layFirst_28
          rw [th i c3, Option.bind_some]
          dsimp only
          rw [eb, Option.bind_some]
          dsimp only
          have : tv q none (lv q none links (qn q - (a + 1))) a S i = lv q none links (qn q - a) S := by
            unfold tv; rw [if_pos ⟨c4, by rw [okb_none]; exact c5⟩]; exact c6
          rw [if_pos (by rw [this]), gd_nI _ (by omega) (by decide), sa_nI _ _ _ (by omega), pa_pa, pa_2s, p1, if_pos (nI_pos' (by omega)), bi_shl _ (by omega), bi_or, c1]; rfl
      | succ d ih =>
        intro fuel i hi hf
        cases fuel with
        | zero => omega
        | succ r =>
          unfold f_X8_layFirst_28
          rw [th i (by omega), Option.bind_some]
          dsimp only
          rw [eb, Option.bind_some]
          dsimp only
          rw [if_neg (fun z => c7 i (by omega) ((nI_eq (tvb i (by omega)) (by unfold FA at hV; omega)).mp z)), p1]
          exact ih r (i + 1) (by omega) (by omega)
    exact key b 4999 0 (by omega) (by omega)
theorem m_layFirst_15 (hw : WF q) (h : RM (σ.2 13) 0 q) {links : Nat} (hB : ∀ a, a ≤ qn q → ∀ T, T < 2 ^ qn q → σ.2 17 (1024 * a + T) = nI (lv q none links (qn q - a) T)) (h0 : lv q none links (qn q) 0 < FA) : ∀ (d fuel a : Nat) (f : Nat → Int32), a + d = qn q → d < fuel → (∀ i, i < a → f i = en (nx q links i)) → ∃ f', f_X8_layFirst_15 fuel (nI (Sf q links a)) (nI a) (pv_pa σ 18 f) = some (1, pv_pa σ 18 f') ∧ ∀ i, i < qn q → f' i = en (nx q links i) := by
  have hn := hw.2.1.1
  intro d
  induction d with
  | zero =>
    intro fuel a f ha hf hx
    cases fuel with
    | zero => omega
    | succ r =>
      unfold f_X8_layFirst_15
      rw [gd_0, lm_0, show (pv_pa σ 18 f).2 13 = σ.2 13 from rfl, h.1, if_pos (nI_le (by omega) (by omega))]
      exact ⟨f, rfl, fun i hi => hx i (by omega)⟩
  | succ d ih =>
    intro fuel a f ha hf hx
    cases fuel with
    | zero => omega
    | succ r =>
      obtain ⟨s1, s2⟩ := Sf_ok hw h0 a (by omega)
      unfold f_X8_layFirst_15
      rw [gd_0, lm_0, show (pv_pa σ 18 f).2 13 = σ.2 13 from rfl, h.1, if_neg (nI_ge (by omega) (by omega)), m_layFirst_28 hw h hB (by omega) s1 s2 (Sf_nx hw h0 (a := a) (by omega)), ← Sf_s]
      refine ih r (a + 1) _ (by omega) (by omega) (fun i hi => ?_)
      rw [upd_ap]
      by_cases e : i = a
      · rw [if_pos e, e]
      · rw [if_neg e]; exact hx i (by omega)
theorem m_layFirstN (hw : WF q) (h : RM (σ.2 13) 0 q) {k : Nat} (hk : k ≤ 10) (h1 : ¬ lk q none k < FA) : ∃ g, f_X8_layFirst (nI k) σ = some (0, pv_pa σ 17 g) := by
  unfold f_X8_layFirst
  obtain ⟨g, g1, -⟩ := m_leastOf (al := none) (k := k) hw (fun i z => by cases z) h hk
  rw [show (-1 : Int32) = en none from rfl, g1, Option.bind_some]
  dsimp only
  rw [ml_none, lw_n h1, if_neg (by decide)]
  exact ⟨g, rfl⟩
theorem m_layFirst (hw : WF q) (h : RM (σ.2 13) 0 q) {k : Nat} (hk : k ≤ 10) (h1 : lk q none k < FA) : ∃ g f, f_X8_layFirst (nI k) σ = some (1, pv_pa (pv_pa σ 17 g) 18 f) ∧ ∀ i, i < qn q → f i = en (nx q (qn q - k) i) := by
  have hn := hw.2.1.1
  have hkn := (lk_b hw h1).1
  have e0 : lk q none k = lv q none (qn q - k) (qn q) 0 := by unfold lk; rw [if_pos hkn]
  have b1 := co_b hw (j := k) (by omega) h1
  unfold f_X8_layFirst
  obtain ⟨g, g1, g2⟩ := m_leastOf (al := none) (k := k) hw (fun i z => by cases z) h hk
  rw [show (-1 : Int32) = en none from rfl, g1, Option.bind_some]
  dsimp only
  rw [ml_none, lw_y h1, if_pos (nI_pos' (by omega))]
  obtain ⟨f', r1, r2⟩ := m_layFirst_15 (σ := pv_pa σ 17 g) hw h (links := qn q - k) (fun a ha T hT => by rw [pa_2s]; exact g2 h1 a ha T hT) (by rw [← e0]; exact h1) (qn q) pv_FU 0 ((pv_pa σ 17 g).2 18) (by omega) (by unfold pv_FU; omega) (fun i hi => by omega)
  rw [pa_self] at r1
  exact ⟨g, f', r1, r2⟩
end DPF2
