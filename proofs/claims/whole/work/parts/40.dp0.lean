/-! partings: sets of notes as numbers, least costs -/
theorem bi_and (a b : Nat) : nI a &&& nI b = nI (a &&& b) := by
  apply Int32.toBitVec_inj.1
  show BitVec.ofNat 32 a &&& BitVec.ofNat 32 b = BitVec.ofNat 32 (a &&& b)
  apply BitVec.eq_of_getLsbD_eq
  intro i hi
  simp [hi]
theorem bi_or (a b : Nat) : nI a ||| nI b = nI (a ||| b) := by
  apply Int32.toBitVec_inj.1
  show BitVec.ofNat 32 a ||| BitVec.ofNat 32 b = BitVec.ofNat 32 (a ||| b)
  apply BitVec.eq_of_getLsbD_eq
  intro i hi
  simp [hi]
theorem bi_shl : ∀ k, k < 31 → (1 : Int32) <<< (nI k &&& 31) = nI (2 ^ k) := by decide +kernel
theorem bi_tst : ∀ S, S < 1024 → ∀ k, k < 10 → ((nI S >>> (nI k &&& 31)) &&& 1) = (if S.testBit k then 1 else 0) := by decide +kernel
theorem bt_and0 {s t : Nat} : s &&& t = 0 ↔ ∀ j, ¬ (s.testBit j = true ∧ t.testBit j = true) := by
  constructor
  · intro h j ⟨h1, h2⟩
    have := congrArg (fun x => x.testBit j) h
    simp [h1, h2] at this
  · intro h
    apply Nat.eq_of_testBit_eq
    intro j
    rw [Nat.testBit_and, Nat.zero_testBit]
    cases e1 : s.testBit j with
    | false => rfl
    | true =>
      cases e2 : t.testBit j with
      | false => rfl
      | true => exact absurd ⟨e1, e2⟩ (h j)
theorem bt_and2 {s e : Nat} : s &&& 2 ^ e = 0 ↔ s.testBit e = false := by
  rw [bt_and0]
  constructor
  · intro h
    cases c : s.testBit e with
    | false => rfl
    | true => exact absurd ⟨c, Nat.testBit_two_pow_self⟩ (h e)
  · intro h j ⟨h1, h2⟩
    rw [Nat.testBit_two_pow, decide_eq_true_eq] at h2
    rw [← h2, h] at h1
    cases h1
theorem bt_or (s e j : Nat) : (s ||| 2 ^ e).testBit j = (s.testBit j || decide (e = j)) := by rw [Nat.testBit_or, Nat.testBit_two_pow]
theorem bt_add : ∀ s, s < 1024 → ∀ e, e < 10 → s.testBit e = false → s + 2 ^ e = s ||| 2 ^ e := by decide +kernel
def popk : Nat → Nat → Nat
  | 0, _ => 0
  | k + 1, S => popk k S + (if S.testBit k then 1 else 0)
def pop (S : Nat) : Nat := popk 10 S
theorem popk_or {s e : Nat} (h : s.testBit e = false) : ∀ k, popk k (s ||| 2 ^ e) = popk k s + (if e < k then 1 else 0) := by
  intro k
  induction k with
  | zero => simp [popk]
  | succ k ih =>
    unfold popk
    rw [ih, bt_or]
    by_cases c : e = k
    · subst c; rw [h]; simp
    · have : decide (e = k) = false := by simp [c]
      rw [this, Bool.or_false]
      split <;> split <;> split <;> omega
theorem pop_or {s e : Nat} (he : e < 10) (h : s.testBit e = false) : pop (s ||| 2 ^ e) = pop s + 1 := by
  unfold pop; rw [popk_or h, if_pos he]
theorem pop_0 : pop 0 = 0 := by decide
theorem pop_le (s : Nat) : pop s ≤ 10 := by
  unfold pop popk popk popk popk popk popk popk popk popk popk popk
  repeat' split
  all_goals omega
def FA : Nat := 1000000
def LE (P : Nat → Prop) (x : Nat) : Prop := (P x ∨ x = FA) ∧ ∀ y, P y → x ≤ y
theorem LE_u {P Q : Nat → Prop} {x y : Nat} (hPQ : ∀ z, P z ↔ Q z) (hb : ∀ z, P z → z < FA) (h1 : LE P x) (h2 : LE Q y) : x = y := by
  have hx : x ≤ FA := by rcases h1.1 with h | h; exact Nat.le_of_lt (hb x h); omega
  have hy : y ≤ FA := by rcases h2.1 with h | h; exact Nat.le_of_lt (hb y ((hPQ y).mpr h)); omega
  have a : x ≤ y := by rcases h2.1 with h | h; exact h1.2 y ((hPQ y).mpr h); omega
  have b : y ≤ x := by rcases h1.1 with h | h; exact h2.2 x ((hPQ x).mp h); omega
  omega
theorem LE_le {P : Nat → Prop} {x : Nat} (hb : ∀ z, P z → z < FA) (h : LE P x) : x ≤ FA := by
  rcases h.1 with c | c
  · exact Nat.le_of_lt (hb x c)
  · omega
theorem LE_cg {P Q : Nat → Prop} {x : Nat} (hPQ : ∀ z, P z ↔ Q z) (h : LE P x) : LE Q x := ⟨h.1.elim (fun c => Or.inl ((hPQ x).mp c)) Or.inr, fun y hy => h.2 y ((hPQ y).mpr hy)⟩
theorem LE_or {P Q : Nat → Prop} {x y c : Nat} (hP : ∀ z, P z → z < FA) (h1 : LE P x) (h2 : LE Q y) : LE (fun z => P z ∨ ∃ u, z = c + u ∧ Q u) (if c + y < x then c + y else x) := by
  have hx := LE_le hP h1
  refine ⟨?_, fun z hz => ?_⟩
  · by_cases h : c + y < x
    · rw [if_pos h]
      rcases h2.1 with c1 | c1
      · exact Or.inl (Or.inr ⟨y, rfl, c1⟩)
      · omega
    · rw [if_neg h]
      exact h1.1.elim (fun c => Or.inl (Or.inl c)) Or.inr
  · rcases hz with hz | ⟨u, rfl, hu⟩
    · have := h1.2 z hz
      split <;> omega
    · have := h2.2 u hu
      split <;> omega
def okb (q : Sc) (al : Option Nat) (a b : Nat) : Bool := my q a b && decide (al ≠ some a) && decide (al ≠ some b)
theorem okb_s {q : Sc} (hw : WF q) {al : Option Nat} {a b : Nat} (ha : a < qn q) (h : okb q al a b = true) : may q a b ∧ a < b ∧ b < qn q ∧ al ≠ some a ∧ al ≠ some b := by
  unfold okb at h
  simp only [Bool.and_eq_true, decide_eq_true_eq] at h
  have m := my_iff.mp h.1.1
  exact ⟨m, may_lt hw ha m, m.1, h.1.2, h.2⟩
def PM (q : Sc) (al : Option Nat) (links : Nat) : Nat → Nat → Nat → Prop
  | 0, S, x => pop S = links ∧ x = 0
  | d + 1, S, x => PM q al links d S x ∨ ∃ b y, b < qn q ∧ S.testBit b = false ∧ okb q al (qn q - (d + 1)) b = true ∧ x = cs q (qn q - (d + 1)) b + y ∧ PM q al links d (S ||| 2 ^ b) y
def PT (q : Sc) (al : Option Nat) : Nat → Nat → Nat → Prop
  | 0, s, x => s = 0 ∧ x = 0
  | d + 1, s, x => (s < 2 ^ d ∧ PT q al d s x) ∨ ∃ e s' y, e ≤ d ∧ s' < 2 ^ d ∧ s'.testBit e = false ∧ s = s' ||| 2 ^ e ∧ okb q al (qn q - 1 - (d + 1)) (qn q - 1 - e) = true ∧ x = cs q (qn q - 1 - (d + 1)) (qn q - 1 - e) + y ∧ PT q al d s' y
def PV (q : Sc) (al : Option Nat) (d led L x : Nat) : Prop := ∃ s, s < 2 ^ d ∧ s &&& led = 0 ∧ pop s = L ∧ PT q al d s x
theorem PT_b {q : Sc} (hw : WF q) {al : Option Nat} : ∀ (d s x : Nat), d < qn q → PT q al d s x → x ≤ 2133 * d := by
  intro d
  induction d with
  | zero => intro s x _ h; have := h.2; omega
  | succ d ih =>
    intro s x hd h
    rcases h with ⟨-, h⟩ | ⟨e, s', y, he, -, -, -, ho, hx, hy⟩
    · have := ih s x (by omega) h; omega
    · have h1 := okb_s hw (by omega) ho
      have := cs_le hw (a := qn q - 1 - (d + 1)) (b := qn q - 1 - e) (by omega) h1.2.2.1
      have := ih s' y (by omega) hy
      omega
theorem PT_FA {q : Sc} (hw : WF q) {al : Option Nat} {d s : Nat} (hd : d < qn q) : ∀ x, PT q al d s x → x < FA := fun x h => by
  have := PT_b hw d s x hd h
  have := hw.2.1.1
  unfold FA; omega
theorem PV_FA {q : Sc} (hw : WF q) {al : Option Nat} {d led L : Nat} (hd : d < qn q) : ∀ x, PV q al d led L x → x < FA := fun x h => by
  obtain ⟨s, -, -, -, h⟩ := h
  exact PT_FA hw hd x h
theorem PM_b {q : Sc} (hw : WF q) {al : Option Nat} {links : Nat} : ∀ (d S x : Nat), d ≤ qn q → PM q al links d S x → x ≤ 2133 * d ∧ pop S ≤ links := by
  intro d
  induction d with
  | zero => intro S x _ h; have := h.1; have := h.2; omega
  | succ d ih =>
    intro S x hd h
    rcases h with h | ⟨b, y, hb, hS, ho, hx, hy⟩
    · have := ih S x (by omega) h; omega
    · have := cs_le hw (a := qn q - (d + 1)) (b := b) (by omega) hb
      have h2 := ih _ y (by omega) hy
      have hn := hw.2.1.1
      rw [pop_or (by omega) hS] at h2
      omega
theorem PM_FA {q : Sc} (hw : WF q) {al : Option Nat} {links d S : Nat} (hd : d ≤ qn q) : ∀ x, PM q al links d S x → x < FA := fun x h => by
  have := (PM_b hw d S x hd h).1
  have := hw.2.1.1
  unfold FA; omega
def rev (n S led : Nat) : Prop := ∀ b, b < n → S.testBit b = led.testBit (n - 1 - b)
theorem rev_0 (n : Nat) : rev n 0 0 := fun b _ => by rw [Nat.zero_testBit, Nat.zero_testBit]
theorem rev_or {n S led b : Nat} (h : rev n S led) (hb : b < n) : rev n (S ||| 2 ^ b) (led ||| 2 ^ (n - 1 - b)) := fun c hc => by
  rw [bt_or, bt_or, h c hc]
  congr 1
  by_cases e : b = c
  · subst e; simp
  · have : ¬ n - 1 - b = n - 1 - c := by omega
    simp [e, this]
theorem PM_PV {q : Sc} (hw : WF q) {al : Option Nat} {links : Nat} : ∀ (d S led x : Nat), d + 1 ≤ qn q → rev (qn q) S led → pop S ≤ links → (PM q al links (d + 1) S x ↔ PV q al d led (links - pop S) x) := by
  have hn := hw.2.1.1
  intro d
  induction d with
  | zero =>
    intro S led x hd hr hp
    constructor
    · intro h
      rcases h with h | ⟨b, y, hb, hS, ho, -, -⟩
      · obtain ⟨h1, h2⟩ := h
        exact ⟨0, by decide, Nat.zero_and led, by rw [pop_0]; omega, rfl, h2⟩
      · have h9 : qn q - 1 < b := (okb_s hw (by omega) ho).2.1
        omega
    · intro h
      obtain ⟨s, hs, -, h2, h3⟩ := h
      obtain ⟨h4, h5⟩ := h3
      rw [h4, pop_0] at h2
      exact Or.inl ⟨by omega, h5⟩
  | succ d ih =>
    intro S led x hd hr hp
    constructor
    · intro h
      rcases h with h | ⟨b, y, hb, hS, ho, hx, hy⟩
      · obtain ⟨s, h1, h2, h3, h4⟩ := (ih S led x (by omega) hr hp).mp h
        exact ⟨s, Nat.lt_of_lt_of_le h1 (Nat.pow_le_pow_right (by decide) (by omega)), h2, h3, Or.inl ⟨h1, h4⟩⟩
      · have h0 := okb_s hw (by omega) ho
        have hp2 := (PM_b hw _ _ _ (by omega) hy).2
        obtain ⟨s', h1, h2, h3, h4⟩ := (ih (S ||| 2 ^ b) (led ||| 2 ^ (qn q - 1 - b)) y (by omega) (rev_or hr hb) hp2).mp hy
        rw [pop_or (by omega) hS] at hp2 h3
        have hb0 := bt_and0.mp h2
        have hse : s'.testBit (qn q - 1 - b) = false := by
          cases c : s'.testBit (qn q - 1 - b) with
          | false => rfl
          | true => exact absurd ⟨c, by rw [bt_or]; simp⟩ (hb0 (qn q - 1 - b))
        refine ⟨s' ||| 2 ^ (qn q - 1 - b), ?_, ?_, ?_, ?_⟩
        · exact Nat.or_lt_two_pow (Nat.lt_of_lt_of_le h1 (Nat.pow_le_pow_right (by decide) (by omega))) (Nat.pow_lt_pow_right (by decide) (by omega))
        · rw [bt_and0]
          intro j ⟨j1, j2⟩
          rw [bt_or] at j1
          by_cases e : qn q - 1 - b = j
          · rw [← e, ← hr b hb, hS] at j2; cases j2
          · have : decide (qn q - 1 - b = j) = false := by simp [e]
            rw [this, Bool.or_false] at j1
            exact hb0 j ⟨j1, by rw [bt_or, j2]; rfl⟩
        · rw [pop_or (by omega) hse, h3]; omega
        · refine Or.inr ⟨qn q - 1 - b, s', y, by omega, h1, hse, rfl, ?_, ?_, h4⟩
          · rw [show qn q - 1 - (d + 1) = qn q - (d + 1 + 1) by omega, show qn q - 1 - (qn q - 1 - b) = b by omega]; exact ho
          · rw [show qn q - 1 - (d + 1) = qn q - (d + 1 + 1) by omega, show qn q - 1 - (qn q - 1 - b) = b by omega]; exact hx
    · intro h
      obtain ⟨s, h1, h2, h3, h4⟩ := h
      rcases h4 with ⟨hs, h4⟩ | ⟨e, s', y, he, hs', hse, hse2, ho, hx, hy⟩
      · exact Or.inl ((ih S led x (by omega) hr hp).mpr ⟨s, hs, h2, h3, h4⟩)
      · have hb0 := bt_and0.mp h2
        have hle : led.testBit e = false := by
          cases c : led.testBit e with
          | false => rfl
          | true => exact absurd ⟨by rw [hse2, bt_or]; simp, c⟩ (hb0 e)
        have hSb : S.testBit (qn q - 1 - e) = false := by rw [hr _ (by omega), show qn q - 1 - (qn q - 1 - e) = e by omega]; exact hle
        have hps : pop s = pop s' + 1 := by rw [hse2, pop_or (by omega) hse]
        refine Or.inr ⟨qn q - 1 - e, y, by omega, hSb, ?_, ?_, ?_⟩
        · rw [show qn q - (d + 1 + 1) = qn q - 1 - (d + 1) by omega]; exact ho
        · rw [show qn q - (d + 1 + 1) = qn q - 1 - (d + 1) by omega]; exact hx
        · have hpo := pop_or (s := S) (e := qn q - 1 - e) (by omega) hSb
          refine (ih _ (led ||| 2 ^ e) y (by omega) ?_ (by rw [hpo]; omega)).mpr ⟨s', hs', ?_, by rw [hpo]; omega, hy⟩
          · have := rev_or hr (b := qn q - 1 - e) (by omega)
            rw [show qn q - 1 - (qn q - 1 - e) = e by omega] at this
            exact this
          · rw [bt_and0]
            intro j ⟨j1, j2⟩
            rw [bt_or] at j2
            by_cases c : e = j
            · rw [← c, hse] at j1; cases j1
            · have : decide (e = j) = false := by simp [c]
              rw [this, Bool.or_false] at j2
              exact hb0 j ⟨by rw [hse2, bt_or, j1]; rfl, j2⟩
/-- with a note alone not all others are led to -/
theorem PT_al {q : Sc} (hw : WF q) {i : Nat} (hi : i < qn q) : ∀ (d s x : Nat), d < qn q → PT q (some i) d s x → (s < 2 ^ d ∨ d = 0) ∧ pop s ≤ d ∧ (qn q - 1 - i ≤ d → 1 ≤ d → pop s + 1 ≤ d) := by
  have hn := hw.2.1.1
  intro d
  induction d with
  | zero => intro s x _ h; rw [h.1, pop_0]; exact ⟨Or.inr rfl, Nat.le_refl _, by omega⟩
  | succ d ih =>
    intro s x hd h
    rcases h with ⟨hs, h⟩ | ⟨e, s', y, he, hs', hse, hse2, ho, hx, hy⟩
    · have := ih s x (by omega) h
      exact ⟨Or.inl (Nat.lt_of_lt_of_le hs (Nat.pow_le_pow_right (by decide) (by omega))), by omega, by omega⟩
    · have h1 := ih s' y (by omega) hy
      have h2 := okb_s hw (by omega) ho
      have hps : pop s = pop s' + 1 := by rw [hse2, pop_or (by omega) hse]
      refine ⟨Or.inl ?_, by omega, fun h3 _ => ?_⟩
      · rw [hse2]; exact Nat.or_lt_two_pow (Nat.lt_of_lt_of_le hs' (Nat.pow_le_pow_right (by decide) (by omega))) (Nat.pow_lt_pow_right (by decide) (by omega))
      · have n1 : i ≠ qn q - 1 - (d + 1) := fun c => h2.2.2.2.1 (by rw [c])
        have n2 : i ≠ qn q - 1 - e := fun c => h2.2.2.2.2 (by rw [c])
        rcases Nat.eq_zero_or_pos d with c | c
        · subst c; omega
        · have := h1.2.2 (by omega) c; omega
