/-! numbers, rows, states: plain facts -/
theorem la_nI (σ : pv_S) (k : Nat) {i : Nat} (h : i < 2 ^ 31) : pv_la σ k (nI i) = σ.2 k i := by unfold pv_la; rw [nI_clamp h]
theorem sa_nI (σ : pv_S) (k : Nat) {i : Nat} (x : Int32) (h : i < 2 ^ 31) : pv_sa σ k (nI i) x = pv_pa σ k (upd (σ.2 k) i x) := by unfold pv_sa; rw [nI_clamp h]
theorem gd_nI {α : Type} {i n : Nat} (x : Option α) (h : i < n) (hn : n < 2 ^ 31) : gd (nI i) n x = x := by
  unfold gd
  rw [if_neg (nI_in h hn)]
theorem pi_1 (σ : pv_S) (k j : Nat) (v : Int32) : (pv_pi σ k v).1 j = if j = k then v else σ.1 j := rfl
theorem pi_2 (σ : pv_S) (k : Nat) (v : Int32) : (pv_pi σ k v).2 = σ.2 := rfl
theorem pa_1 (σ : pv_S) (k : Nat) (f : Nat → Int32) : (pv_pa σ k f).1 = σ.1 := rfl
theorem pa_2 (σ : pv_S) (k j : Nat) (f : Nat → Int32) : (pv_pa σ k f).2 j = if j = k then f else σ.2 j := rfl
theorem pa_2s (σ : pv_S) (k : Nat) (f : Nat → Int32) : (pv_pa σ k f).2 k = f := if_pos rfl
theorem upd_s (f : Nat → Int32) (k : Nat) (x : Int32) : upd f k x k = x := pk_us
theorem upd_n (f : Nat → Int32) {k j : Nat} (x : Int32) (h : j ≠ k) : upd f k x j = f j := pk_un h
def en (x : Option Nat) : Int32 := match x with
  | none => -1
  | some j => nI j
theorem en_n : en none = -1 := rfl
theorem en_s (j : Nat) : en (some j) = nI j := rfl
theorem nI_nn1 {j : Nat} (h : j < 2 ^ 31) : ¬ nI j = -1 := fun e => by
  have := congrArg Int32.toInt e
  rw [nI_toInt h] at this
  have h2 : (-1 : Int32).toInt = -1 := by decide
  rw [h2] at this
  omega
theorem en_inj {x y : Option Nat} (hx : ∀ j, x = some j → j < 2 ^ 31) (hy : ∀ j, y = some j → j < 2 ^ 31) (h : en x = en y) : x = y := by
  cases x with
  | none =>
    cases y with
    | none => rfl
    | some b => exact absurd h.symm (nI_nn1 (hy b rfl))
  | some a =>
    cases y with
    | none => exact absurd h (nI_nn1 (hx a rfl))
    | some b => rw [(nI_eq (hx a rfl) (hy b rfl)).mp h]
def ds (a b : Nat) : Nat := (a - b) + (b - a)
theorem neg0 (x y : Int32) : -(x - y) = y - x := Int32.neg_sub
theorem sub0 (x y : Int32) : 0 - (x - y) = y - x := by
  have e : (0 : Int32) - (x - y) = -(x - y) := by simp
  rw [e, neg0]
theorem abs_nI {a b : Nat} (ha : a < 2 ^ 30) (hb : b < 2 ^ 30) : (if 0 ≤ nI a - nI b then nI a - nI b else 0 - (nI a - nI b)) = nI (ds a b) := by
  rcases Nat.lt_or_ge a b with h | h
  · rw [if_neg (Int32.not_le.mpr (pk_sneg hb h)), sub0, pk_sub (by omega)]
    congr 1; unfold ds; omega
  · rw [pk_sub h, if_pos (nI_pos' (by omega))]
    congr 1; unfold ds; omega
theorem abs_nI2 {a b : Nat} (ha : a < 2 ^ 30) (hb : b < 2 ^ 30) : (if nI a - nI b < 0 then -(nI a - nI b) else nI a - nI b) = nI (ds a b) := by
  rcases Nat.lt_or_ge a b with h | h
  · rw [if_pos (pk_sneg hb h), neg0, pk_sub (by omega)]
    congr 1; unfold ds; omega
  · rw [pk_sub h, if_neg (nI_pos (by omega))]
    congr 1; unfold ds; omega
/-! a score: count, terms, ON, LENGTH, PITCH, NEXT -/
abbrev Sc : Type := Nat × (Nat → Nat) × (Nat → Nat) × (Nat → Nat) × (Nat → Nat) × (Nat → Option Nat)
def qn (q : Sc) : Nat := q.1
def qt (q : Sc) : Nat → Nat := q.2.1
def qo (q : Sc) : Nat → Nat := q.2.2.1
def ql (q : Sc) : Nat → Nat := q.2.2.2.1
def qp (q : Sc) : Nat → Nat := q.2.2.2.2.1
def qx (q : Sc) : Nat → Option Nat := q.2.2.2.2.2
def RC (c : Nat → Int32) (o : Nat) (q : Sc) : Prop := c o = nI (qn q) ∧ (∀ j, j < 5 → c (o + 1 + j) = nI (qt q j)) ∧ ∀ i, i < qn q → c (o + 6 + 4 * i) = nI (qo q i) ∧ c (o + 7 + 4 * i) = nI (ql q i) ∧ c (o + 8 + 4 * i) = nI (qp q i) ∧ c (o + 9 + 4 * i) = en (qx q i)
def RM (w : Nat → Int32) (r : Nat) (q : Sc) : Prop := w r = nI (qn q) ∧ (∀ j, j < 5 → w (r + 1 + j) = nI (qt q j)) ∧ ∀ i, i < qn q → w (r + 6 + i) = nI (qo q i) ∧ w (r + 16 + i) = nI (ql q i) ∧ w (r + 26 + i) = nI (qp q i) ∧ w (r + 36 + i) = en (qx q i)
def may (q : Sc) (a b : Nat) : Prop := b < qn q ∧ qo q a + ql q a ≤ qo q b ∧ qo q b ≤ qo q a + ql q a + qt q 4
def cs (q : Sc) (a b : Nat) : Nat := ds (qp q b) (qp q a) * qt q 0 + (qo q b - (qo q a + ql q a)) * qt q 1 + (if 12 < ds (qp q b) (qp q a) then qt q 2 else 0)
def ky (q : Sc) (i : Nat) : Nat := (qo q i * 128 + qp q i) * 64 + ql q i
def WT (q : Sc) : Prop := qt q 0 ≤ 9 ∧ qt q 1 ≤ 9 ∧ qt q 2 ≤ 99 ∧ qt q 3 ≤ 999 ∧ qt q 4 ≤ 99
def WN (q : Sc) : Prop := qn q ≤ 10 ∧ ∀ i, i < qn q → qo q i ≤ 99 ∧ 1 ≤ ql q i ∧ ql q i ≤ 32 ∧ qp q i ≤ 127
def WS (q : Sc) : Prop := ∀ i j, i < j → j < qn q → ky q i ≤ ky q j
def WX (q : Sc) : Prop := (∀ i j, i < qn q → qx q i = some j → may q i j) ∧ ∀ i k j, i < qn q → k < qn q → qx q i = some j → qx q k = some j → i = k
def WF (q : Sc) : Prop := WT q ∧ WN q ∧ WS q ∧ WX q
theorem may_lt {q : Sc} (h : WF q) {a b : Nat} (ha : a < qn q) (hm : may q a b) : a < b := by
  obtain ⟨-, ⟨-, hN⟩, hS, -⟩ := h
  obtain ⟨hb, h1, h2⟩ := hm
  rcases Nat.lt_or_ge a b with h | h
  · exact h
  · exfalso
    have n1 := hN a ha
    have n2 := hN b hb
    rcases Nat.eq_or_lt_of_le h with e | e
    · subst e; omega
    · have := hS b a e ha
      unfold ky at this
      omega
theorem cs_le {q : Sc} (h : WF q) {a b : Nat} (ha : a < qn q) (hb : b < qn q) : cs q a b ≤ 2133 := by
  obtain ⟨⟨t0, t1, t2, t3, t4⟩, ⟨-, hN⟩, -, -⟩ := h
  have n1 := hN a ha
  have n2 := hN b hb
  unfold cs
  have d : ds (qp q b) (qp q a) ≤ 127 := by unfold ds; omega
  have e1 : ds (qp q b) (qp q a) * qt q 0 ≤ 127 * 9 := Nat.mul_le_mul d t0
  have e2 : (qo q b - (qo q a + ql q a)) * qt q 1 ≤ 99 * 9 := Nat.mul_le_mul (by omega) t1
  split <;> omega
theorem RC_lt {c : Nat → Int32} {o : Nat} {q : Sc} (h : RC c o q) : c o = nI (qn q) := h.1
theorem RC_copy {c d : Nat → Int32} {o r : Nat} {q : Sc} (hn : qn q ≤ 10) (h : RC c o q) (e : ∀ j, j < 46 → d (r + j) = c (o + j)) : RC d r q := by
  refine ⟨by have := e 0 (by omega); simpa [h.1] using this, fun j hj => ?_, fun i hi => ?_⟩
  · rw [← h.2.1 j hj, Nat.add_assoc, e _ (by omega), Nat.add_assoc]
  · obtain ⟨a1, a2, a3, a4⟩ := h.2.2 i hi
    refine ⟨?_, ?_, ?_, ?_⟩
    · rw [← a1, Nat.add_assoc, e _ (by omega), Nat.add_assoc]
    · rw [← a2, Nat.add_assoc, e _ (by omega), Nat.add_assoc]
    · rw [← a3, Nat.add_assoc, e _ (by omega), Nat.add_assoc]
    · rw [← a4, Nat.add_assoc, e _ (by omega), Nat.add_assoc]
theorem RM_copy {c d : Nat → Int32} {o r : Nat} {q : Sc} (hn : qn q ≤ 10) (h : RM c o q) (e : ∀ j, j < 46 → d (r + j) = c (o + j)) : RM d r q := by
  refine ⟨by have := e 0 (by omega); simpa [h.1] using this, fun j hj => ?_, fun i hi => ?_⟩
  · rw [← h.2.1 j hj, Nat.add_assoc, e _ (by omega), Nat.add_assoc]
  · obtain ⟨a1, a2, a3, a4⟩ := h.2.2 i hi
    refine ⟨?_, ?_, ?_, ?_⟩
    · rw [← a1, Nat.add_assoc, e _ (by omega), Nat.add_assoc]
    · rw [← a2, Nat.add_assoc, e _ (by omega), Nat.add_assoc]
    · rw [← a3, Nat.add_assoc, e _ (by omega), Nat.add_assoc]
    · rw [← a4, Nat.add_assoc, e _ (by omega), Nat.add_assoc]
