/-! the one state behind both -/
abbrev Zt : Type := Sc × Nat × (Nat → Sc) × (Nat → Bool) × (Nat → Sc) × (Nat → Nat) × Nat × (Nat → Nat) × (Nat → Int32) × Nat
def zq (M : Zt) : Sc := M.1
def zh (M : Zt) : Nat := M.2.1
def zH (M : Zt) : Nat → Sc := M.2.2.1
def zK (M : Zt) : Nat → Bool := M.2.2.2.1
def zI (M : Zt) : Nat → Sc := M.2.2.2.2.1
def zS (M : Zt) : Nat → Nat := M.2.2.2.2.2.1
def zb (M : Zt) : Nat := M.2.2.2.2.2.2.1
def zv (M : Zt) : Nat → Nat := M.2.2.2.2.2.2.2.1
def zc (M : Zt) : Nat → Int32 := M.2.2.2.2.2.2.2.2.1
def zs (M : Zt) : Nat := M.2.2.2.2.2.2.2.2.2
def WM (M : Zt) : Prop := WF (zq M) ∧ (zh M ≤ 16 ∧ ∀ k, k < zh M → WF (zH M k)) ∧ (∀ i, i < 2 → zK M i = true → WF (zI M i) ∧ zS M i < 2 ^ 31) ∧ (zb M ≤ 20 ∧ ∀ j, j < zb M → zv M j ≤ 10) ∧ zs M < 2 ^ 31
def CLb (σ : pv_S) (M : Zt) : Prop := RC (σ.2 0) 0 (zq M) ∧ (∃ p, p < 16 ∧ σ.1 6 = nI p ∧ σ.1 7 = nI (zh M) ∧ ∀ k, k < zh M → RC (σ.2 7) (46 * ((p + 15 - k) % 16)) (zH M k)) ∧ (∀ i, i < 2 → σ.2 10 i = (if zK M i = true then 1 else 0) ∧ (zK M i = true → RC (σ.2 8) (46 * i) (zI M i) ∧ σ.2 9 i = nI (zS M i))) ∧ (σ.1 8 = nI (zb M) ∧ ∀ j, j < zb M → σ.2 11 j = nI (zv M j) ∧ σ.2 12 j = zc M j) ∧ σ.1 9 = nI (zs M)
def MO (σ : pv_S) (M : Zt) : Prop := RM (σ.2 13) 0 (zq M) ∧ (σ.1 10 = nI (zh M) ∧ ∀ k, k < zh M → RM (σ.2 13) (46 * (k + 1)) (zH M k)) ∧ (∃ m, m < 4 ∧ σ.1 11 = nI m ∧ ∀ i, i < 2 → m.testBit i = zK M i ∧ (zK M i = true → RM (σ.2 13) (782 + 46 * i) (zI M i) ∧ σ.2 14 i = nI (zS M i))) ∧ (σ.1 13 = nI (zb M) ∧ ∀ j, j < zb M → σ.2 15 j = nI (zv M j) ∧ σ.2 16 j = zc M j) ∧ σ.1 12 = nI (zs M)
def CAC (σ : pv_S) (q : Sc) (E : Nat) : Prop := ∃ e, e ≤ E ∧ σ.1 0 = nI e ∧ (σ.1 4 = -1 ∨ ∃ e', e' ≤ e ∧ σ.1 4 = nI e') ∧ (σ.1 4 = σ.1 0 → ∃ al, (∀ i, al = some i → i < qn q) ∧ σ.1 5 = en al ∧ CA σ q al)
def sm (σ τ : pv_S) : Prop := (∀ k, 10 ≤ k → τ.1 k = σ.1 k) ∧ ∀ k, 13 ≤ k → τ.2 k = σ.2 k
def sc (σ τ : pv_S) : Prop := (∀ k, k < 10 → τ.1 k = σ.1 k) ∧ ∀ k, k < 13 → τ.2 k = σ.2 k
theorem sm_r (σ : pv_S) : sm σ σ := ⟨fun _ _ => rfl, fun _ _ => rfl⟩
theorem sc_r (σ : pv_S) : sc σ σ := ⟨fun _ _ => rfl, fun _ _ => rfl⟩
theorem sm_t {σ τ ρ : pv_S} (h : sm σ τ) (g : sm τ ρ) : sm σ ρ := ⟨fun k hk => by rw [g.1 k hk, h.1 k hk], fun k hk => by rw [g.2 k hk, h.2 k hk]⟩
theorem sc_t {σ τ ρ : pv_S} (h : sc σ τ) (g : sc τ ρ) : sc σ ρ := ⟨fun k hk => by rw [g.1 k hk, h.1 k hk], fun k hk => by rw [g.2 k hk, h.2 k hk]⟩
theorem fr_t {is as : List Nat} {σ τ ρ : pv_S} (h : fr is as σ τ) (g : fr is as τ ρ) : fr is as σ ρ := ⟨fun k hk => by rw [g.1 k hk, h.1 k hk], fun k hk => by rw [g.2 k hk, h.2 k hk]⟩
theorem fr_sm {is as : List Nat} {σ τ : pv_S} (h : fr is as σ τ) (h1 : ∀ k ∈ is, k < 10) (h2 : ∀ k ∈ as, k < 13) : sm σ τ := ⟨fun k hk => h.1 k (fun z => by have := h1 k z; omega), fun k hk => h.2 k (fun z => by have := h2 k z; omega)⟩
theorem fr_sc {is as : List Nat} {σ τ : pv_S} (h : fr is as σ τ) (h1 : ∀ k ∈ is, 10 ≤ k) (h2 : ∀ k ∈ as, 13 ≤ k) : sc σ τ := ⟨fun k hk => h.1 k (fun z => by have := h1 k z; omega), fun k hk => h.2 k (fun z => by have := h2 k z; omega)⟩
theorem sm_pi (σ : pv_S) {k : Nat} (v : Int32) (h : k < 10) : sm σ (pv_pi σ k v) := ⟨fun j hj => by rw [pi_1, if_neg (by omega)], fun j hj => rfl⟩
theorem sm_pa (σ : pv_S) {k : Nat} (f : Nat → Int32) (h : k < 13) : sm σ (pv_pa σ k f) := ⟨fun j hj => rfl, fun j hj => by rw [pa_2, if_neg (by omega)]⟩
theorem sc_pi (σ : pv_S) {k : Nat} (v : Int32) (h : 10 ≤ k) : sc σ (pv_pi σ k v) := ⟨fun j hj => by rw [pi_1, if_neg (by omega)], fun j hj => rfl⟩
theorem sc_pa (σ : pv_S) {k : Nat} (f : Nat → Int32) (h : 13 ≤ k) : sc σ (pv_pa σ k f) := ⟨fun j hj => rfl, fun j hj => by rw [pa_2, if_neg (by omega)]⟩
theorem CA_cg {σ τ : pv_S} {q : Sc} {al : Option Nat} (e2 : τ.1 2 = σ.1 2) (e3 : τ.1 3 = σ.1 3) (a3 : τ.2 3 = σ.2 3) (a4 : τ.2 4 = σ.2 4) (a5 : τ.2 5 = σ.2 5) (h : CA σ q al) : CA τ q al := by
  unfold CA; rw [e2, e3, a3, a4, a5]; exact h
theorem CAC_cg {σ τ : pv_S} {q : Sc} {E : Nat} (e0 : τ.1 0 = σ.1 0) (e2 : τ.1 2 = σ.1 2) (e3 : τ.1 3 = σ.1 3) (e4 : τ.1 4 = σ.1 4) (e5 : τ.1 5 = σ.1 5) (a3 : τ.2 3 = σ.2 3) (a4 : τ.2 4 = σ.2 4) (a5 : τ.2 5 = σ.2 5) (h : CAC σ q E) : CAC τ q E := by
  obtain ⟨e, h1, h2, h3, h4⟩ := h
  refine ⟨e, h1, by rw [e0]; exact h2, by rw [e4]; exact h3, fun z => ?_⟩
  rw [e0, e4] at z
  obtain ⟨al, z1, z2, z3⟩ := h4 z
  exact ⟨al, z1, by rw [e5]; exact z2, CA_cg e2 e3 a3 a4 a5 z3⟩
theorem CAC_fr {is as : List Nat} {σ τ : pv_S} {q : Sc} {E : Nat} (h : fr is as σ τ) (h1 : ∀ k ∈ is, k = 1 ∨ 6 ≤ k) (h2 : ∀ k ∈ as, k < 3 ∨ 6 ≤ k) (hc : CAC σ q E) : CAC τ q E :=
  CAC_cg (h.1 0 (fun z => by have := h1 0 z; omega)) (h.1 2 (fun z => by have := h1 2 z; omega)) (h.1 3 (fun z => by have := h1 3 z; omega)) (h.1 4 (fun z => by have := h1 4 z; omega)) (h.1 5 (fun z => by have := h1 5 z; omega)) (h.2 3 (fun z => by have := h2 3 z; omega)) (h.2 4 (fun z => by have := h2 4 z; omega)) (h.2 5 (fun z => by have := h2 5 z; omega)) hc
theorem CAC_sc {σ τ : pv_S} {q : Sc} {E : Nat} (h : sc σ τ) (hc : CAC σ q E) : CAC τ q E := CAC_cg (h.1 0 (by decide)) (h.1 2 (by decide)) (h.1 3 (by decide)) (h.1 4 (by decide)) (h.1 5 (by decide)) (h.2 3 (by decide)) (h.2 4 (by decide)) (h.2 5 (by decide)) hc
theorem CAC_mono {σ : pv_S} {q : Sc} {E E' : Nat} (h : E ≤ E') (hc : CAC σ q E) : CAC σ q E' := by
  obtain ⟨e, h1, h2⟩ := hc
  exact ⟨e, by omega, h2⟩
theorem CAC_up {σ τ : pv_S} {q q' : Sc} {E : Nat} (hE : E < 2 ^ 30) (e0 : τ.1 0 = σ.1 0 + 1) (e4 : τ.1 4 = σ.1 4) (hc : CAC σ q E) : CAC τ q' (E + 1) := by
  obtain ⟨e, h1, h2, h3, h4⟩ := hc
  have e1 : τ.1 0 = nI (e + 1) := by rw [e0, h2, p1]
  refine ⟨e + 1, by omega, e1, ?_, fun z => ?_⟩
  · rw [e4]
    rcases h3 with g | ⟨e', g1, g2⟩
    · exact Or.inl g
    · exact Or.inr ⟨e', by omega, g2⟩
  · exfalso
    rw [e4, e1] at z
    rcases h3 with g | ⟨e', g1, g2⟩
    · rw [g] at z; exact nI_nn1 (by omega) z.symm
    · rw [g2] at z
      have := (nI_eq (by omega) (by omega)).mp z
      omega
theorem CLb_cg {σ τ : pv_S} {M : Zt} (e6 : τ.1 6 = σ.1 6) (e7 : τ.1 7 = σ.1 7) (e8 : τ.1 8 = σ.1 8) (e9 : τ.1 9 = σ.1 9) (a7 : τ.2 7 = σ.2 7) (a8 : τ.2 8 = σ.2 8) (a9 : τ.2 9 = σ.2 9) (a10 : τ.2 10 = σ.2 10) (a11 : τ.2 11 = σ.2 11) (a12 : τ.2 12 = σ.2 12) {q' : Sc} (hq : RC (τ.2 0) 0 q') (h : CLb σ M) : CLb τ (q', M.2) := by
  obtain ⟨h1, h2, h3, h4, h5⟩ := h
  refine ⟨hq, ?_, ?_, ?_, ?_⟩
  · rw [e6, e7, a7]; exact h2
  · rw [a8, a9, a10]; exact h3
  · rw [e8, a11, a12]; exact h4
  · rw [e9]; exact h5
theorem CLb_fr {is as : List Nat} {σ τ : pv_S} {M : Zt} (h : fr is as σ τ) (h1 : ∀ k ∈ is, k < 6 ∨ 10 ≤ k) (h2 : ∀ k ∈ as, k < 7 ∨ 13 ≤ k) {q' : Sc} (hq : RC (τ.2 0) 0 q') (hc : CLb σ M) : CLb τ (q', M.2) :=
  CLb_cg (h.1 6 (fun z => by have := h1 6 z; omega)) (h.1 7 (fun z => by have := h1 7 z; omega)) (h.1 8 (fun z => by have := h1 8 z; omega)) (h.1 9 (fun z => by have := h1 9 z; omega)) (h.2 7 (fun z => by have := h2 7 z; omega)) (h.2 8 (fun z => by have := h2 8 z; omega)) (h.2 9 (fun z => by have := h2 9 z; omega)) (h.2 10 (fun z => by have := h2 10 z; omega)) (h.2 11 (fun z => by have := h2 11 z; omega)) (h.2 12 (fun z => by have := h2 12 z; omega)) hq hc
theorem CLb_sc {σ τ : pv_S} {M : Zt} (h : sc σ τ) (hc : CLb σ M) : CLb τ M := by
  have : RC (τ.2 0) 0 (zq M) := by rw [h.2 0 (by decide)]; exact hc.1
  exact CLb_cg (h.1 6 (by decide)) (h.1 7 (by decide)) (h.1 8 (by decide)) (h.1 9 (by decide)) (h.2 7 (by decide)) (h.2 8 (by decide)) (h.2 9 (by decide)) (h.2 10 (by decide)) (h.2 11 (by decide)) (h.2 12 (by decide)) this hc
theorem CLb_rd {is as : List Nat} {σ τ : pv_S} {M : Zt} (h : fr is as σ τ) (h1 : ∀ k ∈ is, k < 6 ∨ 10 ≤ k) (h2 : ∀ k ∈ as, (1 ≤ k ∧ k < 7) ∨ 13 ≤ k) (hc : CLb σ M) : CLb τ M := by
  have : RC (τ.2 0) 0 (zq M) := by rw [h.2 0 (fun z => by have := h2 0 z; omega)]; exact hc.1
  exact CLb_fr h h1 (fun k hk => by have := h2 k hk; omega) this hc
theorem MO_cg {σ τ : pv_S} {M : Zt} (e10 : τ.1 10 = σ.1 10) (e11 : τ.1 11 = σ.1 11) (e12 : τ.1 12 = σ.1 12) (e13 : τ.1 13 = σ.1 13) (a14 : τ.2 14 = σ.2 14) (a15 : τ.2 15 = σ.2 15) (a16 : τ.2 16 = σ.2 16) (a13 : ∀ x, 46 ≤ x → τ.2 13 x = σ.2 13 x) (hw : WM M) {q' : Sc} (hq : RM (τ.2 13) 0 q') (h : MO σ M) : MO τ (q', M.2) := by
  obtain ⟨h1, h2, h3, h4, h5⟩ := h
  refine ⟨hq, ⟨by rw [e10]; exact h2.1, fun k hk => RM_copy (hw.2.1.2 k hk).2.1.1 (h2.2 k hk) (fun j hj => a13 _ (by omega))⟩, ?_, ?_, ?_⟩
  · obtain ⟨m, m1, m2, m3⟩ := h3
    refine ⟨m, m1, by rw [e11]; exact m2, fun i hi => ⟨(m3 i hi).1, fun z => ⟨RM_copy (hw.2.2.1 i hi z).1.2.1.1 ((m3 i hi).2 z).1 (fun j hj => a13 _ (by omega)), by rw [a14]; exact ((m3 i hi).2 z).2⟩⟩⟩
  · rw [e13, a15, a16]; exact h4
  · rw [e12]; exact h5
theorem MO_sm {σ τ : pv_S} {M : Zt} (hw : WM M) (h : sm σ τ) (hc : MO σ M) : MO τ M := by
  have : RM (τ.2 13) 0 (zq M) := by rw [h.2 13 (by decide)]; exact hc.1
  exact MO_cg (h.1 10 (by decide)) (h.1 11 (by decide)) (h.1 12 (by decide)) (h.1 13 (by decide)) (h.2 14 (by decide)) (h.2 15 (by decide)) (h.2 16 (by decide)) (fun x _ => by rw [h.2 13 (by decide)]) hw this hc
def OK (c m : pv_S → Option (Int32 × pv_S)) : Prop := ∀ (σ : pv_S) (E : Nat) (M : Zt), E < 2 ^ 20 → WM M → CLb σ M → CAC σ (zq M) E → MO σ M → ∃ r τ τ' M', c σ = some (r, τ) ∧ m τ = some (r, τ') ∧ WM M' ∧ CLb τ' M' ∧ CAC τ' (zq M') (E + 20) ∧ MO τ' M'
theorem OK_of {c m : pv_S → Option (Int32 × pv_S)} {σ : pv_S} {E : Nat} {M : Zt} (hw : WM M) (hM : MO σ M) (r : Int32) (τ : pv_S) (M' : Zt) (hc : c σ = some (r, τ)) (hs : sm σ τ) (hw' : WM M') (h1 : CLb τ M') (h2 : CAC τ (zq M') (E + 20)) (hm : ∀ ρ, MO ρ M → ∃ τ', m ρ = some (r, τ') ∧ sc ρ τ' ∧ MO τ' M') : ∃ r τ τ' M', c σ = some (r, τ) ∧ m τ = some (r, τ') ∧ WM M' ∧ CLb τ' M' ∧ CAC τ' (zq M') (E + 20) ∧ MO τ' M' := by
  obtain ⟨τ', m1, m2, m3⟩ := hm τ (MO_sm hw hs hM)
  exact ⟨r, τ, τ', M', hc, m1, hw', CLb_sc m2 h1, CAC_sc m2 h2, m3⟩
/-- nothing changes -/
theorem OK_id {c m : pv_S → Option (Int32 × pv_S)} {σ : pv_S} {E : Nat} {M : Zt} (hw : WM M) (h : CLb σ M) (hC : CAC σ (zq M) E) (hM : MO σ M) (r : Int32) (hc : c σ = some (r, σ)) (hm : ∀ ρ, MO ρ M → ∃ g, m ρ = some (r, pv_pa ρ 17 g)) : ∃ r τ τ' M', c σ = some (r, τ) ∧ m τ = some (r, τ') ∧ WM M' ∧ CLb τ' M' ∧ CAC τ' (zq M') (E + 20) ∧ MO τ' M' :=
  OK_of hw hM r σ M hc (sm_r σ) hw h (CAC_mono (by omega) hC) (fun ρ hρ => by
    obtain ⟨g, g1⟩ := hm ρ hρ
    exact ⟨_, g1, sc_pa ρ g (by decide), hρ⟩)
theorem id17 (ρ : pv_S) (r : Int32) : ∃ g, (some (r, ρ) : Option (Int32 × pv_S)) = some (r, pv_pa ρ 17 g) := ⟨ρ.2 17, by rw [pa_self]⟩
/-! records -/
def rec' (M : Zt) : Zt := (zq M, min (zh M + 1) 16, (fun k => if k = 0 then zq M else zH M (k - 1)), M.2.2.2)
theorem WM_rec {M : Zt} (h : WM M) : WM (rec' M) := by
  refine ⟨h.1, ⟨by show min _ _ ≤ 16; omega, fun k hk => ?_⟩, h.2.2⟩
  show WF (if k = 0 then zq M else zH M (k - 1))
  have hk' : k < min (zh M + 1) 16 := hk
  by_cases c : k = 0
  · rw [if_pos c]; exact h.1
  · rw [if_neg c]; exact h.2.1.2 (k - 1) (by omega)
theorem c_record {σ : pv_S} {M : Zt} (hw : WM M) (h : CLb σ M) : ∃ τ, f_X2_record σ = some τ ∧ CLb τ (rec' M) ∧ fr [6, 7] [7] σ τ := by
  obtain ⟨h1, ⟨p, p1', p2, p3, p4⟩, h3⟩ := h
  have hh := hw.2.1.1
  rw [h_record p1' hh p2 p3]
  refine ⟨_, rfl, ⟨h1, ⟨(p + 1) % 16, Nat.mod_lt _ (by decide), rfl, rfl, fun k hk => ?_⟩, h3⟩, ?_, ?_⟩
  · have hk' : k < min (zh M + 1) 16 := hk
    show RC (va_cpy (σ.2 0) (σ.2 7) 0 (46 * p) 46) (46 * (((p + 1) % 16 + 15 - k) % 16)) (if k = 0 then zq M else zH M (k - 1))
    by_cases c : k = 0
    · rw [if_pos c, c, show ((p + 1) % 16 + 15 - 0) % 16 = p by omega]
      refine RC_copy hw.1.2.1.1 h1 (fun j hj => ?_)
      rw [pk_cpy_in (by omega) (by omega)]
      exact congrArg (σ.2 0) (by omega)
    · rw [if_neg c]
      have e : ((p + 1) % 16 + 15 - k) % 16 = (p + 15 - (k - 1)) % 16 := by omega
      rw [e]
      refine RC_copy (hw.2.1.2 (k - 1) (by omega)).2.1.1 (p4 (k - 1) (by omega)) (fun j hj => ?_)
      rw [pk_cpy_out (by omega)]
  · intro k hk
    simp only [List.mem_cons, List.not_mem_nil, or_false, not_or] at hk
    simp only [pa_1, pi_1]
    rw [if_neg hk.2, if_neg hk.1]
  · intro k hk
    simp only [List.mem_cons, List.not_mem_nil, or_false] at hk
    simp only [pa_2, pi_2]
    rw [if_neg hk]
theorem m_remember {ρ : pv_S} {M : Zt} (hw : WM M) (h : MO ρ M) : ∃ τ, f_X8_remember ρ = some τ ∧ MO τ (rec' M) ∧ fr [10] [13] ρ τ := by
  obtain ⟨h1, h2, h3, h4, h5⟩ := h
  have hh := hw.2.1.1
  rw [h_remember hh h2.1]
  refine ⟨_, rfl, ⟨?_, ⟨rfl, fun k hk => ?_⟩, ?_, h4, h5⟩, ?_, ?_⟩
  · show RM (shf 0 (ρ.2 13)) 0 (zq M)
    refine RM_copy hw.1.2.1.1 h1 (fun j hj => ?_)
    unfold shf; rw [if_neg (by omega)]
  · have hk' : k < min (zh M + 1) 16 := hk
    show RM (shf 0 (ρ.2 13)) (46 * (k + 1)) (if k = 0 then zq M else zH M (k - 1))
    by_cases c : k = 0
    · rw [if_pos c, c]
      refine RM_copy hw.1.2.1.1 h1 (fun j hj => ?_)
      unfold shf; rw [if_pos (by omega)]; exact congrArg (ρ.2 13) (by omega)
    · rw [if_neg c]
      refine RM_copy (hw.2.1.2 (k - 1) (by omega)).2.1.1 (h2.2 (k - 1) (by omega)) (fun j hj => ?_)
      unfold shf; rw [if_pos (by omega)]; exact congrArg (ρ.2 13) (by omega)
  · obtain ⟨m, m1, m2, m3⟩ := h3
    refine ⟨m, m1, m2, fun i hi => ⟨(m3 i hi).1, fun z => ⟨?_, ((m3 i hi).2 z).2⟩⟩⟩
    show RM (shf 0 (ρ.2 13)) (782 + 46 * i) (zI M i)
    refine RM_copy (hw.2.2.1 i hi z).1.2.1.1 ((m3 i hi).2 z).1 (fun j hj => ?_)
    unfold shf; rw [if_neg (by omega)]
  · intro k hk
    simp only [List.mem_cons, List.not_mem_nil, or_false] at hk
    simp only [pa_1, pi_1]
    rw [if_neg hk]
  · intro k hk
    simp only [List.mem_cons, List.not_mem_nil, or_false] at hk
    simp only [pa_2, pi_2]
    rw [if_neg hk]
