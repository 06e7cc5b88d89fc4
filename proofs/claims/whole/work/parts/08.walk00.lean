abbrev r_X6_count : Room := { frames := 0, cells := 0, slots := 0, locals := 0 }
set_option maxRecDepth 100000 in
set_option maxHeartbeats 4000000 in
theorem w_X6_count_0 {p : Program} {l : Launch} {e : Env} {s : State} {m : MethodId} {args : Array Value} {below : List Frame} {meth : Method} {c : Code} {D : va_G} {cI cZ : ClassId} {ad : Nat → Nat} (C : pv_C p s m args meth c cX6_count 1 RX6 D cI cZ ad (pv_A ad)) (hr : meth.sig.returnType = some .int) (R0 : (Int32 × pv_S)) (σ : pv_S) (h : f_X6_count σ = some R0) : Wx p l e r_X6_count s m args below meth c 0 0 (MQ below (pv_QI D cI cZ ad R0) args s 0 0 (pv_A ad)) 1 D cI cZ ad (pv_A ad) 0 [(0, .ref (ad 1))] [] σ := by
  unfold f_X6_count at h
  refine x_aload_n C dX6_count_0 rfl 0 rfl ?_
  refine xg_X6_11 C dX6_count_1 ?_
  refine x_iconst (v := 0) C dX6_count_4 (by decide) ?_
  obtain ⟨g1, h⟩ := gd_some h
  refine xl_0 C g1 dX6_count_5 ?_
  exact x_iret C hr dX6_count_6 (Option.some.inj h)
theorem m_X6_count (l : Launch) (D : va_G) (cI cZ : ClassId) (ad : Nat → Nat) (hJ : pv_J ad)  (σ : pv_S) (R0 : (Int32 × pv_S)) (h : f_X6_count σ = some R0) : Met l yX6_count (Cond.code yX6_count cX6_count 1 (some .int) :: lwG) r_X6_count (va_Pc [.ref (ad 1)] (pv_P D cI cZ ad σ)) (pv_QI D cI cZ ad R0) 0 0 (pv_A ad) := x_met (by decide) rfl hJ (Nat.le_of_ble_eq_true rfl) (fun p e s m args below meth c C hr => w_X6_count_0 C hr R0 σ h)
abbrev r_J7_fill_53178_10 : Room := { frames := 0, cells := 0, slots := 0, locals := 0 }
set_option maxRecDepth 100000 in
set_option maxHeartbeats 4000000 in
theorem w_J7_fill_53178_10_5 {p : Program} {l : Launch} {e : Env} {s : State} {m : MethodId} {args : Array Value} {below : List Frame} {meth : Method} {c : Code} {D : va_G} {cI cZ : ClassId} {ad : Nat → Nat} (C : pv_C p s m args meth c cJ7_fill_53178 4 RJ7 D cI cZ ad (pv_A ad)) (hr : meth.sig.returnType = none) (R0 : pv_S) : ∀ (n : Nat) (v1 : Int32) (v2 : Int32) (v3 : Int32) (σ : pv_S), f_J7_fill_53178_10_5 n v1 v2 v3 σ = some R0 → Wx p l e r_J7_fill_53178_10 s m args below meth c 0 0 (MQ below (pv_QV D cI cZ ad R0) args s 0 0 (pv_A ad)) 4 D cI cZ ad (pv_A ad) 5 [(0, .ref (ad 10)), (1, .int v1), (2, .int v2), (3, .int v3)] [] σ := by
  intro n
  induction n with
  | zero =>
    intro v1 v2 v3 σ h
    have h2 : (none : Option pv_S) = some R0 := h
    cases h2
  | succ n ih =>
    intro v1 v2 v3 σ h
    unfold f_J7_fill_53178_10_5 at h
    refine x_iload_n C dJ7_fill_53178_5 rfl 2 rfl ?_
    refine x_iload_n C dJ7_fill_53178_6 rfl 3 rfl ?_
    refine x_icmp_ge C 20 dJ7_fill_53178_7 (by decide) (fun c1 => ?_) (fun c1 => ?_)
    · have h := (if_pos c1).symm.trans h
      exact x_vret C hr dJ7_fill_53178_20 (Option.some.inj h)
    · have h := (if_neg c1).symm.trans h
      refine x_aload_n C dJ7_fill_53178_10 rfl 0 rfl ?_
      refine x_iload_n C dJ7_fill_53178_11 rfl 2 rfl ?_
      refine x_iload_n C dJ7_fill_53178_12 rfl 1 rfl ?_
      obtain ⟨g2, h⟩ := gd_some h
      refine xs_1 C g2 dJ7_fill_53178_13 ?_
      refine x_iinc (v := (v2 + 1)) (lv' := [(2, .int (v2 + 1)), (0, .ref (ad 10)), (1, .int v1), (3, .int v3)]) C 2 dJ7_fill_53178_14 rfl rfl (by decide) rfl ?_
      refine x_goto C 5 dJ7_fill_53178_17 (by decide) ?_
      refine x_sub [1, 2, 0, 3] rfl ?_
      exact ih v1 (v2 + 1) v3 (pv_sa σ 1 v2 v1) h
set_option maxRecDepth 100000 in
set_option maxHeartbeats 4000000 in
theorem w_J7_fill_53178_10_0 {p : Program} {l : Launch} {e : Env} {s : State} {m : MethodId} {args : Array Value} {below : List Frame} {meth : Method} {c : Code} {D : va_G} {cI cZ : ClassId} {ad : Nat → Nat} (C : pv_C p s m args meth c cJ7_fill_53178 4 RJ7 D cI cZ ad (pv_A ad)) (hr : meth.sig.returnType = none) (R0 : pv_S) (p1 : Int32) (σ : pv_S) (h : f_J7_fill_53178_10 p1 σ = some R0) : Wx p l e r_J7_fill_53178_10 s m args below meth c 0 0 (MQ below (pv_QV D cI cZ ad R0) args s 0 0 (pv_A ad)) 4 D cI cZ ad (pv_A ad) 0 [(0, .ref (ad 10)), (1, .int p1)] [] σ := by
  unfold f_J7_fill_53178_10 at h
  refine x_iconst (v := 0) C dJ7_fill_53178_0 (by decide) ?_
  refine x_istore_n (lv' := [(2, .int 0), (0, .ref (ad 10)), (1, .int p1)]) C dJ7_fill_53178_1 rfl (by decide) rfl ?_
  refine x_aload_n C dJ7_fill_53178_2 rfl 1 rfl ?_
  refine xn_1 C dJ7_fill_53178_3 ?_
  refine x_istore_n (lv' := [(3, .int 10), (2, .int 0), (0, .ref (ad 10)), (1, .int p1)]) C dJ7_fill_53178_4 rfl (by decide) rfl ?_
  refine x_sub [2, 3, 1, 0] rfl ?_
  exact w_J7_fill_53178_10_5 C hr R0 pv_FU p1 0 10 σ h
theorem m_J7_fill_53178_10 (l : Launch) (D : va_G) (cI cZ : ClassId) (ad : Nat → Nat) (hJ : pv_J ad) (p1 : Int32) (σ : pv_S) (R0 : pv_S) (h : f_J7_fill_53178_10 p1 σ = some R0) : Met l yJ7_fill_53178 (Cond.code yJ7_fill_53178 cJ7_fill_53178 4 (none) :: lwG) r_J7_fill_53178_10 (va_Pc [.ref (ad 10), .int p1] (pv_P D cI cZ ad σ)) (pv_QV D cI cZ ad R0) 0 0 (pv_A ad) := x_met (by decide) rfl hJ (Nat.le_of_ble_eq_true rfl) (fun p e s m args below meth c C hr => w_J7_fill_53178_10_0 C hr R0 p1 σ h)
abbrev r_X6_cell : Room := { frames := 0, cells := 0, slots := 0, locals := 0 }
set_option maxRecDepth 100000 in
set_option maxHeartbeats 4000000 in
theorem w_X6_cell_0 {p : Program} {l : Launch} {e : Env} {s : State} {m : MethodId} {args : Array Value} {below : List Frame} {meth : Method} {c : Code} {D : va_G} {cI cZ : ClassId} {ad : Nat → Nat} (C : pv_C p s m args meth c cX6_cell 3 RX6 D cI cZ ad (pv_A ad)) (hr : meth.sig.returnType = some .int) (R0 : (Int32 × pv_S)) (p0 : Int32) (p1 : Int32) (σ : pv_S) (h : f_X6_cell p0 p1 σ = some R0) : Wx p l e r_X6_cell s m args below meth c 0 0 (MQ below (pv_QI D cI cZ ad R0) args s 0 0 (pv_A ad)) 3 D cI cZ ad (pv_A ad) 0 [(0, .ref (ad 1)), (1, .int p0), (2, .int p1)] [] σ := by
  unfold f_X6_cell at h
  refine x_iload_n C dX6_cell_0 rfl 1 rfl ?_
  refine x_if_lt C 26 dX6_cell_1 (by decide) (fun c1 => ?_) (fun c1 => ?_)
  · have h := (if_pos c1).symm.trans h
    refine x_iconst (v := (-1)) C dX6_cell_26 (by decide) ?_
    exact x_iret C hr dX6_cell_27 (Option.some.inj h)
  · have h := (if_neg c1).symm.trans h
    refine x_iload_n C dX6_cell_4 rfl 1 rfl ?_
    refine x_bipush (v := 10) C dX6_cell_5 (by decide) ?_
    refine x_icmp_ge C 26 dX6_cell_7 (by decide) (fun c2 => ?_) (fun c2 => ?_)
    · have h := (if_pos c2).symm.trans h
      refine x_iconst (v := (-1)) C dX6_cell_26 (by decide) ?_
      exact x_iret C hr dX6_cell_27 (Option.some.inj h)
    · have h := (if_neg c2).symm.trans h
      refine x_aload_n C dX6_cell_10 rfl 0 rfl ?_
      refine xg_X6_11 C dX6_cell_11 ?_
      refine x_bipush (v := 6) C dX6_cell_14 (by decide) ?_
      refine x_iload_n C dX6_cell_16 rfl 1 rfl ?_
      refine x_iconst (v := 4) C dX6_cell_17 (by decide) ?_
      refine x_imul C dX6_cell_18 ?_
      refine x_iadd C dX6_cell_19 ?_
      refine x_iload_n C dX6_cell_20 rfl 2 rfl ?_
      refine x_iadd C dX6_cell_21 ?_
      obtain ⟨g3, h⟩ := gd_some h
      refine xl_0 C g3 dX6_cell_22 ?_
      refine x_goto C 27 dX6_cell_23 (by decide) ?_
      exact x_iret C hr dX6_cell_27 (Option.some.inj h)
theorem m_X6_cell (l : Launch) (D : va_G) (cI cZ : ClassId) (ad : Nat → Nat) (hJ : pv_J ad) (p0 : Int32) (p1 : Int32) (σ : pv_S) (R0 : (Int32 × pv_S)) (h : f_X6_cell p0 p1 σ = some R0) : Met l yX6_cell (Cond.code yX6_cell cX6_cell 3 (some .int) :: lwG) r_X6_cell (va_Pc [.ref (ad 1), .int p0, .int p1] (pv_P D cI cZ ad σ)) (pv_QI D cI cZ ad R0) 0 0 (pv_A ad) := x_met (by decide) rfl hJ (Nat.le_of_ble_eq_true rfl) (fun p e s m args below meth c C hr => w_X6_cell_0 C hr R0 p0 p1 σ h)
abbrev r_X6_next : Room := { frames := 1, cells := 0, slots := 0, locals := 22 }
set_option maxRecDepth 100000 in
set_option maxHeartbeats 4000000 in
theorem w_X6_next_0 {p : Program} {l : Launch} {e : Env} {s : State} {m : MethodId} {args : Array Value} {below : List Frame} {meth : Method} {c : Code} {D : va_G} {cI cZ : ClassId} {ad : Nat → Nat} (C : pv_C p s m args meth c cX6_next 2 RX6 D cI cZ ad (pv_A ad)) (hr : meth.sig.returnType = some .int) (R0 : (Int32 × pv_S)) (p0 : Int32) (σ : pv_S) (h : f_X6_next p0 σ = some R0) : Wx p l e r_X6_next s m args below meth c 0 0 (MQ below (pv_QI D cI cZ ad R0) args s 0 0 (pv_A ad)) 2 D cI cZ ad (pv_A ad) 0 [(0, .ref (ad 1)), (1, .int p0)] [] σ := by
  unfold f_X6_next at h
  refine x_aload_n C dX6_next_0 rfl 0 rfl ?_
  refine x_iload_n C dX6_next_1 rfl 1 rfl ?_
  refine x_iconst (v := 3) C dX6_next_2 (by decide) ?_
  obtain ⟨q1, eq1, h⟩ := gb_some h
  refine x_vi (st := []) C kY_X6_cell 1 6 rfl rfl rfl (m_X6_cell l D cI cZ ad C.2.2.2.2.2.2.1 p0 3 σ q1 eq1) kl_X6_31 ⟨rfl, rfl⟩ ⟨Nat.le_of_ble_eq_true rfl, Nat.le_of_ble_eq_true rfl⟩ ⟨Nat.zero_le _, Nat.zero_le _⟩ rfl rfl (Nat.le_of_ble_eq_true rfl) dX6_next_3 ?_
  exact x_iret C hr dX6_next_6 (Option.some.inj h)
theorem m_X6_next (l : Launch) (D : va_G) (cI cZ : ClassId) (ad : Nat → Nat) (hJ : pv_J ad) (p0 : Int32) (σ : pv_S) (R0 : (Int32 × pv_S)) (h : f_X6_next p0 σ = some R0) : Met l yX6_next (Cond.code yX6_next cX6_next 2 (some .int) :: lwG) r_X6_next (va_Pc [.ref (ad 1), .int p0] (pv_P D cI cZ ad σ)) (pv_QI D cI cZ ad R0) 0 0 (pv_A ad) := x_met (by decide) rfl hJ (Nat.le_of_ble_eq_true rfl) (fun p e s m args below meth c C hr => w_X6_next_0 C hr R0 p0 σ h)
abbrev r_X6_has : Room := { frames := 0, cells := 0, slots := 0, locals := 0 }
set_option maxRecDepth 100000 in
set_option maxHeartbeats 4000000 in
theorem w_X6_has_0 {p : Program} {l : Launch} {e : Env} {s : State} {m : MethodId} {args : Array Value} {below : List Frame} {meth : Method} {c : Code} {D : va_G} {cI cZ : ClassId} {ad : Nat → Nat} (C : pv_C p s m args meth c cX6_has 2 RX6 D cI cZ ad (pv_A ad)) (hr : meth.sig.returnType = some .boolean) (R0 : (Int32 × pv_S)) (p0 : Int32) (σ : pv_S) (h : f_X6_has p0 σ = some R0) : Wx p l e r_X6_has s m args below meth c 0 0 (MQ below (pv_QI D cI cZ ad R0) args s 0 0 (pv_A ad)) 2 D cI cZ ad (pv_A ad) 0 [(0, .ref (ad 1)), (1, .int p0)] [] σ := by
  unfold f_X6_has at h
  refine x_iload_n C dX6_has_0 rfl 1 rfl ?_
  refine x_if_lt C 24 dX6_has_1 (by decide) (fun c1 => ?_) (fun c1 => ?_)
  · have h := (if_pos c1).symm.trans h
    refine x_iconst (v := 0) C dX6_has_24 (by decide) ?_
    exact x_zret C hr rfl dX6_has_25 (Option.some.inj h)
  · have h := (if_neg c1).symm.trans h
    refine x_iload_n C dX6_has_4 rfl 1 rfl ?_
    refine x_bipush (v := 10) C dX6_has_5 (by decide) ?_
    refine x_icmp_ge C 24 dX6_has_7 (by decide) (fun c2 => ?_) (fun c2 => ?_)
    · have h := (if_pos c2).symm.trans h
      refine x_iconst (v := 0) C dX6_has_24 (by decide) ?_
      exact x_zret C hr rfl dX6_has_25 (Option.some.inj h)
    · have h := (if_neg c2).symm.trans h
      refine x_iload_n C dX6_has_10 rfl 1 rfl ?_
      refine x_aload_n C dX6_has_11 rfl 0 rfl ?_
      refine xg_X6_11 C dX6_has_12 ?_
      refine x_iconst (v := 0) C dX6_has_15 (by decide) ?_
      obtain ⟨g3, h⟩ := gd_some h
      refine xl_0 C g3 dX6_has_16 ?_
      refine x_icmp_ge C 24 dX6_has_17 (by decide) (fun c4 => ?_) (fun c4 => ?_)
      · have h := (if_pos c4).symm.trans h
        refine x_iconst (v := 0) C dX6_has_24 (by decide) ?_
        exact x_zret C hr rfl dX6_has_25 (Option.some.inj h)
      · have h := (if_neg c4).symm.trans h
        refine x_iconst (v := 1) C dX6_has_20 (by decide) ?_
        refine x_goto C 25 dX6_has_21 (by decide) ?_
        exact x_zret C hr rfl dX6_has_25 (Option.some.inj h)
theorem m_X6_has (l : Launch) (D : va_G) (cI cZ : ClassId) (ad : Nat → Nat) (hJ : pv_J ad) (p0 : Int32) (σ : pv_S) (R0 : (Int32 × pv_S)) (h : f_X6_has p0 σ = some R0) : Met l yX6_has (Cond.code yX6_has cX6_has 2 (some .boolean) :: lwG) r_X6_has (va_Pc [.ref (ad 1), .int p0] (pv_P D cI cZ ad σ)) (pv_QI D cI cZ ad R0) 0 0 (pv_A ad) := x_met (by decide) rfl hJ (Nat.le_of_ble_eq_true rfl) (fun p e s m args below meth c C hr => w_X6_has_0 C hr R0 p0 σ h)
abbrev r_X4_read : Room := { frames := 2, cells := 0, slots := 0, locals := 43 }
set_option maxRecDepth 100000 in
set_option maxHeartbeats 4000000 in
theorem w_X4_read_109 {p : Program} {l : Launch} {e : Env} {s : State} {m : MethodId} {args : Array Value} {below : List Frame} {meth : Method} {c : Code} {D : va_G} {cI cZ : ClassId} {ad : Nat → Nat} (C : pv_C p s m args meth c cX4_read 3 RX4 D cI cZ ad (pv_A ad)) (hr : meth.sig.returnType = none) (R0 : pv_S) (K61 : Int32 → pv_S → Option pv_S) (hK61 : ∀ (v1 : Int32) (σ : pv_S), K61 v1 σ = some R0 → Wx p l e r_X4_read s m args below meth c 0 0 (MQ below (pv_QV D cI cZ ad R0) args s 0 0 (pv_A ad)) 3 D cI cZ ad (pv_A ad) 61 [(0, .ref (ad 2)), (1, .int v1)] [] σ) (v1 : Int32) (σ : pv_S) (h : f_X4_read_109 K61 v1 σ = some R0) : Wx p l e r_X4_read s m args below meth c 0 0 (MQ below (pv_QV D cI cZ ad R0) args s 0 0 (pv_A ad)) 3 D cI cZ ad (pv_A ad) 109 [(0, .ref (ad 2)), (1, .int v1)] [] σ := by
  unfold f_X4_read_109 at h
  refine x_aload_n C dX4_read_109 rfl 0 rfl ?_
  refine xg_X4_15 C dX4_read_110 ?_
  refine x_iload_n C dX4_read_113 rfl 1 rfl ?_
  refine x_aload_n C dX4_read_114 rfl 0 rfl ?_
  refine xg_X4_42 C dX4_read_115 ?_
  obtain ⟨g1, h⟩ := gd_some h
  refine xs_2 C g1 dX4_read_118 ?_
  refine x_aload_n C dX4_read_119 rfl 0 rfl ?_
  refine x_dup C dX4_read_120 rfl ?_
  refine xg_X4_42 C dX4_read_121 ?_
  refine x_iconst (v := 1) C dX4_read_124 (by decide) ?_
  refine x_iadd C dX4_read_125 ?_
  refine xp_X4_42 C dX4_read_126 ?_
  refine x_iinc (v := (v1 + 1)) (lv' := [(1, .int (v1 + 1)), (0, .ref (ad 2))]) C 1 dX4_read_129 rfl rfl (by decide) rfl ?_
  refine x_goto C 61 dX4_read_132 (by decide) ?_
  refine x_sub [1, 0] rfl ?_
  exact hK61 (v1 + 1) (pv_pi (pv_sa σ 2 v1 (σ.1 1)) 1 (((pv_sa σ 2 v1 (σ.1 1)).1 1) + 1)) h
set_option maxRecDepth 100000 in
set_option maxHeartbeats 4000000 in
theorem w_X4_read_61 {p : Program} {l : Launch} {e : Env} {s : State} {m : MethodId} {args : Array Value} {below : List Frame} {meth : Method} {c : Code} {D : va_G} {cI cZ : ClassId} {ad : Nat → Nat} (C : pv_C p s m args meth c cX4_read 3 RX4 D cI cZ ad (pv_A ad)) (hr : meth.sig.returnType = none) (R0 : pv_S) : ∀ (n : Nat) (v1 : Int32) (σ : pv_S), f_X4_read_61 n v1 σ = some R0 → Wx p l e r_X4_read s m args below meth c 0 0 (MQ below (pv_QV D cI cZ ad R0) args s 0 0 (pv_A ad)) 3 D cI cZ ad (pv_A ad) 61 [(0, .ref (ad 2)), (1, .int v1)] [] σ := by
  intro n
  induction n with
  | zero =>
    intro v1 σ h
    have h2 : (none : Option pv_S) = some R0 := h
    cases h2
  | succ n ih =>
    intro v1 σ h
    unfold f_X4_read_61 at h
    refine x_iload_n C dX4_read_61 rfl 1 rfl ?_
    refine x_aload_n C dX4_read_62 rfl 0 rfl ?_
    refine xg_X4_18 C dX4_read_63 ?_
    obtain ⟨q1, eq1, h⟩ := gb_some h
    refine x_vi (st := [.int v1]) C kY_X6_count 1 6 rfl rfl rfl (m_X6_count l D cI cZ ad C.2.2.2.2.2.2.1 σ q1 eq1) kl_X4_28 ⟨rfl, rfl⟩ ⟨Nat.le_of_ble_eq_true rfl, Nat.le_of_ble_eq_true rfl⟩ ⟨Nat.zero_le _, Nat.zero_le _⟩ rfl rfl (Nat.le_of_ble_eq_true rfl) dX4_read_66 ?_
    refine x_icmp_ge C 135 dX4_read_69 (by decide) (fun c2 => ?_) (fun c2 => ?_)
    · have h := (if_pos c2).symm.trans h
      exact x_vret C hr dX4_read_135 (Option.some.inj h)
    · have h := (if_neg c2).symm.trans h
      refine x_iload_n C dX4_read_72 rfl 1 rfl ?_
      refine x_bipush (v := 10) C dX4_read_73 (by decide) ?_
      refine x_icmp_ge C 135 dX4_read_75 (by decide) (fun c3 => ?_) (fun c3 => ?_)
      · have h := (if_pos c3).symm.trans h
        exact x_vret C hr dX4_read_135 (Option.some.inj h)
      · have h := (if_neg c3).symm.trans h
        refine x_aload_n C dX4_read_78 rfl 0 rfl ?_
        refine xg_X4_9 C dX4_read_79 ?_
        refine x_iload_n C dX4_read_82 rfl 1 rfl ?_
        obtain ⟨g4, h⟩ := gd_some h
        refine xl_1 C g4 dX4_read_83 ?_
        refine x_istore_n (lv' := [(2, .int (pv_la q1.2 1 v1)), (0, .ref (ad 2)), (1, .int v1)]) C dX4_read_84 rfl (by decide) rfl ?_
        refine x_iload_n C dX4_read_85 rfl 0 rfl ?_
        refine x_if_lt C 109 dX4_read_86 (by decide) (fun c5 => ?_) (fun c5 => ?_)
        · have h := (if_pos c5).symm.trans h
          refine x_sub [1, 2] rfl ?_
          exact w_X4_read_109 C hr R0 (f_X4_read_61 n) ih v1 q1.2 h
        · have h := (if_neg c5).symm.trans h
          refine x_iload_n C dX4_read_89 rfl 0 rfl ?_
          refine x_iload_n C dX4_read_90 rfl 2 rfl ?_
          refine x_icmp_ge C 109 dX4_read_91 (by decide) (fun c6 => ?_) (fun c6 => ?_)
          · have h := (if_pos c6).symm.trans h
            refine x_sub [1, 2] rfl ?_
            exact w_X4_read_109 C hr R0 (f_X4_read_61 n) ih v1 q1.2 h
          · have h := (if_neg c6).symm.trans h
            refine x_aload_n C dX4_read_94 rfl 1 rfl ?_
            refine xg_X4_15 C dX4_read_95 ?_
            refine x_iload_n C dX4_read_98 rfl 2 rfl ?_
            refine x_aload_n C dX4_read_99 rfl 1 rfl ?_
            refine xg_X4_15 C dX4_read_100 ?_
            refine x_iload_n C dX4_read_103 rfl 0 rfl ?_
            obtain ⟨g7, h⟩ := gd_some h
            refine xl_2 C g7 dX4_read_104 ?_
            obtain ⟨g8, h⟩ := gd_some h
            refine xs_2 C g8 dX4_read_105 ?_
            refine x_goto C 129 dX4_read_106 (by decide) ?_
            refine x_iinc (v := (v1 + 1)) (lv' := [(1, .int (v1 + 1)), (2, .int (pv_la q1.2 1 v1)), (0, .ref (ad 2))]) C 2 dX4_read_129 rfl rfl (by decide) rfl ?_
            refine x_goto C 61 dX4_read_132 (by decide) ?_
            refine x_sub [2, 0] rfl ?_
            exact ih (v1 + 1) (pv_sa q1.2 2 v1 (pv_la q1.2 2 (pv_la q1.2 1 v1))) h
set_option maxRecDepth 100000 in
set_option maxHeartbeats 4000000 in
theorem w_X4_read_10 {p : Program} {l : Launch} {e : Env} {s : State} {m : MethodId} {args : Array Value} {below : List Frame} {meth : Method} {c : Code} {D : va_G} {cI cZ : ClassId} {ad : Nat → Nat} (C : pv_C p s m args meth c cX4_read 3 RX4 D cI cZ ad (pv_A ad)) (hr : meth.sig.returnType = none) (R0 : pv_S) : ∀ (n : Nat) (v1 : Int32) (σ : pv_S), f_X4_read_10 n v1 σ = some R0 → Wx p l e r_X4_read s m args below meth c 0 0 (MQ below (pv_QV D cI cZ ad R0) args s 0 0 (pv_A ad)) 3 D cI cZ ad (pv_A ad) 10 [(0, .ref (ad 2)), (1, .int v1)] [] σ := by
  intro n
  induction n with
  | zero =>
    intro v1 σ h
    have h2 : (none : Option pv_S) = some R0 := h
    cases h2
  | succ n ih =>
    intro v1 σ h
    unfold f_X4_read_10 at h
    refine x_iload_n C dX4_read_10 rfl 1 rfl ?_
    refine x_aload_n C dX4_read_11 rfl 0 rfl ?_
    refine xg_X4_18 C dX4_read_12 ?_
    obtain ⟨q1, eq1, h⟩ := gb_some h
    refine x_vi (st := [.int v1]) C kY_X6_count 1 6 rfl rfl rfl (m_X6_count l D cI cZ ad C.2.2.2.2.2.2.1 σ q1 eq1) kl_X4_28 ⟨rfl, rfl⟩ ⟨Nat.le_of_ble_eq_true rfl, Nat.le_of_ble_eq_true rfl⟩ ⟨Nat.zero_le _, Nat.zero_le _⟩ rfl rfl (Nat.le_of_ble_eq_true rfl) dX4_read_15 ?_
    refine x_icmp_ge C 54 dX4_read_18 (by decide) (fun c2 => ?_) (fun c2 => ?_)
    · have h := (if_pos c2).symm.trans h
      refine x_aload_n C dX4_read_54 rfl 0 rfl ?_
      refine x_iconst (v := 0) C dX4_read_55 (by decide) ?_
      refine xp_X4_42 C dX4_read_56 ?_
      refine x_iconst (v := 0) C dX4_read_59 (by decide) ?_
      refine x_istore_n (lv' := [(1, .int 0), (0, .ref (ad 2))]) C dX4_read_60 rfl (by decide) rfl ?_
      refine x_sub [1, 0] rfl ?_
      exact w_X4_read_61 C hr R0 pv_FU 0 (pv_pi q1.2 1 0) h
    · have h := (if_neg c2).symm.trans h
      refine x_aload_n C dX4_read_21 rfl 0 rfl ?_
      refine xg_X4_18 C dX4_read_22 ?_
      refine x_iload_n C dX4_read_25 rfl 1 rfl ?_
      obtain ⟨q3, eq3, h⟩ := gb_some h
      refine x_vi (st := []) C kY_X6_next 1 6 rfl rfl rfl (m_X6_next l D cI cZ ad C.2.2.2.2.2.2.1 v1 q1.2 q3 eq3) kl_X4_34 ⟨rfl, rfl⟩ ⟨Nat.le_of_ble_eq_true rfl, Nat.le_of_ble_eq_true rfl⟩ ⟨Nat.zero_le _, Nat.zero_le _⟩ rfl rfl (Nat.le_of_ble_eq_true rfl) dX4_read_26 ?_
      refine x_istore_n (lv' := [(2, .int q3.1), (0, .ref (ad 2)), (1, .int v1)]) C dX4_read_29 rfl (by decide) rfl ?_
      refine x_aload_n C dX4_read_30 rfl 1 rfl ?_
      refine xg_X4_18 C dX4_read_31 ?_
      refine x_iload_n C dX4_read_34 rfl 0 rfl ?_
      obtain ⟨q4, eq4, h⟩ := gb_some h
      refine x_vi (st := []) C kY_X6_has 1 6 rfl rfl rfl (m_X6_has l D cI cZ ad C.2.2.2.2.2.2.1 q3.1 q3.2 q4 eq4) kl_X4_38 ⟨rfl, rfl⟩ ⟨Nat.le_of_ble_eq_true rfl, Nat.le_of_ble_eq_true rfl⟩ ⟨Nat.zero_le _, Nat.zero_le _⟩ rfl rfl (Nat.le_of_ble_eq_true rfl) dX4_read_35 ?_
      refine x_if_eq C 48 dX4_read_38 (by decide) (fun c5 => ?_) (fun c5 => ?_)
      · have h := (if_pos c5).symm.trans h
        refine x_iinc (v := (v1 + 1)) (lv' := [(1, .int (v1 + 1)), (2, .int q3.1), (0, .ref (ad 2))]) C 2 dX4_read_48 rfl rfl (by decide) rfl ?_
        refine x_goto C 10 dX4_read_51 (by decide) ?_
        refine x_sub [2, 0] rfl ?_
        exact ih (v1 + 1) q4.2 h
      · have h := (if_neg c5).symm.trans h
        refine x_aload_n C dX4_read_41 rfl 1 rfl ?_
        refine xg_X4_9 C dX4_read_42 ?_
        refine x_iload_n C dX4_read_45 rfl 0 rfl ?_
        refine x_iload_n C dX4_read_46 rfl 2 rfl ?_
        obtain ⟨g6, h⟩ := gd_some h
        refine xs_1 C g6 dX4_read_47 ?_
        refine x_iinc (v := (v1 + 1)) (lv' := [(1, .int (v1 + 1)), (2, .int q3.1), (0, .ref (ad 2))]) C 2 dX4_read_48 rfl rfl (by decide) rfl ?_
        refine x_goto C 10 dX4_read_51 (by decide) ?_
        refine x_sub [2, 0] rfl ?_
        exact ih (v1 + 1) (pv_sa q4.2 1 q3.1 v1) h
set_option maxRecDepth 100000 in
set_option maxHeartbeats 4000000 in
theorem w_X4_read_0 {p : Program} {l : Launch} {e : Env} {s : State} {m : MethodId} {args : Array Value} {below : List Frame} {meth : Method} {c : Code} {D : va_G} {cI cZ : ClassId} {ad : Nat → Nat} (C : pv_C p s m args meth c cX4_read 3 RX4 D cI cZ ad (pv_A ad)) (hr : meth.sig.returnType = none) (R0 : pv_S) (σ : pv_S) (h : f_X4_read σ = some R0) : Wx p l e r_X4_read s m args below meth c 0 0 (MQ below (pv_QV D cI cZ ad R0) args s 0 0 (pv_A ad)) 3 D cI cZ ad (pv_A ad) 0 [(0, .ref (ad 2))] [] σ := by
  unfold f_X4_read at h
  refine x_aload_n C dX4_read_0 rfl 0 rfl ?_
  refine xg_X4_9 C dX4_read_1 ?_
  refine x_iconst (v := (-1)) C dX4_read_4 (by decide) ?_
  obtain ⟨q1, eq1, h⟩ := gb_some h
  refine x_sv (st := []) C kY_J7_fill_53178 (m_J7_fill_53178_10 l D cI cZ ad C.2.2.2.2.2.2.1 (-1) σ q1 eq1) kl_X4_22 ⟨rfl, rfl⟩ ⟨Nat.le_of_ble_eq_true rfl, Nat.le_of_ble_eq_true rfl⟩ ⟨Nat.zero_le _, Nat.zero_le _⟩ rfl rfl (Nat.le_of_ble_eq_true rfl) dX4_read_5 ?_
  refine x_iconst (v := 0) C dX4_read_8 (by decide) ?_
  refine x_istore_n (lv' := [(1, .int 0), (0, .ref (ad 2))]) C dX4_read_9 rfl (by decide) rfl ?_
  refine x_sub [1, 0] rfl ?_
  exact w_X4_read_10 C hr R0 pv_FU 0 q1 h
theorem m_X4_read (l : Launch) (D : va_G) (cI cZ : ClassId) (ad : Nat → Nat) (hJ : pv_J ad)  (σ : pv_S) (R0 : pv_S) (h : f_X4_read σ = some R0) : Met l yX4_read (Cond.code yX4_read cX4_read 3 (none) :: lwG) r_X4_read (va_Pc [.ref (ad 2)] (pv_P D cI cZ ad σ)) (pv_QV D cI cZ ad R0) 0 0 (pv_A ad) := x_met (by decide) rfl hJ (Nat.le_of_ble_eq_true rfl) (fun p e s m args below meth c C hr => w_X4_read_0 C hr R0 σ h)
abbrev r_X7_standing : Room := { frames := 3, cells := 0, slots := 0, locals := 65 }
set_option maxRecDepth 100000 in
set_option maxHeartbeats 4000000 in
theorem w_X7_standing_0 {p : Program} {l : Launch} {e : Env} {s : State} {m : MethodId} {args : Array Value} {below : List Frame} {meth : Method} {c : Code} {D : va_G} {cI cZ : ClassId} {ad : Nat → Nat} (C : pv_C p s m args meth c cX7_standing 1 RX7 D cI cZ ad (pv_A ad)) (hr : meth.sig.returnType = some ((.object "PartedVoices$Lines"))) (R0 : pv_S) (σ : pv_S) (h : f_X7_standing σ = some R0) : Wx p l e r_X7_standing s m args below meth c 0 0 (MQ below (pv_QR D cI cZ ad (ad 2) R0) args s 0 0 (pv_A ad)) 1 D cI cZ ad (pv_A ad) 0 [(0, .ref (ad 0))] [] σ := by
  unfold f_X7_standing at h
  refine x_aload_n C dX7_standing_0 rfl 0 rfl ?_
  refine xg_X7_21 C dX7_standing_1 ?_
  obtain ⟨q1, eq1, h⟩ := gb_some h
  refine x_vv (st := []) C kY_X4_read 2 4 rfl rfl rfl (m_X4_read l D cI cZ ad C.2.2.2.2.2.2.1 σ q1 eq1) kl_X7_250 ⟨rfl, rfl⟩ ⟨Nat.le_of_ble_eq_true rfl, Nat.le_of_ble_eq_true rfl⟩ ⟨Nat.zero_le _, Nat.zero_le _⟩ rfl rfl (Nat.le_of_ble_eq_true rfl) dX7_standing_4 ?_
  refine x_aload_n C dX7_standing_7 rfl 0 rfl ?_
  refine xg_X7_21 C dX7_standing_8 ?_
  exact x_aret C hr dX7_standing_11 (Option.some.inj h)
theorem m_X7_standing (l : Launch) (D : va_G) (cI cZ : ClassId) (ad : Nat → Nat) (hJ : pv_J ad)  (σ : pv_S) (R0 : pv_S) (h : f_X7_standing σ = some R0) : Met l yX7_standing (Cond.code yX7_standing cX7_standing 1 (some ((.object "PartedVoices$Lines"))) :: lwG) r_X7_standing (va_Pc [.ref (ad 0)] (pv_P D cI cZ ad σ)) (pv_QR D cI cZ ad (ad 2) R0) 0 0 (pv_A ad) := x_met (by decide) rfl hJ (Nat.le_of_ble_eq_true rfl) (fun p e s m args below meth c C hr => w_X7_standing_0 C hr R0 σ h)
abbrev r_X4_countVoices : Room := { frames := 0, cells := 0, slots := 0, locals := 0 }
set_option maxRecDepth 100000 in
set_option maxHeartbeats 4000000 in
theorem w_X4_countVoices_0 {p : Program} {l : Launch} {e : Env} {s : State} {m : MethodId} {args : Array Value} {below : List Frame} {meth : Method} {c : Code} {D : va_G} {cI cZ : ClassId} {ad : Nat → Nat} (C : pv_C p s m args meth c cX4_countVoices 1 RX4 D cI cZ ad (pv_A ad)) (hr : meth.sig.returnType = some .int) (R0 : (Int32 × pv_S)) (σ : pv_S) (h : f_X4_countVoices σ = some R0) : Wx p l e r_X4_countVoices s m args below meth c 0 0 (MQ below (pv_QI D cI cZ ad R0) args s 0 0 (pv_A ad)) 1 D cI cZ ad (pv_A ad) 0 [(0, .ref (ad 2))] [] σ := by
  unfold f_X4_countVoices at h
  refine x_aload_n C dX4_countVoices_0 rfl 0 rfl ?_
  refine xg_X4_42 C dX4_countVoices_1 ?_
  exact x_iret C hr dX4_countVoices_4 (Option.some.inj h)
theorem m_X4_countVoices (l : Launch) (D : va_G) (cI cZ : ClassId) (ad : Nat → Nat) (hJ : pv_J ad)  (σ : pv_S) (R0 : (Int32 × pv_S)) (h : f_X4_countVoices σ = some R0) : Met l yX4_countVoices (Cond.code yX4_countVoices cX4_countVoices 1 (some .int) :: lwG) r_X4_countVoices (va_Pc [.ref (ad 2)] (pv_P D cI cZ ad σ)) (pv_QI D cI cZ ad R0) 0 0 (pv_A ad) := x_met (by decide) rfl hJ (Nat.le_of_ble_eq_true rfl) (fun p e s m args below meth c C hr => w_X4_countVoices_0 C hr R0 σ h)
abbrev r_X6_valueOf : Room := { frames := 0, cells := 0, slots := 0, locals := 0 }
set_option maxRecDepth 100000 in
set_option maxHeartbeats 4000000 in
theorem w_X6_valueOf_0 {p : Program} {l : Launch} {e : Env} {s : State} {m : MethodId} {args : Array Value} {below : List Frame} {meth : Method} {c : Code} {D : va_G} {cI cZ : ClassId} {ad : Nat → Nat} (C : pv_C p s m args meth c cX6_valueOf 2 RX6 D cI cZ ad (pv_A ad)) (hr : meth.sig.returnType = some .int) (R0 : (Int32 × pv_S)) (p0 : Int32) (σ : pv_S) (h : f_X6_valueOf p0 σ = some R0) : Wx p l e r_X6_valueOf s m args below meth c 0 0 (MQ below (pv_QI D cI cZ ad R0) args s 0 0 (pv_A ad)) 2 D cI cZ ad (pv_A ad) 0 [(0, .ref (ad 1)), (1, .int p0)] [] σ := by
  unfold f_X6_valueOf at h
  refine x_iload_n C dX6_valueOf_0 rfl 1 rfl ?_
  refine x_if_lt C 20 dX6_valueOf_1 (by decide) (fun c1 => ?_) (fun c1 => ?_)
  · have h := (if_pos c1).symm.trans h
    refine x_iconst (v := (-1)) C dX6_valueOf_20 (by decide) ?_
    exact x_iret C hr dX6_valueOf_21 (Option.some.inj h)
  · have h := (if_neg c1).symm.trans h
    refine x_iload_n C dX6_valueOf_4 rfl 1 rfl ?_
    refine x_iconst (v := 5) C dX6_valueOf_5 (by decide) ?_
    refine x_icmp_ge C 20 dX6_valueOf_6 (by decide) (fun c2 => ?_) (fun c2 => ?_)
    · have h := (if_pos c2).symm.trans h
      refine x_iconst (v := (-1)) C dX6_valueOf_20 (by decide) ?_
      exact x_iret C hr dX6_valueOf_21 (Option.some.inj h)
    · have h := (if_neg c2).symm.trans h
      refine x_aload_n C dX6_valueOf_9 rfl 0 rfl ?_
      refine xg_X6_11 C dX6_valueOf_10 ?_
      refine x_iconst (v := 1) C dX6_valueOf_13 (by decide) ?_
      refine x_iload_n C dX6_valueOf_14 rfl 1 rfl ?_
      refine x_iadd C dX6_valueOf_15 ?_
      obtain ⟨g3, h⟩ := gd_some h
      refine xl_0 C g3 dX6_valueOf_16 ?_
      refine x_goto C 21 dX6_valueOf_17 (by decide) ?_
      exact x_iret C hr dX6_valueOf_21 (Option.some.inj h)
theorem m_X6_valueOf (l : Launch) (D : va_G) (cI cZ : ClassId) (ad : Nat → Nat) (hJ : pv_J ad) (p0 : Int32) (σ : pv_S) (R0 : (Int32 × pv_S)) (h : f_X6_valueOf p0 σ = some R0) : Met l yX6_valueOf (Cond.code yX6_valueOf cX6_valueOf 2 (some .int) :: lwG) r_X6_valueOf (va_Pc [.ref (ad 1), .int p0] (pv_P D cI cZ ad σ)) (pv_QI D cI cZ ad R0) 0 0 (pv_A ad) := x_met (by decide) rfl hJ (Nat.le_of_ble_eq_true rfl) (fun p e s m args below meth c C hr => w_X6_valueOf_0 C hr R0 p0 σ h)
abbrev r_X6_on : Room := { frames := 1, cells := 0, slots := 0, locals := 22 }
set_option maxRecDepth 100000 in
set_option maxHeartbeats 4000000 in
theorem w_X6_on_0 {p : Program} {l : Launch} {e : Env} {s : State} {m : MethodId} {args : Array Value} {below : List Frame} {meth : Method} {c : Code} {D : va_G} {cI cZ : ClassId} {ad : Nat → Nat} (C : pv_C p s m args meth c cX6_on 2 RX6 D cI cZ ad (pv_A ad)) (hr : meth.sig.returnType = some .int) (R0 : (Int32 × pv_S)) (p0 : Int32) (σ : pv_S) (h : f_X6_on p0 σ = some R0) : Wx p l e r_X6_on s m args below meth c 0 0 (MQ below (pv_QI D cI cZ ad R0) args s 0 0 (pv_A ad)) 2 D cI cZ ad (pv_A ad) 0 [(0, .ref (ad 1)), (1, .int p0)] [] σ := by
  unfold f_X6_on at h
  refine x_aload_n C dX6_on_0 rfl 0 rfl ?_
  refine x_iload_n C dX6_on_1 rfl 1 rfl ?_
  refine x_iconst (v := 0) C dX6_on_2 (by decide) ?_
  obtain ⟨q1, eq1, h⟩ := gb_some h
  refine x_vi (st := []) C kY_X6_cell 1 6 rfl rfl rfl (m_X6_cell l D cI cZ ad C.2.2.2.2.2.2.1 p0 0 σ q1 eq1) kl_X6_31 ⟨rfl, rfl⟩ ⟨Nat.le_of_ble_eq_true rfl, Nat.le_of_ble_eq_true rfl⟩ ⟨Nat.zero_le _, Nat.zero_le _⟩ rfl rfl (Nat.le_of_ble_eq_true rfl) dX6_on_3 ?_
  exact x_iret C hr dX6_on_6 (Option.some.inj h)
theorem m_X6_on (l : Launch) (D : va_G) (cI cZ : ClassId) (ad : Nat → Nat) (hJ : pv_J ad) (p0 : Int32) (σ : pv_S) (R0 : (Int32 × pv_S)) (h : f_X6_on p0 σ = some R0) : Met l yX6_on (Cond.code yX6_on cX6_on 2 (some .int) :: lwG) r_X6_on (va_Pc [.ref (ad 1), .int p0] (pv_P D cI cZ ad σ)) (pv_QI D cI cZ ad R0) 0 0 (pv_A ad) := x_met (by decide) rfl hJ (Nat.le_of_ble_eq_true rfl) (fun p e s m args below meth c C hr => w_X6_on_0 C hr R0 p0 σ h)
abbrev r_X6_off : Room := { frames := 1, cells := 0, slots := 0, locals := 22 }
set_option maxRecDepth 100000 in
set_option maxHeartbeats 4000000 in
theorem w_X6_off_0 {p : Program} {l : Launch} {e : Env} {s : State} {m : MethodId} {args : Array Value} {below : List Frame} {meth : Method} {c : Code} {D : va_G} {cI cZ : ClassId} {ad : Nat → Nat} (C : pv_C p s m args meth c cX6_off 2 RX6 D cI cZ ad (pv_A ad)) (hr : meth.sig.returnType = some .int) (R0 : (Int32 × pv_S)) (p0 : Int32) (σ : pv_S) (h : f_X6_off p0 σ = some R0) : Wx p l e r_X6_off s m args below meth c 0 0 (MQ below (pv_QI D cI cZ ad R0) args s 0 0 (pv_A ad)) 2 D cI cZ ad (pv_A ad) 0 [(0, .ref (ad 1)), (1, .int p0)] [] σ := by
  unfold f_X6_off at h
  refine x_aload_n C dX6_off_0 rfl 0 rfl ?_
  refine x_iload_n C dX6_off_1 rfl 1 rfl ?_
  refine x_iconst (v := 0) C dX6_off_2 (by decide) ?_
  obtain ⟨q1, eq1, h⟩ := gb_some h
  refine x_vi (st := []) C kY_X6_cell 1 6 rfl rfl rfl (m_X6_cell l D cI cZ ad C.2.2.2.2.2.2.1 p0 0 σ q1 eq1) kl_X6_31 ⟨rfl, rfl⟩ ⟨Nat.le_of_ble_eq_true rfl, Nat.le_of_ble_eq_true rfl⟩ ⟨Nat.zero_le _, Nat.zero_le _⟩ rfl rfl (Nat.le_of_ble_eq_true rfl) dX6_off_3 ?_
  refine x_aload_n C dX6_off_6 rfl 0 rfl ?_
  refine x_iload_n C dX6_off_7 rfl 1 rfl ?_
  refine x_iconst (v := 1) C dX6_off_8 (by decide) ?_
  obtain ⟨q2, eq2, h⟩ := gb_some h
  refine x_vi (st := [.int q1.1]) C kY_X6_cell 1 6 rfl rfl rfl (m_X6_cell l D cI cZ ad C.2.2.2.2.2.2.1 p0 1 q1.2 q2 eq2) kl_X6_31 ⟨rfl, rfl⟩ ⟨Nat.le_of_ble_eq_true rfl, Nat.le_of_ble_eq_true rfl⟩ ⟨Nat.zero_le _, Nat.zero_le _⟩ rfl rfl (Nat.le_of_ble_eq_true rfl) dX6_off_9 ?_
  refine x_iadd C dX6_off_12 ?_
  exact x_iret C hr dX6_off_13 (Option.some.inj h)
theorem m_X6_off (l : Launch) (D : va_G) (cI cZ : ClassId) (ad : Nat → Nat) (hJ : pv_J ad) (p0 : Int32) (σ : pv_S) (R0 : (Int32 × pv_S)) (h : f_X6_off p0 σ = some R0) : Met l yX6_off (Cond.code yX6_off cX6_off 2 (some .int) :: lwG) r_X6_off (va_Pc [.ref (ad 1), .int p0] (pv_P D cI cZ ad σ)) (pv_QI D cI cZ ad R0) 0 0 (pv_A ad) := x_met (by decide) rfl hJ (Nat.le_of_ble_eq_true rfl) (fun p e s m args below meth c C hr => w_X6_off_0 C hr R0 p0 σ h)
abbrev r_X6_mayFollow : Room := { frames := 2, cells := 0, slots := 0, locals := 43 }
set_option maxRecDepth 100000 in
set_option maxHeartbeats 4000000 in
theorem w_X6_mayFollow_0 {p : Program} {l : Launch} {e : Env} {s : State} {m : MethodId} {args : Array Value} {below : List Frame} {meth : Method} {c : Code} {D : va_G} {cI cZ : ClassId} {ad : Nat → Nat} (C : pv_C p s m args meth c cX6_mayFollow 4 RX6 D cI cZ ad (pv_A ad)) (hr : meth.sig.returnType = some .boolean) (R0 : (Int32 × pv_S)) (p0 : Int32) (p1 : Int32) (σ : pv_S) (h : f_X6_mayFollow p0 p1 σ = some R0) : Wx p l e r_X6_mayFollow s m args below meth c 0 0 (MQ below (pv_QI D cI cZ ad R0) args s 0 0 (pv_A ad)) 4 D cI cZ ad (pv_A ad) 0 [(0, .ref (ad 1)), (1, .int p0), (2, .int p1)] [] σ := by
  unfold f_X6_mayFollow at h
  refine x_aload_n C dX6_mayFollow_0 rfl 0 rfl ?_
  refine x_iload_n C dX6_mayFollow_1 rfl 1 rfl ?_
  obtain ⟨q1, eq1, h⟩ := gb_some h
  refine x_vi (st := []) C kY_X6_has 1 6 rfl rfl rfl (m_X6_has l D cI cZ ad C.2.2.2.2.2.2.1 p0 σ q1 eq1) kl_X6_42 ⟨rfl, rfl⟩ ⟨Nat.le_of_ble_eq_true rfl, Nat.le_of_ble_eq_true rfl⟩ ⟨Nat.zero_le _, Nat.zero_le _⟩ rfl rfl (Nat.le_of_ble_eq_true rfl) dX6_mayFollow_2 ?_
  refine x_if_eq C 16 dX6_mayFollow_5 (by decide) (fun c2 => ?_) (fun c2 => ?_)
  · have h := (if_pos c2).symm.trans h
    refine x_iconst (v := 0) C dX6_mayFollow_16 (by decide) ?_
    exact x_zret C hr rfl dX6_mayFollow_17 (Option.some.inj h)
  · have h := (if_neg c2).symm.trans h
    refine x_aload_n C dX6_mayFollow_8 rfl 0 rfl ?_
    refine x_iload_n C dX6_mayFollow_9 rfl 2 rfl ?_
    obtain ⟨q3, eq3, h⟩ := gb_some h
    refine x_vi (st := []) C kY_X6_has 1 6 rfl rfl rfl (m_X6_has l D cI cZ ad C.2.2.2.2.2.2.1 p1 q1.2 q3 eq3) kl_X6_42 ⟨rfl, rfl⟩ ⟨Nat.le_of_ble_eq_true rfl, Nat.le_of_ble_eq_true rfl⟩ ⟨Nat.zero_le _, Nat.zero_le _⟩ rfl rfl (Nat.le_of_ble_eq_true rfl) dX6_mayFollow_10 ?_
    refine x_if_ne C 18 dX6_mayFollow_13 (by decide) (fun c4 => ?_) (fun c4 => ?_)
    · have h := (if_neg c4).symm.trans h
      refine x_aload_n C dX6_mayFollow_18 rfl 0 rfl ?_
      refine x_iload_n C dX6_mayFollow_19 rfl 2 rfl ?_
      obtain ⟨q5, eq5, h⟩ := gb_some h
      refine x_vi (st := []) C kY_X6_on 1 6 rfl rfl rfl (m_X6_on l D cI cZ ad C.2.2.2.2.2.2.1 p1 q3.2 q5 eq5) kl_X6_46 ⟨rfl, rfl⟩ ⟨Nat.le_of_ble_eq_true rfl, Nat.le_of_ble_eq_true rfl⟩ ⟨Nat.zero_le _, Nat.zero_le _⟩ rfl rfl (Nat.le_of_ble_eq_true rfl) dX6_mayFollow_20 ?_
      refine x_aload_n C dX6_mayFollow_23 rfl 0 rfl ?_
      refine x_iload_n C dX6_mayFollow_24 rfl 1 rfl ?_
      obtain ⟨q6, eq6, h⟩ := gb_some h
      refine x_vi (st := [.int q5.1]) C kY_X6_off 1 6 rfl rfl rfl (m_X6_off l D cI cZ ad C.2.2.2.2.2.2.1 p0 q5.2 q6 eq6) kl_X6_49 ⟨rfl, rfl⟩ ⟨Nat.le_of_ble_eq_true rfl, Nat.le_of_ble_eq_true rfl⟩ ⟨Nat.zero_le _, Nat.zero_le _⟩ rfl rfl (Nat.le_of_ble_eq_true rfl) dX6_mayFollow_25 ?_
      refine x_isub C dX6_mayFollow_28 ?_
      refine x_istore_n (lv' := [(3, .int (q5.1 - q6.1)), (0, .ref (ad 1)), (1, .int p0), (2, .int p1)]) C dX6_mayFollow_29 rfl (by decide) rfl ?_
      refine x_iload_n C dX6_mayFollow_30 rfl 0 rfl ?_
      refine x_if_lt C 47 dX6_mayFollow_31 (by decide) (fun c7 => ?_) (fun c7 => ?_)
      · have h := (if_pos c7).symm.trans h
        refine x_iconst (v := 0) C dX6_mayFollow_47 (by decide) ?_
        exact x_zret C hr rfl dX6_mayFollow_48 (Option.some.inj h)
      · have h := (if_neg c7).symm.trans h
        refine x_iload_n C dX6_mayFollow_34 rfl 0 rfl ?_
        refine x_aload_n C dX6_mayFollow_35 rfl 1 rfl ?_
        refine x_iconst (v := 4) C dX6_mayFollow_36 (by decide) ?_
        obtain ⟨q8, eq8, h⟩ := gb_some h
        refine x_vi (st := [.int (q5.1 - q6.1)]) C kY_X6_valueOf 1 6 rfl rfl rfl (m_X6_valueOf l D cI cZ ad C.2.2.2.2.2.2.1 4 q6.2 q8 eq8) kl_X6_35 ⟨rfl, rfl⟩ ⟨Nat.le_of_ble_eq_true rfl, Nat.le_of_ble_eq_true rfl⟩ ⟨Nat.zero_le _, Nat.zero_le _⟩ rfl rfl (Nat.le_of_ble_eq_true rfl) dX6_mayFollow_37 ?_
        refine x_icmp_gt C 47 dX6_mayFollow_40 (by decide) (fun c9 => ?_) (fun c9 => ?_)
        · have h := (if_pos c9).symm.trans h
          refine x_iconst (v := 0) C dX6_mayFollow_47 (by decide) ?_
          exact x_zret C hr rfl dX6_mayFollow_48 (Option.some.inj h)
        · have h := (if_neg c9).symm.trans h
          refine x_iconst (v := 1) C dX6_mayFollow_43 (by decide) ?_
          refine x_goto C 48 dX6_mayFollow_44 (by decide) ?_
          exact x_zret C hr rfl dX6_mayFollow_48 (Option.some.inj h)
    · have h := (if_pos c4).symm.trans h
      refine x_iconst (v := 0) C dX6_mayFollow_16 (by decide) ?_
      exact x_zret C hr rfl dX6_mayFollow_17 (Option.some.inj h)
theorem m_X6_mayFollow (l : Launch) (D : va_G) (cI cZ : ClassId) (ad : Nat → Nat) (hJ : pv_J ad) (p0 : Int32) (p1 : Int32) (σ : pv_S) (R0 : (Int32 × pv_S)) (h : f_X6_mayFollow p0 p1 σ = some R0) : Met l yX6_mayFollow (Cond.code yX6_mayFollow cX6_mayFollow 4 (some .boolean) :: lwG) r_X6_mayFollow (va_Pc [.ref (ad 1), .int p0, .int p1] (pv_P D cI cZ ad σ)) (pv_QI D cI cZ ad R0) 0 0 (pv_A ad) := x_met (by decide) rfl hJ (Nat.le_of_ble_eq_true rfl) (fun p e s m args below meth c C hr => w_X6_mayFollow_0 C hr R0 p0 p1 σ h)
abbrev r_X6_pitch : Room := { frames := 1, cells := 0, slots := 0, locals := 22 }
set_option maxRecDepth 100000 in
set_option maxHeartbeats 4000000 in
theorem w_X6_pitch_0 {p : Program} {l : Launch} {e : Env} {s : State} {m : MethodId} {args : Array Value} {below : List Frame} {meth : Method} {c : Code} {D : va_G} {cI cZ : ClassId} {ad : Nat → Nat} (C : pv_C p s m args meth c cX6_pitch 2 RX6 D cI cZ ad (pv_A ad)) (hr : meth.sig.returnType = some .int) (R0 : (Int32 × pv_S)) (p0 : Int32) (σ : pv_S) (h : f_X6_pitch p0 σ = some R0) : Wx p l e r_X6_pitch s m args below meth c 0 0 (MQ below (pv_QI D cI cZ ad R0) args s 0 0 (pv_A ad)) 2 D cI cZ ad (pv_A ad) 0 [(0, .ref (ad 1)), (1, .int p0)] [] σ := by
  unfold f_X6_pitch at h
  refine x_aload_n C dX6_pitch_0 rfl 0 rfl ?_
  refine x_iload_n C dX6_pitch_1 rfl 1 rfl ?_
  refine x_iconst (v := 2) C dX6_pitch_2 (by decide) ?_
  obtain ⟨q1, eq1, h⟩ := gb_some h
  refine x_vi (st := []) C kY_X6_cell 1 6 rfl rfl rfl (m_X6_cell l D cI cZ ad C.2.2.2.2.2.2.1 p0 2 σ q1 eq1) kl_X6_31 ⟨rfl, rfl⟩ ⟨Nat.le_of_ble_eq_true rfl, Nat.le_of_ble_eq_true rfl⟩ ⟨Nat.zero_le _, Nat.zero_le _⟩ rfl rfl (Nat.le_of_ble_eq_true rfl) dX6_pitch_3 ?_
  exact x_iret C hr dX6_pitch_6 (Option.some.inj h)
theorem m_X6_pitch (l : Launch) (D : va_G) (cI cZ : ClassId) (ad : Nat → Nat) (hJ : pv_J ad) (p0 : Int32) (σ : pv_S) (R0 : (Int32 × pv_S)) (h : f_X6_pitch p0 σ = some R0) : Met l yX6_pitch (Cond.code yX6_pitch cX6_pitch 2 (some .int) :: lwG) r_X6_pitch (va_Pc [.ref (ad 1), .int p0] (pv_P D cI cZ ad σ)) (pv_QI D cI cZ ad R0) 0 0 (pv_A ad) := x_met (by decide) rfl hJ (Nat.le_of_ble_eq_true rfl) (fun p e s m args below meth c C hr => w_X6_pitch_0 C hr R0 p0 σ h)
abbrev r_X6_costToFollow : Room := { frames := 3, cells := 0, slots := 0, locals := 66 }
set_option maxRecDepth 100000 in
set_option maxHeartbeats 4000000 in
theorem w_X6_costToFollow_54 {p : Program} {l : Launch} {e : Env} {s : State} {m : MethodId} {args : Array Value} {below : List Frame} {meth : Method} {c : Code} {D : va_G} {cI cZ : ClassId} {ad : Nat → Nat} (C : pv_C p s m args meth c cX6_costToFollow 6 RX6 D cI cZ ad (pv_A ad)) (hr : meth.sig.returnType = some .int) (R0 : (Int32 × pv_S)) (v3 : Int32) (v4 : Int32) (s0 : Int32) (σ : pv_S) (h : f_X6_costToFollow_54 v3 v4 s0 σ = some R0) : Wx p l e r_X6_costToFollow s m args below meth c 0 0 (MQ below (pv_QI D cI cZ ad R0) args s 0 0 (pv_A ad)) 6 D cI cZ ad (pv_A ad) 54 [(0, .ref (ad 1)), (3, .int v3), (4, .int v4)] [.int s0] σ := by
  unfold f_X6_costToFollow_54 at h
  refine x_istore (lv' := [(5, .int s0), (0, .ref (ad 1)), (3, .int v3), (4, .int v4)]) C dX6_costToFollow_54 (by decide) rfl ?_
  refine x_iload_n C dX6_costToFollow_56 rfl 2 rfl ?_
  refine x_aload_n C dX6_costToFollow_57 rfl 1 rfl ?_
  refine x_iconst (v := 0) C dX6_costToFollow_58 (by decide) ?_
  obtain ⟨q1, eq1, h⟩ := gb_some h
  refine x_vi (st := [.int v3]) C kY_X6_valueOf 1 6 rfl rfl rfl (m_X6_valueOf l D cI cZ ad C.2.2.2.2.2.2.1 0 σ q1 eq1) kl_X6_35 ⟨rfl, rfl⟩ ⟨Nat.le_of_ble_eq_true rfl, Nat.le_of_ble_eq_true rfl⟩ ⟨Nat.zero_le _, Nat.zero_le _⟩ rfl rfl (Nat.le_of_ble_eq_true rfl) dX6_costToFollow_59 ?_
  refine x_imul C dX6_costToFollow_62 ?_
  refine x_iload C dX6_costToFollow_63 3 rfl ?_
  refine x_aload_n C dX6_costToFollow_65 rfl 1 rfl ?_
  refine x_iconst (v := 1) C dX6_costToFollow_66 (by decide) ?_
  obtain ⟨q2, eq2, h⟩ := gb_some h
  refine x_vi (st := [.int v4, .int (v3 * q1.1)]) C kY_X6_valueOf 1 6 rfl rfl rfl (m_X6_valueOf l D cI cZ ad C.2.2.2.2.2.2.1 1 q1.2 q2 eq2) kl_X6_35 ⟨rfl, rfl⟩ ⟨Nat.le_of_ble_eq_true rfl, Nat.le_of_ble_eq_true rfl⟩ ⟨Nat.zero_le _, Nat.zero_le _⟩ rfl rfl (Nat.le_of_ble_eq_true rfl) dX6_costToFollow_67 ?_
  refine x_imul C dX6_costToFollow_70 ?_
  refine x_iadd C dX6_costToFollow_71 ?_
  refine x_iload C dX6_costToFollow_72 0 rfl ?_
  refine x_iadd C dX6_costToFollow_74 ?_
  exact x_iret C hr dX6_costToFollow_75 (Option.some.inj h)
set_option maxRecDepth 100000 in
set_option maxHeartbeats 4000000 in
theorem w_X6_costToFollow_0 {p : Program} {l : Launch} {e : Env} {s : State} {m : MethodId} {args : Array Value} {below : List Frame} {meth : Method} {c : Code} {D : va_G} {cI cZ : ClassId} {ad : Nat → Nat} (C : pv_C p s m args meth c cX6_costToFollow 6 RX6 D cI cZ ad (pv_A ad)) (hr : meth.sig.returnType = some .int) (R0 : (Int32 × pv_S)) (p0 : Int32) (p1 : Int32) (σ : pv_S) (h : f_X6_costToFollow p0 p1 σ = some R0) : Wx p l e r_X6_costToFollow s m args below meth c 0 0 (MQ below (pv_QI D cI cZ ad R0) args s 0 0 (pv_A ad)) 6 D cI cZ ad (pv_A ad) 0 [(0, .ref (ad 1)), (1, .int p0), (2, .int p1)] [] σ := by
  unfold f_X6_costToFollow at h
  refine x_aload_n C dX6_costToFollow_0 rfl 0 rfl ?_
  refine x_iload_n C dX6_costToFollow_1 rfl 1 rfl ?_
  refine x_iload_n C dX6_costToFollow_2 rfl 2 rfl ?_
  obtain ⟨q1, eq1, h⟩ := gb_some h
  refine x_vi (st := []) C kY_X6_mayFollow 1 6 rfl rfl rfl (m_X6_mayFollow l D cI cZ ad C.2.2.2.2.2.2.1 p0 p1 σ q1 eq1) kl_X6_52 ⟨rfl, rfl⟩ ⟨Nat.le_of_ble_eq_true rfl, Nat.le_of_ble_eq_true rfl⟩ ⟨Nat.zero_le _, Nat.zero_le _⟩ rfl rfl (Nat.le_of_ble_eq_true rfl) dX6_costToFollow_3 ?_
  refine x_if_ne C 11 dX6_costToFollow_6 (by decide) (fun c2 => ?_) (fun c2 => ?_)
  · have h := (if_neg c2).symm.trans h
    refine x_aload_n C dX6_costToFollow_11 rfl 0 rfl ?_
    refine x_iload_n C dX6_costToFollow_12 rfl 2 rfl ?_
    obtain ⟨q3, eq3, h⟩ := gb_some h
    refine x_vi (st := []) C kY_X6_pitch 1 6 rfl rfl rfl (m_X6_pitch l D cI cZ ad C.2.2.2.2.2.2.1 p1 q1.2 q3 eq3) kl_X6_56 ⟨rfl, rfl⟩ ⟨Nat.le_of_ble_eq_true rfl, Nat.le_of_ble_eq_true rfl⟩ ⟨Nat.zero_le _, Nat.zero_le _⟩ rfl rfl (Nat.le_of_ble_eq_true rfl) dX6_costToFollow_13 ?_
    refine x_aload_n C dX6_costToFollow_16 rfl 0 rfl ?_
    refine x_iload_n C dX6_costToFollow_17 rfl 1 rfl ?_
    obtain ⟨q4, eq4, h⟩ := gb_some h
    refine x_vi (st := [.int q3.1]) C kY_X6_pitch 1 6 rfl rfl rfl (m_X6_pitch l D cI cZ ad C.2.2.2.2.2.2.1 p0 q3.2 q4 eq4) kl_X6_56 ⟨rfl, rfl⟩ ⟨Nat.le_of_ble_eq_true rfl, Nat.le_of_ble_eq_true rfl⟩ ⟨Nat.zero_le _, Nat.zero_le _⟩ rfl rfl (Nat.le_of_ble_eq_true rfl) dX6_costToFollow_18 ?_
    refine x_isub C dX6_costToFollow_21 ?_
    refine x_mabs C kl_X6_59 kM_abs kM_init kMc_abs ⟨Nat.le_of_ble_eq_true rfl, Nat.le_of_ble_eq_true rfl⟩ ⟨Nat.zero_le _, Nat.zero_le _⟩ dX6_costToFollow_22 ?_
    refine x_istore_n (lv' := [(3, .int (if 0 ≤ (q3.1 - q4.1) then (q3.1 - q4.1) else 0 - (q3.1 - q4.1))), (0, .ref (ad 1)), (1, .int p0), (2, .int p1)]) C dX6_costToFollow_25 rfl (by decide) rfl ?_
    refine x_aload_n C dX6_costToFollow_26 rfl 1 rfl ?_
    refine x_iload_n C dX6_costToFollow_27 rfl 3 rfl ?_
    obtain ⟨q5, eq5, h⟩ := gb_some h
    refine x_vi (st := []) C kY_X6_on 1 6 rfl rfl rfl (m_X6_on l D cI cZ ad C.2.2.2.2.2.2.1 p1 q4.2 q5 eq5) kl_X6_46 ⟨rfl, rfl⟩ ⟨Nat.le_of_ble_eq_true rfl, Nat.le_of_ble_eq_true rfl⟩ ⟨Nat.zero_le _, Nat.zero_le _⟩ rfl rfl (Nat.le_of_ble_eq_true rfl) dX6_costToFollow_28 ?_
    refine x_aload_n C dX6_costToFollow_31 rfl 1 rfl ?_
    refine x_iload_n C dX6_costToFollow_32 rfl 2 rfl ?_
    obtain ⟨q6, eq6, h⟩ := gb_some h
    refine x_vi (st := [.int q5.1]) C kY_X6_off 1 6 rfl rfl rfl (m_X6_off l D cI cZ ad C.2.2.2.2.2.2.1 p0 q5.2 q6 eq6) kl_X6_49 ⟨rfl, rfl⟩ ⟨Nat.le_of_ble_eq_true rfl, Nat.le_of_ble_eq_true rfl⟩ ⟨Nat.zero_le _, Nat.zero_le _⟩ rfl rfl (Nat.le_of_ble_eq_true rfl) dX6_costToFollow_33 ?_
    refine x_isub C dX6_costToFollow_36 ?_
    refine x_istore (lv' := [(4, .int (q5.1 - q6.1)), (3, .int (if 0 ≤ (q3.1 - q4.1) then (q3.1 - q4.1) else 0 - (q3.1 - q4.1))), (0, .ref (ad 1)), (1, .int p0), (2, .int p1)]) C dX6_costToFollow_37 (by decide) rfl ?_
    refine x_iload_n C dX6_costToFollow_39 rfl 1 rfl ?_
    refine x_bipush (v := 12) C dX6_costToFollow_40 (by decide) ?_
    refine x_icmp_le C 53 dX6_costToFollow_42 (by decide) (fun c7 => ?_) (fun c7 => ?_)
    · have h := (if_pos c7).symm.trans h
      refine x_iconst (v := 0) C dX6_costToFollow_53 (by decide) ?_
      refine x_sub [2, 1, 0] rfl ?_
      exact w_X6_costToFollow_54 C hr R0 (if 0 ≤ (q3.1 - q4.1) then (q3.1 - q4.1) else 0 - (q3.1 - q4.1)) (q5.1 - q6.1) 0 q6.2 h
    · have h := (if_neg c7).symm.trans h
      refine x_aload_n C dX6_costToFollow_45 rfl 2 rfl ?_
      refine x_iconst (v := 2) C dX6_costToFollow_46 (by decide) ?_
      obtain ⟨q8, eq8, h⟩ := gb_some h
      refine x_vi (st := []) C kY_X6_valueOf 1 6 rfl rfl rfl (m_X6_valueOf l D cI cZ ad C.2.2.2.2.2.2.1 2 q6.2 q8 eq8) kl_X6_35 ⟨rfl, rfl⟩ ⟨Nat.le_of_ble_eq_true rfl, Nat.le_of_ble_eq_true rfl⟩ ⟨Nat.zero_le _, Nat.zero_le _⟩ rfl rfl (Nat.le_of_ble_eq_true rfl) dX6_costToFollow_47 ?_
      refine x_goto C 54 dX6_costToFollow_50 (by decide) ?_
      refine x_sub [2, 1, 0] rfl ?_
      exact w_X6_costToFollow_54 C hr R0 (if 0 ≤ (q3.1 - q4.1) then (q3.1 - q4.1) else 0 - (q3.1 - q4.1)) (q5.1 - q6.1) q8.1 q8.2 h
  · have h := (if_pos c2).symm.trans h
    refine x_iconst (v := (-1)) C dX6_costToFollow_9 (by decide) ?_
    exact x_iret C hr dX6_costToFollow_10 (Option.some.inj h)
theorem m_X6_costToFollow (l : Launch) (D : va_G) (cI cZ : ClassId) (ad : Nat → Nat) (hJ : pv_J ad) (p0 : Int32) (p1 : Int32) (σ : pv_S) (R0 : (Int32 × pv_S)) (h : f_X6_costToFollow p0 p1 σ = some R0) : Met l yX6_costToFollow (Cond.code yX6_costToFollow cX6_costToFollow 6 (some .int) :: lwG) r_X6_costToFollow (va_Pc [.ref (ad 1), .int p0, .int p1] (pv_P D cI cZ ad σ)) (pv_QI D cI cZ ad R0) 0 0 (pv_A ad) := x_met (by decide) rfl hJ (Nat.le_of_ble_eq_true rfl) (fun p e s m args below meth c C hr => w_X6_costToFollow_0 C hr R0 p0 p1 σ h)
abbrev r_X4_costBehind : Room := { frames := 4, cells := 0, slots := 0, locals := 91 }
set_option maxRecDepth 100000 in
set_option maxHeartbeats 4000000 in
theorem w_X4_costBehind_0 {p : Program} {l : Launch} {e : Env} {s : State} {m : MethodId} {args : Array Value} {below : List Frame} {meth : Method} {c : Code} {D : va_G} {cI cZ : ClassId} {ad : Nat → Nat} (C : pv_C p s m args meth c cX4_costBehind 3 RX4 D cI cZ ad (pv_A ad)) (hr : meth.sig.returnType = some .int) (R0 : (Int32 × pv_S)) (p0 : Int32) (σ : pv_S) (h : f_X4_costBehind p0 σ = some R0) : Wx p l e r_X4_costBehind s m args below meth c 0 0 (MQ below (pv_QI D cI cZ ad R0) args s 0 0 (pv_A ad)) 3 D cI cZ ad (pv_A ad) 0 [(0, .ref (ad 2)), (1, .int p0)] [] σ := by
  unfold f_X4_costBehind at h
  refine x_aload_n C dX4_costBehind_0 rfl 0 rfl ?_
  refine xg_X4_18 C dX4_costBehind_1 ?_
  refine x_iload_n C dX4_costBehind_4 rfl 1 rfl ?_
  obtain ⟨q1, eq1, h⟩ := gb_some h
  refine x_vi (st := []) C kY_X6_next 1 6 rfl rfl rfl (m_X6_next l D cI cZ ad C.2.2.2.2.2.2.1 p0 σ q1 eq1) kl_X4_34 ⟨rfl, rfl⟩ ⟨Nat.le_of_ble_eq_true rfl, Nat.le_of_ble_eq_true rfl⟩ ⟨Nat.zero_le _, Nat.zero_le _⟩ rfl rfl (Nat.le_of_ble_eq_true rfl) dX4_costBehind_5 ?_
  refine x_istore_n (lv' := [(2, .int q1.1), (0, .ref (ad 2)), (1, .int p0)]) C dX4_costBehind_8 rfl (by decide) rfl ?_
  refine x_iload_n C dX4_costBehind_9 rfl 0 rfl ?_
  refine x_iconst (v := (-1)) C dX4_costBehind_10 (by decide) ?_
  refine x_icmp_ne C 18 dX4_costBehind_11 (by decide) (fun c2 => ?_) (fun c2 => ?_)
  · have h := (if_neg c2).symm.trans h
    refine x_aload_n C dX4_costBehind_18 rfl 1 rfl ?_
    refine xg_X4_18 C dX4_costBehind_19 ?_
    refine x_iload_n C dX4_costBehind_22 rfl 2 rfl ?_
    refine x_iload_n C dX4_costBehind_23 rfl 0 rfl ?_
    obtain ⟨q3, eq3, h⟩ := gb_some h
    refine x_vi (st := []) C kY_X6_costToFollow 1 6 rfl rfl rfl (m_X6_costToFollow l D cI cZ ad C.2.2.2.2.2.2.1 p0 q1.1 q1.2 q3 eq3) kl_X4_80 ⟨rfl, rfl⟩ ⟨Nat.le_of_ble_eq_true rfl, Nat.le_of_ble_eq_true rfl⟩ ⟨Nat.zero_le _, Nat.zero_le _⟩ rfl rfl (Nat.le_of_ble_eq_true rfl) dX4_costBehind_24 ?_
    exact x_iret C hr dX4_costBehind_27 (Option.some.inj h)
  · have h := (if_pos c2).symm.trans h
    refine x_iconst (v := 0) C dX4_costBehind_14 (by decide) ?_
    refine x_goto C 27 dX4_costBehind_15 (by decide) ?_
    exact x_iret C hr dX4_costBehind_27 (Option.some.inj h)
theorem m_X4_costBehind (l : Launch) (D : va_G) (cI cZ : ClassId) (ad : Nat → Nat) (hJ : pv_J ad) (p0 : Int32) (σ : pv_S) (R0 : (Int32 × pv_S)) (h : f_X4_costBehind p0 σ = some R0) : Met l yX4_costBehind (Cond.code yX4_costBehind cX4_costBehind 3 (some .int) :: lwG) r_X4_costBehind (va_Pc [.ref (ad 2), .int p0] (pv_P D cI cZ ad σ)) (pv_QI D cI cZ ad R0) 0 0 (pv_A ad) := x_met (by decide) rfl hJ (Nat.le_of_ble_eq_true rfl) (fun p e s m args below meth c C hr => w_X4_costBehind_0 C hr R0 p0 σ h)
abbrev r_X4_costOfAll : Room := { frames := 5, cells := 0, slots := 0, locals := 113 }
set_option maxRecDepth 100000 in
set_option maxHeartbeats 4000000 in
theorem w_X4_costOfAll_16 {p : Program} {l : Launch} {e : Env} {s : State} {m : MethodId} {args : Array Value} {below : List Frame} {meth : Method} {c : Code} {D : va_G} {cI cZ : ClassId} {ad : Nat → Nat} (C : pv_C p s m args meth c cX4_costOfAll 3 RX4 D cI cZ ad (pv_A ad)) (hr : meth.sig.returnType = some .int) (R0 : (Int32 × pv_S)) : ∀ (n : Nat) (v1 : Int32) (v2 : Int32) (σ : pv_S), f_X4_costOfAll_16 n v1 v2 σ = some R0 → Wx p l e r_X4_costOfAll s m args below meth c 0 0 (MQ below (pv_QI D cI cZ ad R0) args s 0 0 (pv_A ad)) 3 D cI cZ ad (pv_A ad) 16 [(0, .ref (ad 2)), (1, .int v1), (2, .int v2)] [] σ := by
  intro n
  induction n with
  | zero =>
    intro v1 v2 σ h
    have h2 : (none : Option (Int32 × pv_S)) = some R0 := h
    cases h2
  | succ n ih =>
    intro v1 v2 σ h
    unfold f_X4_costOfAll_16 at h
    refine x_iload_n C dX4_costOfAll_16 rfl 2 rfl ?_
    refine x_aload_n C dX4_costOfAll_17 rfl 0 rfl ?_
    refine xg_X4_18 C dX4_costOfAll_18 ?_
    obtain ⟨q1, eq1, h⟩ := gb_some h
    refine x_vi (st := [.int v2]) C kY_X6_count 1 6 rfl rfl rfl (m_X6_count l D cI cZ ad C.2.2.2.2.2.2.1 σ q1 eq1) kl_X4_28 ⟨rfl, rfl⟩ ⟨Nat.le_of_ble_eq_true rfl, Nat.le_of_ble_eq_true rfl⟩ ⟨Nat.zero_le _, Nat.zero_le _⟩ rfl rfl (Nat.le_of_ble_eq_true rfl) dX4_costOfAll_21 ?_
    refine x_icmp_ge C 41 dX4_costOfAll_24 (by decide) (fun c2 => ?_) (fun c2 => ?_)
    · have h := (if_pos c2).symm.trans h
      refine x_iload_n C dX4_costOfAll_41 rfl 1 rfl ?_
      exact x_iret C hr dX4_costOfAll_42 (Option.some.inj h)
    · have h := (if_neg c2).symm.trans h
      refine x_iload_n C dX4_costOfAll_27 rfl 1 rfl ?_
      refine x_aload_n C dX4_costOfAll_28 rfl 0 rfl ?_
      refine x_iload_n C dX4_costOfAll_29 rfl 2 rfl ?_
      obtain ⟨q3, eq3, h⟩ := gb_some h
      refine x_vi (st := [.int v1]) C kY_X4_costBehind 2 4 rfl rfl rfl (m_X4_costBehind l D cI cZ ad C.2.2.2.2.2.2.1 v2 q1.2 q3 eq3) kl_X4_74 ⟨rfl, rfl⟩ ⟨Nat.le_of_ble_eq_true rfl, Nat.le_of_ble_eq_true rfl⟩ ⟨Nat.zero_le _, Nat.zero_le _⟩ rfl rfl (Nat.le_of_ble_eq_true rfl) dX4_costOfAll_30 ?_
      refine x_iadd C dX4_costOfAll_33 ?_
      refine x_istore_n (lv' := [(1, .int (v1 + q3.1)), (0, .ref (ad 2)), (2, .int v2)]) C dX4_costOfAll_34 rfl (by decide) rfl ?_
      refine x_iinc (v := (v2 + 1)) (lv' := [(2, .int (v2 + 1)), (1, .int (v1 + q3.1)), (0, .ref (ad 2))]) C 2 dX4_costOfAll_35 rfl rfl (by decide) rfl ?_
      refine x_goto C 16 dX4_costOfAll_38 (by decide) ?_
      refine x_sub [2, 1, 0] rfl ?_
      exact ih (v1 + q3.1) (v2 + 1) q3.2 h
set_option maxRecDepth 100000 in
set_option maxHeartbeats 4000000 in
theorem w_X4_costOfAll_0 {p : Program} {l : Launch} {e : Env} {s : State} {m : MethodId} {args : Array Value} {below : List Frame} {meth : Method} {c : Code} {D : va_G} {cI cZ : ClassId} {ad : Nat → Nat} (C : pv_C p s m args meth c cX4_costOfAll 3 RX4 D cI cZ ad (pv_A ad)) (hr : meth.sig.returnType = some .int) (R0 : (Int32 × pv_S)) (σ : pv_S) (h : f_X4_costOfAll σ = some R0) : Wx p l e r_X4_costOfAll s m args below meth c 0 0 (MQ below (pv_QI D cI cZ ad R0) args s 0 0 (pv_A ad)) 3 D cI cZ ad (pv_A ad) 0 [(0, .ref (ad 2))] [] σ := by
  unfold f_X4_costOfAll at h
  refine x_aload_n C dX4_costOfAll_0 rfl 0 rfl ?_
  obtain ⟨q1, eq1, h⟩ := gb_some h
  refine x_vi (st := []) C kY_X4_countVoices 2 4 rfl rfl rfl (m_X4_countVoices l D cI cZ ad C.2.2.2.2.2.2.1 σ q1 eq1) kl_X4_77 ⟨rfl, rfl⟩ ⟨Nat.le_of_ble_eq_true rfl, Nat.le_of_ble_eq_true rfl⟩ ⟨Nat.zero_le _, Nat.zero_le _⟩ rfl rfl (Nat.le_of_ble_eq_true rfl) dX4_costOfAll_1 ?_
  refine x_aload_n C dX4_costOfAll_4 rfl 0 rfl ?_
  refine xg_X4_18 C dX4_costOfAll_5 ?_
  refine x_iconst (v := 3) C dX4_costOfAll_8 (by decide) ?_
  obtain ⟨q2, eq2, h⟩ := gb_some h
  refine x_vi (st := [.int q1.1]) C kY_X6_valueOf 1 6 rfl rfl rfl (m_X6_valueOf l D cI cZ ad C.2.2.2.2.2.2.1 3 q1.2 q2 eq2) kl_X4_71 ⟨rfl, rfl⟩ ⟨Nat.le_of_ble_eq_true rfl, Nat.le_of_ble_eq_true rfl⟩ ⟨Nat.zero_le _, Nat.zero_le _⟩ rfl rfl (Nat.le_of_ble_eq_true rfl) dX4_costOfAll_9 ?_
  refine x_imul C dX4_costOfAll_12 ?_
  refine x_istore_n (lv' := [(1, .int (q1.1 * q2.1)), (0, .ref (ad 2))]) C dX4_costOfAll_13 rfl (by decide) rfl ?_
  refine x_iconst (v := 0) C dX4_costOfAll_14 (by decide) ?_
  refine x_istore_n (lv' := [(2, .int 0), (1, .int (q1.1 * q2.1)), (0, .ref (ad 2))]) C dX4_costOfAll_15 rfl (by decide) rfl ?_
  refine x_sub [2, 1, 0] rfl ?_
  exact w_X4_costOfAll_16 C hr R0 pv_FU (q1.1 * q2.1) 0 q2.2 h
theorem m_X4_costOfAll (l : Launch) (D : va_G) (cI cZ : ClassId) (ad : Nat → Nat) (hJ : pv_J ad)  (σ : pv_S) (R0 : (Int32 × pv_S)) (h : f_X4_costOfAll σ = some R0) : Met l yX4_costOfAll (Cond.code yX4_costOfAll cX4_costOfAll 3 (some .int) :: lwG) r_X4_costOfAll (va_Pc [.ref (ad 2)] (pv_P D cI cZ ad σ)) (pv_QI D cI cZ ad R0) 0 0 (pv_A ad) := x_met (by decide) rfl hJ (Nat.le_of_ble_eq_true rfl) (fun p e s m args below meth c C hr => w_X4_costOfAll_0 C hr R0 σ h)
abbrev r_X6_edition : Room := { frames := 0, cells := 0, slots := 0, locals := 0 }
set_option maxRecDepth 100000 in
set_option maxHeartbeats 4000000 in
theorem w_X6_edition_0 {p : Program} {l : Launch} {e : Env} {s : State} {m : MethodId} {args : Array Value} {below : List Frame} {meth : Method} {c : Code} {D : va_G} {cI cZ : ClassId} {ad : Nat → Nat} (C : pv_C p s m args meth c cX6_edition 1 RX6 D cI cZ ad (pv_A ad)) (hr : meth.sig.returnType = some .int) (R0 : (Int32 × pv_S)) (σ : pv_S) (h : f_X6_edition σ = some R0) : Wx p l e r_X6_edition s m args below meth c 0 0 (MQ below (pv_QI D cI cZ ad R0) args s 0 0 (pv_A ad)) 1 D cI cZ ad (pv_A ad) 0 [(0, .ref (ad 1))] [] σ := by
  unfold f_X6_edition at h
  refine x_aload_n C dX6_edition_0 rfl 0 rfl ?_
  refine xg_X6_27 C dX6_edition_1 ?_
  exact x_iret C hr dX6_edition_4 (Option.some.inj h)
theorem m_X6_edition (l : Launch) (D : va_G) (cI cZ : ClassId) (ad : Nat → Nat) (hJ : pv_J ad)  (σ : pv_S) (R0 : (Int32 × pv_S)) (h : f_X6_edition σ = some R0) : Met l yX6_edition (Cond.code yX6_edition cX6_edition 1 (some .int) :: lwG) r_X6_edition (va_Pc [.ref (ad 1)] (pv_P D cI cZ ad σ)) (pv_QI D cI cZ ad R0) 0 0 (pv_A ad) := x_met (by decide) rfl hJ (Nat.le_of_ble_eq_true rfl) (fun p e s m args below meth c C hr => w_X6_edition_0 C hr R0 σ h)
abbrev r_J7_fill_53178_14 : Room := { frames := 0, cells := 0, slots := 0, locals := 0 }
set_option maxRecDepth 100000 in
set_option maxHeartbeats 4000000 in
theorem w_J7_fill_53178_14_5 {p : Program} {l : Launch} {e : Env} {s : State} {m : MethodId} {args : Array Value} {below : List Frame} {meth : Method} {c : Code} {D : va_G} {cI cZ : ClassId} {ad : Nat → Nat} (C : pv_C p s m args meth c cJ7_fill_53178 4 RJ7 D cI cZ ad (pv_A ad)) (hr : meth.sig.returnType = none) (R0 : pv_S) : ∀ (n : Nat) (v1 : Int32) (v2 : Int32) (v3 : Int32) (σ : pv_S), f_J7_fill_53178_14_5 n v1 v2 v3 σ = some R0 → Wx p l e r_J7_fill_53178_14 s m args below meth c 0 0 (MQ below (pv_QV D cI cZ ad R0) args s 0 0 (pv_A ad)) 4 D cI cZ ad (pv_A ad) 5 [(0, .ref (ad 14)), (1, .int v1), (2, .int v2), (3, .int v3)] [] σ := by
  intro n
  induction n with
  | zero =>
    intro v1 v2 v3 σ h
    have h2 : (none : Option pv_S) = some R0 := h
    cases h2
  | succ n ih =>
    intro v1 v2 v3 σ h
    unfold f_J7_fill_53178_14_5 at h
    refine x_iload_n C dJ7_fill_53178_5 rfl 2 rfl ?_
    refine x_iload_n C dJ7_fill_53178_6 rfl 3 rfl ?_
    refine x_icmp_ge C 20 dJ7_fill_53178_7 (by decide) (fun c1 => ?_) (fun c1 => ?_)
    · have h := (if_pos c1).symm.trans h
      exact x_vret C hr dJ7_fill_53178_20 (Option.some.inj h)
    · have h := (if_neg c1).symm.trans h
      refine x_aload_n C dJ7_fill_53178_10 rfl 0 rfl ?_
      refine x_iload_n C dJ7_fill_53178_11 rfl 2 rfl ?_
      refine x_iload_n C dJ7_fill_53178_12 rfl 1 rfl ?_
      obtain ⟨g2, h⟩ := gd_some h
      refine xs_5 C g2 dJ7_fill_53178_13 ?_
      refine x_iinc (v := (v2 + 1)) (lv' := [(2, .int (v2 + 1)), (0, .ref (ad 14)), (1, .int v1), (3, .int v3)]) C 2 dJ7_fill_53178_14 rfl rfl (by decide) rfl ?_
      refine x_goto C 5 dJ7_fill_53178_17 (by decide) ?_
      refine x_sub [1, 2, 0, 3] rfl ?_
      exact ih v1 (v2 + 1) v3 (pv_sa σ 5 v2 v1) h
set_option maxRecDepth 100000 in
set_option maxHeartbeats 4000000 in
theorem w_J7_fill_53178_14_0 {p : Program} {l : Launch} {e : Env} {s : State} {m : MethodId} {args : Array Value} {below : List Frame} {meth : Method} {c : Code} {D : va_G} {cI cZ : ClassId} {ad : Nat → Nat} (C : pv_C p s m args meth c cJ7_fill_53178 4 RJ7 D cI cZ ad (pv_A ad)) (hr : meth.sig.returnType = none) (R0 : pv_S) (p1 : Int32) (σ : pv_S) (h : f_J7_fill_53178_14 p1 σ = some R0) : Wx p l e r_J7_fill_53178_14 s m args below meth c 0 0 (MQ below (pv_QV D cI cZ ad R0) args s 0 0 (pv_A ad)) 4 D cI cZ ad (pv_A ad) 0 [(0, .ref (ad 14)), (1, .int p1)] [] σ := by
  unfold f_J7_fill_53178_14 at h
  refine x_iconst (v := 0) C dJ7_fill_53178_0 (by decide) ?_
  refine x_istore_n (lv' := [(2, .int 0), (0, .ref (ad 14)), (1, .int p1)]) C dJ7_fill_53178_1 rfl (by decide) rfl ?_
  refine x_aload_n C dJ7_fill_53178_2 rfl 1 rfl ?_
  refine xn_5 C dJ7_fill_53178_3 ?_
  refine x_istore_n (lv' := [(3, .int 11), (2, .int 0), (0, .ref (ad 14)), (1, .int p1)]) C dJ7_fill_53178_4 rfl (by decide) rfl ?_
  refine x_sub [2, 3, 1, 0] rfl ?_
  exact w_J7_fill_53178_14_5 C hr R0 pv_FU p1 0 11 σ h
theorem m_J7_fill_53178_14 (l : Launch) (D : va_G) (cI cZ : ClassId) (ad : Nat → Nat) (hJ : pv_J ad) (p1 : Int32) (σ : pv_S) (R0 : pv_S) (h : f_J7_fill_53178_14 p1 σ = some R0) : Met l yJ7_fill_53178 (Cond.code yJ7_fill_53178 cJ7_fill_53178 4 (none) :: lwG) r_J7_fill_53178_14 (va_Pc [.ref (ad 14), .int p1] (pv_P D cI cZ ad σ)) (pv_QV D cI cZ ad R0) 0 0 (pv_A ad) := x_met (by decide) rfl hJ (Nat.le_of_ble_eq_true rfl) (fun p e s m args below meth c C hr => w_J7_fill_53178_14_0 C hr R0 p1 σ h)
abbrev r_X5_bit : Room := { frames := 0, cells := 0, slots := 0, locals := 0 }
set_option maxRecDepth 100000 in
set_option maxHeartbeats 4000000 in
theorem w_X5_bit_0 {p : Program} {l : Launch} {e : Env} {s : State} {m : MethodId} {args : Array Value} {below : List Frame} {meth : Method} {c : Code} {D : va_G} {cI cZ : ClassId} {ad : Nat → Nat} (C : pv_C p s m args meth c cX5_bit 2 RX5 D cI cZ ad (pv_A ad)) (hr : meth.sig.returnType = some .int) (R0 : (Int32 × pv_S)) (p0 : Int32) (σ : pv_S) (h : f_X5_bit p0 σ = some R0) : Wx p l e r_X5_bit s m args below meth c 0 0 (MQ below (pv_QI D cI cZ ad R0) args s 0 0 (pv_A ad)) 2 D cI cZ ad (pv_A ad) 0 [(0, .ref (ad 3)), (1, .int p0)] [] σ := by
  unfold f_X5_bit at h
  refine x_iconst (v := 1) C dX5_bit_0 (by decide) ?_
  refine x_aload_n C dX5_bit_1 rfl 0 rfl ?_
  refine xg_X5_50 C dX5_bit_2 ?_
  refine x_iconst (v := 1) C dX5_bit_5 (by decide) ?_
  refine x_isub C dX5_bit_6 ?_
  refine x_iload_n C dX5_bit_7 rfl 1 rfl ?_
  refine x_isub C dX5_bit_8 ?_
  refine x_ishl C dX5_bit_9 ?_
  exact x_iret C hr dX5_bit_10 (Option.some.inj h)
theorem m_X5_bit (l : Launch) (D : va_G) (cI cZ : ClassId) (ad : Nat → Nat) (hJ : pv_J ad) (p0 : Int32) (σ : pv_S) (R0 : (Int32 × pv_S)) (h : f_X5_bit p0 σ = some R0) : Met l yX5_bit (Cond.code yX5_bit cX5_bit 2 (some .int) :: lwG) r_X5_bit (va_Pc [.ref (ad 3), .int p0] (pv_P D cI cZ ad σ)) (pv_QI D cI cZ ad R0) 0 0 (pv_A ad) := x_met (by decide) rfl hJ (Nat.le_of_ble_eq_true rfl) (fun p e s m args below meth c C hr => w_X5_bit_0 C hr R0 p0 σ h)
abbrev r_J6_bitCount_0f7a4 : Room := { frames := 0, cells := 0, slots := 0, locals := 0 }
set_option maxRecDepth 100000 in
set_option maxHeartbeats 4000000 in
theorem w_J6_bitCount_0f7a4_0 {p : Program} {l : Launch} {e : Env} {s : State} {m : MethodId} {args : Array Value} {below : List Frame} {meth : Method} {c : Code} {D : va_G} {cI cZ : ClassId} {ad : Nat → Nat} (C : pv_C p s m args meth c cJ6_bitCount_0f7a4 1 RJ6 D cI cZ ad (pv_A ad)) (hr : meth.sig.returnType = some .int) (R0 : (Int32 × pv_S)) (p0 : Int32) (σ : pv_S) (h : f_J6_bitCount_0f7a4 p0 σ = some R0) : Wx p l e r_J6_bitCount_0f7a4 s m args below meth c 0 0 (MQ below (pv_QI D cI cZ ad R0) args s 0 0 (pv_A ad)) 1 D cI cZ ad (pv_A ad) 0 [(0, .int p0)] [] σ := by
  unfold f_J6_bitCount_0f7a4 at h
  refine x_iload_n C dJ6_bitCount_0f7a4_0 rfl 0 rfl ?_
  refine x_iload_n C dJ6_bitCount_0f7a4_1 rfl 0 rfl ?_
  refine x_iconst (v := 1) C dJ6_bitCount_0f7a4_2 (by decide) ?_
  refine x_iushr C dJ6_bitCount_0f7a4_3 ?_
  refine x_ldcw C kc_J6_265 dJ6_bitCount_0f7a4_4 ?_
  refine x_iand C dJ6_bitCount_0f7a4_7 ?_
  refine x_isub C dJ6_bitCount_0f7a4_8 ?_
  refine x_istore_n (lv' := [(0, .int (p0 - ((((p0).toUInt32 >>> ((1 : Int32).toUInt32 &&& Int32.toUInt32 31)).toInt32) &&& 1431655765)))]) C dJ6_bitCount_0f7a4_9 rfl (by decide) rfl ?_
  refine x_iload_n C dJ6_bitCount_0f7a4_10 rfl 0 rfl ?_
  refine x_ldcw C kc_J6_266 dJ6_bitCount_0f7a4_11 ?_
  refine x_iand C dJ6_bitCount_0f7a4_14 ?_
  refine x_iload_n C dJ6_bitCount_0f7a4_15 rfl 0 rfl ?_
  refine x_iconst (v := 2) C dJ6_bitCount_0f7a4_16 (by decide) ?_
  refine x_iushr C dJ6_bitCount_0f7a4_17 ?_
  refine x_ldcw C kc_J6_266 dJ6_bitCount_0f7a4_18 ?_
  refine x_iand C dJ6_bitCount_0f7a4_21 ?_
  refine x_iadd C dJ6_bitCount_0f7a4_22 ?_
  refine x_istore_n (lv' := [(0, .int (((p0 - ((((p0).toUInt32 >>> ((1 : Int32).toUInt32 &&& Int32.toUInt32 31)).toInt32) &&& 1431655765)) &&& 858993459) + (((((p0 - ((((p0).toUInt32 >>> ((1 : Int32).toUInt32 &&& Int32.toUInt32 31)).toInt32) &&& 1431655765))).toUInt32 >>> ((2 : Int32).toUInt32 &&& Int32.toUInt32 31)).toInt32) &&& 858993459)))]) C dJ6_bitCount_0f7a4_23 rfl (by decide) rfl ?_
  refine x_iload_n C dJ6_bitCount_0f7a4_24 rfl 0 rfl ?_
  refine x_iload_n C dJ6_bitCount_0f7a4_25 rfl 0 rfl ?_
  refine x_iconst (v := 4) C dJ6_bitCount_0f7a4_26 (by decide) ?_
  refine x_iushr C dJ6_bitCount_0f7a4_27 ?_
  refine x_iadd C dJ6_bitCount_0f7a4_28 ?_
  refine x_ldcw C kc_J6_267 dJ6_bitCount_0f7a4_29 ?_
  refine x_iand C dJ6_bitCount_0f7a4_32 ?_
  refine x_istore_n (lv' := [(0, .int (((((p0 - ((((p0).toUInt32 >>> ((1 : Int32).toUInt32 &&& Int32.toUInt32 31)).toInt32) &&& 1431655765)) &&& 858993459) + (((((p0 - ((((p0).toUInt32 >>> ((1 : Int32).toUInt32 &&& Int32.toUInt32 31)).toInt32) &&& 1431655765))).toUInt32 >>> ((2 : Int32).toUInt32 &&& Int32.toUInt32 31)).toInt32) &&& 858993459)) + ((((((p0 - ((((p0).toUInt32 >>> ((1 : Int32).toUInt32 &&& Int32.toUInt32 31)).toInt32) &&& 1431655765)) &&& 858993459) + (((((p0 - ((((p0).toUInt32 >>> ((1 : Int32).toUInt32 &&& Int32.toUInt32 31)).toInt32) &&& 1431655765))).toUInt32 >>> ((2 : Int32).toUInt32 &&& Int32.toUInt32 31)).toInt32) &&& 858993459))).toUInt32 >>> ((4 : Int32).toUInt32 &&& Int32.toUInt32 31)).toInt32)) &&& 252645135))]) C dJ6_bitCount_0f7a4_33 rfl (by decide) rfl ?_
  refine x_iload_n C dJ6_bitCount_0f7a4_34 rfl 0 rfl ?_
  refine x_iload_n C dJ6_bitCount_0f7a4_35 rfl 0 rfl ?_
  refine x_bipush (v := 8) C dJ6_bitCount_0f7a4_36 (by decide) ?_
  refine x_iushr C dJ6_bitCount_0f7a4_38 ?_
  refine x_iadd C dJ6_bitCount_0f7a4_39 ?_
  refine x_istore_n (lv' := [(0, .int ((((((p0 - ((((p0).toUInt32 >>> ((1 : Int32).toUInt32 &&& Int32.toUInt32 31)).toInt32) &&& 1431655765)) &&& 858993459) + (((((p0 - ((((p0).toUInt32 >>> ((1 : Int32).toUInt32 &&& Int32.toUInt32 31)).toInt32) &&& 1431655765))).toUInt32 >>> ((2 : Int32).toUInt32 &&& Int32.toUInt32 31)).toInt32) &&& 858993459)) + ((((((p0 - ((((p0).toUInt32 >>> ((1 : Int32).toUInt32 &&& Int32.toUInt32 31)).toInt32) &&& 1431655765)) &&& 858993459) + (((((p0 - ((((p0).toUInt32 >>> ((1 : Int32).toUInt32 &&& Int32.toUInt32 31)).toInt32) &&& 1431655765))).toUInt32 >>> ((2 : Int32).toUInt32 &&& Int32.toUInt32 31)).toInt32) &&& 858993459))).toUInt32 >>> ((4 : Int32).toUInt32 &&& Int32.toUInt32 31)).toInt32)) &&& 252645135) + ((((((((p0 - ((((p0).toUInt32 >>> ((1 : Int32).toUInt32 &&& Int32.toUInt32 31)).toInt32) &&& 1431655765)) &&& 858993459) + (((((p0 - ((((p0).toUInt32 >>> ((1 : Int32).toUInt32 &&& Int32.toUInt32 31)).toInt32) &&& 1431655765))).toUInt32 >>> ((2 : Int32).toUInt32 &&& Int32.toUInt32 31)).toInt32) &&& 858993459)) + ((((((p0 - ((((p0).toUInt32 >>> ((1 : Int32).toUInt32 &&& Int32.toUInt32 31)).toInt32) &&& 1431655765)) &&& 858993459) + (((((p0 - ((((p0).toUInt32 >>> ((1 : Int32).toUInt32 &&& Int32.toUInt32 31)).toInt32) &&& 1431655765))).toUInt32 >>> ((2 : Int32).toUInt32 &&& Int32.toUInt32 31)).toInt32) &&& 858993459))).toUInt32 >>> ((4 : Int32).toUInt32 &&& Int32.toUInt32 31)).toInt32)) &&& 252645135)).toUInt32 >>> ((8 : Int32).toUInt32 &&& Int32.toUInt32 31)).toInt32)))]) C dJ6_bitCount_0f7a4_40 rfl (by decide) rfl ?_
  refine x_iload_n C dJ6_bitCount_0f7a4_41 rfl 0 rfl ?_
  refine x_iload_n C dJ6_bitCount_0f7a4_42 rfl 0 rfl ?_
  refine x_bipush (v := 16) C dJ6_bitCount_0f7a4_43 (by decide) ?_
  refine x_iushr C dJ6_bitCount_0f7a4_45 ?_
  refine x_iadd C dJ6_bitCount_0f7a4_46 ?_
  refine x_istore_n (lv' := [(0, .int (((((((p0 - ((((p0).toUInt32 >>> ((1 : Int32).toUInt32 &&& Int32.toUInt32 31)).toInt32) &&& 1431655765)) &&& 858993459) + (((((p0 - ((((p0).toUInt32 >>> ((1 : Int32).toUInt32 &&& Int32.toUInt32 31)).toInt32) &&& 1431655765))).toUInt32 >>> ((2 : Int32).toUInt32 &&& Int32.toUInt32 31)).toInt32) &&& 858993459)) + ((((((p0 - ((((p0).toUInt32 >>> ((1 : Int32).toUInt32 &&& Int32.toUInt32 31)).toInt32) &&& 1431655765)) &&& 858993459) + (((((p0 - ((((p0).toUInt32 >>> ((1 : Int32).toUInt32 &&& Int32.toUInt32 31)).toInt32) &&& 1431655765))).toUInt32 >>> ((2 : Int32).toUInt32 &&& Int32.toUInt32 31)).toInt32) &&& 858993459))).toUInt32 >>> ((4 : Int32).toUInt32 &&& Int32.toUInt32 31)).toInt32)) &&& 252645135) + ((((((((p0 - ((((p0).toUInt32 >>> ((1 : Int32).toUInt32 &&& Int32.toUInt32 31)).toInt32) &&& 1431655765)) &&& 858993459) + (((((p0 - ((((p0).toUInt32 >>> ((1 : Int32).toUInt32 &&& Int32.toUInt32 31)).toInt32) &&& 1431655765))).toUInt32 >>> ((2 : Int32).toUInt32 &&& Int32.toUInt32 31)).toInt32) &&& 858993459)) + ((((((p0 - ((((p0).toUInt32 >>> ((1 : Int32).toUInt32 &&& Int32.toUInt32 31)).toInt32) &&& 1431655765)) &&& 858993459) + (((((p0 - ((((p0).toUInt32 >>> ((1 : Int32).toUInt32 &&& Int32.toUInt32 31)).toInt32) &&& 1431655765))).toUInt32 >>> ((2 : Int32).toUInt32 &&& Int32.toUInt32 31)).toInt32) &&& 858993459))).toUInt32 >>> ((4 : Int32).toUInt32 &&& Int32.toUInt32 31)).toInt32)) &&& 252645135)).toUInt32 >>> ((8 : Int32).toUInt32 &&& Int32.toUInt32 31)).toInt32)) + (((((((((p0 - ((((p0).toUInt32 >>> ((1 : Int32).toUInt32 &&& Int32.toUInt32 31)).toInt32) &&& 1431655765)) &&& 858993459) + (((((p0 - ((((p0).toUInt32 >>> ((1 : Int32).toUInt32 &&& Int32.toUInt32 31)).toInt32) &&& 1431655765))).toUInt32 >>> ((2 : Int32).toUInt32 &&& Int32.toUInt32 31)).toInt32) &&& 858993459)) + ((((((p0 - ((((p0).toUInt32 >>> ((1 : Int32).toUInt32 &&& Int32.toUInt32 31)).toInt32) &&& 1431655765)) &&& 858993459) + (((((p0 - ((((p0).toUInt32 >>> ((1 : Int32).toUInt32 &&& Int32.toUInt32 31)).toInt32) &&& 1431655765))).toUInt32 >>> ((2 : Int32).toUInt32 &&& Int32.toUInt32 31)).toInt32) &&& 858993459))).toUInt32 >>> ((4 : Int32).toUInt32 &&& Int32.toUInt32 31)).toInt32)) &&& 252645135) + ((((((((p0 - ((((p0).toUInt32 >>> ((1 : Int32).toUInt32 &&& Int32.toUInt32 31)).toInt32) &&& 1431655765)) &&& 858993459) + (((((p0 - ((((p0).toUInt32 >>> ((1 : Int32).toUInt32 &&& Int32.toUInt32 31)).toInt32) &&& 1431655765))).toUInt32 >>> ((2 : Int32).toUInt32 &&& Int32.toUInt32 31)).toInt32) &&& 858993459)) + ((((((p0 - ((((p0).toUInt32 >>> ((1 : Int32).toUInt32 &&& Int32.toUInt32 31)).toInt32) &&& 1431655765)) &&& 858993459) + (((((p0 - ((((p0).toUInt32 >>> ((1 : Int32).toUInt32 &&& Int32.toUInt32 31)).toInt32) &&& 1431655765))).toUInt32 >>> ((2 : Int32).toUInt32 &&& Int32.toUInt32 31)).toInt32) &&& 858993459))).toUInt32 >>> ((4 : Int32).toUInt32 &&& Int32.toUInt32 31)).toInt32)) &&& 252645135)).toUInt32 >>> ((8 : Int32).toUInt32 &&& Int32.toUInt32 31)).toInt32))).toUInt32 >>> ((16 : Int32).toUInt32 &&& Int32.toUInt32 31)).toInt32)))]) C dJ6_bitCount_0f7a4_47 rfl (by decide) rfl ?_
  refine x_iload_n C dJ6_bitCount_0f7a4_48 rfl 0 rfl ?_
  refine x_bipush (v := 63) C dJ6_bitCount_0f7a4_49 (by decide) ?_
  refine x_iand C dJ6_bitCount_0f7a4_51 ?_
  exact x_iret C hr dJ6_bitCount_0f7a4_52 (Option.some.inj h)
theorem m_J6_bitCount_0f7a4 (l : Launch) (D : va_G) (cI cZ : ClassId) (ad : Nat → Nat) (hJ : pv_J ad) (p0 : Int32) (σ : pv_S) (R0 : (Int32 × pv_S)) (h : f_J6_bitCount_0f7a4 p0 σ = some R0) : Met l yJ6_bitCount_0f7a4 (Cond.code yJ6_bitCount_0f7a4 cJ6_bitCount_0f7a4 1 (some .int) :: lwG) r_J6_bitCount_0f7a4 (va_Pc [.int p0] (pv_P D cI cZ ad σ)) (pv_QI D cI cZ ad R0) 0 0 (pv_A ad) := x_met (by decide) rfl hJ (Nat.le_of_ble_eq_true rfl) (fun p e s m args below meth c C hr => w_J6_bitCount_0f7a4_0 C hr R0 p0 σ h)
abbrev r_X7_isVoiceCount : Room := { frames := 0, cells := 0, slots := 0, locals := 0 }
set_option maxRecDepth 100000 in
set_option maxHeartbeats 4000000 in
theorem w_X7_isVoiceCount_0 {p : Program} {l : Launch} {e : Env} {s : State} {m : MethodId} {args : Array Value} {below : List Frame} {meth : Method} {c : Code} {D : va_G} {cI cZ : ClassId} {ad : Nat → Nat} (C : pv_C p s m args meth c cX7_isVoiceCount 1 RX7 D cI cZ ad (pv_A ad)) (hr : meth.sig.returnType = some .boolean) (R0 : (Int32 × pv_S)) (p0 : Int32) (σ : pv_S) (h : f_X7_isVoiceCount p0 σ = some R0) : Wx p l e r_X7_isVoiceCount s m args below meth c 0 0 (MQ below (pv_QI D cI cZ ad R0) args s 0 0 (pv_A ad)) 1 D cI cZ ad (pv_A ad) 0 [(0, .int p0)] [] σ := by
  unfold f_X7_isVoiceCount at h
  refine x_iload_n C dX7_isVoiceCount_0 rfl 0 rfl ?_
  refine x_if_lt C 14 dX7_isVoiceCount_1 (by decide) (fun c1 => ?_) (fun c1 => ?_)
  · have h := (if_pos c1).symm.trans h
    refine x_iconst (v := 0) C dX7_isVoiceCount_14 (by decide) ?_
    exact x_zret C hr rfl dX7_isVoiceCount_15 (Option.some.inj h)
  · have h := (if_neg c1).symm.trans h
    refine x_iload_n C dX7_isVoiceCount_4 rfl 0 rfl ?_
    refine x_bipush (v := 10) C dX7_isVoiceCount_5 (by decide) ?_
    refine x_icmp_gt C 14 dX7_isVoiceCount_7 (by decide) (fun c2 => ?_) (fun c2 => ?_)
    · have h := (if_pos c2).symm.trans h
      refine x_iconst (v := 0) C dX7_isVoiceCount_14 (by decide) ?_
      exact x_zret C hr rfl dX7_isVoiceCount_15 (Option.some.inj h)
    · have h := (if_neg c2).symm.trans h
      refine x_iconst (v := 1) C dX7_isVoiceCount_10 (by decide) ?_
      refine x_goto C 15 dX7_isVoiceCount_11 (by decide) ?_
      exact x_zret C hr rfl dX7_isVoiceCount_15 (Option.some.inj h)
theorem m_X7_isVoiceCount (l : Launch) (D : va_G) (cI cZ : ClassId) (ad : Nat → Nat) (hJ : pv_J ad) (p0 : Int32) (σ : pv_S) (R0 : (Int32 × pv_S)) (h : f_X7_isVoiceCount p0 σ = some R0) : Met l yX7_isVoiceCount (Cond.code yX7_isVoiceCount cX7_isVoiceCount 1 (some .boolean) :: lwG) r_X7_isVoiceCount (va_Pc [.int p0] (pv_P D cI cZ ad σ)) (pv_QI D cI cZ ad R0) 0 0 (pv_A ad) := x_met (by decide) rfl hJ (Nat.le_of_ble_eq_true rfl) (fun p e s m args below meth c C hr => w_X7_isVoiceCount_0 C hr R0 p0 σ h)
abbrev r_X5_offer : Room := { frames := 1, cells := 0, slots := 0, locals := 20 }
set_option maxRecDepth 100000 in
set_option maxHeartbeats 4000000 in
theorem w_X5_offer_36 {p : Program} {l : Launch} {e : Env} {s : State} {m : MethodId} {args : Array Value} {below : List Frame} {meth : Method} {c : Code} {D : va_G} {cI cZ : ClassId} {ad : Nat → Nat} (C : pv_C p s m args meth c cX5_offer 4 RX5 D cI cZ ad (pv_A ad)) (hr : meth.sig.returnType = none) (R0 : pv_S) (v1 : Int32) (v3 : Int32) (σ : pv_S) (h : f_X5_offer_36 v1 v3 σ = some R0) : Wx p l e r_X5_offer s m args below meth c 0 0 (MQ below (pv_QV D cI cZ ad R0) args s 0 0 (pv_A ad)) 4 D cI cZ ad (pv_A ad) 36 [(0, .ref (ad 3)), (1, .int v1), (3, .int v3)] [] σ := by
  unfold f_X5_offer_36 at h
  refine x_aload_n C dX5_offer_36 rfl 0 rfl ?_
  refine xg_X5_18 C dX5_offer_37 ?_
  refine x_iload_n C dX5_offer_40 rfl 1 rfl ?_
  refine x_iload_n C dX5_offer_41 rfl 2 rfl ?_
  obtain ⟨g1, h⟩ := gd_some h
  refine xs_5 C g1 dX5_offer_42 ?_
  exact x_vret C hr dX5_offer_43 (Option.some.inj h)
set_option maxRecDepth 100000 in
set_option maxHeartbeats 4000000 in
theorem w_X5_offer_0 {p : Program} {l : Launch} {e : Env} {s : State} {m : MethodId} {args : Array Value} {below : List Frame} {meth : Method} {c : Code} {D : va_G} {cI cZ : ClassId} {ad : Nat → Nat} (C : pv_C p s m args meth c cX5_offer 4 RX5 D cI cZ ad (pv_A ad)) (hr : meth.sig.returnType = none) (R0 : pv_S) (p0 : Int32) (p1 : Int32) (σ : pv_S) (h : f_X5_offer p0 p1 σ = some R0) : Wx p l e r_X5_offer s m args below meth c 0 0 (MQ below (pv_QV D cI cZ ad R0) args s 0 0 (pv_A ad)) 4 D cI cZ ad (pv_A ad) 0 [(0, .ref (ad 3)), (1, .int p0), (2, .int p1)] [] σ := by
  unfold f_X5_offer at h
  refine x_iload_n C dX5_offer_0 rfl 2 rfl ?_
  refine x_iload_n C dX5_offer_1 rfl 1 rfl ?_
  refine x_aload_n C dX5_offer_2 rfl 0 rfl ?_
  refine xg_X5_56 C dX5_offer_3 ?_
  refine x_imul C dX5_offer_6 ?_
  refine x_iadd C dX5_offer_7 ?_
  refine x_istore_n (lv' := [(3, .int (p1 + (p0 * (σ.1 3)))), (0, .ref (ad 3)), (1, .int p0), (2, .int p1)]) C dX5_offer_8 rfl (by decide) rfl ?_
  refine x_iload_n C dX5_offer_9 rfl 2 rfl ?_
  obtain ⟨q1, eq1, h⟩ := gb_some h
  refine x_sni (st := []) C kY_X7_isVoiceCount (m_X7_isVoiceCount l D cI cZ ad C.2.2.2.2.2.2.1 p0 σ q1 eq1) C.2.2.2.2.2.2.2.2.2.1 ⟨rfl, rfl⟩ ⟨Nat.le_of_ble_eq_true rfl, Nat.le_of_ble_eq_true rfl⟩ ⟨Nat.zero_le _, Nat.zero_le _⟩ rfl rfl (Nat.le_of_ble_eq_true rfl) dX5_offer_10 ?_
  refine x_if_eq C 43 dX5_offer_13 (by decide) (fun c2 => ?_) (fun c2 => ?_)
  · have h := (if_pos c2).symm.trans h
    exact x_vret C hr dX5_offer_43 (Option.some.inj h)
  · have h := (if_neg c2).symm.trans h
    refine x_aload_n C dX5_offer_16 rfl 1 rfl ?_
    refine xg_X5_18 C dX5_offer_17 ?_
    refine x_iload_n C dX5_offer_20 rfl 2 rfl ?_
    obtain ⟨g3, h⟩ := gd_some h
    refine xl_5 C g3 dX5_offer_21 ?_
    refine x_iconst (v := (-1)) C dX5_offer_22 (by decide) ?_
    refine x_icmp_eq C 36 dX5_offer_23 (by decide) (fun c4 => ?_) (fun c4 => ?_)
    · have h := (if_pos c4).symm.trans h
      refine x_sub [1, 2, 0] rfl ?_
      exact w_X5_offer_36 C hr R0 p0 (p1 + (p0 * (σ.1 3))) q1.2 h
    · have h := (if_neg c4).symm.trans h
      refine x_iload_n C dX5_offer_26 rfl 0 rfl ?_
      refine x_aload_n C dX5_offer_27 rfl 1 rfl ?_
      refine xg_X5_18 C dX5_offer_28 ?_
      refine x_iload_n C dX5_offer_31 rfl 2 rfl ?_
      obtain ⟨g5, h⟩ := gd_some h
      refine xl_5 C g5 dX5_offer_32 ?_
      refine x_icmp_ge C 43 dX5_offer_33 (by decide) (fun c6 => ?_) (fun c6 => ?_)
      · have h := (if_pos c6).symm.trans h
        exact x_vret C hr dX5_offer_43 (Option.some.inj h)
      · have h := (if_neg c6).symm.trans h
        refine x_sub [1, 2, 0] rfl ?_
        exact w_X5_offer_36 C hr R0 p0 (p1 + (p0 * (σ.1 3))) q1.2 h
theorem m_X5_offer (l : Launch) (D : va_G) (cI cZ : ClassId) (ad : Nat → Nat) (hJ : pv_J ad) (p0 : Int32) (p1 : Int32) (σ : pv_S) (R0 : pv_S) (h : f_X5_offer p0 p1 σ = some R0) : Met l yX5_offer (Cond.code yX5_offer cX5_offer 4 (none) :: lwG) r_X5_offer (va_Pc [.ref (ad 3), .int p0, .int p1] (pv_P D cI cZ ad σ)) (pv_QV D cI cZ ad R0) 0 0 (pv_A ad) := x_met (by decide) rfl hJ (Nat.le_of_ble_eq_true rfl) (fun p e s m args below meth c C hr => w_X5_offer_0 C hr R0 p0 p1 σ h)
abbrev r_X5_findLeast : Room := { frames := 2, cells := 0, slots := 0, locals := 43 }
set_option maxRecDepth 100000 in
set_option maxHeartbeats 4000000 in
theorem w_X5_findLeast_31 {p : Program} {l : Launch} {e : Env} {s : State} {m : MethodId} {args : Array Value} {below : List Frame} {meth : Method} {c : Code} {D : va_G} {cI cZ : ClassId} {ad : Nat → Nat} (C : pv_C p s m args meth c cX5_findLeast 4 RX5 D cI cZ ad (pv_A ad)) (hr : meth.sig.returnType = none) (R0 : pv_S) : ∀ (n : Nat) (v1 : Int32) (v2 : Int32) (σ : pv_S), f_X5_findLeast_31 n v1 v2 σ = some R0 → Wx p l e r_X5_findLeast s m args below meth c 0 0 (MQ below (pv_QV D cI cZ ad R0) args s 0 0 (pv_A ad)) 4 D cI cZ ad (pv_A ad) 31 [(0, .ref (ad 3)), (1, .int v1), (2, .int v2)] [] σ := by
  intro n
  induction n with
  | zero =>
    intro v1 v2 σ h
    have h2 : (none : Option pv_S) = some R0 := h
    cases h2
  | succ n ih =>
    intro v1 v2 σ h
    unfold f_X5_findLeast_31 at h
    refine x_iload_n C dX5_findLeast_31 rfl 2 rfl ?_
    refine x_iload_n C dX5_findLeast_32 rfl 1 rfl ?_
    refine x_icmp_ge C 71 dX5_findLeast_33 (by decide) (fun c1 => ?_) (fun c1 => ?_)
    · have h := (if_pos c1).symm.trans h
      exact x_vret C hr dX5_findLeast_71 (Option.some.inj h)
    · have h := (if_neg c1).symm.trans h
      refine x_aload_n C dX5_findLeast_36 rfl 0 rfl ?_
      refine xg_X5_15 C dX5_findLeast_37 ?_
      refine x_iload_n C dX5_findLeast_40 rfl 1 rfl ?_
      refine x_iload_n C dX5_findLeast_41 rfl 2 rfl ?_
      refine x_iadd C dX5_findLeast_42 ?_
      obtain ⟨g2, h⟩ := gd_some h
      refine xl_4 C g2 dX5_findLeast_43 ?_
      refine x_istore_n (lv' := [(3, .int (pv_la σ 4 (v1 + v2))), (0, .ref (ad 3)), (1, .int v1), (2, .int v2)]) C dX5_findLeast_44 rfl (by decide) rfl ?_
      refine x_iload_n C dX5_findLeast_45 rfl 0 rfl ?_
      refine x_ldc C kc_X5_59 dX5_findLeast_46 ?_
      refine x_icmp_ge C 65 dX5_findLeast_48 (by decide) (fun c3 => ?_) (fun c3 => ?_)
      · have h := (if_pos c3).symm.trans h
        refine x_iinc (v := (v2 + 1)) (lv' := [(2, .int (v2 + 1)), (3, .int (pv_la σ 4 (v1 + v2))), (0, .ref (ad 3)), (1, .int v1)]) C 3 dX5_findLeast_65 rfl rfl (by decide) rfl ?_
        refine x_goto C 31 dX5_findLeast_68 (by decide) ?_
        refine x_sub [2, 3, 0] rfl ?_
        exact ih v1 (v2 + 1) σ h
      · have h := (if_neg c3).symm.trans h
        refine x_aload_n C dX5_findLeast_51 rfl 1 rfl ?_
        refine x_aload_n C dX5_findLeast_52 rfl 1 rfl ?_
        refine xg_X5_50 C dX5_findLeast_53 ?_
        refine x_iload_n C dX5_findLeast_56 rfl 3 rfl ?_
        obtain ⟨q4, eq4, h⟩ := gb_some h
        refine x_si (st := [.int (σ.1 2), .ref (ad 3)]) C kY_J6_bitCount_0f7a4 (m_J6_bitCount_0f7a4 l D cI cZ ad C.2.2.2.2.2.2.1 v2 σ q4 eq4) kl_X5_89 ⟨rfl, rfl⟩ ⟨Nat.le_of_ble_eq_true rfl, Nat.le_of_ble_eq_true rfl⟩ ⟨Nat.zero_le _, Nat.zero_le _⟩ rfl rfl (Nat.le_of_ble_eq_true rfl) dX5_findLeast_57 ?_
        refine x_isub C dX5_findLeast_60 ?_
        refine x_iload_n C dX5_findLeast_61 rfl 0 rfl ?_
        obtain ⟨q5, eq5, h⟩ := gb_some h
        refine x_vv (st := []) C kY_X5_offer 3 5 rfl rfl rfl (m_X5_offer l D cI cZ ad C.2.2.2.2.2.2.1 ((σ.1 2) - q4.1) (pv_la σ 4 (v1 + v2)) q4.2 q5 eq5) kl_X5_94 ⟨rfl, rfl⟩ ⟨Nat.le_of_ble_eq_true rfl, Nat.le_of_ble_eq_true rfl⟩ ⟨Nat.zero_le _, Nat.zero_le _⟩ rfl rfl (Nat.le_of_ble_eq_true rfl) dX5_findLeast_62 ?_
        refine x_iinc (v := (v2 + 1)) (lv' := [(2, .int (v2 + 1)), (3, .int (pv_la σ 4 (v1 + v2))), (0, .ref (ad 3)), (1, .int v1)]) C 3 dX5_findLeast_65 rfl rfl (by decide) rfl ?_
        refine x_goto C 31 dX5_findLeast_68 (by decide) ?_
        refine x_sub [2, 3, 0] rfl ?_
        exact ih v1 (v2 + 1) q5 h
set_option maxRecDepth 100000 in
set_option maxHeartbeats 4000000 in
theorem w_X5_findLeast_0 {p : Program} {l : Launch} {e : Env} {s : State} {m : MethodId} {args : Array Value} {below : List Frame} {meth : Method} {c : Code} {D : va_G} {cI cZ : ClassId} {ad : Nat → Nat} (C : pv_C p s m args meth c cX5_findLeast 4 RX5 D cI cZ ad (pv_A ad)) (hr : meth.sig.returnType = none) (R0 : pv_S) (σ : pv_S) (h : f_X5_findLeast σ = some R0) : Wx p l e r_X5_findLeast s m args below meth c 0 0 (MQ below (pv_QV D cI cZ ad R0) args s 0 0 (pv_A ad)) 4 D cI cZ ad (pv_A ad) 0 [(0, .ref (ad 3))] [] σ := by
  unfold f_X5_findLeast at h
  refine x_aload_n C dX5_findLeast_0 rfl 0 rfl ?_
  refine xg_X5_18 C dX5_findLeast_1 ?_
  refine x_iconst (v := (-1)) C dX5_findLeast_4 (by decide) ?_
  obtain ⟨q1, eq1, h⟩ := gb_some h
  refine x_sv (st := []) C kY_J7_fill_53178 (m_J7_fill_53178_14 l D cI cZ ad C.2.2.2.2.2.2.1 (-1) σ q1 eq1) kl_X5_83 ⟨rfl, rfl⟩ ⟨Nat.le_of_ble_eq_true rfl, Nat.le_of_ble_eq_true rfl⟩ ⟨Nat.zero_le _, Nat.zero_le _⟩ rfl rfl (Nat.le_of_ble_eq_true rfl) dX5_findLeast_5 ?_
  refine x_aload_n C dX5_findLeast_8 rfl 0 rfl ?_
  refine xg_X5_50 C dX5_findLeast_9 ?_
  refine x_if_ne C 23 dX5_findLeast_12 (by decide) (fun c2 => ?_) (fun c2 => ?_)
  · have h := (if_neg c2).symm.trans h
    refine x_aload_n C dX5_findLeast_23 rfl 0 rfl ?_
    refine x_iconst (v := 0) C dX5_findLeast_24 (by decide) ?_
    obtain ⟨q3, eq3, h⟩ := gb_some h
    refine x_vi (st := []) C kY_X5_bit 3 5 rfl rfl rfl (m_X5_bit l D cI cZ ad C.2.2.2.2.2.2.1 0 q1 q3 eq3) kl_X5_66 ⟨rfl, rfl⟩ ⟨Nat.le_of_ble_eq_true rfl, Nat.le_of_ble_eq_true rfl⟩ ⟨Nat.zero_le _, Nat.zero_le _⟩ rfl rfl (Nat.le_of_ble_eq_true rfl) dX5_findLeast_25 ?_
    refine x_istore_n (lv' := [(1, .int q3.1), (0, .ref (ad 3))]) C dX5_findLeast_28 rfl (by decide) rfl ?_
    refine x_iconst (v := 0) C dX5_findLeast_29 (by decide) ?_
    refine x_istore_n (lv' := [(2, .int 0), (1, .int q3.1), (0, .ref (ad 3))]) C dX5_findLeast_30 rfl (by decide) rfl ?_
    refine x_sub [2, 1, 0] rfl ?_
    exact w_X5_findLeast_31 C hr R0 pv_FU q3.1 0 q3.2 h
  · have h := (if_pos c2).symm.trans h
    refine x_aload_n C dX5_findLeast_15 rfl 0 rfl ?_
    refine xg_X5_18 C dX5_findLeast_16 ?_
    refine x_iconst (v := 0) C dX5_findLeast_19 (by decide) ?_
    refine x_iconst (v := 0) C dX5_findLeast_20 (by decide) ?_
    obtain ⟨g4, h⟩ := gd_some h
    refine xs_5 C g4 dX5_findLeast_21 ?_
    exact x_vret C hr dX5_findLeast_22 (Option.some.inj h)
theorem m_X5_findLeast (l : Launch) (D : va_G) (cI cZ : ClassId) (ad : Nat → Nat) (hJ : pv_J ad)  (σ : pv_S) (R0 : pv_S) (h : f_X5_findLeast σ = some R0) : Met l yX5_findLeast (Cond.code yX5_findLeast cX5_findLeast 4 (none) :: lwG) r_X5_findLeast (va_Pc [.ref (ad 3)] (pv_P D cI cZ ad σ)) (pv_QV D cI cZ ad R0) 0 0 (pv_A ad) := x_met (by decide) rfl hJ (Nat.le_of_ble_eq_true rfl) (fun p e s m args below meth c C hr => w_X5_findLeast_0 C hr R0 σ h)
abbrev r_X5_lineCost : Room := { frames := 0, cells := 0, slots := 0, locals := 0 }
set_option maxRecDepth 100000 in
set_option maxHeartbeats 4000000 in
theorem w_X5_lineCost_0 {p : Program} {l : Launch} {e : Env} {s : State} {m : MethodId} {args : Array Value} {below : List Frame} {meth : Method} {c : Code} {D : va_G} {cI cZ : ClassId} {ad : Nat → Nat} (C : pv_C p s m args meth c cX5_lineCost 3 RX5 D cI cZ ad (pv_A ad)) (hr : meth.sig.returnType = some .int) (R0 : (Int32 × pv_S)) (p0 : Int32) (p1 : Int32) (σ : pv_S) (h : f_X5_lineCost p0 p1 σ = some R0) : Wx p l e r_X5_lineCost s m args below meth c 0 0 (MQ below (pv_QI D cI cZ ad R0) args s 0 0 (pv_A ad)) 3 D cI cZ ad (pv_A ad) 0 [(0, .ref (ad 3)), (1, .int p0), (2, .int p1)] [] σ := by
  unfold f_X5_lineCost at h
  refine x_iload_n C dX5_lineCost_0 rfl 1 rfl ?_
  refine x_if_lt C 34 dX5_lineCost_1 (by decide) (fun c1 => ?_) (fun c1 => ?_)
  · have h := (if_pos c1).symm.trans h
    refine x_ldc C kc_X5_59 dX5_lineCost_34 ?_
    exact x_iret C hr dX5_lineCost_36 (Option.some.inj h)
  · have h := (if_neg c1).symm.trans h
    refine x_iload_n C dX5_lineCost_4 rfl 1 rfl ?_
    refine x_bipush (v := 10) C dX5_lineCost_5 (by decide) ?_
    refine x_icmp_ge C 34 dX5_lineCost_7 (by decide) (fun c2 => ?_) (fun c2 => ?_)
    · have h := (if_pos c2).symm.trans h
      refine x_ldc C kc_X5_59 dX5_lineCost_34 ?_
      exact x_iret C hr dX5_lineCost_36 (Option.some.inj h)
    · have h := (if_neg c2).symm.trans h
      refine x_iload_n C dX5_lineCost_10 rfl 2 rfl ?_
      refine x_if_lt C 34 dX5_lineCost_11 (by decide) (fun c3 => ?_) (fun c3 => ?_)
      · have h := (if_pos c3).symm.trans h
        refine x_ldc C kc_X5_59 dX5_lineCost_34 ?_
        exact x_iret C hr dX5_lineCost_36 (Option.some.inj h)
      · have h := (if_neg c3).symm.trans h
        refine x_iload_n C dX5_lineCost_14 rfl 2 rfl ?_
        refine x_bipush (v := 10) C dX5_lineCost_15 (by decide) ?_
        refine x_icmp_ge C 34 dX5_lineCost_17 (by decide) (fun c4 => ?_) (fun c4 => ?_)
        · have h := (if_pos c4).symm.trans h
          refine x_ldc C kc_X5_59 dX5_lineCost_34 ?_
          exact x_iret C hr dX5_lineCost_36 (Option.some.inj h)
        · have h := (if_neg c4).symm.trans h
          refine x_aload_n C dX5_lineCost_20 rfl 0 rfl ?_
          refine xg_X5_9 C dX5_lineCost_21 ?_
          refine x_iload_n C dX5_lineCost_24 rfl 1 rfl ?_
          refine x_bipush (v := 10) C dX5_lineCost_25 (by decide) ?_
          refine x_imul C dX5_lineCost_27 ?_
          refine x_iload_n C dX5_lineCost_28 rfl 2 rfl ?_
          refine x_iadd C dX5_lineCost_29 ?_
          obtain ⟨g5, h⟩ := gd_some h
          refine xl_3 C g5 dX5_lineCost_30 ?_
          refine x_goto C 36 dX5_lineCost_31 (by decide) ?_
          exact x_iret C hr dX5_lineCost_36 (Option.some.inj h)
theorem m_X5_lineCost (l : Launch) (D : va_G) (cI cZ : ClassId) (ad : Nat → Nat) (hJ : pv_J ad) (p0 : Int32) (p1 : Int32) (σ : pv_S) (R0 : (Int32 × pv_S)) (h : f_X5_lineCost p0 p1 σ = some R0) : Met l yX5_lineCost (Cond.code yX5_lineCost cX5_lineCost 3 (some .int) :: lwG) r_X5_lineCost (va_Pc [.ref (ad 3), .int p0, .int p1] (pv_P D cI cZ ad σ)) (pv_QI D cI cZ ad R0) 0 0 (pv_A ad) := x_met (by decide) rfl hJ (Nat.le_of_ble_eq_true rfl) (fun p e s m args below meth c C hr => w_X5_lineCost_0 C hr R0 p0 p1 σ h)
