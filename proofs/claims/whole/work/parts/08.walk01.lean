abbrev r_X5_weighLine : Room := { frames := 1, cells := 0, slots := 0, locals := 21 }
set_option maxRecDepth 100000 in
set_option maxHeartbeats 4000000 in
theorem w_X5_weighLine_3 {p : Program} {l : Launch} {e : Env} {s : State} {m : MethodId} {args : Array Value} {below : List Frame} {meth : Method} {c : Code} {D : va_G} {cI cZ : ClassId} {ad : Nat → Nat} (C : pv_C p s m args meth c cX5_weighLine 6 RX5 D cI cZ ad (pv_A ad)) (hr : meth.sig.returnType = none) (R0 : pv_S) : ∀ (n : Nat) (v1 : Int32) (v2 : Int32) (v3 : Int32) (v4 : Int32) (σ : pv_S), f_X5_weighLine_3 n v1 v2 v3 v4 σ = some R0 → Wx p l e r_X5_weighLine s m args below meth c 0 0 (MQ below (pv_QV D cI cZ ad R0) args s 0 0 (pv_A ad)) 6 D cI cZ ad (pv_A ad) 3 [(0, .ref (ad 3)), (1, .int v1), (2, .int v2), (3, .int v3), (4, .int v4)] [] σ := by
  intro n
  induction n with
  | zero =>
    intro v1 v2 v3 v4 σ h
    have h2 : (none : Option pv_S) = some R0 := h
    cases h2
  | succ n ih =>
    intro v1 v2 v3 v4 σ h
    unfold f_X5_weighLine_3 at h
    refine x_iload C dX5_weighLine_3 4 rfl ?_
    refine x_iload_n C dX5_weighLine_5 rfl 1 rfl ?_
    refine x_icmp_ge C 60 dX5_weighLine_6 (by decide) (fun c1 => ?_) (fun c1 => ?_)
    · have h := (if_pos c1).symm.trans h
      exact x_vret C hr dX5_weighLine_60 (Option.some.inj h)
    · have h := (if_neg c1).symm.trans h
      refine x_iload C dX5_weighLine_9 4 rfl ?_
      refine x_iload_n C dX5_weighLine_11 rfl 2 rfl ?_
      refine x_iand C dX5_weighLine_12 ?_
      refine x_if_ne C 54 dX5_weighLine_13 (by decide) (fun c2 => ?_) (fun c2 => ?_)
      · have h := (if_neg c2).symm.trans h
        refine x_iinc (v := (v4 + 1)) (lv' := [(4, .int (v4 + 1)), (0, .ref (ad 3)), (1, .int v1), (2, .int v2), (3, .int v3)]) C 4 dX5_weighLine_54 rfl rfl (by decide) rfl ?_
        refine x_goto C 3 dX5_weighLine_57 (by decide) ?_
        refine x_sub [1, 2, 3, 4, 0] rfl ?_
        exact ih v1 v2 v3 (v4 + 1) σ h
      · have h := (if_pos c2).symm.trans h
        refine x_iconst (v := 2) C dX5_weighLine_16 (by decide) ?_
        refine x_iload_n C dX5_weighLine_17 rfl 1 rfl ?_
        refine x_imul C dX5_weighLine_18 ?_
        refine x_iload C dX5_weighLine_19 4 rfl ?_
        refine x_iadd C dX5_weighLine_21 ?_
        refine x_iload_n C dX5_weighLine_22 rfl 2 rfl ?_
        refine x_iadd C dX5_weighLine_23 ?_
        refine x_istore (lv' := [(5, .int (((2 * v1) + v4) + v2)), (0, .ref (ad 3)), (1, .int v1), (2, .int v2), (3, .int v3), (4, .int v4)]) C dX5_weighLine_24 (by decide) rfl ?_
        refine x_aload_n C dX5_weighLine_26 rfl 1 rfl ?_
        refine xg_X5_15 C dX5_weighLine_27 ?_
        refine x_iload C dX5_weighLine_30 0 rfl ?_
        refine x_aload_n C dX5_weighLine_32 rfl 1 rfl ?_
        refine xg_X5_15 C dX5_weighLine_33 ?_
        refine x_iload C dX5_weighLine_36 0 rfl ?_
        obtain ⟨g3, h⟩ := gd_some h
        refine xl_4 C g3 dX5_weighLine_38 ?_
        refine x_iload_n C dX5_weighLine_39 rfl 4 rfl ?_
        refine x_aload_n C dX5_weighLine_40 rfl 1 rfl ?_
        refine xg_X5_15 C dX5_weighLine_41 ?_
        refine x_iload_n C dX5_weighLine_44 rfl 2 rfl ?_
        refine x_iload C dX5_weighLine_45 5 rfl ?_
        refine x_iadd C dX5_weighLine_47 ?_
        obtain ⟨g4, h⟩ := gd_some h
        refine xl_4 C g4 dX5_weighLine_48 ?_
        refine x_iadd C dX5_weighLine_49 ?_
        refine x_mmin C kl_X5_44 kM_min kM_init kMc_min ⟨Nat.le_of_ble_eq_true rfl, Nat.le_of_ble_eq_true rfl⟩ ⟨Nat.zero_le _, Nat.zero_le _⟩ dX5_weighLine_50 ?_
        obtain ⟨g5, h⟩ := gd_some h
        refine xs_4 C g5 dX5_weighLine_53 ?_
        refine x_iinc (v := (v4 + 1)) (lv' := [(4, .int (v4 + 1)), (5, .int (((2 * v1) + v4) + v2)), (0, .ref (ad 3)), (1, .int v1), (2, .int v2), (3, .int v3)]) C 5 dX5_weighLine_54 rfl rfl (by decide) rfl ?_
        refine x_goto C 3 dX5_weighLine_57 (by decide) ?_
        refine x_sub [2, 3, 4, 5, 0] rfl ?_
        exact ih v1 v2 v3 (v4 + 1) (pv_sa σ 4 (((2 * v1) + v4) + v2) (if (v3 + (pv_la σ 4 (v1 + v4))) < (pv_la σ 4 (((2 * v1) + v4) + v2)) then (v3 + (pv_la σ 4 (v1 + v4))) else (pv_la σ 4 (((2 * v1) + v4) + v2)))) h
set_option maxRecDepth 100000 in
set_option maxHeartbeats 4000000 in
theorem w_X5_weighLine_0 {p : Program} {l : Launch} {e : Env} {s : State} {m : MethodId} {args : Array Value} {below : List Frame} {meth : Method} {c : Code} {D : va_G} {cI cZ : ClassId} {ad : Nat → Nat} (C : pv_C p s m args meth c cX5_weighLine 6 RX5 D cI cZ ad (pv_A ad)) (hr : meth.sig.returnType = none) (R0 : pv_S) (p0 : Int32) (p1 : Int32) (p2 : Int32) (σ : pv_S) (h : f_X5_weighLine p0 p1 p2 σ = some R0) : Wx p l e r_X5_weighLine s m args below meth c 0 0 (MQ below (pv_QV D cI cZ ad R0) args s 0 0 (pv_A ad)) 6 D cI cZ ad (pv_A ad) 0 [(0, .ref (ad 3)), (1, .int p0), (2, .int p1), (3, .int p2)] [] σ := by
  unfold f_X5_weighLine at h
  refine x_iconst (v := 0) C dX5_weighLine_0 (by decide) ?_
  refine x_istore (lv' := [(4, .int 0), (0, .ref (ad 3)), (1, .int p0), (2, .int p1), (3, .int p2)]) C dX5_weighLine_1 (by decide) rfl ?_
  refine x_sub [1, 2, 3, 4, 0] rfl ?_
  exact w_X5_weighLine_3 C hr R0 pv_FU p0 p1 p2 0 σ h
theorem m_X5_weighLine (l : Launch) (D : va_G) (cI cZ : ClassId) (ad : Nat → Nat) (hJ : pv_J ad) (p0 : Int32) (p1 : Int32) (p2 : Int32) (σ : pv_S) (R0 : pv_S) (h : f_X5_weighLine p0 p1 p2 σ = some R0) : Met l yX5_weighLine (Cond.code yX5_weighLine cX5_weighLine 6 (none) :: lwG) r_X5_weighLine (va_Pc [.ref (ad 3), .int p0, .int p1, .int p2] (pv_P D cI cZ ad σ)) (pv_QV D cI cZ ad R0) 0 0 (pv_A ad) := x_met (by decide) rfl hJ (Nat.le_of_ble_eq_true rfl) (fun p e s m args below meth c C hr => w_X5_weighLine_0 C hr R0 p0 p1 p2 σ h)
abbrev r_X5_weighFrom : Room := { frames := 2, cells := 0, slots := 0, locals := 46 }
set_option maxRecDepth 100000 in
set_option maxHeartbeats 4000000 in
theorem w_X5_weighFrom_55 {p : Program} {l : Launch} {e : Env} {s : State} {m : MethodId} {args : Array Value} {below : List Frame} {meth : Method} {c : Code} {D : va_G} {cI cZ : ClassId} {ad : Nat → Nat} (C : pv_C p s m args meth c cX5_weighFrom 4 RX5 D cI cZ ad (pv_A ad)) (hr : meth.sig.returnType = none) (R0 : pv_S) : ∀ (n : Nat) (v1 : Int32) (v2 : Int32) (v3 : Int32) (σ : pv_S), f_X5_weighFrom_55 n v1 v2 v3 σ = some R0 → Wx p l e r_X5_weighFrom s m args below meth c 0 0 (MQ below (pv_QV D cI cZ ad R0) args s 0 0 (pv_A ad)) 4 D cI cZ ad (pv_A ad) 55 [(0, .ref (ad 3)), (1, .int v1), (2, .int v2), (3, .int v3)] [] σ := by
  intro n
  induction n with
  | zero =>
    intro v1 v2 v3 σ h
    have h2 : (none : Option pv_S) = some R0 := h
    cases h2
  | succ n ih =>
    intro v1 v2 v3 σ h
    unfold f_X5_weighFrom_55 at h
    refine x_iload_n C dX5_weighFrom_55 rfl 3 rfl ?_
    refine x_aload_n C dX5_weighFrom_56 rfl 0 rfl ?_
    refine xg_X5_50 C dX5_weighFrom_57 ?_
    refine x_icmp_ge C 96 dX5_weighFrom_60 (by decide) (fun c1 => ?_) (fun c1 => ?_)
    · have h := (if_pos c1).symm.trans h
      exact x_vret C hr dX5_weighFrom_96 (Option.some.inj h)
    · have h := (if_neg c1).symm.trans h
      refine x_aload_n C dX5_weighFrom_63 rfl 0 rfl ?_
      refine x_iload_n C dX5_weighFrom_64 rfl 1 rfl ?_
      refine x_iload_n C dX5_weighFrom_65 rfl 3 rfl ?_
      obtain ⟨q2, eq2, h⟩ := gb_some h
      refine x_vi (st := []) C kY_X5_lineCost 3 5 rfl rfl rfl (m_X5_lineCost l D cI cZ ad C.2.2.2.2.2.2.1 v1 v3 σ q2 eq2) kl_X5_76 ⟨rfl, rfl⟩ ⟨Nat.le_of_ble_eq_true rfl, Nat.le_of_ble_eq_true rfl⟩ ⟨Nat.zero_le _, Nat.zero_le _⟩ rfl rfl (Nat.le_of_ble_eq_true rfl) dX5_weighFrom_66 ?_
      refine x_ldc C kc_X5_59 dX5_weighFrom_69 ?_
      refine x_icmp_ge C 90 dX5_weighFrom_71 (by decide) (fun c3 => ?_) (fun c3 => ?_)
      · have h := (if_pos c3).symm.trans h
        refine x_iinc (v := (v3 + 1)) (lv' := [(3, .int (v3 + 1)), (0, .ref (ad 3)), (1, .int v1), (2, .int v2)]) C 3 dX5_weighFrom_90 rfl rfl (by decide) rfl ?_
        refine x_goto C 55 dX5_weighFrom_93 (by decide) ?_
        refine x_sub [1, 2, 3, 0] rfl ?_
        exact ih v1 v2 (v3 + 1) q2.2 h
      · have h := (if_neg c3).symm.trans h
        refine x_aload_n C dX5_weighFrom_74 rfl 0 rfl ?_
        refine x_iload_n C dX5_weighFrom_75 rfl 2 rfl ?_
        refine x_aload_n C dX5_weighFrom_76 rfl 0 rfl ?_
        refine x_iload_n C dX5_weighFrom_77 rfl 3 rfl ?_
        obtain ⟨q4, eq4, h⟩ := gb_some h
        refine x_vi (st := [.int v2, .ref (ad 3)]) C kY_X5_bit 3 5 rfl rfl rfl (m_X5_bit l D cI cZ ad C.2.2.2.2.2.2.1 v3 q2.2 q4 eq4) kl_X5_66 ⟨rfl, rfl⟩ ⟨Nat.le_of_ble_eq_true rfl, Nat.le_of_ble_eq_true rfl⟩ ⟨Nat.zero_le _, Nat.zero_le _⟩ rfl rfl (Nat.le_of_ble_eq_true rfl) dX5_weighFrom_78 ?_
        refine x_aload_n C dX5_weighFrom_81 rfl 0 rfl ?_
        refine x_iload_n C dX5_weighFrom_82 rfl 1 rfl ?_
        refine x_iload_n C dX5_weighFrom_83 rfl 3 rfl ?_
        obtain ⟨q5, eq5, h⟩ := gb_some h
        refine x_vi (st := [.int q4.1, .int v2, .ref (ad 3)]) C kY_X5_lineCost 3 5 rfl rfl rfl (m_X5_lineCost l D cI cZ ad C.2.2.2.2.2.2.1 v1 v3 q4.2 q5 eq5) kl_X5_76 ⟨rfl, rfl⟩ ⟨Nat.le_of_ble_eq_true rfl, Nat.le_of_ble_eq_true rfl⟩ ⟨Nat.zero_le _, Nat.zero_le _⟩ rfl rfl (Nat.le_of_ble_eq_true rfl) dX5_weighFrom_84 ?_
        obtain ⟨q6, eq6, h⟩ := gb_some h
        refine x_vv (st := []) C kY_X5_weighLine 3 5 rfl rfl rfl (m_X5_weighLine l D cI cZ ad C.2.2.2.2.2.2.1 v2 q4.1 q5.1 q5.2 q6 eq6) kl_X5_79 ⟨rfl, rfl⟩ ⟨Nat.le_of_ble_eq_true rfl, Nat.le_of_ble_eq_true rfl⟩ ⟨Nat.zero_le _, Nat.zero_le _⟩ rfl rfl (Nat.le_of_ble_eq_true rfl) dX5_weighFrom_87 ?_
        refine x_iinc (v := (v3 + 1)) (lv' := [(3, .int (v3 + 1)), (0, .ref (ad 3)), (1, .int v1), (2, .int v2)]) C 3 dX5_weighFrom_90 rfl rfl (by decide) rfl ?_
        refine x_goto C 55 dX5_weighFrom_93 (by decide) ?_
        refine x_sub [1, 2, 3, 0] rfl ?_
        exact ih v1 v2 (v3 + 1) q6 h
set_option maxRecDepth 100000 in
set_option maxHeartbeats 4000000 in
theorem w_X5_weighFrom_10 {p : Program} {l : Launch} {e : Env} {s : State} {m : MethodId} {args : Array Value} {below : List Frame} {meth : Method} {c : Code} {D : va_G} {cI cZ : ClassId} {ad : Nat → Nat} (C : pv_C p s m args meth c cX5_weighFrom 4 RX5 D cI cZ ad (pv_A ad)) (hr : meth.sig.returnType = none) (R0 : pv_S) : ∀ (n : Nat) (v1 : Int32) (v2 : Int32) (v3 : Int32) (σ : pv_S), f_X5_weighFrom_10 n v1 v2 v3 σ = some R0 → Wx p l e r_X5_weighFrom s m args below meth c 0 0 (MQ below (pv_QV D cI cZ ad R0) args s 0 0 (pv_A ad)) 4 D cI cZ ad (pv_A ad) 10 [(0, .ref (ad 3)), (1, .int v1), (2, .int v2), (3, .int v3)] [] σ := by
  intro n
  induction n with
  | zero =>
    intro v1 v2 v3 σ h
    have h2 : (none : Option pv_S) = some R0 := h
    cases h2
  | succ n ih =>
    intro v1 v2 v3 σ h
    unfold f_X5_weighFrom_10 at h
    refine x_iload_n C dX5_weighFrom_10 rfl 3 rfl ?_
    refine x_iload_n C dX5_weighFrom_11 rfl 2 rfl ?_
    refine x_icmp_ge C 51 dX5_weighFrom_12 (by decide) (fun c1 => ?_) (fun c1 => ?_)
    · have h := (if_pos c1).symm.trans h
      refine x_iload_n C dX5_weighFrom_51 rfl 1 rfl ?_
      refine x_iconst (v := 1) C dX5_weighFrom_52 (by decide) ?_
      refine x_iadd C dX5_weighFrom_53 ?_
      refine x_istore_n (lv' := [(3, .int (v1 + 1)), (0, .ref (ad 3)), (1, .int v1), (2, .int v2)]) C dX5_weighFrom_54 rfl (by decide) rfl ?_
      refine x_sub [1, 2, 3, 0] rfl ?_
      exact w_X5_weighFrom_55 C hr R0 pv_FU v1 v2 (v1 + 1) σ h
    · have h := (if_neg c1).symm.trans h
      refine x_aload_n C dX5_weighFrom_15 rfl 0 rfl ?_
      refine xg_X5_15 C dX5_weighFrom_16 ?_
      refine x_iconst (v := 2) C dX5_weighFrom_19 (by decide) ?_
      refine x_iload_n C dX5_weighFrom_20 rfl 2 rfl ?_
      refine x_imul C dX5_weighFrom_21 ?_
      refine x_iload_n C dX5_weighFrom_22 rfl 3 rfl ?_
      refine x_iadd C dX5_weighFrom_23 ?_
      refine x_aload_n C dX5_weighFrom_24 rfl 0 rfl ?_
      refine xg_X5_15 C dX5_weighFrom_25 ?_
      refine x_iload_n C dX5_weighFrom_28 rfl 2 rfl ?_
      refine x_iload_n C dX5_weighFrom_29 rfl 3 rfl ?_
      refine x_iadd C dX5_weighFrom_30 ?_
      obtain ⟨g2, h⟩ := gd_some h
      refine xl_4 C g2 dX5_weighFrom_31 ?_
      obtain ⟨g3, h⟩ := gd_some h
      refine xs_4 C g3 dX5_weighFrom_32 ?_
      refine x_aload_n C dX5_weighFrom_33 rfl 0 rfl ?_
      refine xg_X5_15 C dX5_weighFrom_34 ?_
      refine x_iconst (v := 3) C dX5_weighFrom_37 (by decide) ?_
      refine x_iload_n C dX5_weighFrom_38 rfl 2 rfl ?_
      refine x_imul C dX5_weighFrom_39 ?_
      refine x_iload_n C dX5_weighFrom_40 rfl 3 rfl ?_
      refine x_iadd C dX5_weighFrom_41 ?_
      refine x_ldc C kc_X5_59 dX5_weighFrom_42 ?_
      obtain ⟨g4, h⟩ := gd_some h
      refine xs_4 C g4 dX5_weighFrom_44 ?_
      refine x_iinc (v := (v3 + 1)) (lv' := [(3, .int (v3 + 1)), (0, .ref (ad 3)), (1, .int v1), (2, .int v2)]) C 3 dX5_weighFrom_45 rfl rfl (by decide) rfl ?_
      refine x_goto C 10 dX5_weighFrom_48 (by decide) ?_
      refine x_sub [1, 2, 3, 0] rfl ?_
      exact ih v1 v2 (v3 + 1) (pv_sa (pv_sa σ 4 ((2 * v2) + v3) (pv_la σ 4 (v2 + v3))) 4 ((3 * v2) + v3) 1000000) h
set_option maxRecDepth 100000 in
set_option maxHeartbeats 4000000 in
theorem w_X5_weighFrom_0 {p : Program} {l : Launch} {e : Env} {s : State} {m : MethodId} {args : Array Value} {below : List Frame} {meth : Method} {c : Code} {D : va_G} {cI cZ : ClassId} {ad : Nat → Nat} (C : pv_C p s m args meth c cX5_weighFrom 4 RX5 D cI cZ ad (pv_A ad)) (hr : meth.sig.returnType = none) (R0 : pv_S) (p0 : Int32) (σ : pv_S) (h : f_X5_weighFrom p0 σ = some R0) : Wx p l e r_X5_weighFrom s m args below meth c 0 0 (MQ below (pv_QV D cI cZ ad R0) args s 0 0 (pv_A ad)) 4 D cI cZ ad (pv_A ad) 0 [(0, .ref (ad 3)), (1, .int p0)] [] σ := by
  unfold f_X5_weighFrom at h
  refine x_aload_n C dX5_weighFrom_0 rfl 0 rfl ?_
  refine x_iload_n C dX5_weighFrom_1 rfl 1 rfl ?_
  refine x_iconst (v := 1) C dX5_weighFrom_2 (by decide) ?_
  refine x_iadd C dX5_weighFrom_3 ?_
  obtain ⟨q1, eq1, h⟩ := gb_some h
  refine x_vi (st := []) C kY_X5_bit 3 5 rfl rfl rfl (m_X5_bit l D cI cZ ad C.2.2.2.2.2.2.1 (p0 + 1) σ q1 eq1) kl_X5_66 ⟨rfl, rfl⟩ ⟨Nat.le_of_ble_eq_true rfl, Nat.le_of_ble_eq_true rfl⟩ ⟨Nat.zero_le _, Nat.zero_le _⟩ rfl rfl (Nat.le_of_ble_eq_true rfl) dX5_weighFrom_4 ?_
  refine x_istore_n (lv' := [(2, .int q1.1), (0, .ref (ad 3)), (1, .int p0)]) C dX5_weighFrom_7 rfl (by decide) rfl ?_
  refine x_iconst (v := 0) C dX5_weighFrom_8 (by decide) ?_
  refine x_istore_n (lv' := [(3, .int 0), (2, .int q1.1), (0, .ref (ad 3)), (1, .int p0)]) C dX5_weighFrom_9 rfl (by decide) rfl ?_
  refine x_sub [2, 3, 1, 0] rfl ?_
  exact w_X5_weighFrom_10 C hr R0 pv_FU p0 q1.1 0 q1.2 h
theorem m_X5_weighFrom (l : Launch) (D : va_G) (cI cZ : ClassId) (ad : Nat → Nat) (hJ : pv_J ad) (p0 : Int32) (σ : pv_S) (R0 : pv_S) (h : f_X5_weighFrom p0 σ = some R0) : Met l yX5_weighFrom (Cond.code yX5_weighFrom cX5_weighFrom 4 (none) :: lwG) r_X5_weighFrom (va_Pc [.ref (ad 3), .int p0] (pv_P D cI cZ ad σ)) (pv_QV D cI cZ ad R0) 0 0 (pv_A ad) := x_met (by decide) rfl hJ (Nat.le_of_ble_eq_true rfl) (fun p e s m args below meth c C hr => w_X5_weighFrom_0 C hr R0 p0 σ h)
abbrev r_X5_barredOr : Room := { frames := 0, cells := 0, slots := 0, locals := 0 }
set_option maxRecDepth 100000 in
set_option maxHeartbeats 4000000 in
theorem w_X5_barredOr_0 {p : Program} {l : Launch} {e : Env} {s : State} {m : MethodId} {args : Array Value} {below : List Frame} {meth : Method} {c : Code} {D : va_G} {cI cZ : ClassId} {ad : Nat → Nat} (C : pv_C p s m args meth c cX5_barredOr 1 RX5 D cI cZ ad (pv_A ad)) (hr : meth.sig.returnType = some .int) (R0 : (Int32 × pv_S)) (p0 : Int32) (σ : pv_S) (h : f_X5_barredOr p0 σ = some R0) : Wx p l e r_X5_barredOr s m args below meth c 0 0 (MQ below (pv_QI D cI cZ ad R0) args s 0 0 (pv_A ad)) 1 D cI cZ ad (pv_A ad) 0 [(0, .int p0)] [] σ := by
  unfold f_X5_barredOr at h
  refine x_iload_n C dX5_barredOr_0 rfl 0 rfl ?_
  refine x_iconst (v := (-1)) C dX5_barredOr_1 (by decide) ?_
  refine x_icmp_ne C 10 dX5_barredOr_2 (by decide) (fun c1 => ?_) (fun c1 => ?_)
  · have h := (if_neg c1).symm.trans h
    refine x_iload_n C dX5_barredOr_10 rfl 0 rfl ?_
    exact x_iret C hr dX5_barredOr_11 (Option.some.inj h)
  · have h := (if_pos c1).symm.trans h
    refine x_ldc C kc_X5_59 dX5_barredOr_5 ?_
    refine x_goto C 11 dX5_barredOr_7 (by decide) ?_
    exact x_iret C hr dX5_barredOr_11 (Option.some.inj h)
theorem m_X5_barredOr (l : Launch) (D : va_G) (cI cZ : ClassId) (ad : Nat → Nat) (hJ : pv_J ad) (p0 : Int32) (σ : pv_S) (R0 : (Int32 × pv_S)) (h : f_X5_barredOr p0 σ = some R0) : Met l yX5_barredOr (Cond.code yX5_barredOr cX5_barredOr 1 (some .int) :: lwG) r_X5_barredOr (va_Pc [.int p0] (pv_P D cI cZ ad σ)) (pv_QI D cI cZ ad R0) 0 0 (pv_A ad) := x_met (by decide) rfl hJ (Nat.le_of_ble_eq_true rfl) (fun p e s m args below meth c C hr => w_X5_barredOr_0 C hr R0 p0 σ h)
abbrev r_X5_weigh : Room := { frames := 4, cells := 0, slots := 0, locals := 91 }
set_option maxRecDepth 100000 in
set_option maxHeartbeats 4000000 in
theorem w_X5_weigh_167 {p : Program} {l : Launch} {e : Env} {s : State} {m : MethodId} {args : Array Value} {below : List Frame} {meth : Method} {c : Code} {D : va_G} {cI cZ : ClassId} {ad : Nat → Nat} (C : pv_C p s m args meth c cX5_weigh 4 RX5 D cI cZ ad (pv_A ad)) (hr : meth.sig.returnType = none) (R0 : pv_S) : ∀ (n : Nat) (v2 : Int32) (σ : pv_S), f_X5_weigh_167 n v2 σ = some R0 → Wx p l e r_X5_weigh s m args below meth c 0 0 (MQ below (pv_QV D cI cZ ad R0) args s 0 0 (pv_A ad)) 4 D cI cZ ad (pv_A ad) 167 [(0, .ref (ad 3)), (2, .int v2)] [] σ := by
  intro n
  induction n with
  | zero =>
    intro v2 σ h
    have h2 : (none : Option pv_S) = some R0 := h
    cases h2
  | succ n ih =>
    intro v2 σ h
    unfold f_X5_weigh_167 at h
    refine x_iload_n C dX5_weigh_167 rfl 1 rfl ?_
    refine x_if_lt C 182 dX5_weigh_168 (by decide) (fun c1 => ?_) (fun c1 => ?_)
    · have h := (if_pos c1).symm.trans h
      refine x_aload_n C dX5_weigh_182 rfl 0 rfl ?_
      obtain ⟨q2, eq2, h⟩ := gb_some h
      refine x_vv (st := []) C kY_X5_findLeast 3 5 rfl rfl rfl (m_X5_findLeast l D cI cZ ad C.2.2.2.2.2.2.1 σ q2 eq2) kl_X5_73 ⟨rfl, rfl⟩ ⟨Nat.le_of_ble_eq_true rfl, Nat.le_of_ble_eq_true rfl⟩ ⟨Nat.zero_le _, Nat.zero_le _⟩ rfl rfl (Nat.le_of_ble_eq_true rfl) dX5_weigh_183 ?_
      exact x_vret C hr dX5_weigh_186 (Option.some.inj h)
    · have h := (if_neg c1).symm.trans h
      refine x_aload_n C dX5_weigh_171 rfl 0 rfl ?_
      refine x_iload_n C dX5_weigh_172 rfl 1 rfl ?_
      obtain ⟨q3, eq3, h⟩ := gb_some h
      refine x_vv (st := []) C kY_X5_weighFrom 3 5 rfl rfl rfl (m_X5_weighFrom l D cI cZ ad C.2.2.2.2.2.2.1 v2 σ q3 eq3) kl_X5_69 ⟨rfl, rfl⟩ ⟨Nat.le_of_ble_eq_true rfl, Nat.le_of_ble_eq_true rfl⟩ ⟨Nat.zero_le _, Nat.zero_le _⟩ rfl rfl (Nat.le_of_ble_eq_true rfl) dX5_weigh_173 ?_
      refine x_iinc (v := (v2 + (-1))) (lv' := [(2, .int (v2 + (-1))), (0, .ref (ad 3))]) C 1 dX5_weigh_176 rfl rfl (by decide) rfl ?_
      refine x_goto C 167 dX5_weigh_179 (by decide) ?_
      refine x_sub [1, 0] rfl ?_
      exact ih (v2 + (-1)) q3 h
set_option maxRecDepth 100000 in
set_option maxHeartbeats 4000000 in
theorem w_X5_weigh_124 {p : Program} {l : Launch} {e : Env} {s : State} {m : MethodId} {args : Array Value} {below : List Frame} {meth : Method} {c : Code} {D : va_G} {cI cZ : ClassId} {ad : Nat → Nat} (C : pv_C p s m args meth c cX5_weigh 4 RX5 D cI cZ ad (pv_A ad)) (hr : meth.sig.returnType = none) (R0 : pv_S) (K69 : Int32 → Int32 → pv_S → Option pv_S) (hK69 : ∀ (v1 : Int32) (v2 : Int32) (σ : pv_S), K69 v1 v2 σ = some R0 → Wx p l e r_X5_weigh s m args below meth c 0 0 (MQ below (pv_QV D cI cZ ad R0) args s 0 0 (pv_A ad)) 4 D cI cZ ad (pv_A ad) 69 [(0, .ref (ad 3)), (1, .int v1), (2, .int v2)] [] σ) (K79 : Int32 → Int32 → Int32 → pv_S → Option pv_S) (hK79 : ∀ (v1 : Int32) (v2 : Int32) (v3 : Int32) (σ : pv_S), K79 v1 v2 v3 σ = some R0 → Wx p l e r_X5_weigh s m args below meth c 0 0 (MQ below (pv_QV D cI cZ ad R0) args s 0 0 (pv_A ad)) 4 D cI cZ ad (pv_A ad) 79 [(0, .ref (ad 3)), (1, .int v1), (2, .int v2), (3, .int v3)] [] σ) (v1 : Int32) (v2 : Int32) (v3 : Int32) (s0 : Int32) (s1 : Int32) (σ : pv_S) (h : f_X5_weigh_124 K69 K79 v1 v2 v3 s0 s1 σ = some R0) : Wx p l e r_X5_weigh s m args below meth c 0 0 (MQ below (pv_QV D cI cZ ad R0) args s 0 0 (pv_A ad)) 4 D cI cZ ad (pv_A ad) 124 [(0, .ref (ad 3)), (1, .int v1), (2, .int v2), (3, .int v3)] [.int s0, .int s1, .ref (ad 12)] σ := by
  unfold f_X5_weigh_124 at h
  obtain ⟨g1, h⟩ := gd_some h
  refine xs_3 C g1 dX5_weigh_124 ?_
  refine x_iinc (v := (v3 + 1)) (lv' := [(3, .int (v3 + 1)), (0, .ref (ad 3)), (1, .int v1), (2, .int v2)]) C 3 dX5_weigh_125 rfl rfl (by decide) rfl ?_
  refine x_goto C 79 dX5_weigh_128 (by decide) ?_
  refine x_sub [1, 2, 3, 0] rfl ?_
  exact hK79 v1 v2 (v3 + 1) (pv_sa σ 3 s1 s0) h
set_option maxRecDepth 100000 in
set_option maxHeartbeats 4000000 in
theorem w_X5_weigh_79 {p : Program} {l : Launch} {e : Env} {s : State} {m : MethodId} {args : Array Value} {below : List Frame} {meth : Method} {c : Code} {D : va_G} {cI cZ : ClassId} {ad : Nat → Nat} (C : pv_C p s m args meth c cX5_weigh 4 RX5 D cI cZ ad (pv_A ad)) (hr : meth.sig.returnType = none) (R0 : pv_S) (K69 : Int32 → Int32 → pv_S → Option pv_S) (hK69 : ∀ (v1 : Int32) (v2 : Int32) (σ : pv_S), K69 v1 v2 σ = some R0 → Wx p l e r_X5_weigh s m args below meth c 0 0 (MQ below (pv_QV D cI cZ ad R0) args s 0 0 (pv_A ad)) 4 D cI cZ ad (pv_A ad) 69 [(0, .ref (ad 3)), (1, .int v1), (2, .int v2)] [] σ) : ∀ (n : Nat) (v1 : Int32) (v2 : Int32) (v3 : Int32) (σ : pv_S), f_X5_weigh_79 K69 n v1 v2 v3 σ = some R0 → Wx p l e r_X5_weigh s m args below meth c 0 0 (MQ below (pv_QV D cI cZ ad R0) args s 0 0 (pv_A ad)) 4 D cI cZ ad (pv_A ad) 79 [(0, .ref (ad 3)), (1, .int v1), (2, .int v2), (3, .int v3)] [] σ := by
  intro n
  induction n with
  | zero =>
    intro v1 v2 v3 σ h
    have h2 : (none : Option pv_S) = some R0 := h
    cases h2
  | succ n ih =>
    intro v1 v2 v3 σ h
    unfold f_X5_weigh_79 at h
    refine x_iload_n C dX5_weigh_79 rfl 3 rfl ?_
    refine x_aload_n C dX5_weigh_80 rfl 0 rfl ?_
    refine xg_X5_50 C dX5_weigh_81 ?_
    refine x_icmp_ge C 131 dX5_weigh_84 (by decide) (fun c1 => ?_) (fun c1 => ?_)
    · have h := (if_pos c1).symm.trans h
      refine x_iinc (v := (v2 + 1)) (lv' := [(2, .int (v2 + 1)), (0, .ref (ad 3)), (1, .int v1), (3, .int v3)]) C 2 dX5_weigh_131 rfl rfl (by decide) rfl ?_
      refine x_goto C 69 dX5_weigh_134 (by decide) ?_
      refine x_sub [1, 2, 0] rfl ?_
      exact hK69 v1 (v2 + 1) σ h
    · have h := (if_neg c1).symm.trans h
      refine x_aload_n C dX5_weigh_87 rfl 0 rfl ?_
      refine xg_X5_9 C dX5_weigh_88 ?_
      refine x_iload_n C dX5_weigh_91 rfl 2 rfl ?_
      refine x_bipush (v := 10) C dX5_weigh_92 (by decide) ?_
      refine x_imul C dX5_weigh_94 ?_
      refine x_iload_n C dX5_weigh_95 rfl 3 rfl ?_
      refine x_iadd C dX5_weigh_96 ?_
      refine x_iload_n C dX5_weigh_97 rfl 2 rfl ?_
      refine x_iload_n C dX5_weigh_98 rfl 1 rfl ?_
      refine x_icmp_eq C 107 dX5_weigh_99 (by decide) (fun c2 => ?_) (fun c2 => ?_)
      · have h := (if_pos c2).symm.trans h
        refine x_ldc C kc_X5_59 dX5_weigh_107 ?_
        refine x_goto C 124 dX5_weigh_109 (by decide) ?_
        exact w_X5_weigh_124 C hr R0 K69 hK69 (f_X5_weigh_79 K69 n) ih v1 v2 v3 1000000 ((v2 * 10) + v3) σ h
      · have h := (if_neg c2).symm.trans h
        refine x_iload_n C dX5_weigh_102 rfl 3 rfl ?_
        refine x_iload_n C dX5_weigh_103 rfl 1 rfl ?_
        refine x_icmp_ne C 112 dX5_weigh_104 (by decide) (fun c3 => ?_) (fun c3 => ?_)
        · have h := (if_neg c3).symm.trans h
          refine x_aload_n C dX5_weigh_112 rfl 0 rfl ?_
          refine xg_X5_31 C dX5_weigh_113 ?_
          refine x_iload_n C dX5_weigh_116 rfl 2 rfl ?_
          refine x_iload_n C dX5_weigh_117 rfl 3 rfl ?_
          obtain ⟨q4, eq4, h⟩ := gb_some h
          refine x_vi (st := [.int ((v2 * 10) + v3), .ref (ad 12)]) C kY_X6_costToFollow 1 6 rfl rfl rfl (m_X6_costToFollow l D cI cZ ad C.2.2.2.2.2.2.1 v2 v3 σ q4 eq4) kl_X5_60 ⟨rfl, rfl⟩ ⟨Nat.le_of_ble_eq_true rfl, Nat.le_of_ble_eq_true rfl⟩ ⟨Nat.zero_le _, Nat.zero_le _⟩ rfl rfl (Nat.le_of_ble_eq_true rfl) dX5_weigh_118 ?_
          obtain ⟨q5, eq5, h⟩ := gb_some h
          refine x_si (st := [.int ((v2 * 10) + v3), .ref (ad 12)]) C kY_X5_barredOr (m_X5_barredOr l D cI cZ ad C.2.2.2.2.2.2.1 q4.1 q4.2 q5 eq5) kl_X5_63 ⟨rfl, rfl⟩ ⟨Nat.le_of_ble_eq_true rfl, Nat.le_of_ble_eq_true rfl⟩ ⟨Nat.zero_le _, Nat.zero_le _⟩ rfl rfl (Nat.le_of_ble_eq_true rfl) dX5_weigh_121 ?_
          exact w_X5_weigh_124 C hr R0 K69 hK69 (f_X5_weigh_79 K69 n) ih v1 v2 v3 q5.1 ((v2 * 10) + v3) q5.2 h
        · have h := (if_pos c3).symm.trans h
          refine x_ldc C kc_X5_59 dX5_weigh_107 ?_
          refine x_goto C 124 dX5_weigh_109 (by decide) ?_
          exact w_X5_weigh_124 C hr R0 K69 hK69 (f_X5_weigh_79 K69 n) ih v1 v2 v3 1000000 ((v2 * 10) + v3) σ h
set_option maxRecDepth 100000 in
set_option maxHeartbeats 4000000 in
theorem w_X5_weigh_69 {p : Program} {l : Launch} {e : Env} {s : State} {m : MethodId} {args : Array Value} {below : List Frame} {meth : Method} {c : Code} {D : va_G} {cI cZ : ClassId} {ad : Nat → Nat} (C : pv_C p s m args meth c cX5_weigh 4 RX5 D cI cZ ad (pv_A ad)) (hr : meth.sig.returnType = none) (R0 : pv_S) : ∀ (n : Nat) (v1 : Int32) (v2 : Int32) (σ : pv_S), f_X5_weigh_69 n v1 v2 σ = some R0 → Wx p l e r_X5_weigh s m args below meth c 0 0 (MQ below (pv_QV D cI cZ ad R0) args s 0 0 (pv_A ad)) 4 D cI cZ ad (pv_A ad) 69 [(0, .ref (ad 3)), (1, .int v1), (2, .int v2)] [] σ := by
  intro n
  induction n with
  | zero =>
    intro v1 v2 σ h
    have h2 : (none : Option pv_S) = some R0 := h
    cases h2
  | succ n ih =>
    intro v1 v2 σ h
    unfold f_X5_weigh_69 at h
    refine x_iload_n C dX5_weigh_69 rfl 2 rfl ?_
    refine x_aload_n C dX5_weigh_70 rfl 0 rfl ?_
    refine xg_X5_50 C dX5_weigh_71 ?_
    refine x_icmp_ge C 137 dX5_weigh_74 (by decide) (fun c1 => ?_) (fun c1 => ?_)
    · have h := (if_pos c1).symm.trans h
      refine x_aload_n C dX5_weigh_137 rfl 0 rfl ?_
      refine xg_X5_50 C dX5_weigh_138 ?_
      refine x_if_le C 160 dX5_weigh_141 (by decide) (fun c2 => ?_) (fun c2 => ?_)
      · have h := (if_pos c2).symm.trans h
        refine x_aload_n C dX5_weigh_160 rfl 0 rfl ?_
        refine xg_X5_50 C dX5_weigh_161 ?_
        refine x_iconst (v := 2) C dX5_weigh_164 (by decide) ?_
        refine x_isub C dX5_weigh_165 ?_
        refine x_istore_n (lv' := [(2, .int ((σ.1 2) - 2)), (0, .ref (ad 3)), (1, .int v1)]) C dX5_weigh_166 rfl (by decide) rfl ?_
        refine x_sub [1, 0] rfl ?_
        exact w_X5_weigh_167 C hr R0 pv_FU ((σ.1 2) - 2) σ h
      · have h := (if_neg c2).symm.trans h
        refine x_aload_n C dX5_weigh_144 rfl 0 rfl ?_
        refine xg_X5_15 C dX5_weigh_145 ?_
        refine x_aload_n C dX5_weigh_148 rfl 0 rfl ?_
        refine x_aload_n C dX5_weigh_149 rfl 0 rfl ?_
        refine xg_X5_50 C dX5_weigh_150 ?_
        refine x_iconst (v := 1) C dX5_weigh_153 (by decide) ?_
        refine x_isub C dX5_weigh_154 ?_
        obtain ⟨q3, eq3, h⟩ := gb_some h
        refine x_vi (st := [.ref (ad 13)]) C kY_X5_bit 3 5 rfl rfl rfl (m_X5_bit l D cI cZ ad C.2.2.2.2.2.2.1 ((σ.1 2) - 1) σ q3 eq3) kl_X5_66 ⟨rfl, rfl⟩ ⟨Nat.le_of_ble_eq_true rfl, Nat.le_of_ble_eq_true rfl⟩ ⟨Nat.zero_le _, Nat.zero_le _⟩ rfl rfl (Nat.le_of_ble_eq_true rfl) dX5_weigh_155 ?_
        refine x_iconst (v := 0) C dX5_weigh_158 (by decide) ?_
        obtain ⟨g4, h⟩ := gd_some h
        refine xs_4 C g4 dX5_weigh_159 ?_
        refine x_aload_n C dX5_weigh_160 rfl 0 rfl ?_
        refine xg_X5_50 C dX5_weigh_161 ?_
        refine x_iconst (v := 2) C dX5_weigh_164 (by decide) ?_
        refine x_isub C dX5_weigh_165 ?_
        refine x_istore_n (lv' := [(2, .int (((pv_sa q3.2 4 q3.1 0).1 2) - 2)), (0, .ref (ad 3)), (1, .int v1)]) C dX5_weigh_166 rfl (by decide) rfl ?_
        refine x_sub [1, 0] rfl ?_
        exact w_X5_weigh_167 C hr R0 pv_FU (((pv_sa q3.2 4 q3.1 0).1 2) - 2) (pv_sa q3.2 4 q3.1 0) h
    · have h := (if_neg c1).symm.trans h
      refine x_iconst (v := 0) C dX5_weigh_77 (by decide) ?_
      refine x_istore_n (lv' := [(3, .int 0), (0, .ref (ad 3)), (1, .int v1), (2, .int v2)]) C dX5_weigh_78 rfl (by decide) rfl ?_
      refine x_sub [1, 2, 3, 0] rfl ?_
      exact w_X5_weigh_79 C hr R0 (f_X5_weigh_69 n) ih pv_FU v1 v2 0 σ h
set_option maxRecDepth 100000 in
set_option maxHeartbeats 4000000 in
theorem w_X5_weigh_23 {p : Program} {l : Launch} {e : Env} {s : State} {m : MethodId} {args : Array Value} {below : List Frame} {meth : Method} {c : Code} {D : va_G} {cI cZ : ClassId} {ad : Nat → Nat} (C : pv_C p s m args meth c cX5_weigh 4 RX5 D cI cZ ad (pv_A ad)) (hr : meth.sig.returnType = none) (R0 : pv_S) (v1 : Int32) (σ : pv_S) (h : f_X5_weigh_23 v1 σ = some R0) : Wx p l e r_X5_weigh s m args below meth c 0 0 (MQ below (pv_QV D cI cZ ad R0) args s 0 0 (pv_A ad)) 4 D cI cZ ad (pv_A ad) 23 [(0, .ref (ad 3)), (1, .int v1)] [] σ := by
  unfold f_X5_weigh_23 at h
  refine x_aload_n C dX5_weigh_23 rfl 0 rfl ?_
  refine x_aload_n C dX5_weigh_24 rfl 0 rfl ?_
  refine xg_X5_31 C dX5_weigh_25 ?_
  obtain ⟨q1, eq1, h⟩ := gb_some h
  refine x_vi (st := [.ref (ad 3)]) C kY_X6_edition 1 6 rfl rfl rfl (m_X6_edition l D cI cZ ad C.2.2.2.2.2.2.1 σ q1 eq1) kl_X5_35 ⟨rfl, rfl⟩ ⟨Nat.le_of_ble_eq_true rfl, Nat.le_of_ble_eq_true rfl⟩ ⟨Nat.zero_le _, Nat.zero_le _⟩ rfl rfl (Nat.le_of_ble_eq_true rfl) dX5_weigh_28 ?_
  refine xp_X5_24 C dX5_weigh_31 ?_
  refine x_aload_n C dX5_weigh_34 rfl 0 rfl ?_
  refine x_iload_n C dX5_weigh_35 rfl 1 rfl ?_
  refine xp_X5_28 C dX5_weigh_36 ?_
  refine x_aload_n C dX5_weigh_39 rfl 0 rfl ?_
  refine x_aload_n C dX5_weigh_40 rfl 0 rfl ?_
  refine xg_X5_31 C dX5_weigh_41 ?_
  obtain ⟨q2, eq2, h⟩ := gb_some h
  refine x_vi (st := [.ref (ad 3)]) C kY_X6_count 1 6 rfl rfl rfl (m_X6_count l D cI cZ ad C.2.2.2.2.2.2.1 (pv_pi (pv_pi q1.2 4 q1.1) 5 v1) q2 eq2) kl_X5_41 ⟨rfl, rfl⟩ ⟨Nat.le_of_ble_eq_true rfl, Nat.le_of_ble_eq_true rfl⟩ ⟨Nat.zero_le _, Nat.zero_le _⟩ rfl rfl (Nat.le_of_ble_eq_true rfl) dX5_weigh_44 ?_
  refine x_bipush (v := 10) C dX5_weigh_47 (by decide) ?_
  refine x_mmin C kl_X5_44 kM_min kM_init kMc_min ⟨Nat.le_of_ble_eq_true rfl, Nat.le_of_ble_eq_true rfl⟩ ⟨Nat.zero_le _, Nat.zero_le _⟩ dX5_weigh_49 ?_
  refine xp_X5_50 C dX5_weigh_52 ?_
  refine x_aload_n C dX5_weigh_55 rfl 0 rfl ?_
  refine x_aload_n C dX5_weigh_56 rfl 0 rfl ?_
  refine xg_X5_31 C dX5_weigh_57 ?_
  refine x_iconst (v := 3) C dX5_weigh_60 (by decide) ?_
  obtain ⟨q3, eq3, h⟩ := gb_some h
  refine x_vi (st := [.ref (ad 3)]) C kY_X6_valueOf 1 6 rfl rfl rfl (m_X6_valueOf l D cI cZ ad C.2.2.2.2.2.2.1 3 (pv_pi q2.2 2 (if 10 < q2.1 then 10 else q2.1)) q3 eq3) kl_X5_52 ⟨rfl, rfl⟩ ⟨Nat.le_of_ble_eq_true rfl, Nat.le_of_ble_eq_true rfl⟩ ⟨Nat.zero_le _, Nat.zero_le _⟩ rfl rfl (Nat.le_of_ble_eq_true rfl) dX5_weigh_61 ?_
  refine xp_X5_56 C dX5_weigh_64 ?_
  refine x_iconst (v := 0) C dX5_weigh_67 (by decide) ?_
  refine x_istore_n (lv' := [(2, .int 0), (0, .ref (ad 3)), (1, .int v1)]) C dX5_weigh_68 rfl (by decide) rfl ?_
  refine x_sub [1, 2, 0] rfl ?_
  exact w_X5_weigh_69 C hr R0 pv_FU v1 0 (pv_pi q3.2 3 q3.1) h
set_option maxRecDepth 100000 in
set_option maxHeartbeats 4000000 in
theorem w_X5_weigh_0 {p : Program} {l : Launch} {e : Env} {s : State} {m : MethodId} {args : Array Value} {below : List Frame} {meth : Method} {c : Code} {D : va_G} {cI cZ : ClassId} {ad : Nat → Nat} (C : pv_C p s m args meth c cX5_weigh 4 RX5 D cI cZ ad (pv_A ad)) (hr : meth.sig.returnType = none) (R0 : pv_S) (p0 : Int32) (σ : pv_S) (h : f_X5_weigh p0 σ = some R0) : Wx p l e r_X5_weigh s m args below meth c 0 0 (MQ below (pv_QV D cI cZ ad R0) args s 0 0 (pv_A ad)) 4 D cI cZ ad (pv_A ad) 0 [(0, .ref (ad 3)), (1, .int p0)] [] σ := by
  unfold f_X5_weigh at h
  refine x_aload_n C dX5_weigh_0 rfl 0 rfl ?_
  refine xg_X5_24 C dX5_weigh_1 ?_
  refine x_aload_n C dX5_weigh_4 rfl 0 rfl ?_
  refine xg_X5_31 C dX5_weigh_5 ?_
  obtain ⟨q1, eq1, h⟩ := gb_some h
  refine x_vi (st := [.int (σ.1 4)]) C kY_X6_edition 1 6 rfl rfl rfl (m_X6_edition l D cI cZ ad C.2.2.2.2.2.2.1 σ q1 eq1) kl_X5_35 ⟨rfl, rfl⟩ ⟨Nat.le_of_ble_eq_true rfl, Nat.le_of_ble_eq_true rfl⟩ ⟨Nat.zero_le _, Nat.zero_le _⟩ rfl rfl (Nat.le_of_ble_eq_true rfl) dX5_weigh_8 ?_
  refine x_icmp_ne C 23 dX5_weigh_11 (by decide) (fun c2 => ?_) (fun c2 => ?_)
  · have h := (if_neg c2).symm.trans h
    exact w_X5_weigh_23 C hr R0 p0 q1.2 h
  · have h := (if_pos c2).symm.trans h
    refine x_aload_n C dX5_weigh_14 rfl 0 rfl ?_
    refine xg_X5_28 C dX5_weigh_15 ?_
    refine x_iload_n C dX5_weigh_18 rfl 1 rfl ?_
    refine x_icmp_ne C 23 dX5_weigh_19 (by decide) (fun c3 => ?_) (fun c3 => ?_)
    · have h := (if_neg c3).symm.trans h
      exact w_X5_weigh_23 C hr R0 p0 q1.2 h
    · have h := (if_pos c3).symm.trans h
      exact x_vret C hr dX5_weigh_22 (Option.some.inj h)
theorem m_X5_weigh (l : Launch) (D : va_G) (cI cZ : ClassId) (ad : Nat → Nat) (hJ : pv_J ad) (p0 : Int32) (σ : pv_S) (R0 : pv_S) (h : f_X5_weigh p0 σ = some R0) : Met l yX5_weigh (Cond.code yX5_weigh cX5_weigh 4 (none) :: lwG) r_X5_weigh (va_Pc [.ref (ad 3), .int p0] (pv_P D cI cZ ad σ)) (pv_QV D cI cZ ad R0) 0 0 (pv_A ad) := x_met (by decide) rfl hJ (Nat.le_of_ble_eq_true rfl) (fun p e s m args below meth c C hr => w_X5_weigh_0 C hr R0 p0 σ h)
abbrev r_X7_weighed : Room := { frames := 5, cells := 0, slots := 0, locals := 114 }
set_option maxRecDepth 100000 in
set_option maxHeartbeats 4000000 in
theorem w_X7_weighed_0 {p : Program} {l : Launch} {e : Env} {s : State} {m : MethodId} {args : Array Value} {below : List Frame} {meth : Method} {c : Code} {D : va_G} {cI cZ : ClassId} {ad : Nat → Nat} (C : pv_C p s m args meth c cX7_weighed 1 RX7 D cI cZ ad (pv_A ad)) (hr : meth.sig.returnType = some ((.object "PartedVoices$Partings"))) (R0 : pv_S) (σ : pv_S) (h : f_X7_weighed σ = some R0) : Wx p l e r_X7_weighed s m args below meth c 0 0 (MQ below (pv_QR D cI cZ ad (ad 3) R0) args s 0 0 (pv_A ad)) 1 D cI cZ ad (pv_A ad) 0 [(0, .ref (ad 0))] [] σ := by
  unfold f_X7_weighed at h
  refine x_aload_n C dX7_weighed_0 rfl 0 rfl ?_
  refine xg_X7_28 C dX7_weighed_1 ?_
  refine x_iconst (v := (-1)) C dX7_weighed_4 (by decide) ?_
  obtain ⟨q1, eq1, h⟩ := gb_some h
  refine x_vv (st := []) C kY_X5_weigh 3 5 rfl rfl rfl (m_X5_weigh l D cI cZ ad C.2.2.2.2.2.2.1 (-1) σ q1 eq1) kl_X7_253 ⟨rfl, rfl⟩ ⟨Nat.le_of_ble_eq_true rfl, Nat.le_of_ble_eq_true rfl⟩ ⟨Nat.zero_le _, Nat.zero_le _⟩ rfl rfl (Nat.le_of_ble_eq_true rfl) dX7_weighed_5 ?_
  refine x_aload_n C dX7_weighed_8 rfl 0 rfl ?_
  refine xg_X7_28 C dX7_weighed_9 ?_
  exact x_aret C hr dX7_weighed_12 (Option.some.inj h)
theorem m_X7_weighed (l : Launch) (D : va_G) (cI cZ : ClassId) (ad : Nat → Nat) (hJ : pv_J ad)  (σ : pv_S) (R0 : pv_S) (h : f_X7_weighed σ = some R0) : Met l yX7_weighed (Cond.code yX7_weighed cX7_weighed 1 (some ((.object "PartedVoices$Partings"))) :: lwG) r_X7_weighed (va_Pc [.ref (ad 0)] (pv_P D cI cZ ad σ)) (pv_QR D cI cZ ad (ad 3) R0) 0 0 (pv_A ad) := x_met (by decide) rfl hJ (Nat.le_of_ble_eq_true rfl) (fun p e s m args below meth c C hr => w_X7_weighed_0 C hr R0 σ h)
abbrev r_X5_fewest : Room := { frames := 0, cells := 0, slots := 0, locals := 0 }
set_option maxRecDepth 100000 in
set_option maxHeartbeats 4000000 in
theorem w_X5_fewest_2 {p : Program} {l : Launch} {e : Env} {s : State} {m : MethodId} {args : Array Value} {below : List Frame} {meth : Method} {c : Code} {D : va_G} {cI cZ : ClassId} {ad : Nat → Nat} (C : pv_C p s m args meth c cX5_fewest 2 RX5 D cI cZ ad (pv_A ad)) (hr : meth.sig.returnType = some .int) (R0 : (Int32 × pv_S)) : ∀ (n : Nat) (v1 : Int32) (σ : pv_S), f_X5_fewest_2 n v1 σ = some R0 → Wx p l e r_X5_fewest s m args below meth c 0 0 (MQ below (pv_QI D cI cZ ad R0) args s 0 0 (pv_A ad)) 2 D cI cZ ad (pv_A ad) 2 [(0, .ref (ad 3)), (1, .int v1)] [] σ := by
  intro n
  induction n with
  | zero =>
    intro v1 σ h
    have h2 : (none : Option (Int32 × pv_S)) = some R0 := h
    cases h2
  | succ n ih =>
    intro v1 σ h
    unfold f_X5_fewest_2 at h
    refine x_iload_n C dX5_fewest_2 rfl 1 rfl ?_
    refine x_bipush (v := 10) C dX5_fewest_3 (by decide) ?_
    refine x_icmp_gt C 26 dX5_fewest_5 (by decide) (fun c1 => ?_) (fun c1 => ?_)
    · have h := (if_pos c1).symm.trans h
      refine x_iconst (v := 0) C dX5_fewest_26 (by decide) ?_
      exact x_iret C hr dX5_fewest_27 (Option.some.inj h)
    · have h := (if_neg c1).symm.trans h
      refine x_aload_n C dX5_fewest_8 rfl 0 rfl ?_
      refine xg_X5_18 C dX5_fewest_9 ?_
      refine x_iload_n C dX5_fewest_12 rfl 1 rfl ?_
      obtain ⟨g2, h⟩ := gd_some h
      refine xl_5 C g2 dX5_fewest_13 ?_
      refine x_iconst (v := (-1)) C dX5_fewest_14 (by decide) ?_
      refine x_icmp_eq C 20 dX5_fewest_15 (by decide) (fun c3 => ?_) (fun c3 => ?_)
      · have h := (if_pos c3).symm.trans h
        refine x_iinc (v := (v1 + 1)) (lv' := [(1, .int (v1 + 1)), (0, .ref (ad 3))]) C 1 dX5_fewest_20 rfl rfl (by decide) rfl ?_
        refine x_goto C 2 dX5_fewest_23 (by decide) ?_
        refine x_sub [1, 0] rfl ?_
        exact ih (v1 + 1) σ h
      · have h := (if_neg c3).symm.trans h
        refine x_iload_n C dX5_fewest_18 rfl 1 rfl ?_
        exact x_iret C hr dX5_fewest_19 (Option.some.inj h)
set_option maxRecDepth 100000 in
set_option maxHeartbeats 4000000 in
theorem w_X5_fewest_0 {p : Program} {l : Launch} {e : Env} {s : State} {m : MethodId} {args : Array Value} {below : List Frame} {meth : Method} {c : Code} {D : va_G} {cI cZ : ClassId} {ad : Nat → Nat} (C : pv_C p s m args meth c cX5_fewest 2 RX5 D cI cZ ad (pv_A ad)) (hr : meth.sig.returnType = some .int) (R0 : (Int32 × pv_S)) (σ : pv_S) (h : f_X5_fewest σ = some R0) : Wx p l e r_X5_fewest s m args below meth c 0 0 (MQ below (pv_QI D cI cZ ad R0) args s 0 0 (pv_A ad)) 2 D cI cZ ad (pv_A ad) 0 [(0, .ref (ad 3))] [] σ := by
  unfold f_X5_fewest at h
  refine x_iconst (v := 0) C dX5_fewest_0 (by decide) ?_
  refine x_istore_n (lv' := [(1, .int 0), (0, .ref (ad 3))]) C dX5_fewest_1 rfl (by decide) rfl ?_
  refine x_sub [1, 0] rfl ?_
  exact w_X5_fewest_2 C hr R0 pv_FU 0 σ h
theorem m_X5_fewest (l : Launch) (D : va_G) (cI cZ : ClassId) (ad : Nat → Nat) (hJ : pv_J ad)  (σ : pv_S) (R0 : (Int32 × pv_S)) (h : f_X5_fewest σ = some R0) : Met l yX5_fewest (Cond.code yX5_fewest cX5_fewest 2 (some .int) :: lwG) r_X5_fewest (va_Pc [.ref (ad 3)] (pv_P D cI cZ ad σ)) (pv_QI D cI cZ ad R0) 0 0 (pv_A ad) := x_met (by decide) rfl hJ (Nat.le_of_ble_eq_true rfl) (fun p e s m args below meth c C hr => w_X5_fewest_0 C hr R0 σ h)
abbrev r_X5_leastCost : Room := { frames := 1, cells := 0, slots := 0, locals := 20 }
set_option maxRecDepth 100000 in
set_option maxHeartbeats 4000000 in
theorem w_X5_leastCost_0 {p : Program} {l : Launch} {e : Env} {s : State} {m : MethodId} {args : Array Value} {below : List Frame} {meth : Method} {c : Code} {D : va_G} {cI cZ : ClassId} {ad : Nat → Nat} (C : pv_C p s m args meth c cX5_leastCost 2 RX5 D cI cZ ad (pv_A ad)) (hr : meth.sig.returnType = some .int) (R0 : (Int32 × pv_S)) (p0 : Int32) (σ : pv_S) (h : f_X5_leastCost p0 σ = some R0) : Wx p l e r_X5_leastCost s m args below meth c 0 0 (MQ below (pv_QI D cI cZ ad R0) args s 0 0 (pv_A ad)) 2 D cI cZ ad (pv_A ad) 0 [(0, .ref (ad 3)), (1, .int p0)] [] σ := by
  unfold f_X5_leastCost at h
  refine x_iload_n C dX5_leastCost_0 rfl 1 rfl ?_
  obtain ⟨q1, eq1, h⟩ := gb_some h
  refine x_sni (st := []) C kY_X7_isVoiceCount (m_X7_isVoiceCount l D cI cZ ad C.2.2.2.2.2.2.1 p0 σ q1 eq1) C.2.2.2.2.2.2.2.2.2.1 ⟨rfl, rfl⟩ ⟨Nat.le_of_ble_eq_true rfl, Nat.le_of_ble_eq_true rfl⟩ ⟨Nat.zero_le _, Nat.zero_le _⟩ rfl rfl (Nat.le_of_ble_eq_true rfl) dX5_leastCost_1 ?_
  refine x_if_eq C 16 dX5_leastCost_4 (by decide) (fun c2 => ?_) (fun c2 => ?_)
  · have h := (if_pos c2).symm.trans h
    refine x_iconst (v := (-1)) C dX5_leastCost_16 (by decide) ?_
    exact x_iret C hr dX5_leastCost_17 (Option.some.inj h)
  · have h := (if_neg c2).symm.trans h
    refine x_aload_n C dX5_leastCost_7 rfl 0 rfl ?_
    refine xg_X5_18 C dX5_leastCost_8 ?_
    refine x_iload_n C dX5_leastCost_11 rfl 1 rfl ?_
    obtain ⟨g3, h⟩ := gd_some h
    refine xl_5 C g3 dX5_leastCost_12 ?_
    refine x_goto C 17 dX5_leastCost_13 (by decide) ?_
    exact x_iret C hr dX5_leastCost_17 (Option.some.inj h)
theorem m_X5_leastCost (l : Launch) (D : va_G) (cI cZ : ClassId) (ad : Nat → Nat) (hJ : pv_J ad) (p0 : Int32) (σ : pv_S) (R0 : (Int32 × pv_S)) (h : f_X5_leastCost p0 σ = some R0) : Met l yX5_leastCost (Cond.code yX5_leastCost cX5_leastCost 2 (some .int) :: lwG) r_X5_leastCost (va_Pc [.ref (ad 3), .int p0] (pv_P D cI cZ ad σ)) (pv_QI D cI cZ ad R0) 0 0 (pv_A ad) := x_met (by decide) rfl hJ (Nat.le_of_ble_eq_true rfl) (fun p e s m args below meth c C hr => w_X5_leastCost_0 C hr R0 p0 σ h)
abbrev r_X5_cheapest : Room := { frames := 2, cells := 0, slots := 0, locals := 41 }
set_option maxRecDepth 100000 in
set_option maxHeartbeats 4000000 in
theorem w_X5_cheapest_9 {p : Program} {l : Launch} {e : Env} {s : State} {m : MethodId} {args : Array Value} {below : List Frame} {meth : Method} {c : Code} {D : va_G} {cI cZ : ClassId} {ad : Nat → Nat} (C : pv_C p s m args meth c cX5_cheapest 3 RX5 D cI cZ ad (pv_A ad)) (hr : meth.sig.returnType = some .int) (R0 : (Int32 × pv_S)) : ∀ (n : Nat) (v1 : Int32) (v2 : Int32) (σ : pv_S), f_X5_cheapest_9 n v1 v2 σ = some R0 → Wx p l e r_X5_cheapest s m args below meth c 0 0 (MQ below (pv_QI D cI cZ ad R0) args s 0 0 (pv_A ad)) 3 D cI cZ ad (pv_A ad) 9 [(0, .ref (ad 3)), (1, .int v1), (2, .int v2)] [] σ := by
  intro n
  induction n with
  | zero =>
    intro v1 v2 σ h
    have h2 : (none : Option (Int32 × pv_S)) = some R0 := h
    cases h2
  | succ n ih =>
    intro v1 v2 σ h
    unfold f_X5_cheapest_9 at h
    refine x_iload_n C dX5_cheapest_9 rfl 2 rfl ?_
    refine x_bipush (v := 10) C dX5_cheapest_10 (by decide) ?_
    refine x_icmp_gt C 47 dX5_cheapest_12 (by decide) (fun c1 => ?_) (fun c1 => ?_)
    · have h := (if_pos c1).symm.trans h
      refine x_iload_n C dX5_cheapest_47 rfl 1 rfl ?_
      exact x_iret C hr dX5_cheapest_48 (Option.some.inj h)
    · have h := (if_neg c1).symm.trans h
      refine x_aload_n C dX5_cheapest_15 rfl 0 rfl ?_
      refine xg_X5_18 C dX5_cheapest_16 ?_
      refine x_iload_n C dX5_cheapest_19 rfl 2 rfl ?_
      obtain ⟨g2, h⟩ := gd_some h
      refine xl_5 C g2 dX5_cheapest_20 ?_
      refine x_iconst (v := (-1)) C dX5_cheapest_21 (by decide) ?_
      refine x_icmp_eq C 41 dX5_cheapest_22 (by decide) (fun c3 => ?_) (fun c3 => ?_)
      · have h := (if_pos c3).symm.trans h
        refine x_iinc (v := (v2 + 1)) (lv' := [(2, .int (v2 + 1)), (0, .ref (ad 3)), (1, .int v1)]) C 2 dX5_cheapest_41 rfl rfl (by decide) rfl ?_
        refine x_goto C 9 dX5_cheapest_44 (by decide) ?_
        refine x_sub [1, 2, 0] rfl ?_
        exact ih v1 (v2 + 1) σ h
      · have h := (if_neg c3).symm.trans h
        refine x_aload_n C dX5_cheapest_25 rfl 0 rfl ?_
        refine xg_X5_18 C dX5_cheapest_26 ?_
        refine x_iload_n C dX5_cheapest_29 rfl 2 rfl ?_
        obtain ⟨g4, h⟩ := gd_some h
        refine xl_5 C g4 dX5_cheapest_30 ?_
        refine x_aload_n C dX5_cheapest_31 rfl 0 rfl ?_
        refine x_iload_n C dX5_cheapest_32 rfl 1 rfl ?_
        obtain ⟨q5, eq5, h⟩ := gb_some h
        refine x_vi (st := [.int (pv_la σ 5 v2)]) C kY_X5_leastCost 3 5 rfl rfl rfl (m_X5_leastCost l D cI cZ ad C.2.2.2.2.2.2.1 v1 σ q5 eq5) kl_X5_105 ⟨rfl, rfl⟩ ⟨Nat.le_of_ble_eq_true rfl, Nat.le_of_ble_eq_true rfl⟩ ⟨Nat.zero_le _, Nat.zero_le _⟩ rfl rfl (Nat.le_of_ble_eq_true rfl) dX5_cheapest_33 ?_
        refine x_icmp_ge C 41 dX5_cheapest_36 (by decide) (fun c6 => ?_) (fun c6 => ?_)
        · have h := (if_pos c6).symm.trans h
          refine x_iinc (v := (v2 + 1)) (lv' := [(2, .int (v2 + 1)), (0, .ref (ad 3)), (1, .int v1)]) C 2 dX5_cheapest_41 rfl rfl (by decide) rfl ?_
          refine x_goto C 9 dX5_cheapest_44 (by decide) ?_
          refine x_sub [1, 2, 0] rfl ?_
          exact ih v1 (v2 + 1) q5.2 h
        · have h := (if_neg c6).symm.trans h
          refine x_iload_n C dX5_cheapest_39 rfl 2 rfl ?_
          refine x_istore_n (lv' := [(1, .int v2), (0, .ref (ad 3)), (2, .int v2)]) C dX5_cheapest_40 rfl (by decide) rfl ?_
          refine x_iinc (v := (v2 + 1)) (lv' := [(2, .int (v2 + 1)), (1, .int v2), (0, .ref (ad 3))]) C 2 dX5_cheapest_41 rfl rfl (by decide) rfl ?_
          refine x_goto C 9 dX5_cheapest_44 (by decide) ?_
          refine x_sub [2, 1, 0] rfl ?_
          exact ih v2 (v2 + 1) q5.2 h
set_option maxRecDepth 100000 in
set_option maxHeartbeats 4000000 in
theorem w_X5_cheapest_0 {p : Program} {l : Launch} {e : Env} {s : State} {m : MethodId} {args : Array Value} {below : List Frame} {meth : Method} {c : Code} {D : va_G} {cI cZ : ClassId} {ad : Nat → Nat} (C : pv_C p s m args meth c cX5_cheapest 3 RX5 D cI cZ ad (pv_A ad)) (hr : meth.sig.returnType = some .int) (R0 : (Int32 × pv_S)) (σ : pv_S) (h : f_X5_cheapest σ = some R0) : Wx p l e r_X5_cheapest s m args below meth c 0 0 (MQ below (pv_QI D cI cZ ad R0) args s 0 0 (pv_A ad)) 3 D cI cZ ad (pv_A ad) 0 [(0, .ref (ad 3))] [] σ := by
  unfold f_X5_cheapest at h
  refine x_aload_n C dX5_cheapest_0 rfl 0 rfl ?_
  obtain ⟨q1, eq1, h⟩ := gb_some h
  refine x_vi (st := []) C kY_X5_fewest 3 5 rfl rfl rfl (m_X5_fewest l D cI cZ ad C.2.2.2.2.2.2.1 σ q1 eq1) kl_X5_102 ⟨rfl, rfl⟩ ⟨Nat.le_of_ble_eq_true rfl, Nat.le_of_ble_eq_true rfl⟩ ⟨Nat.zero_le _, Nat.zero_le _⟩ rfl rfl (Nat.le_of_ble_eq_true rfl) dX5_cheapest_1 ?_
  refine x_istore_n (lv' := [(1, .int q1.1), (0, .ref (ad 3))]) C dX5_cheapest_4 rfl (by decide) rfl ?_
  refine x_iload_n C dX5_cheapest_5 rfl 0 rfl ?_
  refine x_iconst (v := 1) C dX5_cheapest_6 (by decide) ?_
  refine x_iadd C dX5_cheapest_7 ?_
  refine x_istore_n (lv' := [(2, .int (q1.1 + 1)), (1, .int q1.1), (0, .ref (ad 3))]) C dX5_cheapest_8 rfl (by decide) rfl ?_
  refine x_sub [2, 1, 0] rfl ?_
  exact w_X5_cheapest_9 C hr R0 pv_FU q1.1 (q1.1 + 1) q1.2 h
theorem m_X5_cheapest (l : Launch) (D : va_G) (cI cZ : ClassId) (ad : Nat → Nat) (hJ : pv_J ad)  (σ : pv_S) (R0 : (Int32 × pv_S)) (h : f_X5_cheapest σ = some R0) : Met l yX5_cheapest (Cond.code yX5_cheapest cX5_cheapest 3 (some .int) :: lwG) r_X5_cheapest (va_Pc [.ref (ad 3)] (pv_P D cI cZ ad σ)) (pv_QI D cI cZ ad R0) 0 0 (pv_A ad) := x_met (by decide) rfl hJ (Nat.le_of_ble_eq_true rfl) (fun p e s m args below meth c C hr => w_X5_cheapest_0 C hr R0 σ h)
abbrev r_X5_cheapestCost : Room := { frames := 3, cells := 0, slots := 0, locals := 63 }
set_option maxRecDepth 100000 in
set_option maxHeartbeats 4000000 in
theorem w_X5_cheapestCost_0 {p : Program} {l : Launch} {e : Env} {s : State} {m : MethodId} {args : Array Value} {below : List Frame} {meth : Method} {c : Code} {D : va_G} {cI cZ : ClassId} {ad : Nat → Nat} (C : pv_C p s m args meth c cX5_cheapestCost 1 RX5 D cI cZ ad (pv_A ad)) (hr : meth.sig.returnType = some .int) (R0 : (Int32 × pv_S)) (σ : pv_S) (h : f_X5_cheapestCost σ = some R0) : Wx p l e r_X5_cheapestCost s m args below meth c 0 0 (MQ below (pv_QI D cI cZ ad R0) args s 0 0 (pv_A ad)) 1 D cI cZ ad (pv_A ad) 0 [(0, .ref (ad 3))] [] σ := by
  unfold f_X5_cheapestCost at h
  refine x_aload_n C dX5_cheapestCost_0 rfl 0 rfl ?_
  refine x_aload_n C dX5_cheapestCost_1 rfl 0 rfl ?_
  obtain ⟨q1, eq1, h⟩ := gb_some h
  refine x_vi (st := [.ref (ad 3)]) C kY_X5_cheapest 3 5 rfl rfl rfl (m_X5_cheapest l D cI cZ ad C.2.2.2.2.2.2.1 σ q1 eq1) kl_X5_108 ⟨rfl, rfl⟩ ⟨Nat.le_of_ble_eq_true rfl, Nat.le_of_ble_eq_true rfl⟩ ⟨Nat.zero_le _, Nat.zero_le _⟩ rfl rfl (Nat.le_of_ble_eq_true rfl) dX5_cheapestCost_2 ?_
  obtain ⟨q2, eq2, h⟩ := gb_some h
  refine x_vi (st := []) C kY_X5_leastCost 3 5 rfl rfl rfl (m_X5_leastCost l D cI cZ ad C.2.2.2.2.2.2.1 q1.1 q1.2 q2 eq2) kl_X5_105 ⟨rfl, rfl⟩ ⟨Nat.le_of_ble_eq_true rfl, Nat.le_of_ble_eq_true rfl⟩ ⟨Nat.zero_le _, Nat.zero_le _⟩ rfl rfl (Nat.le_of_ble_eq_true rfl) dX5_cheapestCost_5 ?_
  exact x_iret C hr dX5_cheapestCost_8 (Option.some.inj h)
theorem m_X5_cheapestCost (l : Launch) (D : va_G) (cI cZ : ClassId) (ad : Nat → Nat) (hJ : pv_J ad)  (σ : pv_S) (R0 : (Int32 × pv_S)) (h : f_X5_cheapestCost σ = some R0) : Met l yX5_cheapestCost (Cond.code yX5_cheapestCost cX5_cheapestCost 1 (some .int) :: lwG) r_X5_cheapestCost (va_Pc [.ref (ad 3)] (pv_P D cI cZ ad σ)) (pv_QI D cI cZ ad R0) 0 0 (pv_A ad) := x_met (by decide) rfl hJ (Nat.le_of_ble_eq_true rfl) (fun p e s m args below meth c C hr => w_X5_cheapestCost_0 C hr R0 σ h)
abbrev r_X4_cross : Room := { frames := 2, cells := 0, slots := 0, locals := 43 }
set_option maxRecDepth 100000 in
set_option maxHeartbeats 4000000 in
theorem w_X4_cross_122 {p : Program} {l : Launch} {e : Env} {s : State} {m : MethodId} {args : Array Value} {below : List Frame} {meth : Method} {c : Code} {D : va_G} {cI cZ : ClassId} {ad : Nat → Nat} (C : pv_C p s m args meth c cX4_cross 7 RX4 D cI cZ ad (pv_A ad)) (hr : meth.sig.returnType = some .boolean) (R0 : (Int32 × pv_S)) (v5 : Int32) (v6 : Int32) (σ : pv_S) (h : f_X4_cross_122 v5 v6 σ = some R0) : Wx p l e r_X4_cross s m args below meth c 0 0 (MQ below (pv_QI D cI cZ ad R0) args s 0 0 (pv_A ad)) 7 D cI cZ ad (pv_A ad) 122 [(5, .int v5), (6, .int v6)] [] σ := by
  unfold f_X4_cross_122 at h
  refine x_iload C dX4_cross_122 0 rfl ?_
  refine x_if_le C 136 dX4_cross_124 (by decide) (fun c1 => ?_) (fun c1 => ?_)
  · have h := (if_pos c1).symm.trans h
    refine x_iconst (v := 0) C dX4_cross_136 (by decide) ?_
    exact x_zret C hr rfl dX4_cross_137 (Option.some.inj h)
  · have h := (if_neg c1).symm.trans h
    refine x_iload C dX4_cross_127 1 rfl ?_
    refine x_if_ge C 136 dX4_cross_129 (by decide) (fun c2 => ?_) (fun c2 => ?_)
    · have h := (if_pos c2).symm.trans h
      refine x_iconst (v := 0) C dX4_cross_136 (by decide) ?_
      exact x_zret C hr rfl dX4_cross_137 (Option.some.inj h)
    · have h := (if_neg c2).symm.trans h
      refine x_iconst (v := 1) C dX4_cross_132 (by decide) ?_
      refine x_goto C 137 dX4_cross_133 (by decide) ?_
      exact x_zret C hr rfl dX4_cross_137 (Option.some.inj h)
set_option maxRecDepth 100000 in
set_option maxHeartbeats 4000000 in
theorem w_X4_cross_0 {p : Program} {l : Launch} {e : Env} {s : State} {m : MethodId} {args : Array Value} {below : List Frame} {meth : Method} {c : Code} {D : va_G} {cI cZ : ClassId} {ad : Nat → Nat} (C : pv_C p s m args meth c cX4_cross 7 RX4 D cI cZ ad (pv_A ad)) (hr : meth.sig.returnType = some .boolean) (R0 : (Int32 × pv_S)) (p0 : Int32) (p1 : Int32) (σ : pv_S) (h : f_X4_cross p0 p1 σ = some R0) : Wx p l e r_X4_cross s m args below meth c 0 0 (MQ below (pv_QI D cI cZ ad R0) args s 0 0 (pv_A ad)) 7 D cI cZ ad (pv_A ad) 0 [(0, .ref (ad 2)), (1, .int p0), (2, .int p1)] [] σ := by
  unfold f_X4_cross at h
  refine x_aload_n C dX4_cross_0 rfl 0 rfl ?_
  refine xg_X4_18 C dX4_cross_1 ?_
  refine x_iload_n C dX4_cross_4 rfl 1 rfl ?_
  obtain ⟨q1, eq1, h⟩ := gb_some h
  refine x_vi (st := []) C kY_X6_next 1 6 rfl rfl rfl (m_X6_next l D cI cZ ad C.2.2.2.2.2.2.1 p0 σ q1 eq1) kl_X4_34 ⟨rfl, rfl⟩ ⟨Nat.le_of_ble_eq_true rfl, Nat.le_of_ble_eq_true rfl⟩ ⟨Nat.zero_le _, Nat.zero_le _⟩ rfl rfl (Nat.le_of_ble_eq_true rfl) dX4_cross_5 ?_
  refine x_istore_n (lv' := [(3, .int q1.1), (0, .ref (ad 2)), (1, .int p0), (2, .int p1)]) C dX4_cross_8 rfl (by decide) rfl ?_
  refine x_aload_n C dX4_cross_9 rfl 1 rfl ?_
  refine xg_X4_18 C dX4_cross_10 ?_
  refine x_iload_n C dX4_cross_13 rfl 3 rfl ?_
  obtain ⟨q2, eq2, h⟩ := gb_some h
  refine x_vi (st := []) C kY_X6_next 1 6 rfl rfl rfl (m_X6_next l D cI cZ ad C.2.2.2.2.2.2.1 p1 q1.2 q2 eq2) kl_X4_34 ⟨rfl, rfl⟩ ⟨Nat.le_of_ble_eq_true rfl, Nat.le_of_ble_eq_true rfl⟩ ⟨Nat.zero_le _, Nat.zero_le _⟩ rfl rfl (Nat.le_of_ble_eq_true rfl) dX4_cross_14 ?_
  refine x_istore (lv' := [(4, .int q2.1), (3, .int q1.1), (0, .ref (ad 2)), (1, .int p0), (2, .int p1)]) C dX4_cross_17 (by decide) rfl ?_
  refine x_iload_n C dX4_cross_19 rfl 1 rfl ?_
  refine x_iconst (v := (-1)) C dX4_cross_20 (by decide) ?_
  refine x_icmp_eq C 30 dX4_cross_21 (by decide) (fun c3 => ?_) (fun c3 => ?_)
  · have h := (if_pos c3).symm.trans h
    refine x_iconst (v := 0) C dX4_cross_30 (by decide) ?_
    exact x_zret C hr rfl dX4_cross_31 (Option.some.inj h)
  · have h := (if_neg c3).symm.trans h
    refine x_iload C dX4_cross_24 0 rfl ?_
    refine x_iconst (v := (-1)) C dX4_cross_26 (by decide) ?_
    refine x_icmp_ne C 32 dX4_cross_27 (by decide) (fun c4 => ?_) (fun c4 => ?_)
    · have h := (if_neg c4).symm.trans h
      refine x_aload_n C dX4_cross_32 rfl 2 rfl ?_
      refine xg_X4_18 C dX4_cross_33 ?_
      refine x_iload_n C dX4_cross_36 rfl 3 rfl ?_
      obtain ⟨q5, eq5, h⟩ := gb_some h
      refine x_vi (st := []) C kY_X6_on 1 6 rfl rfl rfl (m_X6_on l D cI cZ ad C.2.2.2.2.2.2.1 p0 q2.2 q5 eq5) kl_X4_65 ⟨rfl, rfl⟩ ⟨Nat.le_of_ble_eq_true rfl, Nat.le_of_ble_eq_true rfl⟩ ⟨Nat.zero_le _, Nat.zero_le _⟩ rfl rfl (Nat.le_of_ble_eq_true rfl) dX4_cross_37 ?_
      refine x_aload_n C dX4_cross_40 rfl 2 rfl ?_
      refine xg_X4_18 C dX4_cross_41 ?_
      refine x_iload C dX4_cross_44 0 rfl ?_
      obtain ⟨q6, eq6, h⟩ := gb_some h
      refine x_vi (st := [.int q5.1]) C kY_X6_on 1 6 rfl rfl rfl (m_X6_on l D cI cZ ad C.2.2.2.2.2.2.1 q2.1 q5.2 q6 eq6) kl_X4_65 ⟨rfl, rfl⟩ ⟨Nat.le_of_ble_eq_true rfl, Nat.le_of_ble_eq_true rfl⟩ ⟨Nat.zero_le _, Nat.zero_le _⟩ rfl rfl (Nat.le_of_ble_eq_true rfl) dX4_cross_46 ?_
      refine x_icmp_ge C 71 dX4_cross_49 (by decide) (fun c7 => ?_) (fun c7 => ?_)
      · have h := (if_pos c7).symm.trans h
        refine x_iconst (v := 0) C dX4_cross_71 (by decide) ?_
        exact x_zret C hr rfl dX4_cross_72 (Option.some.inj h)
      · have h := (if_neg c7).symm.trans h
        refine x_aload_n C dX4_cross_52 rfl 2 rfl ?_
        refine xg_X4_18 C dX4_cross_53 ?_
        refine x_iload_n C dX4_cross_56 rfl 4 rfl ?_
        obtain ⟨q8, eq8, h⟩ := gb_some h
        refine x_vi (st := []) C kY_X6_on 1 6 rfl rfl rfl (m_X6_on l D cI cZ ad C.2.2.2.2.2.2.1 p1 q6.2 q8 eq8) kl_X4_65 ⟨rfl, rfl⟩ ⟨Nat.le_of_ble_eq_true rfl, Nat.le_of_ble_eq_true rfl⟩ ⟨Nat.zero_le _, Nat.zero_le _⟩ rfl rfl (Nat.le_of_ble_eq_true rfl) dX4_cross_57 ?_
        refine x_aload_n C dX4_cross_60 rfl 2 rfl ?_
        refine xg_X4_18 C dX4_cross_61 ?_
        refine x_iload_n C dX4_cross_64 rfl 1 rfl ?_
        obtain ⟨q9, eq9, h⟩ := gb_some h
        refine x_vi (st := [.int q8.1]) C kY_X6_on 1 6 rfl rfl rfl (m_X6_on l D cI cZ ad C.2.2.2.2.2.2.1 q1.1 q8.2 q9 eq9) kl_X4_65 ⟨rfl, rfl⟩ ⟨Nat.le_of_ble_eq_true rfl, Nat.le_of_ble_eq_true rfl⟩ ⟨Nat.zero_le _, Nat.zero_le _⟩ rfl rfl (Nat.le_of_ble_eq_true rfl) dX4_cross_65 ?_
        refine x_icmp_lt C 73 dX4_cross_68 (by decide) (fun c10 => ?_) (fun c10 => ?_)
        · have h := (if_pos c10).symm.trans h
          refine x_aload_n C dX4_cross_73 rfl 2 rfl ?_
          refine xg_X4_18 C dX4_cross_74 ?_
          refine x_iload_n C dX4_cross_77 rfl 3 rfl ?_
          obtain ⟨q11, eq11, h⟩ := gb_some h
          refine x_vi (st := []) C kY_X6_pitch 1 6 rfl rfl rfl (m_X6_pitch l D cI cZ ad C.2.2.2.2.2.2.1 p0 q9.2 q11 eq11) kl_X4_54 ⟨rfl, rfl⟩ ⟨Nat.le_of_ble_eq_true rfl, Nat.le_of_ble_eq_true rfl⟩ ⟨Nat.zero_le _, Nat.zero_le _⟩ rfl rfl (Nat.le_of_ble_eq_true rfl) dX4_cross_78 ?_
          refine x_aload_n C dX4_cross_81 rfl 2 rfl ?_
          refine xg_X4_18 C dX4_cross_82 ?_
          refine x_iload_n C dX4_cross_85 rfl 4 rfl ?_
          obtain ⟨q12, eq12, h⟩ := gb_some h
          refine x_vi (st := [.int q11.1]) C kY_X6_pitch 1 6 rfl rfl rfl (m_X6_pitch l D cI cZ ad C.2.2.2.2.2.2.1 p1 q11.2 q12 eq12) kl_X4_54 ⟨rfl, rfl⟩ ⟨Nat.le_of_ble_eq_true rfl, Nat.le_of_ble_eq_true rfl⟩ ⟨Nat.zero_le _, Nat.zero_le _⟩ rfl rfl (Nat.le_of_ble_eq_true rfl) dX4_cross_86 ?_
          refine x_isub C dX4_cross_89 ?_
          refine x_istore (lv' := [(5, .int (q11.1 - q12.1)), (4, .int q2.1), (3, .int q1.1), (0, .ref (ad 2)), (1, .int p0), (2, .int p1)]) C dX4_cross_90 (by decide) rfl ?_
          refine x_aload_n C dX4_cross_92 rfl 3 rfl ?_
          refine xg_X4_18 C dX4_cross_93 ?_
          refine x_iload_n C dX4_cross_96 rfl 2 rfl ?_
          obtain ⟨q13, eq13, h⟩ := gb_some h
          refine x_vi (st := []) C kY_X6_pitch 1 6 rfl rfl rfl (m_X6_pitch l D cI cZ ad C.2.2.2.2.2.2.1 q1.1 q12.2 q13 eq13) kl_X4_54 ⟨rfl, rfl⟩ ⟨Nat.le_of_ble_eq_true rfl, Nat.le_of_ble_eq_true rfl⟩ ⟨Nat.zero_le _, Nat.zero_le _⟩ rfl rfl (Nat.le_of_ble_eq_true rfl) dX4_cross_97 ?_
          refine x_aload_n C dX4_cross_100 rfl 3 rfl ?_
          refine xg_X4_18 C dX4_cross_101 ?_
          refine x_iload C dX4_cross_104 1 rfl ?_
          obtain ⟨q14, eq14, h⟩ := gb_some h
          refine x_vi (st := [.int q13.1]) C kY_X6_pitch 1 6 rfl rfl rfl (m_X6_pitch l D cI cZ ad C.2.2.2.2.2.2.1 q2.1 q13.2 q14 eq14) kl_X4_54 ⟨rfl, rfl⟩ ⟨Nat.le_of_ble_eq_true rfl, Nat.le_of_ble_eq_true rfl⟩ ⟨Nat.zero_le _, Nat.zero_le _⟩ rfl rfl (Nat.le_of_ble_eq_true rfl) dX4_cross_106 ?_
          refine x_isub C dX4_cross_109 ?_
          refine x_istore (lv' := [(6, .int (q13.1 - q14.1)), (5, .int (q11.1 - q12.1)), (4, .int q2.1), (3, .int q1.1), (0, .ref (ad 2)), (1, .int p0), (2, .int p1)]) C dX4_cross_110 (by decide) rfl ?_
          refine x_iload C dX4_cross_112 1 rfl ?_
          refine x_if_ge C 122 dX4_cross_114 (by decide) (fun c15 => ?_) (fun c15 => ?_)
          · have h := (if_pos c15).symm.trans h
            refine x_sub [1, 0] rfl ?_
            exact w_X4_cross_122 C hr R0 (q11.1 - q12.1) (q13.1 - q14.1) q14.2 h
          · have h := (if_neg c15).symm.trans h
            refine x_iload C dX4_cross_117 0 rfl ?_
            refine x_if_gt C 132 dX4_cross_119 (by decide) (fun c16 => ?_) (fun c16 => ?_)
            · have h := (if_pos c16).symm.trans h
              refine x_iconst (v := 1) C dX4_cross_132 (by decide) ?_
              refine x_goto C 137 dX4_cross_133 (by decide) ?_
              exact x_zret C hr rfl dX4_cross_137 (Option.some.inj h)
            · have h := (if_neg c16).symm.trans h
              refine x_sub [1, 0] rfl ?_
              exact w_X4_cross_122 C hr R0 (q11.1 - q12.1) (q13.1 - q14.1) q14.2 h
        · have h := (if_neg c10).symm.trans h
          refine x_iconst (v := 0) C dX4_cross_71 (by decide) ?_
          exact x_zret C hr rfl dX4_cross_72 (Option.some.inj h)
    · have h := (if_pos c4).symm.trans h
      refine x_iconst (v := 0) C dX4_cross_30 (by decide) ?_
      exact x_zret C hr rfl dX4_cross_31 (Option.some.inj h)
theorem m_X4_cross (l : Launch) (D : va_G) (cI cZ : ClassId) (ad : Nat → Nat) (hJ : pv_J ad) (p0 : Int32) (p1 : Int32) (σ : pv_S) (R0 : (Int32 × pv_S)) (h : f_X4_cross p0 p1 σ = some R0) : Met l yX4_cross (Cond.code yX4_cross cX4_cross 7 (some .boolean) :: lwG) r_X4_cross (va_Pc [.ref (ad 2), .int p0, .int p1] (pv_P D cI cZ ad σ)) (pv_QI D cI cZ ad R0) 0 0 (pv_A ad) := x_met (by decide) rfl hJ (Nat.le_of_ble_eq_true rfl) (fun p e s m args below meth c C hr => w_X4_cross_0 C hr R0 p0 p1 σ h)
abbrev r_X4_crossings : Room := { frames := 3, cells := 0, slots := 0, locals := 69 }
set_option maxRecDepth 100000 in
set_option maxHeartbeats 4000000 in
theorem w_X4_crossings_19 {p : Program} {l : Launch} {e : Env} {s : State} {m : MethodId} {args : Array Value} {below : List Frame} {meth : Method} {c : Code} {D : va_G} {cI cZ : ClassId} {ad : Nat → Nat} (C : pv_C p s m args meth c cX4_crossings 4 RX4 D cI cZ ad (pv_A ad)) (hr : meth.sig.returnType = some .int) (R0 : (Int32 × pv_S)) (K4 : Int32 → Int32 → pv_S → Option (Int32 × pv_S)) (hK4 : ∀ (v1 : Int32) (v2 : Int32) (σ : pv_S), K4 v1 v2 σ = some R0 → Wx p l e r_X4_crossings s m args below meth c 0 0 (MQ below (pv_QI D cI cZ ad R0) args s 0 0 (pv_A ad)) 4 D cI cZ ad (pv_A ad) 4 [(0, .ref (ad 2)), (1, .int v1), (2, .int v2)] [] σ) : ∀ (n : Nat) (v1 : Int32) (v2 : Int32) (v3 : Int32) (σ : pv_S), f_X4_crossings_19 K4 n v1 v2 v3 σ = some R0 → Wx p l e r_X4_crossings s m args below meth c 0 0 (MQ below (pv_QI D cI cZ ad R0) args s 0 0 (pv_A ad)) 4 D cI cZ ad (pv_A ad) 19 [(0, .ref (ad 2)), (1, .int v1), (2, .int v2), (3, .int v3)] [] σ := by
  intro n
  induction n with
  | zero =>
    intro v1 v2 v3 σ h
    have h2 : (none : Option (Int32 × pv_S)) = some R0 := h
    cases h2
  | succ n ih =>
    intro v1 v2 v3 σ h
    unfold f_X4_crossings_19 at h
    refine x_iload_n C dX4_crossings_19 rfl 3 rfl ?_
    refine x_aload_n C dX4_crossings_20 rfl 0 rfl ?_
    refine xg_X4_18 C dX4_crossings_21 ?_
    obtain ⟨q1, eq1, h⟩ := gb_some h
    refine x_vi (st := [.int v3]) C kY_X6_count 1 6 rfl rfl rfl (m_X6_count l D cI cZ ad C.2.2.2.2.2.2.1 σ q1 eq1) kl_X4_28 ⟨rfl, rfl⟩ ⟨Nat.le_of_ble_eq_true rfl, Nat.le_of_ble_eq_true rfl⟩ ⟨Nat.zero_le _, Nat.zero_le _⟩ rfl rfl (Nat.le_of_ble_eq_true rfl) dX4_crossings_24 ?_
    refine x_icmp_ge C 48 dX4_crossings_27 (by decide) (fun c2 => ?_) (fun c2 => ?_)
    · have h := (if_pos c2).symm.trans h
      refine x_iinc (v := (v2 + 1)) (lv' := [(2, .int (v2 + 1)), (0, .ref (ad 2)), (1, .int v1), (3, .int v3)]) C 2 dX4_crossings_48 rfl rfl (by decide) rfl ?_
      refine x_goto C 4 dX4_crossings_51 (by decide) ?_
      refine x_sub [1, 2, 0] rfl ?_
      exact hK4 v1 (v2 + 1) q1.2 h
    · have h := (if_neg c2).symm.trans h
      refine x_aload_n C dX4_crossings_30 rfl 0 rfl ?_
      refine x_iload_n C dX4_crossings_31 rfl 2 rfl ?_
      refine x_iload_n C dX4_crossings_32 rfl 3 rfl ?_
      obtain ⟨q3, eq3, h⟩ := gb_some h
      refine x_vi (st := []) C kY_X4_cross 2 4 rfl rfl rfl (m_X4_cross l D cI cZ ad C.2.2.2.2.2.2.1 v2 v3 q1.2 q3 eq3) kl_X4_83 ⟨rfl, rfl⟩ ⟨Nat.le_of_ble_eq_true rfl, Nat.le_of_ble_eq_true rfl⟩ ⟨Nat.zero_le _, Nat.zero_le _⟩ rfl rfl (Nat.le_of_ble_eq_true rfl) dX4_crossings_33 ?_
      refine x_if_eq C 42 dX4_crossings_36 (by decide) (fun c4 => ?_) (fun c4 => ?_)
      · have h := (if_pos c4).symm.trans h
        refine x_iinc (v := (v3 + 1)) (lv' := [(3, .int (v3 + 1)), (0, .ref (ad 2)), (1, .int v1), (2, .int v2)]) C 3 dX4_crossings_42 rfl rfl (by decide) rfl ?_
        refine x_goto C 19 dX4_crossings_45 (by decide) ?_
        refine x_sub [1, 2, 3, 0] rfl ?_
        exact ih v1 v2 (v3 + 1) q3.2 h
      · have h := (if_neg c4).symm.trans h
        refine x_iinc (v := (v1 + 1)) (lv' := [(1, .int (v1 + 1)), (0, .ref (ad 2)), (2, .int v2), (3, .int v3)]) C 1 dX4_crossings_39 rfl rfl (by decide) rfl ?_
        refine x_iinc (v := (v3 + 1)) (lv' := [(3, .int (v3 + 1)), (1, .int (v1 + 1)), (0, .ref (ad 2)), (2, .int v2)]) C 3 dX4_crossings_42 rfl rfl (by decide) rfl ?_
        refine x_goto C 19 dX4_crossings_45 (by decide) ?_
        refine x_sub [2, 1, 3, 0] rfl ?_
        exact ih (v1 + 1) v2 (v3 + 1) q3.2 h
set_option maxRecDepth 100000 in
set_option maxHeartbeats 4000000 in
theorem w_X4_crossings_4 {p : Program} {l : Launch} {e : Env} {s : State} {m : MethodId} {args : Array Value} {below : List Frame} {meth : Method} {c : Code} {D : va_G} {cI cZ : ClassId} {ad : Nat → Nat} (C : pv_C p s m args meth c cX4_crossings 4 RX4 D cI cZ ad (pv_A ad)) (hr : meth.sig.returnType = some .int) (R0 : (Int32 × pv_S)) : ∀ (n : Nat) (v1 : Int32) (v2 : Int32) (σ : pv_S), f_X4_crossings_4 n v1 v2 σ = some R0 → Wx p l e r_X4_crossings s m args below meth c 0 0 (MQ below (pv_QI D cI cZ ad R0) args s 0 0 (pv_A ad)) 4 D cI cZ ad (pv_A ad) 4 [(0, .ref (ad 2)), (1, .int v1), (2, .int v2)] [] σ := by
  intro n
  induction n with
  | zero =>
    intro v1 v2 σ h
    have h2 : (none : Option (Int32 × pv_S)) = some R0 := h
    cases h2
  | succ n ih =>
    intro v1 v2 σ h
    unfold f_X4_crossings_4 at h
    refine x_iload_n C dX4_crossings_4 rfl 2 rfl ?_
    refine x_aload_n C dX4_crossings_5 rfl 0 rfl ?_
    refine xg_X4_18 C dX4_crossings_6 ?_
    obtain ⟨q1, eq1, h⟩ := gb_some h
    refine x_vi (st := [.int v2]) C kY_X6_count 1 6 rfl rfl rfl (m_X6_count l D cI cZ ad C.2.2.2.2.2.2.1 σ q1 eq1) kl_X4_28 ⟨rfl, rfl⟩ ⟨Nat.le_of_ble_eq_true rfl, Nat.le_of_ble_eq_true rfl⟩ ⟨Nat.zero_le _, Nat.zero_le _⟩ rfl rfl (Nat.le_of_ble_eq_true rfl) dX4_crossings_9 ?_
    refine x_icmp_ge C 54 dX4_crossings_12 (by decide) (fun c2 => ?_) (fun c2 => ?_)
    · have h := (if_pos c2).symm.trans h
      refine x_iload_n C dX4_crossings_54 rfl 1 rfl ?_
      exact x_iret C hr dX4_crossings_55 (Option.some.inj h)
    · have h := (if_neg c2).symm.trans h
      refine x_iload_n C dX4_crossings_15 rfl 2 rfl ?_
      refine x_iconst (v := 1) C dX4_crossings_16 (by decide) ?_
      refine x_iadd C dX4_crossings_17 ?_
      refine x_istore_n (lv' := [(3, .int (v2 + 1)), (0, .ref (ad 2)), (1, .int v1), (2, .int v2)]) C dX4_crossings_18 rfl (by decide) rfl ?_
      refine x_sub [1, 2, 3, 0] rfl ?_
      exact w_X4_crossings_19 C hr R0 (f_X4_crossings_4 n) ih pv_FU v1 v2 (v2 + 1) q1.2 h
set_option maxRecDepth 100000 in
set_option maxHeartbeats 4000000 in
theorem w_X4_crossings_0 {p : Program} {l : Launch} {e : Env} {s : State} {m : MethodId} {args : Array Value} {below : List Frame} {meth : Method} {c : Code} {D : va_G} {cI cZ : ClassId} {ad : Nat → Nat} (C : pv_C p s m args meth c cX4_crossings 4 RX4 D cI cZ ad (pv_A ad)) (hr : meth.sig.returnType = some .int) (R0 : (Int32 × pv_S)) (σ : pv_S) (h : f_X4_crossings σ = some R0) : Wx p l e r_X4_crossings s m args below meth c 0 0 (MQ below (pv_QI D cI cZ ad R0) args s 0 0 (pv_A ad)) 4 D cI cZ ad (pv_A ad) 0 [(0, .ref (ad 2))] [] σ := by
  unfold f_X4_crossings at h
  refine x_iconst (v := 0) C dX4_crossings_0 (by decide) ?_
  refine x_istore_n (lv' := [(1, .int 0), (0, .ref (ad 2))]) C dX4_crossings_1 rfl (by decide) rfl ?_
  refine x_iconst (v := 0) C dX4_crossings_2 (by decide) ?_
  refine x_istore_n (lv' := [(2, .int 0), (1, .int 0), (0, .ref (ad 2))]) C dX4_crossings_3 rfl (by decide) rfl ?_
  refine x_sub [2, 1, 0] rfl ?_
  exact w_X4_crossings_4 C hr R0 pv_FU 0 0 σ h
theorem m_X4_crossings (l : Launch) (D : va_G) (cI cZ : ClassId) (ad : Nat → Nat) (hJ : pv_J ad)  (σ : pv_S) (R0 : (Int32 × pv_S)) (h : f_X4_crossings σ = some R0) : Met l yX4_crossings (Cond.code yX4_crossings cX4_crossings 4 (some .int) :: lwG) r_X4_crossings (va_Pc [.ref (ad 2)] (pv_P D cI cZ ad σ)) (pv_QI D cI cZ ad R0) 0 0 (pv_A ad) := x_met (by decide) rfl hJ (Nat.le_of_ble_eq_true rfl) (fun p e s m args below meth c C hr => w_X4_crossings_0 C hr R0 σ h)
abbrev r_X0_size : Room := { frames := 0, cells := 0, slots := 0, locals := 0 }
set_option maxRecDepth 100000 in
set_option maxHeartbeats 4000000 in
theorem w_X0_size_0 {p : Program} {l : Launch} {e : Env} {s : State} {m : MethodId} {args : Array Value} {below : List Frame} {meth : Method} {c : Code} {D : va_G} {cI cZ : ClassId} {ad : Nat → Nat} (C : pv_C p s m args meth c cX0_size 1 RX0 D cI cZ ad (pv_A ad)) (hr : meth.sig.returnType = some .int) (R0 : (Int32 × pv_S)) (σ : pv_S) (h : f_X0_size σ = some R0) : Wx p l e r_X0_size s m args below meth c 0 0 (MQ below (pv_QI D cI cZ ad R0) args s 0 0 (pv_A ad)) 1 D cI cZ ad (pv_A ad) 0 [(0, .ref (ad 6))] [] σ := by
  unfold f_X0_size at h
  refine x_aload_n C dX0_size_0 rfl 0 rfl ?_
  refine xg_X0_18 C dX0_size_1 ?_
  exact x_iret C hr dX0_size_4 (Option.some.inj h)
theorem m_X0_size (l : Launch) (D : va_G) (cI cZ : ClassId) (ad : Nat → Nat) (hJ : pv_J ad)  (σ : pv_S) (R0 : (Int32 × pv_S)) (h : f_X0_size σ = some R0) : Met l yX0_size (Cond.code yX0_size cX0_size 1 (some .int) :: lwG) r_X0_size (va_Pc [.ref (ad 6)] (pv_P D cI cZ ad σ)) (pv_QI D cI cZ ad R0) 0 0 (pv_A ad) := x_met (by decide) rfl hJ (Nat.le_of_ble_eq_true rfl) (fun p e s m args below meth c C hr => w_X0_size_0 C hr R0 σ h)
abbrev r_X0_wrong : Room := { frames := 2, cells := 0, slots := 0, locals := 41 }
set_option maxRecDepth 100000 in
set_option maxHeartbeats 4000000 in
theorem w_X0_wrong_2 {p : Program} {l : Launch} {e : Env} {s : State} {m : MethodId} {args : Array Value} {below : List Frame} {meth : Method} {c : Code} {D : va_G} {cI cZ : ClassId} {ad : Nat → Nat} (C : pv_C p s m args meth c cX0_wrong 3 RX0 D cI cZ ad (pv_A ad)) (hr : meth.sig.returnType = some .int) (R0 : (Int32 × pv_S)) : ∀ (n : Nat) (v2 : Int32) (σ : pv_S), f_X0_wrong_2 n v2 σ = some R0 → Wx p l e r_X0_wrong s m args below meth c 0 0 (MQ below (pv_QI D cI cZ ad R0) args s 0 0 (pv_A ad)) 3 D cI cZ ad (pv_A ad) 2 [(0, .ref (ad 6)), (1, .ref (ad 3)), (2, .int v2)] [] σ := by
  intro n
  induction n with
  | zero =>
    intro v2 σ h
    have h2 : (none : Option (Int32 × pv_S)) = some R0 := h
    cases h2
  | succ n ih =>
    intro v2 σ h
    unfold f_X0_wrong_2 at h
    refine x_iload_n C dX0_wrong_2 rfl 2 rfl ?_
    refine x_aload_n C dX0_wrong_3 rfl 0 rfl ?_
    refine xg_X0_18 C dX0_wrong_4 ?_
    refine x_icmp_ge C 43 dX0_wrong_7 (by decide) (fun c1 => ?_) (fun c1 => ?_)
    · have h := (if_pos c1).symm.trans h
      refine x_iconst (v := (-1)) C dX0_wrong_43 (by decide) ?_
      exact x_iret C hr dX0_wrong_44 (Option.some.inj h)
    · have h := (if_neg c1).symm.trans h
      refine x_iload_n C dX0_wrong_10 rfl 2 rfl ?_
      refine x_bipush (v := 20) C dX0_wrong_11 (by decide) ?_
      refine x_icmp_ge C 43 dX0_wrong_13 (by decide) (fun c2 => ?_) (fun c2 => ?_)
      · have h := (if_pos c2).symm.trans h
        refine x_iconst (v := (-1)) C dX0_wrong_43 (by decide) ?_
        exact x_iret C hr dX0_wrong_44 (Option.some.inj h)
      · have h := (if_neg c2).symm.trans h
        refine x_aload_n C dX0_wrong_16 rfl 1 rfl ?_
        refine x_aload_n C dX0_wrong_17 rfl 0 rfl ?_
        refine xg_X0_11 C dX0_wrong_18 ?_
        refine x_iload_n C dX0_wrong_21 rfl 2 rfl ?_
        obtain ⟨g3, h⟩ := gd_some h
        refine xl_11 C g3 dX0_wrong_22 ?_
        obtain ⟨q4, eq4, h⟩ := gb_some h
        refine x_vi (st := []) C kY_X5_leastCost 3 5 rfl rfl rfl (m_X5_leastCost l D cI cZ ad C.2.2.2.2.2.2.1 (pv_la σ 11 v2) σ q4 eq4) kl_X0_26 ⟨rfl, rfl⟩ ⟨Nat.le_of_ble_eq_true rfl, Nat.le_of_ble_eq_true rfl⟩ ⟨Nat.zero_le _, Nat.zero_le _⟩ rfl rfl (Nat.le_of_ble_eq_true rfl) dX0_wrong_23 ?_
        refine x_aload_n C dX0_wrong_26 rfl 0 rfl ?_
        refine xg_X0_15 C dX0_wrong_27 ?_
        refine x_iload_n C dX0_wrong_30 rfl 2 rfl ?_
        obtain ⟨g5, h⟩ := gd_some h
        refine xl_12 C g5 dX0_wrong_31 ?_
        refine x_icmp_eq C 37 dX0_wrong_32 (by decide) (fun c6 => ?_) (fun c6 => ?_)
        · have h := (if_pos c6).symm.trans h
          refine x_iinc (v := (v2 + 1)) (lv' := [(2, .int (v2 + 1)), (0, .ref (ad 6)), (1, .ref (ad 3))]) C 2 dX0_wrong_37 rfl rfl (by decide) rfl ?_
          refine x_goto C 2 dX0_wrong_40 (by decide) ?_
          refine x_sub [1, 2, 0] rfl ?_
          exact ih (v2 + 1) q4.2 h
        · have h := (if_neg c6).symm.trans h
          refine x_iload_n C dX0_wrong_35 rfl 2 rfl ?_
          exact x_iret C hr dX0_wrong_36 (Option.some.inj h)
set_option maxRecDepth 100000 in
set_option maxHeartbeats 4000000 in
theorem w_X0_wrong_0 {p : Program} {l : Launch} {e : Env} {s : State} {m : MethodId} {args : Array Value} {below : List Frame} {meth : Method} {c : Code} {D : va_G} {cI cZ : ClassId} {ad : Nat → Nat} (C : pv_C p s m args meth c cX0_wrong 3 RX0 D cI cZ ad (pv_A ad)) (hr : meth.sig.returnType = some .int) (R0 : (Int32 × pv_S)) (σ : pv_S) (h : f_X0_wrong σ = some R0) : Wx p l e r_X0_wrong s m args below meth c 0 0 (MQ below (pv_QI D cI cZ ad R0) args s 0 0 (pv_A ad)) 3 D cI cZ ad (pv_A ad) 0 [(0, .ref (ad 6)), (1, .ref (ad 3))] [] σ := by
  unfold f_X0_wrong at h
  refine x_iconst (v := 0) C dX0_wrong_0 (by decide) ?_
  refine x_istore_n (lv' := [(2, .int 0), (0, .ref (ad 6)), (1, .ref (ad 3))]) C dX0_wrong_1 rfl (by decide) rfl ?_
  refine x_sub [1, 2, 0] rfl ?_
  exact w_X0_wrong_2 C hr R0 pv_FU 0 σ h
theorem m_X0_wrong (l : Launch) (D : va_G) (cI cZ : ClassId) (ad : Nat → Nat) (hJ : pv_J ad)  (σ : pv_S) (R0 : (Int32 × pv_S)) (h : f_X0_wrong σ = some R0) : Met l yX0_wrong (Cond.code yX0_wrong cX0_wrong 3 (some .int) :: lwG) r_X0_wrong (va_Pc [.ref (ad 6), .ref (ad 3)] (pv_P D cI cZ ad σ)) (pv_QI D cI cZ ad R0) 0 0 (pv_A ad) := x_met (by decide) rfl hJ (Nat.le_of_ble_eq_true rfl) (fun p e s m args below meth c C hr => w_X0_wrong_0 C hr R0 σ h)
abbrev r_X2_held : Room := { frames := 0, cells := 0, slots := 0, locals := 0 }
set_option maxRecDepth 100000 in
set_option maxHeartbeats 4000000 in
theorem w_X2_held_0 {p : Program} {l : Launch} {e : Env} {s : State} {m : MethodId} {args : Array Value} {below : List Frame} {meth : Method} {c : Code} {D : va_G} {cI cZ : ClassId} {ad : Nat → Nat} (C : pv_C p s m args meth c cX2_held 1 RX2 D cI cZ ad (pv_A ad)) (hr : meth.sig.returnType = some .int) (R0 : (Int32 × pv_S)) (σ : pv_S) (h : f_X2_held σ = some R0) : Wx p l e r_X2_held s m args below meth c 0 0 (MQ below (pv_QI D cI cZ ad R0) args s 0 0 (pv_A ad)) 1 D cI cZ ad (pv_A ad) 0 [(0, .ref (ad 4))] [] σ := by
  unfold f_X2_held at h
  refine x_aload_n C dX2_held_0 rfl 0 rfl ?_
  refine xg_X2_15 C dX2_held_1 ?_
  exact x_iret C hr dX2_held_4 (Option.some.inj h)
theorem m_X2_held (l : Launch) (D : va_G) (cI cZ : ClassId) (ad : Nat → Nat) (hJ : pv_J ad)  (σ : pv_S) (R0 : (Int32 × pv_S)) (h : f_X2_held σ = some R0) : Met l yX2_held (Cond.code yX2_held cX2_held 1 (some .int) :: lwG) r_X2_held (va_Pc [.ref (ad 4)] (pv_P D cI cZ ad σ)) (pv_QI D cI cZ ad R0) 0 0 (pv_A ad) := x_met (by decide) rfl hJ (Nat.le_of_ble_eq_true rfl) (fun p e s m args below meth c C hr => w_X2_held_0 C hr R0 σ h)
abbrev r_X1_state : Room := { frames := 0, cells := 0, slots := 0, locals := 0 }
set_option maxRecDepth 100000 in
set_option maxHeartbeats 4000000 in
theorem w_X1_state_0 {p : Program} {l : Launch} {e : Env} {s : State} {m : MethodId} {args : Array Value} {below : List Frame} {meth : Method} {c : Code} {D : va_G} {cI cZ : ClassId} {ad : Nat → Nat} (C : pv_C p s m args meth c cX1_state 1 RX1 D cI cZ ad (pv_A ad)) (hr : meth.sig.returnType = some .int) (R0 : (Int32 × pv_S)) (σ : pv_S) (h : f_X1_state σ = some R0) : Wx p l e r_X1_state s m args below meth c 0 0 (MQ below (pv_QI D cI cZ ad R0) args s 0 0 (pv_A ad)) 1 D cI cZ ad (pv_A ad) 0 [(0, .ref (ad 7))] [] σ := by
  unfold f_X1_state at h
  refine x_aload_n C dX1_state_0 rfl 0 rfl ?_
  refine xg_X1_7 C dX1_state_1 ?_
  exact x_iret C hr dX1_state_4 (Option.some.inj h)
theorem m_X1_state (l : Launch) (D : va_G) (cI cZ : ClassId) (ad : Nat → Nat) (hJ : pv_J ad)  (σ : pv_S) (R0 : (Int32 × pv_S)) (h : f_X1_state σ = some R0) : Met l yX1_state (Cond.code yX1_state cX1_state 1 (some .int) :: lwG) r_X1_state (va_Pc [.ref (ad 7)] (pv_P D cI cZ ad σ)) (pv_QI D cI cZ ad R0) 0 0 (pv_A ad) := x_met (by decide) rfl hJ (Nat.le_of_ble_eq_true rfl) (fun p e s m args below meth c C hr => w_X1_state_0 C hr R0 σ h)
