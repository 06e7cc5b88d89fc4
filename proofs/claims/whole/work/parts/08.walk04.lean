abbrev r_X6_drop : Room := { frames := 3, cells := 0, slots := 0, locals := 64 }
set_option maxRecDepth 100000 in
set_option maxHeartbeats 4000000 in
theorem w_X6_drop_0 {p : Program} {l : Launch} {e : Env} {s : State} {m : MethodId} {args : Array Value} {below : List Frame} {meth : Method} {c : Code} {D : va_G} {cI cZ : ClassId} {ad : Nat → Nat} (C : pv_C p s m args meth c cX6_drop 4 RX6 D cI cZ ad (pv_A ad)) (hr : meth.sig.returnType = none) (R0 : pv_S) (p0 : Int32) (σ : pv_S) (h : f_X6_drop p0 σ = some R0) : Wx p l e r_X6_drop s m args below meth c 0 0 (MQ below (pv_QV D cI cZ ad R0) args s 0 0 (pv_A ad)) 4 D cI cZ ad (pv_A ad) 0 [(0, .ref (ad 1)), (1, .int p0)] [] σ := by
  unfold f_X6_drop at h
  refine x_aload_n C dX6_drop_0 rfl 0 rfl ?_
  refine x_iload_n C dX6_drop_1 rfl 1 rfl ?_
  obtain ⟨q1, eq1, h⟩ := gb_some h
  refine x_vi (st := []) C kY_X6_has 1 6 rfl rfl rfl (m_X6_has l D cI cZ ad C.2.2.2.2.2.2.1 p0 σ q1 eq1) kl_X6_42 ⟨rfl, rfl⟩ ⟨Nat.le_of_ble_eq_true rfl, Nat.le_of_ble_eq_true rfl⟩ ⟨Nat.zero_le _, Nat.zero_le _⟩ rfl rfl (Nat.le_of_ble_eq_true rfl) dX6_drop_2 ?_
  refine x_if_ne C 9 dX6_drop_5 (by decide) (fun c2 => ?_) (fun c2 => ?_)
  · have h := (if_neg c2).symm.trans h
    refine x_bipush (v := 6) C dX6_drop_9 (by decide) ?_
    refine x_iload_n C dX6_drop_11 rfl 1 rfl ?_
    refine x_iconst (v := 4) C dX6_drop_12 (by decide) ?_
    refine x_imul C dX6_drop_13 ?_
    refine x_iadd C dX6_drop_14 ?_
    refine x_istore_n (lv' := [(2, .int (6 + (p0 * 4))), (0, .ref (ad 1)), (1, .int p0)]) C dX6_drop_15 rfl (by decide) rfl ?_
    refine x_aload_n C dX6_drop_16 rfl 1 rfl ?_
    obtain ⟨q3, eq3, h⟩ := gb_some h
    refine x_vi (st := []) C kY_X6_count 1 6 rfl rfl rfl (m_X6_count l D cI cZ ad C.2.2.2.2.2.2.1 q1.2 q3 eq3) kl_X6_64 ⟨rfl, rfl⟩ ⟨Nat.le_of_ble_eq_true rfl, Nat.le_of_ble_eq_true rfl⟩ ⟨Nat.zero_le _, Nat.zero_le _⟩ rfl rfl (Nat.le_of_ble_eq_true rfl) dX6_drop_17 ?_
    refine x_iconst (v := 1) C dX6_drop_20 (by decide) ?_
    refine x_isub C dX6_drop_21 ?_
    refine x_iload_n C dX6_drop_22 rfl 2 rfl ?_
    refine x_isub C dX6_drop_23 ?_
    refine x_istore_n (lv' := [(3, .int ((q3.1 - 1) - p0)), (2, .int (6 + (p0 * 4))), (0, .ref (ad 1)), (1, .int p0)]) C dX6_drop_24 rfl (by decide) rfl ?_
    refine x_aload_n C dX6_drop_25 rfl 2 rfl ?_
    refine xg_X6_11 C dX6_drop_26 ?_
    refine x_iload_n C dX6_drop_29 rfl 1 rfl ?_
    refine x_iconst (v := 4) C dX6_drop_30 (by decide) ?_
    refine x_iadd C dX6_drop_31 ?_
    refine x_aload_n C dX6_drop_32 rfl 2 rfl ?_
    refine xg_X6_11 C dX6_drop_33 ?_
    refine x_iload_n C dX6_drop_36 rfl 1 rfl ?_
    refine x_iload_n C dX6_drop_37 rfl 0 rfl ?_
    refine x_iconst (v := 4) C dX6_drop_38 (by decide) ?_
    refine x_imul C dX6_drop_39 ?_
    obtain ⟨g4, h⟩ := gc_some h
    refine x_copy (σ' := (pv_cp q3.2 0 0 ((6 + (p0 * 4)) + 4) (6 + (p0 * 4)) (((q3.1 - 1) - p0) * 4))) C 9 9 rfl rfl kl_X6_18 kA_nat kA_stat kA_init g4 ⟨Nat.le_of_ble_eq_true rfl, Nat.le_of_ble_eq_true rfl⟩ rfl dX6_drop_40 ?_
    refine x_aload_n C dX6_drop_43 rfl 2 rfl ?_
    refine xg_X6_11 C dX6_drop_44 ?_
    refine x_iconst (v := 0) C dX6_drop_47 (by decide) ?_
    refine x_aload_n C dX6_drop_48 rfl 2 rfl ?_
    obtain ⟨q5, eq5, h⟩ := gb_some h
    refine x_vi (st := [.int 0, .ref (ad 9)]) C kY_X6_count 1 6 rfl rfl rfl (m_X6_count l D cI cZ ad C.2.2.2.2.2.2.1 (pv_cp q3.2 0 0 ((6 + (p0 * 4)) + 4) (6 + (p0 * 4)) (((q3.1 - 1) - p0) * 4)) q5 eq5) kl_X6_64 ⟨rfl, rfl⟩ ⟨Nat.le_of_ble_eq_true rfl, Nat.le_of_ble_eq_true rfl⟩ ⟨Nat.zero_le _, Nat.zero_le _⟩ rfl rfl (Nat.le_of_ble_eq_true rfl) dX6_drop_49 ?_
    refine x_iconst (v := 1) C dX6_drop_52 (by decide) ?_
    refine x_isub C dX6_drop_53 ?_
    obtain ⟨g6, h⟩ := gd_some h
    refine xs_0 C g6 dX6_drop_54 ?_
    refine x_aload_n C dX6_drop_55 rfl 2 rfl ?_
    obtain ⟨q7, eq7, h⟩ := gb_some h
    refine x_vv (st := []) C kY_X6_changed 1 6 rfl rfl rfl (m_X6_changed l D cI cZ ad C.2.2.2.2.2.2.1 (pv_sa q5.2 0 0 (q5.1 - 1)) q7 eq7) kl_X6_39 ⟨rfl, rfl⟩ ⟨Nat.le_of_ble_eq_true rfl, Nat.le_of_ble_eq_true rfl⟩ ⟨Nat.zero_le _, Nat.zero_le _⟩ rfl rfl (Nat.le_of_ble_eq_true rfl) dX6_drop_56 ?_
    exact x_vret C hr dX6_drop_59 (Option.some.inj h)
  · have h := (if_pos c2).symm.trans h
    exact x_vret C hr dX6_drop_8 (Option.some.inj h)
theorem m_X6_drop (l : Launch) (D : va_G) (cI cZ : ClassId) (ad : Nat → Nat) (hJ : pv_J ad) (p0 : Int32) (σ : pv_S) (R0 : pv_S) (h : f_X6_drop p0 σ = some R0) : Met l yX6_drop (Cond.code yX6_drop cX6_drop 4 (none) :: lwG) r_X6_drop (va_Pc [.ref (ad 1), .int p0] (pv_P D cI cZ ad σ)) (pv_QV D cI cZ ad R0) 0 0 (pv_A ad) := x_met (by decide) rfl hJ (Nat.le_of_ble_eq_true rfl) (fun p e s m args below meth c C hr => w_X6_drop_0 C hr R0 p0 σ h)
abbrev r_X7_take : Room := { frames := 4, cells := 0, slots := 0, locals := 87 }
set_option maxRecDepth 100000 in
set_option maxHeartbeats 4000000 in
theorem w_X7_take_0 {p : Program} {l : Launch} {e : Env} {s : State} {m : MethodId} {args : Array Value} {below : List Frame} {meth : Method} {c : Code} {D : va_G} {cI cZ : ClassId} {ad : Nat → Nat} (C : pv_C p s m args meth c cX7_take 2 RX7 D cI cZ ad (pv_A ad)) (hr : meth.sig.returnType = some .int) (R0 : (Int32 × pv_S)) (p0 : Int32) (σ : pv_S) (h : f_X7_take p0 σ = some R0) : Wx p l e r_X7_take s m args below meth c 0 0 (MQ below (pv_QI D cI cZ ad R0) args s 0 0 (pv_A ad)) 2 D cI cZ ad (pv_A ad) 0 [(0, .ref (ad 0)), (1, .int p0)] [] σ := by
  unfold f_X7_take at h
  refine x_aload_n C dX7_take_0 rfl 0 rfl ?_
  refine xg_X7_10 C dX7_take_1 ?_
  refine x_iload_n C dX7_take_4 rfl 1 rfl ?_
  obtain ⟨q1, eq1, h⟩ := gb_some h
  refine x_vi (st := []) C kY_X6_has 1 6 rfl rfl rfl (m_X6_has l D cI cZ ad C.2.2.2.2.2.2.1 p0 σ q1 eq1) kl_X7_108 ⟨rfl, rfl⟩ ⟨Nat.le_of_ble_eq_true rfl, Nat.le_of_ble_eq_true rfl⟩ ⟨Nat.zero_le _, Nat.zero_le _⟩ rfl rfl (Nat.le_of_ble_eq_true rfl) dX7_take_5 ?_
  refine x_if_ne C 14 dX7_take_8 (by decide) (fun c2 => ?_) (fun c2 => ?_)
  · have h := (if_neg c2).symm.trans h
    refine x_aload_n C dX7_take_14 rfl 0 rfl ?_
    refine xg_X7_35 C dX7_take_15 ?_
    refine x_aload_n C dX7_take_18 rfl 0 rfl ?_
    refine xg_X7_10 C dX7_take_19 ?_
    obtain ⟨q3, eq3, h⟩ := gb_some h
    refine x_vv (st := []) C kY_X2_record 4 2 rfl rfl rfl (m_X2_record l D cI cZ ad C.2.2.2.2.2.2.1 q1.2 q3 eq3) kl_X7_183 ⟨rfl, rfl⟩ ⟨Nat.le_of_ble_eq_true rfl, Nat.le_of_ble_eq_true rfl⟩ ⟨Nat.zero_le _, Nat.zero_le _⟩ rfl rfl (Nat.le_of_ble_eq_true rfl) dX7_take_22 ?_
    refine x_aload_n C dX7_take_25 rfl 0 rfl ?_
    refine xg_X7_10 C dX7_take_26 ?_
    refine x_iload_n C dX7_take_29 rfl 1 rfl ?_
    obtain ⟨q4, eq4, h⟩ := gb_some h
    refine x_vv (st := []) C kY_X6_drop 1 6 rfl rfl rfl (m_X6_drop l D cI cZ ad C.2.2.2.2.2.2.1 p0 q3 q4 eq4) kl_X7_190 ⟨rfl, rfl⟩ ⟨Nat.le_of_ble_eq_true rfl, Nat.le_of_ble_eq_true rfl⟩ ⟨Nat.zero_le _, Nat.zero_le _⟩ rfl rfl (Nat.le_of_ble_eq_true rfl) dX7_take_30 ?_
    refine x_aload_n C dX7_take_33 rfl 0 rfl ?_
    refine xg_X7_10 C dX7_take_34 ?_
    obtain ⟨q5, eq5, h⟩ := gb_some h
    refine x_vi (st := []) C kY_X6_count 1 6 rfl rfl rfl (m_X6_count l D cI cZ ad C.2.2.2.2.2.2.1 q4 q5 eq5) kl_X7_60 ⟨rfl, rfl⟩ ⟨Nat.le_of_ble_eq_true rfl, Nat.le_of_ble_eq_true rfl⟩ ⟨Nat.zero_le _, Nat.zero_le _⟩ rfl rfl (Nat.le_of_ble_eq_true rfl) dX7_take_37 ?_
    exact x_iret C hr dX7_take_40 (Option.some.inj h)
  · have h := (if_pos c2).symm.trans h
    refine x_ldc C kc_X7_112 dX7_take_11 ?_
    exact x_iret C hr dX7_take_13 (Option.some.inj h)
theorem m_X7_take (l : Launch) (D : va_G) (cI cZ : ClassId) (ad : Nat → Nat) (hJ : pv_J ad) (p0 : Int32) (σ : pv_S) (R0 : (Int32 × pv_S)) (h : f_X7_take p0 σ = some R0) : Met l yX7_take (Cond.code yX7_take cX7_take 2 (some .int) :: lwG) r_X7_take (va_Pc [.ref (ad 0), .int p0] (pv_P D cI cZ ad σ)) (pv_QI D cI cZ ad R0) 0 0 (pv_A ad) := x_met (by decide) rfl hJ (Nat.le_of_ble_eq_true rfl) (fun p e s m args below meth c C hr => w_X7_take_0 C hr R0 p0 σ h)
abbrev r_X7_move : Room := { frames := 4, cells := 0, slots := 0, locals := 94 }
set_option maxRecDepth 100000 in
set_option maxHeartbeats 4000000 in
theorem w_X7_move_0 {p : Program} {l : Launch} {e : Env} {s : State} {m : MethodId} {args : Array Value} {below : List Frame} {meth : Method} {c : Code} {D : va_G} {cI cZ : ClassId} {ad : Nat → Nat} (C : pv_C p s m args meth c cX7_move 5 RX7 D cI cZ ad (pv_A ad)) (hr : meth.sig.returnType = some .int) (R0 : (Int32 × pv_S)) (p0 : Int32) (p1 : Int32) (p2 : Int32) (p3 : Int32) (σ : pv_S) (h : f_X7_move p0 p1 p2 p3 σ = some R0) : Wx p l e r_X7_move s m args below meth c 0 0 (MQ below (pv_QI D cI cZ ad R0) args s 0 0 (pv_A ad)) 5 D cI cZ ad (pv_A ad) 0 [(0, .ref (ad 0)), (1, .int p0), (2, .int p1), (3, .int p2), (4, .int p3)] [] σ := by
  unfold f_X7_move at h
  refine x_aload_n C dX7_move_0 rfl 0 rfl ?_
  refine xg_X7_10 C dX7_move_1 ?_
  refine x_iload_n C dX7_move_4 rfl 1 rfl ?_
  obtain ⟨q1, eq1, h⟩ := gb_some h
  refine x_vi (st := []) C kY_X6_has 1 6 rfl rfl rfl (m_X6_has l D cI cZ ad C.2.2.2.2.2.2.1 p0 σ q1 eq1) kl_X7_108 ⟨rfl, rfl⟩ ⟨Nat.le_of_ble_eq_true rfl, Nat.le_of_ble_eq_true rfl⟩ ⟨Nat.zero_le _, Nat.zero_le _⟩ rfl rfl (Nat.le_of_ble_eq_true rfl) dX7_move_5 ?_
  refine x_if_ne C 14 dX7_move_8 (by decide) (fun c2 => ?_) (fun c2 => ?_)
  · have h := (if_neg c2).symm.trans h
    refine x_iload_n C dX7_move_14 rfl 2 rfl ?_
    refine x_iload_n C dX7_move_15 rfl 3 rfl ?_
    refine x_iload C dX7_move_16 4 rfl ?_
    obtain ⟨q3, eq3, h⟩ := gb_some h
    refine x_si (st := []) C kY_X6_canBe (m_X6_canBe l D cI cZ ad C.2.2.2.2.2.2.1 p1 p2 p3 q1.2 q3 eq3) kl_X7_174 ⟨rfl, rfl⟩ ⟨Nat.le_of_ble_eq_true rfl, Nat.le_of_ble_eq_true rfl⟩ ⟨Nat.zero_le _, Nat.zero_le _⟩ rfl rfl (Nat.le_of_ble_eq_true rfl) dX7_move_18 ?_
    refine x_if_ne C 27 dX7_move_21 (by decide) (fun c4 => ?_) (fun c4 => ?_)
    · have h := (if_neg c4).symm.trans h
      refine x_aload_n C dX7_move_27 rfl 0 rfl ?_
      refine xg_X7_35 C dX7_move_28 ?_
      refine x_aload_n C dX7_move_31 rfl 0 rfl ?_
      refine xg_X7_10 C dX7_move_32 ?_
      obtain ⟨q5, eq5, h⟩ := gb_some h
      refine x_vv (st := []) C kY_X2_record 4 2 rfl rfl rfl (m_X2_record l D cI cZ ad C.2.2.2.2.2.2.1 q3.2 q5 eq5) kl_X7_183 ⟨rfl, rfl⟩ ⟨Nat.le_of_ble_eq_true rfl, Nat.le_of_ble_eq_true rfl⟩ ⟨Nat.zero_le _, Nat.zero_le _⟩ rfl rfl (Nat.le_of_ble_eq_true rfl) dX7_move_35 ?_
      refine x_aload_n C dX7_move_38 rfl 0 rfl ?_
      refine xg_X7_10 C dX7_move_39 ?_
      refine x_iload_n C dX7_move_42 rfl 1 rfl ?_
      obtain ⟨q6, eq6, h⟩ := gb_some h
      refine x_vv (st := []) C kY_X6_drop 1 6 rfl rfl rfl (m_X6_drop l D cI cZ ad C.2.2.2.2.2.2.1 p0 q5 q6 eq6) kl_X7_190 ⟨rfl, rfl⟩ ⟨Nat.le_of_ble_eq_true rfl, Nat.le_of_ble_eq_true rfl⟩ ⟨Nat.zero_le _, Nat.zero_le _⟩ rfl rfl (Nat.le_of_ble_eq_true rfl) dX7_move_43 ?_
      refine x_aload_n C dX7_move_46 rfl 0 rfl ?_
      refine xg_X7_10 C dX7_move_47 ?_
      refine x_iload_n C dX7_move_50 rfl 2 rfl ?_
      refine x_iload_n C dX7_move_51 rfl 3 rfl ?_
      refine x_iload C dX7_move_52 4 rfl ?_
      obtain ⟨q7, eq7, h⟩ := gb_some h
      refine x_vi (st := []) C kY_X6_bring 1 6 rfl rfl rfl (m_X6_bring l D cI cZ ad C.2.2.2.2.2.2.1 p1 p2 p3 q6 q7 eq7) kl_X7_186 ⟨rfl, rfl⟩ ⟨Nat.le_of_ble_eq_true rfl, Nat.le_of_ble_eq_true rfl⟩ ⟨Nat.zero_le _, Nat.zero_le _⟩ rfl rfl (Nat.le_of_ble_eq_true rfl) dX7_move_54 ?_
      exact x_iret C hr dX7_move_57 (Option.some.inj h)
    · have h := (if_pos c4).symm.trans h
      refine x_ldc C kc_X7_107 dX7_move_24 ?_
      exact x_iret C hr dX7_move_26 (Option.some.inj h)
  · have h := (if_pos c2).symm.trans h
    refine x_ldc C kc_X7_112 dX7_move_11 ?_
    exact x_iret C hr dX7_move_13 (Option.some.inj h)
theorem m_X7_move (l : Launch) (D : va_G) (cI cZ : ClassId) (ad : Nat → Nat) (hJ : pv_J ad) (p0 : Int32) (p1 : Int32) (p2 : Int32) (p3 : Int32) (σ : pv_S) (R0 : (Int32 × pv_S)) (h : f_X7_move p0 p1 p2 p3 σ = some R0) : Met l yX7_move (Cond.code yX7_move cX7_move 5 (some .int) :: lwG) r_X7_move (va_Pc [.ref (ad 0), .int p0, .int p1, .int p2, .int p3] (pv_P D cI cZ ad σ)) (pv_QI D cI cZ ad R0) 0 0 (pv_A ad) := x_met (by decide) rfl hJ (Nat.le_of_ble_eq_true rfl) (fun p e s m args below meth c C hr => w_X7_move_0 C hr R0 p0 p1 p2 p3 σ h)
abbrev r_X7_share : Room := { frames := 4, cells := 0, slots := 0, locals := 94 }
set_option maxRecDepth 100000 in
set_option maxHeartbeats 4000000 in
theorem w_X7_share_0 {p : Program} {l : Launch} {e : Env} {s : State} {m : MethodId} {args : Array Value} {below : List Frame} {meth : Method} {c : Code} {D : va_G} {cI cZ : ClassId} {ad : Nat → Nat} (C : pv_C p s m args meth c cX7_share 2 RX7 D cI cZ ad (pv_A ad)) (hr : meth.sig.returnType = some .int) (R0 : (Int32 × pv_S)) (p0 : Int32) (σ : pv_S) (h : f_X7_share p0 σ = some R0) : Wx p l e r_X7_share s m args below meth c 0 0 (MQ below (pv_QI D cI cZ ad R0) args s 0 0 (pv_A ad)) 2 D cI cZ ad (pv_A ad) 0 [(0, .ref (ad 0)), (1, .int p0)] [] σ := by
  unfold f_X7_share at h
  refine x_aload_n C dX7_share_0 rfl 0 rfl ?_
  refine xg_X7_10 C dX7_share_1 ?_
  refine x_iload_n C dX7_share_4 rfl 1 rfl ?_
  obtain ⟨q1, eq1, h⟩ := gb_some h
  refine x_vi (st := []) C kY_X6_has 1 6 rfl rfl rfl (m_X6_has l D cI cZ ad C.2.2.2.2.2.2.1 p0 σ q1 eq1) kl_X7_108 ⟨rfl, rfl⟩ ⟨Nat.le_of_ble_eq_true rfl, Nat.le_of_ble_eq_true rfl⟩ ⟨Nat.zero_le _, Nat.zero_le _⟩ rfl rfl (Nat.le_of_ble_eq_true rfl) dX7_share_5 ?_
  refine x_if_ne C 14 dX7_share_8 (by decide) (fun c2 => ?_) (fun c2 => ?_)
  · have h := (if_neg c2).symm.trans h
    refine x_aload_n C dX7_share_14 rfl 0 rfl ?_
    refine xg_X7_10 C dX7_share_15 ?_
    obtain ⟨q3, eq3, h⟩ := gb_some h
    refine x_vi (st := []) C kY_X6_isFull 1 6 rfl rfl rfl (m_X6_isFull l D cI cZ ad C.2.2.2.2.2.2.1 q1.2 q3 eq3) kl_X7_178 ⟨rfl, rfl⟩ ⟨Nat.le_of_ble_eq_true rfl, Nat.le_of_ble_eq_true rfl⟩ ⟨Nat.zero_le _, Nat.zero_le _⟩ rfl rfl (Nat.le_of_ble_eq_true rfl) dX7_share_18 ?_
    refine x_if_eq C 27 dX7_share_21 (by decide) (fun c4 => ?_) (fun c4 => ?_)
    · have h := (if_pos c4).symm.trans h
      refine x_aload_n C dX7_share_27 rfl 0 rfl ?_
      refine xg_X7_35 C dX7_share_28 ?_
      refine x_aload_n C dX7_share_31 rfl 0 rfl ?_
      refine xg_X7_10 C dX7_share_32 ?_
      obtain ⟨q5, eq5, h⟩ := gb_some h
      refine x_vv (st := []) C kY_X2_record 4 2 rfl rfl rfl (m_X2_record l D cI cZ ad C.2.2.2.2.2.2.1 q3.2 q5 eq5) kl_X7_183 ⟨rfl, rfl⟩ ⟨Nat.le_of_ble_eq_true rfl, Nat.le_of_ble_eq_true rfl⟩ ⟨Nat.zero_le _, Nat.zero_le _⟩ rfl rfl (Nat.le_of_ble_eq_true rfl) dX7_share_35 ?_
      refine x_aload_n C dX7_share_38 rfl 0 rfl ?_
      refine xg_X7_10 C dX7_share_39 ?_
      refine x_aload_n C dX7_share_42 rfl 0 rfl ?_
      refine xg_X7_10 C dX7_share_43 ?_
      refine x_iload_n C dX7_share_46 rfl 1 rfl ?_
      obtain ⟨q6, eq6, h⟩ := gb_some h
      refine x_vi (st := [.ref (ad 1)]) C kY_X6_on 1 6 rfl rfl rfl (m_X6_on l D cI cZ ad C.2.2.2.2.2.2.1 p0 q5 q6 eq6) kl_X7_113 ⟨rfl, rfl⟩ ⟨Nat.le_of_ble_eq_true rfl, Nat.le_of_ble_eq_true rfl⟩ ⟨Nat.zero_le _, Nat.zero_le _⟩ rfl rfl (Nat.le_of_ble_eq_true rfl) dX7_share_47 ?_
      refine x_aload_n C dX7_share_50 rfl 0 rfl ?_
      refine xg_X7_10 C dX7_share_51 ?_
      refine x_iload_n C dX7_share_54 rfl 1 rfl ?_
      obtain ⟨q7, eq7, h⟩ := gb_some h
      refine x_vi (st := [.int q6.1, .ref (ad 1)]) C kY_X6_length 1 6 rfl rfl rfl (m_X6_length l D cI cZ ad C.2.2.2.2.2.2.1 p0 q6.2 q7 eq7) kl_X7_194 ⟨rfl, rfl⟩ ⟨Nat.le_of_ble_eq_true rfl, Nat.le_of_ble_eq_true rfl⟩ ⟨Nat.zero_le _, Nat.zero_le _⟩ rfl rfl (Nat.le_of_ble_eq_true rfl) dX7_share_55 ?_
      refine x_aload_n C dX7_share_58 rfl 0 rfl ?_
      refine xg_X7_10 C dX7_share_59 ?_
      refine x_iload_n C dX7_share_62 rfl 1 rfl ?_
      obtain ⟨q8, eq8, h⟩ := gb_some h
      refine x_vi (st := [.int q7.1, .int q6.1, .ref (ad 1)]) C kY_X6_pitch 1 6 rfl rfl rfl (m_X6_pitch l D cI cZ ad C.2.2.2.2.2.2.1 p0 q7.2 q8 eq8) kl_X7_119 ⟨rfl, rfl⟩ ⟨Nat.le_of_ble_eq_true rfl, Nat.le_of_ble_eq_true rfl⟩ ⟨Nat.zero_le _, Nat.zero_le _⟩ rfl rfl (Nat.le_of_ble_eq_true rfl) dX7_share_63 ?_
      obtain ⟨q9, eq9, h⟩ := gb_some h
      refine x_vi (st := []) C kY_X6_bring 1 6 rfl rfl rfl (m_X6_bring l D cI cZ ad C.2.2.2.2.2.2.1 q6.1 q7.1 q8.1 q8.2 q9 eq9) kl_X7_186 ⟨rfl, rfl⟩ ⟨Nat.le_of_ble_eq_true rfl, Nat.le_of_ble_eq_true rfl⟩ ⟨Nat.zero_le _, Nat.zero_le _⟩ rfl rfl (Nat.le_of_ble_eq_true rfl) dX7_share_66 ?_
      exact x_iret C hr dX7_share_69 (Option.some.inj h)
    · have h := (if_neg c4).symm.trans h
      refine x_ldc C kc_X7_182 dX7_share_24 ?_
      exact x_iret C hr dX7_share_26 (Option.some.inj h)
  · have h := (if_pos c2).symm.trans h
    refine x_ldc C kc_X7_112 dX7_share_11 ?_
    exact x_iret C hr dX7_share_13 (Option.some.inj h)
theorem m_X7_share (l : Launch) (D : va_G) (cI cZ : ClassId) (ad : Nat → Nat) (hJ : pv_J ad) (p0 : Int32) (σ : pv_S) (R0 : (Int32 × pv_S)) (h : f_X7_share p0 σ = some R0) : Met l yX7_share (Cond.code yX7_share cX7_share 2 (some .int) :: lwG) r_X7_share (va_Pc [.ref (ad 0), .int p0] (pv_P D cI cZ ad σ)) (pv_QI D cI cZ ad R0) 0 0 (pv_A ad) := x_met (by decide) rfl hJ (Nat.le_of_ble_eq_true rfl) (fun p e s m args below meth c C hr => w_X7_share_0 C hr R0 p0 σ h)
abbrev r_X6_canBeTerm : Room := { frames := 0, cells := 0, slots := 0, locals := 0 }
set_option maxRecDepth 100000 in
set_option maxHeartbeats 4000000 in
theorem w_X6_canBeTerm_0 {p : Program} {l : Launch} {e : Env} {s : State} {m : MethodId} {args : Array Value} {below : List Frame} {meth : Method} {c : Code} {D : va_G} {cI cZ : ClassId} {ad : Nat → Nat} (C : pv_C p s m args meth c cX6_canBeTerm 2 RX6 D cI cZ ad (pv_A ad)) (hr : meth.sig.returnType = some .boolean) (R0 : (Int32 × pv_S)) (p0 : Int32) (p1 : Int32) (σ : pv_S) (h : f_X6_canBeTerm p0 p1 σ = some R0) : Wx p l e r_X6_canBeTerm s m args below meth c 0 0 (MQ below (pv_QI D cI cZ ad R0) args s 0 0 (pv_A ad)) 2 D cI cZ ad (pv_A ad) 0 [(0, .int p0), (1, .int p1)] [] σ := by
  unfold f_X6_canBeTerm at h
  refine x_iload_n C dX6_canBeTerm_0 rfl 0 rfl ?_
  refine x_if_lt C 26 dX6_canBeTerm_1 (by decide) (fun c1 => ?_) (fun c1 => ?_)
  · have h := (if_pos c1).symm.trans h
    refine x_iconst (v := 0) C dX6_canBeTerm_26 (by decide) ?_
    exact x_zret C hr rfl dX6_canBeTerm_27 (Option.some.inj h)
  · have h := (if_neg c1).symm.trans h
    refine x_iload_n C dX6_canBeTerm_4 rfl 0 rfl ?_
    refine x_iconst (v := 5) C dX6_canBeTerm_5 (by decide) ?_
    refine x_icmp_ge C 26 dX6_canBeTerm_6 (by decide) (fun c2 => ?_) (fun c2 => ?_)
    · have h := (if_pos c2).symm.trans h
      refine x_iconst (v := 0) C dX6_canBeTerm_26 (by decide) ?_
      exact x_zret C hr rfl dX6_canBeTerm_27 (Option.some.inj h)
    · have h := (if_neg c2).symm.trans h
      refine x_iload_n C dX6_canBeTerm_9 rfl 1 rfl ?_
      refine x_if_lt C 26 dX6_canBeTerm_10 (by decide) (fun c3 => ?_) (fun c3 => ?_)
      · have h := (if_pos c3).symm.trans h
        refine x_iconst (v := 0) C dX6_canBeTerm_26 (by decide) ?_
        exact x_zret C hr rfl dX6_canBeTerm_27 (Option.some.inj h)
      · have h := (if_neg c3).symm.trans h
        refine x_iload_n C dX6_canBeTerm_13 rfl 1 rfl ?_
        refine x_gterm C kf_X6_24 dX6_canBeTerm_14 (fun gt4 hgt4 => ?_)
        refine x_iload_n C dX6_canBeTerm_17 rfl 0 rfl ?_
        obtain ⟨g5, h⟩ := gd_some h
        refine x_gti C hgt4 g5 dX6_canBeTerm_18 ?_
        refine x_icmp_gt C 26 dX6_canBeTerm_19 (by decide) (fun c6 => ?_) (fun c6 => ?_)
        · have h := (if_pos c6).symm.trans h
          refine x_iconst (v := 0) C dX6_canBeTerm_26 (by decide) ?_
          exact x_zret C hr rfl dX6_canBeTerm_27 (Option.some.inj h)
        · have h := (if_neg c6).symm.trans h
          refine x_iconst (v := 1) C dX6_canBeTerm_22 (by decide) ?_
          refine x_goto C 27 dX6_canBeTerm_23 (by decide) ?_
          exact x_zret C hr rfl dX6_canBeTerm_27 (Option.some.inj h)
theorem m_X6_canBeTerm (l : Launch) (D : va_G) (cI cZ : ClassId) (ad : Nat → Nat) (hJ : pv_J ad) (p0 : Int32) (p1 : Int32) (σ : pv_S) (R0 : (Int32 × pv_S)) (h : f_X6_canBeTerm p0 p1 σ = some R0) : Met l yX6_canBeTerm (Cond.code yX6_canBeTerm cX6_canBeTerm 2 (some .boolean) :: lwG) r_X6_canBeTerm (va_Pc [.int p0, .int p1] (pv_P D cI cZ ad σ)) (pv_QI D cI cZ ad R0) 0 0 (pv_A ad) := x_met (by decide) rfl hJ (Nat.le_of_ble_eq_true rfl) (fun p e s m args below meth c C hr => w_X6_canBeTerm_0 C hr R0 p0 p1 σ h)
abbrev r_X6_changeTerm : Room := { frames := 3, cells := 0, slots := 0, locals := 64 }
set_option maxRecDepth 100000 in
set_option maxHeartbeats 4000000 in
theorem w_X6_changeTerm_0 {p : Program} {l : Launch} {e : Env} {s : State} {m : MethodId} {args : Array Value} {below : List Frame} {meth : Method} {c : Code} {D : va_G} {cI cZ : ClassId} {ad : Nat → Nat} (C : pv_C p s m args meth c cX6_changeTerm 4 RX6 D cI cZ ad (pv_A ad)) (hr : meth.sig.returnType = some .int) (R0 : (Int32 × pv_S)) (p0 : Int32) (p1 : Int32) (σ : pv_S) (h : f_X6_changeTerm p0 p1 σ = some R0) : Wx p l e r_X6_changeTerm s m args below meth c 0 0 (MQ below (pv_QI D cI cZ ad R0) args s 0 0 (pv_A ad)) 4 D cI cZ ad (pv_A ad) 0 [(0, .ref (ad 1)), (1, .int p0), (2, .int p1)] [] σ := by
  unfold f_X6_changeTerm at h
  refine x_aload_n C dX6_changeTerm_0 rfl 0 rfl ?_
  refine x_iload_n C dX6_changeTerm_1 rfl 1 rfl ?_
  obtain ⟨q1, eq1, h⟩ := gb_some h
  refine x_vi (st := []) C kY_X6_valueOf 1 6 rfl rfl rfl (m_X6_valueOf l D cI cZ ad C.2.2.2.2.2.2.1 p0 σ q1 eq1) kl_X6_35 ⟨rfl, rfl⟩ ⟨Nat.le_of_ble_eq_true rfl, Nat.le_of_ble_eq_true rfl⟩ ⟨Nat.zero_le _, Nat.zero_le _⟩ rfl rfl (Nat.le_of_ble_eq_true rfl) dX6_changeTerm_2 ?_
  refine x_istore_n (lv' := [(3, .int q1.1), (0, .ref (ad 1)), (1, .int p0), (2, .int p1)]) C dX6_changeTerm_5 rfl (by decide) rfl ?_
  refine x_iload_n C dX6_changeTerm_6 rfl 2 rfl ?_
  refine x_if_lt C 28 dX6_changeTerm_7 (by decide) (fun c2 => ?_) (fun c2 => ?_)
  · have h := (if_pos c2).symm.trans h
    refine x_iload_n C dX6_changeTerm_28 rfl 0 rfl ?_
    exact x_iret C hr dX6_changeTerm_29 (Option.some.inj h)
  · have h := (if_neg c2).symm.trans h
    refine x_iload_n C dX6_changeTerm_10 rfl 2 rfl ?_
    refine x_iconst (v := 5) C dX6_changeTerm_11 (by decide) ?_
    refine x_icmp_ge C 28 dX6_changeTerm_12 (by decide) (fun c3 => ?_) (fun c3 => ?_)
    · have h := (if_pos c3).symm.trans h
      refine x_iload_n C dX6_changeTerm_28 rfl 0 rfl ?_
      exact x_iret C hr dX6_changeTerm_29 (Option.some.inj h)
    · have h := (if_neg c3).symm.trans h
      refine x_aload_n C dX6_changeTerm_15 rfl 1 rfl ?_
      refine xg_X6_11 C dX6_changeTerm_16 ?_
      refine x_iconst (v := 1) C dX6_changeTerm_19 (by decide) ?_
      refine x_iload_n C dX6_changeTerm_20 rfl 2 rfl ?_
      refine x_iadd C dX6_changeTerm_21 ?_
      refine x_iload_n C dX6_changeTerm_22 rfl 3 rfl ?_
      obtain ⟨g4, h⟩ := gd_some h
      refine xs_0 C g4 dX6_changeTerm_23 ?_
      refine x_aload_n C dX6_changeTerm_24 rfl 1 rfl ?_
      obtain ⟨q5, eq5, h⟩ := gb_some h
      refine x_vv (st := []) C kY_X6_changed 1 6 rfl rfl rfl (m_X6_changed l D cI cZ ad C.2.2.2.2.2.2.1 (pv_sa q1.2 0 (1 + p0) p1) q5 eq5) kl_X6_39 ⟨rfl, rfl⟩ ⟨Nat.le_of_ble_eq_true rfl, Nat.le_of_ble_eq_true rfl⟩ ⟨Nat.zero_le _, Nat.zero_le _⟩ rfl rfl (Nat.le_of_ble_eq_true rfl) dX6_changeTerm_25 ?_
      refine x_iload_n C dX6_changeTerm_28 rfl 0 rfl ?_
      exact x_iret C hr dX6_changeTerm_29 (Option.some.inj h)
theorem m_X6_changeTerm (l : Launch) (D : va_G) (cI cZ : ClassId) (ad : Nat → Nat) (hJ : pv_J ad) (p0 : Int32) (p1 : Int32) (σ : pv_S) (R0 : (Int32 × pv_S)) (h : f_X6_changeTerm p0 p1 σ = some R0) : Met l yX6_changeTerm (Cond.code yX6_changeTerm cX6_changeTerm 4 (some .int) :: lwG) r_X6_changeTerm (va_Pc [.ref (ad 1), .int p0, .int p1] (pv_P D cI cZ ad σ)) (pv_QI D cI cZ ad R0) 0 0 (pv_A ad) := x_met (by decide) rfl hJ (Nat.le_of_ble_eq_true rfl) (fun p e s m args below meth c C hr => w_X6_changeTerm_0 C hr R0 p0 p1 σ h)
abbrev r_X7_term : Room := { frames := 4, cells := 0, slots := 0, locals := 87 }
set_option maxRecDepth 100000 in
set_option maxHeartbeats 4000000 in
theorem w_X7_term_0 {p : Program} {l : Launch} {e : Env} {s : State} {m : MethodId} {args : Array Value} {below : List Frame} {meth : Method} {c : Code} {D : va_G} {cI cZ : ClassId} {ad : Nat → Nat} (C : pv_C p s m args meth c cX7_term 3 RX7 D cI cZ ad (pv_A ad)) (hr : meth.sig.returnType = some .int) (R0 : (Int32 × pv_S)) (p0 : Int32) (p1 : Int32) (σ : pv_S) (h : f_X7_term p0 p1 σ = some R0) : Wx p l e r_X7_term s m args below meth c 0 0 (MQ below (pv_QI D cI cZ ad R0) args s 0 0 (pv_A ad)) 3 D cI cZ ad (pv_A ad) 0 [(0, .ref (ad 0)), (1, .int p0), (2, .int p1)] [] σ := by
  unfold f_X7_term at h
  refine x_iload_n C dX7_term_0 rfl 1 rfl ?_
  refine x_iload_n C dX7_term_1 rfl 2 rfl ?_
  obtain ⟨q1, eq1, h⟩ := gb_some h
  refine x_si (st := []) C kY_X6_canBeTerm (m_X6_canBeTerm l D cI cZ ad C.2.2.2.2.2.2.1 p0 p1 σ q1 eq1) kl_X7_197 ⟨rfl, rfl⟩ ⟨Nat.le_of_ble_eq_true rfl, Nat.le_of_ble_eq_true rfl⟩ ⟨Nat.zero_le _, Nat.zero_le _⟩ rfl rfl (Nat.le_of_ble_eq_true rfl) dX7_term_2 ?_
  refine x_if_ne C 11 dX7_term_5 (by decide) (fun c2 => ?_) (fun c2 => ?_)
  · have h := (if_neg c2).symm.trans h
    refine x_aload_n C dX7_term_11 rfl 0 rfl ?_
    refine xg_X7_35 C dX7_term_12 ?_
    refine x_aload_n C dX7_term_15 rfl 0 rfl ?_
    refine xg_X7_10 C dX7_term_16 ?_
    obtain ⟨q3, eq3, h⟩ := gb_some h
    refine x_vv (st := []) C kY_X2_record 4 2 rfl rfl rfl (m_X2_record l D cI cZ ad C.2.2.2.2.2.2.1 q1.2 q3 eq3) kl_X7_183 ⟨rfl, rfl⟩ ⟨Nat.le_of_ble_eq_true rfl, Nat.le_of_ble_eq_true rfl⟩ ⟨Nat.zero_le _, Nat.zero_le _⟩ rfl rfl (Nat.le_of_ble_eq_true rfl) dX7_term_19 ?_
    refine x_aload_n C dX7_term_22 rfl 0 rfl ?_
    refine xg_X7_10 C dX7_term_23 ?_
    refine x_iload_n C dX7_term_26 rfl 1 rfl ?_
    refine x_iload_n C dX7_term_27 rfl 2 rfl ?_
    obtain ⟨q4, eq4, h⟩ := gb_some h
    refine x_vi (st := []) C kY_X6_changeTerm 1 6 rfl rfl rfl (m_X6_changeTerm l D cI cZ ad C.2.2.2.2.2.2.1 p0 p1 q3 q4 eq4) kl_X7_201 ⟨rfl, rfl⟩ ⟨Nat.le_of_ble_eq_true rfl, Nat.le_of_ble_eq_true rfl⟩ ⟨Nat.zero_le _, Nat.zero_le _⟩ rfl rfl (Nat.le_of_ble_eq_true rfl) dX7_term_28 ?_
    exact x_iret C hr dX7_term_31 (Option.some.inj h)
  · have h := (if_pos c2).symm.trans h
    refine x_ldc C kc_X7_107 dX7_term_8 ?_
    exact x_iret C hr dX7_term_10 (Option.some.inj h)
theorem m_X7_term (l : Launch) (D : va_G) (cI cZ : ClassId) (ad : Nat → Nat) (hJ : pv_J ad) (p0 : Int32) (p1 : Int32) (σ : pv_S) (R0 : (Int32 × pv_S)) (h : f_X7_term p0 p1 σ = some R0) : Met l yX7_term (Cond.code yX7_term cX7_term 3 (some .int) :: lwG) r_X7_term (va_Pc [.ref (ad 0), .int p0, .int p1] (pv_P D cI cZ ad σ)) (pv_QI D cI cZ ad R0) 0 0 (pv_A ad) := x_met (by decide) rfl hJ (Nat.le_of_ble_eq_true rfl) (fun p e s m args below meth c C hr => w_X7_term_0 C hr R0 p0 p1 σ h)
abbrev r_X7_follow : Room := { frames := 4, cells := 0, slots := 0, locals := 91 }
set_option maxRecDepth 100000 in
set_option maxHeartbeats 4000000 in
theorem w_X7_follow_0 {p : Program} {l : Launch} {e : Env} {s : State} {m : MethodId} {args : Array Value} {below : List Frame} {meth : Method} {c : Code} {D : va_G} {cI cZ : ClassId} {ad : Nat → Nat} (C : pv_C p s m args meth c cX7_follow 3 RX7 D cI cZ ad (pv_A ad)) (hr : meth.sig.returnType = some .int) (R0 : (Int32 × pv_S)) (p0 : Int32) (p1 : Int32) (σ : pv_S) (h : f_X7_follow p0 p1 σ = some R0) : Wx p l e r_X7_follow s m args below meth c 0 0 (MQ below (pv_QI D cI cZ ad R0) args s 0 0 (pv_A ad)) 3 D cI cZ ad (pv_A ad) 0 [(0, .ref (ad 0)), (1, .int p0), (2, .int p1)] [] σ := by
  unfold f_X7_follow at h
  refine x_aload_n C dX7_follow_0 rfl 0 rfl ?_
  refine xg_X7_10 C dX7_follow_1 ?_
  refine x_iload_n C dX7_follow_4 rfl 1 rfl ?_
  obtain ⟨q1, eq1, h⟩ := gb_some h
  refine x_vi (st := []) C kY_X6_has 1 6 rfl rfl rfl (m_X6_has l D cI cZ ad C.2.2.2.2.2.2.1 p0 σ q1 eq1) kl_X7_108 ⟨rfl, rfl⟩ ⟨Nat.le_of_ble_eq_true rfl, Nat.le_of_ble_eq_true rfl⟩ ⟨Nat.zero_le _, Nat.zero_le _⟩ rfl rfl (Nat.le_of_ble_eq_true rfl) dX7_follow_5 ?_
  refine x_if_eq C 22 dX7_follow_8 (by decide) (fun c2 => ?_) (fun c2 => ?_)
  · have h := (if_pos c2).symm.trans h
    refine x_ldc C kc_X7_112 dX7_follow_22 ?_
    exact x_iret C hr dX7_follow_24 (Option.some.inj h)
  · have h := (if_neg c2).symm.trans h
    refine x_aload_n C dX7_follow_11 rfl 0 rfl ?_
    refine xg_X7_10 C dX7_follow_12 ?_
    refine x_iload_n C dX7_follow_15 rfl 2 rfl ?_
    obtain ⟨q3, eq3, h⟩ := gb_some h
    refine x_vi (st := []) C kY_X6_has 1 6 rfl rfl rfl (m_X6_has l D cI cZ ad C.2.2.2.2.2.2.1 p1 q1.2 q3 eq3) kl_X7_108 ⟨rfl, rfl⟩ ⟨Nat.le_of_ble_eq_true rfl, Nat.le_of_ble_eq_true rfl⟩ ⟨Nat.zero_le _, Nat.zero_le _⟩ rfl rfl (Nat.le_of_ble_eq_true rfl) dX7_follow_16 ?_
    refine x_if_ne C 25 dX7_follow_19 (by decide) (fun c4 => ?_) (fun c4 => ?_)
    · have h := (if_neg c4).symm.trans h
      refine x_aload_n C dX7_follow_25 rfl 0 rfl ?_
      refine xg_X7_10 C dX7_follow_26 ?_
      refine x_iload_n C dX7_follow_29 rfl 1 rfl ?_
      refine x_iload_n C dX7_follow_30 rfl 2 rfl ?_
      obtain ⟨q5, eq5, h⟩ := gb_some h
      refine x_vi (st := []) C kY_X6_mayFollow 1 6 rfl rfl rfl (m_X6_mayFollow l D cI cZ ad C.2.2.2.2.2.2.1 p0 p1 q3.2 q5 eq5) kl_X7_204 ⟨rfl, rfl⟩ ⟨Nat.le_of_ble_eq_true rfl, Nat.le_of_ble_eq_true rfl⟩ ⟨Nat.zero_le _, Nat.zero_le _⟩ rfl rfl (Nat.le_of_ble_eq_true rfl) dX7_follow_31 ?_
      refine x_if_ne C 40 dX7_follow_34 (by decide) (fun c6 => ?_) (fun c6 => ?_)
      · have h := (if_neg c6).symm.trans h
        refine x_aload_n C dX7_follow_40 rfl 0 rfl ?_
        refine xg_X7_35 C dX7_follow_41 ?_
        refine x_aload_n C dX7_follow_44 rfl 0 rfl ?_
        refine xg_X7_10 C dX7_follow_45 ?_
        obtain ⟨q7, eq7, h⟩ := gb_some h
        refine x_vv (st := []) C kY_X2_record 4 2 rfl rfl rfl (m_X2_record l D cI cZ ad C.2.2.2.2.2.2.1 q5.2 q7 eq7) kl_X7_183 ⟨rfl, rfl⟩ ⟨Nat.le_of_ble_eq_true rfl, Nat.le_of_ble_eq_true rfl⟩ ⟨Nat.zero_le _, Nat.zero_le _⟩ rfl rfl (Nat.le_of_ble_eq_true rfl) dX7_follow_48 ?_
        refine x_aload_n C dX7_follow_51 rfl 0 rfl ?_
        refine xg_X7_10 C dX7_follow_52 ?_
        refine x_aload_n C dX7_follow_55 rfl 0 rfl ?_
        obtain ⟨q8, eq8, h⟩ := gb_some h
        refine x_vr (st := [.ref (ad 1)]) C kY_X7_standing 0 7 rfl rfl rfl (m_X7_standing l D cI cZ ad C.2.2.2.2.2.2.1 q7 q8 eq8) kl_X7_64 ⟨rfl, rfl⟩ ⟨Nat.le_of_ble_eq_true rfl, Nat.le_of_ble_eq_true rfl⟩ ⟨Nat.zero_le _, Nat.zero_le _⟩ rfl rfl (Nat.le_of_ble_eq_true rfl) dX7_follow_56 ?_
        refine x_iload_n C dX7_follow_59 rfl 2 rfl ?_
        obtain ⟨q9, eq9, h⟩ := gb_some h
        refine x_vi (st := [.ref (ad 1)]) C kY_X4_ahead 2 4 rfl rfl rfl (m_X4_ahead l D cI cZ ad C.2.2.2.2.2.2.1 p1 q8 q9 eq9) kl_X7_125 ⟨rfl, rfl⟩ ⟨Nat.le_of_ble_eq_true rfl, Nat.le_of_ble_eq_true rfl⟩ ⟨Nat.zero_le _, Nat.zero_le _⟩ rfl rfl (Nat.le_of_ble_eq_true rfl) dX7_follow_60 ?_
        refine x_iconst (v := (-1)) C dX7_follow_63 (by decide) ?_
        obtain ⟨q10, eq10, h⟩ := gb_some h
        refine x_vv (st := []) C kY_X6_link 1 6 rfl rfl rfl (m_X6_link l D cI cZ ad C.2.2.2.2.2.2.1 q9.1 (-1) q9.2 q10 eq10) kl_X7_207 ⟨rfl, rfl⟩ ⟨Nat.le_of_ble_eq_true rfl, Nat.le_of_ble_eq_true rfl⟩ ⟨Nat.zero_le _, Nat.zero_le _⟩ rfl rfl (Nat.le_of_ble_eq_true rfl) dX7_follow_64 ?_
        refine x_aload_n C dX7_follow_67 rfl 0 rfl ?_
        refine xg_X7_10 C dX7_follow_68 ?_
        refine x_iload_n C dX7_follow_71 rfl 1 rfl ?_
        refine x_iload_n C dX7_follow_72 rfl 2 rfl ?_
        obtain ⟨q11, eq11, h⟩ := gb_some h
        refine x_vv (st := []) C kY_X6_link 1 6 rfl rfl rfl (m_X6_link l D cI cZ ad C.2.2.2.2.2.2.1 p0 p1 q10 q11 eq11) kl_X7_207 ⟨rfl, rfl⟩ ⟨Nat.le_of_ble_eq_true rfl, Nat.le_of_ble_eq_true rfl⟩ ⟨Nat.zero_le _, Nat.zero_le _⟩ rfl rfl (Nat.le_of_ble_eq_true rfl) dX7_follow_73 ?_
        refine x_aload_n C dX7_follow_76 rfl 0 rfl ?_
        refine xg_X7_10 C dX7_follow_77 ?_
        refine x_iload_n C dX7_follow_80 rfl 1 rfl ?_
        refine x_iload_n C dX7_follow_81 rfl 2 rfl ?_
        obtain ⟨q12, eq12, h⟩ := gb_some h
        refine x_vi (st := []) C kY_X6_costToFollow 1 6 rfl rfl rfl (m_X6_costToFollow l D cI cZ ad C.2.2.2.2.2.2.1 p0 p1 q11 q12 eq12) kl_X7_137 ⟨rfl, rfl⟩ ⟨Nat.le_of_ble_eq_true rfl, Nat.le_of_ble_eq_true rfl⟩ ⟨Nat.zero_le _, Nat.zero_le _⟩ rfl rfl (Nat.le_of_ble_eq_true rfl) dX7_follow_82 ?_
        exact x_iret C hr dX7_follow_85 (Option.some.inj h)
      · have h := (if_pos c6).symm.trans h
        refine x_ldc C kc_X7_153 dX7_follow_37 ?_
        exact x_iret C hr dX7_follow_39 (Option.some.inj h)
    · have h := (if_pos c4).symm.trans h
      refine x_ldc C kc_X7_112 dX7_follow_22 ?_
      exact x_iret C hr dX7_follow_24 (Option.some.inj h)
theorem m_X7_follow (l : Launch) (D : va_G) (cI cZ : ClassId) (ad : Nat → Nat) (hJ : pv_J ad) (p0 : Int32) (p1 : Int32) (σ : pv_S) (R0 : (Int32 × pv_S)) (h : f_X7_follow p0 p1 σ = some R0) : Met l yX7_follow (Cond.code yX7_follow cX7_follow 3 (some .int) :: lwG) r_X7_follow (va_Pc [.ref (ad 0), .int p0, .int p1] (pv_P D cI cZ ad σ)) (pv_QI D cI cZ ad R0) 0 0 (pv_A ad) := x_met (by decide) rfl hJ (Nat.le_of_ble_eq_true rfl) (fun p e s m args below meth c C hr => w_X7_follow_0 C hr R0 p0 p1 σ h)
abbrev r_X7_cut : Room := { frames := 3, cells := 0, slots := 0, locals := 69 }
set_option maxRecDepth 100000 in
set_option maxHeartbeats 4000000 in
theorem w_X7_cut_0 {p : Program} {l : Launch} {e : Env} {s : State} {m : MethodId} {args : Array Value} {below : List Frame} {meth : Method} {c : Code} {D : va_G} {cI cZ : ClassId} {ad : Nat → Nat} (C : pv_C p s m args meth c cX7_cut 3 RX7 D cI cZ ad (pv_A ad)) (hr : meth.sig.returnType = some .int) (R0 : (Int32 × pv_S)) (p0 : Int32) (σ : pv_S) (h : f_X7_cut p0 σ = some R0) : Wx p l e r_X7_cut s m args below meth c 0 0 (MQ below (pv_QI D cI cZ ad R0) args s 0 0 (pv_A ad)) 3 D cI cZ ad (pv_A ad) 0 [(0, .ref (ad 0)), (1, .int p0)] [] σ := by
  unfold f_X7_cut at h
  refine x_aload_n C dX7_cut_0 rfl 0 rfl ?_
  refine xg_X7_10 C dX7_cut_1 ?_
  refine x_iload_n C dX7_cut_4 rfl 1 rfl ?_
  obtain ⟨q1, eq1, h⟩ := gb_some h
  refine x_vi (st := []) C kY_X6_has 1 6 rfl rfl rfl (m_X6_has l D cI cZ ad C.2.2.2.2.2.2.1 p0 σ q1 eq1) kl_X7_108 ⟨rfl, rfl⟩ ⟨Nat.le_of_ble_eq_true rfl, Nat.le_of_ble_eq_true rfl⟩ ⟨Nat.zero_le _, Nat.zero_le _⟩ rfl rfl (Nat.le_of_ble_eq_true rfl) dX7_cut_5 ?_
  refine x_if_ne C 14 dX7_cut_8 (by decide) (fun c2 => ?_) (fun c2 => ?_)
  · have h := (if_neg c2).symm.trans h
    refine x_aload_n C dX7_cut_14 rfl 0 rfl ?_
    refine xg_X7_35 C dX7_cut_15 ?_
    refine x_aload_n C dX7_cut_18 rfl 0 rfl ?_
    refine xg_X7_10 C dX7_cut_19 ?_
    obtain ⟨q3, eq3, h⟩ := gb_some h
    refine x_vv (st := []) C kY_X2_record 4 2 rfl rfl rfl (m_X2_record l D cI cZ ad C.2.2.2.2.2.2.1 q1.2 q3 eq3) kl_X7_183 ⟨rfl, rfl⟩ ⟨Nat.le_of_ble_eq_true rfl, Nat.le_of_ble_eq_true rfl⟩ ⟨Nat.zero_le _, Nat.zero_le _⟩ rfl rfl (Nat.le_of_ble_eq_true rfl) dX7_cut_22 ?_
    refine x_aload_n C dX7_cut_25 rfl 0 rfl ?_
    refine xg_X7_10 C dX7_cut_26 ?_
    refine x_iload_n C dX7_cut_29 rfl 1 rfl ?_
    obtain ⟨q4, eq4, h⟩ := gb_some h
    refine x_vi (st := []) C kY_X6_next 1 6 rfl rfl rfl (m_X6_next l D cI cZ ad C.2.2.2.2.2.2.1 p0 q3 q4 eq4) kl_X7_122 ⟨rfl, rfl⟩ ⟨Nat.le_of_ble_eq_true rfl, Nat.le_of_ble_eq_true rfl⟩ ⟨Nat.zero_le _, Nat.zero_le _⟩ rfl rfl (Nat.le_of_ble_eq_true rfl) dX7_cut_30 ?_
    refine x_istore_n (lv' := [(2, .int q4.1), (0, .ref (ad 0)), (1, .int p0)]) C dX7_cut_33 rfl (by decide) rfl ?_
    refine x_aload_n C dX7_cut_34 rfl 1 rfl ?_
    refine xg_X7_10 C dX7_cut_35 ?_
    refine x_iload_n C dX7_cut_38 rfl 2 rfl ?_
    refine x_iconst (v := (-1)) C dX7_cut_39 (by decide) ?_
    obtain ⟨q5, eq5, h⟩ := gb_some h
    refine x_vv (st := []) C kY_X6_link 1 6 rfl rfl rfl (m_X6_link l D cI cZ ad C.2.2.2.2.2.2.1 p0 (-1) q4.2 q5 eq5) kl_X7_207 ⟨rfl, rfl⟩ ⟨Nat.le_of_ble_eq_true rfl, Nat.le_of_ble_eq_true rfl⟩ ⟨Nat.zero_le _, Nat.zero_le _⟩ rfl rfl (Nat.le_of_ble_eq_true rfl) dX7_cut_40 ?_
    refine x_iload_n C dX7_cut_43 rfl 0 rfl ?_
    exact x_iret C hr dX7_cut_44 (Option.some.inj h)
  · have h := (if_pos c2).symm.trans h
    refine x_ldc C kc_X7_112 dX7_cut_11 ?_
    exact x_iret C hr dX7_cut_13 (Option.some.inj h)
theorem m_X7_cut (l : Launch) (D : va_G) (cI cZ : ClassId) (ad : Nat → Nat) (hJ : pv_J ad) (p0 : Int32) (σ : pv_S) (R0 : (Int32 × pv_S)) (h : f_X7_cut p0 σ = some R0) : Met l yX7_cut (Cond.code yX7_cut cX7_cut 3 (some .int) :: lwG) r_X7_cut (va_Pc [.ref (ad 0), .int p0] (pv_P D cI cZ ad σ)) (pv_QI D cI cZ ad R0) 0 0 (pv_A ad) := x_met (by decide) rfl hJ (Nat.le_of_ble_eq_true rfl) (fun p e s m args below meth c C hr => w_X7_cut_0 C hr R0 p0 σ h)
abbrev r_X7_part : Room := { frames := 6, cells := 0, slots := 0, locals := 135 }
set_option maxRecDepth 100000 in
set_option maxHeartbeats 4000000 in
theorem w_X7_part_59 {p : Program} {l : Launch} {e : Env} {s : State} {m : MethodId} {args : Array Value} {below : List Frame} {meth : Method} {c : Code} {D : va_G} {cI cZ : ClassId} {ad : Nat → Nat} (C : pv_C p s m args meth c cX7_part 5 RX7 D cI cZ ad (pv_A ad)) (hr : meth.sig.returnType = some .int) (R0 : (Int32 × pv_S)) : ∀ (n : Nat) (v4 : Int32) (σ : pv_S), f_X7_part_59 n v4 σ = some R0 → Wx p l e r_X7_part s m args below meth c 0 0 (MQ below (pv_QI D cI cZ ad R0) args s 0 0 (pv_A ad)) 5 D cI cZ ad (pv_A ad) 59 [(0, .ref (ad 0)), (2, .ref (ad 3)), (4, .int v4)] [] σ := by
  intro n
  induction n with
  | zero =>
    intro v4 σ h
    have h2 : (none : Option (Int32 × pv_S)) = some R0 := h
    cases h2
  | succ n ih =>
    intro v4 σ h
    unfold f_X7_part_59 at h
    refine x_iload C dX7_part_59 2 rfl ?_
    refine x_aload_n C dX7_part_61 rfl 0 rfl ?_
    refine xg_X7_10 C dX7_part_62 ?_
    obtain ⟨q1, eq1, h⟩ := gb_some h
    refine x_vi (st := [.int v4]) C kY_X6_count 1 6 rfl rfl rfl (m_X6_count l D cI cZ ad C.2.2.2.2.2.2.1 σ q1 eq1) kl_X7_60 ⟨rfl, rfl⟩ ⟨Nat.le_of_ble_eq_true rfl, Nat.le_of_ble_eq_true rfl⟩ ⟨Nat.zero_le _, Nat.zero_le _⟩ rfl rfl (Nat.le_of_ble_eq_true rfl) dX7_part_65 ?_
    refine x_icmp_ge C 92 dX7_part_68 (by decide) (fun c2 => ?_) (fun c2 => ?_)
    · have h := (if_pos c2).symm.trans h
      refine x_aload_n C dX7_part_92 rfl 0 rfl ?_
      obtain ⟨q3, eq3, h⟩ := gb_some h
      refine x_vr (st := []) C kY_X7_standing 0 7 rfl rfl rfl (m_X7_standing l D cI cZ ad C.2.2.2.2.2.2.1 q1.2 q3 eq3) kl_X7_64 ⟨rfl, rfl⟩ ⟨Nat.le_of_ble_eq_true rfl, Nat.le_of_ble_eq_true rfl⟩ ⟨Nat.zero_le _, Nat.zero_le _⟩ rfl rfl (Nat.le_of_ble_eq_true rfl) dX7_part_93 ?_
      obtain ⟨q4, eq4, h⟩ := gb_some h
      refine x_vi (st := []) C kY_X4_costOfAll 2 4 rfl rfl rfl (m_X4_costOfAll l D cI cZ ad C.2.2.2.2.2.2.1 q3 q4 eq4) kl_X7_71 ⟨rfl, rfl⟩ ⟨Nat.le_of_ble_eq_true rfl, Nat.le_of_ble_eq_true rfl⟩ ⟨Nat.zero_le _, Nat.zero_le _⟩ rfl rfl (Nat.le_of_ble_eq_true rfl) dX7_part_96 ?_
      exact x_iret C hr dX7_part_99 (Option.some.inj h)
    · have h := (if_neg c2).symm.trans h
      refine x_aload_n C dX7_part_71 rfl 0 rfl ?_
      refine xg_X7_10 C dX7_part_72 ?_
      refine x_iload C dX7_part_75 2 rfl ?_
      refine x_aload_n C dX7_part_77 rfl 1 rfl ?_
      refine x_iload C dX7_part_78 2 rfl ?_
      obtain ⟨q5, eq5, h⟩ := gb_some h
      refine x_vi (st := [.int v4, .ref (ad 1)]) C kY_X5_chosen 3 5 rfl rfl rfl (m_X5_chosen l D cI cZ ad C.2.2.2.2.2.2.1 v4 q1.2 q5 eq5) kl_X7_150 ⟨rfl, rfl⟩ ⟨Nat.le_of_ble_eq_true rfl, Nat.le_of_ble_eq_true rfl⟩ ⟨Nat.zero_le _, Nat.zero_le _⟩ rfl rfl (Nat.le_of_ble_eq_true rfl) dX7_part_80 ?_
      obtain ⟨q6, eq6, h⟩ := gb_some h
      refine x_vv (st := []) C kY_X6_link 1 6 rfl rfl rfl (m_X6_link l D cI cZ ad C.2.2.2.2.2.2.1 v4 q5.1 q5.2 q6 eq6) kl_X7_207 ⟨rfl, rfl⟩ ⟨Nat.le_of_ble_eq_true rfl, Nat.le_of_ble_eq_true rfl⟩ ⟨Nat.zero_le _, Nat.zero_le _⟩ rfl rfl (Nat.le_of_ble_eq_true rfl) dX7_part_83 ?_
      refine x_iinc (v := (v4 + 1)) (lv' := [(4, .int (v4 + 1)), (0, .ref (ad 0)), (2, .ref (ad 3))]) C 2 dX7_part_86 rfl rfl (by decide) rfl ?_
      refine x_goto C 59 dX7_part_89 (by decide) ?_
      refine x_sub [1, 2, 0] rfl ?_
      exact ih (v4 + 1) q6 h
set_option maxRecDepth 100000 in
set_option maxHeartbeats 4000000 in
theorem w_X7_part_33 {p : Program} {l : Launch} {e : Env} {s : State} {m : MethodId} {args : Array Value} {below : List Frame} {meth : Method} {c : Code} {D : va_G} {cI cZ : ClassId} {ad : Nat → Nat} (C : pv_C p s m args meth c cX7_part 5 RX7 D cI cZ ad (pv_A ad)) (hr : meth.sig.returnType = some .int) (R0 : (Int32 × pv_S)) (s0 : Int32) (σ : pv_S) (h : f_X7_part_33 s0 σ = some R0) : Wx p l e r_X7_part s m args below meth c 0 0 (MQ below (pv_QI D cI cZ ad R0) args s 0 0 (pv_A ad)) 5 D cI cZ ad (pv_A ad) 33 [(0, .ref (ad 0)), (2, .ref (ad 3))] [.int s0] σ := by
  unfold f_X7_part_33 at h
  refine x_istore_n (lv' := [(3, .int s0), (0, .ref (ad 0)), (2, .ref (ad 3))]) C dX7_part_33 rfl (by decide) rfl ?_
  refine x_aload_n C dX7_part_34 rfl 2 rfl ?_
  refine x_iload_n C dX7_part_35 rfl 0 rfl ?_
  obtain ⟨q1, eq1, h⟩ := gb_some h
  refine x_vi (st := []) C kY_X5_choose 3 5 rfl rfl rfl (m_X5_choose l D cI cZ ad C.2.2.2.2.2.2.1 s0 σ q1 eq1) kl_X7_147 ⟨rfl, rfl⟩ ⟨Nat.le_of_ble_eq_true rfl, Nat.le_of_ble_eq_true rfl⟩ ⟨Nat.zero_le _, Nat.zero_le _⟩ rfl rfl (Nat.le_of_ble_eq_true rfl) dX7_part_36 ?_
  refine x_if_ne C 45 dX7_part_39 (by decide) (fun c2 => ?_) (fun c2 => ?_)
  · have h := (if_neg c2).symm.trans h
    refine x_aload_n C dX7_part_45 rfl 1 rfl ?_
    refine xg_X7_35 C dX7_part_46 ?_
    refine x_aload_n C dX7_part_49 rfl 1 rfl ?_
    refine xg_X7_10 C dX7_part_50 ?_
    obtain ⟨q3, eq3, h⟩ := gb_some h
    refine x_vv (st := []) C kY_X2_record 4 2 rfl rfl rfl (m_X2_record l D cI cZ ad C.2.2.2.2.2.2.1 q1.2 q3 eq3) kl_X7_183 ⟨rfl, rfl⟩ ⟨Nat.le_of_ble_eq_true rfl, Nat.le_of_ble_eq_true rfl⟩ ⟨Nat.zero_le _, Nat.zero_le _⟩ rfl rfl (Nat.le_of_ble_eq_true rfl) dX7_part_53 ?_
    refine x_iconst (v := 0) C dX7_part_56 (by decide) ?_
    refine x_istore (lv' := [(4, .int 0), (3, .int s0), (0, .ref (ad 0)), (2, .ref (ad 3))]) C dX7_part_57 (by decide) rfl ?_
    refine x_sub [2, 3, 0] rfl ?_
    exact w_X7_part_59 C hr R0 pv_FU 0 q3 h
  · have h := (if_pos c2).symm.trans h
    refine x_ldc C kc_X7_153 dX7_part_42 ?_
    exact x_iret C hr dX7_part_44 (Option.some.inj h)
set_option maxRecDepth 100000 in
set_option maxHeartbeats 4000000 in
theorem w_X7_part_15 {p : Program} {l : Launch} {e : Env} {s : State} {m : MethodId} {args : Array Value} {below : List Frame} {meth : Method} {c : Code} {D : va_G} {cI cZ : ClassId} {ad : Nat → Nat} (C : pv_C p s m args meth c cX7_part 5 RX7 D cI cZ ad (pv_A ad)) (hr : meth.sig.returnType = some .int) (R0 : (Int32 × pv_S)) (v1 : Int32) (σ : pv_S) (h : f_X7_part_15 v1 σ = some R0) : Wx p l e r_X7_part s m args below meth c 0 0 (MQ below (pv_QI D cI cZ ad R0) args s 0 0 (pv_A ad)) 5 D cI cZ ad (pv_A ad) 15 [(0, .ref (ad 0)), (1, .int v1)] [] σ := by
  unfold f_X7_part_15 at h
  refine x_aload_n C dX7_part_15 rfl 0 rfl ?_
  obtain ⟨q1, eq1, h⟩ := gb_some h
  refine x_vr (st := []) C kY_X7_weighed 0 7 rfl rfl rfl (m_X7_weighed l D cI cZ ad C.2.2.2.2.2.2.1 σ q1 eq1) kl_X7_74 ⟨rfl, rfl⟩ ⟨Nat.le_of_ble_eq_true rfl, Nat.le_of_ble_eq_true rfl⟩ ⟨Nat.zero_le _, Nat.zero_le _⟩ rfl rfl (Nat.le_of_ble_eq_true rfl) dX7_part_16 ?_
  refine x_astore_n (lv' := [(2, .ref (ad 3)), (0, .ref (ad 0)), (1, .int v1)]) C dX7_part_19 rfl (by decide) rfl ?_
  refine x_iload_n C dX7_part_20 rfl 2 rfl ?_
  refine x_iconst (v := (-1)) C dX7_part_21 (by decide) ?_
  refine x_icmp_ne C 32 dX7_part_22 (by decide) (fun c2 => ?_) (fun c2 => ?_)
  · have h := (if_neg c2).symm.trans h
    refine x_iload_n C dX7_part_32 rfl 2 rfl ?_
    refine x_sub [1, 0] rfl ?_
    exact w_X7_part_33 C hr R0 v1 q1 h
  · have h := (if_pos c2).symm.trans h
    refine x_aload_n C dX7_part_25 rfl 0 rfl ?_
    obtain ⟨q3, eq3, h⟩ := gb_some h
    refine x_vi (st := []) C kY_X5_cheapest 3 5 rfl rfl rfl (m_X5_cheapest l D cI cZ ad C.2.2.2.2.2.2.1 q1 q3 eq3) kl_X7_81 ⟨rfl, rfl⟩ ⟨Nat.le_of_ble_eq_true rfl, Nat.le_of_ble_eq_true rfl⟩ ⟨Nat.zero_le _, Nat.zero_le _⟩ rfl rfl (Nat.le_of_ble_eq_true rfl) dX7_part_26 ?_
    refine x_goto C 33 dX7_part_29 (by decide) ?_
    refine x_sub [1, 0] rfl ?_
    exact w_X7_part_33 C hr R0 q3.1 q3.2 h
set_option maxRecDepth 100000 in
set_option maxHeartbeats 4000000 in
theorem w_X7_part_0 {p : Program} {l : Launch} {e : Env} {s : State} {m : MethodId} {args : Array Value} {below : List Frame} {meth : Method} {c : Code} {D : va_G} {cI cZ : ClassId} {ad : Nat → Nat} (C : pv_C p s m args meth c cX7_part 5 RX7 D cI cZ ad (pv_A ad)) (hr : meth.sig.returnType = some .int) (R0 : (Int32 × pv_S)) (p0 : Int32) (σ : pv_S) (h : f_X7_part p0 σ = some R0) : Wx p l e r_X7_part s m args below meth c 0 0 (MQ below (pv_QI D cI cZ ad R0) args s 0 0 (pv_A ad)) 5 D cI cZ ad (pv_A ad) 0 [(0, .ref (ad 0)), (1, .int p0)] [] σ := by
  unfold f_X7_part at h
  refine x_iload_n C dX7_part_0 rfl 1 rfl ?_
  refine x_iconst (v := (-1)) C dX7_part_1 (by decide) ?_
  refine x_icmp_eq C 15 dX7_part_2 (by decide) (fun c1 => ?_) (fun c1 => ?_)
  · have h := (if_pos c1).symm.trans h
    exact w_X7_part_15 C hr R0 p0 σ h
  · have h := (if_neg c1).symm.trans h
    refine x_iload_n C dX7_part_5 rfl 1 rfl ?_
    obtain ⟨q2, eq2, h⟩ := gb_some h
    refine x_si (st := []) C kY_X7_isVoiceCount (m_X7_isVoiceCount l D cI cZ ad C.2.2.2.2.2.2.1 p0 σ q2 eq2) kl_X7_141 ⟨rfl, rfl⟩ ⟨Nat.le_of_ble_eq_true rfl, Nat.le_of_ble_eq_true rfl⟩ ⟨Nat.zero_le _, Nat.zero_le _⟩ rfl rfl (Nat.le_of_ble_eq_true rfl) dX7_part_6 ?_
    refine x_if_ne C 15 dX7_part_9 (by decide) (fun c3 => ?_) (fun c3 => ?_)
    · have h := (if_neg c3).symm.trans h
      exact w_X7_part_15 C hr R0 p0 q2.2 h
    · have h := (if_pos c3).symm.trans h
      refine x_ldc C kc_X7_107 dX7_part_12 ?_
      exact x_iret C hr dX7_part_14 (Option.some.inj h)
theorem m_X7_part (l : Launch) (D : va_G) (cI cZ : ClassId) (ad : Nat → Nat) (hJ : pv_J ad) (p0 : Int32) (σ : pv_S) (R0 : (Int32 × pv_S)) (h : f_X7_part p0 σ = some R0) : Met l yX7_part (Cond.code yX7_part cX7_part 5 (some .int) :: lwG) r_X7_part (va_Pc [.ref (ad 0), .int p0] (pv_P D cI cZ ad σ)) (pv_QI D cI cZ ad R0) 0 0 (pv_A ad) := x_met (by decide) rfl hJ (Nat.le_of_ble_eq_true rfl) (fun p e s m args below meth c C hr => w_X7_part_0 C hr R0 p0 σ h)
abbrev r_X4_canMend : Room := { frames := 3, cells := 0, slots := 0, locals := 69 }
set_option maxRecDepth 100000 in
set_option maxHeartbeats 4000000 in
theorem w_X4_canMend_0 {p : Program} {l : Launch} {e : Env} {s : State} {m : MethodId} {args : Array Value} {below : List Frame} {meth : Method} {c : Code} {D : va_G} {cI cZ : ClassId} {ad : Nat → Nat} (C : pv_C p s m args meth c cX4_canMend 3 RX4 D cI cZ ad (pv_A ad)) (hr : meth.sig.returnType = some .boolean) (R0 : (Int32 × pv_S)) (p0 : Int32) (p1 : Int32) (σ : pv_S) (h : f_X4_canMend p0 p1 σ = some R0) : Wx p l e r_X4_canMend s m args below meth c 0 0 (MQ below (pv_QI D cI cZ ad R0) args s 0 0 (pv_A ad)) 3 D cI cZ ad (pv_A ad) 0 [(0, .ref (ad 2)), (1, .int p0), (2, .int p1)] [] σ := by
  unfold f_X4_canMend at h
  refine x_aload_n C dX4_canMend_0 rfl 0 rfl ?_
  refine x_iload_n C dX4_canMend_1 rfl 1 rfl ?_
  refine x_iload_n C dX4_canMend_2 rfl 2 rfl ?_
  obtain ⟨q1, eq1, h⟩ := gb_some h
  refine x_vi (st := []) C kY_X4_cross 2 4 rfl rfl rfl (m_X4_cross l D cI cZ ad C.2.2.2.2.2.2.1 p0 p1 σ q1 eq1) kl_X4_83 ⟨rfl, rfl⟩ ⟨Nat.le_of_ble_eq_true rfl, Nat.le_of_ble_eq_true rfl⟩ ⟨Nat.zero_le _, Nat.zero_le _⟩ rfl rfl (Nat.le_of_ble_eq_true rfl) dX4_canMend_3 ?_
  refine x_if_eq C 51 dX4_canMend_6 (by decide) (fun c2 => ?_) (fun c2 => ?_)
  · have h := (if_pos c2).symm.trans h
    refine x_iconst (v := 0) C dX4_canMend_51 (by decide) ?_
    exact x_zret C hr rfl dX4_canMend_52 (Option.some.inj h)
  · have h := (if_neg c2).symm.trans h
    refine x_aload_n C dX4_canMend_9 rfl 0 rfl ?_
    refine xg_X4_18 C dX4_canMend_10 ?_
    refine x_iload_n C dX4_canMend_13 rfl 1 rfl ?_
    refine x_aload_n C dX4_canMend_14 rfl 0 rfl ?_
    refine xg_X4_18 C dX4_canMend_15 ?_
    refine x_iload_n C dX4_canMend_18 rfl 2 rfl ?_
    obtain ⟨q3, eq3, h⟩ := gb_some h
    refine x_vi (st := [.int p0, .ref (ad 1)]) C kY_X6_next 1 6 rfl rfl rfl (m_X6_next l D cI cZ ad C.2.2.2.2.2.2.1 p1 q1.2 q3 eq3) kl_X4_34 ⟨rfl, rfl⟩ ⟨Nat.le_of_ble_eq_true rfl, Nat.le_of_ble_eq_true rfl⟩ ⟨Nat.zero_le _, Nat.zero_le _⟩ rfl rfl (Nat.le_of_ble_eq_true rfl) dX4_canMend_19 ?_
    obtain ⟨q4, eq4, h⟩ := gb_some h
    refine x_vi (st := []) C kY_X6_mayFollow 1 6 rfl rfl rfl (m_X6_mayFollow l D cI cZ ad C.2.2.2.2.2.2.1 p0 q3.1 q3.2 q4 eq4) kl_X4_97 ⟨rfl, rfl⟩ ⟨Nat.le_of_ble_eq_true rfl, Nat.le_of_ble_eq_true rfl⟩ ⟨Nat.zero_le _, Nat.zero_le _⟩ rfl rfl (Nat.le_of_ble_eq_true rfl) dX4_canMend_22 ?_
    refine x_if_eq C 51 dX4_canMend_25 (by decide) (fun c5 => ?_) (fun c5 => ?_)
    · have h := (if_pos c5).symm.trans h
      refine x_iconst (v := 0) C dX4_canMend_51 (by decide) ?_
      exact x_zret C hr rfl dX4_canMend_52 (Option.some.inj h)
    · have h := (if_neg c5).symm.trans h
      refine x_aload_n C dX4_canMend_28 rfl 0 rfl ?_
      refine xg_X4_18 C dX4_canMend_29 ?_
      refine x_iload_n C dX4_canMend_32 rfl 2 rfl ?_
      refine x_aload_n C dX4_canMend_33 rfl 0 rfl ?_
      refine xg_X4_18 C dX4_canMend_34 ?_
      refine x_iload_n C dX4_canMend_37 rfl 1 rfl ?_
      obtain ⟨q6, eq6, h⟩ := gb_some h
      refine x_vi (st := [.int p1, .ref (ad 1)]) C kY_X6_next 1 6 rfl rfl rfl (m_X6_next l D cI cZ ad C.2.2.2.2.2.2.1 p0 q4.2 q6 eq6) kl_X4_34 ⟨rfl, rfl⟩ ⟨Nat.le_of_ble_eq_true rfl, Nat.le_of_ble_eq_true rfl⟩ ⟨Nat.zero_le _, Nat.zero_le _⟩ rfl rfl (Nat.le_of_ble_eq_true rfl) dX4_canMend_38 ?_
      obtain ⟨q7, eq7, h⟩ := gb_some h
      refine x_vi (st := []) C kY_X6_mayFollow 1 6 rfl rfl rfl (m_X6_mayFollow l D cI cZ ad C.2.2.2.2.2.2.1 p1 q6.1 q6.2 q7 eq7) kl_X4_97 ⟨rfl, rfl⟩ ⟨Nat.le_of_ble_eq_true rfl, Nat.le_of_ble_eq_true rfl⟩ ⟨Nat.zero_le _, Nat.zero_le _⟩ rfl rfl (Nat.le_of_ble_eq_true rfl) dX4_canMend_41 ?_
      refine x_if_eq C 51 dX4_canMend_44 (by decide) (fun c8 => ?_) (fun c8 => ?_)
      · have h := (if_pos c8).symm.trans h
        refine x_iconst (v := 0) C dX4_canMend_51 (by decide) ?_
        exact x_zret C hr rfl dX4_canMend_52 (Option.some.inj h)
      · have h := (if_neg c8).symm.trans h
        refine x_iconst (v := 1) C dX4_canMend_47 (by decide) ?_
        refine x_goto C 52 dX4_canMend_48 (by decide) ?_
        exact x_zret C hr rfl dX4_canMend_52 (Option.some.inj h)
theorem m_X4_canMend (l : Launch) (D : va_G) (cI cZ : ClassId) (ad : Nat → Nat) (hJ : pv_J ad) (p0 : Int32) (p1 : Int32) (σ : pv_S) (R0 : (Int32 × pv_S)) (h : f_X4_canMend p0 p1 σ = some R0) : Met l yX4_canMend (Cond.code yX4_canMend cX4_canMend 3 (some .boolean) :: lwG) r_X4_canMend (va_Pc [.ref (ad 2), .int p0, .int p1] (pv_P D cI cZ ad σ)) (pv_QI D cI cZ ad R0) 0 0 (pv_A ad) := x_met (by decide) rfl hJ (Nat.le_of_ble_eq_true rfl) (fun p e s m args below meth c C hr => w_X4_canMend_0 C hr R0 p0 p1 σ h)
abbrev r_X4_mendFirst : Room := { frames := 4, cells := 0, slots := 0, locals := 91 }
set_option maxRecDepth 100000 in
set_option maxHeartbeats 4000000 in
theorem w_X4_mendFirst_17 {p : Program} {l : Launch} {e : Env} {s : State} {m : MethodId} {args : Array Value} {below : List Frame} {meth : Method} {c : Code} {D : va_G} {cI cZ : ClassId} {ad : Nat → Nat} (C : pv_C p s m args meth c cX4_mendFirst 4 RX4 D cI cZ ad (pv_A ad)) (hr : meth.sig.returnType = some .boolean) (R0 : (Int32 × pv_S)) (K2 : Int32 → pv_S → Option (Int32 × pv_S)) (hK2 : ∀ (v1 : Int32) (σ : pv_S), K2 v1 σ = some R0 → Wx p l e r_X4_mendFirst s m args below meth c 0 0 (MQ below (pv_QI D cI cZ ad R0) args s 0 0 (pv_A ad)) 4 D cI cZ ad (pv_A ad) 2 [(0, .ref (ad 2)), (1, .int v1)] [] σ) : ∀ (n : Nat) (v1 : Int32) (v2 : Int32) (σ : pv_S), f_X4_mendFirst_17 K2 n v1 v2 σ = some R0 → Wx p l e r_X4_mendFirst s m args below meth c 0 0 (MQ below (pv_QI D cI cZ ad R0) args s 0 0 (pv_A ad)) 4 D cI cZ ad (pv_A ad) 17 [(0, .ref (ad 2)), (1, .int v1), (2, .int v2)] [] σ := by
  intro n
  induction n with
  | zero =>
    intro v1 v2 σ h
    have h2 : (none : Option (Int32 × pv_S)) = some R0 := h
    cases h2
  | succ n ih =>
    intro v1 v2 σ h
    unfold f_X4_mendFirst_17 at h
    refine x_iload_n C dX4_mendFirst_17 rfl 2 rfl ?_
    refine x_aload_n C dX4_mendFirst_18 rfl 0 rfl ?_
    refine xg_X4_18 C dX4_mendFirst_19 ?_
    obtain ⟨q1, eq1, h⟩ := gb_some h
    refine x_vi (st := [.int v2]) C kY_X6_count 1 6 rfl rfl rfl (m_X6_count l D cI cZ ad C.2.2.2.2.2.2.1 σ q1 eq1) kl_X4_28 ⟨rfl, rfl⟩ ⟨Nat.le_of_ble_eq_true rfl, Nat.le_of_ble_eq_true rfl⟩ ⟨Nat.zero_le _, Nat.zero_le _⟩ rfl rfl (Nat.le_of_ble_eq_true rfl) dX4_mendFirst_22 ?_
    refine x_icmp_ge C 79 dX4_mendFirst_25 (by decide) (fun c2 => ?_) (fun c2 => ?_)
    · have h := (if_pos c2).symm.trans h
      refine x_iinc (v := (v1 + 1)) (lv' := [(1, .int (v1 + 1)), (0, .ref (ad 2)), (2, .int v2)]) C 1 dX4_mendFirst_79 rfl rfl (by decide) rfl ?_
      refine x_goto C 2 dX4_mendFirst_82 (by decide) ?_
      refine x_sub [1, 0] rfl ?_
      exact hK2 (v1 + 1) q1.2 h
    · have h := (if_neg c2).symm.trans h
      refine x_aload_n C dX4_mendFirst_28 rfl 0 rfl ?_
      refine x_iload_n C dX4_mendFirst_29 rfl 1 rfl ?_
      refine x_iload_n C dX4_mendFirst_30 rfl 2 rfl ?_
      obtain ⟨q3, eq3, h⟩ := gb_some h
      refine x_vi (st := []) C kY_X4_canMend 2 4 rfl rfl rfl (m_X4_canMend l D cI cZ ad C.2.2.2.2.2.2.1 v1 v2 q1.2 q3 eq3) kl_X4_90 ⟨rfl, rfl⟩ ⟨Nat.le_of_ble_eq_true rfl, Nat.le_of_ble_eq_true rfl⟩ ⟨Nat.zero_le _, Nat.zero_le _⟩ rfl rfl (Nat.le_of_ble_eq_true rfl) dX4_mendFirst_31 ?_
      refine x_if_eq C 73 dX4_mendFirst_34 (by decide) (fun c4 => ?_) (fun c4 => ?_)
      · have h := (if_pos c4).symm.trans h
        refine x_iinc (v := (v2 + 1)) (lv' := [(2, .int (v2 + 1)), (0, .ref (ad 2)), (1, .int v1)]) C 2 dX4_mendFirst_73 rfl rfl (by decide) rfl ?_
        refine x_goto C 17 dX4_mendFirst_76 (by decide) ?_
        refine x_sub [1, 2, 0] rfl ?_
        exact ih v1 (v2 + 1) q3.2 h
      · have h := (if_neg c4).symm.trans h
        refine x_aload_n C dX4_mendFirst_37 rfl 0 rfl ?_
        refine xg_X4_18 C dX4_mendFirst_38 ?_
        refine x_iload_n C dX4_mendFirst_41 rfl 1 rfl ?_
        obtain ⟨q5, eq5, h⟩ := gb_some h
        refine x_vi (st := []) C kY_X6_next 1 6 rfl rfl rfl (m_X6_next l D cI cZ ad C.2.2.2.2.2.2.1 v1 q3.2 q5 eq5) kl_X4_34 ⟨rfl, rfl⟩ ⟨Nat.le_of_ble_eq_true rfl, Nat.le_of_ble_eq_true rfl⟩ ⟨Nat.zero_le _, Nat.zero_le _⟩ rfl rfl (Nat.le_of_ble_eq_true rfl) dX4_mendFirst_42 ?_
        refine x_istore_n (lv' := [(3, .int q5.1), (0, .ref (ad 2)), (1, .int v1), (2, .int v2)]) C dX4_mendFirst_45 rfl (by decide) rfl ?_
        refine x_aload_n C dX4_mendFirst_46 rfl 1 rfl ?_
        refine xg_X4_18 C dX4_mendFirst_47 ?_
        refine x_iload_n C dX4_mendFirst_50 rfl 2 rfl ?_
        refine x_aload_n C dX4_mendFirst_51 rfl 1 rfl ?_
        refine xg_X4_18 C dX4_mendFirst_52 ?_
        refine x_iload_n C dX4_mendFirst_55 rfl 3 rfl ?_
        obtain ⟨q6, eq6, h⟩ := gb_some h
        refine x_vi (st := [.int v1, .ref (ad 1)]) C kY_X6_next 1 6 rfl rfl rfl (m_X6_next l D cI cZ ad C.2.2.2.2.2.2.1 v2 q5.2 q6 eq6) kl_X4_34 ⟨rfl, rfl⟩ ⟨Nat.le_of_ble_eq_true rfl, Nat.le_of_ble_eq_true rfl⟩ ⟨Nat.zero_le _, Nat.zero_le _⟩ rfl rfl (Nat.le_of_ble_eq_true rfl) dX4_mendFirst_56 ?_
        obtain ⟨q7, eq7, h⟩ := gb_some h
        refine x_vv (st := []) C kY_X6_link 1 6 rfl rfl rfl (m_X6_link l D cI cZ ad C.2.2.2.2.2.2.1 v1 q6.1 q6.2 q7 eq7) kl_X4_93 ⟨rfl, rfl⟩ ⟨Nat.le_of_ble_eq_true rfl, Nat.le_of_ble_eq_true rfl⟩ ⟨Nat.zero_le _, Nat.zero_le _⟩ rfl rfl (Nat.le_of_ble_eq_true rfl) dX4_mendFirst_59 ?_
        refine x_aload_n C dX4_mendFirst_62 rfl 1 rfl ?_
        refine xg_X4_18 C dX4_mendFirst_63 ?_
        refine x_iload_n C dX4_mendFirst_66 rfl 3 rfl ?_
        refine x_iload_n C dX4_mendFirst_67 rfl 0 rfl ?_
        obtain ⟨q8, eq8, h⟩ := gb_some h
        refine x_vv (st := []) C kY_X6_link 1 6 rfl rfl rfl (m_X6_link l D cI cZ ad C.2.2.2.2.2.2.1 v2 q5.1 q7 q8 eq8) kl_X4_93 ⟨rfl, rfl⟩ ⟨Nat.le_of_ble_eq_true rfl, Nat.le_of_ble_eq_true rfl⟩ ⟨Nat.zero_le _, Nat.zero_le _⟩ rfl rfl (Nat.le_of_ble_eq_true rfl) dX4_mendFirst_68 ?_
        refine x_iconst (v := 1) C dX4_mendFirst_71 (by decide) ?_
        exact x_zret C hr rfl dX4_mendFirst_72 (Option.some.inj h)
set_option maxRecDepth 100000 in
set_option maxHeartbeats 4000000 in
theorem w_X4_mendFirst_2 {p : Program} {l : Launch} {e : Env} {s : State} {m : MethodId} {args : Array Value} {below : List Frame} {meth : Method} {c : Code} {D : va_G} {cI cZ : ClassId} {ad : Nat → Nat} (C : pv_C p s m args meth c cX4_mendFirst 4 RX4 D cI cZ ad (pv_A ad)) (hr : meth.sig.returnType = some .boolean) (R0 : (Int32 × pv_S)) : ∀ (n : Nat) (v1 : Int32) (σ : pv_S), f_X4_mendFirst_2 n v1 σ = some R0 → Wx p l e r_X4_mendFirst s m args below meth c 0 0 (MQ below (pv_QI D cI cZ ad R0) args s 0 0 (pv_A ad)) 4 D cI cZ ad (pv_A ad) 2 [(0, .ref (ad 2)), (1, .int v1)] [] σ := by
  intro n
  induction n with
  | zero =>
    intro v1 σ h
    have h2 : (none : Option (Int32 × pv_S)) = some R0 := h
    cases h2
  | succ n ih =>
    intro v1 σ h
    unfold f_X4_mendFirst_2 at h
    refine x_iload_n C dX4_mendFirst_2 rfl 1 rfl ?_
    refine x_aload_n C dX4_mendFirst_3 rfl 0 rfl ?_
    refine xg_X4_18 C dX4_mendFirst_4 ?_
    obtain ⟨q1, eq1, h⟩ := gb_some h
    refine x_vi (st := [.int v1]) C kY_X6_count 1 6 rfl rfl rfl (m_X6_count l D cI cZ ad C.2.2.2.2.2.2.1 σ q1 eq1) kl_X4_28 ⟨rfl, rfl⟩ ⟨Nat.le_of_ble_eq_true rfl, Nat.le_of_ble_eq_true rfl⟩ ⟨Nat.zero_le _, Nat.zero_le _⟩ rfl rfl (Nat.le_of_ble_eq_true rfl) dX4_mendFirst_7 ?_
    refine x_icmp_ge C 85 dX4_mendFirst_10 (by decide) (fun c2 => ?_) (fun c2 => ?_)
    · have h := (if_pos c2).symm.trans h
      refine x_iconst (v := 0) C dX4_mendFirst_85 (by decide) ?_
      exact x_zret C hr rfl dX4_mendFirst_86 (Option.some.inj h)
    · have h := (if_neg c2).symm.trans h
      refine x_iload_n C dX4_mendFirst_13 rfl 1 rfl ?_
      refine x_iconst (v := 1) C dX4_mendFirst_14 (by decide) ?_
      refine x_iadd C dX4_mendFirst_15 ?_
      refine x_istore_n (lv' := [(2, .int (v1 + 1)), (0, .ref (ad 2)), (1, .int v1)]) C dX4_mendFirst_16 rfl (by decide) rfl ?_
      refine x_sub [1, 2, 0] rfl ?_
      exact w_X4_mendFirst_17 C hr R0 (f_X4_mendFirst_2 n) ih pv_FU v1 (v1 + 1) q1.2 h
set_option maxRecDepth 100000 in
set_option maxHeartbeats 4000000 in
theorem w_X4_mendFirst_0 {p : Program} {l : Launch} {e : Env} {s : State} {m : MethodId} {args : Array Value} {below : List Frame} {meth : Method} {c : Code} {D : va_G} {cI cZ : ClassId} {ad : Nat → Nat} (C : pv_C p s m args meth c cX4_mendFirst 4 RX4 D cI cZ ad (pv_A ad)) (hr : meth.sig.returnType = some .boolean) (R0 : (Int32 × pv_S)) (σ : pv_S) (h : f_X4_mendFirst σ = some R0) : Wx p l e r_X4_mendFirst s m args below meth c 0 0 (MQ below (pv_QI D cI cZ ad R0) args s 0 0 (pv_A ad)) 4 D cI cZ ad (pv_A ad) 0 [(0, .ref (ad 2))] [] σ := by
  unfold f_X4_mendFirst at h
  refine x_iconst (v := 0) C dX4_mendFirst_0 (by decide) ?_
  refine x_istore_n (lv' := [(1, .int 0), (0, .ref (ad 2))]) C dX4_mendFirst_1 rfl (by decide) rfl ?_
  refine x_sub [1, 0] rfl ?_
  exact w_X4_mendFirst_2 C hr R0 pv_FU 0 σ h
theorem m_X4_mendFirst (l : Launch) (D : va_G) (cI cZ : ClassId) (ad : Nat → Nat) (hJ : pv_J ad)  (σ : pv_S) (R0 : (Int32 × pv_S)) (h : f_X4_mendFirst σ = some R0) : Met l yX4_mendFirst (Cond.code yX4_mendFirst cX4_mendFirst 4 (some .boolean) :: lwG) r_X4_mendFirst (va_Pc [.ref (ad 2)] (pv_P D cI cZ ad σ)) (pv_QI D cI cZ ad R0) 0 0 (pv_A ad) := x_met (by decide) rfl hJ (Nat.le_of_ble_eq_true rfl) (fun p e s m args below meth c C hr => w_X4_mendFirst_0 C hr R0 σ h)
abbrev r_X4_mendCrossings : Room := { frames := 5, cells := 0, slots := 0, locals := 114 }
set_option maxRecDepth 100000 in
set_option maxHeartbeats 4000000 in
theorem w_X4_mendCrossings_2 {p : Program} {l : Launch} {e : Env} {s : State} {m : MethodId} {args : Array Value} {below : List Frame} {meth : Method} {c : Code} {D : va_G} {cI cZ : ClassId} {ad : Nat → Nat} (C : pv_C p s m args meth c cX4_mendCrossings 2 RX4 D cI cZ ad (pv_A ad)) (hr : meth.sig.returnType = some .int) (R0 : (Int32 × pv_S)) : ∀ (n : Nat) (v1 : Int32) (σ : pv_S), f_X4_mendCrossings_2 n v1 σ = some R0 → Wx p l e r_X4_mendCrossings s m args below meth c 0 0 (MQ below (pv_QI D cI cZ ad R0) args s 0 0 (pv_A ad)) 2 D cI cZ ad (pv_A ad) 2 [(0, .ref (ad 2)), (1, .int v1)] [] σ := by
  intro n
  induction n with
  | zero =>
    intro v1 σ h
    have h2 : (none : Option (Int32 × pv_S)) = some R0 := h
    cases h2
  | succ n ih =>
    intro v1 σ h
    unfold f_X4_mendCrossings_2 at h
    refine x_iload_n C dX4_mendCrossings_2 rfl 1 rfl ?_
    refine x_bipush (v := 50) C dX4_mendCrossings_3 (by decide) ?_
    refine x_icmp_ge C 21 dX4_mendCrossings_5 (by decide) (fun c1 => ?_) (fun c1 => ?_)
    · have h := (if_pos c1).symm.trans h
      refine x_iload_n C dX4_mendCrossings_21 rfl 1 rfl ?_
      exact x_iret C hr dX4_mendCrossings_22 (Option.some.inj h)
    · have h := (if_neg c1).symm.trans h
      refine x_aload_n C dX4_mendCrossings_8 rfl 0 rfl ?_
      obtain ⟨q2, eq2, h⟩ := gb_some h
      refine x_vi (st := []) C kY_X4_mendFirst 2 4 rfl rfl rfl (m_X4_mendFirst l D cI cZ ad C.2.2.2.2.2.2.1 σ q2 eq2) kl_X4_86 ⟨rfl, rfl⟩ ⟨Nat.le_of_ble_eq_true rfl, Nat.le_of_ble_eq_true rfl⟩ ⟨Nat.zero_le _, Nat.zero_le _⟩ rfl rfl (Nat.le_of_ble_eq_true rfl) dX4_mendCrossings_9 ?_
      refine x_if_eq C 21 dX4_mendCrossings_12 (by decide) (fun c3 => ?_) (fun c3 => ?_)
      · have h := (if_pos c3).symm.trans h
        refine x_iload_n C dX4_mendCrossings_21 rfl 1 rfl ?_
        exact x_iret C hr dX4_mendCrossings_22 (Option.some.inj h)
      · have h := (if_neg c3).symm.trans h
        refine x_iinc (v := (v1 + 1)) (lv' := [(1, .int (v1 + 1)), (0, .ref (ad 2))]) C 1 dX4_mendCrossings_15 rfl rfl (by decide) rfl ?_
        refine x_goto C 2 dX4_mendCrossings_18 (by decide) ?_
        refine x_sub [1, 0] rfl ?_
        exact ih (v1 + 1) q2.2 h
set_option maxRecDepth 100000 in
set_option maxHeartbeats 4000000 in
theorem w_X4_mendCrossings_0 {p : Program} {l : Launch} {e : Env} {s : State} {m : MethodId} {args : Array Value} {below : List Frame} {meth : Method} {c : Code} {D : va_G} {cI cZ : ClassId} {ad : Nat → Nat} (C : pv_C p s m args meth c cX4_mendCrossings 2 RX4 D cI cZ ad (pv_A ad)) (hr : meth.sig.returnType = some .int) (R0 : (Int32 × pv_S)) (σ : pv_S) (h : f_X4_mendCrossings σ = some R0) : Wx p l e r_X4_mendCrossings s m args below meth c 0 0 (MQ below (pv_QI D cI cZ ad R0) args s 0 0 (pv_A ad)) 2 D cI cZ ad (pv_A ad) 0 [(0, .ref (ad 2))] [] σ := by
  unfold f_X4_mendCrossings at h
  refine x_iconst (v := 0) C dX4_mendCrossings_0 (by decide) ?_
  refine x_istore_n (lv' := [(1, .int 0), (0, .ref (ad 2))]) C dX4_mendCrossings_1 rfl (by decide) rfl ?_
  refine x_sub [1, 0] rfl ?_
  exact w_X4_mendCrossings_2 C hr R0 pv_FU 0 σ h
theorem m_X4_mendCrossings (l : Launch) (D : va_G) (cI cZ : ClassId) (ad : Nat → Nat) (hJ : pv_J ad)  (σ : pv_S) (R0 : (Int32 × pv_S)) (h : f_X4_mendCrossings σ = some R0) : Met l yX4_mendCrossings (Cond.code yX4_mendCrossings cX4_mendCrossings 2 (some .int) :: lwG) r_X4_mendCrossings (va_Pc [.ref (ad 2)] (pv_P D cI cZ ad σ)) (pv_QI D cI cZ ad R0) 0 0 (pv_A ad) := x_met (by decide) rfl hJ (Nat.le_of_ble_eq_true rfl) (fun p e s m args below meth c C hr => w_X4_mendCrossings_0 C hr R0 σ h)
abbrev r_X7_mend : Room := { frames := 6, cells := 0, slots := 0, locals := 135 }
set_option maxRecDepth 100000 in
set_option maxHeartbeats 4000000 in
theorem w_X7_mend_0 {p : Program} {l : Launch} {e : Env} {s : State} {m : MethodId} {args : Array Value} {below : List Frame} {meth : Method} {c : Code} {D : va_G} {cI cZ : ClassId} {ad : Nat → Nat} (C : pv_C p s m args meth c cX7_mend 1 RX7 D cI cZ ad (pv_A ad)) (hr : meth.sig.returnType = some .int) (R0 : (Int32 × pv_S)) (σ : pv_S) (h : f_X7_mend σ = some R0) : Wx p l e r_X7_mend s m args below meth c 0 0 (MQ below (pv_QI D cI cZ ad R0) args s 0 0 (pv_A ad)) 1 D cI cZ ad (pv_A ad) 0 [(0, .ref (ad 0))] [] σ := by
  unfold f_X7_mend at h
  refine x_aload_n C dX7_mend_0 rfl 0 rfl ?_
  refine xg_X7_35 C dX7_mend_1 ?_
  refine x_aload_n C dX7_mend_4 rfl 0 rfl ?_
  refine xg_X7_10 C dX7_mend_5 ?_
  obtain ⟨q1, eq1, h⟩ := gb_some h
  refine x_vv (st := []) C kY_X2_record 4 2 rfl rfl rfl (m_X2_record l D cI cZ ad C.2.2.2.2.2.2.1 σ q1 eq1) kl_X7_183 ⟨rfl, rfl⟩ ⟨Nat.le_of_ble_eq_true rfl, Nat.le_of_ble_eq_true rfl⟩ ⟨Nat.zero_le _, Nat.zero_le _⟩ rfl rfl (Nat.le_of_ble_eq_true rfl) dX7_mend_8 ?_
  refine x_aload_n C dX7_mend_11 rfl 0 rfl ?_
  refine xg_X7_21 C dX7_mend_12 ?_
  obtain ⟨q2, eq2, h⟩ := gb_some h
  refine x_vi (st := []) C kY_X4_mendCrossings 2 4 rfl rfl rfl (m_X4_mendCrossings l D cI cZ ad C.2.2.2.2.2.2.1 q1 q2 eq2) kl_X7_211 ⟨rfl, rfl⟩ ⟨Nat.le_of_ble_eq_true rfl, Nat.le_of_ble_eq_true rfl⟩ ⟨Nat.zero_le _, Nat.zero_le _⟩ rfl rfl (Nat.le_of_ble_eq_true rfl) dX7_mend_15 ?_
  exact x_iret C hr dX7_mend_18 (Option.some.inj h)
theorem m_X7_mend (l : Launch) (D : va_G) (cI cZ : ClassId) (ad : Nat → Nat) (hJ : pv_J ad)  (σ : pv_S) (R0 : (Int32 × pv_S)) (h : f_X7_mend σ = some R0) : Met l yX7_mend (Cond.code yX7_mend cX7_mend 1 (some .int) :: lwG) r_X7_mend (va_Pc [.ref (ad 0)] (pv_P D cI cZ ad σ)) (pv_QI D cI cZ ad R0) 0 0 (pv_A ad) := x_met (by decide) rfl hJ (Nat.le_of_ble_eq_true rfl) (fun p e s m args below meth c C hr => w_X7_mend_0 C hr R0 σ h)
abbrev r_X6_dropAll : Room := { frames := 3, cells := 0, slots := 0, locals := 64 }
set_option maxRecDepth 100000 in
set_option maxHeartbeats 4000000 in
theorem w_X6_dropAll_0 {p : Program} {l : Launch} {e : Env} {s : State} {m : MethodId} {args : Array Value} {below : List Frame} {meth : Method} {c : Code} {D : va_G} {cI cZ : ClassId} {ad : Nat → Nat} (C : pv_C p s m args meth c cX6_dropAll 1 RX6 D cI cZ ad (pv_A ad)) (hr : meth.sig.returnType = none) (R0 : pv_S) (σ : pv_S) (h : f_X6_dropAll σ = some R0) : Wx p l e r_X6_dropAll s m args below meth c 0 0 (MQ below (pv_QV D cI cZ ad R0) args s 0 0 (pv_A ad)) 1 D cI cZ ad (pv_A ad) 0 [(0, .ref (ad 1))] [] σ := by
  unfold f_X6_dropAll at h
  refine x_aload_n C dX6_dropAll_0 rfl 0 rfl ?_
  refine xg_X6_11 C dX6_dropAll_1 ?_
  refine x_iconst (v := 0) C dX6_dropAll_4 (by decide) ?_
  refine x_iconst (v := 0) C dX6_dropAll_5 (by decide) ?_
  obtain ⟨g1, h⟩ := gd_some h
  refine xs_0 C g1 dX6_dropAll_6 ?_
  refine x_aload_n C dX6_dropAll_7 rfl 0 rfl ?_
  obtain ⟨q2, eq2, h⟩ := gb_some h
  refine x_vv (st := []) C kY_X6_changed 1 6 rfl rfl rfl (m_X6_changed l D cI cZ ad C.2.2.2.2.2.2.1 (pv_sa σ 0 0 0) q2 eq2) kl_X6_39 ⟨rfl, rfl⟩ ⟨Nat.le_of_ble_eq_true rfl, Nat.le_of_ble_eq_true rfl⟩ ⟨Nat.zero_le _, Nat.zero_le _⟩ rfl rfl (Nat.le_of_ble_eq_true rfl) dX6_dropAll_8 ?_
  exact x_vret C hr dX6_dropAll_11 (Option.some.inj h)
theorem m_X6_dropAll (l : Launch) (D : va_G) (cI cZ : ClassId) (ad : Nat → Nat) (hJ : pv_J ad)  (σ : pv_S) (R0 : pv_S) (h : f_X6_dropAll σ = some R0) : Met l yX6_dropAll (Cond.code yX6_dropAll cX6_dropAll 1 (none) :: lwG) r_X6_dropAll (va_Pc [.ref (ad 1)] (pv_P D cI cZ ad σ)) (pv_QV D cI cZ ad R0) 0 0 (pv_A ad) := x_met (by decide) rfl hJ (Nat.le_of_ble_eq_true rfl) (fun p e s m args below meth c C hr => w_X6_dropAll_0 C hr R0 σ h)
abbrev r_X7_clear : Room := { frames := 4, cells := 0, slots := 0, locals := 84 }
set_option maxRecDepth 100000 in
set_option maxHeartbeats 4000000 in
theorem w_X7_clear_0 {p : Program} {l : Launch} {e : Env} {s : State} {m : MethodId} {args : Array Value} {below : List Frame} {meth : Method} {c : Code} {D : va_G} {cI cZ : ClassId} {ad : Nat → Nat} (C : pv_C p s m args meth c cX7_clear 2 RX7 D cI cZ ad (pv_A ad)) (hr : meth.sig.returnType = some .int) (R0 : (Int32 × pv_S)) (σ : pv_S) (h : f_X7_clear σ = some R0) : Wx p l e r_X7_clear s m args below meth c 0 0 (MQ below (pv_QI D cI cZ ad R0) args s 0 0 (pv_A ad)) 2 D cI cZ ad (pv_A ad) 0 [(0, .ref (ad 0))] [] σ := by
  unfold f_X7_clear at h
  refine x_aload_n C dX7_clear_0 rfl 0 rfl ?_
  refine xg_X7_35 C dX7_clear_1 ?_
  refine x_aload_n C dX7_clear_4 rfl 0 rfl ?_
  refine xg_X7_10 C dX7_clear_5 ?_
  obtain ⟨q1, eq1, h⟩ := gb_some h
  refine x_vv (st := []) C kY_X2_record 4 2 rfl rfl rfl (m_X2_record l D cI cZ ad C.2.2.2.2.2.2.1 σ q1 eq1) kl_X7_183 ⟨rfl, rfl⟩ ⟨Nat.le_of_ble_eq_true rfl, Nat.le_of_ble_eq_true rfl⟩ ⟨Nat.zero_le _, Nat.zero_le _⟩ rfl rfl (Nat.le_of_ble_eq_true rfl) dX7_clear_8 ?_
  refine x_aload_n C dX7_clear_11 rfl 0 rfl ?_
  refine xg_X7_10 C dX7_clear_12 ?_
  obtain ⟨q2, eq2, h⟩ := gb_some h
  refine x_vi (st := []) C kY_X6_count 1 6 rfl rfl rfl (m_X6_count l D cI cZ ad C.2.2.2.2.2.2.1 q1 q2 eq2) kl_X7_60 ⟨rfl, rfl⟩ ⟨Nat.le_of_ble_eq_true rfl, Nat.le_of_ble_eq_true rfl⟩ ⟨Nat.zero_le _, Nat.zero_le _⟩ rfl rfl (Nat.le_of_ble_eq_true rfl) dX7_clear_15 ?_
  refine x_istore_n (lv' := [(1, .int q2.1), (0, .ref (ad 0))]) C dX7_clear_18 rfl (by decide) rfl ?_
  refine x_aload_n C dX7_clear_19 rfl 1 rfl ?_
  refine xg_X7_10 C dX7_clear_20 ?_
  obtain ⟨q3, eq3, h⟩ := gb_some h
  refine x_vv (st := []) C kY_X6_dropAll 1 6 rfl rfl rfl (m_X6_dropAll l D cI cZ ad C.2.2.2.2.2.2.1 q2.2 q3 eq3) kl_X7_214 ⟨rfl, rfl⟩ ⟨Nat.le_of_ble_eq_true rfl, Nat.le_of_ble_eq_true rfl⟩ ⟨Nat.zero_le _, Nat.zero_le _⟩ rfl rfl (Nat.le_of_ble_eq_true rfl) dX7_clear_23 ?_
  refine x_iload_n C dX7_clear_26 rfl 0 rfl ?_
  exact x_iret C hr dX7_clear_27 (Option.some.inj h)
theorem m_X7_clear (l : Launch) (D : va_G) (cI cZ : ClassId) (ad : Nat → Nat) (hJ : pv_J ad)  (σ : pv_S) (R0 : (Int32 × pv_S)) (h : f_X7_clear σ = some R0) : Met l yX7_clear (Cond.code yX7_clear cX7_clear 2 (some .int) :: lwG) r_X7_clear (va_Pc [.ref (ad 0)] (pv_P D cI cZ ad σ)) (pv_QI D cI cZ ad R0) 0 0 (pv_A ad) := x_met (by decide) rfl hJ (Nat.le_of_ble_eq_true rfl) (fun p e s m args below meth c C hr => w_X7_clear_0 C hr R0 σ h)
abbrev r_X1_draw : Room := { frames := 0, cells := 0, slots := 0, locals := 0 }
set_option maxRecDepth 100000 in
set_option maxHeartbeats 4000000 in
theorem w_X1_draw_0 {p : Program} {l : Launch} {e : Env} {s : State} {m : MethodId} {args : Array Value} {below : List Frame} {meth : Method} {c : Code} {D : va_G} {cI cZ : ClassId} {ad : Nat → Nat} (C : pv_C p s m args meth c cX1_draw 2 RX1 D cI cZ ad (pv_A ad)) (hr : meth.sig.returnType = some .int) (R0 : (Int32 × pv_S)) (p0 : Int32) (σ : pv_S) (h : f_X1_draw p0 σ = some R0) : Wx p l e r_X1_draw s m args below meth c 0 0 (MQ below (pv_QI D cI cZ ad R0) args s 0 0 (pv_A ad)) 2 D cI cZ ad (pv_A ad) 0 [(0, .ref (ad 7)), (1, .int p0)] [] σ := by
  unfold f_X1_draw at h
  refine x_aload_n C dX1_draw_0 rfl 0 rfl ?_
  refine x_aload_n C dX1_draw_1 rfl 0 rfl ?_
  refine xg_X1_7 C dX1_draw_2 ?_
  refine x_ldc C kc_X1_13 dX1_draw_5 ?_
  refine x_imul C dX1_draw_7 ?_
  refine x_sipush (v := 12345) C dX1_draw_8 (by decide) ?_
  refine x_iadd C dX1_draw_11 ?_
  refine x_ldc C kc_X1_14 dX1_draw_12 ?_
  refine x_iand C dX1_draw_14 ?_
  refine xp_X1_7 C dX1_draw_15 ?_
  refine x_iload_n C dX1_draw_18 rfl 1 rfl ?_
  refine x_iconst (v := 1) C dX1_draw_19 (by decide) ?_
  refine x_icmp_ge C 27 dX1_draw_20 (by decide) (fun c1 => ?_) (fun c1 => ?_)
  · have h := (if_pos c1).symm.trans h
    refine x_aload_n C dX1_draw_27 rfl 0 rfl ?_
    refine xg_X1_7 C dX1_draw_28 ?_
    refine x_ldc C kc_X1_15 dX1_draw_31 ?_
    refine x_idiv C dX1_draw_33 (by decide) ?_
    refine x_iload_n C dX1_draw_34 rfl 1 rfl ?_
    obtain ⟨g2, h⟩ := gn_some h
    refine x_irem C dX1_draw_35 g2 ?_
    exact x_iret C hr dX1_draw_36 (Option.some.inj h)
  · have h := (if_neg c1).symm.trans h
    refine x_iconst (v := 0) C dX1_draw_23 (by decide) ?_
    refine x_goto C 36 dX1_draw_24 (by decide) ?_
    exact x_iret C hr dX1_draw_36 (Option.some.inj h)
theorem m_X1_draw (l : Launch) (D : va_G) (cI cZ : ClassId) (ad : Nat → Nat) (hJ : pv_J ad) (p0 : Int32) (σ : pv_S) (R0 : (Int32 × pv_S)) (h : f_X1_draw p0 σ = some R0) : Met l yX1_draw (Cond.code yX1_draw cX1_draw 2 (some .int) :: lwG) r_X1_draw (va_Pc [.ref (ad 7), .int p0] (pv_P D cI cZ ad σ)) (pv_QI D cI cZ ad R0) 0 0 (pv_A ad) := x_met (by decide) rfl hJ (Nat.le_of_ble_eq_true rfl) (fun p e s m args below meth c C hr => w_X1_draw_0 C hr R0 p0 σ h)
abbrev r_X7_bringDrawn : Room := { frames := 4, cells := 0, slots := 0, locals := 94 }
set_option maxRecDepth 100000 in
set_option maxHeartbeats 4000000 in
theorem w_X7_bringDrawn_0 {p : Program} {l : Launch} {e : Env} {s : State} {m : MethodId} {args : Array Value} {below : List Frame} {meth : Method} {c : Code} {D : va_G} {cI cZ : ClassId} {ad : Nat → Nat} (C : pv_C p s m args meth c cX7_bringDrawn 4 RX7 D cI cZ ad (pv_A ad)) (hr : meth.sig.returnType = none) (R0 : pv_S) (σ : pv_S) (h : f_X7_bringDrawn σ = some R0) : Wx p l e r_X7_bringDrawn s m args below meth c 0 0 (MQ below (pv_QV D cI cZ ad R0) args s 0 0 (pv_A ad)) 4 D cI cZ ad (pv_A ad) 0 [(0, .ref (ad 0))] [] σ := by
  unfold f_X7_bringDrawn at h
  refine x_aload_n C dX7_bringDrawn_0 rfl 0 rfl ?_
  refine xg_X7_56 C dX7_bringDrawn_1 ?_
  refine x_bipush (v := 24) C dX7_bringDrawn_4 (by decide) ?_
  obtain ⟨q1, eq1, h⟩ := gb_some h
  refine x_vi (st := []) C kY_X1_draw 7 1 rfl rfl rfl (m_X1_draw l D cI cZ ad C.2.2.2.2.2.2.1 24 σ q1 eq1) kl_X7_256 ⟨rfl, rfl⟩ ⟨Nat.le_of_ble_eq_true rfl, Nat.le_of_ble_eq_true rfl⟩ ⟨Nat.zero_le _, Nat.zero_le _⟩ rfl rfl (Nat.le_of_ble_eq_true rfl) dX7_bringDrawn_6 ?_
  refine x_istore_n (lv' := [(1, .int q1.1), (0, .ref (ad 0))]) C dX7_bringDrawn_9 rfl (by decide) rfl ?_
  refine x_aload_n C dX7_bringDrawn_10 rfl 1 rfl ?_
  refine xg_X7_56 C dX7_bringDrawn_11 ?_
  refine x_bipush (v := 6) C dX7_bringDrawn_14 (by decide) ?_
  obtain ⟨q2, eq2, h⟩ := gb_some h
  refine x_vi (st := []) C kY_X1_draw 7 1 rfl rfl rfl (m_X1_draw l D cI cZ ad C.2.2.2.2.2.2.1 6 q1.2 q2 eq2) kl_X7_256 ⟨rfl, rfl⟩ ⟨Nat.le_of_ble_eq_true rfl, Nat.le_of_ble_eq_true rfl⟩ ⟨Nat.zero_le _, Nat.zero_le _⟩ rfl rfl (Nat.le_of_ble_eq_true rfl) dX7_bringDrawn_16 ?_
  refine x_iconst (v := 1) C dX7_bringDrawn_19 (by decide) ?_
  refine x_iadd C dX7_bringDrawn_20 ?_
  refine x_istore_n (lv' := [(2, .int (q2.1 + 1)), (1, .int q1.1), (0, .ref (ad 0))]) C dX7_bringDrawn_21 rfl (by decide) rfl ?_
  refine x_aload_n C dX7_bringDrawn_22 rfl 2 rfl ?_
  refine xg_X7_56 C dX7_bringDrawn_23 ?_
  refine x_bipush (v := 25) C dX7_bringDrawn_26 (by decide) ?_
  obtain ⟨q3, eq3, h⟩ := gb_some h
  refine x_vi (st := []) C kY_X1_draw 7 1 rfl rfl rfl (m_X1_draw l D cI cZ ad C.2.2.2.2.2.2.1 25 q2.2 q3 eq3) kl_X7_256 ⟨rfl, rfl⟩ ⟨Nat.le_of_ble_eq_true rfl, Nat.le_of_ble_eq_true rfl⟩ ⟨Nat.zero_le _, Nat.zero_le _⟩ rfl rfl (Nat.le_of_ble_eq_true rfl) dX7_bringDrawn_28 ?_
  refine x_bipush (v := 48) C dX7_bringDrawn_31 (by decide) ?_
  refine x_iadd C dX7_bringDrawn_33 ?_
  refine x_istore_n (lv' := [(3, .int (q3.1 + 48)), (2, .int (q2.1 + 1)), (1, .int q1.1), (0, .ref (ad 0))]) C dX7_bringDrawn_34 rfl (by decide) rfl ?_
  refine x_aload_n C dX7_bringDrawn_35 rfl 3 rfl ?_
  refine xg_X7_10 C dX7_bringDrawn_36 ?_
  refine x_iload_n C dX7_bringDrawn_39 rfl 2 rfl ?_
  refine x_iload_n C dX7_bringDrawn_40 rfl 1 rfl ?_
  refine x_iload_n C dX7_bringDrawn_41 rfl 0 rfl ?_
  obtain ⟨q4, eq4, h⟩ := gb_some h
  refine x_vi (st := []) C kY_X6_bring 1 6 rfl rfl rfl (m_X6_bring l D cI cZ ad C.2.2.2.2.2.2.1 q1.1 (q2.1 + 1) (q3.1 + 48) q3.2 q4 eq4) kl_X7_186 ⟨rfl, rfl⟩ ⟨Nat.le_of_ble_eq_true rfl, Nat.le_of_ble_eq_true rfl⟩ ⟨Nat.zero_le _, Nat.zero_le _⟩ rfl rfl (Nat.le_of_ble_eq_true rfl) dX7_bringDrawn_42 ?_
  refine x_pop C dX7_bringDrawn_45 rfl ?_
  exact x_vret C hr dX7_bringDrawn_46 (Option.some.inj h)
theorem m_X7_bringDrawn (l : Launch) (D : va_G) (cI cZ : ClassId) (ad : Nat → Nat) (hJ : pv_J ad)  (σ : pv_S) (R0 : pv_S) (h : f_X7_bringDrawn σ = some R0) : Met l yX7_bringDrawn (Cond.code yX7_bringDrawn cX7_bringDrawn 4 (none) :: lwG) r_X7_bringDrawn (va_Pc [.ref (ad 0)] (pv_P D cI cZ ad σ)) (pv_QV D cI cZ ad R0) 0 0 (pv_A ad) := x_met (by decide) rfl hJ (Nat.le_of_ble_eq_true rfl) (fun p e s m args below meth c C hr => w_X7_bringDrawn_0 C hr R0 σ h)
abbrev r_X7_drift : Room := { frames := 5, cells := 0, slots := 0, locals := 117 }
set_option maxRecDepth 100000 in
set_option maxHeartbeats 4000000 in
theorem w_X7_drift_52 {p : Program} {l : Launch} {e : Env} {s : State} {m : MethodId} {args : Array Value} {below : List Frame} {meth : Method} {c : Code} {D : va_G} {cI cZ : ClassId} {ad : Nat → Nat} (C : pv_C p s m args meth c cX7_drift 3 RX7 D cI cZ ad (pv_A ad)) (hr : meth.sig.returnType = some .int) (R0 : (Int32 × pv_S)) (σ : pv_S) (h : f_X7_drift_52 σ = some R0) : Wx p l e r_X7_drift s m args below meth c 0 0 (MQ below (pv_QI D cI cZ ad R0) args s 0 0 (pv_A ad)) 3 D cI cZ ad (pv_A ad) 52 [(0, .ref (ad 0))] [] σ := by
  unfold f_X7_drift_52 at h
  refine x_aload_n C dX7_drift_52 rfl 0 rfl ?_
  refine xg_X7_10 C dX7_drift_53 ?_
  obtain ⟨q1, eq1, h⟩ := gb_some h
  refine x_vi (st := []) C kY_X6_count 1 6 rfl rfl rfl (m_X6_count l D cI cZ ad C.2.2.2.2.2.2.1 σ q1 eq1) kl_X7_60 ⟨rfl, rfl⟩ ⟨Nat.le_of_ble_eq_true rfl, Nat.le_of_ble_eq_true rfl⟩ ⟨Nat.zero_le _, Nat.zero_le _⟩ rfl rfl (Nat.le_of_ble_eq_true rfl) dX7_drift_56 ?_
  exact x_iret C hr dX7_drift_59 (Option.some.inj h)
set_option maxRecDepth 100000 in
set_option maxHeartbeats 4000000 in
theorem w_X7_drift_16 {p : Program} {l : Launch} {e : Env} {s : State} {m : MethodId} {args : Array Value} {below : List Frame} {meth : Method} {c : Code} {D : va_G} {cI cZ : ClassId} {ad : Nat → Nat} (C : pv_C p s m args meth c cX7_drift 3 RX7 D cI cZ ad (pv_A ad)) (hr : meth.sig.returnType = some .int) (R0 : (Int32 × pv_S)) : ∀ (n : Nat) (v1 : Int32) (v2 : Int32) (σ : pv_S), f_X7_drift_16 n v1 v2 σ = some R0 → Wx p l e r_X7_drift s m args below meth c 0 0 (MQ below (pv_QI D cI cZ ad R0) args s 0 0 (pv_A ad)) 3 D cI cZ ad (pv_A ad) 16 [(0, .ref (ad 0)), (1, .int v1), (2, .int v2)] [] σ := by
  intro n
  induction n with
  | zero =>
    intro v1 v2 σ h
    have h2 : (none : Option (Int32 × pv_S)) = some R0 := h
    cases h2
  | succ n ih =>
    intro v1 v2 σ h
    unfold f_X7_drift_16 at h
    refine x_iload_n C dX7_drift_16 rfl 2 rfl ?_
    refine x_iload_n C dX7_drift_17 rfl 1 rfl ?_
    refine x_icmp_ge C 52 dX7_drift_18 (by decide) (fun c1 => ?_) (fun c1 => ?_)
    · have h := (if_pos c1).symm.trans h
      refine x_sub [0] rfl ?_
      exact w_X7_drift_52 C hr R0 σ h
    · have h := (if_neg c1).symm.trans h
      refine x_aload_n C dX7_drift_21 rfl 0 rfl ?_
      refine xg_X7_10 C dX7_drift_22 ?_
      obtain ⟨q2, eq2, h⟩ := gb_some h
      refine x_vi (st := []) C kY_X6_isFull 1 6 rfl rfl rfl (m_X6_isFull l D cI cZ ad C.2.2.2.2.2.2.1 σ q2 eq2) kl_X7_178 ⟨rfl, rfl⟩ ⟨Nat.le_of_ble_eq_true rfl, Nat.le_of_ble_eq_true rfl⟩ ⟨Nat.zero_le _, Nat.zero_le _⟩ rfl rfl (Nat.le_of_ble_eq_true rfl) dX7_drift_25 ?_
      refine x_if_ne C 52 dX7_drift_28 (by decide) (fun c3 => ?_) (fun c3 => ?_)
      · have h := (if_neg c3).symm.trans h
        refine x_sub [0] rfl ?_
        exact w_X7_drift_52 C hr R0 q2.2 h
      · have h := (if_pos c3).symm.trans h
        refine x_aload_n C dX7_drift_31 rfl 0 rfl ?_
        refine xg_X7_35 C dX7_drift_32 ?_
        refine x_aload_n C dX7_drift_35 rfl 0 rfl ?_
        refine xg_X7_10 C dX7_drift_36 ?_
        obtain ⟨q4, eq4, h⟩ := gb_some h
        refine x_vv (st := []) C kY_X2_record 4 2 rfl rfl rfl (m_X2_record l D cI cZ ad C.2.2.2.2.2.2.1 q2.2 q4 eq4) kl_X7_183 ⟨rfl, rfl⟩ ⟨Nat.le_of_ble_eq_true rfl, Nat.le_of_ble_eq_true rfl⟩ ⟨Nat.zero_le _, Nat.zero_le _⟩ rfl rfl (Nat.le_of_ble_eq_true rfl) dX7_drift_39 ?_
        refine x_aload_n C dX7_drift_42 rfl 0 rfl ?_
        obtain ⟨q5, eq5, h⟩ := gb_some h
        refine x_vv (st := []) C kY_X7_bringDrawn 0 7 rfl rfl rfl (m_X7_bringDrawn l D cI cZ ad C.2.2.2.2.2.2.1 q4 q5 eq5) kl_X7_217 ⟨rfl, rfl⟩ ⟨Nat.le_of_ble_eq_true rfl, Nat.le_of_ble_eq_true rfl⟩ ⟨Nat.zero_le _, Nat.zero_le _⟩ rfl rfl (Nat.le_of_ble_eq_true rfl) dX7_drift_43 ?_
        refine x_iinc (v := (v2 + 1)) (lv' := [(2, .int (v2 + 1)), (0, .ref (ad 0)), (1, .int v1)]) C 2 dX7_drift_46 rfl rfl (by decide) rfl ?_
        refine x_goto C 16 dX7_drift_49 (by decide) ?_
        refine x_sub [1, 2, 0] rfl ?_
        exact ih v1 (v2 + 1) q5 h
set_option maxRecDepth 100000 in
set_option maxHeartbeats 4000000 in
theorem w_X7_drift_0 {p : Program} {l : Launch} {e : Env} {s : State} {m : MethodId} {args : Array Value} {below : List Frame} {meth : Method} {c : Code} {D : va_G} {cI cZ : ClassId} {ad : Nat → Nat} (C : pv_C p s m args meth c cX7_drift 3 RX7 D cI cZ ad (pv_A ad)) (hr : meth.sig.returnType = some .int) (R0 : (Int32 × pv_S)) (p0 : Int32) (σ : pv_S) (h : f_X7_drift p0 σ = some R0) : Wx p l e r_X7_drift s m args below meth c 0 0 (MQ below (pv_QI D cI cZ ad R0) args s 0 0 (pv_A ad)) 3 D cI cZ ad (pv_A ad) 0 [(0, .ref (ad 0)), (1, .int p0)] [] σ := by
  unfold f_X7_drift at h
  refine x_iload_n C dX7_drift_0 rfl 1 rfl ?_
  refine x_iconst (v := 1) C dX7_drift_1 (by decide) ?_
  refine x_icmp_lt C 11 dX7_drift_2 (by decide) (fun c1 => ?_) (fun c1 => ?_)
  · have h := (if_pos c1).symm.trans h
    refine x_ldc C kc_X7_107 dX7_drift_11 ?_
    exact x_iret C hr dX7_drift_13 (Option.some.inj h)
  · have h := (if_neg c1).symm.trans h
    refine x_iload_n C dX7_drift_5 rfl 1 rfl ?_
    refine x_bipush (v := 10) C dX7_drift_6 (by decide) ?_
    refine x_icmp_le C 14 dX7_drift_8 (by decide) (fun c2 => ?_) (fun c2 => ?_)
    · have h := (if_pos c2).symm.trans h
      refine x_iconst (v := 0) C dX7_drift_14 (by decide) ?_
      refine x_istore_n (lv' := [(2, .int 0), (0, .ref (ad 0)), (1, .int p0)]) C dX7_drift_15 rfl (by decide) rfl ?_
      refine x_sub [1, 2, 0] rfl ?_
      exact w_X7_drift_16 C hr R0 pv_FU p0 0 σ h
    · have h := (if_neg c2).symm.trans h
      refine x_ldc C kc_X7_107 dX7_drift_11 ?_
      exact x_iret C hr dX7_drift_13 (Option.some.inj h)
theorem m_X7_drift (l : Launch) (D : va_G) (cI cZ : ClassId) (ad : Nat → Nat) (hJ : pv_J ad) (p0 : Int32) (σ : pv_S) (R0 : (Int32 × pv_S)) (h : f_X7_drift p0 σ = some R0) : Met l yX7_drift (Cond.code yX7_drift cX7_drift 3 (some .int) :: lwG) r_X7_drift (va_Pc [.ref (ad 0), .int p0] (pv_P D cI cZ ad σ)) (pv_QI D cI cZ ad R0) 0 0 (pv_A ad) := x_met (by decide) rfl hJ (Nat.le_of_ble_eq_true rfl) (fun p e s m args below meth c C hr => w_X7_drift_0 C hr R0 p0 σ h)
abbrev r_X6_copyFrom_16 : Room := { frames := 1, cells := 0, slots := 0, locals := 26 }
set_option maxRecDepth 100000 in
set_option maxHeartbeats 4000000 in
theorem w_X6_copyFrom_16_0 {p : Program} {l : Launch} {e : Env} {s : State} {m : MethodId} {args : Array Value} {below : List Frame} {meth : Method} {c : Code} {D : va_G} {cI cZ : ClassId} {ad : Nat → Nat} (C : pv_C p s m args meth c cX6_copyFrom 3 RX6 D cI cZ ad (pv_A ad)) (hr : meth.sig.returnType = none) (R0 : pv_S) (p1 : Int32) (σ : pv_S) (h : f_X6_copyFrom_16 p1 σ = some R0) : Wx p l e r_X6_copyFrom_16 s m args below meth c 0 0 (MQ below (pv_QV D cI cZ ad R0) args s 0 0 (pv_A ad)) 3 D cI cZ ad (pv_A ad) 0 [(0, .ref (ad 1)), (1, .ref (ad 16)), (2, .int p1)] [] σ := by
  unfold f_X6_copyFrom_16 at h
  refine x_aload_n C dX6_copyFrom_0 rfl 1 rfl ?_
  refine x_iload_n C dX6_copyFrom_1 rfl 2 rfl ?_
  obtain ⟨q1, eq1, h⟩ := gb_some h
  refine x_si (st := []) C kY_X6_fitsOn (m_X6_fitsOn_16 l D cI cZ ad C.2.2.2.2.2.2.1 p1 σ q1 eq1) kl_X6_83 ⟨rfl, rfl⟩ ⟨Nat.le_of_ble_eq_true rfl, Nat.le_of_ble_eq_true rfl⟩ ⟨Nat.zero_le _, Nat.zero_le _⟩ rfl rfl (Nat.le_of_ble_eq_true rfl) dX6_copyFrom_2 ?_
  refine x_if_ne C 9 dX6_copyFrom_5 (by decide) (fun c2 => ?_) (fun c2 => ?_)
  · have h := (if_neg c2).symm.trans h
    refine x_aload_n C dX6_copyFrom_9 rfl 1 rfl ?_
    refine x_iload_n C dX6_copyFrom_10 rfl 2 rfl ?_
    refine x_bipush (v := 46) C dX6_copyFrom_11 (by decide) ?_
    refine x_imul C dX6_copyFrom_13 ?_
    refine x_aload_n C dX6_copyFrom_14 rfl 0 rfl ?_
    refine xg_X6_11 C dX6_copyFrom_15 ?_
    refine x_iconst (v := 0) C dX6_copyFrom_18 (by decide) ?_
    refine x_bipush (v := 46) C dX6_copyFrom_19 (by decide) ?_
    obtain ⟨g3, h⟩ := gc_some h
    refine x_copy (σ' := (pv_cp q1.2 7 0 (p1 * 46) 0 46)) C 16 9 rfl rfl kl_X6_18 kA_nat kA_stat kA_init g3 ⟨Nat.le_of_ble_eq_true rfl, Nat.le_of_ble_eq_true rfl⟩ rfl dX6_copyFrom_21 ?_
    refine x_aload_n C dX6_copyFrom_24 rfl 0 rfl ?_
    refine x_dup C dX6_copyFrom_25 rfl ?_
    refine xg_X6_27 C dX6_copyFrom_26 ?_
    refine x_iconst (v := 1) C dX6_copyFrom_29 (by decide) ?_
    refine x_iadd C dX6_copyFrom_30 ?_
    refine xp_X6_27 C dX6_copyFrom_31 ?_
    exact x_vret C hr dX6_copyFrom_34 (Option.some.inj h)
  · have h := (if_pos c2).symm.trans h
    exact x_vret C hr dX6_copyFrom_8 (Option.some.inj h)
theorem m_X6_copyFrom_16 (l : Launch) (D : va_G) (cI cZ : ClassId) (ad : Nat → Nat) (hJ : pv_J ad) (p1 : Int32) (σ : pv_S) (R0 : pv_S) (h : f_X6_copyFrom_16 p1 σ = some R0) : Met l yX6_copyFrom (Cond.code yX6_copyFrom cX6_copyFrom 3 (none) :: lwG) r_X6_copyFrom_16 (va_Pc [.ref (ad 1), .ref (ad 16), .int p1] (pv_P D cI cZ ad σ)) (pv_QV D cI cZ ad R0) 0 0 (pv_A ad) := x_met (by decide) rfl hJ (Nat.le_of_ble_eq_true rfl) (fun p e s m args below meth c C hr => w_X6_copyFrom_16_0 C hr R0 p1 σ h)
