abbrev r_X8_keep : Room := { frames := 1, cells := 0, slots := 0, locals := 25 }
set_option maxRecDepth 100000 in
set_option maxHeartbeats 4000000 in
theorem w_X8_keep_0 {p : Program} {l : Launch} {e : Env} {s : State} {m : MethodId} {args : Array Value} {below : List Frame} {meth : Method} {c : Code} {D : va_G} {cI cZ : ClassId} {ad : Nat → Nat} (C : pv_C p s m args meth c cX8_keep 2 RX8 D cI cZ ad (pv_A ad)) (hr : meth.sig.returnType = some .int) (R0 : (Int32 × pv_S)) (p0 : Int32) (σ : pv_S) (h : f_X8_keep p0 σ = some R0) : Wx p l e r_X8_keep s m args below meth c 0 0 (MQ below (pv_QI D cI cZ ad R0) args s 0 0 (pv_A ad)) 2 D cI cZ ad (pv_A ad) 0 [(0, .ref (ad 8)), (1, .int p0)] [] σ := by
  unfold f_X8_keep at h
  refine x_iload_n C dX8_keep_0 rfl 1 rfl ?_
  refine x_i2l C dX8_keep_1 ?_
  refine x_lconst (v := 0) C dX8_keep_2 (by decide) ?_
  refine x_lconst (v := 1) C dX8_keep_3 (by decide) ?_
  obtain ⟨q1, eq1, h⟩ := gb_some h
  refine x_si (st := []) C kY_X8_in (m_X8_in l D cI cZ ad C.2.2.2.2.2.2.1 p0.toInt64 0 1 σ q1 eq1) kl_X8_40 ⟨rfl, rfl⟩ ⟨Nat.le_of_ble_eq_true rfl, Nat.le_of_ble_eq_true rfl⟩ ⟨Nat.zero_le _, Nat.zero_le _⟩ rfl rfl (Nat.le_of_ble_eq_true rfl) dX8_keep_4 ?_
  refine x_if_ne C 13 dX8_keep_7 (by decide) (fun c2 => ?_) (fun c2 => ?_)
  · have h := (if_neg c2).symm.trans h
    refine x_aload_n C dX8_keep_13 rfl 0 rfl ?_
    refine x_iconst (v := 0) C dX8_keep_14 (by decide) ?_
    refine x_sipush (v := 782) C dX8_keep_15 (by decide) ?_
    refine x_bipush (v := 46) C dX8_keep_18 (by decide) ?_
    refine x_iload_n C dX8_keep_20 rfl 1 rfl ?_
    refine x_imul C dX8_keep_21 ?_
    refine x_iadd C dX8_keep_22 ?_
    obtain ⟨q3, eq3, h⟩ := gb_some h
    refine x_vv (st := []) C kY_X8_copyRow 8 8 rfl rfl rfl (m_X8_copyRow l D cI cZ ad C.2.2.2.2.2.2.1 0 (782 + (46 * p0)) q1.2 q3 eq3) kl_X8_28 ⟨rfl, rfl⟩ ⟨Nat.le_of_ble_eq_true rfl, Nat.le_of_ble_eq_true rfl⟩ ⟨Nat.zero_le _, Nat.zero_le _⟩ rfl rfl (Nat.le_of_ble_eq_true rfl) dX8_keep_23 ?_
    refine x_aload_n C dX8_keep_26 rfl 0 rfl ?_
    refine xg_X8_13 C dX8_keep_27 ?_
    refine x_iload_n C dX8_keep_30 rfl 1 rfl ?_
    refine x_aload_n C dX8_keep_31 rfl 0 rfl ?_
    refine xg_X8_88 C dX8_keep_32 ?_
    obtain ⟨g4, h⟩ := gd_some h
    refine xs_14 C g4 dX8_keep_35 ?_
    refine x_aload_n C dX8_keep_36 rfl 0 rfl ?_
    refine x_dup C dX8_keep_37 rfl ?_
    refine xg_X8_183 C dX8_keep_38 ?_
    refine x_iconst (v := 1) C dX8_keep_41 (by decide) ?_
    refine x_iload_n C dX8_keep_42 rfl 1 rfl ?_
    refine x_ishl C dX8_keep_43 ?_
    refine x_ior C dX8_keep_44 ?_
    refine xp_X8_183 C dX8_keep_45 ?_
    refine x_aload_n C dX8_keep_48 rfl 0 rfl ?_
    refine x_iconst (v := 0) C dX8_keep_49 (by decide) ?_
    refine xp_X8_32 C dX8_keep_50 ?_
    refine x_iconst (v := 1) C dX8_keep_53 (by decide) ?_
    exact x_iret C hr dX8_keep_54 (Option.some.inj h)
  · have h := (if_pos c2).symm.trans h
    refine x_ldc C kc_X8_111 dX8_keep_10 ?_
    exact x_iret C hr dX8_keep_12 (Option.some.inj h)
theorem m_X8_keep (l : Launch) (D : va_G) (cI cZ : ClassId) (ad : Nat → Nat) (hJ : pv_J ad) (p0 : Int32) (σ : pv_S) (R0 : (Int32 × pv_S)) (h : f_X8_keep p0 σ = some R0) : Met l yX8_keep (Cond.code yX8_keep cX8_keep 2 (some .int) :: lwG) r_X8_keep (va_Pc [.ref (ad 8), .int p0] (pv_P D cI cZ ad σ)) (pv_QI D cI cZ ad R0) 0 0 (pv_A ad) := x_met (by decide) rfl hJ (Nat.le_of_ble_eq_true rfl) (fun p e s m args below meth c C hr => w_X8_keep_0 C hr R0 p0 σ h)
abbrev r_X8_goBack : Room := { frames := 1, cells := 0, slots := 0, locals := 25 }
set_option maxRecDepth 100000 in
set_option maxHeartbeats 4000000 in
theorem w_X8_goBack_0 {p : Program} {l : Launch} {e : Env} {s : State} {m : MethodId} {args : Array Value} {below : List Frame} {meth : Method} {c : Code} {D : va_G} {cI cZ : ClassId} {ad : Nat → Nat} (C : pv_C p s m args meth c cX8_goBack 2 RX8 D cI cZ ad (pv_A ad)) (hr : meth.sig.returnType = some .int) (R0 : (Int32 × pv_S)) (p0 : Int32) (σ : pv_S) (h : f_X8_goBack p0 σ = some R0) : Wx p l e r_X8_goBack s m args below meth c 0 0 (MQ below (pv_QI D cI cZ ad R0) args s 0 0 (pv_A ad)) 2 D cI cZ ad (pv_A ad) 0 [(0, .ref (ad 8)), (1, .int p0)] [] σ := by
  unfold f_X8_goBack at h
  refine x_iload_n C dX8_goBack_0 rfl 1 rfl ?_
  refine x_i2l C dX8_goBack_1 ?_
  refine x_lconst (v := 0) C dX8_goBack_2 (by decide) ?_
  refine x_lconst (v := 1) C dX8_goBack_3 (by decide) ?_
  obtain ⟨q1, eq1, h⟩ := gb_some h
  refine x_si (st := []) C kY_X8_in (m_X8_in l D cI cZ ad C.2.2.2.2.2.2.1 p0.toInt64 0 1 σ q1 eq1) kl_X8_40 ⟨rfl, rfl⟩ ⟨Nat.le_of_ble_eq_true rfl, Nat.le_of_ble_eq_true rfl⟩ ⟨Nat.zero_le _, Nat.zero_le _⟩ rfl rfl (Nat.le_of_ble_eq_true rfl) dX8_goBack_4 ?_
  refine x_if_ne C 13 dX8_goBack_7 (by decide) (fun c2 => ?_) (fun c2 => ?_)
  · have h := (if_neg c2).symm.trans h
    refine x_aload_n C dX8_goBack_13 rfl 0 rfl ?_
    refine xg_X8_183 C dX8_goBack_14 ?_
    refine x_iload_n C dX8_goBack_17 rfl 1 rfl ?_
    refine x_ishr C dX8_goBack_18 ?_
    refine x_iconst (v := 1) C dX8_goBack_19 (by decide) ?_
    refine x_iand C dX8_goBack_20 ?_
    refine x_if_ne C 27 dX8_goBack_21 (by decide) (fun c3 => ?_) (fun c3 => ?_)
    · have h := (if_neg c3).symm.trans h
      refine x_aload_n C dX8_goBack_27 rfl 0 rfl ?_
      refine x_sipush (v := 782) C dX8_goBack_28 (by decide) ?_
      refine x_bipush (v := 46) C dX8_goBack_31 (by decide) ?_
      refine x_iload_n C dX8_goBack_33 rfl 1 rfl ?_
      refine x_imul C dX8_goBack_34 ?_
      refine x_iadd C dX8_goBack_35 ?_
      refine x_iconst (v := 0) C dX8_goBack_36 (by decide) ?_
      obtain ⟨q4, eq4, h⟩ := gb_some h
      refine x_vv (st := []) C kY_X8_copyRow 8 8 rfl rfl rfl (m_X8_copyRow l D cI cZ ad C.2.2.2.2.2.2.1 (782 + (46 * p0)) 0 q1.2 q4 eq4) kl_X8_28 ⟨rfl, rfl⟩ ⟨Nat.le_of_ble_eq_true rfl, Nat.le_of_ble_eq_true rfl⟩ ⟨Nat.zero_le _, Nat.zero_le _⟩ rfl rfl (Nat.le_of_ble_eq_true rfl) dX8_goBack_37 ?_
      refine x_aload_n C dX8_goBack_40 rfl 0 rfl ?_
      refine x_aload_n C dX8_goBack_41 rfl 0 rfl ?_
      refine xg_X8_13 C dX8_goBack_42 ?_
      refine x_iload_n C dX8_goBack_45 rfl 1 rfl ?_
      obtain ⟨g5, h⟩ := gd_some h
      refine xl_14 C g5 dX8_goBack_46 ?_
      refine xp_X8_88 C dX8_goBack_47 ?_
      refine x_aload_n C dX8_goBack_50 rfl 0 rfl ?_
      refine x_iconst (v := 0) C dX8_goBack_51 (by decide) ?_
      refine xp_X8_32 C dX8_goBack_52 ?_
      refine x_iconst (v := 1) C dX8_goBack_55 (by decide) ?_
      exact x_iret C hr dX8_goBack_56 (Option.some.inj h)
    · have h := (if_pos c3).symm.trans h
      refine x_ldc C kc_X8_123 dX8_goBack_24 ?_
      exact x_iret C hr dX8_goBack_26 (Option.some.inj h)
  · have h := (if_pos c2).symm.trans h
    refine x_ldc C kc_X8_111 dX8_goBack_10 ?_
    exact x_iret C hr dX8_goBack_12 (Option.some.inj h)
theorem m_X8_goBack (l : Launch) (D : va_G) (cI cZ : ClassId) (ad : Nat → Nat) (hJ : pv_J ad) (p0 : Int32) (σ : pv_S) (R0 : (Int32 × pv_S)) (h : f_X8_goBack p0 σ = some R0) : Met l yX8_goBack (Cond.code yX8_goBack cX8_goBack 2 (some .int) :: lwG) r_X8_goBack (va_Pc [.ref (ad 8), .int p0] (pv_P D cI cZ ad σ)) (pv_QI D cI cZ ad R0) 0 0 (pv_A ad) := x_met (by decide) rfl hJ (Nat.le_of_ble_eq_true rfl) (fun p e s m args below meth c C hr => w_X8_goBack_0 C hr R0 p0 σ h)
