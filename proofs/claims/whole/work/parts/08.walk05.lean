abbrev r_X2_giveBack : Room := { frames := 2, cells := 0, slots := 0, locals := 48 }
set_option maxRecDepth 100000 in
set_option maxHeartbeats 4000000 in
theorem w_X2_giveBack_0 {p : Program} {l : Launch} {e : Env} {s : State} {m : MethodId} {args : Array Value} {below : List Frame} {meth : Method} {c : Code} {D : va_G} {cI cZ : ClassId} {ad : Nat → Nat} (C : pv_C p s m args meth c cX2_giveBack 3 RX2 D cI cZ ad (pv_A ad)) (hr : meth.sig.returnType = none) (R0 : pv_S) (p0 : Int32) (σ : pv_S) (h : f_X2_giveBack p0 σ = some R0) : Wx p l e r_X2_giveBack s m args below meth c 0 0 (MQ below (pv_QV D cI cZ ad R0) args s 0 0 (pv_A ad)) 3 D cI cZ ad (pv_A ad) 0 [(0, .ref (ad 4)), (1, .int p0), (2, .ref (ad 1))] [] σ := by
  unfold f_X2_giveBack at h
  refine x_iload_n C dX2_giveBack_0 rfl 1 rfl ?_
  refine x_iconst (v := 1) C dX2_giveBack_1 (by decide) ?_
  refine x_icmp_lt C 13 dX2_giveBack_2 (by decide) (fun c1 => ?_) (fun c1 => ?_)
  · have h := (if_pos c1).symm.trans h
    exact x_vret C hr dX2_giveBack_13 (Option.some.inj h)
  · have h := (if_neg c1).symm.trans h
    refine x_iload_n C dX2_giveBack_5 rfl 1 rfl ?_
    refine x_aload_n C dX2_giveBack_6 rfl 0 rfl ?_
    refine xg_X2_15 C dX2_giveBack_7 ?_
    refine x_icmp_le C 14 dX2_giveBack_10 (by decide) (fun c2 => ?_) (fun c2 => ?_)
    · have h := (if_pos c2).symm.trans h
      refine x_aload_n C dX2_giveBack_14 rfl 0 rfl ?_
      refine x_aload_n C dX2_giveBack_15 rfl 0 rfl ?_
      refine xg_X2_19 C dX2_giveBack_16 ?_
      refine x_bipush (v := 16) C dX2_giveBack_19 (by decide) ?_
      refine x_iadd C dX2_giveBack_21 ?_
      refine x_iload_n C dX2_giveBack_22 rfl 1 rfl ?_
      refine x_isub C dX2_giveBack_23 ?_
      refine x_bipush (v := 16) C dX2_giveBack_24 (by decide) ?_
      refine x_irem C dX2_giveBack_26 (by decide) ?_
      refine xp_X2_19 C dX2_giveBack_27 ?_
      refine x_aload_n C dX2_giveBack_30 rfl 0 rfl ?_
      refine x_dup C dX2_giveBack_31 rfl ?_
      refine xg_X2_15 C dX2_giveBack_32 ?_
      refine x_iload_n C dX2_giveBack_35 rfl 1 rfl ?_
      refine x_isub C dX2_giveBack_36 ?_
      refine xp_X2_15 C dX2_giveBack_37 ?_
      refine x_aload_n C dX2_giveBack_40 rfl 2 rfl ?_
      refine x_aload_n C dX2_giveBack_41 rfl 0 rfl ?_
      refine xg_X2_11 C dX2_giveBack_42 ?_
      refine x_aload_n C dX2_giveBack_45 rfl 0 rfl ?_
      refine xg_X2_19 C dX2_giveBack_46 ?_
      obtain ⟨q3, eq3, h⟩ := gb_some h
      refine x_vv (st := []) C kY_X6_copyFrom 1 6 rfl rfl rfl (m_X6_copyFrom_16 l D cI cZ ad C.2.2.2.2.2.2.1 ((pv_pi (pv_pi σ 6 ((((σ.1 6) + 16) - p0) - (((σ.1 6) + 16) - p0) / 16 * 16)) 7 (((pv_pi σ 6 ((((σ.1 6) + 16) - p0) - (((σ.1 6) + 16) - p0) / 16 * 16)).1 7) - p0)).1 6) (pv_pi (pv_pi σ 6 ((((σ.1 6) + 16) - p0) - (((σ.1 6) + 16) - p0) / 16 * 16)) 7 (((pv_pi σ 6 ((((σ.1 6) + 16) - p0) - (((σ.1 6) + 16) - p0) / 16 * 16)).1 7) - p0)) q3 eq3) kl_X2_32 ⟨rfl, rfl⟩ ⟨Nat.le_of_ble_eq_true rfl, Nat.le_of_ble_eq_true rfl⟩ ⟨Nat.zero_le _, Nat.zero_le _⟩ rfl rfl (Nat.le_of_ble_eq_true rfl) dX2_giveBack_49 ?_
      exact x_vret C hr dX2_giveBack_52 (Option.some.inj h)
    · have h := (if_neg c2).symm.trans h
      exact x_vret C hr dX2_giveBack_13 (Option.some.inj h)
theorem m_X2_giveBack (l : Launch) (D : va_G) (cI cZ : ClassId) (ad : Nat → Nat) (hJ : pv_J ad) (p0 : Int32) (σ : pv_S) (R0 : pv_S) (h : f_X2_giveBack p0 σ = some R0) : Met l yX2_giveBack (Cond.code yX2_giveBack cX2_giveBack 3 (none) :: lwG) r_X2_giveBack (va_Pc [.ref (ad 4), .int p0, .ref (ad 1)] (pv_P D cI cZ ad σ)) (pv_QV D cI cZ ad R0) 0 0 (pv_A ad) := x_met (by decide) rfl hJ (Nat.le_of_ble_eq_true rfl) (fun p e s m args below meth c C hr => w_X2_giveBack_0 C hr R0 p0 σ h)
abbrev r_X7_undo : Room := { frames := 3, cells := 0, slots := 0, locals := 70 }
set_option maxRecDepth 100000 in
set_option maxHeartbeats 4000000 in
theorem w_X7_undo_0 {p : Program} {l : Launch} {e : Env} {s : State} {m : MethodId} {args : Array Value} {below : List Frame} {meth : Method} {c : Code} {D : va_G} {cI cZ : ClassId} {ad : Nat → Nat} (C : pv_C p s m args meth c cX7_undo 2 RX7 D cI cZ ad (pv_A ad)) (hr : meth.sig.returnType = some .int) (R0 : (Int32 × pv_S)) (p0 : Int32) (σ : pv_S) (h : f_X7_undo p0 σ = some R0) : Wx p l e r_X7_undo s m args below meth c 0 0 (MQ below (pv_QI D cI cZ ad R0) args s 0 0 (pv_A ad)) 2 D cI cZ ad (pv_A ad) 0 [(0, .ref (ad 0)), (1, .int p0)] [] σ := by
  unfold f_X7_undo at h
  refine x_iload_n C dX7_undo_0 rfl 1 rfl ?_
  refine x_iconst (v := 1) C dX7_undo_1 (by decide) ?_
  refine x_icmp_lt C 11 dX7_undo_2 (by decide) (fun c1 => ?_) (fun c1 => ?_)
  · have h := (if_pos c1).symm.trans h
    refine x_ldc C kc_X7_107 dX7_undo_11 ?_
    exact x_iret C hr dX7_undo_13 (Option.some.inj h)
  · have h := (if_neg c1).symm.trans h
    refine x_iload_n C dX7_undo_5 rfl 1 rfl ?_
    refine x_bipush (v := 16) C dX7_undo_6 (by decide) ?_
    refine x_icmp_le C 14 dX7_undo_8 (by decide) (fun c2 => ?_) (fun c2 => ?_)
    · have h := (if_pos c2).symm.trans h
      refine x_iload_n C dX7_undo_14 rfl 1 rfl ?_
      refine x_aload_n C dX7_undo_15 rfl 0 rfl ?_
      refine xg_X7_35 C dX7_undo_16 ?_
      obtain ⟨q3, eq3, h⟩ := gb_some h
      refine x_vi (st := [.int p0]) C kY_X2_held 4 2 rfl rfl rfl (m_X2_held l D cI cZ ad C.2.2.2.2.2.2.1 σ q3 eq3) kl_X7_101 ⟨rfl, rfl⟩ ⟨Nat.le_of_ble_eq_true rfl, Nat.le_of_ble_eq_true rfl⟩ ⟨Nat.zero_le _, Nat.zero_le _⟩ rfl rfl (Nat.le_of_ble_eq_true rfl) dX7_undo_19 ?_
      refine x_icmp_le C 28 dX7_undo_22 (by decide) (fun c4 => ?_) (fun c4 => ?_)
      · have h := (if_pos c4).symm.trans h
        refine x_aload_n C dX7_undo_28 rfl 0 rfl ?_
        refine xg_X7_35 C dX7_undo_29 ?_
        refine x_iload_n C dX7_undo_32 rfl 1 rfl ?_
        refine x_aload_n C dX7_undo_33 rfl 0 rfl ?_
        refine xg_X7_10 C dX7_undo_34 ?_
        obtain ⟨q5, eq5, h⟩ := gb_some h
        refine x_vv (st := []) C kY_X2_giveBack 4 2 rfl rfl rfl (m_X2_giveBack l D cI cZ ad C.2.2.2.2.2.2.1 p0 q3.2 q5 eq5) kl_X7_220 ⟨rfl, rfl⟩ ⟨Nat.le_of_ble_eq_true rfl, Nat.le_of_ble_eq_true rfl⟩ ⟨Nat.zero_le _, Nat.zero_le _⟩ rfl rfl (Nat.le_of_ble_eq_true rfl) dX7_undo_37 ?_
        refine x_aload_n C dX7_undo_40 rfl 0 rfl ?_
        refine xg_X7_10 C dX7_undo_41 ?_
        obtain ⟨q6, eq6, h⟩ := gb_some h
        refine x_vi (st := []) C kY_X6_count 1 6 rfl rfl rfl (m_X6_count l D cI cZ ad C.2.2.2.2.2.2.1 q5 q6 eq6) kl_X7_60 ⟨rfl, rfl⟩ ⟨Nat.le_of_ble_eq_true rfl, Nat.le_of_ble_eq_true rfl⟩ ⟨Nat.zero_le _, Nat.zero_le _⟩ rfl rfl (Nat.le_of_ble_eq_true rfl) dX7_undo_44 ?_
        exact x_iret C hr dX7_undo_47 (Option.some.inj h)
      · have h := (if_neg c4).symm.trans h
        refine x_ldc C kc_X7_153 dX7_undo_25 ?_
        exact x_iret C hr dX7_undo_27 (Option.some.inj h)
    · have h := (if_neg c2).symm.trans h
      refine x_ldc C kc_X7_107 dX7_undo_11 ?_
      exact x_iret C hr dX7_undo_13 (Option.some.inj h)
theorem m_X7_undo (l : Launch) (D : va_G) (cI cZ : ClassId) (ad : Nat → Nat) (hJ : pv_J ad) (p0 : Int32) (σ : pv_S) (R0 : (Int32 × pv_S)) (h : f_X7_undo p0 σ = some R0) : Met l yX7_undo (Cond.code yX7_undo cX7_undo 2 (some .int) :: lwG) r_X7_undo (va_Pc [.ref (ad 0), .int p0] (pv_P D cI cZ ad σ)) (pv_QI D cI cZ ad R0) 0 0 (pv_A ad) := x_met (by decide) rfl hJ (Nat.le_of_ble_eq_true rfl) (fun p e s m args below meth c C hr => w_X7_undo_0 C hr R0 p0 σ h)
abbrev r_X0_isFull : Room := { frames := 0, cells := 0, slots := 0, locals := 0 }
set_option maxRecDepth 100000 in
set_option maxHeartbeats 4000000 in
theorem w_X0_isFull_0 {p : Program} {l : Launch} {e : Env} {s : State} {m : MethodId} {args : Array Value} {below : List Frame} {meth : Method} {c : Code} {D : va_G} {cI cZ : ClassId} {ad : Nat → Nat} (C : pv_C p s m args meth c cX0_isFull 1 RX0 D cI cZ ad (pv_A ad)) (hr : meth.sig.returnType = some .boolean) (R0 : (Int32 × pv_S)) (σ : pv_S) (h : f_X0_isFull σ = some R0) : Wx p l e r_X0_isFull s m args below meth c 0 0 (MQ below (pv_QI D cI cZ ad R0) args s 0 0 (pv_A ad)) 1 D cI cZ ad (pv_A ad) 0 [(0, .ref (ad 6))] [] σ := by
  unfold f_X0_isFull at h
  refine x_aload_n C dX0_isFull_0 rfl 0 rfl ?_
  refine xg_X0_18 C dX0_isFull_1 ?_
  refine x_bipush (v := 20) C dX0_isFull_4 (by decide) ?_
  refine x_icmp_lt C 13 dX0_isFull_6 (by decide) (fun c1 => ?_) (fun c1 => ?_)
  · have h := (if_pos c1).symm.trans h
    refine x_iconst (v := 0) C dX0_isFull_13 (by decide) ?_
    exact x_zret C hr rfl dX0_isFull_14 (Option.some.inj h)
  · have h := (if_neg c1).symm.trans h
    refine x_iconst (v := 1) C dX0_isFull_9 (by decide) ?_
    refine x_goto C 14 dX0_isFull_10 (by decide) ?_
    exact x_zret C hr rfl dX0_isFull_14 (Option.some.inj h)
theorem m_X0_isFull (l : Launch) (D : va_G) (cI cZ : ClassId) (ad : Nat → Nat) (hJ : pv_J ad)  (σ : pv_S) (R0 : (Int32 × pv_S)) (h : f_X0_isFull σ = some R0) : Met l yX0_isFull (Cond.code yX0_isFull cX0_isFull 1 (some .boolean) :: lwG) r_X0_isFull (va_Pc [.ref (ad 6)] (pv_P D cI cZ ad σ)) (pv_QI D cI cZ ad R0) 0 0 (pv_A ad) := x_met (by decide) rfl hJ (Nat.le_of_ble_eq_true rfl) (fun p e s m args below meth c C hr => w_X0_isFull_0 C hr R0 σ h)
abbrev r_X0_add : Room := { frames := 1, cells := 0, slots := 0, locals := 20 }
set_option maxRecDepth 100000 in
set_option maxHeartbeats 4000000 in
theorem w_X0_add_0 {p : Program} {l : Launch} {e : Env} {s : State} {m : MethodId} {args : Array Value} {below : List Frame} {meth : Method} {c : Code} {D : va_G} {cI cZ : ClassId} {ad : Nat → Nat} (C : pv_C p s m args meth c cX0_add 3 RX0 D cI cZ ad (pv_A ad)) (hr : meth.sig.returnType = none) (R0 : pv_S) (p0 : Int32) (p1 : Int32) (σ : pv_S) (h : f_X0_add p0 p1 σ = some R0) : Wx p l e r_X0_add s m args below meth c 0 0 (MQ below (pv_QV D cI cZ ad R0) args s 0 0 (pv_A ad)) 3 D cI cZ ad (pv_A ad) 0 [(0, .ref (ad 6)), (1, .int p0), (2, .int p1)] [] σ := by
  unfold f_X0_add at h
  refine x_aload_n C dX0_add_0 rfl 0 rfl ?_
  obtain ⟨q1, eq1, h⟩ := gb_some h
  refine x_vi (st := []) C kY_X0_isFull 6 0 rfl rfl rfl (m_X0_isFull l D cI cZ ad C.2.2.2.2.2.2.1 σ q1 eq1) kl_X0_22 ⟨rfl, rfl⟩ ⟨Nat.le_of_ble_eq_true rfl, Nat.le_of_ble_eq_true rfl⟩ ⟨Nat.zero_le _, Nat.zero_le _⟩ rfl rfl (Nat.le_of_ble_eq_true rfl) dX0_add_1 ?_
  refine x_if_eq C 8 dX0_add_4 (by decide) (fun c2 => ?_) (fun c2 => ?_)
  · have h := (if_pos c2).symm.trans h
    refine x_aload_n C dX0_add_8 rfl 0 rfl ?_
    refine xg_X0_11 C dX0_add_9 ?_
    refine x_aload_n C dX0_add_12 rfl 0 rfl ?_
    refine xg_X0_18 C dX0_add_13 ?_
    refine x_iload_n C dX0_add_16 rfl 1 rfl ?_
    obtain ⟨g3, h⟩ := gd_some h
    refine xs_11 C g3 dX0_add_17 ?_
    refine x_aload_n C dX0_add_18 rfl 0 rfl ?_
    refine xg_X0_15 C dX0_add_19 ?_
    refine x_aload_n C dX0_add_22 rfl 0 rfl ?_
    refine xg_X0_18 C dX0_add_23 ?_
    refine x_iload_n C dX0_add_26 rfl 2 rfl ?_
    obtain ⟨g4, h⟩ := gd_some h
    refine xs_12 C g4 dX0_add_27 ?_
    refine x_aload_n C dX0_add_28 rfl 0 rfl ?_
    refine x_dup C dX0_add_29 rfl ?_
    refine xg_X0_18 C dX0_add_30 ?_
    refine x_iconst (v := 1) C dX0_add_33 (by decide) ?_
    refine x_iadd C dX0_add_34 ?_
    refine xp_X0_18 C dX0_add_35 ?_
    exact x_vret C hr dX0_add_38 (Option.some.inj h)
  · have h := (if_neg c2).symm.trans h
    exact x_vret C hr dX0_add_7 (Option.some.inj h)
theorem m_X0_add (l : Launch) (D : va_G) (cI cZ : ClassId) (ad : Nat → Nat) (hJ : pv_J ad) (p0 : Int32) (p1 : Int32) (σ : pv_S) (R0 : pv_S) (h : f_X0_add p0 p1 σ = some R0) : Met l yX0_add (Cond.code yX0_add cX0_add 3 (none) :: lwG) r_X0_add (va_Pc [.ref (ad 6), .int p0, .int p1] (pv_P D cI cZ ad σ)) (pv_QV D cI cZ ad R0) 0 0 (pv_A ad) := x_met (by decide) rfl hJ (Nat.le_of_ble_eq_true rfl) (fun p e s m args below meth c C hr => w_X0_add_0 C hr R0 p0 p1 σ h)
abbrev r_X7_write : Room := { frames := 2, cells := 0, slots := 0, locals := 42 }
set_option maxRecDepth 100000 in
set_option maxHeartbeats 4000000 in
theorem w_X7_write_0 {p : Program} {l : Launch} {e : Env} {s : State} {m : MethodId} {args : Array Value} {below : List Frame} {meth : Method} {c : Code} {D : va_G} {cI cZ : ClassId} {ad : Nat → Nat} (C : pv_C p s m args meth c cX7_write 3 RX7 D cI cZ ad (pv_A ad)) (hr : meth.sig.returnType = some .int) (R0 : (Int32 × pv_S)) (p0 : Int32) (p1 : Int32) (σ : pv_S) (h : f_X7_write p0 p1 σ = some R0) : Wx p l e r_X7_write s m args below meth c 0 0 (MQ below (pv_QI D cI cZ ad R0) args s 0 0 (pv_A ad)) 3 D cI cZ ad (pv_A ad) 0 [(0, .ref (ad 0)), (1, .int p0), (2, .int p1)] [] σ := by
  unfold f_X7_write at h
  refine x_iload_n C dX7_write_0 rfl 1 rfl ?_
  obtain ⟨q1, eq1, h⟩ := gb_some h
  refine x_si (st := []) C kY_X7_isVoiceCount (m_X7_isVoiceCount l D cI cZ ad C.2.2.2.2.2.2.1 p0 σ q1 eq1) kl_X7_141 ⟨rfl, rfl⟩ ⟨Nat.le_of_ble_eq_true rfl, Nat.le_of_ble_eq_true rfl⟩ ⟨Nat.zero_le _, Nat.zero_le _⟩ rfl rfl (Nat.le_of_ble_eq_true rfl) dX7_write_1 ?_
  refine x_if_ne C 10 dX7_write_4 (by decide) (fun c2 => ?_) (fun c2 => ?_)
  · have h := (if_neg c2).symm.trans h
    refine x_aload_n C dX7_write_10 rfl 0 rfl ?_
    refine xg_X7_49 C dX7_write_11 ?_
    obtain ⟨q3, eq3, h⟩ := gb_some h
    refine x_vi (st := []) C kY_X0_isFull 6 0 rfl rfl rfl (m_X0_isFull l D cI cZ ad C.2.2.2.2.2.2.1 q1.2 q3 eq3) kl_X7_224 ⟨rfl, rfl⟩ ⟨Nat.le_of_ble_eq_true rfl, Nat.le_of_ble_eq_true rfl⟩ ⟨Nat.zero_le _, Nat.zero_le _⟩ rfl rfl (Nat.le_of_ble_eq_true rfl) dX7_write_14 ?_
    refine x_if_eq C 23 dX7_write_17 (by decide) (fun c4 => ?_) (fun c4 => ?_)
    · have h := (if_pos c4).symm.trans h
      refine x_aload_n C dX7_write_23 rfl 0 rfl ?_
      refine xg_X7_49 C dX7_write_24 ?_
      refine x_iload_n C dX7_write_27 rfl 1 rfl ?_
      refine x_iload_n C dX7_write_28 rfl 2 rfl ?_
      obtain ⟨q5, eq5, h⟩ := gb_some h
      refine x_vv (st := []) C kY_X0_add 6 0 rfl rfl rfl (m_X0_add l D cI cZ ad C.2.2.2.2.2.2.1 p0 p1 q3.2 q5 eq5) kl_X7_225 ⟨rfl, rfl⟩ ⟨Nat.le_of_ble_eq_true rfl, Nat.le_of_ble_eq_true rfl⟩ ⟨Nat.zero_le _, Nat.zero_le _⟩ rfl rfl (Nat.le_of_ble_eq_true rfl) dX7_write_29 ?_
      refine x_aload_n C dX7_write_32 rfl 0 rfl ?_
      refine xg_X7_49 C dX7_write_33 ?_
      obtain ⟨q6, eq6, h⟩ := gb_some h
      refine x_vi (st := []) C kY_X0_size 6 0 rfl rfl rfl (m_X0_size l D cI cZ ad C.2.2.2.2.2.2.1 q5 q6 eq6) kl_X7_94 ⟨rfl, rfl⟩ ⟨Nat.le_of_ble_eq_true rfl, Nat.le_of_ble_eq_true rfl⟩ ⟨Nat.zero_le _, Nat.zero_le _⟩ rfl rfl (Nat.le_of_ble_eq_true rfl) dX7_write_36 ?_
      exact x_iret C hr dX7_write_39 (Option.some.inj h)
    · have h := (if_neg c4).symm.trans h
      refine x_ldc C kc_X7_182 dX7_write_20 ?_
      exact x_iret C hr dX7_write_22 (Option.some.inj h)
  · have h := (if_pos c2).symm.trans h
    refine x_ldc C kc_X7_107 dX7_write_7 ?_
    exact x_iret C hr dX7_write_9 (Option.some.inj h)
theorem m_X7_write (l : Launch) (D : va_G) (cI cZ : ClassId) (ad : Nat → Nat) (hJ : pv_J ad) (p0 : Int32) (p1 : Int32) (σ : pv_S) (R0 : (Int32 × pv_S)) (h : f_X7_write p0 p1 σ = some R0) : Met l yX7_write (Cond.code yX7_write cX7_write 3 (some .int) :: lwG) r_X7_write (va_Pc [.ref (ad 0), .int p0, .int p1] (pv_P D cI cZ ad σ)) (pv_QI D cI cZ ad R0) 0 0 (pv_A ad) := x_met (by decide) rfl hJ (Nat.le_of_ble_eq_true rfl) (fun p e s m args below meth c C hr => w_X7_write_0 C hr R0 p0 p1 σ h)
abbrev r_X0_empty : Room := { frames := 0, cells := 0, slots := 0, locals := 0 }
set_option maxRecDepth 100000 in
set_option maxHeartbeats 4000000 in
theorem w_X0_empty_0 {p : Program} {l : Launch} {e : Env} {s : State} {m : MethodId} {args : Array Value} {below : List Frame} {meth : Method} {c : Code} {D : va_G} {cI cZ : ClassId} {ad : Nat → Nat} (C : pv_C p s m args meth c cX0_empty 1 RX0 D cI cZ ad (pv_A ad)) (hr : meth.sig.returnType = none) (R0 : pv_S) (σ : pv_S) (h : f_X0_empty σ = some R0) : Wx p l e r_X0_empty s m args below meth c 0 0 (MQ below (pv_QV D cI cZ ad R0) args s 0 0 (pv_A ad)) 1 D cI cZ ad (pv_A ad) 0 [(0, .ref (ad 6))] [] σ := by
  unfold f_X0_empty at h
  refine x_aload_n C dX0_empty_0 rfl 0 rfl ?_
  refine x_iconst (v := 0) C dX0_empty_1 (by decide) ?_
  refine xp_X0_18 C dX0_empty_2 ?_
  exact x_vret C hr dX0_empty_5 (Option.some.inj h)
theorem m_X0_empty (l : Launch) (D : va_G) (cI cZ : ClassId) (ad : Nat → Nat) (hJ : pv_J ad)  (σ : pv_S) (R0 : pv_S) (h : f_X0_empty σ = some R0) : Met l yX0_empty (Cond.code yX0_empty cX0_empty 1 (none) :: lwG) r_X0_empty (va_Pc [.ref (ad 6)] (pv_P D cI cZ ad σ)) (pv_QV D cI cZ ad R0) 0 0 (pv_A ad) := x_met (by decide) rfl hJ (Nat.le_of_ble_eq_true rfl) (fun p e s m args below meth c C hr => w_X0_empty_0 C hr R0 σ h)
abbrev r_X7_tear : Room := { frames := 1, cells := 0, slots := 0, locals := 20 }
set_option maxRecDepth 100000 in
set_option maxHeartbeats 4000000 in
theorem w_X7_tear_0 {p : Program} {l : Launch} {e : Env} {s : State} {m : MethodId} {args : Array Value} {below : List Frame} {meth : Method} {c : Code} {D : va_G} {cI cZ : ClassId} {ad : Nat → Nat} (C : pv_C p s m args meth c cX7_tear 2 RX7 D cI cZ ad (pv_A ad)) (hr : meth.sig.returnType = some .int) (R0 : (Int32 × pv_S)) (σ : pv_S) (h : f_X7_tear σ = some R0) : Wx p l e r_X7_tear s m args below meth c 0 0 (MQ below (pv_QI D cI cZ ad R0) args s 0 0 (pv_A ad)) 2 D cI cZ ad (pv_A ad) 0 [(0, .ref (ad 0))] [] σ := by
  unfold f_X7_tear at h
  refine x_aload_n C dX7_tear_0 rfl 0 rfl ?_
  refine xg_X7_49 C dX7_tear_1 ?_
  obtain ⟨q1, eq1, h⟩ := gb_some h
  refine x_vi (st := []) C kY_X0_size 6 0 rfl rfl rfl (m_X0_size l D cI cZ ad C.2.2.2.2.2.2.1 σ q1 eq1) kl_X7_94 ⟨rfl, rfl⟩ ⟨Nat.le_of_ble_eq_true rfl, Nat.le_of_ble_eq_true rfl⟩ ⟨Nat.zero_le _, Nat.zero_le _⟩ rfl rfl (Nat.le_of_ble_eq_true rfl) dX7_tear_4 ?_
  refine x_istore_n (lv' := [(1, .int q1.1), (0, .ref (ad 0))]) C dX7_tear_7 rfl (by decide) rfl ?_
  refine x_aload_n C dX7_tear_8 rfl 1 rfl ?_
  refine xg_X7_49 C dX7_tear_9 ?_
  obtain ⟨q2, eq2, h⟩ := gb_some h
  refine x_vv (st := []) C kY_X0_empty 6 0 rfl rfl rfl (m_X0_empty l D cI cZ ad C.2.2.2.2.2.2.1 q1.2 q2 eq2) kl_X7_228 ⟨rfl, rfl⟩ ⟨Nat.le_of_ble_eq_true rfl, Nat.le_of_ble_eq_true rfl⟩ ⟨Nat.zero_le _, Nat.zero_le _⟩ rfl rfl (Nat.le_of_ble_eq_true rfl) dX7_tear_12 ?_
  refine x_iload_n C dX7_tear_15 rfl 0 rfl ?_
  exact x_iret C hr dX7_tear_16 (Option.some.inj h)
theorem m_X7_tear (l : Launch) (D : va_G) (cI cZ : ClassId) (ad : Nat → Nat) (hJ : pv_J ad)  (σ : pv_S) (R0 : (Int32 × pv_S)) (h : f_X7_tear σ = some R0) : Met l yX7_tear (Cond.code yX7_tear cX7_tear 2 (some .int) :: lwG) r_X7_tear (va_Pc [.ref (ad 0)] (pv_P D cI cZ ad σ)) (pv_QI D cI cZ ad R0) 0 0 (pv_A ad) := x_met (by decide) rfl hJ (Nat.le_of_ble_eq_true rfl) (fun p e s m args below meth c C hr => w_X7_tear_0 C hr R0 σ h)
abbrev r_X1_become : Room := { frames := 0, cells := 0, slots := 0, locals := 0 }
set_option maxRecDepth 100000 in
set_option maxHeartbeats 4000000 in
theorem w_X1_become_0 {p : Program} {l : Launch} {e : Env} {s : State} {m : MethodId} {args : Array Value} {below : List Frame} {meth : Method} {c : Code} {D : va_G} {cI cZ : ClassId} {ad : Nat → Nat} (C : pv_C p s m args meth c cX1_become 2 RX1 D cI cZ ad (pv_A ad)) (hr : meth.sig.returnType = none) (R0 : pv_S) (p0 : Int32) (σ : pv_S) (h : f_X1_become p0 σ = some R0) : Wx p l e r_X1_become s m args below meth c 0 0 (MQ below (pv_QV D cI cZ ad R0) args s 0 0 (pv_A ad)) 2 D cI cZ ad (pv_A ad) 0 [(0, .ref (ad 7)), (1, .int p0)] [] σ := by
  unfold f_X1_become at h
  refine x_aload_n C dX1_become_0 rfl 0 rfl ?_
  refine x_iload_n C dX1_become_1 rfl 1 rfl ?_
  refine xp_X1_7 C dX1_become_2 ?_
  exact x_vret C hr dX1_become_5 (Option.some.inj h)
theorem m_X1_become (l : Launch) (D : va_G) (cI cZ : ClassId) (ad : Nat → Nat) (hJ : pv_J ad) (p0 : Int32) (σ : pv_S) (R0 : pv_S) (h : f_X1_become p0 σ = some R0) : Met l yX1_become (Cond.code yX1_become cX1_become 2 (none) :: lwG) r_X1_become (va_Pc [.ref (ad 7), .int p0] (pv_P D cI cZ ad σ)) (pv_QV D cI cZ ad R0) 0 0 (pv_A ad) := x_met (by decide) rfl hJ (Nat.le_of_ble_eq_true rfl) (fun p e s m args below meth c C hr => w_X1_become_0 C hr R0 p0 σ h)
abbrev r_X7_seed : Room := { frames := 1, cells := 0, slots := 0, locals := 21 }
set_option maxRecDepth 100000 in
set_option maxHeartbeats 4000000 in
theorem w_X7_seed_0 {p : Program} {l : Launch} {e : Env} {s : State} {m : MethodId} {args : Array Value} {below : List Frame} {meth : Method} {c : Code} {D : va_G} {cI cZ : ClassId} {ad : Nat → Nat} (C : pv_C p s m args meth c cX7_seed 3 RX7 D cI cZ ad (pv_A ad)) (hr : meth.sig.returnType = some .int) (R0 : (Int32 × pv_S)) (p0 : Int32) (σ : pv_S) (h : f_X7_seed p0 σ = some R0) : Wx p l e r_X7_seed s m args below meth c 0 0 (MQ below (pv_QI D cI cZ ad R0) args s 0 0 (pv_A ad)) 3 D cI cZ ad (pv_A ad) 0 [(0, .ref (ad 0)), (1, .int p0)] [] σ := by
  unfold f_X7_seed at h
  refine x_iload_n C dX7_seed_0 rfl 1 rfl ?_
  refine x_if_ge C 7 dX7_seed_1 (by decide) (fun c1 => ?_) (fun c1 => ?_)
  · have h := (if_pos c1).symm.trans h
    refine x_aload_n C dX7_seed_7 rfl 0 rfl ?_
    refine xg_X7_56 C dX7_seed_8 ?_
    obtain ⟨q2, eq2, h⟩ := gb_some h
    refine x_vi (st := []) C kY_X1_state 7 1 rfl rfl rfl (m_X1_state l D cI cZ ad C.2.2.2.2.2.2.1 σ q2 eq2) kl_X7_104 ⟨rfl, rfl⟩ ⟨Nat.le_of_ble_eq_true rfl, Nat.le_of_ble_eq_true rfl⟩ ⟨Nat.zero_le _, Nat.zero_le _⟩ rfl rfl (Nat.le_of_ble_eq_true rfl) dX7_seed_11 ?_
    refine x_istore_n (lv' := [(2, .int q2.1), (0, .ref (ad 0)), (1, .int p0)]) C dX7_seed_14 rfl (by decide) rfl ?_
    refine x_aload_n C dX7_seed_15 rfl 1 rfl ?_
    refine xg_X7_56 C dX7_seed_16 ?_
    refine x_iload_n C dX7_seed_19 rfl 2 rfl ?_
    obtain ⟨q3, eq3, h⟩ := gb_some h
    refine x_vv (st := []) C kY_X1_become 7 1 rfl rfl rfl (m_X1_become l D cI cZ ad C.2.2.2.2.2.2.1 p0 q2.2 q3 eq3) kl_X7_231 ⟨rfl, rfl⟩ ⟨Nat.le_of_ble_eq_true rfl, Nat.le_of_ble_eq_true rfl⟩ ⟨Nat.zero_le _, Nat.zero_le _⟩ rfl rfl (Nat.le_of_ble_eq_true rfl) dX7_seed_20 ?_
    refine x_iload_n C dX7_seed_23 rfl 0 rfl ?_
    exact x_iret C hr dX7_seed_24 (Option.some.inj h)
  · have h := (if_neg c1).symm.trans h
    refine x_ldc C kc_X7_107 dX7_seed_4 ?_
    exact x_iret C hr dX7_seed_6 (Option.some.inj h)
theorem m_X7_seed (l : Launch) (D : va_G) (cI cZ : ClassId) (ad : Nat → Nat) (hJ : pv_J ad) (p0 : Int32) (σ : pv_S) (R0 : (Int32 × pv_S)) (h : f_X7_seed p0 σ = some R0) : Met l yX7_seed (Cond.code yX7_seed cX7_seed 3 (some .int) :: lwG) r_X7_seed (va_Pc [.ref (ad 0), .int p0] (pv_P D cI cZ ad σ)) (pv_QI D cI cZ ad R0) 0 0 (pv_A ad) := x_met (by decide) rfl hJ (Nat.le_of_ble_eq_true rfl) (fun p e s m args below meth c C hr => w_X7_seed_0 C hr R0 p0 σ h)
abbrev r_X3_isImage : Room := { frames := 0, cells := 0, slots := 0, locals := 0 }
set_option maxRecDepth 100000 in
set_option maxHeartbeats 4000000 in
theorem w_X3_isImage_0 {p : Program} {l : Launch} {e : Env} {s : State} {m : MethodId} {args : Array Value} {below : List Frame} {meth : Method} {c : Code} {D : va_G} {cI cZ : ClassId} {ad : Nat → Nat} (C : pv_C p s m args meth c cX3_isImage 1 RX3 D cI cZ ad (pv_A ad)) (hr : meth.sig.returnType = some .boolean) (R0 : (Int32 × pv_S)) (p0 : Int32) (σ : pv_S) (h : f_X3_isImage p0 σ = some R0) : Wx p l e r_X3_isImage s m args below meth c 0 0 (MQ below (pv_QI D cI cZ ad R0) args s 0 0 (pv_A ad)) 1 D cI cZ ad (pv_A ad) 0 [(0, .int p0)] [] σ := by
  unfold f_X3_isImage at h
  refine x_iload_n C dX3_isImage_0 rfl 0 rfl ?_
  refine x_if_lt C 13 dX3_isImage_1 (by decide) (fun c1 => ?_) (fun c1 => ?_)
  · have h := (if_pos c1).symm.trans h
    refine x_iconst (v := 0) C dX3_isImage_13 (by decide) ?_
    exact x_zret C hr rfl dX3_isImage_14 (Option.some.inj h)
  · have h := (if_neg c1).symm.trans h
    refine x_iload_n C dX3_isImage_4 rfl 0 rfl ?_
    refine x_iconst (v := 2) C dX3_isImage_5 (by decide) ?_
    refine x_icmp_ge C 13 dX3_isImage_6 (by decide) (fun c2 => ?_) (fun c2 => ?_)
    · have h := (if_pos c2).symm.trans h
      refine x_iconst (v := 0) C dX3_isImage_13 (by decide) ?_
      exact x_zret C hr rfl dX3_isImage_14 (Option.some.inj h)
    · have h := (if_neg c2).symm.trans h
      refine x_iconst (v := 1) C dX3_isImage_9 (by decide) ?_
      refine x_goto C 14 dX3_isImage_10 (by decide) ?_
      exact x_zret C hr rfl dX3_isImage_14 (Option.some.inj h)
theorem m_X3_isImage (l : Launch) (D : va_G) (cI cZ : ClassId) (ad : Nat → Nat) (hJ : pv_J ad) (p0 : Int32) (σ : pv_S) (R0 : (Int32 × pv_S)) (h : f_X3_isImage p0 σ = some R0) : Met l yX3_isImage (Cond.code yX3_isImage cX3_isImage 1 (some .boolean) :: lwG) r_X3_isImage (va_Pc [.int p0] (pv_P D cI cZ ad σ)) (pv_QI D cI cZ ad R0) 0 0 (pv_A ad) := x_met (by decide) rfl hJ (Nat.le_of_ble_eq_true rfl) (fun p e s m args below meth c C hr => w_X3_isImage_0 C hr R0 p0 σ h)
abbrev r_X6_fitsOn_17 : Room := { frames := 0, cells := 0, slots := 0, locals := 0 }
set_option maxRecDepth 100000 in
set_option maxHeartbeats 4000000 in
theorem w_X6_fitsOn_17_0 {p : Program} {l : Launch} {e : Env} {s : State} {m : MethodId} {args : Array Value} {below : List Frame} {meth : Method} {c : Code} {D : va_G} {cI cZ : ClassId} {ad : Nat → Nat} (C : pv_C p s m args meth c cX6_fitsOn 2 RX6 D cI cZ ad (pv_A ad)) (hr : meth.sig.returnType = some .boolean) (R0 : (Int32 × pv_S)) (p1 : Int32) (σ : pv_S) (h : f_X6_fitsOn_17 p1 σ = some R0) : Wx p l e r_X6_fitsOn_17 s m args below meth c 0 0 (MQ below (pv_QI D cI cZ ad R0) args s 0 0 (pv_A ad)) 2 D cI cZ ad (pv_A ad) 0 [(0, .ref (ad 17)), (1, .int p1)] [] σ := by
  unfold f_X6_fitsOn_17 at h
  refine x_aload_n C dX6_fitsOn_0 rfl 0 rfl ?_
  refine x_ifnull C dX6_fitsOn_1 ?_
  refine x_iload_n C dX6_fitsOn_4 rfl 1 rfl ?_
  refine x_if_lt C 21 dX6_fitsOn_5 (by decide) (fun c1 => ?_) (fun c1 => ?_)
  · have h := (if_pos c1).symm.trans h
    refine x_iconst (v := 0) C dX6_fitsOn_21 (by decide) ?_
    exact x_zret C hr rfl dX6_fitsOn_22 (Option.some.inj h)
  · have h := (if_neg c1).symm.trans h
    refine x_iload_n C dX6_fitsOn_8 rfl 1 rfl ?_
    refine x_aload_n C dX6_fitsOn_9 rfl 0 rfl ?_
    refine xn_8 C dX6_fitsOn_10 ?_
    refine x_bipush (v := 46) C dX6_fitsOn_11 (by decide) ?_
    refine x_idiv C dX6_fitsOn_13 (by decide) ?_
    refine x_icmp_ge C 21 dX6_fitsOn_14 (by decide) (fun c2 => ?_) (fun c2 => ?_)
    · have h := (if_pos c2).symm.trans h
      refine x_iconst (v := 0) C dX6_fitsOn_21 (by decide) ?_
      exact x_zret C hr rfl dX6_fitsOn_22 (Option.some.inj h)
    · have h := (if_neg c2).symm.trans h
      refine x_iconst (v := 1) C dX6_fitsOn_17 (by decide) ?_
      refine x_goto C 22 dX6_fitsOn_18 (by decide) ?_
      exact x_zret C hr rfl dX6_fitsOn_22 (Option.some.inj h)
theorem m_X6_fitsOn_17 (l : Launch) (D : va_G) (cI cZ : ClassId) (ad : Nat → Nat) (hJ : pv_J ad) (p1 : Int32) (σ : pv_S) (R0 : (Int32 × pv_S)) (h : f_X6_fitsOn_17 p1 σ = some R0) : Met l yX6_fitsOn (Cond.code yX6_fitsOn cX6_fitsOn 2 (some .boolean) :: lwG) r_X6_fitsOn_17 (va_Pc [.ref (ad 17), .int p1] (pv_P D cI cZ ad σ)) (pv_QI D cI cZ ad R0) 0 0 (pv_A ad) := x_met (by decide) rfl hJ (Nat.le_of_ble_eq_true rfl) (fun p e s m args below meth c C hr => w_X6_fitsOn_17_0 C hr R0 p1 σ h)
abbrev r_X6_copyTo_17 : Room := { frames := 1, cells := 0, slots := 0, locals := 26 }
set_option maxRecDepth 100000 in
set_option maxHeartbeats 4000000 in
theorem w_X6_copyTo_17_0 {p : Program} {l : Launch} {e : Env} {s : State} {m : MethodId} {args : Array Value} {below : List Frame} {meth : Method} {c : Code} {D : va_G} {cI cZ : ClassId} {ad : Nat → Nat} (C : pv_C p s m args meth c cX6_copyTo 3 RX6 D cI cZ ad (pv_A ad)) (hr : meth.sig.returnType = none) (R0 : pv_S) (p1 : Int32) (σ : pv_S) (h : f_X6_copyTo_17 p1 σ = some R0) : Wx p l e r_X6_copyTo_17 s m args below meth c 0 0 (MQ below (pv_QV D cI cZ ad R0) args s 0 0 (pv_A ad)) 3 D cI cZ ad (pv_A ad) 0 [(0, .ref (ad 1)), (1, .ref (ad 17)), (2, .int p1)] [] σ := by
  unfold f_X6_copyTo_17 at h
  refine x_aload_n C dX6_copyTo_0 rfl 1 rfl ?_
  refine x_iload_n C dX6_copyTo_1 rfl 2 rfl ?_
  obtain ⟨q1, eq1, h⟩ := gb_some h
  refine x_si (st := []) C kY_X6_fitsOn (m_X6_fitsOn_17 l D cI cZ ad C.2.2.2.2.2.2.1 p1 σ q1 eq1) kl_X6_83 ⟨rfl, rfl⟩ ⟨Nat.le_of_ble_eq_true rfl, Nat.le_of_ble_eq_true rfl⟩ ⟨Nat.zero_le _, Nat.zero_le _⟩ rfl rfl (Nat.le_of_ble_eq_true rfl) dX6_copyTo_2 ?_
  refine x_if_eq C 23 dX6_copyTo_5 (by decide) (fun c2 => ?_) (fun c2 => ?_)
  · have h := (if_pos c2).symm.trans h
    exact x_vret C hr dX6_copyTo_23 (Option.some.inj h)
  · have h := (if_neg c2).symm.trans h
    refine x_aload_n C dX6_copyTo_8 rfl 0 rfl ?_
    refine xg_X6_11 C dX6_copyTo_9 ?_
    refine x_iconst (v := 0) C dX6_copyTo_12 (by decide) ?_
    refine x_aload_n C dX6_copyTo_13 rfl 1 rfl ?_
    refine x_iload_n C dX6_copyTo_14 rfl 2 rfl ?_
    refine x_bipush (v := 46) C dX6_copyTo_15 (by decide) ?_
    refine x_imul C dX6_copyTo_17 ?_
    refine x_bipush (v := 46) C dX6_copyTo_18 (by decide) ?_
    obtain ⟨g3, h⟩ := gc_some h
    refine x_copy (σ' := (pv_cp q1.2 0 8 0 (p1 * 46) 46)) C 9 17 rfl rfl kl_X6_18 kA_nat kA_stat kA_init g3 ⟨Nat.le_of_ble_eq_true rfl, Nat.le_of_ble_eq_true rfl⟩ rfl dX6_copyTo_20 ?_
    exact x_vret C hr dX6_copyTo_23 (Option.some.inj h)
theorem m_X6_copyTo_17 (l : Launch) (D : va_G) (cI cZ : ClassId) (ad : Nat → Nat) (hJ : pv_J ad) (p1 : Int32) (σ : pv_S) (R0 : pv_S) (h : f_X6_copyTo_17 p1 σ = some R0) : Met l yX6_copyTo (Cond.code yX6_copyTo cX6_copyTo 3 (none) :: lwG) r_X6_copyTo_17 (va_Pc [.ref (ad 1), .ref (ad 17), .int p1] (pv_P D cI cZ ad σ)) (pv_QV D cI cZ ad R0) 0 0 (pv_A ad) := x_met (by decide) rfl hJ (Nat.le_of_ble_eq_true rfl) (fun p e s m args below meth c C hr => w_X6_copyTo_17_0 C hr R0 p1 σ h)
abbrev r_X3_store : Room := { frames := 2, cells := 0, slots := 0, locals := 48 }
set_option maxRecDepth 100000 in
set_option maxHeartbeats 4000000 in
theorem w_X3_store_0 {p : Program} {l : Launch} {e : Env} {s : State} {m : MethodId} {args : Array Value} {below : List Frame} {meth : Method} {c : Code} {D : va_G} {cI cZ : ClassId} {ad : Nat → Nat} (C : pv_C p s m args meth c cX3_store 4 RX3 D cI cZ ad (pv_A ad)) (hr : meth.sig.returnType = none) (R0 : pv_S) (p0 : Int32) (σ : pv_S) (h : f_X3_store p0 σ = some R0) : Wx p l e r_X3_store s m args below meth c 0 0 (MQ below (pv_QV D cI cZ ad R0) args s 0 0 (pv_A ad)) 4 D cI cZ ad (pv_A ad) 0 [(0, .ref (ad 5)), (1, .int p0), (2, .ref (ad 1)), (3, .ref (ad 7))] [] σ := by
  unfold f_X3_store at h
  refine x_iload_n C dX3_store_0 rfl 1 rfl ?_
  obtain ⟨q1, eq1, h⟩ := gb_some h
  refine x_si (st := []) C kY_X3_isImage (m_X3_isImage l D cI cZ ad C.2.2.2.2.2.2.1 p0 σ q1 eq1) kl_X3_22 ⟨rfl, rfl⟩ ⟨Nat.le_of_ble_eq_true rfl, Nat.le_of_ble_eq_true rfl⟩ ⟨Nat.zero_le _, Nat.zero_le _⟩ rfl rfl (Nat.le_of_ble_eq_true rfl) dX3_store_1 ?_
  refine x_if_ne C 8 dX3_store_4 (by decide) (fun c2 => ?_) (fun c2 => ?_)
  · have h := (if_neg c2).symm.trans h
    refine x_aload_n C dX3_store_8 rfl 2 rfl ?_
    refine x_aload_n C dX3_store_9 rfl 0 rfl ?_
    refine xg_X3_11 C dX3_store_10 ?_
    refine x_iload_n C dX3_store_13 rfl 1 rfl ?_
    obtain ⟨q3, eq3, h⟩ := gb_some h
    refine x_vv (st := []) C kY_X6_copyTo 1 6 rfl rfl rfl (m_X6_copyTo_17 l D cI cZ ad C.2.2.2.2.2.2.1 p0 q1.2 q3 eq3) kl_X3_26 ⟨rfl, rfl⟩ ⟨Nat.le_of_ble_eq_true rfl, Nat.le_of_ble_eq_true rfl⟩ ⟨Nat.zero_le _, Nat.zero_le _⟩ rfl rfl (Nat.le_of_ble_eq_true rfl) dX3_store_14 ?_
    refine x_aload_n C dX3_store_17 rfl 0 rfl ?_
    refine xg_X3_15 C dX3_store_18 ?_
    refine x_iload_n C dX3_store_21 rfl 1 rfl ?_
    refine x_aload_n C dX3_store_22 rfl 3 rfl ?_
    obtain ⟨q4, eq4, h⟩ := gb_some h
    refine x_vi (st := [.int p0, .ref (ad 18)]) C kY_X1_state 7 1 rfl rfl rfl (m_X1_state l D cI cZ ad C.2.2.2.2.2.2.1 q3 q4 eq4) kl_X3_30 ⟨rfl, rfl⟩ ⟨Nat.le_of_ble_eq_true rfl, Nat.le_of_ble_eq_true rfl⟩ ⟨Nat.zero_le _, Nat.zero_le _⟩ rfl rfl (Nat.le_of_ble_eq_true rfl) dX3_store_23 ?_
    obtain ⟨g5, h⟩ := gd_some h
    refine xs_9 C g5 dX3_store_26 ?_
    refine x_aload_n C dX3_store_27 rfl 0 rfl ?_
    refine xg_X3_18 C dX3_store_28 ?_
    refine x_iload_n C dX3_store_31 rfl 1 rfl ?_
    refine x_iconst (v := 1) C dX3_store_32 (by decide) ?_
    obtain ⟨g6, h⟩ := gd_some h
    refine xs_10 C g6 dX3_store_33 ?_
    exact x_vret C hr dX3_store_34 (Option.some.inj h)
  · have h := (if_pos c2).symm.trans h
    exact x_vret C hr dX3_store_7 (Option.some.inj h)
theorem m_X3_store (l : Launch) (D : va_G) (cI cZ : ClassId) (ad : Nat → Nat) (hJ : pv_J ad) (p0 : Int32) (σ : pv_S) (R0 : pv_S) (h : f_X3_store p0 σ = some R0) : Met l yX3_store (Cond.code yX3_store cX3_store 4 (none) :: lwG) r_X3_store (va_Pc [.ref (ad 5), .int p0, .ref (ad 1), .ref (ad 7)] (pv_P D cI cZ ad σ)) (pv_QV D cI cZ ad R0) 0 0 (pv_A ad) := x_met (by decide) rfl hJ (Nat.le_of_ble_eq_true rfl) (fun p e s m args below meth c C hr => w_X3_store_0 C hr R0 p0 σ h)
abbrev r_X2_forget : Room := { frames := 0, cells := 0, slots := 0, locals := 0 }
set_option maxRecDepth 100000 in
set_option maxHeartbeats 4000000 in
theorem w_X2_forget_0 {p : Program} {l : Launch} {e : Env} {s : State} {m : MethodId} {args : Array Value} {below : List Frame} {meth : Method} {c : Code} {D : va_G} {cI cZ : ClassId} {ad : Nat → Nat} (C : pv_C p s m args meth c cX2_forget 1 RX2 D cI cZ ad (pv_A ad)) (hr : meth.sig.returnType = none) (R0 : pv_S) (σ : pv_S) (h : f_X2_forget σ = some R0) : Wx p l e r_X2_forget s m args below meth c 0 0 (MQ below (pv_QV D cI cZ ad R0) args s 0 0 (pv_A ad)) 1 D cI cZ ad (pv_A ad) 0 [(0, .ref (ad 4))] [] σ := by
  unfold f_X2_forget at h
  refine x_aload_n C dX2_forget_0 rfl 0 rfl ?_
  refine x_iconst (v := 0) C dX2_forget_1 (by decide) ?_
  refine xp_X2_15 C dX2_forget_2 ?_
  exact x_vret C hr dX2_forget_5 (Option.some.inj h)
theorem m_X2_forget (l : Launch) (D : va_G) (cI cZ : ClassId) (ad : Nat → Nat) (hJ : pv_J ad)  (σ : pv_S) (R0 : pv_S) (h : f_X2_forget σ = some R0) : Met l yX2_forget (Cond.code yX2_forget cX2_forget 1 (none) :: lwG) r_X2_forget (va_Pc [.ref (ad 4)] (pv_P D cI cZ ad σ)) (pv_QV D cI cZ ad R0) 0 0 (pv_A ad) := x_met (by decide) rfl hJ (Nat.le_of_ble_eq_true rfl) (fun p e s m args below meth c C hr => w_X2_forget_0 C hr R0 σ h)
abbrev r_X7_keep : Room := { frames := 3, cells := 0, slots := 0, locals := 71 }
set_option maxRecDepth 100000 in
set_option maxHeartbeats 4000000 in
theorem w_X7_keep_0 {p : Program} {l : Launch} {e : Env} {s : State} {m : MethodId} {args : Array Value} {below : List Frame} {meth : Method} {c : Code} {D : va_G} {cI cZ : ClassId} {ad : Nat → Nat} (C : pv_C p s m args meth c cX7_keep 2 RX7 D cI cZ ad (pv_A ad)) (hr : meth.sig.returnType = some .int) (R0 : (Int32 × pv_S)) (p0 : Int32) (σ : pv_S) (h : f_X7_keep p0 σ = some R0) : Wx p l e r_X7_keep s m args below meth c 0 0 (MQ below (pv_QI D cI cZ ad R0) args s 0 0 (pv_A ad)) 2 D cI cZ ad (pv_A ad) 0 [(0, .ref (ad 0)), (1, .int p0)] [] σ := by
  unfold f_X7_keep at h
  refine x_iload_n C dX7_keep_0 rfl 1 rfl ?_
  obtain ⟨q1, eq1, h⟩ := gb_some h
  refine x_si (st := []) C kY_X3_isImage (m_X3_isImage l D cI cZ ad C.2.2.2.2.2.2.1 p0 σ q1 eq1) kl_X7_234 ⟨rfl, rfl⟩ ⟨Nat.le_of_ble_eq_true rfl, Nat.le_of_ble_eq_true rfl⟩ ⟨Nat.zero_le _, Nat.zero_le _⟩ rfl rfl (Nat.le_of_ble_eq_true rfl) dX7_keep_1 ?_
  refine x_if_ne C 10 dX7_keep_4 (by decide) (fun c2 => ?_) (fun c2 => ?_)
  · have h := (if_neg c2).symm.trans h
    refine x_aload_n C dX7_keep_10 rfl 0 rfl ?_
    refine xg_X7_42 C dX7_keep_11 ?_
    refine x_iload_n C dX7_keep_14 rfl 1 rfl ?_
    refine x_aload_n C dX7_keep_15 rfl 0 rfl ?_
    refine xg_X7_10 C dX7_keep_16 ?_
    refine x_aload_n C dX7_keep_19 rfl 0 rfl ?_
    refine xg_X7_56 C dX7_keep_20 ?_
    obtain ⟨q3, eq3, h⟩ := gb_some h
    refine x_vv (st := []) C kY_X3_store 5 3 rfl rfl rfl (m_X3_store l D cI cZ ad C.2.2.2.2.2.2.1 p0 q1.2 q3 eq3) kl_X7_237 ⟨rfl, rfl⟩ ⟨Nat.le_of_ble_eq_true rfl, Nat.le_of_ble_eq_true rfl⟩ ⟨Nat.zero_le _, Nat.zero_le _⟩ rfl rfl (Nat.le_of_ble_eq_true rfl) dX7_keep_23 ?_
    refine x_aload_n C dX7_keep_26 rfl 0 rfl ?_
    refine xg_X7_35 C dX7_keep_27 ?_
    obtain ⟨q4, eq4, h⟩ := gb_some h
    refine x_vv (st := []) C kY_X2_forget 4 2 rfl rfl rfl (m_X2_forget l D cI cZ ad C.2.2.2.2.2.2.1 q3 q4 eq4) kl_X7_241 ⟨rfl, rfl⟩ ⟨Nat.le_of_ble_eq_true rfl, Nat.le_of_ble_eq_true rfl⟩ ⟨Nat.zero_le _, Nat.zero_le _⟩ rfl rfl (Nat.le_of_ble_eq_true rfl) dX7_keep_30 ?_
    refine x_iconst (v := 1) C dX7_keep_33 (by decide) ?_
    exact x_iret C hr dX7_keep_34 (Option.some.inj h)
  · have h := (if_pos c2).symm.trans h
    refine x_ldc C kc_X7_112 dX7_keep_7 ?_
    exact x_iret C hr dX7_keep_9 (Option.some.inj h)
theorem m_X7_keep (l : Launch) (D : va_G) (cI cZ : ClassId) (ad : Nat → Nat) (hJ : pv_J ad) (p0 : Int32) (σ : pv_S) (R0 : (Int32 × pv_S)) (h : f_X7_keep p0 σ = some R0) : Met l yX7_keep (Cond.code yX7_keep cX7_keep 2 (some .int) :: lwG) r_X7_keep (va_Pc [.ref (ad 0), .int p0] (pv_P D cI cZ ad σ)) (pv_QI D cI cZ ad R0) 0 0 (pv_A ad) := x_met (by decide) rfl hJ (Nat.le_of_ble_eq_true rfl) (fun p e s m args below meth c C hr => w_X7_keep_0 C hr R0 p0 σ h)
abbrev r_X3_isKept : Room := { frames := 1, cells := 0, slots := 0, locals := 20 }
set_option maxRecDepth 100000 in
set_option maxHeartbeats 4000000 in
theorem w_X3_isKept_0 {p : Program} {l : Launch} {e : Env} {s : State} {m : MethodId} {args : Array Value} {below : List Frame} {meth : Method} {c : Code} {D : va_G} {cI cZ : ClassId} {ad : Nat → Nat} (C : pv_C p s m args meth c cX3_isKept 2 RX3 D cI cZ ad (pv_A ad)) (hr : meth.sig.returnType = some .boolean) (R0 : (Int32 × pv_S)) (p0 : Int32) (σ : pv_S) (h : f_X3_isKept p0 σ = some R0) : Wx p l e r_X3_isKept s m args below meth c 0 0 (MQ below (pv_QI D cI cZ ad R0) args s 0 0 (pv_A ad)) 2 D cI cZ ad (pv_A ad) 0 [(0, .ref (ad 5)), (1, .int p0)] [] σ := by
  unfold f_X3_isKept at h
  refine x_iload_n C dX3_isKept_0 rfl 1 rfl ?_
  obtain ⟨q1, eq1, h⟩ := gb_some h
  refine x_si (st := []) C kY_X3_isImage (m_X3_isImage l D cI cZ ad C.2.2.2.2.2.2.1 p0 σ q1 eq1) kl_X3_22 ⟨rfl, rfl⟩ ⟨Nat.le_of_ble_eq_true rfl, Nat.le_of_ble_eq_true rfl⟩ ⟨Nat.zero_le _, Nat.zero_le _⟩ rfl rfl (Nat.le_of_ble_eq_true rfl) dX3_isKept_1 ?_
  refine x_if_eq C 20 dX3_isKept_4 (by decide) (fun c2 => ?_) (fun c2 => ?_)
  · have h := (if_pos c2).symm.trans h
    refine x_iconst (v := 0) C dX3_isKept_20 (by decide) ?_
    exact x_zret C hr rfl dX3_isKept_21 (Option.some.inj h)
  · have h := (if_neg c2).symm.trans h
    refine x_aload_n C dX3_isKept_7 rfl 0 rfl ?_
    refine xg_X3_18 C dX3_isKept_8 ?_
    refine x_iload_n C dX3_isKept_11 rfl 1 rfl ?_
    obtain ⟨g3, h⟩ := gd_some h
    refine xl_10 C g3 dX3_isKept_12 ?_
    refine x_if_eq C 20 dX3_isKept_13 (by decide) (fun c4 => ?_) (fun c4 => ?_)
    · have h := (if_pos c4).symm.trans h
      refine x_iconst (v := 0) C dX3_isKept_20 (by decide) ?_
      exact x_zret C hr rfl dX3_isKept_21 (Option.some.inj h)
    · have h := (if_neg c4).symm.trans h
      refine x_iconst (v := 1) C dX3_isKept_16 (by decide) ?_
      refine x_goto C 21 dX3_isKept_17 (by decide) ?_
      exact x_zret C hr rfl dX3_isKept_21 (Option.some.inj h)
theorem m_X3_isKept (l : Launch) (D : va_G) (cI cZ : ClassId) (ad : Nat → Nat) (hJ : pv_J ad) (p0 : Int32) (σ : pv_S) (R0 : (Int32 × pv_S)) (h : f_X3_isKept p0 σ = some R0) : Met l yX3_isKept (Cond.code yX3_isKept cX3_isKept 2 (some .boolean) :: lwG) r_X3_isKept (va_Pc [.ref (ad 5), .int p0] (pv_P D cI cZ ad σ)) (pv_QI D cI cZ ad R0) 0 0 (pv_A ad) := x_met (by decide) rfl hJ (Nat.le_of_ble_eq_true rfl) (fun p e s m args below meth c C hr => w_X3_isKept_0 C hr R0 p0 σ h)
abbrev r_X6_copyFrom_17 : Room := { frames := 1, cells := 0, slots := 0, locals := 26 }
set_option maxRecDepth 100000 in
set_option maxHeartbeats 4000000 in
theorem w_X6_copyFrom_17_0 {p : Program} {l : Launch} {e : Env} {s : State} {m : MethodId} {args : Array Value} {below : List Frame} {meth : Method} {c : Code} {D : va_G} {cI cZ : ClassId} {ad : Nat → Nat} (C : pv_C p s m args meth c cX6_copyFrom 3 RX6 D cI cZ ad (pv_A ad)) (hr : meth.sig.returnType = none) (R0 : pv_S) (p1 : Int32) (σ : pv_S) (h : f_X6_copyFrom_17 p1 σ = some R0) : Wx p l e r_X6_copyFrom_17 s m args below meth c 0 0 (MQ below (pv_QV D cI cZ ad R0) args s 0 0 (pv_A ad)) 3 D cI cZ ad (pv_A ad) 0 [(0, .ref (ad 1)), (1, .ref (ad 17)), (2, .int p1)] [] σ := by
  unfold f_X6_copyFrom_17 at h
  refine x_aload_n C dX6_copyFrom_0 rfl 1 rfl ?_
  refine x_iload_n C dX6_copyFrom_1 rfl 2 rfl ?_
  obtain ⟨q1, eq1, h⟩ := gb_some h
  refine x_si (st := []) C kY_X6_fitsOn (m_X6_fitsOn_17 l D cI cZ ad C.2.2.2.2.2.2.1 p1 σ q1 eq1) kl_X6_83 ⟨rfl, rfl⟩ ⟨Nat.le_of_ble_eq_true rfl, Nat.le_of_ble_eq_true rfl⟩ ⟨Nat.zero_le _, Nat.zero_le _⟩ rfl rfl (Nat.le_of_ble_eq_true rfl) dX6_copyFrom_2 ?_
  refine x_if_ne C 9 dX6_copyFrom_5 (by decide) (fun c2 => ?_) (fun c2 => ?_)
  · have h := (if_neg c2).symm.trans h
    refine x_aload_n C dX6_copyFrom_9 rfl 1 rfl ?_
    refine x_iload_n C dX6_copyFrom_10 rfl 2 rfl ?_
    refine x_bipush (v := 46) C dX6_copyFrom_11 (by decide) ?_
    refine x_imul C dX6_copyFrom_13 ?_
    refine x_aload_n C dX6_copyFrom_14 rfl 0 rfl ?_
    refine xg_X6_11 C dX6_copyFrom_15 ?_
    refine x_iconst (v := 0) C dX6_copyFrom_18 (by decide) ?_
    refine x_bipush (v := 46) C dX6_copyFrom_19 (by decide) ?_
    obtain ⟨g3, h⟩ := gc_some h
    refine x_copy (σ' := (pv_cp q1.2 8 0 (p1 * 46) 0 46)) C 17 9 rfl rfl kl_X6_18 kA_nat kA_stat kA_init g3 ⟨Nat.le_of_ble_eq_true rfl, Nat.le_of_ble_eq_true rfl⟩ rfl dX6_copyFrom_21 ?_
    refine x_aload_n C dX6_copyFrom_24 rfl 0 rfl ?_
    refine x_dup C dX6_copyFrom_25 rfl ?_
    refine xg_X6_27 C dX6_copyFrom_26 ?_
    refine x_iconst (v := 1) C dX6_copyFrom_29 (by decide) ?_
    refine x_iadd C dX6_copyFrom_30 ?_
    refine xp_X6_27 C dX6_copyFrom_31 ?_
    exact x_vret C hr dX6_copyFrom_34 (Option.some.inj h)
  · have h := (if_pos c2).symm.trans h
    exact x_vret C hr dX6_copyFrom_8 (Option.some.inj h)
theorem m_X6_copyFrom_17 (l : Launch) (D : va_G) (cI cZ : ClassId) (ad : Nat → Nat) (hJ : pv_J ad) (p1 : Int32) (σ : pv_S) (R0 : pv_S) (h : f_X6_copyFrom_17 p1 σ = some R0) : Met l yX6_copyFrom (Cond.code yX6_copyFrom cX6_copyFrom 3 (none) :: lwG) r_X6_copyFrom_17 (va_Pc [.ref (ad 1), .ref (ad 17), .int p1] (pv_P D cI cZ ad σ)) (pv_QV D cI cZ ad R0) 0 0 (pv_A ad) := x_met (by decide) rfl hJ (Nat.le_of_ble_eq_true rfl) (fun p e s m args below meth c C hr => w_X6_copyFrom_17_0 C hr R0 p1 σ h)
abbrev r_X3_restore : Room := { frames := 2, cells := 0, slots := 0, locals := 48 }
set_option maxRecDepth 100000 in
set_option maxHeartbeats 4000000 in
theorem w_X3_restore_0 {p : Program} {l : Launch} {e : Env} {s : State} {m : MethodId} {args : Array Value} {below : List Frame} {meth : Method} {c : Code} {D : va_G} {cI cZ : ClassId} {ad : Nat → Nat} (C : pv_C p s m args meth c cX3_restore 4 RX3 D cI cZ ad (pv_A ad)) (hr : meth.sig.returnType = none) (R0 : pv_S) (p0 : Int32) (σ : pv_S) (h : f_X3_restore p0 σ = some R0) : Wx p l e r_X3_restore s m args below meth c 0 0 (MQ below (pv_QV D cI cZ ad R0) args s 0 0 (pv_A ad)) 4 D cI cZ ad (pv_A ad) 0 [(0, .ref (ad 5)), (1, .int p0), (2, .ref (ad 1)), (3, .ref (ad 7))] [] σ := by
  unfold f_X3_restore at h
  refine x_aload_n C dX3_restore_0 rfl 0 rfl ?_
  refine x_iload_n C dX3_restore_1 rfl 1 rfl ?_
  obtain ⟨q1, eq1, h⟩ := gb_some h
  refine x_vi (st := []) C kY_X3_isKept 5 3 rfl rfl rfl (m_X3_isKept l D cI cZ ad C.2.2.2.2.2.2.1 p0 σ q1 eq1) kl_X3_36 ⟨rfl, rfl⟩ ⟨Nat.le_of_ble_eq_true rfl, Nat.le_of_ble_eq_true rfl⟩ ⟨Nat.zero_le _, Nat.zero_le _⟩ rfl rfl (Nat.le_of_ble_eq_true rfl) dX3_restore_2 ?_
  refine x_if_ne C 9 dX3_restore_5 (by decide) (fun c2 => ?_) (fun c2 => ?_)
  · have h := (if_neg c2).symm.trans h
    refine x_aload_n C dX3_restore_9 rfl 2 rfl ?_
    refine x_aload_n C dX3_restore_10 rfl 0 rfl ?_
    refine xg_X3_11 C dX3_restore_11 ?_
    refine x_iload_n C dX3_restore_14 rfl 1 rfl ?_
    obtain ⟨q3, eq3, h⟩ := gb_some h
    refine x_vv (st := []) C kY_X6_copyFrom 1 6 rfl rfl rfl (m_X6_copyFrom_17 l D cI cZ ad C.2.2.2.2.2.2.1 p0 q1.2 q3 eq3) kl_X3_39 ⟨rfl, rfl⟩ ⟨Nat.le_of_ble_eq_true rfl, Nat.le_of_ble_eq_true rfl⟩ ⟨Nat.zero_le _, Nat.zero_le _⟩ rfl rfl (Nat.le_of_ble_eq_true rfl) dX3_restore_15 ?_
    refine x_aload_n C dX3_restore_18 rfl 3 rfl ?_
    refine x_aload_n C dX3_restore_19 rfl 0 rfl ?_
    refine xg_X3_15 C dX3_restore_20 ?_
    refine x_iload_n C dX3_restore_23 rfl 1 rfl ?_
    obtain ⟨g4, h⟩ := gd_some h
    refine xl_9 C g4 dX3_restore_24 ?_
    obtain ⟨q5, eq5, h⟩ := gb_some h
    refine x_vv (st := []) C kY_X1_become 7 1 rfl rfl rfl (m_X1_become l D cI cZ ad C.2.2.2.2.2.2.1 (pv_la q3 9 p0) q3 q5 eq5) kl_X3_42 ⟨rfl, rfl⟩ ⟨Nat.le_of_ble_eq_true rfl, Nat.le_of_ble_eq_true rfl⟩ ⟨Nat.zero_le _, Nat.zero_le _⟩ rfl rfl (Nat.le_of_ble_eq_true rfl) dX3_restore_25 ?_
    exact x_vret C hr dX3_restore_28 (Option.some.inj h)
  · have h := (if_pos c2).symm.trans h
    exact x_vret C hr dX3_restore_8 (Option.some.inj h)
theorem m_X3_restore (l : Launch) (D : va_G) (cI cZ : ClassId) (ad : Nat → Nat) (hJ : pv_J ad) (p0 : Int32) (σ : pv_S) (R0 : pv_S) (h : f_X3_restore p0 σ = some R0) : Met l yX3_restore (Cond.code yX3_restore cX3_restore 4 (none) :: lwG) r_X3_restore (va_Pc [.ref (ad 5), .int p0, .ref (ad 1), .ref (ad 7)] (pv_P D cI cZ ad σ)) (pv_QV D cI cZ ad R0) 0 0 (pv_A ad) := x_met (by decide) rfl hJ (Nat.le_of_ble_eq_true rfl) (fun p e s m args below meth c C hr => w_X3_restore_0 C hr R0 p0 σ h)
abbrev r_X7_goBack : Room := { frames := 3, cells := 0, slots := 0, locals := 71 }
set_option maxRecDepth 100000 in
set_option maxHeartbeats 4000000 in
theorem w_X7_goBack_0 {p : Program} {l : Launch} {e : Env} {s : State} {m : MethodId} {args : Array Value} {below : List Frame} {meth : Method} {c : Code} {D : va_G} {cI cZ : ClassId} {ad : Nat → Nat} (C : pv_C p s m args meth c cX7_goBack 2 RX7 D cI cZ ad (pv_A ad)) (hr : meth.sig.returnType = some .int) (R0 : (Int32 × pv_S)) (p0 : Int32) (σ : pv_S) (h : f_X7_goBack p0 σ = some R0) : Wx p l e r_X7_goBack s m args below meth c 0 0 (MQ below (pv_QI D cI cZ ad R0) args s 0 0 (pv_A ad)) 2 D cI cZ ad (pv_A ad) 0 [(0, .ref (ad 0)), (1, .int p0)] [] σ := by
  unfold f_X7_goBack at h
  refine x_iload_n C dX7_goBack_0 rfl 1 rfl ?_
  obtain ⟨q1, eq1, h⟩ := gb_some h
  refine x_si (st := []) C kY_X3_isImage (m_X3_isImage l D cI cZ ad C.2.2.2.2.2.2.1 p0 σ q1 eq1) kl_X7_234 ⟨rfl, rfl⟩ ⟨Nat.le_of_ble_eq_true rfl, Nat.le_of_ble_eq_true rfl⟩ ⟨Nat.zero_le _, Nat.zero_le _⟩ rfl rfl (Nat.le_of_ble_eq_true rfl) dX7_goBack_1 ?_
  refine x_if_ne C 10 dX7_goBack_4 (by decide) (fun c2 => ?_) (fun c2 => ?_)
  · have h := (if_neg c2).symm.trans h
    refine x_aload_n C dX7_goBack_10 rfl 0 rfl ?_
    refine xg_X7_42 C dX7_goBack_11 ?_
    refine x_iload_n C dX7_goBack_14 rfl 1 rfl ?_
    obtain ⟨q3, eq3, h⟩ := gb_some h
    refine x_vi (st := []) C kY_X3_isKept 5 3 rfl rfl rfl (m_X3_isKept l D cI cZ ad C.2.2.2.2.2.2.1 p0 q1.2 q3 eq3) kl_X7_244 ⟨rfl, rfl⟩ ⟨Nat.le_of_ble_eq_true rfl, Nat.le_of_ble_eq_true rfl⟩ ⟨Nat.zero_le _, Nat.zero_le _⟩ rfl rfl (Nat.le_of_ble_eq_true rfl) dX7_goBack_15 ?_
    refine x_if_ne C 24 dX7_goBack_18 (by decide) (fun c4 => ?_) (fun c4 => ?_)
    · have h := (if_neg c4).symm.trans h
      refine x_aload_n C dX7_goBack_24 rfl 0 rfl ?_
      refine xg_X7_42 C dX7_goBack_25 ?_
      refine x_iload_n C dX7_goBack_28 rfl 1 rfl ?_
      refine x_aload_n C dX7_goBack_29 rfl 0 rfl ?_
      refine xg_X7_10 C dX7_goBack_30 ?_
      refine x_aload_n C dX7_goBack_33 rfl 0 rfl ?_
      refine xg_X7_56 C dX7_goBack_34 ?_
      obtain ⟨q5, eq5, h⟩ := gb_some h
      refine x_vv (st := []) C kY_X3_restore 5 3 rfl rfl rfl (m_X3_restore l D cI cZ ad C.2.2.2.2.2.2.1 p0 q3.2 q5 eq5) kl_X7_247 ⟨rfl, rfl⟩ ⟨Nat.le_of_ble_eq_true rfl, Nat.le_of_ble_eq_true rfl⟩ ⟨Nat.zero_le _, Nat.zero_le _⟩ rfl rfl (Nat.le_of_ble_eq_true rfl) dX7_goBack_37 ?_
      refine x_aload_n C dX7_goBack_40 rfl 0 rfl ?_
      refine xg_X7_35 C dX7_goBack_41 ?_
      obtain ⟨q6, eq6, h⟩ := gb_some h
      refine x_vv (st := []) C kY_X2_forget 4 2 rfl rfl rfl (m_X2_forget l D cI cZ ad C.2.2.2.2.2.2.1 q5 q6 eq6) kl_X7_241 ⟨rfl, rfl⟩ ⟨Nat.le_of_ble_eq_true rfl, Nat.le_of_ble_eq_true rfl⟩ ⟨Nat.zero_le _, Nat.zero_le _⟩ rfl rfl (Nat.le_of_ble_eq_true rfl) dX7_goBack_44 ?_
      refine x_iconst (v := 1) C dX7_goBack_47 (by decide) ?_
      exact x_iret C hr dX7_goBack_48 (Option.some.inj h)
    · have h := (if_pos c4).symm.trans h
      refine x_ldc C kc_X7_153 dX7_goBack_21 ?_
      exact x_iret C hr dX7_goBack_23 (Option.some.inj h)
  · have h := (if_pos c2).symm.trans h
    refine x_ldc C kc_X7_112 dX7_goBack_7 ?_
    exact x_iret C hr dX7_goBack_9 (Option.some.inj h)
theorem m_X7_goBack (l : Launch) (D : va_G) (cI cZ : ClassId) (ad : Nat → Nat) (hJ : pv_J ad) (p0 : Int32) (σ : pv_S) (R0 : (Int32 × pv_S)) (h : f_X7_goBack p0 σ = some R0) : Met l yX7_goBack (Cond.code yX7_goBack cX7_goBack 2 (some .int) :: lwG) r_X7_goBack (va_Pc [.ref (ad 0), .int p0] (pv_P D cI cZ ad σ)) (pv_QI D cI cZ ad R0) 0 0 (pv_A ad) := x_met (by decide) rfl hJ (Nat.le_of_ble_eq_true rfl) (fun p e s m args below meth c C hr => w_X7_goBack_0 C hr R0 p0 σ h)
abbrev r_X8_prior : Room := { frames := 0, cells := 0, slots := 0, locals := 0 }
set_option maxRecDepth 100000 in
set_option maxHeartbeats 4000000 in
theorem w_X8_prior_4 {p : Program} {l : Launch} {e : Env} {s : State} {m : MethodId} {args : Array Value} {below : List Frame} {meth : Method} {c : Code} {D : va_G} {cI cZ : ClassId} {ad : Nat → Nat} (C : pv_C p s m args meth c cX8_prior 4 RX8 D cI cZ ad (pv_A ad)) (hr : meth.sig.returnType = some .int) (R0 : (Int32 × pv_S)) : ∀ (n : Nat) (v1 : Int32) (v2 : Int32) (v3 : Int32) (σ : pv_S), f_X8_prior_4 n v1 v2 v3 σ = some R0 → Wx p l e r_X8_prior s m args below meth c 0 0 (MQ below (pv_QI D cI cZ ad R0) args s 0 0 (pv_A ad)) 4 D cI cZ ad (pv_A ad) 4 [(0, .ref (ad 8)), (1, .int v1), (2, .int v2), (3, .int v3)] [] σ := by
  intro n
  induction n with
  | zero =>
    intro v1 v2 v3 σ h
    have h2 : (none : Option (Int32 × pv_S)) = some R0 := h
    cases h2
  | succ n ih =>
    intro v1 v2 v3 σ h
    unfold f_X8_prior_4 at h
    refine x_iload_n C dX8_prior_4 rfl 3 rfl ?_
    refine x_aload_n C dX8_prior_5 rfl 0 rfl ?_
    refine xg_X8_7 C dX8_prior_6 ?_
    refine x_iconst (v := 0) C dX8_prior_9 (by decide) ?_
    obtain ⟨g1, h⟩ := gd_some h
    refine xl_13 C g1 dX8_prior_10 ?_
    refine x_icmp_ge C 39 dX8_prior_11 (by decide) (fun c2 => ?_) (fun c2 => ?_)
    · have h := (if_pos c2).symm.trans h
      refine x_iload_n C dX8_prior_39 rfl 2 rfl ?_
      exact x_iret C hr dX8_prior_40 (Option.some.inj h)
    · have h := (if_neg c2).symm.trans h
      refine x_aload_n C dX8_prior_14 rfl 0 rfl ?_
      refine xg_X8_7 C dX8_prior_15 ?_
      refine x_bipush (v := 36) C dX8_prior_18 (by decide) ?_
      refine x_iload_n C dX8_prior_20 rfl 3 rfl ?_
      refine x_iadd C dX8_prior_21 ?_
      obtain ⟨g3, h⟩ := gd_some h
      refine xl_13 C g3 dX8_prior_22 ?_
      refine x_iload_n C dX8_prior_23 rfl 1 rfl ?_
      refine x_icmp_ne C 31 dX8_prior_24 (by decide) (fun c4 => ?_) (fun c4 => ?_)
      · have h := (if_neg c4).symm.trans h
        refine x_iload_n C dX8_prior_31 rfl 2 rfl ?_
        refine x_istore_n (lv' := [(2, .int v2), (0, .ref (ad 8)), (1, .int v1), (3, .int v3)]) C dX8_prior_32 rfl (by decide) rfl ?_
        refine x_iinc (v := (v3 + 1)) (lv' := [(3, .int (v3 + 1)), (2, .int v2), (0, .ref (ad 8)), (1, .int v1)]) C 3 dX8_prior_33 rfl rfl (by decide) rfl ?_
        refine x_goto C 4 dX8_prior_36 (by decide) ?_
        refine x_sub [2, 3, 1, 0] rfl ?_
        exact ih v1 v2 (v3 + 1) σ h
      · have h := (if_pos c4).symm.trans h
        refine x_iload_n C dX8_prior_27 rfl 3 rfl ?_
        refine x_goto C 32 dX8_prior_28 (by decide) ?_
        refine x_istore_n (lv' := [(2, .int v3), (0, .ref (ad 8)), (1, .int v1), (3, .int v3)]) C dX8_prior_32 rfl (by decide) rfl ?_
        refine x_iinc (v := (v3 + 1)) (lv' := [(3, .int (v3 + 1)), (2, .int v3), (0, .ref (ad 8)), (1, .int v1)]) C 3 dX8_prior_33 rfl rfl (by decide) rfl ?_
        refine x_goto C 4 dX8_prior_36 (by decide) ?_
        refine x_sub [2, 3, 1, 0] rfl ?_
        exact ih v1 v3 (v3 + 1) σ h
set_option maxRecDepth 100000 in
set_option maxHeartbeats 4000000 in
theorem w_X8_prior_0 {p : Program} {l : Launch} {e : Env} {s : State} {m : MethodId} {args : Array Value} {below : List Frame} {meth : Method} {c : Code} {D : va_G} {cI cZ : ClassId} {ad : Nat → Nat} (C : pv_C p s m args meth c cX8_prior 4 RX8 D cI cZ ad (pv_A ad)) (hr : meth.sig.returnType = some .int) (R0 : (Int32 × pv_S)) (p0 : Int32) (σ : pv_S) (h : f_X8_prior p0 σ = some R0) : Wx p l e r_X8_prior s m args below meth c 0 0 (MQ below (pv_QI D cI cZ ad R0) args s 0 0 (pv_A ad)) 4 D cI cZ ad (pv_A ad) 0 [(0, .ref (ad 8)), (1, .int p0)] [] σ := by
  unfold f_X8_prior at h
  refine x_iconst (v := (-1)) C dX8_prior_0 (by decide) ?_
  refine x_istore_n (lv' := [(2, .int (-1)), (0, .ref (ad 8)), (1, .int p0)]) C dX8_prior_1 rfl (by decide) rfl ?_
  refine x_iconst (v := 0) C dX8_prior_2 (by decide) ?_
  refine x_istore_n (lv' := [(3, .int 0), (2, .int (-1)), (0, .ref (ad 8)), (1, .int p0)]) C dX8_prior_3 rfl (by decide) rfl ?_
  refine x_sub [2, 3, 1, 0] rfl ?_
  exact w_X8_prior_4 C hr R0 pv_FU p0 (-1) 0 σ h
theorem m_X8_prior (l : Launch) (D : va_G) (cI cZ : ClassId) (ad : Nat → Nat) (hJ : pv_J ad) (p0 : Int32) (σ : pv_S) (R0 : (Int32 × pv_S)) (h : f_X8_prior p0 σ = some R0) : Met l yX8_prior (Cond.code yX8_prior cX8_prior 4 (some .int) :: lwG) r_X8_prior (va_Pc [.ref (ad 8), .int p0] (pv_P D cI cZ ad σ)) (pv_QI D cI cZ ad R0) 0 0 (pv_A ad) := x_met (by decide) rfl hJ (Nat.le_of_ble_eq_true rfl) (fun p e s m args below meth c C hr => w_X8_prior_0 C hr R0 p0 σ h)
abbrev r_X8_voices : Room := { frames := 1, cells := 0, slots := 0, locals := 23 }
set_option maxRecDepth 100000 in
set_option maxHeartbeats 4000000 in
theorem w_X8_voices_4 {p : Program} {l : Launch} {e : Env} {s : State} {m : MethodId} {args : Array Value} {below : List Frame} {meth : Method} {c : Code} {D : va_G} {cI cZ : ClassId} {ad : Nat → Nat} (C : pv_C p s m args meth c cX8_voices 3 RX8 D cI cZ ad (pv_A ad)) (hr : meth.sig.returnType = some .int) (R0 : (Int32 × pv_S)) : ∀ (n : Nat) (v1 : Int32) (v2 : Int32) (σ : pv_S), f_X8_voices_4 n v1 v2 σ = some R0 → Wx p l e r_X8_voices s m args below meth c 0 0 (MQ below (pv_QI D cI cZ ad R0) args s 0 0 (pv_A ad)) 3 D cI cZ ad (pv_A ad) 4 [(0, .ref (ad 8)), (1, .int v1), (2, .int v2)] [] σ := by
  intro n
  induction n with
  | zero =>
    intro v1 v2 σ h
    have h2 : (none : Option (Int32 × pv_S)) = some R0 := h
    cases h2
  | succ n ih =>
    intro v1 v2 σ h
    unfold f_X8_voices_4 at h
    refine x_iload_n C dX8_voices_4 rfl 2 rfl ?_
    refine x_aload_n C dX8_voices_5 rfl 0 rfl ?_
    refine xg_X8_7 C dX8_voices_6 ?_
    refine x_iconst (v := 0) C dX8_voices_9 (by decide) ?_
    obtain ⟨g1, h⟩ := gd_some h
    refine xl_13 C g1 dX8_voices_10 ?_
    refine x_icmp_ge C 37 dX8_voices_11 (by decide) (fun c2 => ?_) (fun c2 => ?_)
    · have h := (if_pos c2).symm.trans h
      refine x_iload_n C dX8_voices_37 rfl 1 rfl ?_
      exact x_iret C hr dX8_voices_38 (Option.some.inj h)
    · have h := (if_neg c2).symm.trans h
      refine x_iload_n C dX8_voices_14 rfl 1 rfl ?_
      refine x_aload_n C dX8_voices_15 rfl 0 rfl ?_
      refine x_iload_n C dX8_voices_16 rfl 2 rfl ?_
      obtain ⟨q3, eq3, h⟩ := gb_some h
      refine x_vi (st := [.int v1]) C kY_X8_prior 8 8 rfl rfl rfl (m_X8_prior l D cI cZ ad C.2.2.2.2.2.2.1 v2 σ q3 eq3) kl_X8_72 ⟨rfl, rfl⟩ ⟨Nat.le_of_ble_eq_true rfl, Nat.le_of_ble_eq_true rfl⟩ ⟨Nat.zero_le _, Nat.zero_le _⟩ rfl rfl (Nat.le_of_ble_eq_true rfl) dX8_voices_17 ?_
      refine x_iconst (v := (-1)) C dX8_voices_20 (by decide) ?_
      refine x_icmp_ne C 28 dX8_voices_21 (by decide) (fun c4 => ?_) (fun c4 => ?_)
      · have h := (if_neg c4).symm.trans h
        refine x_iconst (v := 0) C dX8_voices_28 (by decide) ?_
        refine x_iadd C dX8_voices_29 ?_
        refine x_istore_n (lv' := [(1, .int (v1 + 0)), (0, .ref (ad 8)), (2, .int v2)]) C dX8_voices_30 rfl (by decide) rfl ?_
        refine x_iinc (v := (v2 + 1)) (lv' := [(2, .int (v2 + 1)), (1, .int (v1 + 0)), (0, .ref (ad 8))]) C 2 dX8_voices_31 rfl rfl (by decide) rfl ?_
        refine x_goto C 4 dX8_voices_34 (by decide) ?_
        refine x_sub [2, 1, 0] rfl ?_
        exact ih (v1 + 0) (v2 + 1) q3.2 h
      · have h := (if_pos c4).symm.trans h
        refine x_iconst (v := 1) C dX8_voices_24 (by decide) ?_
        refine x_goto C 29 dX8_voices_25 (by decide) ?_
        refine x_iadd C dX8_voices_29 ?_
        refine x_istore_n (lv' := [(1, .int (v1 + 1)), (0, .ref (ad 8)), (2, .int v2)]) C dX8_voices_30 rfl (by decide) rfl ?_
        refine x_iinc (v := (v2 + 1)) (lv' := [(2, .int (v2 + 1)), (1, .int (v1 + 1)), (0, .ref (ad 8))]) C 2 dX8_voices_31 rfl rfl (by decide) rfl ?_
        refine x_goto C 4 dX8_voices_34 (by decide) ?_
        refine x_sub [2, 1, 0] rfl ?_
        exact ih (v1 + 1) (v2 + 1) q3.2 h
set_option maxRecDepth 100000 in
set_option maxHeartbeats 4000000 in
theorem w_X8_voices_0 {p : Program} {l : Launch} {e : Env} {s : State} {m : MethodId} {args : Array Value} {below : List Frame} {meth : Method} {c : Code} {D : va_G} {cI cZ : ClassId} {ad : Nat → Nat} (C : pv_C p s m args meth c cX8_voices 3 RX8 D cI cZ ad (pv_A ad)) (hr : meth.sig.returnType = some .int) (R0 : (Int32 × pv_S)) (σ : pv_S) (h : f_X8_voices σ = some R0) : Wx p l e r_X8_voices s m args below meth c 0 0 (MQ below (pv_QI D cI cZ ad R0) args s 0 0 (pv_A ad)) 3 D cI cZ ad (pv_A ad) 0 [(0, .ref (ad 8))] [] σ := by
  unfold f_X8_voices at h
  refine x_iconst (v := 0) C dX8_voices_0 (by decide) ?_
  refine x_istore_n (lv' := [(1, .int 0), (0, .ref (ad 8))]) C dX8_voices_1 rfl (by decide) rfl ?_
  refine x_iconst (v := 0) C dX8_voices_2 (by decide) ?_
  refine x_istore_n (lv' := [(2, .int 0), (1, .int 0), (0, .ref (ad 8))]) C dX8_voices_3 rfl (by decide) rfl ?_
  refine x_sub [2, 1, 0] rfl ?_
  exact w_X8_voices_4 C hr R0 pv_FU 0 0 σ h
theorem m_X8_voices (l : Launch) (D : va_G) (cI cZ : ClassId) (ad : Nat → Nat) (hJ : pv_J ad)  (σ : pv_S) (R0 : (Int32 × pv_S)) (h : f_X8_voices σ = some R0) : Met l yX8_voices (Cond.code yX8_voices cX8_voices 3 (some .int) :: lwG) r_X8_voices (va_Pc [.ref (ad 8)] (pv_P D cI cZ ad σ)) (pv_QI D cI cZ ad R0) 0 0 (pv_A ad) := x_met (by decide) rfl hJ (Nat.le_of_ble_eq_true rfl) (fun p e s m args below meth c C hr => w_X8_voices_0 C hr R0 σ h)
abbrev r_X8_off : Room := { frames := 0, cells := 0, slots := 0, locals := 0 }
set_option maxRecDepth 100000 in
set_option maxHeartbeats 4000000 in
theorem w_X8_off_0 {p : Program} {l : Launch} {e : Env} {s : State} {m : MethodId} {args : Array Value} {below : List Frame} {meth : Method} {c : Code} {D : va_G} {cI cZ : ClassId} {ad : Nat → Nat} (C : pv_C p s m args meth c cX8_off 2 RX8 D cI cZ ad (pv_A ad)) (hr : meth.sig.returnType = some .int) (R0 : (Int32 × pv_S)) (p0 : Int32) (σ : pv_S) (h : f_X8_off p0 σ = some R0) : Wx p l e r_X8_off s m args below meth c 0 0 (MQ below (pv_QI D cI cZ ad R0) args s 0 0 (pv_A ad)) 2 D cI cZ ad (pv_A ad) 0 [(0, .ref (ad 8)), (1, .int p0)] [] σ := by
  unfold f_X8_off at h
  refine x_aload_n C dX8_off_0 rfl 0 rfl ?_
  refine xg_X8_7 C dX8_off_1 ?_
  refine x_bipush (v := 6) C dX8_off_4 (by decide) ?_
  refine x_iload_n C dX8_off_6 rfl 1 rfl ?_
  refine x_iadd C dX8_off_7 ?_
  obtain ⟨g1, h⟩ := gd_some h
  refine xl_13 C g1 dX8_off_8 ?_
  refine x_aload_n C dX8_off_9 rfl 0 rfl ?_
  refine xg_X8_7 C dX8_off_10 ?_
  refine x_bipush (v := 16) C dX8_off_13 (by decide) ?_
  refine x_iload_n C dX8_off_15 rfl 1 rfl ?_
  refine x_iadd C dX8_off_16 ?_
  obtain ⟨g2, h⟩ := gd_some h
  refine xl_13 C g2 dX8_off_17 ?_
  refine x_iadd C dX8_off_18 ?_
  exact x_iret C hr dX8_off_19 (Option.some.inj h)
theorem m_X8_off (l : Launch) (D : va_G) (cI cZ : ClassId) (ad : Nat → Nat) (hJ : pv_J ad) (p0 : Int32) (σ : pv_S) (R0 : (Int32 × pv_S)) (h : f_X8_off p0 σ = some R0) : Met l yX8_off (Cond.code yX8_off cX8_off 2 (some .int) :: lwG) r_X8_off (va_Pc [.ref (ad 8), .int p0] (pv_P D cI cZ ad σ)) (pv_QI D cI cZ ad R0) 0 0 (pv_A ad) := x_met (by decide) rfl hJ (Nat.le_of_ble_eq_true rfl) (fun p e s m args below meth c C hr => w_X8_off_0 C hr R0 p0 σ h)
abbrev r_X8_costOf : Room := { frames := 1, cells := 0, slots := 0, locals := 21 }
set_option maxRecDepth 100000 in
set_option maxHeartbeats 4000000 in
theorem w_X8_costOf_30 {p : Program} {l : Launch} {e : Env} {s : State} {m : MethodId} {args : Array Value} {below : List Frame} {meth : Method} {c : Code} {D : va_G} {cI cZ : ClassId} {ad : Nat → Nat} (C : pv_C p s m args meth c cX8_costOf 4 RX8 D cI cZ ad (pv_A ad)) (hr : meth.sig.returnType = some .int) (R0 : (Int32 × pv_S)) (v1 : Int32) (v2 : Int32) (s0 : Int32) (σ : pv_S) (h : f_X8_costOf_30 v1 v2 s0 σ = some R0) : Wx p l e r_X8_costOf s m args below meth c 0 0 (MQ below (pv_QI D cI cZ ad R0) args s 0 0 (pv_A ad)) 4 D cI cZ ad (pv_A ad) 30 [(0, .ref (ad 8)), (1, .int v1), (2, .int v2)] [.int s0] σ := by
  unfold f_X8_costOf_30 at h
  refine x_istore_n (lv' := [(3, .int s0), (0, .ref (ad 8)), (1, .int v1), (2, .int v2)]) C dX8_costOf_30 rfl (by decide) rfl ?_
  refine x_aload_n C dX8_costOf_31 rfl 1 rfl ?_
  refine xg_X8_7 C dX8_costOf_32 ?_
  refine x_iconst (v := 1) C dX8_costOf_35 (by decide) ?_
  obtain ⟨g1, h⟩ := gd_some h
  refine xl_13 C g1 dX8_costOf_36 ?_
  refine x_iload_n C dX8_costOf_37 rfl 0 rfl ?_
  refine x_imul C dX8_costOf_38 ?_
  refine x_aload_n C dX8_costOf_39 rfl 1 rfl ?_
  refine xg_X8_7 C dX8_costOf_40 ?_
  refine x_iconst (v := 2) C dX8_costOf_43 (by decide) ?_
  obtain ⟨g2, h⟩ := gd_some h
  refine xl_13 C g2 dX8_costOf_44 ?_
  refine x_aload_n C dX8_costOf_45 rfl 1 rfl ?_
  refine xg_X8_7 C dX8_costOf_46 ?_
  refine x_bipush (v := 6) C dX8_costOf_49 (by decide) ?_
  refine x_iload_n C dX8_costOf_51 rfl 3 rfl ?_
  refine x_iadd C dX8_costOf_52 ?_
  obtain ⟨g3, h⟩ := gd_some h
  refine xl_13 C g3 dX8_costOf_53 ?_
  refine x_aload_n C dX8_costOf_54 rfl 1 rfl ?_
  refine x_iload_n C dX8_costOf_55 rfl 2 rfl ?_
  obtain ⟨q4, eq4, h⟩ := gb_some h
  refine x_vi (st := [.int (pv_la σ 13 (6 + v2)), .int (pv_la σ 13 2), .int ((pv_la σ 13 1) * s0)]) C kY_X8_off 8 8 rfl rfl rfl (m_X8_off l D cI cZ ad C.2.2.2.2.2.2.1 v1 σ q4 eq4) kl_X8_36 ⟨rfl, rfl⟩ ⟨Nat.le_of_ble_eq_true rfl, Nat.le_of_ble_eq_true rfl⟩ ⟨Nat.zero_le _, Nat.zero_le _⟩ rfl rfl (Nat.le_of_ble_eq_true rfl) dX8_costOf_56 ?_
  refine x_isub C dX8_costOf_59 ?_
  refine x_imul C dX8_costOf_60 ?_
  refine x_iadd C dX8_costOf_61 ?_
  refine x_iload_n C dX8_costOf_62 rfl 0 rfl ?_
  refine x_bipush (v := 12) C dX8_costOf_63 (by decide) ?_
  refine x_icmp_le C 77 dX8_costOf_65 (by decide) (fun c5 => ?_) (fun c5 => ?_)
  · have h := (if_pos c5).symm.trans h
    refine x_iconst (v := 0) C dX8_costOf_77 (by decide) ?_
    refine x_iadd C dX8_costOf_78 ?_
    exact x_iret C hr dX8_costOf_79 (Option.some.inj h)
  · have h := (if_neg c5).symm.trans h
    refine x_aload_n C dX8_costOf_68 rfl 1 rfl ?_
    refine xg_X8_7 C dX8_costOf_69 ?_
    refine x_iconst (v := 3) C dX8_costOf_72 (by decide) ?_
    obtain ⟨g6, h⟩ := gd_some h
    refine xl_13 C g6 dX8_costOf_73 ?_
    refine x_goto C 78 dX8_costOf_74 (by decide) ?_
    refine x_iadd C dX8_costOf_78 ?_
    exact x_iret C hr dX8_costOf_79 (Option.some.inj h)
set_option maxRecDepth 100000 in
set_option maxHeartbeats 4000000 in
theorem w_X8_costOf_0 {p : Program} {l : Launch} {e : Env} {s : State} {m : MethodId} {args : Array Value} {below : List Frame} {meth : Method} {c : Code} {D : va_G} {cI cZ : ClassId} {ad : Nat → Nat} (C : pv_C p s m args meth c cX8_costOf 4 RX8 D cI cZ ad (pv_A ad)) (hr : meth.sig.returnType = some .int) (R0 : (Int32 × pv_S)) (p0 : Int32) (p1 : Int32) (σ : pv_S) (h : f_X8_costOf p0 p1 σ = some R0) : Wx p l e r_X8_costOf s m args below meth c 0 0 (MQ below (pv_QI D cI cZ ad R0) args s 0 0 (pv_A ad)) 4 D cI cZ ad (pv_A ad) 0 [(0, .ref (ad 8)), (1, .int p0), (2, .int p1)] [] σ := by
  unfold f_X8_costOf at h
  refine x_aload_n C dX8_costOf_0 rfl 0 rfl ?_
  refine xg_X8_7 C dX8_costOf_1 ?_
  refine x_bipush (v := 26) C dX8_costOf_4 (by decide) ?_
  refine x_iload_n C dX8_costOf_6 rfl 1 rfl ?_
  refine x_iadd C dX8_costOf_7 ?_
  obtain ⟨g1, h⟩ := gd_some h
  refine xl_13 C g1 dX8_costOf_8 ?_
  refine x_aload_n C dX8_costOf_9 rfl 0 rfl ?_
  refine xg_X8_7 C dX8_costOf_10 ?_
  refine x_bipush (v := 26) C dX8_costOf_13 (by decide) ?_
  refine x_iload_n C dX8_costOf_15 rfl 2 rfl ?_
  refine x_iadd C dX8_costOf_16 ?_
  obtain ⟨g2, h⟩ := gd_some h
  refine xl_13 C g2 dX8_costOf_17 ?_
  refine x_isub C dX8_costOf_18 ?_
  refine x_istore_n (lv' := [(3, .int ((pv_la σ 13 (26 + p0)) - (pv_la σ 13 (26 + p1)))), (0, .ref (ad 8)), (1, .int p0), (2, .int p1)]) C dX8_costOf_19 rfl (by decide) rfl ?_
  refine x_iload_n C dX8_costOf_20 rfl 0 rfl ?_
  refine x_if_ge C 29 dX8_costOf_21 (by decide) (fun c3 => ?_) (fun c3 => ?_)
  · have h := (if_pos c3).symm.trans h
    refine x_iload_n C dX8_costOf_29 rfl 0 rfl ?_
    refine x_sub [1, 2, 3] rfl ?_
    exact w_X8_costOf_30 C hr R0 p0 p1 ((pv_la σ 13 (26 + p0)) - (pv_la σ 13 (26 + p1))) σ h
  · have h := (if_neg c3).symm.trans h
    refine x_iload_n C dX8_costOf_24 rfl 0 rfl ?_
    refine x_ineg C dX8_costOf_25 ?_
    refine x_goto C 30 dX8_costOf_26 (by decide) ?_
    refine x_sub [1, 2, 3] rfl ?_
    exact w_X8_costOf_30 C hr R0 p0 p1 (-((pv_la σ 13 (26 + p0)) - (pv_la σ 13 (26 + p1)))) σ h
theorem m_X8_costOf (l : Launch) (D : va_G) (cI cZ : ClassId) (ad : Nat → Nat) (hJ : pv_J ad) (p0 : Int32) (p1 : Int32) (σ : pv_S) (R0 : (Int32 × pv_S)) (h : f_X8_costOf p0 p1 σ = some R0) : Met l yX8_costOf (Cond.code yX8_costOf cX8_costOf 4 (some .int) :: lwG) r_X8_costOf (va_Pc [.ref (ad 8), .int p0, .int p1] (pv_P D cI cZ ad σ)) (pv_QI D cI cZ ad R0) 0 0 (pv_A ad) := x_met (by decide) rfl hJ (Nat.le_of_ble_eq_true rfl) (fun p e s m args below meth c C hr => w_X8_costOf_0 C hr R0 p0 p1 σ h)
abbrev r_X8_costNow : Room := { frames := 2, cells := 0, slots := 0, locals := 45 }
set_option maxRecDepth 100000 in
set_option maxHeartbeats 4000000 in
theorem w_X8_costNow_14 {p : Program} {l : Launch} {e : Env} {s : State} {m : MethodId} {args : Array Value} {below : List Frame} {meth : Method} {c : Code} {D : va_G} {cI cZ : ClassId} {ad : Nat → Nat} (C : pv_C p s m args meth c cX8_costNow 3 RX8 D cI cZ ad (pv_A ad)) (hr : meth.sig.returnType = some .int) (R0 : (Int32 × pv_S)) : ∀ (n : Nat) (v1 : Int32) (v2 : Int32) (σ : pv_S), f_X8_costNow_14 n v1 v2 σ = some R0 → Wx p l e r_X8_costNow s m args below meth c 0 0 (MQ below (pv_QI D cI cZ ad R0) args s 0 0 (pv_A ad)) 3 D cI cZ ad (pv_A ad) 14 [(0, .ref (ad 8)), (1, .int v1), (2, .int v2)] [] σ := by
  intro n
  induction n with
  | zero =>
    intro v1 v2 σ h
    have h2 : (none : Option (Int32 × pv_S)) = some R0 := h
    cases h2
  | succ n ih =>
    intro v1 v2 σ h
    unfold f_X8_costNow_14 at h
    refine x_iload_n C dX8_costNow_14 rfl 2 rfl ?_
    refine x_aload_n C dX8_costNow_15 rfl 0 rfl ?_
    refine xg_X8_7 C dX8_costNow_16 ?_
    refine x_iconst (v := 0) C dX8_costNow_19 (by decide) ?_
    obtain ⟨g1, h⟩ := gd_some h
    refine xl_13 C g1 dX8_costNow_20 ?_
    refine x_icmp_ge C 63 dX8_costNow_21 (by decide) (fun c2 => ?_) (fun c2 => ?_)
    · have h := (if_pos c2).symm.trans h
      refine x_iload_n C dX8_costNow_63 rfl 1 rfl ?_
      exact x_iret C hr dX8_costNow_64 (Option.some.inj h)
    · have h := (if_neg c2).symm.trans h
      refine x_iload_n C dX8_costNow_24 rfl 1 rfl ?_
      refine x_aload_n C dX8_costNow_25 rfl 0 rfl ?_
      refine xg_X8_7 C dX8_costNow_26 ?_
      refine x_bipush (v := 36) C dX8_costNow_29 (by decide) ?_
      refine x_iload_n C dX8_costNow_31 rfl 2 rfl ?_
      refine x_iadd C dX8_costNow_32 ?_
      obtain ⟨g3, h⟩ := gd_some h
      refine xl_13 C g3 dX8_costNow_33 ?_
      refine x_if_ge C 41 dX8_costNow_34 (by decide) (fun c4 => ?_) (fun c4 => ?_)
      · have h := (if_pos c4).symm.trans h
        refine x_aload_n C dX8_costNow_41 rfl 0 rfl ?_
        refine x_iload_n C dX8_costNow_42 rfl 2 rfl ?_
        refine x_aload_n C dX8_costNow_43 rfl 0 rfl ?_
        refine xg_X8_7 C dX8_costNow_44 ?_
        refine x_bipush (v := 36) C dX8_costNow_47 (by decide) ?_
        refine x_iload_n C dX8_costNow_49 rfl 2 rfl ?_
        refine x_iadd C dX8_costNow_50 ?_
        obtain ⟨g5, h⟩ := gd_some h
        refine xl_13 C g5 dX8_costNow_51 ?_
        obtain ⟨q6, eq6, h⟩ := gb_some h
        refine x_vi (st := [.int v1]) C kY_X8_costOf 8 8 rfl rfl rfl (m_X8_costOf l D cI cZ ad C.2.2.2.2.2.2.1 v2 (pv_la σ 13 (36 + v2)) σ q6 eq6) kl_X8_52 ⟨rfl, rfl⟩ ⟨Nat.le_of_ble_eq_true rfl, Nat.le_of_ble_eq_true rfl⟩ ⟨Nat.zero_le _, Nat.zero_le _⟩ rfl rfl (Nat.le_of_ble_eq_true rfl) dX8_costNow_52 ?_
        refine x_iadd C dX8_costNow_55 ?_
        refine x_istore_n (lv' := [(1, .int (v1 + q6.1)), (0, .ref (ad 8)), (2, .int v2)]) C dX8_costNow_56 rfl (by decide) rfl ?_
        refine x_iinc (v := (v2 + 1)) (lv' := [(2, .int (v2 + 1)), (1, .int (v1 + q6.1)), (0, .ref (ad 8))]) C 2 dX8_costNow_57 rfl rfl (by decide) rfl ?_
        refine x_goto C 14 dX8_costNow_60 (by decide) ?_
        refine x_sub [2, 1, 0] rfl ?_
        exact ih (v1 + q6.1) (v2 + 1) q6.2 h
      · have h := (if_neg c4).symm.trans h
        refine x_iconst (v := 0) C dX8_costNow_37 (by decide) ?_
        refine x_goto C 55 dX8_costNow_38 (by decide) ?_
        refine x_iadd C dX8_costNow_55 ?_
        refine x_istore_n (lv' := [(1, .int (v1 + 0)), (0, .ref (ad 8)), (2, .int v2)]) C dX8_costNow_56 rfl (by decide) rfl ?_
        refine x_iinc (v := (v2 + 1)) (lv' := [(2, .int (v2 + 1)), (1, .int (v1 + 0)), (0, .ref (ad 8))]) C 2 dX8_costNow_57 rfl rfl (by decide) rfl ?_
        refine x_goto C 14 dX8_costNow_60 (by decide) ?_
        refine x_sub [2, 1, 0] rfl ?_
        exact ih (v1 + 0) (v2 + 1) σ h
set_option maxRecDepth 100000 in
set_option maxHeartbeats 4000000 in
theorem w_X8_costNow_0 {p : Program} {l : Launch} {e : Env} {s : State} {m : MethodId} {args : Array Value} {below : List Frame} {meth : Method} {c : Code} {D : va_G} {cI cZ : ClassId} {ad : Nat → Nat} (C : pv_C p s m args meth c cX8_costNow 3 RX8 D cI cZ ad (pv_A ad)) (hr : meth.sig.returnType = some .int) (R0 : (Int32 × pv_S)) (σ : pv_S) (h : f_X8_costNow σ = some R0) : Wx p l e r_X8_costNow s m args below meth c 0 0 (MQ below (pv_QI D cI cZ ad R0) args s 0 0 (pv_A ad)) 3 D cI cZ ad (pv_A ad) 0 [(0, .ref (ad 8))] [] σ := by
  unfold f_X8_costNow at h
  refine x_aload_n C dX8_costNow_0 rfl 0 rfl ?_
  obtain ⟨q1, eq1, h⟩ := gb_some h
  refine x_vi (st := []) C kY_X8_voices 8 8 rfl rfl rfl (m_X8_voices l D cI cZ ad C.2.2.2.2.2.2.1 σ q1 eq1) kl_X8_75 ⟨rfl, rfl⟩ ⟨Nat.le_of_ble_eq_true rfl, Nat.le_of_ble_eq_true rfl⟩ ⟨Nat.zero_le _, Nat.zero_le _⟩ rfl rfl (Nat.le_of_ble_eq_true rfl) dX8_costNow_1 ?_
  refine x_aload_n C dX8_costNow_4 rfl 0 rfl ?_
  refine xg_X8_7 C dX8_costNow_5 ?_
  refine x_iconst (v := 4) C dX8_costNow_8 (by decide) ?_
  obtain ⟨g2, h⟩ := gd_some h
  refine xl_13 C g2 dX8_costNow_9 ?_
  refine x_imul C dX8_costNow_10 ?_
  refine x_istore_n (lv' := [(1, .int (q1.1 * (pv_la q1.2 13 4))), (0, .ref (ad 8))]) C dX8_costNow_11 rfl (by decide) rfl ?_
  refine x_iconst (v := 0) C dX8_costNow_12 (by decide) ?_
  refine x_istore_n (lv' := [(2, .int 0), (1, .int (q1.1 * (pv_la q1.2 13 4))), (0, .ref (ad 8))]) C dX8_costNow_13 rfl (by decide) rfl ?_
  refine x_sub [2, 1, 0] rfl ?_
  exact w_X8_costNow_14 C hr R0 pv_FU (q1.1 * (pv_la q1.2 13 4)) 0 q1.2 h
theorem m_X8_costNow (l : Launch) (D : va_G) (cI cZ : ClassId) (ad : Nat → Nat) (hJ : pv_J ad)  (σ : pv_S) (R0 : (Int32 × pv_S)) (h : f_X8_costNow σ = some R0) : Met l yX8_costNow (Cond.code yX8_costNow cX8_costNow 3 (some .int) :: lwG) r_X8_costNow (va_Pc [.ref (ad 8)] (pv_P D cI cZ ad σ)) (pv_QI D cI cZ ad R0) 0 0 (pv_A ad) := x_met (by decide) rfl hJ (Nat.le_of_ble_eq_true rfl) (fun p e s m args below meth c C hr => w_X8_costNow_0 C hr R0 σ h)
abbrev r_X8_in : Room := { frames := 0, cells := 0, slots := 0, locals := 0 }
set_option maxRecDepth 100000 in
set_option maxHeartbeats 4000000 in
theorem w_X8_in_0 {p : Program} {l : Launch} {e : Env} {s : State} {m : MethodId} {args : Array Value} {below : List Frame} {meth : Method} {c : Code} {D : va_G} {cI cZ : ClassId} {ad : Nat → Nat} (C : pv_C p s m args meth c cX8_in 6 RX8 D cI cZ ad (pv_A ad)) (hr : meth.sig.returnType = some .boolean) (R0 : (Int32 × pv_S)) (p0 : Int64) (p1 : Int64) (p2 : Int64) (σ : pv_S) (h : f_X8_in p0 p1 p2 σ = some R0) : Wx p l e r_X8_in s m args below meth c 0 0 (MQ below (pv_QI D cI cZ ad R0) args s 0 0 (pv_A ad)) 6 D cI cZ ad (pv_A ad) 0 [(0, .long p0), (2, .long p1), (4, .long p2)] [] σ := by
  unfold f_X8_in at h
  refine x_lload_n C dX8_in_0 rfl 0 rfl ?_
  refine x_lload_n C dX8_in_1 rfl 1 rfl ?_
  refine x_lcmp C dX8_in_2 ?_
  refine x_if_lt C 17 dX8_in_3 (by decide) (fun c1 => ?_) (fun c1 => ?_)
  · have h := (if_pos c1).symm.trans h
    refine x_iconst (v := 0) C dX8_in_17 (by decide) ?_
    exact x_zret C hr rfl dX8_in_18 (Option.some.inj h)
  · have h := (if_neg c1).symm.trans h
    refine x_lload_n C dX8_in_6 rfl 0 rfl ?_
    refine x_lload C dX8_in_7 2 rfl ?_
    refine x_lcmp C dX8_in_9 ?_
    refine x_if_gt C 17 dX8_in_10 (by decide) (fun c2 => ?_) (fun c2 => ?_)
    · have h := (if_pos c2).symm.trans h
      refine x_iconst (v := 0) C dX8_in_17 (by decide) ?_
      exact x_zret C hr rfl dX8_in_18 (Option.some.inj h)
    · have h := (if_neg c2).symm.trans h
      refine x_iconst (v := 1) C dX8_in_13 (by decide) ?_
      refine x_goto C 18 dX8_in_14 (by decide) ?_
      exact x_zret C hr rfl dX8_in_18 (Option.some.inj h)
theorem m_X8_in (l : Launch) (D : va_G) (cI cZ : ClassId) (ad : Nat → Nat) (hJ : pv_J ad) (p0 : Int64) (p1 : Int64) (p2 : Int64) (σ : pv_S) (R0 : (Int32 × pv_S)) (h : f_X8_in p0 p1 p2 σ = some R0) : Met l yX8_in (Cond.code yX8_in cX8_in 6 (some .boolean) :: lwG) r_X8_in (va_Pc [.long p0, .long p1, .long p2] (pv_P D cI cZ ad σ)) (pv_QI D cI cZ ad R0) 0 0 (pv_A ad) := x_met (by decide) rfl hJ (Nat.le_of_ble_eq_true rfl) (fun p e s m args below meth c C hr => w_X8_in_0 C hr R0 p0 p1 p2 σ h)
abbrev r_X8_bestAt : Room := { frames := 0, cells := 0, slots := 0, locals := 0 }
set_option maxRecDepth 100000 in
set_option maxHeartbeats 4000000 in
theorem w_X8_bestAt_0 {p : Program} {l : Launch} {e : Env} {s : State} {m : MethodId} {args : Array Value} {below : List Frame} {meth : Method} {c : Code} {D : va_G} {cI cZ : ClassId} {ad : Nat → Nat} (C : pv_C p s m args meth c cX8_bestAt 3 RX8 D cI cZ ad (pv_A ad)) (hr : meth.sig.returnType = some .int) (R0 : (Int32 × pv_S)) (p0 : Int32) (p1 : Int32) (σ : pv_S) (h : f_X8_bestAt p0 p1 σ = some R0) : Wx p l e r_X8_bestAt s m args below meth c 0 0 (MQ below (pv_QI D cI cZ ad R0) args s 0 0 (pv_A ad)) 3 D cI cZ ad (pv_A ad) 0 [(0, .ref (ad 8)), (1, .int p0), (2, .int p1)] [] σ := by
  unfold f_X8_bestAt at h
  refine x_aload_n C dX8_bestAt_0 rfl 0 rfl ?_
  refine xg_X8_22 C dX8_bestAt_1 ?_
  refine x_sipush (v := 1024) C dX8_bestAt_4 (by decide) ?_
  refine x_iload_n C dX8_bestAt_7 rfl 1 rfl ?_
  refine x_imul C dX8_bestAt_8 ?_
  refine x_iload_n C dX8_bestAt_9 rfl 2 rfl ?_
  refine x_iadd C dX8_bestAt_10 ?_
  obtain ⟨g1, h⟩ := gd_some h
  refine xl_17 C g1 dX8_bestAt_11 ?_
  exact x_iret C hr dX8_bestAt_12 (Option.some.inj h)
theorem m_X8_bestAt (l : Launch) (D : va_G) (cI cZ : ClassId) (ad : Nat → Nat) (hJ : pv_J ad) (p0 : Int32) (p1 : Int32) (σ : pv_S) (R0 : (Int32 × pv_S)) (h : f_X8_bestAt p0 p1 σ = some R0) : Met l yX8_bestAt (Cond.code yX8_bestAt cX8_bestAt 3 (some .int) :: lwG) r_X8_bestAt (va_Pc [.ref (ad 8), .int p0, .int p1] (pv_P D cI cZ ad σ)) (pv_QI D cI cZ ad R0) 0 0 (pv_A ad) := x_met (by decide) rfl hJ (Nat.le_of_ble_eq_true rfl) (fun p e s m args below meth c C hr => w_X8_bestAt_0 C hr R0 p0 p1 σ h)
abbrev r_X8_may : Room := { frames := 1, cells := 0, slots := 0, locals := 25 }
set_option maxRecDepth 100000 in
set_option maxHeartbeats 4000000 in
theorem w_X8_may_0 {p : Program} {l : Launch} {e : Env} {s : State} {m : MethodId} {args : Array Value} {below : List Frame} {meth : Method} {c : Code} {D : va_G} {cI cZ : ClassId} {ad : Nat → Nat} (C : pv_C p s m args meth c cX8_may 3 RX8 D cI cZ ad (pv_A ad)) (hr : meth.sig.returnType = some .boolean) (R0 : (Int32 × pv_S)) (p0 : Int32) (p1 : Int32) (σ : pv_S) (h : f_X8_may p0 p1 σ = some R0) : Wx p l e r_X8_may s m args below meth c 0 0 (MQ below (pv_QI D cI cZ ad R0) args s 0 0 (pv_A ad)) 3 D cI cZ ad (pv_A ad) 0 [(0, .ref (ad 8)), (1, .int p0), (2, .int p1)] [] σ := by
  unfold f_X8_may at h
  refine x_aload_n C dX8_may_0 rfl 0 rfl ?_
  refine xg_X8_7 C dX8_may_1 ?_
  refine x_bipush (v := 6) C dX8_may_4 (by decide) ?_
  refine x_iload_n C dX8_may_6 rfl 2 rfl ?_
  refine x_iadd C dX8_may_7 ?_
  obtain ⟨g1, h⟩ := gd_some h
  refine xl_13 C g1 dX8_may_8 ?_
  refine x_i2l C dX8_may_9 ?_
  refine x_aload_n C dX8_may_10 rfl 0 rfl ?_
  refine x_iload_n C dX8_may_11 rfl 1 rfl ?_
  obtain ⟨q2, eq2, h⟩ := gb_some h
  refine x_vi (st := [.long ((pv_la σ 13 (6 + p1))).toInt64]) C kY_X8_off 8 8 rfl rfl rfl (m_X8_off l D cI cZ ad C.2.2.2.2.2.2.1 p0 σ q2 eq2) kl_X8_36 ⟨rfl, rfl⟩ ⟨Nat.le_of_ble_eq_true rfl, Nat.le_of_ble_eq_true rfl⟩ ⟨Nat.zero_le _, Nat.zero_le _⟩ rfl rfl (Nat.le_of_ble_eq_true rfl) dX8_may_12 ?_
  refine x_i2l C dX8_may_15 ?_
  refine x_aload_n C dX8_may_16 rfl 0 rfl ?_
  refine x_iload_n C dX8_may_17 rfl 1 rfl ?_
  obtain ⟨q3, eq3, h⟩ := gb_some h
  refine x_vi (st := [.long q2.1.toInt64, .long ((pv_la σ 13 (6 + p1))).toInt64]) C kY_X8_off 8 8 rfl rfl rfl (m_X8_off l D cI cZ ad C.2.2.2.2.2.2.1 p0 q2.2 q3 eq3) kl_X8_36 ⟨rfl, rfl⟩ ⟨Nat.le_of_ble_eq_true rfl, Nat.le_of_ble_eq_true rfl⟩ ⟨Nat.zero_le _, Nat.zero_le _⟩ rfl rfl (Nat.le_of_ble_eq_true rfl) dX8_may_18 ?_
  refine x_aload_n C dX8_may_21 rfl 0 rfl ?_
  refine xg_X8_7 C dX8_may_22 ?_
  refine x_iconst (v := 5) C dX8_may_25 (by decide) ?_
  obtain ⟨g4, h⟩ := gd_some h
  refine xl_13 C g4 dX8_may_26 ?_
  refine x_iadd C dX8_may_27 ?_
  refine x_i2l C dX8_may_28 ?_
  obtain ⟨q5, eq5, h⟩ := gb_some h
  refine x_si (st := []) C kY_X8_in (m_X8_in l D cI cZ ad C.2.2.2.2.2.2.1 ((pv_la σ 13 (6 + p1))).toInt64 q2.1.toInt64 ((q3.1 + (pv_la q3.2 13 5))).toInt64 q3.2 q5 eq5) kl_X8_40 ⟨rfl, rfl⟩ ⟨Nat.le_of_ble_eq_true rfl, Nat.le_of_ble_eq_true rfl⟩ ⟨Nat.zero_le _, Nat.zero_le _⟩ rfl rfl (Nat.le_of_ble_eq_true rfl) dX8_may_29 ?_
  obtain ⟨g6, h⟩ := gz_some h
  exact x_zret C hr g6 dX8_may_32 (Option.some.inj h)
theorem m_X8_may (l : Launch) (D : va_G) (cI cZ : ClassId) (ad : Nat → Nat) (hJ : pv_J ad) (p0 : Int32) (p1 : Int32) (σ : pv_S) (R0 : (Int32 × pv_S)) (h : f_X8_may p0 p1 σ = some R0) : Met l yX8_may (Cond.code yX8_may cX8_may 3 (some .boolean) :: lwG) r_X8_may (va_Pc [.ref (ad 8), .int p0, .int p1] (pv_P D cI cZ ad σ)) (pv_QI D cI cZ ad R0) 0 0 (pv_A ad) := x_met (by decide) rfl hJ (Nat.le_of_ble_eq_true rfl) (fun p e s m args below meth c C hr => w_X8_may_0 C hr R0 p0 p1 σ h)
