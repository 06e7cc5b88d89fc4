abbrev r_X8_take : Room := { frames := 2, cells := 0, slots := 0, locals := 46 }
set_option maxRecDepth 100000 in
set_option maxHeartbeats 4000000 in
theorem w_X8_take_0 {p : Program} {l : Launch} {e : Env} {s : State} {m : MethodId} {args : Array Value} {below : List Frame} {meth : Method} {c : Code} {D : va_G} {cI cZ : ClassId} {ad : Nat → Nat} (C : pv_C p s m args meth c cX8_take 2 RX8 D cI cZ ad (pv_A ad)) (hr : meth.sig.returnType = some .int) (R0 : (Int32 × pv_S)) (p0 : Int32) (σ : pv_S) (h : f_X8_take p0 σ = some R0) : Wx p l e r_X8_take s m args below meth c 0 0 (MQ below (pv_QI D cI cZ ad R0) args s 0 0 (pv_A ad)) 2 D cI cZ ad (pv_A ad) 0 [(0, .ref (ad 8)), (1, .int p0)] [] σ := by
  unfold f_X8_take at h
  refine x_aload_n C dX8_take_0 rfl 0 rfl ?_
  refine x_iload_n C dX8_take_1 rfl 1 rfl ?_
  obtain ⟨q1, eq1, h⟩ := gb_some h
  refine x_vi (st := []) C kY_X8_isNote 8 8 rfl rfl rfl (m_X8_isNote l D cI cZ ad C.2.2.2.2.2.2.1 p0 σ q1 eq1) kl_X8_107 ⟨rfl, rfl⟩ ⟨Nat.le_of_ble_eq_true rfl, Nat.le_of_ble_eq_true rfl⟩ ⟨Nat.zero_le _, Nat.zero_le _⟩ rfl rfl (Nat.le_of_ble_eq_true rfl) dX8_take_2 ?_
  refine x_if_ne C 11 dX8_take_5 (by decide) (fun c2 => ?_) (fun c2 => ?_)
  · have h := (if_neg c2).symm.trans h
    refine x_aload_n C dX8_take_11 rfl 0 rfl ?_
    obtain ⟨q3, eq3, h⟩ := gb_some h
    refine x_vv (st := []) C kY_X8_remember 8 8 rfl rfl rfl (m_X8_remember l D cI cZ ad C.2.2.2.2.2.2.1 q1.2 q3 eq3) kl_X8_150 ⟨rfl, rfl⟩ ⟨Nat.le_of_ble_eq_true rfl, Nat.le_of_ble_eq_true rfl⟩ ⟨Nat.zero_le _, Nat.zero_le _⟩ rfl rfl (Nat.le_of_ble_eq_true rfl) dX8_take_12 ?_
    refine x_aload_n C dX8_take_15 rfl 0 rfl ?_
    refine x_iload_n C dX8_take_16 rfl 1 rfl ?_
    obtain ⟨q4, eq4, h⟩ := gb_some h
    refine x_vv (st := []) C kY_X8_remove 8 8 rfl rfl rfl (m_X8_remove l D cI cZ ad C.2.2.2.2.2.2.1 p0 q3 q4 eq4) kl_X8_156 ⟨rfl, rfl⟩ ⟨Nat.le_of_ble_eq_true rfl, Nat.le_of_ble_eq_true rfl⟩ ⟨Nat.zero_le _, Nat.zero_le _⟩ rfl rfl (Nat.le_of_ble_eq_true rfl) dX8_take_17 ?_
    refine x_aload_n C dX8_take_20 rfl 0 rfl ?_
    refine xg_X8_7 C dX8_take_21 ?_
    refine x_iconst (v := 0) C dX8_take_24 (by decide) ?_
    obtain ⟨g5, h⟩ := gd_some h
    refine xl_13 C g5 dX8_take_25 ?_
    exact x_iret C hr dX8_take_26 (Option.some.inj h)
  · have h := (if_pos c2).symm.trans h
    refine x_ldc C kc_X8_111 dX8_take_8 ?_
    exact x_iret C hr dX8_take_10 (Option.some.inj h)
theorem m_X8_take (l : Launch) (D : va_G) (cI cZ : ClassId) (ad : Nat → Nat) (hJ : pv_J ad) (p0 : Int32) (σ : pv_S) (R0 : (Int32 × pv_S)) (h : f_X8_take p0 σ = some R0) : Met l yX8_take (Cond.code yX8_take cX8_take 2 (some .int) :: lwG) r_X8_take (va_Pc [.ref (ad 8), .int p0] (pv_P D cI cZ ad σ)) (pv_QI D cI cZ ad R0) 0 0 (pv_A ad) := x_met (by decide) rfl hJ (Nat.le_of_ble_eq_true rfl) (fun p e s m args below meth c C hr => w_X8_take_0 C hr R0 p0 σ h)
abbrev r_X8_move : Room := { frames := 2, cells := 0, slots := 0, locals := 48 }
set_option maxRecDepth 100000 in
set_option maxHeartbeats 4000000 in
theorem w_X8_move_0 {p : Program} {l : Launch} {e : Env} {s : State} {m : MethodId} {args : Array Value} {below : List Frame} {meth : Method} {c : Code} {D : va_G} {cI cZ : ClassId} {ad : Nat → Nat} (C : pv_C p s m args meth c cX8_move 5 RX8 D cI cZ ad (pv_A ad)) (hr : meth.sig.returnType = some .int) (R0 : (Int32 × pv_S)) (p0 : Int32) (p1 : Int32) (p2 : Int32) (p3 : Int32) (σ : pv_S) (h : f_X8_move p0 p1 p2 p3 σ = some R0) : Wx p l e r_X8_move s m args below meth c 0 0 (MQ below (pv_QI D cI cZ ad R0) args s 0 0 (pv_A ad)) 5 D cI cZ ad (pv_A ad) 0 [(0, .ref (ad 8)), (1, .int p0), (2, .int p1), (3, .int p2), (4, .int p3)] [] σ := by
  unfold f_X8_move at h
  refine x_aload_n C dX8_move_0 rfl 0 rfl ?_
  refine x_iload_n C dX8_move_1 rfl 1 rfl ?_
  obtain ⟨q1, eq1, h⟩ := gb_some h
  refine x_vi (st := []) C kY_X8_isNote 8 8 rfl rfl rfl (m_X8_isNote l D cI cZ ad C.2.2.2.2.2.2.1 p0 σ q1 eq1) kl_X8_107 ⟨rfl, rfl⟩ ⟨Nat.le_of_ble_eq_true rfl, Nat.le_of_ble_eq_true rfl⟩ ⟨Nat.zero_le _, Nat.zero_le _⟩ rfl rfl (Nat.le_of_ble_eq_true rfl) dX8_move_2 ?_
  refine x_if_ne C 11 dX8_move_5 (by decide) (fun c2 => ?_) (fun c2 => ?_)
  · have h := (if_neg c2).symm.trans h
    refine x_aload_n C dX8_move_11 rfl 0 rfl ?_
    refine x_iload_n C dX8_move_12 rfl 2 rfl ?_
    refine x_iload_n C dX8_move_13 rfl 3 rfl ?_
    refine x_iload C dX8_move_14 4 rfl ?_
    obtain ⟨q3, eq3, h⟩ := gb_some h
    refine x_vi (st := []) C kY_X8_isNoteOf 8 8 rfl rfl rfl (m_X8_isNoteOf l D cI cZ ad C.2.2.2.2.2.2.1 p1 p2 p3 q1.2 q3 eq3) kl_X8_145 ⟨rfl, rfl⟩ ⟨Nat.le_of_ble_eq_true rfl, Nat.le_of_ble_eq_true rfl⟩ ⟨Nat.zero_le _, Nat.zero_le _⟩ rfl rfl (Nat.le_of_ble_eq_true rfl) dX8_move_16 ?_
    refine x_if_ne C 25 dX8_move_19 (by decide) (fun c4 => ?_) (fun c4 => ?_)
    · have h := (if_neg c4).symm.trans h
      refine x_aload_n C dX8_move_25 rfl 0 rfl ?_
      obtain ⟨q5, eq5, h⟩ := gb_some h
      refine x_vv (st := []) C kY_X8_remember 8 8 rfl rfl rfl (m_X8_remember l D cI cZ ad C.2.2.2.2.2.2.1 q3.2 q5 eq5) kl_X8_150 ⟨rfl, rfl⟩ ⟨Nat.le_of_ble_eq_true rfl, Nat.le_of_ble_eq_true rfl⟩ ⟨Nat.zero_le _, Nat.zero_le _⟩ rfl rfl (Nat.le_of_ble_eq_true rfl) dX8_move_26 ?_
      refine x_aload_n C dX8_move_29 rfl 0 rfl ?_
      refine x_iload_n C dX8_move_30 rfl 1 rfl ?_
      obtain ⟨q6, eq6, h⟩ := gb_some h
      refine x_vv (st := []) C kY_X8_remove 8 8 rfl rfl rfl (m_X8_remove l D cI cZ ad C.2.2.2.2.2.2.1 p0 q5 q6 eq6) kl_X8_156 ⟨rfl, rfl⟩ ⟨Nat.le_of_ble_eq_true rfl, Nat.le_of_ble_eq_true rfl⟩ ⟨Nat.zero_le _, Nat.zero_le _⟩ rfl rfl (Nat.le_of_ble_eq_true rfl) dX8_move_31 ?_
      refine x_aload_n C dX8_move_34 rfl 0 rfl ?_
      refine x_iload_n C dX8_move_35 rfl 2 rfl ?_
      refine x_iload_n C dX8_move_36 rfl 3 rfl ?_
      refine x_iload C dX8_move_37 4 rfl ?_
      obtain ⟨q7, eq7, h⟩ := gb_some h
      refine x_vi (st := []) C kY_X8_add 8 8 rfl rfl rfl (m_X8_add l D cI cZ ad C.2.2.2.2.2.2.1 p1 p2 p3 q6 q7 eq7) kl_X8_153 ⟨rfl, rfl⟩ ⟨Nat.le_of_ble_eq_true rfl, Nat.le_of_ble_eq_true rfl⟩ ⟨Nat.zero_le _, Nat.zero_le _⟩ rfl rfl (Nat.le_of_ble_eq_true rfl) dX8_move_39 ?_
      exact x_iret C hr dX8_move_42 (Option.some.inj h)
    · have h := (if_pos c4).symm.trans h
      refine x_ldc C kc_X8_91 dX8_move_22 ?_
      exact x_iret C hr dX8_move_24 (Option.some.inj h)
  · have h := (if_pos c2).symm.trans h
    refine x_ldc C kc_X8_111 dX8_move_8 ?_
    exact x_iret C hr dX8_move_10 (Option.some.inj h)
theorem m_X8_move (l : Launch) (D : va_G) (cI cZ : ClassId) (ad : Nat → Nat) (hJ : pv_J ad) (p0 : Int32) (p1 : Int32) (p2 : Int32) (p3 : Int32) (σ : pv_S) (R0 : (Int32 × pv_S)) (h : f_X8_move p0 p1 p2 p3 σ = some R0) : Met l yX8_move (Cond.code yX8_move cX8_move 5 (some .int) :: lwG) r_X8_move (va_Pc [.ref (ad 8), .int p0, .int p1, .int p2, .int p3] (pv_P D cI cZ ad σ)) (pv_QI D cI cZ ad R0) 0 0 (pv_A ad) := x_met (by decide) rfl hJ (Nat.le_of_ble_eq_true rfl) (fun p e s m args below meth c C hr => w_X8_move_0 C hr R0 p0 p1 p2 p3 σ h)
abbrev r_X8_share : Room := { frames := 2, cells := 0, slots := 0, locals := 48 }
set_option maxRecDepth 100000 in
set_option maxHeartbeats 4000000 in
theorem w_X8_share_0 {p : Program} {l : Launch} {e : Env} {s : State} {m : MethodId} {args : Array Value} {below : List Frame} {meth : Method} {c : Code} {D : va_G} {cI cZ : ClassId} {ad : Nat → Nat} (C : pv_C p s m args meth c cX8_share 2 RX8 D cI cZ ad (pv_A ad)) (hr : meth.sig.returnType = some .int) (R0 : (Int32 × pv_S)) (p0 : Int32) (σ : pv_S) (h : f_X8_share p0 σ = some R0) : Wx p l e r_X8_share s m args below meth c 0 0 (MQ below (pv_QI D cI cZ ad R0) args s 0 0 (pv_A ad)) 2 D cI cZ ad (pv_A ad) 0 [(0, .ref (ad 8)), (1, .int p0)] [] σ := by
  unfold f_X8_share at h
  refine x_aload_n C dX8_share_0 rfl 0 rfl ?_
  refine x_iload_n C dX8_share_1 rfl 1 rfl ?_
  obtain ⟨q1, eq1, h⟩ := gb_some h
  refine x_vi (st := []) C kY_X8_isNote 8 8 rfl rfl rfl (m_X8_isNote l D cI cZ ad C.2.2.2.2.2.2.1 p0 σ q1 eq1) kl_X8_107 ⟨rfl, rfl⟩ ⟨Nat.le_of_ble_eq_true rfl, Nat.le_of_ble_eq_true rfl⟩ ⟨Nat.zero_le _, Nat.zero_le _⟩ rfl rfl (Nat.le_of_ble_eq_true rfl) dX8_share_2 ?_
  refine x_if_ne C 11 dX8_share_5 (by decide) (fun c2 => ?_) (fun c2 => ?_)
  · have h := (if_neg c2).symm.trans h
    refine x_aload_n C dX8_share_11 rfl 0 rfl ?_
    refine xg_X8_7 C dX8_share_12 ?_
    refine x_iconst (v := 0) C dX8_share_15 (by decide) ?_
    obtain ⟨g3, h⟩ := gd_some h
    refine xl_13 C g3 dX8_share_16 ?_
    refine x_bipush (v := 10) C dX8_share_17 (by decide) ?_
    refine x_icmp_ne C 25 dX8_share_19 (by decide) (fun c4 => ?_) (fun c4 => ?_)
    · have h := (if_neg c4).symm.trans h
      refine x_aload_n C dX8_share_25 rfl 0 rfl ?_
      obtain ⟨q5, eq5, h⟩ := gb_some h
      refine x_vv (st := []) C kY_X8_remember 8 8 rfl rfl rfl (m_X8_remember l D cI cZ ad C.2.2.2.2.2.2.1 q1.2 q5 eq5) kl_X8_150 ⟨rfl, rfl⟩ ⟨Nat.le_of_ble_eq_true rfl, Nat.le_of_ble_eq_true rfl⟩ ⟨Nat.zero_le _, Nat.zero_le _⟩ rfl rfl (Nat.le_of_ble_eq_true rfl) dX8_share_26 ?_
      refine x_aload_n C dX8_share_29 rfl 0 rfl ?_
      refine x_aload_n C dX8_share_30 rfl 0 rfl ?_
      refine xg_X8_7 C dX8_share_31 ?_
      refine x_bipush (v := 6) C dX8_share_34 (by decide) ?_
      refine x_iload_n C dX8_share_36 rfl 1 rfl ?_
      refine x_iadd C dX8_share_37 ?_
      obtain ⟨g6, h⟩ := gd_some h
      refine xl_13 C g6 dX8_share_38 ?_
      refine x_aload_n C dX8_share_39 rfl 0 rfl ?_
      refine xg_X8_7 C dX8_share_40 ?_
      refine x_bipush (v := 16) C dX8_share_43 (by decide) ?_
      refine x_iload_n C dX8_share_45 rfl 1 rfl ?_
      refine x_iadd C dX8_share_46 ?_
      obtain ⟨g7, h⟩ := gd_some h
      refine xl_13 C g7 dX8_share_47 ?_
      refine x_aload_n C dX8_share_48 rfl 0 rfl ?_
      refine xg_X8_7 C dX8_share_49 ?_
      refine x_bipush (v := 26) C dX8_share_52 (by decide) ?_
      refine x_iload_n C dX8_share_54 rfl 1 rfl ?_
      refine x_iadd C dX8_share_55 ?_
      obtain ⟨g8, h⟩ := gd_some h
      refine xl_13 C g8 dX8_share_56 ?_
      obtain ⟨q9, eq9, h⟩ := gb_some h
      refine x_vi (st := []) C kY_X8_add 8 8 rfl rfl rfl (m_X8_add l D cI cZ ad C.2.2.2.2.2.2.1 (pv_la q5 13 (6 + p0)) (pv_la q5 13 (16 + p0)) (pv_la q5 13 (26 + p0)) q5 q9 eq9) kl_X8_153 ⟨rfl, rfl⟩ ⟨Nat.le_of_ble_eq_true rfl, Nat.le_of_ble_eq_true rfl⟩ ⟨Nat.zero_le _, Nat.zero_le _⟩ rfl rfl (Nat.le_of_ble_eq_true rfl) dX8_share_57 ?_
      exact x_iret C hr dX8_share_60 (Option.some.inj h)
    · have h := (if_pos c4).symm.trans h
      refine x_ldc C kc_X8_149 dX8_share_22 ?_
      exact x_iret C hr dX8_share_24 (Option.some.inj h)
  · have h := (if_pos c2).symm.trans h
    refine x_ldc C kc_X8_111 dX8_share_8 ?_
    exact x_iret C hr dX8_share_10 (Option.some.inj h)
theorem m_X8_share (l : Launch) (D : va_G) (cI cZ : ClassId) (ad : Nat → Nat) (hJ : pv_J ad) (p0 : Int32) (σ : pv_S) (R0 : (Int32 × pv_S)) (h : f_X8_share p0 σ = some R0) : Met l yX8_share (Cond.code yX8_share cX8_share 2 (some .int) :: lwG) r_X8_share (va_Pc [.ref (ad 8), .int p0] (pv_P D cI cZ ad σ)) (pv_QI D cI cZ ad R0) 0 0 (pv_A ad) := x_met (by decide) rfl hJ (Nat.le_of_ble_eq_true rfl) (fun p e s m args below meth c C hr => w_X8_share_0 C hr R0 p0 σ h)
abbrev r_X8_term : Room := { frames := 2, cells := 0, slots := 0, locals := 44 }
set_option maxRecDepth 100000 in
set_option maxHeartbeats 4000000 in
theorem w_X8_term_23 {p : Program} {l : Launch} {e : Env} {s : State} {m : MethodId} {args : Array Value} {below : List Frame} {meth : Method} {c : Code} {D : va_G} {cI cZ : ClassId} {ad : Nat → Nat} (C : pv_C p s m args meth c cX8_term 5 RX8 D cI cZ ad (pv_A ad)) (hr : meth.sig.returnType = some .int) (R0 : (Int32 × pv_S)) (v1 : Int32) (v2 : Int32) (s0 : Int32) (σ : pv_S) (h : f_X8_term_23 v1 v2 s0 σ = some R0) : Wx p l e r_X8_term s m args below meth c 0 0 (MQ below (pv_QI D cI cZ ad R0) args s 0 0 (pv_A ad)) 5 D cI cZ ad (pv_A ad) 23 [(0, .ref (ad 8)), (1, .int v1), (2, .int v2)] [.int s0] σ := by
  unfold f_X8_term_23 at h
  refine x_istore_n (lv' := [(3, .int s0), (0, .ref (ad 8)), (1, .int v1), (2, .int v2)]) C dX8_term_23 rfl (by decide) rfl ?_
  refine x_iload_n C dX8_term_24 rfl 2 rfl ?_
  refine x_i2l C dX8_term_25 ?_
  refine x_lconst (v := 0) C dX8_term_26 (by decide) ?_
  refine x_ldc2 C kc_X8_160 dX8_term_27 ?_
  obtain ⟨q1, eq1, h⟩ := gb_some h
  refine x_si (st := []) C kY_X8_in (m_X8_in l D cI cZ ad C.2.2.2.2.2.2.1 v1.toInt64 0 4 σ q1 eq1) kl_X8_40 ⟨rfl, rfl⟩ ⟨Nat.le_of_ble_eq_true rfl, Nat.le_of_ble_eq_true rfl⟩ ⟨Nat.zero_le _, Nat.zero_le _⟩ rfl rfl (Nat.le_of_ble_eq_true rfl) dX8_term_30 ?_
  refine x_if_eq C 47 dX8_term_33 (by decide) (fun c2 => ?_) (fun c2 => ?_)
  · have h := (if_pos c2).symm.trans h
    refine x_ldc C kc_X8_91 dX8_term_47 ?_
    exact x_iret C hr dX8_term_49 (Option.some.inj h)
  · have h := (if_neg c2).symm.trans h
    refine x_iload_n C dX8_term_36 rfl 3 rfl ?_
    refine x_i2l C dX8_term_37 ?_
    refine x_lconst (v := 0) C dX8_term_38 (by decide) ?_
    refine x_iload_n C dX8_term_39 rfl 0 rfl ?_
    refine x_i2l C dX8_term_40 ?_
    obtain ⟨q3, eq3, h⟩ := gb_some h
    refine x_si (st := []) C kY_X8_in (m_X8_in l D cI cZ ad C.2.2.2.2.2.2.1 v2.toInt64 0 s0.toInt64 q1.2 q3 eq3) kl_X8_40 ⟨rfl, rfl⟩ ⟨Nat.le_of_ble_eq_true rfl, Nat.le_of_ble_eq_true rfl⟩ ⟨Nat.zero_le _, Nat.zero_le _⟩ rfl rfl (Nat.le_of_ble_eq_true rfl) dX8_term_41 ?_
    refine x_if_ne C 50 dX8_term_44 (by decide) (fun c4 => ?_) (fun c4 => ?_)
    · have h := (if_neg c4).symm.trans h
      refine x_aload_n C dX8_term_50 rfl 1 rfl ?_
      obtain ⟨q5, eq5, h⟩ := gb_some h
      refine x_vv (st := []) C kY_X8_remember 8 8 rfl rfl rfl (m_X8_remember l D cI cZ ad C.2.2.2.2.2.2.1 q3.2 q5 eq5) kl_X8_150 ⟨rfl, rfl⟩ ⟨Nat.le_of_ble_eq_true rfl, Nat.le_of_ble_eq_true rfl⟩ ⟨Nat.zero_le _, Nat.zero_le _⟩ rfl rfl (Nat.le_of_ble_eq_true rfl) dX8_term_51 ?_
      refine x_aload_n C dX8_term_54 rfl 1 rfl ?_
      refine xg_X8_7 C dX8_term_55 ?_
      refine x_iconst (v := 1) C dX8_term_58 (by decide) ?_
      refine x_iload_n C dX8_term_59 rfl 2 rfl ?_
      refine x_iadd C dX8_term_60 ?_
      obtain ⟨g6, h⟩ := gd_some h
      refine xl_13 C g6 dX8_term_61 ?_
      refine x_istore (lv' := [(4, .int (pv_la q5 13 (1 + v1))), (3, .int s0), (0, .ref (ad 8)), (1, .int v1), (2, .int v2)]) C dX8_term_62 (by decide) rfl ?_
      refine x_aload_n C dX8_term_64 rfl 2 rfl ?_
      refine xg_X8_7 C dX8_term_65 ?_
      refine x_iconst (v := 1) C dX8_term_68 (by decide) ?_
      refine x_iload_n C dX8_term_69 rfl 3 rfl ?_
      refine x_iadd C dX8_term_70 ?_
      refine x_iload_n C dX8_term_71 rfl 4 rfl ?_
      obtain ⟨g7, h⟩ := gd_some h
      refine xs_13 C g7 dX8_term_72 ?_
      refine x_aload_n C dX8_term_73 rfl 2 rfl ?_
      obtain ⟨q8, eq8, h⟩ := gb_some h
      refine x_vv (st := []) C kY_X8_part0 8 8 rfl rfl rfl (m_X8_part0 l D cI cZ ad C.2.2.2.2.2.2.1 (pv_sa q5 13 (1 + v1) v2) q8 eq8) kl_X8_142 ⟨rfl, rfl⟩ ⟨Nat.le_of_ble_eq_true rfl, Nat.le_of_ble_eq_true rfl⟩ ⟨Nat.zero_le _, Nat.zero_le _⟩ rfl rfl (Nat.le_of_ble_eq_true rfl) dX8_term_74 ?_
      refine x_iload C dX8_term_77 0 rfl ?_
      exact x_iret C hr dX8_term_79 (Option.some.inj h)
    · have h := (if_pos c4).symm.trans h
      refine x_ldc C kc_X8_91 dX8_term_47 ?_
      exact x_iret C hr dX8_term_49 (Option.some.inj h)
set_option maxRecDepth 100000 in
set_option maxHeartbeats 4000000 in
theorem w_X8_term_0 {p : Program} {l : Launch} {e : Env} {s : State} {m : MethodId} {args : Array Value} {below : List Frame} {meth : Method} {c : Code} {D : va_G} {cI cZ : ClassId} {ad : Nat → Nat} (C : pv_C p s m args meth c cX8_term 5 RX8 D cI cZ ad (pv_A ad)) (hr : meth.sig.returnType = some .int) (R0 : (Int32 × pv_S)) (p0 : Int32) (p1 : Int32) (σ : pv_S) (h : f_X8_term p0 p1 σ = some R0) : Wx p l e r_X8_term s m args below meth c 0 0 (MQ below (pv_QI D cI cZ ad R0) args s 0 0 (pv_A ad)) 5 D cI cZ ad (pv_A ad) 0 [(0, .ref (ad 8)), (1, .int p0), (2, .int p1)] [] σ := by
  unfold f_X8_term at h
  refine x_iload_n C dX8_term_0 rfl 1 rfl ?_
  refine x_iconst (v := 2) C dX8_term_1 (by decide) ?_
  refine x_icmp_ge C 10 dX8_term_2 (by decide) (fun c1 => ?_) (fun c1 => ?_)
  · have h := (if_pos c1).symm.trans h
    refine x_iload_n C dX8_term_10 rfl 1 rfl ?_
    refine x_iconst (v := 3) C dX8_term_11 (by decide) ?_
    refine x_icmp_ne C 21 dX8_term_12 (by decide) (fun c2 => ?_) (fun c2 => ?_)
    · have h := (if_neg c2).symm.trans h
      refine x_bipush (v := 99) C dX8_term_21 (by decide) ?_
      exact w_X8_term_23 C hr R0 p0 p1 99 σ h
    · have h := (if_pos c2).symm.trans h
      refine x_sipush (v := 999) C dX8_term_15 (by decide) ?_
      refine x_goto C 23 dX8_term_18 (by decide) ?_
      exact w_X8_term_23 C hr R0 p0 p1 999 σ h
  · have h := (if_neg c1).symm.trans h
    refine x_bipush (v := 9) C dX8_term_5 (by decide) ?_
    refine x_goto C 23 dX8_term_7 (by decide) ?_
    exact w_X8_term_23 C hr R0 p0 p1 9 σ h
theorem m_X8_term (l : Launch) (D : va_G) (cI cZ : ClassId) (ad : Nat → Nat) (hJ : pv_J ad) (p0 : Int32) (p1 : Int32) (σ : pv_S) (R0 : (Int32 × pv_S)) (h : f_X8_term p0 p1 σ = some R0) : Met l yX8_term (Cond.code yX8_term cX8_term 5 (some .int) :: lwG) r_X8_term (va_Pc [.ref (ad 8), .int p0, .int p1] (pv_P D cI cZ ad σ)) (pv_QI D cI cZ ad R0) 0 0 (pv_A ad) := x_met (by decide) rfl hJ (Nat.le_of_ble_eq_true rfl) (fun p e s m args below meth c C hr => w_X8_term_0 C hr R0 p0 p1 σ h)
abbrev r_X8_follow : Room := { frames := 2, cells := 0, slots := 0, locals := 47 }
set_option maxRecDepth 100000 in
set_option maxHeartbeats 4000000 in
theorem w_X8_follow_57 {p : Program} {l : Launch} {e : Env} {s : State} {m : MethodId} {args : Array Value} {below : List Frame} {meth : Method} {c : Code} {D : va_G} {cI cZ : ClassId} {ad : Nat → Nat} (C : pv_C p s m args meth c cX8_follow 3 RX8 D cI cZ ad (pv_A ad)) (hr : meth.sig.returnType = some .int) (R0 : (Int32 × pv_S)) (v1 : Int32) (v2 : Int32) (σ : pv_S) (h : f_X8_follow_57 v1 v2 σ = some R0) : Wx p l e r_X8_follow s m args below meth c 0 0 (MQ below (pv_QI D cI cZ ad R0) args s 0 0 (pv_A ad)) 3 D cI cZ ad (pv_A ad) 57 [(0, .ref (ad 8)), (1, .int v1), (2, .int v2)] [] σ := by
  unfold f_X8_follow_57 at h
  refine x_aload_n C dX8_follow_57 rfl 0 rfl ?_
  refine xg_X8_7 C dX8_follow_58 ?_
  refine x_bipush (v := 36) C dX8_follow_61 (by decide) ?_
  refine x_iload_n C dX8_follow_63 rfl 1 rfl ?_
  refine x_iadd C dX8_follow_64 ?_
  refine x_iload_n C dX8_follow_65 rfl 2 rfl ?_
  obtain ⟨g1, h⟩ := gd_some h
  refine xs_13 C g1 dX8_follow_66 ?_
  refine x_aload_n C dX8_follow_67 rfl 0 rfl ?_
  refine x_iload_n C dX8_follow_68 rfl 1 rfl ?_
  refine x_iload_n C dX8_follow_69 rfl 2 rfl ?_
  obtain ⟨q2, eq2, h⟩ := gb_some h
  refine x_vi (st := []) C kY_X8_costOf 8 8 rfl rfl rfl (m_X8_costOf l D cI cZ ad C.2.2.2.2.2.2.1 v1 v2 (pv_sa σ 13 (36 + v1) v2) q2 eq2) kl_X8_52 ⟨rfl, rfl⟩ ⟨Nat.le_of_ble_eq_true rfl, Nat.le_of_ble_eq_true rfl⟩ ⟨Nat.zero_le _, Nat.zero_le _⟩ rfl rfl (Nat.le_of_ble_eq_true rfl) dX8_follow_70 ?_
  exact x_iret C hr dX8_follow_73 (Option.some.inj h)
set_option maxRecDepth 100000 in
set_option maxHeartbeats 4000000 in
theorem w_X8_follow_0 {p : Program} {l : Launch} {e : Env} {s : State} {m : MethodId} {args : Array Value} {below : List Frame} {meth : Method} {c : Code} {D : va_G} {cI cZ : ClassId} {ad : Nat → Nat} (C : pv_C p s m args meth c cX8_follow 3 RX8 D cI cZ ad (pv_A ad)) (hr : meth.sig.returnType = some .int) (R0 : (Int32 × pv_S)) (p0 : Int32) (p1 : Int32) (σ : pv_S) (h : f_X8_follow p0 p1 σ = some R0) : Wx p l e r_X8_follow s m args below meth c 0 0 (MQ below (pv_QI D cI cZ ad R0) args s 0 0 (pv_A ad)) 3 D cI cZ ad (pv_A ad) 0 [(0, .ref (ad 8)), (1, .int p0), (2, .int p1)] [] σ := by
  unfold f_X8_follow at h
  refine x_aload_n C dX8_follow_0 rfl 0 rfl ?_
  refine x_iload_n C dX8_follow_1 rfl 1 rfl ?_
  obtain ⟨q1, eq1, h⟩ := gb_some h
  refine x_vi (st := []) C kY_X8_isNote 8 8 rfl rfl rfl (m_X8_isNote l D cI cZ ad C.2.2.2.2.2.2.1 p0 σ q1 eq1) kl_X8_107 ⟨rfl, rfl⟩ ⟨Nat.le_of_ble_eq_true rfl, Nat.le_of_ble_eq_true rfl⟩ ⟨Nat.zero_le _, Nat.zero_le _⟩ rfl rfl (Nat.le_of_ble_eq_true rfl) dX8_follow_2 ?_
  refine x_if_eq C 16 dX8_follow_5 (by decide) (fun c2 => ?_) (fun c2 => ?_)
  · have h := (if_pos c2).symm.trans h
    refine x_ldc C kc_X8_111 dX8_follow_16 ?_
    exact x_iret C hr dX8_follow_18 (Option.some.inj h)
  · have h := (if_neg c2).symm.trans h
    refine x_aload_n C dX8_follow_8 rfl 0 rfl ?_
    refine x_iload_n C dX8_follow_9 rfl 2 rfl ?_
    obtain ⟨q3, eq3, h⟩ := gb_some h
    refine x_vi (st := []) C kY_X8_isNote 8 8 rfl rfl rfl (m_X8_isNote l D cI cZ ad C.2.2.2.2.2.2.1 p1 q1.2 q3 eq3) kl_X8_107 ⟨rfl, rfl⟩ ⟨Nat.le_of_ble_eq_true rfl, Nat.le_of_ble_eq_true rfl⟩ ⟨Nat.zero_le _, Nat.zero_le _⟩ rfl rfl (Nat.le_of_ble_eq_true rfl) dX8_follow_10 ?_
    refine x_if_ne C 19 dX8_follow_13 (by decide) (fun c4 => ?_) (fun c4 => ?_)
    · have h := (if_neg c4).symm.trans h
      refine x_aload_n C dX8_follow_19 rfl 0 rfl ?_
      refine x_iload_n C dX8_follow_20 rfl 1 rfl ?_
      refine x_iload_n C dX8_follow_21 rfl 2 rfl ?_
      obtain ⟨q5, eq5, h⟩ := gb_some h
      refine x_vi (st := []) C kY_X8_may 8 8 rfl rfl rfl (m_X8_may l D cI cZ ad C.2.2.2.2.2.2.1 p0 p1 q3.2 q5 eq5) kl_X8_48 ⟨rfl, rfl⟩ ⟨Nat.le_of_ble_eq_true rfl, Nat.le_of_ble_eq_true rfl⟩ ⟨Nat.zero_le _, Nat.zero_le _⟩ rfl rfl (Nat.le_of_ble_eq_true rfl) dX8_follow_22 ?_
      refine x_if_ne C 31 dX8_follow_25 (by decide) (fun c6 => ?_) (fun c6 => ?_)
      · have h := (if_neg c6).symm.trans h
        refine x_aload_n C dX8_follow_31 rfl 0 rfl ?_
        obtain ⟨q7, eq7, h⟩ := gb_some h
        refine x_vv (st := []) C kY_X8_remember 8 8 rfl rfl rfl (m_X8_remember l D cI cZ ad C.2.2.2.2.2.2.1 q5.2 q7 eq7) kl_X8_150 ⟨rfl, rfl⟩ ⟨Nat.le_of_ble_eq_true rfl, Nat.le_of_ble_eq_true rfl⟩ ⟨Nat.zero_le _, Nat.zero_le _⟩ rfl rfl (Nat.le_of_ble_eq_true rfl) dX8_follow_32 ?_
        refine x_aload_n C dX8_follow_35 rfl 0 rfl ?_
        refine x_iload_n C dX8_follow_36 rfl 2 rfl ?_
        obtain ⟨q8, eq8, h⟩ := gb_some h
        refine x_vi (st := []) C kY_X8_prior 8 8 rfl rfl rfl (m_X8_prior l D cI cZ ad C.2.2.2.2.2.2.1 p1 q7 q8 eq8) kl_X8_72 ⟨rfl, rfl⟩ ⟨Nat.le_of_ble_eq_true rfl, Nat.le_of_ble_eq_true rfl⟩ ⟨Nat.zero_le _, Nat.zero_le _⟩ rfl rfl (Nat.le_of_ble_eq_true rfl) dX8_follow_37 ?_
        refine x_if_lt C 57 dX8_follow_40 (by decide) (fun c9 => ?_) (fun c9 => ?_)
        · have h := (if_pos c9).symm.trans h
          exact w_X8_follow_57 C hr R0 p0 p1 q8.2 h
        · have h := (if_neg c9).symm.trans h
          refine x_aload_n C dX8_follow_43 rfl 0 rfl ?_
          refine xg_X8_7 C dX8_follow_44 ?_
          refine x_bipush (v := 36) C dX8_follow_47 (by decide) ?_
          refine x_aload_n C dX8_follow_49 rfl 0 rfl ?_
          refine x_iload_n C dX8_follow_50 rfl 2 rfl ?_
          obtain ⟨q10, eq10, h⟩ := gb_some h
          refine x_vi (st := [.int 36, .ref (ad 22)]) C kY_X8_prior 8 8 rfl rfl rfl (m_X8_prior l D cI cZ ad C.2.2.2.2.2.2.1 p1 q8.2 q10 eq10) kl_X8_72 ⟨rfl, rfl⟩ ⟨Nat.le_of_ble_eq_true rfl, Nat.le_of_ble_eq_true rfl⟩ ⟨Nat.zero_le _, Nat.zero_le _⟩ rfl rfl (Nat.le_of_ble_eq_true rfl) dX8_follow_51 ?_
          refine x_iadd C dX8_follow_54 ?_
          refine x_iconst (v := (-1)) C dX8_follow_55 (by decide) ?_
          obtain ⟨g11, h⟩ := gd_some h
          refine xs_13 C g11 dX8_follow_56 ?_
          exact w_X8_follow_57 C hr R0 p0 p1 (pv_sa q10.2 13 (36 + q10.1) (-1)) h
      · have h := (if_pos c6).symm.trans h
        refine x_ldc C kc_X8_123 dX8_follow_28 ?_
        exact x_iret C hr dX8_follow_30 (Option.some.inj h)
    · have h := (if_pos c4).symm.trans h
      refine x_ldc C kc_X8_111 dX8_follow_16 ?_
      exact x_iret C hr dX8_follow_18 (Option.some.inj h)
theorem m_X8_follow (l : Launch) (D : va_G) (cI cZ : ClassId) (ad : Nat → Nat) (hJ : pv_J ad) (p0 : Int32) (p1 : Int32) (σ : pv_S) (R0 : (Int32 × pv_S)) (h : f_X8_follow p0 p1 σ = some R0) : Met l yX8_follow (Cond.code yX8_follow cX8_follow 3 (some .int) :: lwG) r_X8_follow (va_Pc [.ref (ad 8), .int p0, .int p1] (pv_P D cI cZ ad σ)) (pv_QI D cI cZ ad R0) 0 0 (pv_A ad) := x_met (by decide) rfl hJ (Nat.le_of_ble_eq_true rfl) (fun p e s m args below meth c C hr => w_X8_follow_0 C hr R0 p0 p1 σ h)
abbrev r_X8_cut : Room := { frames := 2, cells := 0, slots := 0, locals := 46 }
set_option maxRecDepth 100000 in
set_option maxHeartbeats 4000000 in
theorem w_X8_cut_0 {p : Program} {l : Launch} {e : Env} {s : State} {m : MethodId} {args : Array Value} {below : List Frame} {meth : Method} {c : Code} {D : va_G} {cI cZ : ClassId} {ad : Nat → Nat} (C : pv_C p s m args meth c cX8_cut 3 RX8 D cI cZ ad (pv_A ad)) (hr : meth.sig.returnType = some .int) (R0 : (Int32 × pv_S)) (p0 : Int32) (σ : pv_S) (h : f_X8_cut p0 σ = some R0) : Wx p l e r_X8_cut s m args below meth c 0 0 (MQ below (pv_QI D cI cZ ad R0) args s 0 0 (pv_A ad)) 3 D cI cZ ad (pv_A ad) 0 [(0, .ref (ad 8)), (1, .int p0)] [] σ := by
  unfold f_X8_cut at h
  refine x_aload_n C dX8_cut_0 rfl 0 rfl ?_
  refine x_iload_n C dX8_cut_1 rfl 1 rfl ?_
  obtain ⟨q1, eq1, h⟩ := gb_some h
  refine x_vi (st := []) C kY_X8_isNote 8 8 rfl rfl rfl (m_X8_isNote l D cI cZ ad C.2.2.2.2.2.2.1 p0 σ q1 eq1) kl_X8_107 ⟨rfl, rfl⟩ ⟨Nat.le_of_ble_eq_true rfl, Nat.le_of_ble_eq_true rfl⟩ ⟨Nat.zero_le _, Nat.zero_le _⟩ rfl rfl (Nat.le_of_ble_eq_true rfl) dX8_cut_2 ?_
  refine x_if_ne C 11 dX8_cut_5 (by decide) (fun c2 => ?_) (fun c2 => ?_)
  · have h := (if_neg c2).symm.trans h
    refine x_aload_n C dX8_cut_11 rfl 0 rfl ?_
    obtain ⟨q3, eq3, h⟩ := gb_some h
    refine x_vv (st := []) C kY_X8_remember 8 8 rfl rfl rfl (m_X8_remember l D cI cZ ad C.2.2.2.2.2.2.1 q1.2 q3 eq3) kl_X8_150 ⟨rfl, rfl⟩ ⟨Nat.le_of_ble_eq_true rfl, Nat.le_of_ble_eq_true rfl⟩ ⟨Nat.zero_le _, Nat.zero_le _⟩ rfl rfl (Nat.le_of_ble_eq_true rfl) dX8_cut_12 ?_
    refine x_aload_n C dX8_cut_15 rfl 0 rfl ?_
    refine xg_X8_7 C dX8_cut_16 ?_
    refine x_bipush (v := 36) C dX8_cut_19 (by decide) ?_
    refine x_iload_n C dX8_cut_21 rfl 1 rfl ?_
    refine x_iadd C dX8_cut_22 ?_
    obtain ⟨g4, h⟩ := gd_some h
    refine xl_13 C g4 dX8_cut_23 ?_
    refine x_istore_n (lv' := [(2, .int (pv_la q3 13 (36 + p0))), (0, .ref (ad 8)), (1, .int p0)]) C dX8_cut_24 rfl (by decide) rfl ?_
    refine x_aload_n C dX8_cut_25 rfl 1 rfl ?_
    refine xg_X8_7 C dX8_cut_26 ?_
    refine x_bipush (v := 36) C dX8_cut_29 (by decide) ?_
    refine x_iload_n C dX8_cut_31 rfl 2 rfl ?_
    refine x_iadd C dX8_cut_32 ?_
    refine x_iconst (v := (-1)) C dX8_cut_33 (by decide) ?_
    obtain ⟨g5, h⟩ := gd_some h
    refine xs_13 C g5 dX8_cut_34 ?_
    refine x_iload_n C dX8_cut_35 rfl 0 rfl ?_
    exact x_iret C hr dX8_cut_36 (Option.some.inj h)
  · have h := (if_pos c2).symm.trans h
    refine x_ldc C kc_X8_111 dX8_cut_8 ?_
    exact x_iret C hr dX8_cut_10 (Option.some.inj h)
theorem m_X8_cut (l : Launch) (D : va_G) (cI cZ : ClassId) (ad : Nat → Nat) (hJ : pv_J ad) (p0 : Int32) (σ : pv_S) (R0 : (Int32 × pv_S)) (h : f_X8_cut p0 σ = some R0) : Met l yX8_cut (Cond.code yX8_cut cX8_cut 3 (some .int) :: lwG) r_X8_cut (va_Pc [.ref (ad 8), .int p0] (pv_P D cI cZ ad σ)) (pv_QI D cI cZ ad R0) 0 0 (pv_A ad) := x_met (by decide) rfl hJ (Nat.le_of_ble_eq_true rfl) (fun p e s m args below meth c C hr => w_X8_cut_0 C hr R0 p0 σ h)
abbrev r_X8_part : Room := { frames := 6, cells := 0, slots := 0, locals := 148 }
set_option maxRecDepth 100000 in
set_option maxHeartbeats 4000000 in
theorem w_X8_part_46 {p : Program} {l : Launch} {e : Env} {s : State} {m : MethodId} {args : Array Value} {below : List Frame} {meth : Method} {c : Code} {D : va_G} {cI cZ : ClassId} {ad : Nat → Nat} (C : pv_C p s m args meth c cX8_part 3 RX8 D cI cZ ad (pv_A ad)) (hr : meth.sig.returnType = some .int) (R0 : (Int32 × pv_S)) : ∀ (n : Nat) (v2 : Int32) (σ : pv_S), f_X8_part_46 n v2 σ = some R0 → Wx p l e r_X8_part s m args below meth c 0 0 (MQ below (pv_QI D cI cZ ad R0) args s 0 0 (pv_A ad)) 3 D cI cZ ad (pv_A ad) 46 [(0, .ref (ad 8)), (2, .int v2)] [] σ := by
  intro n
  induction n with
  | zero =>
    intro v2 σ h
    have h2 : (none : Option (Int32 × pv_S)) = some R0 := h
    cases h2
  | succ n ih =>
    intro v2 σ h
    unfold f_X8_part_46 at h
    refine x_iload_n C dX8_part_46 rfl 1 rfl ?_
    refine x_aload_n C dX8_part_47 rfl 0 rfl ?_
    refine xg_X8_7 C dX8_part_48 ?_
    refine x_iconst (v := 0) C dX8_part_51 (by decide) ?_
    obtain ⟨g1, h⟩ := gd_some h
    refine xl_13 C g1 dX8_part_52 ?_
    refine x_icmp_ge C 77 dX8_part_53 (by decide) (fun c2 => ?_) (fun c2 => ?_)
    · have h := (if_pos c2).symm.trans h
      refine x_aload_n C dX8_part_77 rfl 0 rfl ?_
      obtain ⟨q3, eq3, h⟩ := gb_some h
      refine x_vi (st := []) C kY_X8_costNow 8 8 rfl rfl rfl (m_X8_costNow l D cI cZ ad C.2.2.2.2.2.2.1 σ q3 eq3) kl_X8_92 ⟨rfl, rfl⟩ ⟨Nat.le_of_ble_eq_true rfl, Nat.le_of_ble_eq_true rfl⟩ ⟨Nat.zero_le _, Nat.zero_le _⟩ rfl rfl (Nat.le_of_ble_eq_true rfl) dX8_part_78 ?_
      exact x_iret C hr dX8_part_81 (Option.some.inj h)
    · have h := (if_neg c2).symm.trans h
      refine x_aload_n C dX8_part_56 rfl 0 rfl ?_
      refine xg_X8_7 C dX8_part_57 ?_
      refine x_bipush (v := 36) C dX8_part_60 (by decide) ?_
      refine x_iload_n C dX8_part_62 rfl 1 rfl ?_
      refine x_iadd C dX8_part_63 ?_
      refine x_aload_n C dX8_part_64 rfl 0 rfl ?_
      refine xg_X8_25 C dX8_part_65 ?_
      refine x_iload_n C dX8_part_68 rfl 1 rfl ?_
      obtain ⟨g4, h⟩ := gd_some h
      refine xl_18 C g4 dX8_part_69 ?_
      obtain ⟨g5, h⟩ := gd_some h
      refine xs_13 C g5 dX8_part_70 ?_
      refine x_iinc (v := (v2 + 1)) (lv' := [(2, .int (v2 + 1)), (0, .ref (ad 8))]) C 1 dX8_part_71 rfl rfl (by decide) rfl ?_
      refine x_goto C 46 dX8_part_74 (by decide) ?_
      refine x_sub [1, 0] rfl ?_
      exact ih (v2 + 1) (pv_sa σ 13 (36 + v2) (pv_la σ 18 v2)) h
set_option maxRecDepth 100000 in
set_option maxHeartbeats 4000000 in
theorem w_X8_part_31 {p : Program} {l : Launch} {e : Env} {s : State} {m : MethodId} {args : Array Value} {below : List Frame} {meth : Method} {c : Code} {D : va_G} {cI cZ : ClassId} {ad : Nat → Nat} (C : pv_C p s m args meth c cX8_part 3 RX8 D cI cZ ad (pv_A ad)) (hr : meth.sig.returnType = some .int) (R0 : (Int32 × pv_S)) (s0 : Int32) (σ : pv_S) (h : f_X8_part_31 s0 σ = some R0) : Wx p l e r_X8_part s m args below meth c 0 0 (MQ below (pv_QI D cI cZ ad R0) args s 0 0 (pv_A ad)) 3 D cI cZ ad (pv_A ad) 31 [(0, .ref (ad 8))] [.int s0, .ref (ad 8)] σ := by
  unfold f_X8_part_31 at h
  obtain ⟨q1, eq1, h⟩ := gb_some h
  refine x_vi (st := []) C kY_X8_layFirst 8 8 rfl rfl rfl (m_X8_layFirst l D cI cZ ad C.2.2.2.2.2.2.1 s0 σ q1 eq1) kl_X8_120 ⟨rfl, rfl⟩ ⟨Nat.le_of_ble_eq_true rfl, Nat.le_of_ble_eq_true rfl⟩ ⟨Nat.zero_le _, Nat.zero_le _⟩ rfl rfl (Nat.le_of_ble_eq_true rfl) dX8_part_31 ?_
  refine x_if_ne C 40 dX8_part_34 (by decide) (fun c2 => ?_) (fun c2 => ?_)
  · have h := (if_neg c2).symm.trans h
    refine x_aload_n C dX8_part_40 rfl 0 rfl ?_
    obtain ⟨q3, eq3, h⟩ := gb_some h
    refine x_vv (st := []) C kY_X8_remember 8 8 rfl rfl rfl (m_X8_remember l D cI cZ ad C.2.2.2.2.2.2.1 q1.2 q3 eq3) kl_X8_150 ⟨rfl, rfl⟩ ⟨Nat.le_of_ble_eq_true rfl, Nat.le_of_ble_eq_true rfl⟩ ⟨Nat.zero_le _, Nat.zero_le _⟩ rfl rfl (Nat.le_of_ble_eq_true rfl) dX8_part_41 ?_
    refine x_iconst (v := 0) C dX8_part_44 (by decide) ?_
    refine x_istore_n (lv' := [(2, .int 0), (0, .ref (ad 8))]) C dX8_part_45 rfl (by decide) rfl ?_
    refine x_sub [1, 0] rfl ?_
    exact w_X8_part_46 C hr R0 pv_FU 0 q3 h
  · have h := (if_pos c2).symm.trans h
    refine x_ldc C kc_X8_123 dX8_part_37 ?_
    exact x_iret C hr dX8_part_39 (Option.some.inj h)
set_option maxRecDepth 100000 in
set_option maxHeartbeats 4000000 in
theorem w_X8_part_0 {p : Program} {l : Launch} {e : Env} {s : State} {m : MethodId} {args : Array Value} {below : List Frame} {meth : Method} {c : Code} {D : va_G} {cI cZ : ClassId} {ad : Nat → Nat} (C : pv_C p s m args meth c cX8_part 3 RX8 D cI cZ ad (pv_A ad)) (hr : meth.sig.returnType = some .int) (R0 : (Int32 × pv_S)) (p0 : Int32) (σ : pv_S) (h : f_X8_part p0 σ = some R0) : Wx p l e r_X8_part s m args below meth c 0 0 (MQ below (pv_QI D cI cZ ad R0) args s 0 0 (pv_A ad)) 3 D cI cZ ad (pv_A ad) 0 [(0, .ref (ad 8)), (1, .int p0)] [] σ := by
  unfold f_X8_part at h
  refine x_iload_n C dX8_part_0 rfl 1 rfl ?_
  refine x_i2l C dX8_part_1 ?_
  refine x_ldc2 C kc_X8_162 dX8_part_2 ?_
  refine x_ldc2 C kc_X8_118 dX8_part_5 ?_
  obtain ⟨q1, eq1, h⟩ := gb_some h
  refine x_si (st := []) C kY_X8_in (m_X8_in l D cI cZ ad C.2.2.2.2.2.2.1 p0.toInt64 (-1) 10 σ q1 eq1) kl_X8_40 ⟨rfl, rfl⟩ ⟨Nat.le_of_ble_eq_true rfl, Nat.le_of_ble_eq_true rfl⟩ ⟨Nat.zero_le _, Nat.zero_le _⟩ rfl rfl (Nat.le_of_ble_eq_true rfl) dX8_part_8 ?_
  refine x_if_ne C 17 dX8_part_11 (by decide) (fun c2 => ?_) (fun c2 => ?_)
  · have h := (if_neg c2).symm.trans h
    refine x_aload_n C dX8_part_17 rfl 0 rfl ?_
    refine x_iload_n C dX8_part_18 rfl 1 rfl ?_
    refine x_if_ge C 30 dX8_part_19 (by decide) (fun c3 => ?_) (fun c3 => ?_)
    · have h := (if_pos c3).symm.trans h
      refine x_iload_n C dX8_part_30 rfl 1 rfl ?_
      refine x_sub [0] rfl ?_
      exact w_X8_part_31 C hr R0 p0 q1.2 h
    · have h := (if_neg c3).symm.trans h
      refine x_aload_n C dX8_part_22 rfl 0 rfl ?_
      refine x_iconst (v := (-1)) C dX8_part_23 (by decide) ?_
      obtain ⟨q4, eq4, h⟩ := gb_some h
      refine x_vi (st := [.ref (ad 8)]) C kY_X8_cheapest 8 8 rfl rfl rfl (m_X8_cheapest l D cI cZ ad C.2.2.2.2.2.2.1 (-1) q1.2 q4 eq4) kl_X8_69 ⟨rfl, rfl⟩ ⟨Nat.le_of_ble_eq_true rfl, Nat.le_of_ble_eq_true rfl⟩ ⟨Nat.zero_le _, Nat.zero_le _⟩ rfl rfl (Nat.le_of_ble_eq_true rfl) dX8_part_24 ?_
      refine x_goto C 31 dX8_part_27 (by decide) ?_
      refine x_sub [0] rfl ?_
      exact w_X8_part_31 C hr R0 q4.1 q4.2 h
  · have h := (if_pos c2).symm.trans h
    refine x_ldc C kc_X8_91 dX8_part_14 ?_
    exact x_iret C hr dX8_part_16 (Option.some.inj h)
theorem m_X8_part (l : Launch) (D : va_G) (cI cZ : ClassId) (ad : Nat → Nat) (hJ : pv_J ad) (p0 : Int32) (σ : pv_S) (R0 : (Int32 × pv_S)) (h : f_X8_part p0 σ = some R0) : Met l yX8_part (Cond.code yX8_part cX8_part 3 (some .int) :: lwG) r_X8_part (va_Pc [.ref (ad 8), .int p0] (pv_P D cI cZ ad σ)) (pv_QI D cI cZ ad R0) 0 0 (pv_A ad) := x_met (by decide) rfl hJ (Nat.le_of_ble_eq_true rfl) (fun p e s m args below meth c C hr => w_X8_part_0 C hr R0 p0 σ h)
abbrev r_X8_mendOne : Room := { frames := 2, cells := 0, slots := 0, locals := 47 }
set_option maxRecDepth 100000 in
set_option maxHeartbeats 4000000 in
theorem w_X8_mendOne_16 {p : Program} {l : Launch} {e : Env} {s : State} {m : MethodId} {args : Array Value} {below : List Frame} {meth : Method} {c : Code} {D : va_G} {cI cZ : ClassId} {ad : Nat → Nat} (C : pv_C p s m args meth c cX8_mendOne 4 RX8 D cI cZ ad (pv_A ad)) (hr : meth.sig.returnType = some .boolean) (R0 : (Int32 × pv_S)) (K2 : Int32 → pv_S → Option (Int32 × pv_S)) (hK2 : ∀ (v1 : Int32) (σ : pv_S), K2 v1 σ = some R0 → Wx p l e r_X8_mendOne s m args below meth c 0 0 (MQ below (pv_QI D cI cZ ad R0) args s 0 0 (pv_A ad)) 4 D cI cZ ad (pv_A ad) 2 [(0, .ref (ad 8)), (1, .int v1)] [] σ) : ∀ (n : Nat) (v1 : Int32) (v2 : Int32) (σ : pv_S), f_X8_mendOne_16 K2 n v1 v2 σ = some R0 → Wx p l e r_X8_mendOne s m args below meth c 0 0 (MQ below (pv_QI D cI cZ ad R0) args s 0 0 (pv_A ad)) 4 D cI cZ ad (pv_A ad) 16 [(0, .ref (ad 8)), (1, .int v1), (2, .int v2)] [] σ := by
  intro n
  induction n with
  | zero =>
    intro v1 v2 σ h
    have h2 : (none : Option (Int32 × pv_S)) = some R0 := h
    cases h2
  | succ n ih =>
    intro v1 v2 σ h
    unfold f_X8_mendOne_16 at h
    refine x_iload_n C dX8_mendOne_16 rfl 2 rfl ?_
    refine x_aload_n C dX8_mendOne_17 rfl 0 rfl ?_
    refine xg_X8_7 C dX8_mendOne_18 ?_
    refine x_iconst (v := 0) C dX8_mendOne_21 (by decide) ?_
    obtain ⟨g1, h⟩ := gd_some h
    refine xl_13 C g1 dX8_mendOne_22 ?_
    refine x_icmp_ge C 115 dX8_mendOne_23 (by decide) (fun c2 => ?_) (fun c2 => ?_)
    · have h := (if_pos c2).symm.trans h
      refine x_iinc (v := (v1 + 1)) (lv' := [(1, .int (v1 + 1)), (0, .ref (ad 8)), (2, .int v2)]) C 1 dX8_mendOne_115 rfl rfl (by decide) rfl ?_
      refine x_goto C 2 dX8_mendOne_118 (by decide) ?_
      refine x_sub [1, 0] rfl ?_
      exact hK2 (v1 + 1) σ h
    · have h := (if_neg c2).symm.trans h
      refine x_aload_n C dX8_mendOne_26 rfl 0 rfl ?_
      refine x_iload_n C dX8_mendOne_27 rfl 1 rfl ?_
      refine x_iload_n C dX8_mendOne_28 rfl 2 rfl ?_
      obtain ⟨q3, eq3, h⟩ := gb_some h
      refine x_vi (st := []) C kY_X8_cross 8 8 rfl rfl rfl (m_X8_cross l D cI cZ ad C.2.2.2.2.2.2.1 v1 v2 σ q3 eq3) kl_X8_79 ⟨rfl, rfl⟩ ⟨Nat.le_of_ble_eq_true rfl, Nat.le_of_ble_eq_true rfl⟩ ⟨Nat.zero_le _, Nat.zero_le _⟩ rfl rfl (Nat.le_of_ble_eq_true rfl) dX8_mendOne_29 ?_
      refine x_if_eq C 109 dX8_mendOne_32 (by decide) (fun c4 => ?_) (fun c4 => ?_)
      · have h := (if_pos c4).symm.trans h
        refine x_iinc (v := (v2 + 1)) (lv' := [(2, .int (v2 + 1)), (0, .ref (ad 8)), (1, .int v1)]) C 2 dX8_mendOne_109 rfl rfl (by decide) rfl ?_
        refine x_goto C 16 dX8_mendOne_112 (by decide) ?_
        refine x_sub [1, 2, 0] rfl ?_
        exact ih v1 (v2 + 1) q3.2 h
      · have h := (if_neg c4).symm.trans h
        refine x_aload_n C dX8_mendOne_35 rfl 0 rfl ?_
        refine x_iload_n C dX8_mendOne_36 rfl 1 rfl ?_
        refine x_aload_n C dX8_mendOne_37 rfl 0 rfl ?_
        refine xg_X8_7 C dX8_mendOne_38 ?_
        refine x_bipush (v := 36) C dX8_mendOne_41 (by decide) ?_
        refine x_iload_n C dX8_mendOne_43 rfl 2 rfl ?_
        refine x_iadd C dX8_mendOne_44 ?_
        obtain ⟨g5, h⟩ := gd_some h
        refine xl_13 C g5 dX8_mendOne_45 ?_
        obtain ⟨q6, eq6, h⟩ := gb_some h
        refine x_vi (st := []) C kY_X8_may 8 8 rfl rfl rfl (m_X8_may l D cI cZ ad C.2.2.2.2.2.2.1 v1 (pv_la q3.2 13 (36 + v2)) q3.2 q6 eq6) kl_X8_48 ⟨rfl, rfl⟩ ⟨Nat.le_of_ble_eq_true rfl, Nat.le_of_ble_eq_true rfl⟩ ⟨Nat.zero_le _, Nat.zero_le _⟩ rfl rfl (Nat.le_of_ble_eq_true rfl) dX8_mendOne_46 ?_
        refine x_if_eq C 109 dX8_mendOne_49 (by decide) (fun c7 => ?_) (fun c7 => ?_)
        · have h := (if_pos c7).symm.trans h
          refine x_iinc (v := (v2 + 1)) (lv' := [(2, .int (v2 + 1)), (0, .ref (ad 8)), (1, .int v1)]) C 2 dX8_mendOne_109 rfl rfl (by decide) rfl ?_
          refine x_goto C 16 dX8_mendOne_112 (by decide) ?_
          refine x_sub [1, 2, 0] rfl ?_
          exact ih v1 (v2 + 1) q6.2 h
        · have h := (if_neg c7).symm.trans h
          refine x_aload_n C dX8_mendOne_52 rfl 0 rfl ?_
          refine x_iload_n C dX8_mendOne_53 rfl 2 rfl ?_
          refine x_aload_n C dX8_mendOne_54 rfl 0 rfl ?_
          refine xg_X8_7 C dX8_mendOne_55 ?_
          refine x_bipush (v := 36) C dX8_mendOne_58 (by decide) ?_
          refine x_iload_n C dX8_mendOne_60 rfl 1 rfl ?_
          refine x_iadd C dX8_mendOne_61 ?_
          obtain ⟨g8, h⟩ := gd_some h
          refine xl_13 C g8 dX8_mendOne_62 ?_
          obtain ⟨q9, eq9, h⟩ := gb_some h
          refine x_vi (st := []) C kY_X8_may 8 8 rfl rfl rfl (m_X8_may l D cI cZ ad C.2.2.2.2.2.2.1 v2 (pv_la q6.2 13 (36 + v1)) q6.2 q9 eq9) kl_X8_48 ⟨rfl, rfl⟩ ⟨Nat.le_of_ble_eq_true rfl, Nat.le_of_ble_eq_true rfl⟩ ⟨Nat.zero_le _, Nat.zero_le _⟩ rfl rfl (Nat.le_of_ble_eq_true rfl) dX8_mendOne_63 ?_
          refine x_if_eq C 109 dX8_mendOne_66 (by decide) (fun c10 => ?_) (fun c10 => ?_)
          · have h := (if_pos c10).symm.trans h
            refine x_iinc (v := (v2 + 1)) (lv' := [(2, .int (v2 + 1)), (0, .ref (ad 8)), (1, .int v1)]) C 2 dX8_mendOne_109 rfl rfl (by decide) rfl ?_
            refine x_goto C 16 dX8_mendOne_112 (by decide) ?_
            refine x_sub [1, 2, 0] rfl ?_
            exact ih v1 (v2 + 1) q9.2 h
          · have h := (if_neg c10).symm.trans h
            refine x_aload_n C dX8_mendOne_69 rfl 0 rfl ?_
            refine xg_X8_7 C dX8_mendOne_70 ?_
            refine x_bipush (v := 36) C dX8_mendOne_73 (by decide) ?_
            refine x_iload_n C dX8_mendOne_75 rfl 1 rfl ?_
            refine x_iadd C dX8_mendOne_76 ?_
            obtain ⟨g11, h⟩ := gd_some h
            refine xl_13 C g11 dX8_mendOne_77 ?_
            refine x_istore_n (lv' := [(3, .int (pv_la q9.2 13 (36 + v1))), (0, .ref (ad 8)), (1, .int v1), (2, .int v2)]) C dX8_mendOne_78 rfl (by decide) rfl ?_
            refine x_aload_n C dX8_mendOne_79 rfl 1 rfl ?_
            refine xg_X8_7 C dX8_mendOne_80 ?_
            refine x_bipush (v := 36) C dX8_mendOne_83 (by decide) ?_
            refine x_iload_n C dX8_mendOne_85 rfl 2 rfl ?_
            refine x_iadd C dX8_mendOne_86 ?_
            refine x_aload_n C dX8_mendOne_87 rfl 1 rfl ?_
            refine xg_X8_7 C dX8_mendOne_88 ?_
            refine x_bipush (v := 36) C dX8_mendOne_91 (by decide) ?_
            refine x_iload_n C dX8_mendOne_93 rfl 3 rfl ?_
            refine x_iadd C dX8_mendOne_94 ?_
            obtain ⟨g12, h⟩ := gd_some h
            refine xl_13 C g12 dX8_mendOne_95 ?_
            obtain ⟨g13, h⟩ := gd_some h
            refine xs_13 C g13 dX8_mendOne_96 ?_
            refine x_aload_n C dX8_mendOne_97 rfl 1 rfl ?_
            refine xg_X8_7 C dX8_mendOne_98 ?_
            refine x_bipush (v := 36) C dX8_mendOne_101 (by decide) ?_
            refine x_iload_n C dX8_mendOne_103 rfl 3 rfl ?_
            refine x_iadd C dX8_mendOne_104 ?_
            refine x_iload_n C dX8_mendOne_105 rfl 0 rfl ?_
            obtain ⟨g14, h⟩ := gd_some h
            refine xs_13 C g14 dX8_mendOne_106 ?_
            refine x_iconst (v := 1) C dX8_mendOne_107 (by decide) ?_
            exact x_zret C hr rfl dX8_mendOne_108 (Option.some.inj h)
set_option maxRecDepth 100000 in
set_option maxHeartbeats 4000000 in
theorem w_X8_mendOne_2 {p : Program} {l : Launch} {e : Env} {s : State} {m : MethodId} {args : Array Value} {below : List Frame} {meth : Method} {c : Code} {D : va_G} {cI cZ : ClassId} {ad : Nat → Nat} (C : pv_C p s m args meth c cX8_mendOne 4 RX8 D cI cZ ad (pv_A ad)) (hr : meth.sig.returnType = some .boolean) (R0 : (Int32 × pv_S)) : ∀ (n : Nat) (v1 : Int32) (σ : pv_S), f_X8_mendOne_2 n v1 σ = some R0 → Wx p l e r_X8_mendOne s m args below meth c 0 0 (MQ below (pv_QI D cI cZ ad R0) args s 0 0 (pv_A ad)) 4 D cI cZ ad (pv_A ad) 2 [(0, .ref (ad 8)), (1, .int v1)] [] σ := by
  intro n
  induction n with
  | zero =>
    intro v1 σ h
    have h2 : (none : Option (Int32 × pv_S)) = some R0 := h
    cases h2
  | succ n ih =>
    intro v1 σ h
    unfold f_X8_mendOne_2 at h
    refine x_iload_n C dX8_mendOne_2 rfl 1 rfl ?_
    refine x_aload_n C dX8_mendOne_3 rfl 0 rfl ?_
    refine xg_X8_7 C dX8_mendOne_4 ?_
    refine x_iconst (v := 0) C dX8_mendOne_7 (by decide) ?_
    obtain ⟨g1, h⟩ := gd_some h
    refine xl_13 C g1 dX8_mendOne_8 ?_
    refine x_icmp_ge C 121 dX8_mendOne_9 (by decide) (fun c2 => ?_) (fun c2 => ?_)
    · have h := (if_pos c2).symm.trans h
      refine x_iconst (v := 0) C dX8_mendOne_121 (by decide) ?_
      exact x_zret C hr rfl dX8_mendOne_122 (Option.some.inj h)
    · have h := (if_neg c2).symm.trans h
      refine x_iload_n C dX8_mendOne_12 rfl 1 rfl ?_
      refine x_iconst (v := 1) C dX8_mendOne_13 (by decide) ?_
      refine x_iadd C dX8_mendOne_14 ?_
      refine x_istore_n (lv' := [(2, .int (v1 + 1)), (0, .ref (ad 8)), (1, .int v1)]) C dX8_mendOne_15 rfl (by decide) rfl ?_
      refine x_sub [1, 2, 0] rfl ?_
      exact w_X8_mendOne_16 C hr R0 (f_X8_mendOne_2 n) ih pv_FU v1 (v1 + 1) σ h
set_option maxRecDepth 100000 in
set_option maxHeartbeats 4000000 in
theorem w_X8_mendOne_0 {p : Program} {l : Launch} {e : Env} {s : State} {m : MethodId} {args : Array Value} {below : List Frame} {meth : Method} {c : Code} {D : va_G} {cI cZ : ClassId} {ad : Nat → Nat} (C : pv_C p s m args meth c cX8_mendOne 4 RX8 D cI cZ ad (pv_A ad)) (hr : meth.sig.returnType = some .boolean) (R0 : (Int32 × pv_S)) (σ : pv_S) (h : f_X8_mendOne σ = some R0) : Wx p l e r_X8_mendOne s m args below meth c 0 0 (MQ below (pv_QI D cI cZ ad R0) args s 0 0 (pv_A ad)) 4 D cI cZ ad (pv_A ad) 0 [(0, .ref (ad 8))] [] σ := by
  unfold f_X8_mendOne at h
  refine x_iconst (v := 0) C dX8_mendOne_0 (by decide) ?_
  refine x_istore_n (lv' := [(1, .int 0), (0, .ref (ad 8))]) C dX8_mendOne_1 rfl (by decide) rfl ?_
  refine x_sub [1, 0] rfl ?_
  exact w_X8_mendOne_2 C hr R0 pv_FU 0 σ h
theorem m_X8_mendOne (l : Launch) (D : va_G) (cI cZ : ClassId) (ad : Nat → Nat) (hJ : pv_J ad)  (σ : pv_S) (R0 : (Int32 × pv_S)) (h : f_X8_mendOne σ = some R0) : Met l yX8_mendOne (Cond.code yX8_mendOne cX8_mendOne 4 (some .boolean) :: lwG) r_X8_mendOne (va_Pc [.ref (ad 8)] (pv_P D cI cZ ad σ)) (pv_QI D cI cZ ad R0) 0 0 (pv_A ad) := x_met (by decide) rfl hJ (Nat.le_of_ble_eq_true rfl) (fun p e s m args below meth c C hr => w_X8_mendOne_0 C hr R0 σ h)
abbrev r_X8_mend : Room := { frames := 3, cells := 0, slots := 0, locals := 70 }
set_option maxRecDepth 100000 in
set_option maxHeartbeats 4000000 in
theorem w_X8_mend_6 {p : Program} {l : Launch} {e : Env} {s : State} {m : MethodId} {args : Array Value} {below : List Frame} {meth : Method} {c : Code} {D : va_G} {cI cZ : ClassId} {ad : Nat → Nat} (C : pv_C p s m args meth c cX8_mend 2 RX8 D cI cZ ad (pv_A ad)) (hr : meth.sig.returnType = some .int) (R0 : (Int32 × pv_S)) : ∀ (n : Nat) (v1 : Int32) (σ : pv_S), f_X8_mend_6 n v1 σ = some R0 → Wx p l e r_X8_mend s m args below meth c 0 0 (MQ below (pv_QI D cI cZ ad R0) args s 0 0 (pv_A ad)) 2 D cI cZ ad (pv_A ad) 6 [(0, .ref (ad 8)), (1, .int v1)] [] σ := by
  intro n
  induction n with
  | zero =>
    intro v1 σ h
    have h2 : (none : Option (Int32 × pv_S)) = some R0 := h
    cases h2
  | succ n ih =>
    intro v1 σ h
    unfold f_X8_mend_6 at h
    refine x_iload_n C dX8_mend_6 rfl 1 rfl ?_
    refine x_bipush (v := 50) C dX8_mend_7 (by decide) ?_
    refine x_icmp_ge C 25 dX8_mend_9 (by decide) (fun c1 => ?_) (fun c1 => ?_)
    · have h := (if_pos c1).symm.trans h
      refine x_iload_n C dX8_mend_25 rfl 1 rfl ?_
      exact x_iret C hr dX8_mend_26 (Option.some.inj h)
    · have h := (if_neg c1).symm.trans h
      refine x_aload_n C dX8_mend_12 rfl 0 rfl ?_
      obtain ⟨q2, eq2, h⟩ := gb_some h
      refine x_vi (st := []) C kY_X8_mendOne 8 8 rfl rfl rfl (m_X8_mendOne l D cI cZ ad C.2.2.2.2.2.2.1 σ q2 eq2) kl_X8_164 ⟨rfl, rfl⟩ ⟨Nat.le_of_ble_eq_true rfl, Nat.le_of_ble_eq_true rfl⟩ ⟨Nat.zero_le _, Nat.zero_le _⟩ rfl rfl (Nat.le_of_ble_eq_true rfl) dX8_mend_13 ?_
      refine x_if_eq C 25 dX8_mend_16 (by decide) (fun c3 => ?_) (fun c3 => ?_)
      · have h := (if_pos c3).symm.trans h
        refine x_iload_n C dX8_mend_25 rfl 1 rfl ?_
        exact x_iret C hr dX8_mend_26 (Option.some.inj h)
      · have h := (if_neg c3).symm.trans h
        refine x_iinc (v := (v1 + 1)) (lv' := [(1, .int (v1 + 1)), (0, .ref (ad 8))]) C 1 dX8_mend_19 rfl rfl (by decide) rfl ?_
        refine x_goto C 6 dX8_mend_22 (by decide) ?_
        refine x_sub [1, 0] rfl ?_
        exact ih (v1 + 1) q2.2 h
set_option maxRecDepth 100000 in
set_option maxHeartbeats 4000000 in
theorem w_X8_mend_0 {p : Program} {l : Launch} {e : Env} {s : State} {m : MethodId} {args : Array Value} {below : List Frame} {meth : Method} {c : Code} {D : va_G} {cI cZ : ClassId} {ad : Nat → Nat} (C : pv_C p s m args meth c cX8_mend 2 RX8 D cI cZ ad (pv_A ad)) (hr : meth.sig.returnType = some .int) (R0 : (Int32 × pv_S)) (σ : pv_S) (h : f_X8_mend σ = some R0) : Wx p l e r_X8_mend s m args below meth c 0 0 (MQ below (pv_QI D cI cZ ad R0) args s 0 0 (pv_A ad)) 2 D cI cZ ad (pv_A ad) 0 [(0, .ref (ad 8))] [] σ := by
  unfold f_X8_mend at h
  refine x_aload_n C dX8_mend_0 rfl 0 rfl ?_
  obtain ⟨q1, eq1, h⟩ := gb_some h
  refine x_vv (st := []) C kY_X8_remember 8 8 rfl rfl rfl (m_X8_remember l D cI cZ ad C.2.2.2.2.2.2.1 σ q1 eq1) kl_X8_150 ⟨rfl, rfl⟩ ⟨Nat.le_of_ble_eq_true rfl, Nat.le_of_ble_eq_true rfl⟩ ⟨Nat.zero_le _, Nat.zero_le _⟩ rfl rfl (Nat.le_of_ble_eq_true rfl) dX8_mend_1 ?_
  refine x_iconst (v := 0) C dX8_mend_4 (by decide) ?_
  refine x_istore_n (lv' := [(1, .int 0), (0, .ref (ad 8))]) C dX8_mend_5 rfl (by decide) rfl ?_
  refine x_sub [1, 0] rfl ?_
  exact w_X8_mend_6 C hr R0 pv_FU 0 q1 h
theorem m_X8_mend (l : Launch) (D : va_G) (cI cZ : ClassId) (ad : Nat → Nat) (hJ : pv_J ad)  (σ : pv_S) (R0 : (Int32 × pv_S)) (h : f_X8_mend σ = some R0) : Met l yX8_mend (Cond.code yX8_mend cX8_mend 2 (some .int) :: lwG) r_X8_mend (va_Pc [.ref (ad 8)] (pv_P D cI cZ ad σ)) (pv_QI D cI cZ ad R0) 0 0 (pv_A ad) := x_met (by decide) rfl hJ (Nat.le_of_ble_eq_true rfl) (fun p e s m args below meth c C hr => w_X8_mend_0 C hr R0 σ h)
abbrev r_X8_clear : Room := { frames := 2, cells := 0, slots := 0, locals := 44 }
set_option maxRecDepth 100000 in
set_option maxHeartbeats 4000000 in
theorem w_X8_clear_0 {p : Program} {l : Launch} {e : Env} {s : State} {m : MethodId} {args : Array Value} {below : List Frame} {meth : Method} {c : Code} {D : va_G} {cI cZ : ClassId} {ad : Nat → Nat} (C : pv_C p s m args meth c cX8_clear 2 RX8 D cI cZ ad (pv_A ad)) (hr : meth.sig.returnType = some .int) (R0 : (Int32 × pv_S)) (σ : pv_S) (h : f_X8_clear σ = some R0) : Wx p l e r_X8_clear s m args below meth c 0 0 (MQ below (pv_QI D cI cZ ad R0) args s 0 0 (pv_A ad)) 2 D cI cZ ad (pv_A ad) 0 [(0, .ref (ad 8))] [] σ := by
  unfold f_X8_clear at h
  refine x_aload_n C dX8_clear_0 rfl 0 rfl ?_
  obtain ⟨q1, eq1, h⟩ := gb_some h
  refine x_vv (st := []) C kY_X8_remember 8 8 rfl rfl rfl (m_X8_remember l D cI cZ ad C.2.2.2.2.2.2.1 σ q1 eq1) kl_X8_150 ⟨rfl, rfl⟩ ⟨Nat.le_of_ble_eq_true rfl, Nat.le_of_ble_eq_true rfl⟩ ⟨Nat.zero_le _, Nat.zero_le _⟩ rfl rfl (Nat.le_of_ble_eq_true rfl) dX8_clear_1 ?_
  refine x_aload_n C dX8_clear_4 rfl 0 rfl ?_
  refine xg_X8_7 C dX8_clear_5 ?_
  refine x_iconst (v := 0) C dX8_clear_8 (by decide) ?_
  obtain ⟨g2, h⟩ := gd_some h
  refine xl_13 C g2 dX8_clear_9 ?_
  refine x_istore_n (lv' := [(1, .int (pv_la q1 13 0)), (0, .ref (ad 8))]) C dX8_clear_10 rfl (by decide) rfl ?_
  refine x_aload_n C dX8_clear_11 rfl 1 rfl ?_
  refine xg_X8_7 C dX8_clear_12 ?_
  refine x_iconst (v := 0) C dX8_clear_15 (by decide) ?_
  refine x_iconst (v := 0) C dX8_clear_16 (by decide) ?_
  obtain ⟨g3, h⟩ := gd_some h
  refine xs_13 C g3 dX8_clear_17 ?_
  refine x_aload_n C dX8_clear_18 rfl 1 rfl ?_
  obtain ⟨q4, eq4, h⟩ := gb_some h
  refine x_vv (st := []) C kY_X8_part0 8 8 rfl rfl rfl (m_X8_part0 l D cI cZ ad C.2.2.2.2.2.2.1 (pv_sa q1 13 0 0) q4 eq4) kl_X8_142 ⟨rfl, rfl⟩ ⟨Nat.le_of_ble_eq_true rfl, Nat.le_of_ble_eq_true rfl⟩ ⟨Nat.zero_le _, Nat.zero_le _⟩ rfl rfl (Nat.le_of_ble_eq_true rfl) dX8_clear_19 ?_
  refine x_iload_n C dX8_clear_22 rfl 0 rfl ?_
  exact x_iret C hr dX8_clear_23 (Option.some.inj h)
theorem m_X8_clear (l : Launch) (D : va_G) (cI cZ : ClassId) (ad : Nat → Nat) (hJ : pv_J ad)  (σ : pv_S) (R0 : (Int32 × pv_S)) (h : f_X8_clear σ = some R0) : Met l yX8_clear (Cond.code yX8_clear cX8_clear 2 (some .int) :: lwG) r_X8_clear (va_Pc [.ref (ad 8)] (pv_P D cI cZ ad σ)) (pv_QI D cI cZ ad R0) 0 0 (pv_A ad) := x_met (by decide) rfl hJ (Nat.le_of_ble_eq_true rfl) (fun p e s m args below meth c C hr => w_X8_clear_0 C hr R0 σ h)
abbrev r_X8_draw : Room := { frames := 0, cells := 0, slots := 0, locals := 0 }
set_option maxRecDepth 100000 in
set_option maxHeartbeats 4000000 in
theorem w_X8_draw_0 {p : Program} {l : Launch} {e : Env} {s : State} {m : MethodId} {args : Array Value} {below : List Frame} {meth : Method} {c : Code} {D : va_G} {cI cZ : ClassId} {ad : Nat → Nat} (C : pv_C p s m args meth c cX8_draw 2 RX8 D cI cZ ad (pv_A ad)) (hr : meth.sig.returnType = some .int) (R0 : (Int32 × pv_S)) (p0 : Int32) (σ : pv_S) (h : f_X8_draw p0 σ = some R0) : Wx p l e r_X8_draw s m args below meth c 0 0 (MQ below (pv_QI D cI cZ ad R0) args s 0 0 (pv_A ad)) 2 D cI cZ ad (pv_A ad) 0 [(0, .ref (ad 8)), (1, .int p0)] [] σ := by
  unfold f_X8_draw at h
  refine x_aload_n C dX8_draw_0 rfl 0 rfl ?_
  refine x_aload_n C dX8_draw_1 rfl 0 rfl ?_
  refine xg_X8_88 C dX8_draw_2 ?_
  refine x_i2l C dX8_draw_5 ?_
  refine x_ldc2 C kc_X8_168 dX8_draw_6 ?_
  refine x_lmul C dX8_draw_9 ?_
  refine x_ldc2 C kc_X8_170 dX8_draw_10 ?_
  refine x_ladd C dX8_draw_13 ?_
  refine x_ldc2 C kc_X8_172 dX8_draw_14 ?_
  refine x_lrem C dX8_draw_17 (by decide) ?_
  refine x_l2i C dX8_draw_18 ?_
  refine xp_X8_88 C dX8_draw_19 ?_
  refine x_aload_n C dX8_draw_22 rfl 0 rfl ?_
  refine xg_X8_88 C dX8_draw_23 ?_
  refine x_ldc C kc_X8_174 dX8_draw_26 ?_
  refine x_idiv C dX8_draw_28 (by decide) ?_
  refine x_iload_n C dX8_draw_29 rfl 1 rfl ?_
  obtain ⟨g1, h⟩ := gn_some h
  refine x_irem C dX8_draw_30 g1 ?_
  exact x_iret C hr dX8_draw_31 (Option.some.inj h)
theorem m_X8_draw (l : Launch) (D : va_G) (cI cZ : ClassId) (ad : Nat → Nat) (hJ : pv_J ad) (p0 : Int32) (σ : pv_S) (R0 : (Int32 × pv_S)) (h : f_X8_draw p0 σ = some R0) : Met l yX8_draw (Cond.code yX8_draw cX8_draw 2 (some .int) :: lwG) r_X8_draw (va_Pc [.ref (ad 8), .int p0] (pv_P D cI cZ ad σ)) (pv_QI D cI cZ ad R0) 0 0 (pv_A ad) := x_met (by decide) rfl hJ (Nat.le_of_ble_eq_true rfl) (fun p e s m args below meth c C hr => w_X8_draw_0 C hr R0 p0 σ h)
abbrev r_X8_drift : Room := { frames := 2, cells := 0, slots := 0, locals := 48 }
set_option maxRecDepth 100000 in
set_option maxHeartbeats 4000000 in
theorem w_X8_drift_80 {p : Program} {l : Launch} {e : Env} {s : State} {m : MethodId} {args : Array Value} {below : List Frame} {meth : Method} {c : Code} {D : va_G} {cI cZ : ClassId} {ad : Nat → Nat} (C : pv_C p s m args meth c cX8_drift 5 RX8 D cI cZ ad (pv_A ad)) (hr : meth.sig.returnType = some .int) (R0 : (Int32 × pv_S)) (σ : pv_S) (h : f_X8_drift_80 σ = some R0) : Wx p l e r_X8_drift s m args below meth c 0 0 (MQ below (pv_QI D cI cZ ad R0) args s 0 0 (pv_A ad)) 5 D cI cZ ad (pv_A ad) 80 [(0, .ref (ad 8))] [] σ := by
  unfold f_X8_drift_80 at h
  refine x_aload_n C dX8_drift_80 rfl 0 rfl ?_
  refine xg_X8_7 C dX8_drift_81 ?_
  refine x_iconst (v := 0) C dX8_drift_84 (by decide) ?_
  obtain ⟨g1, h⟩ := gd_some h
  refine xl_13 C g1 dX8_drift_85 ?_
  exact x_iret C hr dX8_drift_86 (Option.some.inj h)
set_option maxRecDepth 100000 in
set_option maxHeartbeats 4000000 in
theorem w_X8_drift_17 {p : Program} {l : Launch} {e : Env} {s : State} {m : MethodId} {args : Array Value} {below : List Frame} {meth : Method} {c : Code} {D : va_G} {cI cZ : ClassId} {ad : Nat → Nat} (C : pv_C p s m args meth c cX8_drift 5 RX8 D cI cZ ad (pv_A ad)) (hr : meth.sig.returnType = some .int) (R0 : (Int32 × pv_S)) : ∀ (n : Nat) (v1 : Int32) (v2 : Int32) (σ : pv_S), f_X8_drift_17 n v1 v2 σ = some R0 → Wx p l e r_X8_drift s m args below meth c 0 0 (MQ below (pv_QI D cI cZ ad R0) args s 0 0 (pv_A ad)) 5 D cI cZ ad (pv_A ad) 17 [(0, .ref (ad 8)), (1, .int v1), (2, .int v2)] [] σ := by
  intro n
  induction n with
  | zero =>
    intro v1 v2 σ h
    have h2 : (none : Option (Int32 × pv_S)) = some R0 := h
    cases h2
  | succ n ih =>
    intro v1 v2 σ h
    unfold f_X8_drift_17 at h
    refine x_iload_n C dX8_drift_17 rfl 2 rfl ?_
    refine x_iload_n C dX8_drift_18 rfl 1 rfl ?_
    refine x_icmp_ge C 80 dX8_drift_19 (by decide) (fun c1 => ?_) (fun c1 => ?_)
    · have h := (if_pos c1).symm.trans h
      refine x_sub [0] rfl ?_
      exact w_X8_drift_80 C hr R0 σ h
    · have h := (if_neg c1).symm.trans h
      refine x_aload_n C dX8_drift_22 rfl 0 rfl ?_
      refine xg_X8_7 C dX8_drift_23 ?_
      refine x_iconst (v := 0) C dX8_drift_26 (by decide) ?_
      obtain ⟨g2, h⟩ := gd_some h
      refine xl_13 C g2 dX8_drift_27 ?_
      refine x_bipush (v := 10) C dX8_drift_28 (by decide) ?_
      refine x_icmp_ge C 80 dX8_drift_30 (by decide) (fun c3 => ?_) (fun c3 => ?_)
      · have h := (if_pos c3).symm.trans h
        refine x_sub [0] rfl ?_
        exact w_X8_drift_80 C hr R0 σ h
      · have h := (if_neg c3).symm.trans h
        refine x_aload_n C dX8_drift_33 rfl 0 rfl ?_
        obtain ⟨q4, eq4, h⟩ := gb_some h
        refine x_vv (st := []) C kY_X8_remember 8 8 rfl rfl rfl (m_X8_remember l D cI cZ ad C.2.2.2.2.2.2.1 σ q4 eq4) kl_X8_150 ⟨rfl, rfl⟩ ⟨Nat.le_of_ble_eq_true rfl, Nat.le_of_ble_eq_true rfl⟩ ⟨Nat.zero_le _, Nat.zero_le _⟩ rfl rfl (Nat.le_of_ble_eq_true rfl) dX8_drift_34 ?_
        refine x_aload_n C dX8_drift_37 rfl 0 rfl ?_
        refine x_bipush (v := 24) C dX8_drift_38 (by decide) ?_
        obtain ⟨q5, eq5, h⟩ := gb_some h
        refine x_vi (st := []) C kY_X8_draw 8 8 rfl rfl rfl (m_X8_draw l D cI cZ ad C.2.2.2.2.2.2.1 24 q4 q5 eq5) kl_X8_175 ⟨rfl, rfl⟩ ⟨Nat.le_of_ble_eq_true rfl, Nat.le_of_ble_eq_true rfl⟩ ⟨Nat.zero_le _, Nat.zero_le _⟩ rfl rfl (Nat.le_of_ble_eq_true rfl) dX8_drift_40 ?_
        refine x_istore_n (lv' := [(3, .int q5.1), (0, .ref (ad 8)), (1, .int v1), (2, .int v2)]) C dX8_drift_43 rfl (by decide) rfl ?_
        refine x_aload_n C dX8_drift_44 rfl 1 rfl ?_
        refine x_bipush (v := 6) C dX8_drift_45 (by decide) ?_
        obtain ⟨q6, eq6, h⟩ := gb_some h
        refine x_vi (st := []) C kY_X8_draw 8 8 rfl rfl rfl (m_X8_draw l D cI cZ ad C.2.2.2.2.2.2.1 6 q5.2 q6 eq6) kl_X8_175 ⟨rfl, rfl⟩ ⟨Nat.le_of_ble_eq_true rfl, Nat.le_of_ble_eq_true rfl⟩ ⟨Nat.zero_le _, Nat.zero_le _⟩ rfl rfl (Nat.le_of_ble_eq_true rfl) dX8_drift_47 ?_
        refine x_iconst (v := 1) C dX8_drift_50 (by decide) ?_
        refine x_iadd C dX8_drift_51 ?_
        refine x_istore (lv' := [(4, .int (q6.1 + 1)), (3, .int q5.1), (0, .ref (ad 8)), (1, .int v1), (2, .int v2)]) C dX8_drift_52 (by decide) rfl ?_
        refine x_aload_n C dX8_drift_54 rfl 2 rfl ?_
        refine x_aload_n C dX8_drift_55 rfl 2 rfl ?_
        refine x_iload_n C dX8_drift_56 rfl 1 rfl ?_
        refine x_iload C dX8_drift_57 0 rfl ?_
        refine x_aload_n C dX8_drift_59 rfl 2 rfl ?_
        refine x_bipush (v := 25) C dX8_drift_60 (by decide) ?_
        obtain ⟨q7, eq7, h⟩ := gb_some h
        refine x_vi (st := [.int (q6.1 + 1), .int q5.1, .ref (ad 8), .ref (ad 8)]) C kY_X8_draw 8 8 rfl rfl rfl (m_X8_draw l D cI cZ ad C.2.2.2.2.2.2.1 25 q6.2 q7 eq7) kl_X8_175 ⟨rfl, rfl⟩ ⟨Nat.le_of_ble_eq_true rfl, Nat.le_of_ble_eq_true rfl⟩ ⟨Nat.zero_le _, Nat.zero_le _⟩ rfl rfl (Nat.le_of_ble_eq_true rfl) dX8_drift_62 ?_
        refine x_bipush (v := 48) C dX8_drift_65 (by decide) ?_
        refine x_iadd C dX8_drift_67 ?_
        obtain ⟨q8, eq8, h⟩ := gb_some h
        refine x_vi (st := [.ref (ad 8)]) C kY_X8_add 8 8 rfl rfl rfl (m_X8_add l D cI cZ ad C.2.2.2.2.2.2.1 q5.1 (q6.1 + 1) (q7.1 + 48) q7.2 q8 eq8) kl_X8_153 ⟨rfl, rfl⟩ ⟨Nat.le_of_ble_eq_true rfl, Nat.le_of_ble_eq_true rfl⟩ ⟨Nat.zero_le _, Nat.zero_le _⟩ rfl rfl (Nat.le_of_ble_eq_true rfl) dX8_drift_68 ?_
        refine xp_X8_178 C dX8_drift_71 ?_
        refine x_iinc (v := (v2 + 1)) (lv' := [(2, .int (v2 + 1)), (4, .int (q6.1 + 1)), (3, .int q5.1), (0, .ref (ad 8)), (1, .int v1)]) C 4 dX8_drift_74 rfl rfl (by decide) rfl ?_
        refine x_goto C 17 dX8_drift_77 (by decide) ?_
        refine x_sub [3, 4, 0] rfl ?_
        exact ih v1 (v2 + 1) (pv_pi q8.2 14 q8.1) h
set_option maxRecDepth 100000 in
set_option maxHeartbeats 4000000 in
theorem w_X8_drift_0 {p : Program} {l : Launch} {e : Env} {s : State} {m : MethodId} {args : Array Value} {below : List Frame} {meth : Method} {c : Code} {D : va_G} {cI cZ : ClassId} {ad : Nat → Nat} (C : pv_C p s m args meth c cX8_drift 5 RX8 D cI cZ ad (pv_A ad)) (hr : meth.sig.returnType = some .int) (R0 : (Int32 × pv_S)) (p0 : Int32) (σ : pv_S) (h : f_X8_drift p0 σ = some R0) : Wx p l e r_X8_drift s m args below meth c 0 0 (MQ below (pv_QI D cI cZ ad R0) args s 0 0 (pv_A ad)) 5 D cI cZ ad (pv_A ad) 0 [(0, .ref (ad 8)), (1, .int p0)] [] σ := by
  unfold f_X8_drift at h
  refine x_iload_n C dX8_drift_0 rfl 1 rfl ?_
  refine x_i2l C dX8_drift_1 ?_
  refine x_lconst (v := 1) C dX8_drift_2 (by decide) ?_
  refine x_ldc2 C kc_X8_118 dX8_drift_3 ?_
  obtain ⟨q1, eq1, h⟩ := gb_some h
  refine x_si (st := []) C kY_X8_in (m_X8_in l D cI cZ ad C.2.2.2.2.2.2.1 p0.toInt64 1 10 σ q1 eq1) kl_X8_40 ⟨rfl, rfl⟩ ⟨Nat.le_of_ble_eq_true rfl, Nat.le_of_ble_eq_true rfl⟩ ⟨Nat.zero_le _, Nat.zero_le _⟩ rfl rfl (Nat.le_of_ble_eq_true rfl) dX8_drift_6 ?_
  refine x_if_ne C 15 dX8_drift_9 (by decide) (fun c2 => ?_) (fun c2 => ?_)
  · have h := (if_neg c2).symm.trans h
    refine x_iconst (v := 0) C dX8_drift_15 (by decide) ?_
    refine x_istore_n (lv' := [(2, .int 0), (0, .ref (ad 8)), (1, .int p0)]) C dX8_drift_16 rfl (by decide) rfl ?_
    refine x_sub [1, 2, 0] rfl ?_
    exact w_X8_drift_17 C hr R0 pv_FU p0 0 q1.2 h
  · have h := (if_pos c2).symm.trans h
    refine x_ldc C kc_X8_91 dX8_drift_12 ?_
    exact x_iret C hr dX8_drift_14 (Option.some.inj h)
theorem m_X8_drift (l : Launch) (D : va_G) (cI cZ : ClassId) (ad : Nat → Nat) (hJ : pv_J ad) (p0 : Int32) (σ : pv_S) (R0 : (Int32 × pv_S)) (h : f_X8_drift p0 σ = some R0) : Met l yX8_drift (Cond.code yX8_drift cX8_drift 5 (some .int) :: lwG) r_X8_drift (va_Pc [.ref (ad 8), .int p0] (pv_P D cI cZ ad σ)) (pv_QI D cI cZ ad R0) 0 0 (pv_A ad) := x_met (by decide) rfl hJ (Nat.le_of_ble_eq_true rfl) (fun p e s m args below meth c C hr => w_X8_drift_0 C hr R0 p0 σ h)
abbrev r_X8_undo : Room := { frames := 1, cells := 0, slots := 0, locals := 25 }
set_option maxRecDepth 100000 in
set_option maxHeartbeats 4000000 in
theorem w_X8_undo_28 {p : Program} {l : Launch} {e : Env} {s : State} {m : MethodId} {args : Array Value} {below : List Frame} {meth : Method} {c : Code} {D : va_G} {cI cZ : ClassId} {ad : Nat → Nat} (C : pv_C p s m args meth c cX8_undo 3 RX8 D cI cZ ad (pv_A ad)) (hr : meth.sig.returnType = some .int) (R0 : (Int32 × pv_S)) : ∀ (n : Nat) (v1 : Int32) (v2 : Int32) (σ : pv_S), f_X8_undo_28 n v1 v2 σ = some R0 → Wx p l e r_X8_undo s m args below meth c 0 0 (MQ below (pv_QI D cI cZ ad R0) args s 0 0 (pv_A ad)) 3 D cI cZ ad (pv_A ad) 28 [(0, .ref (ad 8)), (1, .int v1), (2, .int v2)] [] σ := by
  intro n
  induction n with
  | zero =>
    intro v1 v2 σ h
    have h2 : (none : Option (Int32 × pv_S)) = some R0 := h
    cases h2
  | succ n ih =>
    intro v1 v2 σ h
    unfold f_X8_undo_28 at h
    refine x_iload_n C dX8_undo_28 rfl 2 rfl ?_
    refine x_iload_n C dX8_undo_29 rfl 1 rfl ?_
    refine x_iadd C dX8_undo_30 ?_
    refine x_bipush (v := 16) C dX8_undo_31 (by decide) ?_
    refine x_icmp_gt C 56 dX8_undo_33 (by decide) (fun c1 => ?_) (fun c1 => ?_)
    · have h := (if_pos c1).symm.trans h
      refine x_aload_n C dX8_undo_56 rfl 0 rfl ?_
      refine x_dup C dX8_undo_57 rfl ?_
      refine xg_X8_32 C dX8_undo_58 ?_
      refine x_iload_n C dX8_undo_61 rfl 1 rfl ?_
      refine x_isub C dX8_undo_62 ?_
      refine xp_X8_32 C dX8_undo_63 ?_
      refine x_aload_n C dX8_undo_66 rfl 0 rfl ?_
      refine xg_X8_7 C dX8_undo_67 ?_
      refine x_iconst (v := 0) C dX8_undo_70 (by decide) ?_
      obtain ⟨g2, h⟩ := gd_some h
      refine xl_13 C g2 dX8_undo_71 ?_
      exact x_iret C hr dX8_undo_72 (Option.some.inj h)
    · have h := (if_neg c1).symm.trans h
      refine x_aload_n C dX8_undo_36 rfl 0 rfl ?_
      refine x_bipush (v := 46) C dX8_undo_37 (by decide) ?_
      refine x_iload_n C dX8_undo_39 rfl 2 rfl ?_
      refine x_iload_n C dX8_undo_40 rfl 1 rfl ?_
      refine x_iadd C dX8_undo_41 ?_
      refine x_imul C dX8_undo_42 ?_
      refine x_bipush (v := 46) C dX8_undo_43 (by decide) ?_
      refine x_iload_n C dX8_undo_45 rfl 2 rfl ?_
      refine x_imul C dX8_undo_46 ?_
      obtain ⟨q3, eq3, h⟩ := gb_some h
      refine x_vv (st := []) C kY_X8_copyRow 8 8 rfl rfl rfl (m_X8_copyRow l D cI cZ ad C.2.2.2.2.2.2.1 (46 * (v2 + v1)) (46 * v2) σ q3 eq3) kl_X8_28 ⟨rfl, rfl⟩ ⟨Nat.le_of_ble_eq_true rfl, Nat.le_of_ble_eq_true rfl⟩ ⟨Nat.zero_le _, Nat.zero_le _⟩ rfl rfl (Nat.le_of_ble_eq_true rfl) dX8_undo_47 ?_
      refine x_iinc (v := (v2 + 1)) (lv' := [(2, .int (v2 + 1)), (0, .ref (ad 8)), (1, .int v1)]) C 2 dX8_undo_50 rfl rfl (by decide) rfl ?_
      refine x_goto C 28 dX8_undo_53 (by decide) ?_
      refine x_sub [1, 2, 0] rfl ?_
      exact ih v1 (v2 + 1) q3 h
set_option maxRecDepth 100000 in
set_option maxHeartbeats 4000000 in
theorem w_X8_undo_0 {p : Program} {l : Launch} {e : Env} {s : State} {m : MethodId} {args : Array Value} {below : List Frame} {meth : Method} {c : Code} {D : va_G} {cI cZ : ClassId} {ad : Nat → Nat} (C : pv_C p s m args meth c cX8_undo 3 RX8 D cI cZ ad (pv_A ad)) (hr : meth.sig.returnType = some .int) (R0 : (Int32 × pv_S)) (p0 : Int32) (σ : pv_S) (h : f_X8_undo p0 σ = some R0) : Wx p l e r_X8_undo s m args below meth c 0 0 (MQ below (pv_QI D cI cZ ad R0) args s 0 0 (pv_A ad)) 3 D cI cZ ad (pv_A ad) 0 [(0, .ref (ad 8)), (1, .int p0)] [] σ := by
  unfold f_X8_undo at h
  refine x_iload_n C dX8_undo_0 rfl 1 rfl ?_
  refine x_i2l C dX8_undo_1 ?_
  refine x_lconst (v := 1) C dX8_undo_2 (by decide) ?_
  refine x_ldc2 C kc_X8_181 dX8_undo_3 ?_
  obtain ⟨q1, eq1, h⟩ := gb_some h
  refine x_si (st := []) C kY_X8_in (m_X8_in l D cI cZ ad C.2.2.2.2.2.2.1 p0.toInt64 1 16 σ q1 eq1) kl_X8_40 ⟨rfl, rfl⟩ ⟨Nat.le_of_ble_eq_true rfl, Nat.le_of_ble_eq_true rfl⟩ ⟨Nat.zero_le _, Nat.zero_le _⟩ rfl rfl (Nat.le_of_ble_eq_true rfl) dX8_undo_6 ?_
  refine x_if_ne C 15 dX8_undo_9 (by decide) (fun c2 => ?_) (fun c2 => ?_)
  · have h := (if_neg c2).symm.trans h
    refine x_iload_n C dX8_undo_15 rfl 1 rfl ?_
    refine x_aload_n C dX8_undo_16 rfl 0 rfl ?_
    refine xg_X8_32 C dX8_undo_17 ?_
    refine x_icmp_le C 26 dX8_undo_20 (by decide) (fun c3 => ?_) (fun c3 => ?_)
    · have h := (if_pos c3).symm.trans h
      refine x_iconst (v := 0) C dX8_undo_26 (by decide) ?_
      refine x_istore_n (lv' := [(2, .int 0), (0, .ref (ad 8)), (1, .int p0)]) C dX8_undo_27 rfl (by decide) rfl ?_
      refine x_sub [1, 2, 0] rfl ?_
      exact w_X8_undo_28 C hr R0 pv_FU p0 0 q1.2 h
    · have h := (if_neg c3).symm.trans h
      refine x_ldc C kc_X8_123 dX8_undo_23 ?_
      exact x_iret C hr dX8_undo_25 (Option.some.inj h)
  · have h := (if_pos c2).symm.trans h
    refine x_ldc C kc_X8_91 dX8_undo_12 ?_
    exact x_iret C hr dX8_undo_14 (Option.some.inj h)
theorem m_X8_undo (l : Launch) (D : va_G) (cI cZ : ClassId) (ad : Nat → Nat) (hJ : pv_J ad) (p0 : Int32) (σ : pv_S) (R0 : (Int32 × pv_S)) (h : f_X8_undo p0 σ = some R0) : Met l yX8_undo (Cond.code yX8_undo cX8_undo 3 (some .int) :: lwG) r_X8_undo (va_Pc [.ref (ad 8), .int p0] (pv_P D cI cZ ad σ)) (pv_QI D cI cZ ad R0) 0 0 (pv_A ad) := x_met (by decide) rfl hJ (Nat.le_of_ble_eq_true rfl) (fun p e s m args below meth c C hr => w_X8_undo_0 C hr R0 p0 σ h)
abbrev r_X8_write : Room := { frames := 1, cells := 0, slots := 0, locals := 25 }
set_option maxRecDepth 100000 in
set_option maxHeartbeats 4000000 in
theorem w_X8_write_0 {p : Program} {l : Launch} {e : Env} {s : State} {m : MethodId} {args : Array Value} {below : List Frame} {meth : Method} {c : Code} {D : va_G} {cI cZ : ClassId} {ad : Nat → Nat} (C : pv_C p s m args meth c cX8_write 3 RX8 D cI cZ ad (pv_A ad)) (hr : meth.sig.returnType = some .int) (R0 : (Int32 × pv_S)) (p0 : Int32) (p1 : Int32) (σ : pv_S) (h : f_X8_write p0 p1 σ = some R0) : Wx p l e r_X8_write s m args below meth c 0 0 (MQ below (pv_QI D cI cZ ad R0) args s 0 0 (pv_A ad)) 3 D cI cZ ad (pv_A ad) 0 [(0, .ref (ad 8)), (1, .int p0), (2, .int p1)] [] σ := by
  unfold f_X8_write at h
  refine x_iload_n C dX8_write_0 rfl 1 rfl ?_
  refine x_i2l C dX8_write_1 ?_
  refine x_lconst (v := 0) C dX8_write_2 (by decide) ?_
  refine x_ldc2 C kc_X8_118 dX8_write_3 ?_
  obtain ⟨q1, eq1, h⟩ := gb_some h
  refine x_si (st := []) C kY_X8_in (m_X8_in l D cI cZ ad C.2.2.2.2.2.2.1 p0.toInt64 0 10 σ q1 eq1) kl_X8_40 ⟨rfl, rfl⟩ ⟨Nat.le_of_ble_eq_true rfl, Nat.le_of_ble_eq_true rfl⟩ ⟨Nat.zero_le _, Nat.zero_le _⟩ rfl rfl (Nat.le_of_ble_eq_true rfl) dX8_write_6 ?_
  refine x_if_ne C 15 dX8_write_9 (by decide) (fun c2 => ?_) (fun c2 => ?_)
  · have h := (if_neg c2).symm.trans h
    refine x_aload_n C dX8_write_15 rfl 0 rfl ?_
    refine xg_X8_82 C dX8_write_16 ?_
    refine x_bipush (v := 20) C dX8_write_19 (by decide) ?_
    refine x_icmp_ne C 27 dX8_write_21 (by decide) (fun c3 => ?_) (fun c3 => ?_)
    · have h := (if_neg c3).symm.trans h
      refine x_aload_n C dX8_write_27 rfl 0 rfl ?_
      refine xg_X8_16 C dX8_write_28 ?_
      refine x_aload_n C dX8_write_31 rfl 0 rfl ?_
      refine xg_X8_82 C dX8_write_32 ?_
      refine x_iload_n C dX8_write_35 rfl 1 rfl ?_
      obtain ⟨g4, h⟩ := gd_some h
      refine xs_15 C g4 dX8_write_36 ?_
      refine x_aload_n C dX8_write_37 rfl 0 rfl ?_
      refine xg_X8_19 C dX8_write_38 ?_
      refine x_aload_n C dX8_write_41 rfl 0 rfl ?_
      refine xg_X8_82 C dX8_write_42 ?_
      refine x_iload_n C dX8_write_45 rfl 2 rfl ?_
      obtain ⟨g5, h⟩ := gd_some h
      refine xs_16 C g5 dX8_write_46 ?_
      refine x_aload_n C dX8_write_47 rfl 0 rfl ?_
      refine x_dup C dX8_write_48 rfl ?_
      refine xg_X8_82 C dX8_write_49 ?_
      refine x_iconst (v := 1) C dX8_write_52 (by decide) ?_
      refine x_iadd C dX8_write_53 ?_
      refine xp_X8_82 C dX8_write_54 ?_
      refine x_aload_n C dX8_write_57 rfl 0 rfl ?_
      refine xg_X8_82 C dX8_write_58 ?_
      exact x_iret C hr dX8_write_61 (Option.some.inj h)
    · have h := (if_pos c3).symm.trans h
      refine x_ldc C kc_X8_149 dX8_write_24 ?_
      exact x_iret C hr dX8_write_26 (Option.some.inj h)
  · have h := (if_pos c2).symm.trans h
    refine x_ldc C kc_X8_91 dX8_write_12 ?_
    exact x_iret C hr dX8_write_14 (Option.some.inj h)
theorem m_X8_write (l : Launch) (D : va_G) (cI cZ : ClassId) (ad : Nat → Nat) (hJ : pv_J ad) (p0 : Int32) (p1 : Int32) (σ : pv_S) (R0 : (Int32 × pv_S)) (h : f_X8_write p0 p1 σ = some R0) : Met l yX8_write (Cond.code yX8_write cX8_write 3 (some .int) :: lwG) r_X8_write (va_Pc [.ref (ad 8), .int p0, .int p1] (pv_P D cI cZ ad σ)) (pv_QI D cI cZ ad R0) 0 0 (pv_A ad) := x_met (by decide) rfl hJ (Nat.le_of_ble_eq_true rfl) (fun p e s m args below meth c C hr => w_X8_write_0 C hr R0 p0 p1 σ h)
abbrev r_X8_tear : Room := { frames := 0, cells := 0, slots := 0, locals := 0 }
set_option maxRecDepth 100000 in
set_option maxHeartbeats 4000000 in
theorem w_X8_tear_0 {p : Program} {l : Launch} {e : Env} {s : State} {m : MethodId} {args : Array Value} {below : List Frame} {meth : Method} {c : Code} {D : va_G} {cI cZ : ClassId} {ad : Nat → Nat} (C : pv_C p s m args meth c cX8_tear 2 RX8 D cI cZ ad (pv_A ad)) (hr : meth.sig.returnType = some .int) (R0 : (Int32 × pv_S)) (σ : pv_S) (h : f_X8_tear σ = some R0) : Wx p l e r_X8_tear s m args below meth c 0 0 (MQ below (pv_QI D cI cZ ad R0) args s 0 0 (pv_A ad)) 2 D cI cZ ad (pv_A ad) 0 [(0, .ref (ad 8))] [] σ := by
  unfold f_X8_tear at h
  refine x_aload_n C dX8_tear_0 rfl 0 rfl ?_
  refine xg_X8_82 C dX8_tear_1 ?_
  refine x_istore_n (lv' := [(1, .int (σ.1 13)), (0, .ref (ad 8))]) C dX8_tear_4 rfl (by decide) rfl ?_
  refine x_aload_n C dX8_tear_5 rfl 1 rfl ?_
  refine x_iconst (v := 0) C dX8_tear_6 (by decide) ?_
  refine xp_X8_82 C dX8_tear_7 ?_
  refine x_iload_n C dX8_tear_10 rfl 0 rfl ?_
  exact x_iret C hr dX8_tear_11 (Option.some.inj h)
theorem m_X8_tear (l : Launch) (D : va_G) (cI cZ : ClassId) (ad : Nat → Nat) (hJ : pv_J ad)  (σ : pv_S) (R0 : (Int32 × pv_S)) (h : f_X8_tear σ = some R0) : Met l yX8_tear (Cond.code yX8_tear cX8_tear 2 (some .int) :: lwG) r_X8_tear (va_Pc [.ref (ad 8)] (pv_P D cI cZ ad σ)) (pv_QI D cI cZ ad R0) 0 0 (pv_A ad) := x_met (by decide) rfl hJ (Nat.le_of_ble_eq_true rfl) (fun p e s m args below meth c C hr => w_X8_tear_0 C hr R0 σ h)
abbrev r_X8_seed : Room := { frames := 0, cells := 0, slots := 0, locals := 0 }
set_option maxRecDepth 100000 in
set_option maxHeartbeats 4000000 in
theorem w_X8_seed_0 {p : Program} {l : Launch} {e : Env} {s : State} {m : MethodId} {args : Array Value} {below : List Frame} {meth : Method} {c : Code} {D : va_G} {cI cZ : ClassId} {ad : Nat → Nat} (C : pv_C p s m args meth c cX8_seed 3 RX8 D cI cZ ad (pv_A ad)) (hr : meth.sig.returnType = some .int) (R0 : (Int32 × pv_S)) (p0 : Int32) (σ : pv_S) (h : f_X8_seed p0 σ = some R0) : Wx p l e r_X8_seed s m args below meth c 0 0 (MQ below (pv_QI D cI cZ ad R0) args s 0 0 (pv_A ad)) 3 D cI cZ ad (pv_A ad) 0 [(0, .ref (ad 8)), (1, .int p0)] [] σ := by
  unfold f_X8_seed at h
  refine x_iload_n C dX8_seed_0 rfl 1 rfl ?_
  refine x_if_ge C 7 dX8_seed_1 (by decide) (fun c1 => ?_) (fun c1 => ?_)
  · have h := (if_pos c1).symm.trans h
    refine x_aload_n C dX8_seed_7 rfl 0 rfl ?_
    refine xg_X8_88 C dX8_seed_8 ?_
    refine x_istore_n (lv' := [(2, .int (σ.1 12)), (0, .ref (ad 8)), (1, .int p0)]) C dX8_seed_11 rfl (by decide) rfl ?_
    refine x_aload_n C dX8_seed_12 rfl 1 rfl ?_
    refine x_iload_n C dX8_seed_13 rfl 2 rfl ?_
    refine xp_X8_88 C dX8_seed_14 ?_
    refine x_iload_n C dX8_seed_17 rfl 0 rfl ?_
    exact x_iret C hr dX8_seed_18 (Option.some.inj h)
  · have h := (if_neg c1).symm.trans h
    refine x_ldc C kc_X8_91 dX8_seed_4 ?_
    exact x_iret C hr dX8_seed_6 (Option.some.inj h)
theorem m_X8_seed (l : Launch) (D : va_G) (cI cZ : ClassId) (ad : Nat → Nat) (hJ : pv_J ad) (p0 : Int32) (σ : pv_S) (R0 : (Int32 × pv_S)) (h : f_X8_seed p0 σ = some R0) : Met l yX8_seed (Cond.code yX8_seed cX8_seed 3 (some .int) :: lwG) r_X8_seed (va_Pc [.ref (ad 8), .int p0] (pv_P D cI cZ ad σ)) (pv_QI D cI cZ ad R0) 0 0 (pv_A ad) := x_met (by decide) rfl hJ (Nat.le_of_ble_eq_true rfl) (fun p e s m args below meth c C hr => w_X8_seed_0 C hr R0 p0 σ h)
