abbrev r_X4_noteOf : Room := { frames := 2, cells := 0, slots := 0, locals := 43 }
set_option maxRecDepth 100000 in
set_option maxHeartbeats 4000000 in
theorem w_X4_noteOf_5 {p : Program} {l : Launch} {e : Env} {s : State} {m : MethodId} {args : Array Value} {below : List Frame} {meth : Method} {c : Code} {D : va_G} {cI cZ : ClassId} {ad : Nat → Nat} (C : pv_C p s m args meth c cX4_noteOf 5 RX4 D cI cZ ad (pv_A ad)) (hr : meth.sig.returnType = some .int) (R0 : (Int32 × pv_S)) : ∀ (n : Nat) (v1 : Int32) (v2 : Int32) (v3 : Int32) (v4 : Int32) (σ : pv_S), f_X4_noteOf_5 n v1 v2 v3 v4 σ = some R0 → Wx p l e r_X4_noteOf s m args below meth c 0 0 (MQ below (pv_QI D cI cZ ad R0) args s 0 0 (pv_A ad)) 5 D cI cZ ad (pv_A ad) 5 [(0, .ref (ad 2)), (1, .int v1), (2, .int v2), (3, .int v3), (4, .int v4)] [] σ := by
  intro n
  induction n with
  | zero =>
    intro v1 v2 v3 v4 σ h
    have h2 : (none : Option (Int32 × pv_S)) = some R0 := h
    cases h2
  | succ n ih =>
    intro v1 v2 v3 v4 σ h
    unfold f_X4_noteOf_5 at h
    refine x_iload C dX4_noteOf_5 4 rfl ?_
    refine x_aload_n C dX4_noteOf_7 rfl 0 rfl ?_
    refine xg_X4_18 C dX4_noteOf_8 ?_
    obtain ⟨q1, eq1, h⟩ := gb_some h
    refine x_vi (st := [.int v4]) C kY_X6_count 1 6 rfl rfl rfl (m_X6_count l D cI cZ ad C.2.2.2.2.2.2.1 σ q1 eq1) kl_X4_28 ⟨rfl, rfl⟩ ⟨Nat.le_of_ble_eq_true rfl, Nat.le_of_ble_eq_true rfl⟩ ⟨Nat.zero_le _, Nat.zero_le _⟩ rfl rfl (Nat.le_of_ble_eq_true rfl) dX4_noteOf_11 ?_
    refine x_icmp_ge C 44 dX4_noteOf_14 (by decide) (fun c2 => ?_) (fun c2 => ?_)
    · have h := (if_pos c2).symm.trans h
      refine x_iconst (v := (-1)) C dX4_noteOf_44 (by decide) ?_
      exact x_iret C hr dX4_noteOf_45 (Option.some.inj h)
    · have h := (if_neg c2).symm.trans h
      refine x_aload_n C dX4_noteOf_17 rfl 0 rfl ?_
      refine x_iload_n C dX4_noteOf_18 rfl 1 rfl ?_
      refine x_iload C dX4_noteOf_19 4 rfl ?_
      obtain ⟨q3, eq3, h⟩ := gb_some h
      refine x_vi (st := []) C kY_X4_isIn 2 4 rfl rfl rfl (m_X4_isIn l D cI cZ ad C.2.2.2.2.2.2.1 v1 v4 q1.2 q3 eq3) kl_X4_46 ⟨rfl, rfl⟩ ⟨Nat.le_of_ble_eq_true rfl, Nat.le_of_ble_eq_true rfl⟩ ⟨Nat.zero_le _, Nat.zero_le _⟩ rfl rfl (Nat.le_of_ble_eq_true rfl) dX4_noteOf_21 ?_
      refine x_if_eq C 38 dX4_noteOf_24 (by decide) (fun c4 => ?_) (fun c4 => ?_)
      · have h := (if_pos c4).symm.trans h
        refine x_iinc (v := (v4 + 1)) (lv' := [(4, .int (v4 + 1)), (0, .ref (ad 2)), (1, .int v1), (2, .int v2), (3, .int v3)]) C 4 dX4_noteOf_38 rfl rfl (by decide) rfl ?_
        refine x_goto C 5 dX4_noteOf_41 (by decide) ?_
        refine x_sub [1, 2, 3, 4, 0] rfl ?_
        exact ih v1 v2 v3 (v4 + 1) q3.2 h
      · have h := (if_neg c4).symm.trans h
        refine x_iload_n C dX4_noteOf_27 rfl 3 rfl ?_
        refine x_iload_n C dX4_noteOf_28 rfl 2 rfl ?_
        refine x_icmp_ne C 35 dX4_noteOf_29 (by decide) (fun c5 => ?_) (fun c5 => ?_)
        · have h := (if_neg c5).symm.trans h
          refine x_iinc (v := (v3 + 1)) (lv' := [(3, .int (v3 + 1)), (0, .ref (ad 2)), (1, .int v1), (2, .int v2), (4, .int v4)]) C 3 dX4_noteOf_35 rfl rfl (by decide) rfl ?_
          refine x_iinc (v := (v4 + 1)) (lv' := [(4, .int (v4 + 1)), (3, .int (v3 + 1)), (0, .ref (ad 2)), (1, .int v1), (2, .int v2)]) C 4 dX4_noteOf_38 rfl rfl (by decide) rfl ?_
          refine x_goto C 5 dX4_noteOf_41 (by decide) ?_
          refine x_sub [2, 3, 4, 1, 0] rfl ?_
          exact ih v1 v2 (v3 + 1) (v4 + 1) q3.2 h
        · have h := (if_pos c5).symm.trans h
          refine x_iload C dX4_noteOf_32 4 rfl ?_
          exact x_iret C hr dX4_noteOf_34 (Option.some.inj h)
set_option maxRecDepth 100000 in
set_option maxHeartbeats 4000000 in
theorem w_X4_noteOf_0 {p : Program} {l : Launch} {e : Env} {s : State} {m : MethodId} {args : Array Value} {below : List Frame} {meth : Method} {c : Code} {D : va_G} {cI cZ : ClassId} {ad : Nat → Nat} (C : pv_C p s m args meth c cX4_noteOf 5 RX4 D cI cZ ad (pv_A ad)) (hr : meth.sig.returnType = some .int) (R0 : (Int32 × pv_S)) (p0 : Int32) (p1 : Int32) (σ : pv_S) (h : f_X4_noteOf p0 p1 σ = some R0) : Wx p l e r_X4_noteOf s m args below meth c 0 0 (MQ below (pv_QI D cI cZ ad R0) args s 0 0 (pv_A ad)) 5 D cI cZ ad (pv_A ad) 0 [(0, .ref (ad 2)), (1, .int p0), (2, .int p1)] [] σ := by
  unfold f_X4_noteOf at h
  refine x_iconst (v := 0) C dX4_noteOf_0 (by decide) ?_
  refine x_istore_n (lv' := [(3, .int 0), (0, .ref (ad 2)), (1, .int p0), (2, .int p1)]) C dX4_noteOf_1 rfl (by decide) rfl ?_
  refine x_iconst (v := 0) C dX4_noteOf_2 (by decide) ?_
  refine x_istore (lv' := [(4, .int 0), (3, .int 0), (0, .ref (ad 2)), (1, .int p0), (2, .int p1)]) C dX4_noteOf_3 (by decide) rfl ?_
  refine x_sub [2, 3, 4, 1, 0] rfl ?_
  exact w_X4_noteOf_5 C hr R0 pv_FU p0 p1 0 0 σ h
theorem m_X4_noteOf (l : Launch) (D : va_G) (cI cZ : ClassId) (ad : Nat → Nat) (hJ : pv_J ad) (p0 : Int32) (p1 : Int32) (σ : pv_S) (R0 : (Int32 × pv_S)) (h : f_X4_noteOf p0 p1 σ = some R0) : Met l yX4_noteOf (Cond.code yX4_noteOf cX4_noteOf 5 (some .int) :: lwG) r_X4_noteOf (va_Pc [.ref (ad 2), .int p0, .int p1] (pv_P D cI cZ ad σ)) (pv_QI D cI cZ ad R0) 0 0 (pv_A ad) := x_met (by decide) rfl hJ (Nat.le_of_ble_eq_true rfl) (fun p e s m args below meth c C hr => w_X4_noteOf_0 C hr R0 p0 p1 σ h)
abbrev r_X4_lowest : Room := { frames := 3, cells := 0, slots := 0, locals := 67 }
set_option maxRecDepth 100000 in
set_option maxHeartbeats 4000000 in
theorem w_X4_lowest_16 {p : Program} {l : Launch} {e : Env} {s : State} {m : MethodId} {args : Array Value} {below : List Frame} {meth : Method} {c : Code} {D : va_G} {cI cZ : ClassId} {ad : Nat → Nat} (C : pv_C p s m args meth c cX4_lowest 4 RX4 D cI cZ ad (pv_A ad)) (hr : meth.sig.returnType = some .int) (R0 : (Int32 × pv_S)) : ∀ (n : Nat) (v1 : Int32) (v2 : Int32) (v3 : Int32) (σ : pv_S), f_X4_lowest_16 n v1 v2 v3 σ = some R0 → Wx p l e r_X4_lowest s m args below meth c 0 0 (MQ below (pv_QI D cI cZ ad R0) args s 0 0 (pv_A ad)) 4 D cI cZ ad (pv_A ad) 16 [(0, .ref (ad 2)), (1, .int v1), (2, .int v2), (3, .int v3)] [] σ := by
  intro n
  induction n with
  | zero =>
    intro v1 v2 v3 σ h
    have h2 : (none : Option (Int32 × pv_S)) = some R0 := h
    cases h2
  | succ n ih =>
    intro v1 v2 v3 σ h
    unfold f_X4_lowest_16 at h
    refine x_iload_n C dX4_lowest_16 rfl 3 rfl ?_
    refine x_aload_n C dX4_lowest_17 rfl 0 rfl ?_
    refine xg_X4_18 C dX4_lowest_18 ?_
    obtain ⟨q1, eq1, h⟩ := gb_some h
    refine x_vi (st := [.int v3]) C kY_X6_count 1 6 rfl rfl rfl (m_X6_count l D cI cZ ad C.2.2.2.2.2.2.1 σ q1 eq1) kl_X4_28 ⟨rfl, rfl⟩ ⟨Nat.le_of_ble_eq_true rfl, Nat.le_of_ble_eq_true rfl⟩ ⟨Nat.zero_le _, Nat.zero_le _⟩ rfl rfl (Nat.le_of_ble_eq_true rfl) dX4_lowest_21 ?_
    refine x_icmp_ge C 55 dX4_lowest_24 (by decide) (fun c2 => ?_) (fun c2 => ?_)
    · have h := (if_pos c2).symm.trans h
      refine x_iload_n C dX4_lowest_55 rfl 2 rfl ?_
      exact x_iret C hr dX4_lowest_56 (Option.some.inj h)
    · have h := (if_neg c2).symm.trans h
      refine x_aload_n C dX4_lowest_27 rfl 0 rfl ?_
      refine x_iload_n C dX4_lowest_28 rfl 1 rfl ?_
      refine x_iload_n C dX4_lowest_29 rfl 3 rfl ?_
      obtain ⟨q3, eq3, h⟩ := gb_some h
      refine x_vi (st := []) C kY_X4_isIn 2 4 rfl rfl rfl (m_X4_isIn l D cI cZ ad C.2.2.2.2.2.2.1 v1 v3 q1.2 q3 eq3) kl_X4_46 ⟨rfl, rfl⟩ ⟨Nat.le_of_ble_eq_true rfl, Nat.le_of_ble_eq_true rfl⟩ ⟨Nat.zero_le _, Nat.zero_le _⟩ rfl rfl (Nat.le_of_ble_eq_true rfl) dX4_lowest_30 ?_
      refine x_if_eq C 49 dX4_lowest_33 (by decide) (fun c4 => ?_) (fun c4 => ?_)
      · have h := (if_pos c4).symm.trans h
        refine x_iinc (v := (v3 + 1)) (lv' := [(3, .int (v3 + 1)), (0, .ref (ad 2)), (1, .int v1), (2, .int v2)]) C 3 dX4_lowest_49 rfl rfl (by decide) rfl ?_
        refine x_goto C 16 dX4_lowest_52 (by decide) ?_
        refine x_sub [1, 2, 3, 0] rfl ?_
        exact ih v1 v2 (v3 + 1) q3.2 h
      · have h := (if_neg c4).symm.trans h
        refine x_iload_n C dX4_lowest_36 rfl 2 rfl ?_
        refine x_aload_n C dX4_lowest_37 rfl 0 rfl ?_
        refine xg_X4_18 C dX4_lowest_38 ?_
        refine x_iload_n C dX4_lowest_41 rfl 3 rfl ?_
        obtain ⟨q5, eq5, h⟩ := gb_some h
        refine x_vi (st := [.int v2]) C kY_X6_pitch 1 6 rfl rfl rfl (m_X6_pitch l D cI cZ ad C.2.2.2.2.2.2.1 v3 q3.2 q5 eq5) kl_X4_54 ⟨rfl, rfl⟩ ⟨Nat.le_of_ble_eq_true rfl, Nat.le_of_ble_eq_true rfl⟩ ⟨Nat.zero_le _, Nat.zero_le _⟩ rfl rfl (Nat.le_of_ble_eq_true rfl) dX4_lowest_42 ?_
        refine x_mmin C kl_X4_57 kM_min kM_init kMc_min ⟨Nat.le_of_ble_eq_true rfl, Nat.le_of_ble_eq_true rfl⟩ ⟨Nat.zero_le _, Nat.zero_le _⟩ dX4_lowest_45 ?_
        refine x_istore_n (lv' := [(2, .int (if q5.1 < v2 then q5.1 else v2)), (0, .ref (ad 2)), (1, .int v1), (3, .int v3)]) C dX4_lowest_48 rfl (by decide) rfl ?_
        refine x_iinc (v := (v3 + 1)) (lv' := [(3, .int (v3 + 1)), (2, .int (if q5.1 < v2 then q5.1 else v2)), (0, .ref (ad 2)), (1, .int v1)]) C 3 dX4_lowest_49 rfl rfl (by decide) rfl ?_
        refine x_goto C 16 dX4_lowest_52 (by decide) ?_
        refine x_sub [2, 3, 1, 0] rfl ?_
        exact ih v1 (if q5.1 < v2 then q5.1 else v2) (v3 + 1) q5.2 h
set_option maxRecDepth 100000 in
set_option maxHeartbeats 4000000 in
theorem w_X4_lowest_0 {p : Program} {l : Launch} {e : Env} {s : State} {m : MethodId} {args : Array Value} {below : List Frame} {meth : Method} {c : Code} {D : va_G} {cI cZ : ClassId} {ad : Nat → Nat} (C : pv_C p s m args meth c cX4_lowest 4 RX4 D cI cZ ad (pv_A ad)) (hr : meth.sig.returnType = some .int) (R0 : (Int32 × pv_S)) (p0 : Int32) (σ : pv_S) (h : f_X4_lowest p0 σ = some R0) : Wx p l e r_X4_lowest s m args below meth c 0 0 (MQ below (pv_QI D cI cZ ad R0) args s 0 0 (pv_A ad)) 4 D cI cZ ad (pv_A ad) 0 [(0, .ref (ad 2)), (1, .int p0)] [] σ := by
  unfold f_X4_lowest at h
  refine x_aload_n C dX4_lowest_0 rfl 0 rfl ?_
  refine xg_X4_18 C dX4_lowest_1 ?_
  refine x_aload_n C dX4_lowest_4 rfl 0 rfl ?_
  refine x_iload_n C dX4_lowest_5 rfl 1 rfl ?_
  refine x_iconst (v := 0) C dX4_lowest_6 (by decide) ?_
  obtain ⟨q1, eq1, h⟩ := gb_some h
  refine x_vi (st := [.ref (ad 1)]) C kY_X4_noteOf 2 4 rfl rfl rfl (m_X4_noteOf l D cI cZ ad C.2.2.2.2.2.2.1 p0 0 σ q1 eq1) kl_X4_50 ⟨rfl, rfl⟩ ⟨Nat.le_of_ble_eq_true rfl, Nat.le_of_ble_eq_true rfl⟩ ⟨Nat.zero_le _, Nat.zero_le _⟩ rfl rfl (Nat.le_of_ble_eq_true rfl) dX4_lowest_7 ?_
  obtain ⟨q2, eq2, h⟩ := gb_some h
  refine x_vi (st := []) C kY_X6_pitch 1 6 rfl rfl rfl (m_X6_pitch l D cI cZ ad C.2.2.2.2.2.2.1 q1.1 q1.2 q2 eq2) kl_X4_54 ⟨rfl, rfl⟩ ⟨Nat.le_of_ble_eq_true rfl, Nat.le_of_ble_eq_true rfl⟩ ⟨Nat.zero_le _, Nat.zero_le _⟩ rfl rfl (Nat.le_of_ble_eq_true rfl) dX4_lowest_10 ?_
  refine x_istore_n (lv' := [(2, .int q2.1), (0, .ref (ad 2)), (1, .int p0)]) C dX4_lowest_13 rfl (by decide) rfl ?_
  refine x_iconst (v := 0) C dX4_lowest_14 (by decide) ?_
  refine x_istore_n (lv' := [(3, .int 0), (2, .int q2.1), (0, .ref (ad 2)), (1, .int p0)]) C dX4_lowest_15 rfl (by decide) rfl ?_
  refine x_sub [2, 3, 1, 0] rfl ?_
  exact w_X4_lowest_16 C hr R0 pv_FU p0 q2.1 0 q2.2 h
theorem m_X4_lowest (l : Launch) (D : va_G) (cI cZ : ClassId) (ad : Nat → Nat) (hJ : pv_J ad) (p0 : Int32) (σ : pv_S) (R0 : (Int32 × pv_S)) (h : f_X4_lowest p0 σ = some R0) : Met l yX4_lowest (Cond.code yX4_lowest cX4_lowest 4 (some .int) :: lwG) r_X4_lowest (va_Pc [.ref (ad 2), .int p0] (pv_P D cI cZ ad σ)) (pv_QI D cI cZ ad R0) 0 0 (pv_A ad) := x_met (by decide) rfl hJ (Nat.le_of_ble_eq_true rfl) (fun p e s m args below meth c C hr => w_X4_lowest_0 C hr R0 p0 σ h)
abbrev r_X4_highest : Room := { frames := 3, cells := 0, slots := 0, locals := 67 }
set_option maxRecDepth 100000 in
set_option maxHeartbeats 4000000 in
theorem w_X4_highest_16 {p : Program} {l : Launch} {e : Env} {s : State} {m : MethodId} {args : Array Value} {below : List Frame} {meth : Method} {c : Code} {D : va_G} {cI cZ : ClassId} {ad : Nat → Nat} (C : pv_C p s m args meth c cX4_highest 4 RX4 D cI cZ ad (pv_A ad)) (hr : meth.sig.returnType = some .int) (R0 : (Int32 × pv_S)) : ∀ (n : Nat) (v1 : Int32) (v2 : Int32) (v3 : Int32) (σ : pv_S), f_X4_highest_16 n v1 v2 v3 σ = some R0 → Wx p l e r_X4_highest s m args below meth c 0 0 (MQ below (pv_QI D cI cZ ad R0) args s 0 0 (pv_A ad)) 4 D cI cZ ad (pv_A ad) 16 [(0, .ref (ad 2)), (1, .int v1), (2, .int v2), (3, .int v3)] [] σ := by
  intro n
  induction n with
  | zero =>
    intro v1 v2 v3 σ h
    have h2 : (none : Option (Int32 × pv_S)) = some R0 := h
    cases h2
  | succ n ih =>
    intro v1 v2 v3 σ h
    unfold f_X4_highest_16 at h
    refine x_iload_n C dX4_highest_16 rfl 3 rfl ?_
    refine x_aload_n C dX4_highest_17 rfl 0 rfl ?_
    refine xg_X4_18 C dX4_highest_18 ?_
    obtain ⟨q1, eq1, h⟩ := gb_some h
    refine x_vi (st := [.int v3]) C kY_X6_count 1 6 rfl rfl rfl (m_X6_count l D cI cZ ad C.2.2.2.2.2.2.1 σ q1 eq1) kl_X4_28 ⟨rfl, rfl⟩ ⟨Nat.le_of_ble_eq_true rfl, Nat.le_of_ble_eq_true rfl⟩ ⟨Nat.zero_le _, Nat.zero_le _⟩ rfl rfl (Nat.le_of_ble_eq_true rfl) dX4_highest_21 ?_
    refine x_icmp_ge C 55 dX4_highest_24 (by decide) (fun c2 => ?_) (fun c2 => ?_)
    · have h := (if_pos c2).symm.trans h
      refine x_iload_n C dX4_highest_55 rfl 2 rfl ?_
      exact x_iret C hr dX4_highest_56 (Option.some.inj h)
    · have h := (if_neg c2).symm.trans h
      refine x_aload_n C dX4_highest_27 rfl 0 rfl ?_
      refine x_iload_n C dX4_highest_28 rfl 1 rfl ?_
      refine x_iload_n C dX4_highest_29 rfl 3 rfl ?_
      obtain ⟨q3, eq3, h⟩ := gb_some h
      refine x_vi (st := []) C kY_X4_isIn 2 4 rfl rfl rfl (m_X4_isIn l D cI cZ ad C.2.2.2.2.2.2.1 v1 v3 q1.2 q3 eq3) kl_X4_46 ⟨rfl, rfl⟩ ⟨Nat.le_of_ble_eq_true rfl, Nat.le_of_ble_eq_true rfl⟩ ⟨Nat.zero_le _, Nat.zero_le _⟩ rfl rfl (Nat.le_of_ble_eq_true rfl) dX4_highest_30 ?_
      refine x_if_eq C 49 dX4_highest_33 (by decide) (fun c4 => ?_) (fun c4 => ?_)
      · have h := (if_pos c4).symm.trans h
        refine x_iinc (v := (v3 + 1)) (lv' := [(3, .int (v3 + 1)), (0, .ref (ad 2)), (1, .int v1), (2, .int v2)]) C 3 dX4_highest_49 rfl rfl (by decide) rfl ?_
        refine x_goto C 16 dX4_highest_52 (by decide) ?_
        refine x_sub [1, 2, 3, 0] rfl ?_
        exact ih v1 v2 (v3 + 1) q3.2 h
      · have h := (if_neg c4).symm.trans h
        refine x_iload_n C dX4_highest_36 rfl 2 rfl ?_
        refine x_aload_n C dX4_highest_37 rfl 0 rfl ?_
        refine xg_X4_18 C dX4_highest_38 ?_
        refine x_iload_n C dX4_highest_41 rfl 3 rfl ?_
        obtain ⟨q5, eq5, h⟩ := gb_some h
        refine x_vi (st := [.int v2]) C kY_X6_pitch 1 6 rfl rfl rfl (m_X6_pitch l D cI cZ ad C.2.2.2.2.2.2.1 v3 q3.2 q5 eq5) kl_X4_54 ⟨rfl, rfl⟩ ⟨Nat.le_of_ble_eq_true rfl, Nat.le_of_ble_eq_true rfl⟩ ⟨Nat.zero_le _, Nat.zero_le _⟩ rfl rfl (Nat.le_of_ble_eq_true rfl) dX4_highest_42 ?_
        refine x_mmax C kl_X4_62 kM_max kM_init kMc_max ⟨Nat.le_of_ble_eq_true rfl, Nat.le_of_ble_eq_true rfl⟩ ⟨Nat.zero_le _, Nat.zero_le _⟩ dX4_highest_45 ?_
        refine x_istore_n (lv' := [(2, .int (if v2 < q5.1 then q5.1 else v2)), (0, .ref (ad 2)), (1, .int v1), (3, .int v3)]) C dX4_highest_48 rfl (by decide) rfl ?_
        refine x_iinc (v := (v3 + 1)) (lv' := [(3, .int (v3 + 1)), (2, .int (if v2 < q5.1 then q5.1 else v2)), (0, .ref (ad 2)), (1, .int v1)]) C 3 dX4_highest_49 rfl rfl (by decide) rfl ?_
        refine x_goto C 16 dX4_highest_52 (by decide) ?_
        refine x_sub [2, 3, 1, 0] rfl ?_
        exact ih v1 (if v2 < q5.1 then q5.1 else v2) (v3 + 1) q5.2 h
set_option maxRecDepth 100000 in
set_option maxHeartbeats 4000000 in
theorem w_X4_highest_0 {p : Program} {l : Launch} {e : Env} {s : State} {m : MethodId} {args : Array Value} {below : List Frame} {meth : Method} {c : Code} {D : va_G} {cI cZ : ClassId} {ad : Nat → Nat} (C : pv_C p s m args meth c cX4_highest 4 RX4 D cI cZ ad (pv_A ad)) (hr : meth.sig.returnType = some .int) (R0 : (Int32 × pv_S)) (p0 : Int32) (σ : pv_S) (h : f_X4_highest p0 σ = some R0) : Wx p l e r_X4_highest s m args below meth c 0 0 (MQ below (pv_QI D cI cZ ad R0) args s 0 0 (pv_A ad)) 4 D cI cZ ad (pv_A ad) 0 [(0, .ref (ad 2)), (1, .int p0)] [] σ := by
  unfold f_X4_highest at h
  refine x_aload_n C dX4_highest_0 rfl 0 rfl ?_
  refine xg_X4_18 C dX4_highest_1 ?_
  refine x_aload_n C dX4_highest_4 rfl 0 rfl ?_
  refine x_iload_n C dX4_highest_5 rfl 1 rfl ?_
  refine x_iconst (v := 0) C dX4_highest_6 (by decide) ?_
  obtain ⟨q1, eq1, h⟩ := gb_some h
  refine x_vi (st := [.ref (ad 1)]) C kY_X4_noteOf 2 4 rfl rfl rfl (m_X4_noteOf l D cI cZ ad C.2.2.2.2.2.2.1 p0 0 σ q1 eq1) kl_X4_50 ⟨rfl, rfl⟩ ⟨Nat.le_of_ble_eq_true rfl, Nat.le_of_ble_eq_true rfl⟩ ⟨Nat.zero_le _, Nat.zero_le _⟩ rfl rfl (Nat.le_of_ble_eq_true rfl) dX4_highest_7 ?_
  obtain ⟨q2, eq2, h⟩ := gb_some h
  refine x_vi (st := []) C kY_X6_pitch 1 6 rfl rfl rfl (m_X6_pitch l D cI cZ ad C.2.2.2.2.2.2.1 q1.1 q1.2 q2 eq2) kl_X4_54 ⟨rfl, rfl⟩ ⟨Nat.le_of_ble_eq_true rfl, Nat.le_of_ble_eq_true rfl⟩ ⟨Nat.zero_le _, Nat.zero_le _⟩ rfl rfl (Nat.le_of_ble_eq_true rfl) dX4_highest_10 ?_
  refine x_istore_n (lv' := [(2, .int q2.1), (0, .ref (ad 2)), (1, .int p0)]) C dX4_highest_13 rfl (by decide) rfl ?_
  refine x_iconst (v := 0) C dX4_highest_14 (by decide) ?_
  refine x_istore_n (lv' := [(3, .int 0), (2, .int q2.1), (0, .ref (ad 2)), (1, .int p0)]) C dX4_highest_15 rfl (by decide) rfl ?_
  refine x_sub [2, 3, 1, 0] rfl ?_
  exact w_X4_highest_16 C hr R0 pv_FU p0 q2.1 0 q2.2 h
theorem m_X4_highest (l : Launch) (D : va_G) (cI cZ : ClassId) (ad : Nat → Nat) (hJ : pv_J ad) (p0 : Int32) (σ : pv_S) (R0 : (Int32 × pv_S)) (h : f_X4_highest p0 σ = some R0) : Met l yX4_highest (Cond.code yX4_highest cX4_highest 4 (some .int) :: lwG) r_X4_highest (va_Pc [.ref (ad 2), .int p0] (pv_P D cI cZ ad σ)) (pv_QI D cI cZ ad R0) 0 0 (pv_A ad) := x_met (by decide) rfl hJ (Nat.le_of_ble_eq_true rfl) (fun p e s m args below meth c C hr => w_X4_highest_0 C hr R0 p0 σ h)
abbrev r_X4_rests : Room := { frames := 2, cells := 0, slots := 0, locals := 43 }
set_option maxRecDepth 100000 in
set_option maxHeartbeats 4000000 in
theorem w_X4_rests_4 {p : Program} {l : Launch} {e : Env} {s : State} {m : MethodId} {args : Array Value} {below : List Frame} {meth : Method} {c : Code} {D : va_G} {cI cZ : ClassId} {ad : Nat → Nat} (C : pv_C p s m args meth c cX4_rests 5 RX4 D cI cZ ad (pv_A ad)) (hr : meth.sig.returnType = some .int) (R0 : (Int32 × pv_S)) : ∀ (n : Nat) (v1 : Int32) (v2 : Int32) (v3 : Int32) (σ : pv_S), f_X4_rests_4 n v1 v2 v3 σ = some R0 → Wx p l e r_X4_rests s m args below meth c 0 0 (MQ below (pv_QI D cI cZ ad R0) args s 0 0 (pv_A ad)) 5 D cI cZ ad (pv_A ad) 4 [(0, .ref (ad 2)), (1, .int v1), (2, .int v2), (3, .int v3)] [] σ := by
  intro n
  induction n with
  | zero =>
    intro v1 v2 v3 σ h
    have h2 : (none : Option (Int32 × pv_S)) = some R0 := h
    cases h2
  | succ n ih =>
    intro v1 v2 v3 σ h
    unfold f_X4_rests_4 at h
    refine x_iload_n C dX4_rests_4 rfl 3 rfl ?_
    refine x_aload_n C dX4_rests_5 rfl 0 rfl ?_
    refine xg_X4_18 C dX4_rests_6 ?_
    obtain ⟨q1, eq1, h⟩ := gb_some h
    refine x_vi (st := [.int v3]) C kY_X6_count 1 6 rfl rfl rfl (m_X6_count l D cI cZ ad C.2.2.2.2.2.2.1 σ q1 eq1) kl_X4_28 ⟨rfl, rfl⟩ ⟨Nat.le_of_ble_eq_true rfl, Nat.le_of_ble_eq_true rfl⟩ ⟨Nat.zero_le _, Nat.zero_le _⟩ rfl rfl (Nat.le_of_ble_eq_true rfl) dX4_rests_9 ?_
    refine x_icmp_ge C 67 dX4_rests_12 (by decide) (fun c2 => ?_) (fun c2 => ?_)
    · have h := (if_pos c2).symm.trans h
      refine x_iload_n C dX4_rests_67 rfl 2 rfl ?_
      exact x_iret C hr dX4_rests_68 (Option.some.inj h)
    · have h := (if_neg c2).symm.trans h
      refine x_aload_n C dX4_rests_15 rfl 0 rfl ?_
      refine xg_X4_18 C dX4_rests_16 ?_
      refine x_iload_n C dX4_rests_19 rfl 3 rfl ?_
      obtain ⟨q3, eq3, h⟩ := gb_some h
      refine x_vi (st := []) C kY_X6_next 1 6 rfl rfl rfl (m_X6_next l D cI cZ ad C.2.2.2.2.2.2.1 v3 q1.2 q3 eq3) kl_X4_34 ⟨rfl, rfl⟩ ⟨Nat.le_of_ble_eq_true rfl, Nat.le_of_ble_eq_true rfl⟩ ⟨Nat.zero_le _, Nat.zero_le _⟩ rfl rfl (Nat.le_of_ble_eq_true rfl) dX4_rests_20 ?_
      refine x_istore (lv' := [(4, .int q3.1), (0, .ref (ad 2)), (1, .int v1), (2, .int v2), (3, .int v3)]) C dX4_rests_23 (by decide) rfl ?_
      refine x_aload_n C dX4_rests_25 rfl 1 rfl ?_
      refine x_iload_n C dX4_rests_26 rfl 2 rfl ?_
      refine x_iload_n C dX4_rests_27 rfl 4 rfl ?_
      obtain ⟨q4, eq4, h⟩ := gb_some h
      refine x_vi (st := []) C kY_X4_isIn 2 4 rfl rfl rfl (m_X4_isIn l D cI cZ ad C.2.2.2.2.2.2.1 v1 v3 q3.2 q4 eq4) kl_X4_46 ⟨rfl, rfl⟩ ⟨Nat.le_of_ble_eq_true rfl, Nat.le_of_ble_eq_true rfl⟩ ⟨Nat.zero_le _, Nat.zero_le _⟩ rfl rfl (Nat.le_of_ble_eq_true rfl) dX4_rests_28 ?_
      refine x_if_eq C 61 dX4_rests_31 (by decide) (fun c5 => ?_) (fun c5 => ?_)
      · have h := (if_pos c5).symm.trans h
        refine x_iinc (v := (v3 + 1)) (lv' := [(3, .int (v3 + 1)), (4, .int q3.1), (0, .ref (ad 2)), (1, .int v1), (2, .int v2)]) C 4 dX4_rests_61 rfl rfl (by decide) rfl ?_
        refine x_goto C 4 dX4_rests_64 (by decide) ?_
        refine x_sub [2, 3, 4, 0] rfl ?_
        exact ih v1 v2 (v3 + 1) q4.2 h
      · have h := (if_neg c5).symm.trans h
        refine x_iload C dX4_rests_34 0 rfl ?_
        refine x_iconst (v := (-1)) C dX4_rests_36 (by decide) ?_
        refine x_icmp_eq C 61 dX4_rests_37 (by decide) (fun c6 => ?_) (fun c6 => ?_)
        · have h := (if_pos c6).symm.trans h
          refine x_iinc (v := (v3 + 1)) (lv' := [(3, .int (v3 + 1)), (4, .int q3.1), (0, .ref (ad 2)), (1, .int v1), (2, .int v2)]) C 4 dX4_rests_61 rfl rfl (by decide) rfl ?_
          refine x_goto C 4 dX4_rests_64 (by decide) ?_
          refine x_sub [2, 3, 4, 0] rfl ?_
          exact ih v1 v2 (v3 + 1) q4.2 h
        · have h := (if_neg c6).symm.trans h
          refine x_iload_n C dX4_rests_40 rfl 3 rfl ?_
          refine x_aload_n C dX4_rests_41 rfl 1 rfl ?_
          refine xg_X4_18 C dX4_rests_42 ?_
          refine x_iload C dX4_rests_45 0 rfl ?_
          obtain ⟨q7, eq7, h⟩ := gb_some h
          refine x_vi (st := [.int v2]) C kY_X6_on 1 6 rfl rfl rfl (m_X6_on l D cI cZ ad C.2.2.2.2.2.2.1 q3.1 q4.2 q7 eq7) kl_X4_65 ⟨rfl, rfl⟩ ⟨Nat.le_of_ble_eq_true rfl, Nat.le_of_ble_eq_true rfl⟩ ⟨Nat.zero_le _, Nat.zero_le _⟩ rfl rfl (Nat.le_of_ble_eq_true rfl) dX4_rests_47 ?_
          refine x_aload_n C dX4_rests_50 rfl 1 rfl ?_
          refine xg_X4_18 C dX4_rests_51 ?_
          refine x_iload_n C dX4_rests_54 rfl 4 rfl ?_
          obtain ⟨q8, eq8, h⟩ := gb_some h
          refine x_vi (st := [.int q7.1, .int v2]) C kY_X6_off 1 6 rfl rfl rfl (m_X6_off l D cI cZ ad C.2.2.2.2.2.2.1 v3 q7.2 q8 eq8) kl_X4_68 ⟨rfl, rfl⟩ ⟨Nat.le_of_ble_eq_true rfl, Nat.le_of_ble_eq_true rfl⟩ ⟨Nat.zero_le _, Nat.zero_le _⟩ rfl rfl (Nat.le_of_ble_eq_true rfl) dX4_rests_55 ?_
          refine x_isub C dX4_rests_58 ?_
          refine x_iadd C dX4_rests_59 ?_
          refine x_istore_n (lv' := [(2, .int (v2 + (q7.1 - q8.1))), (4, .int q3.1), (0, .ref (ad 2)), (1, .int v1), (3, .int v3)]) C dX4_rests_60 rfl (by decide) rfl ?_
          refine x_iinc (v := (v3 + 1)) (lv' := [(3, .int (v3 + 1)), (2, .int (v2 + (q7.1 - q8.1))), (4, .int q3.1), (0, .ref (ad 2)), (1, .int v1)]) C 4 dX4_rests_61 rfl rfl (by decide) rfl ?_
          refine x_goto C 4 dX4_rests_64 (by decide) ?_
          refine x_sub [3, 4, 1, 0] rfl ?_
          exact ih v1 (v2 + (q7.1 - q8.1)) (v3 + 1) q8.2 h
set_option maxRecDepth 100000 in
set_option maxHeartbeats 4000000 in
theorem w_X4_rests_0 {p : Program} {l : Launch} {e : Env} {s : State} {m : MethodId} {args : Array Value} {below : List Frame} {meth : Method} {c : Code} {D : va_G} {cI cZ : ClassId} {ad : Nat → Nat} (C : pv_C p s m args meth c cX4_rests 5 RX4 D cI cZ ad (pv_A ad)) (hr : meth.sig.returnType = some .int) (R0 : (Int32 × pv_S)) (p0 : Int32) (σ : pv_S) (h : f_X4_rests p0 σ = some R0) : Wx p l e r_X4_rests s m args below meth c 0 0 (MQ below (pv_QI D cI cZ ad R0) args s 0 0 (pv_A ad)) 5 D cI cZ ad (pv_A ad) 0 [(0, .ref (ad 2)), (1, .int p0)] [] σ := by
  unfold f_X4_rests at h
  refine x_iconst (v := 0) C dX4_rests_0 (by decide) ?_
  refine x_istore_n (lv' := [(2, .int 0), (0, .ref (ad 2)), (1, .int p0)]) C dX4_rests_1 rfl (by decide) rfl ?_
  refine x_iconst (v := 0) C dX4_rests_2 (by decide) ?_
  refine x_istore_n (lv' := [(3, .int 0), (2, .int 0), (0, .ref (ad 2)), (1, .int p0)]) C dX4_rests_3 rfl (by decide) rfl ?_
  refine x_sub [2, 3, 1, 0] rfl ?_
  exact w_X4_rests_4 C hr R0 pv_FU p0 0 0 σ h
theorem m_X4_rests (l : Launch) (D : va_G) (cI cZ : ClassId) (ad : Nat → Nat) (hJ : pv_J ad) (p0 : Int32) (σ : pv_S) (R0 : (Int32 × pv_S)) (h : f_X4_rests p0 σ = some R0) : Met l yX4_rests (Cond.code yX4_rests cX4_rests 5 (some .int) :: lwG) r_X4_rests (va_Pc [.ref (ad 2), .int p0] (pv_P D cI cZ ad σ)) (pv_QI D cI cZ ad R0) 0 0 (pv_A ad) := x_met (by decide) rfl hJ (Nat.le_of_ble_eq_true rfl) (fun p e s m args below meth c C hr => w_X4_rests_0 C hr R0 p0 σ h)
abbrev r_X4_costOf : Room := { frames := 5, cells := 0, slots := 0, locals := 113 }
set_option maxRecDepth 100000 in
set_option maxHeartbeats 4000000 in
theorem w_X4_costOf_11 {p : Program} {l : Launch} {e : Env} {s : State} {m : MethodId} {args : Array Value} {below : List Frame} {meth : Method} {c : Code} {D : va_G} {cI cZ : ClassId} {ad : Nat → Nat} (C : pv_C p s m args meth c cX4_costOf 4 RX4 D cI cZ ad (pv_A ad)) (hr : meth.sig.returnType = some .int) (R0 : (Int32 × pv_S)) : ∀ (n : Nat) (v1 : Int32) (v2 : Int32) (v3 : Int32) (σ : pv_S), f_X4_costOf_11 n v1 v2 v3 σ = some R0 → Wx p l e r_X4_costOf s m args below meth c 0 0 (MQ below (pv_QI D cI cZ ad R0) args s 0 0 (pv_A ad)) 4 D cI cZ ad (pv_A ad) 11 [(0, .ref (ad 2)), (1, .int v1), (2, .int v2), (3, .int v3)] [] σ := by
  intro n
  induction n with
  | zero =>
    intro v1 v2 v3 σ h
    have h2 : (none : Option (Int32 × pv_S)) = some R0 := h
    cases h2
  | succ n ih =>
    intro v1 v2 v3 σ h
    unfold f_X4_costOf_11 at h
    refine x_iload_n C dX4_costOf_11 rfl 3 rfl ?_
    refine x_aload_n C dX4_costOf_12 rfl 0 rfl ?_
    refine xg_X4_18 C dX4_costOf_13 ?_
    obtain ⟨q1, eq1, h⟩ := gb_some h
    refine x_vi (st := [.int v3]) C kY_X6_count 1 6 rfl rfl rfl (m_X6_count l D cI cZ ad C.2.2.2.2.2.2.1 σ q1 eq1) kl_X4_28 ⟨rfl, rfl⟩ ⟨Nat.le_of_ble_eq_true rfl, Nat.le_of_ble_eq_true rfl⟩ ⟨Nat.zero_le _, Nat.zero_le _⟩ rfl rfl (Nat.le_of_ble_eq_true rfl) dX4_costOf_16 ?_
    refine x_icmp_ge C 45 dX4_costOf_19 (by decide) (fun c2 => ?_) (fun c2 => ?_)
    · have h := (if_pos c2).symm.trans h
      refine x_iload_n C dX4_costOf_45 rfl 2 rfl ?_
      exact x_iret C hr dX4_costOf_46 (Option.some.inj h)
    · have h := (if_neg c2).symm.trans h
      refine x_aload_n C dX4_costOf_22 rfl 0 rfl ?_
      refine x_iload_n C dX4_costOf_23 rfl 1 rfl ?_
      refine x_iload_n C dX4_costOf_24 rfl 3 rfl ?_
      obtain ⟨q3, eq3, h⟩ := gb_some h
      refine x_vi (st := []) C kY_X4_isIn 2 4 rfl rfl rfl (m_X4_isIn l D cI cZ ad C.2.2.2.2.2.2.1 v1 v3 q1.2 q3 eq3) kl_X4_46 ⟨rfl, rfl⟩ ⟨Nat.le_of_ble_eq_true rfl, Nat.le_of_ble_eq_true rfl⟩ ⟨Nat.zero_le _, Nat.zero_le _⟩ rfl rfl (Nat.le_of_ble_eq_true rfl) dX4_costOf_25 ?_
      refine x_if_eq C 39 dX4_costOf_28 (by decide) (fun c4 => ?_) (fun c4 => ?_)
      · have h := (if_pos c4).symm.trans h
        refine x_iinc (v := (v3 + 1)) (lv' := [(3, .int (v3 + 1)), (0, .ref (ad 2)), (1, .int v1), (2, .int v2)]) C 3 dX4_costOf_39 rfl rfl (by decide) rfl ?_
        refine x_goto C 11 dX4_costOf_42 (by decide) ?_
        refine x_sub [1, 2, 3, 0] rfl ?_
        exact ih v1 v2 (v3 + 1) q3.2 h
      · have h := (if_neg c4).symm.trans h
        refine x_iload_n C dX4_costOf_31 rfl 2 rfl ?_
        refine x_aload_n C dX4_costOf_32 rfl 0 rfl ?_
        refine x_iload_n C dX4_costOf_33 rfl 3 rfl ?_
        obtain ⟨q5, eq5, h⟩ := gb_some h
        refine x_vi (st := [.int v2]) C kY_X4_costBehind 2 4 rfl rfl rfl (m_X4_costBehind l D cI cZ ad C.2.2.2.2.2.2.1 v3 q3.2 q5 eq5) kl_X4_74 ⟨rfl, rfl⟩ ⟨Nat.le_of_ble_eq_true rfl, Nat.le_of_ble_eq_true rfl⟩ ⟨Nat.zero_le _, Nat.zero_le _⟩ rfl rfl (Nat.le_of_ble_eq_true rfl) dX4_costOf_34 ?_
        refine x_iadd C dX4_costOf_37 ?_
        refine x_istore_n (lv' := [(2, .int (v2 + q5.1)), (0, .ref (ad 2)), (1, .int v1), (3, .int v3)]) C dX4_costOf_38 rfl (by decide) rfl ?_
        refine x_iinc (v := (v3 + 1)) (lv' := [(3, .int (v3 + 1)), (2, .int (v2 + q5.1)), (0, .ref (ad 2)), (1, .int v1)]) C 3 dX4_costOf_39 rfl rfl (by decide) rfl ?_
        refine x_goto C 11 dX4_costOf_42 (by decide) ?_
        refine x_sub [2, 3, 1, 0] rfl ?_
        exact ih v1 (v2 + q5.1) (v3 + 1) q5.2 h
set_option maxRecDepth 100000 in
set_option maxHeartbeats 4000000 in
theorem w_X4_costOf_0 {p : Program} {l : Launch} {e : Env} {s : State} {m : MethodId} {args : Array Value} {below : List Frame} {meth : Method} {c : Code} {D : va_G} {cI cZ : ClassId} {ad : Nat → Nat} (C : pv_C p s m args meth c cX4_costOf 4 RX4 D cI cZ ad (pv_A ad)) (hr : meth.sig.returnType = some .int) (R0 : (Int32 × pv_S)) (p0 : Int32) (σ : pv_S) (h : f_X4_costOf p0 σ = some R0) : Wx p l e r_X4_costOf s m args below meth c 0 0 (MQ below (pv_QI D cI cZ ad R0) args s 0 0 (pv_A ad)) 4 D cI cZ ad (pv_A ad) 0 [(0, .ref (ad 2)), (1, .int p0)] [] σ := by
  unfold f_X4_costOf at h
  refine x_aload_n C dX4_costOf_0 rfl 0 rfl ?_
  refine xg_X4_18 C dX4_costOf_1 ?_
  refine x_iconst (v := 3) C dX4_costOf_4 (by decide) ?_
  obtain ⟨q1, eq1, h⟩ := gb_some h
  refine x_vi (st := []) C kY_X6_valueOf 1 6 rfl rfl rfl (m_X6_valueOf l D cI cZ ad C.2.2.2.2.2.2.1 3 σ q1 eq1) kl_X4_71 ⟨rfl, rfl⟩ ⟨Nat.le_of_ble_eq_true rfl, Nat.le_of_ble_eq_true rfl⟩ ⟨Nat.zero_le _, Nat.zero_le _⟩ rfl rfl (Nat.le_of_ble_eq_true rfl) dX4_costOf_5 ?_
  refine x_istore_n (lv' := [(2, .int q1.1), (0, .ref (ad 2)), (1, .int p0)]) C dX4_costOf_8 rfl (by decide) rfl ?_
  refine x_iconst (v := 0) C dX4_costOf_9 (by decide) ?_
  refine x_istore_n (lv' := [(3, .int 0), (2, .int q1.1), (0, .ref (ad 2)), (1, .int p0)]) C dX4_costOf_10 rfl (by decide) rfl ?_
  refine x_sub [2, 3, 1, 0] rfl ?_
  exact w_X4_costOf_11 C hr R0 pv_FU p0 q1.1 0 q1.2 h
theorem m_X4_costOf (l : Launch) (D : va_G) (cI cZ : ClassId) (ad : Nat → Nat) (hJ : pv_J ad) (p0 : Int32) (σ : pv_S) (R0 : (Int32 × pv_S)) (h : f_X4_costOf p0 σ = some R0) : Met l yX4_costOf (Cond.code yX4_costOf cX4_costOf 4 (some .int) :: lwG) r_X4_costOf (va_Pc [.ref (ad 2), .int p0] (pv_P D cI cZ ad σ)) (pv_QI D cI cZ ad R0) 0 0 (pv_A ad) := x_met (by decide) rfl hJ (Nat.le_of_ble_eq_true rfl) (fun p e s m args below meth c C hr => w_X4_costOf_0 C hr R0 p0 σ h)
abbrev r_X7_voice : Room := { frames := 6, cells := 0, slots := 0, locals := 136 }
set_option maxRecDepth 100000 in
set_option maxHeartbeats 4000000 in
theorem w_X7_voice_0 {p : Program} {l : Launch} {e : Env} {s : State} {m : MethodId} {args : Array Value} {below : List Frame} {meth : Method} {c : Code} {D : va_G} {cI cZ : ClassId} {ad : Nat → Nat} (C : pv_C p s m args meth c cX7_voice 4 RX7 D cI cZ ad (pv_A ad)) (hr : meth.sig.returnType = some .int) (R0 : (Int32 × pv_S)) (p0 : Int32) (p1 : Int32) (σ : pv_S) (h : f_X7_voice p0 p1 σ = some R0) : Wx p l e r_X7_voice s m args below meth c 0 0 (MQ below (pv_QI D cI cZ ad R0) args s 0 0 (pv_A ad)) 4 D cI cZ ad (pv_A ad) 0 [(0, .ref (ad 0)), (1, .int p0), (2, .int p1)] [] σ := by
  unfold f_X7_voice at h
  refine x_aload_n C dX7_voice_0 rfl 0 rfl ?_
  obtain ⟨q1, eq1, h⟩ := gb_some h
  refine x_vr (st := []) C kY_X7_standing 0 7 rfl rfl rfl (m_X7_standing l D cI cZ ad C.2.2.2.2.2.2.1 σ q1 eq1) kl_X7_64 ⟨rfl, rfl⟩ ⟨Nat.le_of_ble_eq_true rfl, Nat.le_of_ble_eq_true rfl⟩ ⟨Nat.zero_le _, Nat.zero_le _⟩ rfl rfl (Nat.le_of_ble_eq_true rfl) dX7_voice_1 ?_
  refine x_astore_n (lv' := [(3, .ref (ad 2)), (0, .ref (ad 0)), (1, .int p0), (2, .int p1)]) C dX7_voice_4 rfl (by decide) rfl ?_
  refine x_aload_n C dX7_voice_5 rfl 0 rfl ?_
  refine x_iload_n C dX7_voice_6 rfl 2 rfl ?_
  obtain ⟨q2, eq2, h⟩ := gb_some h
  refine x_vi (st := []) C kY_X4_hasVoice 2 4 rfl rfl rfl (m_X4_hasVoice l D cI cZ ad C.2.2.2.2.2.2.1 p0 q1 q2 eq2) kl_X7_154 ⟨rfl, rfl⟩ ⟨Nat.le_of_ble_eq_true rfl, Nat.le_of_ble_eq_true rfl⟩ ⟨Nat.zero_le _, Nat.zero_le _⟩ rfl rfl (Nat.le_of_ble_eq_true rfl) dX7_voice_7 ?_
  refine x_if_ne C 16 dX7_voice_10 (by decide) (fun c3 => ?_) (fun c3 => ?_)
  · have h := (if_neg c3).symm.trans h
    refine x_iload_n C dX7_voice_16 rfl 3 rfl ?_
    by_cases c4 : p1 = 0
    · have h := (if_pos c4).symm.trans h
      refine x_tableIn (off := 43) C 60 dX7_voice_17 (by rw [c4]; decide) (by rw [c4]; decide) (by rw [c4]; rfl) (by decide) ?_
      refine x_aload_n C dX7_voice_60 rfl 0 rfl ?_
      refine x_iload_n C dX7_voice_61 rfl 2 rfl ?_
      obtain ⟨q5, eq5, h⟩ := gb_some h
      refine x_vi (st := []) C kY_X4_size 2 4 rfl rfl rfl (m_X4_size l D cI cZ ad C.2.2.2.2.2.2.1 p0 q2.2 q5 eq5) kl_X7_157 ⟨rfl, rfl⟩ ⟨Nat.le_of_ble_eq_true rfl, Nat.le_of_ble_eq_true rfl⟩ ⟨Nat.zero_le _, Nat.zero_le _⟩ rfl rfl (Nat.le_of_ble_eq_true rfl) dX7_voice_62 ?_
      exact x_iret C hr dX7_voice_65 (Option.some.inj h)
    have h := (if_neg c4).symm.trans h
    by_cases c6 : p1 = 1
    · have h := (if_pos c6).symm.trans h
      refine x_tableIn (off := 49) C 66 dX7_voice_17 (by rw [c6]; decide) (by rw [c6]; decide) (by rw [c6]; rfl) (by decide) ?_
      refine x_aload_n C dX7_voice_66 rfl 0 rfl ?_
      refine x_iload_n C dX7_voice_67 rfl 2 rfl ?_
      refine x_iconst (v := 0) C dX7_voice_68 (by decide) ?_
      obtain ⟨q7, eq7, h⟩ := gb_some h
      refine x_vi (st := []) C kY_X4_noteOf 2 4 rfl rfl rfl (m_X4_noteOf l D cI cZ ad C.2.2.2.2.2.2.1 p0 0 q2.2 q7 eq7) kl_X7_159 ⟨rfl, rfl⟩ ⟨Nat.le_of_ble_eq_true rfl, Nat.le_of_ble_eq_true rfl⟩ ⟨Nat.zero_le _, Nat.zero_le _⟩ rfl rfl (Nat.le_of_ble_eq_true rfl) dX7_voice_69 ?_
      exact x_iret C hr dX7_voice_72 (Option.some.inj h)
    have h := (if_neg c6).symm.trans h
    by_cases c8 : p1 = 2
    · have h := (if_pos c8).symm.trans h
      refine x_tableIn (off := 56) C 73 dX7_voice_17 (by rw [c8]; decide) (by rw [c8]; decide) (by rw [c8]; rfl) (by decide) ?_
      refine x_aload_n C dX7_voice_73 rfl 0 rfl ?_
      refine x_iload_n C dX7_voice_74 rfl 2 rfl ?_
      refine x_aload_n C dX7_voice_75 rfl 0 rfl ?_
      refine x_iload_n C dX7_voice_76 rfl 2 rfl ?_
      obtain ⟨q9, eq9, h⟩ := gb_some h
      refine x_vi (st := [.int p0, .ref (ad 2)]) C kY_X4_size 2 4 rfl rfl rfl (m_X4_size l D cI cZ ad C.2.2.2.2.2.2.1 p0 q2.2 q9 eq9) kl_X7_157 ⟨rfl, rfl⟩ ⟨Nat.le_of_ble_eq_true rfl, Nat.le_of_ble_eq_true rfl⟩ ⟨Nat.zero_le _, Nat.zero_le _⟩ rfl rfl (Nat.le_of_ble_eq_true rfl) dX7_voice_77 ?_
      refine x_iconst (v := 1) C dX7_voice_80 (by decide) ?_
      refine x_isub C dX7_voice_81 ?_
      obtain ⟨q10, eq10, h⟩ := gb_some h
      refine x_vi (st := []) C kY_X4_noteOf 2 4 rfl rfl rfl (m_X4_noteOf l D cI cZ ad C.2.2.2.2.2.2.1 p0 (q9.1 - 1) q9.2 q10 eq10) kl_X7_159 ⟨rfl, rfl⟩ ⟨Nat.le_of_ble_eq_true rfl, Nat.le_of_ble_eq_true rfl⟩ ⟨Nat.zero_le _, Nat.zero_le _⟩ rfl rfl (Nat.le_of_ble_eq_true rfl) dX7_voice_82 ?_
      exact x_iret C hr dX7_voice_85 (Option.some.inj h)
    have h := (if_neg c8).symm.trans h
    by_cases c11 : p1 = 3
    · have h := (if_pos c11).symm.trans h
      refine x_tableIn (off := 69) C 86 dX7_voice_17 (by rw [c11]; decide) (by rw [c11]; decide) (by rw [c11]; rfl) (by decide) ?_
      refine x_aload_n C dX7_voice_86 rfl 0 rfl ?_
      refine x_iload_n C dX7_voice_87 rfl 2 rfl ?_
      obtain ⟨q12, eq12, h⟩ := gb_some h
      refine x_vi (st := []) C kY_X4_lowest 2 4 rfl rfl rfl (m_X4_lowest l D cI cZ ad C.2.2.2.2.2.2.1 p0 q2.2 q12 eq12) kl_X7_162 ⟨rfl, rfl⟩ ⟨Nat.le_of_ble_eq_true rfl, Nat.le_of_ble_eq_true rfl⟩ ⟨Nat.zero_le _, Nat.zero_le _⟩ rfl rfl (Nat.le_of_ble_eq_true rfl) dX7_voice_88 ?_
      exact x_iret C hr dX7_voice_91 (Option.some.inj h)
    have h := (if_neg c11).symm.trans h
    by_cases c13 : p1 = 4
    · have h := (if_pos c13).symm.trans h
      refine x_tableIn (off := 75) C 92 dX7_voice_17 (by rw [c13]; decide) (by rw [c13]; decide) (by rw [c13]; rfl) (by decide) ?_
      refine x_aload_n C dX7_voice_92 rfl 0 rfl ?_
      refine x_iload_n C dX7_voice_93 rfl 2 rfl ?_
      obtain ⟨q14, eq14, h⟩ := gb_some h
      refine x_vi (st := []) C kY_X4_highest 2 4 rfl rfl rfl (m_X4_highest l D cI cZ ad C.2.2.2.2.2.2.1 p0 q2.2 q14 eq14) kl_X7_165 ⟨rfl, rfl⟩ ⟨Nat.le_of_ble_eq_true rfl, Nat.le_of_ble_eq_true rfl⟩ ⟨Nat.zero_le _, Nat.zero_le _⟩ rfl rfl (Nat.le_of_ble_eq_true rfl) dX7_voice_94 ?_
      exact x_iret C hr dX7_voice_97 (Option.some.inj h)
    have h := (if_neg c13).symm.trans h
    by_cases c15 : p1 = 5
    · have h := (if_pos c15).symm.trans h
      refine x_tableIn (off := 81) C 98 dX7_voice_17 (by rw [c15]; decide) (by rw [c15]; decide) (by rw [c15]; rfl) (by decide) ?_
      refine x_aload_n C dX7_voice_98 rfl 0 rfl ?_
      refine x_iload_n C dX7_voice_99 rfl 2 rfl ?_
      obtain ⟨q16, eq16, h⟩ := gb_some h
      refine x_vi (st := []) C kY_X4_rests 2 4 rfl rfl rfl (m_X4_rests l D cI cZ ad C.2.2.2.2.2.2.1 p0 q2.2 q16 eq16) kl_X7_168 ⟨rfl, rfl⟩ ⟨Nat.le_of_ble_eq_true rfl, Nat.le_of_ble_eq_true rfl⟩ ⟨Nat.zero_le _, Nat.zero_le _⟩ rfl rfl (Nat.le_of_ble_eq_true rfl) dX7_voice_100 ?_
      exact x_iret C hr dX7_voice_103 (Option.some.inj h)
    have h := (if_neg c15).symm.trans h
    by_cases c17 : p1 = 6
    · have h := (if_pos c17).symm.trans h
      refine x_tableIn (off := 87) C 104 dX7_voice_17 (by rw [c17]; decide) (by rw [c17]; decide) (by rw [c17]; rfl) (by decide) ?_
      refine x_aload_n C dX7_voice_104 rfl 0 rfl ?_
      refine x_iload_n C dX7_voice_105 rfl 2 rfl ?_
      obtain ⟨q18, eq18, h⟩ := gb_some h
      refine x_vi (st := []) C kY_X4_costOf 2 4 rfl rfl rfl (m_X4_costOf l D cI cZ ad C.2.2.2.2.2.2.1 p0 q2.2 q18 eq18) kl_X7_171 ⟨rfl, rfl⟩ ⟨Nat.le_of_ble_eq_true rfl, Nat.le_of_ble_eq_true rfl⟩ ⟨Nat.zero_le _, Nat.zero_le _⟩ rfl rfl (Nat.le_of_ble_eq_true rfl) dX7_voice_106 ?_
      exact x_iret C hr dX7_voice_109 (Option.some.inj h)
    have h := (if_neg c17).symm.trans h
    have hn19 : (p1).toInt < 0 ∨ 6 < (p1).toInt := by
      have := lv_neT (a := 0) c4 (by decide)
      have := lv_neT (a := 1) c6 (by decide)
      have := lv_neT (a := 2) c8 (by decide)
      have := lv_neT (a := 3) c11 (by decide)
      have := lv_neT (a := 4) c13 (by decide)
      have := lv_neT (a := 5) c15 (by decide)
      have := lv_neT (a := 6) c17 (by decide)
      omega
    refine x_tableOut C 110 dX7_voice_17 hn19 (by decide) ?_
    refine x_ldc C kc_X7_107 dX7_voice_110 ?_
    exact x_iret C hr dX7_voice_112 (Option.some.inj h)
  · have h := (if_pos c3).symm.trans h
    refine x_ldc C kc_X7_112 dX7_voice_13 ?_
    exact x_iret C hr dX7_voice_15 (Option.some.inj h)
theorem m_X7_voice (l : Launch) (D : va_G) (cI cZ : ClassId) (ad : Nat → Nat) (hJ : pv_J ad) (p0 : Int32) (p1 : Int32) (σ : pv_S) (R0 : (Int32 × pv_S)) (h : f_X7_voice p0 p1 σ = some R0) : Met l yX7_voice (Cond.code yX7_voice cX7_voice 4 (some .int) :: lwG) r_X7_voice (va_Pc [.ref (ad 0), .int p0, .int p1] (pv_P D cI cZ ad σ)) (pv_QI D cI cZ ad R0) 0 0 (pv_A ad) := x_met (by decide) rfl hJ (Nat.le_of_ble_eq_true rfl) (fun p e s m args below meth c C hr => w_X7_voice_0 C hr R0 p0 p1 σ h)
abbrev r_X7_member : Room := { frames := 4, cells := 0, slots := 0, locals := 85 }
set_option maxRecDepth 100000 in
set_option maxHeartbeats 4000000 in
theorem w_X7_member_0 {p : Program} {l : Launch} {e : Env} {s : State} {m : MethodId} {args : Array Value} {below : List Frame} {meth : Method} {c : Code} {D : va_G} {cI cZ : ClassId} {ad : Nat → Nat} (C : pv_C p s m args meth c cX7_member 4 RX7 D cI cZ ad (pv_A ad)) (hr : meth.sig.returnType = some .int) (R0 : (Int32 × pv_S)) (p0 : Int32) (p1 : Int32) (σ : pv_S) (h : f_X7_member p0 p1 σ = some R0) : Wx p l e r_X7_member s m args below meth c 0 0 (MQ below (pv_QI D cI cZ ad R0) args s 0 0 (pv_A ad)) 4 D cI cZ ad (pv_A ad) 0 [(0, .ref (ad 0)), (1, .int p0), (2, .int p1)] [] σ := by
  unfold f_X7_member at h
  refine x_aload_n C dX7_member_0 rfl 0 rfl ?_
  obtain ⟨q1, eq1, h⟩ := gb_some h
  refine x_vr (st := []) C kY_X7_standing 0 7 rfl rfl rfl (m_X7_standing l D cI cZ ad C.2.2.2.2.2.2.1 σ q1 eq1) kl_X7_64 ⟨rfl, rfl⟩ ⟨Nat.le_of_ble_eq_true rfl, Nat.le_of_ble_eq_true rfl⟩ ⟨Nat.zero_le _, Nat.zero_le _⟩ rfl rfl (Nat.le_of_ble_eq_true rfl) dX7_member_1 ?_
  refine x_astore_n (lv' := [(3, .ref (ad 2)), (0, .ref (ad 0)), (1, .int p0), (2, .int p1)]) C dX7_member_4 rfl (by decide) rfl ?_
  refine x_aload_n C dX7_member_5 rfl 0 rfl ?_
  refine x_iload_n C dX7_member_6 rfl 2 rfl ?_
  obtain ⟨q2, eq2, h⟩ := gb_some h
  refine x_vi (st := []) C kY_X4_hasVoice 2 4 rfl rfl rfl (m_X4_hasVoice l D cI cZ ad C.2.2.2.2.2.2.1 p0 q1 q2 eq2) kl_X7_154 ⟨rfl, rfl⟩ ⟨Nat.le_of_ble_eq_true rfl, Nat.le_of_ble_eq_true rfl⟩ ⟨Nat.zero_le _, Nat.zero_le _⟩ rfl rfl (Nat.le_of_ble_eq_true rfl) dX7_member_7 ?_
  refine x_if_ne C 16 dX7_member_10 (by decide) (fun c3 => ?_) (fun c3 => ?_)
  · have h := (if_neg c3).symm.trans h
    refine x_iload_n C dX7_member_16 rfl 3 rfl ?_
    refine x_if_ge C 23 dX7_member_17 (by decide) (fun c4 => ?_) (fun c4 => ?_)
    · have h := (if_pos c4).symm.trans h
      refine x_aload_n C dX7_member_23 rfl 0 rfl ?_
      refine x_iload_n C dX7_member_24 rfl 2 rfl ?_
      refine x_iload_n C dX7_member_25 rfl 3 rfl ?_
      obtain ⟨q5, eq5, h⟩ := gb_some h
      refine x_vi (st := []) C kY_X4_noteOf 2 4 rfl rfl rfl (m_X4_noteOf l D cI cZ ad C.2.2.2.2.2.2.1 p0 p1 q2.2 q5 eq5) kl_X7_159 ⟨rfl, rfl⟩ ⟨Nat.le_of_ble_eq_true rfl, Nat.le_of_ble_eq_true rfl⟩ ⟨Nat.zero_le _, Nat.zero_le _⟩ rfl rfl (Nat.le_of_ble_eq_true rfl) dX7_member_26 ?_
      exact x_iret C hr dX7_member_29 (Option.some.inj h)
    · have h := (if_neg c4).symm.trans h
      refine x_ldc C kc_X7_107 dX7_member_20 ?_
      exact x_iret C hr dX7_member_22 (Option.some.inj h)
  · have h := (if_pos c3).symm.trans h
    refine x_ldc C kc_X7_112 dX7_member_13 ?_
    exact x_iret C hr dX7_member_15 (Option.some.inj h)
theorem m_X7_member (l : Launch) (D : va_G) (cI cZ : ClassId) (ad : Nat → Nat) (hJ : pv_J ad) (p0 : Int32) (p1 : Int32) (σ : pv_S) (R0 : (Int32 × pv_S)) (h : f_X7_member p0 p1 σ = some R0) : Met l yX7_member (Cond.code yX7_member cX7_member 4 (some .int) :: lwG) r_X7_member (va_Pc [.ref (ad 0), .int p0, .int p1] (pv_P D cI cZ ad σ)) (pv_QI D cI cZ ad R0) 0 0 (pv_A ad) := x_met (by decide) rfl hJ (Nat.le_of_ble_eq_true rfl) (fun p e s m args below meth c C hr => w_X7_member_0 C hr R0 p0 p1 σ h)
abbrev r_X6_canBe : Room := { frames := 0, cells := 0, slots := 0, locals := 0 }
set_option maxRecDepth 100000 in
set_option maxHeartbeats 4000000 in
theorem w_X6_canBe_0 {p : Program} {l : Launch} {e : Env} {s : State} {m : MethodId} {args : Array Value} {below : List Frame} {meth : Method} {c : Code} {D : va_G} {cI cZ : ClassId} {ad : Nat → Nat} (C : pv_C p s m args meth c cX6_canBe 3 RX6 D cI cZ ad (pv_A ad)) (hr : meth.sig.returnType = some .boolean) (R0 : (Int32 × pv_S)) (p0 : Int32) (p1 : Int32) (p2 : Int32) (σ : pv_S) (h : f_X6_canBe p0 p1 p2 σ = some R0) : Wx p l e r_X6_canBe s m args below meth c 0 0 (MQ below (pv_QI D cI cZ ad R0) args s 0 0 (pv_A ad)) 3 D cI cZ ad (pv_A ad) 0 [(0, .int p0), (1, .int p1), (2, .int p2)] [] σ := by
  unfold f_X6_canBe at h
  refine x_iload_n C dX6_canBe_0 rfl 0 rfl ?_
  refine x_if_lt C 35 dX6_canBe_1 (by decide) (fun c1 => ?_) (fun c1 => ?_)
  · have h := (if_pos c1).symm.trans h
    refine x_iconst (v := 0) C dX6_canBe_35 (by decide) ?_
    exact x_zret C hr rfl dX6_canBe_36 (Option.some.inj h)
  · have h := (if_neg c1).symm.trans h
    refine x_iload_n C dX6_canBe_4 rfl 0 rfl ?_
    refine x_bipush (v := 99) C dX6_canBe_5 (by decide) ?_
    refine x_icmp_gt C 35 dX6_canBe_7 (by decide) (fun c2 => ?_) (fun c2 => ?_)
    · have h := (if_pos c2).symm.trans h
      refine x_iconst (v := 0) C dX6_canBe_35 (by decide) ?_
      exact x_zret C hr rfl dX6_canBe_36 (Option.some.inj h)
    · have h := (if_neg c2).symm.trans h
      refine x_iload_n C dX6_canBe_10 rfl 1 rfl ?_
      refine x_iconst (v := 1) C dX6_canBe_11 (by decide) ?_
      refine x_icmp_lt C 35 dX6_canBe_12 (by decide) (fun c3 => ?_) (fun c3 => ?_)
      · have h := (if_pos c3).symm.trans h
        refine x_iconst (v := 0) C dX6_canBe_35 (by decide) ?_
        exact x_zret C hr rfl dX6_canBe_36 (Option.some.inj h)
      · have h := (if_neg c3).symm.trans h
        refine x_iload_n C dX6_canBe_15 rfl 1 rfl ?_
        refine x_bipush (v := 32) C dX6_canBe_16 (by decide) ?_
        refine x_icmp_gt C 35 dX6_canBe_18 (by decide) (fun c4 => ?_) (fun c4 => ?_)
        · have h := (if_pos c4).symm.trans h
          refine x_iconst (v := 0) C dX6_canBe_35 (by decide) ?_
          exact x_zret C hr rfl dX6_canBe_36 (Option.some.inj h)
        · have h := (if_neg c4).symm.trans h
          refine x_iload_n C dX6_canBe_21 rfl 2 rfl ?_
          refine x_if_lt C 35 dX6_canBe_22 (by decide) (fun c5 => ?_) (fun c5 => ?_)
          · have h := (if_pos c5).symm.trans h
            refine x_iconst (v := 0) C dX6_canBe_35 (by decide) ?_
            exact x_zret C hr rfl dX6_canBe_36 (Option.some.inj h)
          · have h := (if_neg c5).symm.trans h
            refine x_iload_n C dX6_canBe_25 rfl 2 rfl ?_
            refine x_bipush (v := 127) C dX6_canBe_26 (by decide) ?_
            refine x_icmp_gt C 35 dX6_canBe_28 (by decide) (fun c6 => ?_) (fun c6 => ?_)
            · have h := (if_pos c6).symm.trans h
              refine x_iconst (v := 0) C dX6_canBe_35 (by decide) ?_
              exact x_zret C hr rfl dX6_canBe_36 (Option.some.inj h)
            · have h := (if_neg c6).symm.trans h
              refine x_iconst (v := 1) C dX6_canBe_31 (by decide) ?_
              refine x_goto C 36 dX6_canBe_32 (by decide) ?_
              exact x_zret C hr rfl dX6_canBe_36 (Option.some.inj h)
theorem m_X6_canBe (l : Launch) (D : va_G) (cI cZ : ClassId) (ad : Nat → Nat) (hJ : pv_J ad) (p0 : Int32) (p1 : Int32) (p2 : Int32) (σ : pv_S) (R0 : (Int32 × pv_S)) (h : f_X6_canBe p0 p1 p2 σ = some R0) : Met l yX6_canBe (Cond.code yX6_canBe cX6_canBe 3 (some .boolean) :: lwG) r_X6_canBe (va_Pc [.int p0, .int p1, .int p2] (pv_P D cI cZ ad σ)) (pv_QI D cI cZ ad R0) 0 0 (pv_A ad) := x_met (by decide) rfl hJ (Nat.le_of_ble_eq_true rfl) (fun p e s m args below meth c C hr => w_X6_canBe_0 C hr R0 p0 p1 p2 σ h)
abbrev r_X6_isFull : Room := { frames := 0, cells := 0, slots := 0, locals := 0 }
set_option maxRecDepth 100000 in
set_option maxHeartbeats 4000000 in
theorem w_X6_isFull_0 {p : Program} {l : Launch} {e : Env} {s : State} {m : MethodId} {args : Array Value} {below : List Frame} {meth : Method} {c : Code} {D : va_G} {cI cZ : ClassId} {ad : Nat → Nat} (C : pv_C p s m args meth c cX6_isFull 1 RX6 D cI cZ ad (pv_A ad)) (hr : meth.sig.returnType = some .boolean) (R0 : (Int32 × pv_S)) (σ : pv_S) (h : f_X6_isFull σ = some R0) : Wx p l e r_X6_isFull s m args below meth c 0 0 (MQ below (pv_QI D cI cZ ad R0) args s 0 0 (pv_A ad)) 1 D cI cZ ad (pv_A ad) 0 [(0, .ref (ad 1))] [] σ := by
  unfold f_X6_isFull at h
  refine x_aload_n C dX6_isFull_0 rfl 0 rfl ?_
  refine xg_X6_11 C dX6_isFull_1 ?_
  refine x_iconst (v := 0) C dX6_isFull_4 (by decide) ?_
  obtain ⟨g1, h⟩ := gd_some h
  refine xl_0 C g1 dX6_isFull_5 ?_
  refine x_bipush (v := 10) C dX6_isFull_6 (by decide) ?_
  refine x_icmp_lt C 15 dX6_isFull_8 (by decide) (fun c2 => ?_) (fun c2 => ?_)
  · have h := (if_pos c2).symm.trans h
    refine x_iconst (v := 0) C dX6_isFull_15 (by decide) ?_
    exact x_zret C hr rfl dX6_isFull_16 (Option.some.inj h)
  · have h := (if_neg c2).symm.trans h
    refine x_iconst (v := 1) C dX6_isFull_11 (by decide) ?_
    refine x_goto C 16 dX6_isFull_12 (by decide) ?_
    exact x_zret C hr rfl dX6_isFull_16 (Option.some.inj h)
theorem m_X6_isFull (l : Launch) (D : va_G) (cI cZ : ClassId) (ad : Nat → Nat) (hJ : pv_J ad)  (σ : pv_S) (R0 : (Int32 × pv_S)) (h : f_X6_isFull σ = some R0) : Met l yX6_isFull (Cond.code yX6_isFull cX6_isFull 1 (some .boolean) :: lwG) r_X6_isFull (va_Pc [.ref (ad 1)] (pv_P D cI cZ ad σ)) (pv_QI D cI cZ ad R0) 0 0 (pv_A ad) := x_met (by decide) rfl hJ (Nat.le_of_ble_eq_true rfl) (fun p e s m args below meth c C hr => w_X6_isFull_0 C hr R0 σ h)
abbrev r_X6_fitsOn_16 : Room := { frames := 0, cells := 0, slots := 0, locals := 0 }
set_option maxRecDepth 100000 in
set_option maxHeartbeats 4000000 in
theorem w_X6_fitsOn_16_0 {p : Program} {l : Launch} {e : Env} {s : State} {m : MethodId} {args : Array Value} {below : List Frame} {meth : Method} {c : Code} {D : va_G} {cI cZ : ClassId} {ad : Nat → Nat} (C : pv_C p s m args meth c cX6_fitsOn 2 RX6 D cI cZ ad (pv_A ad)) (hr : meth.sig.returnType = some .boolean) (R0 : (Int32 × pv_S)) (p1 : Int32) (σ : pv_S) (h : f_X6_fitsOn_16 p1 σ = some R0) : Wx p l e r_X6_fitsOn_16 s m args below meth c 0 0 (MQ below (pv_QI D cI cZ ad R0) args s 0 0 (pv_A ad)) 2 D cI cZ ad (pv_A ad) 0 [(0, .ref (ad 16)), (1, .int p1)] [] σ := by
  unfold f_X6_fitsOn_16 at h
  refine x_aload_n C dX6_fitsOn_0 rfl 0 rfl ?_
  refine x_ifnull C dX6_fitsOn_1 ?_
  refine x_iload_n C dX6_fitsOn_4 rfl 1 rfl ?_
  refine x_if_lt C 21 dX6_fitsOn_5 (by decide) (fun c1 => ?_) (fun c1 => ?_)
  · have h := (if_pos c1).symm.trans h
    refine x_iconst (v := 0) C dX6_fitsOn_21 (by decide) ?_
    exact x_zret C hr rfl dX6_fitsOn_22 (Option.some.inj h)
  · have h := (if_neg c1).symm.trans h
    refine x_iload_n C dX6_fitsOn_8 rfl 1 rfl ?_
    refine x_aload_n C dX6_fitsOn_9 rfl 0 rfl ?_
    refine xn_7 C dX6_fitsOn_10 ?_
    refine x_bipush (v := 46) C dX6_fitsOn_11 (by decide) ?_
    refine x_idiv C dX6_fitsOn_13 (by decide) ?_
    refine x_icmp_ge C 21 dX6_fitsOn_14 (by decide) (fun c2 => ?_) (fun c2 => ?_)
    · have h := (if_pos c2).symm.trans h
      refine x_iconst (v := 0) C dX6_fitsOn_21 (by decide) ?_
      exact x_zret C hr rfl dX6_fitsOn_22 (Option.some.inj h)
    · have h := (if_neg c2).symm.trans h
      refine x_iconst (v := 1) C dX6_fitsOn_17 (by decide) ?_
      refine x_goto C 22 dX6_fitsOn_18 (by decide) ?_
      exact x_zret C hr rfl dX6_fitsOn_22 (Option.some.inj h)
theorem m_X6_fitsOn_16 (l : Launch) (D : va_G) (cI cZ : ClassId) (ad : Nat → Nat) (hJ : pv_J ad) (p1 : Int32) (σ : pv_S) (R0 : (Int32 × pv_S)) (h : f_X6_fitsOn_16 p1 σ = some R0) : Met l yX6_fitsOn (Cond.code yX6_fitsOn cX6_fitsOn 2 (some .boolean) :: lwG) r_X6_fitsOn_16 (va_Pc [.ref (ad 16), .int p1] (pv_P D cI cZ ad σ)) (pv_QI D cI cZ ad R0) 0 0 (pv_A ad) := x_met (by decide) rfl hJ (Nat.le_of_ble_eq_true rfl) (fun p e s m args below meth c C hr => w_X6_fitsOn_16_0 C hr R0 p1 σ h)
abbrev r_X6_copyTo_16 : Room := { frames := 1, cells := 0, slots := 0, locals := 26 }
set_option maxRecDepth 100000 in
set_option maxHeartbeats 4000000 in
theorem w_X6_copyTo_16_0 {p : Program} {l : Launch} {e : Env} {s : State} {m : MethodId} {args : Array Value} {below : List Frame} {meth : Method} {c : Code} {D : va_G} {cI cZ : ClassId} {ad : Nat → Nat} (C : pv_C p s m args meth c cX6_copyTo 3 RX6 D cI cZ ad (pv_A ad)) (hr : meth.sig.returnType = none) (R0 : pv_S) (p1 : Int32) (σ : pv_S) (h : f_X6_copyTo_16 p1 σ = some R0) : Wx p l e r_X6_copyTo_16 s m args below meth c 0 0 (MQ below (pv_QV D cI cZ ad R0) args s 0 0 (pv_A ad)) 3 D cI cZ ad (pv_A ad) 0 [(0, .ref (ad 1)), (1, .ref (ad 16)), (2, .int p1)] [] σ := by
  unfold f_X6_copyTo_16 at h
  refine x_aload_n C dX6_copyTo_0 rfl 1 rfl ?_
  refine x_iload_n C dX6_copyTo_1 rfl 2 rfl ?_
  obtain ⟨q1, eq1, h⟩ := gb_some h
  refine x_si (st := []) C kY_X6_fitsOn (m_X6_fitsOn_16 l D cI cZ ad C.2.2.2.2.2.2.1 p1 σ q1 eq1) kl_X6_83 ⟨rfl, rfl⟩ ⟨Nat.le_of_ble_eq_true rfl, Nat.le_of_ble_eq_true rfl⟩ ⟨Nat.zero_le _, Nat.zero_le _⟩ rfl rfl (Nat.le_of_ble_eq_true rfl) dX6_copyTo_2 ?_
  refine x_if_eq C 23 dX6_copyTo_5 (by decide) (fun c2 => ?_) (fun c2 => ?_)
  · have h := (if_pos c2).symm.trans h
    exact x_vret C hr dX6_copyTo_23 (Option.some.inj h)
  · have h := (if_neg c2).symm.trans h
    refine x_aload_n C dX6_copyTo_8 rfl 0 rfl ?_
    refine xg_X6_11 C dX6_copyTo_9 ?_
    refine x_iconst (v := 0) C dX6_copyTo_12 (by decide) ?_
    refine x_aload_n C dX6_copyTo_13 rfl 1 rfl ?_
    refine x_iload_n C dX6_copyTo_14 rfl 2 rfl ?_
    refine x_bipush (v := 46) C dX6_copyTo_15 (by decide) ?_
    refine x_imul C dX6_copyTo_17 ?_
    refine x_bipush (v := 46) C dX6_copyTo_18 (by decide) ?_
    obtain ⟨g3, h⟩ := gc_some h
    refine x_copy (σ' := (pv_cp q1.2 0 7 0 (p1 * 46) 46)) C 9 16 rfl rfl kl_X6_18 kA_nat kA_stat kA_init g3 ⟨Nat.le_of_ble_eq_true rfl, Nat.le_of_ble_eq_true rfl⟩ rfl dX6_copyTo_20 ?_
    exact x_vret C hr dX6_copyTo_23 (Option.some.inj h)
theorem m_X6_copyTo_16 (l : Launch) (D : va_G) (cI cZ : ClassId) (ad : Nat → Nat) (hJ : pv_J ad) (p1 : Int32) (σ : pv_S) (R0 : pv_S) (h : f_X6_copyTo_16 p1 σ = some R0) : Met l yX6_copyTo (Cond.code yX6_copyTo cX6_copyTo 3 (none) :: lwG) r_X6_copyTo_16 (va_Pc [.ref (ad 1), .ref (ad 16), .int p1] (pv_P D cI cZ ad σ)) (pv_QV D cI cZ ad R0) 0 0 (pv_A ad) := x_met (by decide) rfl hJ (Nat.le_of_ble_eq_true rfl) (fun p e s m args below meth c C hr => w_X6_copyTo_16_0 C hr R0 p1 σ h)
abbrev r_X2_record : Room := { frames := 2, cells := 0, slots := 0, locals := 48 }
set_option maxRecDepth 100000 in
set_option maxHeartbeats 4000000 in
theorem w_X2_record_0 {p : Program} {l : Launch} {e : Env} {s : State} {m : MethodId} {args : Array Value} {below : List Frame} {meth : Method} {c : Code} {D : va_G} {cI cZ : ClassId} {ad : Nat → Nat} (C : pv_C p s m args meth c cX2_record 2 RX2 D cI cZ ad (pv_A ad)) (hr : meth.sig.returnType = none) (R0 : pv_S) (σ : pv_S) (h : f_X2_record σ = some R0) : Wx p l e r_X2_record s m args below meth c 0 0 (MQ below (pv_QV D cI cZ ad R0) args s 0 0 (pv_A ad)) 2 D cI cZ ad (pv_A ad) 0 [(0, .ref (ad 4)), (1, .ref (ad 1))] [] σ := by
  unfold f_X2_record at h
  refine x_aload_n C dX2_record_0 rfl 1 rfl ?_
  refine x_aload_n C dX2_record_1 rfl 0 rfl ?_
  refine xg_X2_11 C dX2_record_2 ?_
  refine x_aload_n C dX2_record_5 rfl 0 rfl ?_
  refine xg_X2_19 C dX2_record_6 ?_
  obtain ⟨q1, eq1, h⟩ := gb_some h
  refine x_vv (st := []) C kY_X6_copyTo 1 6 rfl rfl rfl (m_X6_copyTo_16 l D cI cZ ad C.2.2.2.2.2.2.1 (σ.1 6) σ q1 eq1) kl_X2_22 ⟨rfl, rfl⟩ ⟨Nat.le_of_ble_eq_true rfl, Nat.le_of_ble_eq_true rfl⟩ ⟨Nat.zero_le _, Nat.zero_le _⟩ rfl rfl (Nat.le_of_ble_eq_true rfl) dX2_record_9 ?_
  refine x_aload_n C dX2_record_12 rfl 0 rfl ?_
  refine x_aload_n C dX2_record_13 rfl 0 rfl ?_
  refine xg_X2_19 C dX2_record_14 ?_
  refine x_iconst (v := 1) C dX2_record_17 (by decide) ?_
  refine x_iadd C dX2_record_18 ?_
  refine x_bipush (v := 16) C dX2_record_19 (by decide) ?_
  refine x_irem C dX2_record_21 (by decide) ?_
  refine xp_X2_19 C dX2_record_22 ?_
  refine x_aload_n C dX2_record_25 rfl 0 rfl ?_
  refine x_aload_n C dX2_record_26 rfl 0 rfl ?_
  refine xg_X2_15 C dX2_record_27 ?_
  refine x_iconst (v := 1) C dX2_record_30 (by decide) ?_
  refine x_iadd C dX2_record_31 ?_
  refine x_bipush (v := 16) C dX2_record_32 (by decide) ?_
  refine x_mmin C kl_X2_26 kM_min kM_init kMc_min ⟨Nat.le_of_ble_eq_true rfl, Nat.le_of_ble_eq_true rfl⟩ ⟨Nat.zero_le _, Nat.zero_le _⟩ dX2_record_34 ?_
  refine xp_X2_15 C dX2_record_37 ?_
  exact x_vret C hr dX2_record_40 (Option.some.inj h)
theorem m_X2_record (l : Launch) (D : va_G) (cI cZ : ClassId) (ad : Nat → Nat) (hJ : pv_J ad)  (σ : pv_S) (R0 : pv_S) (h : f_X2_record σ = some R0) : Met l yX2_record (Cond.code yX2_record cX2_record 2 (none) :: lwG) r_X2_record (va_Pc [.ref (ad 4), .ref (ad 1)] (pv_P D cI cZ ad σ)) (pv_QV D cI cZ ad R0) 0 0 (pv_A ad) := x_met (by decide) rfl hJ (Nat.le_of_ble_eq_true rfl) (fun p e s m args below meth c C hr => w_X2_record_0 C hr R0 σ h)
abbrev r_X6_orderKey : Room := { frames := 0, cells := 0, slots := 0, locals := 0 }
set_option maxRecDepth 100000 in
set_option maxHeartbeats 4000000 in
theorem w_X6_orderKey_0 {p : Program} {l : Launch} {e : Env} {s : State} {m : MethodId} {args : Array Value} {below : List Frame} {meth : Method} {c : Code} {D : va_G} {cI cZ : ClassId} {ad : Nat → Nat} (C : pv_C p s m args meth c cX6_orderKey 3 RX6 D cI cZ ad (pv_A ad)) (hr : meth.sig.returnType = some .int) (R0 : (Int32 × pv_S)) (p0 : Int32) (p1 : Int32) (p2 : Int32) (σ : pv_S) (h : f_X6_orderKey p0 p1 p2 σ = some R0) : Wx p l e r_X6_orderKey s m args below meth c 0 0 (MQ below (pv_QI D cI cZ ad R0) args s 0 0 (pv_A ad)) 3 D cI cZ ad (pv_A ad) 0 [(0, .int p0), (1, .int p1), (2, .int p2)] [] σ := by
  unfold f_X6_orderKey at h
  refine x_iload_n C dX6_orderKey_0 rfl 0 rfl ?_
  refine x_sipush (v := 128) C dX6_orderKey_1 (by decide) ?_
  refine x_imul C dX6_orderKey_4 ?_
  refine x_iload_n C dX6_orderKey_5 rfl 2 rfl ?_
  refine x_iadd C dX6_orderKey_6 ?_
  refine x_bipush (v := 64) C dX6_orderKey_7 (by decide) ?_
  refine x_imul C dX6_orderKey_9 ?_
  refine x_iload_n C dX6_orderKey_10 rfl 1 rfl ?_
  refine x_iadd C dX6_orderKey_11 ?_
  exact x_iret C hr dX6_orderKey_12 (Option.some.inj h)
theorem m_X6_orderKey (l : Launch) (D : va_G) (cI cZ : ClassId) (ad : Nat → Nat) (hJ : pv_J ad) (p0 : Int32) (p1 : Int32) (p2 : Int32) (σ : pv_S) (R0 : (Int32 × pv_S)) (h : f_X6_orderKey p0 p1 p2 σ = some R0) : Met l yX6_orderKey (Cond.code yX6_orderKey cX6_orderKey 3 (some .int) :: lwG) r_X6_orderKey (va_Pc [.int p0, .int p1, .int p2] (pv_P D cI cZ ad σ)) (pv_QI D cI cZ ad R0) 0 0 (pv_A ad) := x_met (by decide) rfl hJ (Nat.le_of_ble_eq_true rfl) (fun p e s m args below meth c C hr => w_X6_orderKey_0 C hr R0 p0 p1 p2 σ h)
abbrev r_X6_length : Room := { frames := 1, cells := 0, slots := 0, locals := 22 }
set_option maxRecDepth 100000 in
set_option maxHeartbeats 4000000 in
theorem w_X6_length_0 {p : Program} {l : Launch} {e : Env} {s : State} {m : MethodId} {args : Array Value} {below : List Frame} {meth : Method} {c : Code} {D : va_G} {cI cZ : ClassId} {ad : Nat → Nat} (C : pv_C p s m args meth c cX6_length 2 RX6 D cI cZ ad (pv_A ad)) (hr : meth.sig.returnType = some .int) (R0 : (Int32 × pv_S)) (p0 : Int32) (σ : pv_S) (h : f_X6_length p0 σ = some R0) : Wx p l e r_X6_length s m args below meth c 0 0 (MQ below (pv_QI D cI cZ ad R0) args s 0 0 (pv_A ad)) 2 D cI cZ ad (pv_A ad) 0 [(0, .ref (ad 1)), (1, .int p0)] [] σ := by
  unfold f_X6_length at h
  refine x_aload_n C dX6_length_0 rfl 0 rfl ?_
  refine x_iload_n C dX6_length_1 rfl 1 rfl ?_
  refine x_iconst (v := 1) C dX6_length_2 (by decide) ?_
  obtain ⟨q1, eq1, h⟩ := gb_some h
  refine x_vi (st := []) C kY_X6_cell 1 6 rfl rfl rfl (m_X6_cell l D cI cZ ad C.2.2.2.2.2.2.1 p0 1 σ q1 eq1) kl_X6_31 ⟨rfl, rfl⟩ ⟨Nat.le_of_ble_eq_true rfl, Nat.le_of_ble_eq_true rfl⟩ ⟨Nat.zero_le _, Nat.zero_le _⟩ rfl rfl (Nat.le_of_ble_eq_true rfl) dX6_length_3 ?_
  exact x_iret C hr dX6_length_6 (Option.some.inj h)
theorem m_X6_length (l : Launch) (D : va_G) (cI cZ : ClassId) (ad : Nat → Nat) (hJ : pv_J ad) (p0 : Int32) (σ : pv_S) (R0 : (Int32 × pv_S)) (h : f_X6_length p0 σ = some R0) : Met l yX6_length (Cond.code yX6_length cX6_length 2 (some .int) :: lwG) r_X6_length (va_Pc [.ref (ad 1), .int p0] (pv_P D cI cZ ad σ)) (pv_QI D cI cZ ad R0) 0 0 (pv_A ad) := x_met (by decide) rfl hJ (Nat.le_of_ble_eq_true rfl) (fun p e s m args below meth c C hr => w_X6_length_0 C hr R0 p0 σ h)
abbrev r_X6_placeFor : Room := { frames := 2, cells := 0, slots := 0, locals := 43 }
set_option maxRecDepth 100000 in
set_option maxHeartbeats 4000000 in
theorem w_X6_placeFor_11 {p : Program} {l : Launch} {e : Env} {s : State} {m : MethodId} {args : Array Value} {below : List Frame} {meth : Method} {c : Code} {D : va_G} {cI cZ : ClassId} {ad : Nat → Nat} (C : pv_C p s m args meth c cX6_placeFor 6 RX6 D cI cZ ad (pv_A ad)) (hr : meth.sig.returnType = some .int) (R0 : (Int32 × pv_S)) : ∀ (n : Nat) (v4 : Int32) (v5 : Int32) (σ : pv_S), f_X6_placeFor_11 n v4 v5 σ = some R0 → Wx p l e r_X6_placeFor s m args below meth c 0 0 (MQ below (pv_QI D cI cZ ad R0) args s 0 0 (pv_A ad)) 6 D cI cZ ad (pv_A ad) 11 [(0, .ref (ad 1)), (4, .int v4), (5, .int v5)] [] σ := by
  intro n
  induction n with
  | zero =>
    intro v4 v5 σ h
    have h2 : (none : Option (Int32 × pv_S)) = some R0 := h
    cases h2
  | succ n ih =>
    intro v4 v5 σ h
    unfold f_X6_placeFor_11 at h
    refine x_iload C dX6_placeFor_11 2 rfl ?_
    refine x_aload_n C dX6_placeFor_13 rfl 0 rfl ?_
    obtain ⟨q1, eq1, h⟩ := gb_some h
    refine x_vi (st := [.int v5]) C kY_X6_count 1 6 rfl rfl rfl (m_X6_count l D cI cZ ad C.2.2.2.2.2.2.1 σ q1 eq1) kl_X6_64 ⟨rfl, rfl⟩ ⟨Nat.le_of_ble_eq_true rfl, Nat.le_of_ble_eq_true rfl⟩ ⟨Nat.zero_le _, Nat.zero_le _⟩ rfl rfl (Nat.le_of_ble_eq_true rfl) dX6_placeFor_14 ?_
    refine x_icmp_ge C 52 dX6_placeFor_17 (by decide) (fun c2 => ?_) (fun c2 => ?_)
    · have h := (if_pos c2).symm.trans h
      refine x_iload C dX6_placeFor_52 2 rfl ?_
      exact x_iret C hr dX6_placeFor_54 (Option.some.inj h)
    · have h := (if_neg c2).symm.trans h
      refine x_aload_n C dX6_placeFor_20 rfl 0 rfl ?_
      refine x_iload C dX6_placeFor_21 2 rfl ?_
      obtain ⟨q3, eq3, h⟩ := gb_some h
      refine x_vi (st := []) C kY_X6_on 1 6 rfl rfl rfl (m_X6_on l D cI cZ ad C.2.2.2.2.2.2.1 v5 q1.2 q3 eq3) kl_X6_46 ⟨rfl, rfl⟩ ⟨Nat.le_of_ble_eq_true rfl, Nat.le_of_ble_eq_true rfl⟩ ⟨Nat.zero_le _, Nat.zero_le _⟩ rfl rfl (Nat.le_of_ble_eq_true rfl) dX6_placeFor_23 ?_
      refine x_aload_n C dX6_placeFor_26 rfl 0 rfl ?_
      refine x_iload C dX6_placeFor_27 2 rfl ?_
      obtain ⟨q4, eq4, h⟩ := gb_some h
      refine x_vi (st := [.int q3.1]) C kY_X6_length 1 6 rfl rfl rfl (m_X6_length l D cI cZ ad C.2.2.2.2.2.2.1 v5 q3.2 q4 eq4) kl_X6_76 ⟨rfl, rfl⟩ ⟨Nat.le_of_ble_eq_true rfl, Nat.le_of_ble_eq_true rfl⟩ ⟨Nat.zero_le _, Nat.zero_le _⟩ rfl rfl (Nat.le_of_ble_eq_true rfl) dX6_placeFor_29 ?_
      refine x_aload_n C dX6_placeFor_32 rfl 0 rfl ?_
      refine x_iload C dX6_placeFor_33 2 rfl ?_
      obtain ⟨q5, eq5, h⟩ := gb_some h
      refine x_vi (st := [.int q4.1, .int q3.1]) C kY_X6_pitch 1 6 rfl rfl rfl (m_X6_pitch l D cI cZ ad C.2.2.2.2.2.2.1 v5 q4.2 q5 eq5) kl_X6_56 ⟨rfl, rfl⟩ ⟨Nat.le_of_ble_eq_true rfl, Nat.le_of_ble_eq_true rfl⟩ ⟨Nat.zero_le _, Nat.zero_le _⟩ rfl rfl (Nat.le_of_ble_eq_true rfl) dX6_placeFor_35 ?_
      obtain ⟨q6, eq6, h⟩ := gb_some h
      refine x_si (st := []) C kY_X6_orderKey (m_X6_orderKey l D cI cZ ad C.2.2.2.2.2.2.1 q3.1 q4.1 q5.1 q5.2 q6 eq6) kl_X6_73 ⟨rfl, rfl⟩ ⟨Nat.le_of_ble_eq_true rfl, Nat.le_of_ble_eq_true rfl⟩ ⟨Nat.zero_le _, Nat.zero_le _⟩ rfl rfl (Nat.le_of_ble_eq_true rfl) dX6_placeFor_38 ?_
      refine x_iload C dX6_placeFor_41 1 rfl ?_
      refine x_icmp_gt C 52 dX6_placeFor_43 (by decide) (fun c7 => ?_) (fun c7 => ?_)
      · have h := (if_pos c7).symm.trans h
        refine x_iload C dX6_placeFor_52 2 rfl ?_
        exact x_iret C hr dX6_placeFor_54 (Option.some.inj h)
      · have h := (if_neg c7).symm.trans h
        refine x_iinc (v := (v5 + 1)) (lv' := [(5, .int (v5 + 1)), (0, .ref (ad 1)), (4, .int v4)]) C 2 dX6_placeFor_46 rfl rfl (by decide) rfl ?_
        refine x_goto C 11 dX6_placeFor_49 (by decide) ?_
        refine x_sub [1, 2, 0] rfl ?_
        exact ih v4 (v5 + 1) q6.2 h
set_option maxRecDepth 100000 in
set_option maxHeartbeats 4000000 in
theorem w_X6_placeFor_0 {p : Program} {l : Launch} {e : Env} {s : State} {m : MethodId} {args : Array Value} {below : List Frame} {meth : Method} {c : Code} {D : va_G} {cI cZ : ClassId} {ad : Nat → Nat} (C : pv_C p s m args meth c cX6_placeFor 6 RX6 D cI cZ ad (pv_A ad)) (hr : meth.sig.returnType = some .int) (R0 : (Int32 × pv_S)) (p0 : Int32) (p1 : Int32) (p2 : Int32) (σ : pv_S) (h : f_X6_placeFor p0 p1 p2 σ = some R0) : Wx p l e r_X6_placeFor s m args below meth c 0 0 (MQ below (pv_QI D cI cZ ad R0) args s 0 0 (pv_A ad)) 6 D cI cZ ad (pv_A ad) 0 [(0, .ref (ad 1)), (1, .int p0), (2, .int p1), (3, .int p2)] [] σ := by
  unfold f_X6_placeFor at h
  refine x_iload_n C dX6_placeFor_0 rfl 1 rfl ?_
  refine x_iload_n C dX6_placeFor_1 rfl 2 rfl ?_
  refine x_iload_n C dX6_placeFor_2 rfl 3 rfl ?_
  obtain ⟨q1, eq1, h⟩ := gb_some h
  refine x_si (st := []) C kY_X6_orderKey (m_X6_orderKey l D cI cZ ad C.2.2.2.2.2.2.1 p0 p1 p2 σ q1 eq1) kl_X6_73 ⟨rfl, rfl⟩ ⟨Nat.le_of_ble_eq_true rfl, Nat.le_of_ble_eq_true rfl⟩ ⟨Nat.zero_le _, Nat.zero_le _⟩ rfl rfl (Nat.le_of_ble_eq_true rfl) dX6_placeFor_3 ?_
  refine x_istore (lv' := [(4, .int q1.1), (0, .ref (ad 1)), (1, .int p0), (2, .int p1), (3, .int p2)]) C dX6_placeFor_6 (by decide) rfl ?_
  refine x_iconst (v := 0) C dX6_placeFor_8 (by decide) ?_
  refine x_istore (lv' := [(5, .int 0), (4, .int q1.1), (0, .ref (ad 1)), (1, .int p0), (2, .int p1), (3, .int p2)]) C dX6_placeFor_9 (by decide) rfl ?_
  refine x_sub [2, 1, 0] rfl ?_
  exact w_X6_placeFor_11 C hr R0 pv_FU q1.1 0 q1.2 h
theorem m_X6_placeFor (l : Launch) (D : va_G) (cI cZ : ClassId) (ad : Nat → Nat) (hJ : pv_J ad) (p0 : Int32) (p1 : Int32) (p2 : Int32) (σ : pv_S) (R0 : (Int32 × pv_S)) (h : f_X6_placeFor p0 p1 p2 σ = some R0) : Met l yX6_placeFor (Cond.code yX6_placeFor cX6_placeFor 6 (some .int) :: lwG) r_X6_placeFor (va_Pc [.ref (ad 1), .int p0, .int p1, .int p2] (pv_P D cI cZ ad σ)) (pv_QI D cI cZ ad R0) 0 0 (pv_A ad) := x_met (by decide) rfl hJ (Nat.le_of_ble_eq_true rfl) (fun p e s m args below meth c C hr => w_X6_placeFor_0 C hr R0 p0 p1 p2 σ h)
abbrev r_X6_link : Room := { frames := 1, cells := 0, slots := 0, locals := 21 }
set_option maxRecDepth 100000 in
set_option maxHeartbeats 4000000 in
theorem w_X6_link_0 {p : Program} {l : Launch} {e : Env} {s : State} {m : MethodId} {args : Array Value} {below : List Frame} {meth : Method} {c : Code} {D : va_G} {cI cZ : ClassId} {ad : Nat → Nat} (C : pv_C p s m args meth c cX6_link 3 RX6 D cI cZ ad (pv_A ad)) (hr : meth.sig.returnType = none) (R0 : pv_S) (p0 : Int32) (p1 : Int32) (σ : pv_S) (h : f_X6_link p0 p1 σ = some R0) : Wx p l e r_X6_link s m args below meth c 0 0 (MQ below (pv_QV D cI cZ ad R0) args s 0 0 (pv_A ad)) 3 D cI cZ ad (pv_A ad) 0 [(0, .ref (ad 1)), (1, .int p0), (2, .int p1)] [] σ := by
  unfold f_X6_link at h
  refine x_aload_n C dX6_link_0 rfl 0 rfl ?_
  refine x_iload_n C dX6_link_1 rfl 1 rfl ?_
  obtain ⟨q1, eq1, h⟩ := gb_some h
  refine x_vi (st := []) C kY_X6_has 1 6 rfl rfl rfl (m_X6_has l D cI cZ ad C.2.2.2.2.2.2.1 p0 σ q1 eq1) kl_X6_42 ⟨rfl, rfl⟩ ⟨Nat.le_of_ble_eq_true rfl, Nat.le_of_ble_eq_true rfl⟩ ⟨Nat.zero_le _, Nat.zero_le _⟩ rfl rfl (Nat.le_of_ble_eq_true rfl) dX6_link_2 ?_
  refine x_if_eq C 22 dX6_link_5 (by decide) (fun c2 => ?_) (fun c2 => ?_)
  · have h := (if_pos c2).symm.trans h
    exact x_vret C hr dX6_link_22 (Option.some.inj h)
  · have h := (if_neg c2).symm.trans h
    refine x_aload_n C dX6_link_8 rfl 0 rfl ?_
    refine xg_X6_11 C dX6_link_9 ?_
    refine x_bipush (v := 6) C dX6_link_12 (by decide) ?_
    refine x_iload_n C dX6_link_14 rfl 1 rfl ?_
    refine x_iconst (v := 4) C dX6_link_15 (by decide) ?_
    refine x_imul C dX6_link_16 ?_
    refine x_iadd C dX6_link_17 ?_
    refine x_iconst (v := 3) C dX6_link_18 (by decide) ?_
    refine x_iadd C dX6_link_19 ?_
    refine x_iload_n C dX6_link_20 rfl 2 rfl ?_
    obtain ⟨g3, h⟩ := gd_some h
    refine xs_0 C g3 dX6_link_21 ?_
    exact x_vret C hr dX6_link_22 (Option.some.inj h)
theorem m_X6_link (l : Launch) (D : va_G) (cI cZ : ClassId) (ad : Nat → Nat) (hJ : pv_J ad) (p0 : Int32) (p1 : Int32) (σ : pv_S) (R0 : pv_S) (h : f_X6_link p0 p1 σ = some R0) : Met l yX6_link (Cond.code yX6_link cX6_link 3 (none) :: lwG) r_X6_link (va_Pc [.ref (ad 1), .int p0, .int p1] (pv_P D cI cZ ad σ)) (pv_QV D cI cZ ad R0) 0 0 (pv_A ad) := x_met (by decide) rfl hJ (Nat.le_of_ble_eq_true rfl) (fun p e s m args below meth c C hr => w_X6_link_0 C hr R0 p0 p1 σ h)
abbrev r_X6_changed : Room := { frames := 2, cells := 0, slots := 0, locals := 43 }
set_option maxRecDepth 100000 in
set_option maxHeartbeats 4000000 in
theorem w_X6_changed_12 {p : Program} {l : Launch} {e : Env} {s : State} {m : MethodId} {args : Array Value} {below : List Frame} {meth : Method} {c : Code} {D : va_G} {cI cZ : ClassId} {ad : Nat → Nat} (C : pv_C p s m args meth c cX6_changed 2 RX6 D cI cZ ad (pv_A ad)) (hr : meth.sig.returnType = none) (R0 : pv_S) : ∀ (n : Nat) (v1 : Int32) (σ : pv_S), f_X6_changed_12 n v1 σ = some R0 → Wx p l e r_X6_changed s m args below meth c 0 0 (MQ below (pv_QV D cI cZ ad R0) args s 0 0 (pv_A ad)) 2 D cI cZ ad (pv_A ad) 12 [(0, .ref (ad 1)), (1, .int v1)] [] σ := by
  intro n
  induction n with
  | zero =>
    intro v1 σ h
    have h2 : (none : Option pv_S) = some R0 := h
    cases h2
  | succ n ih =>
    intro v1 σ h
    unfold f_X6_changed_12 at h
    refine x_iload_n C dX6_changed_12 rfl 1 rfl ?_
    refine x_aload_n C dX6_changed_13 rfl 0 rfl ?_
    obtain ⟨q1, eq1, h⟩ := gb_some h
    refine x_vi (st := [.int v1]) C kY_X6_count 1 6 rfl rfl rfl (m_X6_count l D cI cZ ad C.2.2.2.2.2.2.1 σ q1 eq1) kl_X6_64 ⟨rfl, rfl⟩ ⟨Nat.le_of_ble_eq_true rfl, Nat.le_of_ble_eq_true rfl⟩ ⟨Nat.zero_le _, Nat.zero_le _⟩ rfl rfl (Nat.le_of_ble_eq_true rfl) dX6_changed_14 ?_
    refine x_icmp_ge C 32 dX6_changed_17 (by decide) (fun c2 => ?_) (fun c2 => ?_)
    · have h := (if_pos c2).symm.trans h
      exact x_vret C hr dX6_changed_32 (Option.some.inj h)
    · have h := (if_neg c2).symm.trans h
      refine x_aload_n C dX6_changed_20 rfl 0 rfl ?_
      refine x_iload_n C dX6_changed_21 rfl 1 rfl ?_
      refine x_iconst (v := (-1)) C dX6_changed_22 (by decide) ?_
      obtain ⟨q3, eq3, h⟩ := gb_some h
      refine x_vv (st := []) C kY_X6_link 1 6 rfl rfl rfl (m_X6_link l D cI cZ ad C.2.2.2.2.2.2.1 v1 (-1) q1.2 q3 eq3) kl_X6_79 ⟨rfl, rfl⟩ ⟨Nat.le_of_ble_eq_true rfl, Nat.le_of_ble_eq_true rfl⟩ ⟨Nat.zero_le _, Nat.zero_le _⟩ rfl rfl (Nat.le_of_ble_eq_true rfl) dX6_changed_23 ?_
      refine x_iinc (v := (v1 + 1)) (lv' := [(1, .int (v1 + 1)), (0, .ref (ad 1))]) C 1 dX6_changed_26 rfl rfl (by decide) rfl ?_
      refine x_goto C 12 dX6_changed_29 (by decide) ?_
      refine x_sub [1, 0] rfl ?_
      exact ih (v1 + 1) q3 h
set_option maxRecDepth 100000 in
set_option maxHeartbeats 4000000 in
theorem w_X6_changed_0 {p : Program} {l : Launch} {e : Env} {s : State} {m : MethodId} {args : Array Value} {below : List Frame} {meth : Method} {c : Code} {D : va_G} {cI cZ : ClassId} {ad : Nat → Nat} (C : pv_C p s m args meth c cX6_changed 2 RX6 D cI cZ ad (pv_A ad)) (hr : meth.sig.returnType = none) (R0 : pv_S) (σ : pv_S) (h : f_X6_changed σ = some R0) : Wx p l e r_X6_changed s m args below meth c 0 0 (MQ below (pv_QV D cI cZ ad R0) args s 0 0 (pv_A ad)) 2 D cI cZ ad (pv_A ad) 0 [(0, .ref (ad 1))] [] σ := by
  unfold f_X6_changed at h
  refine x_aload_n C dX6_changed_0 rfl 0 rfl ?_
  refine x_dup C dX6_changed_1 rfl ?_
  refine xg_X6_27 C dX6_changed_2 ?_
  refine x_iconst (v := 1) C dX6_changed_5 (by decide) ?_
  refine x_iadd C dX6_changed_6 ?_
  refine xp_X6_27 C dX6_changed_7 ?_
  refine x_iconst (v := 0) C dX6_changed_10 (by decide) ?_
  refine x_istore_n (lv' := [(1, .int 0), (0, .ref (ad 1))]) C dX6_changed_11 rfl (by decide) rfl ?_
  refine x_sub [1, 0] rfl ?_
  exact w_X6_changed_12 C hr R0 pv_FU 0 (pv_pi σ 0 ((σ.1 0) + 1)) h
theorem m_X6_changed (l : Launch) (D : va_G) (cI cZ : ClassId) (ad : Nat → Nat) (hJ : pv_J ad)  (σ : pv_S) (R0 : pv_S) (h : f_X6_changed σ = some R0) : Met l yX6_changed (Cond.code yX6_changed cX6_changed 2 (none) :: lwG) r_X6_changed (va_Pc [.ref (ad 1)] (pv_P D cI cZ ad σ)) (pv_QV D cI cZ ad R0) 0 0 (pv_A ad) := x_met (by decide) rfl hJ (Nat.le_of_ble_eq_true rfl) (fun p e s m args below meth c C hr => w_X6_changed_0 C hr R0 σ h)
abbrev r_X6_bring : Room := { frames := 3, cells := 0, slots := 0, locals := 68 }
set_option maxRecDepth 100000 in
set_option maxHeartbeats 4000000 in
theorem w_X6_bring_0 {p : Program} {l : Launch} {e : Env} {s : State} {m : MethodId} {args : Array Value} {below : List Frame} {meth : Method} {c : Code} {D : va_G} {cI cZ : ClassId} {ad : Nat → Nat} (C : pv_C p s m args meth c cX6_bring 7 RX6 D cI cZ ad (pv_A ad)) (hr : meth.sig.returnType = some .int) (R0 : (Int32 × pv_S)) (p0 : Int32) (p1 : Int32) (p2 : Int32) (σ : pv_S) (h : f_X6_bring p0 p1 p2 σ = some R0) : Wx p l e r_X6_bring s m args below meth c 0 0 (MQ below (pv_QI D cI cZ ad R0) args s 0 0 (pv_A ad)) 7 D cI cZ ad (pv_A ad) 0 [(0, .ref (ad 1)), (1, .int p0), (2, .int p1), (3, .int p2)] [] σ := by
  unfold f_X6_bring at h
  refine x_aload_n C dX6_bring_0 rfl 0 rfl ?_
  obtain ⟨q1, eq1, h⟩ := gb_some h
  refine x_vi (st := []) C kY_X6_count 1 6 rfl rfl rfl (m_X6_count l D cI cZ ad C.2.2.2.2.2.2.1 σ q1 eq1) kl_X6_64 ⟨rfl, rfl⟩ ⟨Nat.le_of_ble_eq_true rfl, Nat.le_of_ble_eq_true rfl⟩ ⟨Nat.zero_le _, Nat.zero_le _⟩ rfl rfl (Nat.le_of_ble_eq_true rfl) dX6_bring_1 ?_
  refine x_istore (lv' := [(4, .int q1.1), (0, .ref (ad 1)), (1, .int p0), (2, .int p1), (3, .int p2)]) C dX6_bring_4 (by decide) rfl ?_
  refine x_iload C dX6_bring_6 0 rfl ?_
  refine x_if_lt C 18 dX6_bring_8 (by decide) (fun c2 => ?_) (fun c2 => ?_)
  · have h := (if_pos c2).symm.trans h
    refine x_ldc C kc_X6_68 dX6_bring_18 ?_
    exact x_iret C hr dX6_bring_20 (Option.some.inj h)
  · have h := (if_neg c2).symm.trans h
    refine x_iload C dX6_bring_11 0 rfl ?_
    refine x_bipush (v := 10) C dX6_bring_13 (by decide) ?_
    refine x_icmp_lt C 21 dX6_bring_15 (by decide) (fun c3 => ?_) (fun c3 => ?_)
    · have h := (if_pos c3).symm.trans h
      refine x_aload_n C dX6_bring_21 rfl 1 rfl ?_
      refine x_iload_n C dX6_bring_22 rfl 2 rfl ?_
      refine x_iload_n C dX6_bring_23 rfl 3 rfl ?_
      refine x_iload_n C dX6_bring_24 rfl 4 rfl ?_
      obtain ⟨q4, eq4, h⟩ := gb_some h
      refine x_vi (st := []) C kY_X6_placeFor 1 6 rfl rfl rfl (m_X6_placeFor l D cI cZ ad C.2.2.2.2.2.2.1 p0 p1 p2 q1.2 q4 eq4) kl_X6_69 ⟨rfl, rfl⟩ ⟨Nat.le_of_ble_eq_true rfl, Nat.le_of_ble_eq_true rfl⟩ ⟨Nat.zero_le _, Nat.zero_le _⟩ rfl rfl (Nat.le_of_ble_eq_true rfl) dX6_bring_25 ?_
      refine x_istore (lv' := [(5, .int q4.1), (4, .int q1.1), (0, .ref (ad 1)), (1, .int p0), (2, .int p1), (3, .int p2)]) C dX6_bring_28 (by decide) rfl ?_
      refine x_bipush (v := 6) C dX6_bring_30 (by decide) ?_
      refine x_iload C dX6_bring_32 0 rfl ?_
      refine x_iconst (v := 4) C dX6_bring_34 (by decide) ?_
      refine x_imul C dX6_bring_35 ?_
      refine x_iadd C dX6_bring_36 ?_
      refine x_istore (lv' := [(6, .int (6 + (q4.1 * 4))), (5, .int q4.1), (4, .int q1.1), (0, .ref (ad 1)), (1, .int p0), (2, .int p1), (3, .int p2)]) C dX6_bring_37 (by decide) rfl ?_
      refine x_aload_n C dX6_bring_39 rfl 3 rfl ?_
      refine xg_X6_11 C dX6_bring_40 ?_
      refine x_iload C dX6_bring_43 0 rfl ?_
      refine x_aload_n C dX6_bring_45 rfl 3 rfl ?_
      refine xg_X6_11 C dX6_bring_46 ?_
      refine x_iload C dX6_bring_49 0 rfl ?_
      refine x_iconst (v := 4) C dX6_bring_51 (by decide) ?_
      refine x_iadd C dX6_bring_52 ?_
      refine x_iload C dX6_bring_53 2 rfl ?_
      refine x_iload C dX6_bring_55 1 rfl ?_
      refine x_isub C dX6_bring_57 ?_
      refine x_iconst (v := 4) C dX6_bring_58 (by decide) ?_
      refine x_imul C dX6_bring_59 ?_
      obtain ⟨g5, h⟩ := gc_some h
      refine x_copy (σ' := (pv_cp q4.2 0 0 (6 + (q4.1 * 4)) ((6 + (q4.1 * 4)) + 4) ((q1.1 - q4.1) * 4))) C 9 9 rfl rfl kl_X6_18 kA_nat kA_stat kA_init g5 ⟨Nat.le_of_ble_eq_true rfl, Nat.le_of_ble_eq_true rfl⟩ rfl dX6_bring_60 ?_
      refine x_aload_n C dX6_bring_63 rfl 3 rfl ?_
      refine xg_X6_11 C dX6_bring_64 ?_
      refine x_iload C dX6_bring_67 0 rfl ?_
      refine x_iconst (v := 0) C dX6_bring_69 (by decide) ?_
      refine x_iadd C dX6_bring_70 ?_
      refine x_iload_n C dX6_bring_71 rfl 4 rfl ?_
      obtain ⟨g6, h⟩ := gd_some h
      refine xs_0 C g6 dX6_bring_72 ?_
      refine x_aload_n C dX6_bring_73 rfl 3 rfl ?_
      refine xg_X6_11 C dX6_bring_74 ?_
      refine x_iload C dX6_bring_77 0 rfl ?_
      refine x_iconst (v := 1) C dX6_bring_79 (by decide) ?_
      refine x_iadd C dX6_bring_80 ?_
      refine x_iload_n C dX6_bring_81 rfl 5 rfl ?_
      obtain ⟨g7, h⟩ := gd_some h
      refine xs_0 C g7 dX6_bring_82 ?_
      refine x_aload_n C dX6_bring_83 rfl 3 rfl ?_
      refine xg_X6_11 C dX6_bring_84 ?_
      refine x_iload C dX6_bring_87 0 rfl ?_
      refine x_iconst (v := 2) C dX6_bring_89 (by decide) ?_
      refine x_iadd C dX6_bring_90 ?_
      refine x_iload_n C dX6_bring_91 rfl 6 rfl ?_
      obtain ⟨g8, h⟩ := gd_some h
      refine xs_0 C g8 dX6_bring_92 ?_
      refine x_aload_n C dX6_bring_93 rfl 3 rfl ?_
      refine xg_X6_11 C dX6_bring_94 ?_
      refine x_iconst (v := 0) C dX6_bring_97 (by decide) ?_
      refine x_iload C dX6_bring_98 2 rfl ?_
      refine x_iconst (v := 1) C dX6_bring_100 (by decide) ?_
      refine x_iadd C dX6_bring_101 ?_
      obtain ⟨g9, h⟩ := gd_some h
      refine xs_0 C g9 dX6_bring_102 ?_
      refine x_aload_n C dX6_bring_103 rfl 3 rfl ?_
      obtain ⟨q10, eq10, h⟩ := gb_some h
      refine x_vv (st := []) C kY_X6_changed 1 6 rfl rfl rfl (m_X6_changed l D cI cZ ad C.2.2.2.2.2.2.1 (pv_sa (pv_sa (pv_sa (pv_sa (pv_cp q4.2 0 0 (6 + (q4.1 * 4)) ((6 + (q4.1 * 4)) + 4) ((q1.1 - q4.1) * 4)) 0 ((6 + (q4.1 * 4)) + 0) p0) 0 ((6 + (q4.1 * 4)) + 1) p1) 0 ((6 + (q4.1 * 4)) + 2) p2) 0 0 (q1.1 + 1)) q10 eq10) kl_X6_39 ⟨rfl, rfl⟩ ⟨Nat.le_of_ble_eq_true rfl, Nat.le_of_ble_eq_true rfl⟩ ⟨Nat.zero_le _, Nat.zero_le _⟩ rfl rfl (Nat.le_of_ble_eq_true rfl) dX6_bring_104 ?_
      refine x_iload C dX6_bring_107 1 rfl ?_
      exact x_iret C hr dX6_bring_109 (Option.some.inj h)
    · have h := (if_neg c3).symm.trans h
      refine x_ldc C kc_X6_68 dX6_bring_18 ?_
      exact x_iret C hr dX6_bring_20 (Option.some.inj h)
theorem m_X6_bring (l : Launch) (D : va_G) (cI cZ : ClassId) (ad : Nat → Nat) (hJ : pv_J ad) (p0 : Int32) (p1 : Int32) (p2 : Int32) (σ : pv_S) (R0 : (Int32 × pv_S)) (h : f_X6_bring p0 p1 p2 σ = some R0) : Met l yX6_bring (Cond.code yX6_bring cX6_bring 7 (some .int) :: lwG) r_X6_bring (va_Pc [.ref (ad 1), .int p0, .int p1, .int p2] (pv_P D cI cZ ad σ)) (pv_QI D cI cZ ad R0) 0 0 (pv_A ad) := x_met (by decide) rfl hJ (Nat.le_of_ble_eq_true rfl) (fun p e s m args below meth c C hr => w_X6_bring_0 C hr R0 p0 p1 p2 σ h)
abbrev r_X7_note : Room := { frames := 4, cells := 0, slots := 0, locals := 94 }
set_option maxRecDepth 100000 in
set_option maxHeartbeats 4000000 in
theorem w_X7_note_0 {p : Program} {l : Launch} {e : Env} {s : State} {m : MethodId} {args : Array Value} {below : List Frame} {meth : Method} {c : Code} {D : va_G} {cI cZ : ClassId} {ad : Nat → Nat} (C : pv_C p s m args meth c cX7_note 4 RX7 D cI cZ ad (pv_A ad)) (hr : meth.sig.returnType = some .int) (R0 : (Int32 × pv_S)) (p0 : Int32) (p1 : Int32) (p2 : Int32) (σ : pv_S) (h : f_X7_note p0 p1 p2 σ = some R0) : Wx p l e r_X7_note s m args below meth c 0 0 (MQ below (pv_QI D cI cZ ad R0) args s 0 0 (pv_A ad)) 4 D cI cZ ad (pv_A ad) 0 [(0, .ref (ad 0)), (1, .int p0), (2, .int p1), (3, .int p2)] [] σ := by
  unfold f_X7_note at h
  refine x_iload_n C dX7_note_0 rfl 1 rfl ?_
  refine x_iload_n C dX7_note_1 rfl 2 rfl ?_
  refine x_iload_n C dX7_note_2 rfl 3 rfl ?_
  obtain ⟨q1, eq1, h⟩ := gb_some h
  refine x_si (st := []) C kY_X6_canBe (m_X6_canBe l D cI cZ ad C.2.2.2.2.2.2.1 p0 p1 p2 σ q1 eq1) kl_X7_174 ⟨rfl, rfl⟩ ⟨Nat.le_of_ble_eq_true rfl, Nat.le_of_ble_eq_true rfl⟩ ⟨Nat.zero_le _, Nat.zero_le _⟩ rfl rfl (Nat.le_of_ble_eq_true rfl) dX7_note_3 ?_
  refine x_if_ne C 12 dX7_note_6 (by decide) (fun c2 => ?_) (fun c2 => ?_)
  · have h := (if_neg c2).symm.trans h
    refine x_aload_n C dX7_note_12 rfl 0 rfl ?_
    refine xg_X7_10 C dX7_note_13 ?_
    obtain ⟨q3, eq3, h⟩ := gb_some h
    refine x_vi (st := []) C kY_X6_isFull 1 6 rfl rfl rfl (m_X6_isFull l D cI cZ ad C.2.2.2.2.2.2.1 q1.2 q3 eq3) kl_X7_178 ⟨rfl, rfl⟩ ⟨Nat.le_of_ble_eq_true rfl, Nat.le_of_ble_eq_true rfl⟩ ⟨Nat.zero_le _, Nat.zero_le _⟩ rfl rfl (Nat.le_of_ble_eq_true rfl) dX7_note_16 ?_
    refine x_if_eq C 25 dX7_note_19 (by decide) (fun c4 => ?_) (fun c4 => ?_)
    · have h := (if_pos c4).symm.trans h
      refine x_aload_n C dX7_note_25 rfl 0 rfl ?_
      refine xg_X7_35 C dX7_note_26 ?_
      refine x_aload_n C dX7_note_29 rfl 0 rfl ?_
      refine xg_X7_10 C dX7_note_30 ?_
      obtain ⟨q5, eq5, h⟩ := gb_some h
      refine x_vv (st := []) C kY_X2_record 4 2 rfl rfl rfl (m_X2_record l D cI cZ ad C.2.2.2.2.2.2.1 q3.2 q5 eq5) kl_X7_183 ⟨rfl, rfl⟩ ⟨Nat.le_of_ble_eq_true rfl, Nat.le_of_ble_eq_true rfl⟩ ⟨Nat.zero_le _, Nat.zero_le _⟩ rfl rfl (Nat.le_of_ble_eq_true rfl) dX7_note_33 ?_
      refine x_aload_n C dX7_note_36 rfl 0 rfl ?_
      refine xg_X7_10 C dX7_note_37 ?_
      refine x_iload_n C dX7_note_40 rfl 1 rfl ?_
      refine x_iload_n C dX7_note_41 rfl 2 rfl ?_
      refine x_iload_n C dX7_note_42 rfl 3 rfl ?_
      obtain ⟨q6, eq6, h⟩ := gb_some h
      refine x_vi (st := []) C kY_X6_bring 1 6 rfl rfl rfl (m_X6_bring l D cI cZ ad C.2.2.2.2.2.2.1 p0 p1 p2 q5 q6 eq6) kl_X7_186 ⟨rfl, rfl⟩ ⟨Nat.le_of_ble_eq_true rfl, Nat.le_of_ble_eq_true rfl⟩ ⟨Nat.zero_le _, Nat.zero_le _⟩ rfl rfl (Nat.le_of_ble_eq_true rfl) dX7_note_43 ?_
      exact x_iret C hr dX7_note_46 (Option.some.inj h)
    · have h := (if_neg c4).symm.trans h
      refine x_ldc C kc_X7_182 dX7_note_22 ?_
      exact x_iret C hr dX7_note_24 (Option.some.inj h)
  · have h := (if_pos c2).symm.trans h
    refine x_ldc C kc_X7_107 dX7_note_9 ?_
    exact x_iret C hr dX7_note_11 (Option.some.inj h)
theorem m_X7_note (l : Launch) (D : va_G) (cI cZ : ClassId) (ad : Nat → Nat) (hJ : pv_J ad) (p0 : Int32) (p1 : Int32) (p2 : Int32) (σ : pv_S) (R0 : (Int32 × pv_S)) (h : f_X7_note p0 p1 p2 σ = some R0) : Met l yX7_note (Cond.code yX7_note cX7_note 4 (some .int) :: lwG) r_X7_note (va_Pc [.ref (ad 0), .int p0, .int p1, .int p2] (pv_P D cI cZ ad σ)) (pv_QI D cI cZ ad R0) 0 0 (pv_A ad) := x_met (by decide) rfl hJ (Nat.le_of_ble_eq_true rfl) (fun p e s m args below meth c C hr => w_X7_note_0 C hr R0 p0 p1 p2 σ h)
