abbrev r_X8_through : Room := { frames := 2, cells := 0, slots := 0, locals := 47 }
set_option maxRecDepth 100000 in
set_option maxHeartbeats 4000000 in
theorem w_X8_through_36 {p : Program} {l : Launch} {e : Env} {s : State} {m : MethodId} {args : Array Value} {below : List Frame} {meth : Method} {c : Code} {D : va_G} {cI cZ : ClassId} {ad : Nat → Nat} (C : pv_C p s m args meth c cX8_through 5 RX8 D cI cZ ad (pv_A ad)) (hr : meth.sig.returnType = some .int) (R0 : (Int32 × pv_S)) (v1 : Int32) (v2 : Int32) (v3 : Int32) (s0 : Int32) (σ : pv_S) (h : f_X8_through_36 v1 v2 v3 s0 σ = some R0) : Wx p l e r_X8_through s m args below meth c 0 0 (MQ below (pv_QI D cI cZ ad R0) args s 0 0 (pv_A ad)) 5 D cI cZ ad (pv_A ad) 36 [(0, .ref (ad 8)), (1, .int v1), (2, .int v2), (3, .int v3)] [.int s0] σ := by
  unfold f_X8_through_36 at h
  refine x_istore (lv' := [(4, .int s0), (0, .ref (ad 8)), (1, .int v1), (2, .int v2), (3, .int v3)]) C dX8_through_36 (by decide) rfl ?_
  refine x_iload C dX8_through_38 0 rfl ?_
  refine x_if_eq C 65 dX8_through_40 (by decide) (fun c1 => ?_) (fun c1 => ?_)
  · have h := (if_pos c1).symm.trans h
    refine x_ldc C kc_X8_55 dX8_through_65 ?_
    exact x_iret C hr dX8_through_67 (Option.some.inj h)
  · have h := (if_neg c1).symm.trans h
    refine x_aload_n C dX8_through_43 rfl 1 rfl ?_
    refine x_iload_n C dX8_through_44 rfl 2 rfl ?_
    refine x_iconst (v := 1) C dX8_through_45 (by decide) ?_
    refine x_iadd C dX8_through_46 ?_
    refine x_iload_n C dX8_through_47 rfl 3 rfl ?_
    refine x_iconst (v := 1) C dX8_through_48 (by decide) ?_
    refine x_iload_n C dX8_through_49 rfl 4 rfl ?_
    refine x_ishl C dX8_through_50 ?_
    refine x_ior C dX8_through_51 ?_
    obtain ⟨q2, eq2, h⟩ := gb_some h
    refine x_vi (st := []) C kY_X8_bestAt 8 8 rfl rfl rfl (m_X8_bestAt l D cI cZ ad C.2.2.2.2.2.2.1 (v1 + 1) (v2 ||| (1 <<< (v3 &&& 31))) σ q2 eq2) kl_X8_44 ⟨rfl, rfl⟩ ⟨Nat.le_of_ble_eq_true rfl, Nat.le_of_ble_eq_true rfl⟩ ⟨Nat.zero_le _, Nat.zero_le _⟩ rfl rfl (Nat.le_of_ble_eq_true rfl) dX8_through_52 ?_
    refine x_aload_n C dX8_through_55 rfl 1 rfl ?_
    refine x_iload_n C dX8_through_56 rfl 2 rfl ?_
    refine x_iload_n C dX8_through_57 rfl 4 rfl ?_
    obtain ⟨q3, eq3, h⟩ := gb_some h
    refine x_vi (st := [.int q2.1]) C kY_X8_costOf 8 8 rfl rfl rfl (m_X8_costOf l D cI cZ ad C.2.2.2.2.2.2.1 v1 v3 q2.2 q3 eq3) kl_X8_52 ⟨rfl, rfl⟩ ⟨Nat.le_of_ble_eq_true rfl, Nat.le_of_ble_eq_true rfl⟩ ⟨Nat.zero_le _, Nat.zero_le _⟩ rfl rfl (Nat.le_of_ble_eq_true rfl) dX8_through_58 ?_
    refine x_iadd C dX8_through_61 ?_
    refine x_goto C 67 dX8_through_62 (by decide) ?_
    exact x_iret C hr dX8_through_67 (Option.some.inj h)
set_option maxRecDepth 100000 in
set_option maxHeartbeats 4000000 in
theorem w_X8_through_0 {p : Program} {l : Launch} {e : Env} {s : State} {m : MethodId} {args : Array Value} {below : List Frame} {meth : Method} {c : Code} {D : va_G} {cI cZ : ClassId} {ad : Nat → Nat} (C : pv_C p s m args meth c cX8_through 5 RX8 D cI cZ ad (pv_A ad)) (hr : meth.sig.returnType = some .int) (R0 : (Int32 × pv_S)) (p0 : Int32) (p1 : Int32) (p2 : Int32) (σ : pv_S) (h : f_X8_through p0 p1 p2 σ = some R0) : Wx p l e r_X8_through s m args below meth c 0 0 (MQ below (pv_QI D cI cZ ad R0) args s 0 0 (pv_A ad)) 5 D cI cZ ad (pv_A ad) 0 [(0, .ref (ad 8)), (1, .int p0), (2, .int p1), (3, .int p2)] [] σ := by
  unfold f_X8_through at h
  refine x_iload_n C dX8_through_0 rfl 3 rfl ?_
  refine x_iconst (v := (-1)) C dX8_through_1 (by decide) ?_
  refine x_icmp_ne C 14 dX8_through_2 (by decide) (fun c1 => ?_) (fun c1 => ?_)
  · have h := (if_neg c1).symm.trans h
    refine x_iload_n C dX8_through_14 rfl 2 rfl ?_
    refine x_iload_n C dX8_through_15 rfl 3 rfl ?_
    refine x_ishr C dX8_through_16 ?_
    refine x_iconst (v := 1) C dX8_through_17 (by decide) ?_
    refine x_iand C dX8_through_18 ?_
    refine x_if_ne C 35 dX8_through_19 (by decide) (fun c2 => ?_) (fun c2 => ?_)
    · have h := (if_neg c2).symm.trans h
      refine x_iconst (v := 0) C dX8_through_35 (by decide) ?_
      exact w_X8_through_36 C hr R0 p0 p1 p2 0 σ h
    · have h := (if_pos c2).symm.trans h
      refine x_aload_n C dX8_through_22 rfl 0 rfl ?_
      refine x_iload_n C dX8_through_23 rfl 1 rfl ?_
      refine x_iload_n C dX8_through_24 rfl 3 rfl ?_
      obtain ⟨q3, eq3, h⟩ := gb_some h
      refine x_vi (st := []) C kY_X8_may 8 8 rfl rfl rfl (m_X8_may l D cI cZ ad C.2.2.2.2.2.2.1 p0 p2 σ q3 eq3) kl_X8_48 ⟨rfl, rfl⟩ ⟨Nat.le_of_ble_eq_true rfl, Nat.le_of_ble_eq_true rfl⟩ ⟨Nat.zero_le _, Nat.zero_le _⟩ rfl rfl (Nat.le_of_ble_eq_true rfl) dX8_through_25 ?_
      refine x_if_eq C 35 dX8_through_28 (by decide) (fun c4 => ?_) (fun c4 => ?_)
      · have h := (if_pos c4).symm.trans h
        refine x_iconst (v := 0) C dX8_through_35 (by decide) ?_
        exact w_X8_through_36 C hr R0 p0 p1 p2 0 q3.2 h
      · have h := (if_neg c4).symm.trans h
        refine x_iconst (v := 1) C dX8_through_31 (by decide) ?_
        refine x_goto C 36 dX8_through_32 (by decide) ?_
        exact w_X8_through_36 C hr R0 p0 p1 p2 1 q3.2 h
  · have h := (if_pos c1).symm.trans h
    refine x_aload_n C dX8_through_5 rfl 0 rfl ?_
    refine x_iload_n C dX8_through_6 rfl 1 rfl ?_
    refine x_iconst (v := 1) C dX8_through_7 (by decide) ?_
    refine x_iadd C dX8_through_8 ?_
    refine x_iload_n C dX8_through_9 rfl 2 rfl ?_
    obtain ⟨q5, eq5, h⟩ := gb_some h
    refine x_vi (st := []) C kY_X8_bestAt 8 8 rfl rfl rfl (m_X8_bestAt l D cI cZ ad C.2.2.2.2.2.2.1 (p0 + 1) p1 σ q5 eq5) kl_X8_44 ⟨rfl, rfl⟩ ⟨Nat.le_of_ble_eq_true rfl, Nat.le_of_ble_eq_true rfl⟩ ⟨Nat.zero_le _, Nat.zero_le _⟩ rfl rfl (Nat.le_of_ble_eq_true rfl) dX8_through_10 ?_
    exact x_iret C hr dX8_through_13 (Option.some.inj h)
theorem m_X8_through (l : Launch) (D : va_G) (cI cZ : ClassId) (ad : Nat → Nat) (hJ : pv_J ad) (p0 : Int32) (p1 : Int32) (p2 : Int32) (σ : pv_S) (R0 : (Int32 × pv_S)) (h : f_X8_through p0 p1 p2 σ = some R0) : Met l yX8_through (Cond.code yX8_through cX8_through 5 (some .int) :: lwG) r_X8_through (va_Pc [.ref (ad 8), .int p0, .int p1, .int p2] (pv_P D cI cZ ad σ)) (pv_QI D cI cZ ad R0) 0 0 (pv_A ad) := x_met (by decide) rfl hJ (Nat.le_of_ble_eq_true rfl) (fun p e s m args below meth c C hr => w_X8_through_0 C hr R0 p0 p1 p2 σ h)
abbrev r_X8_ones : Room := { frames := 0, cells := 0, slots := 0, locals := 0 }
set_option maxRecDepth 100000 in
set_option maxHeartbeats 4000000 in
theorem w_X8_ones_4 {p : Program} {l : Launch} {e : Env} {s : State} {m : MethodId} {args : Array Value} {below : List Frame} {meth : Method} {c : Code} {D : va_G} {cI cZ : ClassId} {ad : Nat → Nat} (C : pv_C p s m args meth c cX8_ones 3 RX8 D cI cZ ad (pv_A ad)) (hr : meth.sig.returnType = some .int) (R0 : (Int32 × pv_S)) : ∀ (n : Nat) (v0 : Int32) (v1 : Int32) (v2 : Int32) (σ : pv_S), f_X8_ones_4 n v0 v1 v2 σ = some R0 → Wx p l e r_X8_ones s m args below meth c 0 0 (MQ below (pv_QI D cI cZ ad R0) args s 0 0 (pv_A ad)) 3 D cI cZ ad (pv_A ad) 4 [(0, .int v0), (1, .int v1), (2, .int v2)] [] σ := by
  intro n
  induction n with
  | zero =>
    intro v0 v1 v2 σ h
    have h2 : (none : Option (Int32 × pv_S)) = some R0 := h
    cases h2
  | succ n ih =>
    intro v0 v1 v2 σ h
    unfold f_X8_ones_4 at h
    refine x_iload_n C dX8_ones_4 rfl 2 rfl ?_
    refine x_bipush (v := 10) C dX8_ones_5 (by decide) ?_
    refine x_icmp_ge C 24 dX8_ones_7 (by decide) (fun c1 => ?_) (fun c1 => ?_)
    · have h := (if_pos c1).symm.trans h
      refine x_iload_n C dX8_ones_24 rfl 1 rfl ?_
      exact x_iret C hr dX8_ones_25 (Option.some.inj h)
    · have h := (if_neg c1).symm.trans h
      refine x_iload_n C dX8_ones_10 rfl 1 rfl ?_
      refine x_iload_n C dX8_ones_11 rfl 0 rfl ?_
      refine x_iload_n C dX8_ones_12 rfl 2 rfl ?_
      refine x_ishr C dX8_ones_13 ?_
      refine x_iconst (v := 1) C dX8_ones_14 (by decide) ?_
      refine x_iand C dX8_ones_15 ?_
      refine x_iadd C dX8_ones_16 ?_
      refine x_istore_n (lv' := [(1, .int (v1 + ((v0 >>> (v2 &&& 31)) &&& 1))), (0, .int v0), (2, .int v2)]) C dX8_ones_17 rfl (by decide) rfl ?_
      refine x_iinc (v := (v2 + 1)) (lv' := [(2, .int (v2 + 1)), (1, .int (v1 + ((v0 >>> (v2 &&& 31)) &&& 1))), (0, .int v0)]) C 2 dX8_ones_18 rfl rfl (by decide) rfl ?_
      refine x_goto C 4 dX8_ones_21 (by decide) ?_
      refine x_sub [2, 1, 0] rfl ?_
      exact ih v0 (v1 + ((v0 >>> (v2 &&& 31)) &&& 1)) (v2 + 1) σ h
set_option maxRecDepth 100000 in
set_option maxHeartbeats 4000000 in
theorem w_X8_ones_0 {p : Program} {l : Launch} {e : Env} {s : State} {m : MethodId} {args : Array Value} {below : List Frame} {meth : Method} {c : Code} {D : va_G} {cI cZ : ClassId} {ad : Nat → Nat} (C : pv_C p s m args meth c cX8_ones 3 RX8 D cI cZ ad (pv_A ad)) (hr : meth.sig.returnType = some .int) (R0 : (Int32 × pv_S)) (p0 : Int32) (σ : pv_S) (h : f_X8_ones p0 σ = some R0) : Wx p l e r_X8_ones s m args below meth c 0 0 (MQ below (pv_QI D cI cZ ad R0) args s 0 0 (pv_A ad)) 3 D cI cZ ad (pv_A ad) 0 [(0, .int p0)] [] σ := by
  unfold f_X8_ones at h
  refine x_iconst (v := 0) C dX8_ones_0 (by decide) ?_
  refine x_istore_n (lv' := [(1, .int 0), (0, .int p0)]) C dX8_ones_1 rfl (by decide) rfl ?_
  refine x_iconst (v := 0) C dX8_ones_2 (by decide) ?_
  refine x_istore_n (lv' := [(2, .int 0), (1, .int 0), (0, .int p0)]) C dX8_ones_3 rfl (by decide) rfl ?_
  refine x_sub [2, 1, 0] rfl ?_
  exact w_X8_ones_4 C hr R0 pv_FU p0 0 0 σ h
theorem m_X8_ones (l : Launch) (D : va_G) (cI cZ : ClassId) (ad : Nat → Nat) (hJ : pv_J ad) (p0 : Int32) (σ : pv_S) (R0 : (Int32 × pv_S)) (h : f_X8_ones p0 σ = some R0) : Met l yX8_ones (Cond.code yX8_ones cX8_ones 3 (some .int) :: lwG) r_X8_ones (va_Pc [.int p0] (pv_P D cI cZ ad σ)) (pv_QI D cI cZ ad R0) 0 0 (pv_A ad) := x_met (by decide) rfl hJ (Nat.le_of_ble_eq_true rfl) (fun p e s m args below meth c C hr => w_X8_ones_0 C hr R0 p0 σ h)
abbrev r_X8_lay : Room := { frames := 3, cells := 0, slots := 0, locals := 71 }
set_option maxRecDepth 100000 in
set_option maxHeartbeats 4000000 in
theorem w_X8_lay_171 {p : Program} {l : Launch} {e : Env} {s : State} {m : MethodId} {args : Array Value} {below : List Frame} {meth : Method} {c : Code} {D : va_G} {cI cZ : ClassId} {ad : Nat → Nat} (C : pv_C p s m args meth c cX8_lay 9 RX8 D cI cZ ad (pv_A ad)) (hr : meth.sig.returnType = none) (R0 : pv_S) (K57 : Int32 → Int32 → Int32 → pv_S → Option pv_S) (hK57 : ∀ (v2 : Int32) (v3 : Int32) (v4 : Int32) (σ : pv_S), K57 v2 v3 v4 σ = some R0 → Wx p l e r_X8_lay s m args below meth c 0 0 (MQ below (pv_QV D cI cZ ad R0) args s 0 0 (pv_A ad)) 9 D cI cZ ad (pv_A ad) 57 [(0, .ref (ad 8)), (2, .int v2), (3, .int v3), (4, .int v4)] [] σ) (K65 : Int32 → Int32 → Int32 → Int32 → pv_S → Option pv_S) (hK65 : ∀ (v2 : Int32) (v3 : Int32) (v4 : Int32) (v5 : Int32) (σ : pv_S), K65 v2 v3 v4 v5 σ = some R0 → Wx p l e r_X8_lay s m args below meth c 0 0 (MQ below (pv_QV D cI cZ ad R0) args s 0 0 (pv_A ad)) 9 D cI cZ ad (pv_A ad) 65 [(0, .ref (ad 8)), (2, .int v2), (3, .int v3), (4, .int v4), (5, .int v5)] [] σ) (v2 : Int32) (v3 : Int32) (v4 : Int32) (v5 : Int32) (s0 : Int32) (s1 : Int32) (σ : pv_S) (h : f_X8_lay_171 K57 K65 v2 v3 v4 v5 s0 s1 σ = some R0) : Wx p l e r_X8_lay s m args below meth c 0 0 (MQ below (pv_QV D cI cZ ad R0) args s 0 0 (pv_A ad)) 9 D cI cZ ad (pv_A ad) 171 [(0, .ref (ad 8)), (2, .int v2), (3, .int v3), (4, .int v4), (5, .int v5)] [.int s0, .int s1, .ref (ad 26)] σ := by
  unfold f_X8_lay_171 at h
  obtain ⟨g1, h⟩ := gd_some h
  refine xs_17 C g1 dX8_lay_171 ?_
  refine x_iinc (v := (v5 + 1)) (lv' := [(5, .int (v5 + 1)), (0, .ref (ad 8)), (2, .int v2), (3, .int v3), (4, .int v4)]) C 4 dX8_lay_172 rfl rfl (by decide) rfl ?_
  refine x_goto C 65 dX8_lay_175 (by decide) ?_
  refine x_sub [1, 2, 3, 4, 0] rfl ?_
  exact hK65 v2 v3 v4 (v5 + 1) (pv_sa σ 17 s1 s0) h
set_option maxRecDepth 100000 in
set_option maxHeartbeats 4000000 in
theorem w_X8_lay_144 {p : Program} {l : Launch} {e : Env} {s : State} {m : MethodId} {args : Array Value} {below : List Frame} {meth : Method} {c : Code} {D : va_G} {cI cZ : ClassId} {ad : Nat → Nat} (C : pv_C p s m args meth c cX8_lay 9 RX8 D cI cZ ad (pv_A ad)) (hr : meth.sig.returnType = none) (R0 : pv_S) (K57 : Int32 → Int32 → Int32 → pv_S → Option pv_S) (hK57 : ∀ (v2 : Int32) (v3 : Int32) (v4 : Int32) (σ : pv_S), K57 v2 v3 v4 σ = some R0 → Wx p l e r_X8_lay s m args below meth c 0 0 (MQ below (pv_QV D cI cZ ad R0) args s 0 0 (pv_A ad)) 9 D cI cZ ad (pv_A ad) 57 [(0, .ref (ad 8)), (2, .int v2), (3, .int v3), (4, .int v4)] [] σ) (K65 : Int32 → Int32 → Int32 → Int32 → pv_S → Option pv_S) (hK65 : ∀ (v2 : Int32) (v3 : Int32) (v4 : Int32) (v5 : Int32) (σ : pv_S), K65 v2 v3 v4 v5 σ = some R0 → Wx p l e r_X8_lay s m args below meth c 0 0 (MQ below (pv_QV D cI cZ ad R0) args s 0 0 (pv_A ad)) 9 D cI cZ ad (pv_A ad) 65 [(0, .ref (ad 8)), (2, .int v2), (3, .int v3), (4, .int v4), (5, .int v5)] [] σ) (v2 : Int32) (v3 : Int32) (v4 : Int32) (v5 : Int32) (v6 : Int32) (σ : pv_S) (h : f_X8_lay_144 K57 K65 v2 v3 v4 v5 v6 σ = some R0) : Wx p l e r_X8_lay s m args below meth c 0 0 (MQ below (pv_QV D cI cZ ad R0) args s 0 0 (pv_A ad)) 9 D cI cZ ad (pv_A ad) 144 [(0, .ref (ad 8)), (2, .int v2), (3, .int v3), (4, .int v4), (5, .int v5), (6, .int v6)] [] σ := by
  unfold f_X8_lay_144 at h
  refine x_aload_n C dX8_lay_144 rfl 0 rfl ?_
  refine xg_X8_22 C dX8_lay_145 ?_
  refine x_sipush (v := 1024) C dX8_lay_148 (by decide) ?_
  refine x_iload C dX8_lay_151 3 rfl ?_
  refine x_imul C dX8_lay_153 ?_
  refine x_iload C dX8_lay_154 4 rfl ?_
  refine x_iadd C dX8_lay_156 ?_
  refine x_iload C dX8_lay_157 5 rfl ?_
  refine x_ldc C kc_X8_55 dX8_lay_159 ?_
  refine x_icmp_ge C 169 dX8_lay_161 (by decide) (fun c1 => ?_) (fun c1 => ?_)
  · have h := (if_pos c1).symm.trans h
    refine x_ldc C kc_X8_55 dX8_lay_169 ?_
    refine x_sub [0, 1, 2, 3, 4] rfl ?_
    exact w_X8_lay_171 C hr R0 K57 hK57 K65 hK65 v2 v3 v4 v5 1000000 ((1024 * v4) + v5) σ h
  · have h := (if_neg c1).symm.trans h
    refine x_iload C dX8_lay_164 5 rfl ?_
    refine x_goto C 171 dX8_lay_166 (by decide) ?_
    refine x_sub [0, 1, 2, 3, 4] rfl ?_
    exact w_X8_lay_171 C hr R0 K57 hK57 K65 hK65 v2 v3 v4 v5 v6 ((1024 * v4) + v5) σ h
set_option maxRecDepth 100000 in
set_option maxHeartbeats 4000000 in
theorem w_X8_lay_120 {p : Program} {l : Launch} {e : Env} {s : State} {m : MethodId} {args : Array Value} {below : List Frame} {meth : Method} {c : Code} {D : va_G} {cI cZ : ClassId} {ad : Nat → Nat} (C : pv_C p s m args meth c cX8_lay 9 RX8 D cI cZ ad (pv_A ad)) (hr : meth.sig.returnType = none) (R0 : pv_S) (K57 : Int32 → Int32 → Int32 → pv_S → Option pv_S) (hK57 : ∀ (v2 : Int32) (v3 : Int32) (v4 : Int32) (σ : pv_S), K57 v2 v3 v4 σ = some R0 → Wx p l e r_X8_lay s m args below meth c 0 0 (MQ below (pv_QV D cI cZ ad R0) args s 0 0 (pv_A ad)) 9 D cI cZ ad (pv_A ad) 57 [(0, .ref (ad 8)), (2, .int v2), (3, .int v3), (4, .int v4)] [] σ) (K65 : Int32 → Int32 → Int32 → Int32 → pv_S → Option pv_S) (hK65 : ∀ (v2 : Int32) (v3 : Int32) (v4 : Int32) (v5 : Int32) (σ : pv_S), K65 v2 v3 v4 v5 σ = some R0 → Wx p l e r_X8_lay s m args below meth c 0 0 (MQ below (pv_QV D cI cZ ad R0) args s 0 0 (pv_A ad)) 9 D cI cZ ad (pv_A ad) 65 [(0, .ref (ad 8)), (2, .int v2), (3, .int v3), (4, .int v4), (5, .int v5)] [] σ) (K87 : Int32 → Int32 → Int32 → Int32 → Int32 → Int32 → pv_S → Option pv_S) (hK87 : ∀ (v2 : Int32) (v3 : Int32) (v4 : Int32) (v5 : Int32) (v6 : Int32) (v7 : Int32) (σ : pv_S), K87 v2 v3 v4 v5 v6 v7 σ = some R0 → Wx p l e r_X8_lay s m args below meth c 0 0 (MQ below (pv_QV D cI cZ ad R0) args s 0 0 (pv_A ad)) 9 D cI cZ ad (pv_A ad) 87 [(0, .ref (ad 8)), (2, .int v2), (3, .int v3), (4, .int v4), (5, .int v5), (6, .int v6), (7, .int v7)] [] σ) (v2 : Int32) (v3 : Int32) (v4 : Int32) (v5 : Int32) (v6 : Int32) (v7 : Int32) (s0 : Int32) (σ : pv_S) (h : f_X8_lay_120 K57 K65 K87 v2 v3 v4 v5 v6 v7 s0 σ = some R0) : Wx p l e r_X8_lay s m args below meth c 0 0 (MQ below (pv_QV D cI cZ ad R0) args s 0 0 (pv_A ad)) 9 D cI cZ ad (pv_A ad) 120 [(0, .ref (ad 8)), (2, .int v2), (3, .int v3), (4, .int v4), (5, .int v5), (6, .int v6), (7, .int v7)] [.int s0] σ := by
  unfold f_X8_lay_120 at h
  refine x_istore (lv' := [(8, .int s0), (0, .ref (ad 8)), (2, .int v2), (3, .int v3), (4, .int v4), (5, .int v5), (6, .int v6), (7, .int v7)]) C dX8_lay_120 (by decide) rfl ?_
  refine x_iload C dX8_lay_122 0 rfl ?_
  refine x_iload C dX8_lay_124 6 rfl ?_
  refine x_icmp_ge C 134 dX8_lay_126 (by decide) (fun c1 => ?_) (fun c1 => ?_)
  · have h := (if_pos c1).symm.trans h
    refine x_iload C dX8_lay_134 6 rfl ?_
    refine x_istore (lv' := [(6, .int v6), (8, .int s0), (0, .ref (ad 8)), (2, .int v2), (3, .int v3), (4, .int v4), (5, .int v5), (7, .int v7)]) C dX8_lay_136 (by decide) rfl ?_
    refine x_iinc (v := (v7 + 1)) (lv' := [(7, .int (v7 + 1)), (6, .int v6), (8, .int s0), (0, .ref (ad 8)), (2, .int v2), (3, .int v3), (4, .int v4), (5, .int v5)]) C 7 dX8_lay_138 rfl rfl (by decide) rfl ?_
    refine x_goto C 87 dX8_lay_141 (by decide) ?_
    refine x_sub [3, 4, 5, 6, 7, 1, 0] rfl ?_
    exact hK87 v2 v3 v4 v5 v6 (v7 + 1) σ h
  · have h := (if_neg c1).symm.trans h
    refine x_iload C dX8_lay_129 0 rfl ?_
    refine x_goto C 136 dX8_lay_131 (by decide) ?_
    refine x_istore (lv' := [(6, .int s0), (8, .int s0), (0, .ref (ad 8)), (2, .int v2), (3, .int v3), (4, .int v4), (5, .int v5), (7, .int v7)]) C dX8_lay_136 (by decide) rfl ?_
    refine x_iinc (v := (v7 + 1)) (lv' := [(7, .int (v7 + 1)), (6, .int s0), (8, .int s0), (0, .ref (ad 8)), (2, .int v2), (3, .int v3), (4, .int v4), (5, .int v5)]) C 7 dX8_lay_138 rfl rfl (by decide) rfl ?_
    refine x_goto C 87 dX8_lay_141 (by decide) ?_
    refine x_sub [3, 4, 5, 6, 7, 1, 0] rfl ?_
    exact hK87 v2 v3 v4 v5 s0 (v7 + 1) σ h
set_option maxRecDepth 100000 in
set_option maxHeartbeats 4000000 in
theorem w_X8_lay_87 {p : Program} {l : Launch} {e : Env} {s : State} {m : MethodId} {args : Array Value} {below : List Frame} {meth : Method} {c : Code} {D : va_G} {cI cZ : ClassId} {ad : Nat → Nat} (C : pv_C p s m args meth c cX8_lay 9 RX8 D cI cZ ad (pv_A ad)) (hr : meth.sig.returnType = none) (R0 : pv_S) (K57 : Int32 → Int32 → Int32 → pv_S → Option pv_S) (hK57 : ∀ (v2 : Int32) (v3 : Int32) (v4 : Int32) (σ : pv_S), K57 v2 v3 v4 σ = some R0 → Wx p l e r_X8_lay s m args below meth c 0 0 (MQ below (pv_QV D cI cZ ad R0) args s 0 0 (pv_A ad)) 9 D cI cZ ad (pv_A ad) 57 [(0, .ref (ad 8)), (2, .int v2), (3, .int v3), (4, .int v4)] [] σ) (K65 : Int32 → Int32 → Int32 → Int32 → pv_S → Option pv_S) (hK65 : ∀ (v2 : Int32) (v3 : Int32) (v4 : Int32) (v5 : Int32) (σ : pv_S), K65 v2 v3 v4 v5 σ = some R0 → Wx p l e r_X8_lay s m args below meth c 0 0 (MQ below (pv_QV D cI cZ ad R0) args s 0 0 (pv_A ad)) 9 D cI cZ ad (pv_A ad) 65 [(0, .ref (ad 8)), (2, .int v2), (3, .int v3), (4, .int v4), (5, .int v5)] [] σ) : ∀ (n : Nat) (v2 : Int32) (v3 : Int32) (v4 : Int32) (v5 : Int32) (v6 : Int32) (v7 : Int32) (σ : pv_S), f_X8_lay_87 K57 K65 n v2 v3 v4 v5 v6 v7 σ = some R0 → Wx p l e r_X8_lay s m args below meth c 0 0 (MQ below (pv_QV D cI cZ ad R0) args s 0 0 (pv_A ad)) 9 D cI cZ ad (pv_A ad) 87 [(0, .ref (ad 8)), (2, .int v2), (3, .int v3), (4, .int v4), (5, .int v5), (6, .int v6), (7, .int v7)] [] σ := by
  intro n
  induction n with
  | zero =>
    intro v2 v3 v4 v5 v6 v7 σ h
    have h2 : (none : Option pv_S) = some R0 := h
    cases h2
  | succ n ih =>
    intro v2 v3 v4 v5 v6 v7 σ h
    unfold f_X8_lay_87 at h
    refine x_iload C dX8_lay_87 6 rfl ?_
    refine x_iload_n C dX8_lay_89 rfl 2 rfl ?_
    refine x_icmp_ge C 144 dX8_lay_90 (by decide) (fun c1 => ?_) (fun c1 => ?_)
    · have h := (if_pos c1).symm.trans h
      refine x_sub [0, 1, 2, 3, 4, 5] rfl ?_
      exact w_X8_lay_144 C hr R0 K57 hK57 K65 hK65 v2 v3 v4 v5 v6 σ h
    · have h := (if_neg c1).symm.trans h
      refine x_iload C dX8_lay_93 3 rfl ?_
      refine x_iload_n C dX8_lay_95 rfl 1 rfl ?_
      refine x_icmp_eq C 144 dX8_lay_96 (by decide) (fun c2 => ?_) (fun c2 => ?_)
      · have h := (if_pos c2).symm.trans h
        refine x_sub [0, 1, 2, 3, 4, 5] rfl ?_
        exact w_X8_lay_144 C hr R0 K57 hK57 K65 hK65 v2 v3 v4 v5 v6 σ h
      · have h := (if_neg c2).symm.trans h
        refine x_iload C dX8_lay_99 6 rfl ?_
        refine x_iload_n C dX8_lay_101 rfl 1 rfl ?_
        refine x_icmp_ne C 110 dX8_lay_102 (by decide) (fun c3 => ?_) (fun c3 => ?_)
        · have h := (if_neg c3).symm.trans h
          refine x_aload_n C dX8_lay_110 rfl 0 rfl ?_
          refine x_iload C dX8_lay_111 3 rfl ?_
          refine x_iload C dX8_lay_113 4 rfl ?_
          refine x_iload C dX8_lay_115 6 rfl ?_
          obtain ⟨q4, eq4, h⟩ := gb_some h
          refine x_vi (st := []) C kY_X8_through 8 8 rfl rfl rfl (m_X8_through l D cI cZ ad C.2.2.2.2.2.2.1 v4 v5 v7 σ q4 eq4) kl_X8_59 ⟨rfl, rfl⟩ ⟨Nat.le_of_ble_eq_true rfl, Nat.le_of_ble_eq_true rfl⟩ ⟨Nat.zero_le _, Nat.zero_le _⟩ rfl rfl (Nat.le_of_ble_eq_true rfl) dX8_lay_117 ?_
          exact w_X8_lay_120 C hr R0 K57 hK57 K65 hK65 (f_X8_lay_87 K57 K65 n) ih v2 v3 v4 v5 v6 v7 q4.1 q4.2 h
        · have h := (if_pos c3).symm.trans h
          refine x_ldc C kc_X8_55 dX8_lay_105 ?_
          refine x_goto C 120 dX8_lay_107 (by decide) ?_
          exact w_X8_lay_120 C hr R0 K57 hK57 K65 hK65 (f_X8_lay_87 K57 K65 n) ih v2 v3 v4 v5 v6 v7 1000000 σ h
set_option maxRecDepth 100000 in
set_option maxHeartbeats 4000000 in
theorem w_X8_lay_65 {p : Program} {l : Launch} {e : Env} {s : State} {m : MethodId} {args : Array Value} {below : List Frame} {meth : Method} {c : Code} {D : va_G} {cI cZ : ClassId} {ad : Nat → Nat} (C : pv_C p s m args meth c cX8_lay 9 RX8 D cI cZ ad (pv_A ad)) (hr : meth.sig.returnType = none) (R0 : pv_S) (K57 : Int32 → Int32 → Int32 → pv_S → Option pv_S) (hK57 : ∀ (v2 : Int32) (v3 : Int32) (v4 : Int32) (σ : pv_S), K57 v2 v3 v4 σ = some R0 → Wx p l e r_X8_lay s m args below meth c 0 0 (MQ below (pv_QV D cI cZ ad R0) args s 0 0 (pv_A ad)) 9 D cI cZ ad (pv_A ad) 57 [(0, .ref (ad 8)), (2, .int v2), (3, .int v3), (4, .int v4)] [] σ) : ∀ (n : Nat) (v2 : Int32) (v3 : Int32) (v4 : Int32) (v5 : Int32) (σ : pv_S), f_X8_lay_65 K57 n v2 v3 v4 v5 σ = some R0 → Wx p l e r_X8_lay s m args below meth c 0 0 (MQ below (pv_QV D cI cZ ad R0) args s 0 0 (pv_A ad)) 9 D cI cZ ad (pv_A ad) 65 [(0, .ref (ad 8)), (2, .int v2), (3, .int v3), (4, .int v4), (5, .int v5)] [] σ := by
  intro n
  induction n with
  | zero =>
    intro v2 v3 v4 v5 σ h
    have h2 : (none : Option pv_S) = some R0 := h
    cases h2
  | succ n ih =>
    intro v2 v3 v4 v5 σ h
    unfold f_X8_lay_65 at h
    refine x_iload C dX8_lay_65 4 rfl ?_
    refine x_iconst (v := 1) C dX8_lay_67 (by decide) ?_
    refine x_iload_n C dX8_lay_68 rfl 2 rfl ?_
    refine x_ishl C dX8_lay_69 ?_
    refine x_icmp_ge C 178 dX8_lay_70 (by decide) (fun c1 => ?_) (fun c1 => ?_)
    · have h := (if_pos c1).symm.trans h
      refine x_iinc (v := (v4 + (-1))) (lv' := [(4, .int (v4 + (-1))), (0, .ref (ad 8)), (2, .int v2), (3, .int v3), (5, .int v5)]) C 3 dX8_lay_178 rfl rfl (by decide) rfl ?_
      refine x_goto C 57 dX8_lay_181 (by decide) ?_
      refine x_sub [1, 2, 3, 0] rfl ?_
      exact hK57 v2 v3 (v4 + (-1)) σ h
    · have h := (if_neg c1).symm.trans h
      refine x_aload_n C dX8_lay_73 rfl 0 rfl ?_
      refine x_iload C dX8_lay_74 3 rfl ?_
      refine x_iload C dX8_lay_76 4 rfl ?_
      refine x_iconst (v := (-1)) C dX8_lay_78 (by decide) ?_
      obtain ⟨q2, eq2, h⟩ := gb_some h
      refine x_vi (st := []) C kY_X8_through 8 8 rfl rfl rfl (m_X8_through l D cI cZ ad C.2.2.2.2.2.2.1 v4 v5 (-1) σ q2 eq2) kl_X8_59 ⟨rfl, rfl⟩ ⟨Nat.le_of_ble_eq_true rfl, Nat.le_of_ble_eq_true rfl⟩ ⟨Nat.zero_le _, Nat.zero_le _⟩ rfl rfl (Nat.le_of_ble_eq_true rfl) dX8_lay_79 ?_
      refine x_istore (lv' := [(6, .int q2.1), (0, .ref (ad 8)), (2, .int v2), (3, .int v3), (4, .int v4), (5, .int v5)]) C dX8_lay_82 (by decide) rfl ?_
      refine x_iconst (v := 0) C dX8_lay_84 (by decide) ?_
      refine x_istore (lv' := [(7, .int 0), (6, .int q2.1), (0, .ref (ad 8)), (2, .int v2), (3, .int v3), (4, .int v4), (5, .int v5)]) C dX8_lay_85 (by decide) rfl ?_
      refine x_sub [2, 3, 4, 5, 6, 1, 0] rfl ?_
      exact w_X8_lay_87 C hr R0 K57 hK57 (f_X8_lay_65 K57 n) ih pv_FU v2 v3 v4 v5 q2.1 0 q2.2 h
set_option maxRecDepth 100000 in
set_option maxHeartbeats 4000000 in
theorem w_X8_lay_57 {p : Program} {l : Launch} {e : Env} {s : State} {m : MethodId} {args : Array Value} {below : List Frame} {meth : Method} {c : Code} {D : va_G} {cI cZ : ClassId} {ad : Nat → Nat} (C : pv_C p s m args meth c cX8_lay 9 RX8 D cI cZ ad (pv_A ad)) (hr : meth.sig.returnType = none) (R0 : pv_S) : ∀ (n : Nat) (v2 : Int32) (v3 : Int32) (v4 : Int32) (σ : pv_S), f_X8_lay_57 n v2 v3 v4 σ = some R0 → Wx p l e r_X8_lay s m args below meth c 0 0 (MQ below (pv_QV D cI cZ ad R0) args s 0 0 (pv_A ad)) 9 D cI cZ ad (pv_A ad) 57 [(0, .ref (ad 8)), (2, .int v2), (3, .int v3), (4, .int v4)] [] σ := by
  intro n
  induction n with
  | zero =>
    intro v2 v3 v4 σ h
    have h2 : (none : Option pv_S) = some R0 := h
    cases h2
  | succ n ih =>
    intro v2 v3 v4 σ h
    unfold f_X8_lay_57 at h
    refine x_iload C dX8_lay_57 3 rfl ?_
    refine x_if_lt C 184 dX8_lay_59 (by decide) (fun c1 => ?_) (fun c1 => ?_)
    · have h := (if_pos c1).symm.trans h
      exact x_vret C hr dX8_lay_184 (Option.some.inj h)
    · have h := (if_neg c1).symm.trans h
      refine x_iconst (v := 0) C dX8_lay_62 (by decide) ?_
      refine x_istore (lv' := [(5, .int 0), (0, .ref (ad 8)), (2, .int v2), (3, .int v3), (4, .int v4)]) C dX8_lay_63 (by decide) rfl ?_
      refine x_sub [1, 2, 3, 4, 0] rfl ?_
      exact w_X8_lay_65 C hr R0 (f_X8_lay_57 n) ih pv_FU v2 v3 v4 0 σ h
set_option maxRecDepth 100000 in
set_option maxHeartbeats 4000000 in
theorem w_X8_lay_45 {p : Program} {l : Launch} {e : Env} {s : State} {m : MethodId} {args : Array Value} {below : List Frame} {meth : Method} {c : Code} {D : va_G} {cI cZ : ClassId} {ad : Nat → Nat} (C : pv_C p s m args meth c cX8_lay 9 RX8 D cI cZ ad (pv_A ad)) (hr : meth.sig.returnType = none) (R0 : pv_S) (K10 : Int32 → Int32 → Int32 → Int32 → pv_S → Option pv_S) (hK10 : ∀ (v1 : Int32) (v2 : Int32) (v3 : Int32) (v4 : Int32) (σ : pv_S), K10 v1 v2 v3 v4 σ = some R0 → Wx p l e r_X8_lay s m args below meth c 0 0 (MQ below (pv_QV D cI cZ ad R0) args s 0 0 (pv_A ad)) 9 D cI cZ ad (pv_A ad) 10 [(0, .ref (ad 8)), (1, .int v1), (2, .int v2), (3, .int v3), (4, .int v4)] [] σ) (v1 : Int32) (v2 : Int32) (v3 : Int32) (v4 : Int32) (s0 : Int32) (s1 : Int32) (σ : pv_S) (h : f_X8_lay_45 K10 v1 v2 v3 v4 s0 s1 σ = some R0) : Wx p l e r_X8_lay s m args below meth c 0 0 (MQ below (pv_QV D cI cZ ad R0) args s 0 0 (pv_A ad)) 9 D cI cZ ad (pv_A ad) 45 [(0, .ref (ad 8)), (1, .int v1), (2, .int v2), (3, .int v3), (4, .int v4)] [.int s0, .int s1, .ref (ad 26)] σ := by
  unfold f_X8_lay_45 at h
  obtain ⟨g1, h⟩ := gd_some h
  refine xs_17 C g1 dX8_lay_45 ?_
  refine x_iinc (v := (v4 + 1)) (lv' := [(4, .int (v4 + 1)), (0, .ref (ad 8)), (1, .int v1), (2, .int v2), (3, .int v3)]) C 4 dX8_lay_46 rfl rfl (by decide) rfl ?_
  refine x_goto C 10 dX8_lay_49 (by decide) ?_
  refine x_sub [1, 2, 3, 4, 0] rfl ?_
  exact hK10 v1 v2 v3 (v4 + 1) (pv_sa σ 17 s1 s0) h
set_option maxRecDepth 100000 in
set_option maxHeartbeats 4000000 in
theorem w_X8_lay_10 {p : Program} {l : Launch} {e : Env} {s : State} {m : MethodId} {args : Array Value} {below : List Frame} {meth : Method} {c : Code} {D : va_G} {cI cZ : ClassId} {ad : Nat → Nat} (C : pv_C p s m args meth c cX8_lay 9 RX8 D cI cZ ad (pv_A ad)) (hr : meth.sig.returnType = none) (R0 : pv_S) : ∀ (n : Nat) (v1 : Int32) (v2 : Int32) (v3 : Int32) (v4 : Int32) (σ : pv_S), f_X8_lay_10 n v1 v2 v3 v4 σ = some R0 → Wx p l e r_X8_lay s m args below meth c 0 0 (MQ below (pv_QV D cI cZ ad R0) args s 0 0 (pv_A ad)) 9 D cI cZ ad (pv_A ad) 10 [(0, .ref (ad 8)), (1, .int v1), (2, .int v2), (3, .int v3), (4, .int v4)] [] σ := by
  intro n
  induction n with
  | zero =>
    intro v1 v2 v3 v4 σ h
    have h2 : (none : Option pv_S) = some R0 := h
    cases h2
  | succ n ih =>
    intro v1 v2 v3 v4 σ h
    unfold f_X8_lay_10 at h
    refine x_iload C dX8_lay_10 4 rfl ?_
    refine x_iconst (v := 1) C dX8_lay_12 (by decide) ?_
    refine x_iload_n C dX8_lay_13 rfl 3 rfl ?_
    refine x_ishl C dX8_lay_14 ?_
    refine x_icmp_ge C 52 dX8_lay_15 (by decide) (fun c1 => ?_) (fun c1 => ?_)
    · have h := (if_pos c1).symm.trans h
      refine x_iload_n C dX8_lay_52 rfl 3 rfl ?_
      refine x_iconst (v := 1) C dX8_lay_53 (by decide) ?_
      refine x_isub C dX8_lay_54 ?_
      refine x_istore (lv' := [(4, .int (v3 - 1)), (0, .ref (ad 8)), (1, .int v1), (2, .int v2), (3, .int v3)]) C dX8_lay_55 (by decide) rfl ?_
      refine x_sub [1, 3, 4, 0] rfl ?_
      exact w_X8_lay_57 C hr R0 pv_FU v2 v3 (v3 - 1) σ h
    · have h := (if_neg c1).symm.trans h
      refine x_aload_n C dX8_lay_18 rfl 0 rfl ?_
      refine xg_X8_22 C dX8_lay_19 ?_
      refine x_sipush (v := 1024) C dX8_lay_22 (by decide) ?_
      refine x_iload_n C dX8_lay_25 rfl 3 rfl ?_
      refine x_imul C dX8_lay_26 ?_
      refine x_iload C dX8_lay_27 4 rfl ?_
      refine x_iadd C dX8_lay_29 ?_
      refine x_iload C dX8_lay_30 4 rfl ?_
      obtain ⟨q2, eq2, h⟩ := gb_some h
      refine x_si (st := [.int ((1024 * v3) + v4), .ref (ad 26)]) C kY_X8_ones (m_X8_ones l D cI cZ ad C.2.2.2.2.2.2.1 v4 σ q2 eq2) kl_X8_56 ⟨rfl, rfl⟩ ⟨Nat.le_of_ble_eq_true rfl, Nat.le_of_ble_eq_true rfl⟩ ⟨Nat.zero_le _, Nat.zero_le _⟩ rfl rfl (Nat.le_of_ble_eq_true rfl) dX8_lay_32 ?_
      refine x_iload_n C dX8_lay_35 rfl 1 rfl ?_
      refine x_icmp_ne C 43 dX8_lay_36 (by decide) (fun c3 => ?_) (fun c3 => ?_)
      · have h := (if_neg c3).symm.trans h
        refine x_ldc C kc_X8_55 dX8_lay_43 ?_
        exact w_X8_lay_45 C hr R0 (f_X8_lay_10 n) ih v1 v2 v3 v4 1000000 ((1024 * v3) + v4) q2.2 h
      · have h := (if_pos c3).symm.trans h
        refine x_iconst (v := 0) C dX8_lay_39 (by decide) ?_
        refine x_goto C 45 dX8_lay_40 (by decide) ?_
        exact w_X8_lay_45 C hr R0 (f_X8_lay_10 n) ih v1 v2 v3 v4 0 ((1024 * v3) + v4) q2.2 h
set_option maxRecDepth 100000 in
set_option maxHeartbeats 4000000 in
theorem w_X8_lay_0 {p : Program} {l : Launch} {e : Env} {s : State} {m : MethodId} {args : Array Value} {below : List Frame} {meth : Method} {c : Code} {D : va_G} {cI cZ : ClassId} {ad : Nat → Nat} (C : pv_C p s m args meth c cX8_lay 9 RX8 D cI cZ ad (pv_A ad)) (hr : meth.sig.returnType = none) (R0 : pv_S) (p0 : Int32) (p1 : Int32) (σ : pv_S) (h : f_X8_lay p0 p1 σ = some R0) : Wx p l e r_X8_lay s m args below meth c 0 0 (MQ below (pv_QV D cI cZ ad R0) args s 0 0 (pv_A ad)) 9 D cI cZ ad (pv_A ad) 0 [(0, .ref (ad 8)), (1, .int p0), (2, .int p1)] [] σ := by
  unfold f_X8_lay at h
  refine x_aload_n C dX8_lay_0 rfl 0 rfl ?_
  refine xg_X8_7 C dX8_lay_1 ?_
  refine x_iconst (v := 0) C dX8_lay_4 (by decide) ?_
  obtain ⟨g1, h⟩ := gd_some h
  refine xl_13 C g1 dX8_lay_5 ?_
  refine x_istore_n (lv' := [(3, .int (pv_la σ 13 0)), (0, .ref (ad 8)), (1, .int p0), (2, .int p1)]) C dX8_lay_6 rfl (by decide) rfl ?_
  refine x_iconst (v := 0) C dX8_lay_7 (by decide) ?_
  refine x_istore (lv' := [(4, .int 0), (3, .int (pv_la σ 13 0)), (0, .ref (ad 8)), (1, .int p0), (2, .int p1)]) C dX8_lay_8 (by decide) rfl ?_
  refine x_sub [2, 3, 4, 1, 0] rfl ?_
  exact w_X8_lay_10 C hr R0 pv_FU p0 p1 (pv_la σ 13 0) 0 σ h
theorem m_X8_lay (l : Launch) (D : va_G) (cI cZ : ClassId) (ad : Nat → Nat) (hJ : pv_J ad) (p0 : Int32) (p1 : Int32) (σ : pv_S) (R0 : pv_S) (h : f_X8_lay p0 p1 σ = some R0) : Met l yX8_lay (Cond.code yX8_lay cX8_lay 9 (none) :: lwG) r_X8_lay (va_Pc [.ref (ad 8), .int p0, .int p1] (pv_P D cI cZ ad σ)) (pv_QV D cI cZ ad R0) 0 0 (pv_A ad) := x_met (by decide) rfl hJ (Nat.le_of_ble_eq_true rfl) (fun p e s m args below meth c C hr => w_X8_lay_0 C hr R0 p0 p1 σ h)
abbrev r_X8_leastOf : Room := { frames := 4, cells := 0, slots := 0, locals := 99 }
set_option maxRecDepth 100000 in
set_option maxHeartbeats 4000000 in
theorem w_X8_leastOf_28 {p : Program} {l : Launch} {e : Env} {s : State} {m : MethodId} {args : Array Value} {below : List Frame} {meth : Method} {c : Code} {D : va_G} {cI cZ : ClassId} {ad : Nat → Nat} (C : pv_C p s m args meth c cX8_leastOf 4 RX8 D cI cZ ad (pv_A ad)) (hr : meth.sig.returnType = some .int) (R0 : (Int32 × pv_S)) (v1 : Int32) (v2 : Int32) (v3 : Int32) (s0 : Int64) (s1 : Int64) (σ : pv_S) (h : f_X8_leastOf_28 v1 v2 v3 s0 s1 σ = some R0) : Wx p l e r_X8_leastOf s m args below meth c 0 0 (MQ below (pv_QI D cI cZ ad R0) args s 0 0 (pv_A ad)) 4 D cI cZ ad (pv_A ad) 28 [(0, .ref (ad 8)), (1, .int v1), (2, .int v2), (3, .int v3)] [.long s0, .long s1] σ := by
  unfold f_X8_leastOf_28 at h
  refine x_iload_n C dX8_leastOf_28 rfl 3 rfl ?_
  refine x_i2l C dX8_leastOf_29 ?_
  obtain ⟨q1, eq1, h⟩ := gb_some h
  refine x_si (st := []) C kY_X8_in (m_X8_in l D cI cZ ad C.2.2.2.2.2.2.1 s1 s0 v3.toInt64 σ q1 eq1) kl_X8_40 ⟨rfl, rfl⟩ ⟨Nat.le_of_ble_eq_true rfl, Nat.le_of_ble_eq_true rfl⟩ ⟨Nat.zero_le _, Nat.zero_le _⟩ rfl rfl (Nat.le_of_ble_eq_true rfl) dX8_leastOf_30 ?_
  refine x_if_ne C 38 dX8_leastOf_33 (by decide) (fun c2 => ?_) (fun c2 => ?_)
  · have h := (if_neg c2).symm.trans h
    refine x_aload_n C dX8_leastOf_38 rfl 0 rfl ?_
    refine x_iload_n C dX8_leastOf_39 rfl 3 rfl ?_
    refine x_iload_n C dX8_leastOf_40 rfl 1 rfl ?_
    refine x_isub C dX8_leastOf_41 ?_
    refine x_iload_n C dX8_leastOf_42 rfl 2 rfl ?_
    obtain ⟨q3, eq3, h⟩ := gb_some h
    refine x_vv (st := []) C kY_X8_lay 8 8 rfl rfl rfl (m_X8_lay l D cI cZ ad C.2.2.2.2.2.2.1 (v3 - v1) v2 q1.2 q3 eq3) kl_X8_63 ⟨rfl, rfl⟩ ⟨Nat.le_of_ble_eq_true rfl, Nat.le_of_ble_eq_true rfl⟩ ⟨Nat.zero_le _, Nat.zero_le _⟩ rfl rfl (Nat.le_of_ble_eq_true rfl) dX8_leastOf_43 ?_
    refine x_aload_n C dX8_leastOf_46 rfl 0 rfl ?_
    refine x_iconst (v := 0) C dX8_leastOf_47 (by decide) ?_
    refine x_iconst (v := 0) C dX8_leastOf_48 (by decide) ?_
    obtain ⟨q4, eq4, h⟩ := gb_some h
    refine x_vi (st := []) C kY_X8_bestAt 8 8 rfl rfl rfl (m_X8_bestAt l D cI cZ ad C.2.2.2.2.2.2.1 0 0 q3 q4 eq4) kl_X8_44 ⟨rfl, rfl⟩ ⟨Nat.le_of_ble_eq_true rfl, Nat.le_of_ble_eq_true rfl⟩ ⟨Nat.zero_le _, Nat.zero_le _⟩ rfl rfl (Nat.le_of_ble_eq_true rfl) dX8_leastOf_49 ?_
    refine x_ldc C kc_X8_55 dX8_leastOf_52 ?_
    refine x_icmp_ge C 75 dX8_leastOf_54 (by decide) (fun c5 => ?_) (fun c5 => ?_)
    · have h := (if_pos c5).symm.trans h
      refine x_iconst (v := (-1)) C dX8_leastOf_75 (by decide) ?_
      exact x_iret C hr dX8_leastOf_76 (Option.some.inj h)
    · have h := (if_neg c5).symm.trans h
      refine x_aload_n C dX8_leastOf_57 rfl 0 rfl ?_
      refine x_iconst (v := 0) C dX8_leastOf_58 (by decide) ?_
      refine x_iconst (v := 0) C dX8_leastOf_59 (by decide) ?_
      obtain ⟨q6, eq6, h⟩ := gb_some h
      refine x_vi (st := []) C kY_X8_bestAt 8 8 rfl rfl rfl (m_X8_bestAt l D cI cZ ad C.2.2.2.2.2.2.1 0 0 q4.2 q6 eq6) kl_X8_44 ⟨rfl, rfl⟩ ⟨Nat.le_of_ble_eq_true rfl, Nat.le_of_ble_eq_true rfl⟩ ⟨Nat.zero_le _, Nat.zero_le _⟩ rfl rfl (Nat.le_of_ble_eq_true rfl) dX8_leastOf_60 ?_
      refine x_iload_n C dX8_leastOf_63 rfl 1 rfl ?_
      refine x_aload_n C dX8_leastOf_64 rfl 0 rfl ?_
      refine xg_X8_7 C dX8_leastOf_65 ?_
      refine x_iconst (v := 4) C dX8_leastOf_68 (by decide) ?_
      obtain ⟨g7, h⟩ := gd_some h
      refine xl_13 C g7 dX8_leastOf_69 ?_
      refine x_imul C dX8_leastOf_70 ?_
      refine x_iadd C dX8_leastOf_71 ?_
      refine x_goto C 76 dX8_leastOf_72 (by decide) ?_
      exact x_iret C hr dX8_leastOf_76 (Option.some.inj h)
  · have h := (if_pos c2).symm.trans h
    refine x_iconst (v := (-1)) C dX8_leastOf_36 (by decide) ?_
    exact x_iret C hr dX8_leastOf_37 (Option.some.inj h)
set_option maxRecDepth 100000 in
set_option maxHeartbeats 4000000 in
theorem w_X8_leastOf_15 {p : Program} {l : Launch} {e : Env} {s : State} {m : MethodId} {args : Array Value} {below : List Frame} {meth : Method} {c : Code} {D : va_G} {cI cZ : ClassId} {ad : Nat → Nat} (C : pv_C p s m args meth c cX8_leastOf 4 RX8 D cI cZ ad (pv_A ad)) (hr : meth.sig.returnType = some .int) (R0 : (Int32 × pv_S)) (v1 : Int32) (v2 : Int32) (s0 : Int32) (s1 : Int32) (σ : pv_S) (h : f_X8_leastOf_15 v1 v2 s0 s1 σ = some R0) : Wx p l e r_X8_leastOf s m args below meth c 0 0 (MQ below (pv_QI D cI cZ ad R0) args s 0 0 (pv_A ad)) 4 D cI cZ ad (pv_A ad) 15 [(0, .ref (ad 8)), (1, .int v1), (2, .int v2)] [.int s0, .int s1] σ := by
  unfold f_X8_leastOf_15 at h
  refine x_isub C dX8_leastOf_15 ?_
  refine x_istore_n (lv' := [(3, .int (s1 - s0)), (0, .ref (ad 8)), (1, .int v1), (2, .int v2)]) C dX8_leastOf_16 rfl (by decide) rfl ?_
  refine x_iload_n C dX8_leastOf_17 rfl 2 rfl ?_
  refine x_i2l C dX8_leastOf_18 ?_
  refine x_iload_n C dX8_leastOf_19 rfl 0 rfl ?_
  refine x_if_le C 27 dX8_leastOf_20 (by decide) (fun c1 => ?_) (fun c1 => ?_)
  · have h := (if_pos c1).symm.trans h
    refine x_lconst (v := 0) C dX8_leastOf_27 (by decide) ?_
    refine x_sub [1, 2, 3, 0] rfl ?_
    exact w_X8_leastOf_28 C hr R0 v1 v2 (s1 - s0) 0 v1.toInt64 σ h
  · have h := (if_neg c1).symm.trans h
    refine x_lconst (v := 1) C dX8_leastOf_23 (by decide) ?_
    refine x_goto C 28 dX8_leastOf_24 (by decide) ?_
    refine x_sub [1, 2, 3, 0] rfl ?_
    exact w_X8_leastOf_28 C hr R0 v1 v2 (s1 - s0) 1 v1.toInt64 σ h
set_option maxRecDepth 100000 in
set_option maxHeartbeats 4000000 in
theorem w_X8_leastOf_0 {p : Program} {l : Launch} {e : Env} {s : State} {m : MethodId} {args : Array Value} {below : List Frame} {meth : Method} {c : Code} {D : va_G} {cI cZ : ClassId} {ad : Nat → Nat} (C : pv_C p s m args meth c cX8_leastOf 4 RX8 D cI cZ ad (pv_A ad)) (hr : meth.sig.returnType = some .int) (R0 : (Int32 × pv_S)) (p0 : Int32) (p1 : Int32) (σ : pv_S) (h : f_X8_leastOf p0 p1 σ = some R0) : Wx p l e r_X8_leastOf s m args below meth c 0 0 (MQ below (pv_QI D cI cZ ad R0) args s 0 0 (pv_A ad)) 4 D cI cZ ad (pv_A ad) 0 [(0, .ref (ad 8)), (1, .int p0), (2, .int p1)] [] σ := by
  unfold f_X8_leastOf at h
  refine x_aload_n C dX8_leastOf_0 rfl 0 rfl ?_
  refine xg_X8_7 C dX8_leastOf_1 ?_
  refine x_iconst (v := 0) C dX8_leastOf_4 (by decide) ?_
  obtain ⟨g1, h⟩ := gd_some h
  refine xl_13 C g1 dX8_leastOf_5 ?_
  refine x_iload_n C dX8_leastOf_6 rfl 2 rfl ?_
  refine x_if_ge C 14 dX8_leastOf_7 (by decide) (fun c2 => ?_) (fun c2 => ?_)
  · have h := (if_pos c2).symm.trans h
    refine x_iconst (v := 1) C dX8_leastOf_14 (by decide) ?_
    exact w_X8_leastOf_15 C hr R0 p0 p1 1 (pv_la σ 13 0) σ h
  · have h := (if_neg c2).symm.trans h
    refine x_iconst (v := 0) C dX8_leastOf_10 (by decide) ?_
    refine x_goto C 15 dX8_leastOf_11 (by decide) ?_
    exact w_X8_leastOf_15 C hr R0 p0 p1 0 (pv_la σ 13 0) σ h
theorem m_X8_leastOf (l : Launch) (D : va_G) (cI cZ : ClassId) (ad : Nat → Nat) (hJ : pv_J ad) (p0 : Int32) (p1 : Int32) (σ : pv_S) (R0 : (Int32 × pv_S)) (h : f_X8_leastOf p0 p1 σ = some R0) : Met l yX8_leastOf (Cond.code yX8_leastOf cX8_leastOf 4 (some .int) :: lwG) r_X8_leastOf (va_Pc [.ref (ad 8), .int p0, .int p1] (pv_P D cI cZ ad σ)) (pv_QI D cI cZ ad R0) 0 0 (pv_A ad) := x_met (by decide) rfl hJ (Nat.le_of_ble_eq_true rfl) (fun p e s m args below meth c C hr => w_X8_leastOf_0 C hr R0 p0 p1 σ h)
abbrev r_X8_fewest : Room := { frames := 5, cells := 0, slots := 0, locals := 122 }
set_option maxRecDepth 100000 in
set_option maxHeartbeats 4000000 in
theorem w_X8_fewest_2 {p : Program} {l : Launch} {e : Env} {s : State} {m : MethodId} {args : Array Value} {below : List Frame} {meth : Method} {c : Code} {D : va_G} {cI cZ : ClassId} {ad : Nat → Nat} (C : pv_C p s m args meth c cX8_fewest 2 RX8 D cI cZ ad (pv_A ad)) (hr : meth.sig.returnType = some .int) (R0 : (Int32 × pv_S)) : ∀ (n : Nat) (v1 : Int32) (σ : pv_S), f_X8_fewest_2 n v1 σ = some R0 → Wx p l e r_X8_fewest s m args below meth c 0 0 (MQ below (pv_QI D cI cZ ad R0) args s 0 0 (pv_A ad)) 2 D cI cZ ad (pv_A ad) 2 [(0, .ref (ad 8)), (1, .int v1)] [] σ := by
  intro n
  induction n with
  | zero =>
    intro v1 σ h
    have h2 : (none : Option (Int32 × pv_S)) = some R0 := h
    cases h2
  | succ n ih =>
    intro v1 σ h
    unfold f_X8_fewest_2 at h
    refine x_aload_n C dX8_fewest_2 rfl 0 rfl ?_
    refine x_iload_n C dX8_fewest_3 rfl 1 rfl ?_
    refine x_iconst (v := (-1)) C dX8_fewest_4 (by decide) ?_
    obtain ⟨q1, eq1, h⟩ := gb_some h
    refine x_vi (st := []) C kY_X8_leastOf 8 8 rfl rfl rfl (m_X8_leastOf l D cI cZ ad C.2.2.2.2.2.2.1 v1 (-1) σ q1 eq1) kl_X8_66 ⟨rfl, rfl⟩ ⟨Nat.le_of_ble_eq_true rfl, Nat.le_of_ble_eq_true rfl⟩ ⟨Nat.zero_le _, Nat.zero_le _⟩ rfl rfl (Nat.le_of_ble_eq_true rfl) dX8_fewest_5 ?_
    refine x_if_ge C 17 dX8_fewest_8 (by decide) (fun c2 => ?_) (fun c2 => ?_)
    · have h := (if_pos c2).symm.trans h
      refine x_iload_n C dX8_fewest_17 rfl 1 rfl ?_
      exact x_iret C hr dX8_fewest_18 (Option.some.inj h)
    · have h := (if_neg c2).symm.trans h
      refine x_iinc (v := (v1 + 1)) (lv' := [(1, .int (v1 + 1)), (0, .ref (ad 8))]) C 1 dX8_fewest_11 rfl rfl (by decide) rfl ?_
      refine x_goto C 2 dX8_fewest_14 (by decide) ?_
      refine x_sub [1, 0] rfl ?_
      exact ih (v1 + 1) q1.2 h
set_option maxRecDepth 100000 in
set_option maxHeartbeats 4000000 in
theorem w_X8_fewest_0 {p : Program} {l : Launch} {e : Env} {s : State} {m : MethodId} {args : Array Value} {below : List Frame} {meth : Method} {c : Code} {D : va_G} {cI cZ : ClassId} {ad : Nat → Nat} (C : pv_C p s m args meth c cX8_fewest 2 RX8 D cI cZ ad (pv_A ad)) (hr : meth.sig.returnType = some .int) (R0 : (Int32 × pv_S)) (σ : pv_S) (h : f_X8_fewest σ = some R0) : Wx p l e r_X8_fewest s m args below meth c 0 0 (MQ below (pv_QI D cI cZ ad R0) args s 0 0 (pv_A ad)) 2 D cI cZ ad (pv_A ad) 0 [(0, .ref (ad 8))] [] σ := by
  unfold f_X8_fewest at h
  refine x_iconst (v := 0) C dX8_fewest_0 (by decide) ?_
  refine x_istore_n (lv' := [(1, .int 0), (0, .ref (ad 8))]) C dX8_fewest_1 rfl (by decide) rfl ?_
  refine x_sub [1, 0] rfl ?_
  exact w_X8_fewest_2 C hr R0 pv_FU 0 σ h
theorem m_X8_fewest (l : Launch) (D : va_G) (cI cZ : ClassId) (ad : Nat → Nat) (hJ : pv_J ad)  (σ : pv_S) (R0 : (Int32 × pv_S)) (h : f_X8_fewest σ = some R0) : Met l yX8_fewest (Cond.code yX8_fewest cX8_fewest 2 (some .int) :: lwG) r_X8_fewest (va_Pc [.ref (ad 8)] (pv_P D cI cZ ad σ)) (pv_QI D cI cZ ad R0) 0 0 (pv_A ad) := x_met (by decide) rfl hJ (Nat.le_of_ble_eq_true rfl) (fun p e s m args below meth c C hr => w_X8_fewest_0 C hr R0 σ h)
abbrev r_X8_cheapest : Room := { frames := 5, cells := 0, slots := 0, locals := 122 }
set_option maxRecDepth 100000 in
set_option maxHeartbeats 4000000 in
theorem w_X8_cheapest_57 {p : Program} {l : Launch} {e : Env} {s : State} {m : MethodId} {args : Array Value} {below : List Frame} {meth : Method} {c : Code} {D : va_G} {cI cZ : ClassId} {ad : Nat → Nat} (C : pv_C p s m args meth c cX8_cheapest 7 RX8 D cI cZ ad (pv_A ad)) (hr : meth.sig.returnType = some .int) (R0 : (Int32 × pv_S)) (K8 : Int32 → Int32 → Int32 → Int32 → pv_S → Option (Int32 × pv_S)) (hK8 : ∀ (v1 : Int32) (v2 : Int32) (v3 : Int32) (v4 : Int32) (σ : pv_S), K8 v1 v2 v3 v4 σ = some R0 → Wx p l e r_X8_cheapest s m args below meth c 0 0 (MQ below (pv_QI D cI cZ ad R0) args s 0 0 (pv_A ad)) 7 D cI cZ ad (pv_A ad) 8 [(0, .ref (ad 8)), (1, .int v1), (2, .int v2), (3, .int v3), (4, .int v4)] [] σ) (v1 : Int32) (v3 : Int32) (v4 : Int32) (v5 : Int32) (v6 : Int32) (s0 : Int32) (σ : pv_S) (h : f_X8_cheapest_57 K8 v1 v3 v4 v5 v6 s0 σ = some R0) : Wx p l e r_X8_cheapest s m args below meth c 0 0 (MQ below (pv_QI D cI cZ ad R0) args s 0 0 (pv_A ad)) 7 D cI cZ ad (pv_A ad) 57 [(0, .ref (ad 8)), (1, .int v1), (3, .int v3), (4, .int v4), (5, .int v5), (6, .int v6)] [.int s0] σ := by
  unfold f_X8_cheapest_57 at h
  refine x_istore_n (lv' := [(2, .int s0), (0, .ref (ad 8)), (1, .int v1), (3, .int v3), (4, .int v4), (5, .int v5), (6, .int v6)]) C dX8_cheapest_57 rfl (by decide) rfl ?_
  refine x_iload C dX8_cheapest_58 6 rfl ?_
  refine x_if_eq C 68 dX8_cheapest_60 (by decide) (fun c1 => ?_) (fun c1 => ?_)
  · have h := (if_pos c1).symm.trans h
    refine x_iload_n C dX8_cheapest_68 rfl 3 rfl ?_
    refine x_istore_n (lv' := [(3, .int v3), (2, .int s0), (0, .ref (ad 8)), (1, .int v1), (4, .int v4), (5, .int v5), (6, .int v6)]) C dX8_cheapest_69 rfl (by decide) rfl ?_
    refine x_iinc (v := (v4 + 1)) (lv' := [(4, .int (v4 + 1)), (3, .int v3), (2, .int s0), (0, .ref (ad 8)), (1, .int v1), (5, .int v5), (6, .int v6)]) C 4 dX8_cheapest_70 rfl rfl (by decide) rfl ?_
    refine x_goto C 8 dX8_cheapest_73 (by decide) ?_
    refine x_sub [3, 4, 2, 1, 0] rfl ?_
    exact hK8 v1 s0 v3 (v4 + 1) σ h
  · have h := (if_neg c1).symm.trans h
    refine x_iload C dX8_cheapest_63 5 rfl ?_
    refine x_goto C 69 dX8_cheapest_65 (by decide) ?_
    refine x_istore_n (lv' := [(3, .int v5), (2, .int s0), (0, .ref (ad 8)), (1, .int v1), (4, .int v4), (5, .int v5), (6, .int v6)]) C dX8_cheapest_69 rfl (by decide) rfl ?_
    refine x_iinc (v := (v4 + 1)) (lv' := [(4, .int (v4 + 1)), (3, .int v5), (2, .int s0), (0, .ref (ad 8)), (1, .int v1), (5, .int v5), (6, .int v6)]) C 4 dX8_cheapest_70 rfl rfl (by decide) rfl ?_
    refine x_goto C 8 dX8_cheapest_73 (by decide) ?_
    refine x_sub [3, 4, 2, 1, 0] rfl ?_
    exact hK8 v1 s0 v5 (v4 + 1) σ h
set_option maxRecDepth 100000 in
set_option maxHeartbeats 4000000 in
theorem w_X8_cheapest_44 {p : Program} {l : Launch} {e : Env} {s : State} {m : MethodId} {args : Array Value} {below : List Frame} {meth : Method} {c : Code} {D : va_G} {cI cZ : ClassId} {ad : Nat → Nat} (C : pv_C p s m args meth c cX8_cheapest 7 RX8 D cI cZ ad (pv_A ad)) (hr : meth.sig.returnType = some .int) (R0 : (Int32 × pv_S)) (K8 : Int32 → Int32 → Int32 → Int32 → pv_S → Option (Int32 × pv_S)) (hK8 : ∀ (v1 : Int32) (v2 : Int32) (v3 : Int32) (v4 : Int32) (σ : pv_S), K8 v1 v2 v3 v4 σ = some R0 → Wx p l e r_X8_cheapest s m args below meth c 0 0 (MQ below (pv_QI D cI cZ ad R0) args s 0 0 (pv_A ad)) 7 D cI cZ ad (pv_A ad) 8 [(0, .ref (ad 8)), (1, .int v1), (2, .int v2), (3, .int v3), (4, .int v4)] [] σ) (v1 : Int32) (v2 : Int32) (v3 : Int32) (v4 : Int32) (v5 : Int32) (s0 : Int32) (σ : pv_S) (h : f_X8_cheapest_44 K8 v1 v2 v3 v4 v5 s0 σ = some R0) : Wx p l e r_X8_cheapest s m args below meth c 0 0 (MQ below (pv_QI D cI cZ ad R0) args s 0 0 (pv_A ad)) 7 D cI cZ ad (pv_A ad) 44 [(0, .ref (ad 8)), (1, .int v1), (2, .int v2), (3, .int v3), (4, .int v4), (5, .int v5)] [.int s0] σ := by
  unfold f_X8_cheapest_44 at h
  refine x_istore (lv' := [(6, .int s0), (0, .ref (ad 8)), (1, .int v1), (2, .int v2), (3, .int v3), (4, .int v4), (5, .int v5)]) C dX8_cheapest_44 (by decide) rfl ?_
  refine x_iload C dX8_cheapest_46 0 rfl ?_
  refine x_if_eq C 56 dX8_cheapest_48 (by decide) (fun c1 => ?_) (fun c1 => ?_)
  · have h := (if_pos c1).symm.trans h
    refine x_iload_n C dX8_cheapest_56 rfl 3 rfl ?_
    refine x_sub [1, 2, 4, 5, 6, 0] rfl ?_
    exact w_X8_cheapest_57 C hr R0 K8 hK8 v1 v3 v4 v5 s0 v2 σ h
  · have h := (if_neg c1).symm.trans h
    refine x_iload C dX8_cheapest_51 5 rfl ?_
    refine x_goto C 57 dX8_cheapest_53 (by decide) ?_
    refine x_sub [1, 2, 4, 5, 6, 0] rfl ?_
    exact w_X8_cheapest_57 C hr R0 K8 hK8 v1 v3 v4 v5 s0 v4 σ h
set_option maxRecDepth 100000 in
set_option maxHeartbeats 4000000 in
theorem w_X8_cheapest_8 {p : Program} {l : Launch} {e : Env} {s : State} {m : MethodId} {args : Array Value} {below : List Frame} {meth : Method} {c : Code} {D : va_G} {cI cZ : ClassId} {ad : Nat → Nat} (C : pv_C p s m args meth c cX8_cheapest 7 RX8 D cI cZ ad (pv_A ad)) (hr : meth.sig.returnType = some .int) (R0 : (Int32 × pv_S)) : ∀ (n : Nat) (v1 : Int32) (v2 : Int32) (v3 : Int32) (v4 : Int32) (σ : pv_S), f_X8_cheapest_8 n v1 v2 v3 v4 σ = some R0 → Wx p l e r_X8_cheapest s m args below meth c 0 0 (MQ below (pv_QI D cI cZ ad R0) args s 0 0 (pv_A ad)) 7 D cI cZ ad (pv_A ad) 8 [(0, .ref (ad 8)), (1, .int v1), (2, .int v2), (3, .int v3), (4, .int v4)] [] σ := by
  intro n
  induction n with
  | zero =>
    intro v1 v2 v3 v4 σ h
    have h2 : (none : Option (Int32 × pv_S)) = some R0 := h
    cases h2
  | succ n ih =>
    intro v1 v2 v3 v4 σ h
    unfold f_X8_cheapest_8 at h
    refine x_iload C dX8_cheapest_8 4 rfl ?_
    refine x_aload_n C dX8_cheapest_10 rfl 0 rfl ?_
    refine xg_X8_7 C dX8_cheapest_11 ?_
    refine x_iconst (v := 0) C dX8_cheapest_14 (by decide) ?_
    obtain ⟨g1, h⟩ := gd_some h
    refine xl_13 C g1 dX8_cheapest_15 ?_
    refine x_icmp_gt C 76 dX8_cheapest_16 (by decide) (fun c2 => ?_) (fun c2 => ?_)
    · have h := (if_pos c2).symm.trans h
      refine x_iload_n C dX8_cheapest_76 rfl 2 rfl ?_
      exact x_iret C hr dX8_cheapest_77 (Option.some.inj h)
    · have h := (if_neg c2).symm.trans h
      refine x_aload_n C dX8_cheapest_19 rfl 0 rfl ?_
      refine x_iload C dX8_cheapest_20 4 rfl ?_
      refine x_iload_n C dX8_cheapest_22 rfl 1 rfl ?_
      obtain ⟨q3, eq3, h⟩ := gb_some h
      refine x_vi (st := []) C kY_X8_leastOf 8 8 rfl rfl rfl (m_X8_leastOf l D cI cZ ad C.2.2.2.2.2.2.1 v4 v1 σ q3 eq3) kl_X8_66 ⟨rfl, rfl⟩ ⟨Nat.le_of_ble_eq_true rfl, Nat.le_of_ble_eq_true rfl⟩ ⟨Nat.zero_le _, Nat.zero_le _⟩ rfl rfl (Nat.le_of_ble_eq_true rfl) dX8_cheapest_23 ?_
      refine x_istore (lv' := [(5, .int q3.1), (0, .ref (ad 8)), (1, .int v1), (2, .int v2), (3, .int v3), (4, .int v4)]) C dX8_cheapest_26 (by decide) rfl ?_
      refine x_iload C dX8_cheapest_28 0 rfl ?_
      refine x_if_lt C 43 dX8_cheapest_30 (by decide) (fun c4 => ?_) (fun c4 => ?_)
      · have h := (if_pos c4).symm.trans h
        refine x_iconst (v := 0) C dX8_cheapest_43 (by decide) ?_
        refine x_sub [1, 2, 3, 4, 5, 0] rfl ?_
        exact w_X8_cheapest_44 C hr R0 (f_X8_cheapest_8 n) ih v1 v2 v3 v4 q3.1 0 q3.2 h
      · have h := (if_neg c4).symm.trans h
        refine x_iload C dX8_cheapest_33 0 rfl ?_
        refine x_iload_n C dX8_cheapest_35 rfl 4 rfl ?_
        refine x_icmp_ge C 43 dX8_cheapest_36 (by decide) (fun c5 => ?_) (fun c5 => ?_)
        · have h := (if_pos c5).symm.trans h
          refine x_iconst (v := 0) C dX8_cheapest_43 (by decide) ?_
          refine x_sub [1, 2, 3, 4, 5, 0] rfl ?_
          exact w_X8_cheapest_44 C hr R0 (f_X8_cheapest_8 n) ih v1 v2 v3 v4 q3.1 0 q3.2 h
        · have h := (if_neg c5).symm.trans h
          refine x_iconst (v := 1) C dX8_cheapest_39 (by decide) ?_
          refine x_goto C 44 dX8_cheapest_40 (by decide) ?_
          refine x_sub [1, 2, 3, 4, 5, 0] rfl ?_
          exact w_X8_cheapest_44 C hr R0 (f_X8_cheapest_8 n) ih v1 v2 v3 v4 q3.1 1 q3.2 h
set_option maxRecDepth 100000 in
set_option maxHeartbeats 4000000 in
theorem w_X8_cheapest_0 {p : Program} {l : Launch} {e : Env} {s : State} {m : MethodId} {args : Array Value} {below : List Frame} {meth : Method} {c : Code} {D : va_G} {cI cZ : ClassId} {ad : Nat → Nat} (C : pv_C p s m args meth c cX8_cheapest 7 RX8 D cI cZ ad (pv_A ad)) (hr : meth.sig.returnType = some .int) (R0 : (Int32 × pv_S)) (p0 : Int32) (σ : pv_S) (h : f_X8_cheapest p0 σ = some R0) : Wx p l e r_X8_cheapest s m args below meth c 0 0 (MQ below (pv_QI D cI cZ ad R0) args s 0 0 (pv_A ad)) 7 D cI cZ ad (pv_A ad) 0 [(0, .ref (ad 8)), (1, .int p0)] [] σ := by
  unfold f_X8_cheapest at h
  refine x_iconst (v := 0) C dX8_cheapest_0 (by decide) ?_
  refine x_istore_n (lv' := [(2, .int 0), (0, .ref (ad 8)), (1, .int p0)]) C dX8_cheapest_1 rfl (by decide) rfl ?_
  refine x_ldc C kc_X8_55 dX8_cheapest_2 ?_
  refine x_istore_n (lv' := [(3, .int 1000000), (2, .int 0), (0, .ref (ad 8)), (1, .int p0)]) C dX8_cheapest_4 rfl (by decide) rfl ?_
  refine x_iconst (v := 0) C dX8_cheapest_5 (by decide) ?_
  refine x_istore (lv' := [(4, .int 0), (3, .int 1000000), (2, .int 0), (0, .ref (ad 8)), (1, .int p0)]) C dX8_cheapest_6 (by decide) rfl ?_
  refine x_sub [3, 4, 2, 1, 0] rfl ?_
  exact w_X8_cheapest_8 C hr R0 pv_FU p0 0 1000000 0 σ h
theorem m_X8_cheapest (l : Launch) (D : va_G) (cI cZ : ClassId) (ad : Nat → Nat) (hJ : pv_J ad) (p0 : Int32) (σ : pv_S) (R0 : (Int32 × pv_S)) (h : f_X8_cheapest p0 σ = some R0) : Met l yX8_cheapest (Cond.code yX8_cheapest cX8_cheapest 7 (some .int) :: lwG) r_X8_cheapest (va_Pc [.ref (ad 8), .int p0] (pv_P D cI cZ ad σ)) (pv_QI D cI cZ ad R0) 0 0 (pv_A ad) := x_met (by decide) rfl hJ (Nat.le_of_ble_eq_true rfl) (fun p e s m args below meth c C hr => w_X8_cheapest_0 C hr R0 p0 σ h)
abbrev r_X8_leastOfAll : Room := { frames := 6, cells := 0, slots := 0, locals := 148 }
set_option maxRecDepth 100000 in
set_option maxHeartbeats 4000000 in
theorem w_X8_leastOfAll_0 {p : Program} {l : Launch} {e : Env} {s : State} {m : MethodId} {args : Array Value} {below : List Frame} {meth : Method} {c : Code} {D : va_G} {cI cZ : ClassId} {ad : Nat → Nat} (C : pv_C p s m args meth c cX8_leastOfAll 2 RX8 D cI cZ ad (pv_A ad)) (hr : meth.sig.returnType = some .int) (R0 : (Int32 × pv_S)) (p0 : Int32) (σ : pv_S) (h : f_X8_leastOfAll p0 σ = some R0) : Wx p l e r_X8_leastOfAll s m args below meth c 0 0 (MQ below (pv_QI D cI cZ ad R0) args s 0 0 (pv_A ad)) 2 D cI cZ ad (pv_A ad) 0 [(0, .ref (ad 8)), (1, .int p0)] [] σ := by
  unfold f_X8_leastOfAll at h
  refine x_aload_n C dX8_leastOfAll_0 rfl 0 rfl ?_
  refine x_aload_n C dX8_leastOfAll_1 rfl 0 rfl ?_
  refine x_iload_n C dX8_leastOfAll_2 rfl 1 rfl ?_
  obtain ⟨q1, eq1, h⟩ := gb_some h
  refine x_vi (st := [.ref (ad 8)]) C kY_X8_cheapest 8 8 rfl rfl rfl (m_X8_cheapest l D cI cZ ad C.2.2.2.2.2.2.1 p0 σ q1 eq1) kl_X8_69 ⟨rfl, rfl⟩ ⟨Nat.le_of_ble_eq_true rfl, Nat.le_of_ble_eq_true rfl⟩ ⟨Nat.zero_le _, Nat.zero_le _⟩ rfl rfl (Nat.le_of_ble_eq_true rfl) dX8_leastOfAll_3 ?_
  refine x_iload_n C dX8_leastOfAll_6 rfl 1 rfl ?_
  obtain ⟨q2, eq2, h⟩ := gb_some h
  refine x_vi (st := []) C kY_X8_leastOf 8 8 rfl rfl rfl (m_X8_leastOf l D cI cZ ad C.2.2.2.2.2.2.1 q1.1 p0 q1.2 q2 eq2) kl_X8_66 ⟨rfl, rfl⟩ ⟨Nat.le_of_ble_eq_true rfl, Nat.le_of_ble_eq_true rfl⟩ ⟨Nat.zero_le _, Nat.zero_le _⟩ rfl rfl (Nat.le_of_ble_eq_true rfl) dX8_leastOfAll_7 ?_
  exact x_iret C hr dX8_leastOfAll_10 (Option.some.inj h)
theorem m_X8_leastOfAll (l : Launch) (D : va_G) (cI cZ : ClassId) (ad : Nat → Nat) (hJ : pv_J ad) (p0 : Int32) (σ : pv_S) (R0 : (Int32 × pv_S)) (h : f_X8_leastOfAll p0 σ = some R0) : Met l yX8_leastOfAll (Cond.code yX8_leastOfAll cX8_leastOfAll 2 (some .int) :: lwG) r_X8_leastOfAll (va_Pc [.ref (ad 8), .int p0] (pv_P D cI cZ ad σ)) (pv_QI D cI cZ ad R0) 0 0 (pv_A ad) := x_met (by decide) rfl hJ (Nat.le_of_ble_eq_true rfl) (fun p e s m args below meth c C hr => w_X8_leastOfAll_0 C hr R0 p0 σ h)
abbrev r_X8_cross : Room := { frames := 0, cells := 0, slots := 0, locals := 0 }
set_option maxRecDepth 100000 in
set_option maxHeartbeats 4000000 in
theorem w_X8_cross_128 {p : Program} {l : Launch} {e : Env} {s : State} {m : MethodId} {args : Array Value} {below : List Frame} {meth : Method} {c : Code} {D : va_G} {cI cZ : ClassId} {ad : Nat → Nat} (C : pv_C p s m args meth c cX8_cross 6 RX8 D cI cZ ad (pv_A ad)) (hr : meth.sig.returnType = some .boolean) (R0 : (Int32 × pv_S)) (v1 : Int32) (v2 : Int32) (v3 : Int32) (v4 : Int32) (s0 : Int32) (σ : pv_S) (h : f_X8_cross_128 v1 v2 v3 v4 s0 σ = some R0) : Wx p l e r_X8_cross s m args below meth c 0 0 (MQ below (pv_QI D cI cZ ad R0) args s 0 0 (pv_A ad)) 6 D cI cZ ad (pv_A ad) 128 [(0, .ref (ad 8)), (1, .int v1), (2, .int v2), (3, .int v3), (4, .int v4)] [.int s0] σ := by
  unfold f_X8_cross_128 at h
  refine x_istore (lv' := [(5, .int s0), (0, .ref (ad 8)), (1, .int v1), (2, .int v2), (3, .int v3), (4, .int v4)]) C dX8_cross_128 (by decide) rfl ?_
  refine x_iload C dX8_cross_130 0 rfl ?_
  refine x_if_ne C 178 dX8_cross_132 (by decide) (fun c1 => ?_) (fun c1 => ?_)
  · have h := (if_neg c1).symm.trans h
    refine x_iconst (v := 1) C dX8_cross_178 (by decide) ?_
    refine x_goto C 183 dX8_cross_179 (by decide) ?_
    exact x_zret C hr rfl dX8_cross_183 (Option.some.inj h)
  · have h := (if_pos c1).symm.trans h
    refine x_aload_n C dX8_cross_135 rfl 1 rfl ?_
    refine xg_X8_7 C dX8_cross_136 ?_
    refine x_bipush (v := 26) C dX8_cross_139 (by decide) ?_
    refine x_iload_n C dX8_cross_141 rfl 2 rfl ?_
    refine x_iadd C dX8_cross_142 ?_
    obtain ⟨g2, h⟩ := gd_some h
    refine xl_13 C g2 dX8_cross_143 ?_
    refine x_aload_n C dX8_cross_144 rfl 1 rfl ?_
    refine xg_X8_7 C dX8_cross_145 ?_
    refine x_bipush (v := 26) C dX8_cross_148 (by decide) ?_
    refine x_iload_n C dX8_cross_150 rfl 3 rfl ?_
    refine x_iadd C dX8_cross_151 ?_
    obtain ⟨g3, h⟩ := gd_some h
    refine xl_13 C g3 dX8_cross_152 ?_
    refine x_icmp_le C 182 dX8_cross_153 (by decide) (fun c4 => ?_) (fun c4 => ?_)
    · have h := (if_pos c4).symm.trans h
      refine x_iconst (v := 0) C dX8_cross_182 (by decide) ?_
      exact x_zret C hr rfl dX8_cross_183 (Option.some.inj h)
    · have h := (if_neg c4).symm.trans h
      refine x_aload_n C dX8_cross_156 rfl 1 rfl ?_
      refine xg_X8_7 C dX8_cross_157 ?_
      refine x_bipush (v := 26) C dX8_cross_160 (by decide) ?_
      refine x_iload_n C dX8_cross_162 rfl 4 rfl ?_
      refine x_iadd C dX8_cross_163 ?_
      obtain ⟨g5, h⟩ := gd_some h
      refine xl_13 C g5 dX8_cross_164 ?_
      refine x_aload_n C dX8_cross_165 rfl 1 rfl ?_
      refine xg_X8_7 C dX8_cross_166 ?_
      refine x_bipush (v := 26) C dX8_cross_169 (by decide) ?_
      refine x_iload C dX8_cross_171 5 rfl ?_
      refine x_iadd C dX8_cross_173 ?_
      obtain ⟨g6, h⟩ := gd_some h
      refine xl_13 C g6 dX8_cross_174 ?_
      refine x_icmp_ge C 182 dX8_cross_175 (by decide) (fun c7 => ?_) (fun c7 => ?_)
      · have h := (if_pos c7).symm.trans h
        refine x_iconst (v := 0) C dX8_cross_182 (by decide) ?_
        exact x_zret C hr rfl dX8_cross_183 (Option.some.inj h)
      · have h := (if_neg c7).symm.trans h
        refine x_iconst (v := 1) C dX8_cross_178 (by decide) ?_
        refine x_goto C 183 dX8_cross_179 (by decide) ?_
        exact x_zret C hr rfl dX8_cross_183 (Option.some.inj h)
set_option maxRecDepth 100000 in
set_option maxHeartbeats 4000000 in
theorem w_X8_cross_0 {p : Program} {l : Launch} {e : Env} {s : State} {m : MethodId} {args : Array Value} {below : List Frame} {meth : Method} {c : Code} {D : va_G} {cI cZ : ClassId} {ad : Nat → Nat} (C : pv_C p s m args meth c cX8_cross 6 RX8 D cI cZ ad (pv_A ad)) (hr : meth.sig.returnType = some .boolean) (R0 : (Int32 × pv_S)) (p0 : Int32) (p1 : Int32) (σ : pv_S) (h : f_X8_cross p0 p1 σ = some R0) : Wx p l e r_X8_cross s m args below meth c 0 0 (MQ below (pv_QI D cI cZ ad R0) args s 0 0 (pv_A ad)) 6 D cI cZ ad (pv_A ad) 0 [(0, .ref (ad 8)), (1, .int p0), (2, .int p1)] [] σ := by
  unfold f_X8_cross at h
  refine x_aload_n C dX8_cross_0 rfl 0 rfl ?_
  refine xg_X8_7 C dX8_cross_1 ?_
  refine x_bipush (v := 36) C dX8_cross_4 (by decide) ?_
  refine x_iload_n C dX8_cross_6 rfl 1 rfl ?_
  refine x_iadd C dX8_cross_7 ?_
  obtain ⟨g1, h⟩ := gd_some h
  refine xl_13 C g1 dX8_cross_8 ?_
  refine x_istore_n (lv' := [(3, .int (pv_la σ 13 (36 + p0))), (0, .ref (ad 8)), (1, .int p0), (2, .int p1)]) C dX8_cross_9 rfl (by decide) rfl ?_
  refine x_aload_n C dX8_cross_10 rfl 1 rfl ?_
  refine xg_X8_7 C dX8_cross_11 ?_
  refine x_bipush (v := 36) C dX8_cross_14 (by decide) ?_
  refine x_iload_n C dX8_cross_16 rfl 3 rfl ?_
  refine x_iadd C dX8_cross_17 ?_
  obtain ⟨g2, h⟩ := gd_some h
  refine xl_13 C g2 dX8_cross_18 ?_
  refine x_istore (lv' := [(4, .int (pv_la σ 13 (36 + p1))), (3, .int (pv_la σ 13 (36 + p0))), (0, .ref (ad 8)), (1, .int p0), (2, .int p1)]) C dX8_cross_19 (by decide) rfl ?_
  refine x_iload_n C dX8_cross_21 rfl 3 rfl ?_
  refine x_iload_n C dX8_cross_22 rfl 4 rfl ?_
  refine x_icmp_eq C 78 dX8_cross_23 (by decide) (fun c3 => ?_) (fun c3 => ?_)
  · have h := (if_pos c3).symm.trans h
    refine x_iconst (v := 0) C dX8_cross_78 (by decide) ?_
    exact x_zret C hr rfl dX8_cross_79 (Option.some.inj h)
  · have h := (if_neg c3).symm.trans h
    refine x_iload_n C dX8_cross_26 rfl 1 rfl ?_
    refine x_if_lt C 78 dX8_cross_27 (by decide) (fun c4 => ?_) (fun c4 => ?_)
    · have h := (if_pos c4).symm.trans h
      refine x_iconst (v := 0) C dX8_cross_78 (by decide) ?_
      exact x_zret C hr rfl dX8_cross_79 (Option.some.inj h)
    · have h := (if_neg c4).symm.trans h
      refine x_iload C dX8_cross_30 0 rfl ?_
      refine x_if_lt C 78 dX8_cross_32 (by decide) (fun c5 => ?_) (fun c5 => ?_)
      · have h := (if_pos c5).symm.trans h
        refine x_iconst (v := 0) C dX8_cross_78 (by decide) ?_
        exact x_zret C hr rfl dX8_cross_79 (Option.some.inj h)
      · have h := (if_neg c5).symm.trans h
        refine x_aload_n C dX8_cross_35 rfl 2 rfl ?_
        refine xg_X8_7 C dX8_cross_36 ?_
        refine x_bipush (v := 6) C dX8_cross_39 (by decide) ?_
        refine x_iload_n C dX8_cross_41 rfl 3 rfl ?_
        refine x_iadd C dX8_cross_42 ?_
        obtain ⟨g6, h⟩ := gd_some h
        refine xl_13 C g6 dX8_cross_43 ?_
        refine x_aload_n C dX8_cross_44 rfl 2 rfl ?_
        refine xg_X8_7 C dX8_cross_45 ?_
        refine x_bipush (v := 6) C dX8_cross_48 (by decide) ?_
        refine x_iload C dX8_cross_50 0 rfl ?_
        refine x_iadd C dX8_cross_52 ?_
        obtain ⟨g7, h⟩ := gd_some h
        refine xl_13 C g7 dX8_cross_53 ?_
        refine x_icmp_ge C 78 dX8_cross_54 (by decide) (fun c8 => ?_) (fun c8 => ?_)
        · have h := (if_pos c8).symm.trans h
          refine x_iconst (v := 0) C dX8_cross_78 (by decide) ?_
          exact x_zret C hr rfl dX8_cross_79 (Option.some.inj h)
        · have h := (if_neg c8).symm.trans h
          refine x_aload_n C dX8_cross_57 rfl 2 rfl ?_
          refine xg_X8_7 C dX8_cross_58 ?_
          refine x_bipush (v := 6) C dX8_cross_61 (by decide) ?_
          refine x_iload_n C dX8_cross_63 rfl 4 rfl ?_
          refine x_iadd C dX8_cross_64 ?_
          obtain ⟨g9, h⟩ := gd_some h
          refine xl_13 C g9 dX8_cross_65 ?_
          refine x_aload_n C dX8_cross_66 rfl 2 rfl ?_
          refine xg_X8_7 C dX8_cross_67 ?_
          refine x_bipush (v := 6) C dX8_cross_70 (by decide) ?_
          refine x_iload_n C dX8_cross_72 rfl 1 rfl ?_
          refine x_iadd C dX8_cross_73 ?_
          obtain ⟨g10, h⟩ := gd_some h
          refine xl_13 C g10 dX8_cross_74 ?_
          refine x_icmp_lt C 80 dX8_cross_75 (by decide) (fun c11 => ?_) (fun c11 => ?_)
          · have h := (if_pos c11).symm.trans h
            refine x_aload_n C dX8_cross_80 rfl 2 rfl ?_
            refine xg_X8_7 C dX8_cross_81 ?_
            refine x_bipush (v := 26) C dX8_cross_84 (by decide) ?_
            refine x_iload_n C dX8_cross_86 rfl 3 rfl ?_
            refine x_iadd C dX8_cross_87 ?_
            obtain ⟨g12, h⟩ := gd_some h
            refine xl_13 C g12 dX8_cross_88 ?_
            refine x_aload_n C dX8_cross_89 rfl 2 rfl ?_
            refine xg_X8_7 C dX8_cross_90 ?_
            refine x_bipush (v := 26) C dX8_cross_93 (by decide) ?_
            refine x_iload_n C dX8_cross_95 rfl 4 rfl ?_
            refine x_iadd C dX8_cross_96 ?_
            obtain ⟨g13, h⟩ := gd_some h
            refine xl_13 C g13 dX8_cross_97 ?_
            refine x_icmp_ge C 127 dX8_cross_98 (by decide) (fun c14 => ?_) (fun c14 => ?_)
            · have h := (if_pos c14).symm.trans h
              refine x_iconst (v := 0) C dX8_cross_127 (by decide) ?_
              refine x_sub [2, 3, 4, 1, 0] rfl ?_
              exact w_X8_cross_128 C hr R0 p0 p1 (pv_la σ 13 (36 + p0)) (pv_la σ 13 (36 + p1)) 0 σ h
            · have h := (if_neg c14).symm.trans h
              refine x_aload_n C dX8_cross_101 rfl 2 rfl ?_
              refine xg_X8_7 C dX8_cross_102 ?_
              refine x_bipush (v := 26) C dX8_cross_105 (by decide) ?_
              refine x_iload_n C dX8_cross_107 rfl 1 rfl ?_
              refine x_iadd C dX8_cross_108 ?_
              obtain ⟨g15, h⟩ := gd_some h
              refine xl_13 C g15 dX8_cross_109 ?_
              refine x_aload_n C dX8_cross_110 rfl 2 rfl ?_
              refine xg_X8_7 C dX8_cross_111 ?_
              refine x_bipush (v := 26) C dX8_cross_114 (by decide) ?_
              refine x_iload C dX8_cross_116 0 rfl ?_
              refine x_iadd C dX8_cross_118 ?_
              obtain ⟨g16, h⟩ := gd_some h
              refine xl_13 C g16 dX8_cross_119 ?_
              refine x_icmp_le C 127 dX8_cross_120 (by decide) (fun c17 => ?_) (fun c17 => ?_)
              · have h := (if_pos c17).symm.trans h
                refine x_iconst (v := 0) C dX8_cross_127 (by decide) ?_
                refine x_sub [2, 3, 4, 1, 0] rfl ?_
                exact w_X8_cross_128 C hr R0 p0 p1 (pv_la σ 13 (36 + p0)) (pv_la σ 13 (36 + p1)) 0 σ h
              · have h := (if_neg c17).symm.trans h
                refine x_iconst (v := 1) C dX8_cross_123 (by decide) ?_
                refine x_goto C 128 dX8_cross_124 (by decide) ?_
                refine x_sub [2, 3, 4, 1, 0] rfl ?_
                exact w_X8_cross_128 C hr R0 p0 p1 (pv_la σ 13 (36 + p0)) (pv_la σ 13 (36 + p1)) 1 σ h
          · have h := (if_neg c11).symm.trans h
            refine x_iconst (v := 0) C dX8_cross_78 (by decide) ?_
            exact x_zret C hr rfl dX8_cross_79 (Option.some.inj h)
theorem m_X8_cross (l : Launch) (D : va_G) (cI cZ : ClassId) (ad : Nat → Nat) (hJ : pv_J ad) (p0 : Int32) (p1 : Int32) (σ : pv_S) (R0 : (Int32 × pv_S)) (h : f_X8_cross p0 p1 σ = some R0) : Met l yX8_cross (Cond.code yX8_cross cX8_cross 6 (some .boolean) :: lwG) r_X8_cross (va_Pc [.ref (ad 8), .int p0, .int p1] (pv_P D cI cZ ad σ)) (pv_QI D cI cZ ad R0) 0 0 (pv_A ad) := x_met (by decide) rfl hJ (Nat.le_of_ble_eq_true rfl) (fun p e s m args below meth c C hr => w_X8_cross_0 C hr R0 p0 p1 σ h)
abbrev r_X8_crossings : Room := { frames := 1, cells := 0, slots := 0, locals := 25 }
set_option maxRecDepth 100000 in
set_option maxHeartbeats 4000000 in
theorem w_X8_crossings_18 {p : Program} {l : Launch} {e : Env} {s : State} {m : MethodId} {args : Array Value} {below : List Frame} {meth : Method} {c : Code} {D : va_G} {cI cZ : ClassId} {ad : Nat → Nat} (C : pv_C p s m args meth c cX8_crossings 4 RX8 D cI cZ ad (pv_A ad)) (hr : meth.sig.returnType = some .int) (R0 : (Int32 × pv_S)) (K4 : Int32 → Int32 → pv_S → Option (Int32 × pv_S)) (hK4 : ∀ (v1 : Int32) (v2 : Int32) (σ : pv_S), K4 v1 v2 σ = some R0 → Wx p l e r_X8_crossings s m args below meth c 0 0 (MQ below (pv_QI D cI cZ ad R0) args s 0 0 (pv_A ad)) 4 D cI cZ ad (pv_A ad) 4 [(0, .ref (ad 8)), (1, .int v1), (2, .int v2)] [] σ) : ∀ (n : Nat) (v1 : Int32) (v2 : Int32) (v3 : Int32) (σ : pv_S), f_X8_crossings_18 K4 n v1 v2 v3 σ = some R0 → Wx p l e r_X8_crossings s m args below meth c 0 0 (MQ below (pv_QI D cI cZ ad R0) args s 0 0 (pv_A ad)) 4 D cI cZ ad (pv_A ad) 18 [(0, .ref (ad 8)), (1, .int v1), (2, .int v2), (3, .int v3)] [] σ := by
  intro n
  induction n with
  | zero =>
    intro v1 v2 v3 σ h
    have h2 : (none : Option (Int32 × pv_S)) = some R0 := h
    cases h2
  | succ n ih =>
    intro v1 v2 v3 σ h
    unfold f_X8_crossings_18 at h
    refine x_iload_n C dX8_crossings_18 rfl 3 rfl ?_
    refine x_aload_n C dX8_crossings_19 rfl 0 rfl ?_
    refine xg_X8_7 C dX8_crossings_20 ?_
    refine x_iconst (v := 0) C dX8_crossings_23 (by decide) ?_
    obtain ⟨g1, h⟩ := gd_some h
    refine xl_13 C g1 dX8_crossings_24 ?_
    refine x_icmp_ge C 51 dX8_crossings_25 (by decide) (fun c2 => ?_) (fun c2 => ?_)
    · have h := (if_pos c2).symm.trans h
      refine x_iinc (v := (v2 + 1)) (lv' := [(2, .int (v2 + 1)), (0, .ref (ad 8)), (1, .int v1), (3, .int v3)]) C 2 dX8_crossings_51 rfl rfl (by decide) rfl ?_
      refine x_goto C 4 dX8_crossings_54 (by decide) ?_
      refine x_sub [1, 2, 0] rfl ?_
      exact hK4 v1 (v2 + 1) σ h
    · have h := (if_neg c2).symm.trans h
      refine x_iload_n C dX8_crossings_28 rfl 1 rfl ?_
      refine x_aload_n C dX8_crossings_29 rfl 0 rfl ?_
      refine x_iload_n C dX8_crossings_30 rfl 2 rfl ?_
      refine x_iload_n C dX8_crossings_31 rfl 3 rfl ?_
      obtain ⟨q3, eq3, h⟩ := gb_some h
      refine x_vi (st := [.int v1]) C kY_X8_cross 8 8 rfl rfl rfl (m_X8_cross l D cI cZ ad C.2.2.2.2.2.2.1 v2 v3 σ q3 eq3) kl_X8_79 ⟨rfl, rfl⟩ ⟨Nat.le_of_ble_eq_true rfl, Nat.le_of_ble_eq_true rfl⟩ ⟨Nat.zero_le _, Nat.zero_le _⟩ rfl rfl (Nat.le_of_ble_eq_true rfl) dX8_crossings_32 ?_
      refine x_if_eq C 42 dX8_crossings_35 (by decide) (fun c4 => ?_) (fun c4 => ?_)
      · have h := (if_pos c4).symm.trans h
        refine x_iconst (v := 0) C dX8_crossings_42 (by decide) ?_
        refine x_iadd C dX8_crossings_43 ?_
        refine x_istore_n (lv' := [(1, .int (v1 + 0)), (0, .ref (ad 8)), (2, .int v2), (3, .int v3)]) C dX8_crossings_44 rfl (by decide) rfl ?_
        refine x_iinc (v := (v3 + 1)) (lv' := [(3, .int (v3 + 1)), (1, .int (v1 + 0)), (0, .ref (ad 8)), (2, .int v2)]) C 3 dX8_crossings_45 rfl rfl (by decide) rfl ?_
        refine x_goto C 18 dX8_crossings_48 (by decide) ?_
        refine x_sub [2, 1, 3, 0] rfl ?_
        exact ih (v1 + 0) v2 (v3 + 1) q3.2 h
      · have h := (if_neg c4).symm.trans h
        refine x_iconst (v := 1) C dX8_crossings_38 (by decide) ?_
        refine x_goto C 43 dX8_crossings_39 (by decide) ?_
        refine x_iadd C dX8_crossings_43 ?_
        refine x_istore_n (lv' := [(1, .int (v1 + 1)), (0, .ref (ad 8)), (2, .int v2), (3, .int v3)]) C dX8_crossings_44 rfl (by decide) rfl ?_
        refine x_iinc (v := (v3 + 1)) (lv' := [(3, .int (v3 + 1)), (1, .int (v1 + 1)), (0, .ref (ad 8)), (2, .int v2)]) C 3 dX8_crossings_45 rfl rfl (by decide) rfl ?_
        refine x_goto C 18 dX8_crossings_48 (by decide) ?_
        refine x_sub [2, 1, 3, 0] rfl ?_
        exact ih (v1 + 1) v2 (v3 + 1) q3.2 h
set_option maxRecDepth 100000 in
set_option maxHeartbeats 4000000 in
theorem w_X8_crossings_4 {p : Program} {l : Launch} {e : Env} {s : State} {m : MethodId} {args : Array Value} {below : List Frame} {meth : Method} {c : Code} {D : va_G} {cI cZ : ClassId} {ad : Nat → Nat} (C : pv_C p s m args meth c cX8_crossings 4 RX8 D cI cZ ad (pv_A ad)) (hr : meth.sig.returnType = some .int) (R0 : (Int32 × pv_S)) : ∀ (n : Nat) (v1 : Int32) (v2 : Int32) (σ : pv_S), f_X8_crossings_4 n v1 v2 σ = some R0 → Wx p l e r_X8_crossings s m args below meth c 0 0 (MQ below (pv_QI D cI cZ ad R0) args s 0 0 (pv_A ad)) 4 D cI cZ ad (pv_A ad) 4 [(0, .ref (ad 8)), (1, .int v1), (2, .int v2)] [] σ := by
  intro n
  induction n with
  | zero =>
    intro v1 v2 σ h
    have h2 : (none : Option (Int32 × pv_S)) = some R0 := h
    cases h2
  | succ n ih =>
    intro v1 v2 σ h
    unfold f_X8_crossings_4 at h
    refine x_iload_n C dX8_crossings_4 rfl 2 rfl ?_
    refine x_aload_n C dX8_crossings_5 rfl 0 rfl ?_
    refine xg_X8_7 C dX8_crossings_6 ?_
    refine x_iconst (v := 0) C dX8_crossings_9 (by decide) ?_
    obtain ⟨g1, h⟩ := gd_some h
    refine xl_13 C g1 dX8_crossings_10 ?_
    refine x_icmp_ge C 57 dX8_crossings_11 (by decide) (fun c2 => ?_) (fun c2 => ?_)
    · have h := (if_pos c2).symm.trans h
      refine x_iload_n C dX8_crossings_57 rfl 1 rfl ?_
      exact x_iret C hr dX8_crossings_58 (Option.some.inj h)
    · have h := (if_neg c2).symm.trans h
      refine x_iload_n C dX8_crossings_14 rfl 2 rfl ?_
      refine x_iconst (v := 1) C dX8_crossings_15 (by decide) ?_
      refine x_iadd C dX8_crossings_16 ?_
      refine x_istore_n (lv' := [(3, .int (v2 + 1)), (0, .ref (ad 8)), (1, .int v1), (2, .int v2)]) C dX8_crossings_17 rfl (by decide) rfl ?_
      refine x_sub [1, 2, 3, 0] rfl ?_
      exact w_X8_crossings_18 C hr R0 (f_X8_crossings_4 n) ih pv_FU v1 v2 (v2 + 1) σ h
set_option maxRecDepth 100000 in
set_option maxHeartbeats 4000000 in
theorem w_X8_crossings_0 {p : Program} {l : Launch} {e : Env} {s : State} {m : MethodId} {args : Array Value} {below : List Frame} {meth : Method} {c : Code} {D : va_G} {cI cZ : ClassId} {ad : Nat → Nat} (C : pv_C p s m args meth c cX8_crossings 4 RX8 D cI cZ ad (pv_A ad)) (hr : meth.sig.returnType = some .int) (R0 : (Int32 × pv_S)) (σ : pv_S) (h : f_X8_crossings σ = some R0) : Wx p l e r_X8_crossings s m args below meth c 0 0 (MQ below (pv_QI D cI cZ ad R0) args s 0 0 (pv_A ad)) 4 D cI cZ ad (pv_A ad) 0 [(0, .ref (ad 8))] [] σ := by
  unfold f_X8_crossings at h
  refine x_iconst (v := 0) C dX8_crossings_0 (by decide) ?_
  refine x_istore_n (lv' := [(1, .int 0), (0, .ref (ad 8))]) C dX8_crossings_1 rfl (by decide) rfl ?_
  refine x_iconst (v := 0) C dX8_crossings_2 (by decide) ?_
  refine x_istore_n (lv' := [(2, .int 0), (1, .int 0), (0, .ref (ad 8))]) C dX8_crossings_3 rfl (by decide) rfl ?_
  refine x_sub [2, 1, 0] rfl ?_
  exact w_X8_crossings_4 C hr R0 pv_FU 0 0 σ h
theorem m_X8_crossings (l : Launch) (D : va_G) (cI cZ : ClassId) (ad : Nat → Nat) (hJ : pv_J ad)  (σ : pv_S) (R0 : (Int32 × pv_S)) (h : f_X8_crossings σ = some R0) : Met l yX8_crossings (Cond.code yX8_crossings cX8_crossings 4 (some .int) :: lwG) r_X8_crossings (va_Pc [.ref (ad 8)] (pv_P D cI cZ ad σ)) (pv_QI D cI cZ ad R0) 0 0 (pv_A ad) := x_met (by decide) rfl hJ (Nat.le_of_ble_eq_true rfl) (fun p e s m args below meth c C hr => w_X8_crossings_0 C hr R0 σ h)
abbrev r_X8_wrong : Room := { frames := 5, cells := 0, slots := 0, locals := 122 }
set_option maxRecDepth 100000 in
set_option maxHeartbeats 4000000 in
theorem w_X8_wrong_2 {p : Program} {l : Launch} {e : Env} {s : State} {m : MethodId} {args : Array Value} {below : List Frame} {meth : Method} {c : Code} {D : va_G} {cI cZ : ClassId} {ad : Nat → Nat} (C : pv_C p s m args meth c cX8_wrong 2 RX8 D cI cZ ad (pv_A ad)) (hr : meth.sig.returnType = some .int) (R0 : (Int32 × pv_S)) : ∀ (n : Nat) (v1 : Int32) (σ : pv_S), f_X8_wrong_2 n v1 σ = some R0 → Wx p l e r_X8_wrong s m args below meth c 0 0 (MQ below (pv_QI D cI cZ ad R0) args s 0 0 (pv_A ad)) 2 D cI cZ ad (pv_A ad) 2 [(0, .ref (ad 8)), (1, .int v1)] [] σ := by
  intro n
  induction n with
  | zero =>
    intro v1 σ h
    have h2 : (none : Option (Int32 × pv_S)) = some R0 := h
    cases h2
  | succ n ih =>
    intro v1 σ h
    unfold f_X8_wrong_2 at h
    refine x_iload_n C dX8_wrong_2 rfl 1 rfl ?_
    refine x_aload_n C dX8_wrong_3 rfl 0 rfl ?_
    refine xg_X8_82 C dX8_wrong_4 ?_
    refine x_icmp_ge C 38 dX8_wrong_7 (by decide) (fun c1 => ?_) (fun c1 => ?_)
    · have h := (if_pos c1).symm.trans h
      refine x_iconst (v := (-1)) C dX8_wrong_38 (by decide) ?_
      exact x_iret C hr dX8_wrong_39 (Option.some.inj h)
    · have h := (if_neg c1).symm.trans h
      refine x_aload_n C dX8_wrong_10 rfl 0 rfl ?_
      refine x_aload_n C dX8_wrong_11 rfl 0 rfl ?_
      refine xg_X8_16 C dX8_wrong_12 ?_
      refine x_iload_n C dX8_wrong_15 rfl 1 rfl ?_
      obtain ⟨g2, h⟩ := gd_some h
      refine xl_15 C g2 dX8_wrong_16 ?_
      refine x_iconst (v := (-1)) C dX8_wrong_17 (by decide) ?_
      obtain ⟨q3, eq3, h⟩ := gb_some h
      refine x_vi (st := []) C kY_X8_leastOf 8 8 rfl rfl rfl (m_X8_leastOf l D cI cZ ad C.2.2.2.2.2.2.1 (pv_la σ 15 v1) (-1) σ q3 eq3) kl_X8_66 ⟨rfl, rfl⟩ ⟨Nat.le_of_ble_eq_true rfl, Nat.le_of_ble_eq_true rfl⟩ ⟨Nat.zero_le _, Nat.zero_le _⟩ rfl rfl (Nat.le_of_ble_eq_true rfl) dX8_wrong_18 ?_
      refine x_aload_n C dX8_wrong_21 rfl 0 rfl ?_
      refine xg_X8_19 C dX8_wrong_22 ?_
      refine x_iload_n C dX8_wrong_25 rfl 1 rfl ?_
      obtain ⟨g4, h⟩ := gd_some h
      refine xl_16 C g4 dX8_wrong_26 ?_
      refine x_icmp_eq C 32 dX8_wrong_27 (by decide) (fun c5 => ?_) (fun c5 => ?_)
      · have h := (if_pos c5).symm.trans h
        refine x_iinc (v := (v1 + 1)) (lv' := [(1, .int (v1 + 1)), (0, .ref (ad 8))]) C 1 dX8_wrong_32 rfl rfl (by decide) rfl ?_
        refine x_goto C 2 dX8_wrong_35 (by decide) ?_
        refine x_sub [1, 0] rfl ?_
        exact ih (v1 + 1) q3.2 h
      · have h := (if_neg c5).symm.trans h
        refine x_iload_n C dX8_wrong_30 rfl 1 rfl ?_
        exact x_iret C hr dX8_wrong_31 (Option.some.inj h)
set_option maxRecDepth 100000 in
set_option maxHeartbeats 4000000 in
theorem w_X8_wrong_0 {p : Program} {l : Launch} {e : Env} {s : State} {m : MethodId} {args : Array Value} {below : List Frame} {meth : Method} {c : Code} {D : va_G} {cI cZ : ClassId} {ad : Nat → Nat} (C : pv_C p s m args meth c cX8_wrong 2 RX8 D cI cZ ad (pv_A ad)) (hr : meth.sig.returnType = some .int) (R0 : (Int32 × pv_S)) (σ : pv_S) (h : f_X8_wrong σ = some R0) : Wx p l e r_X8_wrong s m args below meth c 0 0 (MQ below (pv_QI D cI cZ ad R0) args s 0 0 (pv_A ad)) 2 D cI cZ ad (pv_A ad) 0 [(0, .ref (ad 8))] [] σ := by
  unfold f_X8_wrong at h
  refine x_iconst (v := 0) C dX8_wrong_0 (by decide) ?_
  refine x_istore_n (lv' := [(1, .int 0), (0, .ref (ad 8))]) C dX8_wrong_1 rfl (by decide) rfl ?_
  refine x_sub [1, 0] rfl ?_
  exact w_X8_wrong_2 C hr R0 pv_FU 0 σ h
theorem m_X8_wrong (l : Launch) (D : va_G) (cI cZ : ClassId) (ad : Nat → Nat) (hJ : pv_J ad)  (σ : pv_S) (R0 : (Int32 × pv_S)) (h : f_X8_wrong σ = some R0) : Met l yX8_wrong (Cond.code yX8_wrong cX8_wrong 2 (some .int) :: lwG) r_X8_wrong (va_Pc [.ref (ad 8)] (pv_P D cI cZ ad σ)) (pv_QI D cI cZ ad R0) 0 0 (pv_A ad) := x_met (by decide) rfl hJ (Nat.le_of_ble_eq_true rfl) (fun p e s m args below meth c C hr => w_X8_wrong_0 C hr R0 σ h)
