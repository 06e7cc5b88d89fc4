abbrev r_X7_told : Room := { frames := 6, cells := 0, slots := 0, locals := 135 }
set_option maxRecDepth 100000 in
set_option maxHeartbeats 4000000 in
theorem w_X7_told_136 {p : Program} {l : Launch} {e : Env} {s : State} {m : MethodId} {args : Array Value} {below : List Frame} {meth : Method} {c : Code} {D : va_G} {cI cZ : ClassId} {ad : Nat → Nat} (C : pv_C p s m args meth c cX7_told 2 RX7 D cI cZ ad (pv_A ad)) (hr : meth.sig.returnType = some .int) (R0 : (Int32 × pv_S)) (v1 : Int32) (σ : pv_S) (h : f_X7_told_136 v1 σ = some R0) : Wx p l e r_X7_told s m args below meth c 0 0 (MQ below (pv_QI D cI cZ ad R0) args s 0 0 (pv_A ad)) 2 D cI cZ ad (pv_A ad) 136 [(0, .ref (ad 0)), (1, .int v1)] [] σ := by
  unfold f_X7_told_136 at h
  refine x_aload_n C dX7_told_136 rfl 0 rfl ?_
  refine xg_X7_10 C dX7_told_137 ?_
  refine x_iload_n C dX7_told_140 rfl 1 rfl ?_
  refine x_bipush (v := 7) C dX7_told_141 (by decide) ?_
  refine x_isub C dX7_told_143 ?_
  obtain ⟨q1, eq1, h⟩ := gb_some h
  refine x_vi (st := []) C kY_X6_valueOf 1 6 rfl rfl rfl (m_X6_valueOf l D cI cZ ad C.2.2.2.2.2.2.1 (v1 - 7) σ q1 eq1) kl_X7_90 ⟨rfl, rfl⟩ ⟨Nat.le_of_ble_eq_true rfl, Nat.le_of_ble_eq_true rfl⟩ ⟨Nat.zero_le _, Nat.zero_le _⟩ rfl rfl (Nat.le_of_ble_eq_true rfl) dX7_told_144 ?_
  exact x_iret C hr dX7_told_147 (Option.some.inj h)
set_option maxRecDepth 100000 in
set_option maxHeartbeats 4000000 in
theorem w_X7_told_0 {p : Program} {l : Launch} {e : Env} {s : State} {m : MethodId} {args : Array Value} {below : List Frame} {meth : Method} {c : Code} {D : va_G} {cI cZ : ClassId} {ad : Nat → Nat} (C : pv_C p s m args meth c cX7_told 2 RX7 D cI cZ ad (pv_A ad)) (hr : meth.sig.returnType = some .int) (R0 : (Int32 × pv_S)) (p0 : Int32) (σ : pv_S) (h : f_X7_told p0 σ = some R0) : Wx p l e r_X7_told s m args below meth c 0 0 (MQ below (pv_QI D cI cZ ad R0) args s 0 0 (pv_A ad)) 2 D cI cZ ad (pv_A ad) 0 [(0, .ref (ad 0)), (1, .int p0)] [] σ := by
  unfold f_X7_told at h
  refine x_iload_n C dX7_told_0 rfl 1 rfl ?_
  by_cases c1 : p0 = 0
  · have h := (if_pos c1).symm.trans h
    refine x_tableIn (off := 79) C 80 dX7_told_1 (by rw [c1]; decide) (by rw [c1]; decide) (by rw [c1]; rfl) (by decide) ?_
    refine x_aload_n C dX7_told_80 rfl 0 rfl ?_
    refine xg_X7_10 C dX7_told_81 ?_
    obtain ⟨q2, eq2, h⟩ := gb_some h
    refine x_vi (st := []) C kY_X6_count 1 6 rfl rfl rfl (m_X6_count l D cI cZ ad C.2.2.2.2.2.2.1 σ q2 eq2) kl_X7_60 ⟨rfl, rfl⟩ ⟨Nat.le_of_ble_eq_true rfl, Nat.le_of_ble_eq_true rfl⟩ ⟨Nat.zero_le _, Nat.zero_le _⟩ rfl rfl (Nat.le_of_ble_eq_true rfl) dX7_told_84 ?_
    exact x_iret C hr dX7_told_87 (Option.some.inj h)
  have h := (if_neg c1).symm.trans h
  by_cases c3 : p0 = 1
  · have h := (if_pos c3).symm.trans h
    refine x_tableIn (off := 87) C 88 dX7_told_1 (by rw [c3]; decide) (by rw [c3]; decide) (by rw [c3]; rfl) (by decide) ?_
    refine x_aload_n C dX7_told_88 rfl 0 rfl ?_
    obtain ⟨q4, eq4, h⟩ := gb_some h
    refine x_vr (st := []) C kY_X7_standing 0 7 rfl rfl rfl (m_X7_standing l D cI cZ ad C.2.2.2.2.2.2.1 σ q4 eq4) kl_X7_64 ⟨rfl, rfl⟩ ⟨Nat.le_of_ble_eq_true rfl, Nat.le_of_ble_eq_true rfl⟩ ⟨Nat.zero_le _, Nat.zero_le _⟩ rfl rfl (Nat.le_of_ble_eq_true rfl) dX7_told_89 ?_
    obtain ⟨q5, eq5, h⟩ := gb_some h
    refine x_vi (st := []) C kY_X4_countVoices 2 4 rfl rfl rfl (m_X4_countVoices l D cI cZ ad C.2.2.2.2.2.2.1 q4 q5 eq5) kl_X7_68 ⟨rfl, rfl⟩ ⟨Nat.le_of_ble_eq_true rfl, Nat.le_of_ble_eq_true rfl⟩ ⟨Nat.zero_le _, Nat.zero_le _⟩ rfl rfl (Nat.le_of_ble_eq_true rfl) dX7_told_92 ?_
    exact x_iret C hr dX7_told_95 (Option.some.inj h)
  have h := (if_neg c3).symm.trans h
  by_cases c6 : p0 = 2
  · have h := (if_pos c6).symm.trans h
    refine x_tableIn (off := 95) C 96 dX7_told_1 (by rw [c6]; decide) (by rw [c6]; decide) (by rw [c6]; rfl) (by decide) ?_
    refine x_aload_n C dX7_told_96 rfl 0 rfl ?_
    obtain ⟨q7, eq7, h⟩ := gb_some h
    refine x_vr (st := []) C kY_X7_standing 0 7 rfl rfl rfl (m_X7_standing l D cI cZ ad C.2.2.2.2.2.2.1 σ q7 eq7) kl_X7_64 ⟨rfl, rfl⟩ ⟨Nat.le_of_ble_eq_true rfl, Nat.le_of_ble_eq_true rfl⟩ ⟨Nat.zero_le _, Nat.zero_le _⟩ rfl rfl (Nat.le_of_ble_eq_true rfl) dX7_told_97 ?_
    obtain ⟨q8, eq8, h⟩ := gb_some h
    refine x_vi (st := []) C kY_X4_costOfAll 2 4 rfl rfl rfl (m_X4_costOfAll l D cI cZ ad C.2.2.2.2.2.2.1 q7 q8 eq8) kl_X7_71 ⟨rfl, rfl⟩ ⟨Nat.le_of_ble_eq_true rfl, Nat.le_of_ble_eq_true rfl⟩ ⟨Nat.zero_le _, Nat.zero_le _⟩ rfl rfl (Nat.le_of_ble_eq_true rfl) dX7_told_100 ?_
    exact x_iret C hr dX7_told_103 (Option.some.inj h)
  have h := (if_neg c6).symm.trans h
  by_cases c9 : p0 = 3
  · have h := (if_pos c9).symm.trans h
    refine x_tableIn (off := 103) C 104 dX7_told_1 (by rw [c9]; decide) (by rw [c9]; decide) (by rw [c9]; rfl) (by decide) ?_
    refine x_aload_n C dX7_told_104 rfl 0 rfl ?_
    obtain ⟨q10, eq10, h⟩ := gb_some h
    refine x_vr (st := []) C kY_X7_weighed 0 7 rfl rfl rfl (m_X7_weighed l D cI cZ ad C.2.2.2.2.2.2.1 σ q10 eq10) kl_X7_74 ⟨rfl, rfl⟩ ⟨Nat.le_of_ble_eq_true rfl, Nat.le_of_ble_eq_true rfl⟩ ⟨Nat.zero_le _, Nat.zero_le _⟩ rfl rfl (Nat.le_of_ble_eq_true rfl) dX7_told_105 ?_
    obtain ⟨q11, eq11, h⟩ := gb_some h
    refine x_vi (st := []) C kY_X5_fewest 3 5 rfl rfl rfl (m_X5_fewest l D cI cZ ad C.2.2.2.2.2.2.1 q10 q11 eq11) kl_X7_78 ⟨rfl, rfl⟩ ⟨Nat.le_of_ble_eq_true rfl, Nat.le_of_ble_eq_true rfl⟩ ⟨Nat.zero_le _, Nat.zero_le _⟩ rfl rfl (Nat.le_of_ble_eq_true rfl) dX7_told_108 ?_
    exact x_iret C hr dX7_told_111 (Option.some.inj h)
  have h := (if_neg c9).symm.trans h
  by_cases c12 : p0 = 4
  · have h := (if_pos c12).symm.trans h
    refine x_tableIn (off := 111) C 112 dX7_told_1 (by rw [c12]; decide) (by rw [c12]; decide) (by rw [c12]; rfl) (by decide) ?_
    refine x_aload_n C dX7_told_112 rfl 0 rfl ?_
    obtain ⟨q13, eq13, h⟩ := gb_some h
    refine x_vr (st := []) C kY_X7_weighed 0 7 rfl rfl rfl (m_X7_weighed l D cI cZ ad C.2.2.2.2.2.2.1 σ q13 eq13) kl_X7_74 ⟨rfl, rfl⟩ ⟨Nat.le_of_ble_eq_true rfl, Nat.le_of_ble_eq_true rfl⟩ ⟨Nat.zero_le _, Nat.zero_le _⟩ rfl rfl (Nat.le_of_ble_eq_true rfl) dX7_told_113 ?_
    obtain ⟨q14, eq14, h⟩ := gb_some h
    refine x_vi (st := []) C kY_X5_cheapest 3 5 rfl rfl rfl (m_X5_cheapest l D cI cZ ad C.2.2.2.2.2.2.1 q13 q14 eq14) kl_X7_81 ⟨rfl, rfl⟩ ⟨Nat.le_of_ble_eq_true rfl, Nat.le_of_ble_eq_true rfl⟩ ⟨Nat.zero_le _, Nat.zero_le _⟩ rfl rfl (Nat.le_of_ble_eq_true rfl) dX7_told_116 ?_
    exact x_iret C hr dX7_told_119 (Option.some.inj h)
  have h := (if_neg c12).symm.trans h
  by_cases c15 : p0 = 5
  · have h := (if_pos c15).symm.trans h
    refine x_tableIn (off := 119) C 120 dX7_told_1 (by rw [c15]; decide) (by rw [c15]; decide) (by rw [c15]; rfl) (by decide) ?_
    refine x_aload_n C dX7_told_120 rfl 0 rfl ?_
    obtain ⟨q16, eq16, h⟩ := gb_some h
    refine x_vr (st := []) C kY_X7_weighed 0 7 rfl rfl rfl (m_X7_weighed l D cI cZ ad C.2.2.2.2.2.2.1 σ q16 eq16) kl_X7_74 ⟨rfl, rfl⟩ ⟨Nat.le_of_ble_eq_true rfl, Nat.le_of_ble_eq_true rfl⟩ ⟨Nat.zero_le _, Nat.zero_le _⟩ rfl rfl (Nat.le_of_ble_eq_true rfl) dX7_told_121 ?_
    obtain ⟨q17, eq17, h⟩ := gb_some h
    refine x_vi (st := []) C kY_X5_cheapestCost 3 5 rfl rfl rfl (m_X5_cheapestCost l D cI cZ ad C.2.2.2.2.2.2.1 q16 q17 eq17) kl_X7_84 ⟨rfl, rfl⟩ ⟨Nat.le_of_ble_eq_true rfl, Nat.le_of_ble_eq_true rfl⟩ ⟨Nat.zero_le _, Nat.zero_le _⟩ rfl rfl (Nat.le_of_ble_eq_true rfl) dX7_told_124 ?_
    exact x_iret C hr dX7_told_127 (Option.some.inj h)
  have h := (if_neg c15).symm.trans h
  by_cases c18 : p0 = 6
  · have h := (if_pos c18).symm.trans h
    refine x_tableIn (off := 127) C 128 dX7_told_1 (by rw [c18]; decide) (by rw [c18]; decide) (by rw [c18]; rfl) (by decide) ?_
    refine x_aload_n C dX7_told_128 rfl 0 rfl ?_
    refine xg_X7_21 C dX7_told_129 ?_
    obtain ⟨q19, eq19, h⟩ := gb_some h
    refine x_vi (st := []) C kY_X4_crossings 2 4 rfl rfl rfl (m_X4_crossings l D cI cZ ad C.2.2.2.2.2.2.1 σ q19 eq19) kl_X7_87 ⟨rfl, rfl⟩ ⟨Nat.le_of_ble_eq_true rfl, Nat.le_of_ble_eq_true rfl⟩ ⟨Nat.zero_le _, Nat.zero_le _⟩ rfl rfl (Nat.le_of_ble_eq_true rfl) dX7_told_132 ?_
    exact x_iret C hr dX7_told_135 (Option.some.inj h)
  have h := (if_neg c18).symm.trans h
  by_cases c20 : p0 = 7
  · have h := (if_pos c20).symm.trans h
    refine x_tableIn (off := 135) C 136 dX7_told_1 (by rw [c20]; decide) (by rw [c20]; decide) (by rw [c20]; rfl) (by decide) ?_
    exact w_X7_told_136 C hr R0 p0 σ h
  have h := (if_neg c20).symm.trans h
  by_cases c21 : p0 = 8
  · have h := (if_pos c21).symm.trans h
    refine x_tableIn (off := 135) C 136 dX7_told_1 (by rw [c21]; decide) (by rw [c21]; decide) (by rw [c21]; rfl) (by decide) ?_
    exact w_X7_told_136 C hr R0 p0 σ h
  have h := (if_neg c21).symm.trans h
  by_cases c22 : p0 = 9
  · have h := (if_pos c22).symm.trans h
    refine x_tableIn (off := 135) C 136 dX7_told_1 (by rw [c22]; decide) (by rw [c22]; decide) (by rw [c22]; rfl) (by decide) ?_
    exact w_X7_told_136 C hr R0 p0 σ h
  have h := (if_neg c22).symm.trans h
  by_cases c23 : p0 = 10
  · have h := (if_pos c23).symm.trans h
    refine x_tableIn (off := 135) C 136 dX7_told_1 (by rw [c23]; decide) (by rw [c23]; decide) (by rw [c23]; rfl) (by decide) ?_
    exact w_X7_told_136 C hr R0 p0 σ h
  have h := (if_neg c23).symm.trans h
  by_cases c24 : p0 = 11
  · have h := (if_pos c24).symm.trans h
    refine x_tableIn (off := 135) C 136 dX7_told_1 (by rw [c24]; decide) (by rw [c24]; decide) (by rw [c24]; rfl) (by decide) ?_
    exact w_X7_told_136 C hr R0 p0 σ h
  have h := (if_neg c24).symm.trans h
  by_cases c25 : p0 = 12
  · have h := (if_pos c25).symm.trans h
    refine x_tableIn (off := 147) C 148 dX7_told_1 (by rw [c25]; decide) (by rw [c25]; decide) (by rw [c25]; rfl) (by decide) ?_
    refine x_aload_n C dX7_told_148 rfl 0 rfl ?_
    refine xg_X7_49 C dX7_told_149 ?_
    obtain ⟨q26, eq26, h⟩ := gb_some h
    refine x_vi (st := []) C kY_X0_size 6 0 rfl rfl rfl (m_X0_size l D cI cZ ad C.2.2.2.2.2.2.1 σ q26 eq26) kl_X7_94 ⟨rfl, rfl⟩ ⟨Nat.le_of_ble_eq_true rfl, Nat.le_of_ble_eq_true rfl⟩ ⟨Nat.zero_le _, Nat.zero_le _⟩ rfl rfl (Nat.le_of_ble_eq_true rfl) dX7_told_152 ?_
    exact x_iret C hr dX7_told_155 (Option.some.inj h)
  have h := (if_neg c25).symm.trans h
  by_cases c27 : p0 = 13
  · have h := (if_pos c27).symm.trans h
    refine x_tableIn (off := 155) C 156 dX7_told_1 (by rw [c27]; decide) (by rw [c27]; decide) (by rw [c27]; rfl) (by decide) ?_
    refine x_aload_n C dX7_told_156 rfl 0 rfl ?_
    refine xg_X7_49 C dX7_told_157 ?_
    refine x_aload_n C dX7_told_160 rfl 0 rfl ?_
    obtain ⟨q28, eq28, h⟩ := gb_some h
    refine x_vr (st := [.ref (ad 6)]) C kY_X7_weighed 0 7 rfl rfl rfl (m_X7_weighed l D cI cZ ad C.2.2.2.2.2.2.1 σ q28 eq28) kl_X7_74 ⟨rfl, rfl⟩ ⟨Nat.le_of_ble_eq_true rfl, Nat.le_of_ble_eq_true rfl⟩ ⟨Nat.zero_le _, Nat.zero_le _⟩ rfl rfl (Nat.le_of_ble_eq_true rfl) dX7_told_161 ?_
    obtain ⟨q29, eq29, h⟩ := gb_some h
    refine x_vi (st := []) C kY_X0_wrong 6 0 rfl rfl rfl (m_X0_wrong l D cI cZ ad C.2.2.2.2.2.2.1 q28 q29 eq29) kl_X7_97 ⟨rfl, rfl⟩ ⟨Nat.le_of_ble_eq_true rfl, Nat.le_of_ble_eq_true rfl⟩ ⟨Nat.zero_le _, Nat.zero_le _⟩ rfl rfl (Nat.le_of_ble_eq_true rfl) dX7_told_164 ?_
    exact x_iret C hr dX7_told_167 (Option.some.inj h)
  have h := (if_neg c27).symm.trans h
  by_cases c30 : p0 = 14
  · have h := (if_pos c30).symm.trans h
    refine x_tableIn (off := 167) C 168 dX7_told_1 (by rw [c30]; decide) (by rw [c30]; decide) (by rw [c30]; rfl) (by decide) ?_
    refine x_aload_n C dX7_told_168 rfl 0 rfl ?_
    refine xg_X7_35 C dX7_told_169 ?_
    obtain ⟨q31, eq31, h⟩ := gb_some h
    refine x_vi (st := []) C kY_X2_held 4 2 rfl rfl rfl (m_X2_held l D cI cZ ad C.2.2.2.2.2.2.1 σ q31 eq31) kl_X7_101 ⟨rfl, rfl⟩ ⟨Nat.le_of_ble_eq_true rfl, Nat.le_of_ble_eq_true rfl⟩ ⟨Nat.zero_le _, Nat.zero_le _⟩ rfl rfl (Nat.le_of_ble_eq_true rfl) dX7_told_172 ?_
    exact x_iret C hr dX7_told_175 (Option.some.inj h)
  have h := (if_neg c30).symm.trans h
  by_cases c32 : p0 = 15
  · have h := (if_pos c32).symm.trans h
    refine x_tableIn (off := 175) C 176 dX7_told_1 (by rw [c32]; decide) (by rw [c32]; decide) (by rw [c32]; rfl) (by decide) ?_
    refine x_aload_n C dX7_told_176 rfl 0 rfl ?_
    refine xg_X7_56 C dX7_told_177 ?_
    obtain ⟨q33, eq33, h⟩ := gb_some h
    refine x_vi (st := []) C kY_X1_state 7 1 rfl rfl rfl (m_X1_state l D cI cZ ad C.2.2.2.2.2.2.1 σ q33 eq33) kl_X7_104 ⟨rfl, rfl⟩ ⟨Nat.le_of_ble_eq_true rfl, Nat.le_of_ble_eq_true rfl⟩ ⟨Nat.zero_le _, Nat.zero_le _⟩ rfl rfl (Nat.le_of_ble_eq_true rfl) dX7_told_180 ?_
    exact x_iret C hr dX7_told_183 (Option.some.inj h)
  have h := (if_neg c32).symm.trans h
  have hn34 : (p0).toInt < 0 ∨ 15 < (p0).toInt := by
    have := lv_neT (a := 0) c1 (by decide)
    have := lv_neT (a := 1) c3 (by decide)
    have := lv_neT (a := 2) c6 (by decide)
    have := lv_neT (a := 3) c9 (by decide)
    have := lv_neT (a := 4) c12 (by decide)
    have := lv_neT (a := 5) c15 (by decide)
    have := lv_neT (a := 6) c18 (by decide)
    have := lv_neT (a := 7) c20 (by decide)
    have := lv_neT (a := 8) c21 (by decide)
    have := lv_neT (a := 9) c22 (by decide)
    have := lv_neT (a := 10) c23 (by decide)
    have := lv_neT (a := 11) c24 (by decide)
    have := lv_neT (a := 12) c25 (by decide)
    have := lv_neT (a := 13) c27 (by decide)
    have := lv_neT (a := 14) c30 (by decide)
    have := lv_neT (a := 15) c32 (by decide)
    omega
  refine x_tableOut C 184 dX7_told_1 hn34 (by decide) ?_
  refine x_ldc C kc_X7_107 dX7_told_184 ?_
  exact x_iret C hr dX7_told_186 (Option.some.inj h)
theorem m_X7_told (l : Launch) (D : va_G) (cI cZ : ClassId) (ad : Nat → Nat) (hJ : pv_J ad) (p0 : Int32) (σ : pv_S) (R0 : (Int32 × pv_S)) (h : f_X7_told p0 σ = some R0) : Met l yX7_told (Cond.code yX7_told cX7_told 2 (some .int) :: lwG) r_X7_told (va_Pc [.ref (ad 0), .int p0] (pv_P D cI cZ ad σ)) (pv_QI D cI cZ ad R0) 0 0 (pv_A ad) := x_met (by decide) rfl hJ (Nat.le_of_ble_eq_true rfl) (fun p e s m args below meth c C hr => w_X7_told_0 C hr R0 p0 σ h)
abbrev r_X4_ahead : Room := { frames := 1, cells := 0, slots := 0, locals := 21 }
set_option maxRecDepth 100000 in
set_option maxHeartbeats 4000000 in
theorem w_X4_ahead_0 {p : Program} {l : Launch} {e : Env} {s : State} {m : MethodId} {args : Array Value} {below : List Frame} {meth : Method} {c : Code} {D : va_G} {cI cZ : ClassId} {ad : Nat → Nat} (C : pv_C p s m args meth c cX4_ahead 2 RX4 D cI cZ ad (pv_A ad)) (hr : meth.sig.returnType = some .int) (R0 : (Int32 × pv_S)) (p0 : Int32) (σ : pv_S) (h : f_X4_ahead p0 σ = some R0) : Wx p l e r_X4_ahead s m args below meth c 0 0 (MQ below (pv_QI D cI cZ ad R0) args s 0 0 (pv_A ad)) 2 D cI cZ ad (pv_A ad) 0 [(0, .ref (ad 2)), (1, .int p0)] [] σ := by
  unfold f_X4_ahead at h
  refine x_aload_n C dX4_ahead_0 rfl 0 rfl ?_
  refine xg_X4_18 C dX4_ahead_1 ?_
  refine x_iload_n C dX4_ahead_4 rfl 1 rfl ?_
  obtain ⟨q1, eq1, h⟩ := gb_some h
  refine x_vi (st := []) C kY_X6_has 1 6 rfl rfl rfl (m_X6_has l D cI cZ ad C.2.2.2.2.2.2.1 p0 σ q1 eq1) kl_X4_38 ⟨rfl, rfl⟩ ⟨Nat.le_of_ble_eq_true rfl, Nat.le_of_ble_eq_true rfl⟩ ⟨Nat.zero_le _, Nat.zero_le _⟩ rfl rfl (Nat.le_of_ble_eq_true rfl) dX4_ahead_5 ?_
  refine x_if_eq C 20 dX4_ahead_8 (by decide) (fun c2 => ?_) (fun c2 => ?_)
  · have h := (if_pos c2).symm.trans h
    refine x_iconst (v := (-1)) C dX4_ahead_20 (by decide) ?_
    exact x_iret C hr dX4_ahead_21 (Option.some.inj h)
  · have h := (if_neg c2).symm.trans h
    refine x_aload_n C dX4_ahead_11 rfl 0 rfl ?_
    refine xg_X4_9 C dX4_ahead_12 ?_
    refine x_iload_n C dX4_ahead_15 rfl 1 rfl ?_
    obtain ⟨g3, h⟩ := gd_some h
    refine xl_1 C g3 dX4_ahead_16 ?_
    refine x_goto C 21 dX4_ahead_17 (by decide) ?_
    exact x_iret C hr dX4_ahead_21 (Option.some.inj h)
theorem m_X4_ahead (l : Launch) (D : va_G) (cI cZ : ClassId) (ad : Nat → Nat) (hJ : pv_J ad) (p0 : Int32) (σ : pv_S) (R0 : (Int32 × pv_S)) (h : f_X4_ahead p0 σ = some R0) : Met l yX4_ahead (Cond.code yX4_ahead cX4_ahead 2 (some .int) :: lwG) r_X4_ahead (va_Pc [.ref (ad 2), .int p0] (pv_P D cI cZ ad σ)) (pv_QI D cI cZ ad R0) 0 0 (pv_A ad) := x_met (by decide) rfl hJ (Nat.le_of_ble_eq_true rfl) (fun p e s m args below meth c C hr => w_X4_ahead_0 C hr R0 p0 σ h)
abbrev r_X4_voiceWith : Room := { frames := 1, cells := 0, slots := 0, locals := 21 }
set_option maxRecDepth 100000 in
set_option maxHeartbeats 4000000 in
theorem w_X4_voiceWith_0 {p : Program} {l : Launch} {e : Env} {s : State} {m : MethodId} {args : Array Value} {below : List Frame} {meth : Method} {c : Code} {D : va_G} {cI cZ : ClassId} {ad : Nat → Nat} (C : pv_C p s m args meth c cX4_voiceWith 2 RX4 D cI cZ ad (pv_A ad)) (hr : meth.sig.returnType = some .int) (R0 : (Int32 × pv_S)) (p0 : Int32) (σ : pv_S) (h : f_X4_voiceWith p0 σ = some R0) : Wx p l e r_X4_voiceWith s m args below meth c 0 0 (MQ below (pv_QI D cI cZ ad R0) args s 0 0 (pv_A ad)) 2 D cI cZ ad (pv_A ad) 0 [(0, .ref (ad 2)), (1, .int p0)] [] σ := by
  unfold f_X4_voiceWith at h
  refine x_aload_n C dX4_voiceWith_0 rfl 0 rfl ?_
  refine xg_X4_18 C dX4_voiceWith_1 ?_
  refine x_iload_n C dX4_voiceWith_4 rfl 1 rfl ?_
  obtain ⟨q1, eq1, h⟩ := gb_some h
  refine x_vi (st := []) C kY_X6_has 1 6 rfl rfl rfl (m_X6_has l D cI cZ ad C.2.2.2.2.2.2.1 p0 σ q1 eq1) kl_X4_38 ⟨rfl, rfl⟩ ⟨Nat.le_of_ble_eq_true rfl, Nat.le_of_ble_eq_true rfl⟩ ⟨Nat.zero_le _, Nat.zero_le _⟩ rfl rfl (Nat.le_of_ble_eq_true rfl) dX4_voiceWith_5 ?_
  refine x_if_eq C 20 dX4_voiceWith_8 (by decide) (fun c2 => ?_) (fun c2 => ?_)
  · have h := (if_pos c2).symm.trans h
    refine x_iconst (v := (-1)) C dX4_voiceWith_20 (by decide) ?_
    exact x_iret C hr dX4_voiceWith_21 (Option.some.inj h)
  · have h := (if_neg c2).symm.trans h
    refine x_aload_n C dX4_voiceWith_11 rfl 0 rfl ?_
    refine xg_X4_15 C dX4_voiceWith_12 ?_
    refine x_iload_n C dX4_voiceWith_15 rfl 1 rfl ?_
    obtain ⟨g3, h⟩ := gd_some h
    refine xl_2 C g3 dX4_voiceWith_16 ?_
    refine x_goto C 21 dX4_voiceWith_17 (by decide) ?_
    exact x_iret C hr dX4_voiceWith_21 (Option.some.inj h)
theorem m_X4_voiceWith (l : Launch) (D : va_G) (cI cZ : ClassId) (ad : Nat → Nat) (hJ : pv_J ad) (p0 : Int32) (σ : pv_S) (R0 : (Int32 × pv_S)) (h : f_X4_voiceWith p0 σ = some R0) : Met l yX4_voiceWith (Cond.code yX4_voiceWith cX4_voiceWith 2 (some .int) :: lwG) r_X4_voiceWith (va_Pc [.ref (ad 2), .int p0] (pv_P D cI cZ ad σ)) (pv_QI D cI cZ ad R0) 0 0 (pv_A ad) := x_met (by decide) rfl hJ (Nat.le_of_ble_eq_true rfl) (fun p e s m args below meth c C hr => w_X4_voiceWith_0 C hr R0 p0 σ h)
abbrev r_X5_price : Room := { frames := 5, cells := 0, slots := 0, locals := 114 }
set_option maxRecDepth 100000 in
set_option maxHeartbeats 4000000 in
theorem w_X5_price_0 {p : Program} {l : Launch} {e : Env} {s : State} {m : MethodId} {args : Array Value} {below : List Frame} {meth : Method} {c : Code} {D : va_G} {cI cZ : ClassId} {ad : Nat → Nat} (C : pv_C p s m args meth c cX5_price 3 RX5 D cI cZ ad (pv_A ad)) (hr : meth.sig.returnType = some .int) (R0 : (Int32 × pv_S)) (p0 : Int32) (σ : pv_S) (h : f_X5_price p0 σ = some R0) : Wx p l e r_X5_price s m args below meth c 0 0 (MQ below (pv_QI D cI cZ ad R0) args s 0 0 (pv_A ad)) 3 D cI cZ ad (pv_A ad) 0 [(0, .ref (ad 3)), (1, .int p0)] [] σ := by
  unfold f_X5_price at h
  refine x_aload_n C dX5_price_0 rfl 0 rfl ?_
  refine x_iconst (v := (-1)) C dX5_price_1 (by decide) ?_
  obtain ⟨q1, eq1, h⟩ := gb_some h
  refine x_vv (st := []) C kY_X5_weigh 3 5 rfl rfl rfl (m_X5_weigh l D cI cZ ad C.2.2.2.2.2.2.1 (-1) σ q1 eq1) kl_X5_111 ⟨rfl, rfl⟩ ⟨Nat.le_of_ble_eq_true rfl, Nat.le_of_ble_eq_true rfl⟩ ⟨Nat.zero_le _, Nat.zero_le _⟩ rfl rfl (Nat.le_of_ble_eq_true rfl) dX5_price_2 ?_
  refine x_aload_n C dX5_price_5 rfl 0 rfl ?_
  obtain ⟨q2, eq2, h⟩ := gb_some h
  refine x_vi (st := []) C kY_X5_cheapestCost 3 5 rfl rfl rfl (m_X5_cheapestCost l D cI cZ ad C.2.2.2.2.2.2.1 q1 q2 eq2) kl_X5_114 ⟨rfl, rfl⟩ ⟨Nat.le_of_ble_eq_true rfl, Nat.le_of_ble_eq_true rfl⟩ ⟨Nat.zero_le _, Nat.zero_le _⟩ rfl rfl (Nat.le_of_ble_eq_true rfl) dX5_price_6 ?_
  refine x_istore_n (lv' := [(2, .int q2.1), (0, .ref (ad 3)), (1, .int p0)]) C dX5_price_9 rfl (by decide) rfl ?_
  refine x_aload_n C dX5_price_10 rfl 1 rfl ?_
  refine x_iload_n C dX5_price_11 rfl 2 rfl ?_
  obtain ⟨q3, eq3, h⟩ := gb_some h
  refine x_vv (st := []) C kY_X5_weigh 3 5 rfl rfl rfl (m_X5_weigh l D cI cZ ad C.2.2.2.2.2.2.1 p0 q2.2 q3 eq3) kl_X5_111 ⟨rfl, rfl⟩ ⟨Nat.le_of_ble_eq_true rfl, Nat.le_of_ble_eq_true rfl⟩ ⟨Nat.zero_le _, Nat.zero_le _⟩ rfl rfl (Nat.le_of_ble_eq_true rfl) dX5_price_12 ?_
  refine x_iload_n C dX5_price_15 rfl 0 rfl ?_
  refine x_aload_n C dX5_price_16 rfl 1 rfl ?_
  obtain ⟨q4, eq4, h⟩ := gb_some h
  refine x_vi (st := [.int q2.1]) C kY_X5_cheapestCost 3 5 rfl rfl rfl (m_X5_cheapestCost l D cI cZ ad C.2.2.2.2.2.2.1 q3 q4 eq4) kl_X5_114 ⟨rfl, rfl⟩ ⟨Nat.le_of_ble_eq_true rfl, Nat.le_of_ble_eq_true rfl⟩ ⟨Nat.zero_le _, Nat.zero_le _⟩ rfl rfl (Nat.le_of_ble_eq_true rfl) dX5_price_17 ?_
  refine x_aload_n C dX5_price_20 rfl 1 rfl ?_
  refine xg_X5_56 C dX5_price_21 ?_
  refine x_isub C dX5_price_24 ?_
  refine x_isub C dX5_price_25 ?_
  exact x_iret C hr dX5_price_26 (Option.some.inj h)
theorem m_X5_price (l : Launch) (D : va_G) (cI cZ : ClassId) (ad : Nat → Nat) (hJ : pv_J ad) (p0 : Int32) (σ : pv_S) (R0 : (Int32 × pv_S)) (h : f_X5_price p0 σ = some R0) : Met l yX5_price (Cond.code yX5_price cX5_price 3 (some .int) :: lwG) r_X5_price (va_Pc [.ref (ad 3), .int p0] (pv_P D cI cZ ad σ)) (pv_QI D cI cZ ad R0) 0 0 (pv_A ad) := x_met (by decide) rfl hJ (Nat.le_of_ble_eq_true rfl) (fun p e s m args below meth c C hr => w_X5_price_0 C hr R0 p0 σ h)
abbrev r_X6_countFollowers : Room := { frames := 3, cells := 0, slots := 0, locals := 66 }
set_option maxRecDepth 100000 in
set_option maxHeartbeats 4000000 in
theorem w_X6_countFollowers_4 {p : Program} {l : Launch} {e : Env} {s : State} {m : MethodId} {args : Array Value} {below : List Frame} {meth : Method} {c : Code} {D : va_G} {cI cZ : ClassId} {ad : Nat → Nat} (C : pv_C p s m args meth c cX6_countFollowers 4 RX6 D cI cZ ad (pv_A ad)) (hr : meth.sig.returnType = some .int) (R0 : (Int32 × pv_S)) : ∀ (n : Nat) (v1 : Int32) (v2 : Int32) (v3 : Int32) (σ : pv_S), f_X6_countFollowers_4 n v1 v2 v3 σ = some R0 → Wx p l e r_X6_countFollowers s m args below meth c 0 0 (MQ below (pv_QI D cI cZ ad R0) args s 0 0 (pv_A ad)) 4 D cI cZ ad (pv_A ad) 4 [(0, .ref (ad 1)), (1, .int v1), (2, .int v2), (3, .int v3)] [] σ := by
  intro n
  induction n with
  | zero =>
    intro v1 v2 v3 σ h
    have h2 : (none : Option (Int32 × pv_S)) = some R0 := h
    cases h2
  | succ n ih =>
    intro v1 v2 v3 σ h
    unfold f_X6_countFollowers_4 at h
    refine x_iload_n C dX6_countFollowers_4 rfl 3 rfl ?_
    refine x_aload_n C dX6_countFollowers_5 rfl 0 rfl ?_
    obtain ⟨q1, eq1, h⟩ := gb_some h
    refine x_vi (st := [.int v3]) C kY_X6_count 1 6 rfl rfl rfl (m_X6_count l D cI cZ ad C.2.2.2.2.2.2.1 σ q1 eq1) kl_X6_64 ⟨rfl, rfl⟩ ⟨Nat.le_of_ble_eq_true rfl, Nat.le_of_ble_eq_true rfl⟩ ⟨Nat.zero_le _, Nat.zero_le _⟩ rfl rfl (Nat.le_of_ble_eq_true rfl) dX6_countFollowers_6 ?_
    refine x_icmp_ge C 30 dX6_countFollowers_9 (by decide) (fun c2 => ?_) (fun c2 => ?_)
    · have h := (if_pos c2).symm.trans h
      refine x_iload_n C dX6_countFollowers_30 rfl 2 rfl ?_
      exact x_iret C hr dX6_countFollowers_31 (Option.some.inj h)
    · have h := (if_neg c2).symm.trans h
      refine x_aload_n C dX6_countFollowers_12 rfl 0 rfl ?_
      refine x_iload_n C dX6_countFollowers_13 rfl 1 rfl ?_
      refine x_iload_n C dX6_countFollowers_14 rfl 3 rfl ?_
      obtain ⟨q3, eq3, h⟩ := gb_some h
      refine x_vi (st := []) C kY_X6_mayFollow 1 6 rfl rfl rfl (m_X6_mayFollow l D cI cZ ad C.2.2.2.2.2.2.1 v1 v3 q1.2 q3 eq3) kl_X6_52 ⟨rfl, rfl⟩ ⟨Nat.le_of_ble_eq_true rfl, Nat.le_of_ble_eq_true rfl⟩ ⟨Nat.zero_le _, Nat.zero_le _⟩ rfl rfl (Nat.le_of_ble_eq_true rfl) dX6_countFollowers_15 ?_
      refine x_if_eq C 24 dX6_countFollowers_18 (by decide) (fun c4 => ?_) (fun c4 => ?_)
      · have h := (if_pos c4).symm.trans h
        refine x_iinc (v := (v3 + 1)) (lv' := [(3, .int (v3 + 1)), (0, .ref (ad 1)), (1, .int v1), (2, .int v2)]) C 3 dX6_countFollowers_24 rfl rfl (by decide) rfl ?_
        refine x_goto C 4 dX6_countFollowers_27 (by decide) ?_
        refine x_sub [1, 2, 3, 0] rfl ?_
        exact ih v1 v2 (v3 + 1) q3.2 h
      · have h := (if_neg c4).symm.trans h
        refine x_iinc (v := (v2 + 1)) (lv' := [(2, .int (v2 + 1)), (0, .ref (ad 1)), (1, .int v1), (3, .int v3)]) C 2 dX6_countFollowers_21 rfl rfl (by decide) rfl ?_
        refine x_iinc (v := (v3 + 1)) (lv' := [(3, .int (v3 + 1)), (2, .int (v2 + 1)), (0, .ref (ad 1)), (1, .int v1)]) C 3 dX6_countFollowers_24 rfl rfl (by decide) rfl ?_
        refine x_goto C 4 dX6_countFollowers_27 (by decide) ?_
        refine x_sub [2, 3, 1, 0] rfl ?_
        exact ih v1 (v2 + 1) (v3 + 1) q3.2 h
set_option maxRecDepth 100000 in
set_option maxHeartbeats 4000000 in
theorem w_X6_countFollowers_0 {p : Program} {l : Launch} {e : Env} {s : State} {m : MethodId} {args : Array Value} {below : List Frame} {meth : Method} {c : Code} {D : va_G} {cI cZ : ClassId} {ad : Nat → Nat} (C : pv_C p s m args meth c cX6_countFollowers 4 RX6 D cI cZ ad (pv_A ad)) (hr : meth.sig.returnType = some .int) (R0 : (Int32 × pv_S)) (p0 : Int32) (σ : pv_S) (h : f_X6_countFollowers p0 σ = some R0) : Wx p l e r_X6_countFollowers s m args below meth c 0 0 (MQ below (pv_QI D cI cZ ad R0) args s 0 0 (pv_A ad)) 4 D cI cZ ad (pv_A ad) 0 [(0, .ref (ad 1)), (1, .int p0)] [] σ := by
  unfold f_X6_countFollowers at h
  refine x_iconst (v := 0) C dX6_countFollowers_0 (by decide) ?_
  refine x_istore_n (lv' := [(2, .int 0), (0, .ref (ad 1)), (1, .int p0)]) C dX6_countFollowers_1 rfl (by decide) rfl ?_
  refine x_iconst (v := 0) C dX6_countFollowers_2 (by decide) ?_
  refine x_istore_n (lv' := [(3, .int 0), (2, .int 0), (0, .ref (ad 1)), (1, .int p0)]) C dX6_countFollowers_3 rfl (by decide) rfl ?_
  refine x_sub [2, 3, 1, 0] rfl ?_
  exact w_X6_countFollowers_4 C hr R0 pv_FU p0 0 0 σ h
theorem m_X6_countFollowers (l : Launch) (D : va_G) (cI cZ : ClassId) (ad : Nat → Nat) (hJ : pv_J ad) (p0 : Int32) (σ : pv_S) (R0 : (Int32 × pv_S)) (h : f_X6_countFollowers p0 σ = some R0) : Met l yX6_countFollowers (Cond.code yX6_countFollowers cX6_countFollowers 4 (some .int) :: lwG) r_X6_countFollowers (va_Pc [.ref (ad 1), .int p0] (pv_P D cI cZ ad σ)) (pv_QI D cI cZ ad R0) 0 0 (pv_A ad) := x_met (by decide) rfl hJ (Nat.le_of_ble_eq_true rfl) (fun p e s m args below meth c C hr => w_X6_countFollowers_0 C hr R0 p0 σ h)
abbrev r_X7_at : Room := { frames := 6, cells := 0, slots := 0, locals := 136 }
set_option maxRecDepth 100000 in
set_option maxHeartbeats 4000000 in
theorem w_X7_at_0 {p : Program} {l : Launch} {e : Env} {s : State} {m : MethodId} {args : Array Value} {below : List Frame} {meth : Method} {c : Code} {D : va_G} {cI cZ : ClassId} {ad : Nat → Nat} (C : pv_C p s m args meth c cX7_at 3 RX7 D cI cZ ad (pv_A ad)) (hr : meth.sig.returnType = some .int) (R0 : (Int32 × pv_S)) (p0 : Int32) (p1 : Int32) (σ : pv_S) (h : f_X7_at p0 p1 σ = some R0) : Wx p l e r_X7_at s m args below meth c 0 0 (MQ below (pv_QI D cI cZ ad R0) args s 0 0 (pv_A ad)) 3 D cI cZ ad (pv_A ad) 0 [(0, .ref (ad 0)), (1, .int p0), (2, .int p1)] [] σ := by
  unfold f_X7_at at h
  refine x_aload_n C dX7_at_0 rfl 0 rfl ?_
  refine xg_X7_10 C dX7_at_1 ?_
  refine x_iload_n C dX7_at_4 rfl 1 rfl ?_
  obtain ⟨q1, eq1, h⟩ := gb_some h
  refine x_vi (st := []) C kY_X6_has 1 6 rfl rfl rfl (m_X6_has l D cI cZ ad C.2.2.2.2.2.2.1 p0 σ q1 eq1) kl_X7_108 ⟨rfl, rfl⟩ ⟨Nat.le_of_ble_eq_true rfl, Nat.le_of_ble_eq_true rfl⟩ ⟨Nat.zero_le _, Nat.zero_le _⟩ rfl rfl (Nat.le_of_ble_eq_true rfl) dX7_at_5 ?_
  refine x_if_ne C 14 dX7_at_8 (by decide) (fun c2 => ?_) (fun c2 => ?_)
  · have h := (if_neg c2).symm.trans h
    refine x_iload_n C dX7_at_14 rfl 2 rfl ?_
    by_cases c3 : p1 = 0
    · have h := (if_pos c3).symm.trans h
      refine x_tableIn (off := 45) C 60 dX7_at_15 (by rw [c3]; decide) (by rw [c3]; decide) (by rw [c3]; rfl) (by decide) ?_
      refine x_aload_n C dX7_at_60 rfl 0 rfl ?_
      refine xg_X7_10 C dX7_at_61 ?_
      refine x_iload_n C dX7_at_64 rfl 1 rfl ?_
      obtain ⟨q4, eq4, h⟩ := gb_some h
      refine x_vi (st := []) C kY_X6_on 1 6 rfl rfl rfl (m_X6_on l D cI cZ ad C.2.2.2.2.2.2.1 p0 q1.2 q4 eq4) kl_X7_113 ⟨rfl, rfl⟩ ⟨Nat.le_of_ble_eq_true rfl, Nat.le_of_ble_eq_true rfl⟩ ⟨Nat.zero_le _, Nat.zero_le _⟩ rfl rfl (Nat.le_of_ble_eq_true rfl) dX7_at_65 ?_
      exact x_iret C hr dX7_at_68 (Option.some.inj h)
    have h := (if_neg c3).symm.trans h
    by_cases c5 : p1 = 1
    · have h := (if_pos c5).symm.trans h
      refine x_tableIn (off := 54) C 69 dX7_at_15 (by rw [c5]; decide) (by rw [c5]; decide) (by rw [c5]; rfl) (by decide) ?_
      refine x_aload_n C dX7_at_69 rfl 0 rfl ?_
      refine xg_X7_10 C dX7_at_70 ?_
      refine x_iload_n C dX7_at_73 rfl 1 rfl ?_
      obtain ⟨q6, eq6, h⟩ := gb_some h
      refine x_vi (st := []) C kY_X6_off 1 6 rfl rfl rfl (m_X6_off l D cI cZ ad C.2.2.2.2.2.2.1 p0 q1.2 q6 eq6) kl_X7_116 ⟨rfl, rfl⟩ ⟨Nat.le_of_ble_eq_true rfl, Nat.le_of_ble_eq_true rfl⟩ ⟨Nat.zero_le _, Nat.zero_le _⟩ rfl rfl (Nat.le_of_ble_eq_true rfl) dX7_at_74 ?_
      exact x_iret C hr dX7_at_77 (Option.some.inj h)
    have h := (if_neg c5).symm.trans h
    by_cases c7 : p1 = 2
    · have h := (if_pos c7).symm.trans h
      refine x_tableIn (off := 63) C 78 dX7_at_15 (by rw [c7]; decide) (by rw [c7]; decide) (by rw [c7]; rfl) (by decide) ?_
      refine x_aload_n C dX7_at_78 rfl 0 rfl ?_
      refine xg_X7_10 C dX7_at_79 ?_
      refine x_iload_n C dX7_at_82 rfl 1 rfl ?_
      obtain ⟨q8, eq8, h⟩ := gb_some h
      refine x_vi (st := []) C kY_X6_pitch 1 6 rfl rfl rfl (m_X6_pitch l D cI cZ ad C.2.2.2.2.2.2.1 p0 q1.2 q8 eq8) kl_X7_119 ⟨rfl, rfl⟩ ⟨Nat.le_of_ble_eq_true rfl, Nat.le_of_ble_eq_true rfl⟩ ⟨Nat.zero_le _, Nat.zero_le _⟩ rfl rfl (Nat.le_of_ble_eq_true rfl) dX7_at_83 ?_
      exact x_iret C hr dX7_at_86 (Option.some.inj h)
    have h := (if_neg c7).symm.trans h
    by_cases c9 : p1 = 3
    · have h := (if_pos c9).symm.trans h
      refine x_tableIn (off := 72) C 87 dX7_at_15 (by rw [c9]; decide) (by rw [c9]; decide) (by rw [c9]; rfl) (by decide) ?_
      refine x_aload_n C dX7_at_87 rfl 0 rfl ?_
      refine xg_X7_10 C dX7_at_88 ?_
      refine x_iload_n C dX7_at_91 rfl 1 rfl ?_
      obtain ⟨q10, eq10, h⟩ := gb_some h
      refine x_vi (st := []) C kY_X6_next 1 6 rfl rfl rfl (m_X6_next l D cI cZ ad C.2.2.2.2.2.2.1 p0 q1.2 q10 eq10) kl_X7_122 ⟨rfl, rfl⟩ ⟨Nat.le_of_ble_eq_true rfl, Nat.le_of_ble_eq_true rfl⟩ ⟨Nat.zero_le _, Nat.zero_le _⟩ rfl rfl (Nat.le_of_ble_eq_true rfl) dX7_at_92 ?_
      exact x_iret C hr dX7_at_95 (Option.some.inj h)
    have h := (if_neg c9).symm.trans h
    by_cases c11 : p1 = 4
    · have h := (if_pos c11).symm.trans h
      refine x_tableIn (off := 81) C 96 dX7_at_15 (by rw [c11]; decide) (by rw [c11]; decide) (by rw [c11]; rfl) (by decide) ?_
      refine x_aload_n C dX7_at_96 rfl 0 rfl ?_
      obtain ⟨q12, eq12, h⟩ := gb_some h
      refine x_vr (st := []) C kY_X7_standing 0 7 rfl rfl rfl (m_X7_standing l D cI cZ ad C.2.2.2.2.2.2.1 q1.2 q12 eq12) kl_X7_64 ⟨rfl, rfl⟩ ⟨Nat.le_of_ble_eq_true rfl, Nat.le_of_ble_eq_true rfl⟩ ⟨Nat.zero_le _, Nat.zero_le _⟩ rfl rfl (Nat.le_of_ble_eq_true rfl) dX7_at_97 ?_
      refine x_iload_n C dX7_at_100 rfl 1 rfl ?_
      obtain ⟨q13, eq13, h⟩ := gb_some h
      refine x_vi (st := []) C kY_X4_ahead 2 4 rfl rfl rfl (m_X4_ahead l D cI cZ ad C.2.2.2.2.2.2.1 p0 q12 q13 eq13) kl_X7_125 ⟨rfl, rfl⟩ ⟨Nat.le_of_ble_eq_true rfl, Nat.le_of_ble_eq_true rfl⟩ ⟨Nat.zero_le _, Nat.zero_le _⟩ rfl rfl (Nat.le_of_ble_eq_true rfl) dX7_at_101 ?_
      exact x_iret C hr dX7_at_104 (Option.some.inj h)
    have h := (if_neg c11).symm.trans h
    by_cases c14 : p1 = 5
    · have h := (if_pos c14).symm.trans h
      refine x_tableIn (off := 90) C 105 dX7_at_15 (by rw [c14]; decide) (by rw [c14]; decide) (by rw [c14]; rfl) (by decide) ?_
      refine x_aload_n C dX7_at_105 rfl 0 rfl ?_
      obtain ⟨q15, eq15, h⟩ := gb_some h
      refine x_vr (st := []) C kY_X7_standing 0 7 rfl rfl rfl (m_X7_standing l D cI cZ ad C.2.2.2.2.2.2.1 q1.2 q15 eq15) kl_X7_64 ⟨rfl, rfl⟩ ⟨Nat.le_of_ble_eq_true rfl, Nat.le_of_ble_eq_true rfl⟩ ⟨Nat.zero_le _, Nat.zero_le _⟩ rfl rfl (Nat.le_of_ble_eq_true rfl) dX7_at_106 ?_
      refine x_iload_n C dX7_at_109 rfl 1 rfl ?_
      obtain ⟨q16, eq16, h⟩ := gb_some h
      refine x_vi (st := []) C kY_X4_voiceWith 2 4 rfl rfl rfl (m_X4_voiceWith l D cI cZ ad C.2.2.2.2.2.2.1 p0 q15 q16 eq16) kl_X7_128 ⟨rfl, rfl⟩ ⟨Nat.le_of_ble_eq_true rfl, Nat.le_of_ble_eq_true rfl⟩ ⟨Nat.zero_le _, Nat.zero_le _⟩ rfl rfl (Nat.le_of_ble_eq_true rfl) dX7_at_110 ?_
      exact x_iret C hr dX7_at_113 (Option.some.inj h)
    have h := (if_neg c14).symm.trans h
    by_cases c17 : p1 = 6
    · have h := (if_pos c17).symm.trans h
      refine x_tableIn (off := 99) C 114 dX7_at_15 (by rw [c17]; decide) (by rw [c17]; decide) (by rw [c17]; rfl) (by decide) ?_
      refine x_aload_n C dX7_at_114 rfl 0 rfl ?_
      refine xg_X7_28 C dX7_at_115 ?_
      refine x_iload_n C dX7_at_118 rfl 1 rfl ?_
      obtain ⟨q18, eq18, h⟩ := gb_some h
      refine x_vi (st := []) C kY_X5_price 3 5 rfl rfl rfl (m_X5_price l D cI cZ ad C.2.2.2.2.2.2.1 p0 q1.2 q18 eq18) kl_X7_131 ⟨rfl, rfl⟩ ⟨Nat.le_of_ble_eq_true rfl, Nat.le_of_ble_eq_true rfl⟩ ⟨Nat.zero_le _, Nat.zero_le _⟩ rfl rfl (Nat.le_of_ble_eq_true rfl) dX7_at_119 ?_
      exact x_iret C hr dX7_at_122 (Option.some.inj h)
    have h := (if_neg c17).symm.trans h
    by_cases c19 : p1 = 7
    · have h := (if_pos c19).symm.trans h
      refine x_tableIn (off := 108) C 123 dX7_at_15 (by rw [c19]; decide) (by rw [c19]; decide) (by rw [c19]; rfl) (by decide) ?_
      refine x_aload_n C dX7_at_123 rfl 0 rfl ?_
      refine xg_X7_10 C dX7_at_124 ?_
      refine x_iload_n C dX7_at_127 rfl 1 rfl ?_
      obtain ⟨q20, eq20, h⟩ := gb_some h
      refine x_vi (st := []) C kY_X6_countFollowers 1 6 rfl rfl rfl (m_X6_countFollowers l D cI cZ ad C.2.2.2.2.2.2.1 p0 q1.2 q20 eq20) kl_X7_134 ⟨rfl, rfl⟩ ⟨Nat.le_of_ble_eq_true rfl, Nat.le_of_ble_eq_true rfl⟩ ⟨Nat.zero_le _, Nat.zero_le _⟩ rfl rfl (Nat.le_of_ble_eq_true rfl) dX7_at_128 ?_
      exact x_iret C hr dX7_at_131 (Option.some.inj h)
    have h := (if_neg c19).symm.trans h
    have hn21 : (p1).toInt < 0 ∨ 7 < (p1).toInt := by
      have := lv_neT (a := 0) c3 (by decide)
      have := lv_neT (a := 1) c5 (by decide)
      have := lv_neT (a := 2) c7 (by decide)
      have := lv_neT (a := 3) c9 (by decide)
      have := lv_neT (a := 4) c11 (by decide)
      have := lv_neT (a := 5) c14 (by decide)
      have := lv_neT (a := 6) c17 (by decide)
      have := lv_neT (a := 7) c19 (by decide)
      omega
    refine x_tableOut C 132 dX7_at_15 hn21 (by decide) ?_
    refine x_ldc C kc_X7_107 dX7_at_132 ?_
    exact x_iret C hr dX7_at_134 (Option.some.inj h)
  · have h := (if_pos c2).symm.trans h
    refine x_ldc C kc_X7_112 dX7_at_11 ?_
    exact x_iret C hr dX7_at_13 (Option.some.inj h)
theorem m_X7_at (l : Launch) (D : va_G) (cI cZ : ClassId) (ad : Nat → Nat) (hJ : pv_J ad) (p0 : Int32) (p1 : Int32) (σ : pv_S) (R0 : (Int32 × pv_S)) (h : f_X7_at p0 p1 σ = some R0) : Met l yX7_at (Cond.code yX7_at cX7_at 3 (some .int) :: lwG) r_X7_at (va_Pc [.ref (ad 0), .int p0, .int p1] (pv_P D cI cZ ad σ)) (pv_QI D cI cZ ad R0) 0 0 (pv_A ad) := x_met (by decide) rfl hJ (Nat.le_of_ble_eq_true rfl) (fun p e s m args below meth c C hr => w_X7_at_0 C hr R0 p0 p1 σ h)
abbrev r_X7_cost : Room := { frames := 4, cells := 0, slots := 0, locals := 91 }
set_option maxRecDepth 100000 in
set_option maxHeartbeats 4000000 in
theorem w_X7_cost_0 {p : Program} {l : Launch} {e : Env} {s : State} {m : MethodId} {args : Array Value} {below : List Frame} {meth : Method} {c : Code} {D : va_G} {cI cZ : ClassId} {ad : Nat → Nat} (C : pv_C p s m args meth c cX7_cost 3 RX7 D cI cZ ad (pv_A ad)) (hr : meth.sig.returnType = some .int) (R0 : (Int32 × pv_S)) (p0 : Int32) (p1 : Int32) (σ : pv_S) (h : f_X7_cost p0 p1 σ = some R0) : Wx p l e r_X7_cost s m args below meth c 0 0 (MQ below (pv_QI D cI cZ ad R0) args s 0 0 (pv_A ad)) 3 D cI cZ ad (pv_A ad) 0 [(0, .ref (ad 0)), (1, .int p0), (2, .int p1)] [] σ := by
  unfold f_X7_cost at h
  refine x_aload_n C dX7_cost_0 rfl 0 rfl ?_
  refine xg_X7_10 C dX7_cost_1 ?_
  refine x_iload_n C dX7_cost_4 rfl 1 rfl ?_
  obtain ⟨q1, eq1, h⟩ := gb_some h
  refine x_vi (st := []) C kY_X6_has 1 6 rfl rfl rfl (m_X6_has l D cI cZ ad C.2.2.2.2.2.2.1 p0 σ q1 eq1) kl_X7_108 ⟨rfl, rfl⟩ ⟨Nat.le_of_ble_eq_true rfl, Nat.le_of_ble_eq_true rfl⟩ ⟨Nat.zero_le _, Nat.zero_le _⟩ rfl rfl (Nat.le_of_ble_eq_true rfl) dX7_cost_5 ?_
  refine x_if_eq C 22 dX7_cost_8 (by decide) (fun c2 => ?_) (fun c2 => ?_)
  · have h := (if_pos c2).symm.trans h
    refine x_ldc C kc_X7_112 dX7_cost_22 ?_
    exact x_iret C hr dX7_cost_24 (Option.some.inj h)
  · have h := (if_neg c2).symm.trans h
    refine x_aload_n C dX7_cost_11 rfl 0 rfl ?_
    refine xg_X7_10 C dX7_cost_12 ?_
    refine x_iload_n C dX7_cost_15 rfl 2 rfl ?_
    obtain ⟨q3, eq3, h⟩ := gb_some h
    refine x_vi (st := []) C kY_X6_has 1 6 rfl rfl rfl (m_X6_has l D cI cZ ad C.2.2.2.2.2.2.1 p1 q1.2 q3 eq3) kl_X7_108 ⟨rfl, rfl⟩ ⟨Nat.le_of_ble_eq_true rfl, Nat.le_of_ble_eq_true rfl⟩ ⟨Nat.zero_le _, Nat.zero_le _⟩ rfl rfl (Nat.le_of_ble_eq_true rfl) dX7_cost_16 ?_
    refine x_if_ne C 25 dX7_cost_19 (by decide) (fun c4 => ?_) (fun c4 => ?_)
    · have h := (if_neg c4).symm.trans h
      refine x_aload_n C dX7_cost_25 rfl 0 rfl ?_
      refine xg_X7_10 C dX7_cost_26 ?_
      refine x_iload_n C dX7_cost_29 rfl 1 rfl ?_
      refine x_iload_n C dX7_cost_30 rfl 2 rfl ?_
      obtain ⟨q5, eq5, h⟩ := gb_some h
      refine x_vi (st := []) C kY_X6_costToFollow 1 6 rfl rfl rfl (m_X6_costToFollow l D cI cZ ad C.2.2.2.2.2.2.1 p0 p1 q3.2 q5 eq5) kl_X7_137 ⟨rfl, rfl⟩ ⟨Nat.le_of_ble_eq_true rfl, Nat.le_of_ble_eq_true rfl⟩ ⟨Nat.zero_le _, Nat.zero_le _⟩ rfl rfl (Nat.le_of_ble_eq_true rfl) dX7_cost_31 ?_
      exact x_iret C hr dX7_cost_34 (Option.some.inj h)
    · have h := (if_pos c4).symm.trans h
      refine x_ldc C kc_X7_112 dX7_cost_22 ?_
      exact x_iret C hr dX7_cost_24 (Option.some.inj h)
theorem m_X7_cost (l : Launch) (D : va_G) (cI cZ : ClassId) (ad : Nat → Nat) (hJ : pv_J ad) (p0 : Int32) (p1 : Int32) (σ : pv_S) (R0 : (Int32 × pv_S)) (h : f_X7_cost p0 p1 σ = some R0) : Met l yX7_cost (Cond.code yX7_cost cX7_cost 3 (some .int) :: lwG) r_X7_cost (va_Pc [.ref (ad 0), .int p0, .int p1] (pv_P D cI cZ ad σ)) (pv_QI D cI cZ ad R0) 0 0 (pv_A ad) := x_met (by decide) rfl hJ (Nat.le_of_ble_eq_true rfl) (fun p e s m args below meth c C hr => w_X7_cost_0 C hr R0 p0 p1 σ h)
abbrev r_X7_least : Room := { frames := 6, cells := 0, slots := 0, locals := 134 }
set_option maxRecDepth 100000 in
set_option maxHeartbeats 4000000 in
theorem w_X7_least_0 {p : Program} {l : Launch} {e : Env} {s : State} {m : MethodId} {args : Array Value} {below : List Frame} {meth : Method} {c : Code} {D : va_G} {cI cZ : ClassId} {ad : Nat → Nat} (C : pv_C p s m args meth c cX7_least 2 RX7 D cI cZ ad (pv_A ad)) (hr : meth.sig.returnType = some .int) (R0 : (Int32 × pv_S)) (p0 : Int32) (σ : pv_S) (h : f_X7_least p0 σ = some R0) : Wx p l e r_X7_least s m args below meth c 0 0 (MQ below (pv_QI D cI cZ ad R0) args s 0 0 (pv_A ad)) 2 D cI cZ ad (pv_A ad) 0 [(0, .ref (ad 0)), (1, .int p0)] [] σ := by
  unfold f_X7_least at h
  refine x_iload_n C dX7_least_0 rfl 1 rfl ?_
  obtain ⟨q1, eq1, h⟩ := gb_some h
  refine x_si (st := []) C kY_X7_isVoiceCount (m_X7_isVoiceCount l D cI cZ ad C.2.2.2.2.2.2.1 p0 σ q1 eq1) kl_X7_141 ⟨rfl, rfl⟩ ⟨Nat.le_of_ble_eq_true rfl, Nat.le_of_ble_eq_true rfl⟩ ⟨Nat.zero_le _, Nat.zero_le _⟩ rfl rfl (Nat.le_of_ble_eq_true rfl) dX7_least_1 ?_
  refine x_if_ne C 10 dX7_least_4 (by decide) (fun c2 => ?_) (fun c2 => ?_)
  · have h := (if_neg c2).symm.trans h
    refine x_aload_n C dX7_least_10 rfl 0 rfl ?_
    obtain ⟨q3, eq3, h⟩ := gb_some h
    refine x_vr (st := []) C kY_X7_weighed 0 7 rfl rfl rfl (m_X7_weighed l D cI cZ ad C.2.2.2.2.2.2.1 q1.2 q3 eq3) kl_X7_74 ⟨rfl, rfl⟩ ⟨Nat.le_of_ble_eq_true rfl, Nat.le_of_ble_eq_true rfl⟩ ⟨Nat.zero_le _, Nat.zero_le _⟩ rfl rfl (Nat.le_of_ble_eq_true rfl) dX7_least_11 ?_
    refine x_iload_n C dX7_least_14 rfl 1 rfl ?_
    obtain ⟨q4, eq4, h⟩ := gb_some h
    refine x_vi (st := []) C kY_X5_leastCost 3 5 rfl rfl rfl (m_X5_leastCost l D cI cZ ad C.2.2.2.2.2.2.1 p0 q3 q4 eq4) kl_X7_144 ⟨rfl, rfl⟩ ⟨Nat.le_of_ble_eq_true rfl, Nat.le_of_ble_eq_true rfl⟩ ⟨Nat.zero_le _, Nat.zero_le _⟩ rfl rfl (Nat.le_of_ble_eq_true rfl) dX7_least_15 ?_
    exact x_iret C hr dX7_least_18 (Option.some.inj h)
  · have h := (if_pos c2).symm.trans h
    refine x_ldc C kc_X7_107 dX7_least_7 ?_
    exact x_iret C hr dX7_least_9 (Option.some.inj h)
theorem m_X7_least (l : Launch) (D : va_G) (cI cZ : ClassId) (ad : Nat → Nat) (hJ : pv_J ad) (p0 : Int32) (σ : pv_S) (R0 : (Int32 × pv_S)) (h : f_X7_least p0 σ = some R0) : Met l yX7_least (Cond.code yX7_least cX7_least 2 (some .int) :: lwG) r_X7_least (va_Pc [.ref (ad 0), .int p0] (pv_P D cI cZ ad σ)) (pv_QI D cI cZ ad R0) 0 0 (pv_A ad) := x_met (by decide) rfl hJ (Nat.le_of_ble_eq_true rfl) (fun p e s m args below meth c C hr => w_X7_least_0 C hr R0 p0 σ h)
abbrev r_X5_leastBehind : Room := { frames := 1, cells := 0, slots := 0, locals := 21 }
set_option maxRecDepth 100000 in
set_option maxHeartbeats 4000000 in
theorem w_X5_leastBehind_37 {p : Program} {l : Launch} {e : Env} {s : State} {m : MethodId} {args : Array Value} {below : List Frame} {meth : Method} {c : Code} {D : va_G} {cI cZ : ClassId} {ad : Nat → Nat} (C : pv_C p s m args meth c cX5_leastBehind 7 RX5 D cI cZ ad (pv_A ad)) (hr : meth.sig.returnType = some .int) (R0 : (Int32 × pv_S)) : ∀ (n : Nat) (v2 : Int32) (v3 : Int32) (v4 : Int32) (v5 : Int32) (v6 : Int32) (σ : pv_S), f_X5_leastBehind_37 n v2 v3 v4 v5 v6 σ = some R0 → Wx p l e r_X5_leastBehind s m args below meth c 0 0 (MQ below (pv_QI D cI cZ ad R0) args s 0 0 (pv_A ad)) 7 D cI cZ ad (pv_A ad) 37 [(0, .ref (ad 3)), (2, .int v2), (3, .int v3), (4, .int v4), (5, .int v5), (6, .int v6)] [] σ := by
  intro n
  induction n with
  | zero =>
    intro v2 v3 v4 v5 v6 σ h
    have h2 : (none : Option (Int32 × pv_S)) = some R0 := h
    cases h2
  | succ n ih =>
    intro v2 v3 v4 v5 v6 σ h
    unfold f_X5_leastBehind_37 at h
    refine x_iload C dX5_leastBehind_37 5 rfl ?_
    refine x_iload C dX5_leastBehind_39 3 rfl ?_
    refine x_icmp_ge C 83 dX5_leastBehind_41 (by decide) (fun c1 => ?_) (fun c1 => ?_)
    · have h := (if_pos c1).symm.trans h
      refine x_iload C dX5_leastBehind_83 4 rfl ?_
      exact x_iret C hr dX5_leastBehind_85 (Option.some.inj h)
    · have h := (if_neg c1).symm.trans h
      refine x_iload C dX5_leastBehind_44 5 rfl ?_
      refine x_iload_n C dX5_leastBehind_46 rfl 2 rfl ?_
      refine x_iand C dX5_leastBehind_47 ?_
      refine x_if_ne C 77 dX5_leastBehind_48 (by decide) (fun c2 => ?_) (fun c2 => ?_)
      · have h := (if_neg c2).symm.trans h
        refine x_iinc (v := (v6 + 1)) (lv' := [(6, .int (v6 + 1)), (0, .ref (ad 3)), (2, .int v2), (3, .int v3), (4, .int v4), (5, .int v5)]) C 5 dX5_leastBehind_77 rfl rfl (by decide) rfl ?_
        refine x_goto C 37 dX5_leastBehind_80 (by decide) ?_
        refine x_sub [1, 2, 3, 4, 5, 0] rfl ?_
        exact ih v2 v3 v4 v5 (v6 + 1) σ h
      · have h := (if_pos c2).symm.trans h
        refine x_iload C dX5_leastBehind_51 5 rfl ?_
        obtain ⟨q3, eq3, h⟩ := gb_some h
        refine x_si (st := []) C kY_J6_bitCount_0f7a4 (m_J6_bitCount_0f7a4 l D cI cZ ad C.2.2.2.2.2.2.1 v6 σ q3 eq3) kl_X5_89 ⟨rfl, rfl⟩ ⟨Nat.le_of_ble_eq_true rfl, Nat.le_of_ble_eq_true rfl⟩ ⟨Nat.zero_le _, Nat.zero_le _⟩ rfl rfl (Nat.le_of_ble_eq_true rfl) dX5_leastBehind_53 ?_
        refine x_iload_n C dX5_leastBehind_56 rfl 1 rfl ?_
        refine x_icmp_ne C 77 dX5_leastBehind_57 (by decide) (fun c4 => ?_) (fun c4 => ?_)
        · have h := (if_neg c4).symm.trans h
          refine x_iinc (v := (v6 + 1)) (lv' := [(6, .int (v6 + 1)), (0, .ref (ad 3)), (2, .int v2), (3, .int v3), (4, .int v4), (5, .int v5)]) C 5 dX5_leastBehind_77 rfl rfl (by decide) rfl ?_
          refine x_goto C 37 dX5_leastBehind_80 (by decide) ?_
          refine x_sub [1, 2, 3, 4, 5, 0] rfl ?_
          exact ih v2 v3 v4 v5 (v6 + 1) q3.2 h
        · have h := (if_pos c4).symm.trans h
          refine x_iload C dX5_leastBehind_60 4 rfl ?_
          refine x_aload_n C dX5_leastBehind_62 rfl 0 rfl ?_
          refine xg_X5_15 C dX5_leastBehind_63 ?_
          refine x_iload C dX5_leastBehind_66 3 rfl ?_
          refine x_iload C dX5_leastBehind_68 5 rfl ?_
          refine x_iadd C dX5_leastBehind_70 ?_
          obtain ⟨g5, h⟩ := gd_some h
          refine xl_4 C g5 dX5_leastBehind_71 ?_
          refine x_mmin C kl_X5_44 kM_min kM_init kMc_min ⟨Nat.le_of_ble_eq_true rfl, Nat.le_of_ble_eq_true rfl⟩ ⟨Nat.zero_le _, Nat.zero_le _⟩ dX5_leastBehind_72 ?_
          refine x_istore (lv' := [(5, .int (if (pv_la q3.2 4 (v4 + v6)) < v5 then (pv_la q3.2 4 (v4 + v6)) else v5)), (0, .ref (ad 3)), (2, .int v2), (3, .int v3), (4, .int v4), (6, .int v6)]) C dX5_leastBehind_75 (by decide) rfl ?_
          refine x_iinc (v := (v6 + 1)) (lv' := [(6, .int (v6 + 1)), (5, .int (if (pv_la q3.2 4 (v4 + v6)) < v5 then (pv_la q3.2 4 (v4 + v6)) else v5)), (0, .ref (ad 3)), (2, .int v2), (3, .int v3), (4, .int v4)]) C 5 dX5_leastBehind_77 rfl rfl (by decide) rfl ?_
          refine x_goto C 37 dX5_leastBehind_80 (by decide) ?_
          refine x_sub [2, 3, 4, 5, 1, 0] rfl ?_
          exact ih v2 v3 v4 (if (pv_la q3.2 4 (v4 + v6)) < v5 then (pv_la q3.2 4 (v4 + v6)) else v5) (v6 + 1) q3.2 h
set_option maxRecDepth 100000 in
set_option maxHeartbeats 4000000 in
theorem w_X5_leastBehind_0 {p : Program} {l : Launch} {e : Env} {s : State} {m : MethodId} {args : Array Value} {below : List Frame} {meth : Method} {c : Code} {D : va_G} {cI cZ : ClassId} {ad : Nat → Nat} (C : pv_C p s m args meth c cX5_leastBehind 7 RX5 D cI cZ ad (pv_A ad)) (hr : meth.sig.returnType = some .int) (R0 : (Int32 × pv_S)) (p0 : Int32) (p1 : Int32) (p2 : Int32) (σ : pv_S) (h : f_X5_leastBehind p0 p1 p2 σ = some R0) : Wx p l e r_X5_leastBehind s m args below meth c 0 0 (MQ below (pv_QI D cI cZ ad R0) args s 0 0 (pv_A ad)) 7 D cI cZ ad (pv_A ad) 0 [(0, .ref (ad 3)), (1, .int p0), (2, .int p1), (3, .int p2)] [] σ := by
  unfold f_X5_leastBehind at h
  refine x_iload_n C dX5_leastBehind_0 rfl 1 rfl ?_
  refine x_iconst (v := 1) C dX5_leastBehind_1 (by decide) ?_
  refine x_iadd C dX5_leastBehind_2 ?_
  refine x_aload_n C dX5_leastBehind_3 rfl 0 rfl ?_
  refine xg_X5_50 C dX5_leastBehind_4 ?_
  refine x_icmp_lt C 21 dX5_leastBehind_7 (by decide) (fun c1 => ?_) (fun c1 => ?_)
  · have h := (if_pos c1).symm.trans h
    refine x_aload_n C dX5_leastBehind_21 rfl 0 rfl ?_
    refine x_iload_n C dX5_leastBehind_22 rfl 1 rfl ?_
    refine x_iconst (v := 1) C dX5_leastBehind_23 (by decide) ?_
    refine x_iadd C dX5_leastBehind_24 ?_
    obtain ⟨q2, eq2, h⟩ := gb_some h
    refine x_vi (st := []) C kY_X5_bit 3 5 rfl rfl rfl (m_X5_bit l D cI cZ ad C.2.2.2.2.2.2.1 (p0 + 1) σ q2 eq2) kl_X5_66 ⟨rfl, rfl⟩ ⟨Nat.le_of_ble_eq_true rfl, Nat.le_of_ble_eq_true rfl⟩ ⟨Nat.zero_le _, Nat.zero_le _⟩ rfl rfl (Nat.le_of_ble_eq_true rfl) dX5_leastBehind_25 ?_
    refine x_istore (lv' := [(4, .int q2.1), (0, .ref (ad 3)), (1, .int p0), (2, .int p1), (3, .int p2)]) C dX5_leastBehind_28 (by decide) rfl ?_
    refine x_ldc C kc_X5_59 dX5_leastBehind_30 ?_
    refine x_istore (lv' := [(5, .int 1000000), (4, .int q2.1), (0, .ref (ad 3)), (1, .int p0), (2, .int p1), (3, .int p2)]) C dX5_leastBehind_32 (by decide) rfl ?_
    refine x_iconst (v := 0) C dX5_leastBehind_34 (by decide) ?_
    refine x_istore (lv' := [(6, .int 0), (5, .int 1000000), (4, .int q2.1), (0, .ref (ad 3)), (1, .int p0), (2, .int p1), (3, .int p2)]) C dX5_leastBehind_35 (by decide) rfl ?_
    refine x_sub [3, 5, 6, 2, 1, 0] rfl ?_
    exact w_X5_leastBehind_37 C hr R0 pv_FU p1 p2 q2.1 1000000 0 q2.2 h
  · have h := (if_neg c1).symm.trans h
    refine x_iload_n C dX5_leastBehind_10 rfl 2 rfl ?_
    refine x_if_ne C 18 dX5_leastBehind_11 (by decide) (fun c3 => ?_) (fun c3 => ?_)
    · have h := (if_neg c3).symm.trans h
      refine x_ldc C kc_X5_59 dX5_leastBehind_18 ?_
      exact x_iret C hr dX5_leastBehind_20 (Option.some.inj h)
    · have h := (if_pos c3).symm.trans h
      refine x_iconst (v := 0) C dX5_leastBehind_14 (by decide) ?_
      refine x_goto C 20 dX5_leastBehind_15 (by decide) ?_
      exact x_iret C hr dX5_leastBehind_20 (Option.some.inj h)
theorem m_X5_leastBehind (l : Launch) (D : va_G) (cI cZ : ClassId) (ad : Nat → Nat) (hJ : pv_J ad) (p0 : Int32) (p1 : Int32) (p2 : Int32) (σ : pv_S) (R0 : (Int32 × pv_S)) (h : f_X5_leastBehind p0 p1 p2 σ = some R0) : Met l yX5_leastBehind (Cond.code yX5_leastBehind cX5_leastBehind 7 (some .int) :: lwG) r_X5_leastBehind (va_Pc [.ref (ad 3), .int p0, .int p1, .int p2] (pv_P D cI cZ ad σ)) (pv_QI D cI cZ ad R0) 0 0 (pv_A ad) := x_met (by decide) rfl hJ (Nat.le_of_ble_eq_true rfl) (fun p e s m args below meth c C hr => w_X5_leastBehind_0 C hr R0 p0 p1 p2 σ h)
abbrev r_X5_firstNext : Room := { frames := 2, cells := 0, slots := 0, locals := 47 }
set_option maxRecDepth 100000 in
set_option maxHeartbeats 4000000 in
theorem w_X5_firstNext_19 {p : Program} {l : Launch} {e : Env} {s : State} {m : MethodId} {args : Array Value} {below : List Frame} {meth : Method} {c : Code} {D : va_G} {cI cZ : ClassId} {ad : Nat → Nat} (C : pv_C p s m args meth c cX5_firstNext 7 RX5 D cI cZ ad (pv_A ad)) (hr : meth.sig.returnType = some .int) (R0 : (Int32 × pv_S)) : ∀ (n : Nat) (v1 : Int32) (v2 : Int32) (v3 : Int32) (v4 : Int32) (v5 : Int32) (σ : pv_S), f_X5_firstNext_19 n v1 v2 v3 v4 v5 σ = some R0 → Wx p l e r_X5_firstNext s m args below meth c 0 0 (MQ below (pv_QI D cI cZ ad R0) args s 0 0 (pv_A ad)) 7 D cI cZ ad (pv_A ad) 19 [(0, .ref (ad 3)), (1, .int v1), (2, .int v2), (3, .int v3), (4, .int v4), (5, .int v5)] [] σ := by
  intro n
  induction n with
  | zero =>
    intro v1 v2 v3 v4 v5 σ h
    have h2 : (none : Option (Int32 × pv_S)) = some R0 := h
    cases h2
  | succ n ih =>
    intro v1 v2 v3 v4 v5 σ h
    unfold f_X5_firstNext_19 at h
    refine x_iload C dX5_firstNext_19 5 rfl ?_
    refine x_aload_n C dX5_firstNext_21 rfl 0 rfl ?_
    refine xg_X5_50 C dX5_firstNext_22 ?_
    refine x_icmp_ge C 78 dX5_firstNext_25 (by decide) (fun c1 => ?_) (fun c1 => ?_)
    · have h := (if_pos c1).symm.trans h
      refine x_iconst (v := (-1)) C dX5_firstNext_78 (by decide) ?_
      exact x_iret C hr dX5_firstNext_79 (Option.some.inj h)
    · have h := (if_neg c1).symm.trans h
      refine x_aload_n C dX5_firstNext_28 rfl 0 rfl ?_
      refine x_iload C dX5_firstNext_29 5 rfl ?_
      obtain ⟨q2, eq2, h⟩ := gb_some h
      refine x_vi (st := []) C kY_X5_bit 3 5 rfl rfl rfl (m_X5_bit l D cI cZ ad C.2.2.2.2.2.2.1 v5 σ q2 eq2) kl_X5_66 ⟨rfl, rfl⟩ ⟨Nat.le_of_ble_eq_true rfl, Nat.le_of_ble_eq_true rfl⟩ ⟨Nat.zero_le _, Nat.zero_le _⟩ rfl rfl (Nat.le_of_ble_eq_true rfl) dX5_firstNext_31 ?_
      refine x_istore (lv' := [(6, .int q2.1), (0, .ref (ad 3)), (1, .int v1), (2, .int v2), (3, .int v3), (4, .int v4), (5, .int v5)]) C dX5_firstNext_34 (by decide) rfl ?_
      refine x_iload C dX5_firstNext_36 5 rfl ?_
      refine x_iload C dX5_firstNext_38 0 rfl ?_
      refine x_iand C dX5_firstNext_40 ?_
      refine x_if_ne C 72 dX5_firstNext_41 (by decide) (fun c3 => ?_) (fun c3 => ?_)
      · have h := (if_neg c3).symm.trans h
        refine x_iinc (v := (v5 + 1)) (lv' := [(5, .int (v5 + 1)), (6, .int q2.1), (0, .ref (ad 3)), (1, .int v1), (2, .int v2), (3, .int v3), (4, .int v4)]) C 6 dX5_firstNext_72 rfl rfl (by decide) rfl ?_
        refine x_goto C 19 dX5_firstNext_75 (by decide) ?_
        refine x_sub [2, 3, 4, 5, 6, 0] rfl ?_
        exact ih v1 v2 v3 v4 (v5 + 1) q2.2 h
      · have h := (if_pos c3).symm.trans h
        refine x_aload_n C dX5_firstNext_44 rfl 1 rfl ?_
        refine x_iload_n C dX5_firstNext_45 rfl 2 rfl ?_
        refine x_iload C dX5_firstNext_46 6 rfl ?_
        obtain ⟨q4, eq4, h⟩ := gb_some h
        refine x_vi (st := []) C kY_X5_lineCost 3 5 rfl rfl rfl (m_X5_lineCost l D cI cZ ad C.2.2.2.2.2.2.1 v1 v5 q2.2 q4 eq4) kl_X5_76 ⟨rfl, rfl⟩ ⟨Nat.le_of_ble_eq_true rfl, Nat.le_of_ble_eq_true rfl⟩ ⟨Nat.zero_le _, Nat.zero_le _⟩ rfl rfl (Nat.le_of_ble_eq_true rfl) dX5_firstNext_48 ?_
        refine x_aload_n C dX5_firstNext_51 rfl 1 rfl ?_
        refine x_iload_n C dX5_firstNext_52 rfl 2 rfl ?_
        refine x_iload_n C dX5_firstNext_53 rfl 4 rfl ?_
        refine x_iconst (v := 1) C dX5_firstNext_54 (by decide) ?_
        refine x_isub C dX5_firstNext_55 ?_
        refine x_iload C dX5_firstNext_56 5 rfl ?_
        refine x_iload C dX5_firstNext_58 0 rfl ?_
        refine x_ior C dX5_firstNext_60 ?_
        obtain ⟨q5, eq5, h⟩ := gb_some h
        refine x_vi (st := [.int q4.1]) C kY_X5_leastBehind 3 5 rfl rfl rfl (m_X5_leastBehind l D cI cZ ad C.2.2.2.2.2.2.1 v1 (v3 - 1) (v4 ||| q2.1) q4.2 q5 eq5) kl_X5_121 ⟨rfl, rfl⟩ ⟨Nat.le_of_ble_eq_true rfl, Nat.le_of_ble_eq_true rfl⟩ ⟨Nat.zero_le _, Nat.zero_le _⟩ rfl rfl (Nat.le_of_ble_eq_true rfl) dX5_firstNext_61 ?_
        refine x_iadd C dX5_firstNext_64 ?_
        refine x_iload_n C dX5_firstNext_65 rfl 3 rfl ?_
        refine x_icmp_ne C 72 dX5_firstNext_66 (by decide) (fun c6 => ?_) (fun c6 => ?_)
        · have h := (if_neg c6).symm.trans h
          refine x_iinc (v := (v5 + 1)) (lv' := [(5, .int (v5 + 1)), (6, .int q2.1), (0, .ref (ad 3)), (1, .int v1), (2, .int v2), (3, .int v3), (4, .int v4)]) C 6 dX5_firstNext_72 rfl rfl (by decide) rfl ?_
          refine x_goto C 19 dX5_firstNext_75 (by decide) ?_
          refine x_sub [2, 3, 4, 5, 6, 0] rfl ?_
          exact ih v1 v2 v3 v4 (v5 + 1) q5.2 h
        · have h := (if_pos c6).symm.trans h
          refine x_iload C dX5_firstNext_69 6 rfl ?_
          exact x_iret C hr dX5_firstNext_71 (Option.some.inj h)
set_option maxRecDepth 100000 in
set_option maxHeartbeats 4000000 in
theorem w_X5_firstNext_0 {p : Program} {l : Launch} {e : Env} {s : State} {m : MethodId} {args : Array Value} {below : List Frame} {meth : Method} {c : Code} {D : va_G} {cI cZ : ClassId} {ad : Nat → Nat} (C : pv_C p s m args meth c cX5_firstNext 7 RX5 D cI cZ ad (pv_A ad)) (hr : meth.sig.returnType = some .int) (R0 : (Int32 × pv_S)) (p0 : Int32) (p1 : Int32) (p2 : Int32) (p3 : Int32) (σ : pv_S) (h : f_X5_firstNext p0 p1 p2 p3 σ = some R0) : Wx p l e r_X5_firstNext s m args below meth c 0 0 (MQ below (pv_QI D cI cZ ad R0) args s 0 0 (pv_A ad)) 7 D cI cZ ad (pv_A ad) 0 [(0, .ref (ad 3)), (1, .int p0), (2, .int p1), (3, .int p2), (4, .int p3)] [] σ := by
  unfold f_X5_firstNext at h
  refine x_aload_n C dX5_firstNext_0 rfl 0 rfl ?_
  refine x_iload_n C dX5_firstNext_1 rfl 1 rfl ?_
  refine x_iload_n C dX5_firstNext_2 rfl 3 rfl ?_
  refine x_iload C dX5_firstNext_3 4 rfl ?_
  obtain ⟨q1, eq1, h⟩ := gb_some h
  refine x_vi (st := []) C kY_X5_leastBehind 3 5 rfl rfl rfl (m_X5_leastBehind l D cI cZ ad C.2.2.2.2.2.2.1 p0 p2 p3 σ q1 eq1) kl_X5_121 ⟨rfl, rfl⟩ ⟨Nat.le_of_ble_eq_true rfl, Nat.le_of_ble_eq_true rfl⟩ ⟨Nat.zero_le _, Nat.zero_le _⟩ rfl rfl (Nat.le_of_ble_eq_true rfl) dX5_firstNext_5 ?_
  refine x_iload_n C dX5_firstNext_8 rfl 2 rfl ?_
  refine x_icmp_ne C 14 dX5_firstNext_9 (by decide) (fun c2 => ?_) (fun c2 => ?_)
  · have h := (if_neg c2).symm.trans h
    refine x_iload_n C dX5_firstNext_14 rfl 1 rfl ?_
    refine x_iconst (v := 1) C dX5_firstNext_15 (by decide) ?_
    refine x_iadd C dX5_firstNext_16 ?_
    refine x_istore (lv' := [(5, .int (p0 + 1)), (0, .ref (ad 3)), (1, .int p0), (2, .int p1), (3, .int p2), (4, .int p3)]) C dX5_firstNext_17 (by decide) rfl ?_
    refine x_sub [1, 2, 3, 4, 5, 0] rfl ?_
    exact w_X5_firstNext_19 C hr R0 pv_FU p0 p1 p2 p3 (p0 + 1) q1.2 h
  · have h := (if_pos c2).symm.trans h
    refine x_iconst (v := (-1)) C dX5_firstNext_12 (by decide) ?_
    exact x_iret C hr dX5_firstNext_13 (Option.some.inj h)
theorem m_X5_firstNext (l : Launch) (D : va_G) (cI cZ : ClassId) (ad : Nat → Nat) (hJ : pv_J ad) (p0 : Int32) (p1 : Int32) (p2 : Int32) (p3 : Int32) (σ : pv_S) (R0 : (Int32 × pv_S)) (h : f_X5_firstNext p0 p1 p2 p3 σ = some R0) : Met l yX5_firstNext (Cond.code yX5_firstNext cX5_firstNext 7 (some .int) :: lwG) r_X5_firstNext (va_Pc [.ref (ad 3), .int p0, .int p1, .int p2, .int p3] (pv_P D cI cZ ad σ)) (pv_QI D cI cZ ad R0) 0 0 (pv_A ad) := x_met (by decide) rfl hJ (Nat.le_of_ble_eq_true rfl) (fun p e s m args below meth c C hr => w_X5_firstNext_0 C hr R0 p0 p1 p2 p3 σ h)
abbrev r_X5_choose : Room := { frames := 3, cells := 0, slots := 0, locals := 73 }
set_option maxRecDepth 100000 in
set_option maxHeartbeats 4000000 in
theorem w_X5_choose_37 {p : Program} {l : Launch} {e : Env} {s : State} {m : MethodId} {args : Array Value} {below : List Frame} {meth : Method} {c : Code} {D : va_G} {cI cZ : ClassId} {ad : Nat → Nat} (C : pv_C p s m args meth c cX5_choose 7 RX5 D cI cZ ad (pv_A ad)) (hr : meth.sig.returnType = some .boolean) (R0 : (Int32 × pv_S)) : ∀ (n : Nat) (v2 : Int32) (v3 : Int32) (v4 : Int32) (v5 : Int32) (σ : pv_S), f_X5_choose_37 n v2 v3 v4 v5 σ = some R0 → Wx p l e r_X5_choose s m args below meth c 0 0 (MQ below (pv_QI D cI cZ ad R0) args s 0 0 (pv_A ad)) 7 D cI cZ ad (pv_A ad) 37 [(0, .ref (ad 3)), (2, .int v2), (3, .int v3), (4, .int v4), (5, .int v5)] [] σ := by
  intro n
  induction n with
  | zero =>
    intro v2 v3 v4 v5 σ h
    have h2 : (none : Option (Int32 × pv_S)) = some R0 := h
    cases h2
  | succ n ih =>
    intro v2 v3 v4 v5 σ h
    unfold f_X5_choose_37 at h
    refine x_iload C dX5_choose_37 4 rfl ?_
    refine x_aload_n C dX5_choose_39 rfl 0 rfl ?_
    refine xg_X5_50 C dX5_choose_40 ?_
    refine x_icmp_ge C 104 dX5_choose_43 (by decide) (fun c1 => ?_) (fun c1 => ?_)
    · have h := (if_pos c1).symm.trans h
      refine x_iconst (v := 1) C dX5_choose_104 (by decide) ?_
      exact x_zret C hr rfl dX5_choose_105 (Option.some.inj h)
    · have h := (if_neg c1).symm.trans h
      refine x_aload_n C dX5_choose_46 rfl 0 rfl ?_
      refine x_iload C dX5_choose_47 4 rfl ?_
      refine x_iload_n C dX5_choose_49 rfl 1 rfl ?_
      refine x_iload_n C dX5_choose_50 rfl 2 rfl ?_
      refine x_iload C dX5_choose_51 3 rfl ?_
      obtain ⟨q2, eq2, h⟩ := gb_some h
      refine x_vi (st := []) C kY_X5_firstNext 3 5 rfl rfl rfl (m_X5_firstNext l D cI cZ ad C.2.2.2.2.2.2.1 v5 v2 v3 v4 σ q2 eq2) kl_X5_117 ⟨rfl, rfl⟩ ⟨Nat.le_of_ble_eq_true rfl, Nat.le_of_ble_eq_true rfl⟩ ⟨Nat.zero_le _, Nat.zero_le _⟩ rfl rfl (Nat.le_of_ble_eq_true rfl) dX5_choose_53 ?_
      refine x_istore (lv' := [(6, .int q2.1), (0, .ref (ad 3)), (2, .int v2), (3, .int v3), (4, .int v4), (5, .int v5)]) C dX5_choose_56 (by decide) rfl ?_
      refine x_aload_n C dX5_choose_58 rfl 1 rfl ?_
      refine xg_X5_21 C dX5_choose_59 ?_
      refine x_iload C dX5_choose_62 5 rfl ?_
      refine x_iload C dX5_choose_64 0 rfl ?_
      obtain ⟨g3, h⟩ := gd_some h
      refine xs_6 C g3 dX5_choose_66 ?_
      refine x_iload C dX5_choose_67 0 rfl ?_
      refine x_iconst (v := (-1)) C dX5_choose_69 (by decide) ?_
      refine x_icmp_eq C 98 dX5_choose_70 (by decide) (fun c4 => ?_) (fun c4 => ?_)
      · have h := (if_pos c4).symm.trans h
        refine x_iinc (v := (v5 + 1)) (lv' := [(5, .int (v5 + 1)), (6, .int q2.1), (0, .ref (ad 3)), (2, .int v2), (3, .int v3), (4, .int v4)]) C 5 dX5_choose_98 rfl rfl (by decide) rfl ?_
        refine x_goto C 37 dX5_choose_101 (by decide) ?_
        refine x_sub [2, 3, 4, 5, 0] rfl ?_
        exact ih v2 v3 v4 (v5 + 1) (pv_sa q2.2 6 v5 q2.1) h
      · have h := (if_neg c4).symm.trans h
        refine x_iload_n C dX5_choose_73 rfl 2 rfl ?_
        refine x_aload_n C dX5_choose_74 rfl 1 rfl ?_
        refine x_iload C dX5_choose_75 5 rfl ?_
        refine x_iload C dX5_choose_77 0 rfl ?_
        obtain ⟨q5, eq5, h⟩ := gb_some h
        refine x_vi (st := [.int v2]) C kY_X5_lineCost 3 5 rfl rfl rfl (m_X5_lineCost l D cI cZ ad C.2.2.2.2.2.2.1 v5 q2.1 (pv_sa q2.2 6 v5 q2.1) q5 eq5) kl_X5_76 ⟨rfl, rfl⟩ ⟨Nat.le_of_ble_eq_true rfl, Nat.le_of_ble_eq_true rfl⟩ ⟨Nat.zero_le _, Nat.zero_le _⟩ rfl rfl (Nat.le_of_ble_eq_true rfl) dX5_choose_79 ?_
        refine x_isub C dX5_choose_82 ?_
        refine x_istore_n (lv' := [(2, .int (v2 - q5.1)), (6, .int q2.1), (0, .ref (ad 3)), (3, .int v3), (4, .int v4), (5, .int v5)]) C dX5_choose_83 rfl (by decide) rfl ?_
        refine x_iinc (v := (v3 + (-1))) (lv' := [(3, .int (v3 + (-1))), (2, .int (v2 - q5.1)), (6, .int q2.1), (0, .ref (ad 3)), (4, .int v4), (5, .int v5)]) C 3 dX5_choose_84 rfl rfl (by decide) rfl ?_
        refine x_iload C dX5_choose_87 4 rfl ?_
        refine x_aload_n C dX5_choose_89 rfl 3 rfl ?_
        refine x_iload C dX5_choose_90 2 rfl ?_
        obtain ⟨q6, eq6, h⟩ := gb_some h
        refine x_vi (st := [.int v4]) C kY_X5_bit 3 5 rfl rfl rfl (m_X5_bit l D cI cZ ad C.2.2.2.2.2.2.1 q2.1 q5.2 q6 eq6) kl_X5_66 ⟨rfl, rfl⟩ ⟨Nat.le_of_ble_eq_true rfl, Nat.le_of_ble_eq_true rfl⟩ ⟨Nat.zero_le _, Nat.zero_le _⟩ rfl rfl (Nat.le_of_ble_eq_true rfl) dX5_choose_92 ?_
        refine x_ior C dX5_choose_95 ?_
        refine x_istore (lv' := [(4, .int (v4 ||| q6.1)), (3, .int (v3 + (-1))), (2, .int (v2 - q5.1)), (6, .int q2.1), (0, .ref (ad 3)), (5, .int v5)]) C dX5_choose_96 (by decide) rfl ?_
        refine x_iinc (v := (v5 + 1)) (lv' := [(5, .int (v5 + 1)), (4, .int (v4 ||| q6.1)), (3, .int (v3 + (-1))), (2, .int (v2 - q5.1)), (6, .int q2.1), (0, .ref (ad 3))]) C 5 dX5_choose_98 rfl rfl (by decide) rfl ?_
        refine x_goto C 37 dX5_choose_101 (by decide) ?_
        refine x_sub [5, 3, 2, 1, 0] rfl ?_
        exact ih (v2 - q5.1) (v3 + (-1)) (v4 ||| q6.1) (v5 + 1) q6.2 h
set_option maxRecDepth 100000 in
set_option maxHeartbeats 4000000 in
theorem w_X5_choose_0 {p : Program} {l : Launch} {e : Env} {s : State} {m : MethodId} {args : Array Value} {below : List Frame} {meth : Method} {c : Code} {D : va_G} {cI cZ : ClassId} {ad : Nat → Nat} (C : pv_C p s m args meth c cX5_choose 7 RX5 D cI cZ ad (pv_A ad)) (hr : meth.sig.returnType = some .boolean) (R0 : (Int32 × pv_S)) (p0 : Int32) (σ : pv_S) (h : f_X5_choose p0 σ = some R0) : Wx p l e r_X5_choose s m args below meth c 0 0 (MQ below (pv_QI D cI cZ ad R0) args s 0 0 (pv_A ad)) 7 D cI cZ ad (pv_A ad) 0 [(0, .ref (ad 3)), (1, .int p0)] [] σ := by
  unfold f_X5_choose at h
  refine x_aload_n C dX5_choose_0 rfl 0 rfl ?_
  refine x_iload_n C dX5_choose_1 rfl 1 rfl ?_
  obtain ⟨q1, eq1, h⟩ := gb_some h
  refine x_vi (st := []) C kY_X5_leastCost 3 5 rfl rfl rfl (m_X5_leastCost l D cI cZ ad C.2.2.2.2.2.2.1 p0 σ q1 eq1) kl_X5_105 ⟨rfl, rfl⟩ ⟨Nat.le_of_ble_eq_true rfl, Nat.le_of_ble_eq_true rfl⟩ ⟨Nat.zero_le _, Nat.zero_le _⟩ rfl rfl (Nat.le_of_ble_eq_true rfl) dX5_choose_2 ?_
  refine x_iconst (v := (-1)) C dX5_choose_5 (by decide) ?_
  refine x_icmp_ne C 11 dX5_choose_6 (by decide) (fun c2 => ?_) (fun c2 => ?_)
  · have h := (if_neg c2).symm.trans h
    refine x_aload_n C dX5_choose_11 rfl 0 rfl ?_
    refine x_iload_n C dX5_choose_12 rfl 1 rfl ?_
    obtain ⟨q3, eq3, h⟩ := gb_some h
    refine x_vi (st := []) C kY_X5_leastCost 3 5 rfl rfl rfl (m_X5_leastCost l D cI cZ ad C.2.2.2.2.2.2.1 p0 q1.2 q3 eq3) kl_X5_105 ⟨rfl, rfl⟩ ⟨Nat.le_of_ble_eq_true rfl, Nat.le_of_ble_eq_true rfl⟩ ⟨Nat.zero_le _, Nat.zero_le _⟩ rfl rfl (Nat.le_of_ble_eq_true rfl) dX5_choose_13 ?_
    refine x_iload_n C dX5_choose_16 rfl 1 rfl ?_
    refine x_aload_n C dX5_choose_17 rfl 0 rfl ?_
    refine xg_X5_56 C dX5_choose_18 ?_
    refine x_imul C dX5_choose_21 ?_
    refine x_isub C dX5_choose_22 ?_
    refine x_istore_n (lv' := [(2, .int (q3.1 - (p0 * (q3.2.1 3)))), (0, .ref (ad 3)), (1, .int p0)]) C dX5_choose_23 rfl (by decide) rfl ?_
    refine x_aload_n C dX5_choose_24 rfl 1 rfl ?_
    refine xg_X5_50 C dX5_choose_25 ?_
    refine x_iload_n C dX5_choose_28 rfl 2 rfl ?_
    refine x_isub C dX5_choose_29 ?_
    refine x_istore_n (lv' := [(3, .int ((q3.2.1 2) - p0)), (2, .int (q3.1 - (p0 * (q3.2.1 3)))), (0, .ref (ad 3)), (1, .int p0)]) C dX5_choose_30 rfl (by decide) rfl ?_
    refine x_iconst (v := 0) C dX5_choose_31 (by decide) ?_
    refine x_istore (lv' := [(4, .int 0), (3, .int ((q3.2.1 2) - p0)), (2, .int (q3.1 - (p0 * (q3.2.1 3)))), (0, .ref (ad 3)), (1, .int p0)]) C dX5_choose_32 (by decide) rfl ?_
    refine x_iconst (v := 0) C dX5_choose_34 (by decide) ?_
    refine x_istore (lv' := [(5, .int 0), (4, .int 0), (3, .int ((q3.2.1 2) - p0)), (2, .int (q3.1 - (p0 * (q3.2.1 3)))), (0, .ref (ad 3)), (1, .int p0)]) C dX5_choose_35 (by decide) rfl ?_
    refine x_sub [4, 3, 2, 1, 0] rfl ?_
    exact w_X5_choose_37 C hr R0 pv_FU (q3.1 - (p0 * (q3.2.1 3))) ((q3.2.1 2) - p0) 0 0 q3.2 h
  · have h := (if_pos c2).symm.trans h
    refine x_iconst (v := 0) C dX5_choose_9 (by decide) ?_
    exact x_zret C hr rfl dX5_choose_10 (Option.some.inj h)
theorem m_X5_choose (l : Launch) (D : va_G) (cI cZ : ClassId) (ad : Nat → Nat) (hJ : pv_J ad) (p0 : Int32) (σ : pv_S) (R0 : (Int32 × pv_S)) (h : f_X5_choose p0 σ = some R0) : Met l yX5_choose (Cond.code yX5_choose cX5_choose 7 (some .boolean) :: lwG) r_X5_choose (va_Pc [.ref (ad 3), .int p0] (pv_P D cI cZ ad σ)) (pv_QI D cI cZ ad R0) 0 0 (pv_A ad) := x_met (by decide) rfl hJ (Nat.le_of_ble_eq_true rfl) (fun p e s m args below meth c C hr => w_X5_choose_0 C hr R0 p0 σ h)
abbrev r_X5_chosen : Room := { frames := 0, cells := 0, slots := 0, locals := 0 }
set_option maxRecDepth 100000 in
set_option maxHeartbeats 4000000 in
theorem w_X5_chosen_0 {p : Program} {l : Launch} {e : Env} {s : State} {m : MethodId} {args : Array Value} {below : List Frame} {meth : Method} {c : Code} {D : va_G} {cI cZ : ClassId} {ad : Nat → Nat} (C : pv_C p s m args meth c cX5_chosen 2 RX5 D cI cZ ad (pv_A ad)) (hr : meth.sig.returnType = some .int) (R0 : (Int32 × pv_S)) (p0 : Int32) (σ : pv_S) (h : f_X5_chosen p0 σ = some R0) : Wx p l e r_X5_chosen s m args below meth c 0 0 (MQ below (pv_QI D cI cZ ad R0) args s 0 0 (pv_A ad)) 2 D cI cZ ad (pv_A ad) 0 [(0, .ref (ad 3)), (1, .int p0)] [] σ := by
  unfold f_X5_chosen at h
  refine x_iload_n C dX5_chosen_0 rfl 1 rfl ?_
  refine x_if_lt C 19 dX5_chosen_1 (by decide) (fun c1 => ?_) (fun c1 => ?_)
  · have h := (if_pos c1).symm.trans h
    refine x_iconst (v := (-1)) C dX5_chosen_19 (by decide) ?_
    exact x_iret C hr dX5_chosen_20 (Option.some.inj h)
  · have h := (if_neg c1).symm.trans h
    refine x_iload_n C dX5_chosen_4 rfl 1 rfl ?_
    refine x_bipush (v := 10) C dX5_chosen_5 (by decide) ?_
    refine x_icmp_ge C 19 dX5_chosen_7 (by decide) (fun c2 => ?_) (fun c2 => ?_)
    · have h := (if_pos c2).symm.trans h
      refine x_iconst (v := (-1)) C dX5_chosen_19 (by decide) ?_
      exact x_iret C hr dX5_chosen_20 (Option.some.inj h)
    · have h := (if_neg c2).symm.trans h
      refine x_aload_n C dX5_chosen_10 rfl 0 rfl ?_
      refine xg_X5_21 C dX5_chosen_11 ?_
      refine x_iload_n C dX5_chosen_14 rfl 1 rfl ?_
      obtain ⟨g3, h⟩ := gd_some h
      refine xl_6 C g3 dX5_chosen_15 ?_
      refine x_goto C 20 dX5_chosen_16 (by decide) ?_
      exact x_iret C hr dX5_chosen_20 (Option.some.inj h)
theorem m_X5_chosen (l : Launch) (D : va_G) (cI cZ : ClassId) (ad : Nat → Nat) (hJ : pv_J ad) (p0 : Int32) (σ : pv_S) (R0 : (Int32 × pv_S)) (h : f_X5_chosen p0 σ = some R0) : Met l yX5_chosen (Cond.code yX5_chosen cX5_chosen 2 (some .int) :: lwG) r_X5_chosen (va_Pc [.ref (ad 3), .int p0] (pv_P D cI cZ ad σ)) (pv_QI D cI cZ ad R0) 0 0 (pv_A ad) := x_met (by decide) rfl hJ (Nat.le_of_ble_eq_true rfl) (fun p e s m args below meth c C hr => w_X5_chosen_0 C hr R0 p0 σ h)
abbrev r_X7_first : Room := { frames := 6, cells := 0, slots := 0, locals := 134 }
set_option maxRecDepth 100000 in
set_option maxHeartbeats 4000000 in
theorem w_X7_first_0 {p : Program} {l : Launch} {e : Env} {s : State} {m : MethodId} {args : Array Value} {below : List Frame} {meth : Method} {c : Code} {D : va_G} {cI cZ : ClassId} {ad : Nat → Nat} (C : pv_C p s m args meth c cX7_first 4 RX7 D cI cZ ad (pv_A ad)) (hr : meth.sig.returnType = some .int) (R0 : (Int32 × pv_S)) (p0 : Int32) (p1 : Int32) (σ : pv_S) (h : f_X7_first p0 p1 σ = some R0) : Wx p l e r_X7_first s m args below meth c 0 0 (MQ below (pv_QI D cI cZ ad R0) args s 0 0 (pv_A ad)) 4 D cI cZ ad (pv_A ad) 0 [(0, .ref (ad 0)), (1, .int p0), (2, .int p1)] [] σ := by
  unfold f_X7_first at h
  refine x_aload_n C dX7_first_0 rfl 0 rfl ?_
  refine xg_X7_10 C dX7_first_1 ?_
  refine x_iload_n C dX7_first_4 rfl 2 rfl ?_
  obtain ⟨q1, eq1, h⟩ := gb_some h
  refine x_vi (st := []) C kY_X6_has 1 6 rfl rfl rfl (m_X6_has l D cI cZ ad C.2.2.2.2.2.2.1 p1 σ q1 eq1) kl_X7_108 ⟨rfl, rfl⟩ ⟨Nat.le_of_ble_eq_true rfl, Nat.le_of_ble_eq_true rfl⟩ ⟨Nat.zero_le _, Nat.zero_le _⟩ rfl rfl (Nat.le_of_ble_eq_true rfl) dX7_first_5 ?_
  refine x_if_ne C 14 dX7_first_8 (by decide) (fun c2 => ?_) (fun c2 => ?_)
  · have h := (if_neg c2).symm.trans h
    refine x_iload_n C dX7_first_14 rfl 1 rfl ?_
    obtain ⟨q3, eq3, h⟩ := gb_some h
    refine x_si (st := []) C kY_X7_isVoiceCount (m_X7_isVoiceCount l D cI cZ ad C.2.2.2.2.2.2.1 p0 q1.2 q3 eq3) kl_X7_141 ⟨rfl, rfl⟩ ⟨Nat.le_of_ble_eq_true rfl, Nat.le_of_ble_eq_true rfl⟩ ⟨Nat.zero_le _, Nat.zero_le _⟩ rfl rfl (Nat.le_of_ble_eq_true rfl) dX7_first_15 ?_
    refine x_if_ne C 24 dX7_first_18 (by decide) (fun c4 => ?_) (fun c4 => ?_)
    · have h := (if_neg c4).symm.trans h
      refine x_aload_n C dX7_first_24 rfl 0 rfl ?_
      obtain ⟨q5, eq5, h⟩ := gb_some h
      refine x_vr (st := []) C kY_X7_weighed 0 7 rfl rfl rfl (m_X7_weighed l D cI cZ ad C.2.2.2.2.2.2.1 q3.2 q5 eq5) kl_X7_74 ⟨rfl, rfl⟩ ⟨Nat.le_of_ble_eq_true rfl, Nat.le_of_ble_eq_true rfl⟩ ⟨Nat.zero_le _, Nat.zero_le _⟩ rfl rfl (Nat.le_of_ble_eq_true rfl) dX7_first_25 ?_
      refine x_astore_n (lv' := [(3, .ref (ad 3)), (0, .ref (ad 0)), (1, .int p0), (2, .int p1)]) C dX7_first_28 rfl (by decide) rfl ?_
      refine x_aload_n C dX7_first_29 rfl 0 rfl ?_
      refine x_iload_n C dX7_first_30 rfl 2 rfl ?_
      obtain ⟨q6, eq6, h⟩ := gb_some h
      refine x_vi (st := []) C kY_X5_choose 3 5 rfl rfl rfl (m_X5_choose l D cI cZ ad C.2.2.2.2.2.2.1 p0 q5 q6 eq6) kl_X7_147 ⟨rfl, rfl⟩ ⟨Nat.le_of_ble_eq_true rfl, Nat.le_of_ble_eq_true rfl⟩ ⟨Nat.zero_le _, Nat.zero_le _⟩ rfl rfl (Nat.le_of_ble_eq_true rfl) dX7_first_31 ?_
      refine x_if_eq C 45 dX7_first_34 (by decide) (fun c7 => ?_) (fun c7 => ?_)
      · have h := (if_pos c7).symm.trans h
        refine x_ldc C kc_X7_153 dX7_first_45 ?_
        exact x_iret C hr dX7_first_47 (Option.some.inj h)
      · have h := (if_neg c7).symm.trans h
        refine x_aload_n C dX7_first_37 rfl 0 rfl ?_
        refine x_iload_n C dX7_first_38 rfl 3 rfl ?_
        obtain ⟨q8, eq8, h⟩ := gb_some h
        refine x_vi (st := []) C kY_X5_chosen 3 5 rfl rfl rfl (m_X5_chosen l D cI cZ ad C.2.2.2.2.2.2.1 p1 q6.2 q8 eq8) kl_X7_150 ⟨rfl, rfl⟩ ⟨Nat.le_of_ble_eq_true rfl, Nat.le_of_ble_eq_true rfl⟩ ⟨Nat.zero_le _, Nat.zero_le _⟩ rfl rfl (Nat.le_of_ble_eq_true rfl) dX7_first_39 ?_
        refine x_goto C 47 dX7_first_42 (by decide) ?_
        exact x_iret C hr dX7_first_47 (Option.some.inj h)
    · have h := (if_pos c4).symm.trans h
      refine x_ldc C kc_X7_107 dX7_first_21 ?_
      exact x_iret C hr dX7_first_23 (Option.some.inj h)
  · have h := (if_pos c2).symm.trans h
    refine x_ldc C kc_X7_112 dX7_first_11 ?_
    exact x_iret C hr dX7_first_13 (Option.some.inj h)
theorem m_X7_first (l : Launch) (D : va_G) (cI cZ : ClassId) (ad : Nat → Nat) (hJ : pv_J ad) (p0 : Int32) (p1 : Int32) (σ : pv_S) (R0 : (Int32 × pv_S)) (h : f_X7_first p0 p1 σ = some R0) : Met l yX7_first (Cond.code yX7_first cX7_first 4 (some .int) :: lwG) r_X7_first (va_Pc [.ref (ad 0), .int p0, .int p1] (pv_P D cI cZ ad σ)) (pv_QI D cI cZ ad R0) 0 0 (pv_A ad) := x_met (by decide) rfl hJ (Nat.le_of_ble_eq_true rfl) (fun p e s m args below meth c C hr => w_X7_first_0 C hr R0 p0 p1 σ h)
abbrev r_X4_hasVoice : Room := { frames := 0, cells := 0, slots := 0, locals := 0 }
set_option maxRecDepth 100000 in
set_option maxHeartbeats 4000000 in
theorem w_X4_hasVoice_0 {p : Program} {l : Launch} {e : Env} {s : State} {m : MethodId} {args : Array Value} {below : List Frame} {meth : Method} {c : Code} {D : va_G} {cI cZ : ClassId} {ad : Nat → Nat} (C : pv_C p s m args meth c cX4_hasVoice 2 RX4 D cI cZ ad (pv_A ad)) (hr : meth.sig.returnType = some .boolean) (R0 : (Int32 × pv_S)) (p0 : Int32) (σ : pv_S) (h : f_X4_hasVoice p0 σ = some R0) : Wx p l e r_X4_hasVoice s m args below meth c 0 0 (MQ below (pv_QI D cI cZ ad R0) args s 0 0 (pv_A ad)) 2 D cI cZ ad (pv_A ad) 0 [(0, .ref (ad 2)), (1, .int p0)] [] σ := by
  unfold f_X4_hasVoice at h
  refine x_iload_n C dX4_hasVoice_0 rfl 1 rfl ?_
  refine x_if_lt C 16 dX4_hasVoice_1 (by decide) (fun c1 => ?_) (fun c1 => ?_)
  · have h := (if_pos c1).symm.trans h
    refine x_iconst (v := 0) C dX4_hasVoice_16 (by decide) ?_
    exact x_zret C hr rfl dX4_hasVoice_17 (Option.some.inj h)
  · have h := (if_neg c1).symm.trans h
    refine x_iload_n C dX4_hasVoice_4 rfl 1 rfl ?_
    refine x_aload_n C dX4_hasVoice_5 rfl 0 rfl ?_
    refine xg_X4_42 C dX4_hasVoice_6 ?_
    refine x_icmp_ge C 16 dX4_hasVoice_9 (by decide) (fun c2 => ?_) (fun c2 => ?_)
    · have h := (if_pos c2).symm.trans h
      refine x_iconst (v := 0) C dX4_hasVoice_16 (by decide) ?_
      exact x_zret C hr rfl dX4_hasVoice_17 (Option.some.inj h)
    · have h := (if_neg c2).symm.trans h
      refine x_iconst (v := 1) C dX4_hasVoice_12 (by decide) ?_
      refine x_goto C 17 dX4_hasVoice_13 (by decide) ?_
      exact x_zret C hr rfl dX4_hasVoice_17 (Option.some.inj h)
theorem m_X4_hasVoice (l : Launch) (D : va_G) (cI cZ : ClassId) (ad : Nat → Nat) (hJ : pv_J ad) (p0 : Int32) (σ : pv_S) (R0 : (Int32 × pv_S)) (h : f_X4_hasVoice p0 σ = some R0) : Met l yX4_hasVoice (Cond.code yX4_hasVoice cX4_hasVoice 2 (some .boolean) :: lwG) r_X4_hasVoice (va_Pc [.ref (ad 2), .int p0] (pv_P D cI cZ ad σ)) (pv_QI D cI cZ ad R0) 0 0 (pv_A ad) := x_met (by decide) rfl hJ (Nat.le_of_ble_eq_true rfl) (fun p e s m args below meth c C hr => w_X4_hasVoice_0 C hr R0 p0 σ h)
abbrev r_X4_isIn : Room := { frames := 1, cells := 0, slots := 0, locals := 21 }
set_option maxRecDepth 100000 in
set_option maxHeartbeats 4000000 in
theorem w_X4_isIn_0 {p : Program} {l : Launch} {e : Env} {s : State} {m : MethodId} {args : Array Value} {below : List Frame} {meth : Method} {c : Code} {D : va_G} {cI cZ : ClassId} {ad : Nat → Nat} (C : pv_C p s m args meth c cX4_isIn 3 RX4 D cI cZ ad (pv_A ad)) (hr : meth.sig.returnType = some .boolean) (R0 : (Int32 × pv_S)) (p0 : Int32) (p1 : Int32) (σ : pv_S) (h : f_X4_isIn p0 p1 σ = some R0) : Wx p l e r_X4_isIn s m args below meth c 0 0 (MQ below (pv_QI D cI cZ ad R0) args s 0 0 (pv_A ad)) 3 D cI cZ ad (pv_A ad) 0 [(0, .ref (ad 2)), (1, .int p0), (2, .int p1)] [] σ := by
  unfold f_X4_isIn at h
  refine x_aload_n C dX4_isIn_0 rfl 0 rfl ?_
  refine xg_X4_18 C dX4_isIn_1 ?_
  refine x_iload_n C dX4_isIn_4 rfl 2 rfl ?_
  obtain ⟨q1, eq1, h⟩ := gb_some h
  refine x_vi (st := []) C kY_X6_has 1 6 rfl rfl rfl (m_X6_has l D cI cZ ad C.2.2.2.2.2.2.1 p1 σ q1 eq1) kl_X4_38 ⟨rfl, rfl⟩ ⟨Nat.le_of_ble_eq_true rfl, Nat.le_of_ble_eq_true rfl⟩ ⟨Nat.zero_le _, Nat.zero_le _⟩ rfl rfl (Nat.le_of_ble_eq_true rfl) dX4_isIn_5 ?_
  refine x_if_eq C 25 dX4_isIn_8 (by decide) (fun c2 => ?_) (fun c2 => ?_)
  · have h := (if_pos c2).symm.trans h
    refine x_iconst (v := 0) C dX4_isIn_25 (by decide) ?_
    exact x_zret C hr rfl dX4_isIn_26 (Option.some.inj h)
  · have h := (if_neg c2).symm.trans h
    refine x_aload_n C dX4_isIn_11 rfl 0 rfl ?_
    refine xg_X4_15 C dX4_isIn_12 ?_
    refine x_iload_n C dX4_isIn_15 rfl 2 rfl ?_
    obtain ⟨g3, h⟩ := gd_some h
    refine xl_2 C g3 dX4_isIn_16 ?_
    refine x_iload_n C dX4_isIn_17 rfl 1 rfl ?_
    refine x_icmp_ne C 25 dX4_isIn_18 (by decide) (fun c4 => ?_) (fun c4 => ?_)
    · have h := (if_neg c4).symm.trans h
      refine x_iconst (v := 0) C dX4_isIn_25 (by decide) ?_
      exact x_zret C hr rfl dX4_isIn_26 (Option.some.inj h)
    · have h := (if_pos c4).symm.trans h
      refine x_iconst (v := 1) C dX4_isIn_21 (by decide) ?_
      refine x_goto C 26 dX4_isIn_22 (by decide) ?_
      exact x_zret C hr rfl dX4_isIn_26 (Option.some.inj h)
theorem m_X4_isIn (l : Launch) (D : va_G) (cI cZ : ClassId) (ad : Nat → Nat) (hJ : pv_J ad) (p0 : Int32) (p1 : Int32) (σ : pv_S) (R0 : (Int32 × pv_S)) (h : f_X4_isIn p0 p1 σ = some R0) : Met l yX4_isIn (Cond.code yX4_isIn cX4_isIn 3 (some .boolean) :: lwG) r_X4_isIn (va_Pc [.ref (ad 2), .int p0, .int p1] (pv_P D cI cZ ad σ)) (pv_QI D cI cZ ad R0) 0 0 (pv_A ad) := x_met (by decide) rfl hJ (Nat.le_of_ble_eq_true rfl) (fun p e s m args below meth c C hr => w_X4_isIn_0 C hr R0 p0 p1 σ h)
abbrev r_X4_size : Room := { frames := 2, cells := 0, slots := 0, locals := 43 }
set_option maxRecDepth 100000 in
set_option maxHeartbeats 4000000 in
theorem w_X4_size_4 {p : Program} {l : Launch} {e : Env} {s : State} {m : MethodId} {args : Array Value} {below : List Frame} {meth : Method} {c : Code} {D : va_G} {cI cZ : ClassId} {ad : Nat → Nat} (C : pv_C p s m args meth c cX4_size 4 RX4 D cI cZ ad (pv_A ad)) (hr : meth.sig.returnType = some .int) (R0 : (Int32 × pv_S)) : ∀ (n : Nat) (v1 : Int32) (v2 : Int32) (v3 : Int32) (σ : pv_S), f_X4_size_4 n v1 v2 v3 σ = some R0 → Wx p l e r_X4_size s m args below meth c 0 0 (MQ below (pv_QI D cI cZ ad R0) args s 0 0 (pv_A ad)) 4 D cI cZ ad (pv_A ad) 4 [(0, .ref (ad 2)), (1, .int v1), (2, .int v2), (3, .int v3)] [] σ := by
  intro n
  induction n with
  | zero =>
    intro v1 v2 v3 σ h
    have h2 : (none : Option (Int32 × pv_S)) = some R0 := h
    cases h2
  | succ n ih =>
    intro v1 v2 v3 σ h
    unfold f_X4_size_4 at h
    refine x_iload_n C dX4_size_4 rfl 3 rfl ?_
    refine x_aload_n C dX4_size_5 rfl 0 rfl ?_
    refine xg_X4_18 C dX4_size_6 ?_
    obtain ⟨q1, eq1, h⟩ := gb_some h
    refine x_vi (st := [.int v3]) C kY_X6_count 1 6 rfl rfl rfl (m_X6_count l D cI cZ ad C.2.2.2.2.2.2.1 σ q1 eq1) kl_X4_28 ⟨rfl, rfl⟩ ⟨Nat.le_of_ble_eq_true rfl, Nat.le_of_ble_eq_true rfl⟩ ⟨Nat.zero_le _, Nat.zero_le _⟩ rfl rfl (Nat.le_of_ble_eq_true rfl) dX4_size_9 ?_
    refine x_icmp_ge C 33 dX4_size_12 (by decide) (fun c2 => ?_) (fun c2 => ?_)
    · have h := (if_pos c2).symm.trans h
      refine x_iload_n C dX4_size_33 rfl 2 rfl ?_
      exact x_iret C hr dX4_size_34 (Option.some.inj h)
    · have h := (if_neg c2).symm.trans h
      refine x_aload_n C dX4_size_15 rfl 0 rfl ?_
      refine x_iload_n C dX4_size_16 rfl 1 rfl ?_
      refine x_iload_n C dX4_size_17 rfl 3 rfl ?_
      obtain ⟨q3, eq3, h⟩ := gb_some h
      refine x_vi (st := []) C kY_X4_isIn 2 4 rfl rfl rfl (m_X4_isIn l D cI cZ ad C.2.2.2.2.2.2.1 v1 v3 q1.2 q3 eq3) kl_X4_46 ⟨rfl, rfl⟩ ⟨Nat.le_of_ble_eq_true rfl, Nat.le_of_ble_eq_true rfl⟩ ⟨Nat.zero_le _, Nat.zero_le _⟩ rfl rfl (Nat.le_of_ble_eq_true rfl) dX4_size_18 ?_
      refine x_if_eq C 27 dX4_size_21 (by decide) (fun c4 => ?_) (fun c4 => ?_)
      · have h := (if_pos c4).symm.trans h
        refine x_iinc (v := (v3 + 1)) (lv' := [(3, .int (v3 + 1)), (0, .ref (ad 2)), (1, .int v1), (2, .int v2)]) C 3 dX4_size_27 rfl rfl (by decide) rfl ?_
        refine x_goto C 4 dX4_size_30 (by decide) ?_
        refine x_sub [1, 2, 3, 0] rfl ?_
        exact ih v1 v2 (v3 + 1) q3.2 h
      · have h := (if_neg c4).symm.trans h
        refine x_iinc (v := (v2 + 1)) (lv' := [(2, .int (v2 + 1)), (0, .ref (ad 2)), (1, .int v1), (3, .int v3)]) C 2 dX4_size_24 rfl rfl (by decide) rfl ?_
        refine x_iinc (v := (v3 + 1)) (lv' := [(3, .int (v3 + 1)), (2, .int (v2 + 1)), (0, .ref (ad 2)), (1, .int v1)]) C 3 dX4_size_27 rfl rfl (by decide) rfl ?_
        refine x_goto C 4 dX4_size_30 (by decide) ?_
        refine x_sub [2, 3, 1, 0] rfl ?_
        exact ih v1 (v2 + 1) (v3 + 1) q3.2 h
set_option maxRecDepth 100000 in
set_option maxHeartbeats 4000000 in
theorem w_X4_size_0 {p : Program} {l : Launch} {e : Env} {s : State} {m : MethodId} {args : Array Value} {below : List Frame} {meth : Method} {c : Code} {D : va_G} {cI cZ : ClassId} {ad : Nat → Nat} (C : pv_C p s m args meth c cX4_size 4 RX4 D cI cZ ad (pv_A ad)) (hr : meth.sig.returnType = some .int) (R0 : (Int32 × pv_S)) (p0 : Int32) (σ : pv_S) (h : f_X4_size p0 σ = some R0) : Wx p l e r_X4_size s m args below meth c 0 0 (MQ below (pv_QI D cI cZ ad R0) args s 0 0 (pv_A ad)) 4 D cI cZ ad (pv_A ad) 0 [(0, .ref (ad 2)), (1, .int p0)] [] σ := by
  unfold f_X4_size at h
  refine x_iconst (v := 0) C dX4_size_0 (by decide) ?_
  refine x_istore_n (lv' := [(2, .int 0), (0, .ref (ad 2)), (1, .int p0)]) C dX4_size_1 rfl (by decide) rfl ?_
  refine x_iconst (v := 0) C dX4_size_2 (by decide) ?_
  refine x_istore_n (lv' := [(3, .int 0), (2, .int 0), (0, .ref (ad 2)), (1, .int p0)]) C dX4_size_3 rfl (by decide) rfl ?_
  refine x_sub [2, 3, 1, 0] rfl ?_
  exact w_X4_size_4 C hr R0 pv_FU p0 0 0 σ h
theorem m_X4_size (l : Launch) (D : va_G) (cI cZ : ClassId) (ad : Nat → Nat) (hJ : pv_J ad) (p0 : Int32) (σ : pv_S) (R0 : (Int32 × pv_S)) (h : f_X4_size p0 σ = some R0) : Met l yX4_size (Cond.code yX4_size cX4_size 4 (some .int) :: lwG) r_X4_size (va_Pc [.ref (ad 2), .int p0] (pv_P D cI cZ ad σ)) (pv_QI D cI cZ ad R0) 0 0 (pv_A ad) := x_met (by decide) rfl hJ (Nat.le_of_ble_eq_true rfl) (fun p e s m args below meth c C hr => w_X4_size_0 C hr R0 p0 σ h)
