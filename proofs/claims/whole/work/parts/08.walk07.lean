abbrev r_X8_toldMore : Room := { frames := 6, cells := 0, slots := 0, locals := 143 }
set_option maxRecDepth 100000 in
set_option maxHeartbeats 4000000 in
theorem w_X8_toldMore_52 {p : Program} {l : Launch} {e : Env} {s : State} {m : MethodId} {args : Array Value} {below : List Frame} {meth : Method} {c : Code} {D : va_G} {cI cZ : ClassId} {ad : Nat → Nat} (C : pv_C p s m args meth c cX8_toldMore 2 RX8 D cI cZ ad (pv_A ad)) (hr : meth.sig.returnType = some .int) (R0 : (Int32 × pv_S)) (v1 : Int32) (σ : pv_S) (h : f_X8_toldMore_52 v1 σ = some R0) : Wx p l e r_X8_toldMore s m args below meth c 0 0 (MQ below (pv_QI D cI cZ ad R0) args s 0 0 (pv_A ad)) 2 D cI cZ ad (pv_A ad) 52 [(0, .ref (ad 8)), (1, .int v1)] [] σ := by
  unfold f_X8_toldMore_52 at h
  refine x_aload_n C dX8_toldMore_52 rfl 0 rfl ?_
  refine xg_X8_7 C dX8_toldMore_53 ?_
  refine x_iconst (v := 1) C dX8_toldMore_56 (by decide) ?_
  refine x_iload_n C dX8_toldMore_57 rfl 1 rfl ?_
  refine x_iadd C dX8_toldMore_58 ?_
  refine x_bipush (v := 7) C dX8_toldMore_59 (by decide) ?_
  refine x_isub C dX8_toldMore_61 ?_
  obtain ⟨g1, h⟩ := gd_some h
  refine xl_13 C g1 dX8_toldMore_62 ?_
  exact x_iret C hr dX8_toldMore_63 (Option.some.inj h)
set_option maxRecDepth 100000 in
set_option maxHeartbeats 4000000 in
theorem w_X8_toldMore_0 {p : Program} {l : Launch} {e : Env} {s : State} {m : MethodId} {args : Array Value} {below : List Frame} {meth : Method} {c : Code} {D : va_G} {cI cZ : ClassId} {ad : Nat → Nat} (C : pv_C p s m args meth c cX8_toldMore 2 RX8 D cI cZ ad (pv_A ad)) (hr : meth.sig.returnType = some .int) (R0 : (Int32 × pv_S)) (p0 : Int32) (σ : pv_S) (h : f_X8_toldMore p0 σ = some R0) : Wx p l e r_X8_toldMore s m args below meth c 0 0 (MQ below (pv_QI D cI cZ ad R0) args s 0 0 (pv_A ad)) 2 D cI cZ ad (pv_A ad) 0 [(0, .ref (ad 8)), (1, .int p0)] [] σ := by
  unfold f_X8_toldMore at h
  refine x_iload_n C dX8_toldMore_0 rfl 1 rfl ?_
  by_cases c1 : p0 = 7
  · have h := (if_pos c1).symm.trans h
    refine x_tableIn (off := 51) C 52 dX8_toldMore_1 (by rw [c1]; decide) (by rw [c1]; decide) (by rw [c1]; rfl) (by decide) ?_
    exact w_X8_toldMore_52 C hr R0 p0 σ h
  have h := (if_neg c1).symm.trans h
  by_cases c2 : p0 = 8
  · have h := (if_pos c2).symm.trans h
    refine x_tableIn (off := 51) C 52 dX8_toldMore_1 (by rw [c2]; decide) (by rw [c2]; decide) (by rw [c2]; rfl) (by decide) ?_
    exact w_X8_toldMore_52 C hr R0 p0 σ h
  have h := (if_neg c2).symm.trans h
  by_cases c3 : p0 = 9
  · have h := (if_pos c3).symm.trans h
    refine x_tableIn (off := 51) C 52 dX8_toldMore_1 (by rw [c3]; decide) (by rw [c3]; decide) (by rw [c3]; rfl) (by decide) ?_
    exact w_X8_toldMore_52 C hr R0 p0 σ h
  have h := (if_neg c3).symm.trans h
  by_cases c4 : p0 = 10
  · have h := (if_pos c4).symm.trans h
    refine x_tableIn (off := 51) C 52 dX8_toldMore_1 (by rw [c4]; decide) (by rw [c4]; decide) (by rw [c4]; rfl) (by decide) ?_
    exact w_X8_toldMore_52 C hr R0 p0 σ h
  have h := (if_neg c4).symm.trans h
  by_cases c5 : p0 = 11
  · have h := (if_pos c5).symm.trans h
    refine x_tableIn (off := 51) C 52 dX8_toldMore_1 (by rw [c5]; decide) (by rw [c5]; decide) (by rw [c5]; rfl) (by decide) ?_
    exact w_X8_toldMore_52 C hr R0 p0 σ h
  have h := (if_neg c5).symm.trans h
  by_cases c6 : p0 = 12
  · have h := (if_pos c6).symm.trans h
    refine x_tableIn (off := 63) C 64 dX8_toldMore_1 (by rw [c6]; decide) (by rw [c6]; decide) (by rw [c6]; rfl) (by decide) ?_
    refine x_aload_n C dX8_toldMore_64 rfl 0 rfl ?_
    refine xg_X8_82 C dX8_toldMore_65 ?_
    exact x_iret C hr dX8_toldMore_68 (Option.some.inj h)
  have h := (if_neg c6).symm.trans h
  by_cases c7 : p0 = 13
  · have h := (if_pos c7).symm.trans h
    refine x_tableIn (off := 68) C 69 dX8_toldMore_1 (by rw [c7]; decide) (by rw [c7]; decide) (by rw [c7]; rfl) (by decide) ?_
    refine x_aload_n C dX8_toldMore_69 rfl 0 rfl ?_
    obtain ⟨q8, eq8, h⟩ := gb_some h
    refine x_vi (st := []) C kY_X8_wrong 8 8 rfl rfl rfl (m_X8_wrong l D cI cZ ad C.2.2.2.2.2.2.1 σ q8 eq8) kl_X8_85 ⟨rfl, rfl⟩ ⟨Nat.le_of_ble_eq_true rfl, Nat.le_of_ble_eq_true rfl⟩ ⟨Nat.zero_le _, Nat.zero_le _⟩ rfl rfl (Nat.le_of_ble_eq_true rfl) dX8_toldMore_70 ?_
    exact x_iret C hr dX8_toldMore_73 (Option.some.inj h)
  have h := (if_neg c7).symm.trans h
  by_cases c9 : p0 = 14
  · have h := (if_pos c9).symm.trans h
    refine x_tableIn (off := 73) C 74 dX8_toldMore_1 (by rw [c9]; decide) (by rw [c9]; decide) (by rw [c9]; rfl) (by decide) ?_
    refine x_aload_n C dX8_toldMore_74 rfl 0 rfl ?_
    refine xg_X8_32 C dX8_toldMore_75 ?_
    exact x_iret C hr dX8_toldMore_78 (Option.some.inj h)
  have h := (if_neg c9).symm.trans h
  by_cases c10 : p0 = 15
  · have h := (if_pos c10).symm.trans h
    refine x_tableIn (off := 78) C 79 dX8_toldMore_1 (by rw [c10]; decide) (by rw [c10]; decide) (by rw [c10]; rfl) (by decide) ?_
    refine x_aload_n C dX8_toldMore_79 rfl 0 rfl ?_
    refine xg_X8_88 C dX8_toldMore_80 ?_
    exact x_iret C hr dX8_toldMore_83 (Option.some.inj h)
  have h := (if_neg c10).symm.trans h
  have hn11 : (p0).toInt < 7 ∨ 15 < (p0).toInt := by
    have := lv_neT (a := 7) c1 (by decide)
    have := lv_neT (a := 8) c2 (by decide)
    have := lv_neT (a := 9) c3 (by decide)
    have := lv_neT (a := 10) c4 (by decide)
    have := lv_neT (a := 11) c5 (by decide)
    have := lv_neT (a := 12) c6 (by decide)
    have := lv_neT (a := 13) c7 (by decide)
    have := lv_neT (a := 14) c9 (by decide)
    have := lv_neT (a := 15) c10 (by decide)
    omega
  refine x_tableOut C 84 dX8_toldMore_1 hn11 (by decide) ?_
  refine x_ldc C kc_X8_91 dX8_toldMore_84 ?_
  exact x_iret C hr dX8_toldMore_86 (Option.some.inj h)
theorem m_X8_toldMore (l : Launch) (D : va_G) (cI cZ : ClassId) (ad : Nat → Nat) (hJ : pv_J ad) (p0 : Int32) (σ : pv_S) (R0 : (Int32 × pv_S)) (h : f_X8_toldMore p0 σ = some R0) : Met l yX8_toldMore (Cond.code yX8_toldMore cX8_toldMore 2 (some .int) :: lwG) r_X8_toldMore (va_Pc [.ref (ad 8), .int p0] (pv_P D cI cZ ad σ)) (pv_QI D cI cZ ad R0) 0 0 (pv_A ad) := x_met (by decide) rfl hJ (Nat.le_of_ble_eq_true rfl) (fun p e s m args below meth c C hr => w_X8_toldMore_0 C hr R0 p0 σ h)
abbrev r_X8_told : Room := { frames := 7, cells := 0, slots := 0, locals := 169 }
set_option maxRecDepth 100000 in
set_option maxHeartbeats 4000000 in
theorem w_X8_told_0 {p : Program} {l : Launch} {e : Env} {s : State} {m : MethodId} {args : Array Value} {below : List Frame} {meth : Method} {c : Code} {D : va_G} {cI cZ : ClassId} {ad : Nat → Nat} (C : pv_C p s m args meth c cX8_told 2 RX8 D cI cZ ad (pv_A ad)) (hr : meth.sig.returnType = some .int) (R0 : (Int32 × pv_S)) (p0 : Int32) (σ : pv_S) (h : f_X8_told p0 σ = some R0) : Wx p l e r_X8_told s m args below meth c 0 0 (MQ below (pv_QI D cI cZ ad R0) args s 0 0 (pv_A ad)) 2 D cI cZ ad (pv_A ad) 0 [(0, .ref (ad 8)), (1, .int p0)] [] σ := by
  unfold f_X8_told at h
  refine x_iload_n C dX8_told_0 rfl 1 rfl ?_
  by_cases c1 : p0 = 0
  · have h := (if_pos c1).symm.trans h
    refine x_tableIn (off := 43) C 44 dX8_told_1 (by rw [c1]; decide) (by rw [c1]; decide) (by rw [c1]; rfl) (by decide) ?_
    refine x_aload_n C dX8_told_44 rfl 0 rfl ?_
    refine xg_X8_7 C dX8_told_45 ?_
    refine x_iconst (v := 0) C dX8_told_48 (by decide) ?_
    obtain ⟨g2, h⟩ := gd_some h
    refine xl_13 C g2 dX8_told_49 ?_
    exact x_iret C hr dX8_told_50 (Option.some.inj h)
  have h := (if_neg c1).symm.trans h
  by_cases c3 : p0 = 1
  · have h := (if_pos c3).symm.trans h
    refine x_tableIn (off := 50) C 51 dX8_told_1 (by rw [c3]; decide) (by rw [c3]; decide) (by rw [c3]; rfl) (by decide) ?_
    refine x_aload_n C dX8_told_51 rfl 0 rfl ?_
    obtain ⟨q4, eq4, h⟩ := gb_some h
    refine x_vi (st := []) C kY_X8_voices 8 8 rfl rfl rfl (m_X8_voices l D cI cZ ad C.2.2.2.2.2.2.1 σ q4 eq4) kl_X8_75 ⟨rfl, rfl⟩ ⟨Nat.le_of_ble_eq_true rfl, Nat.le_of_ble_eq_true rfl⟩ ⟨Nat.zero_le _, Nat.zero_le _⟩ rfl rfl (Nat.le_of_ble_eq_true rfl) dX8_told_52 ?_
    exact x_iret C hr dX8_told_55 (Option.some.inj h)
  have h := (if_neg c3).symm.trans h
  by_cases c5 : p0 = 2
  · have h := (if_pos c5).symm.trans h
    refine x_tableIn (off := 55) C 56 dX8_told_1 (by rw [c5]; decide) (by rw [c5]; decide) (by rw [c5]; rfl) (by decide) ?_
    refine x_aload_n C dX8_told_56 rfl 0 rfl ?_
    obtain ⟨q6, eq6, h⟩ := gb_some h
    refine x_vi (st := []) C kY_X8_costNow 8 8 rfl rfl rfl (m_X8_costNow l D cI cZ ad C.2.2.2.2.2.2.1 σ q6 eq6) kl_X8_92 ⟨rfl, rfl⟩ ⟨Nat.le_of_ble_eq_true rfl, Nat.le_of_ble_eq_true rfl⟩ ⟨Nat.zero_le _, Nat.zero_le _⟩ rfl rfl (Nat.le_of_ble_eq_true rfl) dX8_told_57 ?_
    exact x_iret C hr dX8_told_60 (Option.some.inj h)
  have h := (if_neg c5).symm.trans h
  by_cases c7 : p0 = 3
  · have h := (if_pos c7).symm.trans h
    refine x_tableIn (off := 60) C 61 dX8_told_1 (by rw [c7]; decide) (by rw [c7]; decide) (by rw [c7]; rfl) (by decide) ?_
    refine x_aload_n C dX8_told_61 rfl 0 rfl ?_
    obtain ⟨q8, eq8, h⟩ := gb_some h
    refine x_vi (st := []) C kY_X8_fewest 8 8 rfl rfl rfl (m_X8_fewest l D cI cZ ad C.2.2.2.2.2.2.1 σ q8 eq8) kl_X8_95 ⟨rfl, rfl⟩ ⟨Nat.le_of_ble_eq_true rfl, Nat.le_of_ble_eq_true rfl⟩ ⟨Nat.zero_le _, Nat.zero_le _⟩ rfl rfl (Nat.le_of_ble_eq_true rfl) dX8_told_62 ?_
    exact x_iret C hr dX8_told_65 (Option.some.inj h)
  have h := (if_neg c7).symm.trans h
  by_cases c9 : p0 = 4
  · have h := (if_pos c9).symm.trans h
    refine x_tableIn (off := 65) C 66 dX8_told_1 (by rw [c9]; decide) (by rw [c9]; decide) (by rw [c9]; rfl) (by decide) ?_
    refine x_aload_n C dX8_told_66 rfl 0 rfl ?_
    refine x_iconst (v := (-1)) C dX8_told_67 (by decide) ?_
    obtain ⟨q10, eq10, h⟩ := gb_some h
    refine x_vi (st := []) C kY_X8_cheapest 8 8 rfl rfl rfl (m_X8_cheapest l D cI cZ ad C.2.2.2.2.2.2.1 (-1) σ q10 eq10) kl_X8_69 ⟨rfl, rfl⟩ ⟨Nat.le_of_ble_eq_true rfl, Nat.le_of_ble_eq_true rfl⟩ ⟨Nat.zero_le _, Nat.zero_le _⟩ rfl rfl (Nat.le_of_ble_eq_true rfl) dX8_told_68 ?_
    exact x_iret C hr dX8_told_71 (Option.some.inj h)
  have h := (if_neg c9).symm.trans h
  by_cases c11 : p0 = 5
  · have h := (if_pos c11).symm.trans h
    refine x_tableIn (off := 71) C 72 dX8_told_1 (by rw [c11]; decide) (by rw [c11]; decide) (by rw [c11]; rfl) (by decide) ?_
    refine x_aload_n C dX8_told_72 rfl 0 rfl ?_
    refine x_iconst (v := (-1)) C dX8_told_73 (by decide) ?_
    obtain ⟨q12, eq12, h⟩ := gb_some h
    refine x_vi (st := []) C kY_X8_leastOfAll 8 8 rfl rfl rfl (m_X8_leastOfAll l D cI cZ ad C.2.2.2.2.2.2.1 (-1) σ q12 eq12) kl_X8_98 ⟨rfl, rfl⟩ ⟨Nat.le_of_ble_eq_true rfl, Nat.le_of_ble_eq_true rfl⟩ ⟨Nat.zero_le _, Nat.zero_le _⟩ rfl rfl (Nat.le_of_ble_eq_true rfl) dX8_told_74 ?_
    exact x_iret C hr dX8_told_77 (Option.some.inj h)
  have h := (if_neg c11).symm.trans h
  by_cases c13 : p0 = 6
  · have h := (if_pos c13).symm.trans h
    refine x_tableIn (off := 77) C 78 dX8_told_1 (by rw [c13]; decide) (by rw [c13]; decide) (by rw [c13]; rfl) (by decide) ?_
    refine x_aload_n C dX8_told_78 rfl 0 rfl ?_
    obtain ⟨q14, eq14, h⟩ := gb_some h
    refine x_vi (st := []) C kY_X8_crossings 8 8 rfl rfl rfl (m_X8_crossings l D cI cZ ad C.2.2.2.2.2.2.1 σ q14 eq14) kl_X8_101 ⟨rfl, rfl⟩ ⟨Nat.le_of_ble_eq_true rfl, Nat.le_of_ble_eq_true rfl⟩ ⟨Nat.zero_le _, Nat.zero_le _⟩ rfl rfl (Nat.le_of_ble_eq_true rfl) dX8_told_79 ?_
    exact x_iret C hr dX8_told_82 (Option.some.inj h)
  have h := (if_neg c13).symm.trans h
  have hn16 : (p0).toInt < 0 ∨ 6 < (p0).toInt := by
    have := lv_neT (a := 0) c1 (by decide)
    have := lv_neT (a := 1) c3 (by decide)
    have := lv_neT (a := 2) c5 (by decide)
    have := lv_neT (a := 3) c7 (by decide)
    have := lv_neT (a := 4) c9 (by decide)
    have := lv_neT (a := 5) c11 (by decide)
    have := lv_neT (a := 6) c13 (by decide)
    omega
  refine x_tableOut C 83 dX8_told_1 hn16 (by decide) ?_
  refine x_aload_n C dX8_told_83 rfl 0 rfl ?_
  refine x_iload_n C dX8_told_84 rfl 1 rfl ?_
  obtain ⟨q15, eq15, h⟩ := gb_some h
  refine x_vi (st := []) C kY_X8_toldMore 8 8 rfl rfl rfl (m_X8_toldMore l D cI cZ ad C.2.2.2.2.2.2.1 p0 σ q15 eq15) kl_X8_104 ⟨rfl, rfl⟩ ⟨Nat.le_of_ble_eq_true rfl, Nat.le_of_ble_eq_true rfl⟩ ⟨Nat.zero_le _, Nat.zero_le _⟩ rfl rfl (Nat.le_of_ble_eq_true rfl) dX8_told_85 ?_
  exact x_iret C hr dX8_told_88 (Option.some.inj h)
theorem m_X8_told (l : Launch) (D : va_G) (cI cZ : ClassId) (ad : Nat → Nat) (hJ : pv_J ad) (p0 : Int32) (σ : pv_S) (R0 : (Int32 × pv_S)) (h : f_X8_told p0 σ = some R0) : Met l yX8_told (Cond.code yX8_told cX8_told 2 (some .int) :: lwG) r_X8_told (va_Pc [.ref (ad 8), .int p0] (pv_P D cI cZ ad σ)) (pv_QI D cI cZ ad R0) 0 0 (pv_A ad) := x_met (by decide) rfl hJ (Nat.le_of_ble_eq_true rfl) (fun p e s m args below meth c C hr => w_X8_told_0 C hr R0 p0 σ h)
abbrev r_X8_isNote : Room := { frames := 1, cells := 0, slots := 0, locals := 25 }
set_option maxRecDepth 100000 in
set_option maxHeartbeats 4000000 in
theorem w_X8_isNote_0 {p : Program} {l : Launch} {e : Env} {s : State} {m : MethodId} {args : Array Value} {below : List Frame} {meth : Method} {c : Code} {D : va_G} {cI cZ : ClassId} {ad : Nat → Nat} (C : pv_C p s m args meth c cX8_isNote 2 RX8 D cI cZ ad (pv_A ad)) (hr : meth.sig.returnType = some .boolean) (R0 : (Int32 × pv_S)) (p0 : Int32) (σ : pv_S) (h : f_X8_isNote p0 σ = some R0) : Wx p l e r_X8_isNote s m args below meth c 0 0 (MQ below (pv_QI D cI cZ ad R0) args s 0 0 (pv_A ad)) 2 D cI cZ ad (pv_A ad) 0 [(0, .ref (ad 8)), (1, .int p0)] [] σ := by
  unfold f_X8_isNote at h
  refine x_iload_n C dX8_isNote_0 rfl 1 rfl ?_
  refine x_i2l C dX8_isNote_1 ?_
  refine x_lconst (v := 0) C dX8_isNote_2 (by decide) ?_
  refine x_aload_n C dX8_isNote_3 rfl 0 rfl ?_
  refine xg_X8_7 C dX8_isNote_4 ?_
  refine x_iconst (v := 0) C dX8_isNote_7 (by decide) ?_
  obtain ⟨g1, h⟩ := gd_some h
  refine xl_13 C g1 dX8_isNote_8 ?_
  refine x_iconst (v := 1) C dX8_isNote_9 (by decide) ?_
  refine x_isub C dX8_isNote_10 ?_
  refine x_i2l C dX8_isNote_11 ?_
  obtain ⟨q2, eq2, h⟩ := gb_some h
  refine x_si (st := []) C kY_X8_in (m_X8_in l D cI cZ ad C.2.2.2.2.2.2.1 p0.toInt64 0 (((pv_la σ 13 0) - 1)).toInt64 σ q2 eq2) kl_X8_40 ⟨rfl, rfl⟩ ⟨Nat.le_of_ble_eq_true rfl, Nat.le_of_ble_eq_true rfl⟩ ⟨Nat.zero_le _, Nat.zero_le _⟩ rfl rfl (Nat.le_of_ble_eq_true rfl) dX8_isNote_12 ?_
  obtain ⟨g3, h⟩ := gz_some h
  exact x_zret C hr g3 dX8_isNote_15 (Option.some.inj h)
theorem m_X8_isNote (l : Launch) (D : va_G) (cI cZ : ClassId) (ad : Nat → Nat) (hJ : pv_J ad) (p0 : Int32) (σ : pv_S) (R0 : (Int32 × pv_S)) (h : f_X8_isNote p0 σ = some R0) : Met l yX8_isNote (Cond.code yX8_isNote cX8_isNote 2 (some .boolean) :: lwG) r_X8_isNote (va_Pc [.ref (ad 8), .int p0] (pv_P D cI cZ ad σ)) (pv_QI D cI cZ ad R0) 0 0 (pv_A ad) := x_met (by decide) rfl hJ (Nat.le_of_ble_eq_true rfl) (fun p e s m args below meth c C hr => w_X8_isNote_0 C hr R0 p0 σ h)
abbrev r_X8_voiceOf : Room := { frames := 1, cells := 0, slots := 0, locals := 23 }
set_option maxRecDepth 100000 in
set_option maxHeartbeats 4000000 in
theorem w_X8_voiceOf_25 {p : Program} {l : Launch} {e : Env} {s : State} {m : MethodId} {args : Array Value} {below : List Frame} {meth : Method} {c : Code} {D : va_G} {cI cZ : ClassId} {ad : Nat → Nat} (C : pv_C p s m args meth c cX8_voiceOf 5 RX8 D cI cZ ad (pv_A ad)) (hr : meth.sig.returnType = some .int) (R0 : (Int32 × pv_S)) : ∀ (n : Nat) (v2 : Int32) (v3 : Int32) (v4 : Int32) (σ : pv_S), f_X8_voiceOf_25 n v2 v3 v4 σ = some R0 → Wx p l e r_X8_voiceOf s m args below meth c 0 0 (MQ below (pv_QI D cI cZ ad R0) args s 0 0 (pv_A ad)) 5 D cI cZ ad (pv_A ad) 25 [(0, .ref (ad 8)), (2, .int v2), (3, .int v3), (4, .int v4)] [] σ := by
  intro n
  induction n with
  | zero =>
    intro v2 v3 v4 σ h
    have h2 : (none : Option (Int32 × pv_S)) = some R0 := h
    cases h2
  | succ n ih =>
    intro v2 v3 v4 σ h
    unfold f_X8_voiceOf_25 at h
    refine x_iload C dX8_voiceOf_25 3 rfl ?_
    refine x_iload_n C dX8_voiceOf_27 rfl 1 rfl ?_
    refine x_icmp_ge C 55 dX8_voiceOf_28 (by decide) (fun c1 => ?_) (fun c1 => ?_)
    · have h := (if_pos c1).symm.trans h
      refine x_iload_n C dX8_voiceOf_55 rfl 2 rfl ?_
      exact x_iret C hr dX8_voiceOf_56 (Option.some.inj h)
    · have h := (if_neg c1).symm.trans h
      refine x_iload_n C dX8_voiceOf_31 rfl 2 rfl ?_
      refine x_aload_n C dX8_voiceOf_32 rfl 0 rfl ?_
      refine x_iload C dX8_voiceOf_33 3 rfl ?_
      obtain ⟨q2, eq2, h⟩ := gb_some h
      refine x_vi (st := [.int v3]) C kY_X8_prior 8 8 rfl rfl rfl (m_X8_prior l D cI cZ ad C.2.2.2.2.2.2.1 v4 σ q2 eq2) kl_X8_72 ⟨rfl, rfl⟩ ⟨Nat.le_of_ble_eq_true rfl, Nat.le_of_ble_eq_true rfl⟩ ⟨Nat.zero_le _, Nat.zero_le _⟩ rfl rfl (Nat.le_of_ble_eq_true rfl) dX8_voiceOf_35 ?_
      refine x_iconst (v := (-1)) C dX8_voiceOf_38 (by decide) ?_
      refine x_icmp_ne C 46 dX8_voiceOf_39 (by decide) (fun c3 => ?_) (fun c3 => ?_)
      · have h := (if_neg c3).symm.trans h
        refine x_iconst (v := 0) C dX8_voiceOf_46 (by decide) ?_
        refine x_iadd C dX8_voiceOf_47 ?_
        refine x_istore_n (lv' := [(3, .int (v3 + 0)), (0, .ref (ad 8)), (2, .int v2), (4, .int v4)]) C dX8_voiceOf_48 rfl (by decide) rfl ?_
        refine x_iinc (v := (v4 + 1)) (lv' := [(4, .int (v4 + 1)), (3, .int (v3 + 0)), (0, .ref (ad 8)), (2, .int v2)]) C 3 dX8_voiceOf_49 rfl rfl (by decide) rfl ?_
        refine x_goto C 25 dX8_voiceOf_52 (by decide) ?_
        refine x_sub [2, 3, 1, 0] rfl ?_
        exact ih v2 (v3 + 0) (v4 + 1) q2.2 h
      · have h := (if_pos c3).symm.trans h
        refine x_iconst (v := 1) C dX8_voiceOf_42 (by decide) ?_
        refine x_goto C 47 dX8_voiceOf_43 (by decide) ?_
        refine x_iadd C dX8_voiceOf_47 ?_
        refine x_istore_n (lv' := [(3, .int (v3 + 1)), (0, .ref (ad 8)), (2, .int v2), (4, .int v4)]) C dX8_voiceOf_48 rfl (by decide) rfl ?_
        refine x_iinc (v := (v4 + 1)) (lv' := [(4, .int (v4 + 1)), (3, .int (v3 + 1)), (0, .ref (ad 8)), (2, .int v2)]) C 3 dX8_voiceOf_49 rfl rfl (by decide) rfl ?_
        refine x_goto C 25 dX8_voiceOf_52 (by decide) ?_
        refine x_sub [2, 3, 1, 0] rfl ?_
        exact ih v2 (v3 + 1) (v4 + 1) q2.2 h
set_option maxRecDepth 100000 in
set_option maxHeartbeats 4000000 in
theorem w_X8_voiceOf_2 {p : Program} {l : Launch} {e : Env} {s : State} {m : MethodId} {args : Array Value} {below : List Frame} {meth : Method} {c : Code} {D : va_G} {cI cZ : ClassId} {ad : Nat → Nat} (C : pv_C p s m args meth c cX8_voiceOf 5 RX8 D cI cZ ad (pv_A ad)) (hr : meth.sig.returnType = some .int) (R0 : (Int32 × pv_S)) : ∀ (n : Nat) (v2 : Int32) (σ : pv_S), f_X8_voiceOf_2 n v2 σ = some R0 → Wx p l e r_X8_voiceOf s m args below meth c 0 0 (MQ below (pv_QI D cI cZ ad R0) args s 0 0 (pv_A ad)) 5 D cI cZ ad (pv_A ad) 2 [(0, .ref (ad 8)), (2, .int v2)] [] σ := by
  intro n
  induction n with
  | zero =>
    intro v2 σ h
    have h2 : (none : Option (Int32 × pv_S)) = some R0 := h
    cases h2
  | succ n ih =>
    intro v2 σ h
    unfold f_X8_voiceOf_2 at h
    refine x_aload_n C dX8_voiceOf_2 rfl 0 rfl ?_
    refine x_iload_n C dX8_voiceOf_3 rfl 1 rfl ?_
    obtain ⟨q1, eq1, h⟩ := gb_some h
    refine x_vi (st := []) C kY_X8_prior 8 8 rfl rfl rfl (m_X8_prior l D cI cZ ad C.2.2.2.2.2.2.1 v2 σ q1 eq1) kl_X8_72 ⟨rfl, rfl⟩ ⟨Nat.le_of_ble_eq_true rfl, Nat.le_of_ble_eq_true rfl⟩ ⟨Nat.zero_le _, Nat.zero_le _⟩ rfl rfl (Nat.le_of_ble_eq_true rfl) dX8_voiceOf_4 ?_
    refine x_iconst (v := (-1)) C dX8_voiceOf_7 (by decide) ?_
    refine x_icmp_eq C 20 dX8_voiceOf_8 (by decide) (fun c2 => ?_) (fun c2 => ?_)
    · have h := (if_pos c2).symm.trans h
      refine x_iconst (v := 0) C dX8_voiceOf_20 (by decide) ?_
      refine x_istore_n (lv' := [(3, .int 0), (0, .ref (ad 8)), (2, .int v2)]) C dX8_voiceOf_21 rfl (by decide) rfl ?_
      refine x_iconst (v := 0) C dX8_voiceOf_22 (by decide) ?_
      refine x_istore (lv' := [(4, .int 0), (3, .int 0), (0, .ref (ad 8)), (2, .int v2)]) C dX8_voiceOf_23 (by decide) rfl ?_
      refine x_sub [2, 3, 1, 0] rfl ?_
      exact w_X8_voiceOf_25 C hr R0 pv_FU v2 0 0 q1.2 h
    · have h := (if_neg c2).symm.trans h
      refine x_aload_n C dX8_voiceOf_11 rfl 0 rfl ?_
      refine x_iload_n C dX8_voiceOf_12 rfl 1 rfl ?_
      obtain ⟨q3, eq3, h⟩ := gb_some h
      refine x_vi (st := []) C kY_X8_prior 8 8 rfl rfl rfl (m_X8_prior l D cI cZ ad C.2.2.2.2.2.2.1 v2 q1.2 q3 eq3) kl_X8_72 ⟨rfl, rfl⟩ ⟨Nat.le_of_ble_eq_true rfl, Nat.le_of_ble_eq_true rfl⟩ ⟨Nat.zero_le _, Nat.zero_le _⟩ rfl rfl (Nat.le_of_ble_eq_true rfl) dX8_voiceOf_13 ?_
      refine x_istore_n (lv' := [(2, .int q3.1), (0, .ref (ad 8))]) C dX8_voiceOf_16 rfl (by decide) rfl ?_
      refine x_goto C 2 dX8_voiceOf_17 (by decide) ?_
      refine x_sub [1, 0] rfl ?_
      exact ih q3.1 q3.2 h
set_option maxRecDepth 100000 in
set_option maxHeartbeats 4000000 in
theorem w_X8_voiceOf_0 {p : Program} {l : Launch} {e : Env} {s : State} {m : MethodId} {args : Array Value} {below : List Frame} {meth : Method} {c : Code} {D : va_G} {cI cZ : ClassId} {ad : Nat → Nat} (C : pv_C p s m args meth c cX8_voiceOf 5 RX8 D cI cZ ad (pv_A ad)) (hr : meth.sig.returnType = some .int) (R0 : (Int32 × pv_S)) (p0 : Int32) (σ : pv_S) (h : f_X8_voiceOf p0 σ = some R0) : Wx p l e r_X8_voiceOf s m args below meth c 0 0 (MQ below (pv_QI D cI cZ ad R0) args s 0 0 (pv_A ad)) 5 D cI cZ ad (pv_A ad) 0 [(0, .ref (ad 8)), (1, .int p0)] [] σ := by
  unfold f_X8_voiceOf at h
  refine x_iload_n C dX8_voiceOf_0 rfl 1 rfl ?_
  refine x_istore_n (lv' := [(2, .int p0), (0, .ref (ad 8)), (1, .int p0)]) C dX8_voiceOf_1 rfl (by decide) rfl ?_
  refine x_sub [1, 0] rfl ?_
  exact w_X8_voiceOf_2 C hr R0 pv_FU p0 σ h
theorem m_X8_voiceOf (l : Launch) (D : va_G) (cI cZ : ClassId) (ad : Nat → Nat) (hJ : pv_J ad) (p0 : Int32) (σ : pv_S) (R0 : (Int32 × pv_S)) (h : f_X8_voiceOf p0 σ = some R0) : Met l yX8_voiceOf (Cond.code yX8_voiceOf cX8_voiceOf 5 (some .int) :: lwG) r_X8_voiceOf (va_Pc [.ref (ad 8), .int p0] (pv_P D cI cZ ad σ)) (pv_QI D cI cZ ad R0) 0 0 (pv_A ad) := x_met (by decide) rfl hJ (Nat.le_of_ble_eq_true rfl) (fun p e s m args below meth c C hr => w_X8_voiceOf_0 C hr R0 p0 σ h)
abbrev r_X8_followers : Room := { frames := 2, cells := 0, slots := 0, locals := 47 }
set_option maxRecDepth 100000 in
set_option maxHeartbeats 4000000 in
theorem w_X8_followers_4 {p : Program} {l : Launch} {e : Env} {s : State} {m : MethodId} {args : Array Value} {below : List Frame} {meth : Method} {c : Code} {D : va_G} {cI cZ : ClassId} {ad : Nat → Nat} (C : pv_C p s m args meth c cX8_followers 4 RX8 D cI cZ ad (pv_A ad)) (hr : meth.sig.returnType = some .int) (R0 : (Int32 × pv_S)) : ∀ (n : Nat) (v1 : Int32) (v2 : Int32) (v3 : Int32) (σ : pv_S), f_X8_followers_4 n v1 v2 v3 σ = some R0 → Wx p l e r_X8_followers s m args below meth c 0 0 (MQ below (pv_QI D cI cZ ad R0) args s 0 0 (pv_A ad)) 4 D cI cZ ad (pv_A ad) 4 [(0, .ref (ad 8)), (1, .int v1), (2, .int v2), (3, .int v3)] [] σ := by
  intro n
  induction n with
  | zero =>
    intro v1 v2 v3 σ h
    have h2 : (none : Option (Int32 × pv_S)) = some R0 := h
    cases h2
  | succ n ih =>
    intro v1 v2 v3 σ h
    unfold f_X8_followers_4 at h
    refine x_iload_n C dX8_followers_4 rfl 3 rfl ?_
    refine x_aload_n C dX8_followers_5 rfl 0 rfl ?_
    refine xg_X8_7 C dX8_followers_6 ?_
    refine x_iconst (v := 0) C dX8_followers_9 (by decide) ?_
    obtain ⟨g1, h⟩ := gd_some h
    refine xl_13 C g1 dX8_followers_10 ?_
    refine x_icmp_ge C 37 dX8_followers_11 (by decide) (fun c2 => ?_) (fun c2 => ?_)
    · have h := (if_pos c2).symm.trans h
      refine x_iload_n C dX8_followers_37 rfl 2 rfl ?_
      exact x_iret C hr dX8_followers_38 (Option.some.inj h)
    · have h := (if_neg c2).symm.trans h
      refine x_iload_n C dX8_followers_14 rfl 2 rfl ?_
      refine x_aload_n C dX8_followers_15 rfl 0 rfl ?_
      refine x_iload_n C dX8_followers_16 rfl 1 rfl ?_
      refine x_iload_n C dX8_followers_17 rfl 3 rfl ?_
      obtain ⟨q3, eq3, h⟩ := gb_some h
      refine x_vi (st := [.int v2]) C kY_X8_may 8 8 rfl rfl rfl (m_X8_may l D cI cZ ad C.2.2.2.2.2.2.1 v1 v3 σ q3 eq3) kl_X8_48 ⟨rfl, rfl⟩ ⟨Nat.le_of_ble_eq_true rfl, Nat.le_of_ble_eq_true rfl⟩ ⟨Nat.zero_le _, Nat.zero_le _⟩ rfl rfl (Nat.le_of_ble_eq_true rfl) dX8_followers_18 ?_
      refine x_if_eq C 28 dX8_followers_21 (by decide) (fun c4 => ?_) (fun c4 => ?_)
      · have h := (if_pos c4).symm.trans h
        refine x_iconst (v := 0) C dX8_followers_28 (by decide) ?_
        refine x_iadd C dX8_followers_29 ?_
        refine x_istore_n (lv' := [(2, .int (v2 + 0)), (0, .ref (ad 8)), (1, .int v1), (3, .int v3)]) C dX8_followers_30 rfl (by decide) rfl ?_
        refine x_iinc (v := (v3 + 1)) (lv' := [(3, .int (v3 + 1)), (2, .int (v2 + 0)), (0, .ref (ad 8)), (1, .int v1)]) C 3 dX8_followers_31 rfl rfl (by decide) rfl ?_
        refine x_goto C 4 dX8_followers_34 (by decide) ?_
        refine x_sub [2, 3, 1, 0] rfl ?_
        exact ih v1 (v2 + 0) (v3 + 1) q3.2 h
      · have h := (if_neg c4).symm.trans h
        refine x_iconst (v := 1) C dX8_followers_24 (by decide) ?_
        refine x_goto C 29 dX8_followers_25 (by decide) ?_
        refine x_iadd C dX8_followers_29 ?_
        refine x_istore_n (lv' := [(2, .int (v2 + 1)), (0, .ref (ad 8)), (1, .int v1), (3, .int v3)]) C dX8_followers_30 rfl (by decide) rfl ?_
        refine x_iinc (v := (v3 + 1)) (lv' := [(3, .int (v3 + 1)), (2, .int (v2 + 1)), (0, .ref (ad 8)), (1, .int v1)]) C 3 dX8_followers_31 rfl rfl (by decide) rfl ?_
        refine x_goto C 4 dX8_followers_34 (by decide) ?_
        refine x_sub [2, 3, 1, 0] rfl ?_
        exact ih v1 (v2 + 1) (v3 + 1) q3.2 h
set_option maxRecDepth 100000 in
set_option maxHeartbeats 4000000 in
theorem w_X8_followers_0 {p : Program} {l : Launch} {e : Env} {s : State} {m : MethodId} {args : Array Value} {below : List Frame} {meth : Method} {c : Code} {D : va_G} {cI cZ : ClassId} {ad : Nat → Nat} (C : pv_C p s m args meth c cX8_followers 4 RX8 D cI cZ ad (pv_A ad)) (hr : meth.sig.returnType = some .int) (R0 : (Int32 × pv_S)) (p0 : Int32) (σ : pv_S) (h : f_X8_followers p0 σ = some R0) : Wx p l e r_X8_followers s m args below meth c 0 0 (MQ below (pv_QI D cI cZ ad R0) args s 0 0 (pv_A ad)) 4 D cI cZ ad (pv_A ad) 0 [(0, .ref (ad 8)), (1, .int p0)] [] σ := by
  unfold f_X8_followers at h
  refine x_iconst (v := 0) C dX8_followers_0 (by decide) ?_
  refine x_istore_n (lv' := [(2, .int 0), (0, .ref (ad 8)), (1, .int p0)]) C dX8_followers_1 rfl (by decide) rfl ?_
  refine x_iconst (v := 0) C dX8_followers_2 (by decide) ?_
  refine x_istore_n (lv' := [(3, .int 0), (2, .int 0), (0, .ref (ad 8)), (1, .int p0)]) C dX8_followers_3 rfl (by decide) rfl ?_
  refine x_sub [2, 3, 1, 0] rfl ?_
  exact w_X8_followers_4 C hr R0 pv_FU p0 0 0 σ h
theorem m_X8_followers (l : Launch) (D : va_G) (cI cZ : ClassId) (ad : Nat → Nat) (hJ : pv_J ad) (p0 : Int32) (σ : pv_S) (R0 : (Int32 × pv_S)) (h : f_X8_followers p0 σ = some R0) : Met l yX8_followers (Cond.code yX8_followers cX8_followers 4 (some .int) :: lwG) r_X8_followers (va_Pc [.ref (ad 8), .int p0] (pv_P D cI cZ ad σ)) (pv_QI D cI cZ ad R0) 0 0 (pv_A ad) := x_met (by decide) rfl hJ (Nat.le_of_ble_eq_true rfl) (fun p e s m args below meth c C hr => w_X8_followers_0 C hr R0 p0 σ h)
abbrev r_X8_at : Room := { frames := 7, cells := 0, slots := 0, locals := 169 }
set_option maxRecDepth 100000 in
set_option maxHeartbeats 4000000 in
theorem w_X8_at_0 {p : Program} {l : Launch} {e : Env} {s : State} {m : MethodId} {args : Array Value} {below : List Frame} {meth : Method} {c : Code} {D : va_G} {cI cZ : ClassId} {ad : Nat → Nat} (C : pv_C p s m args meth c cX8_at 3 RX8 D cI cZ ad (pv_A ad)) (hr : meth.sig.returnType = some .int) (R0 : (Int32 × pv_S)) (p0 : Int32) (p1 : Int32) (σ : pv_S) (h : f_X8_at p0 p1 σ = some R0) : Wx p l e r_X8_at s m args below meth c 0 0 (MQ below (pv_QI D cI cZ ad R0) args s 0 0 (pv_A ad)) 3 D cI cZ ad (pv_A ad) 0 [(0, .ref (ad 8)), (1, .int p0), (2, .int p1)] [] σ := by
  unfold f_X8_at at h
  refine x_aload_n C dX8_at_0 rfl 0 rfl ?_
  refine x_iload_n C dX8_at_1 rfl 1 rfl ?_
  obtain ⟨q1, eq1, h⟩ := gb_some h
  refine x_vi (st := []) C kY_X8_isNote 8 8 rfl rfl rfl (m_X8_isNote l D cI cZ ad C.2.2.2.2.2.2.1 p0 σ q1 eq1) kl_X8_107 ⟨rfl, rfl⟩ ⟨Nat.le_of_ble_eq_true rfl, Nat.le_of_ble_eq_true rfl⟩ ⟨Nat.zero_le _, Nat.zero_le _⟩ rfl rfl (Nat.le_of_ble_eq_true rfl) dX8_at_2 ?_
  refine x_if_ne C 11 dX8_at_5 (by decide) (fun c2 => ?_) (fun c2 => ?_)
  · have h := (if_neg c2).symm.trans h
    refine x_iload_n C dX8_at_11 rfl 2 rfl ?_
    by_cases c3 : p1 = 0
    · have h := (if_pos c3).symm.trans h
      refine x_tableIn (off := 48) C 60 dX8_at_12 (by rw [c3]; decide) (by rw [c3]; decide) (by rw [c3]; rfl) (by decide) ?_
      refine x_aload_n C dX8_at_60 rfl 0 rfl ?_
      refine xg_X8_7 C dX8_at_61 ?_
      refine x_bipush (v := 6) C dX8_at_64 (by decide) ?_
      refine x_iload_n C dX8_at_66 rfl 1 rfl ?_
      refine x_iadd C dX8_at_67 ?_
      obtain ⟨g4, h⟩ := gd_some h
      refine xl_13 C g4 dX8_at_68 ?_
      exact x_iret C hr dX8_at_69 (Option.some.inj h)
    have h := (if_neg c3).symm.trans h
    by_cases c5 : p1 = 1
    · have h := (if_pos c5).symm.trans h
      refine x_tableIn (off := 58) C 70 dX8_at_12 (by rw [c5]; decide) (by rw [c5]; decide) (by rw [c5]; rfl) (by decide) ?_
      refine x_aload_n C dX8_at_70 rfl 0 rfl ?_
      refine x_iload_n C dX8_at_71 rfl 1 rfl ?_
      obtain ⟨q6, eq6, h⟩ := gb_some h
      refine x_vi (st := []) C kY_X8_off 8 8 rfl rfl rfl (m_X8_off l D cI cZ ad C.2.2.2.2.2.2.1 p0 q1.2 q6 eq6) kl_X8_36 ⟨rfl, rfl⟩ ⟨Nat.le_of_ble_eq_true rfl, Nat.le_of_ble_eq_true rfl⟩ ⟨Nat.zero_le _, Nat.zero_le _⟩ rfl rfl (Nat.le_of_ble_eq_true rfl) dX8_at_72 ?_
      exact x_iret C hr dX8_at_75 (Option.some.inj h)
    have h := (if_neg c5).symm.trans h
    by_cases c7 : p1 = 2
    · have h := (if_pos c7).symm.trans h
      refine x_tableIn (off := 64) C 76 dX8_at_12 (by rw [c7]; decide) (by rw [c7]; decide) (by rw [c7]; rfl) (by decide) ?_
      refine x_aload_n C dX8_at_76 rfl 0 rfl ?_
      refine xg_X8_7 C dX8_at_77 ?_
      refine x_bipush (v := 26) C dX8_at_80 (by decide) ?_
      refine x_iload_n C dX8_at_82 rfl 1 rfl ?_
      refine x_iadd C dX8_at_83 ?_
      obtain ⟨g8, h⟩ := gd_some h
      refine xl_13 C g8 dX8_at_84 ?_
      exact x_iret C hr dX8_at_85 (Option.some.inj h)
    have h := (if_neg c7).symm.trans h
    by_cases c9 : p1 = 3
    · have h := (if_pos c9).symm.trans h
      refine x_tableIn (off := 74) C 86 dX8_at_12 (by rw [c9]; decide) (by rw [c9]; decide) (by rw [c9]; rfl) (by decide) ?_
      refine x_aload_n C dX8_at_86 rfl 0 rfl ?_
      refine xg_X8_7 C dX8_at_87 ?_
      refine x_bipush (v := 36) C dX8_at_90 (by decide) ?_
      refine x_iload_n C dX8_at_92 rfl 1 rfl ?_
      refine x_iadd C dX8_at_93 ?_
      obtain ⟨g10, h⟩ := gd_some h
      refine xl_13 C g10 dX8_at_94 ?_
      exact x_iret C hr dX8_at_95 (Option.some.inj h)
    have h := (if_neg c9).symm.trans h
    by_cases c11 : p1 = 4
    · have h := (if_pos c11).symm.trans h
      refine x_tableIn (off := 84) C 96 dX8_at_12 (by rw [c11]; decide) (by rw [c11]; decide) (by rw [c11]; rfl) (by decide) ?_
      refine x_aload_n C dX8_at_96 rfl 0 rfl ?_
      refine x_iload_n C dX8_at_97 rfl 1 rfl ?_
      obtain ⟨q12, eq12, h⟩ := gb_some h
      refine x_vi (st := []) C kY_X8_prior 8 8 rfl rfl rfl (m_X8_prior l D cI cZ ad C.2.2.2.2.2.2.1 p0 q1.2 q12 eq12) kl_X8_72 ⟨rfl, rfl⟩ ⟨Nat.le_of_ble_eq_true rfl, Nat.le_of_ble_eq_true rfl⟩ ⟨Nat.zero_le _, Nat.zero_le _⟩ rfl rfl (Nat.le_of_ble_eq_true rfl) dX8_at_98 ?_
      exact x_iret C hr dX8_at_101 (Option.some.inj h)
    have h := (if_neg c11).symm.trans h
    by_cases c13 : p1 = 5
    · have h := (if_pos c13).symm.trans h
      refine x_tableIn (off := 90) C 102 dX8_at_12 (by rw [c13]; decide) (by rw [c13]; decide) (by rw [c13]; rfl) (by decide) ?_
      refine x_aload_n C dX8_at_102 rfl 0 rfl ?_
      refine x_iload_n C dX8_at_103 rfl 1 rfl ?_
      obtain ⟨q14, eq14, h⟩ := gb_some h
      refine x_vi (st := []) C kY_X8_voiceOf 8 8 rfl rfl rfl (m_X8_voiceOf l D cI cZ ad C.2.2.2.2.2.2.1 p0 q1.2 q14 eq14) kl_X8_112 ⟨rfl, rfl⟩ ⟨Nat.le_of_ble_eq_true rfl, Nat.le_of_ble_eq_true rfl⟩ ⟨Nat.zero_le _, Nat.zero_le _⟩ rfl rfl (Nat.le_of_ble_eq_true rfl) dX8_at_104 ?_
      exact x_iret C hr dX8_at_107 (Option.some.inj h)
    have h := (if_neg c13).symm.trans h
    by_cases c15 : p1 = 6
    · have h := (if_pos c15).symm.trans h
      refine x_tableIn (off := 96) C 108 dX8_at_12 (by rw [c15]; decide) (by rw [c15]; decide) (by rw [c15]; rfl) (by decide) ?_
      refine x_aload_n C dX8_at_108 rfl 0 rfl ?_
      refine x_iconst (v := (-1)) C dX8_at_109 (by decide) ?_
      obtain ⟨q16, eq16, h⟩ := gb_some h
      refine x_vi (st := []) C kY_X8_leastOfAll 8 8 rfl rfl rfl (m_X8_leastOfAll l D cI cZ ad C.2.2.2.2.2.2.1 (-1) q1.2 q16 eq16) kl_X8_98 ⟨rfl, rfl⟩ ⟨Nat.le_of_ble_eq_true rfl, Nat.le_of_ble_eq_true rfl⟩ ⟨Nat.zero_le _, Nat.zero_le _⟩ rfl rfl (Nat.le_of_ble_eq_true rfl) dX8_at_110 ?_
      refine x_aload_n C dX8_at_113 rfl 0 rfl ?_
      refine x_iload_n C dX8_at_114 rfl 1 rfl ?_
      obtain ⟨q17, eq17, h⟩ := gb_some h
      refine x_vi (st := [.int q16.1]) C kY_X8_leastOfAll 8 8 rfl rfl rfl (m_X8_leastOfAll l D cI cZ ad C.2.2.2.2.2.2.1 p0 q16.2 q17 eq17) kl_X8_98 ⟨rfl, rfl⟩ ⟨Nat.le_of_ble_eq_true rfl, Nat.le_of_ble_eq_true rfl⟩ ⟨Nat.zero_le _, Nat.zero_le _⟩ rfl rfl (Nat.le_of_ble_eq_true rfl) dX8_at_115 ?_
      refine x_isub C dX8_at_118 ?_
      exact x_iret C hr dX8_at_119 (Option.some.inj h)
    have h := (if_neg c15).symm.trans h
    by_cases c18 : p1 = 7
    · have h := (if_pos c18).symm.trans h
      refine x_tableIn (off := 108) C 120 dX8_at_12 (by rw [c18]; decide) (by rw [c18]; decide) (by rw [c18]; rfl) (by decide) ?_
      refine x_aload_n C dX8_at_120 rfl 0 rfl ?_
      refine x_iload_n C dX8_at_121 rfl 1 rfl ?_
      obtain ⟨q19, eq19, h⟩ := gb_some h
      refine x_vi (st := []) C kY_X8_followers 8 8 rfl rfl rfl (m_X8_followers l D cI cZ ad C.2.2.2.2.2.2.1 p0 q1.2 q19 eq19) kl_X8_115 ⟨rfl, rfl⟩ ⟨Nat.le_of_ble_eq_true rfl, Nat.le_of_ble_eq_true rfl⟩ ⟨Nat.zero_le _, Nat.zero_le _⟩ rfl rfl (Nat.le_of_ble_eq_true rfl) dX8_at_122 ?_
      exact x_iret C hr dX8_at_125 (Option.some.inj h)
    have h := (if_neg c18).symm.trans h
    have hn20 : (p1).toInt < 0 ∨ 7 < (p1).toInt := by
      have := lv_neT (a := 0) c3 (by decide)
      have := lv_neT (a := 1) c5 (by decide)
      have := lv_neT (a := 2) c7 (by decide)
      have := lv_neT (a := 3) c9 (by decide)
      have := lv_neT (a := 4) c11 (by decide)
      have := lv_neT (a := 5) c13 (by decide)
      have := lv_neT (a := 6) c15 (by decide)
      have := lv_neT (a := 7) c18 (by decide)
      omega
    refine x_tableOut C 126 dX8_at_12 hn20 (by decide) ?_
    refine x_ldc C kc_X8_91 dX8_at_126 ?_
    exact x_iret C hr dX8_at_128 (Option.some.inj h)
  · have h := (if_pos c2).symm.trans h
    refine x_ldc C kc_X8_111 dX8_at_8 ?_
    exact x_iret C hr dX8_at_10 (Option.some.inj h)
theorem m_X8_at (l : Launch) (D : va_G) (cI cZ : ClassId) (ad : Nat → Nat) (hJ : pv_J ad) (p0 : Int32) (p1 : Int32) (σ : pv_S) (R0 : (Int32 × pv_S)) (h : f_X8_at p0 p1 σ = some R0) : Met l yX8_at (Cond.code yX8_at cX8_at 3 (some .int) :: lwG) r_X8_at (va_Pc [.ref (ad 8), .int p0, .int p1] (pv_P D cI cZ ad σ)) (pv_QI D cI cZ ad R0) 0 0 (pv_A ad) := x_met (by decide) rfl hJ (Nat.le_of_ble_eq_true rfl) (fun p e s m args below meth c C hr => w_X8_at_0 C hr R0 p0 p1 σ h)
abbrev r_X8_cost : Room := { frames := 2, cells := 0, slots := 0, locals := 47 }
set_option maxRecDepth 100000 in
set_option maxHeartbeats 4000000 in
theorem w_X8_cost_0 {p : Program} {l : Launch} {e : Env} {s : State} {m : MethodId} {args : Array Value} {below : List Frame} {meth : Method} {c : Code} {D : va_G} {cI cZ : ClassId} {ad : Nat → Nat} (C : pv_C p s m args meth c cX8_cost 3 RX8 D cI cZ ad (pv_A ad)) (hr : meth.sig.returnType = some .int) (R0 : (Int32 × pv_S)) (p0 : Int32) (p1 : Int32) (σ : pv_S) (h : f_X8_cost p0 p1 σ = some R0) : Wx p l e r_X8_cost s m args below meth c 0 0 (MQ below (pv_QI D cI cZ ad R0) args s 0 0 (pv_A ad)) 3 D cI cZ ad (pv_A ad) 0 [(0, .ref (ad 8)), (1, .int p0), (2, .int p1)] [] σ := by
  unfold f_X8_cost at h
  refine x_aload_n C dX8_cost_0 rfl 0 rfl ?_
  refine x_iload_n C dX8_cost_1 rfl 1 rfl ?_
  obtain ⟨q1, eq1, h⟩ := gb_some h
  refine x_vi (st := []) C kY_X8_isNote 8 8 rfl rfl rfl (m_X8_isNote l D cI cZ ad C.2.2.2.2.2.2.1 p0 σ q1 eq1) kl_X8_107 ⟨rfl, rfl⟩ ⟨Nat.le_of_ble_eq_true rfl, Nat.le_of_ble_eq_true rfl⟩ ⟨Nat.zero_le _, Nat.zero_le _⟩ rfl rfl (Nat.le_of_ble_eq_true rfl) dX8_cost_2 ?_
  refine x_if_eq C 16 dX8_cost_5 (by decide) (fun c2 => ?_) (fun c2 => ?_)
  · have h := (if_pos c2).symm.trans h
    refine x_ldc C kc_X8_111 dX8_cost_16 ?_
    exact x_iret C hr dX8_cost_18 (Option.some.inj h)
  · have h := (if_neg c2).symm.trans h
    refine x_aload_n C dX8_cost_8 rfl 0 rfl ?_
    refine x_iload_n C dX8_cost_9 rfl 2 rfl ?_
    obtain ⟨q3, eq3, h⟩ := gb_some h
    refine x_vi (st := []) C kY_X8_isNote 8 8 rfl rfl rfl (m_X8_isNote l D cI cZ ad C.2.2.2.2.2.2.1 p1 q1.2 q3 eq3) kl_X8_107 ⟨rfl, rfl⟩ ⟨Nat.le_of_ble_eq_true rfl, Nat.le_of_ble_eq_true rfl⟩ ⟨Nat.zero_le _, Nat.zero_le _⟩ rfl rfl (Nat.le_of_ble_eq_true rfl) dX8_cost_10 ?_
    refine x_if_ne C 19 dX8_cost_13 (by decide) (fun c4 => ?_) (fun c4 => ?_)
    · have h := (if_neg c4).symm.trans h
      refine x_aload_n C dX8_cost_19 rfl 0 rfl ?_
      refine x_iload_n C dX8_cost_20 rfl 1 rfl ?_
      refine x_iload_n C dX8_cost_21 rfl 2 rfl ?_
      obtain ⟨q5, eq5, h⟩ := gb_some h
      refine x_vi (st := []) C kY_X8_may 8 8 rfl rfl rfl (m_X8_may l D cI cZ ad C.2.2.2.2.2.2.1 p0 p1 q3.2 q5 eq5) kl_X8_48 ⟨rfl, rfl⟩ ⟨Nat.le_of_ble_eq_true rfl, Nat.le_of_ble_eq_true rfl⟩ ⟨Nat.zero_le _, Nat.zero_le _⟩ rfl rfl (Nat.le_of_ble_eq_true rfl) dX8_cost_22 ?_
      refine x_if_eq C 37 dX8_cost_25 (by decide) (fun c6 => ?_) (fun c6 => ?_)
      · have h := (if_pos c6).symm.trans h
        refine x_iconst (v := (-1)) C dX8_cost_37 (by decide) ?_
        exact x_iret C hr dX8_cost_38 (Option.some.inj h)
      · have h := (if_neg c6).symm.trans h
        refine x_aload_n C dX8_cost_28 rfl 0 rfl ?_
        refine x_iload_n C dX8_cost_29 rfl 1 rfl ?_
        refine x_iload_n C dX8_cost_30 rfl 2 rfl ?_
        obtain ⟨q7, eq7, h⟩ := gb_some h
        refine x_vi (st := []) C kY_X8_costOf 8 8 rfl rfl rfl (m_X8_costOf l D cI cZ ad C.2.2.2.2.2.2.1 p0 p1 q5.2 q7 eq7) kl_X8_52 ⟨rfl, rfl⟩ ⟨Nat.le_of_ble_eq_true rfl, Nat.le_of_ble_eq_true rfl⟩ ⟨Nat.zero_le _, Nat.zero_le _⟩ rfl rfl (Nat.le_of_ble_eq_true rfl) dX8_cost_31 ?_
        refine x_goto C 38 dX8_cost_34 (by decide) ?_
        exact x_iret C hr dX8_cost_38 (Option.some.inj h)
    · have h := (if_pos c4).symm.trans h
      refine x_ldc C kc_X8_111 dX8_cost_16 ?_
      exact x_iret C hr dX8_cost_18 (Option.some.inj h)
theorem m_X8_cost (l : Launch) (D : va_G) (cI cZ : ClassId) (ad : Nat → Nat) (hJ : pv_J ad) (p0 : Int32) (p1 : Int32) (σ : pv_S) (R0 : (Int32 × pv_S)) (h : f_X8_cost p0 p1 σ = some R0) : Met l yX8_cost (Cond.code yX8_cost cX8_cost 3 (some .int) :: lwG) r_X8_cost (va_Pc [.ref (ad 8), .int p0, .int p1] (pv_P D cI cZ ad σ)) (pv_QI D cI cZ ad R0) 0 0 (pv_A ad) := x_met (by decide) rfl hJ (Nat.le_of_ble_eq_true rfl) (fun p e s m args below meth c C hr => w_X8_cost_0 C hr R0 p0 p1 σ h)
abbrev r_X8_least : Room := { frames := 5, cells := 0, slots := 0, locals := 122 }
set_option maxRecDepth 100000 in
set_option maxHeartbeats 4000000 in
theorem w_X8_least_0 {p : Program} {l : Launch} {e : Env} {s : State} {m : MethodId} {args : Array Value} {below : List Frame} {meth : Method} {c : Code} {D : va_G} {cI cZ : ClassId} {ad : Nat → Nat} (C : pv_C p s m args meth c cX8_least 2 RX8 D cI cZ ad (pv_A ad)) (hr : meth.sig.returnType = some .int) (R0 : (Int32 × pv_S)) (p0 : Int32) (σ : pv_S) (h : f_X8_least p0 σ = some R0) : Wx p l e r_X8_least s m args below meth c 0 0 (MQ below (pv_QI D cI cZ ad R0) args s 0 0 (pv_A ad)) 2 D cI cZ ad (pv_A ad) 0 [(0, .ref (ad 8)), (1, .int p0)] [] σ := by
  unfold f_X8_least at h
  refine x_iload_n C dX8_least_0 rfl 1 rfl ?_
  refine x_i2l C dX8_least_1 ?_
  refine x_lconst (v := 0) C dX8_least_2 (by decide) ?_
  refine x_ldc2 C kc_X8_118 dX8_least_3 ?_
  obtain ⟨q1, eq1, h⟩ := gb_some h
  refine x_si (st := []) C kY_X8_in (m_X8_in l D cI cZ ad C.2.2.2.2.2.2.1 p0.toInt64 0 10 σ q1 eq1) kl_X8_40 ⟨rfl, rfl⟩ ⟨Nat.le_of_ble_eq_true rfl, Nat.le_of_ble_eq_true rfl⟩ ⟨Nat.zero_le _, Nat.zero_le _⟩ rfl rfl (Nat.le_of_ble_eq_true rfl) dX8_least_6 ?_
  refine x_if_eq C 21 dX8_least_9 (by decide) (fun c2 => ?_) (fun c2 => ?_)
  · have h := (if_pos c2).symm.trans h
    refine x_ldc C kc_X8_91 dX8_least_21 ?_
    exact x_iret C hr dX8_least_23 (Option.some.inj h)
  · have h := (if_neg c2).symm.trans h
    refine x_aload_n C dX8_least_12 rfl 0 rfl ?_
    refine x_iload_n C dX8_least_13 rfl 1 rfl ?_
    refine x_iconst (v := (-1)) C dX8_least_14 (by decide) ?_
    obtain ⟨q3, eq3, h⟩ := gb_some h
    refine x_vi (st := []) C kY_X8_leastOf 8 8 rfl rfl rfl (m_X8_leastOf l D cI cZ ad C.2.2.2.2.2.2.1 p0 (-1) q1.2 q3 eq3) kl_X8_66 ⟨rfl, rfl⟩ ⟨Nat.le_of_ble_eq_true rfl, Nat.le_of_ble_eq_true rfl⟩ ⟨Nat.zero_le _, Nat.zero_le _⟩ rfl rfl (Nat.le_of_ble_eq_true rfl) dX8_least_15 ?_
    refine x_goto C 23 dX8_least_18 (by decide) ?_
    exact x_iret C hr dX8_least_23 (Option.some.inj h)
theorem m_X8_least (l : Launch) (D : va_G) (cI cZ : ClassId) (ad : Nat → Nat) (hJ : pv_J ad) (p0 : Int32) (σ : pv_S) (R0 : (Int32 × pv_S)) (h : f_X8_least p0 σ = some R0) : Met l yX8_least (Cond.code yX8_least cX8_least 2 (some .int) :: lwG) r_X8_least (va_Pc [.ref (ad 8), .int p0] (pv_P D cI cZ ad σ)) (pv_QI D cI cZ ad R0) 0 0 (pv_A ad) := x_met (by decide) rfl hJ (Nat.le_of_ble_eq_true rfl) (fun p e s m args below meth c C hr => w_X8_least_0 C hr R0 p0 σ h)
abbrev r_X8_layFirst : Room := { frames := 5, cells := 0, slots := 0, locals := 122 }
set_option maxRecDepth 100000 in
set_option maxHeartbeats 4000000 in
theorem w_X8_layFirst_28 {p : Program} {l : Launch} {e : Env} {s : State} {m : MethodId} {args : Array Value} {below : List Frame} {meth : Method} {c : Code} {D : va_G} {cI cZ : ClassId} {ad : Nat → Nat} (C : pv_C p s m args meth c cX8_layFirst 5 RX8 D cI cZ ad (pv_A ad)) (hr : meth.sig.returnType = some .boolean) (R0 : (Int32 × pv_S)) (K15 : Int32 → Int32 → pv_S → Option (Int32 × pv_S)) (hK15 : ∀ (v2 : Int32) (v3 : Int32) (σ : pv_S), K15 v2 v3 σ = some R0 → Wx p l e r_X8_layFirst s m args below meth c 0 0 (MQ below (pv_QI D cI cZ ad R0) args s 0 0 (pv_A ad)) 5 D cI cZ ad (pv_A ad) 15 [(0, .ref (ad 8)), (2, .int v2), (3, .int v3)] [] σ) : ∀ (n : Nat) (v2 : Int32) (v3 : Int32) (v4 : Int32) (σ : pv_S), f_X8_layFirst_28 K15 n v2 v3 v4 σ = some R0 → Wx p l e r_X8_layFirst s m args below meth c 0 0 (MQ below (pv_QI D cI cZ ad R0) args s 0 0 (pv_A ad)) 5 D cI cZ ad (pv_A ad) 28 [(0, .ref (ad 8)), (2, .int v2), (3, .int v3), (4, .int v4)] [] σ := by
  intro n
  induction n with
  | zero =>
    intro v2 v3 v4 σ h
    have h2 : (none : Option (Int32 × pv_S)) = some R0 := h
    cases h2
  | succ n ih =>
    intro v2 v3 v4 σ h
    unfold f_X8_layFirst_28 at h
    refine x_aload_n C dX8_layFirst_28 rfl 0 rfl ?_
    refine x_iload_n C dX8_layFirst_29 rfl 2 rfl ?_
    refine x_iload_n C dX8_layFirst_30 rfl 1 rfl ?_
    refine x_iload C dX8_layFirst_31 3 rfl ?_
    obtain ⟨q1, eq1, h⟩ := gb_some h
    refine x_vi (st := []) C kY_X8_through 8 8 rfl rfl rfl (m_X8_through l D cI cZ ad C.2.2.2.2.2.2.1 v3 v2 v4 σ q1 eq1) kl_X8_59 ⟨rfl, rfl⟩ ⟨Nat.le_of_ble_eq_true rfl, Nat.le_of_ble_eq_true rfl⟩ ⟨Nat.zero_le _, Nat.zero_le _⟩ rfl rfl (Nat.le_of_ble_eq_true rfl) dX8_layFirst_33 ?_
    refine x_aload_n C dX8_layFirst_36 rfl 0 rfl ?_
    refine x_iload_n C dX8_layFirst_37 rfl 2 rfl ?_
    refine x_iload_n C dX8_layFirst_38 rfl 1 rfl ?_
    obtain ⟨q2, eq2, h⟩ := gb_some h
    refine x_vi (st := [.int q1.1]) C kY_X8_bestAt 8 8 rfl rfl rfl (m_X8_bestAt l D cI cZ ad C.2.2.2.2.2.2.1 v3 v2 q1.2 q2 eq2) kl_X8_44 ⟨rfl, rfl⟩ ⟨Nat.le_of_ble_eq_true rfl, Nat.le_of_ble_eq_true rfl⟩ ⟨Nat.zero_le _, Nat.zero_le _⟩ rfl rfl (Nat.le_of_ble_eq_true rfl) dX8_layFirst_39 ?_
    refine x_icmp_eq C 51 dX8_layFirst_42 (by decide) (fun c3 => ?_) (fun c3 => ?_)
    · have h := (if_pos c3).symm.trans h
      refine x_aload_n C dX8_layFirst_51 rfl 0 rfl ?_
      refine xg_X8_25 C dX8_layFirst_52 ?_
      refine x_iload_n C dX8_layFirst_55 rfl 2 rfl ?_
      refine x_iload C dX8_layFirst_56 3 rfl ?_
      obtain ⟨g4, h⟩ := gd_some h
      refine xs_18 C g4 dX8_layFirst_58 ?_
      refine x_iload_n C dX8_layFirst_59 rfl 1 rfl ?_
      refine x_iload C dX8_layFirst_60 3 rfl ?_
      refine x_if_ge C 69 dX8_layFirst_62 (by decide) (fun c5 => ?_) (fun c5 => ?_)
      · have h := (if_pos c5).symm.trans h
        refine x_iconst (v := 1) C dX8_layFirst_69 (by decide) ?_
        refine x_iload C dX8_layFirst_70 3 rfl ?_
        refine x_ishl C dX8_layFirst_72 ?_
        refine x_ior C dX8_layFirst_73 ?_
        refine x_istore_n (lv' := [(2, .int (v2 ||| (1 <<< (v4 &&& 31)))), (0, .ref (ad 8)), (3, .int v3), (4, .int v4)]) C dX8_layFirst_74 rfl (by decide) rfl ?_
        refine x_iinc (v := (v3 + 1)) (lv' := [(3, .int (v3 + 1)), (2, .int (v2 ||| (1 <<< (v4 &&& 31)))), (0, .ref (ad 8)), (4, .int v4)]) C 2 dX8_layFirst_75 rfl rfl (by decide) rfl ?_
        refine x_goto C 15 dX8_layFirst_78 (by decide) ?_
        refine x_sub [2, 1, 0] rfl ?_
        exact hK15 (v2 ||| (1 <<< (v4 &&& 31))) (v3 + 1) (pv_sa q2.2 18 v3 v4) h
      · have h := (if_neg c5).symm.trans h
        refine x_iconst (v := 0) C dX8_layFirst_65 (by decide) ?_
        refine x_goto C 73 dX8_layFirst_66 (by decide) ?_
        refine x_ior C dX8_layFirst_73 ?_
        refine x_istore_n (lv' := [(2, .int (v2 ||| 0)), (0, .ref (ad 8)), (3, .int v3), (4, .int v4)]) C dX8_layFirst_74 rfl (by decide) rfl ?_
        refine x_iinc (v := (v3 + 1)) (lv' := [(3, .int (v3 + 1)), (2, .int (v2 ||| 0)), (0, .ref (ad 8)), (4, .int v4)]) C 2 dX8_layFirst_75 rfl rfl (by decide) rfl ?_
        refine x_goto C 15 dX8_layFirst_78 (by decide) ?_
        refine x_sub [2, 1, 0] rfl ?_
        exact hK15 (v2 ||| 0) (v3 + 1) (pv_sa q2.2 18 v3 v4) h
    · have h := (if_neg c3).symm.trans h
      refine x_iinc (v := (v4 + 1)) (lv' := [(4, .int (v4 + 1)), (0, .ref (ad 8)), (2, .int v2), (3, .int v3)]) C 3 dX8_layFirst_45 rfl rfl (by decide) rfl ?_
      refine x_goto C 28 dX8_layFirst_48 (by decide) ?_
      refine x_sub [1, 2, 3, 0] rfl ?_
      exact ih v2 v3 (v4 + 1) q2.2 h
set_option maxRecDepth 100000 in
set_option maxHeartbeats 4000000 in
theorem w_X8_layFirst_15 {p : Program} {l : Launch} {e : Env} {s : State} {m : MethodId} {args : Array Value} {below : List Frame} {meth : Method} {c : Code} {D : va_G} {cI cZ : ClassId} {ad : Nat → Nat} (C : pv_C p s m args meth c cX8_layFirst 5 RX8 D cI cZ ad (pv_A ad)) (hr : meth.sig.returnType = some .boolean) (R0 : (Int32 × pv_S)) : ∀ (n : Nat) (v2 : Int32) (v3 : Int32) (σ : pv_S), f_X8_layFirst_15 n v2 v3 σ = some R0 → Wx p l e r_X8_layFirst s m args below meth c 0 0 (MQ below (pv_QI D cI cZ ad R0) args s 0 0 (pv_A ad)) 5 D cI cZ ad (pv_A ad) 15 [(0, .ref (ad 8)), (2, .int v2), (3, .int v3)] [] σ := by
  intro n
  induction n with
  | zero =>
    intro v2 v3 σ h
    have h2 : (none : Option (Int32 × pv_S)) = some R0 := h
    cases h2
  | succ n ih =>
    intro v2 v3 σ h
    unfold f_X8_layFirst_15 at h
    refine x_iload_n C dX8_layFirst_15 rfl 2 rfl ?_
    refine x_aload_n C dX8_layFirst_16 rfl 0 rfl ?_
    refine xg_X8_7 C dX8_layFirst_17 ?_
    refine x_iconst (v := 0) C dX8_layFirst_20 (by decide) ?_
    obtain ⟨g1, h⟩ := gd_some h
    refine xl_13 C g1 dX8_layFirst_21 ?_
    refine x_icmp_ge C 81 dX8_layFirst_22 (by decide) (fun c2 => ?_) (fun c2 => ?_)
    · have h := (if_pos c2).symm.trans h
      refine x_iconst (v := 1) C dX8_layFirst_81 (by decide) ?_
      exact x_zret C hr rfl dX8_layFirst_82 (Option.some.inj h)
    · have h := (if_neg c2).symm.trans h
      refine x_iconst (v := (-1)) C dX8_layFirst_25 (by decide) ?_
      refine x_istore (lv' := [(4, .int (-1)), (0, .ref (ad 8)), (2, .int v2), (3, .int v3)]) C dX8_layFirst_26 (by decide) rfl ?_
      refine x_sub [1, 2, 3, 0] rfl ?_
      exact w_X8_layFirst_28 C hr R0 (f_X8_layFirst_15 n) ih pv_FU v2 v3 (-1) σ h
set_option maxRecDepth 100000 in
set_option maxHeartbeats 4000000 in
theorem w_X8_layFirst_0 {p : Program} {l : Launch} {e : Env} {s : State} {m : MethodId} {args : Array Value} {below : List Frame} {meth : Method} {c : Code} {D : va_G} {cI cZ : ClassId} {ad : Nat → Nat} (C : pv_C p s m args meth c cX8_layFirst 5 RX8 D cI cZ ad (pv_A ad)) (hr : meth.sig.returnType = some .boolean) (R0 : (Int32 × pv_S)) (p0 : Int32) (σ : pv_S) (h : f_X8_layFirst p0 σ = some R0) : Wx p l e r_X8_layFirst s m args below meth c 0 0 (MQ below (pv_QI D cI cZ ad R0) args s 0 0 (pv_A ad)) 5 D cI cZ ad (pv_A ad) 0 [(0, .ref (ad 8)), (1, .int p0)] [] σ := by
  unfold f_X8_layFirst at h
  refine x_aload_n C dX8_layFirst_0 rfl 0 rfl ?_
  refine x_iload_n C dX8_layFirst_1 rfl 1 rfl ?_
  refine x_iconst (v := (-1)) C dX8_layFirst_2 (by decide) ?_
  obtain ⟨q1, eq1, h⟩ := gb_some h
  refine x_vi (st := []) C kY_X8_leastOf 8 8 rfl rfl rfl (m_X8_leastOf l D cI cZ ad C.2.2.2.2.2.2.1 p0 (-1) σ q1 eq1) kl_X8_66 ⟨rfl, rfl⟩ ⟨Nat.le_of_ble_eq_true rfl, Nat.le_of_ble_eq_true rfl⟩ ⟨Nat.zero_le _, Nat.zero_le _⟩ rfl rfl (Nat.le_of_ble_eq_true rfl) dX8_layFirst_3 ?_
  refine x_if_ge C 11 dX8_layFirst_6 (by decide) (fun c2 => ?_) (fun c2 => ?_)
  · have h := (if_pos c2).symm.trans h
    refine x_iconst (v := 0) C dX8_layFirst_11 (by decide) ?_
    refine x_istore_n (lv' := [(2, .int 0), (0, .ref (ad 8)), (1, .int p0)]) C dX8_layFirst_12 rfl (by decide) rfl ?_
    refine x_iconst (v := 0) C dX8_layFirst_13 (by decide) ?_
    refine x_istore_n (lv' := [(3, .int 0), (2, .int 0), (0, .ref (ad 8)), (1, .int p0)]) C dX8_layFirst_14 rfl (by decide) rfl ?_
    refine x_sub [2, 1, 0] rfl ?_
    exact w_X8_layFirst_15 C hr R0 pv_FU 0 0 q1.2 h
  · have h := (if_neg c2).symm.trans h
    refine x_iconst (v := 0) C dX8_layFirst_9 (by decide) ?_
    exact x_zret C hr rfl dX8_layFirst_10 (Option.some.inj h)
theorem m_X8_layFirst (l : Launch) (D : va_G) (cI cZ : ClassId) (ad : Nat → Nat) (hJ : pv_J ad) (p0 : Int32) (σ : pv_S) (R0 : (Int32 × pv_S)) (h : f_X8_layFirst p0 σ = some R0) : Met l yX8_layFirst (Cond.code yX8_layFirst cX8_layFirst 5 (some .boolean) :: lwG) r_X8_layFirst (va_Pc [.ref (ad 8), .int p0] (pv_P D cI cZ ad σ)) (pv_QI D cI cZ ad R0) 0 0 (pv_A ad) := x_met (by decide) rfl hJ (Nat.le_of_ble_eq_true rfl) (fun p e s m args below meth c C hr => w_X8_layFirst_0 C hr R0 p0 σ h)
abbrev r_X8_first : Room := { frames := 6, cells := 0, slots := 0, locals := 146 }
set_option maxRecDepth 100000 in
set_option maxHeartbeats 4000000 in
theorem w_X8_first_0 {p : Program} {l : Launch} {e : Env} {s : State} {m : MethodId} {args : Array Value} {below : List Frame} {meth : Method} {c : Code} {D : va_G} {cI cZ : ClassId} {ad : Nat → Nat} (C : pv_C p s m args meth c cX8_first 3 RX8 D cI cZ ad (pv_A ad)) (hr : meth.sig.returnType = some .int) (R0 : (Int32 × pv_S)) (p0 : Int32) (p1 : Int32) (σ : pv_S) (h : f_X8_first p0 p1 σ = some R0) : Wx p l e r_X8_first s m args below meth c 0 0 (MQ below (pv_QI D cI cZ ad R0) args s 0 0 (pv_A ad)) 3 D cI cZ ad (pv_A ad) 0 [(0, .ref (ad 8)), (1, .int p0), (2, .int p1)] [] σ := by
  unfold f_X8_first at h
  refine x_aload_n C dX8_first_0 rfl 0 rfl ?_
  refine x_iload_n C dX8_first_1 rfl 2 rfl ?_
  obtain ⟨q1, eq1, h⟩ := gb_some h
  refine x_vi (st := []) C kY_X8_isNote 8 8 rfl rfl rfl (m_X8_isNote l D cI cZ ad C.2.2.2.2.2.2.1 p1 σ q1 eq1) kl_X8_107 ⟨rfl, rfl⟩ ⟨Nat.le_of_ble_eq_true rfl, Nat.le_of_ble_eq_true rfl⟩ ⟨Nat.zero_le _, Nat.zero_le _⟩ rfl rfl (Nat.le_of_ble_eq_true rfl) dX8_first_2 ?_
  refine x_if_ne C 11 dX8_first_5 (by decide) (fun c2 => ?_) (fun c2 => ?_)
  · have h := (if_neg c2).symm.trans h
    refine x_iload_n C dX8_first_11 rfl 1 rfl ?_
    refine x_i2l C dX8_first_12 ?_
    refine x_lconst (v := 0) C dX8_first_13 (by decide) ?_
    refine x_ldc2 C kc_X8_118 dX8_first_14 ?_
    obtain ⟨q3, eq3, h⟩ := gb_some h
    refine x_si (st := []) C kY_X8_in (m_X8_in l D cI cZ ad C.2.2.2.2.2.2.1 p0.toInt64 0 10 q1.2 q3 eq3) kl_X8_40 ⟨rfl, rfl⟩ ⟨Nat.le_of_ble_eq_true rfl, Nat.le_of_ble_eq_true rfl⟩ ⟨Nat.zero_le _, Nat.zero_le _⟩ rfl rfl (Nat.le_of_ble_eq_true rfl) dX8_first_17 ?_
    refine x_if_ne C 26 dX8_first_20 (by decide) (fun c4 => ?_) (fun c4 => ?_)
    · have h := (if_neg c4).symm.trans h
      refine x_aload_n C dX8_first_26 rfl 0 rfl ?_
      refine x_iload_n C dX8_first_27 rfl 1 rfl ?_
      obtain ⟨q5, eq5, h⟩ := gb_some h
      refine x_vi (st := []) C kY_X8_layFirst 8 8 rfl rfl rfl (m_X8_layFirst l D cI cZ ad C.2.2.2.2.2.2.1 p0 q3.2 q5 eq5) kl_X8_120 ⟨rfl, rfl⟩ ⟨Nat.le_of_ble_eq_true rfl, Nat.le_of_ble_eq_true rfl⟩ ⟨Nat.zero_le _, Nat.zero_le _⟩ rfl rfl (Nat.le_of_ble_eq_true rfl) dX8_first_28 ?_
      refine x_if_eq C 43 dX8_first_31 (by decide) (fun c6 => ?_) (fun c6 => ?_)
      · have h := (if_pos c6).symm.trans h
        refine x_ldc C kc_X8_123 dX8_first_43 ?_
        exact x_iret C hr dX8_first_45 (Option.some.inj h)
      · have h := (if_neg c6).symm.trans h
        refine x_aload_n C dX8_first_34 rfl 0 rfl ?_
        refine xg_X8_25 C dX8_first_35 ?_
        refine x_iload_n C dX8_first_38 rfl 2 rfl ?_
        obtain ⟨g7, h⟩ := gd_some h
        refine xl_18 C g7 dX8_first_39 ?_
        refine x_goto C 45 dX8_first_40 (by decide) ?_
        exact x_iret C hr dX8_first_45 (Option.some.inj h)
    · have h := (if_pos c4).symm.trans h
      refine x_ldc C kc_X8_91 dX8_first_23 ?_
      exact x_iret C hr dX8_first_25 (Option.some.inj h)
  · have h := (if_pos c2).symm.trans h
    refine x_ldc C kc_X8_111 dX8_first_8 ?_
    exact x_iret C hr dX8_first_10 (Option.some.inj h)
theorem m_X8_first (l : Launch) (D : va_G) (cI cZ : ClassId) (ad : Nat → Nat) (hJ : pv_J ad) (p0 : Int32) (p1 : Int32) (σ : pv_S) (R0 : (Int32 × pv_S)) (h : f_X8_first p0 p1 σ = some R0) : Met l yX8_first (Cond.code yX8_first cX8_first 3 (some .int) :: lwG) r_X8_first (va_Pc [.ref (ad 8), .int p0, .int p1] (pv_P D cI cZ ad σ)) (pv_QI D cI cZ ad R0) 0 0 (pv_A ad) := x_met (by decide) rfl hJ (Nat.le_of_ble_eq_true rfl) (fun p e s m args below meth c C hr => w_X8_first_0 C hr R0 p0 p1 σ h)
abbrev r_X8_firstOf : Room := { frames := 1, cells := 0, slots := 0, locals := 23 }
set_option maxRecDepth 100000 in
set_option maxHeartbeats 4000000 in
theorem w_X8_firstOf_4 {p : Program} {l : Launch} {e : Env} {s : State} {m : MethodId} {args : Array Value} {below : List Frame} {meth : Method} {c : Code} {D : va_G} {cI cZ : ClassId} {ad : Nat → Nat} (C : pv_C p s m args meth c cX8_firstOf 4 RX8 D cI cZ ad (pv_A ad)) (hr : meth.sig.returnType = some .int) (R0 : (Int32 × pv_S)) : ∀ (n : Nat) (v1 : Int32) (v2 : Int32) (v3 : Int32) (σ : pv_S), f_X8_firstOf_4 n v1 v2 v3 σ = some R0 → Wx p l e r_X8_firstOf s m args below meth c 0 0 (MQ below (pv_QI D cI cZ ad R0) args s 0 0 (pv_A ad)) 4 D cI cZ ad (pv_A ad) 4 [(0, .ref (ad 8)), (1, .int v1), (2, .int v2), (3, .int v3)] [] σ := by
  intro n
  induction n with
  | zero =>
    intro v1 v2 v3 σ h
    have h2 : (none : Option (Int32 × pv_S)) = some R0 := h
    cases h2
  | succ n ih =>
    intro v1 v2 v3 σ h
    unfold f_X8_firstOf_4 at h
    refine x_iload_n C dX8_firstOf_4 rfl 3 rfl ?_
    refine x_aload_n C dX8_firstOf_5 rfl 0 rfl ?_
    refine xg_X8_7 C dX8_firstOf_6 ?_
    refine x_iconst (v := 0) C dX8_firstOf_9 (by decide) ?_
    obtain ⟨g1, h⟩ := gd_some h
    refine xl_13 C g1 dX8_firstOf_10 ?_
    refine x_icmp_ge C 39 dX8_firstOf_11 (by decide) (fun c2 => ?_) (fun c2 => ?_)
    · have h := (if_pos c2).symm.trans h
      refine x_iconst (v := (-1)) C dX8_firstOf_39 (by decide) ?_
      exact x_iret C hr dX8_firstOf_40 (Option.some.inj h)
    · have h := (if_neg c2).symm.trans h
      refine x_aload_n C dX8_firstOf_14 rfl 0 rfl ?_
      refine x_iload_n C dX8_firstOf_15 rfl 3 rfl ?_
      obtain ⟨q3, eq3, h⟩ := gb_some h
      refine x_vi (st := []) C kY_X8_prior 8 8 rfl rfl rfl (m_X8_prior l D cI cZ ad C.2.2.2.2.2.2.1 v3 σ q3 eq3) kl_X8_72 ⟨rfl, rfl⟩ ⟨Nat.le_of_ble_eq_true rfl, Nat.le_of_ble_eq_true rfl⟩ ⟨Nat.zero_le _, Nat.zero_le _⟩ rfl rfl (Nat.le_of_ble_eq_true rfl) dX8_firstOf_16 ?_
      refine x_iconst (v := (-1)) C dX8_firstOf_19 (by decide) ?_
      refine x_icmp_ne C 33 dX8_firstOf_20 (by decide) (fun c4 => ?_) (fun c4 => ?_)
      · have h := (if_neg c4).symm.trans h
        refine x_iinc (v := (v3 + 1)) (lv' := [(3, .int (v3 + 1)), (0, .ref (ad 8)), (1, .int v1), (2, .int v2)]) C 3 dX8_firstOf_33 rfl rfl (by decide) rfl ?_
        refine x_goto C 4 dX8_firstOf_36 (by decide) ?_
        refine x_sub [1, 2, 3, 0] rfl ?_
        exact ih v1 v2 (v3 + 1) q3.2 h
      · have h := (if_pos c4).symm.trans h
        refine x_iload_n C dX8_firstOf_23 rfl 2 rfl ?_
        refine x_iload_n C dX8_firstOf_24 rfl 1 rfl ?_
        refine x_icmp_ne C 30 dX8_firstOf_25 (by decide) (fun c5 => ?_) (fun c5 => ?_)
        · have h := (if_neg c5).symm.trans h
          refine x_iinc (v := (v2 + 1)) (lv' := [(2, .int (v2 + 1)), (0, .ref (ad 8)), (1, .int v1), (3, .int v3)]) C 2 dX8_firstOf_30 rfl rfl (by decide) rfl ?_
          refine x_iinc (v := (v3 + 1)) (lv' := [(3, .int (v3 + 1)), (2, .int (v2 + 1)), (0, .ref (ad 8)), (1, .int v1)]) C 3 dX8_firstOf_33 rfl rfl (by decide) rfl ?_
          refine x_goto C 4 dX8_firstOf_36 (by decide) ?_
          refine x_sub [2, 3, 1, 0] rfl ?_
          exact ih v1 (v2 + 1) (v3 + 1) q3.2 h
        · have h := (if_pos c5).symm.trans h
          refine x_iload_n C dX8_firstOf_28 rfl 3 rfl ?_
          exact x_iret C hr dX8_firstOf_29 (Option.some.inj h)
set_option maxRecDepth 100000 in
set_option maxHeartbeats 4000000 in
theorem w_X8_firstOf_0 {p : Program} {l : Launch} {e : Env} {s : State} {m : MethodId} {args : Array Value} {below : List Frame} {meth : Method} {c : Code} {D : va_G} {cI cZ : ClassId} {ad : Nat → Nat} (C : pv_C p s m args meth c cX8_firstOf 4 RX8 D cI cZ ad (pv_A ad)) (hr : meth.sig.returnType = some .int) (R0 : (Int32 × pv_S)) (p0 : Int32) (σ : pv_S) (h : f_X8_firstOf p0 σ = some R0) : Wx p l e r_X8_firstOf s m args below meth c 0 0 (MQ below (pv_QI D cI cZ ad R0) args s 0 0 (pv_A ad)) 4 D cI cZ ad (pv_A ad) 0 [(0, .ref (ad 8)), (1, .int p0)] [] σ := by
  unfold f_X8_firstOf at h
  refine x_iconst (v := 0) C dX8_firstOf_0 (by decide) ?_
  refine x_istore_n (lv' := [(2, .int 0), (0, .ref (ad 8)), (1, .int p0)]) C dX8_firstOf_1 rfl (by decide) rfl ?_
  refine x_iconst (v := 0) C dX8_firstOf_2 (by decide) ?_
  refine x_istore_n (lv' := [(3, .int 0), (2, .int 0), (0, .ref (ad 8)), (1, .int p0)]) C dX8_firstOf_3 rfl (by decide) rfl ?_
  refine x_sub [2, 3, 1, 0] rfl ?_
  exact w_X8_firstOf_4 C hr R0 pv_FU p0 0 0 σ h
theorem m_X8_firstOf (l : Launch) (D : va_G) (cI cZ : ClassId) (ad : Nat → Nat) (hJ : pv_J ad) (p0 : Int32) (σ : pv_S) (R0 : (Int32 × pv_S)) (h : f_X8_firstOf p0 σ = some R0) : Met l yX8_firstOf (Cond.code yX8_firstOf cX8_firstOf 4 (some .int) :: lwG) r_X8_firstOf (va_Pc [.ref (ad 8), .int p0] (pv_P D cI cZ ad σ)) (pv_QI D cI cZ ad R0) 0 0 (pv_A ad) := x_met (by decide) rfl hJ (Nat.le_of_ble_eq_true rfl) (fun p e s m args below meth c C hr => w_X8_firstOf_0 C hr R0 p0 σ h)
