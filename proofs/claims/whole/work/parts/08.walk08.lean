abbrev r_X8_ofVoice : Room := { frames := 2, cells := 0, slots := 0, locals := 44 }
set_option maxRecDepth 100000 in
set_option maxHeartbeats 4000000 in
theorem w_X8_ofVoice_172 {p : Program} {l : Launch} {e : Env} {s : State} {m : MethodId} {args : Array Value} {below : List Frame} {meth : Method} {c : Code} {D : va_G} {cI cZ : ClassId} {ad : Nat → Nat} (C : pv_C p s m args meth c cX8_ofVoice 11 RX8 D cI cZ ad (pv_A ad)) (hr : meth.sig.returnType = some .int) (R0 : (Int32 × pv_S)) (K34 : Int32 → Int32 → Int32 → Int32 → Int32 → Int32 → Int32 → Int32 → Int32 → pv_S → Option (Int32 × pv_S)) (hK34 : ∀ (v1 : Int32) (v2 : Int32) (v3 : Int32) (v4 : Int32) (v5 : Int32) (v6 : Int32) (v7 : Int32) (v8 : Int32) (v9 : Int32) (σ : pv_S), K34 v1 v2 v3 v4 v5 v6 v7 v8 v9 σ = some R0 → Wx p l e r_X8_ofVoice s m args below meth c 0 0 (MQ below (pv_QI D cI cZ ad R0) args s 0 0 (pv_A ad)) 11 D cI cZ ad (pv_A ad) 34 [(0, .ref (ad 8)), (1, .int v1), (2, .int v2), (3, .int v3), (4, .int v4), (5, .int v5), (6, .int v6), (7, .int v7), (8, .int v8), (9, .int v9)] [] σ) (v1 : Int32) (v2 : Int32) (v3 : Int32) (v4 : Int32) (v5 : Int32) (v6 : Int32) (v7 : Int32) (v9 : Int32) (s0 : Int32) (s1 : Int32) (σ : pv_S) (h : f_X8_ofVoice_172 K34 v1 v2 v3 v4 v5 v6 v7 v9 s0 s1 σ = some R0) : Wx p l e r_X8_ofVoice s m args below meth c 0 0 (MQ below (pv_QI D cI cZ ad R0) args s 0 0 (pv_A ad)) 11 D cI cZ ad (pv_A ad) 172 [(0, .ref (ad 8)), (1, .int v1), (2, .int v2), (3, .int v3), (4, .int v4), (5, .int v5), (6, .int v6), (7, .int v7), (9, .int v9)] [.int s0, .int s1] σ := by
  unfold f_X8_ofVoice_172 at h
  refine x_iadd C dX8_ofVoice_172 ?_
  refine x_istore (lv' := [(8, .int (s1 + s0)), (0, .ref (ad 8)), (1, .int v1), (2, .int v2), (3, .int v3), (4, .int v4), (5, .int v5), (6, .int v6), (7, .int v7), (9, .int v9)]) C dX8_ofVoice_173 (by decide) rfl ?_
  refine x_aload_n C dX8_ofVoice_175 rfl 1 rfl ?_
  refine xg_X8_7 C dX8_ofVoice_176 ?_
  refine x_bipush (v := 36) C dX8_ofVoice_179 (by decide) ?_
  refine x_iload C dX8_ofVoice_181 9 rfl ?_
  refine x_iadd C dX8_ofVoice_183 ?_
  obtain ⟨g1, h⟩ := gd_some h
  refine xl_13 C g1 dX8_ofVoice_184 ?_
  refine x_istore (lv' := [(9, .int (pv_la σ 13 (36 + v9))), (8, .int (s1 + s0)), (0, .ref (ad 8)), (1, .int v1), (2, .int v2), (3, .int v3), (4, .int v4), (5, .int v5), (6, .int v6), (7, .int v7)]) C dX8_ofVoice_185 (by decide) rfl ?_
  refine x_goto C 34 dX8_ofVoice_187 (by decide) ?_
  refine x_sub [2, 3, 4, 5, 6, 7, 8, 9, 1, 0] rfl ?_
  exact hK34 v1 v2 v3 v4 v5 v6 v7 (s1 + s0) (pv_la σ 13 (36 + v9)) σ h
set_option maxRecDepth 100000 in
set_option maxHeartbeats 4000000 in
theorem w_X8_ofVoice_150 {p : Program} {l : Launch} {e : Env} {s : State} {m : MethodId} {args : Array Value} {below : List Frame} {meth : Method} {c : Code} {D : va_G} {cI cZ : ClassId} {ad : Nat → Nat} (C : pv_C p s m args meth c cX8_ofVoice 11 RX8 D cI cZ ad (pv_A ad)) (hr : meth.sig.returnType = some .int) (R0 : (Int32 × pv_S)) (K34 : Int32 → Int32 → Int32 → Int32 → Int32 → Int32 → Int32 → Int32 → Int32 → pv_S → Option (Int32 × pv_S)) (hK34 : ∀ (v1 : Int32) (v2 : Int32) (v3 : Int32) (v4 : Int32) (v5 : Int32) (v6 : Int32) (v7 : Int32) (v8 : Int32) (v9 : Int32) (σ : pv_S), K34 v1 v2 v3 v4 v5 v6 v7 v8 v9 σ = some R0 → Wx p l e r_X8_ofVoice s m args below meth c 0 0 (MQ below (pv_QI D cI cZ ad R0) args s 0 0 (pv_A ad)) 11 D cI cZ ad (pv_A ad) 34 [(0, .ref (ad 8)), (1, .int v1), (2, .int v2), (3, .int v3), (4, .int v4), (5, .int v5), (6, .int v6), (7, .int v7), (8, .int v8), (9, .int v9)] [] σ) (v1 : Int32) (v2 : Int32) (v3 : Int32) (v4 : Int32) (v5 : Int32) (v6 : Int32) (v8 : Int32) (v9 : Int32) (v10 : Int32) (s0 : Int32) (s1 : Int32) (σ : pv_S) (h : f_X8_ofVoice_150 K34 v1 v2 v3 v4 v5 v6 v8 v9 v10 s0 s1 σ = some R0) : Wx p l e r_X8_ofVoice s m args below meth c 0 0 (MQ below (pv_QI D cI cZ ad R0) args s 0 0 (pv_A ad)) 11 D cI cZ ad (pv_A ad) 150 [(0, .ref (ad 8)), (1, .int v1), (2, .int v2), (3, .int v3), (4, .int v4), (5, .int v5), (6, .int v6), (8, .int v8), (9, .int v9), (10, .int v10)] [.int s0, .int s1] σ := by
  unfold f_X8_ofVoice_150 at h
  refine x_iadd C dX8_ofVoice_150 ?_
  refine x_istore (lv' := [(7, .int (s1 + s0)), (0, .ref (ad 8)), (1, .int v1), (2, .int v2), (3, .int v3), (4, .int v4), (5, .int v5), (6, .int v6), (8, .int v8), (9, .int v9), (10, .int v10)]) C dX8_ofVoice_151 (by decide) rfl ?_
  refine x_iload C dX8_ofVoice_153 8 rfl ?_
  refine x_iload C dX8_ofVoice_155 10 rfl ?_
  refine x_if_ge C 164 dX8_ofVoice_157 (by decide) (fun c1 => ?_) (fun c1 => ?_)
  · have h := (if_pos c1).symm.trans h
    refine x_aload_n C dX8_ofVoice_164 rfl 1 rfl ?_
    refine x_iload C dX8_ofVoice_165 9 rfl ?_
    refine x_iload C dX8_ofVoice_167 10 rfl ?_
    obtain ⟨q2, eq2, h⟩ := gb_some h
    refine x_vi (st := [.int v8]) C kY_X8_costOf 8 8 rfl rfl rfl (m_X8_costOf l D cI cZ ad C.2.2.2.2.2.2.1 v9 v10 σ q2 eq2) kl_X8_52 ⟨rfl, rfl⟩ ⟨Nat.le_of_ble_eq_true rfl, Nat.le_of_ble_eq_true rfl⟩ ⟨Nat.zero_le _, Nat.zero_le _⟩ rfl rfl (Nat.le_of_ble_eq_true rfl) dX8_ofVoice_169 ?_
    refine x_sub [1, 2, 3, 4, 5, 6, 7, 0, 9] rfl ?_
    exact w_X8_ofVoice_172 C hr R0 K34 hK34 v1 v2 v3 v4 v5 v6 (s1 + s0) v9 q2.1 v8 q2.2 h
  · have h := (if_neg c1).symm.trans h
    refine x_iconst (v := 0) C dX8_ofVoice_160 (by decide) ?_
    refine x_goto C 172 dX8_ofVoice_161 (by decide) ?_
    refine x_sub [1, 2, 3, 4, 5, 6, 7, 0, 9] rfl ?_
    exact w_X8_ofVoice_172 C hr R0 K34 hK34 v1 v2 v3 v4 v5 v6 (s1 + s0) v9 0 v8 σ h
set_option maxRecDepth 100000 in
set_option maxHeartbeats 4000000 in
theorem w_X8_ofVoice_120 {p : Program} {l : Launch} {e : Env} {s : State} {m : MethodId} {args : Array Value} {below : List Frame} {meth : Method} {c : Code} {D : va_G} {cI cZ : ClassId} {ad : Nat → Nat} (C : pv_C p s m args meth c cX8_ofVoice 11 RX8 D cI cZ ad (pv_A ad)) (hr : meth.sig.returnType = some .int) (R0 : (Int32 × pv_S)) (K34 : Int32 → Int32 → Int32 → Int32 → Int32 → Int32 → Int32 → Int32 → Int32 → pv_S → Option (Int32 × pv_S)) (hK34 : ∀ (v1 : Int32) (v2 : Int32) (v3 : Int32) (v4 : Int32) (v5 : Int32) (v6 : Int32) (v7 : Int32) (v8 : Int32) (v9 : Int32) (σ : pv_S), K34 v1 v2 v3 v4 v5 v6 v7 v8 v9 σ = some R0 → Wx p l e r_X8_ofVoice s m args below meth c 0 0 (MQ below (pv_QI D cI cZ ad R0) args s 0 0 (pv_A ad)) 11 D cI cZ ad (pv_A ad) 34 [(0, .ref (ad 8)), (1, .int v1), (2, .int v2), (3, .int v3), (4, .int v4), (5, .int v5), (6, .int v6), (7, .int v7), (8, .int v8), (9, .int v9)] [] σ) (v1 : Int32) (v2 : Int32) (v3 : Int32) (v4 : Int32) (v5 : Int32) (v7 : Int32) (v8 : Int32) (v9 : Int32) (v10 : Int32) (s0 : Int32) (σ : pv_S) (h : f_X8_ofVoice_120 K34 v1 v2 v3 v4 v5 v7 v8 v9 v10 s0 σ = some R0) : Wx p l e r_X8_ofVoice s m args below meth c 0 0 (MQ below (pv_QI D cI cZ ad R0) args s 0 0 (pv_A ad)) 11 D cI cZ ad (pv_A ad) 120 [(0, .ref (ad 8)), (1, .int v1), (2, .int v2), (3, .int v3), (4, .int v4), (5, .int v5), (7, .int v7), (8, .int v8), (9, .int v9), (10, .int v10)] [.int s0] σ := by
  unfold f_X8_ofVoice_120 at h
  refine x_istore (lv' := [(6, .int s0), (0, .ref (ad 8)), (1, .int v1), (2, .int v2), (3, .int v3), (4, .int v4), (5, .int v5), (7, .int v7), (8, .int v8), (9, .int v9), (10, .int v10)]) C dX8_ofVoice_120 (by decide) rfl ?_
  refine x_iload C dX8_ofVoice_122 7 rfl ?_
  refine x_iload C dX8_ofVoice_124 10 rfl ?_
  refine x_if_ge C 133 dX8_ofVoice_126 (by decide) (fun c1 => ?_) (fun c1 => ?_)
  · have h := (if_pos c1).symm.trans h
    refine x_aload_n C dX8_ofVoice_133 rfl 1 rfl ?_
    refine xg_X8_7 C dX8_ofVoice_134 ?_
    refine x_bipush (v := 6) C dX8_ofVoice_137 (by decide) ?_
    refine x_iload C dX8_ofVoice_139 10 rfl ?_
    refine x_iadd C dX8_ofVoice_141 ?_
    obtain ⟨g2, h⟩ := gd_some h
    refine xl_13 C g2 dX8_ofVoice_142 ?_
    refine x_aload_n C dX8_ofVoice_143 rfl 1 rfl ?_
    refine x_iload C dX8_ofVoice_144 9 rfl ?_
    obtain ⟨q3, eq3, h⟩ := gb_some h
    refine x_vi (st := [.int (pv_la σ 13 (6 + v10)), .int v7]) C kY_X8_off 8 8 rfl rfl rfl (m_X8_off l D cI cZ ad C.2.2.2.2.2.2.1 v9 σ q3 eq3) kl_X8_36 ⟨rfl, rfl⟩ ⟨Nat.le_of_ble_eq_true rfl, Nat.le_of_ble_eq_true rfl⟩ ⟨Nat.zero_le _, Nat.zero_le _⟩ rfl rfl (Nat.le_of_ble_eq_true rfl) dX8_ofVoice_146 ?_
    refine x_isub C dX8_ofVoice_149 ?_
    refine x_sub [1, 2, 3, 4, 5, 6, 0, 8, 9, 10] rfl ?_
    exact w_X8_ofVoice_150 C hr R0 K34 hK34 v1 v2 v3 v4 v5 s0 v8 v9 v10 ((pv_la σ 13 (6 + v10)) - q3.1) v7 q3.2 h
  · have h := (if_neg c1).symm.trans h
    refine x_iconst (v := 0) C dX8_ofVoice_129 (by decide) ?_
    refine x_goto C 150 dX8_ofVoice_130 (by decide) ?_
    refine x_sub [1, 2, 3, 4, 5, 6, 0, 8, 9, 10] rfl ?_
    exact w_X8_ofVoice_150 C hr R0 K34 hK34 v1 v2 v3 v4 v5 s0 v8 v9 v10 0 v7 σ h
set_option maxRecDepth 100000 in
set_option maxHeartbeats 4000000 in
theorem w_X8_ofVoice_88 {p : Program} {l : Launch} {e : Env} {s : State} {m : MethodId} {args : Array Value} {below : List Frame} {meth : Method} {c : Code} {D : va_G} {cI cZ : ClassId} {ad : Nat → Nat} (C : pv_C p s m args meth c cX8_ofVoice 11 RX8 D cI cZ ad (pv_A ad)) (hr : meth.sig.returnType = some .int) (R0 : (Int32 × pv_S)) (K34 : Int32 → Int32 → Int32 → Int32 → Int32 → Int32 → Int32 → Int32 → Int32 → pv_S → Option (Int32 × pv_S)) (hK34 : ∀ (v1 : Int32) (v2 : Int32) (v3 : Int32) (v4 : Int32) (v5 : Int32) (v6 : Int32) (v7 : Int32) (v8 : Int32) (v9 : Int32) (σ : pv_S), K34 v1 v2 v3 v4 v5 v6 v7 v8 v9 σ = some R0 → Wx p l e r_X8_ofVoice s m args below meth c 0 0 (MQ below (pv_QI D cI cZ ad R0) args s 0 0 (pv_A ad)) 11 D cI cZ ad (pv_A ad) 34 [(0, .ref (ad 8)), (1, .int v1), (2, .int v2), (3, .int v3), (4, .int v4), (5, .int v5), (6, .int v6), (7, .int v7), (8, .int v8), (9, .int v9)] [] σ) (v1 : Int32) (v2 : Int32) (v3 : Int32) (v4 : Int32) (v6 : Int32) (v7 : Int32) (v8 : Int32) (v9 : Int32) (v10 : Int32) (s0 : Int32) (σ : pv_S) (h : f_X8_ofVoice_88 K34 v1 v2 v3 v4 v6 v7 v8 v9 v10 s0 σ = some R0) : Wx p l e r_X8_ofVoice s m args below meth c 0 0 (MQ below (pv_QI D cI cZ ad R0) args s 0 0 (pv_A ad)) 11 D cI cZ ad (pv_A ad) 88 [(0, .ref (ad 8)), (1, .int v1), (2, .int v2), (3, .int v3), (4, .int v4), (6, .int v6), (7, .int v7), (8, .int v8), (9, .int v9), (10, .int v10)] [.int s0] σ := by
  unfold f_X8_ofVoice_88 at h
  refine x_istore (lv' := [(5, .int s0), (0, .ref (ad 8)), (1, .int v1), (2, .int v2), (3, .int v3), (4, .int v4), (6, .int v6), (7, .int v7), (8, .int v8), (9, .int v9), (10, .int v10)]) C dX8_ofVoice_88 (by decide) rfl ?_
  refine x_aload_n C dX8_ofVoice_90 rfl 1 rfl ?_
  refine xg_X8_7 C dX8_ofVoice_91 ?_
  refine x_bipush (v := 26) C dX8_ofVoice_94 (by decide) ?_
  refine x_iload C dX8_ofVoice_96 9 rfl ?_
  refine x_iadd C dX8_ofVoice_98 ?_
  obtain ⟨g1, h⟩ := gd_some h
  refine xl_13 C g1 dX8_ofVoice_99 ?_
  refine x_iload C dX8_ofVoice_100 6 rfl ?_
  refine x_icmp_le C 118 dX8_ofVoice_102 (by decide) (fun c2 => ?_) (fun c2 => ?_)
  · have h := (if_pos c2).symm.trans h
    refine x_iload C dX8_ofVoice_118 6 rfl ?_
    refine x_sub [1, 2, 3, 4, 5, 0, 7, 8, 9, 10] rfl ?_
    exact w_X8_ofVoice_120 C hr R0 K34 hK34 v1 v2 v3 v4 s0 v7 v8 v9 v10 v6 σ h
  · have h := (if_neg c2).symm.trans h
    refine x_aload_n C dX8_ofVoice_105 rfl 1 rfl ?_
    refine xg_X8_7 C dX8_ofVoice_106 ?_
    refine x_bipush (v := 26) C dX8_ofVoice_109 (by decide) ?_
    refine x_iload C dX8_ofVoice_111 9 rfl ?_
    refine x_iadd C dX8_ofVoice_113 ?_
    obtain ⟨g3, h⟩ := gd_some h
    refine xl_13 C g3 dX8_ofVoice_114 ?_
    refine x_goto C 120 dX8_ofVoice_115 (by decide) ?_
    refine x_sub [1, 2, 3, 4, 5, 0, 7, 8, 9, 10] rfl ?_
    exact w_X8_ofVoice_120 C hr R0 K34 hK34 v1 v2 v3 v4 s0 v7 v8 v9 v10 (pv_la σ 13 (26 + v9)) σ h
set_option maxRecDepth 100000 in
set_option maxHeartbeats 4000000 in
theorem w_X8_ofVoice_34 {p : Program} {l : Launch} {e : Env} {s : State} {m : MethodId} {args : Array Value} {below : List Frame} {meth : Method} {c : Code} {D : va_G} {cI cZ : ClassId} {ad : Nat → Nat} (C : pv_C p s m args meth c cX8_ofVoice 11 RX8 D cI cZ ad (pv_A ad)) (hr : meth.sig.returnType = some .int) (R0 : (Int32 × pv_S)) : ∀ (n : Nat) (v1 : Int32) (v2 : Int32) (v3 : Int32) (v4 : Int32) (v5 : Int32) (v6 : Int32) (v7 : Int32) (v8 : Int32) (v9 : Int32) (σ : pv_S), f_X8_ofVoice_34 n v1 v2 v3 v4 v5 v6 v7 v8 v9 σ = some R0 → Wx p l e r_X8_ofVoice s m args below meth c 0 0 (MQ below (pv_QI D cI cZ ad R0) args s 0 0 (pv_A ad)) 11 D cI cZ ad (pv_A ad) 34 [(0, .ref (ad 8)), (1, .int v1), (2, .int v2), (3, .int v3), (4, .int v4), (5, .int v5), (6, .int v6), (7, .int v7), (8, .int v8), (9, .int v9)] [] σ := by
  intro n
  induction n with
  | zero =>
    intro v1 v2 v3 v4 v5 v6 v7 v8 v9 σ h
    have h2 : (none : Option (Int32 × pv_S)) = some R0 := h
    cases h2
  | succ n ih =>
    intro v1 v2 v3 v4 v5 v6 v7 v8 v9 σ h
    unfold f_X8_ofVoice_34 at h
    refine x_iload C dX8_ofVoice_34 9 rfl ?_
    refine x_if_lt C 190 dX8_ofVoice_36 (by decide) (fun c1 => ?_) (fun c1 => ?_)
    · have h := (if_pos c1).symm.trans h
      refine x_iload_n C dX8_ofVoice_190 rfl 2 rfl ?_
      by_cases c2 : v2 = 0
      · have h := (if_pos c2).symm.trans h
        refine x_tableIn (off := 37) C 228 dX8_ofVoice_191 (by rw [c2]; decide) (by rw [c2]; decide) (by rw [c2]; rfl) (by decide) ?_
        refine x_iload_n C dX8_ofVoice_228 rfl 3 rfl ?_
        exact x_iret C hr dX8_ofVoice_229 (Option.some.inj h)
      have h := (if_neg c2).symm.trans h
      by_cases c3 : v2 = 1
      · have h := (if_pos c3).symm.trans h
        refine x_tableIn (off := 39) C 230 dX8_ofVoice_191 (by rw [c3]; decide) (by rw [c3]; decide) (by rw [c3]; rfl) (by decide) ?_
        refine x_iload_n C dX8_ofVoice_230 rfl 1 rfl ?_
        exact x_iret C hr dX8_ofVoice_231 (Option.some.inj h)
      have h := (if_neg c3).symm.trans h
      by_cases c4 : v2 = 2
      · have h := (if_pos c4).symm.trans h
        refine x_tableIn (off := 41) C 232 dX8_ofVoice_191 (by rw [c4]; decide) (by rw [c4]; decide) (by rw [c4]; rfl) (by decide) ?_
        refine x_iload C dX8_ofVoice_232 4 rfl ?_
        exact x_iret C hr dX8_ofVoice_234 (Option.some.inj h)
      have h := (if_neg c4).symm.trans h
      by_cases c5 : v2 = 3
      · have h := (if_pos c5).symm.trans h
        refine x_tableIn (off := 44) C 235 dX8_ofVoice_191 (by rw [c5]; decide) (by rw [c5]; decide) (by rw [c5]; rfl) (by decide) ?_
        refine x_iload C dX8_ofVoice_235 5 rfl ?_
        exact x_iret C hr dX8_ofVoice_237 (Option.some.inj h)
      have h := (if_neg c5).symm.trans h
      by_cases c6 : v2 = 4
      · have h := (if_pos c6).symm.trans h
        refine x_tableIn (off := 47) C 238 dX8_ofVoice_191 (by rw [c6]; decide) (by rw [c6]; decide) (by rw [c6]; rfl) (by decide) ?_
        refine x_iload C dX8_ofVoice_238 6 rfl ?_
        exact x_iret C hr dX8_ofVoice_240 (Option.some.inj h)
      have h := (if_neg c6).symm.trans h
      by_cases c7 : v2 = 5
      · have h := (if_pos c7).symm.trans h
        refine x_tableIn (off := 50) C 241 dX8_ofVoice_191 (by rw [c7]; decide) (by rw [c7]; decide) (by rw [c7]; rfl) (by decide) ?_
        refine x_iload C dX8_ofVoice_241 7 rfl ?_
        exact x_iret C hr dX8_ofVoice_243 (Option.some.inj h)
      have h := (if_neg c7).symm.trans h
      have hn8 : (v2).toInt < 0 ∨ 5 < (v2).toInt := by
        have := lv_neT (a := 0) c2 (by decide)
        have := lv_neT (a := 1) c3 (by decide)
        have := lv_neT (a := 2) c4 (by decide)
        have := lv_neT (a := 3) c5 (by decide)
        have := lv_neT (a := 4) c6 (by decide)
        have := lv_neT (a := 5) c7 (by decide)
        omega
      refine x_tableOut C 244 dX8_ofVoice_191 hn8 (by decide) ?_
      refine x_iload C dX8_ofVoice_244 8 rfl ?_
      exact x_iret C hr dX8_ofVoice_246 (Option.some.inj h)
    · have h := (if_neg c1).symm.trans h
      refine x_aload_n C dX8_ofVoice_39 rfl 0 rfl ?_
      refine xg_X8_7 C dX8_ofVoice_40 ?_
      refine x_bipush (v := 36) C dX8_ofVoice_43 (by decide) ?_
      refine x_iload C dX8_ofVoice_45 9 rfl ?_
      refine x_iadd C dX8_ofVoice_47 ?_
      obtain ⟨g9, h⟩ := gd_some h
      refine xl_13 C g9 dX8_ofVoice_48 ?_
      refine x_istore (lv' := [(10, .int (pv_la σ 13 (36 + v9))), (0, .ref (ad 8)), (1, .int v1), (2, .int v2), (3, .int v3), (4, .int v4), (5, .int v5), (6, .int v6), (7, .int v7), (8, .int v8), (9, .int v9)]) C dX8_ofVoice_49 (by decide) rfl ?_
      refine x_iinc (v := (v3 + 1)) (lv' := [(3, .int (v3 + 1)), (10, .int (pv_la σ 13 (36 + v9))), (0, .ref (ad 8)), (1, .int v1), (2, .int v2), (4, .int v4), (5, .int v5), (6, .int v6), (7, .int v7), (8, .int v8), (9, .int v9)]) C 4 dX8_ofVoice_51 rfl rfl (by decide) rfl ?_
      refine x_iload C dX8_ofVoice_54 10 rfl ?_
      refine x_istore (lv' := [(4, .int v9), (3, .int (v3 + 1)), (10, .int (pv_la σ 13 (36 + v9))), (0, .ref (ad 8)), (1, .int v1), (2, .int v2), (5, .int v5), (6, .int v6), (7, .int v7), (8, .int v8), (9, .int v9)]) C dX8_ofVoice_56 (by decide) rfl ?_
      refine x_aload_n C dX8_ofVoice_58 rfl 3 rfl ?_
      refine xg_X8_7 C dX8_ofVoice_59 ?_
      refine x_bipush (v := 26) C dX8_ofVoice_62 (by decide) ?_
      refine x_iload C dX8_ofVoice_64 10 rfl ?_
      refine x_iadd C dX8_ofVoice_66 ?_
      obtain ⟨g10, h⟩ := gd_some h
      refine xl_13 C g10 dX8_ofVoice_67 ?_
      refine x_iload C dX8_ofVoice_68 6 rfl ?_
      refine x_icmp_ge C 86 dX8_ofVoice_70 (by decide) (fun c11 => ?_) (fun c11 => ?_)
      · have h := (if_pos c11).symm.trans h
        refine x_iload C dX8_ofVoice_86 6 rfl ?_
        refine x_sub [3, 4, 5, 1, 0, 7, 8, 9, 10, 2] rfl ?_
        exact w_X8_ofVoice_88 C hr R0 (f_X8_ofVoice_34 n) ih v1 v2 (v3 + 1) v9 v6 v7 v8 v9 (pv_la σ 13 (36 + v9)) v5 σ h
      · have h := (if_neg c11).symm.trans h
        refine x_aload_n C dX8_ofVoice_73 rfl 3 rfl ?_
        refine xg_X8_7 C dX8_ofVoice_74 ?_
        refine x_bipush (v := 26) C dX8_ofVoice_77 (by decide) ?_
        refine x_iload C dX8_ofVoice_79 10 rfl ?_
        refine x_iadd C dX8_ofVoice_81 ?_
        obtain ⟨g12, h⟩ := gd_some h
        refine xl_13 C g12 dX8_ofVoice_82 ?_
        refine x_goto C 88 dX8_ofVoice_83 (by decide) ?_
        refine x_sub [3, 4, 5, 1, 0, 7, 8, 9, 10, 2] rfl ?_
        exact w_X8_ofVoice_88 C hr R0 (f_X8_ofVoice_34 n) ih v1 v2 (v3 + 1) v9 v6 v7 v8 v9 (pv_la σ 13 (36 + v9)) (pv_la σ 13 (26 + v9)) σ h
set_option maxRecDepth 100000 in
set_option maxHeartbeats 4000000 in
theorem w_X8_ofVoice_0 {p : Program} {l : Launch} {e : Env} {s : State} {m : MethodId} {args : Array Value} {below : List Frame} {meth : Method} {c : Code} {D : va_G} {cI cZ : ClassId} {ad : Nat → Nat} (C : pv_C p s m args meth c cX8_ofVoice 11 RX8 D cI cZ ad (pv_A ad)) (hr : meth.sig.returnType = some .int) (R0 : (Int32 × pv_S)) (p0 : Int32) (p1 : Int32) (σ : pv_S) (h : f_X8_ofVoice p0 p1 σ = some R0) : Wx p l e r_X8_ofVoice s m args below meth c 0 0 (MQ below (pv_QI D cI cZ ad R0) args s 0 0 (pv_A ad)) 11 D cI cZ ad (pv_A ad) 0 [(0, .ref (ad 8)), (1, .int p0), (2, .int p1)] [] σ := by
  unfold f_X8_ofVoice at h
  refine x_iconst (v := 0) C dX8_ofVoice_0 (by decide) ?_
  refine x_istore_n (lv' := [(3, .int 0), (0, .ref (ad 8)), (1, .int p0), (2, .int p1)]) C dX8_ofVoice_1 rfl (by decide) rfl ?_
  refine x_iload_n C dX8_ofVoice_2 rfl 2 rfl ?_
  refine x_istore (lv' := [(4, .int p0), (3, .int 0), (0, .ref (ad 8)), (1, .int p0), (2, .int p1)]) C dX8_ofVoice_3 (by decide) rfl ?_
  refine x_aload_n C dX8_ofVoice_5 rfl 2 rfl ?_
  refine xg_X8_7 C dX8_ofVoice_6 ?_
  refine x_bipush (v := 26) C dX8_ofVoice_9 (by decide) ?_
  refine x_iload_n C dX8_ofVoice_11 rfl 3 rfl ?_
  refine x_iadd C dX8_ofVoice_12 ?_
  obtain ⟨g1, h⟩ := gd_some h
  refine xl_13 C g1 dX8_ofVoice_13 ?_
  refine x_istore (lv' := [(5, .int (pv_la σ 13 (26 + p0))), (4, .int p0), (3, .int 0), (0, .ref (ad 8)), (1, .int p0), (2, .int p1)]) C dX8_ofVoice_14 (by decide) rfl ?_
  refine x_iload C dX8_ofVoice_16 0 rfl ?_
  refine x_istore (lv' := [(6, .int (pv_la σ 13 (26 + p0))), (5, .int (pv_la σ 13 (26 + p0))), (4, .int p0), (3, .int 0), (0, .ref (ad 8)), (1, .int p0), (2, .int p1)]) C dX8_ofVoice_18 (by decide) rfl ?_
  refine x_iconst (v := 0) C dX8_ofVoice_20 (by decide) ?_
  refine x_istore (lv' := [(7, .int 0), (6, .int (pv_la σ 13 (26 + p0))), (5, .int (pv_la σ 13 (26 + p0))), (4, .int p0), (3, .int 0), (0, .ref (ad 8)), (1, .int p0), (2, .int p1)]) C dX8_ofVoice_21 (by decide) rfl ?_
  refine x_aload_n C dX8_ofVoice_23 rfl 5 rfl ?_
  refine xg_X8_7 C dX8_ofVoice_24 ?_
  refine x_iconst (v := 4) C dX8_ofVoice_27 (by decide) ?_
  obtain ⟨g2, h⟩ := gd_some h
  refine xl_13 C g2 dX8_ofVoice_28 ?_
  refine x_istore (lv' := [(8, .int (pv_la σ 13 4)), (7, .int 0), (6, .int (pv_la σ 13 (26 + p0))), (5, .int (pv_la σ 13 (26 + p0))), (4, .int p0), (3, .int 0), (0, .ref (ad 8)), (1, .int p0), (2, .int p1)]) C dX8_ofVoice_29 (by decide) rfl ?_
  refine x_iload_n C dX8_ofVoice_31 rfl 7 rfl ?_
  refine x_istore (lv' := [(9, .int p0), (8, .int (pv_la σ 13 4)), (7, .int 0), (6, .int (pv_la σ 13 (26 + p0))), (5, .int (pv_la σ 13 (26 + p0))), (4, .int p0), (3, .int 0), (0, .ref (ad 8)), (1, .int p0), (2, .int p1)]) C dX8_ofVoice_32 (by decide) rfl ?_
  refine x_sub [7, 8, 9, 6, 5, 4, 3, 2, 1, 0] rfl ?_
  exact w_X8_ofVoice_34 C hr R0 pv_FU p0 p1 0 p0 (pv_la σ 13 (26 + p0)) (pv_la σ 13 (26 + p0)) 0 (pv_la σ 13 4) p0 σ h
theorem m_X8_ofVoice (l : Launch) (D : va_G) (cI cZ : ClassId) (ad : Nat → Nat) (hJ : pv_J ad) (p0 : Int32) (p1 : Int32) (σ : pv_S) (R0 : (Int32 × pv_S)) (h : f_X8_ofVoice p0 p1 σ = some R0) : Met l yX8_ofVoice (Cond.code yX8_ofVoice cX8_ofVoice 11 (some .int) :: lwG) r_X8_ofVoice (va_Pc [.ref (ad 8), .int p0, .int p1] (pv_P D cI cZ ad σ)) (pv_QI D cI cZ ad R0) 0 0 (pv_A ad) := x_met (by decide) rfl hJ (Nat.le_of_ble_eq_true rfl) (fun p e s m args below meth c C hr => w_X8_ofVoice_0 C hr R0 p0 p1 σ h)
abbrev r_X8_voice : Room := { frames := 3, cells := 0, slots := 0, locals := 74 }
set_option maxRecDepth 100000 in
set_option maxHeartbeats 4000000 in
theorem w_X8_voice_0 {p : Program} {l : Launch} {e : Env} {s : State} {m : MethodId} {args : Array Value} {below : List Frame} {meth : Method} {c : Code} {D : va_G} {cI cZ : ClassId} {ad : Nat → Nat} (C : pv_C p s m args meth c cX8_voice 3 RX8 D cI cZ ad (pv_A ad)) (hr : meth.sig.returnType = some .int) (R0 : (Int32 × pv_S)) (p0 : Int32) (p1 : Int32) (σ : pv_S) (h : f_X8_voice p0 p1 σ = some R0) : Wx p l e r_X8_voice s m args below meth c 0 0 (MQ below (pv_QI D cI cZ ad R0) args s 0 0 (pv_A ad)) 3 D cI cZ ad (pv_A ad) 0 [(0, .ref (ad 8)), (1, .int p0), (2, .int p1)] [] σ := by
  unfold f_X8_voice at h
  refine x_iload_n C dX8_voice_0 rfl 1 rfl ?_
  refine x_i2l C dX8_voice_1 ?_
  refine x_lconst (v := 0) C dX8_voice_2 (by decide) ?_
  refine x_aload_n C dX8_voice_3 rfl 0 rfl ?_
  obtain ⟨q1, eq1, h⟩ := gb_some h
  refine x_vi (st := [.long 0, .long p0.toInt64]) C kY_X8_voices 8 8 rfl rfl rfl (m_X8_voices l D cI cZ ad C.2.2.2.2.2.2.1 σ q1 eq1) kl_X8_75 ⟨rfl, rfl⟩ ⟨Nat.le_of_ble_eq_true rfl, Nat.le_of_ble_eq_true rfl⟩ ⟨Nat.zero_le _, Nat.zero_le _⟩ rfl rfl (Nat.le_of_ble_eq_true rfl) dX8_voice_4 ?_
  refine x_iconst (v := 1) C dX8_voice_7 (by decide) ?_
  refine x_isub C dX8_voice_8 ?_
  refine x_i2l C dX8_voice_9 ?_
  obtain ⟨q2, eq2, h⟩ := gb_some h
  refine x_si (st := []) C kY_X8_in (m_X8_in l D cI cZ ad C.2.2.2.2.2.2.1 p0.toInt64 0 ((q1.1 - 1)).toInt64 q1.2 q2 eq2) kl_X8_40 ⟨rfl, rfl⟩ ⟨Nat.le_of_ble_eq_true rfl, Nat.le_of_ble_eq_true rfl⟩ ⟨Nat.zero_le _, Nat.zero_le _⟩ rfl rfl (Nat.le_of_ble_eq_true rfl) dX8_voice_10 ?_
  refine x_if_ne C 19 dX8_voice_13 (by decide) (fun c3 => ?_) (fun c3 => ?_)
  · have h := (if_neg c3).symm.trans h
    refine x_iload_n C dX8_voice_19 rfl 2 rfl ?_
    refine x_i2l C dX8_voice_20 ?_
    refine x_lconst (v := 0) C dX8_voice_21 (by decide) ?_
    refine x_ldc2 C kc_X8_124 dX8_voice_22 ?_
    obtain ⟨q4, eq4, h⟩ := gb_some h
    refine x_si (st := []) C kY_X8_in (m_X8_in l D cI cZ ad C.2.2.2.2.2.2.1 p1.toInt64 0 6 q2.2 q4 eq4) kl_X8_40 ⟨rfl, rfl⟩ ⟨Nat.le_of_ble_eq_true rfl, Nat.le_of_ble_eq_true rfl⟩ ⟨Nat.zero_le _, Nat.zero_le _⟩ rfl rfl (Nat.le_of_ble_eq_true rfl) dX8_voice_25 ?_
    refine x_if_eq C 44 dX8_voice_28 (by decide) (fun c5 => ?_) (fun c5 => ?_)
    · have h := (if_pos c5).symm.trans h
      refine x_ldc C kc_X8_91 dX8_voice_44 ?_
      exact x_iret C hr dX8_voice_46 (Option.some.inj h)
    · have h := (if_neg c5).symm.trans h
      refine x_aload_n C dX8_voice_31 rfl 0 rfl ?_
      refine x_aload_n C dX8_voice_32 rfl 0 rfl ?_
      refine x_iload_n C dX8_voice_33 rfl 1 rfl ?_
      obtain ⟨q6, eq6, h⟩ := gb_some h
      refine x_vi (st := [.ref (ad 8)]) C kY_X8_firstOf 8 8 rfl rfl rfl (m_X8_firstOf l D cI cZ ad C.2.2.2.2.2.2.1 p0 q4.2 q6 eq6) kl_X8_126 ⟨rfl, rfl⟩ ⟨Nat.le_of_ble_eq_true rfl, Nat.le_of_ble_eq_true rfl⟩ ⟨Nat.zero_le _, Nat.zero_le _⟩ rfl rfl (Nat.le_of_ble_eq_true rfl) dX8_voice_34 ?_
      refine x_iload_n C dX8_voice_37 rfl 2 rfl ?_
      obtain ⟨q7, eq7, h⟩ := gb_some h
      refine x_vi (st := []) C kY_X8_ofVoice 8 8 rfl rfl rfl (m_X8_ofVoice l D cI cZ ad C.2.2.2.2.2.2.1 q6.1 p1 q6.2 q7 eq7) kl_X8_129 ⟨rfl, rfl⟩ ⟨Nat.le_of_ble_eq_true rfl, Nat.le_of_ble_eq_true rfl⟩ ⟨Nat.zero_le _, Nat.zero_le _⟩ rfl rfl (Nat.le_of_ble_eq_true rfl) dX8_voice_38 ?_
      refine x_goto C 46 dX8_voice_41 (by decide) ?_
      exact x_iret C hr dX8_voice_46 (Option.some.inj h)
  · have h := (if_pos c3).symm.trans h
    refine x_ldc C kc_X8_111 dX8_voice_16 ?_
    exact x_iret C hr dX8_voice_18 (Option.some.inj h)
theorem m_X8_voice (l : Launch) (D : va_G) (cI cZ : ClassId) (ad : Nat → Nat) (hJ : pv_J ad) (p0 : Int32) (p1 : Int32) (σ : pv_S) (R0 : (Int32 × pv_S)) (h : f_X8_voice p0 p1 σ = some R0) : Met l yX8_voice (Cond.code yX8_voice cX8_voice 3 (some .int) :: lwG) r_X8_voice (va_Pc [.ref (ad 8), .int p0, .int p1] (pv_P D cI cZ ad σ)) (pv_QI D cI cZ ad R0) 0 0 (pv_A ad) := x_met (by decide) rfl hJ (Nat.le_of_ble_eq_true rfl) (fun p e s m args below meth c C hr => w_X8_voice_0 C hr R0 p0 p1 σ h)
abbrev r_X8_member : Room := { frames := 2, cells := 0, slots := 0, locals := 46 }
set_option maxRecDepth 100000 in
set_option maxHeartbeats 4000000 in
theorem w_X8_member_35 {p : Program} {l : Launch} {e : Env} {s : State} {m : MethodId} {args : Array Value} {below : List Frame} {meth : Method} {c : Code} {D : va_G} {cI cZ : ClassId} {ad : Nat → Nat} (C : pv_C p s m args meth c cX8_member 5 RX8 D cI cZ ad (pv_A ad)) (hr : meth.sig.returnType = some .int) (R0 : (Int32 × pv_S)) : ∀ (n : Nat) (v2 : Int32) (v3 : Int32) (v4 : Int32) (σ : pv_S), f_X8_member_35 n v2 v3 v4 σ = some R0 → Wx p l e r_X8_member s m args below meth c 0 0 (MQ below (pv_QI D cI cZ ad R0) args s 0 0 (pv_A ad)) 5 D cI cZ ad (pv_A ad) 35 [(0, .ref (ad 8)), (2, .int v2), (3, .int v3), (4, .int v4)] [] σ := by
  intro n
  induction n with
  | zero =>
    intro v2 v3 v4 σ h
    have h2 : (none : Option (Int32 × pv_S)) = some R0 := h
    cases h2
  | succ n ih =>
    intro v2 v3 v4 σ h
    unfold f_X8_member_35 at h
    refine x_iload C dX8_member_35 3 rfl ?_
    refine x_iload_n C dX8_member_37 rfl 1 rfl ?_
    refine x_icmp_ge C 61 dX8_member_38 (by decide) (fun c1 => ?_) (fun c1 => ?_)
    · have h := (if_pos c1).symm.trans h
      refine x_iload_n C dX8_member_61 rfl 2 rfl ?_
      exact x_iret C hr dX8_member_62 (Option.some.inj h)
    · have h := (if_neg c1).symm.trans h
      refine x_iload_n C dX8_member_41 rfl 2 rfl ?_
      refine x_if_lt C 61 dX8_member_42 (by decide) (fun c2 => ?_) (fun c2 => ?_)
      · have h := (if_pos c2).symm.trans h
        refine x_iload_n C dX8_member_61 rfl 2 rfl ?_
        exact x_iret C hr dX8_member_62 (Option.some.inj h)
      · have h := (if_neg c2).symm.trans h
        refine x_aload_n C dX8_member_45 rfl 0 rfl ?_
        refine xg_X8_7 C dX8_member_46 ?_
        refine x_bipush (v := 36) C dX8_member_49 (by decide) ?_
        refine x_iload_n C dX8_member_51 rfl 2 rfl ?_
        refine x_iadd C dX8_member_52 ?_
        obtain ⟨g3, h⟩ := gd_some h
        refine xl_13 C g3 dX8_member_53 ?_
        refine x_istore_n (lv' := [(3, .int (pv_la σ 13 (36 + v3))), (0, .ref (ad 8)), (2, .int v2), (4, .int v4)]) C dX8_member_54 rfl (by decide) rfl ?_
        refine x_iinc (v := (v4 + 1)) (lv' := [(4, .int (v4 + 1)), (3, .int (pv_la σ 13 (36 + v3))), (0, .ref (ad 8)), (2, .int v2)]) C 3 dX8_member_55 rfl rfl (by decide) rfl ?_
        refine x_goto C 35 dX8_member_58 (by decide) ?_
        refine x_sub [2, 3, 1, 0] rfl ?_
        exact ih v2 (pv_la σ 13 (36 + v3)) (v4 + 1) σ h
set_option maxRecDepth 100000 in
set_option maxHeartbeats 4000000 in
theorem w_X8_member_0 {p : Program} {l : Launch} {e : Env} {s : State} {m : MethodId} {args : Array Value} {below : List Frame} {meth : Method} {c : Code} {D : va_G} {cI cZ : ClassId} {ad : Nat → Nat} (C : pv_C p s m args meth c cX8_member 5 RX8 D cI cZ ad (pv_A ad)) (hr : meth.sig.returnType = some .int) (R0 : (Int32 × pv_S)) (p0 : Int32) (p1 : Int32) (σ : pv_S) (h : f_X8_member p0 p1 σ = some R0) : Wx p l e r_X8_member s m args below meth c 0 0 (MQ below (pv_QI D cI cZ ad R0) args s 0 0 (pv_A ad)) 5 D cI cZ ad (pv_A ad) 0 [(0, .ref (ad 8)), (1, .int p0), (2, .int p1)] [] σ := by
  unfold f_X8_member at h
  refine x_iload_n C dX8_member_0 rfl 1 rfl ?_
  refine x_i2l C dX8_member_1 ?_
  refine x_lconst (v := 0) C dX8_member_2 (by decide) ?_
  refine x_aload_n C dX8_member_3 rfl 0 rfl ?_
  obtain ⟨q1, eq1, h⟩ := gb_some h
  refine x_vi (st := [.long 0, .long p0.toInt64]) C kY_X8_voices 8 8 rfl rfl rfl (m_X8_voices l D cI cZ ad C.2.2.2.2.2.2.1 σ q1 eq1) kl_X8_75 ⟨rfl, rfl⟩ ⟨Nat.le_of_ble_eq_true rfl, Nat.le_of_ble_eq_true rfl⟩ ⟨Nat.zero_le _, Nat.zero_le _⟩ rfl rfl (Nat.le_of_ble_eq_true rfl) dX8_member_4 ?_
  refine x_iconst (v := 1) C dX8_member_7 (by decide) ?_
  refine x_isub C dX8_member_8 ?_
  refine x_i2l C dX8_member_9 ?_
  obtain ⟨q2, eq2, h⟩ := gb_some h
  refine x_si (st := []) C kY_X8_in (m_X8_in l D cI cZ ad C.2.2.2.2.2.2.1 p0.toInt64 0 ((q1.1 - 1)).toInt64 q1.2 q2 eq2) kl_X8_40 ⟨rfl, rfl⟩ ⟨Nat.le_of_ble_eq_true rfl, Nat.le_of_ble_eq_true rfl⟩ ⟨Nat.zero_le _, Nat.zero_le _⟩ rfl rfl (Nat.le_of_ble_eq_true rfl) dX8_member_10 ?_
  refine x_if_ne C 19 dX8_member_13 (by decide) (fun c3 => ?_) (fun c3 => ?_)
  · have h := (if_neg c3).symm.trans h
    refine x_iload_n C dX8_member_19 rfl 2 rfl ?_
    refine x_if_ge C 26 dX8_member_20 (by decide) (fun c4 => ?_) (fun c4 => ?_)
    · have h := (if_pos c4).symm.trans h
      refine x_aload_n C dX8_member_26 rfl 0 rfl ?_
      refine x_iload_n C dX8_member_27 rfl 1 rfl ?_
      obtain ⟨q5, eq5, h⟩ := gb_some h
      refine x_vi (st := []) C kY_X8_firstOf 8 8 rfl rfl rfl (m_X8_firstOf l D cI cZ ad C.2.2.2.2.2.2.1 p0 q2.2 q5 eq5) kl_X8_126 ⟨rfl, rfl⟩ ⟨Nat.le_of_ble_eq_true rfl, Nat.le_of_ble_eq_true rfl⟩ ⟨Nat.zero_le _, Nat.zero_le _⟩ rfl rfl (Nat.le_of_ble_eq_true rfl) dX8_member_28 ?_
      refine x_istore_n (lv' := [(3, .int q5.1), (0, .ref (ad 8)), (1, .int p0), (2, .int p1)]) C dX8_member_31 rfl (by decide) rfl ?_
      refine x_iconst (v := 0) C dX8_member_32 (by decide) ?_
      refine x_istore (lv' := [(4, .int 0), (3, .int q5.1), (0, .ref (ad 8)), (1, .int p0), (2, .int p1)]) C dX8_member_33 (by decide) rfl ?_
      refine x_sub [2, 4, 1, 0] rfl ?_
      exact w_X8_member_35 C hr R0 pv_FU p1 q5.1 0 q5.2 h
    · have h := (if_neg c4).symm.trans h
      refine x_ldc C kc_X8_91 dX8_member_23 ?_
      exact x_iret C hr dX8_member_25 (Option.some.inj h)
  · have h := (if_pos c3).symm.trans h
    refine x_ldc C kc_X8_111 dX8_member_16 ?_
    exact x_iret C hr dX8_member_18 (Option.some.inj h)
theorem m_X8_member (l : Launch) (D : va_G) (cI cZ : ClassId) (ad : Nat → Nat) (hJ : pv_J ad) (p0 : Int32) (p1 : Int32) (σ : pv_S) (R0 : (Int32 × pv_S)) (h : f_X8_member p0 p1 σ = some R0) : Met l yX8_member (Cond.code yX8_member cX8_member 5 (some .int) :: lwG) r_X8_member (va_Pc [.ref (ad 8), .int p0, .int p1] (pv_P D cI cZ ad σ)) (pv_QI D cI cZ ad R0) 0 0 (pv_A ad) := x_met (by decide) rfl hJ (Nat.le_of_ble_eq_true rfl) (fun p e s m args below meth c C hr => w_X8_member_0 C hr R0 p0 p1 σ h)
abbrev r_X8_isNoteOf : Room := { frames := 1, cells := 0, slots := 0, locals := 25 }
set_option maxRecDepth 100000 in
set_option maxHeartbeats 4000000 in
theorem w_X8_isNoteOf_0 {p : Program} {l : Launch} {e : Env} {s : State} {m : MethodId} {args : Array Value} {below : List Frame} {meth : Method} {c : Code} {D : va_G} {cI cZ : ClassId} {ad : Nat → Nat} (C : pv_C p s m args meth c cX8_isNoteOf 4 RX8 D cI cZ ad (pv_A ad)) (hr : meth.sig.returnType = some .boolean) (R0 : (Int32 × pv_S)) (p0 : Int32) (p1 : Int32) (p2 : Int32) (σ : pv_S) (h : f_X8_isNoteOf p0 p1 p2 σ = some R0) : Wx p l e r_X8_isNoteOf s m args below meth c 0 0 (MQ below (pv_QI D cI cZ ad R0) args s 0 0 (pv_A ad)) 4 D cI cZ ad (pv_A ad) 0 [(0, .ref (ad 8)), (1, .int p0), (2, .int p1), (3, .int p2)] [] σ := by
  unfold f_X8_isNoteOf at h
  refine x_iload_n C dX8_isNoteOf_0 rfl 1 rfl ?_
  refine x_i2l C dX8_isNoteOf_1 ?_
  refine x_lconst (v := 0) C dX8_isNoteOf_2 (by decide) ?_
  refine x_ldc2 C kc_X8_132 dX8_isNoteOf_3 ?_
  obtain ⟨q1, eq1, h⟩ := gb_some h
  refine x_si (st := []) C kY_X8_in (m_X8_in l D cI cZ ad C.2.2.2.2.2.2.1 p0.toInt64 0 99 σ q1 eq1) kl_X8_40 ⟨rfl, rfl⟩ ⟨Nat.le_of_ble_eq_true rfl, Nat.le_of_ble_eq_true rfl⟩ ⟨Nat.zero_le _, Nat.zero_le _⟩ rfl rfl (Nat.le_of_ble_eq_true rfl) dX8_isNoteOf_6 ?_
  refine x_if_eq C 40 dX8_isNoteOf_9 (by decide) (fun c2 => ?_) (fun c2 => ?_)
  · have h := (if_pos c2).symm.trans h
    refine x_iconst (v := 0) C dX8_isNoteOf_40 (by decide) ?_
    exact x_zret C hr rfl dX8_isNoteOf_41 (Option.some.inj h)
  · have h := (if_neg c2).symm.trans h
    refine x_iload_n C dX8_isNoteOf_12 rfl 2 rfl ?_
    refine x_i2l C dX8_isNoteOf_13 ?_
    refine x_lconst (v := 1) C dX8_isNoteOf_14 (by decide) ?_
    refine x_ldc2 C kc_X8_134 dX8_isNoteOf_15 ?_
    obtain ⟨q3, eq3, h⟩ := gb_some h
    refine x_si (st := []) C kY_X8_in (m_X8_in l D cI cZ ad C.2.2.2.2.2.2.1 p1.toInt64 1 32 q1.2 q3 eq3) kl_X8_40 ⟨rfl, rfl⟩ ⟨Nat.le_of_ble_eq_true rfl, Nat.le_of_ble_eq_true rfl⟩ ⟨Nat.zero_le _, Nat.zero_le _⟩ rfl rfl (Nat.le_of_ble_eq_true rfl) dX8_isNoteOf_18 ?_
    refine x_if_eq C 40 dX8_isNoteOf_21 (by decide) (fun c4 => ?_) (fun c4 => ?_)
    · have h := (if_pos c4).symm.trans h
      refine x_iconst (v := 0) C dX8_isNoteOf_40 (by decide) ?_
      exact x_zret C hr rfl dX8_isNoteOf_41 (Option.some.inj h)
    · have h := (if_neg c4).symm.trans h
      refine x_iload_n C dX8_isNoteOf_24 rfl 3 rfl ?_
      refine x_i2l C dX8_isNoteOf_25 ?_
      refine x_lconst (v := 0) C dX8_isNoteOf_26 (by decide) ?_
      refine x_ldc2 C kc_X8_136 dX8_isNoteOf_27 ?_
      obtain ⟨q5, eq5, h⟩ := gb_some h
      refine x_si (st := []) C kY_X8_in (m_X8_in l D cI cZ ad C.2.2.2.2.2.2.1 p2.toInt64 0 127 q3.2 q5 eq5) kl_X8_40 ⟨rfl, rfl⟩ ⟨Nat.le_of_ble_eq_true rfl, Nat.le_of_ble_eq_true rfl⟩ ⟨Nat.zero_le _, Nat.zero_le _⟩ rfl rfl (Nat.le_of_ble_eq_true rfl) dX8_isNoteOf_30 ?_
      refine x_if_eq C 40 dX8_isNoteOf_33 (by decide) (fun c6 => ?_) (fun c6 => ?_)
      · have h := (if_pos c6).symm.trans h
        refine x_iconst (v := 0) C dX8_isNoteOf_40 (by decide) ?_
        exact x_zret C hr rfl dX8_isNoteOf_41 (Option.some.inj h)
      · have h := (if_neg c6).symm.trans h
        refine x_iconst (v := 1) C dX8_isNoteOf_36 (by decide) ?_
        refine x_goto C 41 dX8_isNoteOf_37 (by decide) ?_
        exact x_zret C hr rfl dX8_isNoteOf_41 (Option.some.inj h)
theorem m_X8_isNoteOf (l : Launch) (D : va_G) (cI cZ : ClassId) (ad : Nat → Nat) (hJ : pv_J ad) (p0 : Int32) (p1 : Int32) (p2 : Int32) (σ : pv_S) (R0 : (Int32 × pv_S)) (h : f_X8_isNoteOf p0 p1 p2 σ = some R0) : Met l yX8_isNoteOf (Cond.code yX8_isNoteOf cX8_isNoteOf 4 (some .boolean) :: lwG) r_X8_isNoteOf (va_Pc [.ref (ad 8), .int p0, .int p1, .int p2] (pv_P D cI cZ ad σ)) (pv_QI D cI cZ ad R0) 0 0 (pv_A ad) := x_met (by decide) rfl hJ (Nat.le_of_ble_eq_true rfl) (fun p e s m args below meth c C hr => w_X8_isNoteOf_0 C hr R0 p0 p1 p2 σ h)
abbrev r_X8_copyRow : Room := { frames := 0, cells := 0, slots := 0, locals := 0 }
set_option maxRecDepth 100000 in
set_option maxHeartbeats 4000000 in
theorem w_X8_copyRow_2 {p : Program} {l : Launch} {e : Env} {s : State} {m : MethodId} {args : Array Value} {below : List Frame} {meth : Method} {c : Code} {D : va_G} {cI cZ : ClassId} {ad : Nat → Nat} (C : pv_C p s m args meth c cX8_copyRow 4 RX8 D cI cZ ad (pv_A ad)) (hr : meth.sig.returnType = none) (R0 : pv_S) : ∀ (n : Nat) (v1 : Int32) (v2 : Int32) (v3 : Int32) (σ : pv_S), f_X8_copyRow_2 n v1 v2 v3 σ = some R0 → Wx p l e r_X8_copyRow s m args below meth c 0 0 (MQ below (pv_QV D cI cZ ad R0) args s 0 0 (pv_A ad)) 4 D cI cZ ad (pv_A ad) 2 [(0, .ref (ad 8)), (1, .int v1), (2, .int v2), (3, .int v3)] [] σ := by
  intro n
  induction n with
  | zero =>
    intro v1 v2 v3 σ h
    have h2 : (none : Option pv_S) = some R0 := h
    cases h2
  | succ n ih =>
    intro v1 v2 v3 σ h
    unfold f_X8_copyRow_2 at h
    refine x_iload_n C dX8_copyRow_2 rfl 3 rfl ?_
    refine x_bipush (v := 46) C dX8_copyRow_3 (by decide) ?_
    refine x_icmp_ge C 30 dX8_copyRow_5 (by decide) (fun c1 => ?_) (fun c1 => ?_)
    · have h := (if_pos c1).symm.trans h
      exact x_vret C hr dX8_copyRow_30 (Option.some.inj h)
    · have h := (if_neg c1).symm.trans h
      refine x_aload_n C dX8_copyRow_8 rfl 0 rfl ?_
      refine xg_X8_7 C dX8_copyRow_9 ?_
      refine x_iload_n C dX8_copyRow_12 rfl 2 rfl ?_
      refine x_iload_n C dX8_copyRow_13 rfl 3 rfl ?_
      refine x_iadd C dX8_copyRow_14 ?_
      refine x_aload_n C dX8_copyRow_15 rfl 0 rfl ?_
      refine xg_X8_7 C dX8_copyRow_16 ?_
      refine x_iload_n C dX8_copyRow_19 rfl 1 rfl ?_
      refine x_iload_n C dX8_copyRow_20 rfl 3 rfl ?_
      refine x_iadd C dX8_copyRow_21 ?_
      obtain ⟨g2, h⟩ := gd_some h
      refine xl_13 C g2 dX8_copyRow_22 ?_
      obtain ⟨g3, h⟩ := gd_some h
      refine xs_13 C g3 dX8_copyRow_23 ?_
      refine x_iinc (v := (v3 + 1)) (lv' := [(3, .int (v3 + 1)), (0, .ref (ad 8)), (1, .int v1), (2, .int v2)]) C 3 dX8_copyRow_24 rfl rfl (by decide) rfl ?_
      refine x_goto C 2 dX8_copyRow_27 (by decide) ?_
      refine x_sub [1, 2, 3, 0] rfl ?_
      exact ih v1 v2 (v3 + 1) (pv_sa σ 13 (v2 + v3) (pv_la σ 13 (v1 + v3))) h
set_option maxRecDepth 100000 in
set_option maxHeartbeats 4000000 in
theorem w_X8_copyRow_0 {p : Program} {l : Launch} {e : Env} {s : State} {m : MethodId} {args : Array Value} {below : List Frame} {meth : Method} {c : Code} {D : va_G} {cI cZ : ClassId} {ad : Nat → Nat} (C : pv_C p s m args meth c cX8_copyRow 4 RX8 D cI cZ ad (pv_A ad)) (hr : meth.sig.returnType = none) (R0 : pv_S) (p0 : Int32) (p1 : Int32) (σ : pv_S) (h : f_X8_copyRow p0 p1 σ = some R0) : Wx p l e r_X8_copyRow s m args below meth c 0 0 (MQ below (pv_QV D cI cZ ad R0) args s 0 0 (pv_A ad)) 4 D cI cZ ad (pv_A ad) 0 [(0, .ref (ad 8)), (1, .int p0), (2, .int p1)] [] σ := by
  unfold f_X8_copyRow at h
  refine x_iconst (v := 0) C dX8_copyRow_0 (by decide) ?_
  refine x_istore_n (lv' := [(3, .int 0), (0, .ref (ad 8)), (1, .int p0), (2, .int p1)]) C dX8_copyRow_1 rfl (by decide) rfl ?_
  refine x_sub [1, 2, 3, 0] rfl ?_
  exact w_X8_copyRow_2 C hr R0 pv_FU p0 p1 0 σ h
theorem m_X8_copyRow (l : Launch) (D : va_G) (cI cZ : ClassId) (ad : Nat → Nat) (hJ : pv_J ad) (p0 : Int32) (p1 : Int32) (σ : pv_S) (R0 : pv_S) (h : f_X8_copyRow p0 p1 σ = some R0) : Met l yX8_copyRow (Cond.code yX8_copyRow cX8_copyRow 4 (none) :: lwG) r_X8_copyRow (va_Pc [.ref (ad 8), .int p0, .int p1] (pv_P D cI cZ ad σ)) (pv_QV D cI cZ ad R0) 0 0 (pv_A ad) := x_met (by decide) rfl hJ (Nat.le_of_ble_eq_true rfl) (fun p e s m args below meth c C hr => w_X8_copyRow_0 C hr R0 p0 p1 σ h)
abbrev r_X8_remember : Room := { frames := 1, cells := 0, slots := 0, locals := 23 }
set_option maxRecDepth 100000 in
set_option maxHeartbeats 4000000 in
theorem w_X8_remember_48 {p : Program} {l : Launch} {e : Env} {s : State} {m : MethodId} {args : Array Value} {below : List Frame} {meth : Method} {c : Code} {D : va_G} {cI cZ : ClassId} {ad : Nat → Nat} (C : pv_C p s m args meth c cX8_remember 2 RX8 D cI cZ ad (pv_A ad)) (hr : meth.sig.returnType = none) (R0 : pv_S) (s0 : Int32) (σ : pv_S) (h : f_X8_remember_48 s0 σ = some R0) : Wx p l e r_X8_remember s m args below meth c 0 0 (MQ below (pv_QV D cI cZ ad R0) args s 0 0 (pv_A ad)) 2 D cI cZ ad (pv_A ad) 48 [] [.int s0, .ref (ad 8)] σ := by
  unfold f_X8_remember_48 at h
  refine xp_X8_32 C dX8_remember_48 ?_
  exact x_vret C hr dX8_remember_51 (Option.some.inj h)
set_option maxRecDepth 100000 in
set_option maxHeartbeats 4000000 in
theorem w_X8_remember_3 {p : Program} {l : Launch} {e : Env} {s : State} {m : MethodId} {args : Array Value} {below : List Frame} {meth : Method} {c : Code} {D : va_G} {cI cZ : ClassId} {ad : Nat → Nat} (C : pv_C p s m args meth c cX8_remember 2 RX8 D cI cZ ad (pv_A ad)) (hr : meth.sig.returnType = none) (R0 : pv_S) : ∀ (n : Nat) (v1 : Int32) (σ : pv_S), f_X8_remember_3 n v1 σ = some R0 → Wx p l e r_X8_remember s m args below meth c 0 0 (MQ below (pv_QV D cI cZ ad R0) args s 0 0 (pv_A ad)) 2 D cI cZ ad (pv_A ad) 3 [(0, .ref (ad 8)), (1, .int v1)] [] σ := by
  intro n
  induction n with
  | zero =>
    intro v1 σ h
    have h2 : (none : Option pv_S) = some R0 := h
    cases h2
  | succ n ih =>
    intro v1 σ h
    unfold f_X8_remember_3 at h
    refine x_iload_n C dX8_remember_3 rfl 1 rfl ?_
    refine x_if_le C 27 dX8_remember_4 (by decide) (fun c1 => ?_) (fun c1 => ?_)
    · have h := (if_pos c1).symm.trans h
      refine x_aload_n C dX8_remember_27 rfl 0 rfl ?_
      refine x_aload_n C dX8_remember_28 rfl 0 rfl ?_
      refine xg_X8_32 C dX8_remember_29 ?_
      refine x_bipush (v := 16) C dX8_remember_32 (by decide) ?_
      refine x_icmp_ge C 46 dX8_remember_34 (by decide) (fun c2 => ?_) (fun c2 => ?_)
      · have h := (if_pos c2).symm.trans h
        refine x_bipush (v := 16) C dX8_remember_46 (by decide) ?_
        refine x_sub [] rfl ?_
        exact w_X8_remember_48 C hr R0 16 σ h
      · have h := (if_neg c2).symm.trans h
        refine x_aload_n C dX8_remember_37 rfl 0 rfl ?_
        refine xg_X8_32 C dX8_remember_38 ?_
        refine x_iconst (v := 1) C dX8_remember_41 (by decide) ?_
        refine x_iadd C dX8_remember_42 ?_
        refine x_goto C 48 dX8_remember_43 (by decide) ?_
        refine x_sub [] rfl ?_
        exact w_X8_remember_48 C hr R0 ((σ.1 10) + 1) σ h
    · have h := (if_neg c1).symm.trans h
      refine x_aload_n C dX8_remember_7 rfl 0 rfl ?_
      refine x_bipush (v := 46) C dX8_remember_8 (by decide) ?_
      refine x_iload_n C dX8_remember_10 rfl 1 rfl ?_
      refine x_iconst (v := 1) C dX8_remember_11 (by decide) ?_
      refine x_isub C dX8_remember_12 ?_
      refine x_imul C dX8_remember_13 ?_
      refine x_bipush (v := 46) C dX8_remember_14 (by decide) ?_
      refine x_iload_n C dX8_remember_16 rfl 1 rfl ?_
      refine x_imul C dX8_remember_17 ?_
      obtain ⟨q3, eq3, h⟩ := gb_some h
      refine x_vv (st := []) C kY_X8_copyRow 8 8 rfl rfl rfl (m_X8_copyRow l D cI cZ ad C.2.2.2.2.2.2.1 (46 * (v1 - 1)) (46 * v1) σ q3 eq3) kl_X8_28 ⟨rfl, rfl⟩ ⟨Nat.le_of_ble_eq_true rfl, Nat.le_of_ble_eq_true rfl⟩ ⟨Nat.zero_le _, Nat.zero_le _⟩ rfl rfl (Nat.le_of_ble_eq_true rfl) dX8_remember_18 ?_
      refine x_iinc (v := (v1 + (-1))) (lv' := [(1, .int (v1 + (-1))), (0, .ref (ad 8))]) C 1 dX8_remember_21 rfl rfl (by decide) rfl ?_
      refine x_goto C 3 dX8_remember_24 (by decide) ?_
      refine x_sub [1, 0] rfl ?_
      exact ih (v1 + (-1)) q3 h
set_option maxRecDepth 100000 in
set_option maxHeartbeats 4000000 in
theorem w_X8_remember_0 {p : Program} {l : Launch} {e : Env} {s : State} {m : MethodId} {args : Array Value} {below : List Frame} {meth : Method} {c : Code} {D : va_G} {cI cZ : ClassId} {ad : Nat → Nat} (C : pv_C p s m args meth c cX8_remember 2 RX8 D cI cZ ad (pv_A ad)) (hr : meth.sig.returnType = none) (R0 : pv_S) (σ : pv_S) (h : f_X8_remember σ = some R0) : Wx p l e r_X8_remember s m args below meth c 0 0 (MQ below (pv_QV D cI cZ ad R0) args s 0 0 (pv_A ad)) 2 D cI cZ ad (pv_A ad) 0 [(0, .ref (ad 8))] [] σ := by
  unfold f_X8_remember at h
  refine x_bipush (v := 16) C dX8_remember_0 (by decide) ?_
  refine x_istore_n (lv' := [(1, .int 16), (0, .ref (ad 8))]) C dX8_remember_2 rfl (by decide) rfl ?_
  refine x_sub [1, 0] rfl ?_
  exact w_X8_remember_3 C hr R0 pv_FU 16 σ h
theorem m_X8_remember (l : Launch) (D : va_G) (cI cZ : ClassId) (ad : Nat → Nat) (hJ : pv_J ad)  (σ : pv_S) (R0 : pv_S) (h : f_X8_remember σ = some R0) : Met l yX8_remember (Cond.code yX8_remember cX8_remember 2 (none) :: lwG) r_X8_remember (va_Pc [.ref (ad 8)] (pv_P D cI cZ ad σ)) (pv_QV D cI cZ ad R0) 0 0 (pv_A ad) := x_met (by decide) rfl hJ (Nat.le_of_ble_eq_true rfl) (fun p e s m args below meth c C hr => w_X8_remember_0 C hr R0 σ h)
abbrev r_X8_part0 : Room := { frames := 0, cells := 0, slots := 0, locals := 0 }
set_option maxRecDepth 100000 in
set_option maxHeartbeats 4000000 in
theorem w_X8_part0_2 {p : Program} {l : Launch} {e : Env} {s : State} {m : MethodId} {args : Array Value} {below : List Frame} {meth : Method} {c : Code} {D : va_G} {cI cZ : ClassId} {ad : Nat → Nat} (C : pv_C p s m args meth c cX8_part0 2 RX8 D cI cZ ad (pv_A ad)) (hr : meth.sig.returnType = none) (R0 : pv_S) : ∀ (n : Nat) (v1 : Int32) (σ : pv_S), f_X8_part0_2 n v1 σ = some R0 → Wx p l e r_X8_part0 s m args below meth c 0 0 (MQ below (pv_QV D cI cZ ad R0) args s 0 0 (pv_A ad)) 2 D cI cZ ad (pv_A ad) 2 [(0, .ref (ad 8)), (1, .int v1)] [] σ := by
  intro n
  induction n with
  | zero =>
    intro v1 σ h
    have h2 : (none : Option pv_S) = some R0 := h
    cases h2
  | succ n ih =>
    intro v1 σ h
    unfold f_X8_part0_2 at h
    refine x_iload_n C dX8_part0_2 rfl 1 rfl ?_
    refine x_bipush (v := 10) C dX8_part0_3 (by decide) ?_
    refine x_icmp_ge C 24 dX8_part0_5 (by decide) (fun c1 => ?_) (fun c1 => ?_)
    · have h := (if_pos c1).symm.trans h
      exact x_vret C hr dX8_part0_24 (Option.some.inj h)
    · have h := (if_neg c1).symm.trans h
      refine x_aload_n C dX8_part0_8 rfl 0 rfl ?_
      refine xg_X8_7 C dX8_part0_9 ?_
      refine x_bipush (v := 36) C dX8_part0_12 (by decide) ?_
      refine x_iload_n C dX8_part0_14 rfl 1 rfl ?_
      refine x_iadd C dX8_part0_15 ?_
      refine x_iconst (v := (-1)) C dX8_part0_16 (by decide) ?_
      obtain ⟨g2, h⟩ := gd_some h
      refine xs_13 C g2 dX8_part0_17 ?_
      refine x_iinc (v := (v1 + 1)) (lv' := [(1, .int (v1 + 1)), (0, .ref (ad 8))]) C 1 dX8_part0_18 rfl rfl (by decide) rfl ?_
      refine x_goto C 2 dX8_part0_21 (by decide) ?_
      refine x_sub [1, 0] rfl ?_
      exact ih (v1 + 1) (pv_sa σ 13 (36 + v1) (-1)) h
set_option maxRecDepth 100000 in
set_option maxHeartbeats 4000000 in
theorem w_X8_part0_0 {p : Program} {l : Launch} {e : Env} {s : State} {m : MethodId} {args : Array Value} {below : List Frame} {meth : Method} {c : Code} {D : va_G} {cI cZ : ClassId} {ad : Nat → Nat} (C : pv_C p s m args meth c cX8_part0 2 RX8 D cI cZ ad (pv_A ad)) (hr : meth.sig.returnType = none) (R0 : pv_S) (σ : pv_S) (h : f_X8_part0 σ = some R0) : Wx p l e r_X8_part0 s m args below meth c 0 0 (MQ below (pv_QV D cI cZ ad R0) args s 0 0 (pv_A ad)) 2 D cI cZ ad (pv_A ad) 0 [(0, .ref (ad 8))] [] σ := by
  unfold f_X8_part0 at h
  refine x_iconst (v := 0) C dX8_part0_0 (by decide) ?_
  refine x_istore_n (lv' := [(1, .int 0), (0, .ref (ad 8))]) C dX8_part0_1 rfl (by decide) rfl ?_
  refine x_sub [1, 0] rfl ?_
  exact w_X8_part0_2 C hr R0 pv_FU 0 σ h
theorem m_X8_part0 (l : Launch) (D : va_G) (cI cZ : ClassId) (ad : Nat → Nat) (hJ : pv_J ad)  (σ : pv_S) (R0 : pv_S) (h : f_X8_part0 σ = some R0) : Met l yX8_part0 (Cond.code yX8_part0 cX8_part0 2 (none) :: lwG) r_X8_part0 (va_Pc [.ref (ad 8)] (pv_P D cI cZ ad σ)) (pv_QV D cI cZ ad R0) 0 0 (pv_A ad) := x_met (by decide) rfl hJ (Nat.le_of_ble_eq_true rfl) (fun p e s m args below meth c C hr => w_X8_part0_0 C hr R0 σ h)
abbrev r_X8_stays : Room := { frames := 0, cells := 0, slots := 0, locals := 0 }
set_option maxRecDepth 100000 in
set_option maxHeartbeats 4000000 in
theorem w_X8_stays_0 {p : Program} {l : Launch} {e : Env} {s : State} {m : MethodId} {args : Array Value} {below : List Frame} {meth : Method} {c : Code} {D : va_G} {cI cZ : ClassId} {ad : Nat → Nat} (C : pv_C p s m args meth c cX8_stays 5 RX8 D cI cZ ad (pv_A ad)) (hr : meth.sig.returnType = some .boolean) (R0 : (Int32 × pv_S)) (p0 : Int32) (p1 : Int32) (p2 : Int32) (p3 : Int32) (σ : pv_S) (h : f_X8_stays p0 p1 p2 p3 σ = some R0) : Wx p l e r_X8_stays s m args below meth c 0 0 (MQ below (pv_QI D cI cZ ad R0) args s 0 0 (pv_A ad)) 5 D cI cZ ad (pv_A ad) 0 [(0, .ref (ad 8)), (1, .int p0), (2, .int p1), (3, .int p2), (4, .int p3)] [] σ := by
  unfold f_X8_stays at h
  refine x_aload_n C dX8_stays_0 rfl 0 rfl ?_
  refine xg_X8_7 C dX8_stays_1 ?_
  refine x_bipush (v := 6) C dX8_stays_4 (by decide) ?_
  refine x_iload_n C dX8_stays_6 rfl 1 rfl ?_
  refine x_iadd C dX8_stays_7 ?_
  obtain ⟨g1, h⟩ := gd_some h
  refine xl_13 C g1 dX8_stays_8 ?_
  refine x_iload_n C dX8_stays_9 rfl 2 rfl ?_
  refine x_icmp_eq C 32 dX8_stays_10 (by decide) (fun c2 => ?_) (fun c2 => ?_)
  · have h := (if_pos c2).symm.trans h
    refine x_aload_n C dX8_stays_32 rfl 0 rfl ?_
    refine xg_X8_7 C dX8_stays_33 ?_
    refine x_bipush (v := 26) C dX8_stays_36 (by decide) ?_
    refine x_iload_n C dX8_stays_38 rfl 1 rfl ?_
    refine x_iadd C dX8_stays_39 ?_
    obtain ⟨g3, h⟩ := gd_some h
    refine xl_13 C g3 dX8_stays_40 ?_
    refine x_iload C dX8_stays_41 4 rfl ?_
    refine x_icmp_eq C 68 dX8_stays_43 (by decide) (fun c4 => ?_) (fun c4 => ?_)
    · have h := (if_pos c4).symm.trans h
      refine x_aload_n C dX8_stays_68 rfl 0 rfl ?_
      refine xg_X8_7 C dX8_stays_69 ?_
      refine x_bipush (v := 16) C dX8_stays_72 (by decide) ?_
      refine x_iload_n C dX8_stays_74 rfl 1 rfl ?_
      refine x_iadd C dX8_stays_75 ?_
      obtain ⟨g5, h⟩ := gd_some h
      refine xl_13 C g5 dX8_stays_76 ?_
      refine x_iload_n C dX8_stays_77 rfl 3 rfl ?_
      refine x_icmp_gt C 85 dX8_stays_78 (by decide) (fun c6 => ?_) (fun c6 => ?_)
      · have h := (if_pos c6).symm.trans h
        refine x_iconst (v := 0) C dX8_stays_85 (by decide) ?_
        exact x_zret C hr rfl dX8_stays_86 (Option.some.inj h)
      · have h := (if_neg c6).symm.trans h
        refine x_iconst (v := 1) C dX8_stays_81 (by decide) ?_
        refine x_goto C 86 dX8_stays_82 (by decide) ?_
        exact x_zret C hr rfl dX8_stays_86 (Option.some.inj h)
    · have h := (if_neg c4).symm.trans h
      refine x_aload_n C dX8_stays_46 rfl 0 rfl ?_
      refine xg_X8_7 C dX8_stays_47 ?_
      refine x_bipush (v := 26) C dX8_stays_50 (by decide) ?_
      refine x_iload_n C dX8_stays_52 rfl 1 rfl ?_
      refine x_iadd C dX8_stays_53 ?_
      obtain ⟨g7, h⟩ := gd_some h
      refine xl_13 C g7 dX8_stays_54 ?_
      refine x_iload C dX8_stays_55 4 rfl ?_
      refine x_icmp_ge C 64 dX8_stays_57 (by decide) (fun c8 => ?_) (fun c8 => ?_)
      · have h := (if_pos c8).symm.trans h
        refine x_iconst (v := 0) C dX8_stays_64 (by decide) ?_
        refine x_goto C 86 dX8_stays_65 (by decide) ?_
        exact x_zret C hr rfl dX8_stays_86 (Option.some.inj h)
      · have h := (if_neg c8).symm.trans h
        refine x_iconst (v := 1) C dX8_stays_60 (by decide) ?_
        refine x_goto C 86 dX8_stays_61 (by decide) ?_
        exact x_zret C hr rfl dX8_stays_86 (Option.some.inj h)
  · have h := (if_neg c2).symm.trans h
    refine x_aload_n C dX8_stays_13 rfl 0 rfl ?_
    refine xg_X8_7 C dX8_stays_14 ?_
    refine x_bipush (v := 6) C dX8_stays_17 (by decide) ?_
    refine x_iload_n C dX8_stays_19 rfl 1 rfl ?_
    refine x_iadd C dX8_stays_20 ?_
    obtain ⟨g9, h⟩ := gd_some h
    refine xl_13 C g9 dX8_stays_21 ?_
    refine x_iload_n C dX8_stays_22 rfl 2 rfl ?_
    refine x_icmp_ge C 30 dX8_stays_23 (by decide) (fun c10 => ?_) (fun c10 => ?_)
    · have h := (if_pos c10).symm.trans h
      refine x_iconst (v := 0) C dX8_stays_30 (by decide) ?_
      exact x_zret C hr rfl dX8_stays_31 (Option.some.inj h)
    · have h := (if_neg c10).symm.trans h
      refine x_iconst (v := 1) C dX8_stays_26 (by decide) ?_
      refine x_goto C 31 dX8_stays_27 (by decide) ?_
      exact x_zret C hr rfl dX8_stays_31 (Option.some.inj h)
theorem m_X8_stays (l : Launch) (D : va_G) (cI cZ : ClassId) (ad : Nat → Nat) (hJ : pv_J ad) (p0 : Int32) (p1 : Int32) (p2 : Int32) (p3 : Int32) (σ : pv_S) (R0 : (Int32 × pv_S)) (h : f_X8_stays p0 p1 p2 p3 σ = some R0) : Met l yX8_stays (Cond.code yX8_stays cX8_stays 5 (some .boolean) :: lwG) r_X8_stays (va_Pc [.ref (ad 8), .int p0, .int p1, .int p2, .int p3] (pv_P D cI cZ ad σ)) (pv_QI D cI cZ ad R0) 0 0 (pv_A ad) := x_met (by decide) rfl hJ (Nat.le_of_ble_eq_true rfl) (fun p e s m args below meth c C hr => w_X8_stays_0 C hr R0 p0 p1 p2 p3 σ h)
abbrev r_X8_add : Room := { frames := 1, cells := 0, slots := 0, locals := 24 }
set_option maxRecDepth 100000 in
set_option maxHeartbeats 4000000 in
theorem w_X8_add_99 {p : Program} {l : Launch} {e : Env} {s : State} {m : MethodId} {args : Array Value} {below : List Frame} {meth : Method} {c : Code} {D : va_G} {cI cZ : ClassId} {ad : Nat → Nat} (C : pv_C p s m args meth c cX8_add 5 RX8 D cI cZ ad (pv_A ad)) (hr : meth.sig.returnType = some .int) (R0 : (Int32 × pv_S)) (v1 : Int32) (v2 : Int32) (v3 : Int32) (v4 : Int32) (σ : pv_S) (h : f_X8_add_99 v1 v2 v3 v4 σ = some R0) : Wx p l e r_X8_add s m args below meth c 0 0 (MQ below (pv_QI D cI cZ ad R0) args s 0 0 (pv_A ad)) 5 D cI cZ ad (pv_A ad) 99 [(0, .ref (ad 8)), (1, .int v1), (2, .int v2), (3, .int v3), (4, .int v4)] [] σ := by
  unfold f_X8_add_99 at h
  refine x_aload_n C dX8_add_99 rfl 0 rfl ?_
  refine xg_X8_7 C dX8_add_100 ?_
  refine x_bipush (v := 6) C dX8_add_103 (by decide) ?_
  refine x_iload C dX8_add_105 4 rfl ?_
  refine x_iadd C dX8_add_107 ?_
  refine x_iload_n C dX8_add_108 rfl 1 rfl ?_
  obtain ⟨g1, h⟩ := gd_some h
  refine xs_13 C g1 dX8_add_109 ?_
  refine x_aload_n C dX8_add_110 rfl 0 rfl ?_
  refine xg_X8_7 C dX8_add_111 ?_
  refine x_bipush (v := 16) C dX8_add_114 (by decide) ?_
  refine x_iload C dX8_add_116 4 rfl ?_
  refine x_iadd C dX8_add_118 ?_
  refine x_iload_n C dX8_add_119 rfl 2 rfl ?_
  obtain ⟨g2, h⟩ := gd_some h
  refine xs_13 C g2 dX8_add_120 ?_
  refine x_aload_n C dX8_add_121 rfl 0 rfl ?_
  refine xg_X8_7 C dX8_add_122 ?_
  refine x_bipush (v := 26) C dX8_add_125 (by decide) ?_
  refine x_iload C dX8_add_127 4 rfl ?_
  refine x_iadd C dX8_add_129 ?_
  refine x_iload_n C dX8_add_130 rfl 3 rfl ?_
  obtain ⟨g3, h⟩ := gd_some h
  refine xs_13 C g3 dX8_add_131 ?_
  refine x_aload_n C dX8_add_132 rfl 0 rfl ?_
  refine xg_X8_7 C dX8_add_133 ?_
  refine x_iconst (v := 0) C dX8_add_136 (by decide) ?_
  refine x_dup2 C dX8_add_137 rfl rfl ?_
  obtain ⟨g4, h⟩ := gd_some h
  refine xl_13 C g4 dX8_add_138 ?_
  refine x_iconst (v := 1) C dX8_add_139 (by decide) ?_
  refine x_iadd C dX8_add_140 ?_
  obtain ⟨g5, h⟩ := gd_some h
  refine xs_13 C g5 dX8_add_141 ?_
  refine x_aload_n C dX8_add_142 rfl 0 rfl ?_
  obtain ⟨q6, eq6, h⟩ := gb_some h
  refine x_vv (st := []) C kY_X8_part0 8 8 rfl rfl rfl (m_X8_part0 l D cI cZ ad C.2.2.2.2.2.2.1 (pv_sa (pv_sa (pv_sa (pv_sa σ 13 (6 + v4) v1) 13 (16 + v4) v2) 13 (26 + v4) v3) 13 0 ((pv_la (pv_sa (pv_sa (pv_sa σ 13 (6 + v4) v1) 13 (16 + v4) v2) 13 (26 + v4) v3) 13 0) + 1)) q6 eq6) kl_X8_142 ⟨rfl, rfl⟩ ⟨Nat.le_of_ble_eq_true rfl, Nat.le_of_ble_eq_true rfl⟩ ⟨Nat.zero_le _, Nat.zero_le _⟩ rfl rfl (Nat.le_of_ble_eq_true rfl) dX8_add_143 ?_
  refine x_iload C dX8_add_146 4 rfl ?_
  exact x_iret C hr dX8_add_148 (Option.some.inj h)
set_option maxRecDepth 100000 in
set_option maxHeartbeats 4000000 in
theorem w_X8_add_8 {p : Program} {l : Launch} {e : Env} {s : State} {m : MethodId} {args : Array Value} {below : List Frame} {meth : Method} {c : Code} {D : va_G} {cI cZ : ClassId} {ad : Nat → Nat} (C : pv_C p s m args meth c cX8_add 5 RX8 D cI cZ ad (pv_A ad)) (hr : meth.sig.returnType = some .int) (R0 : (Int32 × pv_S)) : ∀ (n : Nat) (v1 : Int32) (v2 : Int32) (v3 : Int32) (v4 : Int32) (σ : pv_S), f_X8_add_8 n v1 v2 v3 v4 σ = some R0 → Wx p l e r_X8_add s m args below meth c 0 0 (MQ below (pv_QI D cI cZ ad R0) args s 0 0 (pv_A ad)) 5 D cI cZ ad (pv_A ad) 8 [(0, .ref (ad 8)), (1, .int v1), (2, .int v2), (3, .int v3), (4, .int v4)] [] σ := by
  intro n
  induction n with
  | zero =>
    intro v1 v2 v3 v4 σ h
    have h2 : (none : Option (Int32 × pv_S)) = some R0 := h
    cases h2
  | succ n ih =>
    intro v1 v2 v3 v4 σ h
    unfold f_X8_add_8 at h
    refine x_iload C dX8_add_8 4 rfl ?_
    refine x_if_le C 99 dX8_add_10 (by decide) (fun c1 => ?_) (fun c1 => ?_)
    · have h := (if_pos c1).symm.trans h
      exact w_X8_add_99 C hr R0 v1 v2 v3 v4 σ h
    · have h := (if_neg c1).symm.trans h
      refine x_aload_n C dX8_add_13 rfl 0 rfl ?_
      refine x_iload C dX8_add_14 4 rfl ?_
      refine x_iconst (v := 1) C dX8_add_16 (by decide) ?_
      refine x_isub C dX8_add_17 ?_
      refine x_iload_n C dX8_add_18 rfl 1 rfl ?_
      refine x_iload_n C dX8_add_19 rfl 2 rfl ?_
      refine x_iload_n C dX8_add_20 rfl 3 rfl ?_
      obtain ⟨q2, eq2, h⟩ := gb_some h
      refine x_vi (st := []) C kY_X8_stays 8 8 rfl rfl rfl (m_X8_stays l D cI cZ ad C.2.2.2.2.2.2.1 (v4 - 1) v1 v2 v3 σ q2 eq2) kl_X8_138 ⟨rfl, rfl⟩ ⟨Nat.le_of_ble_eq_true rfl, Nat.le_of_ble_eq_true rfl⟩ ⟨Nat.zero_le _, Nat.zero_le _⟩ rfl rfl (Nat.le_of_ble_eq_true rfl) dX8_add_21 ?_
      refine x_if_ne C 99 dX8_add_24 (by decide) (fun c3 => ?_) (fun c3 => ?_)
      · have h := (if_neg c3).symm.trans h
        exact w_X8_add_99 C hr R0 v1 v2 v3 v4 q2.2 h
      · have h := (if_pos c3).symm.trans h
        refine x_aload_n C dX8_add_27 rfl 0 rfl ?_
        refine xg_X8_7 C dX8_add_28 ?_
        refine x_bipush (v := 6) C dX8_add_31 (by decide) ?_
        refine x_iload C dX8_add_33 4 rfl ?_
        refine x_iadd C dX8_add_35 ?_
        refine x_aload_n C dX8_add_36 rfl 0 rfl ?_
        refine xg_X8_7 C dX8_add_37 ?_
        refine x_bipush (v := 6) C dX8_add_40 (by decide) ?_
        refine x_iload C dX8_add_42 4 rfl ?_
        refine x_iadd C dX8_add_44 ?_
        refine x_iconst (v := 1) C dX8_add_45 (by decide) ?_
        refine x_isub C dX8_add_46 ?_
        obtain ⟨g4, h⟩ := gd_some h
        refine xl_13 C g4 dX8_add_47 ?_
        obtain ⟨g5, h⟩ := gd_some h
        refine xs_13 C g5 dX8_add_48 ?_
        refine x_aload_n C dX8_add_49 rfl 0 rfl ?_
        refine xg_X8_7 C dX8_add_50 ?_
        refine x_bipush (v := 16) C dX8_add_53 (by decide) ?_
        refine x_iload C dX8_add_55 4 rfl ?_
        refine x_iadd C dX8_add_57 ?_
        refine x_aload_n C dX8_add_58 rfl 0 rfl ?_
        refine xg_X8_7 C dX8_add_59 ?_
        refine x_bipush (v := 16) C dX8_add_62 (by decide) ?_
        refine x_iload C dX8_add_64 4 rfl ?_
        refine x_iadd C dX8_add_66 ?_
        refine x_iconst (v := 1) C dX8_add_67 (by decide) ?_
        refine x_isub C dX8_add_68 ?_
        obtain ⟨g6, h⟩ := gd_some h
        refine xl_13 C g6 dX8_add_69 ?_
        obtain ⟨g7, h⟩ := gd_some h
        refine xs_13 C g7 dX8_add_70 ?_
        refine x_aload_n C dX8_add_71 rfl 0 rfl ?_
        refine xg_X8_7 C dX8_add_72 ?_
        refine x_bipush (v := 26) C dX8_add_75 (by decide) ?_
        refine x_iload C dX8_add_77 4 rfl ?_
        refine x_iadd C dX8_add_79 ?_
        refine x_aload_n C dX8_add_80 rfl 0 rfl ?_
        refine xg_X8_7 C dX8_add_81 ?_
        refine x_bipush (v := 26) C dX8_add_84 (by decide) ?_
        refine x_iload C dX8_add_86 4 rfl ?_
        refine x_iadd C dX8_add_88 ?_
        refine x_iconst (v := 1) C dX8_add_89 (by decide) ?_
        refine x_isub C dX8_add_90 ?_
        obtain ⟨g8, h⟩ := gd_some h
        refine xl_13 C g8 dX8_add_91 ?_
        obtain ⟨g9, h⟩ := gd_some h
        refine xs_13 C g9 dX8_add_92 ?_
        refine x_iinc (v := (v4 + (-1))) (lv' := [(4, .int (v4 + (-1))), (0, .ref (ad 8)), (1, .int v1), (2, .int v2), (3, .int v3)]) C 4 dX8_add_93 rfl rfl (by decide) rfl ?_
        refine x_goto C 8 dX8_add_96 (by decide) ?_
        refine x_sub [1, 2, 3, 4, 0] rfl ?_
        exact ih v1 v2 v3 (v4 + (-1)) (pv_sa (pv_sa (pv_sa q2.2 13 (6 + v4) (pv_la q2.2 13 ((6 + v4) - 1))) 13 (16 + v4) (pv_la (pv_sa q2.2 13 (6 + v4) (pv_la q2.2 13 ((6 + v4) - 1))) 13 ((16 + v4) - 1))) 13 (26 + v4) (pv_la (pv_sa (pv_sa q2.2 13 (6 + v4) (pv_la q2.2 13 ((6 + v4) - 1))) 13 (16 + v4) (pv_la (pv_sa q2.2 13 (6 + v4) (pv_la q2.2 13 ((6 + v4) - 1))) 13 ((16 + v4) - 1))) 13 ((26 + v4) - 1))) h
set_option maxRecDepth 100000 in
set_option maxHeartbeats 4000000 in
theorem w_X8_add_0 {p : Program} {l : Launch} {e : Env} {s : State} {m : MethodId} {args : Array Value} {below : List Frame} {meth : Method} {c : Code} {D : va_G} {cI cZ : ClassId} {ad : Nat → Nat} (C : pv_C p s m args meth c cX8_add 5 RX8 D cI cZ ad (pv_A ad)) (hr : meth.sig.returnType = some .int) (R0 : (Int32 × pv_S)) (p0 : Int32) (p1 : Int32) (p2 : Int32) (σ : pv_S) (h : f_X8_add p0 p1 p2 σ = some R0) : Wx p l e r_X8_add s m args below meth c 0 0 (MQ below (pv_QI D cI cZ ad R0) args s 0 0 (pv_A ad)) 5 D cI cZ ad (pv_A ad) 0 [(0, .ref (ad 8)), (1, .int p0), (2, .int p1), (3, .int p2)] [] σ := by
  unfold f_X8_add at h
  refine x_aload_n C dX8_add_0 rfl 0 rfl ?_
  refine xg_X8_7 C dX8_add_1 ?_
  refine x_iconst (v := 0) C dX8_add_4 (by decide) ?_
  obtain ⟨g1, h⟩ := gd_some h
  refine xl_13 C g1 dX8_add_5 ?_
  refine x_istore (lv' := [(4, .int (pv_la σ 13 0)), (0, .ref (ad 8)), (1, .int p0), (2, .int p1), (3, .int p2)]) C dX8_add_6 (by decide) rfl ?_
  refine x_sub [1, 2, 3, 4, 0] rfl ?_
  exact w_X8_add_8 C hr R0 pv_FU p0 p1 p2 (pv_la σ 13 0) σ h
theorem m_X8_add (l : Launch) (D : va_G) (cI cZ : ClassId) (ad : Nat → Nat) (hJ : pv_J ad) (p0 : Int32) (p1 : Int32) (p2 : Int32) (σ : pv_S) (R0 : (Int32 × pv_S)) (h : f_X8_add p0 p1 p2 σ = some R0) : Met l yX8_add (Cond.code yX8_add cX8_add 5 (some .int) :: lwG) r_X8_add (va_Pc [.ref (ad 8), .int p0, .int p1, .int p2] (pv_P D cI cZ ad σ)) (pv_QI D cI cZ ad R0) 0 0 (pv_A ad) := x_met (by decide) rfl hJ (Nat.le_of_ble_eq_true rfl) (fun p e s m args below meth c C hr => w_X8_add_0 C hr R0 p0 p1 p2 σ h)
abbrev r_X8_note : Room := { frames := 2, cells := 0, slots := 0, locals := 48 }
set_option maxRecDepth 100000 in
set_option maxHeartbeats 4000000 in
theorem w_X8_note_0 {p : Program} {l : Launch} {e : Env} {s : State} {m : MethodId} {args : Array Value} {below : List Frame} {meth : Method} {c : Code} {D : va_G} {cI cZ : ClassId} {ad : Nat → Nat} (C : pv_C p s m args meth c cX8_note 4 RX8 D cI cZ ad (pv_A ad)) (hr : meth.sig.returnType = some .int) (R0 : (Int32 × pv_S)) (p0 : Int32) (p1 : Int32) (p2 : Int32) (σ : pv_S) (h : f_X8_note p0 p1 p2 σ = some R0) : Wx p l e r_X8_note s m args below meth c 0 0 (MQ below (pv_QI D cI cZ ad R0) args s 0 0 (pv_A ad)) 4 D cI cZ ad (pv_A ad) 0 [(0, .ref (ad 8)), (1, .int p0), (2, .int p1), (3, .int p2)] [] σ := by
  unfold f_X8_note at h
  refine x_aload_n C dX8_note_0 rfl 0 rfl ?_
  refine x_iload_n C dX8_note_1 rfl 1 rfl ?_
  refine x_iload_n C dX8_note_2 rfl 2 rfl ?_
  refine x_iload_n C dX8_note_3 rfl 3 rfl ?_
  obtain ⟨q1, eq1, h⟩ := gb_some h
  refine x_vi (st := []) C kY_X8_isNoteOf 8 8 rfl rfl rfl (m_X8_isNoteOf l D cI cZ ad C.2.2.2.2.2.2.1 p0 p1 p2 σ q1 eq1) kl_X8_145 ⟨rfl, rfl⟩ ⟨Nat.le_of_ble_eq_true rfl, Nat.le_of_ble_eq_true rfl⟩ ⟨Nat.zero_le _, Nat.zero_le _⟩ rfl rfl (Nat.le_of_ble_eq_true rfl) dX8_note_4 ?_
  refine x_if_ne C 13 dX8_note_7 (by decide) (fun c2 => ?_) (fun c2 => ?_)
  · have h := (if_neg c2).symm.trans h
    refine x_aload_n C dX8_note_13 rfl 0 rfl ?_
    refine xg_X8_7 C dX8_note_14 ?_
    refine x_iconst (v := 0) C dX8_note_17 (by decide) ?_
    obtain ⟨g3, h⟩ := gd_some h
    refine xl_13 C g3 dX8_note_18 ?_
    refine x_bipush (v := 10) C dX8_note_19 (by decide) ?_
    refine x_icmp_ne C 27 dX8_note_21 (by decide) (fun c4 => ?_) (fun c4 => ?_)
    · have h := (if_neg c4).symm.trans h
      refine x_aload_n C dX8_note_27 rfl 0 rfl ?_
      obtain ⟨q5, eq5, h⟩ := gb_some h
      refine x_vv (st := []) C kY_X8_remember 8 8 rfl rfl rfl (m_X8_remember l D cI cZ ad C.2.2.2.2.2.2.1 q1.2 q5 eq5) kl_X8_150 ⟨rfl, rfl⟩ ⟨Nat.le_of_ble_eq_true rfl, Nat.le_of_ble_eq_true rfl⟩ ⟨Nat.zero_le _, Nat.zero_le _⟩ rfl rfl (Nat.le_of_ble_eq_true rfl) dX8_note_28 ?_
      refine x_aload_n C dX8_note_31 rfl 0 rfl ?_
      refine x_iload_n C dX8_note_32 rfl 1 rfl ?_
      refine x_iload_n C dX8_note_33 rfl 2 rfl ?_
      refine x_iload_n C dX8_note_34 rfl 3 rfl ?_
      obtain ⟨q6, eq6, h⟩ := gb_some h
      refine x_vi (st := []) C kY_X8_add 8 8 rfl rfl rfl (m_X8_add l D cI cZ ad C.2.2.2.2.2.2.1 p0 p1 p2 q5 q6 eq6) kl_X8_153 ⟨rfl, rfl⟩ ⟨Nat.le_of_ble_eq_true rfl, Nat.le_of_ble_eq_true rfl⟩ ⟨Nat.zero_le _, Nat.zero_le _⟩ rfl rfl (Nat.le_of_ble_eq_true rfl) dX8_note_35 ?_
      exact x_iret C hr dX8_note_38 (Option.some.inj h)
    · have h := (if_pos c4).symm.trans h
      refine x_ldc C kc_X8_149 dX8_note_24 ?_
      exact x_iret C hr dX8_note_26 (Option.some.inj h)
  · have h := (if_pos c2).symm.trans h
    refine x_ldc C kc_X8_91 dX8_note_10 ?_
    exact x_iret C hr dX8_note_12 (Option.some.inj h)
theorem m_X8_note (l : Launch) (D : va_G) (cI cZ : ClassId) (ad : Nat → Nat) (hJ : pv_J ad) (p0 : Int32) (p1 : Int32) (p2 : Int32) (σ : pv_S) (R0 : (Int32 × pv_S)) (h : f_X8_note p0 p1 p2 σ = some R0) : Met l yX8_note (Cond.code yX8_note cX8_note 4 (some .int) :: lwG) r_X8_note (va_Pc [.ref (ad 8), .int p0, .int p1, .int p2] (pv_P D cI cZ ad σ)) (pv_QI D cI cZ ad R0) 0 0 (pv_A ad) := x_met (by decide) rfl hJ (Nat.le_of_ble_eq_true rfl) (fun p e s m args below meth c C hr => w_X8_note_0 C hr R0 p0 p1 p2 σ h)
abbrev r_X8_remove : Room := { frames := 1, cells := 0, slots := 0, locals := 21 }
set_option maxRecDepth 100000 in
set_option maxHeartbeats 4000000 in
theorem w_X8_remove_2 {p : Program} {l : Launch} {e : Env} {s : State} {m : MethodId} {args : Array Value} {below : List Frame} {meth : Method} {c : Code} {D : va_G} {cI cZ : ClassId} {ad : Nat → Nat} (C : pv_C p s m args meth c cX8_remove 3 RX8 D cI cZ ad (pv_A ad)) (hr : meth.sig.returnType = none) (R0 : pv_S) : ∀ (n : Nat) (v2 : Int32) (σ : pv_S), f_X8_remove_2 n v2 σ = some R0 → Wx p l e r_X8_remove s m args below meth c 0 0 (MQ below (pv_QV D cI cZ ad R0) args s 0 0 (pv_A ad)) 3 D cI cZ ad (pv_A ad) 2 [(0, .ref (ad 8)), (2, .int v2)] [] σ := by
  intro n
  induction n with
  | zero =>
    intro v2 σ h
    have h2 : (none : Option pv_S) = some R0 := h
    cases h2
  | succ n ih =>
    intro v2 σ h
    unfold f_X8_remove_2 at h
    refine x_iload_n C dX8_remove_2 rfl 1 rfl ?_
    refine x_aload_n C dX8_remove_3 rfl 0 rfl ?_
    refine xg_X8_7 C dX8_remove_4 ?_
    refine x_iconst (v := 0) C dX8_remove_7 (by decide) ?_
    obtain ⟨g1, h⟩ := gd_some h
    refine xl_13 C g1 dX8_remove_8 ?_
    refine x_iconst (v := 1) C dX8_remove_9 (by decide) ?_
    refine x_isub C dX8_remove_10 ?_
    refine x_icmp_ge C 80 dX8_remove_11 (by decide) (fun c2 => ?_) (fun c2 => ?_)
    · have h := (if_pos c2).symm.trans h
      refine x_aload_n C dX8_remove_80 rfl 0 rfl ?_
      refine xg_X8_7 C dX8_remove_81 ?_
      refine x_iconst (v := 0) C dX8_remove_84 (by decide) ?_
      refine x_dup2 C dX8_remove_85 rfl rfl ?_
      obtain ⟨g3, h⟩ := gd_some h
      refine xl_13 C g3 dX8_remove_86 ?_
      refine x_iconst (v := 1) C dX8_remove_87 (by decide) ?_
      refine x_isub C dX8_remove_88 ?_
      obtain ⟨g4, h⟩ := gd_some h
      refine xs_13 C g4 dX8_remove_89 ?_
      refine x_aload_n C dX8_remove_90 rfl 0 rfl ?_
      obtain ⟨q5, eq5, h⟩ := gb_some h
      refine x_vv (st := []) C kY_X8_part0 8 8 rfl rfl rfl (m_X8_part0 l D cI cZ ad C.2.2.2.2.2.2.1 (pv_sa σ 13 0 ((pv_la σ 13 0) - 1)) q5 eq5) kl_X8_142 ⟨rfl, rfl⟩ ⟨Nat.le_of_ble_eq_true rfl, Nat.le_of_ble_eq_true rfl⟩ ⟨Nat.zero_le _, Nat.zero_le _⟩ rfl rfl (Nat.le_of_ble_eq_true rfl) dX8_remove_91 ?_
      exact x_vret C hr dX8_remove_94 (Option.some.inj h)
    · have h := (if_neg c2).symm.trans h
      refine x_aload_n C dX8_remove_14 rfl 0 rfl ?_
      refine xg_X8_7 C dX8_remove_15 ?_
      refine x_bipush (v := 6) C dX8_remove_18 (by decide) ?_
      refine x_iload_n C dX8_remove_20 rfl 1 rfl ?_
      refine x_iadd C dX8_remove_21 ?_
      refine x_aload_n C dX8_remove_22 rfl 0 rfl ?_
      refine xg_X8_7 C dX8_remove_23 ?_
      refine x_bipush (v := 6) C dX8_remove_26 (by decide) ?_
      refine x_iload_n C dX8_remove_28 rfl 1 rfl ?_
      refine x_iadd C dX8_remove_29 ?_
      refine x_iconst (v := 1) C dX8_remove_30 (by decide) ?_
      refine x_iadd C dX8_remove_31 ?_
      obtain ⟨g6, h⟩ := gd_some h
      refine xl_13 C g6 dX8_remove_32 ?_
      obtain ⟨g7, h⟩ := gd_some h
      refine xs_13 C g7 dX8_remove_33 ?_
      refine x_aload_n C dX8_remove_34 rfl 0 rfl ?_
      refine xg_X8_7 C dX8_remove_35 ?_
      refine x_bipush (v := 16) C dX8_remove_38 (by decide) ?_
      refine x_iload_n C dX8_remove_40 rfl 1 rfl ?_
      refine x_iadd C dX8_remove_41 ?_
      refine x_aload_n C dX8_remove_42 rfl 0 rfl ?_
      refine xg_X8_7 C dX8_remove_43 ?_
      refine x_bipush (v := 16) C dX8_remove_46 (by decide) ?_
      refine x_iload_n C dX8_remove_48 rfl 1 rfl ?_
      refine x_iadd C dX8_remove_49 ?_
      refine x_iconst (v := 1) C dX8_remove_50 (by decide) ?_
      refine x_iadd C dX8_remove_51 ?_
      obtain ⟨g8, h⟩ := gd_some h
      refine xl_13 C g8 dX8_remove_52 ?_
      obtain ⟨g9, h⟩ := gd_some h
      refine xs_13 C g9 dX8_remove_53 ?_
      refine x_aload_n C dX8_remove_54 rfl 0 rfl ?_
      refine xg_X8_7 C dX8_remove_55 ?_
      refine x_bipush (v := 26) C dX8_remove_58 (by decide) ?_
      refine x_iload_n C dX8_remove_60 rfl 1 rfl ?_
      refine x_iadd C dX8_remove_61 ?_
      refine x_aload_n C dX8_remove_62 rfl 0 rfl ?_
      refine xg_X8_7 C dX8_remove_63 ?_
      refine x_bipush (v := 26) C dX8_remove_66 (by decide) ?_
      refine x_iload_n C dX8_remove_68 rfl 1 rfl ?_
      refine x_iadd C dX8_remove_69 ?_
      refine x_iconst (v := 1) C dX8_remove_70 (by decide) ?_
      refine x_iadd C dX8_remove_71 ?_
      obtain ⟨g10, h⟩ := gd_some h
      refine xl_13 C g10 dX8_remove_72 ?_
      obtain ⟨g11, h⟩ := gd_some h
      refine xs_13 C g11 dX8_remove_73 ?_
      refine x_iinc (v := (v2 + 1)) (lv' := [(2, .int (v2 + 1)), (0, .ref (ad 8))]) C 1 dX8_remove_74 rfl rfl (by decide) rfl ?_
      refine x_goto C 2 dX8_remove_77 (by decide) ?_
      refine x_sub [1, 0] rfl ?_
      exact ih (v2 + 1) (pv_sa (pv_sa (pv_sa σ 13 (6 + v2) (pv_la σ 13 ((6 + v2) + 1))) 13 (16 + v2) (pv_la (pv_sa σ 13 (6 + v2) (pv_la σ 13 ((6 + v2) + 1))) 13 ((16 + v2) + 1))) 13 (26 + v2) (pv_la (pv_sa (pv_sa σ 13 (6 + v2) (pv_la σ 13 ((6 + v2) + 1))) 13 (16 + v2) (pv_la (pv_sa σ 13 (6 + v2) (pv_la σ 13 ((6 + v2) + 1))) 13 ((16 + v2) + 1))) 13 ((26 + v2) + 1))) h
set_option maxRecDepth 100000 in
set_option maxHeartbeats 4000000 in
theorem w_X8_remove_0 {p : Program} {l : Launch} {e : Env} {s : State} {m : MethodId} {args : Array Value} {below : List Frame} {meth : Method} {c : Code} {D : va_G} {cI cZ : ClassId} {ad : Nat → Nat} (C : pv_C p s m args meth c cX8_remove 3 RX8 D cI cZ ad (pv_A ad)) (hr : meth.sig.returnType = none) (R0 : pv_S) (p0 : Int32) (σ : pv_S) (h : f_X8_remove p0 σ = some R0) : Wx p l e r_X8_remove s m args below meth c 0 0 (MQ below (pv_QV D cI cZ ad R0) args s 0 0 (pv_A ad)) 3 D cI cZ ad (pv_A ad) 0 [(0, .ref (ad 8)), (1, .int p0)] [] σ := by
  unfold f_X8_remove at h
  refine x_iload_n C dX8_remove_0 rfl 1 rfl ?_
  refine x_istore_n (lv' := [(2, .int p0), (0, .ref (ad 8)), (1, .int p0)]) C dX8_remove_1 rfl (by decide) rfl ?_
  refine x_sub [1, 0] rfl ?_
  exact w_X8_remove_2 C hr R0 pv_FU p0 σ h
theorem m_X8_remove (l : Launch) (D : va_G) (cI cZ : ClassId) (ad : Nat → Nat) (hJ : pv_J ad) (p0 : Int32) (σ : pv_S) (R0 : pv_S) (h : f_X8_remove p0 σ = some R0) : Met l yX8_remove (Cond.code yX8_remove cX8_remove 3 (none) :: lwG) r_X8_remove (va_Pc [.ref (ad 8), .int p0] (pv_P D cI cZ ad σ)) (pv_QV D cI cZ ad R0) 0 0 (pv_A ad) := x_met (by decide) rfl hJ (Nat.le_of_ble_eq_true rfl) (fun p e s m args below meth c C hr => w_X8_remove_0 C hr R0 p0 σ h)
