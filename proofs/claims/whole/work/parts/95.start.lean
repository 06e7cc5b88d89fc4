theorem pv_J_of {A : Nat → Prop} {cI cZ : ClassId} {ad : Nat → Nat} {σ : pv_S} (h : va_D A (pv_W cI cZ ad σ)) : pv_J ad ∧ ∀ k, k < 28 → A (ad k) := by
  have key : ∀ k, k < 28 → ∃ q : Nat × va_E, (pv_W cI cZ ad σ)[k]? = some q ∧ q.1 = ad k := fun k hk => by
    have hl : k < (pv_W cI cZ ad σ).length := hk
    have e := List.getElem?_eq_getElem hl
    exact ⟨_, e, (pv_W_key _ _ _ _ _ _ e).2⟩
  refine ⟨fun i j hi hj hij => ?_, fun k hk => ?_⟩
  · obtain ⟨x, h1, h2⟩ := key i hi
    obtain ⟨y, h3, h4⟩ := key j hj
    exact h.1 i j x y h1 h3 (by rw [h2, h4]; exact hij)
  · obtain ⟨x, h1, h2⟩ := key k hk
    rw [← h2]
    exact h.2 k x h1
set_option maxRecDepth 20000 in
theorem st_pv_gt {b : Nat} {s : State} {A : Nat → Prop} (hts : ∀ w ∈ lw_tbl, w.before #[Value.ref b] s = true) (hgv : (Jvm.Cond.and given_1 narrow_1).before #[Value.ref b] s = true) (hA : ∀ a : Nat, a < s.heap.size → ¬ A a) : ∃ t : Nat, va_Z RX6 "GREATEST_TERMS" "[I" (.ref t) A s s.heap ∧ va_T .int t 5 (fun j => .int (pv_gt j)) A s s.heap := by
  have hs := flat_of_before _ hgv
  have harr : (Cond.arrayOf (.static RX6 "GREATEST_TERMS" "[I") .int).before #[Value.ref b] s = true := hs _ (by decide +kernel)
  have hlen : (Term.length (.static RX6 "GREATEST_TERMS" "[I")).eval #[Value.ref b] s none [] s = some (.int (Int32.ofNat 5)) := va_eqt (hs _ (by decide +kernel))
  obtain ⟨t, ht, hT⟩ := va_Tof (f := fun j => .int (pv_gt j)) (N := 5) (by decide) harr hlen (fun j hj => by
    match j, hj with
    | 0, _ => exact va_eqt (hs _ (by decide +kernel))
    | 1, _ => exact va_eqt (hs _ (by decide +kernel))
    | 2, _ => exact va_eqt (hs _ (by decide +kernel))
    | 3, _ => exact va_eqt (hs _ (by decide +kernel))
    | 4, _ => exact va_eqt (hs _ (by decide +kernel))
    | j + 5, h9 => exact absurd h9 (by omega)) hA
  exact ⟨t, va_Zof (hts _ (List.mem_append_right _ (List.mem_append_right _ (List.mem_append_right _ (List.mem_append_left _ (List.mem_of_getElem? (i := 52) rfl)))))) (hts _ (List.mem_filter.mp kN_X6).1) ht hA, hT⟩
set_option maxRecDepth 20000 in
theorem st_pv_ft {b : Nat} {s : State} {A : Nat → Prop} (hts : ∀ w ∈ lw_tbl, w.before #[Value.ref b] s = true) (hgv : (Jvm.Cond.and given_1 narrow_1).before #[Value.ref b] s = true) (hA : ∀ a : Nat, a < s.heap.size → ¬ A a) : ∃ t : Nat, va_Z RX6 "FIRST_TERMS" "[I" (.ref t) A s s.heap ∧ va_T .int t 5 (fun j => .int (pv_ft j)) A s s.heap := by
  have hs := flat_of_before _ hgv
  have harr : (Cond.arrayOf (.static RX6 "FIRST_TERMS" "[I") .int).before #[Value.ref b] s = true := hs _ (by decide +kernel)
  have hlen : (Term.length (.static RX6 "FIRST_TERMS" "[I")).eval #[Value.ref b] s none [] s = some (.int (Int32.ofNat 5)) := va_eqt (hs _ (by decide +kernel))
  obtain ⟨t, ht, hT⟩ := va_Tof (f := fun j => .int (pv_ft j)) (N := 5) (by decide) harr hlen (fun j hj => by
    match j, hj with
    | 0, _ => exact va_eqt (hs _ (by decide +kernel))
    | 1, _ => exact va_eqt (hs _ (by decide +kernel))
    | 2, _ => exact va_eqt (hs _ (by decide +kernel))
    | 3, _ => exact va_eqt (hs _ (by decide +kernel))
    | 4, _ => exact va_eqt (hs _ (by decide +kernel))
    | j + 5, h9 => exact absurd h9 (by omega)) hA
  exact ⟨t, va_Zof (hts _ (List.mem_append_right _ (List.mem_append_left _ (List.mem_of_getElem? (i := 29) rfl)))) (hts _ (List.mem_filter.mp kN_X6).1) ht hA, hT⟩
theorem lt_n34 : Cond.methodLinkNest RX7 34 yX2_init RX7 ∈ lw_tbl := (List.mem_append_right _ (List.mem_append_left _ (List.mem_of_getElem? (i := 96) rfl)))
theorem lt_n41 : Cond.methodLinkNest RX7 41 yX3_init RX7 ∈ lw_tbl := (List.mem_append_right _ (List.mem_append_left _ (List.mem_of_getElem? (i := 112) rfl)))
theorem lt_n48 : Cond.methodLinkNest RX7 48 yX0_init RX7 ∈ lw_tbl := (List.mem_append_right _ (List.mem_append_left _ (List.mem_of_getElem? (i := 129) rfl)))
theorem lt_n55 : Cond.methodLinkNest RX7 55 yX1_init RX7 ∈ lw_tbl := (List.mem_append_right _ (List.mem_append_left _ (List.mem_of_getElem? (i := 145) rfl)))
theorem lt_n98 : Cond.methodLinkNest RX5 98 yX7_isVoiceCount RX7 ∈ lw_tbl := (List.mem_append_right _ (List.mem_append_right _ (List.mem_append_left _ (List.mem_of_getElem? (i := 62) rfl))))
set_option maxRecDepth 100000 in
set_option maxHeartbeats 8000000 in
theorem whole_start {p : Program} {e : Env} {s : State} {m : MethodId} {below : List Frame} {meth : Method} {c : Code} (l : Launch) (hflags : l.flags = flags0) {b L : Nat} {xs : Nat → Int32} (hL : L ≤ 2560) (C0 : lw_At p s m meth c b L xs) : W p l e room_1 s m #[Value.ref b] below meth c s.heap [] 0 0 (lw_Z below #[Value.ref b] s) (entryFrame m ([Value.ref b] : List Value).toArray 4) := by
  obtain ⟨hx, hb, hr, hml, hown, hts, hX, hbl, hlocks, hgv⟩ := id C0
  have htsG : ∀ w ∈ lwG, w.before #[Value.ref b] s = true := fun w h => hts w (List.mem_filter.mp h).1
  have hA : ∀ q : Nat, s.heap.size ≤ q → (fun q : Nat => s.heap.size ≤ q) q := fun _ h => h
  have hA0 : ∀ a : Nat, a < s.heap.size → ¬ (fun q : Nat => s.heap.size ≤ q) a := fun a h => Nat.not_le.mpr h
  obtain ⟨c0, i0, k0⟩ := u_known (C := RX0) (T := TX0) (N := 3) (n := 3) htsG iGX0 (htsG _ kI_X0)
  obtain ⟨c1, i1, k1⟩ := u_known (C := RX1) (T := TX1) (N := 1) (n := 1) htsG iGX1 (htsG _ kI_X1)
  obtain ⟨c2, i2, k2⟩ := u_known (C := RX2) (T := TX2) (N := 3) (n := 3) htsG iGX2 (htsG _ kI_X2)
  obtain ⟨c3, i3, k3⟩ := u_known (C := RX3) (T := TX3) (N := 3) (n := 3) htsG iGX3 (htsG _ kI_X3)
  obtain ⟨c4, i4, k4⟩ := u_known (C := RX4) (T := TX4) (N := 4) (n := 4) htsG iGX4 (htsG _ kI_X4)
  obtain ⟨c5, i5, k5⟩ := u_known (C := RX5) (T := TX5) (N := 9) (n := 9) htsG iGX5 (htsG _ kI_X5)
  obtain ⟨c6, i6, k6⟩ := u_known (C := RX6) (T := TX6) (N := 2) (n := 2) htsG iGX6 (htsG _ kI_X6)
  obtain ⟨c7, i7, k7⟩ := u_known (C := RX7) (T := TX7) (N := 7) (n := 7) htsG iGX7 (htsG _ kI_X7)
  obtain ⟨c8, i8, k8⟩ := u_known (C := RX8) (T := TX8) (N := 11) (n := 11) htsG iGX8 (htsG _ kI_X8)
  obtain ⟨D, hDk⟩ : ∃ D : va_G, ∀ (k : Nat) (q : vw_C), vwCl[k]? = some q → u_Kn s q.1 q.2.1 q.2.2 (D.1 k) (D.2 k) := by
    refine ⟨(fun k => match k with
      | 0 => c0
      | 1 => c1
      | 2 => c2
      | 3 => c3
      | 4 => c4
      | 5 => c5
      | 6 => c6
      | 7 => c7
      | _ => c8, fun k => match k with
      | 0 => i0
      | 1 => i1
      | 2 => i2
      | 3 => i3
      | 4 => i4
      | 5 => i5
      | 6 => i6
      | 7 => i7
      | _ => i8), ?_⟩
    intro k q hq
    match k, hq with
    | 0, hq => cases hq; exact k0
    | 1, hq => cases hq; exact k1
    | 2, hq => cases hq; exact k2
    | 3, hq => cases hq; exact k3
    | 4, hq => cases hq; exact k4
    | 5, hq => cases hq; exact k5
    | 6, hq => cases hq; exact k6
    | 7, hq => cases hq; exact k7
    | 8, hq => cases hq; exact k8
    | k + 9, hq => simp [vwCl] at hq
  obtain ⟨cI, kI, mI, e1, e2, e3⟩ := Cond.arrayClass_spec (htsG _ kT_int)
  obtain ⟨cZ, kZ, mZ, f1, f2, f3⟩ := Cond.arrayClass_spec (htsG _ kT_boolean)
  have hK : va_K D vwCl (pv_T cI cZ) s := by
    refine ⟨hDk, fun k q hq => ?_⟩
    match k, hq with
    | 0, hq => cases hq; exact ⟨fun n z => ⟨fun k h => (by cases h), kI, e2, mI, e3⟩, e1⟩
    | 1, hq => cases hq; exact ⟨fun n z => ⟨fun k h => (by cases h), kZ, f2, mZ, f3⟩, f1⟩
    | k + 2, hq => simp [pv_T] at hq
  have CN : pn_C p s m #[Value.ref b] meth c cL_law 4 RL D cI cZ (fun q => s.heap.size ≤ q) := ⟨hx, hb, hml, hown, htsG, hK, hlocks, hA⟩
  obtain ⟨R0, hR1, hf⟩ := law_true xs L hL
  have hl := lv_entry ([.ref b]) (n := 4) (Nat.le_of_ble_eq_true rfl)
  rw [lg_entry_eq]
  refine (show Wn p l e room_1 s m #[Value.ref b] below meth c 0 0 (lw_Z below #[Value.ref b] s) 4 D (fun q => s.heap.size ≤ q) 0 [(0, .ref b)] [] [] from ?_) s.heap [] _ (fun k q h => by simp at h) ⟨fun i j p q h => by simp at h, fun k q h => by simp at h⟩ va_S.rf hl
  refine n_new CN (ci := 7) (fs := [.null, .null, .null, .null, .null, .null, .null]) iGX7 tyX7 tyX7_ok kC_L_7 kI_X7 kN_X7 rfl (fun j hj => by match j, hj with
    | 0, _ => rfl
    | 1, _ => rfl
    | 2, _ => rfl
    | 3, _ => rfl
    | 4, _ => rfl
    | 5, _ => rfl
    | 6, _ => rfl
    | j + 7, h9 => exact absurd h9 (by omega)) ⟨Nat.le_of_ble_eq_true rfl, Nat.le_of_ble_eq_true rfl⟩ dL_law_0 (fun q0 => ?_)
  refine n_widen 1 7 (Nat.le_of_ble_eq_true rfl) (Nat.le_of_ble_eq_true rfl) ?_
  refine n_dup CN dL_law_3 rfl ?_
  refine n_call (st := [.ref q0]) (E := fun sz U => pv_F (va_A [(q0, .inr (7, [.null, .null, .null, .null, .null, .null, .null]))] sz) U U.heap ∧ va_Nw (.methodLinkNest RX7 34 yX2_init RX7) U ∧ va_Nw (.methodLinkNest RX7 41 yX3_init RX7) U ∧ va_Nw (.methodLinkNest RX7 48 yX0_init RX7) U ∧ va_Nw (.methodLinkNest RX7 55 yX1_init RX7) U) (wc := [(q0, .inr (7, [.null, .null, .null, .null, .null, .null, .null]))]) (wr := []) CN kY_X7_init [0] [] rfl rfl (by decide) (by decide) (by decide) (fun sz => m_X7_init l D cI cZ q0 sz) kl_L_9 ⟨rfl, rfl⟩ ⟨Nat.le_of_ble_eq_true rfl, Nat.le_of_ble_eq_true rfl⟩ ⟨Nat.le_of_ble_eq_true rfl, Nat.le_of_ble_eq_true rfl⟩ rfl rfl (Nat.le_of_ble_eq_true rfl) dL_law_4 (fun H locs hS hD U hU hW => ?_) (fun sz U g mk b q => ⟨pv_F_calling q.1, va_Nw.same rfl (u := U) (U := U.calling g mk b) rfl q.2.1, va_Nw.same rfl (u := U) (U := U.calling g mk b) rfl q.2.2.1, va_Nw.same rfl (u := U) (U := U.calling g mk b) rfl q.2.2.2.1, va_Nw.same rfl (u := U) (U := U.calling g mk b) rfl q.2.2.2.2⟩) (fun u => ?_)
  · obtain ⟨ft, hZ, hT⟩ := st_pv_ft hts hgv hA0
    have hsub : ∀ q, va_A [(q0, .inr (7, [.null, .null, .null, .null, .null, .null, .null]))] H.size q → (fun q : Nat => s.heap.size ≤ q) q := va_free (wc := [(q0, .inr (7, [.null, .null, .null, .null, .null, .null, .null]))]) hD hS hA [0] rfl
    rw [hU]
    exact ⟨⟨ft, ((hZ.kept hS.2.1).narrow hsub).moved hW.alike, ((hT.kept hS.2.1).narrow hsub).moved hW.alike⟩, va_Nw.warmM hW (va_Nw.of rfl (hts _ lt_n34)), va_Nw.warmM hW (va_Nw.of rfl (hts _ lt_n41)), va_Nw.warmM hW (va_Nw.of rfl (hts _ lt_n48)), va_Nw.warmM hW (va_Nw.of rfl (hts _ lt_n55))⟩
  refine n_widen 21 2115 (Nat.le_of_ble_eq_true rfl) (Nat.le_of_ble_eq_true rfl) ?_
  refine n_astore (lv' := [(1, .ref q0), (0, .ref b)]) CN dL_law_7 rfl (by decide) rfl ?_
  refine n_new CN (ci := 8) (fs := [.null, .int 0, .int 0, .int 0, .null, .null, .null, .int 0, .null, .null, .int 0]) iGX8 tyX8 tyX8_ok kC_L_10 kI_X8 kN_X8 rfl (fun j hj => by match j, hj with
    | 0, _ => rfl
    | 1, _ => rfl
    | 2, _ => rfl
    | 3, _ => rfl
    | 4, _ => rfl
    | 5, _ => rfl
    | 6, _ => rfl
    | 7, _ => rfl
    | 8, _ => rfl
    | 9, _ => rfl
    | 10, _ => rfl
    | j + 11, h9 => exact absurd h9 (by omega)) ⟨Nat.le_of_ble_eq_true rfl, Nat.le_of_ble_eq_true rfl⟩ dL_law_8 (fun q8 => ?_)
  refine n_widen 22 2126 (Nat.le_of_ble_eq_true rfl) (Nat.le_of_ble_eq_true rfl) ?_
  refine n_dup CN dL_law_11 rfl ?_
  refine n_call (st := [.ref q8]) (E := fun _ _ => True) (wc := [(q8, .inr (8, [.null, .int 0, .int 0, .int 0, .null, .null, .null, .int 0, .null, .null, .int 0]))]) (wr := [(q0, .inr (7, [.ref (u 1), .ref (u 2), .ref (u 3), .ref (u 4), .ref (u 5), .ref (u 6), .ref (u 7)])), (u 1, .inr (6, [.ref (u 9), .int 0])), (u 9, .inl (cI, 46, .inl (va_cpy pv_ft (fun _ => 0) 0 1 5))), (u 2, .inr (4, [.ref (u 1), .ref (u 10), .ref (u 11), .int 0])), (u 10, .inl (cI, 10, .inl (fun _ => 0))), (u 11, .inl (cI, 10, .inl (fun _ => 0))), (u 3, .inr (5, [.ref (u 1), .ref (u 12), .ref (u 13), .ref (u 14), .ref (u 15), .int 0, .int 0, .int (-1), .int (-1)])), (u 12, .inl (cI, 100, .inl (fun _ => 0))), (u 13, .inl (cI, 1024, .inl (fun _ => 0))), (u 14, .inl (cI, 11, .inl (fun _ => 0))), (u 15, .inl (cI, 10, .inl (fun _ => 0))), (u 4, .inr (2, [.ref (u 16), .int 0, .int 0])), (u 16, .inl (cI, 736, .inl (fun _ => 0))), (u 5, .inr (3, [.ref (u 17), .ref (u 18), .ref (u 19)])), (u 17, .inl (cI, 92, .inl (fun _ => 0))), (u 18, .inl (cI, 2, .inl (fun _ => 0))), (u 19, .inl (cZ, 2, .inl (fun _ => 0))), (u 6, .inr (0, [.ref (u 20), .ref (u 21), .int 0])), (u 20, .inl (cI, 20, .inl (fun _ => 0))), (u 21, .inl (cI, 20, .inl (fun _ => 0))), (u 7, .inr (1, [.int 0]))]) CN kY_X8_init [21] [0, 1, 2, 3, 4, 5, 6, 7, 8, 9, 10, 11, 12, 13, 14, 15, 16, 17, 18, 19, 20] rfl rfl (by decide) (by decide) (by decide) (fun sz => m_X8_init l D cI cZ q8 sz) kl_L_12 ⟨rfl, rfl⟩ ⟨Nat.le_of_ble_eq_true rfl, Nat.le_of_ble_eq_true rfl⟩ ⟨Nat.le_of_ble_eq_true rfl, Nat.le_of_ble_eq_true rfl⟩ rfl rfl (Nat.le_of_ble_eq_true rfl) dL_law_12 (fun _ _ _ _ _ _ _ => trivial) (fun _ _ _ _ _ _ => trivial) (fun v => ?_)
  refine n_widen 28 14316 (Nat.le_of_ble_eq_true rfl) (Nat.le_of_ble_eq_true rfl) ?_
  refine n_astore (lv' := [(2, .ref q8), (1, .ref q0), (0, .ref b)]) CN dL_law_15 rfl (by decide) rfl ?_
  refine n_iconst (v := 0) CN dL_law_16 (by decide) ?_
  refine n_istore (lv' := [(3, .int 0), (2, .ref q8), (1, .ref q0), (0, .ref b)]) CN dL_law_17 rfl (by decide) rfl ?_
  obtain ⟨ad, hade⟩ : ∃ ad : Nat → Nat, ad = (fun k => [q0, u 1, u 2, u 3, u 4, u 5, u 6, u 7, q8, u 9, u 10, u 11, u 12, u 13, u 14, u 15, u 16, u 17, u 18, u 19, u 20, u 21, v 22, v 23, v 24, v 25, v 26, v 27].getD k 0) := ⟨_, rfl⟩
  intro H locs ls hP hD hS h
  have hP2 : va_P D vwCl (pv_W cI cZ ad pv_s0) H := by rw [hade]; exact hP.sub [0, 1, 3, 6, 11, 13, 17, 20, 21, 2, 4, 5, 7, 8, 9, 10, 12, 14, 15, 16, 18, 19, 22, 23, 24, 25, 26, 27] rfl
  have hD2 : va_D (fun q : Nat => s.heap.size ≤ q) (pv_W cI cZ ad pv_s0) := by rw [hade]; exact hD.sub [0, 1, 3, 6, 11, 13, 17, 20, 21, 2, 4, 5, 7, 8, 9, 10, 12, 14, 15, 16, 18, 19, 22, 23, 24, 25, 26, 27] (by decide) rfl
  have e0 : q0 = ad 0 := by rw [hade]; rfl
  have e8 : q8 = ad 8 := by rw [hade]; rfl
  obtain ⟨hJ, hAA⟩ := pv_J_of hD2
  obtain ⟨gt, hZ, hT⟩ := st_pv_gt hts hgv hA0
  have CX : pv_C p s m #[Value.ref b] meth c cL_law 4 RL D cI cZ ad (fun q => s.heap.size ≤ q) := ⟨hx, hb, hml, hown, htsG, hK, hJ, hAA, hlocks, va_Nw.of rfl (hts _ lt_n98), gt, hZ, hT⟩
  rw [e0, e8] at h
  exact w_L_law CX hr hX hbl R0 hR1 pv_FU 0 pv_s0 hf H locs ls hP2 hS (lv_sub h [3, 2, 1, 0] rfl)
-- ===== YOUR PART ENDS =====
set_option maxHeartbeats 4000000 in
theorem lw_walk (l : Launch) (hflags : l.flags = flags0) (b : Addr) (xs : List Int32) : MetFree l x (headSpec (Jvm.Cond.code x code maxLocals ret :: tables_1) room_1) (lw_P b xs) (fun _ _ _ _ _ => True) lw_Q := by
  refine MetFree.of_bodyS (code := code) (maxLocals := maxLocals) (ret := ret) (by decide) ?_ ?_
  · intro args s m h hn
    obtain ⟨meth, c, h1, h2, h3, h4, h5, h6, -, -⟩ := Cond.code_spec hn (atoms_spec (ws := Jvm.Cond.code x code maxLocals ret :: tables_1) h _ List.mem_cons_self)
    exact ⟨meth, c, h1, h2, h3, h4, h5, h6⟩
  · intro p e s m args below meth c s₁ B hml0 hP _
    obtain ⟨rfl, hx, hbd, hgv⟩ := hP
    obtain ⟨scr, harrAt, hlist, hof, hsmall⟩ := hx
    obtain ⟨hcb, hkn, -, -⟩ := State.arrayAt?_spec harrAt
    have hown : s.vm.findClass R_law = some m.cls := findClass_of_methodNamed B.named
    have hts0 : ∀ c ∈ (Jvm.Cond.code x code maxLocals ret :: tables_1), c.before #[Value.ref b] s = true := atoms_spec (ws := Jvm.Cond.code x code maxLocals ret :: tables_1) B.pre
    have hts : ∀ w ∈ lw_tbl, w.before #[Value.ref b] s = true := k2_hts_sels lw_privs (fun w hw => hts0 w (List.mem_cons_of_mem _ hw)) lw_privs_ok
    have hml : c.maxLocals = 4 := B.maxLocals_eq (hts0 _ List.mem_cons_self)
    have X₀ : Stand p l e room_1 s m #[Value.ref b] below meth c s₁ [] 0 0 := Stand.of_body B
    have hh0 : s₁.heap = s.heap := by rw [B.state]; rfl
    have hsz : scr.slots.size = xs.length := by rw [← Array.length_toList, hlist, List.length_map]
    have hval : ∀ j : Nat, j < xs.length → scr.slots[j]? = some (.int (xs.getD j 0)) := fun j hj => by
      rw [← Array.getElem?_toList, hlist]
      simp [hj]
    have hbl : b < s.heap.size := (Array.getElem?_eq_some_iff.mp hcb).1
    have hX : va_X b xs.length (fun j => xs.getD j 0) s s.heap := ⟨scr, hcb, hof, hkn, hsz, hval⟩
    have K : W p l e room_1 s m #[Value.ref b] below meth c s₁.heap [] 0 0 (lw_Z below #[Value.ref b] s) (entryFrame m ([Value.ref b] : List Value).toArray 4) := by
      rw [hh0]
      exact whole_start l hflags hbd ⟨B.exec, B.bytes, B.returns, hml, hown, hts, hX, hbl, B.notSynchronized, hgv⟩
    obtain ⟨t, a1, o, b1, b2, b3⟩ := K s₁ rfl X₀
    exact ⟨t, o, a1, b1, b2, b3⟩
theorem lw_pre_spec {args : Array Value} {s : State} (h : (Jvm.Cond.and given_1 narrow_1).before args s = true) (hr : rest_1_c.before args s = true) : ∃ (b : Addr) (xs : List Int32), lw_P b xs args s := by
  have hs := flat_of_before _ h
  have hq := flat_of_before _ hr
  have hc : (Cond.count 1).before args s = true := hs _ (by decide +kernel)
  have harr : (Cond.arrayOf (.arg 0) .int).before args s = true := hs _ (by decide +kernel)
  have hle : (Cond.le (.length (.arg 0)) (.int 2560)).before args s = true := hs _ (by decide +kernel)
  have hlen : (Cond.isInt (.length (.arg 0))).before args s = true := hq _ (by decide +kernel)
  have hall : (Cond.all (.arg 0) (.isInt (.elem (.arg 0) (.index 0)))).before args s = true := hq _ (by decide +kernel)
  obtain ⟨b, xs, hb, hx⟩ := State.ints_of_pre rfl harr hlen hall
  have hsm : xs.length < 2 ^ 31 := hx.choose_spec.2.2.2
  have hev : (Term.length (.arg 0)).eval args s none [] s = some (.int xs.length.toInt32) := hx.length_eval hb
  have hv := Cond.le_ints hev (show (Term.int 2560).eval args s none [] s = some (.int 2560) from rfl)
  have hd : xs.length.toInt32 ≤ 2560 := by
    simpa [Cond.before, Cond.holds, hv] using hle
  have hN : xs.length ≤ 2560 := (Int32.ofNat_le_ofNat hsm (by decide)).mp (show Int32.ofNat xs.length ≤ Int32.ofNat 2560 from hd)
  exact ⟨b, xs, Cond.one_arg hc (show args[0]? = some (.ref b) from hb), hx, hN, h⟩
theorem lw_comes (l : Launch) (hflags : l.flags = flags0) : Comes l x (Jvm.Cond.code x code maxLocals ret :: tables_1) room_1 (fun tb e args s => Calls_1 tb e args s ∧ rest_1 tb e args s ∧ Pre_1 tb e args s)
    (fun _ _ args s o t => lw_Q args s o t) := by
  intro p e ha hc hk s m args below hf hfit hheap happ hpre
  obtain ⟨b, xs, hP⟩ := lw_pre_spec hpre.2.2 hpre.2.1
  obtain ⟨k, o, h1, h2, h3, hQ⟩ := lw_walk l hflags b xs p e ha hc hk s m args below hf ((Spec.applies_iff_loose hf).mp happ).1 hP trivial
  exact ⟨k, o, h1, h2, h3, hQ⟩
theorem lw_frame {s t : State} {o : Outcome} {args : Array Value} (h : Framed s o t [] 28 14316) :
    Framed s o t (fieldLocs frame_1_writes args s ++ arrayLocs frame_1_arrays args s ++ staticLocs frame_1_statics s) 28 14316 := h
theorem lw_limb (L : Cond) (hL : ∀ (args : Array Value) (s t : State), L.after args s (.returned (some (.int 1))) t = true) :
    ArmFor flags0 classFile x code maxLocals ret World_1 tables_1 room_1 Calls_1 rest_1 Pre_1
      (fun tb e a s o t => postC L tb e a s o t ∧ Framed s o t (fieldLocs frame_1_writes a s ++ arrayLocs frame_1_arrays a s ++ staticLocs frame_1_statics s) 28 14316) := by
  intro l hflags _ _ p e ha hc hk s m args below hf hfit hheap happ hpre
  obtain ⟨k, o, h1, h2, h3, rfl, hF⟩ := lw_comes l hflags p e ha hc hk s m args below hf hfit hheap happ hpre
  exact ⟨k, _, h1, h2, h3, hL args s _, lw_frame hF⟩
theorem i_vc : Claimed_1_1 ∧ Claimed_1_2 := ⟨lw_limb limb_1_1 (fun args s t => by simp [limb_1_1, Cond.after, Cond.holds, Cond.value]), lw_limb limb_1_2 (fun args s t => Cond.after_iff.mpr (by
  first | (rw [show limb_1_2 = Cond.eq .result (.int 1) from rfl, Cond.eq_ints (x := 1) (y := 1) rfl rfl]; simp; done) | (simp [limb_1_2, Cond.value, Term.eval]; done)))⟩

