/-! the first terms, out of their table -/
def pv_ft (k : Nat) : Int32 := match k with
  | 0 => 1
  | 1 => 1
  | 2 => 10
  | 3 => 20
  | _ => 16
def pv_F (A : Nat → Prop) (U : State) (H : Heap) : Prop := ∃ ft : Nat, va_Z RX6 "FIRST_TERMS" "[I" (.ref ft) A U H ∧ va_T .int ft 5 (fun j => .int (pv_ft j)) A U H
section PVM
variable {p : Program} {l : Launch} {e : Env} {R : Room} {s : State} {m : MethodId} {args : Array Value} {below : List Frame} {meth : Method} {c : Code} {cells slots : Nat} {Q : State → Prop}
variable {cc : ByteArray} {nL : Nat} {own : String} {D : va_G} {cI cZ : ClassId} {A : Nat → Prop} {pc : Nat} {lv : List (Nat × Value)} {st : List Value} {w w' : va_W}
theorem n_fterm (C : pn_C p s m args meth c cc nL own D cI cZ A) (hF : pv_F A s s.heap) {index : Nat} (hlink : Cond.fieldLink own index RX6 "FIRST_TERMS" "[I" ∈ lwG) (hdg : decode cc pc = .ok (.getstatic index, 3)) (kk : ∀ ft : Nat, va_T .int ft 5 (fun j => .int (pv_ft j)) A s s.heap → Wn p l e R s m args below meth c cells slots Q nL D A (pc + 3) lv (.ref ft :: st) w) : Wn p l e R s m args below meth c cells slots Q nL D A pc lv st w := fun H locs ls hP hD hS h => by
  obtain ⟨ft, hZ, hT⟩ := hF
  exact va_gets C.1 C.2.1 hZ hS C.2.2.2.1 (C.2.2.2.2.1 _ hlink) (fun _ h9 => h9) hdg (kk ft hT H locs ls hP hD hS h)
/-- five ints out of a table that nobody writes -/
theorem n_copyT (C : pn_C p s m args meth c cc nL own D cI cZ A) (q1 : Nat) {index b0 n1 a : Nat} {f g : Nat → Int32} {sp dp n : Int32} (hX : va_T .int b0 5 (fun j => .int (f j)) A s s.heap) (he : w[q1]? = some (a, .inl (cI, n1, .inl g))) (hlink : Cond.methodLink own index arraycopyName ∈ lwG) (hg : ¬ sp < 0 ∧ ¬ dp < 0 ∧ ¬ n < 0 ∧ sp.toNatClampNeg + n.toNatClampNeg ≤ 5 ∧ dp.toNatClampNeg + n.toNatClampNeg ≤ n1) (hR : 1 ≤ R.frames ∧ (st.map fun v => v.category).sum + (nativeFrameWords "java/lang/System" "arraycopy" 5 + 11) ≤ R.locals) (hw : w.set q1 (a, .inl (cI, n1, .inl (va_cpy f g sp.toNatClampNeg dp.toNatClampNeg n.toNatClampNeg))) = w') (hdg : decode cc pc = .ok (.invokestatic index, 3)) (kk : Wn p l e R s m args below meth c cells slots Q nL D A (pc + 3) lv st w') : Wn p l e R s m args below meth c cells slots Q nL D A pc lv (.int n :: .int dp :: .ref a :: .int sp :: .ref b0 :: st) w := fun H locs ls hP hD hS h T hT X => by
  obtain ⟨g1, g2, g3, g4, g5⟩ := hg
  have toI : ∀ z : Int32, ¬ z < 0 → z.toInt = (z.toNatClampNeg : Int) := fun z hz => by
    have z0 : (0 : Int) ≤ z.toInt := by simpa using Int32.le_iff_toInt_le.mp (Int32.not_lt.mp hz)
    exact (Int.toNat_of_nonneg z0).symm
  obtain ⟨scr, t1, ⟨t2, k0, t3, cm0, t4⟩, t5, t6, -, t7, t8⟩ := hX
  have src : H[b0]? = some scr := (hS.2.1 b0 (Array.getElem?_eq_some_iff.mp t1).1 t8).trans t1
  have dst : H[a]? = some (vp_cell cI (n1, .inl g)) := hP q1 _ he
  have inH : a < H.size := (Array.getElem?_eq_some_iff.mp dst).1
  obtain ⟨-, k1, u1, cm1, u2⟩ := (C.2.2.2.2.2.1.2 0 _ rfl).1 n1 (fun j => .int (g j))
  have val : ∀ i, i < n.toNatClampNeg → scr.slots.getD (sp.toNatClampNeg + i) .null = .int (f (sp.toNatClampNeg + i)) := fun i hi => by
    rw [Array.getD_eq_getD_getElem?, t7 _ (by omega)]; rfl
  obtain ⟨vm', X', step⟩ := X.arraycopy C.1 C.2.2.2.1 (C.2.2.2.2.1 _ hlink) (C.2.2.2.2.1 _ kA_nat) (C.2.2.2.2.1 _ kA_stat) (C.2.2.2.2.1 _ kA_init) (src := b0) (dst := a) (cs := scr) (cd := vp_cell cI (n1, .inl g)) (srcPos := sp) (destPos := dp) (n := n) (by rw [hT]; exact src) (by rw [hT]; exact dst)
    t2 (fun _ q => by cases q) t5 (fun q => by cases q) t3 u1 t4 u2 (by simp [refKind]) g1 g2 g3
    (by rw [toI sp g1, toI n g3]; omega)
    (by rw [toI dp g2, toI n g3]; show ¬ _ > ((arrV cI n1 (fun j => .int (g j))).slots.size : Int); rw [arrV_size]; omega)
    (fun _ _ i hi => by rw [val i hi]; exact ⟨rfl, trivial⟩)
    (g := F0 m pc ls (.int n :: .int dp :: .ref a :: .int sp :: .ref b0 :: st)) rfl (by rw [C.2.2.1]; exact h.1) (rest := st) rfl (by rw [C.2.1]; exact hdg) hR.1 (by show 2 * 0 + _ + _ ≤ _; have := hR.2; omega)
  rw [show copied scr (vp_cell cI (n1, .inl g)) sp dp n = vp_cell cI (n1, .inl (va_cpy f g sp.toNatClampNeg dp.toNatClampNeg n.toNatClampNeg)) from va_copiedX (fun z => .int z) scr cI f g t7 g4] at X' step
  have other : ∀ q : Nat, q ≠ a → (H.setIfInBounds a (vp_cell cI (n1, .inl (va_cpy f g sp.toNatClampNeg dp.toNatClampNeg n.toNatClampNeg))))[q]? = H[q]? := fun q hq => by simp [Array.getElem?_setIfInBounds, Ne.symm hq]
  have hP2 := hP.set hD he (show va_at D vwCl (a, .inl (cI, n1, .inl (va_cpy f g sp.toNatClampNeg dp.toNatClampNeg n.toNatClampNeg))) (H.setIfInBounds a (vp_cell cI (n1, .inl (va_cpy f g sp.toNatClampNeg dp.toNatClampNeg n.toNatClampNeg)))) by show (H.setIfInBounds a _)[a]? = some _; simp [Array.getElem?_setIfInBounds, inH]) other
  have hD2 : va_D A (w.set q1 (a, .inl (cI, n1, .inl (va_cpy f g sp.toNatClampNeg dp.toNatClampNeg n.toNatClampNeg)))) := hD.set he
  rw [hw] at hP2 hD2
  obtain ⟨t, a1, b1⟩ := kk _ _ ls hP2 hD2 ⟨by simp; exact hS.1, fun q h1 h2 => by
      rw [other q (fun e9 => h2 (by rw [e9]; exact hD.2 q1 _ he))]
      exact hS.2.1 q h1 h2, fun q hq => by
      rcases List.mem_append.mp hq with h9 | h9
      · exact hS.2.2 q h9
      · obtain ⟨z, -, hz⟩ := List.mem_map.mp h9
        rw [← hz]
        exact hD.2 q1 _ he⟩ h _ (by rw [← hT]; rfl) X'
  exact ⟨t, step t a1, b1⟩
end PVM
theorem kO_inst : Cond.instanceMethod objectInit ∈ lwG := lwG_a 20 rfl rfl
theorem kO_code : Cond.code objectInit ⟨#[0xb1]⟩ 1 none ∈ lwG := lwG_a 21 rfl rfl
theorem kl_L_9 : Cond.methodLink RL 9 yX7_init ∈ lwG := lwG_a 16 rfl rfl
theorem kO_X7 : Cond.methodLink RX7 1 objectInit ∈ lwG := lwG_a 19 rfl rfl
theorem kl_X7_9 : Cond.methodLink RX7 9 yX6_init ∈ lwG := lwG_a 24 rfl rfl
theorem kO_X6 : Cond.methodLink RX6 5 objectInit ∈ lwG := lwG_a 27 rfl rfl
theorem kf_ft : Cond.fieldLink RX6 15 RX6 "FIRST_TERMS" "[I" ∈ lwG := lwG_a 28 rfl rfl
theorem kT_int : Cond.arrayClass .int ∈ lwG := lwG_a 40 rfl rfl
theorem kl_X7_18 : Cond.methodLink RX7 18 yX4_init ∈ lwG := lwG_a 43 rfl rfl
theorem kO_X4 : Cond.methodLink RX4 3 objectInit ∈ lwG := lwG_a 46 rfl rfl
theorem kl_X7_27 : Cond.methodLink RX7 27 yX5_init ∈ lwG := lwG_a 62 rfl rfl
theorem kO_X5 : Cond.methodLink RX5 3 objectInit ∈ lwG := lwG_a 65 rfl rfl
theorem kO_X2 : Cond.methodLink RX2 1 objectInit ∈ lwG := lwG_a 99 rfl rfl
theorem kO_X3 : Cond.methodLink RX3 1 objectInit ∈ lwG := lwG_a 115 rfl rfl
theorem kT_boolean : Cond.arrayClass .boolean ∈ lwG := lwG_a 126 rfl rfl
theorem kO_X0 : Cond.methodLink RX0 3 objectInit ∈ lwG := lwG_a 132 rfl rfl
theorem kO_X1 : Cond.methodLink RX1 1 objectInit ∈ lwG := lwG_a 148 rfl rfl
theorem kl_L_12 : Cond.methodLink RL 12 yX8_init ∈ lwG := lwG_c 188 rfl rfl
theorem kO_X8 : Cond.methodLink RX8 1 objectInit ∈ lwG := lwG_c 191 rfl rfl
theorem kC_L_7 : Cond.classLink RL 7 RX7 ∈ lwG := lwG_a 14 rfl rfl
theorem kI_X7 : Cond.instantiable RX7 7 ∈ lwG := lwG_a 15 rfl rfl
theorem kC_X7_7 : Cond.classLink RX7 7 RX6 ∈ lwG := lwG_a 22 rfl rfl
theorem kI_X6 : Cond.instantiable RX6 2 ∈ lwG := lwG_a 23 rfl rfl
theorem kC_X7_16 : Cond.classLink RX7 16 RX4 ∈ lwG := lwG_a 41 rfl rfl
theorem kI_X4 : Cond.instantiable RX4 4 ∈ lwG := lwG_a 42 rfl rfl
theorem kC_X7_25 : Cond.classLink RX7 25 RX5 ∈ lwG := lwG_a 60 rfl rfl
theorem kI_X5 : Cond.instantiable RX5 9 ∈ lwG := lwG_a 61 rfl rfl
theorem kC_X7_32 : Cond.classLink RX7 32 RX2 ∈ lwG := lwG_a 94 rfl rfl
theorem kI_X2 : Cond.instantiable RX2 3 ∈ lwG := lwG_a 95 rfl rfl
theorem kC_X7_39 : Cond.classLink RX7 39 RX3 ∈ lwG := lwG_a 110 rfl rfl
theorem kI_X3 : Cond.instantiable RX3 3 ∈ lwG := lwG_a 111 rfl rfl
theorem kC_X7_46 : Cond.classLink RX7 46 RX0 ∈ lwG := lwG_a 127 rfl rfl
theorem kI_X0 : Cond.instantiable RX0 3 ∈ lwG := lwG_a 128 rfl rfl
theorem kC_X7_53 : Cond.classLink RX7 53 RX1 ∈ lwG := lwG_a 143 rfl rfl
theorem kI_X1 : Cond.instantiable RX1 1 ∈ lwG := lwG_a 144 rfl rfl
theorem kC_L_10 : Cond.classLink RL 10 RX8 ∈ lwG := lwG_c 186 rfl rfl
theorem kI_X8 : Cond.instantiable RX8 11 ∈ lwG := lwG_c 187 rfl rfl
theorem kN_X7 : Cond.initialized RX7 ∈ lwG := lwG_a 1 rfl rfl
theorem kN_X6 : Cond.initialized RX6 ∈ lwG := lwG_a 2 rfl rfl
theorem kN_X4 : Cond.initialized RX4 ∈ lwG := lwG_a 4 rfl rfl
theorem kN_X5 : Cond.initialized RX5 ∈ lwG := lwG_a 5 rfl rfl
theorem kN_X2 : Cond.initialized RX2 ∈ lwG := lwG_a 6 rfl rfl
theorem kN_X3 : Cond.initialized RX3 ∈ lwG := lwG_a 7 rfl rfl
theorem kN_X0 : Cond.initialized RX0 ∈ lwG := lwG_a 8 rfl rfl
theorem kN_X1 : Cond.initialized RX1 ∈ lwG := lwG_a 9 rfl rfl
theorem kN_X8 : Cond.initialized RX8 ∈ lwG := lwG_a 10 rfl rfl
theorem kY_X7_init : pn_Y yX7_init cX7_init 1 0 := ⟨lwG_a 17 rfl rfl, lwG_a 1 rfl rfl, lwG_a 18 rfl rfl, rfl, by decide, by decide, by decide +kernel⟩
theorem kY_X6_init : pn_Y yX6_init cX6_init 1 0 := ⟨lwG_a 25 rfl rfl, lwG_a 2 rfl rfl, lwG_a 26 rfl rfl, rfl, by decide, by decide, by decide +kernel⟩
theorem kY_X4_init : pn_Y yX4_init cX4_init 2 1 := ⟨lwG_a 44 rfl rfl, lwG_a 4 rfl rfl, lwG_a 45 rfl rfl, rfl, by decide, by decide, by decide +kernel⟩
theorem kY_X5_init : pn_Y yX5_init cX5_init 2 1 := ⟨lwG_a 63 rfl rfl, lwG_a 5 rfl rfl, lwG_a 64 rfl rfl, rfl, by decide, by decide, by decide +kernel⟩
theorem kY_X2_init : pn_Y yX2_init cX2_init 1 0 := ⟨lwG_a 97 rfl rfl, lwG_a 6 rfl rfl, lwG_a 98 rfl rfl, rfl, by decide, by decide, by decide +kernel⟩
theorem kY_X3_init : pn_Y yX3_init cX3_init 1 0 := ⟨lwG_a 113 rfl rfl, lwG_a 7 rfl rfl, lwG_a 114 rfl rfl, rfl, by decide, by decide, by decide +kernel⟩
theorem kY_X0_init : pn_Y yX0_init cX0_init 1 0 := ⟨lwG_a 130 rfl rfl, lwG_a 8 rfl rfl, lwG_a 131 rfl rfl, rfl, by decide, by decide, by decide +kernel⟩
theorem kY_X1_init : pn_Y yX1_init cX1_init 1 0 := ⟨lwG_a 146 rfl rfl, lwG_a 9 rfl rfl, lwG_a 147 rfl rfl, rfl, by decide, by decide, by decide +kernel⟩
theorem kY_X8_init : pn_Y yX8_init cX8_init 1 0 := ⟨lwG_c 189 rfl rfl, lwG_a 10 rfl rfl, lwG_c 190 rfl rfl, rfl, by decide, by decide, by decide +kernel⟩
theorem pv_F_calling {A : Nat → Prop} {U : State} {g : JFrame} {mk : MethodId} {b : Array Value} (h : pv_F A U U.heap) : pv_F A (U.calling g mk b) (U.calling g mk b).heap := by
  obtain ⟨ft, h1, h2⟩ := h
  exact ⟨ft, h1.moved (u := U) (U := U.calling g mk b) (Vm.Alike.refl U.vm), h2.moved (u := U) (U := U.calling g mk b) (Vm.Alike.refl U.vm)⟩
section PVK
variable {p : Program} {l : Launch} {e : Env} {R : Room} {s : State} {m : MethodId} {args : Array Value} {below : List Frame} {meth : Method} {c : Code} {cells slots : Nat} {Q : State → Prop}
variable {cc : ByteArray} {nL : Nat} {own : String} {D : va_G} {cI cZ : ClassId} {A : Nat → Prop} {pc : Nat} {lv : List (Nat × Value)} {st : List Value} {w w' : va_W}
theorem n_new (C : pn_C p s m args meth c cc nL own D cI cZ A) {Cn : String} {T : u_T} {N ci idx : Nat} {fs : List Value} (hin : ∀ w ∈ u_ws Cn T N, w ∈ lwG) (ty : Nat → FieldType) (hty : ∀ k, k < N → parseFieldDescriptor (T k).2.2.1 = some (ty k)) (hcl : Cond.classLink own idx Cn ∈ lwG) (hinst : Cond.instantiable Cn N ∈ lwG) (hini : Cond.initialized Cn ∈ lwG) (hc : vwCl[ci]? = some (Cn, T, N)) (hfs : ∀ j, j < N → defaultValue (ty j) = vp_V fs j) (hR : cells + 1 ≤ R.cells ∧ slots + N ≤ R.slots) (hdg : decode cc pc = .ok (.new idx, 3)) (kk : ∀ q : Nat, Wn p l e R s m args below meth c (cells + 1) (slots + N) Q nL D A (pc + 3) lv (.ref q :: st) (w ++ [(q, .inr (ci, fs))])) : Wn p l e R s m args below meth c cells slots Q nL D A pc lv st w := fun H locs ls hP hD hS h =>
  va_new C.1 C.2.1 C.2.2.2.2.1 hin ty hty C.2.2.2.1 (C.2.2.2.2.1 _ hcl) (C.2.2.2.2.1 _ hinst) (C.2.2.2.2.1 _ hini) C.2.2.2.2.2.1 hP hD hS C.2.2.2.2.2.2.2 hc hfs hR.1 hR.2 hdg (fun q H1 hP hD hS => kk q H1 locs ls hP hD hS h)
end PVK
abbrev r_X0_init : Room := { frames := 1, cells := 2, slots := 40, locals := 12 }
set_option maxRecDepth 100000 in
set_option maxHeartbeats 4000000 in
theorem m_X0_init (l : Launch) (D : va_G) (cI cZ : ClassId) (h0 : Nat) (sz : Nat) : Met l yX0_init (Cond.code yX0_init cX0_init 1 none :: lwG) r_X0_init (va_Pc [.ref h0] (pn_P D cI cZ [(h0, .inr (0, [.null, .null, .int 0]))] sz (fun _ => True))) (va_Qv (fun _ : Nat → Nat => True) (fun u t => va_P D vwCl ((fun u => [(h0, .inr (0, [.ref (u 0), .ref (u 1), .int 0])), (u 0, .inl (cI, 20, .inl (fun _ => 0))), (u 1, .inl (cI, 20, .inl (fun _ => 0)))]) u) t.heap ∧ va_D (va_A [(h0, .inr (0, [.null, .null, .int 0]))] sz) ((fun u => [(h0, .inr (0, [.ref (u 0), .ref (u 1), .int 0])), (u 0, .inl (cI, 20, .inl (fun _ => 0))), (u 1, .inl (cI, 20, .inl (fun _ => 0)))]) u)) (va_A [(h0, .inr (0, [.null, .null, .int 0]))] sz)) 2 40 (va_A [(h0, .inr (0, [.null, .null, .int 0]))] sz) := by
  refine n_met (S := Nat → Nat) (B := fun u => [(h0, .inr (0, [.ref (u 0), .ref (u 1), .int 0])), (u 0, .inl (cI, 20, .inl (fun _ => 0))), (u 1, .inl (cI, 20, .inl (fun _ => 0)))]) (by decide) rfl rfl (Nat.le_of_ble_eq_true rfl) (fun p e s m args below meth c A hAe hszE C hin hr hE => ?_)
  subst hszE
  refine n_aload C dX0_init_0 rfl 0 rfl ?_
  refine n_obj C kO_X0 kO_inst kO_code dX0_init_1 ⟨Nat.le_of_ble_eq_true rfl, Nat.le_of_ble_eq_true rfl⟩ ?_
  refine n_aload C dX0_init_4 rfl 0 rfl ?_
  refine n_bipush (v := 20) C dX0_init_5 (by decide) ?_
  refine n_newi C 20 kT_int (by decide) (by decide) (Nat.le_of_ble_eq_true rfl) ⟨Nat.le_of_ble_eq_true rfl, Nat.le_of_ble_eq_true rfl⟩ dX0_init_7 (fun a1 => ?_)
  refine n_widen 1 20 (Nat.le_of_ble_eq_true rfl) (Nat.le_of_ble_eq_true rfl) ?_
  refine n_putF (w' := [(h0, .inr (0, [.ref a1, .null, .int 0])), (a1, .inl (cI, 20, .inl (fun _ => 0)))]) C hin 0 0 0 rfl rfl iGX0 (by decide) kf_X0_11 tyX0 tyX0_ok nmX0 rfl rfl (ty := .array .int) (by decide +kernel) rfl rfl (Nat.le_of_ble_eq_true rfl) rfl dX0_init_9 ?_
  refine n_aload C dX0_init_12 rfl 0 rfl ?_
  refine n_bipush (v := 20) C dX0_init_13 (by decide) ?_
  refine n_newi C 20 kT_int (by decide) (by decide) (Nat.le_of_ble_eq_true rfl) ⟨Nat.le_of_ble_eq_true rfl, Nat.le_of_ble_eq_true rfl⟩ dX0_init_15 (fun a2 => ?_)
  refine n_widen 2 40 (Nat.le_of_ble_eq_true rfl) (Nat.le_of_ble_eq_true rfl) ?_
  refine n_putF (w' := [(h0, .inr (0, [.ref a1, .ref a2, .int 0])), (a1, .inl (cI, 20, .inl (fun _ => 0))), (a2, .inl (cI, 20, .inl (fun _ => 0)))]) C hin 0 0 1 rfl rfl iGX0 (by decide) kf_X0_15 tyX0 tyX0_ok nmX0 rfl rfl (ty := .array .int) (by decide +kernel) rfl rfl (Nat.le_of_ble_eq_true rfl) rfl dX0_init_17 ?_
  exact n_ret (S := Nat → Nat) (B := fun u => [(h0, .inr (0, [.ref (u 0), .ref (u 1), .int 0])), (u 0, .inl (cI, 20, .inl (fun _ => 0))), (u 1, .inl (cI, 20, .inl (fun _ => 0)))]) C (fun k => [a1, a2].getD k 0) hr dX0_init_20 rfl
abbrev r_X1_init : Room := { frames := 1, cells := 0, slots := 0, locals := 12 }
set_option maxRecDepth 100000 in
set_option maxHeartbeats 4000000 in
theorem m_X1_init (l : Launch) (D : va_G) (cI cZ : ClassId) (h0 : Nat) (sz : Nat) : Met l yX1_init (Cond.code yX1_init cX1_init 1 none :: lwG) r_X1_init (va_Pc [.ref h0] (pn_P D cI cZ [(h0, .inr (1, [.int 0]))] sz (fun _ => True))) (va_Qv (fun _ : Nat → Nat => True) (fun u t => va_P D vwCl ((fun u => [(h0, .inr (1, [.int 0]))]) u) t.heap ∧ va_D (va_A [(h0, .inr (1, [.int 0]))] sz) ((fun u => [(h0, .inr (1, [.int 0]))]) u)) (va_A [(h0, .inr (1, [.int 0]))] sz)) 0 0 (va_A [(h0, .inr (1, [.int 0]))] sz) := by
  refine n_met (S := Nat → Nat) (B := fun u => [(h0, .inr (1, [.int 0]))]) (by decide) rfl rfl (Nat.le_of_ble_eq_true rfl) (fun p e s m args below meth c A hAe hszE C hin hr hE => ?_)
  subst hszE
  refine n_aload C dX1_init_0 rfl 0 rfl ?_
  refine n_obj C kO_X1 kO_inst kO_code dX1_init_1 ⟨Nat.le_of_ble_eq_true rfl, Nat.le_of_ble_eq_true rfl⟩ ?_
  exact n_ret (S := Nat → Nat) (B := fun u => [(h0, .inr (1, [.int 0]))]) C (fun k => [].getD k 0) hr dX1_init_4 rfl
abbrev r_X2_init : Room := { frames := 1, cells := 1, slots := 736, locals := 12 }
set_option maxRecDepth 100000 in
set_option maxHeartbeats 4000000 in
theorem m_X2_init (l : Launch) (D : va_G) (cI cZ : ClassId) (h0 : Nat) (sz : Nat) : Met l yX2_init (Cond.code yX2_init cX2_init 1 none :: lwG) r_X2_init (va_Pc [.ref h0] (pn_P D cI cZ [(h0, .inr (2, [.null, .int 0, .int 0]))] sz (fun _ => True))) (va_Qv (fun _ : Nat → Nat => True) (fun u t => va_P D vwCl ((fun u => [(h0, .inr (2, [.ref (u 0), .int 0, .int 0])), (u 0, .inl (cI, 736, .inl (fun _ => 0)))]) u) t.heap ∧ va_D (va_A [(h0, .inr (2, [.null, .int 0, .int 0]))] sz) ((fun u => [(h0, .inr (2, [.ref (u 0), .int 0, .int 0])), (u 0, .inl (cI, 736, .inl (fun _ => 0)))]) u)) (va_A [(h0, .inr (2, [.null, .int 0, .int 0]))] sz)) 1 736 (va_A [(h0, .inr (2, [.null, .int 0, .int 0]))] sz) := by
  refine n_met (S := Nat → Nat) (B := fun u => [(h0, .inr (2, [.ref (u 0), .int 0, .int 0])), (u 0, .inl (cI, 736, .inl (fun _ => 0)))]) (by decide) rfl rfl (Nat.le_of_ble_eq_true rfl) (fun p e s m args below meth c A hAe hszE C hin hr hE => ?_)
  subst hszE
  refine n_aload C dX2_init_0 rfl 0 rfl ?_
  refine n_obj C kO_X2 kO_inst kO_code dX2_init_1 ⟨Nat.le_of_ble_eq_true rfl, Nat.le_of_ble_eq_true rfl⟩ ?_
  refine n_aload C dX2_init_4 rfl 0 rfl ?_
  refine n_sipush (v := 736) C dX2_init_5 (by decide) ?_
  refine n_newi C 736 kT_int (by decide) (by decide) (Nat.le_of_ble_eq_true rfl) ⟨Nat.le_of_ble_eq_true rfl, Nat.le_of_ble_eq_true rfl⟩ dX2_init_8 (fun a1 => ?_)
  refine n_widen 1 736 (Nat.le_of_ble_eq_true rfl) (Nat.le_of_ble_eq_true rfl) ?_
  refine n_putF (w' := [(h0, .inr (2, [.ref a1, .int 0, .int 0])), (a1, .inl (cI, 736, .inl (fun _ => 0)))]) C hin 0 2 0 rfl rfl iGX2 (by decide) kf_X2_11 tyX2 tyX2_ok nmX2 rfl rfl (ty := .array .int) (by decide +kernel) rfl rfl (Nat.le_of_ble_eq_true rfl) rfl dX2_init_10 ?_
  exact n_ret (S := Nat → Nat) (B := fun u => [(h0, .inr (2, [.ref (u 0), .int 0, .int 0])), (u 0, .inl (cI, 736, .inl (fun _ => 0)))]) C (fun k => [a1].getD k 0) hr dX2_init_13 rfl
abbrev r_X3_init : Room := { frames := 1, cells := 3, slots := 96, locals := 12 }
set_option maxRecDepth 100000 in
set_option maxHeartbeats 4000000 in
theorem m_X3_init (l : Launch) (D : va_G) (cI cZ : ClassId) (h0 : Nat) (sz : Nat) : Met l yX3_init (Cond.code yX3_init cX3_init 1 none :: lwG) r_X3_init (va_Pc [.ref h0] (pn_P D cI cZ [(h0, .inr (3, [.null, .null, .null]))] sz (fun _ => True))) (va_Qv (fun _ : Nat → Nat => True) (fun u t => va_P D vwCl ((fun u => [(h0, .inr (3, [.ref (u 0), .ref (u 1), .ref (u 2)])), (u 0, .inl (cI, 92, .inl (fun _ => 0))), (u 1, .inl (cI, 2, .inl (fun _ => 0))), (u 2, .inl (cZ, 2, .inl (fun _ => 0)))]) u) t.heap ∧ va_D (va_A [(h0, .inr (3, [.null, .null, .null]))] sz) ((fun u => [(h0, .inr (3, [.ref (u 0), .ref (u 1), .ref (u 2)])), (u 0, .inl (cI, 92, .inl (fun _ => 0))), (u 1, .inl (cI, 2, .inl (fun _ => 0))), (u 2, .inl (cZ, 2, .inl (fun _ => 0)))]) u)) (va_A [(h0, .inr (3, [.null, .null, .null]))] sz)) 3 96 (va_A [(h0, .inr (3, [.null, .null, .null]))] sz) := by
  refine n_met (S := Nat → Nat) (B := fun u => [(h0, .inr (3, [.ref (u 0), .ref (u 1), .ref (u 2)])), (u 0, .inl (cI, 92, .inl (fun _ => 0))), (u 1, .inl (cI, 2, .inl (fun _ => 0))), (u 2, .inl (cZ, 2, .inl (fun _ => 0)))]) (by decide) rfl rfl (Nat.le_of_ble_eq_true rfl) (fun p e s m args below meth c A hAe hszE C hin hr hE => ?_)
  subst hszE
  refine n_aload C dX3_init_0 rfl 0 rfl ?_
  refine n_obj C kO_X3 kO_inst kO_code dX3_init_1 ⟨Nat.le_of_ble_eq_true rfl, Nat.le_of_ble_eq_true rfl⟩ ?_
  refine n_aload C dX3_init_4 rfl 0 rfl ?_
  refine n_bipush (v := 92) C dX3_init_5 (by decide) ?_
  refine n_newi C 92 kT_int (by decide) (by decide) (Nat.le_of_ble_eq_true rfl) ⟨Nat.le_of_ble_eq_true rfl, Nat.le_of_ble_eq_true rfl⟩ dX3_init_7 (fun a1 => ?_)
  refine n_widen 1 92 (Nat.le_of_ble_eq_true rfl) (Nat.le_of_ble_eq_true rfl) ?_
  refine n_putF (w' := [(h0, .inr (3, [.ref a1, .null, .null])), (a1, .inl (cI, 92, .inl (fun _ => 0)))]) C hin 0 3 0 rfl rfl iGX3 (by decide) kf_X3_11 tyX3 tyX3_ok nmX3 rfl rfl (ty := .array .int) (by decide +kernel) rfl rfl (Nat.le_of_ble_eq_true rfl) rfl dX3_init_9 ?_
  refine n_aload C dX3_init_12 rfl 0 rfl ?_
  refine n_iconst (v := 2) C dX3_init_13 (by decide) ?_
  refine n_newi C 2 kT_int (by decide) (by decide) (Nat.le_of_ble_eq_true rfl) ⟨Nat.le_of_ble_eq_true rfl, Nat.le_of_ble_eq_true rfl⟩ dX3_init_14 (fun a2 => ?_)
  refine n_widen 2 94 (Nat.le_of_ble_eq_true rfl) (Nat.le_of_ble_eq_true rfl) ?_
  refine n_putF (w' := [(h0, .inr (3, [.ref a1, .ref a2, .null])), (a1, .inl (cI, 92, .inl (fun _ => 0))), (a2, .inl (cI, 2, .inl (fun _ => 0)))]) C hin 0 3 1 rfl rfl iGX3 (by decide) kf_X3_15 tyX3 tyX3_ok nmX3 rfl rfl (ty := .array .int) (by decide +kernel) rfl rfl (Nat.le_of_ble_eq_true rfl) rfl dX3_init_16 ?_
  refine n_aload C dX3_init_19 rfl 0 rfl ?_
  refine n_iconst (v := 2) C dX3_init_20 (by decide) ?_
  refine n_newz C 2 kT_boolean (by decide) (by decide) (Nat.le_of_ble_eq_true rfl) ⟨Nat.le_of_ble_eq_true rfl, Nat.le_of_ble_eq_true rfl⟩ dX3_init_21 (fun a3 => ?_)
  refine n_widen 3 96 (Nat.le_of_ble_eq_true rfl) (Nat.le_of_ble_eq_true rfl) ?_
  refine n_putF (w' := [(h0, .inr (3, [.ref a1, .ref a2, .ref a3])), (a1, .inl (cI, 92, .inl (fun _ => 0))), (a2, .inl (cI, 2, .inl (fun _ => 0))), (a3, .inl (cZ, 2, .inl (fun _ => 0)))]) C hin 0 3 2 rfl rfl iGX3 (by decide) kf_X3_18 tyX3 tyX3_ok nmX3 rfl rfl (ty := .array .boolean) (by decide +kernel) rfl rfl (Nat.le_of_ble_eq_true rfl) rfl dX3_init_23 ?_
  exact n_ret (S := Nat → Nat) (B := fun u => [(h0, .inr (3, [.ref (u 0), .ref (u 1), .ref (u 2)])), (u 0, .inl (cI, 92, .inl (fun _ => 0))), (u 1, .inl (cI, 2, .inl (fun _ => 0))), (u 2, .inl (cZ, 2, .inl (fun _ => 0)))]) C (fun k => [a1, a2, a3].getD k 0) hr dX3_init_26 rfl
abbrev r_X4_init : Room := { frames := 1, cells := 2, slots := 20, locals := 12 }
set_option maxRecDepth 100000 in
set_option maxHeartbeats 4000000 in
theorem m_X4_init (l : Launch) (D : va_G) (cI cZ : ClassId) (h0 : Nat) (hs : Nat) (sz : Nat) : Met l yX4_init (Cond.code yX4_init cX4_init 2 none :: lwG) r_X4_init (va_Pc [.ref h0, .ref hs] (pn_P D cI cZ [(h0, .inr (4, [.null, .null, .null, .int 0]))] sz (fun _ => True))) (va_Qv (fun _ : Nat → Nat => True) (fun u t => va_P D vwCl ((fun u => [(h0, .inr (4, [.ref hs, .ref (u 0), .ref (u 1), .int 0])), (u 0, .inl (cI, 10, .inl (fun _ => 0))), (u 1, .inl (cI, 10, .inl (fun _ => 0)))]) u) t.heap ∧ va_D (va_A [(h0, .inr (4, [.null, .null, .null, .int 0]))] sz) ((fun u => [(h0, .inr (4, [.ref hs, .ref (u 0), .ref (u 1), .int 0])), (u 0, .inl (cI, 10, .inl (fun _ => 0))), (u 1, .inl (cI, 10, .inl (fun _ => 0)))]) u)) (va_A [(h0, .inr (4, [.null, .null, .null, .int 0]))] sz)) 2 20 (va_A [(h0, .inr (4, [.null, .null, .null, .int 0]))] sz) := by
  refine n_met (S := Nat → Nat) (B := fun u => [(h0, .inr (4, [.ref hs, .ref (u 0), .ref (u 1), .int 0])), (u 0, .inl (cI, 10, .inl (fun _ => 0))), (u 1, .inl (cI, 10, .inl (fun _ => 0)))]) (by decide) rfl rfl (Nat.le_of_ble_eq_true rfl) (fun p e s m args below meth c A hAe hszE C hin hr hE => ?_)
  subst hszE
  refine n_aload C dX4_init_0 rfl 0 rfl ?_
  refine n_obj C kO_X4 kO_inst kO_code dX4_init_1 ⟨Nat.le_of_ble_eq_true rfl, Nat.le_of_ble_eq_true rfl⟩ ?_
  refine n_aload C dX4_init_4 rfl 0 rfl ?_
  refine n_bipush (v := 10) C dX4_init_5 (by decide) ?_
  refine n_newi C 10 kT_int (by decide) (by decide) (Nat.le_of_ble_eq_true rfl) ⟨Nat.le_of_ble_eq_true rfl, Nat.le_of_ble_eq_true rfl⟩ dX4_init_7 (fun a1 => ?_)
  refine n_widen 1 10 (Nat.le_of_ble_eq_true rfl) (Nat.le_of_ble_eq_true rfl) ?_
  refine n_putF (w' := [(h0, .inr (4, [.null, .ref a1, .null, .int 0])), (a1, .inl (cI, 10, .inl (fun _ => 0)))]) C hin 0 4 1 rfl rfl iGX4 (by decide) kf_X4_9 tyX4 tyX4_ok nmX4 rfl rfl (ty := .array .int) (by decide +kernel) rfl rfl (Nat.le_of_ble_eq_true rfl) rfl dX4_init_9 ?_
  refine n_aload C dX4_init_12 rfl 0 rfl ?_
  refine n_bipush (v := 10) C dX4_init_13 (by decide) ?_
  refine n_newi C 10 kT_int (by decide) (by decide) (Nat.le_of_ble_eq_true rfl) ⟨Nat.le_of_ble_eq_true rfl, Nat.le_of_ble_eq_true rfl⟩ dX4_init_15 (fun a2 => ?_)
  refine n_widen 2 20 (Nat.le_of_ble_eq_true rfl) (Nat.le_of_ble_eq_true rfl) ?_
  refine n_putF (w' := [(h0, .inr (4, [.null, .ref a1, .ref a2, .int 0])), (a1, .inl (cI, 10, .inl (fun _ => 0))), (a2, .inl (cI, 10, .inl (fun _ => 0)))]) C hin 0 4 2 rfl rfl iGX4 (by decide) kf_X4_15 tyX4 tyX4_ok nmX4 rfl rfl (ty := .array .int) (by decide +kernel) rfl rfl (Nat.le_of_ble_eq_true rfl) rfl dX4_init_17 ?_
  refine n_aload C dX4_init_20 rfl 0 rfl ?_
  refine n_aload C dX4_init_21 rfl 1 rfl ?_
  refine n_putF (w' := [(h0, .inr (4, [.ref hs, .ref a1, .ref a2, .int 0])), (a1, .inl (cI, 10, .inl (fun _ => 0))), (a2, .inl (cI, 10, .inl (fun _ => 0)))]) C hin 0 4 0 rfl rfl iGX4 (by decide) kf_X4_18 tyX4 tyX4_ok nmX4 rfl rfl (ty := .object "PartedVoices$Score") (by decide +kernel) rfl rfl (Nat.le_of_ble_eq_true rfl) rfl dX4_init_22 ?_
  exact n_ret (S := Nat → Nat) (B := fun u => [(h0, .inr (4, [.ref hs, .ref (u 0), .ref (u 1), .int 0])), (u 0, .inl (cI, 10, .inl (fun _ => 0))), (u 1, .inl (cI, 10, .inl (fun _ => 0)))]) C (fun k => [a1, a2].getD k 0) hr dX4_init_25 rfl
abbrev r_X5_init : Room := { frames := 1, cells := 4, slots := 1145, locals := 12 }
set_option maxRecDepth 100000 in
set_option maxHeartbeats 4000000 in
theorem m_X5_init (l : Launch) (D : va_G) (cI cZ : ClassId) (h0 : Nat) (hs : Nat) (sz : Nat) : Met l yX5_init (Cond.code yX5_init cX5_init 2 none :: lwG) r_X5_init (va_Pc [.ref h0, .ref hs] (pn_P D cI cZ [(h0, .inr (5, [.null, .null, .null, .null, .null, .int 0, .int 0, .int 0, .int 0]))] sz (fun _ => True))) (va_Qv (fun _ : Nat → Nat => True) (fun u t => va_P D vwCl ((fun u => [(h0, .inr (5, [.ref hs, .ref (u 0), .ref (u 1), .ref (u 2), .ref (u 3), .int 0, .int 0, .int (-1), .int (-1)])), (u 0, .inl (cI, 100, .inl (fun _ => 0))), (u 1, .inl (cI, 1024, .inl (fun _ => 0))), (u 2, .inl (cI, 11, .inl (fun _ => 0))), (u 3, .inl (cI, 10, .inl (fun _ => 0)))]) u) t.heap ∧ va_D (va_A [(h0, .inr (5, [.null, .null, .null, .null, .null, .int 0, .int 0, .int 0, .int 0]))] sz) ((fun u => [(h0, .inr (5, [.ref hs, .ref (u 0), .ref (u 1), .ref (u 2), .ref (u 3), .int 0, .int 0, .int (-1), .int (-1)])), (u 0, .inl (cI, 100, .inl (fun _ => 0))), (u 1, .inl (cI, 1024, .inl (fun _ => 0))), (u 2, .inl (cI, 11, .inl (fun _ => 0))), (u 3, .inl (cI, 10, .inl (fun _ => 0)))]) u)) (va_A [(h0, .inr (5, [.null, .null, .null, .null, .null, .int 0, .int 0, .int 0, .int 0]))] sz)) 4 1145 (va_A [(h0, .inr (5, [.null, .null, .null, .null, .null, .int 0, .int 0, .int 0, .int 0]))] sz) := by
  refine n_met (S := Nat → Nat) (B := fun u => [(h0, .inr (5, [.ref hs, .ref (u 0), .ref (u 1), .ref (u 2), .ref (u 3), .int 0, .int 0, .int (-1), .int (-1)])), (u 0, .inl (cI, 100, .inl (fun _ => 0))), (u 1, .inl (cI, 1024, .inl (fun _ => 0))), (u 2, .inl (cI, 11, .inl (fun _ => 0))), (u 3, .inl (cI, 10, .inl (fun _ => 0)))]) (by decide) rfl rfl (Nat.le_of_ble_eq_true rfl) (fun p e s m args below meth c A hAe hszE C hin hr hE => ?_)
  subst hszE
  refine n_aload C dX5_init_0 rfl 0 rfl ?_
  refine n_obj C kO_X5 kO_inst kO_code dX5_init_1 ⟨Nat.le_of_ble_eq_true rfl, Nat.le_of_ble_eq_true rfl⟩ ?_
  refine n_aload C dX5_init_4 rfl 0 rfl ?_
  refine n_bipush (v := 100) C dX5_init_5 (by decide) ?_
  refine n_newi C 100 kT_int (by decide) (by decide) (Nat.le_of_ble_eq_true rfl) ⟨Nat.le_of_ble_eq_true rfl, Nat.le_of_ble_eq_true rfl⟩ dX5_init_7 (fun a1 => ?_)
  refine n_widen 1 100 (Nat.le_of_ble_eq_true rfl) (Nat.le_of_ble_eq_true rfl) ?_
  refine n_putF (w' := [(h0, .inr (5, [.null, .ref a1, .null, .null, .null, .int 0, .int 0, .int 0, .int 0])), (a1, .inl (cI, 100, .inl (fun _ => 0)))]) C hin 0 5 1 rfl rfl iGX5 (by decide) kf_X5_9 tyX5 tyX5_ok nmX5 rfl rfl (ty := .array .int) (by decide +kernel) rfl rfl (Nat.le_of_ble_eq_true rfl) rfl dX5_init_9 ?_
  refine n_aload C dX5_init_12 rfl 0 rfl ?_
  refine n_sipush (v := 1024) C dX5_init_13 (by decide) ?_
  refine n_newi C 1024 kT_int (by decide) (by decide) (Nat.le_of_ble_eq_true rfl) ⟨Nat.le_of_ble_eq_true rfl, Nat.le_of_ble_eq_true rfl⟩ dX5_init_16 (fun a2 => ?_)
  refine n_widen 2 1124 (Nat.le_of_ble_eq_true rfl) (Nat.le_of_ble_eq_true rfl) ?_
  refine n_putF (w' := [(h0, .inr (5, [.null, .ref a1, .ref a2, .null, .null, .int 0, .int 0, .int 0, .int 0])), (a1, .inl (cI, 100, .inl (fun _ => 0))), (a2, .inl (cI, 1024, .inl (fun _ => 0)))]) C hin 0 5 2 rfl rfl iGX5 (by decide) kf_X5_15 tyX5 tyX5_ok nmX5 rfl rfl (ty := .array .int) (by decide +kernel) rfl rfl (Nat.le_of_ble_eq_true rfl) rfl dX5_init_18 ?_
  refine n_aload C dX5_init_21 rfl 0 rfl ?_
  refine n_bipush (v := 11) C dX5_init_22 (by decide) ?_
  refine n_newi C 11 kT_int (by decide) (by decide) (Nat.le_of_ble_eq_true rfl) ⟨Nat.le_of_ble_eq_true rfl, Nat.le_of_ble_eq_true rfl⟩ dX5_init_24 (fun a3 => ?_)
  refine n_widen 3 1135 (Nat.le_of_ble_eq_true rfl) (Nat.le_of_ble_eq_true rfl) ?_
  refine n_putF (w' := [(h0, .inr (5, [.null, .ref a1, .ref a2, .ref a3, .null, .int 0, .int 0, .int 0, .int 0])), (a1, .inl (cI, 100, .inl (fun _ => 0))), (a2, .inl (cI, 1024, .inl (fun _ => 0))), (a3, .inl (cI, 11, .inl (fun _ => 0)))]) C hin 0 5 3 rfl rfl iGX5 (by decide) kf_X5_18 tyX5 tyX5_ok nmX5 rfl rfl (ty := .array .int) (by decide +kernel) rfl rfl (Nat.le_of_ble_eq_true rfl) rfl dX5_init_26 ?_
  refine n_aload C dX5_init_29 rfl 0 rfl ?_
  refine n_bipush (v := 10) C dX5_init_30 (by decide) ?_
  refine n_newi C 10 kT_int (by decide) (by decide) (Nat.le_of_ble_eq_true rfl) ⟨Nat.le_of_ble_eq_true rfl, Nat.le_of_ble_eq_true rfl⟩ dX5_init_32 (fun a4 => ?_)
  refine n_widen 4 1145 (Nat.le_of_ble_eq_true rfl) (Nat.le_of_ble_eq_true rfl) ?_
  refine n_putF (w' := [(h0, .inr (5, [.null, .ref a1, .ref a2, .ref a3, .ref a4, .int 0, .int 0, .int 0, .int 0])), (a1, .inl (cI, 100, .inl (fun _ => 0))), (a2, .inl (cI, 1024, .inl (fun _ => 0))), (a3, .inl (cI, 11, .inl (fun _ => 0))), (a4, .inl (cI, 10, .inl (fun _ => 0)))]) C hin 0 5 4 rfl rfl iGX5 (by decide) kf_X5_21 tyX5 tyX5_ok nmX5 rfl rfl (ty := .array .int) (by decide +kernel) rfl rfl (Nat.le_of_ble_eq_true rfl) rfl dX5_init_34 ?_
  refine n_aload C dX5_init_37 rfl 0 rfl ?_
  refine n_iconst (v := (-1)) C dX5_init_38 (by decide) ?_
  refine n_put (w' := [(h0, .inr (5, [.null, .ref a1, .ref a2, .ref a3, .ref a4, .int 0, .int 0, .int (-1), .int 0])), (a1, .inl (cI, 100, .inl (fun _ => 0))), (a2, .inl (cI, 1024, .inl (fun _ => 0))), (a3, .inl (cI, 11, .inl (fun _ => 0))), (a4, .inl (cI, 10, .inl (fun _ => 0)))]) C 0 5 7 rfl rfl iGX5 (by decide) kf_X5_24 tyX5 tyX5_ok nmX5 rfl (by decide +kernel) (Nat.le_of_ble_eq_true rfl) rfl dX5_init_39 ?_
  refine n_aload C dX5_init_42 rfl 0 rfl ?_
  refine n_iconst (v := (-1)) C dX5_init_43 (by decide) ?_
  refine n_put (w' := [(h0, .inr (5, [.null, .ref a1, .ref a2, .ref a3, .ref a4, .int 0, .int 0, .int (-1), .int (-1)])), (a1, .inl (cI, 100, .inl (fun _ => 0))), (a2, .inl (cI, 1024, .inl (fun _ => 0))), (a3, .inl (cI, 11, .inl (fun _ => 0))), (a4, .inl (cI, 10, .inl (fun _ => 0)))]) C 0 5 8 rfl rfl iGX5 (by decide) kf_X5_28 tyX5 tyX5_ok nmX5 rfl (by decide +kernel) (Nat.le_of_ble_eq_true rfl) rfl dX5_init_44 ?_
  refine n_aload C dX5_init_47 rfl 0 rfl ?_
  refine n_aload C dX5_init_48 rfl 1 rfl ?_
  refine n_putF (w' := [(h0, .inr (5, [.ref hs, .ref a1, .ref a2, .ref a3, .ref a4, .int 0, .int 0, .int (-1), .int (-1)])), (a1, .inl (cI, 100, .inl (fun _ => 0))), (a2, .inl (cI, 1024, .inl (fun _ => 0))), (a3, .inl (cI, 11, .inl (fun _ => 0))), (a4, .inl (cI, 10, .inl (fun _ => 0)))]) C hin 0 5 0 rfl rfl iGX5 (by decide) kf_X5_31 tyX5 tyX5_ok nmX5 rfl rfl (ty := .object "PartedVoices$Score") (by decide +kernel) rfl rfl (Nat.le_of_ble_eq_true rfl) rfl dX5_init_49 ?_
  exact n_ret (S := Nat → Nat) (B := fun u => [(h0, .inr (5, [.ref hs, .ref (u 0), .ref (u 1), .ref (u 2), .ref (u 3), .int 0, .int 0, .int (-1), .int (-1)])), (u 0, .inl (cI, 100, .inl (fun _ => 0))), (u 1, .inl (cI, 1024, .inl (fun _ => 0))), (u 2, .inl (cI, 11, .inl (fun _ => 0))), (u 3, .inl (cI, 10, .inl (fun _ => 0)))]) C (fun k => [a1, a2, a3, a4].getD k 0) hr dX5_init_52 rfl
abbrev r_X6_init : Room := { frames := 1, cells := 1, slots := 46, locals := 18 }
set_option maxRecDepth 100000 in
set_option maxHeartbeats 4000000 in
theorem m_X6_init (l : Launch) (D : va_G) (cI cZ : ClassId) (h0 : Nat) (sz : Nat) : Met l yX6_init (Cond.code yX6_init cX6_init 1 none :: lwG) r_X6_init (va_Pc [.ref h0] (pn_P D cI cZ [(h0, .inr (6, [.null, .int 0]))] sz (fun U => pv_F (va_A [(h0, .inr (6, [.null, .int 0]))] sz) U U.heap))) (va_Qv (fun _ : Nat → Nat => True) (fun u t => va_P D vwCl ((fun u => [(h0, .inr (6, [.ref (u 0), .int 0])), (u 0, .inl (cI, 46, .inl (va_cpy pv_ft (fun _ => 0) 0 1 5)))]) u) t.heap ∧ va_D (va_A [(h0, .inr (6, [.null, .int 0]))] sz) ((fun u => [(h0, .inr (6, [.ref (u 0), .int 0])), (u 0, .inl (cI, 46, .inl (va_cpy pv_ft (fun _ => 0) 0 1 5)))]) u)) (va_A [(h0, .inr (6, [.null, .int 0]))] sz)) 1 46 (va_A [(h0, .inr (6, [.null, .int 0]))] sz) := by
  refine n_met (S := Nat → Nat) (B := fun u => [(h0, .inr (6, [.ref (u 0), .int 0])), (u 0, .inl (cI, 46, .inl (va_cpy pv_ft (fun _ => 0) 0 1 5)))]) (by decide) rfl rfl (Nat.le_of_ble_eq_true rfl) (fun p e s m args below meth c A hAe hszE C hin hr hE => ?_)
  subst hszE
  refine n_aload C dX6_init_0 rfl 0 rfl ?_
  refine n_obj C kO_X6 kO_inst kO_code dX6_init_1 ⟨Nat.le_of_ble_eq_true rfl, Nat.le_of_ble_eq_true rfl⟩ ?_
  refine n_aload C dX6_init_4 rfl 0 rfl ?_
  refine n_bipush (v := 46) C dX6_init_5 (by decide) ?_
  refine n_newi C 46 kT_int (by decide) (by decide) (Nat.le_of_ble_eq_true rfl) ⟨Nat.le_of_ble_eq_true rfl, Nat.le_of_ble_eq_true rfl⟩ dX6_init_7 (fun a1 => ?_)
  refine n_widen 1 46 (Nat.le_of_ble_eq_true rfl) (Nat.le_of_ble_eq_true rfl) ?_
  refine n_putF (w' := [(h0, .inr (6, [.ref a1, .int 0])), (a1, .inl (cI, 46, .inl (fun _ => 0)))]) C hin 0 6 0 rfl rfl iGX6 (by decide) kf_X6_11 tyX6 tyX6_ok nmX6 rfl rfl (ty := .array .int) (by decide +kernel) rfl rfl (Nat.le_of_ble_eq_true rfl) rfl dX6_init_9 ?_
  refine n_fterm C (hAe ▸ hE) kf_ft dX6_init_12 (fun ft hft => ?_)
  refine n_iconst (v := 0) C dX6_init_15 (by decide) ?_
  refine n_aload C dX6_init_16 rfl 0 rfl ?_
  refine n_get (v := .ref a1) C 0 6 0 rfl rfl iGX6 (by decide) kf_X6_11 rfl dX6_init_17 ?_
  refine n_iconst (v := 1) C dX6_init_20 (by decide) ?_
  refine n_iconst (v := 5) C dX6_init_21 (by decide) ?_
  refine n_copyT (w' := [(h0, .inr (6, [.ref a1, .int 0])), (a1, .inl (cI, 46, .inl (va_cpy pv_ft (fun _ => 0) 0 1 5)))]) C 1 hft rfl kl_X6_18 (by decide) ⟨Nat.le_of_ble_eq_true rfl, Nat.le_of_ble_eq_true rfl⟩ rfl dX6_init_22 ?_
  exact n_ret (S := Nat → Nat) (B := fun u => [(h0, .inr (6, [.ref (u 0), .int 0])), (u 0, .inl (cI, 46, .inl (va_cpy pv_ft (fun _ => 0) 0 1 5)))]) C (fun k => [a1].getD k 0) hr dX6_init_25 rfl
abbrev r_X7_init : Room := { frames := 2, cells := 20, slots := 2108, locals := 38 }
set_option maxRecDepth 100000 in
set_option maxHeartbeats 4000000 in
theorem m_X7_init (l : Launch) (D : va_G) (cI cZ : ClassId) (h0 : Nat) (sz : Nat) : Met l yX7_init (Cond.code yX7_init cX7_init 1 none :: lwG) r_X7_init (va_Pc [.ref h0] (pn_P D cI cZ [(h0, .inr (7, [.null, .null, .null, .null, .null, .null, .null]))] sz (fun U => pv_F (va_A [(h0, .inr (7, [.null, .null, .null, .null, .null, .null, .null]))] sz) U U.heap ∧ va_Nw (.methodLinkNest RX7 34 yX2_init RX7) U ∧ va_Nw (.methodLinkNest RX7 41 yX3_init RX7) U ∧ va_Nw (.methodLinkNest RX7 48 yX0_init RX7) U ∧ va_Nw (.methodLinkNest RX7 55 yX1_init RX7) U))) (va_Qv (fun _ : Nat → Nat => True) (fun u t => va_P D vwCl ((fun ad => [(h0, .inr (7, [.ref (ad 1), .ref (ad 2), .ref (ad 3), .ref (ad 4), .ref (ad 5), .ref (ad 6), .ref (ad 7)])), (ad 1, .inr (6, [.ref (ad 9), .int 0])), (ad 9, .inl (cI, 46, .inl (va_cpy pv_ft (fun _ => 0) 0 1 5))), (ad 2, .inr (4, [.ref (ad 1), .ref (ad 10), .ref (ad 11), .int 0])), (ad 10, .inl (cI, 10, .inl (fun _ => 0))), (ad 11, .inl (cI, 10, .inl (fun _ => 0))), (ad 3, .inr (5, [.ref (ad 1), .ref (ad 12), .ref (ad 13), .ref (ad 14), .ref (ad 15), .int 0, .int 0, .int (-1), .int (-1)])), (ad 12, .inl (cI, 100, .inl (fun _ => 0))), (ad 13, .inl (cI, 1024, .inl (fun _ => 0))), (ad 14, .inl (cI, 11, .inl (fun _ => 0))), (ad 15, .inl (cI, 10, .inl (fun _ => 0))), (ad 4, .inr (2, [.ref (ad 16), .int 0, .int 0])), (ad 16, .inl (cI, 736, .inl (fun _ => 0))), (ad 5, .inr (3, [.ref (ad 17), .ref (ad 18), .ref (ad 19)])), (ad 17, .inl (cI, 92, .inl (fun _ => 0))), (ad 18, .inl (cI, 2, .inl (fun _ => 0))), (ad 19, .inl (cZ, 2, .inl (fun _ => 0))), (ad 6, .inr (0, [.ref (ad 20), .ref (ad 21), .int 0])), (ad 20, .inl (cI, 20, .inl (fun _ => 0))), (ad 21, .inl (cI, 20, .inl (fun _ => 0))), (ad 7, .inr (1, [.int 0]))]) u) t.heap ∧ va_D (va_A [(h0, .inr (7, [.null, .null, .null, .null, .null, .null, .null]))] sz) ((fun ad => [(h0, .inr (7, [.ref (ad 1), .ref (ad 2), .ref (ad 3), .ref (ad 4), .ref (ad 5), .ref (ad 6), .ref (ad 7)])), (ad 1, .inr (6, [.ref (ad 9), .int 0])), (ad 9, .inl (cI, 46, .inl (va_cpy pv_ft (fun _ => 0) 0 1 5))), (ad 2, .inr (4, [.ref (ad 1), .ref (ad 10), .ref (ad 11), .int 0])), (ad 10, .inl (cI, 10, .inl (fun _ => 0))), (ad 11, .inl (cI, 10, .inl (fun _ => 0))), (ad 3, .inr (5, [.ref (ad 1), .ref (ad 12), .ref (ad 13), .ref (ad 14), .ref (ad 15), .int 0, .int 0, .int (-1), .int (-1)])), (ad 12, .inl (cI, 100, .inl (fun _ => 0))), (ad 13, .inl (cI, 1024, .inl (fun _ => 0))), (ad 14, .inl (cI, 11, .inl (fun _ => 0))), (ad 15, .inl (cI, 10, .inl (fun _ => 0))), (ad 4, .inr (2, [.ref (ad 16), .int 0, .int 0])), (ad 16, .inl (cI, 736, .inl (fun _ => 0))), (ad 5, .inr (3, [.ref (ad 17), .ref (ad 18), .ref (ad 19)])), (ad 17, .inl (cI, 92, .inl (fun _ => 0))), (ad 18, .inl (cI, 2, .inl (fun _ => 0))), (ad 19, .inl (cZ, 2, .inl (fun _ => 0))), (ad 6, .inr (0, [.ref (ad 20), .ref (ad 21), .int 0])), (ad 20, .inl (cI, 20, .inl (fun _ => 0))), (ad 21, .inl (cI, 20, .inl (fun _ => 0))), (ad 7, .inr (1, [.int 0]))]) u)) (va_A [(h0, .inr (7, [.null, .null, .null, .null, .null, .null, .null]))] sz)) 20 2108 (va_A [(h0, .inr (7, [.null, .null, .null, .null, .null, .null, .null]))] sz) := by
  refine n_met (S := Nat → Nat) (B := fun ad => [(h0, .inr (7, [.ref (ad 1), .ref (ad 2), .ref (ad 3), .ref (ad 4), .ref (ad 5), .ref (ad 6), .ref (ad 7)])), (ad 1, .inr (6, [.ref (ad 9), .int 0])), (ad 9, .inl (cI, 46, .inl (va_cpy pv_ft (fun _ => 0) 0 1 5))), (ad 2, .inr (4, [.ref (ad 1), .ref (ad 10), .ref (ad 11), .int 0])), (ad 10, .inl (cI, 10, .inl (fun _ => 0))), (ad 11, .inl (cI, 10, .inl (fun _ => 0))), (ad 3, .inr (5, [.ref (ad 1), .ref (ad 12), .ref (ad 13), .ref (ad 14), .ref (ad 15), .int 0, .int 0, .int (-1), .int (-1)])), (ad 12, .inl (cI, 100, .inl (fun _ => 0))), (ad 13, .inl (cI, 1024, .inl (fun _ => 0))), (ad 14, .inl (cI, 11, .inl (fun _ => 0))), (ad 15, .inl (cI, 10, .inl (fun _ => 0))), (ad 4, .inr (2, [.ref (ad 16), .int 0, .int 0])), (ad 16, .inl (cI, 736, .inl (fun _ => 0))), (ad 5, .inr (3, [.ref (ad 17), .ref (ad 18), .ref (ad 19)])), (ad 17, .inl (cI, 92, .inl (fun _ => 0))), (ad 18, .inl (cI, 2, .inl (fun _ => 0))), (ad 19, .inl (cZ, 2, .inl (fun _ => 0))), (ad 6, .inr (0, [.ref (ad 20), .ref (ad 21), .int 0])), (ad 20, .inl (cI, 20, .inl (fun _ => 0))), (ad 21, .inl (cI, 20, .inl (fun _ => 0))), (ad 7, .inr (1, [.int 0]))]) (by decide) rfl rfl (Nat.le_of_ble_eq_true rfl) (fun p e s m args below meth c A hAe hszE C hin hr hE => ?_)
  subst hszE
  refine n_aload C dX7_init_0 rfl 0 rfl ?_
  refine n_obj C kO_X7 kO_inst kO_code dX7_init_1 ⟨Nat.le_of_ble_eq_true rfl, Nat.le_of_ble_eq_true rfl⟩ ?_
  refine n_aload C dX7_init_4 rfl 0 rfl ?_
  refine n_new C (ci := 6) (fs := [.null, .int 0]) iGX6 tyX6 tyX6_ok kC_X7_7 kI_X6 kN_X6 rfl (fun j hj => by match j, hj with
    | 0, _ => rfl
    | 1, _ => rfl
    | j + 2, h9 => exact absurd h9 (by omega)) ⟨Nat.le_of_ble_eq_true rfl, Nat.le_of_ble_eq_true rfl⟩ dX7_init_5 (fun b1 => ?_)
  refine n_widen 1 2 (Nat.le_of_ble_eq_true rfl) (Nat.le_of_ble_eq_true rfl) ?_
  refine n_dup C dX7_init_8 rfl ?_
  refine n_call (st := [.ref b1, .ref h0]) (E := fun sz U => pv_F (va_A [(b1, .inr (6, [.null, .int 0]))] sz) U U.heap) (wc := [(b1, .inr (6, [.null, .int 0]))]) (wr := [(h0, .inr (7, [.null, .null, .null, .null, .null, .null, .null]))]) C kY_X6_init [1] [0] rfl rfl (by decide) (by decide) (by decide) (fun sz => m_X6_init l D cI cZ b1  sz) (kl_X7_9) ⟨rfl, rfl⟩ ⟨Nat.le_of_ble_eq_true rfl, Nat.le_of_ble_eq_true rfl⟩ ⟨Nat.le_of_ble_eq_true rfl, Nat.le_of_ble_eq_true rfl⟩ rfl rfl (Nat.le_of_ble_eq_true rfl) dX7_init_9 (fun H locs hS hD U hU hW => ?_) (fun sz U g mk b q => pv_F_calling q) (fun u2 => ?_)
  · obtain ⟨ft, hZ, hT⟩ := hAe ▸ hE.1
    have hsub : ∀ q, va_A [(b1, .inr (6, [.null, .int 0]))] H.size q → A q := va_free (wc := [(b1, .inr (6, [.null, .int 0]))]) hD hS C.2.2.2.2.2.2.2 [1] rfl
    rw [hU]
    exact ⟨ft, ((hZ.kept hS.2.1).narrow hsub).moved hW.alike, ((hT.kept hS.2.1).narrow hsub).moved hW.alike⟩
  refine n_widen 2 48 (Nat.le_of_ble_eq_true rfl) (Nat.le_of_ble_eq_true rfl) ?_
  refine n_putF (w' := [(h0, .inr (7, [.ref b1, .null, .null, .null, .null, .null, .null])), (b1, .inr (6, [.ref (u2 0), .int 0])), (u2 0, .inl (cI, 46, .inl (va_cpy pv_ft (fun _ => 0) 0 1 5)))]) C hin 0 7 0 rfl rfl iGX7 (by decide) kf_X7_10 tyX7 tyX7_ok nmX7 rfl rfl (ty := .object "PartedVoices$Score") (by decide +kernel) rfl rfl (Nat.le_of_ble_eq_true rfl) rfl dX7_init_12 ?_
  refine n_aload C dX7_init_15 rfl 0 rfl ?_
  refine n_new C (ci := 4) (fs := [.null, .null, .null, .int 0]) iGX4 tyX4 tyX4_ok kC_X7_16 kI_X4 kN_X4 rfl (fun j hj => by match j, hj with
    | 0, _ => rfl
    | 1, _ => rfl
    | 2, _ => rfl
    | 3, _ => rfl
    | j + 4, h9 => exact absurd h9 (by omega)) ⟨Nat.le_of_ble_eq_true rfl, Nat.le_of_ble_eq_true rfl⟩ dX7_init_16 (fun b3 => ?_)
  refine n_widen 3 52 (Nat.le_of_ble_eq_true rfl) (Nat.le_of_ble_eq_true rfl) ?_
  refine n_dup C dX7_init_19 rfl ?_
  refine n_aload C dX7_init_20 rfl 0 rfl ?_
  refine n_get (v := .ref b1) C 0 7 0 rfl rfl iGX7 (by decide) kf_X7_10 rfl dX7_init_21 ?_
  refine n_call (st := [.ref b3, .ref h0]) (E := fun _ _ => True) (wc := [(b3, .inr (4, [.null, .null, .null, .int 0]))]) (wr := [(h0, .inr (7, [.ref b1, .null, .null, .null, .null, .null, .null])), (b1, .inr (6, [.ref (u2 0), .int 0])), (u2 0, .inl (cI, 46, .inl (va_cpy pv_ft (fun _ => 0) 0 1 5)))]) C kY_X4_init [3] [0, 1, 2] rfl rfl (by decide) (by decide) (by decide) (fun sz => m_X4_init l D cI cZ b3 b1 sz) (kl_X7_18) ⟨rfl, rfl⟩ ⟨Nat.le_of_ble_eq_true rfl, Nat.le_of_ble_eq_true rfl⟩ ⟨Nat.le_of_ble_eq_true rfl, Nat.le_of_ble_eq_true rfl⟩ rfl rfl (Nat.le_of_ble_eq_true rfl) dX7_init_24 (fun _ _ _ _ _ _ _ => trivial) (fun _ _ _ _ _ _ => trivial) (fun u4 => ?_)
  refine n_widen 5 72 (Nat.le_of_ble_eq_true rfl) (Nat.le_of_ble_eq_true rfl) ?_
  refine n_putF (w' := [(h0, .inr (7, [.ref b1, .ref b3, .null, .null, .null, .null, .null])), (b1, .inr (6, [.ref (u2 0), .int 0])), (u2 0, .inl (cI, 46, .inl (va_cpy pv_ft (fun _ => 0) 0 1 5))), (b3, .inr (4, [.ref b1, .ref (u4 0), .ref (u4 1), .int 0])), (u4 0, .inl (cI, 10, .inl (fun _ => 0))), (u4 1, .inl (cI, 10, .inl (fun _ => 0)))]) C hin 0 7 1 rfl rfl iGX7 (by decide) kf_X7_21 tyX7 tyX7_ok nmX7 rfl rfl (ty := .object "PartedVoices$Lines") (by decide +kernel) rfl rfl (Nat.le_of_ble_eq_true rfl) rfl dX7_init_27 ?_
  refine n_aload C dX7_init_30 rfl 0 rfl ?_
  refine n_new C (ci := 5) (fs := [.null, .null, .null, .null, .null, .int 0, .int 0, .int 0, .int 0]) iGX5 tyX5 tyX5_ok kC_X7_25 kI_X5 kN_X5 rfl (fun j hj => by match j, hj with
    | 0, _ => rfl
    | 1, _ => rfl
    | 2, _ => rfl
    | 3, _ => rfl
    | 4, _ => rfl
    | 5, _ => rfl
    | 6, _ => rfl
    | 7, _ => rfl
    | 8, _ => rfl
    | j + 9, h9 => exact absurd h9 (by omega)) ⟨Nat.le_of_ble_eq_true rfl, Nat.le_of_ble_eq_true rfl⟩ dX7_init_31 (fun b5 => ?_)
  refine n_widen 6 81 (Nat.le_of_ble_eq_true rfl) (Nat.le_of_ble_eq_true rfl) ?_
  refine n_dup C dX7_init_34 rfl ?_
  refine n_aload C dX7_init_35 rfl 0 rfl ?_
  refine n_get (v := .ref b1) C 0 7 0 rfl rfl iGX7 (by decide) kf_X7_10 rfl dX7_init_36 ?_
  refine n_call (st := [.ref b5, .ref h0]) (E := fun _ _ => True) (wc := [(b5, .inr (5, [.null, .null, .null, .null, .null, .int 0, .int 0, .int 0, .int 0]))]) (wr := [(h0, .inr (7, [.ref b1, .ref b3, .null, .null, .null, .null, .null])), (b1, .inr (6, [.ref (u2 0), .int 0])), (u2 0, .inl (cI, 46, .inl (va_cpy pv_ft (fun _ => 0) 0 1 5))), (b3, .inr (4, [.ref b1, .ref (u4 0), .ref (u4 1), .int 0])), (u4 0, .inl (cI, 10, .inl (fun _ => 0))), (u4 1, .inl (cI, 10, .inl (fun _ => 0)))]) C kY_X5_init [6] [0, 1, 2, 3, 4, 5] rfl rfl (by decide) (by decide) (by decide) (fun sz => m_X5_init l D cI cZ b5 b1 sz) (kl_X7_27) ⟨rfl, rfl⟩ ⟨Nat.le_of_ble_eq_true rfl, Nat.le_of_ble_eq_true rfl⟩ ⟨Nat.le_of_ble_eq_true rfl, Nat.le_of_ble_eq_true rfl⟩ rfl rfl (Nat.le_of_ble_eq_true rfl) dX7_init_39 (fun _ _ _ _ _ _ _ => trivial) (fun _ _ _ _ _ _ => trivial) (fun u6 => ?_)
  refine n_widen 10 1226 (Nat.le_of_ble_eq_true rfl) (Nat.le_of_ble_eq_true rfl) ?_
  refine n_putF (w' := [(h0, .inr (7, [.ref b1, .ref b3, .ref b5, .null, .null, .null, .null])), (b1, .inr (6, [.ref (u2 0), .int 0])), (u2 0, .inl (cI, 46, .inl (va_cpy pv_ft (fun _ => 0) 0 1 5))), (b3, .inr (4, [.ref b1, .ref (u4 0), .ref (u4 1), .int 0])), (u4 0, .inl (cI, 10, .inl (fun _ => 0))), (u4 1, .inl (cI, 10, .inl (fun _ => 0))), (b5, .inr (5, [.ref b1, .ref (u6 0), .ref (u6 1), .ref (u6 2), .ref (u6 3), .int 0, .int 0, .int (-1), .int (-1)])), (u6 0, .inl (cI, 100, .inl (fun _ => 0))), (u6 1, .inl (cI, 1024, .inl (fun _ => 0))), (u6 2, .inl (cI, 11, .inl (fun _ => 0))), (u6 3, .inl (cI, 10, .inl (fun _ => 0)))]) C hin 0 7 2 rfl rfl iGX7 (by decide) kf_X7_28 tyX7 tyX7_ok nmX7 rfl rfl (ty := .object "PartedVoices$Partings") (by decide +kernel) rfl rfl (Nat.le_of_ble_eq_true rfl) rfl dX7_init_42 ?_
  refine n_aload C dX7_init_45 rfl 0 rfl ?_
  refine n_new C (ci := 2) (fs := [.null, .int 0, .int 0]) iGX2 tyX2 tyX2_ok kC_X7_32 kI_X2 kN_X2 rfl (fun j hj => by match j, hj with
    | 0, _ => rfl
    | 1, _ => rfl
    | 2, _ => rfl
    | j + 3, h9 => exact absurd h9 (by omega)) ⟨Nat.le_of_ble_eq_true rfl, Nat.le_of_ble_eq_true rfl⟩ dX7_init_46 (fun b7 => ?_)
  refine n_widen 11 1229 (Nat.le_of_ble_eq_true rfl) (Nat.le_of_ble_eq_true rfl) ?_
  refine n_dup C dX7_init_49 rfl ?_
  refine n_callN (st := [.ref b7, .ref h0]) (E := fun _ _ => True) (wc := [(b7, .inr (2, [.null, .int 0, .int 0]))]) (wr := [(h0, .inr (7, [.ref b1, .ref b3, .ref b5, .null, .null, .null, .null])), (b1, .inr (6, [.ref (u2 0), .int 0])), (u2 0, .inl (cI, 46, .inl (va_cpy pv_ft (fun _ => 0) 0 1 5))), (b3, .inr (4, [.ref b1, .ref (u4 0), .ref (u4 1), .int 0])), (u4 0, .inl (cI, 10, .inl (fun _ => 0))), (u4 1, .inl (cI, 10, .inl (fun _ => 0))), (b5, .inr (5, [.ref b1, .ref (u6 0), .ref (u6 1), .ref (u6 2), .ref (u6 3), .int 0, .int 0, .int (-1), .int (-1)])), (u6 0, .inl (cI, 100, .inl (fun _ => 0))), (u6 1, .inl (cI, 1024, .inl (fun _ => 0))), (u6 2, .inl (cI, 11, .inl (fun _ => 0))), (u6 3, .inl (cI, 10, .inl (fun _ => 0)))]) C kY_X2_init [11] [0, 1, 2, 3, 4, 5, 6, 7, 8, 9, 10] rfl rfl (by decide) (by decide) (by decide) (fun sz => m_X2_init l D cI cZ b7  sz) (hE.2.1) ⟨rfl, rfl⟩ ⟨Nat.le_of_ble_eq_true rfl, Nat.le_of_ble_eq_true rfl⟩ ⟨Nat.le_of_ble_eq_true rfl, Nat.le_of_ble_eq_true rfl⟩ rfl rfl (Nat.le_of_ble_eq_true rfl) dX7_init_50 (fun _ _ _ _ _ _ _ => trivial) (fun _ _ _ _ _ _ => trivial) (fun u8 => ?_)
  refine n_widen 12 1965 (Nat.le_of_ble_eq_true rfl) (Nat.le_of_ble_eq_true rfl) ?_
  refine n_putF (w' := [(h0, .inr (7, [.ref b1, .ref b3, .ref b5, .ref b7, .null, .null, .null])), (b1, .inr (6, [.ref (u2 0), .int 0])), (u2 0, .inl (cI, 46, .inl (va_cpy pv_ft (fun _ => 0) 0 1 5))), (b3, .inr (4, [.ref b1, .ref (u4 0), .ref (u4 1), .int 0])), (u4 0, .inl (cI, 10, .inl (fun _ => 0))), (u4 1, .inl (cI, 10, .inl (fun _ => 0))), (b5, .inr (5, [.ref b1, .ref (u6 0), .ref (u6 1), .ref (u6 2), .ref (u6 3), .int 0, .int 0, .int (-1), .int (-1)])), (u6 0, .inl (cI, 100, .inl (fun _ => 0))), (u6 1, .inl (cI, 1024, .inl (fun _ => 0))), (u6 2, .inl (cI, 11, .inl (fun _ => 0))), (u6 3, .inl (cI, 10, .inl (fun _ => 0))), (b7, .inr (2, [.ref (u8 0), .int 0, .int 0])), (u8 0, .inl (cI, 736, .inl (fun _ => 0)))]) C hin 0 7 3 rfl rfl iGX7 (by decide) kf_X7_35 tyX7 tyX7_ok nmX7 rfl rfl (ty := .object "PartedVoices$History") (by decide +kernel) rfl rfl (Nat.le_of_ble_eq_true rfl) rfl dX7_init_53 ?_
  refine n_aload C dX7_init_56 rfl 0 rfl ?_
  refine n_new C (ci := 3) (fs := [.null, .null, .null]) iGX3 tyX3 tyX3_ok kC_X7_39 kI_X3 kN_X3 rfl (fun j hj => by match j, hj with
    | 0, _ => rfl
    | 1, _ => rfl
    | 2, _ => rfl
    | j + 3, h9 => exact absurd h9 (by omega)) ⟨Nat.le_of_ble_eq_true rfl, Nat.le_of_ble_eq_true rfl⟩ dX7_init_57 (fun b9 => ?_)
  refine n_widen 13 1968 (Nat.le_of_ble_eq_true rfl) (Nat.le_of_ble_eq_true rfl) ?_
  refine n_dup C dX7_init_60 rfl ?_
  refine n_callN (st := [.ref b9, .ref h0]) (E := fun _ _ => True) (wc := [(b9, .inr (3, [.null, .null, .null]))]) (wr := [(h0, .inr (7, [.ref b1, .ref b3, .ref b5, .ref b7, .null, .null, .null])), (b1, .inr (6, [.ref (u2 0), .int 0])), (u2 0, .inl (cI, 46, .inl (va_cpy pv_ft (fun _ => 0) 0 1 5))), (b3, .inr (4, [.ref b1, .ref (u4 0), .ref (u4 1), .int 0])), (u4 0, .inl (cI, 10, .inl (fun _ => 0))), (u4 1, .inl (cI, 10, .inl (fun _ => 0))), (b5, .inr (5, [.ref b1, .ref (u6 0), .ref (u6 1), .ref (u6 2), .ref (u6 3), .int 0, .int 0, .int (-1), .int (-1)])), (u6 0, .inl (cI, 100, .inl (fun _ => 0))), (u6 1, .inl (cI, 1024, .inl (fun _ => 0))), (u6 2, .inl (cI, 11, .inl (fun _ => 0))), (u6 3, .inl (cI, 10, .inl (fun _ => 0))), (b7, .inr (2, [.ref (u8 0), .int 0, .int 0])), (u8 0, .inl (cI, 736, .inl (fun _ => 0)))]) C kY_X3_init [13] [0, 1, 2, 3, 4, 5, 6, 7, 8, 9, 10, 11, 12] rfl rfl (by decide) (by decide) (by decide) (fun sz => m_X3_init l D cI cZ b9  sz) (hE.2.2.1) ⟨rfl, rfl⟩ ⟨Nat.le_of_ble_eq_true rfl, Nat.le_of_ble_eq_true rfl⟩ ⟨Nat.le_of_ble_eq_true rfl, Nat.le_of_ble_eq_true rfl⟩ rfl rfl (Nat.le_of_ble_eq_true rfl) dX7_init_61 (fun _ _ _ _ _ _ _ => trivial) (fun _ _ _ _ _ _ => trivial) (fun u10 => ?_)
  refine n_widen 16 2064 (Nat.le_of_ble_eq_true rfl) (Nat.le_of_ble_eq_true rfl) ?_
  refine n_putF (w' := [(h0, .inr (7, [.ref b1, .ref b3, .ref b5, .ref b7, .ref b9, .null, .null])), (b1, .inr (6, [.ref (u2 0), .int 0])), (u2 0, .inl (cI, 46, .inl (va_cpy pv_ft (fun _ => 0) 0 1 5))), (b3, .inr (4, [.ref b1, .ref (u4 0), .ref (u4 1), .int 0])), (u4 0, .inl (cI, 10, .inl (fun _ => 0))), (u4 1, .inl (cI, 10, .inl (fun _ => 0))), (b5, .inr (5, [.ref b1, .ref (u6 0), .ref (u6 1), .ref (u6 2), .ref (u6 3), .int 0, .int 0, .int (-1), .int (-1)])), (u6 0, .inl (cI, 100, .inl (fun _ => 0))), (u6 1, .inl (cI, 1024, .inl (fun _ => 0))), (u6 2, .inl (cI, 11, .inl (fun _ => 0))), (u6 3, .inl (cI, 10, .inl (fun _ => 0))), (b7, .inr (2, [.ref (u8 0), .int 0, .int 0])), (u8 0, .inl (cI, 736, .inl (fun _ => 0))), (b9, .inr (3, [.ref (u10 0), .ref (u10 1), .ref (u10 2)])), (u10 0, .inl (cI, 92, .inl (fun _ => 0))), (u10 1, .inl (cI, 2, .inl (fun _ => 0))), (u10 2, .inl (cZ, 2, .inl (fun _ => 0)))]) C hin 0 7 4 rfl rfl iGX7 (by decide) kf_X7_42 tyX7 tyX7_ok nmX7 rfl rfl (ty := .object "PartedVoices$Images") (by decide +kernel) rfl rfl (Nat.le_of_ble_eq_true rfl) rfl dX7_init_64 ?_
  refine n_aload C dX7_init_67 rfl 0 rfl ?_
  refine n_new C (ci := 0) (fs := [.null, .null, .int 0]) iGX0 tyX0 tyX0_ok kC_X7_46 kI_X0 kN_X0 rfl (fun j hj => by match j, hj with
    | 0, _ => rfl
    | 1, _ => rfl
    | 2, _ => rfl
    | j + 3, h9 => exact absurd h9 (by omega)) ⟨Nat.le_of_ble_eq_true rfl, Nat.le_of_ble_eq_true rfl⟩ dX7_init_68 (fun b11 => ?_)
  refine n_widen 17 2067 (Nat.le_of_ble_eq_true rfl) (Nat.le_of_ble_eq_true rfl) ?_
  refine n_dup C dX7_init_71 rfl ?_
  refine n_callN (st := [.ref b11, .ref h0]) (E := fun _ _ => True) (wc := [(b11, .inr (0, [.null, .null, .int 0]))]) (wr := [(h0, .inr (7, [.ref b1, .ref b3, .ref b5, .ref b7, .ref b9, .null, .null])), (b1, .inr (6, [.ref (u2 0), .int 0])), (u2 0, .inl (cI, 46, .inl (va_cpy pv_ft (fun _ => 0) 0 1 5))), (b3, .inr (4, [.ref b1, .ref (u4 0), .ref (u4 1), .int 0])), (u4 0, .inl (cI, 10, .inl (fun _ => 0))), (u4 1, .inl (cI, 10, .inl (fun _ => 0))), (b5, .inr (5, [.ref b1, .ref (u6 0), .ref (u6 1), .ref (u6 2), .ref (u6 3), .int 0, .int 0, .int (-1), .int (-1)])), (u6 0, .inl (cI, 100, .inl (fun _ => 0))), (u6 1, .inl (cI, 1024, .inl (fun _ => 0))), (u6 2, .inl (cI, 11, .inl (fun _ => 0))), (u6 3, .inl (cI, 10, .inl (fun _ => 0))), (b7, .inr (2, [.ref (u8 0), .int 0, .int 0])), (u8 0, .inl (cI, 736, .inl (fun _ => 0))), (b9, .inr (3, [.ref (u10 0), .ref (u10 1), .ref (u10 2)])), (u10 0, .inl (cI, 92, .inl (fun _ => 0))), (u10 1, .inl (cI, 2, .inl (fun _ => 0))), (u10 2, .inl (cZ, 2, .inl (fun _ => 0)))]) C kY_X0_init [17] [0, 1, 2, 3, 4, 5, 6, 7, 8, 9, 10, 11, 12, 13, 14, 15, 16] rfl rfl (by decide) (by decide) (by decide) (fun sz => m_X0_init l D cI cZ b11  sz) (hE.2.2.2.1) ⟨rfl, rfl⟩ ⟨Nat.le_of_ble_eq_true rfl, Nat.le_of_ble_eq_true rfl⟩ ⟨Nat.le_of_ble_eq_true rfl, Nat.le_of_ble_eq_true rfl⟩ rfl rfl (Nat.le_of_ble_eq_true rfl) dX7_init_72 (fun _ _ _ _ _ _ _ => trivial) (fun _ _ _ _ _ _ => trivial) (fun u12 => ?_)
  refine n_widen 19 2107 (Nat.le_of_ble_eq_true rfl) (Nat.le_of_ble_eq_true rfl) ?_
  refine n_putF (w' := [(h0, .inr (7, [.ref b1, .ref b3, .ref b5, .ref b7, .ref b9, .ref b11, .null])), (b1, .inr (6, [.ref (u2 0), .int 0])), (u2 0, .inl (cI, 46, .inl (va_cpy pv_ft (fun _ => 0) 0 1 5))), (b3, .inr (4, [.ref b1, .ref (u4 0), .ref (u4 1), .int 0])), (u4 0, .inl (cI, 10, .inl (fun _ => 0))), (u4 1, .inl (cI, 10, .inl (fun _ => 0))), (b5, .inr (5, [.ref b1, .ref (u6 0), .ref (u6 1), .ref (u6 2), .ref (u6 3), .int 0, .int 0, .int (-1), .int (-1)])), (u6 0, .inl (cI, 100, .inl (fun _ => 0))), (u6 1, .inl (cI, 1024, .inl (fun _ => 0))), (u6 2, .inl (cI, 11, .inl (fun _ => 0))), (u6 3, .inl (cI, 10, .inl (fun _ => 0))), (b7, .inr (2, [.ref (u8 0), .int 0, .int 0])), (u8 0, .inl (cI, 736, .inl (fun _ => 0))), (b9, .inr (3, [.ref (u10 0), .ref (u10 1), .ref (u10 2)])), (u10 0, .inl (cI, 92, .inl (fun _ => 0))), (u10 1, .inl (cI, 2, .inl (fun _ => 0))), (u10 2, .inl (cZ, 2, .inl (fun _ => 0))), (b11, .inr (0, [.ref (u12 0), .ref (u12 1), .int 0])), (u12 0, .inl (cI, 20, .inl (fun _ => 0))), (u12 1, .inl (cI, 20, .inl (fun _ => 0)))]) C hin 0 7 5 rfl rfl iGX7 (by decide) kf_X7_49 tyX7 tyX7_ok nmX7 rfl rfl (ty := .object "PartedVoices$Book") (by decide +kernel) rfl rfl (Nat.le_of_ble_eq_true rfl) rfl dX7_init_75 ?_
  refine n_aload C dX7_init_78 rfl 0 rfl ?_
  refine n_new C (ci := 1) (fs := [.int 0]) iGX1 tyX1 tyX1_ok kC_X7_53 kI_X1 kN_X1 rfl (fun j hj => by match j, hj with
    | 0, _ => rfl
    | j + 1, h9 => exact absurd h9 (by omega)) ⟨Nat.le_of_ble_eq_true rfl, Nat.le_of_ble_eq_true rfl⟩ dX7_init_79 (fun b13 => ?_)
  refine n_widen 20 2108 (Nat.le_of_ble_eq_true rfl) (Nat.le_of_ble_eq_true rfl) ?_
  refine n_dup C dX7_init_82 rfl ?_
  refine n_callN (st := [.ref b13, .ref h0]) (E := fun _ _ => True) (wc := [(b13, .inr (1, [.int 0]))]) (wr := [(h0, .inr (7, [.ref b1, .ref b3, .ref b5, .ref b7, .ref b9, .ref b11, .null])), (b1, .inr (6, [.ref (u2 0), .int 0])), (u2 0, .inl (cI, 46, .inl (va_cpy pv_ft (fun _ => 0) 0 1 5))), (b3, .inr (4, [.ref b1, .ref (u4 0), .ref (u4 1), .int 0])), (u4 0, .inl (cI, 10, .inl (fun _ => 0))), (u4 1, .inl (cI, 10, .inl (fun _ => 0))), (b5, .inr (5, [.ref b1, .ref (u6 0), .ref (u6 1), .ref (u6 2), .ref (u6 3), .int 0, .int 0, .int (-1), .int (-1)])), (u6 0, .inl (cI, 100, .inl (fun _ => 0))), (u6 1, .inl (cI, 1024, .inl (fun _ => 0))), (u6 2, .inl (cI, 11, .inl (fun _ => 0))), (u6 3, .inl (cI, 10, .inl (fun _ => 0))), (b7, .inr (2, [.ref (u8 0), .int 0, .int 0])), (u8 0, .inl (cI, 736, .inl (fun _ => 0))), (b9, .inr (3, [.ref (u10 0), .ref (u10 1), .ref (u10 2)])), (u10 0, .inl (cI, 92, .inl (fun _ => 0))), (u10 1, .inl (cI, 2, .inl (fun _ => 0))), (u10 2, .inl (cZ, 2, .inl (fun _ => 0))), (b11, .inr (0, [.ref (u12 0), .ref (u12 1), .int 0])), (u12 0, .inl (cI, 20, .inl (fun _ => 0))), (u12 1, .inl (cI, 20, .inl (fun _ => 0)))]) C kY_X1_init [20] [0, 1, 2, 3, 4, 5, 6, 7, 8, 9, 10, 11, 12, 13, 14, 15, 16, 17, 18, 19] rfl rfl (by decide) (by decide) (by decide) (fun sz => m_X1_init l D cI cZ b13  sz) (hE.2.2.2.2) ⟨rfl, rfl⟩ ⟨Nat.le_of_ble_eq_true rfl, Nat.le_of_ble_eq_true rfl⟩ ⟨Nat.le_of_ble_eq_true rfl, Nat.le_of_ble_eq_true rfl⟩ rfl rfl (Nat.le_of_ble_eq_true rfl) dX7_init_83 (fun _ _ _ _ _ _ _ => trivial) (fun _ _ _ _ _ _ => trivial) (fun u14 => ?_)
  refine n_widen 20 2108 (Nat.le_of_ble_eq_true rfl) (Nat.le_of_ble_eq_true rfl) ?_
  refine n_putF (w' := [(h0, .inr (7, [.ref b1, .ref b3, .ref b5, .ref b7, .ref b9, .ref b11, .ref b13])), (b1, .inr (6, [.ref (u2 0), .int 0])), (u2 0, .inl (cI, 46, .inl (va_cpy pv_ft (fun _ => 0) 0 1 5))), (b3, .inr (4, [.ref b1, .ref (u4 0), .ref (u4 1), .int 0])), (u4 0, .inl (cI, 10, .inl (fun _ => 0))), (u4 1, .inl (cI, 10, .inl (fun _ => 0))), (b5, .inr (5, [.ref b1, .ref (u6 0), .ref (u6 1), .ref (u6 2), .ref (u6 3), .int 0, .int 0, .int (-1), .int (-1)])), (u6 0, .inl (cI, 100, .inl (fun _ => 0))), (u6 1, .inl (cI, 1024, .inl (fun _ => 0))), (u6 2, .inl (cI, 11, .inl (fun _ => 0))), (u6 3, .inl (cI, 10, .inl (fun _ => 0))), (b7, .inr (2, [.ref (u8 0), .int 0, .int 0])), (u8 0, .inl (cI, 736, .inl (fun _ => 0))), (b9, .inr (3, [.ref (u10 0), .ref (u10 1), .ref (u10 2)])), (u10 0, .inl (cI, 92, .inl (fun _ => 0))), (u10 1, .inl (cI, 2, .inl (fun _ => 0))), (u10 2, .inl (cZ, 2, .inl (fun _ => 0))), (b11, .inr (0, [.ref (u12 0), .ref (u12 1), .int 0])), (u12 0, .inl (cI, 20, .inl (fun _ => 0))), (u12 1, .inl (cI, 20, .inl (fun _ => 0))), (b13, .inr (1, [.int 0]))]) C hin 0 7 6 rfl rfl iGX7 (by decide) kf_X7_56 tyX7 tyX7_ok nmX7 rfl rfl (ty := .object "PartedVoices$Draws") (by decide +kernel) rfl rfl (Nat.le_of_ble_eq_true rfl) rfl dX7_init_86 ?_
  exact n_ret (S := Nat → Nat) (B := fun ad => [(h0, .inr (7, [.ref (ad 1), .ref (ad 2), .ref (ad 3), .ref (ad 4), .ref (ad 5), .ref (ad 6), .ref (ad 7)])), (ad 1, .inr (6, [.ref (ad 9), .int 0])), (ad 9, .inl (cI, 46, .inl (va_cpy pv_ft (fun _ => 0) 0 1 5))), (ad 2, .inr (4, [.ref (ad 1), .ref (ad 10), .ref (ad 11), .int 0])), (ad 10, .inl (cI, 10, .inl (fun _ => 0))), (ad 11, .inl (cI, 10, .inl (fun _ => 0))), (ad 3, .inr (5, [.ref (ad 1), .ref (ad 12), .ref (ad 13), .ref (ad 14), .ref (ad 15), .int 0, .int 0, .int (-1), .int (-1)])), (ad 12, .inl (cI, 100, .inl (fun _ => 0))), (ad 13, .inl (cI, 1024, .inl (fun _ => 0))), (ad 14, .inl (cI, 11, .inl (fun _ => 0))), (ad 15, .inl (cI, 10, .inl (fun _ => 0))), (ad 4, .inr (2, [.ref (ad 16), .int 0, .int 0])), (ad 16, .inl (cI, 736, .inl (fun _ => 0))), (ad 5, .inr (3, [.ref (ad 17), .ref (ad 18), .ref (ad 19)])), (ad 17, .inl (cI, 92, .inl (fun _ => 0))), (ad 18, .inl (cI, 2, .inl (fun _ => 0))), (ad 19, .inl (cZ, 2, .inl (fun _ => 0))), (ad 6, .inr (0, [.ref (ad 20), .ref (ad 21), .int 0])), (ad 20, .inl (cI, 20, .inl (fun _ => 0))), (ad 21, .inl (cI, 20, .inl (fun _ => 0))), (ad 7, .inr (1, [.int 0]))]) C (fun k => [h0, b1, b3, b5, b7, b9, b11, b13, 0, u2 0, u4 0, u4 1, u6 0, u6 1, u6 2, u6 3, u8 0, u10 0, u10 1, u10 2, u12 0, u12 1, 0, 0, 0, 0, 0, 0].getD k 0) hr dX7_init_89 rfl
abbrev r_X8_init : Room := { frames := 1, cells := 6, slots := 12190, locals := 12 }
set_option maxRecDepth 100000 in
set_option maxHeartbeats 4000000 in
theorem m_X8_init (l : Launch) (D : va_G) (cI cZ : ClassId) (h0 : Nat) (sz : Nat) : Met l yX8_init (Cond.code yX8_init cX8_init 1 none :: lwG) r_X8_init (va_Pc [.ref h0] (pn_P D cI cZ [(h0, .inr (8, [.null, .int 0, .int 0, .int 0, .null, .null, .null, .int 0, .null, .null, .int 0]))] sz (fun _ => True))) (va_Qv (fun _ : Nat → Nat => True) (fun u t => va_P D vwCl ((fun ad => [(h0, .inr (8, [.ref (ad 22), .int 0, .int 0, .int 0, .ref (ad 23), .ref (ad 24), .ref (ad 25), .int 0, .ref (ad 26), .ref (ad 27), .int 0])), (ad 22, .inl (cI, 874, .inl (upd (upd (upd (upd (upd (fun _ => 0) 1 1) 2 1) 3 10) 4 20) 5 16))), (ad 23, .inl (cI, 2, .inl (fun _ => 0))), (ad 24, .inl (cI, 20, .inl (fun _ => 0))), (ad 25, .inl (cI, 20, .inl (fun _ => 0))), (ad 26, .inl (cI, 11264, .inl (fun _ => 0))), (ad 27, .inl (cI, 10, .inl (fun _ => 0)))]) u) t.heap ∧ va_D (va_A [(h0, .inr (8, [.null, .int 0, .int 0, .int 0, .null, .null, .null, .int 0, .null, .null, .int 0]))] sz) ((fun ad => [(h0, .inr (8, [.ref (ad 22), .int 0, .int 0, .int 0, .ref (ad 23), .ref (ad 24), .ref (ad 25), .int 0, .ref (ad 26), .ref (ad 27), .int 0])), (ad 22, .inl (cI, 874, .inl (upd (upd (upd (upd (upd (fun _ => 0) 1 1) 2 1) 3 10) 4 20) 5 16))), (ad 23, .inl (cI, 2, .inl (fun _ => 0))), (ad 24, .inl (cI, 20, .inl (fun _ => 0))), (ad 25, .inl (cI, 20, .inl (fun _ => 0))), (ad 26, .inl (cI, 11264, .inl (fun _ => 0))), (ad 27, .inl (cI, 10, .inl (fun _ => 0)))]) u)) (va_A [(h0, .inr (8, [.null, .int 0, .int 0, .int 0, .null, .null, .null, .int 0, .null, .null, .int 0]))] sz)) 6 12190 (va_A [(h0, .inr (8, [.null, .int 0, .int 0, .int 0, .null, .null, .null, .int 0, .null, .null, .int 0]))] sz) := by
  refine n_met (S := Nat → Nat) (B := fun ad => [(h0, .inr (8, [.ref (ad 22), .int 0, .int 0, .int 0, .ref (ad 23), .ref (ad 24), .ref (ad 25), .int 0, .ref (ad 26), .ref (ad 27), .int 0])), (ad 22, .inl (cI, 874, .inl (upd (upd (upd (upd (upd (fun _ => 0) 1 1) 2 1) 3 10) 4 20) 5 16))), (ad 23, .inl (cI, 2, .inl (fun _ => 0))), (ad 24, .inl (cI, 20, .inl (fun _ => 0))), (ad 25, .inl (cI, 20, .inl (fun _ => 0))), (ad 26, .inl (cI, 11264, .inl (fun _ => 0))), (ad 27, .inl (cI, 10, .inl (fun _ => 0)))]) (by decide) rfl rfl (Nat.le_of_ble_eq_true rfl) (fun p e s m args below meth c A hAe hszE C hin hr hE => ?_)
  subst hszE
  refine n_aload C dX8_init_0 rfl 0 rfl ?_
  refine n_obj C kO_X8 kO_inst kO_code dX8_init_1 ⟨Nat.le_of_ble_eq_true rfl, Nat.le_of_ble_eq_true rfl⟩ ?_
  refine n_aload C dX8_init_4 rfl 0 rfl ?_
  refine n_sipush (v := 874) C dX8_init_5 (by decide) ?_
  refine n_newi C 874 kT_int (by decide) (by decide) (Nat.le_of_ble_eq_true rfl) ⟨Nat.le_of_ble_eq_true rfl, Nat.le_of_ble_eq_true rfl⟩ dX8_init_8 (fun a1 => ?_)
  refine n_widen 1 874 (Nat.le_of_ble_eq_true rfl) (Nat.le_of_ble_eq_true rfl) ?_
  refine n_putF (w' := [(h0, .inr (8, [.ref a1, .int 0, .int 0, .int 0, .null, .null, .null, .int 0, .null, .null, .int 0])), (a1, .inl (cI, 874, .inl (fun _ => 0)))]) C hin 0 8 0 rfl rfl iGX8 (by decide) kf_X8_7 tyX8 tyX8_ok nmX8 rfl rfl (ty := .array .int) (by decide +kernel) rfl rfl (Nat.le_of_ble_eq_true rfl) rfl dX8_init_10 ?_
  refine n_aload C dX8_init_13 rfl 0 rfl ?_
  refine n_iconst (v := 2) C dX8_init_14 (by decide) ?_
  refine n_newi C 2 kT_int (by decide) (by decide) (Nat.le_of_ble_eq_true rfl) ⟨Nat.le_of_ble_eq_true rfl, Nat.le_of_ble_eq_true rfl⟩ dX8_init_15 (fun a2 => ?_)
  refine n_widen 2 876 (Nat.le_of_ble_eq_true rfl) (Nat.le_of_ble_eq_true rfl) ?_
  refine n_putF (w' := [(h0, .inr (8, [.ref a1, .int 0, .int 0, .int 0, .ref a2, .null, .null, .int 0, .null, .null, .int 0])), (a1, .inl (cI, 874, .inl (fun _ => 0))), (a2, .inl (cI, 2, .inl (fun _ => 0)))]) C hin 0 8 4 rfl rfl iGX8 (by decide) kf_X8_13 tyX8 tyX8_ok nmX8 rfl rfl (ty := .array .int) (by decide +kernel) rfl rfl (Nat.le_of_ble_eq_true rfl) rfl dX8_init_17 ?_
  refine n_aload C dX8_init_20 rfl 0 rfl ?_
  refine n_bipush (v := 20) C dX8_init_21 (by decide) ?_
  refine n_newi C 20 kT_int (by decide) (by decide) (Nat.le_of_ble_eq_true rfl) ⟨Nat.le_of_ble_eq_true rfl, Nat.le_of_ble_eq_true rfl⟩ dX8_init_23 (fun a3 => ?_)
  refine n_widen 3 896 (Nat.le_of_ble_eq_true rfl) (Nat.le_of_ble_eq_true rfl) ?_
  refine n_putF (w' := [(h0, .inr (8, [.ref a1, .int 0, .int 0, .int 0, .ref a2, .ref a3, .null, .int 0, .null, .null, .int 0])), (a1, .inl (cI, 874, .inl (fun _ => 0))), (a2, .inl (cI, 2, .inl (fun _ => 0))), (a3, .inl (cI, 20, .inl (fun _ => 0)))]) C hin 0 8 5 rfl rfl iGX8 (by decide) kf_X8_16 tyX8 tyX8_ok nmX8 rfl rfl (ty := .array .int) (by decide +kernel) rfl rfl (Nat.le_of_ble_eq_true rfl) rfl dX8_init_25 ?_
  refine n_aload C dX8_init_28 rfl 0 rfl ?_
  refine n_bipush (v := 20) C dX8_init_29 (by decide) ?_
  refine n_newi C 20 kT_int (by decide) (by decide) (Nat.le_of_ble_eq_true rfl) ⟨Nat.le_of_ble_eq_true rfl, Nat.le_of_ble_eq_true rfl⟩ dX8_init_31 (fun a4 => ?_)
  refine n_widen 4 916 (Nat.le_of_ble_eq_true rfl) (Nat.le_of_ble_eq_true rfl) ?_
  refine n_putF (w' := [(h0, .inr (8, [.ref a1, .int 0, .int 0, .int 0, .ref a2, .ref a3, .ref a4, .int 0, .null, .null, .int 0])), (a1, .inl (cI, 874, .inl (fun _ => 0))), (a2, .inl (cI, 2, .inl (fun _ => 0))), (a3, .inl (cI, 20, .inl (fun _ => 0))), (a4, .inl (cI, 20, .inl (fun _ => 0)))]) C hin 0 8 6 rfl rfl iGX8 (by decide) kf_X8_19 tyX8 tyX8_ok nmX8 rfl rfl (ty := .array .int) (by decide +kernel) rfl rfl (Nat.le_of_ble_eq_true rfl) rfl dX8_init_33 ?_
  refine n_aload C dX8_init_36 rfl 0 rfl ?_
  refine n_sipush (v := 11264) C dX8_init_37 (by decide) ?_
  refine n_newi C 11264 kT_int (by decide) (by decide) (Nat.le_of_ble_eq_true rfl) ⟨Nat.le_of_ble_eq_true rfl, Nat.le_of_ble_eq_true rfl⟩ dX8_init_40 (fun a5 => ?_)
  refine n_widen 5 12180 (Nat.le_of_ble_eq_true rfl) (Nat.le_of_ble_eq_true rfl) ?_
  refine n_putF (w' := [(h0, .inr (8, [.ref a1, .int 0, .int 0, .int 0, .ref a2, .ref a3, .ref a4, .int 0, .ref a5, .null, .int 0])), (a1, .inl (cI, 874, .inl (fun _ => 0))), (a2, .inl (cI, 2, .inl (fun _ => 0))), (a3, .inl (cI, 20, .inl (fun _ => 0))), (a4, .inl (cI, 20, .inl (fun _ => 0))), (a5, .inl (cI, 11264, .inl (fun _ => 0)))]) C hin 0 8 8 rfl rfl iGX8 (by decide) kf_X8_22 tyX8 tyX8_ok nmX8 rfl rfl (ty := .array .int) (by decide +kernel) rfl rfl (Nat.le_of_ble_eq_true rfl) rfl dX8_init_42 ?_
  refine n_aload C dX8_init_45 rfl 0 rfl ?_
  refine n_bipush (v := 10) C dX8_init_46 (by decide) ?_
  refine n_newi C 10 kT_int (by decide) (by decide) (Nat.le_of_ble_eq_true rfl) ⟨Nat.le_of_ble_eq_true rfl, Nat.le_of_ble_eq_true rfl⟩ dX8_init_48 (fun a6 => ?_)
  refine n_widen 6 12190 (Nat.le_of_ble_eq_true rfl) (Nat.le_of_ble_eq_true rfl) ?_
  refine n_putF (w' := [(h0, .inr (8, [.ref a1, .int 0, .int 0, .int 0, .ref a2, .ref a3, .ref a4, .int 0, .ref a5, .ref a6, .int 0])), (a1, .inl (cI, 874, .inl (fun _ => 0))), (a2, .inl (cI, 2, .inl (fun _ => 0))), (a3, .inl (cI, 20, .inl (fun _ => 0))), (a4, .inl (cI, 20, .inl (fun _ => 0))), (a5, .inl (cI, 11264, .inl (fun _ => 0))), (a6, .inl (cI, 10, .inl (fun _ => 0)))]) C hin 0 8 9 rfl rfl iGX8 (by decide) kf_X8_25 tyX8 tyX8_ok nmX8 rfl rfl (ty := .array .int) (by decide +kernel) rfl rfl (Nat.le_of_ble_eq_true rfl) rfl dX8_init_50 ?_
  refine n_aload C dX8_init_53 rfl 0 rfl ?_
  refine n_get (v := .ref a1) C 0 8 0 rfl rfl iGX8 (by decide) kf_X8_7 rfl dX8_init_54 ?_
  refine n_iconst (v := 1) C dX8_init_57 (by decide) ?_
  refine n_iconst (v := 1) C dX8_init_58 (by decide) ?_
  refine n_iast (w' := [(h0, .inr (8, [.ref a1, .int 0, .int 0, .int 0, .ref a2, .ref a3, .ref a4, .int 0, .ref a5, .ref a6, .int 0])), (a1, .inl (cI, 874, .inl (upd (fun _ => 0) 1 1))), (a2, .inl (cI, 2, .inl (fun _ => 0))), (a3, .inl (cI, 20, .inl (fun _ => 0))), (a4, .inl (cI, 20, .inl (fun _ => 0))), (a5, .inl (cI, 11264, .inl (fun _ => 0))), (a6, .inl (cI, 10, .inl (fun _ => 0)))]) C 1 rfl (by unfold vp_in; decide) rfl dX8_init_59 ?_
  refine n_aload C dX8_init_60 rfl 0 rfl ?_
  refine n_get (v := .ref a1) C 0 8 0 rfl rfl iGX8 (by decide) kf_X8_7 rfl dX8_init_61 ?_
  refine n_iconst (v := 2) C dX8_init_64 (by decide) ?_
  refine n_iconst (v := 1) C dX8_init_65 (by decide) ?_
  refine n_iast (w' := [(h0, .inr (8, [.ref a1, .int 0, .int 0, .int 0, .ref a2, .ref a3, .ref a4, .int 0, .ref a5, .ref a6, .int 0])), (a1, .inl (cI, 874, .inl (upd (upd (fun _ => 0) 1 1) 2 1))), (a2, .inl (cI, 2, .inl (fun _ => 0))), (a3, .inl (cI, 20, .inl (fun _ => 0))), (a4, .inl (cI, 20, .inl (fun _ => 0))), (a5, .inl (cI, 11264, .inl (fun _ => 0))), (a6, .inl (cI, 10, .inl (fun _ => 0)))]) C 1 rfl (by unfold vp_in; decide) rfl dX8_init_66 ?_
  refine n_aload C dX8_init_67 rfl 0 rfl ?_
  refine n_get (v := .ref a1) C 0 8 0 rfl rfl iGX8 (by decide) kf_X8_7 rfl dX8_init_68 ?_
  refine n_iconst (v := 3) C dX8_init_71 (by decide) ?_
  refine n_bipush (v := 10) C dX8_init_72 (by decide) ?_
  refine n_iast (w' := [(h0, .inr (8, [.ref a1, .int 0, .int 0, .int 0, .ref a2, .ref a3, .ref a4, .int 0, .ref a5, .ref a6, .int 0])), (a1, .inl (cI, 874, .inl (upd (upd (upd (fun _ => 0) 1 1) 2 1) 3 10))), (a2, .inl (cI, 2, .inl (fun _ => 0))), (a3, .inl (cI, 20, .inl (fun _ => 0))), (a4, .inl (cI, 20, .inl (fun _ => 0))), (a5, .inl (cI, 11264, .inl (fun _ => 0))), (a6, .inl (cI, 10, .inl (fun _ => 0)))]) C 1 rfl (by unfold vp_in; decide) rfl dX8_init_74 ?_
  refine n_aload C dX8_init_75 rfl 0 rfl ?_
  refine n_get (v := .ref a1) C 0 8 0 rfl rfl iGX8 (by decide) kf_X8_7 rfl dX8_init_76 ?_
  refine n_iconst (v := 4) C dX8_init_79 (by decide) ?_
  refine n_bipush (v := 20) C dX8_init_80 (by decide) ?_
  refine n_iast (w' := [(h0, .inr (8, [.ref a1, .int 0, .int 0, .int 0, .ref a2, .ref a3, .ref a4, .int 0, .ref a5, .ref a6, .int 0])), (a1, .inl (cI, 874, .inl (upd (upd (upd (upd (fun _ => 0) 1 1) 2 1) 3 10) 4 20))), (a2, .inl (cI, 2, .inl (fun _ => 0))), (a3, .inl (cI, 20, .inl (fun _ => 0))), (a4, .inl (cI, 20, .inl (fun _ => 0))), (a5, .inl (cI, 11264, .inl (fun _ => 0))), (a6, .inl (cI, 10, .inl (fun _ => 0)))]) C 1 rfl (by unfold vp_in; decide) rfl dX8_init_82 ?_
  refine n_aload C dX8_init_83 rfl 0 rfl ?_
  refine n_get (v := .ref a1) C 0 8 0 rfl rfl iGX8 (by decide) kf_X8_7 rfl dX8_init_84 ?_
  refine n_iconst (v := 5) C dX8_init_87 (by decide) ?_
  refine n_bipush (v := 16) C dX8_init_88 (by decide) ?_
  refine n_iast (w' := [(h0, .inr (8, [.ref a1, .int 0, .int 0, .int 0, .ref a2, .ref a3, .ref a4, .int 0, .ref a5, .ref a6, .int 0])), (a1, .inl (cI, 874, .inl (upd (upd (upd (upd (upd (fun _ => 0) 1 1) 2 1) 3 10) 4 20) 5 16))), (a2, .inl (cI, 2, .inl (fun _ => 0))), (a3, .inl (cI, 20, .inl (fun _ => 0))), (a4, .inl (cI, 20, .inl (fun _ => 0))), (a5, .inl (cI, 11264, .inl (fun _ => 0))), (a6, .inl (cI, 10, .inl (fun _ => 0)))]) C 1 rfl (by unfold vp_in; decide) rfl dX8_init_90 ?_
  exact n_ret (S := Nat → Nat) (B := fun ad => [(h0, .inr (8, [.ref (ad 22), .int 0, .int 0, .int 0, .ref (ad 23), .ref (ad 24), .ref (ad 25), .int 0, .ref (ad 26), .ref (ad 27), .int 0])), (ad 22, .inl (cI, 874, .inl (upd (upd (upd (upd (upd (fun _ => 0) 1 1) 2 1) 3 10) 4 20) 5 16))), (ad 23, .inl (cI, 2, .inl (fun _ => 0))), (ad 24, .inl (cI, 20, .inl (fun _ => 0))), (ad 25, .inl (cI, 20, .inl (fun _ => 0))), (ad 26, .inl (cI, 11264, .inl (fun _ => 0))), (ad 27, .inl (cI, 10, .inl (fun _ => 0)))]) C (fun k => [0, 0, 0, 0, 0, 0, 0, 0, h0, 0, 0, 0, 0, 0, 0, 0, 0, 0, 0, 0, 0, 0, a1, a2, a3, a4, a5, a6].getD k 0) hr dX8_init_91 rfl
