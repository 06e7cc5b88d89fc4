theorem lwG_a {w : Cond} (i : Nat) (h : tables_1_1[i]? = some w) (hg : goodWord w = true) : w ∈ lwG := List.mem_filter.mpr ⟨List.mem_append_right _ (List.mem_append_left _ (List.mem_of_getElem? h)), hg⟩
theorem lwG_b {w : Cond} (i : Nat) (h : tables_1_2[i]? = some w) (hg : goodWord w = true) : w ∈ lwG := List.mem_filter.mpr ⟨List.mem_append_right _ (List.mem_append_right _ (List.mem_append_left _ (List.mem_of_getElem? h))), hg⟩
theorem lwG_c {w : Cond} (i : Nat) (h : tables_1_3[i]? = some w) (hg : goodWord w = true) : w ∈ lwG := List.mem_filter.mpr ⟨List.mem_append_right _ (List.mem_append_right _ (List.mem_append_right _ (List.mem_append_left _ (List.mem_of_getElem? h)))), hg⟩
theorem lwG_d {w : Cond} (i : Nat) (h : tables_1_4[i]? = some w) (hg : goodWord w = true) : w ∈ lwG := List.mem_filter.mpr ⟨List.mem_append_right _ (List.mem_append_right _ (List.mem_append_right _ (List.mem_append_right _ (List.mem_of_getElem? h)))), hg⟩
theorem iGX0 : ∀ w ∈ wsX00, w ∈ lwG := by
  intro w h
  obtain ⟨k, hk, rfl⟩ := List.mem_map.mp h
  have hk := List.mem_range.mp hk
  match k, hk with
  | 0, _ => exact lwG_a 136 rfl rfl
  | 1, _ => exact lwG_a 138 rfl rfl
  | 2, _ => exact lwG_a 140 rfl rfl
  | k + 3, h => exact absurd h (by omega)
theorem iGX1 : ∀ w ∈ wsX10, w ∈ lwG := by
  intro w h
  obtain ⟨k, hk, rfl⟩ := List.mem_map.mp h
  have hk := List.mem_range.mp hk
  match k, hk with
  | 0, _ => exact lwG_a 150 rfl rfl
  | k + 1, h => exact absurd h (by omega)
theorem iGX2 : ∀ w ∈ wsX20, w ∈ lwG := by
  intro w h
  obtain ⟨k, hk, rfl⟩ := List.mem_map.mp h
  have hk := List.mem_range.mp hk
  match k, hk with
  | 0, _ => exact lwG_a 103 rfl rfl
  | 1, _ => exact lwG_a 105 rfl rfl
  | 2, _ => exact lwG_a 107 rfl rfl
  | k + 3, h => exact absurd h (by omega)
theorem iGX3 : ∀ w ∈ wsX30, w ∈ lwG := by
  intro w h
  obtain ⟨k, hk, rfl⟩ := List.mem_map.mp h
  have hk := List.mem_range.mp hk
  match k, hk with
  | 0, _ => exact lwG_a 119 rfl rfl
  | 1, _ => exact lwG_a 121 rfl rfl
  | 2, _ => exact lwG_a 123 rfl rfl
  | k + 3, h => exact absurd h (by omega)
theorem iGX4 : ∀ w ∈ wsX40, w ∈ lwG := by
  intro w h
  obtain ⟨k, hk, rfl⟩ := List.mem_map.mp h
  have hk := List.mem_range.mp hk
  match k, hk with
  | 0, _ => exact lwG_a 51 rfl rfl
  | 1, _ => exact lwG_a 53 rfl rfl
  | 2, _ => exact lwG_a 55 rfl rfl
  | 3, _ => exact lwG_a 57 rfl rfl
  | k + 4, h => exact absurd h (by omega)
theorem iGX5 : ∀ w ∈ wsX50, w ∈ lwG := by
  intro w h
  obtain ⟨k, hk, rfl⟩ := List.mem_map.mp h
  have hk := List.mem_range.mp hk
  match k, hk with
  | 0, _ => exact lwG_a 75 rfl rfl
  | 1, _ => exact lwG_a 77 rfl rfl
  | 2, _ => exact lwG_a 79 rfl rfl
  | 3, _ => exact lwG_a 81 rfl rfl
  | 4, _ => exact lwG_a 83 rfl rfl
  | 5, _ => exact lwG_a 85 rfl rfl
  | 6, _ => exact lwG_a 87 rfl rfl
  | 7, _ => exact lwG_a 89 rfl rfl
  | 8, _ => exact lwG_a 91 rfl rfl
  | k + 9, h => exact absurd h (by omega)
theorem iGX6 : ∀ w ∈ wsX60, w ∈ lwG := by
  intro w h
  obtain ⟨k, hk, rfl⟩ := List.mem_map.mp h
  have hk := List.mem_range.mp hk
  match k, hk with
  | 0, _ => exact lwG_a 35 rfl rfl
  | 1, _ => exact lwG_a 37 rfl rfl
  | k + 2, h => exact absurd h (by omega)
theorem iGX7 : ∀ w ∈ wsX70, w ∈ lwG := by
  intro w h
  obtain ⟨k, hk, rfl⟩ := List.mem_map.mp h
  have hk := List.mem_range.mp hk
  match k, hk with
  | 0, _ => exact lwG_a 160 rfl rfl
  | 1, _ => exact lwG_a 162 rfl rfl
  | 2, _ => exact lwG_a 164 rfl rfl
  | 3, _ => exact lwG_a 166 rfl rfl
  | 4, _ => exact lwG_a 168 rfl rfl
  | 5, _ => exact lwG_a 170 rfl rfl
  | 6, _ => exact lwG_a 172 rfl rfl
  | k + 7, h => exact absurd h (by omega)
theorem iGX8 : ∀ w ∈ wsX80, w ∈ lwG := by
  intro w h
  obtain ⟨k, hk, rfl⟩ := List.mem_map.mp h
  have hk := List.mem_range.mp hk
  match k, hk with
  | 0, _ => exact lwG_c 203 rfl rfl
  | 1, _ => exact lwG_c 205 rfl rfl
  | 2, _ => exact lwG_c 207 rfl rfl
  | 3, _ => exact lwG_c 209 rfl rfl
  | 4, _ => exact lwG_c 211 rfl rfl
  | 5, _ => exact lwG_c 213 rfl rfl
  | 6, _ => exact lwG_c 215 rfl rfl
  | 7, _ => exact lwG_c 217 rfl rfl
  | 8, _ => exact lwG_c 219 rfl rfl
  | 9, _ => exact lwG_c 221 rfl rfl
  | 10, _ => exact lwG_c 223 rfl rfl
  | k + 11, h => exact absurd h (by omega)
def pv_la (σ : pv_S) (k : Nat) (i : Int32) : Int32 := σ.2 k i.toNatClampNeg
def pv_sa (σ : pv_S) (k : Nat) (i x : Int32) : pv_S := pv_pa σ k (upd (σ.2 k) i.toNatClampNeg x)
def pv_sz (σ : pv_S) (k : Nat) (i x : Int32) : pv_S := pv_pa σ k (upd (σ.2 k) i.toNatClampNeg (vp_nar .boolean x))
def pv_cp (σ : pv_S) (k0 k1 : Nat) (sp dp n : Int32) : pv_S := pv_pa σ k1 (va_cpy (σ.2 k0) (σ.2 k1) sp.toNatClampNeg dp.toNatClampNeg n.toNatClampNeg)
def pv_FU : Nat := 5000
section PVF
variable {p : Program} {l : Launch} {e : Env} {R : Room} {s : State} {m : MethodId} {args : Array Value} {below : List Frame} {meth : Method} {c : Code} {cells slots : Nat} {Q : State → Prop}
variable {cc : ByteArray} {nL : Nat} {D : va_G} {cI cZ : ClassId} {ad : Nat → Nat} {A : Nat → Prop} {pc : Nat} {lv : List (Nat × Value)} {st : List Value} {σ : pv_S}
theorem kf_X7_10 : Cond.fieldLink RX7 10 (TX7 0).1 (TX7 0).2.1 (TX7 0).2.2.1 ∈ lwG := lwG_a 153 rfl rfl
theorem xg_X7_10 (C : pv_C p s m args meth c cc nL RX7 D cI cZ ad A) (hdg : decode cc pc = .ok (.getfield 10, 3)) (kk : Wx p l e R s m args below meth c cells slots Q nL D cI cZ ad A (pc + 3) lv (.ref (ad 1) :: st) σ) : Wx p l e R s m args below meth c cells slots Q nL D cI cZ ad A pc lv (.ref (ad 0) :: st) σ := x_get C 0 7 0 rfl rfl iGX7 (by decide) kf_X7_10 rfl hdg kk
theorem kf_X7_21 : Cond.fieldLink RX7 21 (TX7 1).1 (TX7 1).2.1 (TX7 1).2.2.1 ∈ lwG := lwG_a 154 rfl rfl
theorem xg_X7_21 (C : pv_C p s m args meth c cc nL RX7 D cI cZ ad A) (hdg : decode cc pc = .ok (.getfield 21, 3)) (kk : Wx p l e R s m args below meth c cells slots Q nL D cI cZ ad A (pc + 3) lv (.ref (ad 2) :: st) σ) : Wx p l e R s m args below meth c cells slots Q nL D cI cZ ad A pc lv (.ref (ad 0) :: st) σ := x_get C 0 7 1 rfl rfl iGX7 (by decide) kf_X7_21 rfl hdg kk
theorem kf_X7_28 : Cond.fieldLink RX7 28 (TX7 2).1 (TX7 2).2.1 (TX7 2).2.2.1 ∈ lwG := lwG_a 155 rfl rfl
theorem xg_X7_28 (C : pv_C p s m args meth c cc nL RX7 D cI cZ ad A) (hdg : decode cc pc = .ok (.getfield 28, 3)) (kk : Wx p l e R s m args below meth c cells slots Q nL D cI cZ ad A (pc + 3) lv (.ref (ad 3) :: st) σ) : Wx p l e R s m args below meth c cells slots Q nL D cI cZ ad A pc lv (.ref (ad 0) :: st) σ := x_get C 0 7 2 rfl rfl iGX7 (by decide) kf_X7_28 rfl hdg kk
theorem kf_X7_35 : Cond.fieldLink RX7 35 (TX7 3).1 (TX7 3).2.1 (TX7 3).2.2.1 ∈ lwG := lwG_a 156 rfl rfl
theorem xg_X7_35 (C : pv_C p s m args meth c cc nL RX7 D cI cZ ad A) (hdg : decode cc pc = .ok (.getfield 35, 3)) (kk : Wx p l e R s m args below meth c cells slots Q nL D cI cZ ad A (pc + 3) lv (.ref (ad 4) :: st) σ) : Wx p l e R s m args below meth c cells slots Q nL D cI cZ ad A pc lv (.ref (ad 0) :: st) σ := x_get C 0 7 3 rfl rfl iGX7 (by decide) kf_X7_35 rfl hdg kk
theorem kf_X7_42 : Cond.fieldLink RX7 42 (TX7 4).1 (TX7 4).2.1 (TX7 4).2.2.1 ∈ lwG := lwG_a 157 rfl rfl
theorem xg_X7_42 (C : pv_C p s m args meth c cc nL RX7 D cI cZ ad A) (hdg : decode cc pc = .ok (.getfield 42, 3)) (kk : Wx p l e R s m args below meth c cells slots Q nL D cI cZ ad A (pc + 3) lv (.ref (ad 5) :: st) σ) : Wx p l e R s m args below meth c cells slots Q nL D cI cZ ad A pc lv (.ref (ad 0) :: st) σ := x_get C 0 7 4 rfl rfl iGX7 (by decide) kf_X7_42 rfl hdg kk
theorem kf_X7_49 : Cond.fieldLink RX7 49 (TX7 5).1 (TX7 5).2.1 (TX7 5).2.2.1 ∈ lwG := lwG_a 158 rfl rfl
theorem xg_X7_49 (C : pv_C p s m args meth c cc nL RX7 D cI cZ ad A) (hdg : decode cc pc = .ok (.getfield 49, 3)) (kk : Wx p l e R s m args below meth c cells slots Q nL D cI cZ ad A (pc + 3) lv (.ref (ad 6) :: st) σ) : Wx p l e R s m args below meth c cells slots Q nL D cI cZ ad A pc lv (.ref (ad 0) :: st) σ := x_get C 0 7 5 rfl rfl iGX7 (by decide) kf_X7_49 rfl hdg kk
theorem kf_X7_56 : Cond.fieldLink RX7 56 (TX7 6).1 (TX7 6).2.1 (TX7 6).2.2.1 ∈ lwG := lwG_a 159 rfl rfl
theorem xg_X7_56 (C : pv_C p s m args meth c cc nL RX7 D cI cZ ad A) (hdg : decode cc pc = .ok (.getfield 56, 3)) (kk : Wx p l e R s m args below meth c cells slots Q nL D cI cZ ad A (pc + 3) lv (.ref (ad 7) :: st) σ) : Wx p l e R s m args below meth c cells slots Q nL D cI cZ ad A pc lv (.ref (ad 0) :: st) σ := x_get C 0 7 6 rfl rfl iGX7 (by decide) kf_X7_56 rfl hdg kk
theorem kf_X0_11 : Cond.fieldLink RX0 11 (TX0 0).1 (TX0 0).2.1 (TX0 0).2.2.1 ∈ lwG := lwG_a 133 rfl rfl
theorem xg_X0_11 (C : pv_C p s m args meth c cc nL RX0 D cI cZ ad A) (hdg : decode cc pc = .ok (.getfield 11, 3)) (kk : Wx p l e R s m args below meth c cells slots Q nL D cI cZ ad A (pc + 3) lv (.ref (ad 20) :: st) σ) : Wx p l e R s m args below meth c cells slots Q nL D cI cZ ad A pc lv (.ref (ad 6) :: st) σ := x_get C 6 0 0 rfl rfl iGX0 (by decide) kf_X0_11 rfl hdg kk
theorem kf_X0_15 : Cond.fieldLink RX0 15 (TX0 1).1 (TX0 1).2.1 (TX0 1).2.2.1 ∈ lwG := lwG_a 134 rfl rfl
theorem xg_X0_15 (C : pv_C p s m args meth c cc nL RX0 D cI cZ ad A) (hdg : decode cc pc = .ok (.getfield 15, 3)) (kk : Wx p l e R s m args below meth c cells slots Q nL D cI cZ ad A (pc + 3) lv (.ref (ad 21) :: st) σ) : Wx p l e R s m args below meth c cells slots Q nL D cI cZ ad A pc lv (.ref (ad 6) :: st) σ := x_get C 6 0 1 rfl rfl iGX0 (by decide) kf_X0_15 rfl hdg kk
theorem kf_X0_18 : Cond.fieldLink RX0 18 (TX0 2).1 (TX0 2).2.1 (TX0 2).2.2.1 ∈ lwG := lwG_a 135 rfl rfl
theorem xg_X0_18 (C : pv_C p s m args meth c cc nL RX0 D cI cZ ad A) (hdg : decode cc pc = .ok (.getfield 18, 3)) (kk : Wx p l e R s m args below meth c cells slots Q nL D cI cZ ad A (pc + 3) lv (.int (σ.1 8) :: st) σ) : Wx p l e R s m args below meth c cells slots Q nL D cI cZ ad A pc lv (.ref (ad 6) :: st) σ := x_get C 6 0 2 rfl rfl iGX0 (by decide) kf_X0_18 rfl hdg kk
theorem xp_X0_18 (C : pv_C p s m args meth c cc nL RX0 D cI cZ ad A) {v : Int32} (hdg : decode cc pc = .ok (.putfield 18, 3)) (kk : Wx p l e R s m args below meth c cells slots Q nL D cI cZ ad A (pc + 3) lv st (pv_pi σ 8 v)) : Wx p l e R s m args below meth c cells slots Q nL D cI cZ ad A pc lv (.int v :: .ref (ad 6) :: st) σ := x_put C 6 0 2 rfl rfl iGX0 (by decide) kf_X0_18 tyX0 tyX0_ok nmX0 rfl rfl (Nat.le_of_ble_eq_true rfl) rfl hdg kk
theorem kf_X1_7 : Cond.fieldLink RX1 7 (TX1 0).1 (TX1 0).2.1 (TX1 0).2.2.1 ∈ lwG := lwG_a 149 rfl rfl
theorem xg_X1_7 (C : pv_C p s m args meth c cc nL RX1 D cI cZ ad A) (hdg : decode cc pc = .ok (.getfield 7, 3)) (kk : Wx p l e R s m args below meth c cells slots Q nL D cI cZ ad A (pc + 3) lv (.int (σ.1 9) :: st) σ) : Wx p l e R s m args below meth c cells slots Q nL D cI cZ ad A pc lv (.ref (ad 7) :: st) σ := x_get C 7 1 0 rfl rfl iGX1 (by decide) kf_X1_7 rfl hdg kk
theorem xp_X1_7 (C : pv_C p s m args meth c cc nL RX1 D cI cZ ad A) {v : Int32} (hdg : decode cc pc = .ok (.putfield 7, 3)) (kk : Wx p l e R s m args below meth c cells slots Q nL D cI cZ ad A (pc + 3) lv st (pv_pi σ 9 v)) : Wx p l e R s m args below meth c cells slots Q nL D cI cZ ad A pc lv (.int v :: .ref (ad 7) :: st) σ := x_put C 7 1 0 rfl rfl iGX1 (by decide) kf_X1_7 tyX1 tyX1_ok nmX1 rfl rfl (Nat.le_of_ble_eq_true rfl) rfl hdg kk
theorem kf_X2_11 : Cond.fieldLink RX2 11 (TX2 0).1 (TX2 0).2.1 (TX2 0).2.2.1 ∈ lwG := lwG_a 100 rfl rfl
theorem xg_X2_11 (C : pv_C p s m args meth c cc nL RX2 D cI cZ ad A) (hdg : decode cc pc = .ok (.getfield 11, 3)) (kk : Wx p l e R s m args below meth c cells slots Q nL D cI cZ ad A (pc + 3) lv (.ref (ad 16) :: st) σ) : Wx p l e R s m args below meth c cells slots Q nL D cI cZ ad A pc lv (.ref (ad 4) :: st) σ := x_get C 4 2 0 rfl rfl iGX2 (by decide) kf_X2_11 rfl hdg kk
theorem kf_X2_15 : Cond.fieldLink RX2 15 (TX2 2).1 (TX2 2).2.1 (TX2 2).2.2.1 ∈ lwG := lwG_a 102 rfl rfl
theorem xg_X2_15 (C : pv_C p s m args meth c cc nL RX2 D cI cZ ad A) (hdg : decode cc pc = .ok (.getfield 15, 3)) (kk : Wx p l e R s m args below meth c cells slots Q nL D cI cZ ad A (pc + 3) lv (.int (σ.1 7) :: st) σ) : Wx p l e R s m args below meth c cells slots Q nL D cI cZ ad A pc lv (.ref (ad 4) :: st) σ := x_get C 4 2 2 rfl rfl iGX2 (by decide) kf_X2_15 rfl hdg kk
theorem xp_X2_15 (C : pv_C p s m args meth c cc nL RX2 D cI cZ ad A) {v : Int32} (hdg : decode cc pc = .ok (.putfield 15, 3)) (kk : Wx p l e R s m args below meth c cells slots Q nL D cI cZ ad A (pc + 3) lv st (pv_pi σ 7 v)) : Wx p l e R s m args below meth c cells slots Q nL D cI cZ ad A pc lv (.int v :: .ref (ad 4) :: st) σ := x_put C 4 2 2 rfl rfl iGX2 (by decide) kf_X2_15 tyX2 tyX2_ok nmX2 rfl rfl (Nat.le_of_ble_eq_true rfl) rfl hdg kk
theorem kf_X2_19 : Cond.fieldLink RX2 19 (TX2 1).1 (TX2 1).2.1 (TX2 1).2.2.1 ∈ lwG := lwG_a 101 rfl rfl
theorem xg_X2_19 (C : pv_C p s m args meth c cc nL RX2 D cI cZ ad A) (hdg : decode cc pc = .ok (.getfield 19, 3)) (kk : Wx p l e R s m args below meth c cells slots Q nL D cI cZ ad A (pc + 3) lv (.int (σ.1 6) :: st) σ) : Wx p l e R s m args below meth c cells slots Q nL D cI cZ ad A pc lv (.ref (ad 4) :: st) σ := x_get C 4 2 1 rfl rfl iGX2 (by decide) kf_X2_19 rfl hdg kk
theorem xp_X2_19 (C : pv_C p s m args meth c cc nL RX2 D cI cZ ad A) {v : Int32} (hdg : decode cc pc = .ok (.putfield 19, 3)) (kk : Wx p l e R s m args below meth c cells slots Q nL D cI cZ ad A (pc + 3) lv st (pv_pi σ 6 v)) : Wx p l e R s m args below meth c cells slots Q nL D cI cZ ad A pc lv (.int v :: .ref (ad 4) :: st) σ := x_put C 4 2 1 rfl rfl iGX2 (by decide) kf_X2_19 tyX2 tyX2_ok nmX2 rfl rfl (Nat.le_of_ble_eq_true rfl) rfl hdg kk
theorem kf_X3_11 : Cond.fieldLink RX3 11 (TX3 0).1 (TX3 0).2.1 (TX3 0).2.2.1 ∈ lwG := lwG_a 116 rfl rfl
theorem xg_X3_11 (C : pv_C p s m args meth c cc nL RX3 D cI cZ ad A) (hdg : decode cc pc = .ok (.getfield 11, 3)) (kk : Wx p l e R s m args below meth c cells slots Q nL D cI cZ ad A (pc + 3) lv (.ref (ad 17) :: st) σ) : Wx p l e R s m args below meth c cells slots Q nL D cI cZ ad A pc lv (.ref (ad 5) :: st) σ := x_get C 5 3 0 rfl rfl iGX3 (by decide) kf_X3_11 rfl hdg kk
theorem kf_X3_15 : Cond.fieldLink RX3 15 (TX3 1).1 (TX3 1).2.1 (TX3 1).2.2.1 ∈ lwG := lwG_a 117 rfl rfl
theorem xg_X3_15 (C : pv_C p s m args meth c cc nL RX3 D cI cZ ad A) (hdg : decode cc pc = .ok (.getfield 15, 3)) (kk : Wx p l e R s m args below meth c cells slots Q nL D cI cZ ad A (pc + 3) lv (.ref (ad 18) :: st) σ) : Wx p l e R s m args below meth c cells slots Q nL D cI cZ ad A pc lv (.ref (ad 5) :: st) σ := x_get C 5 3 1 rfl rfl iGX3 (by decide) kf_X3_15 rfl hdg kk
theorem kf_X3_18 : Cond.fieldLink RX3 18 (TX3 2).1 (TX3 2).2.1 (TX3 2).2.2.1 ∈ lwG := lwG_a 118 rfl rfl
theorem xg_X3_18 (C : pv_C p s m args meth c cc nL RX3 D cI cZ ad A) (hdg : decode cc pc = .ok (.getfield 18, 3)) (kk : Wx p l e R s m args below meth c cells slots Q nL D cI cZ ad A (pc + 3) lv (.ref (ad 19) :: st) σ) : Wx p l e R s m args below meth c cells slots Q nL D cI cZ ad A pc lv (.ref (ad 5) :: st) σ := x_get C 5 3 2 rfl rfl iGX3 (by decide) kf_X3_18 rfl hdg kk
theorem kf_X4_9 : Cond.fieldLink RX4 9 (TX4 1).1 (TX4 1).2.1 (TX4 1).2.2.1 ∈ lwG := lwG_a 48 rfl rfl
theorem xg_X4_9 (C : pv_C p s m args meth c cc nL RX4 D cI cZ ad A) (hdg : decode cc pc = .ok (.getfield 9, 3)) (kk : Wx p l e R s m args below meth c cells slots Q nL D cI cZ ad A (pc + 3) lv (.ref (ad 10) :: st) σ) : Wx p l e R s m args below meth c cells slots Q nL D cI cZ ad A pc lv (.ref (ad 2) :: st) σ := x_get C 2 4 1 rfl rfl iGX4 (by decide) kf_X4_9 rfl hdg kk
theorem kf_X4_15 : Cond.fieldLink RX4 15 (TX4 2).1 (TX4 2).2.1 (TX4 2).2.2.1 ∈ lwG := lwG_a 49 rfl rfl
theorem xg_X4_15 (C : pv_C p s m args meth c cc nL RX4 D cI cZ ad A) (hdg : decode cc pc = .ok (.getfield 15, 3)) (kk : Wx p l e R s m args below meth c cells slots Q nL D cI cZ ad A (pc + 3) lv (.ref (ad 11) :: st) σ) : Wx p l e R s m args below meth c cells slots Q nL D cI cZ ad A pc lv (.ref (ad 2) :: st) σ := x_get C 2 4 2 rfl rfl iGX4 (by decide) kf_X4_15 rfl hdg kk
theorem kf_X4_18 : Cond.fieldLink RX4 18 (TX4 0).1 (TX4 0).2.1 (TX4 0).2.2.1 ∈ lwG := lwG_a 47 rfl rfl
theorem xg_X4_18 (C : pv_C p s m args meth c cc nL RX4 D cI cZ ad A) (hdg : decode cc pc = .ok (.getfield 18, 3)) (kk : Wx p l e R s m args below meth c cells slots Q nL D cI cZ ad A (pc + 3) lv (.ref (ad 1) :: st) σ) : Wx p l e R s m args below meth c cells slots Q nL D cI cZ ad A pc lv (.ref (ad 2) :: st) σ := x_get C 2 4 0 rfl rfl iGX4 (by decide) kf_X4_18 rfl hdg kk
theorem kf_X4_42 : Cond.fieldLink RX4 42 (TX4 3).1 (TX4 3).2.1 (TX4 3).2.2.1 ∈ lwG := lwG_a 50 rfl rfl
theorem xg_X4_42 (C : pv_C p s m args meth c cc nL RX4 D cI cZ ad A) (hdg : decode cc pc = .ok (.getfield 42, 3)) (kk : Wx p l e R s m args below meth c cells slots Q nL D cI cZ ad A (pc + 3) lv (.int (σ.1 1) :: st) σ) : Wx p l e R s m args below meth c cells slots Q nL D cI cZ ad A pc lv (.ref (ad 2) :: st) σ := x_get C 2 4 3 rfl rfl iGX4 (by decide) kf_X4_42 rfl hdg kk
theorem xp_X4_42 (C : pv_C p s m args meth c cc nL RX4 D cI cZ ad A) {v : Int32} (hdg : decode cc pc = .ok (.putfield 42, 3)) (kk : Wx p l e R s m args below meth c cells slots Q nL D cI cZ ad A (pc + 3) lv st (pv_pi σ 1 v)) : Wx p l e R s m args below meth c cells slots Q nL D cI cZ ad A pc lv (.int v :: .ref (ad 2) :: st) σ := x_put C 2 4 3 rfl rfl iGX4 (by decide) kf_X4_42 tyX4 tyX4_ok nmX4 rfl rfl (Nat.le_of_ble_eq_true rfl) rfl hdg kk
theorem kf_X5_9 : Cond.fieldLink RX5 9 (TX5 1).1 (TX5 1).2.1 (TX5 1).2.2.1 ∈ lwG := lwG_a 67 rfl rfl
theorem xg_X5_9 (C : pv_C p s m args meth c cc nL RX5 D cI cZ ad A) (hdg : decode cc pc = .ok (.getfield 9, 3)) (kk : Wx p l e R s m args below meth c cells slots Q nL D cI cZ ad A (pc + 3) lv (.ref (ad 12) :: st) σ) : Wx p l e R s m args below meth c cells slots Q nL D cI cZ ad A pc lv (.ref (ad 3) :: st) σ := x_get C 3 5 1 rfl rfl iGX5 (by decide) kf_X5_9 rfl hdg kk
theorem kf_X5_15 : Cond.fieldLink RX5 15 (TX5 2).1 (TX5 2).2.1 (TX5 2).2.2.1 ∈ lwG := lwG_a 68 rfl rfl
theorem xg_X5_15 (C : pv_C p s m args meth c cc nL RX5 D cI cZ ad A) (hdg : decode cc pc = .ok (.getfield 15, 3)) (kk : Wx p l e R s m args below meth c cells slots Q nL D cI cZ ad A (pc + 3) lv (.ref (ad 13) :: st) σ) : Wx p l e R s m args below meth c cells slots Q nL D cI cZ ad A pc lv (.ref (ad 3) :: st) σ := x_get C 3 5 2 rfl rfl iGX5 (by decide) kf_X5_15 rfl hdg kk
theorem kf_X5_18 : Cond.fieldLink RX5 18 (TX5 3).1 (TX5 3).2.1 (TX5 3).2.2.1 ∈ lwG := lwG_a 69 rfl rfl
theorem xg_X5_18 (C : pv_C p s m args meth c cc nL RX5 D cI cZ ad A) (hdg : decode cc pc = .ok (.getfield 18, 3)) (kk : Wx p l e R s m args below meth c cells slots Q nL D cI cZ ad A (pc + 3) lv (.ref (ad 14) :: st) σ) : Wx p l e R s m args below meth c cells slots Q nL D cI cZ ad A pc lv (.ref (ad 3) :: st) σ := x_get C 3 5 3 rfl rfl iGX5 (by decide) kf_X5_18 rfl hdg kk
theorem kf_X5_21 : Cond.fieldLink RX5 21 (TX5 4).1 (TX5 4).2.1 (TX5 4).2.2.1 ∈ lwG := lwG_a 70 rfl rfl
theorem xg_X5_21 (C : pv_C p s m args meth c cc nL RX5 D cI cZ ad A) (hdg : decode cc pc = .ok (.getfield 21, 3)) (kk : Wx p l e R s m args below meth c cells slots Q nL D cI cZ ad A (pc + 3) lv (.ref (ad 15) :: st) σ) : Wx p l e R s m args below meth c cells slots Q nL D cI cZ ad A pc lv (.ref (ad 3) :: st) σ := x_get C 3 5 4 rfl rfl iGX5 (by decide) kf_X5_21 rfl hdg kk
theorem kf_X5_24 : Cond.fieldLink RX5 24 (TX5 7).1 (TX5 7).2.1 (TX5 7).2.2.1 ∈ lwG := lwG_a 73 rfl rfl
theorem xg_X5_24 (C : pv_C p s m args meth c cc nL RX5 D cI cZ ad A) (hdg : decode cc pc = .ok (.getfield 24, 3)) (kk : Wx p l e R s m args below meth c cells slots Q nL D cI cZ ad A (pc + 3) lv (.int (σ.1 4) :: st) σ) : Wx p l e R s m args below meth c cells slots Q nL D cI cZ ad A pc lv (.ref (ad 3) :: st) σ := x_get C 3 5 7 rfl rfl iGX5 (by decide) kf_X5_24 rfl hdg kk
theorem xp_X5_24 (C : pv_C p s m args meth c cc nL RX5 D cI cZ ad A) {v : Int32} (hdg : decode cc pc = .ok (.putfield 24, 3)) (kk : Wx p l e R s m args below meth c cells slots Q nL D cI cZ ad A (pc + 3) lv st (pv_pi σ 4 v)) : Wx p l e R s m args below meth c cells slots Q nL D cI cZ ad A pc lv (.int v :: .ref (ad 3) :: st) σ := x_put C 3 5 7 rfl rfl iGX5 (by decide) kf_X5_24 tyX5 tyX5_ok nmX5 rfl rfl (Nat.le_of_ble_eq_true rfl) rfl hdg kk
theorem kf_X5_28 : Cond.fieldLink RX5 28 (TX5 8).1 (TX5 8).2.1 (TX5 8).2.2.1 ∈ lwG := lwG_a 74 rfl rfl
theorem xg_X5_28 (C : pv_C p s m args meth c cc nL RX5 D cI cZ ad A) (hdg : decode cc pc = .ok (.getfield 28, 3)) (kk : Wx p l e R s m args below meth c cells slots Q nL D cI cZ ad A (pc + 3) lv (.int (σ.1 5) :: st) σ) : Wx p l e R s m args below meth c cells slots Q nL D cI cZ ad A pc lv (.ref (ad 3) :: st) σ := x_get C 3 5 8 rfl rfl iGX5 (by decide) kf_X5_28 rfl hdg kk
theorem xp_X5_28 (C : pv_C p s m args meth c cc nL RX5 D cI cZ ad A) {v : Int32} (hdg : decode cc pc = .ok (.putfield 28, 3)) (kk : Wx p l e R s m args below meth c cells slots Q nL D cI cZ ad A (pc + 3) lv st (pv_pi σ 5 v)) : Wx p l e R s m args below meth c cells slots Q nL D cI cZ ad A pc lv (.int v :: .ref (ad 3) :: st) σ := x_put C 3 5 8 rfl rfl iGX5 (by decide) kf_X5_28 tyX5 tyX5_ok nmX5 rfl rfl (Nat.le_of_ble_eq_true rfl) rfl hdg kk
theorem kf_X5_31 : Cond.fieldLink RX5 31 (TX5 0).1 (TX5 0).2.1 (TX5 0).2.2.1 ∈ lwG := lwG_a 66 rfl rfl
theorem xg_X5_31 (C : pv_C p s m args meth c cc nL RX5 D cI cZ ad A) (hdg : decode cc pc = .ok (.getfield 31, 3)) (kk : Wx p l e R s m args below meth c cells slots Q nL D cI cZ ad A (pc + 3) lv (.ref (ad 1) :: st) σ) : Wx p l e R s m args below meth c cells slots Q nL D cI cZ ad A pc lv (.ref (ad 3) :: st) σ := x_get C 3 5 0 rfl rfl iGX5 (by decide) kf_X5_31 rfl hdg kk
theorem kf_X5_50 : Cond.fieldLink RX5 50 (TX5 5).1 (TX5 5).2.1 (TX5 5).2.2.1 ∈ lwG := lwG_a 71 rfl rfl
theorem xg_X5_50 (C : pv_C p s m args meth c cc nL RX5 D cI cZ ad A) (hdg : decode cc pc = .ok (.getfield 50, 3)) (kk : Wx p l e R s m args below meth c cells slots Q nL D cI cZ ad A (pc + 3) lv (.int (σ.1 2) :: st) σ) : Wx p l e R s m args below meth c cells slots Q nL D cI cZ ad A pc lv (.ref (ad 3) :: st) σ := x_get C 3 5 5 rfl rfl iGX5 (by decide) kf_X5_50 rfl hdg kk
theorem xp_X5_50 (C : pv_C p s m args meth c cc nL RX5 D cI cZ ad A) {v : Int32} (hdg : decode cc pc = .ok (.putfield 50, 3)) (kk : Wx p l e R s m args below meth c cells slots Q nL D cI cZ ad A (pc + 3) lv st (pv_pi σ 2 v)) : Wx p l e R s m args below meth c cells slots Q nL D cI cZ ad A pc lv (.int v :: .ref (ad 3) :: st) σ := x_put C 3 5 5 rfl rfl iGX5 (by decide) kf_X5_50 tyX5 tyX5_ok nmX5 rfl rfl (Nat.le_of_ble_eq_true rfl) rfl hdg kk
theorem kf_X5_56 : Cond.fieldLink RX5 56 (TX5 6).1 (TX5 6).2.1 (TX5 6).2.2.1 ∈ lwG := lwG_a 72 rfl rfl
theorem xg_X5_56 (C : pv_C p s m args meth c cc nL RX5 D cI cZ ad A) (hdg : decode cc pc = .ok (.getfield 56, 3)) (kk : Wx p l e R s m args below meth c cells slots Q nL D cI cZ ad A (pc + 3) lv (.int (σ.1 3) :: st) σ) : Wx p l e R s m args below meth c cells slots Q nL D cI cZ ad A pc lv (.ref (ad 3) :: st) σ := x_get C 3 5 6 rfl rfl iGX5 (by decide) kf_X5_56 rfl hdg kk
theorem xp_X5_56 (C : pv_C p s m args meth c cc nL RX5 D cI cZ ad A) {v : Int32} (hdg : decode cc pc = .ok (.putfield 56, 3)) (kk : Wx p l e R s m args below meth c cells slots Q nL D cI cZ ad A (pc + 3) lv st (pv_pi σ 3 v)) : Wx p l e R s m args below meth c cells slots Q nL D cI cZ ad A pc lv (.int v :: .ref (ad 3) :: st) σ := x_put C 3 5 6 rfl rfl iGX5 (by decide) kf_X5_56 tyX5 tyX5_ok nmX5 rfl rfl (Nat.le_of_ble_eq_true rfl) rfl hdg kk
theorem kf_X6_11 : Cond.fieldLink RX6 11 (TX6 0).1 (TX6 0).2.1 (TX6 0).2.2.1 ∈ lwG := lwG_a 33 rfl rfl
theorem xg_X6_11 (C : pv_C p s m args meth c cc nL RX6 D cI cZ ad A) (hdg : decode cc pc = .ok (.getfield 11, 3)) (kk : Wx p l e R s m args below meth c cells slots Q nL D cI cZ ad A (pc + 3) lv (.ref (ad 9) :: st) σ) : Wx p l e R s m args below meth c cells slots Q nL D cI cZ ad A pc lv (.ref (ad 1) :: st) σ := x_get C 1 6 0 rfl rfl iGX6 (by decide) kf_X6_11 rfl hdg kk
theorem kf_X6_27 : Cond.fieldLink RX6 27 (TX6 1).1 (TX6 1).2.1 (TX6 1).2.2.1 ∈ lwG := lwG_a 34 rfl rfl
theorem xg_X6_27 (C : pv_C p s m args meth c cc nL RX6 D cI cZ ad A) (hdg : decode cc pc = .ok (.getfield 27, 3)) (kk : Wx p l e R s m args below meth c cells slots Q nL D cI cZ ad A (pc + 3) lv (.int (σ.1 0) :: st) σ) : Wx p l e R s m args below meth c cells slots Q nL D cI cZ ad A pc lv (.ref (ad 1) :: st) σ := x_get C 1 6 1 rfl rfl iGX6 (by decide) kf_X6_27 rfl hdg kk
theorem xp_X6_27 (C : pv_C p s m args meth c cc nL RX6 D cI cZ ad A) {v : Int32} (hdg : decode cc pc = .ok (.putfield 27, 3)) (kk : Wx p l e R s m args below meth c cells slots Q nL D cI cZ ad A (pc + 3) lv st (pv_pi σ 0 v)) : Wx p l e R s m args below meth c cells slots Q nL D cI cZ ad A pc lv (.int v :: .ref (ad 1) :: st) σ := x_put C 1 6 1 rfl rfl iGX6 (by decide) kf_X6_27 tyX6 tyX6_ok nmX6 rfl rfl (Nat.le_of_ble_eq_true rfl) rfl hdg kk
theorem kf_X8_7 : Cond.fieldLink RX8 7 (TX8 0).1 (TX8 0).2.1 (TX8 0).2.2.1 ∈ lwG := lwG_c 192 rfl rfl
theorem xg_X8_7 (C : pv_C p s m args meth c cc nL RX8 D cI cZ ad A) (hdg : decode cc pc = .ok (.getfield 7, 3)) (kk : Wx p l e R s m args below meth c cells slots Q nL D cI cZ ad A (pc + 3) lv (.ref (ad 22) :: st) σ) : Wx p l e R s m args below meth c cells slots Q nL D cI cZ ad A pc lv (.ref (ad 8) :: st) σ := x_get C 8 8 0 rfl rfl iGX8 (by decide) kf_X8_7 rfl hdg kk
theorem kf_X8_13 : Cond.fieldLink RX8 13 (TX8 4).1 (TX8 4).2.1 (TX8 4).2.2.1 ∈ lwG := lwG_c 196 rfl rfl
theorem xg_X8_13 (C : pv_C p s m args meth c cc nL RX8 D cI cZ ad A) (hdg : decode cc pc = .ok (.getfield 13, 3)) (kk : Wx p l e R s m args below meth c cells slots Q nL D cI cZ ad A (pc + 3) lv (.ref (ad 23) :: st) σ) : Wx p l e R s m args below meth c cells slots Q nL D cI cZ ad A pc lv (.ref (ad 8) :: st) σ := x_get C 8 8 4 rfl rfl iGX8 (by decide) kf_X8_13 rfl hdg kk
theorem kf_X8_16 : Cond.fieldLink RX8 16 (TX8 5).1 (TX8 5).2.1 (TX8 5).2.2.1 ∈ lwG := lwG_c 197 rfl rfl
theorem xg_X8_16 (C : pv_C p s m args meth c cc nL RX8 D cI cZ ad A) (hdg : decode cc pc = .ok (.getfield 16, 3)) (kk : Wx p l e R s m args below meth c cells slots Q nL D cI cZ ad A (pc + 3) lv (.ref (ad 24) :: st) σ) : Wx p l e R s m args below meth c cells slots Q nL D cI cZ ad A pc lv (.ref (ad 8) :: st) σ := x_get C 8 8 5 rfl rfl iGX8 (by decide) kf_X8_16 rfl hdg kk
theorem kf_X8_19 : Cond.fieldLink RX8 19 (TX8 6).1 (TX8 6).2.1 (TX8 6).2.2.1 ∈ lwG := lwG_c 198 rfl rfl
theorem xg_X8_19 (C : pv_C p s m args meth c cc nL RX8 D cI cZ ad A) (hdg : decode cc pc = .ok (.getfield 19, 3)) (kk : Wx p l e R s m args below meth c cells slots Q nL D cI cZ ad A (pc + 3) lv (.ref (ad 25) :: st) σ) : Wx p l e R s m args below meth c cells slots Q nL D cI cZ ad A pc lv (.ref (ad 8) :: st) σ := x_get C 8 8 6 rfl rfl iGX8 (by decide) kf_X8_19 rfl hdg kk
theorem kf_X8_22 : Cond.fieldLink RX8 22 (TX8 8).1 (TX8 8).2.1 (TX8 8).2.2.1 ∈ lwG := lwG_c 200 rfl rfl
theorem xg_X8_22 (C : pv_C p s m args meth c cc nL RX8 D cI cZ ad A) (hdg : decode cc pc = .ok (.getfield 22, 3)) (kk : Wx p l e R s m args below meth c cells slots Q nL D cI cZ ad A (pc + 3) lv (.ref (ad 26) :: st) σ) : Wx p l e R s m args below meth c cells slots Q nL D cI cZ ad A pc lv (.ref (ad 8) :: st) σ := x_get C 8 8 8 rfl rfl iGX8 (by decide) kf_X8_22 rfl hdg kk
theorem kf_X8_25 : Cond.fieldLink RX8 25 (TX8 9).1 (TX8 9).2.1 (TX8 9).2.2.1 ∈ lwG := lwG_c 201 rfl rfl
theorem xg_X8_25 (C : pv_C p s m args meth c cc nL RX8 D cI cZ ad A) (hdg : decode cc pc = .ok (.getfield 25, 3)) (kk : Wx p l e R s m args below meth c cells slots Q nL D cI cZ ad A (pc + 3) lv (.ref (ad 27) :: st) σ) : Wx p l e R s m args below meth c cells slots Q nL D cI cZ ad A pc lv (.ref (ad 8) :: st) σ := x_get C 8 8 9 rfl rfl iGX8 (by decide) kf_X8_25 rfl hdg kk
theorem kf_X8_32 : Cond.fieldLink RX8 32 (TX8 1).1 (TX8 1).2.1 (TX8 1).2.2.1 ∈ lwG := lwG_c 193 rfl rfl
theorem xg_X8_32 (C : pv_C p s m args meth c cc nL RX8 D cI cZ ad A) (hdg : decode cc pc = .ok (.getfield 32, 3)) (kk : Wx p l e R s m args below meth c cells slots Q nL D cI cZ ad A (pc + 3) lv (.int (σ.1 10) :: st) σ) : Wx p l e R s m args below meth c cells slots Q nL D cI cZ ad A pc lv (.ref (ad 8) :: st) σ := x_get C 8 8 1 rfl rfl iGX8 (by decide) kf_X8_32 rfl hdg kk
theorem xp_X8_32 (C : pv_C p s m args meth c cc nL RX8 D cI cZ ad A) {v : Int32} (hdg : decode cc pc = .ok (.putfield 32, 3)) (kk : Wx p l e R s m args below meth c cells slots Q nL D cI cZ ad A (pc + 3) lv st (pv_pi σ 10 v)) : Wx p l e R s m args below meth c cells slots Q nL D cI cZ ad A pc lv (.int v :: .ref (ad 8) :: st) σ := x_put C 8 8 1 rfl rfl iGX8 (by decide) kf_X8_32 tyX8 tyX8_ok nmX8 rfl rfl (Nat.le_of_ble_eq_true rfl) rfl hdg kk
theorem kf_X8_82 : Cond.fieldLink RX8 82 (TX8 7).1 (TX8 7).2.1 (TX8 7).2.2.1 ∈ lwG := lwG_c 199 rfl rfl
theorem xg_X8_82 (C : pv_C p s m args meth c cc nL RX8 D cI cZ ad A) (hdg : decode cc pc = .ok (.getfield 82, 3)) (kk : Wx p l e R s m args below meth c cells slots Q nL D cI cZ ad A (pc + 3) lv (.int (σ.1 13) :: st) σ) : Wx p l e R s m args below meth c cells slots Q nL D cI cZ ad A pc lv (.ref (ad 8) :: st) σ := x_get C 8 8 7 rfl rfl iGX8 (by decide) kf_X8_82 rfl hdg kk
theorem xp_X8_82 (C : pv_C p s m args meth c cc nL RX8 D cI cZ ad A) {v : Int32} (hdg : decode cc pc = .ok (.putfield 82, 3)) (kk : Wx p l e R s m args below meth c cells slots Q nL D cI cZ ad A (pc + 3) lv st (pv_pi σ 13 v)) : Wx p l e R s m args below meth c cells slots Q nL D cI cZ ad A pc lv (.int v :: .ref (ad 8) :: st) σ := x_put C 8 8 7 rfl rfl iGX8 (by decide) kf_X8_82 tyX8 tyX8_ok nmX8 rfl rfl (Nat.le_of_ble_eq_true rfl) rfl hdg kk
theorem kf_X8_88 : Cond.fieldLink RX8 88 (TX8 3).1 (TX8 3).2.1 (TX8 3).2.2.1 ∈ lwG := lwG_c 195 rfl rfl
theorem xg_X8_88 (C : pv_C p s m args meth c cc nL RX8 D cI cZ ad A) (hdg : decode cc pc = .ok (.getfield 88, 3)) (kk : Wx p l e R s m args below meth c cells slots Q nL D cI cZ ad A (pc + 3) lv (.int (σ.1 12) :: st) σ) : Wx p l e R s m args below meth c cells slots Q nL D cI cZ ad A pc lv (.ref (ad 8) :: st) σ := x_get C 8 8 3 rfl rfl iGX8 (by decide) kf_X8_88 rfl hdg kk
theorem xp_X8_88 (C : pv_C p s m args meth c cc nL RX8 D cI cZ ad A) {v : Int32} (hdg : decode cc pc = .ok (.putfield 88, 3)) (kk : Wx p l e R s m args below meth c cells slots Q nL D cI cZ ad A (pc + 3) lv st (pv_pi σ 12 v)) : Wx p l e R s m args below meth c cells slots Q nL D cI cZ ad A pc lv (.int v :: .ref (ad 8) :: st) σ := x_put C 8 8 3 rfl rfl iGX8 (by decide) kf_X8_88 tyX8 tyX8_ok nmX8 rfl rfl (Nat.le_of_ble_eq_true rfl) rfl hdg kk
theorem kf_X8_178 : Cond.fieldLink RX8 178 (TX8 10).1 (TX8 10).2.1 (TX8 10).2.2.1 ∈ lwG := lwG_c 202 rfl rfl
theorem xg_X8_178 (C : pv_C p s m args meth c cc nL RX8 D cI cZ ad A) (hdg : decode cc pc = .ok (.getfield 178, 3)) (kk : Wx p l e R s m args below meth c cells slots Q nL D cI cZ ad A (pc + 3) lv (.int (σ.1 14) :: st) σ) : Wx p l e R s m args below meth c cells slots Q nL D cI cZ ad A pc lv (.ref (ad 8) :: st) σ := x_get C 8 8 10 rfl rfl iGX8 (by decide) kf_X8_178 rfl hdg kk
theorem xp_X8_178 (C : pv_C p s m args meth c cc nL RX8 D cI cZ ad A) {v : Int32} (hdg : decode cc pc = .ok (.putfield 178, 3)) (kk : Wx p l e R s m args below meth c cells slots Q nL D cI cZ ad A (pc + 3) lv st (pv_pi σ 14 v)) : Wx p l e R s m args below meth c cells slots Q nL D cI cZ ad A pc lv (.int v :: .ref (ad 8) :: st) σ := x_put C 8 8 10 rfl rfl iGX8 (by decide) kf_X8_178 tyX8 tyX8_ok nmX8 rfl rfl (Nat.le_of_ble_eq_true rfl) rfl hdg kk
theorem kf_X8_183 : Cond.fieldLink RX8 183 (TX8 2).1 (TX8 2).2.1 (TX8 2).2.2.1 ∈ lwG := lwG_c 194 rfl rfl
theorem xg_X8_183 (C : pv_C p s m args meth c cc nL RX8 D cI cZ ad A) (hdg : decode cc pc = .ok (.getfield 183, 3)) (kk : Wx p l e R s m args below meth c cells slots Q nL D cI cZ ad A (pc + 3) lv (.int (σ.1 11) :: st) σ) : Wx p l e R s m args below meth c cells slots Q nL D cI cZ ad A pc lv (.ref (ad 8) :: st) σ := x_get C 8 8 2 rfl rfl iGX8 (by decide) kf_X8_183 rfl hdg kk
theorem xp_X8_183 (C : pv_C p s m args meth c cc nL RX8 D cI cZ ad A) {v : Int32} (hdg : decode cc pc = .ok (.putfield 183, 3)) (kk : Wx p l e R s m args below meth c cells slots Q nL D cI cZ ad A (pc + 3) lv st (pv_pi σ 11 v)) : Wx p l e R s m args below meth c cells slots Q nL D cI cZ ad A pc lv (.int v :: .ref (ad 8) :: st) σ := x_put C 8 8 2 rfl rfl iGX8 (by decide) kf_X8_183 tyX8 tyX8_ok nmX8 rfl rfl (Nat.le_of_ble_eq_true rfl) rfl hdg kk
theorem xl_0 {own : String} (C : pv_C p s m args meth c cc nL own D cI cZ ad A) {i : Int32} (hin : vp_in i 46) (hdg : decode cc pc = .ok (.iaload, 1)) (kk : Wx p l e R s m args below meth c cells slots Q nL D cI cZ ad A (pc + 1) lv (.int (pv_la σ 0 i) :: st) σ) : Wx p l e R s m args below meth c cells slots Q nL D cI cZ ad A pc lv (.int i :: .ref (ad 9) :: st) σ := x_iald C 9 rfl hin hdg kk
theorem xs_0 {own : String} (C : pv_C p s m args meth c cc nL own D cI cZ ad A) {i x : Int32} (hin : vp_in i 46) (hdg : decode cc pc = .ok (.iastore, 1)) (kk : Wx p l e R s m args below meth c cells slots Q nL D cI cZ ad A (pc + 1) lv st (pv_sa σ 0 i x)) : Wx p l e R s m args below meth c cells slots Q nL D cI cZ ad A pc lv (.int x :: .int i :: .ref (ad 9) :: st) σ := x_iast C 9 rfl hin rfl hdg kk
theorem xn_0 {own : String} (C : pv_C p s m args meth c cc nL own D cI cZ ad A) (hdg : decode cc pc = .ok (.arraylength, 1)) (kk : Wx p l e R s m args below meth c cells slots Q nL D cI cZ ad A (pc + 1) lv (.int 46 :: st) σ) : Wx p l e R s m args below meth c cells slots Q nL D cI cZ ad A pc lv (.ref (ad 9) :: st) σ := x_alen C 9 rfl rfl hdg kk
theorem xl_1 {own : String} (C : pv_C p s m args meth c cc nL own D cI cZ ad A) {i : Int32} (hin : vp_in i 10) (hdg : decode cc pc = .ok (.iaload, 1)) (kk : Wx p l e R s m args below meth c cells slots Q nL D cI cZ ad A (pc + 1) lv (.int (pv_la σ 1 i) :: st) σ) : Wx p l e R s m args below meth c cells slots Q nL D cI cZ ad A pc lv (.int i :: .ref (ad 10) :: st) σ := x_iald C 10 rfl hin hdg kk
theorem xs_1 {own : String} (C : pv_C p s m args meth c cc nL own D cI cZ ad A) {i x : Int32} (hin : vp_in i 10) (hdg : decode cc pc = .ok (.iastore, 1)) (kk : Wx p l e R s m args below meth c cells slots Q nL D cI cZ ad A (pc + 1) lv st (pv_sa σ 1 i x)) : Wx p l e R s m args below meth c cells slots Q nL D cI cZ ad A pc lv (.int x :: .int i :: .ref (ad 10) :: st) σ := x_iast C 10 rfl hin rfl hdg kk
theorem xn_1 {own : String} (C : pv_C p s m args meth c cc nL own D cI cZ ad A) (hdg : decode cc pc = .ok (.arraylength, 1)) (kk : Wx p l e R s m args below meth c cells slots Q nL D cI cZ ad A (pc + 1) lv (.int 10 :: st) σ) : Wx p l e R s m args below meth c cells slots Q nL D cI cZ ad A pc lv (.ref (ad 10) :: st) σ := x_alen C 10 rfl rfl hdg kk
theorem xl_2 {own : String} (C : pv_C p s m args meth c cc nL own D cI cZ ad A) {i : Int32} (hin : vp_in i 10) (hdg : decode cc pc = .ok (.iaload, 1)) (kk : Wx p l e R s m args below meth c cells slots Q nL D cI cZ ad A (pc + 1) lv (.int (pv_la σ 2 i) :: st) σ) : Wx p l e R s m args below meth c cells slots Q nL D cI cZ ad A pc lv (.int i :: .ref (ad 11) :: st) σ := x_iald C 11 rfl hin hdg kk
theorem xs_2 {own : String} (C : pv_C p s m args meth c cc nL own D cI cZ ad A) {i x : Int32} (hin : vp_in i 10) (hdg : decode cc pc = .ok (.iastore, 1)) (kk : Wx p l e R s m args below meth c cells slots Q nL D cI cZ ad A (pc + 1) lv st (pv_sa σ 2 i x)) : Wx p l e R s m args below meth c cells slots Q nL D cI cZ ad A pc lv (.int x :: .int i :: .ref (ad 11) :: st) σ := x_iast C 11 rfl hin rfl hdg kk
theorem xn_2 {own : String} (C : pv_C p s m args meth c cc nL own D cI cZ ad A) (hdg : decode cc pc = .ok (.arraylength, 1)) (kk : Wx p l e R s m args below meth c cells slots Q nL D cI cZ ad A (pc + 1) lv (.int 10 :: st) σ) : Wx p l e R s m args below meth c cells slots Q nL D cI cZ ad A pc lv (.ref (ad 11) :: st) σ := x_alen C 11 rfl rfl hdg kk
theorem xl_3 {own : String} (C : pv_C p s m args meth c cc nL own D cI cZ ad A) {i : Int32} (hin : vp_in i 100) (hdg : decode cc pc = .ok (.iaload, 1)) (kk : Wx p l e R s m args below meth c cells slots Q nL D cI cZ ad A (pc + 1) lv (.int (pv_la σ 3 i) :: st) σ) : Wx p l e R s m args below meth c cells slots Q nL D cI cZ ad A pc lv (.int i :: .ref (ad 12) :: st) σ := x_iald C 12 rfl hin hdg kk
theorem xs_3 {own : String} (C : pv_C p s m args meth c cc nL own D cI cZ ad A) {i x : Int32} (hin : vp_in i 100) (hdg : decode cc pc = .ok (.iastore, 1)) (kk : Wx p l e R s m args below meth c cells slots Q nL D cI cZ ad A (pc + 1) lv st (pv_sa σ 3 i x)) : Wx p l e R s m args below meth c cells slots Q nL D cI cZ ad A pc lv (.int x :: .int i :: .ref (ad 12) :: st) σ := x_iast C 12 rfl hin rfl hdg kk
theorem xn_3 {own : String} (C : pv_C p s m args meth c cc nL own D cI cZ ad A) (hdg : decode cc pc = .ok (.arraylength, 1)) (kk : Wx p l e R s m args below meth c cells slots Q nL D cI cZ ad A (pc + 1) lv (.int 100 :: st) σ) : Wx p l e R s m args below meth c cells slots Q nL D cI cZ ad A pc lv (.ref (ad 12) :: st) σ := x_alen C 12 rfl rfl hdg kk
theorem xl_4 {own : String} (C : pv_C p s m args meth c cc nL own D cI cZ ad A) {i : Int32} (hin : vp_in i 1024) (hdg : decode cc pc = .ok (.iaload, 1)) (kk : Wx p l e R s m args below meth c cells slots Q nL D cI cZ ad A (pc + 1) lv (.int (pv_la σ 4 i) :: st) σ) : Wx p l e R s m args below meth c cells slots Q nL D cI cZ ad A pc lv (.int i :: .ref (ad 13) :: st) σ := x_iald C 13 rfl hin hdg kk
theorem xs_4 {own : String} (C : pv_C p s m args meth c cc nL own D cI cZ ad A) {i x : Int32} (hin : vp_in i 1024) (hdg : decode cc pc = .ok (.iastore, 1)) (kk : Wx p l e R s m args below meth c cells slots Q nL D cI cZ ad A (pc + 1) lv st (pv_sa σ 4 i x)) : Wx p l e R s m args below meth c cells slots Q nL D cI cZ ad A pc lv (.int x :: .int i :: .ref (ad 13) :: st) σ := x_iast C 13 rfl hin rfl hdg kk
theorem xn_4 {own : String} (C : pv_C p s m args meth c cc nL own D cI cZ ad A) (hdg : decode cc pc = .ok (.arraylength, 1)) (kk : Wx p l e R s m args below meth c cells slots Q nL D cI cZ ad A (pc + 1) lv (.int 1024 :: st) σ) : Wx p l e R s m args below meth c cells slots Q nL D cI cZ ad A pc lv (.ref (ad 13) :: st) σ := x_alen C 13 rfl rfl hdg kk
theorem xl_5 {own : String} (C : pv_C p s m args meth c cc nL own D cI cZ ad A) {i : Int32} (hin : vp_in i 11) (hdg : decode cc pc = .ok (.iaload, 1)) (kk : Wx p l e R s m args below meth c cells slots Q nL D cI cZ ad A (pc + 1) lv (.int (pv_la σ 5 i) :: st) σ) : Wx p l e R s m args below meth c cells slots Q nL D cI cZ ad A pc lv (.int i :: .ref (ad 14) :: st) σ := x_iald C 14 rfl hin hdg kk
theorem xs_5 {own : String} (C : pv_C p s m args meth c cc nL own D cI cZ ad A) {i x : Int32} (hin : vp_in i 11) (hdg : decode cc pc = .ok (.iastore, 1)) (kk : Wx p l e R s m args below meth c cells slots Q nL D cI cZ ad A (pc + 1) lv st (pv_sa σ 5 i x)) : Wx p l e R s m args below meth c cells slots Q nL D cI cZ ad A pc lv (.int x :: .int i :: .ref (ad 14) :: st) σ := x_iast C 14 rfl hin rfl hdg kk
theorem xn_5 {own : String} (C : pv_C p s m args meth c cc nL own D cI cZ ad A) (hdg : decode cc pc = .ok (.arraylength, 1)) (kk : Wx p l e R s m args below meth c cells slots Q nL D cI cZ ad A (pc + 1) lv (.int 11 :: st) σ) : Wx p l e R s m args below meth c cells slots Q nL D cI cZ ad A pc lv (.ref (ad 14) :: st) σ := x_alen C 14 rfl rfl hdg kk
theorem xl_6 {own : String} (C : pv_C p s m args meth c cc nL own D cI cZ ad A) {i : Int32} (hin : vp_in i 10) (hdg : decode cc pc = .ok (.iaload, 1)) (kk : Wx p l e R s m args below meth c cells slots Q nL D cI cZ ad A (pc + 1) lv (.int (pv_la σ 6 i) :: st) σ) : Wx p l e R s m args below meth c cells slots Q nL D cI cZ ad A pc lv (.int i :: .ref (ad 15) :: st) σ := x_iald C 15 rfl hin hdg kk
theorem xs_6 {own : String} (C : pv_C p s m args meth c cc nL own D cI cZ ad A) {i x : Int32} (hin : vp_in i 10) (hdg : decode cc pc = .ok (.iastore, 1)) (kk : Wx p l e R s m args below meth c cells slots Q nL D cI cZ ad A (pc + 1) lv st (pv_sa σ 6 i x)) : Wx p l e R s m args below meth c cells slots Q nL D cI cZ ad A pc lv (.int x :: .int i :: .ref (ad 15) :: st) σ := x_iast C 15 rfl hin rfl hdg kk
theorem xn_6 {own : String} (C : pv_C p s m args meth c cc nL own D cI cZ ad A) (hdg : decode cc pc = .ok (.arraylength, 1)) (kk : Wx p l e R s m args below meth c cells slots Q nL D cI cZ ad A (pc + 1) lv (.int 10 :: st) σ) : Wx p l e R s m args below meth c cells slots Q nL D cI cZ ad A pc lv (.ref (ad 15) :: st) σ := x_alen C 15 rfl rfl hdg kk
theorem xl_7 {own : String} (C : pv_C p s m args meth c cc nL own D cI cZ ad A) {i : Int32} (hin : vp_in i 736) (hdg : decode cc pc = .ok (.iaload, 1)) (kk : Wx p l e R s m args below meth c cells slots Q nL D cI cZ ad A (pc + 1) lv (.int (pv_la σ 7 i) :: st) σ) : Wx p l e R s m args below meth c cells slots Q nL D cI cZ ad A pc lv (.int i :: .ref (ad 16) :: st) σ := x_iald C 16 rfl hin hdg kk
theorem xs_7 {own : String} (C : pv_C p s m args meth c cc nL own D cI cZ ad A) {i x : Int32} (hin : vp_in i 736) (hdg : decode cc pc = .ok (.iastore, 1)) (kk : Wx p l e R s m args below meth c cells slots Q nL D cI cZ ad A (pc + 1) lv st (pv_sa σ 7 i x)) : Wx p l e R s m args below meth c cells slots Q nL D cI cZ ad A pc lv (.int x :: .int i :: .ref (ad 16) :: st) σ := x_iast C 16 rfl hin rfl hdg kk
theorem xn_7 {own : String} (C : pv_C p s m args meth c cc nL own D cI cZ ad A) (hdg : decode cc pc = .ok (.arraylength, 1)) (kk : Wx p l e R s m args below meth c cells slots Q nL D cI cZ ad A (pc + 1) lv (.int 736 :: st) σ) : Wx p l e R s m args below meth c cells slots Q nL D cI cZ ad A pc lv (.ref (ad 16) :: st) σ := x_alen C 16 rfl rfl hdg kk
theorem xl_8 {own : String} (C : pv_C p s m args meth c cc nL own D cI cZ ad A) {i : Int32} (hin : vp_in i 92) (hdg : decode cc pc = .ok (.iaload, 1)) (kk : Wx p l e R s m args below meth c cells slots Q nL D cI cZ ad A (pc + 1) lv (.int (pv_la σ 8 i) :: st) σ) : Wx p l e R s m args below meth c cells slots Q nL D cI cZ ad A pc lv (.int i :: .ref (ad 17) :: st) σ := x_iald C 17 rfl hin hdg kk
theorem xs_8 {own : String} (C : pv_C p s m args meth c cc nL own D cI cZ ad A) {i x : Int32} (hin : vp_in i 92) (hdg : decode cc pc = .ok (.iastore, 1)) (kk : Wx p l e R s m args below meth c cells slots Q nL D cI cZ ad A (pc + 1) lv st (pv_sa σ 8 i x)) : Wx p l e R s m args below meth c cells slots Q nL D cI cZ ad A pc lv (.int x :: .int i :: .ref (ad 17) :: st) σ := x_iast C 17 rfl hin rfl hdg kk
theorem xn_8 {own : String} (C : pv_C p s m args meth c cc nL own D cI cZ ad A) (hdg : decode cc pc = .ok (.arraylength, 1)) (kk : Wx p l e R s m args below meth c cells slots Q nL D cI cZ ad A (pc + 1) lv (.int 92 :: st) σ) : Wx p l e R s m args below meth c cells slots Q nL D cI cZ ad A pc lv (.ref (ad 17) :: st) σ := x_alen C 17 rfl rfl hdg kk
theorem xl_9 {own : String} (C : pv_C p s m args meth c cc nL own D cI cZ ad A) {i : Int32} (hin : vp_in i 2) (hdg : decode cc pc = .ok (.iaload, 1)) (kk : Wx p l e R s m args below meth c cells slots Q nL D cI cZ ad A (pc + 1) lv (.int (pv_la σ 9 i) :: st) σ) : Wx p l e R s m args below meth c cells slots Q nL D cI cZ ad A pc lv (.int i :: .ref (ad 18) :: st) σ := x_iald C 18 rfl hin hdg kk
theorem xs_9 {own : String} (C : pv_C p s m args meth c cc nL own D cI cZ ad A) {i x : Int32} (hin : vp_in i 2) (hdg : decode cc pc = .ok (.iastore, 1)) (kk : Wx p l e R s m args below meth c cells slots Q nL D cI cZ ad A (pc + 1) lv st (pv_sa σ 9 i x)) : Wx p l e R s m args below meth c cells slots Q nL D cI cZ ad A pc lv (.int x :: .int i :: .ref (ad 18) :: st) σ := x_iast C 18 rfl hin rfl hdg kk
theorem xn_9 {own : String} (C : pv_C p s m args meth c cc nL own D cI cZ ad A) (hdg : decode cc pc = .ok (.arraylength, 1)) (kk : Wx p l e R s m args below meth c cells slots Q nL D cI cZ ad A (pc + 1) lv (.int 2 :: st) σ) : Wx p l e R s m args below meth c cells slots Q nL D cI cZ ad A pc lv (.ref (ad 18) :: st) σ := x_alen C 18 rfl rfl hdg kk
theorem xl_10 {own : String} (C : pv_C p s m args meth c cc nL own D cI cZ ad A) {i : Int32} (hin : vp_in i 2) (hdg : decode cc pc = .ok (.baload, 1)) (kk : Wx p l e R s m args below meth c cells slots Q nL D cI cZ ad A (pc + 1) lv (.int (pv_la σ 10 i) :: st) σ) : Wx p l e R s m args below meth c cells slots Q nL D cI cZ ad A pc lv (.int i :: .ref (ad 19) :: st) σ := x_zald C 19 rfl hin hdg kk
theorem xs_10 {own : String} (C : pv_C p s m args meth c cc nL own D cI cZ ad A) {i x : Int32} (hin : vp_in i 2) (hdg : decode cc pc = .ok (.bastore, 1)) (kk : Wx p l e R s m args below meth c cells slots Q nL D cI cZ ad A (pc + 1) lv st (pv_sz σ 10 i x)) : Wx p l e R s m args below meth c cells slots Q nL D cI cZ ad A pc lv (.int x :: .int i :: .ref (ad 19) :: st) σ := x_zast C 19 rfl hin rfl hdg kk
theorem xl_11 {own : String} (C : pv_C p s m args meth c cc nL own D cI cZ ad A) {i : Int32} (hin : vp_in i 20) (hdg : decode cc pc = .ok (.iaload, 1)) (kk : Wx p l e R s m args below meth c cells slots Q nL D cI cZ ad A (pc + 1) lv (.int (pv_la σ 11 i) :: st) σ) : Wx p l e R s m args below meth c cells slots Q nL D cI cZ ad A pc lv (.int i :: .ref (ad 20) :: st) σ := x_iald C 20 rfl hin hdg kk
theorem xs_11 {own : String} (C : pv_C p s m args meth c cc nL own D cI cZ ad A) {i x : Int32} (hin : vp_in i 20) (hdg : decode cc pc = .ok (.iastore, 1)) (kk : Wx p l e R s m args below meth c cells slots Q nL D cI cZ ad A (pc + 1) lv st (pv_sa σ 11 i x)) : Wx p l e R s m args below meth c cells slots Q nL D cI cZ ad A pc lv (.int x :: .int i :: .ref (ad 20) :: st) σ := x_iast C 20 rfl hin rfl hdg kk
theorem xn_11 {own : String} (C : pv_C p s m args meth c cc nL own D cI cZ ad A) (hdg : decode cc pc = .ok (.arraylength, 1)) (kk : Wx p l e R s m args below meth c cells slots Q nL D cI cZ ad A (pc + 1) lv (.int 20 :: st) σ) : Wx p l e R s m args below meth c cells slots Q nL D cI cZ ad A pc lv (.ref (ad 20) :: st) σ := x_alen C 20 rfl rfl hdg kk
theorem xl_12 {own : String} (C : pv_C p s m args meth c cc nL own D cI cZ ad A) {i : Int32} (hin : vp_in i 20) (hdg : decode cc pc = .ok (.iaload, 1)) (kk : Wx p l e R s m args below meth c cells slots Q nL D cI cZ ad A (pc + 1) lv (.int (pv_la σ 12 i) :: st) σ) : Wx p l e R s m args below meth c cells slots Q nL D cI cZ ad A pc lv (.int i :: .ref (ad 21) :: st) σ := x_iald C 21 rfl hin hdg kk
theorem xs_12 {own : String} (C : pv_C p s m args meth c cc nL own D cI cZ ad A) {i x : Int32} (hin : vp_in i 20) (hdg : decode cc pc = .ok (.iastore, 1)) (kk : Wx p l e R s m args below meth c cells slots Q nL D cI cZ ad A (pc + 1) lv st (pv_sa σ 12 i x)) : Wx p l e R s m args below meth c cells slots Q nL D cI cZ ad A pc lv (.int x :: .int i :: .ref (ad 21) :: st) σ := x_iast C 21 rfl hin rfl hdg kk
theorem xn_12 {own : String} (C : pv_C p s m args meth c cc nL own D cI cZ ad A) (hdg : decode cc pc = .ok (.arraylength, 1)) (kk : Wx p l e R s m args below meth c cells slots Q nL D cI cZ ad A (pc + 1) lv (.int 20 :: st) σ) : Wx p l e R s m args below meth c cells slots Q nL D cI cZ ad A pc lv (.ref (ad 21) :: st) σ := x_alen C 21 rfl rfl hdg kk
theorem xl_13 {own : String} (C : pv_C p s m args meth c cc nL own D cI cZ ad A) {i : Int32} (hin : vp_in i 874) (hdg : decode cc pc = .ok (.iaload, 1)) (kk : Wx p l e R s m args below meth c cells slots Q nL D cI cZ ad A (pc + 1) lv (.int (pv_la σ 13 i) :: st) σ) : Wx p l e R s m args below meth c cells slots Q nL D cI cZ ad A pc lv (.int i :: .ref (ad 22) :: st) σ := x_iald C 22 rfl hin hdg kk
theorem xs_13 {own : String} (C : pv_C p s m args meth c cc nL own D cI cZ ad A) {i x : Int32} (hin : vp_in i 874) (hdg : decode cc pc = .ok (.iastore, 1)) (kk : Wx p l e R s m args below meth c cells slots Q nL D cI cZ ad A (pc + 1) lv st (pv_sa σ 13 i x)) : Wx p l e R s m args below meth c cells slots Q nL D cI cZ ad A pc lv (.int x :: .int i :: .ref (ad 22) :: st) σ := x_iast C 22 rfl hin rfl hdg kk
theorem xn_13 {own : String} (C : pv_C p s m args meth c cc nL own D cI cZ ad A) (hdg : decode cc pc = .ok (.arraylength, 1)) (kk : Wx p l e R s m args below meth c cells slots Q nL D cI cZ ad A (pc + 1) lv (.int 874 :: st) σ) : Wx p l e R s m args below meth c cells slots Q nL D cI cZ ad A pc lv (.ref (ad 22) :: st) σ := x_alen C 22 rfl rfl hdg kk
theorem xl_14 {own : String} (C : pv_C p s m args meth c cc nL own D cI cZ ad A) {i : Int32} (hin : vp_in i 2) (hdg : decode cc pc = .ok (.iaload, 1)) (kk : Wx p l e R s m args below meth c cells slots Q nL D cI cZ ad A (pc + 1) lv (.int (pv_la σ 14 i) :: st) σ) : Wx p l e R s m args below meth c cells slots Q nL D cI cZ ad A pc lv (.int i :: .ref (ad 23) :: st) σ := x_iald C 23 rfl hin hdg kk
theorem xs_14 {own : String} (C : pv_C p s m args meth c cc nL own D cI cZ ad A) {i x : Int32} (hin : vp_in i 2) (hdg : decode cc pc = .ok (.iastore, 1)) (kk : Wx p l e R s m args below meth c cells slots Q nL D cI cZ ad A (pc + 1) lv st (pv_sa σ 14 i x)) : Wx p l e R s m args below meth c cells slots Q nL D cI cZ ad A pc lv (.int x :: .int i :: .ref (ad 23) :: st) σ := x_iast C 23 rfl hin rfl hdg kk
theorem xn_14 {own : String} (C : pv_C p s m args meth c cc nL own D cI cZ ad A) (hdg : decode cc pc = .ok (.arraylength, 1)) (kk : Wx p l e R s m args below meth c cells slots Q nL D cI cZ ad A (pc + 1) lv (.int 2 :: st) σ) : Wx p l e R s m args below meth c cells slots Q nL D cI cZ ad A pc lv (.ref (ad 23) :: st) σ := x_alen C 23 rfl rfl hdg kk
theorem xl_15 {own : String} (C : pv_C p s m args meth c cc nL own D cI cZ ad A) {i : Int32} (hin : vp_in i 20) (hdg : decode cc pc = .ok (.iaload, 1)) (kk : Wx p l e R s m args below meth c cells slots Q nL D cI cZ ad A (pc + 1) lv (.int (pv_la σ 15 i) :: st) σ) : Wx p l e R s m args below meth c cells slots Q nL D cI cZ ad A pc lv (.int i :: .ref (ad 24) :: st) σ := x_iald C 24 rfl hin hdg kk
theorem xs_15 {own : String} (C : pv_C p s m args meth c cc nL own D cI cZ ad A) {i x : Int32} (hin : vp_in i 20) (hdg : decode cc pc = .ok (.iastore, 1)) (kk : Wx p l e R s m args below meth c cells slots Q nL D cI cZ ad A (pc + 1) lv st (pv_sa σ 15 i x)) : Wx p l e R s m args below meth c cells slots Q nL D cI cZ ad A pc lv (.int x :: .int i :: .ref (ad 24) :: st) σ := x_iast C 24 rfl hin rfl hdg kk
theorem xn_15 {own : String} (C : pv_C p s m args meth c cc nL own D cI cZ ad A) (hdg : decode cc pc = .ok (.arraylength, 1)) (kk : Wx p l e R s m args below meth c cells slots Q nL D cI cZ ad A (pc + 1) lv (.int 20 :: st) σ) : Wx p l e R s m args below meth c cells slots Q nL D cI cZ ad A pc lv (.ref (ad 24) :: st) σ := x_alen C 24 rfl rfl hdg kk
theorem xl_16 {own : String} (C : pv_C p s m args meth c cc nL own D cI cZ ad A) {i : Int32} (hin : vp_in i 20) (hdg : decode cc pc = .ok (.iaload, 1)) (kk : Wx p l e R s m args below meth c cells slots Q nL D cI cZ ad A (pc + 1) lv (.int (pv_la σ 16 i) :: st) σ) : Wx p l e R s m args below meth c cells slots Q nL D cI cZ ad A pc lv (.int i :: .ref (ad 25) :: st) σ := x_iald C 25 rfl hin hdg kk
theorem xs_16 {own : String} (C : pv_C p s m args meth c cc nL own D cI cZ ad A) {i x : Int32} (hin : vp_in i 20) (hdg : decode cc pc = .ok (.iastore, 1)) (kk : Wx p l e R s m args below meth c cells slots Q nL D cI cZ ad A (pc + 1) lv st (pv_sa σ 16 i x)) : Wx p l e R s m args below meth c cells slots Q nL D cI cZ ad A pc lv (.int x :: .int i :: .ref (ad 25) :: st) σ := x_iast C 25 rfl hin rfl hdg kk
theorem xn_16 {own : String} (C : pv_C p s m args meth c cc nL own D cI cZ ad A) (hdg : decode cc pc = .ok (.arraylength, 1)) (kk : Wx p l e R s m args below meth c cells slots Q nL D cI cZ ad A (pc + 1) lv (.int 20 :: st) σ) : Wx p l e R s m args below meth c cells slots Q nL D cI cZ ad A pc lv (.ref (ad 25) :: st) σ := x_alen C 25 rfl rfl hdg kk
theorem xl_17 {own : String} (C : pv_C p s m args meth c cc nL own D cI cZ ad A) {i : Int32} (hin : vp_in i 11264) (hdg : decode cc pc = .ok (.iaload, 1)) (kk : Wx p l e R s m args below meth c cells slots Q nL D cI cZ ad A (pc + 1) lv (.int (pv_la σ 17 i) :: st) σ) : Wx p l e R s m args below meth c cells slots Q nL D cI cZ ad A pc lv (.int i :: .ref (ad 26) :: st) σ := x_iald C 26 rfl hin hdg kk
theorem xs_17 {own : String} (C : pv_C p s m args meth c cc nL own D cI cZ ad A) {i x : Int32} (hin : vp_in i 11264) (hdg : decode cc pc = .ok (.iastore, 1)) (kk : Wx p l e R s m args below meth c cells slots Q nL D cI cZ ad A (pc + 1) lv st (pv_sa σ 17 i x)) : Wx p l e R s m args below meth c cells slots Q nL D cI cZ ad A pc lv (.int x :: .int i :: .ref (ad 26) :: st) σ := x_iast C 26 rfl hin rfl hdg kk
theorem xn_17 {own : String} (C : pv_C p s m args meth c cc nL own D cI cZ ad A) (hdg : decode cc pc = .ok (.arraylength, 1)) (kk : Wx p l e R s m args below meth c cells slots Q nL D cI cZ ad A (pc + 1) lv (.int 11264 :: st) σ) : Wx p l e R s m args below meth c cells slots Q nL D cI cZ ad A pc lv (.ref (ad 26) :: st) σ := x_alen C 26 rfl rfl hdg kk
theorem xl_18 {own : String} (C : pv_C p s m args meth c cc nL own D cI cZ ad A) {i : Int32} (hin : vp_in i 10) (hdg : decode cc pc = .ok (.iaload, 1)) (kk : Wx p l e R s m args below meth c cells slots Q nL D cI cZ ad A (pc + 1) lv (.int (pv_la σ 18 i) :: st) σ) : Wx p l e R s m args below meth c cells slots Q nL D cI cZ ad A pc lv (.int i :: .ref (ad 27) :: st) σ := x_iald C 27 rfl hin hdg kk
theorem xs_18 {own : String} (C : pv_C p s m args meth c cc nL own D cI cZ ad A) {i x : Int32} (hin : vp_in i 10) (hdg : decode cc pc = .ok (.iastore, 1)) (kk : Wx p l e R s m args below meth c cells slots Q nL D cI cZ ad A (pc + 1) lv st (pv_sa σ 18 i x)) : Wx p l e R s m args below meth c cells slots Q nL D cI cZ ad A pc lv (.int x :: .int i :: .ref (ad 27) :: st) σ := x_iast C 27 rfl hin rfl hdg kk
theorem xn_18 {own : String} (C : pv_C p s m args meth c cc nL own D cI cZ ad A) (hdg : decode cc pc = .ok (.arraylength, 1)) (kk : Wx p l e R s m args below meth c cells slots Q nL D cI cZ ad A (pc + 1) lv (.int 10 :: st) σ) : Wx p l e R s m args below meth c cells slots Q nL D cI cZ ad A pc lv (.ref (ad 27) :: st) σ := x_alen C 27 rfl rfl hdg kk
end PVF
theorem kY_X7_told : pv_Y yX7_told cX7_told 2 (some .int) RX7 1 := ⟨rfl, lwG_a 176 rfl rfl, lwG_a 177 rfl rfl, lwG_a 1 rfl rfl, lwG_a 178 rfl rfl, by decide, by decide, by decide +kernel⟩
theorem kY_X6_count : pv_Y yX6_count cX6_count 1 (some .int) RX6 0 := ⟨rfl, lwG_a 180 rfl rfl, lwG_a 181 rfl rfl, lwG_a 2 rfl rfl, lwG_a 182 rfl rfl, by decide, by decide, by decide +kernel⟩
theorem kY_X7_standing : pv_Y yX7_standing cX7_standing 1 (some ((.object "PartedVoices$Lines"))) RX7 0 := ⟨rfl, lwG_a 185 rfl rfl, lwG_sel (q := (yX7_standing, _)) 0 rfl, lwG_a 1 rfl rfl, lwG_a 186 rfl rfl, by decide, by decide, by decide +kernel⟩
theorem kY_X4_read : pv_Y yX4_read cX4_read 3 (none) RX4 0 := ⟨rfl, lwG_a 188 rfl rfl, lwG_a 189 rfl rfl, lwG_a 4 rfl rfl, lwG_a 190 rfl rfl, by decide, by decide, by decide +kernel⟩
theorem kY_J7_fill_53178 : pv_Z yJ7_fill_53178 cJ7_fill_53178 4 (none) 2 := ⟨lwG_a 192 rfl rfl, lwG_a 11 rfl rfl, lwG_a 193 rfl rfl, by decide, by decide, by decide +kernel⟩
theorem kY_X6_next : pv_Y yX6_next cX6_next 2 (some .int) RX6 1 := ⟨rfl, lwG_a 196 rfl rfl, lwG_a 197 rfl rfl, lwG_a 2 rfl rfl, lwG_a 198 rfl rfl, by decide, by decide, by decide +kernel⟩
theorem kY_X6_cell : pv_Y yX6_cell cX6_cell 3 (some .int) RX6 2 := ⟨rfl, lwG_a 201 rfl rfl, lwG_sel (q := (yX6_cell, _)) 1 rfl, lwG_a 2 rfl rfl, lwG_a 202 rfl rfl, by decide, by decide, by decide +kernel⟩
theorem kY_X6_has : pv_Y yX6_has cX6_has 2 (some .boolean) RX6 1 := ⟨rfl, lwG_a 204 rfl rfl, lwG_a 205 rfl rfl, lwG_a 2 rfl rfl, lwG_a 206 rfl rfl, by decide, by decide, by decide +kernel⟩
theorem kY_X4_countVoices : pv_Y yX4_countVoices cX4_countVoices 1 (some .int) RX4 0 := ⟨rfl, lwG_a 208 rfl rfl, lwG_a 209 rfl rfl, lwG_a 4 rfl rfl, lwG_a 210 rfl rfl, by decide, by decide, by decide +kernel⟩
theorem kY_X4_costOfAll : pv_Y yX4_costOfAll cX4_costOfAll 3 (some .int) RX4 0 := ⟨rfl, lwG_a 212 rfl rfl, lwG_a 213 rfl rfl, lwG_a 4 rfl rfl, lwG_a 214 rfl rfl, by decide, by decide, by decide +kernel⟩
theorem kY_X6_valueOf : pv_Y yX6_valueOf cX6_valueOf 2 (some .int) RX6 1 := ⟨rfl, lwG_a 217 rfl rfl, lwG_a 218 rfl rfl, lwG_a 2 rfl rfl, lwG_a 219 rfl rfl, by decide, by decide, by decide +kernel⟩
theorem kY_X4_costBehind : pv_Y yX4_costBehind cX4_costBehind 3 (some .int) RX4 1 := ⟨rfl, lwG_a 222 rfl rfl, lwG_sel (q := (yX4_costBehind, _)) 2 rfl, lwG_a 4 rfl rfl, lwG_a 223 rfl rfl, by decide, by decide, by decide +kernel⟩
theorem kY_X6_costToFollow : pv_Y yX6_costToFollow cX6_costToFollow 6 (some .int) RX6 2 := ⟨rfl, lwG_a 225 rfl rfl, lwG_a 226 rfl rfl, lwG_a 2 rfl rfl, lwG_a 227 rfl rfl, by decide, by decide, by decide +kernel⟩
theorem kY_X6_mayFollow : pv_Y yX6_mayFollow cX6_mayFollow 4 (some .boolean) RX6 2 := ⟨rfl, lwG_a 229 rfl rfl, lwG_a 230 rfl rfl, lwG_a 2 rfl rfl, lwG_a 231 rfl rfl, by decide, by decide, by decide +kernel⟩
theorem kY_X6_on : pv_Y yX6_on cX6_on 2 (some .int) RX6 1 := ⟨rfl, lwG_a 234 rfl rfl, lwG_a 235 rfl rfl, lwG_a 2 rfl rfl, lwG_a 236 rfl rfl, by decide, by decide, by decide +kernel⟩
theorem kY_X6_off : pv_Y yX6_off cX6_off 2 (some .int) RX6 1 := ⟨rfl, lwG_a 238 rfl rfl, lwG_a 239 rfl rfl, lwG_a 2 rfl rfl, lwG_b 0 rfl rfl, by decide, by decide, by decide +kernel⟩
theorem kY_X6_pitch : pv_Y yX6_pitch cX6_pitch 2 (some .int) RX6 1 := ⟨rfl, lwG_b 3 rfl rfl, lwG_b 4 rfl rfl, lwG_a 2 rfl rfl, lwG_b 5 rfl rfl, by decide, by decide, by decide +kernel⟩
theorem kY_J9_abs_0f7a4 : pv_Z yJ9_abs_0f7a4 cJ9_abs_0f7a4 1 (some .int) 1 := ⟨lwG_b 7 rfl rfl, lwG_a 12 rfl rfl, lwG_b 8 rfl rfl, by decide, by decide, by decide +kernel⟩
theorem kY_X7_weighed : pv_Y yX7_weighed cX7_weighed 1 (some ((.object "PartedVoices$Partings"))) RX7 0 := ⟨rfl, lwG_b 11 rfl rfl, lwG_sel (q := (yX7_weighed, _)) 3 rfl, lwG_a 1 rfl rfl, lwG_b 12 rfl rfl, by decide, by decide, by decide +kernel⟩
theorem kY_X5_weigh : pv_Y yX5_weigh cX5_weigh 4 (none) RX5 1 := ⟨rfl, lwG_b 14 rfl rfl, lwG_b 15 rfl rfl, lwG_a 5 rfl rfl, lwG_b 16 rfl rfl, by decide, by decide, by decide +kernel⟩
theorem kY_X6_edition : pv_Y yX6_edition cX6_edition 1 (some .int) RX6 0 := ⟨rfl, lwG_b 18 rfl rfl, lwG_b 19 rfl rfl, lwG_a 2 rfl rfl, lwG_b 20 rfl rfl, by decide, by decide, by decide +kernel⟩
theorem kY_J9_min_7cf53 : pv_Z yJ9_min_7cf53 cJ9_min_7cf53 2 (some .int) 2 := ⟨lwG_b 23 rfl rfl, lwG_a 12 rfl rfl, lwG_b 24 rfl rfl, by decide, by decide, by decide +kernel⟩
theorem kY_X5_barredOr : pv_Z yX5_barredOr cX5_barredOr 1 (some .int) 1 := ⟨lwG_b 29 rfl rfl, lwG_a 5 rfl rfl, lwG_b 30 rfl rfl, by decide, by decide, by decide +kernel⟩
theorem kY_X5_bit : pv_Y yX5_bit cX5_bit 2 (some .int) RX5 1 := ⟨rfl, lwG_b 33 rfl rfl, lwG_sel (q := (yX5_bit, _)) 4 rfl, lwG_a 5 rfl rfl, lwG_b 34 rfl rfl, by decide, by decide, by decide +kernel⟩
theorem kY_X5_weighFrom : pv_Y yX5_weighFrom cX5_weighFrom 4 (none) RX5 1 := ⟨rfl, lwG_b 37 rfl rfl, lwG_sel (q := (yX5_weighFrom, _)) 5 rfl, lwG_a 5 rfl rfl, lwG_b 38 rfl rfl, by decide, by decide, by decide +kernel⟩
theorem kY_X5_lineCost : pv_Y yX5_lineCost cX5_lineCost 3 (some .int) RX5 2 := ⟨rfl, lwG_b 41 rfl rfl, lwG_sel (q := (yX5_lineCost, _)) 6 rfl, lwG_a 5 rfl rfl, lwG_b 42 rfl rfl, by decide, by decide, by decide +kernel⟩
theorem kY_X5_weighLine : pv_Y yX5_weighLine cX5_weighLine 6 (none) RX5 3 := ⟨rfl, lwG_b 45 rfl rfl, lwG_sel (q := (yX5_weighLine, _)) 7 rfl, lwG_a 5 rfl rfl, lwG_b 46 rfl rfl, by decide, by decide, by decide +kernel⟩
theorem kY_X5_findLeast : pv_Y yX5_findLeast cX5_findLeast 4 (none) RX5 0 := ⟨rfl, lwG_b 49 rfl rfl, lwG_sel (q := (yX5_findLeast, _)) 8 rfl, lwG_a 5 rfl rfl, lwG_b 50 rfl rfl, by decide, by decide, by decide +kernel⟩
theorem kY_J6_bitCount_0f7a4 : pv_Z yJ6_bitCount_0f7a4 cJ6_bitCount_0f7a4 1 (some .int) 1 := ⟨lwG_b 53 rfl rfl, lwG_a 13 rfl rfl, lwG_b 54 rfl rfl, by decide, by decide, by decide +kernel⟩
theorem kY_X5_offer : pv_Y yX5_offer cX5_offer 4 (none) RX5 2 := ⟨rfl, lwG_b 60 rfl rfl, lwG_sel (q := (yX5_offer, _)) 9 rfl, lwG_a 5 rfl rfl, lwG_b 61 rfl rfl, by decide, by decide, by decide +kernel⟩
theorem kY_X7_isVoiceCount : pv_Z yX7_isVoiceCount cX7_isVoiceCount 1 (some .boolean) 1 := ⟨lwG_b 63 rfl rfl, lwG_a 1 rfl rfl, lwG_b 64 rfl rfl, by decide, by decide, by decide +kernel⟩
theorem kY_X5_fewest : pv_Y yX5_fewest cX5_fewest 2 (some .int) RX5 0 := ⟨rfl, lwG_b 66 rfl rfl, lwG_b 67 rfl rfl, lwG_a 5 rfl rfl, lwG_b 68 rfl rfl, by decide, by decide, by decide +kernel⟩
theorem kY_X5_cheapest : pv_Y yX5_cheapest cX5_cheapest 3 (some .int) RX5 0 := ⟨rfl, lwG_b 70 rfl rfl, lwG_b 71 rfl rfl, lwG_a 5 rfl rfl, lwG_b 72 rfl rfl, by decide, by decide, by decide +kernel⟩
theorem kY_X5_leastCost : pv_Y yX5_leastCost cX5_leastCost 2 (some .int) RX5 1 := ⟨rfl, lwG_b 75 rfl rfl, lwG_b 76 rfl rfl, lwG_a 5 rfl rfl, lwG_b 77 rfl rfl, by decide, by decide, by decide +kernel⟩
theorem kY_X5_cheapestCost : pv_Y yX5_cheapestCost cX5_cheapestCost 1 (some .int) RX5 0 := ⟨rfl, lwG_b 79 rfl rfl, lwG_b 80 rfl rfl, lwG_a 5 rfl rfl, lwG_b 81 rfl rfl, by decide, by decide, by decide +kernel⟩
theorem kY_X4_crossings : pv_Y yX4_crossings cX4_crossings 4 (some .int) RX4 0 := ⟨rfl, lwG_b 84 rfl rfl, lwG_b 85 rfl rfl, lwG_a 4 rfl rfl, lwG_b 86 rfl rfl, by decide, by decide, by decide +kernel⟩
theorem kY_X4_cross : pv_Y yX4_cross cX4_cross 7 (some .boolean) RX4 2 := ⟨rfl, lwG_b 89 rfl rfl, lwG_sel (q := (yX4_cross, _)) 10 rfl, lwG_a 4 rfl rfl, lwG_b 90 rfl rfl, by decide, by decide, by decide +kernel⟩
theorem kY_X0_size : pv_Y yX0_size cX0_size 1 (some .int) RX0 0 := ⟨rfl, lwG_b 95 rfl rfl, lwG_b 96 rfl rfl, lwG_a 8 rfl rfl, lwG_b 97 rfl rfl, by decide, by decide, by decide +kernel⟩
theorem kY_X0_wrong : pv_Y yX0_wrong cX0_wrong 3 (some .int) RX0 1 := ⟨rfl, lwG_b 99 rfl rfl, lwG_b 100 rfl rfl, lwG_a 8 rfl rfl, lwG_b 101 rfl rfl, by decide, by decide, by decide +kernel⟩
theorem kY_X2_held : pv_Y yX2_held cX2_held 1 (some .int) RX2 0 := ⟨rfl, lwG_b 104 rfl rfl, lwG_b 105 rfl rfl, lwG_a 6 rfl rfl, lwG_b 106 rfl rfl, by decide, by decide, by decide +kernel⟩
theorem kY_X1_state : pv_Y yX1_state cX1_state 1 (some .int) RX1 0 := ⟨rfl, lwG_b 108 rfl rfl, lwG_b 109 rfl rfl, lwG_a 9 rfl rfl, lwG_b 110 rfl rfl, by decide, by decide, by decide +kernel⟩
theorem kY_X7_at : pv_Y yX7_at cX7_at 3 (some .int) RX7 2 := ⟨rfl, lwG_b 113 rfl rfl, lwG_b 114 rfl rfl, lwG_a 1 rfl rfl, lwG_b 115 rfl rfl, by decide, by decide, by decide +kernel⟩
theorem kY_X4_ahead : pv_Y yX4_ahead cX4_ahead 2 (some .int) RX4 1 := ⟨rfl, lwG_b 123 rfl rfl, lwG_b 124 rfl rfl, lwG_a 4 rfl rfl, lwG_b 125 rfl rfl, by decide, by decide, by decide +kernel⟩
theorem kY_X4_voiceWith : pv_Y yX4_voiceWith cX4_voiceWith 2 (some .int) RX4 1 := ⟨rfl, lwG_b 127 rfl rfl, lwG_b 128 rfl rfl, lwG_a 4 rfl rfl, lwG_b 129 rfl rfl, by decide, by decide, by decide +kernel⟩
theorem kY_X5_price : pv_Y yX5_price cX5_price 3 (some .int) RX5 1 := ⟨rfl, lwG_b 131 rfl rfl, lwG_b 132 rfl rfl, lwG_a 5 rfl rfl, lwG_b 133 rfl rfl, by decide, by decide, by decide +kernel⟩
theorem kY_X6_countFollowers : pv_Y yX6_countFollowers cX6_countFollowers 4 (some .int) RX6 1 := ⟨rfl, lwG_b 137 rfl rfl, lwG_b 138 rfl rfl, lwG_a 2 rfl rfl, lwG_b 139 rfl rfl, by decide, by decide, by decide +kernel⟩
theorem kY_X7_cost : pv_Y yX7_cost cX7_cost 3 (some .int) RX7 2 := ⟨rfl, lwG_b 142 rfl rfl, lwG_b 143 rfl rfl, lwG_a 1 rfl rfl, lwG_b 144 rfl rfl, by decide, by decide, by decide +kernel⟩
theorem kY_X7_least : pv_Y yX7_least cX7_least 2 (some .int) RX7 1 := ⟨rfl, lwG_b 147 rfl rfl, lwG_b 148 rfl rfl, lwG_a 1 rfl rfl, lwG_b 149 rfl rfl, by decide, by decide, by decide +kernel⟩
theorem kY_X7_first : pv_Y yX7_first cX7_first 4 (some .int) RX7 2 := ⟨rfl, lwG_b 153 rfl rfl, lwG_b 154 rfl rfl, lwG_a 1 rfl rfl, lwG_b 155 rfl rfl, by decide, by decide, by decide +kernel⟩
theorem kY_X5_choose : pv_Y yX5_choose cX5_choose 7 (some .boolean) RX5 1 := ⟨rfl, lwG_b 157 rfl rfl, lwG_b 158 rfl rfl, lwG_a 5 rfl rfl, lwG_b 159 rfl rfl, by decide, by decide, by decide +kernel⟩
theorem kY_X5_firstNext : pv_Y yX5_firstNext cX5_firstNext 7 (some .int) RX5 4 := ⟨rfl, lwG_b 162 rfl rfl, lwG_sel (q := (yX5_firstNext, _)) 11 rfl, lwG_a 5 rfl rfl, lwG_b 163 rfl rfl, by decide, by decide, by decide +kernel⟩
theorem kY_X5_leastBehind : pv_Y yX5_leastBehind cX5_leastBehind 7 (some .int) RX5 3 := ⟨rfl, lwG_b 166 rfl rfl, lwG_sel (q := (yX5_leastBehind, _)) 12 rfl, lwG_a 5 rfl rfl, lwG_b 167 rfl rfl, by decide, by decide, by decide +kernel⟩
theorem kY_X5_chosen : pv_Y yX5_chosen cX5_chosen 2 (some .int) RX5 1 := ⟨rfl, lwG_b 169 rfl rfl, lwG_b 170 rfl rfl, lwG_a 5 rfl rfl, lwG_b 171 rfl rfl, by decide, by decide, by decide +kernel⟩
theorem kY_X7_voice : pv_Y yX7_voice cX7_voice 4 (some .int) RX7 2 := ⟨rfl, lwG_b 174 rfl rfl, lwG_b 175 rfl rfl, lwG_a 1 rfl rfl, lwG_b 176 rfl rfl, by decide, by decide, by decide +kernel⟩
theorem kY_X4_hasVoice : pv_Y yX4_hasVoice cX4_hasVoice 2 (some .boolean) RX4 1 := ⟨rfl, lwG_b 178 rfl rfl, lwG_b 179 rfl rfl, lwG_a 4 rfl rfl, lwG_b 180 rfl rfl, by decide, by decide, by decide +kernel⟩
theorem kY_X4_size : pv_Y yX4_size cX4_size 4 (some .int) RX4 1 := ⟨rfl, lwG_b 182 rfl rfl, lwG_b 183 rfl rfl, lwG_a 4 rfl rfl, lwG_b 184 rfl rfl, by decide, by decide, by decide +kernel⟩
theorem kY_X4_isIn : pv_Y yX4_isIn cX4_isIn 3 (some .boolean) RX4 2 := ⟨rfl, lwG_b 187 rfl rfl, lwG_sel (q := (yX4_isIn, _)) 13 rfl, lwG_a 4 rfl rfl, lwG_b 188 rfl rfl, by decide, by decide, by decide +kernel⟩
theorem kY_X4_noteOf : pv_Y yX4_noteOf cX4_noteOf 5 (some .int) RX4 2 := ⟨rfl, lwG_b 190 rfl rfl, lwG_b 191 rfl rfl, lwG_a 4 rfl rfl, lwG_b 192 rfl rfl, by decide, by decide, by decide +kernel⟩
theorem kY_X4_lowest : pv_Y yX4_lowest cX4_lowest 4 (some .int) RX4 1 := ⟨rfl, lwG_b 194 rfl rfl, lwG_b 195 rfl rfl, lwG_a 4 rfl rfl, lwG_b 196 rfl rfl, by decide, by decide, by decide +kernel⟩
theorem kY_X4_highest : pv_Y yX4_highest cX4_highest 4 (some .int) RX4 1 := ⟨rfl, lwG_b 200 rfl rfl, lwG_b 201 rfl rfl, lwG_a 4 rfl rfl, lwG_b 202 rfl rfl, by decide, by decide, by decide +kernel⟩
theorem kY_J9_max_7cf53 : pv_Z yJ9_max_7cf53 cJ9_max_7cf53 2 (some .int) 2 := ⟨lwG_b 204 rfl rfl, lwG_a 12 rfl rfl, lwG_b 205 rfl rfl, by decide, by decide, by decide +kernel⟩
theorem kY_X4_rests : pv_Y yX4_rests cX4_rests 5 (some .int) RX4 1 := ⟨rfl, lwG_b 207 rfl rfl, lwG_b 208 rfl rfl, lwG_a 4 rfl rfl, lwG_b 209 rfl rfl, by decide, by decide, by decide +kernel⟩
theorem kY_X4_costOf : pv_Y yX4_costOf cX4_costOf 4 (some .int) RX4 1 := ⟨rfl, lwG_b 212 rfl rfl, lwG_b 213 rfl rfl, lwG_a 4 rfl rfl, lwG_b 214 rfl rfl, by decide, by decide, by decide +kernel⟩
theorem kY_X7_member : pv_Y yX7_member cX7_member 4 (some .int) RX7 2 := ⟨rfl, lwG_b 216 rfl rfl, lwG_b 217 rfl rfl, lwG_a 1 rfl rfl, lwG_b 218 rfl rfl, by decide, by decide, by decide +kernel⟩
theorem kY_X7_note : pv_Y yX7_note cX7_note 4 (some .int) RX7 3 := ⟨rfl, lwG_b 220 rfl rfl, lwG_b 221 rfl rfl, lwG_a 1 rfl rfl, lwG_b 222 rfl rfl, by decide, by decide, by decide +kernel⟩
theorem kY_X6_canBe : pv_Z yX6_canBe cX6_canBe 3 (some .boolean) 3 := ⟨lwG_b 224 rfl rfl, lwG_a 2 rfl rfl, lwG_b 225 rfl rfl, by decide, by decide, by decide +kernel⟩
theorem kY_X6_isFull : pv_Y yX6_isFull cX6_isFull 1 (some .boolean) RX6 0 := ⟨rfl, lwG_b 227 rfl rfl, lwG_b 228 rfl rfl, lwG_a 2 rfl rfl, lwG_b 229 rfl rfl, by decide, by decide, by decide +kernel⟩
theorem kY_X2_record : pv_Y yX2_record cX2_record 2 (none) RX2 1 := ⟨rfl, lwG_b 232 rfl rfl, lwG_b 233 rfl rfl, lwG_a 6 rfl rfl, lwG_b 234 rfl rfl, by decide, by decide, by decide +kernel⟩
theorem kY_X6_copyTo : pv_Y yX6_copyTo cX6_copyTo 3 (none) RX6 2 := ⟨rfl, lwG_b 236 rfl rfl, lwG_b 237 rfl rfl, lwG_a 2 rfl rfl, lwG_b 238 rfl rfl, by decide, by decide, by decide +kernel⟩
theorem kY_X6_fitsOn : pv_Z yX6_fitsOn cX6_fitsOn 2 (some .boolean) 2 := ⟨lwG_c 0 rfl rfl, lwG_a 2 rfl rfl, lwG_c 1 rfl rfl, by decide, by decide, by decide +kernel⟩
theorem kY_X6_bring : pv_Y yX6_bring cX6_bring 7 (some .int) RX6 3 := ⟨rfl, lwG_c 4 rfl rfl, lwG_c 5 rfl rfl, lwG_a 2 rfl rfl, lwG_c 6 rfl rfl, by decide, by decide, by decide +kernel⟩
theorem kY_X6_placeFor : pv_Y yX6_placeFor cX6_placeFor 6 (some .int) RX6 3 := ⟨rfl, lwG_c 10 rfl rfl, lwG_sel (q := (yX6_placeFor, _)) 14 rfl, lwG_a 2 rfl rfl, lwG_c 11 rfl rfl, by decide, by decide, by decide +kernel⟩
theorem kY_X6_orderKey : pv_Z yX6_orderKey cX6_orderKey 3 (some .int) 3 := ⟨lwG_c 13 rfl rfl, lwG_a 2 rfl rfl, lwG_c 14 rfl rfl, by decide, by decide, by decide +kernel⟩
theorem kY_X6_length : pv_Y yX6_length cX6_length 2 (some .int) RX6 1 := ⟨rfl, lwG_c 16 rfl rfl, lwG_c 17 rfl rfl, lwG_a 2 rfl rfl, lwG_c 18 rfl rfl, by decide, by decide, by decide +kernel⟩
theorem kY_X6_changed : pv_Y yX6_changed cX6_changed 2 (none) RX6 0 := ⟨rfl, lwG_c 21 rfl rfl, lwG_sel (q := (yX6_changed, _)) 15 rfl, lwG_a 2 rfl rfl, lwG_c 22 rfl rfl, by decide, by decide, by decide +kernel⟩
theorem kY_X6_link : pv_Y yX6_link cX6_link 3 (none) RX6 2 := ⟨rfl, lwG_c 24 rfl rfl, lwG_c 25 rfl rfl, lwG_a 2 rfl rfl, lwG_c 26 rfl rfl, by decide, by decide, by decide +kernel⟩
theorem kY_X7_take : pv_Y yX7_take cX7_take 2 (some .int) RX7 1 := ⟨rfl, lwG_c 28 rfl rfl, lwG_c 29 rfl rfl, lwG_a 1 rfl rfl, lwG_c 30 rfl rfl, by decide, by decide, by decide +kernel⟩
theorem kY_X6_drop : pv_Y yX6_drop cX6_drop 4 (none) RX6 1 := ⟨rfl, lwG_c 32 rfl rfl, lwG_c 33 rfl rfl, lwG_a 2 rfl rfl, lwG_c 34 rfl rfl, by decide, by decide, by decide +kernel⟩
theorem kY_X7_move : pv_Y yX7_move cX7_move 5 (some .int) RX7 4 := ⟨rfl, lwG_c 36 rfl rfl, lwG_c 37 rfl rfl, lwG_a 1 rfl rfl, lwG_c 38 rfl rfl, by decide, by decide, by decide +kernel⟩
theorem kY_X7_share : pv_Y yX7_share cX7_share 2 (some .int) RX7 1 := ⟨rfl, lwG_c 40 rfl rfl, lwG_c 41 rfl rfl, lwG_a 1 rfl rfl, lwG_c 42 rfl rfl, by decide, by decide, by decide +kernel⟩
theorem kY_X7_term : pv_Y yX7_term cX7_term 3 (some .int) RX7 2 := ⟨rfl, lwG_c 45 rfl rfl, lwG_c 46 rfl rfl, lwG_a 1 rfl rfl, lwG_c 47 rfl rfl, by decide, by decide, by decide +kernel⟩
theorem kY_X6_canBeTerm : pv_Z yX6_canBeTerm cX6_canBeTerm 2 (some .boolean) 2 := ⟨lwG_c 49 rfl rfl, lwG_a 2 rfl rfl, lwG_c 50 rfl rfl, by decide, by decide, by decide +kernel⟩
theorem kY_X6_changeTerm : pv_Y yX6_changeTerm cX6_changeTerm 4 (some .int) RX6 2 := ⟨rfl, lwG_c 54 rfl rfl, lwG_c 55 rfl rfl, lwG_a 2 rfl rfl, lwG_c 56 rfl rfl, by decide, by decide, by decide +kernel⟩
theorem kY_X7_follow : pv_Y yX7_follow cX7_follow 3 (some .int) RX7 2 := ⟨rfl, lwG_c 58 rfl rfl, lwG_c 59 rfl rfl, lwG_a 1 rfl rfl, lwG_c 60 rfl rfl, by decide, by decide, by decide +kernel⟩
theorem kY_X7_cut : pv_Y yX7_cut cX7_cut 3 (some .int) RX7 1 := ⟨rfl, lwG_c 64 rfl rfl, lwG_c 65 rfl rfl, lwG_a 1 rfl rfl, lwG_c 66 rfl rfl, by decide, by decide, by decide +kernel⟩
theorem kY_X7_part : pv_Y yX7_part cX7_part 5 (some .int) RX7 1 := ⟨rfl, lwG_c 68 rfl rfl, lwG_c 69 rfl rfl, lwG_a 1 rfl rfl, lwG_c 70 rfl rfl, by decide, by decide, by decide +kernel⟩
theorem kY_X7_mend : pv_Y yX7_mend cX7_mend 1 (some .int) RX7 0 := ⟨rfl, lwG_c 72 rfl rfl, lwG_c 73 rfl rfl, lwG_a 1 rfl rfl, lwG_c 74 rfl rfl, by decide, by decide, by decide +kernel⟩
theorem kY_X4_mendCrossings : pv_Y yX4_mendCrossings cX4_mendCrossings 2 (some .int) RX4 0 := ⟨rfl, lwG_c 76 rfl rfl, lwG_c 77 rfl rfl, lwG_a 4 rfl rfl, lwG_c 78 rfl rfl, by decide, by decide, by decide +kernel⟩
theorem kY_X4_mendFirst : pv_Y yX4_mendFirst cX4_mendFirst 4 (some .boolean) RX4 0 := ⟨rfl, lwG_c 81 rfl rfl, lwG_sel (q := (yX4_mendFirst, _)) 16 rfl, lwG_a 4 rfl rfl, lwG_c 82 rfl rfl, by decide, by decide, by decide +kernel⟩
theorem kY_X4_canMend : pv_Y yX4_canMend cX4_canMend 3 (some .boolean) RX4 2 := ⟨rfl, lwG_c 85 rfl rfl, lwG_sel (q := (yX4_canMend, _)) 17 rfl, lwG_a 4 rfl rfl, lwG_c 86 rfl rfl, by decide, by decide, by decide +kernel⟩
theorem kY_X7_clear : pv_Y yX7_clear cX7_clear 2 (some .int) RX7 0 := ⟨rfl, lwG_c 90 rfl rfl, lwG_c 91 rfl rfl, lwG_a 1 rfl rfl, lwG_c 92 rfl rfl, by decide, by decide, by decide +kernel⟩
theorem kY_X6_dropAll : pv_Y yX6_dropAll cX6_dropAll 1 (none) RX6 0 := ⟨rfl, lwG_c 94 rfl rfl, lwG_c 95 rfl rfl, lwG_a 2 rfl rfl, lwG_c 96 rfl rfl, by decide, by decide, by decide +kernel⟩
theorem kY_X7_drift : pv_Y yX7_drift cX7_drift 3 (some .int) RX7 1 := ⟨rfl, lwG_c 98 rfl rfl, lwG_c 99 rfl rfl, lwG_a 1 rfl rfl, lwG_c 100 rfl rfl, by decide, by decide, by decide +kernel⟩
theorem kY_X7_bringDrawn : pv_Y yX7_bringDrawn cX7_bringDrawn 4 (none) RX7 0 := ⟨rfl, lwG_c 103 rfl rfl, lwG_sel (q := (yX7_bringDrawn, _)) 18 rfl, lwG_a 1 rfl rfl, lwG_c 104 rfl rfl, by decide, by decide, by decide +kernel⟩
theorem kY_X1_draw : pv_Y yX1_draw cX1_draw 2 (some .int) RX1 1 := ⟨rfl, lwG_c 106 rfl rfl, lwG_c 107 rfl rfl, lwG_a 9 rfl rfl, lwG_c 108 rfl rfl, by decide, by decide, by decide +kernel⟩
theorem kY_X7_undo : pv_Y yX7_undo cX7_undo 2 (some .int) RX7 1 := ⟨rfl, lwG_c 113 rfl rfl, lwG_c 114 rfl rfl, lwG_a 1 rfl rfl, lwG_c 115 rfl rfl, by decide, by decide, by decide +kernel⟩
theorem kY_X2_giveBack : pv_Y yX2_giveBack cX2_giveBack 3 (none) RX2 2 := ⟨rfl, lwG_c 117 rfl rfl, lwG_c 118 rfl rfl, lwG_a 6 rfl rfl, lwG_c 119 rfl rfl, by decide, by decide, by decide +kernel⟩
theorem kY_X6_copyFrom : pv_Y yX6_copyFrom cX6_copyFrom 3 (none) RX6 2 := ⟨rfl, lwG_c 121 rfl rfl, lwG_c 122 rfl rfl, lwG_a 2 rfl rfl, lwG_c 123 rfl rfl, by decide, by decide, by decide +kernel⟩
theorem kY_X7_write : pv_Y yX7_write cX7_write 3 (some .int) RX7 2 := ⟨rfl, lwG_c 125 rfl rfl, lwG_c 126 rfl rfl, lwG_a 1 rfl rfl, lwG_c 127 rfl rfl, by decide, by decide, by decide +kernel⟩
theorem kY_X0_isFull : pv_Y yX0_isFull cX0_isFull 1 (some .boolean) RX0 0 := ⟨rfl, lwG_c 129 rfl rfl, lwG_c 130 rfl rfl, lwG_a 8 rfl rfl, lwG_c 131 rfl rfl, by decide, by decide, by decide +kernel⟩
theorem kY_X0_add : pv_Y yX0_add cX0_add 3 (none) RX0 2 := ⟨rfl, lwG_c 133 rfl rfl, lwG_c 134 rfl rfl, lwG_a 8 rfl rfl, lwG_c 135 rfl rfl, by decide, by decide, by decide +kernel⟩
theorem kY_X7_tear : pv_Y yX7_tear cX7_tear 2 (some .int) RX7 0 := ⟨rfl, lwG_c 138 rfl rfl, lwG_c 139 rfl rfl, lwG_a 1 rfl rfl, lwG_c 140 rfl rfl, by decide, by decide, by decide +kernel⟩
theorem kY_X0_empty : pv_Y yX0_empty cX0_empty 1 (none) RX0 0 := ⟨rfl, lwG_c 142 rfl rfl, lwG_c 143 rfl rfl, lwG_a 8 rfl rfl, lwG_c 144 rfl rfl, by decide, by decide, by decide +kernel⟩
theorem kY_X7_seed : pv_Y yX7_seed cX7_seed 3 (some .int) RX7 1 := ⟨rfl, lwG_c 146 rfl rfl, lwG_c 147 rfl rfl, lwG_a 1 rfl rfl, lwG_c 148 rfl rfl, by decide, by decide, by decide +kernel⟩
theorem kY_X1_become : pv_Y yX1_become cX1_become 2 (none) RX1 1 := ⟨rfl, lwG_c 150 rfl rfl, lwG_c 151 rfl rfl, lwG_a 9 rfl rfl, lwG_c 152 rfl rfl, by decide, by decide, by decide +kernel⟩
theorem kY_X7_keep : pv_Y yX7_keep cX7_keep 2 (some .int) RX7 1 := ⟨rfl, lwG_c 154 rfl rfl, lwG_c 155 rfl rfl, lwG_a 1 rfl rfl, lwG_c 156 rfl rfl, by decide, by decide, by decide +kernel⟩
theorem kY_X3_isImage : pv_Z yX3_isImage cX3_isImage 1 (some .boolean) 1 := ⟨lwG_c 158 rfl rfl, lwG_a 7 rfl rfl, lwG_c 159 rfl rfl, by decide, by decide, by decide +kernel⟩
theorem kY_X3_store : pv_Y yX3_store cX3_store 4 (none) RX3 3 := ⟨rfl, lwG_c 161 rfl rfl, lwG_c 162 rfl rfl, lwG_a 7 rfl rfl, lwG_c 163 rfl rfl, by decide, by decide, by decide +kernel⟩
theorem kY_X2_forget : pv_Y yX2_forget cX2_forget 1 (none) RX2 0 := ⟨rfl, lwG_c 168 rfl rfl, lwG_c 169 rfl rfl, lwG_a 6 rfl rfl, lwG_c 170 rfl rfl, by decide, by decide, by decide +kernel⟩
theorem kY_X7_goBack : pv_Y yX7_goBack cX7_goBack 2 (some .int) RX7 1 := ⟨rfl, lwG_c 172 rfl rfl, lwG_c 173 rfl rfl, lwG_a 1 rfl rfl, lwG_c 174 rfl rfl, by decide, by decide, by decide +kernel⟩
theorem kY_X3_isKept : pv_Y yX3_isKept cX3_isKept 2 (some .boolean) RX3 1 := ⟨rfl, lwG_c 176 rfl rfl, lwG_c 177 rfl rfl, lwG_a 7 rfl rfl, lwG_c 178 rfl rfl, by decide, by decide, by decide +kernel⟩
theorem kY_X3_restore : pv_Y yX3_restore cX3_restore 4 (none) RX3 3 := ⟨rfl, lwG_c 180 rfl rfl, lwG_c 181 rfl rfl, lwG_a 7 rfl rfl, lwG_c 182 rfl rfl, by decide, by decide, by decide +kernel⟩
theorem kY_X8_told : pv_Y yX8_told cX8_told 2 (some .int) RX8 1 := ⟨rfl, lwG_c 227 rfl rfl, lwG_c 228 rfl rfl, lwG_a 10 rfl rfl, lwG_c 229 rfl rfl, by decide, by decide, by decide +kernel⟩
theorem kY_X8_voices : pv_Y yX8_voices cX8_voices 3 (some .int) RX8 0 := ⟨rfl, lwG_c 232 rfl rfl, lwG_sel (q := (yX8_voices, _)) 19 rfl, lwG_a 10 rfl rfl, lwG_c 233 rfl rfl, by decide, by decide, by decide +kernel⟩
theorem kY_X8_prior : pv_Y yX8_prior cX8_prior 4 (some .int) RX8 1 := ⟨rfl, lwG_c 236 rfl rfl, lwG_sel (q := (yX8_prior, _)) 20 rfl, lwG_a 10 rfl rfl, lwG_c 237 rfl rfl, by decide, by decide, by decide +kernel⟩
theorem kY_X8_costNow : pv_Y yX8_costNow cX8_costNow 3 (some .int) RX8 0 := ⟨rfl, lwG_d 0 rfl rfl, lwG_sel (q := (yX8_costNow, _)) 21 rfl, lwG_a 10 rfl rfl, lwG_d 1 rfl rfl, by decide, by decide, by decide +kernel⟩
theorem kY_X8_costOf : pv_Y yX8_costOf cX8_costOf 4 (some .int) RX8 2 := ⟨rfl, lwG_d 4 rfl rfl, lwG_sel (q := (yX8_costOf, _)) 22 rfl, lwG_a 10 rfl rfl, lwG_d 5 rfl rfl, by decide, by decide, by decide +kernel⟩
theorem kY_X8_off : pv_Y yX8_off cX8_off 2 (some .int) RX8 1 := ⟨rfl, lwG_d 8 rfl rfl, lwG_sel (q := (yX8_off, _)) 23 rfl, lwG_a 10 rfl rfl, lwG_d 9 rfl rfl, by decide, by decide, by decide +kernel⟩
theorem kY_X8_fewest : pv_Y yX8_fewest cX8_fewest 2 (some .int) RX8 0 := ⟨rfl, lwG_d 12 rfl rfl, lwG_sel (q := (yX8_fewest, _)) 24 rfl, lwG_a 10 rfl rfl, lwG_d 13 rfl rfl, by decide, by decide, by decide +kernel⟩
theorem kY_X8_leastOf : pv_Y yX8_leastOf cX8_leastOf 4 (some .int) RX8 2 := ⟨rfl, lwG_d 16 rfl rfl, lwG_sel (q := (yX8_leastOf, _)) 25 rfl, lwG_a 10 rfl rfl, lwG_d 17 rfl rfl, by decide, by decide, by decide +kernel⟩
theorem kY_X8_in : pv_Z yX8_in cX8_in 6 (some .boolean) 3 := ⟨lwG_d 19 rfl rfl, lwG_a 10 rfl rfl, lwG_d 20 rfl rfl, by decide, by decide, by decide +kernel⟩
theorem kY_X8_lay : pv_Y yX8_lay cX8_lay 9 (none) RX8 2 := ⟨rfl, lwG_d 23 rfl rfl, lwG_sel (q := (yX8_lay, _)) 26 rfl, lwG_a 10 rfl rfl, lwG_d 24 rfl rfl, by decide, by decide, by decide +kernel⟩
theorem kY_X8_ones : pv_Z yX8_ones cX8_ones 3 (some .int) 1 := ⟨lwG_d 26 rfl rfl, lwG_a 10 rfl rfl, lwG_d 27 rfl rfl, by decide, by decide, by decide +kernel⟩
theorem kY_X8_through : pv_Y yX8_through cX8_through 5 (some .int) RX8 3 := ⟨rfl, lwG_d 31 rfl rfl, lwG_sel (q := (yX8_through, _)) 27 rfl, lwG_a 10 rfl rfl, lwG_d 32 rfl rfl, by decide, by decide, by decide +kernel⟩
theorem kY_X8_bestAt : pv_Y yX8_bestAt cX8_bestAt 3 (some .int) RX8 2 := ⟨rfl, lwG_d 35 rfl rfl, lwG_sel (q := (yX8_bestAt, _)) 28 rfl, lwG_a 10 rfl rfl, lwG_d 36 rfl rfl, by decide, by decide, by decide +kernel⟩
theorem kY_X8_may : pv_Y yX8_may cX8_may 3 (some .boolean) RX8 2 := ⟨rfl, lwG_d 39 rfl rfl, lwG_sel (q := (yX8_may, _)) 29 rfl, lwG_a 10 rfl rfl, lwG_d 40 rfl rfl, by decide, by decide, by decide +kernel⟩
theorem kY_X8_cheapest : pv_Y yX8_cheapest cX8_cheapest 7 (some .int) RX8 1 := ⟨rfl, lwG_d 43 rfl rfl, lwG_sel (q := (yX8_cheapest, _)) 30 rfl, lwG_a 10 rfl rfl, lwG_d 44 rfl rfl, by decide, by decide, by decide +kernel⟩
theorem kY_X8_leastOfAll : pv_Y yX8_leastOfAll cX8_leastOfAll 2 (some .int) RX8 1 := ⟨rfl, lwG_d 47 rfl rfl, lwG_sel (q := (yX8_leastOfAll, _)) 31 rfl, lwG_a 10 rfl rfl, lwG_d 48 rfl rfl, by decide, by decide, by decide +kernel⟩
theorem kY_X8_crossings : pv_Y yX8_crossings cX8_crossings 4 (some .int) RX8 0 := ⟨rfl, lwG_d 51 rfl rfl, lwG_sel (q := (yX8_crossings, _)) 32 rfl, lwG_a 10 rfl rfl, lwG_d 52 rfl rfl, by decide, by decide, by decide +kernel⟩
theorem kY_X8_cross : pv_Y yX8_cross cX8_cross 6 (some .boolean) RX8 2 := ⟨rfl, lwG_d 55 rfl rfl, lwG_sel (q := (yX8_cross, _)) 33 rfl, lwG_a 10 rfl rfl, lwG_d 56 rfl rfl, by decide, by decide, by decide +kernel⟩
theorem kY_X8_toldMore : pv_Y yX8_toldMore cX8_toldMore 2 (some .int) RX8 1 := ⟨rfl, lwG_d 59 rfl rfl, lwG_sel (q := (yX8_toldMore, _)) 34 rfl, lwG_a 10 rfl rfl, lwG_d 60 rfl rfl, by decide, by decide, by decide +kernel⟩
theorem kY_X8_wrong : pv_Y yX8_wrong cX8_wrong 2 (some .int) RX8 0 := ⟨rfl, lwG_d 63 rfl rfl, lwG_sel (q := (yX8_wrong, _)) 35 rfl, lwG_a 10 rfl rfl, lwG_d 64 rfl rfl, by decide, by decide, by decide +kernel⟩
theorem kY_X8_at : pv_Y yX8_at cX8_at 3 (some .int) RX8 2 := ⟨rfl, lwG_d 67 rfl rfl, lwG_d 68 rfl rfl, lwG_a 10 rfl rfl, lwG_d 69 rfl rfl, by decide, by decide, by decide +kernel⟩
theorem kY_X8_isNote : pv_Y yX8_isNote cX8_isNote 2 (some .boolean) RX8 1 := ⟨rfl, lwG_d 72 rfl rfl, lwG_sel (q := (yX8_isNote, _)) 36 rfl, lwG_a 10 rfl rfl, lwG_d 73 rfl rfl, by decide, by decide, by decide +kernel⟩
theorem kY_X8_voiceOf : pv_Y yX8_voiceOf cX8_voiceOf 5 (some .int) RX8 1 := ⟨rfl, lwG_d 77 rfl rfl, lwG_sel (q := (yX8_voiceOf, _)) 37 rfl, lwG_a 10 rfl rfl, lwG_d 78 rfl rfl, by decide, by decide, by decide +kernel⟩
theorem kY_X8_followers : pv_Y yX8_followers cX8_followers 4 (some .int) RX8 1 := ⟨rfl, lwG_d 81 rfl rfl, lwG_sel (q := (yX8_followers, _)) 38 rfl, lwG_a 10 rfl rfl, lwG_d 82 rfl rfl, by decide, by decide, by decide +kernel⟩
theorem kY_X8_cost : pv_Y yX8_cost cX8_cost 3 (some .int) RX8 2 := ⟨rfl, lwG_d 84 rfl rfl, lwG_d 85 rfl rfl, lwG_a 10 rfl rfl, lwG_d 86 rfl rfl, by decide, by decide, by decide +kernel⟩
theorem kY_X8_least : pv_Y yX8_least cX8_least 2 (some .int) RX8 1 := ⟨rfl, lwG_d 88 rfl rfl, lwG_d 89 rfl rfl, lwG_a 10 rfl rfl, lwG_d 90 rfl rfl, by decide, by decide, by decide +kernel⟩
theorem kY_X8_first : pv_Y yX8_first cX8_first 3 (some .int) RX8 2 := ⟨rfl, lwG_d 93 rfl rfl, lwG_d 94 rfl rfl, lwG_a 10 rfl rfl, lwG_d 95 rfl rfl, by decide, by decide, by decide +kernel⟩
theorem kY_X8_layFirst : pv_Y yX8_layFirst cX8_layFirst 5 (some .boolean) RX8 1 := ⟨rfl, lwG_d 98 rfl rfl, lwG_sel (q := (yX8_layFirst, _)) 39 rfl, lwG_a 10 rfl rfl, lwG_d 99 rfl rfl, by decide, by decide, by decide +kernel⟩
theorem kY_X8_voice : pv_Y yX8_voice cX8_voice 3 (some .int) RX8 2 := ⟨rfl, lwG_d 102 rfl rfl, lwG_d 103 rfl rfl, lwG_a 10 rfl rfl, lwG_d 104 rfl rfl, by decide, by decide, by decide +kernel⟩
theorem kY_X8_firstOf : pv_Y yX8_firstOf cX8_firstOf 4 (some .int) RX8 1 := ⟨rfl, lwG_d 108 rfl rfl, lwG_sel (q := (yX8_firstOf, _)) 40 rfl, lwG_a 10 rfl rfl, lwG_d 109 rfl rfl, by decide, by decide, by decide +kernel⟩
theorem kY_X8_ofVoice : pv_Y yX8_ofVoice cX8_ofVoice 11 (some .int) RX8 2 := ⟨rfl, lwG_d 112 rfl rfl, lwG_sel (q := (yX8_ofVoice, _)) 41 rfl, lwG_a 10 rfl rfl, lwG_d 113 rfl rfl, by decide, by decide, by decide +kernel⟩
theorem kY_X8_member : pv_Y yX8_member cX8_member 5 (some .int) RX8 2 := ⟨rfl, lwG_d 115 rfl rfl, lwG_d 116 rfl rfl, lwG_a 10 rfl rfl, lwG_d 117 rfl rfl, by decide, by decide, by decide +kernel⟩
theorem kY_X8_note : pv_Y yX8_note cX8_note 4 (some .int) RX8 3 := ⟨rfl, lwG_d 119 rfl rfl, lwG_d 120 rfl rfl, lwG_a 10 rfl rfl, lwG_d 121 rfl rfl, by decide, by decide, by decide +kernel⟩
theorem kY_X8_isNoteOf : pv_Y yX8_isNoteOf cX8_isNoteOf 4 (some .boolean) RX8 3 := ⟨rfl, lwG_d 124 rfl rfl, lwG_sel (q := (yX8_isNoteOf, _)) 42 rfl, lwG_a 10 rfl rfl, lwG_d 125 rfl rfl, by decide, by decide, by decide +kernel⟩
theorem kY_X8_remember : pv_Y yX8_remember cX8_remember 2 (none) RX8 0 := ⟨rfl, lwG_d 132 rfl rfl, lwG_sel (q := (yX8_remember, _)) 43 rfl, lwG_a 10 rfl rfl, lwG_d 133 rfl rfl, by decide, by decide, by decide +kernel⟩
theorem kY_X8_copyRow : pv_Y yX8_copyRow cX8_copyRow 4 (none) RX8 2 := ⟨rfl, lwG_d 136 rfl rfl, lwG_sel (q := (yX8_copyRow, _)) 44 rfl, lwG_a 10 rfl rfl, lwG_d 137 rfl rfl, by decide, by decide, by decide +kernel⟩
theorem kY_X8_add : pv_Y yX8_add cX8_add 5 (some .int) RX8 3 := ⟨rfl, lwG_d 140 rfl rfl, lwG_sel (q := (yX8_add, _)) 45 rfl, lwG_a 10 rfl rfl, lwG_d 141 rfl rfl, by decide, by decide, by decide +kernel⟩
theorem kY_X8_stays : pv_Y yX8_stays cX8_stays 5 (some .boolean) RX8 4 := ⟨rfl, lwG_d 144 rfl rfl, lwG_sel (q := (yX8_stays, _)) 46 rfl, lwG_a 10 rfl rfl, lwG_d 145 rfl rfl, by decide, by decide, by decide +kernel⟩
theorem kY_X8_part0 : pv_Y yX8_part0 cX8_part0 2 (none) RX8 0 := ⟨rfl, lwG_d 148 rfl rfl, lwG_sel (q := (yX8_part0, _)) 47 rfl, lwG_a 10 rfl rfl, lwG_d 149 rfl rfl, by decide, by decide, by decide +kernel⟩
theorem kY_X8_take : pv_Y yX8_take cX8_take 2 (some .int) RX8 1 := ⟨rfl, lwG_d 151 rfl rfl, lwG_d 152 rfl rfl, lwG_a 10 rfl rfl, lwG_d 153 rfl rfl, by decide, by decide, by decide +kernel⟩
theorem kY_X8_remove : pv_Y yX8_remove cX8_remove 3 (none) RX8 1 := ⟨rfl, lwG_d 156 rfl rfl, lwG_sel (q := (yX8_remove, _)) 48 rfl, lwG_a 10 rfl rfl, lwG_d 157 rfl rfl, by decide, by decide, by decide +kernel⟩
theorem kY_X8_move : pv_Y yX8_move cX8_move 5 (some .int) RX8 4 := ⟨rfl, lwG_d 159 rfl rfl, lwG_d 160 rfl rfl, lwG_a 10 rfl rfl, lwG_d 161 rfl rfl, by decide, by decide, by decide +kernel⟩
theorem kY_X8_share : pv_Y yX8_share cX8_share 2 (some .int) RX8 1 := ⟨rfl, lwG_d 163 rfl rfl, lwG_d 164 rfl rfl, lwG_a 10 rfl rfl, lwG_d 165 rfl rfl, by decide, by decide, by decide +kernel⟩
theorem kY_X8_term : pv_Y yX8_term cX8_term 5 (some .int) RX8 2 := ⟨rfl, lwG_d 167 rfl rfl, lwG_d 168 rfl rfl, lwG_a 10 rfl rfl, lwG_d 169 rfl rfl, by decide, by decide, by decide +kernel⟩
theorem kY_X8_follow : pv_Y yX8_follow cX8_follow 3 (some .int) RX8 2 := ⟨rfl, lwG_d 172 rfl rfl, lwG_d 173 rfl rfl, lwG_a 10 rfl rfl, lwG_d 174 rfl rfl, by decide, by decide, by decide +kernel⟩
theorem kY_X8_cut : pv_Y yX8_cut cX8_cut 3 (some .int) RX8 1 := ⟨rfl, lwG_d 176 rfl rfl, lwG_d 177 rfl rfl, lwG_a 10 rfl rfl, lwG_d 178 rfl rfl, by decide, by decide, by decide +kernel⟩
theorem kY_X8_part : pv_Y yX8_part cX8_part 3 (some .int) RX8 1 := ⟨rfl, lwG_d 180 rfl rfl, lwG_d 181 rfl rfl, lwG_a 10 rfl rfl, lwG_d 182 rfl rfl, by decide, by decide, by decide +kernel⟩
theorem kY_X8_mend : pv_Y yX8_mend cX8_mend 2 (some .int) RX8 0 := ⟨rfl, lwG_d 185 rfl rfl, lwG_d 186 rfl rfl, lwG_a 10 rfl rfl, lwG_d 187 rfl rfl, by decide, by decide, by decide +kernel⟩
theorem kY_X8_mendOne : pv_Y yX8_mendOne cX8_mendOne 4 (some .boolean) RX8 0 := ⟨rfl, lwG_d 190 rfl rfl, lwG_sel (q := (yX8_mendOne, _)) 49 rfl, lwG_a 10 rfl rfl, lwG_d 191 rfl rfl, by decide, by decide, by decide +kernel⟩
theorem kY_X8_clear : pv_Y yX8_clear cX8_clear 2 (some .int) RX8 0 := ⟨rfl, lwG_d 193 rfl rfl, lwG_d 194 rfl rfl, lwG_a 10 rfl rfl, lwG_d 195 rfl rfl, by decide, by decide, by decide +kernel⟩
theorem kY_X8_drift : pv_Y yX8_drift cX8_drift 5 (some .int) RX8 1 := ⟨rfl, lwG_d 197 rfl rfl, lwG_d 198 rfl rfl, lwG_a 10 rfl rfl, lwG_d 199 rfl rfl, by decide, by decide, by decide +kernel⟩
theorem kY_X8_draw : pv_Y yX8_draw cX8_draw 2 (some .int) RX8 1 := ⟨rfl, lwG_d 202 rfl rfl, lwG_sel (q := (yX8_draw, _)) 50 rfl, lwG_a 10 rfl rfl, lwG_d 203 rfl rfl, by decide, by decide, by decide +kernel⟩
theorem kY_X8_undo : pv_Y yX8_undo cX8_undo 3 (some .int) RX8 1 := ⟨rfl, lwG_d 209 rfl rfl, lwG_d 210 rfl rfl, lwG_a 10 rfl rfl, lwG_d 211 rfl rfl, by decide, by decide, by decide +kernel⟩
theorem kY_X8_write : pv_Y yX8_write cX8_write 3 (some .int) RX8 2 := ⟨rfl, lwG_d 214 rfl rfl, lwG_d 215 rfl rfl, lwG_a 10 rfl rfl, lwG_d 216 rfl rfl, by decide, by decide, by decide +kernel⟩
theorem kY_X8_tear : pv_Y yX8_tear cX8_tear 2 (some .int) RX8 0 := ⟨rfl, lwG_d 218 rfl rfl, lwG_d 219 rfl rfl, lwG_a 10 rfl rfl, lwG_d 220 rfl rfl, by decide, by decide, by decide +kernel⟩
theorem kY_X8_seed : pv_Y yX8_seed cX8_seed 3 (some .int) RX8 1 := ⟨rfl, lwG_d 222 rfl rfl, lwG_d 223 rfl rfl, lwG_a 10 rfl rfl, lwG_d 224 rfl rfl, by decide, by decide, by decide +kernel⟩
theorem kY_X8_keep : pv_Y yX8_keep cX8_keep 2 (some .int) RX8 1 := ⟨rfl, lwG_d 226 rfl rfl, lwG_d 227 rfl rfl, lwG_a 10 rfl rfl, lwG_d 228 rfl rfl, by decide, by decide, by decide +kernel⟩
theorem kY_X8_goBack : pv_Y yX8_goBack cX8_goBack 2 (some .int) RX8 1 := ⟨rfl, lwG_d 230 rfl rfl, lwG_d 231 rfl rfl, lwG_a 10 rfl rfl, lwG_d 232 rfl rfl, by decide, by decide, by decide +kernel⟩
theorem kl_X6_18 : Cond.methodLink RX6 18 arraycopyName ∈ lwG := lwG_a 30 rfl rfl
theorem kl_L_13 : Cond.methodLink RL 13 yX7_told ∈ lwG := lwG_a 175 rfl rfl
theorem kl_X7_60 : Cond.methodLink RX7 60 yX6_count ∈ lwG := lwG_a 179 rfl rfl
theorem kl_X7_64 : Cond.methodLink RX7 64 yX7_standing ∈ lwG := lwG_a 183 rfl rfl
theorem kl_X7_250 : Cond.methodLink RX7 250 yX4_read ∈ lwG := lwG_a 187 rfl rfl
theorem kl_X4_22 : Cond.methodLink RX4 22 yJ7_fill_53178 ∈ lwG := lwG_a 191 rfl rfl
theorem kl_X4_28 : Cond.methodLink RX4 28 yX6_count ∈ lwG := lwG_a 194 rfl rfl
theorem kl_X4_34 : Cond.methodLink RX4 34 yX6_next ∈ lwG := lwG_a 195 rfl rfl
theorem kl_X6_31 : Cond.methodLink RX6 31 yX6_cell ∈ lwG := lwG_a 199 rfl rfl
theorem kl_X4_38 : Cond.methodLink RX4 38 yX6_has ∈ lwG := lwG_a 203 rfl rfl
theorem kl_X7_68 : Cond.methodLink RX7 68 yX4_countVoices ∈ lwG := lwG_a 207 rfl rfl
theorem kl_X7_71 : Cond.methodLink RX7 71 yX4_costOfAll ∈ lwG := lwG_a 211 rfl rfl
theorem kl_X4_77 : Cond.methodLink RX4 77 yX4_countVoices ∈ lwG := lwG_a 215 rfl rfl
theorem kl_X4_71 : Cond.methodLink RX4 71 yX6_valueOf ∈ lwG := lwG_a 216 rfl rfl
theorem kl_X4_74 : Cond.methodLink RX4 74 yX4_costBehind ∈ lwG := lwG_a 220 rfl rfl
theorem kl_X4_80 : Cond.methodLink RX4 80 yX6_costToFollow ∈ lwG := lwG_a 224 rfl rfl
theorem kl_X6_52 : Cond.methodLink RX6 52 yX6_mayFollow ∈ lwG := lwG_a 228 rfl rfl
theorem kl_X6_42 : Cond.methodLink RX6 42 yX6_has ∈ lwG := lwG_a 232 rfl rfl
theorem kl_X6_46 : Cond.methodLink RX6 46 yX6_on ∈ lwG := lwG_a 233 rfl rfl
theorem kl_X6_49 : Cond.methodLink RX6 49 yX6_off ∈ lwG := lwG_a 237 rfl rfl
theorem kl_X6_35 : Cond.methodLink RX6 35 yX6_valueOf ∈ lwG := lwG_b 1 rfl rfl
theorem kl_X6_56 : Cond.methodLink RX6 56 yX6_pitch ∈ lwG := lwG_b 2 rfl rfl
theorem kl_X6_59 : Cond.methodLink RX6 59 Lib.Math.abs.name ∈ lwG := lwG_b 6 rfl rfl
theorem kl_X7_74 : Cond.methodLink RX7 74 yX7_weighed ∈ lwG := lwG_b 9 rfl rfl
theorem kl_X7_253 : Cond.methodLink RX7 253 yX5_weigh ∈ lwG := lwG_b 13 rfl rfl
theorem kl_X5_35 : Cond.methodLink RX5 35 yX6_edition ∈ lwG := lwG_b 17 rfl rfl
theorem kl_X5_41 : Cond.methodLink RX5 41 yX6_count ∈ lwG := lwG_b 21 rfl rfl
theorem kl_X5_44 : Cond.methodLink RX5 44 Lib.Math.min.name ∈ lwG := lwG_b 22 rfl rfl
theorem kl_X5_52 : Cond.methodLink RX5 52 yX6_valueOf ∈ lwG := lwG_b 25 rfl rfl
theorem kc_X5_59 : Cond.constant RX5 59 1000000 ∈ lwG := lwG_b 26 rfl rfl
theorem kl_X5_60 : Cond.methodLink RX5 60 yX6_costToFollow ∈ lwG := lwG_b 27 rfl rfl
theorem kl_X5_63 : Cond.methodLink RX5 63 yX5_barredOr ∈ lwG := lwG_b 28 rfl rfl
theorem kl_X5_66 : Cond.methodLink RX5 66 yX5_bit ∈ lwG := lwG_b 31 rfl rfl
theorem kl_X5_69 : Cond.methodLink RX5 69 yX5_weighFrom ∈ lwG := lwG_b 35 rfl rfl
theorem kl_X5_76 : Cond.methodLink RX5 76 yX5_lineCost ∈ lwG := lwG_b 39 rfl rfl
theorem kl_X5_79 : Cond.methodLink RX5 79 yX5_weighLine ∈ lwG := lwG_b 43 rfl rfl
theorem kl_X5_73 : Cond.methodLink RX5 73 yX5_findLeast ∈ lwG := lwG_b 47 rfl rfl
theorem kl_X5_83 : Cond.methodLink RX5 83 yJ7_fill_53178 ∈ lwG := lwG_b 51 rfl rfl
theorem kl_X5_89 : Cond.methodLink RX5 89 yJ6_bitCount_0f7a4 ∈ lwG := lwG_b 52 rfl rfl
theorem kc_J6_265 : Cond.constant RJ6 265 1431655765 ∈ lwG := lwG_b 55 rfl rfl
theorem kc_J6_266 : Cond.constant RJ6 266 858993459 ∈ lwG := lwG_b 56 rfl rfl
theorem kc_J6_267 : Cond.constant RJ6 267 252645135 ∈ lwG := lwG_b 57 rfl rfl
theorem kl_X5_94 : Cond.methodLink RX5 94 yX5_offer ∈ lwG := lwG_b 58 rfl rfl
theorem kl_X7_78 : Cond.methodLink RX7 78 yX5_fewest ∈ lwG := lwG_b 65 rfl rfl
theorem kl_X7_81 : Cond.methodLink RX7 81 yX5_cheapest ∈ lwG := lwG_b 69 rfl rfl
theorem kl_X5_102 : Cond.methodLink RX5 102 yX5_fewest ∈ lwG := lwG_b 73 rfl rfl
theorem kl_X5_105 : Cond.methodLink RX5 105 yX5_leastCost ∈ lwG := lwG_b 74 rfl rfl
theorem kl_X7_84 : Cond.methodLink RX7 84 yX5_cheapestCost ∈ lwG := lwG_b 78 rfl rfl
theorem kl_X5_108 : Cond.methodLink RX5 108 yX5_cheapest ∈ lwG := lwG_b 82 rfl rfl
theorem kl_X7_87 : Cond.methodLink RX7 87 yX4_crossings ∈ lwG := lwG_b 83 rfl rfl
theorem kl_X4_83 : Cond.methodLink RX4 83 yX4_cross ∈ lwG := lwG_b 87 rfl rfl
theorem kl_X4_65 : Cond.methodLink RX4 65 yX6_on ∈ lwG := lwG_b 91 rfl rfl
theorem kl_X4_54 : Cond.methodLink RX4 54 yX6_pitch ∈ lwG := lwG_b 92 rfl rfl
theorem kl_X7_90 : Cond.methodLink RX7 90 yX6_valueOf ∈ lwG := lwG_b 93 rfl rfl
theorem kl_X7_94 : Cond.methodLink RX7 94 yX0_size ∈ lwG := lwG_b 94 rfl rfl
theorem kl_X7_97 : Cond.methodLink RX7 97 yX0_wrong ∈ lwG := lwG_b 98 rfl rfl
theorem kl_X0_26 : Cond.methodLink RX0 26 yX5_leastCost ∈ lwG := lwG_b 102 rfl rfl
theorem kl_X7_101 : Cond.methodLink RX7 101 yX2_held ∈ lwG := lwG_b 103 rfl rfl
theorem kl_X7_104 : Cond.methodLink RX7 104 yX1_state ∈ lwG := lwG_b 107 rfl rfl
theorem kc_X7_107 : Cond.constant RX7 107 (-1000000002) ∈ lwG := lwG_b 111 rfl rfl
theorem kl_L_18 : Cond.methodLink RL 18 yX7_at ∈ lwG := lwG_b 112 rfl rfl
theorem kl_X7_108 : Cond.methodLink RX7 108 yX6_has ∈ lwG := lwG_b 116 rfl rfl
theorem kc_X7_112 : Cond.constant RX7 112 (-1000000001) ∈ lwG := lwG_b 117 rfl rfl
theorem kl_X7_113 : Cond.methodLink RX7 113 yX6_on ∈ lwG := lwG_b 118 rfl rfl
theorem kl_X7_116 : Cond.methodLink RX7 116 yX6_off ∈ lwG := lwG_b 119 rfl rfl
theorem kl_X7_119 : Cond.methodLink RX7 119 yX6_pitch ∈ lwG := lwG_b 120 rfl rfl
theorem kl_X7_122 : Cond.methodLink RX7 122 yX6_next ∈ lwG := lwG_b 121 rfl rfl
theorem kl_X7_125 : Cond.methodLink RX7 125 yX4_ahead ∈ lwG := lwG_b 122 rfl rfl
theorem kl_X7_128 : Cond.methodLink RX7 128 yX4_voiceWith ∈ lwG := lwG_b 126 rfl rfl
theorem kl_X7_131 : Cond.methodLink RX7 131 yX5_price ∈ lwG := lwG_b 130 rfl rfl
theorem kl_X5_111 : Cond.methodLink RX5 111 yX5_weigh ∈ lwG := lwG_b 134 rfl rfl
theorem kl_X5_114 : Cond.methodLink RX5 114 yX5_cheapestCost ∈ lwG := lwG_b 135 rfl rfl
theorem kl_X7_134 : Cond.methodLink RX7 134 yX6_countFollowers ∈ lwG := lwG_b 136 rfl rfl
theorem kl_X6_64 : Cond.methodLink RX6 64 yX6_count ∈ lwG := lwG_b 140 rfl rfl
theorem kl_L_23 : Cond.methodLink RL 23 yX7_cost ∈ lwG := lwG_b 141 rfl rfl
theorem kl_X7_137 : Cond.methodLink RX7 137 yX6_costToFollow ∈ lwG := lwG_b 145 rfl rfl
theorem kl_L_27 : Cond.methodLink RL 27 yX7_least ∈ lwG := lwG_b 146 rfl rfl
theorem kl_X7_141 : Cond.methodLink RX7 141 yX7_isVoiceCount ∈ lwG := lwG_b 150 rfl rfl
theorem kl_X7_144 : Cond.methodLink RX7 144 yX5_leastCost ∈ lwG := lwG_b 151 rfl rfl
theorem kl_L_31 : Cond.methodLink RL 31 yX7_first ∈ lwG := lwG_b 152 rfl rfl
theorem kl_X7_147 : Cond.methodLink RX7 147 yX5_choose ∈ lwG := lwG_b 156 rfl rfl
theorem kl_X5_117 : Cond.methodLink RX5 117 yX5_firstNext ∈ lwG := lwG_b 160 rfl rfl
theorem kl_X5_121 : Cond.methodLink RX5 121 yX5_leastBehind ∈ lwG := lwG_b 164 rfl rfl
theorem kl_X7_150 : Cond.methodLink RX7 150 yX5_chosen ∈ lwG := lwG_b 168 rfl rfl
theorem kc_X7_153 : Cond.constant RX7 153 (-1000000003) ∈ lwG := lwG_b 172 rfl rfl
theorem kl_L_35 : Cond.methodLink RL 35 yX7_voice ∈ lwG := lwG_b 173 rfl rfl
theorem kl_X7_154 : Cond.methodLink RX7 154 yX4_hasVoice ∈ lwG := lwG_b 177 rfl rfl
theorem kl_X7_157 : Cond.methodLink RX7 157 yX4_size ∈ lwG := lwG_b 181 rfl rfl
theorem kl_X4_46 : Cond.methodLink RX4 46 yX4_isIn ∈ lwG := lwG_b 185 rfl rfl
theorem kl_X7_159 : Cond.methodLink RX7 159 yX4_noteOf ∈ lwG := lwG_b 189 rfl rfl
theorem kl_X7_162 : Cond.methodLink RX7 162 yX4_lowest ∈ lwG := lwG_b 193 rfl rfl
theorem kl_X4_50 : Cond.methodLink RX4 50 yX4_noteOf ∈ lwG := lwG_b 197 rfl rfl
theorem kl_X4_57 : Cond.methodLink RX4 57 Lib.Math.min.name ∈ lwG := lwG_b 198 rfl rfl
theorem kl_X7_165 : Cond.methodLink RX7 165 yX4_highest ∈ lwG := lwG_b 199 rfl rfl
theorem kl_X4_62 : Cond.methodLink RX4 62 Lib.Math.max.name ∈ lwG := lwG_b 203 rfl rfl
theorem kl_X7_168 : Cond.methodLink RX7 168 yX4_rests ∈ lwG := lwG_b 206 rfl rfl
theorem kl_X4_68 : Cond.methodLink RX4 68 yX6_off ∈ lwG := lwG_b 210 rfl rfl
theorem kl_X7_171 : Cond.methodLink RX7 171 yX4_costOf ∈ lwG := lwG_b 211 rfl rfl
theorem kl_L_39 : Cond.methodLink RL 39 yX7_member ∈ lwG := lwG_b 215 rfl rfl
theorem kl_L_43 : Cond.methodLink RL 43 yX7_note ∈ lwG := lwG_b 219 rfl rfl
theorem kl_X7_174 : Cond.methodLink RX7 174 yX6_canBe ∈ lwG := lwG_b 223 rfl rfl
theorem kl_X7_178 : Cond.methodLink RX7 178 yX6_isFull ∈ lwG := lwG_b 226 rfl rfl
theorem kc_X7_182 : Cond.constant RX7 182 (-1000000004) ∈ lwG := lwG_b 230 rfl rfl
theorem kl_X7_183 : Cond.methodLink RX7 183 yX2_record ∈ lwG := lwG_b 231 rfl rfl
theorem kl_X2_22 : Cond.methodLink RX2 22 yX6_copyTo ∈ lwG := lwG_b 235 rfl rfl
theorem kl_X6_83 : Cond.methodLink RX6 83 yX6_fitsOn ∈ lwG := lwG_b 239 rfl rfl
theorem kl_X2_26 : Cond.methodLink RX2 26 Lib.Math.min.name ∈ lwG := lwG_c 2 rfl rfl
theorem kl_X7_186 : Cond.methodLink RX7 186 yX6_bring ∈ lwG := lwG_c 3 rfl rfl
theorem kc_X6_68 : Cond.constant RX6 68 (-1000000004) ∈ lwG := lwG_c 7 rfl rfl
theorem kl_X6_69 : Cond.methodLink RX6 69 yX6_placeFor ∈ lwG := lwG_c 8 rfl rfl
theorem kl_X6_73 : Cond.methodLink RX6 73 yX6_orderKey ∈ lwG := lwG_c 12 rfl rfl
theorem kl_X6_76 : Cond.methodLink RX6 76 yX6_length ∈ lwG := lwG_c 15 rfl rfl
theorem kl_X6_39 : Cond.methodLink RX6 39 yX6_changed ∈ lwG := lwG_c 19 rfl rfl
theorem kl_X6_79 : Cond.methodLink RX6 79 yX6_link ∈ lwG := lwG_c 23 rfl rfl
theorem kl_L_48 : Cond.methodLink RL 48 yX7_take ∈ lwG := lwG_c 27 rfl rfl
theorem kl_X7_190 : Cond.methodLink RX7 190 yX6_drop ∈ lwG := lwG_c 31 rfl rfl
theorem kl_L_52 : Cond.methodLink RL 52 yX7_move ∈ lwG := lwG_c 35 rfl rfl
theorem kl_L_57 : Cond.methodLink RL 57 yX7_share ∈ lwG := lwG_c 39 rfl rfl
theorem kl_X7_194 : Cond.methodLink RX7 194 yX6_length ∈ lwG := lwG_c 43 rfl rfl
theorem kl_L_61 : Cond.methodLink RL 61 yX7_term ∈ lwG := lwG_c 44 rfl rfl
theorem kl_X7_197 : Cond.methodLink RX7 197 yX6_canBeTerm ∈ lwG := lwG_c 48 rfl rfl
theorem kl_X7_201 : Cond.methodLink RX7 201 yX6_changeTerm ∈ lwG := lwG_c 53 rfl rfl
theorem kl_L_65 : Cond.methodLink RL 65 yX7_follow ∈ lwG := lwG_c 57 rfl rfl
theorem kl_X7_204 : Cond.methodLink RX7 204 yX6_mayFollow ∈ lwG := lwG_c 61 rfl rfl
theorem kl_X7_207 : Cond.methodLink RX7 207 yX6_link ∈ lwG := lwG_c 62 rfl rfl
theorem kl_L_69 : Cond.methodLink RL 69 yX7_cut ∈ lwG := lwG_c 63 rfl rfl
theorem kl_L_73 : Cond.methodLink RL 73 yX7_part ∈ lwG := lwG_c 67 rfl rfl
theorem kl_L_77 : Cond.methodLink RL 77 yX7_mend ∈ lwG := lwG_c 71 rfl rfl
theorem kl_X7_211 : Cond.methodLink RX7 211 yX4_mendCrossings ∈ lwG := lwG_c 75 rfl rfl
theorem kl_X4_86 : Cond.methodLink RX4 86 yX4_mendFirst ∈ lwG := lwG_c 79 rfl rfl
theorem kl_X4_90 : Cond.methodLink RX4 90 yX4_canMend ∈ lwG := lwG_c 83 rfl rfl
theorem kl_X4_97 : Cond.methodLink RX4 97 yX6_mayFollow ∈ lwG := lwG_c 87 rfl rfl
theorem kl_X4_93 : Cond.methodLink RX4 93 yX6_link ∈ lwG := lwG_c 88 rfl rfl
theorem kl_L_82 : Cond.methodLink RL 82 yX7_clear ∈ lwG := lwG_c 89 rfl rfl
theorem kl_X7_214 : Cond.methodLink RX7 214 yX6_dropAll ∈ lwG := lwG_c 93 rfl rfl
theorem kl_L_86 : Cond.methodLink RL 86 yX7_drift ∈ lwG := lwG_c 97 rfl rfl
theorem kl_X7_217 : Cond.methodLink RX7 217 yX7_bringDrawn ∈ lwG := lwG_c 101 rfl rfl
theorem kl_X7_256 : Cond.methodLink RX7 256 yX1_draw ∈ lwG := lwG_c 105 rfl rfl
theorem kc_X1_13 : Cond.constant RX1 13 1103515245 ∈ lwG := lwG_c 109 rfl rfl
theorem kc_X1_14 : Cond.constant RX1 14 2147483647 ∈ lwG := lwG_c 110 rfl rfl
theorem kc_X1_15 : Cond.constant RX1 15 65536 ∈ lwG := lwG_c 111 rfl rfl
theorem kl_L_90 : Cond.methodLink RL 90 yX7_undo ∈ lwG := lwG_c 112 rfl rfl
theorem kl_X7_220 : Cond.methodLink RX7 220 yX2_giveBack ∈ lwG := lwG_c 116 rfl rfl
theorem kl_X2_32 : Cond.methodLink RX2 32 yX6_copyFrom ∈ lwG := lwG_c 120 rfl rfl
theorem kl_L_94 : Cond.methodLink RL 94 yX7_write ∈ lwG := lwG_c 124 rfl rfl
theorem kl_X7_224 : Cond.methodLink RX7 224 yX0_isFull ∈ lwG := lwG_c 128 rfl rfl
theorem kl_X7_225 : Cond.methodLink RX7 225 yX0_add ∈ lwG := lwG_c 132 rfl rfl
theorem kl_X0_22 : Cond.methodLink RX0 22 yX0_isFull ∈ lwG := lwG_c 136 rfl rfl
theorem kl_L_98 : Cond.methodLink RL 98 yX7_tear ∈ lwG := lwG_c 137 rfl rfl
theorem kl_X7_228 : Cond.methodLink RX7 228 yX0_empty ∈ lwG := lwG_c 141 rfl rfl
theorem kl_L_102 : Cond.methodLink RL 102 yX7_seed ∈ lwG := lwG_c 145 rfl rfl
theorem kl_X7_231 : Cond.methodLink RX7 231 yX1_become ∈ lwG := lwG_c 149 rfl rfl
theorem kl_L_106 : Cond.methodLink RL 106 yX7_keep ∈ lwG := lwG_c 153 rfl rfl
theorem kl_X7_234 : Cond.methodLink RX7 234 yX3_isImage ∈ lwG := lwG_c 157 rfl rfl
theorem kl_X7_237 : Cond.methodLink RX7 237 yX3_store ∈ lwG := lwG_c 160 rfl rfl
theorem kl_X3_22 : Cond.methodLink RX3 22 yX3_isImage ∈ lwG := lwG_c 164 rfl rfl
theorem kl_X3_26 : Cond.methodLink RX3 26 yX6_copyTo ∈ lwG := lwG_c 165 rfl rfl
theorem kl_X3_30 : Cond.methodLink RX3 30 yX1_state ∈ lwG := lwG_c 166 rfl rfl
theorem kl_X7_241 : Cond.methodLink RX7 241 yX2_forget ∈ lwG := lwG_c 167 rfl rfl
theorem kl_L_110 : Cond.methodLink RL 110 yX7_goBack ∈ lwG := lwG_c 171 rfl rfl
theorem kl_X7_244 : Cond.methodLink RX7 244 yX3_isKept ∈ lwG := lwG_c 175 rfl rfl
theorem kl_X7_247 : Cond.methodLink RX7 247 yX3_restore ∈ lwG := lwG_c 179 rfl rfl
theorem kl_X3_36 : Cond.methodLink RX3 36 yX3_isKept ∈ lwG := lwG_c 183 rfl rfl
theorem kl_X3_39 : Cond.methodLink RX3 39 yX6_copyFrom ∈ lwG := lwG_c 184 rfl rfl
theorem kl_X3_42 : Cond.methodLink RX3 42 yX1_become ∈ lwG := lwG_c 185 rfl rfl
theorem kl_L_17 : Cond.methodLink RL 17 yX8_told ∈ lwG := lwG_c 226 rfl rfl
theorem kl_X8_75 : Cond.methodLink RX8 75 yX8_voices ∈ lwG := lwG_c 230 rfl rfl
theorem kl_X8_72 : Cond.methodLink RX8 72 yX8_prior ∈ lwG := lwG_c 234 rfl rfl
theorem kl_X8_92 : Cond.methodLink RX8 92 yX8_costNow ∈ lwG := lwG_c 238 rfl rfl
theorem kl_X8_52 : Cond.methodLink RX8 52 yX8_costOf ∈ lwG := lwG_d 2 rfl rfl
theorem kl_X8_36 : Cond.methodLink RX8 36 yX8_off ∈ lwG := lwG_d 6 rfl rfl
theorem kl_X8_95 : Cond.methodLink RX8 95 yX8_fewest ∈ lwG := lwG_d 10 rfl rfl
theorem kl_X8_66 : Cond.methodLink RX8 66 yX8_leastOf ∈ lwG := lwG_d 14 rfl rfl
theorem kl_X8_40 : Cond.methodLink RX8 40 yX8_in ∈ lwG := lwG_d 18 rfl rfl
theorem kl_X8_63 : Cond.methodLink RX8 63 yX8_lay ∈ lwG := lwG_d 21 rfl rfl
theorem kl_X8_56 : Cond.methodLink RX8 56 yX8_ones ∈ lwG := lwG_d 25 rfl rfl
theorem kc_X8_55 : Cond.constant RX8 55 1000000 ∈ lwG := lwG_d 28 rfl rfl
theorem kl_X8_59 : Cond.methodLink RX8 59 yX8_through ∈ lwG := lwG_d 29 rfl rfl
theorem kl_X8_44 : Cond.methodLink RX8 44 yX8_bestAt ∈ lwG := lwG_d 33 rfl rfl
theorem kl_X8_48 : Cond.methodLink RX8 48 yX8_may ∈ lwG := lwG_d 37 rfl rfl
theorem kl_X8_69 : Cond.methodLink RX8 69 yX8_cheapest ∈ lwG := lwG_d 41 rfl rfl
theorem kl_X8_98 : Cond.methodLink RX8 98 yX8_leastOfAll ∈ lwG := lwG_d 45 rfl rfl
theorem kl_X8_101 : Cond.methodLink RX8 101 yX8_crossings ∈ lwG := lwG_d 49 rfl rfl
theorem kl_X8_79 : Cond.methodLink RX8 79 yX8_cross ∈ lwG := lwG_d 53 rfl rfl
theorem kl_X8_104 : Cond.methodLink RX8 104 yX8_toldMore ∈ lwG := lwG_d 57 rfl rfl
theorem kl_X8_85 : Cond.methodLink RX8 85 yX8_wrong ∈ lwG := lwG_d 61 rfl rfl
theorem kc_X8_91 : Cond.constant RX8 91 (-1000000002) ∈ lwG := lwG_d 65 rfl rfl
theorem kl_L_22 : Cond.methodLink RL 22 yX8_at ∈ lwG := lwG_d 66 rfl rfl
theorem kl_X8_107 : Cond.methodLink RX8 107 yX8_isNote ∈ lwG := lwG_d 70 rfl rfl
theorem kc_X8_111 : Cond.constant RX8 111 (-1000000001) ∈ lwG := lwG_d 74 rfl rfl
theorem kl_X8_112 : Cond.methodLink RX8 112 yX8_voiceOf ∈ lwG := lwG_d 75 rfl rfl
theorem kl_X8_115 : Cond.methodLink RX8 115 yX8_followers ∈ lwG := lwG_d 79 rfl rfl
theorem kl_L_26 : Cond.methodLink RL 26 yX8_cost ∈ lwG := lwG_d 83 rfl rfl
theorem kl_L_30 : Cond.methodLink RL 30 yX8_least ∈ lwG := lwG_d 87 rfl rfl
theorem kc_X8_118 : Cond.constantLong RX8 118 10 ∈ lwG := lwG_d 91 rfl rfl
theorem kl_L_34 : Cond.methodLink RL 34 yX8_first ∈ lwG := lwG_d 92 rfl rfl
theorem kl_X8_120 : Cond.methodLink RX8 120 yX8_layFirst ∈ lwG := lwG_d 96 rfl rfl
theorem kc_X8_123 : Cond.constant RX8 123 (-1000000003) ∈ lwG := lwG_d 100 rfl rfl
theorem kl_L_38 : Cond.methodLink RL 38 yX8_voice ∈ lwG := lwG_d 101 rfl rfl
theorem kc_X8_124 : Cond.constantLong RX8 124 6 ∈ lwG := lwG_d 105 rfl rfl
theorem kl_X8_126 : Cond.methodLink RX8 126 yX8_firstOf ∈ lwG := lwG_d 106 rfl rfl
theorem kl_X8_129 : Cond.methodLink RX8 129 yX8_ofVoice ∈ lwG := lwG_d 110 rfl rfl
theorem kl_L_42 : Cond.methodLink RL 42 yX8_member ∈ lwG := lwG_d 114 rfl rfl
theorem kl_L_47 : Cond.methodLink RL 47 yX8_note ∈ lwG := lwG_d 118 rfl rfl
theorem kl_X8_145 : Cond.methodLink RX8 145 yX8_isNoteOf ∈ lwG := lwG_d 122 rfl rfl
theorem kc_X8_132 : Cond.constantLong RX8 132 99 ∈ lwG := lwG_d 126 rfl rfl
theorem kc_X8_134 : Cond.constantLong RX8 134 32 ∈ lwG := lwG_d 127 rfl rfl
theorem kc_X8_136 : Cond.constantLong RX8 136 127 ∈ lwG := lwG_d 128 rfl rfl
theorem kc_X8_149 : Cond.constant RX8 149 (-1000000004) ∈ lwG := lwG_d 129 rfl rfl
theorem kl_X8_150 : Cond.methodLink RX8 150 yX8_remember ∈ lwG := lwG_d 130 rfl rfl
theorem kl_X8_28 : Cond.methodLink RX8 28 yX8_copyRow ∈ lwG := lwG_d 134 rfl rfl
theorem kl_X8_153 : Cond.methodLink RX8 153 yX8_add ∈ lwG := lwG_d 138 rfl rfl
theorem kl_X8_138 : Cond.methodLink RX8 138 yX8_stays ∈ lwG := lwG_d 142 rfl rfl
theorem kl_X8_142 : Cond.methodLink RX8 142 yX8_part0 ∈ lwG := lwG_d 146 rfl rfl
theorem kl_L_51 : Cond.methodLink RL 51 yX8_take ∈ lwG := lwG_d 150 rfl rfl
theorem kl_X8_156 : Cond.methodLink RX8 156 yX8_remove ∈ lwG := lwG_d 154 rfl rfl
theorem kl_L_56 : Cond.methodLink RL 56 yX8_move ∈ lwG := lwG_d 158 rfl rfl
theorem kl_L_60 : Cond.methodLink RL 60 yX8_share ∈ lwG := lwG_d 162 rfl rfl
theorem kl_L_64 : Cond.methodLink RL 64 yX8_term ∈ lwG := lwG_d 166 rfl rfl
theorem kc_X8_160 : Cond.constantLong RX8 160 4 ∈ lwG := lwG_d 170 rfl rfl
theorem kl_L_68 : Cond.methodLink RL 68 yX8_follow ∈ lwG := lwG_d 171 rfl rfl
theorem kl_L_72 : Cond.methodLink RL 72 yX8_cut ∈ lwG := lwG_d 175 rfl rfl
theorem kl_L_76 : Cond.methodLink RL 76 yX8_part ∈ lwG := lwG_d 179 rfl rfl
theorem kc_X8_162 : Cond.constantLong RX8 162 (-1) ∈ lwG := lwG_d 183 rfl rfl
theorem kl_L_81 : Cond.methodLink RL 81 yX8_mend ∈ lwG := lwG_d 184 rfl rfl
theorem kl_X8_164 : Cond.methodLink RX8 164 yX8_mendOne ∈ lwG := lwG_d 188 rfl rfl
theorem kl_L_85 : Cond.methodLink RL 85 yX8_clear ∈ lwG := lwG_d 192 rfl rfl
theorem kl_L_89 : Cond.methodLink RL 89 yX8_drift ∈ lwG := lwG_d 196 rfl rfl
theorem kl_X8_175 : Cond.methodLink RX8 175 yX8_draw ∈ lwG := lwG_d 200 rfl rfl
theorem kc_X8_168 : Cond.constantLong RX8 168 1103515245 ∈ lwG := lwG_d 204 rfl rfl
theorem kc_X8_170 : Cond.constantLong RX8 170 12345 ∈ lwG := lwG_d 205 rfl rfl
theorem kc_X8_172 : Cond.constantLong RX8 172 2147483648 ∈ lwG := lwG_d 206 rfl rfl
theorem kc_X8_174 : Cond.constant RX8 174 65536 ∈ lwG := lwG_d 207 rfl rfl
theorem kl_L_93 : Cond.methodLink RL 93 yX8_undo ∈ lwG := lwG_d 208 rfl rfl
theorem kc_X8_181 : Cond.constantLong RX8 181 16 ∈ lwG := lwG_d 212 rfl rfl
theorem kl_L_97 : Cond.methodLink RL 97 yX8_write ∈ lwG := lwG_d 213 rfl rfl
theorem kl_L_101 : Cond.methodLink RL 101 yX8_tear ∈ lwG := lwG_d 217 rfl rfl
theorem kl_L_105 : Cond.methodLink RL 105 yX8_seed ∈ lwG := lwG_d 221 rfl rfl
theorem kl_L_109 : Cond.methodLink RL 109 yX8_keep ∈ lwG := lwG_d 225 rfl rfl
theorem kl_L_113 : Cond.methodLink RL 113 yX8_goBack ∈ lwG := lwG_d 229 rfl rfl
theorem kM_min : Cond.static Lib.Math.min.name ∈ lwG := lwG_b 23 rfl rfl
theorem kMc_min : Cond.code Lib.Math.min.name Lib.Math.min.code 2 (some .int) ∈ lwG := lwG_b 24 rfl rfl
theorem kM_max : Cond.static Lib.Math.max.name ∈ lwG := lwG_b 204 rfl rfl
theorem kMc_max : Cond.code Lib.Math.max.name Lib.Math.max.code 2 (some .int) ∈ lwG := lwG_b 205 rfl rfl
theorem kM_abs : Cond.static Lib.Math.abs.name ∈ lwG := lwG_b 7 rfl rfl
theorem kMc_abs : Cond.code Lib.Math.abs.name Lib.Math.abs.code 1 (some .int) ∈ lwG := lwG_b 8 rfl rfl
theorem kM_init : Cond.initialized "java/lang/Math" ∈ lwG := lwG_a 12 rfl rfl
theorem kA_nat : Cond.native arraycopyName ∈ lwG := lwG_a 32 rfl rfl
theorem kA_stat : Cond.static arraycopyName ∈ lwG := lwG_a 31 rfl rfl
theorem kA_init : Cond.initialized "java/lang/System" ∈ lwG := lwG_a 3 rfl rfl
theorem kf_X6_24 : Cond.fieldLink RX6 24 RX6 "GREATEST_TERMS" "[I" ∈ lwG := lwG_c 51 rfl rfl
