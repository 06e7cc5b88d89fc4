section PVX
variable {p : Program} {l : Launch} {e : Env} {R : Room} {s : State} {m : MethodId} {args : Array Value} {below : List Frame} {meth : Method} {c : Code} {cells slots : Nat} {Q : State → Prop}
variable {cc : ByteArray} {nL : Nat} {own : String} {D : va_G} {cI cZ : ClassId} {ad : Nat → Nat} {A : Nat → Prop} {pc : Nat} {lv lv' : List (Nat × Value)} {st : List Value} {σ : pv_S}
theorem x_get (C : pv_C p s m args meth c cc nL own D cI cZ ad A) (q0 ci k : Nat) {Cn : String} {T : u_T} {N idx : Nat} {fs : List Value} {v : Value} (he : (pv_W cI cZ ad σ)[q0]? = some (ad q0, .inr (ci, fs))) (hc : vwCl[ci]? = some (Cn, T, N)) (hin : ∀ w ∈ u_ws Cn T N, w ∈ lwG) (hk : k < N) (hlink : Cond.fieldLink own idx (T k).1 (T k).2.1 (T k).2.2.1 ∈ lwG) (hv : fs[k]? = some v) (hdg : decode cc pc = .ok (.getfield idx, 3)) (kk : Wx p l e R s m args below meth c cells slots Q nL D cI cZ ad A (pc + 3) lv (v :: st) σ) : Wx p l e R s m args below meth c cells slots Q nL D cI cZ ad A pc lv (.ref (ad q0) :: st) σ := fun H locs ls hP hS h =>
  va_get C.1 C.2.1 C.2.2.2.2.1 hin C.2.2.2.1 C.2.2.2.2.2.1 hP q0 he hc k hk (C.2.2.2.2.1 _ hlink) (fun _ h9 => h9) hv hdg (kk H locs ls hP hS h)
theorem x_put (C : pv_C p s m args meth c cc nL own D cI cZ ad A) (q0 ci k : Nat) {Cn : String} {T : u_T} {N idx : Nat} {fs : List Value} {v : Int32} {σ' : pv_S} (he : (pv_W cI cZ ad σ)[q0]? = some (ad q0, .inr (ci, fs))) (hc : vwCl[ci]? = some (Cn, T, N)) (hin : ∀ w ∈ u_ws Cn T N, w ∈ lwG) (hk : k < N) (hlink : Cond.fieldLink own idx (T k).1 (T k).2.1 (T k).2.2.1 ∈ lwG) (ty0 : Nat → FieldType) (hty : ∀ k, k < N → parseFieldDescriptor (T k).2.2.1 = some (ty0 k)) (hnm : ∀ a, a < N → ∀ b, b < N → a ≠ b → (T a).2.1 ≠ (T b).2.1) (hfin : (T k).2.2.2 = false) (hd : parseFieldDescriptor (T k).2.2.1 = some .int) (hl : k < fs.length) (hσ : (pv_W cI cZ ad σ).set q0 (ad q0, .inr (ci, fs.set k (.int v))) = pv_W cI cZ ad σ') (hdg : decode cc pc = .ok (.putfield idx, 3)) (kk : Wx p l e R s m args below meth c cells slots Q nL D cI cZ ad A (pc + 3) lv st σ') : Wx p l e R s m args below meth c cells slots Q nL D cI cZ ad A pc lv (.int v :: .ref (ad q0) :: st) σ := fun H locs ls hP hS h =>
  va_put C.1 C.2.1 C.2.2.2.2.1 hin ty0 hty hnm C.2.2.2.1 C.2.2.2.2.2.1 hP (pv_W_D C.2.2.2.2.2.2.1 C.2.2.2.2.2.2.2.1 cI cZ σ) hS q0 he hc k hk (C.2.2.2.2.1 _ hlink) (fun _ h9 => h9) hfin hd rfl rfl hl hdg (fun H locs hP _ hS => kk H locs ls (hσ ▸ hP) hS h)
theorem x_iald (C : pv_C p s m args meth c cc nL own D cI cZ ad A) (q0 : Nat) {n : Nat} {f : Nat → Int32} (he : (pv_W cI cZ ad σ)[q0]? = some (ad q0, .inl (cI, n, .inl f))) {i : Int32} (hin : vp_in i n) (hdg : decode cc pc = .ok (.iaload, 1)) (kk : Wx p l e R s m args below meth c cells slots Q nL D cI cZ ad A (pc + 1) lv (.int (f i.toNatClampNeg) :: st) σ) : Wx p l e R s m args below meth c cells slots Q nL D cI cZ ad A pc lv (.int i :: .ref (ad q0) :: st) σ := fun H locs ls hP hS h =>
  va_iald C.1 C.2.1 C.2.2.2.2.2.1 hP q0 0 he rfl hin hdg (kk H locs ls hP hS h)
theorem x_iast (C : pv_C p s m args meth c cc nL own D cI cZ ad A) (q0 : Nat) {n : Nat} {f : Nat → Int32} {σ' : pv_S} (he : (pv_W cI cZ ad σ)[q0]? = some (ad q0, .inl (cI, n, .inl f))) {i x : Int32} (hin : vp_in i n) (hσ : (pv_W cI cZ ad σ).set q0 (ad q0, .inl (cI, n, .inl (upd f i.toNatClampNeg x))) = pv_W cI cZ ad σ') (hdg : decode cc pc = .ok (.iastore, 1)) (kk : Wx p l e R s m args below meth c cells slots Q nL D cI cZ ad A (pc + 1) lv st σ') : Wx p l e R s m args below meth c cells slots Q nL D cI cZ ad A pc lv (.int x :: .int i :: .ref (ad q0) :: st) σ := fun H locs ls hP hS h =>
  va_iast C.1 C.2.1 C.2.2.2.2.2.1 hP (pv_W_D C.2.2.2.2.2.2.1 C.2.2.2.2.2.2.2.1 cI cZ σ) hS q0 0 he rfl hin hdg (fun H locs hP _ hS => kk H locs ls (hσ ▸ hP) hS h)
theorem x_zald (C : pv_C p s m args meth c cc nL own D cI cZ ad A) (q0 : Nat) {n : Nat} {f : Nat → Int32} (he : (pv_W cI cZ ad σ)[q0]? = some (ad q0, .inl (cZ, n, .inl f))) {i : Int32} (hin : vp_in i n) (hdg : decode cc pc = .ok (.baload, 1)) (kk : Wx p l e R s m args below meth c cells slots Q nL D cI cZ ad A (pc + 1) lv (.int (f i.toNatClampNeg) :: st) σ) : Wx p l e R s m args below meth c cells slots Q nL D cI cZ ad A pc lv (.int i :: .ref (ad q0) :: st) σ := fun H locs ls hP hS h =>
  va_zald C.1 C.2.1 C.2.2.2.2.2.1 hP q0 1 he rfl hin hdg (kk H locs ls hP hS h)
theorem x_zast (C : pv_C p s m args meth c cc nL own D cI cZ ad A) (q0 : Nat) {n : Nat} {f : Nat → Int32} {σ' : pv_S} (he : (pv_W cI cZ ad σ)[q0]? = some (ad q0, .inl (cZ, n, .inl f))) {i x : Int32} (hin : vp_in i n) (hσ : (pv_W cI cZ ad σ).set q0 (ad q0, .inl (cZ, n, .inl (upd f i.toNatClampNeg (vp_nar .boolean x)))) = pv_W cI cZ ad σ') (hdg : decode cc pc = .ok (.bastore, 1)) (kk : Wx p l e R s m args below meth c cells slots Q nL D cI cZ ad A (pc + 1) lv st σ') : Wx p l e R s m args below meth c cells slots Q nL D cI cZ ad A pc lv (.int x :: .int i :: .ref (ad q0) :: st) σ := fun H locs ls hP hS h =>
  va_zast C.1 C.2.1 C.2.2.2.2.2.1 hP (pv_W_D C.2.2.2.2.2.2.1 C.2.2.2.2.2.2.2.1 cI cZ σ) hS q0 1 he rfl hin hdg (fun H locs hP _ hS => kk H locs ls (hσ ▸ hP) hS h)
theorem x_alen (C : pv_C p s m args meth c cc nL own D cI cZ ad A) (q0 : Nat) {n : Nat} {f : Nat → Int32} {v : Int32} (he : (pv_W cI cZ ad σ)[q0]? = some (ad q0, .inl (cI, n, .inl f))) (hv : Int32.ofNat n = v) (hdg : decode cc pc = .ok (.arraylength, 1)) (kk : Wx p l e R s m args below meth c cells slots Q nL D cI cZ ad A (pc + 1) lv (.int v :: st) σ) : Wx p l e R s m args below meth c cells slots Q nL D cI cZ ad A pc lv (.ref (ad q0) :: st) σ := fun H locs ls hP hS h =>
  va_alen C.1 C.2.1 C.2.2.2.2.2.1 hP q0 0 he rfl hv hdg (kk H locs ls hP hS h)
theorem x_copy (C : pv_C p s m args meth c cc nL own D cI cZ ad A) (q0 q1 : Nat) {index n0 n1 : Nat} {f g : Nat → Int32} {σ' : pv_S} {sp dp n : Int32} (he0 : (pv_W cI cZ ad σ)[q0]? = some (ad q0, .inl (cI, n0, .inl f))) (he1 : (pv_W cI cZ ad σ)[q1]? = some (ad q1, .inl (cI, n1, .inl g))) (hlink : Cond.methodLink own index arraycopyName ∈ lwG) (hnat : Cond.native arraycopyName ∈ lwG) (hstat : Cond.static arraycopyName ∈ lwG) (hini : Cond.initialized "java/lang/System" ∈ lwG) (hg : ¬ sp < 0 ∧ ¬ dp < 0 ∧ ¬ n < 0 ∧ sp.toNatClampNeg + n.toNatClampNeg ≤ n0 ∧ dp.toNatClampNeg + n.toNatClampNeg ≤ n1) (hR : 1 ≤ R.frames ∧ (st.map fun v => v.category).sum + (nativeFrameWords "java/lang/System" "arraycopy" 5 + 11) ≤ R.locals) (hσ : (pv_W cI cZ ad σ).set q1 (ad q1, .inl (cI, n1, .inl (va_cpy f g sp.toNatClampNeg dp.toNatClampNeg n.toNatClampNeg))) = pv_W cI cZ ad σ') (hdg : decode cc pc = .ok (.invokestatic index, 3)) (kk : Wx p l e R s m args below meth c cells slots Q nL D cI cZ ad A (pc + 3) lv st σ') : Wx p l e R s m args below meth c cells slots Q nL D cI cZ ad A pc lv (.int n :: .int dp :: .ref (ad q1) :: .int sp :: .ref (ad q0) :: st) σ := fun H locs ls hP hS h =>
  va_copyi C.1 C.2.1 (C.2.2.1.trans h.1.symm) C.2.2.2.1 (C.2.2.2.2.1 _ hlink) (C.2.2.2.2.1 _ hnat) (C.2.2.2.2.1 _ hstat) (C.2.2.2.2.1 _ hini) C.2.2.2.2.2.1 hP (pv_W_D C.2.2.2.2.2.2.1 C.2.2.2.2.2.2.2.1 cI cZ σ) hS q0 q1 0 0 he0 he1 rfl rfl rfl hg.1 hg.2.1 hg.2.2.1 hg.2.2.2.1 hg.2.2.2.2 (fun _ _ => rfl) hR.1 hR.2 hdg (fun H locs hP _ hS => kk H locs ls (hσ ▸ hP) hS h)
theorem x_gterm (C : pv_C p s m args meth c cc nL own D cI cZ ad A) {index : Nat} (hlink : Cond.fieldLink own index RX6 "GREATEST_TERMS" "[I" ∈ lwG) (hdg : decode cc pc = .ok (.getstatic index, 3)) (kk : ∀ gt : Nat, va_T .int gt 5 (fun j => .int (pv_gt j)) A s s.heap → Wx p l e R s m args below meth c cells slots Q nL D cI cZ ad A (pc + 3) lv (.ref gt :: st) σ) : Wx p l e R s m args below meth c cells slots Q nL D cI cZ ad A pc lv st σ := fun H locs ls hP hS h => by
  obtain ⟨-, gt, hZ, hT⟩ := C.2.2.2.2.2.2.2.2.2
  exact va_gets C.1 C.2.1 hZ hS C.2.2.2.1 (C.2.2.2.2.1 _ hlink) (fun _ h9 => h9) hdg (kk gt hT H locs ls hP hS h)
theorem x_gti (C : pv_C p s m args meth c cc nL own D cI cZ ad A) {gt : Nat} (hT : va_T .int gt 5 (fun j => .int (pv_gt j)) A s s.heap) {i : Int32} (hin : vp_in i 5) (hdg : decode cc pc = .ok (.iaload, 1)) (kk : Wx p l e R s m args below meth c cells slots Q nL D cI cZ ad A (pc + 1) lv (.int (pv_gt i.toNatClampNeg) :: st) σ) : Wx p l e R s m args below meth c cells slots Q nL D cI cZ ad A pc lv (.int i :: .ref gt :: st) σ := fun H locs ls hP hS h =>
  va_ti C.1 C.2.1 hT hS hin rfl hdg (kk H locs ls hP hS h)
/-- what the tables say of a method: of an instance, static -/
def pv_Y (y : MethodName) (bytes : ByteArray) (maxL : Nat) (rt : Option FieldType) (Cn : String) (n : Nat) : Prop := y.cls = Cn ∧ Cond.instanceMethod y ∈ lwG ∧ Cond.selects Cn y y ∈ lwG ∧ Cond.initialized Cn ∈ lwG ∧ Cond.code y bytes maxL rt ∈ lwG ∧ y.cls ≠ "java/lang/invoke/MethodHandle" ∧ y.cls ≠ "java/lang/invoke/VarHandle" ∧ (parseMethodDescriptor y.desc).map (fun d => d.parameters.length) = some n
def pv_Z (y : MethodName) (bytes : ByteArray) (maxL : Nat) (rt : Option FieldType) (n : Nat) : Prop := Cond.static y ∈ lwG ∧ Cond.initialized y.cls ∈ lwG ∧ Cond.code y bytes maxL rt ∈ lwG ∧ y.cls ≠ "java/lang/invoke/MethodHandle" ∧ y.cls ≠ "java/lang/invoke/VarHandle" ∧ (parseMethodDescriptor y.desc).map (fun d => d.parameters.length) = some n
theorem pv_code_in {y : MethodName} {bytes : ByteArray} {maxL : Nat} {rt : Option FieldType} (h : Cond.code y bytes maxL rt ∈ lwG) : GoodIn lwG (Cond.code y bytes maxL rt :: lwG) := fun w hw => (List.mem_cons.mp hw).elim (fun e => by rw [e]; exact lwG_self _ h) (fun h => lwG_self w h)
/-- a callee's start, at a call -/
theorem pv_pre (C : pv_C p s m args meth c cc nL own D cI cZ ad A) {H : Heap} {locs : List Loc} {av : List Value} (hP : va_P D vwCl (pv_W cI cZ ad σ) H) (hS : va_S A s.heap H locs) : ∀ U : State, U.heap = H → s.WarmedH U.vm → va_Pc av (pv_P D cI cZ ad σ) av.toArray U := fun U hU hW => by
  have hA : ∀ q, pv_A ad q → A q := fun q ⟨k, h1, h2⟩ => by rw [h2]; exact C.2.2.2.2.2.2.2.1 k h1
  have hN := ((C.2.2.2.2.2.2.2.2.2.kept (H1 := H) (fun a h1 h2 => hS.2.1 a h1 h2)).narrow hA).warm hW
  refine ⟨rfl, by rw [hU]; exact hP, va_K.moved hW.alike C.2.2.2.2.2.1, by rw [hU]; exact hN⟩
theorem x_vi (C : pv_C p s m args meth c cc nL own D cI cZ ad A) {y : MethodName} {bytes : ByteArray} {maxL idx n : Nat} {rt : Option FieldType} {rm : Room} {As st0 : List Value} {R0 : Int32 × pv_S} {Cn : String} (Y : pv_Y y bytes maxL rt Cn n) (q0 ci : Nat) {qc : vw_C} {fs : List Value} (hc : vwCl[ci]? = some qc) (hcn : qc.1 = Cn) (he : (pv_W cI cZ ad σ)[q0]? = some (ad q0, .inr (ci, fs))) (hM : Met l y (Cond.code y bytes maxL rt :: lwG) rm (va_Pc (.ref (ad q0) :: As) (pv_P D cI cZ ad σ)) (pv_QI D cI cZ ad R0) 0 0 (pv_A ad)) (w1 : Cond.methodLink own idx y ∈ lwG) (hrc : rm.cells = 0 ∧ rm.slots = 0) (hR : rm.frames + 1 ≤ R.frames ∧ 8 + (maxL + 11) + rm.locals ≤ R.locals) (hcs : cells ≤ R.cells ∧ slots ≤ R.slots) (hn : As.length = n) (hst : st0 = As.reverse ++ .ref (ad q0) :: st) (hW : (st.map fun v => v.category).sum ≤ 8) (hdg : decode cc pc = .ok (.invokevirtual idx, 3)) (kk : Wx p l e R s m args below meth c cells slots Q nL D cI cZ ad A (pc + 3) lv (.int R0.1 :: st) R0.2) : Wx p l e R s m args below meth c cells slots Q nL D cI cZ ad A pc lv st0 σ := fun H locs ls hP hS h => by
  have hts := C.2.2.2.2.1
  have hA : ∀ q, pv_A ad q → A q := fun q ⟨k, h1, h2⟩ => by rw [h2]; exact C.2.2.2.2.2.2.2.1 k h1
  obtain ⟨y1, y2, y3, y4, y5, y6, y7, y8⟩ := Y
  subst y1
  have hcw : CallW R s args own y.cls idx y bytes maxL rt (Cond.code y bytes maxL rt :: lwG) rm 0 0 n := ⟨callB_of n hts (pv_code_in y5) rfl hrc.1 hrc.2 (hts _ y4) (hts _ w1) ⟨y6, y7, y8⟩ hR, hts _ y2, hts _ y3⟩
  have hrv := va_recv C.2.2.2.2.2.1 hP hc he
  rw [hcn] at hrv
  refine va_calli (va_runV (As := As) (rest := st) ⟨C.1, C.2.1, C.2.2.1, C.2.2.2.1, hts⟩ hM hcw ⟨pv_blind, hrv, pv_pre C hP hS⟩ rfl hn h.1 hst (lv_room hW) hdg ⟨hcs.1, hcs.2⟩) hS (fun q _ h => hA q h) hA (fun r u t H1 locs1 ht hvm hw hB hz1 hk1 hS => ?_)
  subst hw; rw [ht] at hB; exact kk H1 locs1 ls hB hS h
theorem x_vv (C : pv_C p s m args meth c cc nL own D cI cZ ad A) {y : MethodName} {bytes : ByteArray} {maxL idx n : Nat} {rt : Option FieldType} {rm : Room} {As st0 : List Value} {R0 : pv_S} {Cn : String} (Y : pv_Y y bytes maxL rt Cn n) (q0 ci : Nat) {qc : vw_C} {fs : List Value} (hc : vwCl[ci]? = some qc) (hcn : qc.1 = Cn) (he : (pv_W cI cZ ad σ)[q0]? = some (ad q0, .inr (ci, fs))) (hM : Met l y (Cond.code y bytes maxL rt :: lwG) rm (va_Pc (.ref (ad q0) :: As) (pv_P D cI cZ ad σ)) (pv_QV D cI cZ ad R0) 0 0 (pv_A ad)) (w1 : Cond.methodLink own idx y ∈ lwG) (hrc : rm.cells = 0 ∧ rm.slots = 0) (hR : rm.frames + 1 ≤ R.frames ∧ 8 + (maxL + 11) + rm.locals ≤ R.locals) (hcs : cells ≤ R.cells ∧ slots ≤ R.slots) (hn : As.length = n) (hst : st0 = As.reverse ++ .ref (ad q0) :: st) (hW : (st.map fun v => v.category).sum ≤ 8) (hdg : decode cc pc = .ok (.invokevirtual idx, 3)) (kk : Wx p l e R s m args below meth c cells slots Q nL D cI cZ ad A (pc + 3) lv st R0) : Wx p l e R s m args below meth c cells slots Q nL D cI cZ ad A pc lv st0 σ := fun H locs ls hP hS h => by
  have hts := C.2.2.2.2.1
  have hA : ∀ q, pv_A ad q → A q := fun q ⟨k, h1, h2⟩ => by rw [h2]; exact C.2.2.2.2.2.2.2.1 k h1
  obtain ⟨y1, y2, y3, y4, y5, y6, y7, y8⟩ := Y
  subst y1
  have hcw : CallW R s args own y.cls idx y bytes maxL rt (Cond.code y bytes maxL rt :: lwG) rm 0 0 n := ⟨callB_of n hts (pv_code_in y5) rfl hrc.1 hrc.2 (hts _ y4) (hts _ w1) ⟨y6, y7, y8⟩ hR, hts _ y2, hts _ y3⟩
  have hrv := va_recv C.2.2.2.2.2.1 hP hc he
  rw [hcn] at hrv
  refine va_callv (va_runV (As := As) (rest := st) ⟨C.1, C.2.1, C.2.2.1, C.2.2.2.1, hts⟩ hM hcw ⟨pv_blind, hrv, pv_pre C hP hS⟩ rfl hn h.1 hst (lv_room hW) hdg ⟨hcs.1, hcs.2⟩) hS (fun q _ h => hA q h) hA (fun u t H1 locs1 ht hvm hw hB hz1 hk1 hS => ?_)
  subst hw; rw [ht] at hB; exact kk H1 locs1 ls hB hS h
theorem x_vr (C : pv_C p s m args meth c cc nL own D cI cZ ad A) {y : MethodName} {bytes : ByteArray} {maxL idx n : Nat} {rt : Option FieldType} {rm : Room} {As st0 : List Value} {ra : Nat} {R0 : pv_S} {Cn : String} (Y : pv_Y y bytes maxL rt Cn n) (q0 ci : Nat) {qc : vw_C} {fs : List Value} (hc : vwCl[ci]? = some qc) (hcn : qc.1 = Cn) (he : (pv_W cI cZ ad σ)[q0]? = some (ad q0, .inr (ci, fs))) (hM : Met l y (Cond.code y bytes maxL rt :: lwG) rm (va_Pc (.ref (ad q0) :: As) (pv_P D cI cZ ad σ)) (pv_QR D cI cZ ad ra R0) 0 0 (pv_A ad)) (w1 : Cond.methodLink own idx y ∈ lwG) (hrc : rm.cells = 0 ∧ rm.slots = 0) (hR : rm.frames + 1 ≤ R.frames ∧ 8 + (maxL + 11) + rm.locals ≤ R.locals) (hcs : cells ≤ R.cells ∧ slots ≤ R.slots) (hn : As.length = n) (hst : st0 = As.reverse ++ .ref (ad q0) :: st) (hW : (st.map fun v => v.category).sum ≤ 8) (hdg : decode cc pc = .ok (.invokevirtual idx, 3)) (kk : Wx p l e R s m args below meth c cells slots Q nL D cI cZ ad A (pc + 3) lv (.ref ra :: st) R0) : Wx p l e R s m args below meth c cells slots Q nL D cI cZ ad A pc lv st0 σ := fun H locs ls hP hS h => by
  have hts := C.2.2.2.2.1
  have hA : ∀ q, pv_A ad q → A q := fun q ⟨k, h1, h2⟩ => by rw [h2]; exact C.2.2.2.2.2.2.2.1 k h1
  obtain ⟨y1, y2, y3, y4, y5, y6, y7, y8⟩ := Y
  subst y1
  have hcw : CallW R s args own y.cls idx y bytes maxL rt (Cond.code y bytes maxL rt :: lwG) rm 0 0 n := ⟨callB_of n hts (pv_code_in y5) rfl hrc.1 hrc.2 (hts _ y4) (hts _ w1) ⟨y6, y7, y8⟩ hR, hts _ y2, hts _ y3⟩
  have hrv := va_recv C.2.2.2.2.2.1 hP hc he
  rw [hcn] at hrv
  refine va_callr (va_runV (As := As) (rest := st) ⟨C.1, C.2.1, C.2.2.1, C.2.2.2.1, hts⟩ hM hcw ⟨pv_blind, hrv, pv_pre C hP hS⟩ rfl hn h.1 hst (lv_room hW) hdg ⟨hcs.1, hcs.2⟩) hS (fun q _ h => hA q h) hA (fun u x t H1 locs1 ht hvm hw hB hz1 hk1 hS => ?_)
  subst hw; obtain ⟨e9, hB⟩ := hB; subst e9; rw [ht] at hB; exact kk H1 locs1 ls hB hS h
theorem x_si (C : pv_C p s m args meth c cc nL own D cI cZ ad A) {y : MethodName} {bytes : ByteArray} {maxL idx n : Nat} {rt : Option FieldType} {rm : Room} {As st0 : List Value} {R0 : Int32 × pv_S} (Y : pv_Z y bytes maxL rt n) (hM : Met l y (Cond.code y bytes maxL rt :: lwG) rm (va_Pc As (pv_P D cI cZ ad σ)) (pv_QI D cI cZ ad R0) 0 0 (pv_A ad)) (w1 : Cond.methodLink own idx y ∈ lwG) (hrc : rm.cells = 0 ∧ rm.slots = 0) (hR : rm.frames + 1 ≤ R.frames ∧ 8 + (maxL + 11) + rm.locals ≤ R.locals) (hcs : cells ≤ R.cells ∧ slots ≤ R.slots) (hn : As.length = n) (hst : st0 = As.reverse ++ st) (hW : (st.map fun v => v.category).sum ≤ 8) (hdg : decode cc pc = .ok (.invokestatic idx, 3)) (kk : Wx p l e R s m args below meth c cells slots Q nL D cI cZ ad A (pc + 3) lv (.int R0.1 :: st) R0.2) : Wx p l e R s m args below meth c cells slots Q nL D cI cZ ad A pc lv st0 σ := fun H locs ls hP hS h => by
  have hts := C.2.2.2.2.1
  have hA : ∀ q, pv_A ad q → A q := fun q ⟨k, h1, h2⟩ => by rw [h2]; exact C.2.2.2.2.2.2.2.1 k h1
  obtain ⟨y2, y4, y5, y6, y7, y8⟩ := Y
  refine va_calli (va_runS (As := As) (rest := st) ⟨C.1, C.2.1, C.2.2.1, C.2.2.2.1, hts⟩ hM ⟨callB_of n hts (pv_code_in y5) rfl hrc.1 hrc.2 (hts _ y4) (hts _ w1) ⟨y6, y7, y8⟩ hR, hts _ y2⟩ ⟨pv_blind, pv_pre C hP hS⟩ rfl hn h.1 hst (lv_room hW) hdg ⟨hcs.1, hcs.2⟩) hS (fun q _ h => hA q h) hA (fun r u t H1 locs1 ht hvm hw hB hz1 hk1 hS => ?_)
  subst hw; rw [ht] at hB; exact kk H1 locs1 ls hB hS h
theorem x_sv (C : pv_C p s m args meth c cc nL own D cI cZ ad A) {y : MethodName} {bytes : ByteArray} {maxL idx n : Nat} {rt : Option FieldType} {rm : Room} {As st0 : List Value} {R0 : pv_S} (Y : pv_Z y bytes maxL rt n) (hM : Met l y (Cond.code y bytes maxL rt :: lwG) rm (va_Pc As (pv_P D cI cZ ad σ)) (pv_QV D cI cZ ad R0) 0 0 (pv_A ad)) (w1 : Cond.methodLink own idx y ∈ lwG) (hrc : rm.cells = 0 ∧ rm.slots = 0) (hR : rm.frames + 1 ≤ R.frames ∧ 8 + (maxL + 11) + rm.locals ≤ R.locals) (hcs : cells ≤ R.cells ∧ slots ≤ R.slots) (hn : As.length = n) (hst : st0 = As.reverse ++ st) (hW : (st.map fun v => v.category).sum ≤ 8) (hdg : decode cc pc = .ok (.invokestatic idx, 3)) (kk : Wx p l e R s m args below meth c cells slots Q nL D cI cZ ad A (pc + 3) lv st R0) : Wx p l e R s m args below meth c cells slots Q nL D cI cZ ad A pc lv st0 σ := fun H locs ls hP hS h => by
  have hts := C.2.2.2.2.1
  have hA : ∀ q, pv_A ad q → A q := fun q ⟨k, h1, h2⟩ => by rw [h2]; exact C.2.2.2.2.2.2.2.1 k h1
  obtain ⟨y2, y4, y5, y6, y7, y8⟩ := Y
  refine va_callv (va_runS (As := As) (rest := st) ⟨C.1, C.2.1, C.2.2.1, C.2.2.2.1, hts⟩ hM ⟨callB_of n hts (pv_code_in y5) rfl hrc.1 hrc.2 (hts _ y4) (hts _ w1) ⟨y6, y7, y8⟩ hR, hts _ y2⟩ ⟨pv_blind, pv_pre C hP hS⟩ rfl hn h.1 hst (lv_room hW) hdg ⟨hcs.1, hcs.2⟩) hS (fun q _ h => hA q h) hA (fun u t H1 locs1 ht hvm hw hB hz1 hk1 hS => ?_)
  subst hw; rw [ht] at hB; exact kk H1 locs1 ls hB hS h
theorem x_sni (C : pv_C p s m args meth c cc nL own D cI cZ ad A) {host : String} {y : MethodName} {bytes : ByteArray} {maxL idx n : Nat} {rt : Option FieldType} {rm : Room} {As st0 : List Value} {R0 : Int32 × pv_S} (Y : pv_Z y bytes maxL rt n) (hM : Met l y (Cond.code y bytes maxL rt :: lwG) rm (va_Pc As (pv_P D cI cZ ad σ)) (pv_QI D cI cZ ad R0) 0 0 (pv_A ad)) (w1 : va_Nw (.methodLinkNest own idx y host) s) (hrc : rm.cells = 0 ∧ rm.slots = 0) (hR : rm.frames + 1 ≤ R.frames ∧ 8 + (maxL + 11) + rm.locals ≤ R.locals) (hcs : cells ≤ R.cells ∧ slots ≤ R.slots) (hn : As.length = n) (hst : st0 = As.reverse ++ st) (hW : (st.map fun v => v.category).sum ≤ 8) (hdg : decode cc pc = .ok (.invokestatic idx, 3)) (kk : Wx p l e R s m args below meth c cells slots Q nL D cI cZ ad A (pc + 3) lv (.int R0.1 :: st) R0.2) : Wx p l e R s m args below meth c cells slots Q nL D cI cZ ad A pc lv st0 σ := fun H locs ls hP hS h => by
  have hts := C.2.2.2.2.1
  have hA : ∀ q, pv_A ad q → A q := fun q ⟨k, h1, h2⟩ => by rw [h2]; exact C.2.2.2.2.2.2.2.1 k h1
  obtain ⟨y2, y4, y5, y6, y7, y8⟩ := Y
  refine va_calli (va_runSN (As := As) (rest := st) ⟨C.1, C.2.1, C.2.2.1, C.2.2.2.1, hts⟩ hM ⟨va_cnB n hts (pv_code_in y5) rfl hrc.1 hrc.2 w1 (hts _ y4) ⟨y6, y7, y8⟩ hR, hts _ y2, trivial⟩ ⟨pv_blind, pv_pre C hP hS⟩ rfl hn h.1 hst (lv_room hW) hdg ⟨hcs.1, hcs.2⟩) hS (fun q _ h => hA q h) hA (fun r u t H1 locs1 ht hvm hw hB hz1 hk1 hS => ?_)
  subst hw; rw [ht] at hB; exact kk H1 locs1 ls hB hS h
theorem x_iret (C : pv_C p s m args meth c cc nL own D cI cZ ad (pv_A ad)) {v : Int32} {R0 : Int32 × pv_S} (hr : meth.sig.returnType = some .int) (hdg : decode cc pc = .ok (.ireturn, 1)) (h0 : (v, σ) = R0) : Wx p l e R s m args below meth c cells slots (MQ below (pv_QI D cI cZ ad R0) args s cells slots (pv_A ad)) nL D cI cZ ad (pv_A ad) pc lv [.int v] σ := fun H locs ls hP hS _ => W.iret C.1 C.2.1 hr (fun t ht hW => ⟨⟨v, σ, rfl, h0, by show va_P D vwCl (pv_W cI cZ ad σ) t.heap; rw [ht]; exact hP⟩, hS.F ht⟩) hS.2.2 hdg C.2.2.2.2.2.2.2.2.1
theorem x_zret (C : pv_C p s m args meth c cc nL own D cI cZ ad (pv_A ad)) {v : Int32} {R0 : Int32 × pv_S} (hr : meth.sig.returnType = some .boolean) (hn : narrow .boolean (.int v) = .int v) (hdg : decode cc pc = .ok (.ireturn, 1)) (h0 : (v, σ) = R0) : Wx p l e R s m args below meth c cells slots (MQ below (pv_QI D cI cZ ad R0) args s cells slots (pv_A ad)) nL D cI cZ ad (pv_A ad) pc lv [.int v] σ := fun H locs ls hP hS _ => W.zret C.1 C.2.1 hr hn (fun t ht hW => ⟨⟨v, σ, rfl, h0, by show va_P D vwCl (pv_W cI cZ ad σ) t.heap; rw [ht]; exact hP⟩, hS.F ht⟩) hS.2.2 hdg C.2.2.2.2.2.2.2.2.1
theorem x_vret (C : pv_C p s m args meth c cc nL own D cI cZ ad (pv_A ad)) {R0 : pv_S} (hr : meth.sig.returnType = none) (hdg : decode cc pc = .ok (.return_, 1)) (h0 : σ = R0) : Wx p l e R s m args below meth c cells slots (MQ below (pv_QV D cI cZ ad R0) args s cells slots (pv_A ad)) nL D cI cZ ad (pv_A ad) pc lv [] σ := fun H locs ls hP hS _ => W.vret C.1 C.2.1 hr (fun t ht hW => ⟨⟨σ, rfl, h0, by show va_P D vwCl (pv_W cI cZ ad σ) t.heap; rw [ht]; exact hP⟩, hS.F ht⟩) hS.2.2 hdg C.2.2.2.2.2.2.2.2.1
theorem x_aret (C : pv_C p s m args meth c cc nL own D cI cZ ad (pv_A ad)) {a : Nat} {R0 : pv_S} {Cn : String} (hr : meth.sig.returnType = some (.object Cn)) (hdg : decode cc pc = .ok (.areturn, 1)) (h0 : σ = R0) : Wx p l e R s m args below meth c cells slots (MQ below (pv_QR D cI cZ ad a R0) args s cells slots (pv_A ad)) nL D cI cZ ad (pv_A ad) pc lv [.ref a] σ := fun H locs ls hP hS _ => W.aret C.1 C.2.1 hr (Or.inl ⟨Cn, rfl⟩) (Or.inr ⟨a, rfl⟩) (fun t ht hW => ⟨⟨σ, a, rfl, h0, rfl, by show va_P D vwCl (pv_W cI cZ ad σ) t.heap; rw [ht]; exact hP⟩, hS.F ht⟩) hS.2.2 hdg C.2.2.2.2.2.2.2.2.1
end PVX
/-- a contract out of a walk from the method's first instruction -/
theorem x_met {l : Launch} {y : MethodName} {bytes : ByteArray} {maxL : Nat} {rt : Option FieldType} {rm : Room} {own : String} {D : va_G} {cI cZ : ClassId} {ad : Nat → Nat} {σ : pv_S} {av : List Value} {Qc : Array Value → State → Outcome → State → Prop} (hy : plainName y.cls = true) (hown : y.cls = own) (hJ : pv_J ad) (hlen : (lg_sl av).length ≤ maxL)
    (body : ∀ (p : Program) (e : Env) (s : State) (m : MethodId) (args : Array Value) (below : List Frame) (meth : Method) (c : Code), pv_C p s m args meth c bytes maxL own D cI cZ ad (pv_A ad) → meth.sig.returnType = rt → Wx p l e rm s m args below meth c 0 0 (MQ below Qc args s 0 0 (pv_A ad)) maxL D cI cZ ad (pv_A ad) 0 (lv_args 0 av) [] σ) :
    Met l y (Cond.code y bytes maxL rt :: lwG) rm (va_Pc av (pv_P D cI cZ ad σ)) Qc 0 0 (pv_A ad) := by
  refine Met.ofW (cc := bytes) (maxL := maxL) (ret := rt) hy rfl ?_
  intro p e s m args below meth c s₁ B hml hv
  obtain ⟨rfl, hP, hK, hN⟩ := hv
  have hts := atoms_spec (ws := Cond.code y bytes maxL rt :: lwG) B.pre
  have ho : s.vm.findClass own = some m.cls := by rw [← hown]; exact findClass_of_methodNamed B.named
  have hl := lv_entry av (n := maxL) hlen
  rw [lg_entry_eq]
  exact body p e s m av.toArray below meth c ⟨B.exec, B.bytes, hml, ho, fun w h => hts w (List.mem_cons_of_mem _ h), hK, hJ, fun k h => ⟨k, h, rfl⟩, B.notSynchronized, hN⟩ B.returns s.heap [] _ hP va_S.rf hl
/-! the functions: an index within, or nothing -/
def gd {α : Type} (i : Int32) (n : Nat) (x : Option α) : Option α := if i < 0 ∨ n ≤ i.toNatClampNeg then none else x
theorem gd_some {α : Type} {i : Int32} {n : Nat} {x : Option α} {r : α} (h : gd i n x = some r) : vp_in i n ∧ x = some r := by
  unfold gd at h
  by_cases hc : i < 0 ∨ n ≤ i.toNatClampNeg
  · rw [if_pos hc] at h; cases h
  · rw [if_neg hc] at h; exact ⟨hc, h⟩
/-- a boolean, or nothing -/
def gz {α : Type} (v : Int32) (x : Option α) : Option α := if v = 0 ∨ v = 1 then x else none
theorem gz_some {α : Type} {v : Int32} {x : Option α} {r : α} (h : gz v x = some r) : narrow .boolean (.int v) = .int v ∧ x = some r := by
  unfold gz at h
  by_cases hc : v = 0 ∨ v = 1
  · rw [if_pos hc] at h
    refine ⟨?_, h⟩
    rcases hc with rfl | rfl <;> rfl
  · rw [if_neg hc] at h; cases h
/-- a divisor that isn't 0, or nothing -/
def gn {α : Type} (v : Int32) (x : Option α) : Option α := if v = 0 then none else x
theorem gn_some {α : Type} {v : Int32} {x : Option α} {r : α} (h : gn v x = some r) : ¬ v = 0 ∧ x = some r := by
  unfold gn at h
  by_cases hc : v = 0
  · rw [if_pos hc] at h; cases h
  · rw [if_neg hc] at h; exact ⟨hc, h⟩
/-- a copy within both rows, or nothing -/
def gc {α : Type} (sp dp n : Int32) (n0 n1 : Nat) (x : Option α) : Option α := if ¬ sp < 0 ∧ ¬ dp < 0 ∧ ¬ n < 0 ∧ sp.toNatClampNeg + n.toNatClampNeg ≤ n0 ∧ dp.toNatClampNeg + n.toNatClampNeg ≤ n1 then x else none
theorem gc_some {α : Type} {sp dp n : Int32} {n0 n1 : Nat} {x : Option α} {r : α} (h : gc sp dp n n0 n1 x = some r) : (¬ sp < 0 ∧ ¬ dp < 0 ∧ ¬ n < 0 ∧ sp.toNatClampNeg + n.toNatClampNeg ≤ n0 ∧ dp.toNatClampNeg + n.toNatClampNeg ≤ n1) ∧ x = some r := by
  unfold gc at h
  by_cases hc : ¬ sp < 0 ∧ ¬ dp < 0 ∧ ¬ n < 0 ∧ sp.toNatClampNeg + n.toNatClampNeg ≤ n0 ∧ dp.toNatClampNeg + n.toNatClampNeg ≤ n1
  · rw [if_pos hc] at h; exact ⟨hc, h⟩
  · rw [if_neg hc] at h; cases h
theorem gb_some {α β : Type} {x : Option α} {f : α → Option β} {r : β} (h : Option.bind x f = some r) : ∃ a, x = some a ∧ f a = some r := by
  cases x with
  | none => cases h
  | some a => exact ⟨a, rfl, h⟩
