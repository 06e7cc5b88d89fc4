/-! constructors: a world that grows -/
def pn_C (p : Program) (s : State) (m : MethodId) (args : Array Value) (meth : Method) (c : Code) (cc : ByteArray) (nL : Nat) (own : String) (D : va_G) (cI cZ : ClassId) (A : Nat → Prop) : Prop :=
  p.tables.exec = Jvm.exec ∧ c.code = cc ∧ c.maxLocals = nL ∧ s.vm.findClass own = some m.cls ∧ (∀ w ∈ lwG, w.before args s = true) ∧ va_K D vwCl (pv_T cI cZ) s ∧ meth.locks = false ∧ (∀ q, s.heap.size ≤ q → A q)
def Wn (p : Program) (l : Launch) (e : Env) (R : Room) (s : State) (m : MethodId) (args : Array Value) (below : List Frame) (meth : Method) (c : Code) (cells slots : Nat) (Q : State → Prop) (nL : Nat) (D : va_G) (A : Nat → Prop) (pc : Nat) (lv : List (Nat × Value)) (st : List Value) (w : va_W) : Prop :=
  ∀ (H : Heap) (locs : List Loc) (ls : Array Slot), va_P D vwCl w H → va_D A w → va_S A s.heap H locs → lv_has ls nL lv → W p l e R s m args below meth c H locs cells slots Q (F0 m pc ls st)
theorem pv_arr1 {D : va_G} {cl : List vw_C} {tys : List (ClassId × FieldType)} {s : State} {c1 c2 : ClassId} (h : va_K D cl tys s) {i j : Nat} (h1 : tys[i]? = some (c1, .int)) (h2 : tys[j]? = some (c2, .int)) : c1 = c2 := by
  have a1 : s.vm.findClass ("[" ++ FieldType.int.toString) = some c1 := (h.2 i _ h1).2
  have a2 : s.vm.findClass ("[" ++ FieldType.int.toString) = some c2 := (h.2 j _ h2).2
  exact Option.some.inj (a1.symm.trans a2)
theorem pv_arr2 {D : va_G} {cl : List vw_C} {tys : List (ClassId × FieldType)} {s : State} {c1 c2 : ClassId} (h : va_K D cl tys s) {i j : Nat} (h1 : tys[i]? = some (c1, .boolean)) (h2 : tys[j]? = some (c2, .boolean)) : c1 = c2 := by
  have a1 : s.vm.findClass ("[" ++ FieldType.boolean.toString) = some c1 := (h.2 i _ h1).2
  have a2 : s.vm.findClass ("[" ++ FieldType.boolean.toString) = some c2 := (h.2 j _ h2).2
  exact Option.some.inj (a1.symm.trans a2)
section PVN
variable {p : Program} {l : Launch} {e : Env} {R : Room} {s : State} {m : MethodId} {args : Array Value} {below : List Frame} {meth : Method} {c : Code} {cells slots : Nat} {Q : State → Prop}
variable {cc : ByteArray} {nL : Nat} {own : String} {D : va_G} {cI cZ : ClassId} {A : Nat → Prop} {pc : Nat} {lv lv' : List (Nat × Value)} {st : List Value} {w w' : va_W}
theorem n_iconst (C : pn_C p s m args meth c cc nL own D cI cZ A) {n : Int} {v : Int32} (hdg : decode cc pc = .ok (.iconst n, 1)) (hv : Int32.ofInt n = v) (k : Wn p l e R s m args below meth c cells slots Q nL D A (pc + 1) lv (.int v :: st) w) : Wn p l e R s m args below meth c cells slots Q nL D A pc lv st w := fun H locs ls hP hD hS h => lv_iconst C.1 C.2.1 hdg hv (k H locs ls hP hD hS h)
theorem n_bipush (C : pn_C p s m args meth c cc nL own D cI cZ A) {n : Int} {v : Int32} (hdg : decode cc pc = .ok (.bipush n, 2)) (hv : (Int8.ofInt n).toInt32 = v) (k : Wn p l e R s m args below meth c cells slots Q nL D A (pc + 2) lv (.int v :: st) w) : Wn p l e R s m args below meth c cells slots Q nL D A pc lv st w := fun H locs ls hP hD hS h => lv_bipush C.1 C.2.1 hdg hv (k H locs ls hP hD hS h)
theorem n_sipush (C : pn_C p s m args meth c cc nL own D cI cZ A) {n : Int} {v : Int32} (hdg : decode cc pc = .ok (.sipush n, 3)) (hv : (Int16.ofInt n).toInt32 = v) (k : Wn p l e R s m args below meth c cells slots Q nL D A (pc + 3) lv (.int v :: st) w) : Wn p l e R s m args below meth c cells slots Q nL D A pc lv st w := fun H locs ls hP hD hS h => lv_sipush C.1 C.2.1 hdg hv (k H locs ls hP hD hS h)
theorem n_aload (C : pn_C p s m args meth c cc nL own D cI cZ A) {j : Fin 4} {i x : Nat} (hdg : decode cc pc = .ok (.aload_n j, 1)) (hi : (j : Nat) = i) (q : Nat) (hq : lv[q]? = some (i, .ref x)) (k : Wn p l e R s m args below meth c cells slots Q nL D A (pc + 1) lv (.ref x :: st) w) : Wn p l e R s m args below meth c cells slots Q nL D A pc lv st w := fun H locs ls hP hD hS h => lv_aload_n C.1 C.2.1 hdg hi (lv_at h q hq) (k H locs ls hP hD hS h)
theorem n_dup (C : pn_C p s m args meth c cc nL own D cI cZ A) {va : Value} (hdg : decode cc pc = .ok (.dup, 1)) (hva : va.category = 1) (k : Wn p l e R s m args below meth c cells slots Q nL D A (pc + 1) lv (va :: va :: st) w) : Wn p l e R s m args below meth c cells slots Q nL D A pc lv (va :: st) w := fun H locs ls hP hD hS h => lv_dup C.1 C.2.1 hdg hva (k H locs ls hP hD hS h)
theorem n_astore (C : pn_C p s m args meth c cc nL own D cI cZ A) {j : Fin 4} {i x : Nat} (hdg : decode cc pc = .ok (.astore_n j, 1)) (hi : (j : Nat) = i) (hn : i < nL) (hl : (i, Value.ref x) :: lv.filter (fun q => !(q.1 == i) && !(q.1 + 1 == i && q.2.category == 2)) = lv') (k : Wn p l e R s m args below meth c cells slots Q nL D A (pc + 1) lv' st w) : Wn p l e R s m args below meth c cells slots Q nL D A pc lv (.ref x :: st) w := fun H locs ls hP hD hS h => lv_astore_n C.1 C.2.1 hdg hi h hn hl <| fun ls h => (k H locs ls hP hD hS h)
theorem n_istore (C : pn_C p s m args meth c cc nL own D cI cZ A) {j : Fin 4} {i : Nat} {x : Int32} (hdg : decode cc pc = .ok (.istore_n j, 1)) (hi : (j : Nat) = i) (hn : i < nL) (hl : (i, Value.int x) :: lv.filter (fun q => !(q.1 == i) && !(q.1 + 1 == i && q.2.category == 2)) = lv') (k : Wn p l e R s m args below meth c cells slots Q nL D A (pc + 1) lv' st w) : Wn p l e R s m args below meth c cells slots Q nL D A pc lv (.int x :: st) w := fun H locs ls hP hD hS h => lv_istore_n C.1 C.2.1 hdg hi h hn hl <| fun ls h => (k H locs ls hP hD hS h)
theorem n_obj (C : pn_C p s m args meth c cc nL own D cI cZ A) {idx a : Nat} (hlink : Cond.methodLink own idx objectInit ∈ lwG) (hinst : Cond.instanceMethod objectInit ∈ lwG) (hcode : Cond.code objectInit ⟨#[0xb1]⟩ 1 none ∈ lwG) (hdg : decode cc pc = .ok (.invokespecial idx, 3)) (hR : 1 ≤ R.frames ∧ (st.map fun v => v.category).sum + 12 ≤ R.locals) (k : Wn p l e R s m args below meth c cells slots Q nL D A (pc + 3) lv st w) : Wn p l e R s m args below meth c cells slots Q nL D A pc lv (.ref a :: st) w := fun H locs ls hP hD hS h =>
  W.objInit C.1 C.2.1 C.2.2.2.1 (C.2.2.2.2.1 _ hlink) (C.2.2.2.2.1 _ hinst) (C.2.2.2.2.1 _ hcode) rfl (by rw [C.2.2.1]; exact h.1) rfl hdg hR.1 (by show 2 * 0 + _ + 12 ≤ _; have := hR.2; omega) (W.eq (g2 := F0 m (pc + 3) ls st) rfl (k H locs ls hP hD hS h))
theorem n_newi (C : pn_C p s m args meth c cc nL own D cI cZ A) (N : Nat) {n : Int32} (harr : Cond.arrayClass .int ∈ lwG) (hn : ¬ n < 0) (hN : n.toNatClampNeg = N) (hbytes : N * componentBytes .int ≤ 536870912) (hR : cells + 1 ≤ R.cells ∧ slots + N ≤ R.slots) (hdg : decode cc pc = .ok (.newarray .int, 2)) (k : ∀ q : Nat, Wn p l e R s m args below meth c (cells + 1) (slots + N) Q nL D A (pc + 2) lv (.ref q :: st) (w ++ [(q, .inl (cI, N, .inl (fun _ => 0)))])) : Wn p l e R s m args below meth c cells slots Q nL D A pc lv (.int n :: st) w := fun H locs ls hP hD hS h => by
  refine va_newa (atype := .int) (a0 := (N, .inl (fun _ => 0))) C.1 C.2.1 (C.2.2.2.2.1 _ harr) rfl C.2.2.2.2.2.1 hP hD hS C.2.2.2.2.2.2.2 (fun _ => rfl) hn hN hbytes hR.1 hR.2 hdg (fun q cA H1 hK1 hP hD hS => ?_)
  obtain rfl : cI = cA := pv_arr1 hK1 (i := 0) (j := 2) rfl rfl
  exact k q H1 locs ls hP hD hS h
theorem n_newz (C : pn_C p s m args meth c cc nL own D cI cZ A) (N : Nat) {n : Int32} (harr : Cond.arrayClass .boolean ∈ lwG) (hn : ¬ n < 0) (hN : n.toNatClampNeg = N) (hbytes : N * componentBytes .boolean ≤ 536870912) (hR : cells + 1 ≤ R.cells ∧ slots + N ≤ R.slots) (hdg : decode cc pc = .ok (.newarray .boolean, 2)) (k : ∀ q : Nat, Wn p l e R s m args below meth c (cells + 1) (slots + N) Q nL D A (pc + 2) lv (.ref q :: st) (w ++ [(q, .inl (cZ, N, .inl (fun _ => 0)))])) : Wn p l e R s m args below meth c cells slots Q nL D A pc lv (.int n :: st) w := fun H locs ls hP hD hS h => by
  refine va_newa (atype := .boolean) (a0 := (N, .inl (fun _ => 0))) C.1 C.2.1 (C.2.2.2.2.1 _ harr) rfl C.2.2.2.2.2.1 hP hD hS C.2.2.2.2.2.2.2 (fun _ => rfl) hn hN hbytes hR.1 hR.2 hdg (fun q cA H1 hK1 hP hD hS => ?_)
  obtain rfl : cZ = cA := pv_arr2 hK1 (i := 1) (j := 2) rfl rfl
  exact k q H1 locs ls hP hD hS h
theorem n_get (C : pn_C p s m args meth c cc nL own D cI cZ A) (q0 ci k : Nat) {Cn : String} {T : u_T} {N idx a : Nat} {fs : List Value} {v : Value} (he : w[q0]? = some (a, .inr (ci, fs))) (hc : vwCl[ci]? = some (Cn, T, N)) (hin : ∀ w ∈ u_ws Cn T N, w ∈ lwG) (hk : k < N) (hlink : Cond.fieldLink own idx (T k).1 (T k).2.1 (T k).2.2.1 ∈ lwG) (hv : fs[k]? = some v) (hdg : decode cc pc = .ok (.getfield idx, 3)) (kk : Wn p l e R s m args below meth c cells slots Q nL D A (pc + 3) lv (v :: st) w) : Wn p l e R s m args below meth c cells slots Q nL D A pc lv (.ref a :: st) w := fun H locs ls hP hD hS h =>
  va_get C.1 C.2.1 C.2.2.2.2.1 hin C.2.2.2.1 C.2.2.2.2.2.1 hP q0 he hc k hk (C.2.2.2.2.1 _ hlink) (fun _ h9 => h9) hv hdg (kk H locs ls hP hD hS h)
theorem n_putF (C : pn_C p s m args meth c cc nL own D cI cZ A) (hin2 : meth.name = "<init>") (q0 ci k : Nat) {Cn : String} {T : u_T} {N idx a : Nat} {fs : List Value} {v : Value} {ty : FieldType} (he : w[q0]? = some (a, .inr (ci, fs))) (hc : vwCl[ci]? = some (Cn, T, N)) (hin : ∀ w ∈ u_ws Cn T N, w ∈ lwG) (hk : k < N) (hlink : Cond.fieldLink own idx (T k).1 (T k).2.1 (T k).2.2.1 ∈ lwG) (ty0 : Nat → FieldType) (hty : ∀ k, k < N → parseFieldDescriptor (T k).2.2.1 = some (ty0 k)) (hnm : ∀ a, a < N → ∀ b, b < N → a ≠ b → (T a).2.1 ≠ (T b).2.1) (hfin : (T k).2.2.2 = true) (hdecl : (T k).1 = own) (hd : parseFieldDescriptor (T k).2.2.1 = some ty) (hn : narrow ty v = v) (hfit : fits ty v = true) (hl : k < fs.length) (hw : w.set q0 (a, .inr (ci, fs.set k v)) = w') (hdg : decode cc pc = .ok (.putfield idx, 3)) (kk : Wn p l e R s m args below meth c cells slots Q nL D A (pc + 3) lv st w') : Wn p l e R s m args below meth c cells slots Q nL D A pc lv (v :: .ref a :: st) w := fun H locs ls hP hD hS h =>
  va_putF C.1 C.2.1 C.2.2.2.2.1 hin ty0 hty hnm C.2.2.2.1 C.2.2.2.2.2.1 hP hD hS q0 he hc k hk (C.2.2.2.2.1 _ hlink) (fun _ h9 => h9) hfin hin2 hdecl hd hn hfit hl hdg (fun H locs hP hD hS => kk H locs ls (hw ▸ hP) (hw ▸ hD) hS h)
theorem n_put (C : pn_C p s m args meth c cc nL own D cI cZ A) (q0 ci k : Nat) {Cn : String} {T : u_T} {N idx a : Nat} {fs : List Value} {v : Int32} (he : w[q0]? = some (a, .inr (ci, fs))) (hc : vwCl[ci]? = some (Cn, T, N)) (hin : ∀ w ∈ u_ws Cn T N, w ∈ lwG) (hk : k < N) (hlink : Cond.fieldLink own idx (T k).1 (T k).2.1 (T k).2.2.1 ∈ lwG) (ty0 : Nat → FieldType) (hty : ∀ k, k < N → parseFieldDescriptor (T k).2.2.1 = some (ty0 k)) (hnm : ∀ a, a < N → ∀ b, b < N → a ≠ b → (T a).2.1 ≠ (T b).2.1) (hfin : (T k).2.2.2 = false) (hd : parseFieldDescriptor (T k).2.2.1 = some .int) (hl : k < fs.length) (hw : w.set q0 (a, .inr (ci, fs.set k (.int v))) = w') (hdg : decode cc pc = .ok (.putfield idx, 3)) (kk : Wn p l e R s m args below meth c cells slots Q nL D A (pc + 3) lv st w') : Wn p l e R s m args below meth c cells slots Q nL D A pc lv (.int v :: .ref a :: st) w := fun H locs ls hP hD hS h =>
  va_put C.1 C.2.1 C.2.2.2.2.1 hin ty0 hty hnm C.2.2.2.1 C.2.2.2.2.2.1 hP hD hS q0 he hc k hk (C.2.2.2.2.1 _ hlink) (fun _ h9 => h9) hfin hd rfl rfl hl hdg (fun H locs hP hD hS => kk H locs ls (hw ▸ hP) (hw ▸ hD) hS h)
theorem n_iast (C : pn_C p s m args meth c cc nL own D cI cZ A) (q0 : Nat) {n a : Nat} {f : Nat → Int32} (he : w[q0]? = some (a, .inl (cI, n, .inl f))) {i x : Int32} (hin : vp_in i n) (hw : w.set q0 (a, .inl (cI, n, .inl (upd f i.toNatClampNeg x))) = w') (hdg : decode cc pc = .ok (.iastore, 1)) (kk : Wn p l e R s m args below meth c cells slots Q nL D A (pc + 1) lv st w') : Wn p l e R s m args below meth c cells slots Q nL D A pc lv (.int x :: .int i :: .ref a :: st) w := fun H locs ls hP hD hS h =>
  va_iast C.1 C.2.1 C.2.2.2.2.2.1 hP hD hS q0 0 he rfl hin hdg (fun H locs hP hD hS => kk H locs ls (hw ▸ hP) (hw ▸ hD) hS h)
theorem n_widen (k n : Nat) (h1 : cells ≤ k) (h2 : slots ≤ n) (kk : Wn p l e R s m args below meth c k n Q nL D A pc lv st w) : Wn p l e R s m args below meth c cells slots Q nL D A pc lv st w := fun H locs ls hP hD hS h => W.widen h1 h2 (kk H locs ls hP hD hS h)
theorem n_ret (C : pn_C p s m args meth c cc nL own D cI cZ A) {S : Type} {B : S → va_W} (u : S) (hr : meth.sig.returnType = none) (hdg : decode cc pc = .ok (.return_, 1)) (hw : w = B u) : Wn p l e R s m args below meth c cells slots (MQ below (va_Qv (fun _ : S => True) (fun u t => va_P D vwCl (B u) t.heap ∧ va_D A (B u)) A) args s cells slots A) nL D A pc lv [] w := fun H locs ls hP hD hS _ => W.vret C.1 C.2.1 hr (fun t ht hW => ⟨⟨u, rfl, trivial, by show va_P D vwCl (B u) t.heap; rw [ht, ← hw]; exact hP, by rw [← hw]; exact hD⟩, hS.F ht⟩) hS.2.2 hdg C.2.2.2.2.2.2.1
/-- a constructor's contract: its own cell, and what it makes -/
def pn_P (D : va_G) (cI cZ : ClassId) (w : va_W) (sz : Nat) (E : State → Prop) (U : State) : Prop := U.heap.size = sz ∧ va_P D vwCl w U.heap ∧ va_K D vwCl (pv_T cI cZ) U ∧ va_D (fun _ => True) w ∧ E U
theorem n_met {y : MethodName} {bytes : ByteArray} {maxL : Nat} {rm : Room} {av : List Value} {w : va_W} {sz mc ms : Nat} {S : Type} {B : S → va_W} {E : State → Prop} (hy : plainName y.cls = true) (hyn : y.name = "<init>") (hown : y.cls = own) (hlen : (lg_sl av).length ≤ maxL)
    (body : ∀ (p : Program) (e : Env) (s : State) (m : MethodId) (args : Array Value) (below : List Frame) (meth : Method) (c : Code) (A : Nat → Prop), va_A w s.heap.size = A → s.heap.size = sz → pn_C p s m args meth c bytes maxL own D cI cZ A → meth.name = "<init>" → meth.sig.returnType = none → E s → Wn p l e rm s m args below meth c 0 0 (MQ below (va_Qv (fun _ : S => True) (fun u t => va_P D vwCl (B u) t.heap ∧ va_D A (B u)) A) args s mc ms A) maxL D A 0 (lv_args 0 av) [] w) :
    Met l y (Cond.code y bytes maxL none :: lwG) rm (va_Pc av (pn_P D cI cZ w sz E)) (va_Qv (fun _ : S => True) (fun u t => va_P D vwCl (B u) t.heap ∧ va_D (va_A w sz) (B u)) (va_A w sz)) mc ms (va_A w sz) := by
  refine Met.ofW (cc := bytes) (maxL := maxL) (ret := none) hy rfl ?_
  intro p e s m args below meth c s₁ B hml hv
  obtain ⟨rfl, hsz, hP, hK, hD, hE⟩ := hv
  subst hsz
  have hts := atoms_spec (ws := Cond.code y bytes maxL none :: lwG) B.pre
  have ho : s.vm.findClass own = some m.cls := by rw [← hown]; exact findClass_of_methodNamed B.named
  have hin : meth.name = "<init>" := by rw [← hyn]; exact (name_of_methodNamed B.named B.method).1
  have hl := lv_entry av (n := maxL) hlen
  rw [lg_entry_eq]
  exact body p e s m av.toArray below meth c _ rfl rfl ⟨B.exec, B.bytes, hml, ho, fun w h => hts w (List.mem_cons_of_mem _ h), hK, B.notSynchronized, fun q h => Or.inr h⟩ hin B.returns hE s.heap [] _ hP hD.self va_S.rf hl
/-- a call of a constructor: the cell isC is its own, isR the others -/
def pn_Y (y : MethodName) (bytes : ByteArray) (maxL n : Nat) : Prop := Cond.instanceMethod y ∈ lwG ∧ Cond.initialized y.cls ∈ lwG ∧ Cond.code y bytes maxL none ∈ lwG ∧ y.name = "<init>" ∧ y.cls ≠ "java/lang/invoke/MethodHandle" ∧ y.cls ≠ "java/lang/invoke/VarHandle" ∧ (parseMethodDescriptor y.desc).map (fun d => d.parameters.length) = some n
theorem n_call (C : pn_C p s m args meth c cc nL own D cI cZ A) {y : MethodName} {bytes : ByteArray} {maxL idx n a mc ms : Nat} {rm : Room} {As st0 : List Value} {S : Type} {B : S → va_W} {wc wr : va_W} {E : Nat → State → Prop} (Y : pn_Y y bytes maxL n) (isC isR : List Nat) (hC : isC.map (fun i => w[i]?) = wc.map some) (hRr : isR.map (fun i => w[i]?) = wr.map some) (hnC : va_nd isC = true) (hnR : va_nd isR = true) (hdis : ∀ i ∈ isR, i ∉ isC)
    (hM : ∀ sz : Nat, Met l y (Cond.code y bytes maxL none :: lwG) rm (va_Pc (.ref a :: As) (pn_P D cI cZ wc sz (E sz))) (va_Qv (fun _ : S => True) (fun u t => va_P D vwCl (B u) t.heap ∧ va_D (va_A wc sz) (B u)) (va_A wc sz)) mc ms (va_A wc sz)) (w1 : Cond.methodLink own idx y ∈ lwG) (hrc : rm.cells = mc ∧ rm.slots = ms) (hR : rm.frames + 1 ≤ R.frames ∧ 8 + (maxL + 11) + rm.locals ≤ R.locals) (hcs : cells + mc ≤ R.cells ∧ slots + ms ≤ R.slots) (hn : As.length = n) (hst : st0 = As.reverse ++ .ref a :: st) (hW : (st.map fun v => v.category).sum ≤ 8) (hdg : decode cc pc = .ok (.invokespecial idx, 3))
    (hE : ∀ (H : Heap) (locs : List Loc), va_S A s.heap H locs → va_D A w → ∀ U : State, U.heap = H → s.WarmedH U.vm → E H.size U) (hE2 : ∀ (sz : Nat) (U : State) (g : JFrame) (mk : MethodId) (b : Array Value), E sz U → E sz (U.calling g mk b))
    (kk : ∀ u : S, Wn p l e R s m args below meth c (cells + mc) (slots + ms) Q nL D A (pc + 3) lv st (wr ++ B u)) : Wn p l e R s m args below meth c cells slots Q nL D A pc lv st0 w := fun H locs ls hP hD hS h => by
  have hts := C.2.2.2.2.1
  obtain ⟨y1, y2, y3, y4, y5, y6, y7⟩ := Y
  have hFc := va_free (wc := wc) hD hS C.2.2.2.2.2.2.2 isC hC
  have hPc : va_P D vwCl wc H := fun k q hq => by
    have e1 : (isC.map (fun i => w[i]?))[k]? = some (some q) := by rw [hC, List.getElem?_map, hq]; rfl
    rw [List.getElem?_map] at e1
    cases hi : isC[k]? with
    | none => rw [hi] at e1; cases e1
    | some i => rw [hi] at e1; exact hP i q (Option.some.inj e1)
  have hDc := hD.sub (ws' := wc) isC hnC hC
  refine va_callv (va_runI (As := As) (rest := st) ⟨C.1, C.2.1, C.2.2.1, C.2.2.2.1, hts⟩ (hM H.size) ⟨callB_of n hts (pv_code_in y3) rfl hrc.1 hrc.2 (hts _ y2) (hts _ w1) ⟨y5, y6, y7⟩ hR, y4, hts _ y1⟩ ⟨fun b U g mk q => ?_, fun U hU hWm => ?_⟩ rfl hn h.1 hst (lv_room hW) hdg ⟨hcs.1, hcs.2⟩) hS (fun q _ h => hFc q h) hFc (fun u t H1 locs1 ht hvm hw hB hz1 hk1 hS1 => ?_)
  · obtain ⟨q0, q1, q2, q3, q4, q5⟩ := q
    exact ⟨q0, q1, q2, va_K.moved (u := U) (U := U.calling g mk b) (Vm.Alike.refl U.vm) q3, q4, hE2 _ U g mk b q5⟩
  · exact ⟨rfl, by rw [hU], by rw [hU]; exact hPc, va_K.moved hWm.alike C.2.2.2.2.2.1, hDc.weaken (fun _ _ _ _ => trivial), hE H locs hS hD U hU hWm⟩
  · obtain ⟨hP1, hD1⟩ := hB
    rw [ht] at hP1
    obtain ⟨hP2, hD2⟩ := va_join (wr := wr) (w1 := B u) hP hD isC isR hC hRr hnR hdis hk1 hFc hP1 hD1
    exact kk u H1 locs1 ls hP2 hD2 hS1 h
theorem n_callN (C : pn_C p s m args meth c cc nL own D cI cZ A) {host : String} {y : MethodName} {bytes : ByteArray} {maxL idx n a mc ms : Nat} {rm : Room} {As st0 : List Value} {S : Type} {B : S → va_W} {wc wr : va_W} {E : Nat → State → Prop} (Y : pn_Y y bytes maxL n) (isC isR : List Nat) (hC : isC.map (fun i => w[i]?) = wc.map some) (hRr : isR.map (fun i => w[i]?) = wr.map some) (hnC : va_nd isC = true) (hnR : va_nd isR = true) (hdis : ∀ i ∈ isR, i ∉ isC)
    (hM : ∀ sz : Nat, Met l y (Cond.code y bytes maxL none :: lwG) rm (va_Pc (.ref a :: As) (pn_P D cI cZ wc sz (E sz))) (va_Qv (fun _ : S => True) (fun u t => va_P D vwCl (B u) t.heap ∧ va_D (va_A wc sz) (B u)) (va_A wc sz)) mc ms (va_A wc sz)) (w1 : va_Nw (.methodLinkNest own idx y host) s) (hrc : rm.cells = mc ∧ rm.slots = ms) (hR : rm.frames + 1 ≤ R.frames ∧ 8 + (maxL + 11) + rm.locals ≤ R.locals) (hcs : cells + mc ≤ R.cells ∧ slots + ms ≤ R.slots) (hn : As.length = n) (hst : st0 = As.reverse ++ .ref a :: st) (hW : (st.map fun v => v.category).sum ≤ 8) (hdg : decode cc pc = .ok (.invokespecial idx, 3))
    (hE : ∀ (H : Heap) (locs : List Loc), va_S A s.heap H locs → va_D A w → ∀ U : State, U.heap = H → s.WarmedH U.vm → E H.size U) (hE2 : ∀ (sz : Nat) (U : State) (g : JFrame) (mk : MethodId) (b : Array Value), E sz U → E sz (U.calling g mk b))
    (kk : ∀ u : S, Wn p l e R s m args below meth c (cells + mc) (slots + ms) Q nL D A (pc + 3) lv st (wr ++ B u)) : Wn p l e R s m args below meth c cells slots Q nL D A pc lv st0 w := fun H locs ls hP hD hS h => by
  have hts := C.2.2.2.2.1
  obtain ⟨y1, y2, y3, y4, y5, y6, y7⟩ := Y
  have hFc := va_free (wc := wc) hD hS C.2.2.2.2.2.2.2 isC hC
  have hPc : va_P D vwCl wc H := fun k q hq => by
    have e1 : (isC.map (fun i => w[i]?))[k]? = some (some q) := by rw [hC, List.getElem?_map, hq]; rfl
    rw [List.getElem?_map] at e1
    cases hi : isC[k]? with
    | none => rw [hi] at e1; cases e1
    | some i => rw [hi] at e1; exact hP i q (Option.some.inj e1)
  have hDc := hD.sub (ws' := wc) isC hnC hC
  refine va_callv (va_runIN (As := As) (rest := st) ⟨C.1, C.2.1, C.2.2.1, C.2.2.2.1, hts⟩ (hM H.size) ⟨va_cnB n hts (pv_code_in y3) rfl hrc.1 hrc.2 w1 (hts _ y2) ⟨y5, y6, y7⟩ hR, y4, hts _ y1⟩ ⟨fun b U g mk q => ?_, fun U hU hWm => ?_⟩ rfl hn h.1 hst (lv_room hW) hdg ⟨hcs.1, hcs.2⟩) hS (fun q _ h => hFc q h) hFc (fun u t H1 locs1 ht hvm hw hB hz1 hk1 hS1 => ?_)
  · obtain ⟨q0, q1, q2, q3, q4, q5⟩ := q
    exact ⟨q0, q1, q2, va_K.moved (u := U) (U := U.calling g mk b) (Vm.Alike.refl U.vm) q3, q4, hE2 _ U g mk b q5⟩
  · exact ⟨rfl, by rw [hU], by rw [hU]; exact hPc, va_K.moved hWm.alike C.2.2.2.2.2.1, hDc.weaken (fun _ _ _ _ => trivial), hE H locs hS hD U hU hWm⟩
  · obtain ⟨hP1, hD1⟩ := hB
    rw [ht] at hP1
    obtain ⟨hP2, hD2⟩ := va_join (wr := wr) (w1 := B u) hP hD isC isR hC hRr hnR hdis hk1 hFc hP1 hD1
    exact kk u H1 locs1 ls hP2 hD2 hS1 h
end PVN
