def f_L_law (xs : Nat → Int32) (L : Nat) : Nat → Int32 → pv_S → Option (Int32 × pv_S)
  | 0, _, _ => none
  | n + 1, v3, σ => (if ((Int32.ofNat L) - 5) < v3 then (some (1, σ)) else (gd v3 L (if ((xs v3.toNatClampNeg) &&& 31) = 0 then (gd (v3 + 1) L (Option.bind (f_X7_told (xs ((v3 + 1)).toNatClampNeg) σ) (fun q5 => (gd (v3 + 1) L (Option.bind (f_X8_told (xs ((v3 + 1)).toNatClampNeg) q5.2) (fun q7 => (if q5.1 = q7.1 then (f_L_law xs L n (v3 + 5) q7.2) else (some (0, q7.2))))))))) else (if ((xs v3.toNatClampNeg) &&& 31) = 1 then (gd (v3 + 1) L (gd (v3 + 2) L (Option.bind (f_X7_at (xs ((v3 + 1)).toNatClampNeg) (xs ((v3 + 2)).toNatClampNeg) σ) (fun q12 => (gd (v3 + 1) L (gd (v3 + 2) L (Option.bind (f_X8_at (xs ((v3 + 1)).toNatClampNeg) (xs ((v3 + 2)).toNatClampNeg) q12.2) (fun q15 => (if q12.1 = q15.1 then (f_L_law xs L n (v3 + 5) q15.2) else (some (0, q15.2))))))))))) else (if ((xs v3.toNatClampNeg) &&& 31) = 2 then (gd (v3 + 1) L (gd (v3 + 2) L (Option.bind (f_X7_cost (xs ((v3 + 1)).toNatClampNeg) (xs ((v3 + 2)).toNatClampNeg) σ) (fun q20 => (gd (v3 + 1) L (gd (v3 + 2) L (Option.bind (f_X8_cost (xs ((v3 + 1)).toNatClampNeg) (xs ((v3 + 2)).toNatClampNeg) q20.2) (fun q23 => (if q20.1 = q23.1 then (f_L_law xs L n (v3 + 5) q23.2) else (some (0, q23.2))))))))))) else (if ((xs v3.toNatClampNeg) &&& 31) = 3 then (gd (v3 + 1) L (Option.bind (f_X7_least (xs ((v3 + 1)).toNatClampNeg) σ) (fun q27 => (gd (v3 + 1) L (Option.bind (f_X8_least (xs ((v3 + 1)).toNatClampNeg) q27.2) (fun q29 => (if q27.1 = q29.1 then (f_L_law xs L n (v3 + 5) q29.2) else (some (0, q29.2))))))))) else (if ((xs v3.toNatClampNeg) &&& 31) = 4 then (gd (v3 + 1) L (gd (v3 + 2) L (Option.bind (f_X7_first (xs ((v3 + 1)).toNatClampNeg) (xs ((v3 + 2)).toNatClampNeg) σ) (fun q34 => (gd (v3 + 1) L (gd (v3 + 2) L (Option.bind (f_X8_first (xs ((v3 + 1)).toNatClampNeg) (xs ((v3 + 2)).toNatClampNeg) q34.2) (fun q37 => (if q34.1 = q37.1 then (f_L_law xs L n (v3 + 5) q37.2) else (some (0, q37.2))))))))))) else (if ((xs v3.toNatClampNeg) &&& 31) = 5 then (gd (v3 + 1) L (gd (v3 + 2) L (Option.bind (f_X7_voice (xs ((v3 + 1)).toNatClampNeg) (xs ((v3 + 2)).toNatClampNeg) σ) (fun q42 => (gd (v3 + 1) L (gd (v3 + 2) L (Option.bind (f_X8_voice (xs ((v3 + 1)).toNatClampNeg) (xs ((v3 + 2)).toNatClampNeg) q42.2) (fun q45 => (if q42.1 = q45.1 then (f_L_law xs L n (v3 + 5) q45.2) else (some (0, q45.2))))))))))) else (if ((xs v3.toNatClampNeg) &&& 31) = 6 then (gd (v3 + 1) L (gd (v3 + 2) L (Option.bind (f_X7_member (xs ((v3 + 1)).toNatClampNeg) (xs ((v3 + 2)).toNatClampNeg) σ) (fun q50 => (gd (v3 + 1) L (gd (v3 + 2) L (Option.bind (f_X8_member (xs ((v3 + 1)).toNatClampNeg) (xs ((v3 + 2)).toNatClampNeg) q50.2) (fun q53 => (if q50.1 = q53.1 then (f_L_law xs L n (v3 + 5) q53.2) else (some (0, q53.2))))))))))) else (if ((xs v3.toNatClampNeg) &&& 31) = 7 then (gd (v3 + 1) L (gd (v3 + 2) L (gd (v3 + 3) L (Option.bind (f_X7_note (xs ((v3 + 1)).toNatClampNeg) (xs ((v3 + 2)).toNatClampNeg) (xs ((v3 + 3)).toNatClampNeg) σ) (fun q59 => (gd (v3 + 1) L (gd (v3 + 2) L (gd (v3 + 3) L (Option.bind (f_X8_note (xs ((v3 + 1)).toNatClampNeg) (xs ((v3 + 2)).toNatClampNeg) (xs ((v3 + 3)).toNatClampNeg) q59.2) (fun q63 => (if q59.1 = q63.1 then (f_L_law xs L n (v3 + 5) q63.2) else (some (0, q63.2))))))))))))) else (if ((xs v3.toNatClampNeg) &&& 31) = 8 then (gd (v3 + 1) L (Option.bind (f_X7_take (xs ((v3 + 1)).toNatClampNeg) σ) (fun q67 => (gd (v3 + 1) L (Option.bind (f_X8_take (xs ((v3 + 1)).toNatClampNeg) q67.2) (fun q69 => (if q67.1 = q69.1 then (f_L_law xs L n (v3 + 5) q69.2) else (some (0, q69.2))))))))) else (if ((xs v3.toNatClampNeg) &&& 31) = 9 then (gd (v3 + 1) L (gd (v3 + 2) L (gd (v3 + 3) L (gd (v3 + 4) L (Option.bind (f_X7_move (xs ((v3 + 1)).toNatClampNeg) (xs ((v3 + 2)).toNatClampNeg) (xs ((v3 + 3)).toNatClampNeg) (xs ((v3 + 4)).toNatClampNeg) σ) (fun q76 => (gd (v3 + 1) L (gd (v3 + 2) L (gd (v3 + 3) L (gd (v3 + 4) L (Option.bind (f_X8_move (xs ((v3 + 1)).toNatClampNeg) (xs ((v3 + 2)).toNatClampNeg) (xs ((v3 + 3)).toNatClampNeg) (xs ((v3 + 4)).toNatClampNeg) q76.2) (fun q81 => (if q76.1 = q81.1 then (f_L_law xs L n (v3 + 5) q81.2) else (some (0, q81.2))))))))))))))) else (if ((xs v3.toNatClampNeg) &&& 31) = 10 then (gd (v3 + 1) L (Option.bind (f_X7_share (xs ((v3 + 1)).toNatClampNeg) σ) (fun q85 => (gd (v3 + 1) L (Option.bind (f_X8_share (xs ((v3 + 1)).toNatClampNeg) q85.2) (fun q87 => (if q85.1 = q87.1 then (f_L_law xs L n (v3 + 5) q87.2) else (some (0, q87.2))))))))) else (if ((xs v3.toNatClampNeg) &&& 31) = 11 then (gd (v3 + 1) L (gd (v3 + 2) L (Option.bind (f_X7_term (xs ((v3 + 1)).toNatClampNeg) (xs ((v3 + 2)).toNatClampNeg) σ) (fun q92 => (gd (v3 + 1) L (gd (v3 + 2) L (Option.bind (f_X8_term (xs ((v3 + 1)).toNatClampNeg) (xs ((v3 + 2)).toNatClampNeg) q92.2) (fun q95 => (if q92.1 = q95.1 then (f_L_law xs L n (v3 + 5) q95.2) else (some (0, q95.2))))))))))) else (if ((xs v3.toNatClampNeg) &&& 31) = 12 then (gd (v3 + 1) L (gd (v3 + 2) L (Option.bind (f_X7_follow (xs ((v3 + 1)).toNatClampNeg) (xs ((v3 + 2)).toNatClampNeg) σ) (fun q100 => (gd (v3 + 1) L (gd (v3 + 2) L (Option.bind (f_X8_follow (xs ((v3 + 1)).toNatClampNeg) (xs ((v3 + 2)).toNatClampNeg) q100.2) (fun q103 => (if q100.1 = q103.1 then (f_L_law xs L n (v3 + 5) q103.2) else (some (0, q103.2))))))))))) else (if ((xs v3.toNatClampNeg) &&& 31) = 13 then (gd (v3 + 1) L (Option.bind (f_X7_cut (xs ((v3 + 1)).toNatClampNeg) σ) (fun q107 => (gd (v3 + 1) L (Option.bind (f_X8_cut (xs ((v3 + 1)).toNatClampNeg) q107.2) (fun q109 => (if q107.1 = q109.1 then (f_L_law xs L n (v3 + 5) q109.2) else (some (0, q109.2))))))))) else (if ((xs v3.toNatClampNeg) &&& 31) = 14 then (gd (v3 + 1) L (Option.bind (f_X7_part (xs ((v3 + 1)).toNatClampNeg) σ) (fun q113 => (gd (v3 + 1) L (Option.bind (f_X8_part (xs ((v3 + 1)).toNatClampNeg) q113.2) (fun q115 => (if q113.1 = q115.1 then (f_L_law xs L n (v3 + 5) q115.2) else (some (0, q115.2))))))))) else (if ((xs v3.toNatClampNeg) &&& 31) = 15 then (Option.bind (f_X7_mend σ) (fun q118 => (Option.bind (f_X8_mend q118.2) (fun q119 => (if q118.1 = q119.1 then (f_L_law xs L n (v3 + 5) q119.2) else (some (0, q119.2))))))) else (if ((xs v3.toNatClampNeg) &&& 31) = 16 then (Option.bind (f_X7_clear σ) (fun q122 => (Option.bind (f_X8_clear q122.2) (fun q123 => (if q122.1 = q123.1 then (f_L_law xs L n (v3 + 5) q123.2) else (some (0, q123.2))))))) else (if ((xs v3.toNatClampNeg) &&& 31) = 17 then (gd (v3 + 1) L (Option.bind (f_X7_drift (xs ((v3 + 1)).toNatClampNeg) σ) (fun q127 => (gd (v3 + 1) L (Option.bind (f_X8_drift (xs ((v3 + 1)).toNatClampNeg) q127.2) (fun q129 => (if q127.1 = q129.1 then (f_L_law xs L n (v3 + 5) q129.2) else (some (0, q129.2))))))))) else (if ((xs v3.toNatClampNeg) &&& 31) = 18 then (gd (v3 + 1) L (Option.bind (f_X7_undo (xs ((v3 + 1)).toNatClampNeg) σ) (fun q133 => (gd (v3 + 1) L (Option.bind (f_X8_undo (xs ((v3 + 1)).toNatClampNeg) q133.2) (fun q135 => (if q133.1 = q135.1 then (f_L_law xs L n (v3 + 5) q135.2) else (some (0, q135.2))))))))) else (if ((xs v3.toNatClampNeg) &&& 31) = 19 then (gd (v3 + 1) L (gd (v3 + 2) L (Option.bind (f_X7_write (xs ((v3 + 1)).toNatClampNeg) (xs ((v3 + 2)).toNatClampNeg) σ) (fun q140 => (gd (v3 + 1) L (gd (v3 + 2) L (Option.bind (f_X8_write (xs ((v3 + 1)).toNatClampNeg) (xs ((v3 + 2)).toNatClampNeg) q140.2) (fun q143 => (if q140.1 = q143.1 then (f_L_law xs L n (v3 + 5) q143.2) else (some (0, q143.2))))))))))) else (if ((xs v3.toNatClampNeg) &&& 31) = 20 then (Option.bind (f_X7_tear σ) (fun q146 => (Option.bind (f_X8_tear q146.2) (fun q147 => (if q146.1 = q147.1 then (f_L_law xs L n (v3 + 5) q147.2) else (some (0, q147.2))))))) else (if ((xs v3.toNatClampNeg) &&& 31) = 21 then (gd (v3 + 1) L (Option.bind (f_X7_seed (xs ((v3 + 1)).toNatClampNeg) σ) (fun q151 => (gd (v3 + 1) L (Option.bind (f_X8_seed (xs ((v3 + 1)).toNatClampNeg) q151.2) (fun q153 => (if q151.1 = q153.1 then (f_L_law xs L n (v3 + 5) q153.2) else (some (0, q153.2))))))))) else (if ((xs v3.toNatClampNeg) &&& 31) = 22 then (gd (v3 + 1) L (Option.bind (f_X7_keep (xs ((v3 + 1)).toNatClampNeg) σ) (fun q157 => (gd (v3 + 1) L (Option.bind (f_X8_keep (xs ((v3 + 1)).toNatClampNeg) q157.2) (fun q159 => (if q157.1 = q159.1 then (f_L_law xs L n (v3 + 5) q159.2) else (some (0, q159.2))))))))) else (if ((xs v3.toNatClampNeg) &&& 31) = 23 then (gd (v3 + 1) L (Option.bind (f_X7_goBack (xs ((v3 + 1)).toNatClampNeg) σ) (fun q163 => (gd (v3 + 1) L (Option.bind (f_X8_goBack (xs ((v3 + 1)).toNatClampNeg) q163.2) (fun q165 => (if q163.1 = q165.1 then (f_L_law xs L n (v3 + 5) q165.2) else (some (0, q165.2))))))))) else (f_L_law xs L n (v3 + 5) σ)))))))))))))))))))))))))))
/-! THE CLAIM OUT OF ONE WALK OF THE LAW'S BODY. Your part is whole_start (and what it stands on); all else here is the same for every law, but numbers. -/
def R_law : String := "PartedVoicesLaw"
def lw_P (b : Addr) (xs : List Int32) (args : Array Value) (s : State) : Prop := args = #[.ref b] ∧ s.IntsAt b xs ∧ xs.length ≤ 2560 ∧ (Jvm.Cond.and given_1 narrow_1).before args s = true
def lw_Q (_ : Array Value) (s : State) (o : Outcome) (t : State) : Prop := o = .returned (some (.int 1)) ∧ Framed s o t [] 28 14316
def lw_Z (below : List Frame) (a : Array Value) (s : State) : State → Prop := fun t => ∃ o, t.status = .running ∧ Ended t below o ∧ lw_Q a s o t
/-- the law's own end, with 1 on the stack, nothing written that was there before, its room as the claim has it -/
theorem lw_ret {p : Program} {l : Launch} {e : Env} {s : State} {m : MethodId} {below : List Frame} {meth : Method} {c : Code} {b : Nat} (hx : p.tables.exec = Jvm.exec) (hb : c.code = code) (hr : meth.sig.returnType = ret) (hlocks : meth.locks = false) {pc : Nat} {H : Heap} {ls : Array Slot} (hdg : decode code pc = .ok (.ireturn, 1)) : W p l e room_1 s m #[Value.ref b] below meth c H [] 28 14316 (lw_Z below #[Value.ref b] s) (F0 m pc ls [.int 1]) := by
  intro T hT X
  obtain ⟨fs, hret, hrun, hended, hW, hframe⟩ := X.leave (v := some (.int 1)) (hlocks := hlocks) (fun h => by rw [hr] at h; cases h)
  have hmeth' : T.vm.method? m = some meth := X.method'
  refine ⟨T.setFrames fs, ?_, .returned (some (.int 1)), hrun, hended, rfl, ⟨_, rfl⟩, hW, hframe⟩
  jvm_step X.here [X.here.top, hx, hb, hdg, hmeth', hr, ret, narrow_b1]
  (try refine ⟨rfl, ?_⟩); (try refine ⟨rfl, ?_⟩)
  first | (intro acts; rw [hret _ acts rfl rfl rfl]) | rw [hret _ _ rfl rfl rfl]
  exact Steps.refl _
/-- what holds at the law's entry: the machine, the code, the tables' words (any of lw_tbl by 'hts w (by decide +kernel)'), the script of L ints xs at the cell b, what the Statement gives of the start (any of its parts by flat_of_before) -/
def lw_At (p : Program) (s : State) (m : MethodId) (meth : Method) (c : Code) (b L : Nat) (xs : Nat → Int32) : Prop :=
  p.tables.exec = Jvm.exec ∧ c.code = code ∧ meth.sig.returnType = ret ∧ c.maxLocals = 4 ∧ s.vm.findClass R_law = some m.cls ∧ (∀ w ∈ lw_tbl, w.before #[Value.ref b] s = true) ∧ va_X b L xs s s.heap ∧ b < s.heap.size ∧ meth.locks = false ∧ (Jvm.Cond.and given_1 narrow_1).before #[Value.ref b] s = true

section PVL
variable {p : Program} {l : Launch} {e : Env} {R : Room} {s : State} {m : MethodId} {args : Array Value} {below : List Frame} {meth : Method} {c : Code} {cells slots : Nat} {Q : State → Prop}
variable {cc : ByteArray} {nL : Nat} {own : String} {D : va_G} {cI cZ : ClassId} {ad : Nat → Nat} {A : Nat → Prop} {pc : Nat} {lv : List (Nat × Value)} {st : List Value} {σ : pv_S}
theorem x_sld (C : pv_C p s m args meth c cc nL own D cI cZ ad A) {b L : Nat} {xs : Nat → Int32} (hX : va_X b L xs s s.heap) (hbl : b < s.heap.size) (hbA : ¬ A b) {i : Int32} (hin : vp_in i L) (hdg : decode cc pc = .ok (.iaload, 1)) (k : Wx p l e R s m args below meth c cells slots Q nL D cI cZ ad A (pc + 1) lv (.int (xs i.toNatClampNeg) :: st) σ) : Wx p l e R s m args below meth c cells slots Q nL D cI cZ ad A pc lv (.int i :: .ref b :: st) σ := fun H locs ls hP hS h => va_sld C.1 C.2.1 hX hbl hbA hS hin hdg (k H locs ls hP hS h)
theorem x_slen (C : pv_C p s m args meth c cc nL own D cI cZ ad A) {b L : Nat} {xs : Nat → Int32} (hX : va_X b L xs s s.heap) (hbl : b < s.heap.size) (hbA : ¬ A b) (hdg : decode cc pc = .ok (.arraylength, 1)) (k : Wx p l e R s m args below meth c cells slots Q nL D cI cZ ad A (pc + 1) lv (.int (Int32.ofNat L) :: st) σ) : Wx p l e R s m args below meth c cells slots Q nL D cI cZ ad A pc lv (.ref b :: st) σ := fun H locs ls hP hS h => va_slen C.1 C.2.1 hX hbl hbA hS hdg (k H locs ls hP hS h)
theorem x_lret {b : Nat} (C : pv_C p s m #[Value.ref b] meth c code nL own D cI cZ ad (fun q => s.heap.size ≤ q)) (hr : meth.sig.returnType = ret) (hdg : decode code pc = .ok (.ireturn, 1)) : Wx p l e room_1 s m #[Value.ref b] below meth c 28 14316 (lw_Z below #[Value.ref b] s) nL D cI cZ ad (fun q => s.heap.size ≤ q) pc lv [.int 1] σ := fun H locs ls hP hS h => va_forget (fun q hq => hS.2.2 q hq) (lw_ret C.1 C.2.1 hr C.2.2.2.2.2.2.2.2.1 hdg)
end PVL
set_option maxRecDepth 100000 in
set_option maxHeartbeats 8000000 in
theorem w_L_law {p : Program} {l : Launch} {e : Env} {s : State} {m : MethodId} {below : List Frame} {meth : Method} {c : Code} {D : va_G} {cI cZ : ClassId} {ad : Nat → Nat} {b L : Nat} {xs : Nat → Int32} (C : pv_C p s m #[Value.ref b] meth c cL_law 4 RL D cI cZ ad (fun q => s.heap.size ≤ q)) (hr : meth.sig.returnType = ret) (hX : va_X b L xs s s.heap) (hbl : b < s.heap.size) (R0 : Int32 × pv_S) (hR1 : R0.1 = 1) : ∀ (n : Nat) (v3 : Int32) (σ : pv_S), f_L_law xs L n v3 σ = some R0 → Wx p l e room_1 s m #[Value.ref b] below meth c 28 14316 (lw_Z below #[Value.ref b] s) 4 D cI cZ ad (fun q => s.heap.size ≤ q) 18 [(0, .ref b), (1, .ref (ad 0)), (2, .ref (ad 8)), (3, .int v3)] [] σ := by
  have hbA : ¬ (fun q : Nat => s.heap.size ≤ q) b := Nat.not_le.mpr hbl
  intro n
  induction n with
  | zero =>
    intro v3 σ h
    have h2 : (none : Option (Int32 × pv_S)) = some R0 := h
    cases h2
  | succ n ih =>
    intro v3 σ h
    unfold f_L_law at h
    refine x_iload_n C dL_law_18 rfl 3 rfl ?_
    refine x_aload_n C dL_law_19 rfl 0 rfl ?_
    refine x_slen C hX hbl hbA dL_law_20 ?_
    refine x_iconst (v := 5) C dL_law_21 (by decide) ?_
    refine x_isub C dL_law_22 ?_
    refine x_icmp_gt C 802 dL_law_23 (by decide) (fun c1 => ?_) (fun c1 => ?_)
    · have h := (if_pos c1).symm.trans h
      refine x_iconst (v := 1) C dL_law_802 (by decide) ?_
      exact x_lret C hr dL_law_803
    · have h := (if_neg c1).symm.trans h
      refine x_aload_n C dL_law_26 rfl 0 rfl ?_
      refine x_iload_n C dL_law_27 rfl 3 rfl ?_
      obtain ⟨g2, h⟩ := gd_some h
      refine x_sld C hX hbl hbA g2 dL_law_28 ?_
      refine x_bipush (v := 31) C dL_law_29 (by decide) ?_
      refine x_iand C dL_law_31 ?_
      by_cases c3 : ((xs v3.toNatClampNeg) &&& 31) = 0
      · have h := (if_pos c3).symm.trans h
        refine x_tableIn (off := 112) C 144 dL_law_32 (by rw [c3]; decide) (by rw [c3]; decide) (by rw [c3]; rfl) (by decide) ?_
        refine x_aload_n C dL_law_144 rfl 1 rfl ?_
        refine x_aload_n C dL_law_145 rfl 0 rfl ?_
        refine x_iload_n C dL_law_146 rfl 3 rfl ?_
        refine x_iconst (v := 1) C dL_law_147 (by decide) ?_
        refine x_iadd C dL_law_148 ?_
        obtain ⟨g4, h⟩ := gd_some h
        refine x_sld C hX hbl hbA g4 dL_law_149 ?_
        obtain ⟨q5, eq5, h⟩ := gb_some h
        refine x_vi (st := []) C kY_X7_told 0 7 rfl rfl rfl (m_X7_told l D cI cZ ad C.2.2.2.2.2.2.1 (xs ((v3 + 1)).toNatClampNeg) σ q5 eq5) kl_L_13 ⟨rfl, rfl⟩ ⟨Nat.le_of_ble_eq_true rfl, Nat.le_of_ble_eq_true rfl⟩ ⟨Nat.le_of_ble_eq_true rfl, Nat.le_of_ble_eq_true rfl⟩ rfl rfl (Nat.le_of_ble_eq_true rfl) dL_law_150 ?_
        refine x_aload_n C dL_law_153 rfl 2 rfl ?_
        refine x_aload_n C dL_law_154 rfl 0 rfl ?_
        refine x_iload_n C dL_law_155 rfl 3 rfl ?_
        refine x_iconst (v := 1) C dL_law_156 (by decide) ?_
        refine x_iadd C dL_law_157 ?_
        obtain ⟨g6, h⟩ := gd_some h
        refine x_sld C hX hbl hbA g6 dL_law_158 ?_
        obtain ⟨q7, eq7, h⟩ := gb_some h
        refine x_vi (st := [.int q5.1]) C kY_X8_told 8 8 rfl rfl rfl (m_X8_told l D cI cZ ad C.2.2.2.2.2.2.1 (xs ((v3 + 1)).toNatClampNeg) q5.2 q7 eq7) kl_L_17 ⟨rfl, rfl⟩ ⟨Nat.le_of_ble_eq_true rfl, Nat.le_of_ble_eq_true rfl⟩ ⟨Nat.le_of_ble_eq_true rfl, Nat.le_of_ble_eq_true rfl⟩ rfl rfl (Nat.le_of_ble_eq_true rfl) dL_law_159 ?_
        refine x_icmp_eq C 796 dL_law_162 (by decide) (fun c8 => ?_) (fun c8 => ?_)
        · have h := (if_pos c8).symm.trans h
          refine x_iinc (v := (v3 + 5)) (lv' := [(3, .int (v3 + 5)), (0, .ref b), (1, .ref (ad 0)), (2, .ref (ad 8))]) C 3 dL_law_796 rfl rfl (by decide) rfl ?_
          refine x_goto C 18 dL_law_799 (by decide) ?_
          refine x_sub [1, 2, 3, 0] rfl ?_
          exact ih (v3 + 5) q7.2 h
        · have h := (if_neg c8).symm.trans h
          refine x_iconst (v := 0) C dL_law_165 (by decide) ?_
          have h9 := Option.some.inj h
          rw [← h9] at hR1
          exact absurd (show (0 : Int32) = 1 from hR1) (by decide)
      have h := (if_neg c3).symm.trans h
      by_cases c9 : ((xs v3.toNatClampNeg) &&& 31) = 1
      · have h := (if_pos c9).symm.trans h
        refine x_tableIn (off := 135) C 167 dL_law_32 (by rw [c9]; decide) (by rw [c9]; decide) (by rw [c9]; rfl) (by decide) ?_
        refine x_aload_n C dL_law_167 rfl 1 rfl ?_
        refine x_aload_n C dL_law_168 rfl 0 rfl ?_
        refine x_iload_n C dL_law_169 rfl 3 rfl ?_
        refine x_iconst (v := 1) C dL_law_170 (by decide) ?_
        refine x_iadd C dL_law_171 ?_
        obtain ⟨g10, h⟩ := gd_some h
        refine x_sld C hX hbl hbA g10 dL_law_172 ?_
        refine x_aload_n C dL_law_173 rfl 0 rfl ?_
        refine x_iload_n C dL_law_174 rfl 3 rfl ?_
        refine x_iconst (v := 2) C dL_law_175 (by decide) ?_
        refine x_iadd C dL_law_176 ?_
        obtain ⟨g11, h⟩ := gd_some h
        refine x_sld C hX hbl hbA g11 dL_law_177 ?_
        obtain ⟨q12, eq12, h⟩ := gb_some h
        refine x_vi (st := []) C kY_X7_at 0 7 rfl rfl rfl (m_X7_at l D cI cZ ad C.2.2.2.2.2.2.1 (xs ((v3 + 1)).toNatClampNeg) (xs ((v3 + 2)).toNatClampNeg) σ q12 eq12) kl_L_18 ⟨rfl, rfl⟩ ⟨Nat.le_of_ble_eq_true rfl, Nat.le_of_ble_eq_true rfl⟩ ⟨Nat.le_of_ble_eq_true rfl, Nat.le_of_ble_eq_true rfl⟩ rfl rfl (Nat.le_of_ble_eq_true rfl) dL_law_178 ?_
        refine x_aload_n C dL_law_181 rfl 2 rfl ?_
        refine x_aload_n C dL_law_182 rfl 0 rfl ?_
        refine x_iload_n C dL_law_183 rfl 3 rfl ?_
        refine x_iconst (v := 1) C dL_law_184 (by decide) ?_
        refine x_iadd C dL_law_185 ?_
        obtain ⟨g13, h⟩ := gd_some h
        refine x_sld C hX hbl hbA g13 dL_law_186 ?_
        refine x_aload_n C dL_law_187 rfl 0 rfl ?_
        refine x_iload_n C dL_law_188 rfl 3 rfl ?_
        refine x_iconst (v := 2) C dL_law_189 (by decide) ?_
        refine x_iadd C dL_law_190 ?_
        obtain ⟨g14, h⟩ := gd_some h
        refine x_sld C hX hbl hbA g14 dL_law_191 ?_
        obtain ⟨q15, eq15, h⟩ := gb_some h
        refine x_vi (st := [.int q12.1]) C kY_X8_at 8 8 rfl rfl rfl (m_X8_at l D cI cZ ad C.2.2.2.2.2.2.1 (xs ((v3 + 1)).toNatClampNeg) (xs ((v3 + 2)).toNatClampNeg) q12.2 q15 eq15) kl_L_22 ⟨rfl, rfl⟩ ⟨Nat.le_of_ble_eq_true rfl, Nat.le_of_ble_eq_true rfl⟩ ⟨Nat.le_of_ble_eq_true rfl, Nat.le_of_ble_eq_true rfl⟩ rfl rfl (Nat.le_of_ble_eq_true rfl) dL_law_192 ?_
        refine x_icmp_eq C 796 dL_law_195 (by decide) (fun c16 => ?_) (fun c16 => ?_)
        · have h := (if_pos c16).symm.trans h
          refine x_iinc (v := (v3 + 5)) (lv' := [(3, .int (v3 + 5)), (0, .ref b), (1, .ref (ad 0)), (2, .ref (ad 8))]) C 3 dL_law_796 rfl rfl (by decide) rfl ?_
          refine x_goto C 18 dL_law_799 (by decide) ?_
          refine x_sub [1, 2, 3, 0] rfl ?_
          exact ih (v3 + 5) q15.2 h
        · have h := (if_neg c16).symm.trans h
          refine x_iconst (v := 0) C dL_law_198 (by decide) ?_
          have h9 := Option.some.inj h
          rw [← h9] at hR1
          exact absurd (show (0 : Int32) = 1 from hR1) (by decide)
      have h := (if_neg c9).symm.trans h
      by_cases c17 : ((xs v3.toNatClampNeg) &&& 31) = 2
      · have h := (if_pos c17).symm.trans h
        refine x_tableIn (off := 168) C 200 dL_law_32 (by rw [c17]; decide) (by rw [c17]; decide) (by rw [c17]; rfl) (by decide) ?_
        refine x_aload_n C dL_law_200 rfl 1 rfl ?_
        refine x_aload_n C dL_law_201 rfl 0 rfl ?_
        refine x_iload_n C dL_law_202 rfl 3 rfl ?_
        refine x_iconst (v := 1) C dL_law_203 (by decide) ?_
        refine x_iadd C dL_law_204 ?_
        obtain ⟨g18, h⟩ := gd_some h
        refine x_sld C hX hbl hbA g18 dL_law_205 ?_
        refine x_aload_n C dL_law_206 rfl 0 rfl ?_
        refine x_iload_n C dL_law_207 rfl 3 rfl ?_
        refine x_iconst (v := 2) C dL_law_208 (by decide) ?_
        refine x_iadd C dL_law_209 ?_
        obtain ⟨g19, h⟩ := gd_some h
        refine x_sld C hX hbl hbA g19 dL_law_210 ?_
        obtain ⟨q20, eq20, h⟩ := gb_some h
        refine x_vi (st := []) C kY_X7_cost 0 7 rfl rfl rfl (m_X7_cost l D cI cZ ad C.2.2.2.2.2.2.1 (xs ((v3 + 1)).toNatClampNeg) (xs ((v3 + 2)).toNatClampNeg) σ q20 eq20) kl_L_23 ⟨rfl, rfl⟩ ⟨Nat.le_of_ble_eq_true rfl, Nat.le_of_ble_eq_true rfl⟩ ⟨Nat.le_of_ble_eq_true rfl, Nat.le_of_ble_eq_true rfl⟩ rfl rfl (Nat.le_of_ble_eq_true rfl) dL_law_211 ?_
        refine x_aload_n C dL_law_214 rfl 2 rfl ?_
        refine x_aload_n C dL_law_215 rfl 0 rfl ?_
        refine x_iload_n C dL_law_216 rfl 3 rfl ?_
        refine x_iconst (v := 1) C dL_law_217 (by decide) ?_
        refine x_iadd C dL_law_218 ?_
        obtain ⟨g21, h⟩ := gd_some h
        refine x_sld C hX hbl hbA g21 dL_law_219 ?_
        refine x_aload_n C dL_law_220 rfl 0 rfl ?_
        refine x_iload_n C dL_law_221 rfl 3 rfl ?_
        refine x_iconst (v := 2) C dL_law_222 (by decide) ?_
        refine x_iadd C dL_law_223 ?_
        obtain ⟨g22, h⟩ := gd_some h
        refine x_sld C hX hbl hbA g22 dL_law_224 ?_
        obtain ⟨q23, eq23, h⟩ := gb_some h
        refine x_vi (st := [.int q20.1]) C kY_X8_cost 8 8 rfl rfl rfl (m_X8_cost l D cI cZ ad C.2.2.2.2.2.2.1 (xs ((v3 + 1)).toNatClampNeg) (xs ((v3 + 2)).toNatClampNeg) q20.2 q23 eq23) kl_L_26 ⟨rfl, rfl⟩ ⟨Nat.le_of_ble_eq_true rfl, Nat.le_of_ble_eq_true rfl⟩ ⟨Nat.le_of_ble_eq_true rfl, Nat.le_of_ble_eq_true rfl⟩ rfl rfl (Nat.le_of_ble_eq_true rfl) dL_law_225 ?_
        refine x_icmp_eq C 796 dL_law_228 (by decide) (fun c24 => ?_) (fun c24 => ?_)
        · have h := (if_pos c24).symm.trans h
          refine x_iinc (v := (v3 + 5)) (lv' := [(3, .int (v3 + 5)), (0, .ref b), (1, .ref (ad 0)), (2, .ref (ad 8))]) C 3 dL_law_796 rfl rfl (by decide) rfl ?_
          refine x_goto C 18 dL_law_799 (by decide) ?_
          refine x_sub [1, 2, 3, 0] rfl ?_
          exact ih (v3 + 5) q23.2 h
        · have h := (if_neg c24).symm.trans h
          refine x_iconst (v := 0) C dL_law_231 (by decide) ?_
          have h9 := Option.some.inj h
          rw [← h9] at hR1
          exact absurd (show (0 : Int32) = 1 from hR1) (by decide)
      have h := (if_neg c17).symm.trans h
      by_cases c25 : ((xs v3.toNatClampNeg) &&& 31) = 3
      · have h := (if_pos c25).symm.trans h
        refine x_tableIn (off := 201) C 233 dL_law_32 (by rw [c25]; decide) (by rw [c25]; decide) (by rw [c25]; rfl) (by decide) ?_
        refine x_aload_n C dL_law_233 rfl 1 rfl ?_
        refine x_aload_n C dL_law_234 rfl 0 rfl ?_
        refine x_iload_n C dL_law_235 rfl 3 rfl ?_
        refine x_iconst (v := 1) C dL_law_236 (by decide) ?_
        refine x_iadd C dL_law_237 ?_
        obtain ⟨g26, h⟩ := gd_some h
        refine x_sld C hX hbl hbA g26 dL_law_238 ?_
        obtain ⟨q27, eq27, h⟩ := gb_some h
        refine x_vi (st := []) C kY_X7_least 0 7 rfl rfl rfl (m_X7_least l D cI cZ ad C.2.2.2.2.2.2.1 (xs ((v3 + 1)).toNatClampNeg) σ q27 eq27) kl_L_27 ⟨rfl, rfl⟩ ⟨Nat.le_of_ble_eq_true rfl, Nat.le_of_ble_eq_true rfl⟩ ⟨Nat.le_of_ble_eq_true rfl, Nat.le_of_ble_eq_true rfl⟩ rfl rfl (Nat.le_of_ble_eq_true rfl) dL_law_239 ?_
        refine x_aload_n C dL_law_242 rfl 2 rfl ?_
        refine x_aload_n C dL_law_243 rfl 0 rfl ?_
        refine x_iload_n C dL_law_244 rfl 3 rfl ?_
        refine x_iconst (v := 1) C dL_law_245 (by decide) ?_
        refine x_iadd C dL_law_246 ?_
        obtain ⟨g28, h⟩ := gd_some h
        refine x_sld C hX hbl hbA g28 dL_law_247 ?_
        obtain ⟨q29, eq29, h⟩ := gb_some h
        refine x_vi (st := [.int q27.1]) C kY_X8_least 8 8 rfl rfl rfl (m_X8_least l D cI cZ ad C.2.2.2.2.2.2.1 (xs ((v3 + 1)).toNatClampNeg) q27.2 q29 eq29) kl_L_30 ⟨rfl, rfl⟩ ⟨Nat.le_of_ble_eq_true rfl, Nat.le_of_ble_eq_true rfl⟩ ⟨Nat.le_of_ble_eq_true rfl, Nat.le_of_ble_eq_true rfl⟩ rfl rfl (Nat.le_of_ble_eq_true rfl) dL_law_248 ?_
        refine x_icmp_eq C 796 dL_law_251 (by decide) (fun c30 => ?_) (fun c30 => ?_)
        · have h := (if_pos c30).symm.trans h
          refine x_iinc (v := (v3 + 5)) (lv' := [(3, .int (v3 + 5)), (0, .ref b), (1, .ref (ad 0)), (2, .ref (ad 8))]) C 3 dL_law_796 rfl rfl (by decide) rfl ?_
          refine x_goto C 18 dL_law_799 (by decide) ?_
          refine x_sub [1, 2, 3, 0] rfl ?_
          exact ih (v3 + 5) q29.2 h
        · have h := (if_neg c30).symm.trans h
          refine x_iconst (v := 0) C dL_law_254 (by decide) ?_
          have h9 := Option.some.inj h
          rw [← h9] at hR1
          exact absurd (show (0 : Int32) = 1 from hR1) (by decide)
      have h := (if_neg c25).symm.trans h
      by_cases c31 : ((xs v3.toNatClampNeg) &&& 31) = 4
      · have h := (if_pos c31).symm.trans h
        refine x_tableIn (off := 224) C 256 dL_law_32 (by rw [c31]; decide) (by rw [c31]; decide) (by rw [c31]; rfl) (by decide) ?_
        refine x_aload_n C dL_law_256 rfl 1 rfl ?_
        refine x_aload_n C dL_law_257 rfl 0 rfl ?_
        refine x_iload_n C dL_law_258 rfl 3 rfl ?_
        refine x_iconst (v := 1) C dL_law_259 (by decide) ?_
        refine x_iadd C dL_law_260 ?_
        obtain ⟨g32, h⟩ := gd_some h
        refine x_sld C hX hbl hbA g32 dL_law_261 ?_
        refine x_aload_n C dL_law_262 rfl 0 rfl ?_
        refine x_iload_n C dL_law_263 rfl 3 rfl ?_
        refine x_iconst (v := 2) C dL_law_264 (by decide) ?_
        refine x_iadd C dL_law_265 ?_
        obtain ⟨g33, h⟩ := gd_some h
        refine x_sld C hX hbl hbA g33 dL_law_266 ?_
        obtain ⟨q34, eq34, h⟩ := gb_some h
        refine x_vi (st := []) C kY_X7_first 0 7 rfl rfl rfl (m_X7_first l D cI cZ ad C.2.2.2.2.2.2.1 (xs ((v3 + 1)).toNatClampNeg) (xs ((v3 + 2)).toNatClampNeg) σ q34 eq34) kl_L_31 ⟨rfl, rfl⟩ ⟨Nat.le_of_ble_eq_true rfl, Nat.le_of_ble_eq_true rfl⟩ ⟨Nat.le_of_ble_eq_true rfl, Nat.le_of_ble_eq_true rfl⟩ rfl rfl (Nat.le_of_ble_eq_true rfl) dL_law_267 ?_
        refine x_aload_n C dL_law_270 rfl 2 rfl ?_
        refine x_aload_n C dL_law_271 rfl 0 rfl ?_
        refine x_iload_n C dL_law_272 rfl 3 rfl ?_
        refine x_iconst (v := 1) C dL_law_273 (by decide) ?_
        refine x_iadd C dL_law_274 ?_
        obtain ⟨g35, h⟩ := gd_some h
        refine x_sld C hX hbl hbA g35 dL_law_275 ?_
        refine x_aload_n C dL_law_276 rfl 0 rfl ?_
        refine x_iload_n C dL_law_277 rfl 3 rfl ?_
        refine x_iconst (v := 2) C dL_law_278 (by decide) ?_
        refine x_iadd C dL_law_279 ?_
        obtain ⟨g36, h⟩ := gd_some h
        refine x_sld C hX hbl hbA g36 dL_law_280 ?_
        obtain ⟨q37, eq37, h⟩ := gb_some h
        refine x_vi (st := [.int q34.1]) C kY_X8_first 8 8 rfl rfl rfl (m_X8_first l D cI cZ ad C.2.2.2.2.2.2.1 (xs ((v3 + 1)).toNatClampNeg) (xs ((v3 + 2)).toNatClampNeg) q34.2 q37 eq37) kl_L_34 ⟨rfl, rfl⟩ ⟨Nat.le_of_ble_eq_true rfl, Nat.le_of_ble_eq_true rfl⟩ ⟨Nat.le_of_ble_eq_true rfl, Nat.le_of_ble_eq_true rfl⟩ rfl rfl (Nat.le_of_ble_eq_true rfl) dL_law_281 ?_
        refine x_icmp_eq C 796 dL_law_284 (by decide) (fun c38 => ?_) (fun c38 => ?_)
        · have h := (if_pos c38).symm.trans h
          refine x_iinc (v := (v3 + 5)) (lv' := [(3, .int (v3 + 5)), (0, .ref b), (1, .ref (ad 0)), (2, .ref (ad 8))]) C 3 dL_law_796 rfl rfl (by decide) rfl ?_
          refine x_goto C 18 dL_law_799 (by decide) ?_
          refine x_sub [1, 2, 3, 0] rfl ?_
          exact ih (v3 + 5) q37.2 h
        · have h := (if_neg c38).symm.trans h
          refine x_iconst (v := 0) C dL_law_287 (by decide) ?_
          have h9 := Option.some.inj h
          rw [← h9] at hR1
          exact absurd (show (0 : Int32) = 1 from hR1) (by decide)
      have h := (if_neg c31).symm.trans h
      by_cases c39 : ((xs v3.toNatClampNeg) &&& 31) = 5
      · have h := (if_pos c39).symm.trans h
        refine x_tableIn (off := 257) C 289 dL_law_32 (by rw [c39]; decide) (by rw [c39]; decide) (by rw [c39]; rfl) (by decide) ?_
        refine x_aload_n C dL_law_289 rfl 1 rfl ?_
        refine x_aload_n C dL_law_290 rfl 0 rfl ?_
        refine x_iload_n C dL_law_291 rfl 3 rfl ?_
        refine x_iconst (v := 1) C dL_law_292 (by decide) ?_
        refine x_iadd C dL_law_293 ?_
        obtain ⟨g40, h⟩ := gd_some h
        refine x_sld C hX hbl hbA g40 dL_law_294 ?_
        refine x_aload_n C dL_law_295 rfl 0 rfl ?_
        refine x_iload_n C dL_law_296 rfl 3 rfl ?_
        refine x_iconst (v := 2) C dL_law_297 (by decide) ?_
        refine x_iadd C dL_law_298 ?_
        obtain ⟨g41, h⟩ := gd_some h
        refine x_sld C hX hbl hbA g41 dL_law_299 ?_
        obtain ⟨q42, eq42, h⟩ := gb_some h
        refine x_vi (st := []) C kY_X7_voice 0 7 rfl rfl rfl (m_X7_voice l D cI cZ ad C.2.2.2.2.2.2.1 (xs ((v3 + 1)).toNatClampNeg) (xs ((v3 + 2)).toNatClampNeg) σ q42 eq42) kl_L_35 ⟨rfl, rfl⟩ ⟨Nat.le_of_ble_eq_true rfl, Nat.le_of_ble_eq_true rfl⟩ ⟨Nat.le_of_ble_eq_true rfl, Nat.le_of_ble_eq_true rfl⟩ rfl rfl (Nat.le_of_ble_eq_true rfl) dL_law_300 ?_
        refine x_aload_n C dL_law_303 rfl 2 rfl ?_
        refine x_aload_n C dL_law_304 rfl 0 rfl ?_
        refine x_iload_n C dL_law_305 rfl 3 rfl ?_
        refine x_iconst (v := 1) C dL_law_306 (by decide) ?_
        refine x_iadd C dL_law_307 ?_
        obtain ⟨g43, h⟩ := gd_some h
        refine x_sld C hX hbl hbA g43 dL_law_308 ?_
        refine x_aload_n C dL_law_309 rfl 0 rfl ?_
        refine x_iload_n C dL_law_310 rfl 3 rfl ?_
        refine x_iconst (v := 2) C dL_law_311 (by decide) ?_
        refine x_iadd C dL_law_312 ?_
        obtain ⟨g44, h⟩ := gd_some h
        refine x_sld C hX hbl hbA g44 dL_law_313 ?_
        obtain ⟨q45, eq45, h⟩ := gb_some h
        refine x_vi (st := [.int q42.1]) C kY_X8_voice 8 8 rfl rfl rfl (m_X8_voice l D cI cZ ad C.2.2.2.2.2.2.1 (xs ((v3 + 1)).toNatClampNeg) (xs ((v3 + 2)).toNatClampNeg) q42.2 q45 eq45) kl_L_38 ⟨rfl, rfl⟩ ⟨Nat.le_of_ble_eq_true rfl, Nat.le_of_ble_eq_true rfl⟩ ⟨Nat.le_of_ble_eq_true rfl, Nat.le_of_ble_eq_true rfl⟩ rfl rfl (Nat.le_of_ble_eq_true rfl) dL_law_314 ?_
        refine x_icmp_eq C 796 dL_law_317 (by decide) (fun c46 => ?_) (fun c46 => ?_)
        · have h := (if_pos c46).symm.trans h
          refine x_iinc (v := (v3 + 5)) (lv' := [(3, .int (v3 + 5)), (0, .ref b), (1, .ref (ad 0)), (2, .ref (ad 8))]) C 3 dL_law_796 rfl rfl (by decide) rfl ?_
          refine x_goto C 18 dL_law_799 (by decide) ?_
          refine x_sub [1, 2, 3, 0] rfl ?_
          exact ih (v3 + 5) q45.2 h
        · have h := (if_neg c46).symm.trans h
          refine x_iconst (v := 0) C dL_law_320 (by decide) ?_
          have h9 := Option.some.inj h
          rw [← h9] at hR1
          exact absurd (show (0 : Int32) = 1 from hR1) (by decide)
      have h := (if_neg c39).symm.trans h
      by_cases c47 : ((xs v3.toNatClampNeg) &&& 31) = 6
      · have h := (if_pos c47).symm.trans h
        refine x_tableIn (off := 290) C 322 dL_law_32 (by rw [c47]; decide) (by rw [c47]; decide) (by rw [c47]; rfl) (by decide) ?_
        refine x_aload_n C dL_law_322 rfl 1 rfl ?_
        refine x_aload_n C dL_law_323 rfl 0 rfl ?_
        refine x_iload_n C dL_law_324 rfl 3 rfl ?_
        refine x_iconst (v := 1) C dL_law_325 (by decide) ?_
        refine x_iadd C dL_law_326 ?_
        obtain ⟨g48, h⟩ := gd_some h
        refine x_sld C hX hbl hbA g48 dL_law_327 ?_
        refine x_aload_n C dL_law_328 rfl 0 rfl ?_
        refine x_iload_n C dL_law_329 rfl 3 rfl ?_
        refine x_iconst (v := 2) C dL_law_330 (by decide) ?_
        refine x_iadd C dL_law_331 ?_
        obtain ⟨g49, h⟩ := gd_some h
        refine x_sld C hX hbl hbA g49 dL_law_332 ?_
        obtain ⟨q50, eq50, h⟩ := gb_some h
        refine x_vi (st := []) C kY_X7_member 0 7 rfl rfl rfl (m_X7_member l D cI cZ ad C.2.2.2.2.2.2.1 (xs ((v3 + 1)).toNatClampNeg) (xs ((v3 + 2)).toNatClampNeg) σ q50 eq50) kl_L_39 ⟨rfl, rfl⟩ ⟨Nat.le_of_ble_eq_true rfl, Nat.le_of_ble_eq_true rfl⟩ ⟨Nat.le_of_ble_eq_true rfl, Nat.le_of_ble_eq_true rfl⟩ rfl rfl (Nat.le_of_ble_eq_true rfl) dL_law_333 ?_
        refine x_aload_n C dL_law_336 rfl 2 rfl ?_
        refine x_aload_n C dL_law_337 rfl 0 rfl ?_
        refine x_iload_n C dL_law_338 rfl 3 rfl ?_
        refine x_iconst (v := 1) C dL_law_339 (by decide) ?_
        refine x_iadd C dL_law_340 ?_
        obtain ⟨g51, h⟩ := gd_some h
        refine x_sld C hX hbl hbA g51 dL_law_341 ?_
        refine x_aload_n C dL_law_342 rfl 0 rfl ?_
        refine x_iload_n C dL_law_343 rfl 3 rfl ?_
        refine x_iconst (v := 2) C dL_law_344 (by decide) ?_
        refine x_iadd C dL_law_345 ?_
        obtain ⟨g52, h⟩ := gd_some h
        refine x_sld C hX hbl hbA g52 dL_law_346 ?_
        obtain ⟨q53, eq53, h⟩ := gb_some h
        refine x_vi (st := [.int q50.1]) C kY_X8_member 8 8 rfl rfl rfl (m_X8_member l D cI cZ ad C.2.2.2.2.2.2.1 (xs ((v3 + 1)).toNatClampNeg) (xs ((v3 + 2)).toNatClampNeg) q50.2 q53 eq53) kl_L_42 ⟨rfl, rfl⟩ ⟨Nat.le_of_ble_eq_true rfl, Nat.le_of_ble_eq_true rfl⟩ ⟨Nat.le_of_ble_eq_true rfl, Nat.le_of_ble_eq_true rfl⟩ rfl rfl (Nat.le_of_ble_eq_true rfl) dL_law_347 ?_
        refine x_icmp_eq C 796 dL_law_350 (by decide) (fun c54 => ?_) (fun c54 => ?_)
        · have h := (if_pos c54).symm.trans h
          refine x_iinc (v := (v3 + 5)) (lv' := [(3, .int (v3 + 5)), (0, .ref b), (1, .ref (ad 0)), (2, .ref (ad 8))]) C 3 dL_law_796 rfl rfl (by decide) rfl ?_
          refine x_goto C 18 dL_law_799 (by decide) ?_
          refine x_sub [1, 2, 3, 0] rfl ?_
          exact ih (v3 + 5) q53.2 h
        · have h := (if_neg c54).symm.trans h
          refine x_iconst (v := 0) C dL_law_353 (by decide) ?_
          have h9 := Option.some.inj h
          rw [← h9] at hR1
          exact absurd (show (0 : Int32) = 1 from hR1) (by decide)
      have h := (if_neg c47).symm.trans h
      by_cases c55 : ((xs v3.toNatClampNeg) &&& 31) = 7
      · have h := (if_pos c55).symm.trans h
        refine x_tableIn (off := 323) C 355 dL_law_32 (by rw [c55]; decide) (by rw [c55]; decide) (by rw [c55]; rfl) (by decide) ?_
        refine x_aload_n C dL_law_355 rfl 1 rfl ?_
        refine x_aload_n C dL_law_356 rfl 0 rfl ?_
        refine x_iload_n C dL_law_357 rfl 3 rfl ?_
        refine x_iconst (v := 1) C dL_law_358 (by decide) ?_
        refine x_iadd C dL_law_359 ?_
        obtain ⟨g56, h⟩ := gd_some h
        refine x_sld C hX hbl hbA g56 dL_law_360 ?_
        refine x_aload_n C dL_law_361 rfl 0 rfl ?_
        refine x_iload_n C dL_law_362 rfl 3 rfl ?_
        refine x_iconst (v := 2) C dL_law_363 (by decide) ?_
        refine x_iadd C dL_law_364 ?_
        obtain ⟨g57, h⟩ := gd_some h
        refine x_sld C hX hbl hbA g57 dL_law_365 ?_
        refine x_aload_n C dL_law_366 rfl 0 rfl ?_
        refine x_iload_n C dL_law_367 rfl 3 rfl ?_
        refine x_iconst (v := 3) C dL_law_368 (by decide) ?_
        refine x_iadd C dL_law_369 ?_
        obtain ⟨g58, h⟩ := gd_some h
        refine x_sld C hX hbl hbA g58 dL_law_370 ?_
        obtain ⟨q59, eq59, h⟩ := gb_some h
        refine x_vi (st := []) C kY_X7_note 0 7 rfl rfl rfl (m_X7_note l D cI cZ ad C.2.2.2.2.2.2.1 (xs ((v3 + 1)).toNatClampNeg) (xs ((v3 + 2)).toNatClampNeg) (xs ((v3 + 3)).toNatClampNeg) σ q59 eq59) kl_L_43 ⟨rfl, rfl⟩ ⟨Nat.le_of_ble_eq_true rfl, Nat.le_of_ble_eq_true rfl⟩ ⟨Nat.le_of_ble_eq_true rfl, Nat.le_of_ble_eq_true rfl⟩ rfl rfl (Nat.le_of_ble_eq_true rfl) dL_law_371 ?_
        refine x_aload_n C dL_law_374 rfl 2 rfl ?_
        refine x_aload_n C dL_law_375 rfl 0 rfl ?_
        refine x_iload_n C dL_law_376 rfl 3 rfl ?_
        refine x_iconst (v := 1) C dL_law_377 (by decide) ?_
        refine x_iadd C dL_law_378 ?_
        obtain ⟨g60, h⟩ := gd_some h
        refine x_sld C hX hbl hbA g60 dL_law_379 ?_
        refine x_aload_n C dL_law_380 rfl 0 rfl ?_
        refine x_iload_n C dL_law_381 rfl 3 rfl ?_
        refine x_iconst (v := 2) C dL_law_382 (by decide) ?_
        refine x_iadd C dL_law_383 ?_
        obtain ⟨g61, h⟩ := gd_some h
        refine x_sld C hX hbl hbA g61 dL_law_384 ?_
        refine x_aload_n C dL_law_385 rfl 0 rfl ?_
        refine x_iload_n C dL_law_386 rfl 3 rfl ?_
        refine x_iconst (v := 3) C dL_law_387 (by decide) ?_
        refine x_iadd C dL_law_388 ?_
        obtain ⟨g62, h⟩ := gd_some h
        refine x_sld C hX hbl hbA g62 dL_law_389 ?_
        obtain ⟨q63, eq63, h⟩ := gb_some h
        refine x_vi (st := [.int q59.1]) C kY_X8_note 8 8 rfl rfl rfl (m_X8_note l D cI cZ ad C.2.2.2.2.2.2.1 (xs ((v3 + 1)).toNatClampNeg) (xs ((v3 + 2)).toNatClampNeg) (xs ((v3 + 3)).toNatClampNeg) q59.2 q63 eq63) kl_L_47 ⟨rfl, rfl⟩ ⟨Nat.le_of_ble_eq_true rfl, Nat.le_of_ble_eq_true rfl⟩ ⟨Nat.le_of_ble_eq_true rfl, Nat.le_of_ble_eq_true rfl⟩ rfl rfl (Nat.le_of_ble_eq_true rfl) dL_law_390 ?_
        refine x_icmp_eq C 796 dL_law_393 (by decide) (fun c64 => ?_) (fun c64 => ?_)
        · have h := (if_pos c64).symm.trans h
          refine x_iinc (v := (v3 + 5)) (lv' := [(3, .int (v3 + 5)), (0, .ref b), (1, .ref (ad 0)), (2, .ref (ad 8))]) C 3 dL_law_796 rfl rfl (by decide) rfl ?_
          refine x_goto C 18 dL_law_799 (by decide) ?_
          refine x_sub [1, 2, 3, 0] rfl ?_
          exact ih (v3 + 5) q63.2 h
        · have h := (if_neg c64).symm.trans h
          refine x_iconst (v := 0) C dL_law_396 (by decide) ?_
          have h9 := Option.some.inj h
          rw [← h9] at hR1
          exact absurd (show (0 : Int32) = 1 from hR1) (by decide)
      have h := (if_neg c55).symm.trans h
      by_cases c65 : ((xs v3.toNatClampNeg) &&& 31) = 8
      · have h := (if_pos c65).symm.trans h
        refine x_tableIn (off := 366) C 398 dL_law_32 (by rw [c65]; decide) (by rw [c65]; decide) (by rw [c65]; rfl) (by decide) ?_
        refine x_aload_n C dL_law_398 rfl 1 rfl ?_
        refine x_aload_n C dL_law_399 rfl 0 rfl ?_
        refine x_iload_n C dL_law_400 rfl 3 rfl ?_
        refine x_iconst (v := 1) C dL_law_401 (by decide) ?_
        refine x_iadd C dL_law_402 ?_
        obtain ⟨g66, h⟩ := gd_some h
        refine x_sld C hX hbl hbA g66 dL_law_403 ?_
        obtain ⟨q67, eq67, h⟩ := gb_some h
        refine x_vi (st := []) C kY_X7_take 0 7 rfl rfl rfl (m_X7_take l D cI cZ ad C.2.2.2.2.2.2.1 (xs ((v3 + 1)).toNatClampNeg) σ q67 eq67) kl_L_48 ⟨rfl, rfl⟩ ⟨Nat.le_of_ble_eq_true rfl, Nat.le_of_ble_eq_true rfl⟩ ⟨Nat.le_of_ble_eq_true rfl, Nat.le_of_ble_eq_true rfl⟩ rfl rfl (Nat.le_of_ble_eq_true rfl) dL_law_404 ?_
        refine x_aload_n C dL_law_407 rfl 2 rfl ?_
        refine x_aload_n C dL_law_408 rfl 0 rfl ?_
        refine x_iload_n C dL_law_409 rfl 3 rfl ?_
        refine x_iconst (v := 1) C dL_law_410 (by decide) ?_
        refine x_iadd C dL_law_411 ?_
        obtain ⟨g68, h⟩ := gd_some h
        refine x_sld C hX hbl hbA g68 dL_law_412 ?_
        obtain ⟨q69, eq69, h⟩ := gb_some h
        refine x_vi (st := [.int q67.1]) C kY_X8_take 8 8 rfl rfl rfl (m_X8_take l D cI cZ ad C.2.2.2.2.2.2.1 (xs ((v3 + 1)).toNatClampNeg) q67.2 q69 eq69) kl_L_51 ⟨rfl, rfl⟩ ⟨Nat.le_of_ble_eq_true rfl, Nat.le_of_ble_eq_true rfl⟩ ⟨Nat.le_of_ble_eq_true rfl, Nat.le_of_ble_eq_true rfl⟩ rfl rfl (Nat.le_of_ble_eq_true rfl) dL_law_413 ?_
        refine x_icmp_eq C 796 dL_law_416 (by decide) (fun c70 => ?_) (fun c70 => ?_)
        · have h := (if_pos c70).symm.trans h
          refine x_iinc (v := (v3 + 5)) (lv' := [(3, .int (v3 + 5)), (0, .ref b), (1, .ref (ad 0)), (2, .ref (ad 8))]) C 3 dL_law_796 rfl rfl (by decide) rfl ?_
          refine x_goto C 18 dL_law_799 (by decide) ?_
          refine x_sub [1, 2, 3, 0] rfl ?_
          exact ih (v3 + 5) q69.2 h
        · have h := (if_neg c70).symm.trans h
          refine x_iconst (v := 0) C dL_law_419 (by decide) ?_
          have h9 := Option.some.inj h
          rw [← h9] at hR1
          exact absurd (show (0 : Int32) = 1 from hR1) (by decide)
      have h := (if_neg c65).symm.trans h
      by_cases c71 : ((xs v3.toNatClampNeg) &&& 31) = 9
      · have h := (if_pos c71).symm.trans h
        refine x_tableIn (off := 389) C 421 dL_law_32 (by rw [c71]; decide) (by rw [c71]; decide) (by rw [c71]; rfl) (by decide) ?_
        refine x_aload_n C dL_law_421 rfl 1 rfl ?_
        refine x_aload_n C dL_law_422 rfl 0 rfl ?_
        refine x_iload_n C dL_law_423 rfl 3 rfl ?_
        refine x_iconst (v := 1) C dL_law_424 (by decide) ?_
        refine x_iadd C dL_law_425 ?_
        obtain ⟨g72, h⟩ := gd_some h
        refine x_sld C hX hbl hbA g72 dL_law_426 ?_
        refine x_aload_n C dL_law_427 rfl 0 rfl ?_
        refine x_iload_n C dL_law_428 rfl 3 rfl ?_
        refine x_iconst (v := 2) C dL_law_429 (by decide) ?_
        refine x_iadd C dL_law_430 ?_
        obtain ⟨g73, h⟩ := gd_some h
        refine x_sld C hX hbl hbA g73 dL_law_431 ?_
        refine x_aload_n C dL_law_432 rfl 0 rfl ?_
        refine x_iload_n C dL_law_433 rfl 3 rfl ?_
        refine x_iconst (v := 3) C dL_law_434 (by decide) ?_
        refine x_iadd C dL_law_435 ?_
        obtain ⟨g74, h⟩ := gd_some h
        refine x_sld C hX hbl hbA g74 dL_law_436 ?_
        refine x_aload_n C dL_law_437 rfl 0 rfl ?_
        refine x_iload_n C dL_law_438 rfl 3 rfl ?_
        refine x_iconst (v := 4) C dL_law_439 (by decide) ?_
        refine x_iadd C dL_law_440 ?_
        obtain ⟨g75, h⟩ := gd_some h
        refine x_sld C hX hbl hbA g75 dL_law_441 ?_
        obtain ⟨q76, eq76, h⟩ := gb_some h
        refine x_vi (st := []) C kY_X7_move 0 7 rfl rfl rfl (m_X7_move l D cI cZ ad C.2.2.2.2.2.2.1 (xs ((v3 + 1)).toNatClampNeg) (xs ((v3 + 2)).toNatClampNeg) (xs ((v3 + 3)).toNatClampNeg) (xs ((v3 + 4)).toNatClampNeg) σ q76 eq76) kl_L_52 ⟨rfl, rfl⟩ ⟨Nat.le_of_ble_eq_true rfl, Nat.le_of_ble_eq_true rfl⟩ ⟨Nat.le_of_ble_eq_true rfl, Nat.le_of_ble_eq_true rfl⟩ rfl rfl (Nat.le_of_ble_eq_true rfl) dL_law_442 ?_
        refine x_aload_n C dL_law_445 rfl 2 rfl ?_
        refine x_aload_n C dL_law_446 rfl 0 rfl ?_
        refine x_iload_n C dL_law_447 rfl 3 rfl ?_
        refine x_iconst (v := 1) C dL_law_448 (by decide) ?_
        refine x_iadd C dL_law_449 ?_
        obtain ⟨g77, h⟩ := gd_some h
        refine x_sld C hX hbl hbA g77 dL_law_450 ?_
        refine x_aload_n C dL_law_451 rfl 0 rfl ?_
        refine x_iload_n C dL_law_452 rfl 3 rfl ?_
        refine x_iconst (v := 2) C dL_law_453 (by decide) ?_
        refine x_iadd C dL_law_454 ?_
        obtain ⟨g78, h⟩ := gd_some h
        refine x_sld C hX hbl hbA g78 dL_law_455 ?_
        refine x_aload_n C dL_law_456 rfl 0 rfl ?_
        refine x_iload_n C dL_law_457 rfl 3 rfl ?_
        refine x_iconst (v := 3) C dL_law_458 (by decide) ?_
        refine x_iadd C dL_law_459 ?_
        obtain ⟨g79, h⟩ := gd_some h
        refine x_sld C hX hbl hbA g79 dL_law_460 ?_
        refine x_aload_n C dL_law_461 rfl 0 rfl ?_
        refine x_iload_n C dL_law_462 rfl 3 rfl ?_
        refine x_iconst (v := 4) C dL_law_463 (by decide) ?_
        refine x_iadd C dL_law_464 ?_
        obtain ⟨g80, h⟩ := gd_some h
        refine x_sld C hX hbl hbA g80 dL_law_465 ?_
        obtain ⟨q81, eq81, h⟩ := gb_some h
        refine x_vi (st := [.int q76.1]) C kY_X8_move 8 8 rfl rfl rfl (m_X8_move l D cI cZ ad C.2.2.2.2.2.2.1 (xs ((v3 + 1)).toNatClampNeg) (xs ((v3 + 2)).toNatClampNeg) (xs ((v3 + 3)).toNatClampNeg) (xs ((v3 + 4)).toNatClampNeg) q76.2 q81 eq81) kl_L_56 ⟨rfl, rfl⟩ ⟨Nat.le_of_ble_eq_true rfl, Nat.le_of_ble_eq_true rfl⟩ ⟨Nat.le_of_ble_eq_true rfl, Nat.le_of_ble_eq_true rfl⟩ rfl rfl (Nat.le_of_ble_eq_true rfl) dL_law_466 ?_
        refine x_icmp_eq C 796 dL_law_469 (by decide) (fun c82 => ?_) (fun c82 => ?_)
        · have h := (if_pos c82).symm.trans h
          refine x_iinc (v := (v3 + 5)) (lv' := [(3, .int (v3 + 5)), (0, .ref b), (1, .ref (ad 0)), (2, .ref (ad 8))]) C 3 dL_law_796 rfl rfl (by decide) rfl ?_
          refine x_goto C 18 dL_law_799 (by decide) ?_
          refine x_sub [1, 2, 3, 0] rfl ?_
          exact ih (v3 + 5) q81.2 h
        · have h := (if_neg c82).symm.trans h
          refine x_iconst (v := 0) C dL_law_472 (by decide) ?_
          have h9 := Option.some.inj h
          rw [← h9] at hR1
          exact absurd (show (0 : Int32) = 1 from hR1) (by decide)
      have h := (if_neg c71).symm.trans h
      by_cases c83 : ((xs v3.toNatClampNeg) &&& 31) = 10
      · have h := (if_pos c83).symm.trans h
        refine x_tableIn (off := 442) C 474 dL_law_32 (by rw [c83]; decide) (by rw [c83]; decide) (by rw [c83]; rfl) (by decide) ?_
        refine x_aload_n C dL_law_474 rfl 1 rfl ?_
        refine x_aload_n C dL_law_475 rfl 0 rfl ?_
        refine x_iload_n C dL_law_476 rfl 3 rfl ?_
        refine x_iconst (v := 1) C dL_law_477 (by decide) ?_
        refine x_iadd C dL_law_478 ?_
        obtain ⟨g84, h⟩ := gd_some h
        refine x_sld C hX hbl hbA g84 dL_law_479 ?_
        obtain ⟨q85, eq85, h⟩ := gb_some h
        refine x_vi (st := []) C kY_X7_share 0 7 rfl rfl rfl (m_X7_share l D cI cZ ad C.2.2.2.2.2.2.1 (xs ((v3 + 1)).toNatClampNeg) σ q85 eq85) kl_L_57 ⟨rfl, rfl⟩ ⟨Nat.le_of_ble_eq_true rfl, Nat.le_of_ble_eq_true rfl⟩ ⟨Nat.le_of_ble_eq_true rfl, Nat.le_of_ble_eq_true rfl⟩ rfl rfl (Nat.le_of_ble_eq_true rfl) dL_law_480 ?_
        refine x_aload_n C dL_law_483 rfl 2 rfl ?_
        refine x_aload_n C dL_law_484 rfl 0 rfl ?_
        refine x_iload_n C dL_law_485 rfl 3 rfl ?_
        refine x_iconst (v := 1) C dL_law_486 (by decide) ?_
        refine x_iadd C dL_law_487 ?_
        obtain ⟨g86, h⟩ := gd_some h
        refine x_sld C hX hbl hbA g86 dL_law_488 ?_
        obtain ⟨q87, eq87, h⟩ := gb_some h
        refine x_vi (st := [.int q85.1]) C kY_X8_share 8 8 rfl rfl rfl (m_X8_share l D cI cZ ad C.2.2.2.2.2.2.1 (xs ((v3 + 1)).toNatClampNeg) q85.2 q87 eq87) kl_L_60 ⟨rfl, rfl⟩ ⟨Nat.le_of_ble_eq_true rfl, Nat.le_of_ble_eq_true rfl⟩ ⟨Nat.le_of_ble_eq_true rfl, Nat.le_of_ble_eq_true rfl⟩ rfl rfl (Nat.le_of_ble_eq_true rfl) dL_law_489 ?_
        refine x_icmp_eq C 796 dL_law_492 (by decide) (fun c88 => ?_) (fun c88 => ?_)
        · have h := (if_pos c88).symm.trans h
          refine x_iinc (v := (v3 + 5)) (lv' := [(3, .int (v3 + 5)), (0, .ref b), (1, .ref (ad 0)), (2, .ref (ad 8))]) C 3 dL_law_796 rfl rfl (by decide) rfl ?_
          refine x_goto C 18 dL_law_799 (by decide) ?_
          refine x_sub [1, 2, 3, 0] rfl ?_
          exact ih (v3 + 5) q87.2 h
        · have h := (if_neg c88).symm.trans h
          refine x_iconst (v := 0) C dL_law_495 (by decide) ?_
          have h9 := Option.some.inj h
          rw [← h9] at hR1
          exact absurd (show (0 : Int32) = 1 from hR1) (by decide)
      have h := (if_neg c83).symm.trans h
      by_cases c89 : ((xs v3.toNatClampNeg) &&& 31) = 11
      · have h := (if_pos c89).symm.trans h
        refine x_tableIn (off := 465) C 497 dL_law_32 (by rw [c89]; decide) (by rw [c89]; decide) (by rw [c89]; rfl) (by decide) ?_
        refine x_aload_n C dL_law_497 rfl 1 rfl ?_
        refine x_aload_n C dL_law_498 rfl 0 rfl ?_
        refine x_iload_n C dL_law_499 rfl 3 rfl ?_
        refine x_iconst (v := 1) C dL_law_500 (by decide) ?_
        refine x_iadd C dL_law_501 ?_
        obtain ⟨g90, h⟩ := gd_some h
        refine x_sld C hX hbl hbA g90 dL_law_502 ?_
        refine x_aload_n C dL_law_503 rfl 0 rfl ?_
        refine x_iload_n C dL_law_504 rfl 3 rfl ?_
        refine x_iconst (v := 2) C dL_law_505 (by decide) ?_
        refine x_iadd C dL_law_506 ?_
        obtain ⟨g91, h⟩ := gd_some h
        refine x_sld C hX hbl hbA g91 dL_law_507 ?_
        obtain ⟨q92, eq92, h⟩ := gb_some h
        refine x_vi (st := []) C kY_X7_term 0 7 rfl rfl rfl (m_X7_term l D cI cZ ad C.2.2.2.2.2.2.1 (xs ((v3 + 1)).toNatClampNeg) (xs ((v3 + 2)).toNatClampNeg) σ q92 eq92) kl_L_61 ⟨rfl, rfl⟩ ⟨Nat.le_of_ble_eq_true rfl, Nat.le_of_ble_eq_true rfl⟩ ⟨Nat.le_of_ble_eq_true rfl, Nat.le_of_ble_eq_true rfl⟩ rfl rfl (Nat.le_of_ble_eq_true rfl) dL_law_508 ?_
        refine x_aload_n C dL_law_511 rfl 2 rfl ?_
        refine x_aload_n C dL_law_512 rfl 0 rfl ?_
        refine x_iload_n C dL_law_513 rfl 3 rfl ?_
        refine x_iconst (v := 1) C dL_law_514 (by decide) ?_
        refine x_iadd C dL_law_515 ?_
        obtain ⟨g93, h⟩ := gd_some h
        refine x_sld C hX hbl hbA g93 dL_law_516 ?_
        refine x_aload_n C dL_law_517 rfl 0 rfl ?_
        refine x_iload_n C dL_law_518 rfl 3 rfl ?_
        refine x_iconst (v := 2) C dL_law_519 (by decide) ?_
        refine x_iadd C dL_law_520 ?_
        obtain ⟨g94, h⟩ := gd_some h
        refine x_sld C hX hbl hbA g94 dL_law_521 ?_
        obtain ⟨q95, eq95, h⟩ := gb_some h
        refine x_vi (st := [.int q92.1]) C kY_X8_term 8 8 rfl rfl rfl (m_X8_term l D cI cZ ad C.2.2.2.2.2.2.1 (xs ((v3 + 1)).toNatClampNeg) (xs ((v3 + 2)).toNatClampNeg) q92.2 q95 eq95) kl_L_64 ⟨rfl, rfl⟩ ⟨Nat.le_of_ble_eq_true rfl, Nat.le_of_ble_eq_true rfl⟩ ⟨Nat.le_of_ble_eq_true rfl, Nat.le_of_ble_eq_true rfl⟩ rfl rfl (Nat.le_of_ble_eq_true rfl) dL_law_522 ?_
        refine x_icmp_eq C 796 dL_law_525 (by decide) (fun c96 => ?_) (fun c96 => ?_)
        · have h := (if_pos c96).symm.trans h
          refine x_iinc (v := (v3 + 5)) (lv' := [(3, .int (v3 + 5)), (0, .ref b), (1, .ref (ad 0)), (2, .ref (ad 8))]) C 3 dL_law_796 rfl rfl (by decide) rfl ?_
          refine x_goto C 18 dL_law_799 (by decide) ?_
          refine x_sub [1, 2, 3, 0] rfl ?_
          exact ih (v3 + 5) q95.2 h
        · have h := (if_neg c96).symm.trans h
          refine x_iconst (v := 0) C dL_law_528 (by decide) ?_
          have h9 := Option.some.inj h
          rw [← h9] at hR1
          exact absurd (show (0 : Int32) = 1 from hR1) (by decide)
      have h := (if_neg c89).symm.trans h
      by_cases c97 : ((xs v3.toNatClampNeg) &&& 31) = 12
      · have h := (if_pos c97).symm.trans h
        refine x_tableIn (off := 498) C 530 dL_law_32 (by rw [c97]; decide) (by rw [c97]; decide) (by rw [c97]; rfl) (by decide) ?_
        refine x_aload_n C dL_law_530 rfl 1 rfl ?_
        refine x_aload_n C dL_law_531 rfl 0 rfl ?_
        refine x_iload_n C dL_law_532 rfl 3 rfl ?_
        refine x_iconst (v := 1) C dL_law_533 (by decide) ?_
        refine x_iadd C dL_law_534 ?_
        obtain ⟨g98, h⟩ := gd_some h
        refine x_sld C hX hbl hbA g98 dL_law_535 ?_
        refine x_aload_n C dL_law_536 rfl 0 rfl ?_
        refine x_iload_n C dL_law_537 rfl 3 rfl ?_
        refine x_iconst (v := 2) C dL_law_538 (by decide) ?_
        refine x_iadd C dL_law_539 ?_
        obtain ⟨g99, h⟩ := gd_some h
        refine x_sld C hX hbl hbA g99 dL_law_540 ?_
        obtain ⟨q100, eq100, h⟩ := gb_some h
        refine x_vi (st := []) C kY_X7_follow 0 7 rfl rfl rfl (m_X7_follow l D cI cZ ad C.2.2.2.2.2.2.1 (xs ((v3 + 1)).toNatClampNeg) (xs ((v3 + 2)).toNatClampNeg) σ q100 eq100) kl_L_65 ⟨rfl, rfl⟩ ⟨Nat.le_of_ble_eq_true rfl, Nat.le_of_ble_eq_true rfl⟩ ⟨Nat.le_of_ble_eq_true rfl, Nat.le_of_ble_eq_true rfl⟩ rfl rfl (Nat.le_of_ble_eq_true rfl) dL_law_541 ?_
        refine x_aload_n C dL_law_544 rfl 2 rfl ?_
        refine x_aload_n C dL_law_545 rfl 0 rfl ?_
        refine x_iload_n C dL_law_546 rfl 3 rfl ?_
        refine x_iconst (v := 1) C dL_law_547 (by decide) ?_
        refine x_iadd C dL_law_548 ?_
        obtain ⟨g101, h⟩ := gd_some h
        refine x_sld C hX hbl hbA g101 dL_law_549 ?_
        refine x_aload_n C dL_law_550 rfl 0 rfl ?_
        refine x_iload_n C dL_law_551 rfl 3 rfl ?_
        refine x_iconst (v := 2) C dL_law_552 (by decide) ?_
        refine x_iadd C dL_law_553 ?_
        obtain ⟨g102, h⟩ := gd_some h
        refine x_sld C hX hbl hbA g102 dL_law_554 ?_
        obtain ⟨q103, eq103, h⟩ := gb_some h
        refine x_vi (st := [.int q100.1]) C kY_X8_follow 8 8 rfl rfl rfl (m_X8_follow l D cI cZ ad C.2.2.2.2.2.2.1 (xs ((v3 + 1)).toNatClampNeg) (xs ((v3 + 2)).toNatClampNeg) q100.2 q103 eq103) kl_L_68 ⟨rfl, rfl⟩ ⟨Nat.le_of_ble_eq_true rfl, Nat.le_of_ble_eq_true rfl⟩ ⟨Nat.le_of_ble_eq_true rfl, Nat.le_of_ble_eq_true rfl⟩ rfl rfl (Nat.le_of_ble_eq_true rfl) dL_law_555 ?_
        refine x_icmp_eq C 796 dL_law_558 (by decide) (fun c104 => ?_) (fun c104 => ?_)
        · have h := (if_pos c104).symm.trans h
          refine x_iinc (v := (v3 + 5)) (lv' := [(3, .int (v3 + 5)), (0, .ref b), (1, .ref (ad 0)), (2, .ref (ad 8))]) C 3 dL_law_796 rfl rfl (by decide) rfl ?_
          refine x_goto C 18 dL_law_799 (by decide) ?_
          refine x_sub [1, 2, 3, 0] rfl ?_
          exact ih (v3 + 5) q103.2 h
        · have h := (if_neg c104).symm.trans h
          refine x_iconst (v := 0) C dL_law_561 (by decide) ?_
          have h9 := Option.some.inj h
          rw [← h9] at hR1
          exact absurd (show (0 : Int32) = 1 from hR1) (by decide)
      have h := (if_neg c97).symm.trans h
      by_cases c105 : ((xs v3.toNatClampNeg) &&& 31) = 13
      · have h := (if_pos c105).symm.trans h
        refine x_tableIn (off := 531) C 563 dL_law_32 (by rw [c105]; decide) (by rw [c105]; decide) (by rw [c105]; rfl) (by decide) ?_
        refine x_aload_n C dL_law_563 rfl 1 rfl ?_
        refine x_aload_n C dL_law_564 rfl 0 rfl ?_
        refine x_iload_n C dL_law_565 rfl 3 rfl ?_
        refine x_iconst (v := 1) C dL_law_566 (by decide) ?_
        refine x_iadd C dL_law_567 ?_
        obtain ⟨g106, h⟩ := gd_some h
        refine x_sld C hX hbl hbA g106 dL_law_568 ?_
        obtain ⟨q107, eq107, h⟩ := gb_some h
        refine x_vi (st := []) C kY_X7_cut 0 7 rfl rfl rfl (m_X7_cut l D cI cZ ad C.2.2.2.2.2.2.1 (xs ((v3 + 1)).toNatClampNeg) σ q107 eq107) kl_L_69 ⟨rfl, rfl⟩ ⟨Nat.le_of_ble_eq_true rfl, Nat.le_of_ble_eq_true rfl⟩ ⟨Nat.le_of_ble_eq_true rfl, Nat.le_of_ble_eq_true rfl⟩ rfl rfl (Nat.le_of_ble_eq_true rfl) dL_law_569 ?_
        refine x_aload_n C dL_law_572 rfl 2 rfl ?_
        refine x_aload_n C dL_law_573 rfl 0 rfl ?_
        refine x_iload_n C dL_law_574 rfl 3 rfl ?_
        refine x_iconst (v := 1) C dL_law_575 (by decide) ?_
        refine x_iadd C dL_law_576 ?_
        obtain ⟨g108, h⟩ := gd_some h
        refine x_sld C hX hbl hbA g108 dL_law_577 ?_
        obtain ⟨q109, eq109, h⟩ := gb_some h
        refine x_vi (st := [.int q107.1]) C kY_X8_cut 8 8 rfl rfl rfl (m_X8_cut l D cI cZ ad C.2.2.2.2.2.2.1 (xs ((v3 + 1)).toNatClampNeg) q107.2 q109 eq109) kl_L_72 ⟨rfl, rfl⟩ ⟨Nat.le_of_ble_eq_true rfl, Nat.le_of_ble_eq_true rfl⟩ ⟨Nat.le_of_ble_eq_true rfl, Nat.le_of_ble_eq_true rfl⟩ rfl rfl (Nat.le_of_ble_eq_true rfl) dL_law_578 ?_
        refine x_icmp_eq C 796 dL_law_581 (by decide) (fun c110 => ?_) (fun c110 => ?_)
        · have h := (if_pos c110).symm.trans h
          refine x_iinc (v := (v3 + 5)) (lv' := [(3, .int (v3 + 5)), (0, .ref b), (1, .ref (ad 0)), (2, .ref (ad 8))]) C 3 dL_law_796 rfl rfl (by decide) rfl ?_
          refine x_goto C 18 dL_law_799 (by decide) ?_
          refine x_sub [1, 2, 3, 0] rfl ?_
          exact ih (v3 + 5) q109.2 h
        · have h := (if_neg c110).symm.trans h
          refine x_iconst (v := 0) C dL_law_584 (by decide) ?_
          have h9 := Option.some.inj h
          rw [← h9] at hR1
          exact absurd (show (0 : Int32) = 1 from hR1) (by decide)
      have h := (if_neg c105).symm.trans h
      by_cases c111 : ((xs v3.toNatClampNeg) &&& 31) = 14
      · have h := (if_pos c111).symm.trans h
        refine x_tableIn (off := 554) C 586 dL_law_32 (by rw [c111]; decide) (by rw [c111]; decide) (by rw [c111]; rfl) (by decide) ?_
        refine x_aload_n C dL_law_586 rfl 1 rfl ?_
        refine x_aload_n C dL_law_587 rfl 0 rfl ?_
        refine x_iload_n C dL_law_588 rfl 3 rfl ?_
        refine x_iconst (v := 1) C dL_law_589 (by decide) ?_
        refine x_iadd C dL_law_590 ?_
        obtain ⟨g112, h⟩ := gd_some h
        refine x_sld C hX hbl hbA g112 dL_law_591 ?_
        obtain ⟨q113, eq113, h⟩ := gb_some h
        refine x_vi (st := []) C kY_X7_part 0 7 rfl rfl rfl (m_X7_part l D cI cZ ad C.2.2.2.2.2.2.1 (xs ((v3 + 1)).toNatClampNeg) σ q113 eq113) kl_L_73 ⟨rfl, rfl⟩ ⟨Nat.le_of_ble_eq_true rfl, Nat.le_of_ble_eq_true rfl⟩ ⟨Nat.le_of_ble_eq_true rfl, Nat.le_of_ble_eq_true rfl⟩ rfl rfl (Nat.le_of_ble_eq_true rfl) dL_law_592 ?_
        refine x_aload_n C dL_law_595 rfl 2 rfl ?_
        refine x_aload_n C dL_law_596 rfl 0 rfl ?_
        refine x_iload_n C dL_law_597 rfl 3 rfl ?_
        refine x_iconst (v := 1) C dL_law_598 (by decide) ?_
        refine x_iadd C dL_law_599 ?_
        obtain ⟨g114, h⟩ := gd_some h
        refine x_sld C hX hbl hbA g114 dL_law_600 ?_
        obtain ⟨q115, eq115, h⟩ := gb_some h
        refine x_vi (st := [.int q113.1]) C kY_X8_part 8 8 rfl rfl rfl (m_X8_part l D cI cZ ad C.2.2.2.2.2.2.1 (xs ((v3 + 1)).toNatClampNeg) q113.2 q115 eq115) kl_L_76 ⟨rfl, rfl⟩ ⟨Nat.le_of_ble_eq_true rfl, Nat.le_of_ble_eq_true rfl⟩ ⟨Nat.le_of_ble_eq_true rfl, Nat.le_of_ble_eq_true rfl⟩ rfl rfl (Nat.le_of_ble_eq_true rfl) dL_law_601 ?_
        refine x_icmp_eq C 796 dL_law_604 (by decide) (fun c116 => ?_) (fun c116 => ?_)
        · have h := (if_pos c116).symm.trans h
          refine x_iinc (v := (v3 + 5)) (lv' := [(3, .int (v3 + 5)), (0, .ref b), (1, .ref (ad 0)), (2, .ref (ad 8))]) C 3 dL_law_796 rfl rfl (by decide) rfl ?_
          refine x_goto C 18 dL_law_799 (by decide) ?_
          refine x_sub [1, 2, 3, 0] rfl ?_
          exact ih (v3 + 5) q115.2 h
        · have h := (if_neg c116).symm.trans h
          refine x_iconst (v := 0) C dL_law_607 (by decide) ?_
          have h9 := Option.some.inj h
          rw [← h9] at hR1
          exact absurd (show (0 : Int32) = 1 from hR1) (by decide)
      have h := (if_neg c111).symm.trans h
      by_cases c117 : ((xs v3.toNatClampNeg) &&& 31) = 15
      · have h := (if_pos c117).symm.trans h
        refine x_tableIn (off := 577) C 609 dL_law_32 (by rw [c117]; decide) (by rw [c117]; decide) (by rw [c117]; rfl) (by decide) ?_
        refine x_aload_n C dL_law_609 rfl 1 rfl ?_
        obtain ⟨q118, eq118, h⟩ := gb_some h
        refine x_vi (st := []) C kY_X7_mend 0 7 rfl rfl rfl (m_X7_mend l D cI cZ ad C.2.2.2.2.2.2.1 σ q118 eq118) kl_L_77 ⟨rfl, rfl⟩ ⟨Nat.le_of_ble_eq_true rfl, Nat.le_of_ble_eq_true rfl⟩ ⟨Nat.le_of_ble_eq_true rfl, Nat.le_of_ble_eq_true rfl⟩ rfl rfl (Nat.le_of_ble_eq_true rfl) dL_law_610 ?_
        refine x_aload_n C dL_law_613 rfl 2 rfl ?_
        obtain ⟨q119, eq119, h⟩ := gb_some h
        refine x_vi (st := [.int q118.1]) C kY_X8_mend 8 8 rfl rfl rfl (m_X8_mend l D cI cZ ad C.2.2.2.2.2.2.1 q118.2 q119 eq119) kl_L_81 ⟨rfl, rfl⟩ ⟨Nat.le_of_ble_eq_true rfl, Nat.le_of_ble_eq_true rfl⟩ ⟨Nat.le_of_ble_eq_true rfl, Nat.le_of_ble_eq_true rfl⟩ rfl rfl (Nat.le_of_ble_eq_true rfl) dL_law_614 ?_
        refine x_icmp_eq C 796 dL_law_617 (by decide) (fun c120 => ?_) (fun c120 => ?_)
        · have h := (if_pos c120).symm.trans h
          refine x_iinc (v := (v3 + 5)) (lv' := [(3, .int (v3 + 5)), (0, .ref b), (1, .ref (ad 0)), (2, .ref (ad 8))]) C 3 dL_law_796 rfl rfl (by decide) rfl ?_
          refine x_goto C 18 dL_law_799 (by decide) ?_
          refine x_sub [1, 2, 3, 0] rfl ?_
          exact ih (v3 + 5) q119.2 h
        · have h := (if_neg c120).symm.trans h
          refine x_iconst (v := 0) C dL_law_620 (by decide) ?_
          have h9 := Option.some.inj h
          rw [← h9] at hR1
          exact absurd (show (0 : Int32) = 1 from hR1) (by decide)
      have h := (if_neg c117).symm.trans h
      by_cases c121 : ((xs v3.toNatClampNeg) &&& 31) = 16
      · have h := (if_pos c121).symm.trans h
        refine x_tableIn (off := 590) C 622 dL_law_32 (by rw [c121]; decide) (by rw [c121]; decide) (by rw [c121]; rfl) (by decide) ?_
        refine x_aload_n C dL_law_622 rfl 1 rfl ?_
        obtain ⟨q122, eq122, h⟩ := gb_some h
        refine x_vi (st := []) C kY_X7_clear 0 7 rfl rfl rfl (m_X7_clear l D cI cZ ad C.2.2.2.2.2.2.1 σ q122 eq122) kl_L_82 ⟨rfl, rfl⟩ ⟨Nat.le_of_ble_eq_true rfl, Nat.le_of_ble_eq_true rfl⟩ ⟨Nat.le_of_ble_eq_true rfl, Nat.le_of_ble_eq_true rfl⟩ rfl rfl (Nat.le_of_ble_eq_true rfl) dL_law_623 ?_
        refine x_aload_n C dL_law_626 rfl 2 rfl ?_
        obtain ⟨q123, eq123, h⟩ := gb_some h
        refine x_vi (st := [.int q122.1]) C kY_X8_clear 8 8 rfl rfl rfl (m_X8_clear l D cI cZ ad C.2.2.2.2.2.2.1 q122.2 q123 eq123) kl_L_85 ⟨rfl, rfl⟩ ⟨Nat.le_of_ble_eq_true rfl, Nat.le_of_ble_eq_true rfl⟩ ⟨Nat.le_of_ble_eq_true rfl, Nat.le_of_ble_eq_true rfl⟩ rfl rfl (Nat.le_of_ble_eq_true rfl) dL_law_627 ?_
        refine x_icmp_eq C 796 dL_law_630 (by decide) (fun c124 => ?_) (fun c124 => ?_)
        · have h := (if_pos c124).symm.trans h
          refine x_iinc (v := (v3 + 5)) (lv' := [(3, .int (v3 + 5)), (0, .ref b), (1, .ref (ad 0)), (2, .ref (ad 8))]) C 3 dL_law_796 rfl rfl (by decide) rfl ?_
          refine x_goto C 18 dL_law_799 (by decide) ?_
          refine x_sub [1, 2, 3, 0] rfl ?_
          exact ih (v3 + 5) q123.2 h
        · have h := (if_neg c124).symm.trans h
          refine x_iconst (v := 0) C dL_law_633 (by decide) ?_
          have h9 := Option.some.inj h
          rw [← h9] at hR1
          exact absurd (show (0 : Int32) = 1 from hR1) (by decide)
      have h := (if_neg c121).symm.trans h
      by_cases c125 : ((xs v3.toNatClampNeg) &&& 31) = 17
      · have h := (if_pos c125).symm.trans h
        refine x_tableIn (off := 603) C 635 dL_law_32 (by rw [c125]; decide) (by rw [c125]; decide) (by rw [c125]; rfl) (by decide) ?_
        refine x_aload_n C dL_law_635 rfl 1 rfl ?_
        refine x_aload_n C dL_law_636 rfl 0 rfl ?_
        refine x_iload_n C dL_law_637 rfl 3 rfl ?_
        refine x_iconst (v := 1) C dL_law_638 (by decide) ?_
        refine x_iadd C dL_law_639 ?_
        obtain ⟨g126, h⟩ := gd_some h
        refine x_sld C hX hbl hbA g126 dL_law_640 ?_
        obtain ⟨q127, eq127, h⟩ := gb_some h
        refine x_vi (st := []) C kY_X7_drift 0 7 rfl rfl rfl (m_X7_drift l D cI cZ ad C.2.2.2.2.2.2.1 (xs ((v3 + 1)).toNatClampNeg) σ q127 eq127) kl_L_86 ⟨rfl, rfl⟩ ⟨Nat.le_of_ble_eq_true rfl, Nat.le_of_ble_eq_true rfl⟩ ⟨Nat.le_of_ble_eq_true rfl, Nat.le_of_ble_eq_true rfl⟩ rfl rfl (Nat.le_of_ble_eq_true rfl) dL_law_641 ?_
        refine x_aload_n C dL_law_644 rfl 2 rfl ?_
        refine x_aload_n C dL_law_645 rfl 0 rfl ?_
        refine x_iload_n C dL_law_646 rfl 3 rfl ?_
        refine x_iconst (v := 1) C dL_law_647 (by decide) ?_
        refine x_iadd C dL_law_648 ?_
        obtain ⟨g128, h⟩ := gd_some h
        refine x_sld C hX hbl hbA g128 dL_law_649 ?_
        obtain ⟨q129, eq129, h⟩ := gb_some h
        refine x_vi (st := [.int q127.1]) C kY_X8_drift 8 8 rfl rfl rfl (m_X8_drift l D cI cZ ad C.2.2.2.2.2.2.1 (xs ((v3 + 1)).toNatClampNeg) q127.2 q129 eq129) kl_L_89 ⟨rfl, rfl⟩ ⟨Nat.le_of_ble_eq_true rfl, Nat.le_of_ble_eq_true rfl⟩ ⟨Nat.le_of_ble_eq_true rfl, Nat.le_of_ble_eq_true rfl⟩ rfl rfl (Nat.le_of_ble_eq_true rfl) dL_law_650 ?_
        refine x_icmp_eq C 796 dL_law_653 (by decide) (fun c130 => ?_) (fun c130 => ?_)
        · have h := (if_pos c130).symm.trans h
          refine x_iinc (v := (v3 + 5)) (lv' := [(3, .int (v3 + 5)), (0, .ref b), (1, .ref (ad 0)), (2, .ref (ad 8))]) C 3 dL_law_796 rfl rfl (by decide) rfl ?_
          refine x_goto C 18 dL_law_799 (by decide) ?_
          refine x_sub [1, 2, 3, 0] rfl ?_
          exact ih (v3 + 5) q129.2 h
        · have h := (if_neg c130).symm.trans h
          refine x_iconst (v := 0) C dL_law_656 (by decide) ?_
          have h9 := Option.some.inj h
          rw [← h9] at hR1
          exact absurd (show (0 : Int32) = 1 from hR1) (by decide)
      have h := (if_neg c125).symm.trans h
      by_cases c131 : ((xs v3.toNatClampNeg) &&& 31) = 18
      · have h := (if_pos c131).symm.trans h
        refine x_tableIn (off := 626) C 658 dL_law_32 (by rw [c131]; decide) (by rw [c131]; decide) (by rw [c131]; rfl) (by decide) ?_
        refine x_aload_n C dL_law_658 rfl 1 rfl ?_
        refine x_aload_n C dL_law_659 rfl 0 rfl ?_
        refine x_iload_n C dL_law_660 rfl 3 rfl ?_
        refine x_iconst (v := 1) C dL_law_661 (by decide) ?_
        refine x_iadd C dL_law_662 ?_
        obtain ⟨g132, h⟩ := gd_some h
        refine x_sld C hX hbl hbA g132 dL_law_663 ?_
        obtain ⟨q133, eq133, h⟩ := gb_some h
        refine x_vi (st := []) C kY_X7_undo 0 7 rfl rfl rfl (m_X7_undo l D cI cZ ad C.2.2.2.2.2.2.1 (xs ((v3 + 1)).toNatClampNeg) σ q133 eq133) kl_L_90 ⟨rfl, rfl⟩ ⟨Nat.le_of_ble_eq_true rfl, Nat.le_of_ble_eq_true rfl⟩ ⟨Nat.le_of_ble_eq_true rfl, Nat.le_of_ble_eq_true rfl⟩ rfl rfl (Nat.le_of_ble_eq_true rfl) dL_law_664 ?_
        refine x_aload_n C dL_law_667 rfl 2 rfl ?_
        refine x_aload_n C dL_law_668 rfl 0 rfl ?_
        refine x_iload_n C dL_law_669 rfl 3 rfl ?_
        refine x_iconst (v := 1) C dL_law_670 (by decide) ?_
        refine x_iadd C dL_law_671 ?_
        obtain ⟨g134, h⟩ := gd_some h
        refine x_sld C hX hbl hbA g134 dL_law_672 ?_
        obtain ⟨q135, eq135, h⟩ := gb_some h
        refine x_vi (st := [.int q133.1]) C kY_X8_undo 8 8 rfl rfl rfl (m_X8_undo l D cI cZ ad C.2.2.2.2.2.2.1 (xs ((v3 + 1)).toNatClampNeg) q133.2 q135 eq135) kl_L_93 ⟨rfl, rfl⟩ ⟨Nat.le_of_ble_eq_true rfl, Nat.le_of_ble_eq_true rfl⟩ ⟨Nat.le_of_ble_eq_true rfl, Nat.le_of_ble_eq_true rfl⟩ rfl rfl (Nat.le_of_ble_eq_true rfl) dL_law_673 ?_
        refine x_icmp_eq C 796 dL_law_676 (by decide) (fun c136 => ?_) (fun c136 => ?_)
        · have h := (if_pos c136).symm.trans h
          refine x_iinc (v := (v3 + 5)) (lv' := [(3, .int (v3 + 5)), (0, .ref b), (1, .ref (ad 0)), (2, .ref (ad 8))]) C 3 dL_law_796 rfl rfl (by decide) rfl ?_
          refine x_goto C 18 dL_law_799 (by decide) ?_
          refine x_sub [1, 2, 3, 0] rfl ?_
          exact ih (v3 + 5) q135.2 h
        · have h := (if_neg c136).symm.trans h
          refine x_iconst (v := 0) C dL_law_679 (by decide) ?_
          have h9 := Option.some.inj h
          rw [← h9] at hR1
          exact absurd (show (0 : Int32) = 1 from hR1) (by decide)
      have h := (if_neg c131).symm.trans h
      by_cases c137 : ((xs v3.toNatClampNeg) &&& 31) = 19
      · have h := (if_pos c137).symm.trans h
        refine x_tableIn (off := 649) C 681 dL_law_32 (by rw [c137]; decide) (by rw [c137]; decide) (by rw [c137]; rfl) (by decide) ?_
        refine x_aload_n C dL_law_681 rfl 1 rfl ?_
        refine x_aload_n C dL_law_682 rfl 0 rfl ?_
        refine x_iload_n C dL_law_683 rfl 3 rfl ?_
        refine x_iconst (v := 1) C dL_law_684 (by decide) ?_
        refine x_iadd C dL_law_685 ?_
        obtain ⟨g138, h⟩ := gd_some h
        refine x_sld C hX hbl hbA g138 dL_law_686 ?_
        refine x_aload_n C dL_law_687 rfl 0 rfl ?_
        refine x_iload_n C dL_law_688 rfl 3 rfl ?_
        refine x_iconst (v := 2) C dL_law_689 (by decide) ?_
        refine x_iadd C dL_law_690 ?_
        obtain ⟨g139, h⟩ := gd_some h
        refine x_sld C hX hbl hbA g139 dL_law_691 ?_
        obtain ⟨q140, eq140, h⟩ := gb_some h
        refine x_vi (st := []) C kY_X7_write 0 7 rfl rfl rfl (m_X7_write l D cI cZ ad C.2.2.2.2.2.2.1 (xs ((v3 + 1)).toNatClampNeg) (xs ((v3 + 2)).toNatClampNeg) σ q140 eq140) kl_L_94 ⟨rfl, rfl⟩ ⟨Nat.le_of_ble_eq_true rfl, Nat.le_of_ble_eq_true rfl⟩ ⟨Nat.le_of_ble_eq_true rfl, Nat.le_of_ble_eq_true rfl⟩ rfl rfl (Nat.le_of_ble_eq_true rfl) dL_law_692 ?_
        refine x_aload_n C dL_law_695 rfl 2 rfl ?_
        refine x_aload_n C dL_law_696 rfl 0 rfl ?_
        refine x_iload_n C dL_law_697 rfl 3 rfl ?_
        refine x_iconst (v := 1) C dL_law_698 (by decide) ?_
        refine x_iadd C dL_law_699 ?_
        obtain ⟨g141, h⟩ := gd_some h
        refine x_sld C hX hbl hbA g141 dL_law_700 ?_
        refine x_aload_n C dL_law_701 rfl 0 rfl ?_
        refine x_iload_n C dL_law_702 rfl 3 rfl ?_
        refine x_iconst (v := 2) C dL_law_703 (by decide) ?_
        refine x_iadd C dL_law_704 ?_
        obtain ⟨g142, h⟩ := gd_some h
        refine x_sld C hX hbl hbA g142 dL_law_705 ?_
        obtain ⟨q143, eq143, h⟩ := gb_some h
        refine x_vi (st := [.int q140.1]) C kY_X8_write 8 8 rfl rfl rfl (m_X8_write l D cI cZ ad C.2.2.2.2.2.2.1 (xs ((v3 + 1)).toNatClampNeg) (xs ((v3 + 2)).toNatClampNeg) q140.2 q143 eq143) kl_L_97 ⟨rfl, rfl⟩ ⟨Nat.le_of_ble_eq_true rfl, Nat.le_of_ble_eq_true rfl⟩ ⟨Nat.le_of_ble_eq_true rfl, Nat.le_of_ble_eq_true rfl⟩ rfl rfl (Nat.le_of_ble_eq_true rfl) dL_law_706 ?_
        refine x_icmp_eq C 796 dL_law_709 (by decide) (fun c144 => ?_) (fun c144 => ?_)
        · have h := (if_pos c144).symm.trans h
          refine x_iinc (v := (v3 + 5)) (lv' := [(3, .int (v3 + 5)), (0, .ref b), (1, .ref (ad 0)), (2, .ref (ad 8))]) C 3 dL_law_796 rfl rfl (by decide) rfl ?_
          refine x_goto C 18 dL_law_799 (by decide) ?_
          refine x_sub [1, 2, 3, 0] rfl ?_
          exact ih (v3 + 5) q143.2 h
        · have h := (if_neg c144).symm.trans h
          refine x_iconst (v := 0) C dL_law_712 (by decide) ?_
          have h9 := Option.some.inj h
          rw [← h9] at hR1
          exact absurd (show (0 : Int32) = 1 from hR1) (by decide)
      have h := (if_neg c137).symm.trans h
      by_cases c145 : ((xs v3.toNatClampNeg) &&& 31) = 20
      · have h := (if_pos c145).symm.trans h
        refine x_tableIn (off := 682) C 714 dL_law_32 (by rw [c145]; decide) (by rw [c145]; decide) (by rw [c145]; rfl) (by decide) ?_
        refine x_aload_n C dL_law_714 rfl 1 rfl ?_
        obtain ⟨q146, eq146, h⟩ := gb_some h
        refine x_vi (st := []) C kY_X7_tear 0 7 rfl rfl rfl (m_X7_tear l D cI cZ ad C.2.2.2.2.2.2.1 σ q146 eq146) kl_L_98 ⟨rfl, rfl⟩ ⟨Nat.le_of_ble_eq_true rfl, Nat.le_of_ble_eq_true rfl⟩ ⟨Nat.le_of_ble_eq_true rfl, Nat.le_of_ble_eq_true rfl⟩ rfl rfl (Nat.le_of_ble_eq_true rfl) dL_law_715 ?_
        refine x_aload_n C dL_law_718 rfl 2 rfl ?_
        obtain ⟨q147, eq147, h⟩ := gb_some h
        refine x_vi (st := [.int q146.1]) C kY_X8_tear 8 8 rfl rfl rfl (m_X8_tear l D cI cZ ad C.2.2.2.2.2.2.1 q146.2 q147 eq147) kl_L_101 ⟨rfl, rfl⟩ ⟨Nat.le_of_ble_eq_true rfl, Nat.le_of_ble_eq_true rfl⟩ ⟨Nat.le_of_ble_eq_true rfl, Nat.le_of_ble_eq_true rfl⟩ rfl rfl (Nat.le_of_ble_eq_true rfl) dL_law_719 ?_
        refine x_icmp_eq C 796 dL_law_722 (by decide) (fun c148 => ?_) (fun c148 => ?_)
        · have h := (if_pos c148).symm.trans h
          refine x_iinc (v := (v3 + 5)) (lv' := [(3, .int (v3 + 5)), (0, .ref b), (1, .ref (ad 0)), (2, .ref (ad 8))]) C 3 dL_law_796 rfl rfl (by decide) rfl ?_
          refine x_goto C 18 dL_law_799 (by decide) ?_
          refine x_sub [1, 2, 3, 0] rfl ?_
          exact ih (v3 + 5) q147.2 h
        · have h := (if_neg c148).symm.trans h
          refine x_iconst (v := 0) C dL_law_725 (by decide) ?_
          have h9 := Option.some.inj h
          rw [← h9] at hR1
          exact absurd (show (0 : Int32) = 1 from hR1) (by decide)
      have h := (if_neg c145).symm.trans h
      by_cases c149 : ((xs v3.toNatClampNeg) &&& 31) = 21
      · have h := (if_pos c149).symm.trans h
        refine x_tableIn (off := 695) C 727 dL_law_32 (by rw [c149]; decide) (by rw [c149]; decide) (by rw [c149]; rfl) (by decide) ?_
        refine x_aload_n C dL_law_727 rfl 1 rfl ?_
        refine x_aload_n C dL_law_728 rfl 0 rfl ?_
        refine x_iload_n C dL_law_729 rfl 3 rfl ?_
        refine x_iconst (v := 1) C dL_law_730 (by decide) ?_
        refine x_iadd C dL_law_731 ?_
        obtain ⟨g150, h⟩ := gd_some h
        refine x_sld C hX hbl hbA g150 dL_law_732 ?_
        obtain ⟨q151, eq151, h⟩ := gb_some h
        refine x_vi (st := []) C kY_X7_seed 0 7 rfl rfl rfl (m_X7_seed l D cI cZ ad C.2.2.2.2.2.2.1 (xs ((v3 + 1)).toNatClampNeg) σ q151 eq151) kl_L_102 ⟨rfl, rfl⟩ ⟨Nat.le_of_ble_eq_true rfl, Nat.le_of_ble_eq_true rfl⟩ ⟨Nat.le_of_ble_eq_true rfl, Nat.le_of_ble_eq_true rfl⟩ rfl rfl (Nat.le_of_ble_eq_true rfl) dL_law_733 ?_
        refine x_aload_n C dL_law_736 rfl 2 rfl ?_
        refine x_aload_n C dL_law_737 rfl 0 rfl ?_
        refine x_iload_n C dL_law_738 rfl 3 rfl ?_
        refine x_iconst (v := 1) C dL_law_739 (by decide) ?_
        refine x_iadd C dL_law_740 ?_
        obtain ⟨g152, h⟩ := gd_some h
        refine x_sld C hX hbl hbA g152 dL_law_741 ?_
        obtain ⟨q153, eq153, h⟩ := gb_some h
        refine x_vi (st := [.int q151.1]) C kY_X8_seed 8 8 rfl rfl rfl (m_X8_seed l D cI cZ ad C.2.2.2.2.2.2.1 (xs ((v3 + 1)).toNatClampNeg) q151.2 q153 eq153) kl_L_105 ⟨rfl, rfl⟩ ⟨Nat.le_of_ble_eq_true rfl, Nat.le_of_ble_eq_true rfl⟩ ⟨Nat.le_of_ble_eq_true rfl, Nat.le_of_ble_eq_true rfl⟩ rfl rfl (Nat.le_of_ble_eq_true rfl) dL_law_742 ?_
        refine x_icmp_eq C 796 dL_law_745 (by decide) (fun c154 => ?_) (fun c154 => ?_)
        · have h := (if_pos c154).symm.trans h
          refine x_iinc (v := (v3 + 5)) (lv' := [(3, .int (v3 + 5)), (0, .ref b), (1, .ref (ad 0)), (2, .ref (ad 8))]) C 3 dL_law_796 rfl rfl (by decide) rfl ?_
          refine x_goto C 18 dL_law_799 (by decide) ?_
          refine x_sub [1, 2, 3, 0] rfl ?_
          exact ih (v3 + 5) q153.2 h
        · have h := (if_neg c154).symm.trans h
          refine x_iconst (v := 0) C dL_law_748 (by decide) ?_
          have h9 := Option.some.inj h
          rw [← h9] at hR1
          exact absurd (show (0 : Int32) = 1 from hR1) (by decide)
      have h := (if_neg c149).symm.trans h
      by_cases c155 : ((xs v3.toNatClampNeg) &&& 31) = 22
      · have h := (if_pos c155).symm.trans h
        refine x_tableIn (off := 718) C 750 dL_law_32 (by rw [c155]; decide) (by rw [c155]; decide) (by rw [c155]; rfl) (by decide) ?_
        refine x_aload_n C dL_law_750 rfl 1 rfl ?_
        refine x_aload_n C dL_law_751 rfl 0 rfl ?_
        refine x_iload_n C dL_law_752 rfl 3 rfl ?_
        refine x_iconst (v := 1) C dL_law_753 (by decide) ?_
        refine x_iadd C dL_law_754 ?_
        obtain ⟨g156, h⟩ := gd_some h
        refine x_sld C hX hbl hbA g156 dL_law_755 ?_
        obtain ⟨q157, eq157, h⟩ := gb_some h
        refine x_vi (st := []) C kY_X7_keep 0 7 rfl rfl rfl (m_X7_keep l D cI cZ ad C.2.2.2.2.2.2.1 (xs ((v3 + 1)).toNatClampNeg) σ q157 eq157) kl_L_106 ⟨rfl, rfl⟩ ⟨Nat.le_of_ble_eq_true rfl, Nat.le_of_ble_eq_true rfl⟩ ⟨Nat.le_of_ble_eq_true rfl, Nat.le_of_ble_eq_true rfl⟩ rfl rfl (Nat.le_of_ble_eq_true rfl) dL_law_756 ?_
        refine x_aload_n C dL_law_759 rfl 2 rfl ?_
        refine x_aload_n C dL_law_760 rfl 0 rfl ?_
        refine x_iload_n C dL_law_761 rfl 3 rfl ?_
        refine x_iconst (v := 1) C dL_law_762 (by decide) ?_
        refine x_iadd C dL_law_763 ?_
        obtain ⟨g158, h⟩ := gd_some h
        refine x_sld C hX hbl hbA g158 dL_law_764 ?_
        obtain ⟨q159, eq159, h⟩ := gb_some h
        refine x_vi (st := [.int q157.1]) C kY_X8_keep 8 8 rfl rfl rfl (m_X8_keep l D cI cZ ad C.2.2.2.2.2.2.1 (xs ((v3 + 1)).toNatClampNeg) q157.2 q159 eq159) kl_L_109 ⟨rfl, rfl⟩ ⟨Nat.le_of_ble_eq_true rfl, Nat.le_of_ble_eq_true rfl⟩ ⟨Nat.le_of_ble_eq_true rfl, Nat.le_of_ble_eq_true rfl⟩ rfl rfl (Nat.le_of_ble_eq_true rfl) dL_law_765 ?_
        refine x_icmp_eq C 796 dL_law_768 (by decide) (fun c160 => ?_) (fun c160 => ?_)
        · have h := (if_pos c160).symm.trans h
          refine x_iinc (v := (v3 + 5)) (lv' := [(3, .int (v3 + 5)), (0, .ref b), (1, .ref (ad 0)), (2, .ref (ad 8))]) C 3 dL_law_796 rfl rfl (by decide) rfl ?_
          refine x_goto C 18 dL_law_799 (by decide) ?_
          refine x_sub [1, 2, 3, 0] rfl ?_
          exact ih (v3 + 5) q159.2 h
        · have h := (if_neg c160).symm.trans h
          refine x_iconst (v := 0) C dL_law_771 (by decide) ?_
          have h9 := Option.some.inj h
          rw [← h9] at hR1
          exact absurd (show (0 : Int32) = 1 from hR1) (by decide)
      have h := (if_neg c155).symm.trans h
      by_cases c161 : ((xs v3.toNatClampNeg) &&& 31) = 23
      · have h := (if_pos c161).symm.trans h
        refine x_tableIn (off := 741) C 773 dL_law_32 (by rw [c161]; decide) (by rw [c161]; decide) (by rw [c161]; rfl) (by decide) ?_
        refine x_aload_n C dL_law_773 rfl 1 rfl ?_
        refine x_aload_n C dL_law_774 rfl 0 rfl ?_
        refine x_iload_n C dL_law_775 rfl 3 rfl ?_
        refine x_iconst (v := 1) C dL_law_776 (by decide) ?_
        refine x_iadd C dL_law_777 ?_
        obtain ⟨g162, h⟩ := gd_some h
        refine x_sld C hX hbl hbA g162 dL_law_778 ?_
        obtain ⟨q163, eq163, h⟩ := gb_some h
        refine x_vi (st := []) C kY_X7_goBack 0 7 rfl rfl rfl (m_X7_goBack l D cI cZ ad C.2.2.2.2.2.2.1 (xs ((v3 + 1)).toNatClampNeg) σ q163 eq163) kl_L_110 ⟨rfl, rfl⟩ ⟨Nat.le_of_ble_eq_true rfl, Nat.le_of_ble_eq_true rfl⟩ ⟨Nat.le_of_ble_eq_true rfl, Nat.le_of_ble_eq_true rfl⟩ rfl rfl (Nat.le_of_ble_eq_true rfl) dL_law_779 ?_
        refine x_aload_n C dL_law_782 rfl 2 rfl ?_
        refine x_aload_n C dL_law_783 rfl 0 rfl ?_
        refine x_iload_n C dL_law_784 rfl 3 rfl ?_
        refine x_iconst (v := 1) C dL_law_785 (by decide) ?_
        refine x_iadd C dL_law_786 ?_
        obtain ⟨g164, h⟩ := gd_some h
        refine x_sld C hX hbl hbA g164 dL_law_787 ?_
        obtain ⟨q165, eq165, h⟩ := gb_some h
        refine x_vi (st := [.int q163.1]) C kY_X8_goBack 8 8 rfl rfl rfl (m_X8_goBack l D cI cZ ad C.2.2.2.2.2.2.1 (xs ((v3 + 1)).toNatClampNeg) q163.2 q165 eq165) kl_L_113 ⟨rfl, rfl⟩ ⟨Nat.le_of_ble_eq_true rfl, Nat.le_of_ble_eq_true rfl⟩ ⟨Nat.le_of_ble_eq_true rfl, Nat.le_of_ble_eq_true rfl⟩ rfl rfl (Nat.le_of_ble_eq_true rfl) dL_law_788 ?_
        refine x_icmp_eq C 796 dL_law_791 (by decide) (fun c166 => ?_) (fun c166 => ?_)
        · have h := (if_pos c166).symm.trans h
          refine x_iinc (v := (v3 + 5)) (lv' := [(3, .int (v3 + 5)), (0, .ref b), (1, .ref (ad 0)), (2, .ref (ad 8))]) C 3 dL_law_796 rfl rfl (by decide) rfl ?_
          refine x_goto C 18 dL_law_799 (by decide) ?_
          refine x_sub [1, 2, 3, 0] rfl ?_
          exact ih (v3 + 5) q165.2 h
        · have h := (if_neg c166).symm.trans h
          refine x_iconst (v := 0) C dL_law_794 (by decide) ?_
          have h9 := Option.some.inj h
          rw [← h9] at hR1
          exact absurd (show (0 : Int32) = 1 from hR1) (by decide)
      have h := (if_neg c161).symm.trans h
      have hn167 : (((xs v3.toNatClampNeg) &&& 31)).toInt < 0 ∨ 23 < (((xs v3.toNatClampNeg) &&& 31)).toInt := by
        have := lv_neT (a := 0) c3 (by decide)
        have := lv_neT (a := 1) c9 (by decide)
        have := lv_neT (a := 2) c17 (by decide)
        have := lv_neT (a := 3) c25 (by decide)
        have := lv_neT (a := 4) c31 (by decide)
        have := lv_neT (a := 5) c39 (by decide)
        have := lv_neT (a := 6) c47 (by decide)
        have := lv_neT (a := 7) c55 (by decide)
        have := lv_neT (a := 8) c65 (by decide)
        have := lv_neT (a := 9) c71 (by decide)
        have := lv_neT (a := 10) c83 (by decide)
        have := lv_neT (a := 11) c89 (by decide)
        have := lv_neT (a := 12) c97 (by decide)
        have := lv_neT (a := 13) c105 (by decide)
        have := lv_neT (a := 14) c111 (by decide)
        have := lv_neT (a := 15) c117 (by decide)
        have := lv_neT (a := 16) c121 (by decide)
        have := lv_neT (a := 17) c125 (by decide)
        have := lv_neT (a := 18) c131 (by decide)
        have := lv_neT (a := 19) c137 (by decide)
        have := lv_neT (a := 20) c145 (by decide)
        have := lv_neT (a := 21) c149 (by decide)
        have := lv_neT (a := 22) c155 (by decide)
        have := lv_neT (a := 23) c161 (by decide)
        omega
      refine x_tableOut C 796 dL_law_32 hn167 (by decide) ?_
      refine x_iinc (v := (v3 + 5)) (lv' := [(3, .int (v3 + 5)), (0, .ref b), (1, .ref (ad 0)), (2, .ref (ad 8))]) C 3 dL_law_796 rfl rfl (by decide) rfl ?_
      refine x_goto C 18 dL_law_799 (by decide) ?_
      refine x_sub [1, 2, 3, 0] rfl ?_
      exact ih (v3 + 5) σ h
