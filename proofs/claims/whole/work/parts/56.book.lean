/-! the book, the seed, the images -/
def wrt (M : Zt) (k : Nat) (v : Int32) : Zt := (zq M, zh M, zH M, zK M, zI M, zS M, zb M + 1, (fun j => if j = zb M then k else zv M j), (fun j => if j = zb M then v else zc M j), zs M)
theorem ok_write (p0 p1' : Int32) : OK (f_X7_write p0 p1') (f_X8_write p0 p1') := by
  intro σ E M hE hw h hC hM
  have hb := hw.2.2.2.1
  have h8 := h.2.2.2.1
  rcases rgI p0 0 10 (by decide) with ⟨k, -, hk, rfl⟩ | hx
  · by_cases hf : zb M = 20
    · refine OK_id hw h hC hM (-1000000004) ?_ (fun ρ hρ => ?_)
      · unfold f_X7_write f_X0_isFull
        rw [c_isVC hk, Option.bind_some]
        dsimp only
        rw [if_neg c10, h8.1, hf, if_neg (by decide), Option.bind_some]
        dsimp only
        rw [if_neg c10]
      · unfold f_X8_write
        rw [m_inY (lo := 0) (hi := 10) rfl rfl (by omega) hk (by omega), Option.bind_some]
        dsimp only
        rw [if_neg c10, hρ.2.2.2.1.1, hf, if_pos (by decide)]; exact id17 _ _
    · have hb' : zb M < 20 := by omega
      have hlt : nI (zb M) < (20 : Int32) := nI_lt (b := 20) hb' (by decide)
      have hfull : f_X0_isFull σ = some (0, σ) := by
        unfold f_X0_isFull
        rw [h8.1, if_pos hlt]
      have hadd : f_X0_add (nI k) p1' σ = some (pv_pi (pv_pa (pv_pa σ 11 (upd (σ.2 11) (zb M) (nI k))) 12 (upd (σ.2 12) (zb M) p1')) 8 (nI (zb M + 1))) := by
        unfold f_X0_add
        rw [hfull, Option.bind_some]
        dsimp only
        rw [if_pos rfl]
        show gd (σ.1 8) 20 (gd (σ.1 8) 20 (some (pv_pi (pv_sa (pv_sa σ 11 (σ.1 8) (nI k)) 12 (σ.1 8) p1') 8 (σ.1 8 + 1)))) = _
        rw [h8.1, gd_nI _ hb' (by decide), gd_nI _ hb' (by decide), sa_nI _ _ _ (by omega), sa_nI _ _ _ (by omega), p1]; rfl
      refine OK_of hw hM (nI (zb M + 1)) (pv_pi (pv_pa (pv_pa σ 11 (upd (σ.2 11) (zb M) (nI k))) 12 (upd (σ.2 12) (zb M) p1')) 8 (nI (zb M + 1))) (wrt M k p1') ?_ (sm_t (sm_pa σ _ (by decide)) (sm_t (sm_pa _ _ (by decide)) (sm_pi _ _ (by decide)))) ?_ ?_ (CAC_mono (E := E) (by omega) ?_) (fun ρ hρ => ?_)
      · unfold f_X7_write
        rw [c_isVC hk, Option.bind_some]
        dsimp only
        rw [if_neg c10, hfull, Option.bind_some]
        dsimp only
        rw [if_pos rfl, hadd, Option.bind_some]; rfl
      · refine ⟨hw.1, hw.2.1, hw.2.2.1, ⟨by show zb M + 1 ≤ 20; omega, fun j hj => ?_⟩, hw.2.2.2.2⟩
        have hj' : j < zb M + 1 := hj
        show (if j = zb M then k else zv M j) ≤ 10
        by_cases c : j = zb M
        · rw [if_pos c]; exact hk
        · rw [if_neg c]; exact hb.2 j (by omega)
      · refine ⟨h.1, h.2.1, h.2.2.1, ⟨rfl, fun j hj => ?_⟩, h.2.2.2.2⟩
        have hj' : j < zb M + 1 := hj
        show upd (σ.2 11) (zb M) (nI k) j = nI (if j = zb M then k else zv M j) ∧ upd (σ.2 12) (zb M) p1' j = (if j = zb M then p1' else zc M j)
        by_cases c : j = zb M
        · rw [if_pos c, if_pos c, c, upd_s, upd_s]; exact ⟨rfl, rfl⟩
        · rw [if_neg c, if_neg c, upd_n _ _ c, upd_n _ _ c]; exact h8.2 j (by omega)
      · exact CAC_cg (σ := σ) rfl rfl rfl rfl rfl rfl rfl rfl hC
      · have m8 := hρ.2.2.2.1
        refine ⟨pv_pi (pv_pa (pv_pa ρ 15 (upd (ρ.2 15) (zb M) (nI k))) 16 (upd (ρ.2 16) (zb M) p1')) 13 (nI (zb M + 1)), ?_, sc_t (sc_pa ρ _ (by decide)) (sc_t (sc_pa _ _ (by decide)) (sc_pi _ _ (by decide))), hρ.1, hρ.2.1, hρ.2.2.1, ⟨rfl, fun j hj => ?_⟩, hρ.2.2.2.2⟩
        · unfold f_X8_write
          rw [m_inY (lo := 0) (hi := 10) rfl rfl (by omega) hk (by omega), Option.bind_some]
          dsimp only
          rw [if_neg c10, if_neg (by rw [m8.1]; exact fun z => hf ((nI_eq (b := 20) (by omega) (by decide)).mp z))]
          show gd (ρ.1 13) 20 (gd (ρ.1 13) 20 (some (ρ.1 13 + 1, pv_pi (pv_sa (pv_sa ρ 15 (ρ.1 13) (nI k)) 16 (ρ.1 13) p1') 13 (ρ.1 13 + 1)))) = _
          rw [m8.1, gd_nI _ hb' (by decide), gd_nI _ hb' (by decide), sa_nI _ _ _ (by omega), sa_nI _ _ _ (by omega), p1]; rfl
        · have hj' : j < zb M + 1 := hj
          show upd (ρ.2 15) (zb M) (nI k) j = nI (if j = zb M then k else zv M j) ∧ upd (ρ.2 16) (zb M) p1' j = (if j = zb M then p1' else zc M j)
          by_cases c : j = zb M
          · rw [if_pos c, if_pos c, c, upd_s, upd_s]; exact ⟨rfl, rfl⟩
          · rw [if_neg c, if_neg c, upd_n _ _ c, upd_n _ _ c]; exact m8.2 j (by omega)
  · refine OK_id hw h hC hM (-1000000002) ?_ (fun ρ hρ => ?_)
    · unfold f_X7_write
      rw [c_isVCn hx, Option.bind_some]
      dsimp only
      rw [if_pos rfl]
    · unfold f_X8_write
      rw [m_inN rfl rfl hx, Option.bind_some]
      dsimp only
      rw [if_pos rfl]; exact id17 _ _
theorem ok_tear : OK f_X7_tear f_X8_tear := by
  intro σ E M hE hw h hC hM
  refine OK_of hw hM (nI (zb M)) (pv_pi σ 8 0) (zq M, zh M, zH M, zK M, zI M, zS M, 0, zv M, zc M, zs M) ?_ (sm_pi σ _ (by decide)) ⟨hw.1, hw.2.1, hw.2.2.1, ⟨Nat.zero_le _, fun j hj => absurd hj (Nat.not_lt_zero j)⟩, hw.2.2.2.2⟩ ⟨h.1, h.2.1, h.2.2.1, ⟨rfl, fun j hj => absurd hj (Nat.not_lt_zero j)⟩, h.2.2.2.2⟩ (CAC_mono (E := E) (by omega) (CAC_cg (σ := σ) rfl rfl rfl rfl rfl rfl rfl rfl hC)) (fun ρ hρ => ⟨pv_pi ρ 13 0, ?_, sc_pi ρ _ (by decide), hρ.1, hρ.2.1, hρ.2.2.1, ⟨rfl, fun j hj => absurd hj (Nat.not_lt_zero j)⟩, hρ.2.2.2.2⟩)
  · unfold f_X7_tear f_X0_size f_X0_empty
    rw [Option.bind_some, Option.bind_some, h.2.2.2.1.1]
  · unfold f_X8_tear
    rw [hρ.2.2.2.1.1]
theorem ok_seed (p0 : Int32) : OK (f_X7_seed p0) (f_X8_seed p0) := by
  intro σ E M hE hw h hC hM
  by_cases h0 : p0 < 0
  · have h1 : ¬ 0 ≤ p0 := Int32.not_le.mpr h0
    refine OK_id hw h hC hM (-1000000002) ?_ (fun ρ hρ => ?_)
    · unfold f_X7_seed; rw [if_neg h1]
    · unfold f_X8_seed; rw [if_neg h1]; exact id17 _ _
  · obtain ⟨s, hs, rfl⟩ := nI_of h0
    refine OK_of hw hM (nI (zs M)) (pv_pi σ 9 (nI s)) (ss M s) ?_ (sm_pi σ _ (by decide)) (WM_ss hw hs) (CLb_ss h s) (CAC_mono (E := E) (by omega) (CAC_9 hC _)) (fun ρ hρ => ⟨pv_pi ρ 12 (nI s), ?_, sc_pi ρ _ (by decide), MO_ss hρ s⟩)
    · unfold f_X7_seed f_X1_state f_X1_become
      rw [if_pos (nI_pos' hs), Option.bind_some, Option.bind_some, h.2.2.2.2]
    · unfold f_X8_seed
      rw [if_pos (nI_pos' hs), hρ.2.2.2.2]
theorem c_imgN {x : Int32} (h : x.toInt < ((0 : Nat) : Int) ∨ ((1 : Nat) : Int) < x.toInt) (σ : pv_S) : f_X3_isImage x σ = some (0, σ) := by
  unfold f_X3_isImage
  by_cases c : x < 0
  · rw [if_pos c]
  · have : (2 : Int32) ≤ x := by
      rw [i_lt0] at c
      rw [Int32.le_iff_toInt_le]
      show (2 : Int) ≤ x.toInt
      omega
    rw [if_neg c, if_pos this]
theorem c_imgY {i : Nat} (hi : i ≤ 1) (σ : pv_S) : f_X3_isImage (nI i) σ = some (1, σ) := by
  unfold f_X3_isImage
  rw [if_neg (nI_pos (by omega)), if_neg (show ¬ (2 : Int32) ≤ nI i from nI_ge (b := 2) (by omega) (by decide))]
def kp (M : Zt) (i : Nat) : Zt := (zq M, 0, zH M, (fun j => if j = i then true else zK M j), (fun j => if j = i then zq M else zI M j), (fun j => if j = i then zs M else zS M j), zb M, zv M, zc M, zs M)
theorem i782 (i : Nat) : (782 + 46 * nI i : Int32) = nI (782 + 46 * i) := by
  show nI 782 + nI 46 * nI i = _
  rw [pk_mul, nI_add]
theorem ok_keep (p0 : Int32) : OK (f_X7_keep p0) (f_X8_keep p0) := by
  intro σ E M hE hw h hC hM
  rcases rgI p0 0 1 (by decide) with ⟨i, -, hi, rfl⟩ | hx
  · obtain ⟨h1, ⟨p, hp1, hp2, hp3, hp4⟩, h3, h4, h5⟩ := id h
    refine OK_of hw hM 1 (pv_pi (pv_pa (pv_pa (pv_pa σ 8 (va_cpy (σ.2 0) (σ.2 8) 0 (46 * i) 46)) 9 (upd (σ.2 9) i (nI (zs M)))) 10 (upd (σ.2 10) i 1)) 7 0) (kp M i) ?_ (sm_t (sm_pa σ _ (by decide)) (sm_t (sm_pa _ _ (by decide)) (sm_t (sm_pa _ _ (by decide)) (sm_pi _ _ (by decide))))) ?_ ?_ (CAC_mono (E := E) (by omega) (CAC_cg (σ := σ) rfl rfl rfl rfl rfl rfl rfl rfl hC)) (fun ρ hρ => ?_)
    · have hst : f_X3_store (nI i) σ = some (pv_pa (pv_pa (pv_pa σ 8 (va_cpy (σ.2 0) (σ.2 8) 0 (46 * i) 46)) 9 (upd (σ.2 9) i (nI (zs M)))) 10 (upd (σ.2 10) i 1)) := by
        unfold f_X3_store f_X1_state
        rw [c_imgY hi, Option.bind_some]
        dsimp only
        rw [if_neg c10, h_copyTo17 σ (by omega), Option.bind_some, Option.bind_some]
        dsimp only
        rw [gd_nI _ (by omega) (by decide), gd_nI _ (by omega) (by decide), sa_nI _ _ _ (by omega)]
        unfold pv_sz
        rw [nI_clamp (by omega), pa_1, h5]; rfl
      unfold f_X7_keep f_X2_forget
      rw [c_imgY hi, Option.bind_some]
      dsimp only
      rw [if_neg c10, hst, Option.bind_some, Option.bind_some]
    · refine ⟨hw.1, ⟨Nat.zero_le _, fun k hk => absurd hk (Nat.not_lt_zero k)⟩, fun j hj hz => ?_, hw.2.2.2⟩
      have hz' : (if j = i then true else zK M j) = true := hz
      show WF (if j = i then zq M else zI M j) ∧ (if j = i then zs M else zS M j) < 2 ^ 31
      by_cases c : j = i
      · rw [if_pos c, if_pos c]; exact ⟨hw.1, hw.2.2.2.2⟩
      · rw [if_neg c, if_neg c]; rw [if_neg c] at hz'; exact hw.2.2.1 j hj hz'
    · refine ⟨h1, ⟨p, hp1, hp2, rfl, fun k hk => absurd hk (Nat.not_lt_zero k)⟩, fun j hj => ?_, h4, h5⟩
      show upd (σ.2 10) i 1 j = (if (if j = i then true else zK M j) = true then 1 else 0) ∧ ((if j = i then true else zK M j) = true → RC (va_cpy (σ.2 0) (σ.2 8) 0 (46 * i) 46) (46 * j) (if j = i then zq M else zI M j) ∧ upd (σ.2 9) i (nI (zs M)) j = nI (if j = i then zs M else zS M j))
      by_cases c : j = i
      · rw [if_pos c, if_pos c, if_pos c, c, upd_s, upd_s]
        refine ⟨rfl, fun _ => ⟨RC_copy hw.1.2.1.1 h1 (fun x hx => ?_), rfl⟩⟩
        rw [pk_cpy_in (by omega) (by omega)]
        exact congrArg (σ.2 0) (by omega)
      · rw [if_neg c, if_neg c, if_neg c, upd_n _ _ c, upd_n _ _ c]
        refine ⟨(h3 j hj).1, fun z => ⟨RC_copy (hw.2.2.1 j hj z).1.2.1.1 ((h3 j hj).2 z).1 (fun x hx => ?_), ((h3 j hj).2 z).2⟩⟩
        rw [pk_cpy_out (by omega)]
    · obtain ⟨m1, m2, ⟨m, a1, a2, a3⟩, m4, m5⟩ := hρ
      have hcr := h_copyRow (σ := ρ) (a := 0) (b := 782 + 46 * i) (by omega) (by omega) (by omega)
      have em : (nI m ||| (1 <<< (nI i &&& 31)) : Int32) = nI (m ||| 2 ^ i) := by rw [bi_shl i (by omega), bi_or]
      have hm4 : m ||| 2 ^ i < 4 := Nat.or_lt_two_pow (n := 2) a1 (Nat.pow_lt_pow_right (m := i) (n := 2) (by decide) (by omega))
      refine ⟨pv_pi (pv_pi (pv_pa (pv_pa ρ 13 (va_cpy (ρ.2 13) (ρ.2 13) 0 (782 + 46 * i) 46)) 14 (upd (ρ.2 14) i (nI (zs M)))) 11 (nI (m ||| 2 ^ i))) 10 0, ?_, sc_t (sc_pa ρ _ (by decide)) (sc_t (sc_pa _ _ (by decide)) (sc_t (sc_pi _ _ (by decide)) (sc_pi _ _ (by decide)))), ?_, ⟨rfl, fun k hk => absurd hk (Nat.not_lt_zero k)⟩, ⟨m ||| 2 ^ i, hm4, rfl, fun j hj => ?_⟩, m4, m5⟩
      · unfold f_X8_keep
        rw [m_inY (lo := 0) (hi := 1) rfl rfl (by omega) hi (by omega), Option.bind_some]
        dsimp only
        rw [if_neg c10, i782, show (0 : Int32) = nI 0 from rfl, hcr, Option.bind_some, gd_nI _ (by omega) (by decide), sa_nI _ _ _ (by omega)]
        show some ((1 : Int32), pv_pi (pv_pi (pv_pa (pv_pa ρ 13 (va_cpy (ρ.2 13) (ρ.2 13) 0 (782 + 46 * i) 46)) 14 (upd (ρ.2 14) i (ρ.1 12))) 11 (ρ.1 11 ||| (1 <<< (nI i &&& 31)))) 10 0) = _
        rw [m5, a2, em]; rfl
      · show RM (va_cpy (ρ.2 13) (ρ.2 13) 0 (782 + 46 * i) 46) 0 (zq M)
        refine RM_copy hw.1.2.1.1 m1 (fun x hx => ?_)
        rw [pk_cpy_out (by omega)]
      · show (m ||| 2 ^ i).testBit j = (if j = i then true else zK M j) ∧ ((if j = i then true else zK M j) = true → RM (va_cpy (ρ.2 13) (ρ.2 13) 0 (782 + 46 * i) 46) (782 + 46 * j) (if j = i then zq M else zI M j) ∧ upd (ρ.2 14) i (nI (zs M)) j = nI (if j = i then zs M else zS M j))
        rw [bt_or]
        by_cases c : j = i
        · rw [if_pos c, if_pos c, if_pos c, c, upd_s]
          refine ⟨by simp, fun _ => ⟨RM_copy hw.1.2.1.1 m1 (fun x hx => ?_), rfl⟩⟩
          rw [pk_cpy_in (by omega) (by omega)]
          exact congrArg (ρ.2 13) (by omega)
        · rw [if_neg c, if_neg c, if_neg c, upd_n _ _ c]
          have : decide (i = j) = false := by simp; omega
          rw [this, Bool.or_false]
          refine ⟨(a3 j hj).1, fun z => ⟨RM_copy (hw.2.2.1 j hj z).1.2.1.1 ((a3 j hj).2 z).1 (fun x hx => ?_), ((a3 j hj).2 z).2⟩⟩
          rw [pk_cpy_out (by omega)]
  · refine OK_id hw h hC hM (-1000000001) ?_ (fun ρ hρ => ?_)
    · unfold f_X7_keep
      rw [c_imgN hx, Option.bind_some]
      dsimp only
      rw [if_pos rfl]
    · unfold f_X8_keep
      rw [m_inN rfl rfl hx, Option.bind_some]
      dsimp only
      rw [if_pos rfl]; exact id17 _ _
theorem ok_goBack (p0 : Int32) : OK (f_X7_goBack p0) (f_X8_goBack p0) := by
  intro σ E M hE hw h hC hM
  rcases rgI p0 0 1 (by decide) with ⟨i, -, hi, rfl⟩ | hx
  · obtain ⟨h1, ⟨p, hp1, hp2, hp3, hp4⟩, h3, h4, h5⟩ := id h
    have hk : ∀ τ : pv_S, τ.2 10 = σ.2 10 → f_X3_isKept (nI i) τ = some (if zK M i = true then 1 else 0, τ) := fun τ ht => by
      unfold f_X3_isKept
      rw [c_imgY hi, Option.bind_some]
      dsimp only
      rw [if_neg c10, gd_nI _ (by omega) (by decide), la_nI _ _ (by omega), ht, (h3 i (by omega)).1]
      cases zK M i with
      | true => rw [if_neg (by decide)]; rfl
      | false => rw [if_pos (by decide)]; rfl
    have hbit : ∀ ρ, MO ρ M → ((ρ.1 11 >>> (nI i &&& 31)) &&& 1) = (if zK M i = true then 1 else 0) := fun ρ hρ => by
      obtain ⟨m, a1, a2, a3⟩ := hρ.2.2.1
      rw [a2, bi_tst m (by omega) i (by omega), (a3 i (by omega)).1]
    cases hz : zK M i with
    | true =>
      obtain ⟨hwi, hsi⟩ := hw.2.2.1 i (by omega) hz
      obtain ⟨i1, i2⟩ := (h3 i (by omega)).2 hz
      have hRC : RC (va_cpy (σ.2 8) (σ.2 0) (46 * i) 0 46) 0 (zI M i) := RC_copy hwi.2.1.1 i1 (fun x hx => by
        rw [pk_cpy_in (by omega) (by omega)]
        exact congrArg (σ.2 8) (by omega))
      refine OK_of hw hM 1 (pv_pi (pv_pi (pv_pi (pv_pa σ 0 (va_cpy (σ.2 8) (σ.2 0) (46 * i) 0 46)) 0 (σ.1 0 + 1)) 9 (nI (zS M i))) 7 0) (zI M i, 0, zH M, zK M, zI M, zS M, zb M, zv M, zc M, zS M i) ?_ (sm_t (sm_pa σ _ (by decide)) (sm_t (sm_pi _ _ (by decide)) (sm_t (sm_pi _ _ (by decide)) (sm_pi _ _ (by decide))))) ⟨hwi, ⟨Nat.zero_le _, fun k hk => absurd hk (Nat.not_lt_zero k)⟩, hw.2.2.1, hw.2.2.2.1, hsi⟩ ⟨hRC, ⟨p, hp1, hp2, rfl, fun k hk => absurd hk (Nat.not_lt_zero k)⟩, h3, h4, rfl⟩ (CAC_mono (E := E + 1) (by omega) (CAC_up (σ := σ) (by omega) rfl rfl hC)) (fun ρ hρ => ?_)
      · have hre : f_X3_restore (nI i) σ = some (pv_pi (pv_pi (pv_pa σ 0 (va_cpy (σ.2 8) (σ.2 0) (46 * i) 0 46)) 0 (σ.1 0 + 1)) 9 (nI (zS M i))) := by
          unfold f_X3_restore f_X1_become
          rw [hk σ rfl, hz, Option.bind_some]
          dsimp only
          rw [if_neg (by decide), h_copyFrom17 σ (by omega), Option.bind_some, gd_nI _ (by omega) (by decide), la_nI _ _ (by omega), Option.bind_some]
          show some (pv_pi _ 9 (σ.2 9 i)) = _
          rw [i2]
        unfold f_X7_goBack f_X2_forget
        rw [c_imgY hi, Option.bind_some]
        dsimp only
        rw [if_neg c10, hk σ rfl, hz, Option.bind_some]
        dsimp only
        rw [if_neg (by decide), hre, Option.bind_some, Option.bind_some]
      · have hb := hbit ρ hρ
        obtain ⟨m1, m2, ⟨m, a1, a2, a3⟩, m4, m5⟩ := hρ
        have hcr := h_copyRow (σ := ρ) (a := 782 + 46 * i) (b := 0) (by omega) (by omega) (by omega)
        obtain ⟨j1, j2⟩ := (a3 i (by omega)).2 hz
        refine ⟨pv_pi (pv_pi (pv_pa ρ 13 (va_cpy (ρ.2 13) (ρ.2 13) (782 + 46 * i) 0 46)) 12 (nI (zS M i))) 10 0, ?_, sc_t (sc_pa ρ _ (by decide)) (sc_t (sc_pi _ _ (by decide)) (sc_pi _ _ (by decide))), ?_, ⟨rfl, fun k hk => absurd hk (Nat.not_lt_zero k)⟩, ⟨m, a1, a2, fun j hj => ⟨(a3 j hj).1, fun z => ⟨?_, ((a3 j hj).2 z).2⟩⟩⟩, m4, rfl⟩
        · unfold f_X8_goBack
          rw [m_inY (lo := 0) (hi := 1) rfl rfl (by omega) hi (by omega), Option.bind_some]
          dsimp only
          rw [if_neg c10, hb, hz, if_neg (by decide), i782, show (0 : Int32) = nI 0 from rfl, hcr, Option.bind_some, gd_nI _ (by omega) (by decide), la_nI _ _ (by omega)]
          show some ((1 : Int32), pv_pi (pv_pi _ 12 (ρ.2 14 i)) 10 (nI 0)) = _
          rw [j2]
        · show RM (va_cpy (ρ.2 13) (ρ.2 13) (782 + 46 * i) 0 46) 0 (zI M i)
          refine RM_copy hwi.2.1.1 j1 (fun x hx => ?_)
          rw [pk_cpy_in (by omega) (by omega)]
          exact congrArg (ρ.2 13) (by omega)
        · show RM (va_cpy (ρ.2 13) (ρ.2 13) (782 + 46 * i) 0 46) (782 + 46 * j) (zI M j)
          refine RM_copy (hw.2.2.1 j hj z).1.2.1.1 ((a3 j hj).2 z).1 (fun x hx => ?_)
          rw [pk_cpy_out (by omega)]
    | false =>
      refine OK_id hw h hC hM (-1000000003) ?_ (fun ρ hρ => ?_)
      · unfold f_X7_goBack
        rw [c_imgY hi, Option.bind_some]
        dsimp only
        rw [if_neg c10, hk σ rfl, hz, Option.bind_some]
        dsimp only
        rw [if_pos (by decide)]
      · unfold f_X8_goBack
        rw [m_inY (lo := 0) (hi := 1) rfl rfl (by omega) hi (by omega), Option.bind_some]
        dsimp only
        rw [if_neg c10, hbit ρ hρ, hz, if_pos (by decide)]; exact id17 _ _
  · refine OK_id hw h hC hM (-1000000001) ?_ (fun ρ hρ => ?_)
    · unfold f_X7_goBack
      rw [c_imgN hx, Option.bind_some]
      dsimp only
      rw [if_pos rfl]
    · unfold f_X8_goBack
      rw [m_inN rfl rfl hx, Option.bind_some]
      dsimp only
      rw [if_pos rfl]; exact id17 _ _
