/-! have: both -/
theorem hfr_kp {τ τ' : jS} (h : hfr τ τ') {l : List Nat} (d : l.all (fun a => !(1 :: hH).contains a) = true) : kp l τ τ' := fun a ha i => by
  have := List.all_eq_true.mp d a ha
  have h2 : a ∉ 1 :: hH := fun q => by
    have hc : (1 :: hH).contains a = true := List.contains_iff_mem.mpr q
    rw [hc] at this
    cases this
  exact hfr_a h (fun q => h2 (List.mem_cons_of_mem _ q)) (fun q => h2 (by rw [q]; exact List.mem_cons_self)) i
theorem RS_layers {σ τ σ' τ' : jS} (hx : fr xH0 σ σ') (hm : hfr τ τ') (h : RS σ τ) : RS σ' τ' := by
  obtain ⟨hM, hX, hH, hS, hTT, hTx, hFl, hLg, hSe, hI⟩ := h
  obtain ⟨m1, m2⟩ := mS_W (hfr_mS hm) hM
  refine ⟨m1, ?_, xH_keep m2 (kp_fr hx rfl) (hfr_kp hm rfl) hH, rS_keep (fr_I hx (by decide) _) (hfr_f hm (by decide)) hS, rTT_keep hx.1 hTT, rTx_keep (fr_I hx (by decide) _) (hfr_f hm (by decide)) (kp_fr hx rfl) (hfr_kp hm rfl) hTx, rFl_keep (fr_I hx (by decide) _) (hfr_f hm (by decide)) hFl, ?_, ?_, ?_⟩
  · rw [m2]; exact xS_W (xS_fr hx rfl) hX
  · rw [m2]; exact rLg_keep (fr_I hx (by decide) _) (hfr_f hm (by decide)) (kp_fr hx rfl) (hfr_kp hm rfl) hLg
  · rw [m2]; exact rSe_keep (fr_I hx (by decide) _) (hfr_f hm (by decide)) (kp_fr hx rfl) (hfr_kp hm rfl) hSe
  · rw [m2]; exact rI_keep (kp_fr hx rfl) (hfr_kp hm rfl) hI
theorem r_have (k : Nat) (σ τ : jS) (a : Int32) (hk : k < 2048) (h : Rel k σ τ) : ∃ r σ2 τ2, f_X10_have σ a = some (r, σ2) ∧ f_X11_have τ a = some (r, τ2) ∧ Rel (k + 4) σ2 τ2 := by
  have h0 := h
  obtain ⟨rs, sx, sm⟩ := h
  obtain ⟨hM, hX, hH, hS, hTT, hTx, hFl, hLg, hSe, hI⟩ := id rs
  have hT := hX.1
  unfold f_X10_have f_X11_have f_X10_have_J10
  rw [show f_X11_in a.toInt64 0 40 = _ from in_wide a 0 40, bC_e]
  by_cases b0 : a < 0
  · rw [if_pos b0, if_pos b0, if_pos rfl]
    exact ⟨_, _, _, rfl, rfl, r_mono k _ _ h0⟩
  rw [if_neg b0, if_neg b0]
  by_cases b4 : 40 < a
  · rw [if_neg (Int32.not_le.mpr b4), if_pos b4, if_pos rfl]
    exact ⟨_, _, _, rfl, rfl, r_mono k _ _ h0⟩
  rw [if_pos (Int32.not_lt.mp b4), if_neg b4, if_neg (show ¬ (1 : Int32) = 0 by decide)]
  obtain ⟨m, hm, rfl⟩ := nI_of b0
  have m40 : m ≤ 40 := by
    rcases Nat.lt_or_ge 40 m with q | q
    · exact absurd (show (40 : Int32) < nI m from Int32.not_le.mp (nI_ge (a := 40) q hm)) b4
    · exact q
  have e8 : gI σ σ.2.2.1 8 = nI (tQ (mn τ)) := hT.2.2.2.1
  have e8m : gI τ 1 8 = nI (tQ (mn τ)) := hM.1.2.2.2.1.1
  have q4 := hM.1.2.2.2.1.2
  rw [bV_e, bH_t (T_in hT.1), e8, e8m]
  by_cases z : tQ (mn τ) = 0
  · rw [if_pos (show nI (tQ (mn τ)) = 0 from congrArg nI z), if_pos (show nI (tQ (mn τ)) = 0 from congrArg nI z)]
    exact ⟨_, _, _, rfl, rfl, r_mono k _ _ h0⟩
  rw [if_neg (fun e => z ((nI_eq0 (by omega)).mp e)), if_neg (fun e => z ((nI_eq0 (by omega)).mp e))]
  have hq0 : 0 < tQ (mn τ) := by omega
  have w := wA_of hM.1 hM.2.2.1
  obtain ⟨hw, hf⟩ := hX.2.2.2 (tQ_tP hM z)
  obtain ⟨_, _, k3, k4, k5⟩ := hM.2.2.2.2.2.1 0 hq0
  obtain ⟨o1, o2⟩ := tdx_ok (A := mn τ) (q := 0) w.1 k3 k4 k5
  obtain ⟨sa, sb, sc, n, se1, se2⟩ := rSe_se hSe w.1
  obtain ⟨σ', a1, a2, a3⟩ := x_haveAll (k := k) (by omega) w hw hf se1 m40 o1 sx
  obtain ⟨sm1, st, st1, st2, st3⟩ := sm
  obtain ⟨τ', b1, b2, b3, b5⟩ := m_haveAll (c0 := mkc (mn τ 7 0) (mn τ 8 0) 0 0 0) hM rfl w se2 m40 (by rw [← o2]; exact cv_ok w o1) st2 st3 (by omega)
  rw [show f_X10_toldHow σ 0 = some (nI (tdx (mn τ) 0)) from x_told hT hq0 (by decide), bC_e, a1, bD_e, show f_X11_toldCode τ 0 = some _ from m_told hM.2.2.2.2.2.1 hq0 (by decide), bC_e, b1, o2]
  refine ⟨_, _, _, rfl, rfl, RS_layers (fr_mono a2 (by decide)) b2 rs, a3, ?_, st + m, by omega, b3, b5⟩
  obtain ⟨p1, nn, p2, p3, p4, p5⟩ := sm1
  refine ⟨fun p hp => ?_, nn, p2, (hfr_f b2 (by decide)).trans p3, fun i hi => ?_, fun c hc => ?_⟩
  · rw [hfr_a b2 (by decide) (by decide)]; exact p1 p hp
  · rw [hfr_a b2 (by decide) (by decide)]; exact p4 i hi
  · rw [hfr_a b2 (by decide) (by decide)]
    rcases p5 c hc with q | ⟨i, i1, i2⟩
    · exact Or.inl q
    · exact Or.inr ⟨i, i1, by rw [hfr_a b2 (by decide) (by decide)]; exact i2⟩
