/-! feed -/
theorem byte_of (x : Int32) : ∃ c, c < 256 ∧ x &&& 255 = nI c := by
  refine ⟨x.toBitVec.toNat &&& 255, Nat.lt_of_le_of_lt Nat.and_le_right (by decide), ?_⟩
  apply Int32.toBitVec_inj.mp
  rw [Int32.toBitVec_and]
  apply BitVec.eq_of_toNat_eq
  rw [BitVec.toNat_and]
  show x.toBitVec.toNat &&& 255 = (BitVec.ofNat 32 (x.toBitVec.toNat &&& 255)).toNat
  rw [BitVec.toNat_ofNat, Nat.mod_eq_of_lt]
  exact Nat.lt_of_le_of_lt Nat.and_le_right (by decide)
theorem byte_both (v : Int64) : (v &&& (255 : Int64)).toInt32 = v.toInt32 &&& (255 : Int32) := by
  rw [Int64.toInt32_and]
  rfl
/-- a letter more in both texts -/
theorem r_app {k : Nat} {σ τ : jS} (h : Rel k σ τ) {L c : Nat} (hL : gI σ 2 1 = nI L) (h5 : L < 500) (hc : c < 256) : Rel k (sI (sI σ 3 L (nI c)) 2 1 (nI (L + 1))) (sI (sI τ 11 L (nI c)) 1 16 (nI (L + 1))) := by
  obtain ⟨⟨hM, hX, hH, hS, hTT, hTx, hFl, hLg, hSe, hI⟩, sx, sm⟩ := h
  obtain ⟨m1, m2⟩ := mS_W (mS_tr (mS_sI τ (h := 11) (i := L) (nI c) rfl rfl rfl) (mS_sI _ (h := 1) (i := 16) (nI (L + 1)) rfl rfl rfl)) hM
  obtain ⟨n, t1, t2, t3, t4⟩ := hTx
  have en : n = L := (nI_eq (by omega) (by omega)).mp (t2.symm.trans hL)
  subst en
  refine ⟨⟨m1, ?_, ?_, ?_, hTT, ?_, hFl, ?_, ?_, ?_⟩, ?_, ?_⟩
  · rw [m2]; exact xS_W (xS_tr (xS_sI σ (h := 3) (i := n) (nI c) rfl) (xS_sI _ (h := 2) (i := 1) _ rfl)) hX
  · exact xH_keep m2 (kp_tr (kp_sI _ _ _ rfl) (kp_sI _ _ _ rfl)) (kp_tr (kp_sI _ _ _ rfl) (kp_sI _ _ _ rfl)) hH
  · exact rS_keep (σ := σ) (τ := τ) rfl rfl hS
  · refine ⟨n + 1, by omega, gI_sI _ _ _ _, gI_sI _ _ _ _, fun i hi => ?_⟩
    rw [gI_ne (show (3 : Nat) ≠ 2 by decide), gI_ne (show (11 : Nat) ≠ 1 by decide)]
    by_cases z : i = n
    · subst z
      exact ⟨c, hc, gI_sI _ _ _ _, gI_sI _ _ _ _⟩
    · rw [gI_nei z, gI_nei z]; exact t4 i (by omega)
  · rw [m2]; exact rLg_keep (σ := σ) (τ := τ) rfl rfl (kp_tr (kp_sI _ _ _ rfl) (kp_sI _ _ _ rfl)) (kp_tr (kp_sI _ _ _ rfl) (kp_sI _ _ _ rfl)) hLg
  · rw [m2]; exact rSe_keep (σ := σ) (τ := τ) rfl rfl (kp_tr (kp_sI _ _ _ rfl) (kp_sI _ _ _ rfl)) (kp_tr (kp_sI _ _ _ rfl) (kp_sI _ _ _ rfl)) hSe
  · rw [m2]; exact rI_keep (kp_tr (kp_sI _ _ _ rfl) (kp_sI _ _ _ rfl)) (kp_tr (kp_sI _ _ _ rfl) (kp_sI _ _ _ rfl)) hI
  · exact sX_keep (kp_tr (kp_sI _ _ _ rfl) (kp_sI _ _ _ rfl)) rfl rfl sx
  · exact sM_keep (kp_tr (kp_sI _ _ _ rfl) (kp_sI _ _ _ rfl)) rfl rfl sm
theorem at3 {σ : jS} {i : Nat} (h : i < 500) : f_X6_at σ 3 (nI i) = some (gI σ 3 i) := x_at (by decide) rfl h (by decide)
theorem put3 {σ : jS} {i : Nat} {v : Int32} (h : i < 500) : f_X6_put σ 3 (nI i) v = some ((), sI σ 3 i v) := x_put (by decide) rfl h (by decide)
theorem r_feed (k : Nat) (σ τ : jS) (a : Int32) (b : Int64) (_hk : k < 2048) (h : Rel k σ τ) : ∃ r σ2 τ2, f_X10_feed σ a b = some (r, σ2) ∧ f_X11_feed τ a b = some (r, τ2) ∧ Rel (k + 4) σ2 τ2 := by
  have h0 := h
  obtain ⟨L, t1, t2, t3, t4⟩ := h.1.2.2.2.2.2.1
  unfold f_X10_feed f_X11_feed f_X10_feed_J11
  rw [show (1 : Int64) = (1 : Int32).toInt64 from by decide, show (8 : Int64) = (8 : Int32).toInt64 from by decide, in_wide, bC_e]
  by_cases z1 : a < 1
  · rw [if_pos z1, if_pos z1, if_pos rfl]; exact ⟨_, _, _, rfl, rfl, r_mono k _ _ h0⟩
  rw [if_neg z1, if_neg z1]
  by_cases z2 : a ≤ 8
  case neg => rw [if_neg z2, if_pos (Int32.not_le.mp z2), if_pos rfl]; exact ⟨_, _, _, rfl, rfl, r_mono k _ _ h0⟩
  rw [if_pos z2, if_neg (Int32.not_lt.mpr z2), if_neg (show ¬ (1 : Int32) = 0 by decide)]
  obtain ⟨n, hn, rfl⟩ := nI_of (x := a) (fun e => z1 (Int32.lt_trans e (by decide)))
  have hn8 : n ≤ 8 := (nI_leI (b := 8) hn (by decide)).mp z2
  have hn1 : 1 ≤ n := by
    rcases Nat.lt_or_ge n 1 with y | y
    · exact absurd (nI_lt (b := 1) y (by decide)) z1
    · exact y
  rw [t2, t3, nI_add]
  by_cases z3 : L + n ≤ 500
  case neg =>
    rw [if_neg (show ¬ nI (L + n) ≤ 500 from nI_ge (a := 500) (by omega) (by omega)), if_neg (show ¬ nI (L + n) ≤ 500 from nI_ge (a := 500) (by omega) (by omega))]
    exact ⟨_, _, _, rfl, rfl, r_mono k _ _ h0⟩
  rw [if_pos (show nI (L + n) ≤ 500 from nI_le (b := 500) z3 (by decide)), if_pos (show nI (L + n) ≤ 500 from nI_le (b := 500) z3 (by decide)), bV_e, bV_e]
  have key := jloop_both (f := fun s => f_X10_feed_B39 s.2 b s.1) (g := fun s => f_X11_feed_B37 s.2 b s.1) (fun m (s t : Int32 × jS) => ∃ l, s.1 = nI m - 1 ∧ t.1 = nI m - 1 ∧ m ≤ 8 ∧ l + m ≤ 500 ∧ gI s.2 2 1 = nI l ∧ Rel k s.2 t.2) (fun (o o' : Int32 × jS) => o.1 = o'.1 ∧ Rel k o.2 o'.2) ?_ jFuel n (nI n - 1, σ) (nI n - 1, τ) ⟨L, rfl, rfl, hn8, z3, t2, h0⟩ (jfuel_big (by omega))
  · obtain ⟨o, o', a1, a2, a3⟩ := key
    refine ⟨o.1, o.2, o'.2, a1, ?_, r_mono k _ _ a3.2⟩
    rw [a2, a3.1]
  · rintro m ⟨sa, s⟩ ⟨ta, t⟩ ⟨l, rfl, rfl, m8, lm, hl, hR⟩
    replace hl : gI s 2 1 = nI l := hl
    replace hR : Rel k s t := hR
    have tl : gI t 1 16 = nI l := by
      obtain ⟨l2, u1, u2, u3, _⟩ := hR.1.2.2.2.2.2.1
      rw [u3, ← u2, hl]
    show (∃ s' t' n', f_X10_feed_B39 s b (nI m - 1) = _ ∧ f_X11_feed_B37 t b (nI m - 1) = _ ∧ _) ∨ (∃ o o', f_X10_feed_B39 s b (nI m - 1) = _ ∧ f_X11_feed_B37 t b (nI m - 1) = _ ∧ _)
    unfold f_X10_feed_B39 f_X11_feed_B37 f_X10_feed_J69 f_X11_feed_J79
    rcases Nat.eq_zero_or_pos m with z | z
    · subst z
      rw [if_pos (show nI 0 - 1 < 0 by decide), if_pos (show nI 0 - 1 < 0 by decide), jw_e, jw_e]
      exact Or.inr ⟨_, _, rfl, rfl, hl.trans tl.symm, hR⟩
    · have e1 : nI m - 1 = nI (m - 1) := by rw [show (1 : Int32) = nI 1 from rfl, nI_sub (by omega)]
      rw [e1, if_neg (nI_pos (by omega)), if_neg (nI_pos (by omega)), byte_both]
      obtain ⟨c, c1, c2⟩ := byte_of ((b >>> (((8 : Int32) * nI (m - 1)).toInt64 &&& 63)).toInt32)
      unfold f_X5_append
      rw [c2, hl, tl, if_pos (show nI l < 500 from nI_lt (b := 500) (by omega) (by decide)), put3 (by omega), bD_e, gI_ne (by decide), hl, bV_e, bD_e, bV_e, bG_t (jin_nI (by omega) (by omega)), ix_nI (by omega), bV_e, gI_ne (by decide), tl, bV_e, bV_e, nI_1]
      refine Or.inl ⟨_, _, m - 1, rfl, rfl, by omega, l + 1, ?_, ?_, by omega, by omega, gI_sI _ _ _ _, r_app hR hl (by omega) c1⟩
      · show nI (m - 1) + -1 = nI (m - 1) - 1
        simp [Int32.sub_eq_add_neg]
      · show nI (m - 1) + -1 = nI (m - 1) - 1
        simp [Int32.sub_eq_add_neg]
