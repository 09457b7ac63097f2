/-! most, worth -/
theorem lfU_0 : ∀ n, bm (fun t => !(0 : Nat).testBit t) n = 2 ^ n - 1
  | 0 => rfl
  | n + 1 => by
    rw [bm, lfU_0 n, Nat.zero_testBit]
    have := Nat.two_pow_pos n
    rw [Nat.pow_succ]
    simp
    omega
theorem all_lf {A : Tb} (hT : tT A ≤ 8) : ((1 : Int32) <<< (nI (tT A) &&& 31)) - (1 : Int32) = nI (lfU A 0) := by
  have := Nat.two_pow_pos (tT A)
  rw [nI_shl1 _ (by omega), show (1 : Int32) = nI 1 from rfl, nI_sub (by omega)]
  exact congrArg nI (lfU_0 _).symm
theorem q_most0 {k : Nat} {σ τ : jS} (h : Rel k σ τ) (hT : tT (mn τ) ≤ 8) : ∃ b σ' τ', b < 16 ∧ f_X4_mostEnded σ σ.2.2.1 0 = some (nI b, σ') ∧ f_X11_mostSet τ (nI (lfU (mn τ) 0)) = some (nI b, τ') ∧ Rel k σ' τ' ∧ mn τ' = mn τ := q_most h (u0 := 0) hT (Nat.two_pow_pos _)
theorem r_most (k : Nat) (σ τ : jS) (a : Int32) (_hk : k < 2048) (h : Rel k σ τ) : ∃ r σ2 τ2, f_X10_most σ a = some (r, σ2) ∧ f_X11_most τ a = some (r, τ2) ∧ Rel (k + 4) σ2 τ2 := by
  have h0 := h
  obtain ⟨⟨hM, hX, _⟩, _, _⟩ := h
  have hT := hX.1
  have t40 := hM.1.2.1.2
  have e7 : gI σ σ.2.2.1 7 = nI (tT (mn τ)) := hT.2.2.1
  have e2 : gI τ 1 2 = nI (tT (mn τ)) := hM.1.2.1.1
  unfold f_X10_most f_X11_most f_X10_most_J13 f_X10_most_J58 f_X11_most_J52
  rw [show f_X11_in a.toInt64 0 1 = _ from in01 a, bC_e]
  have go : (a = 0 ∨ a = 1) → ∃ r σ2 τ2, (bV (σ.2.2.1) fun t1 => bH [51, 61] t1 (if (gI σ t1 7) ≤ 8 then (bV (σ.2.2.1) fun t2 => bD (f_X4_mostEnded σ t2 0) fun r3 σ4 => if a = 0 then (bC (f_J6_bitCount_0f7a4 r3) fun r5 => some (r5, σ4)) else some (r3, σ4)) else (some (((-1003 : Int32), σ))))) = some (r, σ2) ∧ (if (gI τ 1 2) ≤ 8 then (bD (f_X11_mostSet τ (((1 : Int32) <<< ((gI τ 1 2) &&& 31)) - (1 : Int32))) fun r2 σ3 => if a = 0 then (bC (f_X11_bits r2) fun r4 => some (r4, σ3)) else some (r2, σ3)) else (some (((-1003 : Int32), τ)))) = some (r, τ2) ∧ Rel (k + 4) σ2 τ2 := fun _ => by
    rw [bV_e, bH_t (T_in hT.1), e7, e2]
    by_cases z : tT (mn τ) ≤ 8
    · obtain ⟨b, σ', τ', b16, a1, a2, a3, _⟩ := q_most0 h0 z
      rw [if_pos (show nI (tT (mn τ)) ≤ 8 from nI_le (b := 8) z (by decide)), if_pos (show nI (tT (mn τ)) ≤ 8 from nI_le (b := 8) z (by decide)), bV_e, a1, bD_e, all_lf z, a2, bD_e]
      by_cases y : a = 0
      · rw [if_pos y, if_pos y, bc_N (by omega), bits_N (by omega)]
        exact ⟨_, _, _, rfl, rfl, r_mono k _ _ a3⟩
      · rw [if_neg y, if_neg y]
        exact ⟨_, _, _, rfl, rfl, r_mono k _ _ a3⟩
    · rw [if_neg (show ¬ nI (tT (mn τ)) ≤ 8 from nI_ge (a := 8) (by omega) (by omega)), if_neg (show ¬ nI (tT (mn τ)) ≤ 8 from nI_ge (a := 8) (by omega) (by omega))]
      exact ⟨_, _, _, rfl, rfl, r_mono k _ _ h0⟩
  by_cases z0 : a = 0
  · rw [if_pos z0, if_pos (Or.inl z0), if_neg (show ¬ (1 : Int32) = 0 by decide)]
    exact go (Or.inl z0)
  · rw [if_neg z0]
    by_cases z1 : a = 1
    · rw [if_pos z1, if_pos (Or.inr z1), if_neg (show ¬ (1 : Int32) = 0 by decide)]
      exact go (Or.inr z1)
    · rw [if_neg z1, if_neg (show ¬ (a = 0 ∨ a = 1) from fun e => e.elim z0 z1), if_pos rfl]
      exact ⟨_, _, _, rfl, rfl, r_mono k _ _ h0⟩
theorem r_worth (k : Nat) (σ τ : jS) (a : Int32) (_hk : k < 2048) (h : Rel k σ τ) : ∃ r σ2 τ2, f_X10_worth σ a = some (r, σ2) ∧ f_X11_worth τ a = some (r, τ2) ∧ Rel (k + 4) σ2 τ2 := by
  have h0 := h
  obtain ⟨⟨hM, hX, _⟩, _, _⟩ := h
  have hT := hX.1
  have t40 := hM.1.2.1.2
  have e7 : gI σ σ.2.2.1 7 = nI (tT (mn τ)) := hT.2.2.1
  have e2 : gI τ 1 2 = nI (tT (mn τ)) := hM.1.2.1.1
  unfold f_X10_worth f_X11_worth
  rw [e2]
  rcases is_both (Q := fun a => f_X11_in a.toInt64 0 ((nI (tT (mn τ)) - 1).toInt64)) (x_isTurn hT hM.1.2.1.2 a) (in_of (x := a) (n := tT (mn τ)) (by omega)) with ⟨t, h1, rfl, h2, h3⟩ | ⟨h2, h3⟩
  · replace h3 : f_X11_in (nI t).toInt64 0 ((nI (tT (mn τ)) - 1).toInt64) = some 1 := h3
    rw [h2, h3, bC_e, bC_e, if_neg (show ¬ (1 : Int32) = 0 by decide), if_neg (show ¬ (1 : Int32) = 0 by decide), bV_e, bH_t (T_in hT.1), e7]
    by_cases z : tT (mn τ) ≤ 8
    · obtain ⟨b, σ1, τ1, b16, a1, a2, a3, a4⟩ := q_most0 h0 z
      obtain ⟨c, σ2, τ2, c16, c1, c2, c3, _⟩ := q_most a3 (u0 := 2 ^ t) (by rw [a4]; exact z) (by rw [a4]; exact Nat.pow_lt_pow_right (by decide) h1)
      have dr := lfU_drop (A := mn τ) (u := 0) z h1
      rw [Nat.zero_or] at dr
      rw [a4] at c2
      rw [if_pos (show nI (tT (mn τ)) ≤ 8 from nI_le (b := 8) z (by decide)), if_pos (show nI (tT (mn τ)) ≤ 8 from nI_le (b := 8) z (by decide)), bV_e, a1, bD_e, bc_N (by omega), bC_e, bV_e, nI_shl1 t (by omega), c1, bD_e, bc_N (by omega), bC_e, all_lf z, bV_e, a2, bD_e, bits_N (by omega), bC_e, ← nI_shl1 t (by omega), dr, c2, bD_e, bits_N (by omega), bC_e]
      exact ⟨_, _, _, rfl, rfl, r_mono k _ _ c3⟩
    · rw [if_neg (show ¬ nI (tT (mn τ)) ≤ 8 from nI_ge (a := 8) (by omega) (by omega)), if_neg (show ¬ nI (tT (mn τ)) ≤ 8 from nI_ge (a := 8) (by omega) (by omega))]
      exact ⟨_, _, _, rfl, rfl, r_mono k _ _ h0⟩
  · replace h3 : f_X11_in a.toInt64 0 ((nI (tT (mn τ)) - 1).toInt64) = some 0 := h3
    rw [h2, h3]
    exact ⟨_, _, _, rfl, rfl, r_mono k _ _ h0⟩
