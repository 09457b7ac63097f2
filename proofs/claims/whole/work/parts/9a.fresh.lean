/-! fresh, whole -/
theorem FR_uniq {A : Tb} {v0 : Nat} {V1 : Nat → Nat} {V2 : Nat → Nat → Nat} {r f g r' f' g' : Int32} (h : FR A v0 V1 V2 r f g) (h' : FR A v0 V1 V2 r' f' g') : r = r' ∧ f = f' ∧ g = g' := by
  rcases h with ⟨a0, rfl, rfl, rfl⟩ | ⟨a0, e, a1, a2, a3, rfl, rfl, rfl⟩ | ⟨a0, a1, e, d, a2, a3, a4, a5, a6, rfl, rfl, rfl⟩ | ⟨a0, a1, a2, rfl, rfl, rfl⟩ <;> rcases h' with ⟨b0, rfl, rfl, rfl⟩ | ⟨b0, e', b1, b2, b3, rfl, rfl, rfl⟩ | ⟨b0, b1, e', d', b2, b3, b4, b5, b6, rfl, rfl, rfl⟩ | ⟨b0, b1, b2, rfl, rfl, rfl⟩
  · exact ⟨rfl, rfl, rfl⟩
  · exact absurd a0 b0
  · exact absurd a0 b0
  · exact absurd a0 b0
  · exact absurd b0 a0
  · have : e = e' := by
      rcases Nat.lt_trichotomy e e' with z | z | z
      · exact absurd a2 (b3 e a1 z)
      · exact z
      · exact absurd b2 (a3 e' b1 z)
    rw [this]; exact ⟨rfl, rfl, rfl⟩
  · exact absurd a2 (b1 e a1)
  · exact absurd a2 (b1 e a1)
  · exact absurd b0 a0
  · exact absurd b2 (a1 e' b1)
  · have : e = e' ∧ d = d' := by
      rcases Nat.lt_trichotomy e e' with z | z | z
      · exact absurd a5 (b6 e d a2 a3 a4 (Or.inl z))
      · refine ⟨z, ?_⟩
        rcases Nat.lt_trichotomy d d' with y | y | y
        · exact absurd a5 (b6 e d a2 a3 a4 (Or.inr ⟨z, y⟩))
        · exact y
        · exact absurd b5 (a6 e' d' b2 b3 b4 (Or.inr ⟨z.symm, y⟩))
      · exact absurd b5 (a6 e' d' b2 b3 b4 (Or.inl z))
    rw [this.1, this.2]; exact ⟨rfl, rfl, rfl⟩
  · exact absurd a5 (b2 e d a2 a3 a4)
  · exact absurd b0 a0
  · exact absurd b2 (a1 e' b1)
  · exact absurd b5 (a2 e' d' b2 b3 b4)
  · exact ⟨rfl, rfl, rfl⟩
theorem r_fresh (k : Nat) (σ τ : jS) (a b c : Int32) (hk : k < 2048) (h : Rel k σ τ) : ∃ r σ2 τ2, f_X10_fresh σ a b c = some (r, σ2) ∧ f_X11_fresh τ a b c = some (r, τ2) ∧ Rel (k + 4) σ2 τ2 := by
  have h0 := h
  obtain ⟨rs, sx, sm⟩ := h
  obtain ⟨hM, hX, hH, hS, _⟩ := id rs
  unfold f_X10_fresh f_X11_fresh f_X10_fresh_J28 f_X11_fresh_J31
  rw [show f_X11_in c.toInt64 0 2 = _ from in_wide c 0 2]
  rcases is_both (x_isQuarrel hX.1 hM.1.2.2.2.1.2 a) (m_isQuarrel hM.1 a) with ⟨q, h1, rfl, h2, h3⟩ | ⟨h2, h3⟩
  case inr =>
    rw [h2, h3]
    exact ⟨_, _, _, rfl, rfl, r_mono k _ _ h0⟩
  have q4 : q < 4 := by have := hM.1.2.2.2.1.2; omega
  rw [h2, h3, bC_e, bC_e, if_neg (show ¬ (1 : Int32) = 0 by decide), if_neg (show ¬ (1 : Int32) = 0 by decide)]
  rcases side_both b with ⟨s, s2, rfl, g2, g3⟩ | ⟨g2, g3⟩
  case inr =>
    rw [g2, g3]
    exact ⟨_, _, _, rfl, rfl, r_mono k _ _ h0⟩
  rw [g2, g3, bC_e, bC_e, if_neg (show ¬ (1 : Int32) = 0 by decide), if_neg (show ¬ (1 : Int32) = 0 by decide), bC_e]
  by_cases b0 : c < 0
  · rw [if_pos b0, if_pos b0, if_pos rfl]
    exact ⟨_, _, _, rfl, rfl, r_mono k _ _ h0⟩
  rw [if_neg b0, if_neg b0]
  by_cases b4 : 2 < c
  · rw [if_neg (Int32.not_le.mpr b4), if_pos b4, if_pos rfl]
    exact ⟨_, _, _, rfl, rfl, r_mono k _ _ h0⟩
  rw [if_pos (Int32.not_lt.mp b4), if_neg b4, if_neg (show ¬ (1 : Int32) = 0 by decide), bG_t (jin_nI q4 (by omega)), ix_nI (by omega)]
  obtain ⟨x, e1, ok, h9, e4⟩ := hH q h1
  have w := wA_of hM.1 hM.2.2.1
  obtain ⟨hw, hf⟩ := hX.2.2.2 (tQ_tP hM (by omega))
  have hP0 := tQ_tP hM (show tQ (mn τ) ≠ 0 by omega)
  obtain ⟨n, W, L, wh, tg, τ1, c1, c2, c3⟩ := m_spread hM rfl (past := 1) (by decide) (cv_ok w ok) sm
  have hM1 := mS_W (kfr_mS c3) hM
  obtain ⟨τ2, d1, d2, d3⟩ := m_takeGrudges hM1.1 hM1.2 (wo := 0) (by decide)
  have S2 : MS (mn τ) 1 (cv (mn τ) x) n W n L wh tg τ2 := MS_s d2 rfl c2
  have k2 : kfr τ1 τ2 := fun a i p _ => fr_I d2 (by unfold kH at p; simp at p ⊢; omega) i
  have hM2 := mS_W (kfr_mS k2) hM1.1
  have HB2 : HB τ2 (mn τ) := fun a b ha hb => by rw [d3 a b ha hb, brW_0]
  -- the values
  obtain ⟨v0, iv0⟩ := isV_ex (B := mn τ) S2 w s2
  have hv1 : ∃ V1 : Nat → Nat, ∀ e, isV (aT (mn τ) e) s n W L wh tg (V1 e) ∧ V1 e ≤ 6273 := ⟨fun e => Classical.choose (isV_ex (B := aT (mn τ) e) S2 w s2), fun e => Classical.choose_spec (isV_ex (B := aT (mn τ) e) S2 w s2)⟩
  obtain ⟨V1, iv1⟩ := hv1
  have hv2 : ∃ V2 : Nat → Nat → Nat, ∀ e g, isV (aT (aT (mn τ) e) g) s n W L wh tg (V2 e g) ∧ V2 e g ≤ 6273 := ⟨fun e g => Classical.choose (isV_ex (B := aT (aT (mn τ) e) g) S2 w s2), fun e g => Classical.choose_spec (isV_ex (B := aT (aT (mn τ) e) g) S2 w s2)⟩
  obtain ⟨V2, iv2⟩ := hv2
  have sym : ∀ e g, e < 256 → g < 256 → V2 e g = V2 g e := fun e g he hg => isV_uniq S2 (iv2 e g).1 (isV_cong S2 (fun p q hp hq => by
    rw [aT_bears he (by omega) (by omega), aT_bears hg (by omega) (by omega), aT_bears hg (by omega) (by omega), aT_bears he (by omega) (by omega), Bool.or_assoc, Bool.or_assoc, Bool.or_comm (isPr (g / 16) (g % 16) p q)]) (iv2 g e).1)
  obtain ⟨r, f, g, τ3, m1, m2, m3, m4, m5, m6⟩ := m_findFresh hM2.1 (hM2.2.trans hM1.2) w s2 (by omega) S2 HB2 iv0.1 (fun e => (iv1 e).1) (fun e g => (iv2 e g).1)
  obtain ⟨r', f', g', σ', n1, n2, n3, n4, n5, n6, n7⟩ := x_seek (k := k) (by omega) w hw hf ok sx S2 s2 iv0 iv1 iv2 sym
  obtain ⟨rfl, rfl, rfl⟩ := FR_uniq m4 n5
  have kk := kfr_tr c3 (kfr_tr k2 m6)
  have RX : Rel (k + 4) σ' τ3 := r_mono k _ _ ⟨RS_scratch n6 kk rs, n7, MS_sM m5 kk sm⟩
  rw [at30 q4, bC_e, e1, n1, bD_e, h9, show f_X11_spread τ (nI (cv (mn τ) x)) 1 = some ((), τ1) from c1, bD_e, show f_X11_takeGrudges τ1 0 = some ((), τ2) from d1, bD_e, m1, bD_e]
  unfold f_X11_fresh_J83
  by_cases z0 : c = 0
  · rw [if_pos z0, if_pos z0, n2]
    exact ⟨_, _, _, rfl, rfl, RX⟩
  rw [if_neg z0, if_neg z0]
  unfold f_X2_pairTold
  by_cases z1 : c = 1
  · rw [if_pos z1, if_pos z1, n3, bC_e, m2]
    exact ⟨_, _, _, rfl, rfl, RX⟩
  · rw [if_neg z1, if_neg z1, n4, bC_e, m3]
    exact ⟨_, _, _, rfl, rfl, RX⟩
