/-! turn, grudge, may, quarrel -/
theorem q_turn {σ τ : jS} (hN : wN τ) (hTm : wT τ) (hT : xT σ (mn τ)) (a b : Int32) : ∃ r, f_X10_turn σ a b = some r ∧ f_X11_turn τ a b = some r := by
  unfold f_X10_turn f_X11_turn f_X11_turn_J50
  rw [hN.2.1.1]
  rcases is_both (Q := fun a => f_X11_in a.toInt64 0 ((nI (tT (mn τ)) - 1).toInt64)) (x_isTurn hT hN.2.1.2 a) (in_of (x := a) (n := tT (mn τ)) (by have := hN.2.1.2; omega)) with ⟨t, h1, rfl, h2, h3⟩ | ⟨h2, h3⟩
  · replace h3 : f_X11_in (nI t).toInt64 0 ((nI (tT (mn τ)) - 1).toInt64) = some 1 := h3
    rw [h2, h3, bC_e, bC_e, if_neg (show ¬ (1 : Int32) = 0 by decide), if_neg (show ¬ (1 : Int32) = 0 by decide)]
    have h40 : t < 40 := by have := hN.2.1.2; omega
    obtain ⟨m1, m2, _⟩ := hTm.1 t h1
    obtain ⟨n1, n2⟩ := hT.2.2.2.2.2.1 t h1
    by_cases z : b = 0
    · rw [if_pos z, if_pos z, bV_e, bH_t (T_in hT.1), atT hT.1 (n := 40) (by decide) h40, bC_e, bG_t (jin_nI h40 (by omega)), ix_nI (by omega), m1, n1]
      exact ⟨_, rfl, rfl⟩
    · rw [if_neg z, if_neg z]
      by_cases z2 : b = 1
      · rw [if_pos z2, if_pos z2, bV_e, bH_t (T_in hT.1), atT hT.1 (n := 40) (by decide) h40, bC_e, bG_t (jin_nI h40 (by omega)), ix_nI (by omega), m2, n2]
        exact ⟨_, rfl, rfl⟩
      · rw [if_neg z2, if_neg z2]
        exact ⟨_, rfl, rfl⟩
  · replace h3 : f_X11_in a.toInt64 0 ((nI (tT (mn τ)) - 1).toInt64) = some 0 := h3
    rw [h2, h3]
    exact ⟨_, rfl, rfl⟩
theorem at33 {σ : jS} {i : Nat} (h : i < 120) : f_X6_at σ 33 (nI i) = some (gI σ 33 i) := x_at (by decide) rfl h (by decide)
theorem at34 {σ : jS} {i : Nat} (h : i < 120) : f_X6_at σ 34 (nI i) = some (gI σ 34 i) := x_at (by decide) rfl h (by decide)
theorem at35 {σ : jS} {i : Nat} (h : i < 16) : f_X6_at σ 35 (nI i) = some (gI σ 35 i) := x_at (by decide) rfl h (by decide)
theorem q_grudge {σ τ : jS} (hN : wN τ) (hGm : wG τ) (hG : xG σ (mn τ)) (a : Int32) : ∃ r, f_X10_grudge σ a = some r ∧ f_X11_grudge τ a = some r := by
  unfold f_X10_grudge f_X10_grudge_J18 f_X11_grudge f_X11_grudge_J28
  rw [hN.2.2.1.1, hG.1]
  have h120 := hN.2.2.1.2
  rcases in_of (x := a) (n := tG (mn τ)) (by omega) with ⟨g, h1, rfl, h3⟩ | ⟨h1, h3⟩
  · rw [h3, bC_e, if_neg (nI_pos (by omega)), if_pos (nI_lt h1 (by omega)), if_neg (show ¬ (1 : Int32) = 0 by decide), at33 (by omega), at34 (by omega), bC_e, bC_e, bG_t (jin_nI (show g < 120 by omega) (by omega)), ix_nI (by omega), (hGm.1 g h1).1, (hG.2.1 g h1).1, (hG.2.1 g h1).2]
    refine ⟨_, rfl, ?_⟩
    rw [show (100 : Int32) = nI 100 from rfl, nI_mul, nI_add, Nat.div_add_mod]
  · rw [h3, bC_e, if_pos rfl]
    refine ⟨-1001, ?_, rfl⟩
    by_cases h0 : a < 0
    · rw [if_pos h0]
    · obtain ⟨j, hj, rfl⟩ := nI_of h0
      rw [if_neg h0, if_neg]
      intro z
      have := (nI_ltI hj (by omega)).mp z
      exact h1 j this rfl
/-- the present states of the quarrels -/
def xH (σ τ : jS) : Prop := ∀ q, q < tQ (mn τ) → ∃ x, gI σ 30 q = nI x ∧ okx (mn τ) x ∧ gI τ 9 q = nI (cv (mn τ) x) ∧ gI σ 31 q = gI τ 10 q
theorem ow_now {τ : jS} (hN : wN τ) (hO : wO τ) (hu : gI τ 1 35 = -1) {c : Nat} (hc : c < 147968) : ∀ s, s < 2 → f_X11_owedNow τ (nI (cHold c s)) = some (nI (bm (owes (mn τ) (cHold c s)) 16)) := fun s _ => m_owedNow hO hu (cHold_lt hc)
theorem may_ended {A : Tb} (w : wA A) {x : Nat} (h : okx A x) : (if ended A (cv A x) then 0 else bm (mayP A (cv A x) (x % 2)) 16) = nowG A (owes A) (cv A x) := by
  unfold nowG
  rw [stG_owes, cv_side w h]
  unfold stN mayS
  cases he : ended A (cv A x) with
  | true => rfl
  | false =>
    rw [if_neg (by decide), if_neg (show ¬ false = true by decide)]
    by_cases z : bm (mayP A (cv A x) 0) 16 = 0 ∧ bm (mayP A (cv A x) 1) 16 = 0
    · rw [if_pos z, if_neg (by decide)]
      have : x % 2 = 0 ∨ x % 2 = 1 := by omega
      rcases this with q | q <;> rw [q]
      · exact z.1
      · exact z.2
    · rw [if_neg z, if_pos rfl]
      rfl
theorem q_may {σ τ : jS} (hN : wN τ) (hS : wS τ) (hTm : wT τ) (hO : wO τ) (hGm : wG τ) (hu : gI τ 1 35 = -1) (hT : xT σ (mn τ)) (hH : xH σ τ) (hW : tQ (mn τ) ≠ 0 → xW σ (mn τ) ∧ xF σ (mn τ)) (a : Int32) : ∃ r, f_X10_may σ a = some r ∧ f_X11_may τ a = some r := by
  unfold f_X10_may f_X11_may f_X11_may_J24
  rcases is_both (x_isQuarrel hT hN.2.2.2.1.2 a) (m_isQuarrel hN a) with ⟨q, h1, rfl, h2, h3⟩ | ⟨h2, h3⟩
  · obtain ⟨hw, hf⟩ := hW (by omega)
    have w := wA_of hN hTm
    have q4 : q < 4 := by have := hN.2.2.2.1.2; omega
    obtain ⟨x, e1, e2, e3, _⟩ := hH q h1
    have hc := cv_lt w e2
    rw [h2, h3, bC_e, bC_e, if_neg (show ¬ (1 : Int32) = 0 by decide), if_neg (show ¬ (1 : Int32) = 0 by decide), at30 q4, bC_e, e1, x_allowed w hw hf e2, bC_e, bG_t (jin_nI q4 (by omega)), ix_nI (by omega), e3, m_mayNow hN hS hGm hc (ow_now hN hO hu hc), bC_e, may_ended w e2]
    exact ⟨_, rfl, rfl⟩
  · rw [h2, h3]
    exact ⟨_, rfl, rfl⟩
theorem q_quarrel {σ τ : jS} (hN : wN τ) (hS : wS τ) (hTm : wT τ) (hO : wO τ) (hGm : wG τ) (hu : gI τ 1 35 = -1) (hT : xT σ (mn τ)) (hH : xH σ τ) (hW : tQ (mn τ) ≠ 0 → xW σ (mn τ) ∧ xF σ (mn τ)) (a b : Int32) : ∃ r, f_X10_quarrel σ a b = some r ∧ f_X11_quarrel τ a b = some r := by
  unfold f_X10_quarrel f_X11_quarrel
  rcases is_both (x_isQuarrel hT hN.2.2.2.1.2 a) (m_isQuarrel hN a) with ⟨q, h1, rfl, h2, h3⟩ | ⟨h2, h3⟩
  · obtain ⟨hw, hf⟩ := hW (by omega)
    have w := wA_of hN hTm
    have q4 : q < 4 := by have := hN.2.2.2.1.2; omega
    obtain ⟨x, e1, e2, e3, e4⟩ := hH q h1
    have hc := cv_lt w e2
    rw [h2, h3, bC_e, bC_e, if_neg (show ¬ (1 : Int32) = 0 by decide), if_neg (show ¬ (1 : Int32) = 0 by decide), at30 q4, bC_e, e1]
    have g : jin (nI q) 4 = true := jin_nI q4 (by omega)
    have gi : ix (nI q) = q := ix_nI (by omega)
    have hh0 := x_holder hw e2 (s := 0) (by decide)
    have hh1 := x_holder hw e2 (s := 1) (by decide)
    have hf0 := x_fromWhom hw e2 (s := 0) (by decide)
    have hf1 := x_fromWhom hw e2 (s := 1) (by decide)
    rw [← cv_hold w e2 (by decide)] at hh0 hh1
    rw [← cv_fr w e2 (by decide)] at hf0 hf1
    by_cases z0 : b = 0
    · rw [if_pos z0, if_pos z0, bG_t g, gi, e3, m_one hc]
      exact ⟨_, by rw [show (0 : Int32) = nI 0 from rfl, hh0]; rfl, rfl⟩
    rw [if_neg z0, if_neg z0]
    by_cases z1 : b = 1
    · rw [if_pos z1, if_pos z1, bG_t g, gi, e3, m_two hc]
      exact ⟨_, by rw [show (1 : Int32) = nI 1 from rfl, hh1]; rfl, rfl⟩
    rw [if_neg z1, if_neg z1]
    by_cases z2 : b = 2
    · rw [if_pos z2, if_pos z2, bG_t g, gi, e3, m_side hc, cv_side w e2, and1]
      exact ⟨_, rfl, rfl⟩
    rw [if_neg z2, if_neg z2]
    by_cases z3 : b = 3
    · rw [if_pos z3, if_pos z3, bG_t g, gi, e3, m_from0 hc]
      exact ⟨_, by rw [show (0 : Int32) = nI 0 from rfl, hf0]; rfl, rfl⟩
    rw [if_neg z3, if_neg z3]
    by_cases z4 : b = 4
    · rw [if_pos z4, if_pos z4, bG_t g, gi, e3, m_from1 hc]
      exact ⟨nI (cFr (cv (mn τ) x) 1) - 1, by rw [show f_X0_fromWhom σ (nI x) 1 = some (nI (cFr (cv (mn τ) x) 1) - 1) from hf1]; rfl, rfl⟩
    rw [if_neg z4, if_neg z4]
    by_cases z5 : b = 5
    · rw [if_pos z5, if_pos z5, bG_t g, gi, e3, m_stateOf hN hS hGm hc (ow_now hN hO hu hc), x_howIs w hw hf e2, stG_owes]
      exact ⟨_, rfl, rfl⟩
    rw [if_neg z5, if_neg z5]
    by_cases z6 : b = 6
    · rw [if_pos z6, if_pos z6, bG_t g, gi, at31 q4, e4]
      exact ⟨_, rfl, rfl⟩
    rw [if_neg z6, if_neg z6]
    exact ⟨_, rfl, rfl⟩
  · rw [h2, h3]
    exact ⟨_, rfl, rfl⟩
