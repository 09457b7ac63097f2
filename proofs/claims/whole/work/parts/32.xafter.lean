/-! the spot for one, the state after -/
theorem x_state {a b s : Nat} : f_X0_state (nI a) (nI b) (nI s) = some (nI ((a * 56 + b) * 2 + s)) := by
  unfold f_X0_state
  rw [show (56 : Int32) = nI 56 from rfl, show (2 : Int32) = nI 2 from rfl, nI_mul, nI_add, nI_mul, nI_add]
/-- x's state after a handing to the spot d -/
def afx (x d : Nat) : Nat := if x % 2 = 0 then (d * 56 + x1 x) * 2 + 1 else (x0 x * 56 + d) * 2
theorem x_after {x d : Nat} (h : x < 6272) : f_X0_after (nI x) (nI d) = some (nI (afx x d)) := by
  unfold f_X0_after f_X0_after_J29 afx
  rw [and1]
  have : x % 2 = 0 ∨ x % 2 = 1 := by omega
  rcases this with q | q <;> rw [q]
  · rw [if_pos (show nI 0 = 0 from rfl), x_spot1 h, bC_e, show (1 : Int32) = nI 1 from rfl, x_state, bC_e, if_pos rfl]
  · rw [if_neg (show ¬ nI 1 = 0 by decide), x_spot0 h, bC_e, show (0 : Int32) = nI 0 from rfl, x_state, bC_e, if_neg (by decide), Nat.add_zero]
theorem x_spotFor {σ : jS} {A : Tb} (w : wA A) (hW : xW σ A) {x q : Nat} (h : okx A x) (hq : mayP A (cv A x) (x % 2) q = true) : ∃ d, d < 56 ∧ ows A x (x % 2) d = true ∧ hs A d = q ∧ f_X0_spotFor σ (nI x) (nI q) = some (nI d) := by
  obtain ⟨d, d1, d2, d3, d4⟩ := may_ows w h (Nat.mod_lt x (by decide)) hq
  have hv := (ows_may w h (Nat.mod_lt x (by decide)) d2).2
  have hq16 : q < 16 := by rw [← d3]; exact hs_lt w hv
  refine ⟨d, d1, d2, d3, ?_⟩
  unfold f_X0_spotFor
  rw [x_onwardOf w hW h, bC_e, at10 hq16, bC_e, hW.2.2.2.2.2 q hq16, fb_andL]
  have lw : lowAt (bm (ows A x (x % 2)) 56 &&& bm (heldBy A q) 56) d := by
    constructor
    · rw [Nat.testBit_and, bm_bit, bm_bit, d2, held_hs hv, d3]
      simp [d1]
    · intro i hi
      rw [Nat.testBit_and, bm_bit, bm_bit]
      cases ho : ows A x (x % 2) i with
      | false => simp
      | true =>
        rw [held_hs (ows_may w h (Nat.mod_lt x (by decide)) ho).2]
        by_cases e : hs A i = q
        · have := d4 i ho e
          omega
        · simp [e]
  rw [x_lowest lw (Nat.lt_of_le_of_lt Nat.and_le_left (bm56 _)), bC_e]
theorem afx_ok {A : Tb} (w : wA A) {x d : Nat} (h : okx A x) (hd : ows A x (x % 2) d = true) : okx A (afx x d) ∧ cv A (afx x d) = behQ A (cv A x) (hs A d) := by
  obtain ⟨t, ht, e, j1, j2, j3, j4⟩ := (ows_turn w h d).mp hd
  have hv := (ows_may w h (Nat.mod_lt x (by decide)) hd).2
  have hd56 := hv.1
  have hf : fs A d = if tB A = 0 then 0 else hs A (xs x (x % 2)) + 1 := by
    subst e
    have h1 := (w.2.2.2.1 t ht).1
    have := w.1
    rw [j2]
    unfold fs byT
    by_cases q : tB A = 0
    · rw [if_pos q, if_pos (by omega), if_pos q]
    · rw [if_neg q, if_neg (by omega), Nat.add_sub_cancel_left, if_neg q]
  have hj : hs A d ≠ hs A (xs x (1 - x % 2)) := by
    subst e; rw [(byT_hs w ht).1]; exact j4
  have a0 := h.2.1.1
  have a1 := h.2.2.1.1
  have f0 := cv_fr w h (s := 0) (by decide)
  have f1 := cv_fr w h (s := 1) (by decide)
  have p : x % 2 = 0 ∨ x % 2 = 1 := by omega
  unfold behQ
  rw [cv_one w h, cv_two w h, cv_side w h, f0, f1]
  rcases p with q | q <;> rw [q] at hf hj
  · have e0 : afx x d = (d * 56 + x1 x) * 2 + 1 := by unfold afx; rw [if_pos q]
    have g0 : x0 (afx x d) = d := by rw [e0]; unfold x0 x1; omega
    have g1 : x1 (afx x d) = x1 x := by rw [e0]; unfold x1; omega
    have g2 : afx x d % 2 = 1 := by rw [e0]; omega
    refine ⟨⟨by rw [e0]; omega, by rw [g0]; exact hv, by rw [g1]; exact h.2.2.1, by rw [g0, g1]; exact hj⟩, ?_⟩
    unfold cv
    rw [g0, g1, g2, hf, q, if_pos rfl]
    rfl
  · have e0 : afx x d = (x0 x * 56 + d) * 2 := by unfold afx; rw [if_neg (by omega)]
    have g0 : x0 (afx x d) = x0 x := by rw [e0]; unfold x0; omega
    have g1 : x1 (afx x d) = d := by rw [e0]; unfold x1; omega
    have g2 : afx x d % 2 = 0 := by rw [e0]; omega
    refine ⟨⟨by rw [e0]; omega, by rw [g0]; exact h.2.1, by rw [g1]; exact hv, by rw [g0, g1]; exact fun z => hj z.symm⟩, ?_⟩
    unfold cv
    rw [g0, g1, g2, hf, q, if_neg (show ¬ 1 = 0 by decide)]
    rfl
