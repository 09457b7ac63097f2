/-! best, whole -/
def mayE (A : Tb) (x p : Nat) : Bool := !ended A (cv A x) && mayP A (cv A x) (x % 2) p
theorem mayE_bm {A : Tb} {x : Nat} : (if ended A (cv A x) then 0 else bm (mayP A (cv A x) (x % 2)) 16) = bm (mayE A x) 16 := by
  cases he : ended A (cv A x) with
  | true =>
    rw [if_pos rfl]
    exact (bm_zero.mpr fun k _ => by unfold mayE; rw [he]; rfl).symm
  | false =>
    rw [if_neg (by decide)]
    exact bm_cong fun k _ => by unfold mayE; rw [he]; rfl
theorem r_best (k : Nat) (σ τ : jS) (a b : Int32) (hk : k < 2048) (h : Rel k σ τ) : ∃ r σ2 τ2, f_X10_best σ a b = some (r, σ2) ∧ f_X11_best τ a b = some (r, τ2) ∧ Rel (k + 4) σ2 τ2 := by
  have h0 := h
  obtain ⟨rs, sx, sm⟩ := h
  obtain ⟨hM, hX, hH, hS, _⟩ := id rs
  unfold f_X10_best f_X11_best
  rcases is_both (x_isQuarrel hX.1 hM.1.2.2.2.1.2 a) (m_isQuarrel hM.1 a) with ⟨q, h1, rfl, h2, h3⟩ | ⟨h2, h3⟩
  case inr =>
    rw [h2, h3]
    exact ⟨_, _, _, rfl, rfl, r_mono k _ _ h0⟩
  have q4 : q < 4 := by have := hM.1.2.2.2.1.2; omega
  have jq : jin (nI q) 4 = true := jin_nI q4 (by omega)
  rw [h2, h3, bC_e, bC_e, if_neg (show ¬ (1 : Int32) = 0 by decide), if_neg (show ¬ (1 : Int32) = 0 by decide)]
  rcases side_both b with ⟨s, s2, rfl, g2, g3⟩ | ⟨g2, g3⟩
  case inr =>
    rw [g2, g3]
    exact ⟨_, _, _, rfl, rfl, r_mono k _ _ h0⟩
  obtain ⟨x, e1, ok, h9, e4⟩ := hH q h1
  have w := wA_of hM.1 hM.2.2.1
  obtain ⟨hw, hf⟩ := hX.2.2.2 (tQ_tP hM (by omega))
  have hc := cv_lt w ok
  have hx6 := ok.1
  obtain ⟨ndX, nX, mX, LX, QX, lm, σ', a1, a2, a3, a4⟩ := x_solve (pI := nI s) (pc := fun y => (fun b => b == s) (y % 2)) (show k ≤ 4096 by omega) w hw hf ok sx (sc := 0) (by decide) (fun y _ => side_pb s2 _ (Nat.mod_lt y (by decide)))
  obtain ⟨n, W, L, wh, tg, nd, τ', b1, b2, b3, b4, b5, b6, b7⟩ := m_forcesNow (k := k) (pI := nI s) (pb := fun b => b == s) hM rfl q4 h9 (cv_ok w ok) sm (side_pb s2)
  have need := both_need (pb := fun b => b == s) (br := fun j => bears (mn τ) (cOne (L j)) (cTwo (L j))) w a2 b2 (fun j _ => bears_ended) b3
  have vx : vL nX LX x := ⟨0, a2.1.2.2.2.1, a2.1.2.2.2.2.1⟩
  have hM' := (mS_W (kfr_mS b6) hM).1
  have eA' : mn τ' = mn τ := (mS_W (kfr_mS b6) hM).2
  have n6 := b2.2.2.2.2.2.2.2.2.2
  -- the states behind
  have beh : ∀ p, mayE (mn τ) x p = true → ∃ d, d < 56 ∧ f_X0_spotFor σ' (nI x) (nI p) = some (nI d) ∧ vL nX LX (afx x d) ∧ scX (mn τ) x (afx x d) = true ∧ okx (mn τ) (afx x d) ∧ cv (mn τ) (afx x d) = behQ (mn τ) (cv (mn τ) x) p := fun p hp => by
    unfold mayE at hp
    rw [Bool.and_eq_true, Bool.not_eq_true'] at hp
    obtain ⟨d, d1, d2, d3, d4⟩ := x_spotFor w (gfr_W a3 hw) ok hp.2
    have st := ows_goes w ok hp.1 d2
    have hs := scX_iff.mpr ⟨st, Or.inr ⟨d, d1, d2, rfl⟩⟩
    obtain ⟨o1, o2⟩ := afx_ok w ok d2
    exact ⟨d, d1, d4, a2.2.2.2.2.1 _ _ vx hs, hs, o1, by rw [o2, d3]⟩
  have jof : ∀ p, mayE (mn τ) x p = true → ∃ d j, d < 56 ∧ f_X0_spotFor σ' (nI x) (nI p) = some (nI d) ∧ vL nX LX (afx x d) ∧ scX (mn τ) x (afx x d) = true ∧ okx (mn τ) (afx x d) ∧ j < n ∧ behQ (mn τ) (cv (mn τ) x) p < 147968 ∧ gI τ' 18 (behQ (mn τ) (cv (mn τ) x) p) = nI (j + 1) ∧ ndX (afx x d) = nd j := fun p hp => by
    obtain ⟨d, d1, d2, d3, d4, d5, d6⟩ := beh p hp
    obtain ⟨j, j1, j2, j3⟩ := need _ d3
    exact ⟨d, j, d1, d2, d3, d4, d5, j1, by rw [← d6]; exact cv_lt w d5, by rw [← d6, ← j2]; exact (b2.2.1 j j1).2.2, j3⟩
  have farE : ∀ p, mayE (mn τ) x p = true → ∀ j, j < n → gI τ' 18 (behQ (mn τ) (cv (mn τ) x) p) = nI (j + 1) → farF (nd (ix (gI τ' 18 (behQ (mn τ) (cv (mn τ) x) p)) - 1)) = farF (nd j) := fun p _ j hj e => by
    rw [e, ix_nI (by omega), Nat.add_sub_cancel]
  have XB := x_bst (σ := σ') (A := mn τ) (x := x) (pe := x % 2 == s) (fo := decide (ndX x ≠ 0)) (may := mayE (mn τ) x) (far := fun p => farF (nd (ix (gI τ' 18 (behQ (mn τ) (cv (mn τ) x) p)) - 1))) (fun p hp => by
    obtain ⟨d, j, _, _, _, _, _, j1, _, j3, _⟩ := jof p hp
    show farF _ ≤ _
    rw [farE p hp j j1 j3]
    exact farF_le (by have := b5 j j1; omega)) (fun hpe hfo p hp => by
    obtain ⟨d, j, _, _, d3, d4, _, j1, _, j3, j4⟩ := jof p hp
    have n0 : ndX x = 0 := by
      have := of_decide_eq_false hfo
      omega
    obtain ⟨_, fx⟩ := a2.2.2.2.2.2.1 x vx
    have te : tmX (mn τ) 0 x = false := by
      unfold tmX
      rw [(scX_iff.mp d4).1]; rfl
    rcases (fx te).1 hpe with ⟨_, z⟩ | ⟨z, _⟩
    · have := z _ d4
      show farF _ = _
      rw [farE p hp j j1 j3, ← j4, this]; rfl
    · exact absurd n0 z) (fun p hp16 hp => by
    obtain ⟨d, j, d1, d2, d3, d4, d5, j1, _, j3, j4⟩ := jof p hp
    have b := a2.2.2.2.2.2.2.2.2.2.2.2 _ d3
    exact ⟨d, afx x d, ndX (afx x d), d2, x_after hx6, x_neededAt d5.1 (by omega) (a2.2.2.2.2.2.2.1.1 _ d3), by omega, by rw [farE p hp j j1 j3, j4]⟩) (by rw [x_allowed w (gfr_W a3 hw) (gfr_F a3 hf) ok, mayE_bm])
  have MB := m_bst (n := 0) (τ := τ') (q := q) (c := cv (mn τ) x) (pe := x % 2 == s) (may := mayE (mn τ) x) (far := fun p => farF (nd (ix (gI τ' 18 (behQ (mn τ) (cv (mn τ) x) p)) - 1))) hM'.1 q4 ((kfr_a b6 (by decide) (by decide) q).trans h9) hc (fun p hp => by
    obtain ⟨d, j, _, _, _, _, _, j1, _, j3, _⟩ := jof p hp
    show farF _ ≤ _
    rw [farE p hp j j1 j3]
    exact farF_le (by have := b5 j j1; omega)) (fun p _ hp => by
    obtain ⟨d, j, _, _, _, _, _, j1, j2, j3, _⟩ := jof p hp
    rw [eA']
    exact ⟨j, nd j, j2, by omega, j3, b4 j j1, by have := b5 j j1; omega, farE p hp j j1 j3⟩) rfl
  rw [eA'] at MB
  have same : bst (mayE (mn τ) x) (fun p => farF (nd (ix (gI τ' 18 (behQ (mn τ) (cv (mn τ) x) p)) - 1))) (x % 2 == s) 16 = bst (mayE (mn τ) x) (fun p => farF (nd (ix (gI τ' 18 (behQ (mn τ) (cv (mn τ) x) p)) - 1))) (x % 2 == s) (tP (mn τ)) := bst_none (fun p hp => by
    cases hm : mayE (mn τ) x p with
    | false => rfl
    | true =>
      unfold mayE at hm
      rw [Bool.and_eq_true] at hm
      have := mayP_lt hm.2
      omega) 16 w.1
  have em : f_X11_mayNow τ (nI (cv (mn τ) x)) = some (nI (bm (mayE (mn τ) x) 16)) := by
    rw [m_mayNow hM.1 hM.2.1 hM.2.2.2.2.1 hc (ow_now hM.1 hM.2.2.2.1 hM.2.2.2.2.2.2 hc), ← may_ended w ok, mayE_bm]
  have h9' : gI τ' 9 q = nI (cv (mn τ) x) := (kfr_a b6 (by decide) (by decide) q).trans h9
  have xb : f_X0_bestPerson σ (nI x) (nI s) = some (nI (bst (mayE (mn τ) x) (fun p => farF (nd (ix (gI τ' 18 (behQ (mn τ) (cv (mn τ) x) p)) - 1))) (x % 2 == s) 16).1 - 1, σ') := by
    have bx := a2.2.2.2.2.2.2.2.2.2.2.2 _ vx
    have na := x_neededAt hx6 (by omega) (a2.2.2.2.2.2.2.1.1 _ vx)
    have J20 : f_X0_bestPerson_J20 σ' (nI x) (bI (x % 2 == s)) = some (nI (bst (mayE (mn τ) x) (fun p => farF (nd (ix (gI τ' 18 (behQ (mn τ) (cv (mn τ) x) p)) - 1))) (x % 2 == s) 16).1 - 1, σ') := by
      unfold f_X0_bestPerson_J20
      rw [na, bC_e]
      by_cases z : ndX x = 0
      · rw [decide_eq_false (by omega : ¬ ndX x ≠ 0)] at XB
        rw [if_pos (by unfold rI0; rw [if_pos z])]
        exact XB
      · rw [decide_eq_true z] at XB
        rw [if_neg (fun e => by
          unfold rI0 at e
          rw [if_neg z] at e
          exact nI_pos (n := ndX x - 1) (by omega) (by rw [e]; decide))]
        exact XB
    unfold f_X0_bestPerson
    rw [show f_X0_solve σ (nI x) (nI s) 0 = some (rI0 (ndX x), σ') from a1, bD_e, and1]
    by_cases z : x % 2 = s
    · rw [if_pos (congrArg nI z)]
      rw [beq_iff_eq.mpr z] at J20 ⊢
      exact J20
    · rw [if_neg (fun e => z ((nI_eq (by omega) (by omega)).mp e))]
      rw [beq_eq_false_iff_ne.mpr z] at J20 ⊢
      exact J20
  rw [g2, g3, bC_e, bC_e, if_neg (show ¬ (1 : Int32) = 0 by decide), if_neg (show ¬ (1 : Int32) = 0 by decide), at30 q4, bC_e, e1, xb, bD_e, bG_t jq, ix_nI (by omega), h9, em, bC_e, b1, bD_e, bG_t jq, h9', m_side hc, bC_e, cv_side w ok, same]
  refine ⟨_, σ', τ', rfl, ?_, r_mono k _ _ ⟨RS_scratch (gfr_x a3) b6 rs, a4, b7⟩⟩
  by_cases z : x % 2 = s
  · rw [if_pos (congrArg nI z)]
    rw [beq_iff_eq.mpr z] at MB ⊢
    exact MB
  · rw [if_neg (fun e => z ((nI_eq (by omega) (by omega)).mp e))]
    rw [beq_eq_false_iff_ne.mpr z] at MB ⊢
    exact MB
