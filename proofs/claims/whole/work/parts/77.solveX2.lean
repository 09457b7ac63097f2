/-! the class solves: all of it -/
theorem x_forget {σ : jS} (h : ∃ n, n ≤ 6272 ∧ gI σ 4 1 = nI n ∧ (∀ i, i < n → ∃ c, c < 6272 ∧ gI σ 12 i = nI c) ∧ ∀ c, c < 6272 → gI σ 14 c = 0 ∨ ∃ i, i < n ∧ gI σ 12 i = nI c) : ∃ σ', f_X0_forget σ = some ((), σ') ∧ gfr σ σ' ∧ (∀ c, c < 6272 → gI σ' 14 c = 0) ∧ gI σ' 4 1 = 0 ∧ gI σ' 4 2 = 0 ∧ gI σ' 4 3 = 0 ∧ (∀ a, a < 16 → gI σ' 16 a = 0) ∧ kp [12, 13, 15] σ σ' := by
  obtain ⟨n, n6, h1, h2, h3⟩ := h
  unfold f_X0_forget
  have key := jloop_ex (S := Int32 × jS) (O := Unit × jS) (f := fun s => f_X0_forget_B2 s.2 s.1) (fun i s => s.1 = nI i ∧ fr [14] σ s.2 ∧ ∀ c, c < 6272 → gI s.2 14 c = 0 ∨ ∃ j, i ≤ j ∧ j < n ∧ gI σ 12 j = nI c) n (fun o => gfr σ o.2 ∧ (∀ c, c < 6272 → gI o.2 14 c = 0) ∧ gI o.2 4 1 = 0 ∧ gI o.2 4 2 = 0 ∧ gI o.2 4 3 = 0 ∧ (∀ a, a < 16 → gI o.2 16 a = 0) ∧ kp [12, 13, 15] σ o.2) (s0 := (0, σ)) ⟨rfl, fr_rfl _ _, fun c hc => ?_⟩ (jfuel_big (by omega)) ?_ ?_
  · obtain ⟨o, e1, e2⟩ := key
    exact ⟨o.2, e1, e2⟩
  · rcases h3 c hc with z | ⟨j, j1, j2⟩
    · exact Or.inl z
    · exact Or.inr ⟨j, Nat.zero_le _, j1, j2⟩
  · rintro ⟨a, s⟩ ⟨rfl, f, hh⟩
    replace f : fr [14] σ s := f
    replace hh : ∀ c, c < 6272 → gI s 14 c = 0 ∨ ∃ j, n ≤ j ∧ j < n ∧ gI σ 12 j = nI c := hh
    obtain ⟨s2, a1, a2, a3, a4⟩ := x_fillI (σ := sI (sI (sI s 4 1 0) 4 2 0) 4 3 0) (h := 16) (v := 0) (by decide) rfl (by decide)
    have f4 : fr [4, 14, 16] σ s2 := fr_trans (fr_trans (fr_mono f (by decide)) (fr_trans (fr_trans (fr_sI _ _ _ (by decide)) (fr_sI _ _ _ (by decide))) (fr_sI _ _ _ (by decide)))) (fr_mono a2 (by decide))
    refine ⟨((), s2), ?_, ⟨fr_mono f4 (by decide), fun i i1 i2 i3 => ?_⟩, fun c hc => ?_, ?_, ?_, ?_, fun p hp => a3 p hp, kp_fr f4 rfl⟩
    · show f_X0_forget_B2 s (nI n) = _
      unfold f_X0_forget_B2 f_X0_forget_J39
      rw [fr_I f (by decide), h1, if_pos (Int32.le_refl _), bV_e, bV_e, bV_e, a1, bD_e, jw_e]
    · show gI s2 4 i = _
      rw [fr_I a2 (by decide), gI_nei i3, gI_nei i2, gI_nei i1, fr_I f (by decide)]
    · show gI s2 14 c = 0
      rw [fr_I a2 (by decide), gI_ne (by decide), gI_ne (by decide), gI_ne (by decide)]
      rcases hh c hc with z | ⟨j, j1, j2, _⟩
      · exact z
      · omega
    · show gI s2 4 1 = 0
      rw [fr_I a2 (by decide), gI_nei (by decide), gI_nei (by decide), gI_sI]
    · show gI s2 4 2 = 0
      rw [fr_I a2 (by decide), gI_nei (by decide), gI_sI]
    · show gI s2 4 3 = 0
      rw [fr_I a2 (by decide), gI_sI]
  · rintro i ⟨a, s⟩ hi ⟨rfl, f, hh⟩
    replace f : fr [14] σ s := f
    replace hh : ∀ c, c < 6272 → gI s 14 c = 0 ∨ ∃ j, i ≤ j ∧ j < n ∧ gI σ 12 j = nI c := hh
    obtain ⟨c, c1, c2⟩ := h2 i hi
    refine Or.inl ⟨(nI (i + 1), sI s 14 c 0), ?_, rfl, fr_trans f (fr_sI _ _ _ (by decide)), fun c' hc' => ?_⟩
    · show f_X0_forget_B2 s (nI i) = _
      unfold f_X0_forget_B2
      rw [fr_I f (by decide), h1, if_neg (nI_ge hi (by omega)), if_neg (show ¬ (6272 : Int32) ≤ nI i from nI_ge (b := 6272) (by omega) (by decide)), at12 (by omega), bC_e, fr_I f (by decide), c2, put14 c1, bD_e, bV_e, nI_1]
    · show gI (sI s 14 c 0) 14 c' = 0 ∨ _
      by_cases z : c' = c
      · subst z; exact Or.inl (gI_sI _ _ _ _)
      · rw [gI_nei z]
        rcases hh c' hc' with y | ⟨j, j1, j2, j3⟩
        · exact Or.inl y
        · refine Or.inr ⟨j, ?_, j2, j3⟩
          rcases Nat.lt_or_ge i j with t | t
          · omega
          · have : j = i := by omega
            subst this
            rw [c2] at j3
            have := (nI_eq (by omega) (by omega)).mp j3
            exact absurd this.symm z
theorem lfr_g {σ σ' : jS} (h : lfr σ σ') : gfr σ σ' := ⟨fr_mono h.1 (by decide), fun i _ i2 _ => h.2 i i2⟩
theorem x_solve {k : Nat} {A : Tb} {σ : jS} {start sc : Nat} {pI : Int32} {pc : Nat → Bool} (hk : k ≤ 4096) (w : wA A) (hW : xW σ A) (hF : xF σ A) (ok : okx A start) (sx : sX k σ) (hsc : sc < 2) (hpI : ∀ x, x < 6272 → (nI (x % 2) = pI ↔ pc x = true)) : ∃ nd n m L Q lm σ', f_X0_solve σ (nI start) pI (nI sc) = some (rI0 (nd start), σ') ∧ SR A start (tmX A sc) pc lm n m L Q nd σ' ∧ gfr σ σ' ∧ sX k σ' := by
  obtain ⟨s1, l, l16, l1, l2, l3⟩ := sx
  obtain ⟨σ1, a1, a2, a3, a4, a5, a6, a7, a8⟩ := x_forget s1
  have hs6 := ok.1
  have hE : ∀ c, tmX A sc c = false → ended A (cv A c) = false := fun c hc => by
    cases hb : ended A (cv A c) with
    | false => rfl
    | true =>
      unfold tmX at hc
      rw [st1_ended.mpr hb] at hc
      cases hc
  -- the start is come to
  have c0 : f_X0_comeTo σ1 (nI start) = some ((), sI (sI (sI σ1 14 start (-1)) 12 0 (nI start)) 4 1 (nI 1)) := by
    unfold f_X0_comeTo
    rw [at14 hs6, bC_e, if_pos (a3 start hs6), put14 hs6, bD_e, gI_ne (show (4 : Nat) ≠ 14 by decide), a4, show (0 : Int32) = nI 0 from rfl, put12 (by decide), bD_e, gI_ne (show (4 : Nat) ≠ 12 by decide), gI_ne (show (4 : Nat) ≠ 14 by decide), a4, bV_e]
    rfl
  generalize e2 : sI (sI (sI σ1 14 start (-1)) 12 0 (nI start)) 4 1 (nI 1) = σ2 at c0
  have g2 : gfr σ σ2 := by
    rw [← e2]
    exact gfr_tr a2 (gfr_tr (gfr_tr (gfr_r (by decide)) (gfr_r (by decide))) (gfr_4 (by omega)))
  have SP0 : SP A start (tmX A sc) l 1 0 0 0 (fun _ => start) (fun _ => 0) σ2 := by
    refine ⟨⟨by decide, by rw [← e2, gI_sI], ?_, by decide, rfl⟩, fun j hj => ⟨ok, ?_⟩, fun j i hj hi _ => by omega, fun j hj hj2 => by omega, ⟨fun j hj => ?_, fun c hc hn => ?_⟩, ⟨fun j hj => absurd hj (Nat.not_lt_zero j), fun j i hj => absurd hj (Nat.not_lt_zero j), fun i hi => absurd hi (Nat.not_lt_zero i)⟩, fun i hi => absurd hi (Nat.not_lt_zero i), fun a ha => ?_, ?_, fun c hc => ?_⟩
    · rw [← e2, gI_nei (by decide), gI_ne (by decide), gI_ne (by decide)]; exact a5
    · have : j = 0 := by omega
      subst this
      rw [← e2, gI_ne (by decide), gI_sI]
    · rw [if_neg (fun z => absurd z.1 (Nat.not_lt_zero j)), ← e2, gI_ne (by decide), gI_ne (by decide), gI_sI]
    · rw [← e2, gI_ne (by decide), gI_ne (by decide), gI_nei (fun e => hn 0 (by decide) e.symm)]
      exact a3 c hc
    · rw [← e2, gI_ne (by decide), gI_ne (by decide), gI_ne (by decide), a7 a ha]
      exact (nbm0 fun _ => rfl).symm
    · rw [← e2, gI_nei (by decide), gI_ne (by decide), gI_ne (by decide), a6]; rfl
    · rw [← e2, gI_ne (by decide), gI_ne (by decide), gI_ne (by decide), a8 15 (by decide)]
      exact l3 c hc
  unfold f_X0_solve
  rw [a1, bD_e, c0, bD_e]
  have key := jloop_inv (f := fun s => f_X0_solve_B12 s.2 (nI start) pI (nI sc) s.1) (fun mz t => ∃ i n m L Q, t.1 = nI i ∧ i ≤ n ∧ mz = 6272 - i ∧ SP A start (tmX A sc) l n m i i L Q t.2 ∧ (∀ j y, j < i → scX A (L j) y = true → vL n L y) ∧ gfr σ t.2) (fun (o : Int32 × jS) => ∃ nd n m L Q, o.1 = rI0 (nd start) ∧ SR A start (tmX A sc) pc l n m L Q nd o.2 ∧ gfr σ o.2) ?_ jFuel 6272 (0, σ2) ⟨0, 1, 0, _, _, rfl, Nat.zero_le _, rfl, SP0, fun j y hj => absurd hj (Nat.not_lt_zero j), g2⟩ (jfuel_big (by omega))
  · obtain ⟨o, o1, nd, n, m, L, Q, o2, o3, o4⟩ := key
    refine ⟨nd, n, m, L, Q, l, o.2, by rw [o1, ← o2], o3, o4, ⟨n, o3.1.1, o3.1.2.1, fun i hi => ⟨L i, (o3.2.1 i hi).1.1, (o3.2.1 i hi).2⟩, fun c hc => ?_⟩, l, l16, l1, (o4.2 11 (by decide) (by decide) (by decide)).trans l2, o3.2.2.2.2.2.2.2.2.2.2.1⟩
    by_cases z : vL n L c
    · obtain ⟨j, j1, j2⟩ := z
      exact Or.inr ⟨j, j1, by rw [(o3.2.1 j j1).2, j2]⟩
    · exact Or.inl (o3.2.2.2.2.2.2.1.2 c hc z)
  · rintro mz ⟨ti, t⟩ ⟨i, n, m, L, Q, rfl, il, rfl, hS, hcl, hg⟩
    replace hS : SP A start (tmX A sc) l n m i i L Q t := hS
    replace hg : gfr σ t := hg
    have n6 := hS.1.1
    show (∃ s' n', f_X0_solve_B12 t (nI start) pI (nI sc) (nI i) = _ ∧ _) ∨ (∃ o, f_X0_solve_B12 t (nI start) pI (nI sc) (nI i) = _ ∧ _)
    unfold f_X0_solve_B12
    rw [hS.1.2.1]
    rcases Nat.lt_or_ge i n with z | z
    · left
      obtain ⟨n', m', L', Q', t', u1, u2, u3, u4, u5, u6⟩ := x_spread w (gfr_W hg hW) (gfr_F hg hF) hsc hS z l16
      rw [if_neg (nI_ge z (by omega)), if_neg (show ¬ (6272 : Int32) ≤ nI i from nI_ge (b := 6272) (by omega) (by decide)), at12 (by omega), bC_e, (hS.2.1 i z).2, u1, bD_e, bV_e, nI_1]
      refine ⟨_, 6272 - (i + 1), rfl, by omega, i + 1, n', m', L', Q', rfl, by omega, rfl, u2, fun j y hj hy => ?_, gfr_tr hg u6⟩
      by_cases q : j = i
      · subst q
        rw [u4 j z] at hy
        obtain ⟨j2, j3, j4⟩ := u5 y hy
        exact ⟨j2, j3, j4⟩
      · rw [u4 j (by omega)] at hy
        obtain ⟨j2, j3, j4⟩ := hcl j y (by omega) hy
        exact ⟨j2, by omega, (u4 j2 j3).trans j4⟩
    · right
      have : i = n := by omega
      subst this
      obtain ⟨nd, q, len, t', v1, v2, v3⟩ := x_phase2 (pc := pc) w (gfr_W hg hW) hS (fun j y hj hy => hcl j y hj hy) hE hpI (by omega)
      rw [if_pos (Int32.le_refl _), v1, jw_e]
      exact ⟨_, rfl, nd, i, len, L, q, rfl, v2, gfr_tr hg (lfr_g v3)⟩
