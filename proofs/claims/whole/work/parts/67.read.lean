/-! reading a town, side by side -/
theorem x_fillI {σ : jS} {h : Nat} {v : Int32} (h0 : h ≠ 0) (hr : jrwX 0 h = true) (hs : (SHX h).2 ≤ 7000) : ∃ σ', f_X6_fill σ h v = some ((), σ') ∧ fr [h] σ σ' ∧ (∀ i, i < (SHX h).2 → gI σ' h i = v) ∧ ∀ a i, gL σ' a i = gL σ a i := by
  unfold f_X6_fill
  rw [if_neg h0]
  have key := jloop_ex (S := Int32 × jS) (O := Unit × jS) (f := fun s => f_X6_fill_B7 s.2 h v s.1) (fun i s => s.1 = nI i ∧ fr [h] σ s.2 ∧ (∀ j, j < i → gI s.2 h j = v) ∧ ∀ a i, gL s.2 a i = gL σ a i) (SHX h).2 (fun o => fr [h] σ o.2 ∧ (∀ j, j < (SHX h).2 → gI o.2 h j = v) ∧ ∀ a i, gL o.2 a i = gL σ a i) (s0 := (0, σ)) ⟨rfl, fr_rfl _ _, fun j hj => absurd hj (Nat.not_lt_zero j), fun _ _ => rfl⟩ (jfuel_big (by omega)) ?_ ?_
  · obtain ⟨o, e1, e2⟩ := key
    exact ⟨o.2, e1, e2⟩
  · rintro ⟨a, s⟩ ⟨rfl, h1, h2, h3⟩
    refine ⟨((), s), ?_, h1, h2, h3⟩
    show f_X6_fill_B7 s h v (nI _) = _
    unfold f_X6_fill_B7 f_X6_fill_J23
    rw [bG_t hr, if_pos (show Int32.ofNat (SHX h).2 ≤ nI (SHX h).2 from Int32.le_refl _), jw_e]
  · rintro i ⟨a, s⟩ hi ⟨rfl, h1, h2, h3⟩
    refine Or.inl ⟨(nI (i + 1), sI s h i v), ?_, rfl, fr_trans h1 (fr_sI s i v (List.mem_singleton.mpr rfl)), ?_, h3⟩
    · show f_X6_fill_B7 s h v (nI _) = _
      unfold f_X6_fill_B7
      rw [bG_t hr, if_neg (show ¬ Int32.ofNat (SHX h).2 ≤ nI i from nI_ge hi (by omega)), bG_t (jin_nI hi (by omega)), ix_nI (by omega), bV_e, bV_e, nI_1]
    · intro j hj
      by_cases q : j = i
      · subst q; exact gI_sI s h j v
      · show gI (sI s h i v) h j = _
        rw [gI_nei q]
        exact h2 j (by omega)
def B0 : Tb := fun _ _ => 0
theorem gB0 : gB B0 := by
  refine ⟨by decide, by decide, by decide, by decide, fun p hp => absurd hp (Nat.not_lt_zero p), fun p hp => absurd hp (Nat.not_lt_zero p), fun p q hp => absurd hp (Nat.not_lt_zero p), ⟨fun p hp => absurd hp (Nat.not_lt_zero p), fun p q hp => absurd hp (Nat.not_lt_zero p)⟩, fun p hp => absurd hp (Nat.not_lt_zero p)⟩
/-- the reader made ready -/
theorem x_ready {σ : jS} {n T : Nat} {w : Nat → Nat} (t : txX σ n w) (hT : T = 51 ∨ T = 61) : ∃ σ', f_X5_read σ T = jloop jFuel (fun s => f_X5_read_B21 s.2 T s.1) (0, σ') ∧ pFr T σ σ' ∧ pX σ' n w B0 T ∧ gI σ' 2 4 = nI 0 := by
  have hg := T_gr hT
  have hf := gr_foe hg.2
  have s9 : jrwX 0 (T + 9) = true ∧ (SHX (T + 9)).2 = 16 := by rcases hT with rfl | rfl <;> exact ⟨rfl, rfl⟩
  have e9 : T + 6 + 3 = T + 9 := rfl
  generalize es : sI (sI (sI (sI σ T 6 0) T 7 0) T 8 0) (T + 6) 3 0 = s4
  obtain ⟨s5, a1, a2, a3, a4⟩ := x_fillI (σ := s4) (h := T + 9) (v := 0) (by omega) s9.1 (by omega)
  have f4 : fr [2, T, T + 1, T + 2, T + 3, T + 4, T + 5, T + 6, T + 7, T + 8, T + 9] σ s4 := by
    rw [← es]
    exact fr_trans (fr_trans (fr_trans (fr_sI _ _ _ (by simp)) (fr_sI _ _ _ (by simp))) (fr_sI _ _ _ (by simp))) (fr_sI _ _ _ (by simp))
  have f5 : fr [2, T, T + 1, T + 2, T + 3, T + 4, T + 5, T + 6, T + 7, T + 8, T + 9] σ s5 := fr_trans f4 (fr_mono a2 (by simp))
  have two : ∀ i, gI s5 2 i = gI σ 2 i := fun i => by
    rw [fr_I a2 (by simp <;> omega), ← es, gI_ne (by omega), gI_ne (by omega), gI_ne (by omega), gI_ne (by omega)]
  have three : ∀ i, gI s5 3 i = gI σ 3 i := fun i => by
    rw [fr_I a2 (by simp <;> omega), ← es, gI_ne (by omega), gI_ne (by omega), gI_ne (by omega), gI_ne (by omega)]
  refine ⟨sI (sI (sI s5 2 3 0) 2 2 (-1)) 2 4 0, ?_, ?_, ⟨?_, hT, ?_, ?_, ⟨?_, ?_, ?_, ?_, ?_, ?_⟩, ?_, ?_, ?_⟩, gI_sI _ _ _ _⟩
  · unfold f_X5_read f_X8_empty f_X1_empty
    rw [bH_t (T_in hT), bH_t (T_in hT), bV_e, bV_e, bV_e, hg.1, bH_t (gr_in hg.2), bV_e, es, hf.1, e9, a1, bD_e, bD_e, bD_e, bV_e, bV_e, bV_e]
  · refine ⟨fr_trans f5 (fr_trans (fr_trans (fr_sI _ _ _ (by simp)) (fr_sI _ _ _ (by simp))) (fr_sI _ _ _ (by simp))), ?_⟩
    rw [gI_nei (by decide), gI_nei (by decide), gI_nei (by decide)]; exact two 1
  · refine txX_fr ?_ (fun i => ?_) t
    · rw [gI_nei (by decide), gI_nei (by decide), gI_nei (by decide)]; exact two 1
    · rw [gI_ne (by decide), gI_ne (by decide), gI_ne (by decide)]; exact three i
  · rw [gI_nei (by decide), gI_nei (by decide), gI_sI]
  · rw [gI_nei (by decide), gI_sI]
  · rw [gI_ne (by omega), gI_ne (by omega), gI_ne (by omega), fr_I a2 (by simp <;> omega), ← es, gI_ne (by omega), gI_nei (by decide), gI_nei (by decide), gI_sI]; rfl
  · rw [gI_ne (by omega), gI_ne (by omega), gI_ne (by omega), fr_I a2 (by simp <;> omega), ← es, gI_ne (by omega), gI_nei (by decide), gI_sI]; rfl
  · rw [gI_ne (by omega), gI_ne (by omega), gI_ne (by omega), fr_I a2 (by simp <;> omega), ← es, gI_ne (by omega), gI_sI]; rfl
  · intro p hp; exact absurd hp (Nat.not_lt_zero p)
  · intro p hp; exact absurd hp (Nat.not_lt_zero p)
  · intro p hp; exact absurd hp (Nat.not_lt_zero p)
  · rw [gI_ne (by omega), gI_ne (by omega), gI_ne (by omega), fr_I a2 (by simp <;> omega), ← es, gI_sI]; rfl
  · intro p hp; exact absurd hp (Nat.not_lt_zero p)
  · intro p hp
    rw [gI_ne (by omega), gI_ne (by omega), gI_ne (by omega), e9, a3 p (by omega)]
    exact (nbm0 fun _ => rfl).symm
theorem q_read {σ0 τ0 : jS} {n T : Nat} {w : Nat → Nat} (pX0 : pX σ0 n w B0 T) (h4 : gI σ0 2 4 = nI 0) (pM0 : pM τ0 n w B0) (h18 : gI τ0 1 18 = nI 0) (H : ∀ B τe, mP τ0 τe → pM τe n w B → gB B → ∃ o', f_X11_town_J51 τe 0 = some o') : ∃ r σe τe o', jloop jFuel (fun s => f_X5_read_B21 s.2 T s.1) (0, σ0) = some (r, σe) ∧ jloop jFuel (fun s => f_X11_town_B32 s.2 s.1) (0, τ0) = some o' ∧ pFr T σ0 σe ∧ mP τ0 τe ∧ gI σe 2 2 = gI τe 1 17 ∧ ((r = 0 ∧ f_X11_town_J51 τe 0 = some o' ∧ ∃ B, pX σe n w B T ∧ pM τe n w B ∧ gB B) ∨ ∃ f, 0 < f ∧ f < 5 ∧ r = nI f ∧ f_X11_town_J51 τe (nI f) = some o') := by
  have hn := pX0.1.1
  have hw := txX_w pX0.1
  have key := jloop_both (f := fun s => f_X5_read_B21 s.2 T s.1) (g := fun s => f_X11_town_B32 s.2 s.1) (fun m (s t : Int32 × jS) => pFr T σ0 s.2 ∧ mP τ0 t.2 ∧ ∃ c, c ≤ 500 ∧ s.1 = nI c ∧ ((∃ B p, pX s.2 n w B T ∧ pM t.2 n w B ∧ gB B ∧ gI s.2 2 4 = nI p ∧ gI t.2 1 18 = nI p ∧ c ≤ p ∧ p ≤ n ∧ t.1 = 0 ∧ m = n - p + 1) ∨ ∃ f, 0 < f ∧ f < 5 ∧ t.1 = nI f ∧ gI s.2 2 3 = nI f ∧ gI s.2 2 2 = gI t.2 1 17 ∧ m = 0)) (fun (o o' : Int32 × jS) => ∃ τe, pFr T σ0 o.2 ∧ mP τ0 τe ∧ gI o.2 2 2 = gI τe 1 17 ∧ ((o.1 = 0 ∧ f_X11_town_J51 τe 0 = some o' ∧ ∃ B, pX o.2 n w B T ∧ pM τe n w B ∧ gB B) ∨ ∃ f, 0 < f ∧ f < 5 ∧ o.1 = nI f ∧ f_X11_town_J51 τe (nI f) = some o')) ?_ jFuel (n + 1) (0, σ0) (0, τ0) ⟨pFr_rfl _ _, ⟨fun _ _ _ _ => rfl, fun h => h⟩, 0, by decide, rfl, Or.inl ⟨B0, 0, pX0, pM0, gB0, h4, h18, Nat.le_refl _, Nat.zero_le _, rfl, by omega⟩⟩ (jfuel_big (by omega))
  · obtain ⟨o, o', a1, a2, τe, b1, b2, b3, b4⟩ := key
    exact ⟨o.1, o.2, τe, o', a1, a2, b1, b2, b3, b4⟩
  · rintro m ⟨sa, s⟩ ⟨ta, t⟩ ⟨F, M, c, c5, rfl, hh⟩
    replace F : pFr T σ0 s := F
    replace M : mP τ0 t := M
    rcases hh with ⟨B, p, px, pm, g, e4, e18, cp, pn, rfl, rfl⟩ | ⟨f, f0, f5, rfl, e3, e2, rfl⟩
    · replace px : pX s n w B T := px
      replace pm : pM t n w B := pm
      replace e4 : gI s 2 4 = nI p := e4
      replace e18 : gI t 1 18 = nI p := e18
      have q1 := ex_ge (bl w) n p
      have q2 := ex_le (bl w) pn
      have px2 : pX (sI s 2 4 (nI (ex (bl w) n p))) n w B T := pX_4 _ px
      have Fm : mF [18] t (sI t 1 18 (nI (ex (bl w) n p))) := mF_sI _ _ (by decide)
      have pm2 : pM (sI t 1 18 (nI (ex (bl w) n p))) n w B := pM_F Fm (by decide) (mF_1 Fm (by decide)) pm
      have F2 : pFr T σ0 (sI s 2 4 (nI (ex (bl w) n p))) := pFr_tr F (pFr_2 _ _ (by decide))
      have M2 : mP τ0 (sI t 1 18 (nI (ex (bl w) n p))) := mP_tr M (mP_F Fm (by decide))
      show (∃ s' t' n', f_X5_read_B21 s T (nI c) = _ ∧ f_X11_town_B32 t 0 = _ ∧ _) ∨ (∃ o o', f_X5_read_B21 s T (nI c) = _ ∧ f_X11_town_B32 t 0 = _ ∧ _)
      unfold f_X5_read_B21 f_X11_town_B32 f_X5_read_J50 f_X5_read_J64
      rw [if_pos rfl, m_here pm.1 pn e18, bD_e, x_skip px.1 pn e4, bD_e]
      by_cases z : ex (bl w) n p < n
      · have c500 : c < 500 := by omega
        have hs : ¬ sgn w n (ex (bl w) n p) < 0 := by unfold sgn; rw [if_pos z]; exact nI_pos (by have := hw _ z; omega)
        rw [if_neg (show ¬ (500 : Int32) ≤ nI c from nI_ge (b := 500) c500 (by decide)), if_pos px.2.2.1, gI_sI, px2.1.2.1, if_pos (nI_lt z (by omega)), if_neg hs]
        obtain ⟨σ', x1, x2, x3⟩ := x_clause px2 g q2 (gI_sI _ _ _ _)
        obtain ⟨τ', y1, y2, y3⟩ := m_clause pm2 g q2 (gI_sI _ _ _ _) (ex_idem pn)
        rw [x1, y1, bD_e, bD_e, bV_e, nI_1]
        rcases cOut_good (w := w) g q2 with ⟨f, a, o1, o2, o3, o4⟩ | ⟨B2, q3, o1, o2, o3, o4⟩
        · rw [o1] at x3 y3 ⊢
          exact Or.inl ⟨_, _, 0, rfl, rfl, by omega, pFr_tr F2 x2, mP_tr M2 y2, c + 1, by omega, rfl, Or.inr ⟨f, o2, o3, rfl, x3.1, x3.2.trans y3.symm, rfl⟩⟩
        · rw [o1] at x3 y3 ⊢
          exact Or.inl ⟨_, _, n - q3 + 1, rfl, rfl, by omega, pFr_tr F2 x2, mP_tr M2 y2, c + 1, by omega, rfl, Or.inl ⟨B2, q3, x3.1, y3.1, o2, x3.2, y3.2, by omega, o4, rfl, rfl⟩⟩
      · have hs : sgn w n (ex (bl w) n p) < 0 := by unfold sgn; rw [if_neg z]; decide
        rw [if_pos hs]
        obtain ⟨o', ho⟩ := H B _ M2 pm2 g
        rw [ho, jw_e, jw_e, jw_e]
        right
        by_cases zc : 500 ≤ c
        · rw [if_pos (show (500 : Int32) ≤ nI c from nI_le (a := 500) zc (by omega))]
          exact ⟨_, _, rfl, rfl, _, F, M2, px.2.2.2.1.trans pm2.2.1.symm, Or.inl ⟨px.2.2.1, ho, B, px, pm2, g⟩⟩
        · rw [if_neg (show ¬ (500 : Int32) ≤ nI c from nI_ge (b := 500) (by omega) (by decide)), if_pos px.2.2.1, gI_sI, px2.1.2.1, if_neg (fun u => z ((nI_ltI (by omega) (by omega)).mp u))]
          exact ⟨_, _, rfl, rfl, _, F2, M2, px2.2.2.2.1.trans pm2.2.1.symm, Or.inl ⟨px2.2.2.1, ho, B, px2, pm2, g⟩⟩
    · replace e3 : gI s 2 3 = nI f := e3
      replace e2 : gI s 2 2 = gI t 1 17 := e2
      have f_ne : ¬ nI f = 0 := fun u => by have := (nI_eq0 (by omega)).mp u; omega
      show (∃ s' t' n', f_X5_read_B21 s T (nI c) = _ ∧ f_X11_town_B32 t (nI f) = _ ∧ _) ∨ (∃ o o', f_X5_read_B21 s T (nI c) = _ ∧ f_X11_town_B32 t (nI f) = _ ∧ _)
      unfold f_X5_read_B21 f_X11_town_B32 f_X5_read_J64
      have J : f_X11_town_J51 t (nI f) = some (((-10) : Int32) - nI f, sI t 1 16 0) := by
        unfold f_X11_town_J51
        rw [bV_e, if_neg (fun u => by have := (nI_le0 (by omega)).mp u; omega)]
      rw [if_neg f_ne, e3, if_neg f_ne, J, jw_e, jw_e]
      right
      refine ⟨(nI f, s), _, ?_, rfl, t, F, M, e2, Or.inr ⟨f, f0, f5, rfl, J⟩⟩
      split <;> rfl
