/-! the ways built: all, and settled -/
theorem xTb_fr {H : List Nat} {σ σ' : jS} {A : Tb} {T : Nat} (h : fr H σ σ') (hH : ∀ x, x ∈ H → x < 51 ∨ x = 57 ∨ x = 67) (hT : xTb σ A T) : xTb σ' A T := by
  refine ⟨hT.1, ?_⟩
  have F : ∀ j, j ≤ 5 → ∀ i, gI σ' (T + j) i = gI σ (T + j) i := fun j hj i => fr_I h (by
    intro q
    have := hH _ q
    have := hT.1
    omega) i
  obtain ⟨t1, t2, t3, t4, t5, t6⟩ := hT.2
  exact ⟨(F 0 (by decide) 6).trans t1, (F 0 (by decide) 7).trans t2, (F 0 (by decide) 8).trans t3, fun p hp => (F 1 (by decide) p).trans (t4 p hp), fun t ht => ⟨(F 2 (by decide) t).trans (t5 t ht).1, (F 3 (by decide) t).trans (t5 t ht).2⟩, fun q hq => ⟨(F 4 (by decide) q).trans (t6 q hq).1, (F 5 (by decide) q).trans (t6 q hq).2⟩⟩
theorem b_L1 {σ : jS} {A : Tb} {T : Nat} (w : wA A) (hT : xTb σ A T) (hS : ∀ p, p < 16 → A 2 p ≤ 9) (hW : tW A ≤ 3) (h5 : gI σ 5 5 = nI (tB A)) (h8 : ∀ s, s < 56 → gL σ 8 s = 0) (h9 : ∀ s, s < 56 → gL σ 9 s = 0) (h10 : ∀ s, s < 16 → gL σ 10 s = 0) : ∃ σ', jloop jFuel (fun s => f_X9_build_B32 s.2 T (nI (tW A)) s.1) (0, σ) = some ((), σ') ∧ fr [6, 7, 8, 9, 10] σ σ' ∧ xsp σ' A 56 ∧ xjo σ' (onK A (tT A)) := by
  have z0 : ∀ (p : Nat → Bool) (n : Nat), (∀ k, k < n → p k = false) → lN (bm p n) = 0 := fun p n h => by rw [bm_zero.mpr h]; rfl
  have key := jloop_ex (S := Int32 × jS) (O := Unit × jS) (f := fun s => f_X9_build_B32 s.2 T (nI (tW A)) s.1) (fun i s => s.1 = nI i ∧ fr [6, 7, 10] σ s.2 ∧ xsp s.2 A i) 16 (fun o => fr [6, 7, 8, 9, 10] σ o.2 ∧ xsp o.2 A 56 ∧ xjo o.2 (onK A (tT A))) (s0 := (0, σ)) ⟨rfl, fr_rfl _ _, fun s hs => absurd hs (Nat.not_lt_zero s), fun p hp => (h10 p hp).trans (z0 _ 0 (fun k hk => absurd hk (Nat.not_lt_zero k))).symm⟩ (jfuel_big (by omega)) ?_ ?_
  · obtain ⟨o, e1, e2⟩ := key
    exact ⟨o.2, e1, e2⟩
  · rintro ⟨a, s⟩ ⟨rfl, g1, g2⟩
    have hj : xjo s (onK A 0) := ⟨fun u hu => (fr_L g1 (by decide) u).trans ((h8 u hu).trans (z0 _ _ (fun k _ => rfl)).symm), fun u hu => (fr_L g1 (by decide) u).trans ((h9 u hu).trans (z0 _ _ (fun k _ => rfl)).symm)⟩
    obtain ⟨s2, e1, e2, e3, e4⟩ := b_L2 w (xTb_fr g1 (by decide) hT) hS hW (show gI s 5 5 = nI (tB A) by rw [fr_I g1 (by decide)]; exact h5) g2 hj
    refine ⟨((), s2), ?_, fr_trans (fr_mono g1 (by decide)) e2, e3, e4⟩
    show f_X9_build_B32 s T _ (nI 16) = _
    unfold f_X9_build_B32
    rw [if_pos (show (16 : Int32) ≤ nI 16 from Int32.le_refl _), e1, jw_e]
  · rintro i ⟨a, s⟩ hi ⟨rfl, g1, g2⟩
    refine Or.inl ⟨(nI (i + 1), sL (sI (sI s 6 i (nI i)) 7 i (-1)) 10 i (gL s 10 i ||| lN (2 ^ i))), ?_, rfl, ?_, ?_⟩
    · show f_X9_build_B32 s T _ (nI i) = _
      unfold f_X9_build_B32
      rw [if_neg (show ¬ (16 : Int32) ≤ nI i from nI_ge (b := 16) hi (by omega)), x_setSpot (by omega) (by omega), bD_e, bV_e, nI_1]
    · exact fr_trans g1 (fr_trans (fr_trans (fr_sI _ _ _ (by decide)) (fr_sI _ _ _ (by decide))) (fr_sL _ _ _ (by decide)))
    · exact xsp_some g2 (by omega) (by unfold e6; rw [if_pos hi]) (by unfold e7; rw [if_pos hi]) (fun q => by unfold heldBy; rw [if_pos hi])
theorem x_build {σ : jS} {A : Tb} {T : Nat} (w : wA A) (hT : xTb σ A T) (hS : ∀ p, p < 16 → A 2 p ≤ 9) (hW : tW A ≤ 3) : ∃ σ', f_X9_build σ T (nI (tW A)) (nI (tB A)) = some ((), σ') ∧ fr [5, 6, 7, 8, 9, 10] σ σ' ∧ xW σ' A := by
  have hB := w.2.2.1
  have h40 := w.2.1
  unfold f_X9_build
  obtain ⟨s1, a1, a2, a3, a4⟩ := x_fillL (σ := sI σ 5 5 (nI (tB A))) (h := 8) (v := 0) (by decide) rfl (by decide)
  obtain ⟨s2, b1, b2, b3, b4⟩ := x_fillL (σ := s1) (h := 9) (v := 0) (by decide) rfl (by decide)
  obtain ⟨s3, c1, c2, c3, c4⟩ := x_fillL (σ := s2) (h := 10) (v := 0) (by decide) rfl (by decide)
  have f0 : fr [5, 6, 7, 8, 9, 10] σ s3 := fr_trans (fr_trans (fr_trans (fr_sI σ (h := 5) 5 _ (by decide)) (fr_mono a2 (by decide))) (fr_mono b2 (by decide))) (fr_mono c2 (by decide))
  have i5 : gI s3 5 5 = nI (tB A) := by rw [c4, b4, a4, gI_sI]
  obtain ⟨s4, d1, d2, d3, d4⟩ := b_L1 w (xTb_fr f0 (by decide) hT) hS hW i5 (fun s hs => by rw [fr_L c2 (by decide), fr_L b2 (by decide)]; exact a3 s hs) (fun s hs => by rw [fr_L c2 (by decide)]; exact b3 s hs) (fun s hs => c3 s hs)
  refine ⟨s4, ?_, fr_trans f0 (fr_mono d2 (by decide)), ?_, ?_, ?_, ?_, ?_, ?_⟩
  · have hb : jb (nI (tB A)) = true := by
      have : tB A = 0 ∨ tB A = 1 := by omega
      rcases this with h | h <;> rw [h] <;> rfl
    rw [bG_t hb, bV_e, a1, bD_e, b1, bD_e, c1, bD_e]
    exact d1
  · rw [fr_I d2 (by decide)]; exact i5
  · intro s hs
    have := d3.1 s (by omega)
    rw [if_pos hs, if_pos hs] at this
    exact this
  · intro t ht
    have := d3.1 (16 + t) (by omega)
    rw [if_neg (show ¬ 16 + t < 16 by omega), if_neg (show ¬ 16 + t < 16 by omega), Nat.add_sub_cancel_left, if_pos ht, if_pos ht] at this
    exact this
  · intro s hs; exact d4.1 s hs
  · intro s hs; exact d4.2 s hs
  · intro p hp; exact d3.2 p hp
theorem x_copy {σ : jS} {a b n : Nat} (h0 : a ≠ 0) (hr : jrwX 0 a = true) (g0 : b ≠ 0) (gr : jrwX 0 b = true) (ha : n ≤ (SHX a).2) (hb : n ≤ (SHX b).2) (ha2 : (SHX a).2 < 2 ^ 31) (hb2 : (SHX b).2 < 2 ^ 31) (hn : n ≤ 1000) (hab : a ≠ b) : ∃ σ', f_X6_copy σ a b (nI n) = some ((), σ') ∧ fr [b] σ σ' ∧ (∀ i, i < n → gI σ' b i = gI σ a i) ∧ (∀ i, n ≤ i → gI σ' b i = gI σ b i) ∧ ∀ h i, gL σ' h i = gL σ h i := by
  unfold f_X6_copy
  have key := jloop_ex (S := Int32 × jS) (O := Unit × jS) (f := fun s => f_X6_copy_B2 s.2 a b (nI n) s.1) (fun i s => s.1 = nI i ∧ fr [b] σ s.2 ∧ (∀ j, j < i → gI s.2 b j = gI σ a j) ∧ (∀ j, i ≤ j → gI s.2 b j = gI σ b j) ∧ ∀ h j, gL s.2 h j = gL σ h j) n (fun o => fr [b] σ o.2 ∧ (∀ i, i < n → gI o.2 b i = gI σ a i) ∧ (∀ i, n ≤ i → gI o.2 b i = gI σ b i) ∧ ∀ h i, gL o.2 h i = gL σ h i) (s0 := (0, σ)) ⟨rfl, fr_rfl _ _, fun j hj => absurd hj (Nat.not_lt_zero j), fun _ _ => rfl, fun _ _ => rfl⟩ (jfuel_big (by omega)) ?_ ?_
  · obtain ⟨o, e1, e2⟩ := key
    exact ⟨o.2, e1, e2⟩
  · rintro ⟨u, s⟩ ⟨rfl, g⟩
    refine ⟨((), s), ?_, g⟩
    show f_X6_copy_B2 s a b _ (nI n) = _
    unfold f_X6_copy_B2 f_X6_copy_J23
    rw [if_pos (Int32.le_refl _), jw_e]
  · rintro i ⟨u, s⟩ hi ⟨rfl, g1, g2, g3, g4⟩
    refine Or.inl ⟨(nI (i + 1), sI s b i (gI σ a i)), ?_, rfl, fr_trans g1 (fr_sI _ _ _ (List.mem_singleton.mpr rfl)), ?_, ?_, g4⟩
    · show f_X6_copy_B2 s a b _ (nI i) = _
      unfold f_X6_copy_B2
      rw [if_neg (nI_ge hi (by omega)), x_at h0 hr (by omega) ha2, bC_e, fr_I g1 (by simpa using hab), x_put g0 gr (by omega) hb2, bD_e, bV_e, nI_1]
    · intro j hj
      by_cases q : j = i
      · subst q; exact gI_sI s b j _
      · show gI (sI s b i _) b j = _
        rw [gI_nei q]; exact g2 j (by omega)
    · intro j hj
      show gI (sI s b i _) b j = _
      rw [gI_nei (by omega)]; exact g3 j (by omega)
/-- settle: ways and foes are those of the present town -/
theorem x_settle {σ : jS} {A : Tb} (w : wA A) (hT : xT σ A) (hS : ∀ p, p < 16 → A 2 p ≤ 9) (hW : tW A ≤ 3) (hL : xL σ A) (hG : ∀ p, p < 16 → gI σ 35 p = nI (bm (bears A p) 16)) : ∃ σ', f_X10_settle σ = some ((), σ') ∧ fr [5, 6, 7, 8, 9, 10, 11] σ σ' ∧ xW σ' A ∧ xF σ' A := by
  have hB := w.2.2.1
  obtain ⟨s1, a1, a2, a3⟩ := x_build w (show xTb σ A σ.2.2.1 from hT) hS hW
  obtain ⟨s2, b1, b2, b3, _, b5⟩ := x_copy (σ := s1) (a := 35) (b := 11) (n := 16) (by decide) rfl (by decide) rfl (by decide) (by decide) (by decide) (by decide) (by decide) (by decide)
  have main : f_X10_settle_J33 σ (nI (tB A)) (nI (tW A)) σ.2.2.1 = some ((), s2) := by
    unfold f_X10_settle_J33 f_X0_takeFoes
    rw [a1, bD_e, bH_t (by decide), show rPX 32 2 = 35 from rfl]
    rw [show f_X6_copy s1 35 11 16 = some ((), s2) from b1, bD_e, bD_e]
  refine ⟨s2, ?_, fr_trans (fr_mono a2 (by decide)) (fr_mono b2 (by decide)), ?_, ?_⟩
  · unfold f_X10_settle
    rw [bV_e, hL.1, hL.2]
    have : tB A = 0 ∨ tB A = 1 := by omega
    rcases this with h | h
    · rw [h] at main ⊢
      rw [if_pos (show nI 0 = 0 from rfl)]; exact main
    · rw [h] at main ⊢
      rw [if_neg (show ¬ nI 1 = 0 by decide)]; exact main
  · obtain ⟨a1', a2', a3', a4', a5', a6'⟩ := a3
    refine ⟨?_, ?_, ?_, ?_, ?_, ?_⟩
    · rw [fr_I b2 (by decide)]; exact a1'
    · intro s hs; rw [fr_I b2 (by decide), fr_I b2 (by decide)]; exact a2' s hs
    · intro s hs; rw [fr_I b2 (by decide), fr_I b2 (by decide)]; exact a3' s hs
    · intro s hs; rw [b5]; exact a4' s hs
    · intro s hs; rw [b5]; exact a5' s hs
    · intro s hs; rw [b5]; exact a6' s hs
  · intro p hp
    rw [b3 p hp, fr_I a2 (by decide)]; exact hG p hp
