/-! the class's clause -/
theorem tP_at (B : Tb) : tP B = B 1 0 := rfl
theorem addP_is (B : Tb) (v : Nat) : tP (addP B v) = tP B + 1 ∧ tT (addP B v) = tT B ∧ tG (addP B v) = tG B ∧ tQ (addP B v) = tQ B ∧ (∀ a i, a ≠ 1 → a ≠ 2 → addP B v a i = B a i) ∧ addP B v 2 (tP B) = v ∧ ∀ p, p ≠ tP B → addP B v 2 p = B 2 p := by
  unfold addP
  refine ⟨tset_at _ _ _ _, ?_, ?_, ?_, fun a i h1 h2 => ?_, ?_, fun p hp => ?_⟩
  · exact (tset_ne (by decide)).trans (tset_ne (by omega))
  · exact (tset_ne (by decide)).trans (tset_ne (by omega))
  · exact (tset_ne (by decide)).trans (tset_ne (by omega))
  · rw [tset_ne (by omega), tset_ne (by omega)]
  · rw [tset_ne (by omega), tset_at]
  · rw [tset_ne (by omega), tset_ne (by omega)]
theorem addT_is (B : Tb) (a b : Nat) : tP (addT B a b) = tP B ∧ tT (addT B a b) = tT B + 1 ∧ tG (addT B a b) = tG B ∧ tQ (addT B a b) = tQ B ∧ (∀ x i, x ≠ 1 → x ≠ 3 → x ≠ 4 → addT B a b x i = B x i) ∧ (addT B a b 3 (tT B) = a ∧ addT B a b 4 (tT B) = b) ∧ ∀ t, t ≠ tT B → addT B a b 3 t = B 3 t ∧ addT B a b 4 t = B 4 t := by
  unfold addT
  refine ⟨?_, tset_at _ _ _ _, ?_, ?_, fun x i h1 h2 h3 => ?_, ⟨?_, ?_⟩, fun p hp => ⟨?_, ?_⟩⟩
  · exact (tset_ne (by decide)).trans ((tset_ne (by omega)).trans (tset_ne (by omega)))
  · exact (tset_ne (by decide)).trans ((tset_ne (by omega)).trans (tset_ne (by omega)))
  · exact (tset_ne (by decide)).trans ((tset_ne (by omega)).trans (tset_ne (by omega)))
  · rw [tset_ne (by omega), tset_ne (by omega), tset_ne (by omega)]
  · rw [tset_ne (by omega), tset_ne (by omega), tset_at]
  · rw [tset_ne (by omega), tset_at]
  · rw [tset_ne (by omega), tset_ne (by omega), tset_ne (by omega)]
  · rw [tset_ne (by omega), tset_ne (by omega), tset_ne (by omega)]
theorem addG_is (B : Tb) (a b : Nat) : tP (addG B a b) = tP B ∧ tT (addG B a b) = tT B ∧ tG (addG B a b) = tG B + 1 ∧ tQ (addG B a b) = tQ B ∧ (∀ x i, x ≠ 1 → x ≠ 6 → addG B a b x i = B x i) ∧ addG B a b 6 (tG B) = 100 * a + b ∧ ∀ g, g ≠ tG B → addG B a b 6 g = B 6 g := by
  unfold addG
  refine ⟨?_, ?_, tset_at _ _ _ _, ?_, fun x i h1 h2 => ?_, ?_, fun p hp => ?_⟩
  · exact (tset_ne (by decide)).trans (tset_ne (by omega))
  · exact (tset_ne (by decide)).trans (tset_ne (by omega))
  · exact (tset_ne (by decide)).trans (tset_ne (by omega))
  · rw [tset_ne (by omega), tset_ne (by omega)]
  · rw [tset_ne (by omega), tset_at]
  · rw [tset_ne (by omega), tset_ne (by omega)]
theorem addU_is (B : Tb) (a b : Nat) : tP (addU B a b) = tP B ∧ tT (addU B a b) = tT B ∧ tG (addU B a b) = tG B ∧ tQ (addU B a b) = tQ B + 1 ∧ (∀ x i, x ≠ 1 → x ≠ 7 → x ≠ 8 → addU B a b x i = B x i) ∧ (addU B a b 7 (tQ B) = a ∧ addU B a b 8 (tQ B) = b) ∧ ∀ t, t ≠ tQ B → addU B a b 7 t = B 7 t ∧ addU B a b 8 t = B 8 t := by
  unfold addU
  refine ⟨?_, ?_, ?_, tset_at _ _ _ _, fun x i h1 h2 h3 => ?_, ⟨?_, ?_⟩, fun p hp => ⟨?_, ?_⟩⟩
  · exact (tset_ne (by decide)).trans ((tset_ne (by omega)).trans (tset_ne (by omega)))
  · exact (tset_ne (by decide)).trans ((tset_ne (by omega)).trans (tset_ne (by omega)))
  · exact (tset_ne (by decide)).trans ((tset_ne (by omega)).trans (tset_ne (by omega)))
  · rw [tset_ne (by omega), tset_ne (by omega), tset_ne (by omega)]
  · rw [tset_ne (by omega), tset_ne (by omega), tset_at]
  · rw [tset_ne (by omega), tset_at]
  · rw [tset_ne (by omega), tset_ne (by omega), tset_ne (by omega)]
  · rw [tset_ne (by omega), tset_ne (by omega), tset_ne (by omega)]
theorem bears_same {A B : Tb} (h6 : ∀ i, B 6 i = A 6 i) (hg : tG B = tG A) : bears B = bears A := bears_eq (funext h6) hg
theorem xGr_same {σ : jS} {h : Nat} {A B : Tb} (h6 : ∀ i, B 6 i = A 6 i) (hg : tG B = tG A) (x : xGr σ h A) : xGr σ h B := xGr_cong hg (fun g _ => h6 g) x
theorem x_addPerson {σ : jS} {n : Nat} {w : Nat → Nat} {B : Tb} {T v : Nat} (p : pX σ n w B T) (h16 : tP B < 16) : ∃ σ', f_X8_addPerson σ T (nI v) = some ((), σ') ∧ pFr T σ σ' ∧ pX σ' n w (addP B v) T ∧ gI σ' 2 4 = gI σ 2 4 := by
  obtain ⟨t, hT, e3, e2, xt, xg⟩ := p
  obtain ⟨i1, i2, i3, i4, i5, i6, i7⟩ := addP_is B v
  have hT0 : T ≠ 2 ∧ T ≠ 3 ∧ T + 1 ≠ 2 ∧ T + 1 ≠ 3 := by omega
  refine ⟨sI (sI σ (T + 1) (tP B) (nI v)) T 6 (nI (tP B + 1)), ?_, ?_, ⟨?_, hT, ?_, ?_, ⟨?_, ?_, ?_, ?_, ?_, ?_⟩, ?_⟩, ?_⟩
  · unfold f_X8_addPerson
    rw [bH_t (T_in hT), xt.1, putT (j := 0) (n := 16) hT (by omega) h16, bD_e, gI_ne (by omega), xt.1, nI_1, bV_e]
  · exact ⟨fr_trans (fr_sI _ _ _ (by simp)) (fr_sI _ _ _ (by simp)), (gI_ne (by omega)).trans (gI_ne (by omega))⟩
  · exact txX_fr ((gI_ne (by omega)).trans (gI_ne (by omega))) (fun i => (gI_ne (by omega)).trans (gI_ne (by omega))) t
  · exact ((gI_ne (by omega)).trans (gI_ne (by omega))).trans e3
  · exact ((gI_ne (by omega)).trans (gI_ne (by omega))).trans e2
  · rw [gI_sI, i1]
  · rw [gI_nei (by decide), gI_ne (by omega), i2]; exact xt.2.1
  · rw [gI_nei (by decide), gI_ne (by omega), i4]; exact xt.2.2.1
  · intro q hq
    rw [i1] at hq
    rw [gI_ne (show T + 1 ≠ T by omega)]
    by_cases z : q = tP B
    · subst z; rw [gI_sI, i6]
    · rw [gI_nei z, i7 q z]; exact xt.2.2.2.1 q (by omega)
  · intro u hu
    rw [i2] at hu
    rw [gI_ne (show T + 2 ≠ T by omega), gI_ne (show T + 2 ≠ T + 1 by omega), gI_ne (show T + 3 ≠ T by omega), gI_ne (show T + 3 ≠ T + 1 by omega), i5 3 u (by decide) (by decide), i5 4 u (by decide) (by decide)]
    exact xt.2.2.2.2.1 u hu
  · intro u hu
    rw [i4] at hu
    rw [gI_ne (show T + 4 ≠ T by omega), gI_ne (show T + 4 ≠ T + 1 by omega), gI_ne (show T + 5 ≠ T by omega), gI_ne (show T + 5 ≠ T + 1 by omega), i5 7 u (by decide) (by decide), i5 8 u (by decide) (by decide)]
    exact xt.2.2.2.2.2 u hu
  · exact xGr_same (fun i => i5 6 i (by decide) (by decide)) i3 (xGr_keep (fun a ha i => (gI_ne (by simp at ha; omega)).trans (gI_ne (by simp at ha; omega))) xg)
  · exact (gI_ne (by omega)).trans (gI_ne (by omega))
theorem x_addPair {σ : jS} {n : Nat} {w : Nat → Nat} {B : Tb} {T k a b : Nat} (p : pX σ n w B T) (g : gB B) (hk : k < 4) (hk0 : k ≠ 0) (hf : full B k = false) (ha : a < tP B) (hb : b < tP B) (hag : ag B k a b = false) : ∃ σ', f_X8_addPair σ T (nI k) (nI a) (nI b) = some ((), σ') ∧ pFr T σ σ' ∧ pX σ' n w (addK B k a b) T ∧ gI σ' 2 4 = gI σ 2 4 := by
  obtain ⟨t, hT, e3, e2, xt, xg⟩ := p
  obtain ⟨g1, g2, g3, g4, g5, g6, g7, g8, g9⟩ := g
  have hab : a ≠ b := fun e => by unfold ag at hag; simp [e] at hag
  have hk3 : k = 1 ∨ k = 2 ∨ k = 3 := by omega
  unfold f_X8_addPair f_X8_addPair_J93 addK
  rcases hk3 with rfl | rfl | rfl
  · obtain ⟨i1, i2, i3, i4, i5, i6, i7⟩ := addT_is B a b
    have h40 : tT B < 40 := by
      have : ¬ 40 ≤ tT B := fun e => by unfold full at hf; simp [e] at hf
      omega
    rw [if_neg (show ¬ nI 1 = 2 by decide), if_pos (show nI 1 = 1 from rfl), if_neg (show ¬ (1 : Nat) = 2 by decide), if_pos (show (1 : Nat) = 1 from rfl), bH_t (T_in hT), xt.2.1, putT (j := 1) (n := 40) hT (by omega) h40, bD_e, gI_ne (by omega), xt.2.1, putT (j := 2) (n := 40) hT (by omega) h40, bD_e, gI_ne (by omega), gI_ne (by omega), xt.2.1, nI_1, bV_e]
    refine ⟨_, rfl, ?_, ⟨?_, hT, ?_, ?_, ⟨?_, ?_, ?_, ?_, ?_, ?_⟩, ?_⟩, ?_⟩
    · exact ⟨fr_trans (fr_trans (fr_sI _ _ _ (by simp)) (fr_sI _ _ _ (by simp))) (fr_sI _ _ _ (by simp)), (gI_ne (by omega)).trans ((gI_ne (by omega)).trans (gI_ne (by omega)))⟩
    · exact txX_fr ((gI_ne (by omega)).trans ((gI_ne (by omega)).trans (gI_ne (by omega)))) (fun i => (gI_ne (by omega)).trans ((gI_ne (by omega)).trans (gI_ne (by omega)))) t
    · exact ((gI_ne (by omega)).trans ((gI_ne (by omega)).trans (gI_ne (by omega)))).trans e3
    · exact ((gI_ne (by omega)).trans ((gI_ne (by omega)).trans (gI_ne (by omega)))).trans e2
    · rw [gI_nei (by decide), gI_ne (by omega), gI_ne (by omega), i1]; exact xt.1
    · rw [gI_sI, i2]
    · rw [gI_nei (by decide), gI_ne (by omega), gI_ne (by omega), i4]; exact xt.2.2.1
    · intro u hu
      rw [i1] at hu
      rw [gI_ne (show T + 1 ≠ T by omega), gI_ne (show T + 1 ≠ T + 2 + 1 by omega), gI_ne (show T + 1 ≠ T + 1 + 1 by omega), i5 2 u (by decide) (by decide) (by decide)]
      exact xt.2.2.2.1 u hu
    · intro u hu
      rw [i2] at hu
      rw [gI_ne (show T + 2 ≠ T by omega), gI_ne (show T + 2 ≠ T + 2 + 1 by omega), gI_ne (show T + 3 ≠ T by omega)]
      by_cases z : u = tT B
      · subst z
        rw [i6.1, i6.2]
        exact ⟨gI_sI _ _ _ _, gI_sI _ _ _ _⟩
      · rw [(i7 u z).1, (i7 u z).2]
        exact ⟨(gI_nei z).trans (xt.2.2.2.2.1 u (by omega)).1, ((gI_nei z).trans (gI_ne (by omega))).trans (xt.2.2.2.2.1 u (by omega)).2⟩
    · intro u hu
      rw [i4] at hu
      rw [gI_ne (show T + 4 ≠ T by omega), gI_ne (show T + 4 ≠ T + 2 + 1 by omega), gI_ne (show T + 4 ≠ T + 1 + 1 by omega), gI_ne (show T + 5 ≠ T by omega), gI_ne (show T + 5 ≠ T + 2 + 1 by omega), gI_ne (show T + 5 ≠ T + 1 + 1 by omega), i5 7 u (by decide) (by decide) (by decide), i5 8 u (by decide) (by decide) (by decide)]
      exact xt.2.2.2.2.2 u hu
    · exact xGr_same (fun i => i5 6 i (by decide) (by decide) (by decide)) i3 (xGr_keep (fun a ha i => (gI_ne (by simp at ha; omega)).trans ((gI_ne (by simp at ha; omega)).trans (gI_ne (by simp at ha; omega)))) xg)
    · exact (gI_ne (by omega)).trans ((gI_ne (by omega)).trans (gI_ne (by omega)))
  · obtain ⟨i1, i2, i3, i4, i5, i6, i7⟩ := addG_is B a b
    have nb : bears B a b = false := by
      cases h : bears B a b with
      | false => rfl
      | true => unfold ag at hag; simp [h] at hag
    have r120 := room g8 g1 ha hb hab nb
    obtain ⟨t1, t2⟩ := add_tab (B := addG B a b) g8 g1 i1 i3 ha hb hab (fun g hg => i7 g (by omega)) i6 nb
    obtain ⟨σ', a1, a2, a3, a4⟩ := x_add (B := addG B a b) (T_gr hT).2 xg (show a < 16 by omega) (show b < 16 by omega) hab r120 i3 (fun g hg => i7 g (by omega)) i6 nb t2 (by rw [bears_sym]; exact nb)
    rw [if_pos (show nI 2 = 2 from rfl), if_pos (show (2 : Nat) = 2 from rfl), bH_t (T_in hT), (T_gr hT).1, a1, bD_e]
    have f2 : ∀ i, gI σ' 2 i = gI σ 2 i := fun i => fr_I a2 (by simp <;> omega) i
    refine ⟨σ', rfl, ⟨fr_mono a2 (by simp), f2 1⟩, ⟨?_, hT, (f2 3).trans e3, (f2 2).trans e2, ⟨?_, ?_, ?_, ?_, ?_, ?_⟩, a4⟩, f2 4⟩
    · exact txX_fr (f2 1) (fun i => fr_I a2 (by simp <;> omega) i) t
    · rw [fr_I a2 (by simp <;> omega), i1]; exact xt.1
    · rw [fr_I a2 (by simp <;> omega), i2]; exact xt.2.1
    · rw [fr_I a2 (by simp <;> omega), i4]; exact xt.2.2.1
    · intro u hu
      rw [i1] at hu
      rw [fr_I a2 (by simp <;> omega), i5 2 u (by decide) (by decide)]; exact xt.2.2.2.1 u hu
    · intro u hu
      rw [i2] at hu
      rw [fr_I a2 (by simp <;> omega), fr_I a2 (by simp <;> omega), i5 3 u (by decide) (by decide), i5 4 u (by decide) (by decide)]; exact xt.2.2.2.2.1 u hu
    · intro u hu
      rw [i4] at hu
      rw [fr_I a2 (by simp <;> omega), fr_I a2 (by simp <;> omega), i5 7 u (by decide) (by decide), i5 8 u (by decide) (by decide)]; exact xt.2.2.2.2.2 u hu
  · obtain ⟨i1, i2, i3, i4, i5, i6, i7⟩ := addU_is B a b
    have h40 : tQ B < 4 := by
      have : ¬ 4 ≤ tQ B := fun e => by unfold full at hf; simp [e] at hf
      omega
    rw [if_neg (show ¬ nI 3 = 2 by decide), if_neg (show ¬ nI 3 = 1 by decide), if_neg (show ¬ (3 : Nat) = 2 by decide), if_neg (show ¬ (3 : Nat) = 1 by decide), bH_t (T_in hT), xt.2.2.1, putT (j := 3) (n := 4) hT (by omega) h40, bD_e, gI_ne (by omega), xt.2.2.1, putT (j := 4) (n := 4) hT (by omega) h40, bD_e, gI_ne (by omega), gI_ne (by omega), xt.2.2.1, nI_1, bV_e]
    refine ⟨_, rfl, ?_, ⟨?_, hT, ?_, ?_, ⟨?_, ?_, ?_, ?_, ?_, ?_⟩, ?_⟩, ?_⟩
    · exact ⟨fr_trans (fr_trans (fr_sI _ _ _ (by simp)) (fr_sI _ _ _ (by simp))) (fr_sI _ _ _ (by simp)), (gI_ne (by omega)).trans ((gI_ne (by omega)).trans (gI_ne (by omega)))⟩
    · exact txX_fr ((gI_ne (by omega)).trans ((gI_ne (by omega)).trans (gI_ne (by omega)))) (fun i => (gI_ne (by omega)).trans ((gI_ne (by omega)).trans (gI_ne (by omega)))) t
    · exact ((gI_ne (by omega)).trans ((gI_ne (by omega)).trans (gI_ne (by omega)))).trans e3
    · exact ((gI_ne (by omega)).trans ((gI_ne (by omega)).trans (gI_ne (by omega)))).trans e2
    · rw [gI_nei (by decide), gI_ne (by omega), gI_ne (by omega), i1]; exact xt.1
    · rw [gI_nei (by decide), gI_ne (by omega), gI_ne (by omega), i2]; exact xt.2.1
    · rw [gI_sI, i4]
    · intro u hu
      rw [i1] at hu
      rw [gI_ne (show T + 1 ≠ T by omega), gI_ne (show T + 1 ≠ T + 4 + 1 by omega), gI_ne (show T + 1 ≠ T + 3 + 1 by omega), i5 2 u (by decide) (by decide) (by decide)]
      exact xt.2.2.2.1 u hu
    · intro u hu
      rw [i2] at hu
      rw [gI_ne (show T + 2 ≠ T by omega), gI_ne (show T + 2 ≠ T + 4 + 1 by omega), gI_ne (show T + 2 ≠ T + 3 + 1 by omega), gI_ne (show T + 3 ≠ T by omega), gI_ne (show T + 3 ≠ T + 4 + 1 by omega), gI_ne (show T + 3 ≠ T + 3 + 1 by omega), i5 3 u (by decide) (by decide) (by decide), i5 4 u (by decide) (by decide) (by decide)]
      exact xt.2.2.2.2.1 u hu
    · intro u hu
      rw [i4] at hu
      rw [gI_ne (show T + 4 ≠ T by omega), gI_ne (show T + 4 ≠ T + 4 + 1 by omega), gI_ne (show T + 5 ≠ T by omega)]
      by_cases z : u = tQ B
      · subst z
        rw [i6.1, i6.2]
        exact ⟨gI_sI _ _ _ _, gI_sI _ _ _ _⟩
      · rw [(i7 u z).1, (i7 u z).2]
        exact ⟨(gI_nei z).trans (xt.2.2.2.2.2 u (by omega)).1, ((gI_nei z).trans (gI_ne (by omega))).trans (xt.2.2.2.2.2 u (by omega)).2⟩
    · exact xGr_same (fun i => i5 6 i (by decide) (by decide) (by decide)) i3 (xGr_keep (fun a ha i => (gI_ne (by simp at ha; omega)).trans ((gI_ne (by simp at ha; omega)).trans (gI_ne (by simp at ha; omega)))) xg)
    · exact (gI_ne (by omega)).trans ((gI_ne (by omega)).trans (gI_ne (by omega)))
