/-! fault, count, person, turn, grudge, quarrel, may -/
theorem r_fault (k : Nat) (σ τ : jS) (_hk : k < 2048) (h : Rel k σ τ) : ∃ r, f_X10_fault σ = some r ∧ f_X11_fault τ = some r := by
  obtain ⟨⟨hM, hX, hH, hS, hTT, hTx, hFl, hLg, hSe, hI⟩, _, _⟩ := h
  refine ⟨gI σ 1 9, rfl, ?_⟩
  unfold f_X11_fault
  rw [hFl]
theorem r_count (k : Nat) (σ τ : jS) (a : Int32) (_hk : k < 2048) (h : Rel k σ τ) : ∃ r, f_X10_count σ a = some r ∧ f_X11_count τ a = some r := by
  obtain ⟨⟨hM, hX, hH, hS, hTT, hTx, hFl, hLg, hSe, hI⟩, _, _⟩ := h
  obtain ⟨hN, _⟩ := hM
  obtain ⟨hT, hG, _, _⟩ := hX
  obtain ⟨n, _, t1, t2, _⟩ := hTx
  obtain ⟨n2, _, l1, l2, _⟩ := hLg
  obtain ⟨n3, _, s1, s2, _⟩ := hSe
  unfold f_X10_count f_X11_count
  by_cases z0 : a = 0
  · rw [if_pos z0, if_pos z0, bV_e, bH_t (T_in hT.1), hT.2.1, hN.1.1]; exact ⟨_, rfl, rfl⟩
  rw [if_neg z0, if_neg z0]
  by_cases z1 : a = 1
  · rw [if_pos z1, if_pos z1, bV_e, bH_t (T_in hT.1), hT.2.2.1, hN.2.1.1]; exact ⟨_, rfl, rfl⟩
  rw [if_neg z1, if_neg z1]
  by_cases z2 : a = 2
  · rw [if_pos z2, if_pos z2, hG.1, hN.2.2.1.1]; exact ⟨_, rfl, rfl⟩
  rw [if_neg z2, if_neg z2]
  by_cases z3 : a = 3
  · rw [if_pos z3, if_pos z3, bV_e, bH_t (T_in hT.1), hT.2.2.2.1, hN.2.2.2.1.1]; exact ⟨_, rfl, rfl⟩
  rw [if_neg z3, if_neg z3]
  by_cases z4 : a = 4
  · rw [if_pos z4, if_pos z4, t1, t2]; exact ⟨_, rfl, rfl⟩
  rw [if_neg z4, if_neg z4]
  by_cases z5 : a = 5
  · rw [if_pos z5, if_pos z5, l1, l2]; exact ⟨_, rfl, rfl⟩
  rw [if_neg z5, if_neg z5]
  by_cases z6 : a = 6
  · rw [if_pos z6, if_pos z6, s1, s2]; exact ⟨_, rfl, rfl⟩
  rw [if_neg z6, if_neg z6]
  exact ⟨_, rfl, rfl⟩
theorem r_turn (k : Nat) (σ τ : jS) (a b : Int32) (_hk : k < 2048) (h : Rel k σ τ) : ∃ r, f_X10_turn σ a b = some r ∧ f_X11_turn τ a b = some r := by
  obtain ⟨⟨hM, hX, _⟩, _, _⟩ := h
  exact q_turn hM.1 hM.2.2.1 hX.1 a b
theorem r_grudge (k : Nat) (σ τ : jS) (a : Int32) (_hk : k < 2048) (h : Rel k σ τ) : ∃ r, f_X10_grudge σ a = some r ∧ f_X11_grudge τ a = some r := by
  obtain ⟨⟨hM, hX, _⟩, _, _⟩ := h
  exact q_grudge hM.1 hM.2.2.2.2.1 hX.2.1 a
theorem tQ_tP {τ : jS} (hM : WM τ) (h : tQ (mn τ) ≠ 0) : tP (mn τ) ≠ 0 := by
  have := (hM.2.2.2.2.2.1 0 (by omega)).2.2.1
  omega
theorem r_quarrel (k : Nat) (σ τ : jS) (a b : Int32) (_hk : k < 2048) (h : Rel k σ τ) : ∃ r, f_X10_quarrel σ a b = some r ∧ f_X11_quarrel τ a b = some r := by
  obtain ⟨⟨hM, hX, hH, _⟩, _, _⟩ := h
  exact q_quarrel hM.1 hM.2.1 hM.2.2.1 hM.2.2.2.1 hM.2.2.2.2.1 hM.2.2.2.2.2.2 hX.1 hH (fun q => hX.2.2.2 (tQ_tP hM q)) a b
theorem r_may (k : Nat) (σ τ : jS) (a : Int32) (_hk : k < 2048) (h : Rel k σ τ) : ∃ r, f_X10_may σ a = some r ∧ f_X11_may τ a = some r := by
  obtain ⟨⟨hM, hX, hH, _⟩, _, _⟩ := h
  exact q_may hM.1 hM.2.1 hM.2.2.1 hM.2.2.2.1 hM.2.2.2.2.1 hM.2.2.2.2.2.2 hX.1 hH (fun q => hX.2.2.2 (tQ_tP hM q)) a
/-! person -/
theorem nbm0 {f : Nat → Bool} {n : Nat} (h : ∀ k, f k = false) : nI (bm f n) = 0 := by rw [bm_zero.mpr fun k _ => h k]; rfl
theorem or_0 (m : Nat) : nI m ||| (0 : Int32) = nI m := by
  show nI m ||| nI 0 = nI m
  rw [nI_or, Nat.or_zero]
theorem x_debtorsOf {σ : jS} {A : Tb} {T p : Nat} (w : wA A) (hT : xTb σ A T) (hp : p < 16) : f_X8_debtorsOf σ T (nI p) = some (nI (bm (owes A p) 16)) := by
  have h40 := w.2.1
  have hP := w.1
  unfold f_X8_debtorsOf
  refine jloop_0 (fun i => (nI (bm (fun q => bex i fun t => A 3 t == q && A 4 t == p) 16), nI i)) (tT A) (Prod.ext (nbm0 fun _ => rfl) rfl) (jfuel_big (by omega)) ?_ ?_
  · show f_X8_debtorsOf_B4 σ T _ _ _ = _
    unfold f_X8_debtorsOf_B4 f_X8_debtorsOf_J43
    rw [bH_t (T_in hT.1), hT.2.2.1, if_pos (Int32.le_refl _), jw_e]
    rfl
  · intro i hi
    have hq := w.2.2.2.1 i hi
    have n3 : gI σ (T + 1 + 1) i = nI (A 3 i) := (hT.2.2.2.2.2.1 i hi).1
    have n4 : gI σ (T + 2 + 1) i = nI (A 4 i) := (hT.2.2.2.2.2.1 i hi).2
    show f_X8_debtorsOf_B4 σ T (nI p) (nI (bm (fun q => bex i fun t => A 3 t == q && A 4 t == p) 16)) (nI i) = _
    unfold f_X8_debtorsOf_B4 f_X8_debtorsOf_J37
    rw [bH_t (T_in hT.1), hT.2.2.1, if_neg (nI_ge hi (by omega)), atT (j := 2) (n := 40) hT.1 (by omega) (by omega), bC_e, n4]
    by_cases z : A 4 i = p
    · rw [if_pos (congrArg nI z), atT (j := 1) (n := 40) hT.1 (by omega) (by omega), bC_e, n3, bV_e, bV_e, nI_or1 _ (by omega), nI_1]
      refine congrArg (fun m => some (Sum.inl (nI m, nI (i + 1)))) (bm_cong fun q _ => ?_)
      rw [bex_succ, z]
      by_cases y : q = A 3 i
      · subst y; simp
      · have y2 : (A 3 i == q) = false := by simp; exact fun e => y e.symm
        simp [y, y2]
    · rw [if_neg (fun e => z ((nI_eq (by omega) (by omega)).mp e)), bV_e, nI_1]
      refine congrArg (fun m => some (Sum.inl (nI m, nI (i + 1)))) (bm_cong fun q _ => ?_)
      rw [bex_succ]
      simp [z]
/-- whom p owes a turn -/
def owedBy (A : Tb) (p q : Nat) : Bool := bex (tT A) fun t => A 3 t == p && A 4 t == q
theorem x_creditorsOf {σ : jS} {A : Tb} {T p : Nat} (w : wA A) (hT : xTb σ A T) (hp : p < 16) : f_X8_creditorsOf σ T (nI p) = some (nI (bm (owedBy A p) 16)) := by
  have h40 := w.2.1
  have hP := w.1
  unfold f_X8_creditorsOf
  refine jloop_0 (fun i => (nI (bm (fun q => bex i fun t => A 3 t == p && A 4 t == q) 16), nI i)) (tT A) (Prod.ext (nbm0 fun _ => rfl) rfl) (jfuel_big (by omega)) ?_ ?_
  · show f_X8_creditorsOf_B4 σ T _ _ _ = _
    unfold f_X8_creditorsOf_B4 f_X8_creditorsOf_J43
    rw [bH_t (T_in hT.1), hT.2.2.1, if_pos (Int32.le_refl _), jw_e]
    rfl
  · intro i hi
    have hq := w.2.2.2.1 i hi
    have n3 : gI σ (T + 1 + 1) i = nI (A 3 i) := (hT.2.2.2.2.2.1 i hi).1
    have n4 : gI σ (T + 2 + 1) i = nI (A 4 i) := (hT.2.2.2.2.2.1 i hi).2
    show f_X8_creditorsOf_B4 σ T (nI p) (nI (bm (fun q => bex i fun t => A 3 t == p && A 4 t == q) 16)) (nI i) = _
    unfold f_X8_creditorsOf_B4 f_X8_creditorsOf_J37
    rw [bH_t (T_in hT.1), hT.2.2.1, if_neg (nI_ge hi (by omega)), atT (j := 1) (n := 40) hT.1 (by omega) (by omega), bC_e, n3]
    by_cases z : A 3 i = p
    · rw [if_pos (congrArg nI z), atT (j := 2) (n := 40) hT.1 (by omega) (by omega), bC_e, n4, bV_e, bV_e, nI_or1 _ (by omega), nI_1]
      refine congrArg (fun m => some (Sum.inl (nI m, nI (i + 1)))) (bm_cong fun q _ => ?_)
      rw [bex_succ, z]
      by_cases y : q = A 4 i
      · subst y; simp
      · have y2 : (A 4 i == q) = false := by simp; exact fun e => y e.symm
        simp [y, y2]
    · rw [if_neg (fun e => z ((nI_eq (by omega) (by omega)).mp e)), bV_e, nI_1]
      refine congrArg (fun m => some (Sum.inl (nI m, nI (i + 1)))) (bm_cong fun q _ => ?_)
      rw [bex_succ]
      simp [z]
theorem bearsAt_iff {A : Tb} {p q g : Nat} (hp : p < 100) (hq : q < 100) : bearsAt A p q g = true ↔ (A 6 g / 100 = p ∧ A 6 g % 100 = q) ∨ (A 6 g / 100 = q ∧ A 6 g % 100 = p) := by
  unfold bearsAt
  simp only [Bool.or_eq_true, beq_iff_eq]
  omega
theorem m_bears {τ : jS} (hN : wN τ) (hG : wG τ) {p : Nat} (hp : p < 16) : f_X11_bears τ (nI p) = some (nI (bm (bears (mn τ) p) 16)) := by
  have h120 := hN.2.2.1.2
  have hP := hN.1.2
  unfold f_X11_bears
  refine jloop_0 (fun i => (nI (bm (fun q => bex i (bearsAt (mn τ) p q)) 16), nI i)) (tG (mn τ)) (Prod.ext (nbm0 fun _ => rfl) rfl) (jfuel_big (by omega)) ?_ ?_
  · show f_X11_bears_B4 τ _ _ _ = _
    unfold f_X11_bears_B4 f_X11_bears_J80
    rw [hN.2.2.1.1, if_pos (Int32.le_refl _), jw_e]
    rfl
  · intro i hi
    obtain ⟨g1, g2, g3, g4⟩ := hG.1 i hi
    have e100 : (100 : Int32) = nI 100 := rfl
    have j120 : jin (nI i) 120 = true := jin_nI (by omega) (by omega)
    generalize hx : mn τ 6 i = x at g1 g2 g3 g4
    have hx16 : x / 100 < 16 ∧ x % 100 < 16 := by omega
    have F : ∀ q, q < 16 → (bearsAt (mn τ) p q i = ((x / 100 == p && q == x % 100) || (x % 100 == p && q == x / 100))) := by
      intro q hq
      rw [Bool.eq_iff_iff, bearsAt_iff (by omega) (by omega), hx]
      simp only [Bool.or_eq_true, Bool.and_eq_true, beq_iff_eq]
      omega
    have d1 : nI x / nI 100 = nI (x / 100) := pk_div (by omega) (by decide) (by decide)
    have d2 : nI x - nI (x / 100) * nI 100 = nI (x % 100) := by
      rw [← d1]; exact pk_rem (by omega) (by decide) (by decide)
    show f_X11_bears_B4 τ (nI p) (nI (bm (fun q => bex i (bearsAt (mn τ) p q)) 16)) (nI i) = _
    unfold f_X11_bears_B4 f_X11_bears_J41 f_X11_bears_J72
    rw [hN.2.2.1.1, if_neg (nI_ge hi (by omega))]
    simp only [bV_e, bG_t j120, ix_nI (show i < 2 ^ 31 by omega), g1, e100, d1, d2, nI_1]
    have c1 : nI (x / 100) = nI p ↔ x / 100 = p := nI_eq (by omega) (by omega)
    have c2 : nI (x % 100) = nI p ↔ x % 100 = p := nI_eq (by omega) (by omega)
    have or0 : ∀ m, nI m ||| (0 : Int32) = nI m := fun m => by
      show nI m ||| nI 0 = nI m
      rw [nI_or, Nat.or_zero]
    have fin : ∀ f : Nat → Bool, (∀ q, q < 16 → f q = (bex i (bearsAt (mn τ) p q) || bearsAt (mn τ) p q i)) → (some (Sum.inl (nI (bm f 16), nI (i + 1))) : Option ((Int32 × Int32) ⊕ Int32)) = some (Sum.inl (nI (bm (fun q => bex (i + 1) (bearsAt (mn τ) p q)) 16), nI (i + 1))) := by
      intro f hf
      refine congrArg (fun m => some (Sum.inl (nI m, nI (i + 1)))) (bm_cong fun q hq => ?_)
      rw [bex_succ]; exact hf q hq
    by_cases z1 : x / 100 = p <;> by_cases z2 : x % 100 = p
    · exfalso; omega
    · rw [if_pos (c1.mpr z1), if_neg (fun e => z2 (c2.mp e)), nI_or1 _ hx16.2, or0]
      refine fin _ fun q hq => ?_
      rw [F q hq, beq_iff_eq.mpr z1, beq_eq_false_iff_ne.mpr z2]; simp
    · rw [if_neg (fun e => z1 (c1.mp e)), if_pos (c2.mpr z2), or0, nI_or1 _ hx16.1]
      refine fin _ fun q hq => ?_
      rw [F q hq, beq_eq_false_iff_ne.mpr z1, beq_iff_eq.mpr z2]; simp
    · rw [if_neg (fun e => z1 (c1.mp e)), if_neg (fun e => z2 (c2.mp e)), or0, or0]
      refine fin _ fun q hq => ?_
      rw [F q hq]; simp [z1, z2]
theorem r_person (k : Nat) (σ τ : jS) (a b : Int32) (_hk : k < 2048) (h : Rel k σ τ) : ∃ r, f_X10_person σ a b = some r ∧ f_X11_person τ a b = some r := by
  obtain ⟨⟨hM, hX, _⟩, _, _⟩ := h
  obtain ⟨hN, hS, hTm, hO, hG, hQ, hu⟩ := hM
  have w := wA_of hN hTm
  have h40 := w.2.1
  have hP := w.1
  obtain ⟨hT, hGx, _⟩ := hX
  unfold f_X10_person f_X11_person
  rcases is_both (x_isPerson hT hN.1.2 a) (m_isPerson hN a) with ⟨p, h1, rfl, h2, h3⟩ | ⟨h2, h3⟩
  · have hp : p < 16 := by omega
    have m : jloop jFuel (fun s => f_X11_person_B17 τ (nI p) b s.1 s.2) (0, 0) = f_X11_person_J59 τ (nI p) b (nI (bm (owedBy (mn τ) p) 16)) := by
      obtain ⟨o, ho⟩ : ∃ o, f_X11_person_J59 τ (nI p) b (nI (bm (owedBy (mn τ) p) 16)) = some o := by
        unfold f_X11_person_J59 f_X11_person_J111
        have j16 : jin (nI p) 16 = true := jin_nI hp (by omega)
        rw [bG_t j16, bG_t j16, m_bears hN hG hp, bC_e]
        split
        · exact ⟨_, rfl⟩
        · split
          · exact ⟨_, rfl⟩
          · split
            · exact ⟨_, rfl⟩
            · split <;> exact ⟨_, rfl⟩
      rw [ho]
      refine jloop_0 (fun i => (nI (bm (fun q => bex i fun t => mn τ 3 t == p && mn τ 4 t == q) 16), nI i)) (tT (mn τ)) (Prod.ext (nbm0 fun _ => rfl) rfl) (jfuel_big (by omega)) ?_ ?_
      · show f_X11_person_B17 τ _ _ _ _ = _
        unfold f_X11_person_B17
        rw [hN.2.1.1, if_pos (Int32.le_refl _), show bm (fun q => bex (tT (mn τ)) fun t => mn τ 3 t == p && mn τ 4 t == q) 16 = bm (owedBy (mn τ) p) 16 from rfl, ho, jw_e]
      · intro i hi
        obtain ⟨n3, n4, q3, q4, q5⟩ := hTm.1 i hi
        have j40 : jin (nI i) 40 = true := jin_nI (by omega) (by omega)
        have or0 : ∀ m, nI m ||| (0 : Int32) = nI m := fun m => by
          show nI m ||| nI 0 = nI m
          rw [nI_or, Nat.or_zero]
        show f_X11_person_B17 τ (nI p) b (nI (bm (fun q => bex i fun t => mn τ 3 t == p && mn τ 4 t == q) 16)) (nI i) = _
        unfold f_X11_person_B17 f_X11_person_J51
        rw [hN.2.1.1, if_neg (nI_ge hi (by omega)), bG_t j40, bG_t j40, ix_nI (by omega), n3, n4, bV_e, bV_e, bV_e, bV_e, nI_1]
        by_cases z : mn τ 3 i = p
        · rw [if_pos (congrArg nI z), nI_or1 _ (by omega)]
          refine congrArg (fun m => some (Sum.inl (nI m, nI (i + 1)))) (bm_cong fun q _ => ?_)
          rw [bex_succ, z]
          by_cases y : q = mn τ 4 i
          · subst y; simp
          · have y2 : (mn τ 4 i == q) = false := by simp; exact fun e => y e.symm
            simp [y, y2]
        · rw [if_neg (fun e => z ((nI_eq (by omega) (by omega)).mp e)), or0]
          refine congrArg (fun m => some (Sum.inl (nI m, nI (i + 1)))) (bm_cong fun q _ => ?_)
          rw [bex_succ]
          simp [z]
    rw [h2, h3, bC_e, bC_e, if_neg (show ¬ (1 : Int32) = 0 by decide), if_neg (show ¬ (1 : Int32) = 0 by decide), m]
    unfold f_X11_person_J59 f_X11_person_J111
    have j16 : jin (nI p) 16 = true := jin_nI hp (by omega)
    rw [bG_t j16, bG_t j16, m_bears hN hG hp, bC_e, ix_nI (by omega), (hS p hp).1, hO p hp]
    by_cases z0 : b = 0
    · rw [if_pos z0, if_pos z0, bV_e, bH_t (T_in hT.1), atT (j := 0) (n := 16) hT.1 (by omega) hp, bC_e]
      exact ⟨_, rfl, congrArg some (hT.2.2.2.2.1 p h1).symm⟩
    rw [if_neg z0, if_neg z0]
    by_cases z1 : b = 1
    · rw [if_pos z1, if_pos z1, bV_e, bH_t (T_in hT.1), x_debtorsOf w hT hp, bC_e]
      exact ⟨_, rfl, rfl⟩
    rw [if_neg z1, if_neg z1]
    by_cases z2 : b = 2
    · rw [if_pos z2, if_pos z2, bV_e, bH_t (T_in hT.1), x_creditorsOf w hT hp, bC_e]
      exact ⟨_, rfl, rfl⟩
    rw [if_neg z2, if_neg z2]
    by_cases z3 : b = 3
    · rw [if_pos z3, if_pos z3, at35 hp, bC_e, hGx.2.2 p hp]
      exact ⟨_, rfl, rfl⟩
    rw [if_neg z3, if_neg z3]
    exact ⟨_, rfl, rfl⟩
  · rw [h2, h3]
    exact ⟨_, rfl, rfl⟩
