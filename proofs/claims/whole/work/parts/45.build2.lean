/-! the ways built: the three loops, settle -/
theorem x_isAl {A : Tb} {p q : Nat} (hp : A 2 p ≤ 9) (hq : A 2 q ≤ 9) (hW : tW A ≤ 3) : f_X9_isAllowed (nI (tW A)) (nI (A 2 p)) (nI (A 2 q)) = some (if lawful A p q = true then 1 else 0) := by
  unfold f_X9_isAllowed f_X9_isAllowed_J40 f_X9_isAllowed_J51 f_X9_isAllowed_J66 lawful
  have h : tW A = 0 ∨ tW A = 1 ∨ tW A = 2 ∨ tW A = 3 := by omega
  rcases h with h | h | h | h <;> rw [h]
  · rw [if_pos (show nI 0 = 0 from rfl), if_pos (show (0 : Nat) = 0 from rfl)]
    by_cases z : A 2 q + 1 = A 2 p
    · rw [if_pos (show nI (A 2 q) = nI (A 2 p) - 1 by rw [← z, nI_succ]; simp), if_pos (by simp [z])]; rfl
    · rw [if_neg (fun e => z ?_), if_neg (by simp [z])]; rfl
      have e2 : nI (A 2 q + 1) = nI (A 2 p) := by rw [nI_succ, e]; simp
      exact (nI_eq (by omega) (by omega)).mp e2
  · rw [if_neg (show ¬ nI 1 = 0 by decide), if_pos (show nI 1 = 1 from rfl), if_neg (show ¬ (1 : Nat) = 0 by decide), if_pos (show (1 : Nat) = 1 from rfl)]
    by_cases z : A 2 q < A 2 p
    · rw [if_neg (nI_ge z (by omega)), if_pos (by simp [z])]; rfl
    · rw [if_pos (nI_le (by omega) (by omega)), if_neg (by simp [z])]; rfl
  · rw [if_neg (show ¬ nI 2 = 0 by decide), if_neg (show ¬ nI 2 = 1 by decide), if_pos (show nI 2 = 2 from rfl), if_neg (show ¬ (2 : Nat) = 0 by decide), if_neg (show ¬ (2 : Nat) = 1 by decide), if_pos (show (2 : Nat) = 2 from rfl), if_pos (show true = true from rfl)]
  · rw [if_neg (show ¬ nI 3 = 0 by decide), if_neg (show ¬ nI 3 = 1 by decide), if_neg (show ¬ nI 3 = 2 by decide), if_neg (show ¬ (3 : Nat) = 0 by decide), if_neg (show ¬ (3 : Nat) = 1 by decide), if_neg (show ¬ (3 : Nat) = 2 by decide)]
    by_cases z : A 2 q = A 2 p + 1
    · rw [if_pos (show nI (A 2 q) = nI (A 2 p) + 1 by rw [z, nI_succ]), if_pos (by simp [z])]; rfl
    · rw [if_neg (fun e => z ?_), if_neg (by simp [z])]; rfl
      rw [← nI_succ] at e
      exact (nI_eq (by omega) (by omega)).mp e
/-- what build reads of the town -/
def xTb (σ : jS) (A : Tb) (T : Nat) : Prop := (T = 51 ∨ T = 61) ∧ xTo σ A T
theorem joinT_un {A : Tb} {s t : Nat} (h : lawful A (A 4 t) (A 3 t) = false) : joinT A s t = false := by
  unfold joinT; rw [h]; rfl
theorem b_L3 {σ : jS} {A : Tb} {T : Nat} (w : wA A) (hT : xTb σ A T) (hS : ∀ p, p < 16 → A 2 p ≤ 9) (hW : tW A ≤ 3) (h5 : gI σ 5 5 = nI (tB A)) (hsp : xsp σ A 56) (hj : xjo σ (onK A 0)) : ∃ σ', f_X9_build_J120 σ T (nI (tW A)) = some ((), σ') ∧ fr [8, 9] σ σ' ∧ (∀ a i, gI σ' a i = gI σ a i) ∧ xjo σ' (onK A (tT A)) := by
  have h40 := w.2.1
  have hP := w.1
  unfold f_X9_build_J120
  have key := jloop_ex (S := Int32 × jS) (O := Unit × jS) (f := fun s => f_X9_build_B123 s.2 T (nI (tW A)) s.1) (fun i s => s.1 = nI i ∧ fr [8, 9] σ s.2 ∧ (∀ a i, gI s.2 a i = gI σ a i) ∧ xjo s.2 (onK A i)) (tT A) (fun o => fr [8, 9] σ o.2 ∧ (∀ a i, gI o.2 a i = gI σ a i) ∧ xjo o.2 (onK A (tT A))) (s0 := (0, σ)) ⟨rfl, fr_rfl _ _, fun _ _ => rfl, hj⟩ (jfuel_big (by omega)) ?_ ?_
  · obtain ⟨o, e1, e2⟩ := key
    exact ⟨o.2, e1, e2⟩
  · rintro ⟨a, s⟩ ⟨rfl, g1, g2, g3⟩
    refine ⟨((), s), ?_, g1, g2, g3⟩
    show f_X9_build_B123 s T _ (nI (tT A)) = _
    unfold f_X9_build_B123 f_X9_build_J187
    rw [bH_t (T_in hT.1), g2, hT.2.2.1, if_pos (Int32.le_refl _), jw_e]
  · rintro i ⟨a, s⟩ hi ⟨rfl, g1, g2, g3⟩
    have hq := w.2.2.2.1 i hi
    have n3 : gI s (T + 2) i = nI (A 3 i) := by rw [g2]; exact (hT.2.2.2.2.2.1 i hi).1
    have n4 : gI s (T + 3) i = nI (A 4 i) := by rw [g2]; exact (hT.2.2.2.2.2.1 i hi).2
    have m3 : gI s (T + 1) (A 3 i) = nI (A 2 (A 3 i)) := by rw [g2]; exact hT.2.2.2.2.1 _ hq.1
    have m4 : gI s (T + 1) (A 4 i) = nI (A 2 (A 4 i)) := by rw [g2]; exact hT.2.2.2.2.1 _ hq.2.1
    have a1 := atT (σ := s) (T := T) (j := 1) (n := 40) (i := i) hT.1 (by omega) (by omega)
    have a2 := atT (σ := s) (T := T) (j := 0) (n := 16) (i := A 3 i) hT.1 (by omega) (by omega)
    have a3 := atT (σ := s) (T := T) (j := 2) (n := 40) (i := i) hT.1 (by omega) (by omega)
    have a4 := atT (σ := s) (T := T) (j := 0) (n := 16) (i := A 4 i) hT.1 (by omega) (by omega)
    have m7 : gI s T 7 = nI (tT A) := by rw [g2]; exact hT.2.2.1
    have pre : f_X9_build_B123 s T (nI (tW A)) (nI i) = (if (if lawful A (A 4 i) (A 3 i) = true then (1 : Int32) else 0) = 0 then (f_X9_build_J181 s T (nI (tW A)) (nI i)) else (bD (f_X9_join s (nI i)) fun r15 σ16 => f_X9_build_J181 σ16 T (nI (tW A)) (nI i))) := by
      unfold f_X9_build_B123
      rw [bH_t (T_in hT.1), m7, if_neg (nI_ge hi (by omega)), a1, bC_e, n3, a2, bC_e, m3, a3, bC_e, n4, a4, bC_e, m4, x_isAl (hS _ (by omega)) (hS _ (by omega)) hW, bC_e]
    show (∃ s', f_X9_build_B123 s T (nI (tW A)) (nI i) = _ ∧ _) ∨ _
    rw [pre]
    cases hl : lawful A (A 4 i) (A 3 i) with
    | true =>
      have hsp' : xsp s A 56 := by
        refine ⟨fun u hu => ?_, fun p hp => ?_⟩
        · rw [g2, g2]; exact hsp.1 u hu
        · rw [fr_L g1 (by decide)]; exact hsp.2 p hp
      obtain ⟨s2, e1, e2, e3, e4⟩ := x_join w hi hl (show gI s 5 5 = nI (tB A) by rw [g2]; exact h5) hsp' g3
      rw [if_neg (by decide), e1, bD_e]
      refine Or.inl ⟨(nI (i + 1), s2), ?_, rfl, fr_trans g1 e2, fun a i => (e3 a i).trans (g2 a i), e4⟩
      unfold f_X9_build_J181
      rw [bV_e, nI_1]
    | false =>
      rw [if_pos (by decide)]
      refine Or.inl ⟨(nI (i + 1), s), ?_, rfl, g1, g2, xjo_cong g3 fun u d _ _ => ?_⟩
      · unfold f_X9_build_J181
        rw [bV_e, nI_1]
      · unfold onK
        rw [bex_succ, joinT_un hl]
        simp
theorem b_L2 {σ : jS} {A : Tb} {T : Nat} (w : wA A) (hT : xTb σ A T) (hS : ∀ p, p < 16 → A 2 p ≤ 9) (hW : tW A ≤ 3) (h5 : gI σ 5 5 = nI (tB A)) (hsp : xsp σ A 16) (hj : xjo σ (onK A 0)) : ∃ σ', f_X9_build_J54 σ T (nI (tW A)) = some ((), σ') ∧ fr [6, 7, 8, 9, 10] σ σ' ∧ xsp σ' A 56 ∧ xjo σ' (onK A (tT A)) := by
  have h40 := w.2.1
  have hP := w.1
  unfold f_X9_build_J54
  have key := jloop_ex (S := Int32 × jS) (O := Unit × jS) (f := fun s => f_X9_build_B57 s.2 T (nI (tW A)) s.1) (fun i s => s.1 = nI i ∧ fr [6, 7, 10] σ s.2 ∧ xsp s.2 A (16 + i)) 40 (fun o => fr [6, 7, 8, 9, 10] σ o.2 ∧ xsp o.2 A 56 ∧ xjo o.2 (onK A (tT A))) (s0 := (0, σ)) ⟨rfl, fr_rfl _ _, hsp⟩ (jfuel_big (by omega)) ?_ ?_
  · obtain ⟨o, e1, e2⟩ := key
    exact ⟨o.2, e1, e2⟩
  · rintro ⟨a, s⟩ ⟨rfl, g1, g2⟩
    have hT' : xTb s A T := by
      refine ⟨hT.1, ?_⟩
      have F : ∀ j, j ≤ 5 → ∀ i, gI s (T + j) i = gI σ (T + j) i := fun j hj i => fr_I g1 (by rcases hT.1 with rfl | rfl <;> simp <;> omega) i
      obtain ⟨t1, t2, t3, t4, t5, t6⟩ := hT.2
      exact ⟨(F 0 (by decide) 6).trans t1, (F 0 (by decide) 7).trans t2, (F 0 (by decide) 8).trans t3, fun p hp => (F 1 (by decide) p).trans (t4 p hp), fun t ht => ⟨(F 2 (by decide) t).trans (t5 t ht).1, (F 3 (by decide) t).trans (t5 t ht).2⟩, fun q hq => ⟨(F 4 (by decide) q).trans (t6 q hq).1, (F 5 (by decide) q).trans (t6 q hq).2⟩⟩
    have hj' : xjo s (onK A 0) := ⟨fun u hu => (fr_L g1 (by decide) u).trans (hj.1 u hu), fun u hu => (fr_L g1 (by decide) u).trans (hj.2 u hu)⟩
    obtain ⟨s2, e1, e2, e3, e4⟩ := b_L3 w hT' hS hW (show gI s 5 5 = nI (tB A) by rw [fr_I g1 (by decide)]; exact h5) g2 hj'
    refine ⟨((), s2), ?_, ?_, ?_, e4⟩
    · show f_X9_build_B57 s T _ (nI 40) = _
      unfold f_X9_build_B57
      rw [if_pos (show (40 : Int32) ≤ nI 40 from Int32.le_refl _), e1, jw_e]
    · exact fr_trans (fr_mono g1 (by decide)) (fr_mono e2 (by decide))
    · refine ⟨fun u hu => ?_, fun p hp => ?_⟩
      · rw [e3, e3]; exact g2.1 u hu
      · rw [fr_L e2 (by decide)]; exact g2.2 p hp
  · rintro i ⟨a, s⟩ hi ⟨rfl, g1, g2⟩
    have F : ∀ j, j ≤ 5 → ∀ i, gI s (T + j) i = gI σ (T + j) i := fun j hj i => fr_I g1 (by rcases hT.1 with rfl | rfl <;> simp <;> omega) i
    have m7 : gI s T 7 = nI (tT A) := (F 0 (by decide) 7).trans hT.2.2.1
    have e16 : (16 : Int32) + nI i = nI (16 + i) := nI_add 16 i
    have n40 : ¬ (40 : Int32) ≤ nI i := nI_ge (b := 40) hi (by omega)
    refine Or.inl ?_
    by_cases q : i < tT A
    · have hq := w.2.2.2.1 i q
      have n3 : gI s (T + 2) i = nI (A 3 i) := (F 2 (by decide) i).trans (hT.2.2.2.2.2.1 i q).1
      have n4 : gI s (T + 3) i = nI (A 4 i) := (F 3 (by decide) i).trans (hT.2.2.2.2.2.1 i q).2
      have a1 := atT (σ := s) (T := T) (j := 1) (n := 40) (i := i) hT.1 (by omega) (by omega)
      have a3 := atT (σ := s) (T := T) (j := 2) (n := 40) (i := i) hT.1 (by omega) (by omega)
      refine ⟨(nI (i + 1), sL (sI (sI s 6 (16 + i) (nI (A 3 i))) 7 (16 + i) (nI (A 4 i))) 10 (A 3 i) (gL s 10 (A 3 i) ||| lN (2 ^ (16 + i)))), ?_, rfl, ?_, ?_⟩
      · show f_X9_build_B57 s T _ (nI i) = _
        unfold f_X9_build_B57 f_X9_build_J114
        rw [if_neg n40, bH_t (T_in hT.1), m7, if_neg (nI_ge q (by omega)), a1, bC_e, n3, a3, bC_e, n4, e16, x_setSpot (by omega) (by omega), bD_e, bV_e, nI_1]
      · exact fr_trans g1 (fr_trans (fr_trans (fr_sI _ _ _ (by decide)) (fr_sI _ _ _ (by decide))) (fr_sL _ _ _ (by decide)))
      · have := xsp_some (σ := s) (A := A) (k := 16 + i) (p := A 3 i) (f := nI (A 4 i)) g2 (by omega) (by unfold e6; rw [if_neg (by omega), Nat.add_sub_cancel_left, if_pos q]) (by unfold e7; rw [if_neg (by omega), Nat.add_sub_cancel_left, if_pos q]) (fun p => by unfold heldBy; rw [if_neg (by omega), Nat.add_sub_cancel_left, decide_eq_true q, Bool.true_and])
        exact this
    · refine ⟨(nI (i + 1), sI (sI s 6 (16 + i) (-1)) 7 (16 + i) (-1)), ?_, rfl, ?_, ?_⟩
      · show f_X9_build_B57 s T _ (nI i) = _
        unfold f_X9_build_B57 f_X9_build_J114
        rw [if_neg n40, bH_t (T_in hT.1), m7, if_pos (nI_le (by omega) (by omega)), e16, x_setNone (by omega), bD_e, bV_e, nI_1]
      · exact fr_trans g1 (fr_trans (fr_sI _ _ _ (by decide)) (fr_sI _ _ _ (by decide)))
      · exact xsp_none (σ := s) (A := A) (k := 16 + i) g2 (by unfold e6; rw [if_neg (by omega), Nat.add_sub_cancel_left, if_neg q]) (by unfold e7; rw [if_neg (by omega), Nat.add_sub_cancel_left, if_neg q]) (fun p => by unfold heldBy; rw [if_neg (by omega), Nat.add_sub_cancel_left, decide_eq_false q, Bool.false_and])
