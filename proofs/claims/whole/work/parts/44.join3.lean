theorem onJ_0 (A : Tb) (k s d : Nat) : onJ A k 0 s d = onK A k s d := by unfold onJ; simp
theorem onJ_step (A : Tb) (k j : Nat) {s d : Nat} : onJ A k (j + 1) s d = (onJ A k j s d || (s == j && d == byT A k && joinT A j k)) := by
  unfold onJ
  by_cases z : s = j
  · subst z
    have e : (byT A k == d) = (d == byT A k) := by rw [Bool.eq_iff_iff]; simp; exact ⟨fun h => h.symm, fun h => h.symm⟩
    simp [e]
  · have e : decide (s < j + 1) = decide (s < j) := by
      rw [Bool.eq_iff_iff]; simp; omega
    rw [e]
    simp [z]
theorem onJ_end (A : Tb) {k lim s d : Nat} (h : ∀ s, s < 56 → lim ≤ s → joinT A s k = false) (hs : s < 56) : onJ A k lim s d = onK A (k + 1) s d := by
  unfold onJ onK
  rw [bex_succ]
  by_cases q : s < lim
  · simp [q]
  · rw [h s hs (by omega)]; simp
theorem x_join {σ : jS} {A : Tb} {k : Nat} (w : wA A) (hk : k < tT A) (hl : lawful A (A 4 k) (A 3 k) = true) (h5 : gI σ 5 5 = nI (tB A)) (hsp : xsp σ A 56) (hj : xjo σ (onK A k)) : ∃ σ', f_X9_join σ (nI k) = some ((), σ') ∧ fr [8, 9] σ σ' ∧ (∀ a i, gI σ' a i = gI σ a i) ∧ xjo σ' (onK A (k + 1)) := by
  have h40 := w.2.1
  have hB := w.2.2.1
  have h3 := (w.2.2.2.1 k hk).1
  have hP := w.1
  have hb := (byT_hs w hk).2
  have s6 : gI σ 6 (16 + k) = nI (A 3 k) := by
    rw [(hsp.1 (16 + k) (by omega)).1, if_neg (by omega), Nat.add_sub_cancel_left, if_pos hk]
  have s7 : gI σ 7 (16 + k) = nI (A 4 k) := by
    rw [(hsp.1 (16 + k) (by omega)).2, if_neg (by omega), Nat.add_sub_cancel_left, if_pos hk]
  have e16 : (16 : Int32) + nI k = nI (16 + k) := nI_add 16 k
  have L : ∀ lim, lim = (if tB A = 0 then 16 else 56) → ∃ σ', f_X9_join_J45 σ (nI (A 3 k)) (nI (A 4 k)) (nI (byT A k)) (nI lim) = some ((), σ') ∧ fr [8, 9] σ σ' ∧ (∀ a i, gI σ' a i = gI σ a i) ∧ xjo σ' (onK A (k + 1)) := by
    intro lim hlim
    have hlim56 : lim ≤ 56 := by rw [hlim]; split <;> omega
    unfold f_X9_join_J45
    have key := jloop_ex (S := Int32 × jS) (O := Unit × jS) (f := fun s => f_X9_join_B50 s.2 (nI (A 3 k)) (nI (A 4 k)) (nI (byT A k)) (nI lim) s.1) (fun i s => s.1 = nI i ∧ fr [8, 9] σ s.2 ∧ (∀ a i, gI s.2 a i = gI σ a i) ∧ xjo s.2 (onJ A k i)) lim (fun o => fr [8, 9] σ o.2 ∧ (∀ a i, gI o.2 a i = gI σ a i) ∧ xjo o.2 (onK A (k + 1))) (s0 := (0, σ)) ⟨rfl, fr_rfl _ _, fun _ _ => rfl, xjo_cong hj fun s d _ _ => (onJ_0 A k s d).symm⟩ (jfuel_big (by omega)) ?_ ?_
    · obtain ⟨o, e1, e2⟩ := key
      exact ⟨o.2, e1, e2⟩
    · rintro ⟨a, s⟩ ⟨rfl, g1, g2, g3⟩
      refine ⟨((), s), ?_, g1, g2, xjo_cong g3 fun u d hu _ => onJ_end A ?_ hu⟩
      · show f_X9_join_B50 s _ _ _ _ (nI lim) = _
        unfold f_X9_join_B50 f_X9_join_J145
        rw [if_pos (Int32.le_refl _), jw_e]
      · intro u hu hl2
        by_cases y : tB A = 0
        · rw [hlim, if_pos y] at hl2
          unfold joinT
          rw [if_neg (by omega)]
          simp [y]
        · rw [hlim, if_neg y] at hl2
          omega
    · rintro i ⟨a, s⟩ hi ⟨rfl, g1, g2, g3⟩
      have hsp' : xsp s A 56 := by
        refine ⟨fun u hu => ?_, fun p hp => ?_⟩
        · rw [g2, g2]; exact hsp.1 u hu
        · rw [fr_L g1 (by decide)]; exact hsp.2 p hp
      have st := x_joinStep w hk hl (show gI s 5 5 = nI (tB A) by rw [g2]; exact h5) hsp' hlim hi
      refine Or.inl ⟨_, st, rfl, ?_, ?_, ?_⟩
      · show fr [8, 9] σ (if joinT A i k then _ else s)
        split
        · exact fr_trans g1 (fr_trans (fr_sL s i _ (by decide)) (fr_sL _ _ _ (by decide)))
        · exact g1
      · intro a i'
        show gI (if joinT A i k then _ else s) a i' = _
        split
        · exact g2 a i'
        · exact g2 a i'
      · show xjo (if joinT A i k then _ else s) _
        cases hjt : joinT A i k with
        | true =>
          rw [if_pos rfl]
          exact xjo_cong (xjo_add g3 (by omega) hb) fun u d _ _ => by rw [onJ_step, hjt, Bool.and_true]
        | false =>
          rw [if_neg (by decide)]
          exact xjo_cong g3 fun u d _ _ => by rw [onJ_step, hjt, Bool.and_false, Bool.or_false]
  unfold f_X9_join f_X9_byTurn f_X9_byTurn_J25
  rw [e16, at6 (by omega), bC_e, at7 (by omega), bC_e, s6, s7, h5]
  by_cases y : tB A = 0
  · have eb : byT A k = A 3 k := by unfold byT; rw [if_pos y]
    have := L 16 (by rw [if_pos y])
    rw [eb] at this
    rw [if_pos (show nI (tB A) = 0 from congrArg nI y), bC_e, bC_e, if_pos (show nI (tB A) = 0 from congrArg nI y)]
    exact this
  · have eb : byT A k = 16 + k := by unfold byT; rw [if_neg y]
    have := L 56 (by rw [if_neg y])
    rw [eb] at this
    rw [if_neg (fun e => y ((nI_eq0 (by omega)).mp e)), bC_e, if_neg (fun e => y ((nI_eq0 (by omega)).mp e))]
    exact this
