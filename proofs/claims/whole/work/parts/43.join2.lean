/-- one step of the inner loop -/
theorem x_joinStep {σ : jS} {A : Tb} {k s lim : Nat} (w : wA A) (hk : k < tT A) (hl : lawful A (A 4 k) (A 3 k) = true) (h5 : gI σ 5 5 = nI (tB A)) (hsp : xsp σ A 56) (hlim : lim = if tB A = 0 then 16 else 56) (hs : s < lim) : f_X9_join_B50 σ (nI (A 3 k)) (nI (A 4 k)) (nI (byT A k)) (nI lim) (nI s) = some (.inl (nI (s + 1), if joinT A s k then sL (sL σ 8 s (gL σ 8 s ||| lN (2 ^ byT A k))) 9 (byT A k) (gL σ 9 (byT A k) ||| lN (2 ^ s)) else σ)) := by
  have hlim56 : lim ≤ 56 := by rw [hlim]; split <;> omega
  have h56 : s < 56 := by omega
  have hb := (byT_hs w hk).2
  have h3 := (w.2.2.2.1 k hk).1
  have h4 := (w.2.2.2.1 k hk).2.1
  have hP := w.1
  have hB := w.2.2.1
  have add : f_X9_join_J93 σ (nI (A 3 k)) (nI (A 4 k)) (nI (byT A k)) (nI lim) (nI s) = some (.inl (nI (s + 1), sL (sL σ 8 s (gL σ 8 s ||| lN (2 ^ byT A k))) 9 (byT A k) (gL σ 9 (byT A k) ||| lN (2 ^ s)))) := by
    unfold f_X9_join_J93 f_X9_join_J139
    rw [at8 h56, bC_e, shlL (by omega), putL8 h56, bD_e, at9 hb, bC_e, shlL (by omega), putL9 hb, bD_e, bV_e, nI_1, gL_sLn (fun q => absurd q.1 (by decide))]
  have skip : f_X9_join_J139 σ (nI (A 3 k)) (nI (A 4 k)) (nI (byT A k)) (nI lim) (nI s) = some (.inl (nI (s + 1), σ)) := by
    unfold f_X9_join_J139
    rw [bV_e, nI_1]
  unfold f_X9_join_B50
  rw [if_neg (nI_ge hs (by omega)), at6 h56, bC_e, (hsp.1 s h56).1, h5]
  unfold joinT
  rw [hl, Bool.true_and]
  by_cases q : s < 16
  · rw [if_pos q, if_pos q]
    by_cases z : s = A 4 k
    · have zb : (s == A 4 k) = true := by simpa using z
      rw [if_pos (congrArg nI z), zb]
      show _ = some (Sum.inl (nI (s + 1), sL (sL σ 8 s (gL σ 8 s ||| lN (2 ^ byT A k))) 9 (byT A k) (gL σ 9 (byT A k) ||| lN (2 ^ s))))
      by_cases y : tB A = 0
      · rw [if_pos (show nI (tB A) = 0 from congrArg nI y)]; exact add
      · rw [if_neg (fun e => y ((nI_eq0 (by omega)).mp e)), at7 h56, bC_e, (hsp.1 s h56).2, if_pos q, if_neg (fun e => nI_pos (n := A 3 k) (by omega) (by rw [← e]; decide))]
        exact add
    · rw [if_neg (fun e => z ((nI_eq (by omega) (by omega)).mp e)), if_neg (by simpa using z)]
      exact skip
  · have y : ¬ tB A = 0 := by
      intro y
      rw [hlim, if_pos y] at hs
      exact q hs
    have y2 : (tB A == 0) = false := by simpa using y
    rw [if_neg q, if_neg q, y2]
    by_cases v : s - 16 < tT A
    · have h3s := (w.2.2.2.1 _ v).1
      have h4s := (w.2.2.2.1 _ v).2.1
      rw [if_pos v]
      by_cases z : A 3 (s - 16) = A 4 k
      · rw [if_pos (congrArg nI z), if_neg (fun e => y ((nI_eq0 (by omega)).mp e)), at7 h56, bC_e, (hsp.1 s h56).2, if_neg q, if_pos v]
        by_cases u : A 4 (s - 16) = A 3 k
        · rw [if_pos (congrArg nI u), if_neg (by simp [u])]
          exact skip
        · rw [if_neg (fun e => u ((nI_eq (by omega) (by omega)).mp e)), if_pos (by simp [u, z, v])]
          exact add
      · rw [if_neg (fun e => z ((nI_eq (by omega) (by omega)).mp e)), if_neg (by simp [z])]
        exact skip
    · rw [if_neg v, if_neg (fun e => nI_pos (n := A 4 k) (by omega) (by rw [← e]; decide)), if_neg (by simp [v])]
      exact skip
