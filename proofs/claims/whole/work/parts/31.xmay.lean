/-! who may get it, the spot for one, the state after -/
theorem nI_or1 (p : Nat → Bool) {j : Nat} (hj : j < 16) : nI (bm p 16) ||| ((1 : Int32) <<< (nI j &&& 31)) = nI (bm (fun k => p k || k == j) 16) := by
  rw [nI_shl1 j (by omega), nI_or, bm_one hj, bm_or]
theorem x_allowed {σ : jS} {A : Tb} (w : wA A) (hW : xW σ A) (hF : xF σ A) {x : Nat} (h : okx A x) : f_X0_allowed σ (nI x) = some (nI (if ended A (cv A x) then 0 else bm (mayP A (cv A x) (x % 2)) 16)) := by
  unfold f_X0_allowed
  rw [x_isEnded w hW hF h, bC_e]
  cases h1 : ended A (cv A x) with
  | true => rfl
  | false =>
    have hc64 : bm (ows A x (x % 2)) 56 < 2 ^ 64 := Nat.lt_trans (bm_lt _ 56) (by decide)
    rw [if_pos (by simp), x_onwardOf w hW h, bC_e, x_bc64 (bm56 _), bC_e, if_neg (by decide)]
    have hn := fa_cnt_le (bm (ows A x (x % 2)) 56).testBit 64
    have key := jloop_ex (S := Int32 × Int64 × Int32) (O := Int32) (f := fun s => f_X0_allowed_B24 σ s.1 s.2.1 s.2.2) (fun i s => ∃ m, m < 2 ^ 56 ∧ (∀ k, m.testBit k = true → ows A x (x % 2) k = true) ∧ s = (nI (bm (fun q => bex 56 fun d => ows A x (x % 2) d && !m.testBit d && hs A d == q) 16), lN m, nI (fa_cnt m.testBit 64)) ∧ fa_cnt m.testBit 64 + i = fa_cnt (bm (ows A x (x % 2)) 56).testBit 64) (fa_cnt (bm (ows A x (x % 2)) 56).testBit 64) (fun o => o = nI (bm (mayP A (cv A x) (x % 2)) 16)) (s0 := (0, lN (bm (ows A x (x % 2)) 56), nI (fa_cnt (bm (ows A x (x % 2)) 56).testBit 64))) ?_ (jfuel_big (by omega)) ?_ ?_
    · obtain ⟨o, e1, e2⟩ := key
      rw [e1, e2]
    · refine ⟨bm (ows A x (x % 2)) 56, bm_lt _ 56, ?_, ?_, by omega⟩
      · intro k hk
        rw [bm_bit] at hk
        simpa using (Bool.and_eq_true _ _ ▸ hk).2
      · refine Prod.ext ?_ rfl
        show (0 : Int32) = nI (bm _ 16)
        rw [show (0 : Int32) = nI 0 from rfl]
        congr 1
        refine (bm_zero.mpr fun q _ => bex_not.mpr fun d hd => ?_).symm
        rw [bm_bit]
        simp [hd]
    · rintro s ⟨m, m1, m2, rfl, m4⟩
      refine ⟨_, ?_, rfl⟩
      have z : fa_cnt m.testBit 64 = 0 := by omega
      have mz := (cnt_zero (Nat.lt_trans m1 (by decide))).mp z
      subst mz
      show f_X0_allowed_B24 σ _ _ _ = _
      unfold f_X0_allowed_B24 f_X0_allowed_J60
      rw [z, if_pos (show nI 0 ≤ 0 by decide)]
      refine congrArg (fun n => some (Sum.inr (nI n))) ?_
      apply bm_cong
      intro q _
      have h2 : x % 2 < 2 := Nat.mod_lt _ (by decide)
      cases hq : mayP A (cv A x) (x % 2) q with
      | true =>
        obtain ⟨d, d1, d2, d3, _⟩ := may_ows w h h2 hq
        exact bex_iff.mpr ⟨d, d1, by simp [d2, d3]⟩
      | false =>
        refine bex_not.mpr fun d _ => ?_
        cases hd : ows A x (x % 2) d with
        | false => rfl
        | true =>
          have := (ows_may w h h2 hd).1
          by_cases e : hs A d = q
          · rw [e, hq] at this; cases this
          · simp [e]
    · rintro i s hi ⟨m, m1, m2, rfl, m4⟩
      refine Or.inl ?_
      have hne : m ≠ 0 := by
        rintro rfl
        have := (cnt_zero (m := 0) (n := 64) (by decide)).mpr rfl
        omega
      obtain ⟨j, hj⟩ := low_ex hne
      have hj56 := low_lt hj m1
      have hjo := m2 j hj.1
      have hjv := (ows_may w h (Nat.mod_lt x (by decide)) hjo).2
      have hj16 := hs_lt w hjv
      have hc := low_cnt (n := 64) hj (by omega)
      show ∃ s', f_X0_allowed_B24 σ _ _ _ = _ ∧ _
      unfold f_X0_allowed_B24
      rw [if_neg (nI_nle (by omega) (by omega)), x_lowest hj (Nat.lt_trans m1 (by decide)), bC_e, at6 hj56, bC_e, xW_hs hW hjv, bV_e, low_dec hj (Nat.lt_trans m1 (by decide)), bV_e, bV_e, nI_or1 _ hj16]
      refine ⟨_, rfl, m &&& (m - 1), Nat.lt_of_le_of_lt Nat.and_le_left m1, ?_, ?_, by omega⟩
      · intro k hk
        rw [low_drop hj] at hk
        exact m2 k (Bool.and_eq_true _ _ ▸ hk).1
      · refine Prod.ext ?_ (Prod.ext rfl ?_)
        · show nI _ = nI _
          congr 1
          apply bm_cong
          intro q _
          cases hb : bex 56 (fun d => ows A x (x % 2) d && !m.testBit d && hs A d == q) with
          | true =>
            obtain ⟨d, d1, d2⟩ := bex_iff.mp hb
            refine (bex_iff.mpr ⟨d, d1, ?_⟩).symm
            rw [low_drop hj]
            simp only [Bool.and_eq_true, Bool.not_eq_true'] at d2 ⊢
            exact ⟨⟨d2.1.1, by rw [d2.1.2]; rfl⟩, d2.2⟩
          | false =>
            rw [Bool.false_or]
            by_cases e : q = hs A j
            · rw [show (q == hs A j) = true by simp [e]]
              refine (bex_iff.mpr ⟨j, hj56, ?_⟩).symm
              rw [low_drop hj]
              simp [hjo, e]
            · rw [show (q == hs A j) = false by simp [e]]
              refine (bex_not.mpr fun d hd => ?_).symm
              have g := bex_not.mp hb d hd
              rw [low_drop hj]
              by_cases ed : d = j
              · subst ed
                have : (hs A d == q) = false := by simp; exact fun z => e z.symm
                simp [this]
              · simpa [ed] using g
        · show nI _ + (-1) = nI _
          rw [← hc]
          show nI (_ + 1) + (-1) = _
          rw [nI_succ]
          simp [Int32.add_assoc]
