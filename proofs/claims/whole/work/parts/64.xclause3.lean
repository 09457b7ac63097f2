/-! the class's clause, whole -/
def oX (σ : jS) (n : Nat) (w : Nat → Nat) (T : Nat) : (Nat × Nat) ⊕ (Tb × Nat) → Prop
  | .inl fa => gI σ 2 3 = nI fa.1 ∧ gI σ 2 2 = nI fa.2
  | .inr b => pX σ n w b.1 T ∧ gI σ 2 4 = nI b.2
theorem ex_idem {P : Nat → Bool} {n p : Nat} (h : p ≤ n) : ex P n (ex P n p) = ex P n p := (ex_eq (ex_le P h)).mpr (ex_out' h)
theorem nF_le (w : Nat → Nat) (n p b : Nat) : nF w n p b ≤ 2 := by unfold nF nf; split; decide; split <;> decide
theorem nF_0 {w : Nat → Nat} {n p b : Nat} (h : nF w n p b = 0) : nV w n p < b := by
  unfold nF nf at h
  split at h
  · omega
  · split at h
    · omega
    · rename_i h2; omega
theorem nD_le {w : Nat → Nat} {n p : Nat} (h : p ≤ n) : nD w n p ≤ n := ex_le _ (ex_le _ h)
theorem oFin {w : Nat → Nat} {n d : Nat} {B : Tb} : cFin w n B d = if ex (bl w) n d < n ∧ w (ex (bl w) n d) = 59 then .inr (B, ex (bl w) n d + 1) else .inl (1, ex (bl w) n d) := rfl
theorem x_J60_bad {σ : jS} {n d T k : Nat} {w : Nat → Nat} {x y : Int32} (t : txX σ n w) (hd : d ≤ n) (h4 : gI σ 2 4 = nI d) (h3 : gI σ 2 3 ≠ 0) : ∃ σ', f_X5_readPair_J60 σ T (nI k) x y = some ((), σ') ∧ pFr T σ σ' ∧ gI σ' 2 3 = gI σ 2 3 ∧ gI σ' 2 2 = gI σ 2 2 := by
  obtain ⟨c1, c2, _, _⟩ := closS_facts (σ := σ) (n := n) (w := w) (ex (bl w) n d) T
  refine ⟨closS σ w n (ex (bl w) n d), ?_, c1, c2 h3⟩
  unfold f_X5_readPair_J60 f_X5_readPair_J79
  rw [x_closing t hd h4, bD_e, if_neg (by rw [(c2 h3).1]; exact h3)]
theorem x_J60 {σ : jS} {n d T k a b : Nat} {w : Nat → Nat} {B : Tb} (p : pX σ n w B T) (g : gB B) (hd : d ≤ n) (h4 : gI σ 2 4 = nI d) (hk : k < 4) (hk0 : k ≠ 0) (hf : full B k = false) (ha : a < tP B) (hb : b < tP B) (hag : ag B k a b = false) : ∃ σ', f_X5_readPair_J60 σ T (nI k) (nI a) (nI b) = some ((), σ') ∧ pFr T σ σ' ∧ oX σ' n w T (cFin w n (addK B k a b) d) := by
  obtain ⟨c1, c2, c3, c4⟩ := closS_facts (σ := σ) (n := n) (w := w) (ex (bl w) n d) T
  unfold f_X5_readPair_J60 f_X5_readPair_J79
  rw [x_closing p.1 hd h4, bD_e, oFin]
  by_cases z : ex (bl w) n d < n ∧ w (ex (bl w) n d) = 59
  · rw [if_pos z, c4 z]
    have p2 := pX_4 (nI (ex (bl w) n d + 1)) p
    obtain ⟨σ', e1, e2, e3, e4⟩ := x_addPair p2 g hk hk0 hf ha hb hag
    rw [if_pos p2.2.2.1, bH_t (T_in p.2.1), e1, bD_e]
    exact ⟨σ', rfl, pFr_tr (pFr_2 _ _ (by decide)) e2, e3, by rw [e4, gI_sI]⟩
  · obtain ⟨u1, u2⟩ := c3 p.2.2.1 z
    rw [if_neg z, if_neg (by rw [u1]; decide)]
    exact ⟨_, rfl, c1, u1, u2⟩
theorem x_clause {σ : jS} {n q T : Nat} {w : Nat → Nat} {B : Tb} (p : pX σ n w B T) (g : gB B) (hq : q ≤ n) (h4 : gI σ 2 4 = nI q) : ∃ σ', f_X5_readClause σ T = some ((), σ') ∧ pFr T σ σ' ∧ oX σ' n w T (cOut w n B q (ex (lt w) n q)) := by
  have hT := p.2.1
  have he := ex_le (lt w) hq
  have kl := kd_le w q (ex (lt w) n q)
  have g0 := g
  obtain ⟨g1, g2, g3, g4, g5, g6, g7, g8, g9⟩ := g
  unfold f_X5_readClause f_X5_readClause_J70 f_X5_readClause_J79
  rw [bV_e, x_readWord p.1 hq h4, bD_e, h4]
  unfold cOut
  generalize hk : kd w q (ex (lt w) n q) = k at *
  generalize ex (lt w) n q = e at *
  by_cases k4 : k = 4
  · subst k4
    rw [if_pos (show kI 4 = -1 from rfl), if_neg (show ¬ (4 : Nat) < 4 by decide), x_fail, bD_e, if_pos rfl]
    exact ⟨_, rfl, pFr_fail _ _ _, fail_yes p.2.2.1 _ _⟩
  have k3 : k < 4 := by omega
  have ek : kI k = nI k := if_pos k3
  have p3 := pX_4 (nI e) p
  have h43 : gI (sI σ 2 4 (nI e)) 2 4 = nI e := gI_sI _ _ _ _
  have f3 : pFr T σ (sI σ 2 4 (nI e)) := pFr_2 _ _ (by decide)
  rw [ek, if_neg (show ¬ nI k = -1 from fun u => nI_pos (n := k) (by omega) (by rw [u]; decide)), if_pos k3, if_neg k4, bH_t (T_in hT), x_full p3 g0 k3, bC_e]
  generalize sI σ 2 4 (nI e) = σ3 at *
  cases hf : full B k with
  | true =>
    rw [if_neg (show ¬ (if true = true then (1 : Int32) else 0) = 0 by decide), if_pos (show true = true from rfl), x_fail, bD_e]
    exact ⟨_, rfl, pFr_tr f3 (pFr_fail _ _ _), fail_yes p3.2.2.1 _ _⟩
  | false =>
    rw [if_pos (show (if false = true then (1 : Int32) else 0) = 0 by decide), if_neg (show ¬ false = true by decide)]
    by_cases k0 : k = 0
    · subst k0
      have h16 : tP B < 16 := by
        have : ¬ 16 ≤ tP B := fun e => by unfold full at hf; simp [e] at hf
        omega
      rw [if_pos (show nI 0 = 0 from rfl), if_pos (show (0 : Nat) = 0 from rfl), show (10 : Int32) = nI 10 from rfl, x_readNumber p3.1 he h43 (by decide), bD_e]
      obtain ⟨s1, s2, s3, s4, s5, s6⟩ := numS_facts p3.1 (ex (bl w) n e) (ex (dg w) n (ex (bl w) n e)) (nv w (ex (bl w) n e) (ex (dg w) n (ex (bl w) n e) - ex (bl w) n e)) 10 T
      have hd : ex (dg w) n (ex (bl w) n e) ≤ n := nD_le he
      rw [x_closing s2 hd s3, bD_e]
      have s23 := s5
      by_cases nz : nF w n e 10 = 0
      · rw [if_pos nz]
        have s4' := s4 nz
        have p8 : pX (numS σ3 (ex (bl w) n e) (ex (dg w) n (ex (bl w) n e)) (nv w (ex (bl w) n e) (ex (dg w) n (ex (bl w) n e) - ex (bl w) n e)) 10) n w B T := by rw [s4']; exact pX_4 _ p3
        generalize numS σ3 (ex (bl w) n e) (ex (dg w) n (ex (bl w) n e)) (nv w (ex (bl w) n e) (ex (dg w) n (ex (bl w) n e) - ex (bl w) n e)) 10 = s8 at *
        obtain ⟨c1, c2, c3, c4⟩ := closS_facts (σ := s8) (n := n) (w := w) (ex (bl w) n (ex (dg w) n (ex (bl w) n e))) T
        rw [oFin]
        show ∃ σ', _ ∧ _ ∧ oX σ' n w T (if ex (bl w) n (ex (dg w) n (ex (bl w) n e)) < n ∧ w (ex (bl w) n (ex (dg w) n (ex (bl w) n e))) = 59 then .inr (addP B (nV w n e), ex (bl w) n (ex (dg w) n (ex (bl w) n e)) + 1) else .inl (1, ex (bl w) n (ex (dg w) n (ex (bl w) n e))))
        by_cases z : ex (bl w) n (ex (dg w) n (ex (bl w) n e)) < n ∧ w (ex (bl w) n (ex (dg w) n (ex (bl w) n e))) = 59
        · rw [if_pos z, c4 z]
          have p10 := pX_4 (nI (ex (bl w) n (ex (dg w) n (ex (bl w) n e)) + 1)) p8
          obtain ⟨σ', e1, e2, e3, e4⟩ := x_addPerson (v := nV w n e) p10 h16
          rw [if_pos p10.2.2.1, show nv w (ex (bl w) n e) (ex (dg w) n (ex (bl w) n e) - ex (bl w) n e) = nV w n e from rfl, e1, bD_e]
          exact ⟨σ', rfl, pFr_tr (pFr_tr (pFr_tr f3 s1) (pFr_2 _ _ (by decide))) e2, e3, by rw [e4, gI_sI]⟩
        · obtain ⟨u1, u2⟩ := c3 p8.2.2.1 z
          rw [if_neg z, if_neg (by rw [u1]; decide)]
          exact ⟨_, rfl, pFr_tr (pFr_tr f3 s1) c1, u1, u2⟩
      · rw [if_neg nz]
        obtain ⟨v1, v2⟩ := s5 nz p3.2.2.1
        have le2 := nF_le w n e 10
        have ne3 : gI (numS σ3 (ex (bl w) n e) (ex (dg w) n (ex (bl w) n e)) (nv w (ex (bl w) n e) (ex (dg w) n (ex (bl w) n e) - ex (bl w) n e)) 10) 2 3 ≠ 0 := by
          rw [v1]
          exact fun u => nz ((nI_eq0 (show nF w n e 10 < 2 ^ 31 by omega)).mp u)
        generalize numS σ3 (ex (bl w) n e) (ex (dg w) n (ex (bl w) n e)) (nv w (ex (bl w) n e) (ex (dg w) n (ex (bl w) n e) - ex (bl w) n e)) 10 = s8 at *
        obtain ⟨c1, c2, c3, c4⟩ := closS_facts (σ := s8) (n := n) (w := w) (ex (bl w) n (ex (dg w) n (ex (bl w) n e))) T
        obtain ⟨x1, x2⟩ := c2 ne3
        rw [if_neg (by rw [x1]; exact ne3)]
        exact ⟨_, rfl, pFr_tr (pFr_tr f3 s1) c1, x1.trans v1, x2.trans v2⟩
    · rw [if_neg (fun u => k0 ((nI_eq0 (by omega)).mp u)), if_neg k0]
      unfold f_X5_readPair
      have RN : f_X5_readNumber σ3 (nI (tP B)) = some (nI (nV w n e), numS σ3 (ex (bl w) n e) (nD w n e) (nV w n e) (tP B)) := x_readNumber p3.1 he h43 (by omega)
      rw [bH_t (T_in hT), p3.2.2.2.2.1.1, RN, bD_e]
      obtain ⟨s1, s2, s3, s4, s5, s6⟩ := numS_facts p3.1 (ex (bl w) n e) (nD w n e) (nV w n e) (tP B) T
      have hd : nD w n e ≤ n := nD_le he
      rw [x_skip s2 hd s3, bD_e, gI_sI, bV_e]
      have ha2 : ex (bl w) n (nD w n e) ≤ n := ex_le _ hd
      have hT2 : T ≠ 2 := by omega
      have T6 : gI (numS σ3 (ex (bl w) n e) (nD w n e) (nV w n e) (tP B)) T 6 = nI (tP B) := by
        unfold numS failS
        repeat' split
        all_goals simp only [gI_ne hT2]
        all_goals exact p3.2.2.2.2.1.1
      rw [show nf (ex (bl w) n e) (nD w n e) (nV w n e) (tP B) = nF w n e (tP B) from rfl] at s4 s5
      generalize numS σ3 (ex (bl w) n e) (nD w n e) (nV w n e) (tP B) = s2' at *
      have t4 : txX (sI s2' 2 4 (nI (ex (bl w) n (nD w n e)))) n w := txX_4 s2 _
      have F4 : pFr T σ (sI s2' 2 4 (nI (ex (bl w) n (nD w n e)))) := pFr_tr (pFr_tr f3 s1) (pFr_2 _ _ (by decide))
      have RN2 : f_X5_readNumber (sI s2' 2 4 (nI (ex (bl w) n (nD w n e)))) (nI (tP B)) = some (nI (nV w n (nD w n e)), numS (sI s2' 2 4 (nI (ex (bl w) n (nD w n e)))) (ex (bl w) n (nD w n e)) (nD w n (nD w n e)) (nV w n (nD w n e)) (tP B)) := by
        have := x_readNumber (b := tP B) t4 ha2 (gI_sI _ _ _ _) (by omega)
        rw [ex_idem hd] at this
        exact this
      rw [gI_ne hT2, T6, RN2, bD_e]
      obtain ⟨r1, r2, r3, r4, r5, r6⟩ := numS_facts t4 (ex (bl w) n (nD w n e)) (nD w n (nD w n e)) (nV w n (nD w n e)) (tP B) T
      have hd2 : nD w n (nD w n e) ≤ n := nD_le hd
      rw [show nf (ex (bl w) n (nD w n e)) (nD w n (nD w n e)) (nV w n (nD w n e)) (tP B) = nF w n (nD w n e) (tP B) from rfl] at r4 r5
      have F7 := pFr_tr F4 r1
      have le1 := nF_le w n e (tP B)
      have le2 := nF_le w n (nD w n e) (tP B)
      by_cases n1 : nF w n e (tP B) = 0
      · rw [if_pos n1]
        have p2 : pX s2' n w B T := by rw [s4 n1]; exact pX_4 _ p3
        have p4 : pX (sI s2' 2 4 (nI (ex (bl w) n (nD w n e)))) n w B T := pX_4 _ p2
        by_cases n2 : nF w n (nD w n e) (tP B) = 0
        · rw [if_pos n2]
          have p7 : pX (numS (sI s2' 2 4 (nI (ex (bl w) n (nD w n e)))) (ex (bl w) n (nD w n e)) (nD w n (nD w n e)) (nV w n (nD w n e)) (tP B)) n w B T := by rw [r4 n2]; exact pX_4 _ p4
          generalize numS (sI s2' 2 4 (nI (ex (bl w) n (nD w n e)))) (ex (bl w) n (nD w n e)) (nD w n (nD w n e)) (nV w n (nD w n e)) (tP B) = s7 at *
          have v1 := nF_0 n1
          have v2 := nF_0 n2
          -- told already, or the same
          have bad : ag B k (nV w n e) (nV w n (nD w n e)) = true → ∃ σ', f_X5_readPair_J53 s7 T (nI k) (nI (nV w n e)) (nI (ex (bl w) n (nD w n e))) (nI (nV w n (nD w n e))) = some ((), σ') ∧ pFr T σ σ' ∧ oX σ' n w T (if ag B k (nV w n e) (nV w n (nD w n e)) = true then .inl (4, nA w n (nD w n e)) else cFin w n (addK B k (nV w n e) (nV w n (nD w n e))) (nD w n (nD w n e))) := by
            intro hag
            rw [if_pos hag]
            unfold f_X5_readPair_J53
            rw [x_fail, bD_e]
            obtain ⟨u1, u2⟩ := fail_yes p7.2.2.1 4 (nI (ex (bl w) n (nD w n e)))
            obtain ⟨σ', e1, e2, e3, e4⟩ := x_J60_bad (k := k) (T := T) (x := nI (nV w n e)) (y := nI (nV w n (nD w n e))) (txX_fail p7.1 4 (nI (ex (bl w) n (nD w n e)))) hd2 (by rw [fail_4]; exact r3) (by rw [u1]; decide)
            exact ⟨σ', e1, pFr_tr (pFr_tr F7 (pFr_fail _ _ _)) e2, e3.trans u1, e4.trans u2⟩
          have good : ag B k (nV w n e) (nV w n (nD w n e)) = false → ∃ σ', f_X5_readPair_J60 s7 T (nI k) (nI (nV w n e)) (nI (nV w n (nD w n e))) = some ((), σ') ∧ pFr T σ σ' ∧ oX σ' n w T (if ag B k (nV w n e) (nV w n (nD w n e)) = true then .inl (4, nA w n (nD w n e)) else cFin w n (addK B k (nV w n e) (nV w n (nD w n e))) (nD w n (nD w n e))) := by
            intro hag
            rw [hag, if_neg (by decide)]
            obtain ⟨σ', e1, e2, e3⟩ := x_J60 p7 g0 hd2 r3 k3 k0 hf v1 v2 hag
            exact ⟨σ', e1, pFr_tr F7 e2, e3⟩
          rw [if_pos p7.2.2.1]
          by_cases y : nV w n e = nV w n (nD w n e)
          · rw [if_pos (congrArg nI y)]
            obtain ⟨σ', e1, e2⟩ := bad (by unfold ag; simp [y])
            rw [e1, bD_e]
            exact ⟨σ', rfl, e2⟩
          · rw [if_neg (fun u => y ((nI_eq (by omega) (by omega)).mp u)), x_isTold p7 g0 k3 (by omega) (by omega), bC_e]
            cases hv : ((k == 1 && owes B (nV w n (nD w n e)) (nV w n e)) || (k == 2 && bears B (nV w n e) (nV w n (nD w n e)))) with
            | true =>
              obtain ⟨σ', e1, e2⟩ := bad (by unfold ag; rw [Bool.or_assoc, hv, Bool.or_true])
              rw [if_neg (show ¬ (if true = true then (1 : Int32) else 0) = 0 by decide), e1, bD_e]
              exact ⟨σ', rfl, e2⟩
            | false =>
              obtain ⟨σ', e1, e2⟩ := good (by unfold ag; rw [Bool.or_assoc, hv, Bool.or_false]; exact beq_eq_false_iff_ne.mpr y)
              rw [if_pos (show (if false = true then (1 : Int32) else 0) = 0 by decide), e1, bD_e]
              exact ⟨σ', rfl, e2⟩
        · rw [if_neg n2]
          obtain ⟨u1, u2⟩ := r5 n2 p4.2.2.1
          have ne3 : gI (numS (sI s2' 2 4 (nI (ex (bl w) n (nD w n e)))) (ex (bl w) n (nD w n e)) (nD w n (nD w n e)) (nV w n (nD w n e)) (tP B)) 2 3 ≠ 0 := by
            rw [u1]
            exact fun u => n2 ((nI_eq0 (by omega)).mp u)
          obtain ⟨σ', e1, e2, e3, e4⟩ := x_J60_bad (k := k) (T := T) (x := nI (nV w n e)) (y := nI (nV w n (nD w n e))) r2 hd2 r3 ne3
          rw [if_neg ne3, e1, bD_e]
          exact ⟨σ', rfl, pFr_tr F7 e2, e3.trans u1, e4.trans u2⟩
      · rw [if_neg n1]
        obtain ⟨u1, u2⟩ := s5 n1 p3.2.2.1
        have ne2 : gI (sI s2' 2 4 (nI (ex (bl w) n (nD w n e)))) 2 3 ≠ 0 := by
          rw [gI_nei (by decide), u1]
          exact fun u => n1 ((nI_eq0 (by omega)).mp u)
        have e7 := r6 ne2
        have x3 : gI (numS (sI s2' 2 4 (nI (ex (bl w) n (nD w n e)))) (ex (bl w) n (nD w n e)) (nD w n (nD w n e)) (nV w n (nD w n e)) (tP B)) 2 3 = nI (nF w n e (tP B)) := by
          rw [e7, gI_nei (by decide), gI_nei (by decide)]; exact u1
        have x2 : gI (numS (sI s2' 2 4 (nI (ex (bl w) n (nD w n e)))) (ex (bl w) n (nD w n e)) (nD w n (nD w n e)) (nV w n (nD w n e)) (tP B)) 2 2 = nI (ex (bl w) n e) := by
          rw [e7, gI_nei (by decide), gI_nei (by decide)]; exact u2
        have ne3 : gI (numS (sI s2' 2 4 (nI (ex (bl w) n (nD w n e)))) (ex (bl w) n (nD w n e)) (nD w n (nD w n e)) (nV w n (nD w n e)) (tP B)) 2 3 ≠ 0 := by
          rw [x3]
          exact fun u => n1 ((nI_eq0 (by omega)).mp u)
        obtain ⟨σ', e1, e2, e3, e4⟩ := x_J60_bad (k := k) (T := T) (x := nI (nV w n e)) (y := nI (nV w n (nD w n e))) r2 hd2 r3 ne3
        rw [if_neg ne3, e1, bD_e]
        exact ⟨σ', rfl, pFr_tr F7 e2, e3.trans x3, e4.trans x2⟩
