/-! the class looks back: all ways to one -/
theorem flp_flp (s : Nat) : flp (flp s) = s := by unfold flp; omega
theorem bef_inj {s h g : Nat} (hs : s < 6272) (hh : h < 56) (hg : g < 56) (e : bef s h = bef s g) : h = g := by
  have a := (bef_parts hs hh).2.2.1
  have b := (bef_parts hs hg).2.2.1
  rw [← a, ← b, e]
theorem ows_goes {A : Tb} (w : wA A) {p d : Nat} (op : okx A p) (he : ended A (cv A p) = false) (ho : ows A p (p % 2) d = true) : stN A (cv A p) = 0 := by
  have hm := ows_may w op (Nat.mod_lt p (by decide)) ho
  have h16 := hs_lt w hm.2
  unfold stN mayS
  rw [he, if_neg (by decide), if_neg]
  rintro ⟨a, b⟩
  have : p % 2 = 0 ∨ p % 2 = 1 := by omega
  rcases this with z | z <;> rw [z] at hm
  · rw [bm_zero.mp a _ h16] at hm; cases hm.1
  · rw [bm_zero.mp b _ h16] at hm; cases hm.1
theorem bef_state {s h : Nat} (hs : s < 6272) : (if nI (1 - s % 2) = 0 then (bC (f_X0_spot (nI s) 1) fun r35 => bC (f_X0_state (nI h) r35 0) fun r36 => some r36) else (bC (f_X0_spot (nI s) 0) fun r24 => bC (f_X0_state r24 (nI h) 1) fun r25 => some r25)) = some (nI (bef s h)) := by
  unfold bef
  have : s % 2 = 0 ∨ s % 2 = 1 := by omega
  rcases this with z | z <;> rw [z]
  · rw [if_neg (show ¬ nI (1 - 0) = 0 by decide), if_neg (by decide), x_spot0 hs, bC_e, show (1 : Int32) = nI 1 from rfl, x_state, bC_e]
  · rw [if_pos (show nI (1 - 1) = 0 from rfl), if_pos (by decide), x_spot1 hs, bC_e, show (0 : Int32) = nI 0 from rfl, x_state, bC_e]
    rfl
section LKY
variable {A : Tb} {V : Nat → Prop} {tm pc : Nat → Bool} {lm : Nat} {nd q : Nat → Nat} {len i : Nat} {dn : Nat → Nat → Bool} {σ : jS} {pI : Int32}
theorem x_lookBack (w : wA A) (hW : xW σ A) (h : P2 A V tm pc lm nd q len i dn σ) (hV : ∀ c, V c → okx A c) (hE : ∀ c, V c → tm c = false → ended A (cv A c) = false) (hpI : ∀ x, x < 6272 → (nI (x % 2) = pI ↔ pc x = true)) (hlm : lm < 2 ^ 31) (hi : i < len) (hdn : ∀ p, dn p (q i) = false) : ∃ nd' q' len' dn' σ', f_X0_lookBack σ (nI (q i)) pI = some ((), σ') ∧ P2 A V tm pc lm nd' q' len' i dn' σ' ∧ (∀ j, j < len → q' j = q j) ∧ len ≤ len' ∧ (∀ p, V p → scX A p (q i) = true → dn' p (q i) = true) ∧ lfr σ σ' ∧ ∀ p y, dn' p y = true → dn p y = true ∨ y = q i := by
  have hs := h.1.1 i hi
  generalize es : q i = s at *
  have os := hV s hs.1
  have hs6 := os.1
  have hV6 : ∀ c, V c → c < 6272 := fun c hc => (hV c hc).1
  have nds : gI σ 14 s = nI (nd s) := by rw [h.2.2.2.1 s hs.1, if_neg hs.2]
  have nd6 : nd s ≤ i + 1 := by rw [← es]; exact h.2.2.2.2.2.2.2 i hi
  have i6 : i < 6272 := by
    have := h.1
    have := pigeon 6272 len q (fun j hj => hV6 _ (h.1.1 j hj).1) (fun j l hj hl e => h.1.2.1 j l hj hl e)
    omega
  have e2 : 1 - nI (s % 2) = nI (1 - s % 2) := nI_sub (a := 1) (by omega)
  have hd56 : xs s (1 - s % 2) < 56 := xs_lt hs6
  have bk : gL σ 9 (xs s (1 - s % 2)) = lN (bm (fun g => onw A g (xs s (1 - s % 2))) 56) := hW.2.2.2.2.1 _ hd56
  -- the rest: a pass
  have J123 : ∀ nd' q' len' dn' t, P2 A V tm pc lm nd' q' len' i dn' t → (∀ j, j < len → q' j = q j) → len ≤ len' → nd' s = nd s → lfr σ t → (∀ p y, dn' p y = true → dn p y = true ∨ y = s) → (∀ p, dn' p s = true → ∃ g, g < 56 ∧ p = bef s g ∧ onw A g (xs s (1 - s % 2)) = true) → (∀ g, g < 56 → onw A g (xs s (1 - s % 2)) = true → V (bef s g) → scX A (bef s g) s = true → dn' (bef s g) s = true) → ∃ nd' q' len' dn' σ', f_X0_lookBack_J123 t (nI s) pI (nI (nd s + 1)) = some ((), σ') ∧ P2 A V tm pc lm nd' q' len' i dn' σ' ∧ (∀ j, j < len → q' j = q j) ∧ len ≤ len' ∧ (∀ p, V p → scX A p s = true → dn' p s = true) ∧ lfr σ σ' ∧ ∀ p y, dn' p y = true → dn p y = true ∨ y = s := by
    intro nd' q' len' dn' t hP hq hl hns hfr hdn2 hdn3 hbits
    have hWt := lfr_W hfr hW
    obtain ⟨of, p1, p2, p3⟩ := flp_ok os
    have qi : q' i = s := by rw [hq i hi]; exact es
    -- who hands it to s is done with
    have hand : ∀ p, V p → scX A p s = true → p ≠ flp s → dn' p s = true := by
      intro p hp hsc hne
      obtain ⟨st, ⟨z, e⟩ | ⟨d, d1, d2, e⟩⟩ := scX_iff.mp hsc
      · exfalso
        have op := hV p hp
        apply hne
        rw [e]
        unfold flp
        omega
      · have op := hV p hp
        obtain ⟨b1, b2⟩ := afx_bef op.1 d1
        rw [← e] at b1 b2
        have hx := xs_lt (s := p % 2) op.1
        have ho : onw A (xs p (p % 2)) (xs s (1 - s % 2)) = true := by
          rw [b2]
          unfold ows at d2
          rw [Bool.and_eq_true] at d2
          exact d2.1
        have := hbits (xs p (p % 2)) hx ho (by rw [b1]; exact hp) (by rw [b1]; exact hsc)
        rw [b1] at this; exact this
    have fin : ∀ nd2 q2 len2 dn2 t2, P2 A V tm pc lm nd2 q2 len2 i dn2 t2 → (∀ j, j < len → q2 j = q j) → len ≤ len2 → lfr σ t2 → (∀ p y, dn2 p y = true → dn p y = true ∨ y = s) → (∀ p, dn' p s = true → dn2 p s = true) → (V (flp s) → scX A (flp s) s = true → dn2 (flp s) s = true) → (∃ nd' q' len' dn' σ', (some ((), t2) : Option (Unit × jS)) = some ((), σ') ∧ P2 A V tm pc lm nd' q' len' i dn' σ' ∧ (∀ j, j < len → q' j = q j) ∧ len ≤ len' ∧ (∀ p, V p → scX A p s = true → dn' p s = true) ∧ lfr σ σ' ∧ ∀ p y, dn' p y = true → dn p y = true ∨ y = s) := by
      intro nd2 q2 len2 dn2 t2 c1 c2 c3 c4 c5 c6 c7
      refine ⟨nd2, q2, len2, dn2, t2, rfl, c1, c2, c3, fun p hp hsc => ?_, c4, c5⟩
      by_cases z : p = flp s
      · subst z; exact c7 hp hsc
      · exact c6 p (hand p hp hsc z)
    unfold f_X0_lookBack_J123 f_X0_lookBack_J170
    rw [bV_e, show nI s ^^^ (1 : Int32) = nI (flp s) from by rw [show (1 : Int32) = nI 1 from rfl, fb_xorI, xor_flp hs6], at14 of.1, bC_e]
    have same : (V (flp s) → scX A (flp s) s = true → nd' (flp s) ≠ 0) → (∃ nd' q' len' dn' σ', (some ((), t) : Option (Unit × jS)) = some ((), σ') ∧ P2 A V tm pc lm nd' q' len' i dn' σ' ∧ (∀ j, j < len → q' j = q j) ∧ len ≤ len' ∧ (∀ p, V p → scX A p s = true → dn' p s = true) ∧ lfr σ σ' ∧ ∀ p y, dn' p y = true → dn p y = true ∨ y = s) := by
      intro hn
      by_cases z : V (flp s) ∧ scX A (flp s) s = true
      · have D := x_doneWay (p := flp s) hP (by omega) z.1 (by rw [qi]; exact z.2) (hn z.1 z.2)
        rw [qi] at D
        refine fin _ _ _ _ _ D hq hl hfr (fun p y hy => ?_) (fun p hp => dn1_iff.mpr (Or.inl hp)) (fun _ _ => dn1_iff.mpr (Or.inr ⟨rfl, rfl⟩))
        rcases dn1_iff.mp hy with hy | ⟨_, e⟩
        · exact hdn2 p y hy
        · exact Or.inr e
      · exact fin _ _ _ _ _ hP hq hl hfr hdn2 (fun p hp => hp) (fun a b => absurd ⟨a, b⟩ z)
    by_cases hv : V (flp s)
    · rw [hP.2.2.2.1 _ hv]
      by_cases n0 : nd' (flp s) = 0
      · rw [if_pos n0, if_pos rfl, x_onwardOf w hWt of, bC_e, p1]
        have tf : tm (flp s) = false := by
          cases ht : tm (flp s) with
          | true => have := (hP.1.2.2.2.2.2.2.1 _ hv).mp ht; omega
          | false => rfl
        have ef := hE _ hv tf
        have ce : cv A (flp s) = behP (cv A s) := flp_cv w os
        have es0 : ended A (cv A s) = false := by
          rw [ce] at ef
          obtain ⟨u1, u2, _⟩ := behP_parts (cv_lt w os)
          unfold ended at ef ⊢
          rw [u1, u2] at ef; exact ef
        have fow : bm (ows A (flp s) (1 - s % 2)) 56 = bm (ows A s (1 - s % 2)) 56 := bm_cong fun k _ => flp_ows os _ k
        by_cases z1 : bm (ows A (flp s) (1 - s % 2)) 56 = 0
        · rw [if_pos ((lgc0 (bm56 _)).mpr z1), x_onwardOf w hWt os, bC_e]
          by_cases z2 : bm (ows A s (s % 2)) 56 = 0
          · rw [if_pos ((lgc0 (bm56 _)).mpr z2)]
            refine same fun _ hsc => ?_
            exfalso
            have st := (scX_iff.mp hsc).1
            rw [ce, behP_st (cv_lt w os)] at st
            have m0 := (ows_none w os (s := s % 2) (by omega)).mp z2
            have m1 := (ows_none w os (s := 1 - s % 2) (by omega)).mp (fow ▸ z1)
            unfold stN mayS at st
            rw [es0, if_neg (by decide)] at st
            have : s % 2 = 0 ∨ s % 2 = 1 := by omega
            rcases this with r | r <;> rw [r] at m0 m1
            · rw [if_pos ⟨m0, m1⟩] at st; cases st
            · rw [if_pos ⟨m1, m0⟩] at st; cases st
          · rw [if_neg (fun e => z2 ((lgc0 (bm56 _)).mp e))]
            have st : stN A (cv A (flp s)) = 0 := by
              rw [ce, behP_st (cv_lt w os)]
              obtain ⟨d, d1, d2⟩ : ∃ d, d < 56 ∧ ows A s (s % 2) d = true := by
                apply Classical.byContradiction
                intro hn
                refine z2 (bm_zero.mpr fun d hd => ?_)
                cases ho : ows A s (s % 2) d with
                | true => exact absurd ⟨d, hd, ho⟩ hn
                | false => rfl
              exact ows_goes w os es0 d2
            have hsc : scX A (flp s) s = true := scX_iff.mpr ⟨st, Or.inl ⟨by rw [p1]; exact z1, (flp_flp s).symm⟩⟩
            have dnf : dn' (flp s) s = false := by
              cases hb : dn' (flp s) s with
              | false => rfl
              | true =>
                obtain ⟨g, g1, g2, g3⟩ := hdn3 _ hb
                have := (bef_ows os g1 (by rw [← g2]; exact of) g3).1
                rw [← g2, p1] at this
                rw [bm_zero.mp z1 _ hd56] at this; cases this
            obtain ⟨nd2, q2, len2, t2, u1, u2, u3, u4, u5, u6⟩ := x_oneWay hP hV6 hpI hlm (show i < len' by omega) hv (by rw [qi]; exact hsc) n0 (by rw [qi]; exact dnf)
            rw [qi, hns] at u1
            rw [qi] at u2
            rw [u1, bD_e]
            refine fin _ _ _ _ _ u2 (fun j hj => (u3 j (by omega)).trans (hq j hj)) (by omega) (lfr_tr hfr u6) (fun p y hy => ?_) (fun p hp => dn1_iff.mpr (Or.inl hp)) (fun _ _ => dn1_iff.mpr (Or.inr ⟨rfl, rfl⟩))
            rcases dn1_iff.mp hy with hy | ⟨_, e⟩
            · exact hdn2 p y hy
            · exact Or.inr e
        · rw [if_neg (fun e => z1 ((lgc0 (bm56 _)).mp e))]
          refine same fun _ hsc => ?_
          exfalso
          obtain ⟨_, ⟨y, _⟩ | ⟨d, d1, d2, e⟩⟩ := scX_iff.mp hsc
          · rw [p1] at y; exact z1 y
          · obtain ⟨b1, b2⟩ := afx_bef of.1 d1
            have := afx_parts of.1 d1
            rw [← e] at this
            obtain ⟨r1, r2, r3, r4⟩ := this
            have q0 : xs (flp s) (flp s % 2) = xs s (flp s % 2) := by unfold xs; rw [p2, p3]
            rw [← q0] at r3
            have tt := (ows_turn w of d).mp d2
            obtain ⟨t', t1, t2, t3, t4, t5, t6⟩ := tt
            have bh := (byT_hs w t1).1
            rw [t2, ← r3, t4] at bh
            exact (w.2.2.2.1 t' t1).2.2 bh.symm
      · rw [if_neg n0, if_neg]
        · exact same fun _ _ => n0
        · intro e
          obtain ⟨j, j1, j2⟩ := hP.1.2.2.1 _ hv n0
          have b7 := hP.2.2.2.2.2.2.2 j j1
          have l6 := pigeon 6272 len' q' (fun j hj => hV6 _ (hP.1.1 j hj).1) (fun j l hj hl e => hP.1.2.1 j l hj hl e)
          rw [j2] at b7
          exact nI_pos (n := nd' (flp s)) (by omega) (by rw [e]; decide)
    · rw [hP.2.2.2.2.1 _ of.1 hv, if_neg (by decide)]
      exact same fun a => absurd a hv
  -- the spots from which it can have come
  unfold f_X0_lookBack
  rw [at14 hs6, bC_e, nds, nI_1, bV_e, and1, e2, bV_e, x_spot hs6 (by omega), bC_e, at9 hd56, bC_e, bk, x_bc64 (bm56 _), bC_e]
  have key := bitloop (f := fun t => f_X0_lookBack_B43 t.2.2 (nI s) pI (nI (nd s + 1)) (nI (1 - s % 2)) t.1 t.2.1) (fun m t => ∃ nd' q' len' dn', P2 A V tm pc lm nd' q' len' i dn' t ∧ (∀ j, j < len → q' j = q j) ∧ len ≤ len' ∧ nd' s = nd s ∧ lfr σ t ∧ (∀ p y, dn' p y = true → dn p y = true ∨ y = s) ∧ (∀ g, m.testBit g = true → g < 56 ∧ onw A g (xs s (1 - s % 2)) = true) ∧ (∀ p, dn' p s = true → ∃ g, g < 56 ∧ p = bef s g ∧ onw A g (xs s (1 - s % 2)) = true ∧ m.testBit g = false) ∧ (∀ g, g < 56 → onw A g (xs s (1 - s % 2)) = true → m.testBit g = false → V (bef s g) → scX A (bef s g) s = true → dn' (bef s g) s = true)) (fun o => ∃ nd' q' len' dn', P2 A V tm pc lm nd' q' len' i dn' o.2 ∧ (∀ j, j < len → q' j = q j) ∧ len ≤ len' ∧ (∀ p, V p → scX A p s = true → dn' p s = true) ∧ lfr σ o.2 ∧ ∀ p y, dn' p y = true → dn p y = true ∨ y = s) ?_ ?_ (bm_lt (fun g => onw A g (xs s (1 - s % 2))) 56) (s0 := σ) ⟨nd, q, len, dn, h, fun _ _ => rfl, Nat.le_refl _, rfl, lfr_rfl _, fun _ _ hy => Or.inl hy, fun g hg => by rw [bm_bit] at hg; simpa using hg, fun p hp => (by rw [hdn p] at hp; cases hp), fun g hg ho hm => by
    rw [bm_bit, decide_eq_true hg, ho] at hm; cases hm⟩
  · obtain ⟨o, a1, nd', q', len', dn', a2⟩ := key
    exact ⟨nd', q', len', dn', o.2, a1, a2⟩
  · rintro t ⟨nd', q', len', dn', c1, c2, c3, c4, c5, c6, c7, c8, c9⟩
    obtain ⟨nd2, q2, len2, dn2, t2, u1, u2⟩ := J123 nd' q' len' dn' t c1 c2 c3 c4 c5 c6 (fun p hp => by
      obtain ⟨g, g1, g2, g3, _⟩ := c8 p hp
      exact ⟨g, g1, g2, g3⟩) (fun g hg ho => c9 g hg ho (Nat.zero_testBit g))
    refine ⟨((), t2), ?_, nd2, q2, len2, dn2, u2⟩
    show f_X0_lookBack_B43 t (nI s) pI (nI (nd s + 1)) (nI (1 - s % 2)) 0 0 = _
    unfold f_X0_lookBack_B43
    rw [if_pos (show (0 : Int32) ≤ 0 by decide), u1, jw_e]
  · rintro m k n t hm hk hn0 hn64 hn ⟨nd', q', len', dn', c1, c2, c3, c4, c5, c6, c7, c8, c9⟩
    obtain ⟨k56, kon⟩ := c7 k hk.1
    have b6 := (bef_parts hs6 k56).1
    have qi : q' i = s := by rw [c2 i hi]; exact es
    -- what is left of the set
    have m' : ∀ g, (m &&& (m - 1)).testBit g = (m.testBit g && decide (g ≠ k)) := fun g => low_drop hk g
    have sub : ∀ g, (m &&& (m - 1)).testBit g = true → g < 56 ∧ onw A g (xs s (1 - s % 2)) = true := fun g hg => by
      rw [m' g, Bool.and_eq_true] at hg
      exact c7 g hg.1
    have c8' : ∀ dn2 : Nat → Nat → Bool, (∀ p, dn2 p s = true → dn' p s = true ∨ p = bef s k) → ∀ p, dn2 p s = true → ∃ g, g < 56 ∧ p = bef s g ∧ onw A g (xs s (1 - s % 2)) = true ∧ (m &&& (m - 1)).testBit g = false := fun dn2 hd2 p hp => by
      rcases hd2 p hp with hp | rfl
      · obtain ⟨g, g1, g2, g3, g4⟩ := c8 p hp
        exact ⟨g, g1, g2, g3, by rw [m' g, g4]; rfl⟩
      · exact ⟨k, k56, rfl, kon, by rw [m' k]; simp⟩
    have c9' : ∀ dn2 : Nat → Nat → Bool, (∀ p, dn' p s = true → dn2 p s = true) → (V (bef s k) → scX A (bef s k) s = true → dn2 (bef s k) s = true) → ∀ g, g < 56 → onw A g (xs s (1 - s % 2)) = true → (m &&& (m - 1)).testBit g = false → V (bef s g) → scX A (bef s g) s = true → dn2 (bef s g) s = true := fun dn2 hd2 hk2 g g1 g2 g3 g4 g5 => by
      by_cases z : g = k
      · subst z; exact hk2 g4 g5
      · refine hd2 _ (c9 g g1 g2 ?_ g4 g5)
        rw [m' g, decide_eq_true z, Bool.and_true] at g3
        exact g3
    have pre : f_X0_lookBack_B43 t (nI s) pI (nI (nd s + 1)) (nI (1 - s % 2)) (lN m) (nI n) = f_X0_lookBack_J94 t (nI s) pI (nI (nd s + 1)) (nI (1 - s % 2)) (lN (m &&& (m - 1))) (nI n) (nI (bef s k)) := by
      unfold f_X0_lookBack_B43
      rw [if_neg (nI_nle hn0 (by omega)), x_lowest hk (Nat.lt_trans hm (by decide)), bC_e, low_dec hk (Nat.lt_trans hm (by decide)), bV_e]
      have bs := bef_state (h := k) hs6
      have : 1 - s % 2 = 0 ∨ 1 - s % 2 = 1 := by omega
      rcases this with z | z
      · rw [z] at bs ⊢
        rw [if_pos (show nI 0 = 0 from rfl)] at bs ⊢
        rw [x_spot1 hs6, bC_e] at bs ⊢
        rw [show (0 : Int32) = nI 0 from rfl, x_state, bC_e] at bs
        rw [show f_X0_state (nI k) (nI (x1 s)) 0 = f_X0_state (nI k) (nI (x1 s)) (nI 0) from rfl, x_state, bC_e]
        rw [Option.some.inj bs]
      · rw [z] at bs ⊢
        rw [if_neg (show ¬ nI 1 = 0 by decide)] at bs ⊢
        rw [x_spot0 hs6, bC_e] at bs ⊢
        rw [show f_X0_state (nI (x0 s)) (nI k) 1 = f_X0_state (nI (x0 s)) (nI k) (nI 1) from rfl, x_state, bC_e] at bs ⊢
        rw [Option.some.inj bs]
    show ∃ s', f_X0_lookBack_B43 t (nI s) pI (nI (nd s + 1)) (nI (1 - s % 2)) (lN m) (nI n) = _ ∧ _
    rw [pre]
    unfold f_X0_lookBack_J94 f_X0_lookBack_J117
    rw [at14 b6, bC_e]
    have stay : (V (bef s k) → scX A (bef s k) s = true → nd' (bef s k) ≠ 0) → ∃ s', (bV (nI n + (-1)) fun v27 => (some (Sum.inl (lN (m &&& (m - 1)), v27, t)) : Option ((Int64 × Int32 × jS) ⊕ (Unit × jS)))) = some (Sum.inl (lN (m &&& (m - 1)), nI n + (-1), s')) ∧ ∃ nd' q' len' dn', P2 A V tm pc lm nd' q' len' i dn' s' ∧ (∀ j, j < len → q' j = q j) ∧ len ≤ len' ∧ nd' s = nd s ∧ lfr σ s' ∧ (∀ p y, dn' p y = true → dn p y = true ∨ y = s) ∧ (∀ g, (m &&& (m - 1)).testBit g = true → g < 56 ∧ onw A g (xs s (1 - s % 2)) = true) ∧ (∀ p, dn' p s = true → ∃ g, g < 56 ∧ p = bef s g ∧ onw A g (xs s (1 - s % 2)) = true ∧ (m &&& (m - 1)).testBit g = false) ∧ (∀ g, g < 56 → onw A g (xs s (1 - s % 2)) = true → (m &&& (m - 1)).testBit g = false → V (bef s g) → scX A (bef s g) s = true → dn' (bef s g) s = true) := by
      intro hn1
      by_cases z : V (bef s k) ∧ scX A (bef s k) s = true
      · have D := x_doneWay (p := bef s k) c1 (by omega) z.1 (by rw [qi]; exact z.2) (hn1 z.1 z.2)
        rw [qi] at D
        refine ⟨t, rfl, nd', q', len', _, D, c2, c3, c4, c5, fun p y hy => ?_, sub, c8' _ (fun p hp => ?_), c9' _ (fun p hp => dn1_iff.mpr (Or.inl hp)) (fun _ _ => dn1_iff.mpr (Or.inr ⟨rfl, rfl⟩))⟩
        · rcases dn1_iff.mp hy with hy | ⟨_, e⟩
          · exact c6 p y hy
          · exact Or.inr e
        · rcases dn1_iff.mp hp with hp | ⟨e, _⟩
          · exact Or.inl hp
          · exact Or.inr e
      · exact ⟨t, rfl, nd', q', len', dn', c1, c2, c3, c4, c5, c6, sub, c8' _ (fun p hp => Or.inl hp), c9' _ (fun p hp => hp) (fun a b => absurd ⟨a, b⟩ z)⟩
    by_cases hv : V (bef s k)
    · rw [c1.2.2.2.1 _ hv]
      by_cases n0 : nd' (bef s k) = 0
      · rw [if_pos n0, if_pos rfl]
        have tf : tm (bef s k) = false := by
          cases ht : tm (bef s k) with
          | true => have := (c1.1.2.2.2.2.2.2.1 _ hv).mp ht; omega
          | false => rfl
        have ob := hV _ hv
        obtain ⟨o1, o2⟩ := bef_ows os k56 ob kon
        have st := ows_goes w ob (hE _ hv tf) o1
        have hsc : scX A (bef s k) s = true := scX_iff.mpr ⟨st, Or.inr ⟨_, hd56, o1, o2.symm⟩⟩
        have dnf : dn' (bef s k) s = false := by
          cases hb : dn' (bef s k) s with
          | false => rfl
          | true =>
            obtain ⟨g, g1, g2, g3, g4⟩ := c8 _ hb
            have := bef_inj hs6 k56 g1 g2
            subst this
            rw [hk.1] at g4; cases g4
        obtain ⟨nd2, q2, len2, t2, u1, u2, u3, u4, u5, u6⟩ := x_oneWay c1 hV6 hpI hlm (show i < len' by omega) hv (by rw [qi]; exact hsc) n0 (by rw [qi]; exact dnf)
        rw [qi, c4] at u1
        rw [qi] at u2
        rw [u1, bD_e, bV_e]
        refine ⟨t2, rfl, nd2, q2, len2, _, u2, fun j hj => (u3 j (by omega)).trans (c2 j hj), by omega, (u5 s (by rw [c4]; exact hs.2)).trans c4, lfr_tr c5 u6, fun p y hy => ?_, sub, c8' _ (fun p hp => ?_), c9' _ (fun p hp => dn1_iff.mpr (Or.inl hp)) (fun _ _ => dn1_iff.mpr (Or.inr ⟨rfl, rfl⟩))⟩
        · rcases dn1_iff.mp hy with hy | ⟨_, e⟩
          · exact c6 p y hy
          · exact Or.inr e
        · rcases dn1_iff.mp hp with hp | ⟨e, _⟩
          · exact Or.inl hp
          · exact Or.inr e
      · rw [if_neg n0, if_neg]
        · exact stay fun _ _ => n0
        · intro e
          obtain ⟨j, j1, j2⟩ := c1.1.2.2.1 _ hv n0
          have b7 := c1.2.2.2.2.2.2.2 j j1
          have l6 := pigeon 6272 len' q' (fun j hj => hV6 _ (c1.1.1 j hj).1) (fun j l hj hl e => c1.1.2.1 j l hj hl e)
          rw [j2] at b7
          exact nI_pos (n := nd' (bef s k)) (by omega) (by rw [e]; decide)
    · rw [c1.2.2.2.2.1 _ b6 hv, if_neg (by decide)]
      exact stay fun a => absurd a hv
end LKY
