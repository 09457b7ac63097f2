/-! once: the class carries on, whole -/
section CB
variable {A : Tb} {a b goal : Nat} {P : Nat → Nat → Prop}
theorem cry_tail (w : wA A) (ha : a < 16) (hb : b < 16) (hT : tT A ≤ 8) (hP : ∀ c u c' u', P c u → stp A c u c' u' → P c' u') {n d i : Nat} {σ sz : jS} {S : Nat → Nat → Prop} (ih : ∀ i σ, okN A a b i → (d + 1) % 2 = nS i → dep A a b (d + 1) i → P (cN A a b i) (nU i) → XO A a b goal σ → ∃ σ', f_X4_carry n σ (nI (n0 i)) (nI (n1 i)) (nI (nU i)) (nI (d + 1)) = some ((), σ') ∧ CRY A a b goal P σ σ' i) (hi : okN A a b i) (hp : d % 2 = nS i) (hd : dep A a b d i) (hPi : P (cN A a b i) (nU i)) (hX : XO A a b goal σ) (hE : ended A (cN A a b i) = false) (hC : CRI A a b goal P (fun j => j = i) σ sz S) (hV : rb sz 19 i = true) (hS : bm (mayU A (nU i) (cN A a b i) (nS i)) 16 = 0 → bm (mayU A (nU i) (cN A a b i) (1 - nS i)) 16 ≠ 0 → S (behP (cN A a b i)) (nU i)) : ∃ σ', f_X4_carry_J151 (f_X4_carry n) sz (nI (n0 i)) (nI (n1 i)) (nI (nU i)) (nI d) (nI (nS i)) (nI (bm (usU A (nU i) (xN A a b i) (nS i)) (tT A))) = some ((), σ') ∧ CRY A a b goal P σ σ' i := by
  have s2 : nS i < 2 := by unfold nS; omega
  have ok := hi.2.2.2
  have eside : cSide (cN A a b i) = nS i := by
    unfold cN
    rw [cv_side w ok, (xN_01 w ha hb hi).2.2]
  have U31 : bm (usU A (nU i) (xN A a b i) (nS i)) (tT A) < 2 ^ 31 := Nat.lt_of_lt_of_le (bm_lt _ _) (Nat.pow_le_pow_right (by decide) (by omega))
  unfold f_X4_carry_J151
  have key := jloop_ex (S := Int32 × jS) (O := Unit × jS) (f := fun s => f_X4_carry_B154 (f_X4_carry n) s.2 (nI (n0 i)) (nI (n1 i)) (nI (nU i)) (nI d) (nI (nS i)) (nI (bm (usU A (nU i) (xN A a b i) (nS i)) (tT A))) s.1) (fun t s => s.1 = nI t ∧ rb s.2 19 i = true ∧ CRI A a b goal P (fun j => j = i) σ s.2 (fun c' u' => S c' u' ∨ ∃ t', t' < t ∧ usU A (nU i) (xN A a b i) (nS i) t' = true ∧ c' = behQ A (cN A a b i) (A 3 t') ∧ u' = nU i ||| 2 ^ t')) (tT A) (fun o => CRY A a b goal P σ o.2 i) (s0 := (0, sz)) ⟨rfl, hV, CRI_mono hC fun c u q => q.elim id (fun ⟨t', ht, _⟩ => absurd ht (Nat.not_lt_zero _))⟩ (jfuel_big (by omega)) ?_ ?_
  · obtain ⟨o, o1, o2⟩ := key
    exact ⟨o.2, o1, o2⟩
  · rintro ⟨x, s⟩ ⟨rfl, h4, h⟩
    replace h4 : rb s 19 i = true := h4
    replace h : CRI A a b goal P (fun j => j = i) σ s _ := h
    obtain ⟨h1, h2, h3, h5, h6, h7⟩ := h
    refine ⟨((), s), ?_, h1, h2, h3, h4, fun j hj hn => ?_, h6⟩
    · show f_X4_carry_B154 _ s _ _ _ _ _ _ (nI (tT A)) = _
      unfold f_X4_carry_B154 f_X4_carry_J232
      rw [h2, hX.2.2.1, if_pos (Int32.le_refl _), jw_e]
    · by_cases z : j = i
      · subst z
        refine ⟨hPi, fun c' u' hs => h7 c' u' ?_⟩
        obtain ⟨_, hany, ⟨y0, y1, y2⟩ | ⟨t, t1, t2, t3, t4, t5, t6⟩⟩ := hs
        · rw [eside] at y0
          have oth : bm (mayU A (nU j) (cN A a b j) (1 - nS j)) 16 ≠ 0 := by
            have : nS j = 0 ∨ nS j = 1 := by omega
            rcases this with y | y <;> rw [y] at y0 ⊢
            · exact hany.elim (fun q => absurd y0 q) id
            · exact hany.elim id (fun q => absurd y0 q)
          left
          rw [y1, y2]
          exact hS y0 oth
        · rw [eside] at t3 t4
          exact Or.inr ⟨t, t1, (usU_may w ok s2 t1).mpr ⟨t2, t3, t4⟩, t5, t6⟩
      · exact h5 j hj hn z
  · rintro t ⟨x, s⟩ ht ⟨rfl, hv, h⟩
    replace hv : rb s 19 i = true := hv
    replace h : CRI A a b goal P (fun j => j = i) σ s _ := h
    have hXs := XO_fr h.1 hX
    refine Or.inl ?_
    show ∃ s', f_X4_carry_B154 _ s _ _ _ _ _ _ (nI t) = _ ∧ _
    unfold f_X4_carry_B154 f_X4_carry_J226
    rw [hXs.2.2.1, if_neg (nI_ge ht (by omega)), nI_bit U31 (by omega), bm_bit, decide_eq_true ht, Bool.true_and]
    cases hu : usU A (nU i) (xN A a b i) (nS i) t with
    | false =>
      rw [if_neg (show ¬ false = true by decide), if_pos rfl, bV_e, nI_1]
      refine ⟨_, rfl, rfl, hv, CRI_mono h ?_⟩
      rintro c u (q | ⟨t', q1, q2, q3⟩)
      · exact Or.inl q
      · have : t' ≠ t := fun e => by rw [e, hu] at q2; cases q2
        exact Or.inr ⟨t', by omega, q2, q3⟩
    | true =>
      obtain ⟨m1, m2, m3⟩ := (usU_may w ok s2 ht).mp hu
      obtain ⟨k0, k1, k2, k3, k4, k5⟩ := kid_hand w ha hb hT hi ht hu
      have rem := remU_or (A := A) ht m1
      have hd17 : d + 2 * remU A (nU i) ≤ 17 := by rcases hd with z | z <;> omega
      have q16 : A 3 t < 16 := by have := (w.2.2.2.1 t ht).1; have := w.1; omega
      have ne : bm (mayU A (nU i) (cN A a b i) (nS i)) 16 ≠ 0 := fun z => by
        have := bm_zero.mp z _ q16
        have m3' : mayU A (nU i) (cN A a b i) (nS i) (A 3 t) = true := m3
        rw [this] at m3'; cases m3'
      have hs : stp A (cN A a b i) (nU i) (cN A a b (kidT i t)) (nU (kidT i t)) := by
        refine ⟨hE, ?_, Or.inr ⟨t, ht, m1, by rw [eside]; exact m2, by rw [eside]; exact m3, k5, k3⟩⟩
        have : nS i = 0 ∨ nS i = 1 := by omega
        rcases this with y | y <;> rw [y] at ne
        · exact Or.inl ne
        · exact Or.inr ne
      obtain ⟨s', r1, r2⟩ := ih (kidT i t) s k4 (by rw [k2]; omega) (Or.inl (by rw [k3]; omega)) (hP _ _ _ _ hPi hs) hXs
      rw [k0, k1, k3] at r1
      rw [if_pos rfl, if_neg (show ¬ (1 : Int32) = 0 by decide), nI_shl1 t (by omega), fa_or, nI_1, nI_1]
      have fin : CRI A a b goal P (fun j => j = i) σ s' (fun c' u' => S c' u' ∨ ∃ t', t' < t + 1 ∧ usU A (nU i) (xN A a b i) (nS i) t' = true ∧ c' = behQ A (cN A a b i) (A 3 t') ∧ u' = nU i ||| 2 ^ t') := by
        refine CRI_mono (CRI_step (okN_lt hT k4) h r2) ?_
        rintro c u (q | ⟨t', q1, q2, q3, q4⟩)
        · exact Or.inl (Or.inl q)
        · by_cases e : t' = t
          · subst e
            exact Or.inr ⟨by rw [k5, q3], by rw [k3, q4]⟩
          · exact Or.inl (Or.inr ⟨t', by omega, q2, q3, q4⟩)
      by_cases y : nS i = 0
      · rw [if_pos y, if_pos y] at r1
        rw [if_pos (show nI (nS i) = 0 from congrArg nI y), r1, bD_e, bV_e]
        exact ⟨_, rfl, rfl, r2.2.2.1 i hv, fin⟩
      · rw [if_neg y, if_neg y] at r1
        rw [if_neg (fun e => y ((nI_eq0 (by omega)).mp e)), r1, bD_e, bV_e]
        exact ⟨_, rfl, rfl, r2.2.2.1 i hv, fin⟩
theorem x_carry (w : wA A) (ha : a < 16) (hb : b < 16) (hT : tT A ≤ 8) (hg : goal < 16) (hP : ∀ c u c' u', P c u → stp A c u c' u' → P c' u') : ∀ n d i σ, n + d = 20 → okN A a b i → d % 2 = nS i → dep A a b d i → P (cN A a b i) (nU i) → XO A a b goal σ → ∃ σ', f_X4_carry n σ (nI (n0 i)) (nI (n1 i)) (nI (nU i)) (nI d) = some ((), σ') ∧ CRY A a b goal P σ σ' i := by
  intro n
  induction n with
  | zero =>
    intro d i σ hn hi hp hd
    exfalso
    rcases hd with z | z <;> omega
  | succ n ih =>
    intro d i σ hn hi hp hd hPi hX
    obtain ⟨hW, hF, h2, h3, h4, h5⟩ := id hX
    have d17 : d ≤ 17 := by rcases hd with z | z <;> omega
    have i4 : i < 41472 := by
      have := hi.1
      unfold n0 at this
      omega
    have s2 : nS i < 2 := by unfold nS; omega
    have u256 : nU i < 256 := by unfold nU; omega
    have ok := hi.2.2.2
    obtain ⟨e0, e1, e2⟩ := xN_01 w ha hb hi
    have i648 : i / 64 < (SHX 19).2 := by
      show i / 64 < 648
      omega
    have ev : ((((nI (n0 i) * (9 : Int32)) + nI (n1 i)) * (2 : Int32) + nI (nS i)) * (256 : Int32)) + nI (nU i) = nI i := by
      rw [show (9 : Int32) = nI 9 from rfl, show (2 : Int32) = nI 2 from rfl, show (256 : Int32) = nI 256 from rfl, nI_mul, nI_add, nI_mul, nI_add, nI_mul, nI_add]
      exact congrArg nI (ndN_i i)
    show ∃ σ', f_X4_carry_R (f_X4_carry n) σ (nI (n0 i)) (nI (n1 i)) (nI (nU i)) (nI d) = _ ∧ _
    unfold f_X4_carry_R
    rw [and1, hp, bV_e, ev, bV_e, if_neg (show ¬ (17 : Int32) < nI d from Int32.not_lt.mpr (show nI d ≤ nI 17 from nI_le d17 (by decide))), x_hasBit (by decide) rfl i648 (by decide), bC_e]
    cases hv : rb σ 19 i with
    | true =>
      unfold f_X4_carry_J45
      rw [if_neg (show ¬ bI true = 0 by decide)]
      exact ⟨σ, rfl, fr_rfl _ _, fun _ _ => rfl, fun _ h => h, hv, fun j h1 h2 => (by rw [h1] at h2; cases h2), fun j => ⟨Or.inl, fun h => h.elim id (fun ⟨k, k1, k2, _⟩ => (by rw [k1] at k2; cases k2))⟩⟩
    | false =>
      obtain ⟨s, p1, p2, p3, p4⟩ := x_putBit (σ := σ) (h := 19) (i := i) (by decide) rfl i648 (by decide)
      have fX : fr [18, 19] σ s := fr_mono p2 (by simp)
      have hXs := XO_fr fX hX
      obtain ⟨sW, sF, t2, t3, t4, t5⟩ := id hXs
      have v18 : ∀ j, rb s 18 j = rb σ 18 j := fun j => rb_fr p2 (by decide) j
      have ex : (pl A a (n0 i) * 56 + pl A b (n1 i)) * 2 + nS i = xN A a b i := rfl
      have newi : ∀ k, rb s 19 k = true → rb σ 19 k = false → k = i := fun k k1 k2 => by
        rw [p3, k2, Bool.false_or, beq_iff_eq] at k1
        exact k1
      have mono : ∀ j, rb σ 19 j = true → rb s 19 j = true := fun j hj => by rw [p3, hj]; rfl
      have vi : rb s 19 i = true := by rw [p3, beq_self_eq_true, Bool.or_true]
      rw [if_pos (show bI false = 0 from rfl), p1, bD_e, t3, x_spotAt w sW hT hi.1, bC_e, t4, x_spotAt w sW hT hi.2.1, bC_e, x_state, bC_e, ex, x_isEnded w sW sF ok, bC_e]
      cases hE : ended A (cv A (xN A a b i)) with
      | true =>
        obtain ⟨s', q1, q2, q3, q4⟩ := x_putBit (σ := s) (h := 18) (i := goal * 256 + nU i) (by decide) rfl (by
          show (goal * 256 + nU i) / 64 < 64
          omega) (by decide)
        have v19 : ∀ j, rb s' 19 j = rb s 19 j := fun j => rb_fr q2 (by decide) j
        rw [if_pos rfl, if_neg (show ¬ (1 : Int32) = 0 by decide), t5, show (256 : Int32) = nI 256 from rfl, nI_mul, nI_add, q1, bD_e]
        refine ⟨s', rfl, fr_trans fX (fr_mono q2 (by simp)), fun x y => (q4 x y).trans (p4 x y), fun j hj => by rw [v19]; exact mono j hj, by rw [v19]; exact vi, fun j hj hn2 => ?_, fun j => ?_⟩
        · rw [v19] at hj
          have := newi j hj hn2
          subst this
          refine ⟨hPi, fun c' u' hs => ?_⟩
          have := hs.1
          unfold cN at this
          rw [hE] at this; cases this
        · rw [q3, v18, Bool.or_eq_true, beq_iff_eq]
          constructor
          · rintro (h | h)
            · exact Or.inl h
            · exact Or.inr ⟨i, by rw [v19]; exact vi, hv, hE, h⟩
          · rintro (h | ⟨k, k1, k2, k3, k4⟩)
            · exact Or.inl h
            · rw [v19] at k1
              have := newi k k1 k2
              subst this
              exact Or.inr k4
      | false =>
        have base : CRI A a b goal P (fun j => j = i) σ s (fun _ _ => False) := by
          refine ⟨fX, p4, mono, fun j hj hn2 hne => absurd (newi j hj hn2) hne, fun j => ?_, fun _ _ h => h.elim⟩
          rw [v18]
          refine ⟨Or.inl, fun h => h.elim id fun ⟨k, k1, k2, k3, _⟩ => ?_⟩
          have := newi k k1 k2
          subst this
          unfold cN at k3
          rw [hE] at k3; cases k3
        have us := usU_none (u := nU i) w ok s2
        have uo := usU_none (u := nU i) w ok (s := 1 - nS i) (by omega)
        have U31 : ∀ s, bm (usU A (nU i) (xN A a b i) s) (tT A) < 2 ^ 31 := fun s => Nat.lt_of_lt_of_le (bm_lt _ _) (Nat.pow_le_pow_right (by decide) (by omega))
        have ih' := fun i σ => ih (d + 1) i σ (by omega)
        obtain ⟨g1, g2, g3, g4⟩ := flp_ok ok
        rw [e2] at g2
        rw [if_neg (show ¬ false = true by decide), if_pos rfl, x_usable w sW hT t2 ok (by omega), bC_e, e2, show nI (xN A a b i) ^^^ (1 : Int32) = nI (flp (xN A a b i)) from by rw [show (1 : Int32) = nI 1 from rfl, fb_xorI, xor_flp ok.1], x_usable w sW hT t2 g1 (by omega), bC_e, g2, flp_usU ok]
        by_cases z : bm (usU A (nU i) (xN A a b i) (nS i)) (tT A) = 0
        · rw [if_pos (show nI (bm (usU A (nU i) (xN A a b i) (nS i)) (tT A)) = 0 from congrArg nI z)]
          by_cases y : bm (usU A (nU i) (xN A a b i) (1 - nS i)) (tT A) = 0
          · rw [if_pos (show nI (bm (usU A (nU i) (xN A a b i) (1 - nS i)) (tT A)) = 0 from congrArg nI y)]
            exact cry_tail w ha hb hT hP ih' hi hp hd hPi hX hE base vi (fun _ h => absurd (uo.mp y) h)
          · obtain ⟨j0, j1, j2, j3, j4, j5, j6⟩ := kid_pass w ha hb hT hi
            have hs : stp A (cN A a b i) (nU i) (behP (cN A a b i)) (nU i) := by
              have eside : cSide (cN A a b i) = nS i := by
                unfold cN
                rw [cv_side w ok, e2]
              refine ⟨hE, ?_, Or.inl ⟨by rw [eside]; exact us.mp z, rfl, rfl⟩⟩
              have ne : bm (mayU A (nU i) (cN A a b i) (1 - nS i)) 16 ≠ 0 := fun q => y (uo.mpr q)
              have : nS i = 0 ∨ nS i = 1 := by omega
              rcases this with q | q <;> rw [q] at ne
              · exact Or.inr ne
              · exact Or.inl ne
            obtain ⟨s', r1, r2⟩ := ih' _ s j4 (by rw [j2]; omega) (Or.inr ⟨by
              rw [j3]
              rcases hd with q | ⟨_, q⟩
              · omega
              · exact absurd z q, by
              rw [j3, j5, j2, flp_usU ok]
              exact y⟩) (by rw [j6, j3]; exact hP _ _ _ _ hPi hs) hXs
            rw [j0, j1, j3] at r1
            rw [if_neg (fun e => y ((nI_eq0 (U31 _)).mp e)), nI_1, r1, bD_e]
            refine cry_tail w ha hb hT hP ih' hi hp hd hPi hX hE (CRI_step (okN_lt hT j4) base r2) (r2.2.2.1 i vi) (fun _ _ => Or.inr ⟨?_, ?_⟩)
            · exact j6.symm
            · exact j3.symm
        · rw [if_neg (fun e => z ((nI_eq0 (U31 _)).mp e))]
          exact cry_tail w ha hb hT hP ih' hi hp hd hPi hX hE base vi (fun h _ => absurd (us.mpr h) z)
end CB
