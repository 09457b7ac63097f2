/-! once: the reference carries on, whole -/
theorem bI_1 {b : Bool} (h : b = true) : bI b = 1 := by rw [h]; rfl
theorem m_carryOn {τ : jS} {A : Tb} {e q u0 : Nat} {C : Nat → Bool} (hM : WM τ) (eA : mn τ = A) (w : wA A) (hT : tT A ≤ 8) (he : e < 16) (hq : q < tQ A) (hu0 : u0 < 2 ^ tT A) (h29 : ∀ i, i < 4096 → gI τ 29 i = bI (C i)) : ∃ τ', ∃ C' : Nat → Bool, f_X11_carryOn τ (nI e) (nI (lfU A u0)) (nI q) = some ((), τ') ∧ (∀ i, i < 4096 → gI τ' 29 i = bI (C' i)) ∧ (∀ i, C' i = true ↔ C i = true ∨ ∃ u, RE A (tdc A q) u0 u ∧ i = 256 * (e ||| 2 ^ q) + lfU A u) ∧ cfr τ τ' ∧ gI τ' 1 35 = -1 := by
  obtain ⟨hN, hS2, hTm, hO, hG, hQ, hu35⟩ := hM
  have hW : W6 τ := ⟨hN, hS2, hTm, hO, hG, hQ⟩
  have h16 := w.1
  have q4 : q < 4 := by have := hN.2.2.2.1.2; rw [eA] at this; omega
  have p8 : 2 ^ tT A ≤ 256 := Nat.pow_le_pow_right (n := 2) (by decide) hT
  obtain ⟨k1, k2, k3, k4, k5⟩ := hQ q (by rw [eA]; exact hq)
  rw [eA] at k1 k2 k3 k4 k5
  have oc0 : okc A (tdc A q) := by
    obtain ⟨o1, o2⟩ := tdx_ok h16 k3 k4 k5
    have := cv_ok w o1
    rw [o2] at this
    exact this
  have g16 : e ||| 2 ^ q < 16 := or_lt (n := 4) he q4
  generalize eg : e ||| 2 ^ q = goal at *
  have eI : nI e ||| ((1 : Int32) <<< (nI q &&& 31)) = nI goal := by rw [nI_shl1 q (by omega), fa_or, eg]
  -- the start
  have f1 : cfr τ (sI τ 1 55 0) := cfr_1 (Or.inr rfl)
  obtain ⟨w1, e1⟩ := cfr_W f1 hW
  have told : f_X11_toldCode (sI τ 1 55 0) (nI q) = some (nI (tdc A q)) := by
    have := m_told (τ := sI τ 1 55 0) w1.2.2.2.2.2 (q := q) (by rw [e1, eA]; exact hq) q4
    rw [e1, eA] at this
    exact this
  have Q0 : QT A (tdc A q) u0 0 (fun _ => 0) (fun _ => 0) (sI τ 1 55 0) := ⟨gI_sI _ _ _ _, fun j hj => absurd hj (Nat.not_lt_zero j)⟩
  obtain ⟨t1, a1, a2, a3, a4, a5⟩ := m_addQ Q0 (by decide) oc0 hu0 ⟨0, rfl, rfl⟩
  have B1 : sumR (fun j => wtU A (up1 (fun _ => 0) 0 (tdc A q) j) (up1 (fun _ => 0) 0 u0 j)) 1 ≤ 52002 := by
    show 0 + wtU A (up1 (fun _ => 0) 0 (tdc A q) 0) (up1 (fun _ => 0) 0 u0 0) ≤ 52002
    rw [up1_at, up1_at, Nat.zero_add]
    exact wtU_le (Nat.le_trans (fa_cnt_le _ _) hT)
  unfold f_X11_carryOn
  rw [bV_e, told, bC_e, a1, bD_e]
  have key := jloop_inv (f := fun z => f_X11_carryOn_B18 z.2 (nI e) (nI q) z.1) (fun mz z => ∃ k n, ∃ cs us : Nat → Nat, ∃ C' : Nat → Bool, z.1 = nI k ∧ mz = 60000 - k ∧ k ≤ n ∧ 0 < n ∧ cs 0 = tdc A q ∧ us 0 = u0 ∧ QT A (tdc A q) u0 n cs us z.2 ∧ (∀ j, j < k → ∀ c' u', stp A (cs j) (us j) c' u' → ∃ l, l < n ∧ cs l = c' ∧ us l = u') ∧ (∀ i, i < 4096 → gI z.2 29 i = bI (C' i)) ∧ (∀ i, C' i = true ↔ C i = true ∨ ∃ j, j < k ∧ ended A (cs j) = true ∧ i = 256 * goal + lfU A (us j)) ∧ sumR (fun j => wtU A (cs j) (us j)) n + k ≤ 52002 + sumR (fun j => wtU A (cs j) (us j)) k ∧ cfr τ z.2) (fun (o : Unit × jS) => ∃ C' : Nat → Bool, (∀ i, i < 4096 → gI o.2 29 i = bI (C' i)) ∧ (∀ i, C' i = true ↔ C i = true ∨ ∃ u, RE A (tdc A q) u0 u ∧ i = 256 * goal + lfU A u) ∧ cfr τ o.2 ∧ gI o.2 1 35 = -1) ?_ jFuel 60000 (0, t1) ⟨0, 1, _, _, C, rfl, rfl, by omega, by omega, up1_at _ _ _, up1_at _ _ _, a2, fun j hj => absurd hj (Nat.not_lt_zero j), fun i hi => (a4 i).trans ((gI_ne (by decide)).trans (h29 i hi)), fun i => ⟨fun h => Or.inl h, fun h => h.elim id (fun ⟨j, hj, _⟩ => absurd hj (Nat.not_lt_zero j))⟩, B1, cfr_tr f1 a3⟩ (jfuel_big (by omega))
  · obtain ⟨o, o1, C', o2⟩ := key
    exact ⟨o.2, C', o1, o2⟩
  · rintro mz ⟨ta, t⟩ ⟨k, n, cs, us, C', rfl, rfl, kn, n0, c0, u00, hQ', hcl, hC1, hC2, hB, hf⟩
    replace hQ' : QT A (tdc A q) u0 n cs us t := hQ'
    replace hC1 : ∀ i, i < 4096 → gI t 29 i = bI (C' i) := hC1
    replace hf : cfr τ t := hf
    obtain ⟨wt, et⟩ := cfr_W hf hW
    have wpos : ∀ j, 1 ≤ (fun j => wtU A (cs j) (us j)) j := fun j => wtU_pos A (cs j) (us j)
    have nB : n ≤ 52002 := by
      have := sumR_ge wpos n kn
      omega
    show (∃ s' n', f_X11_carryOn_B18 t (nI e) (nI q) (nI k) = _ ∧ _) ∨ (∃ o, f_X11_carryOn_B18 t (nI e) (nI q) (nI k) = _ ∧ _)
    unfold f_X11_carryOn_B18
    rw [hQ'.1]
    rcases Nat.lt_or_ge k n with z | z
    case inr =>
      right
      have : k = n := by omega
      subst this
      unfold f_X11_carryOn_J207
      rw [if_pos (Int32.le_refl _), bV_e, jw_e]
      refine ⟨_, rfl, C', fun i hi => (gI_ne (by decide)).trans (hC1 i hi), fun i => (hC2 i).trans ?_, cfr_tr hf (cfr_1 (Or.inl rfl)), gI_sI _ _ _ _⟩
      -- all that can come was tried
      have all : ∀ m c u, RU A (tdc A q) u0 m c u → ∃ l, l < k ∧ cs l = c ∧ us l = u := by
        intro m
        induction m with
        | zero => intro c u hr; exact ⟨0, n0, by rw [c0, hr.1], by rw [u00, hr.2]⟩
        | succ m ih =>
          rintro c u ⟨c', u', h1, h2⟩
          obtain ⟨l, l1, l2, l3⟩ := ih c' u' h1
          exact hcl l l1 c u (by rw [l2, l3]; exact h2)
      constructor
      · rintro (h | ⟨j, j1, j2, j3⟩)
        · exact Or.inl h
        · obtain ⟨_, _, _, _, m, hm⟩ := hQ'.2 j j1
          exact Or.inr ⟨us j, ⟨m, cs j, hm, j2⟩, j3⟩
      · rintro (h | ⟨u, ⟨m, c, hm, hE⟩, j3⟩)
        · exact Or.inl h
        · obtain ⟨l, l1, l2, l3⟩ := all m c u hm
          exact Or.inr ⟨l, l1, by rw [l2]; exact hE, by rw [l3]; exact j3⟩
    left
    obtain ⟨x1, x2, oc, hu, hr⟩ := hQ'.2 k z
    have hc := oc.1
    have s2 := cSide_lt (cs k)
    have jk : jin (nI k) 120000 = true := jin_nI (by omega) (by omega)
    generalize ec : cs k = c at *
    generalize eu : us k = u at *
    have lf := lfU_lt A u
    rw [if_neg (nI_ge z (by omega)), bG_t jk, ix_nI (by omega), x1, bV_e, bG_t jk, x2, bV_e]
    have f8 : cfr τ (sI t 1 35 (nI (lfU A u))) := cfr_tr hf (cfr_1 (Or.inl rfl))
    obtain ⟨w8, e8⟩ := cfr_W f8 hW
    have h35 : gI (sI t 1 35 (nI (lfU A u))) 1 35 = nI (lfU A u) := gI_sI _ _ _ _
    have Q8 : QT A (tdc A q) u0 n cs us (sI t 1 35 (nI (lfU A u))) := ⟨(gI_nei (by decide)).trans hQ'.1, fun j hj => by
      obtain ⟨y1, y2, y3⟩ := hQ'.2 j hj
      exact ⟨(gI_ne (by decide)).trans y1, (gI_ne (by decide)).trans y2, y3⟩⟩
    have hC8 : ∀ i, i < 4096 → gI (sI t 1 35 (nI (lfU A u))) 29 i = bI (C' i) := fun i hi => (gI_ne (by decide)).trans (hC1 i hi)
    generalize et8 : sI t 1 35 (nI (lfU A u)) = t8 at *
    have i8 : f_X11_isEnded t8 (nI c) = some (if ended A c then 1 else 0) := by
      have := m_isEnded w8.1 w8.2.2.2.2.1 hc
      rw [e8, eA] at this
      exact this
    have ow8 : ∀ s, s < 2 → f_X11_owedNow t8 (nI (cHold c s)) = some (nI (bm (owU A u (cHold c s)) 16)) := fun s _ => m_owedU w8 (e8.trans eA) hT (cHold_lt hc) h35
    have my : ∀ s, s < 2 → f_X11_mayOf t8 (nI c) (nI s) = some (nI (bm (mayU A u c s) 16)) := fun s hs => by
      have := m_mayOf w8.1 w8.2.1 (ow := owU A u) hc hs (ow8 s hs)
      rw [e8, eA] at this
      exact this
    have my0 : f_X11_mayOf t8 (nI c) 0 = some (nI (bm (mayU A u c 0) 16)) := my 0 (by decide)
    have my1 : f_X11_mayOf t8 (nI c) 1 = some (nI (bm (mayU A u c 1) 16)) := my 1 (by decide)
    have wk : (fun j => wtU A (cs j) (us j)) k = wtU A c u := by
      show wtU A (cs k) (us k) = _
      rw [ec, eu]
    have sk : sumR (fun j => wtU A (cs j) (us j)) (k + 1) = sumR (fun j => wtU A (cs j) (us j)) k + wtU A c u := by rw [sumR, ec, eu]
    have wp := wtU_pos A c u
    rw [i8, bC_e]
    -- the next, when nothing was added
    have skip : ∀ (t9 : jS) (C9 : Nat → Bool), (∀ c' u', ¬ stp A c u c' u') → QT A (tdc A q) u0 n cs us t9 → (∀ i, i < 4096 → gI t9 29 i = bI (C9 i)) → (∀ i, C9 i = true ↔ C i = true ∨ ∃ j, j < k + 1 ∧ ended A (cs j) = true ∧ i = 256 * goal + lfU A (us j)) → cfr τ t9 → ∃ s' n', f_X11_carryOn_J201 t9 (nI e) (nI q) (nI k) = some (.inl s') ∧ n' < 60000 - k ∧ ∃ k' n, ∃ cs us : Nat → Nat, ∃ C' : Nat → Bool, s'.1 = nI k' ∧ n' = 60000 - k' ∧ k' ≤ n ∧ 0 < n ∧ cs 0 = tdc A q ∧ us 0 = u0 ∧ QT A (tdc A q) u0 n cs us s'.2 ∧ (∀ j, j < k' → ∀ c' u', stp A (cs j) (us j) c' u' → ∃ l, l < n ∧ cs l = c' ∧ us l = u') ∧ (∀ i, i < 4096 → gI s'.2 29 i = bI (C' i)) ∧ (∀ i, C' i = true ↔ C i = true ∨ ∃ j, j < k' ∧ ended A (cs j) = true ∧ i = 256 * goal + lfU A (us j)) ∧ sumR (fun j => wtU A (cs j) (us j)) n + k' ≤ 52002 + sumR (fun j => wtU A (cs j) (us j)) k' ∧ cfr τ s'.2 := by
      intro t9 C9 hns hq9 hc9 hc92 hf9
      refine ⟨(nI (k + 1), t9), 60000 - (k + 1), ?_, by omega, k + 1, n, cs, us, C9, rfl, rfl, by omega, n0, c0, u00, hq9, fun j hj c' u' hs => ?_, hc9, hc92, by rw [sk]; omega, hf9⟩
      · unfold f_X11_carryOn_J201
        rw [bV_e, nI_1]
      · by_cases y : j = k
        · subst y
          rw [ec, eu] at hs
          exact absurd hs (hns c' u')
        · exact hcl j (by omega) c' u' hs
    cases hE : ended A c with
    | true =>
      rw [if_pos rfl, if_neg (show ¬ (1 : Int32) = 0 by decide), eI, h35, show (256 : Int32) = nI 256 from rfl, nI_mul, nI_add, bG_t (jin_nI (by omega) (by omega)), ix_nI (by omega), bV_e]
      refine skip _ (fun i => C' i || i == 256 * goal + lfU A u) (fun c' u' hs => by rw [hs.1] at hE; cases hE) ⟨(gI_ne (by decide)).trans Q8.1, fun j hj => ?_⟩ (fun i hi => ?_) (fun i => ?_) (cfr_tr f8 (cfr_r (Or.inl rfl)))
      · obtain ⟨y1, y2, y3⟩ := Q8.2 j hj
        exact ⟨(gI_ne (by decide)).trans y1, (gI_ne (by decide)).trans y2, y3⟩
      · by_cases y : i = 256 * goal + lfU A u
        · subst y
          rw [gI_sI, beq_self_eq_true, Bool.or_true]; rfl
        · rw [gI_nei y, hC8 i hi, beq_eq_false_iff_ne.mpr y, Bool.or_false]
      · rw [Bool.or_eq_true, beq_iff_eq, hC2 i]
        constructor
        · rintro ((h | ⟨j, j1, j2⟩) | h)
          · exact Or.inl h
          · exact Or.inr ⟨j, by omega, j2⟩
          · exact Or.inr ⟨k, by omega, by rw [ec]; exact hE, by rw [eu]; exact h⟩
        · rintro (h | ⟨j, j1, j2, j3⟩)
          · exact Or.inl (Or.inl h)
          · by_cases y : j = k
            · subst y; rw [eu] at j3; exact Or.inr j3
            · exact Or.inl (Or.inr ⟨j, by omega, j2, j3⟩)
    | false =>
      have C2' : ∀ (cs' us' : Nat → Nat), (∀ j, j < n → cs' j = cs j ∧ us' j = us j) → ∀ i, C' i = true ↔ C i = true ∨ ∃ j, j < k + 1 ∧ ended A (cs' j) = true ∧ i = 256 * goal + lfU A (us' j) := fun cs' us' hsame i => by
        rw [hC2 i]
        constructor
        · rintro (h | ⟨j, j1, j2, j3⟩)
          · exact Or.inl h
          · exact Or.inr ⟨j, by omega, by rw [(hsame j (by omega)).1]; exact j2, by rw [(hsame j (by omega)).2]; exact j3⟩
        · rintro (h | ⟨j, j1, j2, j3⟩)
          · exact Or.inl h
          · by_cases y : j = k
            · subst y
              rw [(hsame j (by omega)).1, ec, hE] at j2; cases j2
            · exact Or.inr ⟨j, by omega, by rw [← (hsame j (by omega)).1]; exact j2, by rw [← (hsame j (by omega)).2]; exact j3⟩
      have n00 : ∀ m, m < 2 ^ 31 → m ≠ 0 → ¬ nI m = 0 := fun m hm h e => h ((nI_eq0 hm).mp e)
      rw [if_neg (show ¬ false = true by decide), if_pos rfl, my0, bC_e, my1]
      -- one who can go on
      have go : bm (mayU A u c 0) 16 ≠ 0 ∨ bm (mayU A u c 1) 16 ≠ 0 → ∃ s' n', f_X11_carryOn_J99 t8 (nI e) (nI q) (nI k) (nI c) = some (.inl s') ∧ n' < 60000 - k ∧ ∃ k' n, ∃ cs us : Nat → Nat, ∃ C' : Nat → Bool, s'.1 = nI k' ∧ n' = 60000 - k' ∧ k' ≤ n ∧ 0 < n ∧ cs 0 = tdc A q ∧ us 0 = u0 ∧ QT A (tdc A q) u0 n cs us s'.2 ∧ (∀ j, j < k' → ∀ c' u', stp A (cs j) (us j) c' u' → ∃ l, l < n ∧ cs l = c' ∧ us l = u') ∧ (∀ i, i < 4096 → gI s'.2 29 i = bI (C' i)) ∧ (∀ i, C' i = true ↔ C i = true ∨ ∃ j, j < k' ∧ ended A (cs j) = true ∧ i = 256 * goal + lfU A (us j)) ∧ sumR (fun j => wtU A (cs j) (us j)) n + k' ≤ 52002 + sumR (fun j => wtU A (cs j) (us j)) k' ∧ cfr τ s'.2 := by
        intro hany
        have close : ∀ (n' : Nat) (cs' us' : Nat → Nat) (t9 : jS), n ≤ n' → (∀ j, j < n → cs' j = cs j ∧ us' j = us j) → QT A (tdc A q) u0 n' cs' us' t9 → (∀ i, gI t9 29 i = gI t8 29 i) → cfr τ t9 → (∀ c' u', stp A c u c' u' → ∃ l, l < n' ∧ cs' l = c' ∧ us' l = u') → sumR (fun j => wtU A (cs' j) (us' j)) n' + 1 ≤ sumR (fun j => wtU A (cs j) (us j)) n + wtU A c u → ∃ n'' : Nat, n'' < 60000 - k ∧ ∃ k' n, ∃ cs us : Nat → Nat, ∃ C' : Nat → Bool, nI (k + 1) = nI k' ∧ n'' = 60000 - k' ∧ k' ≤ n ∧ 0 < n ∧ cs 0 = tdc A q ∧ us 0 = u0 ∧ QT A (tdc A q) u0 n cs us t9 ∧ (∀ j, j < k' → ∀ c' u', stp A (cs j) (us j) c' u' → ∃ l, l < n ∧ cs l = c' ∧ us l = u') ∧ (∀ i, i < 4096 → gI t9 29 i = bI (C' i)) ∧ (∀ i, C' i = true ↔ C i = true ∨ ∃ j, j < k' ∧ ended A (cs j) = true ∧ i = 256 * goal + lfU A (us j)) ∧ sumR (fun j => wtU A (cs j) (us j)) n + k' ≤ 52002 + sumR (fun j => wtU A (cs j) (us j)) k' ∧ cfr τ t9 := by
          intro n' cs' us' t9 hnn hsame hq9 h29' hf9 hst hsum
          have same : sumR (fun j => wtU A (cs' j) (us' j)) (k + 1) = sumR (fun j => wtU A (cs j) (us j)) (k + 1) := sumR_cong fun j hj => by
            show wtU A (cs' j) (us' j) = wtU A (cs j) (us j)
            rw [(hsame j (by omega)).1, (hsame j (by omega)).2]
          refine ⟨60000 - (k + 1), by omega, k + 1, n', cs', us', C', rfl, rfl, by omega, by omega, (hsame 0 n0).1.trans c0, (hsame 0 n0).2.trans u00, hq9, fun j hj c' u' hs => ?_, fun i hi => (h29' i).trans (hC8 i hi), C2' cs' us' hsame, by rw [same, sk]; omega, hf9⟩
          by_cases y : j = k
          · subst y
            rw [(hsame j (by omega)).1, (hsame j (by omega)).2, ec, eu] at hs
            exact hst c' u' hs
          · rw [(hsame j (by omega)).1, (hsame j (by omega)).2] at hs
            obtain ⟨l, l1, l2, l3⟩ := hcl j (by omega) c' u' hs
            exact ⟨l, by omega, by rw [(hsame l l1).1]; exact l2, by rw [(hsame l l1).2]; exact l3⟩
        unfold f_X11_carryOn_J99
        rw [m_side hc, bC_e, my _ s2, bC_e]
        by_cases m0 : bm (mayU A u c (cSide c)) 16 = 0
        · have other : bm (mayU A u c (1 - cSide c)) 16 ≠ 0 := by
            have : cSide c = 0 ∨ cSide c = 1 := by omega
            rcases this with y | y <;> rw [y] at m0 ⊢
            · rcases hany with h | h
              · exact absurd m0 h
              · exact h
            · rcases hany with h | h
              · exact h
              · exact absurd m0 h
          have hst0 : stp A c u (behP c) u := ⟨hE, hany, Or.inl ⟨m0, rfl, rfl⟩⟩
          obtain ⟨t9, b1, b2, b3, b4, b5⟩ := m_addQ Q8 (by omega) (behP_ok w oc) hu (by
            obtain ⟨m, hm⟩ := hr
            exact ⟨m + 1, c, u, hm, hst0⟩)
          have bP : f_X11_behind t8 (nI c) (-1) = some (nI (behP c)) := m_behindP hc (by decide)
          have cnt0 : fa_cnt (mayU A u c (cSide c)) 16 = 0 := by
            rw [← cnt_false 16]
            exact fa_cnt_cong fun p hp => bm_zero.mp m0 p hp
          obtain ⟨n', cs', us', t10, d1, d2, d3, d4, d5, d6, d7, d8⟩ := m_hands (e := e) (q := q) (k := k) hW eA w hT (cfr_tr f8 b3) b2 (b5.trans h35) oc hu hE hany hr (fun m hm => by omega) (by omega)
          have sm1 : sumR (fun j => wtU A (up1 cs n (behP c) j) (up1 us n u j)) (n + 1) = sumR (fun j => wtU A (cs j) (us j)) n + wtU A (behP c) u := by
            rw [sumR, up1_at, up1_at]
            congr 1
            exact sumR_cong fun j hj => by
              show wtU A (up1 cs _ _ j) (up1 us _ _ j) = wtU A (cs j) (us j)
              rw [up1_ne (by omega), up1_ne (by omega)]
          have wps := wt_pass hc m0 other
          have fin := close n' cs' us' t10 (by omega) (fun j hj => by
            rw [(d4 j (by omega)).1, (d4 j (by omega)).2, up1_ne (by omega), up1_ne (by omega)]
            exact ⟨rfl, rfl⟩) d2 (fun i => (d8 i).trans (b4 i)) d7 (fun c' u' hs => by
            obtain ⟨_, _, ⟨_, rfl, rfl⟩ | ⟨tt, t1', t2', t3', t4', _⟩⟩ := hs
            · exact ⟨n, by omega, by rw [(d4 n (by omega)).1, up1_at], by rw [(d4 n (by omega)).2, up1_at]⟩
            · have := bm_zero.mp m0 (A 3 tt) (by have := (w.2.2.2.1 tt t1').1; omega)
              rw [this] at t4'; cases t4') (by rw [cnt0, Nat.zero_mul, sm1] at d5; omega)
          obtain ⟨n'', g1, g2⟩ := fin
          rw [if_pos (show nI _ = 0 from congrArg nI m0), bP, bC_e, h35, b1, bD_e, d1]
          exact ⟨_, n'', rfl, g1, g2⟩
        · have mo := may_opt (u := u) (c := c) (s := cSide c) w
          have o8 := Nat.le_trans (optU_le (A := A) (u := u) (h := cHold c (cSide c))) (Nat.le_trans (fa_cnt_le _ _) hT)
          obtain ⟨n', cs', us', t10, d1, d2, d3, d4, d5, d6, d7, d8⟩ := m_hands (e := e) (q := q) (k := k) hW eA w hT f8 Q8 h35 oc hu hE hany hr (fun m hm => by omega) (by omega)
          have wdef : wtU A c u = 1 + optU A u (cHold c (cSide c)) * KB (remU A u) (optU A u (cHold c (cSide c))) := by
            unfold wtU
            rw [if_pos m0]
          have mm := Nat.mul_le_mul_right (KB (remU A u) (optU A u (cHold c (cSide c)))) mo
          obtain ⟨n'', g1, g2⟩ := close n' cs' us' t10 d3 d4 d2 d8 d7 (fun c' u' hs => by
            obtain ⟨_, _, ⟨y, _, _⟩ | ⟨tt, t1', t2', t3', t4', rfl, rfl⟩⟩ := hs
            · exact absurd y m0
            · exact d6 tt t1' t2' t3' t4') (by omega)
          rw [if_neg (n00 _ (bm16 _) m0), d1]
          exact ⟨_, n'', rfl, g1, g2⟩
      by_cases m0 : bm (mayU A u c 0) 16 = 0
      · rw [if_pos (show nI _ = 0 from congrArg nI m0), bC_e]
        by_cases m1 : bm (mayU A u c 1) 16 = 0
        · rw [if_pos (show nI _ = 0 from congrArg nI m1)]
          exact skip t8 C' (fun c' u' hs => by
            rcases hs.2.1 with h | h
            · exact h m0
            · exact h m1) Q8 hC8 (C2' cs us (fun _ _ => ⟨rfl, rfl⟩)) f8
        · rw [if_neg (n00 _ (bm16 _) m1)]
          exact go (Or.inr m1)
      · rw [if_neg (n00 _ (bm16 _) m0)]
        exact go (Or.inl m0)
