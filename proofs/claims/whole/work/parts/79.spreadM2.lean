/-! the reference spreads: all of it -/
theorem m_may {τ : jS} {A : Tb} (hM : WM τ) (eA : mn τ = A) {c s : Nat} (hc : c < 147968) (hs : s < 2) : f_X11_mayOf τ (nI c) (nI s) = some (nI (mayS A c s)) := by
  subst eA
  exact m_mayOf hM.1 hM.2.1 hc hs (ow_now hM.1 hM.2.2.2.1 hM.2.2.2.2.2.2 hc s hs)
theorem mayP_lt {A : Tb} {c s p : Nat} (h : mayP A c s p = true) : p < tP A := by
  unfold mayP at h
  simp only [Bool.and_eq_true, decide_eq_true_eq] at h
  exact h.1.1.1.1
theorem mayS_ne {A : Tb} {c s : Nat} (h : mayS A c s ≠ 0) : ¬ nI (mayS A c s) = 0 := fun e => h ((nI_eq0 (bm16 _)).mp e)
theorem m_spread {k : Nat} {τ : jS} {A : Tb} {past c0 : Nat} (hM : WM τ) (eA : mn τ = A) (hp2 : past < 2) (oc0 : okc A c0) (sm : sM k τ) : ∃ n W L wh tg τ', f_X11_spread τ (nI c0) (nI past) = some ((), τ') ∧ MS A past c0 n W n L wh tg τ' ∧ kfr τ τ' := by
  have w : wA A := by rw [← eA]; exact wA_of hM.1 hM.2.2.1
  obtain ⟨⟨_, n0, n1, n2, n3, n4⟩, _⟩ := sm
  have main : ∀ t, kfr τ t → (∀ c, c < 147968 → gI t 18 c = 0) → ∃ n W L wh tg τ', f_X11_spread_J28 t (nI c0) (nI past) = some ((), τ') ∧ MS A past c0 n W n L wh tg τ' ∧ kfr τ τ' := by
    intro t kt z18
    have c14 := oc0.1
    unfold f_X11_spread_J28 f_X11_reach f_X11_reach_J59 f_X11_reach_J132
    rw [bV_e, bV_e, bG_t (jin_nI c14 (by omega)), ix_nI (by omega), gI_ne (show (18 : Nat) ≠ 1 by decide), gI_ne (show (18 : Nat) ≠ 1 by decide), if_pos (z18 c0 c14), gI_nei (show (39 : Nat) ≠ 44 by decide), gI_sI, bG_t (show jin 0 147968 = true from jin_nI (n := 0) (by decide) (by decide)), bV_e, gI_ne (show (1 : Nat) ≠ 19 by decide), gI_nei (show (39 : Nat) ≠ 44 by decide), gI_sI, bG_t (show jin 0 147968 = true from jin_nI (n := 0) (by decide) (by decide)), bV_e, gI_ne (show (1 : Nat) ≠ 20 by decide), gI_ne (show (1 : Nat) ≠ 19 by decide), gI_nei (show (39 : Nat) ≠ 44 by decide), gI_sI, bG_t (show jin 0 147968 = true from jin_nI (n := 0) (by decide) (by decide)), bV_e, gI_ne (show (1 : Nat) ≠ 21 by decide), gI_ne (show (1 : Nat) ≠ 20 by decide), gI_ne (show (1 : Nat) ≠ 19 by decide), gI_nei (show (39 : Nat) ≠ 44 by decide), gI_sI, bV_e, bG_t (jin_nI c14 (by omega)), gI_sI, bV_e, if_pos (show (-1 : Int32) < 0 by decide), bD_e]
    generalize es : sI (sI (sI (sI (sI (sI (sI t 1 39 0) 1 44 0) 19 (ix 0) (nI c0)) 20 (ix 0) (-1)) 21 (ix 0) 0) 1 39 (0 + 1)) 18 c0 (0 + 1) = s
    have ix0 : ix 0 = 0 := ix_nI (n := 0) (by decide)
    rw [ix0] at es
    have o18 : ∀ j, gI s 18 j = if j = c0 then nI 1 else gI t 18 j := fun j => by
      rw [← es]
      by_cases y : j = c0
      · subst y; rw [gI_sI, if_pos rfl]; rfl
      · rw [gI_nei y, if_neg y, gI_ne (by decide), gI_ne (by decide), gI_ne (by decide), gI_ne (by decide), gI_ne (by decide), gI_ne (by decide)]
    have ks : kfr τ s := by
      rw [← es]
      exact kfr_tr kt (kfr_tr (kfr_tr (kfr_tr (kfr_tr (kfr_tr (kfr_tr (kfr_1 (by decide)) (kfr_1 (by decide))) (kfr_r (by decide))) (kfr_r (by decide))) (kfr_r (by decide))) (kfr_1 (by decide))) (kfr_r (by decide)))
    have S0 : MS A past c0 1 0 0 (fun _ => c0) (fun _ => 0) (fun _ => 0) s := by
      refine ⟨⟨?_, ?_, by decide, rfl⟩, fun j hj => ⟨oc0, ?_, ?_⟩, fun j l hj hl _ => by omega, fun c' hc' hn => ?_, fun v hv => absurd hv (Nat.not_lt_zero v), fun j hj => ⟨?_, ?_⟩, fun u v hu => absurd hu (Nat.not_lt_zero u), fun j c' hj => absurd hj (Nat.not_lt_zero j), fun j h0 hj => by omega, by decide⟩
      · rw [← es, gI_ne (by decide), gI_sI]; rfl
      · rw [← es, gI_ne (by decide), gI_nei (by decide), gI_ne (by decide), gI_ne (by decide), gI_ne (by decide), gI_sI]; rfl
      · have : j = 0 := by omega
        subst this
        rw [← es, gI_ne (by decide), gI_ne (by decide), gI_ne (by decide), gI_ne (by decide), gI_sI]
      · have : j = 0 := by omega
        subst this
        rw [o18, if_pos rfl]
      · rw [o18, if_neg (fun e => hn 0 (by decide) e.symm)]; exact z18 c' hc'
      · have : j = 0 := by omega
        subst this
        rw [← es, gI_ne (by decide), gI_ne (by decide), gI_ne (by decide), gI_sI]; rfl
      · have : j = 0 := by omega
        subst this
        rw [← es, gI_ne (by decide), gI_ne (by decide), gI_sI]; rfl
    have key := jloop_inv (f := fun s => f_X11_spread_B46 s.2 (nI past) s.1) (fun mz u => ∃ i n W L wh tg, u.1 = nI i ∧ i ≤ n ∧ mz = 6272 - i ∧ MS A past c0 n W i L wh tg u.2 ∧ W ≤ 17 * i ∧ (∀ v, v < W → wh v < i) ∧ kfr τ u.2) (fun (o : Unit × jS) => ∃ n W L wh tg, MS A past c0 n W n L wh tg o.2 ∧ kfr τ o.2) ?_ jFuel 6272 (0, s) ⟨0, 1, 0, _, _, _, rfl, Nat.zero_le _, rfl, S0, Nat.zero_le _, fun v hv => absurd hv (Nat.not_lt_zero v), ks⟩ (jfuel_big (by omega))
    · obtain ⟨o, o1, n, W, L, wh, tg, o2⟩ := key
      exact ⟨n, W, L, wh, tg, o.2, o1, o2⟩
    · rintro mz ⟨ti, u⟩ ⟨i, n, W, L, wh, tg, rfl, il, rfl, hS, hW, hwh, ku⟩
      replace hS : MS A past c0 n W i L wh tg u := hS
      replace ku : kfr τ u := ku
      have n6 := hS.2.2.2.2.2.2.2.2.2
      show (∃ s' n', f_X11_spread_B46 u (nI past) (nI i) = _ ∧ _) ∨ (∃ o, f_X11_spread_B46 u (nI past) (nI i) = _ ∧ _)
      rcases Nat.lt_or_ge i n with z | z
      case inr =>
        right
        have : i = n := by omega
        subst this
        unfold f_X11_spread_B46 f_X11_spread_J184
        rw [hS.1.1, if_pos (Int32.le_refl _), jw_e]
        exact ⟨_, rfl, i, W, L, wh, tg, hS, ku⟩
      left
      have oc := (hS.2.1 i z).1
      have cl := oc.1
      have hMu := (mS_W (kfr_mS ku) hM).1
      have eAu : mn u = A := (mS_W (kfr_mS ku) hM).2.trans eA
      -- closing the i-th
      have close : ∀ n' W' L' wh' tg' t', MS A past c0 n' W' i L' wh' tg' t' → n ≤ n' → (∀ j, j < n → L' j = L j) → W' ≤ 17 * i + 17 → (∀ c', scM A past (L i) c' = true → ∃ v, v < W' ∧ wh' v = i ∧ L' (tg' v) = c') → kfr τ t' → ∃ (s' : Int32 × jS) (n' : Nat), (some (Sum.inl (nI (i + 1), t')) : Option ((Int32 × jS) ⊕ (Unit × jS))) = some (Sum.inl s') ∧ n' < 6272 - i ∧ ∃ i n W L wh tg, s'.1 = nI i ∧ i ≤ n ∧ n' = 6272 - i ∧ MS A past c0 n W i L wh tg s'.2 ∧ W ≤ 17 * i ∧ (∀ v, v < W → wh v < i) ∧ kfr τ s'.2 := by
        intro n' W' L' wh' tg' t' ⟨m1, m2, m3, m4, m5, m6, m7, m8, m9, m10⟩ hn hL hW' hcl hk
        refine ⟨(nI (i + 1), t'), 6272 - (i + 1), rfl, by omega, i + 1, n', W', L', wh', tg', rfl, by omega, rfl, ⟨m1, m2, m3, m4, fun v hv => ?_, m6, m7, fun j c' hj hj2 hs => ?_, m9, m10⟩, by omega, fun v hv => by have := (m5 v hv).1; omega, hk⟩
        · obtain ⟨v1, v2⟩ := m5 v hv
          exact ⟨by omega, v2⟩
        · by_cases q : j = i
          · subst q
            rw [hL j z] at hs
            exact hcl c' hs
          · exact m8 j c' (by omega) hj2 hs
      have nocl : spr A past (L i) = false → ∀ c', scM A past (L i) c' = true → False := fun h c' hc' => by
        have := (scM_iff.mp hc').1
        rw [h] at this; cases this
      -- the persons
      have J137 : ∀ n1 W1 L1 wh1 tg1 t1, MS A past c0 n1 W1 i L1 wh1 tg1 t1 → n ≤ n1 → (∀ j, j < n → L1 j = L j) → W1 ≤ 17 * i + 1 → spr A past (L i) = true → (∀ v, v < W1 → wh1 v = i → mayS A (L i) (cSide (L i)) = 0) → (mayS A (L i) (cSide (L i)) = 0 → ∃ v, v < W1 ∧ wh1 v = i ∧ L1 (tg1 v) = behP (L i)) → kfr τ t1 → ∃ n' W' L' wh' tg' t', f_X11_spread_J137 t1 (nI past) (nI i) (nI (L i)) (nI (mayS A (L i) (cSide (L i)))) = some (Sum.inl (nI (i + 1), t')) ∧ MS A past c0 n' W' i L' wh' tg' t' ∧ n ≤ n' ∧ (∀ j, j < n → L' j = L j) ∧ W' ≤ 17 * i + 17 ∧ (∀ c', scM A past (L i) c' = true → ∃ v, v < W' ∧ wh' v = i ∧ L' (tg' v) = c') ∧ kfr τ t' := by
        intro n1 W1 L1 wh1 tg1 t1 h1 h2 h3 h4 h5 h6 h7 h8
        have hP16 := w.1
        unfold f_X11_spread_J137
        have key := jloop_ex (S := Int32 × jS) (O := (Int32 × jS) ⊕ (Unit × jS)) (f := fun s => f_X11_spread_B140 s.2 (nI past) (nI i) (nI (L i)) (nI (mayS A (L i) (cSide (L i)))) s.1) (fun p s => s.1 = nI p ∧ ∃ n1 W1 L1 wh1 tg1, MS A past c0 n1 W1 i L1 wh1 tg1 s.2 ∧ n ≤ n1 ∧ (∀ j, j < n → L1 j = L j) ∧ W1 ≤ 17 * i + 1 + p ∧ (∀ v, v < W1 → wh1 v = i → mayS A (L i) (cSide (L i)) = 0 ∨ ∃ q, q < p ∧ mayP A (L i) (cSide (L i)) q = true ∧ L1 (tg1 v) = behQ A (L i) q) ∧ (mayS A (L i) (cSide (L i)) = 0 → ∃ v, v < W1 ∧ wh1 v = i ∧ L1 (tg1 v) = behP (L i)) ∧ (∀ q, q < p → mayP A (L i) (cSide (L i)) q = true → ∃ v, v < W1 ∧ wh1 v = i ∧ L1 (tg1 v) = behQ A (L i) q) ∧ kfr τ s.2) (tP A) (fun o => ∃ n' W' L' wh' tg' t', o = Sum.inl (nI (i + 1), t') ∧ MS A past c0 n' W' i L' wh' tg' t' ∧ n ≤ n' ∧ (∀ j, j < n → L' j = L j) ∧ W' ≤ 17 * i + 17 ∧ (∀ c', scM A past (L i) c' = true → ∃ v, v < W' ∧ wh' v = i ∧ L' (tg' v) = c') ∧ kfr τ t') (s0 := (0, t1)) ⟨rfl, n1, W1, L1, wh1, tg1, h1, h2, h3, by omega, fun v hv e => Or.inl (h6 v hv e), h7, fun q hq => absurd hq (Nat.not_lt_zero q), h8⟩ (jfuel_big (by omega)) ?_ ?_
        · obtain ⟨o, o1, n', W', L', wh', tg', t', rfl, o2⟩ := key
          exact ⟨n', W', L', wh', tg', t', o1, o2⟩
        · rintro ⟨a, s⟩ ⟨rfl, n2, W2, L2, wh2, tg2, q1, q2, q3, q4, q5, q6, q7, q8⟩
          replace q8 : kfr τ s := q8
          have hMs := (mS_W (kfr_mS q8) hM).1
          have eAs : mn s = A := (mS_W (kfr_mS q8) hM).2.trans eA
          refine ⟨Sum.inl (nI (i + 1), s), ?_, n2, W2, L2, wh2, tg2, s, rfl, q1, q2, q3, by omega, fun c' hc' => ?_, q8⟩
          · show f_X11_spread_B140 s (nI past) (nI i) (nI (L i)) _ (nI (tP A)) = _
            unfold f_X11_spread_B140 f_X11_spread_J178
            rw [hMs.1.1.1, eAs, if_pos (Int32.le_refl _), bV_e, nI_1, jw_e]
          · obtain ⟨_, ⟨x, rfl⟩ | ⟨p, p1, p2, rfl⟩⟩ := scM_iff.mp hc'
            · exact q6 x
            · exact q7 p (mayP_lt p2) p2
        · rintro p ⟨a, s⟩ hp ⟨rfl, n2, W2, L2, wh2, tg2, q1, q2, q3, q4, q5, q6, q7, q8⟩
          replace q8 : kfr τ s := q8
          replace q1 : MS A past c0 n2 W2 i L2 wh2 tg2 s := q1
          have hMs := (mS_W (kfr_mS q8) hM).1
          have eAs : mn s = A := (mS_W (kfr_mS q8) hM).2.trans eA
          refine Or.inl ?_
          show ∃ s', f_X11_spread_B140 s (nI past) (nI i) (nI (L i)) (nI (mayS A (L i) (cSide (L i)))) (nI p) = _ ∧ _
          unfold f_X11_spread_B140 f_X11_spread_J172
          rw [hMs.1.1.1, eAs, if_neg (nI_ge hp (by omega)), show mayS A (L i) (cSide (L i)) = bm (mayP A (L i) (cSide (L i))) 16 from rfl]
          cases hm : mayP A (L i) (cSide (L i)) p with
          | false =>
            rw [m_hasF (by decide) (by omega) hm, bC_e, if_pos rfl, bV_e, nI_1]
            refine ⟨_, rfl, rfl, n2, W2, L2, wh2, tg2, q1, q2, q3, by omega, fun v hv e => ?_, q6, fun q hq hq2 => ?_, q8⟩
            · rcases q5 v hv e with y | ⟨q, y1, y2⟩
              · exact Or.inl y
              · exact Or.inr ⟨q, by omega, y2⟩
            · by_cases y : q = p
              · subst y; rw [hm] at hq2; cases hq2
              · exact q7 q (by omega) hq2
          | true =>
            have hne : mayS A (L i) (cSide (L i)) ≠ 0 := fun e => by
              have := bm_zero.mp e p (by omega)
              rw [hm] at this; cases this
            have hcc : scM A past (L2 i) (behQ A (L i) p) = true := by
              rw [q3 i z]
              exact scM_iff.mpr ⟨h5, Or.inr ⟨p, by omega, hm, rfl⟩⟩
            obtain ⟨n3, L3, tg3, wh3, s3, r1, r2, r3, r4, r5, r6, r7, r8⟩ := m_reach w q1 (show i < n2 by omega) (by omega) hcc (fun v hv e e2 => by
              rcases q5 v hv e with y | ⟨q, y1, y2, y3⟩
              · exact hne y
              · rw [y3] at e2
                have := behQ_inj w oc y2 hm e2
                omega)
            have bq := m_behindQ hMs.1 (c := L i) (q := p) cl (by omega)
            rw [eAs] at bq
            rw [m_hasT (by decide) (by omega) hm, bC_e, if_neg (show ¬ (1 : Int32) = 0 by decide), bq, bC_e, r1, bD_e, bV_e, nI_1]
            refine ⟨_, rfl, rfl, n3, W2 + 1, L3, wh3, tg3, r2, by omega, fun j hj => (r4 j (by omega)).trans (q3 j hj), by omega, fun v hv e => ?_, fun y => absurd y hne, fun q hq hq2 => ?_, kfr_tr q8 r8⟩
            · by_cases y : v = W2
              · subst y; exact Or.inr ⟨p, by omega, hm, r7⟩
              · obtain ⟨y1, y2⟩ := r5 v (by omega)
                rw [y1] at e
                rcases q5 v (by omega) e with x | ⟨q, x1, x2, x3⟩
                · exact Or.inl x
                · refine Or.inr ⟨q, by omega, x2, ?_⟩
                  rw [y2, r4 _ (q1.2.2.2.2.1 v (by omega)).2.2.1]; exact x3
            · by_cases y : q = p
              · subst y; exact ⟨W2, by omega, r6, r7⟩
              · obtain ⟨v, v1, v2, v3⟩ := q7 q (by omega) hq2
                obtain ⟨y1, y2⟩ := r5 v v1
                exact ⟨v, by omega, y1.trans v2, by rw [y2, r4 _ (q1.2.2.2.2.1 v v1).2.2.1]; exact v3⟩
      have J107 : spr A past (L i) = true → ∃ (s' : Int32 × jS) (n' : Nat), f_X11_spread_J107 u (nI past) (nI i) (nI (L i)) = some (Sum.inl s') ∧ n' < 6272 - i ∧ ∃ i n W L wh tg, s'.1 = nI i ∧ i ≤ n ∧ n' = 6272 - i ∧ MS A past c0 n W i L wh tg s'.2 ∧ W ≤ 17 * i ∧ (∀ v, v < W → wh v < i) ∧ kfr τ s'.2 := by
        intro hsp
        have s2 := cSide_lt (L i)
        unfold f_X11_spread_J107
        rw [m_side cl, bC_e, m_may hMu eAu cl s2, bC_e]
        by_cases y : mayS A (L i) (cSide (L i)) = 0
        · rw [if_pos (show nI _ = 0 from congrArg nI y), m_behindP cl (by decide), bC_e]
          obtain ⟨n3, L3, tg3, wh3, s3, r1, r2, r3, r4, r5, r6, r7, r8⟩ := m_reach w hS z (by omega) (scM_iff.mpr ⟨hsp, Or.inl ⟨y, rfl⟩⟩) (fun v hv e => by have := hwh v hv; omega)
          obtain ⟨n', W', L', wh', tg', t', x1, x2, x3, x4, x5, x6, x7⟩ := J137 n3 (W + 1) L3 wh3 tg3 s3 r2 r3 r4 (by omega) hsp (fun _ _ _ => y) (fun _ => ⟨W, by omega, r6, r7⟩) (kfr_tr ku r8)
          rw [r1, bD_e, x1]
          exact close n' W' L' wh' tg' t' x2 x3 x4 x5 x6 x7
        · rw [if_neg (mayS_ne y)]
          obtain ⟨n', W', L', wh', tg', t', x1, x2, x3, x4, x5, x6, x7⟩ := J137 n W L wh tg u hS (Nat.le_refl _) (fun _ _ => rfl) (by omega) hsp (fun v hv e => by have := hwh v hv; omega) (fun e => absurd e y) ku
          rw [x1]
          exact close n' W' L' wh' tg' t' x2 x3 x4 x5 x6 x7
      have J178 : spr A past (L i) = false → ∃ (s' : Int32 × jS) (n' : Nat), f_X11_spread_J178 u (nI past) (nI i) = some (Sum.inl s') ∧ n' < 6272 - i ∧ ∃ i n W L wh tg, s'.1 = nI i ∧ i ≤ n ∧ n' = 6272 - i ∧ MS A past c0 n W i L wh tg s'.2 ∧ W ≤ 17 * i ∧ (∀ v, v < W → wh v < i) ∧ kfr τ s'.2 := by
        intro hsp
        unfold f_X11_spread_J178
        rw [bV_e, nI_1]
        exact close n W L wh tg u hS (Nat.le_refl _) (fun _ _ => rfl) (by omega) (fun c' hc' => (nocl hsp c' hc').elim) ku
      have J87 : (mayS A (L i) 0 ≠ 0 ∨ mayS A (L i) 1 ≠ 0) → ∃ (s' : Int32 × jS) (n' : Nat), f_X11_spread_J87 u (nI past) (nI i) (nI (L i)) 0 = some (Sum.inl s') ∧ n' < 6272 - i ∧ ∃ i n W L wh tg, s'.1 = nI i ∧ i ≤ n ∧ n' = 6272 - i ∧ MS A past c0 n W i L wh tg s'.2 ∧ W ≤ 17 * i ∧ (∀ v, v < W → wh v < i) ∧ kfr τ s'.2 := by
        intro hne
        have hn : (decide (mayS A (L i) 0 = 0) && decide (mayS A (L i) 1 = 0)) = false := by
          rcases hne with q | q
          · rw [decide_eq_false q]; rfl
          · rw [decide_eq_false q, Bool.and_false]
        unfold f_X11_spread_J87
        rw [if_pos rfl]
        have : past = 0 ∨ past = 1 := by omega
        rcases this with q | q
        · rw [if_pos (show nI past = 0 from congrArg nI q), m_isEnded hMu.1 hMu.2.2.2.2.1 cl, eAu, bC_e]
          cases he : ended A (L i) with
          | true =>
            rw [if_neg (show ¬ (if true = true then (1 : Int32) else 0) = 0 by decide)]
            exact J178 (by unfold spr; rw [hn, he, q]; rfl)
          | false =>
            rw [if_pos (show (if false = true then (1 : Int32) else 0) = 0 by decide)]
            exact J107 (by unfold spr; rw [hn, he]; simp)
        · rw [if_neg (show ¬ nI past = 0 by rw [q]; decide)]
          exact J107 (by unfold spr; rw [hn, q]; rfl)
      unfold f_X11_spread_B46 f_X11_spread_J86
      rw [hS.1.1, if_neg (nI_ge z (by omega)), bG_t (jin_nI (by omega) (by omega)), ix_nI (by omega), (hS.2.1 i z).2.1, bV_e, show f_X11_mayOf u (nI (L i)) 0 = some (nI (mayS A (L i) 0)) from m_may hMu eAu cl (by decide), bC_e, show f_X11_mayOf u (nI (L i)) 1 = some (nI (mayS A (L i) 1)) from m_may hMu eAu cl (by decide), bC_e]
      by_cases y0 : mayS A (L i) 0 = 0
      · rw [if_pos (show nI _ = 0 from congrArg nI y0)]
        by_cases y1 : mayS A (L i) 1 = 0
        · rw [if_pos (show nI _ = 0 from congrArg nI y1)]
          unfold f_X11_spread_J87
          rw [if_neg (show ¬ (1 : Int32) = 0 by decide)]
          exact J178 (by unfold spr; rw [y0, y1]; rfl)
        · rw [if_neg (mayS_ne y1)]
          exact J87 (Or.inr y1)
      · rw [if_neg (mayS_ne y0)]
        exact J87 (Or.inl y0)
  unfold f_X11_spread
  have key := jloop_ex (S := Int32 × jS) (O := Unit × jS) (f := fun s => f_X11_spread_B2 s.2 (nI c0) (nI past) s.1) (fun i s => s.1 = nI i ∧ fr [18] τ s.2 ∧ ∀ c, c < 147968 → gI s.2 18 c = 0 ∨ ∃ j, i ≤ j ∧ j < n0 ∧ gI τ 19 j = nI c) n0 (fun o => ∃ n W L wh tg, MS A past c0 n W n L wh tg o.2 ∧ kfr τ o.2) (s0 := (0, τ)) ⟨rfl, fr_rfl _ _, fun c hc => ?_⟩ (jfuel_big (by omega)) ?_ ?_
  · obtain ⟨o, o1, n, W, L, wh, tg, o2⟩ := key
    exact ⟨n, W, L, wh, tg, o.2, o1, o2⟩
  · rcases n4 c hc with z | ⟨j, j1, j2⟩
    · exact Or.inl z
    · exact Or.inr ⟨j, Nat.zero_le _, j1, j2⟩
  · rintro ⟨a, s⟩ ⟨rfl, f, hh⟩
    replace f : fr [18] τ s := f
    replace hh : ∀ c, c < 147968 → gI s 18 c = 0 ∨ ∃ j, n0 ≤ j ∧ j < n0 ∧ gI τ 19 j = nI c := hh
    have ks : kfr τ s := fun a i p q => fr_I f (by unfold kH at p; simp at p ⊢; omega) i
    obtain ⟨n, W, L, wh, tg, τ', r1, r2⟩ := main s ks (fun c hc => by
      rcases hh c hc with z | ⟨j, j1, j2, _⟩
      · exact z
      · omega)
    refine ⟨((), τ'), ?_, n, W, L, wh, tg, r2⟩
    show f_X11_spread_B2 s (nI c0) (nI past) (nI n0) = _
    unfold f_X11_spread_B2
    rw [fr_I f (by decide), n2, if_pos (Int32.le_refl _), r1, jw_e]
  · rintro i ⟨a, s⟩ hi ⟨rfl, f, hh⟩
    replace f : fr [18] τ s := f
    replace hh : ∀ c, c < 147968 → gI s 18 c = 0 ∨ ∃ j, i ≤ j ∧ j < n0 ∧ gI τ 19 j = nI c := hh
    obtain ⟨c, c1, c2⟩ := n3 i hi
    refine Or.inl ⟨(nI (i + 1), sI s 18 c 0), ?_, rfl, fr_trans f (fr_sI _ _ _ (by decide)), fun c' hc' => ?_⟩
    · show f_X11_spread_B2 s (nI c0) (nI past) (nI i) = _
      unfold f_X11_spread_B2
      rw [fr_I f (by decide), n2, if_neg (nI_ge hi (by omega)), bG_t (jin_nI (by omega) (by omega)), ix_nI (by omega), fr_I f (by decide), c2, bG_t (jin_nI c1 (by omega)), ix_nI (by omega), bV_e, bV_e, nI_1]
    · show gI (sI s 18 c 0) 18 c' = 0 ∨ _
      by_cases z : c' = c
      · subst z; exact Or.inl (gI_sI _ _ _ _)
      · rw [gI_nei z]
        rcases hh c' hc' with y | ⟨j, j1, j2, j3⟩
        · exact Or.inl y
        · refine Or.inr ⟨j, ?_, j2, j3⟩
          rcases Nat.lt_or_ge i j with t | t
          · omega
          · have : j = i := by omega
            subst this
            rw [c2] at j3
            have := (nI_eq (by omega) (by omega)).mp j3
            exact absurd this.symm z
