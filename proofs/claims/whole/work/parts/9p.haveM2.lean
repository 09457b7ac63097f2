/-! have: the reference, whole -/
def HL (A : Tb) (F : Nat → Nat → Bool) (c0 k N : Nat) (L : Nat → Nat) (τ : jS) : Prop := N ≤ 147968 ∧ gI τ 1 63 = nI N ∧ (∀ j, j < N → gI τ 37 j = nI (L j) ∧ okc A (L j) ∧ LYR A F c0 k (L j)) ∧ ∀ c, LYR A F c0 k c → ∃ j, j < N ∧ L j = c
theorem nowG_f {A : Tb} {c : Nat} : nowG A (owes A) c = bm (fun q => decide (stN A c = 0) && mayP A c (cSide c) q) 16 := by
  unfold nowG
  rw [stG_owes]
  by_cases z : stN A c = 0
  · rw [if_pos z]
    exact bm_cong fun q _ => by rw [decide_eq_true z, Bool.true_and]; rfl
  · rw [if_neg z]
    exact (bm_zero.mpr fun q _ => by rw [decide_eq_false z, Bool.false_and]).symm
section HN
variable {A : Tb} {sa sb sc : Nat → Nat} {n : Nat}
theorem m_nextLay {τ : jS} {k st c0 N : Nat} {L : Nat → Nat} (hM : WM τ) (eA : mn τ = A) (w : wA A) (hs : seM sa sb sc n τ) (hk : k + 1 ≤ 40) (hL : HL A (fitC sa sb sc n) c0 k N L τ) (h68 : gI τ 1 68 = nI st) (h39 : ∀ c, c < 147968 → ∃ v, v ≤ st ∧ gI τ 39 c = nI v) (st31 : st + 1 < 2 ^ 31) : ∃ N' L' τ', f_X11_nextLay τ (nI (k + 1)) = some ((), τ') ∧ hfr τ τ' ∧ HL A (fitC sa sb sc n) c0 (k + 1) N' L' τ' ∧ gI τ' 1 68 = nI (st + 1) ∧ ∀ c, c < 147968 → ∃ v, v ≤ st + 1 ∧ gI τ' 39 c = nI v := by
  obtain ⟨l1, l2, l3, l4⟩ := hL
  unfold f_X11_nextLay
  rw [h68, nI_1, bV_e, bV_e]
  generalize es : sI (sI τ 1 68 (nI (st + 1))) 1 66 0 = s
  have fs : hfr τ s := by
    rw [← es]
    exact hfr_tr (hfr_1 (by decide)) (hfr_1 (by decide))
  have s39 : ∀ c, gI s 39 c = gI τ 39 c := fun c => by rw [← es, gI_ne (by decide), gI_ne (by decide)]
  have base : LO A (fitC sa sb sc n (k + 1)) (st + 1) (fun c => ∃ c', LYR A (fitC sa sb sc n) c0 k c' ∧ nxt A c' c) (fun c => ∃ j, j < 0 ∧ nxt A (L j) c) 0 (fun _ => 0) s := by
    refine ⟨by rw [← es, gI_nei (by decide), gI_sI], by rw [← es, gI_sI]; rfl, fun j hj => absurd hj (Nat.not_lt_zero j), fun i j hi => absurd hi (Nat.not_lt_zero i), fun c hc he => ?_, fun c hc => ?_, fun c hx _ => ?_⟩
    · rw [s39] at he
      obtain ⟨v, v1, v2⟩ := h39 c hc
      rw [v2] at he
      have := (nI_eq (by omega) (by omega)).mp he
      omega
    · rw [s39]
      obtain ⟨v, v1, v2⟩ := h39 c hc
      exact ⟨v, by omega, v2⟩
    · obtain ⟨j, hj, _⟩ := hx
      exact absurd hj (Nat.not_lt_zero j)
  have key := jloop_ex (S := Int32 × jS) (O := Unit × jS) (f := fun s => f_X11_nextLay_B17 s.2 (nI (k + 1)) s.1) (fun i t => t.1 = nI i ∧ hfr τ t.2 ∧ (∀ j, gI t.2 37 j = gI τ 37 j) ∧ gI t.2 1 63 = gI τ 1 63 ∧ ∃ N' L', LO A (fitC sa sb sc n (k + 1)) (st + 1) (fun c => ∃ c', LYR A (fitC sa sb sc n) c0 k c' ∧ nxt A c' c) (fun c => ∃ j, j < i ∧ nxt A (L j) c) N' L' t.2) N (fun o => hfr τ o.2 ∧ gI o.2 1 68 = nI (st + 1) ∧ (∀ c, c < 147968 → ∃ v, v ≤ st + 1 ∧ gI o.2 39 c = nI v) ∧ ∃ N' L', HL A (fitC sa sb sc n) c0 (k + 1) N' L' o.2) (s0 := (0, s)) ⟨rfl, fs, fun j => by rw [← es, gI_ne (by decide), gI_ne (by decide)], by rw [← es, gI_nei (by decide), gI_nei (by decide)], 0, _, base⟩ (jfuel_big (by omega)) ?_ ?_
  · obtain ⟨o, o1, o2, o3, o4, N', L', o5⟩ := key
    exact ⟨N', L', o.2, o1, o2, o5, o3, o4⟩
  · rintro ⟨x, t⟩ ⟨rfl, f1, f2, f3, N', L', g⟩
    replace f1 : hfr τ t := f1
    replace f3 : gI t 1 63 = gI τ 1 63 := f3
    obtain ⟨g1, g2, g3, g4, g5, g6, g7⟩ := g
    have hN' : N' ≤ 147968 := pigeon 147968 N' L' (fun j hj => (g3 j hj).2.1.1) (fun i j hi hj e => g4 i j hi hj e)
    have run : f_X11_nextLay_B17 t (nI (k + 1)) (nI N) = jw (f_X11_nextLay_J118 t) := by
      unfold f_X11_nextLay_B17
      rw [f3, l2, if_pos (Int32.le_refl _)]
    show ∃ o, f_X11_nextLay_B17 t (nI (k + 1)) (nI N) = _ ∧ _
    rw [run]
    unfold f_X11_nextLay_J118
    rw [g2, bV_e]
    have key := jloop_ex (S := Int32 × jS) (O := Unit × jS) (f := fun s => f_X11_nextLay_B128 s.2 s.1) (fun i s => s.1 = nI i ∧ hfr t s.2 ∧ gI s.2 1 63 = nI N' ∧ (∀ j, gI s.2 38 j = gI t 38 j) ∧ (∀ j, gI s.2 39 j = gI t 39 j) ∧ gI s.2 1 68 = gI t 1 68 ∧ ∀ j, j < i → gI s.2 37 j = nI (L' j)) N' (fun o => hfr τ o.2 ∧ gI o.2 1 68 = nI (st + 1) ∧ (∀ c, c < 147968 → ∃ v, v ≤ st + 1 ∧ gI o.2 39 c = nI v) ∧ ∃ N' L', HL A (fitC sa sb sc n) c0 (k + 1) N' L' o.2) (s0 := (0, sI t 1 63 (nI N'))) ⟨rfl, hfr_1 (by decide), gI_sI _ _ _ _, fun j => gI_ne (by decide), fun j => gI_ne (by decide), gI_nei (by decide), fun j hj => absurd hj (Nat.not_lt_zero j)⟩ (jfuel_big (by omega)) ?_ ?_
    · obtain ⟨o, o1, o2⟩ := key
      rw [o1]
      exact ⟨o, rfl, o2⟩
    · rintro ⟨x, s⟩ ⟨rfl, e1, e2, e3, e4, e5, e6⟩
      replace e1 : hfr t s := e1
      replace e2 : gI s 1 63 = nI N' := e2
      replace e4 : ∀ j, gI s 39 j = gI t 39 j := e4
      replace e6 : ∀ j, j < N' → gI s 37 j = nI (L' j) := e6
      refine ⟨((), s), ?_, hfr_tr f1 e1, e5.trans g1, fun c hc => ?_, N', L', hN', e2, fun j hj => ⟨e6 j hj, (g3 j hj).2.1, (g3 j hj).2.2.1, (g3 j hj).2.2.2.1⟩, fun c hc => ?_⟩
      · show f_X11_nextLay_B128 s (nI N') = _
        unfold f_X11_nextLay_B128 f_X11_nextLay_J154
        rw [e2, if_pos (Int32.le_refl _), jw_e]
      · show ∃ v, v ≤ st + 1 ∧ gI s 39 c = nI v
        rw [e4]; exact g6 c hc
      · obtain ⟨c1, c', c2, c3⟩ := hc
        obtain ⟨j, j1, j2⟩ := l4 c' c2
        exact g7 c ⟨j, j1, by rw [j2]; exact c3⟩ c1
    · rintro i ⟨x, s⟩ hi ⟨rfl, e1, e2, e3, e4, e5, e6⟩
      replace e1 : hfr t s := e1
      replace e2 : gI s 1 63 = nI N' := e2
      replace e3 : ∀ j, gI s 38 j = gI t 38 j := e3
      replace e4 : ∀ j, gI s 39 j = gI t 39 j := e4
      replace e5 : gI s 1 68 = gI t 1 68 := e5
      replace e6 : ∀ j, j < i → gI s 37 j = nI (L' j) := e6
      have ji : jin (nI i) 147968 = true := jin_nI (by omega) (by omega)
      refine Or.inl ?_
      show ∃ s', f_X11_nextLay_B128 s (nI i) = _ ∧ _
      unfold f_X11_nextLay_B128
      rw [e2, if_neg (nI_ge hi (by omega)), bG_t ji, bG_t ji, ix_nI (by omega), e3, (g3 i hi).1, bV_e, bV_e, nI_1]
      refine ⟨_, rfl, rfl, hfr_tr e1 (hfr_r (by decide)), (gI_ne (by decide)).trans e2, fun j => (gI_ne (by decide)).trans (e3 j), fun j => (gI_ne (by decide)).trans (e4 j), (gI_ne (by decide)).trans e5, fun j hj => ?_⟩
      show gI (sI s 37 i (nI (L' i))) 37 j = _
      by_cases q : j = i
      · subst q; exact gI_sI _ _ _ _
      · rw [gI_nei q]; exact e6 j (by omega)
  · rintro i ⟨x, t⟩ hi ⟨rfl, f1, f2, f3, N', L', g⟩
    replace f1 : hfr τ t := f1
    replace f2 : ∀ j, gI t 37 j = gI τ 37 j := f2
    replace f3 : gI t 1 63 = gI τ 1 63 := f3
    obtain ⟨m1, m2⟩ := mS_W (hfr_mS f1) hM
    rw [eA] at m2
    obtain ⟨c1, oc, c3⟩ := l3 i hi
    have hc := oc.1
    have sle : stN A (L i) ≤ 2 := by
      rw [← stG_owes]; exact stG_le _ _ _
    obtain ⟨hN, hS, hT, hO, hG, hQ, hu⟩ := id m1
    have mm : f_X11_mayNow t (nI (L i)) = some (nI (bm (fun q => decide (stN A (L i) = 0) && mayP A (L i) (cSide (L i)) q) 16)) := by
      rw [m_mayNow hN hS hG hc (ow_now hN hO hu hc), m2, nowG_f]
    have ms : f_X11_stateOf t (nI (L i)) = some (nI (stN A (L i))) := by
      rw [m_stateOf hN hS hG hc (ow_now hN hO hu hc), m2, stG_owes]
    refine Or.inl ?_
    show ∃ s', f_X11_nextLay_B17 t (nI (k + 1)) (nI i) = _ ∧ _
    unfold f_X11_nextLay_B17
    rw [f3, l2, if_neg (nI_ge hi (by omega)), bG_t (jin_nI (by omega) (by omega)), ix_nI (by omega), f2, c1, bV_e, mm, bC_e, ms, bC_e]
    have hp : ∀ p, (decide (stN A (L i) = 0) && mayP A (L i) (cSide (L i)) p) = true → stN A (L i) = 0 ∧ mayP A (L i) (cSide (L i)) p = true := fun p h => by
      rw [Bool.and_eq_true, decide_eq_true_eq] at h; exact h
    -- what is left to do after one more laid, or none
    have fin : ∀ (t2 : jS) (N2 : Nat) (L2 : Nat → Nat) (S2 : Nat → Prop), hfr τ t2 → (∀ j, gI t2 37 j = gI τ 37 j) → gI t2 1 63 = gI τ 1 63 → LO A (fitC sa sb sc n (k + 1)) (st + 1) (fun c => ∃ c', LYR A (fitC sa sb sc n) c0 k c' ∧ nxt A c' c) S2 N2 L2 t2 → (∀ c, (∃ j, j < i ∧ nxt A (L j) c) → S2 c) → (stN A (L i) ≠ 0 → S2 (L i)) → (stN A (L i) = 0 → mayS A (L i) (cSide (L i)) = 0 → S2 (behP (L i))) → ∃ s', f_X11_nextLay_J72 t2 (nI (k + 1)) (nI i) (nI (L i)) (nI (bm (fun q => decide (stN A (L i) = 0) && mayP A (L i) (cSide (L i)) q) 16)) = some (.inl s') ∧ s'.1 = nI (i + 1) ∧ hfr τ s'.2 ∧ (∀ j, gI s'.2 37 j = gI τ 37 j) ∧ gI s'.2 1 63 = nI N ∧ ∃ N' L', LO A (fitC sa sb sc n (k + 1)) (st + 1) (fun c => ∃ c', LYR A (fitC sa sb sc n) c0 k c' ∧ nxt A c' c) (fun c => ∃ j, j < i + 1 ∧ nxt A (L j) c) N' L' s'.2 := by
      intro t2 N2 L2 S2 k1 k2 k3 k4 k5 k6 k7
      obtain ⟨N3, L3, t3, b1, b2, b3, b4, b5⟩ := m_layQ (i := i) hM eA w k1 hs hk (by omega) k4 oc (fun p h => (hp p h).2) (fun p h => ⟨L i, c3, Or.inr ⟨(hp p h).1, Or.inr ⟨p, (hp p h).2, rfl⟩⟩⟩) st31
      refine ⟨_, b1, rfl, hfr_tr k1 b2, fun j => (b3 j).trans (k2 j), (b4.trans k3).trans l2, N3, L3, LO_mono b5 fun c hc => ?_⟩
      obtain ⟨j, j1, j2⟩ := hc
      by_cases q : j = i
      · subst q
        rcases j2 with ⟨q1, rfl⟩ | ⟨q1, ⟨q2, rfl⟩ | ⟨q, q2, rfl⟩⟩
        · exact Or.inl (k6 q1)
        · exact Or.inl (k7 q1 q2)
        · exact Or.inr ⟨q, by rw [Bool.and_eq_true, decide_eq_true_eq]; exact ⟨q1, q2⟩, rfl⟩
      · exact Or.inl (k5 c ⟨j, by omega, j2⟩)
    have hs' := hfr_seM f1 hs
    by_cases z : stN A (L i) = 0
    · rw [if_pos (show nI (stN A (L i)) = 0 from congrArg nI z)]
      have me : bm (fun q => decide (stN A (L i) = 0) && mayP A (L i) (cSide (L i)) q) 16 = mayS A (L i) (cSide (L i)) := bm_cong fun q _ => by rw [decide_eq_true z, Bool.true_and]
      by_cases y : bm (fun q => decide (stN A (L i) = 0) && mayP A (L i) (cSide (L i)) q) 16 = 0
      · rw [if_pos (show nI (bm (fun q => decide (stN A (L i) = 0) && mayP A (L i) (cSide (L i)) q) 16) = 0 from congrArg nI y), m_behindP hc (show (-1 : Int32) < 0 by decide), bC_e]
        obtain ⟨N2, L2, t2, a1, a2, a3, a4, a5⟩ := m_layOn (c := behP (L i)) hs' hk g (behP_ok w oc) ⟨L i, c3, Or.inr ⟨z, Or.inl ⟨me.symm.trans y, rfl⟩⟩⟩ st31
        rw [a1, bD_e]
        exact fin t2 N2 L2 _ (hfr_tr f1 a2) (fun j => (a3 j).trans (f2 j)) (a4.trans f3) a5 (fun c hc => Or.inl hc) (fun q => absurd z q) (fun _ _ => Or.inr rfl)
      · rw [if_neg (fun e => y ((nI_eq0 (bm16 _)).mp e))]
        exact fin t N' L' _ f1 f2 f3 g (fun c hc => hc) (fun q => absurd z q) (fun _ q => absurd (me.trans q) y)
    · rw [if_neg (fun e => z ((nI_eq0 (by omega)).mp e))]
      obtain ⟨N2, L2, t2, a1, a2, a3, a4, a5⟩ := m_layOn (c := L i) hs' hk g oc ⟨L i, c3, Or.inl ⟨z, rfl⟩⟩ st31
      rw [a1, bD_e]
      exact fin t2 N2 L2 _ (hfr_tr f1 a2) (fun j => (a3 j).trans (f2 j)) (a4.trans f3) a5 (fun c hc => Or.inl hc) (fun _ => Or.inr rfl) (fun q => absurd q z)
end HN
