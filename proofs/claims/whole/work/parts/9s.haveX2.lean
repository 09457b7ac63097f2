/-! have: the class, whole -/
def HX (A : Tb) (F : Nat → Nat → Bool) (c0 k N : Nat) (L : Nat → Nat) (arr : Nat) (σ : jS) : Prop := N ≤ 6272 ∧ (∀ j, j < N → gI σ arr j = nI (L j) ∧ okx A (L j) ∧ LYR A F c0 k (cv A (L j))) ∧ ∀ c, LYR A F c0 k c → ∃ j, j < N ∧ cv A (L j) = c
theorem HX_of {A : Tb} {F : Nat → Nat → Bool} {c0 k mk N arr : Nat} {Q S : Nat → Prop} {L : Nat → Nat} {σ : jS} (h : LXO A (F k) mk Q S N L arr σ) (h1 : ∀ c, F k c = true → Q c → LYR A F c0 k c) (h2 : ∀ c, LYR A F c0 k c → F k c = true ∧ ∃ y, S y ∧ cv A y = c) : HX A F c0 k N L arr σ := by
  obtain ⟨g3, g4, g5, g6, g7⟩ := h
  refine ⟨pigeon 6272 N L (fun j hj => (g3 j hj).2.1.1) (fun i j hi hj e => g4 i j hi hj e), fun j hj => ⟨(g3 j hj).1, (g3 j hj).2.1, h1 _ (g3 j hj).2.2.1 (g3 j hj).2.2.2.1⟩, fun c hc => ?_⟩
  obtain ⟨e1, y, y1, y2⟩ := h2 c hc
  obtain ⟨j, j1, j2⟩ := g7 y y1 (by rw [y2]; exact e1)
  exact ⟨j, j1, by rw [j2]; exact y2⟩
section HY
variable {A : Tb} {sa sb sc : Nat → Nat} {n b : Nat}
/-- one layer on -/
theorem x_nextLay {k m c0 N fa ta : Nat} {L : Nat → Nat} {σ : jS} (w : wA A) (hfa : fa = 12 ∨ fa = 13) (hta : ta = 12 ∨ ta = 13) (hne : fa ≠ ta) (hX : XH A sa sb sc n b σ) (hk : k + 1 ≤ 40) (hb : b + 40 < 2 ^ 31) (hL : HX A (fitC sa sb sc n) c0 k N L fa σ) (h15 : ∀ x, x < 6272 → ∃ v, v ≤ b + k ∧ gI σ 15 x = nI v) : ∃ N' L' σ', jloop jFuel (fun s => f_X0_holdersBehind_B63 s.2.2 (nI m) fa ta (nI N) (nI (k + 1)) s.1 s.2.1) ((0 : Int32), (0 : Int32), σ) = some (.inl (ta, fa, nI N', nI (k + 2), σ')) ∧ fr [15, ta] σ σ' ∧ HX A (fitC sa sb sc n) c0 (k + 1) N' L' ta σ' ∧ ∀ x, x < 6272 → ∃ v, v ≤ b + (k + 1) ∧ gI σ' 15 x = nI v := by
  obtain ⟨l1, l3, l4⟩ := hL
  have base : LXO A (fitC sa sb sc n (k + 1)) (b + (k + 1)) (fun c => ∃ c', LYR A (fitC sa sb sc n) c0 k c' ∧ nxt A c' c) (fun y => ∃ j, j < 0 ∧ nxtX A (L j) y) 0 (fun _ => 0) ta σ := by
    refine ⟨fun j hj => absurd hj (Nat.not_lt_zero j), fun i j hi => absurd hi (Nat.not_lt_zero i), fun x hx he => ?_, fun x hx => ?_, fun x hx _ => ?_⟩
    · obtain ⟨v, v1, v2⟩ := h15 x hx
      rw [v2] at he
      have := (nI_eq (by omega) (by omega)).mp he
      omega
    · obtain ⟨v, v1, v2⟩ := h15 x hx
      exact ⟨v, by omega, v2⟩
    · obtain ⟨j, hj, _⟩ := hx
      exact absurd hj (Nat.not_lt_zero j)
  have key := jloop_ex (S := Int32 × Int32 × jS) (O := (Nat × Nat × Int32 × Int32 × jS) ⊕ (Int32 × jS)) (f := fun s => f_X0_holdersBehind_B63 s.2.2 (nI m) fa ta (nI N) (nI (k + 1)) s.1 s.2.1) (fun i s => s.2.1 = nI i ∧ fr [15, ta] σ s.2.2 ∧ ∃ N' L', s.1 = nI N' ∧ LXO A (fitC sa sb sc n (k + 1)) (b + (k + 1)) (fun c => ∃ c', LYR A (fitC sa sb sc n) c0 k c' ∧ nxt A c' c) (fun y => ∃ j, j < i ∧ nxtX A (L j) y) N' L' ta s.2.2) N (fun o => ∃ N' L' σ', o = .inl (ta, fa, nI N', nI (k + 2), σ') ∧ fr [15, ta] σ σ' ∧ HX A (fitC sa sb sc n) c0 (k + 1) N' L' ta σ' ∧ ∀ x, x < 6272 → ∃ v, v ≤ b + (k + 1) ∧ gI σ' 15 x = nI v) (s0 := (0, 0, σ)) ⟨rfl, fr_rfl _ _, 0, _, rfl, base⟩ (jfuel_big (by omega)) ?_ ?_
  · obtain ⟨o, o1, N', L', σ', rfl, o2⟩ := key
    exact ⟨N', L', σ', o1, o2⟩
  · rintro ⟨x, y, t⟩ ⟨rfl, f, N', L', rfl, g⟩
    replace f : fr [15, ta] σ t := f
    refine ⟨_, ?_, N', L', t, rfl, f, HX_of g (fun c e1 e2 => ⟨e1, e2⟩) (fun c hc => ?_), g.2.2.2.1⟩
    · show f_X0_holdersBehind_B63 t (nI m) fa ta (nI N) (nI (k + 1)) (nI N') (nI N) = _
      unfold f_X0_holdersBehind_B63 f_X0_holdersBehind_J104
      rw [if_pos (Int32.le_refl _), nI_1, bV_e, jw_e]
    · obtain ⟨c1, c', c2, c3⟩ := hc
      obtain ⟨j, j1, rfl⟩ := l4 c' c2
      obtain ⟨y, y1, y2⟩ := nxt_X w (l3 j j1).2.1 c3
      exact ⟨c1, y, ⟨j, j1, y1⟩, y2⟩
  · rintro i ⟨x, y, t⟩ hi ⟨rfl, f, N', L', rfl, g⟩
    replace f : fr [15, ta] σ t := f
    obtain ⟨c1, ok, c3⟩ := l3 i hi
    have nin : fa ∉ [15, ta] := by
      rcases hfa with rfl | rfl <;> rcases hta with rfl | rfl <;> simp_all
    obtain ⟨N2, L2, t2, a1, a2, a3⟩ := x_putOnward w hta (XH_fr hta f hX) hk hb g ok (fun c hc => ⟨_, c3, hc⟩)
    refine Or.inl ?_
    show ∃ s', f_X0_holdersBehind_B63 t (nI m) fa ta (nI N) (nI (k + 1)) (nI N') (nI i) = _ ∧ _
    unfold f_X0_holdersBehind_B63
    rw [if_neg (nI_ge hi (by omega)), if_neg (show ¬ (6272 : Int32) ≤ nI i from nI_ge (b := 6272) (by omega) (by decide)), atH hfa (by omega), bC_e, fr_I f nin, c1, a1, bD_e, nI_1, bV_e]
    refine ⟨_, rfl, rfl, fr_trans f a2, N2, L2, rfl, LXO_mono a3 fun y hy => ?_⟩
    obtain ⟨j, j1, j2⟩ := hy
    by_cases q : j = i
    · subst q; exact Or.inr j2
    · exact Or.inl ⟨j, by omega, j2⟩
theorem x_holders {x : Nat} {σ : jS} (hW : xW σ A) (ok : okx A x) : f_X0_holders σ (nI x) = some (((1 : Int32) <<< (nI (hs A (x0 x)) &&& 31)) ||| ((1 : Int32) <<< (nI (hs A (x1 x)) &&& 31))) := by
  have e0 : f_X0_holder σ (nI x) 0 = some (nI (hs A (x0 x))) := x_holder hW ok (s := 0) (by decide)
  have e1 : f_X0_holder σ (nI x) 1 = some (nI (hs A (x1 x))) := x_holder hW ok (s := 1) (by decide)
  unfold f_X0_holders
  rw [e0, bC_e, e1, bC_e]
/-- the persons of a layer -/
theorem x_haveS {F : Nat → Nat → Bool} {k c0 N fa : Nat} {L : Nat → Nat} {σ : jS} (w : wA A) (hfa : fa = 12 ∨ fa = 13) (hW : xW σ A) (hL : HX A F c0 k N L fa σ) : f_X0_holdersBehind_J126 σ fa (nI N) = some (nI (hvS A F c0 k), σ) := by
  obtain ⟨l1, l3, l4⟩ := hL
  have e : hvS A F c0 k = bm (fun p => bex N fun j => hs A (x0 (L j)) == p || hs A (x1 (L j)) == p) 16 := bm_cong fun p _ => by
    apply bool_iff
    rw [pB_iff, bex_iff]
    constructor
    · rintro ⟨c, c1, c2⟩
      obtain ⟨j, j1, rfl⟩ := l4 c c1
      rw [cv_one w (l3 j j1).2.1, cv_two w (l3 j j1).2.1] at c2
      exact ⟨j, j1, by rw [Bool.or_eq_true, beq_iff_eq, beq_iff_eq]; exact c2⟩
    · rintro ⟨j, j1, j2⟩
      rw [Bool.or_eq_true, beq_iff_eq, beq_iff_eq] at j2
      refine ⟨cv A (L j), (l3 j j1).2.2, ?_⟩
      rw [cv_one w (l3 j j1).2.1, cv_two w (l3 j j1).2.1]
      exact j2
  unfold f_X0_holdersBehind_J126
  rw [e]
  refine jloop_0 (fun i => (nI (bm (fun p => bex i fun j => hs A (x0 (L j)) == p || hs A (x1 (L j)) == p) 16), nI i, σ)) N ?_ (jfuel_big (by omega)) ?_ ?_
  · show (nI (bm (fun _ => false) 16), nI 0, σ) = _
    rw [nbm0 fun _ => rfl]; rfl
  · show f_X0_holdersBehind_B132 σ fa (nI N) (nI (bm (fun p => bex N fun j => hs A (x0 (L j)) == p || hs A (x1 (L j)) == p) 16)) (nI N) = _
    unfold f_X0_holdersBehind_B132 f_X0_holdersBehind_J169
    rw [if_pos (Int32.le_refl _), jw_e]
  · intro i hi
    obtain ⟨a1, ok, _⟩ := l3 i hi
    show f_X0_holdersBehind_B132 σ fa (nI N) (nI (bm (fun p => bex i fun j => hs A (x0 (L j)) == p || hs A (x1 (L j)) == p) 16)) (nI i) = some (.inl (nI (bm (fun p => bex (i + 1) fun j => hs A (x0 (L j)) == p || hs A (x1 (L j)) == p) 16), nI (i + 1), σ))
    unfold f_X0_holdersBehind_B132
    rw [if_neg (nI_ge hi (by omega)), if_neg (show ¬ (6272 : Int32) ≤ nI i from nI_ge (b := 6272) (by omega) (by decide)), atH hfa (by omega), bC_e, a1, x_holders hW ok, bC_e, ← Int32.or_assoc, nI_or1 _ (hs_lt w ok.2.1), nI_or1 _ (hs_lt w ok.2.2.1), bV_e, bV_e, nI_1]
    refine congrArg (fun v => some (Sum.inl (nI v, nI (i + 1), σ))) (bm_cong fun p _ => ?_)
    rw [bex_succ, Bool.or_assoc]
    congr 1
    apply bool_iff
    rw [Bool.or_eq_true, Bool.or_eq_true, beq_iff_eq, beq_iff_eq, beq_iff_eq, beq_iff_eq]
    constructor
    · rintro (e | e)
      · exact Or.inl e.symm
      · exact Or.inr e.symm
    · rintro (e | e)
      · exact Or.inl e.symm
      · exact Or.inr e.symm
theorem x_haveAll {k m x : Nat} {σ : jS} (hk : k ≤ 4096) (w : wA A) (hW : xW σ A) (hF : xF σ A) (hse : seX sa sb sc n σ) (hm : m ≤ 40) (ok : okx A x) (sx : sX k σ) : ∃ σ', f_X0_holdersBehind σ (nI x) (nI m) = some (nI (hvS A (fitC sa sb sc n) (cv A x) m), σ') ∧ fr [4, 12, 13, 14, 15, 16] σ σ' ∧ sX (k + 4) σ' := by
  obtain ⟨s1, l, l16, l1, l2, l3⟩ := sx
  obtain ⟨σ1, a1, a2, a3, a4, a5, a6, a7, a8⟩ := x_forget s1
  unfold f_X0_holdersBehind
  have e11 : gI σ1 4 11 = nI l := (a2.2 11 (by decide) (by decide) (by decide)).trans l2
  rw [a1, bD_e, e11, nI_1, bV_e, gI_sI, nI_add, bV_e]
  generalize es : sI (sI σ1 4 10 (nI (l + 1))) 4 11 (nI (l + 1 + m)) = s
  have f4 : fr [4, 12, 13, 14, 15, 16] σ s := by
    rw [← es]
    exact fr_trans a2.1 (fr_trans (fr_sI _ _ _ (by simp)) (fr_sI _ _ _ (by simp)))
  have s10 : gI s 4 10 = nI (l + 1) := by rw [← es, gI_nei (by decide), gI_sI]
  have s11 : gI s 4 11 = nI (l + 1 + m) := by rw [← es, gI_sI]
  have s41 : gI s 4 1 = 0 := by rw [← es, gI_nei (by decide), gI_nei (by decide)]; exact a4
  have s14 : ∀ c, c < 6272 → gI s 14 c = 0 := fun c hc => by rw [← es, gI_ne (by decide), gI_ne (by decide)]; exact a3 c hc
  have s15 : ∀ c, c < 6272 → ∃ v, v ≤ l ∧ gI s 15 c = nI v := fun c hc => by
    rw [← es, gI_ne (by decide), gI_ne (by decide), a8 15 (by decide)]; exact l3 c hc
  have hXs : XH A sa sb sc n (l + 1) s := by
    obtain ⟨h3, h4, h5⟩ := hse
    refine ⟨xW_fr f4 rfl hW, fun p hp => (fr_I f4 (by decide) p).trans (hF p hp), ⟨h3, (fr_I f4 (by decide) _).trans h4, fun i hi => ?_⟩, s10⟩
    rw [fr_I f4 (by decide), fr_I f4 (by decide), fr_I f4 (by decide)]
    exact h5 i hi
  have base : LXO A (fitC sa sb sc n 0) (l + 1 + 0) (fun c => c = cv A x) (fun _ => False) 0 (fun _ => 0) 12 s := by
    refine ⟨fun j hj => absurd hj (Nat.not_lt_zero j), fun i j hi => absurd hi (Nat.not_lt_zero i), fun x hx he => ?_, fun x hx => ?_, fun x hx _ => hx.elim⟩
    · obtain ⟨v, v1, v2⟩ := s15 x hx
      rw [v2] at he
      have := (nI_eq (by omega) (by omega)).mp he
      omega
    · obtain ⟨v, v1, v2⟩ := s15 x hx
      exact ⟨v, by omega, v2⟩
  obtain ⟨N0, L0, t0, b1, b2, b3⟩ := x_putIf w (Or.inl rfl) hXs (k := 0) (by omega) (by omega) base ok rfl
  rw [show f_X0_putIfFits s 12 0 (nI x) 0 = some (nI N0, t0) from b1, bD_e]
  have hx0 : HX A (fitC sa sb sc n) (cv A x) 0 N0 L0 12 t0 := HX_of b3 (fun c e1 e2 => ⟨e2, e1⟩) (fun c hc => ⟨hc.2, x, Or.inr rfl, hc.1.symm⟩)
  have key := jloop_ex (S := Nat × Nat × Int32 × Int32 × jS) (O := Int32 × jS) (f := fun s => f_X0_holdersBehind_B51 s.2.2.2.2 (nI m) s.1 s.2.1 s.2.2.1 s.2.2.2.1) (fun i t => t.2.2.2.1 = nI (i + 1) ∧ (t.1 = 12 ∨ t.1 = 13) ∧ (t.2.1 = 12 ∨ t.2.1 = 13) ∧ t.1 ≠ t.2.1 ∧ fr [15, 12, 13] s t.2.2.2.2 ∧ (∀ x, x < 6272 → ∃ v, v ≤ l + 1 + i ∧ gI t.2.2.2.2 15 x = nI v) ∧ ∃ N' L', t.2.2.1 = nI N' ∧ HX A (fitC sa sb sc n) (cv A x) i N' L' t.1 t.2.2.2.2) m (fun o => o.1 = nI (hvS A (fitC sa sb sc n) (cv A x) m) ∧ fr [15, 12, 13] s o.2 ∧ ∀ x, x < 6272 → ∃ v, v ≤ l + 1 + m ∧ gI o.2 15 x = nI v) (s0 := (12, 13, nI N0, 1, t0)) ⟨rfl, Or.inl rfl, Or.inr rfl, (by show (12 : Nat) ≠ 13; decide), fr_mono b2 (by simp), b3.2.2.2.1, N0, L0, rfl, hx0⟩ (jfuel_big (by omega)) ?_ ?_
  · obtain ⟨⟨o, t⟩, o1, o2, o3, o4⟩ := key
    replace o2 : o = nI (hvS A (fitC sa sb sc n) (cv A x) m) := o2
    replace o3 : fr [15, 12, 13] s t := o3
    subst o2
    refine ⟨t, o1, fr_trans f4 (fr_mono o3 (by simp)), ⟨0, by decide, (fr_I o3 (by decide) _).trans s41, fun i hi => absurd hi (Nat.not_lt_zero i), fun c hc => Or.inl ((fr_I o3 (by decide) _).trans (s14 c hc))⟩, l + 1 + m, by omega, by omega, (fr_I o3 (by decide) _).trans s11, o4⟩
  · rintro ⟨fa, ta, x1', x2', t⟩ ⟨rfl, hfa, hta, hne, f, h15, N', L', rfl, g⟩
    replace f : fr [15, 12, 13] s t := f
    replace hfa : fa = 12 ∨ fa = 13 := hfa
    replace g : HX A (fitC sa sb sc n) (cv A x) m N' L' fa t := g
    refine ⟨(nI (hvS A (fitC sa sb sc n) (cv A x) m), t), ?_, rfl, f, h15⟩
    show f_X0_holdersBehind_B51 t (nI m) fa ta (nI N') (nI (m + 1)) = _
    unfold f_X0_holdersBehind_B51
    rw [if_pos (show nI m < nI (m + 1) from Int32.not_le.mp (nI_ge (by omega) (by omega))), x_haveS w hfa (xW_fr f rfl hXs.1) g, jw_e]
  · rintro i ⟨fa, ta, x1', x2', t⟩ hi ⟨rfl, hfa, hta, hne, f, h15, N', L', rfl, g⟩
    replace f : fr [15, 12, 13] s t := f
    replace hfa : fa = 12 ∨ fa = 13 := hfa
    replace hta : ta = 12 ∨ ta = 13 := hta
    replace hne : fa ≠ ta := hne
    replace g : HX A (fitC sa sb sc n) (cv A x) i N' L' fa t := g
    have hXt : XH A sa sb sc n (l + 1) t := by
      obtain ⟨h1, h2, ⟨h3, h4, h5⟩, h6⟩ := hXs
      refine ⟨xW_fr f rfl h1, fun p hp => (fr_I f (by decide) p).trans (h2 p hp), ⟨h3, (fr_I f (by decide) _).trans h4, fun i hi => ?_⟩, (fr_I f (by decide) _).trans h6⟩
      rw [fr_I f (by decide), fr_I f (by decide), fr_I f (by decide)]
      exact h5 i hi
    obtain ⟨N2, L2, t2, d1, d2, d3, d4⟩ := x_nextLay (m := m) w hfa hta hne hXt (show i + 1 ≤ 40 by omega) (by omega) g h15
    refine Or.inl ?_
    show ∃ s', f_X0_holdersBehind_B51 t (nI m) fa ta (nI N') (nI (i + 1)) = _ ∧ _
    unfold f_X0_holdersBehind_B51
    rw [if_neg (show ¬ nI m < nI (i + 1) from Int32.not_lt.mpr (nI_le (by omega) (by omega))), d1]
    exact ⟨_, rfl, rfl, hta, hfa, fun e => hne e.symm, fr_trans f (fr_mono d2 (by rcases hta with rfl | rfl <;> simp)), d4, N2, L2, rfl, d3⟩
end HY
