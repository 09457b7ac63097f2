/-! PEACE's way followed to its ends; grudges elsewhere don't hinder it -/
def lo (a b : Nat) : Nat := if b < a then b else a
def hi (a b : Nat) : Nat := if a < b then b else a
theorem lo_I {a b : Nat} (ha : a < 2 ^ 31) (hb : b < 2 ^ 31) : (if nI b < nI a then nI b else nI a) = nI (lo a b) := by
  unfold lo
  by_cases z : b < a
  · rw [if_pos z, if_pos (nI_lt z (by omega))]
  · rw [if_neg z, if_neg (fun e => z ((nI_ltI hb ha).mp e))]
theorem hi_I {a b : Nat} (ha : a < 2 ^ 31) (hb : b < 2 ^ 31) : (if nI a < nI b then nI b else nI a) = nI (hi a b) := by
  unfold hi
  by_cases z : a < b
  · rw [if_pos z, if_pos (nI_lt z (by omega))]
  · rw [if_neg z, if_neg (fun e => z ((nI_ltI ha hb).mp e))]
theorem lohi {a b : Nat} (h : a ≠ b) : lo a b < hi a b ∧ ((lo a b = a ∧ hi a b = b) ∨ (lo a b = b ∧ hi a b = a)) := by
  unfold lo hi
  split <;> split <;> omega
theorem at21 {σ : jS} {i : Nat} (h : i < 16) : f_X6_at σ 21 (nI i) = some (gI σ 21 i) := x_at (by decide) rfl h (by decide)
theorem at22 {σ : jS} {i : Nat} (h : i < 16) : f_X6_at σ 22 (nI i) = some (gI σ 22 i) := x_at (by decide) rfl h (by decide)
theorem put21 {σ : jS} {i : Nat} {v : Int32} (h : i < 16) : f_X6_put σ 21 (nI i) v = some ((), sI σ 21 i v) := x_put (by decide) rfl h (by decide)
theorem put22 {σ : jS} {i : Nat} {v : Int32} (h : i < 16) : f_X6_put σ 22 (nI i) v = some ((), sI σ 22 i v) := x_put (by decide) rfl h (by decide)
theorem met_at {σ : jS} {h i : Nat} (hh : h = 21 ∨ h = 22) (hi : i < 16) : f_X6_at σ h (nI i) = some (gI σ h i) := by
  rcases hh with rfl | rfl
  · exact at21 hi
  · exact at22 hi
theorem met_put {σ : jS} {h i : Nat} {v : Int32} (hh : h = 21 ∨ h = 22) (hi : i < 16) : f_X6_put σ h (nI i) v = some ((), sI σ h i v) := by
  rcases hh with rfl | rfl
  · exact put21 hi
  · exact put22 hi
theorem x_mark {σ : jS} {h a b : Nat} {met : Nat → Nat → Bool} (hh : h = 21 ∨ h = 22) (ha : a < 16) (hb : b < 16) (hm : ∀ p, p < 16 → gI σ h p = nI (bm (met p) 16)) : ∃ σ', f_X0_mark σ h (nI a) (nI b) = some ((), σ') ∧ fr [h] σ σ' ∧ ∀ p, p < 16 → gI σ' h p = nI (bm (fun q => met p q || (p == lo a b && q == hi a b)) 16) := by
  have l16 : lo a b < 16 := by unfold lo; split <;> omega
  have h16 : hi a b < 16 := by unfold hi; split <;> omega
  refine ⟨sI σ h (lo a b) (nI (bm (fun q => met (lo a b) q || q == hi a b) 16)), ?_, fr_sI _ _ _ (List.mem_singleton.mpr rfl), fun p hp => ?_⟩
  · unfold f_X0_mark
    rw [lo_I (by omega) (by omega), hi_I (by omega) (by omega), bV_e, met_at hh l16, bC_e, hm _ l16, nI_or1 _ h16, met_put hh l16, bD_e]
  · by_cases z : p = lo a b
    · subst z
      rw [gI_sI]
      exact congrArg nI (bm_cong fun q _ => by rw [beq_self_eq_true, Bool.true_and])
    · rw [gI_nei z, hm p hp]
      exact congrArg nI (bm_cong fun q _ => by rw [beq_eq_false_iff_ne.mpr z, Bool.false_and, Bool.or_false])
theorem tmX_0 {A : Tb} {y : Nat} : tmX A 0 y = ended A (cv A y) := by
  apply bool_iff
  rw [← st1_ended]
  unfold tmX
  simp
def noM (_ _ : Nat) : Bool := false
def RowM (h : Nat) (met : Nat → Nat → Bool) (σ : jS) : Prop := ∀ a, a < 16 → gI σ h a = nI (bm (met a) 16)
/-- where the way goes, and what it ends at -/
def PW (B : Tb) (s n c : Nat) (L T nd : Nat → Nat) (met : Nat → Nat → Bool) (x : Nat) : Prop := (∃ j, j < c ∧ T j = x) ∧ (∀ j, j < c → vL n L (T j) ∧ nd (T j) ≠ 0 ∧ (ended B (cv B (T j)) = true → met (lo (hs B (x0 (T j))) (hs B (x1 (T j)))) (hi (hs B (x0 (T j))) (hs B (x1 (T j)))) = true) ∧ (ended B (cv B (T j)) = false → CL B s c T nd (T j))) ∧ ∀ a b, met a b = true → ∃ y, vL n L y ∧ ended B (cv B y) = true ∧ a = lo (hs B (x0 y)) (hs B (x1 y)) ∧ b = hi (hs B (x0 y)) (hs B (x1 y))
theorem x_follow {B : Tb} {x lm n m s h : Nat} {L Q nd : Nat → Nat} {σ : jS} (w : wA B) (hW : xW σ B) (hF : xF σ B) (hR : SR B x (tmX B 0) (fun y => y % 2 == s) lm n m L Q nd σ) (s2 : s < 2) (h1 : 1 ≤ lm) (hh : h = 21 ∨ h = 22) (n0 : nd x ≠ 0) : ∃ met c T σ', f_X0_followPeace σ (nI x) (nI s) h = some ((), σ') ∧ RowM h met σ' ∧ PW B s n c L T nd met x ∧ fr [4, 13, 15, h] σ σ' ∧ (∀ i, i ≠ 2 → gI σ' 4 i = gI σ 4 i) ∧ ∀ c, c < 6272 → ∃ v, v ≤ lm ∧ gI σ' 15 c = nI v := by
  obtain ⟨⟨n6, r1, r2, r3, r4, r5⟩, rL, rI, rP, cl, rF, ⟨r14, _⟩, _, _, _, r15, rB⟩ := hR
  have hV : ∀ y, vL n L y → okx B y := fun y hy => by
    obtain ⟨j, j1, j2⟩ := hy
    rw [← j2]; exact (rL j j1).1
  have vx : vL n L x := ⟨0, r3, r4⟩
  have h4 : h ≠ 4 ∧ h ≠ 13 ∧ h ≠ 15 ∧ h ≠ 12 ∧ h ≠ 14 ∧ h ≠ 11 ∧ h ≠ 5 ∧ h ≠ 6 ∧ h ≠ 7 := by omega
  obtain ⟨σ1, f1, f2, f3, f4⟩ := x_fillI (σ := σ) (h := h) (v := 0) (by omega) (by rcases hh with rfl | rfl <;> rfl) (by rcases hh with rfl | rfl <;> decide)
  have f3' : ∀ i, i < 16 → gI σ1 h i = 0 := fun i hi => f3 i (by rcases hh with rfl | rfl <;> exact hi)
  have nh : ∀ a, a ≠ h → a ∉ [h] := fun a ha q => ha (List.mem_singleton.mp q)
  -- the last loop
  have run : ∀ c T t, WT (vL n L) lm c T t → (∃ j, j < c ∧ T j = x) → (∀ j, j < c → nd (T j) ≠ 0) → RowM h noM t → fr [4, 13, 15, h] σ t → (∀ i, i ≠ 2 → gI t 4 i = gI σ 4 i) → ∃ met c T σ', jloop jFuel (fun u => f_X0_followPeace_B61 u.2 (nI s) h u.1) (0, t) = some ((), σ') ∧ RowM h met σ' ∧ PW B s n c L T nd met x ∧ fr [4, 13, 15, h] σ σ' ∧ (∀ i, i ≠ 2 → gI σ' 4 i = gI σ 4 i) ∧ ∀ c, c < 6272 → ∃ v, v ≤ lm ∧ gI σ' 15 c = nI v := by
    intro c T t hw hx hn hrow hf hf4
    have key := jloop_inv (f := fun u => f_X0_followPeace_B61 u.2 (nI s) h u.1) (fun mz u => ∃ i c T met, u.1 = nI i ∧ i ≤ c ∧ mz = 6272 - i ∧ WT (vL n L) lm c T u.2 ∧ (∃ j, j < c ∧ T j = x) ∧ (∀ j, j < c → nd (T j) ≠ 0) ∧ RowM h met u.2 ∧ (∀ j, j < i → (ended B (cv B (T j)) = true → met (lo (hs B (x0 (T j))) (hs B (x1 (T j)))) (hi (hs B (x0 (T j))) (hs B (x1 (T j)))) = true) ∧ (ended B (cv B (T j)) = false → CL B s c T nd (T j))) ∧ (∀ a b, met a b = true → ∃ y, vL n L y ∧ ended B (cv B y) = true ∧ a = lo (hs B (x0 y)) (hs B (x1 y)) ∧ b = hi (hs B (x0 y)) (hs B (x1 y))) ∧ fr [4, 13, 15, h] σ u.2 ∧ ∀ i, i ≠ 2 → gI u.2 4 i = gI σ 4 i) (fun (o : Unit × jS) => ∃ met c T, RowM h met o.2 ∧ PW B s n c L T nd met x ∧ fr [4, 13, 15, h] σ o.2 ∧ (∀ i, i ≠ 2 → gI o.2 4 i = gI σ 4 i) ∧ ∀ c, c < 6272 → ∃ v, v ≤ lm ∧ gI o.2 15 c = nI v) ?_ jFuel 6272 (0, t) ⟨0, c, T, noM, rfl, Nat.zero_le _, rfl, hw, hx, hn, hrow, fun j hj => absurd hj (Nat.not_lt_zero j), fun a b e => (by cases e), hf, hf4⟩ (jfuel_big (by omega))
    · obtain ⟨o, o1, met, c, T, o2⟩ := key
      exact ⟨met, c, T, o.2, o1, o2⟩
    · rintro mz ⟨ti, u⟩ ⟨i, c, T, met, rfl, ic, rfl, k1, k2, k3, k4, k5, k6, k7, k8⟩
      replace k1 : WT (vL n L) lm c T u := k1
      replace k4 : ∀ a, a < 16 → gI u h a = nI (bm (met a) 16) := k4
      replace k7 : fr [4, 13, 15, h] σ u := k7
      replace k8 : ∀ i, i ≠ 2 → gI u 4 i = gI σ 4 i := k8
      have c6 := pigeon 6272 c T (fun j hj => (hV _ (k1.2.1 j hj).1).1) k1.2.2.1
      have out : ∀ a, a ≠ 4 → a ≠ 13 → a ≠ 15 → a ≠ h → a ∉ [4, 13, 15, h] := fun a b1 b2 b3 b4 q => by simp at q; omega
      have hWu : xW u B := by
        obtain ⟨q1, q2, q3, q4, q5, q6⟩ := hW
        have i5 := fun i => fr_I k7 (out 5 (by decide) (by decide) (by decide) (by omega)) i
        have i6 := fun i => fr_I k7 (out 6 (by decide) (by decide) (by decide) (by omega)) i
        have i7 := fun i => fr_I k7 (out 7 (by decide) (by decide) (by decide) (by omega)) i
        have l8 := fun i => fr_L k7 (out 8 (by decide) (by decide) (by decide) (by omega)) i
        have l9 := fun i => fr_L k7 (out 9 (by decide) (by decide) (by decide) (by omega)) i
        have l10 := fun i => fr_L k7 (out 10 (by decide) (by decide) (by decide) (by omega)) i
        exact ⟨(i5 5).trans q1, fun p hp => ⟨(i6 p).trans (q2 p hp).1, (i7 p).trans (q2 p hp).2⟩, fun p hp => ⟨(i6 _).trans (q3 p hp).1, (i7 _).trans (q3 p hp).2⟩, fun p hp => (l8 p).trans (q4 p hp), fun p hp => (l9 p).trans (q5 p hp), fun p hp => (l10 p).trans (q6 p hp)⟩
      have hFu : xF u B := fun p hp => (fr_I k7 (out 11 (by decide) (by decide) (by decide) (by omega)) p).trans (hF p hp)
      show (∃ s' n', f_X0_followPeace_B61 u (nI s) h (nI i) = _ ∧ _) ∨ (∃ o, f_X0_followPeace_B61 u (nI s) h (nI i) = _ ∧ _)
      unfold f_X0_followPeace_B61 f_X0_followPeace_J126
      rw [k1.1]
      rcases Nat.lt_or_ge i c with z | z
      · left
        obtain ⟨vT, e13, e15⟩ := k1.2.1 i z
        have ok := hV _ vT
        have t0 := hs_lt w ok.2.1
        have t1 := hs_lt w ok.2.2.1
        rw [if_neg (nI_ge z (by omega)), if_neg (show ¬ (6272 : Int32) ≤ nI i from nI_ge (b := 6272) (by omega) (by decide)), at13 (by omega), bC_e, e13, x_isEnded w hWu hFu ok, bC_e]
        cases he : ended B (cv B (T i)) with
        | true =>
          obtain ⟨u2, m1, m2, m3⟩ := x_mark (h := h) hh t0 t1 k4
          rw [if_pos rfl, if_neg (show ¬ (1 : Int32) = 0 by decide), show f_X0_holder u (nI (T i)) 0 = some (nI (hs B (x0 (T i)))) from x_holder hWu ok (s := 0) (by decide), bC_e, show f_X0_holder u (nI (T i)) 1 = some (nI (hs B (x1 (T i)))) from x_holder hWu ok (s := 1) (by decide), bC_e, m1, bD_e, bV_e, nI_1]
          refine ⟨_, 6272 - (i + 1), rfl, by omega, i + 1, c, T, _, rfl, by omega, rfl, ⟨(fr_I m2 (nh 4 (by omega)) _).trans k1.1, fun j hj => ⟨(k1.2.1 j hj).1, (fr_I m2 (nh 13 (by omega)) _).trans (k1.2.1 j hj).2.1, (fr_I m2 (nh 15 (by omega)) _).trans (k1.2.1 j hj).2.2⟩, k1.2.2.1, fun y hy hn => (fr_I m2 (nh 15 (by omega)) _).trans (k1.2.2.2.1 y hy hn), fun y hy => by
            rw [fr_I m2 (nh 15 (by omega))]; exact k1.2.2.2.2 y hy⟩, k2, k3, m3, fun j hj => ?_, fun a b e => ?_, fr_trans k7 (fr_mono m2 (fun a ha => by
              rw [List.mem_singleton.mp ha]; simp)), fun i hi => (fr_I m2 (nh 4 (by omega)) _).trans (k8 i hi)⟩
          · by_cases y : j = i
            · subst y
              exact ⟨fun _ => by simp, fun q => by rw [he] at q; cases q⟩
            · exact ⟨fun q => by rw [(k5 j (by omega)).1 q, Bool.true_or], (k5 j (by omega)).2⟩
          · rw [Bool.or_eq_true] at e
            rcases e with e | e
            · exact k6 a b e
            · rw [Bool.and_eq_true, beq_iff_eq, beq_iff_eq] at e
              exact ⟨T i, vT, he, e.1, e.2⟩
        | false =>
          have ht : tmX B 0 (T i) = false := by rw [tmX_0]; exact he
          have y2 : 2 ≤ nd (T i) := by
            have := k3 i z
            have h1 := (rF _ vT).1
            rw [ht] at h1
            have : nd (T i) ≠ 1 := fun e => by have := h1.mpr e; cases this
            omega
          obtain ⟨c', T', u2, e1, e2, e3, e4, e5, e6, e7⟩ := x_walkOn (σ := u) w hWu hV cl (fun y hy => (fr_I k7 (out 14 (by decide) (by decide) (by decide) (by omega)) _).trans (r14 y hy)) rB rF s2 h1 k1 vT y2 ht
          rw [if_neg (show ¬ false = true by decide), if_pos rfl, e1, bD_e, bV_e, nI_1]
          refine ⟨_, 6272 - (i + 1), rfl, by omega, i + 1, c', T', met, rfl, by omega, rfl, e2, ?_, fun j hj => ?_, fun a ha => ?_, fun j hj => ?_, k6, fr_trans k7 (fr_mono e7.1 (fun a ha => by simp at ha ⊢; omega)), fun i hi => (e7.2 i hi).trans (k8 i hi)⟩
          · obtain ⟨j, j1, j2⟩ := k2
            exact ⟨j, by omega, (e4 j j1).trans j2⟩
          · rcases Nat.lt_or_ge j c with q | q
            · rw [e4 j q]; exact k3 j q
            · exact e6 j q hj
          · show gI u2 h a = _
            rw [fr_I e7.1 (fun q => by simp at q; omega)]
            exact k4 a ha
          · by_cases y : j = i
            · subst y
              rw [e4 j z]
              exact ⟨fun q => (by rw [he] at q; cases q), fun _ => e5⟩
            · rw [e4 j (by omega)]
              exact ⟨(k5 j (by omega)).1, fun q => CL_mono ((k5 j (by omega)).2 q) e3 e4⟩
      · right
        have : i = c := by omega
        subst this
        unfold f_X0_followPeace_J132
        rw [if_pos (Int32.le_refl _), jw_e]
        exact ⟨((), u), rfl, met, i, T, k4, ⟨k2, fun j hj => ⟨(k1.2.1 j hj).1, k3 j hj, k5 j hj⟩, k6⟩, k7, k8, k1.2.2.2.2⟩
  unfold f_X0_followPeace
  rw [f1, bD_e]
  have key := jloop_ex (S := Int32 × jS) (O := Unit × jS) (f := fun u => f_X0_followPeace_B8 u.2 (nI x) (nI s) h u.1) (fun i u => u.1 = nI i ∧ fr [15, h] σ u.2 ∧ (∀ a, a < 16 → gI u.2 h a = 0) ∧ (∀ j, j < i → gI u.2 15 (L j) = 0) ∧ ∀ c, c < 6272 → ∃ v, v ≤ lm ∧ gI u.2 15 c = nI v) n (fun o => ∃ met c T, RowM h met o.2 ∧ PW B s n c L T nd met x ∧ fr [4, 13, 15, h] σ o.2 ∧ (∀ i, i ≠ 2 → gI o.2 4 i = gI σ 4 i) ∧ ∀ c, c < 6272 → ∃ v, v ≤ lm ∧ gI o.2 15 c = nI v) (s0 := (0, σ1)) ⟨rfl, fr_mono f2 (fun a ha => by rw [List.mem_singleton.mp ha]; simp), f3', fun j hj => absurd hj (Nat.not_lt_zero j), fun c hc => by
    show ∃ v, v ≤ lm ∧ gI σ1 15 c = nI v
    rw [fr_I f2 (nh 15 (by omega))]; exact r15 c hc⟩ (jfuel_big (by omega)) ?_ ?_
  · obtain ⟨o, o1, met, c, T, o2⟩ := key
    exact ⟨met, c, T, o.2, o1, o2⟩
  · rintro ⟨a, u⟩ ⟨rfl, g1, g2, g3, g4⟩
    replace g1 : fr [15, h] σ u := g1
    have out : ∀ a, a ≠ 15 → a ≠ h → a ∉ [15, h] := fun a b1 b2 q => by simp at q; omega
    have w0 : WT (vL n L) lm 0 (fun _ => 0) (sI u 4 2 0) := ⟨gI_sI _ _ _ _, fun j hj => absurd hj (Nat.not_lt_zero j), fun j l hj => absurd hj (Nat.not_lt_zero j), fun y hy _ => by
      obtain ⟨j, j1, j2⟩ := hy
      rw [gI_ne (by decide), ← j2]; exact g3 j j1, fun y hy => by
      rw [gI_ne (by decide)]; exact g4 y hy⟩
    obtain ⟨c', T', u2, e1, e2, e3, e4, e5, e6, e7⟩ := x_walkTo w0 (fun y hy => (hV y hy).1) h1 vx
    obtain ⟨met, c, T, σ', q1, q2⟩ := run c' T' u2 e2 e5 (fun j hj => by rw [e6 j (Nat.zero_le _) hj]; exact n0) (fun a ha => by
      rw [fr_I e7.1 (fun q => by simp at q; omega), gI_ne (by omega), nbm0 (f := noM a) fun _ => rfl]
      exact g2 a ha) (fr_trans (fr_mono g1 (fun a ha => by simp at ha ⊢; omega)) (fr_trans (fr_sI _ _ _ (by simp)) (fr_mono e7.1 (fun a ha => by simp at ha ⊢; omega)))) (fun i hi => by
      rw [e7.2 i hi, gI_nei hi]
      exact fr_I g1 (out 4 (by decide) (by omega)) _)
    refine ⟨((), σ'), ?_, met, c, T, q2⟩
    show f_X0_followPeace_B8 u (nI x) (nI s) h (nI n) = _
    unfold f_X0_followPeace_B8 f_X0_followPeace_J48
    rw [fr_I g1 (out 4 (by decide) (by omega)), r1, if_pos (Int32.le_refl _), bV_e, e1, bD_e, q1, jw_e]
  · rintro i ⟨a, u⟩ hi ⟨rfl, g1, g2, g3, g4⟩
    replace g1 : fr [15, h] σ u := g1
    have out : ∀ a, a ≠ 15 → a ≠ h → a ∉ [15, h] := fun a b1 b2 q => by simp at q; omega
    obtain ⟨ok, e12⟩ := rL i hi
    refine Or.inl ⟨(nI (i + 1), sI u 15 (L i) 0), ?_, rfl, fr_trans g1 (fr_sI _ _ _ (by simp)), fun a ha => ?_, fun j hj => ?_, fun c hc => ?_⟩
    · show f_X0_followPeace_B8 u (nI x) (nI s) h (nI i) = _
      unfold f_X0_followPeace_B8
      rw [fr_I g1 (out 4 (by decide) (by omega)), r1, if_neg (nI_ge hi (by omega)), if_neg (show ¬ (6272 : Int32) ≤ nI i from nI_ge (b := 6272) (by omega) (by decide)), at12 (by omega), bC_e, fr_I g1 (out 12 (by decide) (by omega)), e12, put15 ok.1, bD_e, bV_e, nI_1]
    · show gI (sI u 15 (L i) 0) h a = 0
      rw [gI_ne (by omega)]; exact g2 a ha
    · show gI (sI u 15 (L i) 0) 15 (L j) = 0
      by_cases z : L j = L i
      · rw [z, gI_sI]
      · rw [gI_nei z]
        refine g3 j ?_
        rcases Nat.lt_or_ge j i with q | q
        · exact q
        · have : j = i := by omega
          subst this; exact absurd rfl z
    · show ∃ v, v ≤ lm ∧ gI (sI u 15 (L i) 0) 15 c = nI v
      by_cases z : c = L i
      · subst z; rw [gI_sI]; exact ⟨0, by omega, rfl⟩
      · rw [gI_nei z]; exact g4 c hc
