/-! have: the class's layers -/
theorem atH {σ : jS} {h i : Nat} (hh : h = 12 ∨ h = 13) (hi : i < 6272) : f_X6_at σ h (nI i) = some (gI σ h i) := by
  rcases hh with rfl | rfl
  · exact at12 hi
  · exact at13 hi
theorem putH {σ : jS} {h i : Nat} {v : Int32} (hh : h = 12 ∨ h = 13) (hi : i < 6272) : f_X6_put σ h (nI i) v = some ((), sI σ h i v) := by
  rcases hh with rfl | rfl
  · exact put12 hi
  · exact put13 hi
def nxtX (A : Tb) (x y : Nat) : Prop := (stN A (cv A x) ≠ 0 ∧ y = x) ∨ (stN A (cv A x) = 0 ∧ ((bm (ows A x (x % 2)) 56 = 0 ∧ y = flp x) ∨ ∃ d, ows A x (x % 2) d = true ∧ y = afx x d))
theorem nxtX_ok {A : Tb} (w : wA A) {x y : Nat} (ok : okx A x) (h : nxtX A x y) : okx A y ∧ nxt A (cv A x) (cv A y) := by
  rcases h with ⟨a, rfl⟩ | ⟨a, ⟨b, rfl⟩ | ⟨d, d1, rfl⟩⟩
  · exact ⟨ok, Or.inl ⟨a, rfl⟩⟩
  · refine ⟨(flp_ok ok).1, Or.inr ⟨a, Or.inl ⟨?_, flp_cv w ok⟩⟩⟩
    rw [cv_side w ok]
    exact (ows_none w ok (by omega)).mp b
  · obtain ⟨o1, o2⟩ := afx_ok w ok d1
    refine ⟨o1, Or.inr ⟨a, Or.inr ⟨hs A d, ?_, o2⟩⟩⟩
    rw [cv_side w ok]
    exact (ows_may w ok (by omega) d1).1
theorem nxt_X {A : Tb} (w : wA A) {x c : Nat} (ok : okx A x) (h : nxt A (cv A x) c) : ∃ y, nxtX A x y ∧ cv A y = c := by
  rcases h with ⟨a, rfl⟩ | ⟨a, ⟨b, rfl⟩ | ⟨q, q1, rfl⟩⟩
  · exact ⟨x, Or.inl ⟨a, rfl⟩, rfl⟩
  · rw [cv_side w ok] at b
    exact ⟨flp x, Or.inr ⟨a, Or.inl ⟨(ows_none w ok (by omega)).mpr b, rfl⟩⟩, flp_cv w ok⟩
  · rw [cv_side w ok] at q1
    obtain ⟨d, d1, d2, d3, _⟩ := may_ows w ok (by omega) q1
    exact ⟨afx x d, Or.inr ⟨a, Or.inr ⟨d, d2, rfl⟩⟩, by rw [(afx_ok w ok d2).2, d3]⟩
def LXO (A : Tb) (F : Nat → Bool) (mk : Nat) (Q S : Nat → Prop) (N : Nat) (L : Nat → Nat) (arr : Nat) (σ : jS) : Prop := (∀ j, j < N → gI σ arr j = nI (L j) ∧ okx A (L j) ∧ F (cv A (L j)) = true ∧ Q (cv A (L j)) ∧ gI σ 15 (L j) = nI mk) ∧ (∀ i j, i < N → j < N → L i = L j → i = j) ∧ (∀ x, x < 6272 → gI σ 15 x = nI mk → ∃ j, j < N ∧ L j = x) ∧ (∀ x, x < 6272 → ∃ v, v ≤ mk ∧ gI σ 15 x = nI v) ∧ ∀ x, S x → F (cv A x) = true → ∃ j, j < N ∧ L j = x
theorem LXO_mono {A : Tb} {F : Nat → Bool} {mk N arr : Nat} {Q S S' : Nat → Prop} {L : Nat → Nat} {σ : jS} (h : LXO A F mk Q S N L arr σ) (hs : ∀ c, S' c → S c) : LXO A F mk Q S' N L arr σ := ⟨h.1, h.2.1, h.2.2.1, h.2.2.2.1, fun c q => h.2.2.2.2 c (hs c q)⟩
/-- what putting rests on -/
def XH (A : Tb) (sa sb sc : Nat → Nat) (n b : Nat) (σ : jS) : Prop := xW σ A ∧ xF σ A ∧ seX sa sb sc n σ ∧ gI σ 4 10 = nI b
theorem XH_fr {A : Tb} {sa sb sc : Nat → Nat} {n b arr : Nat} {σ σ' : jS} (ha : arr = 12 ∨ arr = 13) (f : fr [15, arr] σ σ') (h : XH A sa sb sc n b σ) : XH A sa sb sc n b σ' := by
  have f2 : fr [15, 12, 13] σ σ' := fr_mono f (by rcases ha with rfl | rfl <;> simp)
  obtain ⟨h1, h2, ⟨h3, h4, h5⟩, h6⟩ := h
  refine ⟨xW_fr f2 rfl h1, fun p hp => (fr_I f2 (by decide) p).trans (h2 p hp), ⟨h3, (fr_I f2 (by decide) _).trans h4, fun i hi => ?_⟩, (fr_I f2 (by decide) _).trans h6⟩
  rw [fr_I f2 (by decide), fr_I f2 (by decide), fr_I f2 (by decide)]
  exact h5 i hi
theorem ows_lt {A : Tb} (w : wA A) {x d : Nat} (ok : okx A x) (h : ows A x (x % 2) d = true) : d < 56 := (ows_may w ok (Nat.mod_lt x (by decide)) h).2.1
section HX
variable {A : Tb} {sa sb sc : Nat → Nat} {n k b arr : Nat} {Q S : Nat → Prop}
theorem x_putIf {N x : Nat} {L : Nat → Nat} {σ : jS} (w : wA A) (ha : arr = 12 ∨ arr = 13) (hX : XH A sa sb sc n b σ) (hk : k ≤ 40) (hb : b + 40 < 2 ^ 31) (h : LXO A (fitC sa sb sc n k) (b + k) Q S N L arr σ) (ok : okx A x) (hQ : Q (cv A x)) : ∃ N' L' σ', f_X0_putIfFits σ arr (nI N) (nI x) (nI k) = some (nI N', σ') ∧ fr [15, arr] σ σ' ∧ LXO A (fitC sa sb sc n k) (b + k) Q (fun y => S y ∨ y = x) N' L' arr σ' := by
  have h0 := h
  obtain ⟨h3, h4, h5, h6, h7⟩ := h
  obtain ⟨hW, hF, hse, h10⟩ := id hX
  have x6 := ok.1
  have e0 : f_X0_holder σ (nI x) 0 = some (nI (hs A (x0 x))) := x_holder hW ok (s := 0) (by decide)
  have e1 : f_X0_holder σ (nI x) 1 = some (nI (hs A (x1 x))) := x_holder hW ok (s := 1) (by decide)
  have o16 := hs_lt w ok.2.1
  have t16 := hs_lt w ok.2.2.1
  unfold f_X0_putIfFits f_X0_putIfFits_J40
  rw [at15 x6, bC_e, h10, nI_add]
  by_cases z : gI σ 15 x = nI (b + k)
  · rw [if_pos z]
    obtain ⟨j, j1, j2⟩ := h5 x x6 z
    refine ⟨N, L, σ, rfl, fr_rfl _ _, h3, h4, h5, h6, fun y hy hf => ?_⟩
    rcases hy with hy | rfl
    · exact h7 y hy hf
    · exact ⟨j, j1, j2⟩
  rw [if_neg z, e0, bC_e, e1, bC_e, x_fits hse hk o16 t16, bC_e]
  have ef : fitC sa sb sc n k (cv A x) = fitP sa sb sc n k (hs A (x0 x)) (hs A (x1 x)) := by
    unfold fitC
    rw [cv_one w ok, cv_two w ok]
  cases hf : fitP sa sb sc n k (hs A (x0 x)) (hs A (x1 x)) with
  | false =>
    rw [if_pos (show bI false = 0 from rfl)]
    refine ⟨N, L, σ, rfl, fr_rfl _ _, h3, h4, h5, h6, fun y hy hfx => ?_⟩
    rcases hy with hy | rfl
    · exact h7 y hy hfx
    · rw [ef, hf] at hfx; cases hfx
  | true =>
    have nj : ∀ j, j < N → L j ≠ x := fun j hj e => z (by rw [← e]; exact (h3 j hj).2.2.2.2)
    have hN : N < 6272 := by
      have := pigeon 6272 (N + 1) (up1 L N x) (fun j hj => by
        by_cases q : j = N
        · subst q; rw [up1_at]; exact x6
        · rw [up1_ne q]; exact (h3 j (by omega)).2.1.1) (fun j l hj hl e => by
        by_cases q : j = N <;> by_cases r : l = N
        · omega
        · subst q; rw [up1_at, up1_ne r] at e; exact absurd e.symm (nj l (by omega))
        · subst r; rw [up1_at, up1_ne q] at e; exact absurd e (nj j (by omega))
        · rw [up1_ne q, up1_ne r] at e; exact h4 j l (by omega) (by omega) e)
      omega
    have a15 : arr ≠ 15 := by omega
    rw [if_neg (show ¬ bI true = 0 by decide), put15 x6, bD_e, putH ha hN, bD_e, nI_1]
    generalize es : sI (sI σ 15 x (nI (b + k))) arr N (nI x) = t
    have f : fr [15, arr] σ t := by
      rw [← es]
      exact fr_trans (fr_sI _ _ _ (by simp)) (fr_sI _ _ _ (by simp))
    have o38 : ∀ j, j ≠ N → gI t arr j = gI σ arr j := fun j hj => by rw [← es, gI_nei hj, gI_ne a15]
    have o39 : ∀ j, j ≠ x → gI t 15 j = gI σ 15 j := fun j hj => by rw [← es, gI_ne (fun e => a15 e.symm), gI_nei hj]
    have a39 : gI t 15 x = nI (b + k) := by rw [← es, gI_ne (fun e => a15 e.symm), gI_sI]
    refine ⟨N + 1, up1 L N x, t, rfl, f, fun j hj => ?_, fun i j hi hj e => ?_, fun y hy he => ?_, fun y hy => ?_, fun y hy hfx => ?_⟩
    · by_cases q : j = N
      · subst q
        rw [up1_at]
        exact ⟨by rw [← es, gI_sI], ok, by rw [ef]; exact hf, hQ, a39⟩
      · rw [up1_ne q, o38 j q]
        obtain ⟨b1, b2, b3, b4, b5⟩ := h3 j (by omega)
        exact ⟨b1, b2, b3, b4, by rw [o39 _ (nj j (by omega))]; exact b5⟩
    · by_cases q : i = N <;> by_cases r : j = N
      · omega
      · subst q; rw [up1_at, up1_ne r] at e; exact absurd e.symm (nj j (by omega))
      · subst r; rw [up1_at, up1_ne q] at e; exact absurd e (nj i (by omega))
      · rw [up1_ne q, up1_ne r] at e; exact h4 i j (by omega) (by omega) e
    · by_cases q : y = x
      · exact ⟨N, by omega, by rw [up1_at, q]⟩
      · rw [o39 y q] at he
        obtain ⟨j, j1, j2⟩ := h5 y hy he
        exact ⟨j, by omega, by rw [up1_ne (by omega)]; exact j2⟩
    · by_cases q : y = x
      · exact ⟨b + k, Nat.le_refl _, by rw [q]; exact a39⟩
      · rw [o39 y q]; exact h6 y hy
    · rcases hy with hy | rfl
      · obtain ⟨j, j1, j2⟩ := h7 y hy hfx
        exact ⟨j, by omega, by rw [up1_ne (by omega)]; exact j2⟩
      · exact ⟨N, by omega, up1_at _ _ _⟩
theorem x_putOnward {N x : Nat} {L : Nat → Nat} {σ : jS} (w : wA A) (ha : arr = 12 ∨ arr = 13) (hX : XH A sa sb sc n b σ) (hk : k ≤ 40) (hb : b + 40 < 2 ^ 31) (h : LXO A (fitC sa sb sc n k) (b + k) Q S N L arr σ) (ok : okx A x) (hQ : ∀ c, nxt A (cv A x) c → Q c) : ∃ N' L' σ', f_X0_putOnward σ arr (nI N) (nI x) (nI k) = some (nI N', σ') ∧ fr [15, arr] σ σ' ∧ LXO A (fitC sa sb sc n k) (b + k) Q (fun y => S y ∨ nxtX A x y) N' L' arr σ' := by
  obtain ⟨hW, hF, hse, h10⟩ := id hX
  have x6 := ok.1
  have sle : stN A (cv A x) ≤ 2 := by
    rw [← stG_owes]; exact stG_le _ _ _
  have hQX : ∀ y, nxtX A x y → okx A y ∧ Q (cv A y) := fun y hy => ⟨(nxtX_ok w ok hy).1, hQ _ (nxtX_ok w ok hy).2⟩
  unfold f_X0_putOnward
  rw [x_howIs w hW hF ok, bC_e]
  by_cases z : stN A (cv A x) = 0
  case neg =>
    rw [if_neg (fun e => z ((nI_eq0 (by omega)).mp e))]
    have nx : nxtX A x x := Or.inl ⟨z, rfl⟩
    obtain ⟨N', L', t, a1, a2, a3⟩ := x_putIf w ha hX hk hb h ok (hQX x nx).2
    rw [a1, bD_e]
    refine ⟨N', L', t, rfl, a2, LXO_mono a3 fun y hy => ?_⟩
    rcases hy with hy | ⟨_, hy⟩ | ⟨q, _⟩
    · exact Or.inl hy
    · exact Or.inr hy
    · exact absurd q z
  rw [if_pos (show nI (stN A (cv A x)) = 0 from congrArg nI z), x_onwardOf w hW ok, bC_e]
  by_cases y0 : bm (ows A x (x % 2)) 56 = 0
  · have nx : nxtX A x (flp x) := Or.inr ⟨z, Or.inl ⟨y0, rfl⟩⟩
    obtain ⟨N', L', t, a1, a2, a3⟩ := x_putIf w ha hX hk hb h (hQX _ nx).1 (hQX _ nx).2
    rw [if_pos ((lgc0 (bm56 _)).mpr y0), show nI x ^^^ (1 : Int32) = nI (flp x) from by rw [show (1 : Int32) = nI 1 from rfl, fb_xorI, xor_flp x6], a1, bD_e]
    refine ⟨N', L', t, rfl, a2, LXO_mono a3 fun y hy => ?_⟩
    rcases hy with hy | ⟨q, _⟩ | ⟨_, ⟨_, q⟩ | ⟨d, d1, _⟩⟩
    · exact Or.inl hy
    · exact absurd z q
    · exact Or.inr q
    · have := ows_lt w ok d1
      rw [bm_zero.mp y0 d this] at d1; cases d1
  rw [if_neg (fun e => y0 ((lgc0 (bm56 _)).mp e)), x_bc64 (bm56 _), bC_e]
  have hn := fa_cnt_le (bm (ows A x (x % 2)) 56).testBit 64
  have key := jloop_ex (S := Int64 × Int32 × Int32 × jS) (O := Int32 × jS) (f := fun s => f_X0_putOnward_B58 s.2.2.2 arr (nI x) (nI k) s.1 s.2.1 s.2.2.1) (fun i s => ∃ m, m < 2 ^ 56 ∧ (∀ j, m.testBit j = true → ows A x (x % 2) j = true) ∧ s.1 = lN m ∧ s.2.2.1 = nI (fa_cnt m.testBit 64) ∧ fa_cnt m.testBit 64 + i = fa_cnt (bm (ows A x (x % 2)) 56).testBit 64 ∧ fr [15, arr] σ s.2.2.2 ∧ ∃ N' L', s.2.1 = nI N' ∧ LXO A (fitC sa sb sc n k) (b + k) Q (fun y => S y ∨ ∃ d, ows A x (x % 2) d = true ∧ m.testBit d = false ∧ y = afx x d) N' L' arr s.2.2.2) (fa_cnt (bm (ows A x (x % 2)) 56).testBit 64) (fun o => ∃ N' L', o.1 = nI N' ∧ fr [15, arr] σ o.2 ∧ LXO A (fitC sa sb sc n k) (b + k) Q (fun y => S y ∨ nxtX A x y) N' L' arr o.2) (s0 := (lN (bm (ows A x (x % 2)) 56), nI N, nI (fa_cnt (bm (ows A x (x % 2)) 56).testBit 64), σ)) ⟨bm (ows A x (x % 2)) 56, bm_lt _ _, fun j hj => ?_, rfl, rfl, by omega, fr_rfl _ _, N, L, rfl, LXO_mono h fun y hy => ?_⟩ (jfuel_big (by omega)) ?_ ?_
  · obtain ⟨⟨o, t⟩, o1, N', L', o2, o3, o4⟩ := key
    replace o2 : o = nI N' := o2
    subst o2
    exact ⟨N', L', t, o1, o3, o4⟩
  · rw [bm_bit, Bool.and_eq_true] at hj
    exact hj.2
  · rcases hy with hy | ⟨d, d1, d2, _⟩
    · exact hy
    · rw [bm_bit, d1, decide_eq_true (ows_lt w ok d1)] at d2
      cases d2
  · rintro ⟨a, c, r, t⟩ ⟨m, m1, m2, rfl, rfl, m5, f, N', L', rfl, g⟩
    replace f : fr [15, arr] σ t := f
    have zc : fa_cnt m.testBit 64 = 0 := by omega
    have mz := (cnt_zero (Nat.lt_trans m1 (by decide))).mp zc
    subst mz
    refine ⟨(nI N', t), ?_, N', L', rfl, f, LXO_mono g fun y hy => ?_⟩
    · show f_X0_putOnward_B58 t arr (nI x) (nI k) (lN 0) (nI N') (nI (fa_cnt (Nat.testBit 0) 64)) = _
      unfold f_X0_putOnward_B58 f_X0_putOnward_J101
      rw [zc, if_pos (show nI 0 ≤ 0 by decide), jw_e]
    · rcases hy with hy | ⟨q, _⟩ | ⟨_, ⟨q, _⟩ | ⟨d, d1, d2⟩⟩
      · exact Or.inl hy
      · exact absurd z q
      · exact absurd q y0
      · exact Or.inr ⟨d, d1, Nat.zero_testBit d, d2⟩
  · rintro i ⟨a, c, r, t⟩ hi ⟨m, m1, m2, rfl, rfl, m5, f, N', L', rfl, g⟩
    replace f : fr [15, arr] σ t := f
    replace m5 : fa_cnt m.testBit 64 + i = fa_cnt (bm (ows A x (x % 2)) 56).testBit 64 := m5
    have hne : m ≠ 0 := by
      rintro rfl
      have := (cnt_zero (m := 0) (n := 64) (by decide)).mpr rfl
      omega
    obtain ⟨j, hj⟩ := low_ex hne
    have hj56 := low_lt hj m1
    have hjo := m2 j hj.1
    have hc := low_cnt (n := 64) hj (by omega)
    have nx : nxtX A x (afx x j) := Or.inr ⟨z, Or.inr ⟨j, hjo, rfl⟩⟩
    obtain ⟨N2, L2, t2, a1, a2, a3⟩ := x_putIf w ha (XH_fr ha f hX) hk hb g (hQX _ nx).1 (hQX _ nx).2
    refine Or.inl ?_
    show ∃ s', f_X0_putOnward_B58 t arr (nI x) (nI k) (lN m) (nI N') (nI (fa_cnt m.testBit 64)) = _ ∧ _
    unfold f_X0_putOnward_B58
    rw [if_neg (nI_nle (by omega) (by omega)), x_lowest hj (Nat.lt_trans m1 (by decide)), bC_e, x_after x6, bC_e, a1, bD_e, low_dec hj (Nat.lt_trans m1 (by decide)), bV_e, bV_e]
    refine ⟨_, rfl, m &&& (m - 1), Nat.lt_of_le_of_lt Nat.and_le_left m1, fun d hd => ?_, rfl, ?_, by omega, fr_trans f a2, N2, L2, rfl, LXO_mono a3 fun y hy => ?_⟩
    · rw [low_drop hj, Bool.and_eq_true] at hd
      exact m2 d hd.1
    · show nI _ + (-1) = nI _
      rw [← hc]
      show nI (_ + 1) + (-1) = _
      rw [nI_succ]
      simp [Int32.add_assoc]
    · rcases hy with hy | ⟨d, d1, d2, d3⟩
      · exact Or.inl (Or.inl hy)
      · rw [low_drop hj] at d2
        by_cases e : d = j
        · subst e; exact Or.inr d3
        · refine Or.inl (Or.inr ⟨d, d1, ?_, d3⟩)
          rw [decide_eq_true e, Bool.and_true] at d2
          exact d2
end HX
