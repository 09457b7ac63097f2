/-! the r-th of a set, in both tongues -/
theorem cnt_mono (p : Nat → Bool) : ∀ {a b : Nat}, a ≤ b → fa_cnt p a ≤ fa_cnt p b := by
  intro a b h
  obtain ⟨c, rfl⟩ := Nat.le.dest h
  rw [fa_cnt_add]
  omega
/-- the r-th is there -/
theorem nth_ex (p : Nat → Bool) : ∀ n r, r < fa_cnt p n → ∃ k, k < n ∧ p k = true ∧ fa_cnt p k = r
  | 0, r, h => by simp [fa_cnt] at h
  | n + 1, r, h => by
    by_cases q : r < fa_cnt p n
    · obtain ⟨k, h1, h2⟩ := nth_ex p n r q
      exact ⟨k, by omega, h2⟩
    · rw [fa_cnt] at h
      cases hp : p n with
      | false => rw [hp] at h; simp at h; omega
      | true => rw [hp] at h; simp at h; exact ⟨n, by omega, hp, by omega⟩
theorem cnt_none {p : Nat → Bool} {n : Nat} (h : fa_cnt p n = 0) : ∀ i, i < n → p i = false := by
  intro i hi
  have := cnt_mono p (show i + 1 ≤ n from hi)
  rw [fa_cnt] at this
  cases hp : p i with
  | false => rfl
  | true => rw [hp] at this; simp at this; omega
theorem low_decI {m k : Nat} (h : lowAt m k) : nI m &&& (nI m - 1) = nI (m &&& (m - 1)) := by
  have h0 : 1 ≤ m := by
    rcases Nat.eq_zero_or_pos m with z | z
    · subst z; have := h.1; simp at this
    · exact z
  rw [show (1 : Int32) = nI 1 from rfl, nI_sub h0, nI_and]
theorem x_numbered {m r k : Nat} (hm : m < 2 ^ 31) (hk : m.testBit k = true) (hr : fa_cnt m.testBit k = r) (hr16 : r ≤ 31) : f_X6_numbered (nI m) (nI r) = some (nI k) := by
  unfold f_X6_numbered
  have key := jloop_ex (S := Int32 × Int32) (O := Int32) (f := fun s => f_X6_numbered_B4 (nI r) s.1 s.2) (fun i s => ∃ n, n < 2 ^ 31 ∧ n.testBit k = true ∧ fa_cnt n.testBit k + i = r ∧ s = (nI n, nI i)) r (fun o => o = nI k) (s0 := (nI m, 0)) ⟨m, hm, hk, by omega, rfl⟩ (jfuel_big (by omega)) ?_ ?_
  · obtain ⟨o, e1, e2⟩ := key
    rw [e1, e2]
  · rintro s ⟨n, h1, h2, h3, rfl⟩
    refine ⟨_, ?_, rfl⟩
    show f_X6_numbered_B4 _ _ _ = _
    unfold f_X6_numbered_B4 f_X6_numbered_J21
    have lw : lowAt n k := ⟨h2, cnt_none (by omega)⟩
    rw [if_pos (Int32.le_refl _)]
    show jw (bC (f_X6_lowest (nI n).toInt64) _) = _
    rw [nI_l h1, x_lowest lw (Nat.lt_trans h1 (by decide)), bC_e, jw_e]
  · rintro i s hi ⟨n, h1, h2, h3, rfl⟩
    refine Or.inl ?_
    have hne : n ≠ 0 := by rintro rfl; simp at h2
    obtain ⟨j, hj⟩ := low_ex hne
    have hjk : j < k := by
      apply Classical.byContradiction
      intro z
      have e : ∀ i, i < k → n.testBit i = false := fun i hi => hj.2 i (by omega)
      have : fa_cnt n.testBit k = fa_cnt (fun _ => false) k := fa_cnt_cong fun i hi => e i hi
      have g : ∀ q, fa_cnt (fun _ => false) q = 0 := by
        intro q
        induction q with
        | zero => rfl
        | succ q ih => rw [fa_cnt, ih]; rfl
      rw [g] at this
      omega
    have hc := low_cnt hj hjk
    show ∃ s', f_X6_numbered_B4 _ _ _ = _ ∧ _
    unfold f_X6_numbered_B4
    rw [if_neg (show ¬ nI r ≤ nI i from nI_ge hi (by omega)), low_decI hj, bV_e, bV_e, nI_1]
    refine ⟨_, rfl, n &&& (n - 1), Nat.lt_of_le_of_lt Nat.and_le_left h1, ?_, by omega, rfl⟩
    rw [low_drop hj, h2]
    have : k ≠ j := by omega
    simp [this]
theorem m_hasT {p : Nat → Bool} {n k : Nat} (hn : n ≤ 31) (hk : k < n) (hp : p k = true) : f_X11_has (nI (bm p n)) (nI k) = some 1 := by
  rw [m_has hn (by omega), if_pos ⟨hk, hp⟩]
theorem m_hasF {p : Nat → Bool} {n k : Nat} (hn : n ≤ 31) (hk : k < 32) (hp : p k = false) : f_X11_has (nI (bm p n)) (nI k) = some 0 := by
  rw [m_has hn hk, if_neg (by simp [hp])]
/-- the reference's draw among a set -/
theorem m_drawn_loop {τ : jS} {p : Nat → Bool} {k r : Nat} (hk : k < 16) (hp : p k = true) (hr : fa_cnt p k = r) : jloop jFuel (fun s : Int32 × Int32 × jS => f_X11_drawn_B11 s.2.2 (nI (bm p 16)) s.1 s.2.1) (nI r, 0, τ) = some (nI k, τ) := by
  have hle := fa_cnt_le p k
  refine jloop_0 (fun i => (nI (r - fa_cnt p i), nI i, τ)) k (by simp [fa_cnt]; rfl) (jfuel_big (by omega)) ?_ ?_
  · show f_X11_drawn_B11 τ (nI (bm p 16)) (nI (r - fa_cnt p k)) (nI k) = _
    unfold f_X11_drawn_B11 f_X11_drawn_J45
    rw [m_hasT (by decide) hk hp, bC_e, if_neg (show ¬ (1 : Int32) = 0 by decide), if_pos (show nI (r - fa_cnt p k) ≤ 0 by rw [hr, Nat.sub_self]; decide)]
    rfl
  · intro i hi
    have hmo := cnt_mono p (show i + 1 ≤ k from hi)
    show f_X11_drawn_B11 τ (nI (bm p 16)) (nI (r - fa_cnt p i)) (nI i) = some (Sum.inl (nI (r - fa_cnt p (i + 1)), nI (i + 1), τ))
    unfold f_X11_drawn_B11 f_X11_drawn_J23 f_X11_drawn_J37
    rw [fa_cnt] at hmo ⊢
    cases hpi : p i with
    | false =>
      rw [m_hasF (by decide) (by omega) hpi, bC_e, if_pos rfl, bC_e, if_pos rfl, bV_e, bV_e, nI_1]; simp
    | true =>
      rw [hpi] at hmo
      simp at hmo
      rw [m_hasT (by decide) (by omega) hpi, bC_e, if_neg (show ¬ (1 : Int32) = 0 by decide), if_neg (show ¬ nI (r - fa_cnt p i) ≤ 0 from nI_nle (by omega) (by omega)), bC_e, if_neg (show ¬ (1 : Int32) = 0 by decide), bV_e, bV_e, nI_1, show nI (r - fa_cnt p i) - 1 = nI (r - fa_cnt p i - 1) from nI_sub (a := r - fa_cnt p i) (b := 1) (by omega)]
      simp [Nat.sub_sub]
