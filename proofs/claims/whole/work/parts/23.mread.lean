/-! the reference's readers -/
def wR (τ : jS) : Prop := wN τ ∧ wS τ ∧ wT τ ∧ wG τ
theorem in_of {x : Int32} {n : Nat} (hn : n ≤ 1000) : (∃ p, p < n ∧ x = nI p ∧ f_X11_in x.toInt64 0 ((nI n - 1).toInt64) = some 1) ∨ ((∀ p, p < n → x ≠ nI p) ∧ f_X11_in x.toInt64 0 ((nI n - 1).toInt64) = some 0) := by
  unfold f_X11_in f_X11_in_J17 f_X11_in_J18
  have hx : x.toInt64.toInt = x.toInt := Int32.toInt_toInt64 x
  by_cases h0 : x < 0
  · refine Or.inr ⟨fun p hp e => ?_, ?_⟩
    · subst e; exact nI_pos (by omega) h0
    · rw [if_pos ((lg_cmp_lt _ _).mpr ?_)]; rfl
      rw [Int64.lt_iff_toInt_lt, hx]
      exact Int32.lt_iff_toInt_lt.mp h0
  · obtain ⟨j, hj, rfl⟩ := nI_of h0
    have e1 : ¬ lg_cmp (nI j).toInt64 0 < 0 := by
      rw [lg_cmp_lt, nI_l hj]
      intro q
      have := (lN_lt (b := 0) hj (by decide)).mp q
      omega
    rw [if_neg e1]
    rcases Nat.lt_or_ge j n with q | q
    · refine Or.inl ⟨j, q, rfl, ?_⟩
      have e2 : ¬ 0 < lg_cmp (nI j).toInt64 ((nI n - 1).toInt64) := by
        rw [lg_cmp_gt, show (1 : Int32) = nI 1 from rfl, nI_sub (by omega), nI_l (by omega), nI_l hj, lN_lt (by omega) hj]
        omega
      rw [if_neg e2]; rfl
    · refine Or.inr ⟨fun p hp e => ?_, ?_⟩
      · have := (nI_eq hj (by omega)).mp e
        omega
      · have e2 : 0 < lg_cmp (nI j).toInt64 ((nI n - 1).toInt64) := by
          rw [lg_cmp_gt]
          rcases Nat.eq_zero_or_pos n with z | z
          · subst z
            rw [nI_l hj, Int64.lt_iff_toInt_lt, lN_toInt hj]
            exact Int.lt_of_lt_of_le (show ((nI 0 - 1).toInt64).toInt < 0 from by decide) (Int.natCast_nonneg j)
          · rw [show (1 : Int32) = nI 1 from rfl, nI_sub (by omega), nI_l (by omega), nI_l hj, lN_lt (by omega) hj]
            omega
        rw [if_pos e2]; rfl
theorem m_isPerson {τ : jS} (hN : wN τ) (x : Int32) : (∃ p, p < tP (mn τ) ∧ x = nI p ∧ f_X11_isPerson τ x = some 1) ∨ ((∀ p, p < tP (mn τ) → x ≠ nI p) ∧ f_X11_isPerson τ x = some 0) := by
  unfold f_X11_isPerson
  rw [hN.1.1]
  rcases in_of (x := x) (n := tP (mn τ)) (by have := hN.1.2; omega) with ⟨p, h1, h2, h3⟩ | ⟨h1, h2⟩
  · exact Or.inl ⟨p, h1, h2, by rw [h3]; rfl⟩
  · exact Or.inr ⟨h1, by rw [h2]; rfl⟩
theorem m_isQuarrel {τ : jS} (hN : wN τ) (x : Int32) : (∃ p, p < tQ (mn τ) ∧ x = nI p ∧ f_X11_isQuarrel τ x = some 1) ∨ ((∀ p, p < tQ (mn τ) → x ≠ nI p) ∧ f_X11_isQuarrel τ x = some 0) := by
  unfold f_X11_isQuarrel
  rw [hN.2.2.2.1.1]
  rcases in_of (x := x) (n := tQ (mn τ)) (by have := hN.2.2.2.1.2; omega) with ⟨p, h1, h2, h3⟩ | ⟨h1, h2⟩
  · exact Or.inl ⟨p, h1, h2, by rw [h3]; rfl⟩
  · exact Or.inr ⟨h1, by rw [h2]; rfl⟩
/-- the last grudge of two, plus 1 -/
def lastG (A : Tb) (a b : Nat) : Nat → Nat
  | 0 => 0
  | n + 1 => if bearsAt A a b n then n + 1 else lastG A a b n
theorem lastG_le (A : Tb) (a b : Nat) : ∀ n, lastG A a b n ≤ n
  | 0 => Nat.le_refl 0
  | n + 1 => by
    have := lastG_le A a b n
    rw [lastG]; split <;> omega
theorem lastG_0 (A : Tb) (a b : Nat) : ∀ n, lastG A a b n = 0 ↔ bex n (bearsAt A a b) = false
  | 0 => by simp [lastG, bex_0]
  | n + 1 => by
    rw [lastG, bex_succ]
    have := lastG_0 A a b n
    cases h : bearsAt A a b n with
    | true => simp
    | false => simpa using this
theorem lastG_at (A : Tb) (a b : Nat) : ∀ n, 0 < lastG A a b n → bearsAt A a b (lastG A a b n - 1) = true
  | 0 => by simp [lastG]
  | n + 1 => by
    rw [lastG]
    cases h : bearsAt A a b n with
    | true => simpa using h
    | false => simpa using lastG_at A a b n
theorem nI_m1 : nI 0 - 1 = -1 := by decide
theorem m_grudgeOf {τ : jS} (hN : wN τ) (hG : wG τ) {a b : Nat} (ha : a < 16) (hb : b < 16) : f_X11_grudgeOf τ (nI a) (nI b) = some (nI (lastG (mn τ) a b (tG (mn τ))) - 1) := by
  unfold f_X11_grudgeOf
  have hg := hN.2.2.1
  refine jloop_0 (fun i => (nI (lastG (mn τ) a b i) - 1, nI i)) (tG (mn τ)) rfl (Nat.lt_of_le_of_lt hg.2 (by decide +kernel)) ?_ ?_
  · show f_X11_grudgeOf_B5 τ _ _ _ _ = _
    unfold f_X11_grudgeOf_B5
    rw [hg.1, if_pos (by exact Int32.le_refl _)]
    rfl
  · intro i hi
    show f_X11_grudgeOf_B5 τ _ _ _ _ = _
    unfold f_X11_grudgeOf_B5
    have h120 : i < 120 := by omega
    obtain ⟨e1, e2, e3, e4⟩ := hG.1 i hi
    rw [hg.1, if_neg (nI_ge hi (by omega)), bG_t (jin_nI h120 (by omega)), ix_nI (by omega), e1]
    have e5 : (100 : Int32) * nI a + nI b = nI (100 * a + b) := by rw [show (100 : Int32) = nI 100 from rfl, nI_mul, nI_add]
    have e6 : (100 : Int32) * nI b + nI a = nI (100 * b + a) := by rw [show (100 : Int32) = nI 100 from rfl, nI_mul, nI_add]
    have hP := hN.1.2
    have hlt : mn τ 6 i < 2 ^ 31 := by omega
    rw [e5, e6]
    show _ = some (Sum.inl (nI (lastG (mn τ) a b (i + 1)) - 1, nI (i + 1)))
    rw [lastG, bearsAt]
    by_cases q : mn τ 6 i = 100 * a + b
    · rw [if_pos ((nI_eq hlt (by omega)).mpr q), if_pos (by simp [q])]
      show some (Sum.inl (nI i, nI i + 1)) = _
      rw [nI_pred, nI_1]
    · rw [if_neg (fun h => q ((nI_eq hlt (by omega)).mp h)), bG_t (jin_nI h120 (by omega))]
      by_cases q2 : mn τ 6 i = 100 * b + a
      · rw [if_pos ((nI_eq hlt (by omega)).mpr q2), if_pos (by simp [q2])]
        show some (Sum.inl (nI i, nI i + 1)) = _
        rw [nI_pred, nI_1]
      · rw [if_neg (fun h => q2 ((nI_eq hlt (by omega)).mp h)), if_neg (by simp [q, q2])]
        show some (Sum.inl (_, nI i + 1)) = _
        rw [nI_1]
theorem nI_p1 {n : Nat} (h : n < 2 ^ 31) : 0 ≤ nI n - 1 ↔ 0 < n := by
  rcases Nat.eq_zero_or_pos n with z | z
  · subst z; decide
  · rw [show (1 : Int32) = nI 1 from rfl, nI_sub z]
    exact ⟨fun _ => z, fun _ => nI_pos' (by omega)⟩
theorem m_isEnded {τ : jS} (hN : wN τ) (hG : wG τ) {c : Nat} (hc : c < 147968) : f_X11_isEnded τ (nI c) = some (if ended (mn τ) c then 1 else 0) := by
  unfold f_X11_isEnded
  rw [m_one hc, bC_e, m_two hc, bC_e, m_grudgeOf hN hG (cOne_lt hc) (cTwo_lt c), bC_e]
  have hl := lastG_le (mn τ) (cOne c) (cTwo c) (tG (mn τ))
  have h0 := lastG_0 (mn τ) (cOne c) (cTwo c) (tG (mn τ))
  have hg := hN.2.2.1.2
  unfold ended bears
  rcases Nat.eq_zero_or_pos (lastG (mn τ) (cOne c) (cTwo c) (tG (mn τ))) with z | z
  · rw [if_neg (fun h => by have := (nI_p1 (by omega)).mp h; omega), h0.mp z]; rfl
  · rw [if_pos ((nI_p1 (by omega)).mpr z)]
    cases h : bex (tG (mn τ)) (bearsAt (mn τ) (cOne c) (cTwo c)) with
    | false => exact absurd (h0.mpr h) (by omega)
    | true => rfl
theorem st_a : ∀ a, a < 10 → ∀ b, b < 10 → (nI b - nI a = -1 ↔ b + 1 = a) ∧ (0 ≤ nI b - nI a ↔ a ≤ b) ∧ (nI b - nI a = 1 ↔ b = a + 1) := by decide +kernel
theorem m_isLawful {τ : jS} (hN : wN τ) (hS : wS τ) {p q : Nat} (hp : p < 16) (hq : q < 16) : f_X11_isLawful τ (nI p) (nI q) = some (if lawful (mn τ) p q then 1 else 0) := by
  unfold f_X11_isLawful
  rw [bG_t (jin_nI hq (by omega)), bG_t (jin_nI hp (by omega)), bV_e, ix_nI (by omega), ix_nI (by omega), (hS p hp).1, (hS q hq).1]
  obtain ⟨a1, a2, a3⟩ := st_a (mn τ 2 p) (by have := (hS p hp).2; omega) (mn τ 2 q) (by have := (hS q hq).2; omega)
  obtain ⟨w1, w2⟩ := hN.2.2.2.2.1
  rw [w1]
  have : tW (mn τ) = 0 ∨ tW (mn τ) = 1 ∨ tW (mn τ) = 2 ∨ tW (mn τ) = 3 := by omega
  unfold f_X11_isLawful_J67 f_X11_isLawful_J72
  rcases this with h | h | h | h
  · rw [show lawful (mn τ) p q = (mn τ 2 q + 1 == mn τ 2 p) by simp [lawful, h], h, if_pos (show nI 0 = 0 from rfl)]
    by_cases z : mn τ 2 q + 1 = mn τ 2 p
    · rw [if_pos (a1.mpr z), if_pos (by simp [z])]; rfl
    · rw [if_neg (fun y => z (a1.mp y)), if_neg (by simp [z])]; rfl
  · rw [show lawful (mn τ) p q = decide (mn τ 2 q < mn τ 2 p) by simp [lawful, h], h, if_neg (show ¬ nI 1 = 0 by decide), if_pos (show nI 1 = 1 from rfl)]
    by_cases z : mn τ 2 p ≤ mn τ 2 q
    · rw [if_pos (a2.mpr z), if_neg (by simp; omega)]; rfl
    · rw [if_neg (fun y => z (a2.mp y)), if_pos (by simp; omega)]; rfl
  · rw [show lawful (mn τ) p q = true by simp [lawful, h], h, if_neg (show ¬ nI 2 = 0 by decide), if_neg (show ¬ nI 2 = 1 by decide), if_pos (show nI 2 = 2 from rfl)]; rfl
  · rw [show lawful (mn τ) p q = (mn τ 2 q == mn τ 2 p + 1) by simp [lawful, h], h, if_neg (show ¬ nI 3 = 0 by decide), if_neg (show ¬ nI 3 = 1 by decide), if_neg (show ¬ nI 3 = 2 by decide)]
    by_cases z : mn τ 2 q = mn τ 2 p + 1
    · rw [if_pos (a3.mpr z), if_pos (by simp [z])]; rfl
    · rw [if_neg (fun y => z (a3.mp y)), if_neg (by simp [z])]; rfl
