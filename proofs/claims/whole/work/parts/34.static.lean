/-! the told town, the grudges, the law: the class's state against the reference's table -/
def xTo (σ : jS) (A : Tb) (T : Nat) : Prop := gI σ T 6 = nI (tP A) ∧ gI σ T 7 = nI (tT A) ∧ gI σ T 8 = nI (tQ A) ∧ (∀ p, p < tP A → gI σ (T + 1) p = nI (A 2 p)) ∧ (∀ t, t < tT A → gI σ (T + 2) t = nI (A 3 t) ∧ gI σ (T + 3) t = nI (A 4 t)) ∧ ∀ q, q < tQ A → gI σ (T + 4) q = nI (A 7 q) ∧ gI σ (T + 5) q = nI (A 8 q)
def xT (σ : jS) (A : Tb) : Prop := (σ.2.2.1 = 51 ∨ σ.2.2.1 = 61) ∧ xTo σ A σ.2.2.1
def xG (σ : jS) (A : Tb) : Prop := gI σ 32 3 = nI (tG A) ∧ (∀ g, g < tG A → gI σ 33 g = nI (A 6 g / 100) ∧ gI σ 34 g = nI (A 6 g % 100)) ∧ ∀ p, p < 16 → gI σ 35 p = nI (bm (bears A p) 16)
def xL (σ : jS) (A : Tb) : Prop := gI σ 29 3 = nI (tW A) ∧ gI σ 29 4 = nI (tB A)
theorem T_in {T : Nat} (h : T = 51 ∨ T = 61) : T ∈ [51, 61] := by rcases h with rfl | rfl <;> decide
theorem x_isPerson {σ : jS} {A : Tb} (hT : xT σ A) (hP : tP A ≤ 16) (x : Int32) : (∃ p, p < tP A ∧ x = nI p ∧ f_X10_isPerson σ x = some 1) ∨ ((∀ p, p < tP A → x ≠ nI p) ∧ f_X10_isPerson σ x = some 0) := by
  unfold f_X10_isPerson f_X10_isPerson_J19 f_X10_isPerson_J20
  by_cases h0 : x < 0
  · refine Or.inr ⟨fun p hp e => ?_, ?_⟩
    · subst e; exact nI_pos (by omega) h0
    · rw [if_pos h0]; rfl
  · obtain ⟨j, hj, rfl⟩ := nI_of h0
    rw [if_neg h0, bV_e, bH_t (T_in hT.1), hT.2.1]
    by_cases q : j < tP A
    · exact Or.inl ⟨j, q, rfl, by rw [if_neg (nI_ge q (by omega))]; rfl⟩
    · refine Or.inr ⟨fun p hp e => ?_, by rw [if_pos (nI_le (by omega) hj)]; rfl⟩
      have := (nI_eq hj (by omega)).mp e
      omega
theorem x_isTurn {σ : jS} {A : Tb} (hT : xT σ A) (hP : tT A ≤ 40) (x : Int32) : (∃ p, p < tT A ∧ x = nI p ∧ f_X10_isTurn σ x = some 1) ∨ ((∀ p, p < tT A → x ≠ nI p) ∧ f_X10_isTurn σ x = some 0) := by
  unfold f_X10_isTurn f_X10_isTurn_J19 f_X10_isTurn_J20
  by_cases h0 : x < 0
  · refine Or.inr ⟨fun p hp e => ?_, ?_⟩
    · subst e; exact nI_pos (by omega) h0
    · rw [if_pos h0]; rfl
  · obtain ⟨j, hj, rfl⟩ := nI_of h0
    rw [if_neg h0, bV_e, bH_t (T_in hT.1), hT.2.2.1]
    by_cases q : j < tT A
    · exact Or.inl ⟨j, q, rfl, by rw [if_neg (nI_ge q (by omega))]; rfl⟩
    · refine Or.inr ⟨fun p hp e => ?_, by rw [if_pos (nI_le (by omega) hj)]; rfl⟩
      have := (nI_eq hj (by omega)).mp e
      omega
theorem x_isQuarrel {σ : jS} {A : Tb} (hT : xT σ A) (hP : tQ A ≤ 4) (x : Int32) : (∃ p, p < tQ A ∧ x = nI p ∧ f_X10_isQuarrel σ x = some 1) ∨ ((∀ p, p < tQ A → x ≠ nI p) ∧ f_X10_isQuarrel σ x = some 0) := by
  unfold f_X10_isQuarrel f_X10_isQuarrel_J19 f_X10_isQuarrel_J20
  by_cases h0 : x < 0
  · refine Or.inr ⟨fun p hp e => ?_, ?_⟩
    · subst e; exact nI_pos (by omega) h0
    · rw [if_pos h0]; rfl
  · obtain ⟨j, hj, rfl⟩ := nI_of h0
    rw [if_neg h0, bV_e, bH_t (T_in hT.1), hT.2.2.2.1]
    by_cases q : j < tQ A
    · exact Or.inl ⟨j, q, rfl, by rw [if_neg (nI_ge q (by omega))]; rfl⟩
    · refine Or.inr ⟨fun p hp e => ?_, by rw [if_pos (nI_le (by omega) hj)]; rfl⟩
      have := (nI_eq hj (by omega)).mp e
      omega
/-- both say alike whether it is one -/
theorem is_both {n : Nat} {P Q : Int32 → Option Int32} {x : Int32} (h1 : (∃ p, p < n ∧ x = nI p ∧ P x = some 1) ∨ ((∀ p, p < n → x ≠ nI p) ∧ P x = some 0)) (h2 : (∃ p, p < n ∧ x = nI p ∧ Q x = some 1) ∨ ((∀ p, p < n → x ≠ nI p) ∧ Q x = some 0)) : (∃ p, p < n ∧ x = nI p ∧ P x = some 1 ∧ Q x = some 1) ∨ (P x = some 0 ∧ Q x = some 0) := by
  rcases h1 with ⟨p, a1, a2, a3⟩ | ⟨a1, a2⟩ <;> rcases h2 with ⟨q, b1, b2, b3⟩ | ⟨b1, b2⟩
  · exact Or.inl ⟨p, a1, a2, a3, b3⟩
  · exact absurd a2 (b1 p a1)
  · exact absurd b2 (a1 q b1)
  · exact Or.inr ⟨a2, b2⟩
/-! rows of the told town -/
theorem atT {σ : jS} {T j n i : Nat} (hT : T = 51 ∨ T = 61) (hj : (j = 0 ∧ n = 16) ∨ (j = 1 ∧ n = 40) ∨ (j = 2 ∧ n = 40) ∨ (j = 3 ∧ n = 4) ∨ (j = 4 ∧ n = 4)) (hi : i < n) : f_X6_at σ (rPX T j) (nI i) = some (gI σ (T + j + 1) i) := by
  rcases hT with rfl | rfl <;> rcases hj with ⟨rfl, rfl⟩ | ⟨rfl, rfl⟩ | ⟨rfl, rfl⟩ | ⟨rfl, rfl⟩ | ⟨rfl, rfl⟩
  · exact x_at (h := 52) (by decide) rfl hi (by decide)
  · exact x_at (h := 53) (by decide) rfl hi (by decide)
  · exact x_at (h := 54) (by decide) rfl hi (by decide)
  · exact x_at (h := 55) (by decide) rfl hi (by decide)
  · exact x_at (h := 56) (by decide) rfl hi (by decide)
  · exact x_at (h := 62) (by decide) rfl hi (by decide)
  · exact x_at (h := 63) (by decide) rfl hi (by decide)
  · exact x_at (h := 64) (by decide) rfl hi (by decide)
  · exact x_at (h := 65) (by decide) rfl hi (by decide)
  · exact x_at (h := 66) (by decide) rfl hi (by decide)
