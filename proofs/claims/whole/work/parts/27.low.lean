/-! the lowest bit -/
def lowAt (m k : Nat) : Prop := m.testBit k = true ∧ ∀ i, i < k → m.testBit i = false
theorem low_ex {m : Nat} (h : m ≠ 0) : ∃ k, lowAt m k := by
  have hx : ∃ k, m.testBit k = true := by
    obtain ⟨k, hk⟩ := Nat.exists_testBit_of_ne_zero h
    exact ⟨k, hk⟩
  obtain ⟨k, h1, h2⟩ := pk_least (fun k => m.testBit k = true) hx
  exact ⟨k, h1, fun i hi => by simpa using h2 i hi⟩
theorem low_form {m k : Nat} (h : lowAt m k) : m = 2 ^ (k + 1) * (m / 2 ^ (k + 1)) + 2 ^ k := by
  have : m % 2 ^ (k + 1) = 2 ^ k := by
    apply Nat.eq_of_testBit_eq
    intro i
    rw [Nat.testBit_mod_two_pow, Nat.testBit_two_pow]
    rcases Nat.lt_trichotomy i k with q | q | q
    · rw [h.2 i q]
      have : ¬ k = i := by omega
      simp [this]
    · subst q; simp [h.1]
    · have : ¬ k = i := by omega
      have h2 : ¬ i < k + 1 := by omega
      simp [this, h2]
  have := Nat.div_add_mod m (2 ^ (k + 1))
  omega
/-- one less: the bits below turn on, the lowest off -/
theorem low_pred {m k : Nat} (h : lowAt m k) (i : Nat) : (m - 1).testBit i = if i < k then true else if i = k then false else m.testBit i := by
  have hp : 0 < 2 ^ k := Nat.two_pow_pos k
  have e : m - 1 = 2 ^ (k + 1) * (m / 2 ^ (k + 1)) + (2 ^ k - 1) := by have := low_form h; omega
  have hlt : 2 ^ k - 1 < 2 ^ (k + 1) := by rw [Nat.pow_succ]; omega
  rw [e, Nat.testBit_two_pow_mul_add _ hlt, Nat.testBit_two_pow_sub_one]
  rcases Nat.lt_trichotomy i k with q | q | q
  · rw [if_pos (by omega), if_pos q]; simp [q]
  · subst q; rw [if_pos (by omega), if_neg (by omega), if_pos rfl]; simp
  · rw [if_neg (by omega), if_neg (by omega), if_neg (by omega), Nat.testBit_div_two_pow]
    congr 1; omega
theorem low_drop {m k : Nat} (h : lowAt m k) (i : Nat) : (m &&& (m - 1)).testBit i = (m.testBit i && decide (i ≠ k)) := by
  rw [Nat.testBit_and, low_pred h]
  rcases Nat.lt_trichotomy i k with q | q | q
  · rw [if_pos q, h.2 i q]; rfl
  · subst q; simp
  · rw [if_neg (by omega), if_neg (by omega)]
    have : i ≠ k := by omega
    simp [this]
theorem low_cut {m k : Nat} (h : lowAt m k) (hm : m < 2 ^ 63) : m &&& (2 ^ 64 - m) = 2 ^ k := by
  have h0 : 0 < m := by
    rcases Nat.eq_zero_or_pos m with z | z
    · subst z; have := h.1; simp at this
    · exact z
  apply Nat.eq_of_testBit_eq
  intro i
  have e : 2 ^ 64 - m = 2 ^ 64 - ((m - 1) + 1) := by omega
  rw [Nat.testBit_and, e, Nat.testBit_two_pow_sub_succ (by omega), low_pred h, Nat.testBit_two_pow]
  rcases Nat.lt_trichotomy i k with q | q | q
  · rw [h.2 i q]
    have : ¬ k = i := by omega
    simp [this]
  · subst q
    have : i < 64 := by
      apply Classical.byContradiction
      intro z
      have : m.testBit i = false := Nat.testBit_lt_two_pow (Nat.lt_of_lt_of_le hm (Nat.pow_le_pow_right (by decide) (by omega)))
      rw [h.1] at this; cases this
    simp [h.1, this]
  · rw [if_neg (by omega), if_neg (by omega)]
    have : ¬ k = i := by omega
    cases m.testBit i <;> simp [this]
theorem lN_neg {m : Nat} (h0 : 0 < m) (hm : m < 2 ^ 63) : -(lN m) = lN (2 ^ 64 - m) := by
  apply Int64.toBitVec_inj.mp
  show -(BitVec.ofNat 64 m) = BitVec.ofNat 64 (2 ^ 64 - m)
  apply BitVec.eq_of_toNat_eq
  rw [BitVec.toNat_neg, BitVec.toNat_ofNat, BitVec.toNat_ofNat, Nat.mod_eq_of_lt (show m < 2 ^ 64 by omega)]
theorem x_lowest {m k : Nat} (h : lowAt m k) (hm : m < 2 ^ 63) : f_X6_lowest (lN m) = some (nI k) := by
  have h0 : 0 < m := by
    rcases Nat.eq_zero_or_pos m with z | z
    · subst z; have := h.1; simp at this
    · exact z
  have hk : k < 63 := by
    apply Classical.byContradiction
    intro z
    have : m.testBit k = false := Nat.testBit_lt_two_pow (Nat.lt_of_lt_of_le hm (Nat.pow_le_pow_right (by decide) (by omega)))
    rw [h.1] at this; cases this
  have hp : 2 ^ k < 2 ^ 63 := Nat.pow_lt_pow_right (by decide) hk
  have hp0 : 0 < 2 ^ k := Nat.two_pow_pos k
  unfold f_X6_lowest
  rw [lN_neg h0 hm, fb_andL, low_cut h hm, show (1 : Int64) = lN 1 from rfl, lN_sub (by omega), x_bc64 (by omega), bC_e]
  congr 2
  have e : fa_cnt (2 ^ k - 1).testBit 64 = fa_cnt (fun i => decide (i < k)) 64 := fa_cnt_cong fun i _ => Nat.testBit_two_pow_sub_one k i
  rw [e]
  have g : ∀ n, fa_cnt (fun i => decide (i < k)) n = if n ≤ k then n else k := by
    intro n
    induction n with
    | zero => rw [fa_cnt]; simp
    | succ n ih =>
      rw [fa_cnt, ih]
      by_cases q : n < k
      · rw [if_pos (by omega), if_pos (by simpa using q), if_pos (by omega)]
      · rw [if_neg (show ¬ (decide (n < k)) = true by simpa using q), if_neg (show ¬ n + 1 ≤ k by omega)]
        split <;> omega
  rw [g, if_neg (by omega)]
theorem x_lowest0 : f_X6_lowest 0 = some (nI 64) := by decide +kernel
