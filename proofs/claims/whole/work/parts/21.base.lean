/-! LAYER 2, the words: inversions forward, loops, masks -/
theorem bV_e {α β : Type} (v : α) (k : α → β) : bV v k = k v := rfl
theorem bC_e {α β : Type} (a : α) (k : α → Option β) : bC (some a) k = k a := rfl
theorem bD_e {α β : Type} (a : α) (s : jS) (k : α → jS → Option β) : bD (some (a, s)) k = k a s := rfl
theorem bG_e {β : Type} (k : Option β) : bG true k = k := rfl
theorem bG_t {β : Type} {b : Bool} {k : Option β} (h : b = true) : bG b k = k := by rw [h]; rfl
theorem jw_e {S O : Type} (o : O) : (jw (some o) : Option (S ⊕ O)) = some (.inr o) := rfl
theorem bH_t {β : Type} {S : List Nat} {v : Nat} {k : Option β} (h : v ∈ S) : bH S v k = k := by unfold bH; rw [if_pos h]
theorem jin_nI {n N : Nat} (h : n < N) (hN : n < 2 ^ 31) : jin (nI n) N = true := by
  simp only [jin, Bool.and_eq_true, Bool.not_eq_true', decide_eq_false_iff_not]
  exact ⟨nI_pos hN, Nat.ble_eq_true_of_le (by rw [nI_clamp hN]; exact h)⟩
theorem ix_nI {n : Nat} (h : n < 2 ^ 31) : ix (nI n) = n := nI_clamp h
theorem jb_0 : jb 0 = true := rfl
theorem jb_1 : jb 1 = true := rfl
theorem jb_ite {c : Prop} [Decidable c] : jb (if c then 1 else 0) = true := by split <;> rfl
/-- a loop that counts: from state s i to s (i + 1), out at e -/
theorem jloop_for {S O : Type} (f : S → Option (S ⊕ O)) (s : Nat → S) (e : Nat) (o : O) (hend : f (s e) = some (.inr o)) (hs : ∀ i, i < e → f (s i) = some (.inl (s (i + 1)))) : ∀ (N k : Nat), k ≤ e → e - k < N → jloop N f (s k) = some o := by
  intro N
  induction N with
  | zero => intro k _ h; omega
  | succ N ih =>
    intro k hk hN
    unfold jloop
    rcases Nat.lt_or_ge k e with q | q
    · rw [hs k q]
      exact ih (k + 1) q (by omega)
    · have : k = e := by omega
      subst this
      rw [hend]
theorem jloop_0 {S O : Type} {f : S → Option (S ⊕ O)} (s : Nat → S) (e : Nat) {o : O} {s0 : S} (h0 : s 0 = s0) (he : e < jFuel) (hend : f (s e) = some (.inr o)) (hs : ∀ i, i < e → f (s i) = some (.inl (s (i + 1)))) : jloop jFuel f s0 = some o := by
  rw [← h0]
  exact jloop_for f s e o hend hs jFuel 0 (Nat.zero_le _) (by omega)
/-- a loop by an invariant and a measure -/
theorem jloop_inv {S O : Type} {f : S → Option (S ⊕ O)} (I : Nat → S → Prop) (q : O → Prop) (hs : ∀ n s, I n s → (∃ s' n', f s = some (.inl s') ∧ n' < n ∧ I n' s') ∨ (∃ o, f s = some (.inr o) ∧ q o)) : ∀ (N n : Nat) (s : S), I n s → n < N → ∃ o, jloop N f s = some o ∧ q o := by
  intro N
  induction N with
  | zero => intro n s _ h; omega
  | succ N ih =>
    intro n s hI hN
    unfold jloop
    rcases hs n s hI with ⟨s', n', h1, h2, h3⟩ | ⟨o, h1, h2⟩
    · rw [h1]
      exact ih n' s' h3 (by omega)
    · rw [h1]
      exact ⟨o, rfl, h2⟩
/-- a counting loop whose state is known up to a predicate -/
theorem jloop_ex {S O : Type} {f : S → Option (S ⊕ O)} (I : Nat → S → Prop) (e : Nat) (q : O → Prop) {s0 : S} (h0 : I 0 s0) (he : e < jFuel) (hend : ∀ s, I e s → ∃ o, f s = some (.inr o) ∧ q o) (hs : ∀ i s, i < e → I i s → (∃ s', f s = some (.inl s') ∧ I (i + 1) s') ∨ (∃ o, f s = some (.inr o) ∧ q o)) : ∃ o, jloop jFuel f s0 = some o ∧ q o := by
  refine jloop_inv (fun n s => ∃ i, i ≤ e ∧ n = e - i ∧ I i s) q ?_ jFuel e s0 ⟨0, Nat.zero_le _, rfl, h0⟩ he
  rintro n s ⟨i, hi, rfl, hI⟩
  rcases Nat.lt_or_ge i e with q1 | q1
  · rcases hs i s q1 hI with ⟨s', h1, h2⟩ | ⟨o, h1, h2⟩
    · exact Or.inl ⟨s', e - (i + 1), h1, by omega, i + 1, q1, rfl, h2⟩
    · exact Or.inr ⟨o, h1, h2⟩
  · have : i = e := by omega
    subst this
    exact Or.inr (hend s hI)
/-! masks: the set of a predicate -/
def bm (p : Nat → Bool) : Nat → Nat
  | 0 => 0
  | n + 1 => bm p n + (if p n then 2 ^ n else 0)
theorem bm_lt (p : Nat → Bool) : ∀ n, bm p n < 2 ^ n
  | 0 => Nat.lt_succ_self 0
  | n + 1 => by
    have h := bm_lt p n
    rw [bm, Nat.pow_succ]
    split <;> omega
theorem bm_bit (p : Nat → Bool) : ∀ n k, (bm p n).testBit k = (decide (k < n) && p k)
  | 0, k => by simp [bm]
  | n + 1, k => by
    have h := bm_bit p n k
    have hl := bm_lt p n
    rw [bm]
    by_cases hp : p n
    · rw [if_pos hp, Nat.add_comm]
      rcases Nat.lt_trichotomy k n with q | q | q
      · rw [Nat.testBit_two_pow_add_gt q, h]
        simp [q, Nat.lt_succ_of_lt q]
      · subst q
        rw [Nat.testBit_two_pow_add_eq, Nat.testBit_lt_two_pow hl]
        simp [hp]
      · have e1 : (2 ^ n + bm p n) < 2 ^ k := Nat.lt_of_lt_of_le (show 2 ^ n + bm p n < 2 ^ (n + 1) by rw [Nat.pow_succ]; omega) (Nat.pow_le_pow_right (by decide) q)
        rw [Nat.testBit_lt_two_pow e1]
        simp; omega
    · rw [if_neg hp, Nat.add_zero, h]
      rcases Nat.lt_trichotomy k n with q | q | q
      · simp [q, Nat.lt_succ_of_lt q]
      · subst q; simp [hp]
      · have : ¬ k < n := by omega
        have h2 : ¬ k < n + 1 := by omega
        simp [this, h2]
theorem bm_eq_of {m n : Nat} {p : Nat → Bool} (h : ∀ k, m.testBit k = (decide (k < n) && p k)) : m = bm p n :=
  Nat.eq_of_testBit_eq fun k => by rw [h, bm_bit]
theorem bm_cong {p q : Nat → Bool} {n : Nat} (h : ∀ k, k < n → p k = q k) : bm p n = bm q n := by
  apply bm_eq_of
  intro k
  rw [bm_bit]
  by_cases hk : k < n
  · simp [hk, h k hk]
  · simp [hk]
theorem bm_or (p q : Nat → Bool) (n : Nat) : bm p n ||| bm q n = bm (fun k => p k || q k) n := by
  apply bm_eq_of
  intro k
  rw [Nat.testBit_or, bm_bit, bm_bit]
  cases decide (k < n) <;> simp
theorem bm_one {n j : Nat} (h : j < n) : 2 ^ j = bm (fun k => k == j) n := by
  apply bm_eq_of
  intro k
  rw [Nat.testBit_two_pow]
  by_cases q : j = k
  · subst q; simp [h]
  · have : ¬ k = j := fun e => q e.symm
    simp [q, this]
theorem bm_zero {p : Nat → Bool} {n : Nat} : bm p n = 0 ↔ ∀ k, k < n → p k = false := by
  constructor
  · intro h k hk
    have := bm_bit p n k
    rw [h] at this
    simpa [hk] using this.symm
  · intro h
    have : bm p n = bm (fun _ => false) n := bm_cong h
    rw [this]
    induction n with
    | zero => rfl
    | succ n ih =>
      rw [bm]
      simp
      exact ih (fun k hk => h k (by omega)) (by apply bm_cong; intro k hk; exact h k (by omega))
theorem bm_inj {p q : Nat → Bool} {n : Nat} (h : bm p n = bm q n) : ∀ k, k < n → p k = q k := by
  intro k hk
  have h1 := bm_bit p n k
  rw [h, bm_bit] at h1
  simpa [hk] using h1.symm
theorem nI_shl1 : ∀ k, k < 31 → (1 : Int32) <<< (nI k &&& 31) = nI (2 ^ k) := by decide +kernel
theorem nI_or (a b : Nat) : nI a ||| nI b = nI (a ||| b) := fa_or a b
theorem nI_and (a b : Nat) : nI a &&& nI b = nI (a &&& b) := fa_and a b
theorem nI_eq0 {m : Nat} (h : m < 2 ^ 31) : nI m = 0 ↔ m = 0 := nI_eq (b := 0) h (by decide)
theorem nI_shr {m k : Nat} (hm : m < 2 ^ 31) (hk : k < 32) : nI m >>> (nI k &&& 31) = nI (m >>> k) := by
  apply b_ext
  intro i hi
  rw [b_sshr k hk _ hi]
  have hb : ∀ j, bt (nI m) j = (decide (j < 32) && m.testBit j) := by
    intro j
    show (BitVec.ofNat 32 m).getLsbD j = _
    rw [BitVec.getLsbD_ofNat]
  have hb2 : bt (nI (m >>> k)) i = (decide (i < 32) && (m >>> k).testBit i) := by
    show (BitVec.ofNat 32 (m >>> k)).getLsbD i = _
    rw [BitVec.getLsbD_ofNat]
  rw [hb2, Nat.testBit_shiftRight]
  have h31 : m.testBit 31 = false := Nat.testBit_lt_two_pow hm
  by_cases q : k + i < 32
  · rw [if_pos q, hb]
    simp [q, hi]
  · rw [if_neg q, hb, h31]
    have : m.testBit (k + i) = false := Nat.testBit_lt_two_pow (Nat.lt_of_lt_of_le hm (Nat.pow_le_pow_right (by decide) (by omega)))
    rw [this]
    simp
theorem nI_bit {m k : Nat} (hm : m < 2 ^ 31) (hk : k < 32) : (nI m >>> (nI k &&& 31)) &&& 1 = if m.testBit k then 1 else 0 := by
  rw [nI_shr hm hk]
  show nI (m >>> k) &&& nI 1 = _
  rw [nI_and, Nat.and_one_is_mod]
  have : m.testBit k = decide (m >>> k % 2 = 1) := by
    rw [Nat.testBit_eq_decide_div_mod_eq, Nat.shiftRight_eq_div_pow]
  rw [this]
  rcases Nat.mod_two_eq_zero_or_one (m >>> k) with h | h <;> rw [h] <;> rfl
theorem bm_step (p : Nat → Bool) {k : Nat} (hk : k < 31) : nI (bm p k) ||| (if p k then (1 : Int32) <<< (nI k &&& 31) else 0) = nI (bm p (k + 1)) := by
  rw [bm]
  by_cases hp : p k
  · rw [if_pos hp, if_pos hp, nI_shl1 k hk, nI_or]
    congr 1
    have := Nat.two_pow_add_eq_or_of_lt (bm_lt p k) 1
    rw [Nat.mul_one] at this
    rw [Nat.or_comm, ← this, Nat.add_comm]
  · rw [if_neg hp, if_neg hp]
    show nI _ ||| nI 0 = _
    rw [nI_or]
    simp
