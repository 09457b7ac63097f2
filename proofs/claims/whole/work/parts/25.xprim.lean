/-! the class's rows: at, put -/
theorem x_at {σ : jS} {h i : Nat} (h0 : h ≠ 0) (hr : jrwX 0 h = true) (hi : i < (SHX h).2) (hs : (SHX h).2 < 2 ^ 31) : f_X6_at σ h (nI i) = some (gI σ h i) := by
  unfold f_X6_at f_X6_at_J21
  rw [if_neg h0, if_neg (nI_pos (by omega)), bG_t hr, if_neg (show ¬ Int32.ofNat (SHX h).2 ≤ nI i from nI_ge hi hs), bG_t (jin_nI hi (by omega)), ix_nI (by omega)]
theorem x_put {σ : jS} {h i : Nat} {v : Int32} (h0 : h ≠ 0) (hr : jrwX 0 h = true) (hi : i < (SHX h).2) (hs : (SHX h).2 < 2 ^ 31) : f_X6_put σ h (nI i) v = some ((), sI σ h i v) := by
  unfold f_X6_put f_X6_put_J18
  rw [if_neg h0, if_neg (nI_pos (by omega)), bG_t hr, if_neg (show ¬ Int32.ofNat (SHX h).2 ≤ nI i from nI_ge hi hs), bG_t (jin_nI hi (by omega)), bV_e, ix_nI (by omega)]
theorem x_atL {σ : jS} {h i : Nat} (h0 : h ≠ 0) (hr : jrwX 2 h = true) (hi : i < (SHX h).2) (hs : (SHX h).2 < 2 ^ 31) : f_X6_at_ σ h (nI i) = some (gL σ h i) := by
  unfold f_X6_at_ f_X6_at__J21
  rw [if_neg h0, if_neg (nI_pos (by omega)), bG_t hr, if_neg (show ¬ Int32.ofNat (SHX h).2 ≤ nI i from nI_ge hi hs), bG_t (jin_nI hi (by omega)), ix_nI (by omega)]
theorem x_putL {σ : jS} {h i : Nat} {v : Int64} (h0 : h ≠ 0) (hr : jrwX 2 h = true) (hi : i < (SHX h).2) (hs : (SHX h).2 < 2 ^ 31) : f_X6_put_ σ h (nI i) v = some ((), sL σ h i v) := by
  unfold f_X6_put_ f_X6_put__J18
  rw [if_neg h0, if_neg (nI_pos (by omega)), bG_t hr, if_neg (show ¬ Int32.ofNat (SHX h).2 ≤ nI i from nI_ge hi hs), bG_t (jin_nI hi (by omega)), bV_e, ix_nI (by omega)]
theorem gI_sI (σ : jS) (h i : Nat) (v : Int32) : gI (sI σ h i v) h i = v := by unfold gI sI ju; simp
theorem gI_sIn {σ : jS} {h i h2 i2 : Nat} {v : Int32} (hn : ¬ (h2 = h ∧ i2 = i)) : gI (sI σ h i v) h2 i2 = gI σ h2 i2 := by
  show (if h2 = h ∧ i2 = i then v else σ.1 h2 i2) = σ.1 h2 i2
  rw [if_neg hn]
theorem gL_sL (σ : jS) (h i : Nat) (v : Int64) : gL (sL σ h i v) h i = v := by unfold gL sL ju; simp
theorem gL_sLn {σ : jS} {h i h2 i2 : Nat} {v : Int64} (hn : ¬ (h2 = h ∧ i2 = i)) : gL (sL σ h i v) h2 i2 = gL σ h2 i2 := by
  show (if h2 = h ∧ i2 = i then v else σ.2.1 h2 i2) = σ.2.1 h2 i2
  rw [if_neg hn]
theorem gI_sL (σ : jS) (h i h2 i2 : Nat) (v : Int64) : gI (sL σ h i v) h2 i2 = gI σ h2 i2 := rfl
theorem gL_sI (σ : jS) (h i h2 i2 : Nat) (v : Int32) : gL (sI σ h i v) h2 i2 = gL σ h2 i2 := rfl
theorem gI_ne {σ : jS} {h i h2 i2 : Nat} {v : Int32} (hn : h2 ≠ h) : gI (sI σ h i v) h2 i2 = gI σ h2 i2 := gI_sIn fun q => hn q.1
theorem gI_nei {σ : jS} {h i h2 i2 : Nat} {v : Int32} (hn : i2 ≠ i) : gI (sI σ h i v) h2 i2 = gI σ h2 i2 := gI_sIn fun q => hn q.2
/-! how many bits: the library's own count, byte by byte -/
def sB (g : Nat → Nat) : Nat → Nat → Nat
  | 0, _ => 0
  | j + 1, n => g (n % 256) + 256 * sB g j (n / 256)
def mB (c : Nat) : Nat → Nat
  | 0 => 0
  | j + 1 => c + 256 * mB c j
theorem and256 {q q' : Nat} (p p' : Nat) (h : q < 256) (h' : q' < 256) : (q + 256 * p) &&& (q' + 256 * p') = (q &&& q') + 256 * (p &&& p') := by
  apply Nat.eq_of_testBit_eq
  intro k
  have hb : ∀ a b : Nat, a < 256 → ∀ k, (a + 256 * b).testBit k = if k < 8 then a.testBit k else b.testBit (k - 8) := by
    intro a b ha k
    rw [Nat.add_comm, show 256 * b = 2 ^ 8 * b from rfl, Nat.testBit_two_pow_mul_add b ha]
  rw [Nat.testBit_and, hb _ _ h, hb _ _ h', hb _ _ (Nat.lt_of_le_of_lt Nat.and_le_left h)]
  split <;> rw [Nat.testBit_and]
theorem by_tab {P : Nat → Prop} [DecidablePred P] (h : ∀ b, b < 256 → P b) (n : Nat) : P (n % 256) := h _ (Nat.mod_lt _ (by decide))
theorem b_and1 : ∀ b, b < 256 → (b &&& 85 = (b % 128) &&& 85) ∧ b &&& 51 = (b % 64) &&& 51 ∧ b &&& 15 = b % 16 := by decide +kernel
theorem s_s1 : ∀ j n, n < 256 ^ j → (n / 2) &&& mB 85 j = sB (fun b => (b / 2) &&& 85) j n
  | 0, n, _ => by rw [mB, sB]; simp
  | j + 1, n, h => by
    have ih := s_s1 j (n / 256) (by rw [Nat.pow_succ] at h; omega)
    rw [mB, sB]
    have e : n / 2 = (n % 256 / 2 + 128 * (n / 256 % 2)) + 256 * (n / 256 / 2) := by omega
    rw [e, and256 _ _ (by omega) (by decide), ih, (b_and1 _ (by omega)).1, ((b_and1 (n % 256 / 2) (by omega))).1]
    congr 2
    omega
theorem s_s2 : ∀ j n, n < 256 ^ j → (n / 4) &&& mB 51 j = sB (fun b => (b / 4) &&& 51) j n
  | 0, n, _ => by rw [mB, sB]; simp
  | j + 1, n, h => by
    have ih := s_s2 j (n / 256) (by rw [Nat.pow_succ] at h; omega)
    rw [mB, sB]
    have e : n / 4 = (n % 256 / 4 + 64 * (n / 256 % 4)) + 256 * (n / 256 / 4) := by omega
    rw [e, and256 _ _ (by omega) (by decide), ih, (b_and1 _ (by omega)).2.1, ((b_and1 (n % 256 / 4) (by omega))).2.1]
    congr 2
    omega
theorem s_s3 : ∀ j n, n < 256 ^ j → n &&& mB 51 j = sB (fun b => b &&& 51) j n
  | 0, n, _ => by rw [mB, sB]; simp
  | j + 1, n, h => by
    have ih := s_s3 j (n / 256) (by rw [Nat.pow_succ] at h; omega)
    rw [mB, sB]
    have e : n = n % 256 + 256 * (n / 256) := by omega
    conv => lhs; rw [e]
    rw [and256 _ _ (by omega) (by decide), ih]
theorem sB_cong {g g' : Nat → Nat} (hg : ∀ b, b < 256 → g b = g' b) : ∀ j n, sB g j n = sB g' j n
  | 0, _ => rfl
  | j + 1, n => by rw [sB, sB, sB_cong hg j, hg _ (by omega)]
theorem sB_add (g g' : Nat → Nat) : ∀ j n, sB g j n + sB g' j n = sB (fun b => g b + g' b) j n
  | 0, _ => rfl
  | j + 1, n => by
    rw [sB, sB, sB, ← sB_add g g' j (n / 256)]
    omega
theorem sB_id : ∀ j n, n < 256 ^ j → sB (fun b => b) j n = n
  | 0, n, h => by rw [sB]; simp at h; omega
  | j + 1, n, h => by
    rw [sB, sB_id j (n / 256) (by rw [Nat.pow_succ] at h; omega)]
    omega
theorem sB_lt {g : Nat → Nat} (hg : ∀ b, b < 256 → g b < 256) : ∀ j n, sB g j n < 256 ^ j
  | 0, _ => by rw [sB]; decide
  | j + 1, n => by
    have := sB_lt hg j (n / 256)
    have := hg (n % 256) (by omega)
    rw [sB, Nat.pow_succ]
    omega
theorem sB_sB {g f : Nat → Nat} (hg : ∀ b, b < 256 → g b < 256) : ∀ j n, sB f j (sB g j n) = sB (fun b => f (g b)) j n
  | 0, _ => rfl
  | j + 1, n => by
    have h := hg (n % 256) (by omega)
    rw [sB, sB, sB]
    have e1 : (g (n % 256) + 256 * sB g j (n / 256)) % 256 = g (n % 256) := by omega
    have e2 : (g (n % 256) + 256 * sB g j (n / 256)) / 256 = sB g j (n / 256) := by omega
    rw [e1, e2, sB_sB hg j]
/-- nibbles of at most 4: sums of neighbours -/
theorem s_s4 {g : Nat → Nat} (hg : ∀ b, b < 256 → g b % 16 ≤ 4 ∧ g b / 16 ≤ 4) : ∀ j n, (sB g j n + sB g j n / 16) &&& mB 15 j = sB (fun b => (g b + g b / 16) % 16) j n
  | 0, n => by simp [sB, mB]
  | j + 1, n => by
    have ih := s_s4 hg j (n / 256)
    obtain ⟨h1, h2⟩ := hg (n % 256) (by omega)
    have h3 : sB g j (n / 256) % 16 ≤ 4 := by
      cases j with
      | zero => simp [sB]
      | succ j =>
        have := (hg (n / 256 % 256) (by omega)).1
        rw [sB]
        omega
    rw [sB, sB, mB]
    have e : g (n % 256) + 256 * sB g j (n / 256) + (g (n % 256) + 256 * sB g j (n / 256)) / 16 = (g (n % 256) + g (n % 256) / 16 + 16 * (sB g j (n / 256) % 16)) + 256 * (sB g j (n / 256) + sB g j (n / 256) / 16) := by omega
    rw [e, and256 _ _ (by omega) (by decide), ih, (b_and1 _ (by omega)).2.2]
    congr 1
    omega
def pcB (b : Nat) : Nat := b % 2 + b / 2 % 2 + b / 4 % 2 + b / 8 % 2 + b / 16 % 2 + b / 32 % 2 + b / 64 % 2 + b / 128 % 2
theorem pc_tab : ∀ b, b < 256 → (b / 2) &&& 85 ≤ b ∧ ((b - ((b / 2) &&& 85)) &&& 51) + (((b - ((b / 2) &&& 85)) / 4) &&& 51) < 256 ∧ (((b - ((b / 2) &&& 85)) &&& 51) + (((b - ((b / 2) &&& 85)) / 4) &&& 51)) % 16 ≤ 4 ∧ (((b - ((b / 2) &&& 85)) &&& 51) + (((b - ((b / 2) &&& 85)) / 4) &&& 51)) / 16 ≤ 4 ∧ ((((b - ((b / 2) &&& 85)) &&& 51) + (((b - ((b / 2) &&& 85)) / 4) &&& 51)) + (((b - ((b / 2) &&& 85)) &&& 51) + (((b - ((b / 2) &&& 85)) / 4) &&& 51)) / 16) % 16 = pcB b := by decide +kernel
/-- the first three steps -/
theorem sw3 {j n : Nat} (h : n < 256 ^ j) : ∃ v1 v2, v1 = n - (n / 2 &&& mB 85 j) ∧ n / 2 &&& mB 85 j ≤ n ∧ v1 ≤ n ∧ v2 = (v1 &&& mB 51 j) + (v1 / 4 &&& mB 51 j) ∧ v2 < 256 ^ j ∧ (v2 + v2 / 16) &&& mB 15 j = sB pcB j n := by
  have e0 : sB (fun b => b - ((b / 2) &&& 85)) j n + sB (fun b => (b / 2) &&& 85) j n = n := by
    rw [sB_add, ← sB_id j n h]
    rw [sB_id j n h]
    refine (sB_cong (g' := fun b => b) (fun b hb => ?_) j n).trans (sB_id j n h)
    have := (pc_tab b hb).1
    show b - ((b / 2) &&& 85) + ((b / 2) &&& 85) = b
    omega
  have e1 : n - (n / 2 &&& mB 85 j) = sB (fun b => b - ((b / 2) &&& 85)) j n := by
    rw [s_s1 j n h]; omega
  refine ⟨n - (n / 2 &&& mB 85 j), _, rfl, ?_, Nat.sub_le _ _, rfl, ?_⟩
  · rw [s_s1 j n h]; omega
  · have hl : ∀ b, b < 256 → b - ((b / 2) &&& 85) < 256 := fun b hb => Nat.lt_of_le_of_lt (Nat.sub_le _ _) hb
    have hlt : n - (n / 2 &&& mB 85 j) < 256 ^ j := Nat.lt_of_le_of_lt (Nat.sub_le _ _) h
    rw [s_s3 j _ hlt, s_s2 j _ hlt, sB_add, e1, sB_sB hl]
    refine ⟨sB_lt (fun b hb => (pc_tab b hb).2.1) j n, ?_⟩
    rw [s_s4 (fun b hb => ⟨(pc_tab b hb).2.2.1, (pc_tab b hb).2.2.2.1⟩)]
    exact sB_cong (fun b hb => (pc_tab b hb).2.2.2.2) j n
