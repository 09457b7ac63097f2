/-! once: the class carries a quarrel on -/
def pl (A : Tb) (a p : Nat) : Nat := if p = 0 then a else byT A (p - 1)
def n0 (i : Nat) : Nat := i / 4608
def n1 (i : Nat) : Nat := i / 512 % 9
def nS (i : Nat) : Nat := i / 256 % 2
def nU (i : Nat) : Nat := i % 256
def ndN (p0 p1 s u : Nat) : Nat := ((p0 * 9 + p1) * 2 + s) * 256 + u
theorem ndN_of {p0 p1 s u : Nat} (h1 : p1 < 9) (hs : s < 2) (hu : u < 256) : n0 (ndN p0 p1 s u) = p0 ∧ n1 (ndN p0 p1 s u) = p1 ∧ nS (ndN p0 p1 s u) = s ∧ nU (ndN p0 p1 s u) = u := by
  unfold n0 n1 nS nU ndN; omega
theorem ndN_i (i : Nat) : ndN (n0 i) (n1 i) (nS i) (nU i) = i := by unfold n0 n1 nS nU ndN; omega
def xN (A : Tb) (a b i : Nat) : Nat := (pl A a (n0 i) * 56 + pl A b (n1 i)) * 2 + nS i
def cN (A : Tb) (a b i : Nat) : Nat := cv A (xN A a b i)
def okN (A : Tb) (a b i : Nat) : Prop := n0 i ≤ tT A ∧ n1 i ≤ tT A ∧ nU i < 2 ^ tT A ∧ okx A (xN A a b i)
def XO (A : Tb) (a b goal : Nat) (σ : jS) : Prop := xW σ A ∧ xF σ A ∧ gI σ 17 2 = nI (tT A) ∧ gI σ 17 3 = nI a ∧ gI σ 17 4 = nI b ∧ gI σ 17 5 = nI goal
theorem XO_fr {A : Tb} {a b goal : Nat} {σ σ' : jS} (f : fr [18, 19] σ σ') (h : XO A a b goal σ) : XO A a b goal σ' := by
  obtain ⟨h1, h2, h3, h4, h5, h6⟩ := h
  exact ⟨xW_fr f rfl h1, fun p hp => (fr_I f (by decide) p).trans (h2 p hp), (fr_I f (by decide) _).trans h3, (fr_I f (by decide) _).trans h4, (fr_I f (by decide) _).trans h5, (fr_I f (by decide) _).trans h6⟩
def dep (A : Tb) (a b d i : Nat) : Prop := d + 2 * remU A (nU i) ≤ 16 ∨ (d + 2 * remU A (nU i) ≤ 17 ∧ bm (usU A (nU i) (xN A a b i) (nS i)) (tT A) ≠ 0)
section CA
variable {A : Tb} {a b goal : Nat}
theorem pl_lt (w : wA A) {p : Nat} (ha : a < 16) (hp : p ≤ tT A) : pl A a p < 56 := by
  unfold pl
  by_cases z : p = 0
  · rw [if_pos z]; omega
  · rw [if_neg z]
    exact (byT_hs w (t := p - 1) (by omega)).2
theorem xN_01 (w : wA A) (ha : a < 16) (hb : b < 16) {i : Nat} (h : okN A a b i) : x0 (xN A a b i) = pl A a (n0 i) ∧ x1 (xN A a b i) = pl A b (n1 i) ∧ xN A a b i % 2 = nS i := by
  have h0 := pl_lt (p := n0 i) w ha h.1
  have h1 := pl_lt (p := n1 i) w hb h.2.1
  have hS : nS i < 2 := by unfold nS; omega
  unfold xN x0 x1
  omega
theorem x_spotAt {σ : jS} (w : wA A) (hW : xW σ A) {p : Nat} (hT : tT A ≤ 8) (hp : p ≤ tT A) : f_X4_spotAt σ (nI p) (nI a) = some (nI (pl A a p)) := by
  unfold f_X4_spotAt f_X4_spotAt_J18 pl
  by_cases z : p = 0
  · rw [if_pos (show nI p = 0 from congrArg nI z), if_pos z]
  · rw [if_neg (fun e => z ((nI_eq0 (by omega)).mp e)), if_neg z, show (1 : Int32) = nI 1 from rfl, nI_sub (by omega), x_byTurn w hW (by omega), bC_e]
/-- the pass -/
theorem kid_pass (w : wA A) (ha : a < 16) (hb : b < 16) (hT : tT A ≤ 8) {i : Nat} (h : okN A a b i) : let j := ndN (n0 i) (n1 i) (1 - nS i) (nU i); n0 j = n0 i ∧ n1 j = n1 i ∧ nS j = 1 - nS i ∧ nU j = nU i ∧ okN A a b j ∧ xN A a b j = flp (xN A a b i) ∧ cN A a b j = behP (cN A a b i) := by
  have hu : nU i < 256 := by unfold nU; omega
  have hS : nS i < 2 := by unfold nS; omega
  obtain ⟨j0, j1, j2, j3⟩ := ndN_of (p0 := n0 i) (p1 := n1 i) (s := 1 - nS i) (u := nU i) (by have := h.2.1; omega) (by omega) hu
  obtain ⟨e0, e1, e2⟩ := xN_01 w ha hb h
  have ex : xN A a b (ndN (n0 i) (n1 i) (1 - nS i) (nU i)) = flp (xN A a b i) := by
    unfold flp
    rw [e2]
    unfold xN
    rw [j0, j1, j2]
    omega
  refine ⟨j0, j1, j2, j3, ⟨by rw [j0]; exact h.1, by rw [j1]; exact h.2.1, by rw [j3]; exact h.2.2.1, ?_⟩, ex, ?_⟩
  · rw [ex]; exact (flp_ok h.2.2.2).1
  · unfold cN
    rw [ex, flp_cv w h.2.2.2]
/-- the handing by a turn -/
def kidT (i t : Nat) : Nat := if nS i = 0 then ndN (t + 1) (n1 i) 1 (nU i ||| 2 ^ t) else ndN (n0 i) (t + 1) 0 (nU i ||| 2 ^ t)
theorem kid_hand (w : wA A) (ha : a < 16) (hb : b < 16) (hT : tT A ≤ 8) {i t : Nat} (h : okN A a b i) (ht : t < tT A) (hu : usU A (nU i) (xN A a b i) (nS i) t = true) : n0 (kidT i t) = (if nS i = 0 then t + 1 else n0 i) ∧ n1 (kidT i t) = (if nS i = 0 then n1 i else t + 1) ∧ nS (kidT i t) = 1 - nS i ∧ nU (kidT i t) = nU i ||| 2 ^ t ∧ okN A a b (kidT i t) ∧ cN A a b (kidT i t) = behQ A (cN A a b i) (A 3 t) := by
  obtain ⟨e0, e1, e2⟩ := xN_01 w ha hb h
  have h2 := hu
  rw [← e2] at h2
  have ow := usU_ows w h.2.2.2 ht h2
  obtain ⟨a1, a2⟩ := afx_ok w h.2.2.2 ow
  rw [(byT_hs w ht).1] at a2
  have u8 : nU i ||| 2 ^ t < 2 ^ tT A := or_lt h.2.2.1 ht
  have u256 : nU i ||| 2 ^ t < 256 := Nat.lt_of_lt_of_le u8 (Nat.pow_le_pow_right (n := 2) (by decide) hT)
  have hS : nS i = 0 ∨ nS i = 1 := by unfold nS; omega
  rcases hS with s | s
  · have ek : kidT i t = ndN (t + 1) (n1 i) 1 (nU i ||| 2 ^ t) := by unfold kidT; rw [if_pos s]
    obtain ⟨j0, j1, j2, j3⟩ := ndN_of (p0 := t + 1) (p1 := n1 i) (s := 1) (u := nU i ||| 2 ^ t) (by have := h.2.1; omega) (by omega) u256
    have ex : xN A a b (kidT i t) = afx (xN A a b i) (byT A t) := by
      unfold afx
      rw [e2, if_pos s, e1, ek]
      unfold xN
      rw [j0, j1, j2]
      unfold pl
      rw [if_neg (show ¬ t + 1 = 0 by omega), Nat.add_sub_cancel]
    rw [if_pos s, if_pos s]
    refine ⟨by rw [ek]; exact j0, by rw [ek]; exact j1, by rw [ek, j2, s], by rw [ek]; exact j3, ⟨by rw [ek, j0]; omega, by rw [ek, j1]; exact h.2.1, by rw [ek, j3]; exact u8, by rw [ex]; exact a1⟩, ?_⟩
    unfold cN
    rw [ex, a2]
  · have ek : kidT i t = ndN (n0 i) (t + 1) 0 (nU i ||| 2 ^ t) := by unfold kidT; rw [if_neg (by omega)]
    obtain ⟨j0, j1, j2, j3⟩ := ndN_of (p0 := n0 i) (p1 := t + 1) (s := 0) (u := nU i ||| 2 ^ t) (by omega) (by omega) u256
    have ex : xN A a b (kidT i t) = afx (xN A a b i) (byT A t) := by
      unfold afx
      rw [e2, if_neg (by omega), e0, ek]
      unfold xN
      rw [j0, j1, j2]
      unfold pl
      rw [if_neg (show ¬ t + 1 = 0 by omega), Nat.add_sub_cancel, Nat.add_zero]
    rw [if_neg (by omega), if_neg (by omega)]
    refine ⟨by rw [ek]; exact j0, by rw [ek]; exact j1, by rw [ek, j2, s], by rw [ek]; exact j3, ⟨by rw [ek, j0]; exact h.1, by rw [ek, j1]; omega, by rw [ek, j3]; exact u8, by rw [ex]; exact a1⟩, ?_⟩
    unfold cN
    rw [ex, a2]
theorem okN_lt (hT : tT A ≤ 8) {i : Nat} (h : okN A a b i) : i < 41472 := by
  have := h.1
  unfold n0 at this
  omega
/-- what one call leaves behind -/
def CRY (A : Tb) (a b goal : Nat) (P : Nat → Nat → Prop) (σ σ' : jS) (i : Nat) : Prop := fr [18, 19] σ σ' ∧ (∀ h j, gI σ' h j = gI σ h j) ∧ (∀ j, rb σ 19 j = true → rb σ' 19 j = true) ∧ rb σ' 19 i = true ∧ (∀ j, rb σ' 19 j = true → rb σ 19 j = false → P (cN A a b j) (nU j) ∧ ∀ c' u', stp A (cN A a b j) (nU j) c' u' → ∃ k, k < 41472 ∧ rb σ' 19 k = true ∧ cN A a b k = c' ∧ nU k = u') ∧ ∀ j, rb σ' 18 j = true ↔ rb σ 18 j = true ∨ ∃ k, rb σ' 19 k = true ∧ rb σ 19 k = false ∧ ended A (cN A a b k) = true ∧ j = goal * 256 + nU k
/-- on the way: those of E are not done yet, those of S are there -/
def CRI (A : Tb) (a b goal : Nat) (P : Nat → Nat → Prop) (E : Nat → Prop) (σ σ' : jS) (S : Nat → Nat → Prop) : Prop := fr [18, 19] σ σ' ∧ (∀ h j, gI σ' h j = gI σ h j) ∧ (∀ j, rb σ 19 j = true → rb σ' 19 j = true) ∧ (∀ j, rb σ' 19 j = true → rb σ 19 j = false → ¬ E j → P (cN A a b j) (nU j) ∧ ∀ c' u', stp A (cN A a b j) (nU j) c' u' → ∃ k, k < 41472 ∧ rb σ' 19 k = true ∧ cN A a b k = c' ∧ nU k = u') ∧ (∀ j, rb σ' 18 j = true ↔ rb σ 18 j = true ∨ ∃ k, rb σ' 19 k = true ∧ rb σ 19 k = false ∧ ended A (cN A a b k) = true ∧ j = goal * 256 + nU k) ∧ ∀ c' u', S c' u' → ∃ k, k < 41472 ∧ rb σ' 19 k = true ∧ cN A a b k = c' ∧ nU k = u'
theorem CRI_step {P : Nat → Nat → Prop} {E : Nat → Prop} {k : Nat} {σ s s' : jS} {S : Nat → Nat → Prop} (hk : k < 41472) (h : CRI A a b goal P E σ s S) (g : CRY A a b goal P s s' k) : CRI A a b goal P E σ s' (fun c' u' => S c' u' ∨ (c' = cN A a b k ∧ u' = nU k)) := by
  obtain ⟨h1, h2, h3, h5, h6, h7⟩ := h
  obtain ⟨g1, g2, g3, g4, g5, g6⟩ := g
  refine ⟨fr_trans h1 g1, fun x y => (g2 x y).trans (h2 x y), fun j hj => g3 j (h3 j hj), fun j hj hn hi => ?_, fun j => ?_, fun c' u' hs => ?_⟩
  · cases hz : rb s 19 j with
    | true =>
      obtain ⟨p1, p2⟩ := h5 j hz hn hi
      refine ⟨p1, fun c' u' hs => ?_⟩
      obtain ⟨l, l0, l1, l2⟩ := p2 c' u' hs
      exact ⟨l, l0, g3 l l1, l2⟩
    | false => exact g5 j hj hz
  · rw [g6, h6]
    constructor
    · rintro ((e | ⟨l, l1, l2, l3⟩) | ⟨l, l1, l2, l3⟩)
      · exact Or.inl e
      · exact Or.inr ⟨l, g3 l l1, l2, l3⟩
      · refine Or.inr ⟨l, l1, ?_, l3⟩
        cases hz : rb σ 19 l with
        | false => rfl
        | true => rw [h3 l hz] at l2; cases l2
    · rintro (e | ⟨l, l1, l2, l3⟩)
      · exact Or.inl (Or.inl e)
      · cases hz : rb s 19 l with
        | true => exact Or.inl (Or.inr ⟨l, hz, l2, l3⟩)
        | false => exact Or.inr ⟨l, l1, hz, l3⟩
  · rcases hs with hs | ⟨rfl, rfl⟩
    · obtain ⟨l, l0, l1, l2⟩ := h7 c' u' hs
      exact ⟨l, l0, g3 l l1, l2⟩
    · exact ⟨k, hk, g4, rfl, rfl⟩
theorem CRI_mono {P : Nat → Nat → Prop} {E : Nat → Prop} {σ s : jS} {S S' : Nat → Nat → Prop} (h : CRI A a b goal P E σ s S) (hs : ∀ c u, S' c u → S c u) : CRI A a b goal P E σ s S' := ⟨h.1, h.2.1, h.2.2.1, h.2.2.2.1, h.2.2.2.2.1, fun c u q => h.2.2.2.2.2 c u (hs c u q)⟩
end CA
