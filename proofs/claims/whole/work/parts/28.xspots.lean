/-! the class's spots and ways, told by the reference's table -/
def hs (A : Tb) (s : Nat) : Nat := if s < 16 then s else A 3 (s - 16)
def fs (A : Tb) (s : Nat) : Nat := if s < 16 then 0 else A 4 (s - 16) + 1
/-- a spot that can be -/
def vs (A : Tb) (s : Nat) : Prop := s < 56 ∧ hs A s < tP A ∧ (s < 16 ∨ (tB A = 1 ∧ s - 16 < tT A))
def byT (A : Tb) (t : Nat) : Nat := if tB A = 0 then A 3 t else 16 + t
def joinT (A : Tb) (s t : Nat) : Bool := lawful A (A 4 t) (A 3 t) && (if s < 16 then s == A 4 t else !(tB A == 0) && decide (s - 16 < tT A) && A 3 (s - 16) == A 4 t && !(A 4 (s - 16) == A 3 t))
def onw (A : Tb) (s d : Nat) : Bool := bex (tT A) fun t => byT A t == d && joinT A s t
def heldBy (A : Tb) (p s : Nat) : Bool := if s < 16 then s == p else decide (s - 16 < tT A) && A 3 (s - 16) == p
/-- the ways as built -/
def xW (σ : jS) (A : Tb) : Prop := gI σ 5 5 = nI (tB A) ∧ (∀ s, s < 16 → gI σ 6 s = nI s ∧ gI σ 7 s = -1) ∧ (∀ t, t < tT A → gI σ 6 (16 + t) = nI (A 3 t) ∧ gI σ 7 (16 + t) = nI (A 4 t)) ∧ (∀ s, s < 56 → gL σ 8 s = lN (bm (onw A s) 56)) ∧ (∀ d, d < 56 → gL σ 9 d = lN (bm (fun s => onw A s d) 56)) ∧ ∀ p, p < 16 → gL σ 10 p = lN (bm (heldBy A p) 56)
/-- the game's foes -/
def xF (σ : jS) (A : Tb) : Prop := ∀ p, p < 16 → gI σ 11 p = nI (bm (bears A p) 16)
def x0 (x : Nat) : Nat := x / 112
def x1 (x : Nat) : Nat := x / 2 % 56
def xs (x s : Nat) : Nat := if s = 0 then x0 x else x1 x
def okx (A : Tb) (x : Nat) : Prop := x < 6272 ∧ vs A (x0 x) ∧ vs A (x1 x) ∧ hs A (x0 x) ≠ hs A (x1 x)
/-- the class's code told as the reference's -/
def cv (A : Tb) (x : Nat) : Nat := mkc (hs A (x0 x)) (hs A (x1 x)) (x % 2) (fs A (x0 x)) (fs A (x1 x))
/-- what the tables say of persons: small -/
def wA (A : Tb) : Prop := tP A ≤ 16 ∧ tT A ≤ 40 ∧ tB A ≤ 1 ∧ (∀ t, t < tT A → A 3 t < tP A ∧ A 4 t < tP A ∧ A 3 t ≠ A 4 t) ∧ ∀ t u, t < tT A → u < tT A → A 3 t = A 3 u → A 4 t = A 4 u → t = u
theorem wA_of {τ : jS} (hN : wN τ) (hT : wT τ) : wA (mn τ) := ⟨hN.1.2, hN.2.1.2, hN.2.2.2.2.2.2, fun t ht => (hT.1 t ht).2.2, hT.2⟩
theorem fs_lt {A : Tb} (w : wA A) {s : Nat} (h : vs A s) : fs A s < 17 := by
  unfold fs
  split
  · omega
  · rename_i q
    rcases h.2.2 with z | ⟨_, z⟩
    · omega
    · have := (w.2.2.2.1 _ z).2.1; have := w.1; omega
theorem hs_lt {A : Tb} (w : wA A) {s : Nat} (h : vs A s) : hs A s < 16 := by have := h.2.1; have := w.1; omega
theorem x01 {x : Nat} (h : x < 6272) : x = (x0 x * 56 + x1 x) * 2 + x % 2 ∧ x0 x < 56 ∧ x1 x < 56 := by unfold x0 x1; omega
theorem xs_lt {x s : Nat} (h : x < 6272) : xs x s < 56 := by
  have := x01 h
  unfold xs; split <;> omega
theorem cv_one {A : Tb} (w : wA A) {x : Nat} (h : okx A x) : cOne (cv A x) = hs A (x0 x) := mkc_one (hs_lt w h.2.2.1) (by omega) (fs_lt w h.2.1) (fs_lt w h.2.2.1)
theorem cv_two {A : Tb} (w : wA A) {x : Nat} (h : okx A x) : cTwo (cv A x) = hs A (x1 x) := mkc_two (hs_lt w h.2.2.1) (by omega) (fs_lt w h.2.1) (fs_lt w h.2.2.1)
theorem cv_side {A : Tb} (w : wA A) {x : Nat} (h : okx A x) : cSide (cv A x) = x % 2 := mkc_side (by omega) (fs_lt w h.2.1) (fs_lt w h.2.2.1)
theorem cv_fr {A : Tb} (w : wA A) {x s : Nat} (h : okx A x) (hs2 : s < 2) : cFr (cv A x) s = fs A (xs x s) := by
  have : s = 0 ∨ s = 1 := by omega
  rcases this with rfl | rfl
  · exact mkc_fr0 (fs_lt w h.2.1) (fs_lt w h.2.2.1)
  · exact mkc_fr1 (fs_lt w h.2.2.1)
theorem cv_hold {A : Tb} (w : wA A) {x s : Nat} (h : okx A x) (hs2 : s < 2) : cHold (cv A x) s = hs A (xs x s) := by
  have : s = 0 ∨ s = 1 := by omega
  rcases this with rfl | rfl
  · exact cv_one w h
  · exact cv_two w h
theorem cv_lt {A : Tb} (w : wA A) {x : Nat} (h : okx A x) : cv A x < 147968 := mkc_lt (hs_lt w h.2.1) (hs_lt w h.2.2.1) (by omega) (fs_lt w h.2.1) (fs_lt w h.2.2.1)
theorem owes_iff {A : Tb} {p q : Nat} : owes A p q = true ↔ ∃ t, t < tT A ∧ A 3 t = q ∧ A 4 t = p := by
  unfold owes
  rw [bex_iff]
  simp [and_assoc]
theorem cv_ok {A : Tb} (w : wA A) {x : Nat} (h : okx A x) : okc A (cv A x) := by
  refine ⟨cv_lt w h, ?_, ?_, ?_, ?_⟩
  · rw [cv_one w h]; exact h.2.1.2.1
  · rw [cv_two w h]; exact h.2.2.1.2.1
  · rw [cv_one w h, cv_two w h]; exact h.2.2.2
  · intro s hs2
    rw [cv_fr w h hs2, cv_hold w h hs2]
    have hv : vs A (xs x s) := by
      unfold xs; split
      · exact h.2.1
      · exact h.2.2.1
    generalize xs x s = u at *
    unfold fs hs
    split
    · exact Or.inl rfl
    · rename_i q
      rcases hv.2.2 with z | ⟨z1, z2⟩
      · omega
      · exact Or.inr ⟨z1, owes_iff.mpr ⟨u - 16, z2, rfl, by omega⟩⟩
theorem spot_inj {A : Tb} (w : wA A) {s u : Nat} (h : vs A s) (h2 : vs A u) (e1 : hs A s = hs A u) (e2 : fs A s = fs A u) : s = u := by
  unfold hs fs at *
  by_cases q : s < 16 <;> by_cases q2 : u < 16
  · rw [if_pos q, if_pos q2] at e1; exact e1
  · rw [if_pos q, if_neg q2] at e2; omega
  · rw [if_neg q, if_pos q2] at e2; omega
  · rw [if_neg q, if_neg q2] at e1 e2
    rcases h.2.2 with z | ⟨_, z⟩
    · omega
    · rcases h2.2.2 with y | ⟨_, y⟩
      · omega
      · have := w.2.2.2.2 _ _ z y e1 (by omega)
        omega
theorem cv_inj {A : Tb} (w : wA A) {x y : Nat} (h : okx A x) (h2 : okx A y) (e : cv A x = cv A y) : x = y := by
  have a1 := spot_inj w h.2.1 h2.2.1 (by rw [← cv_one w h, ← cv_one w h2, e]) (by have := cv_fr w h (s := 0) (by decide); have q := cv_fr w h2 (s := 0) (by decide); rw [e, q] at this; exact this.symm)
  have a2 := spot_inj w h.2.2.1 h2.2.2.1 (by rw [← cv_two w h, ← cv_two w h2, e]) (by have := cv_fr w h (s := 1) (by decide); have q := cv_fr w h2 (s := 1) (by decide); rw [e, q] at this; exact this.symm)
  have a3 : x % 2 = y % 2 := by rw [← cv_side w h, ← cv_side w h2, e]
  rw [(x01 h.1).1, (x01 h2.1).1, a1, a2, a3]
/-- every code that can be is some code of the class -/
theorem cv_sur {A : Tb} (w : wA A) {c : Nat} (h : okc A c) : ∃ x, okx A x ∧ cv A x = c := by
  have sp : ∀ s, s < 2 → ∃ u, vs A u ∧ hs A u = cHold c s ∧ fs A u = cFr c s := by
    intro s hs2
    have hp : cHold c s < tP A := by unfold cHold; split; exact h.2.1; exact h.2.2.1
    rcases h.2.2.2.2 s hs2 with z | ⟨z1, z2⟩
    · refine ⟨cHold c s, ⟨?_, ?_, Or.inl ?_⟩, ?_, ?_⟩ <;> have := w.1
      · omega
      · unfold hs; rw [if_pos (by omega)]; exact hp
      · omega
      · unfold hs; rw [if_pos (by omega)]
      · unfold fs; rw [if_pos (by omega), z]
    · by_cases z0 : cFr c s = 0
      · refine ⟨cHold c s, ⟨?_, ?_, Or.inl ?_⟩, ?_, ?_⟩ <;> have := w.1
        · omega
        · unfold hs; rw [if_pos (by omega)]; exact hp
        · omega
        · unfold hs; rw [if_pos (by omega)]
        · unfold fs; rw [if_pos (by omega), z0]
      · obtain ⟨t, ht, e1, e2⟩ := owes_iff.mp z2
        have ht40 := w.2.1
        refine ⟨16 + t, ⟨by omega, ?_, Or.inr ⟨z1, by omega⟩⟩, ?_, ?_⟩
        · unfold hs; rw [if_neg (by omega), Nat.add_sub_cancel_left, e1]; exact hp
        · unfold hs; rw [if_neg (by omega), Nat.add_sub_cancel_left, e1]
        · unfold fs; rw [if_neg (by omega), Nat.add_sub_cancel_left, e2]; omega
  obtain ⟨u, hu, u1, u2⟩ := sp 0 (by decide)
  obtain ⟨v, hv, v1, v2⟩ := sp 1 (by decide)
  have hu56 := hu.1
  have hv56 := hv.1
  have hc := cSide_lt c
  have e0 : x0 ((u * 56 + v) * 2 + cSide c) = u := by unfold x0; omega
  have e1 : x1 ((u * 56 + v) * 2 + cSide c) = v := by unfold x1; omega
  refine ⟨(u * 56 + v) * 2 + cSide c, ⟨by omega, by rw [e0]; exact hu, by rw [e1]; exact hv, ?_⟩, ?_⟩
  · rw [e0, e1, u1, v1]; exact h.2.2.2.1
  · unfold cv
    rw [e0, e1, u1, v1, u2, v2, show ((u * 56 + v) * 2 + cSide c) % 2 = cSide c by omega]
    exact mkc_of
