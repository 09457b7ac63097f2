/-! what keeps the static part -/
def WM (τ : jS) : Prop := wN τ ∧ wS τ ∧ wT τ ∧ wO τ ∧ wG τ ∧ wQ τ ∧ gI τ 1 35 = -1
theorem WM_keep {τ τ' : jS} (h : ∀ a i, stat a i = true → gI τ' a i = gI τ a i) (h5 : ∀ i, gI τ' 5 i = gI τ 5 i) (hu : gI τ' 1 35 = gI τ 1 35) (w : WM τ) : WM τ' := by
  obtain ⟨⟨n1, n2, n3, n4, n5, n6⟩, hS, hT, hO, hG, hQ, u⟩ := w
  have e := mn_eq h
  refine ⟨?_, ?_, ?_, ?_, ?_, ?_, hu.trans u⟩
  · unfold wN
    rw [e, h 1 0 rfl, h 1 2 rfl, h 1 6 rfl, h 1 8 rfl, h 1 13 rfl, h 1 14 rfl]
    exact ⟨n1, n2, n3, n4, n5, n6⟩
  · intro p hp
    rw [e, h 2 p rfl]; exact hS p hp
  · unfold wT
    rw [e]
    refine ⟨fun t ht => ?_, hT.2⟩
    rw [h 3 t rfl, h 4 t rfl]; exact hT.1 t ht
  · intro p hp
    rw [e, h5]; exact hO p hp
  · unfold wG
    rw [e]
    refine ⟨fun g hg => ?_, hG.2⟩
    rw [h 6 g rfl]; exact hG.1 g hg
  · intro q hq
    rw [e] at hq ⊢
    rw [h 7 q rfl, h 8 q rfl]; exact hQ q hq
def xst (a i : Nat) : Bool := a == 6 || a == 7 || a == 11 || a == 33 || a == 34 || a == 35 || (a == 5 && i == 5) || (a == 29 && (i == 3 || i == 4)) || (a == 32 && i == 3) || (decide (51 ≤ a) && decide (a ≤ 56)) || (decide (61 ≤ a) && decide (a ≤ 66))
def WX (σ : jS) (A : Tb) : Prop := xT σ A ∧ xG σ A ∧ xL σ A ∧ (tP A ≠ 0 → xW σ A ∧ xF σ A)
theorem xst_T {T j : Nat} (hT : T = 51 ∨ T = 61) (hj : j ≤ 5) (i : Nat) : xst (T + j) i = true := by
  have : j = 0 ∨ j = 1 ∨ j = 2 ∨ j = 3 ∨ j = 4 ∨ j = 5 := by omega
  rcases hT with rfl | rfl <;> rcases this with rfl | rfl | rfl | rfl | rfl | rfl <;> simp [xst]
theorem WX_keep {σ σ' : jS} {A : Tb} (hT : σ'.2.2.1 = σ.2.2.1) (h : ∀ a i, xst a i = true → gI σ' a i = gI σ a i) (hL : ∀ a i, a = 8 ∨ a = 9 ∨ a = 10 → gL σ' a i = gL σ a i) (w : WX σ A) : WX σ' A := by
  obtain ⟨⟨t1, t2, t3, t4, t5, t6, t7⟩, ⟨g1, g2, g3⟩, ⟨l1, l2⟩, f⟩ := w
  refine ⟨?_, ?_, ?_, ?_⟩
  · unfold xT
    rw [hT]
    have T0 : ∀ i, gI σ' σ.2.2.1 i = gI σ σ.2.2.1 i := fun i => h _ _ (xst_T t1 (j := 0) (by omega) i)
    have TT : ∀ j, j ≤ 5 → ∀ i, gI σ' (σ.2.2.1 + j) i = gI σ (σ.2.2.1 + j) i := fun j hj i => h _ _ (xst_T t1 hj i)
    refine ⟨t1, by rw [T0]; exact t2, by rw [T0]; exact t3, by rw [T0]; exact t4, ?_, ?_, ?_⟩
    · intro p hp; rw [TT 1 (by decide)]; exact t5 p hp
    · intro t ht; rw [TT 2 (by decide), TT 3 (by decide)]; exact t6 t ht
    · intro q hq; rw [TT 4 (by decide), TT 5 (by decide)]; exact t7 q hq
  · refine ⟨by rw [h 32 3 rfl]; exact g1, ?_, ?_⟩
    · intro g hg; rw [h 33 g rfl, h 34 g rfl]; exact g2 g hg
    · intro p hp; rw [h 35 p rfl]; exact g3 p hp
  · exact ⟨by rw [h 29 3 rfl]; exact l1, by rw [h 29 4 rfl]; exact l2⟩
  · intro z
    obtain ⟨⟨a1, a2, a3, a4, a5, a6⟩, b⟩ := f z
    refine ⟨⟨by rw [h 5 5 rfl]; exact a1, ?_, ?_, ?_, ?_, ?_⟩, ?_⟩
    · intro s hs; rw [h 6 s rfl, h 7 s rfl]; exact a2 s hs
    · intro t ht; rw [h 6 _ rfl, h 7 _ rfl]; exact a3 t ht
    · intro s hs; rw [hL _ _ (Or.inl rfl)]; exact a4 s hs
    · intro s hs; rw [hL _ _ (Or.inr (Or.inl rfl))]; exact a5 s hs
    · intro s hs; rw [hL _ _ (Or.inr (Or.inr rfl))]; exact a6 s hs
    · intro p hp; rw [h 11 p rfl]; exact b p hp
