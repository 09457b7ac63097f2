/-! the relation of the two states -/
def kp (l : List Nat) (σ σ' : jS) : Prop := ∀ a, a ∈ l → ∀ i, gI σ' a i = gI σ a i
theorem kp_rfl (l : List Nat) (σ : jS) : kp l σ σ := fun _ _ _ => rfl
theorem kp_tr {l : List Nat} {a b c : jS} (h1 : kp l a b) (h2 : kp l b c) : kp l a c := fun x hx i => (h2 x hx i).trans (h1 x hx i)
theorem kp_fr {H l : List Nat} {σ σ' : jS} (h : fr H σ σ') (d : l.all (fun a => !H.contains a) = true) : kp l σ σ' := fun a ha i => fr_I h (fun q => by
  have := List.all_eq_true.mp d a ha
  simp [q] at this) i
theorem kp_sI {l : List Nat} (σ : jS) {h : Nat} (i : Nat) (v : Int32) (d : l.contains h = false) : kp l σ (sI σ h i v) := fun a ha j => gI_ne (fun q => by
  subst q
  simp [ha] at d)
def rS (σ τ : jS) : Prop := ∃ s, s < 2 ^ 31 ∧ gI σ 29 5 = nI s ∧ gI τ 1 36 = nI s
def rTT (σ : jS) : Prop := (σ.2.2.1 = 51 ∧ σ.2.2.2 = 61) ∨ (σ.2.2.1 = 61 ∧ σ.2.2.2 = 51)
def rTx (σ τ : jS) : Prop := ∃ n, n ≤ 500 ∧ gI σ 2 1 = nI n ∧ gI τ 1 16 = nI n ∧ ∀ i, i < n → ∃ c, c < 256 ∧ gI σ 3 i = nI c ∧ gI τ 11 i = nI c
def rFl (σ τ : jS) : Prop := gI σ 1 9 = gI τ 1 17
def rLg (P : Nat) (σ τ : jS) : Prop := ∃ n, n ≤ 40 ∧ gI σ 23 2 = nI n ∧ gI τ 1 56 = nI n ∧ ∀ i, i < n → ∃ a b, a < P ∧ b < P ∧ gI σ 24 i = nI a ∧ gI τ 32 i = nI a ∧ gI σ 25 i = nI b ∧ gI τ 33 i = nI b
def rSe (P : Nat) (σ τ : jS) : Prop := ∃ n, n ≤ 20 ∧ gI σ 23 3 = nI n ∧ gI τ 1 59 = nI n ∧ ∀ i, i < n → ∃ a b c, a ≤ 40 ∧ b < P ∧ c < 2 ∧ gI σ 26 i = nI a ∧ gI τ 34 i = nI a ∧ gI σ 27 i = nI b ∧ gI τ 35 i = nI b ∧ gI σ 28 i = nI c ∧ gI τ 36 i = nI c
/-- a town's table with the grudges and the law of the image at o -/
def imA (A : Tb) (τ : jS) (o : Nat) (a j : Nat) : Nat := if a = 6 then (if j < 120 then ix (gI τ 40 (o + 12 + j)) else 0) else if a = 1 ∧ j = 6 then ix (gI τ 40 (o + 11)) else if a = 1 ∧ j = 13 then ix (gI τ 40 (o + 8)) else if a = 1 ∧ j = 14 then ix (gI τ 40 (o + 9)) else A a j
/-- a row of grudges of the class -/
def xGr (σ : jS) (h : Nat) (A : Tb) : Prop := gI σ h 3 = nI (tG A) ∧ (∀ g, g < tG A → gI σ (h + 1) g = nI (A 6 g / 100) ∧ gI σ (h + 2) g = nI (A 6 g % 100)) ∧ ∀ p, p < 16 → gI σ (h + 3) p = nI (bm (bears A p) 16)
/-- the grudges of a table are of persons, each pair once -/
def wGA (A : Tb) : Prop := (∀ g, g < tG A → A 6 g / 100 < tP A ∧ A 6 g % 100 < tP A ∧ A 6 g / 100 ≠ A 6 g % 100) ∧ ∀ g h, g < tG A → h < tG A → bearsAt A (A 6 g / 100) (A 6 g % 100) h = true → g = h
/-- the quarrels' states, class at handle hh (passed hh + 1), reference at hm, from o (counts at hm2, from o2) -/
def xHr (σ τ : jS) (A : Tb) (hh hm o hm2 o2 : Nat) : Prop := ∀ q, q < tQ A → ∃ x, gI σ hh q = nI x ∧ okx A x ∧ gI τ hm (o + q) = nI (cv A x) ∧ gI σ (hh + 1) q = gI τ hm2 (o2 + q)
/-- what an image holds -/
def rIm (A : Tb) (σ τ : jS) (h o : Nat) : Prop := (gI τ 40 (o + 8) = nI (tW A) ∧ tW A ≤ 3 ∧ gI σ h 3 = nI (tW A)) ∧ (gI τ 40 (o + 9) = nI (tB A) ∧ tB A ≤ 1 ∧ gI σ h 4 = nI (tB A)) ∧ (∃ s, s < 2 ^ 31 ∧ gI τ 40 (o + 10) = nI s ∧ gI σ h 5 = nI s) ∧ (gI τ 40 (o + 11) = nI (tG A) ∧ tG A ≤ 120) ∧ (∀ g, g < tG A → gI τ 40 (o + 12 + g) = nI (A 6 g)) ∧ wGA A ∧ xGr σ (h + 3) A ∧ xHr σ τ A (h + 1) 40 o 40 (o + 4)
def rI1 (A : Tb) (σ τ : jS) (i h : Nat) : Prop := (gI τ 41 i = 0 ∨ gI τ 41 i = 1) ∧ gI σ h 6 = gI τ 41 i ∧ (gI τ 41 i = 1 → rIm (imA A τ (140 * i)) σ τ h (140 * i))
def rI (A : Tb) (σ τ : jS) : Prop := rI1 A σ τ 0 37 ∧ rI1 A σ τ 1 44
/-- scratch of the class -/
def sX (k : Nat) (σ : jS) : Prop := (∃ n, n ≤ 6272 ∧ gI σ 4 1 = nI n ∧ (∀ i, i < n → ∃ c, c < 6272 ∧ gI σ 12 i = nI c) ∧ ∀ c, c < 6272 → gI σ 14 c = 0 ∨ ∃ i, i < n ∧ gI σ 12 i = nI c) ∧ ∃ l, 16 ≤ l ∧ l ≤ 16 + 11 * k ∧ gI σ 4 11 = nI l ∧ ∀ c, c < 6272 → ∃ v, v ≤ l ∧ gI σ 15 c = nI v
/-- scratch of the reference -/
def sM (k : Nat) (τ : jS) : Prop := ((∀ p, p < 16 → ∃ v, v ≤ 9 ∧ gI τ 12 p = nI v) ∧ ∃ n, n ≤ 147968 ∧ gI τ 1 39 = nI n ∧ (∀ i, i < n → ∃ c, c < 147968 ∧ gI τ 19 i = nI c) ∧ ∀ c, c < 147968 → gI τ 18 c = 0 ∨ ∃ i, i < n ∧ gI τ 19 i = nI c) ∧ ∃ s, s ≤ 11 * k + 1 ∧ gI τ 1 68 = nI s ∧ ∀ c, c < 147968 → ∃ v, v ≤ s ∧ gI τ 39 c = nI v
def RS (σ τ : jS) : Prop := WM τ ∧ WX σ (mn τ) ∧ xH σ τ ∧ rS σ τ ∧ rTT σ ∧ rTx σ τ ∧ rFl σ τ ∧ rLg (tP (mn τ)) σ τ ∧ rSe (tP (mn τ)) σ τ ∧ rI (mn τ) σ τ
def Rel (k : Nat) (σ τ : jS) : Prop := RS σ τ ∧ sX k σ ∧ sM k τ
theorem sX_mono {k j : Nat} {σ : jS} (h : sX k σ) (hj : k ≤ j) : sX j σ := by
  obtain ⟨h1, l, a, b, c⟩ := h
  exact ⟨h1, l, a, by omega, c⟩
theorem sM_mono {k j : Nat} {σ : jS} (h : sM k σ) (hj : k ≤ j) : sM j σ := by
  obtain ⟨h1, l, a, c⟩ := h
  exact ⟨h1, l, by omega, c⟩
theorem r_mono (k : Nat) (σ τ : jS) (h : Rel k σ τ) : Rel (k + 4) σ τ := ⟨h.1, sX_mono h.2.1 (by omega), sM_mono h.2.2 (by omega)⟩
theorem sX_keep {k : Nat} {σ σ' : jS} (h : kp [12, 14, 15] σ σ') (h1 : gI σ' 4 1 = gI σ 4 1) (h2 : gI σ' 4 11 = gI σ 4 11) (s : sX k σ) : sX k σ' := by
  obtain ⟨⟨n, a1, a2, a3, a4⟩, l, b1, b2, b3, b4⟩ := s
  refine ⟨⟨n, a1, h1.trans a2, fun i hi => ?_, fun c hc => ?_⟩, l, b1, b2, h2.trans b3, fun c hc => ?_⟩
  · rw [h 12 (by decide)]; exact a3 i hi
  · rw [h 14 (by decide)]
    rcases a4 c hc with z | ⟨i, z1, z2⟩
    · exact Or.inl z
    · exact Or.inr ⟨i, z1, by rw [h 12 (by decide)]; exact z2⟩
  · rw [h 15 (by decide)]; exact b4 c hc
theorem sM_keep {k : Nat} {σ σ' : jS} (h : kp [18, 19, 39, 12] σ σ') (h1 : gI σ' 1 39 = gI σ 1 39) (h2 : gI σ' 1 68 = gI σ 1 68) (s : sM k σ) : sM k σ' := by
  obtain ⟨⟨a0, n, a1, a2, a3, a4⟩, l, b2, b3, b4⟩ := s
  refine ⟨⟨fun p hp => ?_, n, a1, h1.trans a2, fun i hi => ?_, fun c hc => ?_⟩, l, b2, h2.trans b3, fun c hc => ?_⟩
  · rw [h 12 (by decide)]; exact a0 p hp
  · rw [h 19 (by decide)]; exact a3 i hi
  · rw [h 18 (by decide)]
    rcases a4 c hc with z | ⟨i, z1, z2⟩
    · exact Or.inl z
    · exact Or.inr ⟨i, z1, by rw [h 19 (by decide)]; exact z2⟩
  · rw [h 39 (by decide)]; exact b4 c hc
theorem rS_keep {σ τ σ' τ' : jS} (h1 : gI σ' 29 5 = gI σ 29 5) (h2 : gI τ' 1 36 = gI τ 1 36) (h : rS σ τ) : rS σ' τ' := by
  obtain ⟨s, a, b, c⟩ := h
  exact ⟨s, a, h1.trans b, h2.trans c⟩
theorem rTT_keep {σ σ' : jS} (h1 : σ'.2.2 = σ.2.2) (h : rTT σ) : rTT σ' := by unfold rTT; rw [h1]; exact h
theorem rTx_keep {σ τ σ' τ' : jS} (h1 : gI σ' 2 1 = gI σ 2 1) (h2 : gI τ' 1 16 = gI τ 1 16) (k1 : kp [3] σ σ') (k2 : kp [11] τ τ') (h : rTx σ τ) : rTx σ' τ' := by
  obtain ⟨n, a, b, c, d⟩ := h
  refine ⟨n, a, h1.trans b, h2.trans c, fun i hi => ?_⟩
  rw [k1 3 (by decide), k2 11 (by decide)]; exact d i hi
theorem rFl_keep {σ τ σ' τ' : jS} (h1 : gI σ' 1 9 = gI σ 1 9) (h2 : gI τ' 1 17 = gI τ 1 17) (h : rFl σ τ) : rFl σ' τ' := h1.trans (h.trans h2.symm)
theorem rLg_keep {P : Nat} {σ τ σ' τ' : jS} (h1 : gI σ' 23 2 = gI σ 23 2) (h2 : gI τ' 1 56 = gI τ 1 56) (k1 : kp [24, 25] σ σ') (k2 : kp [32, 33] τ τ') (h : rLg P σ τ) : rLg P σ' τ' := by
  obtain ⟨n, a, b, c, d⟩ := h
  refine ⟨n, a, h1.trans b, h2.trans c, fun i hi => ?_⟩
  rw [k1 24 (by decide), k1 25 (by decide), k2 32 (by decide), k2 33 (by decide)]; exact d i hi
theorem rSe_keep {P : Nat} {σ τ σ' τ' : jS} (h1 : gI σ' 23 3 = gI σ 23 3) (h2 : gI τ' 1 59 = gI τ 1 59) (k1 : kp [26, 27, 28] σ σ') (k2 : kp [34, 35, 36] τ τ') (h : rSe P σ τ) : rSe P σ' τ' := by
  obtain ⟨n, a, b, c, d⟩ := h
  refine ⟨n, a, h1.trans b, h2.trans c, fun i hi => ?_⟩
  rw [k1 26 (by decide), k1 27 (by decide), k1 28 (by decide), k2 34 (by decide), k2 35 (by decide), k2 36 (by decide)]; exact d i hi
theorem imA_keep {A : Tb} {τ τ' : jS} (k2 : kp [40] τ τ') (o : Nat) : imA A τ' o = imA A τ o := by
  funext a j
  unfold imA
  rw [k2 40 (by decide), k2 40 (by decide), k2 40 (by decide), k2 40 (by decide)]
theorem xGr_keep {A : Tb} {σ σ' : jS} {h : Nat} (k1 : kp [h, h + 1, h + 2, h + 3] σ σ') (g : xGr σ h A) : xGr σ' h A := by
  obtain ⟨a, b, c⟩ := g
  refine ⟨by rw [k1 h (by simp)]; exact a, fun i hi => ?_, fun p hp => ?_⟩
  · rw [k1 (h + 1) (by simp), k1 (h + 2) (by simp)]; exact b i hi
  · rw [k1 (h + 3) (by simp)]; exact c p hp
theorem rIm_keep {A : Tb} {σ τ σ' τ' : jS} {h o : Nat} (k1 : kp [h, h + 1, h + 2, h + 3, h + 4, h + 5, h + 6] σ σ') (k2 : kp [40] τ τ') (g : rIm A σ τ h o) : rIm A σ' τ' h o := by
  obtain ⟨⟨a1, a2, a3⟩, ⟨b1, b2, b3⟩, ⟨s, c1, c2, c3⟩, ⟨d1, d2⟩, e, f, g, i⟩ := g
  refine ⟨⟨by rw [k2 40 (by decide)]; exact a1, a2, by rw [k1 h (by simp)]; exact a3⟩, ⟨by rw [k2 40 (by decide)]; exact b1, b2, by rw [k1 h (by simp)]; exact b3⟩, ⟨s, c1, by rw [k2 40 (by decide)]; exact c2, by rw [k1 h (by simp)]; exact c3⟩, ⟨by rw [k2 40 (by decide)]; exact d1, d2⟩, fun u hu => by rw [k2 40 (by decide)]; exact e u hu, f, xGr_keep (fun a ha i => k1 a (by simp at ha ⊢; omega) i) g, fun q hq => ?_⟩
  rw [k1 (h + 1) (by simp), k1 (h + 1 + 1) (by simp), k2 40 (by decide), k2 40 (by decide)]
  exact i q hq
theorem rI_keep {A : Tb} {σ τ σ' τ' : jS} (k1 : kp [37, 38, 39, 40, 41, 42, 43, 44, 45, 46, 47, 48, 49, 50] σ σ') (k2 : kp [40, 41] τ τ') (h : rI A σ τ) : rI A σ' τ' := by
  have k40 : kp [40] τ τ' := fun a ha i => k2 a (by simp at ha ⊢; omega) i
  obtain ⟨⟨a1, a2, a3⟩, b1, b2, b3⟩ := h
  refine ⟨⟨?_, ?_, ?_⟩, ?_, ?_, ?_⟩
  · rw [k2 41 (by decide)]; exact a1
  · rw [k2 41 (by decide), k1 37 (by decide)]; exact a2
  · rw [k2 41 (by decide), imA_keep k40]
    exact fun q => rIm_keep (fun a ha i => k1 a (by simp at ha ⊢; omega) i) k40 (a3 q)
  · rw [k2 41 (by decide)]; exact b1
  · rw [k2 41 (by decide), k1 44 (by decide)]; exact b2
  · rw [k2 41 (by decide), imA_keep k40]
    exact fun q => rIm_keep (fun a ha i => k1 a (by simp at ha ⊢; omega) i) k40 (b3 q)
theorem xH_keep {σ τ σ' τ' : jS} (e : mn τ' = mn τ) (k1 : kp [30, 31] σ σ') (k2 : kp [9, 10] τ τ') (h : xH σ τ) : xH σ' τ' := by
  intro q hq
  rw [e] at hq ⊢
  rw [k1 30 (by decide), k1 31 (by decide), k2 9 (by decide), k2 10 (by decide)]
  exact h q hq
/-! the start -/
theorem st_X (a i : Nat) (h : a ≠ 2) (h2 : a ≠ 4) (h3 : a ≠ 1) : gI lw_X0 a i = 0 := by
  show kXI3 a i = 0
  unfold kXI3 kXI2 kXI1 kXI0 ju
  rw [if_neg (fun q => h3 q.1), if_neg (fun q => h2 q.1), if_neg (fun q => h q.1)]
theorem st_M (a i : Nat) (h : a ≠ 1) : gI lw_M0 a i = 0 := by
  show kMI3 a i = 0
  unfold kMI3 kMI2 kMI1 kMI0 ju
  rw [if_neg (fun q => h q.1), if_neg (fun q => h q.1), if_neg (fun q => h q.1)]
theorem r_start : Rel 0 lw_X0 lw_M0 := by
  have f : ∀ i, (i == 0 || i == 2 || i == 6 || i == 8 || i == 13 || i == 14) = true → gI lw_M0 1 i = 0 := by
    intro i h
    simp only [Bool.or_eq_true, beq_iff_eq] at h
    rcases h with ((((rfl | rfl) | rfl) | rfl) | rfl) | rfl <;> rfl
  have e : mn lw_M0 = fun _ _ => 0 := by
    funext a i
    unfold mn
    by_cases q : stat a i = true
    · rw [if_pos q]
      by_cases z : a = 1
      · subst z
        have : gI lw_M0 1 i = 0 := f i (by simpa [stat] using q)
        rw [this]; rfl
      · rw [st_M a i z]; rfl
    · rw [if_neg q]
  have z0 : ∀ (p : Nat → Bool), (∀ k, p k = false) → (0 : Int32) = nI (bm p 16) := fun p h => by rw [bm_zero.mpr (fun k _ => h k)]; rfl
  refine ⟨⟨?_, ?_, ?_, ?_, ?_, ?_, ?_, ?_, ?_, ?_⟩, ?_, ?_⟩
  · unfold WM wN wS wT wO wG wQ
    rw [e]
    refine ⟨⟨⟨rfl, Nat.zero_le _⟩, ⟨rfl, Nat.zero_le _⟩, ⟨rfl, Nat.zero_le _⟩, ⟨rfl, Nat.zero_le _⟩, ⟨rfl, Nat.zero_le _⟩, ⟨rfl, Nat.zero_le _⟩⟩, ?_, ⟨?_, ?_⟩, ?_, ⟨?_, ?_⟩, ?_, rfl⟩
    · intro p _; exact ⟨st_M 2 p (by decide), Nat.zero_le _⟩
    · intro t ht; exact absurd ht (Nat.not_lt_zero t)
    · intro t u ht; exact absurd ht (Nat.not_lt_zero t)
    · intro p _; rw [st_M 5 p (by decide)]; exact z0 _ (fun _ => rfl)
    · intro t ht; exact absurd ht (Nat.not_lt_zero t)
    · intro t u ht; exact absurd ht (Nat.not_lt_zero t)
    · intro t ht; exact absurd ht (Nat.not_lt_zero t)
  · rw [e]
    refine ⟨⟨Or.inl rfl, rfl, rfl, rfl, ?_, ?_, ?_⟩, ⟨rfl, ?_, ?_⟩, ⟨rfl, rfl⟩, fun q => absurd rfl q⟩
    · intro t ht; exact absurd ht (Nat.not_lt_zero t)
    · intro t ht; exact absurd ht (Nat.not_lt_zero t)
    · intro t ht; exact absurd ht (Nat.not_lt_zero t)
    · intro t ht; exact absurd ht (Nat.not_lt_zero t)
    · intro p _; rw [st_X 35 p (by decide) (by decide) (by decide)]; exact z0 _ (fun _ => rfl)
  · unfold xH; rw [e]; intro t ht; exact absurd ht (Nat.not_lt_zero t)
  · exact ⟨0, by decide, rfl, rfl⟩
  · exact Or.inl ⟨rfl, rfl⟩
  · exact ⟨0, by decide, rfl, rfl, fun t ht => absurd ht (Nat.not_lt_zero t)⟩
  · exact rfl
  · exact ⟨0, by decide, rfl, rfl, fun t ht => absurd ht (Nat.not_lt_zero t)⟩
  · exact ⟨0, by decide, rfl, rfl, fun t ht => absurd ht (Nat.not_lt_zero t)⟩
  · exact ⟨⟨Or.inl rfl, rfl, fun q => absurd q (by decide)⟩, Or.inl rfl, rfl, fun q => absurd q (by decide)⟩
  · exact ⟨⟨0, by decide, rfl, fun t ht => absurd ht (Nat.not_lt_zero t), fun c _ => Or.inl (st_X 14 c (by decide) (by decide) (by decide))⟩, 16, Nat.le_refl _, by decide, rfl, fun c _ => ⟨0, Nat.zero_le _, st_X 15 c (by decide) (by decide) (by decide)⟩⟩
  · exact ⟨⟨fun p _ => ⟨0, by decide, st_M 12 p (by decide)⟩, 0, by decide, rfl, fun t ht => absurd ht (Nat.not_lt_zero t), fun c _ => Or.inl (st_M 18 c (by decide))⟩, 0, by decide, rfl, fun c _ => ⟨0, Nat.zero_le _, st_M 39 c (by decide)⟩⟩
