/-! images: what a copy does, in both tongues -/
def stH (d : Nat) : Prop := d = 29 ∨ d = 37 ∨ d = 44
theorem stH_in {d : Nat} (h : stH d) : d ∈ [29, 37, 44] ∧ d + 3 ∈ [32, 40, 47, 57, 67] := by rcases h with rfl | rfl | rfl <;> decide
theorem stH_p {d : Nat} (h : stH d) : rPX d 0 = d + 1 ∧ rPX d 1 = d + 2 ∧ rPX d 2 = d + 3 ∧ rPX (d + 3) 0 = d + 4 ∧ rPX (d + 3) 1 = d + 5 ∧ rPX (d + 3) 2 = d + 6 := by
  rcases h with rfl | rfl | rfl <;> exact ⟨rfl, rfl, rfl, rfl, rfl, rfl⟩
theorem stH_s {d : Nat} (h : stH d) : (jrwX 0 (d + 1) = true ∧ (SHX (d + 1)).2 = 4) ∧ (jrwX 0 (d + 2) = true ∧ (SHX (d + 2)).2 = 4) ∧ (jrwX 0 (d + 4) = true ∧ (SHX (d + 4)).2 = 120) ∧ (jrwX 0 (d + 5) = true ∧ (SHX (d + 5)).2 = 120) ∧ (jrwX 0 (d + 6) = true ∧ (SHX (d + 6)).2 = 16) := by
  rcases h with rfl | rfl | rfl <;> exact ⟨⟨rfl, rfl⟩, ⟨rfl, rfl⟩, ⟨rfl, rfl⟩, ⟨rfl, rfl⟩, ⟨rfl, rfl⟩⟩
/-- grudges taken: d and s are Grudges -/
theorem x_takeG {σ : jS} {d s : Nat} (hd : stH d) (hs : stH s) (hne : d ≠ s) {n : Nat} (hn : gI σ (s + 3) 3 = nI n) (h120 : n ≤ 120) : ∃ σ', f_X1_take σ (d + 3) (s + 3) = some ((), σ') ∧ fr [d + 3, d + 4, d + 5, d + 6] σ σ' ∧ ∀ B, xGr σ (s + 3) B → tG B = n → xGr σ' (d + 3) B := by
  obtain ⟨d1, d2, d3, d4, d5, d6⟩ := stH_p hd
  obtain ⟨s1, s2, s3, s4, s5, s6⟩ := stH_p hs
  obtain ⟨⟨x1, x2⟩, ⟨x3, x4⟩, ⟨x5, x6⟩, ⟨x7, x8⟩, ⟨x9, x10⟩⟩ := stH_s hd
  obtain ⟨⟨y1, y2⟩, ⟨y3, y4⟩, ⟨y5, y6⟩, ⟨y7, y8⟩, ⟨y9, y10⟩⟩ := stH_s hs
  have ds : ∀ i j, i ≤ 6 → j ≤ 6 → d + i ≠ s + j := by
    intro i j hi hj
    rcases hd with rfl | rfl | rfl <;> rcases hs with rfl | rfl | rfl <;> omega
  obtain ⟨σ2, b1, b2, b3, b4, b5⟩ := x_copy (σ := sI σ (d + 3) 3 (nI n)) (a := s + 4) (b := d + 4) (n := n) (by omega) y5 (by omega) x5 (by omega) (by omega) (by omega) (by omega) (by omega) (ds 4 4 (by omega) (by omega)).symm
  obtain ⟨σ3, c1, c2, c3, c4, c5⟩ := x_copy (σ := σ2) (a := s + 5) (b := d + 5) (n := n) (by omega) y7 (by omega) x7 (by omega) (by omega) (by omega) (by omega) (by omega) (ds 5 5 (by omega) (by omega)).symm
  obtain ⟨σ4, e1, e2, e3, e4, e5⟩ := x_copy (σ := σ3) (a := s + 6) (b := d + 6) (n := 16) (by omega) y9 (by omega) x9 (by omega) (by omega) (by omega) (by omega) (by omega) (ds 6 6 (by omega) (by omega)).symm
  refine ⟨σ4, ?_, ?_, ?_⟩
  · unfold f_X1_take
    rw [bH_t (stH_in hs).2, bH_t (stH_in hd).2, hn, bV_e, gI_sI, d4, s4, b1, bD_e, fr_I b2 (by simp), gI_sI, d5, s5, c1, bD_e, d6, s6]
    rw [show f_X6_copy σ3 (s + 6) (d + 6) 16 = some ((), σ4) from e1, bD_e]
  · exact fr_trans (fr_trans (fr_trans (fr_sI _ _ _ (by simp)) (fr_mono b2 (by simp))) (fr_mono c2 (by simp))) (fr_mono e2 (by simp))
  · intro B ⟨g1, g2, g3⟩ hB
    refine ⟨?_, fun g hg => ⟨?_, ?_⟩, fun p hp => ?_⟩
    · rw [fr_I e2 (by simp), fr_I c2 (by simp), fr_I b2 (by simp), gI_sI, hB]
    · show gI σ4 (d + 4) g = _
      rw [fr_I e2 (by simp), fr_I c2 (by simp), b3 g (by omega), gI_ne (ds 3 4 (by omega) (by omega)).symm]
      exact (g2 g hg).1
    · show gI σ4 (d + 5) g = _
      rw [fr_I e2 (by simp), c3 g (by omega), fr_I b2 (by have := ds 4 5 (by omega) (by omega); simp; omega), gI_ne (ds 3 5 (by omega) (by omega)).symm]
      exact (g2 g hg).2
    · show gI σ4 (d + 6) p = _
      rw [e3 p hp, fr_I c2 (by have := ds 5 6 (by omega) (by omega); simp; omega), fr_I b2 (by have := ds 4 6 (by omega) (by omega); simp; omega), gI_ne (ds 3 6 (by omega) (by omega)).symm]
      exact g3 p hp
theorem x_take {σ : jS} {d s : Nat} (hd : stH d) (hs : stH s) (hne : d ≠ s) {n : Nat} (hn : gI σ (s + 3) 3 = nI n) (h120 : n ≤ 120) : ∃ σ', f_X7_take σ d s = some ((), σ') ∧ fr [d, d + 1, d + 2, d + 3, d + 4, d + 5, d + 6] σ σ' ∧ (∀ q, q < 4 → gI σ' (d + 1) q = gI σ (s + 1) q ∧ gI σ' (d + 2) q = gI σ (s + 2) q) ∧ (gI σ' d 3 = gI σ s 3 ∧ gI σ' d 4 = gI σ s 4 ∧ gI σ' d 5 = gI σ s 5 ∧ gI σ' d 6 = gI σ d 6) ∧ ∀ B, xGr σ (s + 3) B → tG B = n → xGr σ' (d + 3) B := by
  obtain ⟨d1, d2, d3, d4, d5, d6⟩ := stH_p hd
  obtain ⟨s1, s2, s3, s4, s5, s6⟩ := stH_p hs
  obtain ⟨⟨x1, x2⟩, ⟨x3, x4⟩, _⟩ := stH_s hd
  obtain ⟨⟨y1, y2⟩, ⟨y3, y4⟩, _⟩ := stH_s hs
  have ds : ∀ i j, i ≤ 6 → j ≤ 6 → d + i ≠ s + j := by
    intro i j hi hj
    rcases hd with rfl | rfl | rfl <;> rcases hs with rfl | rfl | rfl <;> omega
  have ds0 : ∀ j, j ≤ 6 → s ≠ d + j := fun j hj e => ds j 0 hj (by omega) e.symm
  have sd0 : ∀ j, j ≤ 6 → s + j ≠ d := fun j hj e => ds 0 j (by omega) hj e.symm
  obtain ⟨σ2, b1, b2, b3, b4, b5⟩ := x_copy (σ := σ) (a := s + 1) (b := d + 1) (n := 4) (by omega) y1 (by omega) x1 (by omega) (by omega) (by omega) (by omega) (by omega) (ds 1 1 (by omega) (by omega)).symm
  obtain ⟨σ3, c1, c2, c3, c4, c5⟩ := x_copy (σ := σ2) (a := s + 2) (b := d + 2) (n := 4) (by omega) y3 (by omega) x3 (by omega) (by omega) (by omega) (by omega) (by omega) (ds 2 2 (by omega) (by omega)).symm
  have g3 : ∀ j i, 3 ≤ j → j ≤ 6 → gI σ3 (s + j) i = gI σ (s + j) i := fun j i h1 h2 => by
    rw [fr_I c2 (by simp; exact (ds 2 j (by omega) h2).symm), fr_I b2 (by simp; exact (ds 1 j (by omega) h2).symm)]
  obtain ⟨σ4, e1, e2, e3⟩ := x_takeG (σ := σ3) hd hs hne (n := n) (by rw [g3 3 3 (by omega) (by omega)]; exact hn) h120
  have s0 : ∀ i, gI σ4 s i = gI σ s i := fun i => by
    rw [fr_I e2 (by simp; exact ⟨ds0 3 (by omega), ds0 4 (by omega), ds0 5 (by omega), ds0 6 (by omega)⟩), fr_I c2 (by simp; exact ds0 2 (by omega)), fr_I b2 (by simp; exact ds0 1 (by omega))]
  have f4 : fr [d, d + 1, d + 2, d + 3, d + 4, d + 5, d + 6] σ σ4 := fr_trans (fr_trans (fr_mono b2 (by simp)) (fr_mono c2 (by simp))) (fr_mono e2 (by simp))
  have d0 : ∀ i, gI σ4 d i = gI σ d i := fun i => by
    rw [fr_I e2 (by simp), fr_I c2 (by simp), fr_I b2 (by simp)]
  have hsd : s ≠ d := fun e => hne e.symm
  refine ⟨sI (sI (sI σ4 d 3 (gI σ s 3)) d 4 (gI σ s 4)) d 5 (gI σ s 5), ?_, ?_, ?_, ?_, ?_⟩
  · unfold f_X7_take
    rw [bH_t (stH_in hs).1, bH_t (stH_in hd).1, d1, s1, show f_X6_copy σ (s + 1) (d + 1) 4 = some ((), σ2) from b1, bD_e, d2, s2, show f_X6_copy σ2 (s + 2) (d + 2) 4 = some ((), σ3) from c1, bD_e, d3, s3, e1, bD_e, s0, bV_e, gI_ne hsd, s0, bV_e, gI_ne hsd, gI_ne hsd, s0, bV_e]
  · exact fr_trans (fr_trans (fr_trans f4 (fr_sI _ _ _ (by simp))) (fr_sI _ _ _ (by simp))) (fr_sI _ _ _ (by simp))
  · intro q hq
    have n1 : d + 1 ≠ d := by omega
    have n2 : d + 2 ≠ d := by omega
    rw [gI_ne n1, gI_ne n1, gI_ne n1, gI_ne n2, gI_ne n2, gI_ne n2, fr_I e2 (by simp), fr_I c2 (by simp), b3 q hq, fr_I e2 (by simp), c3 q hq, fr_I b2 (by have := ds 1 2 (by omega) (by omega); simp; omega)]
    exact ⟨rfl, rfl⟩
  · refine ⟨?_, ?_, ?_, ?_⟩
    · rw [gI_nei (by decide), gI_nei (by decide), gI_sI]
    · rw [gI_nei (by decide), gI_sI]
    · rw [gI_sI]
    · rw [gI_nei (by decide), gI_nei (by decide), gI_nei (by decide), d0]
  · intro B hB hn2
    have h3 : xGr σ3 (s + 3) B := by
      obtain ⟨u1, u2, u3⟩ := hB
      refine ⟨by rw [g3 3 3 (by omega) (by omega)]; exact u1, fun g hg => ?_, fun p hp => ?_⟩
      · have a1 := g3 4 g (by omega) (by omega)
        have a2 := g3 5 g (by omega) (by omega)
        show gI σ3 (s + 4) g = _ ∧ gI σ3 (s + 5) g = _
        rw [a1, a2]; exact u2 g hg
      · have a1 := g3 6 p (by omega) (by omega)
        show gI σ3 (s + 6) p = _
        rw [a1]; exact u3 p hp
    refine xGr_keep ?_ (e3 B h3 hn2)
    intro a ha i
    have : a ≠ d := by simp at ha; omega
    rw [gI_ne this, gI_ne this, gI_ne this]
theorem x_imageAt (σ : jS) (a : Int32) : (∃ i, i < 2 ∧ a = nI i ∧ f_X10_imageAt σ a = some (37 + 7 * i) ∧ f_X11_in a.toInt64 0 1 = some 1) ∨ (f_X10_imageAt σ a = some 0 ∧ f_X11_in a.toInt64 0 1 = some 0) := by
  rw [in01]
  unfold f_X10_imageAt f_X10_imageAt_J29 f_X10_imageAt_J30
  rw [if_neg (show ¬ (36 : Nat) = 0 by decide)]
  by_cases h : a < 0
  · refine Or.inr ⟨by rw [if_pos h], by rw [if_neg]; rintro (rfl | rfl) <;> revert h <;> decide⟩
  · obtain ⟨j, hj, rfl⟩ := nI_of h
    rw [if_neg h]
    by_cases h1 : j ≤ 1
    · have : j = 0 ∨ j = 1 := by omega
      rcases this with rfl | rfl
      · exact Or.inl ⟨0, by decide, rfl, rfl, rfl⟩
      · exact Or.inl ⟨1, by decide, rfl, rfl, rfl⟩
    · refine Or.inr ⟨by rw [if_pos (show Int32.ofNat 2 ≤ nI j from nI_le (a := 2) (by omega) hj)], by
        rw [if_neg]
        rintro (e | e)
        · have := (nI_eq (b := 0) hj (by decide)).mp e; omega
        · have := (nI_eq (b := 1) hj (by decide)).mp e; omega⟩
/-! the reference keeps -/
theorem mk_2 {τ : jS} {i o G : Nat} (hG : G ≤ 120) (ho : o ≤ 140) (hi : i < 2) (h6 : gI τ 1 6 = nI G) : ∃ τ', jloop jFuel (fun s => f_X11_keep_B125 s.2 (nI i) (nI o) s.1) (0, τ) = some (1, τ') ∧ fr [40, 41] τ τ' ∧ (∀ g, g < G → gI τ' 40 (o + 12 + g) = gI τ 6 g) ∧ (∀ j, j < o + 12 ∨ o + 12 + G ≤ j → gI τ' 40 j = gI τ 40 j) ∧ gI τ' 41 i = 1 ∧ ∀ j, j ≠ i → gI τ' 41 j = gI τ 41 j := by
  have key := jloop_ex (S := Int32 × jS) (O := Int32 × jS) (f := fun s => f_X11_keep_B125 s.2 (nI i) (nI o) s.1) (fun g s => s.1 = nI g ∧ fr [40] τ s.2 ∧ (∀ u, u < g → gI s.2 40 (o + 12 + u) = gI τ 6 u) ∧ (∀ j, j < o + 12 ∨ o + 12 + g ≤ j → gI s.2 40 j = gI τ 40 j)) G (fun r => r.1 = 1 ∧ fr [40, 41] τ r.2 ∧ (∀ g, g < G → gI r.2 40 (o + 12 + g) = gI τ 6 g) ∧ (∀ j, j < o + 12 ∨ o + 12 + G ≤ j → gI r.2 40 j = gI τ 40 j) ∧ gI r.2 41 i = 1 ∧ ∀ j, j ≠ i → gI r.2 41 j = gI τ 41 j) (s0 := (0, τ)) ⟨rfl, fr_rfl _ _, fun u hu => absurd hu (Nat.not_lt_zero u), fun _ _ => rfl⟩ (jfuel_big (by omega)) ?_ ?_
  · obtain ⟨⟨o1, o2⟩, e1, rfl, e3⟩ := key
    exact ⟨o2, e1, e3⟩
  · rintro ⟨a, s⟩ ⟨rfl, g1, g2, g3⟩
    refine ⟨(1, sI s 41 i 1), ?_, rfl, fr_trans (fr_mono g1 (by decide)) (fr_sI _ _ _ (by decide)), fun g hg => ?_, fun j hj => ?_, gI_sI _ _ _ _, fun j hj => ?_⟩
    · show f_X11_keep_B125 s (nI i) (nI o) (nI G) = _
      unfold f_X11_keep_B125 f_X11_keep_J156
      rw [fr_I g1 (by decide), h6, if_pos (Int32.le_refl _), bG_t (jin_nI hi (by omega)), bV_e, ix_nI (by omega), jw_e]
    · show gI (sI s 41 i 1) 40 _ = _
      rw [gI_ne (by decide)]; exact g2 g hg
    · show gI (sI s 41 i 1) 40 _ = _
      rw [gI_ne (by decide)]; exact g3 j hj
    · show gI (sI s 41 i 1) 41 _ = _
      rw [gI_nei hj, fr_I g1 (by decide)]
  · rintro g ⟨a, s⟩ hg ⟨rfl, g1, g2, g3⟩
    refine Or.inl ⟨(nI (g + 1), sI s 40 (o + 12 + g) (gI τ 6 g)), ?_, rfl, fr_trans g1 (fr_sI _ _ _ (by decide)), fun u hu => ?_, fun j hj => ?_⟩
    · show f_X11_keep_B125 s (nI i) (nI o) (nI g) = _
      unfold f_X11_keep_B125
      rw [fr_I g1 (by decide), h6, if_neg (nI_ge hg (by omega)), show (12 : Int32) = nI 12 from rfl, nI_add, nI_add, bG_t (jin_nI (by omega) (by omega)), bG_t (jin_nI (by omega) (by omega)), bV_e, bV_e, ix_nI (by omega), ix_nI (by omega), fr_I g1 (by decide), nI_1]
    · show gI (sI s 40 (o + 12 + g) _) 40 _ = _
      by_cases z : u = g
      · subst z; exact gI_sI _ _ _ _
      · rw [gI_nei (by omega)]; exact g2 u (by omega)
    · show gI (sI s 40 (o + 12 + g) _) 40 _ = _
      rw [gI_nei (by omega)]; exact g3 j (by omega)
theorem mk_1 {τ : jS} {i o G b : Nat} (hG : G ≤ 120) (ho : o ≤ 140) (hi : i < 2) (h6 : gI τ 1 6 = nI G) (hb : gI τ 1 14 = nI b) (hb1 : b ≤ 1) : ∃ τ', jloop jFuel (fun s => f_X11_keep_B22 s.2 (nI i) (nI o) s.1) (0, τ) = some (1, τ') ∧ fr [40, 41] τ τ' ∧ (∀ q, q < 4 → gI τ' 40 (o + q) = gI τ 9 q ∧ gI τ' 40 (o + 4 + q) = gI τ 10 q) ∧ (gI τ' 40 (o + 8) = gI τ 1 13 ∧ gI τ' 40 (o + 9) = nI b ∧ gI τ' 40 (o + 10) = gI τ 1 36 ∧ gI τ' 40 (o + 11) = nI G) ∧ (∀ g, g < G → gI τ' 40 (o + 12 + g) = gI τ 6 g) ∧ (∀ j, j < o ∨ o + 132 ≤ j → gI τ' 40 j = gI τ 40 j) ∧ gI τ' 41 i = 1 ∧ ∀ j, j ≠ i → gI τ' 41 j = gI τ 41 j := by
  have key := jloop_ex (S := Int32 × jS) (O := Int32 × jS) (f := fun s => f_X11_keep_B22 s.2 (nI i) (nI o) s.1) (fun g s => s.1 = nI g ∧ fr [40] τ s.2 ∧ (∀ u, u < g → gI s.2 40 (o + u) = gI τ 9 u ∧ gI s.2 40 (o + 4 + u) = gI τ 10 u) ∧ (∀ j, j < o ∨ o + 8 ≤ j → gI s.2 40 j = gI τ 40 j)) 4 (fun r => r.1 = 1 ∧ fr [40, 41] τ r.2 ∧ (∀ q, q < 4 → gI r.2 40 (o + q) = gI τ 9 q ∧ gI r.2 40 (o + 4 + q) = gI τ 10 q) ∧ (gI r.2 40 (o + 8) = gI τ 1 13 ∧ gI r.2 40 (o + 9) = nI b ∧ gI r.2 40 (o + 10) = gI τ 1 36 ∧ gI r.2 40 (o + 11) = nI G) ∧ (∀ g, g < G → gI r.2 40 (o + 12 + g) = gI τ 6 g) ∧ (∀ j, j < o ∨ o + 132 ≤ j → gI r.2 40 j = gI τ 40 j) ∧ gI r.2 41 i = 1 ∧ ∀ j, j ≠ i → gI r.2 41 j = gI τ 41 j) (s0 := (0, τ)) ⟨rfl, fr_rfl _ _, fun u hu => absurd hu (Nat.not_lt_zero u), fun _ _ => rfl⟩ (jfuel_big (by omega)) ?_ ?_
  · obtain ⟨⟨o1, o2⟩, e1, rfl, e3⟩ := key
    exact ⟨o2, e1, e3⟩
  · rintro ⟨a, s⟩ ⟨rfl, g1, g2, g3⟩
    generalize es : sI (sI (sI (sI s 40 (o + 8) (gI τ 1 13)) 40 (o + 9) (nI b)) 40 (o + 10) (gI τ 1 36)) 40 (o + 11) (nI G) = s4
    have f4 : fr [40] s s4 := by
      rw [← es]
      exact fr_trans (fr_trans (fr_trans (fr_sI _ _ _ (by decide)) (fr_sI _ _ _ (by decide))) (fr_sI _ _ _ (by decide))) (fr_sI _ _ _ (by decide))
    obtain ⟨τ', m1, m2, m3, m4, m5, m6⟩ := mk_2 (τ := s4) (i := i) (o := o) (G := G) hG ho hi (by rw [fr_I f4 (by decide), fr_I g1 (by decide)]; exact h6)
    have c : ∀ j, j ≠ o + 8 → j ≠ o + 9 → j ≠ o + 10 → j ≠ o + 11 → gI s4 40 j = gI s 40 j := fun j h1 h2 h3 h4 => by
      rw [← es, gI_nei h4, gI_nei h3, gI_nei h2, gI_nei h1]
    refine ⟨(1, τ'), ?_, rfl, fr_trans (fr_mono (fr_trans g1 f4) (by decide)) m2, fun q hq => ?_, ⟨?_, ?_, ?_, ?_⟩, fun g hg => ?_, fun j hj => ?_, m5, fun j hj => ?_⟩
    · have J96 : f_X11_keep_J96 (sI s 40 (o + 8) (gI τ 1 13)) (nI i) (nI o) (nI b) (nI o + 9) 40 = some (1, τ') := by
        unfold f_X11_keep_J96
        rw [show (9 : Int32) = nI 9 from rfl, show (10 : Int32) = nI 10 from rfl, show (11 : Int32) = nI 11 from rfl, nI_add, nI_add, nI_add, bG_t (show jrwM 0 40 = true from rfl), show (SHM 40).2 = 280 from rfl, bG_t (jin_nI (by omega) (by omega)), bV_e, bG_t (jin_nI (by omega) (by omega)), bV_e, bG_t (jin_nI (by omega) (by omega)), bV_e, ix_nI (by omega), ix_nI (by omega), ix_nI (by omega), gI_ne (show (1 : Nat) ≠ 40 by decide), gI_ne (show (1 : Nat) ≠ 40 by decide), fr_I g1 (by decide), gI_ne (show (1 : Nat) ≠ 40 by decide), gI_ne (show (1 : Nat) ≠ 40 by decide), gI_ne (show (1 : Nat) ≠ 40 by decide), fr_I g1 (by decide), h6, es]
        exact m1
      show f_X11_keep_B22 s (nI i) (nI o) (nI 4) = _
      unfold f_X11_keep_B22 f_X11_keep_J63
      rw [if_pos (show (4 : Int32) ≤ nI 4 from Int32.le_refl _), show (8 : Int32) = nI 8 from rfl, nI_add, bG_t (jin_nI (by omega) (by omega)), bV_e, ix_nI (by omega), fr_I g1 (by decide), gI_ne (show (1 : Nat) ≠ 40 by decide), fr_I g1 (by decide), hb]
      have : b = 0 ∨ b = 1 := by omega
      rcases this with rfl | rfl
      · rw [if_pos (show nI 0 = 0 from rfl), show f_X11_keep_J96 (sI s 40 (o + 8) (gI τ 1 13)) (nI i) (nI o) 0 (nI o + 9) 40 = some (1, τ') from J96, jw_e]
      · rw [if_neg (show ¬ nI 1 = 0 by decide), show f_X11_keep_J96 (sI s 40 (o + 8) (gI τ 1 13)) (nI i) (nI o) 1 (nI o + 9) 40 = some (1, τ') from J96, jw_e]
    · show gI τ' 40 _ = _ ∧ gI τ' 40 _ = _
      rw [m4 _ (by omega), m4 _ (by omega), c _ (by omega) (by omega) (by omega) (by omega), c _ (by omega) (by omega) (by omega) (by omega)]
      exact g2 q hq
    · show gI τ' 40 _ = _
      rw [m4 _ (by omega), ← es, gI_nei (by omega), gI_nei (by omega), gI_nei (by omega), gI_sI]
    · show gI τ' 40 _ = _
      rw [m4 _ (by omega), ← es, gI_nei (by omega), gI_nei (by omega), gI_sI]
    · show gI τ' 40 _ = _
      rw [m4 _ (by omega), ← es, gI_nei (by omega), gI_sI]
    · show gI τ' 40 _ = _
      rw [m4 _ (by omega), ← es, gI_sI]
    · show gI τ' 40 _ = _
      rw [m3 g hg, fr_I f4 (by decide), fr_I g1 (by decide)]
    · show gI τ' 40 _ = _
      rw [m4 _ (by omega), c _ (by omega) (by omega) (by omega) (by omega)]
      exact g3 j (by omega)
    · show gI τ' 41 _ = _
      rw [m6 j hj, fr_I f4 (by decide), fr_I g1 (by decide)]
  · rintro g ⟨a, s⟩ hg ⟨rfl, g1, g2, g3⟩
    refine Or.inl ⟨(nI (g + 1), sI (sI s 40 (o + g) (gI τ 9 g)) 40 (o + 4 + g) (gI τ 10 g)), ?_, rfl, fr_trans g1 (fr_trans (fr_sI _ _ _ (by decide)) (fr_sI _ _ _ (by decide))), fun u hu => ?_, fun j hj => ?_⟩
    · show f_X11_keep_B22 s (nI i) (nI o) (nI g) = _
      unfold f_X11_keep_B22
      have j4 : jin (nI g) 4 = true := jin_nI hg (by omega)
      rw [if_neg (show ¬ (4 : Int32) ≤ nI g from nI_ge (b := 4) hg (by decide)), bG_t j4, show nI o + 4 = nI (o + 4) from nI_add o 4, nI_add, nI_add, bG_t (jin_nI (by omega) (by omega)), bV_e, bG_t j4, bG_t (jin_nI (by omega) (by omega)), bV_e, bV_e, ix_nI (by omega), ix_nI (by omega), ix_nI (by omega), gI_ne (show (10 : Nat) ≠ 40 by decide), fr_I g1 (by decide), fr_I g1 (by decide), nI_1]
    · show gI (sI (sI s 40 (o + g) _) 40 (o + 4 + g) _) 40 _ = _ ∧ gI (sI (sI s 40 (o + g) _) 40 (o + 4 + g) _) 40 _ = _
      by_cases z : u = g
      · subst z
        rw [gI_sI, gI_nei (by omega), gI_sI]
        exact ⟨rfl, rfl⟩
      · rw [gI_nei (show o + u ≠ o + 4 + g by omega), gI_nei (show o + u ≠ o + g by omega), gI_nei (show o + 4 + u ≠ o + 4 + g by omega), gI_nei (show o + 4 + u ≠ o + g by omega)]
        exact g2 u (by omega)
    · show gI (sI (sI s 40 (o + g) _) 40 (o + 4 + g) _) 40 _ = _
      rw [gI_nei (by omega), gI_nei (by omega)]; exact g3 j (by omega)
