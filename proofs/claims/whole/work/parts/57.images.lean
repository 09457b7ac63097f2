/-! keep, goBack -/
theorem mS_fr {H : List Nat} {τ τ' : jS} (f : fr H τ τ') (d : [1, 2, 3, 4, 5, 6, 7, 8].all (fun a => !H.contains a) = true) : mS τ τ' := by
  have k : ∀ a, a ∈ [1, 2, 3, 4, 5, 6, 7, 8] → a ∉ H := fun a ha q => by
    have := List.all_eq_true.mp d a ha
    simp [q] at this
  refine ⟨fun a i h => fr_I f (k a ?_) i, fun i => fr_I f (k 5 (by decide)) i, fr_I f (k 1 (by decide)) _⟩
  unfold stat at h
  simp only [Bool.or_eq_true, Bool.and_eq_true, beq_iff_eq] at h
  simp; omega
theorem xS_fr {H : List Nat} {σ σ' : jS} (f : fr H σ σ') (d : [5, 6, 7, 8, 9, 10, 11, 29, 32, 33, 34, 35, 51, 52, 53, 54, 55, 56, 61, 62, 63, 64, 65, 66].all (fun a => !H.contains a) = true) : xS σ σ' := by
  have k : ∀ a, a ∈ [5, 6, 7, 8, 9, 10, 11, 29, 32, 33, 34, 35, 51, 52, 53, 54, 55, 56, 61, 62, 63, 64, 65, 66] → a ∉ H := fun a ha q => by
    have := List.all_eq_true.mp d a ha
    simp [q] at this
  refine ⟨f.1, fun a i h => fr_I f (k a ?_) i, fun a i h => fr_L f (k a (by simp; omega)) i⟩
  unfold xst at h
  simp only [Bool.or_eq_true, Bool.and_eq_true, beq_iff_eq, decide_eq_true_eq] at h
  simp; omega
theorem bears_cong {A B : Tb} (hG : tG B = tG A) (h6 : ∀ g, g < tG A → B 6 g = A 6 g) : bears B = bears A := by
  funext a b
  unfold bears
  rw [hG]
  exact bex_cong fun g hg => by unfold bearsAt; rw [h6 g hg]
theorem wGA_cong {A B : Tb} (hP : tP B = tP A) (hG : tG B = tG A) (h6 : ∀ g, g < tG A → B 6 g = A 6 g) (w : wGA A) : wGA B := by
  refine ⟨fun g hg => ?_, fun g h hg hh e => ?_⟩
  · rw [hG] at hg; rw [h6 g hg, hP]; exact w.1 g hg
  · rw [hG] at hg hh
    rw [h6 g hg] at e
    refine w.2 g h hg hh ?_
    unfold bearsAt at e ⊢
    rw [h6 h hh] at e; exact e
theorem xGr_cong {σ : jS} {h : Nat} {A B : Tb} (hG : tG B = tG A) (h6 : ∀ g, g < tG A → B 6 g = A 6 g) (x : xGr σ h A) : xGr σ h B := by
  obtain ⟨a, b, c⟩ := x
  refine ⟨by rw [hG]; exact a, fun g hg => ?_, fun p hp => by rw [bears_cong hG h6]; exact c p hp⟩
  rw [hG] at hg; rw [h6 g hg]; exact b g hg
theorem imA_is {A : Tb} {τ : jS} {o : Nat} : tE A (imA A τ o) ∧ tW (imA A τ o) = ix (gI τ 40 (o + 8)) ∧ tB (imA A τ o) = ix (gI τ 40 (o + 9)) ∧ tG (imA A τ o) = ix (gI τ 40 (o + 11)) ∧ ∀ g, g < 120 → imA A τ o 6 g = ix (gI τ 40 (o + 12 + g)) := by
  refine ⟨fun a i h1 h2 => ?_, rfl, rfl, rfl, fun g hg => ?_⟩
  · unfold imA
    rw [if_neg h1, if_neg (by omega), if_neg (by omega), if_neg (by omega)]
  · unfold imA
    rw [if_pos rfl, if_pos hg]
theorem imA_keep2 {A : Tb} {τ τ' : jS} {o : Nat} (hm : ∀ j, o ≤ j → j < o + 132 → gI τ' 40 j = gI τ 40 j) : imA A τ' o = imA A τ o := by
  funext a j
  unfold imA
  rw [hm (o + 11) (by omega) (by omega), hm (o + 8) (by omega) (by omega), hm (o + 9) (by omega) (by omega)]
  by_cases h : a = 6
  · rw [if_pos h, if_pos h]
    by_cases h2 : j < 120
    · rw [if_pos h2, if_pos h2, hm _ (by omega) (by omega)]
    · rw [if_neg h2, if_neg h2]
  · rw [if_neg h, if_neg h]
theorem rIm_keep2 {A : Tb} {σ τ σ' τ' : jS} {h o : Nat} (hq : tQ A ≤ 4) (k1 : kp [h, h + 1, h + 2, h + 3, h + 4, h + 5, h + 6] σ σ') (hm : ∀ j, o ≤ j → j < o + 132 → gI τ' 40 j = gI τ 40 j) (g : rIm A σ τ h o) : rIm A σ' τ' h o := by
  obtain ⟨⟨a1, a2, a3⟩, ⟨b1, b2, b3⟩, ⟨s, c1, c2, c3⟩, ⟨d1, d2⟩, e, f, g, i⟩ := g
  refine ⟨⟨by rw [hm _ (by omega) (by omega)]; exact a1, a2, by rw [k1 h (by simp)]; exact a3⟩, ⟨by rw [hm _ (by omega) (by omega)]; exact b1, b2, by rw [k1 h (by simp)]; exact b3⟩, ⟨s, c1, by rw [hm _ (by omega) (by omega)]; exact c2, by rw [k1 h (by simp)]; exact c3⟩, ⟨by rw [hm _ (by omega) (by omega)]; exact d1, d2⟩, fun u hu => by rw [hm _ (by omega) (by omega)]; exact e u hu, f, xGr_keep (fun a ha i => k1 a (by simp at ha ⊢; omega) i) g, fun q hq2 => ?_⟩
  rw [k1 (h + 1) (by simp), k1 (h + 1 + 1) (by simp), hm _ (by omega) (by omega), hm _ (by omega) (by omega)]
  exact i q hq2
theorem rI1_keep2 {A : Tb} {σ τ σ' τ' : jS} {i h : Nat} (hq : tQ A ≤ 4) (k1 : kp [h, h + 1, h + 2, h + 3, h + 4, h + 5, h + 6] σ σ') (hm : ∀ j, 140 * i ≤ j → j < 140 * i + 132 → gI τ' 40 j = gI τ 40 j) (h41 : gI τ' 41 i = gI τ 41 i) (r : rI1 A σ τ i h) : rI1 A σ' τ' i h := by
  obtain ⟨a1, a2, a3⟩ := r
  refine ⟨by rw [h41]; exact a1, by rw [h41, k1 h (by simp)]; exact a2, ?_⟩
  rw [h41, imA_keep2 hm]
  exact fun q => rIm_keep2 hq k1 hm (a3 q)
theorem r_keep (k : Nat) (σ τ : jS) (a : Int32) (_hk : k < 2048) (h : Rel k σ τ) : ∃ r σ2 τ2, f_X10_keep σ a = some (r, σ2) ∧ f_X11_keep τ a = some (r, τ2) ∧ Rel (k + 4) σ2 τ2 := by
  have h0 := h
  obtain ⟨⟨hM, hX, hH, hS, hTT, hTx, hFl, hLg, hSe, hI⟩, sx, sm⟩ := h
  unfold f_X10_keep f_X11_keep
  rcases x_imageAt σ a with ⟨i, i2, rfl, e1, e2⟩ | ⟨e1, e2⟩
  · have hd : stH (37 + 7 * i) := by
      have : i = 0 ∨ i = 1 := by omega
      rcases this with rfl | rfl
      · exact Or.inr (Or.inl rfl)
      · exact Or.inr (Or.inr rfl)
    have hq4 := hM.1.2.2.2.1.2
    obtain ⟨σ1, t1, t2, t3, t4, t5⟩ := x_take (σ := σ) hd (Or.inl rfl : stH 29) (by omega) (n := tG (mn τ)) hX.2.1.1 hM.1.2.2.1.2
    obtain ⟨τ2, m1, m2, m3, m4, m5, m6, m7, m8⟩ := mk_1 (τ := τ) (i := i) (o := 140 * i) (G := tG (mn τ)) (b := tB (mn τ)) hM.1.2.2.1.2 (by omega) i2 hM.1.2.2.1.1 hM.1.2.2.2.2.2.1 hM.1.2.2.2.2.2.2
    rw [e1, e2, bC_e, bC_e, if_neg (by omega), if_neg (show ¬ (1 : Int32) = 0 by decide), bH_t (stH_in hd).1, t1, bD_e, bV_e, bV_e, show (140 : Int32) * nI i = nI (140 * i) from nI_mul 140 i, m1]
    have f2 : fr [37 + 7 * i, 37 + 7 * i + 1, 37 + 7 * i + 2, 37 + 7 * i + 3, 37 + 7 * i + 4, 37 + 7 * i + 5, 37 + 7 * i + 6] σ (sI σ1 (37 + 7 * i) 6 1) := fr_trans t2 (fr_sI _ _ _ (by simp))
    have f3 : fr [37, 38, 39, 40, 41, 42, 43, 44, 45, 46, 47, 48, 49, 50] σ (sI σ1 (37 + 7 * i) 6 1) := fr_mono f2 (by intro x hx; simp at hx ⊢; omega)
    obtain ⟨w1, w2⟩ := mS_W (mS_fr m2 rfl) hM
    have news : rI1 (mn τ) (sI σ1 (37 + 7 * i) 6 1) τ2 i (37 + 7 * i) := by
      refine ⟨Or.inr m7, by rw [gI_sI, m7], fun _ => ?_⟩
      obtain ⟨u1, u2, u3, u4, u5⟩ := imA_is (A := mn τ) (τ := τ2) (o := 140 * i)
      obtain ⟨⟨_, _⟩, _, ⟨n3, n3'⟩, _, ⟨n5, n5'⟩, ⟨n6, n6'⟩⟩ := hM.1
      have eW : tW (imA (mn τ) τ2 (140 * i)) = tW (mn τ) := by rw [u2, m4.1, n5, ix_nI (by omega)]
      have eB : tB (imA (mn τ) τ2 (140 * i)) = tB (mn τ) := by rw [u3, m4.2.1, ix_nI (by omega)]
      have eG : tG (imA (mn τ) τ2 (140 * i)) = tG (mn τ) := by rw [u4, m4.2.2.2, ix_nI (by omega)]
      have e6 : ∀ g, g < tG (mn τ) → imA (mn τ) τ2 (140 * i) 6 g = mn τ 6 g := fun g hg => by
        have := hM.2.2.2.2.1.1 g hg
        have := hM.1.1.2
        rw [u5 g (by omega), m5 g hg, (hM.2.2.2.2.1.1 g hg).1, ix_nI (by omega)]
      have eP := tE_P u1
      obtain ⟨s, s1, s2, s3⟩ := hS
      refine ⟨⟨by rw [eW, m4.1]; exact n5, by omega, ?_⟩, ⟨by rw [eB, m4.2.1], by omega, ?_⟩, ⟨s, s1, by rw [m4.2.2.1]; exact s3, ?_⟩, ⟨by rw [eG, m4.2.2.2], by omega⟩, fun g hg => ?_, wGA_cong eP.1 eG e6 (wGA_of hM.2.2.2.2.1), ?_, fun q hq => ?_⟩
      · rw [gI_nei (by decide), t4.1, eW]; exact hX.2.2.1.1
      · rw [gI_nei (by decide), t4.2.1, eB]; exact hX.2.2.1.2
      · rw [gI_nei (by decide), t4.2.2.1]; exact s2
      · rw [eG] at hg
        rw [m5 g hg, e6 g hg]; exact (hM.2.2.2.2.1.1 g hg).1
      · refine xGr_keep (fun a ha j => gI_ne (by simp at ha; omega)) (t5 _ ?_ eG)
        exact xGr_cong eG e6 hX.2.1
      · rw [eP.2.2] at hq
        obtain ⟨x, x1, x2, x3, x4⟩ := hH q hq
        obtain ⟨o1, o2⟩ := okx_tE u1 (fun z => eB.trans z) x2
        refine ⟨x, ?_, o1, ?_, ?_⟩
        · rw [gI_ne (by omega), (t3 q (by omega)).1]; exact x1
        · rw [o2, (m3 q (by omega)).1]; exact x3
        · rw [(m3 q (by omega)).2, gI_ne (by omega)]
          exact ((t3 q (by omega)).2).trans x4
    refine ⟨_, _, _, rfl, rfl, r_mono k _ _ ⟨⟨w1, ?_, ?_, ?_, ?_, ?_, ?_, ?_, ?_, ?_⟩, ?_, ?_⟩⟩
    · rw [w2]; exact xS_W (xS_fr f3 rfl) hX
    · exact xH_keep w2 (kp_fr f3 rfl) (kp_fr m2 rfl) hH
    · exact rS_keep (σ := σ) (τ := τ) (fr_I f3 (by decide) _) (fr_I m2 (by decide) _) hS
    · exact rTT_keep f3.1 hTT
    · exact rTx_keep (σ := σ) (τ := τ) (fr_I f3 (by decide) _) (fr_I m2 (by decide) _) (kp_fr f3 rfl) (kp_fr m2 rfl) hTx
    · exact rFl_keep (σ := σ) (τ := τ) (fr_I f3 (by decide) _) (fr_I m2 (by decide) _) hFl
    · rw [w2]; exact rLg_keep (σ := σ) (τ := τ) (fr_I f3 (by decide) _) (fr_I m2 (by decide) _) (kp_fr f3 rfl) (kp_fr m2 rfl) hLg
    · rw [w2]; exact rSe_keep (σ := σ) (τ := τ) (fr_I f3 (by decide) _) (fr_I m2 (by decide) _) (kp_fr f3 rfl) (kp_fr m2 rfl) hSe
    · rw [w2]
      have : i = 0 ∨ i = 1 := by omega
      rcases this with rfl | rfl
      · exact ⟨news, rI1_keep2 hq4 (kp_fr f2 rfl) (fun j h1 h2 => m6 j (by omega)) (m8 1 (by decide)) hI.2⟩
      · exact ⟨rI1_keep2 hq4 (kp_fr f2 rfl) (fun j h1 h2 => m6 j (by omega)) (m8 0 (by decide)) hI.1, news⟩
    · exact sX_keep (kp_fr f3 rfl) (fr_I f3 (by decide) _) (fr_I f3 (by decide) _) sx
    · exact sM_keep (kp_fr m2 rfl) (fr_I m2 (by decide) _) (fr_I m2 (by decide) _) sm
  · rw [e1, e2]
    exact ⟨_, _, _, rfl, rfl, r_mono k _ _ h0⟩
/-! the reference goes back -/
theorem mg_2 {τ : jS} {o G : Nat} (hG : G ≤ 120) (ho : o ≤ 140) (h6 : gI τ 1 6 = nI G) : ∃ τ', jloop jFuel (fun s => f_X11_goBack_B139 s.2 (nI o) s.1) (0, τ) = some (1, τ') ∧ fr [6] τ τ' ∧ (∀ g, g < G → gI τ' 6 g = gI τ 40 (o + 12 + g)) := by
  have key := jloop_ex (S := Int32 × jS) (O := Int32 × jS) (f := fun s => f_X11_goBack_B139 s.2 (nI o) s.1) (fun g s => s.1 = nI g ∧ fr [6] τ s.2 ∧ (∀ u, u < g → gI s.2 6 u = gI τ 40 (o + 12 + u))) G (fun r => r.1 = 1 ∧ fr [6] τ r.2 ∧ (∀ g, g < G → gI r.2 6 g = gI τ 40 (o + 12 + g))) (s0 := (0, τ)) ⟨rfl, fr_rfl _ _, fun u hu => absurd hu (Nat.not_lt_zero u)⟩ (jfuel_big (by omega)) ?_ ?_
  · obtain ⟨⟨o1, o2⟩, e1, rfl, e3⟩ := key
    exact ⟨o2, e1, e3⟩
  · rintro ⟨a, s⟩ ⟨rfl, g1, g2⟩
    refine ⟨(1, s), ?_, rfl, g1, g2⟩
    show f_X11_goBack_B139 s (nI o) (nI G) = _
    unfold f_X11_goBack_B139 f_X11_goBack_J170
    rw [fr_I g1 (by decide), h6, if_pos (Int32.le_refl _), jw_e]
  · rintro g ⟨a, s⟩ hg ⟨rfl, g1, g2⟩
    refine Or.inl ⟨(nI (g + 1), sI s 6 g (gI τ 40 (o + 12 + g))), ?_, rfl, fr_trans g1 (fr_sI _ _ _ (by decide)), fun u hu => ?_⟩
    · show f_X11_goBack_B139 s (nI o) (nI g) = _
      unfold f_X11_goBack_B139
      rw [fr_I g1 (by decide), h6, if_neg (nI_ge hg (by omega)), show (12 : Int32) = nI 12 from rfl, nI_add, nI_add, bG_t (jin_nI (by omega) (by omega)), bG_t (jin_nI (by omega) (by omega)), bV_e, bV_e, ix_nI (by omega), ix_nI (by omega), fr_I g1 (by decide), nI_1]
    · show gI (sI s 6 g _) 6 _ = _
      by_cases z : u = g
      · subst z; exact gI_sI _ _ _ _
      · rw [gI_nei z]; exact g2 u (by omega)
theorem mg_1 {τ : jS} {o G b : Nat} (hG : G ≤ 120) (ho : o ≤ 140) (h11 : gI τ 40 (o + 11) = nI G) (hb : gI τ 40 (o + 9) = nI b) (hb1 : b ≤ 1) : ∃ τ', jloop jFuel (fun s => f_X11_goBack_B35 s.2 (nI o) s.1) (0, τ) = some (1, τ') ∧ fr [1, 6, 9, 10] τ τ' ∧ (∀ q, q < 4 → gI τ' 9 q = gI τ 40 (o + q) ∧ gI τ' 10 q = gI τ 40 (o + 4 + q)) ∧ (gI τ' 1 13 = gI τ 40 (o + 8) ∧ gI τ' 1 14 = nI b ∧ gI τ' 1 36 = gI τ 40 (o + 10) ∧ gI τ' 1 6 = nI G) ∧ (∀ g, g < G → gI τ' 6 g = gI τ 40 (o + 12 + g)) ∧ ∀ i, i ≠ 13 → i ≠ 14 → i ≠ 36 → i ≠ 6 → gI τ' 1 i = gI τ 1 i := by
  have key := jloop_ex (S := Int32 × jS) (O := Int32 × jS) (f := fun s => f_X11_goBack_B35 s.2 (nI o) s.1) (fun g s => s.1 = nI g ∧ fr [9, 10] τ s.2 ∧ (∀ u, u < g → gI s.2 9 u = gI τ 40 (o + u) ∧ gI s.2 10 u = gI τ 40 (o + 4 + u))) 4 (fun r => r.1 = 1 ∧ fr [1, 6, 9, 10] τ r.2 ∧ (∀ q, q < 4 → gI r.2 9 q = gI τ 40 (o + q) ∧ gI r.2 10 q = gI τ 40 (o + 4 + q)) ∧ (gI r.2 1 13 = gI τ 40 (o + 8) ∧ gI r.2 1 14 = nI b ∧ gI r.2 1 36 = gI τ 40 (o + 10) ∧ gI r.2 1 6 = nI G) ∧ (∀ g, g < G → gI r.2 6 g = gI τ 40 (o + 12 + g)) ∧ ∀ i, i ≠ 13 → i ≠ 14 → i ≠ 36 → i ≠ 6 → gI r.2 1 i = gI τ 1 i) (s0 := (0, τ)) ⟨rfl, fr_rfl _ _, fun u hu => absurd hu (Nat.not_lt_zero u)⟩ (jfuel_big (by omega)) ?_ ?_
  · obtain ⟨⟨o1, o2⟩, e1, rfl, e3⟩ := key
    exact ⟨o2, e1, e3⟩
  · rintro ⟨a, s⟩ ⟨rfl, g1, g2⟩
    generalize es : sI (sI (sI (sI s 1 13 (gI τ 40 (o + 8))) 1 14 (nI b)) 1 36 (gI τ 40 (o + 10))) 1 6 (nI G) = s4
    have f4 : fr [1] s s4 := by
      rw [← es]
      exact fr_trans (fr_trans (fr_trans (fr_sI _ _ _ (by decide)) (fr_sI _ _ _ (by decide))) (fr_sI _ _ _ (by decide))) (fr_sI _ _ _ (by decide))
    obtain ⟨τ', m1, m2, m3⟩ := mg_2 (τ := s4) (o := o) (G := G) hG ho (by rw [← es, gI_sI])
    refine ⟨(1, τ'), ?_, rfl, fr_trans (fr_trans (fr_mono g1 (by decide)) (fr_mono f4 (by decide))) (fr_mono m2 (by decide)), fun q hq => ?_, ⟨?_, ?_, ?_, ?_⟩, fun g hg => ?_, fun j h1 h2 h3 h4 => ?_⟩
    · have J108 : f_X11_goBack_J108 (sI s 1 13 (gI τ 40 (o + 8))) (nI o) (nI b) = some (1, τ') := by
        unfold f_X11_goBack_J108
        have jb1 : jb (nI b) = true := by
          have : b = 0 ∨ b = 1 := by omega
          rcases this with e | e <;> rw [e] <;> rfl
        rw [bG_t jb1, bV_e, show (10 : Int32) = nI 10 from rfl, show (11 : Int32) = nI 11 from rfl, nI_add, nI_add, bG_t (jin_nI (by omega) (by omega)), bV_e, bG_t (jin_nI (by omega) (by omega)), bV_e, ix_nI (by omega), ix_nI (by omega), gI_ne (show (40 : Nat) ≠ 1 by decide), gI_ne (show (40 : Nat) ≠ 1 by decide), fr_I g1 (by decide), gI_ne (show (40 : Nat) ≠ 1 by decide), gI_ne (show (40 : Nat) ≠ 1 by decide), gI_ne (show (40 : Nat) ≠ 1 by decide), fr_I g1 (by decide), h11, es]
        exact m1
      show f_X11_goBack_B35 s (nI o) (nI 4) = _
      unfold f_X11_goBack_B35 f_X11_goBack_J76
      rw [if_pos (show (4 : Int32) ≤ nI 4 from Int32.le_refl _), show (8 : Int32) = nI 8 from rfl, show (9 : Int32) = nI 9 from rfl, nI_add, nI_add, bG_t (jin_nI (by omega) (by omega)), bV_e, ix_nI (by omega), ix_nI (by omega), fr_I g1 (by decide), bG_t (jin_nI (by omega) (by omega)), gI_ne (show (40 : Nat) ≠ 1 by decide), fr_I g1 (by decide), hb]
      have : b = 0 ∨ b = 1 := by omega
      rcases this with rfl | rfl
      · rw [if_neg (show ¬ nI 0 = 1 by decide), show f_X11_goBack_J108 (sI s 1 13 (gI τ 40 (o + 8))) (nI o) 0 = some (1, τ') from J108, jw_e]
      · rw [if_pos (show nI 1 = 1 from rfl), show f_X11_goBack_J108 (sI s 1 13 (gI τ 40 (o + 8))) (nI o) 1 = some (1, τ') from J108, jw_e]
    · show gI τ' 9 _ = _ ∧ gI τ' 10 _ = _
      rw [fr_I m2 (by decide), fr_I f4 (by decide), fr_I m2 (by decide), fr_I f4 (by decide)]
      exact g2 q hq
    · show gI τ' 1 _ = _
      rw [fr_I m2 (by decide), ← es, gI_nei (by decide), gI_nei (by decide), gI_nei (by decide), gI_sI]
    · show gI τ' 1 _ = _
      rw [fr_I m2 (by decide), ← es, gI_nei (by decide), gI_nei (by decide), gI_sI]
    · show gI τ' 1 _ = _
      rw [fr_I m2 (by decide), ← es, gI_nei (by decide), gI_sI]
    · show gI τ' 1 _ = _
      rw [fr_I m2 (by decide), ← es, gI_sI]
    · show gI τ' 6 _ = _
      rw [m3 g hg, fr_I f4 (by decide), fr_I g1 (by decide)]
    · show gI τ' 1 _ = _
      rw [fr_I m2 (by decide), ← es, gI_nei h4, gI_nei h3, gI_nei h2, gI_nei h1, fr_I g1 (by decide)]
  · rintro g ⟨a, s⟩ hg ⟨rfl, g1, g2⟩
    refine Or.inl ⟨(nI (g + 1), sI (sI s 9 g (gI τ 40 (o + g))) 10 g (gI τ 40 (o + 4 + g))), ?_, rfl, fr_trans g1 (fr_trans (fr_sI _ _ _ (by decide)) (fr_sI _ _ _ (by decide))), fun u hu => ?_⟩
    · show f_X11_goBack_B35 s (nI o) (nI g) = _
      unfold f_X11_goBack_B35
      have j4 : jin (nI g) 4 = true := jin_nI hg (by omega)
      rw [if_neg (show ¬ (4 : Int32) ≤ nI g from nI_ge (b := 4) hg (by decide)), bG_t (by rw [nI_add]; exact jin_nI (by omega) (by omega)), bG_t j4, bV_e, show nI o + 4 = nI (o + 4) from nI_add o 4, nI_add, nI_add, bG_t (jin_nI (by omega) (by omega)), bG_t j4, bV_e, bV_e, ix_nI (by omega), ix_nI (by omega), ix_nI (by omega), gI_ne (show (40 : Nat) ≠ 9 by decide), fr_I g1 (by decide), fr_I g1 (by decide), nI_1]
    · show gI (sI (sI s 9 g _) 10 g _) 9 _ = _ ∧ gI (sI (sI s 9 g _) 10 g _) 10 _ = _
      rw [gI_ne (show (9 : Nat) ≠ 10 by decide)]
      by_cases z : u = g
      · subst z
        rw [gI_sI, gI_sI]
        exact ⟨rfl, rfl⟩
      · rw [gI_nei z, gI_nei z, gI_ne (show (10 : Nat) ≠ 9 by decide)]
        exact g2 u (by omega)
theorem r_goBack (k : Nat) (σ τ : jS) (a : Int32) (_hk : k < 2048) (h : Rel k σ τ) : ∃ r σ2 τ2, f_X10_goBack σ a = some (r, σ2) ∧ f_X11_goBack τ a = some (r, τ2) ∧ Rel (k + 4) σ2 τ2 := by
  have h0 := h
  obtain ⟨⟨hM, hX, hH, hS, hTT, hTx, hFl, hLg, hSe, hI⟩, sx, sm⟩ := h
  unfold f_X10_goBack f_X11_goBack
  rcases x_imageAt σ a with ⟨i, i2, rfl, e1, e2⟩ | ⟨e1, e2⟩
  · have hd : stH (37 + 7 * i) := by
      have : i = 0 ∨ i = 1 := by omega
      rcases this with rfl | rfl
      · exact Or.inr (Or.inl rfl)
      · exact Or.inr (Or.inr rfl)
    have hq4 := hM.1.2.2.2.1.2
    have rI' : rI1 (mn τ) σ τ i (37 + 7 * i) := by
      have : i = 0 ∨ i = 1 := by omega
      rcases this with rfl | rfl
      · exact hI.1
      · exact hI.2
    obtain ⟨r1, r2, r3⟩ := rI'
    rw [e1, e2, bC_e, bC_e, if_neg (by omega), if_neg (show ¬ (1 : Int32) = 0 by decide), bH_t (stH_in hd).1, r2, bG_t (jin_nI i2 (by omega)), ix_nI (by omega)]
    rcases r1 with r1 | r1
    · rw [if_pos r1, if_pos r1]
      exact ⟨_, _, _, rfl, rfl, r_mono k _ _ h0⟩
    · obtain ⟨⟨a1, a2, a3⟩, ⟨b1, b2, b3⟩, ⟨s, c1, c2, c3⟩, ⟨d1, d2⟩, g6, gw, gx, gh⟩ := r3 r1
      generalize hB : imA (mn τ) τ (140 * i) = B at *
      have tEB : tE (mn τ) B := by rw [← hB]; exact imA_is.1
      obtain ⟨σ1, t1, t2, t3, t4, t5⟩ := x_take (σ := σ) (Or.inl rfl : stH 29) hd (by omega) (n := tG B) gx.1 d2
      obtain ⟨τ2, m1, m2, m3, m4, m5, m6⟩ := mg_1 (τ := τ) (o := 140 * i) (G := tG B) (b := tB B) d2 (by omega) d1 b1 b2
      have ne0 : ¬ gI τ 41 i = 0 := by rw [r1]; decide
      rw [if_neg ne0, if_neg ne0, t1, bD_e, bV_e, show (140 : Int32) * nI i = nI (140 * i) from nI_mul 140 i, m1]
      have mc : mC τ τ2 := ⟨kp_fr m2 rfl, m6 _ (by decide) (by decide) (by decide) (by decide), m6 _ (by decide) (by decide) (by decide) (by decide), m6 _ (by decide) (by decide) (by decide) (by decide), m6 _ (by decide) (by decide) (by decide) (by decide)⟩
      have e := mC_tE mc
      have eB2 : tE B (mn τ2) := fun x j h1 h2 => (e x j h1 h2).trans (tEB x j h1 h2).symm
      have eW : tW (mn τ2) = tW B := by
        show mn τ2 1 13 = _
        rw [mn_at rfl, m4.1, a1, ix_nI (by omega)]
      have eB : tB (mn τ2) = tB B := by
        show mn τ2 1 14 = _
        rw [mn_at rfl, m4.2.1, ix_nI (by omega)]
      have eG : tG (mn τ2) = tG B := by
        show mn τ2 1 6 = _
        rw [mn_at rfl, m4.2.2.2, ix_nI (by omega)]
      have hP16 := hM.1.1.2
      have ePB := tE_P tEB
      have e6 : ∀ g, g < tG B → mn τ2 6 g = B 6 g := fun g hg => by
        have := gw.1 g hg
        rw [mn_at rfl, m5 g hg, g6 g hg, ix_nI (by omega)]
      have wg := wGA_cong (tE_P eB2).1 eG e6 gw
      have wm : WM τ2 := WM_mC mc hM ⟨by rw [eW, m4.1]; exact a1, by omega⟩ ⟨by rw [eB]; exact m4.2.1, by omega⟩ ⟨by rw [eG]; exact m4.2.2.2, by omega⟩ ⟨fun g hg => ⟨by rw [eG] at hg; rw [m5 g hg, e6 g hg]; exact g6 g hg, wg.1 g hg⟩, wg.2⟩
      have xh : xH σ1 τ2 := by
        intro q hq
        rw [(tE_P eB2).2.2] at hq
        have hq' : q < 4 := by have := ePB.2.2; omega
        obtain ⟨x, x1, x2, x3, x4⟩ := gh q hq
        obtain ⟨o1, o2⟩ := okx_tE eB2 (fun z => eB.trans z) x2
        refine ⟨x, ?_, o1, ?_, ?_⟩
        · exact ((t3 q hq').1).trans x1
        · rw [(m3 q hq').1, o2]; exact x3
        · rw [(m3 q hq').2]
          exact ((t3 q hq').2).trans x4
      have xt : xT σ1 (mn τ2) := by
        have := xTb_kp (σ := σ) (σ' := σ1) (T := σ.2.2.1) (kp_fr t2 rfl) hX.1
        rw [← fr_T t2] at this
        exact xT_tE e this
      obtain ⟨σ', s1, s2, s3⟩ := settle_fin (σ1 := σ1) (τ2 := τ2) h0 e wm xt (xGr_cong eG e6 (t5 B gx rfl)) ⟨by rw [t4.1, eW]; exact a3, by rw [t4.2.1, eB]; exact b3⟩ xh ⟨s, c1, by rw [t4.2.2.1]; exact c3, by rw [m4.2.2.1]; exact c2⟩ t2.1 ⟨fr_I t2 (by decide) _, fr_I t2 (by decide) _, fr_I t2 (by decide) _, fr_I t2 (by decide) _, fr_I t2 (by decide) _, fr_I t2 (by decide) _⟩ (kp_fr t2 rfl) ⟨m6 _ (by decide) (by decide) (by decide) (by decide), m6 _ (by decide) (by decide) (by decide) (by decide), m6 _ (by decide) (by decide) (by decide) (by decide), m6 _ (by decide) (by decide) (by decide) (by decide), m6 _ (by decide) (by decide) (by decide) (by decide), m6 _ (by decide) (by decide) (by decide) (by decide)⟩ (kp_fr m2 rfl)
      refine ⟨1, σ', τ2, ?_, rfl, r_mono k _ _ s3⟩
      rw [s1, bD_e]
  · rw [e1, e2]
    exact ⟨_, _, _, rfl, rfl, r_mono k _ _ h0⟩
