/-! a town's table, its law and grudges changed -/
def tE (A B : Tb) : Prop := ∀ a i, a ≠ 6 → ¬ (a = 1 ∧ (i = 6 ∨ i = 13 ∨ i = 14)) → B a i = A a i
theorem tE_sym {A B : Tb} (h : tE A B) : tE B A := fun a i h1 h2 => (h a i h1 h2).symm
theorem tE_P {A B : Tb} (h : tE A B) : tP B = tP A ∧ tT B = tT A ∧ tQ B = tQ A := ⟨h 1 0 (by decide) (by omega), h 1 2 (by decide) (by omega), h 1 8 (by decide) (by omega)⟩
theorem tE_r {A B : Tb} (h : tE A B) {a : Nat} (h1 : a ≠ 1) (h6 : a ≠ 6) : B a = A a := funext fun i => h a i h6 (fun q => h1 q.1)
def mC (τ τ' : jS) : Prop := kp [2, 3, 4, 5, 7, 8] τ τ' ∧ gI τ' 1 0 = gI τ 1 0 ∧ gI τ' 1 2 = gI τ 1 2 ∧ gI τ' 1 8 = gI τ 1 8 ∧ gI τ' 1 35 = gI τ 1 35
theorem mC_tE {τ τ' : jS} (h : mC τ τ') : tE (mn τ) (mn τ') := by
  intro a i h6 h1
  unfold mn
  by_cases q : stat a i = true
  · rw [if_pos q, if_pos q]
    congr 1
    unfold stat at q
    simp only [Bool.or_eq_true, Bool.and_eq_true, beq_iff_eq] at q
    by_cases z : a = 1
    · subst z
      have : i = 0 ∨ i = 2 ∨ i = 8 := by omega
      rcases this with rfl | rfl | rfl
      · exact h.2.1
      · exact h.2.2.1
      · exact h.2.2.2.1
    · exact h.1 a (by simp; omega) i
  · rw [if_neg q, if_neg q]
theorem owes_tE {A B : Tb} (h : tE A B) (p q : Nat) : owes B p q = owes A p q := by
  unfold owes
  rw [(tE_P h).2.1, tE_r h (by decide : (3 : Nat) ≠ 1) (by decide), tE_r h (by decide : (4 : Nat) ≠ 1) (by decide)]
theorem WM_mC {τ τ' : jS} (h : mC τ τ') (w : WM τ) (hW : gI τ' 1 13 = nI (tW (mn τ')) ∧ tW (mn τ') ≤ 3) (hB : gI τ' 1 14 = nI (tB (mn τ')) ∧ tB (mn τ') ≤ 1) (hG : gI τ' 1 6 = nI (tG (mn τ')) ∧ tG (mn τ') ≤ 120) (hg : wG τ') : WM τ' := by
  obtain ⟨⟨n1, n2, n3, n4, n5, n6⟩, hS, hT, hO, _, hQ, u⟩ := w
  have e := mC_tE h
  obtain ⟨eP, eT, eQ⟩ := tE_P e
  have r2 := tE_r e (by decide : (2 : Nat) ≠ 1) (by decide)
  have r3 := tE_r e (by decide : (3 : Nat) ≠ 1) (by decide)
  have r4 := tE_r e (by decide : (4 : Nat) ≠ 1) (by decide)
  have r7 := tE_r e (by decide : (7 : Nat) ≠ 1) (by decide)
  have r8 := tE_r e (by decide : (8 : Nat) ≠ 1) (by decide)
  refine ⟨⟨?_, ?_, hG, ?_, hW, hB⟩, ?_, ?_, ?_, hg, ?_, h.2.2.2.2.trans u⟩
  · rw [eP, h.2.1]; exact n1
  · rw [eT, h.2.2.1]; exact n2
  · rw [eQ, h.2.2.2.1]; exact n4
  · intro p hp
    rw [r2, h.1 2 (by decide)]; exact hS p hp
  · unfold wT
    rw [eT, eP, r3, r4]
    refine ⟨fun t ht => ?_, hT.2⟩
    rw [h.1 3 (by decide), h.1 4 (by decide)]; exact hT.1 t ht
  · intro p hp
    rw [h.1 5 (by decide), hO p hp]
    exact congrArg nI (bm_cong fun q _ => (owes_tE e p q).symm)
  · intro q hq
    rw [eQ] at hq
    rw [eP, r7, r8, h.1 7 (by decide), h.1 8 (by decide)]; exact hQ q hq
theorem xT_tE {σ : jS} {A B : Tb} (h : tE A B) (x : xT σ A) : xT σ B := by
  obtain ⟨eP, eT, eQ⟩ := tE_P h
  unfold xT xTo
  rw [eP, eT, eQ, tE_r h (by decide : (2 : Nat) ≠ 1) (by decide), tE_r h (by decide : (3 : Nat) ≠ 1) (by decide), tE_r h (by decide : (4 : Nat) ≠ 1) (by decide), tE_r h (by decide : (7 : Nat) ≠ 1) (by decide), tE_r h (by decide : (8 : Nat) ≠ 1) (by decide)]
  exact x
theorem imA_tE {A B : Tb} (h : tE A B) (τ : jS) (o : Nat) : imA B τ o = imA A τ o := by
  funext a i
  unfold imA
  by_cases h6 : a = 6
  · rw [if_pos h6, if_pos h6]
  · rw [if_neg h6, if_neg h6]
    by_cases z1 : a = 1 ∧ i = 6
    · rw [if_pos z1, if_pos z1]
    · rw [if_neg z1, if_neg z1]
      by_cases z2 : a = 1 ∧ i = 13
      · rw [if_pos z2, if_pos z2]
      · rw [if_neg z2, if_neg z2]
        by_cases z3 : a = 1 ∧ i = 14
        · rw [if_pos z3, if_pos z3]
        · rw [if_neg z3, if_neg z3]
          exact h a i h6 (by omega)
theorem rI_tE {A B : Tb} (h : tE A B) {σ τ : jS} (r : rI A σ τ) : rI B σ τ := by
  unfold rI rI1
  rw [imA_tE h, imA_tE h]
  exact r
theorem okx_tE {A B : Tb} (h : tE A B) (hb : tB A = 1 → tB B = 1) {x : Nat} (ok : okx A x) : okx B x ∧ cv B x = cv A x := by
  obtain ⟨eP, eT, eQ⟩ := tE_P h
  have e3 := tE_r h (by decide : (3 : Nat) ≠ 1) (by decide)
  have e4 := tE_r h (by decide : (4 : Nat) ≠ 1) (by decide)
  have eh : hs B = hs A := by funext s; unfold hs; rw [e3]
  have ef : fs B = fs A := by funext s; unfold fs; rw [e4]
  have ev : ∀ s, vs A s → vs B s := by
    intro s ⟨a, b, c⟩
    refine ⟨a, by rw [eh, eP]; exact b, ?_⟩
    rcases c with c | ⟨c, d⟩
    · exact Or.inl c
    · exact Or.inr ⟨hb c, by rw [eT]; exact d⟩
  refine ⟨⟨ok.1, ev _ ok.2.1, ev _ ok.2.2.1, by rw [eh]; exact ok.2.2.2⟩, ?_⟩
  unfold cv; rw [eh, ef]
theorem wA_tE {A B : Tb} (h : tE A B) (hb : tB B ≤ 1) (w : wA A) : wA B := by
  obtain ⟨eP, eT, eQ⟩ := tE_P h
  unfold wA
  rw [eP, eT, tE_r h (by decide : (3 : Nat) ≠ 1) (by decide), tE_r h (by decide : (4 : Nat) ≠ 1) (by decide)]
  exact ⟨w.1, w.2.1, hb, w.2.2.2.1, w.2.2.2.2⟩
/-- the relation after a change of the law or of the grudges -/
theorem RS_tE {σ τ σ' τ' : jS} (h : RS σ τ) (e : tE (mn τ) (mn τ')) (wm : WM τ') (wx : WX σ' (mn τ')) (xh : xH σ' τ') (rs : rS σ' τ') (told : σ'.2.2 = σ.2.2) (f1 : gI σ' 2 1 = gI σ 2 1) (f2 : gI σ' 1 9 = gI σ 1 9) (f3 : gI σ' 23 2 = gI σ 23 2) (f4 : gI σ' 23 3 = gI σ 23 3) (k1 : kp [3, 24, 25, 26, 27, 28, 37, 38, 39, 40, 41, 42, 43, 44, 45, 46, 47, 48, 49, 50] σ σ') (g1 : gI τ' 1 16 = gI τ 1 16) (g2 : gI τ' 1 17 = gI τ 1 17) (g3 : gI τ' 1 56 = gI τ 1 56) (g4 : gI τ' 1 59 = gI τ 1 59) (k2 : kp [11, 32, 33, 34, 35, 36, 40, 41] τ τ') : RS σ' τ' := by
  obtain ⟨hM, hX, hH, hS, hTT, hTx, hFl, hLg, hSe, hI⟩ := h
  have k1' : ∀ l : List Nat, l.all (fun a => [3, 24, 25, 26, 27, 28, 37, 38, 39, 40, 41, 42, 43, 44, 45, 46, 47, 48, 49, 50].contains a) = true → kp l σ σ' := fun l hl a ha i => k1 a (by have := List.all_eq_true.mp hl a ha; simpa using this) i
  have k2' : ∀ l : List Nat, l.all (fun a => [11, 32, 33, 34, 35, 36, 40, 41].contains a) = true → kp l τ τ' := fun l hl a ha i => k2 a (by have := List.all_eq_true.mp hl a ha; simpa using this) i
  refine ⟨wm, wx, xh, rs, rTT_keep told hTT, rTx_keep f1 g1 (k1' _ rfl) (k2' _ rfl) hTx, rFl_keep f2 g2 hFl, ?_, ?_, ?_⟩
  · rw [(tE_P e).1]; exact rLg_keep f3 g3 (k1' _ rfl) (k2' _ rfl) hLg
  · rw [(tE_P e).1]; exact rSe_keep f4 g4 (k1' _ rfl) (k2' _ rfl) hSe
  · exact rI_tE e (rI_keep (k1' _ rfl) (k2' _ rfl) hI)
/-! the class forgets from whom -/
def xfor (A : Tb) (x : Nat) : Nat := (hs A (x0 x) * 56 + hs A (x1 x)) * 2 + x % 2
theorem xfor_ok {A B : Tb} (e : tE A B) (w : wA A) {x : Nat} (h : okx A x) : okx B (xfor A x) ∧ cv B (xfor A x) = mkc (cOne (cv A x)) (cTwo (cv A x)) (cSide (cv A x)) 0 0 := by
  have h0 := hs_lt w h.2.1
  have h1 := hs_lt w h.2.2.1
  have p0 := h.2.1.2.1
  have p1 := h.2.2.1.2.1
  have a0 : x0 (xfor A x) = hs A (x0 x) := by unfold xfor; unfold x0 x1 at *; omega
  have a1 : x1 (xfor A x) = hs A (x1 x) := by unfold xfor; unfold x0 x1 at *; omega
  have a2 : xfor A x % 2 = x % 2 := by unfold xfor; omega
  have a3 : xfor A x < 6272 := by unfold xfor; omega
  have hsB : ∀ p, p < 16 → hs B p = p := fun p hp => by unfold hs; rw [if_pos hp]
  have fsB : ∀ p, p < 16 → fs B p = 0 := fun p hp => by unfold fs; rw [if_pos hp]
  refine ⟨⟨a3, ?_, ?_, ?_⟩, ?_⟩
  · rw [a0]; exact ⟨by omega, by rw [hsB _ h0, (tE_P e).1]; exact p0, Or.inl h0⟩
  · rw [a1]; exact ⟨by omega, by rw [hsB _ h1, (tE_P e).1]; exact p1, Or.inl h1⟩
  · rw [a0, a1, hsB _ h0, hsB _ h1]; exact h.2.2.2
  · rw [cv_one w h, cv_two w h, cv_side w h]
    unfold cv
    rw [a0, a1, a2, hsB _ h0, hsB _ h1, fsB _ h0, fsB _ h1]
theorem xW_fr {H : List Nat} {σ σ' : jS} {A : Tb} (f : fr H σ σ') (d : [5, 6, 7, 8, 9, 10].all (fun a => !H.contains a) = true) (h : xW σ A) : xW σ' A := by
  have k : ∀ a, a ∈ [5, 6, 7, 8, 9, 10] → a ∉ H := fun a ha q => by
    have := List.all_eq_true.mp d a ha
    simp [q] at this
  obtain ⟨a1, a2, a3, a4, a5, a6⟩ := h
  refine ⟨by rw [fr_I f (k 5 (by decide))]; exact a1, ?_, ?_, ?_, ?_, ?_⟩
  · intro s hs; rw [fr_I f (k 6 (by decide)), fr_I f (k 7 (by decide))]; exact a2 s hs
  · intro s hs; rw [fr_I f (k 6 (by decide)), fr_I f (k 7 (by decide))]; exact a3 s hs
  · intro s hs; rw [fr_L f (k 8 (by decide))]; exact a4 s hs
  · intro s hs; rw [fr_L f (k 9 (by decide))]; exact a5 s hs
  · intro s hs; rw [fr_L f (k 10 (by decide))]; exact a6 s hs
theorem xTb_kp {σ σ' : jS} {A : Tb} {T : Nat} (h : kp [51, 52, 53, 54, 55, 56, 61, 62, 63, 64, 65, 66] σ σ') (hT : xTb σ A T) : xTb σ' A T := by
  refine ⟨hT.1, ?_⟩
  have F : ∀ j, j ≤ 5 → ∀ i, gI σ' (T + j) i = gI σ (T + j) i := fun j hj i => h _ (by
    have := hT.1
    simp; omega) i
  obtain ⟨t1, t2, t3, t4, t5, t6⟩ := hT.2
  exact ⟨(F 0 (by decide) 6).trans t1, (F 0 (by decide) 7).trans t2, (F 0 (by decide) 8).trans t3, fun p hp => (F 1 (by decide) p).trans (t4 p hp), fun t ht => ⟨(F 2 (by decide) t).trans (t5 t ht).1, (F 3 (by decide) t).trans (t5 t ht).2⟩, fun q hq => ⟨(F 4 (by decide) q).trans (t6 q hq).1, (F 5 (by decide) q).trans (t6 q hq).2⟩⟩
theorem x_forgetW {σ : jS} {A : Tb} (w : wA A) (hq4 : tQ A ≤ 4) (hT : xT σ A) (hW : tQ A ≠ 0 → xW σ A) (hx : ∀ q, q < tQ A → ∃ x, gI σ 30 q = nI x ∧ okx A x) : ∃ σ', f_X10_forgetFromWhom σ = some ((), σ') ∧ fr [30] σ σ' ∧ ∀ q x, q < tQ A → gI σ 30 q = nI x → okx A x → gI σ' 30 q = nI (xfor A x) := by
  unfold f_X10_forgetFromWhom
  have key := jloop_ex (S := Int32 × jS) (O := Unit × jS) (f := fun s => f_X10_forgetFromWhom_B2 s.2 s.1) (fun i s => s.1 = nI i ∧ fr [30] σ s.2 ∧ (∀ q x, q < i → gI σ 30 q = nI x → okx A x → gI s.2 30 q = nI (xfor A x)) ∧ ∀ q, i ≤ q → gI s.2 30 q = gI σ 30 q) (tQ A) (fun o => fr [30] σ o.2 ∧ ∀ q x, q < tQ A → gI σ 30 q = nI x → okx A x → gI o.2 30 q = nI (xfor A x)) (s0 := (0, σ)) ⟨rfl, fr_rfl _ _, fun q x hq => absurd hq (Nat.not_lt_zero q), fun _ _ => rfl⟩ (jfuel_big (by omega)) ?_ ?_
  · obtain ⟨o, e1, e2⟩ := key
    exact ⟨o.2, e1, e2⟩
  · rintro ⟨a, s⟩ ⟨rfl, g1, g2, g3⟩
    refine ⟨((), s), ?_, g1, g2⟩
    have t8 := (xTb_fr (T := σ.2.2.1) g1 (by decide) hT).2.2.2.1
    show f_X10_forgetFromWhom_B2 s (nI (tQ A)) = _
    unfold f_X10_forgetFromWhom_B2 f_X10_forgetFromWhom_J66
    rw [bV_e, show s.2.2.1 = σ.2.2.1 from fr_T g1, bH_t (T_in hT.1), t8, if_pos (Int32.le_refl _), jw_e]
  · rintro i ⟨a, s⟩ hi ⟨rfl, g1, g2, g3⟩
    have t8 := (xTb_fr (T := σ.2.2.1) g1 (by decide) hT).2.2.2.1
    obtain ⟨x, e1, ok⟩ := hx i hi
    have hw := xW_fr g1 (by decide) (hW (by omega))
    have hh0 := x_holder hw ok (s := 0) (by decide)
    have hh1 := x_holder hw ok (s := 1) (by decide)
    have e2 : gI s 30 i = nI x := (g3 i (Nat.le_refl _)).trans e1
    refine Or.inl ⟨(nI (i + 1), sI s 30 i (nI (xfor A x))), ?_, rfl, fr_trans g1 (fr_sI _ _ _ (by decide)), ?_, ?_⟩
    · show f_X10_forgetFromWhom_B2 s (nI i) = _
      unfold f_X10_forgetFromWhom_B2 f_X0_state
      rw [bV_e, show s.2.2.1 = σ.2.2.1 from fr_T g1, bH_t (T_in hT.1), t8, if_neg (nI_ge hi (by omega)), at30 (by omega), bC_e, e2, show f_X0_holder s (nI x) 0 = _ from hh0, bC_e, show f_X0_holder s (nI x) 1 = _ from hh1, bC_e, and1, show (56 : Int32) = nI 56 from rfl, show (2 : Int32) = nI 2 from rfl, nI_mul, nI_add, nI_mul, nI_add, bC_e, put30 (by omega), bD_e, bV_e, nI_1]
      rfl
    · intro q y hq e3 ok3
      by_cases z : q = i
      · subst z
        rw [e1] at e3
        have : x = y := (nI_eq (by have := ok.1; omega) (by have := ok3.1; omega)).mp e3
        subst this
        exact gI_sI _ _ _ _
      · show gI (sI s 30 i _) 30 q = _
        rw [gI_nei z]; exact g2 q y (by omega) e3 ok3
    · intro q hq
      show gI (sI s 30 i _) 30 q = _
      rw [gI_nei (by omega)]; exact g3 q (by omega)
