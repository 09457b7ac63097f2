/-! once: the reference carries a quarrel on -/
def W6 (τ : jS) : Prop := wN τ ∧ wS τ ∧ wT τ ∧ wO τ ∧ wG τ ∧ wQ τ
theorem W6_keep {τ τ' : jS} (h : ∀ a i, stat a i = true → gI τ' a i = gI τ a i) (h5 : ∀ i, gI τ' 5 i = gI τ 5 i) (w : W6 τ) : W6 τ' := by
  obtain ⟨⟨n1, n2, n3, n4, n5, n6⟩, hS, hT, hO, hG, hQ⟩ := w
  have e := mn_eq h
  refine ⟨?_, ?_, ?_, ?_, ?_, ?_⟩
  · unfold wN
    rw [e, h 1 0 rfl, h 1 2 rfl, h 1 6 rfl, h 1 8 rfl, h 1 13 rfl, h 1 14 rfl]
    exact ⟨n1, n2, n3, n4, n5, n6⟩
  · intro p hp
    rw [e, h 2 p rfl]; exact hS p hp
  · unfold wT
    rw [e]
    refine ⟨fun t ht => ?_, hT.2⟩
    rw [h 3 t rfl, h 4 t rfl]; exact hT.1 t ht
  · intro p hp
    rw [e, h5]; exact hO p hp
  · unfold wG
    rw [e]
    refine ⟨fun g hg => ?_, hG.2⟩
    rw [h 6 g rfl]; exact hG.1 g hg
  · intro q hq
    rw [e] at hq ⊢
    rw [h 7 q rfl, h 8 q rfl]; exact hQ q hq
/-- carrying on writes but this -/
def cfr (τ t : jS) : Prop := ∀ a i, a ≠ 29 → a ≠ 30 → a ≠ 31 → ¬ (a = 1 ∧ (i = 35 ∨ i = 55)) → gI t a i = gI τ a i
theorem cfr_rfl (τ : jS) : cfr τ τ := fun _ _ _ _ _ _ => rfl
theorem cfr_tr {a b c : jS} (h : cfr a b) (g : cfr b c) : cfr a c := fun x i p q r s => (g x i p q r s).trans (h x i p q r s)
theorem cfr_r {τ : jS} {a i : Nat} {v : Int32} (h : a = 29 ∨ a = 30 ∨ a = 31) : cfr τ (sI τ a i v) := fun x j p q r _ => gI_ne (by omega)
theorem cfr_1 {τ : jS} {i : Nat} {v : Int32} (h : i = 35 ∨ i = 55) : cfr τ (sI τ 1 i v) := fun x j p q r s => gI_sIn (fun e => s ⟨e.1, by rw [e.2]; exact h⟩)
theorem cfr_stat {τ t : jS} (h : cfr τ t) : (∀ a i, stat a i = true → gI t a i = gI τ a i) ∧ ∀ i, gI t 5 i = gI τ 5 i := by
  refine ⟨fun a i q => h a i ?_ ?_ ?_ ?_, fun i => h 5 i (by decide) (by decide) (by decide) (fun e => by cases e.1)⟩
  · rintro rfl; simp [stat] at q
  · rintro rfl; simp [stat] at q
  · rintro rfl; simp [stat] at q
  · rintro ⟨rfl, rfl | rfl⟩ <;> simp [stat] at q
theorem cfr_W {τ t : jS} (h : cfr τ t) (w : W6 τ) : W6 t ∧ mn t = mn τ := ⟨W6_keep (cfr_stat h).1 (cfr_stat h).2 w, mn_eq (cfr_stat h).1⟩
theorem behQ_parts {A : Tb} (h16 : tP A ≤ 16) {c p : Nat} (hc : c < 147968) (hp : p < 16) : cSide (behQ A c p) = 1 - cSide c ∧ cHold (behQ A c p) (cSide c) = p ∧ cHold (behQ A c p) (1 - cSide c) = cHold c (1 - cSide c) ∧ behQ A c p < 147968 := by
  have h0 := cFr_lt c 0
  have h1 := cFr_lt c 1
  have o := cOne_lt hc
  have t := cTwo_lt c
  have w1 : (if tB A = 0 then 0 else cOne c + 1) < 17 := by split <;> omega
  have w2 : (if tB A = 0 then 0 else cTwo c + 1) < 17 := by split <;> omega
  unfold behQ cHold
  generalize (if tB A = 0 then 0 else cOne c + 1) = v1 at *
  generalize (if tB A = 0 then 0 else cTwo c + 1) = v2 at *
  have : cSide c = 0 ∨ cSide c = 1 := by have := cSide_lt c; omega
  rcases this with e | e <;> rw [e]
  · rw [if_pos rfl, if_pos rfl, if_neg (by decide), if_neg (by decide)]
    exact ⟨mkc_side (by decide) w1 h1, mkc_one t (by decide) w1 h1, mkc_two t (by decide) w1 h1, mkc_lt hp t (by decide) w1 h1⟩
  · rw [if_neg (by decide), if_neg (by decide), if_pos rfl, if_pos rfl]
    exact ⟨mkc_side (by decide) h0 w2, mkc_two hp (by decide) h0 w2, mkc_one hp (by decide) h0 w2, mkc_lt o hp (by decide) h0 w2⟩
theorem may_ne {A : Tb} {u c s : Nat} (w : wA A) (h : bm (mayU A u c s) 16 ≠ 0) : 1 ≤ optU A u (cHold c s) := by
  have := may_opt (u := u) (c := c) (s := s) w
  rcases Nat.eq_zero_or_pos (optU A u (cHold c s)) with z | z
  · exfalso
    refine h (bm_zero.mpr fun k hk => ?_)
    exact cnt_none (show fa_cnt (mayU A u c s) 16 = 0 by omega) k hk
  · exact z
theorem hold_ne {A : Tb} {c : Nat} (h : okc A c) : cHold c (1 - cSide c) ≠ cHold c (cSide c) := by
  have := h.2.2.2.1
  have : cSide c = 0 ∨ cSide c = 1 := by have := cSide_lt c; omega
  unfold cHold
  rcases this with e | e <;> rw [e] <;> simp <;> omega
theorem wt_child {A : Tb} {u c t : Nat} (w : wA A) (h8 : remU A u ≤ 8) (hc : okc A c) (ht : t < tT A) (hu : u.testBit t = false) (h4 : A 4 t = cHold c (cSide c)) : wtU A (behQ A c (A 3 t)) (u ||| 2 ^ t) ≤ KB (remU A u) (optU A u (cHold c (cSide c))) := by
  have h16 := w.1
  obtain ⟨p3, p4, p5⟩ := w.2.2.2.1 t ht
  obtain ⟨b1, b2, b3, b4⟩ := behQ_parts h16 hc.1 (show A 3 t < 16 by omega)
  have hr := remU_or ht hu
  have sub : ∀ k, (u ||| 2 ^ t).testBit k = false → u.testBit k = false := fun k hk => by
    rw [or_pow, Bool.or_eq_false_iff] at hk
    exact hk.1
  have d1 := optU_dis (A := A) (h := cHold c (cSide c)) (h' := cHold c (1 - cSide c)) sub (hold_ne hc)
  have d2 := optU_dis (A := A) (h := cHold c (cSide c)) (h' := A 3 t) sub (by rw [← h4]; exact p5)
  have l1 := optU_le (A := A) (u := u ||| 2 ^ t) (h := cHold c (1 - cSide c))
  have l2 := optU_le (A := A) (u := u ||| 2 ^ t) (h := A 3 t)
  have s2 := cSide_lt c
  have e1 : 1 - (1 - cSide c) = cSide c := by omega
  have m1 := may_ne (A := A) (u := u ||| 2 ^ t) (c := behQ A c (A 3 t)) (s := 1 - cSide c) w
  have m2 := may_ne (A := A) (u := u ||| 2 ^ t) (c := behQ A c (A 3 t)) (s := cSide c) w
  unfold wtU
  rw [b1, e1, b2, b3]
  rw [b3] at m1
  rw [b2] at m2
  generalize optU A (u ||| 2 ^ t) (cHold c (1 - cSide c)) = o1 at *
  generalize optU A (u ||| 2 ^ t) (A 3 t) = o2 at *
  generalize optU A u (cHold c (cSide c)) = a at *
  generalize remU A (u ||| 2 ^ t) = r' at *
  generalize hr' : remU A u = r at *
  have r1 : r = r' + 1 := hr.symm
  subst r1
  have mono : ∀ x y z : Nat, x ≤ y → x * z ≤ y * z := fun x y z h => Nat.mul_le_mul_right z h
  unfold KB
  by_cases z : r' + 1 = 8
  · have r7 : r' = 7 := by omega
    subst r7
    rw [if_pos rfl]
    simp only [show ¬ (7 : Nat) = 8 by decide, if_false, show (7 : Nat) - 1 = 6 from rfl]
    have x1 := mono o1 (8 - a) (PB 6) (by omega)
    have x2 := mono o2 (8 - a) (PB 6) (by omega)
    split
    · omega
    · split <;> omega
  · rw [if_neg z]
    have z2 : ¬ r' = 8 := by omega
    simp only [z2, if_false, Nat.add_sub_cancel]
    rcases Nat.eq_zero_or_pos r' with y | y
    · subst y
      have q1 : ¬ bm (mayU A (u ||| 2 ^ t) (behQ A c (A 3 t)) (1 - cSide c)) 16 ≠ 0 := fun e => by have := m1 e; omega
      have q2 : ¬ bm (mayU A (u ||| 2 ^ t) (behQ A c (A 3 t)) (cSide c)) 16 ≠ 0 := fun e => by have := m2 e; omega
      rw [if_neg q1, if_neg q2]
      exact Nat.le_refl _
    · obtain ⟨j, rfl⟩ : ∃ j, r' = j + 1 := ⟨r' - 1, by omega⟩
      simp only [Nat.add_sub_cancel]
      have x1 := mono o1 (j + 1) (PB j) l1
      have x2 := mono o2 (j + 1) (PB j) l2
      have x3 : PB (j + 1) = 2 + (j + 1) * PB j := rfl
      split
      · omega
      · split <;> omega
theorem behP_mayU {A : Tb} {u c s : Nat} (h : c < 147968) (hs : s < 2) : mayU A u (behP c) s = mayU A u c s := by
  obtain ⟨a, b, d, e⟩ := behP_parts h
  funext q
  have hh : ∀ v, cHold (behP c) v = cHold c v := fun v => by unfold cHold; rw [a, b]
  unfold mayU mayG
  rw [hh, hh, e s hs]
theorem behP_hold {c : Nat} (h : c < 147968) (v : Nat) : cHold (behP c) v = cHold c v := by
  obtain ⟨a, b, _⟩ := behP_parts h
  unfold cHold; rw [a, b]
theorem wt_pass {A : Tb} {u c : Nat} (hc : c < 147968) (h0 : bm (mayU A u c (cSide c)) 16 = 0) (h1 : bm (mayU A u c (1 - cSide c)) 16 ≠ 0) : wtU A (behP c) u + 1 = wtU A c u := by
  have s2 := cSide_lt c
  have e2 := (behP_parts hc).2.2.1
  unfold wtU
  rw [e2, behP_mayU hc (by omega), behP_hold hc, if_pos h1, if_neg (fun e => e h0), if_pos h1]
  omega
section OM
variable {A : Tb}
theorem m_owedU {t : jS} {u h : Nat} (hw : W6 t) (eA : mn t = A) (hT : tT A ≤ 8) (hh16 : h < 16) (hu : gI t 1 35 = nI (lfU A u)) : f_X11_owedNow t (nI h) = some (nI (bm (owU A u h) 16)) := by
  have lt := lfU_lt A u
  have l8 : lfU A u < 2 ^ 8 := Nat.lt_of_lt_of_le lt (Nat.pow_le_pow_right (by decide) hT)
  have e2 : gI t 1 2 = nI (tT A) := by rw [← eA]; exact hw.1.2.1.1
  have h16 : tP A ≤ 16 := by rw [← eA]; exact hw.1.1.2
  have hTT := hw.2.2.1
  unfold wT at hTT
  rw [eA] at hTT
  unfold f_X11_owedNow
  rw [hu, if_pos (nI_pos' (by omega))]
  refine jloop_0 (fun i => (nI (bm (fun q => bex i fun t => !u.testBit t && (A 3 t == q && A 4 t == h)) 16), nI i)) (tT A) ?_ (jfuel_big (by omega)) ?_ ?_
  · show (nI (bm (fun _ => false) 16), nI 0) = _
    rw [nbm0 fun _ => rfl]; rfl
  · show f_X11_owedNow_B18 t (nI h) (nI (bm (owU A u h) 16)) (nI (tT A)) = _
    unfold f_X11_owedNow_B18 f_X11_owedNow_J68
    rw [e2, if_pos (Int32.le_refl _), jw_e]
  · intro i hi
    obtain ⟨q1, q2, q3, q4, q5⟩ := hTT.1 i hi
    have ji : jin (nI i) 40 = true := jin_nI (by omega) (by omega)
    show f_X11_owedNow_B18 t (nI h) (nI (bm (fun q => bex i fun t => !u.testBit t && (A 3 t == q && A 4 t == h)) 16)) (nI i) = some (.inl (nI (bm (fun q => bex (i + 1) fun t => !u.testBit t && (A 3 t == q && A 4 t == h)) 16), nI (i + 1)))
    have hb : f_X11_has (nI (lfU A u)) (nI i) = some (if u.testBit i = true then 0 else 1) := by
      unfold lfU
      rw [m_has (by omega) (by omega)]
      cases u.testBit i with
      | true => simp
      | false => simp [hi]
    have same : (u.testBit i = true ∨ ¬ A 4 i = h) → bm (fun q => bex (i + 1) fun t => !u.testBit t && (A 3 t == q && A 4 t == h)) 16 = bm (fun q => bex i fun t => !u.testBit t && (A 3 t == q && A 4 t == h)) 16 := fun hh => bm_cong fun q _ => by
      rw [bex_succ]
      rcases hh with hh | hh
      · rw [hh]; simp
      · rw [beq_eq_false_iff_ne.mpr hh]; simp
    unfold f_X11_owedNow_B18 f_X11_owedNow_J59 f_X11_owedNow_J60
    rw [e2, if_neg (nI_ge hi (by omega)), hu, hb, bC_e]
    cases hub : u.testBit i with
    | true =>
      rw [if_pos rfl, if_pos rfl, bV_e, bV_e, nI_1, same (Or.inl hub), or_0]
    | false =>
      rw [if_neg (show ¬ false = true by decide), if_neg (show ¬ (1 : Int32) = 0 by decide), bG_t ji, ix_nI (by omega), q2]
      by_cases y : A 4 i = h
      · rw [if_pos (congrArg nI y), bG_t ji, q1, bV_e, nI_or1 _ (by omega), bV_e, nI_1]
        refine congrArg (fun v => some (Sum.inl (nI v, nI (i + 1)))) (bm_cong fun q _ => ?_)
        rw [bex_succ, hub, y, beq_self_eq_true]
        have : (q == A 3 i) = (A 3 i == q) := by
          apply bool_iff
          rw [beq_iff_eq, beq_iff_eq]
          exact ⟨fun e => e.symm, fun e => e.symm⟩
        rw [this]; simp
      · rw [if_neg (fun e => y ((nI_eq (by omega) (by omega)).mp e)), bV_e, bV_e, nI_1, same (Or.inr y), or_0]
end OM
