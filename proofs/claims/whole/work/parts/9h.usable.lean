/-! once: the class's turns that can be used -/
def usU (A : Tb) (u x s t : Nat) : Bool := !u.testBit t && (!(A 3 t == hs A (xs x (1 - s))) && joinT A (xs x s) t)
section US
variable {A : Tb} {σ : jS}
theorem x_byTurn (w : wA A) (hW : xW σ A) {t : Nat} (ht : t < tT A) : f_X9_byTurn σ (nI t) = some (nI (byT A t)) := by
  have := w.2.1
  have := w.2.2.1
  unfold f_X9_byTurn f_X9_byTurn_J25 byT
  rw [hW.1, show (16 : Int32) + nI t = nI (16 + t) from nI_add 16 t]
  by_cases y : tB A = 0
  · rw [if_pos (show nI (tB A) = 0 from congrArg nI y), at6 (by omega), bC_e, (hW.2.2.1 t ht).1, if_pos y]
  · rw [if_neg (fun e => y ((nI_eq0 (by omega)).mp e)), if_neg y]
theorem onw_join (w : wA A) {s t : Nat} (hv : vs A s) (ht : t < tT A) (h4 : hs A s = A 4 t) : onw A s (byT A t) = joinT A s t := by
  apply bool_iff
  unfold onw
  rw [bex_iff]
  constructor
  · rintro ⟨t', h1, h2⟩
    rw [Bool.and_eq_true, beq_iff_eq] at h2
    have e3 : A 3 t' = A 3 t := by rw [← (byT_hs w h1).1, ← (byT_hs w ht).1, h2.1]
    have e4 : A 4 t' = A 4 t := ((joinT_iff w hv h1).mp h2.2).2.1.symm.trans h4
    have : t' = t := w.2.2.2.2 t' t h1 ht e3 e4
    rw [← this]; exact h2.2
  · intro h
    exact ⟨t, ht, by rw [h, beq_self_eq_true]; rfl⟩
theorem x_leadsBy (w : wA A) (hW : xW σ A) {s t : Nat} (hv : vs A s) (ht : t < tT A) : f_X9_leadsBy σ (nI s) (nI t) = some (bI (joinT A s t)) := by
  have t40 := w.2.1
  have s56 := hv.1
  obtain ⟨p3, p4, _⟩ := w.2.2.2.1 t ht
  have h16 := w.1
  have hl := hs_lt w hv
  unfold f_X9_leadsBy f_X9_leadsBy_J50
  rw [at6 s56, bC_e, xW_hs hW hv, show (16 : Int32) + nI t = nI (16 + t) from nI_add 16 t, at7 (by omega), bC_e, (hW.2.2.1 t ht).2]
  by_cases y : hs A s = A 4 t
  · rw [if_pos (congrArg nI y), at8 s56, bC_e, x_byTurn w hW ht, bC_e, hW.2.2.2.1 s s56]
    have b56 := (byT_hs w ht).2
    have e := sshr64 (v := lN (bm (onw A s) 56)) (k := byT A t) (by omega)
    have e2 : (lN (bm (onw A s) 56)).toBitVec.getLsbD (byT A t) = joinT A s t := by
      show (BitVec.ofNat 64 _).getLsbD _ = _
      rw [BitVec.getLsbD_ofNat, bm_bit, decide_eq_true (show byT A t < 64 by omega), decide_eq_true b56, Bool.true_and, Bool.true_and, onw_join w hv ht y]
    rw [e2] at e
    cases hj : joinT A s t with
    | false => rw [if_pos ((lgcB _).mpr (e.mpr hj)), bG_t jb_0]; rfl
    | true =>
      rw [if_neg (fun z => by
        have := e.mp ((lgcB _).mp z)
        rw [hj] at this; cases this), bG_t jb_1]; rfl
  · rw [if_neg (fun z => y ((nI_eq (by omega) (by omega)).mp z))]
    cases hj : joinT A s t with
    | false => rfl
    | true => exact absurd ((joinT_iff w hv ht).mp hj).2.1 y
theorem x_usable (w : wA A) (hW : xW σ A) (hT : tT A ≤ 8) (h17 : gI σ 17 2 = nI (tT A)) {x u : Nat} (ok : okx A x) (hu : u < 2 ^ 31) : f_X4_usable σ (nI x) (nI u) = some (nI (bm (usU A u x (x % 2)) (tT A))) := by
  have hv := okx_v (s := x % 2) ok
  have ho := okx_v (s := 1 - x % 2) ok
  have ho16 := hs_lt w ho
  have h16 := w.1
  unfold f_X4_usable
  rw [and1, bV_e, show (1 : Int32) - nI (x % 2) = nI (1 - x % 2) from nI_sub (a := 1) (by omega), x_holder hW ok (by omega), bC_e]
  refine jloop_0 (fun i => (nI (bm (usU A u x (x % 2)) i), nI i)) (tT A) rfl (jfuel_big (by omega)) ?_ ?_
  · show f_X4_usable_B22 σ (nI x) (nI u) (nI (x % 2)) (nI (hs A (xs x (1 - x % 2)))) (nI (bm (usU A u x (x % 2)) (tT A))) (nI (tT A)) = _
    unfold f_X4_usable_B22 f_X4_usable_J96
    rw [h17, if_pos (Int32.le_refl _), jw_e]
  · intro t ht
    obtain ⟨p3, p4, _⟩ := w.2.2.2.1 t ht
    show f_X4_usable_B22 σ (nI x) (nI u) (nI (x % 2)) (nI (hs A (xs x (1 - x % 2)))) (nI (bm (usU A u x (x % 2)) t)) (nI t) = some (.inl (nI (bm (usU A u x (x % 2)) (t + 1)), nI (t + 1)))
    have off : usU A u x (x % 2) t = false → nI (bm (usU A u x (x % 2)) t) = nI (bm (usU A u x (x % 2)) (t + 1)) := fun h => by
      rw [bm, if_neg (by rw [h]; decide), Nat.add_zero]
    unfold f_X4_usable_B22 f_X4_usable_J90
    rw [h17, if_neg (nI_ge ht (by omega)), nI_bit hu (by omega)]
    cases hb : u.testBit t with
    | true =>
      rw [if_pos rfl, if_neg (show ¬ (1 : Int32) = 0 by decide), bV_e, nI_1, off (by unfold usU; rw [hb]; rfl)]
    | false =>
      rw [if_neg (show ¬ false = true by decide), if_pos rfl, show (16 : Int32) + nI t = nI (16 + t) from nI_add 16 t, at6 (by omega), bC_e, (hW.2.2.1 t ht).1]
      by_cases y : A 3 t = hs A (xs x (1 - x % 2))
      · rw [if_pos (congrArg nI y), bV_e, nI_1, off (by unfold usU; rw [y, beq_self_eq_true]; simp)]
      · rw [if_neg (fun z => y ((nI_eq (by omega) (by omega)).mp z)), x_spot ok.1 (by omega), bC_e, x_leadsBy w hW hv ht, bC_e]
        have eu : usU A u x (x % 2) t = joinT A (xs x (x % 2)) t := by
          unfold usU
          rw [hb, beq_eq_false_iff_ne.mpr y]; simp
        cases hj : joinT A (xs x (x % 2)) t with
        | false => rw [if_pos (show bI false = 0 from rfl), bV_e, nI_1, off (eu.trans hj)]
        | true =>
          have := bm_step (usU A u x (x % 2)) (k := t) (by omega)
          rw [eu, hj, if_pos rfl] at this
          rw [if_neg (show ¬ bI true = 0 by decide), bV_e, this, bV_e, nI_1]
theorem usU_may (w : wA A) {u x s t : Nat} (ok : okx A x) (s2 : s < 2) (ht : t < tT A) : usU A u x s t = true ↔ u.testBit t = false ∧ A 4 t = cHold (cv A x) s ∧ mayU A u (cv A x) s (A 3 t) = true := by
  have hv := okx_v (s := s) ok
  have eh := cv_hold w ok s2
  constructor
  · intro h
    unfold usU at h
    rw [Bool.and_eq_true, Bool.and_eq_true, Bool.not_eq_true', Bool.not_eq_true', beq_eq_false_iff_ne] at h
    obtain ⟨h1, h2, h3⟩ := h
    obtain ⟨j1, j2, j3⟩ := (joinT_iff w hv ht).mp h3
    refine ⟨h1, by rw [eh, j2], mayU_iff.mpr ⟨owU_iff.mpr ⟨t, ht, h1, rfl, by rw [eh, j2]⟩, (may_turn w ok s2).mpr ⟨t, ht, rfl, j1, j2, j3, h2⟩⟩⟩
  · rintro ⟨h1, h2, h3⟩
    obtain ⟨t', k1, k2, k3, k4, k5, k6⟩ := (may_turn w ok s2).mp (mayU_iff.mp h3).2
    have : t' = t := w.2.2.2.2 t' t k1 ht k2 (by rw [← k4, h2, eh])
    subst this
    unfold usU
    rw [h1, beq_eq_false_iff_ne.mpr k6, (joinT_iff w hv ht).mpr ⟨k3, k4, k5⟩]; rfl
theorem usU_none (w : wA A) {u x s : Nat} (ok : okx A x) (s2 : s < 2) : bm (usU A u x s) (tT A) = 0 ↔ bm (mayU A u (cv A x) s) 16 = 0 := by
  rw [bm_zero, bm_zero]
  constructor
  · intro h q hq
    cases hm : mayU A u (cv A x) s q with
    | false => rfl
    | true =>
      obtain ⟨t, t1, t2, t3, t4⟩ := owU_iff.mp (mayU_iff.mp hm).1
      have := (usU_may w ok s2 t1).mpr ⟨t2, t4, by rw [t3]; exact hm⟩
      rw [h t t1] at this; cases this
  · intro h t ht
    cases hu : usU A u x s t with
    | false => rfl
    | true =>
      have hm := ((usU_may w ok s2 ht).mp hu).2.2
      have p := (w.2.2.2.1 t ht).1
      have := w.1
      rw [h _ (by omega)] at hm; cases hm
theorem flp_xs {x s : Nat} {A : Tb} (ok : okx A x) : xs (flp x) s = xs x s := by
  obtain ⟨_, _, e0, e1⟩ := flp_ok ok
  unfold xs
  rw [e0, e1]
theorem flp_usU {u x s : Nat} (ok : okx A x) : usU A u (flp x) s = usU A u x s := by
  funext t
  unfold usU
  rw [flp_xs ok, flp_xs ok]
/-- a turn that can be used is a way -/
theorem usU_ows (w : wA A) {u x t : Nat} (ok : okx A x) (ht : t < tT A) (h : usU A u x (x % 2) t = true) : ows A x (x % 2) (byT A t) = true := by
  have hv := okx_v (s := x % 2) ok
  unfold usU at h
  rw [Bool.and_eq_true, Bool.and_eq_true, Bool.not_eq_true', Bool.not_eq_true', beq_eq_false_iff_ne] at h
  obtain ⟨h1, h2, h3⟩ := h
  obtain ⟨j1, j2, j3⟩ := (joinT_iff w hv ht).mp h3
  exact (ows_turn w ok _).mpr ⟨t, ht, rfl, j1, j2, j3, h2⟩
end US
