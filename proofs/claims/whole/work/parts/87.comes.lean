/-! comes, end -/
theorem tmX_1 {A : Tb} {x : Nat} : tmX A 1 x = true ↔ stN A (cv A x) ≠ 0 := by
  have := st_lt3 A (cv A x)
  unfold tmX
  simp
  omega
theorem scX_some {A : Tb} {x : Nat} (h : stN A (cv A x) = 0) : ∃ y, scX A x y = true := by
  by_cases z : bm (ows A x (x % 2)) 56 = 0
  · exact ⟨flp x, scX_iff.mpr ⟨h, Or.inl ⟨z, rfl⟩⟩⟩
  · apply Classical.byContradiction
    intro hn
    refine z (bm_zero.mpr fun d hd => ?_)
    cases ho : ows A x (x % 2) d with
    | false => rfl
    | true => exact absurd ⟨afx x d, scX_iff.mpr ⟨h, Or.inr ⟨d, hd, ho, rfl⟩⟩⟩ hn
theorem spr_no {A : Tb} {c : Nat} (h : stN A c ≠ 0) : spr A 0 c = false := by
  cases hs : spr A 0 c with
  | false => rfl
  | true => exact absurd (spr_st hs (spr_0 hs)) h
/-- the state's people, as bits -/
def holP (A : Tb) (c p : Nat) : Bool := p == cOne c || p == cTwo c
theorem hol_bits {f : Nat → Bool} {i j : Nat} (hi : i < 16) (hj : j < 16) : nI (bm f 16) ||| (((1 : Int32) <<< (nI i &&& 31)) ||| ((1 : Int32) <<< (nI j &&& 31))) = nI (bm (fun k => f k || (k == i || k == j)) 16) := by
  rw [← Int32.or_assoc, nI_or1 _ hi, nI_or1 _ hj]
  exact congrArg nI (bm_cong fun k _ => Bool.or_assoc _ _ _)
theorem x_holdersFound {σ : jS} {A : Tb} {n : Nat} {L : Nat → Nat} (w : wA A) (hW : xW σ A) (n6 : n ≤ 6272) (h1 : gI σ 4 1 = nI n) (h2 : ∀ j, j < n → okx A (L j) ∧ gI σ 12 j = nI (L j)) : f_X0_holdersFound σ = some (nI (bm (fun p => bex n fun l => holP A (cv A (L l)) p) 16)) := by
  unfold f_X0_holdersFound
  refine jloop_0 (fun i => (nI (bm (fun p => bex i fun l => holP A (cv A (L l)) p) 16), nI i)) n ?_ (jfuel_big (by omega)) ?_ ?_
  · show (nI (bm (fun _ => false) 16), nI 0) = _
    rw [nbm0 fun _ => rfl]; rfl
  · show f_X0_holdersFound_B4 σ (nI (bm (fun p => bex n fun l => holP A (cv A (L l)) p) 16)) (nI n) = _
    unfold f_X0_holdersFound_B4 f_X0_holdersFound_J40
    rw [h1, if_pos (Int32.le_refl _), jw_e]
  · intro i hi
    obtain ⟨ok, e12⟩ := h2 i hi
    have t1 := hs_lt w ok.2.1
    have t2 := hs_lt w ok.2.2.1
    show f_X0_holdersFound_B4 σ (nI (bm (fun p => bex i fun l => holP A (cv A (L l)) p) 16)) (nI i) = some (.inl (nI (bm (fun p => bex (i + 1) fun l => holP A (cv A (L l)) p) 16), nI (i + 1)))
    unfold f_X0_holdersFound_B4 f_X0_holders
    rw [h1, if_neg (nI_ge hi (by omega)), if_neg (show ¬ (6272 : Int32) ≤ nI i from nI_ge (b := 6272) (by omega) (by decide)), at12 (by omega), bC_e, e12, show f_X0_holder σ (nI (L i)) 0 = some (nI (hs A (x0 (L i)))) from x_holder hW ok (s := 0) (by decide), bC_e, show f_X0_holder σ (nI (L i)) 1 = some (nI (hs A (x1 (L i)))) from x_holder hW ok (s := 1) (by decide), bC_e, bC_e, bV_e, bV_e, nI_1, hol_bits t1 t2]
    refine congrArg (fun v => some (Sum.inl (nI v, nI (i + 1)))) (bm_cong fun k _ => ?_)
    rw [bex_succ]
    unfold holP
    rw [cv_one w ok, cv_two w ok]
/-- the class and the reference, spread from one state: all of it -/
theorem q_spread {k : Nat} {σ τ : jS} (h : Rel k σ τ) (hk : k ≤ 2048) {q x sc : Nat} (hq : q < tQ (mn τ)) (ok : okx (mn τ) x) (hsc : sc < 2) : ∃ nd n m L Q lm W LM wh tg σ' τ', f_X0_solve σ (nI x) (-1) (nI sc) = some (rI0 (nd x), σ') ∧ SR (mn τ) x (tmX (mn τ) sc) (fun _ => false) lm n m L Q nd σ' ∧ gfr σ σ' ∧ sX k σ' ∧ f_X11_spread τ (nI (cv (mn τ) x)) 0 = some ((), τ') ∧ MS (mn τ) 0 (cv (mn τ) x) n W n LM wh tg τ' ∧ kfr τ τ' ∧ (∀ l, l < n → ∃ j, j < n ∧ LM j = cv (mn τ) (L l)) ∧ (∀ j, j < n → ∃ l, l < n ∧ LM j = cv (mn τ) (L l)) := by
  obtain ⟨rs, sx, sm⟩ := h
  obtain ⟨hM, hX, hH, _⟩ := id rs
  have w := wA_of hM.1 hM.2.2.1
  obtain ⟨hw, hf⟩ := hX.2.2.2 (tQ_tP hM (by omega))
  obtain ⟨ndX, nX, mX, LX, QX, lm, σ', a1, a2, a3, a4⟩ := x_solve (pI := -1) (pc := fun _ => false) (show k ≤ 4096 by omega) w hw hf ok sx (sc := sc) hsc (fun y hy => ⟨fun e => absurd e (fun u => nI_pos (n := y % 2) (by omega) (by rw [u]; decide)), fun e => by cases e⟩)
  obtain ⟨n, W, L, wh, tg, τ', b1, b2, b3⟩ := m_spread hM rfl (past := 0) (by decide) (cv_ok w ok) sm
  have okX : ∀ j, j < nX → okx (mn τ) (LX j) := fun j hj => (a2.2.1 j hj).1
  have b2' : MS (mn τ) 0 (cv (mn τ) (LX 0)) n W n L wh tg τ' := by rw [a2.1.2.2.2.2.1]; exact b2
  have t1 := in_line w b2' okX a2.2.2.2.1
  have t2 := to_class w b2' a2.1.2.2.2.1 okX a2.2.2.2.2.1
  have e := same_n w okX a2.2.2.1 b2.2.2.1 t1 t2
  subst e
  exact ⟨ndX, nX, mX, LX, QX, lm, W, L, wh, tg, σ', τ', a1, a2, a3, a4, b1, b2, b3, t1, t2⟩
theorem e26 {τ τ' : jS} (h : fr [26] τ τ') : kfr τ τ' := fun a i p _ => fr_I h (by unfold kH at p; simp at p ⊢; omega) i
theorem bI_ne {b : Bool} : bI b = 0 ↔ b = false := by cases b <;> decide
/-- ... and goes round in one iff in the other -/
theorem q_round {A : Tb} {x lm n m W : Nat} {L Q nd LM wh tg ndM : Nat → Nat} {σ τ : jS} (w : wA A) (hR : SR A x (tmX A 1) (fun _ => false) lm n m L Q nd σ) (hS : MS A 0 (cv A x) n W n LM wh tg τ) (t1 : ∀ l, l < n → ∃ j, j < n ∧ LM j = cv A (L l)) (t2 : ∀ j, j < n → ∃ l, l < n ∧ LM j = cv A (L l)) (hF : FX (fun x => x < n) (outE W wh) (fun _ => false) (scI W wh tg) ndM) : n ≤ m ↔ ∀ j, j < n → ndM j ≠ 0 := by
  have okX : ∀ y, vL n L y → okx A y := fun y hy => by
    obtain ⟨j, j1, j2⟩ := hy
    rw [← j2]; exact (hR.2.1 j j1).1
  have hφ : ∀ y, ∃ j, vL n L y → j < n ∧ LM j = cv A y := fun y => by
    by_cases z : vL n L y
    · obtain ⟨l, l1, l2⟩ := z
      obtain ⟨j, j1, j2⟩ := t1 l l1
      exact ⟨j, fun _ => ⟨j1, by rw [j2, l2]⟩⟩
    · exact ⟨0, fun q => absurd q z⟩
  have hφ2 : ∃ φ : Nat → Nat, ∀ y, vL n L y → φ y < n ∧ LM (φ y) = cv A y := ⟨fun y => Classical.choose (hφ y), fun y => Classical.choose_spec (hφ y)⟩
  obtain ⟨φ, hφ⟩ := hφ2
  have cl := hR.2.2.2.2.1
  have way : ∀ y z, vL n L y → scX A y z = true → scI W wh tg (φ y) (φ z) = true := fun y z hy hs => by
    have h1 := scX_scM w (past := 0) (okX y hy) hs
    rw [← (hφ y hy).2] at h1
    obtain ⟨v, v1, v2, v3⟩ := hS.2.2.2.2.2.2.2.1 _ _ (hφ y hy).1 (hφ y hy).1 h1
    have hz := cl y z hy hs
    refine scI_iff.mpr ⟨v, v1, v2, hS.2.2.1 _ _ (hS.2.2.2.2.1 v v1).2.2.1 (hφ z hz).1 ?_⟩
    rw [v3, (hφ z hz).2]
  have back : ∀ y j, vL n L y → scI W wh tg (φ y) j = true → ∃ z, scX A y z = true ∧ φ z = j := fun y j hy hs => by
    obtain ⟨v, v1, v2, v3⟩ := scI_iff.mp hs
    have h1 := (hS.2.2.2.2.1 v v1).2.2.2.2.2
    rw [v2, (hφ y hy).2] at h1
    have hE := spr_0 (scM_iff.mp h1).1
    obtain ⟨z, z1, z2⟩ := scM_scX w (okX y hy) hE h1
    have hz := cl y z hy z1
    refine ⟨z, z1, ?_⟩
    rw [← v3]
    exact hS.2.2.1 _ _ (hφ z hz).1 (hS.2.2.2.2.1 v v1).2.2.1 (by rw [(hφ z hz).2, z2])
  have F2 := FX_map (V := vL n L) (E := tmX A 1) (pc := fun _ => false) (sc := scX A) φ (fun y hy => (hφ y hy).1) (fun y hy => by
    apply bool_iff
    rw [tmX_1]
    unfold outE
    rw [decide_eq_true_eq]
    constructor
    · intro z
      rw [← cnt_false W]
      refine fa_cnt_cong fun v hv => ?_
      cases hb : (wh v == φ y) with
      | false => rfl
      | true =>
        have h1 := (scM_iff.mp (hS.2.2.2.2.1 v hv).2.2.2.2.2).1
        rw [beq_iff_eq.mp hb, (hφ y hy).2, spr_no z] at h1
        cases h1
    · intro z st
      obtain ⟨u, hu⟩ := scX_some st
      obtain ⟨v, v1, v2, v3⟩ := scI_iff.mp (way y u hy hu)
      have := cnt_none z v v1
      rw [v2, beq_self_eq_true] at this
      cases this) (fun y hy => rfl) (fun y z hy _ hs => way y z hy hs) (fun y j hy _ hs => back y j hy hs) hF
  have same : ∀ y, vL n L y → nd y = ndM (φ y) := fun y hy => FX_unique (fun a b ha _ hs => cl a b ha hs) hR.2.2.2.2.2.1 F2 hy
  have q := hR.2.2.2.2.2.2.2.1
  rw [full_q (L := L) (Q := Q) (nd := nd) hR.2.2.1 q.2.1 (fun j hj => (q.1 j hj).2) q.2.2]
  constructor
  · intro hall j hj
    obtain ⟨l, l1, l2⟩ := t2 j hj
    have vl : vL n L (L l) := ⟨l, l1, rfl⟩
    have : φ (L l) = j := hS.2.2.1 _ _ (hφ _ vl).1 hj (by rw [(hφ _ vl).2, l2])
    rw [← this, ← same _ vl]
    exact hall _ vl
  · intro hall y hy
    rw [same y hy]
    exact hall _ (hφ y hy).1
/-- the reference's loops over what it found -/
theorem m_comes89 {τ : jS} {A : Tb} {n W : Nat} {c0 : Nat} {L wh tg : Nat → Nat} {x2 x3 : Int32} {r : Int32 × jS} (hM : WM τ) (eA : mn τ = A) (hS : MS A 0 c0 n W n L wh tg τ) (hr : f_X11_comes_J157 τ x2 x3 (bI (bex n fun l => stN A (L l) == 2)) (nI (bm (fun p => bex n fun l => holP A (L l) p) 16)) = some r) : f_X11_comes_J80 τ x2 x3 = some r := by
  have n6 := hS.2.2.2.2.2.2.2.2.2
  unfold f_X11_comes_J80
  refine jloop_0 (fun i => (bI (bex i fun l => stN A (L l) == 2), nI (bm (fun p => bex i fun l => holP A (L l) p) 16), nI i, τ)) n ?_ (jfuel_big (by omega)) ?_ ?_
  · show ((0 : Int32), nI (bm (fun _ => false) 16), nI 0, τ) = _
    rw [nbm0 fun _ => rfl]; rfl
  · show f_X11_comes_B89 τ x2 x3 (bI (bex n fun l => stN A (L l) == 2)) (nI (bm (fun p => bex n fun l => holP A (L l) p) 16)) (nI n) = _
    unfold f_X11_comes_B89
    rw [hS.1.1, if_pos (Int32.le_refl _), hr, jw_e]
  · intro i hi
    have oc := (hS.2.1 i hi).1
    have o16 := cOne_lt oc.1
    have t16 := cTwo_lt (L i)
    have ji : jin (nI i) 147968 = true := jin_nI (by omega) (by omega)
    have st3 := st_lt3 A (L i)
    show f_X11_comes_B89 τ x2 x3 (bI (bex i fun l => stN A (L l) == 2)) (nI (bm (fun p => bex i fun l => holP A (L l) p) 16)) (nI i) = some (.inl (bI (bex (i + 1) fun l => stN A (L l) == 2), nI (bm (fun p => bex (i + 1) fun l => holP A (L l) p) 16), nI (i + 1), τ))
    have J : ∀ y, f_X11_comes_J119 τ x2 x3 (nI (bm (fun p => bex i fun l => holP A (L l) p) 16)) (nI i) y = some (.inl (y, nI (bm (fun p => bex (i + 1) fun l => holP A (L l) p) 16), nI (i + 1), τ)) := fun y => by
      unfold f_X11_comes_J119
      rw [bG_t ji, ix_nI (by omega), (hS.2.1 i hi).2.1, m_one oc.1, bC_e, bG_t ji, m_two oc.1, bC_e, hol_bits o16 t16, bV_e, bV_e, nI_1]
      refine congrArg (fun v => some (Sum.inl (y, nI v, nI (i + 1), τ))) (bm_cong fun k _ => ?_)
      rw [bex_succ]
      unfold holP
      rfl
    unfold f_X11_comes_B89
    rw [hS.1.1, if_neg (nI_ge hi (by omega)), bG_t ji, ix_nI (by omega), (hS.2.1 i hi).2.1, m_stateOf hM.1 hM.2.1 hM.2.2.2.2.1 oc.1 (ow_now hM.1 hM.2.2.2.1 hM.2.2.2.2.2.2 oc.1), stG_owes, bC_e, eA, J, J, bex_succ]
    by_cases z : stN A (L i) = 2
    · rw [if_pos (show nI _ = 2 from congrArg nI z), z, beq_self_eq_true, Bool.or_true]; rfl
    · rw [if_neg (show ¬ nI (stN A (L i)) = 2 from fun e => z ((nI_eq (b := 2) (by omega) (by decide)).mp e)), beq_eq_false_iff_ne.mpr z, Bool.or_false]
theorem m_comes48 {τ : jS} {x2 : Int32} {p : Nat → Bool} {r : Int32 × jS} (h : ∀ e, e < 1600 → gI τ 26 e = bI (p e)) (hr : f_X11_comes_J80 τ x2 (nI (fa_cnt p 1600)) = some r) : jloop jFuel (fun s => f_X11_comes_B48 s.2.2 x2 s.1 s.2.1) (0, 0, τ) = some r := by
  refine jloop_0 (fun i => (nI (fa_cnt p i), nI i, τ)) 1600 rfl (jfuel_big (by omega)) ?_ ?_
  · show f_X11_comes_B48 τ x2 (nI (fa_cnt p 1600)) (nI 1600) = _
    unfold f_X11_comes_B48
    rw [if_pos (show (1600 : Int32) ≤ nI 1600 from Int32.le_refl _), hr, jw_e]
  · intro i hi
    show f_X11_comes_B48 τ x2 (nI (fa_cnt p i)) (nI i) = some (.inl (nI (fa_cnt p (i + 1)), nI (i + 1), τ))
    unfold f_X11_comes_B48 f_X11_comes_J72
    rw [if_neg (show ¬ (1600 : Int32) ≤ nI i from nI_ge (b := 1600) hi (by decide)), bG_t (jin_nI (by omega) (by omega)), ix_nI (by omega), h i hi]
    cases hp : p i with
    | false => rw [if_pos (show bI false = 0 by decide), bV_e, bV_e, nI_1, fa_cnt_no hp, Int32.add_zero]
    | true => rw [if_neg (show ¬ bI true = 0 by decide), bV_e, bV_e, nI_1, nI_1, fa_cnt_yes hp]
theorem r_comes (k : Nat) (σ τ : jS) (a b : Int32) (hk : k < 2048) (h : Rel k σ τ) : ∃ r σ2 τ2, f_X10_comes σ a b = some (r, σ2) ∧ f_X11_comes τ a b = some (r, τ2) ∧ Rel (k + 4) σ2 τ2 := by
  have h0 := h
  obtain ⟨rs, sx, sm⟩ := h
  obtain ⟨hM, hX, hH, hS, _⟩ := id rs
  unfold f_X10_comes f_X11_comes f_X10_comes_J21
  rw [show f_X11_in b.toInt64 0 4 = _ from in_wide b 0 4]
  rcases is_both (x_isQuarrel hX.1 hM.1.2.2.2.1.2 a) (m_isQuarrel hM.1 a) with ⟨q, h1, rfl, h2, h3⟩ | ⟨h2, h3⟩
  case inr =>
    rw [h2, h3]
    exact ⟨_, _, _, rfl, rfl, r_mono k _ _ h0⟩
  have q4 : q < 4 := by have := hM.1.2.2.2.1.2; omega
  rw [h2, h3, bC_e, bC_e, if_neg (show ¬ (1 : Int32) = 0 by decide), if_neg (show ¬ (1 : Int32) = 0 by decide), bC_e]
  by_cases b0 : b < 0
  · rw [if_pos b0, if_pos b0, if_pos rfl]
    exact ⟨_, _, _, rfl, rfl, r_mono k _ _ h0⟩
  rw [if_neg b0, if_neg b0]
  by_cases b4 : 4 < b
  · rw [if_neg (Int32.not_le.mpr b4), if_pos b4, if_pos rfl]
    exact ⟨_, _, _, rfl, rfl, r_mono k _ _ h0⟩
  rw [if_pos (Int32.not_lt.mp b4), if_neg b4, if_neg (show ¬ (1 : Int32) = 0 by decide), bG_t (jin_nI q4 (by omega))]
  obtain ⟨x, e1, ok, h9, e4⟩ := hH q h1
  have w := wA_of hM.1 hM.2.2.1
  obtain ⟨hw, hf⟩ := hX.2.2.2 (tQ_tP hM (by omega))
  obtain ⟨nd, n, m, L, Q, lm, W, LM, wh, tg, σ', τ', a1, a2, a3, a4, b1, b2, b3, t1, t2⟩ := q_spread h0 (by omega) h1 ok (sc := 1) (by decide)
  have a1' : f_X0_solve σ (nI x) (-1) 1 = some (rI0 (nd x), σ') := a1
  have hM1 := mS_W (kfr_mS b3) hM
  obtain ⟨τ2, c1, c2, c3⟩ := m_findEnds hM1.1 hM1.2 b2
  have k2 := kfr_tr b3 (e26 c2)
  have S2 : MS (mn τ) 0 (cv (mn τ) x) n W n LM wh tg τ2 := MS_s c2 rfl b2
  have hM2 := mS_W (kfr_mS k2) hM
  obtain ⟨ndM, rd, τ3, d1, d2, d3, d4, d5⟩ := m_goesRound S2 (ways_few w S2)
  have k3 := kfr_tr k2 (sfr_k d5)
  have n6 := a2.1.1
  have okX : ∀ j, j < n → okx (mn τ) (L j) := fun j hj => (a2.2.1 j hj).1
  have row : ∀ a, a < 16 → gI σ' 16 a = nI (bm (fun b => endE (mn τ) n LM (100 * a + b)) 16) := fun a ha => by
    rw [a2.2.2.2.2.2.2.2.2.1 a ha, endE_x w okX t1 t2]
  have ends := x_endsFound row (fun a => endE_row)
  have hold := x_holdersFound w (gfr_W a3 hw) n6 a2.1.2.1 a2.2.1
  have stand := a2.2.2.2.2.2.2.2.2.2.1
  have e2 : bex n (fun l => stN (mn τ) (cv (mn τ) (L l)) == 2) = bex n (fun l => stN (mn τ) (LM l) == 2) := same_bex t1 t2 (fun c => stN (mn τ) c == 2)
  have e3 : bm (fun p => bex n fun l => holP (mn τ) (cv (mn τ) (L l)) p) 16 = bm (fun p => bex n fun l => holP (mn τ) (LM l) p) 16 := bm_cong fun p _ => same_bex t1 t2 (fun c => holP (mn τ) c p)
  have RX : ∀ τ3, kfr τ τ3 → MS (mn τ) 0 (cv (mn τ) x) n W n LM wh tg τ3 → Rel (k + 4) σ' τ3 := fun τ3 k3 S3 => r_mono k _ _ ⟨RS_scratch (gfr_x a3) k3 rs, a4, MS_sM S3 k3 sm⟩
  rw [at30 q4, bC_e, e1, a1', bD_e, ix_nI (by omega), h9, b1, bD_e, c1, bD_e]
  have M : ∀ r, f_X11_comes_J157 τ2 b (nI (fa_cnt (endE (mn τ) n LM) 1600)) (bI (bex n fun l => stN (mn τ) (LM l) == 2)) (nI (bm (fun p => bex n fun l => holP (mn τ) (LM l) p) 16)) = some r → jloop jFuel (fun s => f_X11_comes_B48 s.2.2 b s.1 s.2.1) (0, 0, τ2) = some r := fun r hr => m_comes48 c3 (m_comes89 hM2.1 hM2.2 S2 hr)
  unfold f_X10_comes_J107 f_X10_comes_J130
  by_cases z0 : b = 0
  · subst z0
    rw [M (nI n, τ2) (by unfold f_X11_comes_J157 f_X11_comes_J209; rw [if_pos rfl, S2.1.1]), if_pos rfl, a2.1.2.1]
    exact ⟨_, _, _, rfl, rfl, RX _ k2 S2⟩
  by_cases z1 : b = 1
  · subst z1
    rw [M (nI (fa_cnt (endE (mn τ) n LM) 1600), τ2) (by unfold f_X11_comes_J157 f_X11_comes_J209; rw [if_neg z0, if_pos rfl]), if_neg z0, if_pos rfl, ends, bC_e]
    exact ⟨_, _, _, rfl, rfl, RX _ k2 S2⟩
  by_cases z2 : b = 2
  · subst z2
    rw [M (bI (bex n fun l => stN (mn τ) (LM l) == 2), τ2) (by unfold f_X11_comes_J157 f_X11_comes_J209; rw [if_neg z0, if_neg z1, if_pos rfl]), if_neg z0, if_neg z1, if_pos rfl, stand, e2]
    cases bex n (fun l => stN (mn τ) (LM l) == 2) with
    | true => exact ⟨1, _, _, rfl, rfl, RX _ k2 S2⟩
    | false => exact ⟨0, _, _, rfl, rfl, RX _ k2 S2⟩
  by_cases z3 : b = 3
  · subst z3
    have S3 : MS (mn τ) 0 (cv (mn τ) x) n W n LM wh tg τ3 := MS_s d5 rfl S2
    rw [M (rd, τ3) (by
      unfold f_X11_comes_J157 f_X11_comes_J209
      rw [if_neg z0, if_neg z1, if_neg z2, if_pos rfl, d1, bD_e]
      rcases d3 with rfl | rfl
      · rw [if_pos rfl]
      · rw [if_neg (show ¬ (1 : Int32) = 0 by decide)]), if_neg z0, if_neg z1, if_neg z2, if_pos rfl, a2.1.2.1, a2.1.2.2.1]
    have r2 := q_round w a2 S2 t1 t2 d2
    have m6 := a2.1.2.2.2.2.2
    by_cases y : n ≤ m
    · rw [if_pos (nI_le y (by omega)), d4.mpr (r2.mp y)]
      exact ⟨_, _, _, rfl, rfl, RX _ k3 S3⟩
    · rw [if_neg (nI_ge (by omega) (by omega))]
      rcases d3 with rfl | rfl
      · exact absurd (r2.mpr (d4.mp rfl)) y
      · exact ⟨_, _, _, rfl, rfl, RX _ k3 S3⟩
  · rw [M (nI (bm (fun p => bex n fun l => holP (mn τ) (LM l) p) 16), τ2) (by unfold f_X11_comes_J157 f_X11_comes_J209; rw [if_neg z0, if_neg z1, if_neg z2, if_neg z3]), if_neg z0, if_neg z1, if_neg z2, if_neg z3, hold, bC_e, e3]
    exact ⟨_, _, _, rfl, rfl, RX _ k2 S2⟩
/-! end -/
theorem m_end_no {τ : jS} {x2 : Int32} {p : Nat → Bool} (h : ∀ e, e < 1600 → gI τ 26 e = bI (p e)) (hx : ∀ k, k < fa_cnt p 1600 → x2 ≠ nI k) : jloop jFuel (fun s => f_X11_end_B32 s.2.2 x2 s.1 s.2.1) (0, 0, τ) = some (-1, τ) := by
  refine jloop_0 (fun i => (nI (fa_cnt p i), nI i, τ)) 1600 rfl (jfuel_big (by omega)) ?_ ?_
  · show f_X11_end_B32 τ x2 (nI (fa_cnt p 1600)) (nI 1600) = _
    unfold f_X11_end_B32 f_X11_end_J67
    rw [if_pos (show (1600 : Int32) ≤ nI 1600 from Int32.le_refl _), jw_e]
  · intro i hi
    show f_X11_end_B32 τ x2 (nI (fa_cnt p i)) (nI i) = some (.inl (nI (fa_cnt p (i + 1)), nI (i + 1), τ))
    unfold f_X11_end_B32 f_X11_end_J61
    rw [if_neg (show ¬ (1600 : Int32) ≤ nI i from nI_ge (b := 1600) hi (by decide)), bG_t (jin_nI (by omega) (by omega)), ix_nI (by omega), h i hi]
    cases hp : p i with
    | false => rw [if_pos (show bI false = 0 by decide), bV_e, nI_1, fa_cnt_no hp]
    | true =>
      have := cnt_mono p (a := i + 1) (b := 1600) (by omega)
      rw [fa_cnt_yes hp] at this
      rw [if_neg (show ¬ bI true = 0 by decide), if_neg (fun e => hx _ (by omega) e.symm), bV_e, bV_e, nI_1, nI_1, fa_cnt_yes hp]
theorem m_end_at {τ : jS} {p : Nat → Bool} (h : ∀ e, e < 1600 → gI τ 26 e = bI (p e)) {e : Nat} (he : e < 1600) (hp : p e = true) : jloop jFuel (fun s => f_X11_end_B32 s.2.2 (nI (fa_cnt p e)) s.1 s.2.1) (0, 0, τ) = some (nI e, τ) := by
  have ce := fa_cnt_le p e
  refine jloop_0 (fun i => (nI (fa_cnt p i), nI i, τ)) e rfl (jfuel_big (by omega)) ?_ ?_
  · show f_X11_end_B32 τ (nI (fa_cnt p e)) (nI (fa_cnt p e)) (nI e) = _
    unfold f_X11_end_B32 f_X11_end_J55
    rw [if_neg (show ¬ (1600 : Int32) ≤ nI e from nI_ge (b := 1600) he (by decide)), bG_t (jin_nI (by omega) (by omega)), ix_nI (by omega), h e he, hp, if_neg (show ¬ bI true = 0 by decide), if_pos rfl, jw_e]
  · intro i hi
    have ci := fa_cnt_le p i
    show f_X11_end_B32 τ (nI (fa_cnt p e)) (nI (fa_cnt p i)) (nI i) = some (.inl (nI (fa_cnt p (i + 1)), nI (i + 1), τ))
    unfold f_X11_end_B32 f_X11_end_J61
    rw [if_neg (show ¬ (1600 : Int32) ≤ nI i from nI_ge (b := 1600) (by omega) (by decide)), bG_t (jin_nI (by omega) (by omega)), ix_nI (by omega), h i (by omega)]
    cases hq : p i with
    | false => rw [if_pos (show bI false = 0 by decide), bV_e, nI_1, fa_cnt_no hq]
    | true =>
      have := cnt_mono p (a := i + 1) (b := e) (by omega)
      rw [fa_cnt_yes hq] at this
      rw [if_neg (show ¬ bI true = 0 by decide), if_neg (fun z => by have := (nI_eq (by omega) (by omega)).mp z; omega), bV_e, bV_e, nI_1, nI_1, fa_cnt_yes hq]
theorem r_end (k : Nat) (σ τ : jS) (a b : Int32) (hk : k < 2048) (h : Rel k σ τ) : ∃ r σ2 τ2, f_X10_end σ a b = some (r, σ2) ∧ f_X11_end τ a b = some (r, τ2) ∧ Rel (k + 4) σ2 τ2 := by
  have h0 := h
  obtain ⟨rs, sx, sm⟩ := h
  obtain ⟨hM, hX, hH, hS, _⟩ := id rs
  unfold f_X10_end f_X11_end
  rcases is_both (x_isQuarrel hX.1 hM.1.2.2.2.1.2 a) (m_isQuarrel hM.1 a) with ⟨q, h1, rfl, h2, h3⟩ | ⟨h2, h3⟩
  case inr =>
    rw [h2, h3]
    exact ⟨_, _, _, rfl, rfl, r_mono k _ _ h0⟩
  have q4 : q < 4 := by have := hM.1.2.2.2.1.2; omega
  rw [h2, h3, bC_e, bC_e, if_neg (show ¬ (1 : Int32) = 0 by decide), if_neg (show ¬ (1 : Int32) = 0 by decide), bG_t (jin_nI q4 (by omega))]
  obtain ⟨x, e1, ok, h9, e4⟩ := hH q h1
  have w := wA_of hM.1 hM.2.2.1
  obtain ⟨hw, hf⟩ := hX.2.2.2 (tQ_tP hM (by omega))
  obtain ⟨nd, n, m, L, Q, lm, W, LM, wh, tg, σ', τ', a1, a2, a3, a4, b1, b2, b3, t1, t2⟩ := q_spread h0 (by omega) h1 ok (sc := 0) (by decide)
  have a1' : f_X0_solve σ (nI x) (-1) 0 = some (rI0 (nd x), σ') := a1
  have hM1 := mS_W (kfr_mS b3) hM
  obtain ⟨τ2, c1, c2, c3⟩ := m_findEnds hM1.1 hM1.2 b2
  have k2 := kfr_tr b3 (e26 c2)
  have S2 : MS (mn τ) 0 (cv (mn τ) x) n W n LM wh tg τ2 := MS_s c2 rfl b2
  have okX : ∀ j, j < n → okx (mn τ) (L j) := fun j hj => (a2.2.1 j hj).1
  have row : ∀ a, a < 16 → gI σ' 16 a = nI (bm (fun b => endE (mn τ) n LM (100 * a + b)) 16) := fun a ha => by
    rw [a2.2.2.2.2.2.2.2.2.1 a ha, endE_x w okX t1 t2]
  have RX : Rel (k + 4) σ' τ2 := r_mono k _ _ ⟨RS_scratch (gfr_x a3) k2 rs, a4, MS_sM S2 k2 sm⟩
  rw [at30 q4, bC_e, e1, a1', bD_e, ix_nI (by omega), h9, b1, bD_e, c1, bD_e]
  by_cases z : ∃ j, j < fa_cnt (endE (mn τ) n LM) 1600 ∧ b = nI j
  · obtain ⟨j, j1, rfl⟩ := z
    obtain ⟨e, f1, f2, f3⟩ := nth_ex (endE (mn τ) n LM) 1600 j j1
    subst f3
    rw [x_endAt_at row (fun a => endE_row) f1 f2 (endE_16 f2), bC_e, m_end_at c3 f1 f2]
    exact ⟨_, _, _, rfl, rfl, RX⟩
  · have hno : ∀ j, j < fa_cnt (endE (mn τ) n LM) 1600 → b ≠ nI j := fun j hj e => z ⟨j, hj, e⟩
    rw [x_endAt_no row (fun a => endE_row) hno, bC_e, m_end_no c3 hno]
    exact ⟨_, _, _, rfl, rfl, RX⟩
