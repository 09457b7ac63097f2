/-! both find the same states, and the same ends -/
theorem spr_0 {A : Tb} {c : Nat} (h : spr A 0 c = true) : ended A c = false := by
  unfold spr at h
  rw [Bool.and_eq_true] at h
  cases he : ended A c with
  | false => rfl
  | true =>
    have := h.2
    rw [he] at this
    cases this
theorem to_class {A : Tb} {n W nX : Nat} {L wh tg LX : Nat → Nat} {τ : jS} (w : wA A) (hS : MS A 0 (cv A (LX 0)) n W n L wh tg τ) (h0 : 0 < nX) (hX : ∀ j, j < nX → okx A (LX j)) (cl : ∀ x y, vL nX LX x → scX A x y = true → vL nX LX y) : ∀ j, j < n → ∃ l, l < nX ∧ L j = cv A (LX l) := by
  intro j
  induction j using Nat.strongRecOn with
  | ind j ih =>
    intro hj
    rcases Nat.eq_zero_or_pos j with z | z
    · subst z; exact ⟨0, h0, hS.1.2.2.2⟩
    · obtain ⟨l, l1, l2⟩ := hS.2.2.2.2.2.2.2.2.1 j z hj
      obtain ⟨u, u1, u2⟩ := ih l l1 (by omega)
      have he := spr_0 (scM_iff.mp l2).1
      rw [u2] at l2 he
      obtain ⟨y, y1, y2⟩ := scM_scX w (hX u u1) he l2
      obtain ⟨v, v1, v2⟩ := cl _ _ ⟨u, u1, rfl⟩ y1
      exact ⟨v, v1, by rw [v2, y2]⟩
theorem same_n {A : Tb} {n nX : Nat} {L LX : Nat → Nat} (w : wA A) (hX : ∀ j, j < nX → okx A (LX j)) (iX : ∀ j l, j < nX → l < nX → LX j = LX l → j = l) (iM : ∀ j l, j < n → l < n → L j = L l → j = l) (h1 : ∀ l, l < nX → ∃ j, j < n ∧ L j = cv A (LX l)) (h2 : ∀ j, j < n → ∃ l, l < nX ∧ L j = cv A (LX l)) : nX = n := by
  have a1 : ∀ l, ∃ j, l < nX → j < n ∧ L j = cv A (LX l) := fun l => by
    by_cases z : l < nX
    · obtain ⟨j, hj⟩ := h1 l z; exact ⟨j, fun _ => hj⟩
    · exact ⟨0, fun q => absurd q z⟩
  have a2 : ∀ j, ∃ l, j < n → l < nX ∧ L j = cv A (LX l) := fun j => by
    by_cases z : j < n
    · obtain ⟨l, hl⟩ := h2 j z; exact ⟨l, fun _ => hl⟩
    · exact ⟨0, fun q => absurd q z⟩
  have b1 : nX ≤ n := pigeon n nX (fun l => Classical.choose (a1 l)) (fun l hl => (Classical.choose_spec (a1 l) hl).1) (fun l m hl hm e => by
    have e1 := (Classical.choose_spec (a1 l) hl).2
    have e2 := (Classical.choose_spec (a1 m) hm).2
    have e3 : Classical.choose (a1 l) = Classical.choose (a1 m) := e
    rw [e3] at e1
    exact iX l m hl hm (cv_inj w (hX l hl) (hX m hm) (e1.symm.trans e2)))
  have b2 : n ≤ nX := pigeon nX n (fun l => Classical.choose (a2 l)) (fun l hl => (Classical.choose_spec (a2 l) hl).1) (fun l m hl hm e => by
    have e1 := (Classical.choose_spec (a2 l) hl).2
    have e2 := (Classical.choose_spec (a2 m) hm).2
    have e3 : Classical.choose (a2 l) = Classical.choose (a2 m) := e
    rw [e3] at e1
    exact iM l m hl hm (e1.trans e2.symm))
  omega
theorem same_bex {A : Tb} {n nX : Nat} {L LX : Nat → Nat} (h1 : ∀ l, l < nX → ∃ j, j < n ∧ L j = cv A (LX l)) (h2 : ∀ j, j < n → ∃ l, l < nX ∧ L j = cv A (LX l)) (P : Nat → Bool) : bex nX (fun l => P (cv A (LX l))) = bex n (fun j => P (L j)) := by
  apply bool_iff
  rw [bex_iff, bex_iff]
  constructor
  · rintro ⟨l, l1, l2⟩
    obtain ⟨j, j1, j2⟩ := h1 l l1
    exact ⟨j, j1, by rw [j2]; exact l2⟩
  · rintro ⟨l, l1, l2⟩
    obtain ⟨j, j1, j2⟩ := h2 l l1
    exact ⟨j, j1, by rw [← j2]; exact l2⟩
/-- an end told as one number -/
def endE (A : Tb) (n : Nat) (L : Nat → Nat) (e : Nat) : Bool := bex n fun j => ended A (L j) && 100 * cOne (L j) + cTwo (L j) == e
theorem endE_x {A : Tb} {n nX : Nat} {L LX : Nat → Nat} (w : wA A) (hX : ∀ j, j < nX → okx A (LX j)) (h1 : ∀ l, l < nX → ∃ j, j < n ∧ L j = cv A (LX l)) (h2 : ∀ j, j < n → ∃ l, l < nX ∧ L j = cv A (LX l)) {a : Nat} : bm (fun b => bex nX fun l => ended A (cv A (LX l)) && (hs A (x0 (LX l)) == a && hs A (x1 (LX l)) == b)) 16 = bm (fun b => endE A n L (100 * a + b)) 16 := by
  refine bm_cong fun b hb => ?_
  unfold endE
  rw [← same_bex h1 h2 (fun c => ended A c && 100 * cOne c + cTwo c == 100 * a + b)]
  refine bex_cong fun l hl => ?_
  have ok := hX l hl
  rw [cv_one w ok, cv_two w ok]
  have t2 := hs_lt w ok.2.2.1
  congr 1
  apply bool_iff
  rw [Bool.and_eq_true, beq_iff_eq, beq_iff_eq, beq_iff_eq]
  omega
theorem cnt_tail {p : Nat → Bool} {n : Nat} : ∀ {m : Nat}, n ≤ m → (∀ k, n ≤ k → k < m → p k = false) → fa_cnt p m = fa_cnt p n
  | 0, h, _ => by
    have : n = 0 := by omega
    rw [this]
  | m + 1, h, hh => by
    by_cases z : n = m + 1
    · rw [z]
    · rw [fa_cnt_no (hh m (by omega) (by omega)), cnt_tail (m := m) (by omega) (fun k a b => hh k a (by omega))]
theorem endE_row {A : Tb} {n : Nat} {L : Nat → Nat} {a : Nat} : fa_cnt (endE A n L) (100 * (a + 1)) = fa_cnt (endE A n L) (100 * a) + fa_cnt (fun b => endE A n L (100 * a + b)) 16 := by
  rw [show 100 * (a + 1) = 100 * a + 100 by omega, fa_cnt_add]
  congr 1
  refine cnt_tail (by omega) fun k k1 k2 => ?_
  unfold endE
  refine bex_not.mpr fun j _ => ?_
  cases he : ended A (L j) with
  | false => rfl
  | true =>
    rw [Bool.true_and]
    have := cTwo_lt (L j)
    exact beq_eq_false_iff_ne.mpr (by omega)
theorem endE_16 {A : Tb} {n : Nat} {L : Nat → Nat} {e : Nat} (h : endE A n L e = true) : e % 100 < 16 := by
  unfold endE at h
  obtain ⟨j, j1, j2⟩ := bex_iff.mp h
  rw [Bool.and_eq_true, beq_iff_eq] at j2
  have := cTwo_lt (L j)
  omega
/-- the class counts the ends -/
theorem x_endsFound {σ : jS} {p : Nat → Bool} (h : ∀ a, a < 16 → gI σ 16 a = nI (bm (fun b => p (100 * a + b)) 16)) (hr : ∀ a, fa_cnt p (100 * (a + 1)) = fa_cnt p (100 * a) + fa_cnt (fun b => p (100 * a + b)) 16) : f_X0_endsFound σ = some (nI (fa_cnt p 1600)) := by
  unfold f_X0_endsFound
  refine jloop_0 (fun a => (nI (fa_cnt p (100 * a)), nI a)) 16 rfl (jfuel_big (by omega)) ?_ ?_
  · show f_X0_endsFound_B4 σ (nI (fa_cnt p 1600)) (nI 16) = _
    unfold f_X0_endsFound_B4 f_X0_endsFound_J30
    rw [if_pos (show (16 : Int32) ≤ nI 16 from Int32.le_refl _), jw_e]
  · intro a ha
    show f_X0_endsFound_B4 σ (nI (fa_cnt p (100 * a))) (nI a) = some (.inl (nI (fa_cnt p (100 * (a + 1))), nI (a + 1)))
    unfold f_X0_endsFound_B4
    rw [if_neg (show ¬ (16 : Int32) ≤ nI a from nI_ge (b := 16) ha (by decide)), at16 ha, bC_e, h a ha, bc_cnt, bC_e, bV_e, bV_e, nI_add, nI_1, hr]
theorem x_endAt_no {σ : jS} {p : Nat → Bool} (h : ∀ a, a < 16 → gI σ 16 a = nI (bm (fun b => p (100 * a + b)) 16)) (hr : ∀ a, fa_cnt p (100 * (a + 1)) = fa_cnt p (100 * a) + fa_cnt (fun b => p (100 * a + b)) 16) {x : Int32} (hx : ∀ k, k < fa_cnt p 1600 → x ≠ nI k) : f_X0_endAt σ x = some (-1) := by
  unfold f_X0_endAt
  by_cases z : x < 0
  · refine jloop_0 (fun _ => (x, 0)) 0 rfl (jfuel_big (by omega)) ?_ (fun i hi => absurd hi (Nat.not_lt_zero i))
    show f_X0_endAt_B4 σ x 0 = _
    unfold f_X0_endAt_B4 f_X0_endAt_J60
    rw [if_neg (show ¬ (16 : Int32) ≤ 0 by decide), if_pos z, jw_e]
  · obtain ⟨k, k1, rfl⟩ := nI_of z
    have kt : fa_cnt p 1600 ≤ k := by
      rcases Nat.lt_or_ge k (fa_cnt p 1600) with q | q
      · exact absurd rfl (hx k q)
      · exact q
    refine jloop_0 (fun a => (nI (k - fa_cnt p (100 * a)), nI a)) 16 rfl (jfuel_big (by omega)) ?_ ?_
    · show f_X0_endAt_B4 σ (nI (k - fa_cnt p 1600)) (nI 16) = _
      unfold f_X0_endAt_B4 f_X0_endAt_J60
      rw [if_pos (show (16 : Int32) ≤ nI 16 from Int32.le_refl _), jw_e]
    · intro a ha
      have m1 := cnt_mono p (a := 100 * (a + 1)) (b := 1600) (by omega)
      have c16 := fa_cnt_le (fun b => p (100 * a + b)) 16
      have hra := hr a
      show f_X0_endAt_B4 σ (nI (k - fa_cnt p (100 * a))) (nI a) = some (.inl (nI (k - fa_cnt p (100 * (a + 1))), nI (a + 1)))
      unfold f_X0_endAt_B4
      rw [if_neg (show ¬ (16 : Int32) ≤ nI a from nI_ge (b := 16) ha (by decide)), if_neg (nI_pos (by omega)), at16 ha, bC_e, h a ha, bc_cnt, bC_e, if_pos (nI_le (by omega) (by omega)), nI_sub (by omega), bV_e, nI_1, bV_e]
      refine congrArg (fun v => some (Sum.inl (nI v, nI (a + 1)))) ?_
      omega
theorem x_endAt_at {σ : jS} {p : Nat → Bool} (h : ∀ a, a < 16 → gI σ 16 a = nI (bm (fun b => p (100 * a + b)) 16)) (hr : ∀ a, fa_cnt p (100 * (a + 1)) = fa_cnt p (100 * a) + fa_cnt (fun b => p (100 * a + b)) 16) {e : Nat} (he : e < 1600) (hp : p e = true) (h16 : e % 100 < 16) : f_X0_endAt σ (nI (fa_cnt p e)) = some (nI e) := by
  have ce := fa_cnt_le p e
  have es : fa_cnt p e = fa_cnt p (100 * (e / 100)) + fa_cnt (fun b => p (100 * (e / 100) + b)) (e % 100) := by
    rw [← fa_cnt_add, Nat.div_add_mod]
  have hb : p (100 * (e / 100) + e % 100) = true := by rw [Nat.div_add_mod]; exact hp
  generalize ea : e / 100 = a at *
  generalize eb : e % 100 = b at *
  have eab : e = 100 * a + b := by omega
  have c16 := fa_cnt_le (fun b => p (100 * a + b)) 16
  have cb := cnt_mono (fun b => p (100 * a + b)) (a := b + 1) (b := 16) (by omega)
  rw [fa_cnt_yes (p := fun b => p (100 * a + b)) hb] at cb
  unfold f_X0_endAt
  refine jloop_0 (fun i => (nI (fa_cnt p e - fa_cnt p (100 * i)), nI i)) a (by rfl) (jfuel_big (by omega)) ?_ ?_
  · show f_X0_endAt_B4 σ (nI (fa_cnt p e - fa_cnt p (100 * a))) (nI a) = _
    unfold f_X0_endAt_B4 f_X0_endAt_J37
    rw [if_neg (show ¬ (16 : Int32) ≤ nI a from nI_ge (b := 16) (by omega) (by decide)), if_neg (nI_pos (by omega)), at16 (by omega), bC_e, h a (by omega), bc_cnt, bC_e, if_neg (nI_ge (by omega) (by omega)), es, Nat.add_sub_cancel_left, x_numbered (m := bm (fun b => p (100 * a + b)) 16) (k := b) (bm16 _) (by rw [bm_bit, hb, decide_eq_true h16]; rfl) (fa_cnt_cong fun k hk => by rw [bm_bit, decide_eq_true (show k < 16 by omega), Bool.true_and]) (by omega), bC_e, show (100 : Int32) = nI 100 from rfl, nI_mul, nI_add, jw_e, eab]
  · intro i hi
    have hri := hr i
    have m1 := cnt_mono p (a := 100 * (i + 1)) (b := e) (by omega)
    have ci := fa_cnt_le (fun b => p (100 * i + b)) 16
    show f_X0_endAt_B4 σ (nI (fa_cnt p e - fa_cnt p (100 * i))) (nI i) = some (.inl (nI (fa_cnt p e - fa_cnt p (100 * (i + 1))), nI (i + 1)))
    unfold f_X0_endAt_B4
    rw [if_neg (show ¬ (16 : Int32) ≤ nI i from nI_ge (b := 16) (by omega) (by decide)), if_neg (nI_pos (by omega)), at16 (by omega), bC_e, h i (by omega), bc_cnt, bC_e, if_pos (nI_le (by omega) (by omega)), nI_sub (by omega), bV_e, nI_1, bV_e]
    refine congrArg (fun v => some (Sum.inl (nI v, nI (i + 1)))) ?_
    omega
/-- the reference finds the ends -/
theorem m_findEnds {τ : jS} {A : Tb} {past c0 n W i : Nat} {L wh tg : Nat → Nat} (hM : WM τ) (eA : mn τ = A) (hS : MS A past c0 n W i L wh tg τ) : ∃ τ', f_X11_findEnds τ = some ((), τ') ∧ fr [26] τ τ' ∧ ∀ e, e < 1600 → gI τ' 26 e = bI (endE A n L e) := by
  have n6 := hS.2.2.2.2.2.2.2.2.2
  unfold f_X11_findEnds
  have key := jloop_ex (S := Int32 × jS) (O := Unit × jS) (f := fun s => f_X11_findEnds_B2 s.2 s.1) (fun i s => s.1 = nI i ∧ fr [26] τ s.2 ∧ ∀ e, e < i → gI s.2 26 e = 0) 1600 (fun o => fr [26] τ o.2 ∧ ∀ e, e < 1600 → gI o.2 26 e = bI (endE A n L e)) (s0 := (0, τ)) ⟨rfl, fr_rfl _ _, fun e he => absurd he (Nat.not_lt_zero e)⟩ (jfuel_big (by omega)) ?_ ?_
  · obtain ⟨o, o1, o2⟩ := key
    exact ⟨o.2, o1, o2⟩
  · rintro ⟨a, t⟩ ⟨rfl, f, hz⟩
    replace f : fr [26] τ t := f
    replace hz : ∀ e, e < 1600 → gI t 26 e = 0 := hz
    have run : f_X11_findEnds_B2 t (nI 1600) = jw (f_X11_findEnds_J22 t) := by
      unfold f_X11_findEnds_B2
      rw [if_pos (show (1600 : Int32) ≤ nI 1600 from Int32.le_refl _)]
    show ∃ o, f_X11_findEnds_B2 t (nI 1600) = _ ∧ _
    rw [run]
    unfold f_X11_findEnds_J22
    have key := jloop_ex (S := Int32 × jS) (O := Unit × jS) (f := fun s => f_X11_findEnds_B24 s.2 s.1) (fun i s => s.1 = nI i ∧ fr [26] τ s.2 ∧ ∀ e, e < 1600 → gI s.2 26 e = bI (endE A i L e)) n (fun o => fr [26] τ o.2 ∧ ∀ e, e < 1600 → gI o.2 26 e = bI (endE A n L e)) (s0 := (0, t)) ⟨rfl, f, fun e he => (hz e he).trans rfl⟩ (jfuel_big (by omega)) ?_ ?_
    · obtain ⟨o, o1, o2⟩ := key
      rw [o1]
      exact ⟨o, rfl, o2⟩
    · rintro ⟨a, s⟩ ⟨rfl, f2, hh⟩
      replace f2 : fr [26] τ s := f2
      refine ⟨((), s), ?_, f2, hh⟩
      show f_X11_findEnds_B24 s (nI n) = _
      unfold f_X11_findEnds_B24 f_X11_findEnds_J79
      rw [fr_I f2 (by decide), hS.1.1, if_pos (Int32.le_refl _), jw_e]
    · rintro j ⟨a, s⟩ hj ⟨rfl, f2, hh⟩
      replace f2 : fr [26] τ s := f2
      replace hh : ∀ e, e < 1600 → gI s 26 e = bI (endE A j L e) := hh
      have oc := (hS.2.1 j hj).1
      have o16 := cOne_lt oc.1
      have t16 := cTwo_lt (L j)
      have hMs := mS_W (kfr_mS (τ := τ) (τ' := s) (fun a i p _ => fr_I f2 (by unfold kH at p; simp at p ⊢; omega) i)) hM
      have ej : jin (nI j) 147968 = true := jin_nI (by omega) (by omega)
      have e19 : gI s 19 j = nI (L j) := (fr_I f2 (by decide) _).trans (hS.2.1 j hj).2.1
      refine Or.inl ?_
      show ∃ s', f_X11_findEnds_B24 s (nI j) = _ ∧ _
      unfold f_X11_findEnds_B24 f_X11_findEnds_J73
      rw [fr_I f2 (by decide), hS.1.1, if_neg (nI_ge hj (by omega)), bG_t ej, ix_nI (by omega), e19, m_isEnded hMs.1.1 hMs.1.2.2.2.2.1 oc.1, bC_e, hMs.2, eA]
      have step : ∀ e, endE A (j + 1) L e = (endE A j L e || (ended A (L j) && 100 * cOne (L j) + cTwo (L j) == e)) := fun e => bex_succ _ _
      cases he : ended A (L j) with
      | false =>
        rw [if_neg (show ¬ false = true by decide), if_pos rfl, bV_e, nI_1]
        refine ⟨_, rfl, rfl, f2, fun e he2 => ?_⟩
        rw [step, he, Bool.false_and, Bool.or_false]
        exact hh e he2
      | true =>
        rw [if_pos rfl, if_neg (show ¬ (1 : Int32) = 0 by decide), bG_t ej, m_one oc.1, bC_e, bG_t ej, m_two oc.1, bC_e, show (100 : Int32) = nI 100 from rfl, nI_mul, nI_add, bG_t (jin_nI (by omega) (by omega)), ix_nI (by omega), bV_e, bV_e, nI_1]
        refine ⟨_, rfl, rfl, fr_trans f2 (fr_sI _ _ _ (by decide)), fun e he2 => ?_⟩
        rw [step, he, Bool.true_and]
        show gI (sI s 26 (100 * cOne (L j) + cTwo (L j)) 1) 26 e = _
        by_cases z : e = 100 * cOne (L j) + cTwo (L j)
        · subst z
          rw [gI_sI, beq_self_eq_true, Bool.or_true]; rfl
        · rw [gI_nei z, hh e he2, beq_eq_false_iff_ne.mpr (fun q => z q.symm), Bool.or_false]
  · rintro i ⟨a, t⟩ hi ⟨rfl, f, hz⟩
    replace f : fr [26] τ t := f
    replace hz : ∀ e, e < i → gI t 26 e = 0 := hz
    refine Or.inl ?_
    show ∃ s', f_X11_findEnds_B2 t (nI i) = _ ∧ _
    unfold f_X11_findEnds_B2
    rw [if_neg (show ¬ (1600 : Int32) ≤ nI i from nI_ge (b := 1600) hi (by decide)), bG_t (jin_nI (by omega) (by omega)), ix_nI (by omega), bV_e, bV_e, nI_1]
    refine ⟨_, rfl, rfl, fr_trans f (fr_sI _ _ _ (by decide)), fun e he => ?_⟩
    show gI (sI t 26 i 0) 26 e = 0
    by_cases z : e = i
    · subst z; exact gI_sI _ _ _ _
    · rw [gI_nei z]; exact hz e (by omega)
