/-! judge -/
theorem behP_parts {c : Nat} (h : c < 147968) : cOne (behP c) = cOne c ∧ cTwo (behP c) = cTwo c ∧ cSide (behP c) = 1 - cSide c ∧ ∀ s, s < 2 → cFr (behP c) s = cFr c s := by
  unfold behP
  have h0 := cFr_lt c 0
  have h1 := cFr_lt c 1
  have h2 := cTwo_lt c
  have h3 : 1 - cSide c < 2 := by omega
  refine ⟨mkc_one h2 h3 h0 h1, mkc_two h2 h3 h0 h1, mkc_side h3 h0 h1, fun s hs => ?_⟩
  have : s = 0 ∨ s = 1 := by omega
  rcases this with rfl | rfl
  · exact mkc_fr0 h0 h1
  · exact mkc_fr1 h1
theorem behP_may {A : Tb} {c s : Nat} (h : c < 147968) (hs : s < 2) : mayP A (behP c) s = mayP A c s := by
  obtain ⟨a, b, d, e⟩ := behP_parts h
  funext q
  have hh : ∀ u, cHold (behP c) u = cHold c u := fun u => by unfold cHold; rw [a, b]
  unfold mayP
  rw [hh, hh, e s hs]
theorem behP_st {A : Tb} {c : Nat} (h : c < 147968) : stN A (behP c) = stN A c := by
  obtain ⟨a, b, d, e⟩ := behP_parts h
  have e1 : ended A (behP c) = ended A c := by unfold ended; rw [a, b]
  unfold stN mayS
  rw [e1, behP_may h (by decide), behP_may h (by decide)]
/-- the state that THE LOG's next handing is tried at -/
def atL (A : Tb) (x : Nat) : Nat := if bm (ows A x (x % 2)) 56 = 0 then flp x else x
theorem atL_ok {A : Tb} {x : Nat} (h : okx A x) : okx A (atL A x) := by
  unfold atL
  split
  · exact (flp_ok h).1
  · exact h
def logOk (A : Tb) (x f t : Nat) : Prop := stN A (cv A x) = 0 ∧ hs A (xs (atL A x) (atL A x % 2)) = f ∧ mayP A (cv A (atL A x)) (atL A x % 2) t = true
theorem atL_st {A : Tb} (w : wA A) {x : Nat} (h : okx A x) : stN A (cv A (atL A x)) = stN A (cv A x) := by
  unfold atL
  split
  · rw [flp_cv w h, behP_st (cv_lt w h)]
  · rfl
theorem x_afterLogged {σ : jS} {A : Tb} (w : wA A) (hW : xW σ A) (hF : xF σ A) {x f t : Nat} (h : okx A x) (hf : f < 16) (ht : t < 16) : (logOk A x f t ∧ ∃ y, okx A y ∧ cv A y = behQ A (cv A (atL A x)) t ∧ f_X0_afterLogged σ (nI x) (nI f) (nI t) = some (nI y)) ∨ (¬ logOk A x f t ∧ f_X0_afterLogged σ (nI x) (nI f) (nI t) = some (-1)) := by
  have ok := atL_ok h
  have hx63 := bm56 (ows A x (x % 2))
  have st3 : stN A (cv A x) ≤ 2 := by unfold stN; split; decide; split <;> decide
  unfold f_X0_afterLogged
  rw [x_howIs w hW hF h, bC_e]
  by_cases z : stN A (cv A x) = 0
  · have ne : ended A (cv A (atL A x)) = false := by
      have := atL_st w h
      rw [z] at this
      cases he : ended A (cv A (atL A x)) with
      | false => rfl
      | true => unfold stN at this; rw [he, if_pos rfl] at this; cases this
    have J : f_X0_afterLogged_J27 σ (nI f) (nI t) (nI (atL A x)) = (if nI (hs A (xs (atL A x) (atL A x % 2))) = nI f then (if mayP A (cv A (atL A x)) (atL A x % 2) t = true then (bC (f_X0_spotFor σ (nI (atL A x)) (nI t)) fun r5 => bC (f_X0_after (nI (atL A x)) r5) fun r6 => some r6) else some (-1)) else some (-1)) := by
      unfold f_X0_afterLogged_J27 f_X0_afterLogged_J56
      rw [and1, x_holder hW ok (by omega), bC_e, x_allowed w hW hF ok, bC_e, ne, if_neg (show ¬ false = true by decide), nI_bit (bm16 _) (by omega), bm_bit]
      congr 1
      cases mayP A (cv A (atL A x)) (atL A x % 2) t with
      | true => rw [if_neg (by simp [ht]), if_pos rfl]
      | false => rw [if_pos (by simp), if_neg (by decide)]
    have pre : (if (nI (stN A (cv A x)) : Int32) = 0 then (bC (f_X0_onwardOf σ (nI x)) fun r2 => if (lg_cmp r2 0) = 0 then (f_X0_afterLogged_J27 σ (nI f) (nI t) (nI x ^^^ (1 : Int32))) else (f_X0_afterLogged_J27 σ (nI f) (nI t) (nI x))) else (some (-1))) = f_X0_afterLogged_J27 σ (nI f) (nI t) (nI (atL A x)) := by
      rw [if_pos (show nI _ = 0 from congrArg nI z), x_onwardOf w hW h, bC_e]
      unfold atL
      by_cases y : bm (ows A x (x % 2)) 56 = 0
      · rw [if_pos ((lgc0 hx63).mpr y), if_pos y, show (1 : Int32) = nI 1 from rfl, fb_xorI, xor_flp h.1]
      · rw [if_neg (fun e => y ((lgc0 hx63).mp e)), if_neg y]
    rw [pre, J]
    have hh : hs A (xs (atL A x) (atL A x % 2)) < 16 := hs_lt w (okx_v ok)
    by_cases z1 : hs A (xs (atL A x) (atL A x % 2)) = f
    · rw [if_pos (congrArg nI z1)]
      cases hm : mayP A (cv A (atL A x)) (atL A x % 2) t with
      | true =>
        obtain ⟨d, d1, d2, d3, d4⟩ := x_spotFor w hW ok hm
        obtain ⟨a1, a2⟩ := afx_ok w ok d2
        refine Or.inl ⟨⟨z, z1, hm⟩, afx (atL A x) d, a1, by rw [a2, d3], ?_⟩
        rw [if_pos rfl, d4, bC_e, x_after ok.1, bC_e]
      | false =>
        exact Or.inr ⟨fun e => (by rw [e.2.2] at hm; cases hm), by rw [if_neg (show ¬ false = true by decide)]⟩
    · rw [if_neg (fun e => z1 ((nI_eq (by omega) (by omega)).mp e))]
      exact Or.inr ⟨fun e => z1 e.2.1, rfl⟩
  · rw [if_neg (fun e => z ((nI_eq0 (by omega)).mp e))]
    exact Or.inr ⟨fun e => z e.1, rfl⟩
theorem r_judge (k : Nat) (σ τ : jS) (a : Int32) (_hk : k < 2048) (h : Rel k σ τ) : ∃ r, f_X10_judge σ a = some r ∧ f_X11_judge τ a = some r := by
  obtain ⟨⟨hM, hX, hH, hS, hTT, hTx, hFl, hLg, hSe, hI⟩, sx, sm⟩ := h
  obtain ⟨hN, hS2, hTm, hO, hG, hQ, hu⟩ := hM
  have hM : WM τ := ⟨hN, hS2, hTm, hO, hG, hQ, hu⟩
  have w := wA_of hN hTm
  have hT := hX.1
  unfold f_X10_judge f_X11_judge f_X10_judge_J9
  rw [show (0 : Int64) = (0 : Int32).toInt64 from by decide, show (2 : Int64) = (2 : Int32).toInt64 from by decide, in_wide, bC_e]
  by_cases z1 : a < 0
  · rw [if_pos z1, if_pos z1, if_pos rfl]; exact ⟨_, rfl, rfl⟩
  rw [if_neg z1, if_neg z1]
  by_cases z2 : a ≤ 2
  rotate_left
  · rw [if_neg z2, if_pos (Int32.not_le.mp z2), if_pos rfl]; exact ⟨_, rfl, rfl⟩
  rw [if_pos z2, if_neg (Int32.not_lt.mpr z2), if_neg (show ¬ (1 : Int32) = 0 by decide), bV_e, bH_t (T_in hT.1), hT.2.2.2.1, hN.2.2.2.1.1]
  have hQ4 := hN.2.2.2.1.2
  by_cases z3 : tQ (mn τ) = 0
  · rw [if_pos (show nI _ = 0 from congrArg nI z3), if_pos (show nI _ = 0 from congrArg nI z3)]; exact ⟨_, rfl, rfl⟩
  have hq0 : 0 < tQ (mn τ) := by omega
  obtain ⟨hw, hf⟩ := hX.2.2.2 (tQ_tP hM z3)
  obtain ⟨_, _, e7, e8, e9⟩ := hQ 0 hq0
  obtain ⟨t1, t2⟩ := tdx_ok (A := mn τ) (q := 0) hN.1.2 e7 e8 e9
  rw [if_neg (fun e => z3 ((nI_eq0 (by omega)).mp e)), if_neg (fun e => z3 ((nI_eq0 (by omega)).mp e)), show f_X10_toldHow σ 0 = some (nI (tdx (mn τ) 0)) from x_told hT hq0 (by decide), show f_X11_toldCode τ 0 = some _ from m_told hQ hq0 (by decide), bC_e, bC_e, ← t2]
  obtain ⟨n, l1, l2, l3, l4⟩ := hLg
  have hP16 := hN.1.2
  have key := jloop_both (f := fun s => f_X10_judge_B38 σ a s.1 s.2.1 s.2.2) (g := fun s => f_X11_judge_B38 τ a s.1 s.2.1 s.2.2) (fun m (s t : Int32 × Int32 × Int32) => ∃ i x, i ≤ n ∧ m = n - i ∧ okx (mn τ) x ∧ s.1 = nI x ∧ t.1 = nI (cv (mn τ) x) ∧ s.2.1 = t.2.1 ∧ (s.2.1 = -1 ∨ ∃ j, j < 40 ∧ s.2.1 = nI j) ∧ s.2.2 = nI i ∧ t.2.2 = nI i) (fun (o o' : Int32) => o = o') ?_ jFuel n (nI (tdx (mn τ) 0), -1, 0) (nI (cv (mn τ) (tdx (mn τ) 0)), -1, 0) ⟨0, _, Nat.zero_le _, rfl, t1, rfl, rfl, rfl, Or.inl rfl, rfl, rfl⟩ (jfuel_big (by omega))
  · obtain ⟨o, o', a1, a2, a3⟩ := key
    exact ⟨o, a1, by rw [a2, a3]⟩
  · rintro m ⟨sa, sw, si⟩ ⟨ta, tw, ti⟩ ⟨i, x, i1, i2, ok, rfl, rfl, rfl, hwr, rfl, rfl⟩
    replace hwr : sw = -1 ∨ ∃ j, j < 40 ∧ sw = nI j := hwr
    have hc := cv_lt w ok
    obtain ⟨b1, b2, b3⟩ := q_state hM hX (tQ_tP hM z3) ok
    have out : ∃ o, f_X10_judge_J110 σ a (nI x) sw = some o ∧ f_X11_judge_J177 τ a (nI (cv (mn τ) x)) sw = some o := by
      unfold f_X10_judge_J110 f_X11_judge_J177 f_X10_judge_J154 f_X11_judge_J210
      by_cases y0 : a = 0
      · rw [if_pos y0, if_pos y0]; exact ⟨_, rfl, rfl⟩
      rw [if_neg y0, if_neg y0]
      by_cases y1 : a = 1
      · have hh0 := x_holder hw ok (s := 0) (by decide)
        have hh1 := x_holder hw ok (s := 1) (by decide)
        rw [← cv_hold w ok (by decide)] at hh0 hh1
        rw [if_pos y1, if_pos y1, show f_X0_holder σ (nI x) 0 = _ from hh0, show f_X0_holder σ (nI x) 1 = _ from hh1, m_one hc, m_two hc, bC_e, bC_e]
        exact ⟨_, rfl, rfl⟩
      rw [if_neg y1, if_neg y1, b1, b2, bC_e]
      exact ⟨_, rfl, rfl⟩
    obtain ⟨o, o1, o2⟩ := out
    show (∃ s' t' n', f_X10_judge_B38 σ a (nI x) sw (nI i) = _ ∧ f_X11_judge_B38 τ a (nI (cv (mn τ) x)) sw (nI i) = _ ∧ _) ∨ (∃ o o', f_X10_judge_B38 σ a (nI x) sw (nI i) = _ ∧ f_X11_judge_B38 τ a (nI (cv (mn τ) x)) sw (nI i) = _ ∧ _)
    unfold f_X10_judge_B38 f_X11_judge_B38
    rw [l2, l3, o1, o2, jw_e]
    rcases Nat.lt_or_ge i n with y | y
    rotate_left
    · rw [if_pos (nI_le y (by omega)), if_pos (nI_le y (by omega))]
      exact Or.inr ⟨o, o, rfl, rfl, rfl⟩
    rw [if_neg (nI_ge y (by omega)), if_neg (nI_ge y (by omega))]
    rcases hwr with rfl | ⟨j, j1, rfl⟩
    rotate_left
    · rw [if_neg (show ¬ nI j = -1 from fun q => nI_pos (n := j) (by omega) (by rw [q]; decide)), if_pos (nI_pos' (by omega))]
      exact Or.inr ⟨o, o, rfl, rfl, rfl⟩
    rw [if_pos rfl, if_neg (show ¬ (0 : Int32) ≤ -1 by decide)]
    obtain ⟨f, t, f1, f2, f3, f4, f5, f6⟩ := l4 i y
    have j40 : jin (nI i) 40 = true := jin_nI (by omega) (by omega)
    have hi40 : i < 40 := by omega
    have em : ∀ c, c < 147968 → f_X11_mayNow τ (nI c) = some (nI (nowG (mn τ) (owes (mn τ)) c)) := fun c hc => m_mayNow hN hS2 hG hc (ow_now hN hO hu hc)
    have es : ∀ c, c < 147968 → f_X11_stateOf τ (nI c) = some (nI (stN (mn τ) c)) := fun c hc => by rw [m_stateOf hN hS2 hG hc (ow_now hN hO hu hc), stG_owes]
    have ok2 := atL_ok ok
    have hc2 := cv_lt w ok2
    have st2 := atL_st w ok
    have dl : Decidable (logOk (mn τ) x f t) := Classical.propDecidable _
    have e81 : f_X11_judge_J81 τ a (nI (cv (mn τ) x)) (nI i) (nI (cv (mn τ) (atL (mn τ) x))) = some (Sum.inl (if logOk (mn τ) x f t then (nI (behQ (mn τ) (cv (mn τ) (atL (mn τ) x)) t), -1, nI (i + 1)) else (nI (cv (mn τ) x), nI i, nI (i + 1)))) := by
      unfold f_X11_judge_J81 f_X11_judge_J133 f_X11_judge_J134 f_X11_judge_J147 f_X11_judge_J170
      rw [es _ hc2, bC_e, st2, m_side hc2, bC_e, m_holder hc2 (cSide_lt _), bC_e, bG_t j40, ix_nI (by omega), f4, em _ hc2, bC_e, bG_t j40, f6, bG_t j40, m_behindQ hN hc2 (by omega), bC_e, bV_e, bV_e, nI_1]
      rw [cv_side w ok2, cv_hold w ok2 (by omega)]
      have hh : hs (mn τ) (xs (atL (mn τ) x) (atL (mn τ) x % 2)) < 16 := hs_lt w (okx_v ok2)
      by_cases u1 : stN (mn τ) (cv (mn τ) x) = 0
      · have en : nowG (mn τ) (owes (mn τ)) (cv (mn τ) (atL (mn τ) x)) = bm (mayP (mn τ) (cv (mn τ) (atL (mn τ) x)) (atL (mn τ) x % 2)) 16 := by
          unfold nowG
          rw [if_pos (by rw [stG_owes, st2]; exact u1), cv_side w ok2]
          rfl
        rw [if_pos (show nI _ = 0 from congrArg nI u1), en, m_has (by decide) (by omega), bC_e]
        by_cases u2 : hs (mn τ) (xs (atL (mn τ) x) (atL (mn τ) x % 2)) = f
        · rw [if_pos (congrArg nI u2)]
          cases hm : mayP (mn τ) (cv (mn τ) (atL (mn τ) x)) (atL (mn τ) x % 2) t with
          | true =>
            rw [if_neg (show ¬ (if t < 16 ∧ true = true then (1 : Int32) else 0) = 0 by rw [if_pos ⟨by omega, rfl⟩]; decide), if_neg (show ¬ (1 : Int32) = 0 by decide), if_neg (show ¬ (1 : Int32) = 0 by decide), if_pos (show logOk (mn τ) x f t from ⟨u1, u2, hm⟩), bG_t j40, bC_e, bV_e]
          | false =>
            rw [if_pos (show (if t < 16 ∧ false = true then (1 : Int32) else 0) = 0 by rw [if_neg (fun e => by cases e.2)]), if_pos rfl, if_pos rfl, if_neg (show ¬ logOk (mn τ) x f t from fun e => by rw [e.2.2] at hm; cases hm)]
        · rw [if_neg (fun e => u2 ((nI_eq (by omega) (by omega)).mp e)), if_pos rfl, if_pos rfl, if_neg (show ¬ logOk (mn τ) x f t from fun e => u2 e.2.1)]
      · rw [if_neg (fun e => u1 ((nI_eq0 (by omega)).mp e)), if_pos rfl, if_pos rfl, if_neg (show ¬ logOk (mn τ) x f t from fun e => u1 e.1)]
    have pre : (bC (f_X11_stateOf τ (nI (cv (mn τ) x))) fun r11 => if r11 = 0 then (bC (f_X11_mayNow τ (nI (cv (mn τ) x))) fun r34 => if r34 = 0 then (bC (f_X11_behind τ (nI (cv (mn τ) x)) (-1)) fun r35 => f_X11_judge_J81 τ a (nI (cv (mn τ) x)) (nI i) r35) else (f_X11_judge_J81 τ a (nI (cv (mn τ) x)) (nI i) (nI (cv (mn τ) x)))) else (f_X11_judge_J81 τ a (nI (cv (mn τ) x)) (nI i) (nI (cv (mn τ) x)))) = some (Sum.inl (if logOk (mn τ) x f t then (nI (behQ (mn τ) (cv (mn τ) (atL (mn τ) x)) t), -1, nI (i + 1)) else (nI (cv (mn τ) x), nI i, nI (i + 1)))) := by
      rw [b2, bC_e, em _ hc, bC_e]
      by_cases u1 : stN (mn τ) (cv (mn τ) x) = 0
      · have en : nowG (mn τ) (owes (mn τ)) (cv (mn τ) x) = bm (mayP (mn τ) (cv (mn τ) x) (x % 2)) 16 := by
          unfold nowG
          rw [if_pos (by rw [stG_owes]; exact u1), cv_side w ok]
          rfl
        rw [if_pos (show nI _ = 0 from congrArg nI u1), en]
        have on := ows_none w ok (show x % 2 < 2 by omega)
        by_cases u2 : bm (mayP (mn τ) (cv (mn τ) x) (x % 2)) 16 = 0
        · have ea : cv (mn τ) (atL (mn τ) x) = behP (cv (mn τ) x) := by
            unfold atL
            rw [if_pos (on.mpr u2), flp_cv w ok]
          rw [if_pos (show nI _ = 0 from congrArg nI u2), m_behindP hc (by decide), bC_e, ← ea]
          exact e81
        · have ea : cv (mn τ) (atL (mn τ) x) = cv (mn τ) x := by
            unfold atL
            rw [if_neg (fun e => u2 (on.mp e))]
          rw [if_neg (fun e => u2 ((nI_eq0 (bm16 _)).mp e))]
          rw [ea] at e81 ⊢
          exact e81
      · rw [if_neg (fun e => u1 ((nI_eq0 (by omega)).mp e))]
        have nl : ¬ logOk (mn τ) x f t := fun e => u1 e.1
        rw [if_neg nl]
        unfold f_X11_judge_J81 f_X11_judge_J133 f_X11_judge_J134 f_X11_judge_J147 f_X11_judge_J170
        rw [b2, bC_e, if_neg (fun e => u1 ((nI_eq0 (by omega)).mp e)), if_pos rfl, if_pos rfl, bV_e, nI_1]
    rw [pre, at24 hi40, bC_e, at25 hi40, bC_e, f3, f5]
    refine Or.inl ?_
    unfold f_X10_judge_J104
    rcases x_afterLogged w hw hf ok (show f < 16 by omega) (show t < 16 by omega) with ⟨u1, v, v1, v2, v3⟩ | ⟨u1, v3⟩
    · have v6 := v1.1
      rw [v3, bC_e, if_neg (show ¬ nI v = -1 from fun q => nI_pos (n := v) (by omega) (by rw [q]; decide)), bV_e, if_pos u1, nI_1]
      exact ⟨_, _, n - (i + 1), rfl, rfl, by omega, i + 1, v, y, rfl, v1, rfl, by rw [v2], rfl, Or.inl rfl, rfl, rfl⟩
    · rw [v3, bC_e, if_pos rfl, bV_e, if_neg u1, nI_1]
      exact ⟨_, _, n - (i + 1), rfl, rfl, by omega, i + 1, x, y, rfl, ok, rfl, rfl, rfl, Or.inr ⟨i, hi40, rfl⟩, rfl, rfl⟩
