/-! two loops side by side; begin, hand, drift -/
theorem jloop_both {S O S' O' : Type} {f : S → Option (S ⊕ O)} {g : S' → Option (S' ⊕ O')} (I : Nat → S → S' → Prop) (q : O → O' → Prop) (hs : ∀ n s t, I n s t → (∃ s' t' n', f s = some (.inl s') ∧ g t = some (.inl t') ∧ n' < n ∧ I n' s' t') ∨ (∃ o o', f s = some (.inr o) ∧ g t = some (.inr o') ∧ q o o')) : ∀ (N n : Nat) (s : S) (t : S'), I n s t → n < N → ∃ o o', jloop N f s = some o ∧ jloop N g t = some o' ∧ q o o' := by
  intro N
  induction N with
  | zero => intro n s t _ h; omega
  | succ N ih =>
    intro n s t hI hN
    unfold jloop
    rcases hs n s t hI with ⟨s', t', n', h1, h2, h3, h4⟩ | ⟨o, o', h1, h2, h3⟩
    · rw [h1, h2]
      exact ih n' s' t' h4 (by omega)
    · rw [h1, h2]
      exact ⟨o, o', rfl, rfl, h3⟩
theorem in_wide (x c d : Int32) : f_X11_in x.toInt64 c.toInt64 d.toInt64 = some (if x < c then 0 else if d < x then 0 else 1) := by
  unfold f_X11_in f_X11_in_J17 f_X11_in_J18
  by_cases h1 : x < c
  · rw [if_pos ((lg_cmp_lt _ _).mpr ((fa_wide_lt _ _).mpr h1)), if_pos h1]; rfl
  · rw [if_neg (fun e => h1 ((fa_wide_lt _ _).mp ((lg_cmp_lt _ _).mp e))), if_neg h1]
    by_cases h2 : d < x
    · rw [if_pos ((lg_cmp_gt _ _).mpr ((fa_wide_lt _ _).mpr h2)), if_pos h2]; rfl
    · rw [if_neg (fun e => h2 ((fa_wide_lt _ _).mp ((lg_cmp_gt _ _).mp e))), if_neg h2]; rfl
/-- how a quarrel is told -/
def tdx (A : Tb) (q : Nat) : Nat := (A 7 q * 56 + A 8 q) * 2
theorem tdx_01 {A : Tb} {q : Nat} (h7 : A 7 q < 16) (h8 : A 8 q < 16) : x0 (tdx A q) = A 7 q ∧ x1 (tdx A q) = A 8 q ∧ tdx A q % 2 = 0 ∧ tdx A q < 6272 := by
  unfold tdx x0 x1; omega
theorem tdx_ok {A : Tb} {q : Nat} (h16 : tP A ≤ 16) (h7 : A 7 q < tP A) (h8 : A 8 q < tP A) (hn : A 7 q ≠ A 8 q) : okx A (tdx A q) ∧ cv A (tdx A q) = mkc (A 7 q) (A 8 q) 0 0 0 := by
  obtain ⟨e0, e1, e2, e3⟩ := tdx_01 (A := A) (q := q) (by omega) (by omega)
  have a7 : A 7 q < 16 := by omega
  have a8 : A 8 q < 16 := by omega
  have u7 : hs A (A 7 q) = A 7 q := by unfold hs; rw [if_pos a7]
  have u8 : hs A (A 8 q) = A 8 q := by unfold hs; rw [if_pos a8]
  have v7 : fs A (A 7 q) = 0 := by unfold fs; rw [if_pos a7]
  have v8 : fs A (A 8 q) = 0 := by unfold fs; rw [if_pos a8]
  refine ⟨⟨e3, ?_, ?_, ?_⟩, ?_⟩
  · rw [e0]; exact ⟨by omega, by rw [u7]; exact h7, Or.inl a7⟩
  · rw [e1]; exact ⟨by omega, by rw [u8]; exact h8, Or.inl a8⟩
  · rw [e0, e1, u7, u8]; exact hn
  · unfold cv
    rw [e0, e1, e2, u7, u8, v7, v8]
theorem x_told {σ : jS} {A : Tb} (hT : xT σ A) {q : Nat} (hq : q < tQ A) (h4 : q < 4) : f_X10_toldHow σ (nI q) = some (nI (tdx A q)) := by
  unfold f_X10_toldHow f_X0_state tdx
  have e3 : gI σ (σ.2.2.1 + 3 + 1) q = nI (A 7 q) := (hT.2.2.2.2.2.2 q hq).1
  have e4 : gI σ (σ.2.2.1 + 4 + 1) q = nI (A 8 q) := (hT.2.2.2.2.2.2 q hq).2
  rw [bV_e, bH_t (T_in hT.1), atT (j := 3) (n := 4) hT.1 (by omega) h4, bC_e, bV_e, bH_t (T_in hT.1), atT (j := 4) (n := 4) hT.1 (by omega) h4, bC_e, bC_e, e3, e4, show (56 : Int32) = nI 56 from rfl, show (2 : Int32) = nI 2 from rfl, nI_mul, nI_add, nI_mul]
  exact congrArg some (Int32.add_zero _)
theorem m_told {τ : jS} (hQ : wQ τ) {q : Nat} (hq : q < tQ (mn τ)) (h4 : q < 4) : f_X11_toldCode τ (nI q) = some (nI (mkc (mn τ 7 q) (mn τ 8 q) 0 0 0)) := by
  unfold f_X11_toldCode
  obtain ⟨e1, e2, _⟩ := hQ q hq
  have j4 : jin (nI q) 4 = true := jin_nI h4 (by omega)
  have := m_code (a := mn τ 7 q) (b := mn τ 8 q) (s := 0) (x := 0) (y := 0)
  rw [show (nI 0 - 1 : Int32) = -1 from by decide] at this
  rw [bG_t j4, bG_t j4, ix_nI (by omega), e1, e2]
  rw [show f_X11_code (nI (mn τ 7 q)) (nI (mn τ 8 q)) 0 (-1) (-1) = some (nI (mkc (mn τ 7 q) (mn τ 8 q) 0 0 0)) from this, bC_e]
/-- a quarrel's state set anew -/
theorem r_how {k : Nat} {σ τ : jS} (h : Rel k σ τ) {q x : Nat} {v : Int32} (ok : okx (mn τ) x) : Rel k (sI (sI σ 30 q (nI x)) 31 q v) (sI (sI τ 9 q (nI (cv (mn τ) x))) 10 q v) := by
  obtain ⟨⟨hM, hX, hH, hS, hTT, hTx, hFl, hLg, hSe, hI⟩, sx, sm⟩ := h
  obtain ⟨m1, m2⟩ := mS_W (mS_tr (mS_sI τ (h := 9) (i := q) (nI (cv (mn τ) x)) rfl rfl rfl) (mS_sI _ (h := 10) (i := q) v rfl rfl rfl)) hM
  refine ⟨⟨m1, ?_, ?_, ?_, hTT, ?_, hFl, ?_, ?_, ?_⟩, ?_, ?_⟩
  · rw [m2]; exact xS_W (xS_tr (xS_sI σ (h := 30) (i := q) (nI x) rfl) (xS_sI _ (h := 31) (i := q) v rfl)) hX
  · intro p hp
    rw [m2] at hp ⊢
    by_cases z : p = q
    · subst z
      exact ⟨x, by rw [gI_ne (by decide), gI_sI], ok, by rw [gI_ne (by decide), gI_sI], by rw [gI_sI, gI_sI]⟩
    · obtain ⟨y, y1, y2, y3, y4⟩ := hH p hp
      exact ⟨y, by rw [gI_ne (by decide), gI_nei z]; exact y1, y2, by rw [gI_ne (by decide), gI_nei z]; exact y3, ((gI_nei z).trans (gI_ne (by decide))).trans (y4.trans ((gI_nei z).trans (gI_ne (by decide))).symm)⟩
  · exact rS_keep (σ := σ) (τ := τ) rfl rfl hS
  · exact rTx_keep (σ := σ) (τ := τ) rfl rfl (kp_tr (kp_sI _ _ _ rfl) (kp_sI _ _ _ rfl)) (kp_tr (kp_sI _ _ _ rfl) (kp_sI _ _ _ rfl)) hTx
  · rw [m2]; exact rLg_keep (σ := σ) (τ := τ) rfl rfl (kp_tr (kp_sI _ _ _ rfl) (kp_sI _ _ _ rfl)) (kp_tr (kp_sI _ _ _ rfl) (kp_sI _ _ _ rfl)) hLg
  · rw [m2]; exact rSe_keep (σ := σ) (τ := τ) rfl rfl (kp_tr (kp_sI _ _ _ rfl) (kp_sI _ _ _ rfl)) (kp_tr (kp_sI _ _ _ rfl) (kp_sI _ _ _ rfl)) hSe
  · rw [m2]; exact rI_keep (kp_tr (kp_sI _ _ _ rfl) (kp_sI _ _ _ rfl)) (kp_tr (kp_sI _ _ _ rfl) (kp_sI _ _ _ rfl)) hI
  · exact sX_keep (kp_tr (kp_sI _ _ _ rfl) (kp_sI _ _ _ rfl)) rfl rfl sx
  · exact sM_keep (kp_tr (kp_sI _ _ _ rfl) (kp_sI _ _ _ rfl)) rfl rfl sm
theorem r_new {k : Nat} {σ τ : jS} (h : Rel k σ τ) {q y : Nat} (hq : q < tQ (mn τ)) (ok : okx (mn τ) y) : Rel k (xNew σ q (nI y)) (mNew τ q (nI (cv (mn τ) y))) := by
  obtain ⟨x, _, _, _, e⟩ := h.1.2.2.1 q hq
  unfold xNew mNew
  rw [e]
  exact r_how h ok
theorem r_sd {k : Nat} {σ τ : jS} (h : Rel k σ τ) {v : Nat} (hv : v < 2 ^ 31) : Rel k (sI σ 29 5 (nI v)) (sI τ 1 36 (nI v)) := by
  obtain ⟨⟨hM, hX, hH, hS, hTT, hTx, hFl, hLg, hSe, hI⟩, sx, sm⟩ := h
  obtain ⟨m1, m2⟩ := mS_W (mS_sI τ (h := 1) (i := 36) (nI v) rfl rfl rfl) hM
  refine ⟨⟨m1, ?_, ?_, ?_, hTT, ?_, hFl, ?_, ?_, ?_⟩, ?_, ?_⟩
  · rw [m2]; exact xS_W (xS_sI σ (h := 29) (i := 5) (nI v) rfl) hX
  · exact xH_keep m2 (kp_sI _ _ _ rfl) (kp_sI _ _ _ rfl) hH
  · exact ⟨v, hv, gI_sI _ _ _ _, gI_sI _ _ _ _⟩
  · exact rTx_keep (σ := σ) (τ := τ) rfl rfl (kp_sI _ _ _ rfl) (kp_sI _ _ _ rfl) hTx
  · rw [m2]; exact rLg_keep (σ := σ) (τ := τ) rfl rfl (kp_sI _ _ _ rfl) (kp_sI _ _ _ rfl) hLg
  · rw [m2]; exact rSe_keep (σ := σ) (τ := τ) rfl rfl (kp_sI _ _ _ rfl) (kp_sI _ _ _ rfl) hSe
  · rw [m2]; exact rI_keep (kp_sI _ _ _ rfl) (kp_sI _ _ _ rfl) hI
  · exact sX_keep (kp_sI _ _ _ rfl) rfl rfl sx
  · exact sM_keep (kp_sI _ _ _ rfl) rfl rfl sm
theorem r_begin (k : Nat) (σ τ : jS) (a : Int32) (_hk : k < 2048) (h : Rel k σ τ) : ∃ r σ2 τ2, f_X10_begin σ a = some (r, σ2) ∧ f_X11_begin τ a = some (r, τ2) ∧ Rel (k + 4) σ2 τ2 := by
  have h0 := h
  obtain ⟨⟨hM, hX, hH, _⟩, _, _⟩ := h
  unfold f_X10_begin f_X11_begin
  rcases is_both (x_isQuarrel hX.1 hM.1.2.2.2.1.2 a) (m_isQuarrel hM.1 a) with ⟨q, h1, rfl, h2, h3⟩ | ⟨h2, h3⟩
  · have q4 : q < 4 := by have := hM.1.2.2.2.1.2; omega
    have j4 : jin (nI q) 4 = true := jin_nI q4 (by omega)
    obtain ⟨x, _, _, _, e⟩ := hH q h1
    obtain ⟨_, _, e7, e8, e9⟩ := hM.2.2.2.2.2.1 q h1
    obtain ⟨t1, t2⟩ := tdx_ok (A := mn τ) (q := q) hM.1.1.2 e7 e8 e9
    rw [h2, h3, bC_e, bC_e, if_neg (show ¬ (1 : Int32) = 0 by decide), if_neg (show ¬ (1 : Int32) = 0 by decide), at31 q4, bC_e, x_told hX.1 h1 q4, bC_e, put30 q4, bD_e, put31 q4, bD_e, bG_t j4, bV_e, m_told hM.2.2.2.2.2.1 h1 q4, bC_e, bG_t j4, bV_e, bG_t j4, bV_e, ix_nI (by omega), ← t2, e]
    exact ⟨_, _, _, rfl, rfl, r_mono k _ _ (r_how h0 t1)⟩
  · rw [h2, h3]
    exact ⟨_, _, _, rfl, rfl, r_mono k _ _ h0⟩
theorem r_hand (k : Nat) (σ τ : jS) (a b : Int32) (_hk : k < 2048) (h : Rel k σ τ) : ∃ r σ2 τ2, f_X10_hand σ a b = some (r, σ2) ∧ f_X11_hand τ a b = some (r, τ2) ∧ Rel (k + 4) σ2 τ2 := by
  have h0 := h
  obtain ⟨⟨hM, hX, hH, hS, _⟩, _, _⟩ := h
  unfold f_X10_hand f_X11_hand f_X10_hand_J21 f_X11_hand_J21
  rcases is_both (x_isQuarrel hX.1 hM.1.2.2.2.1.2 a) (m_isQuarrel hM.1 a) with ⟨q, h1, rfl, h2, h3⟩ | ⟨h2, h3⟩
  · have q4 : q < 4 := by have := hM.1.2.2.2.1.2; omega
    have j4 : jin (nI q) 4 = true := jin_nI q4 (by omega)
    obtain ⟨hN, hS2, hTm, hO, hG, hQ, hu⟩ := hM
    have hM : WM τ := ⟨hN, hS2, hTm, hO, hG, hQ, hu⟩
    have w := wA_of hN hTm
    obtain ⟨hw, hf⟩ := hX.2.2.2 (tQ_tP hM (by omega))
    obtain ⟨x, e1, ok, e3, e4⟩ := hH q h1
    have hc := cv_lt w ok
    have hst : f_X0_howIs σ (nI x) = some (nI (stN (mn τ) (cv (mn τ) x))) := x_howIs w hw hf ok
    have hsm : f_X11_stateOf τ (nI (cv (mn τ) x)) = some (nI (stN (mn τ) (cv (mn τ) x))) := by
      rw [m_stateOf hN hS2 hG hc (ow_now hN hO hu hc), stG_owes]
    have ex := x_allowed w hw hf ok
    rw [may_ended w ok] at ex
    have em : f_X11_mayNow τ (nI (cv (mn τ) x)) = some (nI (nowG (mn τ) (owes (mn τ)) (cv (mn τ) x))) := m_mayNow hN hS2 hG hc (ow_now hN hO hu hc)
    rw [h2, h3, bC_e, bC_e, if_neg (show ¬ (1 : Int32) = 0 by decide), if_neg (show ¬ (1 : Int32) = 0 by decide)]
    have sn : stN (mn τ) (cv (mn τ) x) < 3 := by unfold stN; split; decide; split <;> decide
    by_cases zb : b = -1
    · subst zb
      rw [if_pos rfl, if_pos rfl]
      unfold f_X10_hand_J25 f_X11_hand_J25 f_X11_hand_J60 f_X11_hand_J64
      rw [at30 q4, bC_e, e1, hst, bC_e, bG_t j4, ix_nI (by omega), e3, hsm, bC_e]
      by_cases z : stN (mn τ) (cv (mn τ) x) = 0
      · rw [if_pos (show nI _ = 0 from congrArg nI z), if_pos (show nI _ = 0 from congrArg nI z), if_pos rfl, if_pos rfl]
        obtain ⟨s, s1, s2, s3⟩ := hS
        obtain ⟨r, y, σ', τ', y1, y2, y3, y4⟩ := q_byDraw hM hX h1 e1 ok e3 s2 s3 s1
        rw [y2, y3, bD_e, bD_e]
        refine ⟨_, _, _, rfl, rfl, r_mono k _ _ ?_⟩
        rcases y4 with ⟨rfl, rfl⟩ | ⟨v, v1, rfl, rfl⟩
        · exact r_new h0 h1 y1
        · have := r_new (r_sd h0 v1) (q := q) (y := y) (by rw [mn_seed]; exact h1) (by rw [mn_seed]; exact y1)
          rw [mn_seed] at this
          exact this
      · rw [if_neg (fun e => z ((nI_eq0 (by omega)).mp e)), if_neg (fun e => z ((nI_eq0 (by omega)).mp e))]
        exact ⟨_, _, _, rfl, rfl, r_mono k _ _ h0⟩
    · rw [if_neg zb, if_neg zb]
      rcases is_both (x_isPerson hX.1 hN.1.2 b) (m_isPerson hN b) with ⟨p, p1, rfl, g2, g3⟩ | ⟨g2, g3⟩
      · have p16 : p < 16 := by have := hN.1.2; omega
        rw [g2, g3, bC_e, bC_e, if_neg (show ¬ (1 : Int32) = 0 by decide), if_neg (show ¬ (1 : Int32) = 0 by decide)]
        unfold f_X10_hand_J25 f_X11_hand_J25 f_X11_hand_J60 f_X11_hand_J64
        rw [at30 q4, bC_e, e1, hst, bC_e, bG_t j4, ix_nI (by omega), e3, hsm, bC_e]
        by_cases z : stN (mn τ) (cv (mn τ) x) = 0
        · have es : stG (mn τ) (owes (mn τ)) (cv (mn τ) x) = 0 := by rw [stG_owes]; exact z
          have en : nowG (mn τ) (owes (mn τ)) (cv (mn τ) x) = bm (mayP (mn τ) (cv (mn τ) x) (x % 2)) 16 := by
            unfold nowG
            rw [if_pos es, cv_side w ok]
            rfl
          rw [en] at ex em
          rw [if_pos (show nI _ = 0 from congrArg nI z), if_pos (show nI _ = 0 from congrArg nI z), if_neg zb, if_neg zb, ex, bC_e, bG_t j4, em, bC_e, m_has (by decide) (by omega), bC_e, nI_bit (bm16 _) (by omega), bm_bit]
          cases hq : mayP (mn τ) (cv (mn τ) x) (x % 2) p with
          | false =>
            rw [if_pos (by simp), if_pos (by simp)]
            exact ⟨_, _, _, rfl, rfl, r_mono k _ _ h0⟩
          | true =>
            obtain ⟨y, y1, y2, y3⟩ := x_handTo w hw q4 ok e1 hq
            have ne0 : ¬ nI (bm (mayP (mn τ) (cv (mn τ) x) (x % 2)) 16) = 0 := fun e => by
              have := bm_zero.mp ((nI_eq0 (bm16 _)).mp e) p p16
              rw [hq] at this; cases this
            unfold f_X11_handOn
            rw [if_neg (by simp [p16]), if_neg (by simp [p16]), y3, bD_e, bG_t j4, ix_nI (by omega), e3, em, bC_e, if_neg ne0, if_pos (nI_pos' (by omega)), m_onQ hN q4 hc e3 p16, bD_e, ← y2]
            exact ⟨_, _, _, rfl, rfl, r_mono k _ _ (r_new h0 h1 y1)⟩
        · rw [if_neg (fun e => z ((nI_eq0 (by omega)).mp e)), if_neg (fun e => z ((nI_eq0 (by omega)).mp e))]
          exact ⟨_, _, _, rfl, rfl, r_mono k _ _ h0⟩
      · rw [g2, g3]
        exact ⟨_, _, _, rfl, rfl, r_mono k _ _ h0⟩
  · rw [h2, h3]
    exact ⟨_, _, _, rfl, rfl, r_mono k _ _ h0⟩
/-- one state, what both say of it -/
theorem q_state {σ τ : jS} (hM : WM τ) (hX : WX σ (mn τ)) (hP : tP (mn τ) ≠ 0) {x : Nat} (ok : okx (mn τ) x) : f_X0_howIs σ (nI x) = some (nI (stN (mn τ) (cv (mn τ) x))) ∧ f_X11_stateOf τ (nI (cv (mn τ) x)) = some (nI (stN (mn τ) (cv (mn τ) x))) ∧ stN (mn τ) (cv (mn τ) x) < 3 := by
  obtain ⟨hN, hS2, hTm, hO, hG, hQ, hu⟩ := hM
  have w := wA_of hN hTm
  obtain ⟨hw, hf⟩ := hX.2.2.2 hP
  have hc := cv_lt w ok
  refine ⟨x_howIs w hw hf ok, ?_, ?_⟩
  · rw [m_stateOf hN hS2 hG hc (ow_now hN hO hu hc), stG_owes]
  · unfold stN; split; decide; split <;> decide
theorem r_drift (k : Nat) (σ τ : jS) (a b : Int32) (_hk : k < 2048) (h : Rel k σ τ) : ∃ r σ2 τ2, f_X10_drift σ a b = some (r, σ2) ∧ f_X11_drift τ a b = some (r, τ2) ∧ Rel (k + 4) σ2 τ2 := by
  have h0 := h
  obtain ⟨⟨hM, hX, hH, hS, _⟩, _, _⟩ := h
  unfold f_X10_drift f_X11_drift f_X10_drift_J23
  rcases is_both (x_isQuarrel hX.1 hM.1.2.2.2.1.2 a) (m_isQuarrel hM.1 a) with ⟨q, h1, rfl, h2, h3⟩ | ⟨h2, h3⟩
  · have q4 : q < 4 := by have := hM.1.2.2.2.1.2; omega
    have j4 : jin (nI q) 4 = true := jin_nI q4 (by omega)
    rw [h2, h3, bC_e, bC_e, if_neg (show ¬ (1 : Int32) = 0 by decide), if_neg (show ¬ (1 : Int32) = 0 by decide), show (1 : Int64) = (1 : Int32).toInt64 from by decide, show (99 : Int64) = (99 : Int32).toInt64 from by decide, in_wide, bC_e]
    by_cases z1 : b < 1
    · rw [if_pos z1, if_pos z1, if_pos (show (0 : Int32) = 0 from rfl)]
      exact ⟨_, _, _, rfl, rfl, r_mono k _ _ h0⟩
    · rw [if_neg z1, if_neg z1]
      by_cases z2 : b ≤ 99
      · rw [if_pos z2, if_neg (Int32.not_lt.mpr z2), if_neg (show ¬ (1 : Int32) = 0 by decide)]
        obtain ⟨n, hn, rfl⟩ := nI_of (x := b) (fun e => z1 (Int32.lt_trans e (by decide)))
        have hn99 : n ≤ 99 := (nI_leI (b := 99) hn (by decide)).mp z2
        have key := jloop_both (f := fun s => f_X10_drift_B29 s.2 (nI q) (nI n) s.1) (g := fun s => f_X11_drift_B30 s.2 (nI q) (nI n) s.1) (fun m (s t : Int32 × jS) => ∃ i, i ≤ n ∧ m = n - i ∧ s.1 = nI i ∧ t.1 = nI i ∧ Rel k s.2 t.2 ∧ mn t.2 = mn τ) (fun (o o' : Int32 × jS) => o.1 = o'.1 ∧ Rel k o.2 o'.2) ?_ jFuel n (0, σ) (0, τ) ⟨0, Nat.zero_le _, rfl, rfl, rfl, h0, rfl⟩ (jfuel_big (by omega))
        · obtain ⟨o, o', a1, a2, a3⟩ := key
          refine ⟨o.1, o.2, o'.2, a1, ?_, r_mono k _ _ a3.2⟩
          rw [a2, a3.1]
        · rintro m ⟨sa, s⟩ ⟨ta, t⟩ ⟨i, i1, i2, rfl, rfl, hR, hmn⟩
          replace hR : Rel k s t := hR
          replace hmn : mn t = mn τ := hmn
          have hR0 := hR
          obtain ⟨⟨hM', hX', hH', hS', _⟩, _, _⟩ := hR
          have h1' : q < tQ (mn t) := by rw [hmn]; exact h1
          obtain ⟨x, e1, ok, e3, e4⟩ := hH' q h1'
          obtain ⟨b1, b2, b3⟩ := q_state hM' hX' (tQ_tP hM' (by omega)) ok
          have out : (∃ o, f_X10_drift_J67 s (nI q) = some o ∧ ∃ o', f_X11_drift_J62 t (nI q) = some o' ∧ o.1 = o'.1 ∧ Rel k o.2 o'.2) := by
            unfold f_X10_drift_J67 f_X11_drift_J62
            rw [at30 q4, bC_e, e1, b1, bC_e, bG_t j4, ix_nI (by omega), e3, b2, bC_e]
            exact ⟨_, rfl, _, rfl, rfl, hR0⟩
          obtain ⟨o, o1, o', o2, o3⟩ := out
          show (∃ s' t' n', f_X10_drift_B29 s (nI q) (nI n) (nI i) = _ ∧ f_X11_drift_B30 t (nI q) (nI n) (nI i) = _ ∧ _) ∨ (∃ o o', f_X10_drift_B29 s (nI q) (nI n) (nI i) = _ ∧ f_X11_drift_B30 t (nI q) (nI n) (nI i) = _ ∧ _)
          unfold f_X10_drift_B29 f_X11_drift_B30
          rcases Nat.lt_or_ge i n with y | y
          · rw [if_neg (nI_ge y (by omega)), if_neg (nI_ge y (by omega)), at30 q4, bC_e, e1, b1, bC_e, bG_t j4, ix_nI (by omega), e3, b2, bC_e]
            by_cases z : stN (mn t) (cv (mn t) x) = 0
            · obtain ⟨sd, s1, s2, s3⟩ := hS'
              obtain ⟨r, y', σ', τ', y1, y2, y3, y4⟩ := q_byDraw hM' hX' h1' e1 ok e3 s2 s3 s1
              rw [if_pos (show nI _ = 0 from congrArg nI z), if_pos (show nI _ = 0 from congrArg nI z), y2, y3, bD_e, bD_e, bV_e, bV_e, nI_1]
              refine Or.inl ⟨_, _, n - (i + 1), rfl, rfl, by omega, i + 1, y, rfl, rfl, rfl, ?_, ?_⟩
              · rcases y4 with ⟨rfl, rfl⟩ | ⟨v, v1, rfl, rfl⟩
                · exact r_new hR0 h1' y1
                · have := r_new (r_sd hR0 v1) (q := q) (y := y') (by rw [mn_seed]; exact h1') (by rw [mn_seed]; exact y1)
                  rw [mn_seed] at this
                  exact this
              · rw [← hmn]
                rcases y4 with ⟨rfl, rfl⟩ | ⟨v, v1, rfl, rfl⟩
                · exact (mS_W (mS_tr (mS_sI _ (h := 9) (i := q) _ rfl rfl rfl) (mS_sI _ (h := 10) (i := q) _ rfl rfl rfl)) hM').2
                · exact (mS_W (mS_tr (mS_tr (mS_sI t (h := 1) (i := 36) (nI v) rfl rfl rfl) (mS_sI _ (h := 9) (i := q) _ rfl rfl rfl)) (mS_sI _ (h := 10) (i := q) _ rfl rfl rfl)) hM').2
            · rw [if_neg (fun e => z ((nI_eq0 (by omega)).mp e)), if_neg (fun e => z ((nI_eq0 (by omega)).mp e)), o1, o2, jw_e, jw_e]
              exact Or.inr ⟨o, o', rfl, rfl, o3⟩
          · have : i = n := by omega
            subst this
            rw [if_pos (Int32.le_refl _), if_pos (Int32.le_refl _), o1, o2, jw_e, jw_e]
            exact Or.inr ⟨o, o', rfl, rfl, o3⟩
      · rw [if_neg z2, if_pos (Int32.not_le.mp z2), if_pos (show (0 : Int32) = 0 from rfl)]
        exact ⟨_, _, _, rfl, rfl, r_mono k _ _ h0⟩
  · rw [h2, h3]
    exact ⟨_, _, _, rfl, rfl, r_mono k _ _ h0⟩
