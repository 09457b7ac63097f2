/-! law -/
theorem bears_eq {A B : Tb} (h6 : B 6 = A 6) (hg : tG B = tG A) : bears B = bears A := by
  funext a b
  unfold bears bearsAt
  rw [h6, hg]
theorem mn_row6 {τ τ' : jS} (h : kp [6] τ τ') : mn τ' 6 = mn τ 6 := by
  funext i
  rw [mn_at rfl, mn_at rfl, h 6 (by decide)]
theorem xG_eq {σ : jS} {A B : Tb} (h6 : B 6 = A 6) (hg : tG B = tG A) (h : xG σ A) : xG σ B := by
  unfold xG
  rw [h6, hg, bears_eq h6 hg]
  exact h
theorem xG_kp {σ σ' : jS} {A : Tb} (h : kp [33, 34, 35] σ σ') (h3 : gI σ' 32 3 = gI σ 32 3) (g : xG σ A) : xG σ' A := by
  obtain ⟨a, b, c⟩ := g
  refine ⟨h3.trans a, fun i hi => ?_, fun p hp => ?_⟩
  · rw [h 33 (by decide), h 34 (by decide)]; exact b i hi
  · rw [h 35 (by decide)]; exact c p hp
/-- after a change: settled -/
theorem settle_fin {k : Nat} {σ τ σ1 τ2 : jS} (h : Rel k σ τ) (e : tE (mn τ) (mn τ2)) (wm : WM τ2) (xt : xT σ1 (mn τ2)) (xg : xG σ1 (mn τ2)) (xl : xL σ1 (mn τ2)) (xh : xH σ1 τ2) (rs : rS σ1 τ2) (told : σ1.2.2 = σ.2.2) (fX : gI σ1 2 1 = gI σ 2 1 ∧ gI σ1 1 9 = gI σ 1 9 ∧ gI σ1 23 2 = gI σ 23 2 ∧ gI σ1 23 3 = gI σ 23 3 ∧ gI σ1 4 1 = gI σ 4 1 ∧ gI σ1 4 11 = gI σ 4 11) (k1 : kp [3, 24, 25, 26, 27, 28, 37, 38, 39, 40, 41, 42, 43, 44, 45, 46, 47, 48, 49, 50, 12, 14, 15] σ σ1) (fM : gI τ2 1 16 = gI τ 1 16 ∧ gI τ2 1 17 = gI τ 1 17 ∧ gI τ2 1 56 = gI τ 1 56 ∧ gI τ2 1 59 = gI τ 1 59 ∧ gI τ2 1 39 = gI τ 1 39 ∧ gI τ2 1 68 = gI τ 1 68) (k2 : kp [11, 32, 33, 34, 35, 36, 40, 41, 18, 19, 39, 12] τ τ2) : ∃ σ', f_X10_settle σ1 = some ((), σ') ∧ fr [5, 6, 7, 8, 9, 10, 11] σ1 σ' ∧ Rel k σ' τ2 := by
  have w := wA_of wm.1 wm.2.2.1
  obtain ⟨σ', s1, s2, s3, s4⟩ := x_settle w xt (fun p hp => (wm.2.1 p hp).2) wm.1.2.2.2.2.1.2 xl xg.2.2
  have kk : ∀ l : List Nat, l.all (fun a => [3, 24, 25, 26, 27, 28, 37, 38, 39, 40, 41, 42, 43, 44, 45, 46, 47, 48, 49, 50, 12, 14, 15].contains a) = true → l.all (fun a => ![5, 6, 7, 8, 9, 10, 11].contains a) = true → kp l σ σ' := fun l hl hd => kp_tr (fun a ha i => k1 a (by have := List.all_eq_true.mp hl a ha; simpa using this) i) (kp_fr s2 hd)
  have km : ∀ l : List Nat, l.all (fun a => [11, 32, 33, 34, 35, 36, 40, 41, 18, 19, 39, 12].contains a) = true → kp l τ τ2 := fun l hl a ha i => k2 a (by have := List.all_eq_true.mp hl a ha; simpa using this) i
  refine ⟨σ', s1, s2, ?_, ?_, ?_⟩
  · refine RS_tE h.1 e wm ⟨?_, ?_, ?_, fun _ => ⟨s3, s4⟩⟩ (xH_keep rfl (kp_fr s2 rfl) (kp_rfl _ _) xh) (rS_keep (fr_I s2 (by decide) _) rfl rs) (s2.1.trans told) ((fr_I s2 (by decide) _).trans fX.1) ((fr_I s2 (by decide) _).trans fX.2.1) ((fr_I s2 (by decide) _).trans fX.2.2.1) ((fr_I s2 (by decide) _).trans fX.2.2.2.1) (kk _ rfl rfl) fM.1 fM.2.1 fM.2.2.1 fM.2.2.2.1 (km _ rfl)
    · have := xTb_kp (σ := σ1) (σ' := σ') (A := mn τ2) (T := σ1.2.2.1) (kp_fr s2 rfl) xt
      rw [← fr_T s2] at this
      exact this
    · exact xG_kp (kp_fr s2 rfl) (fr_I s2 (by decide) _) xg
    · exact ⟨(fr_I s2 (by decide) _).trans xl.1, (fr_I s2 (by decide) _).trans xl.2⟩
  · exact sX_keep (kk _ rfl rfl) ((fr_I s2 (by decide) _).trans fX.2.2.2.2.1) ((fr_I s2 (by decide) _).trans fX.2.2.2.2.2) h.2.1
  · exact sM_keep (km _ rfl) fM.2.2.2.2.1 fM.2.2.2.2.2 h.2.2
theorem law_out {τ : jS} {a b v : Int32} (h : ¬ a = 1 ∨ ¬ b = 0) : jloop jFuel (fun s => f_X11_law_B103 s.2 a b v s.1) (0, τ) = some (v, τ) := by
  refine jloop_0 (fun _ => (0, τ)) 0 rfl (jfuel_big (by omega)) ?_ (fun i hi => absurd hi (Nat.not_lt_zero i))
  show f_X11_law_B103 τ a b v 0 = _
  unfold f_X11_law_B103 f_X11_law_J169
  split
  · rfl
  · by_cases z : a = 1
    · rw [if_pos z]
      rcases h with h | h
      · exact absurd z h
      · rw [if_neg h]; rfl
    · rw [if_neg z]; rfl
theorem law_forget {τ : jS} {v : Int32} {N : Nat} (hN : gI τ 1 8 = nI N) (h4 : N ≤ 4) (hc : ∀ q, q < N → ∃ c, c < 147968 ∧ gI τ 9 q = nI c) : ∃ τ', jloop jFuel (fun s => f_X11_law_B103 s.2 1 0 v s.1) (0, τ) = some (v, τ') ∧ fr [9] τ τ' ∧ ∀ q c, q < N → c < 147968 → gI τ 9 q = nI c → gI τ' 9 q = nI (mkc (cOne c) (cTwo c) (cSide c) 0 0) := by
  have key := jloop_ex (S := Int32 × jS) (O := Int32 × jS) (f := fun s => f_X11_law_B103 s.2 1 0 v s.1) (fun i s => s.1 = nI i ∧ fr [9] τ s.2 ∧ (∀ q c, q < i → c < 147968 → gI τ 9 q = nI c → gI s.2 9 q = nI (mkc (cOne c) (cTwo c) (cSide c) 0 0)) ∧ ∀ q, i ≤ q → gI s.2 9 q = gI τ 9 q) N (fun o => o.1 = v ∧ fr [9] τ o.2 ∧ ∀ q c, q < N → c < 147968 → gI τ 9 q = nI c → gI o.2 9 q = nI (mkc (cOne c) (cTwo c) (cSide c) 0 0)) (s0 := (0, τ)) ⟨rfl, fr_rfl _ _, fun q c hq => absurd hq (Nat.not_lt_zero q), fun _ _ => rfl⟩ (jfuel_big (by omega)) ?_ ?_
  · obtain ⟨⟨o1, o2⟩, e1, rfl, e3⟩ := key
    exact ⟨o2, e1, e3⟩
  · rintro ⟨a, s⟩ ⟨rfl, g1, g2, g3⟩
    refine ⟨(v, s), ?_, rfl, g1, g2⟩
    show f_X11_law_B103 s 1 0 v (nI N) = _
    unfold f_X11_law_B103 f_X11_law_J169
    rw [fr_I g1 (by decide), hN, if_pos (Int32.le_refl _), jw_e]
  · rintro i ⟨a, s⟩ hi ⟨rfl, g1, g2, g3⟩
    obtain ⟨c, c1, c2⟩ := hc i hi
    have j4 : jin (nI i) 4 = true := jin_nI (by omega) (by omega)
    have e2 : gI s 9 i = nI c := (g3 i (Nat.le_refl _)).trans c2
    have mc := m_code (a := cOne c) (b := cTwo c) (s := cSide c) (x := 0) (y := 0)
    rw [show (nI 0 - 1 : Int32) = -1 from by decide] at mc
    refine Or.inl ⟨(nI (i + 1), sI s 9 i (nI (mkc (cOne c) (cTwo c) (cSide c) 0 0))), ?_, rfl, fr_trans g1 (fr_sI _ _ _ (by decide)), ?_, ?_⟩
    · show f_X11_law_B103 s 1 0 v (nI i) = _
      unfold f_X11_law_B103
      rw [fr_I g1 (by decide), hN, if_neg (nI_ge hi (by omega)), if_pos rfl, if_pos rfl, bG_t j4, ix_nI (by omega), e2, m_one c1, bC_e, bG_t j4, m_two c1, bC_e, bG_t j4, m_side c1, bC_e, mc, bC_e, bG_t j4, bV_e, bV_e, nI_1]
    · intro q d hq d1 d2
      by_cases z : q = i
      · subst z
        rw [c2] at d2
        have : c = d := (nI_eq (by omega) (by omega)).mp d2
        subst this
        exact gI_sI _ _ _ _
      · show gI (sI s 9 i _) 9 q = _
        rw [gI_nei z]; exact g2 q d (by omega) d1 d2
    · intro q hq
      show gI (sI s 9 i _) 9 q = _
      rw [gI_nei (by omega)]; exact g3 q (by omega)
theorem in01 (x : Int32) : f_X11_in x.toInt64 0 1 = some (if x = 0 ∨ x = 1 then 1 else 0) := by
  rw [show (0 : Int64) = (0 : Int32).toInt64 from by decide, show (1 : Int64) = (1 : Int32).toInt64 from by decide, in_wide]
  by_cases h : x < 0
  · rw [if_pos h, if_neg]
    rintro (rfl | rfl) <;> revert h <;> decide
  · obtain ⟨j, hj, rfl⟩ := nI_of h
    rw [if_neg h]
    by_cases h1 : j ≤ 1
    · have : j = 0 ∨ j = 1 := by omega
      rcases this with rfl | rfl <;> rfl
    · rw [if_pos (show (1 : Int32) < nI j from nI_lt (a := 1) (by omega) hj), if_neg]
      rintro (e | e)
      · have := (nI_eq (b := 0) hj (by decide)).mp e; omega
      · have := (nI_eq (b := 1) hj (by decide)).mp e; omega
/-- the reference with another law -/
theorem mC_law {τ τ2 : jS} {v b : Nat} (h : WM τ) (k1 : kp [2, 3, 4, 5, 6, 7, 8] τ τ2) (f : gI τ2 1 0 = gI τ 1 0 ∧ gI τ2 1 2 = gI τ 1 2 ∧ gI τ2 1 8 = gI τ 1 8 ∧ gI τ2 1 35 = gI τ 1 35 ∧ gI τ2 1 6 = gI τ 1 6) (hv : gI τ2 1 13 = nI v) (hb : gI τ2 1 14 = nI b) (hv3 : v ≤ 3) (hb1 : b ≤ 1) : tE (mn τ) (mn τ2) ∧ WM τ2 ∧ tW (mn τ2) = v ∧ tB (mn τ2) = b ∧ tG (mn τ2) = tG (mn τ) ∧ mn τ2 6 = mn τ 6 := by
  have mc : mC τ τ2 := ⟨fun a ha i => k1 a (by simp at ha ⊢; omega) i, f.1, f.2.1, f.2.2.1, f.2.2.2.1⟩
  have e := mC_tE mc
  have r6 := mn_row6 (τ := τ) (τ' := τ2) (fun a ha i => k1 a (by simp at ha ⊢; omega) i)
  have eW : tW (mn τ2) = v := by unfold tW; rw [mn_at rfl, hv, ix_nI (by omega)]
  have eB : tB (mn τ2) = b := by unfold tB; rw [mn_at rfl, hb, ix_nI (by omega)]
  have eG : tG (mn τ2) = tG (mn τ) := by unfold tG; rw [mn_at rfl, mn_at rfl, f.2.2.2.2]
  refine ⟨e, WM_mC mc h ⟨by rw [eW]; exact hv, by omega⟩ ⟨by rw [eB]; exact hb, by omega⟩ ?_ ?_, eW, eB, eG, r6⟩
  · rw [eG, f.2.2.2.2]; exact h.1.2.2.1
  · unfold wG
    rw [eG, r6, (tE_P e).1]
    have hg := h.2.2.2.2.1
    refine ⟨fun g hg' => ?_, fun g h' h1 h2 h3 => hg.2 g h' h1 h2 (by unfold bearsAt at h3 ⊢; rw [r6] at h3; exact h3)⟩
    rw [k1 6 (by decide)]; exact hg.1 g hg'
theorem r_law (k : Nat) (σ τ : jS) (a b : Int32) (_hk : k < 2048) (h : Rel k σ τ) : ∃ r σ2 τ2, f_X10_law σ a b = some (r, σ2) ∧ f_X11_law τ a b = some (r, τ2) ∧ Rel (k + 4) σ2 τ2 := by
  have h0 := h
  obtain ⟨⟨hM, hX, hH, hS, hTT, hTx, hFl, hLg, hSe, hI⟩, sx, sm⟩ := h
  obtain ⟨⟨n1, n2, n3, n4, n5, n6⟩, hS2, hTm, hO, hG, hQ, hu⟩ := hM
  have hM : WM τ := ⟨⟨n1, n2, n3, n4, n5, n6⟩, hS2, hTm, hO, hG, hQ, hu⟩
  have w := wA_of hM.1 hM.2.2.1
  have out : f_X11_law τ a b = some (-1002, τ) → f_X10_law σ a b = some (-1002, σ) → ∃ r σ2 τ2, f_X10_law σ a b = some (r, σ2) ∧ f_X11_law τ a b = some (r, τ2) ∧ Rel (k + 4) σ2 τ2 := fun e1 e2 => ⟨_, _, _, e2, e1, r_mono k _ _ h0⟩
  by_cases za : a = 0
  · subst za
    have em : f_X11_law τ 0 b = (if b < 0 ∨ 3 < b then some (-1002, τ) else some (nI (tW (mn τ)), sI (sI τ 1 13 b) 1 14 (gI τ 1 14))) := by
      unfold f_X11_law f_X11_law_J24 f_X11_law_J30 f_X11_law_J57 f_X11_law_J71 f_X11_law_J97
      have jb14 : jb (gI τ 1 14) = true := by
        rw [n6.1]
        have : tB (mn τ) = 0 ∨ tB (mn τ) = 1 := by omega
        rcases this with e | e <;> rw [e] <;> rfl
      rw [in01, if_pos (Or.inl rfl), bC_e, if_neg (show ¬ (1 : Int32) = 0 by decide), if_pos rfl, show (0 : Int64) = (0 : Int32).toInt64 from by decide, show (3 : Int64) = (3 : Int32).toInt64 from by decide, in_wide, bC_e, if_pos (show (0 : Int32) = 0 from rfl), if_pos (show (0 : Int32) = 0 from rfl), bV_e, if_neg (show ¬ (0 : Int32) = 1 by decide), gI_nei (by decide), bG_t jb14, bV_e, law_out (Or.inl (by decide)), n5.1]
      by_cases z1 : b < 0
      · rw [if_pos z1, if_pos rfl, if_pos (Or.inl z1)]
      · rw [if_neg z1]
        by_cases z2 : 3 < b
        · rw [if_pos z2, if_pos rfl, if_pos (Or.inr z2)]
        · rw [if_neg z2, if_neg (show ¬ (1 : Int32) = 0 by decide), if_neg (fun e => e.elim z1 z2)]
    by_cases z : b < 0 ∨ 3 < b
    · refine out (by rw [em, if_pos z]) ?_
      unfold f_X10_law f_X10_law_J32 f_X10_law_J73
      rw [if_pos rfl, if_neg (show ¬ (0 : Int32) = 1 by decide)]
      rcases z with z | z
      · rw [if_pos z]
      · by_cases z1 : b < 0
        · rw [if_pos z1]
        · obtain ⟨j, hj, rfl⟩ := nI_of z1
          rw [if_neg z1, if_pos (show (4 : Int32) ≤ nI j from nI_le (a := 4) (by have := (nI_ltI (a := 3) (by decide) hj).mp z; omega) hj)]
    · have z1 : ¬ b < 0 := fun e => z (Or.inl e)
      obtain ⟨v, hv, rfl⟩ := nI_of z1
      have v3 : v ≤ 3 := by
        rcases Nat.lt_or_ge 3 v with y | y
        · exact absurd (Or.inr (nI_lt (a := 3) y hv)) z
        · exact y
      rw [if_neg z] at em
      obtain ⟨e, wm, eW, eB, eG, r6⟩ := mC_law (τ2 := sI (sI τ 1 13 (nI v)) 1 14 (gI τ 1 14)) (v := v) (b := tB (mn τ)) hM (kp_tr (kp_sI _ _ _ rfl) (kp_sI _ _ _ rfl)) ⟨rfl, rfl, rfl, rfl, rfl⟩ (by rw [gI_nei (by decide), gI_sI]) (by rw [gI_sI]; exact n6.1) v3 n6.2
      have xh : xH (sI σ 29 3 (nI v)) (sI (sI τ 1 13 (nI v)) 1 14 (gI τ 1 14)) := by
        intro q hq
        rw [(tE_P e).2.2] at hq
        obtain ⟨x, x1, x2, x3, x4⟩ := hH q hq
        obtain ⟨o1, o2⟩ := okx_tE e (fun q => eB.trans q) x2
        exact ⟨x, x1, o1, by rw [o2]; exact x3, x4⟩
      obtain ⟨σ', s1, s2, s3⟩ := settle_fin (σ1 := sI σ 29 3 (nI v)) (τ2 := sI (sI τ 1 13 (nI v)) 1 14 (gI τ 1 14)) h0 e wm (xT_tE e (xTb_kp (σ := σ) (T := σ.2.2.1) (kp_sI _ _ _ rfl) hX.1)) (xG_eq r6 eG (xG_kp (σ := σ) (kp_sI _ _ _ rfl) rfl hX.2.1)) ⟨by rw [gI_sI, eW], by rw [eB]; exact hX.2.2.1.2⟩ xh (rS_keep (σ := σ) (τ := τ) rfl rfl hS) rfl ⟨rfl, rfl, rfl, rfl, rfl, rfl⟩ (kp_sI _ _ _ rfl) ⟨rfl, rfl, rfl, rfl, rfl, rfl⟩ (kp_tr (kp_sI _ _ _ rfl) (kp_sI _ _ _ rfl))
      refine ⟨nI (tW (mn τ)), σ', _, ?_, em, r_mono k _ _ s3⟩
      unfold f_X10_law f_X10_law_J77
      rw [if_pos rfl, if_neg z1, if_neg (show ¬ (4 : Int32) ≤ nI v from nI_ge (b := 4) (by omega) (by decide)), bV_e, bV_e, s1, bD_e, hX.2.2.1.1]
  · by_cases za1 : a = 1
    · subst za1
      have jv : (if gI τ 1 14 = 0 then (0 : Int32) else 1) = nI (tB (mn τ)) := by
        rw [n6.1]
        have : tB (mn τ) = 0 ∨ tB (mn τ) = 1 := by omega
        rcases this with e | e <;> rw [e] <;> rfl
      have em : f_X11_law τ 1 b = (if b = 0 ∨ b = 1 then jloop jFuel (fun s => f_X11_law_B103 s.2 1 b (nI (tB (mn τ))) s.1) (0, sI (sI τ 1 13 (gI τ 1 13)) 1 14 b) else some (-1002, τ)) := by
        unfold f_X11_law f_X11_law_J24 f_X11_law_J30 f_X11_law_J57 f_X11_law_J71 f_X11_law_J97
        rw [in01, if_pos (Or.inr rfl), bC_e, if_neg (show ¬ (1 : Int32) = 0 by decide), if_neg (show ¬ (1 : Int32) = 0 by decide), in01, bC_e]
        by_cases z : b = 0 ∨ b = 1
        · rw [if_pos z, if_pos z, if_neg (show ¬ (1 : Int32) = 0 by decide), if_neg (show ¬ (1 : Int32) = 0 by decide)]
          have e2 : ∀ u : Int32, (if (1 : Int32) = 0 then (bV (sI τ 1 13 b) fun σ3 => if (1 : Int32) = 1 then (if b = 1 then (bG (jb 1) (bV (sI σ3 1 14 1) fun σ4 => jloop jFuel (fun s => f_X11_law_B103 s.2 1 b u s.1) (0, σ4))) else (bG (jb 0) (bV (sI σ3 1 14 0) fun σ4 => jloop jFuel (fun s => f_X11_law_B103 s.2 1 b u s.1) (0, σ4)))) else (bG (jb (gI σ3 1 14)) (bV (sI σ3 1 14 (gI σ3 1 14)) fun σ4 => jloop jFuel (fun s => f_X11_law_B103 s.2 1 b u s.1) (0, σ4)))) else (bV (sI τ 1 13 (gI τ 1 13)) fun σ3 => if (1 : Int32) = 1 then (if b = 1 then (bG (jb 1) (bV (sI σ3 1 14 1) fun σ4 => jloop jFuel (fun s => f_X11_law_B103 s.2 1 b u s.1) (0, σ4))) else (bG (jb 0) (bV (sI σ3 1 14 0) fun σ4 => jloop jFuel (fun s => f_X11_law_B103 s.2 1 b u s.1) (0, σ4)))) else (bG (jb (gI σ3 1 14)) (bV (sI σ3 1 14 (gI σ3 1 14)) fun σ4 => jloop jFuel (fun s => f_X11_law_B103 s.2 1 b u s.1) (0, σ4))))) = jloop jFuel (fun s => f_X11_law_B103 s.2 1 b u s.1) (0, sI (sI τ 1 13 (gI τ 1 13)) 1 14 b) := by
            intro u
            rw [if_neg (show ¬ (1 : Int32) = 0 by decide), bV_e, if_pos rfl]
            rcases z with rfl | rfl
            · rw [if_neg (show ¬ (0 : Int32) = 1 by decide)]; rfl
            · rw [if_pos rfl]; rfl
          rw [← jv]
          by_cases y : gI τ 1 14 = 0
          · rw [if_pos y, if_pos y]; exact e2 _
          · rw [if_neg y, if_neg y]; exact e2 _
        · rw [if_neg z, if_neg z, if_pos (show (0 : Int32) = 0 from rfl)]
      by_cases z : b = 0 ∨ b = 1
      · rw [if_pos z] at em
        rcases z with rfl | rfl
        · have hcM : ∀ q, q < tQ (mn τ) → ∃ c, c < 147968 ∧ gI (sI (sI τ 1 13 (gI τ 1 13)) 1 14 0) 9 q = nI c := fun q hq => by
            obtain ⟨x, x1, x2, x3, x4⟩ := hH q hq
            exact ⟨_, cv_lt w x2, x3⟩
          obtain ⟨τ2, l1, l2, l3⟩ := law_forget (τ := sI (sI τ 1 13 (gI τ 1 13)) 1 14 0) (v := nI (tB (mn τ))) (N := tQ (mn τ)) n4.1 n4.2 hcM
          rw [l1] at em
          obtain ⟨σ1, f1, f2, f3⟩ := x_forgetW (σ := sI σ 29 4 0) w n4.2 (xTb_kp (σ := σ) (T := σ.2.2.1) (kp_sI _ _ _ rfl) hX.1) (fun q => xW_fr (fr_sI (H := [29]) σ (h := 29) 4 0 (by decide)) rfl (hX.2.2.2 (tQ_tP hM q)).1) (fun q hq => by
            obtain ⟨x, x1, x2, x3, x4⟩ := hH q hq
            exact ⟨x, x1, x2⟩)
          have kM : ∀ l : List Nat, l.contains 1 = false → l.contains 9 = false → kp l τ τ2 := fun l d1 d9 => kp_tr (kp_tr (kp_sI _ _ _ d1) (kp_sI _ _ _ d1)) (kp_fr l2 (List.all_eq_true.mpr fun x hx => by
            have : x ≠ 9 := fun e => by subst e; simp [hx] at d9
            simp [this]))
          have m1 : ∀ i, gI τ2 1 i = gI (sI (sI τ 1 13 (gI τ 1 13)) 1 14 0) 1 i := fun i => fr_I l2 (by decide) i
          have mi : ∀ i, i ≠ 13 → i ≠ 14 → gI τ2 1 i = gI τ 1 i := fun i h1 h2 => by rw [m1, gI_nei h2, gI_nei h1]
          obtain ⟨e, wm, eW, eB, eG, r6⟩ := mC_law (τ2 := τ2) (v := tW (mn τ)) (b := 0) hM (kM _ rfl rfl) ⟨mi _ (by decide) (by decide), mi _ (by decide) (by decide), mi _ (by decide) (by decide), mi _ (by decide) (by decide), mi _ (by decide) (by decide)⟩ (by rw [m1, gI_nei (by decide), gI_sI]; exact n5.1) (by rw [m1, gI_sI]; rfl) n5.2 (by decide)
          have kX : ∀ l : List Nat, l.contains 29 = false → l.contains 30 = false → kp l σ σ1 := fun l d1 d9 => kp_tr (kp_sI _ _ _ d1) (kp_fr f2 (List.all_eq_true.mpr fun x hx => by
            have : x ≠ 30 := fun e => by subst e; simp [hx] at d9
            simp [this]))
          have xX : ∀ a i, a ≠ 29 → a ≠ 30 → gI σ1 a i = gI σ a i := fun a i h1 h2 => by rw [fr_I f2 (by simpa using h2), gI_ne h1]
          have x29 : ∀ i, gI σ1 29 i = gI (sI σ 29 4 0) 29 i := fun i => fr_I f2 (by decide) i
          have xh : xH (σ1) (τ2) := by
            intro q hq
            rw [(tE_P e).2.2] at hq
            obtain ⟨x, x1, x2, x3, x4⟩ := hH q hq
            obtain ⟨o1, o2⟩ := xfor_ok e w x2
            refine ⟨xfor (mn τ) x, f3 q x hq x1 x2, o1, ?_, ?_⟩
            · rw [o2]; exact l3 q _ hq (cv_lt w x2) x3
            · rw [xX _ _ (by decide) (by decide), x4]
              exact (fr_I l2 (show (10 : Nat) ∉ [9] by decide) q).symm
          obtain ⟨σ', s1, s2, s3⟩ := settle_fin (σ1 := σ1) (τ2 := τ2) h0 e wm (xT_tE e (by
              have := xTb_kp (σ := σ) (σ' := σ1) (T := σ.2.2.1) (kX _ rfl rfl) hX.1
              unfold xT
              rw [show σ1.2.2.1 = σ.2.2.1 from (fr_T f2).trans rfl]
              exact this)) (xG_eq r6 eG (xG_kp (σ := σ) (kX _ rfl rfl) (xX _ _ (by decide) (by decide)) hX.2.1)) ⟨by rw [x29, gI_nei (by decide), eW]; exact hX.2.2.1.1, by rw [x29, gI_sI, eB]; rfl⟩ xh (rS_keep (σ := σ) (τ := τ) (by rw [x29, gI_nei (by decide)]) (mi _ (by decide) (by decide)) hS) (f2.1.trans rfl) ⟨xX _ _ (by decide) (by decide), xX _ _ (by decide) (by decide), xX _ _ (by decide) (by decide), xX _ _ (by decide) (by decide), xX _ _ (by decide) (by decide), xX _ _ (by decide) (by decide)⟩ (kX _ rfl rfl) ⟨mi _ (by decide) (by decide), mi _ (by decide) (by decide), mi _ (by decide) (by decide), mi _ (by decide) (by decide), mi _ (by decide) (by decide), mi _ (by decide) (by decide)⟩ (kM _ rfl rfl)
          refine ⟨nI (tB (mn τ)), σ', τ2, ?_, em, r_mono k _ _ s3⟩
          unfold f_X10_law f_X10_law_J32 f_X10_law_J46 f_X10_law_J77
          rw [if_neg (show ¬ (1 : Int32) = 0 by decide), if_pos rfl, if_pos rfl, bV_e, bV_e, if_pos rfl, f1, bD_e, s1, bD_e, hX.2.2.1.2]
        · rw [law_out (Or.inr (by decide))] at em
          obtain ⟨e, wm, eW, eB, eG, r6⟩ := mC_law (τ2 := sI (sI τ 1 13 (gI τ 1 13)) 1 14 1) (v := tW (mn τ)) (b := 1) hM (kp_tr (kp_sI _ _ _ rfl) (kp_sI _ _ _ rfl)) ⟨rfl, rfl, rfl, rfl, rfl⟩ (by rw [gI_nei (by decide), gI_sI]; exact n5.1) (by rw [gI_sI]; rfl) n5.2 (by decide)
          have xh : xH (sI σ 29 4 1) (sI (sI τ 1 13 (gI τ 1 13)) 1 14 1) := by
            intro q hq
            rw [(tE_P e).2.2] at hq
            obtain ⟨x, x1, x2, x3, x4⟩ := hH q hq
            obtain ⟨o1, o2⟩ := okx_tE e (fun _ => eB) x2
            exact ⟨x, x1, o1, by rw [o2]; exact x3, x4⟩
          obtain ⟨σ', s1, s2, s3⟩ := settle_fin (σ1 := sI σ 29 4 1) (τ2 := sI (sI τ 1 13 (gI τ 1 13)) 1 14 1) h0 e wm (xT_tE e (xTb_kp (σ := σ) (T := σ.2.2.1) (kp_sI _ _ _ rfl) hX.1)) (xG_eq r6 eG (xG_kp (σ := σ) (kp_sI _ _ _ rfl) rfl hX.2.1)) ⟨by rw [eW]; exact hX.2.2.1.1, by rw [gI_sI, eB]; rfl⟩ xh (rS_keep (σ := σ) (τ := τ) rfl rfl hS) rfl ⟨rfl, rfl, rfl, rfl, rfl, rfl⟩ (kp_sI _ _ _ rfl) ⟨rfl, rfl, rfl, rfl, rfl, rfl⟩ (kp_tr (kp_sI _ _ _ rfl) (kp_sI _ _ _ rfl))
          refine ⟨nI (tB (mn τ)), σ', _, ?_, em, r_mono k _ _ s3⟩
          unfold f_X10_law f_X10_law_J32 f_X10_law_J46 f_X10_law_J77
          rw [if_neg (show ¬ (1 : Int32) = 0 by decide), if_pos rfl, if_neg (show ¬ (1 : Int32) = 0 by decide), if_pos rfl, bV_e, bV_e, if_neg (show ¬ (1 : Int32) = 0 by decide), s1, bD_e, hX.2.2.1.2]
      · rw [if_neg z] at em
        refine out em ?_
        unfold f_X10_law f_X10_law_J32 f_X10_law_J73
        rw [if_neg (show ¬ (1 : Int32) = 0 by decide), if_pos rfl, if_neg (fun e => z (Or.inl e)), if_neg (fun e => z (Or.inr e))]
    · refine out ?_ ?_
      · unfold f_X11_law f_X11_law_J30
        rw [in01, if_neg (fun e => e.elim za za1), bC_e, if_pos rfl]
      · unfold f_X10_law f_X10_law_J32 f_X10_law_J73
        rw [if_neg za, if_neg za1]
