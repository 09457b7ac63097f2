/-! town, whole -/
theorem xTo_cong {σ : jS} {T : Nat} {A B : Tb} (e : tP A = tP B ∧ tT A = tT B ∧ tQ A = tQ B) (e2 : ∀ p, p < tP B → A 2 p = B 2 p) (e3 : ∀ t, t < tT B → A 3 t = B 3 t ∧ A 4 t = B 4 t) (e7 : ∀ q, q < tQ B → A 7 q = B 7 q ∧ A 8 q = B 8 q) (x : xTo σ B T) : xTo σ A T := by
  obtain ⟨a, b, c, d, f, g⟩ := x
  obtain ⟨eP, eT, eQ⟩ := e
  refine ⟨by rw [eP]; exact a, by rw [eT]; exact b, by rw [eQ]; exact c, fun p hp => ?_, fun t ht => ?_, fun q hq => ?_⟩
  · rw [eP] at hp; rw [e2 p hp]; exact d p hp
  · rw [eT] at ht; rw [(e3 t ht).1, (e3 t ht).2]; exact f t ht
  · rw [eQ] at hq; rw [(e7 q hq).1, (e7 q hq).2]; exact g q hq
theorem sM_keep2 {k : Nat} {τ τ' : jS} (h : kp [18, 19, 39] τ τ') (h1 : gI τ' 1 39 = gI τ 1 39) (h2 : gI τ' 1 68 = gI τ 1 68) (h12 : s12 τ') (s : sM k τ) : sM k τ' := by
  obtain ⟨⟨a0, n, a1, a2, a3, a4⟩, l, b2, b3, b4⟩ := s
  refine ⟨⟨h12, n, a1, h1.trans a2, fun i hi => ?_, fun c hc => ?_⟩, l, b2, h2.trans b3, fun c hc => ?_⟩
  · rw [h 19 (by decide)]; exact a3 i hi
  · rw [h 18 (by decide)]
    rcases a4 c hc with z | ⟨i, z1, z2⟩
    · exact Or.inl z
    · exact Or.inr ⟨i, z1, by rw [h 19 (by decide)]; exact z2⟩
  · rw [h 39 (by decide)]; exact b4 c hc
theorem r_town (k : Nat) (σ τ : jS) (_hk : k < 2048) (h : Rel k σ τ) : ∃ r σ2 τ2, f_X10_town σ = some (r, σ2) ∧ f_X11_town τ = some (r, τ2) ∧ Rel (k + 4) σ2 τ2 := by
  have h0 := h
  obtain ⟨⟨hM, hX, hH, hS, hTT, hTx, hFl, hLg, hSe, hI⟩, sx, sm⟩ := h
  obtain ⟨n, n5, t1, t2, t3⟩ := hTx
  -- the two handles
  obtain ⟨T0, T, hT0, hT, e0, e1, hne⟩ : ∃ T0 T, (T0 = 51 ∨ T0 = 61) ∧ (T = 51 ∨ T = 61) ∧ σ.2.2.1 = T0 ∧ σ.2.2.2 = T ∧ T0 ≠ T := by
    rcases hTT with ⟨a, b⟩ | ⟨a, b⟩
    · exact ⟨51, 61, Or.inl rfl, Or.inr rfl, a, b, by decide⟩
    · exact ⟨61, 51, Or.inr rfl, Or.inl rfl, a, b, by decide⟩
  -- the text
  have tw : ∀ i, i < n → ix (gI σ 3 i) < 256 ∧ gI σ 3 i = nI (ix (gI σ 3 i)) ∧ gI τ 11 i = nI (ix (gI σ 3 i)) := fun i hi => by
    obtain ⟨c, c1, c2, c3⟩ := t3 i hi
    rw [c2, c3, ix_nI (by omega)]
    exact ⟨c1, rfl, rfl⟩
  obtain ⟨σ0, a1, a2, a3, a4⟩ := x_ready (w := fun i => ix (gI σ 3 i)) (show txX σ n _ from ⟨n5, t1, fun i hi => ⟨(tw i hi).1, (tw i hi).2.1⟩⟩) hT
  generalize hw : (fun i => ix (gI σ 3 i)) = w at *
  generalize et0 : sI (sI (sI (sI (sI (sI τ 1 17 (-1)) 1 18 0) 1 23 0) 1 25 0) 1 28 0) 1 30 0 = τ0
  have m0 : mP τ τ0 := by
    rw [← et0]
    exact mP_tr (mP_tr (mP_tr (mP_tr (mP_tr (mP_1 _ (by decide)) (mP_1 _ (by decide))) (mP_1 _ (by decide))) (mP_1 _ (by decide))) (mP_1 _ (by decide))) (mP_1 _ (by decide))
  have z1 : gI τ0 1 17 = -1 := by rw [← et0, gI_nei (by decide), gI_nei (by decide), gI_nei (by decide), gI_nei (by decide), gI_nei (by decide), gI_sI]
  have z2 : gI τ0 1 18 = nI 0 := by rw [← et0, gI_nei (by decide), gI_nei (by decide), gI_nei (by decide), gI_nei (by decide), gI_sI]; rfl
  have z3 : gI τ0 1 23 = nI 0 := by rw [← et0, gI_nei (by decide), gI_nei (by decide), gI_nei (by decide), gI_sI]; rfl
  have z4 : gI τ0 1 25 = nI 0 := by rw [← et0, gI_nei (by decide), gI_nei (by decide), gI_sI]; rfl
  have z5 : gI τ0 1 28 = nI 0 := by rw [← et0, gI_nei (by decide), gI_sI]; rfl
  have z6 : gI τ0 1 30 = nI 0 := by rw [← et0, gI_sI]; rfl
  have pm0 : pM τ0 n w B0 := by
    refine ⟨⟨n5, (mP_i m0 (by decide)).trans t2, fun i hi => ?_⟩, z1, ⟨z3, z4, z5, z6⟩, fun p hp => absurd hp (Nat.not_lt_zero p), fun p hp => absurd hp (Nat.not_lt_zero p), fun p hp => absurd hp (Nat.not_lt_zero p), fun p hp => absurd hp (Nat.not_lt_zero p)⟩
    have := tw i hi
    rw [← hw]
    exact ⟨this.1, (mP_kp m0 (l := [11]) rfl 11 (by decide) i).trans this.2.2⟩
  have take : ∀ B τe, pM τe n w B → gB B → ∃ τ', f_X11_town_J51 τe 0 = some (nI (tP B), τ') ∧ tkRes B (sI τe 1 16 0) τ' := by
    intro B τe pm g
    have pm2 : pM (sI τe 1 16 0) 0 w B := by
      obtain ⟨t, e17, ⟨b1, b2, b3, b4⟩, c1, c2, c3, c4⟩ := pm
      exact ⟨⟨by decide, gI_sI _ _ _ _, fun i hi => absurd hi (Nat.not_lt_zero i)⟩, (gI_nei (by decide)).trans e17, ⟨(gI_nei (by decide)).trans b1, (gI_nei (by decide)).trans b2, (gI_nei (by decide)).trans b3, (gI_nei (by decide)).trans b4⟩, c1, c2, c3, c4⟩
    obtain ⟨τ', x1, x2⟩ := m_takeTown pm2 g
    refine ⟨τ', ?_, x2⟩
    unfold f_X11_town_J51
    rw [bV_e, if_pos (show (0 : Int32) ≤ 0 by decide), x1, bD_e, x2.2.2.2.2.2.2.1.1]
  obtain ⟨r, σe, τe, o', b1, b2, b3, b4, b5, b6⟩ := q_read a3 a4 pm0 z2 (fun B τe _ pm g => by
    obtain ⟨τ', x1, _⟩ := take B τe pm g
    exact ⟨_, x1⟩)
  have FX : pFr T σ σe := pFr_tr a2 b3
  have FM : mP τ τe := mP_tr m0 b4
  have mtown : f_X11_town τ = some o' := by
    unfold f_X11_town
    rw [bV_e, bV_e, bV_e, bV_e, bV_e, bV_e, et0]
    exact b2
  have xread : f_X5_read σ T = some (r, σe) := by rw [a1]; exact b1
  -- handles off the spare town
  have off : ∀ a, a ≠ 2 → (a < T ∨ T + 9 < a) → ∀ i, gI σe a i = gI σ a i := fun a h2 h3 i => fr_I FX.1 (by simp; omega) i
  have offL : ∀ a, a ≠ 2 → (a < T ∨ T + 9 < a) → ∀ i, gL σe a i = gL σ a i := fun a h2 h3 i => fr_L FX.1 (by simp; omega) i
  have T0T : ∀ j, j ≤ 6 → T0 + j < T ∨ T + 9 < T0 + j := fun j hj => by omega
  generalize es5 : sI (sI σe 1 9 (gI σe 2 2)) 2 1 0 = σ5
  have q5 : ∀ a, a ≠ 1 → a ≠ 2 → ∀ i, gI σ5 a i = gI σe a i := fun a h1 h2 i => by rw [← es5, gI_ne h2, gI_ne h1]
  have q19 : gI σ5 1 9 = gI σe 2 2 := by rw [← es5, gI_ne (by decide), gI_sI]
  have q21 : gI σ5 2 1 = 0 := by rw [← es5, gI_sI]
  have qL : ∀ a i, gL σ5 a i = gL σe a i := fun a i => by rw [← es5]; rfl
  have qT : σ5.2.2 = σ.2.2 := by rw [← es5]; exact FX.1.1
  have q : ∀ a, a ≠ 1 → a ≠ 2 → (a < T ∨ T + 9 < a) → ∀ i, gI σ5 a i = gI σ a i := fun a h1 h2 h3 i => (q5 a h1 h2 i).trans (off a h2 h3 i)
  have keep5 : ∀ l : List Nat, l.all (fun a => decide (a ≠ 1) && decide (a ≠ 2) && (decide (a < 51))) = true → kp l σ σ5 := fun l hl a ha i => by
    have := List.all_eq_true.mp hl a ha
    simp at this
    exact q a this.1.1 this.1.2 (by omega) i
  unfold f_X10_town
  rw [bV_e, e1, xread, bD_e, bV_e, bV_e, es5]
  rcases b6 with ⟨hr, J, B, px, pm, g⟩ | ⟨f, f0, f5, hr, J⟩
  · -- a town without a fault
    obtain ⟨τ2, x1, x2⟩ := take B τe pm g
    rw [x1] at J
    have eo : o' = (nI (tP B), τ2) := (Option.some.inj J).symm
    obtain ⟨n1, n2, n3, n4, n5', n6⟩ := hM.1
    have s12e : s12 (sI τe 1 16 0) := fun p hp => by rw [gI_ne (by decide)]; exact FM.2 sm.1.1 p hp
    have o16 : ∀ i, i ≠ 16 → i ∉ [17, 18, 20, 21, 22, 23, 25, 28, 30, 33, 34] → gI (sI τe 1 16 0) 1 i = gI τ 1 i := fun i h1 h2 => (gI_nei h1).trans (mP_i FM h2)
    obtain ⟨wm, ⟨eP, eT, eG, eQ, eW, eB⟩, w2, w3, w6, w7⟩ := tk_WM g x2 s12e (lw := tW (mn τ)) (b := tB (mn τ)) ((o16 13 (by decide) (by decide)).trans n5'.1) n5'.2 ((o16 14 (by decide) (by decide)).trans n6.1) n6.2 ((o16 35 (by decide) (by decide)).trans hM.2.2.2.2.2.2)
    obtain ⟨r1, r2, r3, r4, r5, r6, r7, r11, r12, r13, r14⟩ := x2
    have e2' : ∀ p, p < tP B → mn τ2 2 p = B 2 p := fun p hp => w2 p hp ((gI_ne (by decide)).trans (pm.2.2.2.1 p hp))
    obtain ⟨tx, hT', c3, c2, xt, xg⟩ := px
    generalize e9 : (sU (sT σ5 T) T0 : jS) = σ9
    have g9 : ∀ a i, gI σ9 a i = gI σ5 a i := fun a i => by rw [← e9]; rfl
    have t9 : σ9.2.2 = (T, T0) := by rw [← e9]; rfl
    have xg9 : xGr σ9 (T + 6) B := xGr_keep (fun a ha i => by rw [g9]; exact q5 a (by simp at ha; omega) (by simp at ha; omega) i) xg
    obtain ⟨s1, y1, y2, y3⟩ := x_takeT hT xg9 g.2.2.1
    have s1T : s1.2.2 = (T, T0) := y2.1.trans t9
    have s1o : ∀ a, a ∉ [32, 33, 34, 35] → ∀ i, gI s1 a i = gI σ5 a i := fun a ha i => (fr_I y2 ha i).trans (g9 a i)
    have xts : xTo s1 B T := by
      have c : ∀ j, j ≤ 5 → ∀ i, gI s1 (T + j) i = gI σe (T + j) i := fun j hj i => (s1o _ (by simp; omega) i).trans (q5 _ (by omega) (by omega) i)
      exact ⟨(c 0 (by decide) 6).trans xt.1, (c 0 (by decide) 7).trans xt.2.1, (c 0 (by decide) 8).trans xt.2.2.1, fun p hp => (c 1 (by decide) p).trans (xt.2.2.2.1 p hp), fun t ht => ⟨(c 2 (by decide) t).trans (xt.2.2.2.2.1 t ht).1, (c 3 (by decide) t).trans (xt.2.2.2.2.1 t ht).2⟩, fun q hq => ⟨(c 4 (by decide) q).trans (xt.2.2.2.2.2 q hq).1, (c 5 (by decide) q).trans (xt.2.2.2.2.2 q hq).2⟩⟩
    have hTs : xT s1 (mn τ2) := by
      unfold xT
      rw [show s1.2.2.1 = T from by rw [s1T]]
      exact ⟨hT, xTo_cong ⟨eP, eT, eQ⟩ e2' w3 w7 xts⟩
    have hGs : xGr s1 32 (mn τ2) := xGr_cong eG w6 y3
    have hLs : xL s1 (mn τ2) := ⟨by rw [s1o 29 (by decide), q 29 (by decide) (by decide) (by omega), eW]; exact hX.2.2.1.1, by rw [s1o 29 (by decide), q 29 (by decide) (by decide) (by omega), eB]; exact hX.2.2.1.2⟩
    obtain ⟨σ', v1, v2, v3, v4, v5, v6, v7, v8, v9⟩ := x_townTail (wA_of wm.1 wm.2.2.1) hTs (fun p hp => (wm.2.1 p hp).2) wm.1.2.2.2.2.1.2 hLs hGs.2.2 wm.1.2.2.2.1.2
    have fin : f_X10_town σ = f_X10_town σ := rfl
    refine ⟨nI (tP B), σ', τ2, ?_, by rw [mtown, eo], r_mono k _ _ ⟨⟨wm, ⟨?_, ?_, ?_, fun _ => ⟨v8, v9⟩⟩, ?_, ?_, ?_, ?_, ?_, ?_, ?_, ?_⟩, ?_, ?_⟩⟩
    · rw [hr, if_pos rfl, bV_e, bV_e, show σ5.2.2.1 = T0 from by rw [qT]; exact e0, show σ5.2.2.2 = T from by rw [qT]; exact e1, bV_e, bV_e, e9, bV_e, show σ9.2.2.1 = T from by rw [t9], bH_t (T_in hT), (T_gr hT).1, y1, bD_e, v1, eP]
    · have := xTb_kp (σ := s1) (σ' := σ') (T := s1.2.2.1) (kp_fr v2 rfl) hTs
      rw [← fr_T v2] at this
      exact this
    · exact xGr_keep (kp_fr v2 rfl) hGs
    · exact ⟨(fr_I v2 (by decide) _).trans hLs.1, (fr_I v2 (by decide) _).trans hLs.2⟩
    · intro u hu
      have hu' : u < tQ B := by rw [eQ] at hu; exact hu
      obtain ⟨_, _, e7, e8, e9'⟩ := wm.2.2.2.2.2.1 u hu
      obtain ⟨o1, o2⟩ := tdx_ok (A := mn τ2) (q := u) wm.1.1.2 e7 e8 e9'
      refine ⟨tdx (mn τ2) u, (v3 u hu).1, o1, ?_, ?_⟩
      · rw [o2, (w7 u hu').1, (w7 u hu').2]; exact (r14 u hu').2.2.1
      · rw [(v3 u hu).2]; exact (r14 u hu').2.2.2.symm
    · obtain ⟨sd, d1, d2, d3⟩ := hS
      refine ⟨sd, d1, ?_, ?_⟩
      · rw [fr_I v2 (by decide), s1o 29 (by decide), q 29 (by decide) (by decide) (by omega)]; exact d2
      · rw [r2 36 (by decide) (by decide) (by decide) (by decide) (by decide) (by decide), o16 36 (by decide) (by decide)]; exact d3
    · have : σ'.2.2 = (T, T0) := v2.1.trans s1T
      unfold rTT
      rw [this]
      show (T = 51 ∧ T0 = 61) ∨ (T = 61 ∧ T0 = 51)
      omega
    · refine ⟨0, by decide, ?_, ?_, fun i hi => absurd hi (Nat.not_lt_zero i)⟩
      · rw [fr_I v2 (by decide), s1o 2 (by decide), q21]; rfl
      · rw [r2 16 (by decide) (by decide) (by decide) (by decide) (by decide) (by decide), gI_sI]; rfl
    · show gI σ' 1 9 = gI τ2 1 17
      rw [fr_I v2 (by decide), s1o 1 (by decide), q19, r2 17 (by decide) (by decide) (by decide) (by decide) (by decide) (by decide), gI_nei (by decide)]
      exact b5
    · exact ⟨0, by decide, v4, r3, fun i hi => absurd hi (Nat.not_lt_zero i)⟩
    · exact ⟨0, by decide, v5, r4, fun i hi => absurd hi (Nat.not_lt_zero i)⟩
    · exact ⟨⟨Or.inl r5, v6.trans r5.symm, fun u => absurd (r5.symm.trans u) (by decide)⟩, Or.inl r6, v7.trans r6.symm, fun u => absurd (r6.symm.trans u) (by decide)⟩
    · refine sX_keep (σ := σ) ?_ ?_ ?_ sx
      · intro a ha i
        have : a ≠ 1 ∧ a ≠ 2 ∧ a < 51 ∧ a ∉ [32, 33, 34, 35] ∧ a ∉ [30, 31, 23, 37, 44, 5, 6, 7, 8, 9, 10, 11] := by
          simp at ha ⊢; omega
        exact (fr_I v2 this.2.2.2.2 i).trans ((s1o a this.2.2.2.1 i).trans (q a this.1 this.2.1 (by omega) i))
      · exact (fr_I v2 (by decide) _).trans ((s1o 4 (by decide) _).trans (q 4 (by decide) (by decide) (by omega) _))
      · exact (fr_I v2 (by decide) _).trans ((s1o 4 (by decide) _).trans (q 4 (by decide) (by decide) (by omega) _))
    · refine sM_keep2 (τ := τ) ?_ ?_ ?_ ?_ sm
      · intro a ha i
        have : a ≠ 1 ∧ a ∉ [12, 13, 14, 15, 16, 17] ∧ a ∉ [1, 2, 3, 4, 5, 6, 7, 8, 9, 10, 41] := by
          simp at ha ⊢; omega
        exact (fr_I r1 this.2.2 i).trans ((gI_ne this.1).trans (FM.1 a i (fun z => this.1 z.1) this.2.1))
      · exact (r2 39 (by decide) (by decide) (by decide) (by decide) (by decide) (by decide)).trans (o16 39 (by decide) (by decide))
      · exact (r2 68 (by decide) (by decide) (by decide) (by decide) (by decide) (by decide)).trans (o16 68 (by decide) (by decide))
      · intro p hp
        rw [fr_I r1 (by decide)]; exact s12e p hp
  · -- a fault
    have Jf : f_X11_town_J51 τe (nI f) = some (((-10) : Int32) - nI f, sI τe 1 16 0) := by
      unfold f_X11_town_J51
      rw [bV_e, if_neg (fun u => by have := (nI_le0 (by omega)).mp u; omega)]
    rw [Jf] at J
    have eo : o' = (((-10) : Int32) - nI f, sI τe 1 16 0) := (Option.some.inj J).symm
    obtain ⟨m1, m2⟩ := mS_W (mS_tr (mP_mS FM) (mS_sI τe (h := 1) (i := 16) 0 rfl rfl rfl)) hM
    have o16 : ∀ i, i ≠ 16 → i ∉ [17, 18, 20, 21, 22, 23, 25, 28, 30, 33, 34] → gI (sI τe 1 16 0) 1 i = gI τ 1 i := fun i h1 h2 => (gI_nei h1).trans (mP_i FM h2)
    have km : ∀ l : List Nat, l.all (fun a => ![1, 12, 13, 14, 15, 16, 17].contains a) = true → kp l τ (sI τe 1 16 0) := fun l hl => kp_tr (mP_kp FM hl) (kp_sI _ _ _ (by
      cases hc : l.contains 1 with
      | false => rfl
      | true =>
        have := List.all_eq_true.mp hl 1 (List.contains_iff_mem.mp hc)
        simp at this))
    refine ⟨_, σ5, sI τe 1 16 0, by rw [hr, if_neg (fun u => by have := (nI_eq0 (by omega)).mp u; omega)], by rw [mtown, eo], r_mono k _ _ ⟨⟨m1, ⟨?_, ?_, ?_, fun z => ⟨?_, ?_⟩⟩, ?_, ?_, ?_, ?_, ?_, ?_, ?_, ?_⟩, ?_, ?_⟩⟩
    · rw [m2]
      unfold xT
      rw [qT, e0]
      obtain ⟨u1, u2⟩ := hX.1
      rw [e0] at u2
      have c : ∀ j, j ≤ 5 → ∀ i, gI σ5 (T0 + j) i = gI σ (T0 + j) i := fun j hj i => q _ (by omega) (by omega) (T0T j (by omega)) i
      exact ⟨hT0, (c 0 (by decide) 6).trans u2.1, (c 0 (by decide) 7).trans u2.2.1, (c 0 (by decide) 8).trans u2.2.2.1, fun p hp => (c 1 (by decide) p).trans (u2.2.2.2.1 p hp), fun t ht => ⟨(c 2 (by decide) t).trans (u2.2.2.2.2.1 t ht).1, (c 3 (by decide) t).trans (u2.2.2.2.2.1 t ht).2⟩, fun q hq => ⟨(c 4 (by decide) q).trans (u2.2.2.2.2.2 q hq).1, (c 5 (by decide) q).trans (u2.2.2.2.2.2 q hq).2⟩⟩
    · rw [m2]; exact xG_kp (keep5 _ rfl) (q 32 (by decide) (by decide) (by omega) _) hX.2.1
    · rw [m2]; exact ⟨(q 29 (by decide) (by decide) (by omega) _).trans hX.2.2.1.1, (q 29 (by decide) (by decide) (by omega) _).trans hX.2.2.1.2⟩
    · rw [m2] at z ⊢
      obtain ⟨⟨c1, c2, c3, c4, c5, c6⟩, _⟩ := hX.2.2.2 z
      have l5 : ∀ a, a = 8 ∨ a = 9 ∨ a = 10 → ∀ i, gL σ5 a i = gL σ a i := fun a ha i => (qL a i).trans (offL a (by omega) (by omega) i)
      refine ⟨by rw [q 5 (by decide) (by decide) (by omega)]; exact c1, fun s hs => ?_, fun t ht => ?_, fun s hs => ?_, fun s hs => ?_, fun s hs => ?_⟩
      · rw [q 6 (by decide) (by decide) (by omega), q 7 (by decide) (by decide) (by omega)]; exact c2 s hs
      · rw [q 6 (by decide) (by decide) (by omega), q 7 (by decide) (by decide) (by omega)]; exact c3 t ht
      · rw [l5 8 (by omega)]; exact c4 s hs
      · rw [l5 9 (by omega)]; exact c5 s hs
      · rw [l5 10 (by omega)]; exact c6 s hs
    · rw [m2] at z ⊢
      intro p hp
      rw [q 11 (by decide) (by decide) (by omega)]; exact (hX.2.2.2 z).2 p hp
    · exact xH_keep m2 (keep5 _ rfl) (km _ rfl) hH
    · exact rS_keep (σ := σ) (τ := τ) (q 29 (by decide) (by decide) (by omega) _) (o16 36 (by decide) (by decide)) hS
    · exact rTT_keep qT hTT
    · exact ⟨0, by decide, q21, gI_sI _ _ _ _, fun i hi => absurd hi (Nat.not_lt_zero i)⟩
    · show gI σ5 1 9 = gI (sI τe 1 16 0) 1 17
      rw [q19, gI_nei (by decide)]; exact b5
    · rw [m2]; exact rLg_keep (σ := σ) (τ := τ) (q 23 (by decide) (by decide) (by omega) _) (o16 56 (by decide) (by decide)) (keep5 _ rfl) (km _ rfl) hLg
    · rw [m2]; exact rSe_keep (σ := σ) (τ := τ) (q 23 (by decide) (by decide) (by omega) _) (o16 59 (by decide) (by decide)) (keep5 _ rfl) (km _ rfl) hSe
    · rw [m2]; exact rI_keep (keep5 _ rfl) (km _ rfl) hI
    · exact sX_keep (keep5 _ rfl) (q 4 (by decide) (by decide) (by omega) _) (q 4 (by decide) (by decide) (by omega) _) sx
    · refine sM_keep2 (τ := τ) (km _ rfl) (o16 39 (by decide) (by decide)) (o16 68 (by decide) (by decide)) ?_ sm
      intro p hp
      rw [gI_ne (by decide)]; exact FM.2 sm.1.1 p hp
