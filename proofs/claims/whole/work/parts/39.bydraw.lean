theorem mn_seed (τ : jS) (v : Int32) : mn (sI τ 1 36 v) = mn τ := mn_eq fun a i h => gI_sIn fun q => by
  rw [q.1, q.2] at h
  exact absurd h (by decide)
theorem WM_seed {τ : jS} {v : Int32} (w : WM τ) : WM (sI τ 1 36 v) := WM_keep (fun a i h => gI_sIn fun q => by
  rw [q.1, q.2] at h
  exact absurd h (by decide)) (fun i => gI_ne (by decide)) (gI_nei (by decide)) w
theorem WX_seed {σ : jS} {A : Tb} {v : Int32} (w : WX σ A) : WX (sI σ 29 5 v) A := WX_keep (σ := σ) (σ' := sI σ 29 5 v) rfl (fun a i h => gI_sIn fun q => by
  rw [q.1, q.2] at h
  exact absurd h (by decide)) (fun _ _ _ => rfl) w
theorem q_byDraw {σ τ : jS} {s q x : Nat} (hM : WM τ) (hX : WX σ (mn τ)) (hq : q < tQ (mn τ)) (hx : gI σ 30 q = nI x) (ok : okx (mn τ) x) (h9 : gI τ 9 q = nI (cv (mn τ) x)) (s1 : gI σ 29 5 = nI s) (s2 : gI τ 1 36 = nI s) (s3 : s < 2 ^ 31) : ∃ r y σ' τ', okx (mn τ) y ∧ f_X10_handByDraw σ (nI q) = some (r, xNew σ' q (nI y)) ∧ f_X11_handOn τ (nI q) (-1) = some (r, mNew τ' q (nI (cv (mn τ) y))) ∧ ((σ' = σ ∧ τ' = τ) ∨ ∃ v, v < 2 ^ 31 ∧ σ' = sI σ 29 5 (nI v) ∧ τ' = sI τ 1 36 (nI v)) := by
  obtain ⟨hN, hS, hTm, hO, hGm, hQ, hu⟩ := hM
  have hM : WM τ := ⟨hN, hS, hTm, hO, hGm, hQ, hu⟩
  have h4 : q < 4 := by have := hN.2.2.2.1.2; omega
  have w := wA_of hN hTm
  have hP : tP (mn τ) ≠ 0 := by have := (hQ q hq).2.2.1; omega
  obtain ⟨hw, hf⟩ := hX.2.2.2 hP
  have hc := cv_lt w ok
  have g : jin (nI q) 4 = true := jin_nI h4 (by omega)
  have em : f_X11_mayNow τ (nI (cv (mn τ) x)) = some (nI (nowG (mn τ) (owes (mn τ)) (cv (mn τ) x))) := m_mayNow hN hS hGm hc (ow_now hN hO hu hc)
  have ex := x_allowed w hw hf ok
  rw [may_ended w ok] at ex
  unfold f_X10_handByDraw f_X11_handOn
  rw [at30 h4, bC_e, hx, ex, bC_e, bG_t g, ix_nI (by omega), h9, em, bC_e]
  by_cases z : nowG (mn τ) (owes (mn τ)) (cv (mn τ) x) = 0
  · rw [z, if_pos (show nI 0 = 0 from rfl), if_pos (show nI 0 = 0 from rfl), m_onP h4 hc h9]
    obtain ⟨f1, _⟩ := flp_ok ok
    refine ⟨-1, flp x, σ, τ, f1, ?_, by rw [flp_cv w ok], Or.inl ⟨rfl, rfl⟩⟩
    rw [show nI x ^^^ (1 : Int32) = nI (flp x) from by rw [show (1 : Int32) = nI 1 from rfl, fb_xorI, xor_flp ok.1], x_setHow h4, bD_e]
  · have es : stG (mn τ) (owes (mn τ)) (cv (mn τ) x) = 0 := by
      apply Classical.byContradiction
      intro y
      exact z (if_neg y)
    have en : nowG (mn τ) (owes (mn τ)) (cv (mn τ) x) = bm (mayP (mn τ) (cv (mn τ) x) (x % 2)) 16 := by
      unfold nowG
      rw [if_pos es, cv_side w ok]
      rfl
    rw [en] at z ⊢
    have zz : ¬ nI (bm (mayP (mn τ) (cv (mn τ) x) (x % 2)) 16) = 0 := fun e => z ((nI_eq0 (bm16 _)).mp e)
    have hn0 : 0 < fa_cnt (mayP (mn τ) (cv (mn τ) x) (x % 2)) 16 := by
      rcases Nat.eq_zero_or_pos (fa_cnt (mayP (mn τ) (cv (mn τ) x) (x % 2)) 16) with y | y
      · exact absurd (bm_zero.mpr (cnt_none y)) z
      · exact y
    have hn16 := fa_cnt_le (mayP (mn τ) (cv (mn τ) x) (x % 2)) 16
    obtain ⟨k, k1, k2, k3⟩ := nth_ex (mayP (mn τ) (cv (mn τ) x) (x % 2)) 16 _ (Nat.mod_lt (nxS s / 65536) hn0)
    have hlt := Nat.mod_lt (nxS s / 65536) hn0
    have hr31 : nxS s / 65536 % fa_cnt (mayP (mn τ) (cv (mn τ) x) (x % 2)) 16 ≤ 31 := by omega
    have hbit : (bm (mayP (mn τ) (cv (mn τ) x) (x % 2)) 16).testBit k = true := by rw [bm_bit]; simp [k1, k2]
    have hcb : fa_cnt (bm (mayP (mn τ) (cv (mn τ) x) (x % 2)) 16).testBit k = nxS s / 65536 % fa_cnt (mayP (mn τ) (cv (mn τ) x) (x % 2)) 16 := by
      rw [← k3]
      exact fa_cnt_cong fun i hi => by
        rw [bm_bit]
        have : i < 16 := by omega
        simp [this]
    have hX' := WX_seed (v := nI (nxS s)) hX
    obtain ⟨y, y1, y2, y3⟩ := x_handTo w (hX'.2.2.2 hP).1 h4 ok (show gI (sI σ 29 5 (nI (nxS s))) 30 q = nI x by rw [gI_ne (by decide), hx]) k2
    refine ⟨nI k, y, sI σ 29 5 (nI (nxS s)), sI τ 1 36 (nI (nxS s)), y1, ?_, ?_, Or.inr ⟨_, nxS_lt s, rfl, rfl⟩⟩
    · rw [if_neg zz, bc_cnt, bC_e, x_draw s1 s3 hn0 (by omega), bD_e, x_numbered (bm16 _) hbit hcb hr31, bC_e, y3, bD_e]
    · rw [if_neg zz, if_neg (by decide)]
      have ed : f_X11_drawn τ (nI (bm (mayP (mn τ) (cv (mn τ) x) (x % 2)) 16)) = some (nI k, sI τ 1 36 (nI (nxS s))) := by
        unfold f_X11_drawn
        rw [bits_cnt, bC_e, m_draw s2 s3 hn0 (by omega), bD_e]
        exact m_drawn_loop k1 k2 k3
      have hM' := WM_seed (v := nI (nxS s)) hM
      have emn := mn_seed τ (nI (nxS s))
      rw [ed, bD_e, m_onQ hM'.1 h4 hc (by rw [gI_ne (by decide)]; exact h9) k1, emn, y2]
