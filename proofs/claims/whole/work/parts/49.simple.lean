/-! what leaves the town as it is -/
def mS (τ τ' : jS) : Prop := (∀ a i, stat a i = true → gI τ' a i = gI τ a i) ∧ (∀ i, gI τ' 5 i = gI τ 5 i) ∧ gI τ' 1 35 = gI τ 1 35
theorem mS_rfl (τ : jS) : mS τ τ := ⟨fun _ _ _ => rfl, fun _ => rfl, rfl⟩
theorem mS_tr {a b c : jS} (h1 : mS a b) (h2 : mS b c) : mS a c := ⟨fun x i q => (h2.1 x i q).trans (h1.1 x i q), fun i => (h2.2.1 i).trans (h1.2.1 i), h2.2.2.trans h1.2.2⟩
theorem mS_sI (τ : jS) {h i : Nat} (v : Int32) (d : stat h i = false) (d5 : (h == 5) = false) (d35 : (h == 1 && i == 35) = false) : mS τ (sI τ h i v) := by
  refine ⟨fun a j q => gI_sIn fun e => ?_, fun j => gI_ne fun e => ?_, gI_sIn fun e => ?_⟩
  · rw [e.1, e.2, d] at q; cases q
  · subst e; cases d5
  · rw [← e.1, ← e.2] at d35; cases d35
def xS (σ σ' : jS) : Prop := σ'.2.2 = σ.2.2 ∧ (∀ a i, xst a i = true → gI σ' a i = gI σ a i) ∧ ∀ a i, a = 8 ∨ a = 9 ∨ a = 10 → gL σ' a i = gL σ a i
theorem xS_rfl (τ : jS) : xS τ τ := ⟨rfl, fun _ _ _ => rfl, fun _ _ _ => rfl⟩
theorem xS_tr {a b c : jS} (h1 : xS a b) (h2 : xS b c) : xS a c := ⟨h2.1.trans h1.1, fun x i q => (h2.2.1 x i q).trans (h1.2.1 x i q), fun x i q => (h2.2.2 x i q).trans (h1.2.2 x i q)⟩
theorem xS_sI (σ : jS) {h i : Nat} (v : Int32) (d : xst h i = false) : xS σ (sI σ h i v) := by
  refine ⟨rfl, fun a j q => gI_sIn fun e => ?_, fun _ _ _ => rfl⟩
  rw [e.1, e.2, d] at q; cases q
theorem mS_W {τ τ' : jS} (h : mS τ τ') (w : WM τ) : WM τ' ∧ mn τ' = mn τ := ⟨WM_keep h.1 h.2.1 h.2.2 w, mn_eq h.1⟩
theorem xS_W {σ σ' : jS} {A : Tb} (h : xS σ σ') (w : WX σ A) : WX σ' A := WX_keep (σ := σ) (σ' := σ') (by rw [h.1]) h.2.1 h.2.2 w
/-! log, clear, seen, seed -/
theorem at24 {σ : jS} {i : Nat} (h : i < 40) : f_X6_at σ 24 (nI i) = some (gI σ 24 i) := x_at (by decide) rfl h (by decide)
theorem at25 {σ : jS} {i : Nat} (h : i < 40) : f_X6_at σ 25 (nI i) = some (gI σ 25 i) := x_at (by decide) rfl h (by decide)
theorem put24 {σ : jS} {i : Nat} {v : Int32} (h : i < 40) : f_X6_put σ 24 (nI i) v = some ((), sI σ 24 i v) := x_put (by decide) rfl h (by decide)
theorem put25 {σ : jS} {i : Nat} {v : Int32} (h : i < 40) : f_X6_put σ 25 (nI i) v = some ((), sI σ 25 i v) := x_put (by decide) rfl h (by decide)
theorem put26 {σ : jS} {i : Nat} {v : Int32} (h : i < 20) : f_X6_put σ 26 (nI i) v = some ((), sI σ 26 i v) := x_put (by decide) rfl h (by decide)
theorem put27 {σ : jS} {i : Nat} {v : Int32} (h : i < 20) : f_X6_put σ 27 (nI i) v = some ((), sI σ 27 i v) := x_put (by decide) rfl h (by decide)
theorem r_log (k : Nat) (σ τ : jS) (a b : Int32) (_hk : k < 2048) (h : Rel k σ τ) : ∃ r σ2 τ2, f_X10_log σ a b = some (r, σ2) ∧ f_X11_log τ a b = some (r, τ2) ∧ Rel (k + 4) σ2 τ2 := by
  have h0 := h
  obtain ⟨⟨hM, hX, hH, hS, hTT, hTx, hFl, hLg, hSe, hI⟩, sx, sm⟩ := h
  obtain ⟨n, l1, l2, l3, l4⟩ := hLg
  unfold f_X10_log f_X11_log f_X10_log_J16 f_X11_log_J16
  rcases is_both (x_isPerson hX.1 hM.1.1.2 a) (m_isPerson hM.1 a) with ⟨p, p1, rfl, h2, h3⟩ | ⟨h2, h3⟩
  · rw [h2, h3, bC_e, bC_e, if_neg (show ¬ (1 : Int32) = 0 by decide), if_neg (show ¬ (1 : Int32) = 0 by decide)]
    rcases is_both (x_isPerson hX.1 hM.1.1.2 b) (m_isPerson hM.1 b) with ⟨q, q1, rfl, g2, g3⟩ | ⟨g2, g3⟩
    · rw [g2, g3, bC_e, bC_e, if_neg (show ¬ (1 : Int32) = 0 by decide), if_neg (show ¬ (1 : Int32) = 0 by decide), l2, l3]
      by_cases z : n < 40
      · have j40 : jin (nI n) 40 = true := jin_nI z (by omega)
        unfold f_X3_write
        rw [if_pos (show nI n < 40 from nI_lt (b := 40) z (by decide)), if_neg (show ¬ nI n = 40 from fun e => by have := (nI_eq (b := 40) (by omega) (by omega)).mp e; omega), l2, put24 z, bD_e, gI_ne (by decide), l2, put25 z, bD_e, gI_ne (by decide), gI_ne (by decide), l2, bV_e, bD_e, gI_sI, bG_t j40, bV_e, ix_nI (by omega), gI_ne (by decide), l3, bG_t j40, bV_e, ix_nI (by omega), gI_ne (by decide), gI_ne (by decide), l3, bV_e, gI_sI]
        have m := mS_tr (mS_tr (mS_sI τ (h := 32) (i := n) (nI p) rfl rfl rfl) (mS_sI _ (h := 33) (i := n) (nI q) rfl rfl rfl)) (mS_sI _ (h := 1) (i := 56) (nI n + 1) rfl rfl rfl)
        have x := xS_tr (xS_tr (xS_sI σ (h := 24) (i := n) (nI p) rfl) (xS_sI _ (h := 25) (i := n) (nI q) rfl)) (xS_sI _ (h := 23) (i := 2) (nI n + 1) rfl)
        obtain ⟨m1, m2⟩ := mS_W m hM
        refine ⟨_, _, _, rfl, rfl, r_mono k _ _ ⟨⟨m1, ?_, ?_, ?_, ?_, ?_, ?_, ?_, ?_, ?_⟩, ?_, ?_⟩⟩
        · rw [m2]; exact xS_W x hX
        · exact xH_keep m2 (fun a ha i => by rcases List.mem_cons.mp ha with rfl | ha; rfl; rcases List.mem_singleton.mp ha with rfl; rfl) (fun a ha i => by rcases List.mem_cons.mp ha with rfl | ha; rfl; rcases List.mem_singleton.mp ha with rfl; rfl) hH
        · exact rS_keep (σ := σ) (τ := τ) rfl rfl hS
        · exact hTT
        · exact rTx_keep (σ := σ) (τ := τ) rfl rfl (fun a ha i => by rcases List.mem_singleton.mp ha with rfl; rfl) (fun a ha i => by rcases List.mem_singleton.mp ha with rfl; rfl) hTx
        · exact hFl
        · rw [m2]
          refine ⟨n + 1, by omega, by rw [gI_sI, nI_1], by rw [gI_sI, nI_1], fun i hi => ?_⟩
          by_cases y : i = n
          · subst y
            refine ⟨p, q, p1, q1, ?_, ?_, ?_, ?_⟩
            · rw [gI_ne (by decide), gI_ne (by decide), gI_sI]
            · rw [gI_ne (by decide), gI_ne (by decide), gI_sI]
            · rw [gI_ne (by decide), gI_sI]
            · rw [gI_ne (by decide), gI_sI]
          · rw [gI_ne (by decide), gI_ne (by decide), gI_nei y, gI_ne (by decide), gI_ne (by decide), gI_nei y, gI_ne (by decide), gI_nei y, gI_ne (by decide), gI_ne (by decide), gI_nei y, gI_ne (by decide)]
            exact l4 i (by omega)
        · rw [m2]
          exact rSe_keep (σ := σ) (τ := τ) rfl rfl (kp_tr (kp_tr (kp_sI _ _ _ rfl) (kp_sI _ _ _ rfl)) (kp_sI _ _ _ rfl)) (kp_tr (kp_tr (kp_sI _ _ _ rfl) (kp_sI _ _ _ rfl)) (kp_sI _ _ _ rfl)) hSe
        · rw [m2]
          exact rI_keep (kp_tr (kp_tr (kp_sI _ _ _ rfl) (kp_sI _ _ _ rfl)) (kp_sI _ _ _ rfl)) (kp_tr (kp_tr (kp_sI _ _ _ rfl) (kp_sI _ _ _ rfl)) (kp_sI _ _ _ rfl)) hI
        · exact sX_keep (kp_tr (kp_tr (kp_sI _ _ _ rfl) (kp_sI _ _ _ rfl)) (kp_sI _ _ _ rfl)) rfl rfl sx
        · exact sM_keep (kp_tr (kp_tr (kp_sI _ _ _ rfl) (kp_sI _ _ _ rfl)) (kp_sI _ _ _ rfl)) rfl rfl sm
      · have e : n = 40 := by omega
        subst e
        rw [if_neg (show ¬ nI 40 < 40 by decide), if_pos (show nI 40 = 40 from rfl)]
        exact ⟨_, _, _, rfl, rfl, r_mono k _ _ h0⟩
    · rw [g2, g3]
      exact ⟨_, _, _, rfl, rfl, r_mono k _ _ h0⟩
  · rw [h2, h3]
    exact ⟨_, _, _, rfl, rfl, r_mono k _ _ h0⟩
theorem r_clear (k : Nat) (σ τ : jS) (_hk : k < 2048) (h : Rel k σ τ) : ∃ r σ2 τ2, f_X10_clear σ = some (r, σ2) ∧ f_X11_clear τ = some (r, τ2) ∧ Rel (k + 4) σ2 τ2 := by
  obtain ⟨⟨hM, hX, hH, hS, hTT, hTx, hFl, hLg, hSe, hI⟩, sx, sm⟩ := h
  obtain ⟨n, l1, l2, l3, l4⟩ := hLg
  obtain ⟨n2, s1, s2, s3, s4⟩ := hSe
  unfold f_X10_clear f_X11_clear f_X3_empty
  rw [bV_e, bV_e, bV_e, bD_e, bV_e, bV_e, bV_e, l2, l3, s2, s3]
  have m := mS_tr (mS_sI τ (h := 1) (i := 56) 0 rfl rfl rfl) (mS_sI _ (h := 1) (i := 59) 0 rfl rfl rfl)
  have x := xS_tr (xS_sI σ (h := 23) (i := 2) 0 rfl) (xS_sI _ (h := 23) (i := 3) 0 rfl)
  obtain ⟨m1, m2⟩ := mS_W m hM
  refine ⟨_, _, _, rfl, rfl, r_mono k _ _ ⟨⟨m1, ?_, ?_, ?_, ?_, ?_, ?_, ?_, ?_, ?_⟩, ?_, ?_⟩⟩
  · rw [m2]; exact xS_W x hX
  · exact xH_keep m2 (kp_tr (kp_sI _ _ _ rfl) (kp_sI _ _ _ rfl)) (kp_tr (kp_sI _ _ _ rfl) (kp_sI _ _ _ rfl)) hH
  · exact rS_keep (σ := σ) (τ := τ) rfl rfl hS
  · exact hTT
  · exact rTx_keep (σ := σ) (τ := τ) rfl rfl (kp_tr (kp_sI _ _ _ rfl) (kp_sI _ _ _ rfl)) (kp_tr (kp_sI _ _ _ rfl) (kp_sI _ _ _ rfl)) hTx
  · exact hFl
  · exact ⟨0, by decide, rfl, rfl, fun i hi => absurd hi (Nat.not_lt_zero i)⟩
  · exact ⟨0, by decide, rfl, rfl, fun i hi => absurd hi (Nat.not_lt_zero i)⟩
  · rw [m2]
    exact rI_keep (kp_tr (kp_sI _ _ _ rfl) (kp_sI _ _ _ rfl)) (kp_tr (kp_sI _ _ _ rfl) (kp_sI _ _ _ rfl)) hI
  · exact sX_keep (kp_tr (kp_sI _ _ _ rfl) (kp_sI _ _ _ rfl)) rfl rfl sx
  · exact sM_keep (kp_tr (kp_sI _ _ _ rfl) (kp_sI _ _ _ rfl)) rfl rfl sm
theorem r_seed (k : Nat) (σ τ : jS) (a : Int32) (_hk : k < 2048) (h : Rel k σ τ) : ∃ r σ2 τ2, f_X10_seed σ a = some (r, σ2) ∧ f_X11_seed τ a = some (r, τ2) ∧ Rel (k + 4) σ2 τ2 := by
  have h0 := h
  obtain ⟨⟨hM, hX, hH, hS, hTT, hTx, hFl, hLg, hSe, hI⟩, sx, sm⟩ := h
  unfold f_X10_seed f_X11_seed
  by_cases z : 0 ≤ a
  · rw [if_pos z, if_pos z]
    obtain ⟨s, s1, s2, s3⟩ := hS
    obtain ⟨j, hj, rfl⟩ := nI_of (x := a) (Int32.not_lt.mpr z)
    rw [bV_e, bV_e, bV_e, bV_e, s2, s3]
    obtain ⟨m1, m2⟩ := mS_W (mS_sI τ (h := 1) (i := 36) (nI j) rfl rfl rfl) hM
    refine ⟨_, _, _, rfl, rfl, r_mono k _ _ ⟨⟨m1, ?_, ?_, ?_, ?_, ?_, ?_, ?_, ?_, ?_⟩, ?_, ?_⟩⟩
    · rw [m2]; exact xS_W (xS_sI σ (h := 29) (i := 5) (nI j) rfl) hX
    · exact xH_keep m2 (kp_sI _ _ _ rfl) (kp_sI _ _ _ rfl) hH
    · exact ⟨j, hj, gI_sI _ _ _ _, gI_sI _ _ _ _⟩
    · exact hTT
    · exact rTx_keep (σ := σ) (τ := τ) rfl rfl (kp_sI _ _ _ rfl) (kp_sI _ _ _ rfl) hTx
    · exact hFl
    · rw [m2]; exact rLg_keep (σ := σ) (τ := τ) rfl rfl (kp_sI _ _ _ rfl) (kp_sI _ _ _ rfl) hLg
    · rw [m2]; exact rSe_keep (σ := σ) (τ := τ) rfl rfl (kp_sI _ _ _ rfl) (kp_sI _ _ _ rfl) hSe
    · rw [m2]; exact rI_keep (kp_sI _ _ _ rfl) (kp_sI _ _ _ rfl) hI
    · exact sX_keep (kp_sI _ _ _ rfl) rfl rfl sx
    · exact sM_keep (kp_sI _ _ _ rfl) rfl rfl sm
  · rw [if_neg z, if_neg z]
    exact ⟨_, _, _, rfl, rfl, r_mono k _ _ h0⟩
theorem in_4 {x : Int32} : (∃ p, p ≤ 40 ∧ x = nI p ∧ f_X11_in x.toInt64 0 40 = some 1) ∨ ((∀ p, p ≤ 40 → x ≠ nI p) ∧ f_X11_in x.toInt64 0 40 = some 0) := by
  have := in_of (x := x) (n := 41) (by decide)
  rw [show ((nI 41 - 1 : Int32).toInt64) = 40 from by decide] at this
  rcases this with ⟨p, a, b, c⟩ | ⟨a, b⟩
  · exact Or.inl ⟨p, by omega, b, c⟩
  · exact Or.inr ⟨fun p hp => a p (by omega), b⟩
theorem r_seen (k : Nat) (σ τ : jS) (a b c : Int32) (_hk : k < 2048) (hc : c = 0 ∨ c = 1) (h : Rel k σ τ) : ∃ r σ2 τ2, f_X10_seen σ a b c = some (r, σ2) ∧ f_X11_seen τ a b c = some (r, τ2) ∧ Rel (k + 4) σ2 τ2 := by
  have h0 := h
  obtain ⟨⟨hM, hX, hH, hS, hTT, hTx, hFl, hLg, hSe, hI⟩, sx, sm⟩ := h
  obtain ⟨n, l1, l2, l3, l4⟩ := hSe
  unfold f_X10_seen f_X11_seen f_X10_seen_J22
  rcases is_both (x_isPerson hX.1 hM.1.1.2 b) (m_isPerson hM.1 b) with ⟨p, p1, rfl, h2, h3⟩ | ⟨h2, h3⟩
  · rw [h2, h3, bC_e, bC_e, if_neg (show ¬ (1 : Int32) = 0 by decide), if_neg (show ¬ (1 : Int32) = 0 by decide)]
    rcases in_4 (x := a) with ⟨q, q1, rfl, g2⟩ | ⟨q1, g2⟩
    · rw [g2, bC_e, if_neg (show ¬ (1 : Int32) = 0 by decide), if_neg (nI_pos (by omega)), if_pos (show nI q ≤ 40 from nI_le (b := 40) q1 (by omega)), l2, l3]
      by_cases z : n < 20
      · have j20 : jin (nI n) 20 = true := jin_nI z (by omega)
        have jc : jb c = true := by rcases hc with rfl | rfl <;> rfl
        obtain ⟨c', hc', rfl⟩ : ∃ c', c' < 2 ∧ c = nI c' := by
          rcases hc with rfl | rfl
          · exact ⟨0, by decide, rfl⟩
          · exact ⟨1, by decide, rfl⟩
        unfold f_X3_see
        rw [if_pos (show nI n < 20 from nI_lt (b := 20) z (by decide)), if_neg (show ¬ nI n = 20 from fun e => by have := (nI_eq (b := 20) (by omega) (by omega)).mp e; omega), l2, if_neg (nI_pos (show n < 2 ^ 31 by omega)), if_pos (show nI n < Int32.ofNat 20 from nI_lt (b := 20) z (by decide)), put26 z, bD_e, gI_ne (by decide), l2, put27 z, bD_e, bG_t jc, gI_ne (by decide), gI_ne (by decide), l2, bG_t j20, ix_nI (by omega), bV_e, gI_ne (by decide), gI_ne (by decide), gI_ne (by decide), l2, bV_e, bD_e, gI_sI, bG_t j20, bV_e, gI_ne (by decide), l3, bG_t j20, bV_e, gI_ne (by decide), gI_ne (by decide), bG_t jc, l3, bG_t j20, ix_nI (by omega), bV_e, gI_ne (by decide), gI_ne (by decide), gI_ne (by decide), l3, bV_e, gI_sI]
        have m := mS_tr (mS_tr (mS_tr (mS_sI τ (h := 34) (i := n) (nI q) rfl rfl rfl) (mS_sI _ (h := 35) (i := n) (nI p) rfl rfl rfl)) (mS_sI _ (h := 36) (i := n) (nI c') rfl rfl rfl)) (mS_sI _ (h := 1) (i := 59) (nI n + 1) rfl rfl rfl)
        have x := xS_tr (xS_tr (xS_tr (xS_sI σ (h := 26) (i := n) (nI q) rfl) (xS_sI _ (h := 27) (i := n) (nI p) rfl)) (xS_sI _ (h := 28) (i := n) (nI c') rfl)) (xS_sI _ (h := 23) (i := 3) (nI n + 1) rfl)
        obtain ⟨m1, m2⟩ := mS_W m hM
        refine ⟨_, _, _, rfl, rfl, r_mono k _ _ ⟨⟨m1, ?_, ?_, ?_, ?_, ?_, ?_, ?_, ?_, ?_⟩, ?_, ?_⟩⟩
        · rw [m2]; exact xS_W x hX
        · exact xH_keep m2 (kp_tr (kp_tr (kp_tr (kp_sI _ _ _ rfl) (kp_sI _ _ _ rfl)) (kp_sI _ _ _ rfl)) (kp_sI _ _ _ rfl)) (kp_tr (kp_tr (kp_tr (kp_sI _ _ _ rfl) (kp_sI _ _ _ rfl)) (kp_sI _ _ _ rfl)) (kp_sI _ _ _ rfl)) hH
        · exact rS_keep (σ := σ) (τ := τ) rfl rfl hS
        · exact hTT
        · exact rTx_keep (σ := σ) (τ := τ) rfl rfl (kp_tr (kp_tr (kp_tr (kp_sI _ _ _ rfl) (kp_sI _ _ _ rfl)) (kp_sI _ _ _ rfl)) (kp_sI _ _ _ rfl)) (kp_tr (kp_tr (kp_tr (kp_sI _ _ _ rfl) (kp_sI _ _ _ rfl)) (kp_sI _ _ _ rfl)) (kp_sI _ _ _ rfl)) hTx
        · exact hFl
        · rw [m2]
          exact rLg_keep (σ := σ) (τ := τ) rfl rfl (kp_tr (kp_tr (kp_tr (kp_sI _ _ _ rfl) (kp_sI _ _ _ rfl)) (kp_sI _ _ _ rfl)) (kp_sI _ _ _ rfl)) (kp_tr (kp_tr (kp_tr (kp_sI _ _ _ rfl) (kp_sI _ _ _ rfl)) (kp_sI _ _ _ rfl)) (kp_sI _ _ _ rfl)) hLg
        · rw [m2]
          refine ⟨n + 1, by omega, by rw [gI_sI, nI_1], by rw [gI_sI, nI_1], fun i hi => ?_⟩
          by_cases y : i = n
          · subst y
            refine ⟨q, p, c', q1, p1, hc', ?_, ?_, ?_, ?_, ?_, ?_⟩
            · rw [gI_ne (by decide), gI_ne (by decide), gI_ne (by decide), gI_sI]
            · rw [gI_ne (by decide), gI_ne (by decide), gI_ne (by decide), gI_sI]
            · rw [gI_ne (by decide), gI_ne (by decide), gI_sI]
            · rw [gI_ne (by decide), gI_ne (by decide), gI_sI]
            · rw [gI_ne (by decide), gI_sI]
            · rw [gI_ne (by decide), gI_sI]
          · obtain ⟨u, v, w, e⟩ := l4 i (by omega)
            refine ⟨u, v, w, e.1, e.2.1, e.2.2.1, ?_, ?_, ?_, ?_, ?_, ?_⟩
            · rw [gI_ne (by decide), gI_ne (by decide), gI_ne (by decide), gI_nei y]; exact e.2.2.2.1
            · rw [gI_ne (by decide), gI_ne (by decide), gI_ne (by decide), gI_nei y]; exact e.2.2.2.2.1
            · rw [gI_ne (by decide), gI_ne (by decide), gI_nei y, gI_ne (by decide)]; exact e.2.2.2.2.2.1
            · rw [gI_ne (by decide), gI_ne (by decide), gI_nei y, gI_ne (by decide)]; exact e.2.2.2.2.2.2.1
            · rw [gI_ne (by decide), gI_nei y, gI_ne (by decide), gI_ne (by decide)]; exact e.2.2.2.2.2.2.2.1
            · rw [gI_ne (by decide), gI_nei y, gI_ne (by decide), gI_ne (by decide)]; exact e.2.2.2.2.2.2.2.2
        · rw [m2]
          exact rI_keep (kp_tr (kp_tr (kp_tr (kp_sI _ _ _ rfl) (kp_sI _ _ _ rfl)) (kp_sI _ _ _ rfl)) (kp_sI _ _ _ rfl)) (kp_tr (kp_tr (kp_tr (kp_sI _ _ _ rfl) (kp_sI _ _ _ rfl)) (kp_sI _ _ _ rfl)) (kp_sI _ _ _ rfl)) hI
        · exact sX_keep (kp_tr (kp_tr (kp_tr (kp_sI _ _ _ rfl) (kp_sI _ _ _ rfl)) (kp_sI _ _ _ rfl)) (kp_sI _ _ _ rfl)) rfl rfl sx
        · exact sM_keep (kp_tr (kp_tr (kp_tr (kp_sI _ _ _ rfl) (kp_sI _ _ _ rfl)) (kp_sI _ _ _ rfl)) (kp_sI _ _ _ rfl)) rfl rfl sm
      · have e : n = 20 := by omega
        subst e
        rw [if_neg (show ¬ nI 20 < 20 by decide), if_pos (show nI 20 = 20 from rfl)]
        exact ⟨_, _, _, rfl, rfl, r_mono k _ _ h0⟩
    · rw [g2, bC_e, if_pos (show (0 : Int32) = 0 from rfl)]
      refine ⟨_, _, _, ?_, rfl, r_mono k _ _ h0⟩
      by_cases z : a < 0
      · rw [if_pos z]
      · obtain ⟨j, hj, rfl⟩ := nI_of z
        rw [if_neg z, if_neg]
        intro e
        have := (nI_leI (b := 40) hj (by omega)).mp e
        exact q1 j this rfl
  · rw [h2, h3]
    exact ⟨_, _, _, rfl, rfl, r_mono k _ _ h0⟩
