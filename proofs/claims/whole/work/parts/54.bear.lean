/-! bear -/
def grH (h : Nat) : Prop := h = 32 ∨ h = 57 ∨ h = 67
theorem gr_in {h : Nat} (hh : grH h) : h ∈ [32, 40, 47, 57, 67] := by rcases hh with rfl | rfl | rfl <;> decide
theorem gr_at1 {σ : jS} {h i : Nat} (hh : grH h) (hi : i < 120) : f_X6_at σ (rPX h 0) (nI i) = some (gI σ (h + 1) i) := by
  rcases hh with rfl | rfl | rfl
  · exact x_at (h := 33) (by decide) rfl hi (by decide)
  · exact x_at (h := 58) (by decide) rfl hi (by decide)
  · exact x_at (h := 68) (by decide) rfl hi (by decide)
theorem gr_at2 {σ : jS} {h i : Nat} (hh : grH h) (hi : i < 120) : f_X6_at σ (rPX h 1) (nI i) = some (gI σ (h + 2) i) := by
  rcases hh with rfl | rfl | rfl
  · exact x_at (h := 34) (by decide) rfl hi (by decide)
  · exact x_at (h := 59) (by decide) rfl hi (by decide)
  · exact x_at (h := 69) (by decide) rfl hi (by decide)
theorem gr_put1 {σ : jS} {h i : Nat} {v : Int32} (hh : grH h) (hi : i < 120) : f_X6_put σ (rPX h 0) (nI i) v = some ((), sI σ (h + 1) i v) := by
  rcases hh with rfl | rfl | rfl
  · exact x_put (h := 33) (by decide) rfl hi (by decide)
  · exact x_put (h := 58) (by decide) rfl hi (by decide)
  · exact x_put (h := 68) (by decide) rfl hi (by decide)
theorem gr_put2 {σ : jS} {h i : Nat} {v : Int32} (hh : grH h) (hi : i < 120) : f_X6_put σ (rPX h 1) (nI i) v = some ((), sI σ (h + 2) i v) := by
  rcases hh with rfl | rfl | rfl
  · exact x_put (h := 34) (by decide) rfl hi (by decide)
  · exact x_put (h := 59) (by decide) rfl hi (by decide)
  · exact x_put (h := 69) (by decide) rfl hi (by decide)
theorem gr_foe {h : Nat} (hh : grH h) : rPX h 2 = h + 3 ∧ foeH (h + 3) := by
  rcases hh with rfl | rfl | rfl
  · exact ⟨rfl, Or.inr (Or.inl rfl)⟩
  · exact ⟨rfl, Or.inr (Or.inr (Or.inr (Or.inr (Or.inl rfl))))⟩
  · exact ⟨rfl, Or.inr (Or.inr (Or.inr (Or.inr (Or.inr rfl))))⟩
theorem x_has {σ : jS} {h : Nat} {A : Tb} (hh : grH h) (hG : xGr σ h A) {a b : Nat} (ha : a < 16) (hb : b < 16) : f_X1_has σ h (nI a) (nI b) = some (if bears A a b then 1 else 0) := by
  unfold f_X1_has f_X1_has_J20
  rw [bH_t (gr_in hh), (gr_foe hh).1, foe_at (gr_foe hh).2 ha, bC_e, hG.2.2 a ha, nI_bit (bm16 _) (by omega), bm_bit]
  cases bears A a b with
  | true => rw [if_neg (by simp [hb])]; rfl
  | false => rw [if_pos (by simp)]; rfl
theorem x_add {σ : jS} {h : Nat} {A B : Tb} (hh : grH h) (hG : xGr σ h A) {a b : Nat} (ha : a < 16) (hb : b < 16) (hab : a ≠ b) (hr : tG A < 120) (hB : tG B = tG A + 1) (h6 : ∀ g, g < tG A → B 6 g = A 6 g) (hn : B 6 (tG A) = 100 * a + b) (nb : bears A a b = false) (bb : ∀ p q, p < 100 → q < 100 → bears B p q = (bears A p q || isPr a b p q)) (sym : bears A b a = false) : ∃ σ', f_X1_add σ h (nI a) (nI b) = some ((), σ') ∧ fr [h, h + 1, h + 2, h + 3] σ σ' ∧ (∀ i, i ≠ 3 → gI σ' h i = gI σ h i) ∧ xGr σ' h B := by
  have q0 : sI (sI (sI σ (h + 1) (tG A) (nI a)) (h + 2) (tG A) (nI b)) h 3 (nI (tG A + 1)) = sI (sI (sI σ (h + 1) (tG A) (nI a)) (h + 2) (tG A) (nI b)) h 3 (nI (tG A + 1)) := rfl
  generalize e1 : sI (sI (sI σ (h + 1) (tG A) (nI a)) (h + 2) (tG A) (nI b)) h 3 (nI (tG A + 1)) = s1 at q0
  have f1 : ∀ p, gI s1 (h + 3) p = gI σ (h + 3) p := fun p => by
    rw [← e1, gI_ne (by omega), gI_ne (by omega), gI_ne (by omega)]
  have f2 : ∀ g, gI s1 (h + 1) g = gI (sI σ (h + 1) (tG A) (nI a)) (h + 1) g := fun g => by
    rw [← e1, gI_ne (show h + 1 ≠ h by omega), gI_ne (show h + 1 ≠ h + 2 by omega)]
  have f3 : ∀ g, gI s1 (h + 2) g = gI (sI (sI σ (h + 1) (tG A) (nI a)) (h + 2) (tG A) (nI b)) (h + 2) g := fun g => by
    rw [← e1, gI_ne (show h + 2 ≠ h by omega)]
  obtain ⟨s2, t1, t2, t3⟩ := x_toggle (σ := s1) (h := h + 3) (gr_foe hh).2 (F := bears A) (G := bears B) ha hb hab (fun p hp => by rw [f1]; exact hG.2.2 p hp) (fun p q hp hq => by
    rw [bb p q (by omega) (by omega)]
    cases hi : isPr a b p q with
    | false => simp
    | true =>
      have : bears A p q = false := by
        rcases isPr_iff.mp hi with ⟨rfl, rfl⟩ | ⟨rfl, rfl⟩
        · exact nb
        · exact sym
      rw [this]; rfl)
  refine ⟨s2, ?_, ?_, ?_, ?_, ?_, ?_⟩
  · unfold f_X1_add
    rw [bH_t (gr_in hh), hG.1, if_pos (show nI (tG A) < 120 from nI_lt (b := 120) hr (by decide)), gr_put1 hh hr, bD_e, gI_ne (by omega), hG.1, gr_put2 hh hr, bD_e, gI_ne (by omega), gI_ne (by omega), hG.1, nI_1, bV_e, e1, (gr_foe hh).1, t1, bD_e]
  · refine fr_trans ?_ (fr_mono t2 (by simp))
    rw [← e1]
    exact fr_trans (fr_trans (fr_sI _ _ _ (by simp)) (fr_sI _ _ _ (by simp))) (fr_sI _ _ _ (by simp))
  · intro i hi
    rw [fr_I t2 (by simp), ← e1, gI_nei hi, gI_ne (by omega), gI_ne (by omega)]
  · rw [fr_I t2 (by simp), ← e1, gI_sI, hB]
  · intro g hg
    rw [fr_I t2 (by simp), fr_I t2 (by simp), f2, f3]
    by_cases z : g = tG A
    · subst z
      rw [gI_sI, gI_sI, hn]
      exact ⟨congrArg nI (by omega), congrArg nI (by omega)⟩
    · rw [gI_nei z, gI_nei z, gI_ne (show h + 2 ≠ h + 1 by omega), h6 g (by omega)]
      exact hG.2.1 g (by omega)
  · exact t3
theorem x_drop {σ : jS} {A B : Tb} (hG : xGr σ 32 A) (h120 : tG A ≤ 120) {a b g0 : Nat} (ha : a < 16) (hb : b < 16) (hab : a ≠ b) (h0 : g0 < tG A) (h1 : (A 6 g0 / 100 = a ∧ A 6 g0 % 100 = b) ∨ (A 6 g0 / 100 = b ∧ A 6 g0 % 100 = a)) (hf : ∀ g, g < g0 → ¬ ((A 6 g / 100 = a ∧ A 6 g % 100 = b) ∨ (A 6 g / 100 = b ∧ A 6 g % 100 = a))) (hs : ∀ g, g < tG A → A 6 g / 100 < 16 ∧ A 6 g % 100 < 16) (hB : tG B + 1 = tG A) (h6 : ∀ g, g < tG B → B 6 g = A 6 (if g = g0 then tG A - 1 else g)) (yb : ∀ p q, isPr a b p q = true → bears A p q = true) (bb : ∀ p q, p < 100 → q < 100 → bears B p q = (bears A p q && !isPr a b p q)) : ∃ σ', f_X1_drop σ 32 (nI a) (nI b) = some ((), σ') ∧ fr [32, 33, 34, 35] σ σ' ∧ xGr σ' 32 B := by
  have hh : grH 32 := Or.inl rfl
  have eqn : ∀ u v : Nat, u < 16 → v < 16 → (nI u = nI v ↔ u = v) := fun u v hu hv => nI_eq (by omega) (by omega)
  generalize e1 : sI (sI (sI σ 32 3 (nI (tG A - 1))) 33 g0 (nI (A 6 (tG A - 1) / 100))) 34 g0 (nI (A 6 (tG A - 1) % 100)) = s1
  have f1 : ∀ p, gI s1 35 p = gI σ 35 p := fun p => by
    rw [← e1, gI_ne (by omega), gI_ne (by omega), gI_ne (by omega)]
  obtain ⟨s2, t1, t2, t3⟩ := x_toggle (σ := s1) (h := 35) (gr_foe hh).2 (F := bears A) (G := bears B) ha hb hab (fun p hp => by rw [f1]; exact hG.2.2 p hp) (fun p q hp hq => by
    rw [bb p q (by omega) (by omega)]
    cases hi : isPr a b p q with
    | false => simp
    | true => rw [yb p q hi]; rfl)
  have J54 : f_X1_drop_J54 σ 32 (nI a) (nI b) (nI g0) = some ((), s2) := by
    unfold f_X1_drop_J54
    obtain ⟨l1, l2⟩ := hG.2.1 (tG A - 1) (by omega)
    have es : nI (tG A) - 1 = nI (tG A - 1) := by rw [show (1 : Int32) = nI 1 from rfl, nI_sub (by omega)]
    rw [bH_t (gr_in hh), hG.1, es, bV_e, gI_sI, gr_at1 hh (by omega), bC_e, gI_ne (show (32 + 1 : Nat) ≠ 32 by decide), l1, gr_put1 hh (by omega), bD_e, gI_ne (show (32 : Nat) ≠ 32 + 1 by decide), gI_sI, gr_at2 hh (by omega), bC_e, gI_ne (show (32 + 2 : Nat) ≠ 32 + 1 by decide), gI_ne (show (32 + 2 : Nat) ≠ 32 by decide), l2, gr_put2 hh (by omega), bD_e]
    rw [show (32 + 1 : Nat) = 33 from rfl, show (32 + 2 : Nat) = 34 from rfl, e1, (gr_foe hh).1, show (32 + 3 : Nat) = 35 from rfl, t1, bD_e]
  refine ⟨s2, ?_, ?_, ?_, ?_, ?_⟩
  · unfold f_X1_drop
    refine jloop_0 (fun i => (nI i, σ)) g0 rfl (jfuel_big (by omega)) ?_ ?_
    · show f_X1_drop_B2 σ 32 _ _ (nI g0) = _
      obtain ⟨l1, l2⟩ := hG.2.1 g0 h0
      obtain ⟨m1, m2⟩ := hs g0 h0
      unfold f_X1_drop_B2 f_X1_drop_J42
      rw [bH_t (gr_in hh), hG.1, if_neg (nI_ge h0 (by omega)), gr_at1 hh (by omega), bC_e, gr_at2 hh (by omega), bC_e, l1, l2, J54, jw_e]
      rcases h1 with ⟨y1, y2⟩ | ⟨y1, y2⟩
      · rw [if_pos ((eqn _ _ m1 ha).mpr y1), if_pos ((eqn _ _ m2 hb).mpr y2)]
      · rw [if_neg (fun e => hab (((eqn _ _ m1 ha).mp e).symm.trans y1)), if_pos ((eqn _ _ m1 hb).mpr y1), if_pos ((eqn _ _ m2 ha).mpr y2)]
    · intro i hi
      show f_X1_drop_B2 σ 32 _ _ (nI i) = _
      obtain ⟨l1, l2⟩ := hG.2.1 i (by omega)
      obtain ⟨m1, m2⟩ := hs i (by omega)
      have hn := hf i hi
      unfold f_X1_drop_B2 f_X1_drop_J42 f_X1_drop_J112
      rw [bH_t (gr_in hh), hG.1, if_neg (nI_ge (show i < tG A by omega) (by omega)), gr_at1 hh (by omega), bC_e, gr_at2 hh (by omega), bC_e, l1, l2, bV_e, nI_1]
      by_cases z1 : A 6 i / 100 = a
      · rw [if_pos ((eqn _ _ m1 ha).mpr z1), if_neg (fun e => hn (Or.inl ⟨z1, (eqn _ _ m2 hb).mp e⟩)), if_neg (fun e => hab (z1.symm.trans ((eqn _ _ m1 hb).mp e)))]
      · rw [if_neg (fun e => z1 ((eqn _ _ m1 ha).mp e))]
        by_cases z2 : A 6 i / 100 = b
        · rw [if_pos ((eqn _ _ m1 hb).mpr z2), if_neg (fun e => hn (Or.inr ⟨z2, (eqn _ _ m2 ha).mp e⟩))]
        · rw [if_neg (fun e => z2 ((eqn _ _ m1 hb).mp e))]
  · refine fr_trans ?_ (fr_mono t2 (by simp))
    rw [← e1]
    exact fr_trans (fr_trans (fr_sI _ _ _ (by simp)) (fr_sI _ _ _ (by simp))) (fr_sI _ _ _ (by simp))
  · rw [fr_I t2 (by simp), ← e1, gI_ne (by decide), gI_ne (by decide), gI_sI]
    exact congrArg nI (by omega)
  · intro g hg
    rw [fr_I t2 (by simp), fr_I t2 (by simp), ← e1, h6 g hg]
    by_cases z : g = g0
    · subst z
      rw [if_pos rfl, show (32 + 1 : Nat) = 33 from rfl, show (32 + 2 : Nat) = 34 from rfl, gI_ne (by decide), gI_sI, gI_sI]
      exact ⟨rfl, rfl⟩
    · rw [if_neg z, show (32 + 1 : Nat) = 33 from rfl, show (32 + 2 : Nat) = 34 from rfl, gI_ne (by decide), gI_nei z, gI_nei z, gI_ne (by decide), gI_ne (by decide), gI_ne (by decide)]
      exact hG.2.1 g (by omega)
  · exact t3
theorem wGA_of {τ : jS} (h : wG τ) : wGA (mn τ) := ⟨fun g hg => (h.1 g hg).2, h.2⟩
theorem bears_sym {A : Tb} {p q : Nat} : bears A p q = bears A q p := by
  unfold bears bearsAt
  exact bex_cong fun k _ => by rw [Bool.or_comm]
/-- the end of bear: settled, related -/
theorem bear_fin {k : Nat} {σ τ σ1 τ2 : jS} (h : Rel k σ τ) (mc : mC τ τ2) (h13 : gI τ2 1 13 = gI τ 1 13) (h14 : gI τ2 1 14 = gI τ 1 14) (h6 : gI τ2 1 6 = nI (tG (mn τ2)) ∧ tG (mn τ2) ≤ 120) (r6 : ∀ g, g < tG (mn τ2) → gI τ2 6 g = nI (mn τ2 6 g)) (wg : wGA (mn τ2)) (f : fr [32, 33, 34, 35] σ σ1) (xg : xGr σ1 32 (mn τ2)) (fM : gI τ2 1 16 = gI τ 1 16 ∧ gI τ2 1 17 = gI τ 1 17 ∧ gI τ2 1 56 = gI τ 1 56 ∧ gI τ2 1 59 = gI τ 1 59 ∧ gI τ2 1 39 = gI τ 1 39 ∧ gI τ2 1 68 = gI τ 1 68 ∧ gI τ2 1 36 = gI τ 1 36) (k2 : kp [9, 10, 11, 32, 33, 34, 35, 36, 40, 41, 18, 19, 39, 12] τ τ2) : ∃ σ', f_X10_bear_J76 σ1 = some (nI (tG (mn τ2)), σ') ∧ Rel k σ' τ2 := by
  have h0 := h
  obtain ⟨⟨hM, hX, hH, hS, hTT, hTx, hFl, hLg, hSe, hI⟩, sx, sm⟩ := h
  have e := mC_tE mc
  have eW : tW (mn τ2) = tW (mn τ) := by unfold tW; rw [mn_at rfl, mn_at rfl, h13]
  have eB : tB (mn τ2) = tB (mn τ) := by unfold tB; rw [mn_at rfl, mn_at rfl, h14]
  have wm : WM τ2 := WM_mC mc hM (by rw [eW, h13]; exact hM.1.2.2.2.2.1) (by rw [eB, h14]; exact hM.1.2.2.2.2.2) h6 ⟨fun g hg => ⟨r6 g hg, wg.1 g hg⟩, wg.2⟩
  have xh : xH σ1 τ2 := by
    intro q hq
    rw [(tE_P e).2.2] at hq
    obtain ⟨x, x1, x2, x3, x4⟩ := hH q hq
    obtain ⟨o1, o2⟩ := okx_tE e (fun q => eB.trans q) x2
    exact ⟨x, (fr_I f (by decide) q).trans x1, o1, by rw [o2, k2 9 (by decide)]; exact x3, by rw [k2 10 (by decide), fr_I f (by decide)]; exact x4⟩
  have xt : xT σ1 (mn τ2) := by
    have := xTb_kp (σ := σ) (σ' := σ1) (T := σ.2.2.1) (kp_fr f rfl) hX.1
    rw [← fr_T f] at this
    exact xT_tE e this
  obtain ⟨σ', s1, s2, s3⟩ := settle_fin (σ1 := σ1) (τ2 := τ2) h0 e wm xt xg ⟨by rw [fr_I f (by decide), eW]; exact hX.2.2.1.1, by rw [fr_I f (by decide), eB]; exact hX.2.2.1.2⟩ xh (rS_keep (σ := σ) (τ := τ) (fr_I f (by decide) _) fM.2.2.2.2.2.2 hS) f.1 ⟨fr_I f (by decide) _, fr_I f (by decide) _, fr_I f (by decide) _, fr_I f (by decide) _, fr_I f (by decide) _, fr_I f (by decide) _⟩ (kp_fr f rfl) ⟨fM.1, fM.2.1, fM.2.2.1, fM.2.2.2.1, fM.2.2.2.2.1, fM.2.2.2.2.2.1⟩ (fun a ha i => k2 a (by simp at ha ⊢; omega) i)
  refine ⟨σ', ?_, s3⟩
  unfold f_X10_bear_J76
  rw [s1, bD_e, fr_I s2 (by decide), xg.1]
theorem r_bear (k : Nat) (σ τ : jS) (a b c : Int32) (_hk : k < 2048) (hc : c = 0 ∨ c = 1) (h : Rel k σ τ) : ∃ r σ2 τ2, f_X10_bear σ a b c = some (r, σ2) ∧ f_X11_bear τ a b c = some (r, τ2) ∧ Rel (k + 4) σ2 τ2 := by
  have h0 := h
  obtain ⟨⟨hM, hX, hH, hS, hTT, hTx, hFl, hLg, hSe, hI⟩, sx, sm⟩ := h
  unfold f_X10_bear f_X11_bear f_X10_bear_J21 f_X11_bear_J21
  rcases is_both (x_isPerson hX.1 hM.1.1.2 a) (m_isPerson hM.1 a) with ⟨p, p1, rfl, h2, h3⟩ | ⟨h2, h3⟩
  · rw [h2, h3, bC_e, bC_e, if_neg (show ¬ (1 : Int32) = 0 by decide), if_neg (show ¬ (1 : Int32) = 0 by decide)]
    rcases is_both (x_isPerson hX.1 hM.1.1.2 b) (m_isPerson hM.1 b) with ⟨q, q1, rfl, g2, g3⟩ | ⟨g2, g3⟩
    · rw [g2, g3, bC_e, bC_e, if_neg (show ¬ (1 : Int32) = 0 by decide), if_neg (show ¬ (1 : Int32) = 0 by decide)]
      have hP16 := hM.1.1.2
      by_cases zpq : p = q
      · subst zpq
        rw [if_pos rfl, if_pos rfl]
        exact ⟨_, _, _, rfl, rfl, r_mono k _ _ h0⟩
      have npq : ¬ nI p = nI q := fun e => zpq ((nI_eq (by omega) (by omega)).mp e)
      have wg := wGA_of hM.2.2.2.2.1
      have h120 := hM.1.2.2.1.2
      have hG6 := hM.2.2.2.2.1.1
      have l0 := lastG_0 (mn τ) p q (tG (mn τ))
      have lle := lastG_le (mn τ) p q (tG (mn τ))
      rw [if_neg npq, if_neg npq, x_has (Or.inl rfl) hX.2.1 (by omega) (by omega), bC_e, m_grudgeOf hM.1 hM.2.2.2.2.1 (by omega) (by omega), bC_e]
      cases hb : bears (mn τ) p q with
      | false =>
        have lz : lastG (mn τ) p q (tG (mn τ)) = 0 := l0.mpr hb
        have hlt := room wg hP16 p1 q1 zpq hb
        rw [lz, if_neg (show ¬ false = true by decide), if_pos (show nI 0 - 1 < 0 by decide)]
        unfold f_X11_bear_J43 f_X11_bear_J109
        rcases hc with rfl | rfl
        · rw [if_pos rfl, if_pos rfl]
          exact ⟨_, _, _, rfl, rfl, r_mono k _ _ h0⟩
        · have e100 : (100 : Int32) * nI p + nI q = nI (100 * p + q) := by rw [show (100 : Int32) = nI 100 from rfl, nI_mul, nI_add]
          have j120 : jin (nI (tG (mn τ))) 120 = true := jin_nI hlt (by omega)
          rw [if_neg (show ¬ (0 : Int32) = 1 by decide), if_neg (show ¬ (0 : Int32) = 1 by decide), if_neg (show ¬ (1 : Int32) = 0 by decide), if_neg (show ¬ (1 : Int32) = 0 by decide), hM.1.2.2.1.1, bG_t j120, bV_e, gI_ne (by decide), hM.1.2.2.1.1, bV_e, ix_nI (by omega), e100, nI_1, gI_sI]
          generalize et : sI (sI τ 6 (tG (mn τ)) (nI (100 * p + q))) 1 6 (nI (tG (mn τ) + 1)) = τ2
          have mc : mC τ τ2 := by rw [← et]; exact ⟨kp_tr (kp_sI _ _ _ rfl) (kp_sI _ _ _ rfl), rfl, rfl, rfl, rfl⟩
          have eG : tG (mn τ2) = tG (mn τ) + 1 := by
            show mn τ2 1 6 = _
            rw [mn_at rfl, ← et, gI_sI, ix_nI (by omega)]
          have g6 : ∀ g, g < tG (mn τ) → gI τ2 6 g = nI (mn τ 6 g) := fun g hg => by
            rw [← et, gI_ne (by decide), gI_nei (by omega)]; exact (hG6 g hg).1
          have r6 : ∀ g, g < tG (mn τ) → mn τ2 6 g = mn τ 6 g := fun g hg => by
            have := hG6 g hg
            rw [mn_at rfl, g6 g hg, ix_nI (by omega)]
          have gn : gI τ2 6 (tG (mn τ)) = nI (100 * p + q) := by rw [← et, gI_ne (by decide), gI_sI]
          have rn : mn τ2 6 (tG (mn τ)) = 100 * p + q := by rw [mn_at rfl, gn, ix_nI (by omega)]
          obtain ⟨t1, t2⟩ := add_tab (B := mn τ2) wg hP16 (tE_P (mC_tE mc)).1 eG p1 q1 zpq r6 rn hb
          obtain ⟨σ1, a1, a2, a3, a4⟩ := x_add (B := mn τ2) (h := 32) (Or.inl rfl) hX.2.1 (show p < 16 by omega) (show q < 16 by omega) zpq hlt eG r6 rn hb t2 (by rw [bears_sym]; exact hb)
          obtain ⟨σ', s1, s2⟩ := bear_fin h0 mc (by rw [← et]; rfl) (by rw [← et]; rfl) ⟨by rw [eG, ← et, gI_sI], by omega⟩ (fun g hg => by
            by_cases z : g = tG (mn τ)
            · subst z; rw [gn, rn]
            · rw [g6 g (by omega), r6 g (by omega)]) t1 a2 a4 (by rw [← et]; exact ⟨rfl, rfl, rfl, rfl, rfl, rfl, rfl⟩) (by rw [← et]; exact kp_tr (kp_sI _ _ _ rfl) (kp_sI _ _ _ rfl))
          refine ⟨_, σ', τ2, ?_, rfl, r_mono k _ _ s2⟩
          rw [a1, bD_e, s1, eG]
      | true =>
        have lz : 0 < lastG (mn τ) p q (tG (mn τ)) := by
          rcases Nat.eq_zero_or_pos (lastG (mn τ) p q (tG (mn τ))) with z | z
          · have h := l0.mp z
            have h2 : bears (mn τ) p q = false := h
            rw [hb] at h2; cases h2
          · exact z
        have lat := (bearsAt_iff (by omega) (by omega)).mp (lastG_at (mn τ) p q (tG (mn τ)) lz)
        generalize hgg : lastG (mn τ) p q (tG (mn τ)) = G1 at *
        have hg0 : G1 - 1 < tG (mn τ) := by omega
        have eg : nI G1 - 1 = nI (G1 - 1) := by rw [show (1 : Int32) = nI 1 from rfl, nI_sub (by omega)]
        rw [if_pos rfl, eg, if_neg (nI_pos (by omega))]
        unfold f_X11_bear_J43 f_X11_bear_J109
        rcases hc with rfl | rfl
        · have es : nI (tG (mn τ)) - 1 = nI (tG (mn τ) - 1) := by rw [show (1 : Int32) = nI 1 from rfl, nI_sub (by omega)]
          have j1 : jin (nI (tG (mn τ) - 1)) 120 = true := jin_nI (by omega) (by omega)
          have j2 : jin (nI (G1 - 1)) 120 = true := jin_nI (by omega) (by omega)
          rw [if_neg (show ¬ (1 : Int32) = 0 by decide), if_neg (show ¬ (1 : Int32) = 0 by decide), if_pos rfl, if_pos rfl, hM.1.2.2.1.1, es, bV_e, gI_sI, bG_t j1, bG_t j2, bV_e, ix_nI (by omega), ix_nI (by omega), gI_ne (show (6 : Nat) ≠ 1 by decide), gI_ne (show (1 : Nat) ≠ 6 by decide), gI_sI]
          generalize et : sI (sI τ 1 6 (nI (tG (mn τ) - 1))) 6 (G1 - 1) (gI τ 6 (tG (mn τ) - 1)) = τ2
          have mc : mC τ τ2 := by rw [← et]; exact ⟨kp_tr (kp_sI _ _ _ rfl) (kp_sI _ _ _ rfl), rfl, rfl, rfl, rfl⟩
          have eG : tG (mn τ2) = tG (mn τ) - 1 := by
            show mn τ2 1 6 = _
            rw [mn_at rfl, ← et, gI_ne (by decide), gI_sI, ix_nI (by omega)]
          have g6 : ∀ g, g < tG (mn τ2) → gI τ2 6 g = nI (mn τ 6 (if g = G1 - 1 then tG (mn τ) - 1 else g)) := fun g hg => by
            rw [eG] at hg
            rw [← et]
            by_cases z : g = G1 - 1
            · subst z
              rw [gI_sI, if_pos rfl]; exact (hG6 _ (by omega)).1
            · rw [gI_nei z, gI_ne (by decide), if_neg z]; exact (hG6 g (by omega)).1
          have r6 : ∀ g, g < tG (mn τ2) → mn τ2 6 g = mn τ 6 (if g = G1 - 1 then tG (mn τ) - 1 else g) := fun g hg => by
            have : mn τ 6 (if g = G1 - 1 then tG (mn τ) - 1 else g) < 2 ^ 31 := by
              have := hG6 (if g = G1 - 1 then tG (mn τ) - 1 else g) (by rw [eG] at hg; split <;> omega)
              omega
            rw [mn_at rfl, g6 g hg, ix_nI this]
          obtain ⟨t1, t2⟩ := drop_tab (B := mn τ2) wg hP16 (tE_P (mC_tE mc)).1 hg0 (by omega) (show p < 100 by omega) (show q < 100 by omega) lat r6
          obtain ⟨σ1, a1, a2, a4⟩ := x_drop (B := mn τ2) hX.2.1 h120 (show p < 16 by omega) (show q < 16 by omega) zpq hg0 lat (fun g hg hn => by
            have := wGA_in wg hP16 (g := g) (h := G1 - 1) (by omega) hg0 (by omega)
            omega) (fun g hg => by have := hG6 g hg; omega) (by omega) r6 (fun u v hi => by
              rcases isPr_iff.mp hi with ⟨rfl, rfl⟩ | ⟨rfl, rfl⟩
              · exact hb
              · rw [bears_sym]; exact hb) t2
          obtain ⟨σ', s1, s2⟩ := bear_fin h0 mc (by rw [← et]; rfl) (by rw [← et]; rfl) ⟨by rw [eG, ← et, gI_ne (by decide), gI_sI], by omega⟩ (fun g hg => by rw [g6 g hg, r6 g hg]) t1 a2 a4 (by rw [← et]; exact ⟨rfl, rfl, rfl, rfl, rfl, rfl, rfl⟩) (by rw [← et]; exact kp_tr (kp_sI _ _ _ rfl) (kp_sI _ _ _ rfl))
          refine ⟨_, σ', τ2, ?_, rfl, r_mono k _ _ s2⟩
          rw [a1, bD_e, s1, eG]
        · rw [if_pos rfl, if_pos rfl]
          exact ⟨_, _, _, rfl, rfl, r_mono k _ _ h0⟩
    · rw [g2, g3]
      exact ⟨_, _, _, rfl, rfl, r_mono k _ _ h0⟩
  · rw [h2, h3]
    exact ⟨_, _, _, rfl, rfl, r_mono k _ _ h0⟩
