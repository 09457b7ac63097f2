/-! aside, whole -/
theorem rI0_m1 {v : Nat} (h : v ≤ 100000) : rI0 v = -1 ↔ v = 0 := by
  unfold rI0
  by_cases z : v = 0
  · rw [if_pos z]; exact ⟨fun _ => z, fun _ => rfl⟩
  · rw [if_neg z]
    exact ⟨fun e => absurd e (fun u => nI_pos (n := v - 1) (by omega) (by rw [u]; decide)), fun e => absurd e z⟩
theorem xF_drop {σ : jS} {B : Tb} (h : ∀ p, p < 16 → gI σ 11 p = nI (bm (bears B p) 16)) : xF σ B := h
section XA
variable {A : Tb} {x n W s k : Nat} {L wh tg : Nat → Nat} {σ τ : jS}
/-- one grudge tried -/
theorem x_tryOne {σ1 : jS} {v g : Nat} (hk : k ≤ 4096) (w : wA A) (wg : wGA A) (hw : xW σ A) (hF : xF σ A) (hG : xG σ A) (ok : okx A x) (hS : MS A 1 (cv A x) n W n L wh tg τ) (s2 : s < 2) (hg : g < tG A) (h12 : tG A ≤ 12) (hv : isV (dT A g) s n W L wh tg v) (f : fr xH0 σ σ1) (sx : sX k σ1) : ∃ σ4, f_X10_fewestLaidAside_B18 σ1 (nI x) (nI s) (nI g) = (if rI0 v = -1 then some (.inl (nI (g + 1), σ4)) else some (.inr (nI (2 ^ g), σ4))) ∧ fr xH0 σ σ4 ∧ sX k σ4 := by
  have r6 := wg.1 g hg
  have h16 := w.1
  have a16 : A 6 g / 100 < 16 := by omega
  have b16 : A 6 g % 100 < 16 := by omega
  have e33 : gI σ1 33 g = nI (A 6 g / 100) := (fr_I f (by decide) _).trans (hG.2.1 g hg).1
  have e34 : gI σ1 34 g = nI (A 6 g % 100) := (fr_I f (by decide) _).trans (hG.2.1 g hg).2
  have f11 : ∀ p, p < 16 → gI σ1 11 p = nI (bm (bears A p) 16) := fun p hp => (fr_I f (by decide) _).trans (hF p hp)
  obtain ⟨σ2, b1, b2, b3, b4, b5⟩ := x_toggle2 (F := bears A) (G := bears (dT A g)) a16 b16 r6.2.2 f11 (fun p q hp hq => by
    rw [dT_bears wg h16 hg (by omega) (by omega)]
    cases hi : isPr (A 6 g / 100) (A 6 g % 100) p q with
    | false => simp
    | true => rw [isPr_bears hg (by omega) (by omega) hi]; rfl)
  obtain ⟨σ3, c1, c2, c3⟩ := x_solveV (f := fun i => A 6 (if i = g then tG A - 1 else i)) (m := tG A - 1) hk w (xW_fr b2 rfl (xW_fr f rfl hw)) b3 ok (sX_keep (kp_fr b2 rfl) (fr_I b2 (by decide) _) (fr_I b2 (by decide) _) sx) hS s2 hv
  obtain ⟨σ4, d1, d2, d3, d4, d5⟩ := x_toggle2 (σ := σ3) (F := bears (dT A g)) (G := bears A) a16 b16 r6.2.2 (fun p hp => (fr_I (gfr_x c2) (by decide) _).trans (b3 p hp)) (fun p q hp hq => by
    rw [dT_bears wg h16 hg (by omega) (by omega)]
    cases hi : isPr (A 6 g / 100) (A 6 g % 100) p q with
    | false => simp
    | true => rw [isPr_bears hg (by omega) (by omega) hi]; rfl)
  refine ⟨σ4, ?_, fr_trans f (back_11 f11 b2 b4 b5 (gfr_x c2) d2 d4 d5 d3), sX_keep (kp_fr d2 rfl) (fr_I d2 (by decide) _) (fr_I d2 (by decide) _) c3⟩
  unfold f_X10_fewestLaidAside_B18 f_X10_fewestLaidAside_J110
  rw [fr_I f (by decide), hG.1, if_neg (nI_ge hg (by omega)), if_neg (show ¬ (12 : Int32) ≤ nI g from nI_ge (b := 12) (by omega) (by decide)), at33 (by omega), bC_e, at34 (by omega), bC_e, e33, e34, b1, bD_e, c1, bD_e, d1, bD_e]
  by_cases z : rI0 v = -1
  · rw [if_pos z, if_pos z, bV_e, nI_1]
  · rw [if_neg z, if_neg z, one_shl g (by omega), jw_e]
theorem x_aside {v0 : Nat} {v : Nat → Nat} (hk : k ≤ 4096) (w : wA A) (wg : wGA A) (hw : xW σ A) (hF : xF σ A) (hG : xG σ A) (ok : okx A x) (sx : sX k σ) (hS : MS A 1 (cv A x) n W n L wh tg τ) (s2 : s < 2) (h12 : tG A ≤ 12) (h0 : isV A s n W L wh tg v0) (b0 : v0 ≤ 6273) (hv : ∀ g, g < tG A → isV (dT A g) s n W L wh tg (v g)) (bv : ∀ g, g < tG A → v g ≤ 6273) {r : Nat} (hr : (v0 ≠ 0 ∧ r = 0) ∨ (v0 = 0 ∧ ∃ g, g < tG A ∧ v g ≠ 0 ∧ (∀ h, h < g → v h = 0) ∧ r = 2 ^ g)) : ∃ σ', f_X10_fewestLaidAside σ (nI x) (nI s) = some (nI r, σ') ∧ fr xH0 σ σ' ∧ sX k σ' := by
  obtain ⟨σ1, a1, a2, a3⟩ := x_solveV (f := A 6) (m := tG A) hk w hw (by rw [gT_self]; exact hF) ok sx hS s2 (by rw [gT_self]; exact h0)
  have f1 := gfr_x a2
  unfold f_X10_fewestLaidAside
  rw [a1, bD_e]
  rcases hr with ⟨z0, rfl⟩ | ⟨z0, g, hg, vg, vl, rfl⟩
  · rw [if_neg (fun e => z0 ((rI0_m1 (by omega)).mp e))]
    exact ⟨σ1, rfl, f1, a3⟩
  · rw [if_pos ((rI0_m1 (by omega)).mpr z0)]
    have key := jloop_ex (S := Int32 × jS) (O := Int32 × jS) (f := fun u => f_X10_fewestLaidAside_B18 u.2 (nI x) (nI s) u.1) (fun i u => u.1 = nI i ∧ fr xH0 σ u.2 ∧ sX k u.2) g (fun o => ∃ t2, o = (nI (2 ^ g), t2) ∧ fr xH0 σ t2 ∧ sX k t2) (s0 := (0, σ1)) ⟨rfl, f1, a3⟩ (jfuel_big (by omega)) ?_ ?_
    · obtain ⟨o, o1, t2, rfl, o2⟩ := key
      exact ⟨t2, o1, o2⟩
    · rintro ⟨a, t⟩ ⟨rfl, h1, h2⟩
      obtain ⟨σ4, e1, e2, e3⟩ := x_tryOne hk w wg hw hF hG ok hS s2 hg h12 (hv g hg) h1 h2
      rw [if_neg (fun e => vg ((rI0_m1 (by have := bv g hg; omega)).mp e))] at e1
      exact ⟨_, e1, σ4, rfl, e2, e3⟩
    · rintro i ⟨a, t⟩ hi ⟨rfl, h1, h2⟩
      left
      obtain ⟨σ4, e1, e2, e3⟩ := x_tryOne hk w wg hw hF hG ok hS s2 (show i < tG A by omega) h12 (hv i (by omega)) h1 h2
      rw [if_pos ((rI0_m1 (by have := bv i (by omega); omega)).mpr (vl i hi))] at e1
      exact ⟨_, e1, rfl, e2, e3⟩
end XA
theorem least {P : Nat → Prop} : ∀ n, P n → ∃ m, m ≤ n ∧ P m ∧ ∀ j, j < m → ¬ P j
  | n, h => by
    induction n using Nat.strongRecOn with
    | ind n ih =>
      by_cases z : ∃ j, j < n ∧ P j
      · obtain ⟨j, j1, j2⟩ := z
        obtain ⟨m, m1, m2⟩ := ih j j1 j2
        exact ⟨m, by omega, m2⟩
      · exact ⟨n, Nat.le_refl n, h, fun j hj hp => z ⟨j, hj, hp⟩⟩
theorem r_aside (k : Nat) (σ τ : jS) (a b : Int32) (hk : k < 2048) (h : Rel k σ τ) : ∃ r σ2 τ2, f_X10_aside σ a b = some (r, σ2) ∧ f_X11_aside τ a b = some (r, τ2) ∧ Rel (k + 4) σ2 τ2 := by
  have h0 := h
  obtain ⟨rs, sx, sm⟩ := h
  obtain ⟨hM, hX, hH, hS, _⟩ := id rs
  unfold f_X10_aside f_X11_aside
  rcases is_both (x_isQuarrel hX.1 hM.1.2.2.2.1.2 a) (m_isQuarrel hM.1 a) with ⟨q, h1, rfl, h2, h3⟩ | ⟨h2, h3⟩
  case inr =>
    rw [h2, h3]
    exact ⟨_, _, _, rfl, rfl, r_mono k _ _ h0⟩
  have q4 : q < 4 := by have := hM.1.2.2.2.1.2; omega
  rw [h2, h3, bC_e, bC_e, if_neg (show ¬ (1 : Int32) = 0 by decide), if_neg (show ¬ (1 : Int32) = 0 by decide)]
  rcases side_both b with ⟨s, s2, rfl, g2, g3⟩ | ⟨g2, g3⟩
  case inr =>
    rw [g2, g3]
    exact ⟨_, _, _, rfl, rfl, r_mono k _ _ h0⟩
  have hxG := hX.2.1
  have hG := hM.1.2.2.1
  rw [g2, g3, bC_e, bC_e, if_neg (show ¬ (1 : Int32) = 0 by decide), if_neg (show ¬ (1 : Int32) = 0 by decide), hxG.1, hG.1]
  by_cases g12 : tG (mn τ) ≤ 12
  case neg =>
    rw [if_neg (show ¬ nI (tG (mn τ)) ≤ 12 from nI_ge (a := 12) (by omega) (by omega)), if_neg (show ¬ nI (tG (mn τ)) ≤ 12 from nI_ge (a := 12) (by omega) (by omega))]
    exact ⟨_, _, _, rfl, rfl, r_mono k _ _ h0⟩
  rw [if_pos (show nI (tG (mn τ)) ≤ 12 from nI_le (b := 12) g12 (by decide)), if_pos (show nI (tG (mn τ)) ≤ 12 from nI_le (b := 12) g12 (by decide)), bG_t (jin_nI q4 (by omega)), ix_nI (by omega)]
  obtain ⟨x, e1, ok, h9, e4⟩ := hH q h1
  have w := wA_of hM.1 hM.2.2.1
  have wg := wGA_of hM.2.2.2.2.1
  obtain ⟨hw, hf⟩ := hX.2.2.2 (tQ_tP hM (by omega))
  obtain ⟨n, W, L, wh, tg, τ1, b1, b2, b3⟩ := m_spread hM rfl (past := 1) (by decide) (cv_ok w ok) sm
  have hM1 := mS_W (kfr_mS b3) hM
  -- what each set gives
  obtain ⟨v0, t1, t2, _, _, c0, _, b0, _, _⟩ := m_tryOn (B := mn τ) hM1.1 hM1.2 w s2 (show 0 < 2 ^ 31 by decide) b2 (kfr_rfl τ1) (fun p q _ _ => brW_0)
  have hv : ∃ v : Nat → Nat, ∀ g, g < tG (mn τ) → isV (dT (mn τ) g) s n W L wh tg (v g) ∧ v g ≤ 6273 := by
    have : ∀ g, ∃ v, g < tG (mn τ) → isV (dT (mn τ) g) s n W L wh tg v ∧ v ≤ 6273 := fun g => by
      by_cases z : g < tG (mn τ)
      · obtain ⟨v, t1, t2, _, _, c, _, b, _, _⟩ := m_tryOn (B := dT (mn τ) g) (i := 2 ^ g) hM1.1 hM1.2 w s2 (Nat.pow_lt_pow_right (by decide) (by omega)) b2 (kfr_rfl τ1) (fun p q hp hq => dT_brW wg w.1 z g12 hp hq)
        exact ⟨v, fun _ => ⟨c, b⟩⟩
      · exact ⟨0, fun e => absurd e z⟩
    exact ⟨fun g => Classical.choose (this g), fun g => Classical.choose_spec (this g)⟩
  obtain ⟨v, hv⟩ := hv
  -- the answer
  have hr : ∃ r, (v0 ≠ 0 ∧ r = 0) ∨ (v0 = 0 ∧ ∃ g, g < tG (mn τ) ∧ v g ≠ 0 ∧ (∀ h, h < g → v h = 0) ∧ r = 2 ^ g) := by
    by_cases z : v0 = 0
    · have ne : ended (mn τ) (cv (mn τ) x) = false := by
        cases he : ended (mn τ) (cv (mn τ) x) with
        | false => rfl
        | true =>
          have := isV_end b2 c0 he
          omega
      have hb : bears (mn τ) (cOne (cv (mn τ) x)) (cTwo (cv (mn τ) x)) = true := by
        unfold ended at ne
        rw [Bool.not_eq_false'] at ne
        exact ne
      have o16 := cOne_lt (cv_lt w ok)
      have t16 := cTwo_lt (cv (mn τ) x)
      obtain ⟨g, g1, g2⟩ := (bears_iff (by omega) (by omega)).mp hb
      have he : ended (dT (mn τ) g) (cv (mn τ) x) = true := by
        unfold ended
        rw [dT_bears wg w.1 g1 (by omega) (by omega), hb, isPr_iff.mpr (by omega)]
        rfl
      have v1 := isV_end b2 (hv g g1).1 he
      obtain ⟨m, m1, m2, m3⟩ := least (P := fun g => v g ≠ 0) g (by omega)
      exact ⟨2 ^ m, Or.inr ⟨z, m, by omega, m2, fun h hh => Classical.byContradiction (fun e => m3 h hh e), rfl⟩⟩
    · exact ⟨0, Or.inl ⟨z, rfl⟩⟩
  obtain ⟨r, hr⟩ := hr
  obtain ⟨τ', d1, d2, d3⟩ := m_aside hM1.1 hM1.2 w wg s2 g12 b2 c0 (fun g hg => (hv g hg).1) hr
  obtain ⟨σ', f1, f2, f3⟩ := x_aside (k := k) (by omega) w wg hw hf hxG ok sx b2 s2 g12 c0 b0 (fun g hg => (hv g hg).1) (fun g hg => (hv g hg).2) hr
  have kk := kfr_tr b3 d3
  rw [at30 q4, bC_e, e1, f1, bD_e, h9, show f_X11_spread τ (nI (cv (mn τ) x)) 1 = some ((), τ1) from b1, bD_e, d1]
  exact ⟨_, _, _, rfl, rfl, r_mono k _ _ ⟨RS_scratch f2 kk rs, f3, MS_sM d2 kk sm⟩⟩
