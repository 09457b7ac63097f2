/-! town -/
theorem mP_mS {τ τ' : jS} (h : mP τ τ') : mS τ τ' := by
  refine ⟨fun a i q => h.1 a i ?_ ?_, fun i => h.1 5 i (fun q => absurd q.1 (by decide)) (by decide), h.1 1 35 (by decide) (by decide)⟩
  · rintro ⟨rfl, hi⟩
    unfold stat at q
    simp at q hi
    omega
  · intro hi
    unfold stat at q
    simp at q hi
    omega
theorem mP_i {τ τ' : jS} (h : mP τ τ') {i : Nat} (hi : i ∉ [17, 18, 20, 21, 22, 23, 25, 28, 30, 33, 34]) : gI τ' 1 i = gI τ 1 i := h.1 1 i (fun q => hi q.2) (by decide)
theorem mP_kp {τ τ' : jS} (h : mP τ τ') {l : List Nat} (d : l.all (fun a => ![1, 12, 13, 14, 15, 16, 17].contains a) = true) : kp l τ τ' := fun a ha i => by
  have := List.all_eq_true.mp d a ha
  simp at this
  exact h.1 a i (fun q => by omega) (by simp; omega)
theorem x_takeT {σ : jS} {T : Nat} {B : Tb} (hT : T = 51 ∨ T = 61) (g : xGr σ (T + 6) B) (h120 : tG B ≤ 120) : ∃ σ', f_X1_take σ 32 (T + 6) = some ((), σ') ∧ fr [32, 33, 34, 35] σ σ' ∧ xGr σ' 32 B := by
  obtain ⟨g1, g2, g3⟩ := g
  have hh := (T_gr hT).2
  have sp : rPX (T + 6) 0 = T + 7 ∧ rPX (T + 6) 1 = T + 8 ∧ rPX (T + 6) 2 = T + 9 := by rcases hT with rfl | rfl <;> exact ⟨rfl, rfl, rfl⟩
  have ss : (jrwX 0 (T + 7) = true ∧ (SHX (T + 7)).2 = 120) ∧ (jrwX 0 (T + 8) = true ∧ (SHX (T + 8)).2 = 120) ∧ (jrwX 0 (T + 9) = true ∧ (SHX (T + 9)).2 = 16) := by rcases hT with rfl | rfl <;> exact ⟨⟨rfl, rfl⟩, ⟨rfl, rfl⟩, ⟨rfl, rfl⟩⟩
  obtain ⟨⟨y5, y6⟩, ⟨y7, y8⟩, ⟨y9, y10⟩⟩ := ss
  obtain ⟨σ2, b1, b2, b3, b4, b5⟩ := x_copy (σ := sI σ 32 3 (nI (tG B))) (a := T + 7) (b := 33) (n := tG B) (by omega) y5 (by decide) rfl (by omega) h120 (by omega) (by decide) (by omega) (by omega)
  obtain ⟨σ3, c1, c2, c3, c4, c5⟩ := x_copy (σ := σ2) (a := T + 8) (b := 34) (n := tG B) (by omega) y7 (by decide) rfl (by omega) h120 (by omega) (by decide) (by omega) (by omega)
  obtain ⟨σ4, e1, e2, e3, e4, e5⟩ := x_copy (σ := σ3) (a := T + 9) (b := 35) (n := 16) (by omega) y9 (by decide) rfl (by omega) (by decide) (by omega) (by decide) (by decide) (by omega)
  refine ⟨σ4, ?_, ?_, ?_, fun g hg => ⟨?_, ?_⟩, fun p hp => ?_⟩
  · unfold f_X1_take
    rw [bH_t (gr_in hh), bH_t (by decide), g1, bV_e, gI_sI, sp.1, show rPX 32 0 = 33 from rfl, b1, bD_e, fr_I b2 (by decide), gI_sI, sp.2.1, show rPX 32 1 = 34 from rfl, c1, bD_e, sp.2.2, show rPX 32 2 = 35 from rfl]
    rw [show f_X6_copy σ3 (T + 9) 35 16 = some ((), σ4) from e1, bD_e]
  · exact fr_trans (fr_trans (fr_trans (fr_sI _ _ _ (by simp)) (fr_mono b2 (by simp))) (fr_mono c2 (by simp))) (fr_mono e2 (by simp))
  · rw [fr_I e2 (by decide), fr_I c2 (by decide), fr_I b2 (by decide), gI_sI]
  · show gI σ4 33 g = _
    rw [fr_I e2 (by decide), fr_I c2 (by decide), b3 g hg, gI_ne (by omega)]
    exact (g2 g hg).1
  · show gI σ4 34 g = _
    rw [fr_I e2 (by decide), c3 g hg, fr_I b2 (by simp; omega), gI_ne (by omega)]
    exact (g2 g hg).2
  · show gI σ4 35 p = _
    rw [e3 p hp, fr_I c2 (by simp; omega), fr_I b2 (by simp; omega), gI_ne (by omega)]
    exact g3 p hp
theorem x_told_any {σ : jS} (hT : σ.2.2.1 = 51 ∨ σ.2.2.1 = 61) {q : Nat} (h4 : q < 4) : ∃ v, f_X10_toldHow σ (nI q) = some v := by
  unfold f_X10_toldHow f_X0_state
  rw [bV_e, bH_t (T_in hT), atT (j := 3) (n := 4) hT (by omega) h4, bC_e, bV_e, bH_t (T_in hT), atT (j := 4) (n := 4) hT (by omega) h4, bC_e, bC_e]
  exact ⟨_, rfl⟩
theorem x_img (σ : jS) {i : Nat} (h : i < 2) : f_X10_imageAt σ (nI i) = some (37 + 7 * i) := by
  have : i = 0 ∨ i = 1 := by omega
  unfold f_X10_imageAt f_X10_imageAt_J29 f_X10_imageAt_J30
  rcases this with rfl | rfl
  · rw [if_neg (show ¬ (36 : Nat) = 0 by decide)]; rfl
  · rw [if_neg (show ¬ (36 : Nat) = 0 by decide)]; rfl
theorem x_townTail {s : jS} {A : Tb} (w : wA A) (hT : xT s A) (hS : ∀ p, p < 16 → A 2 p ≤ 9) (hW : tW A ≤ 3) (hL : xL s A) (hG : ∀ p, p < 16 → gI s 35 p = nI (bm (bears A p) 16)) (hq : tQ A ≤ 4) : ∃ σ', jloop jFuel (fun s => f_X10_town_B77 s.2 s.1) (0, s) = some (nI (tP A), σ') ∧ fr [30, 31, 23, 37, 44, 5, 6, 7, 8, 9, 10, 11] s σ' ∧ (∀ q, q < tQ A → gI σ' 30 q = nI (tdx A q) ∧ gI σ' 31 q = 0) ∧ gI σ' 23 2 = 0 ∧ gI σ' 23 3 = 0 ∧ gI σ' 37 6 = 0 ∧ gI σ' 44 6 = 0 ∧ xW σ' A ∧ xF σ' A := by
  have key := jloop_ex (S := Int32 × jS) (O := Int32 × jS) (f := fun s => f_X10_town_B77 s.2 s.1) (fun i t => t.1 = nI i ∧ fr [30, 31] s t.2 ∧ ∀ q, q < i → q < tQ A → gI t.2 30 q = nI (tdx A q) ∧ gI t.2 31 q = 0) 4 (fun o => o.1 = nI (tP A) ∧ fr [30, 31, 23, 37, 44, 5, 6, 7, 8, 9, 10, 11] s o.2 ∧ (∀ q, q < tQ A → gI o.2 30 q = nI (tdx A q) ∧ gI o.2 31 q = 0) ∧ gI o.2 23 2 = 0 ∧ gI o.2 23 3 = 0 ∧ gI o.2 37 6 = 0 ∧ gI o.2 44 6 = 0 ∧ xW o.2 A ∧ xF o.2 A) (s0 := (0, s)) ⟨rfl, fr_rfl _ _, fun q hq => absurd hq (Nat.not_lt_zero q)⟩ (jfuel_big (by omega)) ?_ ?_
  · obtain ⟨⟨o1, o2⟩, e1, rfl, e2⟩ := key
    exact ⟨o2, e1, e2⟩
  · rintro ⟨a, t⟩ ⟨rfl, f, hh⟩
    replace f : fr [30, 31] s t := f
    replace hh : ∀ q, q < 4 → q < tQ A → gI t 30 q = nI (tdx A q) ∧ gI t 31 q = 0 := hh
    have f2 : fr [23] t (sI (sI t 23 2 0) 23 3 0) := fr_trans (fr_sI _ _ _ (by decide)) (fr_sI _ _ _ (by decide))
    have key2 := jloop_ex (S := Int32 × jS) (O := Int32 × jS) (f := fun s => f_X10_town_B125 s.2 s.1) (fun i u => u.1 = nI i ∧ fr [37, 44] (sI (sI t 23 2 0) 23 3 0) u.2 ∧ ∀ j, j < i → gI u.2 (37 + 7 * j) 6 = 0) 2 (fun o => o.1 = nI (tP A) ∧ fr [37, 44, 5, 6, 7, 8, 9, 10, 11] (sI (sI t 23 2 0) 23 3 0) o.2 ∧ gI o.2 37 6 = 0 ∧ gI o.2 44 6 = 0 ∧ xW o.2 A ∧ xF o.2 A) (s0 := (0, sI (sI t 23 2 0) 23 3 0)) ⟨rfl, fr_rfl _ _, fun q hq => absurd hq (Nat.not_lt_zero q)⟩ (jfuel_big (by omega)) ?_ ?_
    · obtain ⟨⟨o1, o2⟩, e1, rfl, b2, b3, b4, b5, b6⟩ := key2
      refine ⟨(nI (tP A), o2), ?_, rfl, ?_, fun q hq2 => ?_, ?_, ?_, b3, b4, b5, b6⟩
      · show f_X10_town_B77 t (nI 4) = _
        unfold f_X10_town_B77 f_X10_town_J116 f_X3_empty
        rw [if_pos (show (4 : Int32) ≤ nI 4 from Int32.le_refl _), bV_e, bV_e, bD_e, e1, jw_e]
      · exact fr_trans (fr_trans (fr_mono f (by decide)) (fr_mono f2 (by decide))) (fr_mono b2 (by decide))
      · show gI o2 30 q = _ ∧ gI o2 31 q = _
        rw [fr_I b2 (by decide), fr_I f2 (by decide), fr_I b2 (by decide), fr_I f2 (by decide)]
        exact hh q (by omega) hq2
      · show gI o2 23 2 = 0
        rw [fr_I b2 (by decide), gI_nei (by decide), gI_sI]
      · show gI o2 23 3 = 0
        rw [fr_I b2 (by decide), gI_sI]
    · rintro ⟨a, u⟩ ⟨rfl, f3, hi⟩
      replace f3 : fr [37, 44] (sI (sI t 23 2 0) 23 3 0) u := f3
      replace hi : ∀ j, j < 2 → gI u (37 + 7 * j) 6 = 0 := hi
      have fu : fr [30, 31, 23, 37, 44] s u := fr_trans (fr_trans (fr_mono f (by decide)) (fr_mono f2 (by decide))) (fr_mono f3 (by decide))
      have hTu : xT u A := by
        have := xTb_kp (σ := s) (σ' := u) (T := s.2.2.1) (kp_fr fu rfl) hT
        rw [← fr_T fu] at this
        exact this
      obtain ⟨σ', s1, s2, s3, s4⟩ := x_settle w hTu hS hW ⟨(fr_I fu (by decide) _).trans hL.1, (fr_I fu (by decide) _).trans hL.2⟩ (fun p hp => (fr_I fu (by decide) _).trans (hG p hp))
      have hT' : xT σ' A := by
        have := xTb_kp (σ := u) (σ' := σ') (T := u.2.2.1) (kp_fr s2 rfl) hTu
        rw [← fr_T s2] at this
        exact this
      refine ⟨(nI (tP A), σ'), ?_, rfl, fr_trans (fr_mono f3 (by decide)) (fr_mono s2 (by decide)), ?_, ?_, s3, s4⟩
      · show f_X10_town_B125 u (nI 2) = _
        unfold f_X10_town_B125 f_X10_town_J154
        rw [if_pos (show (2 : Int32) ≤ nI 2 from Int32.le_refl _), s1, bD_e, bV_e, bH_t (T_in hT'.1), hT'.2.1, jw_e]
      · exact (fr_I s2 (by decide) _).trans (hi 0 (by decide))
      · exact (fr_I s2 (by decide) _).trans (hi 1 (by decide))
    · rintro i ⟨a, u⟩ hi ⟨rfl, f3, hh2⟩
      replace f3 : fr [37, 44] (sI (sI t 23 2 0) 23 3 0) u := f3
      have hin : 37 + 7 * i ∈ [29, 37, 44] := by
        have : i = 0 ∨ i = 1 := by omega
        rcases this with rfl | rfl <;> decide
      have hin2 : 37 + 7 * i ∈ [37, 44] := by
        have : i = 0 ∨ i = 1 := by omega
        rcases this with rfl | rfl <;> decide
      refine Or.inl ⟨(nI (i + 1), sI u (37 + 7 * i) 6 0), ?_, rfl, fr_trans f3 (fr_sI _ _ _ hin2), fun j hj => ?_⟩
      · show f_X10_town_B125 u (nI i) = _
        unfold f_X10_town_B125 f_X10_town_J148
        rw [if_neg (show ¬ (2 : Int32) ≤ nI i from nI_ge (b := 2) hi (by decide)), x_img u hi, bC_e, if_neg (by omega), bH_t hin, bV_e, bV_e, nI_1]
      · show gI (sI u (37 + 7 * i) 6 0) (37 + 7 * j) 6 = 0
        by_cases z : j = i
        · subst z; exact gI_sI _ _ _ _
        · rw [gI_ne (by omega)]; exact hh2 j (by omega)
  · rintro i ⟨a, t⟩ hi ⟨rfl, f, hh⟩
    replace f : fr [30, 31] s t := f
    have hTt : xT t A := by
      have := xTb_kp (σ := s) (σ' := t) (T := s.2.2.1) (kp_fr f rfl) hT
      rw [← fr_T f] at this
      exact this
    obtain ⟨v, hv⟩ := x_told_any hTt.1 hi
    refine Or.inl ⟨(nI (i + 1), sI (sI t 30 i v) 31 i 0), ?_, rfl, fr_trans f (fr_trans (fr_sI _ _ _ (by decide)) (fr_sI _ _ _ (by decide))), fun q hq1 hq2 => ?_⟩
    · show f_X10_town_B77 t (nI i) = _
      unfold f_X10_town_B77
      rw [if_neg (show ¬ (4 : Int32) ≤ nI i from nI_ge (b := 4) hi (by decide)), hv, bC_e, put30 hi, bD_e, put31 hi, bD_e, bV_e, nI_1]
    · show gI (sI (sI t 30 i v) 31 i 0) 30 q = _ ∧ gI (sI (sI t 30 i v) 31 i 0) 31 q = _
      rw [gI_ne (show (30 : Nat) ≠ 31 by decide)]
      by_cases z : q = i
      · subst z
        rw [gI_sI, gI_sI]
        rw [x_told hTt hq2 hi] at hv
        exact ⟨(Option.some.inj hv).symm, rfl⟩
      · rw [gI_nei z, gI_nei z, gI_ne (show (31 : Nat) ≠ 30 by decide)]
        exact hh q (by omega) hq2
/-- the table after a town is taken -/
theorem tk_WM {τ τ2 : jS} {B : Tb} (g : gB B) (r : tkRes B τ τ2) (s : s12 τ) {lw b : Nat} (h13 : gI τ 1 13 = nI lw) (hlw : lw ≤ 3) (h14 : gI τ 1 14 = nI b) (hb : b ≤ 1) (h35 : gI τ 1 35 = -1) : WM τ2 ∧ (tP (mn τ2) = tP B ∧ tT (mn τ2) = tT B ∧ tG (mn τ2) = tG B ∧ tQ (mn τ2) = tQ B ∧ tW (mn τ2) = lw ∧ tB (mn τ2) = b) ∧ (∀ p, p < tP B → gI τ 12 p = nI (B 2 p) → mn τ2 2 p = B 2 p) ∧ (∀ t, t < tT B → mn τ2 3 t = B 3 t ∧ mn τ2 4 t = B 4 t) ∧ (∀ u, u < tG B → mn τ2 6 u = B 6 u) ∧ ∀ q, q < tQ B → mn τ2 7 q = B 7 q ∧ mn τ2 8 q = B 8 q := by
  obtain ⟨g1, g2, g3, g4, g5, g6, g7, g8, g9⟩ := g
  obtain ⟨r1, r2, r3, r4, r5, r6, ⟨r7, r8, r9, r10⟩, r11, r12, r13, r14⟩ := r
  have eP : tP (mn τ2) = tP B := by
    show mn τ2 1 0 = _
    rw [mn_at rfl, r7, ix_nI (by omega)]
  have eT : tT (mn τ2) = tT B := by
    show mn τ2 1 2 = _
    rw [mn_at rfl, r8, ix_nI (by omega)]
  have eG : tG (mn τ2) = tG B := by
    show mn τ2 1 6 = _
    rw [mn_at rfl, r9, ix_nI (by omega)]
  have eQ : tQ (mn τ2) = tQ B := by
    show mn τ2 1 8 = _
    rw [mn_at rfl, r10, ix_nI (by omega)]
  have f13 : gI τ2 1 13 = nI lw := (r2 13 (by decide) (by decide) (by decide) (by decide) (by decide) (by decide)).trans h13
  have f14 : gI τ2 1 14 = nI b := (r2 14 (by decide) (by decide) (by decide) (by decide) (by decide) (by decide)).trans h14
  have eW : tW (mn τ2) = lw := by
    show mn τ2 1 13 = _
    rw [mn_at rfl, f13, ix_nI (by omega)]
  have eB : tB (mn τ2) = b := by
    show mn τ2 1 14 = _
    rw [mn_at rfl, f14, ix_nI (by omega)]
  have e34 : ∀ t, t < tT B → mn τ2 3 t = B 3 t ∧ mn τ2 4 t = B 4 t := fun t ht => by
    have := g6 t ht
    rw [mn_at rfl, mn_at rfl, (r12 t ht).1, (r12 t ht).2, ix_nI (by omega), ix_nI (by omega)]
    exact ⟨rfl, rfl⟩
  have e6 : ∀ u, u < tG B → mn τ2 6 u = B 6 u := fun u hu => by
    have := g8.1 u hu
    rw [mn_at rfl, r13 u hu, ix_nI (by omega)]
  have e78 : ∀ q, q < tQ B → mn τ2 7 q = B 7 q ∧ mn τ2 8 q = B 8 q := fun q hq => by
    have := g9 q hq
    rw [mn_at rfl, mn_at rfl, (r14 q hq).1, (r14 q hq).2.1, ix_nI (by omega), ix_nI (by omega)]
    exact ⟨rfl, rfl⟩
  have eO : ∀ p q, owes (mn τ2) p q = owes B p q := fun p q => by
    unfold owes
    rw [eT]
    exact bex_cong fun t ht => by rw [(e34 t ht).1, (e34 t ht).2]
  refine ⟨⟨⟨⟨by rw [eP]; exact r7, by omega⟩, ⟨by rw [eT]; exact r8, by omega⟩, ⟨by rw [eG]; exact r9, by omega⟩, ⟨by rw [eQ]; exact r10, by omega⟩, ⟨by rw [eW]; exact f13, by omega⟩, ⟨by rw [eB]; exact f14, by omega⟩⟩, fun p hp => ?_, ⟨fun t ht => ?_, fun t u ht hu x y => ?_⟩, fun p hp => ?_, ⟨fun u hu => ?_, ?_⟩, fun q hq => ?_, (r2 35 (by decide) (by decide) (by decide) (by decide) (by decide) (by decide)).trans h35⟩, ⟨eP, eT, eG, eQ, eW, eB⟩, fun p hp h => ?_, e34, e6, e78⟩
  · obtain ⟨v, v1, v2⟩ := s p hp
    have h2 := (r11 p hp).1.trans v2
    rw [mn_at rfl, h2, ix_nI (by omega)]
    exact ⟨rfl, v1⟩
  · rw [eT] at ht
    rw [(e34 t ht).1, (e34 t ht).2, eP]
    have := g6 t ht
    exact ⟨(r12 t ht).1, (r12 t ht).2, this⟩
  · rw [eT] at ht hu
    rw [(e34 t ht).1, (e34 u hu).1] at x
    rw [(e34 t ht).2, (e34 u hu).2] at y
    exact g7 t u ht hu x y
  · rw [(r11 p hp).2]
    exact congrArg nI (bm_cong fun q _ => (eO p q).symm)
  · rw [eG] at hu
    rw [e6 u hu, eP]
    exact ⟨r13 u hu, g8.1 u hu⟩
  · exact (wGA_cong eP eG e6 g8).2
  · rw [eQ] at hq
    rw [(e78 q hq).1, (e78 q hq).2, eP]
    exact ⟨(r14 q hq).1, (r14 q hq).2.1, g9 q hq⟩
  · have := g5 p hp
    rw [mn_at rfl, (r11 p (by omega)).1, h, ix_nI (by omega)]
