/-! once: the class's most, whole -/
section MX
variable {A : Tb}
theorem x_allQ {t0 : jS} {T e : Nat} {b : Int32} {D : Nat → Nat → Prop} (w : wA A) (hT : tT A ≤ 8) (eT : t0.2.2.1 = T) (hX : xT t0 A) (hWF : tQ A ≠ 0 → xW t0 A ∧ xF t0 A) (h17 : gI t0 17 2 = nI (tT A)) (he : e < 16) (q4 : tQ A ≤ 4) (hQ : ∀ q, q < tQ A → A 7 q < tP A ∧ A 8 q < tP A ∧ A 7 q ≠ A 8 q) (hD : RD A D t0) : ∃ t', f_X4_mostEnded_J75 t0 T b (nI e) = some (.inl (b, nI (e + 1), t')) ∧ fr [17, 18, 19] t0 t' ∧ gI t' 17 2 = nI (tT A) ∧ RD A (fun e' u' => D e' u' ∨ ∃ q, q < tQ A ∧ e.testBit q = false ∧ e' = e ||| 2 ^ q ∧ ∃ u, u < 2 ^ tT A ∧ D e u ∧ RE A (tdc A q) u u') t' := by
  have hTT : T ∈ [51, 61] := by rw [← eT]; exact T_in hX.1
  unfold f_X4_mostEnded_J75
  have key := jloop_ex (S := Int32 × jS) (O := (Int32 × Int32 × jS) ⊕ (Int32 × jS)) (f := fun s => f_X4_mostEnded_B78 s.2 T b (nI e) s.1) (fun q s => s.1 = nI q ∧ fr [17, 18, 19] t0 s.2 ∧ gI s.2 17 2 = nI (tT A) ∧ RD A (fun e' u' => D e' u' ∨ ∃ q', q' < q ∧ e.testBit q' = false ∧ e' = e ||| 2 ^ q' ∧ ∃ u, u < 2 ^ tT A ∧ D e u ∧ RE A (tdc A q') u u') s.2) (tQ A) (fun o => ∃ t', o = .inl (b, nI (e + 1), t') ∧ fr [17, 18, 19] t0 t' ∧ gI t' 17 2 = nI (tT A) ∧ RD A (fun e' u' => D e' u' ∨ ∃ q, q < tQ A ∧ e.testBit q = false ∧ e' = e ||| 2 ^ q ∧ ∃ u, u < 2 ^ tT A ∧ D e u ∧ RE A (tdc A q) u u') t') (s0 := (0, t0)) ⟨rfl, fr_rfl _ _, h17, RD_cong hD fun e' u' _ => ⟨fun h => Or.inl h, fun h => h.elim id (fun ⟨q, hq, _⟩ => absurd hq (Nat.not_lt_zero q))⟩⟩ (jfuel_big (by omega)) ?_ ?_
  · obtain ⟨o, o1, t', rfl, o2⟩ := key
    exact ⟨t', o1, o2⟩
  · rintro ⟨x, t⟩ ⟨rfl, f, g, r⟩
    replace f : fr [17, 18, 19] t0 t := f
    refine ⟨_, ?_, t, rfl, f, g, r⟩
    have hXt := xT_fr f rfl hX
    have e8 : gI t T 8 = nI (tQ A) := by rw [← eT, ← fr_T f]; exact hXt.2.2.2.1
    show f_X4_mostEnded_B78 t T b (nI e) (nI (tQ A)) = _
    unfold f_X4_mostEnded_B78 f_X4_mostEnded_J113
    rw [bH_t hTT, e8, if_pos (Int32.le_refl _), bV_e, nI_1, jw_e]
  · rintro q ⟨x, t⟩ hq ⟨rfl, f, g, r⟩
    replace f : fr [17, 18, 19] t0 t := f
    replace g : gI t 17 2 = nI (tT A) := g
    have hXt := xT_fr f rfl hX
    obtain ⟨wf1, wf2⟩ := hWF (by omega)
    have hXQ : XQ t A := XQ_fr f ⟨hX, wf1, wf2⟩
    have e8 : gI t T 8 = nI (tQ A) := by rw [← eT, ← fr_T f]; exact hXt.2.2.2.1
    obtain ⟨k1, k2, k3⟩ := hQ q hq
    refine Or.inl ?_
    show ∃ s', f_X4_mostEnded_B78 t T b (nI e) (nI q) = _ ∧ _
    unfold f_X4_mostEnded_B78 f_X4_mostEnded_J107
    rw [bH_t hTT, e8, if_neg (nI_ge hq (by omega)), nI_bit (by omega) (by omega)]
    cases hb : e.testBit q with
    | true =>
      rw [if_pos rfl, if_neg (show ¬ (1 : Int32) = 0 by decide), bV_e, nI_1]
      refine ⟨_, rfl, rfl, f, g, RD_cong r fun e' u' _ => ⟨?_, ?_⟩⟩
      · rintro (h | ⟨q', h1, h2⟩)
        · exact Or.inl h
        · exact Or.inr ⟨q', by omega, h2⟩
      · rintro (h | ⟨q', h1, h2, h3⟩)
        · exact Or.inl h
        · have : q' ≠ q := fun z => by rw [z, hb] at h2; cases h2
          exact Or.inr ⟨q', by omega, h2, h3⟩
    | false =>
      obtain ⟨t', d1, d2, d3, d4⟩ := x_oneMore w hT hXQ g he hq q4 hb k1 k2 k3 r
      rw [fr_T f, eT] at d1
      rw [if_neg (show ¬ false = true by decide), if_pos rfl, d1, bD_e, bV_e, nI_1]
      refine ⟨_, rfl, rfl, fr_trans f d2, d3, RD_cong d4 fun e' u' _ => ⟨?_, ?_⟩⟩
      · rintro ((h | ⟨q', h1, h2⟩) | ⟨h1, u, h2, h3, h4⟩)
        · exact Or.inl h
        · exact Or.inr ⟨q', by omega, h2⟩
        · rcases h3 with h3 | ⟨q', h5, h6, h7, _⟩
          · exact Or.inr ⟨q, by omega, hb, h1, u, h2, h3, h4⟩
          · exact absurd h7 (or_ne h6)
      · rintro (h | ⟨q', h1, h2, h3, u, h4, h5, h6⟩)
        · exact Or.inl (Or.inl h)
        · by_cases z : q' = q
          · subst z
            exact Or.inr ⟨h3, u, h4, Or.inl h5, h6⟩
          · exact Or.inl (Or.inr ⟨q', by omega, h2, h3, u, h4, h5, h6⟩)
theorem x_mostEnded {σ : jS} {T u0 : Nat} (w : wA A) (hT : tT A ≤ 8) (eT : σ.2.2.1 = T) (hX : xT σ A) (hWF : tQ A ≠ 0 → xW σ A ∧ xF σ A) (q4 : tQ A ≤ 4) (hQ : ∀ q, q < tQ A → A 7 q < tP A ∧ A 8 q < tP A ∧ A 7 q ≠ A 8 q) (hu0 : u0 < 2 ^ tT A) : ∃ σ', f_X4_mostEnded σ T (nI u0) = some (nI (BS A u0 (2 ^ tQ A)), σ') ∧ fr [17, 18, 19] σ σ' := by
  have hTT : T ∈ [51, 61] := by rw [← eT]; exact T_in hX.1
  have p8 : 2 ^ tT A ≤ 256 := Nat.pow_le_pow_right (n := 2) (by decide) hT
  have p16 : 2 ^ tQ A ≤ 16 := Nat.pow_le_pow_right (n := 2) (by decide) q4
  have e7 : gI σ T 7 = nI (tT A) := by rw [← eT]; exact hX.2.2.1
  unfold f_X4_mostEnded
  rw [bH_t hTT, e7, if_neg (show ¬ (8 : Int32) < nI (tT A) from Int32.not_lt.mpr (show nI (tT A) ≤ nI 8 from nI_le hT (by decide))), bV_e]
  obtain ⟨s1, a1, a2, a3, a4⟩ := x_fillL (σ := sI σ 17 2 (nI (tT A))) (h := 18) (v := 0) (by decide) rfl (by decide)
  obtain ⟨s, b1, b2, b3, b4⟩ := x_putBit (σ := s1) (h := 18) (i := u0) (by decide) rfl (show u0 / 64 < 64 by omega) (by decide)
  rw [a1, bD_e, b1, bD_e]
  have fs : fr [17, 18, 19] σ s := fr_trans (fr_sI _ _ _ (by simp)) (fr_trans (fr_mono a2 (by simp)) (fr_mono b2 (by simp)))
  have s17 : gI s 17 2 = nI (tT A) := by rw [b4, a4, gI_sI]
  have rd0 : RD A (fun e u => CC A u0 0 e u = true) s := fun j hj => by
    rw [b3, rb_0 (n := 64) a3 (show j / 64 < 64 by omega), Bool.false_or, beq_iff_eq]
    constructor
    · rintro rfl
      exact ⟨0, j, hu0, by unfold CC; simp, by omega⟩
    · rintro ⟨e, u, h1, h2, h3⟩
      have h2' : (e == 0 && u == u0) = true := h2
      rw [Bool.and_eq_true, beq_iff_eq, beq_iff_eq] at h2'
      rw [h3, h2'.1, h2'.2]; omega
  have key := jloop_ex (S := Int32 × Int32 × jS) (O := Int32 × jS) (f := fun s => f_X4_mostEnded_B35 s.2.2 T s.1 s.2.1) (fun e t => t.1 = nI (BS A u0 e) ∧ t.2.1 = nI e ∧ fr [17, 18, 19] σ t.2.2 ∧ gI t.2.2 17 2 = nI (tT A) ∧ RD A (fun e' u => CC A u0 e e' u = true) t.2.2) (2 ^ tQ A) (fun o => o.1 = nI (BS A u0 (2 ^ tQ A)) ∧ fr [17, 18, 19] σ o.2) (s0 := (0, 0, s)) ⟨rfl, rfl, fs, s17, rd0⟩ (jfuel_big (by omega)) ?_ ?_
  · obtain ⟨⟨o, t⟩, o1, o2, o3⟩ := key
    replace o2 : o = nI (BS A u0 (2 ^ tQ A)) := o2
    subst o2
    exact ⟨t, o1, o3⟩
  · rintro ⟨x, y, t⟩ ⟨rfl, rfl, f, _⟩
    replace f : fr [17, 18, 19] σ t := f
    have e8 : gI t T 8 = nI (tQ A) := by rw [← eT, ← fr_T f]; exact (xT_fr f rfl hX).2.2.2.1
    refine ⟨(nI (BS A u0 (2 ^ tQ A)), t), ?_, rfl, f⟩
    show f_X4_mostEnded_B35 t T (nI (BS A u0 (2 ^ tQ A))) (nI (2 ^ tQ A)) = _
    unfold f_X4_mostEnded_B35 f_X4_mostEnded_J119
    rw [bH_t hTT, e8, nI_shl1 _ (by omega), if_pos (Int32.le_refl _), jw_e]
  · rintro e ⟨x, y, t⟩ he ⟨rfl, rfl, f, g, r⟩
    replace f : fr [17, 18, 19] σ t := f
    replace g : gI t 17 2 = nI (tT A) := g
    replace r : RD A (fun e' u => CC A u0 e e' u = true) t := r
    have hXt := xT_fr f rfl hX
    have e8 : gI t T 8 = nI (tQ A) := by rw [← eT, ← fr_T f]; exact hXt.2.2.2.1
    have bl := BS_lt A u0 e
    have lt := CC_lt hu0 e
    have c1 := fa_cnt_le e.testBit 16
    have c2 := fa_cnt_le (BS A u0 e).testBit 16
    have reach : bex 256 (fun u => rb t 18 (e * 256 + u)) = pB (∃ u, CC A u0 e e u = true) := by
      apply bool_iff
      rw [bex_iff, pB_iff]
      constructor
      · rintro ⟨u, h1, h2⟩
        exact ⟨u, ((RD_at hT r (by omega) h1).mp h2).2⟩
      · rintro ⟨u, h1⟩
        have := (lt e u (by omega) h1).2
        exact ⟨u, by omega, (RD_at hT r (by omega) (by omega)).mpr ⟨this, h1⟩⟩
    have nx : ∀ e' u', CC A u0 (e + 1) e' u' = true ↔ (CC A u0 e e' u' = true ∨ ∃ q, q < tQ A ∧ e.testBit q = false ∧ e' = e ||| 2 ^ q ∧ ∃ u, u < 2 ^ tT A ∧ CC A u0 e e u = true ∧ RE A (tdc A q) u u') := fun e' u' => by
      show nxC A (CC A u0 e) e e' u' = true ↔ _
      unfold nxC
      rw [pB_iff]
      constructor
      · rintro (h | ⟨q, h1, h2, h3, u, h4, h5⟩)
        · exact Or.inl h
        · exact Or.inr ⟨q, h1, h2, h3, u, (lt e u (by omega) h4).2, h4, h5⟩
      · rintro (h | ⟨q, h1, h2, h3, u, _, h4, h5⟩)
        · exact Or.inl h
        · exact Or.inr ⟨q, h1, h2, h3, u, h4, h5⟩
    refine Or.inl ?_
    show ∃ s', f_X4_mostEnded_B35 t T (nI (BS A u0 e)) (nI e) = _ ∧ _
    unfold f_X4_mostEnded_B35
    rw [bH_t hTT, e8, nI_shl1 _ (by omega), if_neg (nI_ge he (by omega)), x_isReached (by omega), bC_e, reach]
    have bs : BS A u0 (e + 1) = if pB (∃ u, CC A u0 e e u = true) = true ∧ fa_cnt (BS A u0 e).testBit 16 < fa_cnt e.testBit 16 then e else BS A u0 e := rfl
    have go : ∀ b : Nat, ∃ s', f_X4_mostEnded_J75 t T (nI b) (nI e) = some (.inl s') ∧ s'.1 = nI b ∧ s'.2.1 = nI (e + 1) ∧ fr [17, 18, 19] σ s'.2.2 ∧ gI s'.2.2 17 2 = nI (tT A) ∧ RD A (fun e' u => CC A u0 (e + 1) e' u = true) s'.2.2 := fun b => by
      obtain ⟨t', d1, d2, d3, d4⟩ := x_allQ (b := nI b) w hT ((fr_T f).trans eT) hXt (fun z => ⟨xW_fr f rfl (hWF z).1, fun p hp => (fr_I f (by decide) p).trans ((hWF z).2 p hp)⟩) g (show e < 16 by omega) q4 hQ r
      exact ⟨_, d1, rfl, rfl, fr_trans f d2, d3, RD_cong d4 fun e' u' _ => (nx e' u').symm⟩
    cases hp : pB (∃ u, CC A u0 e e u = true) with
    | false =>
      unfold f_X4_mostEnded_J113
      rw [if_pos (show bI false = 0 from rfl), bV_e, nI_1]
      rw [hp, if_neg (fun z => by cases z.1)] at bs
      refine ⟨_, rfl, by rw [bs], rfl, f, g, RD_cong r fun e' u' _ => ?_⟩
      rw [nx]
      refine ⟨Or.inl, fun h => h.elim id fun ⟨q, _, _, _, u, _, h4, _⟩ => absurd ⟨u, h4⟩ (pB_not.mp hp)⟩
    | true =>
      rw [if_neg (show ¬ bI true = 0 by decide), bc_N (by omega), bC_e, bc_N (by omega), bC_e]
      rw [hp] at bs
      by_cases z : fa_cnt (BS A u0 e).testBit 16 < fa_cnt e.testBit 16
      · rw [if_pos ⟨rfl, z⟩] at bs
        rw [if_neg (nI_ge z (by omega)), bs]
        exact go e
      · rw [if_neg (fun y => z y.2)] at bs
        rw [if_pos (nI_le (by omega) (by omega)), bs]
        exact go (BS A u0 e)
end MX
/-! most, worth: both -/
theorem cfr_kfr {τ τ' : jS} (h : cfr τ τ') (h35 : gI τ' 1 35 = gI τ 1 35) : kfr τ τ' := fun a i p q => by
  by_cases z : a = 1 ∧ i = 35
  · rw [z.1, z.2]; exact h35
  · refine h a i (fun e => p (by rw [e]; decide)) (fun e => p (by rw [e]; decide)) (fun e => p (by rw [e]; decide)) ?_
    rintro ⟨rfl, rfl | rfl⟩
    · exact z ⟨rfl, rfl⟩
    · exact q ⟨rfl, by decide⟩
theorem cfr_sM {k : Nat} {τ τ' : jS} (h : cfr τ τ') (s : sM k τ) : sM k τ' := sM_keep (fun a ha i => h a i (by simp at ha; omega) (by simp at ha; omega) (by simp at ha; omega) (by simp at ha; omega)) (h 1 39 (by decide) (by decide) (by decide) (by decide)) (h 1 68 (by decide) (by decide) (by decide) (by decide)) s
/-- both, from any turns used -/
theorem q_most {k : Nat} {σ τ : jS} (h : Rel k σ τ) {u0 : Nat} (hT : tT (mn τ) ≤ 8) (hu0 : u0 < 2 ^ tT (mn τ)) : ∃ b σ' τ', b < 16 ∧ f_X4_mostEnded σ σ.2.2.1 (nI u0) = some (nI b, σ') ∧ f_X11_mostSet τ (nI (lfU (mn τ) u0)) = some (nI b, τ') ∧ Rel k σ' τ' ∧ mn τ' = mn τ := by
  obtain ⟨rs, sx, sm⟩ := h
  obtain ⟨hM, hX, _⟩ := id rs
  have w := wA_of hM.1 hM.2.2.1
  have q4 := hM.1.2.2.2.1.2
  obtain ⟨σ', a1, a2⟩ := x_mostEnded w hT rfl hX.1 (fun z => hX.2.2.2 (tQ_tP hM z)) q4 (fun q hq => (hM.2.2.2.2.2.1 q hq).2.2) hu0
  obtain ⟨τ', b1, b2, b3⟩ := m_mostSet hM rfl w hT hu0
  have bl := BS_lt (mn τ) u0 (2 ^ tQ (mn τ) - 1)
  have p16 : 2 ^ tQ (mn τ) ≤ 16 := Nat.pow_le_pow_right (n := 2) (by decide) q4
  have kf := cfr_kfr b2 (b3.2.2.2.2.2.2.trans hM.2.2.2.2.2.2.symm)
  refine ⟨BS (mn τ) u0 (2 ^ tQ (mn τ)), σ', τ', ?_, a1, b1, ⟨RS_scratch (fr_mono a2 (by decide)) kf rs, sX_keep (kp_fr a2 rfl) (fr_I a2 (by decide) _) (fr_I a2 (by decide) _) sx, cfr_sM b2 sm⟩, (mS_W (kfr_mS kf) hM).2⟩
  have p1 : 1 ≤ 2 ^ tQ (mn τ) := Nat.one_le_two_pow
  obtain ⟨m, hm⟩ : ∃ m, 2 ^ tQ (mn τ) = m + 1 := ⟨2 ^ tQ (mn τ) - 1, by omega⟩
  rw [hm, Nat.add_sub_cancel] at bl
  rw [hm, BS]
  split <;> omega
