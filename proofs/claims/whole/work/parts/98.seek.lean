/-! fresh: the class seeks -/
def hitP (B : Tb) (met : Nat → Nat → Bool) : Prop := ∀ a b, met a b = true → bears B a b = false ∧ a < b ∧ a < 16 ∧ b < 16
theorem hit_of {B : Tb} {met : Nat → Nat → Bool} (h : ∀ a b, met a b = true → frE B (16 * a + b) ∧ a < 16 ∧ b < 16) : hitP B met := fun a b hab => by
  obtain ⟨⟨h1, h2, h3⟩, h4, h5⟩ := h a b hab
  rw [show (16 * a + b) / 16 = a by omega, show (16 * a + b) % 16 = b by omega] at h1 h3
  exact ⟨h3, h1, h4, h5⟩
theorem no_hit {B : Tb} {met : Nat → Nat → Bool} {e : Nat} (h : hitP B met) (e2 : e < 256) (he : e / 16 < e % 16) (nm : met (e / 16) (e % 16) = false) : hitP (aT B e) met := fun a b hab => by
  obtain ⟨h1, h2, h3, h4⟩ := h a b hab
  refine ⟨?_, h2, h3, h4⟩
  rw [aT_bears e2 (by omega) (by omega), h1, Bool.false_or]
  cases hi : isPr (e / 16) (e % 16) a b with
  | false => rfl
  | true =>
    rcases isPr_iff.mp hi with ⟨rfl, rfl⟩ | ⟨rfl, rfl⟩
    · rw [nm] at hab; cases hab
    · omega
theorem up_aT {B : Tb} {e : Nat} (e2 : e < 256) : ∀ p q, p < 16 → q < 16 → bears B p q = true → bears (aT B e) p q = true := fun p q hp hq h => by
  rw [aT_bears e2 (by omega) (by omega), h, Bool.true_or]
/-- the two that were found, 1000 for none -/
def BO (A : Tb) (V2 : Nat → Nat → Nat) (σ : jS) (f g : Nat) : Prop := (f = 1000 ∧ g = 1000 ∧ gI σ 20 0 = -1 ∧ gI σ 20 1 = -1 ∧ gI σ 20 2 = -1) ∨ (frE A f ∧ frE A g ∧ f < g ∧ V2 f g = 0 ∧ gI σ 20 0 = 2 ∧ gI σ 20 1 = nI f ∧ gI σ 20 2 = nI g)
def ub (f g e h : Nat) : Prop := f < lo e h ∨ (f = lo e h ∧ g ≤ hi e h)
theorem BO_keep {A : Tb} {V2 : Nat → Nat → Nat} {σ σ' : jS} {f g : Nat} (k : ∀ i, gI σ' 20 i = gI σ 20 i) (h : BO A V2 σ f g) : BO A V2 σ' f g := by
  unfold BO; rw [k, k, k]; exact h
theorem x_isAhead {A : Tb} {V2 : Nat → Nat → Nat} {σ : jS} {f g o p : Nat} (h16 : tP A ≤ 16) (h : BO A V2 σ f g) (ho : o < 256) (hp : p < 256) : (ub f g o p ∧ f_X2_isAhead σ (nI o) (nI p) = some 0) ∨ (¬ ub f g o p ∧ f_X2_isAhead σ (nI o) (nI p) = some 1) := by
  have l2 : lo o p < 256 := by unfold lo; split <;> omega
  have h2 : hi o p < 256 := by unfold hi; split <;> omega
  unfold f_X2_isAhead f_X2_isAhead_J53 f_X2_isAhead_J49 f_X2_isAhead_J54
  rcases h with ⟨rfl, rfl, e0, _, _⟩ | ⟨f1, f2, f3, f4, e0, e1, e2⟩
  · refine Or.inr ⟨fun u => ?_, ?_⟩
    · unfold ub at u; omega
    · rw [e0, if_pos rfl]
  · have g1 := frE_lt h16 f1
    have g2 := frE_lt h16 f2
    rw [e0, if_neg (show ¬ (2 : Int32) = -1 by decide), lo_I (by omega) (by omega), hi_I (by omega) (by omega), bV_e, if_neg (nI_nm1 (by omega)), e1, e2, bG_t (show jb 0 = true by decide), bG_t (show jb 1 = true by decide)]
    unfold ub
    by_cases z : lo o p < f
    · rw [if_pos (nI_lt z (by omega))]
      exact Or.inr ⟨fun u => by omega, rfl⟩
    · rw [if_neg (fun q => z ((nI_ltI (by omega) (by omega)).mp q))]
      by_cases y : lo o p = f
      · rw [if_pos (congrArg nI y)]
        by_cases u : g ≤ hi o p
        · rw [if_pos (nI_le u (by omega))]
          exact Or.inl ⟨Or.inr ⟨y.symm, u⟩, rfl⟩
        · rw [if_neg (nI_ge (by omega) (by omega))]
          exact Or.inr ⟨fun u => by omega, rfl⟩
      · rw [if_neg (fun q => y ((nI_eq (by omega) (by omega)).mp q))]
        exact Or.inl ⟨Or.inl (by omega), rfl⟩
section SK
variable {A : Tb} {k x n W s v0 : Nat} {L wh tg : Nat → Nat} {σ0 σ τ : jS} {V1 : Nat → Nat} {V2 : Nat → Nat → Nat}
theorem x_seek1 (hk : k ≤ 4096) (w : wA A) (hw : xW σ0 A) (ok : okx A x) (hS : MS A 1 (cv A x) n W n L wh tg τ) (s2 : s < 2) (iv0 : isV A s n W L wh tg v0) (n0 : v0 ≠ 0) (iv1 : ∀ e, isV (aT A e) s n W L wh tg (V1 e) ∧ V1 e ≤ 6273) (h : XS k σ0 A σ) (hf : gI σ 20 0 = -1 ∧ gI σ 20 1 = -1 ∧ gI σ 20 2 = -1) : ∃ met σ', f_X2_seekBesides σ (nI x) (nI s) (-1) = some ((), σ') ∧ XS k σ0 A σ' ∧ RowM 21 met σ' ∧ (∀ a b, met a b = true → frE A (16 * a + b) ∧ a < 16 ∧ b < 16) ∧ (∀ B' v', isT A B' → (∀ p q, p < 16 → q < 16 → bears A p q = true → bears B' p q = true) → (∀ a b, met a b = true → bears B' a b = false) → isV B' s n W L wh tg v' → v' ≠ 0) ∧ ((∃ e, frE A e ∧ V1 e = 0 ∧ (∀ e', frE A e' → e' < e → V1 e' ≠ 0) ∧ gI σ' 20 0 = 1 ∧ gI σ' 20 1 = nI e ∧ gI σ' 20 2 = -1) ∨ ((∀ e, frE A e → V1 e ≠ 0) ∧ gI σ' 20 0 = -1 ∧ gI σ' 20 1 = -1 ∧ gI σ' 20 2 = -1)) := by
  have h16 := w.1
  obtain ⟨met, r, σ1, σ2, a1, a2, a3, a4, a5, sound, claim⟩ := x_way (hh := 21) hk w hw (isT_self A) h ok hS s2 iv0 n0 (Or.inl rfl)
  have out : ∀ e, frE A e → met (e / 16) (e % 16) = false → V1 e ≠ 0 := fun e he nm => claim (aT A e) _ (isT_aT (isT_self A) e) (up_aT (frE_lt h16 he)) (fun a b hab => (no_hit (hit_of sound) (frE_lt h16 he) he.1 nm a b hab).1) (iv1 e).1
  have inn : ∀ e, e < 256 → met (e / 16) (e % 16) = true → frE A e := fun e he hm => by
    have := (sound _ _ hm).1
    rw [show 16 * (e / 16) + e % 16 = e by omega] at this
    exact this
  have f2 : gI σ2 20 0 = -1 ∧ gI σ2 20 1 = -1 ∧ gI σ2 20 2 = -1 := ⟨(fr_I a5 (by decide) _).trans hf.1, (fr_I a5 (by decide) _).trans hf.2.1, (fr_I a5 (by decide) _).trans hf.2.2⟩
  unfold f_X2_seekBesides f_X2_seekBesides_J17
  have tg1 : ∀ t, f_X2_toggle t (-1) = some ((), t) := fun t => by
    unfold f_X2_toggle f_X2_toggle_J17
    rw [if_pos rfl]
  rw [if_pos rfl, tg1, bD_e, a1, bD_e, a2, bD_e]
  have key := jloop_ex (S := Int32 × jS) (O := Unit × jS) (f := fun u => f_X2_seekBesides_B44 u.2 (nI x) (nI s) (-1) 21 u.1) (fun p u => u.1 = nI p ∧ XS k σ0 A u.2 ∧ RowM 21 met u.2 ∧ ((∃ e, e < p ∧ frE A e ∧ V1 e = 0 ∧ (∀ e', frE A e' → e' < e → V1 e' ≠ 0) ∧ gI u.2 20 0 = 1 ∧ gI u.2 20 1 = nI e ∧ gI u.2 20 2 = -1) ∨ ((∀ e, frE A e → e < p → V1 e ≠ 0) ∧ gI u.2 20 0 = -1 ∧ gI u.2 20 1 = -1 ∧ gI u.2 20 2 = -1))) 256 (fun o => XS k σ0 A o.2 ∧ RowM 21 met o.2 ∧ ((∃ e, frE A e ∧ V1 e = 0 ∧ (∀ e', frE A e' → e' < e → V1 e' ≠ 0) ∧ gI o.2 20 0 = 1 ∧ gI o.2 20 1 = nI e ∧ gI o.2 20 2 = -1) ∨ ((∀ e, frE A e → V1 e ≠ 0) ∧ gI o.2 20 0 = -1 ∧ gI o.2 20 1 = -1 ∧ gI o.2 20 2 = -1))) (s0 := (0, σ2)) ⟨rfl, a3, a4, Or.inr ⟨fun e _ he => absurd he (Nat.not_lt_zero e), f2⟩⟩ (jfuel_big (by omega)) ?_ ?_
  · obtain ⟨o, o1, o2, o3, o4⟩ := key
    exact ⟨met, o.2, o1, o2, o3, sound, claim, o4⟩
  · rintro ⟨a, u⟩ ⟨rfl, F, hm, hr⟩
    refine ⟨((), u), ?_, F, hm, ?_⟩
    · show f_X2_seekBesides_B44 u (nI x) (nI s) (-1) 21 (nI 256) = _
      unfold f_X2_seekBesides_B44 f_X2_seekBesides_J132
      rw [if_pos (show (256 : Int32) ≤ nI 256 from Int32.le_refl _), tg1, bD_e, jw_e]
    · rcases hr with ⟨e, _, hr⟩ | ⟨hr, hr2⟩
      · exact Or.inl ⟨e, hr⟩
      · exact Or.inr ⟨fun e he => hr e he (frE_lt h16 he), hr2⟩
  · rintro p ⟨a, u⟩ hp ⟨rfl, F, hm, hr⟩
    replace F : XS k σ0 A u := F
    replace hm : RowM 21 met u := hm
    have next : ∀ t, f_X2_seekBesides_J126 t (nI x) (nI s) (-1) 21 (nI p) = some (.inl (nI (p + 1), t)) := fun t => by
      unfold f_X2_seekBesides_J126
      rw [bV_e, nI_1]
    refine Or.inl ?_
    show ∃ s', f_X2_seekBesides_B44 u (nI x) (nI s) (-1) 21 (nI p) = _ ∧ _
    unfold f_X2_seekBesides_B44
    rw [if_neg (show ¬ (256 : Int32) ≤ nI p from nI_ge (b := 256) hp (by decide)), x_isIn (Or.inl rfl) hp hm, bC_e]
    cases hmp : met (p / 16) (p % 16) with
    | false =>
      rw [if_neg (show ¬ false = true by decide), if_pos rfl, next]
      refine ⟨_, rfl, rfl, F, hm, ?_⟩
      rcases hr with ⟨e, he, hr⟩ | ⟨hr, hr2⟩
      · exact Or.inl ⟨e, by omega, hr⟩
      · refine Or.inr ⟨fun e he hlt => ?_, hr2⟩
        by_cases z : e = p
        · subst z; exact out e he hmp
        · exact hr e he (by omega)
    | true =>
      have fp := inn p hp hmp
      rw [if_pos rfl, if_neg (show ¬ (1 : Int32) = 0 by decide), if_pos (show (-1 : Int32) ≤ nI p from fa_of_nlt (fun q => nI_pos (n := p) (by omega) (Int32.lt_trans q (by decide))))]
      unfold f_X2_seekBesides_J81
      rcases hr with ⟨e, he, g1, g2, g3, g4, g5, g6⟩ | ⟨hr, g4, g5, g6⟩
      · have ah : f_X2_isAhead u (-1) (nI p) = some 0 := by
          unfold f_X2_isAhead f_X2_isAhead_J53 f_X2_isAhead_J54
          rw [show gI u 20 0 = 1 from g4, if_neg (show ¬ (1 : Int32) = -1 by decide), bV_e, if_pos rfl, bG_t (show jb 0 = true by decide)]
        rw [ah, bC_e, if_pos rfl, next]
        exact ⟨_, rfl, rfl, F, hm, Or.inl ⟨e, by omega, g1, g2, g3, g4, g5, g6⟩⟩
      · have ah : f_X2_isAhead u (-1) (nI p) = some 1 := by
          unfold f_X2_isAhead
          rw [show gI u 20 0 = -1 from g4, if_pos rfl]
        obtain ⟨u1, b1, b2, b3⟩ := x_flip F h16 fp
        obtain ⟨u2, c1, c2, c3⟩ := x_slv hk w hw (isT_aT (isT_self A) p) b2 ok hS s2 (iv1 p).1
        have c20 : ∀ i, gI u2 20 i = gI u 20 i := fun i => (fr_I c3.1 (by decide) _).trans (fr_I b3 (by decide) _)
        have m2 : RowM 21 met u2 := fun a ha => (fr_I c3.1 (by decide) _).trans ((fr_I b3 (by decide) _).trans (hm a ha))
        rw [ah, bC_e, if_neg (show ¬ (1 : Int32) = 0 by decide), b1, bD_e, c1, bD_e]
        unfold f_X2_seekBesides_J120
        by_cases z : V1 p = 0
        · have F3 : XS k σ0 (aT A p) (sI (sI (sI u2 20 0 1) 20 1 (nI p)) 20 2 (-1)) := XS_r (XS_r (XS_r c2 (Or.inl rfl)) (Or.inl rfl)) (Or.inl rfl)
          obtain ⟨u4, d1, d2, d3⟩ := x_flop F3 h16 fp
          have tk : f_X2_take u2 (-1) (nI p) = some ((), sI (sI (sI u2 20 0 1) 20 1 (nI p)) 20 2 (-1)) := by
            unfold f_X2_take f_X2_take_J11 f_X2_take_J29 f_X2_take_J47
            rw [if_pos rfl, bV_e, if_pos rfl, bV_e, if_pos rfl, bV_e]
          rw [if_pos ((rI0_m1 (by have := (iv1 p).2; omega)).mpr z), tk, bD_e, d1, bD_e, next]
          refine ⟨_, rfl, rfl, d2, fun a ha => ?_, Or.inl ⟨p, by omega, fp, z, fun e' he' hlt => hr e' he' hlt, ?_, ?_, ?_⟩⟩
          · rw [fr_I d3 (by decide), gI_ne (by decide), gI_ne (by decide), gI_ne (by decide)]; exact m2 a ha
          · rw [fr_I d3 (by decide), gI_nei (by decide), gI_nei (by decide), gI_sI]
          · rw [fr_I d3 (by decide), gI_nei (by decide), gI_sI]
          · rw [fr_I d3 (by decide), gI_sI]
        · obtain ⟨u4, d1, d2, d3⟩ := x_flop c2 h16 fp
          rw [if_neg (fun q => z ((rI0_m1 (by have := (iv1 p).2; omega)).mp q)), d1, bD_e, next]
          refine ⟨_, rfl, rfl, d2, fun a ha => (fr_I d3 (by decide) _).trans (m2 a ha), Or.inr ⟨fun e he hlt => ?_, ?_, ?_, ?_⟩⟩
          · by_cases y : e = p
            · subst y; exact z
            · exact hr e he (by omega)
          · exact (fr_I d3 (by decide) _).trans ((c20 _).trans g4)
          · exact (fr_I d3 (by decide) _).trans ((c20 _).trans g5)
          · exact (fr_I d3 (by decide) _).trans ((c20 _).trans g6)
end SK
