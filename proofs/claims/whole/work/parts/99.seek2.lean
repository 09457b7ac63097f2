/-! fresh: the class seeks two -/
theorem lohi_c (a b : Nat) : lo a b = lo b a ∧ hi a b = hi b a := by
  unfold lo hi
  constructor <;> split <;> split <;> omega
section SL
variable {A : Tb} {k x n W s : Nat} {L wh tg : Nat → Nat} {σ0 σ τ : jS} {V1 : Nat → Nat} {V2 : Nat → Nat → Nat} {met : Nat → Nat → Bool}
theorem x_seek2 {o f g : Nat} (hk : k ≤ 4096) (w : wA A) (hw : xW σ0 A) (ok : okx A x) (hS : MS A 1 (cv A x) n W n L wh tg τ) (s2 : s < 2) (iv1 : ∀ e, isV (aT A e) s n W L wh tg (V1 e)) (iv2 : ∀ e g, isV (aT (aT A e) g) s n W L wh tg (V2 e g) ∧ V2 e g ≤ 6273) (sym : ∀ e g, e < 256 → g < 256 → V2 e g = V2 g e) (n1 : V1 o ≠ 0) (fo : frE A o) (h : XS k σ0 A σ) (hm : RowM 21 met σ) (hb : BO A V2 σ f g) : ∃ σ' f' g', f_X2_seekBesides σ (nI x) (nI s) (nI o) = some ((), σ') ∧ XS k σ0 A σ' ∧ RowM 21 met σ' ∧ BO A V2 σ' f' g' ∧ (∀ e h, ub f g e h → ub f' g' e h) ∧ ∀ h, frE A h → h ≠ o → ¬ (h < o ∧ met (h / 16) (h % 16) = true) → V2 o h = 0 → ub f' g' o h := by
  have h16 := w.1
  have o2 := frE_lt h16 fo
  have hB16 : tP (aT A o) ≤ 16 := h16
  have hTo := isT_aT (isT_self A) o
  obtain ⟨u1, a1, a2, a3⟩ := x_flip h h16 fo
  obtain ⟨met2, r, σ1, σ2, b1, b2, b3, b4, b5, sound, claim⟩ := x_way (hh := 22) hk w hw hTo a2 ok hS s2 (iv1 o) n1 (Or.inr rfl)
  have out : ∀ e, frE (aT A o) e → met2 (e / 16) (e % 16) = false → V2 o e ≠ 0 := fun e he nm => claim (aT (aT A o) e) _ (isT_aT hTo e) (up_aT (frE_lt hB16 he)) (fun a b hab => (no_hit (hit_of sound) (frE_lt hB16 he) he.1 nm a b hab).1) (iv2 o e).1
  have inn : ∀ e, e < 256 → met2 (e / 16) (e % 16) = true → frE (aT A o) e := fun e he hm => by
    have := (sound _ _ hm).1
    rw [show 16 * (e / 16) + e % 16 = e by omega] at this
    exact this
  have k20 : ∀ i, gI σ2 20 i = gI σ 20 i := fun i => (fr_I b5 (by decide) _).trans (fr_I a3 (by decide) _)
  have m1 : RowM 21 met σ2 := fun a ha => (fr_I b5 (by decide) _).trans ((fr_I a3 (by decide) _).trans (hm a ha))
  unfold f_X2_seekBesides f_X2_seekBesides_J17
  rw [if_neg (nI_nm1 (by omega)), a1, bD_e, b1, bD_e, b2, bD_e]
  have key := jloop_ex (S := Int32 × jS) (O := Unit × jS) (f := fun u => f_X2_seekBesides_B44 u.2 (nI x) (nI s) (nI o) 22 u.1) (fun p u => u.1 = nI p ∧ XS k σ0 (aT A o) u.2 ∧ RowM 21 met u.2 ∧ RowM 22 met2 u.2 ∧ ∃ f' g', BO A V2 u.2 f' g' ∧ (∀ e h, ub f g e h → ub f' g' e h) ∧ ∀ h, h < p → frE A h → h ≠ o → ¬ (h < o ∧ met (h / 16) (h % 16) = true) → V2 o h = 0 → ub f' g' o h) 256 (fun (q : Unit × jS) => ∃ f' g', XS k σ0 A q.2 ∧ RowM 21 met q.2 ∧ BO A V2 q.2 f' g' ∧ (∀ e h, ub f g e h → ub f' g' e h) ∧ ∀ h, frE A h → h ≠ o → ¬ (h < o ∧ met (h / 16) (h % 16) = true) → V2 o h = 0 → ub f' g' o h) (s0 := (0, σ2)) ⟨rfl, b3, m1, b4, f, g, BO_keep k20 hb, fun _ _ q => q, fun h hh => absurd hh (Nat.not_lt_zero h)⟩ (jfuel_big (by omega)) ?_ ?_
  · obtain ⟨q, q1, f', g', q2⟩ := key
    exact ⟨q.2, f', g', q1, q2⟩
  · rintro ⟨a, u⟩ ⟨rfl, F, hm1, hm2, f', g', hb', c1, c2⟩
    replace F : XS k σ0 (aT A o) u := F
    replace hm1 : RowM 21 met u := hm1
    replace hb' : BO A V2 u f' g' := hb'
    obtain ⟨u3, d1, d2, d3⟩ := x_flop F h16 fo
    refine ⟨((), u3), ?_, f', g', d2, fun a ha => (fr_I d3 (by decide) _).trans (hm1 a ha), BO_keep (fun i => fr_I d3 (by decide) _) hb', c1, fun h hh => c2 h (frE_lt h16 hh) hh⟩
    show f_X2_seekBesides_B44 u (nI x) (nI s) (nI o) 22 (nI 256) = _
    unfold f_X2_seekBesides_B44 f_X2_seekBesides_J132
    rw [if_pos (show (256 : Int32) ≤ nI 256 from Int32.le_refl _), d1, bD_e, jw_e]
  · rintro p ⟨a, u⟩ hp ⟨rfl, F, hm1, hm2, f', g', hb', c1, c2⟩
    replace F : XS k σ0 (aT A o) u := F
    replace hm1 : RowM 21 met u := hm1
    replace hm2 : RowM 22 met2 u := hm2
    replace hb' : BO A V2 u f' g' := hb'
    have next : ∀ t, f_X2_seekBesides_J126 t (nI x) (nI s) (nI o) 22 (nI p) = some (.inl (nI (p + 1), t)) := fun t => by
      unfold f_X2_seekBesides_J126
      rw [bV_e, nI_1]
    refine Or.inl ?_
    show ∃ s', f_X2_seekBesides_B44 u (nI x) (nI s) (nI o) 22 (nI p) = _ ∧ _
    unfold f_X2_seekBesides_B44
    rw [if_neg (show ¬ (256 : Int32) ≤ nI p from nI_ge (b := 256) hp (by decide)), x_isIn (Or.inr rfl) hp hm2, bC_e]
    cases hmp : met2 (p / 16) (p % 16) with
    | false =>
      rw [if_neg (show ¬ false = true by decide), if_pos rfl, next]
      refine ⟨_, rfl, rfl, F, hm1, hm2, f', g', hb', c1, fun h h1 h2 h3 h4 h5 => ?_⟩
      by_cases z : h = p
      · subst z; exact absurd h5 (out h ((frE_aT fo h16).mpr ⟨h2, h3⟩) hmp)
      · exact c2 h (by omega) h2 h3 h4 h5
    | true =>
      have fp := inn p hp hmp
      obtain ⟨fpA, po⟩ := (frE_aT fo h16).mp fp
      rw [if_pos rfl, if_neg (show ¬ (1 : Int32) = 0 by decide)]
      have seek : ¬ (p < o ∧ met (p / 16) (p % 16) = true) → ∃ s', f_X2_seekBesides_J81 u (nI x) (nI s) (nI o) 22 (nI p) = some (.inl s') ∧ (s'.1 = nI (p + 1) ∧ XS k σ0 (aT A o) s'.2 ∧ RowM 21 met s'.2 ∧ RowM 22 met2 s'.2 ∧ ∃ f' g', BO A V2 s'.2 f' g' ∧ (∀ e h, ub f g e h → ub f' g' e h) ∧ ∀ h, h < p + 1 → frE A h → h ≠ o → ¬ (h < o ∧ met (h / 16) (h % 16) = true) → V2 o h = 0 → ub f' g' o h) := by
        intro _
        unfold f_X2_seekBesides_J81
        rcases x_isAhead h16 hb' o2 hp with ⟨y1, y2⟩ | ⟨y1, y2⟩
        · rw [y2, bC_e, if_pos rfl, next]
          refine ⟨_, rfl, rfl, F, hm1, hm2, f', g', hb', c1, fun h h1 h2 h3 h4 h5 => ?_⟩
          by_cases z : h = p
          · subst z; exact y1
          · exact c2 h (by omega) h2 h3 h4 h5
        · obtain ⟨u1, e1, e2, e3⟩ := x_flip F hB16 fp
          obtain ⟨u2, l1, l2, l3⟩ := x_slv hk w hw (isT_aT hTo p) e2 ok hS s2 (iv2 o p).1
          have l20 : ∀ i, gI u2 20 i = gI u 20 i := fun i => (fr_I l3.1 (by decide) _).trans (fr_I e3 (by decide) _)
          have m21 : RowM 21 met u2 := fun a ha => (fr_I l3.1 (by decide) _).trans ((fr_I e3 (by decide) _).trans (hm1 a ha))
          have m22 : RowM 22 met2 u2 := fun a ha => (fr_I l3.1 (by decide) _).trans ((fr_I e3 (by decide) _).trans (hm2 a ha))
          rw [y2, bC_e, if_neg (show ¬ (1 : Int32) = 0 by decide), e1, bD_e, l1, bD_e]
          unfold f_X2_seekBesides_J120
          by_cases z : V2 o p = 0
          · have F3 : XS k σ0 (aT (aT A o) p) (sI (sI (sI u2 20 0 2) 20 1 (nI (lo o p))) 20 2 (nI (hi o p))) := XS_r (XS_r (XS_r l2 (Or.inl rfl)) (Or.inl rfl)) (Or.inl rfl)
            obtain ⟨u4, d1, d2, d3⟩ := x_flop F3 hB16 fp
            have tk : f_X2_take u2 (nI o) (nI p) = some ((), sI (sI (sI u2 20 0 2) 20 1 (nI (lo o p))) 20 2 (nI (hi o p))) := by
              unfold f_X2_take f_X2_take_J11 f_X2_take_J29 f_X2_take_J47
              rw [if_neg (nI_nm1 (by omega)), bV_e, if_neg (nI_nm1 (by omega)), lo_I (by omega) (by omega), bV_e, if_neg (nI_nm1 (by omega)), hi_I (by omega) (by omega), bV_e]
            obtain ⟨lt, lh⟩ := lohi (a := o) (b := p) (fun q => po q.symm)
            rw [if_pos ((rI0_m1 (by have := (iv2 o p).2; omega)).mpr z), tk, bD_e, d1, bD_e, next]
            refine ⟨_, rfl, rfl, d2, fun a ha => ?_, fun a ha => ?_, lo o p, hi o p, Or.inr ⟨?_, ?_, lt, ?_, ?_, ?_, ?_⟩, fun e h q => ?_, fun h h1 h2 h3 h4 h5 => ?_⟩
            · rw [fr_I d3 (by decide), gI_ne (by decide), gI_ne (by decide), gI_ne (by decide)]; exact m21 a ha
            · rw [fr_I d3 (by decide), gI_ne (by decide), gI_ne (by decide), gI_ne (by decide)]; exact m22 a ha
            · rcases lh with ⟨q1, q2⟩ | ⟨q1, q2⟩ <;> rw [q1]
              · exact fo
              · exact fpA
            · rcases lh with ⟨q1, q2⟩ | ⟨q1, q2⟩ <;> rw [q2]
              · exact fpA
              · exact fo
            · rcases lh with ⟨q1, q2⟩ | ⟨q1, q2⟩ <;> rw [q1, q2]
              · exact z
              · rw [sym p o hp o2]; exact z
            · rw [fr_I d3 (by decide), gI_nei (by decide), gI_nei (by decide), gI_sI]
            · rw [fr_I d3 (by decide), gI_nei (by decide), gI_sI]
            · rw [fr_I d3 (by decide), gI_sI]
            · have := c1 e h q
              unfold ub at this y1 ⊢
              omega
            · by_cases y : h = p
              · subst y; unfold ub; omega
              · have := c2 h (by omega) h2 h3 h4 h5
                unfold ub at this y1 ⊢
                omega
          · obtain ⟨u4, d1, d2, d3⟩ := x_flop l2 hB16 fp
            rw [if_neg (fun q => z ((rI0_m1 (by have := (iv2 o p).2; omega)).mp q)), d1, bD_e, next]
            refine ⟨_, rfl, rfl, d2, fun a ha => (fr_I d3 (by decide) _).trans (m21 a ha), fun a ha => (fr_I d3 (by decide) _).trans (m22 a ha), f', g', BO_keep (fun i => (fr_I d3 (by decide) _).trans (l20 i)) hb', c1, fun h h1 h2 h3 h4 h5 => ?_⟩
            by_cases y : h = p
            · subst y; exact absurd h5 z
            · exact c2 h (by omega) h2 h3 h4 h5
      by_cases q : o ≤ p
      · rw [if_pos (nI_le q (by omega))]
        exact seek (fun y => by omega)
      · rw [if_neg (nI_ge (by omega) (by omega)), x_isIn (Or.inl rfl) hp hm1, bC_e]
        cases hq : met (p / 16) (p % 16) with
        | false =>
          rw [if_neg (show ¬ false = true by decide), if_pos rfl]
          exact seek (fun y => by rw [hq] at y; cases y.2)
        | true =>
          rw [if_pos rfl, if_neg (show ¬ (1 : Int32) = 0 by decide), next]
          refine ⟨_, rfl, rfl, F, hm1, hm2, f', g', hb', c1, fun h h1 h2 h3 h4 h5 => ?_⟩
          by_cases z : h = p
          · subst z; exact absurd ⟨by omega, hq⟩ h4
          · exact c2 h (by omega) h2 h3 h4 h5
theorem x_told' {σ : jS} {e : Nat} (he : e < 256) : f_X2_pairTold_J16 σ (nI e) = some (nI (100 * (e / 16) + e % 16)) := by
  unfold f_X2_pairTold_J16 f_X2_pairTold_J38
  rw [if_neg (nI_nm1 (by omega)), (e_div he).2, (e_div he).1, show (100 : Int32) = nI 100 from rfl, nI_mul, nI_add]
theorem x_toldN {σ : jS} : f_X2_pairTold_J16 σ (-1) = some (-1) := by
  unfold f_X2_pairTold_J16 f_X2_pairTold_J38
  rw [if_pos rfl]
theorem x_seek {v0 : Nat} (hk : k ≤ 4096) (w : wA A) (hw : xW σ0 A) (hF : xF σ0 A) (ok : okx A x) (sx : sX k σ0) (hS : MS A 1 (cv A x) n W n L wh tg τ) (s2 : s < 2) (iv0 : isV A s n W L wh tg v0 ∧ v0 ≤ 6273) (iv1 : ∀ e, isV (aT A e) s n W L wh tg (V1 e) ∧ V1 e ≤ 6273) (iv2 : ∀ e g, isV (aT (aT A e) g) s n W L wh tg (V2 e g) ∧ V2 e g ≤ 6273) (sym : ∀ e g, e < 256 → g < 256 → V2 e g = V2 g e) : ∃ r f g σ', f_X2_seek σ0 (nI x) (nI s) = some ((), σ') ∧ gI σ' 20 0 = r ∧ f_X2_pairTold_J16 σ' (gI σ' 20 1) = some f ∧ f_X2_pairTold_J16 σ' (gI σ' 20 2) = some g ∧ FR A v0 V1 V2 r f g ∧ fr xH0 σ0 σ' ∧ sX k σ' := by
  have h16 := w.1
  have X0 : XS k σ0 A σ0 := ⟨fr_rfl _ _, hF, fun _ _ => rfl, fun _ => rfl, sx⟩
  have X1 : XS k σ0 A (sI (sI (sI σ0 20 1 (-1)) 20 2 (-1)) 20 0 0) := XS_r (XS_r (XS_r X0 (Or.inl rfl)) (Or.inl rfl)) (Or.inl rfl)
  obtain ⟨σ1, a1, a2, a3⟩ := x_slv hk w hw (isT_self A) X1 ok hS s2 iv0.1
  have e0 : gI σ1 20 0 = 0 := by rw [fr_I a3.1 (by decide), gI_sI]
  have e1 : gI σ1 20 1 = -1 := by rw [fr_I a3.1 (by decide), gI_nei (by decide), gI_nei (by decide), gI_sI]
  have e2 : gI σ1 20 2 = -1 := by rw [fr_I a3.1 (by decide), gI_nei (by decide), gI_sI]
  unfold f_X2_seek
  rw [bV_e, bV_e, bV_e, a1, bD_e]
  by_cases z0 : v0 = 0
  · rw [if_pos ((rI0_m1 (by omega)).mpr z0)]
    exact ⟨0, -1, -1, σ1, rfl, e0, by rw [e1]; exact x_toldN, by rw [e2]; exact x_toldN, Or.inl ⟨z0, rfl, rfl, rfl⟩, XS_end hF a2, a2.2.2.2.2⟩
  rw [if_neg (fun q => z0 ((rI0_m1 (by omega)).mp q)), bV_e]
  have X2 : XS k σ0 A (sI σ1 20 0 (-1)) := XS_r a2 (Or.inl rfl)
  obtain ⟨met, σ2, b1, b2, b3, sound, claim, b4⟩ := x_seek1 hk w hw ok hS s2 iv0.1 z0 iv1 X2 ⟨gI_sI _ _ _ _, (gI_nei (by decide)).trans e1, (gI_nei (by decide)).trans e2⟩
  rw [b1, bD_e]
  rcases b4 with ⟨e, c1, c2, c3, c4, c5, c6⟩ | ⟨all1, c4, c5, c6⟩
  · rw [c4, if_neg (show ¬ (1 : Int32) = -1 by decide)]
    exact ⟨1, _, -1, σ2, rfl, c4, by rw [c5]; exact x_told' (frE_lt h16 c1), by rw [c6]; exact x_toldN, Or.inr (Or.inl ⟨z0, e, c1, c2, c3, rfl, rfl, rfl⟩), XS_end hF b2, b2.2.2.2.2⟩
  rw [c4, if_pos rfl]
  have inn : ∀ e, e < 256 → met (e / 16) (e % 16) = true → frE A e := fun e he hm => by
    have := (sound _ _ hm).1
    rw [show 16 * (e / 16) + e % 16 = e by omega] at this
    exact this
  have key := jloop_ex (S := Int32 × jS) (O := Unit × jS) (f := fun u => f_X2_seek_B52 u.2 (nI x) (nI s) u.1) (fun o u => u.1 = nI o ∧ XS k σ0 A u.2 ∧ RowM 21 met u.2 ∧ ∃ f g, BO A V2 u.2 f g ∧ ∀ e, e < o → met (e / 16) (e % 16) = true → ∀ h, frE A h → h ≠ e → ¬ (h < e ∧ met (h / 16) (h % 16) = true) → V2 e h = 0 → ub f g e h) 256 (fun (q : Unit × jS) => XS k σ0 A q.2 ∧ ∃ f g, BO A V2 q.2 f g ∧ ∀ e, e < 256 → met (e / 16) (e % 16) = true → ∀ h, frE A h → h ≠ e → ¬ (h < e ∧ met (h / 16) (h % 16) = true) → V2 e h = 0 → ub f g e h) (s0 := (0, σ2)) ⟨rfl, b2, b3, 1000, 1000, Or.inl ⟨rfl, rfl, c4, c5, c6⟩, fun e he => absurd he (Nat.not_lt_zero e)⟩ (jfuel_big (by omega)) ?_ ?_
  · obtain ⟨q, q1, q2, f, g, q3, q4⟩ := key
    -- every two that are enough were looked at
    have all : ∀ e h, frE A e → frE A h → e < h → V2 e h = 0 → ub f g e h := fun e h he hh hlt h0 => by
      have e2 := frE_lt h16 he
      have h2 := frE_lt h16 hh
      cases me : met (e / 16) (e % 16) with
      | true => exact q4 e e2 me h hh (by omega) (fun y => by omega) h0
      | false =>
        cases mh : met (h / 16) (h % 16) with
        | true =>
          have := q4 h h2 mh e he (by omega) (fun y => by rw [me] at y; cases y.2) (by rw [sym h e h2 e2]; exact h0)
          unfold ub at this ⊢
          rw [(lohi_c h e).1, (lohi_c h e).2] at this
          exact this
        | false =>
          exfalso
          have p1 := no_hit (hit_of sound) e2 he.1 me
          have p2 := no_hit p1 h2 hh.1 mh
          exact claim (aT (aT A e) h) _ (isT_aT (isT_aT (isT_self A) e) h) (fun p q hp hq hb => up_aT h2 p q hp hq (up_aT e2 p q hp hq hb)) (fun a b hab => (p2 a b hab).1) (iv2 e h).1 h0
    rcases q3 with ⟨rfl, rfl, d0, d1, d2⟩ | ⟨f1, f2, f3, f4, d0, d1, d2⟩
    · refine ⟨-1, -1, -1, q.2, q1, d0, by rw [d1]; exact x_toldN, by rw [d2]; exact x_toldN, Or.inr (Or.inr (Or.inr ⟨z0, all1, fun e h he hh hlt h0 => ?_, rfl, rfl, rfl⟩)), XS_end hF q2, q2.2.2.2.2⟩
      have := all e h he hh hlt h0
      have e2 := frE_lt h16 he
      have h2 := frE_lt h16 hh
      have l2 : lo e h < 256 := by unfold lo; split <;> omega
      unfold ub at this
      omega
    · refine ⟨2, _, _, q.2, q1, d0, by rw [d1]; exact x_told' (frE_lt h16 f1), by rw [d2]; exact x_told' (frE_lt h16 f2), Or.inr (Or.inr (Or.inl ⟨z0, all1, f, g, f1, f2, f3, f4, fun e h he hh hlt hl h0 => ?_, rfl, rfl, rfl⟩)), XS_end hF q2, q2.2.2.2.2⟩
      have := all e h he hh hlt h0
      obtain ⟨_, ⟨x1, x2⟩ | ⟨x1, x2⟩⟩ := lohi (a := e) (b := h) (by omega)
      · unfold ub at this
        omega
      · unfold lo at x1
        rw [if_neg (by omega)] at x1
        omega
  · rintro ⟨a, u⟩ ⟨rfl, F, hm, f, g, hb, hc⟩
    refine ⟨((), u), ?_, F, f, g, hb, hc⟩
    show f_X2_seek_B52 u (nI x) (nI s) (nI 256) = _
    unfold f_X2_seek_B52 f_X2_seek_J87
    rw [if_pos (show (256 : Int32) ≤ nI 256 from Int32.le_refl _), jw_e]
  · rintro o ⟨a, u⟩ ho ⟨rfl, F, hm, f, g, hb, hc⟩
    replace F : XS k σ0 A u := F
    replace hm : RowM 21 met u := hm
    replace hb : BO A V2 u f g := hb
    have next : ∀ t, f_X2_seek_J81 t (nI x) (nI s) (nI o) = some (.inl (nI (o + 1), t)) := fun t => by
      unfold f_X2_seek_J81
      rw [bV_e, nI_1]
    refine Or.inl ?_
    show ∃ s', f_X2_seek_B52 u (nI x) (nI s) (nI o) = _ ∧ _
    unfold f_X2_seek_B52
    rw [if_neg (show ¬ (256 : Int32) ≤ nI o from nI_ge (b := 256) ho (by decide)), x_isIn (Or.inl rfl) ho hm, bC_e]
    cases mo : met (o / 16) (o % 16) with
    | false =>
      rw [if_neg (show ¬ false = true by decide), if_pos rfl, next]
      refine ⟨_, rfl, rfl, F, hm, f, g, hb, fun e he me => ?_⟩
      by_cases y : e = o
      · subst y; rw [mo] at me; cases me
      · exact hc e (by omega) me
    | true =>
      have fo := inn o ho mo
      obtain ⟨u2, f', g', d1, d2, d3, d4, d5, d6⟩ := x_seek2 hk w hw ok hS s2 (fun e => (iv1 e).1) iv2 sym (all1 o fo) fo F hm hb
      rw [if_pos rfl, if_neg (show ¬ (1 : Int32) = 0 by decide), d1, bD_e, next]
      refine ⟨_, rfl, rfl, d2, d3, f', g', d4, fun e he me h h1 h2 h3 h4 => ?_⟩
      by_cases y : e = o
      · subst y; exact d6 h h1 h2 h3 h4
      · exact d5 _ _ (hc e (by omega) me h h1 h2 h3 h4)
end SL
