/-! fresh: the reference finds them -/
def FS (A : Tb) (c0 n W : Nat) (L wh tg : Nat → Nat) (τ t : jS) (B : Tb) : Prop := MS A 1 c0 n W n L wh tg t ∧ HB t B ∧ kfr τ t ∧ gI t 1 50 = -1 ∧ gI t 1 51 = -1
section MG
variable {A : Tb} {c0 n W s : Nat} {L wh tg : Nat → Nat} {τ : jS}
theorem FS_28 {t t' : jS} {B B' : Tb} (h : FS A c0 n W L wh tg τ t B) (f : fr [28] t t') (hb : HB t' B') : FS A c0 n W L wh tg τ t' B' := ⟨MS_s f rfl h.1, hb, kfr_tr h.2.2.1 (fun a i p _ => fr_I f (by unfold kH at p; simp at p ⊢; omega) i), (fr_I f (by decide) _).trans h.2.2.2.1, (fr_I f (by decide) _).trans h.2.2.2.2⟩
theorem FS_s {t t' : jS} {B : Tb} (h : FS A c0 n W L wh tg τ t B) (f : sfr t t') : FS A c0 n W L wh tg τ t' B := ⟨MS_s f rfl h.1, fun a b ha hb => (fr_I f (by decide) _).trans (h.2.1 a b ha hb), kfr_tr h.2.2.1 (sfr_k f), (fr_I f (by decide) _).trans h.2.2.2.1, (fr_I f (by decide) _).trans h.2.2.2.2⟩
/-- one pair more tried -/
theorem m_tryP {t : jS} {B : Tb} {e v : Nat} (w : wA A) (s2 : s < 2) (hB16 : tP B ≤ 16) (h : FS A c0 n W L wh tg τ t B) (he : frE B e) (iv : isV (aT B e) s n W L wh tg v) : ∃ t1 t2 t3, f_X11_setBearing t (nI (100 * (e / 16) + e % 16)) 1 = some ((), t1) ∧ f_X11_isForced t1 (nI s) = some (if v = 0 then 0 else 1, t2) ∧ f_X11_setBearing t2 (nI (100 * (e / 16) + e % 16)) 0 = some ((), t3) ∧ FS A c0 n W L wh tg τ t3 B := by
  have e2 := frE_lt hB16 he
  obtain ⟨t1, a1, a2, a3⟩ := m_set (t := t) (a := e / 16) (b := e % 16) (v := true) (by omega) (by omega)
  have F1 := FS_28 h a2 (HB_set e2 h.2.1 a3)
  obtain ⟨v', t2, b1, b2, b3⟩ := m_isForced w s2 F1.1 F1.2.1
  have ev := isV_uniq h.1 b2 iv
  subst ev
  have F2 := FS_s F1 b3
  obtain ⟨t3, c1, c2, c3⟩ := m_set (t := t2) (a := e / 16) (b := e % 16) (v := false) (by omega) (by omega)
  exact ⟨t1, t2, t3, a1, b1, c1, FS_28 F2 c2 (HB_un he hB16 F2.2.1 c3)⟩
theorem P_ne {P : Nat} (h0 : 0 < P) (h : P ≤ 16) : (nI P != 0) = true := by
  rw [bne_iff_ne]
  exact fun e => by have := (nI_eq0 (by omega)).mp e; omega
theorem m_fresh2 {t : jS} {V2 : Nat → Nat → Nat} (hM : WM τ) (eA : mn τ = A) (w : wA A) (s2 : s < 2) (h0 : 0 < tP A) (h : FS A c0 n W L wh tg τ t A) (iv2 : ∀ e g, isV (aT (aT A e) g) s n W L wh tg (V2 e g)) : ∃ r f g t', f_X11_findFresh_J123 t (nI s) = some (r, t') ∧ gI t' 1 50 = f ∧ gI t' 1 51 = g ∧ ((∃ e g', frE A e ∧ frE A g' ∧ e < g' ∧ V2 e g' = 0 ∧ (∀ e1 g1, frE A e1 → frE A g1 → e1 < g1 → (e1 < e ∨ (e1 = e ∧ g1 < g')) → V2 e1 g1 ≠ 0) ∧ r = 2 ∧ f = nI (100 * (e / 16) + e % 16) ∧ g = nI (100 * (g' / 16) + g' % 16)) ∨ ((∀ e g', frE A e → frE A g' → e < g' → V2 e g' ≠ 0) ∧ r = -1 ∧ f = -1 ∧ g = -1)) ∧ MS A 1 c0 n W n L wh tg t' ∧ kfr τ t' := by
  have h16 := w.1
  have PP : tP A * tP A ≤ 256 := Nat.mul_le_mul h16 h16
  have g0 : ∀ u, kfr τ u → gI u 1 0 = nI (tP A) := fun u hu => (kfr_f hu (by decide)).trans (by rw [← eA]; exact hM.1.1.1)
  have parts : ∀ i, i < tP A * tP A → nI i / nI (tP A) = nI (i / tP A) ∧ nI i - nI i / nI (tP A) * nI (tP A) = nI (i % tP A) := fun i hi => ⟨pk_div (by omega) h0 (by omega), pk_rem (by omega) h0 (by omega)⟩
  have code : ∀ i, i < tP A * tP A → (100 : Int32) * nI (i / tP A) + nI (i % tP A) = nI (100 * (pN (tP A) i / 16) + pN (tP A) i % 16) := fun i hi => by
    obtain ⟨_, _, p3, p4, _⟩ := pN_parts h16 h0 hi
    rw [show (100 : Int32) = nI 100 from rfl, nI_mul, nI_add, p3, p4]
  have nz := P_ne h0 h16
  unfold f_X11_findFresh_J123
  have key := jloop_ex (S := Int32 × jS) (O := Int32 × jS) (f := fun u => f_X11_findFresh_B125 u.2 (nI s) u.1) (fun i u => u.1 = nI i ∧ FS A c0 n W L wh tg τ u.2 A ∧ ∀ j, j < i → frE A (pN (tP A) j) → ∀ g, frE A g → pN (tP A) j < g → V2 (pN (tP A) j) g ≠ 0) (tP A * tP A) (fun o => ((∃ e g', frE A e ∧ frE A g' ∧ e < g' ∧ V2 e g' = 0 ∧ (∀ e1 g1, frE A e1 → frE A g1 → e1 < g1 → (e1 < e ∨ (e1 = e ∧ g1 < g')) → V2 e1 g1 ≠ 0) ∧ o.1 = 2 ∧ gI o.2 1 50 = nI (100 * (e / 16) + e % 16) ∧ gI o.2 1 51 = nI (100 * (g' / 16) + g' % 16)) ∨ ((∀ e g', frE A e → frE A g' → e < g' → V2 e g' ≠ 0) ∧ o.1 = -1 ∧ gI o.2 1 50 = -1 ∧ gI o.2 1 51 = -1)) ∧ MS A 1 c0 n W n L wh tg o.2 ∧ kfr τ o.2) (s0 := (0, t)) ⟨rfl, h, fun j hj => absurd hj (Nat.not_lt_zero j)⟩ (jfuel_big (by omega)) ?_ ?_
  · obtain ⟨o, o1, o2, o3, o4⟩ := key
    exact ⟨o.1, _, _, o.2, o1, rfl, rfl, o2, o3, o4⟩
  · rintro ⟨a, u⟩ ⟨rfl, F, hall⟩
    replace F : FS A c0 n W L wh tg τ u A := F
    refine ⟨(-1, u), ?_, Or.inr ⟨fun e g he hg hlt => ?_, rfl, F.2.2.2.1, F.2.2.2.2⟩, F.1, F.2.2.1⟩
    · show f_X11_findFresh_B125 u (nI s) (nI (tP A * tP A)) = _
      unfold f_X11_findFresh_B125 f_X11_findFresh_J305
      rw [g0 u F.2.2.1, nI_mul, if_pos (Int32.le_refl _), jw_e]
    · obtain ⟨i, i1, rfl⟩ := pN_of he h16
      exact hall i i1 he g hg hlt
  · rintro i ⟨a, u⟩ hi ⟨rfl, F, hall⟩
    replace F : FS A c0 n W L wh tg τ u A := F
    obtain ⟨p1, p2, p3, p4, p5⟩ := pN_parts h16 h0 hi
    have e16 : 16 * (i / tP A) + i % tP A = pN (tP A) i := rfl
    have run1 : ∀ y, f_X11_isFree u (nI (i / tP A)) (nI (i % tP A)) = some y → f_X11_findFresh_B125 u (nI s) (nI i) = if y = 0 then f_X11_findFresh_J299 u (nI s) (nI i) else (bD (f_X11_setBearing u (nI (100 * (pN (tP A) i / 16) + pN (tP A) i % 16)) 1) fun r9 σ10 => jloop jFuel (fun z => f_X11_findFresh_B185 z.2 (nI s) (nI i) (nI (100 * (pN (tP A) i / 16) + pN (tP A) i % 16)) z.1) (nI (i + 1), σ10)) := fun y hy => by
      unfold f_X11_findFresh_B125
      rw [g0 u F.2.2.1, nI_mul, if_neg (nI_ge hi (by omega)), bG_t nz, bG_t nz, (parts i hi).2, (parts i hi).1, code i hi, bV_e, bG_t nz, bG_t nz, hy, bC_e, nI_1]
      rfl
    show (∃ s', f_X11_findFresh_B125 u (nI s) (nI i) = _ ∧ _) ∨ (∃ o, f_X11_findFresh_B125 u (nI s) (nI i) = _ ∧ _)
    rcases m_isFree (t := u) (B := A) (a := i / tP A) (b := i % tP A) F.2.1 (by omega) (by omega) p2 with ⟨y1, y2⟩ | ⟨y1, y2⟩
    case inr =>
      left
      refine ⟨(nI (i + 1), u), ?_, rfl, F, fun j hj hf => ?_⟩
      · rw [run1 _ y2, if_pos rfl]
        unfold f_X11_findFresh_J299
        rw [bV_e, nI_1]
      · by_cases z : j = i
        · subst z; exact absurd hf y1
        · exact hall j (by omega) hf
    have y1 : frE A (pN (tP A) i) := y1
    rw [run1 _ y2, if_neg (show ¬ (1 : Int32) = 0 by decide)]
    generalize hE : pN (tP A) i = e at *
    obtain ⟨u1, s1, s2', s3⟩ := m_set (t := u) (a := e / 16) (b := e % 16) (v := true) (by omega) (by omega)
    have F1 := FS_28 F s2' (HB_set p5 F.2.1 s3)
    have s1' : f_X11_setBearing u (nI (100 * (e / 16) + e % 16)) 1 = some ((), u1) := s1
    rw [s1', bD_e]
    have hB16 : tP (aT A e) ≤ 16 := h16
    have key := jloop_inv (f := fun z => f_X11_findFresh_B185 z.2 (nI s) (nI i) (nI (100 * (e / 16) + e % 16)) z.1) (fun mz z => ∃ l, z.1 = nI l ∧ i < l ∧ l ≤ tP A * tP A ∧ mz = tP A * tP A - l ∧ FS A c0 n W L wh tg τ z.2 (aT A e) ∧ ∀ j, i < j → j < l → frE A (pN (tP A) j) → V2 e (pN (tP A) j) ≠ 0) (fun (o : (Int32 × jS) ⊕ (Int32 × jS)) => (∃ z, o = .inl (nI (i + 1), z) ∧ FS A c0 n W L wh tg τ z A ∧ ∀ g, frE A g → e < g → V2 e g ≠ 0) ∨ (∃ g z, o = .inr (2, z) ∧ frE A g ∧ e < g ∧ V2 e g = 0 ∧ (∀ g', frE A g' → e < g' → g' < g → V2 e g' ≠ 0) ∧ gI z 1 50 = nI (100 * (e / 16) + e % 16) ∧ gI z 1 51 = nI (100 * (g / 16) + g % 16) ∧ MS A 1 c0 n W n L wh tg z ∧ kfr τ z)) ?_ jFuel (tP A * tP A - (i + 1)) (nI (i + 1), u1) ⟨i + 1, rfl, by omega, by omega, rfl, F1, fun j h1 h2 => by omega⟩ (jfuel_big (by omega))
    · obtain ⟨o, o1, ⟨z, rfl, o2, o3⟩ | ⟨g, z, rfl, o2, o3, o4, o5, o6, o7, o8, o9⟩⟩ := key
      · left
        rw [o1]
        refine ⟨_, rfl, rfl, o2, fun j hj hf g hg hlt => ?_⟩
        by_cases y : j = i
        · subst y; rw [hE] at hlt ⊢; exact o3 g hg hlt
        · exact hall j (by omega) hf g hg hlt
      · right
        rw [o1]
        refine ⟨_, rfl, Or.inl ⟨e, g, y1, o2, o3, o4, fun e1 g1 f1 f2 h1 h2 => ?_, rfl, o6, o7⟩, o8, o9⟩
        rcases h2 with h2 | ⟨rfl, h2⟩
        · obtain ⟨j, j1, rfl⟩ := pN_of f1 h16
          rw [← hE] at h2
          exact hall j (pN_mono h16 h0 h2) f1 g1 f2 h1
        · exact o5 g1 f2 h1 h2
    · rintro mz ⟨za, z⟩ ⟨l, rfl, il, lP, rfl, Fz, hz⟩
      replace Fz : FS A c0 n W L wh tg τ z (aT A e) := Fz
      show (∃ s' n', f_X11_findFresh_B185 z (nI s) (nI i) (nI (100 * (e / 16) + e % 16)) (nI l) = _ ∧ _) ∨ (∃ o, f_X11_findFresh_B185 z (nI s) (nI i) (nI (100 * (e / 16) + e % 16)) (nI l) = _ ∧ _)
      rcases Nat.lt_or_ge l (tP A * tP A) with q | q
      · obtain ⟨q1, q2, q3, q4, q5⟩ := pN_parts h16 h0 q
        have elt : e < pN (tP A) l := by rw [← hE]; exact pN_lt h16 h0 il
        have run2 : ∀ y, f_X11_isFree z (nI (l / tP A)) (nI (l % tP A)) = some y → f_X11_findFresh_B185 z (nI s) (nI i) (nI (100 * (e / 16) + e % 16)) (nI l) = if y = 0 then f_X11_findFresh_J287 z (nI s) (nI i) (nI (100 * (e / 16) + e % 16)) (nI l) else (bD (f_X11_setBearing z (nI (100 * (pN (tP A) l / 16) + pN (tP A) l % 16)) 1) fun r20 σ21 => bD (f_X11_isForced σ21 (nI s)) fun r22 σ23 => if r22 = 0 then f_X11_findFresh_J260 σ23 (nI s) (nI i) (nI (100 * (e / 16) + e % 16)) (nI l) (nI (100 * (pN (tP A) l / 16) + pN (tP A) l % 16)) 1 else f_X11_findFresh_J260 σ23 (nI s) (nI i) (nI (100 * (e / 16) + e % 16)) (nI l) (nI (100 * (pN (tP A) l / 16) + pN (tP A) l % 16)) 0) := fun y hy => by
          unfold f_X11_findFresh_B185
          rw [g0 z Fz.2.2.1, nI_mul, if_neg (nI_ge q (by omega)), bG_t nz, bG_t nz, (parts l q).2, (parts l q).1, code l q, bV_e, bG_t nz, bG_t nz, hy, bC_e]
        rcases m_isFree (t := z) (B := aT A e) (a := l / tP A) (b := l % tP A) Fz.2.1 (by omega) (by omega) q2 with ⟨w1, w2⟩ | ⟨w1, w2⟩
        · have w1 : frE (aT A e) (pN (tP A) l) := w1
          have w3 := (frE_aT y1 h16).mp w1
          obtain ⟨t1, t2, t3, a1, a2, a3, a4⟩ := m_tryP w s2 hB16 Fz w1 (iv2 e (pN (tP A) l))
          rw [run2 _ w2, if_neg (show ¬ (1 : Int32) = 0 by decide), a1, bD_e, a2, bD_e]
          unfold f_X11_findFresh_J260 f_X11_findFresh_J287 f_X11_findFresh_J274
          by_cases v0 : V2 e (pN (tP A) l) = 0
          · right
            rw [if_pos v0, if_pos rfl, a3, bD_e, if_neg (show ¬ (1 : Int32) = 0 by decide), bV_e, bV_e, jw_e, jw_e]
            refine ⟨_, rfl, Or.inr ⟨pN (tP A) l, _, rfl, w3.1, elt, v0, fun g' hg' h1 h2 => ?_, ?_, gI_sI _ _ _ _, ?_, kfr_tr a4.2.2.1 (kfr_tr (kfr_1 (by decide)) (kfr_1 (by decide)))⟩⟩
            · obtain ⟨j, j1, rfl⟩ := pN_of hg' h16
              rw [← hE] at h1
              exact hz j (pN_mono h16 h0 h1) (pN_mono h16 h0 h2) hg'
            · rw [gI_nei (by decide), gI_sI]
            · obtain ⟨⟨x1, x2, x3, x4⟩, x5, x6, x7, x8, x9, x10⟩ := a4.1
              refine ⟨⟨?_, ?_, x3, x4⟩, fun j hj => ?_, x6, fun c hc hn => ?_, fun v hv => ?_, fun j hj => ?_, x10⟩
              · rw [gI_nei (by decide), gI_nei (by decide)]; exact x1
              · rw [gI_nei (by decide), gI_nei (by decide)]; exact x2
              · rw [gI_ne (by decide), gI_ne (by decide), gI_ne (by decide), gI_ne (by decide)]; exact x5 j hj
              · rw [gI_ne (by decide), gI_ne (by decide)]; exact x7 c hc hn
              · rw [gI_ne (by decide), gI_ne (by decide), gI_ne (by decide), gI_ne (by decide)]; exact x8 v hv
              · rw [gI_ne (by decide), gI_ne (by decide), gI_ne (by decide), gI_ne (by decide)]; exact x9 j hj
          · left
            rw [if_neg v0, if_neg (show ¬ (1 : Int32) = 0 by decide), a3, bD_e, if_pos rfl, bV_e, nI_1]
            refine ⟨_, _, rfl, by omega, l + 1, rfl, by omega, by omega, rfl, a4, fun j h1 h2 hf => ?_⟩
            by_cases y : j = l
            · subst y; exact v0
            · exact hz j h1 (by omega) hf
        · left
          rw [run2 _ w2, if_pos rfl]
          unfold f_X11_findFresh_J287
          rw [bV_e, nI_1]
          refine ⟨_, tP A * tP A - (l + 1), rfl, by omega, l + 1, rfl, by omega, by omega, rfl, Fz, fun j h1 h2 hf => ?_⟩
          by_cases y : j = l
          · subst y
            exact absurd ((frE_aT y1 h16).mpr ⟨hf, by omega⟩) w1
          · exact hz j h1 (by omega) hf
      · right
        have lq : l = tP A * tP A := by omega
        subst lq
        obtain ⟨z2, d1, d2, d3⟩ := m_set (t := z) (a := e / 16) (b := e % 16) (v := false) (by omega) (by omega)
        have d1' : f_X11_setBearing z (nI (100 * (e / 16) + e % 16)) 0 = some ((), z2) := d1
        have F2 := FS_28 Fz d2 (HB_un y1 h16 Fz.2.1 d3)
        unfold f_X11_findFresh_B185 f_X11_findFresh_J293 f_X11_findFresh_J299
        rw [g0 z Fz.2.2.1, nI_mul, if_pos (Int32.le_refl _), d1', bD_e, bV_e, nI_1, jw_e]
        refine ⟨_, rfl, Or.inl ⟨z2, rfl, F2, fun g hg hlt => ?_⟩⟩
        obtain ⟨j, j1, rfl⟩ := pN_of hg h16
        rw [← hE] at hlt
        exact hz j (pN_mono h16 h0 hlt) j1 hg
end MG
