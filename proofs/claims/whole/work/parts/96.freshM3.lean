/-! fresh: the reference, whole -/
section MH
variable {A : Tb} {c0 n W s : Nat} {L wh tg : Nat → Nat} {τ : jS}
theorem MS_1 {t : jS} {i : Nat} {v : Int32} (hi : i ≠ 39) (hj : i ≠ 44) (h : MS A 1 c0 n W n L wh tg t) : MS A 1 c0 n W n L wh tg (sI t 1 i v) := by
  obtain ⟨⟨x1, x2, x3, x4⟩, x5, x6, x7, x8, x9, x10⟩ := h
  refine ⟨⟨?_, ?_, x3, x4⟩, fun j hj => ?_, x6, fun c hc hn => ?_, fun v hv => ?_, fun j hj => ?_, x10⟩
  · rw [gI_nei (fun e => hi e.symm)]; exact x1
  · rw [gI_nei (fun e => hj e.symm)]; exact x2
  · rw [gI_ne (by decide), gI_ne (by decide)]; exact x5 j hj
  · rw [gI_ne (by decide)]; exact x7 c hc hn
  · rw [gI_ne (by decide), gI_ne (by decide)]; exact x8 v hv
  · rw [gI_ne (by decide), gI_ne (by decide)]; exact x9 j hj
theorem m_findFresh {v0 : Nat} {V1 : Nat → Nat} {V2 : Nat → Nat → Nat} (hM : WM τ) (eA : mn τ = A) (w : wA A) (s2 : s < 2) (h0 : 0 < tP A) (hS : MS A 1 c0 n W n L wh tg τ) (hB : HB τ A) (iv0 : isV A s n W L wh tg v0) (iv1 : ∀ e, isV (aT A e) s n W L wh tg (V1 e)) (iv2 : ∀ e g, isV (aT (aT A e) g) s n W L wh tg (V2 e g)) : ∃ r f g t', f_X11_findFresh τ (nI s) = some (r, t') ∧ gI t' 1 50 = f ∧ gI t' 1 51 = g ∧ FR A v0 V1 V2 r f g ∧ MS A 1 c0 n W n L wh tg t' ∧ kfr τ t' := by
  have h16 := w.1
  have PP : tP A * tP A ≤ 256 := Nat.mul_le_mul h16 h16
  have g0 : ∀ u, kfr τ u → gI u 1 0 = nI (tP A) := fun u hu => (kfr_f hu (by decide)).trans (by rw [← eA]; exact hM.1.1.1)
  have parts : ∀ i, i < tP A * tP A → nI i / nI (tP A) = nI (i / tP A) ∧ nI i - nI i / nI (tP A) * nI (tP A) = nI (i % tP A) := fun i hi => ⟨pk_div (by omega) h0 (by omega), pk_rem (by omega) h0 (by omega)⟩
  have code : ∀ i, i < tP A * tP A → (100 : Int32) * nI (i / tP A) + nI (i % tP A) = nI (100 * (pN (tP A) i / 16) + pN (tP A) i % 16) := fun i hi => by
    obtain ⟨_, _, p3, p4, _⟩ := pN_parts h16 h0 hi
    rw [show (100 : Int32) = nI 100 from rfl, nI_mul, nI_add, p3, p4]
  have nz := P_ne h0 h16
  have F0 : FS A c0 n W L wh tg τ (sI (sI τ 1 50 (-1)) 1 51 (-1)) A := ⟨MS_1 (by decide) (by decide) (MS_1 (by decide) (by decide) hS), fun a b ha hb => (gI_ne (by decide)).trans ((gI_ne (by decide)).trans (hB a b ha hb)), kfr_tr (kfr_1 (by decide)) (kfr_1 (by decide)), (gI_nei (by decide)).trans (gI_sI _ _ _ _), gI_sI _ _ _ _⟩
  obtain ⟨v, t1, a1, a2, a3⟩ := m_isForced w s2 F0.1 F0.2.1
  have ev := isV_uniq hS a2 iv0
  subst ev
  have F1 := FS_s F0 a3
  unfold f_X11_findFresh
  rw [bV_e, bV_e, a1, bD_e]
  by_cases z0 : v = 0
  · rw [if_pos z0, if_pos rfl]
    exact ⟨0, _, _, t1, rfl, rfl, rfl, Or.inl ⟨z0, rfl, F1.2.2.2.1, F1.2.2.2.2⟩, F1.1, F1.2.2.1⟩
  rw [if_neg z0, if_neg (show ¬ (1 : Int32) = 0 by decide)]
  have key := jloop_ex (S := Int32 × jS) (O := Int32 × jS) (f := fun u => f_X11_findFresh_B22 u.2 (nI s) u.1) (fun i u => u.1 = nI i ∧ FS A c0 n W L wh tg τ u.2 A ∧ ∀ j, j < i → frE A (pN (tP A) j) → V1 (pN (tP A) j) ≠ 0) (tP A * tP A) (fun o => FR A v V1 V2 o.1 (gI o.2 1 50) (gI o.2 1 51) ∧ MS A 1 c0 n W n L wh tg o.2 ∧ kfr τ o.2) (s0 := (0, t1)) ⟨rfl, F1, fun j hj => absurd hj (Nat.not_lt_zero j)⟩ (jfuel_big (by omega)) ?_ ?_
  · obtain ⟨o, o1, o2, o3, o4⟩ := key
    exact ⟨o.1, _, _, o.2, o1, rfl, rfl, o2, o3, o4⟩
  · rintro ⟨a, u⟩ ⟨rfl, F, hall⟩
    replace F : FS A c0 n W L wh tg τ u A := F
    have all1 : ∀ e, frE A e → V1 e ≠ 0 := fun e he => by
      obtain ⟨i, i1, rfl⟩ := pN_of he h16
      exact hall i i1 he
    obtain ⟨r, f, g, t', b1, b2, b3, b4, b5, b6⟩ := m_fresh2 hM eA w s2 h0 F iv2
    refine ⟨(r, t'), ?_, ?_, b5, b6⟩
    · show f_X11_findFresh_B22 u (nI s) (nI (tP A * tP A)) = _
      unfold f_X11_findFresh_B22
      rw [g0 u F.2.2.1, nI_mul, if_pos (Int32.le_refl _), b1, jw_e]
    · show FR A v V1 V2 r (gI t' 1 50) (gI t' 1 51)
      rw [b2, b3]
      rcases b4 with b4 | b4
      · exact Or.inr (Or.inr (Or.inl ⟨z0, all1, b4⟩))
      · exact Or.inr (Or.inr (Or.inr ⟨z0, all1, b4⟩))
  · rintro i ⟨a, u⟩ hi ⟨rfl, F, hall⟩
    replace F : FS A c0 n W L wh tg τ u A := F
    obtain ⟨p1, p2, p3, p4, p5⟩ := pN_parts h16 h0 hi
    have run1 : ∀ y, f_X11_isFree u (nI (i / tP A)) (nI (i % tP A)) = some y → f_X11_findFresh_B22 u (nI s) (nI i) = if y = 0 then f_X11_findFresh_J117 u (nI s) (nI i) else (bD (f_X11_setBearing u (nI (100 * (pN (tP A) i / 16) + pN (tP A) i % 16)) 1) fun r66 σ67 => bD (f_X11_isForced σ67 (nI s)) fun r68 σ69 => if r68 = 0 then f_X11_findFresh_J85 σ69 (nI s) (nI i) (nI (i / tP A)) (nI (i % tP A)) 1 else f_X11_findFresh_J85 σ69 (nI s) (nI i) (nI (i / tP A)) (nI (i % tP A)) 0) := fun y hy => by
      unfold f_X11_findFresh_B22
      rw [g0 u F.2.2.1, nI_mul, if_neg (nI_ge hi (by omega)), bG_t nz, bV_e, bG_t nz, (parts i hi).2, bV_e, (parts i hi).1, hy, bC_e, code i hi]
    show (∃ s', f_X11_findFresh_B22 u (nI s) (nI i) = _ ∧ _) ∨ (∃ o, f_X11_findFresh_B22 u (nI s) (nI i) = _ ∧ _)
    rcases m_isFree (t := u) (B := A) (a := i / tP A) (b := i % tP A) F.2.1 (by omega) (by omega) p2 with ⟨y1, y2⟩ | ⟨y1, y2⟩
    case inr =>
      left
      refine ⟨(nI (i + 1), u), ?_, rfl, F, fun j hj hf => ?_⟩
      · rw [run1 _ y2, if_pos rfl]
        unfold f_X11_findFresh_J117
        rw [bV_e, nI_1]
      · by_cases z : j = i
        · subst z; exact absurd hf y1
        · exact hall j (by omega) hf
    have y1 : frE A (pN (tP A) i) := y1
    obtain ⟨t2, t3, t4, c1, c2, c3, c4⟩ := m_tryP w s2 h16 F y1 (iv1 (pN (tP A) i))
    rw [run1 _ y2, if_neg (show ¬ (1 : Int32) = 0 by decide), c1, bD_e, c2, bD_e]
    unfold f_X11_findFresh_J85 f_X11_findFresh_J117 f_X11_findFresh_J104
    by_cases v0 : V1 (pN (tP A) i) = 0
    · right
      rw [if_pos v0, if_pos rfl, code i hi, c3, bD_e, if_neg (show ¬ (1 : Int32) = 0 by decide), bV_e, jw_e]
      refine ⟨_, rfl, Or.inr (Or.inl ⟨z0, pN (tP A) i, y1, v0, fun e' he' hlt => ?_, rfl, gI_sI _ _ _ _, ?_⟩), MS_1 (by decide) (by decide) c4.1, kfr_tr c4.2.2.1 (kfr_1 (by decide))⟩
      · obtain ⟨j, j1, rfl⟩ := pN_of he' h16
        exact hall j (pN_mono h16 h0 hlt) he'
      · show gI (sI t4 1 50 _) 1 51 = -1
        rw [gI_nei (by decide)]; exact c4.2.2.2.2
    · left
      rw [if_neg v0, if_neg (show ¬ (1 : Int32) = 0 by decide), code i hi, c3, bD_e, if_pos rfl, bV_e, nI_1]
      refine ⟨_, rfl, rfl, c4, fun j hj hf => ?_⟩
      by_cases y : j = i
      · subst y; exact v0
      · exact hall j (by omega) hf
end MH
