/-! fresh: the class's grudges turned on and off -/
theorem gT_gT (A : Tb) (f f' : Nat → Nat) (m m' : Nat) : gT (gT A f m) f' m' = gT A f' m' := by
  funext a i
  unfold gT
  by_cases z : a = 6
  · rw [if_pos z, if_pos z]
  · rw [if_neg z, if_neg z]
    by_cases y : a = 1 ∧ i = 6
    · rw [if_pos y, if_pos y, if_neg z]
    · rw [if_neg y, if_neg y, if_neg z, if_neg y]
/-- a table of this town -/
def isT (A B : Tb) : Prop := ∃ f m, B = gT A f m
theorem isT_self (A : Tb) : isT A A := ⟨A 6, tG A, (gT_self A).symm⟩
theorem isT_aT {A B : Tb} (h : isT A B) (e : Nat) : isT A (aT B e) := by
  obtain ⟨f, m, rfl⟩ := h
  exact ⟨_, _, gT_gT A f _ m _⟩
theorem isT_P {A B : Tb} (h : isT A B) : tP B = tP A := by
  obtain ⟨f, m, rfl⟩ := h; rfl
/-- the class's state, with these grudges -/
def XS (k : Nat) (σ0 : jS) (B : Tb) (σ : jS) : Prop := fr (11 :: xH0) σ0 σ ∧ xF σ B ∧ (∀ p, 16 ≤ p → gI σ 11 p = gI σ0 11 p) ∧ (∀ i, gL σ 11 i = gL σ0 11 i) ∧ sX k σ
theorem nin11 {a : Nat} (h : a ∉ 11 :: xH0) : a ∉ xH0 ∧ a ≠ 11 := ⟨fun q => h (List.mem_cons_of_mem _ q), fun q => h (by rw [q]; exact List.mem_cons_self)⟩
theorem XS_g {k : Nat} {σ0 σ σ' : jS} {B : Tb} (h : XS k σ0 B σ) (g : fr xH0 σ σ') (s : sX k σ') : XS k σ0 B σ' := ⟨fr_trans h.1 (fr_mono g (fun a ha => List.mem_cons_of_mem _ ha)), fun p hp => (fr_I g (by decide) _).trans (h.2.1 p hp), fun p hp => (fr_I g (by decide) _).trans (h.2.2.1 p hp), fun i => (fr_L g (by decide) _).trans (h.2.2.2.1 i), s⟩
theorem XS_r {k : Nat} {σ0 σ : jS} {B : Tb} {a i : Nat} {v : Int32} (h : XS k σ0 B σ) (ha : a = 20 ∨ a = 21 ∨ a = 22) : XS k σ0 B (sI σ a i v) := by
  have f : fr [20, 21, 22] σ (sI σ a i v) := fr_sI _ _ _ (by simp; omega)
  exact XS_g h (fr_mono f (by decide)) (sX_keep (kp_fr f rfl) (fr_I f (by decide) _) (fr_I f (by decide) _) h.2.2.2.2)
theorem XS_end {k : Nat} {σ0 σ : jS} {A : Tb} (h0 : xF σ0 A) (h : XS k σ0 A σ) : fr xH0 σ0 σ := by
  refine ⟨h.1.1, fun a ha i => ?_⟩
  by_cases z : a = 11
  · subst z
    refine ⟨?_, h.2.2.2.1 i⟩
    by_cases y : i < 16
    · rw [h.2.1 i y, h0 i y]
    · exact h.2.2.1 i (by omega)
  · have n11 : a ∉ 11 :: xH0 := fun q => by
      rcases List.mem_cons.mp q with q | q
      · exact z q
      · exact ha q
    exact ⟨fr_I h.1 n11 i, fr_L h.1 n11 i⟩
section XQ
variable {A B : Tb} {k x n W s : Nat} {L wh tg : Nat → Nat} {σ0 σ τ : jS}
theorem e_div {e : Nat} (he : e < 256) : nI e / (16 : Int32) = nI (e / 16) ∧ nI e - nI e / (16 : Int32) * (16 : Int32) = nI (e % 16) := by
  rw [show (16 : Int32) = nI 16 from rfl]
  exact ⟨pk_div (by omega) (by decide) (by decide), pk_rem (by omega) (by decide) (by decide)⟩
theorem nI_nm1 {e : Nat} (he : e < 2 ^ 31) : ¬ nI e = -1 := fun q => nI_pos (n := e) he (by rw [q]; decide)
theorem x_flip {e : Nat} (h : XS k σ0 B σ) (hB : tP B ≤ 16) (he : frE B e) : ∃ σ', f_X2_toggle σ (nI e) = some ((), σ') ∧ XS k σ0 (aT B e) σ' ∧ fr [11] σ σ' := by
  have e2 := frE_lt hB he
  have h1 := he.1
  obtain ⟨σ', a1, a2, a3, a4, a5⟩ := x_toggle2 (σ := σ) (F := bears B) (G := bears (aT B e)) (a := e / 16) (b := e % 16) (by omega) (by omega) (by omega) h.2.1 (fun p q hp hq => by
    rw [aT_bears e2 (by omega) (by omega)]
    cases hi : isPr (e / 16) (e % 16) p q with
    | false => simp
    | true =>
      have hb : bears B p q = false := by
        rcases isPr_iff.mp hi with ⟨rfl, rfl⟩ | ⟨rfl, rfl⟩
        · exact he.2.2
        · rw [bears_sym]; exact he.2.2
      rw [hb]; rfl)
  refine ⟨σ', ?_, ⟨fr_trans h.1 (fr_mono a2 (by decide)), a3, fun p hp => (a4 p hp).trans (h.2.2.1 p hp), fun i => (a5 11 i).trans (h.2.2.2.1 i), sX_keep (kp_fr a2 rfl) (fr_I a2 (by decide) _) (fr_I a2 (by decide) _) h.2.2.2.2⟩, a2⟩
  unfold f_X2_toggle f_X2_toggle_J17
  rw [if_neg (nI_nm1 (by omega)), (e_div e2).2, (e_div e2).1, a1, bD_e]
theorem x_flop {e : Nat} (h : XS k σ0 (aT B e) σ) (hB : tP B ≤ 16) (he : frE B e) : ∃ σ', f_X2_toggle σ (nI e) = some ((), σ') ∧ XS k σ0 B σ' ∧ fr [11] σ σ' := by
  have e2 := frE_lt hB he
  have h1 := he.1
  obtain ⟨σ', a1, a2, a3, a4, a5⟩ := x_toggle2 (σ := σ) (F := bears (aT B e)) (G := bears B) (a := e / 16) (b := e % 16) (by omega) (by omega) (by omega) h.2.1 (fun p q hp hq => by
    rw [aT_bears e2 (by omega) (by omega)]
    cases hi : isPr (e / 16) (e % 16) p q with
    | false => simp
    | true =>
      have hb : bears B p q = false := by
        rcases isPr_iff.mp hi with ⟨rfl, rfl⟩ | ⟨rfl, rfl⟩
        · exact he.2.2
        · rw [bears_sym]; exact he.2.2
      rw [hb]; rfl)
  refine ⟨σ', ?_, ⟨fr_trans h.1 (fr_mono a2 (by decide)), a3, fun p hp => (a4 p hp).trans (h.2.2.1 p hp), fun i => (a5 11 i).trans (h.2.2.2.1 i), sX_keep (kp_fr a2 rfl) (fr_I a2 (by decide) _) (fr_I a2 (by decide) _) h.2.2.2.2⟩, a2⟩
  unfold f_X2_toggle f_X2_toggle_J17
  rw [if_neg (nI_nm1 (by omega)), (e_div e2).2, (e_div e2).1, a1, bD_e]
theorem XS_W (h : XS k σ0 B σ) (hw : xW σ0 A) : xW σ A := xW_fr h.1 rfl hw
/-- solved -/
theorem x_slv {v : Nat} (hk : k ≤ 4096) (w : wA A) (hw : xW σ0 A) (hT : isT A B) (h : XS k σ0 B σ) (ok : okx A x) (hS : MS A 1 (cv A x) n W n L wh tg τ) (s2 : s < 2) (hv : isV B s n W L wh tg v) : ∃ σ', f_X0_solve σ (nI x) (nI s) 0 = some (rI0 v, σ') ∧ XS k σ0 B σ' ∧ gfr σ σ' := by
  obtain ⟨f, m, rfl⟩ := hT
  obtain ⟨σ', a, b, c⟩ := x_solveV hk w (XS_W h hw) h.2.1 ok h.2.2.2.2 hS s2 hv
  exact ⟨σ', a, XS_g h (gfr_x b) c, b⟩
/-- solved, and PEACE's way followed -/
theorem x_way {v hh : Nat} (hk : k ≤ 4096) (w : wA A) (hw : xW σ0 A) (hT : isT A B) (h : XS k σ0 B σ) (ok : okx A x) (hS : MS A 1 (cv A x) n W n L wh tg τ) (s2 : s < 2) (hv : isV B s n W L wh tg v) (v0 : v ≠ 0) (hhh : hh = 21 ∨ hh = 22) : ∃ met r σ1 σ', f_X0_solve σ (nI x) (nI s) 0 = some (r, σ1) ∧ f_X0_followPeace σ1 (nI x) (nI s) hh = some ((), σ') ∧ XS k σ0 B σ' ∧ RowM hh met σ' ∧ fr [4, 12, 13, 14, 15, 16, hh] σ σ' ∧ (∀ a b, met a b = true → frE B (16 * a + b) ∧ a < 16 ∧ b < 16) ∧ (∀ B' v', isT A B' → (∀ p q, p < 16 → q < 16 → bears B p q = true → bears B' p q = true) → (∀ a b, met a b = true → bears B' a b = false) → isV B' s n W L wh tg v' → v' ≠ 0) := by
  obtain ⟨f, m, rfl⟩ := hT
  have wB : wA (gT A f m) := gT_wA w
  have hWs := XS_W h hw
  obtain ⟨ndX, nX, mX, LX, QX, lm, σ1, a1, a2, a3, a4⟩ := x_solve (pI := nI s) (pc := fun y => (fun b => b == s) (y % 2)) hk wB (gT_xW hWs) h.2.1 (gT_ok ok) h.2.2.2.2 (sc := 0) (by decide) (fun y _ => side_pb s2 _ (Nat.mod_lt y (by decide)))
  obtain ⟨nd, hv1, hv2⟩ := hv
  obtain ⟨j, j1, j2, j3⟩ := both_need (pb := fun b => b == s) (br := fun j => bears (gT A f m) (cOne (L j)) (cTwo (L j))) wB a2 (gT_MS hS) (fun j _ => bears_ended) hv1 x ⟨0, a2.1.2.2.2.1, a2.1.2.2.2.2.1⟩
  have j0 : j = 0 := start_0 (A := gT A f m) (gT_MS hS) j1 j2
  subst j0
  obtain ⟨q1, l, l16, l1, l2, l3⟩ := a4
  have R : SR (gT A f m) x (tmX (gT A f m) 0) (fun y => y % 2 == s) l nX mX LX QX ndX σ1 := by
    obtain ⟨r1, r2, r3, r4, r5, r6, r7, r8, r9, r10, r11, r12⟩ := a2
    exact ⟨r1, r2, r3, r4, r5, r6, r7, r8, r9, r10, l3, r12⟩
  obtain ⟨met, c, T, σ', b1, b2, b3, b4, b5, b6⟩ := x_follow wB (gT_xW (gfr_W a3 hWs)) (gfr_F a3 h.2.1) R s2 (by omega) hhh (by rw [j3, hv2]; exact v0)
  have fr7 : fr [4, 12, 13, 14, 15, 16, hh] σ σ' := fr_trans (fr_mono a3.1 (fun a ha => by simp at ha ⊢; omega)) (fr_mono b4 (fun a ha => by simp at ha ⊢; omega))
  have k12 : kp [12, 14] σ1 σ' := fun a ha i => fr_I b4 (fun q => by simp at ha q; omega) i
  have sx' : sX k σ' := by
    obtain ⟨n0, n1, n2, n3, n4⟩ := q1
    refine ⟨⟨n0, n1, (b5 1 (by decide)).trans n2, fun i hi => ?_, fun c hc => ?_⟩, l, l16, l1, (b5 11 (by decide)).trans l2, b6⟩
    · rw [k12 12 (by decide)]; exact n3 i hi
    · rw [k12 14 (by decide)]
      rcases n4 c hc with z | ⟨i, i1, i2⟩
      · exact Or.inl z
      · exact Or.inr ⟨i, i1, by rw [k12 12 (by decide)]; exact i2⟩
  refine ⟨met, _, σ1, σ', a1, b1, XS_g h (fr_mono fr7 (fun a ha => by
    unfold xH0
    simp at ha ⊢
    omega)) sx', b2, fr7, fun a b hab => ?_, fun B' v' hT' hup hno hv' => ?_⟩
  · obtain ⟨y, y1, y2, rfl, rfl⟩ := b3.2.2 a b hab
    have oky : okx (gT A f m) y := by
      obtain ⟨j, j1, j2⟩ := y1
      rw [← j2]; exact (R.2.1 j j1).1
    obtain ⟨o1, o2, o3, o4⟩ := oky
    have h16 := w.1
    have p0 : hs (gT A f m) (x0 y) < tP A := o2.2.1
    have p1 : hs (gT A f m) (x1 y) < tP A := o3.2.1
    have hb : bears (gT A f m) (hs (gT A f m) (x0 y)) (hs (gT A f m) (x1 y)) = false := by
      unfold ended at y2
      rw [cv_one wB ⟨o1, o2, o3, o4⟩, cv_two wB ⟨o1, o2, o3, o4⟩, Bool.not_eq_true'] at y2
      exact y2
    obtain ⟨z1, z2⟩ := lohi o4
    have d1 : (16 * lo (hs (gT A f m) (x0 y)) (hs (gT A f m) (x1 y)) + hi (hs (gT A f m) (x0 y)) (hs (gT A f m) (x1 y))) / 16 = lo (hs (gT A f m) (x0 y)) (hs (gT A f m) (x1 y)) := by omega
    have d2 : (16 * lo (hs (gT A f m) (x0 y)) (hs (gT A f m) (x1 y)) + hi (hs (gT A f m) (x0 y)) (hs (gT A f m) (x1 y))) % 16 = hi (hs (gT A f m) (x0 y)) (hs (gT A f m) (x1 y)) := by omega
    refine ⟨⟨by rw [d1, d2]; exact z1, ?_, ?_⟩, by omega, by omega⟩
    · rw [d2]
      show _ < tP A
      omega
    · rw [d1, d2]
      rcases z2 with ⟨e1, e2⟩ | ⟨e1, e2⟩
      · rw [e1, e2]; exact hb
      · rw [e1, e2, bears_sym]; exact hb
  · obtain ⟨f', m', rfl⟩ := hT'
    exact peace_holds w hS R b3 hup hno hv'
theorem x_isIn {σ : jS} {met : Nat → Nat → Bool} {hh e : Nat} (hhh : hh = 21 ∨ hh = 22) (he : e < 256) (hm : RowM hh met σ) : f_X2_isIn σ hh (nI e) = some (if met (e / 16) (e % 16) = true then 1 else 0) := by
  unfold f_X2_isIn f_X2_isIn_J23
  rw [(e_div he).2, (e_div he).1, met_at hhh (by omega), bC_e, hm _ (by omega), nI_bit (bm16 _) (by omega), bm_bit, decide_eq_true (show e % 16 < 16 by omega), Bool.true_and]
  cases met (e / 16) (e % 16) with
  | true => rw [if_pos rfl, if_neg (show ¬ (1 : Int32) = 0 by decide), bG_t (show jb 1 = true by decide)]
  | false => rw [if_neg (show ¬ false = true by decide), if_pos rfl, bG_t (show jb 0 = true by decide)]
end XQ
