/-! once: the class's sets -/
def RD (A : Tb) (D : Nat → Nat → Prop) (σ : jS) : Prop := ∀ j, j < 4096 → (rb σ 18 j = true ↔ ∃ e u, u < 2 ^ tT A ∧ D e u ∧ j = e * 256 + u)
theorem RD_cong {A : Tb} {D D' : Nat → Nat → Prop} {σ : jS} (h : RD A D σ) (hd : ∀ e u, u < 2 ^ tT A → (D e u ↔ D' e u)) : RD A D' σ := fun j hj => by
  rw [h j hj]
  constructor
  · rintro ⟨e, u, a, b, c⟩; exact ⟨e, u, a, (hd e u a).mp b, c⟩
  · rintro ⟨e, u, a, b, c⟩; exact ⟨e, u, a, (hd e u a).mpr b, c⟩
theorem RD_at {A : Tb} {D : Nat → Nat → Prop} {σ : jS} (hT : tT A ≤ 8) (h : RD A D σ) {e u : Nat} (he : e < 16) (hu : u < 256) : rb σ 18 (e * 256 + u) = true ↔ u < 2 ^ tT A ∧ D e u := by
  have p8 : 2 ^ tT A ≤ 256 := Nat.pow_le_pow_right (n := 2) (by decide) hT
  rw [h _ (by omega)]
  constructor
  · rintro ⟨e', u', a, b, c⟩
    have e1 : e' = e := by omega
    have u1 : u' = u := by omega
    subst e1; subst u1
    exact ⟨a, b⟩
  · rintro ⟨a, b⟩; exact ⟨e, u, a, b, rfl⟩
theorem bc_N {i : Nat} (h : i < 2 ^ 16) : f_J6_bitCount_0f7a4 (nI i) = some (nI (fa_cnt i.testBit 16)) := by
  rw [x_bc32 (by omega), cnt_tail (n := 16) (m := 32) (by decide) (fun k k1 _ => Nat.testBit_lt_two_pow (Nat.lt_of_lt_of_le h (Nat.pow_le_pow_right (by decide) k1)))]
/-- what is needed of the class's town -/
def XQ (σ : jS) (A : Tb) : Prop := xT σ A ∧ xW σ A ∧ xF σ A
theorem xT_fr {H : List Nat} {σ σ' : jS} {A : Tb} (f : fr H σ σ') (d : [51, 52, 53, 54, 55, 56, 61, 62, 63, 64, 65, 66].all (fun a => !H.contains a) = true) (h : xT σ A) : xT σ' A := by
  have nin : ∀ a, a ∈ [51, 52, 53, 54, 55, 56, 61, 62, 63, 64, 65, 66] → a ∉ H := fun a ha q => by
    have := List.all_eq_true.mp d a ha
    simp [q] at this
  have g : ∀ a, a ∈ [51, 52, 53, 54, 55, 56, 61, 62, 63, 64, 65, 66] → ∀ i, gI σ' a i = gI σ a i := fun a ha i => fr_I f (nin a ha) i
  obtain ⟨t1, t2, t3, t4, t5, t6, t7⟩ := h
  unfold xT
  rw [f.1]
  refine ⟨t1, ?_⟩
  rcases t1 with e | e <;> rw [e] at t2 t3 t4 t5 t6 t7 ⊢ <;> exact ⟨(g _ (by decide) _).trans t2, (g _ (by decide) _).trans t3, (g _ (by decide) _).trans t4, fun p hp => (g _ (by decide) _).trans (t5 p hp), fun t ht => ⟨(g _ (by decide) _).trans (t6 t ht).1, (g _ (by decide) _).trans (t6 t ht).2⟩, fun q hq => ⟨(g _ (by decide) _).trans (t7 q hq).1, (g _ (by decide) _).trans (t7 q hq).2⟩⟩
theorem XQ_fr {σ σ' : jS} {A : Tb} (f : fr [17, 18, 19] σ σ') (h : XQ σ A) : XQ σ' A := ⟨xT_fr f rfl h.1, xW_fr f rfl h.2.1, fun p hp => (fr_I f (by decide) p).trans (h.2.2 p hp)⟩
theorem x_oneMore {σ : jS} {A : Tb} {e q : Nat} {D : Nat → Nat → Prop} (w : wA A) (hT : tT A ≤ 8) (hX : XQ σ A) (h17 : gI σ 17 2 = nI (tT A)) (he : e < 16) (hq : q < tQ A) (q4 : tQ A ≤ 4) (hb : e.testBit q = false) (h7 : A 7 q < tP A) (h8 : A 8 q < tP A) (hn : A 7 q ≠ A 8 q) (hD : RD A D σ) : ∃ σ', f_X4_carryOneMore σ σ.2.2.1 (nI e) (nI q) = some ((), σ') ∧ fr [17, 18, 19] σ σ' ∧ gI σ' 17 2 = nI (tT A) ∧ RD A (fun e' u' => D e' u' ∨ (e' = e ||| 2 ^ q ∧ ∃ u, u < 2 ^ tT A ∧ D e u ∧ RE A (tdc A q) u u')) σ' := by
  have h16 := w.1
  obtain ⟨tx1, tx2⟩ := tdx_ok h16 h7 h8 hn
  have p8 : 2 ^ tT A ≤ 256 := Nat.pow_le_pow_right (n := 2) (by decide) hT
  have g16 : e ||| 2 ^ q < 16 := or_lt (n := 4) he (by omega)
  have gne := or_ne hb
  unfold f_X4_carryOneMore
  obtain ⟨s1, a1, a2, a3, a4⟩ := x_fillL (σ := σ) (h := 19) (v := 0) (by decide) rfl (by decide)
  have hX1 := XQ_fr (fr_mono a2 (by simp)) hX
  have hT1 := hX1.1
  have tt : σ.2.2.1 = s1.2.2.1 := (fr_T a2).symm
  have e3 : gI s1 (s1.2.2.1 + 3 + 1) q = nI (A 7 q) := (hT1.2.2.2.2.2.2 q hq).1
  have e4 : gI s1 (s1.2.2.1 + 4 + 1) q = nI (A 8 q) := (hT1.2.2.2.2.2.2 q hq).2
  have T17 : s1.2.2.1 + 4 + 1 ≠ 17 := by rcases hT1.1 with z | z <;> omega
  have at4 : f_X6_at (sI s1 17 3 (nI (A 7 q))) (rPX s1.2.2.1 4) (nI q) = some (nI (A 8 q)) := by
    rw [atT (σ := sI s1 17 3 (nI (A 7 q))) (T := s1.2.2.1) (j := 4) (n := 4) hT1.1 (by omega) (by omega), gI_ne T17, e4]
  rw [a1, bD_e, tt, bH_t (T_in hT1.1), atT (j := 3) (n := 4) hT1.1 (by omega) (by omega), bC_e, e3, bV_e, at4, bC_e, bV_e, nI_shl1 q (by omega), fa_or, bV_e]
  generalize es : sI (sI (sI s1 17 3 (nI (A 7 q))) 17 4 (nI (A 8 q))) 17 5 (nI (e ||| 2 ^ q)) = s
  have fs : fr [17, 18, 19] σ s := by
    rw [← es]
    exact fr_trans (fr_mono a2 (by simp)) (fr_trans (fr_sI _ _ _ (by simp)) (fr_trans (fr_sI _ _ _ (by simp)) (fr_sI _ _ _ (by simp))))
  have hXs := XQ_fr fs hX
  have s172 : gI s 17 2 = nI (tT A) := by rw [← es, gI_nei (by decide), gI_nei (by decide), gI_nei (by decide), a4, h17]
  have hXO : XO A (A 7 q) (A 8 q) (e ||| 2 ^ q) s := ⟨hXs.2.1, hXs.2.2, s172, by rw [← es, gI_nei (by decide), gI_nei (by decide), gI_sI], by rw [← es, gI_nei (by decide), gI_sI], by rw [← es, gI_sI]⟩
  have z19 : ∀ k, k < 41472 → rb s 19 k = false := fun k hk => rb_0 (n := 648) (fun i hi => by
    rw [← es]
    exact a3 i hi) (by omega)
  have hDs : RD A D s := fun j hj => by
    have : rb s 18 j = rb σ 18 j := by
      rw [← es]
      show rb s1 18 j = _
      exact rb_fr a2 (by decide) j
    rw [this]; exact hD j hj
  generalize eP : (fun c u' => ∃ u m, u < 2 ^ tT A ∧ D e u ∧ RU A (tdc A q) u m c u') = P
  have hP : ∀ c u c' u', P c u → stp A c u c' u' → P c' u' := by
    rw [← eP]
    rintro c u c' u' ⟨u0, m, h1, h2, h3⟩ hs
    exact ⟨u0, m + 1, h1, h2, c, u, h3, hs⟩
  have nodes : ∀ u, u < 2 ^ tT A → okN A (A 7 q) (A 8 q) u ∧ n0 u = 0 ∧ n1 u = 0 ∧ nS u = 0 ∧ nU u = u ∧ cN A (A 7 q) (A 8 q) u = tdc A q := fun u hu => by
    have k0 : n0 u = 0 := by unfold n0; omega
    have k1 : n1 u = 0 := by unfold n1; omega
    have k2 : nS u = 0 := by unfold nS; omega
    have k3 : nU u = u := by unfold nU; omega
    have kx : xN A (A 7 q) (A 8 q) u = tdx A q := by
      unfold xN tdx pl
      rw [k0, k1, k2, if_pos rfl, if_pos rfl]; omega
    exact ⟨⟨by omega, by omega, by omega, by rw [kx]; exact tx1⟩, k0, k1, k2, k3, by unfold cN; rw [kx, tx2]; rfl⟩
  have key := jloop_ex (S := Int32 × jS) (O := Unit × jS) (f := fun s => f_X4_carryOneMore_B47 s.2 (nI e) s.1) (fun u t => t.1 = nI u ∧ CRI A (A 7 q) (A 8 q) (e ||| 2 ^ q) P (fun _ => False) s t.2 (fun c' u' => c' = tdc A q ∧ u' < u ∧ D e u')) (2 ^ tT A) (fun o => fr [17, 18, 19] σ o.2 ∧ gI o.2 17 2 = nI (tT A) ∧ RD A (fun e' u' => D e' u' ∨ (e' = e ||| 2 ^ q ∧ ∃ u, u < 2 ^ tT A ∧ D e u ∧ RE A (tdc A q) u u')) o.2) (s0 := (0, s)) ⟨rfl, fr_rfl _ _, fun _ _ => rfl, fun _ h => h, fun j h1 h2 => (by rw [h1] at h2; cases h2), fun j => ⟨Or.inl, fun h => h.elim id (fun ⟨k, k1, k2, _⟩ => (by rw [k1] at k2; cases k2))⟩, fun c u h => absurd h.2.1 (Nat.not_lt_zero _)⟩ (jfuel_big (by omega)) ?_ ?_
  · obtain ⟨o, o1, o2⟩ := key
    exact ⟨o.2, o1, o2⟩
  · rintro ⟨x, t⟩ ⟨rfl, h⟩
    replace h : CRI A (A 7 q) (A 8 q) (e ||| 2 ^ q) P (fun _ => False) s t _ := h
    obtain ⟨f1, f2, f3, f4, f5, f6⟩ := h
    refine ⟨((), t), ?_, fr_trans fs (fr_mono f1 (by simp)), (f2 17 2).trans s172, fun j hj => ?_⟩
    · show f_X4_carryOneMore_B47 t (nI e) (nI (2 ^ tT A)) = _
      unfold f_X4_carryOneMore_B47 f_X4_carryOneMore_J92
      rw [f2, s172, nI_shl1 _ (by omega), if_pos (Int32.le_refl _), jw_e]
    · show rb t 18 j = true ↔ _
      rw [f5, hDs j hj]
      have all : ∀ m u c u', u < 2 ^ tT A → D e u → RU A (tdc A q) u m c u' → ∃ k, k < 41472 ∧ rb t 19 k = true ∧ cN A (A 7 q) (A 8 q) k = c ∧ nU k = u' := by
        intro m
        induction m with
        | zero =>
          rintro u c u' hu hd ⟨rfl, rfl⟩
          exact f6 _ _ ⟨rfl, hu, hd⟩
        | succ m ih =>
          rintro u c u' hu hd ⟨c2, u2, r1, r2⟩
          obtain ⟨k, k1, k2, k3, k4⟩ := ih u c2 u2 hu hd r1
          exact (f4 k k2 (z19 k k1) id).2 c u' (by rw [k3, k4]; exact r2)
      constructor
      · rintro (⟨e', u', h1, h2, h3⟩ | ⟨k, k1, k2, k3, k4⟩)
        · exact ⟨e', u', h1, Or.inl h2, h3⟩
        · have pk := (f4 k k1 k2 id).1
          rw [← eP] at pk
          obtain ⟨u, m, p1, p2, p3⟩ := pk
          have re : RE A (tdc A q) u (nU k) := ⟨m, _, p3, k3⟩
          exact ⟨e ||| 2 ^ q, nU k, RE_lt p1 re, Or.inr ⟨rfl, u, p1, p2, re⟩, k4⟩
      · rintro ⟨e', u', h1, h2 | ⟨rfl, u, h4, h5, m, c, h6, h7⟩, h3⟩
        · exact Or.inl ⟨e', u', h1, h2, h3⟩
        · obtain ⟨k, k1, k2, k3, k4⟩ := all m u c u' h4 h5 h6
          exact Or.inr ⟨k, k2, z19 k k1, by rw [k3]; exact h7, by rw [k4]; exact h3⟩
  · rintro u ⟨x, t⟩ hu ⟨rfl, h⟩
    replace h : CRI A (A 7 q) (A 8 q) (e ||| 2 ^ q) P (fun _ => False) s t _ := h
    have f2 := h.2.1
    have f5 := h.2.2.2.2.1
    have row : rb t 18 (e * 256 + u) = true ↔ D e u := by
      rw [f5]
      constructor
      · rintro (k | ⟨k, _, _, _, k4⟩)
        · exact ((RD_at hT hDs he (by omega)).mp k).2
        · have : nU k < 256 := by unfold nU; omega
          omega
      · intro k; exact Or.inl ((RD_at hT hDs he (by omega)).mpr ⟨hu, k⟩)
    refine Or.inl ?_
    show ∃ s', f_X4_carryOneMore_B47 t (nI e) (nI u) = _ ∧ _
    unfold f_X4_carryOneMore_B47 f_X4_carryOneMore_J86
    rw [f2, s172, nI_shl1 _ (by omega), if_neg (nI_ge hu (by omega)), show (256 : Int32) = nI 256 from rfl, nI_mul, nI_add, x_hasBit (by decide) rfl (show (e * 256 + u) / 64 < 64 by omega) (by decide), bC_e]
    cases hr : rb t 18 (e * 256 + u) with
    | false =>
      have nd : ¬ D e u := fun k => by rw [row.mpr k] at hr; cases hr
      rw [if_pos (show bI false = 0 from rfl), bV_e, nI_1]
      refine ⟨_, rfl, rfl, CRI_mono h fun c u' ⟨k1, k2, k3⟩ => ⟨k1, ?_, k3⟩⟩
      have : u' ≠ u := fun z => nd (by rw [← z]; exact k3)
      omega
    | true =>
      have hd := row.mp hr
      obtain ⟨ok, k0, k1, k2, k3, k4⟩ := nodes u hu
      have rem : remU A (nU u) ≤ 8 := Nat.le_trans (fa_cnt_le _ _) hT
      obtain ⟨t', r1, r2⟩ := x_carry (P := P) w (show A 7 q < 16 by omega) (show A 8 q < 16 by omega) hT g16 hP 20 0 u t rfl ok k2.symm (Or.inl (by omega)) (by rw [k4, k3, ← eP]; exact ⟨u, 0, hu, hd, rfl, rfl⟩) (XO_fr h.1 hXO)
      rw [k0, k1, k3] at r1
      rw [if_neg (show ¬ bI true = 0 by decide), show f_X4_carry 20 t 0 0 (nI u) 0 = some ((), t') from r1, bD_e, bV_e, nI_1]
      refine ⟨_, rfl, rfl, CRI_mono (CRI_step (by omega) h r2) fun c u' ⟨g1, g2, g3⟩ => ?_⟩
      by_cases y : u' = u
      · exact Or.inr ⟨by rw [g1, k4], by rw [y, k3]⟩
      · exact Or.inl ⟨g1, by omega, g3⟩
