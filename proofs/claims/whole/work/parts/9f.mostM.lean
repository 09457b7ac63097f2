/-! once: the reference's sets -/
theorem WM_W6 {τ : jS} (h : WM τ) : W6 τ := ⟨h.1, h.2.1, h.2.2.1, h.2.2.2.1, h.2.2.2.2.1, h.2.2.2.2.2.1⟩
theorem cfr_WM {τ t : jS} (h : cfr τ t) (w : WM τ) (h35 : gI t 1 35 = -1) : WM t ∧ mn t = mn τ := by
  obtain ⟨a, e⟩ := cfr_W h (WM_W6 w)
  exact ⟨⟨a.1, a.2.1, a.2.2.1, a.2.2.2.1, a.2.2.2.2.1, a.2.2.2.2.2, h35⟩, e⟩
/-- the reference's table of what was reached -/
def TBL (A : Tb) (D : Nat → Nat → Prop) (C : Nat → Bool) : Prop := ∀ i, C i = true ↔ ∃ e u, u < 2 ^ tT A ∧ D e u ∧ i = 256 * e + lfU A u
theorem TBL_cong {A : Tb} {D D' : Nat → Nat → Prop} {C : Nat → Bool} (h : TBL A D C) (hd : ∀ e u, u < 2 ^ tT A → (D e u ↔ D' e u)) : TBL A D' C := fun i => by
  rw [h i]
  constructor
  · rintro ⟨e, u, a, b, c⟩; exact ⟨e, u, a, (hd e u a).mp b, c⟩
  · rintro ⟨e, u, a, b, c⟩; exact ⟨e, u, a, (hd e u a).mpr b, c⟩
theorem lfU_256 {A : Tb} (hT : tT A ≤ 8) (u : Nat) : lfU A u < 256 := Nat.lt_of_lt_of_le (lfU_lt A u) (Nat.pow_le_pow_right (n := 2) (by decide) hT)
theorem lfU_inj {A : Tb} {u v : Nat} (h : u < 2 ^ tT A) (h2 : v < 2 ^ tT A) (e : lfU A u = lfU A v) : u = v := by rw [← lfU_lfU h, ← lfU_lfU h2, e]
theorem TBL_at {A : Tb} {D : Nat → Nat → Prop} {C : Nat → Bool} (hT : tT A ≤ 8) (h : TBL A D C) {e m : Nat} (hm : m < 256) : C (256 * e + m) = true ↔ ∃ u, u < 2 ^ tT A ∧ m = lfU A u ∧ D e u := by
  rw [h]
  constructor
  · rintro ⟨e', u, a, b, c⟩
    have := lfU_256 hT u
    have e1 : e' = e := by omega
    subst e1
    exact ⟨u, a, by omega, b⟩
  · rintro ⟨u, a, rfl, b⟩; exact ⟨e, u, a, b, rfl⟩
/-- from one set and one use: every quarrel that is left -/
theorem m_allQ {τ : jS} {A : Tb} {e u : Nat} {b : Int32} {D : Nat → Nat → Prop} {C : Nat → Bool} (hM : WM τ) (eA : mn τ = A) (w : wA A) (hT : tT A ≤ 8) (he : e < 2 ^ tQ A) (hu : u < 2 ^ tT A) (h29 : ∀ i, i < 4096 → gI τ 29 i = bI (C i)) (hD : TBL A D C) : ∃ τ', ∃ C' : Nat → Bool, jloop jFuel (fun s => f_X11_mostSet_B79 s.2 b (nI e) 1 (nI (lfU A u)) s.1) ((0 : Int32), τ) = some (.inl (1, nI (lfU A u + 1), τ')) ∧ (∀ i, i < 4096 → gI τ' 29 i = bI (C' i)) ∧ TBL A (fun e' u' => D e' u' ∨ ∃ q, q < tQ A ∧ e.testBit q = false ∧ e' = e ||| 2 ^ q ∧ RE A (tdc A q) u u') C' ∧ cfr τ τ' ∧ WM τ' := by
  have tq : tQ A ≤ 4 := by rw [← eA]; exact hM.1.2.2.2.1.2
  have e16 : e < 16 := Nat.lt_of_lt_of_le he (Nat.pow_le_pow_right (n := 2) (by decide) tq)
  have key := jloop_ex (S := Int32 × jS) (O := (Int32 × Int32 × jS) ⊕ ((Int32 × Int32 × jS) ⊕ (Int32 × jS))) (f := fun s => f_X11_mostSet_B79 s.2 b (nI e) 1 (nI (lfU A u)) s.1) (fun i s => s.1 = nI i ∧ cfr τ s.2 ∧ WM s.2 ∧ ∃ C' : Nat → Bool, (∀ i, i < 4096 → gI s.2 29 i = bI (C' i)) ∧ TBL A (fun e' u' => D e' u' ∨ ∃ q, q < i ∧ e.testBit q = false ∧ e' = e ||| 2 ^ q ∧ RE A (tdc A q) u u') C') (tQ A) (fun o => ∃ τ', ∃ C' : Nat → Bool, o = .inl (1, nI (lfU A u + 1), τ') ∧ (∀ i, i < 4096 → gI τ' 29 i = bI (C' i)) ∧ TBL A (fun e' u' => D e' u' ∨ ∃ q, q < tQ A ∧ e.testBit q = false ∧ e' = e ||| 2 ^ q ∧ RE A (tdc A q) u u') C' ∧ cfr τ τ' ∧ WM τ') (s0 := (0, τ)) ⟨rfl, cfr_rfl τ, hM, C, h29, TBL_cong hD fun e' u' _ => ⟨fun h => Or.inl h, fun h => h.elim id (fun ⟨q, hq, _⟩ => absurd hq (Nat.not_lt_zero q))⟩⟩ (jfuel_big (by omega)) ?_ ?_
  · obtain ⟨o, o1, τ', C', rfl, o2⟩ := key
    exact ⟨τ', C', o1, o2⟩
  · rintro ⟨a, t⟩ ⟨rfl, f, hm, C', c1, c2⟩
    replace f : cfr τ t := f
    replace hm : WM t := hm
    refine ⟨.inl (1, nI (lfU A u + 1), t), ?_, t, C', rfl, c1, c2, f, hm⟩
    have e8 : gI t 1 8 = nI (tQ A) := by rw [hm.1.2.2.2.1.1, (cfr_WM f hM hm.2.2.2.2.2.2).2, eA]
    show f_X11_mostSet_B79 t b (nI e) 1 (nI (lfU A u)) (nI (tQ A)) = _
    unfold f_X11_mostSet_B79 f_X11_mostSet_J112
    rw [e8, if_pos (Int32.le_refl _), bV_e, nI_1]
    rfl
  · rintro q ⟨a, t⟩ hq ⟨rfl, f, hm, C', c1, c2⟩
    replace f : cfr τ t := f
    replace hm : WM t := hm
    replace c1 : ∀ i, i < 4096 → gI t 29 i = bI (C' i) := c1
    have em : mn t = A := (cfr_WM f hM hm.2.2.2.2.2.2).2.trans eA
    have e8 : gI t 1 8 = nI (tQ A) := by rw [hm.1.2.2.2.1.1, em]
    refine Or.inl ?_
    show ∃ s', f_X11_mostSet_B79 t b (nI e) 1 (nI (lfU A u)) (nI q) = _ ∧ _
    unfold f_X11_mostSet_B79 f_X11_mostSet_J106
    rw [e8, if_neg (nI_ge hq (by omega)), m_hasN (by omega) (by omega), bC_e]
    cases hb : e.testBit q with
    | true =>
      rw [if_pos rfl, if_neg (show ¬ (1 : Int32) = 0 by decide), bV_e, nI_1]
      refine ⟨_, rfl, rfl, f, hm, C', c1, TBL_cong c2 fun e' u' _ => ⟨?_, ?_⟩⟩
      · rintro (h | ⟨q', h1, h2⟩)
        · exact Or.inl h
        · exact Or.inr ⟨q', by omega, h2⟩
      · rintro (h | ⟨q', h1, h2, h3⟩)
        · exact Or.inl h
        · by_cases y : q' = q
          · rw [y, hb] at h2; cases h2
          · exact Or.inr ⟨q', by omega, h2, h3⟩
    | false =>
      obtain ⟨t', C2, d1, d2, d3, d4, d5⟩ := m_carryOn hm em w hT e16 hq hu c1
      rw [if_neg (show ¬ false = true by decide), if_pos rfl, d1, bD_e, bV_e, nI_1]
      refine ⟨_, rfl, rfl, cfr_tr f d4, (cfr_WM d4 hm d5).1, C2, d2, fun i => ?_⟩
      rw [d3 i, c2 i]
      constructor
      · rintro (⟨e', u', h1, h2, h3⟩ | ⟨u', h1, h2⟩)
        · refine ⟨e', u', h1, ?_, h3⟩
          rcases h2 with h2 | ⟨q', h4, h5⟩
          · exact Or.inl h2
          · exact Or.inr ⟨q', by omega, h5⟩
        · exact ⟨e ||| 2 ^ q, u', RE_lt hu h1, Or.inr ⟨q, by omega, hb, rfl, h1⟩, h2⟩
      · rintro ⟨e', u', h1, h2, h3⟩
        rcases h2 with h2 | ⟨q', h4, h5, h6, h7⟩
        · exact Or.inl ⟨e', u', h1, Or.inl h2, h3⟩
        · by_cases y : q' = q
          · subst y
            exact Or.inr ⟨u', h7, by rw [h3, h6]⟩
          · exact Or.inl ⟨e', u', h1, Or.inr ⟨q', by omega, h5, h6, h7⟩, h3⟩
theorem or_ne {e q : Nat} (h : e.testBit q = false) : e ≠ e ||| 2 ^ q := fun z => by
  have := or_pow (u := e) (t := q) (k := q)
  rw [← z, h] at this
  simp at this
theorem pB_no {p : Prop} (h : ¬ p) : pB p = false := by rw [pB_not]; exact h
theorem pB_cong {p q : Prop} (h : p ↔ q) : pB p = pB q := by
  by_cases z : p
  · rw [pB_iff.mpr z, pB_iff.mpr (h.mp z)]
  · rw [pB_no z, pB_no fun y => z (h.mpr y)]
theorem m_J118 {t : jS} {b e : Nat} {x : Int32} (hb : b < 16) (he : e < 16) : f_X11_mostSet_J118 t (nI b) (nI e) x = some (.inl (nI (if x ≠ 0 ∧ fa_cnt b.testBit 16 < fa_cnt e.testBit 16 then e else b), nI (e + 1), t)) := by
  unfold f_X11_mostSet_J118 f_X11_mostSet_J138 f_X11_mostSet_J139
  have c1 := fa_cnt_le e.testBit 16
  have c2 := fa_cnt_le b.testBit 16
  by_cases z : x = 0
  · rw [if_pos z, if_neg (fun y => y.1 z), bV_e, nI_1]
  · rw [if_neg z, bits_N (by omega), bC_e, bits_N (by omega), bC_e]
    by_cases y : fa_cnt b.testBit 16 < fa_cnt e.testBit 16
    · rw [if_neg (nI_ge y (by omega)), if_pos ⟨z, y⟩, bV_e, nI_1]
    · rw [if_pos (nI_le (by omega) (by omega)), if_neg (fun q => y q.2), bV_e, nI_1]
/-- one set, whole -/
theorem m_oneSet {τ : jS} {A : Tb} {e b : Nat} {D : Nat → Nat → Prop} {C : Nat → Bool} (hM : WM τ) (eA : mn τ = A) (w : wA A) (hT : tT A ≤ 8) (he : e < 2 ^ tQ A) (hb : b < 16) (h29 : ∀ i, i < 4096 → gI τ 29 i = bI (C i)) (hD : TBL A D C) : ∃ τ', ∃ C' : Nat → Bool, jloop jFuel (fun s => f_X11_mostSet_B49 s.2.2 (nI b) (nI e) s.1 s.2.1) ((0 : Int32), (0 : Int32), τ) = some (.inl (nI (if pB (∃ u, u < 2 ^ tT A ∧ D e u) = true ∧ fa_cnt b.testBit 16 < fa_cnt e.testBit 16 then e else b), nI (e + 1), τ')) ∧ (∀ i, i < 4096 → gI τ' 29 i = bI (C' i)) ∧ TBL A (fun e' u' => D e' u' ∨ ∃ q, q < tQ A ∧ e.testBit q = false ∧ e' = e ||| 2 ^ q ∧ ∃ u, u < 2 ^ tT A ∧ D e u ∧ RE A (tdc A q) u u') C' ∧ cfr τ τ' ∧ WM τ' := by
  have tq : tQ A ≤ 4 := by rw [← eA]; exact hM.1.2.2.2.1.2
  have e16 : e < 16 := Nat.lt_of_lt_of_le he (Nat.pow_le_pow_right (n := 2) (by decide) tq)
  have key := jloop_ex (S := Int32 × Int32 × jS) (O := (Int32 × Int32 × jS) ⊕ (Int32 × jS)) (f := fun s => f_X11_mostSet_B49 s.2.2 (nI b) (nI e) s.1 s.2.1) (fun m s => s.1 = bI (pB (∃ u, u < 2 ^ tT A ∧ lfU A u < m ∧ D e u)) ∧ s.2.1 = nI m ∧ cfr τ s.2.2 ∧ WM s.2.2 ∧ ∃ C' : Nat → Bool, (∀ i, i < 4096 → gI s.2.2 29 i = bI (C' i)) ∧ TBL A (fun e' u' => D e' u' ∨ ∃ q, q < tQ A ∧ e.testBit q = false ∧ e' = e ||| 2 ^ q ∧ ∃ u, u < 2 ^ tT A ∧ lfU A u < m ∧ D e u ∧ RE A (tdc A q) u u') C') 256 (fun o => ∃ τ', ∃ C' : Nat → Bool, o = .inl (nI (if pB (∃ u, u < 2 ^ tT A ∧ D e u) = true ∧ fa_cnt b.testBit 16 < fa_cnt e.testBit 16 then e else b), nI (e + 1), τ') ∧ (∀ i, i < 4096 → gI τ' 29 i = bI (C' i)) ∧ TBL A (fun e' u' => D e' u' ∨ ∃ q, q < tQ A ∧ e.testBit q = false ∧ e' = e ||| 2 ^ q ∧ ∃ u, u < 2 ^ tT A ∧ D e u ∧ RE A (tdc A q) u u') C' ∧ cfr τ τ' ∧ WM τ') (s0 := (0, 0, τ)) ⟨?_, rfl, cfr_rfl τ, hM, C, h29, TBL_cong hD fun e' u' _ => ⟨fun h => Or.inl h, fun h => h.elim id (fun ⟨q, _, _, _, u, _, hq, _⟩ => absurd hq (Nat.not_lt_zero _))⟩⟩ (jfuel_big (by omega)) ?_ ?_
  · obtain ⟨o, o1, τ', C', rfl, o2⟩ := key
    exact ⟨τ', C', o1, o2⟩
  · show (0 : Int32) = _
    rw [pB_no (fun ⟨u, _, h, _⟩ => absurd h (Nat.not_lt_zero _))]; rfl
  · rintro ⟨x, a, t⟩ ⟨rfl, rfl, f, hm, C', c1, c2⟩
    replace f : cfr τ t := f
    replace hm : WM t := hm
    have pe : pB (∃ u, u < 2 ^ tT A ∧ lfU A u < 256 ∧ D e u) = pB (∃ u, u < 2 ^ tT A ∧ D e u) := pB_cong ⟨fun ⟨u, a, _, b⟩ => ⟨u, a, b⟩, fun ⟨u, a, b⟩ => ⟨u, a, lfU_256 hT u, b⟩⟩
    refine ⟨_, ?_, t, C', rfl, c1, TBL_cong c2 fun e' u' _ => ⟨?_, ?_⟩, f, hm⟩
    · show f_X11_mostSet_B49 t (nI b) (nI e) (bI (pB (∃ u, u < 2 ^ tT A ∧ lfU A u < 256 ∧ D e u))) (nI 256) = _
      unfold f_X11_mostSet_B49
      rw [if_pos (show (256 : Int32) ≤ nI 256 from Int32.le_refl _), m_J118 hb e16, jw_e, pe]
      have : (bI (pB (∃ u, u < 2 ^ tT A ∧ D e u)) ≠ 0) = (pB (∃ u, u < 2 ^ tT A ∧ D e u) = true) := by
        cases pB (∃ u, u < 2 ^ tT A ∧ D e u) <;> simp [bI]
      simp only [this]
    · rintro (h | ⟨q, h1, h2, h3, u, h4, _, h5⟩)
      · exact Or.inl h
      · exact Or.inr ⟨q, h1, h2, h3, u, h4, h5⟩
    · rintro (h | ⟨q, h1, h2, h3, u, h4, h5⟩)
      · exact Or.inl h
      · exact Or.inr ⟨q, h1, h2, h3, u, h4, lfU_256 hT u, h5⟩
  · rintro m ⟨x, a, t⟩ hm256 ⟨rfl, rfl, f, hm, C', c1, c2⟩
    replace f : cfr τ t := f
    replace hm : WM t := hm
    replace c1 : ∀ i, i < 4096 → gI t 29 i = bI (C' i) := c1
    have em : mn t = A := (cfr_WM f hM hm.2.2.2.2.2.2).2.trans eA
    have row : ∀ u, (D e u ∨ ∃ q, q < tQ A ∧ e.testBit q = false ∧ e = e ||| 2 ^ q ∧ ∃ u1, u1 < 2 ^ tT A ∧ lfU A u1 < m ∧ D e u1 ∧ RE A (tdc A q) u1 u) ↔ D e u := fun u => ⟨fun h => h.elim id fun ⟨q, _, h2, h3, _⟩ => absurd h3 (or_ne h2), Or.inl⟩
    have at' := TBL_at hT c2 (e := e) hm256
    refine Or.inl ?_
    show ∃ s', f_X11_mostSet_B49 t (nI b) (nI e) (bI (pB (∃ u, u < 2 ^ tT A ∧ lfU A u < m ∧ D e u))) (nI m) = _ ∧ _
    unfold f_X11_mostSet_B49
    rw [if_neg (show ¬ (256 : Int32) ≤ nI m from nI_ge (b := 256) hm256 (by decide)), show (256 : Int32) = nI 256 from rfl, nI_mul, nI_add, bG_t (jin_nI (by omega) (by omega)), ix_nI (by omega), c1 _ (by omega)]
    cases hC : C' (256 * e + m) with
    | false =>
      have none : ∀ u, u < 2 ^ tT A → lfU A u = m → ¬ D e u := fun u hu hl hd => by
        rw [at'.mpr ⟨u, hu, hl.symm, Or.inl hd⟩] at hC; cases hC
      have pe : pB (∃ u, u < 2 ^ tT A ∧ lfU A u < m ∧ D e u) = pB (∃ u, u < 2 ^ tT A ∧ lfU A u < m + 1 ∧ D e u) := pB_cong ⟨fun ⟨u, a, b, c⟩ => ⟨u, a, by omega, c⟩, fun ⟨u, a, b, c⟩ => ⟨u, a, by
        have : lfU A u ≠ m := fun y => none u a y c
        omega, c⟩⟩
      unfold f_X11_mostSet_J112
      rw [if_pos (show bI false = 0 from rfl), bV_e, nI_1, pe]
      refine ⟨_, rfl, rfl, rfl, f, hm, C', c1, TBL_cong c2 fun e' u' _ => ⟨?_, ?_⟩⟩
      · rintro (h | ⟨q, h1, h2, h3, u, h4, h5, h6⟩)
        · exact Or.inl h
        · exact Or.inr ⟨q, h1, h2, h3, u, h4, by omega, h6⟩
      · rintro (h | ⟨q, h1, h2, h3, u, h4, h5, h6, h7⟩)
        · exact Or.inl h
        · have : lfU A u ≠ m := fun y => none u h4 y h6
          exact Or.inr ⟨q, h1, h2, h3, u, h4, by omega, h6, h7⟩
    | true =>
      obtain ⟨u, hu, rfl, hd⟩ := at'.mp hC
      replace hd := (row u).mp hd
      obtain ⟨t', C2, d1, d2, d3, d4, d5⟩ := m_allQ (b := nI b) hm em w hT he hu c1 c2
      have pe : pB (∃ u', u' < 2 ^ tT A ∧ lfU A u' < lfU A u + 1 ∧ D e u') = true := pB_iff.mpr ⟨u, hu, Nat.lt_succ_self _, hd⟩
      rw [if_neg (show ¬ bI true = 0 by decide), d1]
      refine ⟨_, rfl, by rw [pe]; rfl, rfl, cfr_tr f d4, d5, C2, d2, TBL_cong d3 fun e' u' _ => ⟨?_, ?_⟩⟩
      · rintro ((h | ⟨q, h1, h2, h3, u1, h4, h5, h6⟩) | ⟨q, h1, h2, h3, h4⟩)
        · exact Or.inl h
        · exact Or.inr ⟨q, h1, h2, h3, u1, h4, by omega, h6⟩
        · exact Or.inr ⟨q, h1, h2, h3, u, hu, Nat.lt_succ_self _, hd, h4⟩
      · rintro (h | ⟨q, h1, h2, h3, u1, h4, h5, h6, h7⟩)
        · exact Or.inl (Or.inl h)
        · by_cases y : lfU A u1 = lfU A u
          · rw [lfU_inj h4 hu y] at h7
            exact Or.inr ⟨q, h1, h2, h3, h7⟩
          · exact Or.inl (Or.inr ⟨q, h1, h2, h3, u1, h4, by omega, h6, h7⟩)
theorem m_mostSet {τ : jS} {A : Tb} {u0 : Nat} (hM : WM τ) (eA : mn τ = A) (w : wA A) (hT : tT A ≤ 8) (hu0 : u0 < 2 ^ tT A) : ∃ τ', f_X11_mostSet τ (nI (lfU A u0)) = some (nI (BS A u0 (2 ^ tQ A)), τ') ∧ cfr τ τ' ∧ WM τ' := by
  have tq : tQ A ≤ 4 := by rw [← eA]; exact hM.1.2.2.2.1.2
  have p16 : 2 ^ tQ A ≤ 16 := Nat.pow_le_pow_right (n := 2) (by decide) tq
  have l0 := lfU_256 hT u0
  unfold f_X11_mostSet
  have key := jloop_ex (S := Int32 × jS) (O := Int32 × jS) (f := fun s => f_X11_mostSet_B2 s.2 (nI (lfU A u0)) s.1) (fun i s => s.1 = nI i ∧ cfr τ s.2 ∧ WM s.2 ∧ ∀ j, j < i → gI s.2 29 j = 0) 4096 (fun o => o.1 = nI (BS A u0 (2 ^ tQ A)) ∧ cfr τ o.2 ∧ WM o.2) (s0 := (0, τ)) ⟨rfl, cfr_rfl τ, hM, fun j hj => absurd hj (Nat.not_lt_zero j)⟩ (jfuel_big (by omega)) ?_ ?_
  · obtain ⟨⟨o, t⟩, o1, o2, o3⟩ := key
    replace o2 : o = nI (BS A u0 (2 ^ tQ A)) := o2
    subst o2
    exact ⟨t, o1, o3⟩
  · rintro ⟨a, t⟩ ⟨rfl, f, hm, hz⟩
    replace f : cfr τ t := f
    replace hm : WM t := hm
    replace hz : ∀ j, j < 4096 → gI t 29 j = 0 := hz
    have run : f_X11_mostSet_B2 t (nI (lfU A u0)) (nI 4096) = jw (f_X11_mostSet_J22 t (nI (lfU A u0))) := by
      unfold f_X11_mostSet_B2
      rw [if_pos (show (4096 : Int32) ≤ nI 4096 from Int32.le_refl _)]
    show ∃ o, f_X11_mostSet_B2 t (nI (lfU A u0)) (nI 4096) = _ ∧ _
    rw [run]
    unfold f_X11_mostSet_J22
    rw [bG_t (jin_nI (by omega) (by omega)), ix_nI (by omega), bV_e]
    have f1 : cfr τ (sI t 29 (lfU A u0) 1) := cfr_tr f (cfr_r (Or.inl rfl))
    have h35 : gI (sI t 29 (lfU A u0) 1) 1 35 = -1 := (gI_ne (by decide)).trans hm.2.2.2.2.2.2
    have tb0 : TBL A (fun e u => CC A u0 0 e u = true) (fun i => i == lfU A u0) := fun i => by
      rw [beq_iff_eq]
      constructor
      · rintro rfl
        exact ⟨0, u0, hu0, by unfold CC; simp, by omega⟩
      · rintro ⟨e, u, h1, h2, h3⟩
        have h2' : (e == 0 && u == u0) = true := h2
        rw [Bool.and_eq_true, beq_iff_eq, beq_iff_eq] at h2'
        rw [h3, h2'.1, h2'.2]; omega
    have key := jloop_ex (S := Int32 × Int32 × jS) (O := Int32 × jS) (f := fun s => f_X11_mostSet_B33 s.2.2 s.1 s.2.1) (fun e s => s.1 = nI (BS A u0 e) ∧ s.2.1 = nI e ∧ cfr τ s.2.2 ∧ WM s.2.2 ∧ ∃ C' : Nat → Bool, (∀ i, i < 4096 → gI s.2.2 29 i = bI (C' i)) ∧ TBL A (fun e' u => CC A u0 e e' u = true) C') (2 ^ tQ A) (fun o => o.1 = nI (BS A u0 (2 ^ tQ A)) ∧ cfr τ o.2 ∧ WM o.2) (s0 := (0, 0, sI t 29 (lfU A u0) 1)) ⟨rfl, rfl, f1, (cfr_WM f1 hM h35).1, _, fun i hi => ?_, tb0⟩ (jfuel_big (by omega)) ?_ ?_
    · obtain ⟨o, o1, o2⟩ := key
      rw [o1]
      exact ⟨o, rfl, o2⟩
    · show gI (sI t 29 (lfU A u0) 1) 29 i = _
      by_cases y : i = lfU A u0
      · subst y; rw [gI_sI, beq_self_eq_true]; rfl
      · rw [gI_nei y, hz i hi, beq_eq_false_iff_ne.mpr y]; rfl
    · rintro ⟨x, a, s⟩ ⟨rfl, rfl, f2, hm2, _⟩
      replace f2 : cfr τ s := f2
      replace hm2 : WM s := hm2
      refine ⟨(nI (BS A u0 (2 ^ tQ A)), s), ?_, rfl, f2, hm2⟩
      have e8 : gI s 1 8 = nI (tQ A) := by rw [hm2.1.2.2.2.1.1, (cfr_WM f2 hM hm2.2.2.2.2.2.2).2, eA]
      show f_X11_mostSet_B33 s (nI (BS A u0 (2 ^ tQ A))) (nI (2 ^ tQ A)) = _
      unfold f_X11_mostSet_B33 f_X11_mostSet_J146
      rw [e8, nI_shl1 _ (by omega), if_pos (Int32.le_refl _), jw_e]
    · rintro e ⟨x, a, s⟩ he ⟨rfl, rfl, f2, hm2, C', c1, c2⟩
      replace f2 : cfr τ s := f2
      replace hm2 : WM s := hm2
      replace c1 : ∀ i, i < 4096 → gI s 29 i = bI (C' i) := c1
      have em : mn s = A := (cfr_WM f2 hM hm2.2.2.2.2.2.2).2.trans eA
      have e8 : gI s 1 8 = nI (tQ A) := by rw [hm2.1.2.2.2.1.1, em]
      have bl := BS_lt A u0 e
      obtain ⟨s', C2, d1, d2, d3, d4, d5⟩ := m_oneSet (b := BS A u0 e) hm2 em w hT he (by omega) c1 c2
      refine Or.inl ?_
      show ∃ s', f_X11_mostSet_B33 s (nI (BS A u0 e)) (nI e) = _ ∧ _
      unfold f_X11_mostSet_B33
      rw [e8, nI_shl1 _ (by omega), if_neg (nI_ge he (by omega)), d1]
      have lt := CC_lt hu0 e
      refine ⟨_, rfl, ?_, rfl, cfr_tr f2 d4, d5, C2, d2, TBL_cong d3 fun e' u' _ => ?_⟩
      · show nI _ = nI (BS A u0 (e + 1))
        rw [BS]
        have : pB (∃ u, u < 2 ^ tT A ∧ CC A u0 e e u = true) = pB (∃ u, CC A u0 e e u = true) := pB_cong ⟨fun ⟨u, _, b⟩ => ⟨u, b⟩, fun ⟨u, b⟩ => ⟨u, (lt e u (by omega) b).2, b⟩⟩
        rw [this]
      · show _ ↔ nxC A (CC A u0 e) e e' u' = true
        unfold nxC
        rw [pB_iff]
        constructor
        · rintro (h | ⟨q, h1, h2, h3, u, _, h4, h5⟩)
          · exact Or.inl h
          · exact Or.inr ⟨q, h1, h2, h3, u, h4, h5⟩
        · rintro (h | ⟨q, h1, h2, h3, u, h4, h5⟩)
          · exact Or.inl h
          · exact Or.inr ⟨q, h1, h2, h3, u, (lt e u (by omega) h4).2, h4, h5⟩
  · rintro i ⟨a, t⟩ hi ⟨rfl, f, hm, hz⟩
    replace f : cfr τ t := f
    replace hm : WM t := hm
    replace hz : ∀ j, j < i → gI t 29 j = 0 := hz
    refine Or.inl ?_
    show ∃ s', f_X11_mostSet_B2 t (nI (lfU A u0)) (nI i) = _ ∧ _
    unfold f_X11_mostSet_B2
    rw [if_neg (show ¬ (4096 : Int32) ≤ nI i from nI_ge (b := 4096) hi (by decide)), bG_t (jin_nI (by omega) (by omega)), ix_nI (by omega), bV_e, bV_e, nI_1]
    have f1 : cfr τ (sI t 29 i 0) := cfr_tr f (cfr_r (Or.inl rfl))
    refine ⟨_, rfl, rfl, f1, (cfr_WM f1 hM ((gI_ne (by decide)).trans hm.2.2.2.2.2.2)).1, fun j hj => ?_⟩
    show gI (sI t 29 i 0) 29 j = 0
    by_cases y : j = i
    · subst y; exact gI_sI _ _ _ _
    · rw [gI_nei y]; exact hz j (by omega)
