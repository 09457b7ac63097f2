/-! once: the reference's queue -/
def sumR (w : Nat → Nat) : Nat → Nat
  | 0 => 0
  | n + 1 => sumR w n + w n
theorem sumR_cong {w w' : Nat → Nat} : ∀ {n : Nat}, (∀ j, j < n → w j = w' j) → sumR w n = sumR w' n
  | 0, _ => rfl
  | n + 1, h => by rw [sumR, sumR, sumR_cong (n := n) (fun j hj => h j (by omega)), h n (by omega)]
theorem sumR_ge {w : Nat → Nat} (h : ∀ j, 1 ≤ w j) {k : Nat} : ∀ n, k ≤ n → sumR w k + (n - k) ≤ sumR w n
  | 0, hk => by
    have : k = 0 := by omega
    rw [this]; exact Nat.le_refl _
  | n + 1, hk => by
    by_cases z : k = n + 1
    · rw [z]; omega
    · have := sumR_ge h (k := k) n (by omega)
      have := h n
      rw [sumR]
      omega
theorem m_turnOf {t : jS} {A : Tb} {tt p h : Nat} (hw : W6 t) (eA : mn t = A) (ht : tt < tT A) (h3 : A 3 tt = p) (h4 : A 4 tt = h) : f_X11_turnOf t (nI p) (nI h) = some (nI tt) := by
  have e2 : gI t 1 2 = nI (tT A) := by rw [← eA]; exact hw.1.2.1.1
  have t40 : tT A ≤ 40 := by rw [← eA]; exact hw.1.2.1.2
  have h16 : tP A ≤ 16 := by rw [← eA]; exact hw.1.1.2
  have hTT := hw.2.2.1
  unfold wT at hTT
  rw [eA] at hTT
  obtain ⟨_, _, p16, h16', _⟩ := hTT.1 tt ht
  rw [h3] at p16
  rw [h4] at h16'
  unfold f_X11_turnOf
  refine jloop_0 (fun i => (if tt < i then nI tt else -1, nI i)) (tT A) rfl (jfuel_big (by omega)) ?_ ?_
  · show f_X11_turnOf_B5 t (nI p) (nI h) (if tt < tT A then nI tt else -1) (nI (tT A)) = _
    unfold f_X11_turnOf_B5 f_X11_turnOf_J49
    rw [e2, if_pos (Int32.le_refl _), if_pos ht, jw_e]
  · intro i hi
    obtain ⟨q1, q2, q3, q4, q5⟩ := hTT.1 i hi
    have ji : jin (nI i) 40 = true := jin_nI (by omega) (by omega)
    show f_X11_turnOf_B5 t (nI p) (nI h) (if tt < i then nI tt else -1) (nI i) = some (.inl (if tt < i + 1 then nI tt else -1, nI (i + 1)))
    have no : i ≠ tt → (if tt < i then nI tt else (-1 : Int32)) = if tt < i + 1 then nI tt else -1 := fun hn => by
      by_cases y : tt < i
      · rw [if_pos y, if_pos (by omega)]
      · rw [if_neg y, if_neg (by omega)]
    unfold f_X11_turnOf_B5 f_X11_turnOf_J41 f_X11_turnOf_J42
    rw [e2, if_neg (nI_ge hi (by omega)), bG_t ji, ix_nI (by omega), q1, bG_t ji, q2]
    by_cases y3 : A 3 i = p
    · rw [if_pos (congrArg nI y3)]
      by_cases y4 : A 4 i = h
      · have : i = tt := hTT.2 i tt hi ht (y3.trans h3.symm) (y4.trans h4.symm)
        subst this
        rw [if_pos (congrArg nI y4), if_pos (Nat.lt_succ_self i), bV_e, nI_1]
      · rw [if_neg (fun e => y4 ((nI_eq (by omega) (by omega)).mp e)), bV_e, nI_1, no (fun e => y4 (by rw [e]; exact h4))]
    · rw [if_neg (fun e => y3 ((nI_eq (by omega) (by omega)).mp e)), bV_e, nI_1, no (fun e => y3 (by rw [e]; exact h3))]
theorem drop_tab8 : ∀ t, t < 8 → ((1 : Int32) <<< (nI t &&& 31)) ^^^ ((-1) : Int32) = nI (4294967295 - 2 ^ t) ∧ ∀ k, k < 8 → (4294967295 - 2 ^ t).testBit k = !(k == t) := by decide +kernel
theorem lfU_drop {A : Tb} {u t : Nat} (hT : tT A ≤ 8) (ht : t < tT A) : nI (lfU A u) &&& (((1 : Int32) <<< (nI t &&& 31)) ^^^ ((-1) : Int32)) = nI (lfU A (u ||| 2 ^ t)) := by
  obtain ⟨d1, d2⟩ := drop_tab8 t (by omega)
  rw [d1, fa_and]
  refine congrArg nI (Nat.eq_of_testBit_eq fun k => ?_)
  rw [Nat.testBit_and]
  unfold lfU
  rw [bm_bit, bm_bit]
  by_cases z : k < tT A
  · rw [decide_eq_true z, Bool.true_and, Bool.true_and, d2 k (by omega), or_pow]
    simp
  · rw [decide_eq_false z, Bool.false_and, Bool.false_and, Bool.false_and]
def QT (A : Tb) (c0 u0 n : Nat) (cs us : Nat → Nat) (t : jS) : Prop := gI t 1 55 = nI n ∧ ∀ j, j < n → gI t 30 j = nI (cs j) ∧ gI t 31 j = nI (lfU A (us j)) ∧ okc A (cs j) ∧ us j < 2 ^ tT A ∧ ∃ m, RU A c0 u0 m (cs j) (us j)
theorem m_addQ {A : Tb} {c0 u0 n c' u' : Nat} {cs us : Nat → Nat} {t : jS} (h : QT A c0 u0 n cs us t) (hn : n < 120000) (oc : okc A c') (hu : u' < 2 ^ tT A) (hr : ∃ m, RU A c0 u0 m c' u') : ∃ t', f_X11_tryOn t (nI c') (nI (lfU A u')) = some ((), t') ∧ QT A c0 u0 (n + 1) (up1 cs n c') (up1 us n u') t' ∧ cfr t t' ∧ (∀ i, gI t' 29 i = gI t 29 i) ∧ gI t' 1 35 = gI t 1 35 := by
  obtain ⟨h1, h2⟩ := h
  have jn : jin (nI n) 120000 = true := jin_nI hn (by omega)
  refine ⟨sI (sI (sI t 30 n (nI c')) 31 n (nI (lfU A u'))) 1 55 (nI (n + 1)), ?_, ⟨gI_sI _ _ _ _, fun j hj => ?_⟩, cfr_tr (cfr_tr (cfr_r (Or.inr (Or.inl rfl))) (cfr_r (Or.inr (Or.inr rfl)))) (cfr_1 (Or.inr rfl)), fun i => ?_, ?_⟩
  · unfold f_X11_tryOn
    rw [h1, bG_t jn, ix_nI (by omega), bV_e, gI_ne (show (1 : Nat) ≠ 30 by decide), h1, bG_t jn, ix_nI (by omega), bV_e, gI_ne (show (1 : Nat) ≠ 31 by decide), gI_ne (show (1 : Nat) ≠ 30 by decide), h1, nI_1, bV_e]
  · rw [gI_ne (show (30 : Nat) ≠ 1 by decide), gI_ne (show (30 : Nat) ≠ 31 by decide), gI_ne (show (31 : Nat) ≠ 1 by decide)]
    by_cases z : j = n
    · subst z
      rw [up1_at, up1_at]
      exact ⟨gI_sI _ _ _ _, gI_sI _ _ _ _, oc, hu, hr⟩
    · rw [up1_ne z, up1_ne z, gI_nei z, gI_nei (h := 31) z, gI_ne (show (31 : Nat) ≠ 30 by decide)]
      exact h2 j (by omega)
  · rw [gI_ne (by decide), gI_ne (by decide), gI_ne (by decide)]
  · rw [gI_nei (by decide), gI_ne (by decide), gI_ne (by decide)]
/-- the persons it is handed to, one by one -/
theorem m_hands {A : Tb} {c0 u0 n k c u e q : Nat} {cs us : Nat → Nat} {τ t : jS} (hM : W6 τ) (eA : mn τ = A) (w : wA A) (hT : tT A ≤ 8) (hf : cfr τ t) (hQ : QT A c0 u0 n cs us t) (h35 : gI t 1 35 = nI (lfU A u)) (oc : okc A c) (hu : u < 2 ^ tT A) (hne : ended A c = false) (hany : bm (mayU A u c 0) 16 ≠ 0 ∨ bm (mayU A u c 1) 16 ≠ 0) (hr : ∃ m, RU A c0 u0 m c u) (hn : ∀ m, m ≤ fa_cnt (mayU A u c (cSide c)) 16 → n + m ≤ 119999) (hk : k < 2 ^ 31) : ∃ n' cs' us' t', f_X11_carryOn_J132 t (nI e) (nI q) (nI k) (nI c) (nI (bm (mayU A u c (cSide c)) 16)) = some (.inl (nI (k + 1), t')) ∧ QT A c0 u0 n' cs' us' t' ∧ n ≤ n' ∧ (∀ j, j < n → cs' j = cs j ∧ us' j = us j) ∧ sumR (fun j => wtU A (cs' j) (us' j)) n' ≤ sumR (fun j => wtU A (cs j) (us j)) n + fa_cnt (mayU A u c (cSide c)) 16 * KB (remU A u) (optU A u (cHold c (cSide c))) ∧ (∀ t, t < tT A → u.testBit t = false → A 4 t = cHold c (cSide c) → mayU A u c (cSide c) (A 3 t) = true → ∃ l, l < n' ∧ cs' l = behQ A c (A 3 t) ∧ us' l = u ||| 2 ^ t) ∧ cfr τ t' ∧ ∀ i, gI t' 29 i = gI t 29 i := by
  have h16 := w.1
  have s2 := cSide_lt c
  have rem8 : remU A u ≤ 8 := Nat.le_trans (fa_cnt_le _ _) hT
  generalize eK : KB (remU A u) (optU A u (cHold c (cSide c))) = K at *
  unfold f_X11_carryOn_J132
  rw [bV_e, h35]
  have key := jloop_ex (S := Int32 × jS) (O := (Int32 × jS) ⊕ (Unit × jS)) (f := fun z => f_X11_carryOn_B141 z.2 (nI e) (nI q) (nI k) (nI c) (nI (bm (mayU A u c (cSide c)) 16)) (nI (lfU A u)) z.1) (fun p z => z.1 = nI p ∧ cfr τ z.2 ∧ (∀ i, gI z.2 29 i = gI t 29 i) ∧ ∃ cs' us', QT A c0 u0 (n + fa_cnt (mayU A u c (cSide c)) p) cs' us' z.2 ∧ (∀ j, j < n → cs' j = cs j ∧ us' j = us j) ∧ sumR (fun j => wtU A (cs' j) (us' j)) (n + fa_cnt (mayU A u c (cSide c)) p) ≤ sumR (fun j => wtU A (cs j) (us j)) n + fa_cnt (mayU A u c (cSide c)) p * K ∧ ∀ tt, tt < tT A → u.testBit tt = false → A 4 tt = cHold c (cSide c) → A 3 tt < p → mayU A u c (cSide c) (A 3 tt) = true → ∃ l, l < n + fa_cnt (mayU A u c (cSide c)) p ∧ cs' l = behQ A c (A 3 tt) ∧ us' l = u ||| 2 ^ tt) (tP A) (fun o => ∃ n' cs' us' t', o = .inl (nI (k + 1), t') ∧ QT A c0 u0 n' cs' us' t' ∧ n ≤ n' ∧ (∀ j, j < n → cs' j = cs j ∧ us' j = us j) ∧ sumR (fun j => wtU A (cs' j) (us' j)) n' ≤ sumR (fun j => wtU A (cs j) (us j)) n + fa_cnt (mayU A u c (cSide c)) 16 * K ∧ (∀ t, t < tT A → u.testBit t = false → A 4 t = cHold c (cSide c) → mayU A u c (cSide c) (A 3 t) = true → ∃ l, l < n' ∧ cs' l = behQ A c (A 3 t) ∧ us' l = u ||| 2 ^ t) ∧ cfr τ t' ∧ ∀ i, gI t' 29 i = gI t 29 i) (s0 := (0, t)) ⟨rfl, hf, fun _ => rfl, cs, us, hQ, fun _ _ => ⟨rfl, rfl⟩, Nat.le_add_right _ _, fun tt _ _ _ h => absurd h (Nat.not_lt_zero _)⟩ (jfuel_big (by omega)) ?_ ?_
  · obtain ⟨o, o1, n', cs', us', t', rfl, o2⟩ := key
    exact ⟨n', cs', us', t', o1, o2⟩
  · rintro ⟨a, z⟩ ⟨rfl, f, h29, cs', us', q1, q2, q3, q4⟩
    replace f : cfr τ z := f
    obtain ⟨wz, ez⟩ := cfr_W f hM
    have cm := cnt_mono (mayU A u c (cSide c)) (a := tP A) (b := 16) h16
    have ctail : fa_cnt (mayU A u c (cSide c)) 16 = fa_cnt (mayU A u c (cSide c)) (tP A) := cnt_tail h16 (fun p hp _ => by
      cases hm : mayU A u c (cSide c) p with
      | false => rfl
      | true =>
        have := mayP_lt (mayU_iff.mp hm).2
        omega)
    refine ⟨.inl (nI (k + 1), z), ?_, _, cs', us', z, rfl, q1, Nat.le_add_right _ _, q2, by rw [ctail]; exact q3, fun tt t1 t2 t3 t4 => q4 tt t1 t2 t3 (mayP_lt (mayU_iff.mp t4).2) t4, f, h29⟩
    show f_X11_carryOn_B141 z (nI e) (nI q) (nI k) (nI c) _ (nI (lfU A u)) (nI (tP A)) = _
    unfold f_X11_carryOn_B141 f_X11_carryOn_J201
    have e0 : gI z 1 0 = nI (tP A) := by rw [← eA, ← ez]; exact wz.1.1.1
    rw [e0, if_pos (Int32.le_refl _), bV_e, nI_1, jw_e]
  · rintro p ⟨a, z⟩ hp ⟨rfl, f, h29, cs', us', q1, q2, q3, q4⟩
    replace f : cfr τ z := f
    replace h29 : ∀ i, gI z 29 i = gI t 29 i := h29
    replace q1 : QT A c0 u0 (n + fa_cnt (mayU A u c (cSide c)) p) cs' us' z := q1
    obtain ⟨wz, ez⟩ := cfr_W f hM
    have e0 : gI z 1 0 = nI (tP A) := by rw [← eA, ← ez]; exact wz.1.1.1
    refine Or.inl ?_
    show ∃ s', f_X11_carryOn_B141 z (nI e) (nI q) (nI k) (nI c) (nI (bm (mayU A u c (cSide c)) 16)) (nI (lfU A u)) (nI p) = _ ∧ _
    unfold f_X11_carryOn_B141 f_X11_carryOn_J195
    rw [e0, if_neg (nI_ge hp (by omega))]
    cases hm : mayU A u c (cSide c) p with
    | false =>
      rw [m_hasF (by decide) (by omega) hm, bC_e, if_pos rfl, bV_e, nI_1]
      refine ⟨_, rfl, rfl, f, h29, cs', us', by rw [fa_cnt_no hm]; exact q1, q2, by rw [fa_cnt_no hm]; exact q3, fun tt t1 t2 t3 t4 t5 => ?_⟩
      rw [fa_cnt_no hm]
      by_cases y : A 3 tt = p
      · rw [y, hm] at t5; cases t5
      · exact q4 tt t1 t2 t3 (by omega) t5
    | true =>
      obtain ⟨hO, hmP⟩ := mayU_iff.mp hm
      obtain ⟨tt, t1, t2, t3, t4⟩ := owU_iff.mp hO
      have hst : stp A c u (behQ A c p) (u ||| 2 ^ tt) := ⟨hne, hany, Or.inr ⟨tt, t1, t2, t4, by rw [t3]; exact hm, by rw [t3], rfl⟩⟩
      have hr' : ∃ m, RU A c0 u0 m (behQ A c p) (u ||| 2 ^ tt) := by
        obtain ⟨m, hm'⟩ := hr
        exact ⟨m + 1, c, u, hm', hst⟩
      have cm := cnt_mono (mayU A u c (cSide c)) (a := p + 1) (b := 16) (by omega)
      rw [fa_cnt_yes hm] at cm
      have hlim := hn _ cm
      obtain ⟨z2, a1, a2, a3, a4, a5⟩ := m_addQ q1 (by omega) (behQ_ok w oc hmP) (or_lt hu t1) hr'
      have bq : f_X11_behind z (nI c) (nI p) = some (nI (behQ A c p)) := by
        have := m_behindQ wz.1 oc.1 (show p < 16 by omega)
        rw [ez, eA] at this
        exact this
      rw [m_hasT (by decide) (by omega) hm, bC_e, if_neg (show ¬ (1 : Int32) = 0 by decide), bq, bC_e, m_side oc.1, bC_e, m_holder oc.1 s2, bC_e, m_turnOf wz (ez.trans eA) t1 t3 t4, bC_e, lfU_drop hT t1, a1, bD_e, bV_e, nI_1]
      have wc := wt_child w rem8 oc t1 t2 t4
      rw [t3, eK] at wc
      refine ⟨_, rfl, rfl, cfr_tr f a3, fun i => (a4 i).trans (h29 i), up1 cs' (n + fa_cnt (mayU A u c (cSide c)) p) (behQ A c p), up1 us' (n + fa_cnt (mayU A u c (cSide c)) p) (u ||| 2 ^ tt), by rw [fa_cnt_yes hm]; exact a2, fun j hj => ?_, ?_, fun t' x1 x2 x3 x4 x5 => ?_⟩
      · rw [up1_ne (by omega), up1_ne (by omega)]; exact q2 j hj
      · rw [fa_cnt_yes hm, ← Nat.add_assoc, sumR, up1_at, up1_at]
        have : sumR (fun j => wtU A (up1 cs' (n + fa_cnt (mayU A u c (cSide c)) p) (behQ A c p) j) (up1 us' (n + fa_cnt (mayU A u c (cSide c)) p) (u ||| 2 ^ tt) j)) (n + fa_cnt (mayU A u c (cSide c)) p) = sumR (fun j => wtU A (cs' j) (us' j)) (n + fa_cnt (mayU A u c (cSide c)) p) := sumR_cong fun j hj => by
          show wtU A (up1 cs' _ _ j) (up1 us' _ _ j) = wtU A (cs' j) (us' j)
          rw [up1_ne (by omega), up1_ne (by omega)]
        rw [this, Nat.add_mul, Nat.one_mul]
        omega
      · rw [fa_cnt_yes hm]
        by_cases y : A 3 t' = p
        · have : t' = tt := w.2.2.2.2 t' tt x1 t1 (y.trans t3.symm) (x3.trans t4.symm)
          subst this
          exact ⟨n + fa_cnt (mayU A u c (cSide c)) p, by omega, by rw [up1_at, y], up1_at _ _ _⟩
        · obtain ⟨l, l1, l2, l3⟩ := q4 t' x1 x2 x3 (by omega) x5
          exact ⟨l, by omega, by rw [up1_ne (by omega)]; exact l2, by rw [up1_ne (by omega)]; exact l3⟩
