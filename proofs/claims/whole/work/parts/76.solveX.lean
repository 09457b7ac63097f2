/-! the class solves -/
def rI0 (v : Nat) : Int32 := if v = 0 then -1 else nI (v - 1)
def tmX (A : Tb) (sc : Nat) (x : Nat) : Bool := stN A (cv A x) == 1 || (sc == 1 && stN A (cv A x) == 2)
theorem st1_ended {A : Tb} {c : Nat} : stN A c = 1 ↔ ended A c = true := by
  unfold stN
  cases ended A c with
  | true => simp
  | false =>
    simp only [Bool.false_eq_true, if_false]
    constructor
    · intro h; split at h <;> cases h
    · intro h; cases h
theorem st_lt3 (A : Tb) (c : Nat) : stN A c < 3 := by unfold stN; split; decide; split <;> decide
/-- all that solving leaves -/
def SR (A : Tb) (start : Nat) (tm pc : Nat → Bool) (lm n m : Nat) (L Q nd : Nat → Nat) (σ : jS) : Prop :=
  (n ≤ 6272 ∧ gI σ 4 1 = nI n ∧ gI σ 4 2 = nI m ∧ 0 < n ∧ L 0 = start ∧ m ≤ 6272) ∧
  (∀ j, j < n → okx A (L j) ∧ gI σ 12 j = nI (L j)) ∧ (∀ j l, j < n → l < n → L j = L l → j = l) ∧
  (∀ j, 0 < j → j < n → ∃ l, l < j ∧ scX A (L l) (L j) = true) ∧ (∀ x y, vL n L x → scX A x y = true → vL n L y) ∧
  FX (vL n L) tm pc (scX A) nd ∧
  ((∀ c, vL n L c → gI σ 14 c = if nd c = 0 then -1 else nI (nd c)) ∧ ∀ c, c < 6272 → ¬ vL n L c → gI σ 14 c = 0) ∧
  ((∀ j, j < m → gI σ 13 j = nI (Q j) ∧ vL n L (Q j) ∧ nd (Q j) ≠ 0) ∧ (∀ j l, j < m → l < m → Q j = Q l → j = l) ∧ ∀ x, vL n L x → nd x ≠ 0 → ∃ j, j < m ∧ Q j = x) ∧
  (∀ a, a < 16 → gI σ 16 a = nI (bm (fun b => bex n fun l => ended A (cv A (L l)) && (hs A (x0 (L l)) == a && hs A (x1 (L l)) == b)) 16)) ∧
  (gI σ 4 3 = if bex n (fun l => stN A (cv A (L l)) == 2) = true then 1 else 0) ∧
  (∀ c, c < 6272 → ∃ v, v ≤ lm ∧ gI σ 15 c = nI v) ∧ ∀ c, vL n L c → nd c ≤ 6272
theorem x_neededAt {σ : jS} {x v : Nat} (hx : x < 6272) (hv : v ≤ 100000) (h : gI σ 14 x = if v = 0 then -1 else nI v) : f_X0_neededAt σ (nI x) = some (rI0 v) := by
  unfold f_X0_neededAt rI0
  rw [at14 hx, bC_e, h]
  by_cases z : v = 0
  · rw [if_pos z, if_pos z]; rfl
  · rw [if_neg z, if_neg z, show (1 : Int32) = nI 1 from rfl, nI_sub (by omega), if_neg]
    intro e
    exact nI_pos (n := v - 1) (by omega) (Int32.lt_trans e (by decide))
def ndI (σ : jS) (c : Nat) : Nat := if gI σ 14 c = 1 then 1 else 0
theorem ndI_le (σ : jS) (c : Nat) : ndI σ c ≤ 1 := by unfold ndI; split <;> omega
theorem x_phase2 {A : Tb} {start : Nat} {tm pc : Nat → Bool} {lm n m : Nat} {L Q : Nat → Nat} {σ : jS} {pI : Int32} (w : wA A) (hW : xW σ A) (h : SP A start tm lm n m n n L Q σ) (cl : ∀ l y, l < n → scX A (L l) y = true → vL n L y) (hE : ∀ c, tm c = false → ended A (cv A c) = false) (hpI : ∀ x, x < 6272 → (nI (x % 2) = pI ↔ pc x = true)) (hlm : lm < 2 ^ 31) : ∃ nd q len σ', f_X0_solve_J49 σ (nI start) pI = some (rI0 (nd start), σ') ∧ SR A start tm pc lm n len L q nd σ' ∧ lfr σ σ' := by
  obtain ⟨⟨a1, a2, a3, a4, a5⟩, b, c, d, ⟨e1, e2⟩, ⟨f1, f2, f3⟩, g, u, v, x⟩ := h
  have hV : ∀ c, vL n L c → okx A c := fun c hc => by
    obtain ⟨j, j1, j2⟩ := hc
    rw [← j2]; exact (b j j1).1
  have hV6 : ∀ c, vL n L c → c < 6272 := fun c hc => (hV c hc).1
  have clV : ∀ x y, vL n L x → scX A x y = true → vL n L y := fun x y hx hs => by
    obtain ⟨j, j1, j2⟩ := hx
    exact cl j y j1 (by rw [j2]; exact hs)
  have n14 : ∀ c, vL n L c → (tm c = true → gI σ 14 c = 1) ∧ (tm c = false → gI σ 14 c = -1) := fun c hc => by
    obtain ⟨j, j1, j2⟩ := hc
    rw [← j2, e1 j j1]
    refine ⟨fun ht => by rw [if_pos ⟨j1, ht⟩], fun ht => by rw [if_neg (fun z => by rw [ht] at z; cases z.2)]⟩
  have nd0 : ∀ c, vL n L c → (ndI σ c = 1 ↔ tm c = true) ∧ (ndI σ c = 0 ↔ tm c = false) := fun c hc => by
    unfold ndI
    cases ht : tm c with
    | true => rw [(n14 c hc).1 ht]; simp
    | false => rw [(n14 c hc).2 ht]; simp
  have m6 : m ≤ 6272 := pigeon 6272 m Q (fun j hj => by
    obtain ⟨_, l, _, l2, l3, _⟩ := f1 j hj
    rw [l3]; exact (b l l2).1.1) (fun j l hj hl e => f2 j l hj hl e)
  have start2 : P2 A (vL n L) tm pc lm (ndI σ) Q m 0 (fun _ _ => false) σ := by
    refine ⟨BI_start (fun j hj => ?_) f2 (fun x hx h0 => ?_) (fun x hx => ((nd0 x hx).1).symm) (fun x hx => ndI_le σ x), a3, fun j hj => (f1 j hj).1, fun c' hc' => ?_, fun c' hc' hv => e2 c' hc' (fun j hj e => hv ⟨j, hj, e⟩), fun x' hx' h0 hst => ?_, x, fun j hj => by have := ndI_le σ (Q j); omega⟩
    · obtain ⟨_, l, l1, l2, l3, l4⟩ := f1 j hj
      have : vL n L (Q j) := ⟨l, l2, l3.symm⟩
      exact ⟨this, (nd0 _ this).1.mpr (by rw [l3]; exact l4)⟩
    · have ht : tm x = true := by
        cases hb : tm x with
        | true => rfl
        | false => exact absurd ((nd0 x hx).2.mpr hb) h0
      obtain ⟨l, l1, l2⟩ := hx
      obtain ⟨j, j1, j2⟩ := f3 l l1 l1 (by rw [l2]; exact ht)
      exact ⟨j, j1, j2.trans l2⟩
    · cases ht : tm c' with
      | true => rw [(n14 c' hc').1 ht, (nd0 c' hc').1.mpr ht]; rfl
      | false => rw [(n14 c' hc').2 ht, (nd0 c' hc').2.mpr ht]; rfl
    · obtain ⟨l, l1, l2⟩ := hx'
      rw [← l2] at hst ⊢
      rw [g l l1 l1, ← cnt_scX w (b l l1).1 hst]
      exact congrArg nI (fa_cnt_cong fun y _ => by simp)
  unfold f_X0_solve_J49
  have key := jloop_inv (f := fun s => f_X0_solve_B52 s.2 (nI start) pI s.1) (fun mz t => ∃ i nd q len dn, t.1 = nI i ∧ i ≤ len ∧ len ≤ 6272 ∧ mz = 6272 - i ∧ P2 A (vL n L) tm pc lm nd q len i dn t.2 ∧ (∀ p, i < len → dn p (q i) = false) ∧ lfr σ t.2) (fun (o : Int32 × jS) => ∃ nd q len, o.1 = rI0 (nd start) ∧ SR A start tm pc lm n len L q nd o.2 ∧ lfr σ o.2) ?_ jFuel 6272 (0, σ) ⟨0, _, Q, m, _, rfl, Nat.zero_le _, m6, rfl, start2, fun _ _ => rfl, lfr_rfl _⟩ (jfuel_big (by omega))
  · obtain ⟨o, o1, nd, q, len, o2, o3, o4⟩ := key
    exact ⟨nd, q, len, o.2, by rw [o1, ← o2], o3, o4⟩
  · rintro mz ⟨ti, t⟩ ⟨i, nd, q, len, dn, rfl, il, l6, rfl, hP, hdn, hfr⟩
    replace hP : P2 A (vL n L) tm pc lm nd q len i dn t := hP
    replace hfr : lfr σ t := hfr
    have i6 : i ≤ 6272 := by omega
    have ndb : ∀ c, vL n L c → nd c ≤ 6272 := fun c hc => by
      rcases Nat.eq_zero_or_pos (nd c) with z | z
      · omega
      · obtain ⟨j, j1, j2⟩ := hP.1.2.2.1 c hc (by omega)
        have := hP.2.2.2.2.2.2.2 j j1
        rw [j2] at this; omega
    have l6' : len ≤ 6272 := l6
    rcases Nat.lt_or_ge i len with z | z
    · left
      have hq6 := hV6 _ (hP.1.1 i z).1
      obtain ⟨nd2, q2, len2, dn2, t2, u1, u2, u3, u4, u5, u6, u7⟩ := x_lookBack w (lfr_W hfr hW) hP hV (fun c _ => hE c) hpI hlm z (fun p => hdn p z)
      have qi : q2 i = q i := u3 i z
      have l62 : len2 ≤ 6272 := pigeon 6272 len2 q2 (fun j hj => hV6 _ (u2.1.1 j hj).1) (fun j l hj hl e => u2.1.2.1 j l hj hl e)
      refine ⟨(nI (i + 1), t2), 6272 - (i + 1), ?_, by omega, i + 1, nd2, q2, len2, dn2, rfl, by omega, l62, rfl, ?_, ?_, lfr_tr hfr u6⟩
      · show f_X0_solve_B52 t (nI start) pI (nI i) = _
        unfold f_X0_solve_B52
        rw [hP.2.1, if_neg (nI_ge z (by omega)), if_neg (show ¬ (6272 : Int32) ≤ nI i from nI_ge (b := 6272) (by omega) (by decide)), at13 (by omega), bC_e, hP.2.2.1 i z, u1, bD_e, bV_e, nI_1]
      · obtain ⟨B, r⟩ := u2
        exact ⟨BI_next B (by omega) (fun p hp hs => by rw [qi] at hs ⊢; exact u5 p hp hs), r⟩
      · intro p hp
        cases hb : dn2 p (q2 (i + 1)) with
        | false => rfl
        | true =>
          obtain ⟨_, j, j1, j2, j3⟩ := u2.1.2.2.2.2.2.1 _ _ hb
          have := u2.1.2.1 (i + 1) j hp j2 j3
          omega
    · right
      have : i = len := by omega
      subst this
      have vs0 : vL n L start := ⟨0, a4, a5⟩
      refine ⟨(rI0 (nd start), t), ?_, nd, q, i, rfl, ⟨⟨a1, ?_, hP.2.1, a4, a5, l6⟩, fun j hj => ⟨(b j hj).1, ?_⟩, c, d, clV, BI_end hP.1 (fun x y hx _ hs => clV x y hx hs), ⟨hP.2.2.2.1, hP.2.2.2.2.1⟩, ⟨fun j hj => ⟨hP.2.2.1 j hj, hP.1.1 j hj⟩, hP.1.2.1, hP.1.2.2.1⟩, fun a ha => ?_, ?_, hP.2.2.2.2.2.2.1, ndb⟩, hfr⟩
      · show f_X0_solve_B52 t (nI start) pI (nI i) = _
        unfold f_X0_solve_B52 f_X0_solve_J89
        rw [hP.2.1, if_pos (Int32.le_refl _), x_neededAt (hV6 _ vs0) (by have := ndb _ vs0; omega) (hP.2.2.2.1 _ vs0), bC_e, jw_e]
      · exact (hfr.2 1 (by decide)).trans a2
      · exact (fr_I hfr.1 (by decide) _).trans (b j hj).2
      · exact (fr_I hfr.1 (by decide) _).trans (u a ha)
      · exact (hfr.2 3 (by decide)).trans v
/-! the class spreads, whole -/
theorem x_spread {A : Tb} {start sc lm n m i : Nat} {L Q : Nat → Nat} {σ : jS} (w : wA A) (hW : xW σ A) (hF : xF σ A) (hsc : sc < 2) (h : SP A start (tmX A sc) lm n m i i L Q σ) (hi : i < n) (h16 : 16 ≤ lm) : ∃ n' m' L' Q' σ', f_X0_spread σ (nI (L i)) (nI sc) = some ((), σ') ∧ SP A start (tmX A sc) lm n' m' (i + 1) (i + 1) L' Q' σ' ∧ n ≤ n' ∧ (∀ j, j < n → L' j = L j) ∧ (∀ y, scX A (L i) y = true → ∃ j, j < n' ∧ L' j = y) ∧ gfr σ σ' := by
  have ok := (h.2.1 i hi).1
  have hx6 := ok.1
  have hst := x_howIs w hW hF ok
  have st3 := st_lt3 A (cv A (L i))
  have hh0 := hs_lt w ok.2.1
  have hh1 := hs_lt w ok.2.2.1
  unfold f_X0_spread
  rw [hst, bC_e, x_onwardOf w hW ok, bC_e, x_bc64 (bm56 _), bC_e, dX_max, put15 hx6, bD_e]
  -- after the row of ways is written
  have g5 : gfr σ (sI σ 15 (L i) (nI (dX A (L i)))) := gfr_r (by decide)
  have o15 : ∀ (s : jS), (∀ j, gI s 15 j = gI (sI σ 15 (L i) (nI (dX A (L i)))) 15 j) → ∀ j, gI s 15 j = if j = L i then nI (dX A (L i)) else gI σ 15 j := fun s hs j => by
    rw [hs]
    by_cases z : j = L i
    · subst z; rw [gI_sI, if_pos rfl]
    · rw [gI_nei z, if_neg z]
  have stop : ∀ (s : jS) (q : Nat), stN A (cv A (L i)) ≠ 0 → f_X0_spread_J116 s (nI (L i)) (nI (stN A (cv A (L i)))) (lN q) = some ((), s) := fun s q h0 => by
    unfold f_X0_spread_J116
    rw [if_neg (fun e => h0 ((nI_eq0 (by omega)).mp e))]
  have nosc : stN A (cv A (L i)) ≠ 0 → ∀ y, scX A (L i) y = true → False := fun h0 y hy => h0 (scX_iff.mp hy).1
  by_cases s1 : stN A (cv A (L i)) = 1
  · have he := st1_ended.mp s1
    have ht : tmX A sc (L i) = true := by unfold tmX; rw [s1]; rfl
    have hW5 := gfr_W g5 hW
    have xh0 := x_holder hW5 ok (s := 0) (by decide)
    have xh1 := x_holder hW5 ok (s := 1) (by decide)
    generalize es : sI (sI σ 15 (L i) (nI (dX A (L i)))) 16 (hs A (x0 (L i))) (gI σ 16 (hs A (x0 (L i))) ||| ((1 : Int32) <<< (nI (hs A (x1 (L i))) &&& 31))) = s
    have gs : gfr σ s := by rw [← es]; exact gfr_tr g5 (gfr_r (by decide))
    have S1 := x_count h w hi h16 (s := s) (fun a j h1 h2 h3 => by rw [← es, gI_ne h2, gI_ne h1]) (o15 s (fun j => by rw [← es, gI_ne (by decide)])) (by rw [← es, gI_ne (by decide), gI_ne (by decide), if_neg (by omega)]) (fun a ha => by
      by_cases z : hs A (x0 (L i)) = a
      · subst z
        rw [if_pos ⟨he, rfl⟩, ← es, gI_sI, h.2.2.2.2.2.2.2.1 _ hh0, nI_or1 _ hh1]
      · rw [if_neg (fun e => z e.2), ← es, gI_nei (fun e => z e.symm), gI_ne (by decide)])
    obtain ⟨σ', t1, t2, t3⟩ := x_settleT S1 hi ht
    rw [if_pos (show nI (stN A (cv A (L i))) = 1 from congrArg nI s1), show f_X0_holder (sI σ 15 (L i) (nI (dX A (L i)))) (nI (L i)) 0 = some (nI (hs A (x0 (L i)))) from xh0, bC_e, at16 hh0, bC_e, show f_X0_holder (sI σ 15 (L i) (nI (dX A (L i)))) (nI (L i)) 1 = some (nI (hs A (x1 (L i)))) from xh1, bC_e, gI_ne (show (16 : Nat) ≠ 15 by decide), put16 hh0, bD_e, es, t1, bD_e, stop _ _ (by omega)]
    exact ⟨n, m + 1, L, _, σ', rfl, t2, Nat.le_refl _, fun _ _ => rfl, fun y hy => (nosc (by omega) y hy).elim, gfr_tr gs t3⟩
  · rw [if_neg (show ¬ nI (stN A (cv A (L i))) = 1 from fun e => s1 ((nI_eq (b := 1) (by omega) (by decide)).mp e))]
    have he : ended A (cv A (L i)) = false := by
      cases hb : ended A (cv A (L i)) with
      | false => rfl
      | true => exact absurd (st1_ended.mpr hb) s1
    by_cases s2 : stN A (cv A (L i)) = 2
    · generalize es : sI (sI σ 15 (L i) (nI (dX A (L i)))) 4 3 1 = s
      have gs : gfr σ s := by rw [← es]; exact gfr_tr g5 (gfr_4 (by omega))
      have S1 := x_count h w hi h16 (s := s) (fun a j h1 h2 h3 => by rw [← es, gI_sIn h3, gI_ne h1]) (o15 s (fun j => by rw [← es, gI_ne (by decide)])) (by rw [← es, gI_sI, if_pos s2]) (fun a ha => by
        rw [if_neg (fun e => by rw [he] at e; cases e.1), ← es, gI_ne (by decide), gI_ne (by decide)])
      rw [if_pos (show nI (stN A (cv A (L i))) = 2 from congrArg nI s2), bV_e, stop _ _ (by omega)]
      have : sc = 0 ∨ sc = 1 := by omega
      rcases this with z | z
      · have ht : tmX A sc (L i) = false := by unfold tmX; rw [s2, z]; rfl
        rw [if_pos (show nI sc = 0 from congrArg nI z)]
        exact ⟨n, m, L, Q, s, rfl, x_skipT S1 hi ht, Nat.le_refl _, fun _ _ => rfl, fun y hy => (nosc (by omega) y hy).elim, gs⟩
      · have ht : tmX A sc (L i) = true := by unfold tmX; rw [s2, z]; rfl
        obtain ⟨σ', t1, t2, t3⟩ := x_settleT S1 hi ht
        rw [if_neg (show ¬ nI sc = 0 by rw [z]; decide), t1, bD_e, stop _ _ (by omega)]
        exact ⟨n, m + 1, L, _, σ', rfl, t2, Nat.le_refl _, fun _ _ => rfl, fun y hy => (nosc (by omega) y hy).elim, gfr_tr gs t3⟩
    · have s0 : stN A (cv A (L i)) = 0 := by omega
      have ht : tmX A sc (L i) = false := by unfold tmX; rw [s0]; simp
      have S1 := x_skipT (x_count h w hi h16 (s := sI σ 15 (L i) (nI (dX A (L i)))) (fun a j h1 h2 h3 => gI_ne h1) (o15 _ (fun j => rfl)) (by rw [gI_ne (by decide), if_neg s2]) (fun a ha => by
        rw [if_neg (fun e => by rw [he] at e; cases e.1), gI_ne (by decide)])) hi ht
      -- the loop over the spots
      have loop : ∀ n1 L1 t, SP A start (tmX A sc) lm n1 m (i + 1) (i + 1) L1 Q t → n ≤ n1 → (∀ j, j < n → L1 j = L j) → (bm (ows A (L i) (L i % 2)) 56 = 0 → ∃ j, j < n1 ∧ L1 j = flp (L i)) → gfr σ t → ∃ n' m' L' Q' σ', f_X0_spread_J116 t (nI (L i)) (nI (stN A (cv A (L i)))) (lN (bm (ows A (L i) (L i % 2)) 56)) = some ((), σ') ∧ SP A start (tmX A sc) lm n' m' (i + 1) (i + 1) L' Q' σ' ∧ n ≤ n' ∧ (∀ j, j < n → L' j = L j) ∧ (∀ y, scX A (L i) y = true → ∃ j, j < n' ∧ L' j = y) ∧ gfr σ σ' := by
        intro n1 L1 t hS hn hL hpass hg
        unfold f_X0_spread_J116
        rw [if_pos (show nI _ = 0 from congrArg nI s0), x_bc64 (bm56 _), bC_e]
        have key := bitloop (f := fun s => f_X0_spread_B128 s.2.2 (nI (L i)) s.1 s.2.1) (fun mk t => ∃ n1 L1, SP A start (tmX A sc) lm n1 m (i + 1) (i + 1) L1 Q t ∧ n ≤ n1 ∧ (∀ j, j < n → L1 j = L j) ∧ (bm (ows A (L i) (L i % 2)) 56 = 0 → ∃ j, j < n1 ∧ L1 j = flp (L i)) ∧ gfr σ t ∧ (∀ d, mk.testBit d = true → d < 56 ∧ ows A (L i) (L i % 2) d = true) ∧ ∀ d, d < 56 → ows A (L i) (L i % 2) d = true → mk.testBit d = false → ∃ j, j < n1 ∧ L1 j = afx (L i) d) (fun o => ∃ n' L', SP A start (tmX A sc) lm n' m (i + 1) (i + 1) L' Q o.2 ∧ n ≤ n' ∧ (∀ j, j < n → L' j = L j) ∧ (∀ y, scX A (L i) y = true → ∃ j, j < n' ∧ L' j = y) ∧ gfr σ o.2) ?_ ?_ (bm_lt (ows A (L i) (L i % 2)) 56) (s0 := t) ⟨n1, L1, hS, hn, hL, hpass, hg, fun d hd => by rw [bm_bit] at hd; simpa using hd, fun d hd ho hm => by
          rw [bm_bit, decide_eq_true hd, ho] at hm; cases hm⟩
        · obtain ⟨o, a1, n', L', a2⟩ := key
          exact ⟨n', m, L', Q, o.2, a1, a2⟩
        · rintro t ⟨n1, L1, c1, c2, c3, c4, c5, c6, c7⟩
          refine ⟨((), t), ?_, n1, L1, c1, c2, c3, fun y hy => ?_, c5⟩
          · show f_X0_spread_B128 t (nI (L i)) 0 0 = _
            unfold f_X0_spread_B128 f_X0_spread_J162
            rw [if_pos (show (0 : Int32) ≤ 0 by decide), jw_e]
          · obtain ⟨_, ⟨z, e⟩ | ⟨d, d1, d2, e⟩⟩ := scX_iff.mp hy
            · rw [e]; exact c4 z
            · rw [e]; exact c7 d d1 d2 (Nat.zero_testBit d)
        · rintro mk kk nn t hm hk hn0 hn64 hnn ⟨n1, L1, c1, c2, c3, c4, c5, c6, c7⟩
          obtain ⟨k56, kow⟩ := c6 kk hk.1
          have oy := (afx_ok w ok kow).1
          have hsc1 : scX A (L i) (afx (L i) kk) = true := scX_iff.mpr ⟨s0, Or.inr ⟨kk, k56, kow, rfl⟩⟩
          obtain ⟨n2, L2, t2, u1, u2, u3, u4, u5, u6⟩ := x_comeTo c1 (by omega) (by omega) oy ⟨i, by omega, by rw [c3 i hi]; exact hsc1⟩
          refine ⟨t2, ?_, n2, L2, u2, by omega, fun j hj => (u4 j (by omega)).trans (c3 j hj), fun z => ?_, gfr_tr c5 u6, fun d hd => ?_, fun d d1 d2 d3 => ?_⟩
          · show f_X0_spread_B128 t (nI (L i)) (lN mk) (nI nn) = _
            unfold f_X0_spread_B128
            rw [if_neg (nI_nle hn0 (by omega)), x_lowest hk (Nat.lt_trans hm (by decide)), bC_e, x_after hx6, bC_e, u1, bD_e, low_dec hk (Nat.lt_trans hm (by decide)), bV_e, bV_e]
          · obtain ⟨j, j1, j2⟩ := c4 z
            exact ⟨j, by omega, (u4 j j1).trans j2⟩
          · rw [low_drop hk d, Bool.and_eq_true] at hd
            exact c6 d hd.1
          · by_cases z : d = kk
            · subst z; exact u5
            · rw [low_drop hk d, decide_eq_true z, Bool.and_true] at d3
              obtain ⟨j, j1, j2⟩ := c7 d d1 d2 d3
              exact ⟨j, by omega, (u4 j j1).trans j2⟩
      rw [if_neg (show ¬ nI (stN A (cv A (L i))) = 2 from fun e => s2 ((nI_eq (b := 2) (by omega) (by decide)).mp e))]
      by_cases z : bm (ows A (L i) (L i % 2)) 56 = 0
      · have hsc1 : scX A (L i) (flp (L i)) = true := scX_iff.mpr ⟨s0, Or.inl ⟨z, rfl⟩⟩
        obtain ⟨n2, L2, t2, u1, u2, u3, u4, u5, u6⟩ := x_comeTo S1 (by omega) (by omega) (flp_ok ok).1 ⟨i, hi, hsc1⟩
        rw [if_pos ((lgc0 (bm56 _)).mpr z), show nI (L i) ^^^ (1 : Int32) = nI (flp (L i)) from by rw [show (1 : Int32) = nI 1 from rfl, fb_xorI, xor_flp hx6], u1, bD_e]
        exact loop n2 L2 t2 u2 u3 u4 (fun _ => u5) (gfr_tr g5 u6)
      · rw [if_neg (fun e => z ((lgc0 (bm56 _)).mp e))]
        exact loop n L _ S1 (Nat.le_refl _) (fun _ _ => rfl) (fun e => absurd e z) g5
