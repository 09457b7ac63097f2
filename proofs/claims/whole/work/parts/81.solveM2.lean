/-! the reference solves: all of it -/
def nbr (br : Nat → Bool) (j : Nat) : Nat := if br j = true then 0 else 1
theorem nbr_t {br : Nat → Bool} {j : Nat} (h : br j = true) : nbr br j = 0 := if_pos h
theorem nbr_f {br : Nat → Bool} {j : Nat} (h : br j = false) : nbr br j = 1 := if_neg (by rw [h]; decide)
theorem nbr_le (br : Nat → Bool) (j : Nat) : nbr br j ≤ 1 := by unfold nbr; split <;> omega
section MSW
variable {A : Tb} {past c0 n W : Nat} {L wh tg : Nat → Nat} {E pc : Nat → Bool} {pI : Int32}
theorem m_inner {nd q : Nat → Nat} {len i : Nat} {dn : Nat → Nat → Bool} {τ : jS} (hS : MS A past c0 n W n L wh tg τ) (h : P2M n W wh tg E pc nd q len i dn τ) (hpI : ∀ k, k < n → (nI (cSide (L k)) = pI ↔ pc k = true)) (hi : i < len) (hW : W < 620000) (hdn : ∀ p, dn p (q i) = false) : ∃ nd' q' len' dn' τ', jloop jFuel (fun s => f_X11_solve_B104 s.2.2 pI s.1 (nI i) s.2.1) (nI len, nI (lastW tg (q i) W) - 1, τ) = some (.inl (nI len', nI (i + 1), τ')) ∧ P2M n W wh tg E pc nd' q' len' i dn' τ' ∧ (∀ j, j < len → q' j = q j) ∧ len ≤ len' ∧ (∀ p, scI W wh tg p (q i) = true → dn' p (q i) = true) ∧ (∀ p y, dn' p y = true → dn p y = true ∨ y = q i) ∧ sfr τ τ' := by
  generalize es : q i = s0 at *
  have key := jloop_inv (f := fun s => f_X11_solve_B104 s.2.2 pI s.1 (nI i) s.2.1) (fun mz t => ∃ nd' q' len' dn' v, mz = v ∧ v ≤ W ∧ t.1 = nI len' ∧ t.2.1 = nI (lastW tg s0 v) - 1 ∧ P2M n W wh tg E pc nd' q' len' i dn' t.2.2 ∧ (∀ j, j < len → q' j = q j) ∧ len ≤ len' ∧ (∀ u, v ≤ u → u < W → tg u = s0 → dn' (wh u) s0 = true) ∧ (∀ p, dn' p s0 = true → ∃ u, v ≤ u ∧ u < W ∧ tg u = s0 ∧ wh u = p) ∧ (∀ p y, dn' p y = true → dn p y = true ∨ y = s0) ∧ sfr τ t.2.2) (fun (o : (Int32 × Int32 × jS) ⊕ (Unit × jS)) => ∃ nd' q' len' dn' τ', o = .inl (nI len', nI (i + 1), τ') ∧ P2M n W wh tg E pc nd' q' len' i dn' τ' ∧ (∀ j, j < len → q' j = q j) ∧ len ≤ len' ∧ (∀ p, scI W wh tg p s0 = true → dn' p s0 = true) ∧ (∀ p y, dn' p y = true → dn p y = true ∨ y = s0) ∧ sfr τ τ') ?_ jFuel W (nI len, nI (lastW tg s0 W) - 1, τ) ⟨nd, q, len, dn, W, rfl, Nat.le_refl _, rfl, rfl, h, fun _ _ => rfl, Nat.le_refl _, fun u h1 h2 => by omega, fun p hp => (by rw [hdn p] at hp; cases hp), fun _ _ hy => Or.inl hy, fr_rfl _ _⟩ (jfuel_big (by omega))
  · obtain ⟨o, o1, nd', q', len', dn', τ', rfl, o2⟩ := key
    exact ⟨nd', q', len', dn', τ', o1, o2⟩
  · rintro mz ⟨ta, tb, t⟩ ⟨nd', q', len', dn', v, rfl, vW, rfl, rfl, c1, c2, c3, c4, c5, c6, c7⟩
    replace c1 : P2M n W wh tg E pc nd' q' len' i dn' t := c1
    replace c7 : sfr τ t := c7
    have lle := lastW_le tg s0 mz
    have qi : q' i = s0 := by rw [c2 i hi]; exact es
    have hSt : MS A past c0 n W n L wh tg t := MS_s c7 rfl hS
    rcases Nat.eq_zero_or_pos (lastW tg s0 mz) with z | z
    · right
      refine ⟨.inl (nI len', nI (i + 1), t), ?_, nd', q', len', dn', t, rfl, c1, c2, c3, fun p hp => ?_, c6, c7⟩
      · show f_X11_solve_B104 t pI (nI len') (nI i) (nI (lastW tg s0 mz) - 1) = _
        unfold f_X11_solve_B104 f_X11_solve_J206
        rw [z, if_pos (show nI 0 - 1 < 0 by decide), bV_e, nI_1, jw_e]
      · obtain ⟨u, u1, u2, u3⟩ := scI_iff.mp hp
        rw [← u2]
        refine c4 u ?_ u1 u3
        rcases Nat.lt_or_ge u mz with y | y
        · exact absurd u3 (lastW_0 tg s0 mz z u y)
        · exact y
    · left
      obtain ⟨l1, l2⟩ := lastW_at tg s0 mz z
      have ew : nI (lastW tg s0 mz) - 1 = nI (lastW tg s0 mz - 1) := by rw [show (1 : Int32) = nI 1 from rfl, nI_sub (by omega)]
      generalize hw : lastW tg s0 mz - 1 = v at *
      have vlt : v < W := by omega
      have dnf : dn' (wh v) (q' i) = false := by
        rw [qi]
        cases hb : dn' (wh v) s0 with
        | false => rfl
        | true =>
          obtain ⟨u, u1, u2, u3, u4⟩ := c5 _ hb
          have := hS.2.2.2.2.2.2.1 u v u2 vlt u4 (by rw [u3, l1])
          omega
      obtain ⟨nd2, q2, len2, t2, e1, e2, e3, e4, e5⟩ := m_edge hSt c1 hpI (by omega) vlt hW (by rw [qi]; exact l1) dnf
      rw [qi] at e1 e2
      refine ⟨(nI len2, nI (lastW tg s0 v) - 1, t2), v, ?_, by omega, nd2, q2, len2, _, v, rfl, by omega, rfl, rfl, e2, fun j hj => (e3 j (by omega)).trans (c2 j hj), by omega, fun u h1 h2 h3 => ?_, fun p hp => ?_, fun p y hy => ?_, fr_trans c7 e5⟩
      · show f_X11_solve_B104 t pI (nI len') (nI i) (nI (lastW tg s0 mz) - 1) = _
        rw [ew]; exact e1
      · by_cases y : u = v
        · subst y; exact dn1_iff.mpr (Or.inr ⟨rfl, rfl⟩)
        · refine dn1_iff.mpr (Or.inl (c4 u ?_ h2 h3))
          rcases Nat.lt_or_ge u mz with x | x
          · exact absurd h3 (l2 u (by omega) x)
          · exact x
      · rcases dn1_iff.mp hp with hp | ⟨rfl, _⟩
        · obtain ⟨u, u1, u2⟩ := c5 p hp
          exact ⟨u, by omega, u2⟩
        · exact ⟨v, Nat.le_refl _, vlt, l1, rfl⟩
      · rcases dn1_iff.mp hy with hy | ⟨_, e⟩
        · exact c6 p y hy
        · exact Or.inr e
theorem m_ph2 {nd q : Nat → Nat} {len : Nat} {τ : jS} (hS : MS A past c0 n W n L wh tg τ) (h : P2M n W wh tg E pc nd q len 0 (fun _ _ => false) τ) (hpI : ∀ k, k < n → (nI (cSide (L k)) = pI ↔ pc k = true)) (hW : W < 620000) : ∃ nd' τ', f_X11_solve_J84 τ pI (nI len) = some ((), τ') ∧ FX (fun x => x < n) E pc (scI W wh tg) nd' ∧ (∀ j, j < n → gI τ' 27 j = rI0 (nd' j)) ∧ (∀ j, j < n → nd' j ≤ 6273) ∧ sfr τ τ' := by
  have n6 := hS.2.2.2.2.2.2.2.2.2
  have lenb : ∀ {nd q : Nat → Nat} {len i : Nat} {dn : Nat → Nat → Bool}, BI (fun x => x < n) E pc (scI W wh tg) nd q len i dn → len ≤ n := fun B => pigeon n _ _ (fun j hj => (B.1 j hj).1) (fun j l hj hl e => B.2.1 j l hj hl e)
  have l0 := lenb h.1
  unfold f_X11_solve_J84
  have key := jloop_inv (f := fun s => f_X11_solve_B86 s.2.2 pI s.1 s.2.1) (fun mz t => ∃ nd q len i dn, t.1 = nI len ∧ t.2.1 = nI i ∧ i ≤ len ∧ mz = n - i ∧ P2M n W wh tg E pc nd q len i dn t.2.2 ∧ (∀ p, i < len → dn p (q i) = false) ∧ sfr τ t.2.2) (fun (o : Unit × jS) => ∃ nd', FX (fun x => x < n) E pc (scI W wh tg) nd' ∧ (∀ j, j < n → gI o.2 27 j = rI0 (nd' j)) ∧ (∀ j, j < n → nd' j ≤ 6273) ∧ sfr τ o.2) ?_ jFuel n (nI len, 0, τ) ⟨nd, q, len, 0, _, rfl, rfl, Nat.zero_le _, rfl, h, fun _ _ => rfl, fr_rfl _ _⟩ (jfuel_big (by omega))
  · obtain ⟨o, o1, nd', o2⟩ := key
    exact ⟨nd', o.2, o1, o2⟩
  · rintro mz ⟨ta, tb, t⟩ ⟨nd, q, len, i, dn, rfl, rfl, il, rfl, hP, hdn, hf⟩
    replace hP : P2M n W wh tg E pc nd q len i dn t := hP
    replace hf : sfr τ t := hf
    have hSt : MS A past c0 n W n L wh tg t := MS_s hf rfl hS
    have ln := lenb hP.1
    show (∃ s' n', f_X11_solve_B86 t pI (nI len) (nI i) = _ ∧ _) ∨ (∃ o, f_X11_solve_B86 t pI (nI len) (nI i) = _ ∧ _)
    unfold f_X11_solve_B86
    rcases Nat.lt_or_ge i len with z | z
    · left
      have hqn : q i < n := (hP.1.1 i z).1
      obtain ⟨nd2, q2, len2, dn2, t2, e1, e2, e3, e4, e5, e6, e7⟩ := m_inner hSt hP hpI z hW (fun p => hdn p z)
      have qi : q2 i = q i := e3 i z
      rw [if_neg (nI_ge z (by omega)), bG_t (jin_nI (by omega) (by omega)), ix_nI (by omega), hP.2.1 i z, bG_t (jin_nI (by omega) (by omega)), ix_nI (by omega), (hSt.2.2.2.2.2.1 _ hqn).1, bV_e, e1]
      refine ⟨(nI len2, nI (i + 1), t2), n - (i + 1), rfl, by omega, nd2, q2, len2, i + 1, dn2, rfl, rfl, by omega, rfl, ⟨BI_next e2.1 (by omega) (fun p _ hs => by rw [qi] at hs ⊢; exact e5 p hs), e2.2⟩, fun p hp => ?_, fr_trans hf e7⟩
      cases hb : dn2 p (q2 (i + 1)) with
      | false => rfl
      | true =>
        obtain ⟨_, j, j1, j2, j3⟩ := e2.1.2.2.2.2.2.1 _ _ hb
        have := e2.1.2.1 (i + 1) j hp j2 j3
        omega
    · right
      have : i = len := by omega
      subst this
      unfold f_X11_solve_J212
      rw [if_pos (Int32.le_refl _), jw_e]
      refine ⟨((), t), rfl, nd, BI_end hP.1 (fun x y _ _ hs => ?_), hP.2.2.1, fun j hj => ?_, hf⟩
      · obtain ⟨u, u1, _, u3⟩ := scI_iff.mp hs
        rw [← u3]; exact (hS.2.2.2.2.1 u u1).2.2.1
      · rcases Nat.eq_zero_or_pos (nd j) with y | y
        · omega
        · obtain ⟨l, l1, l2⟩ := hP.1.2.2.1 j hj (by omega)
          have := hP.2.2.2.2 l l1
          rw [l2] at this; omega
theorem m_solve {τ : jS} {br : Nat → Bool} (hS : MS A past c0 n W n L wh tg τ) (hb : ∀ j, j < n → gI τ 28 (16 * cOne (L j) + cTwo (L j)) = bI (br j)) (hpI : ∀ k, k < n → (nI (cSide (L k)) = pI ↔ pc k = true)) (hW : W < 620000) : ∃ nd' τ', f_X11_solve τ pI = some ((), τ') ∧ FX (fun x => x < n) (fun j => !br j) pc (scI W wh tg) nd' ∧ (∀ j, j < n → gI τ' 27 j = rI0 (nd' j)) ∧ (∀ j, j < n → nd' j ≤ 6273) ∧ sfr τ τ' := by
  have n6 := hS.2.2.2.2.2.2.2.2.2
  unfold f_X11_solve
  have key := jloop_ex (S := Int32 × Int32 × jS) (O := Unit × jS) (f := fun s => f_X11_solve_B4 s.2.2 pI s.1 s.2.1) (fun i s => ∃ q len, s.1 = nI len ∧ s.2.1 = nI i ∧ len ≤ i ∧ sfr τ s.2.2 ∧ (∀ j, j < len → gI s.2.2 25 j = nI (q j) ∧ q j < i ∧ br (q j) = false) ∧ (∀ j l, j < len → l < len → q j = q l → j = l) ∧ (∀ j, j < i → br j = false → ∃ l, l < len ∧ q l = j) ∧ ∀ j, j < i → gI s.2.2 24 j = nI (fa_cnt (fun v => wh v == j) W) ∧ gI s.2.2 27 j = if br j = true then -1 else 0) n (fun o => ∃ nd', FX (fun x => x < n) (fun j => !br j) pc (scI W wh tg) nd' ∧ (∀ j, j < n → gI o.2 27 j = rI0 (nd' j)) ∧ (∀ j, j < n → nd' j ≤ 6273) ∧ sfr τ o.2) (s0 := (0, 0, τ)) ⟨fun _ => 0, 0, rfl, rfl, Nat.le_refl _, fr_rfl _ _, fun j hj => absurd hj (Nat.not_lt_zero j), fun j l hj => absurd hj (Nat.not_lt_zero j), fun j hj => absurd hj (Nat.not_lt_zero j), fun j hj => absurd hj (Nat.not_lt_zero j)⟩ (jfuel_big (by omega)) ?_ ?_
  · obtain ⟨o, o1, nd', o2⟩ := key
    exact ⟨nd', o.2, o1, o2⟩
  · rintro ⟨ta, tb, t⟩ ⟨q, len, rfl, rfl, ll, hf, c1, c2, c3, c4⟩
    replace hf : sfr τ t := hf
    have hSt : MS A past c0 n W n L wh tg t := MS_s hf rfl hS
    have st : P2M n W wh tg (fun j => !br j) pc (nbr br) q len 0 (fun _ _ => false) t := by
      refine ⟨BI_start (fun j hj => ⟨(c1 j hj).2.1, nbr_f (c1 j hj).2.2⟩) c2 (fun x hx h0 => c3 x hx ?_) (fun x hx => ?_) (fun x hx => nbr_le br x), fun j hj => (c1 j hj).1, fun j hj => ?_, fun j hj => ?_, fun j hj => by have := nbr_le br (q j); omega⟩
      · cases hbx : br x with
        | false => rfl
        | true => exact absurd (nbr_t hbx) h0
      · cases hbx : br x with
        | true => rw [nbr_t hbx]; simp
        | false => rw [nbr_f hbx]; simp
      · rw [(c4 j hj).2]
        cases hbx : br j with
        | true => rw [nbr_t hbx]; rfl
        | false => rw [nbr_f hbx]; rfl
      · rw [(c4 j hj).1]
        rw [← cnt_img (p := fun v => wh v == j) (g := tg) (N := n) W (fun a b ha hb2 e1 e2 e3 => hS.2.2.2.2.2.2.1 a b ha hb2 (by rw [beq_iff_eq.mp e1, beq_iff_eq.mp e2]) e3) (fun a ha _ => (hS.2.2.2.2.1 a ha).2.2.1)]
        refine congrArg nI (fa_cnt_cong fun y _ => ?_)
        unfold scI
        simp
    obtain ⟨nd', τ', e1, e2, e3, e4, e5⟩ := m_ph2 (pc := pc) hSt st hpI hW
    refine ⟨((), τ'), ?_, nd', e2, e3, e4, fr_trans hf e5⟩
    show f_X11_solve_B4 t pI (nI len) (nI n) = _
    unfold f_X11_solve_B4
    rw [hSt.1.1, if_pos (Int32.le_refl _), e1, jw_e]
  · rintro i ⟨ta, tb, t⟩ hi ⟨q, len, rfl, rfl, ll, hf, c1, c2, c3, c4⟩
    replace hf : sfr τ t := hf
    have hSt : MS A past c0 n W n L wh tg t := MS_s hf rfl hS
    have ji : jin (nI i) 147968 = true := jin_nI (by omega) (by omega)
    have oc := (hSt.2.1 i hi).1
    have o16 := cOne_lt oc.1
    have t16 := cTwo_lt (L i)
    have b28 : gI t 28 (16 * cOne (L i) + cTwo (L i)) = bI (br i) := (fr_I hf (by decide) _).trans (hb i hi)
    refine Or.inl ?_
    show ∃ s', f_X11_solve_B4 t pI (nI len) (nI i) = _ ∧ _
    unfold f_X11_solve_B4 f_X11_solve_J78
    rw [hSt.1.1, if_neg (nI_ge hi (by omega)), bG_t ji, bG_t ji, ix_nI (by omega), (hSt.2.2.2.2.2.1 i hi).2, bV_e, bG_t ji, bV_e, bG_t ji, gI_ne (show (19 : Nat) ≠ 27 by decide), gI_ne (show (19 : Nat) ≠ 24 by decide), (hSt.2.1 i hi).2.1, m_one oc.1, bC_e, bG_t ji, m_two oc.1, bC_e, show (16 : Int32) = nI 16 from rfl, nI_mul, nI_add, bG_t (jin_nI (by omega) (by omega)), ix_nI (by omega), gI_ne (show (28 : Nat) ≠ 27 by decide), gI_ne (show (28 : Nat) ≠ 24 by decide), b28]
    cases hbi : br i with
    | true =>
      rw [if_neg (show ¬ bI true = 0 by decide), bV_e, nI_1]
      refine ⟨_, rfl, q, len, rfl, rfl, by omega, fr_trans hf (fr_trans (fr_sI _ _ _ (by decide)) (fr_sI _ _ _ (by decide))), fun j hj => ?_, c2, fun j hj hj2 => ?_, fun j hj => ?_⟩
      · obtain ⟨x1, x2, x3⟩ := c1 j hj
        exact ⟨(gI_ne (by decide)).trans ((gI_ne (by decide)).trans x1), by omega, x3⟩
      · refine c3 j ?_ hj2
        rcases Nat.lt_or_ge j i with y | y
        · exact y
        · have : j = i := by omega
          subst this; rw [hbi] at hj2; cases hj2
      · show gI (sI (sI t 24 i _) 27 i (-1)) 24 j = _ ∧ gI (sI (sI t 24 i _) 27 i (-1)) 27 j = _
        rw [gI_ne (show (24 : Nat) ≠ 27 by decide)]
        by_cases y : j = i
        · subst y; rw [gI_sI, gI_sI, hbi]; exact ⟨rfl, rfl⟩
        · rw [gI_nei y, gI_nei y, gI_ne (show (27 : Nat) ≠ 24 by decide)]; exact c4 j (by omega)
    | false =>
      rw [if_pos (show bI false = 0 by decide), bG_t ji, bV_e, bG_t (jin_nI (by omega) (by omega)), ix_nI (by omega), bV_e, bV_e, bV_e, nI_1, nI_1]
      refine ⟨_, rfl, up1 q len i, len + 1, rfl, rfl, by omega, fr_trans hf (fr_trans (fr_trans (fr_trans (fr_sI _ _ _ (by decide)) (fr_sI _ _ _ (by decide))) (fr_sI _ _ _ (by decide))) (fr_sI _ _ _ (by decide))), fun j hj => ?_, fun j l hj hl e => ?_, fun j hj hj2 => ?_, fun j hj => ?_⟩
      · by_cases y : j = len
        · subst y; rw [up1_at]; exact ⟨gI_sI _ _ _ _, by omega, hbi⟩
        · obtain ⟨x1, x2, x3⟩ := c1 j (by omega)
          rw [up1_ne y]
          exact ⟨(gI_nei y).trans ((gI_ne (by decide)).trans ((gI_ne (by decide)).trans ((gI_ne (by decide)).trans x1))), by omega, x3⟩
      · have nq : ∀ j, j < len → q j ≠ i := fun j hj e => by have := (c1 j hj).2.1; omega
        by_cases y : j = len <;> by_cases x : l = len
        · omega
        · subst y; rw [up1_at, up1_ne x] at e; exact absurd e.symm (nq l (by omega))
        · subst x; rw [up1_at, up1_ne y] at e; exact absurd e (nq j (by omega))
        · rw [up1_ne y, up1_ne x] at e; exact c2 j l (by omega) (by omega) e
      · by_cases y : j = i
        · subst y; exact ⟨len, by omega, up1_at _ _ _⟩
        · obtain ⟨l, l1, l2⟩ := c3 j (by omega) hj2
          exact ⟨l, by omega, by rw [up1_ne (by omega)]; exact l2⟩
      · show gI (sI (sI (sI (sI t 24 i _) 27 i (-1)) 27 i 0) 25 len _) 24 j = _ ∧ gI (sI (sI (sI (sI t 24 i _) 27 i (-1)) 27 i 0) 25 len _) 27 j = _
        rw [gI_ne (show (24 : Nat) ≠ 25 by decide), gI_ne (show (24 : Nat) ≠ 27 by decide), gI_ne (show (24 : Nat) ≠ 27 by decide), gI_ne (show (27 : Nat) ≠ 25 by decide)]
        by_cases y : j = i
        · subst y; rw [gI_sI, gI_sI, hbi]; exact ⟨rfl, rfl⟩
        · rw [gI_nei y, gI_nei y, gI_nei y, gI_ne (show (27 : Nat) ≠ 24 by decide)]; exact c4 j (by omega)
end MSW
