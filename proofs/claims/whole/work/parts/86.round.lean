/-! the reference: can a quarrel go round for ever -/
def outE (W : Nat) (wh : Nat → Nat) (j : Nat) : Bool := decide (fa_cnt (fun v => wh v == j) W = 0)
def P3M (n W : Nat) (wh tg : Nat → Nat) (nd q : Nat → Nat) (len i : Nat) (dn : Nat → Nat → Bool) (τ : jS) : Prop :=
  BI (fun x => x < n) (outE W wh) (fun _ => false) (scI W wh tg) nd q len i dn ∧ (∀ j, j < len → gI τ 25 j = nI (q j)) ∧ ∀ j, j < n → gI τ 24 j = nI (fa_cnt (fun y => scI W wh tg j y && !dn j y) n)
theorem full_q {n m : Nat} {L Q : Nat → Nat} {nd : Nat → Nat} (iL : ∀ j l, j < n → l < n → L j = L l → j = l) (iQ : ∀ j l, j < m → l < m → Q j = Q l → j = l) (h1 : ∀ j, j < m → vL n L (Q j) ∧ nd (Q j) ≠ 0) (h2 : ∀ x, vL n L x → nd x ≠ 0 → ∃ j, j < m ∧ Q j = x) : n ≤ m ↔ ∀ x, vL n L x → nd x ≠ 0 := by
  constructor
  · intro hnm x hx h0
    have ne : ∀ j, j < m → Q j ≠ x := fun j hj e => (h1 j hj).2 (by rw [e]; exact h0)
    have a : ∀ j, ∃ l, j < m + 1 → l < n ∧ L l = up1 Q m x j := fun j => by
      by_cases z : j < m + 1
      · by_cases y : j = m
        · subst y
          obtain ⟨l, l1, l2⟩ := hx
          exact ⟨l, fun _ => ⟨l1, by rw [up1_at]; exact l2⟩⟩
        · obtain ⟨l, l1, l2⟩ := (h1 j (by omega)).1
          exact ⟨l, fun _ => ⟨l1, by rw [up1_ne y]; exact l2⟩⟩
      · exact ⟨0, fun q => absurd q z⟩
    have := pigeon n (m + 1) (fun j => Classical.choose (a j)) (fun j hj => (Classical.choose_spec (a j) hj).1) (fun j l hj hl e => by
      have e1 := (Classical.choose_spec (a j) hj).2
      have e2 := (Classical.choose_spec (a l) hl).2
      have e3 : Classical.choose (a j) = Classical.choose (a l) := e
      rw [e3] at e1
      have e4 := e1.symm.trans e2
      by_cases r : j = m <;> by_cases t : l = m
      · omega
      · subst r; rw [up1_at, up1_ne t] at e4; exact absurd e4.symm (ne l (by omega))
      · subst t; rw [up1_at, up1_ne r] at e4; exact absurd e4 (ne j (by omega))
      · rw [up1_ne r, up1_ne t] at e4; exact iQ j l (by omega) (by omega) e4)
    omega
  · intro hall
    have a : ∀ l, ∃ j, l < n → j < m ∧ Q j = L l := fun l => by
      by_cases z : l < n
      · obtain ⟨j, j1, j2⟩ := h2 (L l) ⟨l, z, rfl⟩ (hall _ ⟨l, z, rfl⟩)
        exact ⟨j, fun _ => ⟨j1, j2⟩⟩
      · exact ⟨0, fun q => absurd q z⟩
    exact pigeon m n (fun l => Classical.choose (a l)) (fun l hl => (Classical.choose_spec (a l) hl).1) (fun l l' hl hl' e => by
      have e1 := (Classical.choose_spec (a l) hl).2
      have e2 := (Classical.choose_spec (a l') hl').2
      have e3 : Classical.choose (a l) = Classical.choose (a l') := e
      rw [e3] at e1
      exact iL l l' hl hl' (e1.symm.trans e2))
theorem cnt_false : ∀ N, fa_cnt (fun _ => false) N = 0
  | 0 => rfl
  | N + 1 => by rw [fa_cnt, cnt_false N]; rfl
theorem scI_out {A : Tb} {past c0 n W i : Nat} {L wh tg : Nat → Nat} {τ : jS} (hS : MS A past c0 n W i L wh tg τ) {j : Nat} : fa_cnt (fun y => scI W wh tg j y && !(fun _ _ => false : Nat → Nat → Bool) j y) n = fa_cnt (fun v => wh v == j) W := by
  rw [← cnt_img (p := fun v => wh v == j) (g := tg) (N := n) W (fun a b ha hb2 e1 e2 e3 => hS.2.2.2.2.2.2.1 a b ha hb2 (by rw [beq_iff_eq.mp e1, beq_iff_eq.mp e2]) e3) (fun a ha _ => (hS.2.2.2.2.1 a ha).2.2.1)]
  refine fa_cnt_cong fun y _ => ?_
  unfold scI
  simp
section MRV
variable {A : Tb} {past c0 n W : Nat} {L wh tg : Nat → Nat}
theorem m_edgeR {nd q : Nat → Nat} {len i : Nat} {dn : Nat → Nat → Bool} {τ : jS} (hS : MS A past c0 n W n L wh tg τ) (h : P3M n W wh tg nd q len i dn τ) (hi : i < len) {v : Nat} (hv : v < W) (hW : W < 620000) (ht : tg v = q i) (hd : dn (wh v) (q i) = false) : ∃ nd' q' len' τ', f_X11_goesRound_B68 τ (nI len) (nI i) (nI v) = some (.inl (nI len', nI (lastW tg (q i) v) - 1, τ')) ∧ P3M n W wh tg nd' q' len' i (dn1 dn (wh v) (q i)) τ' ∧ (∀ j, j < len → q' j = q j) ∧ len ≤ len' ∧ sfr τ τ' := by
  obtain ⟨B, r2, r4⟩ := h
  have n6 := hS.2.2.2.2.2.2.2.2.2
  obtain ⟨v1, v2, v3, v4, v5, v6⟩ := hS.2.2.2.2.1 v hv
  have hqn : q i < n := (B.1 i hi).1
  have hs : scI W wh tg (wh v) (q i) = true := scI_iff.mpr ⟨v, hv, rfl, ht⟩
  generalize hp : wh v = p at *
  have cd := cnt_dnI hs hd hqn
  have cle := fa_cnt_le (fun y => scI W wh tg p y && !dn p y) n
  generalize hc : fa_cnt (fun y => scI W wh tg p y && !dn1 dn p (q i) p y) n = c at *
  have e1 : nI (fa_cnt (fun y => scI W wh tg p y && !dn p y) n) - 1 = nI c := by
    rw [← cd, show (1 : Int32) = nI 1 from rfl, nI_sub (by omega), Nat.add_sub_cancel]
  have all0 : c = 0 ↔ ∀ z, scI W wh tg p z = true → dn1 dn p (q i) p z = true := by
    constructor
    · intro z y hy
      have hyn : y < n := by
        obtain ⟨u, u1, u2, u3⟩ := scI_iff.mp hy
        rw [← u3]; exact (hS.2.2.2.2.1 u u1).2.2.1
      have := cnt_none (hc.trans z) y hyn
      rw [hy, Bool.true_and] at this
      cases hb : dn1 dn p (q i) p y with
      | true => rfl
      | false => rw [hb] at this; cases this
    · intro z
      rw [← hc]
      have : fa_cnt (fun y => scI W wh tg p y && !dn1 dn p (q i) p y) n = fa_cnt (fun _ => false) n := fa_cnt_cong fun y _ => by
        cases hy : scI W wh tg p y with
        | true => rw [z y hy]; rfl
        | false => rfl
      rw [this]
      exact cnt_false _
  -- one with a way that is still to be told is not in the queue
  have h0 : nd p = 0 := by
    rcases Nat.eq_zero_or_pos (nd p) with z | z
    · exact z
    · exfalso
      have hE : outE W wh p = false := by
        unfold outE
        refine decide_eq_false fun e => ?_
        have := cnt_none e v hv
        rw [hp, beq_self_eq_true] at this
        cases this
      have := ((B.2.2.2.2.2.2.2.2.1 p v2 hE rfl).2 (by omega)).1 _ hs
      rw [hd] at this; cases this
  have jp : jin (nI p) 147968 = true := jin_nI (by omega) (by omega)
  have jv : jin (nI v) 620000 = true := jin_nI (by omega) (by omega)
  have l24 : ∀ j, j < n → gI (sI τ 24 p (nI c)) 24 j = nI (fa_cnt (fun y => scI W wh tg j y && !dn1 dn p (q i) j y) n) := fun j hj => by
    by_cases z : j = p
    · subst z; rw [gI_sI, hc]
    · rw [gI_nei z, r4 j hj]
      exact congrArg nI (fa_cnt_cong fun y _ => by rw [dn1_ne z])
  have next : ∀ t x, gI t 23 v = gI τ 23 v → f_X11_goesRound_J116 t x (nI i) (nI v) = some (.inl (x, nI (lastW tg (q i) v) - 1, t)) := fun t x ht2 => by
    unfold f_X11_goesRound_J116
    rw [bG_t jv, ix_nI (by omega), ht2, v5, ht, bV_e]
  have l6 : len < n := by
    have ne : ∀ j, j < len → q j ≠ p := fun j hj z => (B.1 j hj).2 (by rw [z]; exact h0)
    have := pigeon n (len + 1) (up1 q len p) (fun j hj => by
      by_cases r : j = len
      · subst r; rw [up1_at]; exact v2
      · rw [up1_ne r]; exact (B.1 j (by omega)).1) (fun j l hj hl e => by
      by_cases r : j = len <;> by_cases t : l = len
      · omega
      · subst r; rw [up1_at, up1_ne t] at e; exact absurd e.symm (ne l (by omega))
      · subst t; rw [up1_at, up1_ne r] at e; exact absurd e (ne j (by omega))
      · rw [up1_ne r, up1_ne t] at e; exact B.2.1 j l (by omega) (by omega) e)
    omega
  unfold f_X11_goesRound_B68
  rw [if_neg (nI_pos (by omega)), bG_t jv, ix_nI (by omega), v4, bV_e, bG_t jp, bG_t jp, ix_nI (by omega), r4 p v2, e1, bV_e, bG_t jv, gI_ne (show (22 : Nat) ≠ 24 by decide), v4, bG_t jp, ix_nI (by omega), gI_sI]
  by_cases z0 : c = 0
  · have B2 := BI_s1 B hi v2 hs h0 (Or.inr (all0.mp z0))
    rw [if_pos (show nI c = 0 from congrArg nI z0), bG_t jv, bG_t (jin_nI (by omega) (by omega)), ix_nI (by omega), bV_e, bV_e, nI_1, next _ _ ((gI_ne (by decide)).trans (gI_ne (by decide)))]
    refine ⟨up1 nd p (nd (q i) + 1), up1 q len p, len + 1, _, rfl, ⟨B2, fun j hj => ?_, fun j hj => ?_⟩, fun j hj => up1_ne (by omega), by omega, fr_trans (fr_sI _ _ _ (by decide)) (fr_sI _ _ _ (by decide))⟩
    · by_cases z : j = len
      · subst z; rw [gI_sI, up1_at]
      · rw [gI_nei z, up1_ne z, gI_ne (by decide)]; exact r2 j (by omega)
    · rw [gI_ne (by decide)]
      exact l24 j hj
  · rw [if_neg (fun e => z0 ((nI_eq0 (by omega)).mp e)), next _ _ (gI_ne (by decide))]
    have ex' : ∃ z, scI W wh tg p z = true ∧ dn1 dn p (q i) p z = false := by
      apply Classical.byContradiction
      intro hn
      refine z0 (all0.mpr fun z hz => ?_)
      cases hb : dn1 dn p (q i) p z with
      | true => rfl
      | false => exact absurd ⟨z, hz, hb⟩ hn
    exact ⟨nd, q, len, _, rfl, ⟨BI_s2 B hi v2 hs h0 rfl ex', fun j hj => (gI_ne (by decide)).trans (r2 j hj), l24⟩, fun _ _ => rfl, Nat.le_refl _, fr_sI _ _ _ (by decide)⟩
theorem m_innerR {nd q : Nat → Nat} {len i : Nat} {dn : Nat → Nat → Bool} {τ : jS} (hS : MS A past c0 n W n L wh tg τ) (h : P3M n W wh tg nd q len i dn τ) (hi : i < len) (hW : W < 620000) (hdn : ∀ p, dn p (q i) = false) : ∃ nd' q' len' dn' τ', jloop jFuel (fun s => f_X11_goesRound_B68 s.2.2 s.1 (nI i) s.2.1) (nI len, nI (lastW tg (q i) W) - 1, τ) = some (.inl (nI len', nI (i + 1), τ')) ∧ P3M n W wh tg nd' q' len' i dn' τ' ∧ (∀ j, j < len → q' j = q j) ∧ len ≤ len' ∧ (∀ p, scI W wh tg p (q i) = true → dn' p (q i) = true) ∧ (∀ p y, dn' p y = true → dn p y = true ∨ y = q i) ∧ sfr τ τ' := by
  generalize es : q i = s0 at *
  have key := jloop_inv (f := fun s => f_X11_goesRound_B68 s.2.2 s.1 (nI i) s.2.1) (fun mz t => ∃ nd' q' len' dn' v, mz = v ∧ v ≤ W ∧ t.1 = nI len' ∧ t.2.1 = nI (lastW tg s0 v) - 1 ∧ P3M n W wh tg nd' q' len' i dn' t.2.2 ∧ (∀ j, j < len → q' j = q j) ∧ len ≤ len' ∧ (∀ u, v ≤ u → u < W → tg u = s0 → dn' (wh u) s0 = true) ∧ (∀ p, dn' p s0 = true → ∃ u, v ≤ u ∧ u < W ∧ tg u = s0 ∧ wh u = p) ∧ (∀ p y, dn' p y = true → dn p y = true ∨ y = s0) ∧ sfr τ t.2.2) (fun (o : (Int32 × Int32 × jS) ⊕ (Int32 × jS)) => ∃ nd' q' len' dn' τ', o = .inl (nI len', nI (i + 1), τ') ∧ P3M n W wh tg nd' q' len' i dn' τ' ∧ (∀ j, j < len → q' j = q j) ∧ len ≤ len' ∧ (∀ p, scI W wh tg p s0 = true → dn' p s0 = true) ∧ (∀ p y, dn' p y = true → dn p y = true ∨ y = s0) ∧ sfr τ τ') ?_ jFuel W (nI len, nI (lastW tg s0 W) - 1, τ) ⟨nd, q, len, dn, W, rfl, Nat.le_refl _, rfl, rfl, h, fun _ _ => rfl, Nat.le_refl _, fun u h1 h2 => by omega, fun p hp => (by rw [hdn p] at hp; cases hp), fun _ _ hy => Or.inl hy, fr_rfl _ _⟩ (jfuel_big (by omega))
  · obtain ⟨o, o1, nd', q', len', dn', τ', rfl, o2⟩ := key
    exact ⟨nd', q', len', dn', τ', o1, o2⟩
  · rintro mz ⟨ta, tb, t⟩ ⟨nd', q', len', dn', v, rfl, vW, rfl, rfl, c1, c2, c3, c4, c5, c6, c7⟩
    replace c1 : P3M n W wh tg nd' q' len' i dn' t := c1
    replace c7 : sfr τ t := c7
    have lle := lastW_le tg s0 mz
    have qi : q' i = s0 := by rw [c2 i hi]; exact es
    have hSt : MS A past c0 n W n L wh tg t := MS_s c7 rfl hS
    rcases Nat.eq_zero_or_pos (lastW tg s0 mz) with z | z
    · right
      refine ⟨.inl (nI len', nI (i + 1), t), ?_, nd', q', len', dn', t, rfl, c1, c2, c3, fun p hp => ?_, c6, c7⟩
      · show f_X11_goesRound_B68 t (nI len') (nI i) (nI (lastW tg s0 mz) - 1) = _
        unfold f_X11_goesRound_B68 f_X11_goesRound_J126
        rw [z, if_pos (show nI 0 - 1 < 0 by decide), bV_e, nI_1, jw_e]
      · obtain ⟨u, u1, u2, u3⟩ := scI_iff.mp hp
        rw [← u2]
        refine c4 u ?_ u1 u3
        rcases Nat.lt_or_ge u mz with y | y
        · exact absurd u3 (lastW_0 tg s0 mz z u y)
        · exact y
    · left
      obtain ⟨l1, l2⟩ := lastW_at tg s0 mz z
      have ew : nI (lastW tg s0 mz) - 1 = nI (lastW tg s0 mz - 1) := by rw [show (1 : Int32) = nI 1 from rfl, nI_sub (by omega)]
      generalize hw : lastW tg s0 mz - 1 = v at *
      have vlt : v < W := by omega
      have dnf : dn' (wh v) (q' i) = false := by
        rw [qi]
        cases hb : dn' (wh v) s0 with
        | false => rfl
        | true =>
          obtain ⟨u, u1, u2, u3, u4⟩ := c5 _ hb
          have := hS.2.2.2.2.2.2.1 u v u2 vlt u4 (by rw [u3, l1])
          omega
      obtain ⟨nd2, q2, len2, t2, e1, e2, e3, e4, e5⟩ := m_edgeR hSt c1 (by omega) vlt hW (by rw [qi]; exact l1) dnf
      rw [qi] at e1 e2
      refine ⟨(nI len2, nI (lastW tg s0 v) - 1, t2), v, ?_, by omega, nd2, q2, len2, _, v, rfl, by omega, rfl, rfl, e2, fun j hj => (e3 j (by omega)).trans (c2 j hj), by omega, fun u h1 h2 h3 => ?_, fun p hp => ?_, fun p y hy => ?_, fr_trans c7 e5⟩
      · show f_X11_goesRound_B68 t (nI len') (nI i) (nI (lastW tg s0 mz) - 1) = _
        rw [ew]; exact e1
      · by_cases y : u = v
        · subst y; exact dn1_iff.mpr (Or.inr ⟨rfl, rfl⟩)
        · refine dn1_iff.mpr (Or.inl (c4 u ?_ h2 h3))
          rcases Nat.lt_or_ge u mz with x | x
          · exact absurd h3 (l2 u (by omega) x)
          · exact x
      · rcases dn1_iff.mp hp with hp | ⟨rfl, _⟩
        · obtain ⟨u, u1, u2⟩ := c5 p hp
          exact ⟨u, by omega, u2⟩
        · exact ⟨v, Nat.le_refl _, vlt, l1, rfl⟩
      · rcases dn1_iff.mp hy with hy | ⟨_, e⟩
        · exact c6 p y hy
        · exact Or.inr e
theorem m_ph2R {nd q : Nat → Nat} {len : Nat} {τ : jS} (hS : MS A past c0 n W n L wh tg τ) (h : P3M n W wh tg nd q len 0 (fun _ _ => false) τ) (hW : W < 620000) : ∃ nd' r τ', f_X11_goesRound_J49 τ (nI len) = some (r, τ') ∧ FX (fun x => x < n) (outE W wh) (fun _ => false) (scI W wh tg) nd' ∧ (r = 0 ∨ r = 1) ∧ (r = 0 ↔ ∀ j, j < n → nd' j ≠ 0) ∧ sfr τ τ' := by
  have n6 := hS.2.2.2.2.2.2.2.2.2
  have lenb : ∀ {nd q : Nat → Nat} {len i : Nat} {dn : Nat → Nat → Bool}, BI (fun x => x < n) (outE W wh) (fun _ => false) (scI W wh tg) nd q len i dn → len ≤ n := fun B => pigeon n _ _ (fun j hj => (B.1 j hj).1) (fun j l hj hl e => B.2.1 j l hj hl e)
  have l0 := lenb h.1
  unfold f_X11_goesRound_J49
  have key := jloop_inv (f := fun s => f_X11_goesRound_B51 s.2.2 s.1 s.2.1) (fun mz t => ∃ nd q len i dn, t.1 = nI len ∧ t.2.1 = nI i ∧ i ≤ len ∧ mz = n - i ∧ P3M n W wh tg nd q len i dn t.2.2 ∧ (∀ p, i < len → dn p (q i) = false) ∧ sfr τ t.2.2) (fun (o : Int32 × jS) => ∃ nd', FX (fun x => x < n) (outE W wh) (fun _ => false) (scI W wh tg) nd' ∧ (o.1 = 0 ∨ o.1 = 1) ∧ (o.1 = 0 ↔ ∀ j, j < n → nd' j ≠ 0) ∧ sfr τ o.2) ?_ jFuel n (nI len, 0, τ) ⟨nd, q, len, 0, _, rfl, rfl, Nat.zero_le _, rfl, h, fun _ _ => rfl, fr_rfl _ _⟩ (jfuel_big (by omega))
  · obtain ⟨o, o1, nd', o2⟩ := key
    exact ⟨nd', o.1, o.2, o1, o2⟩
  · rintro mz ⟨ta, tb, t⟩ ⟨nd, q, len, i, dn, rfl, rfl, il, rfl, hP, hdn, hf⟩
    replace hP : P3M n W wh tg nd q len i dn t := hP
    replace hf : sfr τ t := hf
    have hSt : MS A past c0 n W n L wh tg t := MS_s hf rfl hS
    have ln := lenb hP.1
    show (∃ s' n', f_X11_goesRound_B51 t (nI len) (nI i) = _ ∧ _) ∨ (∃ o, f_X11_goesRound_B51 t (nI len) (nI i) = _ ∧ _)
    unfold f_X11_goesRound_B51
    rcases Nat.lt_or_ge i len with z | z
    · left
      have hqn : q i < n := (hP.1.1 i z).1
      obtain ⟨nd2, q2, len2, dn2, t2, e1, e2, e3, e4, e5, e6, e7⟩ := m_innerR hSt hP z hW (fun p => hdn p z)
      have qi : q2 i = q i := e3 i z
      rw [if_neg (nI_ge z (by omega)), bG_t (jin_nI (by omega) (by omega)), ix_nI (by omega), hP.2.1 i z, bG_t (jin_nI (by omega) (by omega)), ix_nI (by omega), (hSt.2.2.2.2.2.1 _ hqn).1, bV_e, e1]
      refine ⟨(nI len2, nI (i + 1), t2), n - (i + 1), rfl, by omega, nd2, q2, len2, i + 1, dn2, rfl, rfl, by omega, rfl, ⟨BI_next e2.1 (by omega) (fun p _ hs => by rw [qi] at hs ⊢; exact e5 p hs), e2.2⟩, fun p hp => ?_, fr_trans hf e7⟩
      cases hb : dn2 p (q2 (i + 1)) with
      | false => rfl
      | true =>
        obtain ⟨_, j, j1, j2, j3⟩ := e2.1.2.2.2.2.2.1 _ _ hb
        have := e2.1.2.1 (i + 1) j hp j2 j3
        omega
    · right
      have : i = len := by omega
      subst this
      have fl := full_q (n := n) (m := i) (L := fun j => j) (Q := q) (nd := nd) (fun _ _ _ _ e => e) hP.1.2.1 (fun j hj => ⟨⟨q j, (hP.1.1 j hj).1, rfl⟩, (hP.1.1 j hj).2⟩) (fun x hx h0 => by
        obtain ⟨l, l1, l2⟩ := hx
        exact hP.1.2.2.1 x (by rw [← l2]; exact l1) h0)
      have fl2 : n ≤ i ↔ ∀ j, j < n → nd j ≠ 0 := ⟨fun e j hj => fl.mp e j ⟨j, hj, rfl⟩, fun e => fl.mpr fun x hx => by
        obtain ⟨l, l1, l2⟩ := hx
        exact e x (by rw [← l2]; exact l1)⟩
      have FF := BI_end hP.1 (fun x y _ _ hs => by
        obtain ⟨u, u1, _, u3⟩ := scI_iff.mp hs
        rw [← u3]; exact (hS.2.2.2.2.1 u u1).2.2.1)
      unfold f_X11_goesRound_J132 f_X11_goesRound_J145
      rw [if_pos (Int32.le_refl _), hSt.1.1]
      by_cases y : n ≤ i
      · rw [if_pos (nI_le y (by omega)), bG_t (show jb 0 = true by decide), jw_e]
        exact ⟨(0, t), rfl, nd, FF, Or.inl rfl, ⟨fun _ => fl2.mp y, fun _ => rfl⟩, hf⟩
      · rw [if_neg (nI_ge (by omega) (by omega)), bG_t (show jb 1 = true by decide), jw_e]
        exact ⟨(1, t), rfl, nd, FF, Or.inr rfl, ⟨fun e => absurd e (show ¬ (1 : Int32) = 0 by decide), fun e => absurd (fl2.mpr e) y⟩, hf⟩
theorem m_goesRound {τ : jS} (hS : MS A past c0 n W n L wh tg τ) (hW : W < 620000) : ∃ nd' r τ', f_X11_goesRound τ = some (r, τ') ∧ FX (fun x => x < n) (outE W wh) (fun _ => false) (scI W wh tg) nd' ∧ (r = 0 ∨ r = 1) ∧ (r = 0 ↔ ∀ j, j < n → nd' j ≠ 0) ∧ sfr τ τ' := by
  have n6 := hS.2.2.2.2.2.2.2.2.2
  unfold f_X11_goesRound
  have key := jloop_ex (S := Int32 × Int32 × jS) (O := Int32 × jS) (f := fun s => f_X11_goesRound_B4 s.2.2 s.1 s.2.1) (fun i s => ∃ q len, s.1 = nI len ∧ s.2.1 = nI i ∧ len ≤ i ∧ sfr τ s.2.2 ∧ (∀ j, j < len → gI s.2.2 25 j = nI (q j) ∧ q j < i ∧ outE W wh (q j) = true) ∧ (∀ j l, j < len → l < len → q j = q l → j = l) ∧ (∀ j, j < i → outE W wh j = true → ∃ l, l < len ∧ q l = j) ∧ ∀ j, j < i → gI s.2.2 24 j = nI (fa_cnt (fun v => wh v == j) W)) n (fun o => ∃ nd', FX (fun x => x < n) (outE W wh) (fun _ => false) (scI W wh tg) nd' ∧ (o.1 = 0 ∨ o.1 = 1) ∧ (o.1 = 0 ↔ ∀ j, j < n → nd' j ≠ 0) ∧ sfr τ o.2) (s0 := (0, 0, τ)) ⟨fun _ => 0, 0, rfl, rfl, Nat.le_refl _, fr_rfl _ _, fun j hj => absurd hj (Nat.not_lt_zero j), fun j l hj => absurd hj (Nat.not_lt_zero j), fun j hj => absurd hj (Nat.not_lt_zero j), fun j hj => absurd hj (Nat.not_lt_zero j)⟩ (jfuel_big (by omega)) ?_ ?_
  · obtain ⟨o, o1, nd', o2⟩ := key
    exact ⟨nd', o.1, o.2, o1, o2⟩
  · rintro ⟨ta, tb, t⟩ ⟨q, len, rfl, rfl, ll, hf, c1, c2, c3, c4⟩
    replace hf : sfr τ t := hf
    have hSt : MS A past c0 n W n L wh tg t := MS_s hf rfl hS
    have st : P3M n W wh tg (nbr fun j => !outE W wh j) q len 0 (fun _ _ => false) t := by
      refine ⟨BI_start (fun j hj => ⟨(c1 j hj).2.1, nbr_f (by rw [(c1 j hj).2.2]; rfl)⟩) c2 (fun x hx h0 => c3 x hx ?_) (fun x hx => ?_) (fun x hx => nbr_le _ x), fun j hj => (c1 j hj).1, fun j hj => ?_⟩
      · cases hbx : outE W wh x with
        | true => rfl
        | false => exact absurd (nbr_t (br := fun j => !outE W wh j) (by rw [hbx]; rfl)) h0
      · cases hbx : outE W wh x with
        | false => rw [nbr_t (br := fun j => !outE W wh j) (by rw [hbx]; rfl)]; simp
        | true => rw [nbr_f (br := fun j => !outE W wh j) (by rw [hbx]; rfl)]; simp
      · rw [c4 j hj, ← scI_out hS]
    obtain ⟨nd', r, τ', e1, e2, e3, e4, e5⟩ := m_ph2R hSt st hW
    refine ⟨(r, τ'), ?_, nd', e2, e3, e4, fr_trans hf e5⟩
    show f_X11_goesRound_B4 t (nI len) (nI n) = _
    unfold f_X11_goesRound_B4
    rw [hSt.1.1, if_pos (Int32.le_refl _), e1, jw_e]
  · rintro i ⟨ta, tb, t⟩ hi ⟨q, len, rfl, rfl, ll, hf, c1, c2, c3, c4⟩
    replace hf : sfr τ t := hf
    have hSt : MS A past c0 n W n L wh tg t := MS_s hf rfl hS
    have ji : jin (nI i) 147968 = true := jin_nI (by omega) (by omega)
    have cW := fa_cnt_le (fun v => wh v == i) W
    refine Or.inl ?_
    show ∃ s', f_X11_goesRound_B4 t (nI len) (nI i) = _ ∧ _
    unfold f_X11_goesRound_B4 f_X11_goesRound_J43
    rw [hSt.1.1, if_neg (nI_ge hi (by omega)), bG_t ji, bG_t ji, ix_nI (by omega), (hSt.2.2.2.2.2.1 i hi).2, bV_e, bG_t ji, gI_sI]
    by_cases z : fa_cnt (fun v => wh v == i) W = 0
    · have ho : outE W wh i = true := decide_eq_true z
      rw [if_pos (show nI _ = 0 from congrArg nI z), bG_t (jin_nI (by omega) (by omega)), ix_nI (by omega), bV_e, bV_e, bV_e, nI_1, nI_1]
      refine ⟨_, rfl, up1 q len i, len + 1, rfl, rfl, by omega, fr_trans hf (fr_trans (fr_sI _ _ _ (by decide)) (fr_sI _ _ _ (by decide))), fun j hj => ?_, fun j l hj hl e => ?_, fun j hj hj2 => ?_, fun j hj => ?_⟩
      · by_cases y : j = len
        · subst y; rw [up1_at]; exact ⟨gI_sI _ _ _ _, by omega, ho⟩
        · obtain ⟨x1, x2, x3⟩ := c1 j (by omega)
          rw [up1_ne y]
          exact ⟨(gI_nei y).trans ((gI_ne (by decide)).trans x1), by omega, x3⟩
      · have nq : ∀ j, j < len → q j ≠ i := fun j hj e => by have := (c1 j hj).2.1; omega
        by_cases y : j = len <;> by_cases x : l = len
        · omega
        · subst y; rw [up1_at, up1_ne x] at e; exact absurd e.symm (nq l (by omega))
        · subst x; rw [up1_at, up1_ne y] at e; exact absurd e (nq j (by omega))
        · rw [up1_ne y, up1_ne x] at e; exact c2 j l (by omega) (by omega) e
      · by_cases y : j = i
        · subst y; exact ⟨len, by omega, up1_at _ _ _⟩
        · obtain ⟨l, l1, l2⟩ := c3 j (by omega) hj2
          exact ⟨l, by omega, by rw [up1_ne (by omega)]; exact l2⟩
      · show gI (sI (sI t 24 i _) 25 len _) 24 j = _
        rw [gI_ne (show (24 : Nat) ≠ 25 by decide)]
        by_cases y : j = i
        · subst y; rw [gI_sI]
        · rw [gI_nei y]; exact c4 j (by omega)
    · have ho : outE W wh i = false := decide_eq_false z
      rw [if_neg (fun e => z ((nI_eq0 (by omega)).mp e)), bV_e, nI_1]
      refine ⟨_, rfl, q, len, rfl, rfl, by omega, fr_trans hf (fr_sI _ _ _ (by decide)), fun j hj => ?_, c2, fun j hj hj2 => ?_, fun j hj => ?_⟩
      · obtain ⟨x1, x2, x3⟩ := c1 j hj
        exact ⟨(gI_ne (by decide)).trans x1, by omega, x3⟩
      · refine c3 j ?_ hj2
        rcases Nat.lt_or_ge j i with y | y
        · exact y
        · have : j = i := by omega
          subst this; rw [ho] at hj2; cases hj2
      · show gI (sI t 24 i _) 24 j = _
        by_cases y : j = i
        · subst y; rw [gI_sI]
        · rw [gI_nei y]; exact c4 j (by omega)
end MRV
