/-! the class looks back -/
def vL (n : Nat) (L : Nat → Nat) (c : Nat) : Prop := ∃ j, j < n ∧ L j = c
def P2 (A : Tb) (V : Nat → Prop) (tm pc : Nat → Bool) (lm : Nat) (nd q : Nat → Nat) (len i : Nat) (dn : Nat → Nat → Bool) (σ : jS) : Prop :=
  BI V tm pc (scX A) nd q len i dn ∧ gI σ 4 2 = nI len ∧ (∀ j, j < len → gI σ 13 j = nI (q j)) ∧
  (∀ c, V c → gI σ 14 c = if nd c = 0 then -1 else nI (nd c)) ∧ (∀ c, c < 6272 → ¬ V c → gI σ 14 c = 0) ∧
  (∀ x, V x → nd x = 0 → stN A (cv A x) = 0 → gI σ 15 x = nI (fa_cnt (fun y => scX A x y && !dn x y) 6272)) ∧
  (∀ c, c < 6272 → ∃ v, v ≤ lm ∧ gI σ 15 c = nI v) ∧ ∀ j, j < len → nd (q j) ≤ j + 1
/-- what looking back writes -/
def lfr (σ σ' : jS) : Prop := fr [4, 13, 14, 15] σ σ' ∧ ∀ i, i ≠ 2 → gI σ' 4 i = gI σ 4 i
theorem lfr_tr {a b c : jS} (h : lfr a b) (g : lfr b c) : lfr a c := ⟨fr_trans h.1 g.1, fun i x => (g.2 i x).trans (h.2 i x)⟩
theorem lfr_rfl (σ : jS) : lfr σ σ := ⟨fr_rfl _ _, fun _ _ => rfl⟩
theorem lfr_W {σ σ' : jS} {A : Tb} (h : lfr σ σ') (x : xW σ A) : xW σ' A := xW_fr h.1 rfl x
section LKX
variable {A : Tb} {V : Nat → Prop} {tm pc : Nat → Bool} {lm : Nat} {nd q : Nat → Nat} {len i : Nat} {dn : Nat → Nat → Bool} {σ : jS} {pI : Int32}
theorem q_room (h : BI V tm pc (scX A) nd q len i dn) (hV : ∀ c, V c → c < 6272) {p : Nat} (hp : V p) (h0 : nd p = 0) : len < 6272 := by
  obtain ⟨a, b, _⟩ := h
  have ne : ∀ j, j < len → q j ≠ p := fun j hj z => (a j hj).2 (by rw [z]; exact h0)
  have := pigeon 6272 (len + 1) (up1 q len p) (fun j hj => by
    by_cases r : j = len
    · subst r; rw [up1_at]; exact hV _ hp
    · rw [up1_ne r]; exact hV _ (a j (by omega)).1) (fun j l hj hl e => by
    by_cases r : j = len <;> by_cases t : l = len
    · omega
    · subst r; rw [up1_at, up1_ne t] at e; exact absurd e.symm (ne l (by omega))
    · subst t; rw [up1_at, up1_ne r] at e; exact absurd e (ne j (by omega))
    · rw [up1_ne r, up1_ne t] at e; exact b j l (by omega) (by omega) e)
  omega
theorem cnt_dn {p s : Nat} (hs : scX A p s = true) (hd : dn p s = false) (hs6 : s < 6272) : fa_cnt (fun y => scX A p y && !dn1 dn p s p y) 6272 + 1 = fa_cnt (fun y => scX A p y && !dn p y) 6272 := by
  have cd := cnt_drop (fun y => scX A p y && !dn p y) (j := s) 6272
  rw [if_pos ⟨hs6, by rw [hs, hd]; rfl⟩] at cd
  rw [← cd]
  refine congrArg (fun m => m + 1) (fa_cnt_cong fun y _ => ?_)
  unfold dn1
  by_cases z : y = s
  · subst z; simp
  · have : (y == s) = false := beq_eq_false_iff_ne.mpr z
    simp [this, z]
theorem x_oneWay (h : P2 A V tm pc lm nd q len i dn σ) (hV : ∀ c, V c → c < 6272) (hpI : ∀ x, x < 6272 → (nI (x % 2) = pI ↔ pc x = true)) (hlm : lm < 2 ^ 31) (hi : i < len) {p : Nat} (hp : V p) (hs : scX A p (q i) = true) (h0 : nd p = 0) (hd : dn p (q i) = false) : ∃ nd' q' len' σ', f_X0_solveOneWay σ (nI p) (nI (nd (q i) + 1)) pI = some ((), σ') ∧ P2 A V tm pc lm nd' q' len' i (dn1 dn p (q i)) σ' ∧ (∀ j, j < len → q' j = q j) ∧ len ≤ len' ∧ (∀ x, nd x ≠ 0 → nd' x = nd x) ∧ lfr σ σ' := by
  obtain ⟨B, r1, r2, r3, r4, r5, r6, r7⟩ := h
  have hp6 := hV p hp
  have hs6 := hV _ (B.1 i hi).1
  have st := (scX_iff.mp hs).1
  have room := q_room B hV hp h0
  have ls := r5 p hp h0 st
  have cd := cnt_dn hs hd hs6
  have cle := fa_cnt_le (fun y => scX A p y && !dn p y) 6272
  have tmp : tm p = false := by
    cases ht : tm p with
    | true => have := (B.2.2.2.2.2.2.1 p hp).mp ht; omega
    | false => rfl
  generalize hc : fa_cnt (fun y => scX A p y && !dn1 dn p (q i) p y) 6272 = c at *
  have e1 : nI (fa_cnt (fun y => scX A p y && !dn p y) 6272) - 1 = nI c := by
    rw [← cd, show (1 : Int32) = nI 1 from rfl, nI_sub (by omega), Nat.add_sub_cancel]
  have all0 : c = 0 ↔ ∀ z, scX A p z = true → dn1 dn p (q i) p z = true := by
    constructor
    · intro z y hy
      have hy6 : y < 6272 := by
        obtain ⟨_, ⟨_, e⟩ | ⟨d, d1, _, e⟩⟩ := scX_iff.mp hy
        · rw [e]; unfold flp; omega
        · rw [e]; exact (afx_parts hp6 d1).1
      have := cnt_none (hc.trans z) y hy6
      rw [hy, Bool.true_and] at this
      cases hb : dn1 dn p (q i) p y with
      | true => rfl
      | false => rw [hb] at this; cases this
    · intro z
      rw [← hc]
      have : fa_cnt (fun y => scX A p y && !dn1 dn p (q i) p y) 6272 = fa_cnt (fun _ => false) 6272 := fa_cnt_cong fun y _ => by
        cases hy : scX A p y with
        | true => rw [z y hy]; rfl
        | false => rfl
      rw [this]
      have g : ∀ N, fa_cnt (fun _ => false) N = 0 := fun N => by
        induction N with
        | zero => rfl
        | succ N ih => rw [fa_cnt, ih]; rfl
      exact g _
  have bnd : ∃ v, v ≤ lm ∧ nI c = nI v := by
    obtain ⟨v, v1, v2⟩ := r6 p hp6
    rw [ls] at v2
    exact ⟨c, by
      have := (nI_eq (a := fa_cnt (fun y => scX A p y && !dn p y) 6272) (by omega) (show v < 2 ^ 31 by omega)).mp v2
      omega, rfl⟩
  unfold f_X0_solveOneWay f_X0_solveOneWay_J34 f_X0_solveOneWay_J40
  rw [at15 hp6, bC_e, ls, e1, bV_e, put15 hp6, bD_e, and1]
  have settle_case : (pc p = true ∨ ∀ z, scX A p z = true → dn1 dn p (q i) p z = true) → ∃ nd' q' len' σ', (bD (f_X0_settle (sI σ 15 p (nI c)) (nI p) (nI (nd (q i) + 1))) fun r5 σ6 => (some ((), σ6) : Option (Unit × jS))) = some ((), σ') ∧ P2 A V tm pc lm nd' q' len' i (dn1 dn p (q i)) σ' ∧ (∀ j, j < len → q' j = q j) ∧ len ≤ len' ∧ (∀ x, nd x ≠ 0 → nd' x = nd x) ∧ lfr σ σ' := by
    intro hok
    have B2 := BI_s1 B hi hp hs h0 hok
    have ndq := r7 i hi
    unfold f_X0_settle
    rw [put14 hp6, bD_e, gI_ne (show (4 : Nat) ≠ 14 by decide), gI_ne (show (4 : Nat) ≠ 15 by decide), r1, put13 room, bD_e, gI_ne (show (4 : Nat) ≠ 13 by decide), gI_ne (show (4 : Nat) ≠ 14 by decide), gI_ne (show (4 : Nat) ≠ 15 by decide), r1, nI_1, bV_e, bD_e]
    refine ⟨up1 nd p (nd (q i) + 1), up1 q len p, len + 1, _, rfl, ⟨B2, gI_sI _ _ _ _, fun j hj => ?_, fun c' hc' => ?_, fun c' hc' hv => ?_, fun x hx hx0 hst => ?_, fun c' hc' => ?_, fun j hj => ?_⟩, fun j hj => up1_ne (by omega), by omega, fun x hx => up1_ne (fun e => hx (by rw [e]; exact h0)), ?_, ?_⟩
    · rw [gI_ne (by decide)]
      by_cases z : j = len
      · subst z; rw [gI_sI, up1_at]
      · rw [gI_nei z, up1_ne z, gI_ne (by decide), gI_ne (by decide)]; exact r2 j (by omega)
    · rw [gI_ne (by decide), gI_ne (by decide)]
      by_cases z : c' = p
      · subst z; rw [gI_sI, up1_at, if_neg (by omega)]
      · rw [gI_nei z, up1_ne z, gI_ne (by decide)]; exact r3 c' hc'
    · rw [gI_ne (by decide), gI_ne (by decide), gI_nei (fun e => hv (by rw [e]; exact hp)), gI_ne (by decide)]
      exact r4 c' hc' hv
    · have z : x ≠ p := fun e => by subst e; rw [up1_at] at hx0; omega
      rw [up1_ne z] at hx0
      rw [gI_ne (by decide), gI_ne (by decide), gI_ne (by decide), gI_nei z]
      rw [r5 x hx hx0 hst]
      exact congrArg nI (fa_cnt_cong fun y _ => by rw [dn1_ne z])
    · rw [gI_ne (by decide), gI_ne (by decide), gI_ne (by decide)]
      by_cases z : c' = p
      · subst z; rw [gI_sI]; exact bnd
      · rw [gI_nei z]; exact r6 c' hc'
    · by_cases z : j = len
      · subst z; rw [up1_at, up1_at]; omega
      · have nq : q j ≠ p := fun e => (B.1 j (by omega)).2 (by rw [e]; exact h0)
        rw [up1_ne z, up1_ne nq]; exact r7 j (by omega)
    · exact fr_trans (fr_trans (fr_trans (fr_sI _ _ _ (by decide)) (fr_sI _ _ _ (by decide))) (fr_sI _ _ _ (by decide))) (fr_sI _ _ _ (by decide))
    · intro j hj
      rw [gI_nei hj, gI_ne (by decide), gI_ne (by decide), gI_ne (by decide)]
  by_cases hpc : pc p = true
  · rw [if_pos ((hpI p hp6).mpr hpc)]
    exact settle_case (Or.inl hpc)
  · rw [if_neg (fun e => hpc ((hpI p hp6).mp e))]
    by_cases z0 : c = 0
    · rw [if_pos (show nI c = 0 from congrArg nI z0)]
      exact settle_case (Or.inr (all0.mp z0))
    · rw [if_neg (fun e => z0 ((nI_eq0 (by omega)).mp e))]
      have pcf : pc p = false := by
        cases hb : pc p with
        | true => exact absurd hb hpc
        | false => rfl
      have ex' : ∃ z, scX A p z = true ∧ dn1 dn p (q i) p z = false := by
        apply Classical.byContradiction
        intro hn
        refine z0 (all0.mpr fun z hz => ?_)
        cases hb : dn1 dn p (q i) p z with
        | true => rfl
        | false => exact absurd ⟨z, hz, hb⟩ hn
      have B2 := BI_s2 B hi hp hs h0 pcf ex'
      refine ⟨nd, q, len, _, rfl, ⟨B2, (gI_ne (by decide)).trans r1, fun j hj => (gI_ne (by decide)).trans (r2 j hj), fun c' hc' => (gI_ne (by decide)).trans (r3 c' hc'), fun c' hc' hv => (gI_ne (by decide)).trans (r4 c' hc' hv), fun x hx hx0 hst => ?_, fun c' hc' => ?_, r7⟩, fun _ _ => rfl, Nat.le_refl _, fun _ _ => rfl, fr_sI _ _ _ (by decide), fun j hj => gI_ne (by decide)⟩
      · by_cases z : x = p
        · subst z; rw [gI_sI, hc]
        · rw [gI_nei z, r5 x hx hx0 hst]
          exact congrArg nI (fa_cnt_cong fun y _ => by rw [dn1_ne z])
      · by_cases z : c' = p
        · subst z; rw [gI_sI]; exact bnd
        · rw [gI_nei z]; exact r6 c' hc'
/-- one that is solved already: the way is done with -/
theorem x_doneWay (h : P2 A V tm pc lm nd q len i dn σ) (hi : i < len) {p : Nat} (hp : V p) (hs : scX A p (q i) = true) (h0 : nd p ≠ 0) : P2 A V tm pc lm nd q len i (dn1 dn p (q i)) σ := by
  obtain ⟨B, r1, r2, r3, r4, r5, r6, r7⟩ := h
  refine ⟨BI_s3 B hi hp hs h0, r1, r2, r3, r4, fun x hx hx0 hst => ?_, r6, r7⟩
  rw [r5 x hx hx0 hst]
  have z : x ≠ p := fun e => h0 (by rw [← e]; exact hx0)
  exact congrArg nI (fa_cnt_cong fun y _ => by rw [dn1_ne z])
end LKX
