/-! best -/
def bst (may : Nat → Bool) (far : Nat → Nat) (pe : Bool) : Nat → Nat × Nat
  | 0 => (0, 0)
  | p + 1 => if may p = true ∧ ((bst may far pe p).1 = 0 ∨ (if pe = true then far p < (bst may far pe p).2 else (bst may far pe p).2 < far p)) then (p + 1, far p) else bst may far pe p
theorem bst_yes {may : Nat → Bool} {far : Nat → Nat} {pe : Bool} {p : Nat} (h : may p = true ∧ ((bst may far pe p).1 = 0 ∨ (if pe = true then far p < (bst may far pe p).2 else (bst may far pe p).2 < far p))) : bst may far pe (p + 1) = (p + 1, far p) := by rw [bst, if_pos h]
theorem bst_no {may : Nat → Bool} {far : Nat → Nat} {pe : Bool} {p : Nat} (h : ¬ (may p = true ∧ ((bst may far pe p).1 = 0 ∨ (if pe = true then far p < (bst may far pe p).2 else (bst may far pe p).2 < far p)))) : bst may far pe (p + 1) = bst may far pe p := by rw [bst, if_neg h]
theorem bst_le (may : Nat → Bool) (far : Nat → Nat) (pe : Bool) : ∀ p, (bst may far pe p).1 ≤ p ∧ ((bst may far pe p).1 = 0 → (bst may far pe p).2 = 0) ∧ ((bst may far pe p).1 ≠ 0 → ∃ q, may q = true ∧ (bst may far pe p).2 = far q)
  | 0 => ⟨Nat.le_refl 0, fun _ => rfl, fun h => absurd rfl h⟩
  | p + 1 => by
    obtain ⟨a, b, c⟩ := bst_le may far pe p
    by_cases h : may p = true ∧ ((bst may far pe p).1 = 0 ∨ (if pe = true then far p < (bst may far pe p).2 else (bst may far pe p).2 < far p))
    · rw [bst_yes h]
      exact ⟨Nat.le_refl _, fun e => absurd e (Nat.succ_ne_zero p), fun _ => ⟨p, h.1, rfl⟩⟩
    · rw [bst_no h]
      exact ⟨by omega, b, c⟩
theorem bst_none {may : Nat → Bool} {far : Nat → Nat} {pe : Bool} {n : Nat} (h : ∀ p, n ≤ p → may p = false) : ∀ m, n ≤ m → bst may far pe m = bst may far pe n := by
  intro m hm
  obtain ⟨d, rfl⟩ := Nat.le.dest hm
  induction d with
  | zero => rfl
  | succ d ih =>
    rw [← Nat.add_assoc, bst_no (fun z => by rw [h _ (by omega)] at z; cases z.1)]
    exact ih (by omega)
def farF (v : Nat) : Nat := if v = 0 then 1000000 else v - 1
theorem farF_le {v : Nat} (h : v ≤ 7000) : farF v ≤ 1000000 := by unfold farF; split <;> omega
theorem farF_I {v : Nat} (h : v ≤ 7000) : (if rI0 v = -1 then (1000000 : Int32) else rI0 v) = nI (farF v) ∧ (if 0 ≤ rI0 v then rI0 v else (1000000 : Int32)) = nI (farF v) := by
  unfold rI0 farF
  by_cases z : v = 0
  · rw [if_pos z, if_pos z]; exact ⟨rfl, rfl⟩
  · rw [if_neg z, if_neg z, if_neg (fun e => nI_pos (n := v - 1) (by omega) (by rw [e]; decide)), if_pos (nI_pos' (by omega))]
    exact ⟨rfl, rfl⟩
/-- the class's worth of a person -/
def wtI (pe fo : Bool) (v : Nat) : Int32 := if pe = true then (if fo = true then -(nI v) else 0) else nI v
theorem neg_le {a b : Nat} (ha : a ≤ 1000000) (hb : b ≤ 1000000) : -(nI a) ≤ -(nI b) ↔ b ≤ a := by
  have e : ∀ c, c ≤ 1000000 → (-(nI c) : Int32).toInt = -(c : Int) := fun c hc => by
    rw [Int32.toInt_neg]
    have : (nI c).toInt = (c : Int) := by
      rw [show nI c = Int32.ofNat c from rfl, Int32.toInt_ofNat_of_lt (by omega)]
    rw [this]
    exact Int.bmod_eq_of_le (by omega) (by omega)
  rw [fa_le, e a ha, e b hb]
  omega
theorem x_bst {σ : jS} {A : Tb} {x : Nat} {pe fo : Bool} {may : Nat → Bool} {far : Nat → Nat} (hfar : ∀ p, may p = true → far p ≤ 1000000) (hsame : pe = true → fo = false → ∀ p, may p = true → far p = 1000000) (hneed : ∀ p, p < 16 → may p = true → ∃ d y v, f_X0_spotFor σ (nI x) (nI p) = some (nI d) ∧ f_X0_after (nI x) (nI d) = some (nI y) ∧ f_X0_neededAt σ (nI y) = some (rI0 v) ∧ v ≤ 7000 ∧ far p = farF v) (hall : f_X0_allowed σ (nI x) = some (nI (bm may 16))) : f_X0_bestPerson_J35 σ (nI x) (bI pe) (bI fo) = some (nI (bst may far pe 16).1 - 1, σ) := by
  unfold f_X0_bestPerson_J35
  rw [hall, bC_e]
  have b2 : ∀ p, (bst may far pe p).2 ≤ 1000000 := fun p => by
    obtain ⟨_, b, c⟩ := bst_le may far pe p
    by_cases z : (bst may far pe p).1 = 0
    · rw [b z]; omega
    · obtain ⟨q, q1, q2⟩ := c z
      rw [q2]; exact hfar q q1
  refine jloop_0 (fun p => (nI (bst may far pe p).1 - 1, (if (bst may far pe p).1 = 0 then 0 else wtI pe fo (bst may far pe p).2), nI p, σ)) 16 (by rfl) (jfuel_big (by omega)) ?_ ?_
  · show f_X0_bestPerson_B53 σ (nI x) (bI pe) (bI fo) (nI (bm may 16)) _ _ (nI 16) = _
    unfold f_X0_bestPerson_B53 f_X0_bestPerson_J151
    rw [if_pos (show (16 : Int32) ≤ nI 16 from Int32.le_refl _), jw_e]
  · intro p hp
    show f_X0_bestPerson_B53 σ (nI x) (bI pe) (bI fo) (nI (bm may 16)) (nI (bst may far pe p).1 - 1) (if (bst may far pe p).1 = 0 then 0 else wtI pe fo (bst may far pe p).2) (nI p) = some (Sum.inl (nI (bst may far pe (p + 1)).1 - 1, (if (bst may far pe (p + 1)).1 = 0 then 0 else wtI pe fo (bst may far pe (p + 1)).2), nI (p + 1), σ))
    have ble := (bst_le may far pe p).1
    have bz := b2 p
    unfold f_X0_bestPerson_B53
    rw [if_neg (show ¬ (16 : Int32) ≤ nI p from nI_ge (b := 16) hp (by decide)), nI_bit (bm16 _) (by omega), bm_bit, decide_eq_true hp, Bool.true_and]
    cases hm : may p with
    | false =>
      rw [if_pos (show (if false = true then (1 : Int32) else 0) = 0 by decide)]
      unfold f_X0_bestPerson_J145
      rw [bV_e, nI_1, bst_no (fun z => by rw [hm] at z; cases z.1)]
    | true =>
      obtain ⟨d, y, v, e1, e2, e3, e4, e5⟩ := hneed p hp hm
      have fp := hfar p hm
      rw [if_neg (show ¬ (if true = true then (1 : Int32) else 0) = 0 by decide), e1, bC_e, e2, bC_e, e3, bC_e]
      have pick : (if rI0 v = -1 then f_X0_bestPerson_J101 σ (nI x) (bI pe) (bI fo) (nI (bm may 16)) (nI (bst may far pe p).1 - 1) (if (bst may far pe p).1 = 0 then 0 else wtI pe fo (bst may far pe p).2) (nI p) 1000000 else f_X0_bestPerson_J101 σ (nI x) (bI pe) (bI fo) (nI (bm may 16)) (nI (bst may far pe p).1 - 1) (if (bst may far pe p).1 = 0 then 0 else wtI pe fo (bst may far pe p).2) (nI p) (rI0 v)) = f_X0_bestPerson_J122 σ (nI x) (bI pe) (bI fo) (nI (bm may 16)) (nI (bst may far pe p).1 - 1) (if (bst may far pe p).1 = 0 then 0 else wtI pe fo (bst may far pe p).2) (nI p) (wtI pe fo (far p)) := by
        have := (farF_I e4).1
        have e : ∀ u : Int32, f_X0_bestPerson_J101 σ (nI x) (bI pe) (bI fo) (nI (bm may 16)) (nI (bst may far pe p).1 - 1) (if (bst may far pe p).1 = 0 then 0 else wtI pe fo (bst may far pe p).2) (nI p) u = f_X0_bestPerson_J122 σ (nI x) (bI pe) (bI fo) (nI (bm may 16)) (nI (bst may far pe p).1 - 1) (if (bst may far pe p).1 = 0 then 0 else wtI pe fo (bst may far pe p).2) (nI p) (if pe = true then (if fo = true then -u else 0) else u) := fun u => by
          unfold f_X0_bestPerson_J101
          cases pe with
          | false => rw [if_pos (show bI false = 0 by decide), if_neg (show ¬ false = true by decide)]
          | true =>
            rw [if_neg (show ¬ bI true = 0 by decide), if_pos (show true = true from rfl)]
            cases fo with
            | false => rw [if_pos (show bI false = 0 by decide), if_neg (show ¬ false = true by decide)]
            | true => rw [if_neg (show ¬ bI true = 0 by decide), if_pos (show true = true from rfl)]
        rw [e, e]
        unfold wtI
        rw [e5]
        by_cases z : rI0 v = -1
        · rw [if_pos z] at this ⊢
          rw [this]
        · rw [if_neg z] at this ⊢
          rw [this]
      rw [pick]
      unfold f_X0_bestPerson_J122 f_X0_bestPerson_J137 f_X0_bestPerson_J145
      rw [bV_e, bV_e, nI_1]
      by_cases z : (bst may far pe p).1 = 0
      · rw [z, if_pos (show nI 0 - 1 = -1 by decide), bst_yes ⟨hm, Or.inl z⟩]
        rw [if_neg (Nat.succ_ne_zero p)]
        show some (Sum.inl (nI p, wtI pe fo (far p), nI (p + 1), σ)) = some (Sum.inl (nI (p + 1) - 1, wtI pe fo (far p), nI (p + 1), σ))
        rw [← nI_1 p]
        simp
      · rw [if_neg (show ¬ nI (bst may far pe p).1 - 1 = -1 from fun e => by
          rw [show (1 : Int32) = nI 1 from rfl, nI_sub (by omega)] at e
          exact nI_pos (n := (bst may far pe p).1 - 1) (by omega) (by rw [e]; decide)), if_neg z]
        have cmp : (wtI pe fo (far p) ≤ wtI pe fo (bst may far pe p).2) ↔ ¬ (if pe = true then far p < (bst may far pe p).2 else (bst may far pe p).2 < far p) := by
          unfold wtI
          cases pe with
          | false =>
            rw [if_neg (by decide), if_neg (by decide), if_neg (by decide), nI_leI (by omega) (by omega)]
            omega
          | true =>
            rw [if_pos rfl, if_pos rfl, if_pos rfl]
            cases fo with
            | true =>
              rw [if_pos rfl, if_pos rfl, neg_le fp bz]
              omega
            | false =>
              rw [if_neg (by decide), if_neg (by decide)]
              obtain ⟨q, q1, q2⟩ := (bst_le may far true p).2.2 z
              have s1 := hsame rfl rfl p hm
              have s2 := hsame rfl rfl q q1
              exact ⟨fun _ => by omega, fun _ => Int32.le_refl _⟩
        by_cases y : (if pe = true then far p < (bst may far pe p).2 else (bst may far pe p).2 < far p)
        · rw [if_neg (fun e => cmp.mp e y), bst_yes ⟨hm, Or.inr y⟩, if_neg (Nat.succ_ne_zero p)]
          show some (Sum.inl (nI p, wtI pe fo (far p), nI (p + 1), σ)) = some (Sum.inl (nI (p + 1) - 1, wtI pe fo (far p), nI (p + 1), σ))
          rw [← nI_1 p]
          simp
        · rw [if_pos (cmp.mpr y), bst_no (fun e => e.2.elim z y), if_neg z]
theorem m_bst {τ : jS} {q c n : Nat} {pe : Bool} {may : Nat → Bool} {far : Nat → Nat} (hN : wN τ) (h4 : q < 4) (h9 : gI τ 9 q = nI c) (hc : c < 147968) (hfar : ∀ p, may p = true → far p ≤ 1000000) (hneed : ∀ p, p < tP (mn τ) → may p = true → ∃ j v, behQ (mn τ) c p < 147968 ∧ j < 100000 ∧ gI τ 18 (behQ (mn τ) c p) = nI (j + 1) ∧ gI τ 27 j = rI0 v ∧ v ≤ 7000 ∧ far p = farF v) (_hn : n = n) : f_X11_best_J60 τ (nI q) (nI (bm may 16)) (bI pe) = some (nI (bst may far pe (tP (mn τ))).1 - 1, τ) := by
  have hP16 := hN.1.2
  have b2 : ∀ p, (bst may far pe p).2 ≤ 1000000 := fun p => by
    obtain ⟨_, b, c⟩ := bst_le may far pe p
    by_cases z : (bst may far pe p).1 = 0
    · rw [b z]; omega
    · obtain ⟨q, q1, q2⟩ := c z
      rw [q2]; exact hfar q q1
  unfold f_X11_best_J60
  refine jloop_0 (fun p => (nI (bst may far pe p).1 - 1, nI (bst may far pe p).2, nI p, τ)) (tP (mn τ)) (by rfl) (jfuel_big (by omega)) ?_ ?_
  · show f_X11_best_B71 τ (nI q) (nI (bm may 16)) (bI pe) _ _ (nI (tP (mn τ))) = _
    unfold f_X11_best_B71 f_X11_best_J198
    rw [hN.1.1, if_pos (Int32.le_refl _), jw_e]
  · intro p hp
    show f_X11_best_B71 τ (nI q) (nI (bm may 16)) (bI pe) (nI (bst may far pe p).1 - 1) (nI (bst may far pe p).2) (nI p) = some (Sum.inl (nI (bst may far pe (p + 1)).1 - 1, nI (bst may far pe (p + 1)).2, nI (p + 1), τ))
    have ble := (bst_le may far pe p).1
    have bz := b2 p
    unfold f_X11_best_B71
    rw [hN.1.1, if_neg (nI_ge hp (by omega))]
    cases hm : may p with
    | false =>
      rw [m_hasF (by decide) (by omega) hm, bC_e, if_pos rfl]
      unfold f_X11_best_J192
      rw [bV_e, nI_1, bst_no (fun z => by rw [hm] at z; cases z.1)]
    | true =>
      obtain ⟨j, v, e1, e2, e3, e4, e5, e6⟩ := hneed p hp hm
      have fp := hfar p hm
      have em : nI (j + 1) - 1 = nI j := by rw [show (1 : Int32) = nI 1 from rfl, nI_sub (by omega), Nat.add_sub_cancel]
      rw [m_hasT (by decide) (by omega) hm, bC_e, if_neg (show ¬ (1 : Int32) = 0 by decide), bG_t (jin_nI h4 (by omega)), ix_nI (by omega), h9, m_behindQ hN hc (by omega), bC_e, bG_t (jin_nI e1 (by omega)), ix_nI (by omega), e3, em, bG_t (jin_nI (by omega) (by omega)), ix_nI (by omega), e4, bV_e]
      have pick : (if 0 ≤ rI0 v then f_X11_best_J128 τ (nI q) (nI (bm may 16)) (bI pe) (nI (bst may far pe p).1 - 1) (nI (bst may far pe p).2) (nI p) (rI0 v) else f_X11_best_J128 τ (nI q) (nI (bm may 16)) (bI pe) (nI (bst may far pe p).1 - 1) (nI (bst may far pe p).2) (nI p) 1000000) = f_X11_best_J128 τ (nI q) (nI (bm may 16)) (bI pe) (nI (bst may far pe p).1 - 1) (nI (bst may far pe p).2) (nI p) (nI (far p)) := by
        have := (farF_I e5).2
        rw [e6]
        by_cases z : 0 ≤ rI0 v
        · rw [if_pos z] at this ⊢; rw [this]
        · rw [if_neg z] at this ⊢; rw [this]
      rw [pick]
      unfold f_X11_best_J128 f_X11_best_J157 f_X11_best_J161 f_X11_best_J162 f_X11_best_J176 f_X11_best_J190 f_X11_best_J192
      rw [if_neg (show ¬ (1 : Int32) = 0 by decide), if_neg (show ¬ (1 : Int32) = 0 by decide), if_pos rfl, if_pos rfl, bV_e, bV_e, nI_1]
      have up : (some (Sum.inl (nI p, nI (far p), nI (p + 1), τ)) : Option ((Int32 × Int32 × Int32 × jS) ⊕ (Int32 × jS))) = some (Sum.inl (nI (p + 1) - 1, nI (far p), nI (p + 1), τ)) := by
        rw [← nI_1 p]; simp
      by_cases z : (bst may far pe p).1 = 0
      · rw [z, if_pos (show nI 0 - 1 < 0 by decide), bst_yes ⟨hm, Or.inl z⟩]
        exact up
      · rw [if_neg (show ¬ nI (bst may far pe p).1 - 1 < 0 from fun e => by
          rw [show (1 : Int32) = nI 1 from rfl, nI_sub (by omega)] at e
          exact nI_pos (n := (bst may far pe p).1 - 1) (by omega) e)]
        cases pe with
        | false =>
          rw [if_pos (show bI false = 0 by decide)]
          by_cases y : (bst may far false p).2 < far p
          · rw [if_neg (nI_ge y (by omega)), bst_yes ⟨hm, Or.inr (by rw [if_neg (by decide)]; exact y)⟩]
            exact up
          · rw [if_pos (nI_le (by omega) (by omega)), bst_no (fun e => e.2.elim z (by rw [if_neg (by decide)]; exact y))]
        | true =>
          rw [if_neg (show ¬ bI true = 0 by decide)]
          by_cases y : far p < (bst may far true p).2
          · rw [if_neg (nI_ge y (by omega)), bst_yes ⟨hm, Or.inr (by rw [if_pos rfl]; exact y)⟩]
            exact up
          · rw [if_pos (nI_le (by omega) (by omega)), bst_no (fun e => e.2.elim z (by rw [if_pos rfl]; exact y))]
