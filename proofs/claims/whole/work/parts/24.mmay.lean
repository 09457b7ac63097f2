/-! to whom it may be handed: the reference -/
theorem jfuel_big {n : Nat} (h : n ≤ 1000000) : n < jFuel := Nat.lt_of_le_of_lt h (by decide +kernel)
/-- to whom the one of side s may hand it, by what is owed -/
def mayG (A : Tb) (ow : Nat → Nat → Bool) (c s q : Nat) : Bool := decide (q < tP A) && ow (cHold c s) q && lawful A (cHold c s) q && !(q == cHold c (1 - s)) && !(!(tB A == 0) && cFr c s == q + 1)
theorem mayG_owes (A : Tb) (c s : Nat) : mayG A (owes A) c s = mayP A c s := rfl
theorem m_owedNow {τ : jS} (hO : wO τ) (hu : gI τ 1 35 = -1) {p : Nat} (hp : p < 16) : f_X11_owedNow τ (nI p) = some (nI (bm (owes (mn τ) p) 16)) := by
  unfold f_X11_owedNow
  rw [hu, if_neg (by decide), bG_t (jin_nI hp (by omega)), ix_nI (by omega), hO p hp]
theorem nI_eqm {a b : Nat} (ha : a < 17) (hb : b < 17) : nI a - 1 = nI b ↔ a = b + 1 := by
  have : ∀ a, a < 17 → ∀ b, b < 17 → (nI a - 1 = nI b ↔ a = b + 1) := by decide +kernel
  exact this a ha b hb
theorem m_mayOf {τ : jS} (hN : wN τ) (hS : wS τ) {ow : Nat → Nat → Bool} {c s : Nat} (hc : c < 147968) (hs : s < 2) (how : f_X11_owedNow τ (nI (cHold c s)) = some (nI (bm (ow (cHold c s)) 16))) : f_X11_mayOf τ (nI c) (nI s) = some (nI (bm (mayG (mn τ) ow c s) 16)) := by
  unfold f_X11_mayOf
  rw [m_holder hc hs, bC_e, how, bC_e]
  have hP := hN.1
  have hh := cHold_lt (s := s) hc
  have key : jloop jFuel (fun s_1 : Int32 × Int32 => f_X11_mayOf_B19 τ (nI c) (nI s) (nI (cHold c s)) (nI (bm (ow (cHold c s)) 16)) s_1.1 s_1.2) (0, 0) = some (nI (bm (mayG (mn τ) ow c s) (tP (mn τ)))) := by
    refine jloop_0 (fun i => (nI (bm (mayG (mn τ) ow c s) i), nI i)) (tP (mn τ)) rfl (jfuel_big (by omega)) ?_ ?_
    · show f_X11_mayOf_B19 τ _ _ _ _ _ _ = _
      unfold f_X11_mayOf_B19
      rw [hP.1, if_pos (Int32.le_refl _)]
      rfl
    · intro i hi
      show f_X11_mayOf_B19 τ _ _ _ _ _ _ = some (Sum.inl (nI (bm (mayG (mn τ) ow c s) (i + 1)), nI (i + 1)))
      have fin : ∀ b : Bool, mayG (mn τ) ow c s i = b → f_X11_mayOf_J82 τ (nI c) (nI s) (nI (cHold c s)) (nI (bm (ow (cHold c s)) 16)) (nI (bm (mayG (mn τ) ow c s) i)) (nI i) (if b then 1 else 0) = some (Sum.inl (nI (bm (mayG (mn τ) ow c s) (i + 1)), nI (i + 1))) := by
        intro b hb
        rw [← bm_step (mayG (mn τ) ow c s) (k := i) (by omega), hb]
        unfold f_X11_mayOf_J82 f_X11_mayOf_J99
        cases b
        · rw [if_pos (show (if false = true then (1 : Int32) else 0) = 0 from rfl), bV_e, bV_e, nI_1]; rfl
        · rw [if_neg (show ¬ (if true = true then (1 : Int32) else 0) = 0 by decide), bV_e, bV_e, nI_1]; rfl
      have F : mayG (mn τ) ow c s i = false → f_X11_mayOf_J81 τ (nI c) (nI s) (nI (cHold c s)) (nI (bm (ow (cHold c s)) 16)) (nI (bm (mayG (mn τ) ow c s) i)) (nI i) = some (Sum.inl (nI (bm (mayG (mn τ) ow c s) (i + 1)), nI (i + 1))) := fin false
      have T : mayG (mn τ) ow c s i = true → f_X11_mayOf_J77 τ (nI c) (nI s) (nI (cHold c s)) (nI (bm (ow (cHold c s)) 16)) (nI (bm (mayG (mn τ) ow c s) i)) (nI i) = some (Sum.inl (nI (bm (mayG (mn τ) ow c s) (i + 1)), nI (i + 1))) := fin true
      unfold f_X11_mayOf_B19
      rw [hP.1, if_neg (nI_ge hi (by omega)), m_has (by decide) (by omega), bC_e]
      cases h1 : ow (cHold c s) i with
      | false => rw [if_pos (by simp)]; exact F (by simp [mayG, h1])
      | true =>
        rw [if_neg (by simp; omega), m_isLawful hN hS hh (by omega), bC_e]
        cases h2 : lawful (mn τ) (cHold c s) i with
        | false => rw [if_pos (by simp)]; exact F (by simp [mayG, h2])
        | true =>
          rw [if_neg (by simp), show (1 : Int32) - nI s = nI (1 - s) from nI_sub (a := 1) (by omega), m_holder hc (by omega), bC_e]
          by_cases h3 : i = cHold c (1 - s)
          · rw [if_pos (congrArg nI h3)]; exact F (by simp [mayG, h3])
          · rw [if_neg (fun e => h3 ((nI_eq (by omega) (by have := cHold_lt (s := 1 - s) hc; omega)).mp e)), hN.2.2.2.2.2.1]
            by_cases h4 : tB (mn τ) = 0
            · rw [h4, if_pos (show nI 0 = 0 from rfl)]; exact T (by simp [mayG, h1, h2, h3, h4]; omega)
            · rw [if_neg (fun e => h4 ((nI_eq0 (by have := hN.2.2.2.2.2.2; omega)).mp e)), m_from hc hs, bC_e]
              by_cases h5 : cFr c s = i + 1
              · rw [if_pos ((nI_eqm (cFr_lt c s) (by omega)).mpr h5)]; exact F (by simp [mayG, h4, h5])
              · rw [if_neg (fun e => h5 ((nI_eqm (cFr_lt c s) (by omega)).mp e))]; exact T (by simp [mayG, h1, h2, h3, h5]; omega)
  have e : bm (mayG (mn τ) ow c s) (tP (mn τ)) = bm (mayG (mn τ) ow c s) 16 := by
    apply bm_eq_of
    intro k
    rw [bm_bit]
    by_cases q : k < tP (mn τ)
    · have : k < 16 := by omega
      simp [q, this]
    · by_cases q2 : k < 16
      · simp [q, q2, mayG]
      · simp [q, q2]
  rw [← e]
  exact key
/-- the state of a quarrel, by what is owed -/
def stG (A : Tb) (ow : Nat → Nat → Bool) (c : Nat) : Nat := if ended A c then 1 else if bm (mayG A ow c 0) 16 = 0 ∧ bm (mayG A ow c 1) 16 = 0 then 2 else 0
theorem stG_owes (A : Tb) (c : Nat) : stG A (owes A) c = stN A c := rfl
theorem bm16 (p : Nat → Bool) : bm p 16 < 2 ^ 31 := Nat.lt_trans (bm_lt p 16) (by decide)
theorem m_stateOf {τ : jS} (hN : wN τ) (hS : wS τ) (hG : wG τ) {ow : Nat → Nat → Bool} {c : Nat} (hc : c < 147968) (how : ∀ s, s < 2 → f_X11_owedNow τ (nI (cHold c s)) = some (nI (bm (ow (cHold c s)) 16))) : f_X11_stateOf τ (nI c) = some (nI (stG (mn τ) ow c)) := by
  unfold f_X11_stateOf f_X11_stateOf_J34 f_X11_stateOf_J35
  rw [m_isEnded hN hG hc, bC_e]
  unfold stG
  cases h1 : ended (mn τ) c with
  | true => rfl
  | false =>
    rw [if_pos (by simp), show (0 : Int32) = nI 0 from rfl, m_mayOf hN hS hc (by decide) (how 0 (by decide)), bC_e]
    by_cases h2 : bm (mayG (mn τ) ow c 0) 16 = 0
    · rw [if_pos (congrArg nI h2), show (1 : Int32) = nI 1 from rfl, m_mayOf hN hS hc (by decide) (how 1 (by decide)), bC_e]
      by_cases h3 : bm (mayG (mn τ) ow c 1) 16 = 0
      · rw [if_pos (congrArg nI h3)]; simp [h2, h3]; rfl
      · rw [if_neg (fun e => h3 ((nI_eq (bm16 _) (by decide)).mp e))]; simp [h2, h3]
    · rw [if_neg (fun e => h2 ((nI_eq (bm16 _) (by decide)).mp e))]; simp [h2]
/-- whom the one to deliver may give it -/
def nowG (A : Tb) (ow : Nat → Nat → Bool) (c : Nat) : Nat := if stG A ow c = 0 then bm (mayG A ow c (cSide c)) 16 else 0
theorem stG_le (A : Tb) (ow : Nat → Nat → Bool) (c : Nat) : stG A ow c ≤ 2 := by
  unfold stG
  split
  · omega
  · split <;> omega
theorem m_mayNow {τ : jS} (hN : wN τ) (hS : wS τ) (hG : wG τ) {ow : Nat → Nat → Bool} {c : Nat} (hc : c < 147968) (how : ∀ s, s < 2 → f_X11_owedNow τ (nI (cHold c s)) = some (nI (bm (ow (cHold c s)) 16))) : f_X11_mayNow τ (nI c) = some (nI (nowG (mn τ) ow c)) := by
  unfold f_X11_mayNow f_X11_mayNow_J21
  rw [m_stateOf hN hS hG hc how, bC_e]
  unfold nowG
  have := stG_le (mn τ) ow c
  by_cases h : stG (mn τ) ow c = 0
  · rw [if_pos (show nI (stG (mn τ) ow c) = 0 from congrArg nI h), m_side hc, bC_e, m_mayOf hN hS hc (cSide_lt c) (how _ (cSide_lt c)), bC_e, if_pos h]
  · rw [if_neg (fun e => h ((nI_eq0 (by omega)).mp e)), if_neg h]; rfl
theorem m_from0 {c : Nat} (h : c < 147968) : f_X11_from (nI c) 0 = some (nI (cFr c 0) - 1) := m_from h (s := 0) (by decide)
theorem m_from1 {c : Nat} (h : c < 147968) : f_X11_from (nI c) 1 = some (nI (cFr c 1) - 1) := m_from h (s := 1) (by decide)
theorem m_behindP {τ : jS} {c : Nat} (hc : c < 147968) {x : Int32} (hx : x < 0) : f_X11_behind τ (nI c) x = some (nI (behP c)) := by
  unfold f_X11_behind f_X11_behind_J105 behP
  rw [m_side hc, bC_e, m_one hc, bC_e, m_two hc, bC_e, m_from0 hc, bC_e, m_from1 hc, bC_e, if_pos hx, show (1 : Int32) - nI (cSide c) = nI (1 - cSide c) from nI_sub (a := 1) (by have := cSide_lt c; omega), m_code, bC_e]
theorem m_behindQ {τ : jS} (hN : wN τ) {c q : Nat} (hc : c < 147968) (hq : q < 16) : f_X11_behind τ (nI c) (nI q) = some (nI (behQ (mn τ) c q)) := by
  unfold f_X11_behind behQ
  rw [m_side hc, bC_e, m_one hc, bC_e, m_two hc, bC_e, m_from0 hc, bC_e, m_from1 hc, bC_e, if_neg (nI_pos (by omega)), hN.2.2.2.2.2.1]
  have hb := hN.2.2.2.2.2.2
  have J : ∀ w, w < 17 → f_X11_behind_J51 τ (nI q) (nI (cSide c)) (nI (cOne c)) (nI (cTwo c)) (nI (cFr c 0) - 1) (nI (cFr c 1) - 1) (nI w - 1) = some (nI (if cSide c = 0 then mkc q (cTwo c) 1 w (cFr c 1) else mkc (cOne c) q 0 (cFr c 0) w)) := by
    intro w hw
    unfold f_X11_behind_J51 f_X11_behind_J64 f_X11_behind_J78 f_X11_behind_J90 f_X11_behind_J103 f_X11_behind_J105
    have : cSide c = 0 ∨ cSide c = 1 := by have := cSide_lt c; omega
    rcases this with h | h <;> rw [h]
    · rw [if_pos (show nI 0 = 0 from rfl), if_neg (show ¬ nI 0 = 1 by decide), if_pos (show nI 0 = 0 from rfl), if_neg (show ¬ nI 0 = 1 by decide), if_pos rfl, show (1 : Int32) - nI 0 = nI 1 from rfl, m_code]; rfl
    · rw [if_neg (show ¬ nI 1 = 0 by decide), if_pos (show nI 1 = 1 from rfl), if_neg (show ¬ nI 1 = 0 by decide), if_pos (show nI 1 = 1 from rfl), if_neg (by decide), show (1 : Int32) - nI 1 = nI 0 from rfl, m_code]; rfl
  by_cases h4 : tB (mn τ) = 0
  · rw [h4, if_pos (show nI 0 = 0 from rfl), ← nI_m1, J 0 (by decide)]
    simp
  · rw [if_neg (fun e => h4 ((nI_eq0 (by omega)).mp e)), m_holder hc (cSide_lt c), bC_e]
    have e : nI (cHold c (cSide c)) = nI (cHold c (cSide c) + 1) - 1 := (nI_pred _).symm
    have hh := cHold_lt (s := cSide c) hc
    rw [e, J _ (by omega), if_neg h4, if_neg h4]
    have : cSide c = 0 ∨ cSide c = 1 := by have := cSide_lt c; omega
    rcases this with h | h <;> simp [h, cHold]
theorem m_bits {m : Nat} (hm : m < 2 ^ 31) : ∃ n, n ≤ 16 ∧ f_X11_bits (nI m) = some (nI n) ∧ (n = ((List.range 16).filter fun k => m.testBit k).length) := by
  have key : f_X11_bits (nI m) = some (nI ((List.range 16).filter fun k => m.testBit k).length) := by
    unfold f_X11_bits
    refine jloop_0 (fun i => (nI ((List.range i).filter fun k => m.testBit k).length, nI i)) 16 rfl (jfuel_big (by decide)) ?_ ?_
    · rfl
    · intro i hi
      show f_X11_bits_B4 _ _ _ = _
      unfold f_X11_bits_B4
      show (if (16 : Int32) ≤ nI i then _ else _) = _
      rw [if_neg (show ¬ (16 : Int32) ≤ nI i from nI_ge hi (by decide)), bV_e, bV_e, nI_bit hm (by omega), nI_1, List.range_succ, List.filter_append, List.length_append]
      cases h : m.testBit i with
      | false => simp [h]
      | true => simp [h, nI_1]
  refine ⟨_, ?_, key, rfl⟩
  have := List.length_filter_le (fun k => m.testBit k) (List.range 16)
  simpa using this
