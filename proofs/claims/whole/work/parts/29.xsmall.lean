/-! the class's small functions over spots -/
theorem x_spot {x s : Nat} (h : x < 6272) (hs2 : s < 2) : f_X0_spot (nI x) (nI s) = some (nI (xs x s)) := by
  unfold f_X0_spot f_X0_spot_J19 xs x0 x1
  rw [show (56 : Int32) = nI 56 from rfl, show (2 : Int32) = nI 2 from rfl]
  have : s = 0 ∨ s = 1 := by omega
  rcases this with rfl | rfl
  · rw [if_pos (show nI 0 = 0 from rfl), if_pos rfl, pk_div (by omega) (by decide) (by decide), pk_div (by omega) (by decide) (by decide), Nat.div_div_eq_div_mul]
  · rw [if_neg (show ¬ nI 1 = 0 by decide), if_neg (by decide), pk_div (by omega) (by decide) (by decide), pk_rem (by omega) (by decide) (by decide)]
theorem x_spot0 {x : Nat} (h : x < 6272) : f_X0_spot (nI x) 0 = some (nI (x0 x)) := x_spot h (s := 0) (by decide)
theorem x_spot1 {x : Nat} (h : x < 6272) : f_X0_spot (nI x) 1 = some (nI (x1 x)) := x_spot h (s := 1) (by decide)
theorem at6 {σ : jS} {i : Nat} (h : i < 56) : f_X6_at σ 6 (nI i) = some (gI σ 6 i) := x_at (by decide) rfl h (by decide)
theorem at7 {σ : jS} {i : Nat} (h : i < 56) : f_X6_at σ 7 (nI i) = some (gI σ 7 i) := x_at (by decide) rfl h (by decide)
theorem at8 {σ : jS} {i : Nat} (h : i < 56) : f_X6_at_ σ 8 (nI i) = some (gL σ 8 i) := x_atL (by decide) rfl h (by decide)
theorem at9 {σ : jS} {i : Nat} (h : i < 56) : f_X6_at_ σ 9 (nI i) = some (gL σ 9 i) := x_atL (by decide) rfl h (by decide)
theorem at10 {σ : jS} {i : Nat} (h : i < 16) : f_X6_at_ σ 10 (nI i) = some (gL σ 10 i) := x_atL (by decide) rfl h (by decide)
theorem at11 {σ : jS} {i : Nat} (h : i < 16) : f_X6_at σ 11 (nI i) = some (gI σ 11 i) := x_at (by decide) rfl h (by decide)
theorem at30 {σ : jS} {i : Nat} (h : i < 4) : f_X6_at σ 30 (nI i) = some (gI σ 30 i) := x_at (by decide) rfl h (by decide)
theorem at31 {σ : jS} {i : Nat} (h : i < 4) : f_X6_at σ 31 (nI i) = some (gI σ 31 i) := x_at (by decide) rfl h (by decide)
theorem xW_hs {σ : jS} {A : Tb} (hW : xW σ A) {s : Nat} (h : vs A s) : gI σ 6 s = nI (hs A s) := by
  unfold hs
  by_cases q : s < 16
  · rw [if_pos q]; exact (hW.2.1 s q).1
  · rw [if_neg q]
    rcases h.2.2 with z | ⟨_, z⟩
    · exact absurd z q
    · have := (hW.2.2.1 _ z).1
      rwa [show 16 + (s - 16) = s by omega] at this
theorem okx_v {A : Tb} {x s : Nat} (h : okx A x) : vs A (xs x s) := by
  unfold xs; split
  · exact h.2.1
  · exact h.2.2.1
theorem x_holder {σ : jS} {A : Tb} (hW : xW σ A) {x s : Nat} (h : okx A x) (hs2 : s < 2) : f_X0_holder σ (nI x) (nI s) = some (nI (hs A (xs x s))) := by
  unfold f_X0_holder
  rw [x_spot h.1 hs2, bC_e, at6 (xs_lt h.1), bC_e, xW_hs hW (okx_v h)]
theorem x_fromWhom {σ : jS} {A : Tb} (hW : xW σ A) {x s : Nat} (h : okx A x) (hs2 : s < 2) : f_X0_fromWhom σ (nI x) (nI s) = some (nI (fs A (xs x s)) - 1) := by
  unfold f_X0_fromWhom f_X0_fromWhom_J27
  rw [x_spot h.1 hs2, bC_e]
  have hv := okx_v (s := s) h
  have h56 := hv.1
  unfold fs
  by_cases q : xs x s < 16
  · rw [if_neg (show ¬ (16 : Int32) ≤ nI (xs x s) from nI_ge q (by decide)), if_pos q]; rfl
  · rw [if_pos (show (16 : Int32) ≤ nI (xs x s) from nI_le (a := 16) (by omega) (by omega)), if_neg q, at7 h56, bC_e, nI_pred]
    rcases hv.2.2 with z | ⟨_, z⟩
    · exact absurd z q
    · have := (hW.2.2.1 _ z).2
      rw [show 16 + (xs x s - 16) = xs x s by omega] at this
      rw [this]
theorem x_isEnded {σ : jS} {A : Tb} (w : wA A) (hW : xW σ A) (hF : xF σ A) {x : Nat} (h : okx A x) : f_X0_isEnded σ (nI x) = some (if ended A (cv A x) then 1 else 0) := by
  unfold f_X0_isEnded f_X0_isEnded_J52
  have e0 := hs_lt w h.2.1
  have e1 := hs_lt w h.2.2.1
  rw [x_spot0 h.1, bC_e, at6 h.2.1.1, bC_e, x_spot1 h.1, bC_e, at6 h.2.2.1.1, bC_e, xW_hs hW h.2.1, xW_hs hW h.2.2.1, at11 e0, bC_e, hF _ e0, nI_bit (bm16 _) (by omega), bm_bit]
  unfold ended
  rw [cv_one w h, cv_two w h]
  cases hb : bears A (hs A (x0 x)) (hs A (x1 x)) with
  | true => simp [e1]; rfl
  | false => simp; rfl
/-- the spots onward of side s -/
def ows (A : Tb) (x s d : Nat) : Bool := onw A (xs x s) d && !heldBy A (hs A (xs x (1 - s))) d
def flp (x : Nat) : Nat := x / 2 * 2 + (1 - x % 2)
theorem xor_flp {x : Nat} (h : x < 6272) : x ^^^ 1 = flp x := by
  have t : ∀ a, a < 79 → ∀ b, b < 80 → (80 * a + b) ^^^ 1 = flp (80 * a + b) := by decide +kernel
  have := t (x / 80) (by omega) (x % 80) (by omega)
  rwa [Nat.div_add_mod] at this
theorem bm56 (p : Nat → Bool) : bm p 56 < 2 ^ 63 := Nat.lt_trans (bm_lt p 56) (by decide)
theorem and_not56 (p q : Nat → Bool) : lN (bm p 56) &&& (lN (bm q 56) ^^^ ((-1) : Int64)) = lN (bm (fun k => p k && !q k) 56) := by
  rw [show ((-1) : Int64) = lN (2 ^ 64 - 1) from by decide, fb_xorL, fb_andL]
  congr 1
  apply bm_eq_of
  intro k
  rw [Nat.testBit_and, Nat.testBit_xor, bm_bit, bm_bit, Nat.testBit_two_pow_sub_one]
  by_cases hk : k < 56
  · have : k < 64 := by omega
    simp [hk, this]
  · simp [hk]
theorem and1 (x : Nat) : nI x &&& 1 = nI (x % 2) := by
  rw [show (1 : Int32) = nI 1 from rfl, nI_and, Nat.and_one_is_mod]
theorem x_onwardOf {σ : jS} {A : Tb} (w : wA A) (hW : xW σ A) {x : Nat} (h : okx A x) : f_X0_onwardOf σ (nI x) = some (lN (bm (ows A x (x % 2)) 56)) := by
  unfold f_X0_onwardOf
  have hv := okx_v (s := 1 - x % 2) h
  have hl := hs_lt w hv
  rw [and1, bV_e, show (1 : Int32) - nI (x % 2) = nI (1 - x % 2) from nI_sub (a := 1) (by omega), x_spot h.1 (by omega), bC_e, at6 (xs_lt h.1), bC_e, x_spot h.1 (by omega), bC_e, at8 (xs_lt h.1), bC_e, xW_hs hW hv, at10 hl, bC_e, hW.2.2.2.1 _ (xs_lt h.1), hW.2.2.2.2.2 _ hl, and_not56]
  rfl
theorem flp_ok {A : Tb} {x : Nat} (h : okx A x) : okx A (flp x) ∧ flp x % 2 = 1 - x % 2 ∧ x0 (flp x) = x0 x ∧ x1 (flp x) = x1 x := by
  have hx := h.1
  have e0 : x0 (flp x) = x0 x := by unfold x0 flp; omega
  have e1 : x1 (flp x) = x1 x := by unfold x1 flp; omega
  refine ⟨⟨by unfold flp; omega, by rw [e0]; exact h.2.1, by rw [e1]; exact h.2.2.1, by rw [e0, e1]; exact h.2.2.2⟩, by unfold flp; omega, e0, e1⟩
theorem flp_ows {A : Tb} {x : Nat} (h : okx A x) (s d : Nat) : ows A (flp x) s d = ows A x s d := by
  obtain ⟨_, _, e0, e1⟩ := flp_ok h
  unfold ows xs
  rw [e0, e1]
theorem flp_cv {A : Tb} {x : Nat} (w : wA A) (h : okx A x) : cv A (flp x) = behP (cv A x) := by
  obtain ⟨_, e, e0, e1⟩ := flp_ok h
  have f0 := cv_fr w h (s := 0) (by decide)
  have f1 := cv_fr w h (s := 1) (by decide)
  unfold behP
  rw [cv_one w h, cv_two w h, cv_side w h, f0, f1]
  unfold cv
  rw [e0, e1, e]
  rfl
/-- who is one further, in both tongues -/
theorem byT_hs {A : Tb} (w : wA A) {t : Nat} (ht : t < tT A) : hs A (byT A t) = A 3 t ∧ byT A t < 56 := by
  have h1 := (w.2.2.2.1 t ht).1
  have := w.1
  have := w.2.1
  unfold byT hs
  by_cases q : tB A = 0
  · rw [if_pos q, if_pos (by omega)]; exact ⟨rfl, by omega⟩
  · rw [if_neg q, if_neg (by omega), Nat.add_sub_cancel_left]; exact ⟨rfl, by omega⟩
theorem byT_v {A : Tb} (w : wA A) {t : Nat} (ht : t < tT A) : vs A (byT A t) := by
  obtain ⟨h1, h2⟩ := byT_hs w ht
  refine ⟨h2, by rw [h1]; exact (w.2.2.2.1 t ht).1, ?_⟩
  have := (w.2.2.2.1 t ht).1
  have := w.1
  have := w.2.2.1
  unfold byT
  by_cases q : tB A = 0
  · rw [if_pos q]; exact Or.inl (by omega)
  · rw [if_neg q, Nat.add_sub_cancel_left]; exact Or.inr ⟨by omega, ht⟩
theorem held_hs {A : Tb} {p d : Nat} (h : vs A d) : heldBy A p d = (hs A d == p) := by
  unfold heldBy hs
  by_cases q : d < 16
  · rw [if_pos q, if_pos q]
  · rw [if_neg q, if_neg q]
    rcases h.2.2 with z | ⟨_, z⟩
    · exact absurd z q
    · simp [z]
theorem joinT_iff {A : Tb} (w : wA A) {s t : Nat} (hv : vs A s) (ht : t < tT A) : joinT A s t = true ↔ lawful A (A 4 t) (A 3 t) = true ∧ hs A s = A 4 t ∧ fs A s ≠ A 3 t + 1 := by
  unfold joinT hs fs
  by_cases q : s < 16
  · rw [if_pos q, if_pos q, if_pos q]
    simp
  · rw [if_neg q, if_neg q, if_neg q]
    rcases hv.2.2 with z | ⟨z1, z⟩
    · exact absurd z q
    · simp [z1, z]
/-- the way of a turn from side s -/
theorem ows_turn {A : Tb} (w : wA A) {x s : Nat} (h : okx A x) (d : Nat) : ows A x s d = true ↔ ∃ t, t < tT A ∧ byT A t = d ∧ lawful A (A 4 t) (A 3 t) = true ∧ hs A (xs x s) = A 4 t ∧ fs A (xs x s) ≠ A 3 t + 1 ∧ A 3 t ≠ hs A (xs x (1 - s)) := by
  unfold ows onw
  rw [Bool.and_eq_true, bex_iff]
  constructor
  · rintro ⟨⟨t, ht, hj⟩, hn⟩
    rw [Bool.and_eq_true, beq_iff_eq] at hj
    obtain ⟨e, hj⟩ := hj
    obtain ⟨j1, j2, j3⟩ := (joinT_iff w (okx_v h) ht).mp hj
    subst e
    rw [held_hs (byT_v w ht), (byT_hs w ht).1] at hn
    exact ⟨t, ht, rfl, j1, j2, j3, by simpa using hn⟩
  · rintro ⟨t, ht, e, j1, j2, j3, j4⟩
    subst e
    refine ⟨⟨t, ht, by rw [Bool.and_eq_true, beq_iff_eq]; exact ⟨rfl, (joinT_iff w (okx_v h) ht).mpr ⟨j1, j2, j3⟩⟩⟩, ?_⟩
    rw [held_hs (byT_v w ht), (byT_hs w ht).1]
    simpa using j4
theorem may_turn {A : Tb} (w : wA A) {x s q : Nat} (h : okx A x) (hs2 : s < 2) : mayP A (cv A x) s q = true ↔ ∃ t, t < tT A ∧ A 3 t = q ∧ lawful A (A 4 t) (A 3 t) = true ∧ hs A (xs x s) = A 4 t ∧ fs A (xs x s) ≠ A 3 t + 1 ∧ A 3 t ≠ hs A (xs x (1 - s)) := by
  unfold mayP
  rw [cv_hold w h hs2, cv_hold w h (by omega), cv_fr w h hs2]
  have hv := okx_v (s := s) h
  have hf : fs A (xs x s) ≠ 0 → tB A ≠ 0 := by
    unfold fs
    split
    · intro z; exact absurd rfl z
    · rename_i q2
      intro _
      rcases hv.2.2 with z | ⟨z1, _⟩
      · exact absurd z q2
      · omega
  simp only [Bool.and_eq_true, decide_eq_true_eq, Bool.not_eq_true', beq_eq_false_iff_ne, Bool.and_eq_false_iff, beq_iff_eq, Bool.not_eq_false']
  constructor
  · rintro ⟨⟨⟨⟨a1, a2⟩, a3⟩, a4⟩, a5⟩
    obtain ⟨t, ht, e1, e2⟩ := owes_iff.mp a2
    subst e1
    refine ⟨t, ht, rfl, by rw [e2]; exact a3, e2.symm, ?_, a4⟩
    rcases a5 with z | z
    · intro y
      exact hf (by omega) z
    · exact z
  · rintro ⟨t, ht, e, j1, j2, j3, j4⟩
    subst e
    refine ⟨⟨⟨⟨(w.2.2.2.1 t ht).1, owes_iff.mpr ⟨t, ht, rfl, j2.symm⟩⟩, by rw [j2]; exact j1⟩, j4⟩, Or.inr j3⟩
