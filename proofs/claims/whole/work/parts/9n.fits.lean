/-! have: what was seen, and the layers -/
def fitP (sa sb sc : Nat → Nat) (n k h0 h1 : Nat) : Bool := !bex n fun i => sa i == k && !((sb i == h0 || sb i == h1) == (sc i == 1))
theorem fitP_succ {sa sb sc : Nat → Nat} {n k h0 h1 : Nat} : fitP sa sb sc (n + 1) k h0 h1 = (fitP sa sb sc n k h0 h1 && !(sa n == k && !((sb n == h0 || sb n == h1) == (sc n == 1)))) := by
  unfold fitP
  rw [bex_succ, Bool.not_or]
theorem fitP_tail {sa sb sc : Nat → Nat} {i n k h0 h1 : Nat} (hi : i ≤ n) (h : fitP sa sb sc i k h0 h1 = false) : fitP sa sb sc n k h0 h1 = false := by
  unfold fitP at *
  rw [Bool.not_eq_false'] at *
  obtain ⟨j, j1, j2⟩ := bex_iff.mp h
  exact bex_iff.mpr ⟨j, by omega, j2⟩
def seX (sa sb sc : Nat → Nat) (n : Nat) (σ : jS) : Prop := n ≤ 20 ∧ gI σ 23 3 = nI n ∧ ∀ i, i < n → sa i ≤ 40 ∧ sb i < 16 ∧ sc i < 2 ∧ gI σ 26 i = nI (sa i) ∧ gI σ 27 i = nI (sb i) ∧ gI σ 28 i = nI (sc i)
def seM (sa sb sc : Nat → Nat) (n : Nat) (τ : jS) : Prop := n ≤ 20 ∧ gI τ 1 59 = nI n ∧ ∀ i, i < n → sa i ≤ 40 ∧ sb i < 16 ∧ sc i < 2 ∧ gI τ 34 i = nI (sa i) ∧ gI τ 35 i = nI (sb i) ∧ gI τ 36 i = nI (sc i)
theorem rSe_se {P : Nat} {σ τ : jS} (h : rSe P σ τ) (h16 : P ≤ 16) : ∃ sa sb sc n, seX sa sb sc n σ ∧ seM sa sb sc n τ := by
  obtain ⟨n, a1, a2, a3, a4⟩ := h
  refine ⟨fun i => ix (gI τ 34 i), fun i => ix (gI τ 35 i), fun i => ix (gI τ 36 i), n, ⟨a1, a2, fun i hi => ?_⟩, ⟨a1, a3, fun i hi => ?_⟩⟩
  all_goals
    obtain ⟨a, b, c, b1, b2, b3, b4, b5, b6, b7, b8, b9⟩ := a4 i hi
    simp only [b5, b7, b9]
    rw [ix_nI (by omega), ix_nI (by omega), ix_nI (by omega)]
  · exact ⟨b1, by omega, b3, b4, b6, b8⟩
  · exact ⟨b1, by omega, b3, rfl, rfl, rfl⟩
theorem at26 {σ : jS} {i : Nat} (h : i < 20) : f_X6_at σ 26 (nI i) = some (gI σ 26 i) := x_at (by decide) rfl h (by decide)
theorem at27 {σ : jS} {i : Nat} (h : i < 20) : f_X6_at σ 27 (nI i) = some (gI σ 27 i) := x_at (by decide) rfl h (by decide)
theorem is1 {c : Nat} (h : c < 2) (b : Bool) : ((if b = true then (1 : Int32) else 0) = nI c) ↔ (b == (c == 1)) = true := by
  have : c = 0 ∨ c = 1 := by omega
  rcases this with rfl | rfl <;> cases b <;> decide
theorem x_fits {σ : jS} {sa sb sc : Nat → Nat} {n k h0 h1 : Nat} (h : seX sa sb sc n σ) (hk : k ≤ 40) (hh0 : h0 < 16) (hh1 : h1 < 16) : f_X3_fits σ (nI k) (nI h0) (nI h1) = some (bI (fitP sa sb sc n k h0 h1)) := by
  obtain ⟨n20, g3, hc⟩ := h
  unfold f_X3_fits
  have key := jloop_ex (S := Int32) (O := Int32) (f := fun s => f_X3_fits_B3 σ (nI k) (nI h0) (nI h1) s) (fun i s => s = nI i ∧ fitP sa sb sc i k h0 h1 = true) n (fun o => o = bI (fitP sa sb sc n k h0 h1)) (s0 := 0) ⟨rfl, rfl⟩ (jfuel_big (by omega)) ?_ ?_
  · obtain ⟨o, o1, rfl⟩ := key
    exact o1
  · rintro _ ⟨rfl, hf⟩
    refine ⟨1, ?_, by rw [hf]; rfl⟩
    show f_X3_fits_B3 σ (nI k) (nI h0) (nI h1) (nI n) = _
    unfold f_X3_fits_B3 f_X3_fits_J84
    rw [g3, if_pos (Int32.le_refl _), jw_e]
  · rintro i _ hi ⟨rfl, hf⟩
    obtain ⟨c1, c2, c3, c4, c5, c6⟩ := hc i hi
    have yes : (sa i == k && !((sb i == h0 || sb i == h1) == (sc i == 1))) = false → fitP sa sb sc (i + 1) k h0 h1 = true := fun e => by rw [fitP_succ, hf, e]; rfl
    show (∃ s', f_X3_fits_B3 σ (nI k) (nI h0) (nI h1) (nI i) = _ ∧ _) ∨ (∃ o, f_X3_fits_B3 σ (nI k) (nI h0) (nI h1) (nI i) = _ ∧ _)
    unfold f_X3_fits_B3 f_X3_fits_J78
    rw [g3, if_neg (nI_ge hi (by omega)), if_neg (show ¬ Int32.ofNat 20 ≤ nI i from nI_ge (b := 20) (by omega) (by decide)), at26 (by omega), bC_e, c4]
    by_cases y : sa i = k
    case neg =>
      rw [if_neg (fun e => y ((nI_eq (by omega) (by omega)).mp e)), bV_e, nI_1]
      exact Or.inl ⟨_, rfl, rfl, yes (by rw [beq_eq_false_iff_ne.mpr y]; rfl)⟩
    rw [if_pos (congrArg nI y), at27 (by omega), bC_e, c5]
    have fin : ∀ b : Bool, (sb i == h0 || sb i == h1) = b → (∃ s', f_X3_fits_J66 σ (nI k) (nI h0) (nI h1) (nI i) (if b = true then 1 else 0) = some (.inl s') ∧ s' = nI (i + 1) ∧ fitP sa sb sc (i + 1) k h0 h1 = true) ∨ ∃ o, f_X3_fits_J66 σ (nI k) (nI h0) (nI h1) (nI i) (if b = true then 1 else 0) = some (.inr o) ∧ o = bI (fitP sa sb sc n k h0 h1) := fun b hb => by
      unfold f_X3_fits_J66 f_X3_fits_J78 f_X3_fits_J76
      rw [bG_t (jin_nI (by omega) (by omega)), ix_nI (by omega), c6]
      cases hq : (b == (sc i == 1)) with
      | true =>
        rw [if_pos ((is1 c3 b).mpr hq), bV_e, nI_1]
        exact Or.inl ⟨_, rfl, rfl, yes (by rw [hb, hq]; simp)⟩
      | false =>
        rw [if_neg (fun e => by rw [(is1 c3 b).mp e] at hq; cases hq), jw_e]
        refine Or.inr ⟨_, rfl, ?_⟩
        rw [fitP_tail (i := i + 1) (by omega) (by rw [fitP_succ, hb, hq, y]; simp)]; rfl
    by_cases z0 : sb i = h0
    · rw [if_pos (congrArg nI z0)]
      exact fin true (by rw [z0]; simp)
    · rw [if_neg (fun e => z0 ((nI_eq (by omega) (by omega)).mp e))]
      by_cases z1 : sb i = h1
      · rw [if_pos (congrArg nI z1)]
        exact fin true (by rw [z1]; simp)
      · rw [if_neg (fun e => z1 ((nI_eq (by omega) (by omega)).mp e))]
        exact fin false (by rw [beq_eq_false_iff_ne.mpr z0, beq_eq_false_iff_ne.mpr z1]; rfl)
theorem m_fits {τ : jS} {sa sb sc : Nat → Nat} {n k c : Nat} (h : seM sa sb sc n τ) (hk : k ≤ 40) (hc : c < 147968) : f_X11_fits τ (nI c) (nI k) = some (bI (fitP sa sb sc n k (cOne c) (cTwo c))) := by
  obtain ⟨n20, g3, hcc⟩ := h
  have o16 := cOne_lt hc
  have t16 := cTwo_lt c
  unfold f_X11_fits
  refine jloop_0 (fun i => (bI (fitP sa sb sc i k (cOne c) (cTwo c)), nI i)) n rfl (jfuel_big (by omega)) ?_ ?_
  · show f_X11_fits_B5 τ (nI c) (nI k) (bI (fitP sa sb sc n k (cOne c) (cTwo c))) (nI n) = _
    unfold f_X11_fits_B5 f_X11_fits_J88
    have jbI : jb (bI (fitP sa sb sc n k (cOne c) (cTwo c))) = true := by
      cases fitP sa sb sc n k (cOne c) (cTwo c) <;> rfl
    rw [g3, if_pos (Int32.le_refl _), bG_t jbI, jw_e]
  · intro i hi
    obtain ⟨c1, c2, c3, c4, c5, c6⟩ := hcc i hi
    have ji : jin (nI i) 20 = true := jin_nI (by omega) (by omega)
    show f_X11_fits_B5 τ (nI c) (nI k) (bI (fitP sa sb sc i k (cOne c) (cTwo c))) (nI i) = some (.inl (bI (fitP sa sb sc (i + 1) k (cOne c) (cTwo c)), nI (i + 1)))
    unfold f_X11_fits_B5
    rw [g3, if_neg (nI_ge hi (by omega)), m_one hc, bC_e, bG_t ji, ix_nI (by omega), c5]
    have fin : ∀ b : Bool, (sb i == cOne c || sb i == cTwo c) = b → f_X11_fits_J47 τ (nI c) (nI k) (bI (fitP sa sb sc i k (cOne c) (cTwo c))) (nI i) (if b = true then 1 else 0) = some (.inl (bI (fitP sa sb sc (i + 1) k (cOne c) (cTwo c)), nI (i + 1))) := fun b hb => by
      unfold f_X11_fits_J47 f_X11_fits_J80 f_X11_fits_J76 f_X11_fits_J81
      rw [fitP_succ, hb]
      cases hf : fitP sa sb sc i k (cOne c) (cTwo c) with
      | false => rw [if_pos (show bI false = 0 from rfl), bV_e, nI_1]; rfl
      | true =>
        rw [if_neg (show ¬ bI true = 0 by decide), bG_t ji, ix_nI (by omega), c4]
        by_cases y : sa i = k
        · rw [if_pos (congrArg nI y), bG_t ji, c6]
          cases hq : (b == (sc i == 1)) with
          | true => rw [if_pos ((is1 c3 b).mpr hq), bV_e, nI_1]; simp; rfl
          | false =>
            rw [if_neg (fun e => by rw [(is1 c3 b).mp e] at hq; cases hq), bV_e, nI_1, y]; simp; rfl
        · rw [if_neg (fun e => y ((nI_eq (by omega) (by omega)).mp e)), bV_e, nI_1, beq_eq_false_iff_ne.mpr y]; rfl
    unfold f_X11_fits_J42
    by_cases z0 : sb i = cOne c
    · rw [if_pos (congrArg nI z0.symm)]
      exact fin true (by rw [z0]; simp)
    · rw [if_neg (fun e => z0 ((nI_eq (by omega) (by omega)).mp e).symm), m_two hc, bC_e, bG_t ji]
      by_cases z1 : sb i = cTwo c
      · rw [if_pos (congrArg nI z1.symm)]
        exact fin true (by rw [z1]; simp)
      · rw [if_neg (fun e => z1 ((nI_eq (by omega) (by omega)).mp e).symm)]
        exact fin false (by rw [beq_eq_false_iff_ne.mpr z0, beq_eq_false_iff_ne.mpr z1]; rfl)
/-- one HANDING or pass on; one that goes on no more stays -/
def nxt (A : Tb) (c c' : Nat) : Prop := (stN A c ≠ 0 ∧ c' = c) ∨ (stN A c = 0 ∧ ((mayS A c (cSide c) = 0 ∧ c' = behP c) ∨ ∃ q, mayP A c (cSide c) q = true ∧ c' = behQ A c q))
def LYR (A : Tb) (F : Nat → Nat → Bool) (c0 : Nat) : Nat → Nat → Prop
  | 0, c => c = c0 ∧ F 0 c = true
  | k + 1, c => F (k + 1) c = true ∧ ∃ c', LYR A F c0 k c' ∧ nxt A c' c
def fitC (sa sb sc : Nat → Nat) (n k c : Nat) : Bool := fitP sa sb sc n k (cOne c) (cTwo c)
theorem nxt_ok {A : Tb} (w : wA A) {c c' : Nat} (h : okc A c) (hn : nxt A c c') : okc A c' := by
  rcases hn with ⟨_, rfl⟩ | ⟨_, ⟨_, rfl⟩ | ⟨q, q1, rfl⟩⟩
  · exact h
  · exact behP_ok w h
  · exact behQ_ok w h q1
