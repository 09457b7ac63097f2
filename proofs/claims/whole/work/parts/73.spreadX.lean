/-! the class spreads: all states that can come -/
def SP (A : Tb) (start : Nat) (tm : Nat → Bool) (lm n m i k : Nat) (L Q : Nat → Nat) (σ : jS) : Prop :=
  (n ≤ 6272 ∧ gI σ 4 1 = nI n ∧ gI σ 4 2 = nI m ∧ 0 < n ∧ L 0 = start) ∧
  (∀ j, j < n → okx A (L j) ∧ gI σ 12 j = nI (L j)) ∧ (∀ j l, j < n → l < n → L j = L l → j = l) ∧
  (∀ j, 0 < j → j < n → ∃ l, l < j ∧ scX A (L l) (L j) = true) ∧
  ((∀ j, j < n → gI σ 14 (L j) = if j < i ∧ tm (L j) = true then 1 else -1) ∧ ∀ c, c < 6272 → (∀ j, j < n → L j ≠ c) → gI σ 14 c = 0) ∧
  ((∀ j, j < m → gI σ 13 j = nI (Q j) ∧ ∃ l, l < i ∧ l < n ∧ Q j = L l ∧ tm (L l) = true) ∧ (∀ j l, j < m → l < m → Q j = Q l → j = l) ∧ ∀ l, l < i → l < n → tm (L l) = true → ∃ j, j < m ∧ Q j = L l) ∧
  (∀ l, l < k → l < n → gI σ 15 (L l) = nI (dX A (L l))) ∧
  (∀ a, a < 16 → gI σ 16 a = nI (bm (fun b => bex k fun l => ended A (cv A (L l)) && (hs A (x0 (L l)) == a && hs A (x1 (L l)) == b)) 16)) ∧
  (gI σ 4 3 = if bex k (fun l => stN A (cv A (L l)) == 2) = true then 1 else 0) ∧
  (∀ c, c < 6272 → ∃ v, v ≤ lm ∧ gI σ 15 c = nI v)
def gfr (σ σ' : jS) : Prop := fr [4, 12, 13, 14, 15, 16] σ σ' ∧ ∀ i, i ≠ 1 → i ≠ 2 → i ≠ 3 → gI σ' 4 i = gI σ 4 i
theorem gfr_tr {a b c : jS} (h : gfr a b) (g : gfr b c) : gfr a c := ⟨fr_trans h.1 g.1, fun i x y z => (g.2 i x y z).trans (h.2 i x y z)⟩
theorem gfr_rfl (σ : jS) : gfr σ σ := ⟨fr_rfl _ _, fun _ _ _ _ => rfl⟩
theorem gfr_r {σ : jS} {h i : Nat} {v : Int32} (hh : h ∈ [12, 13, 14, 15, 16]) : gfr σ (sI σ h i v) := ⟨fr_sI _ _ _ (by simp at hh ⊢; omega), fun j _ _ _ => gI_ne (by simp at hh; omega)⟩
theorem gfr_4 {σ : jS} {i : Nat} {v : Int32} (hi : i = 1 ∨ i = 2 ∨ i = 3) : gfr σ (sI σ 4 i v) := ⟨fr_sI _ _ _ (by decide), fun j a b c => gI_nei (by omega)⟩
theorem gfr_W {σ σ' : jS} {A : Tb} (h : gfr σ σ') (x : xW σ A) : xW σ' A := xW_fr h.1 rfl x
theorem gfr_F {σ σ' : jS} {A : Tb} (h : gfr σ σ') (x : xF σ A) : xF σ' A := fun p hp => (fr_I h.1 (by decide) p).trans (x p hp)
theorem at12 {σ : jS} {i : Nat} (h : i < 6272) : f_X6_at σ 12 (nI i) = some (gI σ 12 i) := x_at (by decide) rfl h (by decide)
theorem at13 {σ : jS} {i : Nat} (h : i < 6272) : f_X6_at σ 13 (nI i) = some (gI σ 13 i) := x_at (by decide) rfl h (by decide)
theorem at14 {σ : jS} {i : Nat} (h : i < 6272) : f_X6_at σ 14 (nI i) = some (gI σ 14 i) := x_at (by decide) rfl h (by decide)
theorem at15 {σ : jS} {i : Nat} (h : i < 6272) : f_X6_at σ 15 (nI i) = some (gI σ 15 i) := x_at (by decide) rfl h (by decide)
theorem at16 {σ : jS} {i : Nat} (h : i < 16) : f_X6_at σ 16 (nI i) = some (gI σ 16 i) := x_at (by decide) rfl h (by decide)
theorem put12 {σ : jS} {i : Nat} {v : Int32} (h : i < 6272) : f_X6_put σ 12 (nI i) v = some ((), sI σ 12 i v) := x_put (by decide) rfl h (by decide)
theorem put13 {σ : jS} {i : Nat} {v : Int32} (h : i < 6272) : f_X6_put σ 13 (nI i) v = some ((), sI σ 13 i v) := x_put (by decide) rfl h (by decide)
theorem put14 {σ : jS} {i : Nat} {v : Int32} (h : i < 6272) : f_X6_put σ 14 (nI i) v = some ((), sI σ 14 i v) := x_put (by decide) rfl h (by decide)
theorem put15 {σ : jS} {i : Nat} {v : Int32} (h : i < 6272) : f_X6_put σ 15 (nI i) v = some ((), sI σ 15 i v) := x_put (by decide) rfl h (by decide)
theorem put16 {σ : jS} {i : Nat} {v : Int32} (h : i < 16) : f_X6_put σ 16 (nI i) v = some ((), sI σ 16 i v) := x_put (by decide) rfl h (by decide)
section SPX
variable {A : Tb} {start : Nat} {tm : Nat → Bool} {lm n m i k : Nat} {L Q : Nat → Nat} {σ : jS}
theorem x_comeTo (h : SP A start tm lm n m i k L Q σ) (hi : i ≤ n) (hk : k ≤ n) {y : Nat} (oy : okx A y) (hy : ∃ l, l < n ∧ scX A (L l) y = true) : ∃ n' L' σ', f_X0_comeTo σ (nI y) = some ((), σ') ∧ SP A start tm lm n' m i k L' Q σ' ∧ n ≤ n' ∧ (∀ j, j < n → L' j = L j) ∧ (∃ j, j < n' ∧ L' j = y) ∧ gfr σ σ' := by
  have h0 := h
  obtain ⟨⟨a1, a2, a3, a4, a5⟩, b, c, d, ⟨e1, e2⟩, ⟨f1, f2, f3⟩, g, u, v, x⟩ := h
  have y6 := oy.1
  unfold f_X0_comeTo
  rw [at14 y6, bC_e]
  by_cases z : ∃ j, j < n ∧ L j = y
  · obtain ⟨j, j1, rfl⟩ := z
    rw [if_neg]
    · exact ⟨n, L, σ, rfl, h0, Nat.le_refl _, fun _ _ => rfl, ⟨j, j1, rfl⟩, gfr_rfl _⟩
    · rw [e1 j j1]
      split <;> decide
  · have nj : ∀ j, j < n → L j ≠ y := fun j hj e => z ⟨j, hj, e⟩
    have n6 : n < 6272 := by
      have := pigeon 6272 (n + 1) (up1 L n y) (fun j hj => by
        by_cases q : j = n
        · subst q; rw [up1_at]; exact y6
        · rw [up1_ne q]; exact (b j (by omega)).1.1) (fun j l hj hl e => by
        by_cases q : j = n <;> by_cases r : l = n
        · omega
        · subst q; rw [up1_at, up1_ne r] at e; exact absurd e.symm (nj l (by omega))
        · subst r; rw [up1_at, up1_ne q] at e; exact absurd e (nj j (by omega))
        · rw [up1_ne q, up1_ne r] at e; exact c j l (by omega) (by omega) e)
      omega
    rw [if_pos (e2 y y6 nj), put14 y6, bD_e, gI_ne (show (4 : Nat) ≠ 14 by decide), a2, put12 n6, bD_e, gI_ne (show (4 : Nat) ≠ 12 by decide), gI_ne (show (4 : Nat) ≠ 14 by decide), a2, nI_1, bV_e]
    have Ll : ∀ j, j < n → up1 L n y j = L j := fun j hj => up1_ne (by omega)
    generalize es : sI (sI (sI σ 14 y (-1)) 12 n (nI y)) 4 1 (nI (n + 1)) = s
    have o : ∀ a j, a ≠ 4 → a ≠ 12 → a ≠ 14 → gI s a j = gI σ a j := fun a j h1 h2 h3 => by rw [← es, gI_ne h1, gI_ne h2, gI_ne h3]
    have o4 : ∀ j, j ≠ 1 → gI s 4 j = gI σ 4 j := fun j h1 => by rw [← es, gI_nei h1, gI_ne (by decide), gI_ne (by decide)]
    have o14 : ∀ j, j ≠ y → gI s 14 j = gI σ 14 j := fun j h1 => by rw [← es, gI_ne (by decide), gI_ne (by decide), gI_nei h1]
    have o14y : gI s 14 y = -1 := by rw [← es, gI_ne (by decide), gI_ne (by decide), gI_sI]
    have o12 : ∀ j, j ≠ n → gI s 12 j = gI σ 12 j := fun j h1 => by rw [← es, gI_ne (by decide), gI_nei h1, gI_ne (by decide)]
    refine ⟨n + 1, up1 L n y, s, rfl, ⟨⟨by omega, by rw [← es, gI_sI], (o4 2 (by decide)).trans a3, by omega, (Ll 0 a4).trans a5⟩, fun j hj => ?_, fun j l hj hl e => ?_, fun j hj hj2 => ?_, ⟨fun j hj => ?_, fun c' hc hn => ?_⟩, ⟨fun j hj => ?_, f2, fun l hl hl2 ht => ?_⟩, fun l hl hl2 => ?_, fun a ha => ?_, ?_, fun c' hc => ?_⟩, by omega, Ll, ⟨n, by omega, up1_at _ _ _⟩, ?_⟩
    · by_cases q : j = n
      · subst q; rw [up1_at]; exact ⟨oy, by rw [← es, gI_ne (by decide), gI_sI]⟩
      · rw [up1_ne q, o12 j q]; exact b j (by omega)
    · by_cases q : j = n <;> by_cases r : l = n
      · omega
      · subst q; rw [up1_at, up1_ne r] at e; exact absurd e.symm (nj l (by omega))
      · subst r; rw [up1_at, up1_ne q] at e; exact absurd e (nj j (by omega))
      · rw [up1_ne q, up1_ne r] at e; exact c j l (by omega) (by omega) e
    · by_cases q : j = n
      · subst q
        obtain ⟨l, l1, l2⟩ := hy
        exact ⟨l, l1, by rw [up1_at, Ll l l1]; exact l2⟩
      · obtain ⟨l, l1, l2⟩ := d j hj (by omega)
        exact ⟨l, l1, by rw [Ll l (by omega), up1_ne q]; exact l2⟩
    · by_cases q : j = n
      · subst q; rw [up1_at, o14y, if_neg (by omega)]
      · rw [up1_ne q, o14 _ (nj j (by omega))]; exact e1 j (by omega)
    · have hy2 : c' ≠ y := fun e => hn n (by omega) (by rw [up1_at]; exact e.symm)
      rw [o14 c' hy2]
      exact e2 c' hc fun j hj e => hn j (by omega) (by rw [Ll j hj]; exact e)
    · obtain ⟨w1, l, l1, l2, l3, l4⟩ := f1 j hj
      exact ⟨(o 13 j (by decide) (by decide) (by decide)).trans w1, l, l1, by omega, by rw [Ll l l2]; exact l3, by rw [Ll l l2]; exact l4⟩
    · rw [Ll l (by omega)] at ht ⊢
      exact f3 l hl (by omega) ht
    · rw [Ll l (by omega), o 15 _ (by decide) (by decide) (by decide)]
      exact g l hl (by omega)
    · rw [o 16 _ (by decide) (by decide) (by decide), u a ha]
      exact congrArg nI (bm_cong fun b' _ => bex_cong fun l hl => by rw [Ll l (by omega)])
    · rw [o4 3 (by decide), v]
      have : bex k (fun l => stN A (cv A (L l)) == 2) = bex k (fun l => stN A (cv A (up1 L n y l)) == 2) := bex_cong fun l hl => by rw [Ll l (by omega)]
      rw [this]
    · rw [o 15 _ (by decide) (by decide) (by decide)]; exact x c' hc
    · rw [← es]
      exact gfr_tr (gfr_tr (gfr_r (by decide)) (gfr_r (by decide))) (gfr_4 (by omega))
/-- one that is settled at once -/
theorem x_settleT (h : SP A start tm lm n m i k L Q σ) (hi : i < n) (ht : tm (L i) = true) : ∃ σ', f_X0_settle σ (nI (L i)) 1 = some ((), σ') ∧ SP A start tm lm n (m + 1) (i + 1) k L (up1 Q m (L i)) σ' ∧ gfr σ σ' := by
  obtain ⟨⟨a1, a2, a3, a4, a5⟩, b, c, d, ⟨e1, e2⟩, ⟨f1, f2, f3⟩, g, u, v, x⟩ := h
  have y6 := (b i hi).1.1
  have nq : ∀ j, j < m → Q j ≠ L i := fun j hj e => by
    obtain ⟨_, l, l1, l2, l3, _⟩ := f1 j hj
    have := c l i l2 hi (l3.symm.trans e)
    omega
  have m6 : m < 6272 := by
    have := pigeon 6272 (m + 1) (up1 Q m (L i)) (fun j hj => by
      by_cases q : j = m
      · subst q; rw [up1_at]; exact y6
      · rw [up1_ne q]
        obtain ⟨_, l, _, l2, l3, _⟩ := f1 j (by omega)
        rw [l3]; exact (b l l2).1.1) (fun j l hj hl e => by
      by_cases q : j = m <;> by_cases r : l = m
      · omega
      · subst q; rw [up1_at, up1_ne r] at e; exact absurd e.symm (nq l (by omega))
      · subst r; rw [up1_at, up1_ne q] at e; exact absurd e (nq j (by omega))
      · rw [up1_ne q, up1_ne r] at e; exact f2 j l (by omega) (by omega) e)
    omega
  unfold f_X0_settle
  rw [put14 y6, bD_e, gI_ne (show (4 : Nat) ≠ 14 by decide), a3, put13 m6, bD_e, gI_ne (show (4 : Nat) ≠ 13 by decide), gI_ne (show (4 : Nat) ≠ 14 by decide), a3, nI_1, bV_e]
  generalize es : sI (sI (sI σ 14 (L i) 1) 13 m (nI (L i))) 4 2 (nI (m + 1)) = s
  have o : ∀ a j, a ≠ 4 → a ≠ 13 → a ≠ 14 → gI s a j = gI σ a j := fun a j h1 h2 h3 => by rw [← es, gI_ne h1, gI_ne h2, gI_ne h3]
  have o4 : ∀ j, j ≠ 2 → gI s 4 j = gI σ 4 j := fun j h1 => by rw [← es, gI_nei h1, gI_ne (by decide), gI_ne (by decide)]
  have o14 : ∀ j, j ≠ L i → gI s 14 j = gI σ 14 j := fun j h1 => by rw [← es, gI_ne (by decide), gI_ne (by decide), gI_nei h1]
  have o14y : gI s 14 (L i) = 1 := by rw [← es, gI_ne (by decide), gI_ne (by decide), gI_sI]
  have o13 : ∀ j, j ≠ m → gI s 13 j = gI σ 13 j := fun j h1 => by rw [← es, gI_ne (by decide), gI_nei h1, gI_ne (by decide)]
  refine ⟨s, rfl, ⟨⟨a1, (o4 1 (by decide)).trans a2, by rw [← es, gI_sI], a4, a5⟩, fun j hj => ?_, c, d, ⟨fun j hj => ?_, fun c' hc hn => ?_⟩, ⟨fun j hj => ?_, fun j l hj hl e => ?_, fun l hl hl2 ht2 => ?_⟩, fun l hl hl2 => ?_, fun a ha => ?_, ?_, fun c' hc => ?_⟩, ?_⟩
  · rw [o 12 _ (by decide) (by decide) (by decide)]; exact b j hj
  · by_cases q : j = i
    · subst q; rw [o14y, if_pos ⟨by omega, ht⟩]
    · rw [o14 _ (fun e => q (c j i hj hi e)), e1 j hj]
      have : (j < i ∧ tm (L j) = true) ↔ (j < i + 1 ∧ tm (L j) = true) := by
        constructor <;> (rintro ⟨p, r⟩; exact ⟨by omega, r⟩)
      simp only [this]
  · rw [o14 c' (fun e => hn i hi e.symm)]; exact e2 c' hc hn
  · by_cases q : j = m
    · subst q
      rw [up1_at]
      exact ⟨by rw [← es, gI_ne (by decide), gI_sI], i, by omega, hi, rfl, ht⟩
    · rw [up1_ne q, o13 j q]
      obtain ⟨w1, l, l1, l2⟩ := f1 j (by omega)
      exact ⟨w1, l, by omega, l2⟩
  · by_cases q : j = m <;> by_cases r : l = m
    · omega
    · subst q; rw [up1_at, up1_ne r] at e; exact absurd e.symm (nq l (by omega))
    · subst r; rw [up1_at, up1_ne q] at e; exact absurd e (nq j (by omega))
    · rw [up1_ne q, up1_ne r] at e; exact f2 j l (by omega) (by omega) e
  · by_cases q : l = i
    · subst q; exact ⟨m, by omega, up1_at _ _ _⟩
    · obtain ⟨j, j1, j2⟩ := f3 l (by omega) hl2 ht2
      exact ⟨j, by omega, by rw [up1_ne (by omega)]; exact j2⟩
  · rw [o 15 _ (by decide) (by decide) (by decide)]; exact g l hl hl2
  · rw [o 16 _ (by decide) (by decide) (by decide)]; exact u a ha
  · rw [o4 3 (by decide)]; exact v
  · rw [o 15 _ (by decide) (by decide) (by decide)]; exact x c' hc
  · rw [← es]
    exact gfr_tr (gfr_tr (gfr_r (by decide)) (gfr_r (by decide))) (gfr_4 (by omega))
/-- one that is not -/
theorem x_skipT (h : SP A start tm lm n m i k L Q σ) (hi : i < n) (ht : tm (L i) = false) : SP A start tm lm n m (i + 1) k L Q σ := by
  obtain ⟨a, b, c, d, ⟨e1, e2⟩, ⟨f1, f2, f3⟩, g⟩ := h
  refine ⟨a, b, c, d, ⟨fun j hj => ?_, e2⟩, ⟨fun j hj => ?_, f2, fun l hl hl2 ht2 => ?_⟩, g⟩
  · rw [e1 j hj]
    have : (j < i ∧ tm (L j) = true) ↔ (j < i + 1 ∧ tm (L j) = true) := by
      constructor
      · rintro ⟨p, r⟩; exact ⟨by omega, r⟩
      · rintro ⟨p, r⟩
        refine ⟨?_, r⟩
        rcases Nat.lt_or_ge j i with q | q
        · exact q
        · have : j = i := by omega
          subst this
          rw [ht] at r; cases r
    simp only [this]
  · obtain ⟨w1, l, l1, l2⟩ := f1 j hj
    exact ⟨w1, l, by omega, l2⟩
  · refine f3 l ?_ hl2 ht2
    rcases Nat.lt_or_ge l i with q | q
    · exact q
    · have : l = i := by omega
      subst this
      rw [ht] at ht2; cases ht2
/-- the ways on counted; an end, a stand written down -/
theorem x_count (h : SP A start tm lm n m i k L Q σ) (w : wA A) (hk : k < n) (h16 : 16 ≤ lm) {s : jS} (o : ∀ a j, a ≠ 15 → a ≠ 16 → ¬ (a = 4 ∧ j = 3) → gI s a j = gI σ a j) (o15 : ∀ j, gI s 15 j = if j = L k then nI (dX A (L k)) else gI σ 15 j) (o3 : gI s 4 3 = if stN A (cv A (L k)) = 2 then 1 else gI σ 4 3) (o16 : ∀ a, a < 16 → gI s 16 a = if ended A (cv A (L k)) = true ∧ hs A (x0 (L k)) = a then nI (bm (fun b => (bex k fun l => ended A (cv A (L l)) && (hs A (x0 (L l)) == a && hs A (x1 (L l)) == b)) || b == hs A (x1 (L k))) 16) else gI σ 16 a) : SP A start tm lm n m i (k + 1) L Q s := by
  obtain ⟨⟨a1, a2, a3, a4, a5⟩, b, c, d, ⟨e1, e2⟩, ⟨f1, f2, f3⟩, g, u, v, x⟩ := h
  refine ⟨⟨a1, (o 4 1 (by decide) (by decide) (by omega)).trans a2, (o 4 2 (by decide) (by decide) (by omega)).trans a3, a4, a5⟩, fun j hj => ?_, c, d, ⟨fun j hj => ?_, fun c' hc hn => ?_⟩, ⟨fun j hj => ?_, f2, f3⟩, fun l hl hl2 => ?_, fun a ha => ?_, ?_, fun c' hc => ?_⟩
  · rw [o 12 _ (by decide) (by decide) (by omega)]; exact b j hj
  · rw [o 14 _ (by decide) (by decide) (by omega)]; exact e1 j hj
  · rw [o 14 _ (by decide) (by decide) (by omega)]; exact e2 c' hc hn
  · rw [o 13 _ (by decide) (by decide) (by omega)]; exact f1 j hj
  · rw [o15]
    by_cases q : l = k
    · subst q; rw [if_pos rfl]
    · rw [if_neg (fun e => q (c l k hl2 hk e))]; exact g l (by omega) hl2
  · rw [o16 a ha]
    by_cases q : ended A (cv A (L k)) = true ∧ hs A (x0 (L k)) = a
    · rw [if_pos q]
      refine congrArg nI (bm_cong fun b' _ => ?_)
      rw [bex_succ, q.1, beq_iff_eq.mpr q.2]
      have : (b' == hs A (x1 (L k))) = (hs A (x1 (L k)) == b') := by
        apply bool_iff; simp; exact ⟨fun e => e.symm, fun e => e.symm⟩
      rw [this]; simp
    · rw [if_neg q, u a ha]
      refine congrArg nI (bm_cong fun b' _ => ?_)
      rw [bex_succ]
      cases he : ended A (cv A (L k)) with
      | false => simp
      | true =>
        have : (hs A (x0 (L k)) == a) = false := beq_eq_false_iff_ne.mpr fun e => q ⟨he, e⟩
        rw [this]; simp
  · rw [o3, bex_succ]
    by_cases q : stN A (cv A (L k)) = 2
    · rw [if_pos q, beq_iff_eq.mpr q, Bool.or_true, if_pos rfl]
    · rw [if_neg q, beq_eq_false_iff_ne.mpr q, Bool.or_false]; exact v
  · rw [o15]
    by_cases q : c' = L k
    · rw [if_pos q]
      exact ⟨_, Nat.le_trans (dX_16 w (b k hk).1) h16, rfl⟩
    · rw [if_neg q]; exact x c' hc
end SPX
