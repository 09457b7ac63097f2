/-! who forces, in how many: what any breadth-first way of finding it finds -/
def FX (V : Nat → Prop) (E pc : Nat → Bool) (sc : Nat → Nat → Bool) (nd : Nat → Nat) : Prop :=
  ∀ x, V x → (E x = true ↔ nd x = 1) ∧ (E x = false → (pc x = true → ((nd x = 0 ∧ ∀ y, sc x y = true → nd y = 0) ∨ (nd x ≠ 0 ∧ (∃ y, sc x y = true ∧ nd y ≠ 0 ∧ nd x = nd y + 1) ∧ ∀ y, sc x y = true → nd y ≠ 0 → nd x ≤ nd y + 1))) ∧ (pc x = false → ((nd x = 0 ∧ ((∃ y, sc x y = true ∧ nd y = 0) ∨ ∀ y, sc x y = false)) ∨ (nd x ≠ 0 ∧ (∃ y, sc x y = true ∧ nd x = nd y + 1) ∧ ∀ y, sc x y = true → nd y ≠ 0 ∧ nd y + 1 ≤ nd x))))
theorem FX_half {V : Nat → Prop} {E pc : Nat → Bool} {sc : Nat → Nat → Bool} {nd nd' : Nat → Nat} (cl : ∀ x y, V x → E x = false → sc x y = true → V y) (h : FX V E pc sc nd) (h' : FX V E pc sc nd') {v : Nat} (ih : ∀ u, u < v → u ≠ 0 → ∀ x, V x → (nd x = u ↔ nd' x = u)) (v0 : v ≠ 0) {x : Nat} (hx : V x) (e : nd x = v) : nd' x = v := by
  obtain ⟨a1, a2⟩ := h x hx
  obtain ⟨b1, b2⟩ := h' x hx
  cases hE : E x with
  | true => rw [← e, a1.mp hE]; exact b1.mp hE
  | false =>
    obtain ⟨a3, a4⟩ := a2 hE
    obtain ⟨b3, b4⟩ := b2 hE
    have low : ∀ y, V y → nd y ≠ 0 → nd y < v → nd' y = nd y := fun y hy h0 hl => (ih (nd y) hl h0 y hy).mp rfl
    have up : nd' x ≠ 0 → nd' x ≤ v → nd' x = v := by
      intro u0 ul
      rcases Nat.lt_or_ge (nd' x) v with q | q
      · have := (ih (nd' x) q u0 x hx).mpr rfl
        omega
      · omega
    cases hp : pc x with
    | true =>
      rcases a3 hp with ⟨z, _⟩ | ⟨z, ⟨y, y1, y2, y3⟩, _⟩
      · omega
      · have hy := cl x y hx hE y1
        have e1 := low y hy y2 (by omega)
        rcases b3 hp with ⟨_, w⟩ | ⟨w1, _, w3⟩
        · have := w y y1; omega
        · have := w3 y y1 (by omega)
          exact up w1 (by omega)
    | false =>
      rcases a4 hp with ⟨z, _⟩ | ⟨z, ⟨y, y1, y2⟩, all⟩
      · omega
      · rcases b4 hp with ⟨_, ⟨u, u1, u2⟩ | w⟩ | ⟨w1, ⟨u, u1, u2⟩, w3⟩
        · have hu := cl x u hx hE u1
          have := all u u1
          have := low u hu this.1 (by omega)
          omega
        · rw [w y] at y1; cases y1
        · have hu := cl x u hx hE u1
          have := all u u1
          have := low u hu this.1 (by omega)
          exact up w1 (by omega)
theorem FX_unique {V : Nat → Prop} {E pc : Nat → Bool} {sc : Nat → Nat → Bool} {nd nd' : Nat → Nat} (cl : ∀ x y, V x → E x = false → sc x y = true → V y) (h : FX V E pc sc nd) (h' : FX V E pc sc nd') {x : Nat} (hx : V x) : nd x = nd' x := by
  have main : ∀ v, v ≠ 0 → ∀ x, V x → (nd x = v ↔ nd' x = v) := by
    intro v
    induction v using Nat.strongRecOn with
    | ind v ih =>
      intro v0 x hx
      exact ⟨fun e => FX_half cl h h' (fun u hu u0 => ih u hu u0) v0 hx e, fun e => FX_half cl h' h (fun u hu u0 y hy => (ih u hu u0 y hy).symm) v0 hx e⟩
  rcases Nat.eq_zero_or_pos (nd x) with z | z
  · rcases Nat.eq_zero_or_pos (nd' x) with y | y
    · omega
    · have := (main (nd' x) (by omega) x hx).mpr rfl
      omega
  · exact ((main (nd x) (by omega) x hx).mp rfl).symm
def up1 (f : Nat → Nat) (a v : Nat) : Nat → Nat := fun x => if x = a then v else f x
theorem up1_at (f : Nat → Nat) (a v : Nat) : up1 f a v a = v := if_pos rfl
theorem up1_ne {f : Nat → Nat} {a v x : Nat} (h : x ≠ a) : up1 f a v x = f x := if_neg h
def dn1 (dn : Nat → Nat → Bool) (p y : Nat) : Nat → Nat → Bool := fun a b => dn a b || (a == p && b == y)
theorem dn1_iff {dn : Nat → Nat → Bool} {p y a b : Nat} : dn1 dn p y a b = true ↔ dn a b = true ∨ (a = p ∧ b = y) := by unfold dn1; simp
theorem dn1_ne {dn : Nat → Nat → Bool} {p y a b : Nat} (h : a ≠ p) : dn1 dn p y a b = dn a b := by unfold dn1; simp [h]
def BI (V : Nat → Prop) (E pc : Nat → Bool) (sc : Nat → Nat → Bool) (nd q : Nat → Nat) (len i : Nat) (dn : Nat → Nat → Bool) : Prop :=
  (∀ j, j < len → V (q j) ∧ nd (q j) ≠ 0) ∧ (∀ j k, j < len → k < len → q j = q k → j = k) ∧ (∀ x, V x → nd x ≠ 0 → ∃ j, j < len ∧ q j = x) ∧
  (∀ j k, j ≤ k → k < len → nd (q j) ≤ nd (q k)) ∧ (∀ j k, i ≤ j → j < len → k < len → nd (q k) ≤ nd (q j) + 1) ∧
  (∀ p y, dn p y = true → sc p y = true ∧ ∃ j, j ≤ i ∧ j < len ∧ y = q j) ∧
  (∀ x, V x → (E x = true ↔ nd x = 1)) ∧
  (∀ x, V x → E x = false → pc x = true → (nd x = 0 → ∀ y, dn x y = false) ∧ (nd x ≠ 0 → (∃ y, dn x y = true ∧ nd x = nd y + 1) ∧ ∀ y, dn x y = true → nd x ≤ nd y + 1)) ∧
  (∀ x, V x → E x = false → pc x = false → (nd x = 0 → (∃ y, sc x y = true ∧ dn x y = false) ∨ ∀ y, sc x y = false) ∧ (nd x ≠ 0 → (∀ y, sc x y = true → dn x y = true) ∧ (∃ y, dn x y = true ∧ nd x = nd y + 1) ∧ ∀ y, dn x y = true → nd y + 1 ≤ nd x)) ∧
  (∀ j p, j < i → j < len → V p → sc p (q j) = true → dn p (q j) = true)
section BFS
variable {V : Nat → Prop} {E pc : Nat → Bool} {sc : Nat → Nat → Bool} {nd q : Nat → Nat} {len i : Nat} {dn : Nat → Nat → Bool}
theorem BI_start (h1 : ∀ j, j < len → V (q j) ∧ nd (q j) = 1) (h2 : ∀ j k, j < len → k < len → q j = q k → j = k) (h3 : ∀ x, V x → nd x ≠ 0 → ∃ j, j < len ∧ q j = x) (h4 : ∀ x, V x → (E x = true ↔ nd x = 1)) (h5 : ∀ x, V x → nd x ≤ 1) : BI V E pc sc nd q len 0 (fun _ _ => false) := by
  refine ⟨fun j hj => ⟨(h1 j hj).1, by rw [(h1 j hj).2]; decide⟩, h2, h3, fun j k hjk hk => ?_, fun j k _ hj hk => ?_, fun p y h => absurd h Bool.false_ne_true, h4, fun x hx hE hp => ⟨fun _ _ => rfl, fun h => ?_⟩, fun x hx hE hp => ⟨fun _ => ?_, fun h => ?_⟩, fun j p hj => absurd hj (Nat.not_lt_zero j)⟩
  · rw [(h1 j (by omega)).2, (h1 k hk).2]; exact Nat.le_refl _
  · rw [(h1 j hj).2, (h1 k hk).2]; decide
  · have := h5 x hx
    have := (h4 x hx).mpr (by omega)
    rw [hE] at this; cases this
  · by_cases z : ∃ y, sc x y = true
    · obtain ⟨y, hy⟩ := z
      exact Or.inl ⟨y, hy, rfl⟩
    · refine Or.inr fun y => ?_
      cases hs : sc x y with
      | true => exact absurd ⟨y, hs⟩ z
      | false => rfl
  · have := h5 x hx
    have := (h4 x hx).mpr (by omega)
    rw [hE] at this; cases this
theorem BI_s3 (h : BI V E pc sc nd q len i dn) (hi : i < len) {p : Nat} (hp : V p) (hs : sc p (q i) = true) (h0 : nd p ≠ 0) : BI V E pc sc nd q len i (dn1 dn p (q i)) := by
  obtain ⟨a, b, c, d, e, f, g, h1, h2, k⟩ := h
  refine ⟨a, b, c, d, e, fun u y hu => ?_, g, fun x hx hE hpc => ⟨fun hx0 y => ?_, fun hx0 => ?_⟩, fun x hx hE hpc => ⟨fun hx0 => ?_, fun hx0 => ?_⟩, fun j u hj hl hu hs2 => ?_⟩
  · rcases dn1_iff.mp hu with hu | ⟨rfl, rfl⟩
    · exact f u y hu
    · exact ⟨hs, i, Nat.le_refl _, hi, rfl⟩
  · have : x ≠ p := fun z => h0 (by rw [← z]; exact hx0)
    rw [dn1_ne this]
    exact (h1 x hx hE hpc).1 hx0 y
  · obtain ⟨⟨y, y1, y2⟩, y3⟩ := (h1 x hx hE hpc).2 hx0
    refine ⟨⟨y, dn1_iff.mpr (Or.inl y1), y2⟩, fun z hz => ?_⟩
    rcases dn1_iff.mp hz with hz | ⟨rfl, rfl⟩
    · exact y3 z hz
    · obtain ⟨j, j1, j2⟩ := c x hx hx0
      rw [← j2]
      exact e i j (Nat.le_refl _) hi j1
  · have : x ≠ p := fun z => h0 (by rw [← z]; exact hx0)
    rcases (h2 x hx hE hpc).1 hx0 with ⟨y, y1, y2⟩ | z
    · exact Or.inl ⟨y, y1, by rw [dn1_ne this]; exact y2⟩
    · exact Or.inr z
  · obtain ⟨y1, ⟨y, y2, y3⟩, y4⟩ := (h2 x hx hE hpc).2 hx0
    refine ⟨fun z hz => dn1_iff.mpr (Or.inl (y1 z hz)), ⟨y, dn1_iff.mpr (Or.inl y2), y3⟩, fun z hz => ?_⟩
    rcases dn1_iff.mp hz with hz | ⟨rfl, rfl⟩
    · exact y4 z hz
    · exact y4 _ (y1 _ hs)
  · exact dn1_iff.mpr (Or.inl (k j u hj hl hu hs2))
theorem BI_s2 (h : BI V E pc sc nd q len i dn) (hi : i < len) {p : Nat} (hp : V p) (hs : sc p (q i) = true) (h0 : nd p = 0) (hpc : pc p = false) (hz : ∃ z, sc p z = true ∧ dn1 dn p (q i) p z = false) : BI V E pc sc nd q len i (dn1 dn p (q i)) := by
  obtain ⟨a, b, c, d, e, f, g, h1, h2, k⟩ := h
  refine ⟨a, b, c, d, e, fun u y hu => ?_, g, fun x hx hE hpc2 => ?_, fun x hx hE hpc2 => ⟨fun hx0 => ?_, fun hx0 => ?_⟩, fun j u hj hl hu hs2 => ?_⟩
  · rcases dn1_iff.mp hu with hu | ⟨rfl, rfl⟩
    · exact f u y hu
    · exact ⟨hs, i, Nat.le_refl _, hi, rfl⟩
  · have : x ≠ p := fun z => by rw [z, hpc] at hpc2; cases hpc2
    have e1 : dn1 dn p (q i) x = dn x := funext fun y => dn1_ne this
    rw [e1]
    exact h1 x hx hE hpc2
  · by_cases z : x = p
    · subst z; exact Or.inl hz
    · rcases (h2 x hx hE hpc2).1 hx0 with ⟨y, y1, y2⟩ | w
      · exact Or.inl ⟨y, y1, by rw [dn1_ne z]; exact y2⟩
      · exact Or.inr w
  · have : x ≠ p := fun z => hx0 (by rw [z]; exact h0)
    have e1 : dn1 dn p (q i) x = dn x := funext fun y => dn1_ne this
    rw [e1]
    exact (h2 x hx hE hpc2).2 hx0
  · exact dn1_iff.mpr (Or.inl (k j u hj hl hu hs2))
theorem BI_s1 (h : BI V E pc sc nd q len i dn) (hi : i < len) {p : Nat} (hp : V p) (hs : sc p (q i) = true) (h0 : nd p = 0) (hok : pc p = true ∨ ∀ z, sc p z = true → dn1 dn p (q i) p z = true) : BI V E pc sc (up1 nd p (nd (q i) + 1)) (up1 q len p) (len + 1) i (dn1 dn p (q i)) := by
  obtain ⟨a, b, c, d, e, f, g, h1, h2, k⟩ := h
  have ne : ∀ j, j < len → q j ≠ p := fun j hj z => (a j hj).2 (by rw [z]; exact h0)
  have nq : ∀ j, j < len → up1 nd p (nd (q i) + 1) (q j) = nd (q j) := fun j hj => up1_ne (ne j hj)
  have qq : ∀ j, j < len → up1 q len p j = q j := fun j hj => up1_ne (by omega)
  have qi : up1 q len p i = q i := qq i hi
  have hEp : E p = false := by
    cases hE : E p with
    | true => have := (g p hp).mp hE; omega
    | false => rfl
  have dnq : ∀ x y, dn x y = true → up1 nd p (nd (q i) + 1) y = nd y := fun x y hy => by
    obtain ⟨_, j, _, j2, rfl⟩ := f x y hy
    exact nq j j2
  have hy0 := (a i hi).2
  refine ⟨fun j hj => ?_, fun j l hj hl hq => ?_, fun x hx hx0 => ?_, fun j l hjl hl => ?_, fun j l hij hj hl => ?_, fun u y hu => ?_, fun x hx => ?_, fun x hx hE hpc => ⟨fun hx0 y => ?_, fun hx0 => ?_⟩, fun x hx hE hpc => ⟨fun hx0 => ?_, fun hx0 => ?_⟩, fun j u hj hl hu hs2 => ?_⟩
  · by_cases z : j = len
    · subst z; rw [up1_at, up1_at]; exact ⟨hp, by omega⟩
    · rw [qq j (by omega), nq j (by omega)]; exact a j (by omega)
  · by_cases z : j = len <;> by_cases y : l = len
    · omega
    · subst z
      rw [up1_at, qq l (by omega)] at hq
      exact absurd hq.symm (ne l (by omega))
    · subst y
      rw [up1_at, qq j (by omega)] at hq
      exact absurd hq (ne j (by omega))
    · rw [qq j (by omega), qq l (by omega)] at hq
      exact b j l (by omega) (by omega) hq
  · by_cases z : x = p
    · subst z; exact ⟨len, by omega, up1_at _ _ _⟩
    · rw [up1_ne z] at hx0
      obtain ⟨j, j1, j2⟩ := c x hx hx0
      exact ⟨j, by omega, by rw [qq j j1]; exact j2⟩
  · by_cases z : l = len
    · subst z
      rw [up1_at, up1_at]
      by_cases y : j = l
      · subst y; rw [up1_at, up1_at]; exact Nat.le_refl _
      · rw [qq j (by omega), nq j (by omega)]
        exact e i j (Nat.le_refl _) hi (by omega)
    · rw [qq l (by omega), nq l (by omega), qq j (by omega), nq j (by omega)]
      exact d j l hjl (by omega)
  · by_cases z : l = len
    · subst z
      rw [up1_at, up1_at]
      by_cases y : j = l
      · subst y; rw [up1_at, up1_at]; omega
      · rw [qq j (by omega), nq j (by omega)]
        have := d i j hij (by omega)
        omega
    · rw [qq l (by omega), nq l (by omega)]
      by_cases y : j = len
      · subst y
        rw [up1_at, up1_at]
        have := e i l (Nat.le_refl _) hi (by omega)
        omega
      · rw [qq j (by omega), nq j (by omega)]
        exact e j l hij (by omega) (by omega)
  · rcases dn1_iff.mp hu with hu | ⟨rfl, rfl⟩
    · obtain ⟨s, j, j1, j2, j3⟩ := f u y hu
      exact ⟨s, j, j1, by omega, by rw [qq j j2]; exact j3⟩
    · exact ⟨hs, i, Nat.le_refl _, by omega, qi.symm⟩
  · by_cases z : x = p
    · subst z
      rw [up1_at, hEp]
      exact ⟨fun u => absurd u (by decide), fun u => absurd u (by omega)⟩
    · rw [up1_ne z]; exact g x hx
  · have z : x ≠ p := fun z => by subst z; rw [up1_at] at hx0; omega
    rw [up1_ne z] at hx0
    rw [dn1_ne z]
    exact (h1 x hx hE hpc).1 hx0 y
  · by_cases z : x = p
    · subst z
      rw [up1_at]
      refine ⟨⟨q i, dn1_iff.mpr (Or.inr ⟨rfl, rfl⟩), by rw [nq i hi]⟩, fun y hy => ?_⟩
      rcases dn1_iff.mp hy with hy | ⟨_, rfl⟩
      · rw [(h1 x hx hE hpc).1 h0 y] at hy; cases hy
      · rw [nq i hi]; exact Nat.le_refl _
    · rw [up1_ne z] at hx0 ⊢
      have e1 : dn1 dn p (q i) x = dn x := funext fun y => dn1_ne z
      rw [e1]
      obtain ⟨⟨y, y1, y2⟩, y3⟩ := (h1 x hx hE hpc).2 hx0
      exact ⟨⟨y, y1, by rw [dnq x y y1]; exact y2⟩, fun w hw => by rw [dnq x w hw]; exact y3 w hw⟩
  · have z : x ≠ p := fun z => by subst z; rw [up1_at] at hx0; omega
    rw [up1_ne z] at hx0
    have e1 : dn1 dn p (q i) x = dn x := funext fun y => dn1_ne z
    rw [e1]
    exact (h2 x hx hE hpc).1 hx0
  · by_cases z : x = p
    · subst z
      rw [up1_at]
      have all : ∀ z, sc x z = true → dn1 dn x (q i) x z = true := by
        rcases hok with w | w
        · rw [hpc] at w; cases w
        · exact w
      refine ⟨all, ⟨q i, dn1_iff.mpr (Or.inr ⟨rfl, rfl⟩), by rw [nq i hi]⟩, fun y hy => ?_⟩
      rcases dn1_iff.mp hy with hy | ⟨_, rfl⟩
      · rw [dnq x y hy]
        obtain ⟨_, j, j1, j2, rfl⟩ := f x y hy
        have := d j i j1 hi
        omega
      · rw [nq i hi]; exact Nat.le_refl _
    · rw [up1_ne z] at hx0 ⊢
      have e1 : dn1 dn p (q i) x = dn x := funext fun y => dn1_ne z
      rw [e1]
      obtain ⟨y0, ⟨y, y1, y2⟩, y3⟩ := (h2 x hx hE hpc).2 hx0
      exact ⟨y0, ⟨y, y1, by rw [dnq x y y1]; exact y2⟩, fun w hw => by rw [dnq x w hw]; exact y3 w hw⟩
  · rw [qq j (by omega)] at hs2 ⊢
    exact dn1_iff.mpr (Or.inl (k j u hj (by omega) hu hs2))
theorem BI_next (h : BI V E pc sc nd q len i dn) (hi : i < len) (all : ∀ p, V p → sc p (q i) = true → dn p (q i) = true) : BI V E pc sc nd q len (i + 1) dn := by
  obtain ⟨a, b, c, d, e, f, g, h1, h2, k⟩ := h
  refine ⟨a, b, c, d, fun j l hij hj hl => e j l (by omega) hj hl, fun u y hu => ?_, g, h1, h2, fun j u hj hl hu hs2 => ?_⟩
  · obtain ⟨s, j, j1, j2⟩ := f u y hu
    exact ⟨s, j, by omega, j2⟩
  · by_cases z : j = i
    · subst z; exact all u hu hs2
    · exact k j u (by omega) hl hu hs2
theorem BI_end (h : BI V E pc sc nd q len len dn) (cl : ∀ x y, V x → E x = false → sc x y = true → V y) : FX V E pc sc nd := by
  obtain ⟨a, b, c, d, e, f, g, h1, h2, k⟩ := h
  have done : ∀ x y, V x → E x = false → sc x y = true → nd y ≠ 0 → dn x y = true := fun x y hx hE hs h0 => by
    obtain ⟨j, j1, j2⟩ := c y (cl x y hx hE hs) h0
    rw [← j2] at hs ⊢
    exact k j x j1 j1 hx hs
  have dn0 : ∀ x y, dn x y = true → nd y ≠ 0 := fun x y hy => by
    obtain ⟨_, j, _, j2, rfl⟩ := f x y hy
    exact (a j j2).2
  refine fun x hx => ⟨g x hx, fun hE => ⟨fun hpc => ?_, fun hpc => ?_⟩⟩
  · by_cases h0 : nd x = 0
    · refine Or.inl ⟨h0, fun y hy => ?_⟩
      apply Classical.byContradiction
      intro n0
      have := done x y hx hE hy n0
      rw [(h1 x hx hE hpc).1 h0 y] at this; cases this
    · obtain ⟨⟨y, y1, y2⟩, y3⟩ := (h1 x hx hE hpc).2 h0
      exact Or.inr ⟨h0, ⟨y, (f x y y1).1, dn0 x y y1, y2⟩, fun z hz z0 => y3 z (done x z hx hE hz z0)⟩
  · by_cases h0 : nd x = 0
    · refine Or.inl ⟨h0, ?_⟩
      rcases (h2 x hx hE hpc).1 h0 with ⟨y, y1, y2⟩ | w
      · refine Or.inl ⟨y, y1, ?_⟩
        apply Classical.byContradiction
        intro n0
        have := done x y hx hE y1 n0
        rw [y2] at this; cases this
      · exact Or.inr w
    · obtain ⟨y0, ⟨y, y1, y2⟩, y3⟩ := (h2 x hx hE hpc).2 h0
      exact Or.inr ⟨h0, ⟨y, (f x y y1).1, y2⟩, fun z hz => ⟨dn0 x z (y0 z hz), y3 z (y0 z hz)⟩⟩
end BFS
