/-! tables of grudges: one more, one less, room for one more -/
def isPr (a b p q : Nat) : Bool := (p == a && q == b) || (p == b && q == a)
theorem isPr_iff {a b p q : Nat} : isPr a b p q = true ↔ (p = a ∧ q = b) ∨ (p = b ∧ q = a) := by
  unfold isPr; simp
theorem bears_iff {A : Tb} {p q : Nat} (hp : p < 100) (hq : q < 100) : bears A p q = true ↔ ∃ g, g < tG A ∧ ((A 6 g / 100 = p ∧ A 6 g % 100 = q) ∨ (A 6 g / 100 = q ∧ A 6 g % 100 = p)) := by
  unfold bears
  rw [bex_iff]
  constructor
  · rintro ⟨g, h1, h2⟩; exact ⟨g, h1, (bearsAt_iff hp hq).mp h2⟩
  · rintro ⟨g, h1, h2⟩; exact ⟨g, h1, (bearsAt_iff hp hq).mpr h2⟩
/-- no pair twice, in plain words -/
theorem wGA_in {A : Tb} (w : wGA A) (h16 : tP A ≤ 16) {g h : Nat} (hg : g < tG A) (hh : h < tG A) (e : (A 6 g / 100 = A 6 h / 100 ∧ A 6 g % 100 = A 6 h % 100) ∨ (A 6 g / 100 = A 6 h % 100 ∧ A 6 g % 100 = A 6 h / 100)) : g = h := by
  obtain ⟨a1, a2, a3⟩ := w.1 g hg
  obtain ⟨b1, b2, b3⟩ := w.1 h hh
  refine w.2 g h hg hh ((bearsAt_iff (by omega) (by omega)).mpr ?_)
  omega
theorem wGA_mk {A : Tb} (h1 : ∀ g, g < tG A → A 6 g / 100 < tP A ∧ A 6 g % 100 < tP A ∧ A 6 g / 100 ≠ A 6 g % 100) (h16 : tP A ≤ 16) (h2 : ∀ g h, g < tG A → h < tG A → (A 6 g / 100 = A 6 h / 100 ∧ A 6 g % 100 = A 6 h % 100) ∨ (A 6 g / 100 = A 6 h % 100 ∧ A 6 g % 100 = A 6 h / 100) → g = h) : wGA A := by
  refine ⟨h1, fun g h hg hh e => h2 g h hg hh ?_⟩
  obtain ⟨a1, a2, a3⟩ := h1 g hg
  have := (bearsAt_iff (A := A) (g := h) (p := A 6 g / 100) (q := A 6 g % 100) (by omega) (by omega)).mp e
  omega
theorem bool_iff {x y : Bool} (h : x = true ↔ y = true) : x = y := Bool.eq_iff_iff.mpr h
theorem add_tab {A B : Tb} (w : wGA A) (h16 : tP A ≤ 16) (hP : tP B = tP A) (hB : tG B = tG A + 1) {a b : Nat} (ha : a < tP A) (hb : b < tP A) (hab : a ≠ b) (h6 : ∀ g, g < tG A → B 6 g = A 6 g) (hn : B 6 (tG A) = 100 * a + b) (nb : bears A a b = false) : wGA B ∧ ∀ p q, p < 100 → q < 100 → bears B p q = (bears A p q || isPr a b p q) := by
  have none : ∀ g, g < tG A → ¬ ((A 6 g / 100 = a ∧ A 6 g % 100 = b) ∨ (A 6 g / 100 = b ∧ A 6 g % 100 = a)) := fun g hg e => by
    have : bears A a b = true := (bears_iff (by omega) (by omega)).mpr ⟨g, hg, e⟩
    rw [nb] at this; cases this
  constructor
  · refine wGA_mk (fun g hg => ?_) (by omega) (fun g h hg hh e => ?_)
    · rw [hP]
      by_cases z : g = tG A
      · subst z; rw [hn]; omega
      · rw [h6 g (by omega)]; exact w.1 g (by omega)
    · by_cases z : g = tG A <;> by_cases y : h = tG A
      · omega
      · subst z
        rw [hn, h6 h (by omega)] at e
        exact absurd (by omega) (none h (by omega))
      · subst y
        rw [hn, h6 g (by omega)] at e
        exact absurd (by omega) (none g (by omega))
      · rw [h6 g (by omega), h6 h (by omega)] at e
        exact wGA_in w h16 (by omega) (by omega) e
  · intro p q hp hq
    apply bool_iff
    rw [bears_iff hp hq, Bool.or_eq_true, bears_iff hp hq, isPr_iff]
    constructor
    · rintro ⟨g, h1, h2⟩
      by_cases z : g = tG A
      · subst z; rw [hn] at h2; right; omega
      · rw [h6 g (by omega)] at h2; exact Or.inl ⟨g, by omega, h2⟩
    · rintro (⟨g, h1, h2⟩ | h)
      · exact ⟨g, by omega, by rw [h6 g h1]; exact h2⟩
      · exact ⟨tG A, by omega, by rw [hn]; omega⟩
theorem drop_tab {A B : Tb} (w : wGA A) (h16 : tP A ≤ 16) (hP : tP B = tP A) {g0 : Nat} (h0 : g0 < tG A) (hB : tG B + 1 = tG A) {a b : Nat} (ha : a < 100) (hb : b < 100) (hab : (A 6 g0 / 100 = a ∧ A 6 g0 % 100 = b) ∨ (A 6 g0 / 100 = b ∧ A 6 g0 % 100 = a)) (h6 : ∀ g, g < tG B → B 6 g = A 6 (if g = g0 then tG A - 1 else g)) : wGA B ∧ ∀ p q, p < 100 → q < 100 → bears B p q = (bears A p q && !isPr a b p q) := by
  have sg : ∀ g, g < tG B → (if g = g0 then tG A - 1 else g) < tG A ∧ (if g = g0 then tG A - 1 else g) ≠ g0 := by
    intro g hg; split <;> omega
  constructor
  · refine wGA_mk (fun g hg => ?_) (by omega) (fun g h hg hh e => ?_)
    · rw [hP, h6 g hg]; exact w.1 _ (sg g hg).1
    · rw [h6 g hg, h6 h hh] at e
      have := wGA_in w h16 (sg g hg).1 (sg h hh).1 e
      split at this <;> split at this <;> omega
  · intro p q hp hq
    apply bool_iff
    rw [bears_iff hp hq, Bool.and_eq_true, bears_iff hp hq, Bool.not_eq_true', ← Bool.not_eq_true, isPr_iff]
    constructor
    · rintro ⟨g, h1, h2⟩
      rw [h6 g h1] at h2
      refine ⟨⟨_, (sg g h1).1, h2⟩, fun e => (sg g h1).2 ?_⟩
      exact wGA_in w h16 (sg g h1).1 h0 (by omega)
    · rintro ⟨⟨g, h1, h2⟩, h3⟩
      have hg0 : g ≠ g0 := by
        rintro rfl
        exact h3 (by omega)
      by_cases z : g = tG A - 1
      · refine ⟨g0, by omega, ?_⟩
        rw [h6 g0 (by omega), if_pos rfl, ← z]; exact h2
      · refine ⟨g, by omega, ?_⟩
        rw [h6 g (by omega), if_neg hg0]; exact h2
/-! room for one more -/
theorem pigeon : ∀ (N n : Nat) (f : Nat → Nat), (∀ i, i < n → f i < N) → (∀ i j, i < n → j < n → f i = f j → i = j) → n ≤ N
  | 0, n, f, h, _ => by
    rcases Nat.eq_zero_or_pos n with z | z
    · omega
    · exact absurd (h 0 z) (Nat.not_lt_zero _)
  | N + 1, 0, _, _, _ => Nat.zero_le _
  | N + 1, m + 1, f, h, inj => by
    have ih := pigeon N m (fun i => if f i = N then f m else f i) (fun i hi => ?_) (fun i j hi hj e => ?_)
    · omega
    · have h1 := h i (by omega)
      have h2 := h m (by omega)
      have h3 : f i ≠ f m := fun e => by have := inj i m (by omega) (by omega) e; omega
      show (if f i = N then f m else f i) < N
      split <;> omega
    · have h3 : f i ≠ f m := fun e => by have := inj i m (by omega) (by omega) e; omega
      have h4 : f j ≠ f m := fun e => by have := inj j m (by omega) (by omega) e; omega
      have e' : (if f i = N then f m else f i) = (if f j = N then f m else f j) := e
      refine inj i j (by omega) (by omega) ?_
      split at e' <;> split at e' <;> omega
def hiOf (n : Nat) : Nat := ((List.range 16).filter fun h => decide (1 ≤ h) && decide (h * (h - 1) / 2 ≤ n)).length
theorem hiOf_tab : ∀ h, h < 16 → ∀ l, l < h → hiOf (h * (h - 1) / 2 + l) = h ∧ h * (h - 1) / 2 + l < 120 := by decide +kernel
/-- a pair's number -/
def prN (a b : Nat) : Nat := if a < b then b * (b - 1) / 2 + a else a * (a - 1) / 2 + b
theorem prN_lt {a b : Nat} (ha : a < 16) (hb : b < 16) (hn : a ≠ b) : prN a b < 120 := by
  unfold prN
  split
  · exact (hiOf_tab b hb a (by omega)).2
  · exact (hiOf_tab a ha b (by omega)).2
theorem prN_inj {a b c d : Nat} (ha : a < 16) (hb : b < 16) (hn : a ≠ b) (hc : c < 16) (hd : d < 16) (hm : c ≠ d) (e : prN a b = prN c d) : (a = c ∧ b = d) ∨ (a = d ∧ b = c) := by
  unfold prN at e
  split at e <;> split at e
  · have h1 := (hiOf_tab b hb a (by omega)).1
    have h2 := (hiOf_tab d hd c (by omega)).1
    rw [e, h2] at h1; subst h1; omega
  · have h1 := (hiOf_tab b hb a (by omega)).1
    have h2 := (hiOf_tab c hc d (by omega)).1
    rw [e, h2] at h1; subst h1; omega
  · have h1 := (hiOf_tab a ha b (by omega)).1
    have h2 := (hiOf_tab d hd c (by omega)).1
    rw [e, h2] at h1; subst h1; omega
  · have h1 := (hiOf_tab a ha b (by omega)).1
    have h2 := (hiOf_tab c hc d (by omega)).1
    rw [e, h2] at h1; subst h1; omega
theorem room {A : Tb} (w : wGA A) (h16 : tP A ≤ 16) {a b : Nat} (ha : a < tP A) (hb : b < tP A) (hab : a ≠ b) (nb : bears A a b = false) : tG A < 120 := by
  have none : ∀ g, g < tG A → ¬ ((A 6 g / 100 = a ∧ A 6 g % 100 = b) ∨ (A 6 g / 100 = b ∧ A 6 g % 100 = a)) := fun g hg e => by
    have : bears A a b = true := (bears_iff (by omega) (by omega)).mpr ⟨g, hg, e⟩
    rw [nb] at this; cases this
  have := pigeon 120 (tG A + 1) (fun g => if g < tG A then prN (A 6 g / 100) (A 6 g % 100) else prN a b) (fun g hg => ?_) (fun g h hg hh e => ?_)
  · omega
  · show (if g < tG A then prN (A 6 g / 100) (A 6 g % 100) else prN a b) < 120
    split
    · rename_i q
      obtain ⟨a1, a2, a3⟩ := w.1 g q
      exact prN_lt (by omega) (by omega) a3
    · exact prN_lt (by omega) (by omega) hab
  · have e' : (if g < tG A then prN (A 6 g / 100) (A 6 g % 100) else prN a b) = (if h < tG A then prN (A 6 h / 100) (A 6 h % 100) else prN a b) := e
    split at e' <;> split at e'
    · rename_i q r
      obtain ⟨a1, a2, a3⟩ := w.1 g q
      obtain ⟨b1, b2, b3⟩ := w.1 h r
      exact wGA_in w h16 q r (prN_inj (by omega) (by omega) a3 (by omega) (by omega) b3 e')
    · rename_i q r
      obtain ⟨a1, a2, a3⟩ := w.1 g q
      exact absurd (by have := prN_inj (by omega) (by omega) a3 (by omega) (by omega) hab e'; omega) (none g q)
    · rename_i q r
      obtain ⟨b1, b2, b3⟩ := w.1 h r
      exact absurd (by have := prN_inj (by omega) (by omega) hab (by omega) (by omega) b3 e'; omega) (none h r)
    · omega
/-! the class: one bit turned in two rows -/
theorem nI_xor1 (p : Nat → Bool) {j : Nat} (hj : j < 16) : nI (bm p 16) ^^^ ((1 : Int32) <<< (nI j &&& 31)) = nI (bm (fun k => p k != (k == j)) 16) := by
  rw [nI_shl1 j (by omega), fb_xorI]
  refine congrArg nI (bm_eq_of fun k => ?_)
  rw [Nat.testBit_xor, bm_bit, Nat.testBit_two_pow]
  by_cases q : j = k
  · subst q; simp [hj]
  · rw [show (k == j) = false from beq_eq_false_iff_ne.mpr fun e => q e.symm, decide_eq_false q]
    simp
/-- handles of rows of foes -/
def foeH (h : Nat) : Prop := h = 11 ∨ h = 35 ∨ h = 43 ∨ h = 50 ∨ h = 60 ∨ h = 70
theorem foe_at {σ : jS} {h i : Nat} (hh : foeH h) (hi : i < 16) : f_X6_at σ h (nI i) = some (gI σ h i) := by
  rcases hh with rfl | rfl | rfl | rfl | rfl | rfl <;> exact x_at (by decide) rfl hi (by decide)
theorem foe_put {σ : jS} {h i : Nat} {v : Int32} (hh : foeH h) (hi : i < 16) : f_X6_put σ h (nI i) v = some ((), sI σ h i v) := by
  rcases hh with rfl | rfl | rfl | rfl | rfl | rfl <;> exact x_put (by decide) rfl hi (by decide)
theorem x_toggle {σ : jS} {h : Nat} (hh : foeH h) {F G : Nat → Nat → Bool} {a b : Nat} (ha : a < 16) (hb : b < 16) (hn : a ≠ b) (hF : ∀ p, p < 16 → gI σ h p = nI (bm (F p) 16)) (hG : ∀ p q, p < 16 → q < 16 → G p q = (F p q != isPr a b p q)) : ∃ σ', f_X1_toggle σ h (nI a) (nI b) = some ((), σ') ∧ fr [h] σ σ' ∧ ∀ p, p < 16 → gI σ' h p = nI (bm (G p) 16) := by
  refine ⟨sI (sI σ h a (nI (bm (fun k => F a k != (k == b)) 16))) h b (nI (bm (fun k => F b k != (k == a)) 16)), ?_, ?_, ?_⟩
  · unfold f_X1_toggle
    rw [foe_at hh ha, bC_e, hF a ha, nI_xor1 _ hb, foe_put hh ha, bD_e, foe_at hh hb, bC_e, gI_nei (fun e => hn e.symm), hF b hb, nI_xor1 _ ha, foe_put hh hb, bD_e]
  · exact fr_trans (fr_sI _ _ _ (List.mem_singleton.mpr rfl)) (fr_sI _ _ _ (List.mem_singleton.mpr rfl))
  · intro p hp
    by_cases zb : p = b
    · subst zb
      rw [gI_sI]
      refine congrArg nI (bm_cong fun q hq => ?_)
      rw [hG p q hp hq]
      have : isPr a p p q = (q == a) := by
        apply bool_iff
        rw [isPr_iff]; simp; omega
      rw [this]
    · rw [gI_nei zb]
      by_cases za : p = a
      · subst za
        rw [gI_sI]
        refine congrArg nI (bm_cong fun q hq => ?_)
        rw [hG p q hp hq]
        have : isPr p b p q = (q == b) := by
          apply bool_iff
          rw [isPr_iff]; simp; omega
        rw [this]
      · rw [gI_nei za, hF p hp]
        refine congrArg nI (bm_cong fun q hq => ?_)
        rw [hG p q hp hq]
        have : isPr a b p q = false := by
          rw [← Bool.not_eq_true, isPr_iff]; omega
        rw [this]; simp
