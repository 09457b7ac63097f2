/-! turns owed but once: what can be ended -/
def owU (A : Tb) (u h q : Nat) : Bool := bex (tT A) fun t => !u.testBit t && (A 3 t == q && A 4 t == h)
theorem owU_iff {A : Tb} {u h q : Nat} : owU A u h q = true ↔ ∃ t, t < tT A ∧ u.testBit t = false ∧ A 3 t = q ∧ A 4 t = h := by
  unfold owU
  rw [bex_iff]
  simp
theorem owU_owes {A : Tb} {u h q : Nat} (h1 : owU A u h q = true) : owes A h q = true := by
  obtain ⟨t, t1, _, t2, t3⟩ := owU_iff.mp h1
  unfold owes
  exact bex_iff.mpr ⟨t, t1, by simp [t2, t3]⟩
def mayU (A : Tb) (u c s : Nat) : Nat → Bool := mayG A (owU A u) c s
theorem mayU_iff {A : Tb} {u c s q : Nat} : mayU A u c s q = true ↔ owU A u (cHold c s) q = true ∧ mayP A c s q = true := by
  unfold mayU mayG mayP
  constructor
  · intro h
    rw [Bool.and_eq_true, Bool.and_eq_true, Bool.and_eq_true, Bool.and_eq_true] at h
    obtain ⟨⟨⟨⟨a, b⟩, c⟩, d⟩, e⟩ := h
    refine ⟨b, ?_⟩
    rw [a, owU_owes b, c, d, e]; rfl
  · rintro ⟨b, h⟩
    rw [Bool.and_eq_true, Bool.and_eq_true, Bool.and_eq_true, Bool.and_eq_true] at h
    obtain ⟨⟨⟨⟨a, _⟩, c⟩, d⟩, e⟩ := h
    rw [a, b, c, d, e]; rfl
def lfU (A : Tb) (u : Nat) : Nat := bm (fun t => !u.testBit t) (tT A)
theorem lfU_lt (A : Tb) (u : Nat) : lfU A u < 2 ^ tT A := bm_lt _ _
theorem lfU_bit {A : Tb} {u t : Nat} (h : t < tT A) : (lfU A u).testBit t = !u.testBit t := by
  unfold lfU
  rw [bm_bit, decide_eq_true h, Bool.true_and]
theorem lfU_lfU {A : Tb} {u : Nat} (h : u < 2 ^ tT A) : lfU A (lfU A u) = u := by
  refine Nat.eq_of_testBit_eq fun k => ?_
  unfold lfU
  rw [bm_bit]
  by_cases z : k < tT A
  · rw [decide_eq_true z, Bool.true_and, bm_bit, decide_eq_true z, Bool.true_and, Bool.not_not]
  · rw [decide_eq_false z, Bool.false_and, Nat.testBit_lt_two_pow (Nat.lt_of_lt_of_le h (Nat.pow_le_pow_right (by decide) (by omega)))]
theorem or_pow {u t k : Nat} : (u ||| 2 ^ t).testBit k = (u.testBit k || k == t) := by
  rw [Nat.testBit_or, Nat.testBit_two_pow]
  congr 1
  apply bool_iff
  simp
  omega
theorem or_lt {u t n : Nat} (hu : u < 2 ^ n) (ht : t < n) : u ||| 2 ^ t < 2 ^ n := Nat.or_lt_two_pow hu (Nat.pow_lt_pow_right (by decide) ht)
/-- one step of a quarrel that is carried on -/
def stp (A : Tb) (c u c' u' : Nat) : Prop := ended A c = false ∧ (bm (mayU A u c 0) 16 ≠ 0 ∨ bm (mayU A u c 1) 16 ≠ 0) ∧ ((bm (mayU A u c (cSide c)) 16 = 0 ∧ c' = behP c ∧ u' = u) ∨ ∃ t, t < tT A ∧ u.testBit t = false ∧ A 4 t = cHold c (cSide c) ∧ mayU A u c (cSide c) (A 3 t) = true ∧ c' = behQ A c (A 3 t) ∧ u' = u ||| 2 ^ t)
def RU (A : Tb) (c0 u0 : Nat) : Nat → Nat → Nat → Prop
  | 0, c, u => c = c0 ∧ u = u0
  | n + 1, c, u => ∃ c' u', RU A c0 u0 n c' u' ∧ stp A c' u' c u
def RE (A : Tb) (c0 u0 u : Nat) : Prop := ∃ n c, RU A c0 u0 n c u ∧ ended A c = true
noncomputable def pB (p : Prop) : Bool := @decide p (Classical.propDecidable p)
theorem pB_iff {p : Prop} : pB p = true ↔ p := by
  unfold pB
  exact @decide_eq_true_iff p (Classical.propDecidable p)
theorem pB_not {p : Prop} : pB p = false ↔ ¬ p := by
  rw [← Bool.not_eq_true, pB_iff]
def tdc (A : Tb) (q : Nat) : Nat := mkc (A 7 q) (A 8 q) 0 0 0
/-- after the set e of quarrels was gone on from -/
noncomputable def nxC (A : Tb) (C : Nat → Nat → Bool) (e : Nat) : Nat → Nat → Bool := fun e' u => pB (C e' u = true ∨ ∃ q, q < tQ A ∧ e.testBit q = false ∧ e' = e ||| 2 ^ q ∧ ∃ u0, C e u0 = true ∧ RE A (tdc A q) u0 u)
noncomputable def CC (A : Tb) (u0 : Nat) : Nat → Nat → Nat → Bool
  | 0 => fun e u => e == 0 && u == u0
  | e + 1 => nxC A (CC A u0 e) e
noncomputable def BS (A : Tb) (u0 : Nat) : Nat → Nat
  | 0 => 0
  | e + 1 => if pB (∃ u, CC A u0 e e u = true) = true ∧ fa_cnt (BS A u0 e).testBit 16 < fa_cnt e.testBit 16 then e else BS A u0 e
theorem RU_lt {A : Tb} {c0 u0 : Nat} (h : u0 < 2 ^ tT A) : ∀ n c u, RU A c0 u0 n c u → u < 2 ^ tT A
  | 0, c, u, hr => by rw [hr.2]; exact h
  | n + 1, c, u, hr => by
    obtain ⟨c', u', h1, _, _, ⟨_, _, rfl⟩ | ⟨t, t1, _, _, _, _, rfl⟩⟩ := hr
    · exact RU_lt h n _ _ h1
    · exact or_lt (RU_lt h n _ _ h1) t1
theorem RE_lt {A : Tb} {c0 u0 u : Nat} (h : u0 < 2 ^ tT A) (hr : RE A c0 u0 u) : u < 2 ^ tT A := by
  obtain ⟨n, c, h1, _⟩ := hr
  exact RU_lt h n c u h1
theorem CC_lt {A : Tb} {u0 : Nat} (h : u0 < 2 ^ tT A) : ∀ n e u, n ≤ 2 ^ tQ A → CC A u0 n e u = true → e < 2 ^ tQ A ∧ u < 2 ^ tT A
  | 0, e, u, _, hc => by
    have hc' : (e == 0 && u == u0) = true := hc
    rw [Bool.and_eq_true, beq_iff_eq, beq_iff_eq] at hc'
    rw [hc'.1, hc'.2]
    exact ⟨Nat.two_pow_pos _, h⟩
  | n + 1, e, u, hn, hc => by
    have hc' : pB (CC A u0 n e u = true ∨ ∃ q, q < tQ A ∧ n.testBit q = false ∧ e = n ||| 2 ^ q ∧ ∃ u1, CC A u0 n n u1 = true ∧ RE A (tdc A q) u1 u) = true := hc
    rcases pB_iff.mp hc' with h1 | ⟨q, q1, _, rfl, u1, h1, h2⟩
    · exact CC_lt h n e u (by omega) h1
    · have := CC_lt h n n u1 (by omega) h1
      exact ⟨or_lt (by omega) q1, RE_lt this.2 h2⟩
theorem BS_lt (A : Tb) (u0 : Nat) : ∀ n, BS A u0 n ≤ n
  | 0 => Nat.le_refl 0
  | n + 1 => by
    have := BS_lt A u0 n
    rw [BS]
    split <;> omega
/-! how many ways there are to try -/
def remU (A : Tb) (u : Nat) : Nat := fa_cnt (fun t => !u.testBit t) (tT A)
def optU (A : Tb) (u h : Nat) : Nat := fa_cnt (fun t => !u.testBit t && A 4 t == h) (tT A)
theorem cnt_sub {p q : Nat → Bool} : ∀ {n : Nat}, (∀ k, k < n → p k = true → q k = true) → fa_cnt p n ≤ fa_cnt q n
  | 0, _ => Nat.le_refl 0
  | n + 1, h => by
    have ih := cnt_sub (p := p) (q := q) (n := n) (fun k hk => h k (by omega))
    cases hp : p n with
    | false =>
      rw [fa_cnt_no hp]
      have := cnt_mono q (a := n) (b := n + 1) (by omega)
      omega
    | true => rw [fa_cnt_yes hp, fa_cnt_yes (h n (by omega) hp)]; omega
theorem cnt_dis {p q r : Nat → Bool} : ∀ {n : Nat}, (∀ k, k < n → (p k = true → r k = true) ∧ (q k = true → r k = true) ∧ ¬ (p k = true ∧ q k = true)) → fa_cnt p n + fa_cnt q n ≤ fa_cnt r n
  | 0, _ => Nat.le_refl 0
  | n + 1, h => by
    have ih := cnt_dis (p := p) (q := q) (r := r) (n := n) (fun k hk => h k (by omega))
    obtain ⟨h1, h2, h3⟩ := h n (by omega)
    have m := cnt_mono r (a := n) (b := n + 1) (by omega)
    cases hp : p n with
    | true =>
      have hq : q n = false := by
        cases hq : q n with
        | false => rfl
        | true => exact absurd ⟨hp, hq⟩ h3
      rw [fa_cnt_yes hp, fa_cnt_no hq, fa_cnt_yes (h1 hp)]; omega
    | false =>
      cases hq : q n with
      | true => rw [fa_cnt_no hp, fa_cnt_yes hq, fa_cnt_yes (h2 hq)]; omega
      | false => rw [fa_cnt_no hp, fa_cnt_no hq]; omega
theorem optU_dis {A : Tb} {u u' h h' : Nat} (hu : ∀ t, u'.testBit t = false → u.testBit t = false) (hn : h' ≠ h) : optU A u' h' + optU A u h ≤ remU A u := by
  unfold optU remU
  refine cnt_dis fun k _ => ⟨fun e => ?_, fun e => ?_, fun ⟨e1, e2⟩ => ?_⟩
  · rw [Bool.and_eq_true, Bool.not_eq_true'] at e
    rw [hu k e.1]; rfl
  · rw [Bool.and_eq_true] at e
    exact e.1
  · rw [Bool.and_eq_true, beq_iff_eq] at e1 e2
    exact hn (e1.2.symm.trans e2.2)
theorem optU_le {A : Tb} {u h : Nat} : optU A u h ≤ remU A u := cnt_sub fun k _ e => by
  rw [Bool.and_eq_true] at e
  exact e.1
theorem remU_or {A : Tb} {u t : Nat} (ht : t < tT A) (hu : u.testBit t = false) : remU A (u ||| 2 ^ t) + 1 = remU A u := by
  unfold remU
  have := cnt_drop (fun k => !u.testBit k) (j := t) (tT A)
  rw [if_pos ⟨ht, by rw [hu]; rfl⟩] at this
  rw [← this]
  congr 1
  refine fa_cnt_cong fun k _ => ?_
  rw [or_pow]
  by_cases z : k = t
  · subst z; simp
  · simp [z]
theorem may_opt {A : Tb} {u c s : Nat} (w : wA A) : fa_cnt (mayU A u c s) 16 ≤ optU A u (cHold c s) := by
  have := cnt_img (p := fun t => !u.testBit t && A 4 t == cHold c s) (g := A 3) (N := 16) (tT A) (fun a b ha hb e1 e2 e3 => by
    rw [Bool.and_eq_true, beq_iff_eq] at e1 e2
    exact w.2.2.2.2 a b ha hb e3 (e1.2.trans e2.2.symm)) (fun a ha _ => by have := (w.2.2.2.1 a ha).1; have := w.1; omega)
  unfold optU
  rw [← this]
  refine cnt_sub fun q _ hq => ?_
  obtain ⟨t, t1, t2, t3, t4⟩ := owU_iff.mp (mayU_iff.mp hq).1
  exact bex_iff.mpr ⟨t, t1, by simp [t2, t3, t4]⟩
def PB : Nat → Nat
  | 0 => 1
  | r + 1 => 2 + (r + 1) * PB r
def KB (r a : Nat) : Nat := if r = 8 then 2 + (8 - a) * PB 6 else PB (r - 1)
def wtU (A : Tb) (c u : Nat) : Nat := if bm (mayU A u c (cSide c)) 16 ≠ 0 then 1 + optU A u (cHold c (cSide c)) * KB (remU A u) (optU A u (cHold c (cSide c))) else if bm (mayU A u c (1 - cSide c)) 16 ≠ 0 then 2 + optU A u (cHold c (1 - cSide c)) * KB (remU A u) (optU A u (cHold c (1 - cSide c))) else 1
theorem wtU_pos (A : Tb) (c u : Nat) : 1 ≤ wtU A c u := by
  unfold wtU
  split
  · omega
  · split <;> omega
theorem KB_bound : ∀ r, r < 9 → ∀ a, a < 9 → a ≤ r → a * KB r a ≤ 52000 := by decide +kernel
theorem wtU_le {A : Tb} {c u : Nat} (h8 : remU A u ≤ 8) : wtU A c u ≤ 52002 := by
  have a := optU_le (A := A) (u := u) (h := cHold c (cSide c))
  have b := optU_le (A := A) (u := u) (h := cHold c (1 - cSide c))
  have ka := KB_bound (remU A u) (by omega) _ (by omega) a
  have kb := KB_bound (remU A u) (by omega) _ (by omega) b
  unfold wtU
  split
  · omega
  · split <;> omega
