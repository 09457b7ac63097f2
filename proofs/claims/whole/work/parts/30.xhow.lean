/-! how it is, who may get it, the spot for one: class against reference's table -/
theorem ows_may {A : Tb} (w : wA A) {x s : Nat} (h : okx A x) (hs2 : s < 2) {d : Nat} (hd : ows A x s d = true) : mayP A (cv A x) s (hs A d) = true ∧ vs A d := by
  obtain ⟨t, ht, e, r⟩ := (ows_turn w h d).mp hd
  subst e
  rw [(byT_hs w ht).1]
  exact ⟨(may_turn w h hs2).mpr ⟨t, ht, rfl, r⟩, byT_v w ht⟩
theorem may_ows {A : Tb} (w : wA A) {x s q : Nat} (h : okx A x) (hs2 : s < 2) (hq : mayP A (cv A x) s q = true) : ∃ d, d < 56 ∧ ows A x s d = true ∧ hs A d = q ∧ ∀ e, ows A x s e = true → hs A e = q → e = d := by
  obtain ⟨t, ht, e, r⟩ := (may_turn w h hs2).mp hq
  refine ⟨byT A t, (byT_hs w ht).2, (ows_turn w h _).mpr ⟨t, ht, rfl, r⟩, (byT_hs w ht).1.trans e, ?_⟩
  intro d hd hq2
  obtain ⟨u, hu, e3, r2⟩ := (ows_turn w h d).mp hd
  subst e3
  rw [(byT_hs w hu).1] at hq2
  have : u = t := w.2.2.2.2 u t hu ht (by rw [hq2, e]) (by rw [← r2.2.1, ← r.2.1])
  rw [this]
theorem ows_none {A : Tb} (w : wA A) {x s : Nat} (h : okx A x) (hs2 : s < 2) : bm (ows A x s) 56 = 0 ↔ bm (mayP A (cv A x) s) 16 = 0 := by
  rw [bm_zero, bm_zero]
  constructor
  · intro z q _
    cases hq : mayP A (cv A x) s q with
    | false => rfl
    | true =>
      obtain ⟨d, hd, h1, _⟩ := may_ows w h hs2 hq
      rw [z d hd] at h1; cases h1
  · intro z d _
    cases hd : ows A x s d with
    | false => rfl
    | true =>
      obtain ⟨h1, h2⟩ := ows_may w h hs2 hd
      rw [z _ (hs_lt w h2)] at h1; cases h1
theorem lgc0 {m : Nat} (h : m < 2 ^ 63) : lg_cmp (lN m) 0 = 0 ↔ m = 0 := by
  rw [lg_cmp_eq, show (0 : Int64) = lN 0 from rfl, pk_lEQ h (by decide)]
theorem x_howIs {σ : jS} {A : Tb} (w : wA A) (hW : xW σ A) (hF : xF σ A) {x : Nat} (h : okx A x) : f_X0_howIs σ (nI x) = some (nI (stN A (cv A x))) := by
  unfold f_X0_howIs f_X0_howIs_J36 f_X0_howIs_J37
  rw [x_isEnded w hW hF h, bC_e]
  unfold stN mayS
  cases h1 : ended A (cv A x) with
  | true => rfl
  | false =>
    obtain ⟨g1, g2, _⟩ := flp_ok h
    rw [if_pos (by simp), x_onwardOf w hW h, bC_e, show nI x ^^^ (1 : Int32) = nI (flp x) from by rw [show (1 : Int32) = nI 1 from rfl, fb_xorI, xor_flp h.1], x_onwardOf w hW g1, bC_e, g2]
    have e : bm (ows A (flp x) (1 - x % 2)) 56 = bm (ows A x (1 - x % 2)) 56 := bm_cong fun k _ => flp_ows h _ k
    rw [e]
    have z0 := ows_none w h (s := 0) (by decide)
    have z1 := ows_none w h (s := 1) (by decide)
    by_cases a : bm (ows A x (x % 2)) 56 = 0
    · rw [if_pos ((lgc0 (bm56 _)).mpr a)]
      by_cases b : bm (ows A x (1 - x % 2)) 56 = 0
      · rw [if_pos ((lgc0 (bm56 _)).mpr b)]
        have : x % 2 = 0 ∨ x % 2 = 1 := by omega
        rcases this with q | q <;> rw [q] at a b
        · rw [if_neg (by decide), if_pos ⟨z0.mp a, z1.mp b⟩]; rfl
        · rw [if_neg (by decide), if_pos ⟨z0.mp b, z1.mp a⟩]; rfl
      · rw [if_neg (fun y => b ((lgc0 (bm56 _)).mp y))]
        have : x % 2 = 0 ∨ x % 2 = 1 := by omega
        rcases this with q | q <;> rw [q] at a b
        · rw [if_neg (by decide), if_neg (fun y => b (z1.mpr y.2))]; rfl
        · rw [if_neg (by decide), if_neg (fun y => b (z0.mpr y.1))]; rfl
    · rw [if_neg (fun y => a ((lgc0 (bm56 _)).mp y))]
      have : x % 2 = 0 ∨ x % 2 = 1 := by omega
      rcases this with q | q <;> rw [q] at a
      · rw [if_neg (by decide), if_neg (fun y => a (z0.mpr y.1))]; rfl
      · rw [if_neg (by decide), if_neg (fun y => a (z1.mpr y.2))]; rfl
/-! a set run through, bit by bit -/
theorem cnt_drop (p : Nat → Bool) {j : Nat} : ∀ n, fa_cnt (fun k => p k && decide (k ≠ j)) n + (if j < n ∧ p j = true then 1 else 0) = fa_cnt p n
  | 0 => by simp [fa_cnt]
  | n + 1 => by
    have ih := cnt_drop p (j := j) n
    rw [fa_cnt, fa_cnt]
    rcases Nat.lt_trichotomy j n with q | q | q
    · have e : decide (n ≠ j) = true := by simp; omega
      have e1 : (j < n + 1 ∧ p j = true) ↔ (j < n ∧ p j = true) := by constructor <;> (rintro ⟨_, b⟩; exact ⟨by omega, b⟩)
      rw [e, Bool.and_true]
      simp only [e1]
      omega
    · subst q
      have e1 : ¬ (j < j ∧ p j = true) := fun z => absurd z.1 (Nat.lt_irrefl _)
      rw [if_neg e1] at ih
      have e2 : (p j && decide (j ≠ j)) = false := by simp
      rw [e2]
      cases hp : p j
      · rw [if_neg (by decide), if_neg (by simp)]; omega
      · rw [if_neg (by decide), if_pos ⟨by omega, rfl⟩, if_pos rfl]; omega
    · have e : decide (n ≠ j) = true := by simp; omega
      have e1 : ¬ (j < n + 1 ∧ p j = true) := fun z => absurd z.1 (by omega)
      have e2 : ¬ (j < n ∧ p j = true) := fun z => absurd z.1 (by omega)
      rw [e, Bool.and_true, if_neg e1]
      rw [if_neg e2] at ih
      omega
theorem cnt_zero {m n : Nat} (hm : m < 2 ^ n) : fa_cnt m.testBit n = 0 ↔ m = 0 := by
  constructor
  · intro h
    apply Nat.eq_of_testBit_eq
    intro i
    rw [Nat.zero_testBit]
    rcases Nat.lt_or_ge i n with q | q
    · have g : ∀ n, i < n → fa_cnt m.testBit n = 0 → m.testBit i = false := by
        intro n
        induction n with
        | zero => intro h; omega
        | succ n ih =>
          intro h1 h2
          rw [fa_cnt] at h2
          rcases Nat.lt_or_ge i n with q | q
          · exact ih q (by omega)
          · have : i = n := by omega
            subst this
            cases hb : m.testBit i with
            | false => rfl
            | true => rw [hb] at h2; simp at h2
      exact g n q h
    · exact Nat.testBit_lt_two_pow (Nat.lt_of_lt_of_le hm (Nat.pow_le_pow_right (by decide) q))
  · rintro rfl
    have g : ∀ n, fa_cnt (Nat.testBit 0) n = 0 := by
      intro n
      induction n with
      | zero => rfl
      | succ n ih => rw [fa_cnt, ih]; simp
    exact g n
theorem low_lt {m k n : Nat} (h : lowAt m k) (hm : m < 2 ^ n) : k < n := by
  apply Classical.byContradiction
  intro z
  have : m.testBit k = false := Nat.testBit_lt_two_pow (Nat.lt_of_lt_of_le hm (Nat.pow_le_pow_right (by decide) (by omega)))
  rw [h.1] at this; cases this
theorem low_dec {m k : Nat} (h : lowAt m k) (hm : m < 2 ^ 63) : lN m &&& (lN m - 1) = lN (m &&& (m - 1)) := by
  have h0 : 1 ≤ m := by
    rcases Nat.eq_zero_or_pos m with z | z
    · subst z; have := h.1; simp at this
    · exact z
  rw [show (1 : Int64) = lN 1 from rfl, lN_sub h0, fb_andL]
theorem low_cnt {m k n : Nat} (h : lowAt m k) (hk : k < n) : fa_cnt (m &&& (m - 1)).testBit n + 1 = fa_cnt m.testBit n := by
  have e : fa_cnt (m &&& (m - 1)).testBit n = fa_cnt (fun i => m.testBit i && decide (i ≠ k)) n := fa_cnt_cong fun i _ => low_drop h i
  rw [e, ← cnt_drop m.testBit (j := k) n, if_pos ⟨hk, h.1⟩]
