/-! the ways from state to state, counted; sets run through bit by bit -/
theorem bitloop {S O : Type} {f : (Int64 × Int32 × S) → Option ((Int64 × Int32 × S) ⊕ O)} (I : Nat → S → Prop) (q : O → Prop) (hend : ∀ s, I 0 s → ∃ o, f (0, 0, s) = some (.inr o) ∧ q o) (hs : ∀ m k n s, m < 2 ^ 56 → lowAt m k → 0 < n → n ≤ 64 → n = fa_cnt m.testBit 64 → I m s → ∃ s', f (lN m, nI n, s) = some (.inl (lN (m &&& (m - 1)), nI n + (-1), s')) ∧ I (m &&& (m - 1)) s') {m0 : Nat} (hm0 : m0 < 2 ^ 56) {s0 : S} (h0 : I m0 s0) : ∃ o, jloop jFuel f (lN m0, nI (fa_cnt m0.testBit 64), s0) = some o ∧ q o := by
  have hn := fa_cnt_le m0.testBit 64
  refine jloop_ex (fun i t => ∃ m s, m < 2 ^ 56 ∧ t = (lN m, nI (fa_cnt m.testBit 64), s) ∧ I m s ∧ fa_cnt m.testBit 64 + i = fa_cnt m0.testBit 64) (fa_cnt m0.testBit 64) q ⟨m0, s0, hm0, rfl, h0, by omega⟩ (jfuel_big (by omega)) ?_ ?_
  · rintro t ⟨m, s, m1, rfl, m2, m3⟩
    have z : fa_cnt m.testBit 64 = 0 := by omega
    have mz := (cnt_zero (Nat.lt_trans m1 (by decide))).mp z
    subst mz
    rw [z]
    exact hend s m2
  · rintro i t hi ⟨m, s, m1, rfl, m2, m3⟩
    have hne : m ≠ 0 := by
      rintro rfl
      have := (cnt_zero (m := 0) (n := 64) (by decide)).mpr rfl
      omega
    obtain ⟨k, hk⟩ := low_ex hne
    have hc := low_cnt (n := 64) hk (by have := low_lt hk m1; omega)
    obtain ⟨s', e1, e2⟩ := hs m k _ s m1 hk (by omega) (fa_cnt_le _ 64) rfl m2
    refine Or.inl ⟨_, e1, _, s', Nat.lt_of_le_of_lt Nat.and_le_left m1, ?_, e2, by omega⟩
    refine Prod.ext rfl (Prod.ext ?_ rfl)
    show nI _ + (-1) = nI _
    rw [← hc]
    show nI (_ + 1) + (-1) = _
    rw [nI_succ]
    simp [Int32.add_assoc]
theorem bit64 {m : Nat} (h : m < 2 ^ 56) : fa_cnt m.testBit 64 = fa_cnt m.testBit 56 := by
  rw [show (64 : Nat) = 56 + 8 from rfl, fa_cnt_add]
  have : fa_cnt (fun k => m.testBit (56 + k)) 8 = fa_cnt (fun _ => false) 8 := fa_cnt_cong fun k _ => Nat.testBit_lt_two_pow (Nat.lt_of_lt_of_le h (Nat.pow_le_pow_right (by decide) (by omega)))
  rw [this]; rfl
theorem bit64b (p : Nat → Bool) : fa_cnt (bm p 56).testBit 64 = fa_cnt p 56 := by
  rw [bit64 (bm_lt _ 56)]
  exact fa_cnt_cong fun k hk => by rw [bm_bit]; simp [hk]
theorem cnt_ins {f : Nat → Bool} {a N : Nat} (ha : a < N) (hf : f a = false) : fa_cnt (fun y => f y || a == y) N = fa_cnt f N + 1 := by
  rw [← cnt_drop (fun y => f y || a == y) (j := a) N, if_pos ⟨ha, by simp⟩]
  congr 1
  refine fa_cnt_cong fun k _ => ?_
  by_cases z : k = a
  · subst z; simp [hf]
  · have : (a == k) = false := beq_eq_false_iff_ne.mpr (fun e => z e.symm)
    simp [z, this]
theorem cnt_img {p : Nat → Bool} {g : Nat → Nat} {N : Nat} : ∀ n, (∀ a b, a < n → b < n → p a = true → p b = true → g a = g b → a = b) → (∀ a, a < n → p a = true → g a < N) → fa_cnt (fun y => bex n fun d => p d && g d == y) N = fa_cnt p n
  | 0, _, _ => by
    rw [fa_cnt]
    have : fa_cnt (fun y => bex 0 fun d => p d && g d == y) N = fa_cnt (fun _ => false) N := fa_cnt_cong fun k _ => rfl
    rw [this]
    have z : ∀ N, fa_cnt (fun _ => false) N = 0 := fun N => by
      induction N with
      | zero => rfl
      | succ N ih => rw [fa_cnt, ih]; rfl
    exact z N
  | n + 1, inj, lt => by
    have ih := cnt_img (p := p) (g := g) (N := N) n (fun a b ha hb => inj a b (by omega) (by omega)) (fun a ha => lt a (by omega))
    rw [fa_cnt, ← ih]
    cases hp : p n with
    | false =>
      rw [if_neg (by decide), Nat.add_zero]
      refine fa_cnt_cong fun y _ => ?_
      rw [bex_succ, hp, Bool.false_and, Bool.or_false]
    | true =>
      rw [if_pos rfl]
      have e : fa_cnt (fun y => bex (n + 1) fun d => p d && g d == y) N = fa_cnt (fun y => (bex n fun d => p d && g d == y) || g n == y) N := fa_cnt_cong fun y _ => by rw [bex_succ, hp, Bool.true_and]
      rw [e]
      refine cnt_ins (lt n (by omega) hp) (bex_not.mpr fun d hd => ?_)
      cases hd2 : p d with
      | false => rfl
      | true =>
        rw [Bool.true_and]
        exact beq_eq_false_iff_ne.mpr fun e => by
          have := inj d n (by omega) (by omega) hd2 hp e
          omega
/-! one way on -/
def scX (A : Tb) (x y : Nat) : Bool := decide (stN A (cv A x) = 0) && (if bm (ows A x (x % 2)) 56 = 0 then y == flp x else bex 56 fun d => ows A x (x % 2) d && afx x d == y)
theorem afx_inj {x d e : Nat} (hx : x < 6272) (hd : d < 56) (he : e < 56) (h : afx x d = afx x e) : d = e := by
  unfold afx at h
  split at h <;> omega
theorem scX_iff {A : Tb} {x y : Nat} : scX A x y = true ↔ stN A (cv A x) = 0 ∧ ((bm (ows A x (x % 2)) 56 = 0 ∧ y = flp x) ∨ ∃ d, d < 56 ∧ ows A x (x % 2) d = true ∧ y = afx x d) := by
  unfold scX
  rw [Bool.and_eq_true, decide_eq_true_eq]
  by_cases z : bm (ows A x (x % 2)) 56 = 0
  · rw [if_pos z]
    constructor
    · rintro ⟨a, b⟩; exact ⟨a, Or.inl ⟨z, beq_iff_eq.mp b⟩⟩
    · rintro ⟨a, ⟨_, b⟩ | ⟨d, d1, d2, _⟩⟩
      · exact ⟨a, beq_iff_eq.mpr b⟩
      · rw [bm_zero.mp z d d1] at d2; cases d2
  · rw [if_neg z, bex_iff]
    constructor
    · rintro ⟨a, d, d1, d2⟩
      rw [Bool.and_eq_true, beq_iff_eq] at d2
      exact ⟨a, Or.inr ⟨d, d1, d2.1, d2.2.symm⟩⟩
    · rintro ⟨a, ⟨b, _⟩ | ⟨d, d1, d2, d3⟩⟩
      · exact absurd b z
      · exact ⟨a, d, d1, by rw [Bool.and_eq_true, beq_iff_eq]; exact ⟨d2, d3.symm⟩⟩
theorem scX_ok {A : Tb} (w : wA A) {x y : Nat} (h : okx A x) (s : scX A x y = true) : okx A y := by
  obtain ⟨_, ⟨_, rfl⟩ | ⟨d, _, d2, rfl⟩⟩ := scX_iff.mp s
  · exact (flp_ok h).1
  · exact (afx_ok w h d2).1
def dX (A : Tb) (x : Nat) : Nat := if bm (ows A x (x % 2)) 56 = 0 then 1 else fa_cnt (ows A x (x % 2)) 56
theorem ows_16 {A : Tb} (w : wA A) {x : Nat} (h : okx A x) : fa_cnt (ows A x (x % 2)) 56 ≤ 16 := by
  have h2 : x % 2 < 2 := Nat.mod_lt x (by decide)
  have := cnt_img (p := ows A x (x % 2)) (g := hs A) (N := 16) 56 (fun a b _ _ ha hb e => by
    obtain ⟨d, _, _, _, d4⟩ := may_ows w h h2 (ows_may w h h2 ha).1
    rw [d4 a ha rfl, d4 b hb e.symm]) (fun a _ ha => hs_lt w (ows_may w h h2 ha).2)
  rw [← this]
  exact fa_cnt_le _ 16
theorem dX_16 {A : Tb} (w : wA A) {x : Nat} (h : okx A x) : dX A x ≤ 16 := by
  unfold dX
  split
  · decide
  · exact ows_16 w h
theorem dX_max {A : Tb} {x : Nat} : (if nI (fa_cnt (bm (ows A x (x % 2)) 56).testBit 64) < 1 then (1 : Int32) else nI (fa_cnt (bm (ows A x (x % 2)) 56).testBit 64)) = nI (dX A x) := by
  have hc := fa_cnt_le (ows A x (x % 2)) 56
  rw [bit64b]
  unfold dX
  by_cases z : bm (ows A x (x % 2)) 56 = 0
  · have : fa_cnt (ows A x (x % 2)) 56 = 0 := by
      have := (cnt_zero (m := bm (ows A x (x % 2)) 56) (n := 64) (Nat.lt_trans (bm_lt _ 56) (by decide))).mpr z
      rw [bit64b] at this; exact this
    rw [this, if_pos z, if_pos (by decide)]; rfl
  · have : fa_cnt (ows A x (x % 2)) 56 ≠ 0 := fun e => z ((cnt_zero (m := bm (ows A x (x % 2)) 56) (n := 64) (Nat.lt_trans (bm_lt _ 56) (by decide))).mp (by rw [bit64b]; exact e))
    rw [if_neg z, if_neg (show ¬ nI _ < (1 : Int32) from fun e => by have := (nI_ltI (b := 1) (by omega) (by decide)).mp e; omega)]
theorem cnt_scX {A : Tb} (w : wA A) {x : Nat} (h : okx A x) (g : stN A (cv A x) = 0) : fa_cnt (scX A x) 6272 = dX A x := by
  unfold dX
  by_cases z : bm (ows A x (x % 2)) 56 = 0
  · rw [if_pos z]
    have e : fa_cnt (scX A x) 6272 = fa_cnt (fun y => (fun _ => false) y || flp x == y) 6272 := fa_cnt_cong fun y _ => by
      unfold scX
      rw [g, if_pos z]
      apply bool_iff
      simp
      exact ⟨fun e => e.symm, fun e => e.symm⟩
    rw [e, cnt_ins (flp_ok h).1.1 rfl]
    have : ∀ N, fa_cnt (fun _ => false) N = 0 := fun N => by
      induction N with
      | zero => rfl
      | succ N ih => rw [fa_cnt, ih]; rfl
    rw [this]
  · rw [if_neg z, ← cnt_img (p := ows A x (x % 2)) (g := afx x) (N := 6272) 56 (fun a b ha hb _ _ e => afx_inj h.1 ha hb e) (fun a _ ha => (afx_ok w h ha).1.1)]
    refine fa_cnt_cong fun y _ => ?_
    unfold scX
    rw [g, if_neg z]
    simp
/-- the state before s, if the one of h handed it on -/
def bef (s h : Nat) : Nat := if 1 - s % 2 = 0 then (h * 56 + x1 s) * 2 else (x0 s * 56 + h) * 2 + 1
theorem bef_parts {s h : Nat} (hs : s < 6272) (hh : h < 56) : bef s h < 6272 ∧ bef s h % 2 = 1 - s % 2 ∧ xs (bef s h) (1 - s % 2) = h ∧ xs (bef s h) (s % 2) = xs s (s % 2) := by
  have := x01 hs
  unfold bef xs
  have p : s % 2 = 0 ∨ s % 2 = 1 := by omega
  rcases p with e | e <;> rw [e]
  · simp only [Nat.sub_zero, Nat.sub_self, Nat.one_ne_zero, reduceIte]
    unfold x0 x1 at *
    omega
  · simp only [Nat.sub_zero, Nat.sub_self, Nat.one_ne_zero, reduceIte]
    unfold x0 x1 at *
    omega
theorem afx_parts {p d : Nat} (hp : p < 6272) (hd : d < 56) : afx p d < 6272 ∧ afx p d % 2 = 1 - p % 2 ∧ xs (afx p d) (p % 2) = d ∧ xs (afx p d) (1 - p % 2) = xs p (1 - p % 2) := by
  have := x01 hp
  unfold afx xs
  have q : p % 2 = 0 ∨ p % 2 = 1 := by omega
  rcases q with e | e <;> rw [e]
  · simp only [Nat.sub_zero, Nat.sub_self, Nat.one_ne_zero, reduceIte]
    unfold x0 x1 at *
    omega
  · simp only [Nat.sub_zero, Nat.sub_self, Nat.one_ne_zero, reduceIte]
    unfold x0 x1 at *
    omega
theorem st_eq {x y : Nat} (hx : x < 6272) (hy : y < 6272) (e : x % 2 = y % 2) {m : Nat} (hm : m < 2) (e0 : xs x m = xs y m) (e1 : xs x (1 - m) = xs y (1 - m)) : x = y := by
  have := x01 hx
  have := x01 hy
  have q : m = 0 ∨ m = 1 := by omega
  unfold xs at e0 e1
  rcases q with rfl | rfl
  · rw [if_pos rfl, if_pos rfl] at e0
    rw [if_neg (by decide), if_neg (by decide)] at e1
    omega
  · rw [if_neg (by decide), if_neg (by decide)] at e0
    rw [if_pos (by decide), if_pos (by decide)] at e1
    omega
/-- a handing from p to s: p is the state before s at the spot p's mover has -/
theorem afx_bef {p d : Nat} (hp : p < 6272) (hd : d < 56) : bef (afx p d) (xs p (p % 2)) = p ∧ xs (afx p d) (1 - afx p d % 2) = d := by
  obtain ⟨a1, a2, a3, a4⟩ := afx_parts hp hd
  obtain ⟨b1, b2, b3, b4⟩ := bef_parts a1 (xs_lt (s := p % 2) hp)
  have q : 1 - afx p d % 2 = p % 2 := by omega
  refine ⟨st_eq (m := p % 2) b1 hp (by omega) (by omega) ?_ ?_, by rw [q]; exact a3⟩
  · rw [q] at b3; exact b3
  · rw [← a2, b4, a2, a4]
theorem bef_ows {A : Tb} {s h : Nat} (os : okx A s) (hh : h < 56) (op : okx A (bef s h)) (ho : onw A h (xs s (1 - s % 2)) = true) : ows A (bef s h) (bef s h % 2) (xs s (1 - s % 2)) = true ∧ afx (bef s h) (xs s (1 - s % 2)) = s := by
  obtain ⟨b1, b2, b3, b4⟩ := bef_parts os.1 hh
  have e : 1 - (1 - s % 2) = s % 2 := by omega
  constructor
  · unfold ows
    rw [b2, b3, e, b4, ho, Bool.true_and, held_hs (okx_v os)]
    have hne : hs A (xs s (1 - s % 2)) ≠ hs A (xs s (s % 2)) := by
      have := os.2.2.2
      have q : s % 2 = 0 ∨ s % 2 = 1 := by omega
      rcases q with q | q <;> rw [q]
      · exact fun z => this z.symm
      · exact this
    simp [hne]
  · obtain ⟨a1, a2, a3, a4⟩ := afx_parts b1 (xs_lt (s := 1 - s % 2) os.1)
    rw [b2] at a2 a3 a4
    refine st_eq (m := 1 - s % 2) a1 os.1 (by omega) (by omega) a3 ?_
    rw [a4, e, b4]
