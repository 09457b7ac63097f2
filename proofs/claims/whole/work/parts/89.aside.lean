/-! aside: the fewest grudges to lay aside -/
theorem bm_self {i : Nat} (h : i < 2 ^ 16) : bm i.testBit 16 = i := by
  refine Nat.eq_of_testBit_eq fun k => ?_
  rw [bm_bit]
  by_cases z : k < 16
  · rw [decide_eq_true z, Bool.true_and]
  · rw [decide_eq_false z, Bool.false_and, Nat.testBit_lt_two_pow (Nat.lt_of_lt_of_le h (Nat.pow_le_pow_right (by decide) (by omega)))]
theorem bits_N {i : Nat} (h : i < 2 ^ 16) : f_X11_bits (nI i) = some (nI (fa_cnt i.testBit 16)) := by
  have := bits_cnt (p := i.testBit)
  rw [bm_self h] at this
  exact this
theorem one_bit {i : Nat} (h : i < 2 ^ 16) (hc : fa_cnt i.testBit 16 = 1) : ∃ g, g < 16 ∧ i = 2 ^ g := by
  have h0 : i ≠ 0 := by
    rintro rfl
    have := (cnt_zero (m := 0) (n := 16) (by decide)).mpr rfl
    omega
  obtain ⟨g, hg⟩ := low_ex h0
  have g16 := low_lt hg h
  have c := low_cnt hg g16
  have z := (cnt_zero (m := i &&& (i - 1)) (n := 16) (Nat.lt_of_le_of_lt Nat.and_le_left h)).mp (by omega)
  refine ⟨g, g16, Nat.eq_of_testBit_eq fun k => ?_⟩
  have d := low_drop hg k
  rw [z, Nat.zero_testBit] at d
  rw [Nat.testBit_two_pow]
  by_cases y : k = g
  · subst y; rw [hg.1]; simp
  · rw [decide_eq_true y, Bool.and_true] at d
    rw [← d]
    simp
    omega
theorem pow_bit : ∀ g, g < 16 → fa_cnt (2 ^ g).testBit 16 = 1 := by decide +kernel
theorem one_shl : ∀ g, g < 16 → (1 : Int32) <<< (nI g &&& 31) = nI (2 ^ g) := by decide +kernel
/-- the town without the grudge g -/
def dT (A : Tb) (g : Nat) : Tb := gT A (fun i => A 6 (if i = g then tG A - 1 else i)) (tG A - 1)
theorem dT_bears {A : Tb} (w : wGA A) (h16 : tP A ≤ 16) {g : Nat} (hg : g < tG A) {p q : Nat} (hp : p < 100) (hq : q < 100) : bears (dT A g) p q = (bears A p q && !isPr (A 6 g / 100) (A 6 g % 100) p q) := by
  have hr := w.1 g hg
  exact (drop_tab (A := A) (B := dT A g) w h16 rfl hg (show tG A - 1 + 1 = tG A by omega) (by omega) (by omega) (Or.inl ⟨rfl, rfl⟩) (fun i _ => rfl)).2 p q hp hq
theorem isPr_bears {A : Tb} {g p q : Nat} (hg : g < tG A) (hp : p < 100) (hq : q < 100) (h : isPr (A 6 g / 100) (A 6 g % 100) p q = true) : bears A p q = true := by
  refine (bears_iff hp hq).mpr ⟨g, hg, ?_⟩
  have := isPr_iff.mp h
  omega
theorem dT_brW {A : Tb} (w : wGA A) (h16 : tP A ≤ 16) {g : Nat} (hg : g < tG A) (h12 : tG A ≤ 12) {p q : Nat} (hp : p < 16) (hq : q < 16) : brW A (2 ^ g) p q = bears (dT A g) p q := by
  rw [dT_bears w h16 hg (by omega) (by omega)]
  apply bool_iff
  unfold brW
  rw [bex_iff, Bool.and_eq_true, Bool.not_eq_true', ← Bool.not_eq_true]
  constructor
  · rintro ⟨h, h1, h2⟩
    rw [Bool.and_eq_true] at h2
    have hb := (bearsAt_iff (by omega) (by omega)).mp h2.1
    have hne : h ≠ g := by
      rintro rfl
      have := h2.2
      rw [decide_eq_false (by omega), Bool.false_or, Nat.testBit_two_pow_self] at this
      cases this
    refine ⟨(bears_iff (by omega) (by omega)).mpr ⟨h, h1, hb⟩, fun e => hne ?_⟩
    have := isPr_iff.mp e
    exact wGA_in w h16 h1 hg (by omega)
  · rintro ⟨h1, h2⟩
    obtain ⟨h, h3, h4⟩ := (bears_iff (by omega) (by omega)).mp h1
    have hne : h ≠ g := by
      rintro rfl
      exact h2 (isPr_iff.mpr (by omega))
    refine ⟨h, h3, ?_⟩
    rw [Bool.and_eq_true]
    refine ⟨(bearsAt_iff (by omega) (by omega)).mpr h4, ?_⟩
    rw [Nat.testBit_two_pow, decide_eq_false (by omega : ¬ g = h)]
    simp
section AS
variable {A : Tb} {c0 n W s : Nat} {L wh tg : Nat → Nat} {τ : jS}
/-- one set of grudges tried -/
theorem m_tryOn {t : jS} {i : Nat} {B : Tb} (hM : WM τ) (eA : mn τ = A) (w : wA A) (s2 : s < 2) (hi : i < 2 ^ 31) (hS : MS A 1 c0 n W n L wh tg t) (hk : kfr τ t) (hB : ∀ p q, p < 16 → q < 16 → brW A i p q = bears B p q) : ∃ v t1 t2, f_X11_takeGrudges t (nI i) = some ((), t1) ∧ f_X11_solve t1 (nI s) = some ((), t2) ∧ isV B s n W L wh tg v ∧ gI t2 27 0 = rI0 v ∧ v ≤ 6273 ∧ MS A 1 c0 n W n L wh tg t2 ∧ kfr τ t2 := by
  obtain ⟨m1, m2⟩ := mS_W (kfr_mS hk) hM
  obtain ⟨t1, a1, a2, a3⟩ := m_takeGrudges m1 (m2.trans eA) hi
  have S1 : MS A 1 c0 n W n L wh tg t1 := MS_s a2 rfl hS
  obtain ⟨v, t2, b1, b2, b3, b4, b5⟩ := m_solveV (B := B) S1 w (fun a b ha hb => by rw [a3 a b ha hb, hB a b ha hb]) s2
  exact ⟨v, t1, t2, a1, b1, b2, b3, b4, MS_s b5 rfl S1, kfr_tr hk (kfr_tr (fun a i p _ => fr_I a2 (by unfold kH at p; simp at p ⊢; omega) i) (sfr_k b5))⟩
theorem m_aside {v0 : Nat} {v : Nat → Nat} (hM : WM τ) (eA : mn τ = A) (w : wA A) (wg : wGA A) (s2 : s < 2) (h12 : tG A ≤ 12) (hS : MS A 1 c0 n W n L wh tg τ) (h0 : isV A s n W L wh tg v0) (hv : ∀ g, g < tG A → isV (dT A g) s n W L wh tg (v g)) {r : Nat} (hr : (v0 ≠ 0 ∧ r = 0) ∨ (v0 = 0 ∧ ∃ g, g < tG A ∧ v g ≠ 0 ∧ (∀ h, h < g → v h = 0) ∧ r = 2 ^ g)) : ∃ τ', jloop jFuel (fun u => f_X11_aside_B49 u.2 (nI s) u.1) (0, τ) = some (nI r, τ') ∧ MS A 1 c0 n W n L wh tg τ' ∧ kfr τ τ' := by
  have g6 : ∀ t, kfr τ t → gI t 1 6 = nI (tG A) := fun t hk => (kfr_f hk (by decide)).trans (by rw [← eA]; exact hM.1.2.2.1.1)
  have lt0 : ∀ x, x ≤ 6273 → (rI0 x < 0 ↔ x = 0) := fun x hx => by
    have := rI0_lt (v := x) (by omega)
    constructor
    · intro e
      rcases Nat.eq_zero_or_pos x with z | z
      · exact z
      · exact absurd e (Int32.not_lt.mpr (this.mpr (by omega)))
    · rintro rfl; decide
  have pw : 2 ^ tG A ≤ 2 ^ 12 := Nat.pow_le_pow_right (by decide) h12
  -- one size
  have one : ∀ z t i, z < 2 → i < 2 ^ tG A → MS A 1 c0 n W n L wh tg t → kfr τ t → (fa_cnt i.testBit 16 ≠ z ∧ f_X11_aside_B60 t (nI s) (nI z) (nI i) = some (.inl (nI (i + 1), t))) ∨ (fa_cnt i.testBit 16 = z ∧ ∀ B, (∀ p q, p < 16 → q < 16 → brW A i p q = bears B p q) → ∃ u t2, isV B s n W L wh tg u ∧ MS A 1 c0 n W n L wh tg t2 ∧ kfr τ t2 ∧ f_X11_aside_B60 t (nI s) (nI z) (nI i) = if u = 0 then some (.inl (nI (i + 1), t2)) else some (.inr (.inr (nI i, t2)))) := fun z t i hz hi hS2 hk => by
    have i16 : i < 2 ^ 16 := Nat.lt_of_lt_of_le hi (Nat.le_trans pw (by decide))
    have c16 := fa_cnt_le i.testBit 16
    have head : ¬ ((1 : Int32) <<< ((gI t 1 6) &&& 31)) ≤ nI i := by
      rw [g6 t hk, one_shl _ (by omega)]
      exact nI_ge hi (by omega)
    by_cases y : fa_cnt i.testBit 16 = z
    · refine Or.inr ⟨y, fun B hB => ?_⟩
      obtain ⟨u, t1, t2, a1, a2, a3, a4, a5, a6, a7⟩ := m_tryOn hM eA w s2 (show i < 2 ^ 31 by omega) hS2 hk hB
      refine ⟨u, t2, a3, a6, a7, ?_⟩
      unfold f_X11_aside_B60 f_X11_aside_J103 f_X11_aside_J100
      rw [if_neg head, bits_N i16, bC_e, if_pos (congrArg nI y), a1, bD_e, a2, bD_e, bG_t (show jin 0 147968 = true from jin_nI (n := 0) (by decide) (by decide)), show ix 0 = 0 from ix_nI (n := 0) (by decide), a4]
      by_cases u0 : u = 0
      · rw [if_pos ((lt0 u a5).mpr u0), if_pos u0, bV_e, nI_1]
      · rw [if_neg (fun e => u0 ((lt0 u a5).mp e)), if_neg u0, jw_e, jw_e]
    · refine Or.inl ⟨y, ?_⟩
      unfold f_X11_aside_B60 f_X11_aside_J103
      rw [if_neg head, bits_N i16, bC_e, if_neg (fun e => y ((nI_eq (by omega) (by omega)).mp e)), bV_e, nI_1]
  have start : ∀ t z, kfr τ t → z < 2 → z ≤ tG A → f_X11_aside_B49 t (nI s) (nI z) = jloop jFuel (fun u => f_X11_aside_B60 u.2 (nI s) (nI z) u.1) (0, t) := fun t z hk hz hzG => by
    unfold f_X11_aside_B49
    rw [g6 t hk, if_neg (fun e => by have := (nI_ltI (by omega) (by omega)).mp e; omega)]
  have br0 : ∀ p q, p < 16 → q < 16 → brW A 0 p q = bears A p q := fun p q _ _ => brW_0
  have c0' : fa_cnt (0 : Nat).testBit 16 = 0 := (cnt_zero (m := 0) (n := 16) (by decide)).mpr rfl
  rcases hr with ⟨z0, rfl⟩ | ⟨z0, g, hg, vg, vl, rfl⟩
  · -- at once
    have inner : ∃ t2, jloop jFuel (fun u => f_X11_aside_B60 u.2 (nI s) (nI 0) u.1) (0, τ) = some (.inr (nI 0, t2)) ∧ MS A 1 c0 n W n L wh tg t2 ∧ kfr τ t2 := by
      rcases one 0 τ 0 (by decide) (Nat.two_pow_pos _) hS (kfr_rfl τ) with ⟨a, _⟩ | ⟨_, a⟩
      · exact absurd c0' a
      · obtain ⟨u, t2, b1, b2, b3, b4⟩ := a A br0
        have e := isV_uniq hS b1 h0
        subst e
        rw [if_neg z0] at b4
        exact ⟨t2, jloop_0 (fun _ => (0, τ)) 0 rfl (jfuel_big (by omega)) b4 (fun i hi => absurd hi (Nat.not_lt_zero i)), b2, b3⟩
    obtain ⟨t2, i1, i2, i3⟩ := inner
    refine ⟨t2, jloop_0 (fun _ => (0, τ)) 0 rfl (jfuel_big (by omega)) ?_ (fun i hi => absurd hi (Nat.not_lt_zero i)), i2, i3⟩
    exact (start τ 0 (kfr_rfl τ) (by decide) (Nat.zero_le _)).trans i1
  · have G1 : 1 ≤ tG A := by omega
    have first : ∃ t2, jloop jFuel (fun u => f_X11_aside_B60 u.2 (nI s) (nI 0) u.1) (0, τ) = some (.inl (nI 1, t2)) ∧ MS A 1 c0 n W n L wh tg t2 ∧ kfr τ t2 := by
      have key := jloop_ex (S := Int32 × jS) (O := (Int32 × jS) ⊕ (Int32 × jS)) (f := fun u => f_X11_aside_B60 u.2 (nI s) (nI 0) u.1) (fun i u => u.1 = nI i ∧ MS A 1 c0 n W n L wh tg u.2 ∧ kfr τ u.2) (2 ^ tG A) (fun o => ∃ t2, o = .inl (nI 1, t2) ∧ MS A 1 c0 n W n L wh tg t2 ∧ kfr τ t2) (s0 := (0, τ)) ⟨rfl, hS, kfr_rfl τ⟩ (jfuel_big (by omega)) ?_ ?_
      · obtain ⟨o, o1, t2, rfl, o2⟩ := key
        exact ⟨t2, o1, o2⟩
      · rintro ⟨a, t⟩ ⟨rfl, h1, h2⟩
        replace h2 : kfr τ t := h2
        refine ⟨.inl (nI 1, t), ?_, t, rfl, h1, h2⟩
        show f_X11_aside_B60 t (nI s) (nI 0) (nI (2 ^ tG A)) = _
        unfold f_X11_aside_B60 f_X11_aside_J109
        rw [g6 t h2, one_shl _ (by omega), if_pos (Int32.le_refl _), bV_e, nI_1, jw_e]
      · rintro i ⟨a, t⟩ hi ⟨rfl, h1, h2⟩
        left
        rcases one 0 t i (by decide) hi h1 h2 with ⟨_, b⟩ | ⟨y, b⟩
        · exact ⟨_, b, rfl, h1, h2⟩
        · have i0 : i = 0 := (cnt_zero (m := i) (n := 16) (Nat.lt_of_lt_of_le hi (Nat.le_trans pw (by decide)))).mp y
          subst i0
          obtain ⟨u, t2, b1, b2, b3, b4⟩ := b A br0
          have e := isV_uniq hS b1 h0
          rw [if_pos (e.trans z0)] at b4
          exact ⟨_, b4, rfl, b2, b3⟩
    obtain ⟨t1, i1, i2, i3⟩ := first
    have second : ∃ t2, jloop jFuel (fun u => f_X11_aside_B60 u.2 (nI s) (nI 1) u.1) (0, t1) = some (.inr (nI (2 ^ g), t2)) ∧ MS A 1 c0 n W n L wh tg t2 ∧ kfr τ t2 := by
      have pg : 2 ^ g < 2 ^ tG A := Nat.pow_lt_pow_right (by decide) hg
      have key := jloop_ex (S := Int32 × jS) (O := (Int32 × jS) ⊕ (Int32 × jS)) (f := fun u => f_X11_aside_B60 u.2 (nI s) (nI 1) u.1) (fun i u => u.1 = nI i ∧ MS A 1 c0 n W n L wh tg u.2 ∧ kfr τ u.2) (2 ^ g) (fun o => ∃ t2, o = .inr (nI (2 ^ g), t2) ∧ MS A 1 c0 n W n L wh tg t2 ∧ kfr τ t2) (s0 := (0, t1)) ⟨rfl, i2, i3⟩ (jfuel_big (by omega)) ?_ ?_
      · obtain ⟨o, o1, t2, rfl, o2⟩ := key
        exact ⟨t2, o1, o2⟩
      · rintro ⟨a, t⟩ ⟨rfl, h1, h2⟩
        rcases one 1 t (2 ^ g) (by decide) pg h1 h2 with ⟨y, _⟩ | ⟨_, b⟩
        · exact absurd (pow_bit g (by omega)) y
        · obtain ⟨u, t2, b1, b2, b3, b4⟩ := b (dT A g) (fun p q hp hq => dT_brW wg w.1 hg h12 hp hq)
          have e := isV_uniq hS b1 (hv g hg)
          rw [if_neg (fun q => vg (e.symm.trans q))] at b4
          exact ⟨_, b4, t2, rfl, b2, b3⟩
      · rintro i ⟨a, t⟩ hi ⟨rfl, h1, h2⟩
        left
        rcases one 1 t i (by decide) (by omega) h1 h2 with ⟨_, b⟩ | ⟨y, b⟩
        · exact ⟨_, b, rfl, h1, h2⟩
        · obtain ⟨h, h16, rfl⟩ := one_bit (by omega) y
          have hh : h < g := (Nat.pow_lt_pow_iff_right (by decide)).mp hi
          obtain ⟨u, t2, b1, b2, b3, b4⟩ := b (dT A h) (fun p q hp hq => dT_brW wg w.1 (by omega) h12 hp hq)
          have e := isV_uniq hS b1 (hv h (by omega))
          rw [if_pos (e.trans (vl h hh))] at b4
          exact ⟨_, b4, rfl, b2, b3⟩
    obtain ⟨t2, j1, j2, j3⟩ := second
    refine ⟨t2, ?_, j2, j3⟩
    refine jloop_0 (fun i => if i = 0 then (0, τ) else (nI 1, t1)) 1 rfl (jfuel_big (by omega)) ?_ ?_
    · exact (start t1 1 i3 (by decide) G1).trans j1
    · intro i hi
      have : i = 0 := by omega
      subst this
      exact (start τ 0 (kfr_rfl τ) (by decide) (Nat.zero_le _)).trans i1
end AS
