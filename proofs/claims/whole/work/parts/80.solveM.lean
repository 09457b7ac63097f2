/-! the reference takes grudges, and solves -/
def brW (A : Tb) (wo a b : Nat) : Bool := bex (tG A) fun g => bearsAt A a b g && (decide (30 < g) || !wo.testBit g)
theorem m_hasN {wo g : Nat} (h : wo < 2 ^ 31) (hg : g < 32) : f_X11_has (nI wo) (nI g) = some (if wo.testBit g = true then 1 else 0) := by
  unfold f_X11_has f_X11_has_J14
  rw [nI_bit h hg]
  cases wo.testBit g <;> rfl
theorem m_takeGrudges {τ : jS} {A : Tb} (hM : WM τ) (eA : mn τ = A) {wo : Nat} (hwo : wo < 2 ^ 31) : ∃ τ', f_X11_takeGrudges τ (nI wo) = some ((), τ') ∧ fr [28] τ τ' ∧ ∀ a b, a < 16 → b < 16 → gI τ' 28 (16 * a + b) = bI (brW A wo a b) := by
  obtain ⟨hN, hS, hTm, hO, hG, hQ, hu⟩ := hM
  have h120 := hN.2.2.1.2
  have hP := hN.1.2
  have wg := wGA_of hG
  rw [eA] at wg h120 hP
  have e6 := hN.2.2.1.1
  rw [eA] at e6
  have row : ∀ g, g < tG A → gI τ 6 g = nI (A 6 g) := fun g hg => by
    have := (hG.1 g (by rw [eA]; exact hg)).1
    rw [eA] at this; exact this
  have J22 : ∀ t, fr [28] τ t → (∀ j, j < 256 → gI t 28 j = 0) → ∃ τ', f_X11_takeGrudges_J22 t (nI wo) = some ((), τ') ∧ fr [28] τ τ' ∧ ∀ a b, a < 16 → b < 16 → gI τ' 28 (16 * a + b) = bI (brW A wo a b) := by
    intro t ft z28
    unfold f_X11_takeGrudges_J22
    have key := jloop_ex (S := Int32 × jS) (O := Unit × jS) (f := fun s => f_X11_takeGrudges_B24 s.2 (nI wo) s.1) (fun i s => s.1 = nI i ∧ fr [28] τ s.2 ∧ ∀ a b, a < 16 → b < 16 → gI s.2 28 (16 * a + b) = bI (bex i fun g => bearsAt A a b g && (decide (30 < g) || !wo.testBit g))) (tG A) (fun o => fr [28] τ o.2 ∧ ∀ a b, a < 16 → b < 16 → gI o.2 28 (16 * a + b) = bI (brW A wo a b)) (s0 := (0, t)) ⟨rfl, ft, fun a b ha hb => (z28 _ (by omega)).trans rfl⟩ (jfuel_big (by omega)) ?_ ?_
    · obtain ⟨o, o1, o2⟩ := key
      exact ⟨o.2, o1, o2⟩
    · rintro ⟨a, s⟩ ⟨rfl, f, hh⟩
      replace f : fr [28] τ s := f
      refine ⟨((), s), ?_, f, hh⟩
      show f_X11_takeGrudges_B24 s (nI wo) (nI (tG A)) = _
      unfold f_X11_takeGrudges_B24 f_X11_takeGrudges_J114
      rw [fr_I f (by decide), e6, if_pos (Int32.le_refl _), jw_e]
    · rintro i ⟨a, s⟩ hi ⟨rfl, f, hh⟩
      replace f : fr [28] τ s := f
      replace hh : ∀ a b, a < 16 → b < 16 → gI s 28 (16 * a + b) = bI (bex i fun g => bearsAt A a b g && (decide (30 < g) || !wo.testBit g)) := hh
      obtain ⟨p1, p2, p3⟩ := wg.1 i hi
      have g6 : gI s 6 i = nI (A 6 i) := (fr_I f (by decide) i).trans (row i hi)
      have x31 : A 6 i < 2 ^ 31 := by omega
      generalize hx : A 6 i = x at *
      have j120 : jin (nI i) 120 = true := jin_nI (by omega) (by omega)
      have d1 : nI x / 100 = nI (x / 100) := pk_div (d := 100) x31 (by decide) (by decide)
      have d2 : nI x - nI (x / 100) * 100 = nI (x % 100) := by
        rw [← d1]; exact pk_rem (d := 100) x31 (by decide) (by decide)
      have J51 : ∀ is : Bool, (is = (decide (30 < i) || !wo.testBit i)) → ∃ s', f_X11_takeGrudges_J51 s (nI wo) (nI i) (bI is) = some (.inl s') ∧ s'.1 = nI (i + 1) ∧ fr [28] τ s'.2 ∧ ∀ a b, a < 16 → b < 16 → gI s'.2 28 (16 * a + b) = bI (bex (i + 1) fun g => bearsAt A a b g && (decide (30 < g) || !wo.testBit g)) := by
        intro is his
        have jbi : jb (bI is) = true := by cases is <;> rfl
        have i1 : ix (nI (16 * (x / 100) + x % 100)) = 16 * (x / 100) + x % 100 := ix_nI (by omega)
        have i2 : ix (nI (16 * (x % 100) + x / 100)) = 16 * (x % 100) + x / 100 := ix_nI (by omega)
        refine ⟨(nI (i + 1), sI (sI s 28 (16 * (x / 100) + x % 100) (bI is)) 28 (16 * (x % 100) + x / 100) (bI is)), ?_, rfl, fr_trans f (fr_trans (fr_sI _ _ _ (by decide)) (fr_sI _ _ _ (by decide))), fun a b ha hb => ?_⟩
        · unfold f_X11_takeGrudges_J51
          rw [bG_t j120, bG_t j120, bG_t jbi, ix_nI (by omega), g6, d1, d2, show (16 : Int32) = nI 16 from rfl, nI_mul, nI_add, bG_t (jin_nI (by omega) (by omega)), i1, bV_e, bG_t j120, bG_t j120, bG_t jbi, gI_ne (show (6 : Nat) ≠ 28 by decide), g6, d1, d2, nI_mul, nI_add, bG_t (jin_nI (by omega) (by omega)), i2, bV_e, bV_e, nI_1]
        · show gI (sI (sI s 28 (16 * (x / 100) + x % 100) (bI is)) 28 (16 * (x % 100) + x / 100) (bI is)) 28 (16 * a + b) = _
          rw [bex_succ, ← his]
          by_cases z : (a = x / 100 ∧ b = x % 100) ∨ (a = x % 100 ∧ b = x / 100)
          · have bt : bearsAt A a b i = true := (bearsAt_iff (by omega) (by omega)).mpr (by rw [hx]; omega)
            have nb : (bex i fun g => bearsAt A a b g && (decide (30 < g) || !wo.testBit g)) = false := bex_not.mpr fun g hg => by
              cases hb2 : bearsAt A a b g with
              | false => rfl
              | true =>
                have := (bearsAt_iff (by omega) (by omega)).mp hb2
                have := wGA_in wg hP (g := g) (h := i) (by omega) hi (by rw [hx]; omega)
                omega
            rw [bt, nb, Bool.true_and, Bool.false_or]
            rcases z with ⟨rfl, rfl⟩ | ⟨rfl, rfl⟩
            · rw [gI_nei (by omega), gI_sI]
            · rw [gI_sI]
          · have bt : bearsAt A a b i = false := by
              cases hb2 : bearsAt A a b i with
              | false => rfl
              | true =>
                have := (bearsAt_iff (by omega) (by omega)).mp hb2
                rw [hx] at this
                exact absurd (by omega) z
            rw [bt, Bool.false_and, Bool.or_false, gI_nei (by omega), gI_nei (by omega)]
            exact hh a b ha hb
      left
      show ∃ s', f_X11_takeGrudges_B24 s (nI wo) (nI i) = _ ∧ _
      unfold f_X11_takeGrudges_B24 f_X11_takeGrudges_J46
      rw [fr_I f (by decide), e6, if_neg (nI_ge hi (by omega))]
      by_cases z : 30 < i
      · rw [if_pos (show (30 : Int32) < nI i from nI_lt (a := 30) z (by omega))]
        exact J51 true (by rw [decide_eq_true z]; rfl)
      · rw [if_neg (show ¬ (30 : Int32) < nI i from fun e => z ((nI_ltI (a := 30) (by decide) (by omega)).mp e)), m_hasN hwo (by omega), bC_e]
        cases ht : wo.testBit i with
        | true =>
          rw [if_neg (show ¬ (if true = true then (1 : Int32) else 0) = 0 by decide)]
          exact J51 false (by rw [ht, decide_eq_false z]; rfl)
        | false =>
          rw [if_pos (show (if false = true then (1 : Int32) else 0) = 0 by decide)]
          exact J51 true (by rw [ht, decide_eq_false z]; rfl)
  unfold f_X11_takeGrudges
  have key := jloop_ex (S := Int32 × jS) (O := Unit × jS) (f := fun s => f_X11_takeGrudges_B2 s.2 (nI wo) s.1) (fun i s => s.1 = nI i ∧ fr [28] τ s.2 ∧ ∀ j, j < i → gI s.2 28 j = 0) 256 (fun o => fr [28] τ o.2 ∧ ∀ a b, a < 16 → b < 16 → gI o.2 28 (16 * a + b) = bI (brW A wo a b)) (s0 := (0, τ)) ⟨rfl, fr_rfl _ _, fun j hj => absurd hj (Nat.not_lt_zero j)⟩ (jfuel_big (by omega)) ?_ ?_
  · obtain ⟨o, o1, o2⟩ := key
    exact ⟨o.2, o1, o2⟩
  · rintro ⟨a, s⟩ ⟨rfl, f, hh⟩
    obtain ⟨τ', r1, r2⟩ := J22 s f hh
    refine ⟨((), τ'), ?_, r2⟩
    show f_X11_takeGrudges_B2 s (nI wo) (nI 256) = _
    unfold f_X11_takeGrudges_B2
    rw [if_pos (show (256 : Int32) ≤ nI 256 from Int32.le_refl _), r1, jw_e]
  · rintro i ⟨a, s⟩ hi ⟨rfl, f, hh⟩
    refine Or.inl ⟨(nI (i + 1), sI s 28 i 0), ?_, rfl, fr_trans f (fr_sI _ _ _ (by decide)), fun j hj => ?_⟩
    · show f_X11_takeGrudges_B2 s (nI wo) (nI i) = _
      unfold f_X11_takeGrudges_B2
      rw [if_neg (show ¬ (256 : Int32) ≤ nI i from nI_ge (b := 256) hi (by decide)), bG_t (jin_nI hi (by omega)), ix_nI (by omega), bV_e, bV_e, nI_1]
    · show gI (sI s 28 i 0) 28 j = 0
      by_cases z : j = i
      · subst z; exact gI_sI _ _ _ _
      · rw [gI_nei z]; exact hh j (by omega)
/-! solving -/
def scI (W : Nat) (wh tg : Nat → Nat) (k j : Nat) : Bool := bex W fun v => (wh v == k) && tg v == j
theorem scI_iff {W : Nat} {wh tg : Nat → Nat} {k j : Nat} : scI W wh tg k j = true ↔ ∃ v, v < W ∧ wh v = k ∧ tg v = j := by
  unfold scI
  rw [bex_iff]
  simp
def P2M (n W : Nat) (wh tg : Nat → Nat) (E pc : Nat → Bool) (nd q : Nat → Nat) (len i : Nat) (dn : Nat → Nat → Bool) (τ : jS) : Prop :=
  BI (fun x => x < n) E pc (scI W wh tg) nd q len i dn ∧ (∀ j, j < len → gI τ 25 j = nI (q j)) ∧ (∀ j, j < n → gI τ 27 j = rI0 (nd j)) ∧ (∀ j, j < n → gI τ 24 j = nI (fa_cnt (fun y => scI W wh tg j y && !dn j y) n)) ∧ ∀ j, j < len → nd (q j) ≤ j + 1
theorem rI0_lt {v : Nat} (h : v ≤ 1000000) : (0 ≤ rI0 v ↔ v ≠ 0) := by
  unfold rI0
  by_cases z : v = 0
  · rw [if_pos z]; exact ⟨fun e => absurd e (by decide), fun e => absurd z e⟩
  · rw [if_neg z]
    exact ⟨fun _ => z, fun _ => nI_pos' (by omega)⟩
theorem cnt_dnI {W n : Nat} {wh tg : Nat → Nat} {dn : Nat → Nat → Bool} {p s : Nat} (hs : scI W wh tg p s = true) (hd : dn p s = false) (hn : s < n) : fa_cnt (fun y => scI W wh tg p y && !dn1 dn p s p y) n + 1 = fa_cnt (fun y => scI W wh tg p y && !dn p y) n := by
  have cd := cnt_drop (fun y => scI W wh tg p y && !dn p y) (j := s) n
  rw [if_pos ⟨hn, by rw [hs, hd]; rfl⟩] at cd
  rw [← cd]
  refine congrArg (fun m => m + 1) (fa_cnt_cong fun y _ => ?_)
  unfold dn1
  by_cases z : y = s
  · subst z; simp
  · have : (y == s) = false := beq_eq_false_iff_ne.mpr z
    simp [this, z]
/-- what solving leaves as it is -/
def sfr (τ τ' : jS) : Prop := fr [24, 25, 27] τ τ'
theorem sfr_k {τ τ' : jS} (h : sfr τ τ') : kfr τ τ' := fun a i p _ => fr_I h (by unfold kH at p; simp at p ⊢; omega) i
theorem MS_s {A : Tb} {past c0 n W i : Nat} {L wh tg : Nat → Nat} {τ τ' : jS} {H : List Nat} (f : fr H τ τ') (d : [1, 18, 19, 20, 21, 22, 23].all (fun a => !H.contains a) = true) (h : MS A past c0 n W i L wh tg τ) : MS A past c0 n W i L wh tg τ' := by
  have k : ∀ a, a ∈ [1, 18, 19, 20, 21, 22, 23] → a ∉ H := fun a ha q => by
    have := List.all_eq_true.mp d a ha
    simp [q] at this
  obtain ⟨⟨a1, a2, a3, a4⟩, b, c1, c2, d, e, f2, g, r⟩ := h
  refine ⟨⟨(fr_I f (k 1 (by decide)) _).trans a1, (fr_I f (k 1 (by decide)) _).trans a2, a3, a4⟩, fun j hj => ?_, c1, fun c hc hn => ?_, fun v hv => ?_, fun j hj => ?_, f2, g, r⟩
  · rw [fr_I f (k 19 (by decide)), fr_I f (k 18 (by decide))]; exact b j hj
  · rw [fr_I f (k 18 (by decide))]; exact c2 c hc hn
  · rw [fr_I f (k 22 (by decide)), fr_I f (k 23 (by decide))]; exact d v hv
  · rw [fr_I f (k 20 (by decide)), fr_I f (k 21 (by decide))]; exact e j hj
section MSV
variable {A : Tb} {past c0 n W : Nat} {L wh tg : Nat → Nat} {E pc : Nat → Bool} {pI : Int32}
theorem m_edge {nd q : Nat → Nat} {len i : Nat} {dn : Nat → Nat → Bool} {τ : jS} (hS : MS A past c0 n W n L wh tg τ) (h : P2M n W wh tg E pc nd q len i dn τ) (hpI : ∀ k, k < n → (nI (cSide (L k)) = pI ↔ pc k = true)) (hi : i < len) {v : Nat} (hv : v < W) (hW : W < 620000) (ht : tg v = q i) (hd : dn (wh v) (q i) = false) : ∃ nd' q' len' τ', f_X11_solve_B104 τ pI (nI len) (nI i) (nI v) = some (.inl (nI len', nI (lastW tg (q i) v) - 1, τ')) ∧ P2M n W wh tg E pc nd' q' len' i (dn1 dn (wh v) (q i)) τ' ∧ (∀ j, j < len → q' j = q j) ∧ len ≤ len' ∧ sfr τ τ' := by
  obtain ⟨B, r2, r3, r4, r7⟩ := h
  have n6 := hS.2.2.2.2.2.2.2.2.2
  obtain ⟨v1, v2, v3, v4, v5, v6⟩ := hS.2.2.2.2.1 v hv
  have hqn : q i < n := (B.1 i hi).1
  have hs : scI W wh tg (wh v) (q i) = true := scI_iff.mpr ⟨v, hv, rfl, ht⟩
  generalize hp : wh v = p at *
  have cd := cnt_dnI hs hd hqn
  have cle := fa_cnt_le (fun y => scI W wh tg p y && !dn p y) n
  have ndb : ∀ x, x < n → nd x ≤ 6273 := fun x hx => by
    rcases Nat.eq_zero_or_pos (nd x) with z | z
    · omega
    · obtain ⟨j, j1, j2⟩ := B.2.2.1 x hx (by omega)
      have := r7 j j1
      have l6 := pigeon n len q (fun j hj => (B.1 j hj).1) (fun j l hj hl e => B.2.1 j l hj hl e)
      rw [j2] at this; omega
  generalize hc : fa_cnt (fun y => scI W wh tg p y && !dn1 dn p (q i) p y) n = c at *
  have e1 : nI (fa_cnt (fun y => scI W wh tg p y && !dn p y) n) - 1 = nI c := by
    rw [← cd, show (1 : Int32) = nI 1 from rfl, nI_sub (by omega), Nat.add_sub_cancel]
  have all0 : c = 0 ↔ ∀ z, scI W wh tg p z = true → dn1 dn p (q i) p z = true := by
    constructor
    · intro z y hy
      have hyn : y < n := by
        obtain ⟨u, u1, u2, u3⟩ := scI_iff.mp hy
        rw [← u3]; exact (hS.2.2.2.2.1 u u1).2.2.1
      have := cnt_none (hc.trans z) y hyn
      rw [hy, Bool.true_and] at this
      cases hb : dn1 dn p (q i) p y with
      | true => rfl
      | false => rw [hb] at this; cases this
    · intro z
      rw [← hc]
      have : fa_cnt (fun y => scI W wh tg p y && !dn1 dn p (q i) p y) n = fa_cnt (fun _ => false) n := fa_cnt_cong fun y _ => by
        cases hy : scI W wh tg p y with
        | true => rw [z y hy]; rfl
        | false => rfl
      rw [this]
      have g : ∀ N, fa_cnt (fun _ => false) N = 0 := fun N => by
        induction N with
        | zero => rfl
        | succ N ih => rw [fa_cnt, ih]; rfl
      exact g _
  have jp : jin (nI p) 147968 = true := jin_nI (by omega) (by omega)
  have l24 : ∀ j, j < n → gI (sI τ 24 p (nI c)) 24 j = nI (fa_cnt (fun y => scI W wh tg j y && !dn1 dn p (q i) j y) n) := fun j hj => by
    by_cases z : j = p
    · subst z; rw [gI_sI, hc]
    · rw [gI_nei z, r4 j hj]
      exact congrArg nI (fa_cnt_cong fun y _ => by rw [dn1_ne z])
  unfold f_X11_solve_B104
  rw [if_neg (nI_pos (by omega)), bG_t (show jin (nI v) 620000 = true from jin_nI (by omega) (by omega)), ix_nI (by omega), v4, bV_e, bG_t jp, bG_t jp, ix_nI (by omega), r4 p v2, e1, bV_e, bG_t jp, gI_ne (show (27 : Nat) ≠ 24 by decide), r3 p v2]
  -- the next way
  have J194 : ∀ t x, gI t 23 v = gI τ 23 v → f_X11_solve_J194 t pI x (nI i) (nI v) = some (.inl (x, nI (lastW tg (q i) v) - 1, t)) := fun t x ht2 => by
    unfold f_X11_solve_J194
    rw [bG_t (jin_nI (by omega) (by omega)), ix_nI (by omega), ht2, v5, ht, bV_e]
  have skip : BI (fun x => x < n) E pc (scI W wh tg) nd q len i (dn1 dn p (q i)) → ∃ nd' q' len' τ', f_X11_solve_J194 (sI τ 24 p (nI c)) pI (nI len) (nI i) (nI v) = some (.inl (nI len', nI (lastW tg (q i) v) - 1, τ')) ∧ P2M n W wh tg E pc nd' q' len' i (dn1 dn p (q i)) τ' ∧ (∀ j, j < len → q' j = q j) ∧ len ≤ len' ∧ sfr τ τ' := fun B2 =>
    ⟨nd, q, len, _, J194 _ _ (gI_ne (by decide)), ⟨B2, fun j hj => (gI_ne (by decide)).trans (r2 j hj), fun j hj => (gI_ne (by decide)).trans (r3 j hj), l24, r7⟩, fun _ _ => rfl, Nat.le_refl _, fr_sI _ _ _ (by decide)⟩
  by_cases h0 : nd p = 0
  · rw [if_neg (fun e => (rI0_lt (by omega)).mp e h0), bG_t jp, gI_sI]
    have l6 : len < n := by
      have ne : ∀ j, j < len → q j ≠ p := fun j hj z => (B.1 j hj).2 (by rw [z]; exact h0)
      have := pigeon n (len + 1) (up1 q len p) (fun j hj => by
        by_cases r : j = len
        · subst r; rw [up1_at]; exact v2
        · rw [up1_ne r]; exact (B.1 j (by omega)).1) (fun j l hj hl e => by
        by_cases r : j = len <;> by_cases t : l = len
        · omega
        · subst r; rw [up1_at, up1_ne t] at e; exact absurd e.symm (ne l (by omega))
        · subst t; rw [up1_at, up1_ne r] at e; exact absurd e (ne j (by omega))
        · rw [up1_ne r, up1_ne t] at e; exact B.2.1 j l (by omega) (by omega) e)
      omega
    have settle : (pc p = true ∨ ∀ z, scI W wh tg p z = true → dn1 dn p (q i) p z = true) → ∃ nd' q' len' τ', f_X11_solve_J163 (sI τ 24 p (nI c)) pI (nI len) (nI i) (nI v) (nI p) = some (.inl (nI len', nI (lastW tg (q i) v) - 1, τ')) ∧ P2M n W wh tg E pc nd' q' len' i (dn1 dn p (q i)) τ' ∧ (∀ j, j < len → q' j = q j) ∧ len ≤ len' ∧ sfr τ τ' := by
      intro hok
      have B2 := BI_s1 B hi v2 hs h0 hok
      have b7 := r7 i hi
      have n0 := (B.1 i hi).2
      have er : rI0 (nd (q i)) + 1 = rI0 (nd (q i) + 1) := by
        unfold rI0
        rw [if_neg n0, if_neg (by omega), nI_1]
        exact congrArg nI (by omega)
      unfold f_X11_solve_J163
      rw [bG_t (jin_nI (by omega) (by omega)), ix_nI (by omega), gI_ne (show (25 : Nat) ≠ 24 by decide), r2 i hi, bG_t (jin_nI (by omega) (by omega)), bG_t jp, ix_nI (by omega), ix_nI (by omega), gI_ne (show (27 : Nat) ≠ 24 by decide), r3 _ hqn, er, bV_e, bG_t (jin_nI (by omega) (by omega)), ix_nI (by omega), bV_e, bV_e, nI_1, J194 _ _ ((gI_ne (by decide)).trans ((gI_ne (by decide)).trans (gI_ne (by decide))))]
      refine ⟨up1 nd p (nd (q i) + 1), up1 q len p, len + 1, _, rfl, ⟨B2, fun j hj => ?_, fun j hj => ?_, fun j hj => ?_, fun j hj => ?_⟩, fun j hj => up1_ne (by omega), by omega, ?_⟩
      · by_cases z : j = len
        · subst z; rw [gI_sI, up1_at]
        · rw [gI_nei z, up1_ne z, gI_ne (by decide), gI_ne (by decide)]; exact r2 j (by omega)
      · rw [gI_ne (by decide)]
        by_cases z : j = p
        · subst z; rw [gI_sI, up1_at]
        · rw [gI_nei z, up1_ne z, gI_ne (by decide)]; exact r3 j hj
      · rw [gI_ne (by decide), gI_ne (by decide)]
        exact l24 j hj
      · by_cases z : j = len
        · subst z; rw [up1_at, up1_at]; omega
        · have nq : q j ≠ p := fun e => (B.1 j (by omega)).2 (by rw [e]; exact h0)
          rw [up1_ne z, up1_ne nq]; exact r7 j (by omega)
      · exact fr_trans (fr_trans (fr_sI _ _ _ (by decide)) (fr_sI _ _ _ (by decide))) (fr_sI _ _ _ (by decide))
    by_cases z0 : c = 0
    · rw [if_pos (show nI c = 0 from congrArg nI z0)]
      exact settle (Or.inr (all0.mp z0))
    · rw [if_neg (fun e => z0 ((nI_eq0 (by omega)).mp e)), bG_t jp, gI_ne (show (19 : Nat) ≠ 24 by decide), (hS.2.1 p v2).2.1, m_side (hS.2.1 p v2).1.1, bC_e]
      by_cases hpc : pc p = true
      · rw [if_pos ((hpI p v2).mpr hpc)]
        exact settle (Or.inl hpc)
      · rw [if_neg (fun e => hpc ((hpI p v2).mp e))]
        have pcf : pc p = false := by
          cases hb : pc p with
          | true => exact absurd hb hpc
          | false => rfl
        have ex' : ∃ z, scI W wh tg p z = true ∧ dn1 dn p (q i) p z = false := by
          apply Classical.byContradiction
          intro hn
          refine z0 (all0.mpr fun z hz => ?_)
          cases hb : dn1 dn p (q i) p z with
          | true => rfl
          | false => exact absurd ⟨z, hz, hb⟩ hn
        exact skip (BI_s2 B hi v2 hs h0 pcf ex')
  · rw [if_pos ((rI0_lt (by have := ndb p v2; omega)).mpr h0)]
    exact skip (BI_s3 B hi v2 hs h0)
end MSV
