/-! fresh: new grudges, the reference -/
def aT (A : Tb) (e : Nat) : Tb := gT A (fun i => if i < tG A then A 6 i else 100 * (e / 16) + e % 16) (tG A + 1)
theorem aT_bears {A : Tb} {e p q : Nat} (he : e < 256) (hp : p < 100) (hq : q < 100) : bears (aT A e) p q = (bears A p q || isPr (e / 16) (e % 16) p q) := by
  apply bool_iff
  rw [Bool.or_eq_true, bears_iff hp hq, bears_iff hp hq, isPr_iff]
  show (∃ g, g < tG A + 1 ∧ (((if g < tG A then A 6 g else 100 * (e / 16) + e % 16) / 100 = p ∧ (if g < tG A then A 6 g else 100 * (e / 16) + e % 16) % 100 = q) ∨ ((if g < tG A then A 6 g else 100 * (e / 16) + e % 16) / 100 = q ∧ (if g < tG A then A 6 g else 100 * (e / 16) + e % 16) % 100 = p))) ↔ _
  constructor
  · rintro ⟨g, g1, g2⟩
    by_cases z : g < tG A
    · rw [if_pos z] at g2
      exact Or.inl ⟨g, z, g2⟩
    · rw [if_neg z] at g2
      right
      omega
  · rintro (⟨g, g1, g2⟩ | g2)
    · exact ⟨g, by omega, by rw [if_pos g1]; exact g2⟩
    · refine ⟨tG A, by omega, ?_⟩
      rw [if_neg (Nat.lt_irrefl _)]
      omega
/-- a pair that bears no grudge -/
def frE (A : Tb) (e : Nat) : Prop := e / 16 < e % 16 ∧ e % 16 < tP A ∧ bears A (e / 16) (e % 16) = false
theorem frE_lt {A : Tb} {e : Nat} (h16 : tP A ≤ 16) (h : frE A e) : e < 256 := by
  have := h.1; have := h.2.1; omega
theorem frE_aT {A : Tb} {e f : Nat} (he : frE A e) (h16 : tP A ≤ 16) : frE (aT A e) f ↔ frE A f ∧ f ≠ e := by
  have e2 := frE_lt h16 he
  unfold frE
  show (f / 16 < f % 16 ∧ f % 16 < tP A ∧ bears (aT A e) (f / 16) (f % 16) = false) ↔ _
  constructor
  · rintro ⟨a, b, c⟩
    rw [aT_bears e2 (by omega) (by omega), Bool.or_eq_false_iff] at c
    refine ⟨⟨a, b, c.1⟩, ?_⟩
    rintro rfl
    have := isPr_iff (a := f / 16) (b := f % 16) (p := f / 16) (q := f % 16)
    rw [this.mpr (Or.inl ⟨rfl, rfl⟩)] at c
    cases c.2
  · rintro ⟨⟨a, b, c⟩, d⟩
    refine ⟨a, b, ?_⟩
    rw [aT_bears e2 (by omega) (by omega), c, Bool.false_or]
    cases hi : isPr (e / 16) (e % 16) (f / 16) (f % 16) with
    | false => rfl
    | true =>
      have := isPr_iff.mp hi
      have := he.1
      omega
/-- what is to be found -/
def FR (A : Tb) (v0 : Nat) (V1 : Nat → Nat) (V2 : Nat → Nat → Nat) (r f s : Int32) : Prop :=
  (v0 = 0 ∧ r = 0 ∧ f = -1 ∧ s = -1) ∨
  (v0 ≠ 0 ∧ (∃ e, frE A e ∧ V1 e = 0 ∧ (∀ e', frE A e' → e' < e → V1 e' ≠ 0) ∧ r = 1 ∧ f = nI (100 * (e / 16) + e % 16) ∧ s = -1)) ∨
  (v0 ≠ 0 ∧ (∀ e, frE A e → V1 e ≠ 0) ∧ (∃ e g, frE A e ∧ frE A g ∧ e < g ∧ V2 e g = 0 ∧ (∀ e' g', frE A e' → frE A g' → e' < g' → (e' < e ∨ (e' = e ∧ g' < g)) → V2 e' g' ≠ 0) ∧ r = 2 ∧ f = nI (100 * (e / 16) + e % 16) ∧ s = nI (100 * (g / 16) + g % 16))) ∨
  (v0 ≠ 0 ∧ (∀ e, frE A e → V1 e ≠ 0) ∧ (∀ e g, frE A e → frE A g → e < g → V2 e g ≠ 0) ∧ r = -1 ∧ f = -1 ∧ s = -1)
def HB (t : jS) (B : Tb) : Prop := ∀ a b, a < 16 → b < 16 → gI t 28 (16 * a + b) = bI (bears B a b)
theorem isV_ex {A B : Tb} {past c0 n W s : Nat} {L wh tg : Nat → Nat} {τ : jS} (hS : MS A past c0 n W n L wh tg τ) (w : wA A) (s2 : s < 2) : ∃ v, isV B s n W L wh tg v ∧ v ≤ 6273 := by
  have f : fr [28] τ (fun h i => if h = 28 then bI (bears B (i / 16) (i % 16)) else τ.1 h i, τ.2) := ⟨rfl, fun a ha i => ⟨if_neg (fun e => ha (by rw [e]; exact List.mem_singleton.mpr rfl)), rfl⟩⟩
  obtain ⟨v, τ', _, b, _, d, _⟩ := m_solveV (B := B) (MS_s f rfl hS) w (fun a b ha hb => by
    show (if (28 : Nat) = 28 then bI (bears B ((16 * a + b) / 16) ((16 * a + b) % 16)) else τ.1 28 (16 * a + b)) = _
    rw [if_pos rfl, show (16 * a + b) / 16 = a by omega, show (16 * a + b) % 16 = b by omega]) s2
  exact ⟨v, b, d⟩
theorem isV_cong {B B' : Tb} {A : Tb} {past c0 n W s v : Nat} {L wh tg : Nat → Nat} {τ : jS} (hS : MS A past c0 n W n L wh tg τ) (h : ∀ p q, p < 16 → q < 16 → bears B p q = bears B' p q) (hv : isV B s n W L wh tg v) : isV B' s n W L wh tg v := by
  obtain ⟨nd, a, b⟩ := hv
  refine ⟨nd, fun x hx => ?_, b⟩
  have := a x hx
  dsimp only at this ⊢
  rw [← h _ _ (cOne_lt (hS.2.1 x hx).1.1) (cTwo_lt (L x))]
  exact this
theorem m_set {t : jS} {a b : Nat} {v : Bool} (ha : a < 16) (hb : b < 16) : ∃ t', f_X11_setBearing t (nI (100 * a + b)) (bI v) = some ((), t') ∧ fr [28] t t' ∧ ∀ p q, p < 16 → q < 16 → gI t' 28 (16 * p + q) = if isPr a b p q = true then bI v else gI t 28 (16 * p + q) := by
  refine ⟨sI (sI t 28 (16 * a + b) (bI v)) 28 (16 * b + a) (bI v), ?_, fr_trans (fr_sI _ _ _ (by decide)) (fr_sI _ _ _ (by decide)), fun p q hp hq => ?_⟩
  · unfold f_X11_setBearing
    have jbv : jb (bI v) = true := by cases v <;> decide
    have d1 : nI (100 * a + b) / (100 : Int32) = nI a := by
      rw [show (100 : Int32) = nI 100 from rfl, pk_div (by omega) (by decide) (by decide)]
      exact congrArg nI (by omega)
    have d2 : nI (100 * a + b) - nI (100 * a + b) / (100 : Int32) * (100 : Int32) = nI b := by
      rw [show (100 : Int32) = nI 100 from rfl, pk_rem (by omega) (by decide) (by decide)]
      exact congrArg nI (by omega)
    rw [d2, d1, show (16 : Int32) = nI 16 from rfl, nI_mul, nI_mul, nI_add, nI_add, bG_t jbv, bG_t (jin_nI (by omega) (by omega)), ix_nI (by omega), bV_e, bG_t jbv, bG_t (jin_nI (by omega) (by omega)), ix_nI (by omega), bV_e]
  · by_cases z : isPr a b p q = true
    · rw [if_pos z]
      rcases isPr_iff.mp z with ⟨rfl, rfl⟩ | ⟨rfl, rfl⟩
      · by_cases y : 16 * p + q = 16 * q + p
        · rw [y, gI_sI]
        · rw [gI_nei y, gI_sI]
      · rw [gI_sI]
    · rw [if_neg z, gI_nei, gI_nei]
      · intro e
        exact z (isPr_iff.mpr (by omega))
      · intro e
        exact z (isPr_iff.mpr (by omega))
theorem HB_set {t t' : jS} {B : Tb} {e : Nat} (he : e < 256) (h : HB t B) (hs : ∀ p q, p < 16 → q < 16 → gI t' 28 (16 * p + q) = if isPr (e / 16) (e % 16) p q = true then bI true else gI t 28 (16 * p + q)) : HB t' (aT B e) := fun p q hp hq => by
  rw [hs p q hp hq, aT_bears he (by omega) (by omega), h p q hp hq]
  cases hi : isPr (e / 16) (e % 16) p q with
  | true => rw [if_pos rfl, Bool.or_true]
  | false => rw [if_neg (by decide), Bool.or_false]
theorem HB_un {t t' : jS} {B : Tb} {e : Nat} (he : frE B e) (h16 : tP B ≤ 16) (h : HB t (aT B e)) (hs : ∀ p q, p < 16 → q < 16 → gI t' 28 (16 * p + q) = if isPr (e / 16) (e % 16) p q = true then bI false else gI t 28 (16 * p + q)) : HB t' B := fun p q hp hq => by
  rw [hs p q hp hq, h p q hp hq, aT_bears (frE_lt h16 he) (by omega) (by omega)]
  cases hi : isPr (e / 16) (e % 16) p q with
  | false => rw [if_neg (by decide), Bool.or_false]
  | true =>
    rw [if_pos rfl]
    have hb := he.2.2
    rcases isPr_iff.mp hi with ⟨rfl, rfl⟩ | ⟨rfl, rfl⟩
    · rw [hb]
    · rw [bears_sym, hb]
section MF
variable {A : Tb} {c0 n W s : Nat} {L wh tg : Nat → Nat} {τ : jS}
theorem m_isForced {t : jS} {B : Tb} (w : wA A) (s2 : s < 2) (hS : MS A 1 c0 n W n L wh tg t) (hB : HB t B) : ∃ v t', f_X11_isForced t (nI s) = some (if v = 0 then 0 else 1, t') ∧ isV B s n W L wh tg v ∧ sfr t t' := by
  obtain ⟨v, t', a, b, c, d, e⟩ := m_solveV (B := B) hS w hB s2
  refine ⟨v, t', ?_, b, e⟩
  unfold f_X11_isForced f_X11_isForced_J19
  rw [a, bD_e, bG_t (show jin 0 147968 = true from jin_nI (n := 0) (by decide) (by decide)), show ix 0 = 0 from ix_nI (n := 0) (by decide), c]
  have := rI0_lt (v := v) (by omega)
  by_cases z : v = 0
  · rw [if_pos z, if_pos (by subst z; decide), bG_t (show jb 0 = true by decide)]
  · rw [if_neg z, if_neg (Int32.not_lt.mpr (this.mpr z)), bG_t (show jb 1 = true by decide)]
theorem m_isFree {t : jS} {B : Tb} {a b : Nat} (hB : HB t B) (ha : a < 16) (hb : b < 16) (hbP : b < tP B) : (frE B (16 * a + b) ∧ f_X11_isFree t (nI a) (nI b) = some 1) ∨ (¬ frE B (16 * a + b) ∧ f_X11_isFree t (nI a) (nI b) = some 0) := by
  have d1 : (16 * a + b) / 16 = a := by omega
  have d2 : (16 * a + b) % 16 = b := by omega
  unfold f_X11_isFree f_X11_isFree_J23 f_X11_isFree_J24 frE
  rw [d1, d2]
  by_cases z : b ≤ a
  · refine Or.inr ⟨fun e => by omega, ?_⟩
    rw [if_pos (nI_le z (by omega)), bG_t (show jb 0 = true by decide)]
  · rw [if_neg (nI_ge (by omega) (by omega)), show (16 : Int32) = nI 16 from rfl, nI_mul, nI_add, bG_t (jin_nI (by omega) (by omega)), ix_nI (by omega), hB a b ha hb]
    cases hh : bears B a b with
    | false => exact Or.inl ⟨⟨by omega, hbP, rfl⟩, by rw [if_pos (show bI false = 0 by decide), bG_t (show jb 1 = true by decide)]⟩
    | true => exact Or.inr ⟨fun e => (by cases e.2.2), by rw [if_neg (show ¬ bI true = 0 by decide), bG_t (show jb 0 = true by decide)]⟩
/-- a pair by its number -/
def pN (P i : Nat) : Nat := 16 * (i / P) + i % P
theorem pN_parts {P i : Nat} (h16 : P ≤ 16) (h0 : 0 < P) (hi : i < P * P) : i / P < P ∧ i % P < P ∧ pN P i / 16 = i / P ∧ pN P i % 16 = i % P ∧ pN P i < 256 := by
  have a : i / P < P := Nat.div_lt_of_lt_mul hi
  have b := Nat.mod_lt i h0
  unfold pN
  omega
theorem pN_lt {P i j : Nat} (h16 : P ≤ 16) (h0 : 0 < P) (h : i < j) : pN P i < pN P j := by
  have a := Nat.mod_lt i h0
  have b := Nat.mod_lt j h0
  have c := Nat.div_add_mod i P
  have d := Nat.div_add_mod j P
  have e : i / P ≤ j / P := Nat.div_le_div_right (by omega)
  unfold pN
  rcases Nat.lt_or_ge (i / P) (j / P) with z | z
  · omega
  · have : i / P = j / P := by omega
    rw [this] at c ⊢
    omega
theorem pN_of {A : Tb} {e : Nat} (h : frE A e) (h16 : tP A ≤ 16) : ∃ i, i < tP A * tP A ∧ pN (tP A) i = e := by
  obtain ⟨a, b, _⟩ := h
  have h0 : 0 < tP A := by omega
  refine ⟨tP A * (e / 16) + e % 16, ?_, ?_⟩
  · calc tP A * (e / 16) + e % 16 < tP A * (e / 16) + tP A := by omega
      _ = tP A * (e / 16 + 1) := by rw [Nat.mul_add, Nat.mul_one]
      _ ≤ tP A * tP A := Nat.mul_le_mul_left _ (by omega)
  · unfold pN
    rw [Nat.mul_add_div h0, Nat.mul_add_mod, Nat.div_eq_of_lt b, Nat.mod_eq_of_lt b]
    omega
theorem pN_mono {P i j : Nat} (h16 : P ≤ 16) (h0 : 0 < P) (h : pN P i < pN P j) : i < j := by
  rcases Nat.lt_or_ge i j with z | z
  · exact z
  · rcases Nat.eq_or_lt_of_le z with y | y
    · rw [y] at h; omega
    · have := pN_lt (i := j) (j := i) h16 h0 y
      omega
end MF
