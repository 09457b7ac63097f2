/-! the reference's state as a table of naturals, what a town is, what may be -/
def stat (h i : Nat) : Bool := (h == 1 && (i == 0 || i == 2 || i == 6 || i == 8 || i == 13 || i == 14)) || h == 2 || h == 3 || h == 4 || h == 6 || h == 7 || h == 8
/-- only what a town, its grudges and its law are: what else is written leaves it as it is -/
def mn (τ : jS) (h i : Nat) : Nat := if stat h i = true then ix (gI τ h i) else 0
theorem mn_eq {τ τ' : jS} (h : ∀ a i, stat a i = true → gI τ' a i = gI τ a i) : mn τ' = mn τ := by
  funext a i
  unfold mn
  by_cases q : stat a i = true
  · rw [if_pos q, if_pos q, h a i q]
  · rw [if_neg q, if_neg q]
theorem mn_at {τ : jS} {a i : Nat} (q : stat a i = true) : mn τ a i = ix (gI τ a i) := if_pos q
abbrev Tb : Type := Nat → Nat → Nat
def tP (A : Tb) : Nat := A 1 0
def tT (A : Tb) : Nat := A 1 2
def tG (A : Tb) : Nat := A 1 6
def tQ (A : Tb) : Nat := A 1 8
def tW (A : Tb) : Nat := A 1 13
def tB (A : Tb) : Nat := A 1 14
def bex (n : Nat) (p : Nat → Bool) : Bool := (List.range n).any p
theorem bex_iff {n : Nat} {p : Nat → Bool} : bex n p = true ↔ ∃ k, k < n ∧ p k = true := by
  unfold bex
  rw [List.any_eq_true]
  constructor
  · rintro ⟨x, hx, h⟩; exact ⟨x, List.mem_range.mp hx, h⟩
  · rintro ⟨x, hx, h⟩; exact ⟨x, List.mem_range.mpr hx, h⟩
theorem bex_not {n : Nat} {p : Nat → Bool} : bex n p = false ↔ ∀ k, k < n → p k = false := by
  rw [Bool.eq_false_iff, Ne, bex_iff]
  constructor
  · intro h k hk
    cases hp : p k with
    | false => rfl
    | true => exact absurd ⟨k, hk, hp⟩ h
  · rintro h ⟨k, hk, hp⟩
    rw [h k hk] at hp
    cases hp
theorem bex_succ (n : Nat) (p : Nat → Bool) : bex (n + 1) p = (bex n p || p n) := by
  unfold bex
  rw [List.range_succ, List.any_append]
  simp
theorem bex_0 (p : Nat → Bool) : bex 0 p = false := rfl
theorem bex_cong {n : Nat} {p q : Nat → Bool} (h : ∀ k, k < n → p k = q k) : bex n p = bex n q := by
  cases hq : bex n q with
  | true =>
    obtain ⟨k, hk, hp⟩ := bex_iff.mp hq
    exact bex_iff.mpr ⟨k, hk, by rw [h k hk]; exact hp⟩
  | false => exact bex_not.mpr fun k hk => by rw [h k hk]; exact bex_not.mp hq k hk
/-- two bear each other a grudge -/
def bearsAt (A : Tb) (a b g : Nat) : Bool := A 6 g == 100 * a + b || A 6 g == 100 * b + a
def bears (A : Tb) (a b : Nat) : Bool := bex (tG A) (bearsAt A a b)
/-- q owes p a turn -/
def owes (A : Tb) (p q : Nat) : Bool := bex (tT A) fun t => A 3 t == q && A 4 t == p
def lawful (A : Tb) (p q : Nat) : Bool := if tW A = 0 then A 2 q + 1 == A 2 p else if tW A = 1 then decide (A 2 q < A 2 p) else if tW A = 2 then true else A 2 q == A 2 p + 1
def cOne (c : Nat) : Nat := c / 9248
def cTwo (c : Nat) : Nat := c / 578 % 16
def cSide (c : Nat) : Nat := c / 289 % 2
def cFr (c s : Nat) : Nat := if s = 0 then c / 17 % 17 else c % 17
def cHold (c s : Nat) : Nat := if s = 0 then cOne c else cTwo c
def mkc (a b s x y : Nat) : Nat := (((a * 16 + b) * 2 + s) * 17 + x) * 17 + y
theorem mkc_one {a b s x y : Nat} (hb : b < 16) (hs : s < 2) (hx : x < 17) (hy : y < 17) : cOne (mkc a b s x y) = a := by unfold cOne mkc; omega
theorem mkc_two {a b s x y : Nat} (hb : b < 16) (hs : s < 2) (hx : x < 17) (hy : y < 17) : cTwo (mkc a b s x y) = b := by unfold cTwo mkc; omega
theorem mkc_side {a b s x y : Nat} (hs : s < 2) (hx : x < 17) (hy : y < 17) : cSide (mkc a b s x y) = s := by unfold cSide mkc; omega
theorem mkc_fr0 {a b s x y : Nat} (hx : x < 17) (hy : y < 17) : cFr (mkc a b s x y) 0 = x := by unfold cFr mkc; rw [if_pos rfl]; omega
theorem mkc_fr1 {a b s x y : Nat} (hy : y < 17) : cFr (mkc a b s x y) 1 = y := by unfold cFr mkc; rw [if_neg (by decide)]; omega
theorem mkc_lt {a b s x y : Nat} (ha : a < 16) (hb : b < 16) (hs : s < 2) (hx : x < 17) (hy : y < 17) : mkc a b s x y < 147968 := by unfold mkc; omega
theorem mkc_of {c : Nat} : mkc (cOne c) (cTwo c) (cSide c) (cFr c 0) (cFr c 1) = c := by
  unfold mkc cOne cTwo cSide cFr
  rw [if_pos rfl, if_neg (by decide)]
  omega
theorem cOne_lt {c : Nat} (h : c < 147968) : cOne c < 16 := by unfold cOne; omega
theorem cTwo_lt (c : Nat) : cTwo c < 16 := by unfold cTwo; omega
theorem cSide_lt (c : Nat) : cSide c < 2 := by unfold cSide; omega
theorem cFr_lt (c s : Nat) : cFr c s < 17 := by unfold cFr; split <;> omega
theorem cHold_lt {c s : Nat} (h : c < 147968) : cHold c s < 16 := by unfold cHold; split; exact cOne_lt h; exact cTwo_lt c
/-- to whom the one of side s may hand it -/
def mayP (A : Tb) (c s q : Nat) : Bool := decide (q < tP A) && owes A (cHold c s) q && lawful A (cHold c s) q && !(q == cHold c (1 - s)) && !(!(tB A == 0) && cFr c s == q + 1)
def mayS (A : Tb) (c s : Nat) : Nat := bm (mayP A c s) 16
def ended (A : Tb) (c : Nat) : Bool := !bears A (cOne c) (cTwo c)
def stN (A : Tb) (c : Nat) : Nat := if ended A c then 1 else if mayS A c 0 = 0 ∧ mayS A c 1 = 0 then 2 else 0
/-- a HANDING to q, a pass -/
def behQ (A : Tb) (c q : Nat) : Nat := if cSide c = 0 then mkc q (cTwo c) 1 (if tB A = 0 then 0 else cOne c + 1) (cFr c 1) else mkc (cOne c) q 0 (cFr c 0) (if tB A = 0 then 0 else cTwo c + 1)
def behP (c : Nat) : Nat := mkc (cOne c) (cTwo c) (1 - cSide c) (cFr c 0) (cFr c 1)
/-! what the reference's state is: numbers, steps, turns, debts, grudges, quarrels -/
def wN (τ : jS) : Prop := (gI τ 1 0 = nI (tP (mn τ)) ∧ tP (mn τ) ≤ 16) ∧ (gI τ 1 2 = nI (tT (mn τ)) ∧ tT (mn τ) ≤ 40) ∧ (gI τ 1 6 = nI (tG (mn τ)) ∧ tG (mn τ) ≤ 120) ∧ (gI τ 1 8 = nI (tQ (mn τ)) ∧ tQ (mn τ) ≤ 4) ∧ (gI τ 1 13 = nI (tW (mn τ)) ∧ tW (mn τ) ≤ 3) ∧ (gI τ 1 14 = nI (tB (mn τ)) ∧ tB (mn τ) ≤ 1)
def wS (τ : jS) : Prop := ∀ p, p < 16 → gI τ 2 p = nI (mn τ 2 p) ∧ mn τ 2 p ≤ 9
def wT (τ : jS) : Prop := (∀ t, t < tT (mn τ) → gI τ 3 t = nI (mn τ 3 t) ∧ gI τ 4 t = nI (mn τ 4 t) ∧ mn τ 3 t < tP (mn τ) ∧ mn τ 4 t < tP (mn τ) ∧ mn τ 3 t ≠ mn τ 4 t) ∧ ∀ t u, t < tT (mn τ) → u < tT (mn τ) → mn τ 3 t = mn τ 3 u → mn τ 4 t = mn τ 4 u → t = u
def wO (τ : jS) : Prop := ∀ p, p < 16 → gI τ 5 p = nI (bm (owes (mn τ) p) 16)
def wG (τ : jS) : Prop := (∀ g, g < tG (mn τ) → gI τ 6 g = nI (mn τ 6 g) ∧ mn τ 6 g / 100 < tP (mn τ) ∧ mn τ 6 g % 100 < tP (mn τ) ∧ mn τ 6 g / 100 ≠ mn τ 6 g % 100) ∧ ∀ g h, g < tG (mn τ) → h < tG (mn τ) → bearsAt (mn τ) (mn τ 6 g / 100) (mn τ 6 g % 100) h = true → g = h
def wQ (τ : jS) : Prop := ∀ q, q < tQ (mn τ) → gI τ 7 q = nI (mn τ 7 q) ∧ gI τ 8 q = nI (mn τ 8 q) ∧ mn τ 7 q < tP (mn τ) ∧ mn τ 8 q < tP (mn τ) ∧ mn τ 7 q ≠ mn τ 8 q
/-- a code that can be -/
def okc (A : Tb) (c : Nat) : Prop := c < 147968 ∧ cOne c < tP A ∧ cTwo c < tP A ∧ cOne c ≠ cTwo c ∧ ∀ s, s < 2 → cFr c s = 0 ∨ (tB A = 1 ∧ owes A (cFr c s - 1) (cHold c s) = true)
/-! the reference's small functions -/
theorem nI_sub {a b : Nat} (h : b ≤ a) : nI a - nI b = nI (a - b) := by
  have e : nI (a - b) + nI b = nI a := by rw [nI_add]; congr 1; omega
  rw [← e]
  simp
theorem nI_mul (a b : Nat) : nI a * nI b = nI (a * b) := by
  apply Int32.toBitVec_inj.mp
  show BitVec.ofNat 32 a * BitVec.ofNat 32 b = BitVec.ofNat 32 (a * b)
  rw [BitVec.ofNat_mul]
theorem nI_sh (a : Nat) : nI a - 1 + 1 = nI a := by simp
theorem m_one {c : Nat} (h : c < 147968) : f_X11_one (nI c) = some (nI (cOne c)) := by
  unfold f_X11_one cOne
  rw [show (9248 : Int32) = nI 9248 from rfl, pk_div (by omega) (by decide) (by decide)]
theorem m_two {c : Nat} (h : c < 147968) : f_X11_two (nI c) = some (nI (cTwo c)) := by
  unfold f_X11_two cTwo
  rw [show (578 : Int32) = nI 578 from rfl, show (16 : Int32) = nI 16 from rfl, pk_div (by omega) (by decide) (by decide), pk_rem (by omega) (by decide) (by decide)]
theorem m_side {c : Nat} (h : c < 147968) : f_X11_side (nI c) = some (nI (cSide c)) := by
  unfold f_X11_side cSide
  rw [show (289 : Int32) = nI 289 from rfl, show (2 : Int32) = nI 2 from rfl, pk_div (by omega) (by decide) (by decide), pk_rem (by omega) (by decide) (by decide)]
theorem m_from {c s : Nat} (h : c < 147968) (hs : s < 2) : f_X11_from (nI c) (nI s) = some (nI (cFr c s) - 1) := by
  unfold f_X11_from f_X11_from_J22 cFr
  rw [show (17 : Int32) = nI 17 from rfl]
  have : s = 0 ∨ s = 1 := by omega
  rcases this with rfl | rfl
  · rw [if_pos rfl, if_pos (show nI 0 = 0 from rfl), pk_div (by omega) (by decide) (by decide), pk_rem (by omega) (by decide) (by decide)]
  · rw [if_neg (by decide), if_neg (by decide), pk_rem (by omega) (by decide) (by decide)]
theorem m_holder {c s : Nat} (h : c < 147968) (hs : s < 2) : f_X11_holder (nI c) (nI s) = some (nI (cHold c s)) := by
  unfold f_X11_holder f_X11_holder_J15 cHold
  have : s = 0 ∨ s = 1 := by omega
  rcases this with rfl | rfl
  · rw [if_pos rfl, if_pos (show nI 0 = 0 from rfl), m_one h]; rfl
  · rw [if_neg (by decide), if_neg (by decide), m_two h]; rfl
theorem m_code {a b s x y : Nat} : f_X11_code (nI a) (nI b) (nI s) (nI x - 1) (nI y - 1) = some (nI (mkc a b s x y)) := by
  unfold f_X11_code mkc
  rw [show (16 : Int32) = nI 16 from rfl, show (2 : Int32) = nI 2 from rfl, show (17 : Int32) = nI 17 from rfl, nI_mul, nI_add, nI_mul, nI_add, nI_mul]
  have e1 : nI (((a * 16 + b) * 2 + s) * 17) + (nI x - 1) + 1 = nI (((a * 16 + b) * 2 + s) * 17 + x) := by
    rw [Int32.add_assoc, nI_sh, nI_add]
  rw [e1, nI_mul, Int32.add_assoc, nI_sh, nI_add]
theorem m_has {p : Nat → Bool} {n k : Nat} (hn : n ≤ 31) (hk : k < 32) : f_X11_has (nI (bm p n)) (nI k) = some (if k < n ∧ p k = true then 1 else 0) := by
  unfold f_X11_has f_X11_has_J14
  have hm : bm p n < 2 ^ 31 := Nat.lt_of_lt_of_le (bm_lt p n) (Nat.pow_le_pow_right (by decide) hn)
  rw [nI_bit hm hk, bm_bit]
  by_cases q : k < n ∧ p k = true
  · have e : (decide (k < n) && p k) = true := by simp [q.1, q.2]
    rw [e, if_pos q]; rfl
  · have : (decide (k < n) && p k) = false := by
      cases hp : p k <;> simp_all
    rw [this, if_neg q]; rfl
