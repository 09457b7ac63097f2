/-! the text: runs of signs -/
def exf (P : Nat → Bool) : Nat → Nat → Nat
  | 0, p => p
  | f + 1, p => if P p = true then exf P f (p + 1) else p
def ex (P : Nat → Bool) (n p : Nat) : Nat := exf P (n - p) p
theorem exf_facts (P : Nat → Bool) : ∀ f p, p ≤ exf P f p ∧ exf P f p ≤ p + f ∧ (∀ j, p ≤ j → j < exf P f p → P j = true) ∧ (exf P f p < p + f → P (exf P f p) = false)
  | 0, p => ⟨Nat.le_refl _, Nat.le_refl _, fun j h1 h2 => absurd h2 (by show ¬ j < p; omega), fun h => absurd h (by show ¬ p < p + 0; omega)⟩
  | f + 1, p => by
    rw [exf]
    by_cases h : P p = true
    · rw [if_pos h]
      obtain ⟨a, b, c, d⟩ := exf_facts P f (p + 1)
      refine ⟨by omega, by omega, fun j h1 h2 => ?_, fun h3 => d (by omega)⟩
      by_cases z : j = p
      · subst z; exact h
      · exact c j (by omega) h2
    · rw [if_neg h]
      refine ⟨Nat.le_refl _, by omega, fun j h1 h2 => by omega, fun _ => ?_⟩
      cases hp : P p with
      | true => exact absurd hp h
      | false => rfl
theorem ex_ge (P : Nat → Bool) (n p : Nat) : p ≤ ex P n p := (exf_facts P _ _).1
theorem ex_le (P : Nat → Bool) {n p : Nat} (h : p ≤ n) : ex P n p ≤ n := by
  have := (exf_facts P (n - p) p).2.1
  unfold ex; omega
theorem ex_in {P : Nat → Bool} {n p j : Nat} (h : p ≤ n) (h1 : p ≤ j) (h2 : j < ex P n p) : j < n ∧ P j = true := by
  have := ex_le P h
  exact ⟨by omega, (exf_facts P (n - p) p).2.2.1 j h1 h2⟩
theorem ex_out {P : Nat → Bool} {n p : Nat} (h : p ≤ n) (h2 : ex P n p < n) : P (ex P n p) = false :=
  (exf_facts P (n - p) p).2.2.2 (by unfold ex at h2; omega)
theorem ex_out' {P : Nat → Bool} {n p : Nat} (h : p ≤ n) : ¬ (ex P n p < n ∧ P (ex P n p) = true) := fun ⟨a, b⟩ => by
  rw [ex_out h a] at b; cases b
/-- a scanning loop -/
theorem jloop_scan {S O : Type} {f : S → Option (S ⊕ O)} (st : Nat → S) {P : Nat → Bool} {n p : Nat} {o : O} {s0 : S} (hp : p ≤ n) (hn : n ≤ 500) (h0 : st 0 = s0) (hend : f (st (ex P n p - p)) = some (.inr o)) (hs : ∀ i, i < ex P n p - p → p + i < n → P (p + i) = true → f (st i) = some (.inl (st (i + 1)))) : jloop jFuel f s0 = some o := by
  have h1 := ex_ge P n p
  have h2 := ex_le P hp
  refine jloop_0 st (ex P n p - p) h0 (jfuel_big (by omega)) hend (fun i hi => ?_)
  obtain ⟨a, b⟩ := ex_in hp (by omega) (show p + i < ex P n p by omega)
  exact hs i hi a b
theorem sI_sI (σ : jS) (h i : Nat) (a b : Int32) : sI (sI σ h i a) h i b = sI σ h i b := by
  refine Prod.ext ?_ rfl
  funext x y
  show (if x = h ∧ y = i then b else (if x = h ∧ y = i then a else σ.1 x y)) = (if x = h ∧ y = i then b else σ.1 x y)
  split <;> rfl
theorem sI_self {σ : jS} {h i : Nat} {a : Int32} (e : gI σ h i = a) : sI σ h i a = σ := by
  refine Prod.ext ?_ rfl
  funext x y
  show (if x = h ∧ y = i then a else σ.1 x y) = σ.1 x y
  split
  · rename_i q; rw [q.1, q.2, ← e]
  · rfl
theorem sI_comm (σ : jS) {h i h2 i2 : Nat} (a b : Int32) (d : ¬ (h = h2 ∧ i = i2)) : sI (sI σ h i a) h2 i2 b = sI (sI σ h2 i2 b) h i a := by
  refine Prod.ext ?_ rfl
  funext x y
  show (if x = h2 ∧ y = i2 then b else (if x = h ∧ y = i then a else σ.1 x y)) = (if x = h ∧ y = i then a else (if x = h2 ∧ y = i2 then b else σ.1 x y))
  by_cases z : x = h ∧ y = i
  · rw [if_pos z, if_pos z, if_neg]
    rintro ⟨u, v⟩
    exact d ⟨z.1.symm.trans u, z.2.symm.trans v⟩
  · rw [if_neg z, if_neg z]
theorem sL_sL (σ : jS) (h i : Nat) (a b : Int64) : sL (sL σ h i a) h i b = sL σ h i b := by
  refine Prod.ext rfl (Prod.ext ?_ rfl)
  funext x y
  show (if x = h ∧ y = i then b else (if x = h ∧ y = i then a else σ.2.1 x y)) = (if x = h ∧ y = i then b else σ.2.1 x y)
  split <;> rfl
/-! the class reads -/
def txX (σ : jS) (n : Nat) (w : Nat → Nat) : Prop := n ≤ 500 ∧ gI σ 2 1 = nI n ∧ ∀ i, i < n → w i < 256 ∧ gI σ 3 i = nI (w i)
def sgn (w : Nat → Nat) (n p : Nat) : Int32 := if p < n then nI (w p) else -1
def bl (w : Nat → Nat) (i : Nat) : Bool := w i == 32
def isB (lo hi c : Nat) : Bool := decide (lo ≤ c) && decide (c ≤ hi)
def lt (w : Nat → Nat) (i : Nat) : Bool := isB 97 122 (w i)
def dg (w : Nat → Nat) (i : Nat) : Bool := isB 48 57 (w i)
theorem isB_iff {lo hi c : Nat} : isB lo hi c = true ↔ lo ≤ c ∧ c ≤ hi := by unfold isB; simp
theorem txX_fr {σ σ' : jS} {n : Nat} {w : Nat → Nat} (h1 : gI σ' 2 1 = gI σ 2 1) (h3 : ∀ i, gI σ' 3 i = gI σ 3 i) (t : txX σ n w) : txX σ' n w := ⟨t.1, h1.trans t.2.1, fun i hi => ⟨(t.2.2 i hi).1, (h3 i).trans (t.2.2 i hi).2⟩⟩
theorem x_sign {σ : jS} {n p : Nat} {w : Nat → Nat} (t : txX σ n w) (hp : p ≤ 1000) : f_X5_sign σ (nI p) = some (sgn w n p) := by
  unfold f_X5_sign f_X5_sign_J20 sgn
  have := t.1
  by_cases h : p < n
  · rw [t.2.1, if_neg (nI_ge h (by omega)), if_pos h, at3 (by omega), bC_e, (t.2.2 p h).2]
  · rw [t.2.1, if_pos (nI_le (by omega) (by omega)), if_neg h]
theorem sgn_ne {w : Nat → Nat} {n p c : Nat} (hw : ∀ i, i < n → w i < 256) (hc : c < 256) : sgn w n p = nI c ↔ p < n ∧ w p = c := by
  unfold sgn
  by_cases h : p < n
  · rw [if_pos h, nI_eq (by have := hw p h; omega) (by omega)]
    exact ⟨fun e => ⟨h, e⟩, fun e => e.2⟩
  · rw [if_neg h]
    exact ⟨fun e => absurd (nI_pos (n := c) (by omega)) (fun q => q (by rw [← e]; decide)), fun e => absurd e.1 h⟩
theorem x_isLetter {w : Nat → Nat} {n p : Nat} (hw : ∀ i, i < n → w i < 256) : f_X5_isLetter (sgn w n p) = some (if p < n ∧ lt w p = true then 1 else 0) := by
  unfold f_X5_isLetter f_X5_isLetter_J16 f_X5_isLetter_J17 sgn lt
  by_cases h : p < n
  · have := hw p h
    rw [if_pos h]
    by_cases h1 : w p < 97
    · rw [if_pos (show nI (w p) < 97 from nI_lt (b := 97) h1 (by decide)), if_neg (fun e => by have := isB_iff.mp e.2; omega)]; rfl
    · rw [if_neg (show ¬ nI (w p) < 97 from fun e => by have := (nI_ltI (b := 97) (by omega) (by decide)).mp e; omega)]
      by_cases h2 : 122 < w p
      · rw [if_pos (show 122 < nI (w p) from nI_lt (a := 122) h2 (by omega)), if_neg (fun e => by have := isB_iff.mp e.2; omega)]; rfl
      · rw [if_neg (show ¬ 122 < nI (w p) from fun e => by have := (nI_ltI (a := 122) (by decide) (by omega)).mp e; omega), if_pos ⟨h, isB_iff.mpr (by omega)⟩]; rfl
  · rw [if_neg h, if_pos (by decide), if_neg (fun e => h e.1)]; rfl
theorem x_isFigure {w : Nat → Nat} {n p : Nat} (hw : ∀ i, i < n → w i < 256) : f_X5_isFigure (sgn w n p) = some (if p < n ∧ dg w p = true then 1 else 0) := by
  unfold f_X5_isFigure f_X5_isFigure_J16 f_X5_isFigure_J17 sgn dg
  by_cases h : p < n
  · have := hw p h
    rw [if_pos h]
    by_cases h1 : w p < 48
    · rw [if_pos (show nI (w p) < 48 from nI_lt (b := 48) h1 (by decide)), if_neg (fun e => by have := isB_iff.mp e.2; omega)]; rfl
    · rw [if_neg (show ¬ nI (w p) < 48 from fun e => by have := (nI_ltI (b := 48) (by omega) (by decide)).mp e; omega)]
      by_cases h2 : 57 < w p
      · rw [if_pos (show 57 < nI (w p) from nI_lt (a := 57) h2 (by omega)), if_neg (fun e => by have := isB_iff.mp e.2; omega)]; rfl
      · rw [if_neg (show ¬ 57 < nI (w p) from fun e => by have := (nI_ltI (a := 57) (by decide) (by omega)).mp e; omega), if_pos ⟨h, isB_iff.mpr (by omega)⟩]; rfl
  · rw [if_neg h, if_pos (by decide), if_neg (fun e => h e.1)]; rfl
theorem txX_w {σ : jS} {n : Nat} {w : Nat → Nat} (t : txX σ n w) : ∀ i, i < n → w i < 256 := fun i hi => (t.2.2 i hi).1
theorem txX_4 {σ : jS} {n : Nat} {w : Nat → Nat} (t : txX σ n w) (v : Int32) : txX (sI σ 2 4 v) n w := txX_fr (gI_nei (by decide)) (fun i => gI_ne (by decide)) t
theorem x_skip {σ : jS} {n p : Nat} {w : Nat → Nat} (t : txX σ n w) (hp : p ≤ n) (h4 : gI σ 2 4 = nI p) : f_X5_skipBlanks σ = some ((), sI σ 2 4 (nI (ex (bl w) n p))) := by
  have hn := t.1
  have hw := txX_w t
  have e1 := ex_ge (bl w) n p
  have e2 := ex_le (bl w) hp
  unfold f_X5_skipBlanks
  refine jloop_scan (P := bl w) (fun i => (nI i, sI σ 2 4 (nI (p + i)))) hp hn ?_ ?_ ?_
  · exact Prod.ext rfl (sI_self h4)
  · show f_X5_skipBlanks_B2 (sI σ 2 4 (nI (p + (ex (bl w) n p - p)))) (nI (ex (bl w) n p - p)) = _
    rw [show p + (ex (bl w) n p - p) = ex (bl w) n p by omega]
    unfold f_X5_skipBlanks_B2 f_X5_skipBlanks_J38
    by_cases z : 500 ≤ ex (bl w) n p - p
    · rw [if_pos (show (500 : Int32) ≤ nI _ from nI_le (a := 500) z (by omega)), jw_e]
    · rw [if_neg (show ¬ (500 : Int32) ≤ nI _ from nI_ge (b := 500) (by omega) (by decide)), gI_sI, x_sign (txX_4 t _) (by omega), bC_e, if_neg, jw_e]
      intro e
      have := (sgn_ne (c := 32) hw (by decide)).mp e
      exact ex_out' (P := bl w) hp ⟨this.1, beq_iff_eq.mpr this.2⟩
  · intro i hi h1 h2
    show f_X5_skipBlanks_B2 (sI σ 2 4 (nI (p + i))) (nI i) = _
    unfold f_X5_skipBlanks_B2
    rw [if_neg (show ¬ (500 : Int32) ≤ nI i from nI_ge (b := 500) (by omega) (by decide)), gI_sI, x_sign (txX_4 t _) (by omega), bC_e, if_pos (show sgn w n (p + i) = 32 from (sgn_ne (c := 32) hw (by decide)).mpr ⟨h1, beq_iff_eq.mp h2⟩), bV_e, bV_e, sI_sI, nI_1, nI_1]
    rfl
def failS (σ : jS) (m at' : Int32) : jS := if gI σ 2 3 = 0 then sI (sI σ 2 3 m) 2 2 at' else σ
theorem x_fail (σ : jS) (m at' : Int32) : f_X5_fail σ m at' = some ((), failS σ m at') := by
  unfold f_X5_fail failS
  by_cases h : gI σ 2 3 = 0
  · rw [if_pos h, if_pos h]; rfl
  · rw [if_neg h, if_neg h]
/-- the number of the first figures, at most two -/
def nv (w : Nat → Nat) (q i : Nat) : Nat := if i = 0 then 0 else if i = 1 then w q - 48 else 10 * (w q - 48) + (w (q + 1) - 48)
def numS (σ : jS) (q d v b : Nat) : jS := if d = q then failS (sI σ 2 4 (nI d)) 1 (nI q) else if 2 < d - q ∨ b ≤ v then failS (sI σ 2 4 (nI d)) 2 (nI q) else sI σ 2 4 (nI d)
theorem nv_lt {w : Nat → Nat} {n q i : Nat} (hq : q ≤ n) (hi : i ≤ ex (dg w) n q - q) : nv w q i < 100 := by
  unfold nv
  split
  · decide
  · have a := (ex_in (P := dg w) hq (Nat.le_refl q) (by omega)).2
    have a' := isB_iff.mp a
    split
    · omega
    · have b := (ex_in (P := dg w) hq (show q ≤ q + 1 by omega) (by omega)).2
      have b' := isB_iff.mp b
      omega
theorem x_readNumber {σ : jS} {n p b : Nat} {w : Nat → Nat} (t : txX σ n w) (hp : p ≤ n) (h4 : gI σ 2 4 = nI p) (hb : b ≤ 100) : f_X5_readNumber σ (nI b) = some (nI (nv w (ex (bl w) n p) (ex (dg w) n (ex (bl w) n p) - ex (bl w) n p)), numS σ (ex (bl w) n p) (ex (dg w) n (ex (bl w) n p)) (nv w (ex (bl w) n p) (ex (dg w) n (ex (bl w) n p) - ex (bl w) n p)) b) := by
  have hn := t.1
  have hw := txX_w t
  have e1 := ex_ge (bl w) n p
  have e2 := ex_le (bl w) hp
  unfold f_X5_readNumber
  rw [x_skip t hp h4, bD_e, gI_sI, bV_e]
  generalize ex (bl w) n p = q at *
  have e3 := ex_ge (dg w) n q
  have e4 := ex_le (dg w) e2
  refine jloop_scan (P := dg w) (fun i => (nI (nv w q i), nI i, sI σ 2 4 (nI (q + i)))) e2 hn rfl ?_ ?_
  · show f_X5_readNumber_B14 (sI σ 2 4 (nI (q + (ex (dg w) n q - q)))) (nI b) (nI q) (nI (nv w q (ex (dg w) n q - q))) (nI (ex (dg w) n q - q)) = _
    rw [show q + (ex (dg w) n q - q) = ex (dg w) n q by omega]
    have vl := nv_lt (w := w) e2 (Nat.le_refl (ex (dg w) n q - q))
    generalize nv w q (ex (dg w) n q - q) = v at *
    have J : f_X5_readNumber_J75 (sI σ 2 4 (nI (ex (dg w) n q))) (nI b) (nI q) (nI v) = some (nI v, numS σ q (ex (dg w) n q) v b) := by
      unfold f_X5_readNumber_J75 f_X5_readNumber_J107 f_X5_readNumber_J113 numS
      rw [gI_sI, nI_sub e3, x_fail, x_fail, bD_e, bD_e]
      by_cases z : ex (dg w) n q = q
      · rw [if_pos (congrArg nI z), if_pos z]
      · rw [if_neg (fun e => z ((nI_eq (by omega) (by omega)).mp e)), if_neg z]
        by_cases z2 : 2 < ex (dg w) n q - q
        · rw [if_pos (show (2 : Int32) < nI _ from nI_lt (a := 2) z2 (by omega)), if_pos (Or.inl z2)]
        · rw [if_neg (show ¬ (2 : Int32) < nI _ from fun e => z2 ((nI_ltI (a := 2) (by decide) (by omega)).mp e))]
          by_cases z3 : v < b
          · rw [if_pos (nI_lt z3 (by omega)), if_neg (by omega)]
          · rw [if_neg (fun e => z3 ((nI_ltI (by omega) (by omega)).mp e)), if_pos (Or.inr (by omega))]
    unfold f_X5_readNumber_B14
    rw [J, jw_e]
    by_cases z : 500 ≤ ex (dg w) n q - q
    · rw [if_pos (show (500 : Int32) ≤ nI _ from nI_le (a := 500) z (by omega))]
    · rw [if_neg (show ¬ (500 : Int32) ≤ nI _ from nI_ge (b := 500) (by omega) (by decide)), gI_sI, x_sign (txX_4 t _) (by omega), bC_e, x_isFigure hw, bC_e, if_pos]
      rw [if_neg (ex_out' e2)]
  · intro i hi h1 h2
    have hc := isB_iff.mp h2
    show f_X5_readNumber_B14 (sI σ 2 4 (nI (q + i))) (nI b) (nI q) (nI (nv w q i)) (nI i) = some (Sum.inl (nI (nv w q (i + 1)), nI (i + 1), sI σ 2 4 (nI (q + (i + 1)))))
    unfold f_X5_readNumber_B14 f_X5_readNumber_J59
    rw [if_neg (show ¬ (500 : Int32) ≤ nI i from nI_ge (b := 500) (by omega) (by decide)), gI_sI, x_sign (txX_4 t _) (by omega), bC_e, x_isFigure hw, bC_e, if_neg (show ¬ (if q + i < n ∧ dg w (q + i) = true then (1 : Int32) else 0) = 0 by rw [if_pos ⟨h1, h2⟩]; decide), bV_e, bV_e, sI_sI, nI_1, nI_1]
    by_cases z : 2 ≤ i
    · rw [if_pos (show (2 : Int32) ≤ nI i from nI_le (a := 2) z (by omega))]
      have : nv w q (i + 1) = nv w q i := by
        unfold nv
        rw [if_neg (by omega), if_neg (by omega), if_neg (by omega), if_neg (by omega)]
      rw [this]
      rfl
    · rw [if_neg (show ¬ (2 : Int32) ≤ nI i from nI_ge (b := 2) (by omega) (by decide)), bC_e]
      unfold sgn
      rw [if_pos h1, show (10 : Int32) = nI 10 from rfl, show (48 : Int32) = nI 48 from rfl, nI_mul, nI_add, nI_sub (by omega), bV_e, bV_e, bV_e]
      have : 10 * nv w q i + w (q + i) - 48 = nv w q (i + 1) := by
        have : i = 0 ∨ i = 1 := by omega
        rcases this with rfl | rfl
        · unfold nv
          rw [if_pos rfl, if_neg (by decide), if_pos rfl, Nat.add_zero, Nat.mul_zero, Nat.zero_add]
        · unfold nv
          rw [if_neg (by decide), if_pos rfl, if_neg (by decide), if_neg (by decide)]
          omega
      rw [this]
      rfl
def closS (σ : jS) (w : Nat → Nat) (n q : Nat) : jS := if q < n ∧ w q = 59 then sI σ 2 4 (nI (q + 1)) else failS (sI σ 2 4 (nI q)) 1 (nI q)
theorem x_closing {σ : jS} {n p : Nat} {w : Nat → Nat} (t : txX σ n w) (hp : p ≤ n) (h4 : gI σ 2 4 = nI p) : f_X5_readClosing σ = some ((), closS σ w n (ex (bl w) n p)) := by
  have hn := t.1
  have hw := txX_w t
  have e2 := ex_le (bl w) hp
  unfold f_X5_readClosing f_X5_readClosing_J39 closS
  rw [x_skip t hp h4, bD_e, gI_sI, x_sign (txX_4 t _) (by omega), bC_e]
  by_cases z : ex (bl w) n p < n ∧ w (ex (bl w) n p) = 59
  · rw [if_pos (show sgn w n _ = 59 from (sgn_ne (c := 59) hw (by decide)).mpr z), if_pos z, nI_1, bV_e, sI_sI]
  · rw [if_neg (show ¬ sgn w n _ = 59 from fun e => z ((sgn_ne (c := 59) hw (by decide)).mp e)), if_neg z, x_fail, bD_e]
