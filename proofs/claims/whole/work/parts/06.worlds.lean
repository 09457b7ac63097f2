abbrev jS : Type := (Nat → Nat → Int32) × (Nat → Nat → Int64) × Nat × Nat
abbrev gI (σ : jS) (h i : Nat) : Int32 := σ.1 h i
abbrev gL (σ : jS) (h i : Nat) : Int64 := σ.2.1 h i
def sI (σ : jS) (h i : Nat) (v : Int32) : jS := (ju σ.1 h i v, σ.2)
def sL (σ : jS) (h i : Nat) (v : Int64) : jS := (σ.1, ju σ.2.1 h i v, σ.2.2)
def sT (σ : jS) (t : Nat) : jS := (σ.1, σ.2.1, t, σ.2.2.2)
def sU (σ : jS) (t : Nat) : jS := (σ.1, σ.2.1, σ.2.2.1, t)
abbrev ix (i : Int32) : Nat := i.toNatClampNeg
def bV {α β : Type} (v : α) (k : α → β) : β := k v
theorem bV_inv {α β : Type} {v : α} {k : α → β} {o : β} (h : bV v k = o) : ∃ x, x = v ∧ k x = o := ⟨v, rfl, h⟩
def bG {β : Type} (b : Bool) (k : Option β) : Option β := if b = true then k else none
theorem bG_inv {β : Type} {b : Bool} {k : Option β} {r : β} (h : bG b k = some r) : b = true ∧ k = some r := by
  unfold bG at h
  split at h
  · exact ⟨by assumption, h⟩
  · cases h
def bC {α β : Type} (o : Option α) (k : α → Option β) : Option β := match o with
  | some a => k a
  | none => none
theorem bC_inv {α β : Type} {o : Option α} {k : α → Option β} {r : β} (h : bC o k = some r) : ∃ a, o = some a ∧ k a = some r := by
  cases o with
  | none => cases h
  | some a => exact ⟨a, rfl, h⟩
def bD {α β : Type} (o : Option (α × jS)) (k : α → jS → Option β) : Option β := match o with
  | some (a, s) => k a s
  | none => none
theorem bD_inv {α β : Type} {o : Option (α × jS)} {k : α → jS → Option β} {r : β} (h : bD o k = some r) : ∃ a s, o = some (a, s) ∧ k a s = some r := by
  cases o with
  | none => cases h
  | some q => exact ⟨q.1, q.2, rfl, h⟩
def bH {β : Type} (S : List Nat) (v : Nat) (k : Option β) : Option β := if v ∈ S then k else none
theorem bH_inv {β : Type} {S : List Nat} {v : Nat} {k : Option β} {r : β} (h : bH S v k = some r) : v ∈ S ∧ k = some r := by
  unfold bH at h
  split at h
  · exact ⟨by assumption, h⟩
  · cases h
def jw {S O : Type} (o : Option O) : Option (S ⊕ O) := o.map .inr
theorem jw_inv {S O : Type} {x : Option O} {o : S ⊕ O} (h : jw x = some o) : ∃ o', o = .inr o' ∧ x = some o' := by
  unfold jw at h
  cases x with
  | none => cases h
  | some a => cases h; exact ⟨a, rfl, rfl⟩
def jloop {S O : Type} : Nat → (S → Option (S ⊕ O)) → S → Option O
  | 0, _, _ => none
  | n + 1, f, s => match f s with
    | none => none
    | some (.inl s') => jloop n f s'
    | some (.inr o) => some o
def jsum {S O : Type} (p : S → Prop) (q : O → Prop) : S ⊕ O → Prop
  | .inl s => p s
  | .inr o => q o
theorem jloop_ok {S O : Type} (f : S → Option (S ⊕ O)) (p : S → Prop) (q : O → Prop) (hb : ∀ s o, f s = some o → jsum p q o → p s) : ∀ (n : Nat) (s : S) (o : O), jloop n f s = some o → q o → p s
  | 0, _, _, h, _ => by cases h
  | n + 1, s, o, h, hq => by
    unfold jloop at h
    cases hf : f s with
    | none => rw [hf] at h; cases h
    | some x =>
      rw [hf] at h
      cases x with
      | inl s' => exact hb s _ hf (jloop_ok f p q hb n s' o h hq)
      | inr o' => cases h; exact hb s _ hf hq
def jFuel : Nat := 1000000000000
theorem jif_t {c : Prop} [Decidable c] {α : Type} {A B R : α} (hc : c) (h : (if c then A else B) = R) : A = R := by rw [if_pos hc] at h; exact h
theorem jif_f {c : Prop} [Decidable c] {α : Type} {A B R : α} (hc : ¬ c) (h : (if c then A else B) = R) : B = R := by rw [if_neg hc] at h; exact h
def jin (i : Int32) (n : Nat) : Bool := !decide (i < 0) && Nat.blt i.toNatClampNeg n
theorem jin_spec {i : Int32} {n : Nat} (h : jin i n = true) : vp_in i n := by
  simp only [jin, Bool.and_eq_true, Bool.not_eq_true', decide_eq_false_iff_not] at h
  rintro (q | q)
  · exact h.1 q
  · have := Nat.le_of_ble_eq_true h.2
    omega
def jb (x : Int32) : Bool := x == 0 || x == 1
theorem jb_spec {x : Int32} (h : jb x = true) : x = 0 ∨ x = 1 := by
  simpa [jb] using h
theorem jb_nar {x : Int32} (h : jb x = true) : narrow .boolean (.int x) = .int x := by
  rcases jb_spec h with rfl | rfl <;> rfl
theorem jb_nf {x : Int32} (h : jb x = true) : narrow .boolean (.int x) = .int x ∧ fits .boolean (.int x) = true := by
  rcases jb_spec h with rfl | rfl <;> exact ⟨rfl, rfl⟩
theorem jb_vp {x : Int32} (h : jb x = true) : vp_nar .boolean x = x := by
  rcases jb_spec h with rfl | rfl <;> rfl
theorem bne_zero {α : Type} [BEq α] [LawfulBEq α] {x z : α} (h : (x != z) = true) : ¬ x = z := by
  intro e
  subst e
  simp at h
theorem jbr (n : Nat) : Nat.ble n n = true := Nat.ble_eq_true_of_le (Nat.le_refl _)
theorem jble {a b : Nat} (h : a ≤ b) : Nat.ble a b = true := Nat.ble_eq_true_of_le h
theorem jblt {a b : Nat} (h : a < b) : Nat.blt a b = true := Nat.ble_eq_true_of_le h
theorem jsw_out {x : Int32} {lo hi : Int} (hl : lo ≤ hi + 1) (hb : -2147483648 ≤ lo ∧ hi < 2147483648) (h : ∀ q : Int, lo ≤ q → q ≤ hi → x ≠ Int32.ofInt q) : x.toInt < lo ∨ hi < x.toInt := by
  rcases Int.lt_or_le x.toInt lo with a | a
  · exact Or.inl a
  · rcases Int.lt_or_le hi x.toInt with b | b
    · exact Or.inr b
    · exact absurd (Int32.ofInt_toInt x).symm (h x.toInt a b)
theorem jr_nf (ad : Nat → Nat) {C : String} (h : Nat) : narrow (.object C) (jv ad (.ref h)) = jv ad (.ref h) ∧ fits (.object C) (jv ad (.ref h)) = true := by
  show narrow _ (jr ad h) = jr ad h ∧ fits _ (jr ad h) = true
  unfold jr
  split <;> exact ⟨rfl, rfl⟩
section JNM
variable {y : MethodName} {cc : ByteArray} {nL : Nat} {rt : Option FieldType} {d : Nat} {g : Bool} {rv : Option Value} {μ' : jM} {pc : Nat} {lv : List (Nat × Value)} {st : List Value} {μ μ1 : jM}
theorem j_nmi {x e : Int32} (h : x = e) (k : J y cc nL rt d g rv μ' pc lv (.int x :: st) μ) : J y cc nL rt d g rv μ' pc lv (.int e :: st) μ := h ▸ k
theorem j_nml {x e : Int64} (h : x = e) (k : J y cc nL rt d g rv μ' pc lv (.long x :: st) μ) : J y cc nL rt d g rv μ' pc lv (.long e :: st) μ := h ▸ k
theorem j_nmr {x e : Nat} (h : x = e) (k : J y cc nL rt d g rv μ' pc lv (.ref x :: st) μ) : J y cc nL rt d g rv μ' pc lv (.ref e :: st) μ := h ▸ k
theorem j_mem (h : μ1 = μ) (k : J y cc nL rt d g rv μ' pc lv st μ1) : J y cc nL rt d g rv μ' pc lv st μ := h ▸ k
end JNM
def SHX (h : Nat) : Nat × Nat := [(0, 0), (13, 0), (9, 0), (0, 500), (4, 0), (12, 0), (0, 56), (0, 56), (2, 56), (2, 56), (2, 16), (0, 16), (0, 6272), (0, 6272), (0, 6272), (0, 6272), (0, 16), (8, 0), (2, 64), (2, 648), (6, 0), (0, 16), (0, 16), (7, 0), (0, 40), (0, 40), (0, 20), (0, 20), (1, 20), (10, 0), (0, 4), (0, 4), (5, 0), (0, 120), (0, 120), (0, 16), (3, 2), (10, 0), (0, 4), (0, 4), (5, 0), (0, 120), (0, 120), (0, 16), (10, 0), (0, 4), (0, 4), (5, 0), (0, 120), (0, 120), (0, 16), (11, 0), (0, 16), (0, 40), (0, 40), (0, 4), (0, 4), (5, 0), (0, 120), (0, 120), (0, 16), (11, 0), (0, 16), (0, 40), (0, 40), (0, 4), (0, 4), (5, 0), (0, 120), (0, 120), (0, 16)].getD h (0, 0)
def nX : Nat := 70
def wX : Nat := 28368
def rPXT : List (List Nat) := [[], [2, 4, 17, 20, 23, 29, 36], [3], [], [5, 0, 0, 0, 11, 12, 13, 14, 15, 16], [6, 7, 8, 9, 10], [], [], [], [], [], [], [], [], [], [], [], [18, 19], [], [], [0, 0, 0, 21, 22], [], [], [24, 25, 0, 0, 26, 27, 28], [], [], [], [], [], [30, 31, 32], [], [], [33, 34, 35], [], [], [], [37, 44], [38, 39, 40], [], [], [41, 42, 43], [], [], [], [45, 46, 47], [], [], [48, 49, 50], [], [], [], [52, 53, 54, 55, 56, 57], [], [], [], [], [], [58, 59, 60], [], [], [], [62, 63, 64, 65, 66, 67], [], [], [], [], [], [68, 69, 70], [], [], []]
def rPX (h i : Nat) : Nat := (rPXT.getD h []).getD i 0
def PX (t u : Nat) (h i : Nat) : Nat := if h = 1 ∧ i = 7 then t else if h = 1 ∧ i = 8 then u else rPX h i
def eX (σ : jS) : jM := (nX, wX, SHX, σ.1, σ.2.1, PX σ.2.2.1 σ.2.2.2)
theorem eX_T {σ σ1 : jS} {t : Nat} (h : σ1 = sT σ t) : eX σ1 = jsP (eX σ) 1 7 t := by
  subst h
  have e : PX t σ.2.2.2 = ju (PX σ.2.2.1 σ.2.2.2) 1 7 t := by
    funext a b
    simp only [PX, ju]
    split <;> rfl
  show (nX, wX, SHX, σ.1, σ.2.1, PX t σ.2.2.2) = _
  rw [e]
  rfl
theorem eX_U {σ σ1 : jS} {t : Nat} (h : σ1 = sU σ t) : eX σ1 = jsP (eX σ) 1 8 t := by
  subst h
  have e : PX σ.2.2.1 t = ju (PX σ.2.2.1 σ.2.2.2) 1 8 t := by
    funext a b
    simp only [PX, ju]
    split
    · next q => rw [if_neg (by omega)]
    · by_cases q8 : a = 1 ∧ b = 8
      · rw [if_pos q8, if_pos q8]
      · rw [if_neg q8, if_neg q8, if_neg q8]
  show (nX, wX, SHX, σ.1, σ.2.1, PX σ.2.2.1 t) = _
  rw [e]
  rfl
theorem okX_1 (σ : jS) : jok (eX σ) 1 = true := rfl
theorem shX_1 (σ : jS) : jsh (eX σ) 1 = (9 + 4, 0) := rfl
theorem okX_2 (σ : jS) : jok (eX σ) 2 = true := rfl
theorem shX_2 (σ : jS) : jsh (eX σ) 2 = (5 + 4, 0) := rfl
theorem okX_3 (σ : jS) : jok (eX σ) 3 = true := rfl
theorem shX_3 (σ : jS) : jsh (eX σ) 3 = (0, 500) := rfl
theorem okX_4 (σ : jS) : jok (eX σ) 4 = true := rfl
theorem shX_4 (σ : jS) : jsh (eX σ) 4 = (0 + 4, 0) := rfl
theorem okX_5 (σ : jS) : jok (eX σ) 5 = true := rfl
theorem shX_5 (σ : jS) : jsh (eX σ) 5 = (8 + 4, 0) := rfl
theorem okX_6 (σ : jS) : jok (eX σ) 6 = true := rfl
theorem shX_6 (σ : jS) : jsh (eX σ) 6 = (0, 56) := rfl
theorem okX_7 (σ : jS) : jok (eX σ) 7 = true := rfl
theorem shX_7 (σ : jS) : jsh (eX σ) 7 = (0, 56) := rfl
theorem okX_8 (σ : jS) : jok (eX σ) 8 = true := rfl
theorem shX_8 (σ : jS) : jsh (eX σ) 8 = (2, 56) := rfl
theorem okX_9 (σ : jS) : jok (eX σ) 9 = true := rfl
theorem shX_9 (σ : jS) : jsh (eX σ) 9 = (2, 56) := rfl
theorem okX_10 (σ : jS) : jok (eX σ) 10 = true := rfl
theorem shX_10 (σ : jS) : jsh (eX σ) 10 = (2, 16) := rfl
theorem okX_11 (σ : jS) : jok (eX σ) 11 = true := rfl
theorem shX_11 (σ : jS) : jsh (eX σ) 11 = (0, 16) := rfl
theorem okX_12 (σ : jS) : jok (eX σ) 12 = true := rfl
theorem shX_12 (σ : jS) : jsh (eX σ) 12 = (0, 6272) := rfl
theorem okX_13 (σ : jS) : jok (eX σ) 13 = true := rfl
theorem shX_13 (σ : jS) : jsh (eX σ) 13 = (0, 6272) := rfl
theorem okX_14 (σ : jS) : jok (eX σ) 14 = true := rfl
theorem shX_14 (σ : jS) : jsh (eX σ) 14 = (0, 6272) := rfl
theorem okX_15 (σ : jS) : jok (eX σ) 15 = true := rfl
theorem shX_15 (σ : jS) : jsh (eX σ) 15 = (0, 6272) := rfl
theorem okX_16 (σ : jS) : jok (eX σ) 16 = true := rfl
theorem shX_16 (σ : jS) : jsh (eX σ) 16 = (0, 16) := rfl
theorem okX_17 (σ : jS) : jok (eX σ) 17 = true := rfl
theorem shX_17 (σ : jS) : jsh (eX σ) 17 = (4 + 4, 0) := rfl
theorem okX_18 (σ : jS) : jok (eX σ) 18 = true := rfl
theorem shX_18 (σ : jS) : jsh (eX σ) 18 = (2, 64) := rfl
theorem okX_19 (σ : jS) : jok (eX σ) 19 = true := rfl
theorem shX_19 (σ : jS) : jsh (eX σ) 19 = (2, 648) := rfl
theorem okX_20 (σ : jS) : jok (eX σ) 20 = true := rfl
theorem shX_20 (σ : jS) : jsh (eX σ) 20 = (2 + 4, 0) := rfl
theorem okX_21 (σ : jS) : jok (eX σ) 21 = true := rfl
theorem shX_21 (σ : jS) : jsh (eX σ) 21 = (0, 16) := rfl
theorem okX_22 (σ : jS) : jok (eX σ) 22 = true := rfl
theorem shX_22 (σ : jS) : jsh (eX σ) 22 = (0, 16) := rfl
theorem okX_23 (σ : jS) : jok (eX σ) 23 = true := rfl
theorem shX_23 (σ : jS) : jsh (eX σ) 23 = (3 + 4, 0) := rfl
theorem okX_24 (σ : jS) : jok (eX σ) 24 = true := rfl
theorem shX_24 (σ : jS) : jsh (eX σ) 24 = (0, 40) := rfl
theorem okX_25 (σ : jS) : jok (eX σ) 25 = true := rfl
theorem shX_25 (σ : jS) : jsh (eX σ) 25 = (0, 40) := rfl
theorem okX_26 (σ : jS) : jok (eX σ) 26 = true := rfl
theorem shX_26 (σ : jS) : jsh (eX σ) 26 = (0, 20) := rfl
theorem okX_27 (σ : jS) : jok (eX σ) 27 = true := rfl
theorem shX_27 (σ : jS) : jsh (eX σ) 27 = (0, 20) := rfl
theorem okX_28 (σ : jS) : jok (eX σ) 28 = true := rfl
theorem shX_28 (σ : jS) : jsh (eX σ) 28 = (1, 20) := rfl
theorem okX_29 (σ : jS) : jok (eX σ) 29 = true := rfl
theorem shX_29 (σ : jS) : jsh (eX σ) 29 = (6 + 4, 0) := rfl
theorem okX_30 (σ : jS) : jok (eX σ) 30 = true := rfl
theorem shX_30 (σ : jS) : jsh (eX σ) 30 = (0, 4) := rfl
theorem okX_31 (σ : jS) : jok (eX σ) 31 = true := rfl
theorem shX_31 (σ : jS) : jsh (eX σ) 31 = (0, 4) := rfl
theorem okX_32 (σ : jS) : jok (eX σ) 32 = true := rfl
theorem shX_32 (σ : jS) : jsh (eX σ) 32 = (1 + 4, 0) := rfl
theorem okX_33 (σ : jS) : jok (eX σ) 33 = true := rfl
theorem shX_33 (σ : jS) : jsh (eX σ) 33 = (0, 120) := rfl
theorem okX_34 (σ : jS) : jok (eX σ) 34 = true := rfl
theorem shX_34 (σ : jS) : jsh (eX σ) 34 = (0, 120) := rfl
theorem okX_35 (σ : jS) : jok (eX σ) 35 = true := rfl
theorem shX_35 (σ : jS) : jsh (eX σ) 35 = (0, 16) := rfl
theorem okX_36 (σ : jS) : jok (eX σ) 36 = true := rfl
theorem shX_36 (σ : jS) : jsh (eX σ) 36 = (3, 2) := rfl
theorem okX_37 (σ : jS) : jok (eX σ) 37 = true := rfl
theorem shX_37 (σ : jS) : jsh (eX σ) 37 = (6 + 4, 0) := rfl
theorem okX_38 (σ : jS) : jok (eX σ) 38 = true := rfl
theorem shX_38 (σ : jS) : jsh (eX σ) 38 = (0, 4) := rfl
theorem okX_39 (σ : jS) : jok (eX σ) 39 = true := rfl
theorem shX_39 (σ : jS) : jsh (eX σ) 39 = (0, 4) := rfl
theorem okX_40 (σ : jS) : jok (eX σ) 40 = true := rfl
theorem shX_40 (σ : jS) : jsh (eX σ) 40 = (1 + 4, 0) := rfl
theorem okX_41 (σ : jS) : jok (eX σ) 41 = true := rfl
theorem shX_41 (σ : jS) : jsh (eX σ) 41 = (0, 120) := rfl
theorem okX_42 (σ : jS) : jok (eX σ) 42 = true := rfl
theorem shX_42 (σ : jS) : jsh (eX σ) 42 = (0, 120) := rfl
theorem okX_43 (σ : jS) : jok (eX σ) 43 = true := rfl
theorem shX_43 (σ : jS) : jsh (eX σ) 43 = (0, 16) := rfl
theorem okX_44 (σ : jS) : jok (eX σ) 44 = true := rfl
theorem shX_44 (σ : jS) : jsh (eX σ) 44 = (6 + 4, 0) := rfl
theorem okX_45 (σ : jS) : jok (eX σ) 45 = true := rfl
theorem shX_45 (σ : jS) : jsh (eX σ) 45 = (0, 4) := rfl
theorem okX_46 (σ : jS) : jok (eX σ) 46 = true := rfl
theorem shX_46 (σ : jS) : jsh (eX σ) 46 = (0, 4) := rfl
theorem okX_47 (σ : jS) : jok (eX σ) 47 = true := rfl
theorem shX_47 (σ : jS) : jsh (eX σ) 47 = (1 + 4, 0) := rfl
theorem okX_48 (σ : jS) : jok (eX σ) 48 = true := rfl
theorem shX_48 (σ : jS) : jsh (eX σ) 48 = (0, 120) := rfl
theorem okX_49 (σ : jS) : jok (eX σ) 49 = true := rfl
theorem shX_49 (σ : jS) : jsh (eX σ) 49 = (0, 120) := rfl
theorem okX_50 (σ : jS) : jok (eX σ) 50 = true := rfl
theorem shX_50 (σ : jS) : jsh (eX σ) 50 = (0, 16) := rfl
theorem okX_51 (σ : jS) : jok (eX σ) 51 = true := rfl
theorem shX_51 (σ : jS) : jsh (eX σ) 51 = (7 + 4, 0) := rfl
theorem okX_52 (σ : jS) : jok (eX σ) 52 = true := rfl
theorem shX_52 (σ : jS) : jsh (eX σ) 52 = (0, 16) := rfl
theorem okX_53 (σ : jS) : jok (eX σ) 53 = true := rfl
theorem shX_53 (σ : jS) : jsh (eX σ) 53 = (0, 40) := rfl
theorem okX_54 (σ : jS) : jok (eX σ) 54 = true := rfl
theorem shX_54 (σ : jS) : jsh (eX σ) 54 = (0, 40) := rfl
theorem okX_55 (σ : jS) : jok (eX σ) 55 = true := rfl
theorem shX_55 (σ : jS) : jsh (eX σ) 55 = (0, 4) := rfl
theorem okX_56 (σ : jS) : jok (eX σ) 56 = true := rfl
theorem shX_56 (σ : jS) : jsh (eX σ) 56 = (0, 4) := rfl
theorem okX_57 (σ : jS) : jok (eX σ) 57 = true := rfl
theorem shX_57 (σ : jS) : jsh (eX σ) 57 = (1 + 4, 0) := rfl
theorem okX_58 (σ : jS) : jok (eX σ) 58 = true := rfl
theorem shX_58 (σ : jS) : jsh (eX σ) 58 = (0, 120) := rfl
theorem okX_59 (σ : jS) : jok (eX σ) 59 = true := rfl
theorem shX_59 (σ : jS) : jsh (eX σ) 59 = (0, 120) := rfl
theorem okX_60 (σ : jS) : jok (eX σ) 60 = true := rfl
theorem shX_60 (σ : jS) : jsh (eX σ) 60 = (0, 16) := rfl
theorem okX_61 (σ : jS) : jok (eX σ) 61 = true := rfl
theorem shX_61 (σ : jS) : jsh (eX σ) 61 = (7 + 4, 0) := rfl
theorem okX_62 (σ : jS) : jok (eX σ) 62 = true := rfl
theorem shX_62 (σ : jS) : jsh (eX σ) 62 = (0, 16) := rfl
theorem okX_63 (σ : jS) : jok (eX σ) 63 = true := rfl
theorem shX_63 (σ : jS) : jsh (eX σ) 63 = (0, 40) := rfl
theorem okX_64 (σ : jS) : jok (eX σ) 64 = true := rfl
theorem shX_64 (σ : jS) : jsh (eX σ) 64 = (0, 40) := rfl
theorem okX_65 (σ : jS) : jok (eX σ) 65 = true := rfl
theorem shX_65 (σ : jS) : jsh (eX σ) 65 = (0, 4) := rfl
theorem okX_66 (σ : jS) : jok (eX σ) 66 = true := rfl
theorem shX_66 (σ : jS) : jsh (eX σ) 66 = (0, 4) := rfl
theorem okX_67 (σ : jS) : jok (eX σ) 67 = true := rfl
theorem shX_67 (σ : jS) : jsh (eX σ) 67 = (1 + 4, 0) := rfl
theorem okX_68 (σ : jS) : jok (eX σ) 68 = true := rfl
theorem shX_68 (σ : jS) : jsh (eX σ) 68 = (0, 120) := rfl
theorem okX_69 (σ : jS) : jok (eX σ) 69 = true := rfl
theorem shX_69 (σ : jS) : jsh (eX σ) 69 = (0, 120) := rfl
theorem okX_70 (σ : jS) : jok (eX σ) 70 = true := rfl
theorem shX_70 (σ : jS) : jsh (eX σ) 70 = (0, 16) := rfl
def jrwX (k h : Nat) : Bool := Nat.ble 1 h && (Nat.ble h nX && Nat.beq (SHX h).1 k)
theorem jrwX_ok {σ : jS} {k h : Nat} (q : jrwX k h = true) : jok (eX σ) h = true := by
  simp only [jrwX, Bool.and_eq_true] at q
  simp only [jok, Bool.and_eq_true]
  exact ⟨q.1, q.2.1, Nat.ble_eq_true_of_le (by have := Nat.le_of_ble_eq_true q.2.1; show h < 1000000; have e : nX = 70 := rfl; omega)⟩
theorem jrwX_sh {σ : jS} {k h : Nat} (q : jrwX k h = true) : jsh (eX σ) h = (k, (SHX h).2) := by
  simp only [jrwX, Bool.and_eq_true] at q
  have := Nat.eq_of_beq_eq_true q.2.2
  show SHX h = _
  rw [← this]
def SHM (h : Nat) : Nat × Nat := [(0, 0), (14, 0), (0, 16), (0, 40), (0, 40), (0, 16), (0, 120), (0, 4), (0, 4), (0, 4), (0, 4), (0, 500), (0, 16), (0, 40), (0, 40), (0, 120), (0, 4), (0, 4), (0, 147968), (0, 147968), (0, 147968), (0, 147968), (0, 620000), (0, 620000), (0, 147968), (0, 147968), (1, 1600), (0, 147968), (1, 256), (1, 4096), (0, 120000), (0, 120000), (0, 40), (0, 40), (0, 20), (0, 20), (1, 20), (0, 147968), (0, 147968), (0, 147968), (0, 280), (1, 2)].getD h (0, 0)
def nM : Nat := 41
def wM : Nat := 2967097
def rPMT : List (List Nat) := [[], [0, 2, 0, 3, 4, 5, 0, 6, 0, 7, 8, 9, 10, 0, 0, 11, 0, 0, 0, 0, 0, 0, 0, 0, 12, 0, 13, 14, 0, 15, 0, 16, 17, 0, 0, 0, 0, 18, 19, 0, 20, 21, 22, 23, 0, 24, 25, 26, 27, 28, 0, 0, 29, 30, 31, 0, 0, 32, 33, 0, 34, 35, 36, 0, 37, 38, 0, 39, 0, 40, 41], [], [], [], [], [], [], [], [], [], [], [], [], [], [], [], [], [], [], [], [], [], [], [], [], [], [], [], [], [], [], [], [], [], [], [], [], [], [], [], []]
def rPM (h i : Nat) : Nat := (rPMT.getD h []).getD i 0
def eM (σ : jS) : jM := (nM, wM, SHM, σ.1, σ.2.1, rPM)
theorem okM_1 (σ : jS) : jok (eM σ) 1 = true := rfl
theorem shM_1 (σ : jS) : jsh (eM σ) 1 = (10 + 4, 0) := rfl
theorem okM_2 (σ : jS) : jok (eM σ) 2 = true := rfl
theorem shM_2 (σ : jS) : jsh (eM σ) 2 = (0, 16) := rfl
theorem okM_3 (σ : jS) : jok (eM σ) 3 = true := rfl
theorem shM_3 (σ : jS) : jsh (eM σ) 3 = (0, 40) := rfl
theorem okM_4 (σ : jS) : jok (eM σ) 4 = true := rfl
theorem shM_4 (σ : jS) : jsh (eM σ) 4 = (0, 40) := rfl
theorem okM_5 (σ : jS) : jok (eM σ) 5 = true := rfl
theorem shM_5 (σ : jS) : jsh (eM σ) 5 = (0, 16) := rfl
theorem okM_6 (σ : jS) : jok (eM σ) 6 = true := rfl
theorem shM_6 (σ : jS) : jsh (eM σ) 6 = (0, 120) := rfl
theorem okM_7 (σ : jS) : jok (eM σ) 7 = true := rfl
theorem shM_7 (σ : jS) : jsh (eM σ) 7 = (0, 4) := rfl
theorem okM_8 (σ : jS) : jok (eM σ) 8 = true := rfl
theorem shM_8 (σ : jS) : jsh (eM σ) 8 = (0, 4) := rfl
theorem okM_9 (σ : jS) : jok (eM σ) 9 = true := rfl
theorem shM_9 (σ : jS) : jsh (eM σ) 9 = (0, 4) := rfl
theorem okM_10 (σ : jS) : jok (eM σ) 10 = true := rfl
theorem shM_10 (σ : jS) : jsh (eM σ) 10 = (0, 4) := rfl
theorem okM_11 (σ : jS) : jok (eM σ) 11 = true := rfl
theorem shM_11 (σ : jS) : jsh (eM σ) 11 = (0, 500) := rfl
theorem okM_12 (σ : jS) : jok (eM σ) 12 = true := rfl
theorem shM_12 (σ : jS) : jsh (eM σ) 12 = (0, 16) := rfl
theorem okM_13 (σ : jS) : jok (eM σ) 13 = true := rfl
theorem shM_13 (σ : jS) : jsh (eM σ) 13 = (0, 40) := rfl
theorem okM_14 (σ : jS) : jok (eM σ) 14 = true := rfl
theorem shM_14 (σ : jS) : jsh (eM σ) 14 = (0, 40) := rfl
theorem okM_15 (σ : jS) : jok (eM σ) 15 = true := rfl
theorem shM_15 (σ : jS) : jsh (eM σ) 15 = (0, 120) := rfl
theorem okM_16 (σ : jS) : jok (eM σ) 16 = true := rfl
theorem shM_16 (σ : jS) : jsh (eM σ) 16 = (0, 4) := rfl
theorem okM_17 (σ : jS) : jok (eM σ) 17 = true := rfl
theorem shM_17 (σ : jS) : jsh (eM σ) 17 = (0, 4) := rfl
theorem okM_18 (σ : jS) : jok (eM σ) 18 = true := rfl
theorem shM_18 (σ : jS) : jsh (eM σ) 18 = (0, 147968) := rfl
theorem okM_19 (σ : jS) : jok (eM σ) 19 = true := rfl
theorem shM_19 (σ : jS) : jsh (eM σ) 19 = (0, 147968) := rfl
theorem okM_20 (σ : jS) : jok (eM σ) 20 = true := rfl
theorem shM_20 (σ : jS) : jsh (eM σ) 20 = (0, 147968) := rfl
theorem okM_21 (σ : jS) : jok (eM σ) 21 = true := rfl
theorem shM_21 (σ : jS) : jsh (eM σ) 21 = (0, 147968) := rfl
theorem okM_22 (σ : jS) : jok (eM σ) 22 = true := rfl
theorem shM_22 (σ : jS) : jsh (eM σ) 22 = (0, 620000) := rfl
theorem okM_23 (σ : jS) : jok (eM σ) 23 = true := rfl
theorem shM_23 (σ : jS) : jsh (eM σ) 23 = (0, 620000) := rfl
theorem okM_24 (σ : jS) : jok (eM σ) 24 = true := rfl
theorem shM_24 (σ : jS) : jsh (eM σ) 24 = (0, 147968) := rfl
theorem okM_25 (σ : jS) : jok (eM σ) 25 = true := rfl
theorem shM_25 (σ : jS) : jsh (eM σ) 25 = (0, 147968) := rfl
theorem okM_26 (σ : jS) : jok (eM σ) 26 = true := rfl
theorem shM_26 (σ : jS) : jsh (eM σ) 26 = (1, 1600) := rfl
theorem okM_27 (σ : jS) : jok (eM σ) 27 = true := rfl
theorem shM_27 (σ : jS) : jsh (eM σ) 27 = (0, 147968) := rfl
theorem okM_28 (σ : jS) : jok (eM σ) 28 = true := rfl
theorem shM_28 (σ : jS) : jsh (eM σ) 28 = (1, 256) := rfl
theorem okM_29 (σ : jS) : jok (eM σ) 29 = true := rfl
theorem shM_29 (σ : jS) : jsh (eM σ) 29 = (1, 4096) := rfl
theorem okM_30 (σ : jS) : jok (eM σ) 30 = true := rfl
theorem shM_30 (σ : jS) : jsh (eM σ) 30 = (0, 120000) := rfl
theorem okM_31 (σ : jS) : jok (eM σ) 31 = true := rfl
theorem shM_31 (σ : jS) : jsh (eM σ) 31 = (0, 120000) := rfl
theorem okM_32 (σ : jS) : jok (eM σ) 32 = true := rfl
theorem shM_32 (σ : jS) : jsh (eM σ) 32 = (0, 40) := rfl
theorem okM_33 (σ : jS) : jok (eM σ) 33 = true := rfl
theorem shM_33 (σ : jS) : jsh (eM σ) 33 = (0, 40) := rfl
theorem okM_34 (σ : jS) : jok (eM σ) 34 = true := rfl
theorem shM_34 (σ : jS) : jsh (eM σ) 34 = (0, 20) := rfl
theorem okM_35 (σ : jS) : jok (eM σ) 35 = true := rfl
theorem shM_35 (σ : jS) : jsh (eM σ) 35 = (0, 20) := rfl
theorem okM_36 (σ : jS) : jok (eM σ) 36 = true := rfl
theorem shM_36 (σ : jS) : jsh (eM σ) 36 = (1, 20) := rfl
theorem okM_37 (σ : jS) : jok (eM σ) 37 = true := rfl
theorem shM_37 (σ : jS) : jsh (eM σ) 37 = (0, 147968) := rfl
theorem okM_38 (σ : jS) : jok (eM σ) 38 = true := rfl
theorem shM_38 (σ : jS) : jsh (eM σ) 38 = (0, 147968) := rfl
theorem okM_39 (σ : jS) : jok (eM σ) 39 = true := rfl
theorem shM_39 (σ : jS) : jsh (eM σ) 39 = (0, 147968) := rfl
theorem okM_40 (σ : jS) : jok (eM σ) 40 = true := rfl
theorem shM_40 (σ : jS) : jsh (eM σ) 40 = (0, 280) := rfl
theorem okM_41 (σ : jS) : jok (eM σ) 41 = true := rfl
theorem shM_41 (σ : jS) : jsh (eM σ) 41 = (1, 2) := rfl
def jrwM (k h : Nat) : Bool := Nat.ble 1 h && (Nat.ble h nM && Nat.beq (SHM h).1 k)
theorem jrwM_ok {σ : jS} {k h : Nat} (q : jrwM k h = true) : jok (eM σ) h = true := by
  simp only [jrwM, Bool.and_eq_true] at q
  simp only [jok, Bool.and_eq_true]
  exact ⟨q.1, q.2.1, Nat.ble_eq_true_of_le (by have := Nat.le_of_ble_eq_true q.2.1; show h < 1000000; have e : nM = 41 := rfl; omega)⟩
theorem jrwM_sh {σ : jS} {k h : Nat} (q : jrwM k h = true) : jsh (eM σ) h = (k, (SHM h).2) := by
  simp only [jrwM, Bool.and_eq_true] at q
  have := Nat.eq_of_beq_eq_true q.2.2
  show SHM h = _
  rw [← this]
theorem jC_0 : jC 0 RX0 TX0 12 := ⟨rfl, kw_X0, tyX0_ok, nmX0, kd_X0, rfl⟩
theorem jC_1 : jC 1 RX1 TX1 4 := ⟨rfl, kw_X1, tyX1_ok, nmX1, kd_X1, rfl⟩
theorem jC_2 : jC 2 RX2 TX2 5 := ⟨rfl, kw_X2, tyX2_ok, nmX2, kd_X2, rfl⟩
theorem jC_3 : jC 3 RX3 TX3 7 := ⟨rfl, kw_X3, tyX3_ok, nmX3, kd_X3, rfl⟩
theorem jC_4 : jC 4 RX4 TX4 6 := ⟨rfl, kw_X4, tyX4_ok, nmX4, kd_X4, rfl⟩
theorem jC_5 : jC 5 RX5 TX5 5 := ⟨rfl, kw_X5, tyX5_ok, nmX5, kd_X5, rfl⟩
theorem jC_6 : jC 6 RX7 TX7 7 := ⟨rfl, kw_X7, tyX7_ok, nmX7, kd_X7, rfl⟩
theorem jC_7 : jC 7 RX8 TX8 9 := ⟨rfl, kw_X8, tyX8_ok, nmX8, kd_X8, rfl⟩
theorem jC_8 : jC 8 RX9 TX9 6 := ⟨rfl, kw_X9, tyX9_ok, nmX9, kd_X9, rfl⟩
theorem jC_9 : jC 9 RX10 TX10 10 := ⟨rfl, kw_X10, tyX10_ok, nmX10, kd_X10, rfl⟩
theorem jC_10 : jC 10 RX11 TX11 71 := ⟨rfl, kw_X11, tyX11_ok, nmX11, kd_X11, rfl⟩
theorem jy_X10_init : jY yX10_init cX10_init 1 none 0 := ⟨kc_yX10_init, kz_RX10, ⟨by decide +kernel, by decide +kernel, by decide +kernel⟩, by decide⟩
theorem jy_X5_init : jY yX5_init cX5_init 1 none 0 := ⟨kc_yX5_init, kz_RX5, ⟨by decide +kernel, by decide +kernel, by decide +kernel⟩, by decide⟩
theorem jy_X0_init : jY yX0_init cX0_init 1 none 0 := ⟨kc_yX0_init, kz_RX0, ⟨by decide +kernel, by decide +kernel, by decide +kernel⟩, by decide⟩
theorem jy_X9_init : jY yX9_init cX9_init 1 none 0 := ⟨kc_yX9_init, kz_RX9, ⟨by decide +kernel, by decide +kernel, by decide +kernel⟩, by decide⟩
theorem jy_X4_init : jY yX4_init cX4_init 1 none 0 := ⟨kc_yX4_init, kz_RX4, ⟨by decide +kernel, by decide +kernel, by decide +kernel⟩, by decide⟩
theorem jy_X2_init : jY yX2_init cX2_init 1 none 0 := ⟨kc_yX2_init, kz_RX2, ⟨by decide +kernel, by decide +kernel, by decide +kernel⟩, by decide⟩
theorem jy_X3_init : jY yX3_init cX3_init 1 none 0 := ⟨kc_yX3_init, kz_RX3, ⟨by decide +kernel, by decide +kernel, by decide +kernel⟩, by decide⟩
theorem jy_X7_init : jY yX7_init cX7_init 1 none 0 := ⟨kc_yX7_init, kz_RX7, ⟨by decide +kernel, by decide +kernel, by decide +kernel⟩, by decide⟩
theorem jy_X1_init : jY yX1_init cX1_init 1 none 0 := ⟨kc_yX1_init, kz_RX1, ⟨by decide +kernel, by decide +kernel, by decide +kernel⟩, by decide⟩
theorem jy_X8_init : jY yX8_init cX8_init 1 none 0 := ⟨kc_yX8_init, kz_RX8, ⟨by decide +kernel, by decide +kernel, by decide +kernel⟩, by decide⟩
theorem jy_X10_feed : jY yX10_feed cX10_feed 5 (some .int) 2 := ⟨kc_yX10_feed, kz_RX10, ⟨by decide +kernel, by decide +kernel, by decide +kernel⟩, by decide⟩
theorem jy_X5_append : jY yX5_append cX5_append 2 none 1 := ⟨kc_yX5_append, kz_RX5, ⟨by decide +kernel, by decide +kernel, by decide +kernel⟩, by decide⟩
theorem jy_X6_put : jY yX6_put cX6_put 3 none 3 := ⟨kc_yX6_put, kz_RX6, ⟨by decide +kernel, by decide +kernel, by decide +kernel⟩, by decide⟩
theorem jy_X10_town : jY yX10_town cX10_town 5 (some .int) 0 := ⟨kc_yX10_town, kz_RX10, ⟨by decide +kernel, by decide +kernel, by decide +kernel⟩, by decide⟩
theorem jy_X5_read : jY yX5_read cX5_read 3 (some .int) 1 := ⟨kc_yX5_read, kz_RX5, ⟨by decide +kernel, by decide +kernel, by decide +kernel⟩, by decide⟩
theorem jy_X8_empty : jY yX8_empty cX8_empty 1 none 0 := ⟨kc_yX8_empty, kz_RX8, ⟨by decide +kernel, by decide +kernel, by decide +kernel⟩, by decide⟩
theorem jy_X1_empty : jY yX1_empty cX1_empty 1 none 0 := ⟨kc_yX1_empty, kz_RX1, ⟨by decide +kernel, by decide +kernel, by decide +kernel⟩, by decide⟩
theorem jy_X6_fill : jY yX6_fill cX6_fill 3 none 2 := ⟨kc_yX6_fill, kz_RX6, ⟨by decide +kernel, by decide +kernel, by decide +kernel⟩, by decide⟩
theorem jy_X5_skipBlanks : jY yX5_skipBlanks cX5_skipBlanks 2 none 0 := ⟨kc_yX5_skipBlanks, kz_RX5, ⟨by decide +kernel, by decide +kernel, by decide +kernel⟩, by decide⟩
theorem jy_X5_sign : jY yX5_sign cX5_sign 2 (some .int) 1 := ⟨kc_yX5_sign, kz_RX5, ⟨by decide +kernel, by decide +kernel, by decide +kernel⟩, by decide⟩
theorem jy_X6_at : jY yX6_at cX6_at 2 (some .int) 2 := ⟨kc_yX6_at, kz_RX6, ⟨by decide +kernel, by decide +kernel, by decide +kernel⟩, by decide⟩
theorem jy_X5_readClause : jY yX5_readClause cX5_readClause 5 none 1 := ⟨kc_yX5_readClause, kz_RX5, ⟨by decide +kernel, by decide +kernel, by decide +kernel⟩, by decide⟩
theorem jy_X5_readWord : jY yX5_readWord cX5_readWord 3 (some .int) 0 := ⟨kc_yX5_readWord, kz_RX5, ⟨by decide +kernel, by decide +kernel, by decide +kernel⟩, by decide⟩
theorem jy_X5_isLetter : jY yX5_isLetter cX5_isLetter 1 (some .boolean) 1 := ⟨kc_yX5_isLetter, kz_RX5, ⟨by decide +kernel, by decide +kernel, by decide +kernel⟩, by decide⟩
theorem jy_X5_spelling : jY yX5_spelling cX5_spelling 1 (some (.object "java/lang/String")) 1 := ⟨kc_yX5_spelling, kz_RX5, ⟨by decide +kernel, by decide +kernel, by decide +kernel⟩, by decide⟩
theorem jy_X5_isSpelled : jY yX5_isSpelled cX5_isSpelled 5 (some .boolean) 3 := ⟨kc_yX5_isSpelled, kz_RX5, ⟨by decide +kernel, by decide +kernel, by decide +kernel⟩, by decide⟩
theorem jy_X5_fail : jY yX5_fail cX5_fail 3 none 2 := ⟨kc_yX5_fail, kz_RX5, ⟨by decide +kernel, by decide +kernel, by decide +kernel⟩, by decide⟩
theorem jy_X8_isFullFor : jY yX8_isFullFor cX8_isFullFor 2 (some .boolean) 1 := ⟨kc_yX8_isFullFor, kz_RX8, ⟨by decide +kernel, by decide +kernel, by decide +kernel⟩, by decide⟩
theorem jy_X5_readNumber : jY yX5_readNumber cX5_readNumber 5 (some .int) 1 := ⟨kc_yX5_readNumber, kz_RX5, ⟨by decide +kernel, by decide +kernel, by decide +kernel⟩, by decide⟩
theorem jy_X5_isFigure : jY yX5_isFigure cX5_isFigure 1 (some .boolean) 1 := ⟨kc_yX5_isFigure, kz_RX5, ⟨by decide +kernel, by decide +kernel, by decide +kernel⟩, by decide⟩
theorem jy_X5_readClosing : jY yX5_readClosing cX5_readClosing 1 none 0 := ⟨kc_yX5_readClosing, kz_RX5, ⟨by decide +kernel, by decide +kernel, by decide +kernel⟩, by decide⟩
theorem jy_X8_addPerson : jY yX8_addPerson cX8_addPerson 2 none 1 := ⟨kc_yX8_addPerson, kz_RX8, ⟨by decide +kernel, by decide +kernel, by decide +kernel⟩, by decide⟩
theorem jy_X5_readPair : jY yX5_readPair cX5_readPair 6 none 2 := ⟨kc_yX5_readPair, kz_RX5, ⟨by decide +kernel, by decide +kernel, by decide +kernel⟩, by decide⟩
theorem jy_X8_isToldAlready : jY yX8_isToldAlready cX8_isToldAlready 4 (some .boolean) 3 := ⟨kc_yX8_isToldAlready, kz_RX8, ⟨by decide +kernel, by decide +kernel, by decide +kernel⟩, by decide⟩
theorem jy_X1_has : jY yX1_has cX1_has 3 (some .boolean) 2 := ⟨kc_yX1_has, kz_RX1, ⟨by decide +kernel, by decide +kernel, by decide +kernel⟩, by decide⟩
theorem jy_X8_debtorsOf : jY yX8_debtorsOf cX8_debtorsOf 4 (some .int) 1 := ⟨kc_yX8_debtorsOf, kz_RX8, ⟨by decide +kernel, by decide +kernel, by decide +kernel⟩, by decide⟩
theorem jy_X8_addPair : jY yX8_addPair cX8_addPair 4 none 3 := ⟨kc_yX8_addPair, kz_RX8, ⟨by decide +kernel, by decide +kernel, by decide +kernel⟩, by decide⟩
theorem jy_X1_add : jY yX1_add cX1_add 3 none 2 := ⟨kc_yX1_add, kz_RX1, ⟨by decide +kernel, by decide +kernel, by decide +kernel⟩, by decide⟩
theorem jy_X1_toggle : jY yX1_toggle cX1_toggle 3 none 3 := ⟨kc_yX1_toggle, kz_RX1, ⟨by decide +kernel, by decide +kernel, by decide +kernel⟩, by decide⟩
theorem jy_X1_take : jY yX1_take cX1_take 2 none 1 := ⟨kc_yX1_take, kz_RX1, ⟨by decide +kernel, by decide +kernel, by decide +kernel⟩, by decide⟩
theorem jy_X6_copy : jY yX6_copy cX6_copy 4 none 3 := ⟨kc_yX6_copy, kz_RX6, ⟨by decide +kernel, by decide +kernel, by decide +kernel⟩, by decide⟩
theorem jy_X10_toldHow : jY yX10_toldHow cX10_toldHow 2 (some .int) 1 := ⟨kc_yX10_toldHow, kz_RX10, ⟨by decide +kernel, by decide +kernel, by decide +kernel⟩, by decide⟩
theorem jy_X0_state : jY yX0_state cX0_state 3 (some .int) 3 := ⟨kc_yX0_state, kz_RX0, ⟨by decide +kernel, by decide +kernel, by decide +kernel⟩, by decide⟩
theorem jy_X3_empty : jY yX3_empty cX3_empty 1 none 0 := ⟨kc_yX3_empty, kz_RX3, ⟨by decide +kernel, by decide +kernel, by decide +kernel⟩, by decide⟩
theorem jy_X10_imageAt : jY yX10_imageAt cX10_imageAt 2 (some (.object "DeputyQuarrels$Standing")) 1 := ⟨kc_yX10_imageAt, kz_RX10, ⟨by decide +kernel, by decide +kernel, by decide +kernel⟩, by decide⟩
theorem jy_X10_settle : jY yX10_settle cX10_settle 1 none 0 := ⟨kc_yX10_settle, kz_RX10, ⟨by decide +kernel, by decide +kernel, by decide +kernel⟩, by decide⟩
theorem jy_X9_build : jY yX9_build cX9_build 6 none 3 := ⟨kc_yX9_build, kz_RX9, ⟨by decide +kernel, by decide +kernel, by decide +kernel⟩, by decide⟩
theorem jy_X6_fill_ : jY yX6_fill_ cX6_fill_ 4 none 2 := ⟨kc_yX6_fill_, kz_RX6, ⟨by decide +kernel, by decide +kernel, by decide +kernel⟩, by decide⟩
theorem jy_X9_setSpot : jY yX9_setSpot cX9_setSpot 4 none 3 := ⟨kc_yX9_setSpot, kz_RX9, ⟨by decide +kernel, by decide +kernel, by decide +kernel⟩, by decide⟩
theorem jy_X6_at_ : jY yX6_at_ cX6_at_ 2 (some .long) 2 := ⟨kc_yX6_at_, kz_RX6, ⟨by decide +kernel, by decide +kernel, by decide +kernel⟩, by decide⟩
theorem jy_X6_put_ : jY yX6_put_ cX6_put_ 4 none 3 := ⟨kc_yX6_put_, kz_RX6, ⟨by decide +kernel, by decide +kernel, by decide +kernel⟩, by decide⟩
theorem jy_X9_isAllowed : jY yX9_isAllowed cX9_isAllowed 3 (some .boolean) 3 := ⟨kc_yX9_isAllowed, kz_RX9, ⟨by decide +kernel, by decide +kernel, by decide +kernel⟩, by decide⟩
theorem jy_X9_join : jY yX9_join cX9_join 7 none 1 := ⟨kc_yX9_join, kz_RX9, ⟨by decide +kernel, by decide +kernel, by decide +kernel⟩, by decide⟩
theorem jy_X9_byTurn : jY yX9_byTurn cX9_byTurn 2 (some .int) 1 := ⟨kc_yX9_byTurn, kz_RX9, ⟨by decide +kernel, by decide +kernel, by decide +kernel⟩, by decide⟩
theorem jy_X0_takeFoes : jY yX0_takeFoes cX0_takeFoes 2 none 1 := ⟨kc_yX0_takeFoes, kz_RX0, ⟨by decide +kernel, by decide +kernel, by decide +kernel⟩, by decide⟩
theorem jy_X10_fault : jY yX10_fault cX10_fault 1 (some .int) 0 := ⟨kc_yX10_fault, kz_RX10, ⟨by decide +kernel, by decide +kernel, by decide +kernel⟩, by decide⟩
theorem jy_X10_count : jY yX10_count cX10_count 2 (some .int) 1 := ⟨kc_yX10_count, kz_RX10, ⟨by decide +kernel, by decide +kernel, by decide +kernel⟩, by decide⟩
theorem jy_X10_person : jY yX10_person cX10_person 3 (some .int) 2 := ⟨kc_yX10_person, kz_RX10, ⟨by decide +kernel, by decide +kernel, by decide +kernel⟩, by decide⟩
theorem jy_X10_isPerson : jY yX10_isPerson cX10_isPerson 2 (some .boolean) 1 := ⟨kc_yX10_isPerson, kz_RX10, ⟨by decide +kernel, by decide +kernel, by decide +kernel⟩, by decide⟩
theorem jy_X8_creditorsOf : jY yX8_creditorsOf cX8_creditorsOf 4 (some .int) 1 := ⟨kc_yX8_creditorsOf, kz_RX8, ⟨by decide +kernel, by decide +kernel, by decide +kernel⟩, by decide⟩
theorem jy_X10_turn : jY yX10_turn cX10_turn 3 (some .int) 2 := ⟨kc_yX10_turn, kz_RX10, ⟨by decide +kernel, by decide +kernel, by decide +kernel⟩, by decide⟩
theorem jy_X10_isTurn : jY yX10_isTurn cX10_isTurn 2 (some .boolean) 1 := ⟨kc_yX10_isTurn, kz_RX10, ⟨by decide +kernel, by decide +kernel, by decide +kernel⟩, by decide⟩
theorem jy_X10_grudge : jY yX10_grudge cX10_grudge 2 (some .int) 1 := ⟨kc_yX10_grudge, kz_RX10, ⟨by decide +kernel, by decide +kernel, by decide +kernel⟩, by decide⟩
theorem jy_X10_law : jY yX10_law cX10_law 4 (some .int) 2 := ⟨kc_yX10_law, kz_RX10, ⟨by decide +kernel, by decide +kernel, by decide +kernel⟩, by decide⟩
theorem jy_X10_forgetFromWhom : jY yX10_forgetFromWhom cX10_forgetFromWhom 3 none 0 := ⟨kc_yX10_forgetFromWhom, kz_RX10, ⟨by decide +kernel, by decide +kernel, by decide +kernel⟩, by decide⟩
theorem jy_X0_holder : jY yX0_holder cX0_holder 3 (some .int) 2 := ⟨kc_yX0_holder, kz_RX0, ⟨by decide +kernel, by decide +kernel, by decide +kernel⟩, by decide⟩
theorem jy_X0_spot : jY yX0_spot cX0_spot 2 (some .int) 2 := ⟨kc_yX0_spot, kz_RX0, ⟨by decide +kernel, by decide +kernel, by decide +kernel⟩, by decide⟩
theorem jy_X10_bear : jY yX10_bear cX10_bear 4 (some .int) 3 := ⟨kc_yX10_bear, kz_RX10, ⟨by decide +kernel, by decide +kernel, by decide +kernel⟩, by decide⟩
theorem jy_X1_drop : jY yX1_drop cX1_drop 6 none 2 := ⟨kc_yX1_drop, kz_RX1, ⟨by decide +kernel, by decide +kernel, by decide +kernel⟩, by decide⟩
theorem jy_X10_quarrel : jY yX10_quarrel cX10_quarrel 4 (some .int) 2 := ⟨kc_yX10_quarrel, kz_RX10, ⟨by decide +kernel, by decide +kernel, by decide +kernel⟩, by decide⟩
theorem jy_X10_isQuarrel : jY yX10_isQuarrel cX10_isQuarrel 2 (some .boolean) 1 := ⟨kc_yX10_isQuarrel, kz_RX10, ⟨by decide +kernel, by decide +kernel, by decide +kernel⟩, by decide⟩
theorem jy_X0_fromWhom : jY yX0_fromWhom cX0_fromWhom 4 (some .int) 2 := ⟨kc_yX0_fromWhom, kz_RX0, ⟨by decide +kernel, by decide +kernel, by decide +kernel⟩, by decide⟩
theorem jy_X0_howIs : jY yX0_howIs cX0_howIs 2 (some .int) 1 := ⟨kc_yX0_howIs, kz_RX0, ⟨by decide +kernel, by decide +kernel, by decide +kernel⟩, by decide⟩
theorem jy_X0_isEnded : jY yX0_isEnded cX0_isEnded 4 (some .boolean) 1 := ⟨kc_yX0_isEnded, kz_RX0, ⟨by decide +kernel, by decide +kernel, by decide +kernel⟩, by decide⟩
theorem jy_X0_onwardOf : jY yX0_onwardOf cX0_onwardOf 4 (some .long) 1 := ⟨kc_yX0_onwardOf, kz_RX0, ⟨by decide +kernel, by decide +kernel, by decide +kernel⟩, by decide⟩
theorem jy_X10_may : jY yX10_may cX10_may 2 (some .int) 1 := ⟨kc_yX10_may, kz_RX10, ⟨by decide +kernel, by decide +kernel, by decide +kernel⟩, by decide⟩
theorem jy_X0_allowed : jY yX0_allowed cX0_allowed 6 (some .int) 1 := ⟨kc_yX0_allowed, kz_RX0, ⟨by decide +kernel, by decide +kernel, by decide +kernel⟩, by decide⟩
theorem jy_J13_bitCount_95d88 : jY yJ13_bitCount_95d88 cJ13_bitCount_95d88 2 (some .int) 1 := ⟨kc_yJ13_bitCount_95d88, kz_RJ13, ⟨by decide +kernel, by decide +kernel, by decide +kernel⟩, by decide⟩
theorem jy_X6_lowest : jY yX6_lowest cX6_lowest 2 (some .int) 1 := ⟨kc_yX6_lowest, kz_RX6, ⟨by decide +kernel, by decide +kernel, by decide +kernel⟩, by decide⟩
theorem jy_X10_hand : jY yX10_hand cX10_hand 4 (some .int) 2 := ⟨kc_yX10_hand, kz_RX10, ⟨by decide +kernel, by decide +kernel, by decide +kernel⟩, by decide⟩
theorem jy_X10_handByDraw : jY yX10_handByDraw cX10_handByDraw 5 (some .int) 1 := ⟨kc_yX10_handByDraw, kz_RX10, ⟨by decide +kernel, by decide +kernel, by decide +kernel⟩, by decide⟩
theorem jy_X10_setHow : jY yX10_setHow cX10_setHow 3 none 2 := ⟨kc_yX10_setHow, kz_RX10, ⟨by decide +kernel, by decide +kernel, by decide +kernel⟩, by decide⟩
theorem jy_J6_bitCount_0f7a4 : jY yJ6_bitCount_0f7a4 cJ6_bitCount_0f7a4 1 (some .int) 1 := ⟨kc_yJ6_bitCount_0f7a4, kz_RJ6, ⟨by decide +kernel, by decide +kernel, by decide +kernel⟩, by decide⟩
theorem jy_X10_draw : jY yX10_draw cX10_draw 2 (some .int) 1 := ⟨kc_yX10_draw, kz_RX10, ⟨by decide +kernel, by decide +kernel, by decide +kernel⟩, by decide⟩
theorem jy_X6_numbered : jY yX6_numbered cX6_numbered 4 (some .int) 2 := ⟨kc_yX6_numbered, kz_RX6, ⟨by decide +kernel, by decide +kernel, by decide +kernel⟩, by decide⟩
theorem jy_X10_handTo : jY yX10_handTo cX10_handTo 4 none 2 := ⟨kc_yX10_handTo, kz_RX10, ⟨by decide +kernel, by decide +kernel, by decide +kernel⟩, by decide⟩
theorem jy_X0_spotFor : jY yX0_spotFor cX0_spotFor 3 (some .int) 2 := ⟨kc_yX0_spotFor, kz_RX0, ⟨by decide +kernel, by decide +kernel, by decide +kernel⟩, by decide⟩
theorem jy_X0_after : jY yX0_after cX0_after 3 (some .int) 2 := ⟨kc_yX0_after, kz_RX0, ⟨by decide +kernel, by decide +kernel, by decide +kernel⟩, by decide⟩
theorem jy_X10_begin : jY yX10_begin cX10_begin 3 (some .int) 1 := ⟨kc_yX10_begin, kz_RX10, ⟨by decide +kernel, by decide +kernel, by decide +kernel⟩, by decide⟩
theorem jy_X10_drift : jY yX10_drift cX10_drift 4 (some .int) 2 := ⟨kc_yX10_drift, kz_RX10, ⟨by decide +kernel, by decide +kernel, by decide +kernel⟩, by decide⟩
theorem jy_X10_comes : jY yX10_comes cX10_comes 3 (some .int) 2 := ⟨kc_yX10_comes, kz_RX10, ⟨by decide +kernel, by decide +kernel, by decide +kernel⟩, by decide⟩
theorem jy_X0_solve : jY yX0_solve cX0_solve 5 (some .int) 3 := ⟨kc_yX0_solve, kz_RX0, ⟨by decide +kernel, by decide +kernel, by decide +kernel⟩, by decide⟩
theorem jy_X0_forget : jY yX0_forget cX0_forget 2 none 0 := ⟨kc_yX0_forget, kz_RX0, ⟨by decide +kernel, by decide +kernel, by decide +kernel⟩, by decide⟩
theorem jy_X0_comeTo : jY yX0_comeTo cX0_comeTo 2 none 1 := ⟨kc_yX0_comeTo, kz_RX0, ⟨by decide +kernel, by decide +kernel, by decide +kernel⟩, by decide⟩
theorem jy_X0_spread : jY yX0_spread cX0_spread 7 none 2 := ⟨kc_yX0_spread, kz_RX0, ⟨by decide +kernel, by decide +kernel, by decide +kernel⟩, by decide⟩
theorem jy_J9_max_7cf53 : jY yJ9_max_7cf53 cJ9_max_7cf53 2 (some .int) 2 := ⟨kc_yJ9_max_7cf53, kz_RJ9, ⟨by decide +kernel, by decide +kernel, by decide +kernel⟩, by decide⟩
theorem jy_X0_settle : jY yX0_settle cX0_settle 3 none 2 := ⟨kc_yX0_settle, kz_RX0, ⟨by decide +kernel, by decide +kernel, by decide +kernel⟩, by decide⟩
theorem jy_X0_lookBack : jY yX0_lookBack cX0_lookBack 10 none 2 := ⟨kc_yX0_lookBack, kz_RX0, ⟨by decide +kernel, by decide +kernel, by decide +kernel⟩, by decide⟩
theorem jy_X0_solveOneWay : jY yX0_solveOneWay cX0_solveOneWay 5 none 3 := ⟨kc_yX0_solveOneWay, kz_RX0, ⟨by decide +kernel, by decide +kernel, by decide +kernel⟩, by decide⟩
theorem jy_X0_neededAt : jY yX0_neededAt cX0_neededAt 2 (some .int) 1 := ⟨kc_yX0_neededAt, kz_RX0, ⟨by decide +kernel, by decide +kernel, by decide +kernel⟩, by decide⟩
theorem jy_X0_endsFound : jY yX0_endsFound cX0_endsFound 3 (some .int) 0 := ⟨kc_yX0_endsFound, kz_RX0, ⟨by decide +kernel, by decide +kernel, by decide +kernel⟩, by decide⟩
theorem jy_X0_holdersFound : jY yX0_holdersFound cX0_holdersFound 3 (some .int) 0 := ⟨kc_yX0_holdersFound, kz_RX0, ⟨by decide +kernel, by decide +kernel, by decide +kernel⟩, by decide⟩
theorem jy_X0_holders : jY yX0_holders cX0_holders 2 (some .int) 1 := ⟨kc_yX0_holders, kz_RX0, ⟨by decide +kernel, by decide +kernel, by decide +kernel⟩, by decide⟩
theorem jy_X10_end : jY yX10_end cX10_end 3 (some .int) 2 := ⟨kc_yX10_end, kz_RX10, ⟨by decide +kernel, by decide +kernel, by decide +kernel⟩, by decide⟩
theorem jy_X0_endAt : jY yX0_endAt cX0_endAt 6 (some .int) 1 := ⟨kc_yX0_endAt, kz_RX0, ⟨by decide +kernel, by decide +kernel, by decide +kernel⟩, by decide⟩
theorem jy_X10_forces : jY yX10_forces cX10_forces 3 (some .int) 2 := ⟨kc_yX10_forces, kz_RX10, ⟨by decide +kernel, by decide +kernel, by decide +kernel⟩, by decide⟩
theorem jy_X10_isSide : jY yX10_isSide cX10_isSide 1 (some .boolean) 1 := ⟨kc_yX10_isSide, kz_RX10, ⟨by decide +kernel, by decide +kernel, by decide +kernel⟩, by decide⟩
theorem jy_X10_best : jY yX10_best cX10_best 3 (some .int) 2 := ⟨kc_yX10_best, kz_RX10, ⟨by decide +kernel, by decide +kernel, by decide +kernel⟩, by decide⟩
theorem jy_X0_bestPerson : jY yX0_bestPerson cX0_bestPerson 11 (some .int) 2 := ⟨kc_yX0_bestPerson, kz_RX0, ⟨by decide +kernel, by decide +kernel, by decide +kernel⟩, by decide⟩
theorem jy_X10_sure : jY yX10_sure cX10_sure 2 (some .int) 1 := ⟨kc_yX10_sure, kz_RX10, ⟨by decide +kernel, by decide +kernel, by decide +kernel⟩, by decide⟩
theorem jy_X10_aside : jY yX10_aside cX10_aside 3 (some .int) 2 := ⟨kc_yX10_aside, kz_RX10, ⟨by decide +kernel, by decide +kernel, by decide +kernel⟩, by decide⟩
theorem jy_X10_fewestLaidAside : jY yX10_fewestLaidAside cX10_fewestLaidAside 7 (some .int) 2 := ⟨kc_yX10_fewestLaidAside, kz_RX10, ⟨by decide +kernel, by decide +kernel, by decide +kernel⟩, by decide⟩
theorem jy_X0_toggleFoes : jY yX0_toggleFoes cX0_toggleFoes 3 none 2 := ⟨kc_yX0_toggleFoes, kz_RX0, ⟨by decide +kernel, by decide +kernel, by decide +kernel⟩, by decide⟩
theorem jy_X10_fresh : jY yX10_fresh cX10_fresh 4 (some .int) 3 := ⟨kc_yX10_fresh, kz_RX10, ⟨by decide +kernel, by decide +kernel, by decide +kernel⟩, by decide⟩
theorem jy_X2_seek : jY yX2_seek cX2_seek 5 none 3 := ⟨kc_yX2_seek, kz_RX2, ⟨by decide +kernel, by decide +kernel, by decide +kernel⟩, by decide⟩
theorem jy_X2_seekBesides : jY yX2_seekBesides cX2_seekBesides 7 none 4 := ⟨kc_yX2_seekBesides, kz_RX2, ⟨by decide +kernel, by decide +kernel, by decide +kernel⟩, by decide⟩
theorem jy_X2_toggle : jY yX2_toggle cX2_toggle 2 none 2 := ⟨kc_yX2_toggle, kz_RX2, ⟨by decide +kernel, by decide +kernel, by decide +kernel⟩, by decide⟩
theorem jy_X0_followPeace : jY yX0_followPeace cX0_followPeace 6 none 3 := ⟨kc_yX0_followPeace, kz_RX0, ⟨by decide +kernel, by decide +kernel, by decide +kernel⟩, by decide⟩
theorem jy_X0_walkTo : jY yX0_walkTo cX0_walkTo 2 none 1 := ⟨kc_yX0_walkTo, kz_RX0, ⟨by decide +kernel, by decide +kernel, by decide +kernel⟩, by decide⟩
theorem jy_X0_mark : jY yX0_mark cX0_mark 4 none 3 := ⟨kc_yX0_mark, kz_RX0, ⟨by decide +kernel, by decide +kernel, by decide +kernel⟩, by decide⟩
theorem jy_J9_min_7cf53 : jY yJ9_min_7cf53 cJ9_min_7cf53 2 (some .int) 2 := ⟨kc_yJ9_min_7cf53, kz_RJ9, ⟨by decide +kernel, by decide +kernel, by decide +kernel⟩, by decide⟩
theorem jy_X0_walkOn : jY yX0_walkOn cX0_walkOn 8 none 2 := ⟨kc_yX0_walkOn, kz_RX0, ⟨by decide +kernel, by decide +kernel, by decide +kernel⟩, by decide⟩
theorem jy_X2_isIn : jY yX2_isIn cX2_isIn 2 (some .boolean) 2 := ⟨kc_yX2_isIn, kz_RX2, ⟨by decide +kernel, by decide +kernel, by decide +kernel⟩, by decide⟩
theorem jy_X2_isAhead : jY yX2_isAhead cX2_isAhead 4 (some .boolean) 2 := ⟨kc_yX2_isAhead, kz_RX2, ⟨by decide +kernel, by decide +kernel, by decide +kernel⟩, by decide⟩
theorem jy_X2_take : jY yX2_take cX2_take 3 none 2 := ⟨kc_yX2_take, kz_RX2, ⟨by decide +kernel, by decide +kernel, by decide +kernel⟩, by decide⟩
theorem jy_X2_pairTold : jY yX2_pairTold cX2_pairTold 3 (some .int) 1 := ⟨kc_yX2_pairTold, kz_RX2, ⟨by decide +kernel, by decide +kernel, by decide +kernel⟩, by decide⟩
theorem jy_X10_most : jY yX10_most cX10_most 3 (some .int) 1 := ⟨kc_yX10_most, kz_RX10, ⟨by decide +kernel, by decide +kernel, by decide +kernel⟩, by decide⟩
theorem jy_X4_mostEnded : jY yX4_mostEnded cX4_mostEnded 7 (some .int) 3 := ⟨kc_yX4_mostEnded, kz_RX4, ⟨by decide +kernel, by decide +kernel, by decide +kernel⟩, by decide⟩
theorem jy_X4_putBit : jY yX4_putBit cX4_putBit 2 none 2 := ⟨kc_yX4_putBit, kz_RX4, ⟨by decide +kernel, by decide +kernel, by decide +kernel⟩, by decide⟩
theorem jy_X4_isReached : jY yX4_isReached cX4_isReached 3 (some .boolean) 1 := ⟨kc_yX4_isReached, kz_RX4, ⟨by decide +kernel, by decide +kernel, by decide +kernel⟩, by decide⟩
theorem jy_X4_carryOneMore : jY yX4_carryOneMore cX4_carryOneMore 6 none 4 := ⟨kc_yX4_carryOneMore, kz_RX4, ⟨by decide +kernel, by decide +kernel, by decide +kernel⟩, by decide⟩
theorem jy_X4_hasBit : jY yX4_hasBit cX4_hasBit 2 (some .boolean) 2 := ⟨kc_yX4_hasBit, kz_RX4, ⟨by decide +kernel, by decide +kernel, by decide +kernel⟩, by decide⟩
theorem jy_X4_carry : jY yX4_carry cX4_carry 11 none 5 := ⟨kc_yX4_carry, kz_RX4, ⟨by decide +kernel, by decide +kernel, by decide +kernel⟩, by decide⟩
theorem jy_X4_spotAt : jY yX4_spotAt cX4_spotAt 3 (some .int) 3 := ⟨kc_yX4_spotAt, kz_RX4, ⟨by decide +kernel, by decide +kernel, by decide +kernel⟩, by decide⟩
theorem jy_X4_usable : jY yX4_usable cX4_usable 8 (some .int) 3 := ⟨kc_yX4_usable, kz_RX4, ⟨by decide +kernel, by decide +kernel, by decide +kernel⟩, by decide⟩
theorem jy_X9_leadsBy : jY yX9_leadsBy cX9_leadsBy 3 (some .boolean) 2 := ⟨kc_yX9_leadsBy, kz_RX9, ⟨by decide +kernel, by decide +kernel, by decide +kernel⟩, by decide⟩
theorem jy_X10_worth : jY yX10_worth cX10_worth 3 (some .int) 1 := ⟨kc_yX10_worth, kz_RX10, ⟨by decide +kernel, by decide +kernel, by decide +kernel⟩, by decide⟩
theorem jy_X10_log : jY yX10_log cX10_log 3 (some .int) 2 := ⟨kc_yX10_log, kz_RX10, ⟨by decide +kernel, by decide +kernel, by decide +kernel⟩, by decide⟩
theorem jy_X3_write : jY yX3_write cX3_write 3 none 2 := ⟨kc_yX3_write, kz_RX3, ⟨by decide +kernel, by decide +kernel, by decide +kernel⟩, by decide⟩
theorem jy_X10_clear : jY yX10_clear cX10_clear 2 (some .int) 0 := ⟨kc_yX10_clear, kz_RX10, ⟨by decide +kernel, by decide +kernel, by decide +kernel⟩, by decide⟩
theorem jy_X10_judge : jY yX10_judge cX10_judge 6 (some .int) 1 := ⟨kc_yX10_judge, kz_RX10, ⟨by decide +kernel, by decide +kernel, by decide +kernel⟩, by decide⟩
theorem jy_X0_afterLogged : jY yX0_afterLogged cX0_afterLogged 5 (some .int) 3 := ⟨kc_yX0_afterLogged, kz_RX0, ⟨by decide +kernel, by decide +kernel, by decide +kernel⟩, by decide⟩
theorem jy_X10_seen : jY yX10_seen cX10_seen 4 (some .int) 3 := ⟨kc_yX10_seen, kz_RX10, ⟨by decide +kernel, by decide +kernel, by decide +kernel⟩, by decide⟩
theorem jy_X3_see : jY yX3_see cX3_see 4 none 3 := ⟨kc_yX3_see, kz_RX3, ⟨by decide +kernel, by decide +kernel, by decide +kernel⟩, by decide⟩
theorem jy_X10_have : jY yX10_have cX10_have 2 (some .int) 1 := ⟨kc_yX10_have, kz_RX10, ⟨by decide +kernel, by decide +kernel, by decide +kernel⟩, by decide⟩
theorem jy_X0_holdersBehind : jY yX0_holdersBehind cX0_holdersBehind 10 (some .int) 3 := ⟨kc_yX0_holdersBehind, kz_RX0, ⟨by decide +kernel, by decide +kernel, by decide +kernel⟩, by decide⟩
theorem jy_X0_putIfFits : jY yX0_putIfFits cX0_putIfFits 6 (some .int) 5 := ⟨kc_yX0_putIfFits, kz_RX0, ⟨by decide +kernel, by decide +kernel, by decide +kernel⟩, by decide⟩
theorem jy_X3_fits : jY yX3_fits cX3_fits 6 (some .boolean) 3 := ⟨kc_yX3_fits, kz_RX3, ⟨by decide +kernel, by decide +kernel, by decide +kernel⟩, by decide⟩
theorem jy_X0_putOnward : jY yX0_putOnward cX0_putOnward 10 (some .int) 5 := ⟨kc_yX0_putOnward, kz_RX0, ⟨by decide +kernel, by decide +kernel, by decide +kernel⟩, by decide⟩
theorem jy_X10_seed : jY yX10_seed cX10_seed 3 (some .int) 1 := ⟨kc_yX10_seed, kz_RX10, ⟨by decide +kernel, by decide +kernel, by decide +kernel⟩, by decide⟩
theorem jy_X10_keep : jY yX10_keep cX10_keep 3 (some .int) 1 := ⟨kc_yX10_keep, kz_RX10, ⟨by decide +kernel, by decide +kernel, by decide +kernel⟩, by decide⟩
theorem jy_X7_take : jY yX7_take cX7_take 2 none 1 := ⟨kc_yX7_take, kz_RX7, ⟨by decide +kernel, by decide +kernel, by decide +kernel⟩, by decide⟩
theorem jy_X10_goBack : jY yX10_goBack cX10_goBack 3 (some .int) 1 := ⟨kc_yX10_goBack, kz_RX10, ⟨by decide +kernel, by decide +kernel, by decide +kernel⟩, by decide⟩
theorem jy_X11_init : jY yX11_init cX11_init 1 none 0 := ⟨kc_yX11_init, kz_RX11, ⟨by decide +kernel, by decide +kernel, by decide +kernel⟩, by decide⟩
theorem jy_X11_feed : jY yX11_feed cX11_feed 5 (some .int) 2 := ⟨kc_yX11_feed, kz_RX11, ⟨by decide +kernel, by decide +kernel, by decide +kernel⟩, by decide⟩
theorem jy_X11_in : jY yX11_in cX11_in 6 (some .boolean) 3 := ⟨kc_yX11_in, kz_RX11, ⟨by decide +kernel, by decide +kernel, by decide +kernel⟩, by decide⟩
theorem jy_X11_town : jY yX11_town cX11_town 2 (some .int) 0 := ⟨kc_yX11_town, kz_RX11, ⟨by decide +kernel, by decide +kernel, by decide +kernel⟩, by decide⟩
theorem jy_X11_here : jY yX11_here cX11_here 1 (some .int) 0 := ⟨kc_yX11_here, kz_RX11, ⟨by decide +kernel, by decide +kernel, by decide +kernel⟩, by decide⟩
theorem jy_X11_takeClause : jY yX11_takeClause cX11_takeClause 3 (some .int) 0 := ⟨kc_yX11_takeClause, kz_RX11, ⟨by decide +kernel, by decide +kernel, by decide +kernel⟩, by decide⟩
theorem jy_X11_readWord : jY yX11_readWord cX11_readWord 2 none 0 := ⟨kc_yX11_readWord, kz_RX11, ⟨by decide +kernel, by decide +kernel, by decide +kernel⟩, by decide⟩
theorem jy_X11_code4 : jY yX11_code4 cX11_code4 4 (some .long) 4 := ⟨kc_yX11_code4, kz_RX11, ⟨by decide +kernel, by decide +kernel, by decide +kernel⟩, by decide⟩
theorem jy_X11_longer : jY yX11_longer cX11_longer 3 (some .long) 2 := ⟨kc_yX11_longer, kz_RX11, ⟨by decide +kernel, by decide +kernel, by decide +kernel⟩, by decide⟩
theorem jy_X11_fails : jY yX11_fails cX11_fails 3 (some .int) 2 := ⟨kc_yX11_fails, kz_RX11, ⟨by decide +kernel, by decide +kernel, by decide +kernel⟩, by decide⟩
theorem jy_X11_takeNumber : jY yX11_takeNumber cX11_takeNumber 4 (some .int) 2 := ⟨kc_yX11_takeNumber, kz_RX11, ⟨by decide +kernel, by decide +kernel, by decide +kernel⟩, by decide⟩
theorem jy_X11_takeTwo : jY yX11_takeTwo cX11_takeTwo 5 (some .int) 1 := ⟨kc_yX11_takeTwo, kz_RX11, ⟨by decide +kernel, by decide +kernel, by decide +kernel⟩, by decide⟩
theorem jy_X11_takeTown : jY yX11_takeTown cX11_takeTown 2 none 0 := ⟨kc_yX11_takeTown, kz_RX11, ⟨by decide +kernel, by decide +kernel, by decide +kernel⟩, by decide⟩
theorem jy_X11_toldCode : jY yX11_toldCode cX11_toldCode 2 (some .int) 1 := ⟨kc_yX11_toldCode, kz_RX11, ⟨by decide +kernel, by decide +kernel, by decide +kernel⟩, by decide⟩
theorem jy_X11_code : jY yX11_code cX11_code 5 (some .int) 5 := ⟨kc_yX11_code, kz_RX11, ⟨by decide +kernel, by decide +kernel, by decide +kernel⟩, by decide⟩
theorem jy_X11_fault : jY yX11_fault cX11_fault 1 (some .int) 0 := ⟨kc_yX11_fault, kz_RX11, ⟨by decide +kernel, by decide +kernel, by decide +kernel⟩, by decide⟩
theorem jy_X11_count : jY yX11_count cX11_count 2 (some .int) 1 := ⟨kc_yX11_count, kz_RX11, ⟨by decide +kernel, by decide +kernel, by decide +kernel⟩, by decide⟩
theorem jy_X11_person : jY yX11_person cX11_person 5 (some .int) 2 := ⟨kc_yX11_person, kz_RX11, ⟨by decide +kernel, by decide +kernel, by decide +kernel⟩, by decide⟩
theorem jy_X11_isPerson : jY yX11_isPerson cX11_isPerson 2 (some .boolean) 1 := ⟨kc_yX11_isPerson, kz_RX11, ⟨by decide +kernel, by decide +kernel, by decide +kernel⟩, by decide⟩
theorem jy_X11_bears : jY yX11_bears cX11_bears 4 (some .int) 1 := ⟨kc_yX11_bears, kz_RX11, ⟨by decide +kernel, by decide +kernel, by decide +kernel⟩, by decide⟩
theorem jy_X11_turn : jY yX11_turn cX11_turn 3 (some .int) 2 := ⟨kc_yX11_turn, kz_RX11, ⟨by decide +kernel, by decide +kernel, by decide +kernel⟩, by decide⟩
theorem jy_X11_grudge : jY yX11_grudge cX11_grudge 2 (some .int) 1 := ⟨kc_yX11_grudge, kz_RX11, ⟨by decide +kernel, by decide +kernel, by decide +kernel⟩, by decide⟩
theorem jy_X11_law : jY yX11_law cX11_law 5 (some .int) 2 := ⟨kc_yX11_law, kz_RX11, ⟨by decide +kernel, by decide +kernel, by decide +kernel⟩, by decide⟩
theorem jy_X11_one : jY yX11_one cX11_one 1 (some .int) 1 := ⟨kc_yX11_one, kz_RX11, ⟨by decide +kernel, by decide +kernel, by decide +kernel⟩, by decide⟩
theorem jy_X11_two : jY yX11_two cX11_two 1 (some .int) 1 := ⟨kc_yX11_two, kz_RX11, ⟨by decide +kernel, by decide +kernel, by decide +kernel⟩, by decide⟩
theorem jy_X11_side : jY yX11_side cX11_side 1 (some .int) 1 := ⟨kc_yX11_side, kz_RX11, ⟨by decide +kernel, by decide +kernel, by decide +kernel⟩, by decide⟩
theorem jy_X11_bear : jY yX11_bear cX11_bear 5 (some .int) 3 := ⟨kc_yX11_bear, kz_RX11, ⟨by decide +kernel, by decide +kernel, by decide +kernel⟩, by decide⟩
theorem jy_X11_grudgeOf : jY yX11_grudgeOf cX11_grudgeOf 5 (some .int) 2 := ⟨kc_yX11_grudgeOf, kz_RX11, ⟨by decide +kernel, by decide +kernel, by decide +kernel⟩, by decide⟩
theorem jy_X11_quarrel : jY yX11_quarrel cX11_quarrel 3 (some .int) 2 := ⟨kc_yX11_quarrel, kz_RX11, ⟨by decide +kernel, by decide +kernel, by decide +kernel⟩, by decide⟩
theorem jy_X11_isQuarrel : jY yX11_isQuarrel cX11_isQuarrel 2 (some .boolean) 1 := ⟨kc_yX11_isQuarrel, kz_RX11, ⟨by decide +kernel, by decide +kernel, by decide +kernel⟩, by decide⟩
theorem jy_X11_from : jY yX11_from cX11_from 2 (some .int) 2 := ⟨kc_yX11_from, kz_RX11, ⟨by decide +kernel, by decide +kernel, by decide +kernel⟩, by decide⟩
theorem jy_X11_stateOf : jY yX11_stateOf cX11_stateOf 2 (some .int) 1 := ⟨kc_yX11_stateOf, kz_RX11, ⟨by decide +kernel, by decide +kernel, by decide +kernel⟩, by decide⟩
theorem jy_X11_isEnded : jY yX11_isEnded cX11_isEnded 2 (some .boolean) 1 := ⟨kc_yX11_isEnded, kz_RX11, ⟨by decide +kernel, by decide +kernel, by decide +kernel⟩, by decide⟩
theorem jy_X11_mayOf : jY yX11_mayOf cX11_mayOf 8 (some .int) 2 := ⟨kc_yX11_mayOf, kz_RX11, ⟨by decide +kernel, by decide +kernel, by decide +kernel⟩, by decide⟩
theorem jy_X11_holder : jY yX11_holder cX11_holder 2 (some .int) 2 := ⟨kc_yX11_holder, kz_RX11, ⟨by decide +kernel, by decide +kernel, by decide +kernel⟩, by decide⟩
theorem jy_X11_owedNow : jY yX11_owedNow cX11_owedNow 4 (some .int) 1 := ⟨kc_yX11_owedNow, kz_RX11, ⟨by decide +kernel, by decide +kernel, by decide +kernel⟩, by decide⟩
theorem jy_X11_has : jY yX11_has cX11_has 2 (some .boolean) 2 := ⟨kc_yX11_has, kz_RX11, ⟨by decide +kernel, by decide +kernel, by decide +kernel⟩, by decide⟩
theorem jy_X11_isLawful : jY yX11_isLawful cX11_isLawful 4 (some .boolean) 2 := ⟨kc_yX11_isLawful, kz_RX11, ⟨by decide +kernel, by decide +kernel, by decide +kernel⟩, by decide⟩
theorem jy_X11_may : jY yX11_may cX11_may 2 (some .int) 1 := ⟨kc_yX11_may, kz_RX11, ⟨by decide +kernel, by decide +kernel, by decide +kernel⟩, by decide⟩
theorem jy_X11_mayNow : jY yX11_mayNow cX11_mayNow 2 (some .int) 1 := ⟨kc_yX11_mayNow, kz_RX11, ⟨by decide +kernel, by decide +kernel, by decide +kernel⟩, by decide⟩
theorem jy_X11_hand : jY yX11_hand cX11_hand 3 (some .int) 2 := ⟨kc_yX11_hand, kz_RX11, ⟨by decide +kernel, by decide +kernel, by decide +kernel⟩, by decide⟩
theorem jy_X11_handOn : jY yX11_handOn cX11_handOn 5 (some .int) 2 := ⟨kc_yX11_handOn, kz_RX11, ⟨by decide +kernel, by decide +kernel, by decide +kernel⟩, by decide⟩
theorem jy_X11_drawn : jY yX11_drawn cX11_drawn 4 (some .int) 1 := ⟨kc_yX11_drawn, kz_RX11, ⟨by decide +kernel, by decide +kernel, by decide +kernel⟩, by decide⟩
theorem jy_X11_bits : jY yX11_bits cX11_bits 3 (some .int) 1 := ⟨kc_yX11_bits, kz_RX11, ⟨by decide +kernel, by decide +kernel, by decide +kernel⟩, by decide⟩
theorem jy_X11_draw : jY yX11_draw cX11_draw 2 (some .int) 1 := ⟨kc_yX11_draw, kz_RX11, ⟨by decide +kernel, by decide +kernel, by decide +kernel⟩, by decide⟩
theorem jy_X11_behind : jY yX11_behind cX11_behind 9 (some .int) 2 := ⟨kc_yX11_behind, kz_RX11, ⟨by decide +kernel, by decide +kernel, by decide +kernel⟩, by decide⟩
theorem jy_X11_begin : jY yX11_begin cX11_begin 3 (some .int) 1 := ⟨kc_yX11_begin, kz_RX11, ⟨by decide +kernel, by decide +kernel, by decide +kernel⟩, by decide⟩
theorem jy_X11_drift : jY yX11_drift cX11_drift 5 (some .int) 2 := ⟨kc_yX11_drift, kz_RX11, ⟨by decide +kernel, by decide +kernel, by decide +kernel⟩, by decide⟩
theorem jy_X11_comes : jY yX11_comes cX11_comes 7 (some .int) 2 := ⟨kc_yX11_comes, kz_RX11, ⟨by decide +kernel, by decide +kernel, by decide +kernel⟩, by decide⟩
theorem jy_X11_spread : jY yX11_spread cX11_spread 8 none 2 := ⟨kc_yX11_spread, kz_RX11, ⟨by decide +kernel, by decide +kernel, by decide +kernel⟩, by decide⟩
theorem jy_X11_reach : jY yX11_reach cX11_reach 3 none 2 := ⟨kc_yX11_reach, kz_RX11, ⟨by decide +kernel, by decide +kernel, by decide +kernel⟩, by decide⟩
theorem jy_X11_findEnds : jY yX11_findEnds cX11_findEnds 2 none 0 := ⟨kc_yX11_findEnds, kz_RX11, ⟨by decide +kernel, by decide +kernel, by decide +kernel⟩, by decide⟩
theorem jy_X11_goesRound : jY yX11_goesRound cX11_goesRound 4 (some .boolean) 0 := ⟨kc_yX11_goesRound, kz_RX11, ⟨by decide +kernel, by decide +kernel, by decide +kernel⟩, by decide⟩
theorem jy_X11_end : jY yX11_end cX11_end 5 (some .int) 2 := ⟨kc_yX11_end, kz_RX11, ⟨by decide +kernel, by decide +kernel, by decide +kernel⟩, by decide⟩
theorem jy_X11_forces : jY yX11_forces cX11_forces 3 (some .int) 2 := ⟨kc_yX11_forces, kz_RX11, ⟨by decide +kernel, by decide +kernel, by decide +kernel⟩, by decide⟩
theorem jy_X11_isSide : jY yX11_isSide cX11_isSide 1 (some .boolean) 1 := ⟨kc_yX11_isSide, kz_RX11, ⟨by decide +kernel, by decide +kernel, by decide +kernel⟩, by decide⟩
theorem jy_X11_forcesNow : jY yX11_forcesNow cX11_forcesNow 3 (some .int) 2 := ⟨kc_yX11_forcesNow, kz_RX11, ⟨by decide +kernel, by decide +kernel, by decide +kernel⟩, by decide⟩
theorem jy_X11_takeGrudges : jY yX11_takeGrudges cX11_takeGrudges 4 none 1 := ⟨kc_yX11_takeGrudges, kz_RX11, ⟨by decide +kernel, by decide +kernel, by decide +kernel⟩, by decide⟩
theorem jy_X11_solve : jY yX11_solve cX11_solve 6 none 1 := ⟨kc_yX11_solve, kz_RX11, ⟨by decide +kernel, by decide +kernel, by decide +kernel⟩, by decide⟩
theorem jy_X11_best : jY yX11_best cX11_best 12 (some .int) 2 := ⟨kc_yX11_best, kz_RX11, ⟨by decide +kernel, by decide +kernel, by decide +kernel⟩, by decide⟩
theorem jy_X11_sure : jY yX11_sure cX11_sure 2 (some .int) 1 := ⟨kc_yX11_sure, kz_RX11, ⟨by decide +kernel, by decide +kernel, by decide +kernel⟩, by decide⟩
theorem jy_X11_aside : jY yX11_aside cX11_aside 5 (some .int) 2 := ⟨kc_yX11_aside, kz_RX11, ⟨by decide +kernel, by decide +kernel, by decide +kernel⟩, by decide⟩
theorem jy_X11_fresh : jY yX11_fresh cX11_fresh 5 (some .int) 3 := ⟨kc_yX11_fresh, kz_RX11, ⟨by decide +kernel, by decide +kernel, by decide +kernel⟩, by decide⟩
theorem jy_X11_findFresh : jY yX11_findFresh cX11_findFresh 7 (some .int) 1 := ⟨kc_yX11_findFresh, kz_RX11, ⟨by decide +kernel, by decide +kernel, by decide +kernel⟩, by decide⟩
theorem jy_X11_isForced : jY yX11_isForced cX11_isForced 2 (some .boolean) 1 := ⟨kc_yX11_isForced, kz_RX11, ⟨by decide +kernel, by decide +kernel, by decide +kernel⟩, by decide⟩
theorem jy_X11_isFree : jY yX11_isFree cX11_isFree 3 (some .boolean) 2 := ⟨kc_yX11_isFree, kz_RX11, ⟨by decide +kernel, by decide +kernel, by decide +kernel⟩, by decide⟩
theorem jy_X11_setBearing : jY yX11_setBearing cX11_setBearing 3 none 2 := ⟨kc_yX11_setBearing, kz_RX11, ⟨by decide +kernel, by decide +kernel, by decide +kernel⟩, by decide⟩
theorem jy_X11_most : jY yX11_most cX11_most 3 (some .int) 1 := ⟨kc_yX11_most, kz_RX11, ⟨by decide +kernel, by decide +kernel, by decide +kernel⟩, by decide⟩
theorem jy_X11_mostSet : jY yX11_mostSet cX11_mostSet 7 (some .int) 1 := ⟨kc_yX11_mostSet, kz_RX11, ⟨by decide +kernel, by decide +kernel, by decide +kernel⟩, by decide⟩
theorem jy_X11_carryOn : jY yX11_carryOn cX11_carryOn 9 none 3 := ⟨kc_yX11_carryOn, kz_RX11, ⟨by decide +kernel, by decide +kernel, by decide +kernel⟩, by decide⟩
theorem jy_X11_tryOn : jY yX11_tryOn cX11_tryOn 3 none 2 := ⟨kc_yX11_tryOn, kz_RX11, ⟨by decide +kernel, by decide +kernel, by decide +kernel⟩, by decide⟩
theorem jy_X11_turnOf : jY yX11_turnOf cX11_turnOf 5 (some .int) 2 := ⟨kc_yX11_turnOf, kz_RX11, ⟨by decide +kernel, by decide +kernel, by decide +kernel⟩, by decide⟩
theorem jy_X11_worth : jY yX11_worth cX11_worth 3 (some .int) 1 := ⟨kc_yX11_worth, kz_RX11, ⟨by decide +kernel, by decide +kernel, by decide +kernel⟩, by decide⟩
theorem jy_X11_log : jY yX11_log cX11_log 3 (some .int) 2 := ⟨kc_yX11_log, kz_RX11, ⟨by decide +kernel, by decide +kernel, by decide +kernel⟩, by decide⟩
theorem jy_X11_clear : jY yX11_clear cX11_clear 2 (some .int) 0 := ⟨kc_yX11_clear, kz_RX11, ⟨by decide +kernel, by decide +kernel, by decide +kernel⟩, by decide⟩
theorem jy_X11_judge : jY yX11_judge cX11_judge 7 (some .int) 1 := ⟨kc_yX11_judge, kz_RX11, ⟨by decide +kernel, by decide +kernel, by decide +kernel⟩, by decide⟩
theorem jy_X11_seen : jY yX11_seen cX11_seen 4 (some .int) 3 := ⟨kc_yX11_seen, kz_RX11, ⟨by decide +kernel, by decide +kernel, by decide +kernel⟩, by decide⟩
theorem jy_X11_have : jY yX11_have cX11_have 4 (some .int) 1 := ⟨kc_yX11_have, kz_RX11, ⟨by decide +kernel, by decide +kernel, by decide +kernel⟩, by decide⟩
theorem jy_X11_fits : jY yX11_fits cX11_fits 6 (some .boolean) 2 := ⟨kc_yX11_fits, kz_RX11, ⟨by decide +kernel, by decide +kernel, by decide +kernel⟩, by decide⟩
theorem jy_X11_nextLay : jY yX11_nextLay cX11_nextLay 6 none 1 := ⟨kc_yX11_nextLay, kz_RX11, ⟨by decide +kernel, by decide +kernel, by decide +kernel⟩, by decide⟩
theorem jy_X11_layOn : jY yX11_layOn cX11_layOn 3 none 2 := ⟨kc_yX11_layOn, kz_RX11, ⟨by decide +kernel, by decide +kernel, by decide +kernel⟩, by decide⟩
theorem jy_X11_seed : jY yX11_seed cX11_seed 3 (some .int) 1 := ⟨kc_yX11_seed, kz_RX11, ⟨by decide +kernel, by decide +kernel, by decide +kernel⟩, by decide⟩
theorem jy_X11_keep : jY yX11_keep cX11_keep 4 (some .int) 1 := ⟨kc_yX11_keep, kz_RX11, ⟨by decide +kernel, by decide +kernel, by decide +kernel⟩, by decide⟩
theorem jy_X11_goBack : jY yX11_goBack cX11_goBack 4 (some .int) 1 := ⟨kc_yX11_goBack, kz_RX11, ⟨by decide +kernel, by decide +kernel, by decide +kernel⟩, by decide⟩
/-! text constants -/
def jsn (w : Nat) : Nat := jlen.getD (w - jlim) 0
def jsl (w : Nat) : Int32 := nI (jsn w)
def jsc (w i : Nat) : Int32 := (jbyt.getD (w - jlim) []).getD i 0
section JSTR
variable {y : MethodName} {cc : ByteArray} {nL : Nat} {rt : Option FieldType} {d : Nat} {g : Bool} {rv : Option Value} {μ' : jM} {pc : Nat} {lv : List (Nat × Value)} {st : List Value} {μ μ1 : jM}
theorem j_ldcS (k : Nat) (hk : k < 4) {i : Nat} (hi : i = jidx k) (hd : decode cX5_spelling pc = .ok (.ldc i, 2)) (kk : J yX5_spelling cX5_spelling nL rt d g rv μ' (pc + 2) lv (.ref (1000000 + k) :: st) μ) : J yX5_spelling cX5_spelling nL rt d g rv μ' pc lv st μ := by
  intro D cy ad bs A MC MS n0 w0 p l e s m args below meth c H locs cells slots ls F B hl
  have K := kk D cy ad bs A MC MS n0 w0 p l e s m args below meth c H locs cells slots ls F B hl
  subst hi
  have hR := F.2.2.2.2.2.2.2.2.2.2.2.1.2.2.2.1 k hk
  have e1 : jv ad (.ref (1000000 + k)) = .ref (ad (jlim + k)) := by
    show jr ad (1000000 + k) = _
    unfold jr
    rw [if_neg (by omega)]
    rfl
  simp only [List.map_cons, e1] at K
  exact va_ldcS F.1 F.2.1 F.2.2.2.2.1 hR hd K
theorem j_strlen (k : Nat) (hk : k < 4) {idx : Nat} (hw : Cond.methodLink y.cls idx yJ0_length_8abf5 ∈ jG) (hd : decode cc pc = .ok (.invokevirtual idx, 3)) (hW : Nat.ble ((st.map fun v => v.category).sum) 8 = true) (hdd : Nat.ble 7 d = true) (h3 : Nat.ble μ.1 μ'.1 = true) (h4 : Nat.ble μ.2.1 μ'.2.1 = true) (kk : J y cc nL rt d g rv μ' (pc + 3) lv (.int (jsl (1000000 + k)) :: st) μ) : J y cc nL rt d g rv μ' pc lv (.ref (1000000 + k) :: st) μ := by
  sorry
theorem j_charAt (k : Nat) (hk : k < 4) {i : Int32} {idx : Nat} (hi : vp_in i (jsn (1000000 + k))) (hw : Cond.methodLink y.cls idx yJ0_charAt_5068e ∈ jG) (hd : decode cc pc = .ok (.invokevirtual idx, 3)) (hW : Nat.ble ((st.map fun v => v.category).sum) 8 = true) (hdd : Nat.ble 7 d = true) (h3 : Nat.ble μ.1 μ'.1 = true) (h4 : Nat.ble μ.2.1 μ'.2.1 = true) (kk : J y cc nL rt d g rv μ' (pc + 3) lv (.int (jsc (1000000 + k) (ix i)) :: st) μ) : J y cc nL rt d g rv μ' pc lv (.int i :: .ref (1000000 + k) :: st) μ := by
  sorry
end JSTR
