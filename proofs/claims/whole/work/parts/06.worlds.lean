abbrev jS : Type := (Nat → Nat → Int32) × (Nat → Nat → Int64) × Nat × Nat
abbrev gI (σ : jS) (h i : Nat) : Int32 := σ.1 h i
abbrev gL (σ : jS) (h i : Nat) : Int64 := σ.2.1 h i
def sI (σ : jS) (h i : Nat) (v : Int32) : jS := (ju σ.1 h i v, σ.2)
def sL (σ : jS) (h i : Nat) (v : Int64) : jS := (σ.1, ju σ.2.1 h i v, σ.2.2)
def sT (σ : jS) (t : Nat) : jS := (σ.1, σ.2.1, t, σ.2.2.2)
def sU (σ : jS) (t : Nat) : jS := (σ.1, σ.2.1, σ.2.2.1, t)
abbrev ix (i : Int32) : Nat := i.toNatClampNeg
def bV {α β : Type} (v : α) (k : α → β) : β := k v
theorem bV_inv {α β : Type} {v : α} {k : α → β} {o : β} (h : bV v k = o) : ∃ x, x = v ∧ k x = o := ⟨v, rfl, h⟩
def bG {β : Type} (b : Bool) (k : Option β) : Option β := if b = true then k else none
theorem bG_inv {β : Type} {b : Bool} {k : Option β} {r : β} (h : bG b k = some r) : b = true ∧ k = some r := by
  unfold bG at h
  split at h
  · exact ⟨by assumption, h⟩
  · cases h
def bC {α β : Type} (o : Option α) (k : α → Option β) : Option β := match o with
  | some a => k a
  | none => none
theorem bC_inv {α β : Type} {o : Option α} {k : α → Option β} {r : β} (h : bC o k = some r) : ∃ a, o = some a ∧ k a = some r := by
  cases o with
  | none => cases h
  | some a => exact ⟨a, rfl, h⟩
def bD {α β : Type} (o : Option (α × jS)) (k : α → jS → Option β) : Option β := match o with
  | some (a, s) => k a s
  | none => none
theorem bD_inv {α β : Type} {o : Option (α × jS)} {k : α → jS → Option β} {r : β} (h : bD o k = some r) : ∃ a s, o = some (a, s) ∧ k a s = some r := by
  cases o with
  | none => cases h
  | some q => exact ⟨q.1, q.2, rfl, h⟩
def bH {β : Type} (S : List Nat) (v : Nat) (k : Option β) : Option β := if v ∈ S then k else none
theorem bH_inv {β : Type} {S : List Nat} {v : Nat} {k : Option β} {r : β} (h : bH S v k = some r) : v ∈ S ∧ k = some r := by
  unfold bH at h
  split at h
  · exact ⟨by assumption, h⟩
  · cases h
def jw {S O : Type} (o : Option O) : Option (S ⊕ O) := o.map .inr
theorem jw_inv {S O : Type} {x : Option O} {o : S ⊕ O} (h : jw x = some o) : ∃ o', o = .inr o' ∧ x = some o' := by
  unfold jw at h
  cases x with
  | none => cases h
  | some a => cases h; exact ⟨a, rfl, rfl⟩
def jloop {S O : Type} : Nat → (S → Option (S ⊕ O)) → S → Option O
  | 0, _, _ => none
  | n + 1, f, s => match f s with
    | none => none
    | some (.inl s') => jloop n f s'
    | some (.inr o) => some o
def jsum {S O : Type} (p : S → Prop) (q : O → Prop) : S ⊕ O → Prop
  | .inl s => p s
  | .inr o => q o
theorem jloop_ok {S O : Type} (f : S → Option (S ⊕ O)) (p : S → Prop) (q : O → Prop) (hb : ∀ s o, f s = some o → jsum p q o → p s) : ∀ (n : Nat) (s : S) (o : O), jloop n f s = some o → q o → p s
  | 0, _, _, h, _ => by cases h
  | n + 1, s, o, h, hq => by
    unfold jloop at h
    cases hf : f s with
    | none => rw [hf] at h; cases h
    | some x =>
      rw [hf] at h
      cases x with
      | inl s' => exact hb s _ hf (jloop_ok f p q hb n s' o h hq)
      | inr o' => cases h; exact hb s _ hf hq
def jFuel : Nat := 1000000000000
theorem jif_t {c : Prop} [Decidable c] {α : Type} {A B R : α} (hc : c) (h : (if c then A else B) = R) : A = R := by rw [if_pos hc] at h; exact h
theorem jif_f {c : Prop} [Decidable c] {α : Type} {A B R : α} (hc : ¬ c) (h : (if c then A else B) = R) : B = R := by rw [if_neg hc] at h; exact h
def jin (i : Int32) (n : Nat) : Bool := !decide (i < 0) && Nat.blt i.toNatClampNeg n
theorem jin_spec {i : Int32} {n : Nat} (h : jin i n = true) : vp_in i n := by
  simp only [jin, Bool.and_eq_true, Bool.not_eq_true', decide_eq_false_iff_not] at h
  rintro (q | q)
  · exact h.1 q
  · have := Nat.le_of_ble_eq_true h.2
    omega
def jb (x : Int32) : Bool := x == 0 || x == 1
theorem jb_spec {x : Int32} (h : jb x = true) : x = 0 ∨ x = 1 := by
  simpa [jb] using h
theorem jb_nar {x : Int32} (h : jb x = true) : narrow .boolean (.int x) = .int x := by
  rcases jb_spec h with rfl | rfl <;> rfl
theorem jb_nf {x : Int32} (h : jb x = true) : narrow .boolean (.int x) = .int x ∧ fits .boolean (.int x) = true := by
  rcases jb_spec h with rfl | rfl <;> exact ⟨rfl, rfl⟩
theorem jb_vp {x : Int32} (h : jb x = true) : vp_nar .boolean x = x := by
  rcases jb_spec h with rfl | rfl <;> rfl
theorem bne_zero {α : Type} [BEq α] [LawfulBEq α] {x z : α} (h : (x != z) = true) : ¬ x = z := by
  intro e
  subst e
  simp at h
theorem jble {a b : Nat} (h : a ≤ b) : Nat.ble a b = true := Nat.ble_eq_true_of_le h
theorem jblt {a b : Nat} (h : a < b) : Nat.blt a b = true := Nat.ble_eq_true_of_le h
theorem jsw_out {x : Int32} {lo hi : Int} (hl : lo ≤ hi + 1) (hb : -2147483648 ≤ lo ∧ hi < 2147483648) (h : ∀ q : Int, lo ≤ q → q ≤ hi → x ≠ Int32.ofInt q) : x.toInt < lo ∨ hi < x.toInt := by
  rcases Int.lt_or_le x.toInt lo with a | a
  · exact Or.inl a
  · rcases Int.lt_or_le hi x.toInt with b | b
    · exact Or.inr b
    · exact absurd (Int32.ofInt_toInt x).symm (h x.toInt a b)
theorem jr_nf (ad : Nat → Nat) {C : String} (h : Nat) : narrow (.object C) (jv ad (.ref h)) = jv ad (.ref h) ∧ fits (.object C) (jv ad (.ref h)) = true := by
  show narrow _ (jr ad h) = jr ad h ∧ fits _ (jr ad h) = true
  unfold jr
  split <;> exact ⟨rfl, rfl⟩
section JNM
variable {y : MethodName} {cc : ByteArray} {nL : Nat} {rt : Option FieldType} {d : Nat} {g : Bool} {rv : Option Value} {μ' : jM} {pc : Nat} {lv : List (Nat × Value)} {st : List Value} {μ μ1 : jM}
theorem j_nmi {x e : Int32} (h : x = e) (k : J y cc nL rt d g rv μ' pc lv (.int x :: st) μ) : J y cc nL rt d g rv μ' pc lv (.int e :: st) μ := h ▸ k
theorem j_nml {x e : Int64} (h : x = e) (k : J y cc nL rt d g rv μ' pc lv (.long x :: st) μ) : J y cc nL rt d g rv μ' pc lv (.long e :: st) μ := h ▸ k
theorem j_nmr {x e : Nat} (h : x = e) (k : J y cc nL rt d g rv μ' pc lv (.ref x :: st) μ) : J y cc nL rt d g rv μ' pc lv (.ref e :: st) μ := h ▸ k
theorem j_mem (h : μ1 = μ) (k : J y cc nL rt d g rv μ' pc lv st μ1) : J y cc nL rt d g rv μ' pc lv st μ := h ▸ k
end JNM
def SHX (h : Nat) : Nat × Nat := [(0, 0), (13, 0), (9, 0), (0, 500), (4, 0), (12, 0), (0, 56), (0, 56), (2, 56), (2, 56), (2, 16), (0, 16), (0, 6272), (0, 6272), (0, 6272), (0, 6272), (0, 16), (8, 0), (2, 64), (2, 648), (6, 0), (0, 16), (0, 16), (7, 0), (0, 40), (0, 40), (0, 20), (0, 20), (1, 20), (10, 0), (0, 4), (0, 4), (5, 0), (0, 120), (0, 120), (0, 16), (3, 2), (10, 0), (0, 4), (0, 4), (5, 0), (0, 120), (0, 120), (0, 16), (10, 0), (0, 4), (0, 4), (5, 0), (0, 120), (0, 120), (0, 16), (11, 0), (0, 16), (0, 40), (0, 40), (0, 4), (0, 4), (5, 0), (0, 120), (0, 120), (0, 16), (11, 0), (0, 16), (0, 40), (0, 40), (0, 4), (0, 4), (5, 0), (0, 120), (0, 120), (0, 16)].getD h (0, 0)
def nX : Nat := 70
def wX : Nat := 28368
def rPXT : List (List Nat) := [[], [2, 4, 17, 20, 23, 29, 36], [3], [], [5, 0, 0, 0, 11, 12, 13, 14, 15, 16], [6, 7, 8, 9, 10], [], [], [], [], [], [], [], [], [], [], [], [18, 19], [], [], [0, 0, 0, 21, 22], [], [], [24, 25, 0, 0, 26, 27, 28], [], [], [], [], [], [30, 31, 32], [], [], [33, 34, 35], [], [], [], [37, 44], [38, 39, 40], [], [], [41, 42, 43], [], [], [], [45, 46, 47], [], [], [48, 49, 50], [], [], [], [52, 53, 54, 55, 56, 57], [], [], [], [], [], [58, 59, 60], [], [], [], [62, 63, 64, 65, 66, 67], [], [], [], [], [], [68, 69, 70], [], [], []]
def rPX (h i : Nat) : Nat := (rPXT.getD h []).getD i 0
def PX (t u : Nat) (h i : Nat) : Nat := if h = 1 ∧ i = 7 then t else if h = 1 ∧ i = 8 then u else rPX h i
def eX (σ : jS) : jM := (nX, wX, SHX, σ.1, σ.2.1, PX σ.2.2.1 σ.2.2.2)
theorem eX_T {σ σ1 : jS} {t : Nat} (h : σ1 = sT σ t) : eX σ1 = jsP (eX σ) 1 7 t := by
  subst h
  have e : PX t σ.2.2.2 = ju (PX σ.2.2.1 σ.2.2.2) 1 7 t := by
    funext a b
    simp only [PX, ju]
    split <;> rfl
  show (nX, wX, SHX, σ.1, σ.2.1, PX t σ.2.2.2) = _
  rw [e]
  rfl
theorem eX_U {σ σ1 : jS} {t : Nat} (h : σ1 = sU σ t) : eX σ1 = jsP (eX σ) 1 8 t := by
  subst h
  have e : PX σ.2.2.1 t = ju (PX σ.2.2.1 σ.2.2.2) 1 8 t := by
    funext a b
    simp only [PX, ju]
    split
    · next q => rw [if_neg (by omega)]
    · by_cases q8 : a = 1 ∧ b = 8
      · rw [if_pos q8, if_pos q8]
      · rw [if_neg q8, if_neg q8, if_neg q8]
  show (nX, wX, SHX, σ.1, σ.2.1, PX σ.2.2.1 t) = _
  rw [e]
  rfl
theorem okX_1 (σ : jS) : jok (eX σ) 1 = true := rfl
theorem shX_1 (σ : jS) : jsh (eX σ) 1 = (9 + 4, 0) := rfl
theorem okX_2 (σ : jS) : jok (eX σ) 2 = true := rfl
theorem shX_2 (σ : jS) : jsh (eX σ) 2 = (5 + 4, 0) := rfl
theorem okX_3 (σ : jS) : jok (eX σ) 3 = true := rfl
theorem shX_3 (σ : jS) : jsh (eX σ) 3 = (0, 500) := rfl
theorem okX_4 (σ : jS) : jok (eX σ) 4 = true := rfl
theorem shX_4 (σ : jS) : jsh (eX σ) 4 = (0 + 4, 0) := rfl
theorem okX_5 (σ : jS) : jok (eX σ) 5 = true := rfl
theorem shX_5 (σ : jS) : jsh (eX σ) 5 = (8 + 4, 0) := rfl
theorem okX_6 (σ : jS) : jok (eX σ) 6 = true := rfl
theorem shX_6 (σ : jS) : jsh (eX σ) 6 = (0, 56) := rfl
theorem okX_7 (σ : jS) : jok (eX σ) 7 = true := rfl
theorem shX_7 (σ : jS) : jsh (eX σ) 7 = (0, 56) := rfl
theorem okX_8 (σ : jS) : jok (eX σ) 8 = true := rfl
theorem shX_8 (σ : jS) : jsh (eX σ) 8 = (2, 56) := rfl
theorem okX_9 (σ : jS) : jok (eX σ) 9 = true := rfl
theorem shX_9 (σ : jS) : jsh (eX σ) 9 = (2, 56) := rfl
theorem okX_10 (σ : jS) : jok (eX σ) 10 = true := rfl
theorem shX_10 (σ : jS) : jsh (eX σ) 10 = (2, 16) := rfl
theorem okX_11 (σ : jS) : jok (eX σ) 11 = true := rfl
theorem shX_11 (σ : jS) : jsh (eX σ) 11 = (0, 16) := rfl
theorem okX_12 (σ : jS) : jok (eX σ) 12 = true := rfl
theorem shX_12 (σ : jS) : jsh (eX σ) 12 = (0, 6272) := rfl
theorem okX_13 (σ : jS) : jok (eX σ) 13 = true := rfl
theorem shX_13 (σ : jS) : jsh (eX σ) 13 = (0, 6272) := rfl
theorem okX_14 (σ : jS) : jok (eX σ) 14 = true := rfl
theorem shX_14 (σ : jS) : jsh (eX σ) 14 = (0, 6272) := rfl
theorem okX_15 (σ : jS) : jok (eX σ) 15 = true := rfl
theorem shX_15 (σ : jS) : jsh (eX σ) 15 = (0, 6272) := rfl
theorem okX_16 (σ : jS) : jok (eX σ) 16 = true := rfl
theorem shX_16 (σ : jS) : jsh (eX σ) 16 = (0, 16) := rfl
theorem okX_17 (σ : jS) : jok (eX σ) 17 = true := rfl
theorem shX_17 (σ : jS) : jsh (eX σ) 17 = (4 + 4, 0) := rfl
theorem okX_18 (σ : jS) : jok (eX σ) 18 = true := rfl
theorem shX_18 (σ : jS) : jsh (eX σ) 18 = (2, 64) := rfl
theorem okX_19 (σ : jS) : jok (eX σ) 19 = true := rfl
theorem shX_19 (σ : jS) : jsh (eX σ) 19 = (2, 648) := rfl
theorem okX_20 (σ : jS) : jok (eX σ) 20 = true := rfl
theorem shX_20 (σ : jS) : jsh (eX σ) 20 = (2 + 4, 0) := rfl
theorem okX_21 (σ : jS) : jok (eX σ) 21 = true := rfl
theorem shX_21 (σ : jS) : jsh (eX σ) 21 = (0, 16) := rfl
theorem okX_22 (σ : jS) : jok (eX σ) 22 = true := rfl
theorem shX_22 (σ : jS) : jsh (eX σ) 22 = (0, 16) := rfl
theorem okX_23 (σ : jS) : jok (eX σ) 23 = true := rfl
theorem shX_23 (σ : jS) : jsh (eX σ) 23 = (3 + 4, 0) := rfl
theorem okX_24 (σ : jS) : jok (eX σ) 24 = true := rfl
theorem shX_24 (σ : jS) : jsh (eX σ) 24 = (0, 40) := rfl
theorem okX_25 (σ : jS) : jok (eX σ) 25 = true := rfl
theorem shX_25 (σ : jS) : jsh (eX σ) 25 = (0, 40) := rfl
theorem okX_26 (σ : jS) : jok (eX σ) 26 = true := rfl
theorem shX_26 (σ : jS) : jsh (eX σ) 26 = (0, 20) := rfl
theorem okX_27 (σ : jS) : jok (eX σ) 27 = true := rfl
theorem shX_27 (σ : jS) : jsh (eX σ) 27 = (0, 20) := rfl
theorem okX_28 (σ : jS) : jok (eX σ) 28 = true := rfl
theorem shX_28 (σ : jS) : jsh (eX σ) 28 = (1, 20) := rfl
theorem okX_29 (σ : jS) : jok (eX σ) 29 = true := rfl
theorem shX_29 (σ : jS) : jsh (eX σ) 29 = (6 + 4, 0) := rfl
theorem okX_30 (σ : jS) : jok (eX σ) 30 = true := rfl
theorem shX_30 (σ : jS) : jsh (eX σ) 30 = (0, 4) := rfl
theorem okX_31 (σ : jS) : jok (eX σ) 31 = true := rfl
theorem shX_31 (σ : jS) : jsh (eX σ) 31 = (0, 4) := rfl
theorem okX_32 (σ : jS) : jok (eX σ) 32 = true := rfl
theorem shX_32 (σ : jS) : jsh (eX σ) 32 = (1 + 4, 0) := rfl
theorem okX_33 (σ : jS) : jok (eX σ) 33 = true := rfl
theorem shX_33 (σ : jS) : jsh (eX σ) 33 = (0, 120) := rfl
theorem okX_34 (σ : jS) : jok (eX σ) 34 = true := rfl
theorem shX_34 (σ : jS) : jsh (eX σ) 34 = (0, 120) := rfl
theorem okX_35 (σ : jS) : jok (eX σ) 35 = true := rfl
theorem shX_35 (σ : jS) : jsh (eX σ) 35 = (0, 16) := rfl
theorem okX_36 (σ : jS) : jok (eX σ) 36 = true := rfl
theorem shX_36 (σ : jS) : jsh (eX σ) 36 = (3, 2) := rfl
theorem okX_37 (σ : jS) : jok (eX σ) 37 = true := rfl
theorem shX_37 (σ : jS) : jsh (eX σ) 37 = (6 + 4, 0) := rfl
theorem okX_38 (σ : jS) : jok (eX σ) 38 = true := rfl
theorem shX_38 (σ : jS) : jsh (eX σ) 38 = (0, 4) := rfl
theorem okX_39 (σ : jS) : jok (eX σ) 39 = true := rfl
theorem shX_39 (σ : jS) : jsh (eX σ) 39 = (0, 4) := rfl
theorem okX_40 (σ : jS) : jok (eX σ) 40 = true := rfl
theorem shX_40 (σ : jS) : jsh (eX σ) 40 = (1 + 4, 0) := rfl
theorem okX_41 (σ : jS) : jok (eX σ) 41 = true := rfl
theorem shX_41 (σ : jS) : jsh (eX σ) 41 = (0, 120) := rfl
theorem okX_42 (σ : jS) : jok (eX σ) 42 = true := rfl
theorem shX_42 (σ : jS) : jsh (eX σ) 42 = (0, 120) := rfl
theorem okX_43 (σ : jS) : jok (eX σ) 43 = true := rfl
theorem shX_43 (σ : jS) : jsh (eX σ) 43 = (0, 16) := rfl
theorem okX_44 (σ : jS) : jok (eX σ) 44 = true := rfl
theorem shX_44 (σ : jS) : jsh (eX σ) 44 = (6 + 4, 0) := rfl
theorem okX_45 (σ : jS) : jok (eX σ) 45 = true := rfl
theorem shX_45 (σ : jS) : jsh (eX σ) 45 = (0, 4) := rfl
theorem okX_46 (σ : jS) : jok (eX σ) 46 = true := rfl
theorem shX_46 (σ : jS) : jsh (eX σ) 46 = (0, 4) := rfl
theorem okX_47 (σ : jS) : jok (eX σ) 47 = true := rfl
theorem shX_47 (σ : jS) : jsh (eX σ) 47 = (1 + 4, 0) := rfl
theorem okX_48 (σ : jS) : jok (eX σ) 48 = true := rfl
theorem shX_48 (σ : jS) : jsh (eX σ) 48 = (0, 120) := rfl
theorem okX_49 (σ : jS) : jok (eX σ) 49 = true := rfl
theorem shX_49 (σ : jS) : jsh (eX σ) 49 = (0, 120) := rfl
theorem okX_50 (σ : jS) : jok (eX σ) 50 = true := rfl
theorem shX_50 (σ : jS) : jsh (eX σ) 50 = (0, 16) := rfl
theorem okX_51 (σ : jS) : jok (eX σ) 51 = true := rfl
theorem shX_51 (σ : jS) : jsh (eX σ) 51 = (7 + 4, 0) := rfl
theorem okX_52 (σ : jS) : jok (eX σ) 52 = true := rfl
theorem shX_52 (σ : jS) : jsh (eX σ) 52 = (0, 16) := rfl
theorem okX_53 (σ : jS) : jok (eX σ) 53 = true := rfl
theorem shX_53 (σ : jS) : jsh (eX σ) 53 = (0, 40) := rfl
theorem okX_54 (σ : jS) : jok (eX σ) 54 = true := rfl
theorem shX_54 (σ : jS) : jsh (eX σ) 54 = (0, 40) := rfl
theorem okX_55 (σ : jS) : jok (eX σ) 55 = true := rfl
theorem shX_55 (σ : jS) : jsh (eX σ) 55 = (0, 4) := rfl
theorem okX_56 (σ : jS) : jok (eX σ) 56 = true := rfl
theorem shX_56 (σ : jS) : jsh (eX σ) 56 = (0, 4) := rfl
theorem okX_57 (σ : jS) : jok (eX σ) 57 = true := rfl
theorem shX_57 (σ : jS) : jsh (eX σ) 57 = (1 + 4, 0) := rfl
theorem okX_58 (σ : jS) : jok (eX σ) 58 = true := rfl
theorem shX_58 (σ : jS) : jsh (eX σ) 58 = (0, 120) := rfl
theorem okX_59 (σ : jS) : jok (eX σ) 59 = true := rfl
theorem shX_59 (σ : jS) : jsh (eX σ) 59 = (0, 120) := rfl
theorem okX_60 (σ : jS) : jok (eX σ) 60 = true := rfl
theorem shX_60 (σ : jS) : jsh (eX σ) 60 = (0, 16) := rfl
theorem okX_61 (σ : jS) : jok (eX σ) 61 = true := rfl
theorem shX_61 (σ : jS) : jsh (eX σ) 61 = (7 + 4, 0) := rfl
theorem okX_62 (σ : jS) : jok (eX σ) 62 = true := rfl
theorem shX_62 (σ : jS) : jsh (eX σ) 62 = (0, 16) := rfl
theorem okX_63 (σ : jS) : jok (eX σ) 63 = true := rfl
theorem shX_63 (σ : jS) : jsh (eX σ) 63 = (0, 40) := rfl
theorem okX_64 (σ : jS) : jok (eX σ) 64 = true := rfl
theorem shX_64 (σ : jS) : jsh (eX σ) 64 = (0, 40) := rfl
theorem okX_65 (σ : jS) : jok (eX σ) 65 = true := rfl
theorem shX_65 (σ : jS) : jsh (eX σ) 65 = (0, 4) := rfl
theorem okX_66 (σ : jS) : jok (eX σ) 66 = true := rfl
theorem shX_66 (σ : jS) : jsh (eX σ) 66 = (0, 4) := rfl
theorem okX_67 (σ : jS) : jok (eX σ) 67 = true := rfl
theorem shX_67 (σ : jS) : jsh (eX σ) 67 = (1 + 4, 0) := rfl
theorem okX_68 (σ : jS) : jok (eX σ) 68 = true := rfl
theorem shX_68 (σ : jS) : jsh (eX σ) 68 = (0, 120) := rfl
theorem okX_69 (σ : jS) : jok (eX σ) 69 = true := rfl
theorem shX_69 (σ : jS) : jsh (eX σ) 69 = (0, 120) := rfl
theorem okX_70 (σ : jS) : jok (eX σ) 70 = true := rfl
theorem shX_70 (σ : jS) : jsh (eX σ) 70 = (0, 16) := rfl
def jrwX (k h : Nat) : Bool := Nat.ble 1 h && (Nat.ble h nX && Nat.beq (SHX h).1 k)
theorem jrwX_ok {σ : jS} {k h : Nat} (q : jrwX k h = true) : jok (eX σ) h = true := by
  simp only [jrwX, Bool.and_eq_true] at q
  simp only [jok, Bool.and_eq_true]
  exact ⟨q.1, q.2.1, Nat.ble_eq_true_of_le (by have := Nat.le_of_ble_eq_true q.2.1; show h < 1000000; have e : nX = 70 := rfl; omega)⟩
theorem jrwX_sh {σ : jS} {k h : Nat} (q : jrwX k h = true) : jsh (eX σ) h = (k, (SHX h).2) := by
  simp only [jrwX, Bool.and_eq_true] at q
  have := Nat.eq_of_beq_eq_true q.2.2
  show SHX h = _
  rw [← this]
def SHM (h : Nat) : Nat × Nat := [(0, 0), (14, 0), (0, 16), (0, 40), (0, 40), (0, 16), (0, 120), (0, 4), (0, 4), (0, 4), (0, 4), (0, 500), (0, 16), (0, 40), (0, 40), (0, 120), (0, 4), (0, 4), (0, 147968), (0, 147968), (0, 147968), (0, 147968), (0, 620000), (0, 620000), (0, 147968), (0, 147968), (1, 1600), (0, 147968), (1, 256), (1, 4096), (0, 120000), (0, 120000), (0, 40), (0, 40), (0, 20), (0, 20), (1, 20), (0, 147968), (0, 147968), (0, 147968), (0, 280), (1, 2)].getD h (0, 0)
def nM : Nat := 41
def wM : Nat := 2967097
def rPMT : List (List Nat) := [[], [0, 2, 0, 3, 4, 5, 0, 6, 0, 7, 8, 9, 10, 0, 0, 11, 0, 0, 0, 0, 0, 0, 0, 0, 12, 0, 13, 14, 0, 15, 0, 16, 17, 0, 0, 0, 0, 18, 19, 0, 20, 21, 22, 23, 0, 24, 25, 26, 27, 28, 0, 0, 29, 30, 31, 0, 0, 32, 33, 0, 34, 35, 36, 0, 37, 38, 0, 39, 0, 40, 41], [], [], [], [], [], [], [], [], [], [], [], [], [], [], [], [], [], [], [], [], [], [], [], [], [], [], [], [], [], [], [], [], [], [], [], [], [], [], [], []]
def rPM (h i : Nat) : Nat := (rPMT.getD h []).getD i 0
def eM (σ : jS) : jM := (nM, wM, SHM, σ.1, σ.2.1, rPM)
theorem okM_1 (σ : jS) : jok (eM σ) 1 = true := rfl
theorem shM_1 (σ : jS) : jsh (eM σ) 1 = (10 + 4, 0) := rfl
theorem okM_2 (σ : jS) : jok (eM σ) 2 = true := rfl
theorem shM_2 (σ : jS) : jsh (eM σ) 2 = (0, 16) := rfl
theorem okM_3 (σ : jS) : jok (eM σ) 3 = true := rfl
theorem shM_3 (σ : jS) : jsh (eM σ) 3 = (0, 40) := rfl
theorem okM_4 (σ : jS) : jok (eM σ) 4 = true := rfl
theorem shM_4 (σ : jS) : jsh (eM σ) 4 = (0, 40) := rfl
theorem okM_5 (σ : jS) : jok (eM σ) 5 = true := rfl
theorem shM_5 (σ : jS) : jsh (eM σ) 5 = (0, 16) := rfl
theorem okM_6 (σ : jS) : jok (eM σ) 6 = true := rfl
theorem shM_6 (σ : jS) : jsh (eM σ) 6 = (0, 120) := rfl
theorem okM_7 (σ : jS) : jok (eM σ) 7 = true := rfl
theorem shM_7 (σ : jS) : jsh (eM σ) 7 = (0, 4) := rfl
theorem okM_8 (σ : jS) : jok (eM σ) 8 = true := rfl
theorem shM_8 (σ : jS) : jsh (eM σ) 8 = (0, 4) := rfl
theorem okM_9 (σ : jS) : jok (eM σ) 9 = true := rfl
theorem shM_9 (σ : jS) : jsh (eM σ) 9 = (0, 4) := rfl
theorem okM_10 (σ : jS) : jok (eM σ) 10 = true := rfl
theorem shM_10 (σ : jS) : jsh (eM σ) 10 = (0, 4) := rfl
theorem okM_11 (σ : jS) : jok (eM σ) 11 = true := rfl
theorem shM_11 (σ : jS) : jsh (eM σ) 11 = (0, 500) := rfl
theorem okM_12 (σ : jS) : jok (eM σ) 12 = true := rfl
theorem shM_12 (σ : jS) : jsh (eM σ) 12 = (0, 16) := rfl
theorem okM_13 (σ : jS) : jok (eM σ) 13 = true := rfl
theorem shM_13 (σ : jS) : jsh (eM σ) 13 = (0, 40) := rfl
theorem okM_14 (σ : jS) : jok (eM σ) 14 = true := rfl
theorem shM_14 (σ : jS) : jsh (eM σ) 14 = (0, 40) := rfl
theorem okM_15 (σ : jS) : jok (eM σ) 15 = true := rfl
theorem shM_15 (σ : jS) : jsh (eM σ) 15 = (0, 120) := rfl
theorem okM_16 (σ : jS) : jok (eM σ) 16 = true := rfl
theorem shM_16 (σ : jS) : jsh (eM σ) 16 = (0, 4) := rfl
theorem okM_17 (σ : jS) : jok (eM σ) 17 = true := rfl
theorem shM_17 (σ : jS) : jsh (eM σ) 17 = (0, 4) := rfl
theorem okM_18 (σ : jS) : jok (eM σ) 18 = true := rfl
theorem shM_18 (σ : jS) : jsh (eM σ) 18 = (0, 147968) := rfl
theorem okM_19 (σ : jS) : jok (eM σ) 19 = true := rfl
theorem shM_19 (σ : jS) : jsh (eM σ) 19 = (0, 147968) := rfl
theorem okM_20 (σ : jS) : jok (eM σ) 20 = true := rfl
theorem shM_20 (σ : jS) : jsh (eM σ) 20 = (0, 147968) := rfl
theorem okM_21 (σ : jS) : jok (eM σ) 21 = true := rfl
theorem shM_21 (σ : jS) : jsh (eM σ) 21 = (0, 147968) := rfl
theorem okM_22 (σ : jS) : jok (eM σ) 22 = true := rfl
theorem shM_22 (σ : jS) : jsh (eM σ) 22 = (0, 620000) := rfl
theorem okM_23 (σ : jS) : jok (eM σ) 23 = true := rfl
theorem shM_23 (σ : jS) : jsh (eM σ) 23 = (0, 620000) := rfl
theorem okM_24 (σ : jS) : jok (eM σ) 24 = true := rfl
theorem shM_24 (σ : jS) : jsh (eM σ) 24 = (0, 147968) := rfl
theorem okM_25 (σ : jS) : jok (eM σ) 25 = true := rfl
theorem shM_25 (σ : jS) : jsh (eM σ) 25 = (0, 147968) := rfl
theorem okM_26 (σ : jS) : jok (eM σ) 26 = true := rfl
theorem shM_26 (σ : jS) : jsh (eM σ) 26 = (1, 1600) := rfl
theorem okM_27 (σ : jS) : jok (eM σ) 27 = true := rfl
theorem shM_27 (σ : jS) : jsh (eM σ) 27 = (0, 147968) := rfl
theorem okM_28 (σ : jS) : jok (eM σ) 28 = true := rfl
theorem shM_28 (σ : jS) : jsh (eM σ) 28 = (1, 256) := rfl
theorem okM_29 (σ : jS) : jok (eM σ) 29 = true := rfl
theorem shM_29 (σ : jS) : jsh (eM σ) 29 = (1, 4096) := rfl
theorem okM_30 (σ : jS) : jok (eM σ) 30 = true := rfl
theorem shM_30 (σ : jS) : jsh (eM σ) 30 = (0, 120000) := rfl
theorem okM_31 (σ : jS) : jok (eM σ) 31 = true := rfl
theorem shM_31 (σ : jS) : jsh (eM σ) 31 = (0, 120000) := rfl
theorem okM_32 (σ : jS) : jok (eM σ) 32 = true := rfl
theorem shM_32 (σ : jS) : jsh (eM σ) 32 = (0, 40) := rfl
theorem okM_33 (σ : jS) : jok (eM σ) 33 = true := rfl
theorem shM_33 (σ : jS) : jsh (eM σ) 33 = (0, 40) := rfl
theorem okM_34 (σ : jS) : jok (eM σ) 34 = true := rfl
theorem shM_34 (σ : jS) : jsh (eM σ) 34 = (0, 20) := rfl
theorem okM_35 (σ : jS) : jok (eM σ) 35 = true := rfl
theorem shM_35 (σ : jS) : jsh (eM σ) 35 = (0, 20) := rfl
theorem okM_36 (σ : jS) : jok (eM σ) 36 = true := rfl
theorem shM_36 (σ : jS) : jsh (eM σ) 36 = (1, 20) := rfl
theorem okM_37 (σ : jS) : jok (eM σ) 37 = true := rfl
theorem shM_37 (σ : jS) : jsh (eM σ) 37 = (0, 147968) := rfl
theorem okM_38 (σ : jS) : jok (eM σ) 38 = true := rfl
theorem shM_38 (σ : jS) : jsh (eM σ) 38 = (0, 147968) := rfl
theorem okM_39 (σ : jS) : jok (eM σ) 39 = true := rfl
theorem shM_39 (σ : jS) : jsh (eM σ) 39 = (0, 147968) := rfl
theorem okM_40 (σ : jS) : jok (eM σ) 40 = true := rfl
theorem shM_40 (σ : jS) : jsh (eM σ) 40 = (0, 280) := rfl
theorem okM_41 (σ : jS) : jok (eM σ) 41 = true := rfl
theorem shM_41 (σ : jS) : jsh (eM σ) 41 = (1, 2) := rfl
def jrwM (k h : Nat) : Bool := Nat.ble 1 h && (Nat.ble h nM && Nat.beq (SHM h).1 k)
theorem jrwM_ok {σ : jS} {k h : Nat} (q : jrwM k h = true) : jok (eM σ) h = true := by
  simp only [jrwM, Bool.and_eq_true] at q
  simp only [jok, Bool.and_eq_true]
  exact ⟨q.1, q.2.1, Nat.ble_eq_true_of_le (by have := Nat.le_of_ble_eq_true q.2.1; show h < 1000000; have e : nM = 41 := rfl; omega)⟩
theorem jrwM_sh {σ : jS} {k h : Nat} (q : jrwM k h = true) : jsh (eM σ) h = (k, (SHM h).2) := by
  simp only [jrwM, Bool.and_eq_true] at q
  have := Nat.eq_of_beq_eq_true q.2.2
  show SHM h = _
  rw [← this]
theorem jC_0 : jC 0 RX0 TX0 12 := ⟨rfl, kw_X0, tyX0_ok, nmX0, kd_X0, rfl⟩
theorem jC_1 : jC 1 RX1 TX1 4 := ⟨rfl, kw_X1, tyX1_ok, nmX1, kd_X1, rfl⟩
theorem jC_2 : jC 2 RX2 TX2 5 := ⟨rfl, kw_X2, tyX2_ok, nmX2, kd_X2, rfl⟩
theorem jC_3 : jC 3 RX3 TX3 7 := ⟨rfl, kw_X3, tyX3_ok, nmX3, kd_X3, rfl⟩
theorem jC_4 : jC 4 RX4 TX4 6 := ⟨rfl, kw_X4, tyX4_ok, nmX4, kd_X4, rfl⟩
theorem jC_5 : jC 5 RX5 TX5 5 := ⟨rfl, kw_X5, tyX5_ok, nmX5, kd_X5, rfl⟩
theorem jC_6 : jC 6 RX7 TX7 7 := ⟨rfl, kw_X7, tyX7_ok, nmX7, kd_X7, rfl⟩
theorem jC_7 : jC 7 RX8 TX8 9 := ⟨rfl, kw_X8, tyX8_ok, nmX8, kd_X8, rfl⟩
theorem jC_8 : jC 8 RX9 TX9 6 := ⟨rfl, kw_X9, tyX9_ok, nmX9, kd_X9, rfl⟩
theorem jC_9 : jC 9 RX10 TX10 10 := ⟨rfl, kw_X10, tyX10_ok, nmX10, kd_X10, rfl⟩
theorem jC_10 : jC 10 RX11 TX11 71 := ⟨rfl, kw_X11, tyX11_ok, nmX11, kd_X11, rfl⟩
theorem kg_RX10_12 : Cond.fieldLink RX10 12 RX10 (TX10 0).2.1 (TX10 0).2.2.1 ∈ jG := kf_RX10_12
theorem fk_9_0 : jk (jty 9 0) = 2 := rfl
theorem fn_9_0 (x : Nat) (ad : Nat → Nat) : narrow (jty 9 0) (jv ad (.ref x)) = jv ad (.ref x) ∧ fits (jty 9 0) (jv ad (.ref x)) = true := jr_nf ad x
theorem fvX_1_0 (σ : jS) (ad : Nat → Nat) : jfv ad (eX σ) 9 1 0 = jv ad (.ref 2) := rfl
theorem kg_RX10_19 : Cond.fieldLink RX10 19 RX10 (TX10 1).2.1 (TX10 1).2.2.1 ∈ jG := kf_RX10_19
theorem fk_9_1 : jk (jty 9 1) = 2 := rfl
theorem fn_9_1 (x : Nat) (ad : Nat → Nat) : narrow (jty 9 1) (jv ad (.ref x)) = jv ad (.ref x) ∧ fits (jty 9 1) (jv ad (.ref x)) = true := jr_nf ad x
theorem fvX_1_1 (σ : jS) (ad : Nat → Nat) : jfv ad (eX σ) 9 1 1 = jv ad (.ref 4) := rfl
theorem kg_RX10_26 : Cond.fieldLink RX10 26 RX10 (TX10 2).2.1 (TX10 2).2.2.1 ∈ jG := kf_RX10_26
theorem fk_9_2 : jk (jty 9 2) = 2 := rfl
theorem fn_9_2 (x : Nat) (ad : Nat → Nat) : narrow (jty 9 2) (jv ad (.ref x)) = jv ad (.ref x) ∧ fits (jty 9 2) (jv ad (.ref x)) = true := jr_nf ad x
theorem fvX_1_2 (σ : jS) (ad : Nat → Nat) : jfv ad (eX σ) 9 1 2 = jv ad (.ref 17) := rfl
theorem kg_RX10_33 : Cond.fieldLink RX10 33 RX10 (TX10 3).2.1 (TX10 3).2.2.1 ∈ jG := kf_RX10_33
theorem fk_9_3 : jk (jty 9 3) = 2 := rfl
theorem fn_9_3 (x : Nat) (ad : Nat → Nat) : narrow (jty 9 3) (jv ad (.ref x)) = jv ad (.ref x) ∧ fits (jty 9 3) (jv ad (.ref x)) = true := jr_nf ad x
theorem fvX_1_3 (σ : jS) (ad : Nat → Nat) : jfv ad (eX σ) 9 1 3 = jv ad (.ref 20) := rfl
theorem kg_RX10_40 : Cond.fieldLink RX10 40 RX10 (TX10 4).2.1 (TX10 4).2.2.1 ∈ jG := kf_RX10_40
theorem fk_9_4 : jk (jty 9 4) = 2 := rfl
theorem fn_9_4 (x : Nat) (ad : Nat → Nat) : narrow (jty 9 4) (jv ad (.ref x)) = jv ad (.ref x) ∧ fits (jty 9 4) (jv ad (.ref x)) = true := jr_nf ad x
theorem fvX_1_4 (σ : jS) (ad : Nat → Nat) : jfv ad (eX σ) 9 1 4 = jv ad (.ref 23) := rfl
theorem kg_RX10_47 : Cond.fieldLink RX10 47 RX10 (TX10 5).2.1 (TX10 5).2.2.1 ∈ jG := kf_RX10_47
theorem fk_9_5 : jk (jty 9 5) = 2 := rfl
theorem fn_9_5 (x : Nat) (ad : Nat → Nat) : narrow (jty 9 5) (jv ad (.ref x)) = jv ad (.ref x) ∧ fits (jty 9 5) (jv ad (.ref x)) = true := jr_nf ad x
theorem fvX_1_5 (σ : jS) (ad : Nat → Nat) : jfv ad (eX σ) 9 1 5 = jv ad (.ref 29) := rfl
theorem kg_RX10_51 : Cond.fieldLink RX10 51 RX10 (TX10 6).2.1 (TX10 6).2.2.1 ∈ jG := kf_RX10_51
theorem fk_9_6 : jk (jty 9 6) = 2 := rfl
theorem fvX_1_6 (σ : jS) (ad : Nat → Nat) : jfv ad (eX σ) 9 1 6 = jv ad (.ref 36) := rfl
theorem kg_RX10_58 : Cond.fieldLink RX10 58 RX10 (TX10 7).2.1 (TX10 7).2.2.1 ∈ jG := kf_RX10_58
theorem ff_9_7 : (TX10 7).2.2.2 = false := rfl
theorem fk_9_7 : jk (jty 9 7) = 2 := rfl
theorem fn_9_7 (x : Nat) (ad : Nat → Nat) : narrow (jty 9 7) (jv ad (.ref x)) = jv ad (.ref x) ∧ fits (jty 9 7) (jv ad (.ref x)) = true := jr_nf ad x
theorem fvX_1_7 (σ : jS) (ad : Nat → Nat) : jfv ad (eX σ) 9 1 7 = jv ad (.ref σ.2.2.1) := rfl
theorem kg_RX10_62 : Cond.fieldLink RX10 62 RX10 (TX10 8).2.1 (TX10 8).2.2.1 ∈ jG := kf_RX10_62
theorem ff_9_8 : (TX10 8).2.2.2 = false := rfl
theorem fk_9_8 : jk (jty 9 8) = 2 := rfl
theorem fn_9_8 (x : Nat) (ad : Nat → Nat) : narrow (jty 9 8) (jv ad (.ref x)) = jv ad (.ref x) ∧ fits (jty 9 8) (jv ad (.ref x)) = true := jr_nf ad x
theorem fvX_1_8 (σ : jS) (ad : Nat → Nat) : jfv ad (eX σ) 9 1 8 = jv ad (.ref σ.2.2.2) := rfl
theorem kg_RX10_65 : Cond.fieldLink RX10 65 RX10 (TX10 9).2.1 (TX10 9).2.2.1 ∈ jG := kf_RX10_65
theorem ff_9_9 : (TX10 9).2.2.2 = false := rfl
theorem fk_9_9 : jk (jty 9 9) = 0 := rfl
theorem fn_9_9 (x : Int32) (ad : Nat → Nat) : narrow (jty 9 9) (jv ad (.int x)) = jv ad (.int x) ∧ fits (jty 9 9) (jv ad (.int x)) = true := ⟨rfl, rfl⟩
theorem fvX_1_9 (σ : jS) (ad : Nat → Nat) : jfv ad (eX σ) 9 1 9 = jv ad (.int (gI σ 1 9)) := rfl
theorem kg_RX5_9 : Cond.fieldLink RX5 9 RX5 (TX5 0).2.1 (TX5 0).2.2.1 ∈ jG := kf_RX5_9
theorem fk_5_0 : jk (jty 5 0) = 2 := rfl
theorem fvX_2_0 (σ : jS) (ad : Nat → Nat) : jfv ad (eX σ) 5 2 0 = jv ad (.ref 3) := rfl
theorem kg_RX5_15 : Cond.fieldLink RX5 15 RX5 (TX5 2).2.1 (TX5 2).2.2.1 ∈ jG := kf_RX5_15
theorem ff_5_2 : (TX5 2).2.2.2 = false := rfl
theorem fk_5_2 : jk (jty 5 2) = 0 := rfl
theorem fn_5_2 (x : Int32) (ad : Nat → Nat) : narrow (jty 5 2) (jv ad (.int x)) = jv ad (.int x) ∧ fits (jty 5 2) (jv ad (.int x)) = true := ⟨rfl, rfl⟩
theorem fvX_2_2 (σ : jS) (ad : Nat → Nat) : jfv ad (eX σ) 5 2 2 = jv ad (.int (gI σ 2 2)) := rfl
theorem kg_RX0_12 : Cond.fieldLink RX0 12 RX0 (TX0 0).2.1 (TX0 0).2.2.1 ∈ jG := kf_RX0_12
theorem fk_0_0 : jk (jty 0 0) = 2 := rfl
theorem fn_0_0 (x : Nat) (ad : Nat → Nat) : narrow (jty 0 0) (jv ad (.ref x)) = jv ad (.ref x) ∧ fits (jty 0 0) (jv ad (.ref x)) = true := jr_nf ad x
theorem fvX_4_0 (σ : jS) (ad : Nat → Nat) : jfv ad (eX σ) 0 4 0 = jv ad (.ref 5) := rfl
theorem kg_RX0_18 : Cond.fieldLink RX0 18 RX0 (TX0 4).2.1 (TX0 4).2.2.1 ∈ jG := kf_RX0_18
theorem fk_0_4 : jk (jty 0 4) = 2 := rfl
theorem fvX_4_4 (σ : jS) (ad : Nat → Nat) : jfv ad (eX σ) 0 4 4 = jv ad (.ref 11) := rfl
theorem kg_RX0_22 : Cond.fieldLink RX0 22 RX0 (TX0 5).2.1 (TX0 5).2.2.1 ∈ jG := kf_RX0_22
theorem fk_0_5 : jk (jty 0 5) = 2 := rfl
theorem fvX_4_5 (σ : jS) (ad : Nat → Nat) : jfv ad (eX σ) 0 4 5 = jv ad (.ref 12) := rfl
theorem kg_RX0_25 : Cond.fieldLink RX0 25 RX0 (TX0 6).2.1 (TX0 6).2.2.1 ∈ jG := kf_RX0_25
theorem fk_0_6 : jk (jty 0 6) = 2 := rfl
theorem fvX_4_6 (σ : jS) (ad : Nat → Nat) : jfv ad (eX σ) 0 4 6 = jv ad (.ref 13) := rfl
theorem kg_RX0_28 : Cond.fieldLink RX0 28 RX0 (TX0 7).2.1 (TX0 7).2.2.1 ∈ jG := kf_RX0_28
theorem fk_0_7 : jk (jty 0 7) = 2 := rfl
theorem fvX_4_7 (σ : jS) (ad : Nat → Nat) : jfv ad (eX σ) 0 4 7 = jv ad (.ref 14) := rfl
theorem kg_RX0_31 : Cond.fieldLink RX0 31 RX0 (TX0 8).2.1 (TX0 8).2.2.1 ∈ jG := kf_RX0_31
theorem fk_0_8 : jk (jty 0 8) = 2 := rfl
theorem fvX_4_8 (σ : jS) (ad : Nat → Nat) : jfv ad (eX σ) 0 4 8 = jv ad (.ref 15) := rfl
theorem kg_RX0_34 : Cond.fieldLink RX0 34 RX0 (TX0 9).2.1 (TX0 9).2.2.1 ∈ jG := kf_RX0_34
theorem fk_0_9 : jk (jty 0 9) = 2 := rfl
theorem fvX_4_9 (σ : jS) (ad : Nat → Nat) : jfv ad (eX σ) 0 4 9 = jv ad (.ref 16) := rfl
theorem kg_RX0_37 : Cond.fieldLink RX0 37 RX0 (TX0 11).2.1 (TX0 11).2.2.1 ∈ jG := kf_RX0_37
theorem ff_0_11 : (TX0 11).2.2.2 = false := rfl
theorem fk_0_11 : jk (jty 0 11) = 0 := rfl
theorem fn_0_11 (x : Int32) (ad : Nat → Nat) : narrow (jty 0 11) (jv ad (.int x)) = jv ad (.int x) ∧ fits (jty 0 11) (jv ad (.int x)) = true := ⟨rfl, rfl⟩
theorem fvX_4_11 (σ : jS) (ad : Nat → Nat) : jfv ad (eX σ) 0 4 11 = jv ad (.int (gI σ 4 11)) := rfl
theorem kg_RX9_9 : Cond.fieldLink RX9 9 RX9 (TX9 0).2.1 (TX9 0).2.2.1 ∈ jG := kf_RX9_9
theorem fk_8_0 : jk (jty 8 0) = 2 := rfl
theorem fvX_5_0 (σ : jS) (ad : Nat → Nat) : jfv ad (eX σ) 8 5 0 = jv ad (.ref 6) := rfl
theorem kg_RX9_15 : Cond.fieldLink RX9 15 RX9 (TX9 1).2.1 (TX9 1).2.2.1 ∈ jG := kf_RX9_15
theorem fk_8_1 : jk (jty 8 1) = 2 := rfl
theorem fvX_5_1 (σ : jS) (ad : Nat → Nat) : jfv ad (eX σ) 8 5 1 = jv ad (.ref 7) := rfl
theorem kg_RX9_18 : Cond.fieldLink RX9 18 RX9 (TX9 2).2.1 (TX9 2).2.2.1 ∈ jG := kf_RX9_18
theorem fk_8_2 : jk (jty 8 2) = 2 := rfl
theorem fvX_5_2 (σ : jS) (ad : Nat → Nat) : jfv ad (eX σ) 8 5 2 = jv ad (.ref 8) := rfl
theorem kg_RX9_22 : Cond.fieldLink RX9 22 RX9 (TX9 3).2.1 (TX9 3).2.2.1 ∈ jG := kf_RX9_22
theorem fk_8_3 : jk (jty 8 3) = 2 := rfl
theorem fvX_5_3 (σ : jS) (ad : Nat → Nat) : jfv ad (eX σ) 8 5 3 = jv ad (.ref 9) := rfl
theorem kg_RX9_25 : Cond.fieldLink RX9 25 RX9 (TX9 4).2.1 (TX9 4).2.2.1 ∈ jG := kf_RX9_25
theorem fk_8_4 : jk (jty 8 4) = 2 := rfl
theorem fvX_5_4 (σ : jS) (ad : Nat → Nat) : jfv ad (eX σ) 8 5 4 = jv ad (.ref 10) := rfl
theorem kg_RX4_11 : Cond.fieldLink RX4 11 RX4 (TX4 0).2.1 (TX4 0).2.2.1 ∈ jG := kf_RX4_11
theorem fk_4_0 : jk (jty 4 0) = 2 := rfl
theorem fvX_17_0 (σ : jS) (ad : Nat → Nat) : jfv ad (eX σ) 4 17 0 = jv ad (.ref 18) := rfl
theorem kg_RX4_15 : Cond.fieldLink RX4 15 RX4 (TX4 1).2.1 (TX4 1).2.2.1 ∈ jG := kf_RX4_15
theorem fk_4_1 : jk (jty 4 1) = 2 := rfl
theorem fvX_17_1 (σ : jS) (ad : Nat → Nat) : jfv ad (eX σ) 4 17 1 = jv ad (.ref 19) := rfl
theorem kg_RX2_9 : Cond.fieldLink RX2 9 RX2 (TX2 3).2.1 (TX2 3).2.2.1 ∈ jG := kf_RX2_9
theorem fk_2_3 : jk (jty 2 3) = 2 := rfl
theorem fvX_20_3 (σ : jS) (ad : Nat → Nat) : jfv ad (eX σ) 2 20 3 = jv ad (.ref 21) := rfl
theorem kg_RX2_15 : Cond.fieldLink RX2 15 RX2 (TX2 4).2.1 (TX2 4).2.2.1 ∈ jG := kf_RX2_15
theorem fk_2_4 : jk (jty 2 4) = 2 := rfl
theorem fvX_20_4 (σ : jS) (ad : Nat → Nat) : jfv ad (eX σ) 2 20 4 = jv ad (.ref 22) := rfl
theorem kg_RX3_9 : Cond.fieldLink RX3 9 RX3 (TX3 0).2.1 (TX3 0).2.2.1 ∈ jG := kf_RX3_9
theorem fk_3_0 : jk (jty 3 0) = 2 := rfl
theorem fvX_23_0 (σ : jS) (ad : Nat → Nat) : jfv ad (eX σ) 3 23 0 = jv ad (.ref 24) := rfl
theorem kg_RX3_15 : Cond.fieldLink RX3 15 RX3 (TX3 1).2.1 (TX3 1).2.2.1 ∈ jG := kf_RX3_15
theorem fk_3_1 : jk (jty 3 1) = 2 := rfl
theorem fvX_23_1 (σ : jS) (ad : Nat → Nat) : jfv ad (eX σ) 3 23 1 = jv ad (.ref 25) := rfl
theorem kg_RX3_18 : Cond.fieldLink RX3 18 RX3 (TX3 4).2.1 (TX3 4).2.2.1 ∈ jG := kf_RX3_18
theorem fk_3_4 : jk (jty 3 4) = 2 := rfl
theorem fvX_23_4 (σ : jS) (ad : Nat → Nat) : jfv ad (eX σ) 3 23 4 = jv ad (.ref 26) := rfl
theorem kg_RX3_21 : Cond.fieldLink RX3 21 RX3 (TX3 5).2.1 (TX3 5).2.2.1 ∈ jG := kf_RX3_21
theorem fk_3_5 : jk (jty 3 5) = 2 := rfl
theorem fvX_23_5 (σ : jS) (ad : Nat → Nat) : jfv ad (eX σ) 3 23 5 = jv ad (.ref 27) := rfl
theorem kg_RX3_24 : Cond.fieldLink RX3 24 RX3 (TX3 6).2.1 (TX3 6).2.2.1 ∈ jG := kf_RX3_24
theorem fk_3_6 : jk (jty 3 6) = 2 := rfl
theorem fvX_23_6 (σ : jS) (ad : Nat → Nat) : jfv ad (eX σ) 3 23 6 = jv ad (.ref 28) := rfl
theorem kg_RX7_9 : Cond.fieldLink RX7 9 RX7 (TX7 0).2.1 (TX7 0).2.2.1 ∈ jG := kf_RX7_9
theorem fk_6_0 : jk (jty 6 0) = 2 := rfl
theorem fvX_29_0 (σ : jS) (ad : Nat → Nat) : jfv ad (eX σ) 6 29 0 = jv ad (.ref 30) := rfl
theorem fvX_37_0 (σ : jS) (ad : Nat → Nat) : jfv ad (eX σ) 6 37 0 = jv ad (.ref 38) := rfl
theorem fvX_44_0 (σ : jS) (ad : Nat → Nat) : jfv ad (eX σ) 6 44 0 = jv ad (.ref 45) := rfl
theorem kg_RX7_15 : Cond.fieldLink RX7 15 RX7 (TX7 1).2.1 (TX7 1).2.2.1 ∈ jG := kf_RX7_15
theorem fk_6_1 : jk (jty 6 1) = 2 := rfl
theorem fvX_29_1 (σ : jS) (ad : Nat → Nat) : jfv ad (eX σ) 6 29 1 = jv ad (.ref 31) := rfl
theorem fvX_37_1 (σ : jS) (ad : Nat → Nat) : jfv ad (eX σ) 6 37 1 = jv ad (.ref 39) := rfl
theorem fvX_44_1 (σ : jS) (ad : Nat → Nat) : jfv ad (eX σ) 6 44 1 = jv ad (.ref 46) := rfl
theorem kg_RX7_21 : Cond.fieldLink RX7 21 RX7 (TX7 2).2.1 (TX7 2).2.2.1 ∈ jG := kf_RX7_21
theorem fk_6_2 : jk (jty 6 2) = 2 := rfl
theorem fn_6_2 (x : Nat) (ad : Nat → Nat) : narrow (jty 6 2) (jv ad (.ref x)) = jv ad (.ref x) ∧ fits (jty 6 2) (jv ad (.ref x)) = true := jr_nf ad x
theorem fvX_29_2 (σ : jS) (ad : Nat → Nat) : jfv ad (eX σ) 6 29 2 = jv ad (.ref 32) := rfl
theorem fvX_37_2 (σ : jS) (ad : Nat → Nat) : jfv ad (eX σ) 6 37 2 = jv ad (.ref 40) := rfl
theorem fvX_44_2 (σ : jS) (ad : Nat → Nat) : jfv ad (eX σ) 6 44 2 = jv ad (.ref 47) := rfl
theorem kg_RX1_9 : Cond.fieldLink RX1 9 RX1 (TX1 0).2.1 (TX1 0).2.2.1 ∈ jG := kf_RX1_9
theorem fk_1_0 : jk (jty 1 0) = 2 := rfl
theorem fvX_32_0 (σ : jS) (ad : Nat → Nat) : jfv ad (eX σ) 1 32 0 = jv ad (.ref 33) := rfl
theorem fvX_40_0 (σ : jS) (ad : Nat → Nat) : jfv ad (eX σ) 1 40 0 = jv ad (.ref 41) := rfl
theorem fvX_47_0 (σ : jS) (ad : Nat → Nat) : jfv ad (eX σ) 1 47 0 = jv ad (.ref 48) := rfl
theorem fvX_57_0 (σ : jS) (ad : Nat → Nat) : jfv ad (eX σ) 1 57 0 = jv ad (.ref 58) := rfl
theorem fvX_67_0 (σ : jS) (ad : Nat → Nat) : jfv ad (eX σ) 1 67 0 = jv ad (.ref 68) := rfl
theorem kg_RX1_15 : Cond.fieldLink RX1 15 RX1 (TX1 1).2.1 (TX1 1).2.2.1 ∈ jG := kf_RX1_15
theorem fk_1_1 : jk (jty 1 1) = 2 := rfl
theorem fvX_32_1 (σ : jS) (ad : Nat → Nat) : jfv ad (eX σ) 1 32 1 = jv ad (.ref 34) := rfl
theorem fvX_40_1 (σ : jS) (ad : Nat → Nat) : jfv ad (eX σ) 1 40 1 = jv ad (.ref 42) := rfl
theorem fvX_47_1 (σ : jS) (ad : Nat → Nat) : jfv ad (eX σ) 1 47 1 = jv ad (.ref 49) := rfl
theorem fvX_57_1 (σ : jS) (ad : Nat → Nat) : jfv ad (eX σ) 1 57 1 = jv ad (.ref 59) := rfl
theorem fvX_67_1 (σ : jS) (ad : Nat → Nat) : jfv ad (eX σ) 1 67 1 = jv ad (.ref 69) := rfl
theorem kg_RX1_18 : Cond.fieldLink RX1 18 RX1 (TX1 2).2.1 (TX1 2).2.2.1 ∈ jG := kf_RX1_18
theorem fk_1_2 : jk (jty 1 2) = 2 := rfl
theorem fvX_32_2 (σ : jS) (ad : Nat → Nat) : jfv ad (eX σ) 1 32 2 = jv ad (.ref 35) := rfl
theorem fvX_40_2 (σ : jS) (ad : Nat → Nat) : jfv ad (eX σ) 1 40 2 = jv ad (.ref 43) := rfl
theorem fvX_47_2 (σ : jS) (ad : Nat → Nat) : jfv ad (eX σ) 1 47 2 = jv ad (.ref 50) := rfl
theorem fvX_57_2 (σ : jS) (ad : Nat → Nat) : jfv ad (eX σ) 1 57 2 = jv ad (.ref 60) := rfl
theorem fvX_67_2 (σ : jS) (ad : Nat → Nat) : jfv ad (eX σ) 1 67 2 = jv ad (.ref 70) := rfl
theorem kg_RX8_9 : Cond.fieldLink RX8 9 RX8 (TX8 0).2.1 (TX8 0).2.2.1 ∈ jG := kf_RX8_9
theorem fk_7_0 : jk (jty 7 0) = 2 := rfl
theorem fvX_51_0 (σ : jS) (ad : Nat → Nat) : jfv ad (eX σ) 7 51 0 = jv ad (.ref 52) := rfl
theorem fvX_61_0 (σ : jS) (ad : Nat → Nat) : jfv ad (eX σ) 7 61 0 = jv ad (.ref 62) := rfl
theorem kg_RX8_15 : Cond.fieldLink RX8 15 RX8 (TX8 1).2.1 (TX8 1).2.2.1 ∈ jG := kf_RX8_15
theorem fk_7_1 : jk (jty 7 1) = 2 := rfl
theorem fvX_51_1 (σ : jS) (ad : Nat → Nat) : jfv ad (eX σ) 7 51 1 = jv ad (.ref 53) := rfl
theorem fvX_61_1 (σ : jS) (ad : Nat → Nat) : jfv ad (eX σ) 7 61 1 = jv ad (.ref 63) := rfl
theorem kg_RX8_18 : Cond.fieldLink RX8 18 RX8 (TX8 2).2.1 (TX8 2).2.2.1 ∈ jG := kf_RX8_18
theorem fk_7_2 : jk (jty 7 2) = 2 := rfl
theorem fvX_51_2 (σ : jS) (ad : Nat → Nat) : jfv ad (eX σ) 7 51 2 = jv ad (.ref 54) := rfl
theorem fvX_61_2 (σ : jS) (ad : Nat → Nat) : jfv ad (eX σ) 7 61 2 = jv ad (.ref 64) := rfl
theorem kg_RX8_21 : Cond.fieldLink RX8 21 RX8 (TX8 3).2.1 (TX8 3).2.2.1 ∈ jG := kf_RX8_21
theorem fk_7_3 : jk (jty 7 3) = 2 := rfl
theorem fvX_51_3 (σ : jS) (ad : Nat → Nat) : jfv ad (eX σ) 7 51 3 = jv ad (.ref 55) := rfl
theorem fvX_61_3 (σ : jS) (ad : Nat → Nat) : jfv ad (eX σ) 7 61 3 = jv ad (.ref 65) := rfl
theorem kg_RX8_24 : Cond.fieldLink RX8 24 RX8 (TX8 4).2.1 (TX8 4).2.2.1 ∈ jG := kf_RX8_24
theorem fk_7_4 : jk (jty 7 4) = 2 := rfl
theorem fvX_51_4 (σ : jS) (ad : Nat → Nat) : jfv ad (eX σ) 7 51 4 = jv ad (.ref 56) := rfl
theorem fvX_61_4 (σ : jS) (ad : Nat → Nat) : jfv ad (eX σ) 7 61 4 = jv ad (.ref 66) := rfl
theorem kg_RX8_30 : Cond.fieldLink RX8 30 RX8 (TX8 5).2.1 (TX8 5).2.2.1 ∈ jG := kf_RX8_30
theorem fk_7_5 : jk (jty 7 5) = 2 := rfl
theorem fn_7_5 (x : Nat) (ad : Nat → Nat) : narrow (jty 7 5) (jv ad (.ref x)) = jv ad (.ref x) ∧ fits (jty 7 5) (jv ad (.ref x)) = true := jr_nf ad x
theorem fvX_51_5 (σ : jS) (ad : Nat → Nat) : jfv ad (eX σ) 7 51 5 = jv ad (.ref 57) := rfl
theorem fvX_61_5 (σ : jS) (ad : Nat → Nat) : jfv ad (eX σ) 7 61 5 = jv ad (.ref 67) := rfl
theorem kg_RX10_69 : Cond.fieldLink RX10 69 RX5 (TX5 1).2.1 (TX5 1).2.2.1 ∈ jG := kf_RX10_69
theorem ff_5_1 : (TX5 1).2.2.2 = false := rfl
theorem fk_5_1 : jk (jty 5 1) = 0 := rfl
theorem fn_5_1 (x : Int32) (ad : Nat → Nat) : narrow (jty 5 1) (jv ad (.int x)) = jv ad (.int x) ∧ fits (jty 5 1) (jv ad (.int x)) = true := ⟨rfl, rfl⟩
theorem fvX_2_1 (σ : jS) (ad : Nat → Nat) : jfv ad (eX σ) 5 2 1 = jv ad (.int (gI σ 2 1)) := rfl
theorem kg_RX5_19 : Cond.fieldLink RX5 19 RX5 (TX5 1).2.1 (TX5 1).2.2.1 ∈ jG := kf_RX5_19
theorem kg_RX10_80 : Cond.fieldLink RX10 80 RX5 (TX5 2).2.1 (TX5 2).2.2.1 ∈ jG := kf_RX10_80
theorem kg_RX10_83 : Cond.fieldLink RX10 83 RX7 (TX7 2).2.1 (TX7 2).2.2.1 ∈ jG := kf_RX10_83
theorem kg_RX10_87 : Cond.fieldLink RX10 87 RX8 (TX8 5).2.1 (TX8 5).2.2.1 ∈ jG := kf_RX10_87
theorem kg_RX10_94 : Cond.fieldLink RX10 94 RX7 (TX7 0).2.1 (TX7 0).2.2.1 ∈ jG := kf_RX10_94
theorem kg_RX10_108 : Cond.fieldLink RX10 108 RX7 (TX7 1).2.1 (TX7 1).2.2.1 ∈ jG := kf_RX10_108
theorem kg_RX10_118 : Cond.fieldLink RX10 118 RX7 (TX7 6).2.1 (TX7 6).2.2.1 ∈ jG := kf_RX10_118
theorem ff_6_6 : (TX7 6).2.2.2 = false := rfl
theorem fk_6_6 : jk (jty 6 6) = 0 := rfl
theorem fn_6_6 {x : Int32} (h : jb x = true) (ad : Nat → Nat) : narrow (jty 6 6) (jv ad (.int x)) = jv ad (.int x) ∧ fits (jty 6 6) (jv ad (.int x)) = true := jb_nf h
theorem fvX_29_6 (σ : jS) (ad : Nat → Nat) : jfv ad (eX σ) 6 29 6 = jv ad (.int (gI σ 29 6)) := rfl
theorem fvX_37_6 (σ : jS) (ad : Nat → Nat) : jfv ad (eX σ) 6 37 6 = jv ad (.int (gI σ 37 6)) := rfl
theorem fvX_44_6 (σ : jS) (ad : Nat → Nat) : jfv ad (eX σ) 6 44 6 = jv ad (.int (gI σ 44 6)) := rfl
theorem kg_RX10_125 : Cond.fieldLink RX10 125 RX8 (TX8 6).2.1 (TX8 6).2.2.1 ∈ jG := kf_RX10_125
theorem ff_7_6 : (TX8 6).2.2.2 = false := rfl
theorem fk_7_6 : jk (jty 7 6) = 0 := rfl
theorem fn_7_6 (x : Int32) (ad : Nat → Nat) : narrow (jty 7 6) (jv ad (.int x)) = jv ad (.int x) ∧ fits (jty 7 6) (jv ad (.int x)) = true := ⟨rfl, rfl⟩
theorem fvX_51_6 (σ : jS) (ad : Nat → Nat) : jfv ad (eX σ) 7 51 6 = jv ad (.int (gI σ 51 6)) := rfl
theorem fvX_61_6 (σ : jS) (ad : Nat → Nat) : jfv ad (eX σ) 7 61 6 = jv ad (.int (gI σ 61 6)) := rfl
theorem kg_RX5_33 : Cond.fieldLink RX5 33 RX5 (TX5 3).2.1 (TX5 3).2.2.1 ∈ jG := kf_RX5_33
theorem ff_5_3 : (TX5 3).2.2.2 = false := rfl
theorem fk_5_3 : jk (jty 5 3) = 0 := rfl
theorem fn_5_3 (x : Int32) (ad : Nat → Nat) : narrow (jty 5 3) (jv ad (.int x)) = jv ad (.int x) ∧ fits (jty 5 3) (jv ad (.int x)) = true := ⟨rfl, rfl⟩
theorem fvX_2_3 (σ : jS) (ad : Nat → Nat) : jfv ad (eX σ) 5 2 3 = jv ad (.int (gI σ 2 3)) := rfl
theorem kg_RX5_36 : Cond.fieldLink RX5 36 RX5 (TX5 4).2.1 (TX5 4).2.2.1 ∈ jG := kf_RX5_36
theorem ff_5_4 : (TX5 4).2.2.2 = false := rfl
theorem fk_5_4 : jk (jty 5 4) = 0 := rfl
theorem fn_5_4 (x : Int32) (ad : Nat → Nat) : narrow (jty 5 4) (jv ad (.int x)) = jv ad (.int x) ∧ fits (jty 5 4) (jv ad (.int x)) = true := ⟨rfl, rfl⟩
theorem fvX_2_4 (σ : jS) (ad : Nat → Nat) : jfv ad (eX σ) 5 2 4 = jv ad (.int (gI σ 2 4)) := rfl
theorem kg_RX8_34 : Cond.fieldLink RX8 34 RX8 (TX8 6).2.1 (TX8 6).2.2.1 ∈ jG := kf_RX8_34
theorem kg_RX8_38 : Cond.fieldLink RX8 38 RX8 (TX8 7).2.1 (TX8 7).2.2.1 ∈ jG := kf_RX8_38
theorem ff_7_7 : (TX8 7).2.2.2 = false := rfl
theorem fk_7_7 : jk (jty 7 7) = 0 := rfl
theorem fn_7_7 (x : Int32) (ad : Nat → Nat) : narrow (jty 7 7) (jv ad (.int x)) = jv ad (.int x) ∧ fits (jty 7 7) (jv ad (.int x)) = true := ⟨rfl, rfl⟩
theorem fvX_51_7 (σ : jS) (ad : Nat → Nat) : jfv ad (eX σ) 7 51 7 = jv ad (.int (gI σ 51 7)) := rfl
theorem fvX_61_7 (σ : jS) (ad : Nat → Nat) : jfv ad (eX σ) 7 61 7 = jv ad (.int (gI σ 61 7)) := rfl
theorem kg_RX8_41 : Cond.fieldLink RX8 41 RX8 (TX8 8).2.1 (TX8 8).2.2.1 ∈ jG := kf_RX8_41
theorem ff_7_8 : (TX8 8).2.2.2 = false := rfl
theorem fk_7_8 : jk (jty 7 8) = 0 := rfl
theorem fn_7_8 (x : Int32) (ad : Nat → Nat) : narrow (jty 7 8) (jv ad (.int x)) = jv ad (.int x) ∧ fits (jty 7 8) (jv ad (.int x)) = true := ⟨rfl, rfl⟩
theorem fvX_51_8 (σ : jS) (ad : Nat → Nat) : jfv ad (eX σ) 7 51 8 = jv ad (.int (gI σ 51 8)) := rfl
theorem fvX_61_8 (σ : jS) (ad : Nat → Nat) : jfv ad (eX σ) 7 61 8 = jv ad (.int (gI σ 61 8)) := rfl
theorem kg_RX1_21 : Cond.fieldLink RX1 21 RX1 (TX1 3).2.1 (TX1 3).2.2.1 ∈ jG := kf_RX1_21
theorem ff_1_3 : (TX1 3).2.2.2 = false := rfl
theorem fk_1_3 : jk (jty 1 3) = 0 := rfl
theorem fn_1_3 (x : Int32) (ad : Nat → Nat) : narrow (jty 1 3) (jv ad (.int x)) = jv ad (.int x) ∧ fits (jty 1 3) (jv ad (.int x)) = true := ⟨rfl, rfl⟩
theorem fvX_32_3 (σ : jS) (ad : Nat → Nat) : jfv ad (eX σ) 1 32 3 = jv ad (.int (gI σ 32 3)) := rfl
theorem fvX_40_3 (σ : jS) (ad : Nat → Nat) : jfv ad (eX σ) 1 40 3 = jv ad (.int (gI σ 40 3)) := rfl
theorem fvX_47_3 (σ : jS) (ad : Nat → Nat) : jfv ad (eX σ) 1 47 3 = jv ad (.int (gI σ 47 3)) := rfl
theorem fvX_57_3 (σ : jS) (ad : Nat → Nat) : jfv ad (eX σ) 1 57 3 = jv ad (.int (gI σ 57 3)) := rfl
theorem fvX_67_3 (σ : jS) (ad : Nat → Nat) : jfv ad (eX σ) 1 67 3 = jv ad (.int (gI σ 67 3)) := rfl
theorem kg_RX5_73 : Cond.fieldLink RX5 73 RX8 (TX8 6).2.1 (TX8 6).2.2.1 ∈ jG := kf_RX5_73
theorem kg_RX10_298 : Cond.fieldLink RX10 298 RX8 (TX8 3).2.1 (TX8 3).2.2.1 ∈ jG := kf_RX10_298
theorem kg_RX10_301 : Cond.fieldLink RX10 301 RX8 (TX8 4).2.1 (TX8 4).2.2.1 ∈ jG := kf_RX10_301
theorem kg_RX3_28 : Cond.fieldLink RX3 28 RX3 (TX3 2).2.1 (TX3 2).2.2.1 ∈ jG := kf_RX3_28
theorem ff_3_2 : (TX3 2).2.2.2 = false := rfl
theorem fk_3_2 : jk (jty 3 2) = 0 := rfl
theorem fn_3_2 (x : Int32) (ad : Nat → Nat) : narrow (jty 3 2) (jv ad (.int x)) = jv ad (.int x) ∧ fits (jty 3 2) (jv ad (.int x)) = true := ⟨rfl, rfl⟩
theorem fvX_23_2 (σ : jS) (ad : Nat → Nat) : jfv ad (eX σ) 3 23 2 = jv ad (.int (gI σ 23 2)) := rfl
theorem kg_RX3_32 : Cond.fieldLink RX3 32 RX3 (TX3 3).2.1 (TX3 3).2.2.1 ∈ jG := kf_RX3_32
theorem ff_3_3 : (TX3 3).2.2.2 = false := rfl
theorem fk_3_3 : jk (jty 3 3) = 0 := rfl
theorem fn_3_3 (x : Int32) (ad : Nat → Nat) : narrow (jty 3 3) (jv ad (.int x)) = jv ad (.int x) ∧ fits (jty 3 3) (jv ad (.int x)) = true := ⟨rfl, rfl⟩
theorem fvX_23_3 (σ : jS) (ad : Nat → Nat) : jfv ad (eX σ) 3 23 3 = jv ad (.int (gI σ 23 3)) := rfl
theorem kg_RX10_307 : Cond.fieldLink RX10 307 RX0 (TX0 0).2.1 (TX0 0).2.2.1 ∈ jG := kf_RX10_307
theorem kg_RX10_178 : Cond.fieldLink RX10 178 RX7 (TX7 3).2.1 (TX7 3).2.2.1 ∈ jG := kf_RX10_178
theorem ff_6_3 : (TX7 3).2.2.2 = false := rfl
theorem fk_6_3 : jk (jty 6 3) = 0 := rfl
theorem fn_6_3 (x : Int32) (ad : Nat → Nat) : narrow (jty 6 3) (jv ad (.int x)) = jv ad (.int x) ∧ fits (jty 6 3) (jv ad (.int x)) = true := ⟨rfl, rfl⟩
theorem fvX_29_3 (σ : jS) (ad : Nat → Nat) : jfv ad (eX σ) 6 29 3 = jv ad (.int (gI σ 29 3)) := rfl
theorem fvX_37_3 (σ : jS) (ad : Nat → Nat) : jfv ad (eX σ) 6 37 3 = jv ad (.int (gI σ 37 3)) := rfl
theorem fvX_44_3 (σ : jS) (ad : Nat → Nat) : jfv ad (eX σ) 6 44 3 = jv ad (.int (gI σ 44 3)) := rfl
theorem kg_RX10_181 : Cond.fieldLink RX10 181 RX7 (TX7 4).2.1 (TX7 4).2.2.1 ∈ jG := kf_RX10_181
theorem ff_6_4 : (TX7 4).2.2.2 = false := rfl
theorem fk_6_4 : jk (jty 6 4) = 0 := rfl
theorem fn_6_4 (x : Int32) (ad : Nat → Nat) : narrow (jty 6 4) (jv ad (.int x)) = jv ad (.int x) ∧ fits (jty 6 4) (jv ad (.int x)) = true := ⟨rfl, rfl⟩
theorem fvX_29_4 (σ : jS) (ad : Nat → Nat) : jfv ad (eX σ) 6 29 4 = jv ad (.int (gI σ 29 4)) := rfl
theorem fvX_37_4 (σ : jS) (ad : Nat → Nat) : jfv ad (eX σ) 6 37 4 = jv ad (.int (gI σ 37 4)) := rfl
theorem fvX_44_4 (σ : jS) (ad : Nat → Nat) : jfv ad (eX σ) 6 44 4 = jv ad (.int (gI σ 44 4)) := rfl
theorem kg_RX9_28 : Cond.fieldLink RX9 28 RX9 (TX9 5).2.1 (TX9 5).2.2.1 ∈ jG := kf_RX9_28
theorem ff_8_5 : (TX9 5).2.2.2 = false := rfl
theorem fk_8_5 : jk (jty 8 5) = 0 := rfl
theorem fn_8_5 {x : Int32} (h : jb x = true) (ad : Nat → Nat) : narrow (jty 8 5) (jv ad (.int x)) = jv ad (.int x) ∧ fits (jty 8 5) (jv ad (.int x)) = true := jb_nf h
theorem fvX_5_5 (σ : jS) (ad : Nat → Nat) : jfv ad (eX σ) 8 5 5 = jv ad (.int (gI σ 5 5)) := rfl
theorem kg_RX9_42 : Cond.fieldLink RX9 42 RX8 (TX8 7).2.1 (TX8 7).2.2.1 ∈ jG := kf_RX9_42
theorem kg_RX9_48 : Cond.fieldLink RX9 48 RX8 (TX8 1).2.1 (TX8 1).2.2.1 ∈ jG := kf_RX9_48
theorem kg_RX9_55 : Cond.fieldLink RX9 55 RX8 (TX8 2).2.1 (TX8 2).2.2.1 ∈ jG := kf_RX9_55
theorem kg_RX9_58 : Cond.fieldLink RX9 58 RX8 (TX8 0).2.1 (TX8 0).2.2.1 ∈ jG := kf_RX9_58
theorem kg_RX0_41 : Cond.fieldLink RX0 41 RX1 (TX1 2).2.1 (TX1 2).2.2.1 ∈ jG := kf_RX0_41
theorem kg_RX10_128 : Cond.fieldLink RX10 128 RX8 (TX8 7).2.1 (TX8 7).2.2.1 ∈ jG := kf_RX10_128
theorem kg_RX10_131 : Cond.fieldLink RX10 131 RX1 (TX1 3).2.1 (TX1 3).2.2.1 ∈ jG := kf_RX10_131
theorem kg_RX10_134 : Cond.fieldLink RX10 134 RX8 (TX8 8).2.1 (TX8 8).2.2.1 ∈ jG := kf_RX10_134
theorem kg_RX10_137 : Cond.fieldLink RX10 137 RX3 (TX3 2).2.1 (TX3 2).2.2.1 ∈ jG := kf_RX10_137
theorem kg_RX10_140 : Cond.fieldLink RX10 140 RX3 (TX3 3).2.1 (TX3 3).2.2.1 ∈ jG := kf_RX10_140
theorem kg_RX10_147 : Cond.fieldLink RX10 147 RX8 (TX8 0).2.1 (TX8 0).2.2.1 ∈ jG := kf_RX10_147
theorem kg_RX10_160 : Cond.fieldLink RX10 160 RX1 (TX1 2).2.1 (TX1 2).2.2.1 ∈ jG := kf_RX10_160
theorem kg_RX10_166 : Cond.fieldLink RX10 166 RX8 (TX8 1).2.1 (TX8 1).2.2.1 ∈ jG := kf_RX10_166
theorem kg_RX10_169 : Cond.fieldLink RX10 169 RX8 (TX8 2).2.1 (TX8 2).2.2.1 ∈ jG := kf_RX10_169
theorem kg_RX10_172 : Cond.fieldLink RX10 172 RX1 (TX1 0).2.1 (TX1 0).2.2.1 ∈ jG := kf_RX10_172
theorem kg_RX10_175 : Cond.fieldLink RX10 175 RX1 (TX1 1).2.1 (TX1 1).2.2.1 ∈ jG := kf_RX10_175
theorem kg_RX0_54 : Cond.fieldLink RX0 54 RX9 (TX9 0).2.1 (TX9 0).2.2.1 ∈ jG := kf_RX0_54
theorem kg_RX0_65 : Cond.fieldLink RX0 65 RX9 (TX9 1).2.1 (TX9 1).2.2.1 ∈ jG := kf_RX0_65
theorem kg_RX0_76 : Cond.fieldLink RX0 76 RX9 (TX9 2).2.1 (TX9 2).2.2.1 ∈ jG := kf_RX0_76
theorem kg_RX0_83 : Cond.fieldLink RX0 83 RX9 (TX9 4).2.1 (TX9 4).2.2.1 ∈ jG := kf_RX0_83
theorem kg_RX10_292 : Cond.fieldLink RX10 292 RX7 (TX7 5).2.1 (TX7 5).2.2.1 ∈ jG := kf_RX10_292
theorem ff_6_5 : (TX7 5).2.2.2 = false := rfl
theorem fk_6_5 : jk (jty 6 5) = 0 := rfl
theorem fn_6_5 (x : Int32) (ad : Nat → Nat) : narrow (jty 6 5) (jv ad (.int x)) = jv ad (.int x) ∧ fits (jty 6 5) (jv ad (.int x)) = true := ⟨rfl, rfl⟩
theorem fvX_29_5 (σ : jS) (ad : Nat → Nat) : jfv ad (eX σ) 6 29 5 = jv ad (.int (gI σ 29 5)) := rfl
theorem fvX_37_5 (σ : jS) (ad : Nat → Nat) : jfv ad (eX σ) 6 37 5 = jv ad (.int (gI σ 37 5)) := rfl
theorem fvX_44_5 (σ : jS) (ad : Nat → Nat) : jfv ad (eX σ) 6 44 5 = jv ad (.int (gI σ 44 5)) := rfl
theorem kg_RX10_224 : Cond.fieldLink RX10 224 RX0 (TX0 1).2.1 (TX0 1).2.2.1 ∈ jG := kf_RX10_224
theorem ff_0_1 : (TX0 1).2.2.2 = false := rfl
theorem fk_0_1 : jk (jty 0 1) = 0 := rfl
theorem fn_0_1 (x : Int32) (ad : Nat → Nat) : narrow (jty 0 1) (jv ad (.int x)) = jv ad (.int x) ∧ fits (jty 0 1) (jv ad (.int x)) = true := ⟨rfl, rfl⟩
theorem fvX_4_1 (σ : jS) (ad : Nat → Nat) : jfv ad (eX σ) 0 4 1 = jv ad (.int (gI σ 4 1)) := rfl
theorem kg_RX10_231 : Cond.fieldLink RX10 231 RX0 (TX0 3).2.1 (TX0 3).2.2.1 ∈ jG := kf_RX10_231
theorem ff_0_3 : (TX0 3).2.2.2 = false := rfl
theorem fk_0_3 : jk (jty 0 3) = 0 := rfl
theorem fn_0_3 {x : Int32} (h : jb x = true) (ad : Nat → Nat) : narrow (jty 0 3) (jv ad (.int x)) = jv ad (.int x) ∧ fits (jty 0 3) (jv ad (.int x)) = true := jb_nf h
theorem fvX_4_3 (σ : jS) (ad : Nat → Nat) : jfv ad (eX σ) 0 4 3 = jv ad (.int (gI σ 4 3)) := rfl
theorem kg_RX10_234 : Cond.fieldLink RX10 234 RX0 (TX0 2).2.1 (TX0 2).2.2.1 ∈ jG := kf_RX10_234
theorem ff_0_2 : (TX0 2).2.2.2 = false := rfl
theorem fk_0_2 : jk (jty 0 2) = 0 := rfl
theorem fn_0_2 (x : Int32) (ad : Nat → Nat) : narrow (jty 0 2) (jv ad (.int x)) = jv ad (.int x) ∧ fits (jty 0 2) (jv ad (.int x)) = true := ⟨rfl, rfl⟩
theorem fvX_4_2 (σ : jS) (ad : Nat → Nat) : jfv ad (eX σ) 0 4 2 = jv ad (.int (gI σ 4 2)) := rfl
theorem kg_RX0_129 : Cond.fieldLink RX0 129 RX0 (TX0 1).2.1 (TX0 1).2.2.1 ∈ jG := kf_RX0_129
theorem kg_RX0_136 : Cond.fieldLink RX0 136 RX0 (TX0 2).2.1 (TX0 2).2.2.1 ∈ jG := kf_RX0_136
theorem kg_RX0_149 : Cond.fieldLink RX0 149 RX0 (TX0 3).2.1 (TX0 3).2.2.1 ∈ jG := kf_RX0_149
theorem kg_RX0_160 : Cond.fieldLink RX0 160 RX9 (TX9 3).2.1 (TX9 3).2.2.1 ∈ jG := kf_RX0_160
theorem kg_RX10_256 : Cond.fieldLink RX10 256 RX2 (TX2 0).2.1 (TX2 0).2.2.1 ∈ jG := kf_RX10_256
theorem ff_2_0 : (TX2 0).2.2.2 = false := rfl
theorem fk_2_0 : jk (jty 2 0) = 0 := rfl
theorem fn_2_0 (x : Int32) (ad : Nat → Nat) : narrow (jty 2 0) (jv ad (.int x)) = jv ad (.int x) ∧ fits (jty 2 0) (jv ad (.int x)) = true := ⟨rfl, rfl⟩
theorem fvX_20_0 (σ : jS) (ad : Nat → Nat) : jfv ad (eX σ) 2 20 0 = jv ad (.int (gI σ 20 0)) := rfl
theorem kg_RX2_18 : Cond.fieldLink RX2 18 RX2 (TX2 1).2.1 (TX2 1).2.2.1 ∈ jG := kf_RX2_18
theorem ff_2_1 : (TX2 1).2.2.2 = false := rfl
theorem fk_2_1 : jk (jty 2 1) = 0 := rfl
theorem fn_2_1 (x : Int32) (ad : Nat → Nat) : narrow (jty 2 1) (jv ad (.int x)) = jv ad (.int x) ∧ fits (jty 2 1) (jv ad (.int x)) = true := ⟨rfl, rfl⟩
theorem fvX_20_1 (σ : jS) (ad : Nat → Nat) : jfv ad (eX σ) 2 20 1 = jv ad (.int (gI σ 20 1)) := rfl
theorem kg_RX2_22 : Cond.fieldLink RX2 22 RX2 (TX2 2).2.1 (TX2 2).2.2.1 ∈ jG := kf_RX2_22
theorem ff_2_2 : (TX2 2).2.2.2 = false := rfl
theorem fk_2_2 : jk (jty 2 2) = 0 := rfl
theorem fn_2_2 (x : Int32) (ad : Nat → Nat) : narrow (jty 2 2) (jv ad (.int x)) = jv ad (.int x) ∧ fits (jty 2 2) (jv ad (.int x)) = true := ⟨rfl, rfl⟩
theorem fvX_20_2 (σ : jS) (ad : Nat → Nat) : jfv ad (eX σ) 2 20 2 = jv ad (.int (gI σ 20 2)) := rfl
theorem kg_RX2_25 : Cond.fieldLink RX2 25 RX2 (TX2 0).2.1 (TX2 0).2.2.1 ∈ jG := kf_RX2_25
theorem kg_RX4_18 : Cond.fieldLink RX4 18 RX8 (TX8 7).2.1 (TX8 7).2.2.1 ∈ jG := kf_RX4_18
theorem kg_RX4_30 : Cond.fieldLink RX4 30 RX4 (TX4 2).2.1 (TX4 2).2.2.1 ∈ jG := kf_RX4_30
theorem ff_4_2 : (TX4 2).2.2.2 = false := rfl
theorem fk_4_2 : jk (jty 4 2) = 0 := rfl
theorem fn_4_2 (x : Int32) (ad : Nat → Nat) : narrow (jty 4 2) (jv ad (.int x)) = jv ad (.int x) ∧ fits (jty 4 2) (jv ad (.int x)) = true := ⟨rfl, rfl⟩
theorem fvX_17_2 (σ : jS) (ad : Nat → Nat) : jfv ad (eX σ) 4 17 2 = jv ad (.int (gI σ 17 2)) := rfl
theorem kg_RX4_41 : Cond.fieldLink RX4 41 RX8 (TX8 8).2.1 (TX8 8).2.2.1 ∈ jG := kf_RX4_41
theorem kg_RX4_62 : Cond.fieldLink RX4 62 RX8 (TX8 3).2.1 (TX8 3).2.2.1 ∈ jG := kf_RX4_62
theorem kg_RX4_69 : Cond.fieldLink RX4 69 RX4 (TX4 3).2.1 (TX4 3).2.2.1 ∈ jG := kf_RX4_69
theorem ff_4_3 : (TX4 3).2.2.2 = false := rfl
theorem fk_4_3 : jk (jty 4 3) = 0 := rfl
theorem fn_4_3 (x : Int32) (ad : Nat → Nat) : narrow (jty 4 3) (jv ad (.int x)) = jv ad (.int x) ∧ fits (jty 4 3) (jv ad (.int x)) = true := ⟨rfl, rfl⟩
theorem fvX_17_3 (σ : jS) (ad : Nat → Nat) : jfv ad (eX σ) 4 17 3 = jv ad (.int (gI σ 17 3)) := rfl
theorem kg_RX4_72 : Cond.fieldLink RX4 72 RX8 (TX8 4).2.1 (TX8 4).2.2.1 ∈ jG := kf_RX4_72
theorem kg_RX4_75 : Cond.fieldLink RX4 75 RX4 (TX4 4).2.1 (TX4 4).2.2.1 ∈ jG := kf_RX4_75
theorem ff_4_4 : (TX4 4).2.2.2 = false := rfl
theorem fk_4_4 : jk (jty 4 4) = 0 := rfl
theorem fn_4_4 (x : Int32) (ad : Nat → Nat) : narrow (jty 4 4) (jv ad (.int x)) = jv ad (.int x) ∧ fits (jty 4 4) (jv ad (.int x)) = true := ⟨rfl, rfl⟩
theorem fvX_17_4 (σ : jS) (ad : Nat → Nat) : jfv ad (eX σ) 4 17 4 = jv ad (.int (gI σ 17 4)) := rfl
theorem kg_RX4_78 : Cond.fieldLink RX4 78 RX4 (TX4 5).2.1 (TX4 5).2.2.1 ∈ jG := kf_RX4_78
theorem ff_4_5 : (TX4 5).2.2.2 = false := rfl
theorem fk_4_5 : jk (jty 4 5) = 0 := rfl
theorem fn_4_5 (x : Int32) (ad : Nat → Nat) : narrow (jty 4 5) (jv ad (.int x)) = jv ad (.int x) ∧ fits (jty 4 5) (jv ad (.int x)) = true := ⟨rfl, rfl⟩
theorem fvX_17_5 (σ : jS) (ad : Nat → Nat) : jfv ad (eX σ) 4 17 5 = jv ad (.int (gI σ 17 5)) := rfl
theorem kg_RX4_105 : Cond.fieldLink RX4 105 RX0 (TX0 0).2.1 (TX0 0).2.2.1 ∈ jG := kf_RX4_105
theorem kg_RX4_117 : Cond.fieldLink RX4 117 RX9 (TX9 0).2.1 (TX9 0).2.2.1 ∈ jG := kf_RX4_117
theorem kg_RX10_274 : Cond.fieldLink RX10 274 RX3 (TX3 0).2.1 (TX3 0).2.2.1 ∈ jG := kf_RX10_274
theorem kg_RX10_277 : Cond.fieldLink RX10 277 RX3 (TX3 1).2.1 (TX3 1).2.2.1 ∈ jG := kf_RX10_277
theorem kg_RX0_194 : Cond.fieldLink RX0 194 RX0 (TX0 10).2.1 (TX0 10).2.2.1 ∈ jG := kf_RX0_194
theorem ff_0_10 : (TX0 10).2.2.2 = false := rfl
theorem fk_0_10 : jk (jty 0 10) = 0 := rfl
theorem fn_0_10 (x : Int32) (ad : Nat → Nat) : narrow (jty 0 10) (jv ad (.int x)) = jv ad (.int x) ∧ fits (jty 0 10) (jv ad (.int x)) = true := ⟨rfl, rfl⟩
theorem fvX_4_10 (σ : jS) (ad : Nat → Nat) : jfv ad (eX σ) 0 4 10 = jv ad (.int (gI σ 4 10)) := rfl
theorem kg_RX7_35 : Cond.fieldLink RX7 35 RX7 (TX7 3).2.1 (TX7 3).2.2.1 ∈ jG := kf_RX7_35
theorem kg_RX7_39 : Cond.fieldLink RX7 39 RX7 (TX7 4).2.1 (TX7 4).2.2.1 ∈ jG := kf_RX7_39
theorem kg_RX7_42 : Cond.fieldLink RX7 42 RX7 (TX7 5).2.1 (TX7 5).2.2.1 ∈ jG := kf_RX7_42
theorem kg_RX11_7 : Cond.fieldLink RX11 7 RX11 (TX11 1).2.1 (TX11 1).2.2.1 ∈ jG := kf_RX11_7
theorem fk_10_1 : jk (jty 10 1) = 2 := rfl
theorem fvM_1_1 (σ : jS) (ad : Nat → Nat) : jfv ad (eM σ) 10 1 1 = jv ad (.ref 2) := rfl
theorem kg_RX11_13 : Cond.fieldLink RX11 13 RX11 (TX11 3).2.1 (TX11 3).2.2.1 ∈ jG := kf_RX11_13
theorem fk_10_3 : jk (jty 10 3) = 2 := rfl
theorem fvM_1_3 (σ : jS) (ad : Nat → Nat) : jfv ad (eM σ) 10 1 3 = jv ad (.ref 3) := rfl
theorem kg_RX11_16 : Cond.fieldLink RX11 16 RX11 (TX11 4).2.1 (TX11 4).2.2.1 ∈ jG := kf_RX11_16
theorem fk_10_4 : jk (jty 10 4) = 2 := rfl
theorem fvM_1_4 (σ : jS) (ad : Nat → Nat) : jfv ad (eM σ) 10 1 4 = jv ad (.ref 4) := rfl
theorem kg_RX11_19 : Cond.fieldLink RX11 19 RX11 (TX11 5).2.1 (TX11 5).2.2.1 ∈ jG := kf_RX11_19
theorem fk_10_5 : jk (jty 10 5) = 2 := rfl
theorem fvM_1_5 (σ : jS) (ad : Nat → Nat) : jfv ad (eM σ) 10 1 5 = jv ad (.ref 5) := rfl
theorem kg_RX11_22 : Cond.fieldLink RX11 22 RX11 (TX11 7).2.1 (TX11 7).2.2.1 ∈ jG := kf_RX11_22
theorem fk_10_7 : jk (jty 10 7) = 2 := rfl
theorem fvM_1_7 (σ : jS) (ad : Nat → Nat) : jfv ad (eM σ) 10 1 7 = jv ad (.ref 6) := rfl
theorem kg_RX11_25 : Cond.fieldLink RX11 25 RX11 (TX11 9).2.1 (TX11 9).2.2.1 ∈ jG := kf_RX11_25
theorem fk_10_9 : jk (jty 10 9) = 2 := rfl
theorem fvM_1_9 (σ : jS) (ad : Nat → Nat) : jfv ad (eM σ) 10 1 9 = jv ad (.ref 7) := rfl
theorem kg_RX11_28 : Cond.fieldLink RX11 28 RX11 (TX11 10).2.1 (TX11 10).2.2.1 ∈ jG := kf_RX11_28
theorem fk_10_10 : jk (jty 10 10) = 2 := rfl
theorem fvM_1_10 (σ : jS) (ad : Nat → Nat) : jfv ad (eM σ) 10 1 10 = jv ad (.ref 8) := rfl
theorem kg_RX11_31 : Cond.fieldLink RX11 31 RX11 (TX11 11).2.1 (TX11 11).2.2.1 ∈ jG := kf_RX11_31
theorem fk_10_11 : jk (jty 10 11) = 2 := rfl
theorem fvM_1_11 (σ : jS) (ad : Nat → Nat) : jfv ad (eM σ) 10 1 11 = jv ad (.ref 9) := rfl
theorem kg_RX11_34 : Cond.fieldLink RX11 34 RX11 (TX11 12).2.1 (TX11 12).2.2.1 ∈ jG := kf_RX11_34
theorem fk_10_12 : jk (jty 10 12) = 2 := rfl
theorem fvM_1_12 (σ : jS) (ad : Nat → Nat) : jfv ad (eM σ) 10 1 12 = jv ad (.ref 10) := rfl
theorem kg_RX11_37 : Cond.fieldLink RX11 37 RX11 (TX11 15).2.1 (TX11 15).2.2.1 ∈ jG := kf_RX11_37
theorem fk_10_15 : jk (jty 10 15) = 2 := rfl
theorem fvM_1_15 (σ : jS) (ad : Nat → Nat) : jfv ad (eM σ) 10 1 15 = jv ad (.ref 11) := rfl
theorem kg_RX11_40 : Cond.fieldLink RX11 40 RX11 (TX11 17).2.1 (TX11 17).2.2.1 ∈ jG := kf_RX11_40
theorem ff_10_17 : (TX11 17).2.2.2 = false := rfl
theorem fk_10_17 : jk (jty 10 17) = 0 := rfl
theorem fn_10_17 (x : Int32) (ad : Nat → Nat) : narrow (jty 10 17) (jv ad (.int x)) = jv ad (.int x) ∧ fits (jty 10 17) (jv ad (.int x)) = true := ⟨rfl, rfl⟩
theorem fvM_1_17 (σ : jS) (ad : Nat → Nat) : jfv ad (eM σ) 10 1 17 = jv ad (.int (gI σ 1 17)) := rfl
theorem kg_RX11_44 : Cond.fieldLink RX11 44 RX11 (TX11 24).2.1 (TX11 24).2.2.1 ∈ jG := kf_RX11_44
theorem fk_10_24 : jk (jty 10 24) = 2 := rfl
theorem fvM_1_24 (σ : jS) (ad : Nat → Nat) : jfv ad (eM σ) 10 1 24 = jv ad (.ref 12) := rfl
theorem kg_RX11_47 : Cond.fieldLink RX11 47 RX11 (TX11 26).2.1 (TX11 26).2.2.1 ∈ jG := kf_RX11_47
theorem fk_10_26 : jk (jty 10 26) = 2 := rfl
theorem fvM_1_26 (σ : jS) (ad : Nat → Nat) : jfv ad (eM σ) 10 1 26 = jv ad (.ref 13) := rfl
theorem kg_RX11_50 : Cond.fieldLink RX11 50 RX11 (TX11 27).2.1 (TX11 27).2.2.1 ∈ jG := kf_RX11_50
theorem fk_10_27 : jk (jty 10 27) = 2 := rfl
theorem fvM_1_27 (σ : jS) (ad : Nat → Nat) : jfv ad (eM σ) 10 1 27 = jv ad (.ref 14) := rfl
theorem kg_RX11_53 : Cond.fieldLink RX11 53 RX11 (TX11 29).2.1 (TX11 29).2.2.1 ∈ jG := kf_RX11_53
theorem fk_10_29 : jk (jty 10 29) = 2 := rfl
theorem fvM_1_29 (σ : jS) (ad : Nat → Nat) : jfv ad (eM σ) 10 1 29 = jv ad (.ref 15) := rfl
theorem kg_RX11_56 : Cond.fieldLink RX11 56 RX11 (TX11 31).2.1 (TX11 31).2.2.1 ∈ jG := kf_RX11_56
theorem fk_10_31 : jk (jty 10 31) = 2 := rfl
theorem fvM_1_31 (σ : jS) (ad : Nat → Nat) : jfv ad (eM σ) 10 1 31 = jv ad (.ref 16) := rfl
theorem kg_RX11_59 : Cond.fieldLink RX11 59 RX11 (TX11 32).2.1 (TX11 32).2.2.1 ∈ jG := kf_RX11_59
theorem fk_10_32 : jk (jty 10 32) = 2 := rfl
theorem fvM_1_32 (σ : jS) (ad : Nat → Nat) : jfv ad (eM σ) 10 1 32 = jv ad (.ref 17) := rfl
theorem kg_RX11_62 : Cond.fieldLink RX11 62 RX11 (TX11 35).2.1 (TX11 35).2.2.1 ∈ jG := kf_RX11_62
theorem ff_10_35 : (TX11 35).2.2.2 = false := rfl
theorem fk_10_35 : jk (jty 10 35) = 0 := rfl
theorem fn_10_35 (x : Int32) (ad : Nat → Nat) : narrow (jty 10 35) (jv ad (.int x)) = jv ad (.int x) ∧ fits (jty 10 35) (jv ad (.int x)) = true := ⟨rfl, rfl⟩
theorem fvM_1_35 (σ : jS) (ad : Nat → Nat) : jfv ad (eM σ) 10 1 35 = jv ad (.int (gI σ 1 35)) := rfl
theorem kg_RX11_66 : Cond.fieldLink RX11 66 RX11 (TX11 37).2.1 (TX11 37).2.2.1 ∈ jG := kf_RX11_66
theorem fk_10_37 : jk (jty 10 37) = 2 := rfl
theorem fvM_1_37 (σ : jS) (ad : Nat → Nat) : jfv ad (eM σ) 10 1 37 = jv ad (.ref 18) := rfl
theorem kg_RX11_69 : Cond.fieldLink RX11 69 RX11 (TX11 38).2.1 (TX11 38).2.2.1 ∈ jG := kf_RX11_69
theorem fk_10_38 : jk (jty 10 38) = 2 := rfl
theorem fvM_1_38 (σ : jS) (ad : Nat → Nat) : jfv ad (eM σ) 10 1 38 = jv ad (.ref 19) := rfl
theorem kg_RX11_72 : Cond.fieldLink RX11 72 RX11 (TX11 40).2.1 (TX11 40).2.2.1 ∈ jG := kf_RX11_72
theorem fk_10_40 : jk (jty 10 40) = 2 := rfl
theorem fvM_1_40 (σ : jS) (ad : Nat → Nat) : jfv ad (eM σ) 10 1 40 = jv ad (.ref 20) := rfl
theorem kg_RX11_75 : Cond.fieldLink RX11 75 RX11 (TX11 41).2.1 (TX11 41).2.2.1 ∈ jG := kf_RX11_75
theorem fk_10_41 : jk (jty 10 41) = 2 := rfl
theorem fvM_1_41 (σ : jS) (ad : Nat → Nat) : jfv ad (eM σ) 10 1 41 = jv ad (.ref 21) := rfl
theorem kg_RX11_79 : Cond.fieldLink RX11 79 RX11 (TX11 42).2.1 (TX11 42).2.2.1 ∈ jG := kf_RX11_79
theorem fk_10_42 : jk (jty 10 42) = 2 := rfl
theorem fvM_1_42 (σ : jS) (ad : Nat → Nat) : jfv ad (eM σ) 10 1 42 = jv ad (.ref 22) := rfl
theorem kg_RX11_82 : Cond.fieldLink RX11 82 RX11 (TX11 43).2.1 (TX11 43).2.2.1 ∈ jG := kf_RX11_82
theorem fk_10_43 : jk (jty 10 43) = 2 := rfl
theorem fvM_1_43 (σ : jS) (ad : Nat → Nat) : jfv ad (eM σ) 10 1 43 = jv ad (.ref 23) := rfl
theorem kg_RX11_85 : Cond.fieldLink RX11 85 RX11 (TX11 45).2.1 (TX11 45).2.2.1 ∈ jG := kf_RX11_85
theorem fk_10_45 : jk (jty 10 45) = 2 := rfl
theorem fvM_1_45 (σ : jS) (ad : Nat → Nat) : jfv ad (eM σ) 10 1 45 = jv ad (.ref 24) := rfl
theorem kg_RX11_88 : Cond.fieldLink RX11 88 RX11 (TX11 46).2.1 (TX11 46).2.2.1 ∈ jG := kf_RX11_88
theorem fk_10_46 : jk (jty 10 46) = 2 := rfl
theorem fvM_1_46 (σ : jS) (ad : Nat → Nat) : jfv ad (eM σ) 10 1 46 = jv ad (.ref 25) := rfl
theorem kg_RX11_91 : Cond.fieldLink RX11 91 RX11 (TX11 47).2.1 (TX11 47).2.2.1 ∈ jG := kf_RX11_91
theorem fk_10_47 : jk (jty 10 47) = 2 := rfl
theorem fvM_1_47 (σ : jS) (ad : Nat → Nat) : jfv ad (eM σ) 10 1 47 = jv ad (.ref 26) := rfl
theorem kg_RX11_95 : Cond.fieldLink RX11 95 RX11 (TX11 48).2.1 (TX11 48).2.2.1 ∈ jG := kf_RX11_95
theorem fk_10_48 : jk (jty 10 48) = 2 := rfl
theorem fvM_1_48 (σ : jS) (ad : Nat → Nat) : jfv ad (eM σ) 10 1 48 = jv ad (.ref 27) := rfl
theorem kg_RX11_98 : Cond.fieldLink RX11 98 RX11 (TX11 49).2.1 (TX11 49).2.2.1 ∈ jG := kf_RX11_98
theorem fk_10_49 : jk (jty 10 49) = 2 := rfl
theorem fvM_1_49 (σ : jS) (ad : Nat → Nat) : jfv ad (eM σ) 10 1 49 = jv ad (.ref 28) := rfl
theorem kg_RX11_101 : Cond.fieldLink RX11 101 RX11 (TX11 52).2.1 (TX11 52).2.2.1 ∈ jG := kf_RX11_101
theorem fk_10_52 : jk (jty 10 52) = 2 := rfl
theorem fvM_1_52 (σ : jS) (ad : Nat → Nat) : jfv ad (eM σ) 10 1 52 = jv ad (.ref 29) := rfl
theorem kg_RX11_105 : Cond.fieldLink RX11 105 RX11 (TX11 53).2.1 (TX11 53).2.2.1 ∈ jG := kf_RX11_105
theorem fk_10_53 : jk (jty 10 53) = 2 := rfl
theorem fvM_1_53 (σ : jS) (ad : Nat → Nat) : jfv ad (eM σ) 10 1 53 = jv ad (.ref 30) := rfl
theorem kg_RX11_108 : Cond.fieldLink RX11 108 RX11 (TX11 54).2.1 (TX11 54).2.2.1 ∈ jG := kf_RX11_108
theorem fk_10_54 : jk (jty 10 54) = 2 := rfl
theorem fvM_1_54 (σ : jS) (ad : Nat → Nat) : jfv ad (eM σ) 10 1 54 = jv ad (.ref 31) := rfl
theorem kg_RX11_111 : Cond.fieldLink RX11 111 RX11 (TX11 57).2.1 (TX11 57).2.2.1 ∈ jG := kf_RX11_111
theorem fk_10_57 : jk (jty 10 57) = 2 := rfl
theorem fvM_1_57 (σ : jS) (ad : Nat → Nat) : jfv ad (eM σ) 10 1 57 = jv ad (.ref 32) := rfl
theorem kg_RX11_114 : Cond.fieldLink RX11 114 RX11 (TX11 58).2.1 (TX11 58).2.2.1 ∈ jG := kf_RX11_114
theorem fk_10_58 : jk (jty 10 58) = 2 := rfl
theorem fvM_1_58 (σ : jS) (ad : Nat → Nat) : jfv ad (eM σ) 10 1 58 = jv ad (.ref 33) := rfl
theorem kg_RX11_117 : Cond.fieldLink RX11 117 RX11 (TX11 60).2.1 (TX11 60).2.2.1 ∈ jG := kf_RX11_117
theorem fk_10_60 : jk (jty 10 60) = 2 := rfl
theorem fvM_1_60 (σ : jS) (ad : Nat → Nat) : jfv ad (eM σ) 10 1 60 = jv ad (.ref 34) := rfl
theorem kg_RX11_120 : Cond.fieldLink RX11 120 RX11 (TX11 61).2.1 (TX11 61).2.2.1 ∈ jG := kf_RX11_120
theorem fk_10_61 : jk (jty 10 61) = 2 := rfl
theorem fvM_1_61 (σ : jS) (ad : Nat → Nat) : jfv ad (eM σ) 10 1 61 = jv ad (.ref 35) := rfl
theorem kg_RX11_123 : Cond.fieldLink RX11 123 RX11 (TX11 62).2.1 (TX11 62).2.2.1 ∈ jG := kf_RX11_123
theorem fk_10_62 : jk (jty 10 62) = 2 := rfl
theorem fvM_1_62 (σ : jS) (ad : Nat → Nat) : jfv ad (eM σ) 10 1 62 = jv ad (.ref 36) := rfl
theorem kg_RX11_126 : Cond.fieldLink RX11 126 RX11 (TX11 64).2.1 (TX11 64).2.2.1 ∈ jG := kf_RX11_126
theorem fk_10_64 : jk (jty 10 64) = 2 := rfl
theorem fvM_1_64 (σ : jS) (ad : Nat → Nat) : jfv ad (eM σ) 10 1 64 = jv ad (.ref 37) := rfl
theorem kg_RX11_129 : Cond.fieldLink RX11 129 RX11 (TX11 65).2.1 (TX11 65).2.2.1 ∈ jG := kf_RX11_129
theorem fk_10_65 : jk (jty 10 65) = 2 := rfl
theorem fvM_1_65 (σ : jS) (ad : Nat → Nat) : jfv ad (eM σ) 10 1 65 = jv ad (.ref 38) := rfl
theorem kg_RX11_132 : Cond.fieldLink RX11 132 RX11 (TX11 67).2.1 (TX11 67).2.2.1 ∈ jG := kf_RX11_132
theorem fk_10_67 : jk (jty 10 67) = 2 := rfl
theorem fvM_1_67 (σ : jS) (ad : Nat → Nat) : jfv ad (eM σ) 10 1 67 = jv ad (.ref 39) := rfl
theorem kg_RX11_135 : Cond.fieldLink RX11 135 RX11 (TX11 69).2.1 (TX11 69).2.2.1 ∈ jG := kf_RX11_135
theorem fk_10_69 : jk (jty 10 69) = 2 := rfl
theorem fvM_1_69 (σ : jS) (ad : Nat → Nat) : jfv ad (eM σ) 10 1 69 = jv ad (.ref 40) := rfl
theorem kg_RX11_138 : Cond.fieldLink RX11 138 RX11 (TX11 70).2.1 (TX11 70).2.2.1 ∈ jG := kf_RX11_138
theorem fk_10_70 : jk (jty 10 70) = 2 := rfl
theorem fvM_1_70 (σ : jS) (ad : Nat → Nat) : jfv ad (eM σ) 10 1 70 = jv ad (.ref 41) := rfl
theorem kg_RX11_141 : Cond.fieldLink RX11 141 RX11 (TX11 0).2.1 (TX11 0).2.2.1 ∈ jG := kf_RX11_141
theorem ff_10_0 : (TX11 0).2.2.2 = false := rfl
theorem fk_10_0 : jk (jty 10 0) = 0 := rfl
theorem fn_10_0 (x : Int32) (ad : Nat → Nat) : narrow (jty 10 0) (jv ad (.int x)) = jv ad (.int x) ∧ fits (jty 10 0) (jv ad (.int x)) = true := ⟨rfl, rfl⟩
theorem fvM_1_0 (σ : jS) (ad : Nat → Nat) : jfv ad (eM σ) 10 1 0 = jv ad (.int (gI σ 1 0)) := rfl
theorem kg_RX11_153 : Cond.fieldLink RX11 153 RX11 (TX11 16).2.1 (TX11 16).2.2.1 ∈ jG := kf_RX11_153
theorem ff_10_16 : (TX11 16).2.2.2 = false := rfl
theorem fk_10_16 : jk (jty 10 16) = 0 := rfl
theorem fn_10_16 (x : Int32) (ad : Nat → Nat) : narrow (jty 10 16) (jv ad (.int x)) = jv ad (.int x) ∧ fits (jty 10 16) (jv ad (.int x)) = true := ⟨rfl, rfl⟩
theorem fvM_1_16 (σ : jS) (ad : Nat → Nat) : jfv ad (eM σ) 10 1 16 = jv ad (.int (gI σ 1 16)) := rfl
theorem kg_RX11_158 : Cond.fieldLink RX11 158 RX11 (TX11 18).2.1 (TX11 18).2.2.1 ∈ jG := kf_RX11_158
theorem ff_10_18 : (TX11 18).2.2.2 = false := rfl
theorem fk_10_18 : jk (jty 10 18) = 0 := rfl
theorem fn_10_18 (x : Int32) (ad : Nat → Nat) : narrow (jty 10 18) (jv ad (.int x)) = jv ad (.int x) ∧ fits (jty 10 18) (jv ad (.int x)) = true := ⟨rfl, rfl⟩
theorem fvM_1_18 (σ : jS) (ad : Nat → Nat) : jfv ad (eM σ) 10 1 18 = jv ad (.int (gI σ 1 18)) := rfl
theorem kg_RX11_198 : Cond.fieldLink RX11 198 RX11 (TX11 23).2.1 (TX11 23).2.2.1 ∈ jG := kf_RX11_198
theorem ff_10_23 : (TX11 23).2.2.2 = false := rfl
theorem fk_10_23 : jk (jty 10 23) = 0 := rfl
theorem fn_10_23 (x : Int32) (ad : Nat → Nat) : narrow (jty 10 23) (jv ad (.int x)) = jv ad (.int x) ∧ fits (jty 10 23) (jv ad (.int x)) = true := ⟨rfl, rfl⟩
theorem fvM_1_23 (σ : jS) (ad : Nat → Nat) : jfv ad (eM σ) 10 1 23 = jv ad (.int (gI σ 1 23)) := rfl
theorem kg_RX11_210 : Cond.fieldLink RX11 210 RX11 (TX11 25).2.1 (TX11 25).2.2.1 ∈ jG := kf_RX11_210
theorem ff_10_25 : (TX11 25).2.2.2 = false := rfl
theorem fk_10_25 : jk (jty 10 25) = 0 := rfl
theorem fn_10_25 (x : Int32) (ad : Nat → Nat) : narrow (jty 10 25) (jv ad (.int x)) = jv ad (.int x) ∧ fits (jty 10 25) (jv ad (.int x)) = true := ⟨rfl, rfl⟩
theorem fvM_1_25 (σ : jS) (ad : Nat → Nat) : jfv ad (eM σ) 10 1 25 = jv ad (.int (gI σ 1 25)) := rfl
theorem kg_RX11_213 : Cond.fieldLink RX11 213 RX11 (TX11 28).2.1 (TX11 28).2.2.1 ∈ jG := kf_RX11_213
theorem ff_10_28 : (TX11 28).2.2.2 = false := rfl
theorem fk_10_28 : jk (jty 10 28) = 0 := rfl
theorem fn_10_28 (x : Int32) (ad : Nat → Nat) : narrow (jty 10 28) (jv ad (.int x)) = jv ad (.int x) ∧ fits (jty 10 28) (jv ad (.int x)) = true := ⟨rfl, rfl⟩
theorem fvM_1_28 (σ : jS) (ad : Nat → Nat) : jfv ad (eM σ) 10 1 28 = jv ad (.int (gI σ 1 28)) := rfl
theorem kg_RX11_227 : Cond.fieldLink RX11 227 RX11 (TX11 30).2.1 (TX11 30).2.2.1 ∈ jG := kf_RX11_227
theorem ff_10_30 : (TX11 30).2.2.2 = false := rfl
theorem fk_10_30 : jk (jty 10 30) = 0 := rfl
theorem fn_10_30 (x : Int32) (ad : Nat → Nat) : narrow (jty 10 30) (jv ad (.int x)) = jv ad (.int x) ∧ fits (jty 10 30) (jv ad (.int x)) = true := ⟨rfl, rfl⟩
theorem fvM_1_30 (σ : jS) (ad : Nat → Nat) : jfv ad (eM σ) 10 1 30 = jv ad (.int (gI σ 1 30)) := rfl
theorem kg_RX11_165 : Cond.fieldLink RX11 165 RX11 (TX11 19).2.1 (TX11 19).2.2.1 ∈ jG := kf_RX11_165
theorem ff_10_19 : (TX11 19).2.2.2 = false := rfl
theorem fk_10_19 : jk (jty 10 19) = 1 := rfl
theorem fn_10_19 (x : Int64) (ad : Nat → Nat) : narrow (jty 10 19) (jv ad (.long x)) = jv ad (.long x) ∧ fits (jty 10 19) (jv ad (.long x)) = true := ⟨rfl, rfl⟩
theorem fvM_1_19 (σ : jS) (ad : Nat → Nat) : jfv ad (eM σ) 10 1 19 = jv ad (.long (gL σ 1 19)) := rfl
theorem kg_RX11_169 : Cond.fieldLink RX11 169 RX11 (TX11 20).2.1 (TX11 20).2.2.1 ∈ jG := kf_RX11_169
theorem ff_10_20 : (TX11 20).2.2.2 = false := rfl
theorem fk_10_20 : jk (jty 10 20) = 0 := rfl
theorem fn_10_20 (x : Int32) (ad : Nat → Nat) : narrow (jty 10 20) (jv ad (.int x)) = jv ad (.int x) ∧ fits (jty 10 20) (jv ad (.int x)) = true := ⟨rfl, rfl⟩
theorem fvM_1_20 (σ : jS) (ad : Nat → Nat) : jfv ad (eM σ) 10 1 20 = jv ad (.int (gI σ 1 20)) := rfl
theorem kg_RX11_195 : Cond.fieldLink RX11 195 RX11 (TX11 21).2.1 (TX11 21).2.2.1 ∈ jG := kf_RX11_195
theorem ff_10_21 : (TX11 21).2.2.2 = false := rfl
theorem fk_10_21 : jk (jty 10 21) = 0 := rfl
theorem fn_10_21 (x : Int32) (ad : Nat → Nat) : narrow (jty 10 21) (jv ad (.int x)) = jv ad (.int x) ∧ fits (jty 10 21) (jv ad (.int x)) = true := ⟨rfl, rfl⟩
theorem fvM_1_21 (σ : jS) (ad : Nat → Nat) : jfv ad (eM σ) 10 1 21 = jv ad (.int (gI σ 1 21)) := rfl
theorem kg_RX11_204 : Cond.fieldLink RX11 204 RX11 (TX11 33).2.1 (TX11 33).2.2.1 ∈ jG := kf_RX11_204
theorem ff_10_33 : (TX11 33).2.2.2 = false := rfl
theorem fk_10_33 : jk (jty 10 33) = 0 := rfl
theorem fn_10_33 (x : Int32) (ad : Nat → Nat) : narrow (jty 10 33) (jv ad (.int x)) = jv ad (.int x) ∧ fits (jty 10 33) (jv ad (.int x)) = true := ⟨rfl, rfl⟩
theorem fvM_1_33 (σ : jS) (ad : Nat → Nat) : jfv ad (eM σ) 10 1 33 = jv ad (.int (gI σ 1 33)) := rfl
theorem kg_RX11_207 : Cond.fieldLink RX11 207 RX11 (TX11 34).2.1 (TX11 34).2.2.1 ∈ jG := kf_RX11_207
theorem ff_10_34 : (TX11 34).2.2.2 = false := rfl
theorem fk_10_34 : jk (jty 10 34) = 0 := rfl
theorem fn_10_34 (x : Int32) (ad : Nat → Nat) : narrow (jty 10 34) (jv ad (.int x)) = jv ad (.int x) ∧ fits (jty 10 34) (jv ad (.int x)) = true := ⟨rfl, rfl⟩
theorem fvM_1_34 (σ : jS) (ad : Nat → Nat) : jfv ad (eM σ) 10 1 34 = jv ad (.int (gI σ 1 34)) := rfl
theorem kg_RX11_192 : Cond.fieldLink RX11 192 RX11 (TX11 22).2.1 (TX11 22).2.2.1 ∈ jG := kf_RX11_192
theorem ff_10_22 : (TX11 22).2.2.2 = false := rfl
theorem fk_10_22 : jk (jty 10 22) = 0 := rfl
theorem fn_10_22 (x : Int32) (ad : Nat → Nat) : narrow (jty 10 22) (jv ad (.int x)) = jv ad (.int x) ∧ fits (jty 10 22) (jv ad (.int x)) = true := ⟨rfl, rfl⟩
theorem fvM_1_22 (σ : jS) (ad : Nat → Nat) : jfv ad (eM σ) 10 1 22 = jv ad (.int (gI σ 1 22)) := rfl
theorem kg_RX11_240 : Cond.fieldLink RX11 240 RX11 (TX11 2).2.1 (TX11 2).2.2.1 ∈ jG := kf_RX11_240
theorem ff_10_2 : (TX11 2).2.2.2 = false := rfl
theorem fk_10_2 : jk (jty 10 2) = 0 := rfl
theorem fn_10_2 (x : Int32) (ad : Nat → Nat) : narrow (jty 10 2) (jv ad (.int x)) = jv ad (.int x) ∧ fits (jty 10 2) (jv ad (.int x)) = true := ⟨rfl, rfl⟩
theorem fvM_1_2 (σ : jS) (ad : Nat → Nat) : jfv ad (eM σ) 10 1 2 = jv ad (.int (gI σ 1 2)) := rfl
theorem kg_RX11_243 : Cond.fieldLink RX11 243 RX11 (TX11 6).2.1 (TX11 6).2.2.1 ∈ jG := kf_RX11_243
theorem ff_10_6 : (TX11 6).2.2.2 = false := rfl
theorem fk_10_6 : jk (jty 10 6) = 0 := rfl
theorem fn_10_6 (x : Int32) (ad : Nat → Nat) : narrow (jty 10 6) (jv ad (.int x)) = jv ad (.int x) ∧ fits (jty 10 6) (jv ad (.int x)) = true := ⟨rfl, rfl⟩
theorem fvM_1_6 (σ : jS) (ad : Nat → Nat) : jfv ad (eM σ) 10 1 6 = jv ad (.int (gI σ 1 6)) := rfl
theorem kg_RX11_148 : Cond.fieldLink RX11 148 RX11 (TX11 8).2.1 (TX11 8).2.2.1 ∈ jG := kf_RX11_148
theorem ff_10_8 : (TX11 8).2.2.2 = false := rfl
theorem fk_10_8 : jk (jty 10 8) = 0 := rfl
theorem fn_10_8 (x : Int32) (ad : Nat → Nat) : narrow (jty 10 8) (jv ad (.int x)) = jv ad (.int x) ∧ fits (jty 10 8) (jv ad (.int x)) = true := ⟨rfl, rfl⟩
theorem fvM_1_8 (σ : jS) (ad : Nat → Nat) : jfv ad (eM σ) 10 1 8 = jv ad (.int (gI σ 1 8)) := rfl
theorem kg_RX11_249 : Cond.fieldLink RX11 249 RX11 (TX11 56).2.1 (TX11 56).2.2.1 ∈ jG := kf_RX11_249
theorem ff_10_56 : (TX11 56).2.2.2 = false := rfl
theorem fk_10_56 : jk (jty 10 56) = 0 := rfl
theorem fn_10_56 (x : Int32) (ad : Nat → Nat) : narrow (jty 10 56) (jv ad (.int x)) = jv ad (.int x) ∧ fits (jty 10 56) (jv ad (.int x)) = true := ⟨rfl, rfl⟩
theorem fvM_1_56 (σ : jS) (ad : Nat → Nat) : jfv ad (eM σ) 10 1 56 = jv ad (.int (gI σ 1 56)) := rfl
theorem kg_RX11_252 : Cond.fieldLink RX11 252 RX11 (TX11 59).2.1 (TX11 59).2.2.1 ∈ jG := kf_RX11_252
theorem ff_10_59 : (TX11 59).2.2.2 = false := rfl
theorem fk_10_59 : jk (jty 10 59) = 0 := rfl
theorem fn_10_59 (x : Int32) (ad : Nat → Nat) : narrow (jty 10 59) (jv ad (.int x)) = jv ad (.int x) ∧ fits (jty 10 59) (jv ad (.int x)) = true := ⟨rfl, rfl⟩
theorem fvM_1_59 (σ : jS) (ad : Nat → Nat) : jfv ad (eM σ) 10 1 59 = jv ad (.int (gI σ 1 59)) := rfl
theorem kg_RX11_264 : Cond.fieldLink RX11 264 RX11 (TX11 13).2.1 (TX11 13).2.2.1 ∈ jG := kf_RX11_264
theorem ff_10_13 : (TX11 13).2.2.2 = false := rfl
theorem fk_10_13 : jk (jty 10 13) = 0 := rfl
theorem fn_10_13 (x : Int32) (ad : Nat → Nat) : narrow (jty 10 13) (jv ad (.int x)) = jv ad (.int x) ∧ fits (jty 10 13) (jv ad (.int x)) = true := ⟨rfl, rfl⟩
theorem fvM_1_13 (σ : jS) (ad : Nat → Nat) : jfv ad (eM σ) 10 1 13 = jv ad (.int (gI σ 1 13)) := rfl
theorem kg_RX11_267 : Cond.fieldLink RX11 267 RX11 (TX11 14).2.1 (TX11 14).2.2.1 ∈ jG := kf_RX11_267
theorem ff_10_14 : (TX11 14).2.2.2 = false := rfl
theorem fk_10_14 : jk (jty 10 14) = 0 := rfl
theorem fn_10_14 {x : Int32} (h : jb x = true) (ad : Nat → Nat) : narrow (jty 10 14) (jv ad (.int x)) = jv ad (.int x) ∧ fits (jty 10 14) (jv ad (.int x)) = true := jb_nf h
theorem fvM_1_14 (σ : jS) (ad : Nat → Nat) : jfv ad (eM σ) 10 1 14 = jv ad (.int (gI σ 1 14)) := rfl
theorem kg_RX11_318 : Cond.fieldLink RX11 318 RX11 (TX11 36).2.1 (TX11 36).2.2.1 ∈ jG := kf_RX11_318
theorem ff_10_36 : (TX11 36).2.2.2 = false := rfl
theorem fk_10_36 : jk (jty 10 36) = 0 := rfl
theorem fn_10_36 (x : Int32) (ad : Nat → Nat) : narrow (jty 10 36) (jv ad (.int x)) = jv ad (.int x) ∧ fits (jty 10 36) (jv ad (.int x)) = true := ⟨rfl, rfl⟩
theorem fvM_1_36 (σ : jS) (ad : Nat → Nat) : jfv ad (eM σ) 10 1 36 = jv ad (.int (gI σ 1 36)) := rfl
theorem kg_RX11_345 : Cond.fieldLink RX11 345 RX11 (TX11 39).2.1 (TX11 39).2.2.1 ∈ jG := kf_RX11_345
theorem ff_10_39 : (TX11 39).2.2.2 = false := rfl
theorem fk_10_39 : jk (jty 10 39) = 0 := rfl
theorem fn_10_39 (x : Int32) (ad : Nat → Nat) : narrow (jty 10 39) (jv ad (.int x)) = jv ad (.int x) ∧ fits (jty 10 39) (jv ad (.int x)) = true := ⟨rfl, rfl⟩
theorem fvM_1_39 (σ : jS) (ad : Nat → Nat) : jfv ad (eM σ) 10 1 39 = jv ad (.int (gI σ 1 39)) := rfl
theorem kg_RX11_348 : Cond.fieldLink RX11 348 RX11 (TX11 44).2.1 (TX11 44).2.2.1 ∈ jG := kf_RX11_348
theorem ff_10_44 : (TX11 44).2.2.2 = false := rfl
theorem fk_10_44 : jk (jty 10 44) = 0 := rfl
theorem fn_10_44 (x : Int32) (ad : Nat → Nat) : narrow (jty 10 44) (jv ad (.int x)) = jv ad (.int x) ∧ fits (jty 10 44) (jv ad (.int x)) = true := ⟨rfl, rfl⟩
theorem fvM_1_44 (σ : jS) (ad : Nat → Nat) : jfv ad (eM σ) 10 1 44 = jv ad (.int (gI σ 1 44)) := rfl
theorem kg_RX11_382 : Cond.fieldLink RX11 382 RX11 (TX11 50).2.1 (TX11 50).2.2.1 ∈ jG := kf_RX11_382
theorem ff_10_50 : (TX11 50).2.2.2 = false := rfl
theorem fk_10_50 : jk (jty 10 50) = 0 := rfl
theorem fn_10_50 (x : Int32) (ad : Nat → Nat) : narrow (jty 10 50) (jv ad (.int x)) = jv ad (.int x) ∧ fits (jty 10 50) (jv ad (.int x)) = true := ⟨rfl, rfl⟩
theorem fvM_1_50 (σ : jS) (ad : Nat → Nat) : jfv ad (eM σ) 10 1 50 = jv ad (.int (gI σ 1 50)) := rfl
theorem kg_RX11_385 : Cond.fieldLink RX11 385 RX11 (TX11 51).2.1 (TX11 51).2.2.1 ∈ jG := kf_RX11_385
theorem ff_10_51 : (TX11 51).2.2.2 = false := rfl
theorem fk_10_51 : jk (jty 10 51) = 0 := rfl
theorem fn_10_51 (x : Int32) (ad : Nat → Nat) : narrow (jty 10 51) (jv ad (.int x)) = jv ad (.int x) ∧ fits (jty 10 51) (jv ad (.int x)) = true := ⟨rfl, rfl⟩
theorem fvM_1_51 (σ : jS) (ad : Nat → Nat) : jfv ad (eM σ) 10 1 51 = jv ad (.int (gI σ 1 51)) := rfl
theorem kg_RX11_402 : Cond.fieldLink RX11 402 RX11 (TX11 55).2.1 (TX11 55).2.2.1 ∈ jG := kf_RX11_402
theorem ff_10_55 : (TX11 55).2.2.2 = false := rfl
theorem fk_10_55 : jk (jty 10 55) = 0 := rfl
theorem fn_10_55 (x : Int32) (ad : Nat → Nat) : narrow (jty 10 55) (jv ad (.int x)) = jv ad (.int x) ∧ fits (jty 10 55) (jv ad (.int x)) = true := ⟨rfl, rfl⟩
theorem fvM_1_55 (σ : jS) (ad : Nat → Nat) : jfv ad (eM σ) 10 1 55 = jv ad (.int (gI σ 1 55)) := rfl
theorem kg_RX11_429 : Cond.fieldLink RX11 429 RX11 (TX11 63).2.1 (TX11 63).2.2.1 ∈ jG := kf_RX11_429
theorem ff_10_63 : (TX11 63).2.2.2 = false := rfl
theorem fk_10_63 : jk (jty 10 63) = 0 := rfl
theorem fn_10_63 (x : Int32) (ad : Nat → Nat) : narrow (jty 10 63) (jv ad (.int x)) = jv ad (.int x) ∧ fits (jty 10 63) (jv ad (.int x)) = true := ⟨rfl, rfl⟩
theorem fvM_1_63 (σ : jS) (ad : Nat → Nat) : jfv ad (eM σ) 10 1 63 = jv ad (.int (gI σ 1 63)) := rfl
theorem kg_RX11_420 : Cond.fieldLink RX11 420 RX11 (TX11 68).2.1 (TX11 68).2.2.1 ∈ jG := kf_RX11_420
theorem ff_10_68 : (TX11 68).2.2.2 = false := rfl
theorem fk_10_68 : jk (jty 10 68) = 0 := rfl
theorem fn_10_68 (x : Int32) (ad : Nat → Nat) : narrow (jty 10 68) (jv ad (.int x)) = jv ad (.int x) ∧ fits (jty 10 68) (jv ad (.int x)) = true := ⟨rfl, rfl⟩
theorem fvM_1_68 (σ : jS) (ad : Nat → Nat) : jfv ad (eM σ) 10 1 68 = jv ad (.int (gI σ 1 68)) := rfl
theorem kg_RX11_426 : Cond.fieldLink RX11 426 RX11 (TX11 66).2.1 (TX11 66).2.2.1 ∈ jG := kf_RX11_426
theorem ff_10_66 : (TX11 66).2.2.2 = false := rfl
theorem fk_10_66 : jk (jty 10 66) = 0 := rfl
theorem fn_10_66 (x : Int32) (ad : Nat → Nat) : narrow (jty 10 66) (jv ad (.int x)) = jv ad (.int x) ∧ fits (jty 10 66) (jv ad (.int x)) = true := ⟨rfl, rfl⟩
theorem fvM_1_66 (σ : jS) (ad : Nat → Nat) : jfv ad (eM σ) 10 1 66 = jv ad (.int (gI σ 1 66)) := rfl
theorem jy_X10_init : jY yX10_init cX10_init 2 none 0 := ⟨kc_yX10_init, kz_RX10, ⟨by decide +kernel, by decide +kernel, by decide +kernel⟩, by decide⟩
theorem jy_X5_init : jY yX5_init cX5_init 1 none 0 := ⟨kc_yX5_init, kz_RX5, ⟨by decide +kernel, by decide +kernel, by decide +kernel⟩, by decide⟩
theorem jy_X0_init : jY yX0_init cX0_init 1 none 0 := ⟨kc_yX0_init, kz_RX0, ⟨by decide +kernel, by decide +kernel, by decide +kernel⟩, by decide⟩
theorem jy_X9_init : jY yX9_init cX9_init 1 none 0 := ⟨kc_yX9_init, kz_RX9, ⟨by decide +kernel, by decide +kernel, by decide +kernel⟩, by decide⟩
theorem jy_X4_init : jY yX4_init cX4_init 1 none 0 := ⟨kc_yX4_init, kz_RX4, ⟨by decide +kernel, by decide +kernel, by decide +kernel⟩, by decide⟩
theorem jy_X2_init : jY yX2_init cX2_init 1 none 0 := ⟨kc_yX2_init, kz_RX2, ⟨by decide +kernel, by decide +kernel, by decide +kernel⟩, by decide⟩
theorem jy_X3_init : jY yX3_init cX3_init 1 none 0 := ⟨kc_yX3_init, kz_RX3, ⟨by decide +kernel, by decide +kernel, by decide +kernel⟩, by decide⟩
theorem jy_X7_init : jY yX7_init cX7_init 1 none 0 := ⟨kc_yX7_init, kz_RX7, ⟨by decide +kernel, by decide +kernel, by decide +kernel⟩, by decide⟩
theorem jy_X1_init : jY yX1_init cX1_init 1 none 0 := ⟨kc_yX1_init, kz_RX1, ⟨by decide +kernel, by decide +kernel, by decide +kernel⟩, by decide⟩
theorem jy_X8_init : jY yX8_init cX8_init 1 none 0 := ⟨kc_yX8_init, kz_RX8, ⟨by decide +kernel, by decide +kernel, by decide +kernel⟩, by decide⟩
theorem jy_X10_feed : jY yX10_feed cX10_feed 5 (some .int) 2 := ⟨kc_yX10_feed, kz_RX10, ⟨by decide +kernel, by decide +kernel, by decide +kernel⟩, by decide⟩
theorem jy_X5_append : jY yX5_append cX5_append 2 none 1 := ⟨kc_yX5_append, kz_RX5, ⟨by decide +kernel, by decide +kernel, by decide +kernel⟩, by decide⟩
theorem jy_X6_put : jY yX6_put cX6_put 3 none 3 := ⟨kc_yX6_put, kz_RX6, ⟨by decide +kernel, by decide +kernel, by decide +kernel⟩, by decide⟩
theorem jy_X10_town : jY yX10_town cX10_town 5 (some .int) 0 := ⟨kc_yX10_town, kz_RX10, ⟨by decide +kernel, by decide +kernel, by decide +kernel⟩, by decide⟩
theorem jy_X5_read : jY yX5_read cX5_read 3 (some .int) 1 := ⟨kc_yX5_read, kz_RX5, ⟨by decide +kernel, by decide +kernel, by decide +kernel⟩, by decide⟩
theorem jy_X8_empty : jY yX8_empty cX8_empty 1 none 0 := ⟨kc_yX8_empty, kz_RX8, ⟨by decide +kernel, by decide +kernel, by decide +kernel⟩, by decide⟩
theorem jy_X1_empty : jY yX1_empty cX1_empty 1 none 0 := ⟨kc_yX1_empty, kz_RX1, ⟨by decide +kernel, by decide +kernel, by decide +kernel⟩, by decide⟩
theorem jy_X6_fill : jY yX6_fill cX6_fill 3 none 2 := ⟨kc_yX6_fill, kz_RX6, ⟨by decide +kernel, by decide +kernel, by decide +kernel⟩, by decide⟩
theorem jy_X5_skipBlanks : jY yX5_skipBlanks cX5_skipBlanks 2 none 0 := ⟨kc_yX5_skipBlanks, kz_RX5, ⟨by decide +kernel, by decide +kernel, by decide +kernel⟩, by decide⟩
theorem jy_X5_sign : jY yX5_sign cX5_sign 2 (some .int) 1 := ⟨kc_yX5_sign, kz_RX5, ⟨by decide +kernel, by decide +kernel, by decide +kernel⟩, by decide⟩
theorem jy_X6_at : jY yX6_at cX6_at 2 (some .int) 2 := ⟨kc_yX6_at, kz_RX6, ⟨by decide +kernel, by decide +kernel, by decide +kernel⟩, by decide⟩
theorem jy_X5_readClause : jY yX5_readClause cX5_readClause 5 none 1 := ⟨kc_yX5_readClause, kz_RX5, ⟨by decide +kernel, by decide +kernel, by decide +kernel⟩, by decide⟩
theorem jy_X5_readWord : jY yX5_readWord cX5_readWord 3 (some .int) 0 := ⟨kc_yX5_readWord, kz_RX5, ⟨by decide +kernel, by decide +kernel, by decide +kernel⟩, by decide⟩
theorem jy_X5_isLetter : jY yX5_isLetter cX5_isLetter 1 (some .boolean) 1 := ⟨kc_yX5_isLetter, kz_RX5, ⟨by decide +kernel, by decide +kernel, by decide +kernel⟩, by decide⟩
theorem jy_X5_spelling : jY yX5_spelling cX5_spelling 1 (some (.object "java/lang/String")) 1 := ⟨kc_yX5_spelling, kz_RX5, ⟨by decide +kernel, by decide +kernel, by decide +kernel⟩, by decide⟩
theorem jy_X5_isSpelled : jY yX5_isSpelled cX5_isSpelled 5 (some .boolean) 3 := ⟨kc_yX5_isSpelled, kz_RX5, ⟨by decide +kernel, by decide +kernel, by decide +kernel⟩, by decide⟩
theorem jy_X5_fail : jY yX5_fail cX5_fail 3 none 2 := ⟨kc_yX5_fail, kz_RX5, ⟨by decide +kernel, by decide +kernel, by decide +kernel⟩, by decide⟩
theorem jy_X8_isFullFor : jY yX8_isFullFor cX8_isFullFor 2 (some .boolean) 1 := ⟨kc_yX8_isFullFor, kz_RX8, ⟨by decide +kernel, by decide +kernel, by decide +kernel⟩, by decide⟩
theorem jy_X5_readNumber : jY yX5_readNumber cX5_readNumber 5 (some .int) 1 := ⟨kc_yX5_readNumber, kz_RX5, ⟨by decide +kernel, by decide +kernel, by decide +kernel⟩, by decide⟩
theorem jy_X5_isFigure : jY yX5_isFigure cX5_isFigure 1 (some .boolean) 1 := ⟨kc_yX5_isFigure, kz_RX5, ⟨by decide +kernel, by decide +kernel, by decide +kernel⟩, by decide⟩
theorem jy_X5_readClosing : jY yX5_readClosing cX5_readClosing 1 none 0 := ⟨kc_yX5_readClosing, kz_RX5, ⟨by decide +kernel, by decide +kernel, by decide +kernel⟩, by decide⟩
theorem jy_X8_addPerson : jY yX8_addPerson cX8_addPerson 2 none 1 := ⟨kc_yX8_addPerson, kz_RX8, ⟨by decide +kernel, by decide +kernel, by decide +kernel⟩, by decide⟩
theorem jy_X5_readPair : jY yX5_readPair cX5_readPair 6 none 2 := ⟨kc_yX5_readPair, kz_RX5, ⟨by decide +kernel, by decide +kernel, by decide +kernel⟩, by decide⟩
theorem jy_X8_isToldAlready : jY yX8_isToldAlready cX8_isToldAlready 4 (some .boolean) 3 := ⟨kc_yX8_isToldAlready, kz_RX8, ⟨by decide +kernel, by decide +kernel, by decide +kernel⟩, by decide⟩
theorem jy_X1_has : jY yX1_has cX1_has 3 (some .boolean) 2 := ⟨kc_yX1_has, kz_RX1, ⟨by decide +kernel, by decide +kernel, by decide +kernel⟩, by decide⟩
theorem jy_X8_debtorsOf : jY yX8_debtorsOf cX8_debtorsOf 4 (some .int) 1 := ⟨kc_yX8_debtorsOf, kz_RX8, ⟨by decide +kernel, by decide +kernel, by decide +kernel⟩, by decide⟩
theorem jy_X8_addPair : jY yX8_addPair cX8_addPair 4 none 3 := ⟨kc_yX8_addPair, kz_RX8, ⟨by decide +kernel, by decide +kernel, by decide +kernel⟩, by decide⟩
theorem jy_X1_add : jY yX1_add cX1_add 3 none 2 := ⟨kc_yX1_add, kz_RX1, ⟨by decide +kernel, by decide +kernel, by decide +kernel⟩, by decide⟩
theorem jy_X1_toggle : jY yX1_toggle cX1_toggle 3 none 3 := ⟨kc_yX1_toggle, kz_RX1, ⟨by decide +kernel, by decide +kernel, by decide +kernel⟩, by decide⟩
theorem jy_X1_take : jY yX1_take cX1_take 2 none 1 := ⟨kc_yX1_take, kz_RX1, ⟨by decide +kernel, by decide +kernel, by decide +kernel⟩, by decide⟩
theorem jy_X6_copy : jY yX6_copy cX6_copy 4 none 3 := ⟨kc_yX6_copy, kz_RX6, ⟨by decide +kernel, by decide +kernel, by decide +kernel⟩, by decide⟩
theorem jy_X10_toldHow : jY yX10_toldHow cX10_toldHow 2 (some .int) 1 := ⟨kc_yX10_toldHow, kz_RX10, ⟨by decide +kernel, by decide +kernel, by decide +kernel⟩, by decide⟩
theorem jy_X0_state : jY yX0_state cX0_state 3 (some .int) 3 := ⟨kc_yX0_state, kz_RX0, ⟨by decide +kernel, by decide +kernel, by decide +kernel⟩, by decide⟩
theorem jy_X3_empty : jY yX3_empty cX3_empty 1 none 0 := ⟨kc_yX3_empty, kz_RX3, ⟨by decide +kernel, by decide +kernel, by decide +kernel⟩, by decide⟩
theorem jy_X10_imageAt : jY yX10_imageAt cX10_imageAt 2 (some (.object "DeputyQuarrels$Standing")) 1 := ⟨kc_yX10_imageAt, kz_RX10, ⟨by decide +kernel, by decide +kernel, by decide +kernel⟩, by decide⟩
theorem jy_X10_settle : jY yX10_settle cX10_settle 1 none 0 := ⟨kc_yX10_settle, kz_RX10, ⟨by decide +kernel, by decide +kernel, by decide +kernel⟩, by decide⟩
theorem jy_X9_build : jY yX9_build cX9_build 6 none 3 := ⟨kc_yX9_build, kz_RX9, ⟨by decide +kernel, by decide +kernel, by decide +kernel⟩, by decide⟩
theorem jy_X6_fill_ : jY yX6_fill_ cX6_fill_ 4 none 2 := ⟨kc_yX6_fill_, kz_RX6, ⟨by decide +kernel, by decide +kernel, by decide +kernel⟩, by decide⟩
theorem jy_X9_setSpot : jY yX9_setSpot cX9_setSpot 4 none 3 := ⟨kc_yX9_setSpot, kz_RX9, ⟨by decide +kernel, by decide +kernel, by decide +kernel⟩, by decide⟩
theorem jy_X6_at_ : jY yX6_at_ cX6_at_ 2 (some .long) 2 := ⟨kc_yX6_at_, kz_RX6, ⟨by decide +kernel, by decide +kernel, by decide +kernel⟩, by decide⟩
theorem jy_X6_put_ : jY yX6_put_ cX6_put_ 4 none 3 := ⟨kc_yX6_put_, kz_RX6, ⟨by decide +kernel, by decide +kernel, by decide +kernel⟩, by decide⟩
theorem jy_X9_isAllowed : jY yX9_isAllowed cX9_isAllowed 3 (some .boolean) 3 := ⟨kc_yX9_isAllowed, kz_RX9, ⟨by decide +kernel, by decide +kernel, by decide +kernel⟩, by decide⟩
theorem jy_X9_join : jY yX9_join cX9_join 7 none 1 := ⟨kc_yX9_join, kz_RX9, ⟨by decide +kernel, by decide +kernel, by decide +kernel⟩, by decide⟩
theorem jy_X9_byTurn : jY yX9_byTurn cX9_byTurn 2 (some .int) 1 := ⟨kc_yX9_byTurn, kz_RX9, ⟨by decide +kernel, by decide +kernel, by decide +kernel⟩, by decide⟩
theorem jy_X0_takeFoes : jY yX0_takeFoes cX0_takeFoes 2 none 1 := ⟨kc_yX0_takeFoes, kz_RX0, ⟨by decide +kernel, by decide +kernel, by decide +kernel⟩, by decide⟩
theorem jy_X10_fault : jY yX10_fault cX10_fault 1 (some .int) 0 := ⟨kc_yX10_fault, kz_RX10, ⟨by decide +kernel, by decide +kernel, by decide +kernel⟩, by decide⟩
theorem jy_X10_count : jY yX10_count cX10_count 2 (some .int) 1 := ⟨kc_yX10_count, kz_RX10, ⟨by decide +kernel, by decide +kernel, by decide +kernel⟩, by decide⟩
theorem jy_X10_person : jY yX10_person cX10_person 3 (some .int) 2 := ⟨kc_yX10_person, kz_RX10, ⟨by decide +kernel, by decide +kernel, by decide +kernel⟩, by decide⟩
theorem jy_X10_isPerson : jY yX10_isPerson cX10_isPerson 2 (some .boolean) 1 := ⟨kc_yX10_isPerson, kz_RX10, ⟨by decide +kernel, by decide +kernel, by decide +kernel⟩, by decide⟩
theorem jy_X8_creditorsOf : jY yX8_creditorsOf cX8_creditorsOf 4 (some .int) 1 := ⟨kc_yX8_creditorsOf, kz_RX8, ⟨by decide +kernel, by decide +kernel, by decide +kernel⟩, by decide⟩
theorem jy_X10_turn : jY yX10_turn cX10_turn 3 (some .int) 2 := ⟨kc_yX10_turn, kz_RX10, ⟨by decide +kernel, by decide +kernel, by decide +kernel⟩, by decide⟩
theorem jy_X10_isTurn : jY yX10_isTurn cX10_isTurn 2 (some .boolean) 1 := ⟨kc_yX10_isTurn, kz_RX10, ⟨by decide +kernel, by decide +kernel, by decide +kernel⟩, by decide⟩
theorem jy_X10_grudge : jY yX10_grudge cX10_grudge 2 (some .int) 1 := ⟨kc_yX10_grudge, kz_RX10, ⟨by decide +kernel, by decide +kernel, by decide +kernel⟩, by decide⟩
theorem jy_X10_law : jY yX10_law cX10_law 4 (some .int) 2 := ⟨kc_yX10_law, kz_RX10, ⟨by decide +kernel, by decide +kernel, by decide +kernel⟩, by decide⟩
theorem jy_X10_forgetFromWhom : jY yX10_forgetFromWhom cX10_forgetFromWhom 3 none 0 := ⟨kc_yX10_forgetFromWhom, kz_RX10, ⟨by decide +kernel, by decide +kernel, by decide +kernel⟩, by decide⟩
theorem jy_X0_holder : jY yX0_holder cX0_holder 3 (some .int) 2 := ⟨kc_yX0_holder, kz_RX0, ⟨by decide +kernel, by decide +kernel, by decide +kernel⟩, by decide⟩
theorem jy_X0_spot : jY yX0_spot cX0_spot 2 (some .int) 2 := ⟨kc_yX0_spot, kz_RX0, ⟨by decide +kernel, by decide +kernel, by decide +kernel⟩, by decide⟩
theorem jy_X10_bear : jY yX10_bear cX10_bear 4 (some .int) 3 := ⟨kc_yX10_bear, kz_RX10, ⟨by decide +kernel, by decide +kernel, by decide +kernel⟩, by decide⟩
theorem jy_X1_drop : jY yX1_drop cX1_drop 6 none 2 := ⟨kc_yX1_drop, kz_RX1, ⟨by decide +kernel, by decide +kernel, by decide +kernel⟩, by decide⟩
theorem jy_X10_quarrel : jY yX10_quarrel cX10_quarrel 4 (some .int) 2 := ⟨kc_yX10_quarrel, kz_RX10, ⟨by decide +kernel, by decide +kernel, by decide +kernel⟩, by decide⟩
theorem jy_X10_isQuarrel : jY yX10_isQuarrel cX10_isQuarrel 2 (some .boolean) 1 := ⟨kc_yX10_isQuarrel, kz_RX10, ⟨by decide +kernel, by decide +kernel, by decide +kernel⟩, by decide⟩
theorem jy_X0_fromWhom : jY yX0_fromWhom cX0_fromWhom 4 (some .int) 2 := ⟨kc_yX0_fromWhom, kz_RX0, ⟨by decide +kernel, by decide +kernel, by decide +kernel⟩, by decide⟩
theorem jy_X0_howIs : jY yX0_howIs cX0_howIs 2 (some .int) 1 := ⟨kc_yX0_howIs, kz_RX0, ⟨by decide +kernel, by decide +kernel, by decide +kernel⟩, by decide⟩
theorem jy_X0_isEnded : jY yX0_isEnded cX0_isEnded 4 (some .boolean) 1 := ⟨kc_yX0_isEnded, kz_RX0, ⟨by decide +kernel, by decide +kernel, by decide +kernel⟩, by decide⟩
theorem jy_X0_onwardOf : jY yX0_onwardOf cX0_onwardOf 4 (some .long) 1 := ⟨kc_yX0_onwardOf, kz_RX0, ⟨by decide +kernel, by decide +kernel, by decide +kernel⟩, by decide⟩
theorem jy_X10_may : jY yX10_may cX10_may 2 (some .int) 1 := ⟨kc_yX10_may, kz_RX10, ⟨by decide +kernel, by decide +kernel, by decide +kernel⟩, by decide⟩
theorem jy_X0_allowed : jY yX0_allowed cX0_allowed 6 (some .int) 1 := ⟨kc_yX0_allowed, kz_RX0, ⟨by decide +kernel, by decide +kernel, by decide +kernel⟩, by decide⟩
theorem jy_J13_bitCount_95d88 : jY yJ13_bitCount_95d88 cJ13_bitCount_95d88 2 (some .int) 1 := ⟨kc_yJ13_bitCount_95d88, kz_RJ13, ⟨by decide +kernel, by decide +kernel, by decide +kernel⟩, by decide⟩
theorem jy_X6_lowest : jY yX6_lowest cX6_lowest 2 (some .int) 1 := ⟨kc_yX6_lowest, kz_RX6, ⟨by decide +kernel, by decide +kernel, by decide +kernel⟩, by decide⟩
theorem jy_X10_hand : jY yX10_hand cX10_hand 4 (some .int) 2 := ⟨kc_yX10_hand, kz_RX10, ⟨by decide +kernel, by decide +kernel, by decide +kernel⟩, by decide⟩
theorem jy_X10_handByDraw : jY yX10_handByDraw cX10_handByDraw 5 (some .int) 1 := ⟨kc_yX10_handByDraw, kz_RX10, ⟨by decide +kernel, by decide +kernel, by decide +kernel⟩, by decide⟩
theorem jy_X10_setHow : jY yX10_setHow cX10_setHow 3 none 2 := ⟨kc_yX10_setHow, kz_RX10, ⟨by decide +kernel, by decide +kernel, by decide +kernel⟩, by decide⟩
theorem jy_J6_bitCount_0f7a4 : jY yJ6_bitCount_0f7a4 cJ6_bitCount_0f7a4 1 (some .int) 1 := ⟨kc_yJ6_bitCount_0f7a4, kz_RJ6, ⟨by decide +kernel, by decide +kernel, by decide +kernel⟩, by decide⟩
theorem jy_X10_draw : jY yX10_draw cX10_draw 2 (some .int) 1 := ⟨kc_yX10_draw, kz_RX10, ⟨by decide +kernel, by decide +kernel, by decide +kernel⟩, by decide⟩
theorem jy_X6_numbered : jY yX6_numbered cX6_numbered 4 (some .int) 2 := ⟨kc_yX6_numbered, kz_RX6, ⟨by decide +kernel, by decide +kernel, by decide +kernel⟩, by decide⟩
theorem jy_X10_handTo : jY yX10_handTo cX10_handTo 4 none 2 := ⟨kc_yX10_handTo, kz_RX10, ⟨by decide +kernel, by decide +kernel, by decide +kernel⟩, by decide⟩
theorem jy_X0_spotFor : jY yX0_spotFor cX0_spotFor 3 (some .int) 2 := ⟨kc_yX0_spotFor, kz_RX0, ⟨by decide +kernel, by decide +kernel, by decide +kernel⟩, by decide⟩
theorem jy_X0_after : jY yX0_after cX0_after 3 (some .int) 2 := ⟨kc_yX0_after, kz_RX0, ⟨by decide +kernel, by decide +kernel, by decide +kernel⟩, by decide⟩
theorem jy_X10_begin : jY yX10_begin cX10_begin 3 (some .int) 1 := ⟨kc_yX10_begin, kz_RX10, ⟨by decide +kernel, by decide +kernel, by decide +kernel⟩, by decide⟩
theorem jy_X10_drift : jY yX10_drift cX10_drift 4 (some .int) 2 := ⟨kc_yX10_drift, kz_RX10, ⟨by decide +kernel, by decide +kernel, by decide +kernel⟩, by decide⟩
theorem jy_X10_comes : jY yX10_comes cX10_comes 3 (some .int) 2 := ⟨kc_yX10_comes, kz_RX10, ⟨by decide +kernel, by decide +kernel, by decide +kernel⟩, by decide⟩
theorem jy_X0_solve : jY yX0_solve cX0_solve 5 (some .int) 3 := ⟨kc_yX0_solve, kz_RX0, ⟨by decide +kernel, by decide +kernel, by decide +kernel⟩, by decide⟩
theorem jy_X0_forget : jY yX0_forget cX0_forget 2 none 0 := ⟨kc_yX0_forget, kz_RX0, ⟨by decide +kernel, by decide +kernel, by decide +kernel⟩, by decide⟩
theorem jy_X0_comeTo : jY yX0_comeTo cX0_comeTo 2 none 1 := ⟨kc_yX0_comeTo, kz_RX0, ⟨by decide +kernel, by decide +kernel, by decide +kernel⟩, by decide⟩
theorem jy_X0_spread : jY yX0_spread cX0_spread 7 none 2 := ⟨kc_yX0_spread, kz_RX0, ⟨by decide +kernel, by decide +kernel, by decide +kernel⟩, by decide⟩
theorem jy_J9_max_7cf53 : jY yJ9_max_7cf53 cJ9_max_7cf53 2 (some .int) 2 := ⟨kc_yJ9_max_7cf53, kz_RJ9, ⟨by decide +kernel, by decide +kernel, by decide +kernel⟩, by decide⟩
theorem jy_X0_settle : jY yX0_settle cX0_settle 3 none 2 := ⟨kc_yX0_settle, kz_RX0, ⟨by decide +kernel, by decide +kernel, by decide +kernel⟩, by decide⟩
theorem jy_X0_lookBack : jY yX0_lookBack cX0_lookBack 10 none 2 := ⟨kc_yX0_lookBack, kz_RX0, ⟨by decide +kernel, by decide +kernel, by decide +kernel⟩, by decide⟩
theorem jy_X0_solveOneWay : jY yX0_solveOneWay cX0_solveOneWay 5 none 3 := ⟨kc_yX0_solveOneWay, kz_RX0, ⟨by decide +kernel, by decide +kernel, by decide +kernel⟩, by decide⟩
theorem jy_X0_neededAt : jY yX0_neededAt cX0_neededAt 2 (some .int) 1 := ⟨kc_yX0_neededAt, kz_RX0, ⟨by decide +kernel, by decide +kernel, by decide +kernel⟩, by decide⟩
theorem jy_X0_endsFound : jY yX0_endsFound cX0_endsFound 3 (some .int) 0 := ⟨kc_yX0_endsFound, kz_RX0, ⟨by decide +kernel, by decide +kernel, by decide +kernel⟩, by decide⟩
theorem jy_X0_holdersFound : jY yX0_holdersFound cX0_holdersFound 3 (some .int) 0 := ⟨kc_yX0_holdersFound, kz_RX0, ⟨by decide +kernel, by decide +kernel, by decide +kernel⟩, by decide⟩
theorem jy_X0_holders : jY yX0_holders cX0_holders 2 (some .int) 1 := ⟨kc_yX0_holders, kz_RX0, ⟨by decide +kernel, by decide +kernel, by decide +kernel⟩, by decide⟩
theorem jy_X10_end : jY yX10_end cX10_end 3 (some .int) 2 := ⟨kc_yX10_end, kz_RX10, ⟨by decide +kernel, by decide +kernel, by decide +kernel⟩, by decide⟩
theorem jy_X0_endAt : jY yX0_endAt cX0_endAt 6 (some .int) 1 := ⟨kc_yX0_endAt, kz_RX0, ⟨by decide +kernel, by decide +kernel, by decide +kernel⟩, by decide⟩
theorem jy_X10_forces : jY yX10_forces cX10_forces 3 (some .int) 2 := ⟨kc_yX10_forces, kz_RX10, ⟨by decide +kernel, by decide +kernel, by decide +kernel⟩, by decide⟩
theorem jy_X10_isSide : jY yX10_isSide cX10_isSide 1 (some .boolean) 1 := ⟨kc_yX10_isSide, kz_RX10, ⟨by decide +kernel, by decide +kernel, by decide +kernel⟩, by decide⟩
theorem jy_X10_best : jY yX10_best cX10_best 3 (some .int) 2 := ⟨kc_yX10_best, kz_RX10, ⟨by decide +kernel, by decide +kernel, by decide +kernel⟩, by decide⟩
theorem jy_X0_bestPerson : jY yX0_bestPerson cX0_bestPerson 11 (some .int) 2 := ⟨kc_yX0_bestPerson, kz_RX0, ⟨by decide +kernel, by decide +kernel, by decide +kernel⟩, by decide⟩
theorem jy_X10_sure : jY yX10_sure cX10_sure 2 (some .int) 1 := ⟨kc_yX10_sure, kz_RX10, ⟨by decide +kernel, by decide +kernel, by decide +kernel⟩, by decide⟩
theorem jy_X10_aside : jY yX10_aside cX10_aside 3 (some .int) 2 := ⟨kc_yX10_aside, kz_RX10, ⟨by decide +kernel, by decide +kernel, by decide +kernel⟩, by decide⟩
theorem jy_X10_fewestLaidAside : jY yX10_fewestLaidAside cX10_fewestLaidAside 7 (some .int) 2 := ⟨kc_yX10_fewestLaidAside, kz_RX10, ⟨by decide +kernel, by decide +kernel, by decide +kernel⟩, by decide⟩
theorem jy_X0_toggleFoes : jY yX0_toggleFoes cX0_toggleFoes 3 none 2 := ⟨kc_yX0_toggleFoes, kz_RX0, ⟨by decide +kernel, by decide +kernel, by decide +kernel⟩, by decide⟩
theorem jy_X10_fresh : jY yX10_fresh cX10_fresh 4 (some .int) 3 := ⟨kc_yX10_fresh, kz_RX10, ⟨by decide +kernel, by decide +kernel, by decide +kernel⟩, by decide⟩
theorem jy_X2_seek : jY yX2_seek cX2_seek 5 none 3 := ⟨kc_yX2_seek, kz_RX2, ⟨by decide +kernel, by decide +kernel, by decide +kernel⟩, by decide⟩
theorem jy_X2_seekBesides : jY yX2_seekBesides cX2_seekBesides 7 none 4 := ⟨kc_yX2_seekBesides, kz_RX2, ⟨by decide +kernel, by decide +kernel, by decide +kernel⟩, by decide⟩
theorem jy_X2_toggle : jY yX2_toggle cX2_toggle 2 none 2 := ⟨kc_yX2_toggle, kz_RX2, ⟨by decide +kernel, by decide +kernel, by decide +kernel⟩, by decide⟩
theorem jy_X0_followPeace : jY yX0_followPeace cX0_followPeace 6 none 3 := ⟨kc_yX0_followPeace, kz_RX0, ⟨by decide +kernel, by decide +kernel, by decide +kernel⟩, by decide⟩
theorem jy_X0_walkTo : jY yX0_walkTo cX0_walkTo 2 none 1 := ⟨kc_yX0_walkTo, kz_RX0, ⟨by decide +kernel, by decide +kernel, by decide +kernel⟩, by decide⟩
theorem jy_X0_mark : jY yX0_mark cX0_mark 4 none 3 := ⟨kc_yX0_mark, kz_RX0, ⟨by decide +kernel, by decide +kernel, by decide +kernel⟩, by decide⟩
theorem jy_J9_min_7cf53 : jY yJ9_min_7cf53 cJ9_min_7cf53 2 (some .int) 2 := ⟨kc_yJ9_min_7cf53, kz_RJ9, ⟨by decide +kernel, by decide +kernel, by decide +kernel⟩, by decide⟩
theorem jy_X0_walkOn : jY yX0_walkOn cX0_walkOn 8 none 2 := ⟨kc_yX0_walkOn, kz_RX0, ⟨by decide +kernel, by decide +kernel, by decide +kernel⟩, by decide⟩
theorem jy_X2_isIn : jY yX2_isIn cX2_isIn 2 (some .boolean) 2 := ⟨kc_yX2_isIn, kz_RX2, ⟨by decide +kernel, by decide +kernel, by decide +kernel⟩, by decide⟩
theorem jy_X2_isAhead : jY yX2_isAhead cX2_isAhead 4 (some .boolean) 2 := ⟨kc_yX2_isAhead, kz_RX2, ⟨by decide +kernel, by decide +kernel, by decide +kernel⟩, by decide⟩
theorem jy_X2_take : jY yX2_take cX2_take 3 none 2 := ⟨kc_yX2_take, kz_RX2, ⟨by decide +kernel, by decide +kernel, by decide +kernel⟩, by decide⟩
theorem jy_X2_pairTold : jY yX2_pairTold cX2_pairTold 3 (some .int) 1 := ⟨kc_yX2_pairTold, kz_RX2, ⟨by decide +kernel, by decide +kernel, by decide +kernel⟩, by decide⟩
theorem jy_X10_most : jY yX10_most cX10_most 3 (some .int) 1 := ⟨kc_yX10_most, kz_RX10, ⟨by decide +kernel, by decide +kernel, by decide +kernel⟩, by decide⟩
theorem jy_X4_mostEnded : jY yX4_mostEnded cX4_mostEnded 7 (some .int) 3 := ⟨kc_yX4_mostEnded, kz_RX4, ⟨by decide +kernel, by decide +kernel, by decide +kernel⟩, by decide⟩
theorem jy_X4_putBit : jY yX4_putBit cX4_putBit 2 none 2 := ⟨kc_yX4_putBit, kz_RX4, ⟨by decide +kernel, by decide +kernel, by decide +kernel⟩, by decide⟩
theorem jy_X4_isReached : jY yX4_isReached cX4_isReached 3 (some .boolean) 1 := ⟨kc_yX4_isReached, kz_RX4, ⟨by decide +kernel, by decide +kernel, by decide +kernel⟩, by decide⟩
theorem jy_X4_carryOneMore : jY yX4_carryOneMore cX4_carryOneMore 6 none 4 := ⟨kc_yX4_carryOneMore, kz_RX4, ⟨by decide +kernel, by decide +kernel, by decide +kernel⟩, by decide⟩
theorem jy_X4_hasBit : jY yX4_hasBit cX4_hasBit 2 (some .boolean) 2 := ⟨kc_yX4_hasBit, kz_RX4, ⟨by decide +kernel, by decide +kernel, by decide +kernel⟩, by decide⟩
theorem jy_X4_carry : jY yX4_carry cX4_carry 11 none 5 := ⟨kc_yX4_carry, kz_RX4, ⟨by decide +kernel, by decide +kernel, by decide +kernel⟩, by decide⟩
theorem jy_X4_spotAt : jY yX4_spotAt cX4_spotAt 3 (some .int) 3 := ⟨kc_yX4_spotAt, kz_RX4, ⟨by decide +kernel, by decide +kernel, by decide +kernel⟩, by decide⟩
theorem jy_X4_usable : jY yX4_usable cX4_usable 8 (some .int) 3 := ⟨kc_yX4_usable, kz_RX4, ⟨by decide +kernel, by decide +kernel, by decide +kernel⟩, by decide⟩
theorem jy_X9_leadsBy : jY yX9_leadsBy cX9_leadsBy 3 (some .boolean) 2 := ⟨kc_yX9_leadsBy, kz_RX9, ⟨by decide +kernel, by decide +kernel, by decide +kernel⟩, by decide⟩
theorem jy_X10_worth : jY yX10_worth cX10_worth 3 (some .int) 1 := ⟨kc_yX10_worth, kz_RX10, ⟨by decide +kernel, by decide +kernel, by decide +kernel⟩, by decide⟩
theorem jy_X10_log : jY yX10_log cX10_log 3 (some .int) 2 := ⟨kc_yX10_log, kz_RX10, ⟨by decide +kernel, by decide +kernel, by decide +kernel⟩, by decide⟩
theorem jy_X3_write : jY yX3_write cX3_write 3 none 2 := ⟨kc_yX3_write, kz_RX3, ⟨by decide +kernel, by decide +kernel, by decide +kernel⟩, by decide⟩
theorem jy_X10_clear : jY yX10_clear cX10_clear 2 (some .int) 0 := ⟨kc_yX10_clear, kz_RX10, ⟨by decide +kernel, by decide +kernel, by decide +kernel⟩, by decide⟩
theorem jy_X10_judge : jY yX10_judge cX10_judge 6 (some .int) 1 := ⟨kc_yX10_judge, kz_RX10, ⟨by decide +kernel, by decide +kernel, by decide +kernel⟩, by decide⟩
theorem jy_X0_afterLogged : jY yX0_afterLogged cX0_afterLogged 5 (some .int) 3 := ⟨kc_yX0_afterLogged, kz_RX0, ⟨by decide +kernel, by decide +kernel, by decide +kernel⟩, by decide⟩
theorem jy_X10_seen : jY yX10_seen cX10_seen 4 (some .int) 3 := ⟨kc_yX10_seen, kz_RX10, ⟨by decide +kernel, by decide +kernel, by decide +kernel⟩, by decide⟩
theorem jy_X3_see : jY yX3_see cX3_see 4 none 3 := ⟨kc_yX3_see, kz_RX3, ⟨by decide +kernel, by decide +kernel, by decide +kernel⟩, by decide⟩
theorem jy_X10_have : jY yX10_have cX10_have 2 (some .int) 1 := ⟨kc_yX10_have, kz_RX10, ⟨by decide +kernel, by decide +kernel, by decide +kernel⟩, by decide⟩
theorem jy_X0_holdersBehind : jY yX0_holdersBehind cX0_holdersBehind 10 (some .int) 3 := ⟨kc_yX0_holdersBehind, kz_RX0, ⟨by decide +kernel, by decide +kernel, by decide +kernel⟩, by decide⟩
theorem jy_X0_putIfFits : jY yX0_putIfFits cX0_putIfFits 6 (some .int) 5 := ⟨kc_yX0_putIfFits, kz_RX0, ⟨by decide +kernel, by decide +kernel, by decide +kernel⟩, by decide⟩
theorem jy_X3_fits : jY yX3_fits cX3_fits 6 (some .boolean) 3 := ⟨kc_yX3_fits, kz_RX3, ⟨by decide +kernel, by decide +kernel, by decide +kernel⟩, by decide⟩
theorem jy_X0_putOnward : jY yX0_putOnward cX0_putOnward 10 (some .int) 5 := ⟨kc_yX0_putOnward, kz_RX0, ⟨by decide +kernel, by decide +kernel, by decide +kernel⟩, by decide⟩
theorem jy_X10_seed : jY yX10_seed cX10_seed 3 (some .int) 1 := ⟨kc_yX10_seed, kz_RX10, ⟨by decide +kernel, by decide +kernel, by decide +kernel⟩, by decide⟩
theorem jy_X10_keep : jY yX10_keep cX10_keep 3 (some .int) 1 := ⟨kc_yX10_keep, kz_RX10, ⟨by decide +kernel, by decide +kernel, by decide +kernel⟩, by decide⟩
theorem jy_X7_take : jY yX7_take cX7_take 2 none 1 := ⟨kc_yX7_take, kz_RX7, ⟨by decide +kernel, by decide +kernel, by decide +kernel⟩, by decide⟩
theorem jy_X10_goBack : jY yX10_goBack cX10_goBack 3 (some .int) 1 := ⟨kc_yX10_goBack, kz_RX10, ⟨by decide +kernel, by decide +kernel, by decide +kernel⟩, by decide⟩
theorem jy_X11_init : jY yX11_init cX11_init 1 none 0 := ⟨kc_yX11_init, kz_RX11, ⟨by decide +kernel, by decide +kernel, by decide +kernel⟩, by decide⟩
theorem jy_X11_feed : jY yX11_feed cX11_feed 5 (some .int) 2 := ⟨kc_yX11_feed, kz_RX11, ⟨by decide +kernel, by decide +kernel, by decide +kernel⟩, by decide⟩
theorem jy_X11_in : jY yX11_in cX11_in 6 (some .boolean) 3 := ⟨kc_yX11_in, kz_RX11, ⟨by decide +kernel, by decide +kernel, by decide +kernel⟩, by decide⟩
theorem jy_X11_town : jY yX11_town cX11_town 2 (some .int) 0 := ⟨kc_yX11_town, kz_RX11, ⟨by decide +kernel, by decide +kernel, by decide +kernel⟩, by decide⟩
theorem jy_X11_here : jY yX11_here cX11_here 1 (some .int) 0 := ⟨kc_yX11_here, kz_RX11, ⟨by decide +kernel, by decide +kernel, by decide +kernel⟩, by decide⟩
theorem jy_X11_takeClause : jY yX11_takeClause cX11_takeClause 3 (some .int) 0 := ⟨kc_yX11_takeClause, kz_RX11, ⟨by decide +kernel, by decide +kernel, by decide +kernel⟩, by decide⟩
theorem jy_X11_readWord : jY yX11_readWord cX11_readWord 2 none 0 := ⟨kc_yX11_readWord, kz_RX11, ⟨by decide +kernel, by decide +kernel, by decide +kernel⟩, by decide⟩
theorem jy_X11_code4 : jY yX11_code4 cX11_code4 4 (some .long) 4 := ⟨kc_yX11_code4, kz_RX11, ⟨by decide +kernel, by decide +kernel, by decide +kernel⟩, by decide⟩
theorem jy_X11_longer : jY yX11_longer cX11_longer 3 (some .long) 2 := ⟨kc_yX11_longer, kz_RX11, ⟨by decide +kernel, by decide +kernel, by decide +kernel⟩, by decide⟩
theorem jy_X11_fails : jY yX11_fails cX11_fails 3 (some .int) 2 := ⟨kc_yX11_fails, kz_RX11, ⟨by decide +kernel, by decide +kernel, by decide +kernel⟩, by decide⟩
theorem jy_X11_takeNumber : jY yX11_takeNumber cX11_takeNumber 4 (some .int) 2 := ⟨kc_yX11_takeNumber, kz_RX11, ⟨by decide +kernel, by decide +kernel, by decide +kernel⟩, by decide⟩
theorem jy_X11_takeTwo : jY yX11_takeTwo cX11_takeTwo 5 (some .int) 1 := ⟨kc_yX11_takeTwo, kz_RX11, ⟨by decide +kernel, by decide +kernel, by decide +kernel⟩, by decide⟩
theorem jy_X11_takeTown : jY yX11_takeTown cX11_takeTown 2 none 0 := ⟨kc_yX11_takeTown, kz_RX11, ⟨by decide +kernel, by decide +kernel, by decide +kernel⟩, by decide⟩
theorem jy_X11_toldCode : jY yX11_toldCode cX11_toldCode 2 (some .int) 1 := ⟨kc_yX11_toldCode, kz_RX11, ⟨by decide +kernel, by decide +kernel, by decide +kernel⟩, by decide⟩
theorem jy_X11_code : jY yX11_code cX11_code 5 (some .int) 5 := ⟨kc_yX11_code, kz_RX11, ⟨by decide +kernel, by decide +kernel, by decide +kernel⟩, by decide⟩
theorem jy_X11_fault : jY yX11_fault cX11_fault 1 (some .int) 0 := ⟨kc_yX11_fault, kz_RX11, ⟨by decide +kernel, by decide +kernel, by decide +kernel⟩, by decide⟩
theorem jy_X11_count : jY yX11_count cX11_count 2 (some .int) 1 := ⟨kc_yX11_count, kz_RX11, ⟨by decide +kernel, by decide +kernel, by decide +kernel⟩, by decide⟩
theorem jy_X11_person : jY yX11_person cX11_person 5 (some .int) 2 := ⟨kc_yX11_person, kz_RX11, ⟨by decide +kernel, by decide +kernel, by decide +kernel⟩, by decide⟩
theorem jy_X11_isPerson : jY yX11_isPerson cX11_isPerson 2 (some .boolean) 1 := ⟨kc_yX11_isPerson, kz_RX11, ⟨by decide +kernel, by decide +kernel, by decide +kernel⟩, by decide⟩
theorem jy_X11_bears : jY yX11_bears cX11_bears 4 (some .int) 1 := ⟨kc_yX11_bears, kz_RX11, ⟨by decide +kernel, by decide +kernel, by decide +kernel⟩, by decide⟩
theorem jy_X11_turn : jY yX11_turn cX11_turn 3 (some .int) 2 := ⟨kc_yX11_turn, kz_RX11, ⟨by decide +kernel, by decide +kernel, by decide +kernel⟩, by decide⟩
theorem jy_X11_grudge : jY yX11_grudge cX11_grudge 2 (some .int) 1 := ⟨kc_yX11_grudge, kz_RX11, ⟨by decide +kernel, by decide +kernel, by decide +kernel⟩, by decide⟩
theorem jy_X11_law : jY yX11_law cX11_law 5 (some .int) 2 := ⟨kc_yX11_law, kz_RX11, ⟨by decide +kernel, by decide +kernel, by decide +kernel⟩, by decide⟩
theorem jy_X11_one : jY yX11_one cX11_one 1 (some .int) 1 := ⟨kc_yX11_one, kz_RX11, ⟨by decide +kernel, by decide +kernel, by decide +kernel⟩, by decide⟩
theorem jy_X11_two : jY yX11_two cX11_two 1 (some .int) 1 := ⟨kc_yX11_two, kz_RX11, ⟨by decide +kernel, by decide +kernel, by decide +kernel⟩, by decide⟩
theorem jy_X11_side : jY yX11_side cX11_side 1 (some .int) 1 := ⟨kc_yX11_side, kz_RX11, ⟨by decide +kernel, by decide +kernel, by decide +kernel⟩, by decide⟩
theorem jy_X11_bear : jY yX11_bear cX11_bear 5 (some .int) 3 := ⟨kc_yX11_bear, kz_RX11, ⟨by decide +kernel, by decide +kernel, by decide +kernel⟩, by decide⟩
theorem jy_X11_grudgeOf : jY yX11_grudgeOf cX11_grudgeOf 5 (some .int) 2 := ⟨kc_yX11_grudgeOf, kz_RX11, ⟨by decide +kernel, by decide +kernel, by decide +kernel⟩, by decide⟩
theorem jy_X11_quarrel : jY yX11_quarrel cX11_quarrel 3 (some .int) 2 := ⟨kc_yX11_quarrel, kz_RX11, ⟨by decide +kernel, by decide +kernel, by decide +kernel⟩, by decide⟩
theorem jy_X11_isQuarrel : jY yX11_isQuarrel cX11_isQuarrel 2 (some .boolean) 1 := ⟨kc_yX11_isQuarrel, kz_RX11, ⟨by decide +kernel, by decide +kernel, by decide +kernel⟩, by decide⟩
theorem jy_X11_from : jY yX11_from cX11_from 2 (some .int) 2 := ⟨kc_yX11_from, kz_RX11, ⟨by decide +kernel, by decide +kernel, by decide +kernel⟩, by decide⟩
theorem jy_X11_stateOf : jY yX11_stateOf cX11_stateOf 2 (some .int) 1 := ⟨kc_yX11_stateOf, kz_RX11, ⟨by decide +kernel, by decide +kernel, by decide +kernel⟩, by decide⟩
theorem jy_X11_isEnded : jY yX11_isEnded cX11_isEnded 2 (some .boolean) 1 := ⟨kc_yX11_isEnded, kz_RX11, ⟨by decide +kernel, by decide +kernel, by decide +kernel⟩, by decide⟩
theorem jy_X11_mayOf : jY yX11_mayOf cX11_mayOf 8 (some .int) 2 := ⟨kc_yX11_mayOf, kz_RX11, ⟨by decide +kernel, by decide +kernel, by decide +kernel⟩, by decide⟩
theorem jy_X11_holder : jY yX11_holder cX11_holder 2 (some .int) 2 := ⟨kc_yX11_holder, kz_RX11, ⟨by decide +kernel, by decide +kernel, by decide +kernel⟩, by decide⟩
theorem jy_X11_owedNow : jY yX11_owedNow cX11_owedNow 4 (some .int) 1 := ⟨kc_yX11_owedNow, kz_RX11, ⟨by decide +kernel, by decide +kernel, by decide +kernel⟩, by decide⟩
theorem jy_X11_has : jY yX11_has cX11_has 2 (some .boolean) 2 := ⟨kc_yX11_has, kz_RX11, ⟨by decide +kernel, by decide +kernel, by decide +kernel⟩, by decide⟩
theorem jy_X11_isLawful : jY yX11_isLawful cX11_isLawful 4 (some .boolean) 2 := ⟨kc_yX11_isLawful, kz_RX11, ⟨by decide +kernel, by decide +kernel, by decide +kernel⟩, by decide⟩
theorem jy_X11_may : jY yX11_may cX11_may 2 (some .int) 1 := ⟨kc_yX11_may, kz_RX11, ⟨by decide +kernel, by decide +kernel, by decide +kernel⟩, by decide⟩
theorem jy_X11_mayNow : jY yX11_mayNow cX11_mayNow 2 (some .int) 1 := ⟨kc_yX11_mayNow, kz_RX11, ⟨by decide +kernel, by decide +kernel, by decide +kernel⟩, by decide⟩
theorem jy_X11_hand : jY yX11_hand cX11_hand 3 (some .int) 2 := ⟨kc_yX11_hand, kz_RX11, ⟨by decide +kernel, by decide +kernel, by decide +kernel⟩, by decide⟩
theorem jy_X11_handOn : jY yX11_handOn cX11_handOn 5 (some .int) 2 := ⟨kc_yX11_handOn, kz_RX11, ⟨by decide +kernel, by decide +kernel, by decide +kernel⟩, by decide⟩
theorem jy_X11_drawn : jY yX11_drawn cX11_drawn 4 (some .int) 1 := ⟨kc_yX11_drawn, kz_RX11, ⟨by decide +kernel, by decide +kernel, by decide +kernel⟩, by decide⟩
theorem jy_X11_bits : jY yX11_bits cX11_bits 3 (some .int) 1 := ⟨kc_yX11_bits, kz_RX11, ⟨by decide +kernel, by decide +kernel, by decide +kernel⟩, by decide⟩
theorem jy_X11_draw : jY yX11_draw cX11_draw 2 (some .int) 1 := ⟨kc_yX11_draw, kz_RX11, ⟨by decide +kernel, by decide +kernel, by decide +kernel⟩, by decide⟩
theorem jy_X11_behind : jY yX11_behind cX11_behind 9 (some .int) 2 := ⟨kc_yX11_behind, kz_RX11, ⟨by decide +kernel, by decide +kernel, by decide +kernel⟩, by decide⟩
theorem jy_X11_begin : jY yX11_begin cX11_begin 3 (some .int) 1 := ⟨kc_yX11_begin, kz_RX11, ⟨by decide +kernel, by decide +kernel, by decide +kernel⟩, by decide⟩
theorem jy_X11_drift : jY yX11_drift cX11_drift 5 (some .int) 2 := ⟨kc_yX11_drift, kz_RX11, ⟨by decide +kernel, by decide +kernel, by decide +kernel⟩, by decide⟩
theorem jy_X11_comes : jY yX11_comes cX11_comes 7 (some .int) 2 := ⟨kc_yX11_comes, kz_RX11, ⟨by decide +kernel, by decide +kernel, by decide +kernel⟩, by decide⟩
theorem jy_X11_spread : jY yX11_spread cX11_spread 8 none 2 := ⟨kc_yX11_spread, kz_RX11, ⟨by decide +kernel, by decide +kernel, by decide +kernel⟩, by decide⟩
theorem jy_X11_reach : jY yX11_reach cX11_reach 3 none 2 := ⟨kc_yX11_reach, kz_RX11, ⟨by decide +kernel, by decide +kernel, by decide +kernel⟩, by decide⟩
theorem jy_X11_findEnds : jY yX11_findEnds cX11_findEnds 2 none 0 := ⟨kc_yX11_findEnds, kz_RX11, ⟨by decide +kernel, by decide +kernel, by decide +kernel⟩, by decide⟩
theorem jy_X11_goesRound : jY yX11_goesRound cX11_goesRound 4 (some .boolean) 0 := ⟨kc_yX11_goesRound, kz_RX11, ⟨by decide +kernel, by decide +kernel, by decide +kernel⟩, by decide⟩
theorem jy_X11_end : jY yX11_end cX11_end 5 (some .int) 2 := ⟨kc_yX11_end, kz_RX11, ⟨by decide +kernel, by decide +kernel, by decide +kernel⟩, by decide⟩
theorem jy_X11_forces : jY yX11_forces cX11_forces 3 (some .int) 2 := ⟨kc_yX11_forces, kz_RX11, ⟨by decide +kernel, by decide +kernel, by decide +kernel⟩, by decide⟩
theorem jy_X11_isSide : jY yX11_isSide cX11_isSide 1 (some .boolean) 1 := ⟨kc_yX11_isSide, kz_RX11, ⟨by decide +kernel, by decide +kernel, by decide +kernel⟩, by decide⟩
theorem jy_X11_forcesNow : jY yX11_forcesNow cX11_forcesNow 3 (some .int) 2 := ⟨kc_yX11_forcesNow, kz_RX11, ⟨by decide +kernel, by decide +kernel, by decide +kernel⟩, by decide⟩
theorem jy_X11_takeGrudges : jY yX11_takeGrudges cX11_takeGrudges 4 none 1 := ⟨kc_yX11_takeGrudges, kz_RX11, ⟨by decide +kernel, by decide +kernel, by decide +kernel⟩, by decide⟩
theorem jy_X11_solve : jY yX11_solve cX11_solve 6 none 1 := ⟨kc_yX11_solve, kz_RX11, ⟨by decide +kernel, by decide +kernel, by decide +kernel⟩, by decide⟩
theorem jy_X11_best : jY yX11_best cX11_best 12 (some .int) 2 := ⟨kc_yX11_best, kz_RX11, ⟨by decide +kernel, by decide +kernel, by decide +kernel⟩, by decide⟩
theorem jy_X11_sure : jY yX11_sure cX11_sure 2 (some .int) 1 := ⟨kc_yX11_sure, kz_RX11, ⟨by decide +kernel, by decide +kernel, by decide +kernel⟩, by decide⟩
theorem jy_X11_aside : jY yX11_aside cX11_aside 5 (some .int) 2 := ⟨kc_yX11_aside, kz_RX11, ⟨by decide +kernel, by decide +kernel, by decide +kernel⟩, by decide⟩
theorem jy_X11_fresh : jY yX11_fresh cX11_fresh 5 (some .int) 3 := ⟨kc_yX11_fresh, kz_RX11, ⟨by decide +kernel, by decide +kernel, by decide +kernel⟩, by decide⟩
theorem jy_X11_findFresh : jY yX11_findFresh cX11_findFresh 7 (some .int) 1 := ⟨kc_yX11_findFresh, kz_RX11, ⟨by decide +kernel, by decide +kernel, by decide +kernel⟩, by decide⟩
theorem jy_X11_isForced : jY yX11_isForced cX11_isForced 2 (some .boolean) 1 := ⟨kc_yX11_isForced, kz_RX11, ⟨by decide +kernel, by decide +kernel, by decide +kernel⟩, by decide⟩
theorem jy_X11_isFree : jY yX11_isFree cX11_isFree 3 (some .boolean) 2 := ⟨kc_yX11_isFree, kz_RX11, ⟨by decide +kernel, by decide +kernel, by decide +kernel⟩, by decide⟩
theorem jy_X11_setBearing : jY yX11_setBearing cX11_setBearing 3 none 2 := ⟨kc_yX11_setBearing, kz_RX11, ⟨by decide +kernel, by decide +kernel, by decide +kernel⟩, by decide⟩
theorem jy_X11_most : jY yX11_most cX11_most 3 (some .int) 1 := ⟨kc_yX11_most, kz_RX11, ⟨by decide +kernel, by decide +kernel, by decide +kernel⟩, by decide⟩
theorem jy_X11_mostSet : jY yX11_mostSet cX11_mostSet 7 (some .int) 1 := ⟨kc_yX11_mostSet, kz_RX11, ⟨by decide +kernel, by decide +kernel, by decide +kernel⟩, by decide⟩
theorem jy_X11_carryOn : jY yX11_carryOn cX11_carryOn 9 none 3 := ⟨kc_yX11_carryOn, kz_RX11, ⟨by decide +kernel, by decide +kernel, by decide +kernel⟩, by decide⟩
theorem jy_X11_tryOn : jY yX11_tryOn cX11_tryOn 3 none 2 := ⟨kc_yX11_tryOn, kz_RX11, ⟨by decide +kernel, by decide +kernel, by decide +kernel⟩, by decide⟩
theorem jy_X11_turnOf : jY yX11_turnOf cX11_turnOf 5 (some .int) 2 := ⟨kc_yX11_turnOf, kz_RX11, ⟨by decide +kernel, by decide +kernel, by decide +kernel⟩, by decide⟩
theorem jy_X11_worth : jY yX11_worth cX11_worth 3 (some .int) 1 := ⟨kc_yX11_worth, kz_RX11, ⟨by decide +kernel, by decide +kernel, by decide +kernel⟩, by decide⟩
theorem jy_X11_log : jY yX11_log cX11_log 3 (some .int) 2 := ⟨kc_yX11_log, kz_RX11, ⟨by decide +kernel, by decide +kernel, by decide +kernel⟩, by decide⟩
theorem jy_X11_clear : jY yX11_clear cX11_clear 2 (some .int) 0 := ⟨kc_yX11_clear, kz_RX11, ⟨by decide +kernel, by decide +kernel, by decide +kernel⟩, by decide⟩
theorem jy_X11_judge : jY yX11_judge cX11_judge 7 (some .int) 1 := ⟨kc_yX11_judge, kz_RX11, ⟨by decide +kernel, by decide +kernel, by decide +kernel⟩, by decide⟩
theorem jy_X11_seen : jY yX11_seen cX11_seen 4 (some .int) 3 := ⟨kc_yX11_seen, kz_RX11, ⟨by decide +kernel, by decide +kernel, by decide +kernel⟩, by decide⟩
theorem jy_X11_have : jY yX11_have cX11_have 4 (some .int) 1 := ⟨kc_yX11_have, kz_RX11, ⟨by decide +kernel, by decide +kernel, by decide +kernel⟩, by decide⟩
theorem jy_X11_fits : jY yX11_fits cX11_fits 6 (some .boolean) 2 := ⟨kc_yX11_fits, kz_RX11, ⟨by decide +kernel, by decide +kernel, by decide +kernel⟩, by decide⟩
theorem jy_X11_nextLay : jY yX11_nextLay cX11_nextLay 6 none 1 := ⟨kc_yX11_nextLay, kz_RX11, ⟨by decide +kernel, by decide +kernel, by decide +kernel⟩, by decide⟩
theorem jy_X11_layOn : jY yX11_layOn cX11_layOn 3 none 2 := ⟨kc_yX11_layOn, kz_RX11, ⟨by decide +kernel, by decide +kernel, by decide +kernel⟩, by decide⟩
theorem jy_X11_seed : jY yX11_seed cX11_seed 3 (some .int) 1 := ⟨kc_yX11_seed, kz_RX11, ⟨by decide +kernel, by decide +kernel, by decide +kernel⟩, by decide⟩
theorem jy_X11_keep : jY yX11_keep cX11_keep 4 (some .int) 1 := ⟨kc_yX11_keep, kz_RX11, ⟨by decide +kernel, by decide +kernel, by decide +kernel⟩, by decide⟩
theorem jy_X11_goBack : jY yX11_goBack cX11_goBack 4 (some .int) 1 := ⟨kc_yX11_goBack, kz_RX11, ⟨by decide +kernel, by decide +kernel, by decide +kernel⟩, by decide⟩
