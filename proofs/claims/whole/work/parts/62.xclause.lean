/-! a clause: what it is to do, and the class's reading of it -/
def tset (B : Tb) (a i v : Nat) : Tb := fun x y => if x = a ∧ y = i then v else B x y
theorem tset_at (B : Tb) (a i v : Nat) : tset B a i v a i = v := if_pos ⟨rfl, rfl⟩
theorem tset_ne {B : Tb} {a i v x y : Nat} (h : ¬ (x = a ∧ y = i)) : tset B a i v x y = B x y := if_neg h
def addP (B : Tb) (v : Nat) : Tb := tset (tset B 2 (tP B) v) 1 0 (tP B + 1)
def addT (B : Tb) (a b : Nat) : Tb := tset (tset (tset B 3 (tT B) a) 4 (tT B) b) 1 2 (tT B + 1)
def addG (B : Tb) (a b : Nat) : Tb := tset (tset B 6 (tG B) (100 * a + b)) 1 6 (tG B + 1)
def addU (B : Tb) (a b : Nat) : Tb := tset (tset (tset B 7 (tQ B) a) 8 (tQ B) b) 1 8 (tQ B + 1)
def addK (B : Tb) (k a b : Nat) : Tb := if k = 2 then addG B a b else if k = 1 then addT B a b else addU B a b
def ag (B : Tb) (k a b : Nat) : Bool := a == b || (k == 1 && owes B b a) || (k == 2 && bears B a b)
def full (B : Tb) (k : Nat) : Bool := (k == 0 && decide (16 ≤ tP B)) || (k == 1 && decide (40 ≤ tT B)) || (k == 3 && decide (4 ≤ tQ B))
def cFin (w : Nat → Nat) (n : Nat) (B : Tb) (d : Nat) : (Nat × Nat) ⊕ (Tb × Nat) := if ex (bl w) n d < n ∧ w (ex (bl w) n d) = 59 then .inr (B, ex (bl w) n d + 1) else .inl (1, ex (bl w) n d)
def nA (w : Nat → Nat) (n p : Nat) : Nat := ex (bl w) n p
def nD (w : Nat → Nat) (n p : Nat) : Nat := ex (dg w) n (ex (bl w) n p)
def nV (w : Nat → Nat) (n p : Nat) : Nat := nv w (ex (bl w) n p) (ex (dg w) n (ex (bl w) n p) - ex (bl w) n p)
def nF (w : Nat → Nat) (n p b : Nat) : Nat := nf (nA w n p) (nD w n p) (nV w n p) b
/-- a clause at q, whose word ends at e -/
def cOut (w : Nat → Nat) (n : Nat) (B : Tb) (q e : Nat) : (Nat × Nat) ⊕ (Tb × Nat) :=
  if kd w q e = 4 then .inl (1, q) else if full B (kd w q e) = true then .inl (3, q) else
  if kd w q e = 0 then (if nF w n e 10 = 0 then cFin w n (addP B (nV w n e)) (nD w n e) else .inl (nF w n e 10, nA w n e))
  else if nF w n e (tP B) = 0 then (if nF w n (nD w n e) (tP B) = 0 then (if ag B (kd w q e) (nV w n e) (nV w n (nD w n e)) = true then .inl (4, nA w n (nD w n e)) else cFin w n (addK B (kd w q e) (nV w n e) (nV w n (nD w n e))) (nD w n (nD w n e))) else .inl (nF w n (nD w n e) (tP B), nA w n (nD w n e)))
  else .inl (nF w n e (tP B), nA w n e)
def gB (B : Tb) : Prop := tP B ≤ 16 ∧ tT B ≤ 40 ∧ tG B ≤ 120 ∧ tQ B ≤ 4 ∧ (∀ p, p < tP B → B 2 p ≤ 9) ∧ (∀ t, t < tT B → B 3 t < tP B ∧ B 4 t < tP B ∧ B 3 t ≠ B 4 t) ∧ (∀ t u, t < tT B → u < tT B → B 3 t = B 3 u → B 4 t = B 4 u → t = u) ∧ wGA B ∧ ∀ q, q < tQ B → B 7 q < tP B ∧ B 8 q < tP B ∧ B 7 q ≠ B 8 q
def pX (σ : jS) (n : Nat) (w : Nat → Nat) (B : Tb) (T : Nat) : Prop := txX σ n w ∧ (T = 51 ∨ T = 61) ∧ gI σ 2 3 = 0 ∧ gI σ 2 2 = -1 ∧ xTo σ B T ∧ xGr σ (T + 6) B
def pFr (T : Nat) (σ σ' : jS) : Prop := fr [2, T, T + 1, T + 2, T + 3, T + 4, T + 5, T + 6, T + 7, T + 8, T + 9] σ σ' ∧ gI σ' 2 1 = gI σ 2 1
theorem pFr_tr {T : Nat} {a b c : jS} (h : pFr T a b) (g : pFr T b c) : pFr T a c := ⟨fr_trans h.1 g.1, g.2.trans h.2⟩
theorem pFr_2 {T : Nat} (σ : jS) {i : Nat} (v : Int32) (h : i ≠ 1) : pFr T σ (sI σ 2 i v) := ⟨fr_sI _ _ _ (by simp), gI_nei (fun e => h e.symm)⟩
theorem pFr_rfl (T : Nat) (σ : jS) : pFr T σ σ := ⟨fr_rfl _ _, rfl⟩
theorem pFr_fail {T : Nat} (σ : jS) (m v : Int32) : pFr T σ (failS σ m v) := by
  unfold failS
  split
  · exact pFr_tr (pFr_2 _ _ (by decide)) (pFr_2 _ _ (by decide))
  · exact pFr_rfl _ _
theorem fail_no {σ : jS} (h : gI σ 2 3 ≠ 0) (m v : Int32) : failS σ m v = σ := if_neg h
theorem fail_yes {σ : jS} (h : gI σ 2 3 = 0) (m v : Int32) : gI (failS σ m v) 2 3 = m ∧ gI (failS σ m v) 2 2 = v := by
  unfold failS
  rw [if_pos h]
  exact ⟨by rw [gI_nei (by decide), gI_sI], gI_sI _ _ _ _⟩
theorem fail_4 {σ : jS} (m v : Int32) : gI (failS σ m v) 2 4 = gI σ 2 4 := by
  unfold failS
  split
  · rw [gI_nei (by decide), gI_nei (by decide)]
  · rfl
theorem txX_fail {σ : jS} {n : Nat} {w : Nat → Nat} (t : txX σ n w) (m v : Int32) : txX (failS σ m v) n w := by
  unfold failS
  split
  · exact txX_fr ((gI_nei (by decide)).trans (gI_nei (by decide))) (fun i => (gI_ne (by decide)).trans (gI_ne (by decide))) t
  · exact t
/-- after a number: place, fault -/
theorem numS_facts {σ : jS} {n : Nat} {w : Nat → Nat} (t : txX σ n w) (q d v b : Nat) (T : Nat) : pFr T σ (numS σ q d v b) ∧ txX (numS σ q d v b) n w ∧ gI (numS σ q d v b) 2 4 = nI d ∧ (nf q d v b = 0 → numS σ q d v b = sI σ 2 4 (nI d)) ∧ (nf q d v b ≠ 0 → gI σ 2 3 = 0 → gI (numS σ q d v b) 2 3 = nI (nf q d v b) ∧ gI (numS σ q d v b) 2 2 = nI q) ∧ (gI σ 2 3 ≠ 0 → numS σ q d v b = sI σ 2 4 (nI d)) := by
  have c3 : gI (sI σ 2 4 (nI d)) 2 3 = gI σ 2 3 := gI_nei (by decide)
  unfold numS nf
  by_cases z : d = q
  · rw [if_pos z, if_pos z]
    refine ⟨pFr_tr (pFr_2 _ _ (by decide)) (pFr_fail _ _ _), txX_fail (txX_4 t _) _ _, by rw [fail_4, gI_sI], fun e => absurd e (by decide), fun _ h => fail_yes (by rw [c3]; exact h) _ _, fun h => fail_no (by rw [c3]; exact h) _ _⟩
  · rw [if_neg z, if_neg z]
    by_cases y : 2 < d - q ∨ b ≤ v
    · rw [if_pos y, if_pos y]
      refine ⟨pFr_tr (pFr_2 _ _ (by decide)) (pFr_fail _ _ _), txX_fail (txX_4 t _) _ _, by rw [fail_4, gI_sI], fun e => absurd e (by decide), fun _ h => fail_yes (by rw [c3]; exact h) _ _, fun h => fail_no (by rw [c3]; exact h) _ _⟩
    · rw [if_neg y, if_neg y]
      exact ⟨pFr_2 _ _ (by decide), txX_4 t _, gI_sI _ _ _ _, fun _ => rfl, fun e => absurd rfl e, fun _ => rfl⟩
theorem closS_facts {σ : jS} {n : Nat} {w : Nat → Nat} (q : Nat) (T : Nat) : pFr T σ (closS σ w n q) ∧ (gI σ 2 3 ≠ 0 → gI (closS σ w n q) 2 3 = gI σ 2 3 ∧ gI (closS σ w n q) 2 2 = gI σ 2 2) ∧ (gI σ 2 3 = 0 → ¬ (q < n ∧ w q = 59) → gI (closS σ w n q) 2 3 = 1 ∧ gI (closS σ w n q) 2 2 = nI q) ∧ (q < n ∧ w q = 59 → closS σ w n q = sI σ 2 4 (nI (q + 1))) := by
  have c3 : gI (sI σ 2 4 (nI q)) 2 3 = gI σ 2 3 := gI_nei (by decide)
  unfold closS
  by_cases z : q < n ∧ w q = 59
  · rw [if_pos z]
    exact ⟨pFr_2 _ _ (by decide), fun _ => ⟨gI_nei (by decide), gI_nei (by decide)⟩, fun _ h => absurd z h, fun _ => rfl⟩
  · rw [if_neg z]
    refine ⟨pFr_tr (pFr_2 _ _ (by decide)) (pFr_fail _ _ _), fun h => ?_, fun h _ => fail_yes (by rw [c3]; exact h) _ _, fun h => absurd h z⟩
    rw [fail_no (by rw [c3]; exact h)]
    exact ⟨gI_nei (by decide), gI_nei (by decide)⟩
theorem putT {σ : jS} {T j n i : Nat} {v : Int32} (hT : T = 51 ∨ T = 61) (hj : (j = 0 ∧ n = 16) ∨ (j = 1 ∧ n = 40) ∨ (j = 2 ∧ n = 40) ∨ (j = 3 ∧ n = 4) ∨ (j = 4 ∧ n = 4)) (hi : i < n) : f_X6_put σ (rPX T j) (nI i) v = some ((), sI σ (T + j + 1) i v) := by
  rcases hT with rfl | rfl <;> rcases hj with ⟨rfl, rfl⟩ | ⟨rfl, rfl⟩ | ⟨rfl, rfl⟩ | ⟨rfl, rfl⟩ | ⟨rfl, rfl⟩
  · exact x_put (h := 52) (by decide) rfl hi (by decide)
  · exact x_put (h := 53) (by decide) rfl hi (by decide)
  · exact x_put (h := 54) (by decide) rfl hi (by decide)
  · exact x_put (h := 55) (by decide) rfl hi (by decide)
  · exact x_put (h := 56) (by decide) rfl hi (by decide)
  · exact x_put (h := 62) (by decide) rfl hi (by decide)
  · exact x_put (h := 63) (by decide) rfl hi (by decide)
  · exact x_put (h := 64) (by decide) rfl hi (by decide)
  · exact x_put (h := 65) (by decide) rfl hi (by decide)
  · exact x_put (h := 66) (by decide) rfl hi (by decide)
theorem T_gr {T : Nat} (hT : T = 51 ∨ T = 61) : rPX T 5 = T + 6 ∧ grH (T + 6) := by
  rcases hT with rfl | rfl
  · exact ⟨rfl, Or.inr (Or.inl rfl)⟩
  · exact ⟨rfl, Or.inr (Or.inr rfl)⟩
/-- only fields of the reader changed: the town read so far stays -/
theorem pX_2 {σ σ' : jS} {n : Nat} {w : Nat → Nat} {B : Tb} {T : Nat} (f : fr [2] σ σ') (h1 : gI σ' 2 1 = gI σ 2 1) (h2 : gI σ' 2 2 = gI σ 2 2) (h3 : gI σ' 2 3 = gI σ 2 3) (p : pX σ n w B T) : pX σ' n w B T := by
  obtain ⟨t, hT, e3, e2, xt, xg⟩ := p
  refine ⟨txX_fr h1 (fun i => fr_I f (by decide) i) t, hT, h3.trans e3, h2.trans e2, ?_, ?_⟩
  · exact (xTb_fr (T := T) f (by decide) ⟨hT, xt⟩).2
  · exact xGr_keep (fun a ha i => fr_I f (by have := hT; simp at ha; simp; omega) i) xg
theorem pX_4 {σ : jS} {n : Nat} {w : Nat → Nat} {B : Tb} {T : Nat} (v : Int32) (p : pX σ n w B T) : pX (sI σ 2 4 v) n w B T := pX_2 (fr_sI _ _ _ (by decide)) (gI_nei (by decide)) (gI_nei (by decide)) (gI_nei (by decide)) p
theorem wA_g {B : Tb} (g : gB B) : wA (tset B 1 14 0) := by
  obtain ⟨a, b, _, _, _, c, d, _, _⟩ := g
  refine ⟨a, b, by show tset B 1 14 0 1 14 ≤ 1; rw [tset_at]; decide, fun t ht => ?_, fun t u ht hu => ?_⟩
  · exact c t ht
  · exact d t u ht hu
theorem x_full {σ : jS} {n : Nat} {w : Nat → Nat} {B : Tb} {T k : Nat} (p : pX σ n w B T) (g : gB B) (hk : k < 4) : f_X8_isFullFor σ T (nI k) = some (if full B k = true then 1 else 0) := by
  obtain ⟨t, hT, e3, e2, xt, xg⟩ := p
  obtain ⟨g1, g2, _, g4, _⟩ := g
  unfold f_X8_isFullFor f_X8_isFullFor_J13 f_X8_isFullFor_J27 f_X8_isFullFor_J40 f_X8_isFullFor_J44 f_X8_isFullFor_J45 full
  have : k = 0 ∨ k = 1 ∨ k = 2 ∨ k = 3 := by omega
  rcases this with rfl | rfl | rfl | rfl
  · rw [if_pos (show nI 0 = 0 from rfl), bH_t (T_in hT), xt.1]
    by_cases z : 16 ≤ tP B
    · rw [if_pos (show (16 : Int32) ≤ nI _ from nI_le (a := 16) z (by omega)), if_pos (by simp [z])]; rfl
    · rw [if_neg (show ¬ (16 : Int32) ≤ nI _ from nI_ge (b := 16) (by omega) (by decide)), if_neg (show ¬ nI 0 = 1 by decide), if_neg (show ¬ nI 0 = 3 by decide), if_neg (by simp; omega)]; rfl
  · rw [if_neg (show ¬ nI 1 = 0 by decide), if_pos (show nI 1 = 1 from rfl), bH_t (T_in hT), xt.2.1]
    by_cases z : 40 ≤ tT B
    · rw [if_pos (show (40 : Int32) ≤ nI _ from nI_le (a := 40) z (by omega)), if_pos (by simp [z])]; rfl
    · rw [if_neg (show ¬ (40 : Int32) ≤ nI _ from nI_ge (b := 40) (by omega) (by decide)), if_neg (show ¬ nI 1 = 3 by decide), if_neg (by simp; omega)]; rfl
  · rw [if_neg (show ¬ nI 2 = 0 by decide), if_neg (show ¬ nI 2 = 1 by decide), if_neg (show ¬ nI 2 = 3 by decide)]; rfl
  · rw [if_neg (show ¬ nI 3 = 0 by decide), if_neg (show ¬ nI 3 = 1 by decide), if_pos (show nI 3 = 3 from rfl), bH_t (T_in hT), xt.2.2.1]
    by_cases z : 4 ≤ tQ B
    · rw [if_neg (show ¬ nI _ < (4 : Int32) from fun e => by have := (nI_ltI (b := 4) (by omega) (by decide)).mp e; omega), if_pos (by simp [z])]; rfl
    · rw [if_pos (show nI _ < (4 : Int32) from nI_lt (b := 4) (by omega) (by decide)), if_neg (by simp; omega)]; rfl
theorem xTb_tset {σ : jS} {B : Tb} {T : Nat} (h : xTb σ B T) : xTb σ (tset B 1 14 0) T := h
theorem x_isTold {σ : jS} {n : Nat} {w : Nat → Nat} {B : Tb} {T k a b : Nat} (p : pX σ n w B T) (g : gB B) (hk : k < 4) (ha : a < 16) (hb : b < 16) : f_X8_isToldAlready σ T (nI k) (nI a) (nI b) = some (if ((k == 1 && owes B b a) || (k == 2 && bears B a b)) = true then 1 else 0) := by
  obtain ⟨t, hT, e3, e2, xt, xg⟩ := p
  unfold f_X8_isToldAlready f_X8_isToldAlready_J36 f_X8_isToldAlready_J37
  by_cases z2 : k = 2
  · subst z2
    rw [if_pos (show nI 2 = 2 from rfl), bH_t (T_in hT), (T_gr hT).1, x_has (T_gr hT).2 xg ha hb, bC_e]
    cases bears B a b <;> rfl
  · rw [if_neg (show ¬ nI k = 2 from fun e => z2 ((nI_eq (b := 2) (by omega) (by decide)).mp e))]
    by_cases z1 : k = 1
    · subst z1
      rw [if_pos (show nI 1 = 1 from rfl), bH_t (T_in hT), x_debtorsOf (wA_g g) (xTb_tset ⟨hT, xt⟩) hb, bC_e, nI_bit (bm16 _) (by omega), bm_bit, decide_eq_true ha]
      show (if (if (true && owes B b a) = true then (1 : Int32) else 0) = 0 then _ else _) = _
      cases owes B b a <;> rfl
    · rw [if_neg (show ¬ nI k = 1 from fun e => z1 ((nI_eq (b := 1) (by omega) (by decide)).mp e)), beq_eq_false_iff_ne.mpr z1, beq_eq_false_iff_ne.mpr z2]
      rfl
