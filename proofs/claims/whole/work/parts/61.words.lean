/-! the four words -/
def cws : List (List Nat) := [[112, 101, 114, 115, 111, 110], [111, 119, 101, 115], [103, 114, 117, 100, 103, 101], [113, 117, 97, 114, 114, 101, 108]]
def cw (k i : Nat) : Nat := (cws.getD k []).getD i 0
def cl (k : Nat) : Nat := (cws.getD k []).length
def wEq (w : Nat → Nat) (q e k : Nat) : Bool := decide (e - q = cl k) && (List.range (cl k)).all fun i => w (q + i) == cw k i
theorem wEq_iff {w : Nat → Nat} {q e k : Nat} : wEq w q e k = true ↔ e - q = cl k ∧ ∀ i, i < cl k → w (q + i) = cw k i := by
  unfold wEq
  rw [Bool.and_eq_true, decide_eq_true_eq, List.all_eq_true]
  constructor
  · rintro ⟨a, b⟩
    exact ⟨a, fun i hi => beq_iff_eq.mp (b i (List.mem_range.mpr hi))⟩
  · rintro ⟨a, b⟩
    exact ⟨a, fun i hi => beq_iff_eq.mpr (b i (List.mem_range.mp hi))⟩
/-- which word stands there -/
def kd (w : Nat → Nat) (q e : Nat) : Nat := if wEq w q e 0 = true then 0 else if wEq w q e 1 = true then 1 else if wEq w q e 2 = true then 2 else if wEq w q e 3 = true then 3 else 4
theorem kd_le (w : Nat → Nat) (q e : Nat) : kd w q e ≤ 4 := by
  unfold kd
  repeat' split
  all_goals omega
def kI (k : Nat) : Int32 := if k < 4 then nI k else -1
theorem js_tab : ∀ k, k < 4 → jsn (1000000 + k) = cl k ∧ ∀ i, i < 8 → i < cl k → jsc (1000000 + k) i = nI (cw k i) := by decide +kernel
theorem cl_lt : ∀ k, k < 4 → 0 < cl k ∧ cl k < 8 ∧ ∀ i, i < 8 → i < cl k → 97 ≤ cw k i ∧ cw k i ≤ 122 := by decide +kernel
theorem x_spelling : ∀ k, k < 4 → f_X5_spelling (nI k) = some (1000000 + k) := by decide +kernel
theorem js_in {k : Nat} (hk : k < 4) : 1000000 + k ∈ [1000000, 1000001, 1000002, 1000003] := by simp; omega
theorem x_isSpelled {σ : jS} {n q e k : Nat} {w : Nat → Nat} (t : txX σ n w) (hk : k < 4) (hq : q ≤ e) (he : e ≤ n) : f_X5_isSpelled σ (1000000 + k) (nI q) (nI e) = some (if wEq w q e k = true then 1 else 0) := by
  have hn := t.1
  have hw := txX_w t
  obtain ⟨j1, j2⟩ := js_tab k hk
  obtain ⟨c0, c8, c1⟩ := cl_lt k hk
  unfold f_X5_isSpelled
  rw [bH_t (js_in hk), show jsl (1000000 + k) = nI (cl k) from congrArg nI j1, nI_sub hq]
  by_cases z : e - q = cl k
  · rw [if_pos (congrArg nI z.symm)]
    have key := jloop_ex (S := Int32) (O := Int32) (f := fun s => f_X5_isSpelled_B15 σ (1000000 + k) (nI q) s) (fun i s => s = nI i ∧ ∀ j, j < i → w (q + j) = cw k j) (cl k) (fun o => o = if wEq w q e k = true then 1 else 0) (s0 := 0) ⟨rfl, fun j hj => absurd hj (Nat.not_lt_zero j)⟩ (jfuel_big (by omega)) ?_ ?_
    · obtain ⟨o, e1, e2⟩ := key
      rw [e1, e2]
    · rintro s ⟨rfl, h⟩
      refine ⟨1, ?_, ?_⟩
      · show f_X5_isSpelled_B15 σ (1000000 + k) (nI q) (nI (cl k)) = _
        unfold f_X5_isSpelled_B15 f_X5_isSpelled_J49
        rw [bH_t (js_in hk), show jsl (1000000 + k) = nI (cl k) from congrArg nI j1, if_pos (Int32.le_refl _), jw_e]
      · rw [if_pos (wEq_iff.mpr ⟨z, h⟩)]
    · rintro i s hi ⟨rfl, h⟩
      show (∃ s', f_X5_isSpelled_B15 σ (1000000 + k) (nI q) (nI i) = _ ∧ _) ∨ (∃ o, f_X5_isSpelled_B15 σ (1000000 + k) (nI q) (nI i) = _ ∧ _)
      have hc := c1 i (by omega) hi
      have e1 : sgn w n (q + i) = nI (w (q + i)) := by unfold sgn; rw [if_pos (by omega)]
      unfold f_X5_isSpelled_B15 f_X5_isSpelled_J41
      rw [bH_t (js_in hk), show jsl (1000000 + k) = nI (cl k) from congrArg nI j1, if_neg (nI_ge hi (by omega)), nI_add, x_sign t (by omega), bC_e, j1, bG_t (jin_nI hi (by omega)), ix_nI (by omega), j2 i (by omega) hi, e1]
      have := hw (q + i) (by omega)
      by_cases y : w (q + i) = cw k i
      · rw [if_pos (congrArg nI y), bV_e, nI_1]
        refine Or.inl ⟨_, rfl, rfl, fun j hj => ?_⟩
        by_cases x : j = i
        · subst x; exact y
        · exact h j (by omega)
      · rw [if_neg (fun u => y ((nI_eq (by omega) (by omega)).mp u)), jw_e]
        refine Or.inr ⟨_, rfl, ?_⟩
        rw [if_neg (fun u => y ((wEq_iff.mp u).2 i hi))]
  · rw [if_neg (fun u => z ((nI_eq (by omega) (by omega)).mp u).symm), if_neg (fun u => z (wEq_iff.mp u).1)]
theorem kd_lt {w : Nat → Nat} {q e k : Nat} (hk : k < 4) (h : wEq w q e k = true) (hb : ∀ j, j < k → wEq w q e j = false) : kd w q e = k := by
  have : k = 0 ∨ k = 1 ∨ k = 2 ∨ k = 3 := by omega
  unfold kd
  rcases this with rfl | rfl | rfl | rfl
  · rw [if_pos h]
  · rw [hb 0 (by decide), if_neg (by decide), if_pos h]
  · rw [hb 0 (by decide), hb 1 (by decide), if_neg (by decide), if_neg (by decide), if_pos h]
  · rw [hb 0 (by decide), hb 1 (by decide), hb 2 (by decide), if_neg (by decide), if_neg (by decide), if_neg (by decide), if_pos h]
theorem kd_no {w : Nat → Nat} {q e : Nat} (hb : ∀ j, j < 4 → wEq w q e j = false) : kd w q e = 4 := by
  unfold kd
  rw [hb 0 (by decide), hb 1 (by decide), hb 2 (by decide), hb 3 (by decide)]
  rfl
theorem x_readWord {σ : jS} {n q : Nat} {w : Nat → Nat} (t : txX σ n w) (hq : q ≤ n) (h4 : gI σ 2 4 = nI q) : f_X5_readWord σ = some (kI (kd w q (ex (lt w) n q)), if kd w q (ex (lt w) n q) < 4 then sI σ 2 4 (nI (ex (lt w) n q)) else σ) := by
  have hn := t.1
  have hw := txX_w t
  have e1 := ex_ge (lt w) n q
  have e2 := ex_le (lt w) hq
  -- the four words
  have J34 : f_X5_readWord_J34 σ (nI (ex (lt w) n q)) = some (kI (kd w q (ex (lt w) n q)), if kd w q (ex (lt w) n q) < 4 then sI σ 2 4 (nI (ex (lt w) n q)) else σ) := by
    unfold f_X5_readWord_J34
    have key := jloop_ex (S := Int32 × jS) (O := Int32 × jS) (f := fun s => f_X5_readWord_B36 s.2 (nI (ex (lt w) n q)) s.1) (fun i s => s = (nI i, σ) ∧ ∀ j, j < i → wEq w q (ex (lt w) n q) j = false) 4 (fun o => o = (kI (kd w q (ex (lt w) n q)), if kd w q (ex (lt w) n q) < 4 then sI σ 2 4 (nI (ex (lt w) n q)) else σ)) (s0 := (0, σ)) ⟨rfl, fun j hj => absurd hj (Nat.not_lt_zero j)⟩ (jfuel_big (by omega)) ?_ ?_
    · obtain ⟨o, a1, a2⟩ := key
      rw [a1, a2]
    · rintro s ⟨rfl, h⟩
      refine ⟨(-1, σ), ?_, ?_⟩
      · show f_X5_readWord_B36 σ _ (nI 4) = _
        unfold f_X5_readWord_B36 f_X5_readWord_J70
        rw [if_pos (show (4 : Int32) ≤ nI 4 from Int32.le_refl _), jw_e]
      · rw [kd_no h]; rfl
    · rintro i s hi ⟨rfl, h⟩
      show (∃ s', f_X5_readWord_B36 σ (nI (ex (lt w) n q)) (nI i) = _ ∧ _) ∨ (∃ o, f_X5_readWord_B36 σ (nI (ex (lt w) n q)) (nI i) = _ ∧ _)
      unfold f_X5_readWord_B36 f_X5_readWord_J57
      rw [if_neg (show ¬ (4 : Int32) ≤ nI i from nI_ge (b := 4) hi (by decide)), x_spelling i hi, bC_e, h4, x_isSpelled t hi e1 e2, bC_e, bV_e, bV_e, jw_e, nI_1]
      cases hv : wEq w q (ex (lt w) n q) i with
      | true =>
        rw [if_neg (show ¬ (if true = true then (1 : Int32) else 0) = 0 by decide)]
        refine Or.inr ⟨_, rfl, ?_⟩
        rw [kd_lt hi hv h, if_pos hi]
        unfold kI
        rw [if_pos hi]
      | false =>
        rw [if_pos (show (if false = true then (1 : Int32) else 0) = 0 by decide)]
        refine Or.inl ⟨_, rfl, rfl, fun j hj => ?_⟩
        by_cases x : j = i
        · subst x; exact hv
        · exact h j (by omega)
  unfold f_X5_readWord
  rw [h4, bV_e]
  refine jloop_scan (P := lt w) (fun i => (nI (q + i), nI i, σ)) hq hn rfl ?_ ?_
  · show f_X5_readWord_B7 σ (nI (q + (ex (lt w) n q - q))) (nI (ex (lt w) n q - q)) = _
    rw [show q + (ex (lt w) n q - q) = ex (lt w) n q by omega]
    unfold f_X5_readWord_B7
    rw [J34, jw_e]
    by_cases z : 500 ≤ ex (lt w) n q - q
    · rw [if_pos (show (500 : Int32) ≤ nI _ from nI_le (a := 500) z (by omega))]
    · rw [if_neg (show ¬ (500 : Int32) ≤ nI _ from nI_ge (b := 500) (by omega) (by decide)), x_sign t (by omega), bC_e, x_isLetter hw, bC_e, if_pos]
      rw [if_neg (ex_out' hq)]
  · intro i hi h1 h2
    show f_X5_readWord_B7 σ (nI (q + i)) (nI i) = _
    unfold f_X5_readWord_B7
    rw [if_neg (show ¬ (500 : Int32) ≤ nI i from nI_ge (b := 500) (by omega) (by decide)), x_sign t (by omega), bC_e, x_isLetter hw, bC_e, if_neg (show ¬ (if q + i < n ∧ lt w (q + i) = true then (1 : Int32) else 0) = 0 by rw [if_pos ⟨h1, h2⟩]; decide), bV_e, bV_e, nI_1, nI_1]
    rfl
/-! the reference's word as a number -/
def vl (w : Nat → Nat) (q : Nat) : Nat → Nat
  | 0 => 0
  | i + 1 => if 10000000000000 < vl w q i then 20000000000000 else 27 * vl w q i + w (q + i) - 96
def cd (c : Nat → Nat) : Nat → Nat
  | 0 => 0
  | i + 1 => 27 * cd c i + c i - 96
theorem vl_lt {w : Nat → Nat} {n q : Nat} (hq : q ≤ n) : ∀ i, i ≤ ex (lt w) n q - q → vl w q i < 300000000000000
  | 0, _ => by rw [vl]; decide
  | i + 1, h => by
    have b := isB_iff.mp (ex_in (P := lt w) hq (show q ≤ q + i by omega) (by omega)).2
    rw [vl]
    split <;> omega
theorem vl_word {w c : Nat → Nat} {n q : Nat} (hq : q ≤ n) : ∀ m k, (∀ i, i < m → 97 ≤ c i ∧ c i ≤ 122) → cd c m ≤ 10000000000000 → k ≤ ex (lt w) n q - q → (vl w q k = cd c m ↔ k = m ∧ ∀ i, i < m → w (q + i) = c i)
  | 0, 0, _, _, _ => ⟨fun _ => ⟨rfl, fun i hi => absurd hi (Nat.not_lt_zero i)⟩, fun _ => rfl⟩
  | 0, k + 1, _, _, h => by
    have b := isB_iff.mp (ex_in (P := lt w) hq (show q ≤ q + k by omega) (by omega)).2
    rw [vl, cd]
    constructor
    · intro e; split at e <;> omega
    · rintro ⟨e, _⟩; omega
  | m + 1, 0, h1, _, _ => by
    have := h1 m (by omega)
    rw [vl, cd]
    constructor
    · intro e; omega
    · rintro ⟨e, _⟩; omega
  | m + 1, k + 1, h1, h2, h => by
    have b := isB_iff.mp (ex_in (P := lt w) hq (show q ≤ q + k by omega) (by omega)).2
    have hm := h1 m (by omega)
    rw [cd] at h2
    have ih := vl_word (w := w) (c := c) hq m k (fun i hi => h1 i (by omega)) (by omega) (by omega)
    rw [vl, cd]
    constructor
    · intro e
      split at e
      · omega
      · have e1 : vl w q k = cd c m := by omega
        have e2 : w (q + k) = c m := by omega
        obtain ⟨u, v⟩ := ih.mp e1
        refine ⟨by omega, fun i hi => ?_⟩
        by_cases x : i = m
        · subst x; rw [← u]; rw [u] at e2; rw [u]; exact e2
        · exact v i (by omega)
    · rintro ⟨u, v⟩
      have e1 := ih.mpr ⟨by omega, fun i hi => v i (by omega)⟩
      have e2 := v m (by omega)
      have : k = m := by omega
      subst this
      rw [if_neg (by omega), e1, e2]
theorem m_readWord {τ : jS} {n p : Nat} {w : Nat → Nat} (t : txM τ n w) (hp : p ≤ n) (h : gI τ 1 18 = nI p) : f_X11_readWord τ = some ((), sI (sL (sI τ 1 18 (nI (ex (bl w) n p))) 1 19 (lN (vl w (ex (bl w) n p) (ex (lt w) n (ex (bl w) n p) - ex (bl w) n p)))) 1 20 (nI (ex (lt w) n (ex (bl w) n p)))) := by
  have hn := t.1
  have hw := txM_w t
  have e2 := ex_le (bl w) hp
  unfold f_X11_readWord
  rw [m_here t hp h, bD_e]
  generalize ex (bl w) n p = q at *
  have e3 := ex_ge (lt w) n q
  have e4 := ex_le (lt w) e2
  have T : ∀ a c l, txM (sI (sL (sI τ 1 18 a) 1 19 l) 1 20 c) n w := fun a c l => txM_fr (by rw [gI_nei (by decide), gI_sL, gI_nei (by decide)]) (fun i => by rw [gI_ne (by decide), gI_sL, gI_ne (by decide)]) t
  rw [bV_e, gI_sL, gI_sI, bV_e]
  refine jloop_scan (P := lt w) (fun i => sI (sL (sI τ 1 18 (nI q)) 1 19 (lN (vl w q i))) 1 20 (nI (q + i))) e2 hn rfl ?_ ?_
  · show f_X11_readWord_B18 (sI (sL (sI τ 1 18 (nI q)) 1 19 (lN (vl w q (ex (lt w) n q - q)))) 1 20 (nI (q + (ex (lt w) n q - q)))) = _
    rw [show q + (ex (lt w) n q - q) = ex (lt w) n q by omega]
    have TT := T (nI q) (nI (ex (lt w) n q)) (lN (vl w q (ex (lt w) n q - q)))
    unfold f_X11_readWord_B18 f_X11_readWord_J108
    rw [jw_e, TT.2.1, gI_sI]
    by_cases y : ex (lt w) n q < n
    · rw [if_neg (nI_ge y (by omega)), bG_t (jin_nI (by omega) (by omega)), ix_nI (by omega), (TT.2.2 _ y).2, in_lt (hw _ y), bC_e, if_pos]
      rw [if_neg (show ¬ isB 97 122 (w (ex (lt w) n q)) = true from fun e => ex_out' (P := lt w) e2 ⟨y, e⟩)]
    · rw [if_pos (nI_le (by omega) (by omega))]
  · intro i hi h1 h2
    have TT := T (nI q) (nI (q + i)) (lN (vl w q i))
    have hc := isB_iff.mp h2
    have vli := vl_lt (w := w) e2 i (by omega)
    have hwi := hw _ h1
    show f_X11_readWord_B18 (sI (sL (sI τ 1 18 (nI q)) 1 19 (lN (vl w q i))) 1 20 (nI (q + i))) = some (Sum.inl (sI (sL (sI τ 1 18 (nI q)) 1 19 (lN (vl w q (i + 1)))) 1 20 (nI (q + (i + 1)))))
    unfold f_X11_readWord_B18 f_X11_readWord_J92
    have step : ∀ l : Int64, (bV (sL (sI (sL (sI τ 1 18 (nI q)) 1 19 (lN (vl w q i))) 1 20 (nI (q + i))) 1 19 l) fun σ6 => bV (sI σ6 1 20 ((gI σ6 1 20) + (1 : Int32))) fun σ7 => (some (Sum.inl σ7) : Option (jS ⊕ (Unit × jS)))) = some (Sum.inl (sI (sL (sI τ 1 18 (nI q)) 1 19 l) 1 20 (nI (q + (i + 1))))) := fun l => by
      rw [bV_e, bV_e, gI_sL, gI_sI, nI_1]
      show some (Sum.inl (sI (sI (sL (sL (sI τ 1 18 (nI q)) 1 19 (lN (vl w q i))) 1 19 l) 1 20 (nI (q + i))) 1 20 (nI (q + i + 1)))) = _
      rw [sI_sI, sL_sL]
      rfl
    rw [TT.2.1, gI_sI, if_neg (nI_ge h1 (by omega)), bG_t (jin_nI (by omega) (by omega)), ix_nI (by omega), (TT.2.2 _ h1).2, in_lt (hw _ h1), bC_e, if_neg (show ¬ (if isB 97 122 (w (q + i)) = true then (1 : Int32) else 0) = 0 by rw [if_pos (show isB 97 122 (w (q + i)) = true from h2)]; decide), step, step, bG_t (jin_nI (by omega) (by omega)), gL_sI, gL_sL]
    rw [vl]
    have cmp : (0 < lg_cmp (lN (vl w q i)) 10000000000000) ↔ 10000000000000 < vl w q i := by
      rw [lg_cmp_gt, show (10000000000000 : Int64) = lN 10000000000000 from rfl, pk_lLT (by decide) (by omega)]
    by_cases y : 10000000000000 < vl w q i
    · rw [if_neg (Int32.not_le.mpr (cmp.mpr y)), if_pos y]
      rfl
    · rw [if_pos (Int32.not_lt.mp (fun e => y (cmp.mp e))), if_neg y, nI_l (by omega), show (27 : Int64) = lN 27 from rfl, show (96 : Int64) = lN 96 from rfl, lN_mul, lN_add, lN_sub (by omega)]
/-- which word the reference finds -/
theorem m_words {w : Nat → Nat} {n q : Nat} (hq : q ≤ n) (k : Nat) (hk : k < 4) {r : Int64} (hr : r = lN (cd (cw k) (cl k))) : lg_cmp (lN (vl w q (ex (lt w) n q - q))) r = 0 ↔ wEq w q (ex (lt w) n q) k = true := by
  have small : ∀ k, k < 4 → cd (cw k) (cl k) ≤ 10000000000000 := by decide +kernel
  have s := small k hk
  have v := vl_lt (w := w) hq (ex (lt w) n q - q) (Nat.le_refl _)
  obtain ⟨_, c8, c1⟩ := cl_lt k hk
  rw [lg_cmp_eq, hr, pk_lEQ (by omega) (by omega), vl_word hq _ _ (fun i hi => c1 i (by omega) hi) s (Nat.le_refl _), wEq_iff]
theorem m_kind {τ : jS} {n p : Nat} {w : Nat → Nat} (t : txM τ n w) (hp : p ≤ n) (h : gI τ 1 18 = nI p) : f_X11_takeClause τ = f_X11_takeClause_J132 (sI (sL (sI τ 1 18 (nI (ex (bl w) n p))) 1 19 (lN (vl w (ex (bl w) n p) (ex (lt w) n (ex (bl w) n p) - ex (bl w) n p)))) 1 20 (nI (ex (lt w) n (ex (bl w) n p)))) (kI (kd w (ex (bl w) n p) (ex (lt w) n (ex (bl w) n p)))) := by
  have e2 := ex_le (bl w) hp
  unfold f_X11_takeClause
  rw [m_readWord t hp h, bD_e]
  generalize ex (bl w) n p = q at *
  rw [show f_X11_code4 112 101 114 115 = some (lN (cd (cw 0) 4)) from by decide +kernel, bC_e, show f_X11_longer (lN (cd (cw 0) 4)) 111 = some (lN (cd (cw 0) 5)) from by decide +kernel, bC_e, show f_X11_longer (lN (cd (cw 0) 5)) 110 = some (lN (cd (cw 0) 6)) from by decide +kernel, bC_e, gL_sI, gL_sL]
  rw [show f_X11_code4 111 119 101 115 = some (lN (cd (cw 1) 4)) from by decide +kernel, bC_e, show f_X11_code4 103 114 117 100 = some (lN (cd (cw 2) 4)) from by decide +kernel, bC_e, show f_X11_longer (lN (cd (cw 2) 4)) 103 = some (lN (cd (cw 2) 5)) from by decide +kernel, bC_e, show f_X11_longer (lN (cd (cw 2) 5)) 101 = some (lN (cd (cw 2) 6)) from by decide +kernel, bC_e]
  rw [show f_X11_code4 113 117 97 114 = some (lN (cd (cw 3) 4)) from by decide +kernel, bC_e, show f_X11_longer (lN (cd (cw 3) 4)) 114 = some (lN (cd (cw 3) 5)) from by decide +kernel, bC_e, show f_X11_longer (lN (cd (cw 3) 5)) 101 = some (lN (cd (cw 3) 6)) from by decide +kernel, bC_e, show f_X11_longer (lN (cd (cw 3) 6)) 108 = some (lN (cd (cw 3) 7)) from by decide +kernel, bC_e]
  have m0 := m_words (w := w) e2 0 (by decide) (r := lN (cd (cw 0) 6)) rfl
  have m1 := m_words (w := w) e2 1 (by decide) (r := lN (cd (cw 1) 4)) rfl
  have m2 := m_words (w := w) e2 2 (by decide) (r := lN (cd (cw 2) 6)) rfl
  have m3 := m_words (w := w) e2 3 (by decide) (r := lN (cd (cw 3) 7)) rfl
  unfold kd
  by_cases z0 : wEq w q (ex (lt w) n q) 0 = true
  · rw [if_pos (m0.mpr z0), if_pos z0]; rfl
  rw [if_neg (fun e => z0 (m0.mp e)), if_neg z0]
  by_cases z1 : wEq w q (ex (lt w) n q) 1 = true
  · rw [if_pos (m1.mpr z1), if_pos z1]; rfl
  rw [if_neg (fun e => z1 (m1.mp e)), if_neg z1]
  by_cases z2 : wEq w q (ex (lt w) n q) 2 = true
  · rw [if_pos (m2.mpr z2), if_pos z2]; rfl
  rw [if_neg (fun e => z2 (m2.mp e)), if_neg z2]
  by_cases z3 : wEq w q (ex (lt w) n q) 3 = true
  · rw [if_pos (m3.mpr z3), if_pos z3]; rfl
  rw [if_neg (fun e => z3 (m3.mp e)), if_neg z3]
  rfl
