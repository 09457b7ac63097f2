/-! the reference reads: blanks, numbers, words -/
def txM (τ : jS) (n : Nat) (w : Nat → Nat) : Prop := n ≤ 500 ∧ gI τ 1 16 = nI n ∧ ∀ i, i < n → w i < 256 ∧ gI τ 11 i = nI (w i)
/-- all but some fields of the reference stays -/
def mF (F : List Nat) (τ τ' : jS) : Prop := ∀ a i, ¬ (a = 1 ∧ i ∈ F) → gI τ' a i = gI τ a i
theorem mF_rfl (F : List Nat) (τ : jS) : mF F τ τ := fun _ _ _ => rfl
theorem mF_tr {F : List Nat} {a b c : jS} (h1 : mF F a b) (h2 : mF F b c) : mF F a c := fun x i q => (h2 x i q).trans (h1 x i q)
theorem mF_mono {F G : List Nat} {a b : jS} (h : mF F a b) (g : ∀ x, x ∈ F → x ∈ G) : mF G a b := fun x i q => h x i (fun z => q ⟨z.1, g i z.2⟩)
theorem mF_sI {F : List Nat} (τ : jS) {i : Nat} (v : Int32) (h : i ∈ F) : mF F τ (sI τ 1 i v) := fun a j q => gI_sIn (fun z => q ⟨z.1, by rw [z.2]; exact h⟩)
theorem mF_1 {F : List Nat} {τ τ' : jS} (h : mF F τ τ') {i : Nat} (hi : i ∉ F) : gI τ' 1 i = gI τ 1 i := h 1 i (fun q => hi q.2)
theorem mF_h {F : List Nat} {τ τ' : jS} (h : mF F τ τ') {a : Nat} (ha : a ≠ 1) (i : Nat) : gI τ' a i = gI τ a i := h a i (fun q => ha q.1)
theorem txM_fr {τ τ' : jS} {n : Nat} {w : Nat → Nat} (h1 : gI τ' 1 16 = gI τ 1 16) (h3 : ∀ i, gI τ' 11 i = gI τ 11 i) (t : txM τ n w) : txM τ' n w := ⟨t.1, h1.trans t.2.1, fun i hi => ⟨(t.2.2 i hi).1, (h3 i).trans (t.2.2 i hi).2⟩⟩
theorem txM_F {F : List Nat} {τ τ' : jS} {n : Nat} {w : Nat → Nat} (h : mF F τ τ') (hf : 16 ∉ F) (t : txM τ n w) : txM τ' n w := txM_fr (mF_1 h hf) (fun i => mF_h h (by decide) i) t
theorem txM_w {τ : jS} {n : Nat} {w : Nat → Nat} (t : txM τ n w) : ∀ i, i < n → w i < 256 := fun i hi => (t.2.2 i hi).1
theorem m_here {τ : jS} {n p : Nat} {w : Nat → Nat} (t : txM τ n w) (hp : p ≤ n) (h : gI τ 1 18 = nI p) : f_X11_here τ = some (sgn w n (ex (bl w) n p), sI τ 1 18 (nI (ex (bl w) n p))) := by
  have hn := t.1
  have hw := txM_w t
  have e1 := ex_ge (bl w) n p
  have e2 := ex_le (bl w) hp
  have T : ∀ v, txM (sI τ 1 18 v) n w := fun v => txM_fr (gI_nei (by decide)) (fun i => gI_ne (by decide)) t
  unfold f_X11_here
  refine jloop_scan (P := bl w) (fun i => sI τ 1 18 (nI (p + i))) hp hn (sI_self h) ?_ ?_
  · show f_X11_here_B0 (sI τ 1 18 (nI (p + (ex (bl w) n p - p)))) = _
    rw [show p + (ex (bl w) n p - p) = ex (bl w) n p by omega]
    have TT := T (nI (ex (bl w) n p))
    have J : f_X11_here_J38 (sI τ 1 18 (nI (ex (bl w) n p))) = some (sgn w n (ex (bl w) n p), sI τ 1 18 (nI (ex (bl w) n p))) := by
      unfold f_X11_here_J38 f_X11_here_J62 sgn
      rw [TT.2.1, gI_sI]
      by_cases z : ex (bl w) n p < n
      · rw [if_neg (nI_ge z (by omega)), bG_t (jin_nI (by omega) (by omega)), ix_nI (by omega), if_pos z, (TT.2.2 _ z).2]
      · rw [if_pos (nI_le (by omega) (by omega)), if_neg z]
    unfold f_X11_here_B0
    rw [J, jw_e, TT.2.1, gI_sI]
    by_cases z : ex (bl w) n p < n
    · rw [if_neg (nI_ge z (by omega)), bG_t (jin_nI (by omega) (by omega)), ix_nI (by omega), (TT.2.2 _ z).2, if_neg]
      intro e
      have := (nI_eq (b := 32) (by have := hw _ z; omega) (by decide)).mp e
      exact ex_out' (P := bl w) hp ⟨z, beq_iff_eq.mpr this⟩
    · rw [if_pos (nI_le (by omega) (by omega))]
  · intro i hi h1 h2
    have TT := T (nI (p + i))
    show f_X11_here_B0 (sI τ 1 18 (nI (p + i))) = _
    unfold f_X11_here_B0
    rw [TT.2.1, gI_sI, if_neg (nI_ge h1 (by omega)), bG_t (jin_nI (by omega) (by omega)), ix_nI (by omega), (TT.2.2 _ h1).2, if_pos (show nI _ = 32 from congrArg nI (beq_iff_eq.mp h2)), bV_e, sI_sI, nI_1]
    rfl
theorem in_c {c : Nat} (hc : c < 256) {lo hi : Nat} (hl : lo < 256) (hh : hi < 256) : f_X11_in (nI c).toInt64 (nI lo).toInt64 (nI hi).toInt64 = some (if isB lo hi c = true then 1 else 0) := by
  rw [in_wide]
  by_cases h1 : c < lo
  · rw [if_pos (nI_lt h1 (by omega)), if_neg (fun e => by have := isB_iff.mp e; omega)]
  · rw [if_neg (fun e => h1 ((nI_ltI (by omega) (by omega)).mp e))]
    by_cases h2 : hi < c
    · rw [if_pos (nI_lt h2 (by omega)), if_neg (fun e => by have := isB_iff.mp e; omega)]
    · rw [if_neg (fun e => h2 ((nI_ltI (by omega) (by omega)).mp e)), if_pos (isB_iff.mpr (by omega))]
theorem in_dg {c : Nat} (hc : c < 256) : f_X11_in (nI c).toInt64 48 57 = some (if isB 48 57 c = true then 1 else 0) := by
  rw [show (48 : Int64) = (nI 48).toInt64 from by decide, show (57 : Int64) = (nI 57).toInt64 from by decide]
  exact in_c hc (by decide) (by decide)
theorem in_lt {c : Nat} (hc : c < 256) : f_X11_in (nI c).toInt64 97 122 = some (if isB 97 122 c = true then 1 else 0) := by
  rw [show (97 : Int64) = (nI 97).toInt64 from by decide, show (122 : Int64) = (nI 122).toInt64 from by decide]
  exact in_c hc (by decide) (by decide)
theorem in_sgn {w : Nat → Nat} {n p : Nat} (hw : ∀ i, i < n → w i < 256) : f_X11_in (sgn w n p).toInt64 48 57 = some (if p < n ∧ dg w p = true then 1 else 0) := by
  unfold sgn
  by_cases h : p < n
  · rw [if_pos h, in_dg (hw p h)]
    unfold dg
    by_cases z : isB 48 57 (w p) = true
    · rw [if_pos z, if_pos ⟨h, z⟩]
    · rw [if_neg z, if_neg (fun e => z e.2)]
  · rw [if_neg h, if_neg (fun e => h e.1)]; decide
theorem ex_eq {P : Nat → Bool} {n p : Nat} (h : p ≤ n) : ex P n p = p ↔ ¬ (p < n ∧ P p = true) := by
  constructor
  · intro e ⟨a, b⟩
    have := ex_out (P := P) h (by omega)
    rw [e, b] at this; cases this
  · intro e
    rcases Nat.lt_or_ge p (ex P n p) with z | z
    · exact absurd (ex_in h (Nat.le_refl p) z) e
    · have := ex_ge P n p; omega
/-- the reference's number, which stays when it is large -/
def mv (w : Nat → Nat) (q : Nat) : Nat → Nat
  | 0 => 0
  | i + 1 => if mv w q i ≤ 1000 then 10 * mv w q i + w (q + i) - 48 else mv w q i
theorem mv_le {w : Nat → Nat} {n q : Nat} (hq : q ≤ n) : ∀ i, i ≤ ex (dg w) n q - q → mv w q i ≤ 10009
  | 0, _ => by rw [mv]; omega
  | i + 1, h => by
    have ih := mv_le (w := w) hq i (by omega)
    have b := isB_iff.mp (ex_in (P := dg w) hq (show q ≤ q + i by omega) (by omega)).2
    rw [mv]
    split <;> omega
theorem mv_nv {w : Nat → Nat} {n q : Nat} (hq : q ≤ n) : ∀ i, i ≤ ex (dg w) n q - q → i ≤ 2 → mv w q i = nv w q i
  | 0, _, _ => rfl
  | 1, h, _ => by
    rw [mv, mv, if_pos (by omega), show nv w q 1 = w q - 48 from rfl, Nat.mul_zero, Nat.zero_add, Nat.add_zero]
  | 2, h, _ => by
    have a := isB_iff.mp (ex_in (P := dg w) hq (Nat.le_refl q) (by omega)).2
    have b := isB_iff.mp (ex_in (P := dg w) hq (show q ≤ q + 1 by omega) (by omega)).2
    rw [mv, mv_nv hq 1 (by omega) (by omega), show nv w q 1 = w q - 48 from rfl, show nv w q 2 = 10 * (w q - 48) + (w (q + 1) - 48) from rfl, if_pos (by omega)]
    omega
  | i + 3, _, h => by omega
def nf (q d v b : Nat) : Nat := if d = q then 1 else if 2 < d - q ∨ b ≤ v then 2 else 0
theorem m_takeNumber {τ : jS} {n p b : Nat} {w : Nat → Nat} (t : txM τ n w) (hp : p ≤ n) (h : gI τ 1 18 = nI p) (hb : b ≤ 100) {mx : Int32} (hm : mx = nI b - 1) : ∃ τ', f_X11_takeNumber τ 0 mx = some (nI (nf (ex (bl w) n p) (ex (dg w) n (ex (bl w) n p)) (nv w (ex (bl w) n p) (ex (dg w) n (ex (bl w) n p) - ex (bl w) n p)) b), τ') ∧ mF [17, 18, 21, 22] τ τ' ∧ (nf (ex (bl w) n p) (ex (dg w) n (ex (bl w) n p)) (nv w (ex (bl w) n p) (ex (dg w) n (ex (bl w) n p) - ex (bl w) n p)) b ≠ 0 → gI τ' 1 17 = nI (ex (bl w) n p)) ∧ (nf (ex (bl w) n p) (ex (dg w) n (ex (bl w) n p)) (nv w (ex (bl w) n p) (ex (dg w) n (ex (bl w) n p) - ex (bl w) n p)) b = 0 → gI τ' 1 17 = gI τ 1 17 ∧ gI τ' 1 18 = nI (ex (dg w) n (ex (bl w) n p)) ∧ gI τ' 1 21 = nI (nv w (ex (bl w) n p) (ex (dg w) n (ex (bl w) n p) - ex (bl w) n p)) ∧ gI τ' 1 22 = nI (ex (bl w) n p)) := by
  have hn := t.1
  have hw := txM_w t
  have e2 := ex_le (bl w) hp
  have F18 : mF [17, 18, 21, 22] τ (sI τ 1 18 (nI (ex (bl w) n p))) := mF_sI _ _ (by decide)
  unfold f_X11_takeNumber
  rw [m_here t hp h, bD_e, in_sgn hw, bC_e]
  generalize ex (bl w) n p = q at *
  have e3 := ex_ge (dg w) n q
  have e4 := ex_le (dg w) e2
  by_cases z : q < n ∧ dg w q = true
  · rw [if_neg (show ¬ (if q < n ∧ dg w q = true then (1 : Int32) else 0) = 0 by rw [if_pos z]; decide), gI_sI, bV_e, bV_e]
    have nz : ex (dg w) n q ≠ q := fun e => (ex_eq e2).mp e z
    generalize eb : sI (sI τ 1 18 (nI q)) 1 22 (nI q) = τ2
    have b18 : gI τ2 1 18 = nI q := by rw [← eb, gI_nei (by decide), gI_sI]
    have b22 : gI τ2 1 22 = nI q := by rw [← eb, gI_sI]
    have F2 : mF [17, 18, 21, 22] τ τ2 := by rw [← eb]; exact mF_tr F18 (mF_sI _ _ (by decide))
    have T : ∀ a c, txM (sI (sI τ2 1 21 a) 1 18 c) n w := fun a c => txM_F (mF_tr F2 (mF_tr (mF_sI _ _ (by decide)) (mF_sI _ _ (by decide)))) (by decide) t
    have mvl := mv_le (w := w) e2 (ex (dg w) n q - q) (Nat.le_refl _)
    -- the end of the loop
    have last : ∃ τ', f_X11_takeNumber_J129 (sI (sI τ2 1 21 (nI (mv w q (ex (dg w) n q - q)))) 1 18 (nI (ex (dg w) n q))) 0 mx = some (nI (nf q (ex (dg w) n q) (nv w q (ex (dg w) n q - q)) b), τ') ∧ mF [17, 18, 21, 22] τ τ' ∧ (nf q (ex (dg w) n q) (nv w q (ex (dg w) n q - q)) b ≠ 0 → gI τ' 1 17 = nI q) ∧ (nf q (ex (dg w) n q) (nv w q (ex (dg w) n q - q)) b = 0 → gI τ' 1 17 = gI τ 1 17 ∧ gI τ' 1 18 = nI (ex (dg w) n q) ∧ gI τ' 1 21 = nI (nv w q (ex (dg w) n q - q)) ∧ gI τ' 1 22 = nI q) := by
      have F3 : mF [17, 18, 21, 22] τ (sI (sI τ2 1 21 (nI (mv w q (ex (dg w) n q - q)))) 1 18 (nI (ex (dg w) n q))) := mF_tr F2 (mF_tr (mF_sI _ _ (by decide)) (mF_sI _ _ (by decide)))
      have v22 : gI (sI (sI τ2 1 21 (nI (mv w q (ex (dg w) n q - q)))) 1 18 (nI (ex (dg w) n q))) 1 22 = nI q := by rw [gI_nei (by decide), gI_nei (by decide)]; exact b22
      have fail2 : nf q (ex (dg w) n q) (nv w q (ex (dg w) n q - q)) b = 2 → ∃ τ', f_X11_takeNumber_J157 (sI (sI τ2 1 21 (nI (mv w q (ex (dg w) n q - q)))) 1 18 (nI (ex (dg w) n q))) = some (nI (nf q (ex (dg w) n q) (nv w q (ex (dg w) n q - q)) b), τ') ∧ mF [17, 18, 21, 22] τ τ' ∧ (nf q (ex (dg w) n q) (nv w q (ex (dg w) n q - q)) b ≠ 0 → gI τ' 1 17 = nI q) ∧ (nf q (ex (dg w) n q) (nv w q (ex (dg w) n q - q)) b = 0 → gI τ' 1 17 = gI τ 1 17 ∧ gI τ' 1 18 = nI (ex (dg w) n q) ∧ gI τ' 1 21 = nI (nv w q (ex (dg w) n q - q)) ∧ gI τ' 1 22 = nI q) := by
        intro e
        rw [e]
        unfold f_X11_takeNumber_J157 f_X11_takeNumber_J170 f_X11_fails
        rw [v22, bV_e, bD_e]
        exact ⟨_, rfl, mF_tr F3 (mF_sI _ _ (by decide)), fun _ => gI_sI _ _ _ _, fun e => absurd e (by decide)⟩
      unfold f_X11_takeNumber_J129 f_X11_takeNumber_J170
      rw [v22, gI_sI, nI_sub e3]
      by_cases z2 : 2 < ex (dg w) n q - q
      · rw [if_pos (show (2 : Int32) < nI _ from nI_lt (a := 2) z2 (by omega))]
        exact fail2 (by unfold nf; rw [if_neg nz, if_pos (Or.inl z2)])
      · have em := mv_nv (w := w) e2 (ex (dg w) n q - q) (Nat.le_refl _) (by omega)
        have vl := nv_lt (w := w) e2 (Nat.le_refl (ex (dg w) n q - q))
        rw [if_neg (show ¬ (2 : Int32) < nI _ from fun e => z2 ((nI_ltI (a := 2) (by decide) (by omega)).mp e)), gI_nei (show (21 : Nat) ≠ 18 by decide), gI_sI, in_wide, if_neg (nI_pos (by omega)), bC_e]
        rw [em] at fail2 ⊢
        have cmp : mx < nI (nv w q (ex (dg w) n q - q)) ↔ b ≤ nv w q (ex (dg w) n q - q) := by
          rw [hm]
          rcases Nat.eq_zero_or_pos b with y | y
          · subst y
            refine ⟨fun _ => Nat.zero_le _, fun _ => ?_⟩
            exact Int32.lt_of_lt_of_le (show nI 0 - 1 < 0 by decide) (nI_pos' (by omega))
          · rw [show (1 : Int32) = nI 1 from rfl, nI_sub y, nI_ltI (by omega) (by omega)]
            omega
        by_cases z3 : b ≤ nv w q (ex (dg w) n q - q)
        · rw [if_pos (cmp.mpr z3), if_pos rfl]
          exact fail2 (by unfold nf; rw [if_neg nz, if_pos (Or.inr z3)])
        · rw [if_neg (fun e => z3 (cmp.mp e)), if_neg (show ¬ (1 : Int32) = 0 by decide)]
          have n0 : nf q (ex (dg w) n q) (nv w q (ex (dg w) n q - q)) b = 0 := by
            unfold nf; rw [if_neg nz, if_neg (by omega)]
          rw [n0]
          rw [em] at F3 v22
          refine ⟨_, rfl, F3, fun e => absurd rfl e, fun _ => ⟨?_, gI_sI _ _ _ _, ?_, v22⟩⟩
          · rw [gI_nei (by decide), gI_nei (by decide), ← eb, gI_nei (by decide), gI_nei (by decide)]
          · rw [gI_nei (by decide), gI_sI]
    obtain ⟨τ', l1, l2⟩ := last
    refine ⟨τ', ?_, l2⟩
    refine jloop_scan (P := dg w) (fun i => sI (sI τ2 1 21 (nI (mv w q i))) 1 18 (nI (q + i))) e2 hn ?_ ?_ ?_
    · refine (sI_self (σ := sI τ2 1 21 (nI (mv w q 0))) ?_).trans rfl
      rw [gI_nei (by decide)]; exact b18
    · show f_X11_takeNumber_B42 (sI (sI τ2 1 21 (nI (mv w q (ex (dg w) n q - q)))) 1 18 (nI (q + (ex (dg w) n q - q)))) 0 mx = _
      rw [show q + (ex (dg w) n q - q) = ex (dg w) n q by omega]
      have TT := T (nI (mv w q (ex (dg w) n q - q))) (nI (ex (dg w) n q))
      unfold f_X11_takeNumber_B42
      rw [l1, jw_e, TT.2.1, gI_sI]
      by_cases y : ex (dg w) n q < n
      · rw [if_neg (nI_ge y (by omega)), bG_t (jin_nI (by omega) (by omega)), ix_nI (by omega), (TT.2.2 _ y).2, in_dg (hw _ y), bC_e, if_pos]
        rw [if_neg (show ¬ isB 48 57 (w (ex (dg w) n q)) = true from fun e => ex_out' (P := dg w) e2 ⟨y, e⟩)]
      · rw [if_pos (nI_le (by omega) (by omega))]
    · intro i hi h1 h2
      have TT := T (nI (mv w q i)) (nI (q + i))
      have hc := isB_iff.mp h2
      have mi := mv_le (w := w) e2 i (by omega)
      show f_X11_takeNumber_B42 (sI (sI τ2 1 21 (nI (mv w q i))) 1 18 (nI (q + i))) 0 mx = some (Sum.inl (sI (sI τ2 1 21 (nI (mv w q (i + 1)))) 1 18 (nI (q + (i + 1)))))
      unfold f_X11_takeNumber_B42 f_X11_takeNumber_J113
      have step : ∀ v : Int32, (bV (sI (sI (sI τ2 1 21 (nI (mv w q i))) 1 18 (nI (q + i))) 1 21 v) fun σ15 => bV (sI σ15 1 18 ((gI σ15 1 18) + (1 : Int32))) fun σ16 => (some (Sum.inl σ16) : Option (jS ⊕ (Int32 × jS)))) = some (Sum.inl (sI (sI τ2 1 21 v) 1 18 (nI (q + (i + 1))))) := fun v => by
        rw [bV_e, bV_e, gI_nei (show (18 : Nat) ≠ 21 by decide), gI_sI, sI_comm (sI τ2 1 21 (nI (mv w q i))) (nI (q + i)) v (by decide), sI_sI, sI_sI, nI_1]
        rfl
      rw [TT.2.1, gI_sI, if_neg (nI_ge h1 (by omega)), bG_t (jin_nI (by omega) (by omega)), ix_nI (by omega), (TT.2.2 _ h1).2, in_dg (hw _ h1), bC_e, if_neg (show ¬ (if isB 48 57 (w (q + i)) = true then (1 : Int32) else 0) = 0 by rw [if_pos (show isB 48 57 (w (q + i)) = true from h2)]; decide), gI_nei (show (21 : Nat) ≠ 18 by decide), gI_sI, step, step, bG_t (jin_nI (by omega) (by omega))]
      rw [mv]
      by_cases y : mv w q i ≤ 1000
      · rw [if_pos (show nI _ ≤ (1000 : Int32) from nI_le (b := 1000) y (by decide)), if_pos y, show (10 : Int32) = nI 10 from rfl, show (48 : Int32) = nI 48 from rfl, nI_mul, nI_add, nI_sub (by omega)]
      · rw [if_neg (show ¬ nI _ ≤ (1000 : Int32) from nI_ge (a := 1000) (by omega) (by omega)), if_neg y]
  · rw [if_pos (show (if q < n ∧ dg w q = true then (1 : Int32) else 0) = 0 by rw [if_neg z]), gI_sI]
    have ez : ex (dg w) n q = q := (ex_eq e2).mpr z
    have n1 : nf q (ex (dg w) n q) (nv w q (ex (dg w) n q - q)) b = 1 := by unfold nf; rw [if_pos ez]
    rw [n1]
    unfold f_X11_fails
    rw [bV_e, bD_e]
    exact ⟨_, rfl, mF_tr F18 (mF_sI _ _ (by decide)), fun _ => gI_sI _ _ _ _, fun e => absurd e (by decide)⟩
