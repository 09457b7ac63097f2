/-! the reference's clause -/
def pM (τ : jS) (n : Nat) (w : Nat → Nat) (B : Tb) : Prop := txM τ n w ∧ gI τ 1 17 = -1 ∧ (gI τ 1 23 = nI (tP B) ∧ gI τ 1 25 = nI (tT B) ∧ gI τ 1 28 = nI (tG B) ∧ gI τ 1 30 = nI (tQ B)) ∧ (∀ p, p < tP B → gI τ 12 p = nI (B 2 p)) ∧ (∀ t, t < tT B → gI τ 13 t = nI (B 3 t) ∧ gI τ 14 t = nI (B 4 t)) ∧ (∀ g, g < tG B → gI τ 15 g = nI (B 6 g)) ∧ ∀ q, q < tQ B → gI τ 16 q = nI (B 7 q) ∧ gI τ 17 q = nI (B 8 q)
def s12 (τ : jS) : Prop := ∀ p, p < 16 → ∃ v, v ≤ 9 ∧ gI τ 12 p = nI v
def mP (τ τ' : jS) : Prop := (∀ a i, ¬ (a = 1 ∧ i ∈ [17, 18, 20, 21, 22, 23, 25, 28, 30, 33, 34]) → a ∉ [12, 13, 14, 15, 16, 17] → gI τ' a i = gI τ a i) ∧ (s12 τ → s12 τ')
theorem mP_tr {a b c : jS} (h : mP a b) (g : mP b c) : mP a c := ⟨fun x i q r => (g.1 x i q r).trans (h.1 x i q r), fun s => g.2 (h.2 s)⟩
theorem mP_F {F : List Nat} {τ τ' : jS} (h : mF F τ τ') (d : ∀ x, x ∈ F → x ∈ [17, 18, 20, 21, 22, 23, 25, 28, 30, 33, 34]) : mP τ τ' :=
  ⟨fun a i q _ => h a i (fun z => q ⟨z.1, d i z.2⟩), fun s p hp => by rw [mF_h h (by decide)]; exact s p hp⟩
theorem pM_F {F : List Nat} {τ τ' : jS} {n : Nat} {w : Nat → Nat} {B : Tb} (h : mF F τ τ') (d : ∀ x, x ∈ [16, 23, 25, 28, 30] → x ∉ F) (h17 : gI τ' 1 17 = gI τ 1 17) (p : pM τ n w B) : pM τ' n w B := by
  obtain ⟨t, e17, ⟨a1, a2, a3, a4⟩, b, c, e, f⟩ := p
  have H : ∀ a, a ≠ 1 → ∀ i, gI τ' a i = gI τ a i := fun a ha i => mF_h h ha i
  refine ⟨txM_F h (d 16 (by decide)) t, h17.trans e17, ⟨(mF_1 h (d 23 (by decide))).trans a1, (mF_1 h (d 25 (by decide))).trans a2, (mF_1 h (d 28 (by decide))).trans a3, (mF_1 h (d 30 (by decide))).trans a4⟩, fun p hp => ?_, fun t ht => ?_, fun g hg => ?_, fun q hq => ?_⟩
  · rw [H 12 (by decide)]; exact b p hp
  · rw [H 13 (by decide), H 14 (by decide)]; exact c t ht
  · rw [H 15 (by decide)]; exact e g hg
  · rw [H 16 (by decide), H 17 (by decide)]; exact f q hq
def oF : (Nat × Nat) ⊕ (Tb × Nat) → Int32
  | .inl fa => nI fa.1
  | .inr _ => 0
def oM (τ : jS) (n : Nat) (w : Nat → Nat) : (Nat × Nat) ⊕ (Tb × Nat) → Prop
  | .inl fa => gI τ 1 17 = nI fa.2
  | .inr b => pM τ n w b.1 ∧ gI τ 1 18 = nI b.2
theorem m_J380 {τ : jS} {n d : Nat} {w : Nat → Nat} {B : Tb} (p : pM τ n w B) (hd : d ≤ n) (h18 : gI τ 1 18 = nI d) : ∃ τ', f_X11_takeClause_J380 τ = some (oF (cFin w n B d), τ') ∧ mP τ τ' ∧ oM τ' n w (cFin w n B d) := by
  have hw := txM_w p.1
  have F1 : mF [17, 18] τ (sI τ 1 18 (nI (ex (bl w) n d))) := mF_sI _ _ (by decide)
  unfold f_X11_takeClause_J380 f_X11_fails
  rw [m_here p.1 hd h18, bD_e, oFin, gI_sI, bV_e, bV_e, bD_e, nI_1, sI_sI]
  by_cases z : ex (bl w) n d < n ∧ w (ex (bl w) n d) = 59
  · rw [if_pos (show sgn w n _ = 59 from (sgn_ne (c := 59) hw (by decide)).mpr z), if_pos z]
    have F2 : mF [18] τ (sI τ 1 18 (nI (ex (bl w) n d + 1))) := mF_sI _ _ (by decide)
    exact ⟨_, rfl, mP_F F2 (by decide), pM_F F2 (by decide) (gI_nei (by decide)) p, gI_sI _ _ _ _⟩
  · rw [if_neg (show ¬ sgn w n _ = 59 from fun e => z ((sgn_ne (c := 59) hw (by decide)).mp e)), if_neg z]
    exact ⟨_, rfl, mP_F (mF_tr F1 (mF_sI _ _ (by decide))) (by decide), gI_sI _ _ _ _⟩
/-! whether a pair is told already -/
def fgT (B : Tb) (k a b i : Nat) : Bool := a == b || (k == 1 && bex i fun t => B 3 t == a && B 4 t == b)
def fgG (B : Tb) (k a b i : Nat) : Bool := fgT B k a b (tT B) || (k == 2 && bex i (bearsAt B a b))
theorem fg_ag (B : Tb) (k a b : Nat) : fgG B k a b (tG B) = ag B k a b := rfl
def bI (b : Bool) : Int32 := if b = true then 1 else 0
theorem m_again {τ : jS} {n k a b c : Nat} {w : Nat → Nat} {B : Tb} (p : pM τ n w B) (g : gB B) (hk : k < 4) (ha : a < 100) (hb : b < 100) (h33 : gI τ 1 33 = nI a) (h34 : gI τ 1 34 = nI b) (h22 : gI τ 1 22 = nI c) : f_X11_takeTwo_J70 τ (nI k) (bI (a == b)) = some (if ag B k a b = true then 4 else 0, if ag B k a b = true then sI τ 1 17 (nI c) else τ) := by
  obtain ⟨t, e17, ⟨a1, a2, a3, a4⟩, b1, c1, e1, f1⟩ := p
  obtain ⟨g1, g2, g3, g4, g5, g6, g7, g8, g9⟩ := g
  have J209 : f_X11_takeTwo_J209 τ (bI (ag B k a b)) = some (if ag B k a b = true then 4 else 0, if ag B k a b = true then sI τ 1 17 (nI c) else τ) := by
    unfold f_X11_takeTwo_J209 f_X11_takeTwo_J226 f_X11_fails bI
    rw [h22, bV_e, bD_e]
    cases ag B k a b with
    | true => rw [if_neg (show ¬ (if true = true then (1 : Int32) else 0) = 0 by decide), if_pos rfl, if_pos rfl]
    | false => rw [if_pos (show (if false = true then (1 : Int32) else 0) = 0 by decide), if_neg (by decide), if_neg (by decide)]
  have k12 : (nI k = 1 ↔ k = 1) ∧ (nI k = 2 ↔ k = 2) := ⟨nI_eq (b := 1) (by omega) (by decide), nI_eq (b := 2) (by omega) (by decide)⟩
  have J132 : f_X11_takeTwo_J132 τ (nI k) (bI (fgT B k a b (tT B))) = some (if ag B k a b = true then 4 else 0, if ag B k a b = true then sI τ 1 17 (nI c) else τ) := by
    unfold f_X11_takeTwo_J132
    refine jloop_0 (fun i => (bI (fgG B k a b i), nI i, τ)) (tG B) ?_ (jfuel_big (by omega)) ?_ ?_
    · have : fgG B k a b 0 = fgT B k a b (tT B) := by unfold fgG; rw [bex_0, Bool.and_false, Bool.or_false]
      rw [this]; rfl
    · show f_X11_takeTwo_B135 τ (nI k) (bI (fgG B k a b (tG B))) (nI (tG B)) = _
      unfold f_X11_takeTwo_B135
      rw [a3, if_pos (Int32.le_refl _), fg_ag, J209, jw_e]
    · intro i hi
      obtain ⟨u1, u2, u3⟩ := g8.1 i hi
      have j120 : jin (nI i) 120 = true := jin_nI (by omega) (by omega)
      show f_X11_takeTwo_B135 τ (nI k) (bI (fgG B k a b i)) (nI i) = some (Sum.inl (bI (fgG B k a b (i + 1)), nI (i + 1), τ))
      unfold f_X11_takeTwo_B135 f_X11_takeTwo_J197 f_X11_takeTwo_J201 f_X11_takeTwo_J202
      rw [a3, if_neg (nI_ge hi (by omega)), bV_e, bV_e, nI_1, bG_t j120, bG_t j120, ix_nI (by omega), e1 i hi, h33, h34, show (100 : Int32) = nI 100 from rfl, nI_mul, nI_mul, nI_add, nI_add]
      have st : fgG B k a b (i + 1) = (fgG B k a b i || (k == 2 && bearsAt B a b i)) := by
        unfold fgG
        rw [bex_succ]
        cases fgT B k a b (tT B) <;> cases (k == 2) <;> simp
      rw [st]
      cases fgG B k a b i with
      | true => rw [if_neg (show ¬ bI true = 0 by decide), Bool.true_or]; rfl
      | false =>
        rw [if_pos (show bI false = 0 by decide), Bool.false_or]
        by_cases z : k = 2
        · rw [if_pos (k12.2.mpr z), beq_iff_eq.mpr z, Bool.true_and]
          unfold bearsAt
          by_cases y1 : B 6 i = 100 * a + b
          · rw [if_pos (congrArg nI y1), beq_iff_eq.mpr y1, Bool.true_or]; rfl
          · rw [if_neg (fun e => y1 ((nI_eq (by omega) (by omega)).mp e)), beq_eq_false_iff_ne.mpr y1, Bool.false_or]
            by_cases y2 : B 6 i = 100 * b + a
            · rw [if_pos (congrArg nI y2), beq_iff_eq.mpr y2]; rfl
            · rw [if_neg (fun e => y2 ((nI_eq (by omega) (by omega)).mp e)), beq_eq_false_iff_ne.mpr y2]; rfl
        · rw [if_neg (fun e => z (k12.2.mp e)), beq_eq_false_iff_ne.mpr z, Bool.false_and]; rfl
  unfold f_X11_takeTwo_J70
  refine jloop_0 (fun i => (bI (fgT B k a b i), nI i, τ)) (tT B) ?_ (jfuel_big (by omega)) ?_ ?_
  · have : fgT B k a b 0 = (a == b) := by unfold fgT; rw [bex_0, Bool.and_false, Bool.or_false]
    rw [this]; rfl
  · show f_X11_takeTwo_B74 τ (nI k) (bI (fgT B k a b (tT B))) (nI (tT B)) = _
    unfold f_X11_takeTwo_B74
    rw [a2, if_pos (Int32.le_refl _), J132, jw_e]
  · intro i hi
    obtain ⟨u1, u2, u3⟩ := g6 i hi
    have j40 : jin (nI i) 40 = true := jin_nI (by omega) (by omega)
    show f_X11_takeTwo_B74 τ (nI k) (bI (fgT B k a b i)) (nI i) = some (Sum.inl (bI (fgT B k a b (i + 1)), nI (i + 1), τ))
    unfold f_X11_takeTwo_B74 f_X11_takeTwo_J120 f_X11_takeTwo_J124 f_X11_takeTwo_J125
    rw [a2, if_neg (nI_ge hi (by omega)), bV_e, bV_e, nI_1, bG_t j40, bG_t j40, ix_nI (by omega), (c1 i hi).1, (c1 i hi).2, h33, h34]
    have st : fgT B k a b (i + 1) = (fgT B k a b i || (k == 1 && (B 3 i == a && B 4 i == b))) := by
      unfold fgT
      rw [bex_succ]
      cases (a == b) <;> cases (k == 1) <;> simp
    rw [st]
    cases fgT B k a b i with
    | true => rw [if_neg (show ¬ bI true = 0 by decide), Bool.true_or]; rfl
    | false =>
      rw [if_pos (show bI false = 0 by decide), Bool.false_or]
      by_cases z : k = 1
      · rw [if_pos (k12.1.mpr z), beq_iff_eq.mpr z, Bool.true_and]
        by_cases y1 : B 3 i = a
        · rw [if_pos (congrArg nI y1), beq_iff_eq.mpr y1, Bool.true_and]
          by_cases y2 : B 4 i = b
          · rw [if_pos (congrArg nI y2), beq_iff_eq.mpr y2]; rfl
          · rw [if_neg (fun e => y2 ((nI_eq (by omega) (by omega)).mp e)), beq_eq_false_iff_ne.mpr y2]; rfl
        · rw [if_neg (fun e => y1 ((nI_eq (by omega) (by omega)).mp e)), beq_eq_false_iff_ne.mpr y1, Bool.false_and]; rfl
      · rw [if_neg (fun e => z (k12.1.mp e)), beq_eq_false_iff_ne.mpr z, Bool.false_and]; rfl
theorem nI_le0 {f : Nat} (h : f < 2 ^ 31) : nI f ≤ 0 ↔ f = 0 := by
  rcases Nat.eq_zero_or_pos f with z | z
  · subst z; decide
  · exact ⟨fun e => absurd e (nI_nle z h), fun e => by omega⟩
/-- two numbers and what is wrong with them -/
def tF (w : Nat → Nat) (n : Nat) (B : Tb) (k e : Nat) : Nat := if nF w n e (tP B) = 0 then (if nF w n (nD w n e) (tP B) = 0 then (if ag B k (nV w n e) (nV w n (nD w n e)) = true then 4 else 0) else nF w n (nD w n e) (tP B)) else nF w n e (tP B)
def tA (w : Nat → Nat) (n : Nat) (B : Tb) (e : Nat) : Nat := if nF w n e (tP B) = 0 then nA w n (nD w n e) else nA w n e
theorem nV_lt {w : Nat → Nat} {n p : Nat} (h : p ≤ n) : nV w n p < 100 := nv_lt (ex_le _ h) (Nat.le_refl _)
theorem m_takeTwo {τ : jS} {n k e : Nat} {w : Nat → Nat} {B : Tb} (p : pM τ n w B) (g : gB B) (hk : k < 4) (he : e ≤ n) (h18 : gI τ 1 18 = nI e) : ∃ τ', f_X11_takeTwo τ (nI k) = some (nI (tF w n B k e), τ') ∧ mF [17, 18, 21, 22, 33, 34] τ τ' ∧ (tF w n B k e ≠ 0 → gI τ' 1 17 = nI (tA w n B e)) ∧ (tF w n B k e = 0 → gI τ' 1 17 = gI τ 1 17 ∧ gI τ' 1 18 = nI (nD w n (nD w n e)) ∧ gI τ' 1 33 = nI (nV w n e) ∧ gI τ' 1 34 = nI (nV w n (nD w n e))) := by
  have g0 := g
  obtain ⟨g1, _⟩ := g
  obtain ⟨τ1, r1, r2, r3, r4⟩ := m_takeNumber (b := tP B) p.1 he h18 (by omega) (mx := nI (tP B) - 1) rfl
  replace r1 : f_X11_takeNumber τ 0 (nI (tP B) - 1) = some (nI (nF w n e (tP B)), τ1) := r1
  replace r3 : nF w n e (tP B) ≠ 0 → gI τ1 1 17 = nI (nA w n e) := r3
  replace r4 : nF w n e (tP B) = 0 → gI τ1 1 17 = gI τ 1 17 ∧ gI τ1 1 18 = nI (nD w n e) ∧ gI τ1 1 21 = nI (nV w n e) ∧ gI τ1 1 22 = nI (nA w n e) := r4
  have le1 := nF_le w n e (tP B)
  have le2 := nF_le w n (nD w n e) (tP B)
  have hd := nD_le (w := w) he
  have hd2 := nD_le (w := w) hd
  have F1 : mF [17, 18, 21, 22, 33, 34] τ τ1 := mF_mono r2 (by decide)
  unfold f_X11_takeTwo f_X11_takeTwo_J39
  rw [p.2.2.1.1, r1, bD_e, bV_e]
  unfold tF tA
  by_cases n1 : nF w n e (tP B) = 0
  · obtain ⟨u1, u2, u3, u4⟩ := r4 n1
    rw [if_pos ((nI_le0 (by omega)).mpr n1), if_pos n1, if_pos n1, u3]
    have F2 : mF [17, 18, 21, 22, 33, 34] τ (sI τ1 1 33 (nI (nV w n e))) := mF_tr F1 (mF_sI _ _ (by decide))
    have p2 : pM (sI τ1 1 33 (nI (nV w n e))) n w B := pM_F F2 (by decide) ((gI_nei (by decide)).trans u1) p
    obtain ⟨τ3, s1, s2, s3, s4⟩ := m_takeNumber (b := tP B) p2.1 hd ((gI_nei (by decide)).trans u2) (by omega) (mx := nI (tP B) - 1) rfl
    replace s1 : f_X11_takeNumber (sI τ1 1 33 (nI (nV w n e))) 0 (nI (tP B) - 1) = some (nI (nF w n (nD w n e) (tP B)), τ3) := s1
    replace s3 : nF w n (nD w n e) (tP B) ≠ 0 → gI τ3 1 17 = nI (nA w n (nD w n e)) := s3
    replace s4 : nF w n (nD w n e) (tP B) = 0 → gI τ3 1 17 = gI (sI τ1 1 33 (nI (nV w n e))) 1 17 ∧ gI τ3 1 18 = nI (nD w n (nD w n e)) ∧ gI τ3 1 21 = nI (nV w n (nD w n e)) ∧ gI τ3 1 22 = nI (nA w n (nD w n e)) := s4
    have F3 : mF [17, 18, 21, 22, 33, 34] τ τ3 := mF_tr F2 (mF_mono s2 (by decide))
    rw [p2.2.2.1.1, s1, bD_e, bV_e]
    by_cases n2 : nF w n (nD w n e) (tP B) = 0
    · obtain ⟨v1, v2, v3, v4⟩ := s4 n2
      rw [if_pos ((nI_le0 (by omega)).mpr n2), if_pos n2, v3]
      have F4 : mF [17, 18, 21, 22, 33, 34] τ (sI τ3 1 34 (nI (nV w n (nD w n e)))) := mF_tr F3 (mF_sI _ _ (by decide))
      have h17 : gI (sI τ3 1 34 (nI (nV w n (nD w n e)))) 1 17 = gI τ 1 17 := (gI_nei (by decide)).trans (v1.trans ((gI_nei (by decide)).trans u1))
      have p4 : pM (sI τ3 1 34 (nI (nV w n (nD w n e)))) n w B := pM_F F4 (by decide) h17 p
      have h33 : gI (sI τ3 1 34 (nI (nV w n (nD w n e)))) 1 33 = nI (nV w n e) := (gI_nei (by decide)).trans ((mF_1 s2 (by decide)).trans (gI_sI _ _ _ _))
      have h34 : gI (sI τ3 1 34 (nI (nV w n (nD w n e)))) 1 34 = nI (nV w n (nD w n e)) := gI_sI _ _ _ _
      have la := nV_lt (w := w) he
      have lb := nV_lt (w := w) hd
      have ma := m_again p4 g0 hk la lb h33 h34 ((gI_nei (by decide)).trans v4)
      have pick : (if gI (sI τ3 1 34 (nI (nV w n (nD w n e)))) 1 33 = gI (sI τ3 1 34 (nI (nV w n (nD w n e)))) 1 34 then f_X11_takeTwo_J70 (sI τ3 1 34 (nI (nV w n (nD w n e)))) (nI k) 1 else f_X11_takeTwo_J70 (sI τ3 1 34 (nI (nV w n (nD w n e)))) (nI k) 0) = f_X11_takeTwo_J70 (sI τ3 1 34 (nI (nV w n (nD w n e)))) (nI k) (bI (nV w n e == nV w n (nD w n e))) := by
        rw [h33, h34]
        by_cases y : nV w n e = nV w n (nD w n e)
        · rw [if_pos (congrArg nI y), beq_iff_eq.mpr y]; rfl
        · rw [if_neg (fun q => y ((nI_eq (by omega) (by omega)).mp q)), beq_eq_false_iff_ne.mpr y]; rfl
      rw [pick, ma]
      by_cases za : ag B k (nV w n e) (nV w n (nD w n e)) = true
      · rw [if_pos za, if_pos za, if_pos za]
        exact ⟨_, rfl, mF_tr F4 (mF_sI _ _ (by decide)), fun _ => gI_sI _ _ _ _, fun q => absurd q (by decide)⟩
      · rw [if_neg za, if_neg za, if_neg za]
        exact ⟨_, rfl, F4, fun q => absurd rfl q, fun _ => ⟨h17, (gI_nei (by decide)).trans v2, h33, h34⟩⟩
    · rw [if_neg (fun q => n2 ((nI_le0 (by omega)).mp q)), if_neg n2]
      exact ⟨_, rfl, mF_tr F3 (mF_sI _ _ (by decide)), fun _ => (gI_nei (by decide)).trans (s3 n2), fun q => absurd q n2⟩
  · rw [if_neg (fun q => n1 ((nI_le0 (by omega)).mp q)), if_neg n1, if_neg n1, bV_e, if_neg (fun q => n1 ((nI_le0 (by omega)).mp q))]
    exact ⟨_, rfl, mF_tr (mF_tr F1 (mF_sI _ _ (by decide))) (mF_sI _ _ (by decide)), fun _ => (gI_nei (by decide)).trans ((gI_nei (by decide)).trans (r3 n1)), fun q => absurd q n1⟩
