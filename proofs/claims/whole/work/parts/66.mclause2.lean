/-! the reference's clause, whole; what a clause adds is good -/
theorem mP_sI12 {τ : jS} {i : Nat} {v : Int32} {h : Nat} (hh : h = 13 ∨ h = 14 ∨ h = 15 ∨ h = 16 ∨ h = 17) : mP τ (sI τ h i v) := by
  refine ⟨fun a j _ q2 => gI_ne (fun e => q2 (by subst e; simp; omega)), fun s p hp => ?_⟩
  rw [gI_ne (by omega)]; exact s p hp
theorem mP_1 {τ : jS} {i : Nat} (v : Int32) (h : i ∈ [17, 18, 20, 21, 22, 23, 25, 28, 30, 33, 34]) : mP τ (sI τ 1 i v) := mP_F (F := [i]) (mF_sI _ _ (by simp)) (by intro x hx; rw [List.mem_singleton.mp hx]; exact h)
theorem m_J224 {τ : jS} {n k d v : Nat} {w : Nat → Nat} {B : Tb} (p : pM τ n w B) (hd : d ≤ n) (h18 : gI τ 1 18 = nI d) (hk : k = 0) (hf : full B k = false) (hv : v < 10) (h21 : gI τ 1 21 = nI v) : ∃ τ', f_X11_takeClause_J224 τ (nI k) 0 = some (oF (cFin w n (addP B v) d), τ') ∧ mP τ τ' ∧ oM τ' n w (cFin w n (addP B v) d) := by
  subst hk
  obtain ⟨t, e17, ⟨a1, a2, a3, a4⟩, b, c, e, f⟩ := p
  obtain ⟨i1, i2, i3, i4, i5, i6, i7⟩ := addP_is B v
  have h16 : tP B < 16 := by
    have : ¬ 16 ≤ tP B := fun e => by unfold full at hf; simp [e] at hf
    omega
  have P : mP τ (sI (sI τ 12 (tP B) (nI v)) 1 23 (nI (tP B + 1))) := by
    refine mP_tr ?_ (mP_1 _ (by decide))
    refine ⟨fun a j _ q2 => gI_ne (fun e => q2 (by subst e; simp)), fun s p hp => ?_⟩
    by_cases z : p = tP B
    · subst z; exact ⟨v, by omega, gI_sI _ _ _ _⟩
    · rw [gI_nei z]; exact s p hp
  have P2 : pM (sI (sI τ 12 (tP B) (nI v)) 1 23 (nI (tP B + 1))) n w (addP B v) := by
    refine ⟨txM_fr ((gI_nei (by decide)).trans (gI_ne (by decide))) (fun i => (gI_ne (by decide)).trans (gI_ne (by decide))) t, ((gI_nei (by decide)).trans (gI_ne (by decide))).trans e17, ⟨by rw [gI_sI, i1], by rw [i2]; exact ((gI_nei (by decide)).trans (gI_ne (by decide))).trans a2, by rw [i3]; exact ((gI_nei (by decide)).trans (gI_ne (by decide))).trans a3, by rw [i4]; exact ((gI_nei (by decide)).trans (gI_ne (by decide))).trans a4⟩, fun q hq => ?_, fun u hu => ?_, fun u hu => ?_, fun u hu => ?_⟩
    · rw [i1] at hq
      rw [gI_ne (by decide)]
      by_cases z : q = tP B
      · subst z; rw [gI_sI, i6]
      · rw [gI_nei z, i7 q z]; exact b q (by omega)
    · rw [i2] at hu
      rw [i5 3 u (by decide) (by decide), i5 4 u (by decide) (by decide), gI_ne (show (13 : Nat) ≠ 1 by decide), gI_ne (show (13 : Nat) ≠ 12 by decide), gI_ne (show (14 : Nat) ≠ 1 by decide), gI_ne (show (14 : Nat) ≠ 12 by decide)]
      exact c u hu
    · rw [i3] at hu
      rw [i5 6 u (by decide) (by decide), gI_ne (by decide), gI_ne (by decide)]
      exact e u hu
    · rw [i4] at hu
      rw [i5 7 u (by decide) (by decide), i5 8 u (by decide) (by decide), gI_ne (show (16 : Nat) ≠ 1 by decide), gI_ne (show (16 : Nat) ≠ 12 by decide), gI_ne (show (17 : Nat) ≠ 1 by decide), gI_ne (show (17 : Nat) ≠ 12 by decide)]
      exact f u hu
  obtain ⟨τ', x1, x2, x3⟩ := m_J380 P2 hd (((gI_nei (by decide)).trans (gI_ne (by decide))).trans h18)
  refine ⟨τ', ?_, mP_tr P x2, x3⟩
  unfold f_X11_takeClause_J224
  rw [if_pos (show (0 : Int32) ≤ 0 by decide), if_pos (show nI 0 = 0 from rfl), a1, bG_t (jin_nI h16 (by omega)), ix_nI (by omega), h21, bV_e, gI_ne (by decide), a1, nI_1, bV_e]
  exact x1
theorem m_J224p {τ : jS} {n k d a b : Nat} {w : Nat → Nat} {B : Tb} (p : pM τ n w B) (g : gB B) (hd : d ≤ n) (h18 : gI τ 1 18 = nI d) (hk : k < 4) (hk0 : k ≠ 0) (hf : full B k = false) (ha : a < tP B) (hb : b < tP B) (hag : ag B k a b = false) (h33 : gI τ 1 33 = nI a) (h34 : gI τ 1 34 = nI b) : ∃ τ', f_X11_takeClause_J224 τ (nI k) 0 = some (oF (cFin w n (addK B k a b) d), τ') ∧ mP τ τ' ∧ oM τ' n w (cFin w n (addK B k a b) d) := by
  obtain ⟨t, e17, ⟨a1, a2, a3, a4⟩, b1, c, e, f⟩ := p
  obtain ⟨g1, g2, g3, g4, g5, g6, g7, g8, g9⟩ := g
  have hab : a ≠ b := fun e => by unfold ag at hag; simp [e] at hag
  unfold f_X11_takeClause_J224
  rw [if_pos (show (0 : Int32) ≤ 0 by decide), if_neg (fun q => hk0 ((nI_eq0 (by omega)).mp q))]
  have hk3 : k = 1 ∨ k = 2 ∨ k = 3 := by omega
  unfold addK
  rcases hk3 with rfl | rfl | rfl
  · obtain ⟨i1, i2, i3, i4, i5, i6, i7⟩ := addT_is B a b
    have h40 : tT B < 40 := by
      have : ¬ 40 ≤ tT B := fun e => by unfold full at hf; simp [e] at hf
      omega
    have j40 : jin (nI (tT B)) 40 = true := jin_nI h40 (by omega)
    rw [if_pos (show nI 1 = 1 from rfl), if_neg (show ¬ (1 : Nat) = 2 by decide), if_pos (show (1 : Nat) = 1 from rfl), a2, bG_t j40, h33, bV_e, gI_ne (show (1 : Nat) ≠ 13 by decide), a2, bG_t j40, gI_ne (show (1 : Nat) ≠ 13 by decide), h34, bV_e, gI_ne (show (1 : Nat) ≠ 14 by decide), gI_ne (show (1 : Nat) ≠ 13 by decide), a2, bV_e, nI_1, ix_nI (by omega)]
    have P : mP τ (sI (sI (sI τ 13 (tT B) (nI a)) 14 (tT B) (nI b)) 1 25 (nI (tT B + 1))) := mP_tr (mP_tr (mP_sI12 (by omega)) (mP_sI12 (by omega))) (mP_1 _ (by decide))
    have P2 : pM (sI (sI (sI τ 13 (tT B) (nI a)) 14 (tT B) (nI b)) 1 25 (nI (tT B + 1))) n w (addT B a b) := by
      have o : ∀ i, i ≠ 25 → gI (sI (sI (sI τ 13 (tT B) (nI a)) 14 (tT B) (nI b)) 1 25 (nI (tT B + 1))) 1 i = gI τ 1 i := fun i hi => (gI_nei hi).trans ((gI_ne (by decide)).trans (gI_ne (by decide)))
      have o2 : ∀ x i, x ≠ 1 → x ≠ 13 → x ≠ 14 → gI (sI (sI (sI τ 13 (tT B) (nI a)) 14 (tT B) (nI b)) 1 25 (nI (tT B + 1))) x i = gI τ x i := fun x i h1 h2 h3 => (gI_ne h1).trans ((gI_ne h3).trans (gI_ne h2))
      refine ⟨txM_fr (o 16 (by decide)) (fun i => o2 11 i (by decide) (by decide) (by decide)) t, (o 17 (by decide)).trans e17, ⟨by rw [i1]; exact (o 23 (by decide)).trans a1, by rw [i2, gI_sI], by rw [i3]; exact (o 28 (by decide)).trans a3, by rw [i4]; exact (o 30 (by decide)).trans a4⟩, fun q hq => ?_, fun u hu => ?_, fun u hu => ?_, fun u hu => ?_⟩
      · rw [i1] at hq
        rw [o2 12 q (by decide) (by decide) (by decide), i5 2 q (by decide) (by decide) (by decide)]; exact b1 q hq
      · rw [i2] at hu
        rw [gI_ne (show (13 : Nat) ≠ 1 by decide), gI_ne (show (13 : Nat) ≠ 14 by decide), gI_ne (show (14 : Nat) ≠ 1 by decide)]
        by_cases z : u = tT B
        · subst z
          rw [i6.1, i6.2]; exact ⟨gI_sI _ _ _ _, gI_sI _ _ _ _⟩
        · rw [(i7 u z).1, (i7 u z).2, gI_nei z, gI_nei z, gI_ne (show (14 : Nat) ≠ 13 by decide)]; exact c u (by omega)
      · rw [i3] at hu
        rw [o2 15 u (by decide) (by decide) (by decide), i5 6 u (by decide) (by decide) (by decide)]; exact e u hu
      · rw [i4] at hu
        rw [o2 16 u (by decide) (by decide) (by decide), o2 17 u (by decide) (by decide) (by decide), i5 7 u (by decide) (by decide) (by decide), i5 8 u (by decide) (by decide) (by decide)]; exact f u hu
    obtain ⟨τ', x1, x2, x3⟩ := m_J380 P2 hd (((gI_nei (by decide)).trans ((gI_ne (by decide)).trans (gI_ne (by decide)))).trans h18)
    exact ⟨τ', x1, mP_tr P x2, x3⟩
  · obtain ⟨i1, i2, i3, i4, i5, i6, i7⟩ := addG_is B a b
    have nb : bears B a b = false := by
      cases h : bears B a b with
      | false => rfl
      | true => unfold ag at hag; simp [h] at hag
    have h40 := room g8 g1 ha hb hab nb
    have j40 : jin (nI (tG B)) 120 = true := jin_nI h40 (by omega)
    rw [if_neg (show ¬ nI 2 = 1 by decide), if_pos (show nI 2 = 2 from rfl), if_pos (show (2 : Nat) = 2 from rfl), a3, bG_t j40, h33, h34, show (100 : Int32) = nI 100 from rfl, nI_mul, nI_add, bV_e, gI_ne (show (1 : Nat) ≠ 15 by decide), a3, bV_e, nI_1, ix_nI (by omega)]
    have P : mP τ (sI (sI τ 15 (tG B) (nI (100 * a + b))) 1 28 (nI (tG B + 1))) := mP_tr (mP_sI12 (by omega)) (mP_1 _ (by decide))
    have P2 : pM (sI (sI τ 15 (tG B) (nI (100 * a + b))) 1 28 (nI (tG B + 1))) n w (addG B a b) := by
      have o : ∀ i, i ≠ 28 → gI (sI (sI τ 15 (tG B) (nI (100 * a + b))) 1 28 (nI (tG B + 1))) 1 i = gI τ 1 i := fun i hi => (gI_nei hi).trans (gI_ne (by decide))
      have o2 : ∀ x i, x ≠ 1 → x ≠ 15 → gI (sI (sI τ 15 (tG B) (nI (100 * a + b))) 1 28 (nI (tG B + 1))) x i = gI τ x i := fun x i h1 h2 => (gI_ne h1).trans (gI_ne h2)
      refine ⟨txM_fr (o 16 (by decide)) (fun i => o2 11 i (by decide) (by decide)) t, (o 17 (by decide)).trans e17, ⟨by rw [i1]; exact (o 23 (by decide)).trans a1, by rw [i2]; exact (o 25 (by decide)).trans a2, by rw [i3, gI_sI], by rw [i4]; exact (o 30 (by decide)).trans a4⟩, fun q hq => ?_, fun u hu => ?_, fun u hu => ?_, fun u hu => ?_⟩
      · rw [i1] at hq
        rw [o2 12 q (by decide) (by decide), i5 2 q (by decide) (by decide)]; exact b1 q hq
      · rw [i2] at hu
        rw [o2 13 u (by decide) (by decide), o2 14 u (by decide) (by decide), i5 3 u (by decide) (by decide), i5 4 u (by decide) (by decide)]; exact c u hu
      · rw [i3] at hu
        rw [gI_ne (show (15 : Nat) ≠ 1 by decide)]
        by_cases z : u = tG B
        · subst z; rw [gI_sI, i6]
        · rw [gI_nei z, i7 u z]; exact e u (by omega)
      · rw [i4] at hu
        rw [o2 16 u (by decide) (by decide), o2 17 u (by decide) (by decide), i5 7 u (by decide) (by decide), i5 8 u (by decide) (by decide)]; exact f u hu
    obtain ⟨τ', x1, x2, x3⟩ := m_J380 P2 hd (((gI_nei (by decide)).trans (gI_ne (by decide))).trans h18)
    exact ⟨τ', x1, mP_tr P x2, x3⟩
  · obtain ⟨i1, i2, i3, i4, i5, i6, i7⟩ := addU_is B a b
    have h40 : tQ B < 4 := by
      have : ¬ 4 ≤ tQ B := fun e => by unfold full at hf; simp [e] at hf
      omega
    have j40 : jin (nI (tQ B)) 4 = true := jin_nI h40 (by omega)
    rw [if_neg (show ¬ nI 3 = 1 by decide), if_neg (show ¬ nI 3 = 2 by decide), if_neg (show ¬ (3 : Nat) = 2 by decide), if_neg (show ¬ (3 : Nat) = 1 by decide), a4, bG_t j40, h33, bV_e, gI_ne (show (1 : Nat) ≠ 16 by decide), a4, bG_t j40, gI_ne (show (1 : Nat) ≠ 16 by decide), h34, bV_e, gI_ne (show (1 : Nat) ≠ 17 by decide), gI_ne (show (1 : Nat) ≠ 16 by decide), a4, bV_e, nI_1, ix_nI (by omega)]
    have P : mP τ (sI (sI (sI τ 16 (tQ B) (nI a)) 17 (tQ B) (nI b)) 1 30 (nI (tQ B + 1))) := mP_tr (mP_tr (mP_sI12 (by omega)) (mP_sI12 (by omega))) (mP_1 _ (by decide))
    have P2 : pM (sI (sI (sI τ 16 (tQ B) (nI a)) 17 (tQ B) (nI b)) 1 30 (nI (tQ B + 1))) n w (addU B a b) := by
      have o : ∀ i, i ≠ 30 → gI (sI (sI (sI τ 16 (tQ B) (nI a)) 17 (tQ B) (nI b)) 1 30 (nI (tQ B + 1))) 1 i = gI τ 1 i := fun i hi => (gI_nei hi).trans ((gI_ne (by decide)).trans (gI_ne (by decide)))
      have o2 : ∀ x i, x ≠ 1 → x ≠ 16 → x ≠ 17 → gI (sI (sI (sI τ 16 (tQ B) (nI a)) 17 (tQ B) (nI b)) 1 30 (nI (tQ B + 1))) x i = gI τ x i := fun x i h1 h2 h3 => (gI_ne h1).trans ((gI_ne h3).trans (gI_ne h2))
      refine ⟨txM_fr (o 16 (by decide)) (fun i => o2 11 i (by decide) (by decide) (by decide)) t, (o 17 (by decide)).trans e17, ⟨by rw [i1]; exact (o 23 (by decide)).trans a1, by rw [i2]; exact (o 25 (by decide)).trans a2, by rw [i3]; exact (o 28 (by decide)).trans a3, by rw [i4, gI_sI]⟩, fun q hq => ?_, fun u hu => ?_, fun u hu => ?_, fun u hu => ?_⟩
      · rw [i1] at hq
        rw [o2 12 q (by decide) (by decide) (by decide), i5 2 q (by decide) (by decide) (by decide)]; exact b1 q hq
      · rw [i2] at hu
        rw [o2 13 u (by decide) (by decide) (by decide), o2 14 u (by decide) (by decide) (by decide), i5 3 u (by decide) (by decide) (by decide), i5 4 u (by decide) (by decide) (by decide)]; exact c u hu
      · rw [i3] at hu
        rw [o2 15 u (by decide) (by decide) (by decide), i5 6 u (by decide) (by decide) (by decide)]; exact e u hu
      · rw [i4] at hu
        rw [gI_ne (show (16 : Nat) ≠ 1 by decide), gI_ne (show (16 : Nat) ≠ 17 by decide), gI_ne (show (17 : Nat) ≠ 1 by decide)]
        by_cases z : u = tQ B
        · subst z
          rw [i6.1, i6.2]; exact ⟨gI_sI _ _ _ _, gI_sI _ _ _ _⟩
        · rw [(i7 u z).1, (i7 u z).2, gI_nei z, gI_nei z, gI_ne (show (17 : Nat) ≠ 16 by decide)]; exact f u (by omega)
    obtain ⟨τ', x1, x2, x3⟩ := m_J380 P2 hd (((gI_nei (by decide)).trans ((gI_ne (by decide)).trans (gI_ne (by decide)))).trans h18)
    exact ⟨τ', x1, mP_tr P x2, x3⟩
theorem m_clause {τ : jS} {n q : Nat} {w : Nat → Nat} {B : Tb} (p : pM τ n w B) (g : gB B) (hq : q ≤ n) (h18 : gI τ 1 18 = nI q) (hb : ex (bl w) n q = q) : ∃ τ', f_X11_takeClause τ = some (oF (cOut w n B q (ex (lt w) n q)), τ') ∧ mP τ τ' ∧ oM τ' n w (cOut w n B q (ex (lt w) n q)) := by
  have he := ex_le (lt w) hq
  have kl := kd_le w q (ex (lt w) n q)
  have g0 := g
  obtain ⟨g1, g2, g3, g4, g5, g6, g7, g8, g9⟩ := g
  rw [m_kind p.1 hq h18, hb]
  generalize lN (vl w q (ex (lt w) n q - q)) = L
  unfold cOut
  generalize kd w q (ex (lt w) n q) = k at *
  generalize ex (lt w) n q = e at *
  have F1 : mF [18, 20] τ (sI (sL (sI τ 1 18 (nI q)) 1 19 L) 1 20 (nI e)) := fun a i z => by
    rw [gI_sIn (fun y => z ⟨y.1, by rw [y.2]; decide⟩), gI_sL, gI_sIn (fun y => z ⟨y.1, by rw [y.2]; decide⟩)]
  have p1 : pM (sI (sL (sI τ 1 18 (nI q)) 1 19 L) 1 20 (nI e)) n w B := pM_F F1 (by decide) (mF_1 F1 (by decide)) p
  have P1 : mP τ (sI (sL (sI τ 1 18 (nI q)) 1 19 L) 1 20 (nI e)) := mP_F F1 (by decide)
  have x18 : gI (sI (sL (sI τ 1 18 (nI q)) 1 19 L) 1 20 (nI e)) 1 18 = nI q := by rw [gI_nei (by decide), gI_sL, gI_sI]
  have x20 : gI (sI (sL (sI τ 1 18 (nI q)) 1 19 L) 1 20 (nI e)) 1 20 = nI e := gI_sI _ _ _ _
  generalize sI (sL (sI τ 1 18 (nI q)) 1 19 L) 1 20 (nI e) = τ1 at *
  obtain ⟨t1, e17, ⟨a1, a2, a3, a4⟩, _⟩ := id p1
  unfold f_X11_takeClause_J132
  by_cases k4 : k = 4
  · subst k4
    unfold f_X11_fails
    rw [if_neg (show ¬ (0 : Int32) ≤ kI 4 by decide), x18, bV_e, bD_e, if_pos rfl]
    exact ⟨_, rfl, mP_tr P1 (mP_1 _ (by decide)), gI_sI _ _ _ _⟩
  have k3 : k < 4 := by omega
  have ek : kI k = nI k := if_pos k3
  have full_out : full B k = true → ∃ τ', f_X11_takeClause_J187 τ1 = some (oF (.inl (3, q)), τ') ∧ mP τ τ' ∧ oM τ' n w (.inl (3, q)) := fun _ => by
    unfold f_X11_takeClause_J187 f_X11_fails
    rw [x18, bV_e, bD_e]
    exact ⟨_, rfl, mP_tr P1 (mP_1 _ (by decide)), gI_sI _ _ _ _⟩
  have pick : (if nI k = 0 then (if gI τ1 1 23 = 16 then f_X11_takeClause_J187 τ1 else f_X11_takeClause_J160 τ1 (nI k)) else f_X11_takeClause_J160 τ1 (nI k)) = (if full B k = true then f_X11_takeClause_J187 τ1 else f_X11_takeClause_J197 τ1 (nI k)) := by
    unfold f_X11_takeClause_J160 f_X11_takeClause_J174 full
    rw [a1, a2, a4]
    have : k = 0 ∨ k = 1 ∨ k = 2 ∨ k = 3 := by omega
    rcases this with rfl | rfl | rfl | rfl
    · rw [if_pos (show nI 0 = 0 from rfl), if_neg (show ¬ nI 0 = 1 by decide), if_neg (show ¬ nI 0 = 3 by decide)]
      by_cases z : tP B = 16
      · rw [if_pos (show nI (tP B) = 16 from congrArg nI z), if_pos (by simp; omega)]
      · rw [if_neg (show ¬ nI (tP B) = 16 from fun u => z ((nI_eq (b := 16) (by omega) (by decide)).mp u)), if_neg (by simp; omega)]
    · rw [if_neg (show ¬ nI 1 = 0 by decide), if_pos (show nI 1 = 1 from rfl), if_neg (show ¬ nI 1 = 3 by decide)]
      by_cases z : tT B = 40
      · rw [if_pos (show nI (tT B) = 40 from congrArg nI z), if_pos (by simp; omega)]
      · rw [if_neg (show ¬ nI (tT B) = 40 from fun u => z ((nI_eq (b := 40) (by omega) (by decide)).mp u)), if_neg (by simp; omega)]
    · rw [if_neg (show ¬ nI 2 = 0 by decide), if_neg (show ¬ nI 2 = 1 by decide), if_neg (show ¬ nI 2 = 3 by decide), if_neg (by simp)]
    · rw [if_neg (show ¬ nI 3 = 0 by decide), if_neg (show ¬ nI 3 = 1 by decide), if_pos (show nI 3 = 3 from rfl)]
      by_cases z : tQ B = 4
      · rw [if_pos (show nI (tQ B) = 4 from congrArg nI z), if_pos (by simp; omega)]
      · rw [if_neg (show ¬ nI (tQ B) = 4 from fun u => z ((nI_eq (b := 4) (by omega) (by decide)).mp u)), if_neg (by simp; omega)]
  rw [ek, if_pos (nI_pos' (by omega)), pick, if_neg k4]
  cases hf : full B k with
  | true =>
    rw [if_pos rfl, if_pos rfl]
    exact full_out hf
  | false =>
    rw [if_neg (by decide), if_neg (by decide)]
    unfold f_X11_takeClause_J197
    rw [x20, bV_e]
    have F2 : mF [18] τ1 (sI τ1 1 18 (nI e)) := mF_sI _ _ (by decide)
    have p2 := pM_F F2 (by decide) (mF_1 F2 (by decide)) p1
    have P2 := mP_tr P1 (mP_F F2 (by decide))
    have y18 : gI (sI τ1 1 18 (nI e)) 1 18 = nI e := gI_sI _ _ _ _
    generalize sI τ1 1 18 (nI e) = τ2 at *
    by_cases k0 : k = 0
    · subst k0
      rw [if_pos (show nI 0 = 0 from rfl), if_pos (show (0 : Nat) = 0 from rfl)]
      obtain ⟨τ3, r1, r2, r3, r4⟩ := m_takeNumber (b := 10) p2.1 he y18 (by decide) (mx := 9) (by decide)
      replace r1 : f_X11_takeNumber τ2 0 9 = some (nI (nF w n e 10), τ3) := r1
      replace r3 : nF w n e 10 ≠ 0 → gI τ3 1 17 = nI (nA w n e) := r3
      replace r4 : nF w n e 10 = 0 → gI τ3 1 17 = gI τ2 1 17 ∧ gI τ3 1 18 = nI (nD w n e) ∧ gI τ3 1 21 = nI (nV w n e) ∧ gI τ3 1 22 = nI (nA w n e) := r4
      have le1 := nF_le w n e 10
      rw [r1, bD_e]
      by_cases n1 : nF w n e 10 = 0
      · obtain ⟨u1, u2, u3, u4⟩ := r4 n1
        rw [if_pos n1, n1]
        have p3 := pM_F r2 (by decide) u1 p2
        obtain ⟨τ', x1, x2, x3⟩ := m_J224 (k := 0) p3 (nD_le he) u2 rfl hf (nF_0 n1) u3
        exact ⟨τ', x1, mP_tr (mP_tr P2 (mP_F r2 (by decide))) x2, x3⟩
      · rw [if_neg n1]
        unfold f_X11_takeClause_J224
        rw [if_neg (fun u => n1 ((nI_le0 (by omega)).mp u))]
        exact ⟨_, rfl, mP_tr P2 (mP_F r2 (by decide)), r3 n1⟩
    · rw [if_neg (fun u => k0 ((nI_eq0 (by omega)).mp u)), if_neg k0]
      obtain ⟨τ3, r1, r2, r3, r4⟩ := m_takeTwo p2 g0 k3 he y18
      rw [r1, bD_e]
      have le1 := nF_le w n e (tP B)
      have le2 := nF_le w n (nD w n e) (tP B)
      have P3 := mP_tr P2 (mP_F r2 (by decide))
      have bad : ∀ f at', tF w n B k e = f → f ≠ 0 → f < 5 → tA w n B e = at' → ∃ τ', f_X11_takeClause_J224 τ3 (nI k) (nI (tF w n B k e)) = some (oF (.inl (f, at')), τ') ∧ mP τ τ' ∧ oM τ' n w (.inl (f, at')) := by
        intro f at' hf1 hf0 hf5 ha
        unfold f_X11_takeClause_J224
        rw [hf1, if_neg (fun u => hf0 ((nI_le0 (by omega)).mp u))]
        exact ⟨_, rfl, P3, by rw [← ha]; exact r3 (by omega)⟩
      by_cases n1 : nF w n e (tP B) = 0
      · rw [if_pos n1]
        by_cases n2 : nF w n (nD w n e) (tP B) = 0
        · rw [if_pos n2]
          by_cases za : ag B k (nV w n e) (nV w n (nD w n e)) = true
          · rw [if_pos za]
            exact bad 4 _ (by unfold tF; rw [if_pos n1, if_pos n2, if_pos za]) (by decide) (by decide) (by unfold tA; rw [if_pos n1])
          · rw [if_neg za]
            have t0 : tF w n B k e = 0 := by unfold tF; rw [if_pos n1, if_pos n2, if_neg za]
            obtain ⟨u1, u2, u3, u4⟩ := r4 t0
            have p3 := pM_F r2 (by decide) u1 p2
            obtain ⟨τ', x1, x2, x3⟩ := m_J224p p3 g0 (nD_le (nD_le he)) u2 k3 k0 hf (nF_0 n1) (nF_0 n2) (by cases h : ag B k (nV w n e) (nV w n (nD w n e)) with | true => exact absurd h za | false => rfl) u3 u4
            rw [t0]
            exact ⟨τ', x1, mP_tr P3 x2, x3⟩
        · rw [if_neg n2]
          exact bad _ _ (by unfold tF; rw [if_pos n1, if_neg n2]) n2 (by omega) (by unfold tA; rw [if_pos n1])
      · rw [if_neg n1]
        exact bad _ _ (by unfold tF; rw [if_neg n1]) n1 (by omega) (by unfold tA; rw [if_neg n1])
/-! what a clause adds is good -/
theorem gB_addP {B : Tb} {v : Nat} (g : gB B) (hf : full B 0 = false) (hv : v < 10) : gB (addP B v) := by
  obtain ⟨g1, g2, g3, g4, g5, g6, g7, g8, g9⟩ := g
  obtain ⟨i1, i2, i3, i4, i5, i6, i7⟩ := addP_is B v
  have h16 : tP B < 16 := by
    have : ¬ 16 ≤ tP B := fun e => by unfold full at hf; simp [e] at hf
    omega
  have e3 : ∀ t, addP B v 3 t = B 3 t := fun t => i5 3 t (by decide) (by decide)
  have e4 : ∀ t, addP B v 4 t = B 4 t := fun t => i5 4 t (by decide) (by decide)
  have e6 : ∀ t, addP B v 6 t = B 6 t := fun t => i5 6 t (by decide) (by decide)
  have e7 : ∀ t, addP B v 7 t = B 7 t := fun t => i5 7 t (by decide) (by decide)
  have e8 : ∀ t, addP B v 8 t = B 8 t := fun t => i5 8 t (by decide) (by decide)
  refine ⟨by omega, by omega, by omega, by omega, fun p hp => ?_, fun t ht => ?_, fun t u ht hu a b => ?_, ⟨fun g hg => ?_, fun g h hg hh e => ?_⟩, fun q hq => ?_⟩
  · by_cases z : p = tP B
    · subst z; rw [i6]; omega
    · rw [i7 p z]; exact g5 p (by omega)
  · rw [e3, e4, i1]
    have := g6 t (by omega)
    omega
  · rw [e3, e3] at a
    rw [e4, e4] at b
    exact g7 t u (by omega) (by omega) a b
  · rw [e6, i1]
    have := g8.1 g (by omega)
    omega
  · rw [e6] at e
    refine g8.2 g h (by omega) (by omega) ?_
    unfold bearsAt at e ⊢
    rw [e6] at e; exact e
  · rw [e7, e8, i1]
    have := g9 q (by omega)
    omega
theorem gB_addK {B : Tb} {k a b : Nat} (g : gB B) (hk : k < 4) (hk0 : k ≠ 0) (hf : full B k = false) (ha : a < tP B) (hb : b < tP B) (hag : ag B k a b = false) : gB (addK B k a b) := by
  obtain ⟨g1, g2, g3, g4, g5, g6, g7, g8, g9⟩ := g
  have hab : a ≠ b := fun e => by unfold ag at hag; simp [e] at hag
  have hk3 : k = 1 ∨ k = 2 ∨ k = 3 := by omega
  unfold addK
  rcases hk3 with rfl | rfl | rfl
  · obtain ⟨i1, i2, i3, i4, i5, i6, i7⟩ := addT_is B a b
    have h40 : tT B < 40 := by
      have : ¬ 40 ≤ tT B := fun e => by unfold full at hf; simp [e] at hf
      omega
    have no : owes B b a = false := by
      cases h : owes B b a with
      | false => rfl
      | true => unfold ag at hag; simp [h] at hag
    have no2 : ∀ t, t < tT B → ¬ (B 3 t = a ∧ B 4 t = b) := fun t ht e => by
      have : owes B b a = true := owes_iff.mpr ⟨t, ht, e.1, e.2⟩
      rw [no] at this; cases this
    have e2 : ∀ t, addT B a b 2 t = B 2 t := fun t => i5 2 t (by decide) (by decide) (by decide)
    have e6 : ∀ t, addT B a b 6 t = B 6 t := fun t => i5 6 t (by decide) (by decide) (by decide)
    have e7 : ∀ t, addT B a b 7 t = B 7 t := fun t => i5 7 t (by decide) (by decide) (by decide)
    have e8 : ∀ t, addT B a b 8 t = B 8 t := fun t => i5 8 t (by decide) (by decide) (by decide)
    rw [if_neg (by decide), if_pos rfl]
    refine ⟨by omega, by omega, by omega, by omega, fun p hp => ?_, fun t ht => ?_, fun t u ht hu x y => ?_, ⟨fun g hg => ?_, fun g h hg hh e => ?_⟩, fun q hq => ?_⟩
    · rw [e2]; exact g5 p (by omega)
    · rw [i1]
      by_cases z : t = tT B
      · subst z; rw [i6.1, i6.2]; exact ⟨ha, hb, hab⟩
      · rw [(i7 t z).1, (i7 t z).2]; exact g6 t (by omega)
    · by_cases z : t = tT B <;> by_cases z2 : u = tT B
      · omega
      · subst z
        rw [i6.1, (i7 u z2).1] at x
        rw [i6.2, (i7 u z2).2] at y
        exact absurd ⟨x.symm, y.symm⟩ (no2 u (by omega))
      · subst z2
        rw [i6.1, (i7 t z).1] at x
        rw [i6.2, (i7 t z).2] at y
        exact absurd ⟨x, y⟩ (no2 t (by omega))
      · rw [(i7 t z).1, (i7 u z2).1] at x
        rw [(i7 t z).2, (i7 u z2).2] at y
        exact g7 t u (by omega) (by omega) x y
    · rw [e6, i1]; exact g8.1 g (by omega)
    · rw [e6] at e
      refine g8.2 g h (by omega) (by omega) ?_
      unfold bearsAt at e ⊢
      rw [e6] at e; exact e
    · rw [e7, e8, i1]; exact g9 q (by omega)
  · obtain ⟨i1, i2, i3, i4, i5, i6, i7⟩ := addG_is B a b
    have nb : bears B a b = false := by
      cases h : bears B a b with
      | false => rfl
      | true => unfold ag at hag; simp [h] at hag
    have r := room g8 g1 ha hb hab nb
    have t1 := (add_tab (B := addG B a b) g8 g1 i1 i3 ha hb hab (fun g hg => i7 g (by omega)) i6 nb).1
    have e2 : ∀ t, addG B a b 2 t = B 2 t := fun t => i5 2 t (by decide) (by decide)
    have e3 : ∀ t, addG B a b 3 t = B 3 t := fun t => i5 3 t (by decide) (by decide)
    have e4 : ∀ t, addG B a b 4 t = B 4 t := fun t => i5 4 t (by decide) (by decide)
    have e7 : ∀ t, addG B a b 7 t = B 7 t := fun t => i5 7 t (by decide) (by decide)
    have e8 : ∀ t, addG B a b 8 t = B 8 t := fun t => i5 8 t (by decide) (by decide)
    rw [if_pos rfl]
    refine ⟨by omega, by omega, by omega, by omega, fun p hp => ?_, fun t ht => ?_, fun t u ht hu x y => ?_, t1, fun q hq => ?_⟩
    · rw [e2]; exact g5 p (by omega)
    · rw [e3, e4, i1]; exact g6 t (by omega)
    · rw [e3, e3] at x
      rw [e4, e4] at y
      exact g7 t u (by omega) (by omega) x y
    · rw [e7, e8, i1]; exact g9 q (by omega)
  · obtain ⟨i1, i2, i3, i4, i5, i6, i7⟩ := addU_is B a b
    have h40 : tQ B < 4 := by
      have : ¬ 4 ≤ tQ B := fun e => by unfold full at hf; simp [e] at hf
      omega
    have e2 : ∀ t, addU B a b 2 t = B 2 t := fun t => i5 2 t (by decide) (by decide) (by decide)
    have e3 : ∀ t, addU B a b 3 t = B 3 t := fun t => i5 3 t (by decide) (by decide) (by decide)
    have e4 : ∀ t, addU B a b 4 t = B 4 t := fun t => i5 4 t (by decide) (by decide) (by decide)
    have e6 : ∀ t, addU B a b 6 t = B 6 t := fun t => i5 6 t (by decide) (by decide) (by decide)
    rw [if_neg (by decide), if_neg (by decide)]
    refine ⟨by omega, by omega, by omega, by omega, fun p hp => ?_, fun t ht => ?_, fun t u ht hu x y => ?_, ⟨fun g hg => ?_, fun g h hg hh e => ?_⟩, fun q hq => ?_⟩
    · rw [e2]; exact g5 p (by omega)
    · rw [e3, e4, i1]; exact g6 t (by omega)
    · rw [e3, e3] at x
      rw [e4, e4] at y
      exact g7 t u (by omega) (by omega) x y
    · rw [e6, i1]; exact g8.1 g (by omega)
    · rw [e6] at e
      refine g8.2 g h (by omega) (by omega) ?_
      unfold bearsAt at e ⊢
      rw [e6] at e; exact e
    · rw [i1]
      by_cases z : q = tQ B
      · subst z; rw [i6.1, i6.2]; exact ⟨ha, hb, hab⟩
      · rw [(i7 q z).1, (i7 q z).2]; exact g9 q (by omega)
theorem cOut_good {w : Nat → Nat} {n q : Nat} {B : Tb} (g : gB B) (hq : q ≤ n) : (∃ f a, cOut w n B q (ex (lt w) n q) = .inl (f, a) ∧ 0 < f ∧ f < 5 ∧ a ≤ n) ∨ ∃ B2 q2, cOut w n B q (ex (lt w) n q) = .inr (B2, q2) ∧ gB B2 ∧ q < q2 ∧ q2 ≤ n := by
  have he := ex_le (lt w) hq
  have hge := ex_ge (lt w) n q
  have kl := kd_le w q (ex (lt w) n q)
  unfold cOut
  generalize kd w q (ex (lt w) n q) = k at *
  generalize ex (lt w) n q = e at *
  have nAl : ∀ p, p ≤ n → nA w n p ≤ n := fun p hp => ex_le _ hp
  have nDg : ∀ p, p ≤ nD w n p := fun p => Nat.le_trans (ex_ge _ _ _) (ex_ge _ _ _)
  have fin : ∀ B2 d, gB B2 → q ≤ d → d ≤ n → (∃ f a, cFin w n B2 d = .inl (f, a) ∧ 0 < f ∧ f < 5 ∧ a ≤ n) ∨ ∃ B3 q2, cFin w n B2 d = .inr (B3, q2) ∧ gB B3 ∧ q < q2 ∧ q2 ≤ n := by
    intro B2 d g2 h1 h2
    have := ex_ge (bl w) n d
    have := ex_le (bl w) h2
    rw [oFin]
    by_cases z : ex (bl w) n d < n ∧ w (ex (bl w) n d) = 59
    · rw [if_pos z]; exact Or.inr ⟨_, _, rfl, g2, by omega, by omega⟩
    · rw [if_neg z]; exact Or.inl ⟨_, _, rfl, by decide, by decide, by omega⟩
  by_cases k4 : k = 4
  · rw [if_pos k4]; exact Or.inl ⟨_, _, rfl, by decide, by decide, hq⟩
  rw [if_neg k4]
  cases hf : full B k with
  | true => rw [if_pos rfl]; exact Or.inl ⟨_, _, rfl, by decide, by decide, hq⟩
  | false =>
    rw [if_neg (by decide)]
    by_cases k0 : k = 0
    · subst k0
      rw [if_pos rfl]
      have le1 := nF_le w n e 10
      by_cases n1 : nF w n e 10 = 0
      · rw [if_pos n1]
        exact fin _ _ (gB_addP g hf (nF_0 n1)) (Nat.le_trans hge (nDg e)) (nD_le he)
      · rw [if_neg n1]; exact Or.inl ⟨_, _, rfl, by omega, by omega, nAl e he⟩
    · rw [if_neg k0]
      have le1 := nF_le w n e (tP B)
      have le2 := nF_le w n (nD w n e) (tP B)
      by_cases n1 : nF w n e (tP B) = 0
      · rw [if_pos n1]
        by_cases n2 : nF w n (nD w n e) (tP B) = 0
        · rw [if_pos n2]
          cases za : ag B k (nV w n e) (nV w n (nD w n e)) with
          | true => rw [if_pos rfl]; exact Or.inl ⟨_, _, rfl, by decide, by decide, nAl _ (nD_le he)⟩
          | false =>
            rw [if_neg (by decide)]
            exact fin _ _ (gB_addK g (by omega) k0 hf (nF_0 n1) (nF_0 n2) za) (Nat.le_trans hge (Nat.le_trans (nDg e) (nDg _))) (nD_le (nD_le he))
        · rw [if_neg n2]; exact Or.inl ⟨_, _, rfl, by omega, by omega, nAl _ (nD_le he)⟩
      · rw [if_neg n1]; exact Or.inl ⟨_, _, rfl, by omega, by omega, nAl e he⟩
