/-! the reference takes a town -/
def tk (τ : jS) (B : Tb) : Prop := (gI τ 1 2 = nI (tT B) ∧ gI τ 1 6 = nI (tG B) ∧ gI τ 1 8 = nI (tQ B)) ∧ (∀ t, t < tT B → gI τ 13 t = nI (B 3 t) ∧ gI τ 14 t = nI (B 4 t)) ∧ (∀ g, g < tG B → gI τ 15 g = nI (B 6 g)) ∧ ∀ q, q < tQ B → gI τ 16 q = nI (B 7 q) ∧ gI τ 17 q = nI (B 8 q)
theorem tk_fr {H : List Nat} {τ τ' : jS} {B : Tb} (f : fr H τ τ') (d : [1, 13, 14, 15, 16, 17].all (fun a => !H.contains a) = true) (h : tk τ B) : tk τ' B := by
  have k : ∀ a, a ∈ [1, 13, 14, 15, 16, 17] → a ∉ H := fun a ha q => by
    have := List.all_eq_true.mp d a ha
    simp [q] at this
  obtain ⟨⟨a1, a2, a3⟩, b, c, e⟩ := h
  refine ⟨⟨(fr_I f (k 1 (by decide)) _).trans a1, (fr_I f (k 1 (by decide)) _).trans a2, (fr_I f (k 1 (by decide)) _).trans a3⟩, fun t ht => ?_, fun g hg => ?_, fun q hq => ?_⟩
  · rw [fr_I f (k 13 (by decide)), fr_I f (k 14 (by decide))]; exact b t ht
  · rw [fr_I f (k 15 (by decide))]; exact c g hg
  · rw [fr_I f (k 16 (by decide)), fr_I f (k 17 (by decide))]; exact e q hq
def tkEnd (τ τ' : jS) : Prop := fr [1, 7, 8, 9, 10, 41] τ τ' ∧ (∀ i, i ≠ 56 → i ≠ 59 → gI τ' 1 i = gI τ 1 i) ∧ gI τ' 1 56 = 0 ∧ gI τ' 1 59 = 0 ∧ gI τ' 41 0 = 0 ∧ gI τ' 41 1 = 0
theorem tk_4 {τ : jS} {B : Tb} (h : tk τ B) (g : gB B) : ∃ τ', f_X11_takeTown_J155 τ = some ((), τ') ∧ tkEnd τ τ' ∧ ∀ q, q < tQ B → gI τ' 7 q = nI (B 7 q) ∧ gI τ' 8 q = nI (B 8 q) ∧ gI τ' 9 q = nI (mkc (B 7 q) (B 8 q) 0 0 0) ∧ gI τ' 10 q = 0 := by
  obtain ⟨g1, g2, g3, g4, g5, g6, g7, g8, g9⟩ := g
  unfold f_X11_takeTown_J155
  have key := jloop_ex (S := Int32 × jS) (O := Unit × jS) (f := fun s => f_X11_takeTown_B157 s.2 s.1) (fun i s => s.1 = nI i ∧ fr [7, 8, 9, 10] τ s.2 ∧ ∀ q, q < i → gI s.2 7 q = nI (B 7 q) ∧ gI s.2 8 q = nI (B 8 q) ∧ gI s.2 9 q = nI (mkc (B 7 q) (B 8 q) 0 0 0) ∧ gI s.2 10 q = 0) (tQ B) (fun o => tkEnd τ o.2 ∧ ∀ q, q < tQ B → gI o.2 7 q = nI (B 7 q) ∧ gI o.2 8 q = nI (B 8 q) ∧ gI o.2 9 q = nI (mkc (B 7 q) (B 8 q) 0 0 0) ∧ gI o.2 10 q = 0) (s0 := (0, τ)) ⟨rfl, fr_rfl _ _, fun q hq => absurd hq (Nat.not_lt_zero q)⟩ (jfuel_big (by omega)) ?_ ?_
  · obtain ⟨o, e1, e2⟩ := key
    exact ⟨o.2, e1, e2⟩
  · rintro ⟨a, s⟩ ⟨rfl, f, hh⟩
    replace f : fr [7, 8, 9, 10] τ s := f
    have k := tk_fr f rfl h
    refine ⟨((), sI (sI (sI (sI s 1 56 0) 1 59 0) 41 0 0) 41 1 0), ?_, ⟨?_, fun i h1 h2 => ?_, ?_, ?_, ?_, ?_⟩, fun q hq => ?_⟩
    · show f_X11_takeTown_B157 s (nI (tQ B)) = _
      unfold f_X11_takeTown_B157 f_X11_takeTown_J213
      rw [k.1.2.2, if_pos (Int32.le_refl _), bV_e, bV_e, bG_t (show jin 0 2 = true from jin_nI (n := 0) (N := 2) (by decide) (by decide)), bV_e, bG_t (show jin 1 2 = true from jin_nI (n := 1) (N := 2) (by decide) (by decide)), bV_e, jw_e]
      rfl
    · exact fr_trans (fr_mono f (by decide)) (fr_trans (fr_trans (fr_trans (fr_sI _ _ _ (by decide)) (fr_sI _ _ _ (by decide))) (fr_sI _ _ _ (by decide))) (fr_sI _ _ _ (by decide)))
    · show gI (sI (sI (sI (sI s 1 56 0) 1 59 0) 41 0 0) 41 1 0) 1 i = _
      rw [gI_ne (by decide), gI_ne (by decide), gI_nei h2, gI_nei h1, fr_I f (by decide)]
    · show gI (sI (sI (sI (sI s 1 56 0) 1 59 0) 41 0 0) 41 1 0) 1 56 = _
      rw [gI_ne (by decide), gI_ne (by decide), gI_nei (by decide), gI_sI]
    · show gI (sI (sI (sI (sI s 1 56 0) 1 59 0) 41 0 0) 41 1 0) 1 59 = _
      rw [gI_ne (by decide), gI_ne (by decide), gI_sI]
    · show gI (sI (sI (sI (sI s 1 56 0) 1 59 0) 41 0 0) 41 1 0) 41 0 = _
      rw [gI_nei (by decide), gI_sI]
    · show gI (sI (sI (sI (sI s 1 56 0) 1 59 0) 41 0 0) 41 1 0) 41 1 = _
      rw [gI_sI]
    · have o : ∀ a, a ≠ 1 → a ≠ 41 → gI (sI (sI (sI (sI s 1 56 0) 1 59 0) 41 0 0) 41 1 0) a q = gI s a q := fun a h1 h2 => (gI_ne h2).trans ((gI_ne h2).trans ((gI_ne h1).trans (gI_ne h1)))
      show gI (sI (sI (sI (sI s 1 56 0) 1 59 0) 41 0 0) 41 1 0) 7 q = _ ∧ gI (sI (sI (sI (sI s 1 56 0) 1 59 0) 41 0 0) 41 1 0) 8 q = _ ∧ gI (sI (sI (sI (sI s 1 56 0) 1 59 0) 41 0 0) 41 1 0) 9 q = _ ∧ gI (sI (sI (sI (sI s 1 56 0) 1 59 0) 41 0 0) 41 1 0) 10 q = _
      rw [o 7 (by decide) (by decide), o 8 (by decide) (by decide), o 9 (by decide) (by decide), o 10 (by decide) (by decide)]
      exact hh q hq
  · rintro i ⟨a, s⟩ hi ⟨rfl, f, hh⟩
    replace f : fr [7, 8, 9, 10] τ s := f
    have k := tk_fr f rfl h
    have j4 : jin (nI i) 4 = true := jin_nI (by omega) (by omega)
    obtain ⟨k1, k2⟩ := k.2.2.2 i hi
    have mc := m_code (a := B 7 i) (b := B 8 i) (s := 0) (x := 0) (y := 0)
    rw [show (nI 0 - 1 : Int32) = -1 from by decide] at mc
    refine Or.inl ⟨(nI (i + 1), sI (sI (sI (sI s 7 i (nI (B 7 i))) 8 i (nI (B 8 i))) 9 i (nI (mkc (B 7 i) (B 8 i) 0 0 0))) 10 i 0), ?_, rfl, ?_, fun q hq => ?_⟩
    · show f_X11_takeTown_B157 s (nI i) = _
      unfold f_X11_takeTown_B157 f_X11_toldCode
      rw [k.1.2.2, if_neg (nI_ge hi (by omega)), bG_t j4, bG_t j4, bV_e, bG_t j4, bG_t j4, ix_nI (by omega), k1, bV_e, bG_t j4, bG_t j4, gI_ne (show (17 : Nat) ≠ 7 by decide), k2, gI_ne (show (7 : Nat) ≠ 8 by decide), gI_sI, gI_sI, show f_X11_code (nI (B 7 i)) (nI (B 8 i)) 0 (-1) (-1) = some (nI (mkc (B 7 i) (B 8 i) 0 0 0)) from mc, bC_e, bC_e, bG_t j4, bV_e, bG_t j4, bV_e, bV_e, nI_1]
    · exact fr_trans f (fr_trans (fr_trans (fr_trans (fr_sI _ _ _ (by decide)) (fr_sI _ _ _ (by decide))) (fr_sI _ _ _ (by decide))) (fr_sI _ _ _ (by decide)))
    · show gI (sI (sI (sI (sI s 7 i _) 8 i _) 9 i _) 10 i 0) 7 q = _ ∧ gI (sI (sI (sI (sI s 7 i _) 8 i _) 9 i _) 10 i 0) 8 q = _ ∧ gI (sI (sI (sI (sI s 7 i _) 8 i _) 9 i _) 10 i 0) 9 q = _ ∧ gI (sI (sI (sI (sI s 7 i _) 8 i _) 9 i _) 10 i 0) 10 q = _
      rw [gI_ne (show (7 : Nat) ≠ 10 by decide), gI_ne (show (7 : Nat) ≠ 9 by decide), gI_ne (show (7 : Nat) ≠ 8 by decide), gI_ne (show (8 : Nat) ≠ 10 by decide), gI_ne (show (8 : Nat) ≠ 9 by decide), gI_ne (show (9 : Nat) ≠ 10 by decide)]
      by_cases z : q = i
      · subst z
        exact ⟨gI_sI _ _ _ _, gI_sI _ _ _ _, gI_sI _ _ _ _, gI_sI _ _ _ _⟩
      · obtain ⟨u1, u2, u3, u4⟩ := hh q (by omega)
        exact ⟨(gI_nei z).trans u1, ((gI_nei z).trans (gI_ne (by decide))).trans u2, ((gI_nei z).trans ((gI_ne (by decide)).trans (gI_ne (by decide)))).trans u3, ((gI_nei z).trans ((gI_ne (by decide)).trans ((gI_ne (by decide)).trans (gI_ne (by decide))))).trans u4⟩
theorem tk_3 {τ : jS} {B : Tb} (h : tk τ B) (g : gB B) : ∃ τ1 τ', f_X11_takeTown_J127 τ = some ((), τ') ∧ fr [6] τ τ1 ∧ (∀ i, i < tG B → gI τ1 6 i = nI (B 6 i)) ∧ tkEnd τ1 τ' ∧ ∀ q, q < tQ B → gI τ' 7 q = nI (B 7 q) ∧ gI τ' 8 q = nI (B 8 q) ∧ gI τ' 9 q = nI (mkc (B 7 q) (B 8 q) 0 0 0) ∧ gI τ' 10 q = 0 := by
  have g0 := g
  obtain ⟨g1, g2, g3, _⟩ := g
  unfold f_X11_takeTown_J127
  have key := jloop_ex (S := Int32 × jS) (O := Unit × jS) (f := fun s => f_X11_takeTown_B129 s.2 s.1) (fun i s => s.1 = nI i ∧ fr [6] τ s.2 ∧ ∀ q, q < i → gI s.2 6 q = nI (B 6 q)) (tG B) (fun o => ∃ τ1, fr [6] τ τ1 ∧ (∀ i, i < tG B → gI τ1 6 i = nI (B 6 i)) ∧ tkEnd τ1 o.2 ∧ ∀ q, q < tQ B → gI o.2 7 q = nI (B 7 q) ∧ gI o.2 8 q = nI (B 8 q) ∧ gI o.2 9 q = nI (mkc (B 7 q) (B 8 q) 0 0 0) ∧ gI o.2 10 q = 0) (s0 := (0, τ)) ⟨rfl, fr_rfl _ _, fun q hq => absurd hq (Nat.not_lt_zero q)⟩ (jfuel_big (by omega)) ?_ ?_
  · obtain ⟨o, e1, τ1, e2⟩ := key
    exact ⟨τ1, o.2, e1, e2⟩
  · rintro ⟨a, s⟩ ⟨rfl, f, hh⟩
    replace f : fr [6] τ s := f
    obtain ⟨τ', x1, x2, x3⟩ := tk_4 (tk_fr f rfl h) g0
    refine ⟨((), τ'), ?_, s, f, hh, x2, x3⟩
    show f_X11_takeTown_B129 s (nI (tG B)) = _
    unfold f_X11_takeTown_B129
    rw [(tk_fr f rfl h).1.2.1, if_pos (Int32.le_refl _), x1, jw_e]
  · rintro i ⟨a, s⟩ hi ⟨rfl, f, hh⟩
    replace f : fr [6] τ s := f
    have k := tk_fr f rfl h
    have j4 : jin (nI i) 120 = true := jin_nI (by omega) (by omega)
    refine Or.inl ⟨(nI (i + 1), sI s 6 i (nI (B 6 i))), ?_, rfl, fr_trans f (fr_sI _ _ _ (by decide)), fun q hq => ?_⟩
    · show f_X11_takeTown_B129 s (nI i) = _
      unfold f_X11_takeTown_B129
      rw [k.1.2.1, if_neg (nI_ge hi (by omega)), bG_t j4, bG_t j4, ix_nI (by omega), k.2.2.1 i hi, bV_e, bV_e, nI_1]
    · show gI (sI s 6 i _) 6 q = _
      by_cases z : q = i
      · subst z; exact gI_sI _ _ _ _
      · rw [gI_nei z]; exact hh q (by omega)
def tkRes (B : Tb) (τ τ' : jS) : Prop := fr [1, 2, 3, 4, 5, 6, 7, 8, 9, 10, 41] τ τ' ∧ (∀ i, i ≠ 0 → i ≠ 2 → i ≠ 6 → i ≠ 8 → i ≠ 56 → i ≠ 59 → gI τ' 1 i = gI τ 1 i) ∧ gI τ' 1 56 = 0 ∧ gI τ' 1 59 = 0 ∧ gI τ' 41 0 = 0 ∧ gI τ' 41 1 = 0 ∧ (gI τ' 1 0 = nI (tP B) ∧ gI τ' 1 2 = nI (tT B) ∧ gI τ' 1 6 = nI (tG B) ∧ gI τ' 1 8 = nI (tQ B)) ∧ (∀ p, p < 16 → gI τ' 2 p = gI τ 12 p ∧ gI τ' 5 p = nI (bm (owes B p) 16)) ∧ (∀ t, t < tT B → gI τ' 3 t = nI (B 3 t) ∧ gI τ' 4 t = nI (B 4 t)) ∧ (∀ g, g < tG B → gI τ' 6 g = nI (B 6 g)) ∧ ∀ q, q < tQ B → gI τ' 7 q = nI (B 7 q) ∧ gI τ' 8 q = nI (B 8 q) ∧ gI τ' 9 q = nI (mkc (B 7 q) (B 8 q) 0 0 0) ∧ gI τ' 10 q = 0
theorem tk_2 {τ : jS} {B : Tb} (h : tk τ B) (g : gB B) (h5 : ∀ p, p < 16 → gI τ 5 p = 0) : ∃ τ1 τ2 τ', f_X11_takeTown_J65 τ = some ((), τ') ∧ fr [3, 4, 5] τ τ1 ∧ (∀ t, t < tT B → gI τ1 3 t = nI (B 3 t) ∧ gI τ1 4 t = nI (B 4 t)) ∧ (∀ p, p < 16 → gI τ1 5 p = nI (bm (owes B p) 16)) ∧ fr [6] τ1 τ2 ∧ (∀ i, i < tG B → gI τ2 6 i = nI (B 6 i)) ∧ tkEnd τ2 τ' ∧ ∀ q, q < tQ B → gI τ' 7 q = nI (B 7 q) ∧ gI τ' 8 q = nI (B 8 q) ∧ gI τ' 9 q = nI (mkc (B 7 q) (B 8 q) 0 0 0) ∧ gI τ' 10 q = 0 := by
  have g0 := g
  obtain ⟨g1, g2, g3, g4, g5, g6, _⟩ := g
  unfold f_X11_takeTown_J65
  have key := jloop_ex (S := Int32 × jS) (O := Unit × jS) (f := fun s => f_X11_takeTown_B67 s.2 s.1) (fun i s => s.1 = nI i ∧ fr [3, 4, 5] τ s.2 ∧ (∀ q, q < i → gI s.2 3 q = nI (B 3 q) ∧ gI s.2 4 q = nI (B 4 q)) ∧ ∀ p, p < 16 → gI s.2 5 p = nI (bm (fun q => bex i fun t => B 3 t == q && B 4 t == p) 16)) (tT B) (fun o => ∃ τ1 τ2, fr [3, 4, 5] τ τ1 ∧ (∀ t, t < tT B → gI τ1 3 t = nI (B 3 t) ∧ gI τ1 4 t = nI (B 4 t)) ∧ (∀ p, p < 16 → gI τ1 5 p = nI (bm (owes B p) 16)) ∧ fr [6] τ1 τ2 ∧ (∀ i, i < tG B → gI τ2 6 i = nI (B 6 i)) ∧ tkEnd τ2 o.2 ∧ ∀ q, q < tQ B → gI o.2 7 q = nI (B 7 q) ∧ gI o.2 8 q = nI (B 8 q) ∧ gI o.2 9 q = nI (mkc (B 7 q) (B 8 q) 0 0 0) ∧ gI o.2 10 q = 0) (s0 := (0, τ)) ⟨rfl, fr_rfl _ _, fun q hq => absurd hq (Nat.not_lt_zero q), fun p hp => (h5 p hp).trans (nbm0 fun _ => rfl).symm⟩ (jfuel_big (by omega)) ?_ ?_
  · obtain ⟨o, e1, τ1, τ2, e2⟩ := key
    exact ⟨τ1, τ2, o.2, e1, e2⟩
  · rintro ⟨a, s⟩ ⟨rfl, f, hh, h5'⟩
    replace f : fr [3, 4, 5] τ s := f
    obtain ⟨τ1, τ', x1, x2⟩ := tk_3 (tk_fr f rfl h) g0
    refine ⟨((), τ'), ?_, s, τ1, f, hh, h5', x2⟩
    show f_X11_takeTown_B67 s (nI (tT B)) = _
    unfold f_X11_takeTown_B67
    rw [(tk_fr f rfl h).1.1, if_pos (Int32.le_refl _), x1, jw_e]
  · rintro i ⟨a, s⟩ hi ⟨rfl, f, hh, h5'⟩
    replace f : fr [3, 4, 5] τ s := f
    replace h5' : ∀ p, p < 16 → gI s 5 p = nI (bm (fun q => bex i fun t => B 3 t == q && B 4 t == p) 16) := h5'
    have k := tk_fr f rfl h
    have j4 : jin (nI i) 40 = true := jin_nI (by omega) (by omega)
    obtain ⟨u1, u2, u3⟩ := g6 i hi
    have j16 : jin (nI (B 4 i)) 16 = true := jin_nI (by omega) (by omega)
    obtain ⟨k1, k2⟩ := k.2.1 i hi
    refine Or.inl ⟨(nI (i + 1), sI (sI (sI s 3 i (nI (B 3 i))) 4 i (nI (B 4 i))) 5 (B 4 i) (nI (bm (fun q => (bex i fun t => B 3 t == q && B 4 t == B 4 i) || q == B 3 i) 16))), ?_, rfl, ?_, fun q hq => ?_, fun p hp => ?_⟩
    · show f_X11_takeTown_B67 s (nI i) = _
      unfold f_X11_takeTown_B67
      rw [k.1.1, if_neg (nI_ge hi (by omega)), bG_t j4, bG_t j4, ix_nI (by omega), k1, bV_e, bG_t j4, bG_t j4, gI_ne (show (14 : Nat) ≠ 3 by decide), k2, bV_e, bG_t j4, gI_sI, bV_e, bG_t j16, bG_t j4, bG_t j16, ix_nI (by omega), gI_ne (show (5 : Nat) ≠ 4 by decide), gI_ne (show (5 : Nat) ≠ 3 by decide), gI_ne (show (3 : Nat) ≠ 4 by decide), gI_sI, h5' _ (by omega), nI_or1 _ (by omega), bV_e, bV_e, nI_1]
    · exact fr_trans f (fr_trans (fr_trans (fr_sI _ _ _ (by decide)) (fr_sI _ _ _ (by decide))) (fr_sI _ _ _ (by decide)))
    · show gI (sI (sI (sI s 3 i _) 4 i _) 5 _ _) 3 q = _ ∧ gI (sI (sI (sI s 3 i _) 4 i _) 5 _ _) 4 q = _
      rw [gI_ne (show (3 : Nat) ≠ 5 by decide), gI_ne (show (3 : Nat) ≠ 4 by decide), gI_ne (show (4 : Nat) ≠ 5 by decide)]
      by_cases z : q = i
      · subst z; exact ⟨gI_sI _ _ _ _, gI_sI _ _ _ _⟩
      · obtain ⟨v1, v2⟩ := hh q (by omega)
        exact ⟨(gI_nei z).trans v1, ((gI_nei z).trans (gI_ne (by decide))).trans v2⟩
    · show gI (sI (sI (sI s 3 i _) 4 i _) 5 _ _) 5 p = _
      by_cases z : p = B 4 i
      · subst z
        rw [gI_sI]
        refine congrArg nI (bm_cong fun q _ => ?_)
        rw [bex_succ]
        have : (q == B 3 i) = (B 3 i == q) := by
          apply bool_iff; simp; exact ⟨fun e => e.symm, fun e => e.symm⟩
        simp [this]
      · rw [gI_nei z, gI_ne (show (5 : Nat) ≠ 4 by decide), gI_ne (show (5 : Nat) ≠ 3 by decide), h5' p hp]
        refine congrArg nI (bm_cong fun q _ => ?_)
        rw [bex_succ, beq_eq_false_iff_ne.mpr (fun e : B 4 i = p => z e.symm), Bool.and_false, Bool.or_false]
theorem m_takeTown {τ : jS} {n : Nat} {w : Nat → Nat} {B : Tb} (p : pM τ n w B) (g : gB B) : ∃ τ', f_X11_takeTown τ = some ((), τ') ∧ tkRes B τ τ' := by
  have g0 := g
  obtain ⟨g1, g2, g3, g4, _⟩ := g
  obtain ⟨t, e17, ⟨a1, a2, a3, a4⟩, b1, c1, e1, f1⟩ := p
  unfold f_X11_takeTown
  rw [bV_e, gI_nei (show (25 : Nat) ≠ 0 by decide), bV_e, gI_nei (show (28 : Nat) ≠ 2 by decide), gI_nei (show (28 : Nat) ≠ 0 by decide), bV_e, gI_nei (show (30 : Nat) ≠ 6 by decide), gI_nei (show (30 : Nat) ≠ 2 by decide), gI_nei (show (30 : Nat) ≠ 0 by decide), bV_e, a1, a2, a3, a4]
  generalize es : sI (sI (sI (sI τ 1 0 (nI (tP B))) 1 2 (nI (tT B))) 1 6 (nI (tG B))) 1 8 (nI (tQ B)) = s0
  have f0 : fr [1] τ s0 := by
    rw [← es]
    exact fr_trans (fr_trans (fr_trans (fr_sI _ _ _ (by decide)) (fr_sI _ _ _ (by decide))) (fr_sI _ _ _ (by decide))) (fr_sI _ _ _ (by decide))
  have v0 : gI s0 1 0 = nI (tP B) := by rw [← es, gI_nei (by decide), gI_nei (by decide), gI_nei (by decide), gI_sI]
  have v2 : gI s0 1 2 = nI (tT B) := by rw [← es, gI_nei (by decide), gI_nei (by decide), gI_sI]
  have v6 : gI s0 1 6 = nI (tG B) := by rw [← es, gI_nei (by decide), gI_sI]
  have v8 : gI s0 1 8 = nI (tQ B) := by rw [← es, gI_sI]
  have vo : ∀ i, i ≠ 0 → i ≠ 2 → i ≠ 6 → i ≠ 8 → gI s0 1 i = gI τ 1 i := fun i h0 h2 h6 h8 => by rw [← es, gI_nei h8, gI_nei h6, gI_nei h2, gI_nei h0]
  have k0 : tk s0 B := by
    refine ⟨⟨v2, v6, v8⟩, fun t ht => ?_, fun g hg => ?_, fun q hq => ?_⟩
    · rw [fr_I f0 (by decide), fr_I f0 (by decide)]; exact c1 t ht
    · rw [fr_I f0 (by decide)]; exact e1 g hg
    · rw [fr_I f0 (by decide), fr_I f0 (by decide)]; exact f1 q hq
  have key := jloop_ex (S := Int32 × jS) (O := Unit × jS) (f := fun s => f_X11_takeTown_B34 s.2 s.1) (fun i s => s.1 = nI i ∧ fr [2, 5] s0 s.2 ∧ ∀ p, p < i → gI s.2 2 p = gI τ 12 p ∧ gI s.2 5 p = 0) 16 (fun o => tkRes B τ o.2) (s0 := (0, s0)) ⟨rfl, fr_rfl _ _, fun q hq => absurd hq (Nat.not_lt_zero q)⟩ (jfuel_big (by omega)) ?_ ?_
  · obtain ⟨o, e1, e2⟩ := key
    exact ⟨o.2, e1, e2⟩
  · rintro ⟨a, s⟩ ⟨rfl, f, hh⟩
    replace f : fr [2, 5] s0 s := f
    replace hh : ∀ p, p < 16 → gI s 2 p = gI τ 12 p ∧ gI s 5 p = 0 := hh
    obtain ⟨τ1, τ2, τ', x1, x2, x3, x4, x5, x6, ⟨y1, y2, y3, y4, y5, y6⟩, x8⟩ := tk_2 (tk_fr f rfl k0) g0 (fun p hp => (hh p hp).2)
    have one : ∀ i, i ≠ 56 → i ≠ 59 → gI τ' 1 i = gI s0 1 i := fun i h1 h2 => by rw [y2 i h1 h2, fr_I x5 (by decide), fr_I x2 (by decide), fr_I f (by decide)]
    refine ⟨((), τ'), ?_, ?_, fun i h0 h2 h6 h8 h56 h59 => ?_, y3, y4, y5, y6, ⟨?_, ?_, ?_, ?_⟩, fun p hp => ⟨?_, ?_⟩, fun t ht => ?_, fun u hu => ?_, x8⟩
    · show f_X11_takeTown_B34 s (nI 16) = _
      unfold f_X11_takeTown_B34
      rw [if_pos (show (16 : Int32) ≤ nI 16 from Int32.le_refl _), x1, jw_e]
    · exact fr_trans (fr_trans (fr_trans (fr_trans (fr_mono f0 (by decide)) (fr_mono f (by decide))) (fr_mono x2 (by decide))) (fr_mono x5 (by decide))) (fr_mono y1 (by decide))
    · exact (one i h56 h59).trans (vo i h0 h2 h6 h8)
    · exact (one 0 (by decide) (by decide)).trans v0
    · exact (one 2 (by decide) (by decide)).trans v2
    · exact (one 6 (by decide) (by decide)).trans v6
    · exact (one 8 (by decide) (by decide)).trans v8
    · exact (((fr_I y1 (by decide) p).trans (fr_I x5 (by decide) p)).trans (fr_I x2 (by decide) p)).trans (hh p hp).1
    · exact ((fr_I y1 (by decide) p).trans (fr_I x5 (by decide) p)).trans (x4 p hp)
    · exact ⟨((fr_I y1 (by decide) t).trans (fr_I x5 (by decide) t)).trans (x3 t ht).1, ((fr_I y1 (by decide) t).trans (fr_I x5 (by decide) t)).trans (x3 t ht).2⟩
    · exact (fr_I y1 (by decide) u).trans (x6 u hu)
  · rintro i ⟨a, s⟩ hi ⟨rfl, f, hh⟩
    replace f : fr [2, 5] s0 s := f
    have j16 : jin (nI i) 16 = true := jin_nI hi (by omega)
    refine Or.inl ⟨(nI (i + 1), sI (sI s 2 i (gI τ 12 i)) 5 i 0), ?_, rfl, fr_trans f (fr_trans (fr_sI _ _ _ (by decide)) (fr_sI _ _ _ (by decide))), fun q hq => ?_⟩
    · show f_X11_takeTown_B34 s (nI i) = _
      unfold f_X11_takeTown_B34
      rw [if_neg (show ¬ (16 : Int32) ≤ nI i from nI_ge (b := 16) hi (by decide)), bG_t j16, bG_t j16, bV_e, bG_t j16, bV_e, bV_e, ix_nI (by omega), fr_I f (by decide), fr_I f0 (by decide), nI_1]
    · show gI (sI (sI s 2 i _) 5 i 0) 2 q = _ ∧ gI (sI (sI s 2 i _) 5 i 0) 5 q = _
      rw [gI_ne (show (2 : Nat) ≠ 5 by decide)]
      by_cases z : q = i
      · subst z; exact ⟨gI_sI _ _ _ _, gI_sI _ _ _ _⟩
      · rw [gI_nei z, gI_nei z, gI_ne (show (5 : Nat) ≠ 2 by decide)]; exact hh q (by omega)
