/-! have: the reference's layers -/
def hH : List Nat := [37, 38, 39]
def hF : List Nat := [63, 66, 68]
def hfr (τ τ' : jS) : Prop := ∀ a i, a ∉ hH → ¬ (a = 1 ∧ i ∈ hF) → gI τ' a i = gI τ a i
theorem hfr_rfl (τ : jS) : hfr τ τ := fun _ _ _ _ => rfl
theorem hfr_tr {a b c : jS} (h : hfr a b) (g : hfr b c) : hfr a c := fun x i p q => (g x i p q).trans (h x i p q)
theorem hfr_r {τ : jS} {h i : Nat} {v : Int32} (hh : h ∈ hH) : hfr τ (sI τ h i v) := fun a j p _ => gI_ne (fun e => p (by rw [e]; exact hh))
theorem hfr_1 {τ : jS} {i : Nat} {v : Int32} (hi : i ∈ hF) : hfr τ (sI τ 1 i v) := fun a j _ q => gI_sIn (fun e => q ⟨e.1, by rw [e.2]; exact hi⟩)
theorem hfr_a {τ τ' : jS} (h : hfr τ τ') {a : Nat} (ha : a ∉ hH) (h1 : a ≠ 1) (i : Nat) : gI τ' a i = gI τ a i := h a i ha (fun q => h1 q.1)
theorem hfr_f {τ τ' : jS} (h : hfr τ τ') {i : Nat} (hi : i ∉ hF) : gI τ' 1 i = gI τ 1 i := h 1 i (by decide) (fun q => hi q.2)
theorem hfr_mS {τ τ' : jS} (h : hfr τ τ') : mS τ τ' := by
  refine ⟨fun a i q => h a i ?_ ?_, fun i => hfr_a h (by decide) (by decide) i, hfr_f h (by decide)⟩
  · unfold stat at q
    simp at q
    unfold hH
    simp
    omega
  · rintro ⟨rfl, hi⟩
    unfold stat at q
    unfold hF at hi
    simp at q hi
    omega
theorem hfr_seM {τ τ' : jS} {sa sb sc : Nat → Nat} {n : Nat} (h : hfr τ τ') (s : seM sa sb sc n τ) : seM sa sb sc n τ' := by
  obtain ⟨a, b, c⟩ := s
  refine ⟨a, (hfr_f h (by decide)).trans b, fun i hi => ?_⟩
  rw [hfr_a h (by decide) (by decide), hfr_a h (by decide) (by decide), hfr_a h (by decide) (by decide)]
  exact c i hi
/-- a layer that is being laid -/
def LO (A : Tb) (F : Nat → Bool) (st : Nat) (Q S : Nat → Prop) (N : Nat) (L : Nat → Nat) (τ : jS) : Prop := gI τ 1 68 = nI st ∧ gI τ 1 66 = nI N ∧ (∀ j, j < N → gI τ 38 j = nI (L j) ∧ okc A (L j) ∧ F (L j) = true ∧ Q (L j) ∧ gI τ 39 (L j) = nI st) ∧ (∀ i j, i < N → j < N → L i = L j → i = j) ∧ (∀ c, c < 147968 → gI τ 39 c = nI st → ∃ j, j < N ∧ L j = c) ∧ (∀ c, c < 147968 → ∃ v, v ≤ st ∧ gI τ 39 c = nI v) ∧ ∀ c, S c → F c = true → ∃ j, j < N ∧ L j = c
theorem LO_mono {A : Tb} {F : Nat → Bool} {st N : Nat} {Q S S' : Nat → Prop} {L : Nat → Nat} {τ : jS} (h : LO A F st Q S N L τ) (hs : ∀ c, S' c → S c) : LO A F st Q S' N L τ := ⟨h.1, h.2.1, h.2.2.1, h.2.2.2.1, h.2.2.2.2.1, h.2.2.2.2.2.1, fun c q => h.2.2.2.2.2.2 c (hs c q)⟩
section HM
variable {A : Tb} {sa sb sc : Nat → Nat} {n k st : Nat} {Q S : Nat → Prop}
theorem m_layOn {N c : Nat} {L : Nat → Nat} {τ : jS} (hs : seM sa sb sc n τ) (hk : k ≤ 40) (h : LO A (fitC sa sb sc n k) st Q S N L τ) (oc : okc A c) (hQ : Q c) (st31 : st < 2 ^ 31) : ∃ N' L' τ', f_X11_layOn τ (nI c) (nI k) = some ((), τ') ∧ hfr τ τ' ∧ (∀ i, gI τ' 37 i = gI τ 37 i) ∧ gI τ' 1 63 = gI τ 1 63 ∧ LO A (fitC sa sb sc n k) st Q (fun x => S x ∨ x = c) N' L' τ' := by
  have h0 := h
  obtain ⟨h1, h2, h3, h4, h5, h6, h7⟩ := h
  have hc := oc.1
  have jc : jin (nI c) 147968 = true := jin_nI hc (by omega)
  unfold f_X11_layOn f_X11_layOn_J52
  rw [bG_t jc, ix_nI (by omega), h1]
  by_cases z : gI τ 39 c = nI st
  · rw [if_pos z]
    obtain ⟨j, j1, j2⟩ := h5 c hc z
    refine ⟨N, L, τ, rfl, hfr_rfl _, fun _ => rfl, rfl, h1, h2, h3, h4, h5, h6, fun x hx hf => ?_⟩
    rcases hx with hx | rfl
    · exact h7 x hx hf
    · exact ⟨j, j1, j2⟩
  rw [if_neg z, m_fits hs hk hc, bC_e]
  cases hf : fitP sa sb sc n k (cOne c) (cTwo c) with
  | false =>
    rw [if_pos (show bI false = 0 from rfl)]
    refine ⟨N, L, τ, rfl, hfr_rfl _, fun _ => rfl, rfl, h1, h2, h3, h4, h5, h6, fun x hx hfx => ?_⟩
    rcases hx with hx | rfl
    · exact h7 x hx hfx
    · unfold fitC at hfx
      rw [hf] at hfx; cases hfx
  | true =>
    have nj : ∀ j, j < N → L j ≠ c := fun j hj e => z (by rw [← e]; exact (h3 j hj).2.2.2.2)
    have hN : N < 147968 := by
      have := pigeon 147968 (N + 1) (up1 L N c) (fun j hj => by
        by_cases q : j = N
        · subst q; rw [up1_at]; exact hc
        · rw [up1_ne q]; exact (h3 j (by omega)).2.1.1) (fun j l hj hl e => by
        by_cases q : j = N <;> by_cases r : l = N
        · omega
        · subst q; rw [up1_at, up1_ne r] at e; exact absurd e.symm (nj l (by omega))
        · subst r; rw [up1_at, up1_ne q] at e; exact absurd e (nj j (by omega))
        · rw [up1_ne q, up1_ne r] at e; exact h4 j l (by omega) (by omega) e)
      omega
    rw [if_neg (show ¬ bI true = 0 by decide), bG_t jc, bV_e, gI_ne (show (1 : Nat) ≠ 39 by decide), h2, bG_t (jin_nI hN (by omega)), ix_nI (by omega), bV_e, gI_ne (show (1 : Nat) ≠ 38 by decide), gI_ne (show (1 : Nat) ≠ 39 by decide), h2, nI_1, bV_e]
    generalize es : sI (sI (sI τ 39 c (nI st)) 38 N (nI c)) 1 66 (nI (N + 1)) = t
    have f : hfr τ t := by
      rw [← es]
      exact hfr_tr (hfr_r (by decide)) (hfr_tr (hfr_r (by decide)) (hfr_1 (by decide)))
    have o38 : ∀ j, j ≠ N → gI t 38 j = gI τ 38 j := fun j hj => by rw [← es, gI_ne (by decide), gI_nei hj, gI_ne (by decide)]
    have o39 : ∀ j, j ≠ c → gI t 39 j = gI τ 39 j := fun j hj => by rw [← es, gI_ne (by decide), gI_ne (by decide), gI_nei hj]
    have a39 : gI t 39 c = nI st := by rw [← es, gI_ne (by decide), gI_ne (by decide), gI_sI]
    refine ⟨N + 1, up1 L N c, t, rfl, f, fun i => by rw [← es, gI_ne (by decide), gI_ne (by decide), gI_ne (by decide)], by rw [← es, gI_nei (by decide), gI_ne (by decide), gI_ne (by decide)], by rw [← es, gI_nei (by decide), gI_ne (by decide), gI_ne (by decide)]; exact h1, by rw [← es, gI_sI], fun j hj => ?_, fun i j hi hj e => ?_, fun x hx he => ?_, fun x hx => ?_, fun x hx hfx => ?_⟩
    · by_cases q : j = N
      · subst q
        rw [up1_at]
        exact ⟨by rw [← es, gI_ne (by decide), gI_sI], oc, hf, hQ, a39⟩
      · rw [up1_ne q, o38 j q]
        obtain ⟨b1, b2, b3, b4, b5⟩ := h3 j (by omega)
        exact ⟨b1, b2, b3, b4, by rw [o39 _ (nj j (by omega))]; exact b5⟩
    · by_cases q : i = N <;> by_cases r : j = N
      · omega
      · subst q; rw [up1_at, up1_ne r] at e; exact absurd e.symm (nj j (by omega))
      · subst r; rw [up1_at, up1_ne q] at e; exact absurd e (nj i (by omega))
      · rw [up1_ne q, up1_ne r] at e; exact h4 i j (by omega) (by omega) e
    · by_cases q : x = c
      · exact ⟨N, by omega, by rw [up1_at, q]⟩
      · rw [o39 x q] at he
        obtain ⟨j, j1, j2⟩ := h5 x hx he
        exact ⟨j, by omega, by rw [up1_ne (by omega)]; exact j2⟩
    · by_cases q : x = c
      · exact ⟨st, Nat.le_refl _, by rw [q]; exact a39⟩
      · rw [o39 x q]; exact h6 x hx
    · rcases hx with hx | rfl
      · obtain ⟨j, j1, j2⟩ := h7 x hx hfx
        exact ⟨j, by omega, by rw [up1_ne (by omega)]; exact j2⟩
      · exact ⟨N, by omega, up1_at _ _ _⟩
/-- the persons one by one -/
theorem m_layQ {N i c : Nat} {f : Nat → Bool} {L : Nat → Nat} {τ τ0 : jS} (hM : WM τ0) (eA : mn τ0 = A) (w : wA A) (hfr0 : hfr τ0 τ) (hs : seM sa sb sc n τ0) (hk : k ≤ 40) (hi : i < 2 ^ 31) (h : LO A (fitC sa sb sc n k) st Q S N L τ) (oc : okc A c) (hp : ∀ p, f p = true → mayP A c (cSide c) p = true) (hQ : ∀ p, f p = true → Q (behQ A c p)) (st31 : st < 2 ^ 31) : ∃ N' L' τ', f_X11_nextLay_J72 τ (nI k) (nI i) (nI c) (nI (bm f 16)) = some (.inl (nI (i + 1), τ')) ∧ hfr τ τ' ∧ (∀ i, gI τ' 37 i = gI τ 37 i) ∧ gI τ' 1 63 = gI τ 1 63 ∧ LO A (fitC sa sb sc n k) st Q (fun x => S x ∨ ∃ p, f p = true ∧ x = behQ A c p) N' L' τ' := by
  have h16 := w.1
  unfold f_X11_nextLay_J72
  have key := jloop_ex (S := Int32 × jS) (O := (Int32 × jS) ⊕ (Unit × jS)) (f := fun s => f_X11_nextLay_B75 s.2 (nI k) (nI i) (nI c) (nI (bm f 16)) s.1) (fun p s => s.1 = nI p ∧ hfr τ s.2 ∧ (∀ i, gI s.2 37 i = gI τ 37 i) ∧ gI s.2 1 63 = gI τ 1 63 ∧ ∃ N' L', LO A (fitC sa sb sc n k) st Q (fun x => S x ∨ ∃ q, q < p ∧ f q = true ∧ x = behQ A c q) N' L' s.2) (tP A) (fun o => ∃ N' L' τ', o = .inl (nI (i + 1), τ') ∧ hfr τ τ' ∧ (∀ i, gI τ' 37 i = gI τ 37 i) ∧ gI τ' 1 63 = gI τ 1 63 ∧ LO A (fitC sa sb sc n k) st Q (fun x => S x ∨ ∃ p, f p = true ∧ x = behQ A c p) N' L' τ') (s0 := (0, τ)) ⟨rfl, hfr_rfl _, fun _ => rfl, rfl, N, L, LO_mono h fun x hx => hx.elim id (fun ⟨q, hq, _⟩ => absurd hq (Nat.not_lt_zero q))⟩ (jfuel_big (by omega)) ?_ ?_
  · obtain ⟨o, o1, N', L', τ', rfl, o2⟩ := key
    exact ⟨N', L', τ', o1, o2⟩
  · rintro ⟨x, t⟩ ⟨rfl, f1, f2, f3, N', L', g⟩
    replace f1 : hfr τ t := f1
    refine ⟨.inl (nI (i + 1), t), ?_, N', L', t, rfl, f1, f2, f3, LO_mono g fun x hx => ?_⟩
    · obtain ⟨m1, m2⟩ := mS_W (hfr_mS (hfr_tr hfr0 f1)) hM
      have e0 : gI t 1 0 = nI (tP A) := by rw [m1.1.1.1, m2, eA]
      show f_X11_nextLay_B75 t (nI k) (nI i) (nI c) (nI (bm f 16)) (nI (tP A)) = _
      unfold f_X11_nextLay_B75 f_X11_nextLay_J112
      rw [e0, if_pos (Int32.le_refl _), bV_e, nI_1, jw_e]
    · rcases hx with hx | ⟨q, q1, q2⟩
      · exact Or.inl hx
      · exact Or.inr ⟨q, mayP_lt (hp q q1), q1, q2⟩
  · rintro p ⟨x, t⟩ hpt ⟨rfl, f1, f2, f3, N', L', g⟩
    replace f1 : hfr τ t := f1
    replace f2 : ∀ i, gI t 37 i = gI τ 37 i := f2
    replace f3 : gI t 1 63 = gI τ 1 63 := f3
    obtain ⟨m1, m2⟩ := mS_W (hfr_mS (hfr_tr hfr0 f1)) hM
    have e0 : gI t 1 0 = nI (tP A) := by rw [m1.1.1.1, m2, eA]
    refine Or.inl ?_
    show ∃ s', f_X11_nextLay_B75 t (nI k) (nI i) (nI c) (nI (bm f 16)) (nI p) = _ ∧ _
    unfold f_X11_nextLay_B75 f_X11_nextLay_J106
    rw [e0, if_neg (nI_ge hpt (by omega))]
    cases hf : f p with
    | false =>
      rw [m_hasF (by decide) (by omega) hf, bC_e, if_pos rfl, bV_e, nI_1]
      refine ⟨_, rfl, rfl, f1, f2, f3, N', L', LO_mono g fun x hx => ?_⟩
      rcases hx with hx | ⟨q, q0, q1, q2⟩
      · exact Or.inl hx
      · have : q ≠ p := fun e => by rw [e, hf] at q1; cases q1
        exact Or.inr ⟨q, by omega, q1, q2⟩
    | true =>
      have bq : f_X11_behind t (nI c) (nI p) = some (nI (behQ A c p)) := by
        have := m_behindQ m1.1 oc.1 (show p < 16 by omega)
        rw [m2, eA] at this
        exact this
      obtain ⟨N2, L2, t', a1, a2, a3, a4, a5⟩ := m_layOn (hfr_seM (hfr_tr hfr0 f1) hs) hk g (behQ_ok w oc (hp p hf)) (hQ p hf) st31
      rw [m_hasT (by decide) (by omega) hf, bC_e, if_neg (show ¬ (1 : Int32) = 0 by decide), bq, bC_e, a1, bD_e, bV_e, nI_1]
      refine ⟨_, rfl, rfl, hfr_tr f1 a2, fun i => (a3 i).trans (f2 i), a4.trans f3, N2, L2, LO_mono a5 fun x hx => ?_⟩
      rcases hx with hx | ⟨q, q0, q1, q2⟩
      · exact Or.inl (Or.inl hx)
      · by_cases e : q = p
        · subst e; exact Or.inr q2
        · exact Or.inl (Or.inr ⟨q, by omega, q1, q2⟩)
end HM
