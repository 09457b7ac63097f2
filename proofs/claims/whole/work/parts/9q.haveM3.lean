/-! have: what the reference answers -/
/-- the persons of a layer -/
noncomputable def hvS (A : Tb) (F : Nat → Nat → Bool) (c0 k : Nat) : Nat := bm (fun p => pB (∃ c, LYR A F c0 k c ∧ (cOne c = p ∨ cTwo c = p))) 16
section HO
variable {A : Tb} {sa sb sc : Nat → Nat} {n : Nat}
theorem m_haveS {τ : jS} {F : Nat → Nat → Bool} {c0 k N : Nat} {L : Nat → Nat} (hL : HL A F c0 k N L τ) : f_X11_have_J79 τ = some (nI (hvS A F c0 k), τ) := by
  obtain ⟨l1, l2, l3, l4⟩ := hL
  have e : hvS A F c0 k = bm (fun p => bex N fun j => cOne (L j) == p || cTwo (L j) == p) 16 := bm_cong fun p _ => by
    apply bool_iff
    rw [pB_iff, bex_iff]
    constructor
    · rintro ⟨c, c1, c2⟩
      obtain ⟨j, j1, rfl⟩ := l4 c c1
      exact ⟨j, j1, by rw [Bool.or_eq_true, beq_iff_eq, beq_iff_eq]; exact c2⟩
    · rintro ⟨j, j1, j2⟩
      rw [Bool.or_eq_true, beq_iff_eq, beq_iff_eq] at j2
      exact ⟨L j, (l3 j j1).2.2, j2⟩
  unfold f_X11_have_J79
  rw [e]
  refine jloop_0 (fun i => (nI (bm (fun p => bex i fun j => cOne (L j) == p || cTwo (L j) == p) 16), nI i, τ)) N ?_ (jfuel_big (by omega)) ?_ ?_
  · show (nI (bm (fun _ => false) 16), nI 0, τ) = _
    rw [nbm0 fun _ => rfl]; rfl
  · show f_X11_have_B83 τ (nI (bm (fun p => bex N fun j => cOne (L j) == p || cTwo (L j) == p) 16)) (nI N) = _
    unfold f_X11_have_B83 f_X11_have_J123
    rw [l2, if_pos (Int32.le_refl _), jw_e]
  · intro i hi
    have ji : jin (nI i) 147968 = true := jin_nI (by omega) (by omega)
    obtain ⟨a1, a2, _⟩ := l3 i hi
    show f_X11_have_B83 τ (nI (bm (fun p => bex i fun j => cOne (L j) == p || cTwo (L j) == p) 16)) (nI i) = some (.inl (nI (bm (fun p => bex (i + 1) fun j => cOne (L j) == p || cTwo (L j) == p) 16), nI (i + 1), τ))
    unfold f_X11_have_B83
    rw [l2, if_neg (nI_ge hi (by omega)), bG_t ji, ix_nI (by omega), a1, m_one a2.1, bC_e, bG_t ji, m_two a2.1, bC_e, ← Int32.or_assoc, nI_or1 _ (cOne_lt a2.1), nI_or1 _ (cTwo_lt _), bV_e, bV_e, nI_1]
    refine congrArg (fun v => some (Sum.inl (nI v, nI (i + 1), τ))) (bm_cong fun p _ => ?_)
    rw [bex_succ, Bool.or_assoc]
    congr 1
    apply bool_iff
    rw [Bool.or_eq_true, Bool.or_eq_true, beq_iff_eq, beq_iff_eq, beq_iff_eq, beq_iff_eq]
    constructor
    · rintro (e | e)
      · exact Or.inl e.symm
      · exact Or.inr e.symm
    · rintro (e | e)
      · exact Or.inl e.symm
      · exact Or.inr e.symm
theorem m_haveL {τ : jS} {m st c0 N : Nat} {L : Nat → Nat} (hM : WM τ) (eA : mn τ = A) (w : wA A) (hs : seM sa sb sc n τ) (hm : m ≤ 40) (hL : HL A (fitC sa sb sc n) c0 0 N L τ) (h68 : gI τ 1 68 = nI st) (h39 : ∀ c, c < 147968 → ∃ v, v ≤ st ∧ gI τ 39 c = nI v) (st31 : st + 41 < 2 ^ 31) : ∃ τ', jloop jFuel (fun s => f_X11_have_B63 s.2 (nI m) s.1) ((1 : Int32), τ) = some (nI (hvS A (fitC sa sb sc n) c0 m), τ') ∧ hfr τ τ' ∧ gI τ' 1 68 = nI (st + m) ∧ ∀ c, c < 147968 → ∃ v, v ≤ st + m ∧ gI τ' 39 c = nI v := by
  have key := jloop_ex (S := Int32 × jS) (O := Int32 × jS) (f := fun s => f_X11_have_B63 s.2 (nI m) s.1) (fun i s => s.1 = nI (i + 1) ∧ hfr τ s.2 ∧ gI s.2 1 68 = nI (st + i) ∧ (∀ c, c < 147968 → ∃ v, v ≤ st + i ∧ gI s.2 39 c = nI v) ∧ ∃ N' L', HL A (fitC sa sb sc n) c0 i N' L' s.2) m (fun o => o.1 = nI (hvS A (fitC sa sb sc n) c0 m) ∧ hfr τ o.2 ∧ gI o.2 1 68 = nI (st + m) ∧ ∀ c, c < 147968 → ∃ v, v ≤ st + m ∧ gI o.2 39 c = nI v) (s0 := (1, τ)) ⟨rfl, hfr_rfl _, h68, h39, N, L, hL⟩ (jfuel_big (by omega)) ?_ ?_
  · obtain ⟨⟨o, t⟩, o1, o2, o3⟩ := key
    replace o2 : o = nI (hvS A (fitC sa sb sc n) c0 m) := o2
    subst o2
    exact ⟨t, o1, o3⟩
  · rintro ⟨x, t⟩ ⟨rfl, f1, f2, f3, N', L', g⟩
    refine ⟨(nI (hvS A (fitC sa sb sc n) c0 m), t), ?_, rfl, f1, f2, f3⟩
    show f_X11_have_B63 t (nI m) (nI (m + 1)) = _
    unfold f_X11_have_B63
    rw [if_pos (show nI m < nI (m + 1) from Int32.not_le.mp (nI_ge (by omega) (by omega))), m_haveS g, jw_e]
  · rintro i ⟨x, t⟩ hi ⟨rfl, f1, f2, f3, N', L', g⟩
    replace f1 : hfr τ t := f1
    replace f2 : gI t 1 68 = nI (st + i) := f2
    obtain ⟨m1, m2⟩ := mS_W (hfr_mS f1) hM
    obtain ⟨N2, L2, t', a1, a2, a3, a4, a5⟩ := m_nextLay m1 (m2.trans eA) w (hfr_seM f1 hs) (show i + 1 ≤ 40 by omega) g f2 f3 (by omega)
    refine Or.inl ?_
    show ∃ s', f_X11_have_B63 t (nI m) (nI (i + 1)) = _ ∧ _
    unfold f_X11_have_B63
    rw [if_neg (show ¬ nI m < nI (i + 1) from Int32.not_lt.mpr (nI_le (by omega) (by omega))), a1, bD_e, nI_1, bV_e]
    exact ⟨_, rfl, rfl, hfr_tr f1 a2, a4, a5, N2, L2, a3⟩
/-- from the beginning -/
theorem m_haveAll {τ : jS} {m st c0 : Nat} (hM : WM τ) (eA : mn τ = A) (w : wA A) (hs : seM sa sb sc n τ) (hm : m ≤ 40) (oc : okc A c0) (h68 : gI τ 1 68 = nI st) (h39 : ∀ c, c < 147968 → ∃ v, v ≤ st ∧ gI τ 39 c = nI v) (st31 : st + 41 < 2 ^ 31) : ∃ τ', (bG (jin 0 147968) (bV (sI τ 37 (ix 0) (nI c0)) fun σ3 => bG (jin 0 147968) (bC (f_X11_fits σ3 (gI σ3 37 (ix 0)) 0) fun r4 => if r4 = 0 then (f_X11_have_J58 σ3 (nI m) 0) else (f_X11_have_J58 σ3 (nI m) 1)))) = some (nI (hvS A (fitC sa sb sc n) c0 m), τ') ∧ hfr τ τ' ∧ gI τ' 1 68 = nI (st + m) ∧ ∀ c, c < 147968 → ∃ v, v ≤ st + m ∧ gI τ' 39 c = nI v := by
  have j0 : jin 0 147968 = true := jin_nI (n := 0) (by omega) (by omega)
  have i0 : ix 0 = 0 := ix_nI (n := 0) (by omega)
  rw [bG_t j0, bV_e, bG_t j0, i0]
  have f0 : hfr τ (sI τ 37 0 (nI c0)) := hfr_r (by decide)
  have g37 : gI (sI τ 37 0 (nI c0)) 37 0 = nI c0 := gI_sI _ _ _ _
  have hs0 := hfr_seM f0 hs
  have h68' : gI (sI τ 37 0 (nI c0)) 1 68 = nI st := (gI_ne (by decide)).trans h68
  have h39' : ∀ c, gI (sI τ 37 0 (nI c0)) 39 c = gI τ 39 c := fun c => gI_ne (by decide)
  have fz : f_X11_fits (sI τ 37 0 (nI c0)) (nI c0) 0 = some (bI (fitP sa sb sc n 0 (cOne c0) (cTwo c0))) := m_fits (k := 0) hs0 (by omega) oc.1
  rw [g37, fz, bC_e]
  generalize es : sI τ 37 0 (nI c0) = s at *
  have go : ∀ N, N ≤ 1 → ((∀ c, LYR A (fitC sa sb sc n) c0 0 c → N = 1) ∧ (N = 1 → LYR A (fitC sa sb sc n) c0 0 c0)) → ∃ τ', f_X11_have_J58 s (nI m) (nI N) = some (nI (hvS A (fitC sa sb sc n) c0 m), τ') ∧ hfr τ τ' ∧ gI τ' 1 68 = nI (st + m) ∧ ∀ c, c < 147968 → ∃ v, v ≤ st + m ∧ gI τ' 39 c = nI v := by
    intro N hN hh
    unfold f_X11_have_J58
    rw [bV_e]
    have f1 : hfr s (sI s 1 63 (nI N)) := hfr_1 (by decide)
    obtain ⟨m1, m2⟩ := mS_W (hfr_mS (hfr_tr f0 f1)) hM
    have hl : HL A (fitC sa sb sc n) c0 0 N (fun _ => c0) (sI s 1 63 (nI N)) := by
      refine ⟨by omega, gI_sI _ _ _ _, fun j hj => ?_, fun c hc => ?_⟩
      · have : j = 0 := by omega
        subst this
        exact ⟨(gI_ne (by decide)).trans g37, oc, hh.2 (by omega)⟩
      · have := hh.1 c hc
        exact ⟨0, by omega, hc.1.symm⟩
    obtain ⟨t, a1, a2, a3, a4⟩ := m_haveL (τ := sI s 1 63 (nI N)) m1 (m2.trans eA) w (hfr_seM f1 hs0) hm hl ((gI_nei (by decide)).trans h68') (fun c hc => by
      rw [gI_ne (by decide), h39']; exact h39 c hc) st31
    exact ⟨t, a1, hfr_tr (hfr_tr f0 f1) a2, a3, a4⟩
  cases hf : fitP sa sb sc n 0 (cOne c0) (cTwo c0) with
  | false =>
    rw [if_pos (show bI false = 0 from rfl)]
    refine go 0 (by omega) ⟨fun c hc => ?_, fun e => by cases e⟩
    obtain ⟨rfl, h2⟩ := hc
    have h2' : fitP sa sb sc n 0 (cOne c) (cTwo c) = true := h2
    rw [hf] at h2'; cases h2'
  | true =>
    rw [if_neg (show ¬ bI true = 0 by decide)]
    exact go 1 (by omega) ⟨fun _ _ => rfl, fun _ => ⟨rfl, hf⟩⟩
end HO
