/-! forces, sure: both find the same -/
theorem FX_map {V V' : Nat → Prop} {E E' pc pc' : Nat → Bool} {sc sc' : Nat → Nat → Bool} {nd' : Nat → Nat} (φ : Nat → Nat) (hV : ∀ x, V x → V' (φ x)) (hE : ∀ x, V x → E x = E' (φ x)) (hp : ∀ x, V x → pc x = pc' (φ x)) (h1 : ∀ x y, V x → E x = false → sc x y = true → sc' (φ x) (φ y) = true) (h2 : ∀ x j, V x → E x = false → sc' (φ x) j = true → ∃ y, sc x y = true ∧ φ y = j) (h : FX V' E' pc' sc' nd') : FX V E pc sc (fun x => nd' (φ x)) := by
  intro x hx
  obtain ⟨a, b⟩ := h (φ x) (hV x hx)
  refine ⟨by rw [hE x hx]; exact a, fun hEx => ?_⟩
  obtain ⟨c, d⟩ := b (by rw [← hE x hx]; exact hEx)
  refine ⟨fun hpx => ?_, fun hpx => ?_⟩
  · rcases c (by rw [← hp x hx]; exact hpx) with ⟨e, f⟩ | ⟨e, ⟨j, j1, j2, j3⟩, f⟩
    · exact Or.inl ⟨e, fun y hy => f _ (h1 x y hx hEx hy)⟩
    · obtain ⟨y, y1, y2⟩ := h2 x j hx hEx j1
      exact Or.inr ⟨e, ⟨y, y1, by show nd' (φ y) ≠ 0; rw [y2]; exact j2, by show nd' (φ x) = nd' (φ y) + 1; rw [y2]; exact j3⟩, fun z hz h0 => f _ (h1 x z hx hEx hz) h0⟩
  · rcases d (by rw [← hp x hx]; exact hpx) with ⟨e, ⟨j, j1, j2⟩ | f⟩ | ⟨e, ⟨j, j1, j2⟩, f⟩
    · obtain ⟨y, y1, y2⟩ := h2 x j hx hEx j1
      exact Or.inl ⟨e, Or.inl ⟨y, y1, by show nd' (φ y) = 0; rw [y2]; exact j2⟩⟩
    · refine Or.inl ⟨e, Or.inr fun y => ?_⟩
      cases hy : sc x y with
      | false => rfl
      | true =>
        have := h1 x y hx hEx hy
        rw [f] at this; cases this
    · obtain ⟨y, y1, y2⟩ := h2 x j hx hEx j1
      exact Or.inr ⟨e, ⟨y, y1, by show nd' (φ x) = nd' (φ y) + 1; rw [y2]; exact j2⟩, fun z hz => f _ (h1 x z hx hEx hz)⟩
/-! ways of the class and of the reference -/
theorem st0_parts {A : Tb} {c : Nat} (h : stN A c = 0) : ended A c = false ∧ ¬ (mayS A c 0 = 0 ∧ mayS A c 1 = 0) := by
  unfold stN at h
  cases he : ended A c with
  | true => rw [he, if_pos rfl] at h; cases h
  | false =>
    rw [he, if_neg (by decide)] at h
    refine ⟨rfl, fun z => ?_⟩
    rw [if_pos z] at h; cases h
theorem spr_of {A : Tb} {past c : Nat} (h : stN A c = 0) : spr A past c = true := by
  obtain ⟨a, b⟩ := st0_parts h
  unfold spr
  have : (decide (mayS A c 0 = 0) && decide (mayS A c 1 = 0)) = false := by
    cases hb : (decide (mayS A c 0 = 0) && decide (mayS A c 1 = 0)) with
    | false => rfl
    | true =>
      rw [Bool.and_eq_true, decide_eq_true_eq, decide_eq_true_eq] at hb
      exact absurd hb b
  rw [this, a]
  cases (past == 1) <;> rfl
theorem spr_st {A : Tb} {past c : Nat} (h : spr A past c = true) (he : ended A c = false) : stN A c = 0 := by
  unfold spr at h
  rw [Bool.and_eq_true, Bool.not_eq_true'] at h
  unfold stN
  rw [he, if_neg (by decide), if_neg]
  intro z
  rw [decide_eq_true z.1, decide_eq_true z.2] at h
  cases h.1
theorem scX_scM {A : Tb} (w : wA A) {past x y : Nat} (ok : okx A x) (h : scX A x y = true) : scM A past (cv A x) (cv A y) = true := by
  obtain ⟨st, hh⟩ := scX_iff.mp h
  refine scM_iff.mpr ⟨spr_of st, ?_⟩
  have on := ows_none w ok (s := x % 2) (by omega)
  rw [cv_side w ok]
  rcases hh with ⟨z, rfl⟩ | ⟨d, d1, d2, rfl⟩
  · exact Or.inl ⟨on.mp z, flp_cv w ok⟩
  · have hm := ows_may w ok (s := x % 2) (by omega) d2
    exact Or.inr ⟨hs A d, hs_lt w hm.2, hm.1, (afx_ok w ok d2).2⟩
theorem scM_scX {A : Tb} (w : wA A) {past x c : Nat} (ok : okx A x) (he : ended A (cv A x) = false) (h : scM A past (cv A x) c = true) : ∃ y, scX A x y = true ∧ cv A y = c := by
  obtain ⟨sp, hh⟩ := scM_iff.mp h
  have st := spr_st sp he
  have on := ows_none w ok (s := x % 2) (by omega)
  rw [cv_side w ok] at hh
  rcases hh with ⟨z, rfl⟩ | ⟨p, p1, p2, rfl⟩
  · exact ⟨flp x, scX_iff.mpr ⟨st, Or.inl ⟨on.mpr z, rfl⟩⟩, flp_cv w ok⟩
  · obtain ⟨d, d1, d2, d3, _⟩ := may_ows w ok (s := x % 2) (by omega) p2
    exact ⟨afx x d, scX_iff.mpr ⟨st, Or.inr ⟨d, d1, d2, rfl⟩⟩, by rw [(afx_ok w ok d2).2, d3]⟩
/-- every state of the class stands in the reference's line -/
theorem in_line {A : Tb} {past n W nX : Nat} {L wh tg LX : Nat → Nat} {τ : jS} (w : wA A) (hS : MS A past (cv A (LX 0)) n W n L wh tg τ) (hX : ∀ j, j < nX → okx A (LX j)) (hr : ∀ j, 0 < j → j < nX → ∃ l, l < j ∧ scX A (LX l) (LX j) = true) : ∀ j, j < nX → ∃ k, k < n ∧ L k = cv A (LX j) := by
  intro j
  induction j using Nat.strongRecOn with
  | ind j ih =>
    intro hj
    rcases Nat.eq_zero_or_pos j with z | z
    · subst z
      exact ⟨0, hS.1.2.2.1, hS.1.2.2.2⟩
    · obtain ⟨l, l1, l2⟩ := hr j z hj
      obtain ⟨k, k1, k2⟩ := ih l l1 (by omega)
      have := scX_scM w (past := past) (hX l (by omega)) l2
      rw [← k2] at this
      obtain ⟨v, v1, v2, v3⟩ := hS.2.2.2.2.2.2.2.1 k _ k1 k1 this
      exact ⟨tg v, (hS.2.2.2.2.1 v v1).2.2.1, v3⟩
theorem gfr_x {σ σ' : jS} (h : gfr σ σ') : fr xH0 σ σ' := fr_mono h.1 (by decide)
theorem MS_sM {k : Nat} {A : Tb} {past c0 n W i : Nat} {L wh tg : Nat → Nat} {τ τ' : jS} (hS : MS A past c0 n W i L wh tg τ') (hk : kfr τ τ') (s : sM k τ) : sM k τ' := by
  obtain ⟨⟨a0, _⟩, l, b2, b3, b4⟩ := s
  have n6 := hS.2.2.2.2.2.2.2.2.2
  refine ⟨⟨fun p hp => ?_, n, by omega, hS.1.1, fun i hi => ⟨L i, (hS.2.1 i hi).1.1, (hS.2.1 i hi).2.1⟩, fun c hc => ?_⟩, l, b2, (kfr_f hk (by decide)).trans b3, fun c hc => ?_⟩
  · rw [kfr_a hk (by decide) (by decide)]; exact a0 p hp
  · by_cases z : ∃ j, j < n ∧ L j = c
    · obtain ⟨j, j1, j2⟩ := z
      exact Or.inr ⟨j, j1, by rw [(hS.2.1 j j1).2.1, j2]⟩
    · exact Or.inl (hS.2.2.2.1 c hc (fun j hj e => z ⟨j, hj, e⟩))
  · rw [kfr_a hk (by decide) (by decide)]; exact b4 c hc
theorem brW_0 {A : Tb} {a b : Nat} : brW A 0 a b = bears A a b := by
  unfold brW bears
  exact bex_cong fun g _ => by rw [Nat.zero_testBit]; simp
theorem ways_few {A : Tb} {past c0 n W i : Nat} {L wh tg : Nat → Nat} {τ : jS} (w : wA A) (hS : MS A past c0 n W i L wh tg τ) : W < 620000 := by
  have n6 := hS.2.2.2.2.2.2.2.2.2
  have hm : ∀ v, ∃ m, v < W → m < 17 ∧ ((m = 16 ∧ L (tg v) = behP (L (wh v)) ∧ mayS A (L (wh v)) (cSide (L (wh v))) = 0) ∨ (m < 16 ∧ mayP A (L (wh v)) (cSide (L (wh v))) m = true ∧ L (tg v) = behQ A (L (wh v)) m)) := fun v => by
    by_cases z : v < W
    · obtain ⟨_, ⟨a, b⟩ | ⟨p, p1, p2, p3⟩⟩ := scM_iff.mp (hS.2.2.2.2.1 v z).2.2.2.2.2
      · exact ⟨16, fun _ => ⟨by decide, Or.inl ⟨rfl, b, a⟩⟩⟩
      · exact ⟨p, fun _ => ⟨by omega, Or.inr ⟨p1, p2, p3⟩⟩⟩
    · exact ⟨0, fun q => absurd q z⟩
  have hf : ∃ f : Nat → Nat, ∀ v, v < W → f v < 17 ∧ ((f v = 16 ∧ L (tg v) = behP (L (wh v)) ∧ mayS A (L (wh v)) (cSide (L (wh v))) = 0) ∨ (f v < 16 ∧ mayP A (L (wh v)) (cSide (L (wh v))) (f v) = true ∧ L (tg v) = behQ A (L (wh v)) (f v))) := ⟨fun v => Classical.choose (hm v), fun v => Classical.choose_spec (hm v)⟩
  obtain ⟨f, hf⟩ := hf
  have := pigeon (17 * n) W (fun v => 17 * wh v + f v) (fun v hv => by
    have a := (hf v hv).1
    have b := (hS.2.2.2.2.1 v hv).2.1
    show 17 * wh v + f v < 17 * n
    omega) (fun u v hu hv e => by
    have a := (hf u hu).1
    have b := (hf v hv).1
    have e1 : wh u = wh v := by
      have : 17 * wh u + f u = 17 * wh v + f v := e
      omega
    have e2 : f u = f v := by
      have : 17 * wh u + f u = 17 * wh v + f v := e
      omega
    refine hS.2.2.2.2.2.2.1 u v hu hv e1 (hS.2.2.1 _ _ (hS.2.2.2.2.1 u hu).2.2.1 (hS.2.2.2.2.1 v hv).2.2.1 ?_)
    rcases (hf u hu).2 with ⟨x1, x2, _⟩ | ⟨x1, _, x2⟩ <;> rcases (hf v hv).2 with ⟨y1, y2, _⟩ | ⟨y1, _, y2⟩
    · rw [x2, y2, e1]
    · omega
    · omega
    · rw [x2, y2, e1, e2])
  omega
/-- how many both need, at every state that can come -/
theorem both_need {A : Tb} {past n W nX lm m : Nat} {L wh tg LX QX ndX ndM : Nat → Nat} {pb : Nat → Bool} {σ τ : jS} {x : Nat} {br : Nat → Bool} (w : wA A) (hR : SR A x (tmX A 0) (fun y => pb (y % 2)) lm nX m LX QX ndX σ) (hS : MS A past (cv A x) n W n L wh tg τ) (hbr : ∀ j, j < n → br j = !ended A (L j)) (hF : FX (fun j => j < n) (fun j => !br j) (fun j => pb (cSide (L j))) (scI W wh tg) ndM) : ∀ y, vL nX LX y → ∃ j, j < n ∧ L j = cv A y ∧ ndX y = ndM j := by
  have okX : ∀ y, vL nX LX y → okx A y := fun y hy => by
    obtain ⟨j, j1, j2⟩ := hy
    rw [← j2]; exact (hR.2.1 j j1).1
  have line := in_line (LX := LX) w (by rw [hR.1.2.2.2.2.1]; exact hS) (fun j hj => (hR.2.1 j hj).1) hR.2.2.2.1
  have hφ : ∀ y, ∃ j, vL nX LX y → j < n ∧ L j = cv A y := fun y => by
    by_cases z : vL nX LX y
    · obtain ⟨l, l1, l2⟩ := z
      obtain ⟨j, j1, j2⟩ := line l l1
      exact ⟨j, fun _ => ⟨j1, by rw [j2, l2]⟩⟩
    · exact ⟨0, fun q => absurd q z⟩
  have hφ2 : ∃ φ : Nat → Nat, ∀ y, vL nX LX y → φ y < n ∧ L (φ y) = cv A y := ⟨fun y => Classical.choose (hφ y), fun y => Classical.choose_spec (hφ y)⟩
  obtain ⟨φ, hφ⟩ := hφ2
  have tm_e : ∀ y, tmX A 0 y = ended A (cv A y) := fun y => by
    apply bool_iff
    rw [← st1_ended]
    unfold tmX
    simp
  have cl := hR.2.2.2.2.1
  have F2 := FX_map (V := vL nX LX) (E := tmX A 0) (pc := fun y => pb (y % 2)) (sc := scX A) φ (fun y hy => (hφ y hy).1) (fun y hy => by rw [tm_e, hbr _ (hφ y hy).1, (hφ y hy).2, Bool.not_not]) (fun y hy => by rw [(hφ y hy).2, cv_side w (okX y hy)]) (fun y z hy _ hs => by
    have h1 := scX_scM w (past := past) (okX y hy) hs
    rw [← (hφ y hy).2] at h1
    obtain ⟨v, v1, v2, v3⟩ := hS.2.2.2.2.2.2.2.1 _ _ (hφ y hy).1 (hφ y hy).1 h1
    have hz := cl y z hy hs
    refine scI_iff.mpr ⟨v, v1, v2, hS.2.2.1 _ _ (hS.2.2.2.2.1 v v1).2.2.1 (hφ z hz).1 ?_⟩
    rw [v3, (hφ z hz).2]) (fun y j hy hE hs => by
    obtain ⟨v, v1, v2, v3⟩ := scI_iff.mp hs
    have h1 := (hS.2.2.2.2.1 v v1).2.2.2.2.2
    rw [v2, (hφ y hy).2] at h1
    rw [tm_e] at hE
    obtain ⟨z, z1, z2⟩ := scM_scX w (okX y hy) hE h1
    have hz := cl y z hy z1
    refine ⟨z, z1, ?_⟩
    rw [← v3]
    exact hS.2.2.1 _ _ (hφ z hz).1 (hS.2.2.2.2.1 v v1).2.2.1 (by rw [(hφ z hz).2, z2])) hF
  intro y hy
  refine ⟨φ y, (hφ y hy).1, (hφ y hy).2, ?_⟩
  exact FX_unique (fun a b ha _ hs => cl a b ha hs) hR.2.2.2.2.2.1 F2 hy
theorem rI0_bound {v : Nat} : rI0 v = rI0 v := rfl
/-- the reference: who forces, in how many -/
theorem m_forcesNow {k : Nat} {τ : jS} {A : Tb} {q c0 : Nat} {pI : Int32} {pb : Nat → Bool} (hM : WM τ) (eA : mn τ = A) (h4 : q < 4) (h9 : gI τ 9 q = nI c0) (oc0 : okc A c0) (sm : sM k τ) (hp : ∀ b, b < 2 → (nI b = pI ↔ pb b = true)) : ∃ n W L wh tg nd τ', f_X11_forcesNow τ (nI q) pI = some (rI0 (nd 0), τ') ∧ MS A 1 c0 n W n L wh tg τ' ∧ FX (fun j => j < n) (fun j => !bears A (cOne (L j)) (cTwo (L j))) (fun j => pb (cSide (L j))) (scI W wh tg) nd ∧ (∀ j, j < n → gI τ' 27 j = rI0 (nd j)) ∧ (∀ j, j < n → nd j ≤ 6273) ∧ kfr τ τ' ∧ sM k τ' := by
  have w : wA A := by rw [← eA]; exact wA_of hM.1 hM.2.2.1
  obtain ⟨n, W, L, wh, tg, τ1, a1, a2, a3⟩ := m_spread hM eA (past := 1) (by decide) oc0 sm
  have hM1 := (mS_W (kfr_mS a3) hM).1
  have eA1 : mn τ1 = A := (mS_W (kfr_mS a3) hM).2.trans eA
  obtain ⟨τ2, b1, b2, b3⟩ := m_takeGrudges hM1 eA1 (wo := 0) (by decide)
  have S2 : MS A 1 c0 n W n L wh tg τ2 := MS_s b2 rfl a2
  have k2 : kfr τ1 τ2 := fun a i p _ => fr_I b2 (by unfold kH at p; simp at p ⊢; omega) i
  obtain ⟨nd, τ3, c1, c2, c3, c4, c5⟩ := m_solve (pc := fun j => pb (cSide (L j))) (pI := pI) (br := fun j => bears A (cOne (L j)) (cTwo (L j))) S2 (fun j hj => by
    rw [b3 _ _ (cOne_lt (S2.2.1 j hj).1.1) (cTwo_lt (L j)), brW_0]) (fun j hj => hp _ (cSide_lt (L j))) (ways_few w S2)
  have S3 : MS A 1 c0 n W n L wh tg τ3 := MS_s c5 rfl S2
  have kk := kfr_tr a3 (kfr_tr k2 (sfr_k c5))
  refine ⟨n, W, L, wh, tg, nd, τ3, ?_, S3, c2, c3, c4, kk, MS_sM S3 kk sm⟩
  unfold f_X11_forcesNow
  rw [bG_t (jin_nI h4 (by omega)), ix_nI (by omega), h9, show f_X11_spread τ (nI c0) 1 = some ((), τ1) from a1, bD_e, show f_X11_takeGrudges τ1 0 = some ((), τ2) from b1, bD_e, c1, bD_e, bG_t (show jin 0 147968 = true from jin_nI (n := 0) (by decide) (by decide)), show ix 0 = 0 from ix_nI (n := 0) (by decide), c3 0 S3.1.2.2.1]
theorem bears_ended {A : Tb} {c : Nat} : bears A (cOne c) (cTwo c) = !ended A c := by unfold ended; rw [Bool.not_not]
theorem start_0 {A : Tb} {past n W x : Nat} {L wh tg : Nat → Nat} {τ : jS} (hS : MS A past (cv A x) n W n L wh tg τ) {j : Nat} (hj : j < n) (e : L j = cv A x) : j = 0 := hS.2.2.1 j 0 hj hS.1.2.2.1 (by rw [e, hS.1.2.2.2])
/-- both: in how many -/
theorem q_forces {k : Nat} {σ τ : jS} (h : Rel k σ τ) (hk : k ≤ 2048) {q x : Nat} (hq : q < tQ (mn τ)) (hx : gI σ 30 q = nI x) (ok : okx (mn τ) x) (h9 : gI τ 9 q = nI (cv (mn τ) x)) {pX pM : Int32} {pb : Nat → Bool} (hpX : ∀ b, b < 2 → (nI b = pX ↔ pb b = true)) (hpM : ∀ b, b < 2 → (nI b = pM ↔ pb b = true)) : ∃ r σ' τ', f_X0_solve σ (nI x) pX 0 = some (r, σ') ∧ f_X11_forcesNow τ (nI q) pM = some (r, τ') ∧ Rel k σ' τ' := by
  obtain ⟨rs, sx, sm⟩ := h
  obtain ⟨hM, hX, hH, _⟩ := id rs
  have q4 : q < 4 := by have := hM.1.2.2.2.1.2; omega
  have w := wA_of hM.1 hM.2.2.1
  obtain ⟨hw, hf⟩ := hX.2.2.2 (tQ_tP hM (by omega))
  obtain ⟨ndX, nX, mX, LX, QX, lm, σ', a1, a2, a3, a4⟩ := x_solve (pI := pX) (pc := fun y => pb (y % 2)) (show k ≤ 4096 by omega) w hw hf ok sx (sc := 0) (by decide) (fun y _ => hpX _ (Nat.mod_lt y (by decide)))
  obtain ⟨n, W, L, wh, tg, nd, τ', b1, b2, b3, b4, b5, b6, b7⟩ := m_forcesNow (k := k) (pI := pM) (pb := pb) hM rfl q4 h9 (cv_ok w ok) sm hpM
  obtain ⟨j, j1, j2, j3⟩ := both_need (br := fun j => bears (mn τ) (cOne (L j)) (cTwo (L j))) w a2 b2 (fun j _ => bears_ended) b3 x ⟨0, a2.1.2.2.2.1, a2.1.2.2.2.2.1⟩
  have j0 := start_0 b2 j1 j2
  refine ⟨rI0 (nd 0), σ', τ', ?_, b1, RS_scratch (gfr_x a3) b6 rs, a4, b7⟩
  rw [show f_X0_solve σ (nI x) pX 0 = some (rI0 (ndX x), σ') from a1, j3, j0]
theorem r_sure (k : Nat) (σ τ : jS) (a : Int32) (hk : k < 2048) (h : Rel k σ τ) : ∃ r σ2 τ2, f_X10_sure σ a = some (r, σ2) ∧ f_X11_sure τ a = some (r, τ2) ∧ Rel (k + 4) σ2 τ2 := by
  have h0 := h
  obtain ⟨⟨hM, hX, hH, hS, _⟩, _, _⟩ := h
  unfold f_X10_sure f_X11_sure f_X11_sure_J20
  rcases is_both (x_isQuarrel hX.1 hM.1.2.2.2.1.2 a) (m_isQuarrel hM.1 a) with ⟨q, h1, rfl, h2, h3⟩ | ⟨h2, h3⟩
  · have q4 : q < 4 := by have := hM.1.2.2.2.1.2; omega
    obtain ⟨x, e1, ok, e3, e4⟩ := hH q h1
    obtain ⟨r, σ', τ', a1, a2, a3⟩ := q_forces h0 (by omega) h1 e1 ok e3 (pX := -1) (pM := 2) (pb := fun _ => false) (fun b hb => ⟨fun e => absurd e (fun u => nI_pos (n := b) (by omega) (by rw [u]; decide)), fun e => by cases e⟩) (fun b hb => ⟨fun e => by have := (nI_eq (b := 2) (by omega) (by decide)).mp e; omega, fun e => by cases e⟩)
    rw [h2, h3, bC_e, bC_e, if_neg (show ¬ (1 : Int32) = 0 by decide), if_neg (show ¬ (1 : Int32) = 0 by decide), at30 q4, bC_e, e1, a1, a2, bD_e, bD_e]
    exact ⟨_, _, _, rfl, rfl, r_mono k _ _ a3⟩
  · rw [h2, h3]
    exact ⟨_, _, _, rfl, rfl, r_mono k _ _ h0⟩
theorem side_both (b : Int32) : (∃ s, s < 2 ∧ b = nI s ∧ f_X10_isSide b = some 1 ∧ f_X11_isSide b = some 1) ∨ (f_X10_isSide b = some 0 ∧ f_X11_isSide b = some 0) := by
  unfold f_X10_isSide f_X10_isSide_J9 f_X10_isSide_J14 f_X11_isSide
  rw [in01]
  by_cases z0 : b = 0
  · subst z0; exact Or.inl ⟨0, by decide, rfl, rfl, rfl⟩
  · by_cases z1 : b = 1
    · subst z1; exact Or.inl ⟨1, by decide, rfl, rfl, rfl⟩
    · rw [if_neg z0, if_neg z1, if_neg (fun e => e.elim z0 z1)]
      exact Or.inr ⟨rfl, rfl⟩
theorem side_pb {s : Nat} (hs : s < 2) : ∀ b, b < 2 → (nI b = nI s ↔ (b == s) = true) := fun b hb => by
  rw [nI_eq (by omega) (by omega), beq_iff_eq]
theorem r_forces (k : Nat) (σ τ : jS) (a b : Int32) (hk : k < 2048) (h : Rel k σ τ) : ∃ r σ2 τ2, f_X10_forces σ a b = some (r, σ2) ∧ f_X11_forces τ a b = some (r, τ2) ∧ Rel (k + 4) σ2 τ2 := by
  have h0 := h
  obtain ⟨⟨hM, hX, hH, hS, _⟩, _, _⟩ := h
  unfold f_X10_forces f_X11_forces f_X11_forces_J31
  rcases is_both (x_isQuarrel hX.1 hM.1.2.2.2.1.2 a) (m_isQuarrel hM.1 a) with ⟨q, h1, rfl, h2, h3⟩ | ⟨h2, h3⟩
  · have q4 : q < 4 := by have := hM.1.2.2.2.1.2; omega
    rw [h2, h3, bC_e, bC_e, if_neg (show ¬ (1 : Int32) = 0 by decide), if_neg (show ¬ (1 : Int32) = 0 by decide)]
    rcases side_both b with ⟨s, s2, rfl, g2, g3⟩ | ⟨g2, g3⟩
    · obtain ⟨x, e1, ok, e3, e4⟩ := hH q h1
      obtain ⟨r, σ', τ', a1, a2, a3⟩ := q_forces h0 (by omega) h1 e1 ok e3 (pX := nI s) (pM := nI s) (pb := fun b => b == s) (side_pb s2) (side_pb s2)
      rw [g2, g3, bC_e, bC_e, if_neg (show ¬ (1 : Int32) = 0 by decide), if_neg (show ¬ (1 : Int32) = 0 by decide), at30 q4, bC_e, e1, a1, a2, bD_e, bD_e]
      exact ⟨_, _, _, rfl, rfl, r_mono k _ _ a3⟩
    · rw [g2, g3]
      exact ⟨_, _, _, rfl, rfl, r_mono k _ _ h0⟩
  · rw [h2, h3]
    exact ⟨_, _, _, rfl, rfl, r_mono k _ _ h0⟩
