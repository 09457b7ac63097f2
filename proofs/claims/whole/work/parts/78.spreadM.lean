/-! the reference spreads -/
def kH : List Nat := [18, 19, 20, 21, 22, 23, 24, 25, 26, 27, 28, 29, 30, 31]
def kF : List Nat := [39, 44, 50, 51, 55]
/-- only scratch of the reference changed -/
def kfr (τ τ' : jS) : Prop := ∀ a i, a ∉ kH → ¬ (a = 1 ∧ i ∈ kF) → gI τ' a i = gI τ a i
theorem kfr_rfl (τ : jS) : kfr τ τ := fun _ _ _ _ => rfl
theorem kfr_tr {a b c : jS} (h : kfr a b) (g : kfr b c) : kfr a c := fun x i p q => (g x i p q).trans (h x i p q)
theorem kfr_r {τ : jS} {h i : Nat} {v : Int32} (hh : h ∈ kH) : kfr τ (sI τ h i v) := fun a j p _ => gI_ne (fun e => p (by rw [e]; exact hh))
theorem kfr_1 {τ : jS} {i : Nat} {v : Int32} (hi : i ∈ kF) : kfr τ (sI τ 1 i v) := fun a j _ q => gI_sIn (fun e => q ⟨e.1, by rw [e.2]; exact hi⟩)
theorem kfr_a {τ τ' : jS} (h : kfr τ τ') {a : Nat} (ha : a ∉ kH) (h1 : a ≠ 1) (i : Nat) : gI τ' a i = gI τ a i := h a i ha (fun q => h1 q.1)
theorem kfr_f {τ τ' : jS} (h : kfr τ τ') {i : Nat} (hi : i ∉ kF) : gI τ' 1 i = gI τ 1 i := h 1 i (by decide) (fun q => hi q.2)
theorem kfr_mS {τ τ' : jS} (h : kfr τ τ') : mS τ τ' := by
  refine ⟨fun a i q => h a i ?_ ?_, fun i => kfr_a h (by decide) (by decide) i, kfr_f h (by decide)⟩
  · unfold stat at q
    simp at q
    unfold kH
    simp
    omega
  · rintro ⟨rfl, hi⟩
    unfold stat at q
    unfold kF at hi
    simp at q hi
    omega
theorem kfr_kp {τ τ' : jS} (h : kfr τ τ') {l : List Nat} (d : l.all (fun a => !(1 :: kH).contains a) = true) : kp l τ τ' := fun a ha i => by
  have := List.all_eq_true.mp d a ha
  have h2 : a ∉ 1 :: kH := fun q => by
    have hc : (1 :: kH).contains a = true := List.contains_iff_mem.mpr q
    rw [hc] at this
    cases this
  exact kfr_a h (fun q => h2 (List.mem_cons_of_mem _ q)) (fun q => h2 (by rw [q]; exact List.mem_cons_self)) i
def xH0 : List Nat := [4, 12, 13, 14, 15, 16, 17, 18, 19, 20, 21, 22]
/-- only scratch changed on both sides -/
theorem RS_scratch {σ τ σ' τ' : jS} (hx : fr xH0 σ σ') (hm : kfr τ τ') (h : RS σ τ) : RS σ' τ' := by
  obtain ⟨hM, hX, hH, hS, hTT, hTx, hFl, hLg, hSe, hI⟩ := h
  obtain ⟨m1, m2⟩ := mS_W (kfr_mS hm) hM
  refine ⟨m1, ?_, xH_keep m2 (kp_fr hx rfl) (kfr_kp hm rfl) hH, rS_keep (fr_I hx (by decide) _) (kfr_f hm (by decide)) hS, rTT_keep hx.1 hTT, rTx_keep (fr_I hx (by decide) _) (kfr_f hm (by decide)) (kp_fr hx rfl) (kfr_kp hm rfl) hTx, rFl_keep (fr_I hx (by decide) _) (kfr_f hm (by decide)) hFl, ?_, ?_, ?_⟩
  · rw [m2]; exact xS_W (xS_fr hx rfl) hX
  · rw [m2]; exact rLg_keep (fr_I hx (by decide) _) (kfr_f hm (by decide)) (kp_fr hx rfl) (kfr_kp hm rfl) hLg
  · rw [m2]; exact rSe_keep (fr_I hx (by decide) _) (kfr_f hm (by decide)) (kp_fr hx rfl) (kfr_kp hm rfl) hSe
  · rw [m2]; exact rI_keep (kp_fr hx rfl) (kfr_kp hm rfl) hI
/-! the reference's ways -/
def spr (A : Tb) (past c : Nat) : Bool := !(decide (mayS A c 0 = 0) && decide (mayS A c 1 = 0)) && (past == 1 || !ended A c)
def scM (A : Tb) (past c c' : Nat) : Bool := spr A past c && (if mayS A c (cSide c) = 0 then c' == behP c else bex 16 fun p => mayP A c (cSide c) p && behQ A c p == c')
theorem scM_iff {A : Tb} {past c c' : Nat} : scM A past c c' = true ↔ spr A past c = true ∧ ((mayS A c (cSide c) = 0 ∧ c' = behP c) ∨ ∃ p, p < 16 ∧ mayP A c (cSide c) p = true ∧ c' = behQ A c p) := by
  unfold scM
  rw [Bool.and_eq_true]
  by_cases z : mayS A c (cSide c) = 0
  · rw [if_pos z]
    constructor
    · rintro ⟨a, b⟩; exact ⟨a, Or.inl ⟨z, beq_iff_eq.mp b⟩⟩
    · rintro ⟨a, ⟨_, b⟩ | ⟨p, p1, p2, _⟩⟩
      · exact ⟨a, beq_iff_eq.mpr b⟩
      · unfold mayS at z
        rw [bm_zero.mp z p p1] at p2; cases p2
  · rw [if_neg z, bex_iff]
    constructor
    · rintro ⟨a, p, p1, p2⟩
      rw [Bool.and_eq_true, beq_iff_eq] at p2
      exact ⟨a, Or.inr ⟨p, p1, p2.1, p2.2.symm⟩⟩
    · rintro ⟨a, ⟨b, _⟩ | ⟨p, p1, p2, p3⟩⟩
      · exact absurd b z
      · exact ⟨a, p, p1, by rw [Bool.and_eq_true, beq_iff_eq]; exact ⟨p2, p3.symm⟩⟩
theorem okc_lt {A : Tb} {c : Nat} (h : okc A c) : c < 147968 := h.1
theorem behQ_ok {A : Tb} (w : wA A) {c p : Nat} (h : okc A c) (hp : mayP A c (cSide c) p = true) : okc A (behQ A c p) := by
  obtain ⟨x, ox, rfl⟩ := cv_sur w h
  rw [cv_side w ox] at hp
  obtain ⟨d, d1, d2, d3, _⟩ := may_ows w ox (Nat.mod_lt x (by decide)) hp
  obtain ⟨o1, o2⟩ := afx_ok w ox d2
  rw [← d3, ← o2]
  exact cv_ok w o1
theorem behP_ok {A : Tb} (w : wA A) {c : Nat} (h : okc A c) : okc A (behP c) := by
  obtain ⟨x, ox, rfl⟩ := cv_sur w h
  rw [← flp_cv w ox]
  exact cv_ok w (flp_ok ox).1
theorem scM_ok {A : Tb} (w : wA A) {past c c' : Nat} (h : okc A c) (hs : scM A past c c' = true) : okc A c' := by
  obtain ⟨_, ⟨_, rfl⟩ | ⟨p, _, p2, rfl⟩⟩ := scM_iff.mp hs
  · exact behP_ok w h
  · exact behQ_ok w h p2
theorem behQ_inj {A : Tb} (w : wA A) {c p q : Nat} (h : okc A c) (hp : mayP A c (cSide c) p = true) (hq : mayP A c (cSide c) q = true) (e : behQ A c p = behQ A c q) : p = q := by
  obtain ⟨x, ox, rfl⟩ := cv_sur w h
  rw [cv_side w ox] at hp hq
  obtain ⟨d, d1, d2, d3, _⟩ := may_ows w ox (Nat.mod_lt x (by decide)) hp
  obtain ⟨d', e1, e2, e3, _⟩ := may_ows w ox (Nat.mod_lt x (by decide)) hq
  obtain ⟨o1, o2⟩ := afx_ok w ox d2
  obtain ⟨o3, o4⟩ := afx_ok w ox e2
  rw [← d3, ← e3, ← o2, ← o4] at e
  have := afx_inj ox.1 d1 e1 (cv_inj w o1 o3 e)
  rw [← d3, ← e3, this]
/-- the last of the first n that leads to j, plus 1 -/
def lastW (tg : Nat → Nat) (j : Nat) : Nat → Nat
  | 0 => 0
  | n + 1 => if tg n = j then n + 1 else lastW tg j n
theorem lastW_le (tg : Nat → Nat) (j : Nat) : ∀ n, lastW tg j n ≤ n
  | 0 => Nat.le_refl 0
  | n + 1 => by
    have := lastW_le tg j n
    rw [lastW]; split <;> omega
theorem lastW_at (tg : Nat → Nat) (j : Nat) : ∀ n, 0 < lastW tg j n → tg (lastW tg j n - 1) = j ∧ ∀ v, lastW tg j n ≤ v → v < n → tg v ≠ j
  | 0 => by simp [lastW]
  | n + 1 => by
    rw [lastW]
    by_cases z : tg n = j
    · rw [if_pos z]; intro _; exact ⟨z, fun v h1 h2 => by omega⟩
    · rw [if_neg z]
      intro h
      obtain ⟨a, b⟩ := lastW_at tg j n h
      refine ⟨a, fun v h1 h2 => ?_⟩
      by_cases y : v = n
      · subst y; exact z
      · exact b v h1 (by omega)
theorem lastW_0 (tg : Nat → Nat) (j : Nat) : ∀ n, lastW tg j n = 0 → ∀ v, v < n → tg v ≠ j
  | 0, _, v, h => absurd h (Nat.not_lt_zero v)
  | n + 1, h0, v, h => by
    rw [lastW] at h0
    by_cases z : tg n = j
    · rw [if_pos z] at h0; cases h0
    · rw [if_neg z] at h0
      by_cases y : v = n
      · subst y; exact z
      · exact lastW_0 tg j n h0 v (by omega)
theorem lastW_cong {tg tg' : Nat → Nat} (j : Nat) : ∀ n, (∀ v, v < n → tg v = tg' v) → lastW tg j n = lastW tg' j n
  | 0, _ => rfl
  | n + 1, h => by
    rw [lastW, lastW, h n (by omega), lastW_cong j n (fun v hv => h v (by omega))]
def MS (A : Tb) (past c0 n W i : Nat) (L wh tg : Nat → Nat) (τ : jS) : Prop :=
  (gI τ 1 39 = nI n ∧ gI τ 1 44 = nI W ∧ 0 < n ∧ L 0 = c0) ∧
  (∀ j, j < n → okc A (L j) ∧ gI τ 19 j = nI (L j) ∧ gI τ 18 (L j) = nI (j + 1)) ∧ (∀ j l, j < n → l < n → L j = L l → j = l) ∧
  (∀ c, c < 147968 → (∀ j, j < n → L j ≠ c) → gI τ 18 c = 0) ∧
  (∀ v, v < W → wh v ≤ i ∧ wh v < n ∧ tg v < n ∧ gI τ 22 v = nI (wh v) ∧ gI τ 23 v = nI (lastW tg (tg v) v) - 1 ∧ scM A past (L (wh v)) (L (tg v)) = true) ∧
  (∀ j, j < n → gI τ 20 j = nI (lastW tg j W) - 1 ∧ gI τ 21 j = nI (fa_cnt (fun v => wh v == j) W)) ∧
  (∀ u v, u < W → v < W → wh u = wh v → tg u = tg v → u = v) ∧
  (∀ j c, j < i → j < n → scM A past (L j) c = true → ∃ v, v < W ∧ wh v = j ∧ L (tg v) = c) ∧
  (∀ j, 0 < j → j < n → ∃ l, l < j ∧ scM A past (L l) (L j) = true) ∧ n ≤ 6272
theorem code_room {A : Tb} (w : wA A) {n : Nat} {L : Nat → Nat} (h1 : ∀ j, j < n → okc A (L j)) (h2 : ∀ j l, j < n → l < n → L j = L l → j = l) : n ≤ 6272 := by
  have hx : ∀ j, ∃ x, j < n → okx A x ∧ cv A x = L j := fun j => by
    by_cases z : j < n
    · obtain ⟨x, a, b⟩ := cv_sur w (h1 j z)
      exact ⟨x, fun _ => ⟨a, b⟩⟩
    · exact ⟨0, fun q => absurd q z⟩
  have hf : ∃ f : Nat → Nat, ∀ j, j < n → okx A (f j) ∧ cv A (f j) = L j := ⟨fun j => Classical.choose (hx j), fun j => Classical.choose_spec (hx j)⟩
  obtain ⟨f, hf⟩ := hf
  exact pigeon 6272 n f (fun j hj => (hf j hj).1.1) (fun j l hj hl e => h2 j l hj hl (by rw [← (hf j hj).2, ← (hf l hl).2, e]))
section MSP
variable {A : Tb} {past c0 n W i : Nat} {L wh tg : Nat → Nat} {τ : jS}
/-- one way told: from the i-th to a code -/
theorem m_reach (w : wA A) (h : MS A past c0 n W i L wh tg τ) (hi : i < n) (hW : W < 600000) {c : Nat} (hc : scM A past (L i) c = true) (hn : ∀ v, v < W → wh v = i → L (tg v) ≠ c) : ∃ n' L' tg' wh' τ', f_X11_reach τ (nI i) (nI c) = some ((), τ') ∧ MS A past c0 n' (W + 1) i L' wh' tg' τ' ∧ n ≤ n' ∧ (∀ j, j < n → L' j = L j) ∧ (∀ v, v < W → wh' v = wh v ∧ tg' v = tg v) ∧ wh' W = i ∧ L' (tg' W) = c ∧ kfr τ τ' := by
  obtain ⟨⟨a1, a2, a3, a4⟩, b, c1, c2, d, e, f, g, r, n6⟩ := h
  have oc := scM_ok w (b i hi).1 hc
  have c14 := oc.1
  -- after the code stands in the line
  have rest : ∀ (n' : Nat) (L' : Nat → Nat) (t : jS), (gI t 1 39 = nI n' ∧ gI t 1 44 = nI W ∧ 0 < n' ∧ L' 0 = c0) → (∀ j, j < n' → okc A (L' j) ∧ gI t 19 j = nI (L' j) ∧ gI t 18 (L' j) = nI (j + 1)) → (∀ j l, j < n' → l < n' → L' j = L' l → j = l) → (∀ c, c < 147968 → (∀ j, j < n' → L' j ≠ c) → gI t 18 c = 0) → n ≤ n' → (∀ j, j < n → L' j = L j) → (∀ v, v < W → gI t 22 v = nI (wh v) ∧ gI t 23 v = nI (lastW tg (tg v) v) - 1) → (∀ j, j < n' → gI t 20 j = nI (lastW tg j W) - 1 ∧ gI t 21 j = nI (fa_cnt (fun v => wh v == j) W)) → (∀ j, 0 < j → j < n' → ∃ l, l < j ∧ scM A past (L' l) (L' j) = true) → kfr τ t → ∀ jc, jc < n' → L' jc = c → ∃ n' L' tg' wh' τ', f_X11_reach_J59 t (nI i) (nI c) = some ((), τ') ∧ MS A past c0 n' (W + 1) i L' wh' tg' τ' ∧ n ≤ n' ∧ (∀ j, j < n → L' j = L j) ∧ (∀ v, v < W → wh' v = wh v ∧ tg' v = tg v) ∧ wh' W = i ∧ L' (tg' W) = c ∧ kfr τ τ' := by
    intro n' L' t p1 p2 p3 p4 p5 p6 p7 p8 p9 p10 jc jc1 jc2
    have n6' := code_room w (fun j hj => (p2 j hj).1) p3
    have tgl : ∀ v, v < W → up1 tg W jc v = tg v := fun v hv => up1_ne (by omega)
    have whl : ∀ v, v < W → up1 wh W i v = wh v := fun v hv => up1_ne (by omega)
    have pl : gI t 18 c = nI (jc + 1) := by rw [← jc2]; exact (p2 jc jc1).2.2
    have em1 : nI (jc + 1) - 1 = nI jc := by rw [show (1 : Int32) = nI 1 from rfl, nI_sub (by omega), Nat.add_sub_cancel]
    generalize es : sI (sI (sI (sI (sI t 22 W (nI i)) 23 W (nI (lastW tg jc W) - 1)) 20 jc (nI W)) 21 i (nI (fa_cnt (fun v => wh v == i) W + 1))) 1 44 (nI (W + 1)) = s
    have run : f_X11_reach_J59 t (nI i) (nI c) = some ((), s) := by
      unfold f_X11_reach_J59 f_X11_reach_J132
      rw [if_neg (nI_pos (by omega)), p1.2.1, bG_t (jin_nI (by omega) (by omega)), ix_nI (by omega), bV_e, bG_t (jin_nI (by omega) (by omega)), ix_nI (by omega), gI_ne (show (18 : Nat) ≠ 22 by decide), pl, em1, bG_t (jin_nI (by omega) (by omega)), gI_ne (show (1 : Nat) ≠ 22 by decide), p1.2.1, bG_t (jin_nI (by omega) (by omega)), ix_nI (by omega), ix_nI (by omega), gI_ne (show (20 : Nat) ≠ 22 by decide), (p8 jc jc1).1, bV_e, bG_t (jin_nI (by omega) (by omega)), gI_ne (show (18 : Nat) ≠ 23 by decide), gI_ne (show (18 : Nat) ≠ 22 by decide), pl, em1, bG_t (jin_nI (by omega) (by omega)), ix_nI (by omega), gI_ne (show (1 : Nat) ≠ 23 by decide), gI_ne (show (1 : Nat) ≠ 22 by decide), p1.2.1, bV_e, bG_t (jin_nI (by omega) (by omega)), bG_t (jin_nI (by omega) (by omega)), ix_nI (by omega), gI_ne (show (21 : Nat) ≠ 20 by decide), gI_ne (show (21 : Nat) ≠ 23 by decide), gI_ne (show (21 : Nat) ≠ 22 by decide), (p8 i (by omega)).2, nI_1, bV_e, gI_ne (show (1 : Nat) ≠ 21 by decide), gI_ne (show (1 : Nat) ≠ 20 by decide), gI_ne (show (1 : Nat) ≠ 23 by decide), gI_ne (show (1 : Nat) ≠ 22 by decide), p1.2.1, nI_1, bV_e, es]
    have o : ∀ a j, a ≠ 1 → a ≠ 20 → a ≠ 21 → a ≠ 22 → a ≠ 23 → gI s a j = gI t a j := fun a j h1 h2 h3 h4 h5 => by rw [← es, gI_ne h1, gI_ne h3, gI_ne h2, gI_ne h5, gI_ne h4]
    have o1 : gI s 1 39 = gI t 1 39 := by rw [← es, gI_nei (by decide), gI_ne (by decide), gI_ne (by decide), gI_ne (by decide), gI_ne (by decide)]
    have o22 : ∀ v, gI s 22 v = if v = W then nI i else gI t 22 v := fun v => by
      rw [← es, gI_ne (by decide), gI_ne (by decide), gI_ne (by decide), gI_ne (by decide)]
      by_cases z : v = W
      · subst z; rw [gI_sI, if_pos rfl]
      · rw [gI_nei z, if_neg z]
    have o23 : ∀ v, gI s 23 v = if v = W then nI (lastW tg jc W) - 1 else gI t 23 v := fun v => by
      rw [← es, gI_ne (by decide), gI_ne (by decide), gI_ne (by decide)]
      by_cases z : v = W
      · subst z; rw [gI_sI, if_pos rfl]
      · rw [gI_nei z, if_neg z, gI_ne (by decide)]
    have o20 : ∀ v, gI s 20 v = if v = jc then nI W else gI t 20 v := fun v => by
      rw [← es, gI_ne (by decide), gI_ne (by decide)]
      by_cases z : v = jc
      · subst z; rw [gI_sI, if_pos rfl]
      · rw [gI_nei z, if_neg z, gI_ne (by decide), gI_ne (by decide)]
    have o21 : ∀ v, gI s 21 v = if v = i then nI (fa_cnt (fun v => wh v == i) W + 1) else gI t 21 v := fun v => by
      rw [← es, gI_ne (by decide)]
      by_cases z : v = i
      · subst z; rw [gI_sI, if_pos rfl]
      · rw [gI_nei z, if_neg z, gI_ne (by decide), gI_ne (by decide), gI_ne (by decide)]
    refine ⟨n', L', up1 tg W jc, up1 wh W i, s, run, ⟨⟨o1.trans p1.1, by rw [← es, gI_sI], p1.2.2.1, p1.2.2.2⟩, fun j hj => ?_, p3, fun c' hc' hcn => ?_, fun v hv => ?_, fun j hj => ⟨?_, ?_⟩, fun u v hu hv x1 x2 => ?_, fun j c' hj hj2 hs => ?_, p9, n6'⟩, p5, p6, fun v hv => ⟨whl v hv, tgl v hv⟩, up1_at _ _ _, by rw [up1_at]; exact jc2, ?_⟩
    · rw [o 19 _ (by decide) (by decide) (by decide) (by decide) (by decide), o 18 _ (by decide) (by decide) (by decide) (by decide) (by decide)]
      exact p2 j hj
    · rw [o 18 _ (by decide) (by decide) (by decide) (by decide) (by decide)]; exact p4 c' hc' hcn
    · rw [o22, o23]
      by_cases z : v = W
      · subst z
        rw [if_pos rfl, if_pos rfl, up1_at, up1_at]
        refine ⟨Nat.le_refl _, by omega, jc1, rfl, ?_, ?_⟩
        · rw [lastW_cong (tg := up1 tg v jc) (tg' := tg) jc v tgl]
        · rw [p6 i hi, jc2]; exact hc
      · obtain ⟨v1, v2, v3, v4, v5, v6⟩ := d v (by omega)
        rw [if_neg z, if_neg z, whl v (by omega), tgl v (by omega)]
        refine ⟨v1, by omega, by omega, (p7 v (by omega)).1, ?_, ?_⟩
        · rw [(p7 v (by omega)).2, lastW_cong (tg := up1 tg W jc) (tg' := tg) (tg v) v (fun u hu => tgl u (by omega))]
        · rw [p6 _ v2, p6 _ v3]; exact v6
    · rw [o20]
      rw [lastW, up1_at]
      by_cases z : j = jc
      · subst z
        rw [if_pos rfl, if_pos rfl, ← nI_1]
        simp
      · rw [if_neg z, if_neg (fun e => z e.symm), (p8 j hj).1, lastW_cong (tg := up1 tg W jc) (tg' := tg) j W tgl]
    · rw [o21, fa_cnt, up1_at]
      have cg : ∀ x, fa_cnt (fun v => up1 wh W i v == x) W = fa_cnt (fun v => wh v == x) W := fun x => fa_cnt_cong fun v hv => by rw [whl v hv]
      rw [cg]
      by_cases z : j = i
      · subst z
        rw [if_pos rfl, beq_self_eq_true, if_pos rfl]
      · rw [if_neg z, beq_eq_false_iff_ne.mpr (fun e => z e.symm), if_neg (by decide), Nat.add_zero]
        exact (p8 j hj).2
    · by_cases z : u = W <;> by_cases y : v = W
      · omega
      · subst z
        rw [up1_at, whl v (by omega)] at x1
        rw [up1_at, tgl v (by omega)] at x2
        refine absurd ?_ (hn v (by omega) x1.symm)
        rw [← p6 _ (d v (by omega)).2.2.1, ← x2]; exact jc2
      · subst y
        rw [up1_at, whl u (by omega)] at x1
        rw [up1_at, tgl u (by omega)] at x2
        refine absurd ?_ (hn u (by omega) x1)
        rw [← p6 _ (d u (by omega)).2.2.1, x2]; exact jc2
      · rw [whl u (by omega), whl v (by omega)] at x1
        rw [tgl u (by omega), tgl v (by omega)] at x2
        exact f u v (by omega) (by omega) x1 x2
    · rw [p6 j (by omega)] at hs
      obtain ⟨v, v1, v2, v3⟩ := g j c' hj (by omega) hs
      exact ⟨v, by omega, by rw [whl v v1]; exact v2, by rw [tgl v v1, p6 _ (d v v1).2.2.1]; exact v3⟩
    · refine kfr_tr p10 ?_
      rw [← es]
      exact kfr_tr (kfr_tr (kfr_tr (kfr_tr (kfr_r (by decide)) (kfr_r (by decide))) (kfr_r (by decide))) (kfr_r (by decide))) (kfr_1 (by decide))
  unfold f_X11_reach
  rw [bG_t (jin_nI c14 (by omega)), ix_nI (by omega)]
  by_cases z : ∃ j, j < n ∧ L j = c
  · obtain ⟨j, j1, j2⟩ := z
    rw [if_neg]
    · exact rest n L τ ⟨a1, a2, a3, a4⟩ b c1 c2 (Nat.le_refl _) (fun _ _ => rfl) (fun v hv => ⟨(d v hv).2.2.2.1, (d v hv).2.2.2.2.1⟩) e r (kfr_rfl _) j j1 j2
    · rw [← j2, (b j j1).2.2]
      exact nI_ne0 (by omega) (by omega)
  · have nj : ∀ j, j < n → L j ≠ c := fun j hj e => z ⟨j, hj, e⟩
    have Ll : ∀ j, j < n → up1 L n c j = L j := fun j hj => up1_ne (by omega)
    rw [if_pos (c2 c c14 nj), a1, bG_t (jin_nI (by omega) (by omega)), bV_e, ix_nI (by omega), gI_ne (show (1 : Nat) ≠ 19 by decide), a1, bG_t (jin_nI (by omega) (by omega)), bV_e, ix_nI (by omega), gI_ne (show (1 : Nat) ≠ 20 by decide), gI_ne (show (1 : Nat) ≠ 19 by decide), a1, bG_t (jin_nI (by omega) (by omega)), bV_e, ix_nI (by omega), gI_ne (show (1 : Nat) ≠ 21 by decide), gI_ne (show (1 : Nat) ≠ 20 by decide), gI_ne (show (1 : Nat) ≠ 19 by decide), a1, nI_1, bV_e, bG_t (jin_nI c14 (by omega)), gI_sI, bV_e]
    generalize es : sI (sI (sI (sI (sI τ 19 n (nI c)) 20 n (-1)) 21 n 0) 1 39 (nI (n + 1))) 18 c (nI (n + 1)) = t
    have o : ∀ a j, a ≠ 1 → a ≠ 18 → a ≠ 19 → a ≠ 20 → a ≠ 21 → gI t a j = gI τ a j := fun a j h1 h2 h3 h4 h5 => by rw [← es, gI_ne h2, gI_ne h1, gI_ne h5, gI_ne h4, gI_ne h3]
    have o1 : ∀ j, j ≠ 39 → gI t 1 j = gI τ 1 j := fun j hj => by rw [← es, gI_ne (by decide), gI_nei hj, gI_ne (by decide), gI_ne (by decide), gI_ne (by decide)]
    have o18 : ∀ j, gI t 18 j = if j = c then nI (n + 1) else gI τ 18 j := fun j => by
      rw [← es]
      by_cases y : j = c
      · subst y; rw [gI_sI, if_pos rfl]
      · rw [gI_nei y, if_neg y, gI_ne (by decide), gI_ne (by decide), gI_ne (by decide), gI_ne (by decide)]
    have o19 : ∀ j, gI t 19 j = if j = n then nI c else gI τ 19 j := fun j => by
      rw [← es, gI_ne (by decide), gI_ne (by decide), gI_ne (by decide), gI_ne (by decide)]
      by_cases y : j = n
      · subst y; rw [gI_sI, if_pos rfl]
      · rw [gI_nei y, if_neg y]
    have o20 : ∀ j, gI t 20 j = if j = n then -1 else gI τ 20 j := fun j => by
      rw [← es, gI_ne (by decide), gI_ne (by decide), gI_ne (by decide)]
      by_cases y : j = n
      · subst y; rw [gI_sI, if_pos rfl]
      · rw [gI_nei y, if_neg y, gI_ne (by decide)]
    have o21 : ∀ j, gI t 21 j = if j = n then 0 else gI τ 21 j := fun j => by
      rw [← es, gI_ne (by decide), gI_ne (by decide)]
      by_cases y : j = n
      · subst y; rw [gI_sI, if_pos rfl]
      · rw [gI_nei y, if_neg y, gI_ne (by decide), gI_ne (by decide)]
    refine rest (n + 1) (up1 L n c) t ⟨by rw [← es, gI_ne (by decide), gI_sI], (o1 44 (by decide)).trans a2, by omega, (Ll 0 a3).trans a4⟩ (fun j hj => ?_) (fun j l hj hl ee => ?_) (fun c' hc' hcn => ?_) (by omega) Ll (fun v hv => ?_) (fun j hj => ?_) (fun j h0 hj => ?_) ?_ n (by omega) (up1_at _ _ _)
    · rw [o19, o18]
      by_cases y : j = n
      · subst y; rw [up1_at, if_pos rfl, if_pos rfl]; exact ⟨oc, rfl, rfl⟩
      · rw [up1_ne y, if_neg y, if_neg (nj j (by omega))]; exact b j (by omega)
    · by_cases q : j = n <;> by_cases s : l = n
      · omega
      · subst q; rw [up1_at, up1_ne s] at ee; exact absurd ee.symm (nj l (by omega))
      · subst s; rw [up1_at, up1_ne q] at ee; exact absurd ee (nj j (by omega))
      · rw [up1_ne q, up1_ne s] at ee; exact c1 j l (by omega) (by omega) ee
    · rw [o18, if_neg (fun e => hcn n (by omega) (by rw [up1_at]; exact e.symm))]
      exact c2 c' hc' (fun j hj e => hcn j (by omega) (by rw [Ll j hj]; exact e))
    · rw [o 22 _ (by decide) (by decide) (by decide) (by decide) (by decide), o 23 _ (by decide) (by decide) (by decide) (by decide) (by decide)]
      exact ⟨(d v hv).2.2.2.1, (d v hv).2.2.2.2.1⟩
    · rw [o20, o21]
      by_cases y : j = n
      · subst y
        rw [if_pos rfl, if_pos rfl]
        have l0 : lastW tg j W = 0 := by
          rcases Nat.eq_zero_or_pos (lastW tg j W) with q | q
          · exact q
          · have := (lastW_at tg j W q).1
            have l := lastW_le tg j W
            have := (d (lastW tg j W - 1) (by omega)).2.2.1
            omega
        have f0 : fa_cnt (fun v => wh v == j) W = 0 := by
          have : fa_cnt (fun v => wh v == j) W = fa_cnt (fun _ => false) W := fa_cnt_cong fun v hv => beq_eq_false_iff_ne.mpr (by have := (d v hv).2.1; omega)
          rw [this]
          have g : ∀ N, fa_cnt (fun _ => false) N = 0 := fun N => by
            induction N with
            | zero => rfl
            | succ N ih => rw [fa_cnt, ih]; rfl
          exact g _
        rw [l0, f0]
        exact ⟨by decide, rfl⟩
      · rw [if_neg y, if_neg y]; exact e j (by omega)
    · by_cases y : j = n
      · subst y
        exact ⟨i, hi, by rw [up1_at, Ll i hi]; exact hc⟩
      · obtain ⟨l, l1, l2⟩ := r j h0 (by omega)
        exact ⟨l, l1, by rw [Ll l (by omega), up1_ne y]; exact l2⟩
    · rw [← es]
      exact kfr_tr (kfr_tr (kfr_tr (kfr_tr (kfr_r (by decide)) (kfr_r (by decide))) (kfr_r (by decide))) (kfr_1 (by decide))) (kfr_r (by decide))
end MSP
