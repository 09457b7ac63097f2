/-! the same town with other grudges -/
def gT (A : Tb) (f : Nat → Nat) (m : Nat) : Tb := fun a i => if a = 6 then f i else if a = 1 ∧ i = 6 then m else A a i
section GT
variable {A : Tb} {f : Nat → Nat} {m : Nat}
theorem gT_P : tP (gT A f m) = tP A := rfl
theorem gT_G : tG (gT A f m) = m := rfl
theorem gT_6 (i : Nat) : gT A f m 6 i = f i := rfl
theorem gT_wA (w : wA A) : wA (gT A f m) := w
theorem gT_xW {σ : jS} (h : xW σ A) : xW σ (gT A f m) := h
theorem gT_ok {x : Nat} (h : okx A x) : okx (gT A f m) x := h
theorem gT_cv (x : Nat) : cv (gT A f m) x = cv A x := rfl
theorem gT_mayP : mayP (gT A f m) = mayP A := rfl
theorem gT_behQ : behQ (gT A f m) = behQ A := rfl
theorem gT_okc (c : Nat) : okc (gT A f m) c = okc A c := rfl
theorem gT_scM (c c' : Nat) : scM (gT A f m) 1 c c' = scM A 1 c c' := by
  apply bool_iff
  rw [scM_iff, scM_iff]
  have e : spr (gT A f m) 1 c = spr A 1 c := by
    unfold spr
    show (!(decide (mayS A c 0 = 0) && decide (mayS A c 1 = 0)) && (((1 : Nat) == 1) || _)) = (!(decide (mayS A c 0 = 0) && decide (mayS A c 1 = 0)) && (((1 : Nat) == 1) || _))
    rw [show ((1 : Nat) == 1) = true from rfl, Bool.true_or, Bool.true_or]
  rw [e]
  exact Iff.rfl
theorem gT_MS {c0 n W i : Nat} {L wh tg : Nat → Nat} {τ : jS} (h : MS A 1 c0 n W i L wh tg τ) : MS (gT A f m) 1 c0 n W i L wh tg τ := by
  obtain ⟨a, b, c, d, e, g, u, v, r, n6⟩ := h
  refine ⟨a, b, c, d, fun v hv => ?_, g, u, fun j c hj hj2 hs => v j c hj hj2 (by rw [← gT_scM (f := f) (m := m)]; exact hs), fun j hj hj2 => ?_, n6⟩
  · obtain ⟨x1, x2, x3, x4, x5, x6⟩ := e v hv
    exact ⟨x1, x2, x3, x4, x5, by rw [gT_scM]; exact x6⟩
  · obtain ⟨l, l1, l2⟩ := r j hj hj2
    exact ⟨l, l1, by rw [gT_scM]; exact l2⟩
end GT
theorem gT_self (A : Tb) : gT A (A 6) (tG A) = A := by
  funext a i
  unfold gT tG
  by_cases z : a = 6
  · rw [if_pos z, z]
  · rw [if_neg z]
    by_cases y : a = 1 ∧ i = 6
    · rw [if_pos y, y.1, y.2]
    · rw [if_neg y]
/-- in how many, told by the reference's ways -/
def isV (B : Tb) (s n W : Nat) (L wh tg : Nat → Nat) (v : Nat) : Prop := ∃ nd, FX (fun j => j < n) (fun j => !bears B (cOne (L j)) (cTwo (L j))) (fun j => cSide (L j) == s) (scI W wh tg) nd ∧ nd 0 = v
section IV
variable {A B : Tb} {past c0 n W s : Nat} {L wh tg : Nat → Nat} {τ : jS}
theorem scI_in (hS : MS A past c0 n W n L wh tg τ) {x y : Nat} (hs : scI W wh tg x y = true) : y < n := by
  obtain ⟨u, u1, _, u3⟩ := scI_iff.mp hs
  rw [← u3]; exact (hS.2.2.2.2.1 u u1).2.2.1
theorem isV_uniq (hS : MS A past c0 n W n L wh tg τ) {v v' : Nat} (h : isV B s n W L wh tg v) (h' : isV B s n W L wh tg v') : v = v' := by
  obtain ⟨nd, a, rfl⟩ := h
  obtain ⟨nd', a', rfl⟩ := h'
  exact FX_unique (fun x y _ _ hs => scI_in hS hs) a a' hS.1.2.2.1
theorem isV_end (hS : MS A past c0 n W n L wh tg τ) {v : Nat} (h : isV B s n W L wh tg v) (he : ended B c0 = true) : v = 1 := by
  obtain ⟨nd, a, rfl⟩ := h
  refine (a 0 hS.1.2.2.1).1.mp ?_
  show (!bears B (cOne (L 0)) (cTwo (L 0))) = true
  rw [hS.1.2.2.2]
  unfold ended at he
  exact he
theorem m_solveV (hS : MS A past c0 n W n L wh tg τ) (w : wA A) (h28 : ∀ a b, a < 16 → b < 16 → gI τ 28 (16 * a + b) = bI (bears B a b)) (s2 : s < 2) : ∃ v τ', f_X11_solve τ (nI s) = some ((), τ') ∧ isV B s n W L wh tg v ∧ gI τ' 27 0 = rI0 v ∧ v ≤ 6273 ∧ sfr τ τ' := by
  obtain ⟨nd, τ', c1, c2, c3, c4, c5⟩ := m_solve (pc := fun j => cSide (L j) == s) (pI := nI s) (br := fun j => bears B (cOne (L j)) (cTwo (L j))) hS (fun j hj => h28 _ _ (cOne_lt (hS.2.1 j hj).1.1) (cTwo_lt (L j))) (fun j hj => side_pb s2 _ (cSide_lt (L j))) (ways_few w hS)
  exact ⟨nd 0, τ', c1, ⟨nd, c2, rfl⟩, c3 0 hS.1.2.2.1, c4 0 hS.1.2.2.1, c5⟩
theorem x_solveV {k x v m : Nat} {f : Nat → Nat} {σ : jS} (hk : k ≤ 4096) (w : wA A) (hw : xW σ A) (hF : xF σ (gT A f m)) (ok : okx A x) (sx : sX k σ) (hS : MS A 1 (cv A x) n W n L wh tg τ) (s2 : s < 2) (hv : isV (gT A f m) s n W L wh tg v) : ∃ σ', f_X0_solve σ (nI x) (nI s) 0 = some (rI0 v, σ') ∧ gfr σ σ' ∧ sX k σ' := by
  obtain ⟨nd, hv1, hv2⟩ := hv
  obtain ⟨ndX, nX, mX, LX, QX, lm, σ', a1, a2, a3, a4⟩ := x_solve (pI := nI s) (pc := fun y => (fun b => b == s) (y % 2)) hk (gT_wA (f := f) (m := m) w) (gT_xW hw) hF (gT_ok ok) sx (sc := 0) (by decide) (fun y _ => side_pb s2 _ (Nat.mod_lt y (by decide)))
  obtain ⟨j, j1, j2, j3⟩ := both_need (pb := fun b => b == s) (br := fun j => bears (gT A f m) (cOne (L j)) (cTwo (L j))) (gT_wA w) a2 (gT_MS hS) (fun j _ => bears_ended) hv1 x ⟨0, a2.1.2.2.2.1, a2.1.2.2.2.2.1⟩
  have j0 : j = 0 := start_0 (A := gT A f m) (gT_MS hS) j1 j2
  subst j0
  rw [← hv2, ← j3]
  exact ⟨σ', a1, a3, a4⟩
end IV
/-- toggled, with all that stays -/
theorem x_toggle2 {σ : jS} {F G : Nat → Nat → Bool} {a b : Nat} (ha : a < 16) (hb : b < 16) (hn : a ≠ b) (hF : ∀ p, p < 16 → gI σ 11 p = nI (bm (F p) 16)) (hG : ∀ p q, p < 16 → q < 16 → G p q = (F p q != isPr a b p q)) : ∃ σ', f_X0_toggleFoes σ (nI a) (nI b) = some ((), σ') ∧ fr [11] σ σ' ∧ (∀ p, p < 16 → gI σ' 11 p = nI (bm (G p) 16)) ∧ (∀ p, 16 ≤ p → gI σ' 11 p = gI σ 11 p) ∧ ∀ a i, gL σ' a i = gL σ a i := by
  obtain ⟨σ', h1, h2, h3⟩ := x_toggle (h := 11) (Or.inl rfl) ha hb hn hF hG
  have run : f_X1_toggle σ 11 (nI a) (nI b) = some ((), sI (sI σ 11 a (nI (bm (fun k => F a k != (k == b)) 16))) 11 b (nI (bm (fun k => F b k != (k == a)) 16))) := by
    unfold f_X1_toggle
    rw [foe_at (Or.inl rfl) ha, bC_e, hF a ha, nI_xor1 _ hb, foe_put (Or.inl rfl) ha, bD_e, foe_at (Or.inl rfl) hb, bC_e, gI_nei (fun e => hn e.symm), hF b hb, nI_xor1 _ ha, foe_put (Or.inl rfl) hb, bD_e]
  have e : σ' = sI (sI σ 11 a (nI (bm (fun k => F a k != (k == b)) 16))) 11 b (nI (bm (fun k => F b k != (k == a)) 16)) := by
    rw [run] at h1
    exact (congrArg Prod.snd (Option.some.inj h1)).symm
  refine ⟨σ', ?_, h2, h3, fun p hp => ?_, fun a i => ?_⟩
  · unfold f_X0_toggleFoes
    rw [h1, bD_e]
  · rw [e, gI_nei (by omega), gI_nei (by omega)]
  · rw [e]; rfl
/-- toggled, gone on, and toggled back: as if nothing had been toggled -/
theorem back_11 {σ σ1 σ2 σ3 : jS} {F : Nat → Nat → Bool} (h0 : ∀ p, p < 16 → gI σ 11 p = nI (bm (F p) 16)) (a1 : fr [11] σ σ1) (a2 : ∀ p, 16 ≤ p → gI σ1 11 p = gI σ 11 p) (a3 : ∀ a i, gL σ1 a i = gL σ a i) (b : fr xH0 σ1 σ2) (c1 : fr [11] σ2 σ3) (c2 : ∀ p, 16 ≤ p → gI σ3 11 p = gI σ2 11 p) (c3 : ∀ a i, gL σ3 a i = gL σ2 a i) (c4 : ∀ p, p < 16 → gI σ3 11 p = nI (bm (F p) 16)) : fr xH0 σ σ3 := by
  refine ⟨c1.1.trans (b.1.trans a1.1), fun a ha i => ?_⟩
  by_cases z : a = 11
  · subst z
    refine ⟨?_, (c3 _ _).trans ((fr_L b (by decide) _).trans (a3 _ _))⟩
    by_cases y : i < 16
    · rw [c4 i y, h0 i y]
    · rw [c2 i (by omega), fr_I b (by decide), a2 i (by omega)]
  · have n11 : a ∉ [11] := fun q => z (List.mem_singleton.mp q)
    exact ⟨(fr_I c1 n11 i).trans ((fr_I b ha i).trans (fr_I a1 n11 i)), (fr_L c1 n11 i).trans ((fr_L b ha i).trans (fr_L a1 n11 i))⟩
