/-! the class follows PEACE's way -/
theorem bitloopE {S O : Type} {f : (Int64 × Int32 × S) → Option ((Int64 × Int32 × S) ⊕ O)} (I : Nat → S → Prop) (q : O → Prop) (hend : ∀ s, I 0 s → ∃ o, f (0, 0, s) = some (.inr o) ∧ q o) (hs : ∀ m k n s, m < 2 ^ 56 → lowAt m k → 0 < n → n ≤ 64 → n = fa_cnt m.testBit 64 → I m s → (∃ s', f (lN m, nI n, s) = some (.inl (lN (m &&& (m - 1)), nI n + (-1), s')) ∧ I (m &&& (m - 1)) s') ∨ (∃ o, f (lN m, nI n, s) = some (.inr o) ∧ q o)) {m0 : Nat} (hm0 : m0 < 2 ^ 56) {s0 : S} (h0 : I m0 s0) : ∃ o, jloop jFuel f (lN m0, nI (fa_cnt m0.testBit 64), s0) = some o ∧ q o := by
  have hn := fa_cnt_le m0.testBit 64
  refine jloop_ex (fun i t => ∃ m s, m < 2 ^ 56 ∧ t = (lN m, nI (fa_cnt m.testBit 64), s) ∧ I m s ∧ fa_cnt m.testBit 64 + i = fa_cnt m0.testBit 64) (fa_cnt m0.testBit 64) q ⟨m0, s0, hm0, rfl, h0, by omega⟩ (jfuel_big (by omega)) ?_ ?_
  · rintro t ⟨m, s, m1, rfl, m2, m3⟩
    have z : fa_cnt m.testBit 64 = 0 := by omega
    have mz := (cnt_zero (Nat.lt_trans m1 (by decide))).mp z
    subst mz
    rw [z]
    exact hend s m2
  · rintro i t hi ⟨m, s, m1, rfl, m2, m3⟩
    have hne : m ≠ 0 := by
      rintro rfl
      have := (cnt_zero (m := 0) (n := 64) (by decide)).mpr rfl
      omega
    obtain ⟨k, hk⟩ := low_ex hne
    have hc := low_cnt (n := 64) hk (by have := low_lt hk m1; omega)
    rcases hs m k _ s m1 hk (by omega) (fa_cnt_le _ 64) rfl m2 with ⟨s', e1, e2⟩ | ⟨o, e1, e2⟩
    · refine Or.inl ⟨_, e1, _, s', Nat.lt_of_le_of_lt Nat.and_le_left m1, ?_, e2, by omega⟩
      refine Prod.ext rfl (Prod.ext ?_ rfl)
      show nI _ + (-1) = nI _
      rw [← hc]
      show nI (_ + 1) + (-1) = _
      rw [nI_succ]
      simp [Int32.add_assoc]
    · exact Or.inr ⟨o, e1, e2⟩
/-- those walked to -/
def WT (V : Nat → Prop) (lm c : Nat) (T : Nat → Nat) (σ : jS) : Prop := gI σ 4 2 = nI c ∧ (∀ j, j < c → V (T j) ∧ gI σ 13 j = nI (T j) ∧ gI σ 15 (T j) = 1) ∧ (∀ j l, j < c → l < c → T j = T l → j = l) ∧ (∀ y, V y → (∀ j, j < c → T j ≠ y) → gI σ 15 y = 0) ∧ ∀ y, y < 6272 → ∃ v, v ≤ lm ∧ gI σ 15 y = nI v
def wfr (σ σ' : jS) : Prop := fr [4, 13, 15] σ σ' ∧ ∀ i, i ≠ 2 → gI σ' 4 i = gI σ 4 i
theorem wfr_rfl (σ : jS) : wfr σ σ := ⟨fr_rfl _ _, fun _ _ => rfl⟩
theorem wfr_tr {a b c : jS} (h : wfr a b) (g : wfr b c) : wfr a c := ⟨fr_trans h.1 g.1, fun i q => (g.2 i q).trans (h.2 i q)⟩
section WK
variable {V : Nat → Prop} {lm c : Nat} {T : Nat → Nat} {σ : jS}
theorem x_walkTo (h : WT V lm c T σ) (hV : ∀ y, V y → y < 6272) (h1 : 1 ≤ lm) {y : Nat} (hy : V y) : ∃ c' T' σ', f_X0_walkTo σ (nI y) = some ((), σ') ∧ WT V lm c' T' σ' ∧ c ≤ c' ∧ (∀ j, j < c → T' j = T j) ∧ (∃ j, j < c' ∧ T' j = y) ∧ (∀ j, c ≤ j → j < c' → T' j = y) ∧ wfr σ σ' := by
  have y6 := hV y hy
  obtain ⟨a1, a2, a3, a4, a5⟩ := id h
  unfold f_X0_walkTo
  by_cases z : ∃ j, j < c ∧ T j = y
  · obtain ⟨j, j1, j2⟩ := z
    have e : gI σ 15 y = 1 := by rw [← j2]; exact (a2 j j1).2.2
    rw [at15 y6, bC_e, e, if_neg (by decide)]
    exact ⟨c, T, σ, rfl, h, Nat.le_refl _, fun _ _ => rfl, ⟨j, j1, j2⟩, fun l h1 h2 => by omega, wfr_rfl σ⟩
  · have ne : ∀ j, j < c → T j ≠ y := fun j hj e => z ⟨j, hj, e⟩
    have c6 : c < 6272 := by
      have := pigeon 6272 (c + 1) (up1 T c y) (fun j hj => by
        by_cases r : j = c
        · subst r; rw [up1_at]; exact y6
        · rw [up1_ne r]; exact hV _ (a2 j (by omega)).1) (fun j l hj hl e => by
        by_cases r : j = c <;> by_cases t : l = c
        · omega
        · subst r; rw [up1_at, up1_ne t] at e; exact absurd e.symm (ne l (by omega))
        · subst t; rw [up1_at, up1_ne r] at e; exact absurd e (ne j (by omega))
        · rw [up1_ne r, up1_ne t] at e; exact a3 j l (by omega) (by omega) e)
      omega
    rw [at15 y6, bC_e, a4 y hy ne, if_pos rfl, put15 y6, bD_e, gI_ne (show (4 : Nat) ≠ 15 by decide), a1, put13 c6, bD_e, gI_ne (show (4 : Nat) ≠ 13 by decide), gI_ne (show (4 : Nat) ≠ 15 by decide), a1, nI_1, bV_e]
    generalize es : sI (sI (sI σ 15 y 1) 13 c (nI y)) 4 2 (nI (c + 1)) = s
    have o13 : ∀ j, gI s 13 j = if j = c then nI y else gI σ 13 j := fun j => by
      rw [← es, gI_ne (by decide)]
      by_cases r : j = c
      · subst r; rw [gI_sI, if_pos rfl]
      · rw [gI_nei r, if_neg r, gI_ne (by decide)]
    have o15 : ∀ j, gI s 15 j = if j = y then 1 else gI σ 15 j := fun j => by
      rw [← es, gI_ne (by decide), gI_ne (by decide)]
      by_cases r : j = y
      · subst r; rw [gI_sI, if_pos rfl]
      · rw [gI_nei r, if_neg r]
    refine ⟨c + 1, up1 T c y, s, rfl, ⟨by rw [← es, gI_sI], fun j hj => ?_, fun j l hj hl e => ?_, fun u hu hn => ?_, fun u hu => ?_⟩, by omega, fun j hj => up1_ne (by omega), ⟨c, by omega, up1_at _ _ _⟩, fun j h2 h3 => ?_, ?_, fun i hi => ?_⟩
    · rw [o13, o15]
      by_cases r : j = c
      · subst r; rw [up1_at, if_pos rfl, if_pos rfl]; exact ⟨hy, rfl, rfl⟩
      · rw [up1_ne r, if_neg r, if_neg (ne j (by omega))]; exact a2 j (by omega)
    · by_cases r : j = c <;> by_cases t : l = c
      · omega
      · subst r; rw [up1_at, up1_ne t] at e; exact absurd e.symm (ne l (by omega))
      · subst t; rw [up1_at, up1_ne r] at e; exact absurd e (ne j (by omega))
      · rw [up1_ne r, up1_ne t] at e; exact a3 j l (by omega) (by omega) e
    · have hne : u ≠ y := fun e => hn c (by omega) (by rw [up1_at]; exact e.symm)
      rw [o15, if_neg hne]
      exact a4 u hu fun j hj e => hn j (by omega) (by rw [up1_ne (by omega)]; exact e)
    · rw [o15]
      by_cases r : u = y
      · rw [if_pos r]; exact ⟨1, h1, rfl⟩
      · rw [if_neg r]; exact a5 u hu
    · have : j = c := by omega
      subst this; exact up1_at _ _ _
    · rw [← es]
      exact fr_trans (fr_trans (fr_sI _ _ _ (by decide)) (fr_sI _ _ _ (by decide))) (fr_sI _ _ _ (by decide))
    · rw [← es, gI_nei hi, gI_ne (by decide), gI_ne (by decide)]
end WK
theorem rI0_match {a b : Nat} (ha : 2 ≤ a) (h1 : a ≤ 100000) (h2 : b ≤ 100000) : rI0 b = rI0 a - 1 ↔ b + 1 = a := by
  unfold rI0
  rw [if_neg (show ¬ a = 0 by omega), show (1 : Int32) = nI 1 from rfl, nI_sub (by omega)]
  by_cases z : b = 0
  · rw [if_pos z]
    exact ⟨fun e => absurd e (fun u => nI_pos (n := a - 1 - 1) (by omega) (by rw [← u]; decide)), fun e => by omega⟩
  · rw [if_neg z, nI_eq (by omega) (by omega)]
    omega
/-- what PEACE's way goes on with -/
def CL (B : Tb) (s c : Nat) (T nd : Nat → Nat) (y : Nat) : Prop := (y % 2 = s → ∃ j, j < c ∧ scX B y (T j) = true ∧ nd (T j) + 1 = nd y) ∧ (y % 2 ≠ s → ∀ z, scX B y z = true → ∃ j, j < c ∧ T j = z)
theorem CL_mono {B : Tb} {s c c' y : Nat} {T T' nd : Nat → Nat} (h : CL B s c T nd y) (hc : c ≤ c') (ht : ∀ j, j < c → T' j = T j) : CL B s c' T' nd y := by
  refine ⟨fun e => ?_, fun e z hz => ?_⟩
  · obtain ⟨j, j1, j2, j3⟩ := h.1 e
    exact ⟨j, by omega, by rw [ht j j1]; exact j2, by rw [ht j j1]; exact j3⟩
  · obtain ⟨j, j1, j2⟩ := h.2 e z hz
    exact ⟨j, by omega, by rw [ht j j1]; exact j2⟩
section WO
variable {B : Tb} {n lm c s : Nat} {L T nd : Nat → Nat} {σ : jS}
theorem x_walkOn (w : wA B) (hW : xW σ B) (hV : ∀ y, vL n L y → okx B y) (cl : ∀ x y, vL n L x → scX B x y = true → vL n L y) (h14 : ∀ y, vL n L y → gI σ 14 y = if nd y = 0 then -1 else nI (nd y)) (ndb : ∀ y, vL n L y → nd y ≤ 6272) (hF : FX (vL n L) (tmX B 0) (fun y => y % 2 == s) (scX B) nd) (s2 : s < 2) (h1 : 1 ≤ lm) (h : WT (vL n L) lm c T σ) {y : Nat} (hy : vL n L y) (y2 : 2 ≤ nd y) (hst : tmX B 0 y = false) : ∃ c' T' σ', f_X0_walkOn σ (nI y) (nI s) = some ((), σ') ∧ WT (vL n L) lm c' T' σ' ∧ c ≤ c' ∧ (∀ j, j < c → T' j = T j) ∧ CL B s c' T' nd y ∧ (∀ j, c ≤ j → j < c' → nd (T' j) ≠ 0) ∧ wfr σ σ' := by
  have ok := hV y hy
  have y6 := ok.1
  have hV6 : ∀ y, vL n L y → y < 6272 := fun y hy => (hV y hy).1
  have by' := ndb y hy
  obtain ⟨_, fx⟩ := hF y hy
  obtain ⟨fp, fw⟩ := fx hst
  have peace : y % 2 = s → ∃ z, scX B y z = true ∧ nd z + 1 = nd y := fun e => by
    rcases fp (beq_iff_eq.mpr e) with ⟨z, _⟩ | ⟨_, ⟨z, z1, z2, z3⟩, _⟩
    · omega
    · exact ⟨z, z1, z3.symm⟩
  have war : y % 2 ≠ s → ∀ z, scX B y z = true → nd z ≠ 0 := fun e z hz => by
    rcases fw (beq_eq_false_iff_ne.mpr e) with ⟨z, _⟩ | ⟨_, _, a⟩
    · omega
    · exact (a z hz).1
  have st0 : stN B (cv B y) = 0 := by
    by_cases e : y % 2 = s
    · obtain ⟨z, z1, _⟩ := peace e
      exact (scX_iff.mp z1).1
    · rcases fw (beq_eq_false_iff_ne.mpr e) with ⟨z, _⟩ | ⟨_, ⟨z, z1, _⟩, _⟩
      · omega
      · exact (scX_iff.mp z1).1
  have need : ∀ t, wfr σ t → ∀ z, vL n L z → f_X0_neededAt t (nI z) = some (rI0 (nd z)) := fun t ht z hz => x_neededAt (hV6 z hz) (by have := ndb z hz; omega) ((fr_I ht.1 (by decide) _).trans (h14 z hz))
  unfold f_X0_walkOn
  rw [x_onwardOf w hW ok, bC_e]
  by_cases z : bm (ows B y (y % 2)) 56 = 0
  · -- he passes
    have sc : scX B y (flp y) = true := scX_iff.mpr ⟨st0, Or.inl ⟨z, rfl⟩⟩
    have only : ∀ u, scX B y u = true → u = flp y := fun u hu => by
      obtain ⟨_, ⟨_, e⟩ | ⟨d, d1, d2, _⟩⟩ := scX_iff.mp hu
      · exact e
      · rw [bm_zero.mp z d d1] at d2; cases d2
    obtain ⟨c', T', σ', e1, e2, e3, e4, e5, e6, e7⟩ := x_walkTo h hV6 h1 (cl _ _ hy sc)
    refine ⟨c', T', σ', ?_, e2, e3, e4, ⟨fun e => ?_, fun e u hu => ?_⟩, fun j j1 j2 => ?_, e7⟩
    · rw [if_pos ((lgc0 (bm56 _)).mpr z), show nI y ^^^ (1 : Int32) = nI (flp y) from by rw [show (1 : Int32) = nI 1 from rfl, fb_xorI, xor_flp y6], e1, bD_e]
      unfold f_X0_walkOn_J19
      rw [z]
      have b0 : f_J13_bitCount_95d88 (lN 0) = some (nI 0) := x_bc64 (m := 0) (by decide)
      rw [b0, bC_e]
      refine jloop_0 (fun _ => (lN 0, nI 0, σ')) 0 rfl (jfuel_big (by omega)) ?_ (fun i hi => absurd hi (Nat.not_lt_zero i))
      show f_X0_walkOn_B25 σ' (nI y) (nI s) (lN 0) (nI 0) = _
      unfold f_X0_walkOn_B25 f_X0_walkOn_J107
      rw [if_pos (show nI 0 ≤ 0 by decide), jw_e]
    · obtain ⟨u, u1, u2⟩ := peace e
      have := only u u1
      subst this
      obtain ⟨j, j1, j2⟩ := e5
      exact ⟨j, j1, by rw [j2]; exact sc, by rw [j2]; exact u2⟩
    · rw [only u hu]; exact e5
    · rw [e6 j j1 j2]
      by_cases e : y % 2 = s
      · obtain ⟨u, u1, u2⟩ := peace e
        rw [only u u1] at u2
        omega
      · exact war e _ sc
  · -- he hands on
    rw [if_neg (fun e => z ((lgc0 (bm56 _)).mp e))]
    unfold f_X0_walkOn_J19
    rw [x_bc64 (bm56 _), bC_e]
    have scD : ∀ d, d < 56 → ows B y (y % 2) d = true → scX B y (afx y d) = true := fun d d1 d2 => scX_iff.mpr ⟨st0, Or.inr ⟨d, d1, d2, rfl⟩⟩
    have key := bitloopE (f := fun u => f_X0_walkOn_B25 u.2.2 (nI y) (nI s) u.1 u.2.1) (fun mk t => ∃ c1 T1, WT (vL n L) lm c1 T1 t ∧ c ≤ c1 ∧ (∀ j, j < c → T1 j = T j) ∧ (∀ j, c ≤ j → j < c1 → nd (T1 j) ≠ 0) ∧ wfr σ t ∧ (∀ d, mk.testBit d = true → d < 56 ∧ ows B y (y % 2) d = true) ∧ (y % 2 = s → ∀ d, d < 56 → ows B y (y % 2) d = true → mk.testBit d = false → nd (afx y d) + 1 ≠ nd y) ∧ (y % 2 ≠ s → ∀ d, d < 56 → ows B y (y % 2) d = true → mk.testBit d = false → ∃ j, j < c1 ∧ T1 j = afx y d)) (fun (o : Unit × jS) => ∃ c' T', WT (vL n L) lm c' T' o.2 ∧ c ≤ c' ∧ (∀ j, j < c → T' j = T j) ∧ CL B s c' T' nd y ∧ (∀ j, c ≤ j → j < c' → nd (T' j) ≠ 0) ∧ wfr σ o.2) ?_ ?_ (bm_lt (ows B y (y % 2)) 56) (s0 := σ) ⟨c, T, h, Nat.le_refl _, fun _ _ => rfl, fun j h1 h2 => by omega, wfr_rfl σ, fun d hd => by rw [bm_bit] at hd; simpa using hd, fun _ d hd ho hm => (by rw [bm_bit, decide_eq_true hd, ho] at hm; cases hm), fun _ d hd ho hm => (by rw [bm_bit, decide_eq_true hd, ho] at hm; cases hm)⟩
    · obtain ⟨o, o1, c', T', o2⟩ := key
      exact ⟨c', T', o.2, o1, o2⟩
    · rintro t ⟨c1, T1, k1, k2, k3, k4, k5, k6, k7, k8⟩
      refine ⟨((), t), ?_, c1, T1, k1, k2, k3, ⟨fun e => ?_, fun e u hu => ?_⟩, k4, k5⟩
      · show f_X0_walkOn_B25 t (nI y) (nI s) 0 0 = _
        unfold f_X0_walkOn_B25 f_X0_walkOn_J107
        rw [if_pos (show (0 : Int32) ≤ 0 by decide), jw_e]
      · exfalso
        obtain ⟨u, u1, u2⟩ := peace e
        obtain ⟨_, ⟨b, _⟩ | ⟨d, d1, d2, d3⟩⟩ := scX_iff.mp u1
        · exact z b
        · rw [d3] at u2
          exact k7 e d d1 d2 (Nat.zero_testBit d) u2
      · obtain ⟨_, ⟨b, _⟩ | ⟨d, d1, d2, d3⟩⟩ := scX_iff.mp hu
        · exact absurd b z
        · rw [d3]; exact k8 e d d1 d2 (Nat.zero_testBit d)
    · rintro mk kk nn t hm hk hn0 hn64 hnn ⟨c1, T1, k1, k2, k3, k4, k5, k6, k7, k8⟩
      obtain ⟨k56, kow⟩ := k6 kk hk.1
      have sck := scD kk k56 kow
      have vk := cl _ _ hy sck
      have bk := ndb _ vk
      have head : ∀ r, (∀ y0, (if rI0 (nd (afx y kk)) = rI0 (nd y) - 1 then f_X0_walkOn_J68 t (nI y) (nI s) (lN (mk &&& (mk - 1))) (nI nn) (nI (afx y kk)) 1 else f_X0_walkOn_J68 t (nI y) (nI s) (lN (mk &&& (mk - 1))) (nI nn) (nI (afx y kk)) 0) = y0 → y0 = r) → f_X0_walkOn_B25 t (nI y) (nI s) (lN mk) (nI nn) = r := fun r hr => by
        unfold f_X0_walkOn_B25
        rw [if_neg (nI_nle hn0 (by omega)), x_lowest hk (Nat.lt_trans hm (by decide)), bC_e, x_after y6, bC_e, low_dec hk (Nat.lt_trans hm (by decide)), bV_e, need t k5 _ vk, bC_e, need t k5 _ hy, bC_e]
        exact hr _ rfl
      have sub : ∀ d, (mk &&& (mk - 1)).testBit d = true → d < 56 ∧ ows B y (y % 2) d = true := fun d hd => by
        rw [low_drop hk d, Bool.and_eq_true] at hd
        exact k6 d hd.1
      show (∃ s', f_X0_walkOn_B25 t (nI y) (nI s) (lN mk) (nI nn) = _ ∧ _) ∨ (∃ o, f_X0_walkOn_B25 t (nI y) (nI s) (lN mk) (nI nn) = _ ∧ _)
      by_cases e : y % 2 = s
      · have es : nI y &&& 1 = nI s := by rw [and1, e]
        by_cases mt : nd (afx y kk) + 1 = nd y
        · right
          obtain ⟨c2, T2, t2, u1, u2, u3, u4, u5, u6, u7⟩ := x_walkTo k1 hV6 h1 vk
          refine ⟨((), t2), head _ (fun y0 hy0 => ?_), c2, T2, u2, by omega, fun j hj => (u4 j (by omega)).trans (k3 j hj), ⟨fun _ => ?_, fun q => absurd e q⟩, fun j j1 j2 => ?_, wfr_tr k5 u7⟩
          · rw [← hy0, if_pos ((rI0_match y2 (by omega) (by omega)).mpr mt)]
            unfold f_X0_walkOn_J68 f_X0_walkOn_J82 f_X0_walkOn_J88 f_X0_walkOn_J100
            rw [if_pos es, if_neg (show ¬ (1 : Int32) = 0 by decide), u1, bD_e, if_pos es, if_neg (show ¬ (1 : Int32) = 0 by decide), jw_e]
          · obtain ⟨j, j1, j2⟩ := u5
            exact ⟨j, j1, by rw [j2]; exact sck, by rw [j2]; exact mt⟩
          · rcases Nat.lt_or_ge j c1 with q | q
            · rw [u4 j q]; exact k4 j j1 q
            · rw [u6 j q j2]; omega
        · left
          refine ⟨t, head _ (fun y0 hy0 => ?_), c1, T1, k1, k2, k3, k4, k5, sub, fun _ d d1 d2 d3 => ?_, fun q => absurd e q⟩
          · rw [← hy0, if_neg (fun q => mt ((rI0_match y2 (by omega) (by omega)).mp q))]
            unfold f_X0_walkOn_J68 f_X0_walkOn_J88 f_X0_walkOn_J101
            rw [if_pos es, if_pos rfl, if_pos es, if_pos rfl, bV_e]
          · by_cases q : d = kk
            · subst q; exact mt
            · rw [low_drop hk d, decide_eq_true q, Bool.and_true] at d3
              exact k7 e d d1 d2 d3
      · have es : ¬ nI y &&& 1 = nI s := by
          rw [and1]
          exact fun q => e ((nI_eq (by omega) (by omega)).mp q)
        left
        obtain ⟨c2, T2, t2, u1, u2, u3, u4, u5, u6, u7⟩ := x_walkTo k1 hV6 h1 vk
        refine ⟨t2, head _ (fun y0 hy0 => ?_), c2, T2, u2, by omega, fun j hj => (u4 j (by omega)).trans (k3 j hj), fun j j1 j2 => ?_, wfr_tr k5 u7, sub, fun q => absurd q e, fun _ d d1 d2 d3 => ?_⟩
        · rw [← hy0]
          unfold f_X0_walkOn_J68 f_X0_walkOn_J82 f_X0_walkOn_J88 f_X0_walkOn_J101
          rw [if_neg es, if_neg es, u1, bD_e, if_neg es, bV_e]
          split <;> rfl
        · rcases Nat.lt_or_ge j c1 with q | q
          · rw [u4 j q]; exact k4 j j1 q
          · rw [u6 j q j2]; exact war e _ sck
        · by_cases q : d = kk
          · subst q; exact u5
          · rw [low_drop hk d, decide_eq_true q, Bool.and_true] at d3
            obtain ⟨j, j1, j2⟩ := k8 e d d1 d2 d3
            exact ⟨j, by omega, (u4 j j1).trans j2⟩
end WO
