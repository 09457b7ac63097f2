/-! new grudges away from the ends of PEACE's way don't hinder it -/
theorem lohi_sym {B : Tb} {a b : Nat} (h : bears B (lo a b) (hi a b) = false) : bears B a b = false := by
  by_cases z : a = b
  · subst z
    unfold lo hi at h
    simpa using h
  · obtain ⟨_, ⟨e1, e2⟩ | ⟨e1, e2⟩⟩ := lohi z
    · rw [e1, e2] at h; exact h
    · rw [e1, e2, bears_sym] at h; exact h
theorem peace_holds {A : Tb} {f f' : Nat → Nat} {mm mm' x n m lm nM W s c v : Nat} {L Q nd T LM wh tg : Nat → Nat} {met : Nat → Nat → Bool} {σ τ : jS} (w : wA A) (hS : MS A 1 (cv A x) nM W nM LM wh tg τ) (hR : SR (gT A f mm) x (tmX (gT A f mm) 0) (fun y => y % 2 == s) lm n m L Q nd σ) (hP : PW (gT A f mm) s n c L T nd met x) (hup : ∀ p q, p < 16 → q < 16 → bears (gT A f mm) p q = true → bears (gT A f' mm') p q = true) (hno : ∀ a b, met a b = true → bears (gT A f' mm') a b = false) (hv : isV (gT A f' mm') s nM W LM wh tg v) : v ≠ 0 := by
  obtain ⟨nd', hF', hv0⟩ := hv
  have okX : ∀ y, vL n L y → okx (gT A f mm) y := fun y hy => by
    obtain ⟨j, j1, j2⟩ := hy
    rw [← j2]; exact (hR.2.1 j j1).1
  have wB : wA (gT A f mm) := gT_wA w
  have hSB := gT_MS (f := f) (m := mm) hS
  have line := in_line (A := gT A f mm) (LX := L) wB (by rw [hR.1.2.2.2.2.1]; exact hSB) (fun j hj => (hR.2.1 j hj).1) hR.2.2.2.1
  have hφ : ∀ y, ∃ j, vL n L y → j < nM ∧ LM j = cv A y := fun y => by
    by_cases z : vL n L y
    · obtain ⟨l, l1, l2⟩ := z
      obtain ⟨j, j1, j2⟩ := line l l1
      exact ⟨j, fun _ => ⟨j1, by rw [j2, l2]; rfl⟩⟩
    · exact ⟨0, fun q => absurd q z⟩
  have hφ2 : ∃ φ : Nat → Nat, ∀ y, vL n L y → φ y < nM ∧ LM (φ y) = cv A y := ⟨fun y => Classical.choose (hφ y), fun y => Classical.choose_spec (hφ y)⟩
  obtain ⟨φ, hφ⟩ := hφ2
  have cl := hR.2.2.2.2.1
  have hF := hR.2.2.2.2.2.1
  have way : ∀ y z, vL n L y → scX (gT A f mm) y z = true → scI W wh tg (φ y) (φ z) = true := fun y z hy hs => by
    have h1 := scX_scM wB (past := 1) (okX y hy) hs
    have h2 : scM (gT A f mm) 1 (LM (φ y)) (cv A z) = true := by rw [(hφ y hy).2]; exact h1
    obtain ⟨u, v1, v2, v3⟩ := hSB.2.2.2.2.2.2.2.1 _ _ (hφ y hy).1 (hφ y hy).1 h2
    have hz := cl y z hy hs
    refine scI_iff.mpr ⟨u, v1, v2, hSB.2.2.1 _ _ (hSB.2.2.2.2.1 u v1).2.2.1 (hφ z hz).1 ?_⟩
    rw [v3, (hφ z hz).2]
  have back : ∀ y j, vL n L y → ended (gT A f mm) (cv A y) = false → scI W wh tg (φ y) j = true → ∃ z, scX (gT A f mm) y z = true ∧ φ z = j := fun y j hy hE hs => by
    obtain ⟨u, v1, v2, v3⟩ := scI_iff.mp hs
    have h1 := (hSB.2.2.2.2.1 u v1).2.2.2.2.2
    rw [v2, (hφ y hy).2] at h1
    obtain ⟨z, z1, z2⟩ := scM_scX wB (okX y hy) hE h1
    have hz := cl y z hy z1
    refine ⟨z, z1, ?_⟩
    rw [← v3]
    exact hSB.2.2.1 _ _ (hφ z hz).1 (hSB.2.2.2.2.1 u v1).2.2.1 (by rw [(hφ z hz).2, ← z2]; rfl)
  -- what is ended, and what is not
  have pair : ∀ y, vL n L y → cOne (cv A y) = hs (gT A f mm) (x0 y) ∧ cTwo (cv A y) = hs (gT A f mm) (x1 y) ∧ cOne (cv A y) < 16 ∧ cTwo (cv A y) < 16 := fun y hy => by
    have ok := okX y hy
    have a := cv_one wB ok
    have b := cv_two wB ok
    exact ⟨a, b, by rw [show cOne (cv A y) = _ from a]; exact hs_lt wB ok.2.1, cTwo_lt _⟩
  have main : ∀ d j, j < c → nd (T j) = d → nd' (φ (T j)) ≠ 0 := by
    intro d
    induction d using Nat.strongRecOn with
    | ind d ih =>
      intro j hj hd
      obtain ⟨vT, n0, hend, hgo⟩ := hP.2.1 j hj
      obtain ⟨p1, p2, p3, p4⟩ := pair _ vT
      have hfx := hF' (φ (T j)) (hφ _ vT).1
      have e0 : (!bears (gT A f' mm') (cOne (LM (φ (T j)))) (cTwo (LM (φ (T j))))) = ended (gT A f' mm') (cv A (T j)) := by
        rw [(hφ _ vT).2]; rfl
      dsimp only at hfx
      rw [e0, (hφ _ vT).2] at hfx
      cases he : ended (gT A f mm) (cv A (T j)) with
      | true =>
        have hm := hend he
        have hb := lohi_sym (hno _ _ hm)
        rw [← p1, ← p2] at hb
        have : ended (gT A f' mm') (cv A (T j)) = true := by unfold ended; rw [hb]; rfl
        rw [hfx.1.mp this]
        decide
      | false =>
        have hb : bears (gT A f' mm') (cOne (cv A (T j))) (cTwo (cv A (T j))) = true := by
          refine hup _ _ p3 p4 ?_
          unfold ended at he
          rw [Bool.not_eq_false'] at he
          exact he
        have he' : ended (gT A f' mm') (cv A (T j)) = false := by unfold ended; rw [hb]; rfl
        have hcl := hgo he
        have hside : cSide (cv A (T j)) = T j % 2 := cv_side wB (okX _ vT)
        obtain ⟨fp, fw⟩ := hfx.2 he'
        rw [hside] at fp fw
        by_cases e : T j % 2 = s
        · obtain ⟨l, l1, l2, l3⟩ := hcl.1 e
          have hn := ih (nd (T l)) (by omega) l l1 rfl
          rcases fp (beq_iff_eq.mpr e) with ⟨_, z2⟩ | ⟨z, _⟩
          · exact absurd (z2 _ (way _ _ vT l2)) hn
          · exact z
        · have hn1 : nd (T j) ≠ 1 := fun q => by
            have := (hF _ vT).1.mpr q
            rw [tmX_0] at this
            have h2 : ended (gT A f mm) (cv A (T j)) = true := this
            rw [he] at h2; cases h2
          have ht : tmX (gT A f mm) 0 (T j) = false := by rw [tmX_0]; exact he
          have hall := (hF _ vT).2 ht
          rcases hall.2 (beq_eq_false_iff_ne.mpr e) with ⟨z, _⟩ | ⟨_, ⟨u, u1, u2⟩, hle⟩
          · exact absurd z n0
          · rcases fw (beq_eq_false_iff_ne.mpr e) with ⟨_, ⟨q, q1, q2⟩ | q⟩ | ⟨z, _⟩
            · obtain ⟨zz, z1, z2⟩ := back _ q vT he q1
              obtain ⟨l, l1, l2⟩ := hcl.2 e zz z1
              have h3 := hle zz z1
              have hn := ih (nd (T l)) (by rw [l2]; omega) l l1 rfl
              rw [l2, z2] at hn
              exact absurd q2 hn
            · have := way _ _ vT u1
              rw [q] at this; cases this
            · exact z
  obtain ⟨j, j1, j2⟩ := hP.1
  have hj := main _ j j1 rfl
  have j0 : φ (T j) = 0 := by
    have vT := (hP.2.1 j j1).1
    exact hS.2.2.1 _ _ (hφ _ vT).1 hS.1.2.2.1 (by rw [(hφ _ vT).2, hS.1.2.2.2, j2])
  rw [j0, hv0] at hj
  exact hj
