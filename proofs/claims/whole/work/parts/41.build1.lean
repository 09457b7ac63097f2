/-! the ways built: spots -/
theorem shlL {k : Nat} (h : k < 64) : (1 : Int64) <<< ((nI k).toInt64 &&& 63) = lN (2 ^ k) := by
  rw [show (1 : Int64) = lN 1 from rfl, wb_shl 1 h, Nat.one_mul]
theorem bmL_on (p : Nat → Bool) {k : Nat} (hp : p k = true) : lN (bm p k) ||| lN (2 ^ k) = lN (bm p (k + 1)) := by
  rw [bm, if_pos hp, fb_orL]
  congr 1
  have := Nat.two_pow_add_eq_or_of_lt (bm_lt p k) 1
  rw [Nat.mul_one] at this
  rw [Nat.or_comm, ← this, Nat.add_comm]
theorem bmL_off (p : Nat → Bool) {k : Nat} (hp : p k = false) : lN (bm p k) = lN (bm p (k + 1)) := by
  rw [bm, if_neg (by rw [hp]; decide), Nat.add_zero]
theorem put6 {σ : jS} {i : Nat} {v : Int32} (h : i < 56) : f_X6_put σ 6 (nI i) v = some ((), sI σ 6 i v) := x_put (by decide) rfl h (by decide)
theorem put7 {σ : jS} {i : Nat} {v : Int32} (h : i < 56) : f_X6_put σ 7 (nI i) v = some ((), sI σ 7 i v) := x_put (by decide) rfl h (by decide)
theorem putL8 {σ : jS} {i : Nat} {v : Int64} (h : i < 56) : f_X6_put_ σ 8 (nI i) v = some ((), sL σ 8 i v) := x_putL (by decide) rfl h (by decide)
theorem putL9 {σ : jS} {i : Nat} {v : Int64} (h : i < 56) : f_X6_put_ σ 9 (nI i) v = some ((), sL σ 9 i v) := x_putL (by decide) rfl h (by decide)
theorem putL10 {σ : jS} {i : Nat} {v : Int64} (h : i < 16) : f_X6_put_ σ 10 (nI i) v = some ((), sL σ 10 i v) := x_putL (by decide) rfl h (by decide)
theorem x_setSpot {σ : jS} {s p : Nat} {f : Int32} (h : s < 56) (hp : p < 16) : f_X9_setSpot σ (nI s) (nI p) f = some ((), sL (sI (sI σ 6 s (nI p)) 7 s f) 10 p (gL σ 10 p ||| lN (2 ^ s))) := by
  unfold f_X9_setSpot f_X9_setSpot_J43
  have e : ¬ nI p = -1 := fun q => nI_pos (n := p) (by omega) (by rw [q]; decide)
  rw [put6 h, bD_e, put7 h, bD_e, if_neg e, at10 hp, bC_e, shlL (by omega), putL10 hp, bD_e]
  rfl
theorem x_setNone {σ : jS} {s : Nat} (h : s < 56) : f_X9_setSpot σ (nI s) (-1) (-1) = some ((), sI (sI σ 6 s (-1)) 7 s (-1)) := by
  unfold f_X9_setSpot f_X9_setSpot_J43
  rw [put6 h, bD_e, put7 h, bD_e, if_pos rfl]
/-- the spots below k are set -/
def xsp (σ : jS) (A : Tb) (k : Nat) : Prop := (∀ s, s < k → gI σ 6 s = (if s < 16 then nI s else if s - 16 < tT A then nI (A 3 (s - 16)) else -1) ∧ gI σ 7 s = (if s < 16 then -1 else if s - 16 < tT A then nI (A 4 (s - 16)) else -1)) ∧ ∀ p, p < 16 → gL σ 10 p = lN (bm (heldBy A p) k)
def e6 (A : Tb) (s : Nat) : Int32 := if s < 16 then nI s else if s - 16 < tT A then nI (A 3 (s - 16)) else -1
def e7 (A : Tb) (s : Nat) : Int32 := if s < 16 then -1 else if s - 16 < tT A then nI (A 4 (s - 16)) else -1
theorem xsp_some {σ : jS} {A : Tb} {k p : Nat} {f : Int32} (h : xsp σ A k) (hp : p < 16) (h6 : e6 A k = nI p) (h7 : e7 A k = f) (hb : ∀ q, heldBy A q k = (p == q)) : xsp (sL (sI (sI σ 6 k (nI p)) 7 k f) 10 p (gL σ 10 p ||| lN (2 ^ k))) A (k + 1) := by
  refine ⟨fun s hs => ?_, fun q hq => ?_⟩
  · rw [gI_sL, gI_sL, gI_ne (by decide : (6 : Nat) ≠ 7)]
    by_cases z : s = k
    · subst z
      rw [gI_sI, gI_sI]
      exact ⟨h6.symm, h7.symm⟩
    · rw [gI_nei z, gI_nei z, gI_ne (by decide : (7 : Nat) ≠ 6)]
      exact h.1 s (by omega)
  · by_cases z : q = p
    · subst z
      rw [gL_sL, h.2 q hq]
      exact bmL_on _ (by rw [hb]; simp)
    · rw [gL_sLn (fun y => z y.2)]
      show gL σ 10 q = _
      rw [h.2 q hq]
      exact bmL_off _ (by rw [hb]; simp; exact fun y => z y.symm)
theorem xsp_none {σ : jS} {A : Tb} {k : Nat} (h : xsp σ A k) (h6 : e6 A k = -1) (h7 : e7 A k = -1) (hb : ∀ q, heldBy A q k = false) : xsp (sI (sI σ 6 k (-1)) 7 k (-1)) A (k + 1) := by
  refine ⟨fun s hs => ?_, fun q hq => ?_⟩
  · rw [gI_ne (by decide : (6 : Nat) ≠ 7)]
    by_cases z : s = k
    · subst z
      rw [gI_sI, gI_sI]
      exact ⟨h6.symm, h7.symm⟩
    · rw [gI_nei z, gI_nei z, gI_ne (by decide : (7 : Nat) ≠ 6)]
      exact h.1 s (by omega)
  · show gL σ 10 q = _
    rw [h.2 q hq]
    exact bmL_off _ (hb q)
