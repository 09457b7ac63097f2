/-! the ways built: joins -/
def onK (A : Tb) (k s d : Nat) : Bool := bex k fun t => byT A t == d && joinT A s t
/-- the spots of turn k's creditor below j are joined too -/
def onJ (A : Tb) (k j s d : Nat) : Bool := onK A k s d || (decide (s < j) && byT A k == d && joinT A s k)
def xjo (σ : jS) (on : Nat → Nat → Bool) : Prop := (∀ s, s < 56 → gL σ 8 s = lN (bm (on s) 56)) ∧ ∀ d, d < 56 → gL σ 9 d = lN (bm (fun s => on s d) 56)
theorem orL_bit (p : Nat → Bool) {d : Nat} (hd : d < 56) : lN (bm p 56) ||| lN (2 ^ d) = lN (bm (fun k => p k || k == d) 56) := by
  rw [fb_orL, bm_one hd, bm_or]
theorem xjo_cong {σ : jS} {f g : Nat → Nat → Bool} (h : xjo σ f) (e : ∀ s d, s < 56 → d < 56 → f s d = g s d) : xjo σ g := by
  refine ⟨fun s hs => ?_, fun d hd => ?_⟩
  · rw [h.1 s hs, bm_cong fun d hd => e s d hs hd]
  · rw [h.2 d hd]
    exact congrArg lN (bm_cong fun s hs => e s d hs hd)
/-- one way added -/
theorem xjo_add {σ : jS} {f : Nat → Nat → Bool} {a b : Nat} (h : xjo σ f) (ha : a < 56) (hb : b < 56) : xjo (sL (sL σ 8 a (gL σ 8 a ||| lN (2 ^ b))) 9 b (gL σ 9 b ||| lN (2 ^ a))) (fun s d => f s d || (s == a && d == b)) := by
  refine ⟨fun s hs => ?_, fun d hd => ?_⟩
  · rw [gL_sLn (fun q => absurd q.1 (by decide))]
    by_cases z : s = a
    · subst z
      rw [gL_sL, h.1 s hs, orL_bit _ hb]
      exact congrArg lN (bm_cong fun d _ => by simp)
    · rw [gL_sLn (fun q => z q.2), h.1 s hs]
      exact congrArg lN (bm_cong fun d _ => by simp [z])
  · by_cases z : d = b
    · subst z
      rw [gL_sL, h.2 d hd, orL_bit _ ha]
      exact congrArg lN (bm_cong fun s _ => by simp)
    · rw [gL_sLn (fun q => z q.2), gL_sLn (fun q => absurd q.1 (by decide)), h.2 d hd]
      exact congrArg lN (bm_cong fun s _ => by simp [z])
