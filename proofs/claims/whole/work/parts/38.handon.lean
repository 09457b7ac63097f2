/-! one handing in both tongues -/
theorem put30 {σ : jS} {i : Nat} {v : Int32} (h : i < 4) : f_X6_put σ 30 (nI i) v = some ((), sI σ 30 i v) := x_put (by decide) rfl h (by decide)
theorem put31 {σ : jS} {i : Nat} {v : Int32} (h : i < 4) : f_X6_put σ 31 (nI i) v = some ((), sI σ 31 i v) := x_put (by decide) rfl h (by decide)
/-- the class's state after a quarrel's new how -/
def xNew (σ : jS) (q : Nat) (v : Int32) : jS := sI (sI σ 30 q v) 31 q (gI σ 31 q + 1)
theorem x_setHow {σ : jS} {q : Nat} {v : Int32} (h : q < 4) : f_X10_setHow σ (nI q) v = some ((), xNew σ q v) := by
  unfold f_X10_setHow xNew
  rw [put30 h, bD_e, at31 h, bC_e, put31 h, bD_e, gI_ne (by decide)]
theorem x_handTo {σ : jS} {A : Tb} (w : wA A) (hW : xW σ A) {x q p : Nat} (h4 : q < 4) (h : okx A x) (hx : gI σ 30 q = nI x) (hq : mayP A (cv A x) (x % 2) p = true) : ∃ y, okx A y ∧ cv A y = behQ A (cv A x) p ∧ f_X10_handTo σ (nI q) (nI p) = some ((), xNew σ q (nI y)) := by
  obtain ⟨d, d1, d2, d3, d4⟩ := x_spotFor w hW h hq
  obtain ⟨a1, a2⟩ := afx_ok w h d2
  refine ⟨afx x d, a1, by rw [a2, d3], ?_⟩
  unfold f_X10_handTo
  rw [at30 h4, bC_e, hx, d4, bC_e, x_after h.1, bC_e, x_setHow h4, bD_e]
/-- the reference's state after -/
def mNew (τ : jS) (q : Nat) (v : Int32) : jS := sI (sI τ 9 q v) 10 q (gI τ 10 q + 1)
theorem m_onQ {τ : jS} (hN : wN τ) {c q p : Nat} (h4 : q < 4) (hc : c < 147968) (h9 : gI τ 9 q = nI c) (hp : p < 16) : f_X11_handOn_J32 τ (nI q) (nI p) = some (nI p, mNew τ q (nI (behQ (mn τ) c p))) := by
  unfold f_X11_handOn_J32 mNew
  have g : jin (nI q) 4 = true := jin_nI h4 (by omega)
  rw [bG_t g, ix_nI (by omega), h9, m_behindQ hN hc hp, bC_e, bG_t g, bV_e, bG_t g, bG_t g, bV_e, gI_ne (by decide)]
theorem m_onP {τ : jS} {c q : Nat} (h4 : q < 4) (hc : c < 147968) (h9 : gI τ 9 q = nI c) : f_X11_handOn_J32 τ (nI q) (-1) = some (-1, mNew τ q (nI (behP c))) := by
  unfold f_X11_handOn_J32 mNew
  have g : jin (nI q) 4 = true := jin_nI h4 (by omega)
  rw [bG_t g, ix_nI (by omega), h9, m_behindP hc (by decide), bC_e, bG_t g, bV_e, bG_t g, bG_t g, bV_e, gI_ne (by decide)]
