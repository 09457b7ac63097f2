/-! the draw -/
def nxS (s : Nat) : Nat := (s * 1103515245 + 12345) % 2147483648
theorem nxS_lt (s : Nat) : nxS s < 2 ^ 31 := Nat.mod_lt _ (by decide)
theorem seedL {s : Nat} (h : s < 2 ^ 31) : (nI s).toInt64 * (1103515245 : Int64) + (12345 : Int64) = lN (s * 1103515245 + 12345) := by
  rw [nI_l h, show (1103515245 : Int64) = lN 1103515245 from rfl, show (12345 : Int64) = lN 12345 from rfl, lN_mul, lN_add]
theorem seedX {s : Nat} (h : s < 2 ^ 31) : ((((nI s).toInt64 * (1103515245 : Int64)) + (12345 : Int64)) &&& (2147483647 : Int64)).toInt32 = nI (nxS s) := by
  rw [seedL h, show (2147483647 : Int64) = lN (2 ^ 31 - 1) from rfl, fb_maskL, lN_i]
  rfl
theorem seedM {s : Nat} (h : s < 2 ^ 31) : ((((nI s).toInt64 * (1103515245 : Int64)) + (12345 : Int64)) - (((nI s).toInt64 * (1103515245 : Int64)) + (12345 : Int64)) / (2147483648 : Int64) * (2147483648 : Int64)).toInt32 = nI (nxS s) := by
  rw [seedL h, show (2147483648 : Int64) = lN 2147483648 from rfl, pk_lRem (by omega) (by decide) (by decide), lN_i]
  rfl
theorem x_draw {σ : jS} {s n : Nat} (h : gI σ 29 5 = nI s) (hs : s < 2 ^ 31) (h0 : 0 < n) (hn : n < 2 ^ 31) : f_X10_draw σ (nI n) = some (nI (nxS s / 65536 % n), sI σ 29 5 (nI (nxS s))) := by
  unfold f_X10_draw f_X10_draw_J49
  have e1 : (nI n != 0) = true := by simpa using nI_ne0 h0 hn
  rw [h, seedX hs, bV_e, if_neg (nI_nle h0 hn), bG_t e1, gI_sI, show (65536 : Int32) = nI 65536 from rfl, pk_div (nxS_lt s) (by decide) (by decide), pk_rem (Nat.lt_of_le_of_lt (Nat.div_le_self _ _) (nxS_lt s)) h0 hn]
theorem m_draw {τ : jS} {s n : Nat} (h : gI τ 1 36 = nI s) (hs : s < 2 ^ 31) (h0 : 0 < n) (hn : n < 2 ^ 31) : f_X11_draw τ (nI n) = some (nI (nxS s / 65536 % n), sI τ 1 36 (nI (nxS s))) := by
  unfold f_X11_draw
  have e1 : (nI n != 0) = true := by simpa using nI_ne0 h0 hn
  rw [h, seedM hs, bV_e, bG_t e1, gI_sI, show (65536 : Int32) = nI 65536 from rfl, pk_div (nxS_lt s) (by decide) (by decide), pk_rem (Nat.lt_of_le_of_lt (Nat.div_le_self _ _) (nxS_lt s)) h0 hn]
theorem bits_cnt {p : Nat → Bool} : f_X11_bits (nI (bm p 16)) = some (nI (fa_cnt p 16)) := by
  have g : ∀ m, m ≤ 16 → ((List.range m).filter fun k => (bm p 16).testBit k).length = fa_cnt p m := by
    intro m
    induction m with
    | zero => intro _; rfl
    | succ m ih =>
      intro hm
      rw [List.range_succ, List.filter_append, List.length_append, ih (by omega), fa_cnt]
      have h16 : m < 16 := by omega
      have hb : (bm p 16).testBit m = p m := by rw [bm_bit]; simp [h16]
      cases hp : p m <;> simp [hb, hp]
  obtain ⟨n, _, e, h⟩ := m_bits (bm16 p)
  have q : n = fa_cnt p 16 := h.trans (g 16 (Nat.le_refl _))
  rw [e, q]
theorem bc_cnt {p : Nat → Bool} : f_J6_bitCount_0f7a4 (nI (bm p 16)) = some (nI (fa_cnt p 16)) := by
  rw [x_bc32 (bm16 p)]
  have e1 : fa_cnt (bm p 16).testBit 16 = fa_cnt p 16 := fa_cnt_cong fun k hk => by rw [bm_bit]; simp [hk]
  have e2 : fa_cnt (fun k => (bm p 16).testBit (16 + k)) 16 = fa_cnt (fun _ => false) 16 := fa_cnt_cong fun k hk => by
    rw [bm_bit, show decide (16 + k < 16) = false from decide_eq_false (by omega)]; rfl
  have e3 : fa_cnt (bm p 16).testBit 32 = fa_cnt p 16 := by
    rw [show (32 : Nat) = 16 + 16 from rfl, fa_cnt_add, e1, e2]
    rfl
  rw [e3]
