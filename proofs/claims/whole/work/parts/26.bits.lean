/-! bitCount and the lowest bit -/
theorem pcB_cnt : ∀ b, b < 256 → pcB b = fa_cnt b.testBit 8 := by decide +kernel
theorem fa_cnt_add (p : Nat → Bool) (a : Nat) : ∀ n, fa_cnt p (a + n) = fa_cnt p a + fa_cnt (fun k => p (a + k)) n
  | 0 => rfl
  | n + 1 => by
    show fa_cnt p (a + n) + (if p (a + n) then 1 else 0) = fa_cnt p a + (fa_cnt (fun k => p (a + k)) n + (if p (a + n) then 1 else 0))
    rw [fa_cnt_add p a n, Nat.add_assoc]
def pcS : Nat → Nat → Nat
  | 0, _ => 0
  | j + 1, n => pcB (n % 256) + pcS j (n / 256)
theorem pcS_cnt : ∀ j n, pcS j n = fa_cnt n.testBit (8 * j)
  | 0, _ => rfl
  | j + 1, n => by
    rw [pcS, pcS_cnt j, pcB_cnt _ (by omega), show 8 * (j + 1) = 8 + 8 * j by omega, fa_cnt_add]
    congr 1
    · apply fa_cnt_cong
      intro k hk
      rw [show (256 : Nat) = 2 ^ 8 from rfl, Nat.testBit_mod_two_pow]
      simp [hk]
    · apply fa_cnt_cong
      intro k _
      rw [show (256 : Nat) = 2 ^ 8 from rfl, Nat.testBit_div_two_pow, Nat.add_comm]
theorem pcB_le : ∀ b, b < 256 → pcB b ≤ 8 := by decide +kernel
theorem dv {a c : Nat} (X : Nat) (h : a < c) : (a + c * X) / c = X := by
  rw [Nat.add_mul_div_left _ _ (Nat.lt_of_le_of_lt (Nat.zero_le _) h), Nat.div_eq_of_lt h, Nat.zero_add]
theorem f8_a (a0 a1 a2 a3 a4 a5 a6 a7 : Nat) : a0 + 256 * (a1 + 256 * (a2 + 256 * (a3 + 256 * (a4 + 256 * (a5 + 256 * (a6 + 256 * (a7 + 256 * 0))))))) + (a1 + 256 * (a2 + 256 * (a3 + 256 * (a4 + 256 * (a5 + 256 * (a6 + 256 * (a7 + 256 * 0))))))) = (a0 + a1 + 256 * (a1 + a2)) + 65536 * (a2 + a3 + 256 * (a3 + a4 + 256 * (a4 + a5 + 256 * (a5 + a6 + 256 * (a6 + a7 + 256 * a7))))) := by omega
theorem f8_b (a0 a1 a2 a3 a4 a5 a6 a7 : Nat) : (a0 + a1 + 256 * (a1 + a2)) + 65536 * (a2 + a3 + 256 * (a3 + a4 + 256 * (a4 + a5 + 256 * (a5 + a6 + 256 * (a6 + a7 + 256 * a7))))) + (a2 + a3 + 256 * (a3 + a4 + 256 * (a4 + a5 + 256 * (a5 + a6 + 256 * (a6 + a7 + 256 * a7))))) = (a0 + a1 + a2 + a3 + 256 * (a1 + a2 + a3 + a4 + 256 * (a2 + a3 + a4 + a5 + 256 * (a3 + a4 + a5 + a6)))) + 4294967296 * (a4 + a5 + a6 + a7 + 256 * (a5 + a6 + a7 + 256 * (a6 + a7 + 256 * a7))) := by omega
theorem f8_c (a0 a1 a2 a3 a4 a5 a6 a7 : Nat) : (a0 + a1 + a2 + a3 + 256 * (a1 + a2 + a3 + a4 + 256 * (a2 + a3 + a4 + a5 + 256 * (a3 + a4 + a5 + a6)))) + 4294967296 * (a4 + a5 + a6 + a7 + 256 * (a5 + a6 + a7 + 256 * (a6 + a7 + 256 * a7))) + (a4 + a5 + a6 + a7 + 256 * (a5 + a6 + a7 + 256 * (a6 + a7 + 256 * a7))) = (a0 + (a1 + (a2 + (a3 + (a4 + (a5 + (a6 + (a7 + 0)))))))) + 128 * (2 * (a1 + a2 + a3 + a4 + 256 * (a2 + a3 + a4 + a5 + 256 * (a3 + a4 + a5 + a6)) + (a5 + a6 + a7 + 256 * (a6 + a7 + 256 * a7))) + 33554432 * (a4 + a5 + a6 + a7 + 256 * (a5 + a6 + a7 + 256 * (a6 + a7 + 256 * a7)))) := by omega
theorem f8_l1 {a0 a1 a2 : Nat} (h0 : a0 ≤ 8) (h1 : a1 ≤ 8) (h2 : a2 ≤ 8) : a0 + a1 + 256 * (a1 + a2) < 65536 := by omega
theorem f8_l2 {a0 a1 a2 a3 a4 a5 a6 : Nat} (h0 : a0 ≤ 8) (h1 : a1 ≤ 8) (h2 : a2 ≤ 8) (h3 : a3 ≤ 8) (h4 : a4 ≤ 8) (h5 : a5 ≤ 8) (h6 : a6 ≤ 8) : a0 + a1 + a2 + a3 + 256 * (a1 + a2 + a3 + a4 + 256 * (a2 + a3 + a4 + a5 + 256 * (a3 + a4 + a5 + a6))) < 4294967296 := by omega
theorem f8_l3 {a0 a1 a2 a3 a4 a5 a6 a7 : Nat} (h0 : a0 ≤ 8) (h1 : a1 ≤ 8) (h2 : a2 ≤ 8) (h3 : a3 ≤ 8) (h4 : a4 ≤ 8) (h5 : a5 ≤ 8) (h6 : a6 ≤ 8) (h7 : a7 ≤ 8) : a0 + (a1 + (a2 + (a3 + (a4 + (a5 + (a6 + (a7 + 0))))))) < 128 := by omega
theorem f8_l4 {a0 a1 a2 a3 a4 a5 a6 a7 : Nat} (h0 : a0 ≤ 8) (h1 : a1 ≤ 8) (h2 : a2 ≤ 8) (h3 : a3 ≤ 8) (h4 : a4 ≤ 8) (h5 : a5 ≤ 8) (h6 : a6 ≤ 8) (h7 : a7 ≤ 8) : a0 + 256 * (a1 + 256 * (a2 + 256 * (a3 + 256 * (a4 + 256 * (a5 + 256 * (a6 + 256 * (a7 + 256 * 0))))))) < 2 ^ 60 := by omega
theorem f8 {a0 a1 a2 a3 a4 a5 a6 a7 s v4 v5 v6 : Nat} (h0 : a0 ≤ 8) (h1 : a1 ≤ 8) (h2 : a2 ≤ 8) (h3 : a3 ≤ 8) (h4 : a4 ≤ 8) (h5 : a5 ≤ 8) (h6 : a6 ≤ 8) (h7 : a7 ≤ 8) (es : s = a0 + 256 * (a1 + 256 * (a2 + 256 * (a3 + 256 * (a4 + 256 * (a5 + 256 * (a6 + 256 * (a7 + 256 * 0)))))))) (e4 : v4 = s + s / 256) (e5 : v5 = v4 + v4 / 65536) (e6 : v6 = v5 + v5 / 4294967296) : v6 % 128 = a0 + (a1 + (a2 + (a3 + (a4 + (a5 + (a6 + (a7 + 0))))))) := by
  rw [es, dv _ (Nat.lt_of_le_of_lt h0 (by decide)), f8_a] at e4
  rw [e4, dv _ (f8_l1 h0 h1 h2), f8_b] at e5
  rw [e5, dv _ (f8_l2 h0 h1 h2 h3 h4 h5 h6), f8_c] at e6
  rw [e6, Nat.add_mul_mod_self_left, Nat.mod_eq_of_lt (f8_l3 h0 h1 h2 h3 h4 h5 h6 h7)]
theorem f4 {a0 a1 a2 a3 s v4 v5 : Nat} (h0 : a0 ≤ 8) (h1 : a1 ≤ 8) (h2 : a2 ≤ 8) (h3 : a3 ≤ 8) (es : s = a0 + 256 * (a1 + 256 * (a2 + 256 * (a3 + 256 * 0)))) (e4 : v4 = s + s / 256) (e5 : v5 = v4 + v4 / 65536) : v5 % 64 = a0 + (a1 + (a2 + (a3 + 0))) := by
  rw [es, dv _ (Nat.lt_of_le_of_lt h0 (by decide))] at e4
  have q : v4 = (a0 + a1 + 256 * (a1 + a2)) + 65536 * (a2 + a3 + 256 * a3) := by
    rw [e4]
    clear e4 e5 es h0 h1 h2 h3
    omega
  rw [q, dv _ (f8_l1 h0 h1 h2)] at e5
  clear q e4 es
  omega
theorem x_bc64 {m : Nat} (h : m < 2 ^ 63) : f_J13_bitCount_95d88 (lN m) = some (nI (fa_cnt m.testBit 64)) := by
  obtain ⟨v1, v2, e1, l1, l1', e2, l2, e3⟩ := sw3 (j := 8) (n := m) (by omega)
  unfold f_J13_bitCount_95d88
  have c1 : (6148914691236517205 : Int64) = lN (mB 85 8) := rfl
  have c2 : (3689348814741910323 : Int64) = lN (mB 51 8) := rfl
  have c3 : (1085102592571150095 : Int64) = lN (mB 15 8) := rfl
  have sh : ∀ k, k < 64 → ∀ n, n < 2 ^ 64 → ((lN n).toUInt64 >>> ((nI k).toInt64.toUInt64 &&& Int64.toUInt64 63)).toInt64 = lN (n / 2 ^ k) := fun k hk n hn => wb_shr hn hk
  have hv2 : v2 < 2 ^ 64 := l2
  have es : sB pcB 8 m = pcB (m % 256) + 256 * (pcB (m / 256 % 256) + 256 * (pcB (m / 256 / 256 % 256) + 256 * (pcB (m / 256 / 256 / 256 % 256) + 256 * (pcB (m / 256 / 256 / 256 / 256 % 256) + 256 * (pcB (m / 256 / 256 / 256 / 256 / 256 % 256) + 256 * (pcB (m / 256 / 256 / 256 / 256 / 256 / 256 % 256) + 256 * (pcB (m / 256 / 256 / 256 / 256 / 256 / 256 / 256 % 256) + 256 * 0))))))) := rfl
  have ep : pcS 8 m = pcB (m % 256) + (pcB (m / 256 % 256) + (pcB (m / 256 / 256 % 256) + (pcB (m / 256 / 256 / 256 % 256) + (pcB (m / 256 / 256 / 256 / 256 % 256) + (pcB (m / 256 / 256 / 256 / 256 / 256 % 256) + (pcB (m / 256 / 256 / 256 / 256 / 256 / 256 % 256) + (pcB (m / 256 / 256 / 256 / 256 / 256 / 256 / 256 % 256) + 0))))))) := rfl
  have b0 := pcB_le (m % 256) (by omega)
  have b1 := pcB_le (m / 256 % 256) (by omega)
  have b2 := pcB_le (m / 256 / 256 % 256) (by omega)
  have b3 := pcB_le (m / 256 / 256 / 256 % 256) (by omega)
  have b4 := pcB_le (m / 256 / 256 / 256 / 256 % 256) (by omega)
  have b5 := pcB_le (m / 256 / 256 / 256 / 256 / 256 % 256) (by omega)
  have b6 := pcB_le (m / 256 / 256 / 256 / 256 / 256 / 256 % 256) (by omega)
  have b7 := pcB_le (m / 256 / 256 / 256 / 256 / 256 / 256 / 256 % 256) (by omega)
  generalize pcB (m % 256) = a0 at *
  generalize pcB (m / 256 % 256) = a1 at *
  generalize pcB (m / 256 / 256 % 256) = a2 at *
  generalize pcB (m / 256 / 256 / 256 % 256) = a3 at *
  generalize pcB (m / 256 / 256 / 256 / 256 % 256) = a4 at *
  generalize pcB (m / 256 / 256 / 256 / 256 / 256 % 256) = a5 at *
  generalize pcB (m / 256 / 256 / 256 / 256 / 256 / 256 % 256) = a6 at *
  generalize pcB (m / 256 / 256 / 256 / 256 / 256 / 256 / 256 % 256) = a7 at *
  rw [show (1 : Int32) = nI 1 from rfl, show (2 : Int32) = nI 2 from rfl, show (4 : Int32) = nI 4 from rfl, show (8 : Int32) = nI 8 from rfl, show (16 : Int32) = nI 16 from rfl, show (32 : Int32) = nI 32 from rfl]
  rw [sh 1 (by decide) m (by omega), c1, fb_andL, show m / 2 ^ 1 = m / 2 from rfl, lN_sub l1, ← e1, bV_e]
  rw [sh 2 (by decide) v1 (by omega), c2, fb_andL, fb_andL, lN_add, show v1 / 2 ^ 2 = v1 / 4 from rfl, ← e2, bV_e]
  rw [sh 4 (by decide) v2 hv2, lN_add, c3, fb_andL, show v2 / 2 ^ 4 = v2 / 16 from rfl, e3, bV_e]
  have hs60 : sB pcB 8 m < 2 ^ 60 := by rw [es]; exact f8_l4 b0 b1 b2 b3 b4 b5 b6 b7
  have L : ∀ x c, x < 2 ^ 60 → x / c ≤ x := fun x c _ => Nat.div_le_self x c
  clear e1 e2 e3 l1 l1' l2 hv2 c1 c2 c3
  have q4 := L (sB pcB 8 m) 256 hs60
  rw [sh 8 (by decide) _ (Nat.lt_trans hs60 (by decide)), lN_add, show sB pcB 8 m / 2 ^ 8 = sB pcB 8 m / 256 from rfl, bV_e]
  have w4 : ∃ v4, v4 = sB pcB 8 m + sB pcB 8 m / 256 := ⟨_, rfl⟩
  obtain ⟨v4, h4⟩ := w4
  have g4 : v4 < 2 ^ 61 := by clear es ep; omega
  rw [← h4, sh 16 (by decide) v4 (Nat.lt_trans g4 (by decide)), lN_add, show v4 / 2 ^ 16 = v4 / 65536 from rfl, bV_e]
  have w5 : ∃ v5, v5 = v4 + v4 / 65536 := ⟨_, rfl⟩
  obtain ⟨v5, h5⟩ := w5
  have g5 : v5 < 2 ^ 62 := by clear es ep h4; omega
  rw [← h5, sh 32 (by decide) v5 (Nat.lt_trans g5 (by decide)), lN_add, show v5 / 2 ^ 32 = v5 / 4294967296 from rfl, bV_e]
  have w6 : ∃ v6, v6 = v5 + v5 / 4294967296 := ⟨_, rfl⟩
  obtain ⟨v6, h6⟩ := w6
  rw [← h6, lN_i, show (127 : Int32) = nI 127 from rfl, nI_and, show (127 : Nat) = 2 ^ 7 - 1 from rfl, Nat.and_two_pow_sub_one_eq_mod, show (64 : Nat) = 8 * 8 from rfl, ← pcS_cnt, ep]
  exact congrArg (fun n => some (nI n)) (f8 b0 b1 b2 b3 b4 b5 b6 b7 es h4 h5 h6)
theorem x_bc32 {m : Nat} (h : m < 2 ^ 31) : f_J6_bitCount_0f7a4 (nI m) = some (nI (fa_cnt m.testBit 32)) := by
  obtain ⟨v1, v2, e1, l1, l1', e2, l2, e3⟩ := sw3 (j := 4) (n := m) (by omega)
  unfold f_J6_bitCount_0f7a4
  have c1 : (1431655765 : Int32) = nI (mB 85 4) := rfl
  have c2 : (858993459 : Int32) = nI (mB 51 4) := rfl
  have c3 : (252645135 : Int32) = nI (mB 15 4) := rfl
  have sh1 : ∀ n, n < 2 ^ 32 → ((nI n).toUInt32 >>> ((1 : Int32).toUInt32 &&& Int32.toUInt32 31)).toInt32 = nI (n / 2) := fun n hn => pk_ushrN hn 1 1 (by decide)
  have sh2 : ∀ n, n < 2 ^ 32 → ((nI n).toUInt32 >>> ((2 : Int32).toUInt32 &&& Int32.toUInt32 31)).toInt32 = nI (n / 4) := fun n hn => pk_ushrN hn 2 2 (by decide)
  have sh4 : ∀ n, n < 2 ^ 32 → ((nI n).toUInt32 >>> ((4 : Int32).toUInt32 &&& Int32.toUInt32 31)).toInt32 = nI (n / 16) := fun n hn => pk_ushrN hn 4 4 (by decide)
  have sh8 : ∀ n, n < 2 ^ 32 → ((nI n).toUInt32 >>> ((8 : Int32).toUInt32 &&& Int32.toUInt32 31)).toInt32 = nI (n / 256) := fun n hn => pk_ushrN hn 8 8 (by decide)
  have sh16 : ∀ n, n < 2 ^ 32 → ((nI n).toUInt32 >>> ((16 : Int32).toUInt32 &&& Int32.toUInt32 31)).toInt32 = nI (n / 65536) := fun n hn => pk_ushrN hn 16 16 (by decide)
  have hv2 : v2 < 2 ^ 32 := l2
  have es : sB pcB 4 m = pcB (m % 256) + 256 * (pcB (m / 256 % 256) + 256 * (pcB (m / 256 / 256 % 256) + 256 * (pcB (m / 256 / 256 / 256 % 256) + 256 * 0))) := rfl
  have ep : pcS 4 m = pcB (m % 256) + (pcB (m / 256 % 256) + (pcB (m / 256 / 256 % 256) + (pcB (m / 256 / 256 / 256 % 256) + 0))) := rfl
  have b0 := pcB_le (m % 256) (by omega)
  have b1 := pcB_le (m / 256 % 256) (by omega)
  have b2 := pcB_le (m / 256 / 256 % 256) (by omega)
  have b3 := pcB_le (m / 256 / 256 / 256 % 256) (by omega)
  generalize pcB (m % 256) = a0 at *
  generalize pcB (m / 256 % 256) = a1 at *
  generalize pcB (m / 256 / 256 % 256) = a2 at *
  generalize pcB (m / 256 / 256 / 256 % 256) = a3 at *
  rw [sh1 m (by omega), c1, nI_and, nI_sub l1, ← e1, bV_e]
  rw [sh2 v1 (by omega), c2, nI_and, nI_and, nI_add, ← e2, bV_e]
  rw [sh4 v2 hv2, nI_add, c3, nI_and, e3, bV_e]
  clear e1 e2 e3 l1 l1' l2 hv2 c1 c2 c3
  have hs30 : sB pcB 4 m < 2 ^ 28 := by rw [es]; clear es ep; omega
  rw [sh8 _ (Nat.lt_trans hs30 (by decide)), nI_add, bV_e]
  have w4 : ∃ v4, v4 = sB pcB 4 m + sB pcB 4 m / 256 := ⟨_, rfl⟩
  obtain ⟨v4, h4⟩ := w4
  have g4 : v4 < 2 ^ 29 := by clear es ep; omega
  rw [← h4, sh16 v4 (Nat.lt_trans g4 (by decide)), nI_add, bV_e]
  have w5 : ∃ v5, v5 = v4 + v4 / 65536 := ⟨_, rfl⟩
  obtain ⟨v5, h5⟩ := w5
  rw [← h5, show (63 : Int32) = nI 63 from rfl, nI_and, show (63 : Nat) = 2 ^ 6 - 1 from rfl, Nat.and_two_pow_sub_one_eq_mod, show (32 : Nat) = 8 * 4 from rfl, ← pcS_cnt, ep]
  exact congrArg (fun n => some (nI n)) (f4 b0 b1 b2 b3 es h4 h5)
