/-! once: rows of longs as rows of bits -/
theorem sshr64 {v : Int64} {k : Nat} (hk : k < 64) : ((v >>> ((nI k).toInt64 &&& 63)) &&& 1) = 0 ↔ v.toBitVec.getLsbD k = false := by
  have e : (v >>> ((nI k).toInt64 &&& 63)).toBitVec = v.toBitVec.sshiftRight k := by
    rw [wb_c k hk, Int64.toBitVec_shiftRight]
    show v.toBitVec.sshiftRight ((BitVec.ofNat 64 k).smod 64).toNat = _
    rw [wb_sm k hk, BitVec.toNat_ofNat, Nat.mod_eq_of_lt (by omega)]
  rw [← Int64.toBitVec_inj, Int64.toBitVec_and, e]
  show v.toBitVec.sshiftRight k &&& 1#64 = 0#64 ↔ _
  have b0 : (v.toBitVec.sshiftRight k).getLsbD 0 = v.toBitVec.getLsbD k := by
    rw [BitVec.getLsbD_sshiftRight]
    simp [hk]
  constructor
  · intro h
    have t := congrArg (fun x => x.getLsbD 0) h
    rw [← b0]
    simpa using t
  · intro h
    apply BitVec.eq_of_getLsbD_eq
    intro i hi
    cases i with
    | zero => rw [BitVec.getLsbD_and, b0, h]; simp
    | succ i => simp
theorem lgcB (x : Int64) : lg_cmp x 0 = 0 ↔ x = 0 := by
  rw [lg_cmp_eq]
/-- the bit i of a row of longs -/
def rb (σ : jS) (h i : Nat) : Bool := (gL σ h (i / 64)).toBitVec.getLsbD (i % 64)
theorem and63 {i : Nat} : nI i &&& 63 = nI (i % 64) := by
  rw [show (63 : Int32) = nI (2 ^ 6 - 1) from rfl, fa_mask]
theorem shr6 {i : Nat} (h : i < 2 ^ 31) : nI i >>> ((6 : Int32) &&& 31) = nI (i / 64) := by
  rw [show (6 : Int32) = nI 6 from rfl, nI_shr h (by decide), Nat.shiftRight_eq_div_pow]
theorem x_hasBit {σ : jS} {h i : Nat} (h0 : h ≠ 0) (hr : jrwX 2 h = true) (hi : i / 64 < (SHX h).2) (hs : (SHX h).2 ≤ 1000) : f_X4_hasBit σ h (nI i) = some (bI (rb σ h i)) := by
  have i31 : i < 2 ^ 31 := by omega
  unfold f_X4_hasBit f_X4_hasBit_J25
  rw [shr6 i31, x_atL h0 hr hi (by omega), bC_e, and63]
  have e := sshr64 (v := gL σ h (i / 64)) (k := i % 64) (Nat.mod_lt _ (by decide))
  unfold rb
  cases hb : (gL σ h (i / 64)).toBitVec.getLsbD (i % 64) with
  | false =>
    rw [if_pos ((lgcB _).mpr (e.mpr hb)), bG_t jb_0]; rfl
  | true =>
    rw [if_neg (fun z => by
      have := e.mp ((lgcB _).mp z)
      rw [hb] at this; cases this), bG_t jb_1]; rfl
theorem or_bit {v : Int64} {k j : Nat} (hk : k < 64) (hj : j < 64) : (v ||| ((1 : Int64) <<< ((nI k).toInt64 &&& 63))).toBitVec.getLsbD j = (v.toBitVec.getLsbD j || j == k) := by
  rw [shlL hk, Int64.toBitVec_or, BitVec.getLsbD_or]
  congr 1
  show (BitVec.ofNat 64 (2 ^ k)).getLsbD j = _
  rw [BitVec.getLsbD_ofNat, Nat.testBit_two_pow, decide_eq_true hj, Bool.true_and]
  apply bool_iff
  rw [decide_eq_true_eq, beq_iff_eq]
  exact ⟨fun e => e.symm, fun e => e.symm⟩
theorem x_putBit {σ : jS} {h i : Nat} (h0 : h ≠ 0) (hr : jrwX 2 h = true) (hi : i / 64 < (SHX h).2) (hs : (SHX h).2 ≤ 1000) : ∃ σ', f_X4_putBit σ h (nI i) = some ((), σ') ∧ fr [h] σ σ' ∧ (∀ j, rb σ' h j = (rb σ h j || j == i)) ∧ ∀ a j, gI σ' a j = gI σ a j := by
  have i31 : i < 2 ^ 31 := by omega
  refine ⟨sL σ h (i / 64) (gL σ h (i / 64) ||| ((1 : Int64) <<< ((nI (i % 64)).toInt64 &&& 63))), ?_, fr_sL _ _ _ (List.mem_singleton.mpr rfl), fun j => ?_, fun _ _ => rfl⟩
  · unfold f_X4_putBit
    rw [shr6 i31, x_atL h0 hr hi (by omega), bC_e, and63, x_putL h0 hr hi (by omega), bD_e]
  · unfold rb
    by_cases z : j / 64 = i / 64
    · rw [z, gL_sL, or_bit (Nat.mod_lt _ (by decide)) (Nat.mod_lt _ (by decide))]
      congr 1
      apply bool_iff
      rw [beq_iff_eq, beq_iff_eq]
      omega
    · rw [gL_sLn (fun e => z e.2)]
      have : (j == i) = false := beq_eq_false_iff_ne.mpr (fun e => z (by rw [e]))
      rw [this, Bool.or_false]
theorem rb_0 {σ : jS} {h n : Nat} (hz : ∀ i, i < n → gL σ h i = 0) {i : Nat} (hi : i / 64 < n) : rb σ h i = false := by
  unfold rb
  rw [hz _ hi]
  show (0#64).getLsbD _ = false
  simp
theorem rb_fr {H : List Nat} {σ σ' : jS} (f : fr H σ σ') {h : Nat} (hh : h ∉ H) (i : Nat) : rb σ' h i = rb σ h i := by
  unfold rb; rw [fr_L f hh]
theorem long_0 {v : Int64} : v = 0 ↔ ∀ k, k < 64 → v.toBitVec.getLsbD k = false := by
  rw [← Int64.toBitVec_inj]
  constructor
  · intro h k _
    rw [h]
    show (0#64).getLsbD _ = false
    simp
  · intro h
    apply BitVec.eq_of_getLsbD_eq
    intro i hi
    rw [h i hi]
    show false = (0#64).getLsbD _
    simp
/-- whether a set was reached -/
theorem x_isReached {σ : jS} {e : Nat} (he : e < 16) : f_X4_isReached σ (nI e) = some (bI (bex 256 fun u => rb σ 18 (e * 256 + u))) := by
  unfold f_X4_isReached
  have key := jloop_ex (S := Int32) (O := Int32) (f := fun s => f_X4_isReached_B2 σ (nI e) s) (fun j s => s = nI j ∧ ∀ u, u < 64 * j → rb σ 18 (e * 256 + u) = false) 4 (fun o => o = bI (bex 256 fun u => rb σ 18 (e * 256 + u))) (s0 := 0) ⟨rfl, fun u hu => absurd hu (by omega)⟩ (jfuel_big (by omega)) ?_ ?_
  · obtain ⟨o, o1, rfl⟩ := key
    exact o1
  · rintro _ ⟨rfl, h⟩
    refine ⟨0, ?_, ?_⟩
    · show f_X4_isReached_B2 σ (nI e) (nI 4) = _
      unfold f_X4_isReached_B2 f_X4_isReached_J32
      rw [if_pos (show (4 : Int32) ≤ nI 4 from Int32.le_refl _), jw_e]
    · rw [bex_not.mpr (fun u hu => h u (by omega))]; rfl
  · rintro j _ hj ⟨rfl, h⟩
    have e1 : (e * 4 + j) < 64 := by omega
    show (∃ s', f_X4_isReached_B2 σ (nI e) (nI j) = _ ∧ _) ∨ (∃ o, f_X4_isReached_B2 σ (nI e) (nI j) = _ ∧ _)
    unfold f_X4_isReached_B2 f_X4_isReached_J24
    rw [if_neg (show ¬ (4 : Int32) ≤ nI j from nI_ge (b := 4) hj (by decide)), show (4 : Int32) = nI 4 from rfl, nI_mul, nI_add, x_atL (by decide) rfl (show e * 4 + j < (SHX 18).2 from e1) (by decide), bC_e]
    by_cases z : gL σ 18 (e * 4 + j) = 0
    · left
      rw [if_pos ((lgcB _).mpr z), bV_e, nI_1]
      refine ⟨_, rfl, rfl, fun u hu => ?_⟩
      by_cases y : u < 64 * j
      · exact h u y
      · unfold rb
        rw [show (e * 256 + u) / 64 = e * 4 + j by omega]
        exact long_0.mp z _ (Nat.mod_lt _ (by decide))
    · right
      rw [if_neg (fun q => z ((lgcB _).mp q)), jw_e]
      refine ⟨_, rfl, ?_⟩
      have : bex 256 (fun u => rb σ 18 (e * 256 + u)) = true := by
        refine Classical.byContradiction fun q => z (long_0.mpr fun k hk => ?_)
        have q' := bex_not.mp (Bool.not_eq_true _ ▸ q) (64 * j + k) (by omega)
        unfold rb at q'
        rw [show (e * 256 + (64 * j + k)) / 64 = e * 4 + j by omega, show (e * 256 + (64 * j + k)) % 64 = k by omega] at q'
        exact q'
      rw [this]; rfl
