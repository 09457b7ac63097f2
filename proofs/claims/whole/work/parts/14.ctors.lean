def jgrow (μ : jM) (w : Nat) : jM := (μ.1 + 1, μ.2.1 + w, jsh μ, jI μ, jL μ, jP μ)
theorem jW_grow {cy : Nat → ClassId} {ad : Nat → Nat} {bs : Nat} {μ : jM} {k len w : Nat} (h0 : jsh μ (μ.1 + 1) = (k, len)) (h1 : ∀ j, jI μ (μ.1 + 1) j = 0) (h2 : ∀ j, jL μ (μ.1 + 1) j = 0) (h3 : ∀ j, jP μ (μ.1 + 1) j = 0) : jW cy ad bs (jnw μ k len w) = jW cy ad bs (jgrow μ w) := by
  unfold jW
  apply List.map_congr_left
  intro i hi
  have hi : i < μ.1 + 1 := List.mem_range.mp hi
  have key : jcell cy ad (jnw μ k len w) (i + 1) = jcell cy ad (jgrow μ w) (i + 1) := by
    by_cases q : i = μ.1
    · subst q
      refine jcell_congr ?_ ?_ ?_ ?_
      · simp [jsh, jnw, jgrow] at h0 ⊢; exact h0.symm
      · funext j; have := h1 j; simp [jI, jnw, jgrow] at this ⊢; exact this.symm
      · funext j; have := h2 j; simp [jL, jnw, jgrow] at this ⊢; exact this.symm
      · funext j; have := h3 j; simp [jP, jnw, jgrow] at this ⊢; exact this.symm
    · have q2 : i + 1 ≠ μ.1 + 1 := by omega
      exact jcell_congr (by simp [jsh, jnw, jgrow, q]) (by simp [jI, jnw, jgrow, q]) (by simp [jL, jnw, jgrow, q]) (by simp [jP, jnw, jgrow, q])
  rw [key]
section JCT
variable {y : MethodName} {cc : ByteArray} {nL : Nat} {rt : Option FieldType} {d : Nat} {g : Bool} {rv : Option Value} {μ' : jM} {pc : Nat} {lv : List (Nat × Value)} {st : List Value} {μ μ1 : jM}
theorem j_mw (h : ∀ cy ad bs, jW cy ad bs μ = jW cy ad bs μ1) (h1 : μ.1 = μ1.1) (h2 : μ.2.1 = μ1.2.1) (k : J y cc nL rt d g rv μ' pc lv st μ1) : J y cc nL rt d g rv μ' pc lv st μ := by
  intro D cy ad bs A MC MS n0 w0 p l e s m args below meth c H locs cells slots ls F B hl
  obtain ⟨a1, a2, a3, a4, a5, a6, a7, a8⟩ := B
  exact k D cy ad bs A MC MS n0 w0 p l e s m args below meth c H locs cells slots ls F ⟨by rw [← h]; exact a1, a2, by rw [← h1]; exact a3, by rw [← h1]; exact a4, by rw [← h1]; exact a5, by rw [← h2]; exact a6, a7, a8⟩ hl
theorem j_gw {k len w : Nat} (h0 : jsh μ (μ.1 + 1) = (k, len)) (h1 : ∀ j, jI μ (μ.1 + 1) j = 0) (h2 : ∀ j, jL μ (μ.1 + 1) j = 0) (h3 : ∀ j, jP μ (μ.1 + 1) j = 0) (q : J y cc nL rt d g rv μ' pc lv st (jgrow μ w)) : J y cc nL rt d g rv μ' pc lv st (jnw μ k len w) := j_mw (fun _ _ _ => jW_grow h0 h1 h2 h3) rfl rfl q
end JCT
theorem jr_nfA (ad : Nat → Nat) {t : FieldType} (h : Nat) : narrow (.array t) (jv ad (.ref h)) = jv ad (.ref h) ∧ fits (.array t) (jv ad (.ref h)) = true := by
  show narrow _ (jr ad h) = jr ad h ∧ fits _ (jr ad h) = true
  unfold jr
  split <;> exact ⟨rfl, rfl⟩
def kL : Nat → Nat → Int64 := fun _ _ => 0
def kXI0 : Nat → Nat → Int32 := fun _ _ => 0
def kXP0 : Nat → Nat → Nat := fun _ _ => 0
def kX (n w : Nat) (I : Nat → Nat → Int32) (P : Nat → Nat → Nat) : jM := (n, w, SHX, I, kL, P)
def kXP1 : Nat → Nat → Nat := ju kXP0 2 0 3
def kXI1 : Nat → Nat → Int32 := ju kXI0 2 2 (-1)
set_option maxHeartbeats 1000000 in
set_option maxRecDepth 20000 in
theorem k_X5_init_2 : Cn yX5_init cX5_init 1 none 1 true [.ref 2] (kX 2 15 kXI0 kXP0) none (kX 3 515 kXI1 kXP1) := by
  refine Cn_of (by decide) (by decide +kernel) (by decide +kernel) (Nat.le_of_ble_eq_true rfl) ?_
  show J yX5_init cX5_init 1 none 1 true none (kX 3 515 kXI1 kXP1) 0 [(0, .ref 2)] [] (kX 2 15 kXI0 kXP0)
  refine j_aload_n 0 dX5_init_0 rfl rfl ?_
  refine j_objInit dX5_init_1 kl_RX5_3 rfl rfl rfl rfl ?_
  refine j_aload_n 0 dX5_init_4 rfl rfl ?_
  refine j_sipush (v := 500) dX5_init_5 (by decide) ?_
  refine j_newI 500 dX5_init_8 ka_int (by decide) (by decide +kernel) (by decide +kernel) (by decide +kernel) (by decide +kernel) rfl ?_
  refine j_gw rfl (fun _ => rfl) (fun _ => rfl) (fun _ => rfl) ?_
  refine j_nmr (x := 3) rfl ?_
  refine j_mem (μ1 := (kX 3 515 kXI0 kXP0)) rfl ?_
  refine j_putP 0 jC_5 dX5_init_10 kf_RX5_9 (Or.inr ⟨rfl, rfl, rfl⟩) rfl rfl (fun ad => jr_nfA ad _) rfl rfl ?_
  refine j_mem (μ1 := (kX 3 515 kXI0 kXP1)) rfl ?_
  refine j_aload_n 0 dX5_init_13 rfl rfl ?_
  refine j_iconst (v := (-1)) dX5_init_14 (by decide) ?_
  refine j_putI 2 jC_5 dX5_init_15 kf_RX5_15 (Or.inl rfl) rfl rfl (fun _ => ⟨rfl, rfl⟩) rfl rfl ?_
  refine j_mem (μ1 := (kX 3 515 kXI1 kXP1)) rfl ?_
  exact j_vret dX5_init_18 rfl rfl
def kXP2 : Nat → Nat → Nat := ju kXP1 1 0 2
def kXP3 : Nat → Nat → Nat := ju kXP2 5 0 6
def kXP4 : Nat → Nat → Nat := ju kXP3 5 1 7
def kXP5 : Nat → Nat → Nat := ju kXP4 5 2 8
def kXP6 : Nat → Nat → Nat := ju kXP5 5 3 9
def kXP7 : Nat → Nat → Nat := ju kXP6 5 4 10
set_option maxHeartbeats 1000000 in
set_option maxRecDepth 20000 in
theorem k_X9_init_5 : Cn yX9_init cX9_init 1 none 1 true [.ref 5] (kX 5 533 kXI1 kXP2) none (kX 10 773 kXI1 kXP7) := by
  refine Cn_of (by decide) (by decide +kernel) (by decide +kernel) (Nat.le_of_ble_eq_true rfl) ?_
  show J yX9_init cX9_init 1 none 1 true none (kX 10 773 kXI1 kXP7) 0 [(0, .ref 5)] [] (kX 5 533 kXI1 kXP2)
  refine j_aload_n 0 dX9_init_0 rfl rfl ?_
  refine j_objInit dX9_init_1 kl_RX9_3 rfl rfl rfl rfl ?_
  refine j_aload_n 0 dX9_init_4 rfl rfl ?_
  refine j_bipush (v := 56) dX9_init_5 (by decide) ?_
  refine j_newI 56 dX9_init_7 ka_int (by decide) (by decide +kernel) (by decide +kernel) (by decide +kernel) (by decide +kernel) rfl ?_
  refine j_gw rfl (fun _ => rfl) (fun _ => rfl) (fun _ => rfl) ?_
  refine j_nmr (x := 6) rfl ?_
  refine j_mem (μ1 := (kX 6 589 kXI1 kXP2)) rfl ?_
  refine j_putP 0 jC_8 dX9_init_9 kf_RX9_9 (Or.inr ⟨rfl, rfl, rfl⟩) rfl rfl (fun ad => jr_nfA ad _) rfl rfl ?_
  refine j_mem (μ1 := (kX 6 589 kXI1 kXP3)) rfl ?_
  refine j_aload_n 0 dX9_init_12 rfl rfl ?_
  refine j_bipush (v := 56) dX9_init_13 (by decide) ?_
  refine j_newI 56 dX9_init_15 ka_int (by decide) (by decide +kernel) (by decide +kernel) (by decide +kernel) (by decide +kernel) rfl ?_
  refine j_gw rfl (fun _ => rfl) (fun _ => rfl) (fun _ => rfl) ?_
  refine j_nmr (x := 7) rfl ?_
  refine j_mem (μ1 := (kX 7 645 kXI1 kXP3)) rfl ?_
  refine j_putP 1 jC_8 dX9_init_17 kf_RX9_15 (Or.inr ⟨rfl, rfl, rfl⟩) rfl rfl (fun ad => jr_nfA ad _) rfl rfl ?_
  refine j_mem (μ1 := (kX 7 645 kXI1 kXP4)) rfl ?_
  refine j_aload_n 0 dX9_init_20 rfl rfl ?_
  refine j_bipush (v := 56) dX9_init_21 (by decide) ?_
  refine j_newL 56 dX9_init_23 ka_long (by decide) (by decide +kernel) (by decide +kernel) (by decide +kernel) (by decide +kernel) rfl ?_
  refine j_gw rfl (fun _ => rfl) (fun _ => rfl) (fun _ => rfl) ?_
  refine j_nmr (x := 8) rfl ?_
  refine j_mem (μ1 := (kX 8 701 kXI1 kXP4)) rfl ?_
  refine j_putP 2 jC_8 dX9_init_25 kf_RX9_18 (Or.inr ⟨rfl, rfl, rfl⟩) rfl rfl (fun ad => jr_nfA ad _) rfl rfl ?_
  refine j_mem (μ1 := (kX 8 701 kXI1 kXP5)) rfl ?_
  refine j_aload_n 0 dX9_init_28 rfl rfl ?_
  refine j_bipush (v := 56) dX9_init_29 (by decide) ?_
  refine j_newL 56 dX9_init_31 ka_long (by decide) (by decide +kernel) (by decide +kernel) (by decide +kernel) (by decide +kernel) rfl ?_
  refine j_gw rfl (fun _ => rfl) (fun _ => rfl) (fun _ => rfl) ?_
  refine j_nmr (x := 9) rfl ?_
  refine j_mem (μ1 := (kX 9 757 kXI1 kXP5)) rfl ?_
  refine j_putP 3 jC_8 dX9_init_33 kf_RX9_22 (Or.inr ⟨rfl, rfl, rfl⟩) rfl rfl (fun ad => jr_nfA ad _) rfl rfl ?_
  refine j_mem (μ1 := (kX 9 757 kXI1 kXP6)) rfl ?_
  refine j_aload_n 0 dX9_init_36 rfl rfl ?_
  refine j_bipush (v := 16) dX9_init_37 (by decide) ?_
  refine j_newL 16 dX9_init_39 ka_long (by decide) (by decide +kernel) (by decide +kernel) (by decide +kernel) (by decide +kernel) rfl ?_
  refine j_gw rfl (fun _ => rfl) (fun _ => rfl) (fun _ => rfl) ?_
  refine j_nmr (x := 10) rfl ?_
  refine j_mem (μ1 := (kX 10 773 kXI1 kXP6)) rfl ?_
  refine j_putP 4 jC_8 dX9_init_41 kf_RX9_25 (Or.inr ⟨rfl, rfl, rfl⟩) rfl rfl (fun ad => jr_nfA ad _) rfl rfl ?_
  refine j_mem (μ1 := (kX 10 773 kXI1 kXP7)) rfl ?_
  exact j_vret dX9_init_44 rfl rfl
def kXP8 : Nat → Nat → Nat := ju kXP7 4 0 5
def kXP9 : Nat → Nat → Nat := ju kXP8 4 4 11
def kXP10 : Nat → Nat → Nat := ju kXP9 4 5 12
def kXP11 : Nat → Nat → Nat := ju kXP10 4 6 13
def kXP12 : Nat → Nat → Nat := ju kXP11 4 7 14
def kXP13 : Nat → Nat → Nat := ju kXP12 4 8 15
def kXP14 : Nat → Nat → Nat := ju kXP13 4 9 16
def kXI2 : Nat → Nat → Int32 := ju kXI1 4 11 16
set_option maxHeartbeats 1000000 in
set_option maxRecDepth 20000 in
theorem k_X0_init_4 : Cn yX0_init cX0_init 1 none 2 true [.ref 4] (kX 4 527 kXI1 kXP2) none (kX 16 25893 kXI2 kXP14) := by
  refine Cn_of (by decide) (by decide +kernel) (by decide +kernel) (Nat.le_of_ble_eq_true rfl) ?_
  show J yX0_init cX0_init 1 none 2 true none (kX 16 25893 kXI2 kXP14) 0 [(0, .ref 4)] [] (kX 4 527 kXI1 kXP2)
  refine j_aload_n 0 dX0_init_0 rfl rfl ?_
  refine j_objInit dX0_init_1 kl_RX0_3 rfl rfl rfl rfl ?_
  refine j_aload_n 0 dX0_init_4 rfl rfl ?_
  refine j_new jC_8 dX0_init_5 kq_RX0_9 kv_RX9 kz_RX9 (by decide) (by decide +kernel) (by decide +kernel) rfl ?_
  refine j_gw rfl (fun _ => rfl) (fun _ => rfl) (fun _ => rfl) ?_
  refine j_nmr (x := 5) rfl ?_
  refine j_mem (μ1 := (kX 5 533 kXI1 kXP2)) rfl ?_
  refine j_dup dX0_init_8 rfl ?_
  refine j_callN (st1 := _) k_X9_init_5 jy_X9_init ki_yX9_init rfl (by decide +kernel) dX0_init_9 rfl rfl rfl rfl rfl (by decide +kernel) (by decide +kernel) (by decide +kernel) (by decide +kernel) (Or.inl rfl) rfl ?_
  refine j_putP 0 jC_0 dX0_init_12 kf_RX0_12 (Or.inr ⟨rfl, rfl, rfl⟩) rfl rfl (fun ad => jr_nf ad _) rfl rfl ?_
  refine j_mem (μ1 := (kX 10 773 kXI1 kXP8)) rfl ?_
  refine j_aload_n 0 dX0_init_15 rfl rfl ?_
  refine j_bipush (v := 16) dX0_init_16 (by decide) ?_
  refine j_newI 16 dX0_init_18 ka_int (by decide) (by decide +kernel) (by decide +kernel) (by decide +kernel) (by decide +kernel) rfl ?_
  refine j_gw rfl (fun _ => rfl) (fun _ => rfl) (fun _ => rfl) ?_
  refine j_nmr (x := 11) rfl ?_
  refine j_mem (μ1 := (kX 11 789 kXI1 kXP8)) rfl ?_
  refine j_putP 4 jC_0 dX0_init_20 kf_RX0_18 (Or.inr ⟨rfl, rfl, rfl⟩) rfl rfl (fun ad => jr_nfA ad _) rfl rfl ?_
  refine j_mem (μ1 := (kX 11 789 kXI1 kXP9)) rfl ?_
  refine j_aload_n 0 dX0_init_23 rfl rfl ?_
  refine j_sipush (v := 6272) dX0_init_24 (by decide) ?_
  refine j_newI 6272 dX0_init_27 ka_int (by decide) (by decide +kernel) (by decide +kernel) (by decide +kernel) (by decide +kernel) rfl ?_
  refine j_gw rfl (fun _ => rfl) (fun _ => rfl) (fun _ => rfl) ?_
  refine j_nmr (x := 12) rfl ?_
  refine j_mem (μ1 := (kX 12 7061 kXI1 kXP9)) rfl ?_
  refine j_putP 5 jC_0 dX0_init_29 kf_RX0_22 (Or.inr ⟨rfl, rfl, rfl⟩) rfl rfl (fun ad => jr_nfA ad _) rfl rfl ?_
  refine j_mem (μ1 := (kX 12 7061 kXI1 kXP10)) rfl ?_
  refine j_aload_n 0 dX0_init_32 rfl rfl ?_
  refine j_sipush (v := 6272) dX0_init_33 (by decide) ?_
  refine j_newI 6272 dX0_init_36 ka_int (by decide) (by decide +kernel) (by decide +kernel) (by decide +kernel) (by decide +kernel) rfl ?_
  refine j_gw rfl (fun _ => rfl) (fun _ => rfl) (fun _ => rfl) ?_
  refine j_nmr (x := 13) rfl ?_
  refine j_mem (μ1 := (kX 13 13333 kXI1 kXP10)) rfl ?_
  refine j_putP 6 jC_0 dX0_init_38 kf_RX0_25 (Or.inr ⟨rfl, rfl, rfl⟩) rfl rfl (fun ad => jr_nfA ad _) rfl rfl ?_
  refine j_mem (μ1 := (kX 13 13333 kXI1 kXP11)) rfl ?_
  refine j_aload_n 0 dX0_init_41 rfl rfl ?_
  refine j_sipush (v := 6272) dX0_init_42 (by decide) ?_
  refine j_newI 6272 dX0_init_45 ka_int (by decide) (by decide +kernel) (by decide +kernel) (by decide +kernel) (by decide +kernel) rfl ?_
  refine j_gw rfl (fun _ => rfl) (fun _ => rfl) (fun _ => rfl) ?_
  refine j_nmr (x := 14) rfl ?_
  refine j_mem (μ1 := (kX 14 19605 kXI1 kXP11)) rfl ?_
  refine j_putP 7 jC_0 dX0_init_47 kf_RX0_28 (Or.inr ⟨rfl, rfl, rfl⟩) rfl rfl (fun ad => jr_nfA ad _) rfl rfl ?_
  refine j_mem (μ1 := (kX 14 19605 kXI1 kXP12)) rfl ?_
  refine j_aload_n 0 dX0_init_50 rfl rfl ?_
  refine j_sipush (v := 6272) dX0_init_51 (by decide) ?_
  refine j_newI 6272 dX0_init_54 ka_int (by decide) (by decide +kernel) (by decide +kernel) (by decide +kernel) (by decide +kernel) rfl ?_
  refine j_gw rfl (fun _ => rfl) (fun _ => rfl) (fun _ => rfl) ?_
  refine j_nmr (x := 15) rfl ?_
  refine j_mem (μ1 := (kX 15 25877 kXI1 kXP12)) rfl ?_
  refine j_putP 8 jC_0 dX0_init_56 kf_RX0_31 (Or.inr ⟨rfl, rfl, rfl⟩) rfl rfl (fun ad => jr_nfA ad _) rfl rfl ?_
  refine j_mem (μ1 := (kX 15 25877 kXI1 kXP13)) rfl ?_
  refine j_aload_n 0 dX0_init_59 rfl rfl ?_
  refine j_bipush (v := 16) dX0_init_60 (by decide) ?_
  refine j_newI 16 dX0_init_62 ka_int (by decide) (by decide +kernel) (by decide +kernel) (by decide +kernel) (by decide +kernel) rfl ?_
  refine j_gw rfl (fun _ => rfl) (fun _ => rfl) (fun _ => rfl) ?_
  refine j_nmr (x := 16) rfl ?_
  refine j_mem (μ1 := (kX 16 25893 kXI1 kXP13)) rfl ?_
  refine j_putP 9 jC_0 dX0_init_64 kf_RX0_34 (Or.inr ⟨rfl, rfl, rfl⟩) rfl rfl (fun ad => jr_nfA ad _) rfl rfl ?_
  refine j_mem (μ1 := (kX 16 25893 kXI1 kXP14)) rfl ?_
  refine j_aload_n 0 dX0_init_67 rfl rfl ?_
  refine j_bipush (v := 16) dX0_init_68 (by decide) ?_
  refine j_putI 11 jC_0 dX0_init_70 kf_RX0_37 (Or.inl rfl) rfl rfl (fun _ => ⟨rfl, rfl⟩) rfl rfl ?_
  refine j_mem (μ1 := (kX 16 25893 kXI2 kXP14)) rfl ?_
  exact j_vret dX0_init_73 rfl rfl
def kXP15 : Nat → Nat → Nat := ju kXP14 1 1 4
def kXP16 : Nat → Nat → Nat := ju kXP15 17 0 18
def kXP17 : Nat → Nat → Nat := ju kXP16 17 1 19
set_option maxHeartbeats 1000000 in
set_option maxRecDepth 20000 in
theorem k_X4_init_17 : Cn yX4_init cX4_init 1 none 1 true [.ref 17] (kX 17 25899 kXI2 kXP15) none (kX 19 26611 kXI2 kXP17) := by
  refine Cn_of (by decide) (by decide +kernel) (by decide +kernel) (Nat.le_of_ble_eq_true rfl) ?_
  show J yX4_init cX4_init 1 none 1 true none (kX 19 26611 kXI2 kXP17) 0 [(0, .ref 17)] [] (kX 17 25899 kXI2 kXP15)
  refine j_aload_n 0 dX4_init_0 rfl rfl ?_
  refine j_objInit dX4_init_1 kl_RX4_3 rfl rfl rfl rfl ?_
  refine j_aload_n 0 dX4_init_4 rfl rfl ?_
  refine j_bipush (v := 64) dX4_init_5 (by decide) ?_
  refine j_newL 64 dX4_init_7 ka_long (by decide) (by decide +kernel) (by decide +kernel) (by decide +kernel) (by decide +kernel) rfl ?_
  refine j_gw rfl (fun _ => rfl) (fun _ => rfl) (fun _ => rfl) ?_
  refine j_nmr (x := 18) rfl ?_
  refine j_mem (μ1 := (kX 18 25963 kXI2 kXP15)) rfl ?_
  refine j_putP 0 jC_4 dX4_init_9 kf_RX4_11 (Or.inr ⟨rfl, rfl, rfl⟩) rfl rfl (fun ad => jr_nfA ad _) rfl rfl ?_
  refine j_mem (μ1 := (kX 18 25963 kXI2 kXP16)) rfl ?_
  refine j_aload_n 0 dX4_init_12 rfl rfl ?_
  refine j_sipush (v := 648) dX4_init_13 (by decide) ?_
  refine j_newL 648 dX4_init_16 ka_long (by decide) (by decide +kernel) (by decide +kernel) (by decide +kernel) (by decide +kernel) rfl ?_
  refine j_gw rfl (fun _ => rfl) (fun _ => rfl) (fun _ => rfl) ?_
  refine j_nmr (x := 19) rfl ?_
  refine j_mem (μ1 := (kX 19 26611 kXI2 kXP16)) rfl ?_
  refine j_putP 1 jC_4 dX4_init_18 kf_RX4_15 (Or.inr ⟨rfl, rfl, rfl⟩) rfl rfl (fun ad => jr_nfA ad _) rfl rfl ?_
  refine j_mem (μ1 := (kX 19 26611 kXI2 kXP17)) rfl ?_
  exact j_vret dX4_init_21 rfl rfl
def kXP18 : Nat → Nat → Nat := ju kXP17 1 2 17
def kXP19 : Nat → Nat → Nat := ju kXP18 20 3 21
def kXP20 : Nat → Nat → Nat := ju kXP19 20 4 22
set_option maxHeartbeats 1000000 in
set_option maxRecDepth 20000 in
theorem k_X2_init_20 : Cn yX2_init cX2_init 1 none 1 true [.ref 20] (kX 20 26616 kXI2 kXP18) none (kX 22 26648 kXI2 kXP20) := by
  refine Cn_of (by decide) (by decide +kernel) (by decide +kernel) (Nat.le_of_ble_eq_true rfl) ?_
  show J yX2_init cX2_init 1 none 1 true none (kX 22 26648 kXI2 kXP20) 0 [(0, .ref 20)] [] (kX 20 26616 kXI2 kXP18)
  refine j_aload_n 0 dX2_init_0 rfl rfl ?_
  refine j_objInit dX2_init_1 kl_RX2_3 rfl rfl rfl rfl ?_
  refine j_aload_n 0 dX2_init_4 rfl rfl ?_
  refine j_bipush (v := 16) dX2_init_5 (by decide) ?_
  refine j_newI 16 dX2_init_7 ka_int (by decide) (by decide +kernel) (by decide +kernel) (by decide +kernel) (by decide +kernel) rfl ?_
  refine j_gw rfl (fun _ => rfl) (fun _ => rfl) (fun _ => rfl) ?_
  refine j_nmr (x := 21) rfl ?_
  refine j_mem (μ1 := (kX 21 26632 kXI2 kXP18)) rfl ?_
  refine j_putP 3 jC_2 dX2_init_9 kf_RX2_9 (Or.inr ⟨rfl, rfl, rfl⟩) rfl rfl (fun ad => jr_nfA ad _) rfl rfl ?_
  refine j_mem (μ1 := (kX 21 26632 kXI2 kXP19)) rfl ?_
  refine j_aload_n 0 dX2_init_12 rfl rfl ?_
  refine j_bipush (v := 16) dX2_init_13 (by decide) ?_
  refine j_newI 16 dX2_init_15 ka_int (by decide) (by decide +kernel) (by decide +kernel) (by decide +kernel) (by decide +kernel) rfl ?_
  refine j_gw rfl (fun _ => rfl) (fun _ => rfl) (fun _ => rfl) ?_
  refine j_nmr (x := 22) rfl ?_
  refine j_mem (μ1 := (kX 22 26648 kXI2 kXP19)) rfl ?_
  refine j_putP 4 jC_2 dX2_init_17 kf_RX2_15 (Or.inr ⟨rfl, rfl, rfl⟩) rfl rfl (fun ad => jr_nfA ad _) rfl rfl ?_
  refine j_mem (μ1 := (kX 22 26648 kXI2 kXP20)) rfl ?_
  exact j_vret dX2_init_20 rfl rfl
def kXP21 : Nat → Nat → Nat := ju kXP20 1 3 20
def kXP22 : Nat → Nat → Nat := ju kXP21 23 0 24
def kXP23 : Nat → Nat → Nat := ju kXP22 23 1 25
def kXP24 : Nat → Nat → Nat := ju kXP23 23 4 26
def kXP25 : Nat → Nat → Nat := ju kXP24 23 5 27
def kXP26 : Nat → Nat → Nat := ju kXP25 23 6 28
set_option maxHeartbeats 1000000 in
set_option maxRecDepth 20000 in
theorem k_X3_init_23 : Cn yX3_init cX3_init 1 none 1 true [.ref 23] (kX 23 26655 kXI2 kXP21) none (kX 28 26795 kXI2 kXP26) := by
  refine Cn_of (by decide) (by decide +kernel) (by decide +kernel) (Nat.le_of_ble_eq_true rfl) ?_
  show J yX3_init cX3_init 1 none 1 true none (kX 28 26795 kXI2 kXP26) 0 [(0, .ref 23)] [] (kX 23 26655 kXI2 kXP21)
  refine j_aload_n 0 dX3_init_0 rfl rfl ?_
  refine j_objInit dX3_init_1 kl_RX3_3 rfl rfl rfl rfl ?_
  refine j_aload_n 0 dX3_init_4 rfl rfl ?_
  refine j_bipush (v := 40) dX3_init_5 (by decide) ?_
  refine j_newI 40 dX3_init_7 ka_int (by decide) (by decide +kernel) (by decide +kernel) (by decide +kernel) (by decide +kernel) rfl ?_
  refine j_gw rfl (fun _ => rfl) (fun _ => rfl) (fun _ => rfl) ?_
  refine j_nmr (x := 24) rfl ?_
  refine j_mem (μ1 := (kX 24 26695 kXI2 kXP21)) rfl ?_
  refine j_putP 0 jC_3 dX3_init_9 kf_RX3_9 (Or.inr ⟨rfl, rfl, rfl⟩) rfl rfl (fun ad => jr_nfA ad _) rfl rfl ?_
  refine j_mem (μ1 := (kX 24 26695 kXI2 kXP22)) rfl ?_
  refine j_aload_n 0 dX3_init_12 rfl rfl ?_
  refine j_bipush (v := 40) dX3_init_13 (by decide) ?_
  refine j_newI 40 dX3_init_15 ka_int (by decide) (by decide +kernel) (by decide +kernel) (by decide +kernel) (by decide +kernel) rfl ?_
  refine j_gw rfl (fun _ => rfl) (fun _ => rfl) (fun _ => rfl) ?_
  refine j_nmr (x := 25) rfl ?_
  refine j_mem (μ1 := (kX 25 26735 kXI2 kXP22)) rfl ?_
  refine j_putP 1 jC_3 dX3_init_17 kf_RX3_15 (Or.inr ⟨rfl, rfl, rfl⟩) rfl rfl (fun ad => jr_nfA ad _) rfl rfl ?_
  refine j_mem (μ1 := (kX 25 26735 kXI2 kXP23)) rfl ?_
  refine j_aload_n 0 dX3_init_20 rfl rfl ?_
  refine j_bipush (v := 20) dX3_init_21 (by decide) ?_
  refine j_newI 20 dX3_init_23 ka_int (by decide) (by decide +kernel) (by decide +kernel) (by decide +kernel) (by decide +kernel) rfl ?_
  refine j_gw rfl (fun _ => rfl) (fun _ => rfl) (fun _ => rfl) ?_
  refine j_nmr (x := 26) rfl ?_
  refine j_mem (μ1 := (kX 26 26755 kXI2 kXP23)) rfl ?_
  refine j_putP 4 jC_3 dX3_init_25 kf_RX3_18 (Or.inr ⟨rfl, rfl, rfl⟩) rfl rfl (fun ad => jr_nfA ad _) rfl rfl ?_
  refine j_mem (μ1 := (kX 26 26755 kXI2 kXP24)) rfl ?_
  refine j_aload_n 0 dX3_init_28 rfl rfl ?_
  refine j_bipush (v := 20) dX3_init_29 (by decide) ?_
  refine j_newI 20 dX3_init_31 ka_int (by decide) (by decide +kernel) (by decide +kernel) (by decide +kernel) (by decide +kernel) rfl ?_
  refine j_gw rfl (fun _ => rfl) (fun _ => rfl) (fun _ => rfl) ?_
  refine j_nmr (x := 27) rfl ?_
  refine j_mem (μ1 := (kX 27 26775 kXI2 kXP24)) rfl ?_
  refine j_putP 5 jC_3 dX3_init_33 kf_RX3_21 (Or.inr ⟨rfl, rfl, rfl⟩) rfl rfl (fun ad => jr_nfA ad _) rfl rfl ?_
  refine j_mem (μ1 := (kX 27 26775 kXI2 kXP25)) rfl ?_
  refine j_aload_n 0 dX3_init_36 rfl rfl ?_
  refine j_bipush (v := 20) dX3_init_37 (by decide) ?_
  refine j_newZ 20 dX3_init_39 ka_boolean (by decide) (by decide +kernel) (by decide +kernel) (by decide +kernel) (by decide +kernel) rfl ?_
  refine j_gw rfl (fun _ => rfl) (fun _ => rfl) (fun _ => rfl) ?_
  refine j_nmr (x := 28) rfl ?_
  refine j_mem (μ1 := (kX 28 26795 kXI2 kXP25)) rfl ?_
  refine j_putP 6 jC_3 dX3_init_41 kf_RX3_24 (Or.inr ⟨rfl, rfl, rfl⟩) rfl rfl (fun ad => jr_nfA ad _) rfl rfl ?_
  refine j_mem (μ1 := (kX 28 26795 kXI2 kXP26)) rfl ?_
  exact j_vret dX3_init_44 rfl rfl
def kXP27 : Nat → Nat → Nat := ju kXP26 1 4 23
def kXP28 : Nat → Nat → Nat := ju kXP27 29 0 30
def kXP29 : Nat → Nat → Nat := ju kXP28 29 1 31
def kXP30 : Nat → Nat → Nat := ju kXP29 32 0 33
def kXP31 : Nat → Nat → Nat := ju kXP30 32 1 34
def kXP32 : Nat → Nat → Nat := ju kXP31 32 2 35
set_option maxHeartbeats 1000000 in
set_option maxRecDepth 20000 in
theorem k_X1_init_32 : Cn yX1_init cX1_init 1 none 1 true [.ref 32] (kX 32 26814 kXI2 kXP29) none (kX 35 27070 kXI2 kXP32) := by
  refine Cn_of (by decide) (by decide +kernel) (by decide +kernel) (Nat.le_of_ble_eq_true rfl) ?_
  show J yX1_init cX1_init 1 none 1 true none (kX 35 27070 kXI2 kXP32) 0 [(0, .ref 32)] [] (kX 32 26814 kXI2 kXP29)
  refine j_aload_n 0 dX1_init_0 rfl rfl ?_
  refine j_objInit dX1_init_1 kl_RX1_3 rfl rfl rfl rfl ?_
  refine j_aload_n 0 dX1_init_4 rfl rfl ?_
  refine j_bipush (v := 120) dX1_init_5 (by decide) ?_
  refine j_newI 120 dX1_init_7 ka_int (by decide) (by decide +kernel) (by decide +kernel) (by decide +kernel) (by decide +kernel) rfl ?_
  refine j_gw rfl (fun _ => rfl) (fun _ => rfl) (fun _ => rfl) ?_
  refine j_nmr (x := 33) rfl ?_
  refine j_mem (μ1 := (kX 33 26934 kXI2 kXP29)) rfl ?_
  refine j_putP 0 jC_1 dX1_init_9 kf_RX1_9 (Or.inr ⟨rfl, rfl, rfl⟩) rfl rfl (fun ad => jr_nfA ad _) rfl rfl ?_
  refine j_mem (μ1 := (kX 33 26934 kXI2 kXP30)) rfl ?_
  refine j_aload_n 0 dX1_init_12 rfl rfl ?_
  refine j_bipush (v := 120) dX1_init_13 (by decide) ?_
  refine j_newI 120 dX1_init_15 ka_int (by decide) (by decide +kernel) (by decide +kernel) (by decide +kernel) (by decide +kernel) rfl ?_
  refine j_gw rfl (fun _ => rfl) (fun _ => rfl) (fun _ => rfl) ?_
  refine j_nmr (x := 34) rfl ?_
  refine j_mem (μ1 := (kX 34 27054 kXI2 kXP30)) rfl ?_
  refine j_putP 1 jC_1 dX1_init_17 kf_RX1_15 (Or.inr ⟨rfl, rfl, rfl⟩) rfl rfl (fun ad => jr_nfA ad _) rfl rfl ?_
  refine j_mem (μ1 := (kX 34 27054 kXI2 kXP31)) rfl ?_
  refine j_aload_n 0 dX1_init_20 rfl rfl ?_
  refine j_bipush (v := 16) dX1_init_21 (by decide) ?_
  refine j_newI 16 dX1_init_23 ka_int (by decide) (by decide +kernel) (by decide +kernel) (by decide +kernel) (by decide +kernel) rfl ?_
  refine j_gw rfl (fun _ => rfl) (fun _ => rfl) (fun _ => rfl) ?_
  refine j_nmr (x := 35) rfl ?_
  refine j_mem (μ1 := (kX 35 27070 kXI2 kXP31)) rfl ?_
  refine j_putP 2 jC_1 dX1_init_25 kf_RX1_18 (Or.inr ⟨rfl, rfl, rfl⟩) rfl rfl (fun ad => jr_nfA ad _) rfl rfl ?_
  refine j_mem (μ1 := (kX 35 27070 kXI2 kXP32)) rfl ?_
  exact j_vret dX1_init_28 rfl rfl
def kXP33 : Nat → Nat → Nat := ju kXP32 29 2 32
set_option maxHeartbeats 1000000 in
set_option maxRecDepth 20000 in
theorem k_X7_init_29 : Cn yX7_init cX7_init 1 none 2 true [.ref 29] (kX 29 26802 kXI2 kXP27) none (kX 35 27070 kXI2 kXP33) := by
  refine Cn_of (by decide) (by decide +kernel) (by decide +kernel) (Nat.le_of_ble_eq_true rfl) ?_
  show J yX7_init cX7_init 1 none 2 true none (kX 35 27070 kXI2 kXP33) 0 [(0, .ref 29)] [] (kX 29 26802 kXI2 kXP27)
  refine j_aload_n 0 dX7_init_0 rfl rfl ?_
  refine j_objInit dX7_init_1 kl_RX7_3 rfl rfl rfl rfl ?_
  refine j_aload_n 0 dX7_init_4 rfl rfl ?_
  refine j_iconst (v := 4) dX7_init_5 (by decide) ?_
  refine j_newI 4 dX7_init_6 ka_int (by decide) (by decide +kernel) (by decide +kernel) (by decide +kernel) (by decide +kernel) rfl ?_
  refine j_gw rfl (fun _ => rfl) (fun _ => rfl) (fun _ => rfl) ?_
  refine j_nmr (x := 30) rfl ?_
  refine j_mem (μ1 := (kX 30 26806 kXI2 kXP27)) rfl ?_
  refine j_putP 0 jC_6 dX7_init_8 kf_RX7_9 (Or.inr ⟨rfl, rfl, rfl⟩) rfl rfl (fun ad => jr_nfA ad _) rfl rfl ?_
  refine j_mem (μ1 := (kX 30 26806 kXI2 kXP28)) rfl ?_
  refine j_aload_n 0 dX7_init_11 rfl rfl ?_
  refine j_iconst (v := 4) dX7_init_12 (by decide) ?_
  refine j_newI 4 dX7_init_13 ka_int (by decide) (by decide +kernel) (by decide +kernel) (by decide +kernel) (by decide +kernel) rfl ?_
  refine j_gw rfl (fun _ => rfl) (fun _ => rfl) (fun _ => rfl) ?_
  refine j_nmr (x := 31) rfl ?_
  refine j_mem (μ1 := (kX 31 26810 kXI2 kXP28)) rfl ?_
  refine j_putP 1 jC_6 dX7_init_15 kf_RX7_15 (Or.inr ⟨rfl, rfl, rfl⟩) rfl rfl (fun ad => jr_nfA ad _) rfl rfl ?_
  refine j_mem (μ1 := (kX 31 26810 kXI2 kXP29)) rfl ?_
  refine j_aload_n 0 dX7_init_18 rfl rfl ?_
  refine j_new jC_1 dX7_init_19 kq_RX7_18 kv_RX1 kz_RX1 (by decide) (by decide +kernel) (by decide +kernel) rfl ?_
  refine j_gw rfl (fun _ => rfl) (fun _ => rfl) (fun _ => rfl) ?_
  refine j_nmr (x := 32) rfl ?_
  refine j_mem (μ1 := (kX 32 26814 kXI2 kXP29)) rfl ?_
  refine j_dup dX7_init_22 rfl ?_
  refine j_callN (st1 := _) k_X1_init_32 jy_X1_init ki_yX1_init rfl (by decide +kernel) dX7_init_23 rfl rfl rfl rfl rfl (by decide +kernel) (by decide +kernel) (by decide +kernel) (by decide +kernel) (Or.inl rfl) rfl ?_
  refine j_putP 2 jC_6 dX7_init_26 kf_RX7_21 (Or.inr ⟨rfl, rfl, rfl⟩) rfl rfl (fun ad => jr_nf ad _) rfl rfl ?_
  refine j_mem (μ1 := (kX 35 27070 kXI2 kXP33)) rfl ?_
  exact j_vret dX7_init_29 rfl rfl
def kXP34 : Nat → Nat → Nat := ju kXP33 1 5 29
def kXP35 : Nat → Nat → Nat := ju kXP34 1 6 36
def kXP36 : Nat → Nat → Nat := ju kXP35 37 0 38
def kXP37 : Nat → Nat → Nat := ju kXP36 37 1 39
def kXP38 : Nat → Nat → Nat := ju kXP37 40 0 41
def kXP39 : Nat → Nat → Nat := ju kXP38 40 1 42
def kXP40 : Nat → Nat → Nat := ju kXP39 40 2 43
set_option maxHeartbeats 1000000 in
set_option maxRecDepth 20000 in
theorem k_X1_init_40 : Cn yX1_init cX1_init 1 none 1 true [.ref 40] (kX 40 27091 kXI2 kXP37) none (kX 43 27347 kXI2 kXP40) := by
  refine Cn_of (by decide) (by decide +kernel) (by decide +kernel) (Nat.le_of_ble_eq_true rfl) ?_
  show J yX1_init cX1_init 1 none 1 true none (kX 43 27347 kXI2 kXP40) 0 [(0, .ref 40)] [] (kX 40 27091 kXI2 kXP37)
  refine j_aload_n 0 dX1_init_0 rfl rfl ?_
  refine j_objInit dX1_init_1 kl_RX1_3 rfl rfl rfl rfl ?_
  refine j_aload_n 0 dX1_init_4 rfl rfl ?_
  refine j_bipush (v := 120) dX1_init_5 (by decide) ?_
  refine j_newI 120 dX1_init_7 ka_int (by decide) (by decide +kernel) (by decide +kernel) (by decide +kernel) (by decide +kernel) rfl ?_
  refine j_gw rfl (fun _ => rfl) (fun _ => rfl) (fun _ => rfl) ?_
  refine j_nmr (x := 41) rfl ?_
  refine j_mem (μ1 := (kX 41 27211 kXI2 kXP37)) rfl ?_
  refine j_putP 0 jC_1 dX1_init_9 kf_RX1_9 (Or.inr ⟨rfl, rfl, rfl⟩) rfl rfl (fun ad => jr_nfA ad _) rfl rfl ?_
  refine j_mem (μ1 := (kX 41 27211 kXI2 kXP38)) rfl ?_
  refine j_aload_n 0 dX1_init_12 rfl rfl ?_
  refine j_bipush (v := 120) dX1_init_13 (by decide) ?_
  refine j_newI 120 dX1_init_15 ka_int (by decide) (by decide +kernel) (by decide +kernel) (by decide +kernel) (by decide +kernel) rfl ?_
  refine j_gw rfl (fun _ => rfl) (fun _ => rfl) (fun _ => rfl) ?_
  refine j_nmr (x := 42) rfl ?_
  refine j_mem (μ1 := (kX 42 27331 kXI2 kXP38)) rfl ?_
  refine j_putP 1 jC_1 dX1_init_17 kf_RX1_15 (Or.inr ⟨rfl, rfl, rfl⟩) rfl rfl (fun ad => jr_nfA ad _) rfl rfl ?_
  refine j_mem (μ1 := (kX 42 27331 kXI2 kXP39)) rfl ?_
  refine j_aload_n 0 dX1_init_20 rfl rfl ?_
  refine j_bipush (v := 16) dX1_init_21 (by decide) ?_
  refine j_newI 16 dX1_init_23 ka_int (by decide) (by decide +kernel) (by decide +kernel) (by decide +kernel) (by decide +kernel) rfl ?_
  refine j_gw rfl (fun _ => rfl) (fun _ => rfl) (fun _ => rfl) ?_
  refine j_nmr (x := 43) rfl ?_
  refine j_mem (μ1 := (kX 43 27347 kXI2 kXP39)) rfl ?_
  refine j_putP 2 jC_1 dX1_init_25 kf_RX1_18 (Or.inr ⟨rfl, rfl, rfl⟩) rfl rfl (fun ad => jr_nfA ad _) rfl rfl ?_
  refine j_mem (μ1 := (kX 43 27347 kXI2 kXP40)) rfl ?_
  exact j_vret dX1_init_28 rfl rfl
def kXP41 : Nat → Nat → Nat := ju kXP40 37 2 40
set_option maxHeartbeats 1000000 in
set_option maxRecDepth 20000 in
theorem k_X7_init_37 : Cn yX7_init cX7_init 1 none 2 true [.ref 37] (kX 37 27079 kXI2 kXP35) none (kX 43 27347 kXI2 kXP41) := by
  refine Cn_of (by decide) (by decide +kernel) (by decide +kernel) (Nat.le_of_ble_eq_true rfl) ?_
  show J yX7_init cX7_init 1 none 2 true none (kX 43 27347 kXI2 kXP41) 0 [(0, .ref 37)] [] (kX 37 27079 kXI2 kXP35)
  refine j_aload_n 0 dX7_init_0 rfl rfl ?_
  refine j_objInit dX7_init_1 kl_RX7_3 rfl rfl rfl rfl ?_
  refine j_aload_n 0 dX7_init_4 rfl rfl ?_
  refine j_iconst (v := 4) dX7_init_5 (by decide) ?_
  refine j_newI 4 dX7_init_6 ka_int (by decide) (by decide +kernel) (by decide +kernel) (by decide +kernel) (by decide +kernel) rfl ?_
  refine j_gw rfl (fun _ => rfl) (fun _ => rfl) (fun _ => rfl) ?_
  refine j_nmr (x := 38) rfl ?_
  refine j_mem (μ1 := (kX 38 27083 kXI2 kXP35)) rfl ?_
  refine j_putP 0 jC_6 dX7_init_8 kf_RX7_9 (Or.inr ⟨rfl, rfl, rfl⟩) rfl rfl (fun ad => jr_nfA ad _) rfl rfl ?_
  refine j_mem (μ1 := (kX 38 27083 kXI2 kXP36)) rfl ?_
  refine j_aload_n 0 dX7_init_11 rfl rfl ?_
  refine j_iconst (v := 4) dX7_init_12 (by decide) ?_
  refine j_newI 4 dX7_init_13 ka_int (by decide) (by decide +kernel) (by decide +kernel) (by decide +kernel) (by decide +kernel) rfl ?_
  refine j_gw rfl (fun _ => rfl) (fun _ => rfl) (fun _ => rfl) ?_
  refine j_nmr (x := 39) rfl ?_
  refine j_mem (μ1 := (kX 39 27087 kXI2 kXP36)) rfl ?_
  refine j_putP 1 jC_6 dX7_init_15 kf_RX7_15 (Or.inr ⟨rfl, rfl, rfl⟩) rfl rfl (fun ad => jr_nfA ad _) rfl rfl ?_
  refine j_mem (μ1 := (kX 39 27087 kXI2 kXP37)) rfl ?_
  refine j_aload_n 0 dX7_init_18 rfl rfl ?_
  refine j_new jC_1 dX7_init_19 kq_RX7_18 kv_RX1 kz_RX1 (by decide) (by decide +kernel) (by decide +kernel) rfl ?_
  refine j_gw rfl (fun _ => rfl) (fun _ => rfl) (fun _ => rfl) ?_
  refine j_nmr (x := 40) rfl ?_
  refine j_mem (μ1 := (kX 40 27091 kXI2 kXP37)) rfl ?_
  refine j_dup dX7_init_22 rfl ?_
  refine j_callN (st1 := _) k_X1_init_40 jy_X1_init ki_yX1_init rfl (by decide +kernel) dX7_init_23 rfl rfl rfl rfl rfl (by decide +kernel) (by decide +kernel) (by decide +kernel) (by decide +kernel) (Or.inl rfl) rfl ?_
  refine j_putP 2 jC_6 dX7_init_26 kf_RX7_21 (Or.inr ⟨rfl, rfl, rfl⟩) rfl rfl (fun ad => jr_nf ad _) rfl rfl ?_
  refine j_mem (μ1 := (kX 43 27347 kXI2 kXP41)) rfl ?_
  exact j_vret dX7_init_29 rfl rfl
def kXP42 : Nat → Nat → Nat := ju kXP41 36 0 37
def kXP43 : Nat → Nat → Nat := ju kXP42 44 0 45
def kXP44 : Nat → Nat → Nat := ju kXP43 44 1 46
def kXP45 : Nat → Nat → Nat := ju kXP44 47 0 48
def kXP46 : Nat → Nat → Nat := ju kXP45 47 1 49
def kXP47 : Nat → Nat → Nat := ju kXP46 47 2 50
set_option maxHeartbeats 1000000 in
set_option maxRecDepth 20000 in
theorem k_X1_init_47 : Cn yX1_init cX1_init 1 none 1 true [.ref 47] (kX 47 27366 kXI2 kXP44) none (kX 50 27622 kXI2 kXP47) := by
  refine Cn_of (by decide) (by decide +kernel) (by decide +kernel) (Nat.le_of_ble_eq_true rfl) ?_
  show J yX1_init cX1_init 1 none 1 true none (kX 50 27622 kXI2 kXP47) 0 [(0, .ref 47)] [] (kX 47 27366 kXI2 kXP44)
  refine j_aload_n 0 dX1_init_0 rfl rfl ?_
  refine j_objInit dX1_init_1 kl_RX1_3 rfl rfl rfl rfl ?_
  refine j_aload_n 0 dX1_init_4 rfl rfl ?_
  refine j_bipush (v := 120) dX1_init_5 (by decide) ?_
  refine j_newI 120 dX1_init_7 ka_int (by decide) (by decide +kernel) (by decide +kernel) (by decide +kernel) (by decide +kernel) rfl ?_
  refine j_gw rfl (fun _ => rfl) (fun _ => rfl) (fun _ => rfl) ?_
  refine j_nmr (x := 48) rfl ?_
  refine j_mem (μ1 := (kX 48 27486 kXI2 kXP44)) rfl ?_
  refine j_putP 0 jC_1 dX1_init_9 kf_RX1_9 (Or.inr ⟨rfl, rfl, rfl⟩) rfl rfl (fun ad => jr_nfA ad _) rfl rfl ?_
  refine j_mem (μ1 := (kX 48 27486 kXI2 kXP45)) rfl ?_
  refine j_aload_n 0 dX1_init_12 rfl rfl ?_
  refine j_bipush (v := 120) dX1_init_13 (by decide) ?_
  refine j_newI 120 dX1_init_15 ka_int (by decide) (by decide +kernel) (by decide +kernel) (by decide +kernel) (by decide +kernel) rfl ?_
  refine j_gw rfl (fun _ => rfl) (fun _ => rfl) (fun _ => rfl) ?_
  refine j_nmr (x := 49) rfl ?_
  refine j_mem (μ1 := (kX 49 27606 kXI2 kXP45)) rfl ?_
  refine j_putP 1 jC_1 dX1_init_17 kf_RX1_15 (Or.inr ⟨rfl, rfl, rfl⟩) rfl rfl (fun ad => jr_nfA ad _) rfl rfl ?_
  refine j_mem (μ1 := (kX 49 27606 kXI2 kXP46)) rfl ?_
  refine j_aload_n 0 dX1_init_20 rfl rfl ?_
  refine j_bipush (v := 16) dX1_init_21 (by decide) ?_
  refine j_newI 16 dX1_init_23 ka_int (by decide) (by decide +kernel) (by decide +kernel) (by decide +kernel) (by decide +kernel) rfl ?_
  refine j_gw rfl (fun _ => rfl) (fun _ => rfl) (fun _ => rfl) ?_
  refine j_nmr (x := 50) rfl ?_
  refine j_mem (μ1 := (kX 50 27622 kXI2 kXP46)) rfl ?_
  refine j_putP 2 jC_1 dX1_init_25 kf_RX1_18 (Or.inr ⟨rfl, rfl, rfl⟩) rfl rfl (fun ad => jr_nfA ad _) rfl rfl ?_
  refine j_mem (μ1 := (kX 50 27622 kXI2 kXP47)) rfl ?_
  exact j_vret dX1_init_28 rfl rfl
def kXP48 : Nat → Nat → Nat := ju kXP47 44 2 47
set_option maxHeartbeats 1000000 in
set_option maxRecDepth 20000 in
theorem k_X7_init_44 : Cn yX7_init cX7_init 1 none 2 true [.ref 44] (kX 44 27354 kXI2 kXP42) none (kX 50 27622 kXI2 kXP48) := by
  refine Cn_of (by decide) (by decide +kernel) (by decide +kernel) (Nat.le_of_ble_eq_true rfl) ?_
  show J yX7_init cX7_init 1 none 2 true none (kX 50 27622 kXI2 kXP48) 0 [(0, .ref 44)] [] (kX 44 27354 kXI2 kXP42)
  refine j_aload_n 0 dX7_init_0 rfl rfl ?_
  refine j_objInit dX7_init_1 kl_RX7_3 rfl rfl rfl rfl ?_
  refine j_aload_n 0 dX7_init_4 rfl rfl ?_
  refine j_iconst (v := 4) dX7_init_5 (by decide) ?_
  refine j_newI 4 dX7_init_6 ka_int (by decide) (by decide +kernel) (by decide +kernel) (by decide +kernel) (by decide +kernel) rfl ?_
  refine j_gw rfl (fun _ => rfl) (fun _ => rfl) (fun _ => rfl) ?_
  refine j_nmr (x := 45) rfl ?_
  refine j_mem (μ1 := (kX 45 27358 kXI2 kXP42)) rfl ?_
  refine j_putP 0 jC_6 dX7_init_8 kf_RX7_9 (Or.inr ⟨rfl, rfl, rfl⟩) rfl rfl (fun ad => jr_nfA ad _) rfl rfl ?_
  refine j_mem (μ1 := (kX 45 27358 kXI2 kXP43)) rfl ?_
  refine j_aload_n 0 dX7_init_11 rfl rfl ?_
  refine j_iconst (v := 4) dX7_init_12 (by decide) ?_
  refine j_newI 4 dX7_init_13 ka_int (by decide) (by decide +kernel) (by decide +kernel) (by decide +kernel) (by decide +kernel) rfl ?_
  refine j_gw rfl (fun _ => rfl) (fun _ => rfl) (fun _ => rfl) ?_
  refine j_nmr (x := 46) rfl ?_
  refine j_mem (μ1 := (kX 46 27362 kXI2 kXP43)) rfl ?_
  refine j_putP 1 jC_6 dX7_init_15 kf_RX7_15 (Or.inr ⟨rfl, rfl, rfl⟩) rfl rfl (fun ad => jr_nfA ad _) rfl rfl ?_
  refine j_mem (μ1 := (kX 46 27362 kXI2 kXP44)) rfl ?_
  refine j_aload_n 0 dX7_init_18 rfl rfl ?_
  refine j_new jC_1 dX7_init_19 kq_RX7_18 kv_RX1 kz_RX1 (by decide) (by decide +kernel) (by decide +kernel) rfl ?_
  refine j_gw rfl (fun _ => rfl) (fun _ => rfl) (fun _ => rfl) ?_
  refine j_nmr (x := 47) rfl ?_
  refine j_mem (μ1 := (kX 47 27366 kXI2 kXP44)) rfl ?_
  refine j_dup dX7_init_22 rfl ?_
  refine j_callN (st1 := _) k_X1_init_47 jy_X1_init ki_yX1_init rfl (by decide +kernel) dX7_init_23 rfl rfl rfl rfl rfl (by decide +kernel) (by decide +kernel) (by decide +kernel) (by decide +kernel) (Or.inl rfl) rfl ?_
  refine j_putP 2 jC_6 dX7_init_26 kf_RX7_21 (Or.inr ⟨rfl, rfl, rfl⟩) rfl rfl (fun ad => jr_nf ad _) rfl rfl ?_
  refine j_mem (μ1 := (kX 50 27622 kXI2 kXP48)) rfl ?_
  exact j_vret dX7_init_29 rfl rfl
def kXP49 : Nat → Nat → Nat := ju kXP48 36 1 44
def kXP50 : Nat → Nat → Nat := ju kXP49 51 0 52
def kXP51 : Nat → Nat → Nat := ju kXP50 51 1 53
def kXP52 : Nat → Nat → Nat := ju kXP51 51 2 54
def kXP53 : Nat → Nat → Nat := ju kXP52 51 3 55
def kXP54 : Nat → Nat → Nat := ju kXP53 51 4 56
def kXP55 : Nat → Nat → Nat := ju kXP54 57 0 58
def kXP56 : Nat → Nat → Nat := ju kXP55 57 1 59
def kXP57 : Nat → Nat → Nat := ju kXP56 57 2 60
set_option maxHeartbeats 1000000 in
set_option maxRecDepth 20000 in
theorem k_X1_init_57 : Cn yX1_init cX1_init 1 none 1 true [.ref 57] (kX 57 27739 kXI2 kXP54) none (kX 60 27995 kXI2 kXP57) := by
  refine Cn_of (by decide) (by decide +kernel) (by decide +kernel) (Nat.le_of_ble_eq_true rfl) ?_
  show J yX1_init cX1_init 1 none 1 true none (kX 60 27995 kXI2 kXP57) 0 [(0, .ref 57)] [] (kX 57 27739 kXI2 kXP54)
  refine j_aload_n 0 dX1_init_0 rfl rfl ?_
  refine j_objInit dX1_init_1 kl_RX1_3 rfl rfl rfl rfl ?_
  refine j_aload_n 0 dX1_init_4 rfl rfl ?_
  refine j_bipush (v := 120) dX1_init_5 (by decide) ?_
  refine j_newI 120 dX1_init_7 ka_int (by decide) (by decide +kernel) (by decide +kernel) (by decide +kernel) (by decide +kernel) rfl ?_
  refine j_gw rfl (fun _ => rfl) (fun _ => rfl) (fun _ => rfl) ?_
  refine j_nmr (x := 58) rfl ?_
  refine j_mem (μ1 := (kX 58 27859 kXI2 kXP54)) rfl ?_
  refine j_putP 0 jC_1 dX1_init_9 kf_RX1_9 (Or.inr ⟨rfl, rfl, rfl⟩) rfl rfl (fun ad => jr_nfA ad _) rfl rfl ?_
  refine j_mem (μ1 := (kX 58 27859 kXI2 kXP55)) rfl ?_
  refine j_aload_n 0 dX1_init_12 rfl rfl ?_
  refine j_bipush (v := 120) dX1_init_13 (by decide) ?_
  refine j_newI 120 dX1_init_15 ka_int (by decide) (by decide +kernel) (by decide +kernel) (by decide +kernel) (by decide +kernel) rfl ?_
  refine j_gw rfl (fun _ => rfl) (fun _ => rfl) (fun _ => rfl) ?_
  refine j_nmr (x := 59) rfl ?_
  refine j_mem (μ1 := (kX 59 27979 kXI2 kXP55)) rfl ?_
  refine j_putP 1 jC_1 dX1_init_17 kf_RX1_15 (Or.inr ⟨rfl, rfl, rfl⟩) rfl rfl (fun ad => jr_nfA ad _) rfl rfl ?_
  refine j_mem (μ1 := (kX 59 27979 kXI2 kXP56)) rfl ?_
  refine j_aload_n 0 dX1_init_20 rfl rfl ?_
  refine j_bipush (v := 16) dX1_init_21 (by decide) ?_
  refine j_newI 16 dX1_init_23 ka_int (by decide) (by decide +kernel) (by decide +kernel) (by decide +kernel) (by decide +kernel) rfl ?_
  refine j_gw rfl (fun _ => rfl) (fun _ => rfl) (fun _ => rfl) ?_
  refine j_nmr (x := 60) rfl ?_
  refine j_mem (μ1 := (kX 60 27995 kXI2 kXP56)) rfl ?_
  refine j_putP 2 jC_1 dX1_init_25 kf_RX1_18 (Or.inr ⟨rfl, rfl, rfl⟩) rfl rfl (fun ad => jr_nfA ad _) rfl rfl ?_
  refine j_mem (μ1 := (kX 60 27995 kXI2 kXP57)) rfl ?_
  exact j_vret dX1_init_28 rfl rfl
def kXP58 : Nat → Nat → Nat := ju kXP57 51 5 57
set_option maxHeartbeats 1000000 in
set_option maxRecDepth 20000 in
theorem k_X8_init_51 : Cn yX8_init cX8_init 1 none 2 true [.ref 51] (kX 51 27631 kXI2 kXP49) none (kX 60 27995 kXI2 kXP58) := by
  refine Cn_of (by decide) (by decide +kernel) (by decide +kernel) (Nat.le_of_ble_eq_true rfl) ?_
  show J yX8_init cX8_init 1 none 2 true none (kX 60 27995 kXI2 kXP58) 0 [(0, .ref 51)] [] (kX 51 27631 kXI2 kXP49)
  refine j_aload_n 0 dX8_init_0 rfl rfl ?_
  refine j_objInit dX8_init_1 kl_RX8_3 rfl rfl rfl rfl ?_
  refine j_aload_n 0 dX8_init_4 rfl rfl ?_
  refine j_bipush (v := 16) dX8_init_5 (by decide) ?_
  refine j_newI 16 dX8_init_7 ka_int (by decide) (by decide +kernel) (by decide +kernel) (by decide +kernel) (by decide +kernel) rfl ?_
  refine j_gw rfl (fun _ => rfl) (fun _ => rfl) (fun _ => rfl) ?_
  refine j_nmr (x := 52) rfl ?_
  refine j_mem (μ1 := (kX 52 27647 kXI2 kXP49)) rfl ?_
  refine j_putP 0 jC_7 dX8_init_9 kf_RX8_9 (Or.inr ⟨rfl, rfl, rfl⟩) rfl rfl (fun ad => jr_nfA ad _) rfl rfl ?_
  refine j_mem (μ1 := (kX 52 27647 kXI2 kXP50)) rfl ?_
  refine j_aload_n 0 dX8_init_12 rfl rfl ?_
  refine j_bipush (v := 40) dX8_init_13 (by decide) ?_
  refine j_newI 40 dX8_init_15 ka_int (by decide) (by decide +kernel) (by decide +kernel) (by decide +kernel) (by decide +kernel) rfl ?_
  refine j_gw rfl (fun _ => rfl) (fun _ => rfl) (fun _ => rfl) ?_
  refine j_nmr (x := 53) rfl ?_
  refine j_mem (μ1 := (kX 53 27687 kXI2 kXP50)) rfl ?_
  refine j_putP 1 jC_7 dX8_init_17 kf_RX8_15 (Or.inr ⟨rfl, rfl, rfl⟩) rfl rfl (fun ad => jr_nfA ad _) rfl rfl ?_
  refine j_mem (μ1 := (kX 53 27687 kXI2 kXP51)) rfl ?_
  refine j_aload_n 0 dX8_init_20 rfl rfl ?_
  refine j_bipush (v := 40) dX8_init_21 (by decide) ?_
  refine j_newI 40 dX8_init_23 ka_int (by decide) (by decide +kernel) (by decide +kernel) (by decide +kernel) (by decide +kernel) rfl ?_
  refine j_gw rfl (fun _ => rfl) (fun _ => rfl) (fun _ => rfl) ?_
  refine j_nmr (x := 54) rfl ?_
  refine j_mem (μ1 := (kX 54 27727 kXI2 kXP51)) rfl ?_
  refine j_putP 2 jC_7 dX8_init_25 kf_RX8_18 (Or.inr ⟨rfl, rfl, rfl⟩) rfl rfl (fun ad => jr_nfA ad _) rfl rfl ?_
  refine j_mem (μ1 := (kX 54 27727 kXI2 kXP52)) rfl ?_
  refine j_aload_n 0 dX8_init_28 rfl rfl ?_
  refine j_iconst (v := 4) dX8_init_29 (by decide) ?_
  refine j_newI 4 dX8_init_30 ka_int (by decide) (by decide +kernel) (by decide +kernel) (by decide +kernel) (by decide +kernel) rfl ?_
  refine j_gw rfl (fun _ => rfl) (fun _ => rfl) (fun _ => rfl) ?_
  refine j_nmr (x := 55) rfl ?_
  refine j_mem (μ1 := (kX 55 27731 kXI2 kXP52)) rfl ?_
  refine j_putP 3 jC_7 dX8_init_32 kf_RX8_21 (Or.inr ⟨rfl, rfl, rfl⟩) rfl rfl (fun ad => jr_nfA ad _) rfl rfl ?_
  refine j_mem (μ1 := (kX 55 27731 kXI2 kXP53)) rfl ?_
  refine j_aload_n 0 dX8_init_35 rfl rfl ?_
  refine j_iconst (v := 4) dX8_init_36 (by decide) ?_
  refine j_newI 4 dX8_init_37 ka_int (by decide) (by decide +kernel) (by decide +kernel) (by decide +kernel) (by decide +kernel) rfl ?_
  refine j_gw rfl (fun _ => rfl) (fun _ => rfl) (fun _ => rfl) ?_
  refine j_nmr (x := 56) rfl ?_
  refine j_mem (μ1 := (kX 56 27735 kXI2 kXP53)) rfl ?_
  refine j_putP 4 jC_7 dX8_init_39 kf_RX8_24 (Or.inr ⟨rfl, rfl, rfl⟩) rfl rfl (fun ad => jr_nfA ad _) rfl rfl ?_
  refine j_mem (μ1 := (kX 56 27735 kXI2 kXP54)) rfl ?_
  refine j_aload_n 0 dX8_init_42 rfl rfl ?_
  refine j_new jC_1 dX8_init_43 kq_RX8_27 kv_RX1 kz_RX1 (by decide) (by decide +kernel) (by decide +kernel) rfl ?_
  refine j_gw rfl (fun _ => rfl) (fun _ => rfl) (fun _ => rfl) ?_
  refine j_nmr (x := 57) rfl ?_
  refine j_mem (μ1 := (kX 57 27739 kXI2 kXP54)) rfl ?_
  refine j_dup dX8_init_46 rfl ?_
  refine j_callN (st1 := _) k_X1_init_57 jy_X1_init ki_yX1_init rfl (by decide +kernel) dX8_init_47 rfl rfl rfl rfl rfl (by decide +kernel) (by decide +kernel) (by decide +kernel) (by decide +kernel) (Or.inl rfl) rfl ?_
  refine j_putP 5 jC_7 dX8_init_50 kf_RX8_30 (Or.inr ⟨rfl, rfl, rfl⟩) rfl rfl (fun ad => jr_nf ad _) rfl rfl ?_
  refine j_mem (μ1 := (kX 60 27995 kXI2 kXP58)) rfl ?_
  exact j_vret dX8_init_53 rfl rfl
def kXP59 : Nat → Nat → Nat := ju kXP58 1 7 51
def kXP60 : Nat → Nat → Nat := ju kXP59 61 0 62
def kXP61 : Nat → Nat → Nat := ju kXP60 61 1 63
def kXP62 : Nat → Nat → Nat := ju kXP61 61 2 64
def kXP63 : Nat → Nat → Nat := ju kXP62 61 3 65
def kXP64 : Nat → Nat → Nat := ju kXP63 61 4 66
def kXP65 : Nat → Nat → Nat := ju kXP64 67 0 68
def kXP66 : Nat → Nat → Nat := ju kXP65 67 1 69
def kXP67 : Nat → Nat → Nat := ju kXP66 67 2 70
set_option maxHeartbeats 1000000 in
set_option maxRecDepth 20000 in
theorem k_X1_init_67 : Cn yX1_init cX1_init 1 none 1 true [.ref 67] (kX 67 28112 kXI2 kXP64) none (kX 70 28368 kXI2 kXP67) := by
  refine Cn_of (by decide) (by decide +kernel) (by decide +kernel) (Nat.le_of_ble_eq_true rfl) ?_
  show J yX1_init cX1_init 1 none 1 true none (kX 70 28368 kXI2 kXP67) 0 [(0, .ref 67)] [] (kX 67 28112 kXI2 kXP64)
  refine j_aload_n 0 dX1_init_0 rfl rfl ?_
  refine j_objInit dX1_init_1 kl_RX1_3 rfl rfl rfl rfl ?_
  refine j_aload_n 0 dX1_init_4 rfl rfl ?_
  refine j_bipush (v := 120) dX1_init_5 (by decide) ?_
  refine j_newI 120 dX1_init_7 ka_int (by decide) (by decide +kernel) (by decide +kernel) (by decide +kernel) (by decide +kernel) rfl ?_
  refine j_gw rfl (fun _ => rfl) (fun _ => rfl) (fun _ => rfl) ?_
  refine j_nmr (x := 68) rfl ?_
  refine j_mem (μ1 := (kX 68 28232 kXI2 kXP64)) rfl ?_
  refine j_putP 0 jC_1 dX1_init_9 kf_RX1_9 (Or.inr ⟨rfl, rfl, rfl⟩) rfl rfl (fun ad => jr_nfA ad _) rfl rfl ?_
  refine j_mem (μ1 := (kX 68 28232 kXI2 kXP65)) rfl ?_
  refine j_aload_n 0 dX1_init_12 rfl rfl ?_
  refine j_bipush (v := 120) dX1_init_13 (by decide) ?_
  refine j_newI 120 dX1_init_15 ka_int (by decide) (by decide +kernel) (by decide +kernel) (by decide +kernel) (by decide +kernel) rfl ?_
  refine j_gw rfl (fun _ => rfl) (fun _ => rfl) (fun _ => rfl) ?_
  refine j_nmr (x := 69) rfl ?_
  refine j_mem (μ1 := (kX 69 28352 kXI2 kXP65)) rfl ?_
  refine j_putP 1 jC_1 dX1_init_17 kf_RX1_15 (Or.inr ⟨rfl, rfl, rfl⟩) rfl rfl (fun ad => jr_nfA ad _) rfl rfl ?_
  refine j_mem (μ1 := (kX 69 28352 kXI2 kXP66)) rfl ?_
  refine j_aload_n 0 dX1_init_20 rfl rfl ?_
  refine j_bipush (v := 16) dX1_init_21 (by decide) ?_
  refine j_newI 16 dX1_init_23 ka_int (by decide) (by decide +kernel) (by decide +kernel) (by decide +kernel) (by decide +kernel) rfl ?_
  refine j_gw rfl (fun _ => rfl) (fun _ => rfl) (fun _ => rfl) ?_
  refine j_nmr (x := 70) rfl ?_
  refine j_mem (μ1 := (kX 70 28368 kXI2 kXP66)) rfl ?_
  refine j_putP 2 jC_1 dX1_init_25 kf_RX1_18 (Or.inr ⟨rfl, rfl, rfl⟩) rfl rfl (fun ad => jr_nfA ad _) rfl rfl ?_
  refine j_mem (μ1 := (kX 70 28368 kXI2 kXP67)) rfl ?_
  exact j_vret dX1_init_28 rfl rfl
def kXP68 : Nat → Nat → Nat := ju kXP67 61 5 67
set_option maxHeartbeats 1000000 in
set_option maxRecDepth 20000 in
theorem k_X8_init_61 : Cn yX8_init cX8_init 1 none 2 true [.ref 61] (kX 61 28004 kXI2 kXP59) none (kX 70 28368 kXI2 kXP68) := by
  refine Cn_of (by decide) (by decide +kernel) (by decide +kernel) (Nat.le_of_ble_eq_true rfl) ?_
  show J yX8_init cX8_init 1 none 2 true none (kX 70 28368 kXI2 kXP68) 0 [(0, .ref 61)] [] (kX 61 28004 kXI2 kXP59)
  refine j_aload_n 0 dX8_init_0 rfl rfl ?_
  refine j_objInit dX8_init_1 kl_RX8_3 rfl rfl rfl rfl ?_
  refine j_aload_n 0 dX8_init_4 rfl rfl ?_
  refine j_bipush (v := 16) dX8_init_5 (by decide) ?_
  refine j_newI 16 dX8_init_7 ka_int (by decide) (by decide +kernel) (by decide +kernel) (by decide +kernel) (by decide +kernel) rfl ?_
  refine j_gw rfl (fun _ => rfl) (fun _ => rfl) (fun _ => rfl) ?_
  refine j_nmr (x := 62) rfl ?_
  refine j_mem (μ1 := (kX 62 28020 kXI2 kXP59)) rfl ?_
  refine j_putP 0 jC_7 dX8_init_9 kf_RX8_9 (Or.inr ⟨rfl, rfl, rfl⟩) rfl rfl (fun ad => jr_nfA ad _) rfl rfl ?_
  refine j_mem (μ1 := (kX 62 28020 kXI2 kXP60)) rfl ?_
  refine j_aload_n 0 dX8_init_12 rfl rfl ?_
  refine j_bipush (v := 40) dX8_init_13 (by decide) ?_
  refine j_newI 40 dX8_init_15 ka_int (by decide) (by decide +kernel) (by decide +kernel) (by decide +kernel) (by decide +kernel) rfl ?_
  refine j_gw rfl (fun _ => rfl) (fun _ => rfl) (fun _ => rfl) ?_
  refine j_nmr (x := 63) rfl ?_
  refine j_mem (μ1 := (kX 63 28060 kXI2 kXP60)) rfl ?_
  refine j_putP 1 jC_7 dX8_init_17 kf_RX8_15 (Or.inr ⟨rfl, rfl, rfl⟩) rfl rfl (fun ad => jr_nfA ad _) rfl rfl ?_
  refine j_mem (μ1 := (kX 63 28060 kXI2 kXP61)) rfl ?_
  refine j_aload_n 0 dX8_init_20 rfl rfl ?_
  refine j_bipush (v := 40) dX8_init_21 (by decide) ?_
  refine j_newI 40 dX8_init_23 ka_int (by decide) (by decide +kernel) (by decide +kernel) (by decide +kernel) (by decide +kernel) rfl ?_
  refine j_gw rfl (fun _ => rfl) (fun _ => rfl) (fun _ => rfl) ?_
  refine j_nmr (x := 64) rfl ?_
  refine j_mem (μ1 := (kX 64 28100 kXI2 kXP61)) rfl ?_
  refine j_putP 2 jC_7 dX8_init_25 kf_RX8_18 (Or.inr ⟨rfl, rfl, rfl⟩) rfl rfl (fun ad => jr_nfA ad _) rfl rfl ?_
  refine j_mem (μ1 := (kX 64 28100 kXI2 kXP62)) rfl ?_
  refine j_aload_n 0 dX8_init_28 rfl rfl ?_
  refine j_iconst (v := 4) dX8_init_29 (by decide) ?_
  refine j_newI 4 dX8_init_30 ka_int (by decide) (by decide +kernel) (by decide +kernel) (by decide +kernel) (by decide +kernel) rfl ?_
  refine j_gw rfl (fun _ => rfl) (fun _ => rfl) (fun _ => rfl) ?_
  refine j_nmr (x := 65) rfl ?_
  refine j_mem (μ1 := (kX 65 28104 kXI2 kXP62)) rfl ?_
  refine j_putP 3 jC_7 dX8_init_32 kf_RX8_21 (Or.inr ⟨rfl, rfl, rfl⟩) rfl rfl (fun ad => jr_nfA ad _) rfl rfl ?_
  refine j_mem (μ1 := (kX 65 28104 kXI2 kXP63)) rfl ?_
  refine j_aload_n 0 dX8_init_35 rfl rfl ?_
  refine j_iconst (v := 4) dX8_init_36 (by decide) ?_
  refine j_newI 4 dX8_init_37 ka_int (by decide) (by decide +kernel) (by decide +kernel) (by decide +kernel) (by decide +kernel) rfl ?_
  refine j_gw rfl (fun _ => rfl) (fun _ => rfl) (fun _ => rfl) ?_
  refine j_nmr (x := 66) rfl ?_
  refine j_mem (μ1 := (kX 66 28108 kXI2 kXP63)) rfl ?_
  refine j_putP 4 jC_7 dX8_init_39 kf_RX8_24 (Or.inr ⟨rfl, rfl, rfl⟩) rfl rfl (fun ad => jr_nfA ad _) rfl rfl ?_
  refine j_mem (μ1 := (kX 66 28108 kXI2 kXP64)) rfl ?_
  refine j_aload_n 0 dX8_init_42 rfl rfl ?_
  refine j_new jC_1 dX8_init_43 kq_RX8_27 kv_RX1 kz_RX1 (by decide) (by decide +kernel) (by decide +kernel) rfl ?_
  refine j_gw rfl (fun _ => rfl) (fun _ => rfl) (fun _ => rfl) ?_
  refine j_nmr (x := 67) rfl ?_
  refine j_mem (μ1 := (kX 67 28112 kXI2 kXP64)) rfl ?_
  refine j_dup dX8_init_46 rfl ?_
  refine j_callN (st1 := _) k_X1_init_67 jy_X1_init ki_yX1_init rfl (by decide +kernel) dX8_init_47 rfl rfl rfl rfl rfl (by decide +kernel) (by decide +kernel) (by decide +kernel) (by decide +kernel) (Or.inl rfl) rfl ?_
  refine j_putP 5 jC_7 dX8_init_50 kf_RX8_30 (Or.inr ⟨rfl, rfl, rfl⟩) rfl rfl (fun ad => jr_nf ad _) rfl rfl ?_
  refine j_mem (μ1 := (kX 70 28368 kXI2 kXP68)) rfl ?_
  exact j_vret dX8_init_53 rfl rfl
def kXP69 : Nat → Nat → Nat := ju kXP68 1 8 61
def kXI3 : Nat → Nat → Int32 := ju kXI2 1 9 (-1)
set_option maxHeartbeats 1000000 in
set_option maxRecDepth 20000 in
theorem k_X10_init_1 : Cn yX10_init cX10_init 2 none 3 true [.ref 1] (kX 1 10 kXI0 kXP0) none (kX 70 28368 kXI3 kXP69) := by
  refine Cn_of (by decide) (by decide +kernel) (by decide +kernel) (Nat.le_of_ble_eq_true rfl) ?_
  show J yX10_init cX10_init 2 none 3 true none (kX 70 28368 kXI3 kXP69) 0 [(0, .ref 1)] [] (kX 1 10 kXI0 kXP0)
  refine j_aload_n 0 dX10_init_0 rfl rfl ?_
  refine j_objInit dX10_init_1 kl_RX10_3 rfl rfl rfl rfl ?_
  refine j_aload_n 0 dX10_init_4 rfl rfl ?_
  refine j_new jC_5 dX10_init_5 kq_RX10_9 kv_RX5 kz_RX5 (by decide) (by decide +kernel) (by decide +kernel) rfl ?_
  refine j_gw rfl (fun _ => rfl) (fun _ => rfl) (fun _ => rfl) ?_
  refine j_nmr (x := 2) rfl ?_
  refine j_mem (μ1 := (kX 2 15 kXI0 kXP0)) rfl ?_
  refine j_dup dX10_init_8 rfl ?_
  refine j_callN (st1 := _) k_X5_init_2 jy_X5_init ki_yX5_init rfl (by decide +kernel) dX10_init_9 rfl rfl rfl rfl rfl (by decide +kernel) (by decide +kernel) (by decide +kernel) (by decide +kernel) (Or.inl rfl) rfl ?_
  refine j_putP 0 jC_9 dX10_init_12 kf_RX10_12 (Or.inr ⟨rfl, rfl, rfl⟩) rfl rfl (fun ad => jr_nf ad _) rfl rfl ?_
  refine j_mem (μ1 := (kX 3 515 kXI1 kXP2)) rfl ?_
  refine j_aload_n 0 dX10_init_15 rfl rfl ?_
  refine j_new jC_0 dX10_init_16 kq_RX10_16 kv_RX0 kz_RX0 (by decide) (by decide +kernel) (by decide +kernel) rfl ?_
  refine j_gw rfl (fun _ => rfl) (fun _ => rfl) (fun _ => rfl) ?_
  refine j_nmr (x := 4) rfl ?_
  refine j_mem (μ1 := (kX 4 527 kXI1 kXP2)) rfl ?_
  refine j_dup dX10_init_19 rfl ?_
  refine j_callN (st1 := _) k_X0_init_4 jy_X0_init ki_yX0_init rfl (by decide +kernel) dX10_init_20 rfl rfl rfl rfl rfl (by decide +kernel) (by decide +kernel) (by decide +kernel) (by decide +kernel) (Or.inl rfl) rfl ?_
  refine j_putP 1 jC_9 dX10_init_23 kf_RX10_19 (Or.inr ⟨rfl, rfl, rfl⟩) rfl rfl (fun ad => jr_nf ad _) rfl rfl ?_
  refine j_mem (μ1 := (kX 16 25893 kXI2 kXP15)) rfl ?_
  refine j_aload_n 0 dX10_init_26 rfl rfl ?_
  refine j_new jC_4 dX10_init_27 kq_RX10_23 kv_RX4 kz_RX4 (by decide) (by decide +kernel) (by decide +kernel) rfl ?_
  refine j_gw rfl (fun _ => rfl) (fun _ => rfl) (fun _ => rfl) ?_
  refine j_nmr (x := 17) rfl ?_
  refine j_mem (μ1 := (kX 17 25899 kXI2 kXP15)) rfl ?_
  refine j_dup dX10_init_30 rfl ?_
  refine j_callN (st1 := _) k_X4_init_17 jy_X4_init ki_yX4_init rfl (by decide +kernel) dX10_init_31 rfl rfl rfl rfl rfl (by decide +kernel) (by decide +kernel) (by decide +kernel) (by decide +kernel) (Or.inl rfl) rfl ?_
  refine j_putP 2 jC_9 dX10_init_34 kf_RX10_26 (Or.inr ⟨rfl, rfl, rfl⟩) rfl rfl (fun ad => jr_nf ad _) rfl rfl ?_
  refine j_mem (μ1 := (kX 19 26611 kXI2 kXP18)) rfl ?_
  refine j_aload_n 0 dX10_init_37 rfl rfl ?_
  refine j_new jC_2 dX10_init_38 kq_RX10_30 kv_RX2 kz_RX2 (by decide) (by decide +kernel) (by decide +kernel) rfl ?_
  refine j_gw rfl (fun _ => rfl) (fun _ => rfl) (fun _ => rfl) ?_
  refine j_nmr (x := 20) rfl ?_
  refine j_mem (μ1 := (kX 20 26616 kXI2 kXP18)) rfl ?_
  refine j_dup dX10_init_41 rfl ?_
  refine j_callN (st1 := _) k_X2_init_20 jy_X2_init ki_yX2_init rfl (by decide +kernel) dX10_init_42 rfl rfl rfl rfl rfl (by decide +kernel) (by decide +kernel) (by decide +kernel) (by decide +kernel) (Or.inl rfl) rfl ?_
  refine j_putP 3 jC_9 dX10_init_45 kf_RX10_33 (Or.inr ⟨rfl, rfl, rfl⟩) rfl rfl (fun ad => jr_nf ad _) rfl rfl ?_
  refine j_mem (μ1 := (kX 22 26648 kXI2 kXP21)) rfl ?_
  refine j_aload_n 0 dX10_init_48 rfl rfl ?_
  refine j_new jC_3 dX10_init_49 kq_RX10_37 kv_RX3 kz_RX3 (by decide) (by decide +kernel) (by decide +kernel) rfl ?_
  refine j_gw rfl (fun _ => rfl) (fun _ => rfl) (fun _ => rfl) ?_
  refine j_nmr (x := 23) rfl ?_
  refine j_mem (μ1 := (kX 23 26655 kXI2 kXP21)) rfl ?_
  refine j_dup dX10_init_52 rfl ?_
  refine j_callN (st1 := _) k_X3_init_23 jy_X3_init ki_yX3_init rfl (by decide +kernel) dX10_init_53 rfl rfl rfl rfl rfl (by decide +kernel) (by decide +kernel) (by decide +kernel) (by decide +kernel) (Or.inl rfl) rfl ?_
  refine j_putP 4 jC_9 dX10_init_56 kf_RX10_40 (Or.inr ⟨rfl, rfl, rfl⟩) rfl rfl (fun ad => jr_nf ad _) rfl rfl ?_
  refine j_mem (μ1 := (kX 28 26795 kXI2 kXP27)) rfl ?_
  refine j_aload_n 0 dX10_init_59 rfl rfl ?_
  refine j_new jC_6 dX10_init_60 kq_RX10_44 kv_RX7 kz_RX7 (by decide) (by decide +kernel) (by decide +kernel) rfl ?_
  refine j_gw rfl (fun _ => rfl) (fun _ => rfl) (fun _ => rfl) ?_
  refine j_nmr (x := 29) rfl ?_
  refine j_mem (μ1 := (kX 29 26802 kXI2 kXP27)) rfl ?_
  refine j_dup dX10_init_63 rfl ?_
  refine j_callN (st1 := _) k_X7_init_29 jy_X7_init ki_yX7_init rfl (by decide +kernel) dX10_init_64 rfl rfl rfl rfl rfl (by decide +kernel) (by decide +kernel) (by decide +kernel) (by decide +kernel) (Or.inl rfl) rfl ?_
  refine j_putP 5 jC_9 dX10_init_67 kf_RX10_47 (Or.inr ⟨rfl, rfl, rfl⟩) rfl rfl (fun ad => jr_nf ad _) rfl rfl ?_
  refine j_mem (μ1 := (kX 35 27070 kXI2 kXP34)) rfl ?_
  refine j_aload_n 0 dX10_init_70 rfl rfl ?_
  refine j_iconst (v := 2) dX10_init_71 (by decide) ?_
  refine j_newq 2 dX10_init_72 kq_RX10_44 (by decide) (by decide +kernel) (by decide +kernel) (by decide +kernel) (by decide +kernel) rfl ?_
  refine j_gw rfl (fun _ => rfl) (fun _ => rfl) (fun _ => rfl) ?_
  refine j_nmr (x := 36) rfl ?_
  refine j_mem (μ1 := (kX 36 27072 kXI2 kXP34)) rfl ?_
  refine j_putP 6 jC_9 dX10_init_75 kf_RX10_51 (Or.inr ⟨rfl, rfl, rfl⟩) rfl rfl (fun ad => jr_nfA ad _) rfl rfl ?_
  refine j_mem (μ1 := (kX 36 27072 kXI2 kXP35)) rfl ?_
  refine j_iconst (v := 0) dX10_init_78 (by decide) ?_
  refine j_istore_n [(1, .int 0), (0, .ref 1)] dX10_init_79 rfl (by decide) rfl ?_
  refine j_iload_n 0 dX10_init_80 rfl rfl ?_
  refine j_aload_n 1 dX10_init_81 rfl rfl ?_
  refine j_get (ci := 9) 6 (.ref 36) jC_9 dX10_init_82 kf_RX10_51 rfl rfl rfl (fun _ => rfl) ?_
  refine j_alen (kd := 3) (n := 2) dX10_init_85 rfl rfl rfl ?_
  refine j_nmi (x := 2) rfl ?_
  refine j_icmp_ge 108 dX10_init_86 (by decide) (fun h => absurd h (by decide)) (fun _ => ?_)
  refine j_aload_n 1 dX10_init_89 rfl rfl ?_
  refine j_get (ci := 9) 6 (.ref 36) jC_9 dX10_init_90 kf_RX10_51 rfl rfl rfl (fun _ => rfl) ?_
  refine j_iload_n 0 dX10_init_93 rfl rfl ?_
  refine j_new jC_6 dX10_init_94 kq_RX10_44 kv_RX7 kz_RX7 (by decide) (by decide +kernel) (by decide +kernel) rfl ?_
  refine j_gw rfl (fun _ => rfl) (fun _ => rfl) (fun _ => rfl) ?_
  refine j_nmr (x := 37) rfl ?_
  refine j_mem (μ1 := (kX 37 27079 kXI2 kXP35)) rfl ?_
  refine j_dup dX10_init_97 rfl ?_
  refine j_callN (st1 := _) k_X7_init_37 jy_X7_init ki_yX7_init rfl (by decide +kernel) dX10_init_98 rfl rfl rfl rfl rfl (by decide +kernel) (by decide +kernel) (by decide +kernel) (by decide +kernel) (Or.inl rfl) rfl ?_
  refine j_aastore (ci := 0) dX10_init_101 rfl rfl rfl rfl (jin_spec rfl) ?_
  refine j_mem (μ1 := (kX 43 27347 kXI2 kXP42)) rfl ?_
  refine j_iinc (v := 1) [(1, .int 1), (0, .ref 1)] 0 dX10_init_102 rfl (by decide) (by decide) rfl ?_
  refine j_goto 80 dX10_init_105 (by decide) ?_
  refine j_iload_n 0 dX10_init_80 rfl rfl ?_
  refine j_aload_n 1 dX10_init_81 rfl rfl ?_
  refine j_get (ci := 9) 6 (.ref 36) jC_9 dX10_init_82 kf_RX10_51 rfl rfl rfl (fun _ => rfl) ?_
  refine j_alen (kd := 3) (n := 2) dX10_init_85 rfl rfl rfl ?_
  refine j_nmi (x := 2) rfl ?_
  refine j_icmp_ge 108 dX10_init_86 (by decide) (fun h => absurd h (by decide)) (fun _ => ?_)
  refine j_aload_n 1 dX10_init_89 rfl rfl ?_
  refine j_get (ci := 9) 6 (.ref 36) jC_9 dX10_init_90 kf_RX10_51 rfl rfl rfl (fun _ => rfl) ?_
  refine j_iload_n 0 dX10_init_93 rfl rfl ?_
  refine j_new jC_6 dX10_init_94 kq_RX10_44 kv_RX7 kz_RX7 (by decide) (by decide +kernel) (by decide +kernel) rfl ?_
  refine j_gw rfl (fun _ => rfl) (fun _ => rfl) (fun _ => rfl) ?_
  refine j_nmr (x := 44) rfl ?_
  refine j_mem (μ1 := (kX 44 27354 kXI2 kXP42)) rfl ?_
  refine j_dup dX10_init_97 rfl ?_
  refine j_callN (st1 := _) k_X7_init_44 jy_X7_init ki_yX7_init rfl (by decide +kernel) dX10_init_98 rfl rfl rfl rfl rfl (by decide +kernel) (by decide +kernel) (by decide +kernel) (by decide +kernel) (Or.inl rfl) rfl ?_
  refine j_aastore (ci := 0) dX10_init_101 rfl rfl rfl rfl (jin_spec rfl) ?_
  refine j_mem (μ1 := (kX 50 27622 kXI2 kXP49)) rfl ?_
  refine j_iinc (v := 2) [(1, .int 2), (0, .ref 1)] 0 dX10_init_102 rfl (by decide) (by decide) rfl ?_
  refine j_goto 80 dX10_init_105 (by decide) ?_
  refine j_iload_n 0 dX10_init_80 rfl rfl ?_
  refine j_aload_n 1 dX10_init_81 rfl rfl ?_
  refine j_get (ci := 9) 6 (.ref 36) jC_9 dX10_init_82 kf_RX10_51 rfl rfl rfl (fun _ => rfl) ?_
  refine j_alen (kd := 3) (n := 2) dX10_init_85 rfl rfl rfl ?_
  refine j_nmi (x := 2) rfl ?_
  refine j_icmp_ge 108 dX10_init_86 (by decide) (fun _ => ?_) (fun h => absurd h (by decide))
  refine j_aload_n 1 dX10_init_108 rfl rfl ?_
  refine j_new jC_7 dX10_init_109 kq_RX10_55 kv_RX8 kz_RX8 (by decide) (by decide +kernel) (by decide +kernel) rfl ?_
  refine j_gw rfl (fun _ => rfl) (fun _ => rfl) (fun _ => rfl) ?_
  refine j_nmr (x := 51) rfl ?_
  refine j_mem (μ1 := (kX 51 27631 kXI2 kXP49)) rfl ?_
  refine j_dup dX10_init_112 rfl ?_
  refine j_callN (st1 := _) k_X8_init_51 jy_X8_init ki_yX8_init rfl (by decide +kernel) dX10_init_113 rfl rfl rfl rfl rfl (by decide +kernel) (by decide +kernel) (by decide +kernel) (by decide +kernel) (Or.inl rfl) rfl ?_
  refine j_putP 7 jC_9 dX10_init_116 kf_RX10_58 (Or.inl rfl) rfl rfl (fun ad => jr_nf ad _) rfl rfl ?_
  refine j_mem (μ1 := (kX 60 27995 kXI2 kXP59)) rfl ?_
  refine j_aload_n 1 dX10_init_119 rfl rfl ?_
  refine j_new jC_7 dX10_init_120 kq_RX10_55 kv_RX8 kz_RX8 (by decide) (by decide +kernel) (by decide +kernel) rfl ?_
  refine j_gw rfl (fun _ => rfl) (fun _ => rfl) (fun _ => rfl) ?_
  refine j_nmr (x := 61) rfl ?_
  refine j_mem (μ1 := (kX 61 28004 kXI2 kXP59)) rfl ?_
  refine j_dup dX10_init_123 rfl ?_
  refine j_callN (st1 := _) k_X8_init_61 jy_X8_init ki_yX8_init rfl (by decide +kernel) dX10_init_124 rfl rfl rfl rfl rfl (by decide +kernel) (by decide +kernel) (by decide +kernel) (by decide +kernel) (Or.inl rfl) rfl ?_
  refine j_putP 8 jC_9 dX10_init_127 kf_RX10_62 (Or.inl rfl) rfl rfl (fun ad => jr_nf ad _) rfl rfl ?_
  refine j_mem (μ1 := (kX 70 28368 kXI2 kXP69)) rfl ?_
  refine j_aload_n 1 dX10_init_130 rfl rfl ?_
  refine j_iconst (v := (-1)) dX10_init_131 (by decide) ?_
  refine j_putI 9 jC_9 dX10_init_132 kf_RX10_65 (Or.inl rfl) rfl rfl (fun _ => ⟨rfl, rfl⟩) rfl rfl ?_
  refine j_mem (μ1 := (kX 70 28368 kXI3 kXP69)) rfl ?_
  exact j_vret dX10_init_135 rfl rfl
def kMI0 : Nat → Nat → Int32 := fun _ _ => 0
def kMP0 : Nat → Nat → Nat := fun _ _ => 0
def kM (n w : Nat) (I : Nat → Nat → Int32) (P : Nat → Nat → Nat) : jM := (n, w, SHM, I, kL, P)
def kMP1 : Nat → Nat → Nat := ju kMP0 1 1 2
def kMP2 : Nat → Nat → Nat := ju kMP1 1 3 3
def kMP3 : Nat → Nat → Nat := ju kMP2 1 4 4
def kMP4 : Nat → Nat → Nat := ju kMP3 1 5 5
def kMP5 : Nat → Nat → Nat := ju kMP4 1 7 6
def kMP6 : Nat → Nat → Nat := ju kMP5 1 9 7
def kMP7 : Nat → Nat → Nat := ju kMP6 1 10 8
def kMP8 : Nat → Nat → Nat := ju kMP7 1 11 9
def kMP9 : Nat → Nat → Nat := ju kMP8 1 12 10
def kMP10 : Nat → Nat → Nat := ju kMP9 1 15 11
def kMI1 : Nat → Nat → Int32 := ju kMI0 1 17 (-1)
def kMP11 : Nat → Nat → Nat := ju kMP10 1 24 12
def kMP12 : Nat → Nat → Nat := ju kMP11 1 26 13
def kMP13 : Nat → Nat → Nat := ju kMP12 1 27 14
def kMP14 : Nat → Nat → Nat := ju kMP13 1 29 15
def kMP15 : Nat → Nat → Nat := ju kMP14 1 31 16
def kMP16 : Nat → Nat → Nat := ju kMP15 1 32 17
def kMI2 : Nat → Nat → Int32 := ju kMI1 1 35 (-1)
def kMP17 : Nat → Nat → Nat := ju kMP16 1 37 18
def kMP18 : Nat → Nat → Nat := ju kMP17 1 38 19
def kMP19 : Nat → Nat → Nat := ju kMP18 1 40 20
def kMP20 : Nat → Nat → Nat := ju kMP19 1 41 21
def kMP21 : Nat → Nat → Nat := ju kMP20 1 42 22
def kMP22 : Nat → Nat → Nat := ju kMP21 1 43 23
def kMP23 : Nat → Nat → Nat := ju kMP22 1 45 24
def kMP24 : Nat → Nat → Nat := ju kMP23 1 46 25
def kMP25 : Nat → Nat → Nat := ju kMP24 1 47 26
def kMP26 : Nat → Nat → Nat := ju kMP25 1 48 27
def kMP27 : Nat → Nat → Nat := ju kMP26 1 49 28
def kMP28 : Nat → Nat → Nat := ju kMP27 1 52 29
def kMP29 : Nat → Nat → Nat := ju kMP28 1 53 30
def kMP30 : Nat → Nat → Nat := ju kMP29 1 54 31
def kMP31 : Nat → Nat → Nat := ju kMP30 1 57 32
def kMP32 : Nat → Nat → Nat := ju kMP31 1 58 33
def kMP33 : Nat → Nat → Nat := ju kMP32 1 60 34
def kMP34 : Nat → Nat → Nat := ju kMP33 1 61 35
def kMP35 : Nat → Nat → Nat := ju kMP34 1 62 36
def kMP36 : Nat → Nat → Nat := ju kMP35 1 64 37
def kMP37 : Nat → Nat → Nat := ju kMP36 1 65 38
def kMP38 : Nat → Nat → Nat := ju kMP37 1 67 39
def kMP39 : Nat → Nat → Nat := ju kMP38 1 69 40
def kMP40 : Nat → Nat → Nat := ju kMP39 1 70 41
def kMI3 : Nat → Nat → Int32 := ju kMI2 1 0 0
set_option maxHeartbeats 1000000 in
set_option maxRecDepth 20000 in
theorem k_X11_init_1 : Cn yX11_init cX11_init 1 none 1 true [.ref 1] (kM 1 71 kMI0 kMP0) none (kM 41 2967097 kMI3 kMP40) := by
  refine Cn_of (by decide) (by decide +kernel) (by decide +kernel) (Nat.le_of_ble_eq_true rfl) ?_
  show J yX11_init cX11_init 1 none 1 true none (kM 41 2967097 kMI3 kMP40) 0 [(0, .ref 1)] [] (kM 1 71 kMI0 kMP0)
  refine j_aload_n 0 dX11_init_0 rfl rfl ?_
  refine j_objInit dX11_init_1 kl_RX11_1 rfl rfl rfl rfl ?_
  refine j_aload_n 0 dX11_init_4 rfl rfl ?_
  refine j_bipush (v := 16) dX11_init_5 (by decide) ?_
  refine j_newI 16 dX11_init_7 ka_int (by decide) (by decide +kernel) (by decide +kernel) (by decide +kernel) (by decide +kernel) rfl ?_
  refine j_gw rfl (fun _ => rfl) (fun _ => rfl) (fun _ => rfl) ?_
  refine j_nmr (x := 2) rfl ?_
  refine j_mem (μ1 := (kM 2 87 kMI0 kMP0)) rfl ?_
  refine j_putP 1 jC_10 dX11_init_9 kf_RX11_7 (Or.inr ⟨rfl, rfl, rfl⟩) rfl rfl (fun ad => jr_nfA ad _) rfl rfl ?_
  refine j_mem (μ1 := (kM 2 87 kMI0 kMP1)) rfl ?_
  refine j_aload_n 0 dX11_init_12 rfl rfl ?_
  refine j_bipush (v := 40) dX11_init_13 (by decide) ?_
  refine j_newI 40 dX11_init_15 ka_int (by decide) (by decide +kernel) (by decide +kernel) (by decide +kernel) (by decide +kernel) rfl ?_
  refine j_gw rfl (fun _ => rfl) (fun _ => rfl) (fun _ => rfl) ?_
  refine j_nmr (x := 3) rfl ?_
  refine j_mem (μ1 := (kM 3 127 kMI0 kMP1)) rfl ?_
  refine j_putP 3 jC_10 dX11_init_17 kf_RX11_13 (Or.inr ⟨rfl, rfl, rfl⟩) rfl rfl (fun ad => jr_nfA ad _) rfl rfl ?_
  refine j_mem (μ1 := (kM 3 127 kMI0 kMP2)) rfl ?_
  refine j_aload_n 0 dX11_init_20 rfl rfl ?_
  refine j_bipush (v := 40) dX11_init_21 (by decide) ?_
  refine j_newI 40 dX11_init_23 ka_int (by decide) (by decide +kernel) (by decide +kernel) (by decide +kernel) (by decide +kernel) rfl ?_
  refine j_gw rfl (fun _ => rfl) (fun _ => rfl) (fun _ => rfl) ?_
  refine j_nmr (x := 4) rfl ?_
  refine j_mem (μ1 := (kM 4 167 kMI0 kMP2)) rfl ?_
  refine j_putP 4 jC_10 dX11_init_25 kf_RX11_16 (Or.inr ⟨rfl, rfl, rfl⟩) rfl rfl (fun ad => jr_nfA ad _) rfl rfl ?_
  refine j_mem (μ1 := (kM 4 167 kMI0 kMP3)) rfl ?_
  refine j_aload_n 0 dX11_init_28 rfl rfl ?_
  refine j_bipush (v := 16) dX11_init_29 (by decide) ?_
  refine j_newI 16 dX11_init_31 ka_int (by decide) (by decide +kernel) (by decide +kernel) (by decide +kernel) (by decide +kernel) rfl ?_
  refine j_gw rfl (fun _ => rfl) (fun _ => rfl) (fun _ => rfl) ?_
  refine j_nmr (x := 5) rfl ?_
  refine j_mem (μ1 := (kM 5 183 kMI0 kMP3)) rfl ?_
  refine j_putP 5 jC_10 dX11_init_33 kf_RX11_19 (Or.inr ⟨rfl, rfl, rfl⟩) rfl rfl (fun ad => jr_nfA ad _) rfl rfl ?_
  refine j_mem (μ1 := (kM 5 183 kMI0 kMP4)) rfl ?_
  refine j_aload_n 0 dX11_init_36 rfl rfl ?_
  refine j_bipush (v := 120) dX11_init_37 (by decide) ?_
  refine j_newI 120 dX11_init_39 ka_int (by decide) (by decide +kernel) (by decide +kernel) (by decide +kernel) (by decide +kernel) rfl ?_
  refine j_gw rfl (fun _ => rfl) (fun _ => rfl) (fun _ => rfl) ?_
  refine j_nmr (x := 6) rfl ?_
  refine j_mem (μ1 := (kM 6 303 kMI0 kMP4)) rfl ?_
  refine j_putP 7 jC_10 dX11_init_41 kf_RX11_22 (Or.inr ⟨rfl, rfl, rfl⟩) rfl rfl (fun ad => jr_nfA ad _) rfl rfl ?_
  refine j_mem (μ1 := (kM 6 303 kMI0 kMP5)) rfl ?_
  refine j_aload_n 0 dX11_init_44 rfl rfl ?_
  refine j_iconst (v := 4) dX11_init_45 (by decide) ?_
  refine j_newI 4 dX11_init_46 ka_int (by decide) (by decide +kernel) (by decide +kernel) (by decide +kernel) (by decide +kernel) rfl ?_
  refine j_gw rfl (fun _ => rfl) (fun _ => rfl) (fun _ => rfl) ?_
  refine j_nmr (x := 7) rfl ?_
  refine j_mem (μ1 := (kM 7 307 kMI0 kMP5)) rfl ?_
  refine j_putP 9 jC_10 dX11_init_48 kf_RX11_25 (Or.inr ⟨rfl, rfl, rfl⟩) rfl rfl (fun ad => jr_nfA ad _) rfl rfl ?_
  refine j_mem (μ1 := (kM 7 307 kMI0 kMP6)) rfl ?_
  refine j_aload_n 0 dX11_init_51 rfl rfl ?_
  refine j_iconst (v := 4) dX11_init_52 (by decide) ?_
  refine j_newI 4 dX11_init_53 ka_int (by decide) (by decide +kernel) (by decide +kernel) (by decide +kernel) (by decide +kernel) rfl ?_
  refine j_gw rfl (fun _ => rfl) (fun _ => rfl) (fun _ => rfl) ?_
  refine j_nmr (x := 8) rfl ?_
  refine j_mem (μ1 := (kM 8 311 kMI0 kMP6)) rfl ?_
  refine j_putP 10 jC_10 dX11_init_55 kf_RX11_28 (Or.inr ⟨rfl, rfl, rfl⟩) rfl rfl (fun ad => jr_nfA ad _) rfl rfl ?_
  refine j_mem (μ1 := (kM 8 311 kMI0 kMP7)) rfl ?_
  refine j_aload_n 0 dX11_init_58 rfl rfl ?_
  refine j_iconst (v := 4) dX11_init_59 (by decide) ?_
  refine j_newI 4 dX11_init_60 ka_int (by decide) (by decide +kernel) (by decide +kernel) (by decide +kernel) (by decide +kernel) rfl ?_
  refine j_gw rfl (fun _ => rfl) (fun _ => rfl) (fun _ => rfl) ?_
  refine j_nmr (x := 9) rfl ?_
  refine j_mem (μ1 := (kM 9 315 kMI0 kMP7)) rfl ?_
  refine j_putP 11 jC_10 dX11_init_62 kf_RX11_31 (Or.inr ⟨rfl, rfl, rfl⟩) rfl rfl (fun ad => jr_nfA ad _) rfl rfl ?_
  refine j_mem (μ1 := (kM 9 315 kMI0 kMP8)) rfl ?_
  refine j_aload_n 0 dX11_init_65 rfl rfl ?_
  refine j_iconst (v := 4) dX11_init_66 (by decide) ?_
  refine j_newI 4 dX11_init_67 ka_int (by decide) (by decide +kernel) (by decide +kernel) (by decide +kernel) (by decide +kernel) rfl ?_
  refine j_gw rfl (fun _ => rfl) (fun _ => rfl) (fun _ => rfl) ?_
  refine j_nmr (x := 10) rfl ?_
  refine j_mem (μ1 := (kM 10 319 kMI0 kMP8)) rfl ?_
  refine j_putP 12 jC_10 dX11_init_69 kf_RX11_34 (Or.inr ⟨rfl, rfl, rfl⟩) rfl rfl (fun ad => jr_nfA ad _) rfl rfl ?_
  refine j_mem (μ1 := (kM 10 319 kMI0 kMP9)) rfl ?_
  refine j_aload_n 0 dX11_init_72 rfl rfl ?_
  refine j_sipush (v := 500) dX11_init_73 (by decide) ?_
  refine j_newI 500 dX11_init_76 ka_int (by decide) (by decide +kernel) (by decide +kernel) (by decide +kernel) (by decide +kernel) rfl ?_
  refine j_gw rfl (fun _ => rfl) (fun _ => rfl) (fun _ => rfl) ?_
  refine j_nmr (x := 11) rfl ?_
  refine j_mem (μ1 := (kM 11 819 kMI0 kMP9)) rfl ?_
  refine j_putP 15 jC_10 dX11_init_78 kf_RX11_37 (Or.inr ⟨rfl, rfl, rfl⟩) rfl rfl (fun ad => jr_nfA ad _) rfl rfl ?_
  refine j_mem (μ1 := (kM 11 819 kMI0 kMP10)) rfl ?_
  refine j_aload_n 0 dX11_init_81 rfl rfl ?_
  refine j_iconst (v := (-1)) dX11_init_82 (by decide) ?_
  refine j_putI 17 jC_10 dX11_init_83 kf_RX11_40 (Or.inl rfl) rfl rfl (fun _ => ⟨rfl, rfl⟩) rfl rfl ?_
  refine j_mem (μ1 := (kM 11 819 kMI1 kMP10)) rfl ?_
  refine j_aload_n 0 dX11_init_86 rfl rfl ?_
  refine j_bipush (v := 16) dX11_init_87 (by decide) ?_
  refine j_newI 16 dX11_init_89 ka_int (by decide) (by decide +kernel) (by decide +kernel) (by decide +kernel) (by decide +kernel) rfl ?_
  refine j_gw rfl (fun _ => rfl) (fun _ => rfl) (fun _ => rfl) ?_
  refine j_nmr (x := 12) rfl ?_
  refine j_mem (μ1 := (kM 12 835 kMI1 kMP10)) rfl ?_
  refine j_putP 24 jC_10 dX11_init_91 kf_RX11_44 (Or.inr ⟨rfl, rfl, rfl⟩) rfl rfl (fun ad => jr_nfA ad _) rfl rfl ?_
  refine j_mem (μ1 := (kM 12 835 kMI1 kMP11)) rfl ?_
  refine j_aload_n 0 dX11_init_94 rfl rfl ?_
  refine j_bipush (v := 40) dX11_init_95 (by decide) ?_
  refine j_newI 40 dX11_init_97 ka_int (by decide) (by decide +kernel) (by decide +kernel) (by decide +kernel) (by decide +kernel) rfl ?_
  refine j_gw rfl (fun _ => rfl) (fun _ => rfl) (fun _ => rfl) ?_
  refine j_nmr (x := 13) rfl ?_
  refine j_mem (μ1 := (kM 13 875 kMI1 kMP11)) rfl ?_
  refine j_putP 26 jC_10 dX11_init_99 kf_RX11_47 (Or.inr ⟨rfl, rfl, rfl⟩) rfl rfl (fun ad => jr_nfA ad _) rfl rfl ?_
  refine j_mem (μ1 := (kM 13 875 kMI1 kMP12)) rfl ?_
  refine j_aload_n 0 dX11_init_102 rfl rfl ?_
  refine j_bipush (v := 40) dX11_init_103 (by decide) ?_
  refine j_newI 40 dX11_init_105 ka_int (by decide) (by decide +kernel) (by decide +kernel) (by decide +kernel) (by decide +kernel) rfl ?_
  refine j_gw rfl (fun _ => rfl) (fun _ => rfl) (fun _ => rfl) ?_
  refine j_nmr (x := 14) rfl ?_
  refine j_mem (μ1 := (kM 14 915 kMI1 kMP12)) rfl ?_
  refine j_putP 27 jC_10 dX11_init_107 kf_RX11_50 (Or.inr ⟨rfl, rfl, rfl⟩) rfl rfl (fun ad => jr_nfA ad _) rfl rfl ?_
  refine j_mem (μ1 := (kM 14 915 kMI1 kMP13)) rfl ?_
  refine j_aload_n 0 dX11_init_110 rfl rfl ?_
  refine j_bipush (v := 120) dX11_init_111 (by decide) ?_
  refine j_newI 120 dX11_init_113 ka_int (by decide) (by decide +kernel) (by decide +kernel) (by decide +kernel) (by decide +kernel) rfl ?_
  refine j_gw rfl (fun _ => rfl) (fun _ => rfl) (fun _ => rfl) ?_
  refine j_nmr (x := 15) rfl ?_
  refine j_mem (μ1 := (kM 15 1035 kMI1 kMP13)) rfl ?_
  refine j_putP 29 jC_10 dX11_init_115 kf_RX11_53 (Or.inr ⟨rfl, rfl, rfl⟩) rfl rfl (fun ad => jr_nfA ad _) rfl rfl ?_
  refine j_mem (μ1 := (kM 15 1035 kMI1 kMP14)) rfl ?_
  refine j_aload_n 0 dX11_init_118 rfl rfl ?_
  refine j_iconst (v := 4) dX11_init_119 (by decide) ?_
  refine j_newI 4 dX11_init_120 ka_int (by decide) (by decide +kernel) (by decide +kernel) (by decide +kernel) (by decide +kernel) rfl ?_
  refine j_gw rfl (fun _ => rfl) (fun _ => rfl) (fun _ => rfl) ?_
  refine j_nmr (x := 16) rfl ?_
  refine j_mem (μ1 := (kM 16 1039 kMI1 kMP14)) rfl ?_
  refine j_putP 31 jC_10 dX11_init_122 kf_RX11_56 (Or.inr ⟨rfl, rfl, rfl⟩) rfl rfl (fun ad => jr_nfA ad _) rfl rfl ?_
  refine j_mem (μ1 := (kM 16 1039 kMI1 kMP15)) rfl ?_
  refine j_aload_n 0 dX11_init_125 rfl rfl ?_
  refine j_iconst (v := 4) dX11_init_126 (by decide) ?_
  refine j_newI 4 dX11_init_127 ka_int (by decide) (by decide +kernel) (by decide +kernel) (by decide +kernel) (by decide +kernel) rfl ?_
  refine j_gw rfl (fun _ => rfl) (fun _ => rfl) (fun _ => rfl) ?_
  refine j_nmr (x := 17) rfl ?_
  refine j_mem (μ1 := (kM 17 1043 kMI1 kMP15)) rfl ?_
  refine j_putP 32 jC_10 dX11_init_129 kf_RX11_59 (Or.inr ⟨rfl, rfl, rfl⟩) rfl rfl (fun ad => jr_nfA ad _) rfl rfl ?_
  refine j_mem (μ1 := (kM 17 1043 kMI1 kMP16)) rfl ?_
  refine j_aload_n 0 dX11_init_132 rfl rfl ?_
  refine j_iconst (v := (-1)) dX11_init_133 (by decide) ?_
  refine j_putI 35 jC_10 dX11_init_134 kf_RX11_62 (Or.inl rfl) rfl rfl (fun _ => ⟨rfl, rfl⟩) rfl rfl ?_
  refine j_mem (μ1 := (kM 17 1043 kMI2 kMP16)) rfl ?_
  refine j_aload_n 0 dX11_init_137 rfl rfl ?_
  refine j_ldc (v := 147968) kk_RX11_65 dX11_init_138 ?_
  refine j_newI 147968 dX11_init_140 ka_int (by decide) (by decide +kernel) (by decide +kernel) (by decide +kernel) (by decide +kernel) rfl ?_
  refine j_gw rfl (fun _ => rfl) (fun _ => rfl) (fun _ => rfl) ?_
  refine j_nmr (x := 18) rfl ?_
  refine j_mem (μ1 := (kM 18 149011 kMI2 kMP16)) rfl ?_
  refine j_putP 37 jC_10 dX11_init_142 kf_RX11_66 (Or.inr ⟨rfl, rfl, rfl⟩) rfl rfl (fun ad => jr_nfA ad _) rfl rfl ?_
  refine j_mem (μ1 := (kM 18 149011 kMI2 kMP17)) rfl ?_
  refine j_aload_n 0 dX11_init_145 rfl rfl ?_
  refine j_ldc (v := 147968) kk_RX11_65 dX11_init_146 ?_
  refine j_newI 147968 dX11_init_148 ka_int (by decide) (by decide +kernel) (by decide +kernel) (by decide +kernel) (by decide +kernel) rfl ?_
  refine j_gw rfl (fun _ => rfl) (fun _ => rfl) (fun _ => rfl) ?_
  refine j_nmr (x := 19) rfl ?_
  refine j_mem (μ1 := (kM 19 296979 kMI2 kMP17)) rfl ?_
  refine j_putP 38 jC_10 dX11_init_150 kf_RX11_69 (Or.inr ⟨rfl, rfl, rfl⟩) rfl rfl (fun ad => jr_nfA ad _) rfl rfl ?_
  refine j_mem (μ1 := (kM 19 296979 kMI2 kMP18)) rfl ?_
  refine j_aload_n 0 dX11_init_153 rfl rfl ?_
  refine j_ldc (v := 147968) kk_RX11_65 dX11_init_154 ?_
  refine j_newI 147968 dX11_init_156 ka_int (by decide) (by decide +kernel) (by decide +kernel) (by decide +kernel) (by decide +kernel) rfl ?_
  refine j_gw rfl (fun _ => rfl) (fun _ => rfl) (fun _ => rfl) ?_
  refine j_nmr (x := 20) rfl ?_
  refine j_mem (μ1 := (kM 20 444947 kMI2 kMP18)) rfl ?_
  refine j_putP 40 jC_10 dX11_init_158 kf_RX11_72 (Or.inr ⟨rfl, rfl, rfl⟩) rfl rfl (fun ad => jr_nfA ad _) rfl rfl ?_
  refine j_mem (μ1 := (kM 20 444947 kMI2 kMP19)) rfl ?_
  refine j_aload_n 0 dX11_init_161 rfl rfl ?_
  refine j_ldc (v := 147968) kk_RX11_65 dX11_init_162 ?_
  refine j_newI 147968 dX11_init_164 ka_int (by decide) (by decide +kernel) (by decide +kernel) (by decide +kernel) (by decide +kernel) rfl ?_
  refine j_gw rfl (fun _ => rfl) (fun _ => rfl) (fun _ => rfl) ?_
  refine j_nmr (x := 21) rfl ?_
  refine j_mem (μ1 := (kM 21 592915 kMI2 kMP19)) rfl ?_
  refine j_putP 41 jC_10 dX11_init_166 kf_RX11_75 (Or.inr ⟨rfl, rfl, rfl⟩) rfl rfl (fun ad => jr_nfA ad _) rfl rfl ?_
  refine j_mem (μ1 := (kM 21 592915 kMI2 kMP20)) rfl ?_
  refine j_aload_n 0 dX11_init_169 rfl rfl ?_
  refine j_ldc (v := 620000) kk_RX11_78 dX11_init_170 ?_
  refine j_newI 620000 dX11_init_172 ka_int (by decide) (by decide +kernel) (by decide +kernel) (by decide +kernel) (by decide +kernel) rfl ?_
  refine j_gw rfl (fun _ => rfl) (fun _ => rfl) (fun _ => rfl) ?_
  refine j_nmr (x := 22) rfl ?_
  refine j_mem (μ1 := (kM 22 1212915 kMI2 kMP20)) rfl ?_
  refine j_putP 42 jC_10 dX11_init_174 kf_RX11_79 (Or.inr ⟨rfl, rfl, rfl⟩) rfl rfl (fun ad => jr_nfA ad _) rfl rfl ?_
  refine j_mem (μ1 := (kM 22 1212915 kMI2 kMP21)) rfl ?_
  refine j_aload_n 0 dX11_init_177 rfl rfl ?_
  refine j_ldc (v := 620000) kk_RX11_78 dX11_init_178 ?_
  refine j_newI 620000 dX11_init_180 ka_int (by decide) (by decide +kernel) (by decide +kernel) (by decide +kernel) (by decide +kernel) rfl ?_
  refine j_gw rfl (fun _ => rfl) (fun _ => rfl) (fun _ => rfl) ?_
  refine j_nmr (x := 23) rfl ?_
  refine j_mem (μ1 := (kM 23 1832915 kMI2 kMP21)) rfl ?_
  refine j_putP 43 jC_10 dX11_init_182 kf_RX11_82 (Or.inr ⟨rfl, rfl, rfl⟩) rfl rfl (fun ad => jr_nfA ad _) rfl rfl ?_
  refine j_mem (μ1 := (kM 23 1832915 kMI2 kMP22)) rfl ?_
  refine j_aload_n 0 dX11_init_185 rfl rfl ?_
  refine j_ldc (v := 147968) kk_RX11_65 dX11_init_186 ?_
  refine j_newI 147968 dX11_init_188 ka_int (by decide) (by decide +kernel) (by decide +kernel) (by decide +kernel) (by decide +kernel) rfl ?_
  refine j_gw rfl (fun _ => rfl) (fun _ => rfl) (fun _ => rfl) ?_
  refine j_nmr (x := 24) rfl ?_
  refine j_mem (μ1 := (kM 24 1980883 kMI2 kMP22)) rfl ?_
  refine j_putP 45 jC_10 dX11_init_190 kf_RX11_85 (Or.inr ⟨rfl, rfl, rfl⟩) rfl rfl (fun ad => jr_nfA ad _) rfl rfl ?_
  refine j_mem (μ1 := (kM 24 1980883 kMI2 kMP23)) rfl ?_
  refine j_aload_n 0 dX11_init_193 rfl rfl ?_
  refine j_ldc (v := 147968) kk_RX11_65 dX11_init_194 ?_
  refine j_newI 147968 dX11_init_196 ka_int (by decide) (by decide +kernel) (by decide +kernel) (by decide +kernel) (by decide +kernel) rfl ?_
  refine j_gw rfl (fun _ => rfl) (fun _ => rfl) (fun _ => rfl) ?_
  refine j_nmr (x := 25) rfl ?_
  refine j_mem (μ1 := (kM 25 2128851 kMI2 kMP23)) rfl ?_
  refine j_putP 46 jC_10 dX11_init_198 kf_RX11_88 (Or.inr ⟨rfl, rfl, rfl⟩) rfl rfl (fun ad => jr_nfA ad _) rfl rfl ?_
  refine j_mem (μ1 := (kM 25 2128851 kMI2 kMP24)) rfl ?_
  refine j_aload_n 0 dX11_init_201 rfl rfl ?_
  refine j_sipush (v := 1600) dX11_init_202 (by decide) ?_
  refine j_newZ 1600 dX11_init_205 ka_boolean (by decide) (by decide +kernel) (by decide +kernel) (by decide +kernel) (by decide +kernel) rfl ?_
  refine j_gw rfl (fun _ => rfl) (fun _ => rfl) (fun _ => rfl) ?_
  refine j_nmr (x := 26) rfl ?_
  refine j_mem (μ1 := (kM 26 2130451 kMI2 kMP24)) rfl ?_
  refine j_putP 47 jC_10 dX11_init_207 kf_RX11_91 (Or.inr ⟨rfl, rfl, rfl⟩) rfl rfl (fun ad => jr_nfA ad _) rfl rfl ?_
  refine j_mem (μ1 := (kM 26 2130451 kMI2 kMP25)) rfl ?_
  refine j_aload_n 0 dX11_init_210 rfl rfl ?_
  refine j_ldc (v := 147968) kk_RX11_65 dX11_init_211 ?_
  refine j_newI 147968 dX11_init_213 ka_int (by decide) (by decide +kernel) (by decide +kernel) (by decide +kernel) (by decide +kernel) rfl ?_
  refine j_gw rfl (fun _ => rfl) (fun _ => rfl) (fun _ => rfl) ?_
  refine j_nmr (x := 27) rfl ?_
  refine j_mem (μ1 := (kM 27 2278419 kMI2 kMP25)) rfl ?_
  refine j_putP 48 jC_10 dX11_init_215 kf_RX11_95 (Or.inr ⟨rfl, rfl, rfl⟩) rfl rfl (fun ad => jr_nfA ad _) rfl rfl ?_
  refine j_mem (μ1 := (kM 27 2278419 kMI2 kMP26)) rfl ?_
  refine j_aload_n 0 dX11_init_218 rfl rfl ?_
  refine j_sipush (v := 256) dX11_init_219 (by decide) ?_
  refine j_newZ 256 dX11_init_222 ka_boolean (by decide) (by decide +kernel) (by decide +kernel) (by decide +kernel) (by decide +kernel) rfl ?_
  refine j_gw rfl (fun _ => rfl) (fun _ => rfl) (fun _ => rfl) ?_
  refine j_nmr (x := 28) rfl ?_
  refine j_mem (μ1 := (kM 28 2278675 kMI2 kMP26)) rfl ?_
  refine j_putP 49 jC_10 dX11_init_224 kf_RX11_98 (Or.inr ⟨rfl, rfl, rfl⟩) rfl rfl (fun ad => jr_nfA ad _) rfl rfl ?_
  refine j_mem (μ1 := (kM 28 2278675 kMI2 kMP27)) rfl ?_
  refine j_aload_n 0 dX11_init_227 rfl rfl ?_
  refine j_sipush (v := 4096) dX11_init_228 (by decide) ?_
  refine j_newZ 4096 dX11_init_231 ka_boolean (by decide) (by decide +kernel) (by decide +kernel) (by decide +kernel) (by decide +kernel) rfl ?_
  refine j_gw rfl (fun _ => rfl) (fun _ => rfl) (fun _ => rfl) ?_
  refine j_nmr (x := 29) rfl ?_
  refine j_mem (μ1 := (kM 29 2282771 kMI2 kMP27)) rfl ?_
  refine j_putP 52 jC_10 dX11_init_233 kf_RX11_101 (Or.inr ⟨rfl, rfl, rfl⟩) rfl rfl (fun ad => jr_nfA ad _) rfl rfl ?_
  refine j_mem (μ1 := (kM 29 2282771 kMI2 kMP28)) rfl ?_
  refine j_aload_n 0 dX11_init_236 rfl rfl ?_
  refine j_ldc (v := 120000) kk_RX11_104 dX11_init_237 ?_
  refine j_newI 120000 dX11_init_239 ka_int (by decide) (by decide +kernel) (by decide +kernel) (by decide +kernel) (by decide +kernel) rfl ?_
  refine j_gw rfl (fun _ => rfl) (fun _ => rfl) (fun _ => rfl) ?_
  refine j_nmr (x := 30) rfl ?_
  refine j_mem (μ1 := (kM 30 2402771 kMI2 kMP28)) rfl ?_
  refine j_putP 53 jC_10 dX11_init_241 kf_RX11_105 (Or.inr ⟨rfl, rfl, rfl⟩) rfl rfl (fun ad => jr_nfA ad _) rfl rfl ?_
  refine j_mem (μ1 := (kM 30 2402771 kMI2 kMP29)) rfl ?_
  refine j_aload_n 0 dX11_init_244 rfl rfl ?_
  refine j_ldc (v := 120000) kk_RX11_104 dX11_init_245 ?_
  refine j_newI 120000 dX11_init_247 ka_int (by decide) (by decide +kernel) (by decide +kernel) (by decide +kernel) (by decide +kernel) rfl ?_
  refine j_gw rfl (fun _ => rfl) (fun _ => rfl) (fun _ => rfl) ?_
  refine j_nmr (x := 31) rfl ?_
  refine j_mem (μ1 := (kM 31 2522771 kMI2 kMP29)) rfl ?_
  refine j_putP 54 jC_10 dX11_init_249 kf_RX11_108 (Or.inr ⟨rfl, rfl, rfl⟩) rfl rfl (fun ad => jr_nfA ad _) rfl rfl ?_
  refine j_mem (μ1 := (kM 31 2522771 kMI2 kMP30)) rfl ?_
  refine j_aload_n 0 dX11_init_252 rfl rfl ?_
  refine j_bipush (v := 40) dX11_init_253 (by decide) ?_
  refine j_newI 40 dX11_init_255 ka_int (by decide) (by decide +kernel) (by decide +kernel) (by decide +kernel) (by decide +kernel) rfl ?_
  refine j_gw rfl (fun _ => rfl) (fun _ => rfl) (fun _ => rfl) ?_
  refine j_nmr (x := 32) rfl ?_
  refine j_mem (μ1 := (kM 32 2522811 kMI2 kMP30)) rfl ?_
  refine j_putP 57 jC_10 dX11_init_257 kf_RX11_111 (Or.inr ⟨rfl, rfl, rfl⟩) rfl rfl (fun ad => jr_nfA ad _) rfl rfl ?_
  refine j_mem (μ1 := (kM 32 2522811 kMI2 kMP31)) rfl ?_
  refine j_aload_n 0 dX11_init_260 rfl rfl ?_
  refine j_bipush (v := 40) dX11_init_261 (by decide) ?_
  refine j_newI 40 dX11_init_263 ka_int (by decide) (by decide +kernel) (by decide +kernel) (by decide +kernel) (by decide +kernel) rfl ?_
  refine j_gw rfl (fun _ => rfl) (fun _ => rfl) (fun _ => rfl) ?_
  refine j_nmr (x := 33) rfl ?_
  refine j_mem (μ1 := (kM 33 2522851 kMI2 kMP31)) rfl ?_
  refine j_putP 58 jC_10 dX11_init_265 kf_RX11_114 (Or.inr ⟨rfl, rfl, rfl⟩) rfl rfl (fun ad => jr_nfA ad _) rfl rfl ?_
  refine j_mem (μ1 := (kM 33 2522851 kMI2 kMP32)) rfl ?_
  refine j_aload_n 0 dX11_init_268 rfl rfl ?_
  refine j_bipush (v := 20) dX11_init_269 (by decide) ?_
  refine j_newI 20 dX11_init_271 ka_int (by decide) (by decide +kernel) (by decide +kernel) (by decide +kernel) (by decide +kernel) rfl ?_
  refine j_gw rfl (fun _ => rfl) (fun _ => rfl) (fun _ => rfl) ?_
  refine j_nmr (x := 34) rfl ?_
  refine j_mem (μ1 := (kM 34 2522871 kMI2 kMP32)) rfl ?_
  refine j_putP 60 jC_10 dX11_init_273 kf_RX11_117 (Or.inr ⟨rfl, rfl, rfl⟩) rfl rfl (fun ad => jr_nfA ad _) rfl rfl ?_
  refine j_mem (μ1 := (kM 34 2522871 kMI2 kMP33)) rfl ?_
  refine j_aload_n 0 dX11_init_276 rfl rfl ?_
  refine j_bipush (v := 20) dX11_init_277 (by decide) ?_
  refine j_newI 20 dX11_init_279 ka_int (by decide) (by decide +kernel) (by decide +kernel) (by decide +kernel) (by decide +kernel) rfl ?_
  refine j_gw rfl (fun _ => rfl) (fun _ => rfl) (fun _ => rfl) ?_
  refine j_nmr (x := 35) rfl ?_
  refine j_mem (μ1 := (kM 35 2522891 kMI2 kMP33)) rfl ?_
  refine j_putP 61 jC_10 dX11_init_281 kf_RX11_120 (Or.inr ⟨rfl, rfl, rfl⟩) rfl rfl (fun ad => jr_nfA ad _) rfl rfl ?_
  refine j_mem (μ1 := (kM 35 2522891 kMI2 kMP34)) rfl ?_
  refine j_aload_n 0 dX11_init_284 rfl rfl ?_
  refine j_bipush (v := 20) dX11_init_285 (by decide) ?_
  refine j_newZ 20 dX11_init_287 ka_boolean (by decide) (by decide +kernel) (by decide +kernel) (by decide +kernel) (by decide +kernel) rfl ?_
  refine j_gw rfl (fun _ => rfl) (fun _ => rfl) (fun _ => rfl) ?_
  refine j_nmr (x := 36) rfl ?_
  refine j_mem (μ1 := (kM 36 2522911 kMI2 kMP34)) rfl ?_
  refine j_putP 62 jC_10 dX11_init_289 kf_RX11_123 (Or.inr ⟨rfl, rfl, rfl⟩) rfl rfl (fun ad => jr_nfA ad _) rfl rfl ?_
  refine j_mem (μ1 := (kM 36 2522911 kMI2 kMP35)) rfl ?_
  refine j_aload_n 0 dX11_init_292 rfl rfl ?_
  refine j_ldc (v := 147968) kk_RX11_65 dX11_init_293 ?_
  refine j_newI 147968 dX11_init_295 ka_int (by decide) (by decide +kernel) (by decide +kernel) (by decide +kernel) (by decide +kernel) rfl ?_
  refine j_gw rfl (fun _ => rfl) (fun _ => rfl) (fun _ => rfl) ?_
  refine j_nmr (x := 37) rfl ?_
  refine j_mem (μ1 := (kM 37 2670879 kMI2 kMP35)) rfl ?_
  refine j_putP 64 jC_10 dX11_init_297 kf_RX11_126 (Or.inr ⟨rfl, rfl, rfl⟩) rfl rfl (fun ad => jr_nfA ad _) rfl rfl ?_
  refine j_mem (μ1 := (kM 37 2670879 kMI2 kMP36)) rfl ?_
  refine j_aload_n 0 dX11_init_300 rfl rfl ?_
  refine j_ldc (v := 147968) kk_RX11_65 dX11_init_301 ?_
  refine j_newI 147968 dX11_init_303 ka_int (by decide) (by decide +kernel) (by decide +kernel) (by decide +kernel) (by decide +kernel) rfl ?_
  refine j_gw rfl (fun _ => rfl) (fun _ => rfl) (fun _ => rfl) ?_
  refine j_nmr (x := 38) rfl ?_
  refine j_mem (μ1 := (kM 38 2818847 kMI2 kMP36)) rfl ?_
  refine j_putP 65 jC_10 dX11_init_305 kf_RX11_129 (Or.inr ⟨rfl, rfl, rfl⟩) rfl rfl (fun ad => jr_nfA ad _) rfl rfl ?_
  refine j_mem (μ1 := (kM 38 2818847 kMI2 kMP37)) rfl ?_
  refine j_aload_n 0 dX11_init_308 rfl rfl ?_
  refine j_ldc (v := 147968) kk_RX11_65 dX11_init_309 ?_
  refine j_newI 147968 dX11_init_311 ka_int (by decide) (by decide +kernel) (by decide +kernel) (by decide +kernel) (by decide +kernel) rfl ?_
  refine j_gw rfl (fun _ => rfl) (fun _ => rfl) (fun _ => rfl) ?_
  refine j_nmr (x := 39) rfl ?_
  refine j_mem (μ1 := (kM 39 2966815 kMI2 kMP37)) rfl ?_
  refine j_putP 67 jC_10 dX11_init_313 kf_RX11_132 (Or.inr ⟨rfl, rfl, rfl⟩) rfl rfl (fun ad => jr_nfA ad _) rfl rfl ?_
  refine j_mem (μ1 := (kM 39 2966815 kMI2 kMP38)) rfl ?_
  refine j_aload_n 0 dX11_init_316 rfl rfl ?_
  refine j_sipush (v := 280) dX11_init_317 (by decide) ?_
  refine j_newI 280 dX11_init_320 ka_int (by decide) (by decide +kernel) (by decide +kernel) (by decide +kernel) (by decide +kernel) rfl ?_
  refine j_gw rfl (fun _ => rfl) (fun _ => rfl) (fun _ => rfl) ?_
  refine j_nmr (x := 40) rfl ?_
  refine j_mem (μ1 := (kM 40 2967095 kMI2 kMP38)) rfl ?_
  refine j_putP 69 jC_10 dX11_init_322 kf_RX11_135 (Or.inr ⟨rfl, rfl, rfl⟩) rfl rfl (fun ad => jr_nfA ad _) rfl rfl ?_
  refine j_mem (μ1 := (kM 40 2967095 kMI2 kMP39)) rfl ?_
  refine j_aload_n 0 dX11_init_325 rfl rfl ?_
  refine j_iconst (v := 2) dX11_init_326 (by decide) ?_
  refine j_newZ 2 dX11_init_327 ka_boolean (by decide) (by decide +kernel) (by decide +kernel) (by decide +kernel) (by decide +kernel) rfl ?_
  refine j_gw rfl (fun _ => rfl) (fun _ => rfl) (fun _ => rfl) ?_
  refine j_nmr (x := 41) rfl ?_
  refine j_mem (μ1 := (kM 41 2967097 kMI2 kMP39)) rfl ?_
  refine j_putP 70 jC_10 dX11_init_329 kf_RX11_138 (Or.inr ⟨rfl, rfl, rfl⟩) rfl rfl (fun ad => jr_nfA ad _) rfl rfl ?_
  refine j_mem (μ1 := (kM 41 2967097 kMI2 kMP40)) rfl ?_
  refine j_aload_n 0 dX11_init_332 rfl rfl ?_
  refine j_iconst (v := 0) dX11_init_333 (by decide) ?_
  refine j_putI 0 jC_10 dX11_init_334 kf_RX11_141 (Or.inl rfl) rfl rfl (fun _ => ⟨rfl, rfl⟩) rfl rfl ?_
  refine j_mem (μ1 := (kM 41 2967097 kMI3 kMP40)) rfl ?_
  exact j_vret dX11_init_337 rfl rfl
-- X: ('k_X10_init_1', 3, '(kX 70 28368 kXI3 kXP69)'); M: ('k_X11_init_1', 1, '(kM 41 2967097 kMI3 kMP40)')
