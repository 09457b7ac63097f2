def f_X10_worth (σ : jS) (x1 : Int32) : Option (Int32 × jS) :=
  bC (f_X10_isTurn σ x1) fun r1 =>
  if r1 = 0 then (some (((-1001), σ)))
  else (bV (σ.2.2.1) fun t2 =>
  bH [51, 61] t2 (
  if (gI σ t2 7) ≤ 8 then (bV (σ.2.2.1) fun t3 =>
  bD (f_X4_mostEnded σ t3 0) fun r4 σ5 =>
  bC (f_J6_bitCount_0f7a4 r4) fun r6 =>
  bV (σ5.2.2.1) fun t7 =>
  bD (f_X4_mostEnded σ5 t7 ((1 : Int32) <<< (x1 &&& 31))) fun r8 σ9 =>
  bC (f_J6_bitCount_0f7a4 r8) fun r10 =>
  some ((r6 - r10, σ9)))
  else (some (((-1003), σ)))))
set_option maxHeartbeats 1000000 in
set_option maxRecDepth 20000 in
theorem f_X10_worth_ok {g : Bool} {rv : Option Value} {μ' : jM} (σ : jS) (x1 : Int32) {Kp : (Int32 × jS) → Prop} (hn : Nat.ble nX μ'.1 = true ∧ Nat.ble wX μ'.2.1 = true) (hr : ∀ (r : Int32) (s : jS), Kp ((r, s)) → rv = some (.int r) ∧ μ' = eX s) (o : (Int32 × jS)) (h : f_X10_worth σ x1 = some o) (hK : Kp o) : J yX10_worth cX10_worth 3 (some .int) 28 g rv μ' 0 [(0, .ref 1), (1, .int x1)] [] (eX σ) := by
  unfold f_X10_worth at h
  refine j_aload_n 0 dX10_worth_0 rfl rfl ?_
  refine j_iload_n 1 dX10_worth_1 rfl rfl ?_
  replace h := bC_inv h
  obtain ⟨r11, cr11, h⟩ := h
  refine j_callV (ci := 9) (st1 := .int r11 :: _) (c_X10_isTurn g cr11) jy_X10_isTurn ki_yX10_isTurn ks_yX10_isTurn kl_RX10_163 dX10_worth_2 rfl (okX_1 _) (shX_1 _) rfl rfl rfl rfl (jbr _) (jbr _) hn.1 hn.2 (Or.inr rfl) rfl ?_
  refine j_if_ne 12 dX10_worth_5 (by decide) (fun hc12 => ?_) (fun hc12 => ?_)
  · replace h := jif_f hc12 h
    refine j_aload_n 0 dX10_worth_12 rfl rfl ?_
    refine j_get (ci := 9) 7 (.ref (σ.2.2.1)) jC_9 dX10_worth_13 kg_RX10_58 rfl (okX_1 _) (shX_1 _) (fvX_1_7 _) ?_
    replace h := bV_inv h
    obtain ⟨t13, et13, h⟩ := h
    refine j_nmr et13 ?_
    replace h := bH_inv h
    obtain ⟨hm14, h⟩ := h
    simp only [List.mem_cons, List.not_mem_nil, or_false] at hm14
    rcases hm14 with rfl | rfl
    · skip
      refine j_get (ci := 7) 7 (.int (gI σ 51 7)) jC_7 dX10_worth_16 kg_RX10_128 rfl (okX_51 _) (shX_51 _) (fvX_51_7 _) ?_
      refine j_bipush (v := 8) dX10_worth_19 (by decide) ?_
      refine j_icmp_le 28 dX10_worth_21 (by decide) (fun hc15 => ?_) (fun hc15 => ?_)
      · replace h := jif_t hc15 h
        refine j_aload_n 0 dX10_worth_28 rfl rfl ?_
        refine j_get (ci := 9) 2 (.ref 17) jC_9 dX10_worth_29 kg_RX10_26 rfl (okX_1 _) (shX_1 _) (fvX_1_2 _) ?_
        refine j_aload_n 0 dX10_worth_32 rfl rfl ?_
        refine j_get (ci := 9) 1 (.ref 4) jC_9 dX10_worth_33 kg_RX10_19 rfl (okX_1 _) (shX_1 _) (fvX_1_1 _) ?_
        refine j_aload_n 0 dX10_worth_36 rfl rfl ?_
        refine j_get (ci := 9) 7 (.ref (σ.2.2.1)) jC_9 dX10_worth_37 kg_RX10_58 rfl (okX_1 _) (shX_1 _) (fvX_1_7 _) ?_
        replace h := bV_inv h
        obtain ⟨t16, et16, h⟩ := h
        refine j_nmr et16 ?_
        refine j_iconst (v := 0) dX10_worth_40 (by decide) ?_
        replace h := bD_inv h
        obtain ⟨r17, σ18, cr17, h⟩ := h
        refine j_callV (ci := 4) (st1 := .int r17 :: _) (c_X4_mostEnded g cr17) jy_X4_mostEnded ki_yX4_mostEnded ks_yX4_mostEnded kl_RX10_262 dX10_worth_41 rfl (okX_17 _) (shX_17 _) rfl rfl rfl rfl (jbr _) (jbr _) hn.1 hn.2 (Or.inr rfl) rfl ?_
        replace h := bC_inv h
        obtain ⟨r19, cr19, h⟩ := h
        refine j_callS (st1 := .int r19 :: _) (c_J6_bitCount_0f7a4 g _ cr19) jy_J6_bitCount_0f7a4 kt_yJ6_bitCount_0f7a4 kl_RX10_266 dX10_worth_44 rfl rfl rfl rfl (jbr _) (jbr _) hn.1 hn.2 (Or.inr rfl) rfl ?_
        refine j_istore_n [(2, .int r19), (0, .ref 1), (1, .int x1)] dX10_worth_47 rfl (Nat.le_of_ble_eq_true rfl) rfl ?_
        refine j_iload_n 0 dX10_worth_48 rfl rfl ?_
        refine j_aload_n 1 dX10_worth_49 rfl rfl ?_
        refine j_get (ci := 9) 2 (.ref 17) jC_9 dX10_worth_50 kg_RX10_26 rfl (okX_1 _) (shX_1 _) (fvX_1_2 _) ?_
        refine j_aload_n 1 dX10_worth_53 rfl rfl ?_
        refine j_get (ci := 9) 1 (.ref 4) jC_9 dX10_worth_54 kg_RX10_19 rfl (okX_1 _) (shX_1 _) (fvX_1_1 _) ?_
        refine j_aload_n 1 dX10_worth_57 rfl rfl ?_
        refine j_get (ci := 9) 7 (.ref (σ18.2.2.1)) jC_9 dX10_worth_58 kg_RX10_58 rfl (okX_1 _) (shX_1 _) (fvX_1_7 _) ?_
        replace h := bV_inv h
        obtain ⟨t20, et20, h⟩ := h
        refine j_nmr et20 ?_
        refine j_iconst (v := 1) dX10_worth_61 (by decide) ?_
        refine j_iload_n 2 dX10_worth_62 rfl rfl ?_
        refine j_ishl dX10_worth_63 ?_
        replace h := bD_inv h
        obtain ⟨r21, σ22, cr21, h⟩ := h
        refine j_callV (ci := 4) (st1 := .int r21 :: _) (c_X4_mostEnded g cr21) jy_X4_mostEnded ki_yX4_mostEnded ks_yX4_mostEnded kl_RX10_262 dX10_worth_64 rfl (okX_17 _) (shX_17 _) rfl rfl rfl rfl (jbr _) (jbr _) hn.1 hn.2 (Or.inr rfl) rfl ?_
        replace h := bC_inv h
        obtain ⟨r23, cr23, h⟩ := h
        refine j_callS (st1 := .int r23 :: _) (c_J6_bitCount_0f7a4 g _ cr23) jy_J6_bitCount_0f7a4 kt_yJ6_bitCount_0f7a4 kl_RX10_266 dX10_worth_67 rfl rfl rfl rfl (jbr _) (jbr _) hn.1 hn.2 (Or.inr rfl) rfl ?_
        refine j_isub dX10_worth_70 ?_
        replace h := Option.some.inj h
        subst h
        obtain ⟨hr1, hr2⟩ := hr _ _ hK
        exact j_iret dX10_worth_71 hr1 hr2
      · replace h := jif_f hc15 h
        refine j_sipush (v := (-1003)) dX10_worth_24 (by decide) ?_
        replace h := Option.some.inj h
        subst h
        obtain ⟨hr1, hr2⟩ := hr _ _ hK
        exact j_iret dX10_worth_27 hr1 hr2
    · skip
      refine j_get (ci := 7) 7 (.int (gI σ 61 7)) jC_7 dX10_worth_16 kg_RX10_128 rfl (okX_61 _) (shX_61 _) (fvX_61_7 _) ?_
      refine j_bipush (v := 8) dX10_worth_19 (by decide) ?_
      refine j_icmp_le 28 dX10_worth_21 (by decide) (fun hc24 => ?_) (fun hc24 => ?_)
      · replace h := jif_t hc24 h
        refine j_aload_n 0 dX10_worth_28 rfl rfl ?_
        refine j_get (ci := 9) 2 (.ref 17) jC_9 dX10_worth_29 kg_RX10_26 rfl (okX_1 _) (shX_1 _) (fvX_1_2 _) ?_
        refine j_aload_n 0 dX10_worth_32 rfl rfl ?_
        refine j_get (ci := 9) 1 (.ref 4) jC_9 dX10_worth_33 kg_RX10_19 rfl (okX_1 _) (shX_1 _) (fvX_1_1 _) ?_
        refine j_aload_n 0 dX10_worth_36 rfl rfl ?_
        refine j_get (ci := 9) 7 (.ref (σ.2.2.1)) jC_9 dX10_worth_37 kg_RX10_58 rfl (okX_1 _) (shX_1 _) (fvX_1_7 _) ?_
        replace h := bV_inv h
        obtain ⟨t25, et25, h⟩ := h
        refine j_nmr et25 ?_
        refine j_iconst (v := 0) dX10_worth_40 (by decide) ?_
        replace h := bD_inv h
        obtain ⟨r26, σ27, cr26, h⟩ := h
        refine j_callV (ci := 4) (st1 := .int r26 :: _) (c_X4_mostEnded g cr26) jy_X4_mostEnded ki_yX4_mostEnded ks_yX4_mostEnded kl_RX10_262 dX10_worth_41 rfl (okX_17 _) (shX_17 _) rfl rfl rfl rfl (jbr _) (jbr _) hn.1 hn.2 (Or.inr rfl) rfl ?_
        replace h := bC_inv h
        obtain ⟨r28, cr28, h⟩ := h
        refine j_callS (st1 := .int r28 :: _) (c_J6_bitCount_0f7a4 g _ cr28) jy_J6_bitCount_0f7a4 kt_yJ6_bitCount_0f7a4 kl_RX10_266 dX10_worth_44 rfl rfl rfl rfl (jbr _) (jbr _) hn.1 hn.2 (Or.inr rfl) rfl ?_
        refine j_istore_n [(2, .int r28), (0, .ref 1), (1, .int x1)] dX10_worth_47 rfl (Nat.le_of_ble_eq_true rfl) rfl ?_
        refine j_iload_n 0 dX10_worth_48 rfl rfl ?_
        refine j_aload_n 1 dX10_worth_49 rfl rfl ?_
        refine j_get (ci := 9) 2 (.ref 17) jC_9 dX10_worth_50 kg_RX10_26 rfl (okX_1 _) (shX_1 _) (fvX_1_2 _) ?_
        refine j_aload_n 1 dX10_worth_53 rfl rfl ?_
        refine j_get (ci := 9) 1 (.ref 4) jC_9 dX10_worth_54 kg_RX10_19 rfl (okX_1 _) (shX_1 _) (fvX_1_1 _) ?_
        refine j_aload_n 1 dX10_worth_57 rfl rfl ?_
        refine j_get (ci := 9) 7 (.ref (σ27.2.2.1)) jC_9 dX10_worth_58 kg_RX10_58 rfl (okX_1 _) (shX_1 _) (fvX_1_7 _) ?_
        replace h := bV_inv h
        obtain ⟨t29, et29, h⟩ := h
        refine j_nmr et29 ?_
        refine j_iconst (v := 1) dX10_worth_61 (by decide) ?_
        refine j_iload_n 2 dX10_worth_62 rfl rfl ?_
        refine j_ishl dX10_worth_63 ?_
        replace h := bD_inv h
        obtain ⟨r30, σ31, cr30, h⟩ := h
        refine j_callV (ci := 4) (st1 := .int r30 :: _) (c_X4_mostEnded g cr30) jy_X4_mostEnded ki_yX4_mostEnded ks_yX4_mostEnded kl_RX10_262 dX10_worth_64 rfl (okX_17 _) (shX_17 _) rfl rfl rfl rfl (jbr _) (jbr _) hn.1 hn.2 (Or.inr rfl) rfl ?_
        replace h := bC_inv h
        obtain ⟨r32, cr32, h⟩ := h
        refine j_callS (st1 := .int r32 :: _) (c_J6_bitCount_0f7a4 g _ cr32) jy_J6_bitCount_0f7a4 kt_yJ6_bitCount_0f7a4 kl_RX10_266 dX10_worth_67 rfl rfl rfl rfl (jbr _) (jbr _) hn.1 hn.2 (Or.inr rfl) rfl ?_
        refine j_isub dX10_worth_70 ?_
        replace h := Option.some.inj h
        subst h
        obtain ⟨hr1, hr2⟩ := hr _ _ hK
        exact j_iret dX10_worth_71 hr1 hr2
      · replace h := jif_f hc24 h
        refine j_sipush (v := (-1003)) dX10_worth_24 (by decide) ?_
        replace h := Option.some.inj h
        subst h
        obtain ⟨hr1, hr2⟩ := hr _ _ hK
        exact j_iret dX10_worth_27 hr1 hr2
  · replace h := jif_t hc12 h
    refine j_sipush (v := (-1001)) dX10_worth_8 (by decide) ?_
    replace h := Option.some.inj h
    subst h
    obtain ⟨hr1, hr2⟩ := hr _ _ hK
    exact j_iret dX10_worth_11 hr1 hr2
theorem c_X10_worth (g : Bool) {σ : jS} {x1 : Int32} {r : Int32} {σ2 : jS} (h : f_X10_worth σ x1 = some (r, σ2)) : Cn yX10_worth cX10_worth 3 (some .int) 28 g [.ref 1, .int x1] (eX σ) (some (.int r)) (eX σ2) :=
  Cn_of (by decide) (Nat.le_refl _) (Nat.le_refl _) (Nat.le_of_ble_eq_true rfl) (f_X10_worth_ok (Kp := (fun o => o = (r, σ2))) σ x1 ⟨jbr _, jbr _⟩ (fun r2 s2 q => by cases q; exact ⟨rfl, rfl⟩) _ h rfl)
def f_X3_write (σ : jS) (x1 : Int32) (x2 : Int32) : Option (Unit × jS) :=
  bD (f_X6_put σ 24 (gI σ 23 2) x1) fun r1 σ2 =>
  bD (f_X6_put σ2 25 (gI σ2 23 2) x2) fun r3 σ4 =>
  bV (sI σ4 23 2 ((gI σ4 23 2) + (1 : Int32))) fun σ5 =>
  some (((), σ5))
set_option maxHeartbeats 1000000 in
set_option maxRecDepth 20000 in
theorem f_X3_write_ok {g : Bool} {rv : Option Value} {μ' : jM} (σ : jS) (x1 : Int32) (x2 : Int32) {Kp : (Unit × jS) → Prop} (hn : Nat.ble nX μ'.1 = true ∧ Nat.ble wX μ'.2.1 = true) (hr : ∀ (r : Unit) (s : jS), Kp ((r, s)) → rv = none ∧ μ' = eX s) (o : (Unit × jS)) (h : f_X3_write σ x1 x2 = some o) (hK : Kp o) : J yX3_write cX3_write 3 none 2 g rv μ' 0 [(0, .ref 23), (1, .int x1), (2, .int x2)] [] (eX σ) := by
  unfold f_X3_write at h
  refine j_aload_n 0 dX3_write_0 rfl rfl ?_
  refine j_get (ci := 3) 0 (.ref 24) jC_3 dX3_write_1 kg_RX3_9 rfl (okX_23 _) (shX_23 _) (fvX_23_0 _) ?_
  refine j_aload_n 0 dX3_write_4 rfl rfl ?_
  refine j_get (ci := 3) 2 (.int (gI σ 23 2)) jC_3 dX3_write_5 kg_RX3_28 rfl (okX_23 _) (shX_23 _) (fvX_23_2 _) ?_
  refine j_iload_n 1 dX3_write_8 rfl rfl ?_
  replace h := bD_inv h
  obtain ⟨r6, σ7, cr6, h⟩ := h
  refine j_callS (st1 := _) (c_X6_put g cr6) jy_X6_put kt_yX6_put kl_RX3_35 dX3_write_9 rfl rfl rfl rfl (jbr _) (jbr _) hn.1 hn.2 (Or.inr rfl) rfl ?_
  refine j_aload_n 0 dX3_write_12 rfl rfl ?_
  refine j_get (ci := 3) 1 (.ref 25) jC_3 dX3_write_13 kg_RX3_15 rfl (okX_23 _) (shX_23 _) (fvX_23_1 _) ?_
  refine j_aload_n 0 dX3_write_16 rfl rfl ?_
  refine j_get (ci := 3) 2 (.int (gI σ7 23 2)) jC_3 dX3_write_17 kg_RX3_28 rfl (okX_23 _) (shX_23 _) (fvX_23_2 _) ?_
  refine j_iload_n 2 dX3_write_20 rfl rfl ?_
  replace h := bD_inv h
  obtain ⟨r8, σ9, cr8, h⟩ := h
  refine j_callS (st1 := _) (c_X6_put g cr8) jy_X6_put kt_yX6_put kl_RX3_35 dX3_write_21 rfl rfl rfl rfl (jbr _) (jbr _) hn.1 hn.2 (Or.inr rfl) rfl ?_
  refine j_aload_n 0 dX3_write_24 rfl rfl ?_
  refine j_dup dX3_write_25 rfl ?_
  refine j_get (ci := 3) 2 (.int (gI σ9 23 2)) jC_3 dX3_write_26 kg_RX3_28 rfl (okX_23 _) (shX_23 _) (fvX_23_2 _) ?_
  refine j_iconst (v := 1) dX3_write_29 (by decide) ?_
  refine j_iadd dX3_write_30 ?_
  replace h := bV_inv h
  obtain ⟨σ10, eσ10, h⟩ := h
  refine j_putI 2 jC_3 dX3_write_31 kg_RX3_28 (Or.inl ff_3_2) rfl fk_3_2 (fn_3_2 _) (okX_23 _) (shX_23 _) ?_
  refine j_mem (congrArg eX eσ10) ?_
  replace h := Option.some.inj h
  subst h
  obtain ⟨hr1, hr2⟩ := hr _ _ hK
  exact j_vret dX3_write_34 hr1 hr2
theorem c_X3_write (g : Bool) {σ : jS} {x1 : Int32} {x2 : Int32} {r : Unit} {σ2 : jS} (h : f_X3_write σ x1 x2 = some (r, σ2)) : Cn yX3_write cX3_write 3 none 2 g [.ref 23, .int x1, .int x2] (eX σ) none (eX σ2) :=
  Cn_of (by decide) (Nat.le_refl _) (Nat.le_refl _) (Nat.le_of_ble_eq_true rfl) (f_X3_write_ok (Kp := (fun o => o = (r, σ2))) σ x1 x2 ⟨jbr _, jbr _⟩ (fun r2 s2 q => by cases q; exact ⟨rfl, rfl⟩) _ h rfl)
def f_X10_log_J16 (σ : jS) : Option (Int32 × jS) :=
  some (((-1001), σ))
set_option maxHeartbeats 1000000 in
set_option maxRecDepth 20000 in
theorem f_X10_log_J16_ok {g : Bool} {rv : Option Value} {μ' : jM} (σ : jS) {Kp : (Int32 × jS) → Prop} (hn : Nat.ble nX μ'.1 = true ∧ Nat.ble wX μ'.2.1 = true) (hr : ∀ (r : Int32) (s : jS), Kp ((r, s)) → rv = some (.int r) ∧ μ' = eX s) (o : (Int32 × jS)) (h : f_X10_log_J16 σ = some o) (hK : Kp o) : J yX10_log cX10_log 3 (some .int) 3 g rv μ' 16 [] [] (eX σ) := by
  unfold f_X10_log_J16 at h
  refine j_sipush (v := (-1001)) dX10_log_16 (by decide) ?_
  replace h := Option.some.inj h
  subst h
  obtain ⟨hr1, hr2⟩ := hr _ _ hK
  exact j_iret dX10_log_19 hr1 hr2
def f_X10_log (σ : jS) (x1 : Int32) (x2 : Int32) : Option (Int32 × jS) :=
  bC (f_X10_isPerson σ x1) fun r1 =>
  if r1 = 0 then (f_X10_log_J16 σ)
  else (bC (f_X10_isPerson σ x2) fun r2 =>
  if r2 = 0 then (f_X10_log_J16 σ)
  else (if (gI σ 23 2) < 40 then (bD (f_X3_write σ x1 x2) fun r3 σ4 =>
  some ((gI σ4 23 2, σ4)))
  else (some (((-1004), σ)))))
set_option maxHeartbeats 1000000 in
set_option maxRecDepth 20000 in
theorem f_X10_log_ok {g : Bool} {rv : Option Value} {μ' : jM} (σ : jS) (x1 : Int32) (x2 : Int32) {Kp : (Int32 × jS) → Prop} (hn : Nat.ble nX μ'.1 = true ∧ Nat.ble wX μ'.2.1 = true) (hr : ∀ (r : Int32) (s : jS), Kp ((r, s)) → rv = some (.int r) ∧ μ' = eX s) (o : (Int32 × jS)) (h : f_X10_log σ x1 x2 = some o) (hK : Kp o) : J yX10_log cX10_log 3 (some .int) 3 g rv μ' 0 [(0, .ref 1), (1, .int x1), (2, .int x2)] [] (eX σ) := by
  unfold f_X10_log at h
  refine j_aload_n 0 dX10_log_0 rfl rfl ?_
  refine j_iload_n 1 dX10_log_1 rfl rfl ?_
  replace h := bC_inv h
  obtain ⟨r5, cr5, h⟩ := h
  refine j_callV (ci := 9) (st1 := .int r5 :: _) (c_X10_isPerson g cr5) jy_X10_isPerson ki_yX10_isPerson ks_yX10_isPerson kl_RX10_143 dX10_log_2 rfl (okX_1 _) (shX_1 _) rfl rfl rfl rfl (jbr _) (jbr _) hn.1 hn.2 (Or.inr rfl) rfl ?_
  refine j_if_eq 16 dX10_log_5 (by decide) (fun hc6 => ?_) (fun hc6 => ?_)
  · replace h := jif_t hc6 h
    refine j_sub [] [] rfl ?_
    exact f_X10_log_J16_ok σ hn hr _ h hK
  · replace h := jif_f hc6 h
    refine j_aload_n 0 dX10_log_8 rfl rfl ?_
    refine j_iload_n 2 dX10_log_9 rfl rfl ?_
    replace h := bC_inv h
    obtain ⟨r7, cr7, h⟩ := h
    refine j_callV (ci := 9) (st1 := .int r7 :: _) (c_X10_isPerson g cr7) jy_X10_isPerson ki_yX10_isPerson ks_yX10_isPerson kl_RX10_143 dX10_log_10 rfl (okX_1 _) (shX_1 _) rfl rfl rfl rfl (jbr _) (jbr _) hn.1 hn.2 (Or.inr rfl) rfl ?_
    refine j_if_ne 20 dX10_log_13 (by decide) (fun hc8 => ?_) (fun hc8 => ?_)
    · replace h := jif_f hc8 h
      refine j_aload_n 0 dX10_log_20 rfl rfl ?_
      refine j_get (ci := 9) 4 (.ref 23) jC_9 dX10_log_21 kg_RX10_40 rfl (okX_1 _) (shX_1 _) (fvX_1_4 _) ?_
      refine j_get (ci := 3) 2 (.int (gI σ 23 2)) jC_3 dX10_log_24 kg_RX10_137 rfl (okX_23 _) (shX_23 _) (fvX_23_2 _) ?_
      refine j_bipush (v := 40) dX10_log_27 (by decide) ?_
      refine j_icmp_lt 36 dX10_log_29 (by decide) (fun hc9 => ?_) (fun hc9 => ?_)
      · replace h := jif_t hc9 h
        refine j_aload_n 0 dX10_log_36 rfl rfl ?_
        refine j_get (ci := 9) 4 (.ref 23) jC_9 dX10_log_37 kg_RX10_40 rfl (okX_1 _) (shX_1 _) (fvX_1_4 _) ?_
        refine j_iload_n 1 dX10_log_40 rfl rfl ?_
        refine j_iload_n 2 dX10_log_41 rfl rfl ?_
        replace h := bD_inv h
        obtain ⟨r10, σ11, cr10, h⟩ := h
        refine j_callV (ci := 3) (st1 := _) (c_X3_write g cr10) jy_X3_write ki_yX3_write ks_yX3_write kl_RX10_271 dX10_log_42 rfl (okX_23 _) (shX_23 _) rfl rfl rfl rfl (jbr _) (jbr _) hn.1 hn.2 (Or.inr rfl) rfl ?_
        refine j_aload_n 0 dX10_log_45 rfl rfl ?_
        refine j_get (ci := 9) 4 (.ref 23) jC_9 dX10_log_46 kg_RX10_40 rfl (okX_1 _) (shX_1 _) (fvX_1_4 _) ?_
        refine j_get (ci := 3) 2 (.int (gI σ11 23 2)) jC_3 dX10_log_49 kg_RX10_137 rfl (okX_23 _) (shX_23 _) (fvX_23_2 _) ?_
        replace h := Option.some.inj h
        subst h
        obtain ⟨hr1, hr2⟩ := hr _ _ hK
        exact j_iret dX10_log_52 hr1 hr2
      · replace h := jif_f hc9 h
        refine j_sipush (v := (-1004)) dX10_log_32 (by decide) ?_
        replace h := Option.some.inj h
        subst h
        obtain ⟨hr1, hr2⟩ := hr _ _ hK
        exact j_iret dX10_log_35 hr1 hr2
    · replace h := jif_t hc8 h
      refine j_sub [] [] rfl ?_
      exact f_X10_log_J16_ok σ hn hr _ h hK
theorem c_X10_log (g : Bool) {σ : jS} {x1 : Int32} {x2 : Int32} {r : Int32} {σ2 : jS} (h : f_X10_log σ x1 x2 = some (r, σ2)) : Cn yX10_log cX10_log 3 (some .int) 3 g [.ref 1, .int x1, .int x2] (eX σ) (some (.int r)) (eX σ2) :=
  Cn_of (by decide) (Nat.le_refl _) (Nat.le_refl _) (Nat.le_of_ble_eq_true rfl) (f_X10_log_ok (Kp := (fun o => o = (r, σ2))) σ x1 x2 ⟨jbr _, jbr _⟩ (fun r2 s2 q => by cases q; exact ⟨rfl, rfl⟩) _ h rfl)
def f_X10_clear (σ : jS) : Option (Int32 × jS) :=
  bV ((gI σ 23 2) + (gI σ 23 3)) fun v1 =>
  bD (f_X3_empty σ) fun r2 σ3 =>
  some ((v1, σ3))
set_option maxHeartbeats 1000000 in
set_option maxRecDepth 20000 in
theorem f_X10_clear_ok {g : Bool} {rv : Option Value} {μ' : jM} (σ : jS) {Kp : (Int32 × jS) → Prop} (hn : Nat.ble nX μ'.1 = true ∧ Nat.ble wX μ'.2.1 = true) (hr : ∀ (r : Int32) (s : jS), Kp ((r, s)) → rv = some (.int r) ∧ μ' = eX s) (o : (Int32 × jS)) (h : f_X10_clear σ = some o) (hK : Kp o) : J yX10_clear cX10_clear 2 (some .int) 2 g rv μ' 0 [(0, .ref 1)] [] (eX σ) := by
  unfold f_X10_clear at h
  refine j_aload_n 0 dX10_clear_0 rfl rfl ?_
  refine j_get (ci := 9) 4 (.ref 23) jC_9 dX10_clear_1 kg_RX10_40 rfl (okX_1 _) (shX_1 _) (fvX_1_4 _) ?_
  refine j_get (ci := 3) 2 (.int (gI σ 23 2)) jC_3 dX10_clear_4 kg_RX10_137 rfl (okX_23 _) (shX_23 _) (fvX_23_2 _) ?_
  refine j_aload_n 0 dX10_clear_7 rfl rfl ?_
  refine j_get (ci := 9) 4 (.ref 23) jC_9 dX10_clear_8 kg_RX10_40 rfl (okX_1 _) (shX_1 _) (fvX_1_4 _) ?_
  refine j_get (ci := 3) 3 (.int (gI σ 23 3)) jC_3 dX10_clear_11 kg_RX10_140 rfl (okX_23 _) (shX_23 _) (fvX_23_3 _) ?_
  refine j_iadd dX10_clear_14 ?_
  replace h := bV_inv h
  obtain ⟨v4, ev4, h⟩ := h
  refine j_nmi ev4 ?_
  refine j_istore_n [(1, .int v4), (0, .ref 1)] dX10_clear_15 rfl (Nat.le_of_ble_eq_true rfl) rfl ?_
  refine j_aload_n 1 dX10_clear_16 rfl rfl ?_
  refine j_get (ci := 9) 4 (.ref 23) jC_9 dX10_clear_17 kg_RX10_40 rfl (okX_1 _) (shX_1 _) (fvX_1_4 _) ?_
  replace h := bD_inv h
  obtain ⟨r5, σ6, cr5, h⟩ := h
  refine j_callV (ci := 3) (st1 := _) (c_X3_empty g cr5) jy_X3_empty ki_yX3_empty ks_yX3_empty kl_RX10_111 dX10_clear_20 rfl (okX_23 _) (shX_23 _) rfl rfl rfl rfl (jbr _) (jbr _) hn.1 hn.2 (Or.inr rfl) rfl ?_
  refine j_iload_n 0 dX10_clear_23 rfl rfl ?_
  replace h := Option.some.inj h
  subst h
  obtain ⟨hr1, hr2⟩ := hr _ _ hK
  exact j_iret dX10_clear_24 hr1 hr2
theorem c_X10_clear (g : Bool) {σ : jS} {r : Int32} {σ2 : jS} (h : f_X10_clear σ = some (r, σ2)) : Cn yX10_clear cX10_clear 2 (some .int) 2 g [.ref 1] (eX σ) (some (.int r)) (eX σ2) :=
  Cn_of (by decide) (Nat.le_refl _) (Nat.le_refl _) (Nat.le_of_ble_eq_true rfl) (f_X10_clear_ok (Kp := (fun o => o = (r, σ2))) σ ⟨jbr _, jbr _⟩ (fun r2 s2 q => by cases q; exact ⟨rfl, rfl⟩) _ h rfl)
def f_X0_afterLogged_J56 (σ : jS) : Option Int32 :=
  some ((-1))
set_option maxHeartbeats 1000000 in
set_option maxRecDepth 20000 in
theorem f_X0_afterLogged_J56_ok {g : Bool} {rv : Option Value} {μ' : jM} (σ : jS) {Kp : Int32 → Prop} (hn : Nat.ble nX μ'.1 = true ∧ Nat.ble wX μ'.2.1 = true) (hr : ∀ r : Int32, Kp (r) → rv = some (.int r) ∧ μ' = (eX σ)) (o : Int32) (h : f_X0_afterLogged_J56 σ = some o) (hK : Kp o) : J yX0_afterLogged cX0_afterLogged 5 (some .int) 4 g rv μ' 56 [] [] (eX σ) := by
  unfold f_X0_afterLogged_J56 at h
  refine j_iconst (v := (-1)) dX0_afterLogged_56 (by decide) ?_
  replace h := Option.some.inj h
  subst h
  obtain ⟨hr1, hr2⟩ := hr _ hK
  exact j_iret dX0_afterLogged_57 hr1 hr2
def f_X0_afterLogged_J27 (σ : jS) (x2 : Int32) (x3 : Int32) (y0 : Int32) : Option Int32 :=
  bC (f_X0_holder σ y0 (y0 &&& (1 : Int32))) fun r3 =>
  if r3 = x2 then (bC (f_X0_allowed σ y0) fun r4 =>
  if ((r4 >>> (x3 &&& 31)) &&& (1 : Int32)) = 0 then (f_X0_afterLogged_J56 σ)
  else (bC (f_X0_spotFor σ y0 x3) fun r5 =>
  bC (f_X0_after y0 r5) fun r6 =>
  some (r6)))
  else (f_X0_afterLogged_J56 σ)
set_option maxHeartbeats 1000000 in
set_option maxRecDepth 20000 in
theorem f_X0_afterLogged_J27_ok {g : Bool} {rv : Option Value} {μ' : jM} (σ : jS) (x2 : Int32) (x3 : Int32) (y0 : Int32) {Kp : Int32 → Prop} (hn : Nat.ble nX μ'.1 = true ∧ Nat.ble wX μ'.2.1 = true) (hr : ∀ r : Int32, Kp (r) → rv = some (.int r) ∧ μ' = (eX σ)) (o : Int32) (h : f_X0_afterLogged_J27 σ x2 x3 y0 = some o) (hK : Kp o) : J yX0_afterLogged cX0_afterLogged 5 (some .int) 4 g rv μ' 27 [(0, .ref 4), (2, .int x2), (3, .int x3)] [.int y0] (eX σ) := by
  unfold f_X0_afterLogged_J27 at h
  refine j_istore [(4, .int y0), (0, .ref 4), (2, .int x2), (3, .int x3)] dX0_afterLogged_27 (Nat.le_of_ble_eq_true rfl) rfl ?_
  refine j_aload_n 1 dX0_afterLogged_29 rfl rfl ?_
  refine j_iload 0 dX0_afterLogged_30 rfl ?_
  refine j_iload 0 dX0_afterLogged_32 rfl ?_
  refine j_iconst (v := 1) dX0_afterLogged_34 (by decide) ?_
  refine j_iand dX0_afterLogged_35 ?_
  replace h := bC_inv h
  obtain ⟨r7, cr7, h⟩ := h
  refine j_callV (ci := 0) (st1 := .int r7 :: _) (c_X0_holder g cr7) jy_X0_holder ki_yX0_holder ks_yX0_holder kl_RX0_105 dX0_afterLogged_36 rfl (okX_4 _) (shX_4 _) rfl rfl rfl rfl (jbr _) (jbr _) hn.1 hn.2 (Or.inr rfl) rfl ?_
  refine j_iload_n 2 dX0_afterLogged_39 rfl rfl ?_
  refine j_icmp_ne 56 dX0_afterLogged_40 (by decide) (fun hc8 => ?_) (fun hc8 => ?_)
  · replace h := jif_f hc8 h
    refine j_sub [] [] rfl ?_
    exact f_X0_afterLogged_J56_ok σ hn hr _ h hK
  · replace h := jif_t hc8 h
    refine j_aload_n 1 dX0_afterLogged_43 rfl rfl ?_
    refine j_iload 0 dX0_afterLogged_44 rfl ?_
    replace h := bC_inv h
    obtain ⟨r9, cr9, h⟩ := h
    refine j_callV (ci := 0) (st1 := .int r9 :: _) (c_X0_allowed g cr9) jy_X0_allowed ki_yX0_allowed ks_yX0_allowed kl_RX0_108 dX0_afterLogged_46 rfl (okX_4 _) (shX_4 _) rfl rfl rfl rfl (jbr _) (jbr _) hn.1 hn.2 (Or.inr rfl) rfl ?_
    refine j_iload_n 3 dX0_afterLogged_49 rfl rfl ?_
    refine j_ishr dX0_afterLogged_50 ?_
    refine j_iconst (v := 1) dX0_afterLogged_51 (by decide) ?_
    refine j_iand dX0_afterLogged_52 ?_
    refine j_if_ne 58 dX0_afterLogged_53 (by decide) (fun hc10 => ?_) (fun hc10 => ?_)
    · replace h := jif_f hc10 h
      refine j_aload_n 1 dX0_afterLogged_58 rfl rfl ?_
      refine j_iload 0 dX0_afterLogged_59 rfl ?_
      refine j_aload_n 1 dX0_afterLogged_61 rfl rfl ?_
      refine j_iload 0 dX0_afterLogged_62 rfl ?_
      refine j_iload_n 3 dX0_afterLogged_64 rfl rfl ?_
      replace h := bC_inv h
      obtain ⟨r11, cr11, h⟩ := h
      refine j_callV (ci := 0) (st1 := .int r11 :: _) (c_X0_spotFor g cr11) jy_X0_spotFor ki_yX0_spotFor ks_yX0_spotFor kl_RX0_111 dX0_afterLogged_65 rfl (okX_4 _) (shX_4 _) rfl rfl rfl rfl (jbr _) (jbr _) hn.1 hn.2 (Or.inr rfl) rfl ?_
      replace h := bC_inv h
      obtain ⟨r12, cr12, h⟩ := h
      refine j_callV (ci := 0) (st1 := .int r12 :: _) (c_X0_after g _ cr12) jy_X0_after ki_yX0_after ks_yX0_after kl_RX0_114 dX0_afterLogged_68 rfl (okX_4 _) (shX_4 _) rfl rfl rfl rfl (jbr _) (jbr _) hn.1 hn.2 (Or.inr rfl) rfl ?_
      replace h := Option.some.inj h
      subst h
      obtain ⟨hr1, hr2⟩ := hr _ hK
      exact j_iret dX0_afterLogged_71 hr1 hr2
    · replace h := jif_t hc10 h
      refine j_sub [] [] rfl ?_
      exact f_X0_afterLogged_J56_ok σ hn hr _ h hK
def f_X0_afterLogged (σ : jS) (x1 : Int32) (x2 : Int32) (x3 : Int32) : Option Int32 :=
  bC (f_X0_howIs σ x1) fun r1 =>
  if r1 = 0 then (bC (f_X0_onwardOf σ x1) fun r2 =>
  if (lg_cmp r2 0) = 0 then (f_X0_afterLogged_J27 σ x2 x3 (x1 ^^^ (1 : Int32)))
  else (f_X0_afterLogged_J27 σ x2 x3 x1))
  else (some ((-1)))
set_option maxHeartbeats 1000000 in
set_option maxRecDepth 20000 in
theorem f_X0_afterLogged_ok {g : Bool} {rv : Option Value} {μ' : jM} (σ : jS) (x1 : Int32) (x2 : Int32) (x3 : Int32) {Kp : Int32 → Prop} (hn : Nat.ble nX μ'.1 = true ∧ Nat.ble wX μ'.2.1 = true) (hr : ∀ r : Int32, Kp (r) → rv = some (.int r) ∧ μ' = (eX σ)) (o : Int32) (h : f_X0_afterLogged σ x1 x2 x3 = some o) (hK : Kp o) : J yX0_afterLogged cX0_afterLogged 5 (some .int) 4 g rv μ' 0 [(0, .ref 4), (1, .int x1), (2, .int x2), (3, .int x3)] [] (eX σ) := by
  unfold f_X0_afterLogged at h
  refine j_aload_n 0 dX0_afterLogged_0 rfl rfl ?_
  refine j_iload_n 1 dX0_afterLogged_1 rfl rfl ?_
  replace h := bC_inv h
  obtain ⟨r13, cr13, h⟩ := h
  refine j_callV (ci := 0) (st1 := .int r13 :: _) (c_X0_howIs g cr13) jy_X0_howIs ki_yX0_howIs ks_yX0_howIs kl_RX0_101 dX0_afterLogged_2 rfl (okX_4 _) (shX_4 _) rfl rfl rfl rfl (jbr _) (jbr _) hn.1 hn.2 (Or.inr rfl) rfl ?_
  refine j_if_eq 10 dX0_afterLogged_5 (by decide) (fun hc14 => ?_) (fun hc14 => ?_)
  · replace h := jif_t hc14 h
    refine j_aload_n 0 dX0_afterLogged_10 rfl rfl ?_
    refine j_iload_n 1 dX0_afterLogged_11 rfl rfl ?_
    replace h := bC_inv h
    obtain ⟨r15, cr15, h⟩ := h
    refine j_callV (ci := 0) (st1 := .long r15 :: _) (c_X0_onwardOf g cr15) jy_X0_onwardOf ki_yX0_onwardOf ks_yX0_onwardOf kl_RX0_72 dX0_afterLogged_12 rfl (okX_4 _) (shX_4 _) rfl rfl rfl rfl (jbr _) (jbr _) hn.1 hn.2 (Or.inr rfl) rfl ?_
    refine j_lconst (v := 0) dX0_afterLogged_15 (by decide) ?_
    refine j_lcmp dX0_afterLogged_16 ?_
    refine j_if_ne 26 dX0_afterLogged_17 (by decide) (fun hc16 => ?_) (fun hc16 => ?_)
    · replace h := jif_f hc16 h
      refine j_iload_n 1 dX0_afterLogged_26 rfl rfl ?_
      refine j_sub [(0, .ref 4), (2, .int x2), (3, .int x3)] [0, 2, 3] rfl ?_
      exact f_X0_afterLogged_J27_ok σ x2 x3 x1 hn hr _ h hK
    · replace h := jif_t hc16 h
      refine j_iload_n 1 dX0_afterLogged_20 rfl rfl ?_
      refine j_iconst (v := 1) dX0_afterLogged_21 (by decide) ?_
      refine j_ixor dX0_afterLogged_22 ?_
      refine j_goto 27 dX0_afterLogged_23 (by decide) ?_
      refine j_sub [(0, .ref 4), (2, .int x2), (3, .int x3)] [0, 2, 3] rfl ?_
      exact f_X0_afterLogged_J27_ok σ x2 x3 (x1 ^^^ (1 : Int32)) hn hr _ h hK
  · replace h := jif_f hc14 h
    refine j_iconst (v := (-1)) dX0_afterLogged_8 (by decide) ?_
    replace h := Option.some.inj h
    subst h
    obtain ⟨hr1, hr2⟩ := hr _ hK
    exact j_iret dX0_afterLogged_9 hr1 hr2
theorem c_X0_afterLogged (g : Bool) {σ : jS} {x1 : Int32} {x2 : Int32} {x3 : Int32} {r : Int32} (h : f_X0_afterLogged σ x1 x2 x3 = some r) : Cn yX0_afterLogged cX0_afterLogged 5 (some .int) 4 g [.ref 4, .int x1, .int x2, .int x3] (eX σ) (some (.int r)) (eX σ) :=
  Cn_of (by decide) (Nat.le_refl _) (Nat.le_refl _) (Nat.le_of_ble_eq_true rfl) (f_X0_afterLogged_ok (Kp := (fun o => o = r)) σ x1 x2 x3 ⟨jbr _, jbr _⟩ (fun r2 q => by cases q; exact ⟨rfl, rfl⟩) _ h rfl)
def f_X10_judge_J9 (σ : jS) : Option Int32 :=
  some ((-1002))
set_option maxHeartbeats 1000000 in
set_option maxRecDepth 20000 in
theorem f_X10_judge_J9_ok {g : Bool} {rv : Option Value} {μ' : jM} (σ : jS) {Kp : Int32 → Prop} (hn : Nat.ble nX μ'.1 = true ∧ Nat.ble wX μ'.2.1 = true) (hr : ∀ r : Int32, Kp (r) → rv = some (.int r) ∧ μ' = (eX σ)) (o : Int32) (h : f_X10_judge_J9 σ = some o) (hK : Kp o) : J yX10_judge cX10_judge 6 (some .int) 5 g rv μ' 9 [] [] (eX σ) := by
  unfold f_X10_judge_J9 at h
  refine j_sipush (v := (-1002)) dX10_judge_9 (by decide) ?_
  replace h := Option.some.inj h
  subst h
  obtain ⟨hr1, hr2⟩ := hr _ hK
  exact j_iret dX10_judge_12 hr1 hr2
def f_X10_judge_J154 (σ : jS) (y0 : Int32) : Option Int32 :=
  some (y0)
set_option maxHeartbeats 1000000 in
set_option maxRecDepth 20000 in
theorem f_X10_judge_J154_ok {g : Bool} {rv : Option Value} {μ' : jM} (σ : jS) (y0 : Int32) {Kp : Int32 → Prop} (hn : Nat.ble nX μ'.1 = true ∧ Nat.ble wX μ'.2.1 = true) (hr : ∀ r : Int32, Kp (r) → rv = some (.int r) ∧ μ' = (eX σ)) (o : Int32) (h : f_X10_judge_J154 σ y0 = some o) (hK : Kp o) : J yX10_judge cX10_judge 6 (some .int) 5 g rv μ' 154 [] [.int y0] (eX σ) := by
  unfold f_X10_judge_J154 at h
  replace h := Option.some.inj h
  subst h
  obtain ⟨hr1, hr2⟩ := hr _ hK
  exact j_iret dX10_judge_154 hr1 hr2
def f_X10_judge_J110 (σ : jS) (x1 : Int32) (x2 : Int32) (x3 : Int32) : Option Int32 :=
  if x1 = 0 then (some (x3))
  else (if x1 = 1 then (bC (f_X0_holder σ x2 0) fun r4 =>
  bC (f_X0_holder σ x2 1) fun r5 =>
  f_X10_judge_J154 σ (((100 : Int32) * r4) + r5))
  else (bC (f_X0_howIs σ x2) fun r3 =>
  f_X10_judge_J154 σ r3))
set_option maxHeartbeats 1000000 in
set_option maxRecDepth 20000 in
theorem f_X10_judge_J110_ok {g : Bool} {rv : Option Value} {μ' : jM} (σ : jS) (x1 : Int32) (x2 : Int32) (x3 : Int32) {Kp : Int32 → Prop} (hn : Nat.ble nX μ'.1 = true ∧ Nat.ble wX μ'.2.1 = true) (hr : ∀ r : Int32, Kp (r) → rv = some (.int r) ∧ μ' = (eX σ)) (o : Int32) (h : f_X10_judge_J110 σ x1 x2 x3 = some o) (hK : Kp o) : J yX10_judge cX10_judge 6 (some .int) 5 g rv μ' 110 [(0, .ref 1), (1, .int x1), (2, .int x2), (3, .int x3)] [] (eX σ) := by
  unfold f_X10_judge_J110 at h
  refine j_iload_n 1 dX10_judge_110 rfl rfl ?_
  refine j_if_ne 116 dX10_judge_111 (by decide) (fun hc6 => ?_) (fun hc6 => ?_)
  · replace h := jif_f hc6 h
    refine j_iload_n 1 dX10_judge_116 rfl rfl ?_
    refine j_iconst (v := 1) dX10_judge_117 (by decide) ?_
    refine j_icmp_ne 146 dX10_judge_118 (by decide) (fun hc7 => ?_) (fun hc7 => ?_)
    · replace h := jif_f hc7 h
      refine j_aload_n 0 dX10_judge_146 rfl rfl ?_
      refine j_get (ci := 9) 1 (.ref 4) jC_9 dX10_judge_147 kg_RX10_19 rfl (okX_1 _) (shX_1 _) (fvX_1_1 _) ?_
      refine j_iload_n 2 dX10_judge_150 rfl rfl ?_
      replace h := bC_inv h
      obtain ⟨r8, cr8, h⟩ := h
      refine j_callV (ci := 0) (st1 := .int r8 :: _) (c_X0_howIs g cr8) jy_X0_howIs ki_yX0_howIs ks_yX0_howIs kl_RX10_208 dX10_judge_151 rfl (okX_4 _) (shX_4 _) rfl rfl rfl rfl (jbr _) (jbr _) hn.1 hn.2 (Or.inr rfl) rfl ?_
      refine j_sub [] [] rfl ?_
      exact f_X10_judge_J154_ok σ r8 hn hr _ h hK
    · replace h := jif_t hc7 h
      refine j_bipush (v := 100) dX10_judge_121 (by decide) ?_
      refine j_aload_n 0 dX10_judge_123 rfl rfl ?_
      refine j_get (ci := 9) 1 (.ref 4) jC_9 dX10_judge_124 kg_RX10_19 rfl (okX_1 _) (shX_1 _) (fvX_1_1 _) ?_
      refine j_iload_n 2 dX10_judge_127 rfl rfl ?_
      refine j_iconst (v := 0) dX10_judge_128 (by decide) ?_
      replace h := bC_inv h
      obtain ⟨r9, cr9, h⟩ := h
      refine j_callV (ci := 0) (st1 := .int r9 :: _) (c_X0_holder g cr9) jy_X0_holder ki_yX0_holder ks_yX0_holder kl_RX10_201 dX10_judge_129 rfl (okX_4 _) (shX_4 _) rfl rfl rfl rfl (jbr _) (jbr _) hn.1 hn.2 (Or.inr rfl) rfl ?_
      refine j_imul dX10_judge_132 ?_
      refine j_aload_n 0 dX10_judge_133 rfl rfl ?_
      refine j_get (ci := 9) 1 (.ref 4) jC_9 dX10_judge_134 kg_RX10_19 rfl (okX_1 _) (shX_1 _) (fvX_1_1 _) ?_
      refine j_iload_n 2 dX10_judge_137 rfl rfl ?_
      refine j_iconst (v := 1) dX10_judge_138 (by decide) ?_
      replace h := bC_inv h
      obtain ⟨r10, cr10, h⟩ := h
      refine j_callV (ci := 0) (st1 := .int r10 :: _) (c_X0_holder g cr10) jy_X0_holder ki_yX0_holder ks_yX0_holder kl_RX10_201 dX10_judge_139 rfl (okX_4 _) (shX_4 _) rfl rfl rfl rfl (jbr _) (jbr _) hn.1 hn.2 (Or.inr rfl) rfl ?_
      refine j_iadd dX10_judge_142 ?_
      refine j_goto 154 dX10_judge_143 (by decide) ?_
      refine j_sub [] [] rfl ?_
      exact f_X10_judge_J154_ok σ (((100 : Int32) * r9) + r10) hn hr _ h hK
  · replace h := jif_t hc6 h
    refine j_iload_n 3 dX10_judge_114 rfl rfl ?_
    replace h := Option.some.inj h
    subst h
    obtain ⟨hr1, hr2⟩ := hr _ hK
    exact j_iret dX10_judge_115 hr1 hr2
def f_X10_judge_J104 (σ : jS) (x1 : Int32) (x2 : Int32) (x3 : Int32) (x4 : Int32) : Option ((Int32 × Int32 × Int32) ⊕ Int32) :=
  bV (x4 + 1) fun v14 =>
  some (.inl (x2, x3, v14))
set_option maxHeartbeats 1000000 in
set_option maxRecDepth 20000 in
theorem f_X10_judge_J104_ok {g : Bool} {rv : Option Value} {μ' : jM} (σ : jS) (x1 : Int32) (x2 : Int32) (x3 : Int32) (x4 : Int32) {Kp : ((Int32 × Int32 × Int32) ⊕ Int32) → Prop} (hn : Nat.ble nX μ'.1 = true ∧ Nat.ble wX μ'.2.1 = true) (hr : ∀ r : Int32, Kp (.inr (r)) → rv = some (.int r) ∧ μ' = (eX σ)) (hc0 : ∀ s : (Int32 × Int32 × Int32), Kp (.inl s) → J yX10_judge cX10_judge 6 (some .int) 5 g rv μ' 38 [(0, .ref 1), (1, .int x1), (2, .int s.1), (3, .int s.2.1), (4, .int s.2.2)] [] (eX σ)) (o : ((Int32 × Int32 × Int32) ⊕ Int32)) (h : f_X10_judge_J104 σ x1 x2 x3 x4 = some o) (hK : Kp o) : J yX10_judge cX10_judge 6 (some .int) 5 g rv μ' 104 [(0, .ref 1), (1, .int x1), (2, .int x2), (3, .int x3), (4, .int x4)] [] (eX σ) := by
  unfold f_X10_judge_J104 at h
  replace h := bV_inv h
  obtain ⟨v15, ev15, h⟩ := h
  refine j_iinc (v := v15) [(4, .int v15), (0, .ref 1), (1, .int x1), (2, .int x2), (3, .int x3)] 4 dX10_judge_104 rfl (by rw [ev15]; rfl) (Nat.le_of_ble_eq_true rfl) rfl ?_
  refine j_goto 38 dX10_judge_107 (by decide) ?_
  replace h := Option.some.inj h
  subst h
  refine j_sub [(0, .ref 1), (1, .int x1), (2, .int x2), (3, .int x3), (4, .int v15)] [1, 2, 3, 4, 0] rfl ?_
  exact hc0 _ hK
def f_X10_judge_B38 (σ : jS) (x1 : Int32) (x2 : Int32) (x3 : Int32) (x4 : Int32) : Option ((Int32 × Int32 × Int32) ⊕ Int32) :=
  if (gI σ 23 2) ≤ x4 then (jw (f_X10_judge_J110 σ x1 x2 x3))
  else (if x3 = (-1) then (bC (f_X6_at σ 24 x4) fun r11 =>
  bC (f_X6_at σ 25 x4) fun r12 =>
  bC (f_X0_afterLogged σ x2 r11 r12) fun r13 =>
  if r13 = (-1) then (f_X10_judge_J104 σ x1 x2 x4 x4)
  else (f_X10_judge_J104 σ x1 r13 x3 x4))
  else (jw (f_X10_judge_J110 σ x1 x2 x3)))
set_option maxHeartbeats 1000000 in
set_option maxRecDepth 20000 in
theorem f_X10_judge_B38_ok {g : Bool} {rv : Option Value} {μ' : jM} (σ : jS) (x1 : Int32) (x2 : Int32) (x3 : Int32) (x4 : Int32) {Kp : ((Int32 × Int32 × Int32) ⊕ Int32) → Prop} (hn : Nat.ble nX μ'.1 = true ∧ Nat.ble wX μ'.2.1 = true) (hr : ∀ r : Int32, Kp (.inr (r)) → rv = some (.int r) ∧ μ' = (eX σ)) (hc0 : ∀ s : (Int32 × Int32 × Int32), Kp (.inl s) → J yX10_judge cX10_judge 6 (some .int) 5 g rv μ' 38 [(0, .ref 1), (1, .int x1), (2, .int s.1), (3, .int s.2.1), (4, .int s.2.2)] [] (eX σ)) (o : ((Int32 × Int32 × Int32) ⊕ Int32)) (h : f_X10_judge_B38 σ x1 x2 x3 x4 = some o) (hK : Kp o) : J yX10_judge cX10_judge 6 (some .int) 5 g rv μ' 38 [(0, .ref 1), (1, .int x1), (2, .int x2), (3, .int x3), (4, .int x4)] [] (eX σ) := by
  unfold f_X10_judge_B38 at h
  refine j_iload 4 dX10_judge_38 rfl ?_
  refine j_aload_n 0 dX10_judge_40 rfl rfl ?_
  refine j_get (ci := 9) 4 (.ref 23) jC_9 dX10_judge_41 kg_RX10_40 rfl (okX_1 _) (shX_1 _) (fvX_1_4 _) ?_
  refine j_get (ci := 3) 2 (.int (gI σ 23 2)) jC_3 dX10_judge_44 kg_RX10_137 rfl (okX_23 _) (shX_23 _) (fvX_23_2 _) ?_
  refine j_icmp_ge 110 dX10_judge_47 (by decide) (fun hc16 => ?_) (fun hc16 => ?_)
  · replace h := jif_t hc16 h
    replace h := jw_inv h
    obtain ⟨o17, rfl, h⟩ := h
    refine j_sub [(0, .ref 1), (1, .int x1), (2, .int x2), (3, .int x3)] [0, 1, 2, 3] rfl ?_
    exact f_X10_judge_J110_ok (Kp := fun o => Kp (.inr (o))) σ x1 x2 x3 hn (fun r q => hr r q) _ h hK
  · replace h := jif_f hc16 h
    refine j_iload_n 3 dX10_judge_50 rfl rfl ?_
    refine j_iconst (v := (-1)) dX10_judge_51 (by decide) ?_
    refine j_icmp_ne 110 dX10_judge_52 (by decide) (fun hc18 => ?_) (fun hc18 => ?_)
    · replace h := jif_f hc18 h
      replace h := jw_inv h
      obtain ⟨o19, rfl, h⟩ := h
      refine j_sub [(0, .ref 1), (1, .int x1), (2, .int x2), (3, .int x3)] [0, 1, 2, 3] rfl ?_
      exact f_X10_judge_J110_ok (Kp := fun o => Kp (.inr (o))) σ x1 x2 x3 hn (fun r q => hr r q) _ h hK
    · replace h := jif_t hc18 h
      refine j_aload_n 0 dX10_judge_55 rfl rfl ?_
      refine j_get (ci := 9) 1 (.ref 4) jC_9 dX10_judge_56 kg_RX10_19 rfl (okX_1 _) (shX_1 _) (fvX_1_1 _) ?_
      refine j_iload_n 2 dX10_judge_59 rfl rfl ?_
      refine j_aload_n 0 dX10_judge_60 rfl rfl ?_
      refine j_get (ci := 9) 4 (.ref 23) jC_9 dX10_judge_61 kg_RX10_40 rfl (okX_1 _) (shX_1 _) (fvX_1_4 _) ?_
      refine j_get (ci := 3) 0 (.ref 24) jC_3 dX10_judge_64 kg_RX10_274 rfl (okX_23 _) (shX_23 _) (fvX_23_0 _) ?_
      refine j_iload 4 dX10_judge_67 rfl ?_
      replace h := bC_inv h
      obtain ⟨r20, cr20, h⟩ := h
      refine j_callS (st1 := .int r20 :: _) (c_X6_at g cr20) jy_X6_at kt_yX6_at kl_RX10_150 dX10_judge_69 rfl rfl rfl rfl (jbr _) (jbr _) hn.1 hn.2 (Or.inr rfl) rfl ?_
      refine j_aload_n 0 dX10_judge_72 rfl rfl ?_
      refine j_get (ci := 9) 4 (.ref 23) jC_9 dX10_judge_73 kg_RX10_40 rfl (okX_1 _) (shX_1 _) (fvX_1_4 _) ?_
      refine j_get (ci := 3) 1 (.ref 25) jC_3 dX10_judge_76 kg_RX10_277 rfl (okX_23 _) (shX_23 _) (fvX_23_1 _) ?_
      refine j_iload 4 dX10_judge_79 rfl ?_
      replace h := bC_inv h
      obtain ⟨r21, cr21, h⟩ := h
      refine j_callS (st1 := .int r21 :: _) (c_X6_at g cr21) jy_X6_at kt_yX6_at kl_RX10_150 dX10_judge_81 rfl rfl rfl rfl (jbr _) (jbr _) hn.1 hn.2 (Or.inr rfl) rfl ?_
      replace h := bC_inv h
      obtain ⟨r22, cr22, h⟩ := h
      refine j_callV (ci := 0) (st1 := .int r22 :: _) (c_X0_afterLogged g cr22) jy_X0_afterLogged ki_yX0_afterLogged ks_yX0_afterLogged kl_RX10_280 dX10_judge_84 rfl (okX_4 _) (shX_4 _) rfl rfl rfl rfl (jbr _) (jbr _) hn.1 hn.2 (Or.inr rfl) rfl ?_
      refine j_istore [(5, .int r22), (0, .ref 1), (1, .int x1), (2, .int x2), (3, .int x3), (4, .int x4)] dX10_judge_87 (Nat.le_of_ble_eq_true rfl) rfl ?_
      refine j_iload 0 dX10_judge_89 rfl ?_
      refine j_iconst (v := (-1)) dX10_judge_91 (by decide) ?_
      refine j_icmp_ne 101 dX10_judge_92 (by decide) (fun hc23 => ?_) (fun hc23 => ?_)
      · replace h := jif_f hc23 h
        refine j_iload 0 dX10_judge_101 rfl ?_
        refine j_istore_n [(2, .int r22), (5, .int r22), (0, .ref 1), (1, .int x1), (3, .int x3), (4, .int x4)] dX10_judge_103 rfl (Nat.le_of_ble_eq_true rfl) rfl ?_
        refine j_sub [(0, .ref 1), (1, .int x1), (2, .int r22), (3, .int x3), (4, .int x4)] [2, 3, 0, 4, 5] rfl ?_
        exact f_X10_judge_J104_ok σ x1 r22 x3 x4 hn hr hc0 _ h hK
      · replace h := jif_t hc23 h
        refine j_iload 5 dX10_judge_95 rfl ?_
        refine j_istore_n [(3, .int x4), (5, .int r22), (0, .ref 1), (1, .int x1), (2, .int x2), (4, .int x4)] dX10_judge_97 rfl (Nat.le_of_ble_eq_true rfl) rfl ?_
        refine j_goto 104 dX10_judge_98 (by decide) ?_
        refine j_sub [(0, .ref 1), (1, .int x1), (2, .int x2), (3, .int x4), (4, .int x4)] [2, 3, 4, 0, 5] rfl ?_
        exact f_X10_judge_J104_ok σ x1 x2 x4 x4 hn hr hc0 _ h hK
def f_X10_judge (σ : jS) (x1 : Int32) : Option Int32 :=
  if x1 < 0 then (f_X10_judge_J9 σ)
  else (if x1 ≤ 2 then (bV (σ.2.2.1) fun t1 =>
  bH [51, 61] t1 (
  if (gI σ t1 8) = 0 then (some ((-1003)))
  else (bC (f_X10_toldHow σ 0) fun r2 =>
  jloop jFuel (fun s => f_X10_judge_B38 σ x1 s.1 s.2.1 s.2.2) (r2, (-1), 0))))
  else (f_X10_judge_J9 σ))
set_option maxHeartbeats 1000000 in
set_option maxRecDepth 20000 in
theorem f_X10_judge_ok {g : Bool} {rv : Option Value} {μ' : jM} (σ : jS) (x1 : Int32) {Kp : Int32 → Prop} (hn : Nat.ble nX μ'.1 = true ∧ Nat.ble wX μ'.2.1 = true) (hr : ∀ r : Int32, Kp (r) → rv = some (.int r) ∧ μ' = (eX σ)) (o : Int32) (h : f_X10_judge σ x1 = some o) (hK : Kp o) : J yX10_judge cX10_judge 6 (some .int) 5 g rv μ' 0 [(0, .ref 1), (1, .int x1)] [] (eX σ) := by
  unfold f_X10_judge at h
  refine j_iload_n 1 dX10_judge_0 rfl rfl ?_
  refine j_if_lt 9 dX10_judge_1 (by decide) (fun hc24 => ?_) (fun hc24 => ?_)
  · replace h := jif_t hc24 h
    refine j_sub [] [] rfl ?_
    exact f_X10_judge_J9_ok σ hn hr _ h hK
  · replace h := jif_f hc24 h
    refine j_iload_n 1 dX10_judge_4 rfl rfl ?_
    refine j_iconst (v := 2) dX10_judge_5 (by decide) ?_
    refine j_icmp_le 13 dX10_judge_6 (by decide) (fun hc25 => ?_) (fun hc25 => ?_)
    · replace h := jif_t hc25 h
      refine j_aload_n 0 dX10_judge_13 rfl rfl ?_
      refine j_get (ci := 9) 7 (.ref (σ.2.2.1)) jC_9 dX10_judge_14 kg_RX10_58 rfl (okX_1 _) (shX_1 _) (fvX_1_7 _) ?_
      replace h := bV_inv h
      obtain ⟨t26, et26, h⟩ := h
      refine j_nmr et26 ?_
      replace h := bH_inv h
      obtain ⟨hm27, h⟩ := h
      simp only [List.mem_cons, List.not_mem_nil, or_false] at hm27
      rcases hm27 with rfl | rfl
      · skip
        refine j_get (ci := 7) 8 (.int (gI σ 51 8)) jC_7 dX10_judge_17 kg_RX10_134 rfl (okX_51 _) (shX_51 _) (fvX_51_8 _) ?_
        refine j_if_ne 27 dX10_judge_20 (by decide) (fun hc28 => ?_) (fun hc28 => ?_)
        · replace h := jif_f hc28 h
          refine j_aload_n 0 dX10_judge_27 rfl rfl ?_
          refine j_iconst (v := 0) dX10_judge_28 (by decide) ?_
          replace h := bC_inv h
          obtain ⟨r29, cr29, h⟩ := h
          refine j_callV (ci := 9) (st1 := .int r29 :: _) (c_X10_toldHow g cr29) jy_X10_toldHow ki_yX10_toldHow ks_yX10_toldHow kl_RX10_98 dX10_judge_29 rfl (okX_1 _) (shX_1 _) rfl rfl rfl rfl (jbr _) (jbr _) hn.1 hn.2 (Or.inr rfl) rfl ?_
          refine j_istore_n [(2, .int r29), (0, .ref 1), (1, .int x1)] dX10_judge_32 rfl (Nat.le_of_ble_eq_true rfl) rfl ?_
          refine j_iconst (v := (-1)) dX10_judge_33 (by decide) ?_
          refine j_istore_n [(3, .int (-1)), (2, .int r29), (0, .ref 1), (1, .int x1)] dX10_judge_34 rfl (Nat.le_of_ble_eq_true rfl) rfl ?_
          refine j_iconst (v := 0) dX10_judge_35 (by decide) ?_
          refine j_istore [(4, .int 0), (3, .int (-1)), (2, .int r29), (0, .ref 1), (1, .int x1)] dX10_judge_36 (Nat.le_of_ble_eq_true rfl) rfl ?_
          refine j_sub [(0, .ref 1), (1, .int x1), (2, .int r29), (3, .int (-1)), (4, .int 0)] [3, 4, 2, 1, 0] rfl ?_
          exact jloop_ok (fun s => f_X10_judge_B38 σ x1 s.1 s.2.1 s.2.2) (fun s => J yX10_judge cX10_judge 6 (some .int) 5 g rv μ' 38 [(0, .ref 1), (1, .int x1), (2, .int s.1), (3, .int s.2.1), (4, .int s.2.2)] [] (eX σ)) Kp (fun s o hb hk => f_X10_judge_B38_ok (Kp := jsum (fun s => J yX10_judge cX10_judge 6 (some .int) 5 g rv μ' 38 [(0, .ref 1), (1, .int x1), (2, .int s.1), (3, .int s.2.1), (4, .int s.2.2)] [] (eX σ)) Kp) σ x1 s.1 s.2.1 s.2.2 hn (fun r q => hr r q) (fun s q => q) o hb hk) jFuel _ _ h hK
        · replace h := jif_t hc28 h
          refine j_sipush (v := (-1003)) dX10_judge_23 (by decide) ?_
          replace h := Option.some.inj h
          subst h
          obtain ⟨hr1, hr2⟩ := hr _ hK
          exact j_iret dX10_judge_26 hr1 hr2
      · skip
        refine j_get (ci := 7) 8 (.int (gI σ 61 8)) jC_7 dX10_judge_17 kg_RX10_134 rfl (okX_61 _) (shX_61 _) (fvX_61_8 _) ?_
        refine j_if_ne 27 dX10_judge_20 (by decide) (fun hc30 => ?_) (fun hc30 => ?_)
        · replace h := jif_f hc30 h
          refine j_aload_n 0 dX10_judge_27 rfl rfl ?_
          refine j_iconst (v := 0) dX10_judge_28 (by decide) ?_
          replace h := bC_inv h
          obtain ⟨r31, cr31, h⟩ := h
          refine j_callV (ci := 9) (st1 := .int r31 :: _) (c_X10_toldHow g cr31) jy_X10_toldHow ki_yX10_toldHow ks_yX10_toldHow kl_RX10_98 dX10_judge_29 rfl (okX_1 _) (shX_1 _) rfl rfl rfl rfl (jbr _) (jbr _) hn.1 hn.2 (Or.inr rfl) rfl ?_
          refine j_istore_n [(2, .int r31), (0, .ref 1), (1, .int x1)] dX10_judge_32 rfl (Nat.le_of_ble_eq_true rfl) rfl ?_
          refine j_iconst (v := (-1)) dX10_judge_33 (by decide) ?_
          refine j_istore_n [(3, .int (-1)), (2, .int r31), (0, .ref 1), (1, .int x1)] dX10_judge_34 rfl (Nat.le_of_ble_eq_true rfl) rfl ?_
          refine j_iconst (v := 0) dX10_judge_35 (by decide) ?_
          refine j_istore [(4, .int 0), (3, .int (-1)), (2, .int r31), (0, .ref 1), (1, .int x1)] dX10_judge_36 (Nat.le_of_ble_eq_true rfl) rfl ?_
          refine j_sub [(0, .ref 1), (1, .int x1), (2, .int r31), (3, .int (-1)), (4, .int 0)] [3, 4, 2, 1, 0] rfl ?_
          exact jloop_ok (fun s => f_X10_judge_B38 σ x1 s.1 s.2.1 s.2.2) (fun s => J yX10_judge cX10_judge 6 (some .int) 5 g rv μ' 38 [(0, .ref 1), (1, .int x1), (2, .int s.1), (3, .int s.2.1), (4, .int s.2.2)] [] (eX σ)) Kp (fun s o hb hk => f_X10_judge_B38_ok (Kp := jsum (fun s => J yX10_judge cX10_judge 6 (some .int) 5 g rv μ' 38 [(0, .ref 1), (1, .int x1), (2, .int s.1), (3, .int s.2.1), (4, .int s.2.2)] [] (eX σ)) Kp) σ x1 s.1 s.2.1 s.2.2 hn (fun r q => hr r q) (fun s q => q) o hb hk) jFuel _ _ h hK
        · replace h := jif_t hc30 h
          refine j_sipush (v := (-1003)) dX10_judge_23 (by decide) ?_
          replace h := Option.some.inj h
          subst h
          obtain ⟨hr1, hr2⟩ := hr _ hK
          exact j_iret dX10_judge_26 hr1 hr2
    · replace h := jif_f hc25 h
      refine j_sub [] [] rfl ?_
      exact f_X10_judge_J9_ok σ hn hr _ h hK
theorem c_X10_judge (g : Bool) {σ : jS} {x1 : Int32} {r : Int32} (h : f_X10_judge σ x1 = some r) : Cn yX10_judge cX10_judge 6 (some .int) 5 g [.ref 1, .int x1] (eX σ) (some (.int r)) (eX σ) :=
  Cn_of (by decide) (Nat.le_refl _) (Nat.le_refl _) (Nat.le_of_ble_eq_true rfl) (f_X10_judge_ok (Kp := (fun o => o = r)) σ x1 ⟨jbr _, jbr _⟩ (fun r2 q => by cases q; exact ⟨rfl, rfl⟩) _ h rfl)
def f_X3_see_J19 (σ : jS) : Option (Unit × jS) :=
  some (((), σ))
set_option maxHeartbeats 1000000 in
set_option maxRecDepth 20000 in
theorem f_X3_see_J19_ok {g : Bool} {rv : Option Value} {μ' : jM} (σ : jS) {Kp : (Unit × jS) → Prop} (hn : Nat.ble nX μ'.1 = true ∧ Nat.ble wX μ'.2.1 = true) (hr : ∀ (r : Unit) (s : jS), Kp ((r, s)) → rv = none ∧ μ' = eX s) (o : (Unit × jS)) (h : f_X3_see_J19 σ = some o) (hK : Kp o) : J yX3_see cX3_see 4 none 2 g rv μ' 19 [] [] (eX σ) := by
  unfold f_X3_see_J19 at h
  replace h := Option.some.inj h
  subst h
  obtain ⟨hr1, hr2⟩ := hr _ _ hK
  exact j_vret dX3_see_19 hr1 hr2
def f_X3_see (σ : jS) (x1 : Int32) (x2 : Int32) (x3 : Int32) : Option (Unit × jS) :=
  if (gI σ 23 3) < 0 then (f_X3_see_J19 σ)
  else (if (gI σ 23 3) < (Int32.ofNat 20) then (bD (f_X6_put σ 26 (gI σ 23 3) x1) fun r1 σ2 =>
  bD (f_X6_put σ2 27 (gI σ2 23 3) x2) fun r3 σ4 =>
  bG (jb x3) (
  bG (jin (gI σ4 23 3) 20) (
  bV (sI σ4 28 (ix (gI σ4 23 3)) x3) fun σ5 =>
  bV (sI σ5 23 3 ((gI σ5 23 3) + (1 : Int32))) fun σ6 =>
  some (((), σ6)))))
  else (f_X3_see_J19 σ))
set_option maxHeartbeats 1000000 in
set_option maxRecDepth 20000 in
theorem f_X3_see_ok {g : Bool} {rv : Option Value} {μ' : jM} (σ : jS) (x1 : Int32) (x2 : Int32) (x3 : Int32) {Kp : (Unit × jS) → Prop} (hn : Nat.ble nX μ'.1 = true ∧ Nat.ble wX μ'.2.1 = true) (hr : ∀ (r : Unit) (s : jS), Kp ((r, s)) → rv = none ∧ μ' = eX s) (o : (Unit × jS)) (h : f_X3_see σ x1 x2 x3 = some o) (hK : Kp o) : J yX3_see cX3_see 4 none 2 g rv μ' 0 [(0, .ref 23), (1, .int x1), (2, .int x2), (3, .int x3)] [] (eX σ) := by
  unfold f_X3_see at h
  refine j_aload_n 0 dX3_see_0 rfl rfl ?_
  refine j_get (ci := 3) 3 (.int (gI σ 23 3)) jC_3 dX3_see_1 kg_RX3_32 rfl (okX_23 _) (shX_23 _) (fvX_23_3 _) ?_
  refine j_if_lt 19 dX3_see_4 (by decide) (fun hc7 => ?_) (fun hc7 => ?_)
  · replace h := jif_t hc7 h
    refine j_sub [] [] rfl ?_
    exact f_X3_see_J19_ok σ hn hr _ h hK
  · replace h := jif_f hc7 h
    refine j_aload_n 0 dX3_see_7 rfl rfl ?_
    refine j_get (ci := 3) 3 (.int (gI σ 23 3)) jC_3 dX3_see_8 kg_RX3_32 rfl (okX_23 _) (shX_23 _) (fvX_23_3 _) ?_
    refine j_aload_n 0 dX3_see_11 rfl rfl ?_
    refine j_get (ci := 3) 6 (.ref 28) jC_3 dX3_see_12 kg_RX3_24 rfl (okX_23 _) (shX_23 _) (fvX_23_6 _) ?_
    refine j_alen dX3_see_15 (okX_28 _) (shX_28 _) rfl ?_
    refine j_icmp_lt 20 dX3_see_16 (by decide) (fun hc8 => ?_) (fun hc8 => ?_)
    · replace h := jif_t hc8 h
      refine j_aload_n 0 dX3_see_20 rfl rfl ?_
      refine j_get (ci := 3) 4 (.ref 26) jC_3 dX3_see_21 kg_RX3_18 rfl (okX_23 _) (shX_23 _) (fvX_23_4 _) ?_
      refine j_aload_n 0 dX3_see_24 rfl rfl ?_
      refine j_get (ci := 3) 3 (.int (gI σ 23 3)) jC_3 dX3_see_25 kg_RX3_32 rfl (okX_23 _) (shX_23 _) (fvX_23_3 _) ?_
      refine j_iload_n 1 dX3_see_28 rfl rfl ?_
      replace h := bD_inv h
      obtain ⟨r9, σ10, cr9, h⟩ := h
      refine j_callS (st1 := _) (c_X6_put g cr9) jy_X6_put kt_yX6_put kl_RX3_35 dX3_see_29 rfl rfl rfl rfl (jbr _) (jbr _) hn.1 hn.2 (Or.inr rfl) rfl ?_
      refine j_aload_n 0 dX3_see_32 rfl rfl ?_
      refine j_get (ci := 3) 5 (.ref 27) jC_3 dX3_see_33 kg_RX3_21 rfl (okX_23 _) (shX_23 _) (fvX_23_5 _) ?_
      refine j_aload_n 0 dX3_see_36 rfl rfl ?_
      refine j_get (ci := 3) 3 (.int (gI σ10 23 3)) jC_3 dX3_see_37 kg_RX3_32 rfl (okX_23 _) (shX_23 _) (fvX_23_3 _) ?_
      refine j_iload_n 2 dX3_see_40 rfl rfl ?_
      replace h := bD_inv h
      obtain ⟨r11, σ12, cr11, h⟩ := h
      refine j_callS (st1 := _) (c_X6_put g cr11) jy_X6_put kt_yX6_put kl_RX3_35 dX3_see_41 rfl rfl rfl rfl (jbr _) (jbr _) hn.1 hn.2 (Or.inr rfl) rfl ?_
      refine j_aload_n 0 dX3_see_44 rfl rfl ?_
      refine j_get (ci := 3) 6 (.ref 28) jC_3 dX3_see_45 kg_RX3_24 rfl (okX_23 _) (shX_23 _) (fvX_23_6 _) ?_
      refine j_aload_n 0 dX3_see_48 rfl rfl ?_
      refine j_get (ci := 3) 3 (.int (gI σ12 23 3)) jC_3 dX3_see_49 kg_RX3_32 rfl (okX_23 _) (shX_23 _) (fvX_23_3 _) ?_
      refine j_iload_n 3 dX3_see_52 rfl rfl ?_
      replace h := bG_inv h
      obtain ⟨hb13, h⟩ := h
      replace h := bG_inv h
      obtain ⟨hi14, h⟩ := h
      refine j_bastore dX3_see_53 (okX_28 _) (shX_28 _) (jin_spec hi14) ?_
      rw [jb_vp hb13]
      replace h := bV_inv h
      obtain ⟨σ15, eσ15, h⟩ := h
      refine j_mem (congrArg eX eσ15) ?_
      refine j_aload_n 0 dX3_see_54 rfl rfl ?_
      refine j_dup dX3_see_55 rfl ?_
      refine j_get (ci := 3) 3 (.int (gI σ15 23 3)) jC_3 dX3_see_56 kg_RX3_32 rfl (okX_23 _) (shX_23 _) (fvX_23_3 _) ?_
      refine j_iconst (v := 1) dX3_see_59 (by decide) ?_
      refine j_iadd dX3_see_60 ?_
      replace h := bV_inv h
      obtain ⟨σ16, eσ16, h⟩ := h
      refine j_putI 3 jC_3 dX3_see_61 kg_RX3_32 (Or.inl ff_3_3) rfl fk_3_3 (fn_3_3 _) (okX_23 _) (shX_23 _) ?_
      refine j_mem (congrArg eX eσ16) ?_
      replace h := Option.some.inj h
      subst h
      obtain ⟨hr1, hr2⟩ := hr _ _ hK
      exact j_vret dX3_see_64 hr1 hr2
    · replace h := jif_f hc8 h
      refine j_sub [] [] rfl ?_
      exact f_X3_see_J19_ok σ hn hr _ h hK
theorem c_X3_see (g : Bool) {σ : jS} {x1 : Int32} {x2 : Int32} {x3 : Int32} {r : Unit} {σ2 : jS} (h : f_X3_see σ x1 x2 x3 = some (r, σ2)) : Cn yX3_see cX3_see 4 none 2 g [.ref 23, .int x1, .int x2, .int x3] (eX σ) none (eX σ2) :=
  Cn_of (by decide) (Nat.le_refl _) (Nat.le_refl _) (Nat.le_of_ble_eq_true rfl) (f_X3_see_ok (Kp := (fun o => o = (r, σ2))) σ x1 x2 x3 ⟨jbr _, jbr _⟩ (fun r2 s2 q => by cases q; exact ⟨rfl, rfl⟩) _ h rfl)
def f_X10_seen_J22 (σ : jS) : Option (Int32 × jS) :=
  some (((-1002), σ))
set_option maxHeartbeats 1000000 in
set_option maxRecDepth 20000 in
theorem f_X10_seen_J22_ok {g : Bool} {rv : Option Value} {μ' : jM} (σ : jS) {Kp : (Int32 × jS) → Prop} (hn : Nat.ble nX μ'.1 = true ∧ Nat.ble wX μ'.2.1 = true) (hr : ∀ (r : Int32) (s : jS), Kp ((r, s)) → rv = some (.int r) ∧ μ' = eX s) (o : (Int32 × jS)) (h : f_X10_seen_J22 σ = some o) (hK : Kp o) : J yX10_seen cX10_seen 4 (some .int) 3 g rv μ' 22 [] [] (eX σ) := by
  unfold f_X10_seen_J22 at h
  refine j_sipush (v := (-1002)) dX10_seen_22 (by decide) ?_
  replace h := Option.some.inj h
  subst h
  obtain ⟨hr1, hr2⟩ := hr _ _ hK
  exact j_iret dX10_seen_25 hr1 hr2
def f_X10_seen (σ : jS) (x1 : Int32) (x2 : Int32) (x3 : Int32) : Option (Int32 × jS) :=
  bC (f_X10_isPerson σ x2) fun r1 =>
  if r1 = 0 then (some (((-1001), σ)))
  else (if x1 < 0 then (f_X10_seen_J22 σ)
  else (if x1 ≤ 40 then (if (gI σ 23 3) < 20 then (bD (f_X3_see σ x1 x2 x3) fun r2 σ3 =>
  some ((gI σ3 23 3, σ3)))
  else (some (((-1004), σ))))
  else (f_X10_seen_J22 σ)))
set_option maxHeartbeats 1000000 in
set_option maxRecDepth 20000 in
theorem f_X10_seen_ok {g : Bool} {rv : Option Value} {μ' : jM} (σ : jS) (x1 : Int32) (x2 : Int32) (x3 : Int32) {Kp : (Int32 × jS) → Prop} (hn : Nat.ble nX μ'.1 = true ∧ Nat.ble wX μ'.2.1 = true) (hr : ∀ (r : Int32) (s : jS), Kp ((r, s)) → rv = some (.int r) ∧ μ' = eX s) (o : (Int32 × jS)) (h : f_X10_seen σ x1 x2 x3 = some o) (hK : Kp o) : J yX10_seen cX10_seen 4 (some .int) 3 g rv μ' 0 [(0, .ref 1), (1, .int x1), (2, .int x2), (3, .int x3)] [] (eX σ) := by
  unfold f_X10_seen at h
  refine j_aload_n 0 dX10_seen_0 rfl rfl ?_
  refine j_iload_n 2 dX10_seen_1 rfl rfl ?_
  replace h := bC_inv h
  obtain ⟨r4, cr4, h⟩ := h
  refine j_callV (ci := 9) (st1 := .int r4 :: _) (c_X10_isPerson g cr4) jy_X10_isPerson ki_yX10_isPerson ks_yX10_isPerson kl_RX10_143 dX10_seen_2 rfl (okX_1 _) (shX_1 _) rfl rfl rfl rfl (jbr _) (jbr _) hn.1 hn.2 (Or.inr rfl) rfl ?_
  refine j_if_ne 12 dX10_seen_5 (by decide) (fun hc5 => ?_) (fun hc5 => ?_)
  · replace h := jif_f hc5 h
    refine j_iload_n 1 dX10_seen_12 rfl rfl ?_
    refine j_if_lt 22 dX10_seen_13 (by decide) (fun hc6 => ?_) (fun hc6 => ?_)
    · replace h := jif_t hc6 h
      refine j_sub [] [] rfl ?_
      exact f_X10_seen_J22_ok σ hn hr _ h hK
    · replace h := jif_f hc6 h
      refine j_iload_n 1 dX10_seen_16 rfl rfl ?_
      refine j_bipush (v := 40) dX10_seen_17 (by decide) ?_
      refine j_icmp_le 26 dX10_seen_19 (by decide) (fun hc7 => ?_) (fun hc7 => ?_)
      · replace h := jif_t hc7 h
        refine j_aload_n 0 dX10_seen_26 rfl rfl ?_
        refine j_get (ci := 9) 4 (.ref 23) jC_9 dX10_seen_27 kg_RX10_40 rfl (okX_1 _) (shX_1 _) (fvX_1_4 _) ?_
        refine j_get (ci := 3) 3 (.int (gI σ 23 3)) jC_3 dX10_seen_30 kg_RX10_140 rfl (okX_23 _) (shX_23 _) (fvX_23_3 _) ?_
        refine j_bipush (v := 20) dX10_seen_33 (by decide) ?_
        refine j_icmp_lt 42 dX10_seen_35 (by decide) (fun hc8 => ?_) (fun hc8 => ?_)
        · replace h := jif_t hc8 h
          refine j_aload_n 0 dX10_seen_42 rfl rfl ?_
          refine j_get (ci := 9) 4 (.ref 23) jC_9 dX10_seen_43 kg_RX10_40 rfl (okX_1 _) (shX_1 _) (fvX_1_4 _) ?_
          refine j_iload_n 1 dX10_seen_46 rfl rfl ?_
          refine j_iload_n 2 dX10_seen_47 rfl rfl ?_
          refine j_iload_n 3 dX10_seen_48 rfl rfl ?_
          replace h := bD_inv h
          obtain ⟨r9, σ10, cr9, h⟩ := h
          refine j_callV (ci := 3) (st1 := _) (c_X3_see g cr9) jy_X3_see ki_yX3_see ks_yX3_see kl_RX10_284 dX10_seen_49 rfl (okX_23 _) (shX_23 _) rfl rfl rfl rfl (jbr _) (jbr _) hn.1 hn.2 (Or.inr rfl) rfl ?_
          refine j_aload_n 0 dX10_seen_52 rfl rfl ?_
          refine j_get (ci := 9) 4 (.ref 23) jC_9 dX10_seen_53 kg_RX10_40 rfl (okX_1 _) (shX_1 _) (fvX_1_4 _) ?_
          refine j_get (ci := 3) 3 (.int (gI σ10 23 3)) jC_3 dX10_seen_56 kg_RX10_140 rfl (okX_23 _) (shX_23 _) (fvX_23_3 _) ?_
          replace h := Option.some.inj h
          subst h
          obtain ⟨hr1, hr2⟩ := hr _ _ hK
          exact j_iret dX10_seen_59 hr1 hr2
        · replace h := jif_f hc8 h
          refine j_sipush (v := (-1004)) dX10_seen_38 (by decide) ?_
          replace h := Option.some.inj h
          subst h
          obtain ⟨hr1, hr2⟩ := hr _ _ hK
          exact j_iret dX10_seen_41 hr1 hr2
      · replace h := jif_f hc7 h
        refine j_sub [] [] rfl ?_
        exact f_X10_seen_J22_ok σ hn hr _ h hK
  · replace h := jif_t hc5 h
    refine j_sipush (v := (-1001)) dX10_seen_8 (by decide) ?_
    replace h := Option.some.inj h
    subst h
    obtain ⟨hr1, hr2⟩ := hr _ _ hK
    exact j_iret dX10_seen_11 hr1 hr2
theorem c_X10_seen (g : Bool) {σ : jS} {x1 : Int32} {x2 : Int32} {x3 : Int32} {r : Int32} {σ2 : jS} (h : f_X10_seen σ x1 x2 x3 = some (r, σ2)) : Cn yX10_seen cX10_seen 4 (some .int) 3 g [.ref 1, .int x1, .int x2, .int x3] (eX σ) (some (.int r)) (eX σ2) :=
  Cn_of (by decide) (Nat.le_refl _) (Nat.le_refl _) (Nat.le_of_ble_eq_true rfl) (f_X10_seen_ok (Kp := (fun o => o = (r, σ2))) σ x1 x2 x3 ⟨jbr _, jbr _⟩ (fun r2 s2 q => by cases q; exact ⟨rfl, rfl⟩) _ h rfl)
def f_X3_fits_J84 (σ : jS) : Option Int32 :=
  some (1)
set_option maxHeartbeats 1000000 in
set_option maxRecDepth 20000 in
theorem f_X3_fits_J84_ok {g : Bool} {rv : Option Value} {μ' : jM} (σ : jS) {Kp : Int32 → Prop} (hn : Nat.ble nX μ'.1 = true ∧ Nat.ble wX μ'.2.1 = true) (hr : ∀ r : Int32, Kp (r) → rv = some (.int r) ∧ μ' = (eX σ)) (o : Int32) (h : f_X3_fits_J84 σ = some o) (hK : Kp o) : J yX3_fits cX3_fits 6 (some .boolean) 2 g rv μ' 84 [] [] (eX σ) := by
  unfold f_X3_fits_J84 at h
  refine j_iconst (v := 1) dX3_fits_84 (by decide) ?_
  replace h := Option.some.inj h
  subst h
  obtain ⟨hr1, hr2⟩ := hr _ hK
  exact j_zret rfl dX3_fits_85 hr1 hr2
def f_X3_fits_J78 (σ : jS) (x1 : Int32) (x2 : Int32) (x3 : Int32) (x4 : Int32) : Option ((Int32) ⊕ Int32) :=
  bV (x4 + 1) fun v3 =>
  some (.inl v3)
set_option maxHeartbeats 1000000 in
set_option maxRecDepth 20000 in
theorem f_X3_fits_J78_ok {g : Bool} {rv : Option Value} {μ' : jM} (σ : jS) (x1 : Int32) (x2 : Int32) (x3 : Int32) (x4 : Int32) {Kp : ((Int32) ⊕ Int32) → Prop} (hn : Nat.ble nX μ'.1 = true ∧ Nat.ble wX μ'.2.1 = true) (hr : ∀ r : Int32, Kp (.inr (r)) → rv = some (.int r) ∧ μ' = (eX σ)) (hc0 : ∀ s : (Int32), Kp (.inl s) → J yX3_fits cX3_fits 6 (some .boolean) 2 g rv μ' 3 [(0, .ref 23), (1, .int x1), (2, .int x2), (3, .int x3), (4, .int s)] [] (eX σ)) (o : ((Int32) ⊕ Int32)) (h : f_X3_fits_J78 σ x1 x2 x3 x4 = some o) (hK : Kp o) : J yX3_fits cX3_fits 6 (some .boolean) 2 g rv μ' 78 [(0, .ref 23), (1, .int x1), (2, .int x2), (3, .int x3), (4, .int x4)] [] (eX σ) := by
  unfold f_X3_fits_J78 at h
  replace h := bV_inv h
  obtain ⟨v4, ev4, h⟩ := h
  refine j_iinc (v := v4) [(4, .int v4), (0, .ref 23), (1, .int x1), (2, .int x2), (3, .int x3)] 4 dX3_fits_78 rfl (by rw [ev4]; rfl) (Nat.le_of_ble_eq_true rfl) rfl ?_
  refine j_goto 3 dX3_fits_81 (by decide) ?_
  replace h := Option.some.inj h
  subst h
  refine j_sub [(0, .ref 23), (1, .int x1), (2, .int x2), (3, .int x3), (4, .int v4)] [1, 2, 3, 4, 0] rfl ?_
  exact hc0 _ hK
def f_X3_fits_J76 (σ : jS) : Option Int32 :=
  some (0)
set_option maxHeartbeats 1000000 in
set_option maxRecDepth 20000 in
theorem f_X3_fits_J76_ok {g : Bool} {rv : Option Value} {μ' : jM} (σ : jS) {Kp : Int32 → Prop} (hn : Nat.ble nX μ'.1 = true ∧ Nat.ble wX μ'.2.1 = true) (hr : ∀ r : Int32, Kp (r) → rv = some (.int r) ∧ μ' = (eX σ)) (o : Int32) (h : f_X3_fits_J76 σ = some o) (hK : Kp o) : J yX3_fits cX3_fits 6 (some .boolean) 2 g rv μ' 76 [] [] (eX σ) := by
  unfold f_X3_fits_J76 at h
  refine j_iconst (v := 0) dX3_fits_76 (by decide) ?_
  replace h := Option.some.inj h
  subst h
  obtain ⟨hr1, hr2⟩ := hr _ hK
  exact j_zret rfl dX3_fits_77 hr1 hr2
def f_X3_fits_J66 (σ : jS) (x1 : Int32) (x2 : Int32) (x3 : Int32) (x4 : Int32) (y0 : Int32) : Option ((Int32) ⊕ Int32) :=
  bG (jin x4 20) (
  if y0 = (gI σ 28 (ix x4)) then (f_X3_fits_J78 σ x1 x2 x3 x4)
  else (jw (f_X3_fits_J76 σ)))
set_option maxHeartbeats 1000000 in
set_option maxRecDepth 20000 in
theorem f_X3_fits_J66_ok {g : Bool} {rv : Option Value} {μ' : jM} (σ : jS) (x1 : Int32) (x2 : Int32) (x3 : Int32) (x4 : Int32) (y0 : Int32) {Kp : ((Int32) ⊕ Int32) → Prop} (hn : Nat.ble nX μ'.1 = true ∧ Nat.ble wX μ'.2.1 = true) (hr : ∀ r : Int32, Kp (.inr (r)) → rv = some (.int r) ∧ μ' = (eX σ)) (hc0 : ∀ s : (Int32), Kp (.inl s) → J yX3_fits cX3_fits 6 (some .boolean) 2 g rv μ' 3 [(0, .ref 23), (1, .int x1), (2, .int x2), (3, .int x3), (4, .int s)] [] (eX σ)) (o : ((Int32) ⊕ Int32)) (h : f_X3_fits_J66 σ x1 x2 x3 x4 y0 = some o) (hK : Kp o) : J yX3_fits cX3_fits 6 (some .boolean) 2 g rv μ' 66 [(0, .ref 23), (1, .int x1), (2, .int x2), (3, .int x3), (4, .int x4)] [.int y0] (eX σ) := by
  unfold f_X3_fits_J66 at h
  refine j_aload_n 0 dX3_fits_66 rfl rfl ?_
  refine j_get (ci := 3) 6 (.ref 28) jC_3 dX3_fits_67 kg_RX3_24 rfl (okX_23 _) (shX_23 _) (fvX_23_6 _) ?_
  refine j_iload 4 dX3_fits_70 rfl ?_
  replace h := bG_inv h
  obtain ⟨hi5, h⟩ := h
  refine j_baload dX3_fits_72 (okX_28 _) (shX_28 _) (jin_spec hi5) ?_
  refine j_icmp_eq 78 dX3_fits_73 (by decide) (fun hc6 => ?_) (fun hc6 => ?_)
  · replace h := jif_t hc6 h
    exact f_X3_fits_J78_ok σ x1 x2 x3 x4 hn hr hc0 _ h hK
  · replace h := jif_f hc6 h
    replace h := jw_inv h
    obtain ⟨o7, rfl, h⟩ := h
    refine j_sub [] [] rfl ?_
    exact f_X3_fits_J76_ok (Kp := fun o => Kp (.inr (o))) σ hn (fun r q => hr r q) _ h hK
def f_X3_fits_J61 (σ : jS) (x1 : Int32) (x2 : Int32) (x3 : Int32) (x4 : Int32) : Option ((Int32) ⊕ Int32) :=
  f_X3_fits_J66 σ x1 x2 x3 x4 1
set_option maxHeartbeats 1000000 in
set_option maxRecDepth 20000 in
theorem f_X3_fits_J61_ok {g : Bool} {rv : Option Value} {μ' : jM} (σ : jS) (x1 : Int32) (x2 : Int32) (x3 : Int32) (x4 : Int32) {Kp : ((Int32) ⊕ Int32) → Prop} (hn : Nat.ble nX μ'.1 = true ∧ Nat.ble wX μ'.2.1 = true) (hr : ∀ r : Int32, Kp (.inr (r)) → rv = some (.int r) ∧ μ' = (eX σ)) (hc0 : ∀ s : (Int32), Kp (.inl s) → J yX3_fits cX3_fits 6 (some .boolean) 2 g rv μ' 3 [(0, .ref 23), (1, .int x1), (2, .int x2), (3, .int x3), (4, .int s)] [] (eX σ)) (o : ((Int32) ⊕ Int32)) (h : f_X3_fits_J61 σ x1 x2 x3 x4 = some o) (hK : Kp o) : J yX3_fits cX3_fits 6 (some .boolean) 2 g rv μ' 61 [(0, .ref 23), (1, .int x1), (2, .int x2), (3, .int x3), (4, .int x4)] [] (eX σ) := by
  unfold f_X3_fits_J61 at h
  refine j_iconst (v := 1) dX3_fits_61 (by decide) ?_
  refine j_goto 66 dX3_fits_62 (by decide) ?_
  exact f_X3_fits_J66_ok σ x1 x2 x3 x4 1 hn hr hc0 _ h hK
def f_X3_fits_B3 (σ : jS) (x1 : Int32) (x2 : Int32) (x3 : Int32) (x4 : Int32) : Option ((Int32) ⊕ Int32) :=
  if (gI σ 23 3) ≤ x4 then (jw (f_X3_fits_J84 σ))
  else (if (Int32.ofNat 20) ≤ x4 then (jw (f_X3_fits_J84 σ))
  else (bC (f_X6_at σ 26 x4) fun r1 =>
  if r1 = x1 then (bC (f_X6_at σ 27 x4) fun r2 =>
  if r2 = x2 then (f_X3_fits_J61 σ x1 x2 x3 x4)
  else (if r2 = x3 then (f_X3_fits_J61 σ x1 x2 x3 x4)
  else (f_X3_fits_J66 σ x1 x2 x3 x4 0)))
  else (f_X3_fits_J78 σ x1 x2 x3 x4)))
set_option maxHeartbeats 1000000 in
set_option maxRecDepth 20000 in
theorem f_X3_fits_B3_ok {g : Bool} {rv : Option Value} {μ' : jM} (σ : jS) (x1 : Int32) (x2 : Int32) (x3 : Int32) (x4 : Int32) {Kp : ((Int32) ⊕ Int32) → Prop} (hn : Nat.ble nX μ'.1 = true ∧ Nat.ble wX μ'.2.1 = true) (hr : ∀ r : Int32, Kp (.inr (r)) → rv = some (.int r) ∧ μ' = (eX σ)) (hc0 : ∀ s : (Int32), Kp (.inl s) → J yX3_fits cX3_fits 6 (some .boolean) 2 g rv μ' 3 [(0, .ref 23), (1, .int x1), (2, .int x2), (3, .int x3), (4, .int s)] [] (eX σ)) (o : ((Int32) ⊕ Int32)) (h : f_X3_fits_B3 σ x1 x2 x3 x4 = some o) (hK : Kp o) : J yX3_fits cX3_fits 6 (some .boolean) 2 g rv μ' 3 [(0, .ref 23), (1, .int x1), (2, .int x2), (3, .int x3), (4, .int x4)] [] (eX σ) := by
  unfold f_X3_fits_B3 at h
  refine j_iload 4 dX3_fits_3 rfl ?_
  refine j_aload_n 0 dX3_fits_5 rfl rfl ?_
  refine j_get (ci := 3) 3 (.int (gI σ 23 3)) jC_3 dX3_fits_6 kg_RX3_32 rfl (okX_23 _) (shX_23 _) (fvX_23_3 _) ?_
  refine j_icmp_ge 84 dX3_fits_9 (by decide) (fun hc8 => ?_) (fun hc8 => ?_)
  · replace h := jif_t hc8 h
    replace h := jw_inv h
    obtain ⟨o9, rfl, h⟩ := h
    refine j_sub [] [] rfl ?_
    exact f_X3_fits_J84_ok (Kp := fun o => Kp (.inr (o))) σ hn (fun r q => hr r q) _ h hK
  · replace h := jif_f hc8 h
    refine j_iload 4 dX3_fits_12 rfl ?_
    refine j_aload_n 0 dX3_fits_14 rfl rfl ?_
    refine j_get (ci := 3) 6 (.ref 28) jC_3 dX3_fits_15 kg_RX3_24 rfl (okX_23 _) (shX_23 _) (fvX_23_6 _) ?_
    refine j_alen dX3_fits_18 (okX_28 _) (shX_28 _) rfl ?_
    refine j_icmp_ge 84 dX3_fits_19 (by decide) (fun hc10 => ?_) (fun hc10 => ?_)
    · replace h := jif_t hc10 h
      replace h := jw_inv h
      obtain ⟨o11, rfl, h⟩ := h
      refine j_sub [] [] rfl ?_
      exact f_X3_fits_J84_ok (Kp := fun o => Kp (.inr (o))) σ hn (fun r q => hr r q) _ h hK
    · replace h := jif_f hc10 h
      refine j_aload_n 0 dX3_fits_22 rfl rfl ?_
      refine j_get (ci := 3) 4 (.ref 26) jC_3 dX3_fits_23 kg_RX3_18 rfl (okX_23 _) (shX_23 _) (fvX_23_4 _) ?_
      refine j_iload 4 dX3_fits_26 rfl ?_
      replace h := bC_inv h
      obtain ⟨r12, cr12, h⟩ := h
      refine j_callS (st1 := .int r12 :: _) (c_X6_at g cr12) jy_X6_at kt_yX6_at kl_RX3_41 dX3_fits_28 rfl rfl rfl rfl (jbr _) (jbr _) hn.1 hn.2 (Or.inr rfl) rfl ?_
      refine j_iload_n 1 dX3_fits_31 rfl rfl ?_
      refine j_icmp_eq 38 dX3_fits_32 (by decide) (fun hc13 => ?_) (fun hc13 => ?_)
      · replace h := jif_t hc13 h
        refine j_aload_n 0 dX3_fits_38 rfl rfl ?_
        refine j_get (ci := 3) 5 (.ref 27) jC_3 dX3_fits_39 kg_RX3_21 rfl (okX_23 _) (shX_23 _) (fvX_23_5 _) ?_
        refine j_iload 4 dX3_fits_42 rfl ?_
        replace h := bC_inv h
        obtain ⟨r14, cr14, h⟩ := h
        refine j_callS (st1 := .int r14 :: _) (c_X6_at g cr14) jy_X6_at kt_yX6_at kl_RX3_41 dX3_fits_44 rfl rfl rfl rfl (jbr _) (jbr _) hn.1 hn.2 (Or.inr rfl) rfl ?_
        refine j_istore [(5, .int r14), (0, .ref 23), (1, .int x1), (2, .int x2), (3, .int x3), (4, .int x4)] dX3_fits_47 (Nat.le_of_ble_eq_true rfl) rfl ?_
        refine j_iload 0 dX3_fits_49 rfl ?_
        refine j_iload_n 3 dX3_fits_51 rfl rfl ?_
        refine j_icmp_eq 61 dX3_fits_52 (by decide) (fun hc15 => ?_) (fun hc15 => ?_)
        · replace h := jif_t hc15 h
          refine j_sub [(0, .ref 23), (1, .int x1), (2, .int x2), (3, .int x3), (4, .int x4)] [1, 2, 3, 4, 5] rfl ?_
          exact f_X3_fits_J61_ok σ x1 x2 x3 x4 hn hr hc0 _ h hK
        · replace h := jif_f hc15 h
          refine j_iload 0 dX3_fits_55 rfl ?_
          refine j_iload_n 4 dX3_fits_57 rfl rfl ?_
          refine j_icmp_ne 65 dX3_fits_58 (by decide) (fun hc16 => ?_) (fun hc16 => ?_)
          · replace h := jif_f hc16 h
            refine j_iconst (v := 0) dX3_fits_65 (by decide) ?_
            refine j_sub [(0, .ref 23), (1, .int x1), (2, .int x2), (3, .int x3), (4, .int x4)] [1, 2, 3, 4, 5] rfl ?_
            exact f_X3_fits_J66_ok σ x1 x2 x3 x4 0 hn hr hc0 _ h hK
          · replace h := jif_t hc16 h
            refine j_sub [(0, .ref 23), (1, .int x1), (2, .int x2), (3, .int x3), (4, .int x4)] [1, 2, 3, 4, 5] rfl ?_
            exact f_X3_fits_J61_ok σ x1 x2 x3 x4 hn hr hc0 _ h hK
      · replace h := jif_f hc13 h
        refine j_goto 78 dX3_fits_35 (by decide) ?_
        exact f_X3_fits_J78_ok σ x1 x2 x3 x4 hn hr hc0 _ h hK
def f_X3_fits (σ : jS) (x1 : Int32) (x2 : Int32) (x3 : Int32) : Option Int32 :=
  jloop jFuel (fun s => f_X3_fits_B3 σ x1 x2 x3 s) 0
set_option maxHeartbeats 1000000 in
set_option maxRecDepth 20000 in
theorem f_X3_fits_ok {g : Bool} {rv : Option Value} {μ' : jM} (σ : jS) (x1 : Int32) (x2 : Int32) (x3 : Int32) {Kp : Int32 → Prop} (hn : Nat.ble nX μ'.1 = true ∧ Nat.ble wX μ'.2.1 = true) (hr : ∀ r : Int32, Kp (r) → rv = some (.int r) ∧ μ' = (eX σ)) (o : Int32) (h : f_X3_fits σ x1 x2 x3 = some o) (hK : Kp o) : J yX3_fits cX3_fits 6 (some .boolean) 2 g rv μ' 0 [(0, .ref 23), (1, .int x1), (2, .int x2), (3, .int x3)] [] (eX σ) := by
  unfold f_X3_fits at h
  refine j_iconst (v := 0) dX3_fits_0 (by decide) ?_
  refine j_istore [(4, .int 0), (0, .ref 23), (1, .int x1), (2, .int x2), (3, .int x3)] dX3_fits_1 (Nat.le_of_ble_eq_true rfl) rfl ?_
  refine j_sub [(0, .ref 23), (1, .int x1), (2, .int x2), (3, .int x3), (4, .int 0)] [1, 2, 3, 4, 0] rfl ?_
  exact jloop_ok (fun s => f_X3_fits_B3 σ x1 x2 x3 s) (fun s => J yX3_fits cX3_fits 6 (some .boolean) 2 g rv μ' 3 [(0, .ref 23), (1, .int x1), (2, .int x2), (3, .int x3), (4, .int s)] [] (eX σ)) Kp (fun s o hb hk => f_X3_fits_B3_ok (Kp := jsum (fun s => J yX3_fits cX3_fits 6 (some .boolean) 2 g rv μ' 3 [(0, .ref 23), (1, .int x1), (2, .int x2), (3, .int x3), (4, .int s)] [] (eX σ)) Kp) σ x1 x2 x3 s hn (fun r q => hr r q) (fun s q => q) o hb hk) jFuel _ _ h hK
theorem c_X3_fits (g : Bool) {σ : jS} {x1 : Int32} {x2 : Int32} {x3 : Int32} {r : Int32} (h : f_X3_fits σ x1 x2 x3 = some r) : Cn yX3_fits cX3_fits 6 (some .boolean) 2 g [.ref 23, .int x1, .int x2, .int x3] (eX σ) (some (.int r)) (eX σ) :=
  Cn_of (by decide) (Nat.le_refl _) (Nat.le_refl _) (Nat.le_of_ble_eq_true rfl) (f_X3_fits_ok (Kp := (fun o => o = r)) σ x1 x2 x3 ⟨jbr _, jbr _⟩ (fun r2 q => by cases q; exact ⟨rfl, rfl⟩) _ h rfl)
def f_X0_putIfFits_J40 (σ : jS) (x2 : Int32) : Option (Int32 × jS) :=
  some ((x2, σ))
set_option maxHeartbeats 1000000 in
set_option maxRecDepth 20000 in
theorem f_X0_putIfFits_J40_ok {g : Bool} {rv : Option Value} {μ' : jM} (σ : jS) (x2 : Int32) {Kp : (Int32 × jS) → Prop} (hn : Nat.ble nX μ'.1 = true ∧ Nat.ble wX μ'.2.1 = true) (hr : ∀ (r : Int32) (s : jS), Kp ((r, s)) → rv = some (.int r) ∧ μ' = eX s) (o : (Int32 × jS)) (h : f_X0_putIfFits_J40 σ x2 = some o) (hK : Kp o) : J yX0_putIfFits cX0_putIfFits 6 (some .int) 3 g rv μ' 40 [(2, .int x2)] [] (eX σ) := by
  unfold f_X0_putIfFits_J40 at h
  refine j_iload_n 0 dX0_putIfFits_40 rfl rfl ?_
  replace h := Option.some.inj h
  subst h
  obtain ⟨hr1, hr2⟩ := hr _ _ hK
  exact j_iret dX0_putIfFits_41 hr1 hr2
def f_X0_putIfFits (σ : jS) (x1 : Nat) (x2 : Int32) (x3 : Int32) (x4 : Int32) : Option (Int32 × jS) :=
  bC (f_X6_at σ 15 x3) fun r1 =>
  if r1 = ((gI σ 4 10) + x4) then (f_X0_putIfFits_J40 σ x2)
  else (bC (f_X0_holder σ x3 0) fun r2 =>
  bC (f_X0_holder σ x3 1) fun r3 =>
  bC (f_X3_fits σ x4 r2 r3) fun r4 =>
  if r4 = 0 then (f_X0_putIfFits_J40 σ x2)
  else (bD (f_X6_put σ 15 x3 ((gI σ 4 10) + x4)) fun r5 σ6 =>
  bD (f_X6_put σ6 x1 x2 x3) fun r7 σ8 =>
  some ((x2 + (1 : Int32), σ8))))
set_option maxHeartbeats 1000000 in
set_option maxRecDepth 20000 in
theorem f_X0_putIfFits_ok {g : Bool} {rv : Option Value} {μ' : jM} (σ : jS) (x1 : Nat) (x2 : Int32) (x3 : Int32) (x4 : Int32) {Kp : (Int32 × jS) → Prop} (hn : Nat.ble nX μ'.1 = true ∧ Nat.ble wX μ'.2.1 = true) (hr : ∀ (r : Int32) (s : jS), Kp ((r, s)) → rv = some (.int r) ∧ μ' = eX s) (o : (Int32 × jS)) (h : f_X0_putIfFits σ x1 x2 x3 x4 = some o) (hK : Kp o) : J yX0_putIfFits cX0_putIfFits 6 (some .int) 3 g rv μ' 0 [(0, .ref 4), (1, .ref x1), (2, .int x2), (3, .int x3), (4, .int x4), (5, .ref 23)] [] (eX σ) := by
  unfold f_X0_putIfFits at h
  refine j_aload_n 0 dX0_putIfFits_0 rfl rfl ?_
  refine j_get (ci := 0) 8 (.ref 15) jC_0 dX0_putIfFits_1 kg_RX0_31 rfl (okX_4 _) (shX_4 _) (fvX_4_8 _) ?_
  refine j_iload_n 3 dX0_putIfFits_4 rfl rfl ?_
  replace h := bC_inv h
  obtain ⟨r9, cr9, h⟩ := h
  refine j_callS (st1 := .int r9 :: _) (c_X6_at g cr9) jy_X6_at kt_yX6_at kl_RX0_61 dX0_putIfFits_5 rfl rfl rfl rfl (jbr _) (jbr _) hn.1 hn.2 (Or.inr rfl) rfl ?_
  refine j_aload_n 0 dX0_putIfFits_8 rfl rfl ?_
  refine j_get (ci := 0) 10 (.int (gI σ 4 10)) jC_0 dX0_putIfFits_9 kg_RX0_194 rfl (okX_4 _) (shX_4 _) (fvX_4_10 _) ?_
  refine j_iload 4 dX0_putIfFits_12 rfl ?_
  refine j_iadd dX0_putIfFits_14 ?_
  refine j_icmp_eq 40 dX0_putIfFits_15 (by decide) (fun hc10 => ?_) (fun hc10 => ?_)
  · replace h := jif_t hc10 h
    refine j_sub [(2, .int x2)] [2] rfl ?_
    exact f_X0_putIfFits_J40_ok σ x2 hn hr _ h hK
  · replace h := jif_f hc10 h
    refine j_aload 5 dX0_putIfFits_18 rfl ?_
    refine j_iload 4 dX0_putIfFits_20 rfl ?_
    refine j_aload_n 0 dX0_putIfFits_22 rfl rfl ?_
    refine j_iload_n 3 dX0_putIfFits_23 rfl rfl ?_
    refine j_iconst (v := 0) dX0_putIfFits_24 (by decide) ?_
    replace h := bC_inv h
    obtain ⟨r11, cr11, h⟩ := h
    refine j_callV (ci := 0) (st1 := .int r11 :: _) (c_X0_holder g cr11) jy_X0_holder ki_yX0_holder ks_yX0_holder kl_RX0_105 dX0_putIfFits_25 rfl (okX_4 _) (shX_4 _) rfl rfl rfl rfl (jbr _) (jbr _) hn.1 hn.2 (Or.inr rfl) rfl ?_
    refine j_aload_n 0 dX0_putIfFits_28 rfl rfl ?_
    refine j_iload_n 3 dX0_putIfFits_29 rfl rfl ?_
    refine j_iconst (v := 1) dX0_putIfFits_30 (by decide) ?_
    replace h := bC_inv h
    obtain ⟨r12, cr12, h⟩ := h
    refine j_callV (ci := 0) (st1 := .int r12 :: _) (c_X0_holder g cr12) jy_X0_holder ki_yX0_holder ks_yX0_holder kl_RX0_105 dX0_putIfFits_31 rfl (okX_4 _) (shX_4 _) rfl rfl rfl rfl (jbr _) (jbr _) hn.1 hn.2 (Or.inr rfl) rfl ?_
    replace h := bC_inv h
    obtain ⟨r13, cr13, h⟩ := h
    refine j_callV (ci := 3) (st1 := .int r13 :: _) (c_X3_fits g cr13) jy_X3_fits ki_yX3_fits ks_yX3_fits kl_RX0_204 dX0_putIfFits_34 rfl (okX_23 _) (shX_23 _) rfl rfl rfl rfl (jbr _) (jbr _) hn.1 hn.2 (Or.inr rfl) rfl ?_
    refine j_if_ne 42 dX0_putIfFits_37 (by decide) (fun hc14 => ?_) (fun hc14 => ?_)
    · replace h := jif_f hc14 h
      refine j_aload_n 0 dX0_putIfFits_42 rfl rfl ?_
      refine j_get (ci := 0) 8 (.ref 15) jC_0 dX0_putIfFits_43 kg_RX0_31 rfl (okX_4 _) (shX_4 _) (fvX_4_8 _) ?_
      refine j_iload_n 3 dX0_putIfFits_46 rfl rfl ?_
      refine j_aload_n 0 dX0_putIfFits_47 rfl rfl ?_
      refine j_get (ci := 0) 10 (.int (gI σ 4 10)) jC_0 dX0_putIfFits_48 kg_RX0_194 rfl (okX_4 _) (shX_4 _) (fvX_4_10 _) ?_
      refine j_iload 4 dX0_putIfFits_51 rfl ?_
      refine j_iadd dX0_putIfFits_53 ?_
      replace h := bD_inv h
      obtain ⟨r15, σ16, cr15, h⟩ := h
      refine j_callS (st1 := _) (c_X6_put g cr15) jy_X6_put kt_yX6_put kl_RX0_146 dX0_putIfFits_54 rfl rfl rfl rfl (jbr _) (jbr _) hn.1 hn.2 (Or.inr rfl) rfl ?_
      refine j_aload_n 1 dX0_putIfFits_57 rfl rfl ?_
      refine j_iload_n 2 dX0_putIfFits_58 rfl rfl ?_
      refine j_iload_n 3 dX0_putIfFits_59 rfl rfl ?_
      replace h := bD_inv h
      obtain ⟨r17, σ18, cr17, h⟩ := h
      refine j_callS (st1 := _) (c_X6_put g cr17) jy_X6_put kt_yX6_put kl_RX0_146 dX0_putIfFits_60 rfl rfl rfl rfl (jbr _) (jbr _) hn.1 hn.2 (Or.inr rfl) rfl ?_
      refine j_iload_n 2 dX0_putIfFits_63 rfl rfl ?_
      refine j_iconst (v := 1) dX0_putIfFits_64 (by decide) ?_
      refine j_iadd dX0_putIfFits_65 ?_
      replace h := Option.some.inj h
      subst h
      obtain ⟨hr1, hr2⟩ := hr _ _ hK
      exact j_iret dX0_putIfFits_66 hr1 hr2
    · replace h := jif_t hc14 h
      refine j_sub [(2, .int x2)] [2] rfl ?_
      exact f_X0_putIfFits_J40_ok σ x2 hn hr _ h hK
theorem c_X0_putIfFits (g : Bool) {σ : jS} {x1 : Nat} {x2 : Int32} {x3 : Int32} {x4 : Int32} {r : Int32} {σ2 : jS} (h : f_X0_putIfFits σ x1 x2 x3 x4 = some (r, σ2)) : Cn yX0_putIfFits cX0_putIfFits 6 (some .int) 3 g [.ref 4, .ref x1, .int x2, .int x3, .int x4, .ref 23] (eX σ) (some (.int r)) (eX σ2) :=
  Cn_of (by decide) (Nat.le_refl _) (Nat.le_refl _) (Nat.le_of_ble_eq_true rfl) (f_X0_putIfFits_ok (Kp := (fun o => o = (r, σ2))) σ x1 x2 x3 x4 ⟨jbr _, jbr _⟩ (fun r2 s2 q => by cases q; exact ⟨rfl, rfl⟩) _ h rfl)
def f_X0_putOnward_J101 (σ : jS) (x8 : Int32) : Option (Int32 × jS) :=
  some ((x8, σ))
set_option maxHeartbeats 1000000 in
set_option maxRecDepth 20000 in
theorem f_X0_putOnward_J101_ok {g : Bool} {rv : Option Value} {μ' : jM} (σ : jS) (x8 : Int32) {Kp : (Int32 × jS) → Prop} (hn : Nat.ble nX μ'.1 = true ∧ Nat.ble wX μ'.2.1 = true) (hr : ∀ (r : Int32) (s : jS), Kp ((r, s)) → rv = some (.int r) ∧ μ' = eX s) (o : (Int32 × jS)) (h : f_X0_putOnward_J101 σ x8 = some o) (hK : Kp o) : J yX0_putOnward cX0_putOnward 10 (some .int) 4 g rv μ' 101 [(8, .int x8)] [] (eX σ) := by
  unfold f_X0_putOnward_J101 at h
  refine j_iload 0 dX0_putOnward_101 rfl ?_
  replace h := Option.some.inj h
  subst h
  obtain ⟨hr1, hr2⟩ := hr _ _ hK
  exact j_iret dX0_putOnward_103 hr1 hr2
def f_X0_putOnward_B58 (σ : jS) (x1 : Nat) (x3 : Int32) (x4 : Int32) (x6 : Int64) (x8 : Int32) (x9 : Int32) : Option ((Int64 × Int32 × Int32 × jS) ⊕ (Int32 × jS)) :=
  if x9 ≤ 0 then (jw (f_X0_putOnward_J101 σ x8))
  else (bC (f_X6_lowest x6) fun r4 =>
  bC (f_X0_after x3 r4) fun r5 =>
  bD (f_X0_putIfFits σ x1 x8 r5 x4) fun r6 σ7 =>
  bV (x6 &&& (x6 - (1 : Int64))) fun v8 =>
  bV (x9 + (-1)) fun v9 =>
  some (.inl (v8, r6, v9, σ7)))
set_option maxHeartbeats 1000000 in
set_option maxRecDepth 20000 in
theorem f_X0_putOnward_B58_ok {g : Bool} {rv : Option Value} {μ' : jM} (σ : jS) (x1 : Nat) (x3 : Int32) (x4 : Int32) (x6 : Int64) (x8 : Int32) (x9 : Int32) {Kp : ((Int64 × Int32 × Int32 × jS) ⊕ (Int32 × jS)) → Prop} (hn : Nat.ble nX μ'.1 = true ∧ Nat.ble wX μ'.2.1 = true) (hr : ∀ (r : Int32) (s : jS), Kp (.inr ((r, s))) → rv = some (.int r) ∧ μ' = eX s) (hc0 : ∀ s : (Int64 × Int32 × Int32 × jS), Kp (.inl s) → J yX0_putOnward cX0_putOnward 10 (some .int) 4 g rv μ' 58 [(0, .ref 4), (1, .ref x1), (3, .int x3), (4, .int x4), (5, .ref 23), (6, .long s.1), (8, .int s.2.1), (9, .int s.2.2.1)] [] (eX s.2.2.2)) (o : ((Int64 × Int32 × Int32 × jS) ⊕ (Int32 × jS))) (h : f_X0_putOnward_B58 σ x1 x3 x4 x6 x8 x9 = some o) (hK : Kp o) : J yX0_putOnward cX0_putOnward 10 (some .int) 4 g rv μ' 58 [(0, .ref 4), (1, .ref x1), (3, .int x3), (4, .int x4), (5, .ref 23), (6, .long x6), (8, .int x8), (9, .int x9)] [] (eX σ) := by
  unfold f_X0_putOnward_B58 at h
  refine j_iload 7 dX0_putOnward_58 rfl ?_
  refine j_if_le 101 dX0_putOnward_60 (by decide) (fun hc10 => ?_) (fun hc10 => ?_)
  · replace h := jif_t hc10 h
    replace h := jw_inv h
    obtain ⟨o11, rfl, h⟩ := h
    refine j_sub [(8, .int x8)] [6] rfl ?_
    exact f_X0_putOnward_J101_ok (Kp := fun o => Kp (.inr (o))) σ x8 hn (fun r s q => hr r s q) _ h hK
  · replace h := jif_f hc10 h
    refine j_aload_n 0 dX0_putOnward_63 rfl rfl ?_
    refine j_aload_n 1 dX0_putOnward_64 rfl rfl ?_
    refine j_iload 6 dX0_putOnward_65 rfl ?_
    refine j_aload_n 0 dX0_putOnward_67 rfl rfl ?_
    refine j_iload_n 2 dX0_putOnward_68 rfl rfl ?_
    refine j_lload 5 dX0_putOnward_69 rfl ?_
    replace h := bC_inv h
    obtain ⟨r12, cr12, h⟩ := h
    refine j_callS (st1 := .int r12 :: _) (c_X6_lowest g _ cr12) jy_X6_lowest kt_yX6_lowest kl_RX0_98 dX0_putOnward_71 rfl rfl rfl rfl (jbr _) (jbr _) hn.1 hn.2 (Or.inr rfl) rfl ?_
    replace h := bC_inv h
    obtain ⟨r13, cr13, h⟩ := h
    refine j_callV (ci := 0) (st1 := .int r13 :: _) (c_X0_after g _ cr13) jy_X0_after ki_yX0_after ks_yX0_after kl_RX0_114 dX0_putOnward_74 rfl (okX_4 _) (shX_4 _) rfl rfl rfl rfl (jbr _) (jbr _) hn.1 hn.2 (Or.inr rfl) rfl ?_
    refine j_iload 3 dX0_putOnward_77 rfl ?_
    refine j_aload 4 dX0_putOnward_79 rfl ?_
    replace h := bD_inv h
    obtain ⟨r14, σ15, cr14, h⟩ := h
    refine j_callV (ci := 0) (st1 := .int r14 :: _) (c_X0_putIfFits g cr14) jy_X0_putIfFits ki_yX0_putIfFits ks_yX0_putIfFits kl_RX0_197 dX0_putOnward_81 rfl (okX_4 _) (shX_4 _) rfl rfl rfl rfl (jbr _) (jbr _) hn.1 hn.2 (Or.inr rfl) rfl ?_
    refine j_istore [(8, .int r14), (0, .ref 4), (1, .ref x1), (3, .int x3), (4, .int x4), (5, .ref 23), (6, .long x6), (9, .int x9)] dX0_putOnward_84 (Nat.le_of_ble_eq_true rfl) rfl ?_
    refine j_lload 6 dX0_putOnward_86 rfl ?_
    refine j_lload 6 dX0_putOnward_88 rfl ?_
    refine j_lconst (v := 1) dX0_putOnward_90 (by decide) ?_
    refine j_lsub dX0_putOnward_91 ?_
    refine j_land dX0_putOnward_92 ?_
    replace h := bV_inv h
    obtain ⟨v16, ev16, h⟩ := h
    refine j_nml ev16 ?_
    refine j_lstore [(6, .long v16), (8, .int r14), (0, .ref 4), (1, .ref x1), (3, .int x3), (4, .int x4), (5, .ref 23), (9, .int x9)] dX0_putOnward_93 (Nat.le_of_ble_eq_true rfl) rfl ?_
    replace h := bV_inv h
    obtain ⟨v17, ev17, h⟩ := h
    refine j_iinc (v := v17) [(9, .int v17), (6, .long v16), (8, .int r14), (0, .ref 4), (1, .ref x1), (3, .int x3), (4, .int x4), (5, .ref 23)] 7 dX0_putOnward_95 rfl (by rw [ev17]; rfl) (Nat.le_of_ble_eq_true rfl) rfl ?_
    refine j_goto 58 dX0_putOnward_98 (by decide) ?_
    replace h := Option.some.inj h
    subst h
    refine j_sub [(0, .ref 4), (1, .ref x1), (3, .int x3), (4, .int x4), (5, .ref 23), (6, .long v16), (8, .int r14), (9, .int v17)] [3, 4, 5, 6, 7, 1, 2, 0] rfl ?_
    exact hc0 _ hK
def f_X0_putOnward (σ : jS) (x1 : Nat) (x2 : Int32) (x3 : Int32) (x4 : Int32) : Option (Int32 × jS) :=
  bC (f_X0_howIs σ x3) fun r1 =>
  if r1 = 0 then (bC (f_X0_onwardOf σ x3) fun r2 =>
  if (lg_cmp r2 0) = 0 then (bD (f_X0_putIfFits σ x1 x2 (x3 ^^^ (1 : Int32)) x4) fun r18 σ19 =>
  some ((r18, σ19)))
  else (bC (f_J13_bitCount_95d88 r2) fun r3 =>
  jloop jFuel (fun s => f_X0_putOnward_B58 s.2.2.2 x1 x3 x4 s.1 s.2.1 s.2.2.1) (r2, x2, r3, σ)))
  else (bD (f_X0_putIfFits σ x1 x2 x3 x4) fun r20 σ21 =>
  some ((r20, σ21)))
set_option maxHeartbeats 1000000 in
set_option maxRecDepth 20000 in
theorem f_X0_putOnward_ok {g : Bool} {rv : Option Value} {μ' : jM} (σ : jS) (x1 : Nat) (x2 : Int32) (x3 : Int32) (x4 : Int32) {Kp : (Int32 × jS) → Prop} (hn : Nat.ble nX μ'.1 = true ∧ Nat.ble wX μ'.2.1 = true) (hr : ∀ (r : Int32) (s : jS), Kp ((r, s)) → rv = some (.int r) ∧ μ' = eX s) (o : (Int32 × jS)) (h : f_X0_putOnward σ x1 x2 x3 x4 = some o) (hK : Kp o) : J yX0_putOnward cX0_putOnward 10 (some .int) 4 g rv μ' 0 [(0, .ref 4), (1, .ref x1), (2, .int x2), (3, .int x3), (4, .int x4), (5, .ref 23)] [] (eX σ) := by
  unfold f_X0_putOnward at h
  refine j_aload_n 0 dX0_putOnward_0 rfl rfl ?_
  refine j_iload_n 3 dX0_putOnward_1 rfl rfl ?_
  replace h := bC_inv h
  obtain ⟨r22, cr22, h⟩ := h
  refine j_callV (ci := 0) (st1 := .int r22 :: _) (c_X0_howIs g cr22) jy_X0_howIs ki_yX0_howIs ks_yX0_howIs kl_RX0_101 dX0_putOnward_2 rfl (okX_4 _) (shX_4 _) rfl rfl rfl rfl (jbr _) (jbr _) hn.1 hn.2 (Or.inr rfl) rfl ?_
  refine j_if_eq 20 dX0_putOnward_5 (by decide) (fun hc23 => ?_) (fun hc23 => ?_)
  · replace h := jif_t hc23 h
    refine j_aload_n 0 dX0_putOnward_20 rfl rfl ?_
    refine j_iload_n 3 dX0_putOnward_21 rfl rfl ?_
    replace h := bC_inv h
    obtain ⟨r24, cr24, h⟩ := h
    refine j_callV (ci := 0) (st1 := .long r24 :: _) (c_X0_onwardOf g cr24) jy_X0_onwardOf ki_yX0_onwardOf ks_yX0_onwardOf kl_RX0_72 dX0_putOnward_22 rfl (okX_4 _) (shX_4 _) rfl rfl rfl rfl (jbr _) (jbr _) hn.1 hn.2 (Or.inr rfl) rfl ?_
    refine j_lstore [(6, .long r24), (0, .ref 4), (1, .ref x1), (2, .int x2), (3, .int x3), (4, .int x4), (5, .ref 23)] dX0_putOnward_25 (Nat.le_of_ble_eq_true rfl) rfl ?_
    refine j_lload 0 dX0_putOnward_27 rfl ?_
    refine j_lconst (v := 0) dX0_putOnward_29 (by decide) ?_
    refine j_lcmp dX0_putOnward_30 ?_
    refine j_if_ne 48 dX0_putOnward_31 (by decide) (fun hc25 => ?_) (fun hc25 => ?_)
    · replace h := jif_f hc25 h
      refine j_iload_n 3 dX0_putOnward_48 rfl rfl ?_
      refine j_istore [(8, .int x2), (6, .long r24), (0, .ref 4), (1, .ref x1), (2, .int x2), (3, .int x3), (4, .int x4), (5, .ref 23)] dX0_putOnward_49 (Nat.le_of_ble_eq_true rfl) rfl ?_
      refine j_lload 1 dX0_putOnward_51 rfl ?_
      replace h := bC_inv h
      obtain ⟨r26, cr26, h⟩ := h
      refine j_callS (st1 := .int r26 :: _) (c_J13_bitCount_95d88 g _ cr26) jy_J13_bitCount_95d88 kt_yJ13_bitCount_95d88 kl_RX0_92 dX0_putOnward_53 rfl rfl rfl rfl (jbr _) (jbr _) hn.1 hn.2 (Or.inr rfl) rfl ?_
      refine j_istore [(9, .int r26), (8, .int x2), (6, .long r24), (0, .ref 4), (1, .ref x1), (2, .int x2), (3, .int x3), (4, .int x4), (5, .ref 23)] dX0_putOnward_56 (Nat.le_of_ble_eq_true rfl) rfl ?_
      refine j_sub [(0, .ref 4), (1, .ref x1), (3, .int x3), (4, .int x4), (5, .ref 23), (6, .long r24), (8, .int x2), (9, .int r26)] [3, 4, 6, 7, 8, 2, 1, 0] rfl ?_
      exact jloop_ok (fun s => f_X0_putOnward_B58 s.2.2.2 x1 x3 x4 s.1 s.2.1 s.2.2.1) (fun s => J yX0_putOnward cX0_putOnward 10 (some .int) 4 g rv μ' 58 [(0, .ref 4), (1, .ref x1), (3, .int x3), (4, .int x4), (5, .ref 23), (6, .long s.1), (8, .int s.2.1), (9, .int s.2.2.1)] [] (eX s.2.2.2)) Kp (fun s o hb hk => f_X0_putOnward_B58_ok (Kp := jsum (fun s => J yX0_putOnward cX0_putOnward 10 (some .int) 4 g rv μ' 58 [(0, .ref 4), (1, .ref x1), (3, .int x3), (4, .int x4), (5, .ref 23), (6, .long s.1), (8, .int s.2.1), (9, .int s.2.2.1)] [] (eX s.2.2.2)) Kp) s.2.2.2 x1 x3 x4 s.1 s.2.1 s.2.2.1 hn (fun r s q => hr r s q) (fun s q => q) o hb hk) jFuel _ _ h hK
    · replace h := jif_t hc25 h
      refine j_aload_n 1 dX0_putOnward_34 rfl rfl ?_
      refine j_aload_n 2 dX0_putOnward_35 rfl rfl ?_
      refine j_iload_n 3 dX0_putOnward_36 rfl rfl ?_
      refine j_iload_n 4 dX0_putOnward_37 rfl rfl ?_
      refine j_iconst (v := 1) dX0_putOnward_38 (by decide) ?_
      refine j_ixor dX0_putOnward_39 ?_
      refine j_iload 5 dX0_putOnward_40 rfl ?_
      refine j_aload 6 dX0_putOnward_42 rfl ?_
      replace h := bD_inv h
      obtain ⟨r27, σ28, cr27, h⟩ := h
      refine j_callV (ci := 0) (st1 := .int r27 :: _) (c_X0_putIfFits g cr27) jy_X0_putIfFits ki_yX0_putIfFits ks_yX0_putIfFits kl_RX0_197 dX0_putOnward_44 rfl (okX_4 _) (shX_4 _) rfl rfl rfl rfl (jbr _) (jbr _) hn.1 hn.2 (Or.inr rfl) rfl ?_
      replace h := Option.some.inj h
      subst h
      obtain ⟨hr1, hr2⟩ := hr _ _ hK
      exact j_iret dX0_putOnward_47 hr1 hr2
  · replace h := jif_f hc23 h
    refine j_aload_n 0 dX0_putOnward_8 rfl rfl ?_
    refine j_aload_n 1 dX0_putOnward_9 rfl rfl ?_
    refine j_iload_n 2 dX0_putOnward_10 rfl rfl ?_
    refine j_iload_n 3 dX0_putOnward_11 rfl rfl ?_
    refine j_iload 4 dX0_putOnward_12 rfl ?_
    refine j_aload 5 dX0_putOnward_14 rfl ?_
    replace h := bD_inv h
    obtain ⟨r29, σ30, cr29, h⟩ := h
    refine j_callV (ci := 0) (st1 := .int r29 :: _) (c_X0_putIfFits g cr29) jy_X0_putIfFits ki_yX0_putIfFits ks_yX0_putIfFits kl_RX0_197 dX0_putOnward_16 rfl (okX_4 _) (shX_4 _) rfl rfl rfl rfl (jbr _) (jbr _) hn.1 hn.2 (Or.inr rfl) rfl ?_
    replace h := Option.some.inj h
    subst h
    obtain ⟨hr1, hr2⟩ := hr _ _ hK
    exact j_iret dX0_putOnward_19 hr1 hr2
theorem c_X0_putOnward (g : Bool) {σ : jS} {x1 : Nat} {x2 : Int32} {x3 : Int32} {x4 : Int32} {r : Int32} {σ2 : jS} (h : f_X0_putOnward σ x1 x2 x3 x4 = some (r, σ2)) : Cn yX0_putOnward cX0_putOnward 10 (some .int) 4 g [.ref 4, .ref x1, .int x2, .int x3, .int x4, .ref 23] (eX σ) (some (.int r)) (eX σ2) :=
  Cn_of (by decide) (Nat.le_refl _) (Nat.le_refl _) (Nat.le_of_ble_eq_true rfl) (f_X0_putOnward_ok (Kp := (fun o => o = (r, σ2))) σ x1 x2 x3 x4 ⟨jbr _, jbr _⟩ (fun r2 s2 q => by cases q; exact ⟨rfl, rfl⟩) _ h rfl)
def f_X0_holdersBehind_J169 (σ : jS) (x7 : Int32) : Option (Int32 × jS) :=
  some ((x7, σ))
set_option maxHeartbeats 1000000 in
set_option maxRecDepth 20000 in
theorem f_X0_holdersBehind_J169_ok {g : Bool} {rv : Option Value} {μ' : jM} (σ : jS) (x7 : Int32) {Kp : (Int32 × jS) → Prop} (hn : Nat.ble nX μ'.1 = true ∧ Nat.ble wX μ'.2.1 = true) (hr : ∀ (r : Int32) (s : jS), Kp ((r, s)) → rv = some (.int r) ∧ μ' = eX s) (o : (Int32 × jS)) (h : f_X0_holdersBehind_J169 σ x7 = some o) (hK : Kp o) : J yX0_holdersBehind cX0_holdersBehind 10 (some .int) 5 g rv μ' 169 [(7, .int x7)] [] (eX σ) := by
  unfold f_X0_holdersBehind_J169 at h
  refine j_iload 0 dX0_holdersBehind_169 rfl ?_
  replace h := Option.some.inj h
  subst h
  obtain ⟨hr1, hr2⟩ := hr _ _ hK
  exact j_iret dX0_holdersBehind_171 hr1 hr2
def f_X0_holdersBehind_B132 (σ : jS) (x4 : Nat) (x6 : Int32) (x7 : Int32) (x8 : Int32) : Option ((Int32 × Int32 × jS) ⊕ (Int32 × jS)) :=
  if x6 ≤ x8 then (jw (f_X0_holdersBehind_J169 σ x7))
  else (if 6272 ≤ x8 then (jw (f_X0_holdersBehind_J169 σ x7))
  else (bC (f_X6_at σ x4 x8) fun r7 =>
  bC (f_X0_holders σ r7) fun r8 =>
  bV (x7 ||| r8) fun v9 =>
  bV (x8 + 1) fun v10 =>
  some (.inl (v9, v10, σ))))
set_option maxHeartbeats 1000000 in
set_option maxRecDepth 20000 in
theorem f_X0_holdersBehind_B132_ok {g : Bool} {rv : Option Value} {μ' : jM} (σ : jS) (x4 : Nat) (x6 : Int32) (x7 : Int32) (x8 : Int32) {Kp : ((Int32 × Int32 × jS) ⊕ (Int32 × jS)) → Prop} (hn : Nat.ble nX μ'.1 = true ∧ Nat.ble wX μ'.2.1 = true) (hr : ∀ (r : Int32) (s : jS), Kp (.inr ((r, s))) → rv = some (.int r) ∧ μ' = eX s) (hc0 : ∀ s : (Int32 × Int32 × jS), Kp (.inl s) → J yX0_holdersBehind cX0_holdersBehind 10 (some .int) 5 g rv μ' 132 [(0, .ref 4), (4, .ref x4), (6, .int x6), (7, .int s.1), (8, .int s.2.1)] [] (eX s.2.2)) (o : ((Int32 × Int32 × jS) ⊕ (Int32 × jS))) (h : f_X0_holdersBehind_B132 σ x4 x6 x7 x8 = some o) (hK : Kp o) : J yX0_holdersBehind cX0_holdersBehind 10 (some .int) 5 g rv μ' 132 [(0, .ref 4), (4, .ref x4), (6, .int x6), (7, .int x7), (8, .int x8)] [] (eX σ) := by
  unfold f_X0_holdersBehind_B132 at h
  refine j_iload 4 dX0_holdersBehind_132 rfl ?_
  refine j_iload 2 dX0_holdersBehind_134 rfl ?_
  refine j_icmp_ge 169 dX0_holdersBehind_136 (by decide) (fun hc11 => ?_) (fun hc11 => ?_)
  · replace h := jif_t hc11 h
    replace h := jw_inv h
    obtain ⟨o12, rfl, h⟩ := h
    refine j_sub [(7, .int x7)] [3] rfl ?_
    exact f_X0_holdersBehind_J169_ok (Kp := fun o => Kp (.inr (o))) σ x7 hn (fun r s q => hr r s q) _ h hK
  · replace h := jif_f hc11 h
    refine j_iload 4 dX0_holdersBehind_139 rfl ?_
    refine j_sipush (v := 6272) dX0_holdersBehind_141 (by decide) ?_
    refine j_icmp_ge 169 dX0_holdersBehind_144 (by decide) (fun hc13 => ?_) (fun hc13 => ?_)
    · replace h := jif_t hc13 h
      replace h := jw_inv h
      obtain ⟨o14, rfl, h⟩ := h
      refine j_sub [(7, .int x7)] [3] rfl ?_
      exact f_X0_holdersBehind_J169_ok (Kp := fun o => Kp (.inr (o))) σ x7 hn (fun r s q => hr r s q) _ h hK
    · replace h := jif_f hc13 h
      refine j_iload 3 dX0_holdersBehind_147 rfl ?_
      refine j_aload_n 0 dX0_holdersBehind_149 rfl rfl ?_
      refine j_aload 1 dX0_holdersBehind_150 rfl ?_
      refine j_iload 4 dX0_holdersBehind_152 rfl ?_
      replace h := bC_inv h
      obtain ⟨r15, cr15, h⟩ := h
      refine j_callS (st1 := .int r15 :: _) (c_X6_at g cr15) jy_X6_at kt_yX6_at kl_RX0_61 dX0_holdersBehind_154 rfl rfl rfl rfl (jbr _) (jbr _) hn.1 hn.2 (Or.inr rfl) rfl ?_
      replace h := bC_inv h
      obtain ⟨r16, cr16, h⟩ := h
      refine j_callV (ci := 0) (st1 := .int r16 :: _) (c_X0_holders g cr16) jy_X0_holders ki_yX0_holders ks_yX0_holders kl_RX0_174 dX0_holdersBehind_157 rfl (okX_4 _) (shX_4 _) rfl rfl rfl rfl (jbr _) (jbr _) hn.1 hn.2 (Or.inr rfl) rfl ?_
      refine j_ior dX0_holdersBehind_160 ?_
      replace h := bV_inv h
      obtain ⟨v17, ev17, h⟩ := h
      refine j_nmi ev17 ?_
      refine j_istore [(7, .int v17), (0, .ref 4), (4, .ref x4), (6, .int x6), (8, .int x8)] dX0_holdersBehind_161 (Nat.le_of_ble_eq_true rfl) rfl ?_
      replace h := bV_inv h
      obtain ⟨v18, ev18, h⟩ := h
      refine j_iinc (v := v18) [(8, .int v18), (7, .int v17), (0, .ref 4), (4, .ref x4), (6, .int x6)] 4 dX0_holdersBehind_163 rfl (by rw [ev18]; rfl) (Nat.le_of_ble_eq_true rfl) rfl ?_
      refine j_goto 132 dX0_holdersBehind_166 (by decide) ?_
      replace h := Option.some.inj h
      subst h
      refine j_sub [(0, .ref 4), (4, .ref x4), (6, .int x6), (7, .int v17), (8, .int v18)] [2, 3, 4, 1, 0] rfl ?_
      exact hc0 _ hK
def f_X0_holdersBehind_J126 (σ : jS) (x4 : Nat) (x6 : Int32) : Option (Int32 × jS) :=
  jloop jFuel (fun s => f_X0_holdersBehind_B132 s.2.2 x4 x6 s.1 s.2.1) (0, 0, σ)
set_option maxHeartbeats 1000000 in
set_option maxRecDepth 20000 in
theorem f_X0_holdersBehind_J126_ok {g : Bool} {rv : Option Value} {μ' : jM} (σ : jS) (x4 : Nat) (x6 : Int32) {Kp : (Int32 × jS) → Prop} (hn : Nat.ble nX μ'.1 = true ∧ Nat.ble wX μ'.2.1 = true) (hr : ∀ (r : Int32) (s : jS), Kp ((r, s)) → rv = some (.int r) ∧ μ' = eX s) (o : (Int32 × jS)) (h : f_X0_holdersBehind_J126 σ x4 x6 = some o) (hK : Kp o) : J yX0_holdersBehind cX0_holdersBehind 10 (some .int) 5 g rv μ' 126 [(0, .ref 4), (4, .ref x4), (6, .int x6)] [] (eX σ) := by
  unfold f_X0_holdersBehind_J126 at h
  refine j_iconst (v := 0) dX0_holdersBehind_126 (by decide) ?_
  refine j_istore [(7, .int 0), (0, .ref 4), (4, .ref x4), (6, .int x6)] dX0_holdersBehind_127 (Nat.le_of_ble_eq_true rfl) rfl ?_
  refine j_iconst (v := 0) dX0_holdersBehind_129 (by decide) ?_
  refine j_istore [(8, .int 0), (7, .int 0), (0, .ref 4), (4, .ref x4), (6, .int x6)] dX0_holdersBehind_130 (Nat.le_of_ble_eq_true rfl) rfl ?_
  refine j_sub [(0, .ref 4), (4, .ref x4), (6, .int x6), (7, .int 0), (8, .int 0)] [2, 3, 4, 1, 0] rfl ?_
  exact jloop_ok (fun s => f_X0_holdersBehind_B132 s.2.2 x4 x6 s.1 s.2.1) (fun s => J yX0_holdersBehind cX0_holdersBehind 10 (some .int) 5 g rv μ' 132 [(0, .ref 4), (4, .ref x4), (6, .int x6), (7, .int s.1), (8, .int s.2.1)] [] (eX s.2.2)) Kp (fun s o hb hk => f_X0_holdersBehind_B132_ok (Kp := jsum (fun s => J yX0_holdersBehind cX0_holdersBehind 10 (some .int) 5 g rv μ' 132 [(0, .ref 4), (4, .ref x4), (6, .int x6), (7, .int s.1), (8, .int s.2.1)] [] (eX s.2.2)) Kp) s.2.2 x4 x6 s.1 s.2.1 hn (fun r s q => hr r s q) (fun s q => q) o hb hk) jFuel _ _ h hK
def f_X0_holdersBehind_J104 (σ : jS) (x2 : Int32) (x4 : Nat) (x5 : Nat) (x7 : Int32) (x8 : Int32) : Option ((Nat × Nat × Int32 × Int32 × jS) ⊕ (Int32 × jS)) :=
  bV (x7 + 1) fun v19 =>
  some (.inl (x5, x4, x8, v19, σ))
set_option maxHeartbeats 1000000 in
set_option maxRecDepth 20000 in
theorem f_X0_holdersBehind_J104_ok {g : Bool} {rv : Option Value} {μ' : jM} (σ : jS) (x2 : Int32) (x4 : Nat) (x5 : Nat) (x7 : Int32) (x8 : Int32) {Kp : ((Nat × Nat × Int32 × Int32 × jS) ⊕ (Int32 × jS)) → Prop} (hn : Nat.ble nX μ'.1 = true ∧ Nat.ble wX μ'.2.1 = true) (hr : ∀ (r : Int32) (s : jS), Kp (.inr ((r, s))) → rv = some (.int r) ∧ μ' = eX s) (hc0 : ∀ s : (Nat × Nat × Int32 × Int32 × jS), Kp (.inl s) → J yX0_holdersBehind cX0_holdersBehind 10 (some .int) 5 g rv μ' 51 [(0, .ref 4), (2, .int x2), (3, .ref 23), (4, .ref s.1), (5, .ref s.2.1), (6, .int s.2.2.1), (7, .int s.2.2.2.1)] [] (eX s.2.2.2.2)) (o : ((Nat × Nat × Int32 × Int32 × jS) ⊕ (Int32 × jS))) (h : f_X0_holdersBehind_J104 σ x2 x4 x5 x7 x8 = some o) (hK : Kp o) : J yX0_holdersBehind cX0_holdersBehind 10 (some .int) 5 g rv μ' 104 [(0, .ref 4), (2, .int x2), (3, .ref 23), (4, .ref x4), (5, .ref x5), (7, .int x7), (8, .int x8)] [] (eX σ) := by
  unfold f_X0_holdersBehind_J104 at h
  refine j_aload 3 dX0_holdersBehind_104 rfl ?_
  refine j_astore [(9, .ref x4), (0, .ref 4), (2, .int x2), (3, .ref 23), (4, .ref x4), (5, .ref x5), (7, .int x7), (8, .int x8)] dX0_holdersBehind_106 (Nat.le_of_ble_eq_true rfl) rfl ?_
  refine j_aload 5 dX0_holdersBehind_108 rfl ?_
  refine j_astore [(4, .ref x5), (9, .ref x4), (0, .ref 4), (2, .int x2), (3, .ref 23), (5, .ref x5), (7, .int x7), (8, .int x8)] dX0_holdersBehind_110 (Nat.le_of_ble_eq_true rfl) rfl ?_
  refine j_aload 1 dX0_holdersBehind_112 rfl ?_
  refine j_astore [(5, .ref x4), (4, .ref x5), (9, .ref x4), (0, .ref 4), (2, .int x2), (3, .ref 23), (7, .int x7), (8, .int x8)] dX0_holdersBehind_114 (Nat.le_of_ble_eq_true rfl) rfl ?_
  refine j_iload 7 dX0_holdersBehind_116 rfl ?_
  refine j_istore [(6, .int x8), (5, .ref x4), (4, .ref x5), (9, .ref x4), (0, .ref 4), (2, .int x2), (3, .ref 23), (7, .int x7), (8, .int x8)] dX0_holdersBehind_118 (Nat.le_of_ble_eq_true rfl) rfl ?_
  replace h := bV_inv h
  obtain ⟨v20, ev20, h⟩ := h
  refine j_iinc (v := v20) [(7, .int v20), (6, .int x8), (5, .ref x4), (4, .ref x5), (9, .ref x4), (0, .ref 4), (2, .int x2), (3, .ref 23), (8, .int x8)] 7 dX0_holdersBehind_120 rfl (by rw [ev20]; rfl) (Nat.le_of_ble_eq_true rfl) rfl ?_
  refine j_goto 51 dX0_holdersBehind_123 (by decide) ?_
  replace h := Option.some.inj h
  subst h
  refine j_sub [(0, .ref 4), (2, .int x2), (3, .ref 23), (4, .ref x5), (5, .ref x4), (6, .int x8), (7, .int v20)] [5, 6, 7, 3, 2, 1, 0] rfl ?_
  exact hc0 _ hK
def f_X0_holdersBehind_B63 (σ : jS) (x2 : Int32) (x4 : Nat) (x5 : Nat) (x6 : Int32) (x7 : Int32) (x8 : Int32) (x9 : Int32) : Option ((Int32 × Int32 × jS) ⊕ ((Nat × Nat × Int32 × Int32 × jS) ⊕ (Int32 × jS))) :=
  if x6 ≤ x9 then (jw (f_X0_holdersBehind_J104 σ x2 x4 x5 x7 x8))
  else (if 6272 ≤ x9 then (jw (f_X0_holdersBehind_J104 σ x2 x4 x5 x7 x8))
  else (bC (f_X6_at σ x4 x9) fun r21 =>
  bD (f_X0_putOnward σ x5 x8 r21 x7) fun r22 σ23 =>
  bV (x9 + 1) fun v24 =>
  some (.inl (r22, v24, σ23))))
set_option maxHeartbeats 1000000 in
set_option maxRecDepth 20000 in
theorem f_X0_holdersBehind_B63_ok {g : Bool} {rv : Option Value} {μ' : jM} (σ : jS) (x2 : Int32) (x4 : Nat) (x5 : Nat) (x6 : Int32) (x7 : Int32) (x8 : Int32) (x9 : Int32) {Kp : ((Int32 × Int32 × jS) ⊕ ((Nat × Nat × Int32 × Int32 × jS) ⊕ (Int32 × jS))) → Prop} (hn : Nat.ble nX μ'.1 = true ∧ Nat.ble wX μ'.2.1 = true) (hr : ∀ (r : Int32) (s : jS), Kp (.inr (.inr ((r, s)))) → rv = some (.int r) ∧ μ' = eX s) (hc0 : ∀ s : (Nat × Nat × Int32 × Int32 × jS), Kp (.inr (.inl s)) → J yX0_holdersBehind cX0_holdersBehind 10 (some .int) 5 g rv μ' 51 [(0, .ref 4), (2, .int x2), (3, .ref 23), (4, .ref s.1), (5, .ref s.2.1), (6, .int s.2.2.1), (7, .int s.2.2.2.1)] [] (eX s.2.2.2.2)) (hc1 : ∀ s : (Int32 × Int32 × jS), Kp (.inl s) → J yX0_holdersBehind cX0_holdersBehind 10 (some .int) 5 g rv μ' 63 [(0, .ref 4), (2, .int x2), (3, .ref 23), (4, .ref x4), (5, .ref x5), (6, .int x6), (7, .int x7), (8, .int s.1), (9, .int s.2.1)] [] (eX s.2.2)) (o : ((Int32 × Int32 × jS) ⊕ ((Nat × Nat × Int32 × Int32 × jS) ⊕ (Int32 × jS)))) (h : f_X0_holdersBehind_B63 σ x2 x4 x5 x6 x7 x8 x9 = some o) (hK : Kp o) : J yX0_holdersBehind cX0_holdersBehind 10 (some .int) 5 g rv μ' 63 [(0, .ref 4), (2, .int x2), (3, .ref 23), (4, .ref x4), (5, .ref x5), (6, .int x6), (7, .int x7), (8, .int x8), (9, .int x9)] [] (eX σ) := by
  unfold f_X0_holdersBehind_B63 at h
  refine j_iload 8 dX0_holdersBehind_63 rfl ?_
  refine j_iload 5 dX0_holdersBehind_65 rfl ?_
  refine j_icmp_ge 104 dX0_holdersBehind_67 (by decide) (fun hc25 => ?_) (fun hc25 => ?_)
  · replace h := jif_t hc25 h
    replace h := jw_inv h
    obtain ⟨o26, rfl, h⟩ := h
    refine j_sub [(0, .ref 4), (2, .int x2), (3, .ref 23), (4, .ref x4), (5, .ref x5), (7, .int x7), (8, .int x8)] [0, 1, 2, 3, 4, 6, 7] rfl ?_
    exact f_X0_holdersBehind_J104_ok (Kp := fun o => Kp (.inr (o))) σ x2 x4 x5 x7 x8 hn (fun r s q => hr r s q) (fun s q => hc0 s q) _ h hK
  · replace h := jif_f hc25 h
    refine j_iload 8 dX0_holdersBehind_70 rfl ?_
    refine j_sipush (v := 6272) dX0_holdersBehind_72 (by decide) ?_
    refine j_icmp_ge 104 dX0_holdersBehind_75 (by decide) (fun hc27 => ?_) (fun hc27 => ?_)
    · replace h := jif_t hc27 h
      replace h := jw_inv h
      obtain ⟨o28, rfl, h⟩ := h
      refine j_sub [(0, .ref 4), (2, .int x2), (3, .ref 23), (4, .ref x4), (5, .ref x5), (7, .int x7), (8, .int x8)] [0, 1, 2, 3, 4, 6, 7] rfl ?_
      exact f_X0_holdersBehind_J104_ok (Kp := fun o => Kp (.inr (o))) σ x2 x4 x5 x7 x8 hn (fun r s q => hr r s q) (fun s q => hc0 s q) _ h hK
    · replace h := jif_f hc27 h
      refine j_aload_n 0 dX0_holdersBehind_78 rfl rfl ?_
      refine j_aload 4 dX0_holdersBehind_79 rfl ?_
      refine j_iload 7 dX0_holdersBehind_81 rfl ?_
      refine j_aload 3 dX0_holdersBehind_83 rfl ?_
      refine j_iload 8 dX0_holdersBehind_85 rfl ?_
      replace h := bC_inv h
      obtain ⟨r29, cr29, h⟩ := h
      refine j_callS (st1 := .int r29 :: _) (c_X6_at g cr29) jy_X6_at kt_yX6_at kl_RX0_61 dX0_holdersBehind_87 rfl rfl rfl rfl (jbr _) (jbr _) hn.1 hn.2 (Or.inr rfl) rfl ?_
      refine j_iload 6 dX0_holdersBehind_90 rfl ?_
      refine j_aload_n 2 dX0_holdersBehind_92 rfl rfl ?_
      replace h := bD_inv h
      obtain ⟨r30, σ31, cr30, h⟩ := h
      refine j_callV (ci := 0) (st1 := .int r30 :: _) (c_X0_putOnward g cr30) jy_X0_putOnward ki_yX0_putOnward ks_yX0_putOnward kl_RX0_201 dX0_holdersBehind_93 rfl (okX_4 _) (shX_4 _) rfl rfl rfl rfl (jbr _) (jbr _) hn.1 hn.2 (Or.inr rfl) rfl ?_
      refine j_istore [(8, .int r30), (0, .ref 4), (2, .int x2), (3, .ref 23), (4, .ref x4), (5, .ref x5), (6, .int x6), (7, .int x7), (9, .int x9)] dX0_holdersBehind_96 (Nat.le_of_ble_eq_true rfl) rfl ?_
      replace h := bV_inv h
      obtain ⟨v32, ev32, h⟩ := h
      refine j_iinc (v := v32) [(9, .int v32), (8, .int r30), (0, .ref 4), (2, .int x2), (3, .ref 23), (4, .ref x4), (5, .ref x5), (6, .int x6), (7, .int x7)] 8 dX0_holdersBehind_98 rfl (by rw [ev32]; rfl) (Nat.le_of_ble_eq_true rfl) rfl ?_
      refine j_goto 63 dX0_holdersBehind_101 (by decide) ?_
      replace h := Option.some.inj h
      subst h
      refine j_sub [(0, .ref 4), (2, .int x2), (3, .ref 23), (4, .ref x4), (5, .ref x5), (6, .int x6), (7, .int x7), (8, .int r30), (9, .int v32)] [2, 3, 4, 5, 6, 7, 8, 1, 0] rfl ?_
      exact hc1 _ hK
def f_X0_holdersBehind_B51 (σ : jS) (x2 : Int32) (x4 : Nat) (x5 : Nat) (x6 : Int32) (x7 : Int32) : Option ((Nat × Nat × Int32 × Int32 × jS) ⊕ (Int32 × jS)) :=
  if x2 < x7 then (jw (f_X0_holdersBehind_J126 σ x4 x6))
  else (jloop jFuel (fun s => f_X0_holdersBehind_B63 s.2.2 x2 x4 x5 x6 x7 s.1 s.2.1) (0, 0, σ))
set_option maxHeartbeats 1000000 in
set_option maxRecDepth 20000 in
theorem f_X0_holdersBehind_B51_ok {g : Bool} {rv : Option Value} {μ' : jM} (σ : jS) (x2 : Int32) (x4 : Nat) (x5 : Nat) (x6 : Int32) (x7 : Int32) {Kp : ((Nat × Nat × Int32 × Int32 × jS) ⊕ (Int32 × jS)) → Prop} (hn : Nat.ble nX μ'.1 = true ∧ Nat.ble wX μ'.2.1 = true) (hr : ∀ (r : Int32) (s : jS), Kp (.inr ((r, s))) → rv = some (.int r) ∧ μ' = eX s) (hc0 : ∀ s : (Nat × Nat × Int32 × Int32 × jS), Kp (.inl s) → J yX0_holdersBehind cX0_holdersBehind 10 (some .int) 5 g rv μ' 51 [(0, .ref 4), (2, .int x2), (3, .ref 23), (4, .ref s.1), (5, .ref s.2.1), (6, .int s.2.2.1), (7, .int s.2.2.2.1)] [] (eX s.2.2.2.2)) (o : ((Nat × Nat × Int32 × Int32 × jS) ⊕ (Int32 × jS))) (h : f_X0_holdersBehind_B51 σ x2 x4 x5 x6 x7 = some o) (hK : Kp o) : J yX0_holdersBehind cX0_holdersBehind 10 (some .int) 5 g rv μ' 51 [(0, .ref 4), (2, .int x2), (3, .ref 23), (4, .ref x4), (5, .ref x5), (6, .int x6), (7, .int x7)] [] (eX σ) := by
  unfold f_X0_holdersBehind_B51 at h
  refine j_iload 6 dX0_holdersBehind_51 rfl ?_
  refine j_iload_n 1 dX0_holdersBehind_53 rfl rfl ?_
  refine j_icmp_gt 126 dX0_holdersBehind_54 (by decide) (fun hc33 => ?_) (fun hc33 => ?_)
  · replace h := jif_t hc33 h
    replace h := jw_inv h
    obtain ⟨o34, rfl, h⟩ := h
    refine j_sub [(0, .ref 4), (4, .ref x4), (6, .int x6)] [0, 3, 5] rfl ?_
    exact f_X0_holdersBehind_J126_ok (Kp := fun o => Kp (.inr (o))) σ x4 x6 hn (fun r s q => hr r s q) _ h hK
  · replace h := jif_f hc33 h
    refine j_iconst (v := 0) dX0_holdersBehind_57 (by decide) ?_
    refine j_istore [(8, .int 0), (0, .ref 4), (2, .int x2), (3, .ref 23), (4, .ref x4), (5, .ref x5), (6, .int x6), (7, .int x7)] dX0_holdersBehind_58 (Nat.le_of_ble_eq_true rfl) rfl ?_
    refine j_iconst (v := 0) dX0_holdersBehind_60 (by decide) ?_
    refine j_istore [(9, .int 0), (8, .int 0), (0, .ref 4), (2, .int x2), (3, .ref 23), (4, .ref x4), (5, .ref x5), (6, .int x6), (7, .int x7)] dX0_holdersBehind_61 (Nat.le_of_ble_eq_true rfl) rfl ?_
    refine j_sub [(0, .ref 4), (2, .int x2), (3, .ref 23), (4, .ref x4), (5, .ref x5), (6, .int x6), (7, .int x7), (8, .int 0), (9, .int 0)] [2, 3, 4, 5, 6, 7, 8, 1, 0] rfl ?_
    exact jloop_ok (fun s => f_X0_holdersBehind_B63 s.2.2 x2 x4 x5 x6 x7 s.1 s.2.1) (fun s => J yX0_holdersBehind cX0_holdersBehind 10 (some .int) 5 g rv μ' 63 [(0, .ref 4), (2, .int x2), (3, .ref 23), (4, .ref x4), (5, .ref x5), (6, .int x6), (7, .int x7), (8, .int s.1), (9, .int s.2.1)] [] (eX s.2.2)) Kp (fun s o hb hk => f_X0_holdersBehind_B63_ok (Kp := jsum (fun s => J yX0_holdersBehind cX0_holdersBehind 10 (some .int) 5 g rv μ' 63 [(0, .ref 4), (2, .int x2), (3, .ref 23), (4, .ref x4), (5, .ref x5), (6, .int x6), (7, .int x7), (8, .int s.1), (9, .int s.2.1)] [] (eX s.2.2)) Kp) s.2.2 x2 x4 x5 x6 x7 s.1 s.2.1 hn (fun r s q => hr r s q) (fun s q => hc0 s q) (fun s q => q) o hb hk) jFuel _ _ h hK
def f_X0_holdersBehind (σ : jS) (x1 : Int32) (x2 : Int32) : Option (Int32 × jS) :=
  bD (f_X0_forget σ) fun r1 σ2 =>
  bV (sI σ2 4 10 ((gI σ2 4 11) + (1 : Int32))) fun σ3 =>
  bV (sI σ3 4 11 ((gI σ3 4 10) + x2)) fun σ4 =>
  bD (f_X0_putIfFits σ4 12 0 x1 0) fun r5 σ6 =>
  jloop jFuel (fun s => f_X0_holdersBehind_B51 s.2.2.2.2 x2 s.1 s.2.1 s.2.2.1 s.2.2.2.1) (12, 13, r5, 1, σ6)
set_option maxHeartbeats 1000000 in
set_option maxRecDepth 20000 in
theorem f_X0_holdersBehind_ok {g : Bool} {rv : Option Value} {μ' : jM} (σ : jS) (x1 : Int32) (x2 : Int32) {Kp : (Int32 × jS) → Prop} (hn : Nat.ble nX μ'.1 = true ∧ Nat.ble wX μ'.2.1 = true) (hr : ∀ (r : Int32) (s : jS), Kp ((r, s)) → rv = some (.int r) ∧ μ' = eX s) (o : (Int32 × jS)) (h : f_X0_holdersBehind σ x1 x2 = some o) (hK : Kp o) : J yX0_holdersBehind cX0_holdersBehind 10 (some .int) 5 g rv μ' 0 [(0, .ref 4), (1, .int x1), (2, .int x2), (3, .ref 23)] [] (eX σ) := by
  unfold f_X0_holdersBehind at h
  refine j_aload_n 0 dX0_holdersBehind_0 rfl rfl ?_
  replace h := bD_inv h
  obtain ⟨r35, σ36, cr35, h⟩ := h
  refine j_callV (ci := 0) (st1 := _) (c_X0_forget g cr35) jy_X0_forget ki_yX0_forget ks_yX0_forget kl_RX0_122 dX0_holdersBehind_1 rfl (okX_4 _) (shX_4 _) rfl rfl rfl rfl (jbr _) (jbr _) hn.1 hn.2 (Or.inr rfl) rfl ?_
  refine j_aload_n 0 dX0_holdersBehind_4 rfl rfl ?_
  refine j_aload_n 0 dX0_holdersBehind_5 rfl rfl ?_
  refine j_get (ci := 0) 11 (.int (gI σ36 4 11)) jC_0 dX0_holdersBehind_6 kg_RX0_37 rfl (okX_4 _) (shX_4 _) (fvX_4_11 _) ?_
  refine j_iconst (v := 1) dX0_holdersBehind_9 (by decide) ?_
  refine j_iadd dX0_holdersBehind_10 ?_
  replace h := bV_inv h
  obtain ⟨σ37, eσ37, h⟩ := h
  refine j_putI 10 jC_0 dX0_holdersBehind_11 kg_RX0_194 (Or.inl ff_0_10) rfl fk_0_10 (fn_0_10 _) (okX_4 _) (shX_4 _) ?_
  refine j_mem (congrArg eX eσ37) ?_
  refine j_aload_n 0 dX0_holdersBehind_14 rfl rfl ?_
  refine j_aload_n 0 dX0_holdersBehind_15 rfl rfl ?_
  refine j_get (ci := 0) 10 (.int (gI σ37 4 10)) jC_0 dX0_holdersBehind_16 kg_RX0_194 rfl (okX_4 _) (shX_4 _) (fvX_4_10 _) ?_
  refine j_iload_n 2 dX0_holdersBehind_19 rfl rfl ?_
  refine j_iadd dX0_holdersBehind_20 ?_
  replace h := bV_inv h
  obtain ⟨σ38, eσ38, h⟩ := h
  refine j_putI 11 jC_0 dX0_holdersBehind_21 kg_RX0_37 (Or.inl ff_0_11) rfl fk_0_11 (fn_0_11 _) (okX_4 _) (shX_4 _) ?_
  refine j_mem (congrArg eX eσ38) ?_
  refine j_aload_n 0 dX0_holdersBehind_24 rfl rfl ?_
  refine j_get (ci := 0) 5 (.ref 12) jC_0 dX0_holdersBehind_25 kg_RX0_22 rfl (okX_4 _) (shX_4 _) (fvX_4_5 _) ?_
  refine j_astore [(4, .ref 12), (0, .ref 4), (1, .int x1), (2, .int x2), (3, .ref 23)] dX0_holdersBehind_28 (Nat.le_of_ble_eq_true rfl) rfl ?_
  refine j_aload_n 1 dX0_holdersBehind_30 rfl rfl ?_
  refine j_get (ci := 0) 6 (.ref 13) jC_0 dX0_holdersBehind_31 kg_RX0_25 rfl (okX_4 _) (shX_4 _) (fvX_4_6 _) ?_
  refine j_astore [(5, .ref 13), (4, .ref 12), (0, .ref 4), (1, .int x1), (2, .int x2), (3, .ref 23)] dX0_holdersBehind_34 (Nat.le_of_ble_eq_true rfl) rfl ?_
  refine j_aload_n 2 dX0_holdersBehind_36 rfl rfl ?_
  refine j_aload 1 dX0_holdersBehind_37 rfl ?_
  refine j_iconst (v := 0) dX0_holdersBehind_39 (by decide) ?_
  refine j_iload_n 3 dX0_holdersBehind_40 rfl rfl ?_
  refine j_iconst (v := 0) dX0_holdersBehind_41 (by decide) ?_
  refine j_aload_n 5 dX0_holdersBehind_42 rfl rfl ?_
  replace h := bD_inv h
  obtain ⟨r39, σ40, cr39, h⟩ := h
  refine j_callV (ci := 0) (st1 := .int r39 :: _) (c_X0_putIfFits g cr39) jy_X0_putIfFits ki_yX0_putIfFits ks_yX0_putIfFits kl_RX0_197 dX0_holdersBehind_43 rfl (okX_4 _) (shX_4 _) rfl rfl rfl rfl (jbr _) (jbr _) hn.1 hn.2 (Or.inr rfl) rfl ?_
  refine j_istore [(6, .int r39), (5, .ref 13), (4, .ref 12), (0, .ref 4), (1, .int x1), (2, .int x2), (3, .ref 23)] dX0_holdersBehind_46 (Nat.le_of_ble_eq_true rfl) rfl ?_
  refine j_iconst (v := 1) dX0_holdersBehind_48 (by decide) ?_
  refine j_istore [(7, .int 1), (6, .int r39), (5, .ref 13), (4, .ref 12), (0, .ref 4), (1, .int x1), (2, .int x2), (3, .ref 23)] dX0_holdersBehind_49 (Nat.le_of_ble_eq_true rfl) rfl ?_
  refine j_sub [(0, .ref 4), (2, .int x2), (3, .ref 23), (4, .ref 12), (5, .ref 13), (6, .int r39), (7, .int 1)] [4, 6, 7, 3, 2, 1, 0] rfl ?_
  exact jloop_ok (fun s => f_X0_holdersBehind_B51 s.2.2.2.2 x2 s.1 s.2.1 s.2.2.1 s.2.2.2.1) (fun s => J yX0_holdersBehind cX0_holdersBehind 10 (some .int) 5 g rv μ' 51 [(0, .ref 4), (2, .int x2), (3, .ref 23), (4, .ref s.1), (5, .ref s.2.1), (6, .int s.2.2.1), (7, .int s.2.2.2.1)] [] (eX s.2.2.2.2)) Kp (fun s o hb hk => f_X0_holdersBehind_B51_ok (Kp := jsum (fun s => J yX0_holdersBehind cX0_holdersBehind 10 (some .int) 5 g rv μ' 51 [(0, .ref 4), (2, .int x2), (3, .ref 23), (4, .ref s.1), (5, .ref s.2.1), (6, .int s.2.2.1), (7, .int s.2.2.2.1)] [] (eX s.2.2.2.2)) Kp) s.2.2.2.2 x2 s.1 s.2.1 s.2.2.1 s.2.2.2.1 hn (fun r s q => hr r s q) (fun s q => q) o hb hk) jFuel _ _ h hK
theorem c_X0_holdersBehind (g : Bool) {σ : jS} {x1 : Int32} {x2 : Int32} {r : Int32} {σ2 : jS} (h : f_X0_holdersBehind σ x1 x2 = some (r, σ2)) : Cn yX0_holdersBehind cX0_holdersBehind 10 (some .int) 5 g [.ref 4, .int x1, .int x2, .ref 23] (eX σ) (some (.int r)) (eX σ2) :=
  Cn_of (by decide) (Nat.le_refl _) (Nat.le_refl _) (Nat.le_of_ble_eq_true rfl) (f_X0_holdersBehind_ok (Kp := (fun o => o = (r, σ2))) σ x1 x2 ⟨jbr _, jbr _⟩ (fun r2 s2 q => by cases q; exact ⟨rfl, rfl⟩) _ h rfl)
def f_X10_have_J10 (σ : jS) : Option (Int32 × jS) :=
  some (((-1002), σ))
set_option maxHeartbeats 1000000 in
set_option maxRecDepth 20000 in
theorem f_X10_have_J10_ok {g : Bool} {rv : Option Value} {μ' : jM} (σ : jS) {Kp : (Int32 × jS) → Prop} (hn : Nat.ble nX μ'.1 = true ∧ Nat.ble wX μ'.2.1 = true) (hr : ∀ (r : Int32) (s : jS), Kp ((r, s)) → rv = some (.int r) ∧ μ' = eX s) (o : (Int32 × jS)) (h : f_X10_have_J10 σ = some o) (hK : Kp o) : J yX10_have cX10_have 2 (some .int) 6 g rv μ' 10 [] [] (eX σ) := by
  unfold f_X10_have_J10 at h
  refine j_sipush (v := (-1002)) dX10_have_10 (by decide) ?_
  replace h := Option.some.inj h
  subst h
  obtain ⟨hr1, hr2⟩ := hr _ _ hK
  exact j_iret dX10_have_13 hr1 hr2
def f_X10_have (σ : jS) (x1 : Int32) : Option (Int32 × jS) :=
  if x1 < 0 then (f_X10_have_J10 σ)
  else (if x1 ≤ 40 then (bV (σ.2.2.1) fun t1 =>
  bH [51, 61] t1 (
  if (gI σ t1 8) = 0 then (some (((-1003), σ)))
  else (bC (f_X10_toldHow σ 0) fun r2 =>
  bD (f_X0_holdersBehind σ r2 x1) fun r3 σ4 =>
  some ((r3, σ4)))))
  else (f_X10_have_J10 σ))
set_option maxHeartbeats 1000000 in
set_option maxRecDepth 20000 in
theorem f_X10_have_ok {g : Bool} {rv : Option Value} {μ' : jM} (σ : jS) (x1 : Int32) {Kp : (Int32 × jS) → Prop} (hn : Nat.ble nX μ'.1 = true ∧ Nat.ble wX μ'.2.1 = true) (hr : ∀ (r : Int32) (s : jS), Kp ((r, s)) → rv = some (.int r) ∧ μ' = eX s) (o : (Int32 × jS)) (h : f_X10_have σ x1 = some o) (hK : Kp o) : J yX10_have cX10_have 2 (some .int) 6 g rv μ' 0 [(0, .ref 1), (1, .int x1)] [] (eX σ) := by
  unfold f_X10_have at h
  refine j_iload_n 1 dX10_have_0 rfl rfl ?_
  refine j_if_lt 10 dX10_have_1 (by decide) (fun hc5 => ?_) (fun hc5 => ?_)
  · replace h := jif_t hc5 h
    refine j_sub [] [] rfl ?_
    exact f_X10_have_J10_ok σ hn hr _ h hK
  · replace h := jif_f hc5 h
    refine j_iload_n 1 dX10_have_4 rfl rfl ?_
    refine j_bipush (v := 40) dX10_have_5 (by decide) ?_
    refine j_icmp_le 14 dX10_have_7 (by decide) (fun hc6 => ?_) (fun hc6 => ?_)
    · replace h := jif_t hc6 h
      refine j_aload_n 0 dX10_have_14 rfl rfl ?_
      refine j_get (ci := 9) 7 (.ref (σ.2.2.1)) jC_9 dX10_have_15 kg_RX10_58 rfl (okX_1 _) (shX_1 _) (fvX_1_7 _) ?_
      replace h := bV_inv h
      obtain ⟨t7, et7, h⟩ := h
      refine j_nmr et7 ?_
      replace h := bH_inv h
      obtain ⟨hm8, h⟩ := h
      simp only [List.mem_cons, List.not_mem_nil, or_false] at hm8
      rcases hm8 with rfl | rfl
      · skip
        refine j_get (ci := 7) 8 (.int (gI σ 51 8)) jC_7 dX10_have_18 kg_RX10_134 rfl (okX_51 _) (shX_51 _) (fvX_51_8 _) ?_
        refine j_if_ne 28 dX10_have_21 (by decide) (fun hc9 => ?_) (fun hc9 => ?_)
        · replace h := jif_f hc9 h
          refine j_aload_n 0 dX10_have_28 rfl rfl ?_
          refine j_get (ci := 9) 1 (.ref 4) jC_9 dX10_have_29 kg_RX10_19 rfl (okX_1 _) (shX_1 _) (fvX_1_1 _) ?_
          refine j_aload_n 0 dX10_have_32 rfl rfl ?_
          refine j_iconst (v := 0) dX10_have_33 (by decide) ?_
          replace h := bC_inv h
          obtain ⟨r10, cr10, h⟩ := h
          refine j_callV (ci := 9) (st1 := .int r10 :: _) (c_X10_toldHow g cr10) jy_X10_toldHow ki_yX10_toldHow ks_yX10_toldHow kl_RX10_98 dX10_have_34 rfl (okX_1 _) (shX_1 _) rfl rfl rfl rfl (jbr _) (jbr _) hn.1 hn.2 (Or.inr rfl) rfl ?_
          refine j_iload_n 1 dX10_have_37 rfl rfl ?_
          refine j_aload_n 0 dX10_have_38 rfl rfl ?_
          refine j_get (ci := 9) 4 (.ref 23) jC_9 dX10_have_39 kg_RX10_40 rfl (okX_1 _) (shX_1 _) (fvX_1_4 _) ?_
          replace h := bD_inv h
          obtain ⟨r11, σ12, cr11, h⟩ := h
          refine j_callV (ci := 0) (st1 := .int r11 :: _) (c_X0_holdersBehind g cr11) jy_X0_holdersBehind ki_yX0_holdersBehind ks_yX0_holdersBehind kl_RX10_288 dX10_have_42 rfl (okX_4 _) (shX_4 _) rfl rfl rfl rfl (jbr _) (jbr _) hn.1 hn.2 (Or.inr rfl) rfl ?_
          replace h := Option.some.inj h
          subst h
          obtain ⟨hr1, hr2⟩ := hr _ _ hK
          exact j_iret dX10_have_45 hr1 hr2
        · replace h := jif_t hc9 h
          refine j_sipush (v := (-1003)) dX10_have_24 (by decide) ?_
          replace h := Option.some.inj h
          subst h
          obtain ⟨hr1, hr2⟩ := hr _ _ hK
          exact j_iret dX10_have_27 hr1 hr2
      · skip
        refine j_get (ci := 7) 8 (.int (gI σ 61 8)) jC_7 dX10_have_18 kg_RX10_134 rfl (okX_61 _) (shX_61 _) (fvX_61_8 _) ?_
        refine j_if_ne 28 dX10_have_21 (by decide) (fun hc13 => ?_) (fun hc13 => ?_)
        · replace h := jif_f hc13 h
          refine j_aload_n 0 dX10_have_28 rfl rfl ?_
          refine j_get (ci := 9) 1 (.ref 4) jC_9 dX10_have_29 kg_RX10_19 rfl (okX_1 _) (shX_1 _) (fvX_1_1 _) ?_
          refine j_aload_n 0 dX10_have_32 rfl rfl ?_
          refine j_iconst (v := 0) dX10_have_33 (by decide) ?_
          replace h := bC_inv h
          obtain ⟨r14, cr14, h⟩ := h
          refine j_callV (ci := 9) (st1 := .int r14 :: _) (c_X10_toldHow g cr14) jy_X10_toldHow ki_yX10_toldHow ks_yX10_toldHow kl_RX10_98 dX10_have_34 rfl (okX_1 _) (shX_1 _) rfl rfl rfl rfl (jbr _) (jbr _) hn.1 hn.2 (Or.inr rfl) rfl ?_
          refine j_iload_n 1 dX10_have_37 rfl rfl ?_
          refine j_aload_n 0 dX10_have_38 rfl rfl ?_
          refine j_get (ci := 9) 4 (.ref 23) jC_9 dX10_have_39 kg_RX10_40 rfl (okX_1 _) (shX_1 _) (fvX_1_4 _) ?_
          replace h := bD_inv h
          obtain ⟨r15, σ16, cr15, h⟩ := h
          refine j_callV (ci := 0) (st1 := .int r15 :: _) (c_X0_holdersBehind g cr15) jy_X0_holdersBehind ki_yX0_holdersBehind ks_yX0_holdersBehind kl_RX10_288 dX10_have_42 rfl (okX_4 _) (shX_4 _) rfl rfl rfl rfl (jbr _) (jbr _) hn.1 hn.2 (Or.inr rfl) rfl ?_
          replace h := Option.some.inj h
          subst h
          obtain ⟨hr1, hr2⟩ := hr _ _ hK
          exact j_iret dX10_have_45 hr1 hr2
        · replace h := jif_t hc13 h
          refine j_sipush (v := (-1003)) dX10_have_24 (by decide) ?_
          replace h := Option.some.inj h
          subst h
          obtain ⟨hr1, hr2⟩ := hr _ _ hK
          exact j_iret dX10_have_27 hr1 hr2
    · replace h := jif_f hc6 h
      refine j_sub [] [] rfl ?_
      exact f_X10_have_J10_ok σ hn hr _ h hK
theorem c_X10_have (g : Bool) {σ : jS} {x1 : Int32} {r : Int32} {σ2 : jS} (h : f_X10_have σ x1 = some (r, σ2)) : Cn yX10_have cX10_have 2 (some .int) 6 g [.ref 1, .int x1] (eX σ) (some (.int r)) (eX σ2) :=
  Cn_of (by decide) (Nat.le_refl _) (Nat.le_refl _) (Nat.le_of_ble_eq_true rfl) (f_X10_have_ok (Kp := (fun o => o = (r, σ2))) σ x1 ⟨jbr _, jbr _⟩ (fun r2 s2 q => by cases q; exact ⟨rfl, rfl⟩) _ h rfl)
def f_X10_seed (σ : jS) (x1 : Int32) : Option (Int32 × jS) :=
  if 0 ≤ x1 then (bV (gI σ 29 5) fun v1 =>
  bV (sI σ 29 5 x1) fun σ2 =>
  some ((v1, σ2)))
  else (some (((-1002), σ)))
set_option maxHeartbeats 1000000 in
set_option maxRecDepth 20000 in
theorem f_X10_seed_ok {g : Bool} {rv : Option Value} {μ' : jM} (σ : jS) (x1 : Int32) {Kp : (Int32 × jS) → Prop} (hn : Nat.ble nX μ'.1 = true ∧ Nat.ble wX μ'.2.1 = true) (hr : ∀ (r : Int32) (s : jS), Kp ((r, s)) → rv = some (.int r) ∧ μ' = eX s) (o : (Int32 × jS)) (h : f_X10_seed σ x1 = some o) (hK : Kp o) : J yX10_seed cX10_seed 3 (some .int) 1 g rv μ' 0 [(0, .ref 1), (1, .int x1)] [] (eX σ) := by
  unfold f_X10_seed at h
  refine j_iload_n 1 dX10_seed_0 rfl rfl ?_
  refine j_if_ge 8 dX10_seed_1 (by decide) (fun hc3 => ?_) (fun hc3 => ?_)
  · replace h := jif_t hc3 h
    refine j_aload_n 0 dX10_seed_8 rfl rfl ?_
    refine j_get (ci := 9) 5 (.ref 29) jC_9 dX10_seed_9 kg_RX10_47 rfl (okX_1 _) (shX_1 _) (fvX_1_5 _) ?_
    refine j_get (ci := 6) 5 (.int (gI σ 29 5)) jC_6 dX10_seed_12 kg_RX10_292 rfl (okX_29 _) (shX_29 _) (fvX_29_5 _) ?_
    replace h := bV_inv h
    obtain ⟨v4, ev4, h⟩ := h
    refine j_nmi ev4 ?_
    refine j_istore_n [(2, .int v4), (0, .ref 1), (1, .int x1)] dX10_seed_15 rfl (Nat.le_of_ble_eq_true rfl) rfl ?_
    refine j_aload_n 1 dX10_seed_16 rfl rfl ?_
    refine j_get (ci := 9) 5 (.ref 29) jC_9 dX10_seed_17 kg_RX10_47 rfl (okX_1 _) (shX_1 _) (fvX_1_5 _) ?_
    refine j_iload_n 2 dX10_seed_20 rfl rfl ?_
    replace h := bV_inv h
    obtain ⟨σ5, eσ5, h⟩ := h
    refine j_putI 5 jC_6 dX10_seed_21 kg_RX10_292 (Or.inl ff_6_5) rfl fk_6_5 (fn_6_5 _) (okX_29 _) (shX_29 _) ?_
    refine j_mem (congrArg eX eσ5) ?_
    refine j_iload_n 0 dX10_seed_24 rfl rfl ?_
    replace h := Option.some.inj h
    subst h
    obtain ⟨hr1, hr2⟩ := hr _ _ hK
    exact j_iret dX10_seed_25 hr1 hr2
  · replace h := jif_f hc3 h
    refine j_sipush (v := (-1002)) dX10_seed_4 (by decide) ?_
    replace h := Option.some.inj h
    subst h
    obtain ⟨hr1, hr2⟩ := hr _ _ hK
    exact j_iret dX10_seed_7 hr1 hr2
theorem c_X10_seed (g : Bool) {σ : jS} {x1 : Int32} {r : Int32} {σ2 : jS} (h : f_X10_seed σ x1 = some (r, σ2)) : Cn yX10_seed cX10_seed 3 (some .int) 1 g [.ref 1, .int x1] (eX σ) (some (.int r)) (eX σ2) :=
  Cn_of (by decide) (Nat.le_refl _) (Nat.le_refl _) (Nat.le_of_ble_eq_true rfl) (f_X10_seed_ok (Kp := (fun o => o = (r, σ2))) σ x1 ⟨jbr _, jbr _⟩ (fun r2 s2 q => by cases q; exact ⟨rfl, rfl⟩) _ h rfl)
def f_X7_take (σ : jS) (x0 : Nat) (x1 : Nat) : Option (Unit × jS) :=
  bH [29, 37, 44] x1 (
  bH [29, 37, 44] x0 (
  bD (f_X6_copy σ (rPX x1 0) (rPX x0 0) 4) fun r1 σ2 =>
  bD (f_X6_copy σ2 (rPX x1 1) (rPX x0 1) 4) fun r3 σ4 =>
  bD (f_X1_take σ4 (rPX x0 2) (rPX x1 2)) fun r5 σ6 =>
  bV (sI σ6 x0 3 (gI σ6 x1 3)) fun σ7 =>
  bV (sI σ7 x0 4 (gI σ7 x1 4)) fun σ8 =>
  bV (sI σ8 x0 5 (gI σ8 x1 5)) fun σ9 =>
  some (((), σ9))))
set_option maxHeartbeats 1000000 in
set_option maxRecDepth 20000 in
theorem f_X7_take_ok {g : Bool} {rv : Option Value} {μ' : jM} (σ : jS) (x0 : Nat) (x1 : Nat) {Kp : (Unit × jS) → Prop} (hn : Nat.ble nX μ'.1 = true ∧ Nat.ble wX μ'.2.1 = true) (hr : ∀ (r : Unit) (s : jS), Kp ((r, s)) → rv = none ∧ μ' = eX s) (o : (Unit × jS)) (h : f_X7_take σ x0 x1 = some o) (hK : Kp o) : J yX7_take cX7_take 2 none 4 g rv μ' 0 [(0, .ref x0), (1, .ref x1)] [] (eX σ) := by
  unfold f_X7_take at h
  refine j_aload_n 1 dX7_take_0 rfl rfl ?_
  replace h := bH_inv h
  obtain ⟨hm10, h⟩ := h
  simp only [List.mem_cons, List.not_mem_nil, or_false] at hm10
  rcases hm10 with rfl | rfl | rfl
  · skip
    refine j_get (ci := 6) 0 (.ref 30) jC_6 dX7_take_1 kg_RX7_9 rfl (okX_29 _) (shX_29 _) (fvX_29_0 _) ?_
    refine j_aload_n 0 dX7_take_4 rfl rfl ?_
    replace h := bH_inv h
    obtain ⟨hm11, h⟩ := h
    simp only [List.mem_cons, List.not_mem_nil, or_false] at hm11
    rcases hm11 with rfl | rfl | rfl
    · skip
      refine j_get (ci := 6) 0 (.ref 30) jC_6 dX7_take_5 kg_RX7_9 rfl (okX_29 _) (shX_29 _) (fvX_29_0 _) ?_
      refine j_iconst (v := 4) dX7_take_8 (by decide) ?_
      replace h := bD_inv h
      obtain ⟨r12, σ13, cr12, h⟩ := h
      refine j_callS (st1 := _) (c_X6_copy g cr12) jy_X6_copy kt_yX6_copy kl_RX7_25 dX7_take_9 rfl rfl rfl rfl (jbr _) (jbr _) hn.1 hn.2 (Or.inr rfl) rfl ?_
      refine j_aload_n 1 dX7_take_12 rfl rfl ?_
      refine j_get (ci := 6) 1 (.ref 31) jC_6 dX7_take_13 kg_RX7_15 rfl (okX_29 _) (shX_29 _) (fvX_29_1 _) ?_
      refine j_aload_n 0 dX7_take_16 rfl rfl ?_
      refine j_get (ci := 6) 1 (.ref 31) jC_6 dX7_take_17 kg_RX7_15 rfl (okX_29 _) (shX_29 _) (fvX_29_1 _) ?_
      refine j_iconst (v := 4) dX7_take_20 (by decide) ?_
      replace h := bD_inv h
      obtain ⟨r14, σ15, cr14, h⟩ := h
      refine j_callS (st1 := _) (c_X6_copy g cr14) jy_X6_copy kt_yX6_copy kl_RX7_25 dX7_take_21 rfl rfl rfl rfl (jbr _) (jbr _) hn.1 hn.2 (Or.inr rfl) rfl ?_
      refine j_aload_n 0 dX7_take_24 rfl rfl ?_
      refine j_get (ci := 6) 2 (.ref 32) jC_6 dX7_take_25 kg_RX7_21 rfl (okX_29 _) (shX_29 _) (fvX_29_2 _) ?_
      refine j_aload_n 1 dX7_take_28 rfl rfl ?_
      refine j_get (ci := 6) 2 (.ref 32) jC_6 dX7_take_29 kg_RX7_21 rfl (okX_29 _) (shX_29 _) (fvX_29_2 _) ?_
      replace h := bD_inv h
      obtain ⟨r16, σ17, cr16, h⟩ := h
      refine j_callV (ci := 1) (st1 := _) (c_X1_take g cr16) jy_X1_take ki_yX1_take ks_yX1_take kl_RX7_31 dX7_take_32 rfl (okX_32 _) (shX_32 _) rfl rfl rfl rfl (jbr _) (jbr _) hn.1 hn.2 (Or.inr rfl) rfl ?_
      refine j_aload_n 0 dX7_take_35 rfl rfl ?_
      refine j_aload_n 1 dX7_take_36 rfl rfl ?_
      refine j_get (ci := 6) 3 (.int (gI σ17 29 3)) jC_6 dX7_take_37 kg_RX7_35 rfl (okX_29 _) (shX_29 _) (fvX_29_3 _) ?_
      replace h := bV_inv h
      obtain ⟨σ18, eσ18, h⟩ := h
      refine j_putI 3 jC_6 dX7_take_40 kg_RX7_35 (Or.inl ff_6_3) rfl fk_6_3 (fn_6_3 _) (okX_29 _) (shX_29 _) ?_
      refine j_mem (congrArg eX eσ18) ?_
      refine j_aload_n 0 dX7_take_43 rfl rfl ?_
      refine j_aload_n 1 dX7_take_44 rfl rfl ?_
      refine j_get (ci := 6) 4 (.int (gI σ18 29 4)) jC_6 dX7_take_45 kg_RX7_39 rfl (okX_29 _) (shX_29 _) (fvX_29_4 _) ?_
      replace h := bV_inv h
      obtain ⟨σ19, eσ19, h⟩ := h
      refine j_putI 4 jC_6 dX7_take_48 kg_RX7_39 (Or.inl ff_6_4) rfl fk_6_4 (fn_6_4 _) (okX_29 _) (shX_29 _) ?_
      refine j_mem (congrArg eX eσ19) ?_
      refine j_aload_n 0 dX7_take_51 rfl rfl ?_
      refine j_aload_n 1 dX7_take_52 rfl rfl ?_
      refine j_get (ci := 6) 5 (.int (gI σ19 29 5)) jC_6 dX7_take_53 kg_RX7_42 rfl (okX_29 _) (shX_29 _) (fvX_29_5 _) ?_
      replace h := bV_inv h
      obtain ⟨σ20, eσ20, h⟩ := h
      refine j_putI 5 jC_6 dX7_take_56 kg_RX7_42 (Or.inl ff_6_5) rfl fk_6_5 (fn_6_5 _) (okX_29 _) (shX_29 _) ?_
      refine j_mem (congrArg eX eσ20) ?_
      replace h := Option.some.inj h
      subst h
      obtain ⟨hr1, hr2⟩ := hr _ _ hK
      exact j_vret dX7_take_59 hr1 hr2
    · skip
      refine j_get (ci := 6) 0 (.ref 38) jC_6 dX7_take_5 kg_RX7_9 rfl (okX_37 _) (shX_37 _) (fvX_37_0 _) ?_
      refine j_iconst (v := 4) dX7_take_8 (by decide) ?_
      replace h := bD_inv h
      obtain ⟨r21, σ22, cr21, h⟩ := h
      refine j_callS (st1 := _) (c_X6_copy g cr21) jy_X6_copy kt_yX6_copy kl_RX7_25 dX7_take_9 rfl rfl rfl rfl (jbr _) (jbr _) hn.1 hn.2 (Or.inr rfl) rfl ?_
      refine j_aload_n 1 dX7_take_12 rfl rfl ?_
      refine j_get (ci := 6) 1 (.ref 31) jC_6 dX7_take_13 kg_RX7_15 rfl (okX_29 _) (shX_29 _) (fvX_29_1 _) ?_
      refine j_aload_n 0 dX7_take_16 rfl rfl ?_
      refine j_get (ci := 6) 1 (.ref 39) jC_6 dX7_take_17 kg_RX7_15 rfl (okX_37 _) (shX_37 _) (fvX_37_1 _) ?_
      refine j_iconst (v := 4) dX7_take_20 (by decide) ?_
      replace h := bD_inv h
      obtain ⟨r23, σ24, cr23, h⟩ := h
      refine j_callS (st1 := _) (c_X6_copy g cr23) jy_X6_copy kt_yX6_copy kl_RX7_25 dX7_take_21 rfl rfl rfl rfl (jbr _) (jbr _) hn.1 hn.2 (Or.inr rfl) rfl ?_
      refine j_aload_n 0 dX7_take_24 rfl rfl ?_
      refine j_get (ci := 6) 2 (.ref 40) jC_6 dX7_take_25 kg_RX7_21 rfl (okX_37 _) (shX_37 _) (fvX_37_2 _) ?_
      refine j_aload_n 1 dX7_take_28 rfl rfl ?_
      refine j_get (ci := 6) 2 (.ref 32) jC_6 dX7_take_29 kg_RX7_21 rfl (okX_29 _) (shX_29 _) (fvX_29_2 _) ?_
      replace h := bD_inv h
      obtain ⟨r25, σ26, cr25, h⟩ := h
      refine j_callV (ci := 1) (st1 := _) (c_X1_take g cr25) jy_X1_take ki_yX1_take ks_yX1_take kl_RX7_31 dX7_take_32 rfl (okX_40 _) (shX_40 _) rfl rfl rfl rfl (jbr _) (jbr _) hn.1 hn.2 (Or.inr rfl) rfl ?_
      refine j_aload_n 0 dX7_take_35 rfl rfl ?_
      refine j_aload_n 1 dX7_take_36 rfl rfl ?_
      refine j_get (ci := 6) 3 (.int (gI σ26 29 3)) jC_6 dX7_take_37 kg_RX7_35 rfl (okX_29 _) (shX_29 _) (fvX_29_3 _) ?_
      replace h := bV_inv h
      obtain ⟨σ27, eσ27, h⟩ := h
      refine j_putI 3 jC_6 dX7_take_40 kg_RX7_35 (Or.inl ff_6_3) rfl fk_6_3 (fn_6_3 _) (okX_37 _) (shX_37 _) ?_
      refine j_mem (congrArg eX eσ27) ?_
      refine j_aload_n 0 dX7_take_43 rfl rfl ?_
      refine j_aload_n 1 dX7_take_44 rfl rfl ?_
      refine j_get (ci := 6) 4 (.int (gI σ27 29 4)) jC_6 dX7_take_45 kg_RX7_39 rfl (okX_29 _) (shX_29 _) (fvX_29_4 _) ?_
      replace h := bV_inv h
      obtain ⟨σ28, eσ28, h⟩ := h
      refine j_putI 4 jC_6 dX7_take_48 kg_RX7_39 (Or.inl ff_6_4) rfl fk_6_4 (fn_6_4 _) (okX_37 _) (shX_37 _) ?_
      refine j_mem (congrArg eX eσ28) ?_
      refine j_aload_n 0 dX7_take_51 rfl rfl ?_
      refine j_aload_n 1 dX7_take_52 rfl rfl ?_
      refine j_get (ci := 6) 5 (.int (gI σ28 29 5)) jC_6 dX7_take_53 kg_RX7_42 rfl (okX_29 _) (shX_29 _) (fvX_29_5 _) ?_
      replace h := bV_inv h
      obtain ⟨σ29, eσ29, h⟩ := h
      refine j_putI 5 jC_6 dX7_take_56 kg_RX7_42 (Or.inl ff_6_5) rfl fk_6_5 (fn_6_5 _) (okX_37 _) (shX_37 _) ?_
      refine j_mem (congrArg eX eσ29) ?_
      replace h := Option.some.inj h
      subst h
      obtain ⟨hr1, hr2⟩ := hr _ _ hK
      exact j_vret dX7_take_59 hr1 hr2
    · skip
      refine j_get (ci := 6) 0 (.ref 45) jC_6 dX7_take_5 kg_RX7_9 rfl (okX_44 _) (shX_44 _) (fvX_44_0 _) ?_
      refine j_iconst (v := 4) dX7_take_8 (by decide) ?_
      replace h := bD_inv h
      obtain ⟨r30, σ31, cr30, h⟩ := h
      refine j_callS (st1 := _) (c_X6_copy g cr30) jy_X6_copy kt_yX6_copy kl_RX7_25 dX7_take_9 rfl rfl rfl rfl (jbr _) (jbr _) hn.1 hn.2 (Or.inr rfl) rfl ?_
      refine j_aload_n 1 dX7_take_12 rfl rfl ?_
      refine j_get (ci := 6) 1 (.ref 31) jC_6 dX7_take_13 kg_RX7_15 rfl (okX_29 _) (shX_29 _) (fvX_29_1 _) ?_
      refine j_aload_n 0 dX7_take_16 rfl rfl ?_
      refine j_get (ci := 6) 1 (.ref 46) jC_6 dX7_take_17 kg_RX7_15 rfl (okX_44 _) (shX_44 _) (fvX_44_1 _) ?_
      refine j_iconst (v := 4) dX7_take_20 (by decide) ?_
      replace h := bD_inv h
      obtain ⟨r32, σ33, cr32, h⟩ := h
      refine j_callS (st1 := _) (c_X6_copy g cr32) jy_X6_copy kt_yX6_copy kl_RX7_25 dX7_take_21 rfl rfl rfl rfl (jbr _) (jbr _) hn.1 hn.2 (Or.inr rfl) rfl ?_
      refine j_aload_n 0 dX7_take_24 rfl rfl ?_
      refine j_get (ci := 6) 2 (.ref 47) jC_6 dX7_take_25 kg_RX7_21 rfl (okX_44 _) (shX_44 _) (fvX_44_2 _) ?_
      refine j_aload_n 1 dX7_take_28 rfl rfl ?_
      refine j_get (ci := 6) 2 (.ref 32) jC_6 dX7_take_29 kg_RX7_21 rfl (okX_29 _) (shX_29 _) (fvX_29_2 _) ?_
      replace h := bD_inv h
      obtain ⟨r34, σ35, cr34, h⟩ := h
      refine j_callV (ci := 1) (st1 := _) (c_X1_take g cr34) jy_X1_take ki_yX1_take ks_yX1_take kl_RX7_31 dX7_take_32 rfl (okX_47 _) (shX_47 _) rfl rfl rfl rfl (jbr _) (jbr _) hn.1 hn.2 (Or.inr rfl) rfl ?_
      refine j_aload_n 0 dX7_take_35 rfl rfl ?_
      refine j_aload_n 1 dX7_take_36 rfl rfl ?_
      refine j_get (ci := 6) 3 (.int (gI σ35 29 3)) jC_6 dX7_take_37 kg_RX7_35 rfl (okX_29 _) (shX_29 _) (fvX_29_3 _) ?_
      replace h := bV_inv h
      obtain ⟨σ36, eσ36, h⟩ := h
      refine j_putI 3 jC_6 dX7_take_40 kg_RX7_35 (Or.inl ff_6_3) rfl fk_6_3 (fn_6_3 _) (okX_44 _) (shX_44 _) ?_
      refine j_mem (congrArg eX eσ36) ?_
      refine j_aload_n 0 dX7_take_43 rfl rfl ?_
      refine j_aload_n 1 dX7_take_44 rfl rfl ?_
      refine j_get (ci := 6) 4 (.int (gI σ36 29 4)) jC_6 dX7_take_45 kg_RX7_39 rfl (okX_29 _) (shX_29 _) (fvX_29_4 _) ?_
      replace h := bV_inv h
      obtain ⟨σ37, eσ37, h⟩ := h
      refine j_putI 4 jC_6 dX7_take_48 kg_RX7_39 (Or.inl ff_6_4) rfl fk_6_4 (fn_6_4 _) (okX_44 _) (shX_44 _) ?_
      refine j_mem (congrArg eX eσ37) ?_
      refine j_aload_n 0 dX7_take_51 rfl rfl ?_
      refine j_aload_n 1 dX7_take_52 rfl rfl ?_
      refine j_get (ci := 6) 5 (.int (gI σ37 29 5)) jC_6 dX7_take_53 kg_RX7_42 rfl (okX_29 _) (shX_29 _) (fvX_29_5 _) ?_
      replace h := bV_inv h
      obtain ⟨σ38, eσ38, h⟩ := h
      refine j_putI 5 jC_6 dX7_take_56 kg_RX7_42 (Or.inl ff_6_5) rfl fk_6_5 (fn_6_5 _) (okX_44 _) (shX_44 _) ?_
      refine j_mem (congrArg eX eσ38) ?_
      replace h := Option.some.inj h
      subst h
      obtain ⟨hr1, hr2⟩ := hr _ _ hK
      exact j_vret dX7_take_59 hr1 hr2
  · skip
    refine j_get (ci := 6) 0 (.ref 38) jC_6 dX7_take_1 kg_RX7_9 rfl (okX_37 _) (shX_37 _) (fvX_37_0 _) ?_
    refine j_aload_n 0 dX7_take_4 rfl rfl ?_
    replace h := bH_inv h
    obtain ⟨hm39, h⟩ := h
    simp only [List.mem_cons, List.not_mem_nil, or_false] at hm39
    rcases hm39 with rfl | rfl | rfl
    · skip
      refine j_get (ci := 6) 0 (.ref 30) jC_6 dX7_take_5 kg_RX7_9 rfl (okX_29 _) (shX_29 _) (fvX_29_0 _) ?_
      refine j_iconst (v := 4) dX7_take_8 (by decide) ?_
      replace h := bD_inv h
      obtain ⟨r40, σ41, cr40, h⟩ := h
      refine j_callS (st1 := _) (c_X6_copy g cr40) jy_X6_copy kt_yX6_copy kl_RX7_25 dX7_take_9 rfl rfl rfl rfl (jbr _) (jbr _) hn.1 hn.2 (Or.inr rfl) rfl ?_
      refine j_aload_n 1 dX7_take_12 rfl rfl ?_
      refine j_get (ci := 6) 1 (.ref 39) jC_6 dX7_take_13 kg_RX7_15 rfl (okX_37 _) (shX_37 _) (fvX_37_1 _) ?_
      refine j_aload_n 0 dX7_take_16 rfl rfl ?_
      refine j_get (ci := 6) 1 (.ref 31) jC_6 dX7_take_17 kg_RX7_15 rfl (okX_29 _) (shX_29 _) (fvX_29_1 _) ?_
      refine j_iconst (v := 4) dX7_take_20 (by decide) ?_
      replace h := bD_inv h
      obtain ⟨r42, σ43, cr42, h⟩ := h
      refine j_callS (st1 := _) (c_X6_copy g cr42) jy_X6_copy kt_yX6_copy kl_RX7_25 dX7_take_21 rfl rfl rfl rfl (jbr _) (jbr _) hn.1 hn.2 (Or.inr rfl) rfl ?_
      refine j_aload_n 0 dX7_take_24 rfl rfl ?_
      refine j_get (ci := 6) 2 (.ref 32) jC_6 dX7_take_25 kg_RX7_21 rfl (okX_29 _) (shX_29 _) (fvX_29_2 _) ?_
      refine j_aload_n 1 dX7_take_28 rfl rfl ?_
      refine j_get (ci := 6) 2 (.ref 40) jC_6 dX7_take_29 kg_RX7_21 rfl (okX_37 _) (shX_37 _) (fvX_37_2 _) ?_
      replace h := bD_inv h
      obtain ⟨r44, σ45, cr44, h⟩ := h
      refine j_callV (ci := 1) (st1 := _) (c_X1_take g cr44) jy_X1_take ki_yX1_take ks_yX1_take kl_RX7_31 dX7_take_32 rfl (okX_32 _) (shX_32 _) rfl rfl rfl rfl (jbr _) (jbr _) hn.1 hn.2 (Or.inr rfl) rfl ?_
      refine j_aload_n 0 dX7_take_35 rfl rfl ?_
      refine j_aload_n 1 dX7_take_36 rfl rfl ?_
      refine j_get (ci := 6) 3 (.int (gI σ45 37 3)) jC_6 dX7_take_37 kg_RX7_35 rfl (okX_37 _) (shX_37 _) (fvX_37_3 _) ?_
      replace h := bV_inv h
      obtain ⟨σ46, eσ46, h⟩ := h
      refine j_putI 3 jC_6 dX7_take_40 kg_RX7_35 (Or.inl ff_6_3) rfl fk_6_3 (fn_6_3 _) (okX_29 _) (shX_29 _) ?_
      refine j_mem (congrArg eX eσ46) ?_
      refine j_aload_n 0 dX7_take_43 rfl rfl ?_
      refine j_aload_n 1 dX7_take_44 rfl rfl ?_
      refine j_get (ci := 6) 4 (.int (gI σ46 37 4)) jC_6 dX7_take_45 kg_RX7_39 rfl (okX_37 _) (shX_37 _) (fvX_37_4 _) ?_
      replace h := bV_inv h
      obtain ⟨σ47, eσ47, h⟩ := h
      refine j_putI 4 jC_6 dX7_take_48 kg_RX7_39 (Or.inl ff_6_4) rfl fk_6_4 (fn_6_4 _) (okX_29 _) (shX_29 _) ?_
      refine j_mem (congrArg eX eσ47) ?_
      refine j_aload_n 0 dX7_take_51 rfl rfl ?_
      refine j_aload_n 1 dX7_take_52 rfl rfl ?_
      refine j_get (ci := 6) 5 (.int (gI σ47 37 5)) jC_6 dX7_take_53 kg_RX7_42 rfl (okX_37 _) (shX_37 _) (fvX_37_5 _) ?_
      replace h := bV_inv h
      obtain ⟨σ48, eσ48, h⟩ := h
      refine j_putI 5 jC_6 dX7_take_56 kg_RX7_42 (Or.inl ff_6_5) rfl fk_6_5 (fn_6_5 _) (okX_29 _) (shX_29 _) ?_
      refine j_mem (congrArg eX eσ48) ?_
      replace h := Option.some.inj h
      subst h
      obtain ⟨hr1, hr2⟩ := hr _ _ hK
      exact j_vret dX7_take_59 hr1 hr2
    · skip
      refine j_get (ci := 6) 0 (.ref 38) jC_6 dX7_take_5 kg_RX7_9 rfl (okX_37 _) (shX_37 _) (fvX_37_0 _) ?_
      refine j_iconst (v := 4) dX7_take_8 (by decide) ?_
      replace h := bD_inv h
      obtain ⟨r49, σ50, cr49, h⟩ := h
      refine j_callS (st1 := _) (c_X6_copy g cr49) jy_X6_copy kt_yX6_copy kl_RX7_25 dX7_take_9 rfl rfl rfl rfl (jbr _) (jbr _) hn.1 hn.2 (Or.inr rfl) rfl ?_
      refine j_aload_n 1 dX7_take_12 rfl rfl ?_
      refine j_get (ci := 6) 1 (.ref 39) jC_6 dX7_take_13 kg_RX7_15 rfl (okX_37 _) (shX_37 _) (fvX_37_1 _) ?_
      refine j_aload_n 0 dX7_take_16 rfl rfl ?_
      refine j_get (ci := 6) 1 (.ref 39) jC_6 dX7_take_17 kg_RX7_15 rfl (okX_37 _) (shX_37 _) (fvX_37_1 _) ?_
      refine j_iconst (v := 4) dX7_take_20 (by decide) ?_
      replace h := bD_inv h
      obtain ⟨r51, σ52, cr51, h⟩ := h
      refine j_callS (st1 := _) (c_X6_copy g cr51) jy_X6_copy kt_yX6_copy kl_RX7_25 dX7_take_21 rfl rfl rfl rfl (jbr _) (jbr _) hn.1 hn.2 (Or.inr rfl) rfl ?_
      refine j_aload_n 0 dX7_take_24 rfl rfl ?_
      refine j_get (ci := 6) 2 (.ref 40) jC_6 dX7_take_25 kg_RX7_21 rfl (okX_37 _) (shX_37 _) (fvX_37_2 _) ?_
      refine j_aload_n 1 dX7_take_28 rfl rfl ?_
      refine j_get (ci := 6) 2 (.ref 40) jC_6 dX7_take_29 kg_RX7_21 rfl (okX_37 _) (shX_37 _) (fvX_37_2 _) ?_
      replace h := bD_inv h
      obtain ⟨r53, σ54, cr53, h⟩ := h
      refine j_callV (ci := 1) (st1 := _) (c_X1_take g cr53) jy_X1_take ki_yX1_take ks_yX1_take kl_RX7_31 dX7_take_32 rfl (okX_40 _) (shX_40 _) rfl rfl rfl rfl (jbr _) (jbr _) hn.1 hn.2 (Or.inr rfl) rfl ?_
      refine j_aload_n 0 dX7_take_35 rfl rfl ?_
      refine j_aload_n 1 dX7_take_36 rfl rfl ?_
      refine j_get (ci := 6) 3 (.int (gI σ54 37 3)) jC_6 dX7_take_37 kg_RX7_35 rfl (okX_37 _) (shX_37 _) (fvX_37_3 _) ?_
      replace h := bV_inv h
      obtain ⟨σ55, eσ55, h⟩ := h
      refine j_putI 3 jC_6 dX7_take_40 kg_RX7_35 (Or.inl ff_6_3) rfl fk_6_3 (fn_6_3 _) (okX_37 _) (shX_37 _) ?_
      refine j_mem (congrArg eX eσ55) ?_
      refine j_aload_n 0 dX7_take_43 rfl rfl ?_
      refine j_aload_n 1 dX7_take_44 rfl rfl ?_
      refine j_get (ci := 6) 4 (.int (gI σ55 37 4)) jC_6 dX7_take_45 kg_RX7_39 rfl (okX_37 _) (shX_37 _) (fvX_37_4 _) ?_
      replace h := bV_inv h
      obtain ⟨σ56, eσ56, h⟩ := h
      refine j_putI 4 jC_6 dX7_take_48 kg_RX7_39 (Or.inl ff_6_4) rfl fk_6_4 (fn_6_4 _) (okX_37 _) (shX_37 _) ?_
      refine j_mem (congrArg eX eσ56) ?_
      refine j_aload_n 0 dX7_take_51 rfl rfl ?_
      refine j_aload_n 1 dX7_take_52 rfl rfl ?_
      refine j_get (ci := 6) 5 (.int (gI σ56 37 5)) jC_6 dX7_take_53 kg_RX7_42 rfl (okX_37 _) (shX_37 _) (fvX_37_5 _) ?_
      replace h := bV_inv h
      obtain ⟨σ57, eσ57, h⟩ := h
      refine j_putI 5 jC_6 dX7_take_56 kg_RX7_42 (Or.inl ff_6_5) rfl fk_6_5 (fn_6_5 _) (okX_37 _) (shX_37 _) ?_
      refine j_mem (congrArg eX eσ57) ?_
      replace h := Option.some.inj h
      subst h
      obtain ⟨hr1, hr2⟩ := hr _ _ hK
      exact j_vret dX7_take_59 hr1 hr2
    · skip
      refine j_get (ci := 6) 0 (.ref 45) jC_6 dX7_take_5 kg_RX7_9 rfl (okX_44 _) (shX_44 _) (fvX_44_0 _) ?_
      refine j_iconst (v := 4) dX7_take_8 (by decide) ?_
      replace h := bD_inv h
      obtain ⟨r58, σ59, cr58, h⟩ := h
      refine j_callS (st1 := _) (c_X6_copy g cr58) jy_X6_copy kt_yX6_copy kl_RX7_25 dX7_take_9 rfl rfl rfl rfl (jbr _) (jbr _) hn.1 hn.2 (Or.inr rfl) rfl ?_
      refine j_aload_n 1 dX7_take_12 rfl rfl ?_
      refine j_get (ci := 6) 1 (.ref 39) jC_6 dX7_take_13 kg_RX7_15 rfl (okX_37 _) (shX_37 _) (fvX_37_1 _) ?_
      refine j_aload_n 0 dX7_take_16 rfl rfl ?_
      refine j_get (ci := 6) 1 (.ref 46) jC_6 dX7_take_17 kg_RX7_15 rfl (okX_44 _) (shX_44 _) (fvX_44_1 _) ?_
      refine j_iconst (v := 4) dX7_take_20 (by decide) ?_
      replace h := bD_inv h
      obtain ⟨r60, σ61, cr60, h⟩ := h
      refine j_callS (st1 := _) (c_X6_copy g cr60) jy_X6_copy kt_yX6_copy kl_RX7_25 dX7_take_21 rfl rfl rfl rfl (jbr _) (jbr _) hn.1 hn.2 (Or.inr rfl) rfl ?_
      refine j_aload_n 0 dX7_take_24 rfl rfl ?_
      refine j_get (ci := 6) 2 (.ref 47) jC_6 dX7_take_25 kg_RX7_21 rfl (okX_44 _) (shX_44 _) (fvX_44_2 _) ?_
      refine j_aload_n 1 dX7_take_28 rfl rfl ?_
      refine j_get (ci := 6) 2 (.ref 40) jC_6 dX7_take_29 kg_RX7_21 rfl (okX_37 _) (shX_37 _) (fvX_37_2 _) ?_
      replace h := bD_inv h
      obtain ⟨r62, σ63, cr62, h⟩ := h
      refine j_callV (ci := 1) (st1 := _) (c_X1_take g cr62) jy_X1_take ki_yX1_take ks_yX1_take kl_RX7_31 dX7_take_32 rfl (okX_47 _) (shX_47 _) rfl rfl rfl rfl (jbr _) (jbr _) hn.1 hn.2 (Or.inr rfl) rfl ?_
      refine j_aload_n 0 dX7_take_35 rfl rfl ?_
      refine j_aload_n 1 dX7_take_36 rfl rfl ?_
      refine j_get (ci := 6) 3 (.int (gI σ63 37 3)) jC_6 dX7_take_37 kg_RX7_35 rfl (okX_37 _) (shX_37 _) (fvX_37_3 _) ?_
      replace h := bV_inv h
      obtain ⟨σ64, eσ64, h⟩ := h
      refine j_putI 3 jC_6 dX7_take_40 kg_RX7_35 (Or.inl ff_6_3) rfl fk_6_3 (fn_6_3 _) (okX_44 _) (shX_44 _) ?_
      refine j_mem (congrArg eX eσ64) ?_
      refine j_aload_n 0 dX7_take_43 rfl rfl ?_
      refine j_aload_n 1 dX7_take_44 rfl rfl ?_
      refine j_get (ci := 6) 4 (.int (gI σ64 37 4)) jC_6 dX7_take_45 kg_RX7_39 rfl (okX_37 _) (shX_37 _) (fvX_37_4 _) ?_
      replace h := bV_inv h
      obtain ⟨σ65, eσ65, h⟩ := h
      refine j_putI 4 jC_6 dX7_take_48 kg_RX7_39 (Or.inl ff_6_4) rfl fk_6_4 (fn_6_4 _) (okX_44 _) (shX_44 _) ?_
      refine j_mem (congrArg eX eσ65) ?_
      refine j_aload_n 0 dX7_take_51 rfl rfl ?_
      refine j_aload_n 1 dX7_take_52 rfl rfl ?_
      refine j_get (ci := 6) 5 (.int (gI σ65 37 5)) jC_6 dX7_take_53 kg_RX7_42 rfl (okX_37 _) (shX_37 _) (fvX_37_5 _) ?_
      replace h := bV_inv h
      obtain ⟨σ66, eσ66, h⟩ := h
      refine j_putI 5 jC_6 dX7_take_56 kg_RX7_42 (Or.inl ff_6_5) rfl fk_6_5 (fn_6_5 _) (okX_44 _) (shX_44 _) ?_
      refine j_mem (congrArg eX eσ66) ?_
      replace h := Option.some.inj h
      subst h
      obtain ⟨hr1, hr2⟩ := hr _ _ hK
      exact j_vret dX7_take_59 hr1 hr2
  · skip
    refine j_get (ci := 6) 0 (.ref 45) jC_6 dX7_take_1 kg_RX7_9 rfl (okX_44 _) (shX_44 _) (fvX_44_0 _) ?_
    refine j_aload_n 0 dX7_take_4 rfl rfl ?_
    replace h := bH_inv h
    obtain ⟨hm67, h⟩ := h
    simp only [List.mem_cons, List.not_mem_nil, or_false] at hm67
    rcases hm67 with rfl | rfl | rfl
    · skip
      refine j_get (ci := 6) 0 (.ref 30) jC_6 dX7_take_5 kg_RX7_9 rfl (okX_29 _) (shX_29 _) (fvX_29_0 _) ?_
      refine j_iconst (v := 4) dX7_take_8 (by decide) ?_
      replace h := bD_inv h
      obtain ⟨r68, σ69, cr68, h⟩ := h
      refine j_callS (st1 := _) (c_X6_copy g cr68) jy_X6_copy kt_yX6_copy kl_RX7_25 dX7_take_9 rfl rfl rfl rfl (jbr _) (jbr _) hn.1 hn.2 (Or.inr rfl) rfl ?_
      refine j_aload_n 1 dX7_take_12 rfl rfl ?_
      refine j_get (ci := 6) 1 (.ref 46) jC_6 dX7_take_13 kg_RX7_15 rfl (okX_44 _) (shX_44 _) (fvX_44_1 _) ?_
      refine j_aload_n 0 dX7_take_16 rfl rfl ?_
      refine j_get (ci := 6) 1 (.ref 31) jC_6 dX7_take_17 kg_RX7_15 rfl (okX_29 _) (shX_29 _) (fvX_29_1 _) ?_
      refine j_iconst (v := 4) dX7_take_20 (by decide) ?_
      replace h := bD_inv h
      obtain ⟨r70, σ71, cr70, h⟩ := h
      refine j_callS (st1 := _) (c_X6_copy g cr70) jy_X6_copy kt_yX6_copy kl_RX7_25 dX7_take_21 rfl rfl rfl rfl (jbr _) (jbr _) hn.1 hn.2 (Or.inr rfl) rfl ?_
      refine j_aload_n 0 dX7_take_24 rfl rfl ?_
      refine j_get (ci := 6) 2 (.ref 32) jC_6 dX7_take_25 kg_RX7_21 rfl (okX_29 _) (shX_29 _) (fvX_29_2 _) ?_
      refine j_aload_n 1 dX7_take_28 rfl rfl ?_
      refine j_get (ci := 6) 2 (.ref 47) jC_6 dX7_take_29 kg_RX7_21 rfl (okX_44 _) (shX_44 _) (fvX_44_2 _) ?_
      replace h := bD_inv h
      obtain ⟨r72, σ73, cr72, h⟩ := h
      refine j_callV (ci := 1) (st1 := _) (c_X1_take g cr72) jy_X1_take ki_yX1_take ks_yX1_take kl_RX7_31 dX7_take_32 rfl (okX_32 _) (shX_32 _) rfl rfl rfl rfl (jbr _) (jbr _) hn.1 hn.2 (Or.inr rfl) rfl ?_
      refine j_aload_n 0 dX7_take_35 rfl rfl ?_
      refine j_aload_n 1 dX7_take_36 rfl rfl ?_
      refine j_get (ci := 6) 3 (.int (gI σ73 44 3)) jC_6 dX7_take_37 kg_RX7_35 rfl (okX_44 _) (shX_44 _) (fvX_44_3 _) ?_
      replace h := bV_inv h
      obtain ⟨σ74, eσ74, h⟩ := h
      refine j_putI 3 jC_6 dX7_take_40 kg_RX7_35 (Or.inl ff_6_3) rfl fk_6_3 (fn_6_3 _) (okX_29 _) (shX_29 _) ?_
      refine j_mem (congrArg eX eσ74) ?_
      refine j_aload_n 0 dX7_take_43 rfl rfl ?_
      refine j_aload_n 1 dX7_take_44 rfl rfl ?_
      refine j_get (ci := 6) 4 (.int (gI σ74 44 4)) jC_6 dX7_take_45 kg_RX7_39 rfl (okX_44 _) (shX_44 _) (fvX_44_4 _) ?_
      replace h := bV_inv h
      obtain ⟨σ75, eσ75, h⟩ := h
      refine j_putI 4 jC_6 dX7_take_48 kg_RX7_39 (Or.inl ff_6_4) rfl fk_6_4 (fn_6_4 _) (okX_29 _) (shX_29 _) ?_
      refine j_mem (congrArg eX eσ75) ?_
      refine j_aload_n 0 dX7_take_51 rfl rfl ?_
      refine j_aload_n 1 dX7_take_52 rfl rfl ?_
      refine j_get (ci := 6) 5 (.int (gI σ75 44 5)) jC_6 dX7_take_53 kg_RX7_42 rfl (okX_44 _) (shX_44 _) (fvX_44_5 _) ?_
      replace h := bV_inv h
      obtain ⟨σ76, eσ76, h⟩ := h
      refine j_putI 5 jC_6 dX7_take_56 kg_RX7_42 (Or.inl ff_6_5) rfl fk_6_5 (fn_6_5 _) (okX_29 _) (shX_29 _) ?_
      refine j_mem (congrArg eX eσ76) ?_
      replace h := Option.some.inj h
      subst h
      obtain ⟨hr1, hr2⟩ := hr _ _ hK
      exact j_vret dX7_take_59 hr1 hr2
    · skip
      refine j_get (ci := 6) 0 (.ref 38) jC_6 dX7_take_5 kg_RX7_9 rfl (okX_37 _) (shX_37 _) (fvX_37_0 _) ?_
      refine j_iconst (v := 4) dX7_take_8 (by decide) ?_
      replace h := bD_inv h
      obtain ⟨r77, σ78, cr77, h⟩ := h
      refine j_callS (st1 := _) (c_X6_copy g cr77) jy_X6_copy kt_yX6_copy kl_RX7_25 dX7_take_9 rfl rfl rfl rfl (jbr _) (jbr _) hn.1 hn.2 (Or.inr rfl) rfl ?_
      refine j_aload_n 1 dX7_take_12 rfl rfl ?_
      refine j_get (ci := 6) 1 (.ref 46) jC_6 dX7_take_13 kg_RX7_15 rfl (okX_44 _) (shX_44 _) (fvX_44_1 _) ?_
      refine j_aload_n 0 dX7_take_16 rfl rfl ?_
      refine j_get (ci := 6) 1 (.ref 39) jC_6 dX7_take_17 kg_RX7_15 rfl (okX_37 _) (shX_37 _) (fvX_37_1 _) ?_
      refine j_iconst (v := 4) dX7_take_20 (by decide) ?_
      replace h := bD_inv h
      obtain ⟨r79, σ80, cr79, h⟩ := h
      refine j_callS (st1 := _) (c_X6_copy g cr79) jy_X6_copy kt_yX6_copy kl_RX7_25 dX7_take_21 rfl rfl rfl rfl (jbr _) (jbr _) hn.1 hn.2 (Or.inr rfl) rfl ?_
      refine j_aload_n 0 dX7_take_24 rfl rfl ?_
      refine j_get (ci := 6) 2 (.ref 40) jC_6 dX7_take_25 kg_RX7_21 rfl (okX_37 _) (shX_37 _) (fvX_37_2 _) ?_
      refine j_aload_n 1 dX7_take_28 rfl rfl ?_
      refine j_get (ci := 6) 2 (.ref 47) jC_6 dX7_take_29 kg_RX7_21 rfl (okX_44 _) (shX_44 _) (fvX_44_2 _) ?_
      replace h := bD_inv h
      obtain ⟨r81, σ82, cr81, h⟩ := h
      refine j_callV (ci := 1) (st1 := _) (c_X1_take g cr81) jy_X1_take ki_yX1_take ks_yX1_take kl_RX7_31 dX7_take_32 rfl (okX_40 _) (shX_40 _) rfl rfl rfl rfl (jbr _) (jbr _) hn.1 hn.2 (Or.inr rfl) rfl ?_
      refine j_aload_n 0 dX7_take_35 rfl rfl ?_
      refine j_aload_n 1 dX7_take_36 rfl rfl ?_
      refine j_get (ci := 6) 3 (.int (gI σ82 44 3)) jC_6 dX7_take_37 kg_RX7_35 rfl (okX_44 _) (shX_44 _) (fvX_44_3 _) ?_
      replace h := bV_inv h
      obtain ⟨σ83, eσ83, h⟩ := h
      refine j_putI 3 jC_6 dX7_take_40 kg_RX7_35 (Or.inl ff_6_3) rfl fk_6_3 (fn_6_3 _) (okX_37 _) (shX_37 _) ?_
      refine j_mem (congrArg eX eσ83) ?_
      refine j_aload_n 0 dX7_take_43 rfl rfl ?_
      refine j_aload_n 1 dX7_take_44 rfl rfl ?_
      refine j_get (ci := 6) 4 (.int (gI σ83 44 4)) jC_6 dX7_take_45 kg_RX7_39 rfl (okX_44 _) (shX_44 _) (fvX_44_4 _) ?_
      replace h := bV_inv h
      obtain ⟨σ84, eσ84, h⟩ := h
      refine j_putI 4 jC_6 dX7_take_48 kg_RX7_39 (Or.inl ff_6_4) rfl fk_6_4 (fn_6_4 _) (okX_37 _) (shX_37 _) ?_
      refine j_mem (congrArg eX eσ84) ?_
      refine j_aload_n 0 dX7_take_51 rfl rfl ?_
      refine j_aload_n 1 dX7_take_52 rfl rfl ?_
      refine j_get (ci := 6) 5 (.int (gI σ84 44 5)) jC_6 dX7_take_53 kg_RX7_42 rfl (okX_44 _) (shX_44 _) (fvX_44_5 _) ?_
      replace h := bV_inv h
      obtain ⟨σ85, eσ85, h⟩ := h
      refine j_putI 5 jC_6 dX7_take_56 kg_RX7_42 (Or.inl ff_6_5) rfl fk_6_5 (fn_6_5 _) (okX_37 _) (shX_37 _) ?_
      refine j_mem (congrArg eX eσ85) ?_
      replace h := Option.some.inj h
      subst h
      obtain ⟨hr1, hr2⟩ := hr _ _ hK
      exact j_vret dX7_take_59 hr1 hr2
    · skip
      refine j_get (ci := 6) 0 (.ref 45) jC_6 dX7_take_5 kg_RX7_9 rfl (okX_44 _) (shX_44 _) (fvX_44_0 _) ?_
      refine j_iconst (v := 4) dX7_take_8 (by decide) ?_
      replace h := bD_inv h
      obtain ⟨r86, σ87, cr86, h⟩ := h
      refine j_callS (st1 := _) (c_X6_copy g cr86) jy_X6_copy kt_yX6_copy kl_RX7_25 dX7_take_9 rfl rfl rfl rfl (jbr _) (jbr _) hn.1 hn.2 (Or.inr rfl) rfl ?_
      refine j_aload_n 1 dX7_take_12 rfl rfl ?_
      refine j_get (ci := 6) 1 (.ref 46) jC_6 dX7_take_13 kg_RX7_15 rfl (okX_44 _) (shX_44 _) (fvX_44_1 _) ?_
      refine j_aload_n 0 dX7_take_16 rfl rfl ?_
      refine j_get (ci := 6) 1 (.ref 46) jC_6 dX7_take_17 kg_RX7_15 rfl (okX_44 _) (shX_44 _) (fvX_44_1 _) ?_
      refine j_iconst (v := 4) dX7_take_20 (by decide) ?_
      replace h := bD_inv h
      obtain ⟨r88, σ89, cr88, h⟩ := h
      refine j_callS (st1 := _) (c_X6_copy g cr88) jy_X6_copy kt_yX6_copy kl_RX7_25 dX7_take_21 rfl rfl rfl rfl (jbr _) (jbr _) hn.1 hn.2 (Or.inr rfl) rfl ?_
      refine j_aload_n 0 dX7_take_24 rfl rfl ?_
      refine j_get (ci := 6) 2 (.ref 47) jC_6 dX7_take_25 kg_RX7_21 rfl (okX_44 _) (shX_44 _) (fvX_44_2 _) ?_
      refine j_aload_n 1 dX7_take_28 rfl rfl ?_
      refine j_get (ci := 6) 2 (.ref 47) jC_6 dX7_take_29 kg_RX7_21 rfl (okX_44 _) (shX_44 _) (fvX_44_2 _) ?_
      replace h := bD_inv h
      obtain ⟨r90, σ91, cr90, h⟩ := h
      refine j_callV (ci := 1) (st1 := _) (c_X1_take g cr90) jy_X1_take ki_yX1_take ks_yX1_take kl_RX7_31 dX7_take_32 rfl (okX_47 _) (shX_47 _) rfl rfl rfl rfl (jbr _) (jbr _) hn.1 hn.2 (Or.inr rfl) rfl ?_
      refine j_aload_n 0 dX7_take_35 rfl rfl ?_
      refine j_aload_n 1 dX7_take_36 rfl rfl ?_
      refine j_get (ci := 6) 3 (.int (gI σ91 44 3)) jC_6 dX7_take_37 kg_RX7_35 rfl (okX_44 _) (shX_44 _) (fvX_44_3 _) ?_
      replace h := bV_inv h
      obtain ⟨σ92, eσ92, h⟩ := h
      refine j_putI 3 jC_6 dX7_take_40 kg_RX7_35 (Or.inl ff_6_3) rfl fk_6_3 (fn_6_3 _) (okX_44 _) (shX_44 _) ?_
      refine j_mem (congrArg eX eσ92) ?_
      refine j_aload_n 0 dX7_take_43 rfl rfl ?_
      refine j_aload_n 1 dX7_take_44 rfl rfl ?_
      refine j_get (ci := 6) 4 (.int (gI σ92 44 4)) jC_6 dX7_take_45 kg_RX7_39 rfl (okX_44 _) (shX_44 _) (fvX_44_4 _) ?_
      replace h := bV_inv h
      obtain ⟨σ93, eσ93, h⟩ := h
      refine j_putI 4 jC_6 dX7_take_48 kg_RX7_39 (Or.inl ff_6_4) rfl fk_6_4 (fn_6_4 _) (okX_44 _) (shX_44 _) ?_
      refine j_mem (congrArg eX eσ93) ?_
      refine j_aload_n 0 dX7_take_51 rfl rfl ?_
      refine j_aload_n 1 dX7_take_52 rfl rfl ?_
      refine j_get (ci := 6) 5 (.int (gI σ93 44 5)) jC_6 dX7_take_53 kg_RX7_42 rfl (okX_44 _) (shX_44 _) (fvX_44_5 _) ?_
      replace h := bV_inv h
      obtain ⟨σ94, eσ94, h⟩ := h
      refine j_putI 5 jC_6 dX7_take_56 kg_RX7_42 (Or.inl ff_6_5) rfl fk_6_5 (fn_6_5 _) (okX_44 _) (shX_44 _) ?_
      refine j_mem (congrArg eX eσ94) ?_
      replace h := Option.some.inj h
      subst h
      obtain ⟨hr1, hr2⟩ := hr _ _ hK
      exact j_vret dX7_take_59 hr1 hr2
theorem c_X7_take (g : Bool) {σ : jS} {x0 : Nat} {x1 : Nat} {r : Unit} {σ2 : jS} (h : f_X7_take σ x0 x1 = some (r, σ2)) : Cn yX7_take cX7_take 2 none 4 g [.ref x0, .ref x1] (eX σ) none (eX σ2) :=
  Cn_of (by decide) (Nat.le_refl _) (Nat.le_refl _) (Nat.le_of_ble_eq_true rfl) (f_X7_take_ok (Kp := (fun o => o = (r, σ2))) σ x0 x1 ⟨jbr _, jbr _⟩ (fun r2 s2 q => by cases q; exact ⟨rfl, rfl⟩) _ h rfl)
def f_X10_keep (σ : jS) (x1 : Int32) : Option (Int32 × jS) :=
  bC (f_X10_imageAt σ x1) fun r1 =>
  if r1 = 0 then (some (((-1001), σ)))
  else (bH [29, 37, 44] r1 (
  bD (f_X7_take σ r1 29) fun r2 σ3 =>
  bV (sI σ3 r1 6 1) fun σ4 =>
  some ((1, σ4))))
set_option maxHeartbeats 1000000 in
set_option maxRecDepth 20000 in
theorem f_X10_keep_ok {g : Bool} {rv : Option Value} {μ' : jM} (σ : jS) (x1 : Int32) {Kp : (Int32 × jS) → Prop} (hn : Nat.ble nX μ'.1 = true ∧ Nat.ble wX μ'.2.1 = true) (hr : ∀ (r : Int32) (s : jS), Kp ((r, s)) → rv = some (.int r) ∧ μ' = eX s) (o : (Int32 × jS)) (h : f_X10_keep σ x1 = some o) (hK : Kp o) : J yX10_keep cX10_keep 3 (some .int) 5 g rv μ' 0 [(0, .ref 1), (1, .int x1)] [] (eX σ) := by
  unfold f_X10_keep at h
  refine j_aload_n 0 dX10_keep_0 rfl rfl ?_
  refine j_iload_n 1 dX10_keep_1 rfl rfl ?_
  replace h := bC_inv h
  obtain ⟨r5, cr5, h⟩ := h
  refine j_callV (ci := 9) (st1 := .ref r5 :: _) (c_X10_imageAt g cr5) jy_X10_imageAt ki_yX10_imageAt ks_yX10_imageAt kl_RX10_114 dX10_keep_2 rfl (okX_1 _) (shX_1 _) rfl rfl rfl rfl (jbr _) (jbr _) hn.1 hn.2 (Or.inr rfl) rfl ?_
  refine j_astore_n [(2, .ref r5), (0, .ref 1), (1, .int x1)] dX10_keep_5 rfl (Nat.le_of_ble_eq_true rfl) rfl ?_
  refine j_aload_n 0 dX10_keep_6 rfl rfl ?_
  refine j_ifnonnull 14 dX10_keep_7 (by decide) (fun hc6 => ?_) (fun hc6 => ?_)
  · replace h := jif_f hc6 h
    refine j_aload_n 0 dX10_keep_14 rfl rfl ?_
    refine j_aload_n 1 dX10_keep_15 rfl rfl ?_
    refine j_get (ci := 9) 5 (.ref 29) jC_9 dX10_keep_16 kg_RX10_47 rfl (okX_1 _) (shX_1 _) (fvX_1_5 _) ?_
    replace h := bH_inv h
    obtain ⟨hm7, h⟩ := h
    simp only [List.mem_cons, List.not_mem_nil, or_false] at hm7
    rcases hm7 with rfl | rfl | rfl
    · skip
      replace h := bD_inv h
      obtain ⟨r8, σ9, cr8, h⟩ := h
      refine j_callV (ci := 6) (st1 := _) (c_X7_take g cr8) jy_X7_take ki_yX7_take ks_yX7_take kl_RX10_295 dX10_keep_19 rfl (okX_29 _) (shX_29 _) rfl rfl rfl rfl (jbr _) (jbr _) hn.1 hn.2 (Or.inr rfl) rfl ?_
      refine j_aload_n 0 dX10_keep_22 rfl rfl ?_
      refine j_iconst (v := 1) dX10_keep_23 (by decide) ?_
      replace h := bV_inv h
      obtain ⟨σ10, eσ10, h⟩ := h
      refine j_putI 6 jC_6 dX10_keep_24 kg_RX10_118 (Or.inl ff_6_6) rfl fk_6_6 (fn_6_6 (x := 1) rfl) (okX_29 _) (shX_29 _) ?_
      refine j_mem (congrArg eX eσ10) ?_
      refine j_iconst (v := 1) dX10_keep_27 (by decide) ?_
      replace h := Option.some.inj h
      subst h
      obtain ⟨hr1, hr2⟩ := hr _ _ hK
      exact j_iret dX10_keep_28 hr1 hr2
    · skip
      replace h := bD_inv h
      obtain ⟨r11, σ12, cr11, h⟩ := h
      refine j_callV (ci := 6) (st1 := _) (c_X7_take g cr11) jy_X7_take ki_yX7_take ks_yX7_take kl_RX10_295 dX10_keep_19 rfl (okX_37 _) (shX_37 _) rfl rfl rfl rfl (jbr _) (jbr _) hn.1 hn.2 (Or.inr rfl) rfl ?_
      refine j_aload_n 0 dX10_keep_22 rfl rfl ?_
      refine j_iconst (v := 1) dX10_keep_23 (by decide) ?_
      replace h := bV_inv h
      obtain ⟨σ13, eσ13, h⟩ := h
      refine j_putI 6 jC_6 dX10_keep_24 kg_RX10_118 (Or.inl ff_6_6) rfl fk_6_6 (fn_6_6 (x := 1) rfl) (okX_37 _) (shX_37 _) ?_
      refine j_mem (congrArg eX eσ13) ?_
      refine j_iconst (v := 1) dX10_keep_27 (by decide) ?_
      replace h := Option.some.inj h
      subst h
      obtain ⟨hr1, hr2⟩ := hr _ _ hK
      exact j_iret dX10_keep_28 hr1 hr2
    · skip
      replace h := bD_inv h
      obtain ⟨r14, σ15, cr14, h⟩ := h
      refine j_callV (ci := 6) (st1 := _) (c_X7_take g cr14) jy_X7_take ki_yX7_take ks_yX7_take kl_RX10_295 dX10_keep_19 rfl (okX_44 _) (shX_44 _) rfl rfl rfl rfl (jbr _) (jbr _) hn.1 hn.2 (Or.inr rfl) rfl ?_
      refine j_aload_n 0 dX10_keep_22 rfl rfl ?_
      refine j_iconst (v := 1) dX10_keep_23 (by decide) ?_
      replace h := bV_inv h
      obtain ⟨σ16, eσ16, h⟩ := h
      refine j_putI 6 jC_6 dX10_keep_24 kg_RX10_118 (Or.inl ff_6_6) rfl fk_6_6 (fn_6_6 (x := 1) rfl) (okX_44 _) (shX_44 _) ?_
      refine j_mem (congrArg eX eσ16) ?_
      refine j_iconst (v := 1) dX10_keep_27 (by decide) ?_
      replace h := Option.some.inj h
      subst h
      obtain ⟨hr1, hr2⟩ := hr _ _ hK
      exact j_iret dX10_keep_28 hr1 hr2
  · replace h := jif_t hc6 h
    refine j_sipush (v := (-1001)) dX10_keep_10 (by decide) ?_
    replace h := Option.some.inj h
    subst h
    obtain ⟨hr1, hr2⟩ := hr _ _ hK
    exact j_iret dX10_keep_13 hr1 hr2
theorem c_X10_keep (g : Bool) {σ : jS} {x1 : Int32} {r : Int32} {σ2 : jS} (h : f_X10_keep σ x1 = some (r, σ2)) : Cn yX10_keep cX10_keep 3 (some .int) 5 g [.ref 1, .int x1] (eX σ) (some (.int r)) (eX σ2) :=
  Cn_of (by decide) (Nat.le_refl _) (Nat.le_refl _) (Nat.le_of_ble_eq_true rfl) (f_X10_keep_ok (Kp := (fun o => o = (r, σ2))) σ x1 ⟨jbr _, jbr _⟩ (fun r2 s2 q => by cases q; exact ⟨rfl, rfl⟩) _ h rfl)
def f_X10_goBack (σ : jS) (x1 : Int32) : Option (Int32 × jS) :=
  bC (f_X10_imageAt σ x1) fun r1 =>
  if r1 = 0 then (some (((-1001), σ)))
  else (bH [29, 37, 44] r1 (
  if (gI σ r1 6) = 0 then (some (((-1003), σ)))
  else (bD (f_X7_take σ 29 r1) fun r2 σ3 =>
  bD (f_X10_settle σ3) fun r4 σ5 =>
  some ((1, σ5)))))
set_option maxHeartbeats 1000000 in
set_option maxRecDepth 20000 in
theorem f_X10_goBack_ok {g : Bool} {rv : Option Value} {μ' : jM} (σ : jS) (x1 : Int32) {Kp : (Int32 × jS) → Prop} (hn : Nat.ble nX μ'.1 = true ∧ Nat.ble wX μ'.2.1 = true) (hr : ∀ (r : Int32) (s : jS), Kp ((r, s)) → rv = some (.int r) ∧ μ' = eX s) (o : (Int32 × jS)) (h : f_X10_goBack σ x1 = some o) (hK : Kp o) : J yX10_goBack cX10_goBack 3 (some .int) 6 g rv μ' 0 [(0, .ref 1), (1, .int x1)] [] (eX σ) := by
  unfold f_X10_goBack at h
  refine j_aload_n 0 dX10_goBack_0 rfl rfl ?_
  refine j_iload_n 1 dX10_goBack_1 rfl rfl ?_
  replace h := bC_inv h
  obtain ⟨r6, cr6, h⟩ := h
  refine j_callV (ci := 9) (st1 := .ref r6 :: _) (c_X10_imageAt g cr6) jy_X10_imageAt ki_yX10_imageAt ks_yX10_imageAt kl_RX10_114 dX10_goBack_2 rfl (okX_1 _) (shX_1 _) rfl rfl rfl rfl (jbr _) (jbr _) hn.1 hn.2 (Or.inr rfl) rfl ?_
  refine j_astore_n [(2, .ref r6), (0, .ref 1), (1, .int x1)] dX10_goBack_5 rfl (Nat.le_of_ble_eq_true rfl) rfl ?_
  refine j_aload_n 0 dX10_goBack_6 rfl rfl ?_
  refine j_ifnonnull 14 dX10_goBack_7 (by decide) (fun hc7 => ?_) (fun hc7 => ?_)
  · replace h := jif_f hc7 h
    refine j_aload_n 0 dX10_goBack_14 rfl rfl ?_
    replace h := bH_inv h
    obtain ⟨hm8, h⟩ := h
    simp only [List.mem_cons, List.not_mem_nil, or_false] at hm8
    rcases hm8 with rfl | rfl | rfl
    · skip
      refine j_get (ci := 6) 6 (.int (gI σ 29 6)) jC_6 dX10_goBack_15 kg_RX10_118 rfl (okX_29 _) (shX_29 _) (fvX_29_6 _) ?_
      refine j_if_ne 25 dX10_goBack_18 (by decide) (fun hc9 => ?_) (fun hc9 => ?_)
      · replace h := jif_f hc9 h
        refine j_aload_n 1 dX10_goBack_25 rfl rfl ?_
        refine j_get (ci := 9) 5 (.ref 29) jC_9 dX10_goBack_26 kg_RX10_47 rfl (okX_1 _) (shX_1 _) (fvX_1_5 _) ?_
        refine j_aload_n 0 dX10_goBack_29 rfl rfl ?_
        replace h := bD_inv h
        obtain ⟨r10, σ11, cr10, h⟩ := h
        refine j_callV (ci := 6) (st1 := _) (c_X7_take g cr10) jy_X7_take ki_yX7_take ks_yX7_take kl_RX10_295 dX10_goBack_30 rfl (okX_29 _) (shX_29 _) rfl rfl rfl rfl (jbr _) (jbr _) hn.1 hn.2 (Or.inr rfl) rfl ?_
        refine j_aload_n 1 dX10_goBack_33 rfl rfl ?_
        replace h := bD_inv h
        obtain ⟨r12, σ13, cr12, h⟩ := h
        refine j_callV (ci := 9) (st1 := _) (c_X10_settle g cr12) jy_X10_settle ki_yX10_settle ks_yX10_settle kl_RX10_122 dX10_goBack_34 rfl (okX_1 _) (shX_1 _) rfl rfl rfl rfl (jbr _) (jbr _) hn.1 hn.2 (Or.inr rfl) rfl ?_
        refine j_iconst (v := 1) dX10_goBack_37 (by decide) ?_
        replace h := Option.some.inj h
        subst h
        obtain ⟨hr1, hr2⟩ := hr _ _ hK
        exact j_iret dX10_goBack_38 hr1 hr2
      · replace h := jif_t hc9 h
        refine j_sipush (v := (-1003)) dX10_goBack_21 (by decide) ?_
        replace h := Option.some.inj h
        subst h
        obtain ⟨hr1, hr2⟩ := hr _ _ hK
        exact j_iret dX10_goBack_24 hr1 hr2
    · skip
      refine j_get (ci := 6) 6 (.int (gI σ 37 6)) jC_6 dX10_goBack_15 kg_RX10_118 rfl (okX_37 _) (shX_37 _) (fvX_37_6 _) ?_
      refine j_if_ne 25 dX10_goBack_18 (by decide) (fun hc14 => ?_) (fun hc14 => ?_)
      · replace h := jif_f hc14 h
        refine j_aload_n 1 dX10_goBack_25 rfl rfl ?_
        refine j_get (ci := 9) 5 (.ref 29) jC_9 dX10_goBack_26 kg_RX10_47 rfl (okX_1 _) (shX_1 _) (fvX_1_5 _) ?_
        refine j_aload_n 0 dX10_goBack_29 rfl rfl ?_
        replace h := bD_inv h
        obtain ⟨r15, σ16, cr15, h⟩ := h
        refine j_callV (ci := 6) (st1 := _) (c_X7_take g cr15) jy_X7_take ki_yX7_take ks_yX7_take kl_RX10_295 dX10_goBack_30 rfl (okX_29 _) (shX_29 _) rfl rfl rfl rfl (jbr _) (jbr _) hn.1 hn.2 (Or.inr rfl) rfl ?_
        refine j_aload_n 1 dX10_goBack_33 rfl rfl ?_
        replace h := bD_inv h
        obtain ⟨r17, σ18, cr17, h⟩ := h
        refine j_callV (ci := 9) (st1 := _) (c_X10_settle g cr17) jy_X10_settle ki_yX10_settle ks_yX10_settle kl_RX10_122 dX10_goBack_34 rfl (okX_1 _) (shX_1 _) rfl rfl rfl rfl (jbr _) (jbr _) hn.1 hn.2 (Or.inr rfl) rfl ?_
        refine j_iconst (v := 1) dX10_goBack_37 (by decide) ?_
        replace h := Option.some.inj h
        subst h
        obtain ⟨hr1, hr2⟩ := hr _ _ hK
        exact j_iret dX10_goBack_38 hr1 hr2
      · replace h := jif_t hc14 h
        refine j_sipush (v := (-1003)) dX10_goBack_21 (by decide) ?_
        replace h := Option.some.inj h
        subst h
        obtain ⟨hr1, hr2⟩ := hr _ _ hK
        exact j_iret dX10_goBack_24 hr1 hr2
    · skip
      refine j_get (ci := 6) 6 (.int (gI σ 44 6)) jC_6 dX10_goBack_15 kg_RX10_118 rfl (okX_44 _) (shX_44 _) (fvX_44_6 _) ?_
      refine j_if_ne 25 dX10_goBack_18 (by decide) (fun hc19 => ?_) (fun hc19 => ?_)
      · replace h := jif_f hc19 h
        refine j_aload_n 1 dX10_goBack_25 rfl rfl ?_
        refine j_get (ci := 9) 5 (.ref 29) jC_9 dX10_goBack_26 kg_RX10_47 rfl (okX_1 _) (shX_1 _) (fvX_1_5 _) ?_
        refine j_aload_n 0 dX10_goBack_29 rfl rfl ?_
        replace h := bD_inv h
        obtain ⟨r20, σ21, cr20, h⟩ := h
        refine j_callV (ci := 6) (st1 := _) (c_X7_take g cr20) jy_X7_take ki_yX7_take ks_yX7_take kl_RX10_295 dX10_goBack_30 rfl (okX_29 _) (shX_29 _) rfl rfl rfl rfl (jbr _) (jbr _) hn.1 hn.2 (Or.inr rfl) rfl ?_
        refine j_aload_n 1 dX10_goBack_33 rfl rfl ?_
        replace h := bD_inv h
        obtain ⟨r22, σ23, cr22, h⟩ := h
        refine j_callV (ci := 9) (st1 := _) (c_X10_settle g cr22) jy_X10_settle ki_yX10_settle ks_yX10_settle kl_RX10_122 dX10_goBack_34 rfl (okX_1 _) (shX_1 _) rfl rfl rfl rfl (jbr _) (jbr _) hn.1 hn.2 (Or.inr rfl) rfl ?_
        refine j_iconst (v := 1) dX10_goBack_37 (by decide) ?_
        replace h := Option.some.inj h
        subst h
        obtain ⟨hr1, hr2⟩ := hr _ _ hK
        exact j_iret dX10_goBack_38 hr1 hr2
      · replace h := jif_t hc19 h
        refine j_sipush (v := (-1003)) dX10_goBack_21 (by decide) ?_
        replace h := Option.some.inj h
        subst h
        obtain ⟨hr1, hr2⟩ := hr _ _ hK
        exact j_iret dX10_goBack_24 hr1 hr2
  · replace h := jif_t hc7 h
    refine j_sipush (v := (-1001)) dX10_goBack_10 (by decide) ?_
    replace h := Option.some.inj h
    subst h
    obtain ⟨hr1, hr2⟩ := hr _ _ hK
    exact j_iret dX10_goBack_13 hr1 hr2
theorem c_X10_goBack (g : Bool) {σ : jS} {x1 : Int32} {r : Int32} {σ2 : jS} (h : f_X10_goBack σ x1 = some (r, σ2)) : Cn yX10_goBack cX10_goBack 3 (some .int) 6 g [.ref 1, .int x1] (eX σ) (some (.int r)) (eX σ2) :=
  Cn_of (by decide) (Nat.le_refl _) (Nat.le_refl _) (Nat.le_of_ble_eq_true rfl) (f_X10_goBack_ok (Kp := (fun o => o = (r, σ2))) σ x1 ⟨jbr _, jbr _⟩ (fun r2 s2 q => by cases q; exact ⟨rfl, rfl⟩) _ h rfl)
