def f_X0_holders (σ : jS) (x1 : Int32) : Option Int32 :=
  bC (f_X0_holder σ x1 0) fun r1 =>
  bC (f_X0_holder σ x1 1) fun r2 =>
  some ((((1 : Int32) <<< (r1 &&& 31)) ||| ((1 : Int32) <<< (r2 &&& 31))))
set_option maxHeartbeats 1000000 in
set_option maxRecDepth 20000 in
theorem f_X0_holders_ok {g : Bool} {rv : Option Value} {μ' : jM} (σ : jS) (x1 : Int32) {Kp : Int32 → Prop} (hn : Nat.ble nX μ'.1 = true ∧ Nat.ble wX μ'.2.1 = true) (hr : ∀ r : Int32, Kp (r) → rv = some (.int r) ∧ μ' = (eX σ)) (o : Int32) (h : f_X0_holders σ x1 = some o) (hK : Kp o) : J yX0_holders cX0_holders 2 (some .int) 3 g rv μ' 0 [(0, .ref 4), (1, .int x1)] [] (eX σ) := by
  unfold f_X0_holders at h
  refine j_iconst (v := 1) dX0_holders_0 (by decide) ?_
  refine j_aload_n 0 dX0_holders_1 rfl rfl ?_
  refine j_iload_n 1 dX0_holders_2 rfl rfl ?_
  refine j_iconst (v := 0) dX0_holders_3 (by decide) ?_
  replace h := bC_inv h
  obtain ⟨r3, cr3, h⟩ := h
  refine j_callV (ci := 0) (st1 := .int r3 :: _) (c_X0_holder g cr3) jy_X0_holder ki_yX0_holder ks_yX0_holder kl_RX0_105 dX0_holders_4 rfl (okX_4 _) (shX_4 _) rfl rfl rfl rfl (jbr _) (jbr _) hn.1 hn.2 (Or.inr rfl) rfl ?_
  refine j_ishl dX0_holders_7 ?_
  refine j_iconst (v := 1) dX0_holders_8 (by decide) ?_
  refine j_aload_n 0 dX0_holders_9 rfl rfl ?_
  refine j_iload_n 1 dX0_holders_10 rfl rfl ?_
  refine j_iconst (v := 1) dX0_holders_11 (by decide) ?_
  replace h := bC_inv h
  obtain ⟨r4, cr4, h⟩ := h
  refine j_callV (ci := 0) (st1 := .int r4 :: _) (c_X0_holder g cr4) jy_X0_holder ki_yX0_holder ks_yX0_holder kl_RX0_105 dX0_holders_12 rfl (okX_4 _) (shX_4 _) rfl rfl rfl rfl (jbr _) (jbr _) hn.1 hn.2 (Or.inr rfl) rfl ?_
  refine j_ishl dX0_holders_15 ?_
  refine j_ior dX0_holders_16 ?_
  replace h := Option.some.inj h
  subst h
  obtain ⟨hr1, hr2⟩ := hr _ hK
  exact j_iret dX0_holders_17 hr1 hr2
theorem c_X0_holders (g : Bool) {σ : jS} {x1 : Int32} {r : Int32} (h : f_X0_holders σ x1 = some r) : Cn yX0_holders cX0_holders 2 (some .int) 3 g [.ref 4, .int x1] (eX σ) (some (.int r)) (eX σ) :=
  Cn_of (by decide) (Nat.le_refl _) (Nat.le_refl _) (Nat.le_of_ble_eq_true rfl) (f_X0_holders_ok (Kp := (fun o => o = r)) σ x1 ⟨jbr _, jbr _⟩ (fun r2 q => by cases q; exact ⟨rfl, rfl⟩) _ h rfl)
def f_X0_holdersFound_J40 (σ : jS) (x1 : Int32) : Option Int32 :=
  some (x1)
set_option maxHeartbeats 1000000 in
set_option maxRecDepth 20000 in
theorem f_X0_holdersFound_J40_ok {g : Bool} {rv : Option Value} {μ' : jM} (σ : jS) (x1 : Int32) {Kp : Int32 → Prop} (hn : Nat.ble nX μ'.1 = true ∧ Nat.ble wX μ'.2.1 = true) (hr : ∀ r : Int32, Kp (r) → rv = some (.int r) ∧ μ' = (eX σ)) (o : Int32) (h : f_X0_holdersFound_J40 σ x1 = some o) (hK : Kp o) : J yX0_holdersFound cX0_holdersFound 3 (some .int) 4 g rv μ' 40 [(1, .int x1)] [] (eX σ) := by
  unfold f_X0_holdersFound_J40 at h
  refine j_iload_n 0 dX0_holdersFound_40 rfl rfl ?_
  replace h := Option.some.inj h
  subst h
  obtain ⟨hr1, hr2⟩ := hr _ hK
  exact j_iret dX0_holdersFound_41 hr1 hr2
def f_X0_holdersFound_B4 (σ : jS) (x1 : Int32) (x2 : Int32) : Option ((Int32 × Int32) ⊕ Int32) :=
  if (gI σ 4 1) ≤ x2 then (jw (f_X0_holdersFound_J40 σ x1))
  else (if 6272 ≤ x2 then (jw (f_X0_holdersFound_J40 σ x1))
  else (bC (f_X6_at σ 12 x2) fun r1 =>
  bC (f_X0_holders σ r1) fun r2 =>
  bV (x1 ||| r2) fun v3 =>
  bV (x2 + 1) fun v4 =>
  some (.inl (v3, v4))))
set_option maxHeartbeats 1000000 in
set_option maxRecDepth 20000 in
theorem f_X0_holdersFound_B4_ok {g : Bool} {rv : Option Value} {μ' : jM} (σ : jS) (x1 : Int32) (x2 : Int32) {Kp : ((Int32 × Int32) ⊕ Int32) → Prop} (hn : Nat.ble nX μ'.1 = true ∧ Nat.ble wX μ'.2.1 = true) (hr : ∀ r : Int32, Kp (.inr (r)) → rv = some (.int r) ∧ μ' = (eX σ)) (hc0 : ∀ s : (Int32 × Int32), Kp (.inl s) → J yX0_holdersFound cX0_holdersFound 3 (some .int) 4 g rv μ' 4 [(0, .ref 4), (1, .int s.1), (2, .int s.2)] [] (eX σ)) (o : ((Int32 × Int32) ⊕ Int32)) (h : f_X0_holdersFound_B4 σ x1 x2 = some o) (hK : Kp o) : J yX0_holdersFound cX0_holdersFound 3 (some .int) 4 g rv μ' 4 [(0, .ref 4), (1, .int x1), (2, .int x2)] [] (eX σ) := by
  unfold f_X0_holdersFound_B4 at h
  refine j_iload_n 2 dX0_holdersFound_4 rfl rfl ?_
  refine j_aload_n 0 dX0_holdersFound_5 rfl rfl ?_
  refine j_get (ci := 0) 1 (.int (gI σ 4 1)) jC_0 dX0_holdersFound_6 kg_RX0_129 rfl (okX_4 _) (shX_4 _) (fvX_4_1 _) ?_
  refine j_icmp_ge 40 dX0_holdersFound_9 (by decide) (fun hc5 => ?_) (fun hc5 => ?_)
  · replace h := jif_t hc5 h
    replace h := jw_inv h
    obtain ⟨o6, rfl, h⟩ := h
    refine j_sub [(1, .int x1)] [1] rfl ?_
    exact f_X0_holdersFound_J40_ok (Kp := fun o => Kp (.inr (o))) σ x1 hn (fun r q => hr r q) _ h hK
  · replace h := jif_f hc5 h
    refine j_iload_n 2 dX0_holdersFound_12 rfl rfl ?_
    refine j_sipush (v := 6272) dX0_holdersFound_13 (by decide) ?_
    refine j_icmp_ge 40 dX0_holdersFound_16 (by decide) (fun hc7 => ?_) (fun hc7 => ?_)
    · replace h := jif_t hc7 h
      replace h := jw_inv h
      obtain ⟨o8, rfl, h⟩ := h
      refine j_sub [(1, .int x1)] [1] rfl ?_
      exact f_X0_holdersFound_J40_ok (Kp := fun o => Kp (.inr (o))) σ x1 hn (fun r q => hr r q) _ h hK
    · replace h := jif_f hc7 h
      refine j_iload_n 1 dX0_holdersFound_19 rfl rfl ?_
      refine j_aload_n 0 dX0_holdersFound_20 rfl rfl ?_
      refine j_aload_n 0 dX0_holdersFound_21 rfl rfl ?_
      refine j_get (ci := 0) 5 (.ref 12) jC_0 dX0_holdersFound_22 kg_RX0_22 rfl (okX_4 _) (shX_4 _) (fvX_4_5 _) ?_
      refine j_iload_n 2 dX0_holdersFound_25 rfl rfl ?_
      replace h := bC_inv h
      obtain ⟨r9, cr9, h⟩ := h
      refine j_callS (st1 := .int r9 :: _) (c_X6_at g cr9) jy_X6_at kt_yX6_at kl_RX0_61 dX0_holdersFound_26 rfl rfl rfl rfl (jbr _) (jbr _) hn.1 hn.2 (Or.inr rfl) rfl ?_
      replace h := bC_inv h
      obtain ⟨r10, cr10, h⟩ := h
      refine j_callV (ci := 0) (st1 := .int r10 :: _) (c_X0_holders g cr10) jy_X0_holders ki_yX0_holders ks_yX0_holders kl_RX0_174 dX0_holdersFound_29 rfl (okX_4 _) (shX_4 _) rfl rfl rfl rfl (jbr _) (jbr _) hn.1 hn.2 (Or.inr rfl) rfl ?_
      refine j_ior dX0_holdersFound_32 ?_
      replace h := bV_inv h
      obtain ⟨v11, ev11, h⟩ := h
      refine j_nmi ev11 ?_
      refine j_istore_n [(1, .int v11), (0, .ref 4), (2, .int x2)] dX0_holdersFound_33 rfl (Nat.le_of_ble_eq_true rfl) rfl ?_
      replace h := bV_inv h
      obtain ⟨v12, ev12, h⟩ := h
      refine j_iinc (v := v12) [(2, .int v12), (1, .int v11), (0, .ref 4)] 2 dX0_holdersFound_34 rfl (by rw [ev12]; rfl) (Nat.le_of_ble_eq_true rfl) rfl ?_
      refine j_goto 4 dX0_holdersFound_37 (by decide) ?_
      replace h := Option.some.inj h
      subst h
      refine j_sub [(0, .ref 4), (1, .int v11), (2, .int v12)] [2, 1, 0] rfl ?_
      exact hc0 _ hK
def f_X0_holdersFound (σ : jS) : Option Int32 :=
  jloop jFuel (fun s => f_X0_holdersFound_B4 σ s.1 s.2) (0, 0)
set_option maxHeartbeats 1000000 in
set_option maxRecDepth 20000 in
theorem f_X0_holdersFound_ok {g : Bool} {rv : Option Value} {μ' : jM} (σ : jS) {Kp : Int32 → Prop} (hn : Nat.ble nX μ'.1 = true ∧ Nat.ble wX μ'.2.1 = true) (hr : ∀ r : Int32, Kp (r) → rv = some (.int r) ∧ μ' = (eX σ)) (o : Int32) (h : f_X0_holdersFound σ = some o) (hK : Kp o) : J yX0_holdersFound cX0_holdersFound 3 (some .int) 4 g rv μ' 0 [(0, .ref 4)] [] (eX σ) := by
  unfold f_X0_holdersFound at h
  refine j_iconst (v := 0) dX0_holdersFound_0 (by decide) ?_
  refine j_istore_n [(1, .int 0), (0, .ref 4)] dX0_holdersFound_1 rfl (Nat.le_of_ble_eq_true rfl) rfl ?_
  refine j_iconst (v := 0) dX0_holdersFound_2 (by decide) ?_
  refine j_istore_n [(2, .int 0), (1, .int 0), (0, .ref 4)] dX0_holdersFound_3 rfl (Nat.le_of_ble_eq_true rfl) rfl ?_
  refine j_sub [(0, .ref 4), (1, .int 0), (2, .int 0)] [2, 1, 0] rfl ?_
  exact jloop_ok (fun s => f_X0_holdersFound_B4 σ s.1 s.2) (fun s => J yX0_holdersFound cX0_holdersFound 3 (some .int) 4 g rv μ' 4 [(0, .ref 4), (1, .int s.1), (2, .int s.2)] [] (eX σ)) Kp (fun s o hb hk => f_X0_holdersFound_B4_ok (Kp := jsum (fun s => J yX0_holdersFound cX0_holdersFound 3 (some .int) 4 g rv μ' 4 [(0, .ref 4), (1, .int s.1), (2, .int s.2)] [] (eX σ)) Kp) σ s.1 s.2 hn (fun r q => hr r q) (fun s q => q) o hb hk) jFuel _ _ h hK
theorem c_X0_holdersFound (g : Bool) {σ : jS} {r : Int32} (h : f_X0_holdersFound σ = some r) : Cn yX0_holdersFound cX0_holdersFound 3 (some .int) 4 g [.ref 4] (eX σ) (some (.int r)) (eX σ) :=
  Cn_of (by decide) (Nat.le_refl _) (Nat.le_refl _) (Nat.le_of_ble_eq_true rfl) (f_X0_holdersFound_ok (Kp := (fun o => o = r)) σ ⟨jbr _, jbr _⟩ (fun r2 q => by cases q; exact ⟨rfl, rfl⟩) _ h rfl)
def f_X0_comeTo (σ : jS) (x1 : Int32) : Option (Unit × jS) :=
  bC (f_X6_at σ 14 x1) fun r1 =>
  if r1 = 0 then (bD (f_X6_put σ 14 x1 (-1)) fun r2 σ3 =>
  bD (f_X6_put σ3 12 (gI σ3 4 1) x1) fun r4 σ5 =>
  bV (sI σ5 4 1 ((gI σ5 4 1) + (1 : Int32))) fun σ6 =>
  some (((), σ6)))
  else (some (((), σ)))
set_option maxHeartbeats 1000000 in
set_option maxRecDepth 20000 in
theorem f_X0_comeTo_ok {g : Bool} {rv : Option Value} {μ' : jM} (σ : jS) (x1 : Int32) {Kp : (Unit × jS) → Prop} (hn : Nat.ble nX μ'.1 = true ∧ Nat.ble wX μ'.2.1 = true) (hr : ∀ (r : Unit) (s : jS), Kp ((r, s)) → rv = none ∧ μ' = eX s) (o : (Unit × jS)) (h : f_X0_comeTo σ x1 = some o) (hK : Kp o) : J yX0_comeTo cX0_comeTo 2 none 2 g rv μ' 0 [(0, .ref 4), (1, .int x1)] [] (eX σ) := by
  unfold f_X0_comeTo at h
  refine j_aload_n 0 dX0_comeTo_0 rfl rfl ?_
  refine j_get (ci := 0) 7 (.ref 14) jC_0 dX0_comeTo_1 kg_RX0_28 rfl (okX_4 _) (shX_4 _) (fvX_4_7 _) ?_
  refine j_iload_n 1 dX0_comeTo_4 rfl rfl ?_
  replace h := bC_inv h
  obtain ⟨r7, cr7, h⟩ := h
  refine j_callS (st1 := .int r7 :: _) (c_X6_at g cr7) jy_X6_at kt_yX6_at kl_RX0_61 dX0_comeTo_5 rfl rfl rfl rfl (jbr _) (jbr _) hn.1 hn.2 (Or.inr rfl) rfl ?_
  refine j_if_eq 12 dX0_comeTo_8 (by decide) (fun hc8 => ?_) (fun hc8 => ?_)
  · replace h := jif_t hc8 h
    refine j_aload_n 0 dX0_comeTo_12 rfl rfl ?_
    refine j_get (ci := 0) 7 (.ref 14) jC_0 dX0_comeTo_13 kg_RX0_28 rfl (okX_4 _) (shX_4 _) (fvX_4_7 _) ?_
    refine j_iload_n 1 dX0_comeTo_16 rfl rfl ?_
    refine j_iconst (v := (-1)) dX0_comeTo_17 (by decide) ?_
    replace h := bD_inv h
    obtain ⟨r9, σ10, cr9, h⟩ := h
    refine j_callS (st1 := _) (c_X6_put g cr9) jy_X6_put kt_yX6_put kl_RX0_146 dX0_comeTo_18 rfl rfl rfl rfl (jbr _) (jbr _) hn.1 hn.2 (Or.inr rfl) rfl ?_
    refine j_aload_n 0 dX0_comeTo_21 rfl rfl ?_
    refine j_get (ci := 0) 5 (.ref 12) jC_0 dX0_comeTo_22 kg_RX0_22 rfl (okX_4 _) (shX_4 _) (fvX_4_5 _) ?_
    refine j_aload_n 0 dX0_comeTo_25 rfl rfl ?_
    refine j_get (ci := 0) 1 (.int (gI σ10 4 1)) jC_0 dX0_comeTo_26 kg_RX0_129 rfl (okX_4 _) (shX_4 _) (fvX_4_1 _) ?_
    refine j_iload_n 1 dX0_comeTo_29 rfl rfl ?_
    replace h := bD_inv h
    obtain ⟨r11, σ12, cr11, h⟩ := h
    refine j_callS (st1 := _) (c_X6_put g cr11) jy_X6_put kt_yX6_put kl_RX0_146 dX0_comeTo_30 rfl rfl rfl rfl (jbr _) (jbr _) hn.1 hn.2 (Or.inr rfl) rfl ?_
    refine j_aload_n 0 dX0_comeTo_33 rfl rfl ?_
    refine j_dup dX0_comeTo_34 rfl ?_
    refine j_get (ci := 0) 1 (.int (gI σ12 4 1)) jC_0 dX0_comeTo_35 kg_RX0_129 rfl (okX_4 _) (shX_4 _) (fvX_4_1 _) ?_
    refine j_iconst (v := 1) dX0_comeTo_38 (by decide) ?_
    refine j_iadd dX0_comeTo_39 ?_
    replace h := bV_inv h
    obtain ⟨σ13, eσ13, h⟩ := h
    refine j_putI 1 jC_0 dX0_comeTo_40 kg_RX0_129 (Or.inl ff_0_1) rfl fk_0_1 (fn_0_1 _) (okX_4 _) (shX_4 _) ?_
    refine j_mem (congrArg eX eσ13) ?_
    replace h := Option.some.inj h
    subst h
    obtain ⟨hr1, hr2⟩ := hr _ _ hK
    exact j_vret dX0_comeTo_43 hr1 hr2
  · replace h := jif_f hc8 h
    replace h := Option.some.inj h
    subst h
    obtain ⟨hr1, hr2⟩ := hr _ _ hK
    exact j_vret dX0_comeTo_11 hr1 hr2
theorem c_X0_comeTo (g : Bool) {σ : jS} {x1 : Int32} {r : Unit} {σ2 : jS} (h : f_X0_comeTo σ x1 = some (r, σ2)) : Cn yX0_comeTo cX0_comeTo 2 none 2 g [.ref 4, .int x1] (eX σ) none (eX σ2) :=
  Cn_of (by decide) (Nat.le_refl _) (Nat.le_refl _) (Nat.le_of_ble_eq_true rfl) (f_X0_comeTo_ok (Kp := (fun o => o = (r, σ2))) σ x1 ⟨jbr _, jbr _⟩ (fun r2 s2 q => by cases q; exact ⟨rfl, rfl⟩) _ h rfl)
def f_X0_forget_J39 (σ : jS) : Option (Unit × jS) :=
  bV (sI σ 4 1 0) fun σ1 =>
  bV (sI σ1 4 2 0) fun σ2 =>
  bV (sI σ2 4 3 0) fun σ3 =>
  bD (f_X6_fill σ3 16 0) fun r4 σ5 =>
  some (((), σ5))
set_option maxHeartbeats 1000000 in
set_option maxRecDepth 20000 in
theorem f_X0_forget_J39_ok {g : Bool} {rv : Option Value} {μ' : jM} (σ : jS) {Kp : (Unit × jS) → Prop} (hn : Nat.ble nX μ'.1 = true ∧ Nat.ble wX μ'.2.1 = true) (hr : ∀ (r : Unit) (s : jS), Kp ((r, s)) → rv = none ∧ μ' = eX s) (o : (Unit × jS)) (h : f_X0_forget_J39 σ = some o) (hK : Kp o) : J yX0_forget cX0_forget 2 none 2 g rv μ' 39 [(0, .ref 4)] [] (eX σ) := by
  unfold f_X0_forget_J39 at h
  refine j_aload_n 0 dX0_forget_39 rfl rfl ?_
  refine j_iconst (v := 0) dX0_forget_40 (by decide) ?_
  replace h := bV_inv h
  obtain ⟨σ6, eσ6, h⟩ := h
  refine j_putI 1 jC_0 dX0_forget_41 kg_RX0_129 (Or.inl ff_0_1) rfl fk_0_1 (fn_0_1 _) (okX_4 _) (shX_4 _) ?_
  refine j_mem (congrArg eX eσ6) ?_
  refine j_aload_n 0 dX0_forget_44 rfl rfl ?_
  refine j_iconst (v := 0) dX0_forget_45 (by decide) ?_
  replace h := bV_inv h
  obtain ⟨σ7, eσ7, h⟩ := h
  refine j_putI 2 jC_0 dX0_forget_46 kg_RX0_136 (Or.inl ff_0_2) rfl fk_0_2 (fn_0_2 _) (okX_4 _) (shX_4 _) ?_
  refine j_mem (congrArg eX eσ7) ?_
  refine j_aload_n 0 dX0_forget_49 rfl rfl ?_
  refine j_iconst (v := 0) dX0_forget_50 (by decide) ?_
  replace h := bV_inv h
  obtain ⟨σ8, eσ8, h⟩ := h
  refine j_putI 3 jC_0 dX0_forget_51 kg_RX0_149 (Or.inl ff_0_3) rfl fk_0_3 (fn_0_3 (x := 0) rfl) (okX_4 _) (shX_4 _) ?_
  refine j_mem (congrArg eX eσ8) ?_
  refine j_aload_n 0 dX0_forget_54 rfl rfl ?_
  refine j_get (ci := 0) 9 (.ref 16) jC_0 dX0_forget_55 kg_RX0_34 rfl (okX_4 _) (shX_4 _) (fvX_4_9 _) ?_
  refine j_iconst (v := 0) dX0_forget_58 (by decide) ?_
  replace h := bD_inv h
  obtain ⟨r9, σ10, cr9, h⟩ := h
  refine j_callS (st1 := _) (c_X6_fill g cr9) jy_X6_fill kt_yX6_fill kl_RX0_153 dX0_forget_59 rfl rfl rfl rfl (jbr _) (jbr _) hn.1 hn.2 (Or.inr rfl) rfl ?_
  replace h := Option.some.inj h
  subst h
  obtain ⟨hr1, hr2⟩ := hr _ _ hK
  exact j_vret dX0_forget_62 hr1 hr2
def f_X0_forget_B2 (σ : jS) (x1 : Int32) : Option ((Int32 × jS) ⊕ (Unit × jS)) :=
  if (gI σ 4 1) ≤ x1 then (jw (f_X0_forget_J39 σ))
  else (if 6272 ≤ x1 then (jw (f_X0_forget_J39 σ))
  else (bC (f_X6_at σ 12 x1) fun r11 =>
  bD (f_X6_put σ 14 r11 0) fun r12 σ13 =>
  bV (x1 + 1) fun v14 =>
  some (.inl (v14, σ13))))
set_option maxHeartbeats 1000000 in
set_option maxRecDepth 20000 in
theorem f_X0_forget_B2_ok {g : Bool} {rv : Option Value} {μ' : jM} (σ : jS) (x1 : Int32) {Kp : ((Int32 × jS) ⊕ (Unit × jS)) → Prop} (hn : Nat.ble nX μ'.1 = true ∧ Nat.ble wX μ'.2.1 = true) (hr : ∀ (r : Unit) (s : jS), Kp (.inr ((r, s))) → rv = none ∧ μ' = eX s) (hc0 : ∀ s : (Int32 × jS), Kp (.inl s) → J yX0_forget cX0_forget 2 none 2 g rv μ' 2 [(0, .ref 4), (1, .int s.1)] [] (eX s.2)) (o : ((Int32 × jS) ⊕ (Unit × jS))) (h : f_X0_forget_B2 σ x1 = some o) (hK : Kp o) : J yX0_forget cX0_forget 2 none 2 g rv μ' 2 [(0, .ref 4), (1, .int x1)] [] (eX σ) := by
  unfold f_X0_forget_B2 at h
  refine j_iload_n 1 dX0_forget_2 rfl rfl ?_
  refine j_aload_n 0 dX0_forget_3 rfl rfl ?_
  refine j_get (ci := 0) 1 (.int (gI σ 4 1)) jC_0 dX0_forget_4 kg_RX0_129 rfl (okX_4 _) (shX_4 _) (fvX_4_1 _) ?_
  refine j_icmp_ge 39 dX0_forget_7 (by decide) (fun hc15 => ?_) (fun hc15 => ?_)
  · replace h := jif_t hc15 h
    replace h := jw_inv h
    obtain ⟨o16, rfl, h⟩ := h
    refine j_sub [(0, .ref 4)] [0] rfl ?_
    exact f_X0_forget_J39_ok (Kp := fun o => Kp (.inr (o))) σ hn (fun r s q => hr r s q) _ h hK
  · replace h := jif_f hc15 h
    refine j_iload_n 1 dX0_forget_10 rfl rfl ?_
    refine j_sipush (v := 6272) dX0_forget_11 (by decide) ?_
    refine j_icmp_ge 39 dX0_forget_14 (by decide) (fun hc17 => ?_) (fun hc17 => ?_)
    · replace h := jif_t hc17 h
      replace h := jw_inv h
      obtain ⟨o18, rfl, h⟩ := h
      refine j_sub [(0, .ref 4)] [0] rfl ?_
      exact f_X0_forget_J39_ok (Kp := fun o => Kp (.inr (o))) σ hn (fun r s q => hr r s q) _ h hK
    · replace h := jif_f hc17 h
      refine j_aload_n 0 dX0_forget_17 rfl rfl ?_
      refine j_get (ci := 0) 7 (.ref 14) jC_0 dX0_forget_18 kg_RX0_28 rfl (okX_4 _) (shX_4 _) (fvX_4_7 _) ?_
      refine j_aload_n 0 dX0_forget_21 rfl rfl ?_
      refine j_get (ci := 0) 5 (.ref 12) jC_0 dX0_forget_22 kg_RX0_22 rfl (okX_4 _) (shX_4 _) (fvX_4_5 _) ?_
      refine j_iload_n 1 dX0_forget_25 rfl rfl ?_
      replace h := bC_inv h
      obtain ⟨r19, cr19, h⟩ := h
      refine j_callS (st1 := .int r19 :: _) (c_X6_at g cr19) jy_X6_at kt_yX6_at kl_RX0_61 dX0_forget_26 rfl rfl rfl rfl (jbr _) (jbr _) hn.1 hn.2 (Or.inr rfl) rfl ?_
      refine j_iconst (v := 0) dX0_forget_29 (by decide) ?_
      replace h := bD_inv h
      obtain ⟨r20, σ21, cr20, h⟩ := h
      refine j_callS (st1 := _) (c_X6_put g cr20) jy_X6_put kt_yX6_put kl_RX0_146 dX0_forget_30 rfl rfl rfl rfl (jbr _) (jbr _) hn.1 hn.2 (Or.inr rfl) rfl ?_
      replace h := bV_inv h
      obtain ⟨v22, ev22, h⟩ := h
      refine j_iinc (v := v22) [(1, .int v22), (0, .ref 4)] 1 dX0_forget_33 rfl (by rw [ev22]; rfl) (Nat.le_of_ble_eq_true rfl) rfl ?_
      refine j_goto 2 dX0_forget_36 (by decide) ?_
      replace h := Option.some.inj h
      subst h
      refine j_sub [(0, .ref 4), (1, .int v22)] [1, 0] rfl ?_
      exact hc0 _ hK
def f_X0_forget (σ : jS) : Option (Unit × jS) :=
  jloop jFuel (fun s => f_X0_forget_B2 s.2 s.1) (0, σ)
set_option maxHeartbeats 1000000 in
set_option maxRecDepth 20000 in
theorem f_X0_forget_ok {g : Bool} {rv : Option Value} {μ' : jM} (σ : jS) {Kp : (Unit × jS) → Prop} (hn : Nat.ble nX μ'.1 = true ∧ Nat.ble wX μ'.2.1 = true) (hr : ∀ (r : Unit) (s : jS), Kp ((r, s)) → rv = none ∧ μ' = eX s) (o : (Unit × jS)) (h : f_X0_forget σ = some o) (hK : Kp o) : J yX0_forget cX0_forget 2 none 2 g rv μ' 0 [(0, .ref 4)] [] (eX σ) := by
  unfold f_X0_forget at h
  refine j_iconst (v := 0) dX0_forget_0 (by decide) ?_
  refine j_istore_n [(1, .int 0), (0, .ref 4)] dX0_forget_1 rfl (Nat.le_of_ble_eq_true rfl) rfl ?_
  refine j_sub [(0, .ref 4), (1, .int 0)] [1, 0] rfl ?_
  exact jloop_ok (fun s => f_X0_forget_B2 s.2 s.1) (fun s => J yX0_forget cX0_forget 2 none 2 g rv μ' 2 [(0, .ref 4), (1, .int s.1)] [] (eX s.2)) Kp (fun s o hb hk => f_X0_forget_B2_ok (Kp := jsum (fun s => J yX0_forget cX0_forget 2 none 2 g rv μ' 2 [(0, .ref 4), (1, .int s.1)] [] (eX s.2)) Kp) s.2 s.1 hn (fun r s q => hr r s q) (fun s q => q) o hb hk) jFuel _ _ h hK
theorem c_X0_forget (g : Bool) {σ : jS} {r : Unit} {σ2 : jS} (h : f_X0_forget σ = some (r, σ2)) : Cn yX0_forget cX0_forget 2 none 2 g [.ref 4] (eX σ) none (eX σ2) :=
  Cn_of (by decide) (Nat.le_refl _) (Nat.le_refl _) (Nat.le_of_ble_eq_true rfl) (f_X0_forget_ok (Kp := (fun o => o = (r, σ2))) σ ⟨jbr _, jbr _⟩ (fun r2 s2 q => by cases q; exact ⟨rfl, rfl⟩) _ h rfl)
def f_X0_settle (σ : jS) (x1 : Int32) (x2 : Int32) : Option (Unit × jS) :=
  bD (f_X6_put σ 14 x1 x2) fun r1 σ2 =>
  bD (f_X6_put σ2 13 (gI σ2 4 2) x1) fun r3 σ4 =>
  bV (sI σ4 4 2 ((gI σ4 4 2) + (1 : Int32))) fun σ5 =>
  some (((), σ5))
set_option maxHeartbeats 1000000 in
set_option maxRecDepth 20000 in
theorem f_X0_settle_ok {g : Bool} {rv : Option Value} {μ' : jM} (σ : jS) (x1 : Int32) (x2 : Int32) {Kp : (Unit × jS) → Prop} (hn : Nat.ble nX μ'.1 = true ∧ Nat.ble wX μ'.2.1 = true) (hr : ∀ (r : Unit) (s : jS), Kp ((r, s)) → rv = none ∧ μ' = eX s) (o : (Unit × jS)) (h : f_X0_settle σ x1 x2 = some o) (hK : Kp o) : J yX0_settle cX0_settle 3 none 2 g rv μ' 0 [(0, .ref 4), (1, .int x1), (2, .int x2)] [] (eX σ) := by
  unfold f_X0_settle at h
  refine j_aload_n 0 dX0_settle_0 rfl rfl ?_
  refine j_get (ci := 0) 7 (.ref 14) jC_0 dX0_settle_1 kg_RX0_28 rfl (okX_4 _) (shX_4 _) (fvX_4_7 _) ?_
  refine j_iload_n 1 dX0_settle_4 rfl rfl ?_
  refine j_iload_n 2 dX0_settle_5 rfl rfl ?_
  replace h := bD_inv h
  obtain ⟨r6, σ7, cr6, h⟩ := h
  refine j_callS (st1 := _) (c_X6_put g cr6) jy_X6_put kt_yX6_put kl_RX0_146 dX0_settle_6 rfl rfl rfl rfl (jbr _) (jbr _) hn.1 hn.2 (Or.inr rfl) rfl ?_
  refine j_aload_n 0 dX0_settle_9 rfl rfl ?_
  refine j_get (ci := 0) 6 (.ref 13) jC_0 dX0_settle_10 kg_RX0_25 rfl (okX_4 _) (shX_4 _) (fvX_4_6 _) ?_
  refine j_aload_n 0 dX0_settle_13 rfl rfl ?_
  refine j_get (ci := 0) 2 (.int (gI σ7 4 2)) jC_0 dX0_settle_14 kg_RX0_136 rfl (okX_4 _) (shX_4 _) (fvX_4_2 _) ?_
  refine j_iload_n 1 dX0_settle_17 rfl rfl ?_
  replace h := bD_inv h
  obtain ⟨r8, σ9, cr8, h⟩ := h
  refine j_callS (st1 := _) (c_X6_put g cr8) jy_X6_put kt_yX6_put kl_RX0_146 dX0_settle_18 rfl rfl rfl rfl (jbr _) (jbr _) hn.1 hn.2 (Or.inr rfl) rfl ?_
  refine j_aload_n 0 dX0_settle_21 rfl rfl ?_
  refine j_dup dX0_settle_22 rfl ?_
  refine j_get (ci := 0) 2 (.int (gI σ9 4 2)) jC_0 dX0_settle_23 kg_RX0_136 rfl (okX_4 _) (shX_4 _) (fvX_4_2 _) ?_
  refine j_iconst (v := 1) dX0_settle_26 (by decide) ?_
  refine j_iadd dX0_settle_27 ?_
  replace h := bV_inv h
  obtain ⟨σ10, eσ10, h⟩ := h
  refine j_putI 2 jC_0 dX0_settle_28 kg_RX0_136 (Or.inl ff_0_2) rfl fk_0_2 (fn_0_2 _) (okX_4 _) (shX_4 _) ?_
  refine j_mem (congrArg eX eσ10) ?_
  replace h := Option.some.inj h
  subst h
  obtain ⟨hr1, hr2⟩ := hr _ _ hK
  exact j_vret dX0_settle_31 hr1 hr2
theorem c_X0_settle (g : Bool) {σ : jS} {x1 : Int32} {x2 : Int32} {r : Unit} {σ2 : jS} (h : f_X0_settle σ x1 x2 = some (r, σ2)) : Cn yX0_settle cX0_settle 3 none 2 g [.ref 4, .int x1, .int x2] (eX σ) none (eX σ2) :=
  Cn_of (by decide) (Nat.le_refl _) (Nat.le_refl _) (Nat.le_of_ble_eq_true rfl) (f_X0_settle_ok (Kp := (fun o => o = (r, σ2))) σ x1 x2 ⟨jbr _, jbr _⟩ (fun r2 s2 q => by cases q; exact ⟨rfl, rfl⟩) _ h rfl)
def f_X0_solveOneWay_J40 (σ : jS) : Option (Unit × jS) :=
  some (((), σ))
set_option maxHeartbeats 1000000 in
set_option maxRecDepth 20000 in
theorem f_X0_solveOneWay_J40_ok {g : Bool} {rv : Option Value} {μ' : jM} (σ : jS) {Kp : (Unit × jS) → Prop} (hn : Nat.ble nX μ'.1 = true ∧ Nat.ble wX μ'.2.1 = true) (hr : ∀ (r : Unit) (s : jS), Kp ((r, s)) → rv = none ∧ μ' = eX s) (o : (Unit × jS)) (h : f_X0_solveOneWay_J40 σ = some o) (hK : Kp o) : J yX0_solveOneWay cX0_solveOneWay 5 none 3 g rv μ' 40 [] [] (eX σ) := by
  unfold f_X0_solveOneWay_J40 at h
  replace h := Option.some.inj h
  subst h
  obtain ⟨hr1, hr2⟩ := hr _ _ hK
  exact j_vret dX0_solveOneWay_40 hr1 hr2
def f_X0_solveOneWay_J34 (σ : jS) (x1 : Int32) (x2 : Int32) : Option (Unit × jS) :=
  bD (f_X0_settle σ x1 x2) fun r5 σ6 =>
  f_X0_solveOneWay_J40 σ6
set_option maxHeartbeats 1000000 in
set_option maxRecDepth 20000 in
theorem f_X0_solveOneWay_J34_ok {g : Bool} {rv : Option Value} {μ' : jM} (σ : jS) (x1 : Int32) (x2 : Int32) {Kp : (Unit × jS) → Prop} (hn : Nat.ble nX μ'.1 = true ∧ Nat.ble wX μ'.2.1 = true) (hr : ∀ (r : Unit) (s : jS), Kp ((r, s)) → rv = none ∧ μ' = eX s) (o : (Unit × jS)) (h : f_X0_solveOneWay_J34 σ x1 x2 = some o) (hK : Kp o) : J yX0_solveOneWay cX0_solveOneWay 5 none 3 g rv μ' 34 [(0, .ref 4), (1, .int x1), (2, .int x2)] [] (eX σ) := by
  unfold f_X0_solveOneWay_J34 at h
  refine j_aload_n 0 dX0_solveOneWay_34 rfl rfl ?_
  refine j_iload_n 1 dX0_solveOneWay_35 rfl rfl ?_
  refine j_iload_n 2 dX0_solveOneWay_36 rfl rfl ?_
  replace h := bD_inv h
  obtain ⟨r7, σ8, cr7, h⟩ := h
  refine j_callV (ci := 0) (st1 := _) (c_X0_settle g cr7) jy_X0_settle ki_yX0_settle ks_yX0_settle kl_RX0_157 dX0_solveOneWay_37 rfl (okX_4 _) (shX_4 _) rfl rfl rfl rfl (jbr _) (jbr _) hn.1 hn.2 (Or.inr rfl) rfl ?_
  refine j_sub [] [] rfl ?_
  exact f_X0_solveOneWay_J40_ok σ8 hn hr _ h hK
def f_X0_solveOneWay (σ : jS) (x1 : Int32) (x2 : Int32) (x3 : Int32) : Option (Unit × jS) :=
  bC (f_X6_at σ 15 x1) fun r1 =>
  bV (r1 - (1 : Int32)) fun v2 =>
  bD (f_X6_put σ 15 x1 v2) fun r3 σ4 =>
  if (x1 &&& (1 : Int32)) = x3 then (f_X0_solveOneWay_J34 σ4 x1 x2)
  else (if v2 = 0 then (f_X0_solveOneWay_J34 σ4 x1 x2)
  else (f_X0_solveOneWay_J40 σ4))
set_option maxHeartbeats 1000000 in
set_option maxRecDepth 20000 in
theorem f_X0_solveOneWay_ok {g : Bool} {rv : Option Value} {μ' : jM} (σ : jS) (x1 : Int32) (x2 : Int32) (x3 : Int32) {Kp : (Unit × jS) → Prop} (hn : Nat.ble nX μ'.1 = true ∧ Nat.ble wX μ'.2.1 = true) (hr : ∀ (r : Unit) (s : jS), Kp ((r, s)) → rv = none ∧ μ' = eX s) (o : (Unit × jS)) (h : f_X0_solveOneWay σ x1 x2 x3 = some o) (hK : Kp o) : J yX0_solveOneWay cX0_solveOneWay 5 none 3 g rv μ' 0 [(0, .ref 4), (1, .int x1), (2, .int x2), (3, .int x3)] [] (eX σ) := by
  unfold f_X0_solveOneWay at h
  refine j_aload_n 0 dX0_solveOneWay_0 rfl rfl ?_
  refine j_get (ci := 0) 8 (.ref 15) jC_0 dX0_solveOneWay_1 kg_RX0_31 rfl (okX_4 _) (shX_4 _) (fvX_4_8 _) ?_
  refine j_iload_n 1 dX0_solveOneWay_4 rfl rfl ?_
  replace h := bC_inv h
  obtain ⟨r9, cr9, h⟩ := h
  refine j_callS (st1 := .int r9 :: _) (c_X6_at g cr9) jy_X6_at kt_yX6_at kl_RX0_61 dX0_solveOneWay_5 rfl rfl rfl rfl (jbr _) (jbr _) hn.1 hn.2 (Or.inr rfl) rfl ?_
  refine j_iconst (v := 1) dX0_solveOneWay_8 (by decide) ?_
  refine j_isub dX0_solveOneWay_9 ?_
  replace h := bV_inv h
  obtain ⟨v10, ev10, h⟩ := h
  refine j_nmi ev10 ?_
  refine j_istore [(4, .int v10), (0, .ref 4), (1, .int x1), (2, .int x2), (3, .int x3)] dX0_solveOneWay_10 (Nat.le_of_ble_eq_true rfl) rfl ?_
  refine j_aload_n 1 dX0_solveOneWay_12 rfl rfl ?_
  refine j_get (ci := 0) 8 (.ref 15) jC_0 dX0_solveOneWay_13 kg_RX0_31 rfl (okX_4 _) (shX_4 _) (fvX_4_8 _) ?_
  refine j_iload_n 2 dX0_solveOneWay_16 rfl rfl ?_
  refine j_iload 0 dX0_solveOneWay_17 rfl ?_
  replace h := bD_inv h
  obtain ⟨r11, σ12, cr11, h⟩ := h
  refine j_callS (st1 := _) (c_X6_put g cr11) jy_X6_put kt_yX6_put kl_RX0_146 dX0_solveOneWay_19 rfl rfl rfl rfl (jbr _) (jbr _) hn.1 hn.2 (Or.inr rfl) rfl ?_
  refine j_iload_n 2 dX0_solveOneWay_22 rfl rfl ?_
  refine j_iconst (v := 1) dX0_solveOneWay_23 (by decide) ?_
  refine j_iand dX0_solveOneWay_24 ?_
  refine j_iload_n 4 dX0_solveOneWay_25 rfl rfl ?_
  refine j_icmp_eq 34 dX0_solveOneWay_26 (by decide) (fun hc13 => ?_) (fun hc13 => ?_)
  · replace h := jif_t hc13 h
    refine j_sub [(0, .ref 4), (1, .int x1), (2, .int x2)] [1, 2, 3] rfl ?_
    exact f_X0_solveOneWay_J34_ok σ12 x1 x2 hn hr _ h hK
  · replace h := jif_f hc13 h
    refine j_iload 0 dX0_solveOneWay_29 rfl ?_
    refine j_if_ne 40 dX0_solveOneWay_31 (by decide) (fun hc14 => ?_) (fun hc14 => ?_)
    · replace h := jif_f hc14 h
      refine j_sub [] [] rfl ?_
      exact f_X0_solveOneWay_J40_ok σ12 hn hr _ h hK
    · replace h := jif_t hc14 h
      refine j_sub [(0, .ref 4), (1, .int x1), (2, .int x2)] [1, 2, 3] rfl ?_
      exact f_X0_solveOneWay_J34_ok σ12 x1 x2 hn hr _ h hK
theorem c_X0_solveOneWay (g : Bool) {σ : jS} {x1 : Int32} {x2 : Int32} {x3 : Int32} {r : Unit} {σ2 : jS} (h : f_X0_solveOneWay σ x1 x2 x3 = some (r, σ2)) : Cn yX0_solveOneWay cX0_solveOneWay 5 none 3 g [.ref 4, .int x1, .int x2, .int x3] (eX σ) none (eX σ2) :=
  Cn_of (by decide) (Nat.le_refl _) (Nat.le_refl _) (Nat.le_of_ble_eq_true rfl) (f_X0_solveOneWay_ok (Kp := (fun o => o = (r, σ2))) σ x1 x2 x3 ⟨jbr _, jbr _⟩ (fun r2 s2 q => by cases q; exact ⟨rfl, rfl⟩) _ h rfl)
def f_X0_lookBack_J170 (σ : jS) : Option (Unit × jS) :=
  some (((), σ))
set_option maxHeartbeats 1000000 in
set_option maxRecDepth 20000 in
theorem f_X0_lookBack_J170_ok {g : Bool} {rv : Option Value} {μ' : jM} (σ : jS) {Kp : (Unit × jS) → Prop} (hn : Nat.ble nX μ'.1 = true ∧ Nat.ble wX μ'.2.1 = true) (hr : ∀ (r : Unit) (s : jS), Kp ((r, s)) → rv = none ∧ μ' = eX s) (o : (Unit × jS)) (h : f_X0_lookBack_J170 σ = some o) (hK : Kp o) : J yX0_lookBack cX0_lookBack 10 none 4 g rv μ' 170 [] [] (eX σ) := by
  unfold f_X0_lookBack_J170 at h
  replace h := Option.some.inj h
  subst h
  obtain ⟨hr1, hr2⟩ := hr _ _ hK
  exact j_vret dX0_lookBack_170 hr1 hr2
def f_X0_lookBack_J123 (σ : jS) (x1 : Int32) (x2 : Int32) (x3 : Int32) : Option (Unit × jS) :=
  bV (x1 ^^^ (1 : Int32)) fun v7 =>
  bC (f_X6_at σ 14 v7) fun r8 =>
  if r8 = (-1) then (bC (f_X0_onwardOf σ v7) fun r9 =>
  if (lg_cmp r9 0) = 0 then (bC (f_X0_onwardOf σ x1) fun r10 =>
  if (lg_cmp r10 0) = 0 then (f_X0_lookBack_J170 σ)
  else (bD (f_X0_solveOneWay σ v7 x3 x2) fun r11 σ12 =>
  f_X0_lookBack_J170 σ12))
  else (f_X0_lookBack_J170 σ))
  else (f_X0_lookBack_J170 σ)
set_option maxHeartbeats 1000000 in
set_option maxRecDepth 20000 in
theorem f_X0_lookBack_J123_ok {g : Bool} {rv : Option Value} {μ' : jM} (σ : jS) (x1 : Int32) (x2 : Int32) (x3 : Int32) {Kp : (Unit × jS) → Prop} (hn : Nat.ble nX μ'.1 = true ∧ Nat.ble wX μ'.2.1 = true) (hr : ∀ (r : Unit) (s : jS), Kp ((r, s)) → rv = none ∧ μ' = eX s) (o : (Unit × jS)) (h : f_X0_lookBack_J123 σ x1 x2 x3 = some o) (hK : Kp o) : J yX0_lookBack cX0_lookBack 10 none 4 g rv μ' 123 [(0, .ref 4), (1, .int x1), (2, .int x2), (3, .int x3)] [] (eX σ) := by
  unfold f_X0_lookBack_J123 at h
  refine j_iload_n 1 dX0_lookBack_123 rfl rfl ?_
  refine j_iconst (v := 1) dX0_lookBack_124 (by decide) ?_
  refine j_ixor dX0_lookBack_125 ?_
  replace h := bV_inv h
  obtain ⟨v13, ev13, h⟩ := h
  refine j_nmi ev13 ?_
  refine j_istore [(7, .int v13), (0, .ref 4), (1, .int x1), (2, .int x2), (3, .int x3)] dX0_lookBack_126 (Nat.le_of_ble_eq_true rfl) rfl ?_
  refine j_aload_n 1 dX0_lookBack_128 rfl rfl ?_
  refine j_get (ci := 0) 7 (.ref 14) jC_0 dX0_lookBack_129 kg_RX0_28 rfl (okX_4 _) (shX_4 _) (fvX_4_7 _) ?_
  refine j_iload 0 dX0_lookBack_132 rfl ?_
  replace h := bC_inv h
  obtain ⟨r14, cr14, h⟩ := h
  refine j_callS (st1 := .int r14 :: _) (c_X6_at g cr14) jy_X6_at kt_yX6_at kl_RX0_61 dX0_lookBack_134 rfl rfl rfl rfl (jbr _) (jbr _) hn.1 hn.2 (Or.inr rfl) rfl ?_
  refine j_iconst (v := (-1)) dX0_lookBack_137 (by decide) ?_
  refine j_icmp_ne 170 dX0_lookBack_138 (by decide) (fun hc15 => ?_) (fun hc15 => ?_)
  · replace h := jif_f hc15 h
    refine j_sub [] [] rfl ?_
    exact f_X0_lookBack_J170_ok σ hn hr _ h hK
  · replace h := jif_t hc15 h
    refine j_aload_n 1 dX0_lookBack_141 rfl rfl ?_
    refine j_iload 0 dX0_lookBack_142 rfl ?_
    replace h := bC_inv h
    obtain ⟨r16, cr16, h⟩ := h
    refine j_callV (ci := 0) (st1 := .long r16 :: _) (c_X0_onwardOf g cr16) jy_X0_onwardOf ki_yX0_onwardOf ks_yX0_onwardOf kl_RX0_72 dX0_lookBack_144 rfl (okX_4 _) (shX_4 _) rfl rfl rfl rfl (jbr _) (jbr _) hn.1 hn.2 (Or.inr rfl) rfl ?_
    refine j_lconst (v := 0) dX0_lookBack_147 (by decide) ?_
    refine j_lcmp dX0_lookBack_148 ?_
    refine j_if_ne 170 dX0_lookBack_149 (by decide) (fun hc17 => ?_) (fun hc17 => ?_)
    · replace h := jif_f hc17 h
      refine j_sub [] [] rfl ?_
      exact f_X0_lookBack_J170_ok σ hn hr _ h hK
    · replace h := jif_t hc17 h
      refine j_aload_n 1 dX0_lookBack_152 rfl rfl ?_
      refine j_iload_n 2 dX0_lookBack_153 rfl rfl ?_
      replace h := bC_inv h
      obtain ⟨r18, cr18, h⟩ := h
      refine j_callV (ci := 0) (st1 := .long r18 :: _) (c_X0_onwardOf g cr18) jy_X0_onwardOf ki_yX0_onwardOf ks_yX0_onwardOf kl_RX0_72 dX0_lookBack_154 rfl (okX_4 _) (shX_4 _) rfl rfl rfl rfl (jbr _) (jbr _) hn.1 hn.2 (Or.inr rfl) rfl ?_
      refine j_lconst (v := 0) dX0_lookBack_157 (by decide) ?_
      refine j_lcmp dX0_lookBack_158 ?_
      refine j_if_eq 170 dX0_lookBack_159 (by decide) (fun hc19 => ?_) (fun hc19 => ?_)
      · replace h := jif_t hc19 h
        refine j_sub [] [] rfl ?_
        exact f_X0_lookBack_J170_ok σ hn hr _ h hK
      · replace h := jif_f hc19 h
        refine j_aload_n 1 dX0_lookBack_162 rfl rfl ?_
        refine j_iload 0 dX0_lookBack_163 rfl ?_
        refine j_iload_n 4 dX0_lookBack_165 rfl rfl ?_
        refine j_iload_n 3 dX0_lookBack_166 rfl rfl ?_
        replace h := bD_inv h
        obtain ⟨r20, σ21, cr20, h⟩ := h
        refine j_callV (ci := 0) (st1 := _) (c_X0_solveOneWay g cr20) jy_X0_solveOneWay ki_yX0_solveOneWay ks_yX0_solveOneWay kl_RX0_163 dX0_lookBack_167 rfl (okX_4 _) (shX_4 _) rfl rfl rfl rfl (jbr _) (jbr _) hn.1 hn.2 (Or.inr rfl) rfl ?_
        refine j_sub [] [] rfl ?_
        exact f_X0_lookBack_J170_ok σ21 hn hr _ h hK
def f_X0_lookBack_J117 (σ : jS) (x1 : Int32) (x2 : Int32) (x3 : Int32) (x4 : Int32) (x5 : Int64) (x7 : Int32) : Option ((Int64 × Int32 × jS) ⊕ (Unit × jS)) :=
  bV (x7 + (-1)) fun v27 =>
  some (.inl (x5, v27, σ))
set_option maxHeartbeats 1000000 in
set_option maxRecDepth 20000 in
theorem f_X0_lookBack_J117_ok {g : Bool} {rv : Option Value} {μ' : jM} (σ : jS) (x1 : Int32) (x2 : Int32) (x3 : Int32) (x4 : Int32) (x5 : Int64) (x7 : Int32) {Kp : ((Int64 × Int32 × jS) ⊕ (Unit × jS)) → Prop} (hn : Nat.ble nX μ'.1 = true ∧ Nat.ble wX μ'.2.1 = true) (hr : ∀ (r : Unit) (s : jS), Kp (.inr ((r, s))) → rv = none ∧ μ' = eX s) (hc0 : ∀ s : (Int64 × Int32 × jS), Kp (.inl s) → J yX0_lookBack cX0_lookBack 10 none 4 g rv μ' 43 [(0, .ref 4), (1, .int x1), (2, .int x2), (3, .int x3), (4, .int x4), (5, .long s.1), (7, .int s.2.1)] [] (eX s.2.2)) (o : ((Int64 × Int32 × jS) ⊕ (Unit × jS))) (h : f_X0_lookBack_J117 σ x1 x2 x3 x4 x5 x7 = some o) (hK : Kp o) : J yX0_lookBack cX0_lookBack 10 none 4 g rv μ' 117 [(0, .ref 4), (1, .int x1), (2, .int x2), (3, .int x3), (4, .int x4), (5, .long x5), (7, .int x7)] [] (eX σ) := by
  unfold f_X0_lookBack_J117 at h
  replace h := bV_inv h
  obtain ⟨v28, ev28, h⟩ := h
  refine j_iinc (v := v28) [(7, .int v28), (0, .ref 4), (1, .int x1), (2, .int x2), (3, .int x3), (4, .int x4), (5, .long x5)] 6 dX0_lookBack_117 rfl (by rw [ev28]; rfl) (Nat.le_of_ble_eq_true rfl) rfl ?_
  refine j_goto 43 dX0_lookBack_120 (by decide) ?_
  replace h := Option.some.inj h
  subst h
  refine j_sub [(0, .ref 4), (1, .int x1), (2, .int x2), (3, .int x3), (4, .int x4), (5, .long x5), (7, .int v28)] [1, 2, 3, 4, 5, 6, 0] rfl ?_
  exact hc0 _ hK
def f_X0_lookBack_J94 (σ : jS) (x1 : Int32) (x2 : Int32) (x3 : Int32) (x4 : Int32) (x5 : Int64) (x7 : Int32) (y0 : Int32) : Option ((Int64 × Int32 × jS) ⊕ (Unit × jS)) :=
  bC (f_X6_at σ 14 y0) fun r26 =>
  if r26 = (-1) then (bD (f_X0_solveOneWay σ y0 x3 x2) fun r29 σ30 =>
  f_X0_lookBack_J117 σ30 x1 x2 x3 x4 x5 x7)
  else (f_X0_lookBack_J117 σ x1 x2 x3 x4 x5 x7)
set_option maxHeartbeats 1000000 in
set_option maxRecDepth 20000 in
theorem f_X0_lookBack_J94_ok {g : Bool} {rv : Option Value} {μ' : jM} (σ : jS) (x1 : Int32) (x2 : Int32) (x3 : Int32) (x4 : Int32) (x5 : Int64) (x7 : Int32) (y0 : Int32) {Kp : ((Int64 × Int32 × jS) ⊕ (Unit × jS)) → Prop} (hn : Nat.ble nX μ'.1 = true ∧ Nat.ble wX μ'.2.1 = true) (hr : ∀ (r : Unit) (s : jS), Kp (.inr ((r, s))) → rv = none ∧ μ' = eX s) (hc0 : ∀ s : (Int64 × Int32 × jS), Kp (.inl s) → J yX0_lookBack cX0_lookBack 10 none 4 g rv μ' 43 [(0, .ref 4), (1, .int x1), (2, .int x2), (3, .int x3), (4, .int x4), (5, .long s.1), (7, .int s.2.1)] [] (eX s.2.2)) (o : ((Int64 × Int32 × jS) ⊕ (Unit × jS))) (h : f_X0_lookBack_J94 σ x1 x2 x3 x4 x5 x7 y0 = some o) (hK : Kp o) : J yX0_lookBack cX0_lookBack 10 none 4 g rv μ' 94 [(0, .ref 4), (1, .int x1), (2, .int x2), (3, .int x3), (4, .int x4), (5, .long x5), (7, .int x7)] [.int y0] (eX σ) := by
  unfold f_X0_lookBack_J94 at h
  refine j_istore [(9, .int y0), (0, .ref 4), (1, .int x1), (2, .int x2), (3, .int x3), (4, .int x4), (5, .long x5), (7, .int x7)] dX0_lookBack_94 (Nat.le_of_ble_eq_true rfl) rfl ?_
  refine j_aload_n 1 dX0_lookBack_96 rfl rfl ?_
  refine j_get (ci := 0) 7 (.ref 14) jC_0 dX0_lookBack_97 kg_RX0_28 rfl (okX_4 _) (shX_4 _) (fvX_4_7 _) ?_
  refine j_iload 0 dX0_lookBack_100 rfl ?_
  replace h := bC_inv h
  obtain ⟨r31, cr31, h⟩ := h
  refine j_callS (st1 := .int r31 :: _) (c_X6_at g cr31) jy_X6_at kt_yX6_at kl_RX0_61 dX0_lookBack_102 rfl rfl rfl rfl (jbr _) (jbr _) hn.1 hn.2 (Or.inr rfl) rfl ?_
  refine j_iconst (v := (-1)) dX0_lookBack_105 (by decide) ?_
  refine j_icmp_ne 117 dX0_lookBack_106 (by decide) (fun hc32 => ?_) (fun hc32 => ?_)
  · replace h := jif_f hc32 h
    refine j_sub [(0, .ref 4), (1, .int x1), (2, .int x2), (3, .int x3), (4, .int x4), (5, .long x5), (7, .int x7)] [1, 2, 3, 4, 5, 6, 7] rfl ?_
    exact f_X0_lookBack_J117_ok σ x1 x2 x3 x4 x5 x7 hn hr hc0 _ h hK
  · replace h := jif_t hc32 h
    refine j_aload_n 1 dX0_lookBack_109 rfl rfl ?_
    refine j_iload 0 dX0_lookBack_110 rfl ?_
    refine j_iload_n 4 dX0_lookBack_112 rfl rfl ?_
    refine j_iload_n 3 dX0_lookBack_113 rfl rfl ?_
    replace h := bD_inv h
    obtain ⟨r33, σ34, cr33, h⟩ := h
    refine j_callV (ci := 0) (st1 := _) (c_X0_solveOneWay g cr33) jy_X0_solveOneWay ki_yX0_solveOneWay ks_yX0_solveOneWay kl_RX0_163 dX0_lookBack_114 rfl (okX_4 _) (shX_4 _) rfl rfl rfl rfl (jbr _) (jbr _) hn.1 hn.2 (Or.inr rfl) rfl ?_
    refine j_sub [(0, .ref 4), (1, .int x1), (2, .int x2), (3, .int x3), (4, .int x4), (5, .long x5), (7, .int x7)] [1, 2, 3, 4, 5, 6, 7] rfl ?_
    exact f_X0_lookBack_J117_ok σ34 x1 x2 x3 x4 x5 x7 hn hr hc0 _ h hK
def f_X0_lookBack_B43 (σ : jS) (x1 : Int32) (x2 : Int32) (x3 : Int32) (x4 : Int32) (x5 : Int64) (x7 : Int32) : Option ((Int64 × Int32 × jS) ⊕ (Unit × jS)) :=
  if x7 ≤ 0 then (jw (f_X0_lookBack_J123 σ x1 x2 x3))
  else (bC (f_X6_lowest x5) fun r22 =>
  bV (x5 &&& (x5 - (1 : Int64))) fun v23 =>
  if x4 = 0 then (bC (f_X0_spot x1 1) fun r35 =>
  bC (f_X0_state r22 r35 0) fun r36 =>
  f_X0_lookBack_J94 σ x1 x2 x3 x4 v23 x7 r36)
  else (bC (f_X0_spot x1 0) fun r24 =>
  bC (f_X0_state r24 r22 1) fun r25 =>
  f_X0_lookBack_J94 σ x1 x2 x3 x4 v23 x7 r25))
set_option maxHeartbeats 1000000 in
set_option maxRecDepth 20000 in
theorem f_X0_lookBack_B43_ok {g : Bool} {rv : Option Value} {μ' : jM} (σ : jS) (x1 : Int32) (x2 : Int32) (x3 : Int32) (x4 : Int32) (x5 : Int64) (x7 : Int32) {Kp : ((Int64 × Int32 × jS) ⊕ (Unit × jS)) → Prop} (hn : Nat.ble nX μ'.1 = true ∧ Nat.ble wX μ'.2.1 = true) (hr : ∀ (r : Unit) (s : jS), Kp (.inr ((r, s))) → rv = none ∧ μ' = eX s) (hc0 : ∀ s : (Int64 × Int32 × jS), Kp (.inl s) → J yX0_lookBack cX0_lookBack 10 none 4 g rv μ' 43 [(0, .ref 4), (1, .int x1), (2, .int x2), (3, .int x3), (4, .int x4), (5, .long s.1), (7, .int s.2.1)] [] (eX s.2.2)) (o : ((Int64 × Int32 × jS) ⊕ (Unit × jS))) (h : f_X0_lookBack_B43 σ x1 x2 x3 x4 x5 x7 = some o) (hK : Kp o) : J yX0_lookBack cX0_lookBack 10 none 4 g rv μ' 43 [(0, .ref 4), (1, .int x1), (2, .int x2), (3, .int x3), (4, .int x4), (5, .long x5), (7, .int x7)] [] (eX σ) := by
  unfold f_X0_lookBack_B43 at h
  refine j_iload 6 dX0_lookBack_43 rfl ?_
  refine j_if_le 123 dX0_lookBack_45 (by decide) (fun hc37 => ?_) (fun hc37 => ?_)
  · replace h := jif_t hc37 h
    replace h := jw_inv h
    obtain ⟨o38, rfl, h⟩ := h
    refine j_sub [(0, .ref 4), (1, .int x1), (2, .int x2), (3, .int x3)] [0, 1, 2, 3] rfl ?_
    exact f_X0_lookBack_J123_ok (Kp := fun o => Kp (.inr (o))) σ x1 x2 x3 hn (fun r s q => hr r s q) _ h hK
  · replace h := jif_f hc37 h
    refine j_lload 5 dX0_lookBack_48 rfl ?_
    replace h := bC_inv h
    obtain ⟨r39, cr39, h⟩ := h
    refine j_callS (st1 := .int r39 :: _) (c_X6_lowest g _ cr39) jy_X6_lowest kt_yX6_lowest kl_RX0_98 dX0_lookBack_50 rfl rfl rfl rfl (jbr _) (jbr _) hn.1 hn.2 (Or.inr rfl) rfl ?_
    refine j_istore [(8, .int r39), (0, .ref 4), (1, .int x1), (2, .int x2), (3, .int x3), (4, .int x4), (5, .long x5), (7, .int x7)] dX0_lookBack_53 (Nat.le_of_ble_eq_true rfl) rfl ?_
    refine j_lload 6 dX0_lookBack_55 rfl ?_
    refine j_lload 6 dX0_lookBack_57 rfl ?_
    refine j_lconst (v := 1) dX0_lookBack_59 (by decide) ?_
    refine j_lsub dX0_lookBack_60 ?_
    refine j_land dX0_lookBack_61 ?_
    replace h := bV_inv h
    obtain ⟨v40, ev40, h⟩ := h
    refine j_nml ev40 ?_
    refine j_lstore [(5, .long v40), (8, .int r39), (0, .ref 4), (1, .int x1), (2, .int x2), (3, .int x3), (4, .int x4), (7, .int x7)] dX0_lookBack_62 (Nat.le_of_ble_eq_true rfl) rfl ?_
    refine j_iload 6 dX0_lookBack_64 rfl ?_
    refine j_if_ne 83 dX0_lookBack_66 (by decide) (fun hc41 => ?_) (fun hc41 => ?_)
    · replace h := jif_f hc41 h
      refine j_iload_n 3 dX0_lookBack_83 rfl rfl ?_
      refine j_iconst (v := 0) dX0_lookBack_84 (by decide) ?_
      replace h := bC_inv h
      obtain ⟨r42, cr42, h⟩ := h
      refine j_callS (st1 := .int r42 :: _) (c_X0_spot g _ cr42) jy_X0_spot kt_yX0_spot kl_RX0_57 dX0_lookBack_85 rfl rfl rfl rfl (jbr _) (jbr _) hn.1 hn.2 (Or.inr rfl) rfl ?_
      refine j_iload 1 dX0_lookBack_88 rfl ?_
      refine j_iconst (v := 1) dX0_lookBack_90 (by decide) ?_
      replace h := bC_inv h
      obtain ⟨r43, cr43, h⟩ := h
      refine j_callS (st1 := .int r43 :: _) (c_X0_state g _ cr43) jy_X0_state kt_yX0_state kl_RX0_88 dX0_lookBack_91 rfl rfl rfl rfl (jbr _) (jbr _) hn.1 hn.2 (Or.inr rfl) rfl ?_
      refine j_sub [(0, .ref 4), (1, .int x1), (2, .int x2), (3, .int x3), (4, .int x4), (5, .long v40), (7, .int x7)] [2, 3, 4, 5, 6, 0, 7] rfl ?_
      exact f_X0_lookBack_J94_ok σ x1 x2 x3 x4 v40 x7 r43 hn hr hc0 _ h hK
    · replace h := jif_t hc41 h
      refine j_iload 1 dX0_lookBack_69 rfl ?_
      refine j_iload_n 3 dX0_lookBack_71 rfl rfl ?_
      refine j_iconst (v := 1) dX0_lookBack_72 (by decide) ?_
      replace h := bC_inv h
      obtain ⟨r44, cr44, h⟩ := h
      refine j_callS (st1 := .int r44 :: _) (c_X0_spot g _ cr44) jy_X0_spot kt_yX0_spot kl_RX0_57 dX0_lookBack_73 rfl rfl rfl rfl (jbr _) (jbr _) hn.1 hn.2 (Or.inr rfl) rfl ?_
      refine j_iconst (v := 0) dX0_lookBack_76 (by decide) ?_
      replace h := bC_inv h
      obtain ⟨r45, cr45, h⟩ := h
      refine j_callS (st1 := .int r45 :: _) (c_X0_state g _ cr45) jy_X0_state kt_yX0_state kl_RX0_88 dX0_lookBack_77 rfl rfl rfl rfl (jbr _) (jbr _) hn.1 hn.2 (Or.inr rfl) rfl ?_
      refine j_goto 94 dX0_lookBack_80 (by decide) ?_
      refine j_sub [(0, .ref 4), (1, .int x1), (2, .int x2), (3, .int x3), (4, .int x4), (5, .long v40), (7, .int x7)] [2, 3, 4, 5, 6, 0, 7] rfl ?_
      exact f_X0_lookBack_J94_ok σ x1 x2 x3 x4 v40 x7 r45 hn hr hc0 _ h hK
def f_X0_lookBack (σ : jS) (x1 : Int32) (x2 : Int32) : Option (Unit × jS) :=
  bC (f_X6_at σ 14 x1) fun r1 =>
  bV (r1 + (1 : Int32)) fun v2 =>
  bV ((1 : Int32) - (x1 &&& (1 : Int32))) fun v3 =>
  bC (f_X0_spot x1 v3) fun r4 =>
  bC (f_X6_at_ σ 9 r4) fun r5 =>
  bC (f_J13_bitCount_95d88 r5) fun r6 =>
  jloop jFuel (fun s => f_X0_lookBack_B43 s.2.2 x1 x2 v2 v3 s.1 s.2.1) (r5, r6, σ)
set_option maxHeartbeats 1000000 in
set_option maxRecDepth 20000 in
theorem f_X0_lookBack_ok {g : Bool} {rv : Option Value} {μ' : jM} (σ : jS) (x1 : Int32) (x2 : Int32) {Kp : (Unit × jS) → Prop} (hn : Nat.ble nX μ'.1 = true ∧ Nat.ble wX μ'.2.1 = true) (hr : ∀ (r : Unit) (s : jS), Kp ((r, s)) → rv = none ∧ μ' = eX s) (o : (Unit × jS)) (h : f_X0_lookBack σ x1 x2 = some o) (hK : Kp o) : J yX0_lookBack cX0_lookBack 10 none 4 g rv μ' 0 [(0, .ref 4), (1, .int x1), (2, .int x2)] [] (eX σ) := by
  unfold f_X0_lookBack at h
  refine j_aload_n 0 dX0_lookBack_0 rfl rfl ?_
  refine j_get (ci := 0) 7 (.ref 14) jC_0 dX0_lookBack_1 kg_RX0_28 rfl (okX_4 _) (shX_4 _) (fvX_4_7 _) ?_
  refine j_iload_n 1 dX0_lookBack_4 rfl rfl ?_
  replace h := bC_inv h
  obtain ⟨r46, cr46, h⟩ := h
  refine j_callS (st1 := .int r46 :: _) (c_X6_at g cr46) jy_X6_at kt_yX6_at kl_RX0_61 dX0_lookBack_5 rfl rfl rfl rfl (jbr _) (jbr _) hn.1 hn.2 (Or.inr rfl) rfl ?_
  refine j_iconst (v := 1) dX0_lookBack_8 (by decide) ?_
  refine j_iadd dX0_lookBack_9 ?_
  replace h := bV_inv h
  obtain ⟨v47, ev47, h⟩ := h
  refine j_nmi ev47 ?_
  refine j_istore_n [(3, .int v47), (0, .ref 4), (1, .int x1), (2, .int x2)] dX0_lookBack_10 rfl (Nat.le_of_ble_eq_true rfl) rfl ?_
  refine j_iconst (v := 1) dX0_lookBack_11 (by decide) ?_
  refine j_iload_n 2 dX0_lookBack_12 rfl rfl ?_
  refine j_iconst (v := 1) dX0_lookBack_13 (by decide) ?_
  refine j_iand dX0_lookBack_14 ?_
  refine j_isub dX0_lookBack_15 ?_
  replace h := bV_inv h
  obtain ⟨v48, ev48, h⟩ := h
  refine j_nmi ev48 ?_
  refine j_istore [(4, .int v48), (3, .int v47), (0, .ref 4), (1, .int x1), (2, .int x2)] dX0_lookBack_16 (Nat.le_of_ble_eq_true rfl) rfl ?_
  refine j_aload_n 2 dX0_lookBack_18 rfl rfl ?_
  refine j_get (ci := 0) 0 (.ref 5) jC_0 dX0_lookBack_19 kg_RX0_12 rfl (okX_4 _) (shX_4 _) (fvX_4_0 _) ?_
  refine j_get (ci := 8) 3 (.ref 9) jC_8 dX0_lookBack_22 kg_RX0_160 rfl (okX_5 _) (shX_5 _) (fvX_5_3 _) ?_
  refine j_iload_n 3 dX0_lookBack_25 rfl rfl ?_
  refine j_iload 0 dX0_lookBack_26 rfl ?_
  replace h := bC_inv h
  obtain ⟨r49, cr49, h⟩ := h
  refine j_callS (st1 := .int r49 :: _) (c_X0_spot g _ cr49) jy_X0_spot kt_yX0_spot kl_RX0_57 dX0_lookBack_28 rfl rfl rfl rfl (jbr _) (jbr _) hn.1 hn.2 (Or.inr rfl) rfl ?_
  replace h := bC_inv h
  obtain ⟨r50, cr50, h⟩ := h
  refine j_callS (st1 := .long r50 :: _) (c_X6_at_ g cr50) jy_X6_at_ kt_yX6_at_ kl_RX0_80 dX0_lookBack_31 rfl rfl rfl rfl (jbr _) (jbr _) hn.1 hn.2 (Or.inr rfl) rfl ?_
  refine j_lstore [(5, .long r50), (4, .int v48), (3, .int v47), (0, .ref 4), (1, .int x1), (2, .int x2)] dX0_lookBack_34 (Nat.le_of_ble_eq_true rfl) rfl ?_
  refine j_lload 0 dX0_lookBack_36 rfl ?_
  replace h := bC_inv h
  obtain ⟨r51, cr51, h⟩ := h
  refine j_callS (st1 := .int r51 :: _) (c_J13_bitCount_95d88 g _ cr51) jy_J13_bitCount_95d88 kt_yJ13_bitCount_95d88 kl_RX0_92 dX0_lookBack_38 rfl rfl rfl rfl (jbr _) (jbr _) hn.1 hn.2 (Or.inr rfl) rfl ?_
  refine j_istore [(7, .int r51), (5, .long r50), (4, .int v48), (3, .int v47), (0, .ref 4), (1, .int x1), (2, .int x2)] dX0_lookBack_41 (Nat.le_of_ble_eq_true rfl) rfl ?_
  refine j_sub [(0, .ref 4), (1, .int x1), (2, .int x2), (3, .int v47), (4, .int v48), (5, .long r50), (7, .int r51)] [4, 5, 6, 3, 2, 1, 0] rfl ?_
  exact jloop_ok (fun s => f_X0_lookBack_B43 s.2.2 x1 x2 v47 v48 s.1 s.2.1) (fun s => J yX0_lookBack cX0_lookBack 10 none 4 g rv μ' 43 [(0, .ref 4), (1, .int x1), (2, .int x2), (3, .int v47), (4, .int v48), (5, .long s.1), (7, .int s.2.1)] [] (eX s.2.2)) Kp (fun s o hb hk => f_X0_lookBack_B43_ok (Kp := jsum (fun s => J yX0_lookBack cX0_lookBack 10 none 4 g rv μ' 43 [(0, .ref 4), (1, .int x1), (2, .int x2), (3, .int v47), (4, .int v48), (5, .long s.1), (7, .int s.2.1)] [] (eX s.2.2)) Kp) s.2.2 x1 x2 v47 v48 s.1 s.2.1 hn (fun r s q => hr r s q) (fun s q => q) o hb hk) jFuel _ _ h hK
theorem c_X0_lookBack (g : Bool) {σ : jS} {x1 : Int32} {x2 : Int32} {r : Unit} {σ2 : jS} (h : f_X0_lookBack σ x1 x2 = some (r, σ2)) : Cn yX0_lookBack cX0_lookBack 10 none 4 g [.ref 4, .int x1, .int x2] (eX σ) none (eX σ2) :=
  Cn_of (by decide) (Nat.le_refl _) (Nat.le_refl _) (Nat.le_of_ble_eq_true rfl) (f_X0_lookBack_ok (Kp := (fun o => o = (r, σ2))) σ x1 x2 ⟨jbr _, jbr _⟩ (fun r2 s2 q => by cases q; exact ⟨rfl, rfl⟩) _ h rfl)
def f_X0_neededAt (σ : jS) (x1 : Int32) : Option Int32 :=
  bC (f_X6_at σ 14 x1) fun r1 =>
  some ((if (r1 - (1 : Int32)) < (-1) then (-1) else (r1 - (1 : Int32))))
set_option maxHeartbeats 1000000 in
set_option maxRecDepth 20000 in
theorem f_X0_neededAt_ok {g : Bool} {rv : Option Value} {μ' : jM} (σ : jS) (x1 : Int32) {Kp : Int32 → Prop} (hn : Nat.ble nX μ'.1 = true ∧ Nat.ble wX μ'.2.1 = true) (hr : ∀ r : Int32, Kp (r) → rv = some (.int r) ∧ μ' = (eX σ)) (o : Int32) (h : f_X0_neededAt σ x1 = some o) (hK : Kp o) : J yX0_neededAt cX0_neededAt 2 (some .int) 2 g rv μ' 0 [(0, .ref 4), (1, .int x1)] [] (eX σ) := by
  unfold f_X0_neededAt at h
  refine j_aload_n 0 dX0_neededAt_0 rfl rfl ?_
  refine j_get (ci := 0) 7 (.ref 14) jC_0 dX0_neededAt_1 kg_RX0_28 rfl (okX_4 _) (shX_4 _) (fvX_4_7 _) ?_
  refine j_iload_n 1 dX0_neededAt_4 rfl rfl ?_
  replace h := bC_inv h
  obtain ⟨r2, cr2, h⟩ := h
  refine j_callS (st1 := .int r2 :: _) (c_X6_at g cr2) jy_X6_at kt_yX6_at kl_RX0_61 dX0_neededAt_5 rfl rfl rfl rfl (jbr _) (jbr _) hn.1 hn.2 (Or.inr rfl) rfl ?_
  refine j_iconst (v := 1) dX0_neededAt_8 (by decide) ?_
  refine j_isub dX0_neededAt_9 ?_
  refine j_iconst (v := (-1)) dX0_neededAt_10 (by decide) ?_
  refine j_mmax kl_RX0_117 kt_yJ9_max_7cf53 kz_RJ9 kc_yJ9_max_7cf53 dX0_neededAt_11 rfl rfl hn.1 hn.2 ?_
  replace h := Option.some.inj h
  subst h
  obtain ⟨hr1, hr2⟩ := hr _ hK
  exact j_iret dX0_neededAt_14 hr1 hr2
theorem c_X0_neededAt (g : Bool) {σ : jS} {x1 : Int32} {r : Int32} (h : f_X0_neededAt σ x1 = some r) : Cn yX0_neededAt cX0_neededAt 2 (some .int) 2 g [.ref 4, .int x1] (eX σ) (some (.int r)) (eX σ) :=
  Cn_of (by decide) (Nat.le_refl _) (Nat.le_refl _) (Nat.le_of_ble_eq_true rfl) (f_X0_neededAt_ok (Kp := (fun o => o = r)) σ x1 ⟨jbr _, jbr _⟩ (fun r2 q => by cases q; exact ⟨rfl, rfl⟩) _ h rfl)
def f_X0_spread_J162 (σ : jS) : Option (Unit × jS) :=
  some (((), σ))
set_option maxHeartbeats 1000000 in
set_option maxRecDepth 20000 in
theorem f_X0_spread_J162_ok {g : Bool} {rv : Option Value} {μ' : jM} (σ : jS) {Kp : (Unit × jS) → Prop} (hn : Nat.ble nX μ'.1 = true ∧ Nat.ble wX μ'.2.1 = true) (hr : ∀ (r : Unit) (s : jS), Kp ((r, s)) → rv = none ∧ μ' = eX s) (o : (Unit × jS)) (h : f_X0_spread_J162 σ = some o) (hK : Kp o) : J yX0_spread cX0_spread 7 none 4 g rv μ' 162 [] [] (eX σ) := by
  unfold f_X0_spread_J162 at h
  replace h := Option.some.inj h
  subst h
  obtain ⟨hr1, hr2⟩ := hr _ _ hK
  exact j_vret dX0_spread_162 hr1 hr2
def f_X0_spread_B128 (σ : jS) (x1 : Int32) (x4 : Int64) (x6 : Int32) : Option ((Int64 × Int32 × jS) ⊕ (Unit × jS)) :=
  if x6 ≤ 0 then (jw (f_X0_spread_J162 σ))
  else (bC (f_X6_lowest x4) fun r7 =>
  bC (f_X0_after x1 r7) fun r8 =>
  bD (f_X0_comeTo σ r8) fun r9 σ10 =>
  bV (x4 &&& (x4 - (1 : Int64))) fun v11 =>
  bV (x6 + (-1)) fun v12 =>
  some (.inl (v11, v12, σ10)))
set_option maxHeartbeats 1000000 in
set_option maxRecDepth 20000 in
theorem f_X0_spread_B128_ok {g : Bool} {rv : Option Value} {μ' : jM} (σ : jS) (x1 : Int32) (x4 : Int64) (x6 : Int32) {Kp : ((Int64 × Int32 × jS) ⊕ (Unit × jS)) → Prop} (hn : Nat.ble nX μ'.1 = true ∧ Nat.ble wX μ'.2.1 = true) (hr : ∀ (r : Unit) (s : jS), Kp (.inr ((r, s))) → rv = none ∧ μ' = eX s) (hc0 : ∀ s : (Int64 × Int32 × jS), Kp (.inl s) → J yX0_spread cX0_spread 7 none 4 g rv μ' 128 [(0, .ref 4), (1, .int x1), (4, .long s.1), (6, .int s.2.1)] [] (eX s.2.2)) (o : ((Int64 × Int32 × jS) ⊕ (Unit × jS))) (h : f_X0_spread_B128 σ x1 x4 x6 = some o) (hK : Kp o) : J yX0_spread cX0_spread 7 none 4 g rv μ' 128 [(0, .ref 4), (1, .int x1), (4, .long x4), (6, .int x6)] [] (eX σ) := by
  unfold f_X0_spread_B128 at h
  refine j_iload 3 dX0_spread_128 rfl ?_
  refine j_if_le 162 dX0_spread_130 (by decide) (fun hc13 => ?_) (fun hc13 => ?_)
  · replace h := jif_t hc13 h
    replace h := jw_inv h
    obtain ⟨o14, rfl, h⟩ := h
    refine j_sub [] [] rfl ?_
    exact f_X0_spread_J162_ok (Kp := fun o => Kp (.inr (o))) σ hn (fun r s q => hr r s q) _ h hK
  · replace h := jif_f hc13 h
    refine j_aload_n 0 dX0_spread_133 rfl rfl ?_
    refine j_aload_n 0 dX0_spread_134 rfl rfl ?_
    refine j_iload_n 1 dX0_spread_135 rfl rfl ?_
    refine j_lload 2 dX0_spread_136 rfl ?_
    replace h := bC_inv h
    obtain ⟨r15, cr15, h⟩ := h
    refine j_callS (st1 := .int r15 :: _) (c_X6_lowest g _ cr15) jy_X6_lowest kt_yX6_lowest kl_RX0_98 dX0_spread_138 rfl rfl rfl rfl (jbr _) (jbr _) hn.1 hn.2 (Or.inr rfl) rfl ?_
    replace h := bC_inv h
    obtain ⟨r16, cr16, h⟩ := h
    refine j_callV (ci := 0) (st1 := .int r16 :: _) (c_X0_after g _ cr16) jy_X0_after ki_yX0_after ks_yX0_after kl_RX0_114 dX0_spread_141 rfl (okX_4 _) (shX_4 _) rfl rfl rfl rfl (jbr _) (jbr _) hn.1 hn.2 (Or.inr rfl) rfl ?_
    replace h := bD_inv h
    obtain ⟨r17, σ18, cr17, h⟩ := h
    refine j_callV (ci := 0) (st1 := _) (c_X0_comeTo g cr17) jy_X0_comeTo ki_yX0_comeTo ks_yX0_comeTo kl_RX0_125 dX0_spread_144 rfl (okX_4 _) (shX_4 _) rfl rfl rfl rfl (jbr _) (jbr _) hn.1 hn.2 (Or.inr rfl) rfl ?_
    refine j_lload 2 dX0_spread_147 rfl ?_
    refine j_lload 2 dX0_spread_149 rfl ?_
    refine j_lconst (v := 1) dX0_spread_151 (by decide) ?_
    refine j_lsub dX0_spread_152 ?_
    refine j_land dX0_spread_153 ?_
    replace h := bV_inv h
    obtain ⟨v19, ev19, h⟩ := h
    refine j_nml ev19 ?_
    refine j_lstore [(4, .long v19), (0, .ref 4), (1, .int x1), (6, .int x6)] dX0_spread_154 (Nat.le_of_ble_eq_true rfl) rfl ?_
    replace h := bV_inv h
    obtain ⟨v20, ev20, h⟩ := h
    refine j_iinc (v := v20) [(6, .int v20), (4, .long v19), (0, .ref 4), (1, .int x1)] 3 dX0_spread_156 rfl (by rw [ev20]; rfl) (Nat.le_of_ble_eq_true rfl) rfl ?_
    refine j_goto 128 dX0_spread_159 (by decide) ?_
    replace h := Option.some.inj h
    subst h
    refine j_sub [(0, .ref 4), (1, .int x1), (4, .long v19), (6, .int v20)] [2, 3, 1, 0] rfl ?_
    exact hc0 _ hK
def f_X0_spread_J116 (σ : jS) (x1 : Int32) (x3 : Int32) (x4 : Int64) : Option (Unit × jS) :=
  if x3 = 0 then (bC (f_J13_bitCount_95d88 x4) fun r6 =>
  jloop jFuel (fun s => f_X0_spread_B128 s.2.2 x1 s.1 s.2.1) (x4, r6, σ))
  else (some (((), σ)))
set_option maxHeartbeats 1000000 in
set_option maxRecDepth 20000 in
theorem f_X0_spread_J116_ok {g : Bool} {rv : Option Value} {μ' : jM} (σ : jS) (x1 : Int32) (x3 : Int32) (x4 : Int64) {Kp : (Unit × jS) → Prop} (hn : Nat.ble nX μ'.1 = true ∧ Nat.ble wX μ'.2.1 = true) (hr : ∀ (r : Unit) (s : jS), Kp ((r, s)) → rv = none ∧ μ' = eX s) (o : (Unit × jS)) (h : f_X0_spread_J116 σ x1 x3 x4 = some o) (hK : Kp o) : J yX0_spread cX0_spread 7 none 4 g rv μ' 116 [(0, .ref 4), (1, .int x1), (3, .int x3), (4, .long x4)] [] (eX σ) := by
  unfold f_X0_spread_J116 at h
  refine j_iload_n 2 dX0_spread_116 rfl rfl ?_
  refine j_if_eq 121 dX0_spread_117 (by decide) (fun hc21 => ?_) (fun hc21 => ?_)
  · replace h := jif_t hc21 h
    refine j_lload 3 dX0_spread_121 rfl ?_
    replace h := bC_inv h
    obtain ⟨r22, cr22, h⟩ := h
    refine j_callS (st1 := .int r22 :: _) (c_J13_bitCount_95d88 g _ cr22) jy_J13_bitCount_95d88 kt_yJ13_bitCount_95d88 kl_RX0_92 dX0_spread_123 rfl rfl rfl rfl (jbr _) (jbr _) hn.1 hn.2 (Or.inr rfl) rfl ?_
    refine j_istore [(6, .int r22), (0, .ref 4), (1, .int x1), (3, .int x3), (4, .long x4)] dX0_spread_126 (Nat.le_of_ble_eq_true rfl) rfl ?_
    refine j_sub [(0, .ref 4), (1, .int x1), (4, .long x4), (6, .int r22)] [1, 2, 4, 0] rfl ?_
    exact jloop_ok (fun s => f_X0_spread_B128 s.2.2 x1 s.1 s.2.1) (fun s => J yX0_spread cX0_spread 7 none 4 g rv μ' 128 [(0, .ref 4), (1, .int x1), (4, .long s.1), (6, .int s.2.1)] [] (eX s.2.2)) Kp (fun s o hb hk => f_X0_spread_B128_ok (Kp := jsum (fun s => J yX0_spread cX0_spread 7 none 4 g rv μ' 128 [(0, .ref 4), (1, .int x1), (4, .long s.1), (6, .int s.2.1)] [] (eX s.2.2)) Kp) s.2.2 x1 s.1 s.2.1 hn (fun r s q => hr r s q) (fun s q => q) o hb hk) jFuel _ _ h hK
  · replace h := jif_f hc21 h
    replace h := Option.some.inj h
    subst h
    obtain ⟨hr1, hr2⟩ := hr _ _ hK
    exact j_vret dX0_spread_120 hr1 hr2
def f_X0_spread (σ : jS) (x1 : Int32) (x2 : Int32) : Option (Unit × jS) :=
  bC (f_X0_howIs σ x1) fun r1 =>
  bC (f_X0_onwardOf σ x1) fun r2 =>
  bC (f_J13_bitCount_95d88 r2) fun r3 =>
  bD (f_X6_put σ 15 x1 (if r3 < 1 then 1 else r3)) fun r4 σ5 =>
  if r1 = 1 then (bC (f_X0_holder σ5 x1 0) fun r28 =>
  bC (f_X6_at σ5 16 r28) fun r29 =>
  bC (f_X0_holder σ5 x1 1) fun r30 =>
  bD (f_X6_put σ5 16 r28 (r29 ||| ((1 : Int32) <<< (r30 &&& 31)))) fun r31 σ32 =>
  bD (f_X0_settle σ32 x1 1) fun r33 σ34 =>
  f_X0_spread_J116 σ34 x1 r1 r2)
  else (if r1 = 2 then (bV (sI σ5 4 3 1) fun σ25 =>
  if x2 = 0 then (f_X0_spread_J116 σ25 x1 r1 r2)
  else (bD (f_X0_settle σ25 x1 1) fun r26 σ27 =>
  f_X0_spread_J116 σ27 x1 r1 r2))
  else (if (lg_cmp r2 0) = 0 then (bD (f_X0_comeTo σ5 (x1 ^^^ (1 : Int32))) fun r23 σ24 =>
  f_X0_spread_J116 σ24 x1 r1 r2)
  else (f_X0_spread_J116 σ5 x1 r1 r2)))
set_option maxHeartbeats 1000000 in
set_option maxRecDepth 20000 in
theorem f_X0_spread_ok {g : Bool} {rv : Option Value} {μ' : jM} (σ : jS) (x1 : Int32) (x2 : Int32) {Kp : (Unit × jS) → Prop} (hn : Nat.ble nX μ'.1 = true ∧ Nat.ble wX μ'.2.1 = true) (hr : ∀ (r : Unit) (s : jS), Kp ((r, s)) → rv = none ∧ μ' = eX s) (o : (Unit × jS)) (h : f_X0_spread σ x1 x2 = some o) (hK : Kp o) : J yX0_spread cX0_spread 7 none 4 g rv μ' 0 [(0, .ref 4), (1, .int x1), (2, .int x2)] [] (eX σ) := by
  unfold f_X0_spread at h
  refine j_aload_n 0 dX0_spread_0 rfl rfl ?_
  refine j_iload_n 1 dX0_spread_1 rfl rfl ?_
  replace h := bC_inv h
  obtain ⟨r35, cr35, h⟩ := h
  refine j_callV (ci := 0) (st1 := .int r35 :: _) (c_X0_howIs g cr35) jy_X0_howIs ki_yX0_howIs ks_yX0_howIs kl_RX0_101 dX0_spread_2 rfl (okX_4 _) (shX_4 _) rfl rfl rfl rfl (jbr _) (jbr _) hn.1 hn.2 (Or.inr rfl) rfl ?_
  refine j_istore_n [(3, .int r35), (0, .ref 4), (1, .int x1), (2, .int x2)] dX0_spread_5 rfl (Nat.le_of_ble_eq_true rfl) rfl ?_
  refine j_aload_n 1 dX0_spread_6 rfl rfl ?_
  refine j_iload_n 2 dX0_spread_7 rfl rfl ?_
  replace h := bC_inv h
  obtain ⟨r36, cr36, h⟩ := h
  refine j_callV (ci := 0) (st1 := .long r36 :: _) (c_X0_onwardOf g cr36) jy_X0_onwardOf ki_yX0_onwardOf ks_yX0_onwardOf kl_RX0_72 dX0_spread_8 rfl (okX_4 _) (shX_4 _) rfl rfl rfl rfl (jbr _) (jbr _) hn.1 hn.2 (Or.inr rfl) rfl ?_
  refine j_lstore [(4, .long r36), (3, .int r35), (0, .ref 4), (1, .int x1), (2, .int x2)] dX0_spread_11 (Nat.le_of_ble_eq_true rfl) rfl ?_
  refine j_aload_n 2 dX0_spread_13 rfl rfl ?_
  refine j_get (ci := 0) 8 (.ref 15) jC_0 dX0_spread_14 kg_RX0_31 rfl (okX_4 _) (shX_4 _) (fvX_4_8 _) ?_
  refine j_iload_n 3 dX0_spread_17 rfl rfl ?_
  refine j_lload 0 dX0_spread_18 rfl ?_
  replace h := bC_inv h
  obtain ⟨r37, cr37, h⟩ := h
  refine j_callS (st1 := .int r37 :: _) (c_J13_bitCount_95d88 g _ cr37) jy_J13_bitCount_95d88 kt_yJ13_bitCount_95d88 kl_RX0_92 dX0_spread_20 rfl rfl rfl rfl (jbr _) (jbr _) hn.1 hn.2 (Or.inr rfl) rfl ?_
  refine j_iconst (v := 1) dX0_spread_23 (by decide) ?_
  refine j_mmax kl_RX0_117 kt_yJ9_max_7cf53 kz_RJ9 kc_yJ9_max_7cf53 dX0_spread_24 rfl rfl hn.1 hn.2 ?_
  replace h := bD_inv h
  obtain ⟨r38, σ39, cr38, h⟩ := h
  refine j_callS (st1 := _) (c_X6_put g cr38) jy_X6_put kt_yX6_put kl_RX0_146 dX0_spread_27 rfl rfl rfl rfl (jbr _) (jbr _) hn.1 hn.2 (Or.inr rfl) rfl ?_
  refine j_iload_n 1 dX0_spread_30 rfl rfl ?_
  refine j_iconst (v := 1) dX0_spread_31 (by decide) ?_
  refine j_icmp_ne 79 dX0_spread_32 (by decide) (fun hc40 => ?_) (fun hc40 => ?_)
  · replace h := jif_f hc40 h
    refine j_iload_n 1 dX0_spread_79 rfl rfl ?_
    refine j_iconst (v := 2) dX0_spread_80 (by decide) ?_
    refine j_icmp_ne 102 dX0_spread_81 (by decide) (fun hc41 => ?_) (fun hc41 => ?_)
    · replace h := jif_f hc41 h
      refine j_lload 0 dX0_spread_102 rfl ?_
      refine j_lconst (v := 0) dX0_spread_104 (by decide) ?_
      refine j_lcmp dX0_spread_105 ?_
      refine j_if_ne 116 dX0_spread_106 (by decide) (fun hc42 => ?_) (fun hc42 => ?_)
      · replace h := jif_f hc42 h
        refine j_sub [(0, .ref 4), (1, .int x1), (3, .int r35), (4, .long r36)] [2, 3, 1, 0] rfl ?_
        exact f_X0_spread_J116_ok σ39 x1 r35 r36 hn hr _ h hK
      · replace h := jif_t hc42 h
        refine j_aload_n 2 dX0_spread_109 rfl rfl ?_
        refine j_iload_n 3 dX0_spread_110 rfl rfl ?_
        refine j_iconst (v := 1) dX0_spread_111 (by decide) ?_
        refine j_ixor dX0_spread_112 ?_
        replace h := bD_inv h
        obtain ⟨r43, σ44, cr43, h⟩ := h
        refine j_callV (ci := 0) (st1 := _) (c_X0_comeTo g cr43) jy_X0_comeTo ki_yX0_comeTo ks_yX0_comeTo kl_RX0_125 dX0_spread_113 rfl (okX_4 _) (shX_4 _) rfl rfl rfl rfl (jbr _) (jbr _) hn.1 hn.2 (Or.inr rfl) rfl ?_
        refine j_sub [(0, .ref 4), (1, .int x1), (3, .int r35), (4, .long r36)] [2, 3, 1, 0] rfl ?_
        exact f_X0_spread_J116_ok σ44 x1 r35 r36 hn hr _ h hK
    · replace h := jif_t hc41 h
      refine j_aload_n 2 dX0_spread_84 rfl rfl ?_
      refine j_iconst (v := 1) dX0_spread_85 (by decide) ?_
      replace h := bV_inv h
      obtain ⟨σ45, eσ45, h⟩ := h
      refine j_putI 3 jC_0 dX0_spread_86 kg_RX0_149 (Or.inl ff_0_3) rfl fk_0_3 (fn_0_3 (x := 1) rfl) (okX_4 _) (shX_4 _) ?_
      refine j_mem (congrArg eX eσ45) ?_
      refine j_iload_n 4 dX0_spread_89 rfl rfl ?_
      refine j_if_eq 116 dX0_spread_90 (by decide) (fun hc46 => ?_) (fun hc46 => ?_)
      · replace h := jif_t hc46 h
        refine j_sub [(0, .ref 4), (1, .int x1), (3, .int r35), (4, .long r36)] [2, 3, 1, 0] rfl ?_
        exact f_X0_spread_J116_ok σ45 x1 r35 r36 hn hr _ h hK
      · replace h := jif_f hc46 h
        refine j_aload_n 2 dX0_spread_93 rfl rfl ?_
        refine j_iload_n 3 dX0_spread_94 rfl rfl ?_
        refine j_iconst (v := 1) dX0_spread_95 (by decide) ?_
        replace h := bD_inv h
        obtain ⟨r47, σ48, cr47, h⟩ := h
        refine j_callV (ci := 0) (st1 := _) (c_X0_settle g cr47) jy_X0_settle ki_yX0_settle ks_yX0_settle kl_RX0_157 dX0_spread_96 rfl (okX_4 _) (shX_4 _) rfl rfl rfl rfl (jbr _) (jbr _) hn.1 hn.2 (Or.inr rfl) rfl ?_
        refine j_goto 116 dX0_spread_99 (by decide) ?_
        refine j_sub [(0, .ref 4), (1, .int x1), (3, .int r35), (4, .long r36)] [2, 3, 1, 0] rfl ?_
        exact f_X0_spread_J116_ok σ48 x1 r35 r36 hn hr _ h hK
  · replace h := jif_t hc40 h
    refine j_aload_n 2 dX0_spread_35 rfl rfl ?_
    refine j_iload_n 3 dX0_spread_36 rfl rfl ?_
    refine j_iconst (v := 0) dX0_spread_37 (by decide) ?_
    replace h := bC_inv h
    obtain ⟨r49, cr49, h⟩ := h
    refine j_callV (ci := 0) (st1 := .int r49 :: _) (c_X0_holder g cr49) jy_X0_holder ki_yX0_holder ks_yX0_holder kl_RX0_105 dX0_spread_38 rfl (okX_4 _) (shX_4 _) rfl rfl rfl rfl (jbr _) (jbr _) hn.1 hn.2 (Or.inr rfl) rfl ?_
    refine j_istore [(6, .int r49), (4, .long r36), (3, .int r35), (0, .ref 4), (1, .int x1), (2, .int x2)] dX0_spread_41 (Nat.le_of_ble_eq_true rfl) rfl ?_
    refine j_aload_n 3 dX0_spread_43 rfl rfl ?_
    refine j_get (ci := 0) 9 (.ref 16) jC_0 dX0_spread_44 kg_RX0_34 rfl (okX_4 _) (shX_4 _) (fvX_4_9 _) ?_
    refine j_iload 0 dX0_spread_47 rfl ?_
    refine j_aload_n 3 dX0_spread_49 rfl rfl ?_
    refine j_get (ci := 0) 9 (.ref 16) jC_0 dX0_spread_50 kg_RX0_34 rfl (okX_4 _) (shX_4 _) (fvX_4_9 _) ?_
    refine j_iload 0 dX0_spread_53 rfl ?_
    replace h := bC_inv h
    obtain ⟨r50, cr50, h⟩ := h
    refine j_callS (st1 := .int r50 :: _) (c_X6_at g cr50) jy_X6_at kt_yX6_at kl_RX0_61 dX0_spread_55 rfl rfl rfl rfl (jbr _) (jbr _) hn.1 hn.2 (Or.inr rfl) rfl ?_
    refine j_iconst (v := 1) dX0_spread_58 (by decide) ?_
    refine j_aload_n 3 dX0_spread_59 rfl rfl ?_
    refine j_iload_n 4 dX0_spread_60 rfl rfl ?_
    refine j_iconst (v := 1) dX0_spread_61 (by decide) ?_
    replace h := bC_inv h
    obtain ⟨r51, cr51, h⟩ := h
    refine j_callV (ci := 0) (st1 := .int r51 :: _) (c_X0_holder g cr51) jy_X0_holder ki_yX0_holder ks_yX0_holder kl_RX0_105 dX0_spread_62 rfl (okX_4 _) (shX_4 _) rfl rfl rfl rfl (jbr _) (jbr _) hn.1 hn.2 (Or.inr rfl) rfl ?_
    refine j_ishl dX0_spread_65 ?_
    refine j_ior dX0_spread_66 ?_
    replace h := bD_inv h
    obtain ⟨r52, σ53, cr52, h⟩ := h
    refine j_callS (st1 := _) (c_X6_put g cr52) jy_X6_put kt_yX6_put kl_RX0_146 dX0_spread_67 rfl rfl rfl rfl (jbr _) (jbr _) hn.1 hn.2 (Or.inr rfl) rfl ?_
    refine j_aload_n 3 dX0_spread_70 rfl rfl ?_
    refine j_iload_n 4 dX0_spread_71 rfl rfl ?_
    refine j_iconst (v := 1) dX0_spread_72 (by decide) ?_
    replace h := bD_inv h
    obtain ⟨r54, σ55, cr54, h⟩ := h
    refine j_callV (ci := 0) (st1 := _) (c_X0_settle g cr54) jy_X0_settle ki_yX0_settle ks_yX0_settle kl_RX0_157 dX0_spread_73 rfl (okX_4 _) (shX_4 _) rfl rfl rfl rfl (jbr _) (jbr _) hn.1 hn.2 (Or.inr rfl) rfl ?_
    refine j_goto 116 dX0_spread_76 (by decide) ?_
    refine j_sub [(0, .ref 4), (1, .int x1), (3, .int r35), (4, .long r36)] [3, 4, 2, 1] rfl ?_
    exact f_X0_spread_J116_ok σ55 x1 r35 r36 hn hr _ h hK
theorem c_X0_spread (g : Bool) {σ : jS} {x1 : Int32} {x2 : Int32} {r : Unit} {σ2 : jS} (h : f_X0_spread σ x1 x2 = some (r, σ2)) : Cn yX0_spread cX0_spread 7 none 4 g [.ref 4, .int x1, .int x2] (eX σ) none (eX σ2) :=
  Cn_of (by decide) (Nat.le_refl _) (Nat.le_refl _) (Nat.le_of_ble_eq_true rfl) (f_X0_spread_ok (Kp := (fun o => o = (r, σ2))) σ x1 x2 ⟨jbr _, jbr _⟩ (fun r2 s2 q => by cases q; exact ⟨rfl, rfl⟩) _ h rfl)
def f_X0_solve_J89 (σ : jS) (x1 : Int32) : Option (Int32 × jS) :=
  bC (f_X0_neededAt σ x1) fun r5 =>
  some ((r5, σ))
set_option maxHeartbeats 1000000 in
set_option maxRecDepth 20000 in
theorem f_X0_solve_J89_ok {g : Bool} {rv : Option Value} {μ' : jM} (σ : jS) (x1 : Int32) {Kp : (Int32 × jS) → Prop} (hn : Nat.ble nX μ'.1 = true ∧ Nat.ble wX μ'.2.1 = true) (hr : ∀ (r : Int32) (s : jS), Kp ((r, s)) → rv = some (.int r) ∧ μ' = eX s) (o : (Int32 × jS)) (h : f_X0_solve_J89 σ x1 = some o) (hK : Kp o) : J yX0_solve cX0_solve 5 (some .int) 5 g rv μ' 89 [(0, .ref 4), (1, .int x1)] [] (eX σ) := by
  unfold f_X0_solve_J89 at h
  refine j_aload_n 0 dX0_solve_89 rfl rfl ?_
  refine j_iload_n 1 dX0_solve_90 rfl rfl ?_
  replace h := bC_inv h
  obtain ⟨r6, cr6, h⟩ := h
  refine j_callV (ci := 0) (st1 := .int r6 :: _) (c_X0_neededAt g cr6) jy_X0_neededAt ki_yX0_neededAt ks_yX0_neededAt kl_RX0_143 dX0_solve_91 rfl (okX_4 _) (shX_4 _) rfl rfl rfl rfl (jbr _) (jbr _) hn.1 hn.2 (Or.inr rfl) rfl ?_
  replace h := Option.some.inj h
  subst h
  obtain ⟨hr1, hr2⟩ := hr _ _ hK
  exact j_iret dX0_solve_94 hr1 hr2
def f_X0_solve_B52 (σ : jS) (x1 : Int32) (x2 : Int32) (x4 : Int32) : Option ((Int32 × jS) ⊕ (Int32 × jS)) :=
  if (gI σ 4 2) ≤ x4 then (jw (f_X0_solve_J89 σ x1))
  else (if 6272 ≤ x4 then (jw (f_X0_solve_J89 σ x1))
  else (bC (f_X6_at σ 13 x4) fun r7 =>
  bD (f_X0_lookBack σ r7 x2) fun r8 σ9 =>
  bV (x4 + 1) fun v10 =>
  some (.inl (v10, σ9))))
set_option maxHeartbeats 1000000 in
set_option maxRecDepth 20000 in
theorem f_X0_solve_B52_ok {g : Bool} {rv : Option Value} {μ' : jM} (σ : jS) (x1 : Int32) (x2 : Int32) (x4 : Int32) {Kp : ((Int32 × jS) ⊕ (Int32 × jS)) → Prop} (hn : Nat.ble nX μ'.1 = true ∧ Nat.ble wX μ'.2.1 = true) (hr : ∀ (r : Int32) (s : jS), Kp (.inr ((r, s))) → rv = some (.int r) ∧ μ' = eX s) (hc0 : ∀ s : (Int32 × jS), Kp (.inl s) → J yX0_solve cX0_solve 5 (some .int) 5 g rv μ' 52 [(0, .ref 4), (1, .int x1), (2, .int x2), (4, .int s.1)] [] (eX s.2)) (o : ((Int32 × jS) ⊕ (Int32 × jS))) (h : f_X0_solve_B52 σ x1 x2 x4 = some o) (hK : Kp o) : J yX0_solve cX0_solve 5 (some .int) 5 g rv μ' 52 [(0, .ref 4), (1, .int x1), (2, .int x2), (4, .int x4)] [] (eX σ) := by
  unfold f_X0_solve_B52 at h
  refine j_iload 3 dX0_solve_52 rfl ?_
  refine j_aload_n 0 dX0_solve_54 rfl rfl ?_
  refine j_get (ci := 0) 2 (.int (gI σ 4 2)) jC_0 dX0_solve_55 kg_RX0_136 rfl (okX_4 _) (shX_4 _) (fvX_4_2 _) ?_
  refine j_icmp_ge 89 dX0_solve_58 (by decide) (fun hc11 => ?_) (fun hc11 => ?_)
  · replace h := jif_t hc11 h
    replace h := jw_inv h
    obtain ⟨o12, rfl, h⟩ := h
    refine j_sub [(0, .ref 4), (1, .int x1)] [0, 1] rfl ?_
    exact f_X0_solve_J89_ok (Kp := fun o => Kp (.inr (o))) σ x1 hn (fun r s q => hr r s q) _ h hK
  · replace h := jif_f hc11 h
    refine j_iload 3 dX0_solve_61 rfl ?_
    refine j_sipush (v := 6272) dX0_solve_63 (by decide) ?_
    refine j_icmp_ge 89 dX0_solve_66 (by decide) (fun hc13 => ?_) (fun hc13 => ?_)
    · replace h := jif_t hc13 h
      replace h := jw_inv h
      obtain ⟨o14, rfl, h⟩ := h
      refine j_sub [(0, .ref 4), (1, .int x1)] [0, 1] rfl ?_
      exact f_X0_solve_J89_ok (Kp := fun o => Kp (.inr (o))) σ x1 hn (fun r s q => hr r s q) _ h hK
    · replace h := jif_f hc13 h
      refine j_aload_n 0 dX0_solve_69 rfl rfl ?_
      refine j_aload_n 0 dX0_solve_70 rfl rfl ?_
      refine j_get (ci := 0) 6 (.ref 13) jC_0 dX0_solve_71 kg_RX0_25 rfl (okX_4 _) (shX_4 _) (fvX_4_6 _) ?_
      refine j_iload 3 dX0_solve_74 rfl ?_
      replace h := bC_inv h
      obtain ⟨r15, cr15, h⟩ := h
      refine j_callS (st1 := .int r15 :: _) (c_X6_at g cr15) jy_X6_at kt_yX6_at kl_RX0_61 dX0_solve_76 rfl rfl rfl rfl (jbr _) (jbr _) hn.1 hn.2 (Or.inr rfl) rfl ?_
      refine j_iload_n 2 dX0_solve_79 rfl rfl ?_
      replace h := bD_inv h
      obtain ⟨r16, σ17, cr16, h⟩ := h
      refine j_callV (ci := 0) (st1 := _) (c_X0_lookBack g cr16) jy_X0_lookBack ki_yX0_lookBack ks_yX0_lookBack kl_RX0_139 dX0_solve_80 rfl (okX_4 _) (shX_4 _) rfl rfl rfl rfl (jbr _) (jbr _) hn.1 hn.2 (Or.inr rfl) rfl ?_
      replace h := bV_inv h
      obtain ⟨v18, ev18, h⟩ := h
      refine j_iinc (v := v18) [(4, .int v18), (0, .ref 4), (1, .int x1), (2, .int x2)] 3 dX0_solve_83 rfl (by rw [ev18]; rfl) (Nat.le_of_ble_eq_true rfl) rfl ?_
      refine j_goto 52 dX0_solve_86 (by decide) ?_
      replace h := Option.some.inj h
      subst h
      refine j_sub [(0, .ref 4), (1, .int x1), (2, .int x2), (4, .int v18)] [1, 2, 3, 0] rfl ?_
      exact hc0 _ hK
def f_X0_solve_J49 (σ : jS) (x1 : Int32) (x2 : Int32) : Option (Int32 × jS) :=
  jloop jFuel (fun s => f_X0_solve_B52 s.2 x1 x2 s.1) (0, σ)
set_option maxHeartbeats 1000000 in
set_option maxRecDepth 20000 in
theorem f_X0_solve_J49_ok {g : Bool} {rv : Option Value} {μ' : jM} (σ : jS) (x1 : Int32) (x2 : Int32) {Kp : (Int32 × jS) → Prop} (hn : Nat.ble nX μ'.1 = true ∧ Nat.ble wX μ'.2.1 = true) (hr : ∀ (r : Int32) (s : jS), Kp ((r, s)) → rv = some (.int r) ∧ μ' = eX s) (o : (Int32 × jS)) (h : f_X0_solve_J49 σ x1 x2 = some o) (hK : Kp o) : J yX0_solve cX0_solve 5 (some .int) 5 g rv μ' 49 [(0, .ref 4), (1, .int x1), (2, .int x2)] [] (eX σ) := by
  unfold f_X0_solve_J49 at h
  refine j_iconst (v := 0) dX0_solve_49 (by decide) ?_
  refine j_istore [(4, .int 0), (0, .ref 4), (1, .int x1), (2, .int x2)] dX0_solve_50 (Nat.le_of_ble_eq_true rfl) rfl ?_
  refine j_sub [(0, .ref 4), (1, .int x1), (2, .int x2), (4, .int 0)] [1, 2, 3, 0] rfl ?_
  exact jloop_ok (fun s => f_X0_solve_B52 s.2 x1 x2 s.1) (fun s => J yX0_solve cX0_solve 5 (some .int) 5 g rv μ' 52 [(0, .ref 4), (1, .int x1), (2, .int x2), (4, .int s.1)] [] (eX s.2)) Kp (fun s o hb hk => f_X0_solve_B52_ok (Kp := jsum (fun s => J yX0_solve cX0_solve 5 (some .int) 5 g rv μ' 52 [(0, .ref 4), (1, .int x1), (2, .int x2), (4, .int s.1)] [] (eX s.2)) Kp) s.2 x1 x2 s.1 hn (fun r s q => hr r s q) (fun s q => q) o hb hk) jFuel _ _ h hK
def f_X0_solve_B12 (σ : jS) (x1 : Int32) (x2 : Int32) (x3 : Int32) (x4 : Int32) : Option ((Int32 × jS) ⊕ (Int32 × jS)) :=
  if (gI σ 4 1) ≤ x4 then (jw (f_X0_solve_J49 σ x1 x2))
  else (if 6272 ≤ x4 then (jw (f_X0_solve_J49 σ x1 x2))
  else (bC (f_X6_at σ 12 x4) fun r19 =>
  bD (f_X0_spread σ r19 x3) fun r20 σ21 =>
  bV (x4 + 1) fun v22 =>
  some (.inl (v22, σ21))))
set_option maxHeartbeats 1000000 in
set_option maxRecDepth 20000 in
theorem f_X0_solve_B12_ok {g : Bool} {rv : Option Value} {μ' : jM} (σ : jS) (x1 : Int32) (x2 : Int32) (x3 : Int32) (x4 : Int32) {Kp : ((Int32 × jS) ⊕ (Int32 × jS)) → Prop} (hn : Nat.ble nX μ'.1 = true ∧ Nat.ble wX μ'.2.1 = true) (hr : ∀ (r : Int32) (s : jS), Kp (.inr ((r, s))) → rv = some (.int r) ∧ μ' = eX s) (hc0 : ∀ s : (Int32 × jS), Kp (.inl s) → J yX0_solve cX0_solve 5 (some .int) 5 g rv μ' 12 [(0, .ref 4), (1, .int x1), (2, .int x2), (3, .int x3), (4, .int s.1)] [] (eX s.2)) (o : ((Int32 × jS) ⊕ (Int32 × jS))) (h : f_X0_solve_B12 σ x1 x2 x3 x4 = some o) (hK : Kp o) : J yX0_solve cX0_solve 5 (some .int) 5 g rv μ' 12 [(0, .ref 4), (1, .int x1), (2, .int x2), (3, .int x3), (4, .int x4)] [] (eX σ) := by
  unfold f_X0_solve_B12 at h
  refine j_iload 4 dX0_solve_12 rfl ?_
  refine j_aload_n 0 dX0_solve_14 rfl rfl ?_
  refine j_get (ci := 0) 1 (.int (gI σ 4 1)) jC_0 dX0_solve_15 kg_RX0_129 rfl (okX_4 _) (shX_4 _) (fvX_4_1 _) ?_
  refine j_icmp_ge 49 dX0_solve_18 (by decide) (fun hc23 => ?_) (fun hc23 => ?_)
  · replace h := jif_t hc23 h
    replace h := jw_inv h
    obtain ⟨o24, rfl, h⟩ := h
    refine j_sub [(0, .ref 4), (1, .int x1), (2, .int x2)] [0, 1, 2] rfl ?_
    exact f_X0_solve_J49_ok (Kp := fun o => Kp (.inr (o))) σ x1 x2 hn (fun r s q => hr r s q) _ h hK
  · replace h := jif_f hc23 h
    refine j_iload 4 dX0_solve_21 rfl ?_
    refine j_sipush (v := 6272) dX0_solve_23 (by decide) ?_
    refine j_icmp_ge 49 dX0_solve_26 (by decide) (fun hc25 => ?_) (fun hc25 => ?_)
    · replace h := jif_t hc25 h
      replace h := jw_inv h
      obtain ⟨o26, rfl, h⟩ := h
      refine j_sub [(0, .ref 4), (1, .int x1), (2, .int x2)] [0, 1, 2] rfl ?_
      exact f_X0_solve_J49_ok (Kp := fun o => Kp (.inr (o))) σ x1 x2 hn (fun r s q => hr r s q) _ h hK
    · replace h := jif_f hc25 h
      refine j_aload_n 0 dX0_solve_29 rfl rfl ?_
      refine j_aload_n 0 dX0_solve_30 rfl rfl ?_
      refine j_get (ci := 0) 5 (.ref 12) jC_0 dX0_solve_31 kg_RX0_22 rfl (okX_4 _) (shX_4 _) (fvX_4_5 _) ?_
      refine j_iload 4 dX0_solve_34 rfl ?_
      replace h := bC_inv h
      obtain ⟨r27, cr27, h⟩ := h
      refine j_callS (st1 := .int r27 :: _) (c_X6_at g cr27) jy_X6_at kt_yX6_at kl_RX0_61 dX0_solve_36 rfl rfl rfl rfl (jbr _) (jbr _) hn.1 hn.2 (Or.inr rfl) rfl ?_
      refine j_iload_n 3 dX0_solve_39 rfl rfl ?_
      replace h := bD_inv h
      obtain ⟨r28, σ29, cr28, h⟩ := h
      refine j_callV (ci := 0) (st1 := _) (c_X0_spread g cr28) jy_X0_spread ki_yX0_spread ks_yX0_spread kl_RX0_132 dX0_solve_40 rfl (okX_4 _) (shX_4 _) rfl rfl rfl rfl (jbr _) (jbr _) hn.1 hn.2 (Or.inr rfl) rfl ?_
      replace h := bV_inv h
      obtain ⟨v30, ev30, h⟩ := h
      refine j_iinc (v := v30) [(4, .int v30), (0, .ref 4), (1, .int x1), (2, .int x2), (3, .int x3)] 4 dX0_solve_43 rfl (by rw [ev30]; rfl) (Nat.le_of_ble_eq_true rfl) rfl ?_
      refine j_goto 12 dX0_solve_46 (by decide) ?_
      replace h := Option.some.inj h
      subst h
      refine j_sub [(0, .ref 4), (1, .int x1), (2, .int x2), (3, .int x3), (4, .int v30)] [1, 2, 3, 4, 0] rfl ?_
      exact hc0 _ hK
def f_X0_solve (σ : jS) (x1 : Int32) (x2 : Int32) (x3 : Int32) : Option (Int32 × jS) :=
  bD (f_X0_forget σ) fun r1 σ2 =>
  bD (f_X0_comeTo σ2 x1) fun r3 σ4 =>
  jloop jFuel (fun s => f_X0_solve_B12 s.2 x1 x2 x3 s.1) (0, σ4)
set_option maxHeartbeats 1000000 in
set_option maxRecDepth 20000 in
theorem f_X0_solve_ok {g : Bool} {rv : Option Value} {μ' : jM} (σ : jS) (x1 : Int32) (x2 : Int32) (x3 : Int32) {Kp : (Int32 × jS) → Prop} (hn : Nat.ble nX μ'.1 = true ∧ Nat.ble wX μ'.2.1 = true) (hr : ∀ (r : Int32) (s : jS), Kp ((r, s)) → rv = some (.int r) ∧ μ' = eX s) (o : (Int32 × jS)) (h : f_X0_solve σ x1 x2 x3 = some o) (hK : Kp o) : J yX0_solve cX0_solve 5 (some .int) 5 g rv μ' 0 [(0, .ref 4), (1, .int x1), (2, .int x2), (3, .int x3)] [] (eX σ) := by
  unfold f_X0_solve at h
  refine j_aload_n 0 dX0_solve_0 rfl rfl ?_
  replace h := bD_inv h
  obtain ⟨r31, σ32, cr31, h⟩ := h
  refine j_callV (ci := 0) (st1 := _) (c_X0_forget g cr31) jy_X0_forget ki_yX0_forget ks_yX0_forget kl_RX0_122 dX0_solve_1 rfl (okX_4 _) (shX_4 _) rfl rfl rfl rfl (jbr _) (jbr _) hn.1 hn.2 (Or.inr rfl) rfl ?_
  refine j_aload_n 0 dX0_solve_4 rfl rfl ?_
  refine j_iload_n 1 dX0_solve_5 rfl rfl ?_
  replace h := bD_inv h
  obtain ⟨r33, σ34, cr33, h⟩ := h
  refine j_callV (ci := 0) (st1 := _) (c_X0_comeTo g cr33) jy_X0_comeTo ki_yX0_comeTo ks_yX0_comeTo kl_RX0_125 dX0_solve_6 rfl (okX_4 _) (shX_4 _) rfl rfl rfl rfl (jbr _) (jbr _) hn.1 hn.2 (Or.inr rfl) rfl ?_
  refine j_iconst (v := 0) dX0_solve_9 (by decide) ?_
  refine j_istore [(4, .int 0), (0, .ref 4), (1, .int x1), (2, .int x2), (3, .int x3)] dX0_solve_10 (Nat.le_of_ble_eq_true rfl) rfl ?_
  refine j_sub [(0, .ref 4), (1, .int x1), (2, .int x2), (3, .int x3), (4, .int 0)] [1, 2, 3, 4, 0] rfl ?_
  exact jloop_ok (fun s => f_X0_solve_B12 s.2 x1 x2 x3 s.1) (fun s => J yX0_solve cX0_solve 5 (some .int) 5 g rv μ' 12 [(0, .ref 4), (1, .int x1), (2, .int x2), (3, .int x3), (4, .int s.1)] [] (eX s.2)) Kp (fun s o hb hk => f_X0_solve_B12_ok (Kp := jsum (fun s => J yX0_solve cX0_solve 5 (some .int) 5 g rv μ' 12 [(0, .ref 4), (1, .int x1), (2, .int x2), (3, .int x3), (4, .int s.1)] [] (eX s.2)) Kp) s.2 x1 x2 x3 s.1 hn (fun r s q => hr r s q) (fun s q => q) o hb hk) jFuel _ _ h hK
theorem c_X0_solve (g : Bool) {σ : jS} {x1 : Int32} {x2 : Int32} {x3 : Int32} {r : Int32} {σ2 : jS} (h : f_X0_solve σ x1 x2 x3 = some (r, σ2)) : Cn yX0_solve cX0_solve 5 (some .int) 5 g [.ref 4, .int x1, .int x2, .int x3] (eX σ) (some (.int r)) (eX σ2) :=
  Cn_of (by decide) (Nat.le_refl _) (Nat.le_refl _) (Nat.le_of_ble_eq_true rfl) (f_X0_solve_ok (Kp := (fun o => o = (r, σ2))) σ x1 x2 x3 ⟨jbr _, jbr _⟩ (fun r2 s2 q => by cases q; exact ⟨rfl, rfl⟩) _ h rfl)
def f_X10_comes_J21 (σ : jS) : Option (Int32 × jS) :=
  some (((-1002), σ))
set_option maxHeartbeats 1000000 in
set_option maxRecDepth 20000 in
theorem f_X10_comes_J21_ok {g : Bool} {rv : Option Value} {μ' : jM} (σ : jS) {Kp : (Int32 × jS) → Prop} (hn : Nat.ble nX μ'.1 = true ∧ Nat.ble wX μ'.2.1 = true) (hr : ∀ (r : Int32) (s : jS), Kp ((r, s)) → rv = some (.int r) ∧ μ' = eX s) (o : (Int32 × jS)) (h : f_X10_comes_J21 σ = some o) (hK : Kp o) : J yX10_comes cX10_comes 3 (some .int) 6 g rv μ' 21 [] [] (eX σ) := by
  unfold f_X10_comes_J21 at h
  refine j_sipush (v := (-1002)) dX10_comes_21 (by decide) ?_
  replace h := Option.some.inj h
  subst h
  obtain ⟨hr1, hr2⟩ := hr _ _ hK
  exact j_iret dX10_comes_24 hr1 hr2
def f_X10_comes_J107 (σ : jS) (y0 : Int32) : Option (Int32 × jS) :=
  some ((y0, σ))
set_option maxHeartbeats 1000000 in
set_option maxRecDepth 20000 in
theorem f_X10_comes_J107_ok {g : Bool} {rv : Option Value} {μ' : jM} (σ : jS) (y0 : Int32) {Kp : (Int32 × jS) → Prop} (hn : Nat.ble nX μ'.1 = true ∧ Nat.ble wX μ'.2.1 = true) (hr : ∀ (r : Int32) (s : jS), Kp ((r, s)) → rv = some (.int r) ∧ μ' = eX s) (o : (Int32 × jS)) (h : f_X10_comes_J107 σ y0 = some o) (hK : Kp o) : J yX10_comes cX10_comes 3 (some .int) 6 g rv μ' 107 [] [.int y0] (eX σ) := by
  unfold f_X10_comes_J107 at h
  replace h := Option.some.inj h
  subst h
  obtain ⟨hr1, hr2⟩ := hr _ _ hK
  exact j_iret dX10_comes_107 hr1 hr2
def f_X10_comes_J130 (σ : jS) (y0 : Int32) : Option (Int32 × jS) :=
  some ((y0, σ))
set_option maxHeartbeats 1000000 in
set_option maxRecDepth 20000 in
theorem f_X10_comes_J130_ok {g : Bool} {rv : Option Value} {μ' : jM} (σ : jS) (y0 : Int32) {Kp : (Int32 × jS) → Prop} (hn : Nat.ble nX μ'.1 = true ∧ Nat.ble wX μ'.2.1 = true) (hr : ∀ (r : Int32) (s : jS), Kp ((r, s)) → rv = some (.int r) ∧ μ' = eX s) (o : (Int32 × jS)) (h : f_X10_comes_J130 σ y0 = some o) (hK : Kp o) : J yX10_comes cX10_comes 3 (some .int) 6 g rv μ' 130 [] [.int y0] (eX σ) := by
  unfold f_X10_comes_J130 at h
  replace h := Option.some.inj h
  subst h
  obtain ⟨hr1, hr2⟩ := hr _ _ hK
  exact j_iret dX10_comes_130 hr1 hr2
def f_X10_comes (σ : jS) (x1 : Int32) (x2 : Int32) : Option (Int32 × jS) :=
  bC (f_X10_isQuarrel σ x1) fun r1 =>
  if r1 = 0 then (some (((-1001), σ)))
  else (if x2 < 0 then (f_X10_comes_J21 σ)
  else (if x2 ≤ 4 then (bC (f_X6_at σ 30 x1) fun r2 =>
  bD (f_X0_solve σ r2 (-1) 1) fun r3 σ4 =>
  if x2 = 0 then (some ((gI σ4 4 1, σ4)))
  else if x2 = 1 then (bC (f_X0_endsFound σ4) fun r6 =>
  some ((r6, σ4)))
  else if x2 = 2 then (if (gI σ4 4 3) = 0 then (f_X10_comes_J107 σ4 0)
  else (f_X10_comes_J107 σ4 1))
  else if x2 = 3 then (if (gI σ4 4 1) ≤ (gI σ4 4 2) then (f_X10_comes_J130 σ4 0)
  else (f_X10_comes_J130 σ4 1))
  else (bC (f_X0_holdersFound σ4) fun r5 =>
  some ((r5, σ4))))
  else (f_X10_comes_J21 σ)))
set_option maxHeartbeats 1000000 in
set_option maxRecDepth 20000 in
theorem f_X10_comes_ok {g : Bool} {rv : Option Value} {μ' : jM} (σ : jS) (x1 : Int32) (x2 : Int32) {Kp : (Int32 × jS) → Prop} (hn : Nat.ble nX μ'.1 = true ∧ Nat.ble wX μ'.2.1 = true) (hr : ∀ (r : Int32) (s : jS), Kp ((r, s)) → rv = some (.int r) ∧ μ' = eX s) (o : (Int32 × jS)) (h : f_X10_comes σ x1 x2 = some o) (hK : Kp o) : J yX10_comes cX10_comes 3 (some .int) 6 g rv μ' 0 [(0, .ref 1), (1, .int x1), (2, .int x2)] [] (eX σ) := by
  unfold f_X10_comes at h
  refine j_aload_n 0 dX10_comes_0 rfl rfl ?_
  refine j_iload_n 1 dX10_comes_1 rfl rfl ?_
  replace h := bC_inv h
  obtain ⟨r7, cr7, h⟩ := h
  refine j_callV (ci := 9) (st1 := .int r7 :: _) (c_X10_isQuarrel g cr7) jy_X10_isQuarrel ki_yX10_isQuarrel ks_yX10_isQuarrel kl_RX10_198 dX10_comes_2 rfl (okX_1 _) (shX_1 _) rfl rfl rfl rfl (jbr _) (jbr _) hn.1 hn.2 (Or.inr rfl) rfl ?_
  refine j_if_ne 12 dX10_comes_5 (by decide) (fun hc8 => ?_) (fun hc8 => ?_)
  · replace h := jif_f hc8 h
    refine j_iload_n 2 dX10_comes_12 rfl rfl ?_
    refine j_if_lt 21 dX10_comes_13 (by decide) (fun hc9 => ?_) (fun hc9 => ?_)
    · replace h := jif_t hc9 h
      refine j_sub [] [] rfl ?_
      exact f_X10_comes_J21_ok σ hn hr _ h hK
    · replace h := jif_f hc9 h
      refine j_iload_n 2 dX10_comes_16 rfl rfl ?_
      refine j_iconst (v := 4) dX10_comes_17 (by decide) ?_
      refine j_icmp_le 25 dX10_comes_18 (by decide) (fun hc10 => ?_) (fun hc10 => ?_)
      · replace h := jif_t hc10 h
        refine j_aload_n 0 dX10_comes_25 rfl rfl ?_
        refine j_get (ci := 9) 1 (.ref 4) jC_9 dX10_comes_26 kg_RX10_19 rfl (okX_1 _) (shX_1 _) (fvX_1_1 _) ?_
        refine j_aload_n 0 dX10_comes_29 rfl rfl ?_
        refine j_get (ci := 9) 5 (.ref 29) jC_9 dX10_comes_30 kg_RX10_47 rfl (okX_1 _) (shX_1 _) (fvX_1_5 _) ?_
        refine j_get (ci := 6) 0 (.ref 30) jC_6 dX10_comes_33 kg_RX10_94 rfl (okX_29 _) (shX_29 _) (fvX_29_0 _) ?_
        refine j_iload_n 1 dX10_comes_36 rfl rfl ?_
        replace h := bC_inv h
        obtain ⟨r11, cr11, h⟩ := h
        refine j_callS (st1 := .int r11 :: _) (c_X6_at g cr11) jy_X6_at kt_yX6_at kl_RX10_150 dX10_comes_37 rfl rfl rfl rfl (jbr _) (jbr _) hn.1 hn.2 (Or.inr rfl) rfl ?_
        refine j_iconst (v := (-1)) dX10_comes_40 (by decide) ?_
        refine j_iconst (v := 1) dX10_comes_41 (by decide) ?_
        replace h := bD_inv h
        obtain ⟨r12, σ13, cr12, h⟩ := h
        refine j_callV (ci := 0) (st1 := .int r12 :: _) (c_X0_solve g cr12) jy_X0_solve ki_yX0_solve ks_yX0_solve kl_RX10_220 dX10_comes_42 rfl (okX_4 _) (shX_4 _) rfl rfl rfl rfl (jbr _) (jbr _) hn.1 hn.2 (Or.inr rfl) rfl ?_
        refine j_pop dX10_comes_45 rfl ?_
        refine j_iload_n 2 dX10_comes_46 rfl rfl ?_
        by_cases hc14 : x2 = 0
        · replace h := jif_t hc14 h
          refine j_tblIn 76 dX10_comes_47 (by rw [hc14]; decide) (by rw [hc14]; decide) (by rw [hc14]; rfl) (by decide) ?_
          refine j_aload_n 0 dX10_comes_76 rfl rfl ?_
          refine j_get (ci := 9) 1 (.ref 4) jC_9 dX10_comes_77 kg_RX10_19 rfl (okX_1 _) (shX_1 _) (fvX_1_1 _) ?_
          refine j_get (ci := 0) 1 (.int (gI σ13 4 1)) jC_0 dX10_comes_80 kg_RX10_224 rfl (okX_4 _) (shX_4 _) (fvX_4_1 _) ?_
          replace h := Option.some.inj h
          subst h
          obtain ⟨hr1, hr2⟩ := hr _ _ hK
          exact j_iret dX10_comes_83 hr1 hr2
        replace h := jif_f hc14 h
        by_cases hc15 : x2 = 1
        · replace h := jif_t hc15 h
          refine j_tblIn 84 dX10_comes_47 (by rw [hc15]; decide) (by rw [hc15]; decide) (by rw [hc15]; rfl) (by decide) ?_
          refine j_aload_n 0 dX10_comes_84 rfl rfl ?_
          refine j_get (ci := 9) 1 (.ref 4) jC_9 dX10_comes_85 kg_RX10_19 rfl (okX_1 _) (shX_1 _) (fvX_1_1 _) ?_
          replace h := bC_inv h
          obtain ⟨r16, cr16, h⟩ := h
          refine j_callV (ci := 0) (st1 := .int r16 :: _) (c_X0_endsFound g cr16) jy_X0_endsFound ki_yX0_endsFound ks_yX0_endsFound kl_RX10_227 dX10_comes_88 rfl (okX_4 _) (shX_4 _) rfl rfl rfl rfl (jbr _) (jbr _) hn.1 hn.2 (Or.inr rfl) rfl ?_
          replace h := Option.some.inj h
          subst h
          obtain ⟨hr1, hr2⟩ := hr _ _ hK
          exact j_iret dX10_comes_91 hr1 hr2
        replace h := jif_f hc15 h
        by_cases hc17 : x2 = 2
        · replace h := jif_t hc17 h
          refine j_tblIn 92 dX10_comes_47 (by rw [hc17]; decide) (by rw [hc17]; decide) (by rw [hc17]; rfl) (by decide) ?_
          refine j_aload_n 0 dX10_comes_92 rfl rfl ?_
          refine j_get (ci := 9) 1 (.ref 4) jC_9 dX10_comes_93 kg_RX10_19 rfl (okX_1 _) (shX_1 _) (fvX_1_1 _) ?_
          refine j_get (ci := 0) 3 (.int (gI σ13 4 3)) jC_0 dX10_comes_96 kg_RX10_231 rfl (okX_4 _) (shX_4 _) (fvX_4_3 _) ?_
          refine j_if_eq 106 dX10_comes_99 (by decide) (fun hc18 => ?_) (fun hc18 => ?_)
          · replace h := jif_t hc18 h
            refine j_iconst (v := 0) dX10_comes_106 (by decide) ?_
            refine j_sub [] [] rfl ?_
            exact f_X10_comes_J107_ok σ13 0 hn hr _ h hK
          · replace h := jif_f hc18 h
            refine j_iconst (v := 1) dX10_comes_102 (by decide) ?_
            refine j_goto 107 dX10_comes_103 (by decide) ?_
            refine j_sub [] [] rfl ?_
            exact f_X10_comes_J107_ok σ13 1 hn hr _ h hK
        replace h := jif_f hc17 h
        by_cases hc19 : x2 = 3
        · replace h := jif_t hc19 h
          refine j_tblIn 108 dX10_comes_47 (by rw [hc19]; decide) (by rw [hc19]; decide) (by rw [hc19]; rfl) (by decide) ?_
          refine j_aload_n 0 dX10_comes_108 rfl rfl ?_
          refine j_get (ci := 9) 1 (.ref 4) jC_9 dX10_comes_109 kg_RX10_19 rfl (okX_1 _) (shX_1 _) (fvX_1_1 _) ?_
          refine j_get (ci := 0) 2 (.int (gI σ13 4 2)) jC_0 dX10_comes_112 kg_RX10_234 rfl (okX_4 _) (shX_4 _) (fvX_4_2 _) ?_
          refine j_aload_n 0 dX10_comes_115 rfl rfl ?_
          refine j_get (ci := 9) 1 (.ref 4) jC_9 dX10_comes_116 kg_RX10_19 rfl (okX_1 _) (shX_1 _) (fvX_1_1 _) ?_
          refine j_get (ci := 0) 1 (.int (gI σ13 4 1)) jC_0 dX10_comes_119 kg_RX10_224 rfl (okX_4 _) (shX_4 _) (fvX_4_1 _) ?_
          refine j_icmp_ge 129 dX10_comes_122 (by decide) (fun hc20 => ?_) (fun hc20 => ?_)
          · replace h := jif_t hc20 h
            refine j_iconst (v := 0) dX10_comes_129 (by decide) ?_
            refine j_sub [] [] rfl ?_
            exact f_X10_comes_J130_ok σ13 0 hn hr _ h hK
          · replace h := jif_f hc20 h
            refine j_iconst (v := 1) dX10_comes_125 (by decide) ?_
            refine j_goto 130 dX10_comes_126 (by decide) ?_
            refine j_sub [] [] rfl ?_
            exact f_X10_comes_J130_ok σ13 1 hn hr _ h hK
        replace h := jif_f hc19 h
        refine j_tblOut 131 dX10_comes_47 (jsw_out (by decide) (by decide) (fun q h1 h2 => ?_)) (by decide) ?_
        · clear h; match q, h1, h2 with
          | 0, _, _ => exact hc14
          | 1, _, _ => exact hc15
          | 2, _, _ => exact hc17
          | 3, _, _ => exact hc19
        · skip
          refine j_aload_n 0 dX10_comes_131 rfl rfl ?_
          refine j_get (ci := 9) 1 (.ref 4) jC_9 dX10_comes_132 kg_RX10_19 rfl (okX_1 _) (shX_1 _) (fvX_1_1 _) ?_
          replace h := bC_inv h
          obtain ⟨r21, cr21, h⟩ := h
          refine j_callV (ci := 0) (st1 := .int r21 :: _) (c_X0_holdersFound g cr21) jy_X0_holdersFound ki_yX0_holdersFound ks_yX0_holdersFound kl_RX10_237 dX10_comes_135 rfl (okX_4 _) (shX_4 _) rfl rfl rfl rfl (jbr _) (jbr _) hn.1 hn.2 (Or.inr rfl) rfl ?_
          replace h := Option.some.inj h
          subst h
          obtain ⟨hr1, hr2⟩ := hr _ _ hK
          exact j_iret dX10_comes_138 hr1 hr2
      · replace h := jif_f hc10 h
        refine j_sub [] [] rfl ?_
        exact f_X10_comes_J21_ok σ hn hr _ h hK
  · replace h := jif_t hc8 h
    refine j_sipush (v := (-1001)) dX10_comes_8 (by decide) ?_
    replace h := Option.some.inj h
    subst h
    obtain ⟨hr1, hr2⟩ := hr _ _ hK
    exact j_iret dX10_comes_11 hr1 hr2
theorem c_X10_comes (g : Bool) {σ : jS} {x1 : Int32} {x2 : Int32} {r : Int32} {σ2 : jS} (h : f_X10_comes σ x1 x2 = some (r, σ2)) : Cn yX10_comes cX10_comes 3 (some .int) 6 g [.ref 1, .int x1, .int x2] (eX σ) (some (.int r)) (eX σ2) :=
  Cn_of (by decide) (Nat.le_refl _) (Nat.le_refl _) (Nat.le_of_ble_eq_true rfl) (f_X10_comes_ok (Kp := (fun o => o = (r, σ2))) σ x1 x2 ⟨jbr _, jbr _⟩ (fun r2 s2 q => by cases q; exact ⟨rfl, rfl⟩) _ h rfl)
def f_X0_endAt_J60 (σ : jS) : Option Int32 :=
  some ((-1))
set_option maxHeartbeats 1000000 in
set_option maxRecDepth 20000 in
theorem f_X0_endAt_J60_ok {g : Bool} {rv : Option Value} {μ' : jM} (σ : jS) {Kp : Int32 → Prop} (hn : Nat.ble nX μ'.1 = true ∧ Nat.ble wX μ'.2.1 = true) (hr : ∀ r : Int32, Kp (r) → rv = some (.int r) ∧ μ' = (eX σ)) (o : Int32) (h : f_X0_endAt_J60 σ = some o) (hK : Kp o) : J yX0_endAt cX0_endAt 6 (some .int) 4 g rv μ' 60 [] [] (eX σ) := by
  unfold f_X0_endAt_J60 at h
  refine j_iconst (v := (-1)) dX0_endAt_60 (by decide) ?_
  replace h := Option.some.inj h
  subst h
  obtain ⟨hr1, hr2⟩ := hr _ hK
  exact j_iret dX0_endAt_61 hr1 hr2
def f_X0_endAt_J37 (σ : jS) (x2 : Int32) (x3 : Int32) (x4 : Int32) : Option Int32 :=
  bC (f_X6_numbered x4 x2) fun r5 =>
  some ((((100 : Int32) * x3) + r5))
set_option maxHeartbeats 1000000 in
set_option maxRecDepth 20000 in
theorem f_X0_endAt_J37_ok {g : Bool} {rv : Option Value} {μ' : jM} (σ : jS) (x2 : Int32) (x3 : Int32) (x4 : Int32) {Kp : Int32 → Prop} (hn : Nat.ble nX μ'.1 = true ∧ Nat.ble wX μ'.2.1 = true) (hr : ∀ r : Int32, Kp (r) → rv = some (.int r) ∧ μ' = (eX σ)) (o : Int32) (h : f_X0_endAt_J37 σ x2 x3 x4 = some o) (hK : Kp o) : J yX0_endAt cX0_endAt 6 (some .int) 4 g rv μ' 37 [(2, .int x2), (3, .int x3), (4, .int x4)] [] (eX σ) := by
  unfold f_X0_endAt_J37 at h
  refine j_bipush (v := 100) dX0_endAt_37 (by decide) ?_
  refine j_iload_n 1 dX0_endAt_39 rfl rfl ?_
  refine j_imul dX0_endAt_40 ?_
  refine j_iload 2 dX0_endAt_41 rfl ?_
  refine j_iload_n 0 dX0_endAt_43 rfl rfl ?_
  replace h := bC_inv h
  obtain ⟨r6, cr6, h⟩ := h
  refine j_callS (st1 := .int r6 :: _) (c_X6_numbered g _ cr6) jy_X6_numbered kt_yX6_numbered kl_RX0_171 dX0_endAt_44 rfl rfl rfl rfl (jbr _) (jbr _) hn.1 hn.2 (Or.inr rfl) rfl ?_
  refine j_iadd dX0_endAt_47 ?_
  replace h := Option.some.inj h
  subst h
  obtain ⟨hr1, hr2⟩ := hr _ hK
  exact j_iret dX0_endAt_48 hr1 hr2
def f_X0_endAt_B4 (σ : jS) (x2 : Int32) (x3 : Int32) : Option ((Int32 × Int32) ⊕ Int32) :=
  if 16 ≤ x3 then (jw (f_X0_endAt_J60 σ))
  else (if x2 < 0 then (jw (f_X0_endAt_J60 σ))
  else (bC (f_X6_at σ 16 x3) fun r1 =>
  bC (f_J6_bitCount_0f7a4 r1) fun r2 =>
  if r2 ≤ x2 then (bV (x2 - r2) fun v3 =>
  bV (x3 + 1) fun v4 =>
  some (.inl (v3, v4)))
  else (jw (f_X0_endAt_J37 σ x2 x3 r1))))
set_option maxHeartbeats 1000000 in
set_option maxRecDepth 20000 in
theorem f_X0_endAt_B4_ok {g : Bool} {rv : Option Value} {μ' : jM} (σ : jS) (x2 : Int32) (x3 : Int32) {Kp : ((Int32 × Int32) ⊕ Int32) → Prop} (hn : Nat.ble nX μ'.1 = true ∧ Nat.ble wX μ'.2.1 = true) (hr : ∀ r : Int32, Kp (.inr (r)) → rv = some (.int r) ∧ μ' = (eX σ)) (hc0 : ∀ s : (Int32 × Int32), Kp (.inl s) → J yX0_endAt cX0_endAt 6 (some .int) 4 g rv μ' 4 [(0, .ref 4), (2, .int s.1), (3, .int s.2)] [] (eX σ)) (o : ((Int32 × Int32) ⊕ Int32)) (h : f_X0_endAt_B4 σ x2 x3 = some o) (hK : Kp o) : J yX0_endAt cX0_endAt 6 (some .int) 4 g rv μ' 4 [(0, .ref 4), (2, .int x2), (3, .int x3)] [] (eX σ) := by
  unfold f_X0_endAt_B4 at h
  refine j_iload_n 2 dX0_endAt_4 rfl rfl ?_
  refine j_bipush (v := 16) dX0_endAt_5 (by decide) ?_
  refine j_icmp_ge 60 dX0_endAt_7 (by decide) (fun hc7 => ?_) (fun hc7 => ?_)
  · replace h := jif_t hc7 h
    replace h := jw_inv h
    obtain ⟨o8, rfl, h⟩ := h
    refine j_sub [] [] rfl ?_
    exact f_X0_endAt_J60_ok (Kp := fun o => Kp (.inr (o))) σ hn (fun r q => hr r q) _ h hK
  · replace h := jif_f hc7 h
    refine j_iload_n 1 dX0_endAt_10 rfl rfl ?_
    refine j_if_lt 60 dX0_endAt_11 (by decide) (fun hc9 => ?_) (fun hc9 => ?_)
    · replace h := jif_t hc9 h
      replace h := jw_inv h
      obtain ⟨o10, rfl, h⟩ := h
      refine j_sub [] [] rfl ?_
      exact f_X0_endAt_J60_ok (Kp := fun o => Kp (.inr (o))) σ hn (fun r q => hr r q) _ h hK
    · replace h := jif_f hc9 h
      refine j_aload_n 0 dX0_endAt_14 rfl rfl ?_
      refine j_get (ci := 0) 9 (.ref 16) jC_0 dX0_endAt_15 kg_RX0_34 rfl (okX_4 _) (shX_4 _) (fvX_4_9 _) ?_
      refine j_iload_n 2 dX0_endAt_18 rfl rfl ?_
      replace h := bC_inv h
      obtain ⟨r11, cr11, h⟩ := h
      refine j_callS (st1 := .int r11 :: _) (c_X6_at g cr11) jy_X6_at kt_yX6_at kl_RX0_61 dX0_endAt_19 rfl rfl rfl rfl (jbr _) (jbr _) hn.1 hn.2 (Or.inr rfl) rfl ?_
      refine j_istore [(4, .int r11), (0, .ref 4), (2, .int x2), (3, .int x3)] dX0_endAt_22 (Nat.le_of_ble_eq_true rfl) rfl ?_
      refine j_iload 0 dX0_endAt_24 rfl ?_
      replace h := bC_inv h
      obtain ⟨r12, cr12, h⟩ := h
      refine j_callS (st1 := .int r12 :: _) (c_J6_bitCount_0f7a4 g _ cr12) jy_J6_bitCount_0f7a4 kt_yJ6_bitCount_0f7a4 kl_RX0_167 dX0_endAt_26 rfl rfl rfl rfl (jbr _) (jbr _) hn.1 hn.2 (Or.inr rfl) rfl ?_
      refine j_istore [(5, .int r12), (4, .int r11), (0, .ref 4), (2, .int x2), (3, .int x3)] dX0_endAt_29 (Nat.le_of_ble_eq_true rfl) rfl ?_
      refine j_iload_n 3 dX0_endAt_31 rfl rfl ?_
      refine j_iload 0 dX0_endAt_32 rfl ?_
      refine j_icmp_ge 49 dX0_endAt_34 (by decide) (fun hc13 => ?_) (fun hc13 => ?_)
      · replace h := jif_t hc13 h
        refine j_iload_n 3 dX0_endAt_49 rfl rfl ?_
        refine j_iload 0 dX0_endAt_50 rfl ?_
        refine j_isub dX0_endAt_52 ?_
        replace h := bV_inv h
        obtain ⟨v14, ev14, h⟩ := h
        refine j_nmi ev14 ?_
        refine j_istore_n [(2, .int v14), (5, .int r12), (4, .int r11), (0, .ref 4), (3, .int x3)] dX0_endAt_53 rfl (Nat.le_of_ble_eq_true rfl) rfl ?_
        replace h := bV_inv h
        obtain ⟨v15, ev15, h⟩ := h
        refine j_iinc (v := v15) [(3, .int v15), (2, .int v14), (5, .int r12), (4, .int r11), (0, .ref 4)] 4 dX0_endAt_54 rfl (by rw [ev15]; rfl) (Nat.le_of_ble_eq_true rfl) rfl ?_
        refine j_goto 4 dX0_endAt_57 (by decide) ?_
        replace h := Option.some.inj h
        subst h
        refine j_sub [(0, .ref 4), (2, .int v14), (3, .int v15)] [4, 1, 0] rfl ?_
        exact hc0 _ hK
      · replace h := jif_f hc13 h
        replace h := jw_inv h
        obtain ⟨o16, rfl, h⟩ := h
        refine j_sub [(2, .int x2), (3, .int x3), (4, .int r11)] [3, 4, 1] rfl ?_
        exact f_X0_endAt_J37_ok (Kp := fun o => Kp (.inr (o))) σ x2 x3 r11 hn (fun r q => hr r q) _ h hK
def f_X0_endAt (σ : jS) (x1 : Int32) : Option Int32 :=
  jloop jFuel (fun s => f_X0_endAt_B4 σ s.1 s.2) (x1, 0)
set_option maxHeartbeats 1000000 in
set_option maxRecDepth 20000 in
theorem f_X0_endAt_ok {g : Bool} {rv : Option Value} {μ' : jM} (σ : jS) (x1 : Int32) {Kp : Int32 → Prop} (hn : Nat.ble nX μ'.1 = true ∧ Nat.ble wX μ'.2.1 = true) (hr : ∀ r : Int32, Kp (r) → rv = some (.int r) ∧ μ' = (eX σ)) (o : Int32) (h : f_X0_endAt σ x1 = some o) (hK : Kp o) : J yX0_endAt cX0_endAt 6 (some .int) 4 g rv μ' 0 [(0, .ref 4), (1, .int x1)] [] (eX σ) := by
  unfold f_X0_endAt at h
  refine j_iload_n 1 dX0_endAt_0 rfl rfl ?_
  refine j_istore_n [(2, .int x1), (0, .ref 4), (1, .int x1)] dX0_endAt_1 rfl (Nat.le_of_ble_eq_true rfl) rfl ?_
  refine j_iconst (v := 0) dX0_endAt_2 (by decide) ?_
  refine j_istore_n [(3, .int 0), (2, .int x1), (0, .ref 4), (1, .int x1)] dX0_endAt_3 rfl (Nat.le_of_ble_eq_true rfl) rfl ?_
  refine j_sub [(0, .ref 4), (2, .int x1), (3, .int 0)] [2, 1, 0] rfl ?_
  exact jloop_ok (fun s => f_X0_endAt_B4 σ s.1 s.2) (fun s => J yX0_endAt cX0_endAt 6 (some .int) 4 g rv μ' 4 [(0, .ref 4), (2, .int s.1), (3, .int s.2)] [] (eX σ)) Kp (fun s o hb hk => f_X0_endAt_B4_ok (Kp := jsum (fun s => J yX0_endAt cX0_endAt 6 (some .int) 4 g rv μ' 4 [(0, .ref 4), (2, .int s.1), (3, .int s.2)] [] (eX σ)) Kp) σ s.1 s.2 hn (fun r q => hr r q) (fun s q => q) o hb hk) jFuel _ _ h hK
theorem c_X0_endAt (g : Bool) {σ : jS} {x1 : Int32} {r : Int32} (h : f_X0_endAt σ x1 = some r) : Cn yX0_endAt cX0_endAt 6 (some .int) 4 g [.ref 4, .int x1] (eX σ) (some (.int r)) (eX σ) :=
  Cn_of (by decide) (Nat.le_refl _) (Nat.le_refl _) (Nat.le_of_ble_eq_true rfl) (f_X0_endAt_ok (Kp := (fun o => o = r)) σ x1 ⟨jbr _, jbr _⟩ (fun r2 q => by cases q; exact ⟨rfl, rfl⟩) _ h rfl)
def f_X10_end (σ : jS) (x1 : Int32) (x2 : Int32) : Option (Int32 × jS) :=
  bC (f_X10_isQuarrel σ x1) fun r1 =>
  if r1 = 0 then (some (((-1001), σ)))
  else (bC (f_X6_at σ 30 x1) fun r2 =>
  bD (f_X0_solve σ r2 (-1) 0) fun r3 σ4 =>
  bC (f_X0_endAt σ4 x2) fun r5 =>
  some ((r5, σ4)))
set_option maxHeartbeats 1000000 in
set_option maxRecDepth 20000 in
theorem f_X10_end_ok {g : Bool} {rv : Option Value} {μ' : jM} (σ : jS) (x1 : Int32) (x2 : Int32) {Kp : (Int32 × jS) → Prop} (hn : Nat.ble nX μ'.1 = true ∧ Nat.ble wX μ'.2.1 = true) (hr : ∀ (r : Int32) (s : jS), Kp ((r, s)) → rv = some (.int r) ∧ μ' = eX s) (o : (Int32 × jS)) (h : f_X10_end σ x1 x2 = some o) (hK : Kp o) : J yX10_end cX10_end 3 (some .int) 6 g rv μ' 0 [(0, .ref 1), (1, .int x1), (2, .int x2)] [] (eX σ) := by
  unfold f_X10_end at h
  refine j_aload_n 0 dX10_end_0 rfl rfl ?_
  refine j_iload_n 1 dX10_end_1 rfl rfl ?_
  replace h := bC_inv h
  obtain ⟨r6, cr6, h⟩ := h
  refine j_callV (ci := 9) (st1 := .int r6 :: _) (c_X10_isQuarrel g cr6) jy_X10_isQuarrel ki_yX10_isQuarrel ks_yX10_isQuarrel kl_RX10_198 dX10_end_2 rfl (okX_1 _) (shX_1 _) rfl rfl rfl rfl (jbr _) (jbr _) hn.1 hn.2 (Or.inr rfl) rfl ?_
  refine j_if_ne 12 dX10_end_5 (by decide) (fun hc7 => ?_) (fun hc7 => ?_)
  · replace h := jif_f hc7 h
    refine j_aload_n 0 dX10_end_12 rfl rfl ?_
    refine j_get (ci := 9) 1 (.ref 4) jC_9 dX10_end_13 kg_RX10_19 rfl (okX_1 _) (shX_1 _) (fvX_1_1 _) ?_
    refine j_aload_n 0 dX10_end_16 rfl rfl ?_
    refine j_get (ci := 9) 5 (.ref 29) jC_9 dX10_end_17 kg_RX10_47 rfl (okX_1 _) (shX_1 _) (fvX_1_5 _) ?_
    refine j_get (ci := 6) 0 (.ref 30) jC_6 dX10_end_20 kg_RX10_94 rfl (okX_29 _) (shX_29 _) (fvX_29_0 _) ?_
    refine j_iload_n 1 dX10_end_23 rfl rfl ?_
    replace h := bC_inv h
    obtain ⟨r8, cr8, h⟩ := h
    refine j_callS (st1 := .int r8 :: _) (c_X6_at g cr8) jy_X6_at kt_yX6_at kl_RX10_150 dX10_end_24 rfl rfl rfl rfl (jbr _) (jbr _) hn.1 hn.2 (Or.inr rfl) rfl ?_
    refine j_iconst (v := (-1)) dX10_end_27 (by decide) ?_
    refine j_iconst (v := 0) dX10_end_28 (by decide) ?_
    replace h := bD_inv h
    obtain ⟨r9, σ10, cr9, h⟩ := h
    refine j_callV (ci := 0) (st1 := .int r9 :: _) (c_X0_solve g cr9) jy_X0_solve ki_yX0_solve ks_yX0_solve kl_RX10_220 dX10_end_29 rfl (okX_4 _) (shX_4 _) rfl rfl rfl rfl (jbr _) (jbr _) hn.1 hn.2 (Or.inr rfl) rfl ?_
    refine j_pop dX10_end_32 rfl ?_
    refine j_aload_n 0 dX10_end_33 rfl rfl ?_
    refine j_get (ci := 9) 1 (.ref 4) jC_9 dX10_end_34 kg_RX10_19 rfl (okX_1 _) (shX_1 _) (fvX_1_1 _) ?_
    refine j_iload_n 2 dX10_end_37 rfl rfl ?_
    replace h := bC_inv h
    obtain ⟨r11, cr11, h⟩ := h
    refine j_callV (ci := 0) (st1 := .int r11 :: _) (c_X0_endAt g cr11) jy_X0_endAt ki_yX0_endAt ks_yX0_endAt kl_RX10_240 dX10_end_38 rfl (okX_4 _) (shX_4 _) rfl rfl rfl rfl (jbr _) (jbr _) hn.1 hn.2 (Or.inr rfl) rfl ?_
    replace h := Option.some.inj h
    subst h
    obtain ⟨hr1, hr2⟩ := hr _ _ hK
    exact j_iret dX10_end_41 hr1 hr2
  · replace h := jif_t hc7 h
    refine j_sipush (v := (-1001)) dX10_end_8 (by decide) ?_
    replace h := Option.some.inj h
    subst h
    obtain ⟨hr1, hr2⟩ := hr _ _ hK
    exact j_iret dX10_end_11 hr1 hr2
theorem c_X10_end (g : Bool) {σ : jS} {x1 : Int32} {x2 : Int32} {r : Int32} {σ2 : jS} (h : f_X10_end σ x1 x2 = some (r, σ2)) : Cn yX10_end cX10_end 3 (some .int) 6 g [.ref 1, .int x1, .int x2] (eX σ) (some (.int r)) (eX σ2) :=
  Cn_of (by decide) (Nat.le_refl _) (Nat.le_refl _) (Nat.le_of_ble_eq_true rfl) (f_X10_end_ok (Kp := (fun o => o = (r, σ2))) σ x1 x2 ⟨jbr _, jbr _⟩ (fun r2 s2 q => by cases q; exact ⟨rfl, rfl⟩) _ h rfl)
def f_X10_isSide_J14 (y0 : Int32) : Option Int32 :=
  bG (jb y0) (
  some (y0))
set_option maxHeartbeats 1000000 in
set_option maxRecDepth 20000 in
theorem f_X10_isSide_J14_ok {g : Bool} {rv : Option Value} {μ' : jM} (y0 : Int32) (μ : jM) {Kp : Int32 → Prop} (hn : Nat.ble μ.1 μ'.1 = true ∧ Nat.ble μ.2.1 μ'.2.1 = true) (hr : ∀ r : Int32, Kp (r) → rv = some (.int r) ∧ μ' = μ) (o : Int32) (h : f_X10_isSide_J14 y0 = some o) (hK : Kp o) : J yX10_isSide cX10_isSide 1 (some .boolean) 1 g rv μ' 14 [] [.int y0] μ := by
  unfold f_X10_isSide_J14 at h
  replace h := bG_inv h
  obtain ⟨hb, h⟩ := h
  replace h := Option.some.inj h
  subst h
  obtain ⟨hr1, hr2⟩ := hr _ hK
  exact j_zret (jb_nar hb) dX10_isSide_14 hr1 hr2
def f_X10_isSide_J9 : Option Int32 :=
  f_X10_isSide_J14 1
set_option maxHeartbeats 1000000 in
set_option maxRecDepth 20000 in
theorem f_X10_isSide_J9_ok {g : Bool} {rv : Option Value} {μ' : jM} (μ : jM) {Kp : Int32 → Prop} (hn : Nat.ble μ.1 μ'.1 = true ∧ Nat.ble μ.2.1 μ'.2.1 = true) (hr : ∀ r : Int32, Kp (r) → rv = some (.int r) ∧ μ' = μ) (o : Int32) (h : f_X10_isSide_J9  = some o) (hK : Kp o) : J yX10_isSide cX10_isSide 1 (some .boolean) 1 g rv μ' 9 [] [] μ := by
  unfold f_X10_isSide_J9 at h
  refine j_iconst (v := 1) dX10_isSide_9 (by decide) ?_
  refine j_goto 14 dX10_isSide_10 (by decide) ?_
  exact f_X10_isSide_J14_ok 1 μ hn hr _ h hK
def f_X10_isSide (x0 : Int32) : Option Int32 :=
  if x0 = 0 then (f_X10_isSide_J9 )
  else (if x0 = 1 then (f_X10_isSide_J9 )
  else (f_X10_isSide_J14 0))
set_option maxHeartbeats 1000000 in
set_option maxRecDepth 20000 in
theorem f_X10_isSide_ok {g : Bool} {rv : Option Value} {μ' : jM} (x0 : Int32) (μ : jM) {Kp : Int32 → Prop} (hn : Nat.ble μ.1 μ'.1 = true ∧ Nat.ble μ.2.1 μ'.2.1 = true) (hr : ∀ r : Int32, Kp (r) → rv = some (.int r) ∧ μ' = μ) (o : Int32) (h : f_X10_isSide x0 = some o) (hK : Kp o) : J yX10_isSide cX10_isSide 1 (some .boolean) 1 g rv μ' 0 [(0, .int x0)] [] μ := by
  unfold f_X10_isSide at h
  refine j_iload_n 0 dX10_isSide_0 rfl rfl ?_
  refine j_if_eq 9 dX10_isSide_1 (by decide) (fun hc1 => ?_) (fun hc1 => ?_)
  · replace h := jif_t hc1 h
    refine j_sub [] [] rfl ?_
    exact f_X10_isSide_J9_ok  μ hn hr _ h hK
  · replace h := jif_f hc1 h
    refine j_iload_n 0 dX10_isSide_4 rfl rfl ?_
    refine j_iconst (v := 1) dX10_isSide_5 (by decide) ?_
    refine j_icmp_ne 13 dX10_isSide_6 (by decide) (fun hc2 => ?_) (fun hc2 => ?_)
    · replace h := jif_f hc2 h
      refine j_iconst (v := 0) dX10_isSide_13 (by decide) ?_
      refine j_sub [] [] rfl ?_
      exact f_X10_isSide_J14_ok 0 μ hn hr _ h hK
    · replace h := jif_t hc2 h
      refine j_sub [] [] rfl ?_
      exact f_X10_isSide_J9_ok  μ hn hr _ h hK
theorem c_X10_isSide (g : Bool) (μ : jM) {x0 : Int32} {r : Int32} (h : f_X10_isSide x0 = some r) : Cn yX10_isSide cX10_isSide 1 (some .boolean) 1 g [.int x0] μ (some (.int r)) μ :=
  Cn_of (by decide) (Nat.le_refl _) (Nat.le_refl _) (Nat.le_of_ble_eq_true rfl) (f_X10_isSide_ok (Kp := (fun o => o = r)) x0 μ ⟨jbr _, jbr _⟩ (fun r2 q => by cases q; exact ⟨rfl, rfl⟩) _ h rfl)
def f_X10_forces (σ : jS) (x1 : Int32) (x2 : Int32) : Option (Int32 × jS) :=
  bC (f_X10_isQuarrel σ x1) fun r1 =>
  if r1 = 0 then (some (((-1001), σ)))
  else (bC (f_X10_isSide x2) fun r2 =>
  if r2 = 0 then (some (((-1002), σ)))
  else (bC (f_X6_at σ 30 x1) fun r3 =>
  bD (f_X0_solve σ r3 x2 0) fun r4 σ5 =>
  some ((r4, σ5))))
set_option maxHeartbeats 1000000 in
set_option maxRecDepth 20000 in
theorem f_X10_forces_ok {g : Bool} {rv : Option Value} {μ' : jM} (σ : jS) (x1 : Int32) (x2 : Int32) {Kp : (Int32 × jS) → Prop} (hn : Nat.ble nX μ'.1 = true ∧ Nat.ble wX μ'.2.1 = true) (hr : ∀ (r : Int32) (s : jS), Kp ((r, s)) → rv = some (.int r) ∧ μ' = eX s) (o : (Int32 × jS)) (h : f_X10_forces σ x1 x2 = some o) (hK : Kp o) : J yX10_forces cX10_forces 3 (some .int) 6 g rv μ' 0 [(0, .ref 1), (1, .int x1), (2, .int x2)] [] (eX σ) := by
  unfold f_X10_forces at h
  refine j_aload_n 0 dX10_forces_0 rfl rfl ?_
  refine j_iload_n 1 dX10_forces_1 rfl rfl ?_
  replace h := bC_inv h
  obtain ⟨r6, cr6, h⟩ := h
  refine j_callV (ci := 9) (st1 := .int r6 :: _) (c_X10_isQuarrel g cr6) jy_X10_isQuarrel ki_yX10_isQuarrel ks_yX10_isQuarrel kl_RX10_198 dX10_forces_2 rfl (okX_1 _) (shX_1 _) rfl rfl rfl rfl (jbr _) (jbr _) hn.1 hn.2 (Or.inr rfl) rfl ?_
  refine j_if_ne 12 dX10_forces_5 (by decide) (fun hc7 => ?_) (fun hc7 => ?_)
  · replace h := jif_f hc7 h
    refine j_iload_n 2 dX10_forces_12 rfl rfl ?_
    replace h := bC_inv h
    obtain ⟨r8, cr8, h⟩ := h
    refine j_callS (st1 := .int r8 :: _) (c_X10_isSide g _ cr8) jy_X10_isSide kt_yX10_isSide kl_RX10_243 dX10_forces_13 rfl rfl rfl rfl (jbr _) (jbr _) hn.1 hn.2 (Or.inr rfl) rfl ?_
    refine j_if_ne 23 dX10_forces_16 (by decide) (fun hc9 => ?_) (fun hc9 => ?_)
    · replace h := jif_f hc9 h
      refine j_aload_n 0 dX10_forces_23 rfl rfl ?_
      refine j_get (ci := 9) 1 (.ref 4) jC_9 dX10_forces_24 kg_RX10_19 rfl (okX_1 _) (shX_1 _) (fvX_1_1 _) ?_
      refine j_aload_n 0 dX10_forces_27 rfl rfl ?_
      refine j_get (ci := 9) 5 (.ref 29) jC_9 dX10_forces_28 kg_RX10_47 rfl (okX_1 _) (shX_1 _) (fvX_1_5 _) ?_
      refine j_get (ci := 6) 0 (.ref 30) jC_6 dX10_forces_31 kg_RX10_94 rfl (okX_29 _) (shX_29 _) (fvX_29_0 _) ?_
      refine j_iload_n 1 dX10_forces_34 rfl rfl ?_
      replace h := bC_inv h
      obtain ⟨r10, cr10, h⟩ := h
      refine j_callS (st1 := .int r10 :: _) (c_X6_at g cr10) jy_X6_at kt_yX6_at kl_RX10_150 dX10_forces_35 rfl rfl rfl rfl (jbr _) (jbr _) hn.1 hn.2 (Or.inr rfl) rfl ?_
      refine j_iload_n 2 dX10_forces_38 rfl rfl ?_
      refine j_iconst (v := 0) dX10_forces_39 (by decide) ?_
      replace h := bD_inv h
      obtain ⟨r11, σ12, cr11, h⟩ := h
      refine j_callV (ci := 0) (st1 := .int r11 :: _) (c_X0_solve g cr11) jy_X0_solve ki_yX0_solve ks_yX0_solve kl_RX10_220 dX10_forces_40 rfl (okX_4 _) (shX_4 _) rfl rfl rfl rfl (jbr _) (jbr _) hn.1 hn.2 (Or.inr rfl) rfl ?_
      replace h := Option.some.inj h
      subst h
      obtain ⟨hr1, hr2⟩ := hr _ _ hK
      exact j_iret dX10_forces_43 hr1 hr2
    · replace h := jif_t hc9 h
      refine j_sipush (v := (-1002)) dX10_forces_19 (by decide) ?_
      replace h := Option.some.inj h
      subst h
      obtain ⟨hr1, hr2⟩ := hr _ _ hK
      exact j_iret dX10_forces_22 hr1 hr2
  · replace h := jif_t hc7 h
    refine j_sipush (v := (-1001)) dX10_forces_8 (by decide) ?_
    replace h := Option.some.inj h
    subst h
    obtain ⟨hr1, hr2⟩ := hr _ _ hK
    exact j_iret dX10_forces_11 hr1 hr2
theorem c_X10_forces (g : Bool) {σ : jS} {x1 : Int32} {x2 : Int32} {r : Int32} {σ2 : jS} (h : f_X10_forces σ x1 x2 = some (r, σ2)) : Cn yX10_forces cX10_forces 3 (some .int) 6 g [.ref 1, .int x1, .int x2] (eX σ) (some (.int r)) (eX σ2) :=
  Cn_of (by decide) (Nat.le_refl _) (Nat.le_refl _) (Nat.le_of_ble_eq_true rfl) (f_X10_forces_ok (Kp := (fun o => o = (r, σ2))) σ x1 x2 ⟨jbr _, jbr _⟩ (fun r2 s2 q => by cases q; exact ⟨rfl, rfl⟩) _ h rfl)
def f_X0_bestPerson_J151 (σ : jS) (x6 : Int32) : Option (Int32 × jS) :=
  some ((x6, σ))
set_option maxHeartbeats 1000000 in
set_option maxRecDepth 20000 in
theorem f_X0_bestPerson_J151_ok {g : Bool} {rv : Option Value} {μ' : jM} (σ : jS) (x6 : Int32) {Kp : (Int32 × jS) → Prop} (hn : Nat.ble nX μ'.1 = true ∧ Nat.ble wX μ'.2.1 = true) (hr : ∀ (r : Int32) (s : jS), Kp ((r, s)) → rv = some (.int r) ∧ μ' = eX s) (o : (Int32 × jS)) (h : f_X0_bestPerson_J151 σ x6 = some o) (hK : Kp o) : J yX0_bestPerson cX0_bestPerson 11 (some .int) 6 g rv μ' 151 [(6, .int x6)] [] (eX σ) := by
  unfold f_X0_bestPerson_J151 at h
  refine j_iload 0 dX0_bestPerson_151 rfl ?_
  replace h := Option.some.inj h
  subst h
  obtain ⟨hr1, hr2⟩ := hr _ _ hK
  exact j_iret dX0_bestPerson_153 hr1 hr2
def f_X0_bestPerson_J145 (σ : jS) (x1 : Int32) (x3 : Int32) (x4 : Int32) (x5 : Int32) (x6 : Int32) (x7 : Int32) (x8 : Int32) : Option ((Int32 × Int32 × Int32 × jS) ⊕ (Int32 × jS)) :=
  bV (x8 + 1) fun v8 =>
  some (.inl (x6, x7, v8, σ))
set_option maxHeartbeats 1000000 in
set_option maxRecDepth 20000 in
theorem f_X0_bestPerson_J145_ok {g : Bool} {rv : Option Value} {μ' : jM} (σ : jS) (x1 : Int32) (x3 : Int32) (x4 : Int32) (x5 : Int32) (x6 : Int32) (x7 : Int32) (x8 : Int32) {Kp : ((Int32 × Int32 × Int32 × jS) ⊕ (Int32 × jS)) → Prop} (hn : Nat.ble nX μ'.1 = true ∧ Nat.ble wX μ'.2.1 = true) (hr : ∀ (r : Int32) (s : jS), Kp (.inr ((r, s))) → rv = some (.int r) ∧ μ' = eX s) (hc0 : ∀ s : (Int32 × Int32 × Int32 × jS), Kp (.inl s) → J yX0_bestPerson cX0_bestPerson 11 (some .int) 6 g rv μ' 53 [(0, .ref 4), (1, .int x1), (3, .int x3), (4, .int x4), (5, .int x5), (6, .int s.1), (7, .int s.2.1), (8, .int s.2.2.1)] [] (eX s.2.2.2)) (o : ((Int32 × Int32 × Int32 × jS) ⊕ (Int32 × jS))) (h : f_X0_bestPerson_J145 σ x1 x3 x4 x5 x6 x7 x8 = some o) (hK : Kp o) : J yX0_bestPerson cX0_bestPerson 11 (some .int) 6 g rv μ' 145 [(0, .ref 4), (1, .int x1), (3, .int x3), (4, .int x4), (5, .int x5), (6, .int x6), (7, .int x7), (8, .int x8)] [] (eX σ) := by
  unfold f_X0_bestPerson_J145 at h
  replace h := bV_inv h
  obtain ⟨v9, ev9, h⟩ := h
  refine j_iinc (v := v9) [(8, .int v9), (0, .ref 4), (1, .int x1), (3, .int x3), (4, .int x4), (5, .int x5), (6, .int x6), (7, .int x7)] 7 dX0_bestPerson_145 rfl (by rw [ev9]; rfl) (Nat.le_of_ble_eq_true rfl) rfl ?_
  refine j_goto 53 dX0_bestPerson_148 (by decide) ?_
  replace h := Option.some.inj h
  subst h
  refine j_sub [(0, .ref 4), (1, .int x1), (3, .int x3), (4, .int x4), (5, .int x5), (6, .int x6), (7, .int x7), (8, .int v9)] [1, 2, 3, 4, 5, 6, 7, 0] rfl ?_
  exact hc0 _ hK
def f_X0_bestPerson_J137 (σ : jS) (x1 : Int32) (x3 : Int32) (x4 : Int32) (x5 : Int32) (x8 : Int32) (x10 : Int32) : Option ((Int32 × Int32 × Int32 × jS) ⊕ (Int32 × jS)) :=
  f_X0_bestPerson_J145 σ x1 x3 x4 x5 x8 x10 x8
set_option maxHeartbeats 1000000 in
set_option maxRecDepth 20000 in
theorem f_X0_bestPerson_J137_ok {g : Bool} {rv : Option Value} {μ' : jM} (σ : jS) (x1 : Int32) (x3 : Int32) (x4 : Int32) (x5 : Int32) (x8 : Int32) (x10 : Int32) {Kp : ((Int32 × Int32 × Int32 × jS) ⊕ (Int32 × jS)) → Prop} (hn : Nat.ble nX μ'.1 = true ∧ Nat.ble wX μ'.2.1 = true) (hr : ∀ (r : Int32) (s : jS), Kp (.inr ((r, s))) → rv = some (.int r) ∧ μ' = eX s) (hc0 : ∀ s : (Int32 × Int32 × Int32 × jS), Kp (.inl s) → J yX0_bestPerson cX0_bestPerson 11 (some .int) 6 g rv μ' 53 [(0, .ref 4), (1, .int x1), (3, .int x3), (4, .int x4), (5, .int x5), (6, .int s.1), (7, .int s.2.1), (8, .int s.2.2.1)] [] (eX s.2.2.2)) (o : ((Int32 × Int32 × Int32 × jS) ⊕ (Int32 × jS))) (h : f_X0_bestPerson_J137 σ x1 x3 x4 x5 x8 x10 = some o) (hK : Kp o) : J yX0_bestPerson cX0_bestPerson 11 (some .int) 6 g rv μ' 137 [(0, .ref 4), (1, .int x1), (3, .int x3), (4, .int x4), (5, .int x5), (8, .int x8), (10, .int x10)] [] (eX σ) := by
  unfold f_X0_bestPerson_J137 at h
  refine j_iload 5 dX0_bestPerson_137 rfl ?_
  refine j_istore [(6, .int x8), (0, .ref 4), (1, .int x1), (3, .int x3), (4, .int x4), (5, .int x5), (8, .int x8), (10, .int x10)] dX0_bestPerson_139 (Nat.le_of_ble_eq_true rfl) rfl ?_
  refine j_iload 7 dX0_bestPerson_141 rfl ?_
  refine j_istore [(7, .int x10), (6, .int x8), (0, .ref 4), (1, .int x1), (3, .int x3), (4, .int x4), (5, .int x5), (8, .int x8), (10, .int x10)] dX0_bestPerson_143 (Nat.le_of_ble_eq_true rfl) rfl ?_
  refine j_sub [(0, .ref 4), (1, .int x1), (3, .int x3), (4, .int x4), (5, .int x5), (6, .int x8), (7, .int x10), (8, .int x8)] [2, 3, 4, 5, 6, 1, 0, 7] rfl ?_
  exact f_X0_bestPerson_J145_ok σ x1 x3 x4 x5 x8 x10 x8 hn hr hc0 _ h hK
def f_X0_bestPerson_J122 (σ : jS) (x1 : Int32) (x3 : Int32) (x4 : Int32) (x5 : Int32) (x6 : Int32) (x7 : Int32) (x8 : Int32) (y0 : Int32) : Option ((Int32 × Int32 × Int32 × jS) ⊕ (Int32 × jS)) :=
  if x6 = (-1) then (f_X0_bestPerson_J137 σ x1 x3 x4 x5 x8 y0)
  else (if y0 ≤ x7 then (f_X0_bestPerson_J145 σ x1 x3 x4 x5 x6 x7 x8)
  else (f_X0_bestPerson_J137 σ x1 x3 x4 x5 x8 y0))
set_option maxHeartbeats 1000000 in
set_option maxRecDepth 20000 in
theorem f_X0_bestPerson_J122_ok {g : Bool} {rv : Option Value} {μ' : jM} (σ : jS) (x1 : Int32) (x3 : Int32) (x4 : Int32) (x5 : Int32) (x6 : Int32) (x7 : Int32) (x8 : Int32) (y0 : Int32) {Kp : ((Int32 × Int32 × Int32 × jS) ⊕ (Int32 × jS)) → Prop} (hn : Nat.ble nX μ'.1 = true ∧ Nat.ble wX μ'.2.1 = true) (hr : ∀ (r : Int32) (s : jS), Kp (.inr ((r, s))) → rv = some (.int r) ∧ μ' = eX s) (hc0 : ∀ s : (Int32 × Int32 × Int32 × jS), Kp (.inl s) → J yX0_bestPerson cX0_bestPerson 11 (some .int) 6 g rv μ' 53 [(0, .ref 4), (1, .int x1), (3, .int x3), (4, .int x4), (5, .int x5), (6, .int s.1), (7, .int s.2.1), (8, .int s.2.2.1)] [] (eX s.2.2.2)) (o : ((Int32 × Int32 × Int32 × jS) ⊕ (Int32 × jS))) (h : f_X0_bestPerson_J122 σ x1 x3 x4 x5 x6 x7 x8 y0 = some o) (hK : Kp o) : J yX0_bestPerson cX0_bestPerson 11 (some .int) 6 g rv μ' 122 [(0, .ref 4), (1, .int x1), (3, .int x3), (4, .int x4), (5, .int x5), (6, .int x6), (7, .int x7), (8, .int x8)] [.int y0] (eX σ) := by
  unfold f_X0_bestPerson_J122 at h
  refine j_istore [(10, .int y0), (0, .ref 4), (1, .int x1), (3, .int x3), (4, .int x4), (5, .int x5), (6, .int x6), (7, .int x7), (8, .int x8)] dX0_bestPerson_122 (Nat.le_of_ble_eq_true rfl) rfl ?_
  refine j_iload 6 dX0_bestPerson_124 rfl ?_
  refine j_iconst (v := (-1)) dX0_bestPerson_126 (by decide) ?_
  refine j_icmp_eq 137 dX0_bestPerson_127 (by decide) (fun hc10 => ?_) (fun hc10 => ?_)
  · replace h := jif_t hc10 h
    refine j_sub [(0, .ref 4), (1, .int x1), (3, .int x3), (4, .int x4), (5, .int x5), (8, .int x8), (10, .int y0)] [1, 2, 3, 4, 5, 8, 0] rfl ?_
    exact f_X0_bestPerson_J137_ok σ x1 x3 x4 x5 x8 y0 hn hr hc0 _ h hK
  · replace h := jif_f hc10 h
    refine j_iload 0 dX0_bestPerson_130 rfl ?_
    refine j_iload 7 dX0_bestPerson_132 rfl ?_
    refine j_icmp_le 145 dX0_bestPerson_134 (by decide) (fun hc11 => ?_) (fun hc11 => ?_)
    · replace h := jif_t hc11 h
      refine j_sub [(0, .ref 4), (1, .int x1), (3, .int x3), (4, .int x4), (5, .int x5), (6, .int x6), (7, .int x7), (8, .int x8)] [1, 2, 3, 4, 5, 6, 7, 8] rfl ?_
      exact f_X0_bestPerson_J145_ok σ x1 x3 x4 x5 x6 x7 x8 hn hr hc0 _ h hK
    · replace h := jif_f hc11 h
      refine j_sub [(0, .ref 4), (1, .int x1), (3, .int x3), (4, .int x4), (5, .int x5), (8, .int x8), (10, .int y0)] [1, 2, 3, 4, 5, 8, 0] rfl ?_
      exact f_X0_bestPerson_J137_ok σ x1 x3 x4 x5 x8 y0 hn hr hc0 _ h hK
def f_X0_bestPerson_J101 (σ : jS) (x1 : Int32) (x3 : Int32) (x4 : Int32) (x5 : Int32) (x6 : Int32) (x7 : Int32) (x8 : Int32) (x9 : Int32) : Option ((Int32 × Int32 × Int32 × jS) ⊕ (Int32 × jS)) :=
  if x3 = 0 then (f_X0_bestPerson_J122 σ x1 x3 x4 x5 x6 x7 x8 x9)
  else (if x4 = 0 then (f_X0_bestPerson_J122 σ x1 x3 x4 x5 x6 x7 x8 0)
  else (f_X0_bestPerson_J122 σ x1 x3 x4 x5 x6 x7 x8 (-x9)))
set_option maxHeartbeats 1000000 in
set_option maxRecDepth 20000 in
theorem f_X0_bestPerson_J101_ok {g : Bool} {rv : Option Value} {μ' : jM} (σ : jS) (x1 : Int32) (x3 : Int32) (x4 : Int32) (x5 : Int32) (x6 : Int32) (x7 : Int32) (x8 : Int32) (x9 : Int32) {Kp : ((Int32 × Int32 × Int32 × jS) ⊕ (Int32 × jS)) → Prop} (hn : Nat.ble nX μ'.1 = true ∧ Nat.ble wX μ'.2.1 = true) (hr : ∀ (r : Int32) (s : jS), Kp (.inr ((r, s))) → rv = some (.int r) ∧ μ' = eX s) (hc0 : ∀ s : (Int32 × Int32 × Int32 × jS), Kp (.inl s) → J yX0_bestPerson cX0_bestPerson 11 (some .int) 6 g rv μ' 53 [(0, .ref 4), (1, .int x1), (3, .int x3), (4, .int x4), (5, .int x5), (6, .int s.1), (7, .int s.2.1), (8, .int s.2.2.1)] [] (eX s.2.2.2)) (o : ((Int32 × Int32 × Int32 × jS) ⊕ (Int32 × jS))) (h : f_X0_bestPerson_J101 σ x1 x3 x4 x5 x6 x7 x8 x9 = some o) (hK : Kp o) : J yX0_bestPerson cX0_bestPerson 11 (some .int) 6 g rv μ' 101 [(0, .ref 4), (1, .int x1), (3, .int x3), (4, .int x4), (5, .int x5), (6, .int x6), (7, .int x7), (8, .int x8), (9, .int x9)] [] (eX σ) := by
  unfold f_X0_bestPerson_J101 at h
  refine j_iload_n 2 dX0_bestPerson_101 rfl rfl ?_
  refine j_if_eq 120 dX0_bestPerson_102 (by decide) (fun hc12 => ?_) (fun hc12 => ?_)
  · replace h := jif_t hc12 h
    refine j_iload 8 dX0_bestPerson_120 rfl ?_
    refine j_sub [(0, .ref 4), (1, .int x1), (3, .int x3), (4, .int x4), (5, .int x5), (6, .int x6), (7, .int x7), (8, .int x8)] [0, 1, 2, 3, 4, 5, 6, 7] rfl ?_
    exact f_X0_bestPerson_J122_ok σ x1 x3 x4 x5 x6 x7 x8 x9 hn hr hc0 _ h hK
  · replace h := jif_f hc12 h
    refine j_iload 3 dX0_bestPerson_105 rfl ?_
    refine j_if_eq 116 dX0_bestPerson_107 (by decide) (fun hc13 => ?_) (fun hc13 => ?_)
    · replace h := jif_t hc13 h
      refine j_iconst (v := 0) dX0_bestPerson_116 (by decide) ?_
      refine j_goto 122 dX0_bestPerson_117 (by decide) ?_
      refine j_sub [(0, .ref 4), (1, .int x1), (3, .int x3), (4, .int x4), (5, .int x5), (6, .int x6), (7, .int x7), (8, .int x8)] [0, 1, 2, 3, 4, 5, 6, 7] rfl ?_
      exact f_X0_bestPerson_J122_ok σ x1 x3 x4 x5 x6 x7 x8 0 hn hr hc0 _ h hK
    · replace h := jif_f hc13 h
      refine j_iload 8 dX0_bestPerson_110 rfl ?_
      refine j_ineg dX0_bestPerson_112 ?_
      refine j_goto 122 dX0_bestPerson_113 (by decide) ?_
      refine j_sub [(0, .ref 4), (1, .int x1), (3, .int x3), (4, .int x4), (5, .int x5), (6, .int x6), (7, .int x7), (8, .int x8)] [0, 1, 2, 3, 4, 5, 6, 7] rfl ?_
      exact f_X0_bestPerson_J122_ok σ x1 x3 x4 x5 x6 x7 x8 (-x9) hn hr hc0 _ h hK
def f_X0_bestPerson_B53 (σ : jS) (x1 : Int32) (x3 : Int32) (x4 : Int32) (x5 : Int32) (x6 : Int32) (x7 : Int32) (x8 : Int32) : Option ((Int32 × Int32 × Int32 × jS) ⊕ (Int32 × jS)) :=
  if 16 ≤ x8 then (jw (f_X0_bestPerson_J151 σ x6))
  else (if ((x5 >>> (x8 &&& 31)) &&& (1 : Int32)) = 0 then (f_X0_bestPerson_J145 σ x1 x3 x4 x5 x6 x7 x8)
  else (bC (f_X0_spotFor σ x1 x8) fun r5 =>
  bC (f_X0_after x1 r5) fun r6 =>
  bC (f_X0_neededAt σ r6) fun r7 =>
  if r7 = (-1) then (f_X0_bestPerson_J101 σ x1 x3 x4 x5 x6 x7 x8 1000000)
  else (f_X0_bestPerson_J101 σ x1 x3 x4 x5 x6 x7 x8 r7)))
set_option maxHeartbeats 1000000 in
set_option maxRecDepth 20000 in
theorem f_X0_bestPerson_B53_ok {g : Bool} {rv : Option Value} {μ' : jM} (σ : jS) (x1 : Int32) (x3 : Int32) (x4 : Int32) (x5 : Int32) (x6 : Int32) (x7 : Int32) (x8 : Int32) {Kp : ((Int32 × Int32 × Int32 × jS) ⊕ (Int32 × jS)) → Prop} (hn : Nat.ble nX μ'.1 = true ∧ Nat.ble wX μ'.2.1 = true) (hr : ∀ (r : Int32) (s : jS), Kp (.inr ((r, s))) → rv = some (.int r) ∧ μ' = eX s) (hc0 : ∀ s : (Int32 × Int32 × Int32 × jS), Kp (.inl s) → J yX0_bestPerson cX0_bestPerson 11 (some .int) 6 g rv μ' 53 [(0, .ref 4), (1, .int x1), (3, .int x3), (4, .int x4), (5, .int x5), (6, .int s.1), (7, .int s.2.1), (8, .int s.2.2.1)] [] (eX s.2.2.2)) (o : ((Int32 × Int32 × Int32 × jS) ⊕ (Int32 × jS))) (h : f_X0_bestPerson_B53 σ x1 x3 x4 x5 x6 x7 x8 = some o) (hK : Kp o) : J yX0_bestPerson cX0_bestPerson 11 (some .int) 6 g rv μ' 53 [(0, .ref 4), (1, .int x1), (3, .int x3), (4, .int x4), (5, .int x5), (6, .int x6), (7, .int x7), (8, .int x8)] [] (eX σ) := by
  unfold f_X0_bestPerson_B53 at h
  refine j_iload 7 dX0_bestPerson_53 rfl ?_
  refine j_bipush (v := 16) dX0_bestPerson_55 (by decide) ?_
  refine j_icmp_ge 151 dX0_bestPerson_57 (by decide) (fun hc14 => ?_) (fun hc14 => ?_)
  · replace h := jif_t hc14 h
    replace h := jw_inv h
    obtain ⟨o15, rfl, h⟩ := h
    refine j_sub [(6, .int x6)] [5] rfl ?_
    exact f_X0_bestPerson_J151_ok (Kp := fun o => Kp (.inr (o))) σ x6 hn (fun r s q => hr r s q) _ h hK
  · replace h := jif_f hc14 h
    refine j_iload 4 dX0_bestPerson_60 rfl ?_
    refine j_iload 7 dX0_bestPerson_62 rfl ?_
    refine j_ishr dX0_bestPerson_64 ?_
    refine j_iconst (v := 1) dX0_bestPerson_65 (by decide) ?_
    refine j_iand dX0_bestPerson_66 ?_
    refine j_if_ne 73 dX0_bestPerson_67 (by decide) (fun hc16 => ?_) (fun hc16 => ?_)
    · replace h := jif_f hc16 h
      refine j_aload_n 0 dX0_bestPerson_73 rfl rfl ?_
      refine j_aload_n 0 dX0_bestPerson_74 rfl rfl ?_
      refine j_iload_n 1 dX0_bestPerson_75 rfl rfl ?_
      refine j_aload_n 0 dX0_bestPerson_76 rfl rfl ?_
      refine j_iload_n 1 dX0_bestPerson_77 rfl rfl ?_
      refine j_iload 7 dX0_bestPerson_78 rfl ?_
      replace h := bC_inv h
      obtain ⟨r17, cr17, h⟩ := h
      refine j_callV (ci := 0) (st1 := .int r17 :: _) (c_X0_spotFor g cr17) jy_X0_spotFor ki_yX0_spotFor ks_yX0_spotFor kl_RX0_111 dX0_bestPerson_80 rfl (okX_4 _) (shX_4 _) rfl rfl rfl rfl (jbr _) (jbr _) hn.1 hn.2 (Or.inr rfl) rfl ?_
      replace h := bC_inv h
      obtain ⟨r18, cr18, h⟩ := h
      refine j_callV (ci := 0) (st1 := .int r18 :: _) (c_X0_after g _ cr18) jy_X0_after ki_yX0_after ks_yX0_after kl_RX0_114 dX0_bestPerson_83 rfl (okX_4 _) (shX_4 _) rfl rfl rfl rfl (jbr _) (jbr _) hn.1 hn.2 (Or.inr rfl) rfl ?_
      replace h := bC_inv h
      obtain ⟨r19, cr19, h⟩ := h
      refine j_callV (ci := 0) (st1 := .int r19 :: _) (c_X0_neededAt g cr19) jy_X0_neededAt ki_yX0_neededAt ks_yX0_neededAt kl_RX0_143 dX0_bestPerson_86 rfl (okX_4 _) (shX_4 _) rfl rfl rfl rfl (jbr _) (jbr _) hn.1 hn.2 (Or.inr rfl) rfl ?_
      refine j_istore [(9, .int r19), (0, .ref 4), (1, .int x1), (3, .int x3), (4, .int x4), (5, .int x5), (6, .int x6), (7, .int x7), (8, .int x8)] dX0_bestPerson_89 (Nat.le_of_ble_eq_true rfl) rfl ?_
      refine j_iload 0 dX0_bestPerson_91 rfl ?_
      refine j_iconst (v := (-1)) dX0_bestPerson_93 (by decide) ?_
      refine j_icmp_ne 101 dX0_bestPerson_94 (by decide) (fun hc20 => ?_) (fun hc20 => ?_)
      · replace h := jif_f hc20 h
        refine j_sub [(0, .ref 4), (1, .int x1), (3, .int x3), (4, .int x4), (5, .int x5), (6, .int x6), (7, .int x7), (8, .int x8), (9, .int r19)] [1, 2, 3, 4, 5, 6, 7, 8, 0] rfl ?_
        exact f_X0_bestPerson_J101_ok σ x1 x3 x4 x5 x6 x7 x8 r19 hn hr hc0 _ h hK
      · replace h := jif_t hc20 h
        refine j_ldc (v := 1000000) kk_RX0_181 dX0_bestPerson_97 ?_
        refine j_istore [(9, .int 1000000), (0, .ref 4), (1, .int x1), (3, .int x3), (4, .int x4), (5, .int x5), (6, .int x6), (7, .int x7), (8, .int x8)] dX0_bestPerson_99 (Nat.le_of_ble_eq_true rfl) rfl ?_
        refine j_sub [(0, .ref 4), (1, .int x1), (3, .int x3), (4, .int x4), (5, .int x5), (6, .int x6), (7, .int x7), (8, .int x8), (9, .int 1000000)] [1, 2, 3, 4, 5, 6, 7, 8, 0] rfl ?_
        exact f_X0_bestPerson_J101_ok σ x1 x3 x4 x5 x6 x7 x8 1000000 hn hr hc0 _ h hK
    · replace h := jif_t hc16 h
      refine j_goto 145 dX0_bestPerson_70 (by decide) ?_
      exact f_X0_bestPerson_J145_ok σ x1 x3 x4 x5 x6 x7 x8 hn hr hc0 _ h hK
def f_X0_bestPerson_J35 (σ : jS) (x1 : Int32) (x3 : Int32) (y0 : Int32) : Option (Int32 × jS) :=
  bC (f_X0_allowed σ x1) fun r4 =>
  jloop jFuel (fun s => f_X0_bestPerson_B53 s.2.2.2 x1 x3 y0 r4 s.1 s.2.1 s.2.2.1) ((-1), 0, 0, σ)
set_option maxHeartbeats 1000000 in
set_option maxRecDepth 20000 in
theorem f_X0_bestPerson_J35_ok {g : Bool} {rv : Option Value} {μ' : jM} (σ : jS) (x1 : Int32) (x3 : Int32) (y0 : Int32) {Kp : (Int32 × jS) → Prop} (hn : Nat.ble nX μ'.1 = true ∧ Nat.ble wX μ'.2.1 = true) (hr : ∀ (r : Int32) (s : jS), Kp ((r, s)) → rv = some (.int r) ∧ μ' = eX s) (o : (Int32 × jS)) (h : f_X0_bestPerson_J35 σ x1 x3 y0 = some o) (hK : Kp o) : J yX0_bestPerson cX0_bestPerson 11 (some .int) 6 g rv μ' 35 [(0, .ref 4), (1, .int x1), (3, .int x3)] [.int y0] (eX σ) := by
  unfold f_X0_bestPerson_J35 at h
  refine j_istore [(4, .int y0), (0, .ref 4), (1, .int x1), (3, .int x3)] dX0_bestPerson_35 (Nat.le_of_ble_eq_true rfl) rfl ?_
  refine j_aload_n 1 dX0_bestPerson_37 rfl rfl ?_
  refine j_iload_n 2 dX0_bestPerson_38 rfl rfl ?_
  replace h := bC_inv h
  obtain ⟨r21, cr21, h⟩ := h
  refine j_callV (ci := 0) (st1 := .int r21 :: _) (c_X0_allowed g cr21) jy_X0_allowed ki_yX0_allowed ks_yX0_allowed kl_RX0_108 dX0_bestPerson_39 rfl (okX_4 _) (shX_4 _) rfl rfl rfl rfl (jbr _) (jbr _) hn.1 hn.2 (Or.inr rfl) rfl ?_
  refine j_istore [(5, .int r21), (4, .int y0), (0, .ref 4), (1, .int x1), (3, .int x3)] dX0_bestPerson_42 (Nat.le_of_ble_eq_true rfl) rfl ?_
  refine j_iconst (v := (-1)) dX0_bestPerson_44 (by decide) ?_
  refine j_istore [(6, .int (-1)), (5, .int r21), (4, .int y0), (0, .ref 4), (1, .int x1), (3, .int x3)] dX0_bestPerson_45 (Nat.le_of_ble_eq_true rfl) rfl ?_
  refine j_iconst (v := 0) dX0_bestPerson_47 (by decide) ?_
  refine j_istore [(7, .int 0), (6, .int (-1)), (5, .int r21), (4, .int y0), (0, .ref 4), (1, .int x1), (3, .int x3)] dX0_bestPerson_48 (Nat.le_of_ble_eq_true rfl) rfl ?_
  refine j_iconst (v := 0) dX0_bestPerson_50 (by decide) ?_
  refine j_istore [(8, .int 0), (7, .int 0), (6, .int (-1)), (5, .int r21), (4, .int y0), (0, .ref 4), (1, .int x1), (3, .int x3)] dX0_bestPerson_51 (Nat.le_of_ble_eq_true rfl) rfl ?_
  refine j_sub [(0, .ref 4), (1, .int x1), (3, .int x3), (4, .int y0), (5, .int r21), (6, .int (-1)), (7, .int 0), (8, .int 0)] [5, 6, 7, 4, 3, 2, 1, 0] rfl ?_
  exact jloop_ok (fun s => f_X0_bestPerson_B53 s.2.2.2 x1 x3 y0 r21 s.1 s.2.1 s.2.2.1) (fun s => J yX0_bestPerson cX0_bestPerson 11 (some .int) 6 g rv μ' 53 [(0, .ref 4), (1, .int x1), (3, .int x3), (4, .int y0), (5, .int r21), (6, .int s.1), (7, .int s.2.1), (8, .int s.2.2.1)] [] (eX s.2.2.2)) Kp (fun s o hb hk => f_X0_bestPerson_B53_ok (Kp := jsum (fun s => J yX0_bestPerson cX0_bestPerson 11 (some .int) 6 g rv μ' 53 [(0, .ref 4), (1, .int x1), (3, .int x3), (4, .int y0), (5, .int r21), (6, .int s.1), (7, .int s.2.1), (8, .int s.2.2.1)] [] (eX s.2.2.2)) Kp) s.2.2.2 x1 x3 y0 r21 s.1 s.2.1 s.2.2.1 hn (fun r s q => hr r s q) (fun s q => q) o hb hk) jFuel _ _ h hK
def f_X0_bestPerson_J20 (σ : jS) (x1 : Int32) (y0 : Int32) : Option (Int32 × jS) :=
  bC (f_X0_neededAt σ x1) fun r3 =>
  if r3 = (-1) then (f_X0_bestPerson_J35 σ x1 y0 0)
  else (f_X0_bestPerson_J35 σ x1 y0 1)
set_option maxHeartbeats 1000000 in
set_option maxRecDepth 20000 in
theorem f_X0_bestPerson_J20_ok {g : Bool} {rv : Option Value} {μ' : jM} (σ : jS) (x1 : Int32) (y0 : Int32) {Kp : (Int32 × jS) → Prop} (hn : Nat.ble nX μ'.1 = true ∧ Nat.ble wX μ'.2.1 = true) (hr : ∀ (r : Int32) (s : jS), Kp ((r, s)) → rv = some (.int r) ∧ μ' = eX s) (o : (Int32 × jS)) (h : f_X0_bestPerson_J20 σ x1 y0 = some o) (hK : Kp o) : J yX0_bestPerson cX0_bestPerson 11 (some .int) 6 g rv μ' 20 [(0, .ref 4), (1, .int x1)] [.int y0] (eX σ) := by
  unfold f_X0_bestPerson_J20 at h
  refine j_istore_n [(3, .int y0), (0, .ref 4), (1, .int x1)] dX0_bestPerson_20 rfl (Nat.le_of_ble_eq_true rfl) rfl ?_
  refine j_aload_n 1 dX0_bestPerson_21 rfl rfl ?_
  refine j_iload_n 2 dX0_bestPerson_22 rfl rfl ?_
  replace h := bC_inv h
  obtain ⟨r22, cr22, h⟩ := h
  refine j_callV (ci := 0) (st1 := .int r22 :: _) (c_X0_neededAt g cr22) jy_X0_neededAt ki_yX0_neededAt ks_yX0_neededAt kl_RX0_143 dX0_bestPerson_23 rfl (okX_4 _) (shX_4 _) rfl rfl rfl rfl (jbr _) (jbr _) hn.1 hn.2 (Or.inr rfl) rfl ?_
  refine j_iconst (v := (-1)) dX0_bestPerson_26 (by decide) ?_
  refine j_icmp_eq 34 dX0_bestPerson_27 (by decide) (fun hc23 => ?_) (fun hc23 => ?_)
  · replace h := jif_t hc23 h
    refine j_iconst (v := 0) dX0_bestPerson_34 (by decide) ?_
    refine j_sub [(0, .ref 4), (1, .int x1), (3, .int y0)] [1, 2, 0] rfl ?_
    exact f_X0_bestPerson_J35_ok σ x1 y0 0 hn hr _ h hK
  · replace h := jif_f hc23 h
    refine j_iconst (v := 1) dX0_bestPerson_30 (by decide) ?_
    refine j_goto 35 dX0_bestPerson_31 (by decide) ?_
    refine j_sub [(0, .ref 4), (1, .int x1), (3, .int y0)] [1, 2, 0] rfl ?_
    exact f_X0_bestPerson_J35_ok σ x1 y0 1 hn hr _ h hK
def f_X0_bestPerson (σ : jS) (x1 : Int32) (x2 : Int32) : Option (Int32 × jS) :=
  bD (f_X0_solve σ x1 x2 0) fun r1 σ2 =>
  if (x1 &&& (1 : Int32)) = x2 then (f_X0_bestPerson_J20 σ2 x1 1)
  else (f_X0_bestPerson_J20 σ2 x1 0)
set_option maxHeartbeats 1000000 in
set_option maxRecDepth 20000 in
theorem f_X0_bestPerson_ok {g : Bool} {rv : Option Value} {μ' : jM} (σ : jS) (x1 : Int32) (x2 : Int32) {Kp : (Int32 × jS) → Prop} (hn : Nat.ble nX μ'.1 = true ∧ Nat.ble wX μ'.2.1 = true) (hr : ∀ (r : Int32) (s : jS), Kp ((r, s)) → rv = some (.int r) ∧ μ' = eX s) (o : (Int32 × jS)) (h : f_X0_bestPerson σ x1 x2 = some o) (hK : Kp o) : J yX0_bestPerson cX0_bestPerson 11 (some .int) 6 g rv μ' 0 [(0, .ref 4), (1, .int x1), (2, .int x2)] [] (eX σ) := by
  unfold f_X0_bestPerson at h
  refine j_aload_n 0 dX0_bestPerson_0 rfl rfl ?_
  refine j_iload_n 1 dX0_bestPerson_1 rfl rfl ?_
  refine j_iload_n 2 dX0_bestPerson_2 rfl rfl ?_
  refine j_iconst (v := 0) dX0_bestPerson_3 (by decide) ?_
  replace h := bD_inv h
  obtain ⟨r24, σ25, cr24, h⟩ := h
  refine j_callV (ci := 0) (st1 := .int r24 :: _) (c_X0_solve g cr24) jy_X0_solve ki_yX0_solve ks_yX0_solve kl_RX0_177 dX0_bestPerson_4 rfl (okX_4 _) (shX_4 _) rfl rfl rfl rfl (jbr _) (jbr _) hn.1 hn.2 (Or.inr rfl) rfl ?_
  refine j_pop dX0_bestPerson_7 rfl ?_
  refine j_iload_n 1 dX0_bestPerson_8 rfl rfl ?_
  refine j_iconst (v := 1) dX0_bestPerson_9 (by decide) ?_
  refine j_iand dX0_bestPerson_10 ?_
  refine j_iload_n 2 dX0_bestPerson_11 rfl rfl ?_
  refine j_icmp_ne 19 dX0_bestPerson_12 (by decide) (fun hc26 => ?_) (fun hc26 => ?_)
  · replace h := jif_f hc26 h
    refine j_iconst (v := 0) dX0_bestPerson_19 (by decide) ?_
    refine j_sub [(0, .ref 4), (1, .int x1)] [0, 1] rfl ?_
    exact f_X0_bestPerson_J20_ok σ25 x1 0 hn hr _ h hK
  · replace h := jif_t hc26 h
    refine j_iconst (v := 1) dX0_bestPerson_15 (by decide) ?_
    refine j_goto 20 dX0_bestPerson_16 (by decide) ?_
    refine j_sub [(0, .ref 4), (1, .int x1)] [0, 1] rfl ?_
    exact f_X0_bestPerson_J20_ok σ25 x1 1 hn hr _ h hK
theorem c_X0_bestPerson (g : Bool) {σ : jS} {x1 : Int32} {x2 : Int32} {r : Int32} {σ2 : jS} (h : f_X0_bestPerson σ x1 x2 = some (r, σ2)) : Cn yX0_bestPerson cX0_bestPerson 11 (some .int) 6 g [.ref 4, .int x1, .int x2] (eX σ) (some (.int r)) (eX σ2) :=
  Cn_of (by decide) (Nat.le_refl _) (Nat.le_refl _) (Nat.le_of_ble_eq_true rfl) (f_X0_bestPerson_ok (Kp := (fun o => o = (r, σ2))) σ x1 x2 ⟨jbr _, jbr _⟩ (fun r2 s2 q => by cases q; exact ⟨rfl, rfl⟩) _ h rfl)
def f_X10_best (σ : jS) (x1 : Int32) (x2 : Int32) : Option (Int32 × jS) :=
  bC (f_X10_isQuarrel σ x1) fun r1 =>
  if r1 = 0 then (some (((-1001), σ)))
  else (bC (f_X10_isSide x2) fun r2 =>
  if r2 = 0 then (some (((-1002), σ)))
  else (bC (f_X6_at σ 30 x1) fun r3 =>
  bD (f_X0_bestPerson σ r3 x2) fun r4 σ5 =>
  some ((r4, σ5))))
set_option maxHeartbeats 1000000 in
set_option maxRecDepth 20000 in
theorem f_X10_best_ok {g : Bool} {rv : Option Value} {μ' : jM} (σ : jS) (x1 : Int32) (x2 : Int32) {Kp : (Int32 × jS) → Prop} (hn : Nat.ble nX μ'.1 = true ∧ Nat.ble wX μ'.2.1 = true) (hr : ∀ (r : Int32) (s : jS), Kp ((r, s)) → rv = some (.int r) ∧ μ' = eX s) (o : (Int32 × jS)) (h : f_X10_best σ x1 x2 = some o) (hK : Kp o) : J yX10_best cX10_best 3 (some .int) 7 g rv μ' 0 [(0, .ref 1), (1, .int x1), (2, .int x2)] [] (eX σ) := by
  unfold f_X10_best at h
  refine j_aload_n 0 dX10_best_0 rfl rfl ?_
  refine j_iload_n 1 dX10_best_1 rfl rfl ?_
  replace h := bC_inv h
  obtain ⟨r6, cr6, h⟩ := h
  refine j_callV (ci := 9) (st1 := .int r6 :: _) (c_X10_isQuarrel g cr6) jy_X10_isQuarrel ki_yX10_isQuarrel ks_yX10_isQuarrel kl_RX10_198 dX10_best_2 rfl (okX_1 _) (shX_1 _) rfl rfl rfl rfl (jbr _) (jbr _) hn.1 hn.2 (Or.inr rfl) rfl ?_
  refine j_if_ne 12 dX10_best_5 (by decide) (fun hc7 => ?_) (fun hc7 => ?_)
  · replace h := jif_f hc7 h
    refine j_iload_n 2 dX10_best_12 rfl rfl ?_
    replace h := bC_inv h
    obtain ⟨r8, cr8, h⟩ := h
    refine j_callS (st1 := .int r8 :: _) (c_X10_isSide g _ cr8) jy_X10_isSide kt_yX10_isSide kl_RX10_243 dX10_best_13 rfl rfl rfl rfl (jbr _) (jbr _) hn.1 hn.2 (Or.inr rfl) rfl ?_
    refine j_if_ne 23 dX10_best_16 (by decide) (fun hc9 => ?_) (fun hc9 => ?_)
    · replace h := jif_f hc9 h
      refine j_aload_n 0 dX10_best_23 rfl rfl ?_
      refine j_get (ci := 9) 1 (.ref 4) jC_9 dX10_best_24 kg_RX10_19 rfl (okX_1 _) (shX_1 _) (fvX_1_1 _) ?_
      refine j_aload_n 0 dX10_best_27 rfl rfl ?_
      refine j_get (ci := 9) 5 (.ref 29) jC_9 dX10_best_28 kg_RX10_47 rfl (okX_1 _) (shX_1 _) (fvX_1_5 _) ?_
      refine j_get (ci := 6) 0 (.ref 30) jC_6 dX10_best_31 kg_RX10_94 rfl (okX_29 _) (shX_29 _) (fvX_29_0 _) ?_
      refine j_iload_n 1 dX10_best_34 rfl rfl ?_
      replace h := bC_inv h
      obtain ⟨r10, cr10, h⟩ := h
      refine j_callS (st1 := .int r10 :: _) (c_X6_at g cr10) jy_X6_at kt_yX6_at kl_RX10_150 dX10_best_35 rfl rfl rfl rfl (jbr _) (jbr _) hn.1 hn.2 (Or.inr rfl) rfl ?_
      refine j_iload_n 2 dX10_best_38 rfl rfl ?_
      replace h := bD_inv h
      obtain ⟨r11, σ12, cr11, h⟩ := h
      refine j_callV (ci := 0) (st1 := .int r11 :: _) (c_X0_bestPerson g cr11) jy_X0_bestPerson ki_yX0_bestPerson ks_yX0_bestPerson kl_RX10_246 dX10_best_39 rfl (okX_4 _) (shX_4 _) rfl rfl rfl rfl (jbr _) (jbr _) hn.1 hn.2 (Or.inr rfl) rfl ?_
      replace h := Option.some.inj h
      subst h
      obtain ⟨hr1, hr2⟩ := hr _ _ hK
      exact j_iret dX10_best_42 hr1 hr2
    · replace h := jif_t hc9 h
      refine j_sipush (v := (-1002)) dX10_best_19 (by decide) ?_
      replace h := Option.some.inj h
      subst h
      obtain ⟨hr1, hr2⟩ := hr _ _ hK
      exact j_iret dX10_best_22 hr1 hr2
  · replace h := jif_t hc7 h
    refine j_sipush (v := (-1001)) dX10_best_8 (by decide) ?_
    replace h := Option.some.inj h
    subst h
    obtain ⟨hr1, hr2⟩ := hr _ _ hK
    exact j_iret dX10_best_11 hr1 hr2
theorem c_X10_best (g : Bool) {σ : jS} {x1 : Int32} {x2 : Int32} {r : Int32} {σ2 : jS} (h : f_X10_best σ x1 x2 = some (r, σ2)) : Cn yX10_best cX10_best 3 (some .int) 7 g [.ref 1, .int x1, .int x2] (eX σ) (some (.int r)) (eX σ2) :=
  Cn_of (by decide) (Nat.le_refl _) (Nat.le_refl _) (Nat.le_of_ble_eq_true rfl) (f_X10_best_ok (Kp := (fun o => o = (r, σ2))) σ x1 x2 ⟨jbr _, jbr _⟩ (fun r2 s2 q => by cases q; exact ⟨rfl, rfl⟩) _ h rfl)
def f_X10_sure (σ : jS) (x1 : Int32) : Option (Int32 × jS) :=
  bC (f_X10_isQuarrel σ x1) fun r1 =>
  if r1 = 0 then (some (((-1001), σ)))
  else (bC (f_X6_at σ 30 x1) fun r2 =>
  bD (f_X0_solve σ r2 (-1) 0) fun r3 σ4 =>
  some ((r3, σ4)))
set_option maxHeartbeats 1000000 in
set_option maxRecDepth 20000 in
theorem f_X10_sure_ok {g : Bool} {rv : Option Value} {μ' : jM} (σ : jS) (x1 : Int32) {Kp : (Int32 × jS) → Prop} (hn : Nat.ble nX μ'.1 = true ∧ Nat.ble wX μ'.2.1 = true) (hr : ∀ (r : Int32) (s : jS), Kp ((r, s)) → rv = some (.int r) ∧ μ' = eX s) (o : (Int32 × jS)) (h : f_X10_sure σ x1 = some o) (hK : Kp o) : J yX10_sure cX10_sure 2 (some .int) 6 g rv μ' 0 [(0, .ref 1), (1, .int x1)] [] (eX σ) := by
  unfold f_X10_sure at h
  refine j_aload_n 0 dX10_sure_0 rfl rfl ?_
  refine j_iload_n 1 dX10_sure_1 rfl rfl ?_
  replace h := bC_inv h
  obtain ⟨r5, cr5, h⟩ := h
  refine j_callV (ci := 9) (st1 := .int r5 :: _) (c_X10_isQuarrel g cr5) jy_X10_isQuarrel ki_yX10_isQuarrel ks_yX10_isQuarrel kl_RX10_198 dX10_sure_2 rfl (okX_1 _) (shX_1 _) rfl rfl rfl rfl (jbr _) (jbr _) hn.1 hn.2 (Or.inr rfl) rfl ?_
  refine j_if_ne 12 dX10_sure_5 (by decide) (fun hc6 => ?_) (fun hc6 => ?_)
  · replace h := jif_f hc6 h
    refine j_aload_n 0 dX10_sure_12 rfl rfl ?_
    refine j_get (ci := 9) 1 (.ref 4) jC_9 dX10_sure_13 kg_RX10_19 rfl (okX_1 _) (shX_1 _) (fvX_1_1 _) ?_
    refine j_aload_n 0 dX10_sure_16 rfl rfl ?_
    refine j_get (ci := 9) 5 (.ref 29) jC_9 dX10_sure_17 kg_RX10_47 rfl (okX_1 _) (shX_1 _) (fvX_1_5 _) ?_
    refine j_get (ci := 6) 0 (.ref 30) jC_6 dX10_sure_20 kg_RX10_94 rfl (okX_29 _) (shX_29 _) (fvX_29_0 _) ?_
    refine j_iload_n 1 dX10_sure_23 rfl rfl ?_
    replace h := bC_inv h
    obtain ⟨r7, cr7, h⟩ := h
    refine j_callS (st1 := .int r7 :: _) (c_X6_at g cr7) jy_X6_at kt_yX6_at kl_RX10_150 dX10_sure_24 rfl rfl rfl rfl (jbr _) (jbr _) hn.1 hn.2 (Or.inr rfl) rfl ?_
    refine j_iconst (v := (-1)) dX10_sure_27 (by decide) ?_
    refine j_iconst (v := 0) dX10_sure_28 (by decide) ?_
    replace h := bD_inv h
    obtain ⟨r8, σ9, cr8, h⟩ := h
    refine j_callV (ci := 0) (st1 := .int r8 :: _) (c_X0_solve g cr8) jy_X0_solve ki_yX0_solve ks_yX0_solve kl_RX10_220 dX10_sure_29 rfl (okX_4 _) (shX_4 _) rfl rfl rfl rfl (jbr _) (jbr _) hn.1 hn.2 (Or.inr rfl) rfl ?_
    replace h := Option.some.inj h
    subst h
    obtain ⟨hr1, hr2⟩ := hr _ _ hK
    exact j_iret dX10_sure_32 hr1 hr2
  · replace h := jif_t hc6 h
    refine j_sipush (v := (-1001)) dX10_sure_8 (by decide) ?_
    replace h := Option.some.inj h
    subst h
    obtain ⟨hr1, hr2⟩ := hr _ _ hK
    exact j_iret dX10_sure_11 hr1 hr2
theorem c_X10_sure (g : Bool) {σ : jS} {x1 : Int32} {r : Int32} {σ2 : jS} (h : f_X10_sure σ x1 = some (r, σ2)) : Cn yX10_sure cX10_sure 2 (some .int) 6 g [.ref 1, .int x1] (eX σ) (some (.int r)) (eX σ2) :=
  Cn_of (by decide) (Nat.le_refl _) (Nat.le_refl _) (Nat.le_of_ble_eq_true rfl) (f_X10_sure_ok (Kp := (fun o => o = (r, σ2))) σ x1 ⟨jbr _, jbr _⟩ (fun r2 s2 q => by cases q; exact ⟨rfl, rfl⟩) _ h rfl)
def f_X0_toggleFoes (σ : jS) (x1 : Int32) (x2 : Int32) : Option (Unit × jS) :=
  bD (f_X1_toggle σ 11 x1 x2) fun r1 σ2 =>
  some (((), σ2))
set_option maxHeartbeats 1000000 in
set_option maxRecDepth 20000 in
theorem f_X0_toggleFoes_ok {g : Bool} {rv : Option Value} {μ' : jM} (σ : jS) (x1 : Int32) (x2 : Int32) {Kp : (Unit × jS) → Prop} (hn : Nat.ble nX μ'.1 = true ∧ Nat.ble wX μ'.2.1 = true) (hr : ∀ (r : Unit) (s : jS), Kp ((r, s)) → rv = none ∧ μ' = eX s) (o : (Unit × jS)) (h : f_X0_toggleFoes σ x1 x2 = some o) (hK : Kp o) : J yX0_toggleFoes cX0_toggleFoes 3 none 3 g rv μ' 0 [(0, .ref 4), (1, .int x1), (2, .int x2)] [] (eX σ) := by
  unfold f_X0_toggleFoes at h
  refine j_aload_n 0 dX0_toggleFoes_0 rfl rfl ?_
  refine j_get (ci := 0) 4 (.ref 11) jC_0 dX0_toggleFoes_1 kg_RX0_18 rfl (okX_4 _) (shX_4 _) (fvX_4_4 _) ?_
  refine j_iload_n 1 dX0_toggleFoes_4 rfl rfl ?_
  refine j_iload_n 2 dX0_toggleFoes_5 rfl rfl ?_
  replace h := bD_inv h
  obtain ⟨r3, σ4, cr3, h⟩ := h
  refine j_callS (st1 := _) (c_X1_toggle g cr3) jy_X1_toggle kt_yX1_toggle kl_RX0_50 dX0_toggleFoes_6 rfl rfl rfl rfl (jbr _) (jbr _) hn.1 hn.2 (Or.inr rfl) rfl ?_
  replace h := Option.some.inj h
  subst h
  obtain ⟨hr1, hr2⟩ := hr _ _ hK
  exact j_vret dX0_toggleFoes_9 hr1 hr2
theorem c_X0_toggleFoes (g : Bool) {σ : jS} {x1 : Int32} {x2 : Int32} {r : Unit} {σ2 : jS} (h : f_X0_toggleFoes σ x1 x2 = some (r, σ2)) : Cn yX0_toggleFoes cX0_toggleFoes 3 none 3 g [.ref 4, .int x1, .int x2] (eX σ) none (eX σ2) :=
  Cn_of (by decide) (Nat.le_refl _) (Nat.le_refl _) (Nat.le_of_ble_eq_true rfl) (f_X0_toggleFoes_ok (Kp := (fun o => o = (r, σ2))) σ x1 x2 ⟨jbr _, jbr _⟩ (fun r2 s2 q => by cases q; exact ⟨rfl, rfl⟩) _ h rfl)
def f_X10_fewestLaidAside_J120 (σ : jS) : Option (Int32 × jS) :=
  some (((-1), σ))
set_option maxHeartbeats 1000000 in
set_option maxRecDepth 20000 in
theorem f_X10_fewestLaidAside_J120_ok {g : Bool} {rv : Option Value} {μ' : jM} (σ : jS) {Kp : (Int32 × jS) → Prop} (hn : Nat.ble nX μ'.1 = true ∧ Nat.ble wX μ'.2.1 = true) (hr : ∀ (r : Int32) (s : jS), Kp ((r, s)) → rv = some (.int r) ∧ μ' = eX s) (o : (Int32 × jS)) (h : f_X10_fewestLaidAside_J120 σ = some o) (hK : Kp o) : J yX10_fewestLaidAside cX10_fewestLaidAside 7 (some .int) 6 g rv μ' 120 [] [] (eX σ) := by
  unfold f_X10_fewestLaidAside_J120 at h
  refine j_iconst (v := (-1)) dX10_fewestLaidAside_120 (by decide) ?_
  replace h := Option.some.inj h
  subst h
  obtain ⟨hr1, hr2⟩ := hr _ _ hK
  exact j_iret dX10_fewestLaidAside_121 hr1 hr2
def f_X10_fewestLaidAside_J110 (σ : jS) (x3 : Int32) : Option (Int32 × jS) :=
  some (((1 : Int32) <<< (x3 &&& 31), σ))
set_option maxHeartbeats 1000000 in
set_option maxRecDepth 20000 in
theorem f_X10_fewestLaidAside_J110_ok {g : Bool} {rv : Option Value} {μ' : jM} (σ : jS) (x3 : Int32) {Kp : (Int32 × jS) → Prop} (hn : Nat.ble nX μ'.1 = true ∧ Nat.ble wX μ'.2.1 = true) (hr : ∀ (r : Int32) (s : jS), Kp ((r, s)) → rv = some (.int r) ∧ μ' = eX s) (o : (Int32 × jS)) (h : f_X10_fewestLaidAside_J110 σ x3 = some o) (hK : Kp o) : J yX10_fewestLaidAside cX10_fewestLaidAside 7 (some .int) 6 g rv μ' 110 [(3, .int x3)] [] (eX σ) := by
  unfold f_X10_fewestLaidAside_J110 at h
  refine j_iconst (v := 1) dX10_fewestLaidAside_110 (by decide) ?_
  refine j_iload_n 0 dX10_fewestLaidAside_111 rfl rfl ?_
  refine j_ishl dX10_fewestLaidAside_112 ?_
  replace h := Option.some.inj h
  subst h
  obtain ⟨hr1, hr2⟩ := hr _ _ hK
  exact j_iret dX10_fewestLaidAside_113 hr1 hr2
def f_X10_fewestLaidAside_B18 (σ : jS) (x1 : Int32) (x2 : Int32) (x3 : Int32) : Option ((Int32 × jS) ⊕ (Int32 × jS)) :=
  if (gI σ 32 3) ≤ x3 then (jw (f_X10_fewestLaidAside_J120 σ))
  else (if 12 ≤ x3 then (jw (f_X10_fewestLaidAside_J120 σ))
  else (bC (f_X6_at σ 33 x3) fun r3 =>
  bC (f_X6_at σ 34 x3) fun r4 =>
  bD (f_X0_toggleFoes σ r3 r4) fun r5 σ6 =>
  bD (f_X0_solve σ6 x1 x2 0) fun r7 σ8 =>
  bD (f_X0_toggleFoes σ8 r3 r4) fun r9 σ10 =>
  if r7 = (-1) then (bV (x3 + 1) fun v11 =>
  some (.inl (v11, σ10)))
  else (jw (f_X10_fewestLaidAside_J110 σ10 x3))))
set_option maxHeartbeats 1000000 in
set_option maxRecDepth 20000 in
theorem f_X10_fewestLaidAside_B18_ok {g : Bool} {rv : Option Value} {μ' : jM} (σ : jS) (x1 : Int32) (x2 : Int32) (x3 : Int32) {Kp : ((Int32 × jS) ⊕ (Int32 × jS)) → Prop} (hn : Nat.ble nX μ'.1 = true ∧ Nat.ble wX μ'.2.1 = true) (hr : ∀ (r : Int32) (s : jS), Kp (.inr ((r, s))) → rv = some (.int r) ∧ μ' = eX s) (hc0 : ∀ s : (Int32 × jS), Kp (.inl s) → J yX10_fewestLaidAside cX10_fewestLaidAside 7 (some .int) 6 g rv μ' 18 [(0, .ref 1), (1, .int x1), (2, .int x2), (3, .int s.1)] [] (eX s.2)) (o : ((Int32 × jS) ⊕ (Int32 × jS))) (h : f_X10_fewestLaidAside_B18 σ x1 x2 x3 = some o) (hK : Kp o) : J yX10_fewestLaidAside cX10_fewestLaidAside 7 (some .int) 6 g rv μ' 18 [(0, .ref 1), (1, .int x1), (2, .int x2), (3, .int x3)] [] (eX σ) := by
  unfold f_X10_fewestLaidAside_B18 at h
  refine j_iload_n 3 dX10_fewestLaidAside_18 rfl rfl ?_
  refine j_aload_n 0 dX10_fewestLaidAside_19 rfl rfl ?_
  refine j_get (ci := 9) 5 (.ref 29) jC_9 dX10_fewestLaidAside_20 kg_RX10_47 rfl (okX_1 _) (shX_1 _) (fvX_1_5 _) ?_
  refine j_get (ci := 6) 2 (.ref 32) jC_6 dX10_fewestLaidAside_23 kg_RX10_83 rfl (okX_29 _) (shX_29 _) (fvX_29_2 _) ?_
  refine j_get (ci := 1) 3 (.int (gI σ 32 3)) jC_1 dX10_fewestLaidAside_26 kg_RX10_131 rfl (okX_32 _) (shX_32 _) (fvX_32_3 _) ?_
  refine j_icmp_ge 120 dX10_fewestLaidAside_29 (by decide) (fun hc12 => ?_) (fun hc12 => ?_)
  · replace h := jif_t hc12 h
    replace h := jw_inv h
    obtain ⟨o13, rfl, h⟩ := h
    refine j_sub [] [] rfl ?_
    exact f_X10_fewestLaidAside_J120_ok (Kp := fun o => Kp (.inr (o))) σ hn (fun r s q => hr r s q) _ h hK
  · replace h := jif_f hc12 h
    refine j_iload_n 3 dX10_fewestLaidAside_32 rfl rfl ?_
    refine j_bipush (v := 12) dX10_fewestLaidAside_33 (by decide) ?_
    refine j_icmp_ge 120 dX10_fewestLaidAside_35 (by decide) (fun hc14 => ?_) (fun hc14 => ?_)
    · replace h := jif_t hc14 h
      replace h := jw_inv h
      obtain ⟨o15, rfl, h⟩ := h
      refine j_sub [] [] rfl ?_
      exact f_X10_fewestLaidAside_J120_ok (Kp := fun o => Kp (.inr (o))) σ hn (fun r s q => hr r s q) _ h hK
    · replace h := jif_f hc14 h
      refine j_aload_n 0 dX10_fewestLaidAside_38 rfl rfl ?_
      refine j_get (ci := 9) 5 (.ref 29) jC_9 dX10_fewestLaidAside_39 kg_RX10_47 rfl (okX_1 _) (shX_1 _) (fvX_1_5 _) ?_
      refine j_get (ci := 6) 2 (.ref 32) jC_6 dX10_fewestLaidAside_42 kg_RX10_83 rfl (okX_29 _) (shX_29 _) (fvX_29_2 _) ?_
      refine j_get (ci := 1) 0 (.ref 33) jC_1 dX10_fewestLaidAside_45 kg_RX10_172 rfl (okX_32 _) (shX_32 _) (fvX_32_0 _) ?_
      refine j_iload_n 3 dX10_fewestLaidAside_48 rfl rfl ?_
      replace h := bC_inv h
      obtain ⟨r16, cr16, h⟩ := h
      refine j_callS (st1 := .int r16 :: _) (c_X6_at g cr16) jy_X6_at kt_yX6_at kl_RX10_150 dX10_fewestLaidAside_49 rfl rfl rfl rfl (jbr _) (jbr _) hn.1 hn.2 (Or.inr rfl) rfl ?_
      refine j_istore [(4, .int r16), (0, .ref 1), (1, .int x1), (2, .int x2), (3, .int x3)] dX10_fewestLaidAside_52 (Nat.le_of_ble_eq_true rfl) rfl ?_
      refine j_aload_n 1 dX10_fewestLaidAside_54 rfl rfl ?_
      refine j_get (ci := 9) 5 (.ref 29) jC_9 dX10_fewestLaidAside_55 kg_RX10_47 rfl (okX_1 _) (shX_1 _) (fvX_1_5 _) ?_
      refine j_get (ci := 6) 2 (.ref 32) jC_6 dX10_fewestLaidAside_58 kg_RX10_83 rfl (okX_29 _) (shX_29 _) (fvX_29_2 _) ?_
      refine j_get (ci := 1) 1 (.ref 34) jC_1 dX10_fewestLaidAside_61 kg_RX10_175 rfl (okX_32 _) (shX_32 _) (fvX_32_1 _) ?_
      refine j_iload_n 4 dX10_fewestLaidAside_64 rfl rfl ?_
      replace h := bC_inv h
      obtain ⟨r17, cr17, h⟩ := h
      refine j_callS (st1 := .int r17 :: _) (c_X6_at g cr17) jy_X6_at kt_yX6_at kl_RX10_150 dX10_fewestLaidAside_65 rfl rfl rfl rfl (jbr _) (jbr _) hn.1 hn.2 (Or.inr rfl) rfl ?_
      refine j_istore [(5, .int r17), (4, .int r16), (0, .ref 1), (1, .int x1), (2, .int x2), (3, .int x3)] dX10_fewestLaidAside_68 (Nat.le_of_ble_eq_true rfl) rfl ?_
      refine j_aload_n 2 dX10_fewestLaidAside_70 rfl rfl ?_
      refine j_get (ci := 9) 1 (.ref 4) jC_9 dX10_fewestLaidAside_71 kg_RX10_19 rfl (okX_1 _) (shX_1 _) (fvX_1_1 _) ?_
      refine j_iload 1 dX10_fewestLaidAside_74 rfl ?_
      refine j_iload 0 dX10_fewestLaidAside_76 rfl ?_
      replace h := bD_inv h
      obtain ⟨r18, σ19, cr18, h⟩ := h
      refine j_callV (ci := 0) (st1 := _) (c_X0_toggleFoes g cr18) jy_X0_toggleFoes ki_yX0_toggleFoes ks_yX0_toggleFoes kl_RX10_342 dX10_fewestLaidAside_78 rfl (okX_4 _) (shX_4 _) rfl rfl rfl rfl (jbr _) (jbr _) hn.1 hn.2 (Or.inr rfl) rfl ?_
      refine j_aload_n 2 dX10_fewestLaidAside_81 rfl rfl ?_
      refine j_get (ci := 9) 1 (.ref 4) jC_9 dX10_fewestLaidAside_82 kg_RX10_19 rfl (okX_1 _) (shX_1 _) (fvX_1_1 _) ?_
      refine j_iload_n 3 dX10_fewestLaidAside_85 rfl rfl ?_
      refine j_iload_n 4 dX10_fewestLaidAside_86 rfl rfl ?_
      refine j_iconst (v := 0) dX10_fewestLaidAside_87 (by decide) ?_
      replace h := bD_inv h
      obtain ⟨r20, σ21, cr20, h⟩ := h
      refine j_callV (ci := 0) (st1 := .int r20 :: _) (c_X0_solve g cr20) jy_X0_solve ki_yX0_solve ks_yX0_solve kl_RX10_220 dX10_fewestLaidAside_88 rfl (okX_4 _) (shX_4 _) rfl rfl rfl rfl (jbr _) (jbr _) hn.1 hn.2 (Or.inr rfl) rfl ?_
      refine j_istore [(6, .int r20), (5, .int r17), (4, .int r16), (0, .ref 1), (1, .int x1), (2, .int x2), (3, .int x3)] dX10_fewestLaidAside_91 (Nat.le_of_ble_eq_true rfl) rfl ?_
      refine j_aload_n 3 dX10_fewestLaidAside_93 rfl rfl ?_
      refine j_get (ci := 9) 1 (.ref 4) jC_9 dX10_fewestLaidAside_94 kg_RX10_19 rfl (okX_1 _) (shX_1 _) (fvX_1_1 _) ?_
      refine j_iload 2 dX10_fewestLaidAside_97 rfl ?_
      refine j_iload 1 dX10_fewestLaidAside_99 rfl ?_
      replace h := bD_inv h
      obtain ⟨r22, σ23, cr22, h⟩ := h
      refine j_callV (ci := 0) (st1 := _) (c_X0_toggleFoes g cr22) jy_X0_toggleFoes ki_yX0_toggleFoes ks_yX0_toggleFoes kl_RX10_342 dX10_fewestLaidAside_101 rfl (okX_4 _) (shX_4 _) rfl rfl rfl rfl (jbr _) (jbr _) hn.1 hn.2 (Or.inr rfl) rfl ?_
      refine j_iload 0 dX10_fewestLaidAside_104 rfl ?_
      refine j_iconst (v := (-1)) dX10_fewestLaidAside_106 (by decide) ?_
      refine j_icmp_eq 114 dX10_fewestLaidAside_107 (by decide) (fun hc24 => ?_) (fun hc24 => ?_)
      · replace h := jif_t hc24 h
        replace h := bV_inv h
        obtain ⟨v25, ev25, h⟩ := h
        refine j_iinc (v := v25) [(3, .int v25), (6, .int r20), (5, .int r17), (4, .int r16), (0, .ref 1), (1, .int x1), (2, .int x2)] 6 dX10_fewestLaidAside_114 rfl (by rw [ev25]; rfl) (Nat.le_of_ble_eq_true rfl) rfl ?_
        refine j_goto 18 dX10_fewestLaidAside_117 (by decide) ?_
        replace h := Option.some.inj h
        subst h
        refine j_sub [(0, .ref 1), (1, .int x1), (2, .int x2), (3, .int v25)] [4, 5, 6, 0] rfl ?_
        exact hc0 _ hK
      · replace h := jif_f hc24 h
        replace h := jw_inv h
        obtain ⟨o26, rfl, h⟩ := h
        refine j_sub [(3, .int x3)] [6] rfl ?_
        exact f_X10_fewestLaidAside_J110_ok (Kp := fun o => Kp (.inr (o))) σ23 x3 hn (fun r s q => hr r s q) _ h hK
def f_X10_fewestLaidAside (σ : jS) (x1 : Int32) (x2 : Int32) : Option (Int32 × jS) :=
  bD (f_X0_solve σ x1 x2 0) fun r1 σ2 =>
  if r1 = (-1) then (jloop jFuel (fun s => f_X10_fewestLaidAside_B18 s.2 x1 x2 s.1) (0, σ2))
  else (some ((0, σ2)))
set_option maxHeartbeats 1000000 in
set_option maxRecDepth 20000 in
theorem f_X10_fewestLaidAside_ok {g : Bool} {rv : Option Value} {μ' : jM} (σ : jS) (x1 : Int32) (x2 : Int32) {Kp : (Int32 × jS) → Prop} (hn : Nat.ble nX μ'.1 = true ∧ Nat.ble wX μ'.2.1 = true) (hr : ∀ (r : Int32) (s : jS), Kp ((r, s)) → rv = some (.int r) ∧ μ' = eX s) (o : (Int32 × jS)) (h : f_X10_fewestLaidAside σ x1 x2 = some o) (hK : Kp o) : J yX10_fewestLaidAside cX10_fewestLaidAside 7 (some .int) 6 g rv μ' 0 [(0, .ref 1), (1, .int x1), (2, .int x2)] [] (eX σ) := by
  unfold f_X10_fewestLaidAside at h
  refine j_aload_n 0 dX10_fewestLaidAside_0 rfl rfl ?_
  refine j_get (ci := 9) 1 (.ref 4) jC_9 dX10_fewestLaidAside_1 kg_RX10_19 rfl (okX_1 _) (shX_1 _) (fvX_1_1 _) ?_
  refine j_iload_n 1 dX10_fewestLaidAside_4 rfl rfl ?_
  refine j_iload_n 2 dX10_fewestLaidAside_5 rfl rfl ?_
  refine j_iconst (v := 0) dX10_fewestLaidAside_6 (by decide) ?_
  replace h := bD_inv h
  obtain ⟨r27, σ28, cr27, h⟩ := h
  refine j_callV (ci := 0) (st1 := .int r27 :: _) (c_X0_solve g cr27) jy_X0_solve ki_yX0_solve ks_yX0_solve kl_RX10_220 dX10_fewestLaidAside_7 rfl (okX_4 _) (shX_4 _) rfl rfl rfl rfl (jbr _) (jbr _) hn.1 hn.2 (Or.inr rfl) rfl ?_
  refine j_iconst (v := (-1)) dX10_fewestLaidAside_10 (by decide) ?_
  refine j_icmp_eq 16 dX10_fewestLaidAside_11 (by decide) (fun hc29 => ?_) (fun hc29 => ?_)
  · replace h := jif_t hc29 h
    refine j_iconst (v := 0) dX10_fewestLaidAside_16 (by decide) ?_
    refine j_istore_n [(3, .int 0), (0, .ref 1), (1, .int x1), (2, .int x2)] dX10_fewestLaidAside_17 rfl (Nat.le_of_ble_eq_true rfl) rfl ?_
    refine j_sub [(0, .ref 1), (1, .int x1), (2, .int x2), (3, .int 0)] [1, 2, 3, 0] rfl ?_
    exact jloop_ok (fun s => f_X10_fewestLaidAside_B18 s.2 x1 x2 s.1) (fun s => J yX10_fewestLaidAside cX10_fewestLaidAside 7 (some .int) 6 g rv μ' 18 [(0, .ref 1), (1, .int x1), (2, .int x2), (3, .int s.1)] [] (eX s.2)) Kp (fun s o hb hk => f_X10_fewestLaidAside_B18_ok (Kp := jsum (fun s => J yX10_fewestLaidAside cX10_fewestLaidAside 7 (some .int) 6 g rv μ' 18 [(0, .ref 1), (1, .int x1), (2, .int x2), (3, .int s.1)] [] (eX s.2)) Kp) s.2 x1 x2 s.1 hn (fun r s q => hr r s q) (fun s q => q) o hb hk) jFuel _ _ h hK
  · replace h := jif_f hc29 h
    refine j_iconst (v := 0) dX10_fewestLaidAside_14 (by decide) ?_
    replace h := Option.some.inj h
    subst h
    obtain ⟨hr1, hr2⟩ := hr _ _ hK
    exact j_iret dX10_fewestLaidAside_15 hr1 hr2
theorem c_X10_fewestLaidAside (g : Bool) {σ : jS} {x1 : Int32} {x2 : Int32} {r : Int32} {σ2 : jS} (h : f_X10_fewestLaidAside σ x1 x2 = some (r, σ2)) : Cn yX10_fewestLaidAside cX10_fewestLaidAside 7 (some .int) 6 g [.ref 1, .int x1, .int x2] (eX σ) (some (.int r)) (eX σ2) :=
  Cn_of (by decide) (Nat.le_refl _) (Nat.le_refl _) (Nat.le_of_ble_eq_true rfl) (f_X10_fewestLaidAside_ok (Kp := (fun o => o = (r, σ2))) σ x1 x2 ⟨jbr _, jbr _⟩ (fun r2 s2 q => by cases q; exact ⟨rfl, rfl⟩) _ h rfl)
def f_X10_aside (σ : jS) (x1 : Int32) (x2 : Int32) : Option (Int32 × jS) :=
  bC (f_X10_isQuarrel σ x1) fun r1 =>
  if r1 = 0 then (some (((-1001), σ)))
  else (bC (f_X10_isSide x2) fun r2 =>
  if r2 = 0 then (some (((-1002), σ)))
  else (if (gI σ 32 3) ≤ 12 then (bC (f_X6_at σ 30 x1) fun r3 =>
  bD (f_X10_fewestLaidAside σ r3 x2) fun r4 σ5 =>
  some ((r4, σ5)))
  else (some (((-1003), σ)))))
set_option maxHeartbeats 1000000 in
set_option maxRecDepth 20000 in
theorem f_X10_aside_ok {g : Bool} {rv : Option Value} {μ' : jM} (σ : jS) (x1 : Int32) (x2 : Int32) {Kp : (Int32 × jS) → Prop} (hn : Nat.ble nX μ'.1 = true ∧ Nat.ble wX μ'.2.1 = true) (hr : ∀ (r : Int32) (s : jS), Kp ((r, s)) → rv = some (.int r) ∧ μ' = eX s) (o : (Int32 × jS)) (h : f_X10_aside σ x1 x2 = some o) (hK : Kp o) : J yX10_aside cX10_aside 3 (some .int) 7 g rv μ' 0 [(0, .ref 1), (1, .int x1), (2, .int x2)] [] (eX σ) := by
  unfold f_X10_aside at h
  refine j_aload_n 0 dX10_aside_0 rfl rfl ?_
  refine j_iload_n 1 dX10_aside_1 rfl rfl ?_
  replace h := bC_inv h
  obtain ⟨r6, cr6, h⟩ := h
  refine j_callV (ci := 9) (st1 := .int r6 :: _) (c_X10_isQuarrel g cr6) jy_X10_isQuarrel ki_yX10_isQuarrel ks_yX10_isQuarrel kl_RX10_198 dX10_aside_2 rfl (okX_1 _) (shX_1 _) rfl rfl rfl rfl (jbr _) (jbr _) hn.1 hn.2 (Or.inr rfl) rfl ?_
  refine j_if_ne 12 dX10_aside_5 (by decide) (fun hc7 => ?_) (fun hc7 => ?_)
  · replace h := jif_f hc7 h
    refine j_iload_n 2 dX10_aside_12 rfl rfl ?_
    replace h := bC_inv h
    obtain ⟨r8, cr8, h⟩ := h
    refine j_callS (st1 := .int r8 :: _) (c_X10_isSide g _ cr8) jy_X10_isSide kt_yX10_isSide kl_RX10_243 dX10_aside_13 rfl rfl rfl rfl (jbr _) (jbr _) hn.1 hn.2 (Or.inr rfl) rfl ?_
    refine j_if_ne 23 dX10_aside_16 (by decide) (fun hc9 => ?_) (fun hc9 => ?_)
    · replace h := jif_f hc9 h
      refine j_aload_n 0 dX10_aside_23 rfl rfl ?_
      refine j_get (ci := 9) 5 (.ref 29) jC_9 dX10_aside_24 kg_RX10_47 rfl (okX_1 _) (shX_1 _) (fvX_1_5 _) ?_
      refine j_get (ci := 6) 2 (.ref 32) jC_6 dX10_aside_27 kg_RX10_83 rfl (okX_29 _) (shX_29 _) (fvX_29_2 _) ?_
      refine j_get (ci := 1) 3 (.int (gI σ 32 3)) jC_1 dX10_aside_30 kg_RX10_131 rfl (okX_32 _) (shX_32 _) (fvX_32_3 _) ?_
      refine j_bipush (v := 12) dX10_aside_33 (by decide) ?_
      refine j_icmp_le 42 dX10_aside_35 (by decide) (fun hc10 => ?_) (fun hc10 => ?_)
      · replace h := jif_t hc10 h
        refine j_aload_n 0 dX10_aside_42 rfl rfl ?_
        refine j_aload_n 0 dX10_aside_43 rfl rfl ?_
        refine j_get (ci := 9) 5 (.ref 29) jC_9 dX10_aside_44 kg_RX10_47 rfl (okX_1 _) (shX_1 _) (fvX_1_5 _) ?_
        refine j_get (ci := 6) 0 (.ref 30) jC_6 dX10_aside_47 kg_RX10_94 rfl (okX_29 _) (shX_29 _) (fvX_29_0 _) ?_
        refine j_iload_n 1 dX10_aside_50 rfl rfl ?_
        replace h := bC_inv h
        obtain ⟨r11, cr11, h⟩ := h
        refine j_callS (st1 := .int r11 :: _) (c_X6_at g cr11) jy_X6_at kt_yX6_at kl_RX10_150 dX10_aside_51 rfl rfl rfl rfl (jbr _) (jbr _) hn.1 hn.2 (Or.inr rfl) rfl ?_
        refine j_iload_n 2 dX10_aside_54 rfl rfl ?_
        replace h := bD_inv h
        obtain ⟨r12, σ13, cr12, h⟩ := h
        refine j_callV (ci := 9) (st1 := .int r12 :: _) (c_X10_fewestLaidAside g cr12) jy_X10_fewestLaidAside ki_yX10_fewestLaidAside ks_yX10_fewestLaidAside kl_RX10_249 dX10_aside_55 rfl (okX_1 _) (shX_1 _) rfl rfl rfl rfl (jbr _) (jbr _) hn.1 hn.2 (Or.inr rfl) rfl ?_
        replace h := Option.some.inj h
        subst h
        obtain ⟨hr1, hr2⟩ := hr _ _ hK
        exact j_iret dX10_aside_58 hr1 hr2
      · replace h := jif_f hc10 h
        refine j_sipush (v := (-1003)) dX10_aside_38 (by decide) ?_
        replace h := Option.some.inj h
        subst h
        obtain ⟨hr1, hr2⟩ := hr _ _ hK
        exact j_iret dX10_aside_41 hr1 hr2
    · replace h := jif_t hc9 h
      refine j_sipush (v := (-1002)) dX10_aside_19 (by decide) ?_
      replace h := Option.some.inj h
      subst h
      obtain ⟨hr1, hr2⟩ := hr _ _ hK
      exact j_iret dX10_aside_22 hr1 hr2
  · replace h := jif_t hc7 h
    refine j_sipush (v := (-1001)) dX10_aside_8 (by decide) ?_
    replace h := Option.some.inj h
    subst h
    obtain ⟨hr1, hr2⟩ := hr _ _ hK
    exact j_iret dX10_aside_11 hr1 hr2
theorem c_X10_aside (g : Bool) {σ : jS} {x1 : Int32} {x2 : Int32} {r : Int32} {σ2 : jS} (h : f_X10_aside σ x1 x2 = some (r, σ2)) : Cn yX10_aside cX10_aside 3 (some .int) 7 g [.ref 1, .int x1, .int x2] (eX σ) (some (.int r)) (eX σ2) :=
  Cn_of (by decide) (Nat.le_refl _) (Nat.le_refl _) (Nat.le_of_ble_eq_true rfl) (f_X10_aside_ok (Kp := (fun o => o = (r, σ2))) σ x1 x2 ⟨jbr _, jbr _⟩ (fun r2 s2 q => by cases q; exact ⟨rfl, rfl⟩) _ h rfl)
def f_X2_pairTold_J38 (σ : jS) (y0 : Int32) : Option Int32 :=
  some (y0)
set_option maxHeartbeats 1000000 in
set_option maxRecDepth 20000 in
theorem f_X2_pairTold_J38_ok {g : Bool} {rv : Option Value} {μ' : jM} (σ : jS) (y0 : Int32) {Kp : Int32 → Prop} (hn : Nat.ble nX μ'.1 = true ∧ Nat.ble wX μ'.2.1 = true) (hr : ∀ r : Int32, Kp (r) → rv = some (.int r) ∧ μ' = (eX σ)) (o : Int32) (h : f_X2_pairTold_J38 σ y0 = some o) (hK : Kp o) : J yX2_pairTold cX2_pairTold 3 (some .int) 1 g rv μ' 38 [] [.int y0] (eX σ) := by
  unfold f_X2_pairTold_J38 at h
  replace h := Option.some.inj h
  subst h
  obtain ⟨hr1, hr2⟩ := hr _ hK
  exact j_iret dX2_pairTold_38 hr1 hr2
def f_X2_pairTold_J16 (σ : jS) (y0 : Int32) : Option Int32 :=
  if y0 = (-1) then (f_X2_pairTold_J38 σ (-1))
  else (f_X2_pairTold_J38 σ (((100 : Int32) * (y0 / (16 : Int32))) + (y0 - y0 / (16 : Int32) * (16 : Int32))))
set_option maxHeartbeats 1000000 in
set_option maxRecDepth 20000 in
theorem f_X2_pairTold_J16_ok {g : Bool} {rv : Option Value} {μ' : jM} (σ : jS) (y0 : Int32) {Kp : Int32 → Prop} (hn : Nat.ble nX μ'.1 = true ∧ Nat.ble wX μ'.2.1 = true) (hr : ∀ r : Int32, Kp (r) → rv = some (.int r) ∧ μ' = (eX σ)) (o : Int32) (h : f_X2_pairTold_J16 σ y0 = some o) (hK : Kp o) : J yX2_pairTold cX2_pairTold 3 (some .int) 1 g rv μ' 16 [] [.int y0] (eX σ) := by
  unfold f_X2_pairTold_J16 at h
  refine j_istore_n [(2, .int y0)] dX2_pairTold_16 rfl (Nat.le_of_ble_eq_true rfl) rfl ?_
  refine j_iload_n 0 dX2_pairTold_17 rfl rfl ?_
  refine j_iconst (v := (-1)) dX2_pairTold_18 (by decide) ?_
  refine j_icmp_ne 26 dX2_pairTold_19 (by decide) (fun hc1 => ?_) (fun hc1 => ?_)
  · replace h := jif_f hc1 h
    refine j_bipush (v := 100) dX2_pairTold_26 (by decide) ?_
    refine j_iload_n 0 dX2_pairTold_28 rfl rfl ?_
    refine j_bipush (v := 16) dX2_pairTold_29 (by decide) ?_
    refine j_idiv dX2_pairTold_31 (by decide) ?_
    refine j_imul dX2_pairTold_32 ?_
    refine j_iload_n 0 dX2_pairTold_33 rfl rfl ?_
    refine j_bipush (v := 16) dX2_pairTold_34 (by decide) ?_
    refine j_irem dX2_pairTold_36 (by decide) ?_
    refine j_iadd dX2_pairTold_37 ?_
    refine j_sub [] [] rfl ?_
    exact f_X2_pairTold_J38_ok σ (((100 : Int32) * (y0 / (16 : Int32))) + (y0 - y0 / (16 : Int32) * (16 : Int32))) hn hr _ h hK
  · replace h := jif_t hc1 h
    refine j_iconst (v := (-1)) dX2_pairTold_22 (by decide) ?_
    refine j_goto 38 dX2_pairTold_23 (by decide) ?_
    refine j_sub [] [] rfl ?_
    exact f_X2_pairTold_J38_ok σ (-1) hn hr _ h hK
def f_X2_pairTold (σ : jS) (x1 : Int32) : Option Int32 :=
  if x1 = 1 then (f_X2_pairTold_J16 σ (gI σ 20 1))
  else (f_X2_pairTold_J16 σ (gI σ 20 2))
set_option maxHeartbeats 1000000 in
set_option maxRecDepth 20000 in
theorem f_X2_pairTold_ok {g : Bool} {rv : Option Value} {μ' : jM} (σ : jS) (x1 : Int32) {Kp : Int32 → Prop} (hn : Nat.ble nX μ'.1 = true ∧ Nat.ble wX μ'.2.1 = true) (hr : ∀ r : Int32, Kp (r) → rv = some (.int r) ∧ μ' = (eX σ)) (o : Int32) (h : f_X2_pairTold σ x1 = some o) (hK : Kp o) : J yX2_pairTold cX2_pairTold 3 (some .int) 1 g rv μ' 0 [(0, .ref 20), (1, .int x1)] [] (eX σ) := by
  unfold f_X2_pairTold at h
  refine j_iload_n 1 dX2_pairTold_0 rfl rfl ?_
  refine j_iconst (v := 1) dX2_pairTold_1 (by decide) ?_
  refine j_icmp_ne 12 dX2_pairTold_2 (by decide) (fun hc2 => ?_) (fun hc2 => ?_)
  · replace h := jif_f hc2 h
    refine j_aload_n 0 dX2_pairTold_12 rfl rfl ?_
    refine j_get (ci := 2) 2 (.int (gI σ 20 2)) jC_2 dX2_pairTold_13 kg_RX2_22 rfl (okX_20 _) (shX_20 _) (fvX_20_2 _) ?_
    refine j_sub [] [] rfl ?_
    exact f_X2_pairTold_J16_ok σ (gI σ 20 2) hn hr _ h hK
  · replace h := jif_t hc2 h
    refine j_aload_n 0 dX2_pairTold_5 rfl rfl ?_
    refine j_get (ci := 2) 1 (.int (gI σ 20 1)) jC_2 dX2_pairTold_6 kg_RX2_18 rfl (okX_20 _) (shX_20 _) (fvX_20_1 _) ?_
    refine j_goto 16 dX2_pairTold_9 (by decide) ?_
    refine j_sub [] [] rfl ?_
    exact f_X2_pairTold_J16_ok σ (gI σ 20 1) hn hr _ h hK
theorem c_X2_pairTold (g : Bool) {σ : jS} {x1 : Int32} {r : Int32} (h : f_X2_pairTold σ x1 = some r) : Cn yX2_pairTold cX2_pairTold 3 (some .int) 1 g [.ref 20, .int x1] (eX σ) (some (.int r)) (eX σ) :=
  Cn_of (by decide) (Nat.le_refl _) (Nat.le_refl _) (Nat.le_of_ble_eq_true rfl) (f_X2_pairTold_ok (Kp := (fun o => o = r)) σ x1 ⟨jbr _, jbr _⟩ (fun r2 q => by cases q; exact ⟨rfl, rfl⟩) _ h rfl)
def f_X2_isIn_J23 (σ : jS) (y0 : Int32) : Option Int32 :=
  bG (jb y0) (
  some (y0))
set_option maxHeartbeats 1000000 in
set_option maxRecDepth 20000 in
theorem f_X2_isIn_J23_ok {g : Bool} {rv : Option Value} {μ' : jM} (σ : jS) (y0 : Int32) {Kp : Int32 → Prop} (hn : Nat.ble nX μ'.1 = true ∧ Nat.ble wX μ'.2.1 = true) (hr : ∀ r : Int32, Kp (r) → rv = some (.int r) ∧ μ' = (eX σ)) (o : Int32) (h : f_X2_isIn_J23 σ y0 = some o) (hK : Kp o) : J yX2_isIn cX2_isIn 2 (some .boolean) 2 g rv μ' 23 [] [.int y0] (eX σ) := by
  unfold f_X2_isIn_J23 at h
  replace h := bG_inv h
  obtain ⟨hb, h⟩ := h
  replace h := Option.some.inj h
  subst h
  obtain ⟨hr1, hr2⟩ := hr _ hK
  exact j_zret (jb_nar hb) dX2_isIn_23 hr1 hr2
def f_X2_isIn (σ : jS) (x0 : Nat) (x1 : Int32) : Option Int32 :=
  bC (f_X6_at σ x0 (x1 / (16 : Int32))) fun r1 =>
  if ((r1 >>> ((x1 - x1 / (16 : Int32) * (16 : Int32)) &&& 31)) &&& (1 : Int32)) = 0 then (f_X2_isIn_J23 σ 0)
  else (f_X2_isIn_J23 σ 1)
set_option maxHeartbeats 1000000 in
set_option maxRecDepth 20000 in
theorem f_X2_isIn_ok {g : Bool} {rv : Option Value} {μ' : jM} (σ : jS) (x0 : Nat) (x1 : Int32) {Kp : Int32 → Prop} (hn : Nat.ble nX μ'.1 = true ∧ Nat.ble wX μ'.2.1 = true) (hr : ∀ r : Int32, Kp (r) → rv = some (.int r) ∧ μ' = (eX σ)) (o : Int32) (h : f_X2_isIn σ x0 x1 = some o) (hK : Kp o) : J yX2_isIn cX2_isIn 2 (some .boolean) 2 g rv μ' 0 [(0, .ref x0), (1, .int x1)] [] (eX σ) := by
  unfold f_X2_isIn at h
  refine j_aload_n 0 dX2_isIn_0 rfl rfl ?_
  refine j_iload_n 1 dX2_isIn_1 rfl rfl ?_
  refine j_bipush (v := 16) dX2_isIn_2 (by decide) ?_
  refine j_idiv dX2_isIn_4 (by decide) ?_
  replace h := bC_inv h
  obtain ⟨r2, cr2, h⟩ := h
  refine j_callS (st1 := .int r2 :: _) (c_X6_at g cr2) jy_X6_at kt_yX6_at kl_RX2_42 dX2_isIn_5 rfl rfl rfl rfl (jbr _) (jbr _) hn.1 hn.2 (Or.inr rfl) rfl ?_
  refine j_iload_n 1 dX2_isIn_8 rfl rfl ?_
  refine j_bipush (v := 16) dX2_isIn_9 (by decide) ?_
  refine j_irem dX2_isIn_11 (by decide) ?_
  refine j_ishr dX2_isIn_12 ?_
  refine j_iconst (v := 1) dX2_isIn_13 (by decide) ?_
  refine j_iand dX2_isIn_14 ?_
  refine j_if_eq 22 dX2_isIn_15 (by decide) (fun hc3 => ?_) (fun hc3 => ?_)
  · replace h := jif_t hc3 h
    refine j_iconst (v := 0) dX2_isIn_22 (by decide) ?_
    refine j_sub [] [] rfl ?_
    exact f_X2_isIn_J23_ok σ 0 hn hr _ h hK
  · replace h := jif_f hc3 h
    refine j_iconst (v := 1) dX2_isIn_18 (by decide) ?_
    refine j_goto 23 dX2_isIn_19 (by decide) ?_
    refine j_sub [] [] rfl ?_
    exact f_X2_isIn_J23_ok σ 1 hn hr _ h hK
theorem c_X2_isIn (g : Bool) {σ : jS} {x0 : Nat} {x1 : Int32} {r : Int32} (h : f_X2_isIn σ x0 x1 = some r) : Cn yX2_isIn cX2_isIn 2 (some .boolean) 2 g [.ref x0, .int x1] (eX σ) (some (.int r)) (eX σ) :=
  Cn_of (by decide) (Nat.le_refl _) (Nat.le_refl _) (Nat.le_of_ble_eq_true rfl) (f_X2_isIn_ok (Kp := (fun o => o = r)) σ x0 x1 ⟨jbr _, jbr _⟩ (fun r2 q => by cases q; exact ⟨rfl, rfl⟩) _ h rfl)
def f_X0_mark (σ : jS) (x0 : Nat) (x1 : Int32) (x2 : Int32) : Option (Unit × jS) :=
  bV (if x2 < x1 then x2 else x1) fun v1 =>
  bC (f_X6_at σ x0 v1) fun r2 =>
  bD (f_X6_put σ x0 v1 (r2 ||| ((1 : Int32) <<< ((if x1 < x2 then x2 else x1) &&& 31)))) fun r3 σ4 =>
  some (((), σ4))
set_option maxHeartbeats 1000000 in
set_option maxRecDepth 20000 in
theorem f_X0_mark_ok {g : Bool} {rv : Option Value} {μ' : jM} (σ : jS) (x0 : Nat) (x1 : Int32) (x2 : Int32) {Kp : (Unit × jS) → Prop} (hn : Nat.ble nX μ'.1 = true ∧ Nat.ble wX μ'.2.1 = true) (hr : ∀ (r : Unit) (s : jS), Kp ((r, s)) → rv = none ∧ μ' = eX s) (o : (Unit × jS)) (h : f_X0_mark σ x0 x1 x2 = some o) (hK : Kp o) : J yX0_mark cX0_mark 4 none 2 g rv μ' 0 [(0, .ref x0), (1, .int x1), (2, .int x2)] [] (eX σ) := by
  unfold f_X0_mark at h
  refine j_iload_n 1 dX0_mark_0 rfl rfl ?_
  refine j_iload_n 2 dX0_mark_1 rfl rfl ?_
  refine j_mmin kl_RX0_191 kt_yJ9_min_7cf53 kz_RJ9 kc_yJ9_min_7cf53 dX0_mark_2 rfl rfl hn.1 hn.2 ?_
  replace h := bV_inv h
  obtain ⟨v5, ev5, h⟩ := h
  refine j_nmi ev5 ?_
  refine j_istore_n [(3, .int v5), (0, .ref x0), (1, .int x1), (2, .int x2)] dX0_mark_5 rfl (Nat.le_of_ble_eq_true rfl) rfl ?_
  refine j_aload_n 1 dX0_mark_6 rfl rfl ?_
  refine j_iload_n 0 dX0_mark_7 rfl rfl ?_
  refine j_aload_n 1 dX0_mark_8 rfl rfl ?_
  refine j_iload_n 0 dX0_mark_9 rfl rfl ?_
  replace h := bC_inv h
  obtain ⟨r6, cr6, h⟩ := h
  refine j_callS (st1 := .int r6 :: _) (c_X6_at g cr6) jy_X6_at kt_yX6_at kl_RX0_61 dX0_mark_10 rfl rfl rfl rfl (jbr _) (jbr _) hn.1 hn.2 (Or.inr rfl) rfl ?_
  refine j_iconst (v := 1) dX0_mark_13 (by decide) ?_
  refine j_iload_n 2 dX0_mark_14 rfl rfl ?_
  refine j_iload_n 3 dX0_mark_15 rfl rfl ?_
  refine j_mmax kl_RX0_117 kt_yJ9_max_7cf53 kz_RJ9 kc_yJ9_max_7cf53 dX0_mark_16 rfl rfl hn.1 hn.2 ?_
  refine j_ishl dX0_mark_19 ?_
  refine j_ior dX0_mark_20 ?_
  replace h := bD_inv h
  obtain ⟨r7, σ8, cr7, h⟩ := h
  refine j_callS (st1 := _) (c_X6_put g cr7) jy_X6_put kt_yX6_put kl_RX0_146 dX0_mark_21 rfl rfl rfl rfl (jbr _) (jbr _) hn.1 hn.2 (Or.inr rfl) rfl ?_
  replace h := Option.some.inj h
  subst h
  obtain ⟨hr1, hr2⟩ := hr _ _ hK
  exact j_vret dX0_mark_24 hr1 hr2
theorem c_X0_mark (g : Bool) {σ : jS} {x0 : Nat} {x1 : Int32} {x2 : Int32} {r : Unit} {σ2 : jS} (h : f_X0_mark σ x0 x1 x2 = some (r, σ2)) : Cn yX0_mark cX0_mark 4 none 2 g [.ref x0, .int x1, .int x2] (eX σ) none (eX σ2) :=
  Cn_of (by decide) (Nat.le_refl _) (Nat.le_refl _) (Nat.le_of_ble_eq_true rfl) (f_X0_mark_ok (Kp := (fun o => o = (r, σ2))) σ x0 x1 x2 ⟨jbr _, jbr _⟩ (fun r2 s2 q => by cases q; exact ⟨rfl, rfl⟩) _ h rfl)
def f_X0_walkTo (σ : jS) (x1 : Int32) : Option (Unit × jS) :=
  bC (f_X6_at σ 15 x1) fun r1 =>
  if r1 = 0 then (bD (f_X6_put σ 15 x1 1) fun r2 σ3 =>
  bD (f_X6_put σ3 13 (gI σ3 4 2) x1) fun r4 σ5 =>
  bV (sI σ5 4 2 ((gI σ5 4 2) + (1 : Int32))) fun σ6 =>
  some (((), σ6)))
  else (some (((), σ)))
set_option maxHeartbeats 1000000 in
set_option maxRecDepth 20000 in
theorem f_X0_walkTo_ok {g : Bool} {rv : Option Value} {μ' : jM} (σ : jS) (x1 : Int32) {Kp : (Unit × jS) → Prop} (hn : Nat.ble nX μ'.1 = true ∧ Nat.ble wX μ'.2.1 = true) (hr : ∀ (r : Unit) (s : jS), Kp ((r, s)) → rv = none ∧ μ' = eX s) (o : (Unit × jS)) (h : f_X0_walkTo σ x1 = some o) (hK : Kp o) : J yX0_walkTo cX0_walkTo 2 none 2 g rv μ' 0 [(0, .ref 4), (1, .int x1)] [] (eX σ) := by
  unfold f_X0_walkTo at h
  refine j_aload_n 0 dX0_walkTo_0 rfl rfl ?_
  refine j_get (ci := 0) 8 (.ref 15) jC_0 dX0_walkTo_1 kg_RX0_31 rfl (okX_4 _) (shX_4 _) (fvX_4_8 _) ?_
  refine j_iload_n 1 dX0_walkTo_4 rfl rfl ?_
  replace h := bC_inv h
  obtain ⟨r7, cr7, h⟩ := h
  refine j_callS (st1 := .int r7 :: _) (c_X6_at g cr7) jy_X6_at kt_yX6_at kl_RX0_61 dX0_walkTo_5 rfl rfl rfl rfl (jbr _) (jbr _) hn.1 hn.2 (Or.inr rfl) rfl ?_
  refine j_if_eq 12 dX0_walkTo_8 (by decide) (fun hc8 => ?_) (fun hc8 => ?_)
  · replace h := jif_t hc8 h
    refine j_aload_n 0 dX0_walkTo_12 rfl rfl ?_
    refine j_get (ci := 0) 8 (.ref 15) jC_0 dX0_walkTo_13 kg_RX0_31 rfl (okX_4 _) (shX_4 _) (fvX_4_8 _) ?_
    refine j_iload_n 1 dX0_walkTo_16 rfl rfl ?_
    refine j_iconst (v := 1) dX0_walkTo_17 (by decide) ?_
    replace h := bD_inv h
    obtain ⟨r9, σ10, cr9, h⟩ := h
    refine j_callS (st1 := _) (c_X6_put g cr9) jy_X6_put kt_yX6_put kl_RX0_146 dX0_walkTo_18 rfl rfl rfl rfl (jbr _) (jbr _) hn.1 hn.2 (Or.inr rfl) rfl ?_
    refine j_aload_n 0 dX0_walkTo_21 rfl rfl ?_
    refine j_get (ci := 0) 6 (.ref 13) jC_0 dX0_walkTo_22 kg_RX0_25 rfl (okX_4 _) (shX_4 _) (fvX_4_6 _) ?_
    refine j_aload_n 0 dX0_walkTo_25 rfl rfl ?_
    refine j_get (ci := 0) 2 (.int (gI σ10 4 2)) jC_0 dX0_walkTo_26 kg_RX0_136 rfl (okX_4 _) (shX_4 _) (fvX_4_2 _) ?_
    refine j_iload_n 1 dX0_walkTo_29 rfl rfl ?_
    replace h := bD_inv h
    obtain ⟨r11, σ12, cr11, h⟩ := h
    refine j_callS (st1 := _) (c_X6_put g cr11) jy_X6_put kt_yX6_put kl_RX0_146 dX0_walkTo_30 rfl rfl rfl rfl (jbr _) (jbr _) hn.1 hn.2 (Or.inr rfl) rfl ?_
    refine j_aload_n 0 dX0_walkTo_33 rfl rfl ?_
    refine j_dup dX0_walkTo_34 rfl ?_
    refine j_get (ci := 0) 2 (.int (gI σ12 4 2)) jC_0 dX0_walkTo_35 kg_RX0_136 rfl (okX_4 _) (shX_4 _) (fvX_4_2 _) ?_
    refine j_iconst (v := 1) dX0_walkTo_38 (by decide) ?_
    refine j_iadd dX0_walkTo_39 ?_
    replace h := bV_inv h
    obtain ⟨σ13, eσ13, h⟩ := h
    refine j_putI 2 jC_0 dX0_walkTo_40 kg_RX0_136 (Or.inl ff_0_2) rfl fk_0_2 (fn_0_2 _) (okX_4 _) (shX_4 _) ?_
    refine j_mem (congrArg eX eσ13) ?_
    replace h := Option.some.inj h
    subst h
    obtain ⟨hr1, hr2⟩ := hr _ _ hK
    exact j_vret dX0_walkTo_43 hr1 hr2
  · replace h := jif_f hc8 h
    replace h := Option.some.inj h
    subst h
    obtain ⟨hr1, hr2⟩ := hr _ _ hK
    exact j_vret dX0_walkTo_11 hr1 hr2
theorem c_X0_walkTo (g : Bool) {σ : jS} {x1 : Int32} {r : Unit} {σ2 : jS} (h : f_X0_walkTo σ x1 = some (r, σ2)) : Cn yX0_walkTo cX0_walkTo 2 none 2 g [.ref 4, .int x1] (eX σ) none (eX σ2) :=
  Cn_of (by decide) (Nat.le_refl _) (Nat.le_refl _) (Nat.le_of_ble_eq_true rfl) (f_X0_walkTo_ok (Kp := (fun o => o = (r, σ2))) σ x1 ⟨jbr _, jbr _⟩ (fun r2 s2 q => by cases q; exact ⟨rfl, rfl⟩) _ h rfl)
def f_X0_walkOn_J107 (σ : jS) : Option (Unit × jS) :=
  some (((), σ))
set_option maxHeartbeats 1000000 in
set_option maxRecDepth 20000 in
theorem f_X0_walkOn_J107_ok {g : Bool} {rv : Option Value} {μ' : jM} (σ : jS) {Kp : (Unit × jS) → Prop} (hn : Nat.ble nX μ'.1 = true ∧ Nat.ble wX μ'.2.1 = true) (hr : ∀ (r : Unit) (s : jS), Kp ((r, s)) → rv = none ∧ μ' = eX s) (o : (Unit × jS)) (h : f_X0_walkOn_J107 σ = some o) (hK : Kp o) : J yX0_walkOn cX0_walkOn 8 none 3 g rv μ' 107 [] [] (eX σ) := by
  unfold f_X0_walkOn_J107 at h
  replace h := Option.some.inj h
  subst h
  obtain ⟨hr1, hr2⟩ := hr _ _ hK
  exact j_vret dX0_walkOn_107 hr1 hr2
def f_X0_walkOn_J101 (σ : jS) (x1 : Int32) (x2 : Int32) (x3 : Int64) (x5 : Int32) : Option ((Int64 × Int32 × jS) ⊕ (Unit × jS)) :=
  bV (x5 + (-1)) fun v10 =>
  some (.inl (x3, v10, σ))
set_option maxHeartbeats 1000000 in
set_option maxRecDepth 20000 in
theorem f_X0_walkOn_J101_ok {g : Bool} {rv : Option Value} {μ' : jM} (σ : jS) (x1 : Int32) (x2 : Int32) (x3 : Int64) (x5 : Int32) {Kp : ((Int64 × Int32 × jS) ⊕ (Unit × jS)) → Prop} (hn : Nat.ble nX μ'.1 = true ∧ Nat.ble wX μ'.2.1 = true) (hr : ∀ (r : Unit) (s : jS), Kp (.inr ((r, s))) → rv = none ∧ μ' = eX s) (hc0 : ∀ s : (Int64 × Int32 × jS), Kp (.inl s) → J yX0_walkOn cX0_walkOn 8 none 3 g rv μ' 25 [(0, .ref 4), (1, .int x1), (2, .int x2), (3, .long s.1), (5, .int s.2.1)] [] (eX s.2.2)) (o : ((Int64 × Int32 × jS) ⊕ (Unit × jS))) (h : f_X0_walkOn_J101 σ x1 x2 x3 x5 = some o) (hK : Kp o) : J yX0_walkOn cX0_walkOn 8 none 3 g rv μ' 101 [(0, .ref 4), (1, .int x1), (2, .int x2), (3, .long x3), (5, .int x5)] [] (eX σ) := by
  unfold f_X0_walkOn_J101 at h
  replace h := bV_inv h
  obtain ⟨v11, ev11, h⟩ := h
  refine j_iinc (v := v11) [(5, .int v11), (0, .ref 4), (1, .int x1), (2, .int x2), (3, .long x3)] 4 dX0_walkOn_101 rfl (by rw [ev11]; rfl) (Nat.le_of_ble_eq_true rfl) rfl ?_
  refine j_goto 25 dX0_walkOn_104 (by decide) ?_
  replace h := Option.some.inj h
  subst h
  refine j_sub [(0, .ref 4), (1, .int x1), (2, .int x2), (3, .long x3), (5, .int v11)] [1, 2, 3, 4, 0] rfl ?_
  exact hc0 _ hK
def f_X0_walkOn_J100 (σ : jS) : Option (Unit × jS) :=
  some (((), σ))
set_option maxHeartbeats 1000000 in
set_option maxRecDepth 20000 in
theorem f_X0_walkOn_J100_ok {g : Bool} {rv : Option Value} {μ' : jM} (σ : jS) {Kp : (Unit × jS) → Prop} (hn : Nat.ble nX μ'.1 = true ∧ Nat.ble wX μ'.2.1 = true) (hr : ∀ (r : Unit) (s : jS), Kp ((r, s)) → rv = none ∧ μ' = eX s) (o : (Unit × jS)) (h : f_X0_walkOn_J100 σ = some o) (hK : Kp o) : J yX0_walkOn cX0_walkOn 8 none 3 g rv μ' 100 [] [] (eX σ) := by
  unfold f_X0_walkOn_J100 at h
  replace h := Option.some.inj h
  subst h
  obtain ⟨hr1, hr2⟩ := hr _ _ hK
  exact j_vret dX0_walkOn_100 hr1 hr2
def f_X0_walkOn_J88 (σ : jS) (x1 : Int32) (x2 : Int32) (x3 : Int64) (x5 : Int32) (x7 : Int32) : Option ((Int64 × Int32 × jS) ⊕ (Unit × jS)) :=
  if (x1 &&& (1 : Int32)) = x2 then (if x7 = 0 then (f_X0_walkOn_J101 σ x1 x2 x3 x5)
  else (jw (f_X0_walkOn_J100 σ)))
  else (f_X0_walkOn_J101 σ x1 x2 x3 x5)
set_option maxHeartbeats 1000000 in
set_option maxRecDepth 20000 in
theorem f_X0_walkOn_J88_ok {g : Bool} {rv : Option Value} {μ' : jM} (σ : jS) (x1 : Int32) (x2 : Int32) (x3 : Int64) (x5 : Int32) (x7 : Int32) {Kp : ((Int64 × Int32 × jS) ⊕ (Unit × jS)) → Prop} (hn : Nat.ble nX μ'.1 = true ∧ Nat.ble wX μ'.2.1 = true) (hr : ∀ (r : Unit) (s : jS), Kp (.inr ((r, s))) → rv = none ∧ μ' = eX s) (hc0 : ∀ s : (Int64 × Int32 × jS), Kp (.inl s) → J yX0_walkOn cX0_walkOn 8 none 3 g rv μ' 25 [(0, .ref 4), (1, .int x1), (2, .int x2), (3, .long s.1), (5, .int s.2.1)] [] (eX s.2.2)) (o : ((Int64 × Int32 × jS) ⊕ (Unit × jS))) (h : f_X0_walkOn_J88 σ x1 x2 x3 x5 x7 = some o) (hK : Kp o) : J yX0_walkOn cX0_walkOn 8 none 3 g rv μ' 88 [(0, .ref 4), (1, .int x1), (2, .int x2), (3, .long x3), (5, .int x5), (7, .int x7)] [] (eX σ) := by
  unfold f_X0_walkOn_J88 at h
  refine j_iload_n 1 dX0_walkOn_88 rfl rfl ?_
  refine j_iconst (v := 1) dX0_walkOn_89 (by decide) ?_
  refine j_iand dX0_walkOn_90 ?_
  refine j_iload_n 2 dX0_walkOn_91 rfl rfl ?_
  refine j_icmp_ne 101 dX0_walkOn_92 (by decide) (fun hc12 => ?_) (fun hc12 => ?_)
  · replace h := jif_f hc12 h
    refine j_sub [(0, .ref 4), (1, .int x1), (2, .int x2), (3, .long x3), (5, .int x5)] [0, 1, 2, 3, 4] rfl ?_
    exact f_X0_walkOn_J101_ok σ x1 x2 x3 x5 hn hr hc0 _ h hK
  · replace h := jif_t hc12 h
    refine j_iload 5 dX0_walkOn_95 rfl ?_
    refine j_if_eq 101 dX0_walkOn_97 (by decide) (fun hc13 => ?_) (fun hc13 => ?_)
    · replace h := jif_t hc13 h
      refine j_sub [(0, .ref 4), (1, .int x1), (2, .int x2), (3, .long x3), (5, .int x5)] [0, 1, 2, 3, 4] rfl ?_
      exact f_X0_walkOn_J101_ok σ x1 x2 x3 x5 hn hr hc0 _ h hK
    · replace h := jif_f hc13 h
      replace h := jw_inv h
      obtain ⟨o14, rfl, h⟩ := h
      refine j_sub [] [] rfl ?_
      exact f_X0_walkOn_J100_ok (Kp := fun o => Kp (.inr (o))) σ hn (fun r s q => hr r s q) _ h hK
def f_X0_walkOn_J82 (σ : jS) (x1 : Int32) (x2 : Int32) (x3 : Int64) (x5 : Int32) (x6 : Int32) (x7 : Int32) : Option ((Int64 × Int32 × jS) ⊕ (Unit × jS)) :=
  bD (f_X0_walkTo σ x6) fun r8 σ9 =>
  f_X0_walkOn_J88 σ9 x1 x2 x3 x5 x7
set_option maxHeartbeats 1000000 in
set_option maxRecDepth 20000 in
theorem f_X0_walkOn_J82_ok {g : Bool} {rv : Option Value} {μ' : jM} (σ : jS) (x1 : Int32) (x2 : Int32) (x3 : Int64) (x5 : Int32) (x6 : Int32) (x7 : Int32) {Kp : ((Int64 × Int32 × jS) ⊕ (Unit × jS)) → Prop} (hn : Nat.ble nX μ'.1 = true ∧ Nat.ble wX μ'.2.1 = true) (hr : ∀ (r : Unit) (s : jS), Kp (.inr ((r, s))) → rv = none ∧ μ' = eX s) (hc0 : ∀ s : (Int64 × Int32 × jS), Kp (.inl s) → J yX0_walkOn cX0_walkOn 8 none 3 g rv μ' 25 [(0, .ref 4), (1, .int x1), (2, .int x2), (3, .long s.1), (5, .int s.2.1)] [] (eX s.2.2)) (o : ((Int64 × Int32 × jS) ⊕ (Unit × jS))) (h : f_X0_walkOn_J82 σ x1 x2 x3 x5 x6 x7 = some o) (hK : Kp o) : J yX0_walkOn cX0_walkOn 8 none 3 g rv μ' 82 [(0, .ref 4), (1, .int x1), (2, .int x2), (3, .long x3), (5, .int x5), (6, .int x6), (7, .int x7)] [] (eX σ) := by
  unfold f_X0_walkOn_J82 at h
  refine j_aload_n 0 dX0_walkOn_82 rfl rfl ?_
  refine j_iload 5 dX0_walkOn_83 rfl ?_
  replace h := bD_inv h
  obtain ⟨r15, σ16, cr15, h⟩ := h
  refine j_callV (ci := 0) (st1 := _) (c_X0_walkTo g cr15) jy_X0_walkTo ki_yX0_walkTo ks_yX0_walkTo kl_RX0_182 dX0_walkOn_85 rfl (okX_4 _) (shX_4 _) rfl rfl rfl rfl (jbr _) (jbr _) hn.1 hn.2 (Or.inr rfl) rfl ?_
  refine j_sub [(0, .ref 4), (1, .int x1), (2, .int x2), (3, .long x3), (5, .int x5), (7, .int x7)] [0, 1, 2, 3, 4, 6] rfl ?_
  exact f_X0_walkOn_J88_ok σ16 x1 x2 x3 x5 x7 hn hr hc0 _ h hK
def f_X0_walkOn_J68 (σ : jS) (x1 : Int32) (x2 : Int32) (x3 : Int64) (x5 : Int32) (x6 : Int32) (y0 : Int32) : Option ((Int64 × Int32 × jS) ⊕ (Unit × jS)) :=
  if (x1 &&& (1 : Int32)) = x2 then (if y0 = 0 then (f_X0_walkOn_J88 σ x1 x2 x3 x5 y0)
  else (f_X0_walkOn_J82 σ x1 x2 x3 x5 x6 y0))
  else (f_X0_walkOn_J82 σ x1 x2 x3 x5 x6 y0)
set_option maxHeartbeats 1000000 in
set_option maxRecDepth 20000 in
theorem f_X0_walkOn_J68_ok {g : Bool} {rv : Option Value} {μ' : jM} (σ : jS) (x1 : Int32) (x2 : Int32) (x3 : Int64) (x5 : Int32) (x6 : Int32) (y0 : Int32) {Kp : ((Int64 × Int32 × jS) ⊕ (Unit × jS)) → Prop} (hn : Nat.ble nX μ'.1 = true ∧ Nat.ble wX μ'.2.1 = true) (hr : ∀ (r : Unit) (s : jS), Kp (.inr ((r, s))) → rv = none ∧ μ' = eX s) (hc0 : ∀ s : (Int64 × Int32 × jS), Kp (.inl s) → J yX0_walkOn cX0_walkOn 8 none 3 g rv μ' 25 [(0, .ref 4), (1, .int x1), (2, .int x2), (3, .long s.1), (5, .int s.2.1)] [] (eX s.2.2)) (o : ((Int64 × Int32 × jS) ⊕ (Unit × jS))) (h : f_X0_walkOn_J68 σ x1 x2 x3 x5 x6 y0 = some o) (hK : Kp o) : J yX0_walkOn cX0_walkOn 8 none 3 g rv μ' 68 [(0, .ref 4), (1, .int x1), (2, .int x2), (3, .long x3), (5, .int x5), (6, .int x6)] [.int y0] (eX σ) := by
  unfold f_X0_walkOn_J68 at h
  refine j_istore [(7, .int y0), (0, .ref 4), (1, .int x1), (2, .int x2), (3, .long x3), (5, .int x5), (6, .int x6)] dX0_walkOn_68 (Nat.le_of_ble_eq_true rfl) rfl ?_
  refine j_iload_n 2 dX0_walkOn_70 rfl rfl ?_
  refine j_iconst (v := 1) dX0_walkOn_71 (by decide) ?_
  refine j_iand dX0_walkOn_72 ?_
  refine j_iload_n 3 dX0_walkOn_73 rfl rfl ?_
  refine j_icmp_ne 82 dX0_walkOn_74 (by decide) (fun hc17 => ?_) (fun hc17 => ?_)
  · replace h := jif_f hc17 h
    refine j_sub [(0, .ref 4), (1, .int x1), (2, .int x2), (3, .long x3), (5, .int x5), (6, .int x6), (7, .int y0)] [1, 2, 3, 4, 5, 6, 0] rfl ?_
    exact f_X0_walkOn_J82_ok σ x1 x2 x3 x5 x6 y0 hn hr hc0 _ h hK
  · replace h := jif_t hc17 h
    refine j_iload 0 dX0_walkOn_77 rfl ?_
    refine j_if_eq 88 dX0_walkOn_79 (by decide) (fun hc18 => ?_) (fun hc18 => ?_)
    · replace h := jif_t hc18 h
      refine j_sub [(0, .ref 4), (1, .int x1), (2, .int x2), (3, .long x3), (5, .int x5), (7, .int y0)] [1, 2, 3, 4, 5, 0] rfl ?_
      exact f_X0_walkOn_J88_ok σ x1 x2 x3 x5 y0 hn hr hc0 _ h hK
    · replace h := jif_f hc18 h
      refine j_sub [(0, .ref 4), (1, .int x1), (2, .int x2), (3, .long x3), (5, .int x5), (6, .int x6), (7, .int y0)] [1, 2, 3, 4, 5, 6, 0] rfl ?_
      exact f_X0_walkOn_J82_ok σ x1 x2 x3 x5 x6 y0 hn hr hc0 _ h hK
def f_X0_walkOn_B25 (σ : jS) (x1 : Int32) (x2 : Int32) (x3 : Int64) (x5 : Int32) : Option ((Int64 × Int32 × jS) ⊕ (Unit × jS)) :=
  if x5 ≤ 0 then (jw (f_X0_walkOn_J107 σ))
  else (bC (f_X6_lowest x3) fun r3 =>
  bC (f_X0_after x1 r3) fun r4 =>
  bV (x3 &&& (x3 - (1 : Int64))) fun v5 =>
  bC (f_X0_neededAt σ r4) fun r6 =>
  bC (f_X0_neededAt σ x1) fun r7 =>
  if r6 = (r7 - (1 : Int32)) then (f_X0_walkOn_J68 σ x1 x2 v5 x5 r4 1)
  else (f_X0_walkOn_J68 σ x1 x2 v5 x5 r4 0))
set_option maxHeartbeats 1000000 in
set_option maxRecDepth 20000 in
theorem f_X0_walkOn_B25_ok {g : Bool} {rv : Option Value} {μ' : jM} (σ : jS) (x1 : Int32) (x2 : Int32) (x3 : Int64) (x5 : Int32) {Kp : ((Int64 × Int32 × jS) ⊕ (Unit × jS)) → Prop} (hn : Nat.ble nX μ'.1 = true ∧ Nat.ble wX μ'.2.1 = true) (hr : ∀ (r : Unit) (s : jS), Kp (.inr ((r, s))) → rv = none ∧ μ' = eX s) (hc0 : ∀ s : (Int64 × Int32 × jS), Kp (.inl s) → J yX0_walkOn cX0_walkOn 8 none 3 g rv μ' 25 [(0, .ref 4), (1, .int x1), (2, .int x2), (3, .long s.1), (5, .int s.2.1)] [] (eX s.2.2)) (o : ((Int64 × Int32 × jS) ⊕ (Unit × jS))) (h : f_X0_walkOn_B25 σ x1 x2 x3 x5 = some o) (hK : Kp o) : J yX0_walkOn cX0_walkOn 8 none 3 g rv μ' 25 [(0, .ref 4), (1, .int x1), (2, .int x2), (3, .long x3), (5, .int x5)] [] (eX σ) := by
  unfold f_X0_walkOn_B25 at h
  refine j_iload 4 dX0_walkOn_25 rfl ?_
  refine j_if_le 107 dX0_walkOn_27 (by decide) (fun hc19 => ?_) (fun hc19 => ?_)
  · replace h := jif_t hc19 h
    replace h := jw_inv h
    obtain ⟨o20, rfl, h⟩ := h
    refine j_sub [] [] rfl ?_
    exact f_X0_walkOn_J107_ok (Kp := fun o => Kp (.inr (o))) σ hn (fun r s q => hr r s q) _ h hK
  · replace h := jif_f hc19 h
    refine j_aload_n 0 dX0_walkOn_30 rfl rfl ?_
    refine j_iload_n 1 dX0_walkOn_31 rfl rfl ?_
    refine j_lload_n 3 dX0_walkOn_32 rfl rfl ?_
    replace h := bC_inv h
    obtain ⟨r21, cr21, h⟩ := h
    refine j_callS (st1 := .int r21 :: _) (c_X6_lowest g _ cr21) jy_X6_lowest kt_yX6_lowest kl_RX0_98 dX0_walkOn_33 rfl rfl rfl rfl (jbr _) (jbr _) hn.1 hn.2 (Or.inr rfl) rfl ?_
    replace h := bC_inv h
    obtain ⟨r22, cr22, h⟩ := h
    refine j_callV (ci := 0) (st1 := .int r22 :: _) (c_X0_after g _ cr22) jy_X0_after ki_yX0_after ks_yX0_after kl_RX0_114 dX0_walkOn_36 rfl (okX_4 _) (shX_4 _) rfl rfl rfl rfl (jbr _) (jbr _) hn.1 hn.2 (Or.inr rfl) rfl ?_
    refine j_istore [(6, .int r22), (0, .ref 4), (1, .int x1), (2, .int x2), (3, .long x3), (5, .int x5)] dX0_walkOn_39 (Nat.le_of_ble_eq_true rfl) rfl ?_
    refine j_lload_n 4 dX0_walkOn_41 rfl rfl ?_
    refine j_lload_n 4 dX0_walkOn_42 rfl rfl ?_
    refine j_lconst (v := 1) dX0_walkOn_43 (by decide) ?_
    refine j_lsub dX0_walkOn_44 ?_
    refine j_land dX0_walkOn_45 ?_
    replace h := bV_inv h
    obtain ⟨v23, ev23, h⟩ := h
    refine j_nml ev23 ?_
    refine j_lstore_n [(3, .long v23), (6, .int r22), (0, .ref 4), (1, .int x1), (2, .int x2), (5, .int x5)] dX0_walkOn_46 rfl (Nat.le_of_ble_eq_true rfl) rfl ?_
    refine j_aload_n 2 dX0_walkOn_47 rfl rfl ?_
    refine j_iload 1 dX0_walkOn_48 rfl ?_
    replace h := bC_inv h
    obtain ⟨r24, cr24, h⟩ := h
    refine j_callV (ci := 0) (st1 := .int r24 :: _) (c_X0_neededAt g cr24) jy_X0_neededAt ki_yX0_neededAt ks_yX0_neededAt kl_RX0_143 dX0_walkOn_50 rfl (okX_4 _) (shX_4 _) rfl rfl rfl rfl (jbr _) (jbr _) hn.1 hn.2 (Or.inr rfl) rfl ?_
    refine j_aload_n 2 dX0_walkOn_53 rfl rfl ?_
    refine j_iload_n 3 dX0_walkOn_54 rfl rfl ?_
    replace h := bC_inv h
    obtain ⟨r25, cr25, h⟩ := h
    refine j_callV (ci := 0) (st1 := .int r25 :: _) (c_X0_neededAt g cr25) jy_X0_neededAt ki_yX0_neededAt ks_yX0_neededAt kl_RX0_143 dX0_walkOn_55 rfl (okX_4 _) (shX_4 _) rfl rfl rfl rfl (jbr _) (jbr _) hn.1 hn.2 (Or.inr rfl) rfl ?_
    refine j_iconst (v := 1) dX0_walkOn_58 (by decide) ?_
    refine j_isub dX0_walkOn_59 ?_
    refine j_icmp_ne 67 dX0_walkOn_60 (by decide) (fun hc26 => ?_) (fun hc26 => ?_)
    · replace h := jif_f hc26 h
      refine j_iconst (v := 0) dX0_walkOn_67 (by decide) ?_
      refine j_sub [(0, .ref 4), (1, .int x1), (2, .int x2), (3, .long v23), (5, .int x5), (6, .int r22)] [2, 3, 4, 0, 5, 1] rfl ?_
      exact f_X0_walkOn_J68_ok σ x1 x2 v23 x5 r22 0 hn hr hc0 _ h hK
    · replace h := jif_t hc26 h
      refine j_iconst (v := 1) dX0_walkOn_63 (by decide) ?_
      refine j_goto 68 dX0_walkOn_64 (by decide) ?_
      refine j_sub [(0, .ref 4), (1, .int x1), (2, .int x2), (3, .long v23), (5, .int x5), (6, .int r22)] [2, 3, 4, 0, 5, 1] rfl ?_
      exact f_X0_walkOn_J68_ok σ x1 x2 v23 x5 r22 1 hn hr hc0 _ h hK
def f_X0_walkOn_J19 (σ : jS) (x1 : Int32) (x2 : Int32) (x3 : Int64) : Option (Unit × jS) :=
  bC (f_J13_bitCount_95d88 x3) fun r2 =>
  jloop jFuel (fun s => f_X0_walkOn_B25 s.2.2 x1 x2 s.1 s.2.1) (x3, r2, σ)
set_option maxHeartbeats 1000000 in
set_option maxRecDepth 20000 in
theorem f_X0_walkOn_J19_ok {g : Bool} {rv : Option Value} {μ' : jM} (σ : jS) (x1 : Int32) (x2 : Int32) (x3 : Int64) {Kp : (Unit × jS) → Prop} (hn : Nat.ble nX μ'.1 = true ∧ Nat.ble wX μ'.2.1 = true) (hr : ∀ (r : Unit) (s : jS), Kp ((r, s)) → rv = none ∧ μ' = eX s) (o : (Unit × jS)) (h : f_X0_walkOn_J19 σ x1 x2 x3 = some o) (hK : Kp o) : J yX0_walkOn cX0_walkOn 8 none 3 g rv μ' 19 [(0, .ref 4), (1, .int x1), (2, .int x2), (3, .long x3)] [] (eX σ) := by
  unfold f_X0_walkOn_J19 at h
  refine j_lload_n 3 dX0_walkOn_19 rfl rfl ?_
  replace h := bC_inv h
  obtain ⟨r27, cr27, h⟩ := h
  refine j_callS (st1 := .int r27 :: _) (c_J13_bitCount_95d88 g _ cr27) jy_J13_bitCount_95d88 kt_yJ13_bitCount_95d88 kl_RX0_92 dX0_walkOn_20 rfl rfl rfl rfl (jbr _) (jbr _) hn.1 hn.2 (Or.inr rfl) rfl ?_
  refine j_istore [(5, .int r27), (0, .ref 4), (1, .int x1), (2, .int x2), (3, .long x3)] dX0_walkOn_23 (Nat.le_of_ble_eq_true rfl) rfl ?_
  refine j_sub [(0, .ref 4), (1, .int x1), (2, .int x2), (3, .long x3), (5, .int r27)] [1, 2, 3, 4, 0] rfl ?_
  exact jloop_ok (fun s => f_X0_walkOn_B25 s.2.2 x1 x2 s.1 s.2.1) (fun s => J yX0_walkOn cX0_walkOn 8 none 3 g rv μ' 25 [(0, .ref 4), (1, .int x1), (2, .int x2), (3, .long s.1), (5, .int s.2.1)] [] (eX s.2.2)) Kp (fun s o hb hk => f_X0_walkOn_B25_ok (Kp := jsum (fun s => J yX0_walkOn cX0_walkOn 8 none 3 g rv μ' 25 [(0, .ref 4), (1, .int x1), (2, .int x2), (3, .long s.1), (5, .int s.2.1)] [] (eX s.2.2)) Kp) s.2.2 x1 x2 s.1 s.2.1 hn (fun r s q => hr r s q) (fun s q => q) o hb hk) jFuel _ _ h hK
def f_X0_walkOn (σ : jS) (x1 : Int32) (x2 : Int32) : Option (Unit × jS) :=
  bC (f_X0_onwardOf σ x1) fun r1 =>
  if (lg_cmp r1 0) = 0 then (bD (f_X0_walkTo σ (x1 ^^^ (1 : Int32))) fun r28 σ29 =>
  f_X0_walkOn_J19 σ29 x1 x2 r1)
  else (f_X0_walkOn_J19 σ x1 x2 r1)
set_option maxHeartbeats 1000000 in
set_option maxRecDepth 20000 in
theorem f_X0_walkOn_ok {g : Bool} {rv : Option Value} {μ' : jM} (σ : jS) (x1 : Int32) (x2 : Int32) {Kp : (Unit × jS) → Prop} (hn : Nat.ble nX μ'.1 = true ∧ Nat.ble wX μ'.2.1 = true) (hr : ∀ (r : Unit) (s : jS), Kp ((r, s)) → rv = none ∧ μ' = eX s) (o : (Unit × jS)) (h : f_X0_walkOn σ x1 x2 = some o) (hK : Kp o) : J yX0_walkOn cX0_walkOn 8 none 3 g rv μ' 0 [(0, .ref 4), (1, .int x1), (2, .int x2)] [] (eX σ) := by
  unfold f_X0_walkOn at h
  refine j_aload_n 0 dX0_walkOn_0 rfl rfl ?_
  refine j_iload_n 1 dX0_walkOn_1 rfl rfl ?_
  replace h := bC_inv h
  obtain ⟨r30, cr30, h⟩ := h
  refine j_callV (ci := 0) (st1 := .long r30 :: _) (c_X0_onwardOf g cr30) jy_X0_onwardOf ki_yX0_onwardOf ks_yX0_onwardOf kl_RX0_72 dX0_walkOn_2 rfl (okX_4 _) (shX_4 _) rfl rfl rfl rfl (jbr _) (jbr _) hn.1 hn.2 (Or.inr rfl) rfl ?_
  refine j_lstore_n [(3, .long r30), (0, .ref 4), (1, .int x1), (2, .int x2)] dX0_walkOn_5 rfl (Nat.le_of_ble_eq_true rfl) rfl ?_
  refine j_lload_n 0 dX0_walkOn_6 rfl rfl ?_
  refine j_lconst (v := 0) dX0_walkOn_7 (by decide) ?_
  refine j_lcmp dX0_walkOn_8 ?_
  refine j_if_ne 19 dX0_walkOn_9 (by decide) (fun hc31 => ?_) (fun hc31 => ?_)
  · replace h := jif_f hc31 h
    refine j_sub [(0, .ref 4), (1, .int x1), (2, .int x2), (3, .long r30)] [1, 2, 3, 0] rfl ?_
    exact f_X0_walkOn_J19_ok σ x1 x2 r30 hn hr _ h hK
  · replace h := jif_t hc31 h
    refine j_aload_n 1 dX0_walkOn_12 rfl rfl ?_
    refine j_iload_n 2 dX0_walkOn_13 rfl rfl ?_
    refine j_iconst (v := 1) dX0_walkOn_14 (by decide) ?_
    refine j_ixor dX0_walkOn_15 ?_
    replace h := bD_inv h
    obtain ⟨r32, σ33, cr32, h⟩ := h
    refine j_callV (ci := 0) (st1 := _) (c_X0_walkTo g cr32) jy_X0_walkTo ki_yX0_walkTo ks_yX0_walkTo kl_RX0_182 dX0_walkOn_16 rfl (okX_4 _) (shX_4 _) rfl rfl rfl rfl (jbr _) (jbr _) hn.1 hn.2 (Or.inr rfl) rfl ?_
    refine j_sub [(0, .ref 4), (1, .int x1), (2, .int x2), (3, .long r30)] [1, 2, 3, 0] rfl ?_
    exact f_X0_walkOn_J19_ok σ33 x1 x2 r30 hn hr _ h hK
theorem c_X0_walkOn (g : Bool) {σ : jS} {x1 : Int32} {x2 : Int32} {r : Unit} {σ2 : jS} (h : f_X0_walkOn σ x1 x2 = some (r, σ2)) : Cn yX0_walkOn cX0_walkOn 8 none 3 g [.ref 4, .int x1, .int x2] (eX σ) none (eX σ2) :=
  Cn_of (by decide) (Nat.le_refl _) (Nat.le_refl _) (Nat.le_of_ble_eq_true rfl) (f_X0_walkOn_ok (Kp := (fun o => o = (r, σ2))) σ x1 x2 ⟨jbr _, jbr _⟩ (fun r2 s2 q => by cases q; exact ⟨rfl, rfl⟩) _ h rfl)
def f_X0_followPeace_J132 (σ : jS) : Option (Unit × jS) :=
  some (((), σ))
set_option maxHeartbeats 1000000 in
set_option maxRecDepth 20000 in
theorem f_X0_followPeace_J132_ok {g : Bool} {rv : Option Value} {μ' : jM} (σ : jS) {Kp : (Unit × jS) → Prop} (hn : Nat.ble nX μ'.1 = true ∧ Nat.ble wX μ'.2.1 = true) (hr : ∀ (r : Unit) (s : jS), Kp ((r, s)) → rv = none ∧ μ' = eX s) (o : (Unit × jS)) (h : f_X0_followPeace_J132 σ = some o) (hK : Kp o) : J yX0_followPeace cX0_followPeace 6 none 4 g rv μ' 132 [] [] (eX σ) := by
  unfold f_X0_followPeace_J132 at h
  replace h := Option.some.inj h
  subst h
  obtain ⟨hr1, hr2⟩ := hr _ _ hK
  exact j_vret dX0_followPeace_132 hr1 hr2
def f_X0_followPeace_J126 (σ : jS) (x2 : Int32) (x3 : Nat) (x4 : Int32) : Option ((Int32 × jS) ⊕ (Unit × jS)) :=
  bV (x4 + 1) fun v10 =>
  some (.inl (v10, σ))
set_option maxHeartbeats 1000000 in
set_option maxRecDepth 20000 in
theorem f_X0_followPeace_J126_ok {g : Bool} {rv : Option Value} {μ' : jM} (σ : jS) (x2 : Int32) (x3 : Nat) (x4 : Int32) {Kp : ((Int32 × jS) ⊕ (Unit × jS)) → Prop} (hn : Nat.ble nX μ'.1 = true ∧ Nat.ble wX μ'.2.1 = true) (hr : ∀ (r : Unit) (s : jS), Kp (.inr ((r, s))) → rv = none ∧ μ' = eX s) (hc0 : ∀ s : (Int32 × jS), Kp (.inl s) → J yX0_followPeace cX0_followPeace 6 none 4 g rv μ' 61 [(0, .ref 4), (2, .int x2), (3, .ref x3), (4, .int s.1)] [] (eX s.2)) (o : ((Int32 × jS) ⊕ (Unit × jS))) (h : f_X0_followPeace_J126 σ x2 x3 x4 = some o) (hK : Kp o) : J yX0_followPeace cX0_followPeace 6 none 4 g rv μ' 126 [(0, .ref 4), (2, .int x2), (3, .ref x3), (4, .int x4)] [] (eX σ) := by
  unfold f_X0_followPeace_J126 at h
  replace h := bV_inv h
  obtain ⟨v11, ev11, h⟩ := h
  refine j_iinc (v := v11) [(4, .int v11), (0, .ref 4), (2, .int x2), (3, .ref x3)] 3 dX0_followPeace_126 rfl (by rw [ev11]; rfl) (Nat.le_of_ble_eq_true rfl) rfl ?_
  refine j_goto 61 dX0_followPeace_129 (by decide) ?_
  replace h := Option.some.inj h
  subst h
  refine j_sub [(0, .ref 4), (2, .int x2), (3, .ref x3), (4, .int v11)] [1, 2, 3, 0] rfl ?_
  exact hc0 _ hK
def f_X0_followPeace_B61 (σ : jS) (x2 : Int32) (x3 : Nat) (x4 : Int32) : Option ((Int32 × jS) ⊕ (Unit × jS)) :=
  if (gI σ 4 2) ≤ x4 then (jw (f_X0_followPeace_J132 σ))
  else (if 6272 ≤ x4 then (jw (f_X0_followPeace_J132 σ))
  else (bC (f_X6_at σ 13 x4) fun r6 =>
  bC (f_X0_isEnded σ r6) fun r7 =>
  if r7 = 0 then (bD (f_X0_walkOn σ r6 x2) fun r8 σ9 =>
  f_X0_followPeace_J126 σ9 x2 x3 x4)
  else (bC (f_X0_holder σ r6 0) fun r12 =>
  bC (f_X0_holder σ r6 1) fun r13 =>
  bD (f_X0_mark σ x3 r12 r13) fun r14 σ15 =>
  f_X0_followPeace_J126 σ15 x2 x3 x4)))
set_option maxHeartbeats 1000000 in
set_option maxRecDepth 20000 in
theorem f_X0_followPeace_B61_ok {g : Bool} {rv : Option Value} {μ' : jM} (σ : jS) (x2 : Int32) (x3 : Nat) (x4 : Int32) {Kp : ((Int32 × jS) ⊕ (Unit × jS)) → Prop} (hn : Nat.ble nX μ'.1 = true ∧ Nat.ble wX μ'.2.1 = true) (hr : ∀ (r : Unit) (s : jS), Kp (.inr ((r, s))) → rv = none ∧ μ' = eX s) (hc0 : ∀ s : (Int32 × jS), Kp (.inl s) → J yX0_followPeace cX0_followPeace 6 none 4 g rv μ' 61 [(0, .ref 4), (2, .int x2), (3, .ref x3), (4, .int s.1)] [] (eX s.2)) (o : ((Int32 × jS) ⊕ (Unit × jS))) (h : f_X0_followPeace_B61 σ x2 x3 x4 = some o) (hK : Kp o) : J yX0_followPeace cX0_followPeace 6 none 4 g rv μ' 61 [(0, .ref 4), (2, .int x2), (3, .ref x3), (4, .int x4)] [] (eX σ) := by
  unfold f_X0_followPeace_B61 at h
  refine j_iload 3 dX0_followPeace_61 rfl ?_
  refine j_aload_n 0 dX0_followPeace_63 rfl rfl ?_
  refine j_get (ci := 0) 2 (.int (gI σ 4 2)) jC_0 dX0_followPeace_64 kg_RX0_136 rfl (okX_4 _) (shX_4 _) (fvX_4_2 _) ?_
  refine j_icmp_ge 132 dX0_followPeace_67 (by decide) (fun hc16 => ?_) (fun hc16 => ?_)
  · replace h := jif_t hc16 h
    replace h := jw_inv h
    obtain ⟨o17, rfl, h⟩ := h
    refine j_sub [] [] rfl ?_
    exact f_X0_followPeace_J132_ok (Kp := fun o => Kp (.inr (o))) σ hn (fun r s q => hr r s q) _ h hK
  · replace h := jif_f hc16 h
    refine j_iload 3 dX0_followPeace_70 rfl ?_
    refine j_sipush (v := 6272) dX0_followPeace_72 (by decide) ?_
    refine j_icmp_ge 132 dX0_followPeace_75 (by decide) (fun hc18 => ?_) (fun hc18 => ?_)
    · replace h := jif_t hc18 h
      replace h := jw_inv h
      obtain ⟨o19, rfl, h⟩ := h
      refine j_sub [] [] rfl ?_
      exact f_X0_followPeace_J132_ok (Kp := fun o => Kp (.inr (o))) σ hn (fun r s q => hr r s q) _ h hK
    · replace h := jif_f hc18 h
      refine j_aload_n 0 dX0_followPeace_78 rfl rfl ?_
      refine j_get (ci := 0) 6 (.ref 13) jC_0 dX0_followPeace_79 kg_RX0_25 rfl (okX_4 _) (shX_4 _) (fvX_4_6 _) ?_
      refine j_iload 3 dX0_followPeace_82 rfl ?_
      replace h := bC_inv h
      obtain ⟨r20, cr20, h⟩ := h
      refine j_callS (st1 := .int r20 :: _) (c_X6_at g cr20) jy_X6_at kt_yX6_at kl_RX0_61 dX0_followPeace_84 rfl rfl rfl rfl (jbr _) (jbr _) hn.1 hn.2 (Or.inr rfl) rfl ?_
      refine j_istore [(5, .int r20), (0, .ref 4), (2, .int x2), (3, .ref x3), (4, .int x4)] dX0_followPeace_87 (Nat.le_of_ble_eq_true rfl) rfl ?_
      refine j_aload_n 1 dX0_followPeace_89 rfl rfl ?_
      refine j_iload 0 dX0_followPeace_90 rfl ?_
      replace h := bC_inv h
      obtain ⟨r21, cr21, h⟩ := h
      refine j_callV (ci := 0) (st1 := .int r21 :: _) (c_X0_isEnded g cr21) jy_X0_isEnded ki_yX0_isEnded ks_yX0_isEnded kl_RX0_68 dX0_followPeace_92 rfl (okX_4 _) (shX_4 _) rfl rfl rfl rfl (jbr _) (jbr _) hn.1 hn.2 (Or.inr rfl) rfl ?_
      refine j_if_eq 119 dX0_followPeace_95 (by decide) (fun hc22 => ?_) (fun hc22 => ?_)
      · replace h := jif_t hc22 h
        refine j_aload_n 1 dX0_followPeace_119 rfl rfl ?_
        refine j_iload 0 dX0_followPeace_120 rfl ?_
        refine j_iload_n 2 dX0_followPeace_122 rfl rfl ?_
        replace h := bD_inv h
        obtain ⟨r23, σ24, cr23, h⟩ := h
        refine j_callV (ci := 0) (st1 := _) (c_X0_walkOn g cr23) jy_X0_walkOn ki_yX0_walkOn ks_yX0_walkOn kl_RX0_188 dX0_followPeace_123 rfl (okX_4 _) (shX_4 _) rfl rfl rfl rfl (jbr _) (jbr _) hn.1 hn.2 (Or.inr rfl) rfl ?_
        refine j_sub [(0, .ref 4), (2, .int x2), (3, .ref x3), (4, .int x4)] [1, 2, 3, 4] rfl ?_
        exact f_X0_followPeace_J126_ok σ24 x2 x3 x4 hn hr hc0 _ h hK
      · replace h := jif_f hc22 h
        refine j_aload_n 3 dX0_followPeace_98 rfl rfl ?_
        refine j_aload_n 1 dX0_followPeace_99 rfl rfl ?_
        refine j_iload 0 dX0_followPeace_100 rfl ?_
        refine j_iconst (v := 0) dX0_followPeace_102 (by decide) ?_
        replace h := bC_inv h
        obtain ⟨r25, cr25, h⟩ := h
        refine j_callV (ci := 0) (st1 := .int r25 :: _) (c_X0_holder g cr25) jy_X0_holder ki_yX0_holder ks_yX0_holder kl_RX0_105 dX0_followPeace_103 rfl (okX_4 _) (shX_4 _) rfl rfl rfl rfl (jbr _) (jbr _) hn.1 hn.2 (Or.inr rfl) rfl ?_
        refine j_aload_n 1 dX0_followPeace_106 rfl rfl ?_
        refine j_iload 0 dX0_followPeace_107 rfl ?_
        refine j_iconst (v := 1) dX0_followPeace_109 (by decide) ?_
        replace h := bC_inv h
        obtain ⟨r26, cr26, h⟩ := h
        refine j_callV (ci := 0) (st1 := .int r26 :: _) (c_X0_holder g cr26) jy_X0_holder ki_yX0_holder ks_yX0_holder kl_RX0_105 dX0_followPeace_110 rfl (okX_4 _) (shX_4 _) rfl rfl rfl rfl (jbr _) (jbr _) hn.1 hn.2 (Or.inr rfl) rfl ?_
        replace h := bD_inv h
        obtain ⟨r27, σ28, cr27, h⟩ := h
        refine j_callS (st1 := _) (c_X0_mark g cr27) jy_X0_mark kt_yX0_mark kl_RX0_185 dX0_followPeace_113 rfl rfl rfl rfl (jbr _) (jbr _) hn.1 hn.2 (Or.inr rfl) rfl ?_
        refine j_goto 126 dX0_followPeace_116 (by decide) ?_
        refine j_sub [(0, .ref 4), (2, .int x2), (3, .ref x3), (4, .int x4)] [1, 2, 3, 4] rfl ?_
        exact f_X0_followPeace_J126_ok σ28 x2 x3 x4 hn hr hc0 _ h hK
def f_X0_followPeace_J48 (σ : jS) (x1 : Int32) (x2 : Int32) (x3 : Nat) : Option (Unit × jS) :=
  bV (sI σ 4 2 0) fun σ3 =>
  bD (f_X0_walkTo σ3 x1) fun r4 σ5 =>
  jloop jFuel (fun s => f_X0_followPeace_B61 s.2 x2 x3 s.1) (0, σ5)
set_option maxHeartbeats 1000000 in
set_option maxRecDepth 20000 in
theorem f_X0_followPeace_J48_ok {g : Bool} {rv : Option Value} {μ' : jM} (σ : jS) (x1 : Int32) (x2 : Int32) (x3 : Nat) {Kp : (Unit × jS) → Prop} (hn : Nat.ble nX μ'.1 = true ∧ Nat.ble wX μ'.2.1 = true) (hr : ∀ (r : Unit) (s : jS), Kp ((r, s)) → rv = none ∧ μ' = eX s) (o : (Unit × jS)) (h : f_X0_followPeace_J48 σ x1 x2 x3 = some o) (hK : Kp o) : J yX0_followPeace cX0_followPeace 6 none 4 g rv μ' 48 [(0, .ref 4), (1, .int x1), (2, .int x2), (3, .ref x3)] [] (eX σ) := by
  unfold f_X0_followPeace_J48 at h
  refine j_aload_n 0 dX0_followPeace_48 rfl rfl ?_
  refine j_iconst (v := 0) dX0_followPeace_49 (by decide) ?_
  replace h := bV_inv h
  obtain ⟨σ29, eσ29, h⟩ := h
  refine j_putI 2 jC_0 dX0_followPeace_50 kg_RX0_136 (Or.inl ff_0_2) rfl fk_0_2 (fn_0_2 _) (okX_4 _) (shX_4 _) ?_
  refine j_mem (congrArg eX eσ29) ?_
  refine j_aload_n 0 dX0_followPeace_53 rfl rfl ?_
  refine j_iload_n 1 dX0_followPeace_54 rfl rfl ?_
  replace h := bD_inv h
  obtain ⟨r30, σ31, cr30, h⟩ := h
  refine j_callV (ci := 0) (st1 := _) (c_X0_walkTo g cr30) jy_X0_walkTo ki_yX0_walkTo ks_yX0_walkTo kl_RX0_182 dX0_followPeace_55 rfl (okX_4 _) (shX_4 _) rfl rfl rfl rfl (jbr _) (jbr _) hn.1 hn.2 (Or.inr rfl) rfl ?_
  refine j_iconst (v := 0) dX0_followPeace_58 (by decide) ?_
  refine j_istore [(4, .int 0), (0, .ref 4), (1, .int x1), (2, .int x2), (3, .ref x3)] dX0_followPeace_59 (Nat.le_of_ble_eq_true rfl) rfl ?_
  refine j_sub [(0, .ref 4), (2, .int x2), (3, .ref x3), (4, .int 0)] [1, 3, 4, 0] rfl ?_
  exact jloop_ok (fun s => f_X0_followPeace_B61 s.2 x2 x3 s.1) (fun s => J yX0_followPeace cX0_followPeace 6 none 4 g rv μ' 61 [(0, .ref 4), (2, .int x2), (3, .ref x3), (4, .int s.1)] [] (eX s.2)) Kp (fun s o hb hk => f_X0_followPeace_B61_ok (Kp := jsum (fun s => J yX0_followPeace cX0_followPeace 6 none 4 g rv μ' 61 [(0, .ref 4), (2, .int x2), (3, .ref x3), (4, .int s.1)] [] (eX s.2)) Kp) s.2 x2 x3 s.1 hn (fun r s q => hr r s q) (fun s q => q) o hb hk) jFuel _ _ h hK
def f_X0_followPeace_B8 (σ : jS) (x1 : Int32) (x2 : Int32) (x3 : Nat) (x4 : Int32) : Option ((Int32 × jS) ⊕ (Unit × jS)) :=
  if (gI σ 4 1) ≤ x4 then (jw (f_X0_followPeace_J48 σ x1 x2 x3))
  else (if 6272 ≤ x4 then (jw (f_X0_followPeace_J48 σ x1 x2 x3))
  else (bC (f_X6_at σ 12 x4) fun r32 =>
  bD (f_X6_put σ 15 r32 0) fun r33 σ34 =>
  bV (x4 + 1) fun v35 =>
  some (.inl (v35, σ34))))
set_option maxHeartbeats 1000000 in
set_option maxRecDepth 20000 in
theorem f_X0_followPeace_B8_ok {g : Bool} {rv : Option Value} {μ' : jM} (σ : jS) (x1 : Int32) (x2 : Int32) (x3 : Nat) (x4 : Int32) {Kp : ((Int32 × jS) ⊕ (Unit × jS)) → Prop} (hn : Nat.ble nX μ'.1 = true ∧ Nat.ble wX μ'.2.1 = true) (hr : ∀ (r : Unit) (s : jS), Kp (.inr ((r, s))) → rv = none ∧ μ' = eX s) (hc0 : ∀ s : (Int32 × jS), Kp (.inl s) → J yX0_followPeace cX0_followPeace 6 none 4 g rv μ' 8 [(0, .ref 4), (1, .int x1), (2, .int x2), (3, .ref x3), (4, .int s.1)] [] (eX s.2)) (o : ((Int32 × jS) ⊕ (Unit × jS))) (h : f_X0_followPeace_B8 σ x1 x2 x3 x4 = some o) (hK : Kp o) : J yX0_followPeace cX0_followPeace 6 none 4 g rv μ' 8 [(0, .ref 4), (1, .int x1), (2, .int x2), (3, .ref x3), (4, .int x4)] [] (eX σ) := by
  unfold f_X0_followPeace_B8 at h
  refine j_iload 4 dX0_followPeace_8 rfl ?_
  refine j_aload_n 0 dX0_followPeace_10 rfl rfl ?_
  refine j_get (ci := 0) 1 (.int (gI σ 4 1)) jC_0 dX0_followPeace_11 kg_RX0_129 rfl (okX_4 _) (shX_4 _) (fvX_4_1 _) ?_
  refine j_icmp_ge 48 dX0_followPeace_14 (by decide) (fun hc36 => ?_) (fun hc36 => ?_)
  · replace h := jif_t hc36 h
    replace h := jw_inv h
    obtain ⟨o37, rfl, h⟩ := h
    refine j_sub [(0, .ref 4), (1, .int x1), (2, .int x2), (3, .ref x3)] [0, 1, 2, 3] rfl ?_
    exact f_X0_followPeace_J48_ok (Kp := fun o => Kp (.inr (o))) σ x1 x2 x3 hn (fun r s q => hr r s q) _ h hK
  · replace h := jif_f hc36 h
    refine j_iload 4 dX0_followPeace_17 rfl ?_
    refine j_sipush (v := 6272) dX0_followPeace_19 (by decide) ?_
    refine j_icmp_ge 48 dX0_followPeace_22 (by decide) (fun hc38 => ?_) (fun hc38 => ?_)
    · replace h := jif_t hc38 h
      replace h := jw_inv h
      obtain ⟨o39, rfl, h⟩ := h
      refine j_sub [(0, .ref 4), (1, .int x1), (2, .int x2), (3, .ref x3)] [0, 1, 2, 3] rfl ?_
      exact f_X0_followPeace_J48_ok (Kp := fun o => Kp (.inr (o))) σ x1 x2 x3 hn (fun r s q => hr r s q) _ h hK
    · replace h := jif_f hc38 h
      refine j_aload_n 0 dX0_followPeace_25 rfl rfl ?_
      refine j_get (ci := 0) 8 (.ref 15) jC_0 dX0_followPeace_26 kg_RX0_31 rfl (okX_4 _) (shX_4 _) (fvX_4_8 _) ?_
      refine j_aload_n 0 dX0_followPeace_29 rfl rfl ?_
      refine j_get (ci := 0) 5 (.ref 12) jC_0 dX0_followPeace_30 kg_RX0_22 rfl (okX_4 _) (shX_4 _) (fvX_4_5 _) ?_
      refine j_iload 4 dX0_followPeace_33 rfl ?_
      replace h := bC_inv h
      obtain ⟨r40, cr40, h⟩ := h
      refine j_callS (st1 := .int r40 :: _) (c_X6_at g cr40) jy_X6_at kt_yX6_at kl_RX0_61 dX0_followPeace_35 rfl rfl rfl rfl (jbr _) (jbr _) hn.1 hn.2 (Or.inr rfl) rfl ?_
      refine j_iconst (v := 0) dX0_followPeace_38 (by decide) ?_
      replace h := bD_inv h
      obtain ⟨r41, σ42, cr41, h⟩ := h
      refine j_callS (st1 := _) (c_X6_put g cr41) jy_X6_put kt_yX6_put kl_RX0_146 dX0_followPeace_39 rfl rfl rfl rfl (jbr _) (jbr _) hn.1 hn.2 (Or.inr rfl) rfl ?_
      replace h := bV_inv h
      obtain ⟨v43, ev43, h⟩ := h
      refine j_iinc (v := v43) [(4, .int v43), (0, .ref 4), (1, .int x1), (2, .int x2), (3, .ref x3)] 4 dX0_followPeace_42 rfl (by rw [ev43]; rfl) (Nat.le_of_ble_eq_true rfl) rfl ?_
      refine j_goto 8 dX0_followPeace_45 (by decide) ?_
      replace h := Option.some.inj h
      subst h
      refine j_sub [(0, .ref 4), (1, .int x1), (2, .int x2), (3, .ref x3), (4, .int v43)] [1, 2, 3, 4, 0] rfl ?_
      exact hc0 _ hK
def f_X0_followPeace (σ : jS) (x1 : Int32) (x2 : Int32) (x3 : Nat) : Option (Unit × jS) :=
  bD (f_X6_fill σ x3 0) fun r1 σ2 =>
  jloop jFuel (fun s => f_X0_followPeace_B8 s.2 x1 x2 x3 s.1) (0, σ2)
set_option maxHeartbeats 1000000 in
set_option maxRecDepth 20000 in
theorem f_X0_followPeace_ok {g : Bool} {rv : Option Value} {μ' : jM} (σ : jS) (x1 : Int32) (x2 : Int32) (x3 : Nat) {Kp : (Unit × jS) → Prop} (hn : Nat.ble nX μ'.1 = true ∧ Nat.ble wX μ'.2.1 = true) (hr : ∀ (r : Unit) (s : jS), Kp ((r, s)) → rv = none ∧ μ' = eX s) (o : (Unit × jS)) (h : f_X0_followPeace σ x1 x2 x3 = some o) (hK : Kp o) : J yX0_followPeace cX0_followPeace 6 none 4 g rv μ' 0 [(0, .ref 4), (1, .int x1), (2, .int x2), (3, .ref x3)] [] (eX σ) := by
  unfold f_X0_followPeace at h
  refine j_aload_n 3 dX0_followPeace_0 rfl rfl ?_
  refine j_iconst (v := 0) dX0_followPeace_1 (by decide) ?_
  replace h := bD_inv h
  obtain ⟨r44, σ45, cr44, h⟩ := h
  refine j_callS (st1 := _) (c_X6_fill g cr44) jy_X6_fill kt_yX6_fill kl_RX0_153 dX0_followPeace_2 rfl rfl rfl rfl (jbr _) (jbr _) hn.1 hn.2 (Or.inr rfl) rfl ?_
  refine j_iconst (v := 0) dX0_followPeace_5 (by decide) ?_
  refine j_istore [(4, .int 0), (0, .ref 4), (1, .int x1), (2, .int x2), (3, .ref x3)] dX0_followPeace_6 (Nat.le_of_ble_eq_true rfl) rfl ?_
  refine j_sub [(0, .ref 4), (1, .int x1), (2, .int x2), (3, .ref x3), (4, .int 0)] [1, 2, 3, 4, 0] rfl ?_
  exact jloop_ok (fun s => f_X0_followPeace_B8 s.2 x1 x2 x3 s.1) (fun s => J yX0_followPeace cX0_followPeace 6 none 4 g rv μ' 8 [(0, .ref 4), (1, .int x1), (2, .int x2), (3, .ref x3), (4, .int s.1)] [] (eX s.2)) Kp (fun s o hb hk => f_X0_followPeace_B8_ok (Kp := jsum (fun s => J yX0_followPeace cX0_followPeace 6 none 4 g rv μ' 8 [(0, .ref 4), (1, .int x1), (2, .int x2), (3, .ref x3), (4, .int s.1)] [] (eX s.2)) Kp) s.2 x1 x2 x3 s.1 hn (fun r s q => hr r s q) (fun s q => q) o hb hk) jFuel _ _ h hK
theorem c_X0_followPeace (g : Bool) {σ : jS} {x1 : Int32} {x2 : Int32} {x3 : Nat} {r : Unit} {σ2 : jS} (h : f_X0_followPeace σ x1 x2 x3 = some (r, σ2)) : Cn yX0_followPeace cX0_followPeace 6 none 4 g [.ref 4, .int x1, .int x2, .ref x3] (eX σ) none (eX σ2) :=
  Cn_of (by decide) (Nat.le_refl _) (Nat.le_refl _) (Nat.le_of_ble_eq_true rfl) (f_X0_followPeace_ok (Kp := (fun o => o = (r, σ2))) σ x1 x2 x3 ⟨jbr _, jbr _⟩ (fun r2 s2 q => by cases q; exact ⟨rfl, rfl⟩) _ h rfl)
def f_X2_isAhead_J54 (σ : jS) (y0 : Int32) : Option Int32 :=
  bG (jb y0) (
  some (y0))
set_option maxHeartbeats 1000000 in
set_option maxRecDepth 20000 in
theorem f_X2_isAhead_J54_ok {g : Bool} {rv : Option Value} {μ' : jM} (σ : jS) (y0 : Int32) {Kp : Int32 → Prop} (hn : Nat.ble nX μ'.1 = true ∧ Nat.ble wX μ'.2.1 = true) (hr : ∀ r : Int32, Kp (r) → rv = some (.int r) ∧ μ' = (eX σ)) (o : Int32) (h : f_X2_isAhead_J54 σ y0 = some o) (hK : Kp o) : J yX2_isAhead cX2_isAhead 4 (some .boolean) 2 g rv μ' 54 [] [.int y0] (eX σ) := by
  unfold f_X2_isAhead_J54 at h
  replace h := bG_inv h
  obtain ⟨hb, h⟩ := h
  replace h := Option.some.inj h
  subst h
  obtain ⟨hr1, hr2⟩ := hr _ hK
  exact j_zret (jb_nar hb) dX2_isAhead_54 hr1 hr2
def f_X2_isAhead_J53 (σ : jS) : Option Int32 :=
  f_X2_isAhead_J54 σ 0
set_option maxHeartbeats 1000000 in
set_option maxRecDepth 20000 in
theorem f_X2_isAhead_J53_ok {g : Bool} {rv : Option Value} {μ' : jM} (σ : jS) {Kp : Int32 → Prop} (hn : Nat.ble nX μ'.1 = true ∧ Nat.ble wX μ'.2.1 = true) (hr : ∀ r : Int32, Kp (r) → rv = some (.int r) ∧ μ' = (eX σ)) (o : Int32) (h : f_X2_isAhead_J53 σ = some o) (hK : Kp o) : J yX2_isAhead cX2_isAhead 4 (some .boolean) 2 g rv μ' 53 [] [] (eX σ) := by
  unfold f_X2_isAhead_J53 at h
  refine j_iconst (v := 0) dX2_isAhead_53 (by decide) ?_
  exact f_X2_isAhead_J54_ok σ 0 hn hr _ h hK
def f_X2_isAhead_J49 (σ : jS) : Option Int32 :=
  f_X2_isAhead_J54 σ 1
set_option maxHeartbeats 1000000 in
set_option maxRecDepth 20000 in
theorem f_X2_isAhead_J49_ok {g : Bool} {rv : Option Value} {μ' : jM} (σ : jS) {Kp : Int32 → Prop} (hn : Nat.ble nX μ'.1 = true ∧ Nat.ble wX μ'.2.1 = true) (hr : ∀ r : Int32, Kp (r) → rv = some (.int r) ∧ μ' = (eX σ)) (o : Int32) (h : f_X2_isAhead_J49 σ = some o) (hK : Kp o) : J yX2_isAhead cX2_isAhead 4 (some .boolean) 2 g rv μ' 49 [] [] (eX σ) := by
  unfold f_X2_isAhead_J49 at h
  refine j_iconst (v := 1) dX2_isAhead_49 (by decide) ?_
  refine j_goto 54 dX2_isAhead_50 (by decide) ?_
  exact f_X2_isAhead_J54_ok σ 1 hn hr _ h hK
def f_X2_isAhead (σ : jS) (x1 : Int32) (x2 : Int32) : Option Int32 :=
  if (gI σ 20 0) = (-1) then (some (1))
  else (bV (if x2 < x1 then x2 else x1) fun v1 =>
  if x1 = (-1) then (f_X2_isAhead_J53 σ)
  else (if v1 < (gI σ 20 1) then (f_X2_isAhead_J49 σ)
  else (if v1 = (gI σ 20 1) then (if (gI σ 20 2) ≤ (if x1 < x2 then x2 else x1) then (f_X2_isAhead_J53 σ)
  else (f_X2_isAhead_J49 σ))
  else (f_X2_isAhead_J53 σ))))
set_option maxHeartbeats 1000000 in
set_option maxRecDepth 20000 in
theorem f_X2_isAhead_ok {g : Bool} {rv : Option Value} {μ' : jM} (σ : jS) (x1 : Int32) (x2 : Int32) {Kp : Int32 → Prop} (hn : Nat.ble nX μ'.1 = true ∧ Nat.ble wX μ'.2.1 = true) (hr : ∀ r : Int32, Kp (r) → rv = some (.int r) ∧ μ' = (eX σ)) (o : Int32) (h : f_X2_isAhead σ x1 x2 = some o) (hK : Kp o) : J yX2_isAhead cX2_isAhead 4 (some .boolean) 2 g rv μ' 0 [(0, .ref 20), (1, .int x1), (2, .int x2)] [] (eX σ) := by
  unfold f_X2_isAhead at h
  refine j_aload_n 0 dX2_isAhead_0 rfl rfl ?_
  refine j_get (ci := 2) 0 (.int (gI σ 20 0)) jC_2 dX2_isAhead_1 kg_RX2_25 rfl (okX_20 _) (shX_20 _) (fvX_20_0 _) ?_
  refine j_iconst (v := (-1)) dX2_isAhead_4 (by decide) ?_
  refine j_icmp_ne 10 dX2_isAhead_5 (by decide) (fun hc2 => ?_) (fun hc2 => ?_)
  · replace h := jif_f hc2 h
    refine j_iload_n 1 dX2_isAhead_10 rfl rfl ?_
    refine j_iload_n 2 dX2_isAhead_11 rfl rfl ?_
    refine j_mmin kl_RX2_67 kt_yJ9_min_7cf53 kz_RJ9 kc_yJ9_min_7cf53 dX2_isAhead_12 rfl rfl hn.1 hn.2 ?_
    replace h := bV_inv h
    obtain ⟨v3, ev3, h⟩ := h
    refine j_nmi ev3 ?_
    refine j_istore_n [(3, .int v3), (0, .ref 20), (1, .int x1), (2, .int x2)] dX2_isAhead_15 rfl (Nat.le_of_ble_eq_true rfl) rfl ?_
    refine j_iload_n 2 dX2_isAhead_16 rfl rfl ?_
    refine j_iconst (v := (-1)) dX2_isAhead_17 (by decide) ?_
    refine j_icmp_eq 53 dX2_isAhead_18 (by decide) (fun hc4 => ?_) (fun hc4 => ?_)
    · replace h := jif_t hc4 h
      refine j_sub [] [] rfl ?_
      exact f_X2_isAhead_J53_ok σ hn hr _ h hK
    · replace h := jif_f hc4 h
      refine j_iload_n 0 dX2_isAhead_21 rfl rfl ?_
      refine j_aload_n 1 dX2_isAhead_22 rfl rfl ?_
      refine j_get (ci := 2) 1 (.int (gI σ 20 1)) jC_2 dX2_isAhead_23 kg_RX2_18 rfl (okX_20 _) (shX_20 _) (fvX_20_1 _) ?_
      refine j_icmp_lt 49 dX2_isAhead_26 (by decide) (fun hc5 => ?_) (fun hc5 => ?_)
      · replace h := jif_t hc5 h
        refine j_sub [] [] rfl ?_
        exact f_X2_isAhead_J49_ok σ hn hr _ h hK
      · replace h := jif_f hc5 h
        refine j_iload_n 0 dX2_isAhead_29 rfl rfl ?_
        refine j_aload_n 1 dX2_isAhead_30 rfl rfl ?_
        refine j_get (ci := 2) 1 (.int (gI σ 20 1)) jC_2 dX2_isAhead_31 kg_RX2_18 rfl (okX_20 _) (shX_20 _) (fvX_20_1 _) ?_
        refine j_icmp_ne 53 dX2_isAhead_34 (by decide) (fun hc6 => ?_) (fun hc6 => ?_)
        · replace h := jif_f hc6 h
          refine j_sub [] [] rfl ?_
          exact f_X2_isAhead_J53_ok σ hn hr _ h hK
        · replace h := jif_t hc6 h
          refine j_iload_n 2 dX2_isAhead_37 rfl rfl ?_
          refine j_iload_n 3 dX2_isAhead_38 rfl rfl ?_
          refine j_mmax kl_RX2_73 kt_yJ9_max_7cf53 kz_RJ9 kc_yJ9_max_7cf53 dX2_isAhead_39 rfl rfl hn.1 hn.2 ?_
          refine j_aload_n 1 dX2_isAhead_42 rfl rfl ?_
          refine j_get (ci := 2) 2 (.int (gI σ 20 2)) jC_2 dX2_isAhead_43 kg_RX2_22 rfl (okX_20 _) (shX_20 _) (fvX_20_2 _) ?_
          refine j_icmp_ge 53 dX2_isAhead_46 (by decide) (fun hc7 => ?_) (fun hc7 => ?_)
          · replace h := jif_t hc7 h
            refine j_sub [] [] rfl ?_
            exact f_X2_isAhead_J53_ok σ hn hr _ h hK
          · replace h := jif_f hc7 h
            refine j_sub [] [] rfl ?_
            exact f_X2_isAhead_J49_ok σ hn hr _ h hK
  · replace h := jif_t hc2 h
    refine j_iconst (v := 1) dX2_isAhead_8 (by decide) ?_
    replace h := Option.some.inj h
    subst h
    obtain ⟨hr1, hr2⟩ := hr _ hK
    exact j_zret rfl dX2_isAhead_9 hr1 hr2
theorem c_X2_isAhead (g : Bool) {σ : jS} {x1 : Int32} {x2 : Int32} {r : Int32} (h : f_X2_isAhead σ x1 x2 = some r) : Cn yX2_isAhead cX2_isAhead 4 (some .boolean) 2 g [.ref 20, .int x1, .int x2] (eX σ) (some (.int r)) (eX σ) :=
  Cn_of (by decide) (Nat.le_refl _) (Nat.le_refl _) (Nat.le_of_ble_eq_true rfl) (f_X2_isAhead_ok (Kp := (fun o => o = r)) σ x1 x2 ⟨jbr _, jbr _⟩ (fun r2 q => by cases q; exact ⟨rfl, rfl⟩) _ h rfl)
def f_X2_take_J47 (σ : jS) (y0 : Int32) : Option (Unit × jS) :=
  bV (sI σ 20 2 y0) fun σ3 =>
  some (((), σ3))
set_option maxHeartbeats 1000000 in
set_option maxRecDepth 20000 in
theorem f_X2_take_J47_ok {g : Bool} {rv : Option Value} {μ' : jM} (σ : jS) (y0 : Int32) {Kp : (Unit × jS) → Prop} (hn : Nat.ble nX μ'.1 = true ∧ Nat.ble wX μ'.2.1 = true) (hr : ∀ (r : Unit) (s : jS), Kp ((r, s)) → rv = none ∧ μ' = eX s) (o : (Unit × jS)) (h : f_X2_take_J47 σ y0 = some o) (hK : Kp o) : J yX2_take cX2_take 3 none 2 g rv μ' 47 [] [.int y0, .ref 20] (eX σ) := by
  unfold f_X2_take_J47 at h
  replace h := bV_inv h
  obtain ⟨σ4, eσ4, h⟩ := h
  refine j_putI 2 jC_2 dX2_take_47 kg_RX2_22 (Or.inl ff_2_2) rfl fk_2_2 (fn_2_2 _) (okX_20 _) (shX_20 _) ?_
  refine j_mem (congrArg eX eσ4) ?_
  replace h := Option.some.inj h
  subst h
  obtain ⟨hr1, hr2⟩ := hr _ _ hK
  exact j_vret dX2_take_50 hr1 hr2
def f_X2_take_J29 (σ : jS) (x1 : Int32) (x2 : Int32) (y0 : Int32) : Option (Unit × jS) :=
  bV (sI σ 20 1 y0) fun σ2 =>
  if x1 = (-1) then (f_X2_take_J47 σ2 (-1))
  else (f_X2_take_J47 σ2 (if x1 < x2 then x2 else x1))
set_option maxHeartbeats 1000000 in
set_option maxRecDepth 20000 in
theorem f_X2_take_J29_ok {g : Bool} {rv : Option Value} {μ' : jM} (σ : jS) (x1 : Int32) (x2 : Int32) (y0 : Int32) {Kp : (Unit × jS) → Prop} (hn : Nat.ble nX μ'.1 = true ∧ Nat.ble wX μ'.2.1 = true) (hr : ∀ (r : Unit) (s : jS), Kp ((r, s)) → rv = none ∧ μ' = eX s) (o : (Unit × jS)) (h : f_X2_take_J29 σ x1 x2 y0 = some o) (hK : Kp o) : J yX2_take cX2_take 3 none 2 g rv μ' 29 [(0, .ref 20), (1, .int x1), (2, .int x2)] [.int y0, .ref 20] (eX σ) := by
  unfold f_X2_take_J29 at h
  replace h := bV_inv h
  obtain ⟨σ5, eσ5, h⟩ := h
  refine j_putI 1 jC_2 dX2_take_29 kg_RX2_18 (Or.inl ff_2_1) rfl fk_2_1 (fn_2_1 _) (okX_20 _) (shX_20 _) ?_
  refine j_mem (congrArg eX eσ5) ?_
  refine j_aload_n 0 dX2_take_32 rfl rfl ?_
  refine j_iload_n 1 dX2_take_33 rfl rfl ?_
  refine j_iconst (v := (-1)) dX2_take_34 (by decide) ?_
  refine j_icmp_ne 42 dX2_take_35 (by decide) (fun hc6 => ?_) (fun hc6 => ?_)
  · replace h := jif_f hc6 h
    refine j_iload_n 1 dX2_take_42 rfl rfl ?_
    refine j_iload_n 2 dX2_take_43 rfl rfl ?_
    refine j_mmax kl_RX2_73 kt_yJ9_max_7cf53 kz_RJ9 kc_yJ9_max_7cf53 dX2_take_44 rfl rfl hn.1 hn.2 ?_
    refine j_sub [] [] rfl ?_
    exact f_X2_take_J47_ok σ5 (if x1 < x2 then x2 else x1) hn hr _ h hK
  · replace h := jif_t hc6 h
    refine j_iconst (v := (-1)) dX2_take_38 (by decide) ?_
    refine j_goto 47 dX2_take_39 (by decide) ?_
    refine j_sub [] [] rfl ?_
    exact f_X2_take_J47_ok σ5 (-1) hn hr _ h hK
def f_X2_take_J11 (σ : jS) (x1 : Int32) (x2 : Int32) (y0 : Int32) : Option (Unit × jS) :=
  bV (sI σ 20 0 y0) fun σ1 =>
  if x1 = (-1) then (f_X2_take_J29 σ1 x1 x2 x2)
  else (f_X2_take_J29 σ1 x1 x2 (if x2 < x1 then x2 else x1))
set_option maxHeartbeats 1000000 in
set_option maxRecDepth 20000 in
theorem f_X2_take_J11_ok {g : Bool} {rv : Option Value} {μ' : jM} (σ : jS) (x1 : Int32) (x2 : Int32) (y0 : Int32) {Kp : (Unit × jS) → Prop} (hn : Nat.ble nX μ'.1 = true ∧ Nat.ble wX μ'.2.1 = true) (hr : ∀ (r : Unit) (s : jS), Kp ((r, s)) → rv = none ∧ μ' = eX s) (o : (Unit × jS)) (h : f_X2_take_J11 σ x1 x2 y0 = some o) (hK : Kp o) : J yX2_take cX2_take 3 none 2 g rv μ' 11 [(0, .ref 20), (1, .int x1), (2, .int x2)] [.int y0, .ref 20] (eX σ) := by
  unfold f_X2_take_J11 at h
  replace h := bV_inv h
  obtain ⟨σ7, eσ7, h⟩ := h
  refine j_putI 0 jC_2 dX2_take_11 kg_RX2_25 (Or.inl ff_2_0) rfl fk_2_0 (fn_2_0 _) (okX_20 _) (shX_20 _) ?_
  refine j_mem (congrArg eX eσ7) ?_
  refine j_aload_n 0 dX2_take_14 rfl rfl ?_
  refine j_iload_n 1 dX2_take_15 rfl rfl ?_
  refine j_iconst (v := (-1)) dX2_take_16 (by decide) ?_
  refine j_icmp_ne 24 dX2_take_17 (by decide) (fun hc8 => ?_) (fun hc8 => ?_)
  · replace h := jif_f hc8 h
    refine j_iload_n 1 dX2_take_24 rfl rfl ?_
    refine j_iload_n 2 dX2_take_25 rfl rfl ?_
    refine j_mmin kl_RX2_67 kt_yJ9_min_7cf53 kz_RJ9 kc_yJ9_min_7cf53 dX2_take_26 rfl rfl hn.1 hn.2 ?_
    exact f_X2_take_J29_ok σ7 x1 x2 (if x2 < x1 then x2 else x1) hn hr _ h hK
  · replace h := jif_t hc8 h
    refine j_iload_n 2 dX2_take_20 rfl rfl ?_
    refine j_goto 29 dX2_take_21 (by decide) ?_
    exact f_X2_take_J29_ok σ7 x1 x2 x2 hn hr _ h hK
def f_X2_take (σ : jS) (x1 : Int32) (x2 : Int32) : Option (Unit × jS) :=
  if x1 = (-1) then (f_X2_take_J11 σ x1 x2 1)
  else (f_X2_take_J11 σ x1 x2 2)
set_option maxHeartbeats 1000000 in
set_option maxRecDepth 20000 in
theorem f_X2_take_ok {g : Bool} {rv : Option Value} {μ' : jM} (σ : jS) (x1 : Int32) (x2 : Int32) {Kp : (Unit × jS) → Prop} (hn : Nat.ble nX μ'.1 = true ∧ Nat.ble wX μ'.2.1 = true) (hr : ∀ (r : Unit) (s : jS), Kp ((r, s)) → rv = none ∧ μ' = eX s) (o : (Unit × jS)) (h : f_X2_take σ x1 x2 = some o) (hK : Kp o) : J yX2_take cX2_take 3 none 2 g rv μ' 0 [(0, .ref 20), (1, .int x1), (2, .int x2)] [] (eX σ) := by
  unfold f_X2_take at h
  refine j_aload_n 0 dX2_take_0 rfl rfl ?_
  refine j_iload_n 1 dX2_take_1 rfl rfl ?_
  refine j_iconst (v := (-1)) dX2_take_2 (by decide) ?_
  refine j_icmp_ne 10 dX2_take_3 (by decide) (fun hc9 => ?_) (fun hc9 => ?_)
  · replace h := jif_f hc9 h
    refine j_iconst (v := 2) dX2_take_10 (by decide) ?_
    exact f_X2_take_J11_ok σ x1 x2 2 hn hr _ h hK
  · replace h := jif_t hc9 h
    refine j_iconst (v := 1) dX2_take_6 (by decide) ?_
    refine j_goto 11 dX2_take_7 (by decide) ?_
    exact f_X2_take_J11_ok σ x1 x2 1 hn hr _ h hK
theorem c_X2_take (g : Bool) {σ : jS} {x1 : Int32} {x2 : Int32} {r : Unit} {σ2 : jS} (h : f_X2_take σ x1 x2 = some (r, σ2)) : Cn yX2_take cX2_take 3 none 2 g [.ref 20, .int x1, .int x2] (eX σ) none (eX σ2) :=
  Cn_of (by decide) (Nat.le_refl _) (Nat.le_refl _) (Nat.le_of_ble_eq_true rfl) (f_X2_take_ok (Kp := (fun o => o = (r, σ2))) σ x1 x2 ⟨jbr _, jbr _⟩ (fun r2 s2 q => by cases q; exact ⟨rfl, rfl⟩) _ h rfl)
def f_X2_toggle_J17 (σ : jS) : Option (Unit × jS) :=
  some (((), σ))
set_option maxHeartbeats 1000000 in
set_option maxRecDepth 20000 in
theorem f_X2_toggle_J17_ok {g : Bool} {rv : Option Value} {μ' : jM} (σ : jS) {Kp : (Unit × jS) → Prop} (hn : Nat.ble nX μ'.1 = true ∧ Nat.ble wX μ'.2.1 = true) (hr : ∀ (r : Unit) (s : jS), Kp ((r, s)) → rv = none ∧ μ' = eX s) (o : (Unit × jS)) (h : f_X2_toggle_J17 σ = some o) (hK : Kp o) : J yX2_toggle cX2_toggle 2 none 4 g rv μ' 17 [] [] (eX σ) := by
  unfold f_X2_toggle_J17 at h
  replace h := Option.some.inj h
  subst h
  obtain ⟨hr1, hr2⟩ := hr _ _ hK
  exact j_vret dX2_toggle_17 hr1 hr2
def f_X2_toggle (σ : jS) (x1 : Int32) : Option (Unit × jS) :=
  if x1 = (-1) then (f_X2_toggle_J17 σ)
  else (bD (f_X0_toggleFoes σ (x1 / (16 : Int32)) (x1 - x1 / (16 : Int32) * (16 : Int32))) fun r1 σ2 =>
  f_X2_toggle_J17 σ2)
set_option maxHeartbeats 1000000 in
set_option maxRecDepth 20000 in
theorem f_X2_toggle_ok {g : Bool} {rv : Option Value} {μ' : jM} (σ : jS) (x1 : Int32) {Kp : (Unit × jS) → Prop} (hn : Nat.ble nX μ'.1 = true ∧ Nat.ble wX μ'.2.1 = true) (hr : ∀ (r : Unit) (s : jS), Kp ((r, s)) → rv = none ∧ μ' = eX s) (o : (Unit × jS)) (h : f_X2_toggle σ x1 = some o) (hK : Kp o) : J yX2_toggle cX2_toggle 2 none 4 g rv μ' 0 [(0, .ref 4), (1, .int x1)] [] (eX σ) := by
  unfold f_X2_toggle at h
  refine j_iload_n 1 dX2_toggle_0 rfl rfl ?_
  refine j_iconst (v := (-1)) dX2_toggle_1 (by decide) ?_
  refine j_icmp_eq 17 dX2_toggle_2 (by decide) (fun hc3 => ?_) (fun hc3 => ?_)
  · replace h := jif_t hc3 h
    refine j_sub [] [] rfl ?_
    exact f_X2_toggle_J17_ok σ hn hr _ h hK
  · replace h := jif_f hc3 h
    refine j_aload_n 0 dX2_toggle_5 rfl rfl ?_
    refine j_iload_n 1 dX2_toggle_6 rfl rfl ?_
    refine j_bipush (v := 16) dX2_toggle_7 (by decide) ?_
    refine j_idiv dX2_toggle_9 (by decide) ?_
    refine j_iload_n 1 dX2_toggle_10 rfl rfl ?_
    refine j_bipush (v := 16) dX2_toggle_11 (by decide) ?_
    refine j_irem dX2_toggle_13 (by decide) ?_
    replace h := bD_inv h
    obtain ⟨r4, σ5, cr4, h⟩ := h
    refine j_callV (ci := 0) (st1 := _) (c_X0_toggleFoes g cr4) jy_X0_toggleFoes ki_yX0_toggleFoes ks_yX0_toggleFoes kl_RX2_48 dX2_toggle_14 rfl (okX_4 _) (shX_4 _) rfl rfl rfl rfl (jbr _) (jbr _) hn.1 hn.2 (Or.inr rfl) rfl ?_
    refine j_sub [] [] rfl ?_
    exact f_X2_toggle_J17_ok σ5 hn hr _ h hK
theorem c_X2_toggle (g : Bool) {σ : jS} {x1 : Int32} {r : Unit} {σ2 : jS} (h : f_X2_toggle σ x1 = some (r, σ2)) : Cn yX2_toggle cX2_toggle 2 none 4 g [.ref 4, .int x1] (eX σ) none (eX σ2) :=
  Cn_of (by decide) (Nat.le_refl _) (Nat.le_refl _) (Nat.le_of_ble_eq_true rfl) (f_X2_toggle_ok (Kp := (fun o => o = (r, σ2))) σ x1 ⟨jbr _, jbr _⟩ (fun r2 s2 q => by cases q; exact ⟨rfl, rfl⟩) _ h rfl)
def f_X2_seekBesides_J132 (σ : jS) (x4 : Int32) : Option (Unit × jS) :=
  bD (f_X2_toggle σ x4) fun r7 σ8 =>
  some (((), σ8))
set_option maxHeartbeats 1000000 in
set_option maxRecDepth 20000 in
theorem f_X2_seekBesides_J132_ok {g : Bool} {rv : Option Value} {μ' : jM} (σ : jS) (x4 : Int32) {Kp : (Unit × jS) → Prop} (hn : Nat.ble nX μ'.1 = true ∧ Nat.ble wX μ'.2.1 = true) (hr : ∀ (r : Unit) (s : jS), Kp ((r, s)) → rv = none ∧ μ' = eX s) (o : (Unit × jS)) (h : f_X2_seekBesides_J132 σ x4 = some o) (hK : Kp o) : J yX2_seekBesides cX2_seekBesides 7 none 6 g rv μ' 132 [(1, .ref 4), (4, .int x4)] [] (eX σ) := by
  unfold f_X2_seekBesides_J132 at h
  refine j_aload_n 0 dX2_seekBesides_132 rfl rfl ?_
  refine j_iload 1 dX2_seekBesides_133 rfl ?_
  replace h := bD_inv h
  obtain ⟨r9, σ10, cr9, h⟩ := h
  refine j_callS (st1 := _) (c_X2_toggle g cr9) jy_X2_toggle kt_yX2_toggle kl_RX2_52 dX2_seekBesides_135 rfl rfl rfl rfl (jbr _) (jbr _) hn.1 hn.2 (Or.inr rfl) rfl ?_
  replace h := Option.some.inj h
  subst h
  obtain ⟨hr1, hr2⟩ := hr _ _ hK
  exact j_vret dX2_seekBesides_138 hr1 hr2
def f_X2_seekBesides_J126 (σ : jS) (x2 : Int32) (x3 : Int32) (x4 : Int32) (x5 : Nat) (x6 : Int32) : Option ((Int32 × jS) ⊕ (Unit × jS)) :=
  bV (x6 + 1) fun v12 =>
  some (.inl (v12, σ))
set_option maxHeartbeats 1000000 in
set_option maxRecDepth 20000 in
theorem f_X2_seekBesides_J126_ok {g : Bool} {rv : Option Value} {μ' : jM} (σ : jS) (x2 : Int32) (x3 : Int32) (x4 : Int32) (x5 : Nat) (x6 : Int32) {Kp : ((Int32 × jS) ⊕ (Unit × jS)) → Prop} (hn : Nat.ble nX μ'.1 = true ∧ Nat.ble wX μ'.2.1 = true) (hr : ∀ (r : Unit) (s : jS), Kp (.inr ((r, s))) → rv = none ∧ μ' = eX s) (hc0 : ∀ s : (Int32 × jS), Kp (.inl s) → J yX2_seekBesides cX2_seekBesides 7 none 6 g rv μ' 44 [(0, .ref 20), (1, .ref 4), (2, .int x2), (3, .int x3), (4, .int x4), (5, .ref x5), (6, .int s.1)] [] (eX s.2)) (o : ((Int32 × jS) ⊕ (Unit × jS))) (h : f_X2_seekBesides_J126 σ x2 x3 x4 x5 x6 = some o) (hK : Kp o) : J yX2_seekBesides cX2_seekBesides 7 none 6 g rv μ' 126 [(0, .ref 20), (1, .ref 4), (2, .int x2), (3, .int x3), (4, .int x4), (5, .ref x5), (6, .int x6)] [] (eX σ) := by
  unfold f_X2_seekBesides_J126 at h
  replace h := bV_inv h
  obtain ⟨v13, ev13, h⟩ := h
  refine j_iinc (v := v13) [(6, .int v13), (0, .ref 20), (1, .ref 4), (2, .int x2), (3, .int x3), (4, .int x4), (5, .ref x5)] 6 dX2_seekBesides_126 rfl (by rw [ev13]; rfl) (Nat.le_of_ble_eq_true rfl) rfl ?_
  refine j_goto 44 dX2_seekBesides_129 (by decide) ?_
  replace h := Option.some.inj h
  subst h
  refine j_sub [(0, .ref 20), (1, .ref 4), (2, .int x2), (3, .int x3), (4, .int x4), (5, .ref x5), (6, .int v13)] [1, 2, 3, 4, 5, 6, 0] rfl ?_
  exact hc0 _ hK
def f_X2_seekBesides_J120 (σ : jS) (x2 : Int32) (x3 : Int32) (x4 : Int32) (x5 : Nat) (x6 : Int32) : Option ((Int32 × jS) ⊕ (Unit × jS)) :=
  bD (f_X2_toggle σ x6) fun r19 σ20 =>
  f_X2_seekBesides_J126 σ20 x2 x3 x4 x5 x6
set_option maxHeartbeats 1000000 in
set_option maxRecDepth 20000 in
theorem f_X2_seekBesides_J120_ok {g : Bool} {rv : Option Value} {μ' : jM} (σ : jS) (x2 : Int32) (x3 : Int32) (x4 : Int32) (x5 : Nat) (x6 : Int32) {Kp : ((Int32 × jS) ⊕ (Unit × jS)) → Prop} (hn : Nat.ble nX μ'.1 = true ∧ Nat.ble wX μ'.2.1 = true) (hr : ∀ (r : Unit) (s : jS), Kp (.inr ((r, s))) → rv = none ∧ μ' = eX s) (hc0 : ∀ s : (Int32 × jS), Kp (.inl s) → J yX2_seekBesides cX2_seekBesides 7 none 6 g rv μ' 44 [(0, .ref 20), (1, .ref 4), (2, .int x2), (3, .int x3), (4, .int x4), (5, .ref x5), (6, .int s.1)] [] (eX s.2)) (o : ((Int32 × jS) ⊕ (Unit × jS))) (h : f_X2_seekBesides_J120 σ x2 x3 x4 x5 x6 = some o) (hK : Kp o) : J yX2_seekBesides cX2_seekBesides 7 none 6 g rv μ' 120 [(0, .ref 20), (1, .ref 4), (2, .int x2), (3, .int x3), (4, .int x4), (5, .ref x5), (6, .int x6)] [] (eX σ) := by
  unfold f_X2_seekBesides_J120 at h
  refine j_aload_n 1 dX2_seekBesides_120 rfl rfl ?_
  refine j_iload 6 dX2_seekBesides_121 rfl ?_
  replace h := bD_inv h
  obtain ⟨r21, σ22, cr21, h⟩ := h
  refine j_callS (st1 := _) (c_X2_toggle g cr21) jy_X2_toggle kt_yX2_toggle kl_RX2_52 dX2_seekBesides_123 rfl rfl rfl rfl (jbr _) (jbr _) hn.1 hn.2 (Or.inr rfl) rfl ?_
  exact f_X2_seekBesides_J126_ok σ22 x2 x3 x4 x5 x6 hn hr hc0 _ h hK
def f_X2_seekBesides_J81 (σ : jS) (x2 : Int32) (x3 : Int32) (x4 : Int32) (x5 : Nat) (x6 : Int32) : Option ((Int32 × jS) ⊕ (Unit × jS)) :=
  bC (f_X2_isAhead σ x4 x6) fun r14 =>
  if r14 = 0 then (f_X2_seekBesides_J126 σ x2 x3 x4 x5 x6)
  else (bD (f_X2_toggle σ x6) fun r15 σ16 =>
  bD (f_X0_solve σ16 x2 x3 0) fun r17 σ18 =>
  if r17 = (-1) then (bD (f_X2_take σ18 x4 x6) fun r23 σ24 =>
  f_X2_seekBesides_J120 σ24 x2 x3 x4 x5 x6)
  else (f_X2_seekBesides_J120 σ18 x2 x3 x4 x5 x6))
set_option maxHeartbeats 1000000 in
set_option maxRecDepth 20000 in
theorem f_X2_seekBesides_J81_ok {g : Bool} {rv : Option Value} {μ' : jM} (σ : jS) (x2 : Int32) (x3 : Int32) (x4 : Int32) (x5 : Nat) (x6 : Int32) {Kp : ((Int32 × jS) ⊕ (Unit × jS)) → Prop} (hn : Nat.ble nX μ'.1 = true ∧ Nat.ble wX μ'.2.1 = true) (hr : ∀ (r : Unit) (s : jS), Kp (.inr ((r, s))) → rv = none ∧ μ' = eX s) (hc0 : ∀ s : (Int32 × jS), Kp (.inl s) → J yX2_seekBesides cX2_seekBesides 7 none 6 g rv μ' 44 [(0, .ref 20), (1, .ref 4), (2, .int x2), (3, .int x3), (4, .int x4), (5, .ref x5), (6, .int s.1)] [] (eX s.2)) (o : ((Int32 × jS) ⊕ (Unit × jS))) (h : f_X2_seekBesides_J81 σ x2 x3 x4 x5 x6 = some o) (hK : Kp o) : J yX2_seekBesides cX2_seekBesides 7 none 6 g rv μ' 81 [(0, .ref 20), (1, .ref 4), (2, .int x2), (3, .int x3), (4, .int x4), (5, .ref x5), (6, .int x6)] [] (eX σ) := by
  unfold f_X2_seekBesides_J81 at h
  refine j_aload_n 0 dX2_seekBesides_81 rfl rfl ?_
  refine j_iload 4 dX2_seekBesides_82 rfl ?_
  refine j_iload 6 dX2_seekBesides_84 rfl ?_
  replace h := bC_inv h
  obtain ⟨r25, cr25, h⟩ := h
  refine j_callV (ci := 2) (st1 := .int r25 :: _) (c_X2_isAhead g cr25) jy_X2_isAhead ki_yX2_isAhead ks_yX2_isAhead kl_RX2_60 dX2_seekBesides_86 rfl (okX_20 _) (shX_20 _) rfl rfl rfl rfl (jbr _) (jbr _) hn.1 hn.2 (Or.inr rfl) rfl ?_
  refine j_if_ne 95 dX2_seekBesides_89 (by decide) (fun hc26 => ?_) (fun hc26 => ?_)
  · replace h := jif_f hc26 h
    refine j_aload_n 1 dX2_seekBesides_95 rfl rfl ?_
    refine j_iload 6 dX2_seekBesides_96 rfl ?_
    replace h := bD_inv h
    obtain ⟨r27, σ28, cr27, h⟩ := h
    refine j_callS (st1 := _) (c_X2_toggle g cr27) jy_X2_toggle kt_yX2_toggle kl_RX2_52 dX2_seekBesides_98 rfl rfl rfl rfl (jbr _) (jbr _) hn.1 hn.2 (Or.inr rfl) rfl ?_
    refine j_aload_n 1 dX2_seekBesides_101 rfl rfl ?_
    refine j_iload_n 2 dX2_seekBesides_102 rfl rfl ?_
    refine j_iload_n 3 dX2_seekBesides_103 rfl rfl ?_
    refine j_iconst (v := 0) dX2_seekBesides_104 (by decide) ?_
    replace h := bD_inv h
    obtain ⟨r29, σ30, cr29, h⟩ := h
    refine j_callV (ci := 0) (st1 := .int r29 :: _) (c_X0_solve g cr29) jy_X0_solve ki_yX0_solve ks_yX0_solve kl_RX2_28 dX2_seekBesides_105 rfl (okX_4 _) (shX_4 _) rfl rfl rfl rfl (jbr _) (jbr _) hn.1 hn.2 (Or.inr rfl) rfl ?_
    refine j_iconst (v := (-1)) dX2_seekBesides_108 (by decide) ?_
    refine j_icmp_ne 120 dX2_seekBesides_109 (by decide) (fun hc31 => ?_) (fun hc31 => ?_)
    · replace h := jif_f hc31 h
      exact f_X2_seekBesides_J120_ok σ30 x2 x3 x4 x5 x6 hn hr hc0 _ h hK
    · replace h := jif_t hc31 h
      refine j_aload_n 0 dX2_seekBesides_112 rfl rfl ?_
      refine j_iload 4 dX2_seekBesides_113 rfl ?_
      refine j_iload 6 dX2_seekBesides_115 rfl ?_
      replace h := bD_inv h
      obtain ⟨r32, σ33, cr32, h⟩ := h
      refine j_callV (ci := 2) (st1 := _) (c_X2_take g cr32) jy_X2_take ki_yX2_take ks_yX2_take kl_RX2_64 dX2_seekBesides_117 rfl (okX_20 _) (shX_20 _) rfl rfl rfl rfl (jbr _) (jbr _) hn.1 hn.2 (Or.inr rfl) rfl ?_
      exact f_X2_seekBesides_J120_ok σ33 x2 x3 x4 x5 x6 hn hr hc0 _ h hK
  · replace h := jif_t hc26 h
    refine j_goto 126 dX2_seekBesides_92 (by decide) ?_
    exact f_X2_seekBesides_J126_ok σ x2 x3 x4 x5 x6 hn hr hc0 _ h hK
def f_X2_seekBesides_B44 (σ : jS) (x2 : Int32) (x3 : Int32) (x4 : Int32) (x5 : Nat) (x6 : Int32) : Option ((Int32 × jS) ⊕ (Unit × jS)) :=
  if 256 ≤ x6 then (jw (f_X2_seekBesides_J132 σ x4))
  else (bC (f_X2_isIn σ x5 x6) fun r11 =>
  if r11 = 0 then (f_X2_seekBesides_J126 σ x2 x3 x4 x5 x6)
  else (if x4 ≤ x6 then (f_X2_seekBesides_J81 σ x2 x3 x4 x5 x6)
  else (bC (f_X2_isIn σ 21 x6) fun r34 =>
  if r34 = 0 then (f_X2_seekBesides_J81 σ x2 x3 x4 x5 x6)
  else (f_X2_seekBesides_J126 σ x2 x3 x4 x5 x6))))
set_option maxHeartbeats 1000000 in
set_option maxRecDepth 20000 in
theorem f_X2_seekBesides_B44_ok {g : Bool} {rv : Option Value} {μ' : jM} (σ : jS) (x2 : Int32) (x3 : Int32) (x4 : Int32) (x5 : Nat) (x6 : Int32) {Kp : ((Int32 × jS) ⊕ (Unit × jS)) → Prop} (hn : Nat.ble nX μ'.1 = true ∧ Nat.ble wX μ'.2.1 = true) (hr : ∀ (r : Unit) (s : jS), Kp (.inr ((r, s))) → rv = none ∧ μ' = eX s) (hc0 : ∀ s : (Int32 × jS), Kp (.inl s) → J yX2_seekBesides cX2_seekBesides 7 none 6 g rv μ' 44 [(0, .ref 20), (1, .ref 4), (2, .int x2), (3, .int x3), (4, .int x4), (5, .ref x5), (6, .int s.1)] [] (eX s.2)) (o : ((Int32 × jS) ⊕ (Unit × jS))) (h : f_X2_seekBesides_B44 σ x2 x3 x4 x5 x6 = some o) (hK : Kp o) : J yX2_seekBesides cX2_seekBesides 7 none 6 g rv μ' 44 [(0, .ref 20), (1, .ref 4), (2, .int x2), (3, .int x3), (4, .int x4), (5, .ref x5), (6, .int x6)] [] (eX σ) := by
  unfold f_X2_seekBesides_B44 at h
  refine j_iload 6 dX2_seekBesides_44 rfl ?_
  refine j_sipush (v := 256) dX2_seekBesides_46 (by decide) ?_
  refine j_icmp_ge 132 dX2_seekBesides_49 (by decide) (fun hc35 => ?_) (fun hc35 => ?_)
  · replace h := jif_t hc35 h
    replace h := jw_inv h
    obtain ⟨o36, rfl, h⟩ := h
    refine j_sub [(1, .ref 4), (4, .int x4)] [1, 4] rfl ?_
    exact f_X2_seekBesides_J132_ok (Kp := fun o => Kp (.inr (o))) σ x4 hn (fun r s q => hr r s q) _ h hK
  · replace h := jif_f hc35 h
    refine j_aload 5 dX2_seekBesides_52 rfl ?_
    refine j_iload 6 dX2_seekBesides_54 rfl ?_
    replace h := bC_inv h
    obtain ⟨r37, cr37, h⟩ := h
    refine j_callS (st1 := .int r37 :: _) (c_X2_isIn g cr37) jy_X2_isIn kt_yX2_isIn kl_RX2_38 dX2_seekBesides_56 rfl rfl rfl rfl (jbr _) (jbr _) hn.1 hn.2 (Or.inr rfl) rfl ?_
    refine j_if_eq 126 dX2_seekBesides_59 (by decide) (fun hc38 => ?_) (fun hc38 => ?_)
    · replace h := jif_t hc38 h
      exact f_X2_seekBesides_J126_ok σ x2 x3 x4 x5 x6 hn hr hc0 _ h hK
    · replace h := jif_f hc38 h
      refine j_iload 6 dX2_seekBesides_62 rfl ?_
      refine j_iload 4 dX2_seekBesides_64 rfl ?_
      refine j_icmp_ge 81 dX2_seekBesides_66 (by decide) (fun hc39 => ?_) (fun hc39 => ?_)
      · replace h := jif_t hc39 h
        exact f_X2_seekBesides_J81_ok σ x2 x3 x4 x5 x6 hn hr hc0 _ h hK
      · replace h := jif_f hc39 h
        refine j_aload_n 0 dX2_seekBesides_69 rfl rfl ?_
        refine j_get (ci := 2) 3 (.ref 21) jC_2 dX2_seekBesides_70 kg_RX2_9 rfl (okX_20 _) (shX_20 _) (fvX_20_3 _) ?_
        refine j_iload 6 dX2_seekBesides_73 rfl ?_
        replace h := bC_inv h
        obtain ⟨r40, cr40, h⟩ := h
        refine j_callS (st1 := .int r40 :: _) (c_X2_isIn g cr40) jy_X2_isIn kt_yX2_isIn kl_RX2_38 dX2_seekBesides_75 rfl rfl rfl rfl (jbr _) (jbr _) hn.1 hn.2 (Or.inr rfl) rfl ?_
        refine j_if_ne 126 dX2_seekBesides_78 (by decide) (fun hc41 => ?_) (fun hc41 => ?_)
        · replace h := jif_f hc41 h
          exact f_X2_seekBesides_J126_ok σ x2 x3 x4 x5 x6 hn hr hc0 _ h hK
        · replace h := jif_t hc41 h
          exact f_X2_seekBesides_J81_ok σ x2 x3 x4 x5 x6 hn hr hc0 _ h hK
def f_X2_seekBesides_J17 (σ : jS) (x2 : Int32) (x3 : Int32) (x4 : Int32) (y0 : Nat) : Option (Unit × jS) :=
  bD (f_X2_toggle σ x4) fun r1 σ2 =>
  bD (f_X0_solve σ2 x2 x3 0) fun r3 σ4 =>
  bD (f_X0_followPeace σ4 x2 x3 y0) fun r5 σ6 =>
  jloop jFuel (fun s => f_X2_seekBesides_B44 s.2 x2 x3 x4 y0 s.1) (0, σ6)
set_option maxHeartbeats 1000000 in
set_option maxRecDepth 20000 in
theorem f_X2_seekBesides_J17_ok {g : Bool} {rv : Option Value} {μ' : jM} (σ : jS) (x2 : Int32) (x3 : Int32) (x4 : Int32) (y0 : Nat) {Kp : (Unit × jS) → Prop} (hn : Nat.ble nX μ'.1 = true ∧ Nat.ble wX μ'.2.1 = true) (hr : ∀ (r : Unit) (s : jS), Kp ((r, s)) → rv = none ∧ μ' = eX s) (o : (Unit × jS)) (h : f_X2_seekBesides_J17 σ x2 x3 x4 y0 = some o) (hK : Kp o) : J yX2_seekBesides cX2_seekBesides 7 none 6 g rv μ' 17 [(0, .ref 20), (1, .ref 4), (2, .int x2), (3, .int x3), (4, .int x4)] [.ref y0] (eX σ) := by
  unfold f_X2_seekBesides_J17 at h
  refine j_astore [(5, .ref y0), (0, .ref 20), (1, .ref 4), (2, .int x2), (3, .int x3), (4, .int x4)] dX2_seekBesides_17 (Nat.le_of_ble_eq_true rfl) rfl ?_
  refine j_aload_n 2 dX2_seekBesides_19 rfl rfl ?_
  refine j_iload 5 dX2_seekBesides_20 rfl ?_
  replace h := bD_inv h
  obtain ⟨r42, σ43, cr42, h⟩ := h
  refine j_callS (st1 := _) (c_X2_toggle g cr42) jy_X2_toggle kt_yX2_toggle kl_RX2_52 dX2_seekBesides_22 rfl rfl rfl rfl (jbr _) (jbr _) hn.1 hn.2 (Or.inr rfl) rfl ?_
  refine j_aload_n 2 dX2_seekBesides_25 rfl rfl ?_
  refine j_iload_n 3 dX2_seekBesides_26 rfl rfl ?_
  refine j_iload_n 4 dX2_seekBesides_27 rfl rfl ?_
  refine j_iconst (v := 0) dX2_seekBesides_28 (by decide) ?_
  replace h := bD_inv h
  obtain ⟨r44, σ45, cr44, h⟩ := h
  refine j_callV (ci := 0) (st1 := .int r44 :: _) (c_X0_solve g cr44) jy_X0_solve ki_yX0_solve ks_yX0_solve kl_RX2_28 dX2_seekBesides_29 rfl (okX_4 _) (shX_4 _) rfl rfl rfl rfl (jbr _) (jbr _) hn.1 hn.2 (Or.inr rfl) rfl ?_
  refine j_pop dX2_seekBesides_32 rfl ?_
  refine j_aload_n 2 dX2_seekBesides_33 rfl rfl ?_
  refine j_iload_n 3 dX2_seekBesides_34 rfl rfl ?_
  refine j_iload_n 4 dX2_seekBesides_35 rfl rfl ?_
  refine j_aload 0 dX2_seekBesides_36 rfl ?_
  replace h := bD_inv h
  obtain ⟨r46, σ47, cr46, h⟩ := h
  refine j_callV (ci := 0) (st1 := _) (c_X0_followPeace g cr46) jy_X0_followPeace ki_yX0_followPeace ks_yX0_followPeace kl_RX2_56 dX2_seekBesides_38 rfl (okX_4 _) (shX_4 _) rfl rfl rfl rfl (jbr _) (jbr _) hn.1 hn.2 (Or.inr rfl) rfl ?_
  refine j_iconst (v := 0) dX2_seekBesides_41 (by decide) ?_
  refine j_istore [(6, .int 0), (5, .ref y0), (0, .ref 20), (1, .ref 4), (2, .int x2), (3, .int x3), (4, .int x4)] dX2_seekBesides_42 (Nat.le_of_ble_eq_true rfl) rfl ?_
  refine j_sub [(0, .ref 20), (1, .ref 4), (2, .int x2), (3, .int x3), (4, .int x4), (5, .ref y0), (6, .int 0)] [2, 3, 4, 5, 6, 1, 0] rfl ?_
  exact jloop_ok (fun s => f_X2_seekBesides_B44 s.2 x2 x3 x4 y0 s.1) (fun s => J yX2_seekBesides cX2_seekBesides 7 none 6 g rv μ' 44 [(0, .ref 20), (1, .ref 4), (2, .int x2), (3, .int x3), (4, .int x4), (5, .ref y0), (6, .int s.1)] [] (eX s.2)) Kp (fun s o hb hk => f_X2_seekBesides_B44_ok (Kp := jsum (fun s => J yX2_seekBesides cX2_seekBesides 7 none 6 g rv μ' 44 [(0, .ref 20), (1, .ref 4), (2, .int x2), (3, .int x3), (4, .int x4), (5, .ref y0), (6, .int s.1)] [] (eX s.2)) Kp) s.2 x2 x3 x4 y0 s.1 hn (fun r s q => hr r s q) (fun s q => q) o hb hk) jFuel _ _ h hK
def f_X2_seekBesides (σ : jS) (x2 : Int32) (x3 : Int32) (x4 : Int32) : Option (Unit × jS) :=
  if x4 = (-1) then (f_X2_seekBesides_J17 σ x2 x3 x4 21)
  else (f_X2_seekBesides_J17 σ x2 x3 x4 22)
set_option maxHeartbeats 1000000 in
set_option maxRecDepth 20000 in
theorem f_X2_seekBesides_ok {g : Bool} {rv : Option Value} {μ' : jM} (σ : jS) (x2 : Int32) (x3 : Int32) (x4 : Int32) {Kp : (Unit × jS) → Prop} (hn : Nat.ble nX μ'.1 = true ∧ Nat.ble wX μ'.2.1 = true) (hr : ∀ (r : Unit) (s : jS), Kp ((r, s)) → rv = none ∧ μ' = eX s) (o : (Unit × jS)) (h : f_X2_seekBesides σ x2 x3 x4 = some o) (hK : Kp o) : J yX2_seekBesides cX2_seekBesides 7 none 6 g rv μ' 0 [(0, .ref 20), (1, .ref 4), (2, .int x2), (3, .int x3), (4, .int x4)] [] (eX σ) := by
  unfold f_X2_seekBesides at h
  refine j_iload 4 dX2_seekBesides_0 rfl ?_
  refine j_iconst (v := (-1)) dX2_seekBesides_2 (by decide) ?_
  refine j_icmp_ne 13 dX2_seekBesides_3 (by decide) (fun hc48 => ?_) (fun hc48 => ?_)
  · replace h := jif_f hc48 h
    refine j_aload_n 0 dX2_seekBesides_13 rfl rfl ?_
    refine j_get (ci := 2) 4 (.ref 22) jC_2 dX2_seekBesides_14 kg_RX2_15 rfl (okX_20 _) (shX_20 _) (fvX_20_4 _) ?_
    exact f_X2_seekBesides_J17_ok σ x2 x3 x4 22 hn hr _ h hK
  · replace h := jif_t hc48 h
    refine j_aload_n 0 dX2_seekBesides_6 rfl rfl ?_
    refine j_get (ci := 2) 3 (.ref 21) jC_2 dX2_seekBesides_7 kg_RX2_9 rfl (okX_20 _) (shX_20 _) (fvX_20_3 _) ?_
    refine j_goto 17 dX2_seekBesides_10 (by decide) ?_
    exact f_X2_seekBesides_J17_ok σ x2 x3 x4 21 hn hr _ h hK
theorem c_X2_seekBesides (g : Bool) {σ : jS} {x2 : Int32} {x3 : Int32} {x4 : Int32} {r : Unit} {σ2 : jS} (h : f_X2_seekBesides σ x2 x3 x4 = some (r, σ2)) : Cn yX2_seekBesides cX2_seekBesides 7 none 6 g [.ref 20, .ref 4, .int x2, .int x3, .int x4] (eX σ) none (eX σ2) :=
  Cn_of (by decide) (Nat.le_refl _) (Nat.le_refl _) (Nat.le_of_ble_eq_true rfl) (f_X2_seekBesides_ok (Kp := (fun o => o = (r, σ2))) σ x2 x3 x4 ⟨jbr _, jbr _⟩ (fun r2 s2 q => by cases q; exact ⟨rfl, rfl⟩) _ h rfl)
def f_X2_seek_J87 (σ : jS) : Option (Unit × jS) :=
  some (((), σ))
set_option maxHeartbeats 1000000 in
set_option maxRecDepth 20000 in
theorem f_X2_seek_J87_ok {g : Bool} {rv : Option Value} {μ' : jM} (σ : jS) {Kp : (Unit × jS) → Prop} (hn : Nat.ble nX μ'.1 = true ∧ Nat.ble wX μ'.2.1 = true) (hr : ∀ (r : Unit) (s : jS), Kp ((r, s)) → rv = none ∧ μ' = eX s) (o : (Unit × jS)) (h : f_X2_seek_J87 σ = some o) (hK : Kp o) : J yX2_seek cX2_seek 5 none 7 g rv μ' 87 [] [] (eX σ) := by
  unfold f_X2_seek_J87 at h
  replace h := Option.some.inj h
  subst h
  obtain ⟨hr1, hr2⟩ := hr _ _ hK
  exact j_vret dX2_seek_87 hr1 hr2
def f_X2_seek_J81 (σ : jS) (x2 : Int32) (x3 : Int32) (x4 : Int32) : Option ((Int32 × jS) ⊕ (Unit × jS)) :=
  bV (x4 + 1) fun v10 =>
  some (.inl (v10, σ))
set_option maxHeartbeats 1000000 in
set_option maxRecDepth 20000 in
theorem f_X2_seek_J81_ok {g : Bool} {rv : Option Value} {μ' : jM} (σ : jS) (x2 : Int32) (x3 : Int32) (x4 : Int32) {Kp : ((Int32 × jS) ⊕ (Unit × jS)) → Prop} (hn : Nat.ble nX μ'.1 = true ∧ Nat.ble wX μ'.2.1 = true) (hr : ∀ (r : Unit) (s : jS), Kp (.inr ((r, s))) → rv = none ∧ μ' = eX s) (hc0 : ∀ s : (Int32 × jS), Kp (.inl s) → J yX2_seek cX2_seek 5 none 7 g rv μ' 52 [(0, .ref 20), (1, .ref 4), (2, .int x2), (3, .int x3), (4, .int s.1)] [] (eX s.2)) (o : ((Int32 × jS) ⊕ (Unit × jS))) (h : f_X2_seek_J81 σ x2 x3 x4 = some o) (hK : Kp o) : J yX2_seek cX2_seek 5 none 7 g rv μ' 81 [(0, .ref 20), (1, .ref 4), (2, .int x2), (3, .int x3), (4, .int x4)] [] (eX σ) := by
  unfold f_X2_seek_J81 at h
  replace h := bV_inv h
  obtain ⟨v11, ev11, h⟩ := h
  refine j_iinc (v := v11) [(4, .int v11), (0, .ref 20), (1, .ref 4), (2, .int x2), (3, .int x3)] 4 dX2_seek_81 rfl (by rw [ev11]; rfl) (Nat.le_of_ble_eq_true rfl) rfl ?_
  refine j_goto 52 dX2_seek_84 (by decide) ?_
  replace h := Option.some.inj h
  subst h
  refine j_sub [(0, .ref 20), (1, .ref 4), (2, .int x2), (3, .int x3), (4, .int v11)] [1, 2, 3, 4, 0] rfl ?_
  exact hc0 _ hK
def f_X2_seek_B52 (σ : jS) (x2 : Int32) (x3 : Int32) (x4 : Int32) : Option ((Int32 × jS) ⊕ (Unit × jS)) :=
  if 256 ≤ x4 then (jw (f_X2_seek_J87 σ))
  else (bC (f_X2_isIn σ 21 x4) fun r9 =>
  if r9 = 0 then (f_X2_seek_J81 σ x2 x3 x4)
  else (bD (f_X2_seekBesides σ x2 x3 x4) fun r12 σ13 =>
  f_X2_seek_J81 σ13 x2 x3 x4))
set_option maxHeartbeats 1000000 in
set_option maxRecDepth 20000 in
theorem f_X2_seek_B52_ok {g : Bool} {rv : Option Value} {μ' : jM} (σ : jS) (x2 : Int32) (x3 : Int32) (x4 : Int32) {Kp : ((Int32 × jS) ⊕ (Unit × jS)) → Prop} (hn : Nat.ble nX μ'.1 = true ∧ Nat.ble wX μ'.2.1 = true) (hr : ∀ (r : Unit) (s : jS), Kp (.inr ((r, s))) → rv = none ∧ μ' = eX s) (hc0 : ∀ s : (Int32 × jS), Kp (.inl s) → J yX2_seek cX2_seek 5 none 7 g rv μ' 52 [(0, .ref 20), (1, .ref 4), (2, .int x2), (3, .int x3), (4, .int s.1)] [] (eX s.2)) (o : ((Int32 × jS) ⊕ (Unit × jS))) (h : f_X2_seek_B52 σ x2 x3 x4 = some o) (hK : Kp o) : J yX2_seek cX2_seek 5 none 7 g rv μ' 52 [(0, .ref 20), (1, .ref 4), (2, .int x2), (3, .int x3), (4, .int x4)] [] (eX σ) := by
  unfold f_X2_seek_B52 at h
  refine j_iload 4 dX2_seek_52 rfl ?_
  refine j_sipush (v := 256) dX2_seek_54 (by decide) ?_
  refine j_icmp_ge 87 dX2_seek_57 (by decide) (fun hc14 => ?_) (fun hc14 => ?_)
  · replace h := jif_t hc14 h
    replace h := jw_inv h
    obtain ⟨o15, rfl, h⟩ := h
    refine j_sub [] [] rfl ?_
    exact f_X2_seek_J87_ok (Kp := fun o => Kp (.inr (o))) σ hn (fun r s q => hr r s q) _ h hK
  · replace h := jif_f hc14 h
    refine j_aload_n 0 dX2_seek_60 rfl rfl ?_
    refine j_get (ci := 2) 3 (.ref 21) jC_2 dX2_seek_61 kg_RX2_9 rfl (okX_20 _) (shX_20 _) (fvX_20_3 _) ?_
    refine j_iload 4 dX2_seek_64 rfl ?_
    replace h := bC_inv h
    obtain ⟨r16, cr16, h⟩ := h
    refine j_callS (st1 := .int r16 :: _) (c_X2_isIn g cr16) jy_X2_isIn kt_yX2_isIn kl_RX2_38 dX2_seek_66 rfl rfl rfl rfl (jbr _) (jbr _) hn.1 hn.2 (Or.inr rfl) rfl ?_
    refine j_if_eq 81 dX2_seek_69 (by decide) (fun hc17 => ?_) (fun hc17 => ?_)
    · replace h := jif_t hc17 h
      exact f_X2_seek_J81_ok σ x2 x3 x4 hn hr hc0 _ h hK
    · replace h := jif_f hc17 h
      refine j_aload_n 0 dX2_seek_72 rfl rfl ?_
      refine j_aload_n 1 dX2_seek_73 rfl rfl ?_
      refine j_iload_n 2 dX2_seek_74 rfl rfl ?_
      refine j_iload_n 3 dX2_seek_75 rfl rfl ?_
      refine j_iload 4 dX2_seek_76 rfl ?_
      replace h := bD_inv h
      obtain ⟨r18, σ19, cr18, h⟩ := h
      refine j_callV (ci := 2) (st1 := _) (c_X2_seekBesides g cr18) jy_X2_seekBesides ki_yX2_seekBesides ks_yX2_seekBesides kl_RX2_34 dX2_seek_78 rfl (okX_20 _) (shX_20 _) rfl rfl rfl rfl (jbr _) (jbr _) hn.1 hn.2 (Or.inr rfl) rfl ?_
      exact f_X2_seek_J81_ok σ19 x2 x3 x4 hn hr hc0 _ h hK
def f_X2_seek (σ : jS) (x2 : Int32) (x3 : Int32) : Option (Unit × jS) :=
  bV (sI σ 20 1 (-1)) fun σ1 =>
  bV (sI σ1 20 2 (-1)) fun σ2 =>
  bV (sI σ2 20 0 0) fun σ3 =>
  bD (f_X0_solve σ3 x2 x3 0) fun r4 σ5 =>
  if r4 = (-1) then (some (((), σ5)))
  else (bV (sI σ5 20 0 (-1)) fun σ6 =>
  bD (f_X2_seekBesides σ6 x2 x3 (-1)) fun r7 σ8 =>
  if (gI σ8 20 0) = (-1) then (jloop jFuel (fun s => f_X2_seek_B52 s.2 x2 x3 s.1) (0, σ8))
  else (some (((), σ8))))
set_option maxHeartbeats 1000000 in
set_option maxRecDepth 20000 in
theorem f_X2_seek_ok {g : Bool} {rv : Option Value} {μ' : jM} (σ : jS) (x2 : Int32) (x3 : Int32) {Kp : (Unit × jS) → Prop} (hn : Nat.ble nX μ'.1 = true ∧ Nat.ble wX μ'.2.1 = true) (hr : ∀ (r : Unit) (s : jS), Kp ((r, s)) → rv = none ∧ μ' = eX s) (o : (Unit × jS)) (h : f_X2_seek σ x2 x3 = some o) (hK : Kp o) : J yX2_seek cX2_seek 5 none 7 g rv μ' 0 [(0, .ref 20), (1, .ref 4), (2, .int x2), (3, .int x3)] [] (eX σ) := by
  unfold f_X2_seek at h
  refine j_aload_n 0 dX2_seek_0 rfl rfl ?_
  refine j_iconst (v := (-1)) dX2_seek_1 (by decide) ?_
  replace h := bV_inv h
  obtain ⟨σ20, eσ20, h⟩ := h
  refine j_putI 1 jC_2 dX2_seek_2 kg_RX2_18 (Or.inl ff_2_1) rfl fk_2_1 (fn_2_1 _) (okX_20 _) (shX_20 _) ?_
  refine j_mem (congrArg eX eσ20) ?_
  refine j_aload_n 0 dX2_seek_5 rfl rfl ?_
  refine j_iconst (v := (-1)) dX2_seek_6 (by decide) ?_
  replace h := bV_inv h
  obtain ⟨σ21, eσ21, h⟩ := h
  refine j_putI 2 jC_2 dX2_seek_7 kg_RX2_22 (Or.inl ff_2_2) rfl fk_2_2 (fn_2_2 _) (okX_20 _) (shX_20 _) ?_
  refine j_mem (congrArg eX eσ21) ?_
  refine j_aload_n 0 dX2_seek_10 rfl rfl ?_
  refine j_iconst (v := 0) dX2_seek_11 (by decide) ?_
  replace h := bV_inv h
  obtain ⟨σ22, eσ22, h⟩ := h
  refine j_putI 0 jC_2 dX2_seek_12 kg_RX2_25 (Or.inl ff_2_0) rfl fk_2_0 (fn_2_0 _) (okX_20 _) (shX_20 _) ?_
  refine j_mem (congrArg eX eσ22) ?_
  refine j_aload_n 1 dX2_seek_15 rfl rfl ?_
  refine j_iload_n 2 dX2_seek_16 rfl rfl ?_
  refine j_iload_n 3 dX2_seek_17 rfl rfl ?_
  refine j_iconst (v := 0) dX2_seek_18 (by decide) ?_
  replace h := bD_inv h
  obtain ⟨r23, σ24, cr23, h⟩ := h
  refine j_callV (ci := 0) (st1 := .int r23 :: _) (c_X0_solve g cr23) jy_X0_solve ki_yX0_solve ks_yX0_solve kl_RX2_28 dX2_seek_19 rfl (okX_4 _) (shX_4 _) rfl rfl rfl rfl (jbr _) (jbr _) hn.1 hn.2 (Or.inr rfl) rfl ?_
  refine j_iconst (v := (-1)) dX2_seek_22 (by decide) ?_
  refine j_icmp_ne 27 dX2_seek_23 (by decide) (fun hc25 => ?_) (fun hc25 => ?_)
  · replace h := jif_f hc25 h
    refine j_aload_n 0 dX2_seek_27 rfl rfl ?_
    refine j_iconst (v := (-1)) dX2_seek_28 (by decide) ?_
    replace h := bV_inv h
    obtain ⟨σ26, eσ26, h⟩ := h
    refine j_putI 0 jC_2 dX2_seek_29 kg_RX2_25 (Or.inl ff_2_0) rfl fk_2_0 (fn_2_0 _) (okX_20 _) (shX_20 _) ?_
    refine j_mem (congrArg eX eσ26) ?_
    refine j_aload_n 0 dX2_seek_32 rfl rfl ?_
    refine j_aload_n 1 dX2_seek_33 rfl rfl ?_
    refine j_iload_n 2 dX2_seek_34 rfl rfl ?_
    refine j_iload_n 3 dX2_seek_35 rfl rfl ?_
    refine j_iconst (v := (-1)) dX2_seek_36 (by decide) ?_
    replace h := bD_inv h
    obtain ⟨r27, σ28, cr27, h⟩ := h
    refine j_callV (ci := 2) (st1 := _) (c_X2_seekBesides g cr27) jy_X2_seekBesides ki_yX2_seekBesides ks_yX2_seekBesides kl_RX2_34 dX2_seek_37 rfl (okX_20 _) (shX_20 _) rfl rfl rfl rfl (jbr _) (jbr _) hn.1 hn.2 (Or.inr rfl) rfl ?_
    refine j_aload_n 0 dX2_seek_40 rfl rfl ?_
    refine j_get (ci := 2) 0 (.int (gI σ28 20 0)) jC_2 dX2_seek_41 kg_RX2_25 rfl (okX_20 _) (shX_20 _) (fvX_20_0 _) ?_
    refine j_iconst (v := (-1)) dX2_seek_44 (by decide) ?_
    refine j_icmp_eq 49 dX2_seek_45 (by decide) (fun hc29 => ?_) (fun hc29 => ?_)
    · replace h := jif_t hc29 h
      refine j_iconst (v := 0) dX2_seek_49 (by decide) ?_
      refine j_istore [(4, .int 0), (0, .ref 20), (1, .ref 4), (2, .int x2), (3, .int x3)] dX2_seek_50 (Nat.le_of_ble_eq_true rfl) rfl ?_
      refine j_sub [(0, .ref 20), (1, .ref 4), (2, .int x2), (3, .int x3), (4, .int 0)] [1, 2, 3, 4, 0] rfl ?_
      exact jloop_ok (fun s => f_X2_seek_B52 s.2 x2 x3 s.1) (fun s => J yX2_seek cX2_seek 5 none 7 g rv μ' 52 [(0, .ref 20), (1, .ref 4), (2, .int x2), (3, .int x3), (4, .int s.1)] [] (eX s.2)) Kp (fun s o hb hk => f_X2_seek_B52_ok (Kp := jsum (fun s => J yX2_seek cX2_seek 5 none 7 g rv μ' 52 [(0, .ref 20), (1, .ref 4), (2, .int x2), (3, .int x3), (4, .int s.1)] [] (eX s.2)) Kp) s.2 x2 x3 s.1 hn (fun r s q => hr r s q) (fun s q => q) o hb hk) jFuel _ _ h hK
    · replace h := jif_f hc29 h
      replace h := Option.some.inj h
      subst h
      obtain ⟨hr1, hr2⟩ := hr _ _ hK
      exact j_vret dX2_seek_48 hr1 hr2
  · replace h := jif_t hc25 h
    replace h := Option.some.inj h
    subst h
    obtain ⟨hr1, hr2⟩ := hr _ _ hK
    exact j_vret dX2_seek_26 hr1 hr2
theorem c_X2_seek (g : Bool) {σ : jS} {x2 : Int32} {x3 : Int32} {r : Unit} {σ2 : jS} (h : f_X2_seek σ x2 x3 = some (r, σ2)) : Cn yX2_seek cX2_seek 5 none 7 g [.ref 20, .ref 4, .int x2, .int x3] (eX σ) none (eX σ2) :=
  Cn_of (by decide) (Nat.le_refl _) (Nat.le_refl _) (Nat.le_of_ble_eq_true rfl) (f_X2_seek_ok (Kp := (fun o => o = (r, σ2))) σ x2 x3 ⟨jbr _, jbr _⟩ (fun r2 s2 q => by cases q; exact ⟨rfl, rfl⟩) _ h rfl)
def f_X10_fresh_J28 (σ : jS) : Option (Int32 × jS) :=
  some (((-1002), σ))
set_option maxHeartbeats 1000000 in
set_option maxRecDepth 20000 in
theorem f_X10_fresh_J28_ok {g : Bool} {rv : Option Value} {μ' : jM} (σ : jS) {Kp : (Int32 × jS) → Prop} (hn : Nat.ble nX μ'.1 = true ∧ Nat.ble wX μ'.2.1 = true) (hr : ∀ (r : Int32) (s : jS), Kp ((r, s)) → rv = some (.int r) ∧ μ' = eX s) (o : (Int32 × jS)) (h : f_X10_fresh_J28 σ = some o) (hK : Kp o) : J yX10_fresh cX10_fresh 4 (some .int) 8 g rv μ' 28 [] [] (eX σ) := by
  unfold f_X10_fresh_J28 at h
  refine j_sipush (v := (-1002)) dX10_fresh_28 (by decide) ?_
  replace h := Option.some.inj h
  subst h
  obtain ⟨hr1, hr2⟩ := hr _ _ hK
  exact j_iret dX10_fresh_31 hr1 hr2
def f_X10_fresh (σ : jS) (x1 : Int32) (x2 : Int32) (x3 : Int32) : Option (Int32 × jS) :=
  bC (f_X10_isQuarrel σ x1) fun r1 =>
  if r1 = 0 then (some (((-1001), σ)))
  else (bC (f_X10_isSide x2) fun r2 =>
  if r2 = 0 then (f_X10_fresh_J28 σ)
  else (if x3 < 0 then (f_X10_fresh_J28 σ)
  else (if x3 ≤ 2 then (bC (f_X6_at σ 30 x1) fun r3 =>
  bD (f_X2_seek σ r3 x2) fun r4 σ5 =>
  if x3 = 0 then (some ((gI σ5 20 0, σ5)))
  else (bC (f_X2_pairTold σ5 x3) fun r6 =>
  some ((r6, σ5))))
  else (f_X10_fresh_J28 σ))))
set_option maxHeartbeats 1000000 in
set_option maxRecDepth 20000 in
theorem f_X10_fresh_ok {g : Bool} {rv : Option Value} {μ' : jM} (σ : jS) (x1 : Int32) (x2 : Int32) (x3 : Int32) {Kp : (Int32 × jS) → Prop} (hn : Nat.ble nX μ'.1 = true ∧ Nat.ble wX μ'.2.1 = true) (hr : ∀ (r : Int32) (s : jS), Kp ((r, s)) → rv = some (.int r) ∧ μ' = eX s) (o : (Int32 × jS)) (h : f_X10_fresh σ x1 x2 x3 = some o) (hK : Kp o) : J yX10_fresh cX10_fresh 4 (some .int) 8 g rv μ' 0 [(0, .ref 1), (1, .int x1), (2, .int x2), (3, .int x3)] [] (eX σ) := by
  unfold f_X10_fresh at h
  refine j_aload_n 0 dX10_fresh_0 rfl rfl ?_
  refine j_iload_n 1 dX10_fresh_1 rfl rfl ?_
  replace h := bC_inv h
  obtain ⟨r7, cr7, h⟩ := h
  refine j_callV (ci := 9) (st1 := .int r7 :: _) (c_X10_isQuarrel g cr7) jy_X10_isQuarrel ki_yX10_isQuarrel ks_yX10_isQuarrel kl_RX10_198 dX10_fresh_2 rfl (okX_1 _) (shX_1 _) rfl rfl rfl rfl (jbr _) (jbr _) hn.1 hn.2 (Or.inr rfl) rfl ?_
  refine j_if_ne 12 dX10_fresh_5 (by decide) (fun hc8 => ?_) (fun hc8 => ?_)
  · replace h := jif_f hc8 h
    refine j_iload_n 2 dX10_fresh_12 rfl rfl ?_
    replace h := bC_inv h
    obtain ⟨r9, cr9, h⟩ := h
    refine j_callS (st1 := .int r9 :: _) (c_X10_isSide g _ cr9) jy_X10_isSide kt_yX10_isSide kl_RX10_243 dX10_fresh_13 rfl rfl rfl rfl (jbr _) (jbr _) hn.1 hn.2 (Or.inr rfl) rfl ?_
    refine j_if_eq 28 dX10_fresh_16 (by decide) (fun hc10 => ?_) (fun hc10 => ?_)
    · replace h := jif_t hc10 h
      refine j_sub [] [] rfl ?_
      exact f_X10_fresh_J28_ok σ hn hr _ h hK
    · replace h := jif_f hc10 h
      refine j_iload_n 3 dX10_fresh_19 rfl rfl ?_
      refine j_if_lt 28 dX10_fresh_20 (by decide) (fun hc11 => ?_) (fun hc11 => ?_)
      · replace h := jif_t hc11 h
        refine j_sub [] [] rfl ?_
        exact f_X10_fresh_J28_ok σ hn hr _ h hK
      · replace h := jif_f hc11 h
        refine j_iload_n 3 dX10_fresh_23 rfl rfl ?_
        refine j_iconst (v := 2) dX10_fresh_24 (by decide) ?_
        refine j_icmp_le 32 dX10_fresh_25 (by decide) (fun hc12 => ?_) (fun hc12 => ?_)
        · replace h := jif_t hc12 h
          refine j_aload_n 0 dX10_fresh_32 rfl rfl ?_
          refine j_get (ci := 9) 3 (.ref 20) jC_9 dX10_fresh_33 kg_RX10_33 rfl (okX_1 _) (shX_1 _) (fvX_1_3 _) ?_
          refine j_aload_n 0 dX10_fresh_36 rfl rfl ?_
          refine j_get (ci := 9) 1 (.ref 4) jC_9 dX10_fresh_37 kg_RX10_19 rfl (okX_1 _) (shX_1 _) (fvX_1_1 _) ?_
          refine j_aload_n 0 dX10_fresh_40 rfl rfl ?_
          refine j_get (ci := 9) 5 (.ref 29) jC_9 dX10_fresh_41 kg_RX10_47 rfl (okX_1 _) (shX_1 _) (fvX_1_5 _) ?_
          refine j_get (ci := 6) 0 (.ref 30) jC_6 dX10_fresh_44 kg_RX10_94 rfl (okX_29 _) (shX_29 _) (fvX_29_0 _) ?_
          refine j_iload_n 1 dX10_fresh_47 rfl rfl ?_
          replace h := bC_inv h
          obtain ⟨r13, cr13, h⟩ := h
          refine j_callS (st1 := .int r13 :: _) (c_X6_at g cr13) jy_X6_at kt_yX6_at kl_RX10_150 dX10_fresh_48 rfl rfl rfl rfl (jbr _) (jbr _) hn.1 hn.2 (Or.inr rfl) rfl ?_
          refine j_iload_n 2 dX10_fresh_51 rfl rfl ?_
          replace h := bD_inv h
          obtain ⟨r14, σ15, cr14, h⟩ := h
          refine j_callV (ci := 2) (st1 := _) (c_X2_seek g cr14) jy_X2_seek ki_yX2_seek ks_yX2_seek kl_RX10_252 dX10_fresh_52 rfl (okX_20 _) (shX_20 _) rfl rfl rfl rfl (jbr _) (jbr _) hn.1 hn.2 (Or.inr rfl) rfl ?_
          refine j_iload_n 3 dX10_fresh_55 rfl rfl ?_
          refine j_if_ne 67 dX10_fresh_56 (by decide) (fun hc16 => ?_) (fun hc16 => ?_)
          · replace h := jif_f hc16 h
            refine j_aload_n 0 dX10_fresh_67 rfl rfl ?_
            refine j_get (ci := 9) 3 (.ref 20) jC_9 dX10_fresh_68 kg_RX10_33 rfl (okX_1 _) (shX_1 _) (fvX_1_3 _) ?_
            refine j_iload_n 3 dX10_fresh_71 rfl rfl ?_
            replace h := bC_inv h
            obtain ⟨r17, cr17, h⟩ := h
            refine j_callV (ci := 2) (st1 := .int r17 :: _) (c_X2_pairTold g cr17) jy_X2_pairTold ki_yX2_pairTold ks_yX2_pairTold kl_RX10_259 dX10_fresh_72 rfl (okX_20 _) (shX_20 _) rfl rfl rfl rfl (jbr _) (jbr _) hn.1 hn.2 (Or.inr rfl) rfl ?_
            replace h := Option.some.inj h
            subst h
            obtain ⟨hr1, hr2⟩ := hr _ _ hK
            exact j_iret dX10_fresh_75 hr1 hr2
          · replace h := jif_t hc16 h
            refine j_aload_n 0 dX10_fresh_59 rfl rfl ?_
            refine j_get (ci := 9) 3 (.ref 20) jC_9 dX10_fresh_60 kg_RX10_33 rfl (okX_1 _) (shX_1 _) (fvX_1_3 _) ?_
            refine j_get (ci := 2) 0 (.int (gI σ15 20 0)) jC_2 dX10_fresh_63 kg_RX10_256 rfl (okX_20 _) (shX_20 _) (fvX_20_0 _) ?_
            replace h := Option.some.inj h
            subst h
            obtain ⟨hr1, hr2⟩ := hr _ _ hK
            exact j_iret dX10_fresh_66 hr1 hr2
        · replace h := jif_f hc12 h
          refine j_sub [] [] rfl ?_
          exact f_X10_fresh_J28_ok σ hn hr _ h hK
  · replace h := jif_t hc8 h
    refine j_sipush (v := (-1001)) dX10_fresh_8 (by decide) ?_
    replace h := Option.some.inj h
    subst h
    obtain ⟨hr1, hr2⟩ := hr _ _ hK
    exact j_iret dX10_fresh_11 hr1 hr2
theorem c_X10_fresh (g : Bool) {σ : jS} {x1 : Int32} {x2 : Int32} {x3 : Int32} {r : Int32} {σ2 : jS} (h : f_X10_fresh σ x1 x2 x3 = some (r, σ2)) : Cn yX10_fresh cX10_fresh 4 (some .int) 8 g [.ref 1, .int x1, .int x2, .int x3] (eX σ) (some (.int r)) (eX σ2) :=
  Cn_of (by decide) (Nat.le_refl _) (Nat.le_refl _) (Nat.le_of_ble_eq_true rfl) (f_X10_fresh_ok (Kp := (fun o => o = (r, σ2))) σ x1 x2 x3 ⟨jbr _, jbr _⟩ (fun r2 s2 q => by cases q; exact ⟨rfl, rfl⟩) _ h rfl)
def f_X4_hasBit_J25 (σ : jS) (y0 : Int32) : Option Int32 :=
  bG (jb y0) (
  some (y0))
set_option maxHeartbeats 1000000 in
set_option maxRecDepth 20000 in
theorem f_X4_hasBit_J25_ok {g : Bool} {rv : Option Value} {μ' : jM} (σ : jS) (y0 : Int32) {Kp : Int32 → Prop} (hn : Nat.ble nX μ'.1 = true ∧ Nat.ble wX μ'.2.1 = true) (hr : ∀ r : Int32, Kp (r) → rv = some (.int r) ∧ μ' = (eX σ)) (o : Int32) (h : f_X4_hasBit_J25 σ y0 = some o) (hK : Kp o) : J yX4_hasBit cX4_hasBit 2 (some .boolean) 2 g rv μ' 25 [] [.int y0] (eX σ) := by
  unfold f_X4_hasBit_J25 at h
  replace h := bG_inv h
  obtain ⟨hb, h⟩ := h
  replace h := Option.some.inj h
  subst h
  obtain ⟨hr1, hr2⟩ := hr _ hK
  exact j_zret (jb_nar hb) dX4_hasBit_25 hr1 hr2
def f_X4_hasBit (σ : jS) (x0 : Nat) (x1 : Int32) : Option Int32 :=
  bC (f_X6_at_ σ x0 (x1 >>> ((6 : Int32) &&& 31))) fun r1 =>
  if (lg_cmp ((r1 >>> ((x1 &&& (63 : Int32)).toInt64 &&& 63)) &&& (1 : Int64)) 0) = 0 then (f_X4_hasBit_J25 σ 0)
  else (f_X4_hasBit_J25 σ 1)
set_option maxHeartbeats 1000000 in
set_option maxRecDepth 20000 in
theorem f_X4_hasBit_ok {g : Bool} {rv : Option Value} {μ' : jM} (σ : jS) (x0 : Nat) (x1 : Int32) {Kp : Int32 → Prop} (hn : Nat.ble nX μ'.1 = true ∧ Nat.ble wX μ'.2.1 = true) (hr : ∀ r : Int32, Kp (r) → rv = some (.int r) ∧ μ' = (eX σ)) (o : Int32) (h : f_X4_hasBit σ x0 x1 = some o) (hK : Kp o) : J yX4_hasBit cX4_hasBit 2 (some .boolean) 2 g rv μ' 0 [(0, .ref x0), (1, .int x1)] [] (eX σ) := by
  unfold f_X4_hasBit at h
  refine j_aload_n 0 dX4_hasBit_0 rfl rfl ?_
  refine j_iload_n 1 dX4_hasBit_1 rfl rfl ?_
  refine j_bipush (v := 6) dX4_hasBit_2 (by decide) ?_
  refine j_ishr dX4_hasBit_4 ?_
  replace h := bC_inv h
  obtain ⟨r2, cr2, h⟩ := h
  refine j_callS (st1 := .long r2 :: _) (c_X6_at_ g cr2) jy_X6_at_ kt_yX6_at_ kl_RX4_58 dX4_hasBit_5 rfl rfl rfl rfl (jbr _) (jbr _) hn.1 hn.2 (Or.inr rfl) rfl ?_
  refine j_iload_n 1 dX4_hasBit_8 rfl rfl ?_
  refine j_bipush (v := 63) dX4_hasBit_9 (by decide) ?_
  refine j_iand dX4_hasBit_11 ?_
  refine j_lshr dX4_hasBit_12 ?_
  refine j_lconst (v := 1) dX4_hasBit_13 (by decide) ?_
  refine j_land dX4_hasBit_14 ?_
  refine j_lconst (v := 0) dX4_hasBit_15 (by decide) ?_
  refine j_lcmp dX4_hasBit_16 ?_
  refine j_if_eq 24 dX4_hasBit_17 (by decide) (fun hc3 => ?_) (fun hc3 => ?_)
  · replace h := jif_t hc3 h
    refine j_iconst (v := 0) dX4_hasBit_24 (by decide) ?_
    refine j_sub [] [] rfl ?_
    exact f_X4_hasBit_J25_ok σ 0 hn hr _ h hK
  · replace h := jif_f hc3 h
    refine j_iconst (v := 1) dX4_hasBit_20 (by decide) ?_
    refine j_goto 25 dX4_hasBit_21 (by decide) ?_
    refine j_sub [] [] rfl ?_
    exact f_X4_hasBit_J25_ok σ 1 hn hr _ h hK
theorem c_X4_hasBit (g : Bool) {σ : jS} {x0 : Nat} {x1 : Int32} {r : Int32} (h : f_X4_hasBit σ x0 x1 = some r) : Cn yX4_hasBit cX4_hasBit 2 (some .boolean) 2 g [.ref x0, .int x1] (eX σ) (some (.int r)) (eX σ) :=
  Cn_of (by decide) (Nat.le_refl _) (Nat.le_refl _) (Nat.le_of_ble_eq_true rfl) (f_X4_hasBit_ok (Kp := (fun o => o = r)) σ x0 x1 ⟨jbr _, jbr _⟩ (fun r2 q => by cases q; exact ⟨rfl, rfl⟩) _ h rfl)
def f_X4_putBit (σ : jS) (x0 : Nat) (x1 : Int32) : Option (Unit × jS) :=
  bC (f_X6_at_ σ x0 (x1 >>> ((6 : Int32) &&& 31))) fun r1 =>
  bD (f_X6_put_ σ x0 (x1 >>> ((6 : Int32) &&& 31)) (r1 ||| ((1 : Int64) <<< ((x1 &&& (63 : Int32)).toInt64 &&& 63)))) fun r2 σ3 =>
  some (((), σ3))
set_option maxHeartbeats 1000000 in
set_option maxRecDepth 20000 in
theorem f_X4_putBit_ok {g : Bool} {rv : Option Value} {μ' : jM} (σ : jS) (x0 : Nat) (x1 : Int32) {Kp : (Unit × jS) → Prop} (hn : Nat.ble nX μ'.1 = true ∧ Nat.ble wX μ'.2.1 = true) (hr : ∀ (r : Unit) (s : jS), Kp ((r, s)) → rv = none ∧ μ' = eX s) (o : (Unit × jS)) (h : f_X4_putBit σ x0 x1 = some o) (hK : Kp o) : J yX4_putBit cX4_putBit 2 none 2 g rv μ' 0 [(0, .ref x0), (1, .int x1)] [] (eX σ) := by
  unfold f_X4_putBit at h
  refine j_aload_n 0 dX4_putBit_0 rfl rfl ?_
  refine j_iload_n 1 dX4_putBit_1 rfl rfl ?_
  refine j_bipush (v := 6) dX4_putBit_2 (by decide) ?_
  refine j_ishr dX4_putBit_4 ?_
  refine j_aload_n 0 dX4_putBit_5 rfl rfl ?_
  refine j_iload_n 1 dX4_putBit_6 rfl rfl ?_
  refine j_bipush (v := 6) dX4_putBit_7 (by decide) ?_
  refine j_ishr dX4_putBit_9 ?_
  replace h := bC_inv h
  obtain ⟨r4, cr4, h⟩ := h
  refine j_callS (st1 := .long r4 :: _) (c_X6_at_ g cr4) jy_X6_at_ kt_yX6_at_ kl_RX4_58 dX4_putBit_10 rfl rfl rfl rfl (jbr _) (jbr _) hn.1 hn.2 (Or.inr rfl) rfl ?_
  refine j_lconst (v := 1) dX4_putBit_13 (by decide) ?_
  refine j_iload_n 1 dX4_putBit_14 rfl rfl ?_
  refine j_bipush (v := 63) dX4_putBit_15 (by decide) ?_
  refine j_iand dX4_putBit_17 ?_
  refine j_lshl dX4_putBit_18 ?_
  refine j_lor dX4_putBit_19 ?_
  replace h := bD_inv h
  obtain ⟨r5, σ6, cr5, h⟩ := h
  refine j_callS (st1 := _) (c_X6_put_ g cr5) jy_X6_put_ kt_yX6_put_ kl_RX4_127 dX4_putBit_20 rfl rfl rfl rfl (jbr _) (jbr _) hn.1 hn.2 (Or.inr rfl) rfl ?_
  replace h := Option.some.inj h
  subst h
  obtain ⟨hr1, hr2⟩ := hr _ _ hK
  exact j_vret dX4_putBit_23 hr1 hr2
theorem c_X4_putBit (g : Bool) {σ : jS} {x0 : Nat} {x1 : Int32} {r : Unit} {σ2 : jS} (h : f_X4_putBit σ x0 x1 = some (r, σ2)) : Cn yX4_putBit cX4_putBit 2 none 2 g [.ref x0, .int x1] (eX σ) none (eX σ2) :=
  Cn_of (by decide) (Nat.le_refl _) (Nat.le_refl _) (Nat.le_of_ble_eq_true rfl) (f_X4_putBit_ok (Kp := (fun o => o = (r, σ2))) σ x0 x1 ⟨jbr _, jbr _⟩ (fun r2 s2 q => by cases q; exact ⟨rfl, rfl⟩) _ h rfl)
def f_X4_spotAt_J18 (σ : jS) (y0 : Int32) : Option Int32 :=
  some (y0)
set_option maxHeartbeats 1000000 in
set_option maxRecDepth 20000 in
theorem f_X4_spotAt_J18_ok {g : Bool} {rv : Option Value} {μ' : jM} (σ : jS) (y0 : Int32) {Kp : Int32 → Prop} (hn : Nat.ble nX μ'.1 = true ∧ Nat.ble wX μ'.2.1 = true) (hr : ∀ r : Int32, Kp (r) → rv = some (.int r) ∧ μ' = (eX σ)) (o : Int32) (h : f_X4_spotAt_J18 σ y0 = some o) (hK : Kp o) : J yX4_spotAt cX4_spotAt 3 (some .int) 3 g rv μ' 18 [] [.int y0] (eX σ) := by
  unfold f_X4_spotAt_J18 at h
  replace h := Option.some.inj h
  subst h
  obtain ⟨hr1, hr2⟩ := hr _ hK
  exact j_iret dX4_spotAt_18 hr1 hr2
def f_X4_spotAt (σ : jS) (x1 : Int32) (x2 : Int32) : Option Int32 :=
  if x1 = 0 then (f_X4_spotAt_J18 σ x2)
  else (bC (f_X9_byTurn σ (x1 - (1 : Int32))) fun r1 =>
  f_X4_spotAt_J18 σ r1)
set_option maxHeartbeats 1000000 in
set_option maxRecDepth 20000 in
theorem f_X4_spotAt_ok {g : Bool} {rv : Option Value} {μ' : jM} (σ : jS) (x1 : Int32) (x2 : Int32) {Kp : Int32 → Prop} (hn : Nat.ble nX μ'.1 = true ∧ Nat.ble wX μ'.2.1 = true) (hr : ∀ r : Int32, Kp (r) → rv = some (.int r) ∧ μ' = (eX σ)) (o : Int32) (h : f_X4_spotAt σ x1 x2 = some o) (hK : Kp o) : J yX4_spotAt cX4_spotAt 3 (some .int) 3 g rv μ' 0 [(0, .ref 4), (1, .int x1), (2, .int x2)] [] (eX σ) := by
  unfold f_X4_spotAt at h
  refine j_iload_n 1 dX4_spotAt_0 rfl rfl ?_
  refine j_if_ne 8 dX4_spotAt_1 (by decide) (fun hc2 => ?_) (fun hc2 => ?_)
  · replace h := jif_f hc2 h
    refine j_aload_n 0 dX4_spotAt_8 rfl rfl ?_
    refine j_get (ci := 0) 0 (.ref 5) jC_0 dX4_spotAt_9 kg_RX4_105 rfl (okX_4 _) (shX_4 _) (fvX_4_0 _) ?_
    refine j_iload_n 1 dX4_spotAt_12 rfl rfl ?_
    refine j_iconst (v := 1) dX4_spotAt_13 (by decide) ?_
    refine j_isub dX4_spotAt_14 ?_
    replace h := bC_inv h
    obtain ⟨r3, cr3, h⟩ := h
    refine j_callV (ci := 8) (st1 := .int r3 :: _) (c_X9_byTurn g cr3) jy_X9_byTurn ki_yX9_byTurn ks_yX9_byTurn kl_RX4_109 dX4_spotAt_15 rfl (okX_5 _) (shX_5 _) rfl rfl rfl rfl (jbr _) (jbr _) hn.1 hn.2 (Or.inr rfl) rfl ?_
    refine j_sub [] [] rfl ?_
    exact f_X4_spotAt_J18_ok σ r3 hn hr _ h hK
  · replace h := jif_t hc2 h
    refine j_iload_n 2 dX4_spotAt_4 rfl rfl ?_
    refine j_goto 18 dX4_spotAt_5 (by decide) ?_
    refine j_sub [] [] rfl ?_
    exact f_X4_spotAt_J18_ok σ x2 hn hr _ h hK
theorem c_X4_spotAt (g : Bool) {σ : jS} {x1 : Int32} {x2 : Int32} {r : Int32} (h : f_X4_spotAt σ x1 x2 = some r) : Cn yX4_spotAt cX4_spotAt 3 (some .int) 3 g [.ref 4, .int x1, .int x2] (eX σ) (some (.int r)) (eX σ) :=
  Cn_of (by decide) (Nat.le_refl _) (Nat.le_refl _) (Nat.le_of_ble_eq_true rfl) (f_X4_spotAt_ok (Kp := (fun o => o = r)) σ x1 x2 ⟨jbr _, jbr _⟩ (fun r2 q => by cases q; exact ⟨rfl, rfl⟩) _ h rfl)
def f_X9_leadsBy_J50 (σ : jS) (y0 : Int32) : Option Int32 :=
  bG (jb y0) (
  some (y0))
set_option maxHeartbeats 1000000 in
set_option maxRecDepth 20000 in
theorem f_X9_leadsBy_J50_ok {g : Bool} {rv : Option Value} {μ' : jM} (σ : jS) (y0 : Int32) {Kp : Int32 → Prop} (hn : Nat.ble nX μ'.1 = true ∧ Nat.ble wX μ'.2.1 = true) (hr : ∀ r : Int32, Kp (r) → rv = some (.int r) ∧ μ' = (eX σ)) (o : Int32) (h : f_X9_leadsBy_J50 σ y0 = some o) (hK : Kp o) : J yX9_leadsBy cX9_leadsBy 3 (some .boolean) 3 g rv μ' 50 [] [.int y0] (eX σ) := by
  unfold f_X9_leadsBy_J50 at h
  replace h := bG_inv h
  obtain ⟨hb, h⟩ := h
  replace h := Option.some.inj h
  subst h
  obtain ⟨hr1, hr2⟩ := hr _ hK
  exact j_zret (jb_nar hb) dX9_leadsBy_50 hr1 hr2
def f_X9_leadsBy (σ : jS) (x1 : Int32) (x2 : Int32) : Option Int32 :=
  bC (f_X6_at σ 6 x1) fun r1 =>
  bC (f_X6_at σ 7 ((16 : Int32) + x2)) fun r2 =>
  if r1 = r2 then (bC (f_X6_at_ σ 8 x1) fun r3 =>
  bC (f_X9_byTurn σ x2) fun r4 =>
  if (lg_cmp ((r3 >>> (r4.toInt64 &&& 63)) &&& (1 : Int64)) 0) = 0 then (f_X9_leadsBy_J50 σ 0)
  else (f_X9_leadsBy_J50 σ 1))
  else (some (0))
set_option maxHeartbeats 1000000 in
set_option maxRecDepth 20000 in
theorem f_X9_leadsBy_ok {g : Bool} {rv : Option Value} {μ' : jM} (σ : jS) (x1 : Int32) (x2 : Int32) {Kp : Int32 → Prop} (hn : Nat.ble nX μ'.1 = true ∧ Nat.ble wX μ'.2.1 = true) (hr : ∀ r : Int32, Kp (r) → rv = some (.int r) ∧ μ' = (eX σ)) (o : Int32) (h : f_X9_leadsBy σ x1 x2 = some o) (hK : Kp o) : J yX9_leadsBy cX9_leadsBy 3 (some .boolean) 3 g rv μ' 0 [(0, .ref 5), (1, .int x1), (2, .int x2)] [] (eX σ) := by
  unfold f_X9_leadsBy at h
  refine j_aload_n 0 dX9_leadsBy_0 rfl rfl ?_
  refine j_get (ci := 8) 0 (.ref 6) jC_8 dX9_leadsBy_1 kg_RX9_9 rfl (okX_5 _) (shX_5 _) (fvX_5_0 _) ?_
  refine j_iload_n 1 dX9_leadsBy_4 rfl rfl ?_
  replace h := bC_inv h
  obtain ⟨r5, cr5, h⟩ := h
  refine j_callS (st1 := .int r5 :: _) (c_X6_at g cr5) jy_X6_at kt_yX6_at kl_RX9_51 dX9_leadsBy_5 rfl rfl rfl rfl (jbr _) (jbr _) hn.1 hn.2 (Or.inr rfl) rfl ?_
  refine j_aload_n 0 dX9_leadsBy_8 rfl rfl ?_
  refine j_get (ci := 8) 1 (.ref 7) jC_8 dX9_leadsBy_9 kg_RX9_15 rfl (okX_5 _) (shX_5 _) (fvX_5_1 _) ?_
  refine j_bipush (v := 16) dX9_leadsBy_12 (by decide) ?_
  refine j_iload_n 2 dX9_leadsBy_14 rfl rfl ?_
  refine j_iadd dX9_leadsBy_15 ?_
  replace h := bC_inv h
  obtain ⟨r6, cr6, h⟩ := h
  refine j_callS (st1 := .int r6 :: _) (c_X6_at g cr6) jy_X6_at kt_yX6_at kl_RX9_51 dX9_leadsBy_16 rfl rfl rfl rfl (jbr _) (jbr _) hn.1 hn.2 (Or.inr rfl) rfl ?_
  refine j_icmp_eq 24 dX9_leadsBy_19 (by decide) (fun hc7 => ?_) (fun hc7 => ?_)
  · replace h := jif_t hc7 h
    refine j_aload_n 0 dX9_leadsBy_24 rfl rfl ?_
    refine j_get (ci := 8) 2 (.ref 8) jC_8 dX9_leadsBy_25 kg_RX9_18 rfl (okX_5 _) (shX_5 _) (fvX_5_2 _) ?_
    refine j_iload_n 1 dX9_leadsBy_28 rfl rfl ?_
    replace h := bC_inv h
    obtain ⟨r8, cr8, h⟩ := h
    refine j_callS (st1 := .long r8 :: _) (c_X6_at_ g cr8) jy_X6_at_ kt_yX6_at_ kl_RX9_69 dX9_leadsBy_29 rfl rfl rfl rfl (jbr _) (jbr _) hn.1 hn.2 (Or.inr rfl) rfl ?_
    refine j_aload_n 0 dX9_leadsBy_32 rfl rfl ?_
    refine j_iload_n 2 dX9_leadsBy_33 rfl rfl ?_
    replace h := bC_inv h
    obtain ⟨r9, cr9, h⟩ := h
    refine j_callV (ci := 8) (st1 := .int r9 :: _) (c_X9_byTurn g cr9) jy_X9_byTurn ki_yX9_byTurn ks_yX9_byTurn kl_RX9_72 dX9_leadsBy_34 rfl (okX_5 _) (shX_5 _) rfl rfl rfl rfl (jbr _) (jbr _) hn.1 hn.2 (Or.inr rfl) rfl ?_
    refine j_lshr dX9_leadsBy_37 ?_
    refine j_lconst (v := 1) dX9_leadsBy_38 (by decide) ?_
    refine j_land dX9_leadsBy_39 ?_
    refine j_lconst (v := 0) dX9_leadsBy_40 (by decide) ?_
    refine j_lcmp dX9_leadsBy_41 ?_
    refine j_if_eq 49 dX9_leadsBy_42 (by decide) (fun hc10 => ?_) (fun hc10 => ?_)
    · replace h := jif_t hc10 h
      refine j_iconst (v := 0) dX9_leadsBy_49 (by decide) ?_
      refine j_sub [] [] rfl ?_
      exact f_X9_leadsBy_J50_ok σ 0 hn hr _ h hK
    · replace h := jif_f hc10 h
      refine j_iconst (v := 1) dX9_leadsBy_45 (by decide) ?_
      refine j_goto 50 dX9_leadsBy_46 (by decide) ?_
      refine j_sub [] [] rfl ?_
      exact f_X9_leadsBy_J50_ok σ 1 hn hr _ h hK
  · replace h := jif_f hc7 h
    refine j_iconst (v := 0) dX9_leadsBy_22 (by decide) ?_
    replace h := Option.some.inj h
    subst h
    obtain ⟨hr1, hr2⟩ := hr _ hK
    exact j_zret rfl dX9_leadsBy_23 hr1 hr2
theorem c_X9_leadsBy (g : Bool) {σ : jS} {x1 : Int32} {x2 : Int32} {r : Int32} (h : f_X9_leadsBy σ x1 x2 = some r) : Cn yX9_leadsBy cX9_leadsBy 3 (some .boolean) 3 g [.ref 5, .int x1, .int x2] (eX σ) (some (.int r)) (eX σ) :=
  Cn_of (by decide) (Nat.le_refl _) (Nat.le_refl _) (Nat.le_of_ble_eq_true rfl) (f_X9_leadsBy_ok (Kp := (fun o => o = r)) σ x1 x2 ⟨jbr _, jbr _⟩ (fun r2 q => by cases q; exact ⟨rfl, rfl⟩) _ h rfl)
def f_X4_usable_J96 (σ : jS) (x6 : Int32) : Option Int32 :=
  some (x6)
set_option maxHeartbeats 1000000 in
set_option maxRecDepth 20000 in
theorem f_X4_usable_J96_ok {g : Bool} {rv : Option Value} {μ' : jM} (σ : jS) (x6 : Int32) {Kp : Int32 → Prop} (hn : Nat.ble nX μ'.1 = true ∧ Nat.ble wX μ'.2.1 = true) (hr : ∀ r : Int32, Kp (r) → rv = some (.int r) ∧ μ' = (eX σ)) (o : Int32) (h : f_X4_usable_J96 σ x6 = some o) (hK : Kp o) : J yX4_usable cX4_usable 8 (some .int) 4 g rv μ' 96 [(6, .int x6)] [] (eX σ) := by
  unfold f_X4_usable_J96 at h
  refine j_iload 0 dX4_usable_96 rfl ?_
  replace h := Option.some.inj h
  subst h
  obtain ⟨hr1, hr2⟩ := hr _ hK
  exact j_iret dX4_usable_98 hr1 hr2
def f_X4_usable_J90 (σ : jS) (x2 : Int32) (x3 : Int32) (x4 : Int32) (x5 : Int32) (x6 : Int32) (x7 : Int32) : Option ((Int32 × Int32) ⊕ Int32) :=
  bV (x7 + 1) fun v3 =>
  some (.inl (x6, v3))
set_option maxHeartbeats 1000000 in
set_option maxRecDepth 20000 in
theorem f_X4_usable_J90_ok {g : Bool} {rv : Option Value} {μ' : jM} (σ : jS) (x2 : Int32) (x3 : Int32) (x4 : Int32) (x5 : Int32) (x6 : Int32) (x7 : Int32) {Kp : ((Int32 × Int32) ⊕ Int32) → Prop} (hn : Nat.ble nX μ'.1 = true ∧ Nat.ble wX μ'.2.1 = true) (hr : ∀ r : Int32, Kp (.inr (r)) → rv = some (.int r) ∧ μ' = (eX σ)) (hc0 : ∀ s : (Int32 × Int32), Kp (.inl s) → J yX4_usable cX4_usable 8 (some .int) 4 g rv μ' 22 [(0, .ref 17), (1, .ref 4), (2, .int x2), (3, .int x3), (4, .int x4), (5, .int x5), (6, .int s.1), (7, .int s.2)] [] (eX σ)) (o : ((Int32 × Int32) ⊕ Int32)) (h : f_X4_usable_J90 σ x2 x3 x4 x5 x6 x7 = some o) (hK : Kp o) : J yX4_usable cX4_usable 8 (some .int) 4 g rv μ' 90 [(0, .ref 17), (1, .ref 4), (2, .int x2), (3, .int x3), (4, .int x4), (5, .int x5), (6, .int x6), (7, .int x7)] [] (eX σ) := by
  unfold f_X4_usable_J90 at h
  replace h := bV_inv h
  obtain ⟨v4, ev4, h⟩ := h
  refine j_iinc (v := v4) [(7, .int v4), (0, .ref 17), (1, .ref 4), (2, .int x2), (3, .int x3), (4, .int x4), (5, .int x5), (6, .int x6)] 7 dX4_usable_90 rfl (by rw [ev4]; rfl) (Nat.le_of_ble_eq_true rfl) rfl ?_
  refine j_goto 22 dX4_usable_93 (by decide) ?_
  replace h := Option.some.inj h
  subst h
  refine j_sub [(0, .ref 17), (1, .ref 4), (2, .int x2), (3, .int x3), (4, .int x4), (5, .int x5), (6, .int x6), (7, .int v4)] [1, 2, 3, 4, 5, 6, 7, 0] rfl ?_
  exact hc0 _ hK
def f_X4_usable_B22 (σ : jS) (x2 : Int32) (x3 : Int32) (x4 : Int32) (x5 : Int32) (x6 : Int32) (x7 : Int32) : Option ((Int32 × Int32) ⊕ Int32) :=
  if (gI σ 17 2) ≤ x7 then (jw (f_X4_usable_J96 σ x6))
  else (if ((x3 >>> (x7 &&& 31)) &&& (1 : Int32)) = 0 then (bC (f_X6_at σ 6 ((16 : Int32) + x7)) fun r5 =>
  if r5 = x5 then (f_X4_usable_J90 σ x2 x3 x4 x5 x6 x7)
  else (bC (f_X0_spot x2 x4) fun r6 =>
  bC (f_X9_leadsBy σ r6 x7) fun r7 =>
  if r7 = 0 then (f_X4_usable_J90 σ x2 x3 x4 x5 x6 x7)
  else (bV (x6 ||| ((1 : Int32) <<< (x7 &&& 31))) fun v8 =>
  f_X4_usable_J90 σ x2 x3 x4 x5 v8 x7)))
  else (f_X4_usable_J90 σ x2 x3 x4 x5 x6 x7))
set_option maxHeartbeats 1000000 in
set_option maxRecDepth 20000 in
theorem f_X4_usable_B22_ok {g : Bool} {rv : Option Value} {μ' : jM} (σ : jS) (x2 : Int32) (x3 : Int32) (x4 : Int32) (x5 : Int32) (x6 : Int32) (x7 : Int32) {Kp : ((Int32 × Int32) ⊕ Int32) → Prop} (hn : Nat.ble nX μ'.1 = true ∧ Nat.ble wX μ'.2.1 = true) (hr : ∀ r : Int32, Kp (.inr (r)) → rv = some (.int r) ∧ μ' = (eX σ)) (hc0 : ∀ s : (Int32 × Int32), Kp (.inl s) → J yX4_usable cX4_usable 8 (some .int) 4 g rv μ' 22 [(0, .ref 17), (1, .ref 4), (2, .int x2), (3, .int x3), (4, .int x4), (5, .int x5), (6, .int s.1), (7, .int s.2)] [] (eX σ)) (o : ((Int32 × Int32) ⊕ Int32)) (h : f_X4_usable_B22 σ x2 x3 x4 x5 x6 x7 = some o) (hK : Kp o) : J yX4_usable cX4_usable 8 (some .int) 4 g rv μ' 22 [(0, .ref 17), (1, .ref 4), (2, .int x2), (3, .int x3), (4, .int x4), (5, .int x5), (6, .int x6), (7, .int x7)] [] (eX σ) := by
  unfold f_X4_usable_B22 at h
  refine j_iload 7 dX4_usable_22 rfl ?_
  refine j_aload_n 0 dX4_usable_24 rfl rfl ?_
  refine j_get (ci := 4) 2 (.int (gI σ 17 2)) jC_4 dX4_usable_25 kg_RX4_30 rfl (okX_17 _) (shX_17 _) (fvX_17_2 _) ?_
  refine j_icmp_ge 96 dX4_usable_28 (by decide) (fun hc9 => ?_) (fun hc9 => ?_)
  · replace h := jif_t hc9 h
    replace h := jw_inv h
    obtain ⟨o10, rfl, h⟩ := h
    refine j_sub [(6, .int x6)] [6] rfl ?_
    exact f_X4_usable_J96_ok (Kp := fun o => Kp (.inr (o))) σ x6 hn (fun r q => hr r q) _ h hK
  · replace h := jif_f hc9 h
    refine j_iload_n 3 dX4_usable_31 rfl rfl ?_
    refine j_iload 7 dX4_usable_32 rfl ?_
    refine j_ishr dX4_usable_34 ?_
    refine j_iconst (v := 1) dX4_usable_35 (by decide) ?_
    refine j_iand dX4_usable_36 ?_
    refine j_if_ne 90 dX4_usable_37 (by decide) (fun hc11 => ?_) (fun hc11 => ?_)
    · replace h := jif_f hc11 h
      exact f_X4_usable_J90_ok σ x2 x3 x4 x5 x6 x7 hn hr hc0 _ h hK
    · replace h := jif_t hc11 h
      refine j_aload_n 1 dX4_usable_40 rfl rfl ?_
      refine j_get (ci := 0) 0 (.ref 5) jC_0 dX4_usable_41 kg_RX4_105 rfl (okX_4 _) (shX_4 _) (fvX_4_0 _) ?_
      refine j_get (ci := 8) 0 (.ref 6) jC_8 dX4_usable_44 kg_RX4_117 rfl (okX_5 _) (shX_5 _) (fvX_5_0 _) ?_
      refine j_bipush (v := 16) dX4_usable_47 (by decide) ?_
      refine j_iload 7 dX4_usable_49 rfl ?_
      refine j_iadd dX4_usable_51 ?_
      replace h := bC_inv h
      obtain ⟨r12, cr12, h⟩ := h
      refine j_callS (st1 := .int r12 :: _) (c_X6_at g cr12) jy_X6_at kt_yX6_at kl_RX4_66 dX4_usable_52 rfl rfl rfl rfl (jbr _) (jbr _) hn.1 hn.2 (Or.inr rfl) rfl ?_
      refine j_iload 5 dX4_usable_55 rfl ?_
      refine j_icmp_ne 63 dX4_usable_57 (by decide) (fun hc13 => ?_) (fun hc13 => ?_)
      · replace h := jif_f hc13 h
        refine j_aload_n 1 dX4_usable_63 rfl rfl ?_
        refine j_get (ci := 0) 0 (.ref 5) jC_0 dX4_usable_64 kg_RX4_105 rfl (okX_4 _) (shX_4 _) (fvX_4_0 _) ?_
        refine j_iload_n 2 dX4_usable_67 rfl rfl ?_
        refine j_iload 4 dX4_usable_68 rfl ?_
        replace h := bC_inv h
        obtain ⟨r14, cr14, h⟩ := h
        refine j_callS (st1 := .int r14 :: _) (c_X0_spot g _ cr14) jy_X0_spot kt_yX0_spot kl_RX4_120 dX4_usable_70 rfl rfl rfl rfl (jbr _) (jbr _) hn.1 hn.2 (Or.inr rfl) rfl ?_
        refine j_iload 7 dX4_usable_73 rfl ?_
        replace h := bC_inv h
        obtain ⟨r15, cr15, h⟩ := h
        refine j_callV (ci := 8) (st1 := .int r15 :: _) (c_X9_leadsBy g cr15) jy_X9_leadsBy ki_yX9_leadsBy ks_yX9_leadsBy kl_RX4_123 dX4_usable_75 rfl (okX_5 _) (shX_5 _) rfl rfl rfl rfl (jbr _) (jbr _) hn.1 hn.2 (Or.inr rfl) rfl ?_
        refine j_if_eq 90 dX4_usable_78 (by decide) (fun hc16 => ?_) (fun hc16 => ?_)
        · replace h := jif_t hc16 h
          exact f_X4_usable_J90_ok σ x2 x3 x4 x5 x6 x7 hn hr hc0 _ h hK
        · replace h := jif_f hc16 h
          refine j_iload 6 dX4_usable_81 rfl ?_
          refine j_iconst (v := 1) dX4_usable_83 (by decide) ?_
          refine j_iload 7 dX4_usable_84 rfl ?_
          refine j_ishl dX4_usable_86 ?_
          refine j_ior dX4_usable_87 ?_
          replace h := bV_inv h
          obtain ⟨v17, ev17, h⟩ := h
          refine j_nmi ev17 ?_
          refine j_istore [(6, .int v17), (0, .ref 17), (1, .ref 4), (2, .int x2), (3, .int x3), (4, .int x4), (5, .int x5), (7, .int x7)] dX4_usable_88 (Nat.le_of_ble_eq_true rfl) rfl ?_
          refine j_sub [(0, .ref 17), (1, .ref 4), (2, .int x2), (3, .int x3), (4, .int x4), (5, .int x5), (6, .int v17), (7, .int x7)] [1, 2, 3, 4, 5, 6, 0, 7] rfl ?_
          exact f_X4_usable_J90_ok σ x2 x3 x4 x5 v17 x7 hn hr hc0 _ h hK
      · replace h := jif_t hc13 h
        refine j_goto 90 dX4_usable_60 (by decide) ?_
        exact f_X4_usable_J90_ok σ x2 x3 x4 x5 x6 x7 hn hr hc0 _ h hK
def f_X4_usable (σ : jS) (x2 : Int32) (x3 : Int32) : Option Int32 :=
  bV (x2 &&& (1 : Int32)) fun v1 =>
  bC (f_X0_holder σ x2 ((1 : Int32) - v1)) fun r2 =>
  jloop jFuel (fun s => f_X4_usable_B22 σ x2 x3 v1 r2 s.1 s.2) (0, 0)
set_option maxHeartbeats 1000000 in
set_option maxRecDepth 20000 in
theorem f_X4_usable_ok {g : Bool} {rv : Option Value} {μ' : jM} (σ : jS) (x2 : Int32) (x3 : Int32) {Kp : Int32 → Prop} (hn : Nat.ble nX μ'.1 = true ∧ Nat.ble wX μ'.2.1 = true) (hr : ∀ r : Int32, Kp (r) → rv = some (.int r) ∧ μ' = (eX σ)) (o : Int32) (h : f_X4_usable σ x2 x3 = some o) (hK : Kp o) : J yX4_usable cX4_usable 8 (some .int) 4 g rv μ' 0 [(0, .ref 17), (1, .ref 4), (2, .int x2), (3, .int x3)] [] (eX σ) := by
  unfold f_X4_usable at h
  refine j_iload_n 2 dX4_usable_0 rfl rfl ?_
  refine j_iconst (v := 1) dX4_usable_1 (by decide) ?_
  refine j_iand dX4_usable_2 ?_
  replace h := bV_inv h
  obtain ⟨v18, ev18, h⟩ := h
  refine j_nmi ev18 ?_
  refine j_istore [(4, .int v18), (0, .ref 17), (1, .ref 4), (2, .int x2), (3, .int x3)] dX4_usable_3 (Nat.le_of_ble_eq_true rfl) rfl ?_
  refine j_aload_n 2 dX4_usable_5 rfl rfl ?_
  refine j_iload_n 3 dX4_usable_6 rfl rfl ?_
  refine j_iconst (v := 1) dX4_usable_7 (by decide) ?_
  refine j_iload 0 dX4_usable_8 rfl ?_
  refine j_isub dX4_usable_10 ?_
  replace h := bC_inv h
  obtain ⟨r19, cr19, h⟩ := h
  refine j_callV (ci := 0) (st1 := .int r19 :: _) (c_X0_holder g cr19) jy_X0_holder ki_yX0_holder ks_yX0_holder kl_RX4_114 dX4_usable_11 rfl (okX_4 _) (shX_4 _) rfl rfl rfl rfl (jbr _) (jbr _) hn.1 hn.2 (Or.inr rfl) rfl ?_
  refine j_istore [(5, .int r19), (4, .int v18), (0, .ref 17), (1, .ref 4), (2, .int x2), (3, .int x3)] dX4_usable_14 (Nat.le_of_ble_eq_true rfl) rfl ?_
  refine j_iconst (v := 0) dX4_usable_16 (by decide) ?_
  refine j_istore [(6, .int 0), (5, .int r19), (4, .int v18), (0, .ref 17), (1, .ref 4), (2, .int x2), (3, .int x3)] dX4_usable_17 (Nat.le_of_ble_eq_true rfl) rfl ?_
  refine j_iconst (v := 0) dX4_usable_19 (by decide) ?_
  refine j_istore [(7, .int 0), (6, .int 0), (5, .int r19), (4, .int v18), (0, .ref 17), (1, .ref 4), (2, .int x2), (3, .int x3)] dX4_usable_20 (Nat.le_of_ble_eq_true rfl) rfl ?_
  refine j_sub [(0, .ref 17), (1, .ref 4), (2, .int x2), (3, .int x3), (4, .int v18), (5, .int r19), (6, .int 0), (7, .int 0)] [4, 5, 6, 7, 3, 2, 1, 0] rfl ?_
  exact jloop_ok (fun s => f_X4_usable_B22 σ x2 x3 v18 r19 s.1 s.2) (fun s => J yX4_usable cX4_usable 8 (some .int) 4 g rv μ' 22 [(0, .ref 17), (1, .ref 4), (2, .int x2), (3, .int x3), (4, .int v18), (5, .int r19), (6, .int s.1), (7, .int s.2)] [] (eX σ)) Kp (fun s o hb hk => f_X4_usable_B22_ok (Kp := jsum (fun s => J yX4_usable cX4_usable 8 (some .int) 4 g rv μ' 22 [(0, .ref 17), (1, .ref 4), (2, .int x2), (3, .int x3), (4, .int v18), (5, .int r19), (6, .int s.1), (7, .int s.2)] [] (eX σ)) Kp) σ x2 x3 v18 r19 s.1 s.2 hn (fun r q => hr r q) (fun s q => q) o hb hk) jFuel _ _ h hK
theorem c_X4_usable (g : Bool) {σ : jS} {x2 : Int32} {x3 : Int32} {r : Int32} (h : f_X4_usable σ x2 x3 = some r) : Cn yX4_usable cX4_usable 8 (some .int) 4 g [.ref 17, .ref 4, .int x2, .int x3] (eX σ) (some (.int r)) (eX σ) :=
  Cn_of (by decide) (Nat.le_refl _) (Nat.le_refl _) (Nat.le_of_ble_eq_true rfl) (f_X4_usable_ok (Kp := (fun o => o = r)) σ x2 x3 ⟨jbr _, jbr _⟩ (fun r2 q => by cases q; exact ⟨rfl, rfl⟩) _ h rfl)
def f_X4_carry_J45 (rc : jS → Int32 → Int32 → Int32 → Int32 → Option (Unit × jS)) (σ : jS) : Option (Unit × jS) :=
  some (((), σ))
set_option maxHeartbeats 1000000 in
set_option maxRecDepth 20000 in
theorem f_X4_carry_J45_ok {nr : Nat} {g : Bool} {rv : Option Value} {μ' : jM} (rc : jS → Int32 → Int32 → Int32 → Int32 → Option (Unit × jS)) (σ : jS) {Kp : (Unit × jS) → Prop} (hn : Nat.ble nX μ'.1 = true ∧ Nat.ble wX μ'.2.1 = true) (hrc : ∀ (g : Bool) (s : jS) (a2 : Int32) (a3 : Int32) (a4 : Int32) (a5 : Int32) (r : Unit) (s2 : jS), rc s a2 a3 a4 a5 = some (r, s2) → Cn yX4_carry cX4_carry 11 none (5 + nr - 1) g [.ref 17, .ref 4, .int a2, .int a3, .int a4, .int a5] (eX s) (none) (eX s2)) (hr : ∀ (r : Unit) (s : jS), Kp ((r, s)) → rv = none ∧ μ' = eX s) (o : (Unit × jS)) (h : f_X4_carry_J45 rc σ = some o) (hK : Kp o) : J yX4_carry cX4_carry 11 none (5 + nr) g rv μ' 45 [] [] (eX σ) := by
  unfold f_X4_carry_J45 at h
  replace h := Option.some.inj h
  subst h
  obtain ⟨hr1, hr2⟩ := hr _ _ hK
  exact j_vret dX4_carry_45 hr1 hr2
def f_X4_carry_J232 (rc : jS → Int32 → Int32 → Int32 → Int32 → Option (Unit × jS)) (σ : jS) : Option (Unit × jS) :=
  some (((), σ))
set_option maxHeartbeats 1000000 in
set_option maxRecDepth 20000 in
theorem f_X4_carry_J232_ok {nr : Nat} {g : Bool} {rv : Option Value} {μ' : jM} (rc : jS → Int32 → Int32 → Int32 → Int32 → Option (Unit × jS)) (σ : jS) {Kp : (Unit × jS) → Prop} (hn : Nat.ble nX μ'.1 = true ∧ Nat.ble wX μ'.2.1 = true) (hrc : ∀ (g : Bool) (s : jS) (a2 : Int32) (a3 : Int32) (a4 : Int32) (a5 : Int32) (r : Unit) (s2 : jS), rc s a2 a3 a4 a5 = some (r, s2) → Cn yX4_carry cX4_carry 11 none (5 + nr - 1) g [.ref 17, .ref 4, .int a2, .int a3, .int a4, .int a5] (eX s) (none) (eX s2)) (hr : ∀ (r : Unit) (s : jS), Kp ((r, s)) → rv = none ∧ μ' = eX s) (o : (Unit × jS)) (h : f_X4_carry_J232 rc σ = some o) (hK : Kp o) : J yX4_carry cX4_carry 11 none (5 + nr) g rv μ' 232 [] [] (eX σ) := by
  unfold f_X4_carry_J232 at h
  replace h := Option.some.inj h
  subst h
  obtain ⟨hr1, hr2⟩ := hr _ _ hK
  exact j_vret dX4_carry_232 hr1 hr2
def f_X4_carry_J226 (rc : jS → Int32 → Int32 → Int32 → Int32 → Option (Unit × jS)) (σ : jS) (x2 : Int32) (x3 : Int32) (x4 : Int32) (x5 : Int32) (x6 : Int32) (x9 : Int32) (x10 : Int32) : Option ((Int32 × jS) ⊕ (Unit × jS)) :=
  bV (x10 + 1) fun v13 =>
  some (.inl (v13, σ))
set_option maxHeartbeats 1000000 in
set_option maxRecDepth 20000 in
theorem f_X4_carry_J226_ok {nr : Nat} {g : Bool} {rv : Option Value} {μ' : jM} (rc : jS → Int32 → Int32 → Int32 → Int32 → Option (Unit × jS)) (σ : jS) (x2 : Int32) (x3 : Int32) (x4 : Int32) (x5 : Int32) (x6 : Int32) (x9 : Int32) (x10 : Int32) {Kp : ((Int32 × jS) ⊕ (Unit × jS)) → Prop} (hn : Nat.ble nX μ'.1 = true ∧ Nat.ble wX μ'.2.1 = true) (hrc : ∀ (g : Bool) (s : jS) (a2 : Int32) (a3 : Int32) (a4 : Int32) (a5 : Int32) (r : Unit) (s2 : jS), rc s a2 a3 a4 a5 = some (r, s2) → Cn yX4_carry cX4_carry 11 none (5 + nr - 1) g [.ref 17, .ref 4, .int a2, .int a3, .int a4, .int a5] (eX s) (none) (eX s2)) (hr : ∀ (r : Unit) (s : jS), Kp (.inr ((r, s))) → rv = none ∧ μ' = eX s) (hc0 : ∀ s : (Int32 × jS), Kp (.inl s) → J yX4_carry cX4_carry 11 none (5 + nr) g rv μ' 154 [(0, .ref 17), (1, .ref 4), (2, .int x2), (3, .int x3), (4, .int x4), (5, .int x5), (6, .int x6), (9, .int x9), (10, .int s.1)] [] (eX s.2)) (o : ((Int32 × jS) ⊕ (Unit × jS))) (h : f_X4_carry_J226 rc σ x2 x3 x4 x5 x6 x9 x10 = some o) (hK : Kp o) : J yX4_carry cX4_carry 11 none (5 + nr) g rv μ' 226 [(0, .ref 17), (1, .ref 4), (2, .int x2), (3, .int x3), (4, .int x4), (5, .int x5), (6, .int x6), (9, .int x9), (10, .int x10)] [] (eX σ) := by
  unfold f_X4_carry_J226 at h
  replace h := bV_inv h
  obtain ⟨v14, ev14, h⟩ := h
  refine j_iinc (v := v14) [(10, .int v14), (0, .ref 17), (1, .ref 4), (2, .int x2), (3, .int x3), (4, .int x4), (5, .int x5), (6, .int x6), (9, .int x9)] 8 dX4_carry_226 rfl (by rw [ev14]; rfl) (Nat.le_of_ble_eq_true rfl) rfl ?_
  refine j_goto 154 dX4_carry_229 (by decide) ?_
  replace h := Option.some.inj h
  subst h
  refine j_sub [(0, .ref 17), (1, .ref 4), (2, .int x2), (3, .int x3), (4, .int x4), (5, .int x5), (6, .int x6), (9, .int x9), (10, .int v14)] [1, 2, 3, 4, 5, 6, 7, 8, 0] rfl ?_
  exact hc0 _ hK
def f_X4_carry_B154 (rc : jS → Int32 → Int32 → Int32 → Int32 → Option (Unit × jS)) (σ : jS) (x2 : Int32) (x3 : Int32) (x4 : Int32) (x5 : Int32) (x6 : Int32) (x9 : Int32) (x10 : Int32) : Option ((Int32 × jS) ⊕ (Unit × jS)) :=
  if (gI σ 17 2) ≤ x10 then (jw (f_X4_carry_J232 rc σ))
  else (if ((x9 >>> (x10 &&& 31)) &&& (1 : Int32)) = 0 then (f_X4_carry_J226 rc σ x2 x3 x4 x5 x6 x9 x10)
  else (if x6 = 0 then (bD (rc σ (x10 + (1 : Int32)) x3 (x4 ||| ((1 : Int32) <<< (x10 &&& 31))) (x5 + (1 : Int32))) fun r15 σ16 =>
  f_X4_carry_J226 rc σ16 x2 x3 x4 x5 x6 x9 x10)
  else (bD (rc σ x2 (x10 + (1 : Int32)) (x4 ||| ((1 : Int32) <<< (x10 &&& 31))) (x5 + (1 : Int32))) fun r11 σ12 =>
  f_X4_carry_J226 rc σ12 x2 x3 x4 x5 x6 x9 x10)))
set_option maxHeartbeats 1000000 in
set_option maxRecDepth 20000 in
theorem f_X4_carry_B154_ok {nr : Nat} {g : Bool} {rv : Option Value} {μ' : jM} (rc : jS → Int32 → Int32 → Int32 → Int32 → Option (Unit × jS)) (σ : jS) (x2 : Int32) (x3 : Int32) (x4 : Int32) (x5 : Int32) (x6 : Int32) (x9 : Int32) (x10 : Int32) {Kp : ((Int32 × jS) ⊕ (Unit × jS)) → Prop} (hn : Nat.ble nX μ'.1 = true ∧ Nat.ble wX μ'.2.1 = true) (hrc : ∀ (g : Bool) (s : jS) (a2 : Int32) (a3 : Int32) (a4 : Int32) (a5 : Int32) (r : Unit) (s2 : jS), rc s a2 a3 a4 a5 = some (r, s2) → Cn yX4_carry cX4_carry 11 none (5 + nr - 1) g [.ref 17, .ref 4, .int a2, .int a3, .int a4, .int a5] (eX s) (none) (eX s2)) (hr : ∀ (r : Unit) (s : jS), Kp (.inr ((r, s))) → rv = none ∧ μ' = eX s) (hc0 : ∀ s : (Int32 × jS), Kp (.inl s) → J yX4_carry cX4_carry 11 none (5 + nr) g rv μ' 154 [(0, .ref 17), (1, .ref 4), (2, .int x2), (3, .int x3), (4, .int x4), (5, .int x5), (6, .int x6), (9, .int x9), (10, .int s.1)] [] (eX s.2)) (o : ((Int32 × jS) ⊕ (Unit × jS))) (h : f_X4_carry_B154 rc σ x2 x3 x4 x5 x6 x9 x10 = some o) (hK : Kp o) : J yX4_carry cX4_carry 11 none (5 + nr) g rv μ' 154 [(0, .ref 17), (1, .ref 4), (2, .int x2), (3, .int x3), (4, .int x4), (5, .int x5), (6, .int x6), (9, .int x9), (10, .int x10)] [] (eX σ) := by
  unfold f_X4_carry_B154 at h
  refine j_iload 8 dX4_carry_154 rfl ?_
  refine j_aload_n 0 dX4_carry_156 rfl rfl ?_
  refine j_get (ci := 4) 2 (.int (gI σ 17 2)) jC_4 dX4_carry_157 kg_RX4_30 rfl (okX_17 _) (shX_17 _) (fvX_17_2 _) ?_
  refine j_icmp_ge 232 dX4_carry_160 (by decide) (fun hc17 => ?_) (fun hc17 => ?_)
  · replace h := jif_t hc17 h
    replace h := jw_inv h
    obtain ⟨o18, rfl, h⟩ := h
    refine j_sub [] [] rfl ?_
    exact f_X4_carry_J232_ok (Kp := fun o => Kp (.inr (o))) rc σ hn hrc (fun r s q => hr r s q) _ h hK
  · replace h := jif_f hc17 h
    refine j_iload 7 dX4_carry_163 rfl ?_
    refine j_iload 8 dX4_carry_165 rfl ?_
    refine j_ishr dX4_carry_167 ?_
    refine j_iconst (v := 1) dX4_carry_168 (by decide) ?_
    refine j_iand dX4_carry_169 ?_
    refine j_if_ne 176 dX4_carry_170 (by decide) (fun hc19 => ?_) (fun hc19 => ?_)
    · replace h := jif_f hc19 h
      refine j_iload 6 dX4_carry_176 rfl ?_
      refine j_if_ne 205 dX4_carry_178 (by decide) (fun hc20 => ?_) (fun hc20 => ?_)
      · replace h := jif_f hc20 h
        refine j_aload_n 0 dX4_carry_205 rfl rfl ?_
        refine j_aload_n 1 dX4_carry_206 rfl rfl ?_
        refine j_iload_n 2 dX4_carry_207 rfl rfl ?_
        refine j_iload 8 dX4_carry_208 rfl ?_
        refine j_iconst (v := 1) dX4_carry_210 (by decide) ?_
        refine j_iadd dX4_carry_211 ?_
        refine j_iload 4 dX4_carry_212 rfl ?_
        refine j_iconst (v := 1) dX4_carry_214 (by decide) ?_
        refine j_iload 8 dX4_carry_215 rfl ?_
        refine j_ishl dX4_carry_217 ?_
        refine j_ior dX4_carry_218 ?_
        refine j_iload 5 dX4_carry_219 rfl ?_
        refine j_iconst (v := 1) dX4_carry_221 (by decide) ?_
        refine j_iadd dX4_carry_222 ?_
        replace h := bD_inv h
        obtain ⟨r21, σ22, cr21, h⟩ := h
        refine j_callV (ci := 4) (st1 := _) (hrc g _ _ _ _ _ _ _ cr21) jy_X4_carry ki_yX4_carry ks_yX4_carry kl_RX4_85 dX4_carry_223 rfl (okX_17 _) (shX_17 _) rfl rfl rfl (jblt (by omega)) (jbr _) (jbr _) hn.1 hn.2 (Or.inr rfl) rfl ?_
        exact f_X4_carry_J226_ok rc σ22 x2 x3 x4 x5 x6 x9 x10 hn hrc hr hc0 _ h hK
      · replace h := jif_t hc20 h
        refine j_aload_n 0 dX4_carry_181 rfl rfl ?_
        refine j_aload_n 1 dX4_carry_182 rfl rfl ?_
        refine j_iload 8 dX4_carry_183 rfl ?_
        refine j_iconst (v := 1) dX4_carry_185 (by decide) ?_
        refine j_iadd dX4_carry_186 ?_
        refine j_iload_n 3 dX4_carry_187 rfl rfl ?_
        refine j_iload 4 dX4_carry_188 rfl ?_
        refine j_iconst (v := 1) dX4_carry_190 (by decide) ?_
        refine j_iload 8 dX4_carry_191 rfl ?_
        refine j_ishl dX4_carry_193 ?_
        refine j_ior dX4_carry_194 ?_
        refine j_iload 5 dX4_carry_195 rfl ?_
        refine j_iconst (v := 1) dX4_carry_197 (by decide) ?_
        refine j_iadd dX4_carry_198 ?_
        replace h := bD_inv h
        obtain ⟨r23, σ24, cr23, h⟩ := h
        refine j_callV (ci := 4) (st1 := _) (hrc g _ _ _ _ _ _ _ cr23) jy_X4_carry ki_yX4_carry ks_yX4_carry kl_RX4_85 dX4_carry_199 rfl (okX_17 _) (shX_17 _) rfl rfl rfl (jblt (by omega)) (jbr _) (jbr _) hn.1 hn.2 (Or.inr rfl) rfl ?_
        refine j_goto 226 dX4_carry_202 (by decide) ?_
        exact f_X4_carry_J226_ok rc σ24 x2 x3 x4 x5 x6 x9 x10 hn hrc hr hc0 _ h hK
    · replace h := jif_t hc19 h
      refine j_goto 226 dX4_carry_173 (by decide) ?_
      exact f_X4_carry_J226_ok rc σ x2 x3 x4 x5 x6 x9 x10 hn hrc hr hc0 _ h hK
def f_X4_carry_J151 (rc : jS → Int32 → Int32 → Int32 → Int32 → Option (Unit × jS)) (σ : jS) (x2 : Int32) (x3 : Int32) (x4 : Int32) (x5 : Int32) (x6 : Int32) (x9 : Int32) : Option (Unit × jS) :=
  jloop jFuel (fun s => f_X4_carry_B154 rc s.2 x2 x3 x4 x5 x6 x9 s.1) (0, σ)
set_option maxHeartbeats 1000000 in
set_option maxRecDepth 20000 in
theorem f_X4_carry_J151_ok {nr : Nat} {g : Bool} {rv : Option Value} {μ' : jM} (rc : jS → Int32 → Int32 → Int32 → Int32 → Option (Unit × jS)) (σ : jS) (x2 : Int32) (x3 : Int32) (x4 : Int32) (x5 : Int32) (x6 : Int32) (x9 : Int32) {Kp : (Unit × jS) → Prop} (hn : Nat.ble nX μ'.1 = true ∧ Nat.ble wX μ'.2.1 = true) (hrc : ∀ (g : Bool) (s : jS) (a2 : Int32) (a3 : Int32) (a4 : Int32) (a5 : Int32) (r : Unit) (s2 : jS), rc s a2 a3 a4 a5 = some (r, s2) → Cn yX4_carry cX4_carry 11 none (5 + nr - 1) g [.ref 17, .ref 4, .int a2, .int a3, .int a4, .int a5] (eX s) (none) (eX s2)) (hr : ∀ (r : Unit) (s : jS), Kp ((r, s)) → rv = none ∧ μ' = eX s) (o : (Unit × jS)) (h : f_X4_carry_J151 rc σ x2 x3 x4 x5 x6 x9 = some o) (hK : Kp o) : J yX4_carry cX4_carry 11 none (5 + nr) g rv μ' 151 [(0, .ref 17), (1, .ref 4), (2, .int x2), (3, .int x3), (4, .int x4), (5, .int x5), (6, .int x6), (9, .int x9)] [] (eX σ) := by
  unfold f_X4_carry_J151 at h
  refine j_iconst (v := 0) dX4_carry_151 (by decide) ?_
  refine j_istore [(10, .int 0), (0, .ref 17), (1, .ref 4), (2, .int x2), (3, .int x3), (4, .int x4), (5, .int x5), (6, .int x6), (9, .int x9)] dX4_carry_152 (Nat.le_of_ble_eq_true rfl) rfl ?_
  refine j_sub [(0, .ref 17), (1, .ref 4), (2, .int x2), (3, .int x3), (4, .int x4), (5, .int x5), (6, .int x6), (9, .int x9), (10, .int 0)] [1, 2, 3, 4, 5, 6, 7, 8, 0] rfl ?_
  exact jloop_ok (fun s => f_X4_carry_B154 rc s.2 x2 x3 x4 x5 x6 x9 s.1) (fun s => J yX4_carry cX4_carry 11 none (5 + nr) g rv μ' 154 [(0, .ref 17), (1, .ref 4), (2, .int x2), (3, .int x3), (4, .int x4), (5, .int x5), (6, .int x6), (9, .int x9), (10, .int s.1)] [] (eX s.2)) Kp (fun s o hb hk => f_X4_carry_B154_ok (Kp := jsum (fun s => J yX4_carry cX4_carry 11 none (5 + nr) g rv μ' 154 [(0, .ref 17), (1, .ref 4), (2, .int x2), (3, .int x3), (4, .int x4), (5, .int x5), (6, .int x6), (9, .int x9), (10, .int s.1)] [] (eX s.2)) Kp) rc s.2 x2 x3 x4 x5 x6 x9 s.1 hn hrc (fun r s q => hr r s q) (fun s q => q) o hb hk) jFuel _ _ h hK
def f_X4_carry_R (rc : jS → Int32 → Int32 → Int32 → Int32 → Option (Unit × jS)) (σ : jS) (x2 : Int32) (x3 : Int32) (x4 : Int32) (x5 : Int32) : Option (Unit × jS) :=
  bV (x5 &&& (1 : Int32)) fun v1 =>
  bV ((((((x2 * (9 : Int32)) + x3) * (2 : Int32)) + v1) * (256 : Int32)) + x4) fun v2 =>
  if 17 < x5 then (f_X4_carry_J45 rc σ)
  else (bC (f_X4_hasBit σ 19 v2) fun r3 =>
  if r3 = 0 then (bD (f_X4_putBit σ 19 v2) fun r4 σ5 =>
  bC (f_X4_spotAt σ5 x2 (gI σ5 17 3)) fun r6 =>
  bC (f_X4_spotAt σ5 x3 (gI σ5 17 4)) fun r7 =>
  bC (f_X0_state r6 r7 v1) fun r8 =>
  bC (f_X0_isEnded σ5 r8) fun r9 =>
  if r9 = 0 then (bC (f_X4_usable σ5 r8 x4) fun r10 =>
  if r10 = 0 then (bC (f_X4_usable σ5 (r8 ^^^ (1 : Int32)) x4) fun r25 =>
  if r25 = 0 then (f_X4_carry_J151 rc σ5 x2 x3 x4 x5 v1 r10)
  else (bD (rc σ5 x2 x3 x4 (x5 + (1 : Int32))) fun r26 σ27 =>
  f_X4_carry_J151 rc σ27 x2 x3 x4 x5 v1 r10))
  else (f_X4_carry_J151 rc σ5 x2 x3 x4 x5 v1 r10))
  else (bD (f_X4_putBit σ5 18 (((gI σ5 17 5) * (256 : Int32)) + x4)) fun r28 σ29 =>
  some (((), σ29))))
  else (f_X4_carry_J45 rc σ))
def f_X4_carry : Nat → jS → Int32 → Int32 → Int32 → Int32 → Option (Unit × jS)
  | 0 => fun _ _ _ _ _ => none
  | n + 1 => fun σ x2 x3 x4 x5 => f_X4_carry_R (f_X4_carry n) σ x2 x3 x4 x5
set_option maxHeartbeats 1000000 in
set_option maxRecDepth 20000 in
theorem f_X4_carry_R_ok {nr : Nat} (hnr : 1 ≤ nr) {g : Bool} {rv : Option Value} {μ' : jM} (rc : jS → Int32 → Int32 → Int32 → Int32 → Option (Unit × jS)) (σ : jS) (x2 : Int32) (x3 : Int32) (x4 : Int32) (x5 : Int32) {Kp : (Unit × jS) → Prop} (hn : Nat.ble nX μ'.1 = true ∧ Nat.ble wX μ'.2.1 = true) (hrc : ∀ (g : Bool) (s : jS) (a2 : Int32) (a3 : Int32) (a4 : Int32) (a5 : Int32) (r : Unit) (s2 : jS), rc s a2 a3 a4 a5 = some (r, s2) → Cn yX4_carry cX4_carry 11 none (5 + nr - 1) g [.ref 17, .ref 4, .int a2, .int a3, .int a4, .int a5] (eX s) (none) (eX s2)) (hr : ∀ (r : Unit) (s : jS), Kp ((r, s)) → rv = none ∧ μ' = eX s) (o : (Unit × jS)) (h : f_X4_carry_R rc σ x2 x3 x4 x5 = some o) (hK : Kp o) : J yX4_carry cX4_carry 11 none (5 + nr) g rv μ' 0 [(0, .ref 17), (1, .ref 4), (2, .int x2), (3, .int x3), (4, .int x4), (5, .int x5)] [] (eX σ) := by
  unfold f_X4_carry_R at h
  refine j_iload 5 dX4_carry_0 rfl ?_
  refine j_iconst (v := 1) dX4_carry_2 (by decide) ?_
  refine j_iand dX4_carry_3 ?_
  replace h := bV_inv h
  obtain ⟨v30, ev30, h⟩ := h
  refine j_nmi ev30 ?_
  refine j_istore [(6, .int v30), (0, .ref 17), (1, .ref 4), (2, .int x2), (3, .int x3), (4, .int x4), (5, .int x5)] dX4_carry_4 (Nat.le_of_ble_eq_true rfl) rfl ?_
  refine j_iload_n 3 dX4_carry_6 rfl rfl ?_
  refine j_bipush (v := 9) dX4_carry_7 (by decide) ?_
  refine j_imul dX4_carry_9 ?_
  refine j_iload_n 4 dX4_carry_10 rfl rfl ?_
  refine j_iadd dX4_carry_11 ?_
  refine j_iconst (v := 2) dX4_carry_12 (by decide) ?_
  refine j_imul dX4_carry_13 ?_
  refine j_iload 0 dX4_carry_14 rfl ?_
  refine j_iadd dX4_carry_16 ?_
  refine j_sipush (v := 256) dX4_carry_17 (by decide) ?_
  refine j_imul dX4_carry_20 ?_
  refine j_iload 5 dX4_carry_21 rfl ?_
  refine j_iadd dX4_carry_23 ?_
  replace h := bV_inv h
  obtain ⟨v31, ev31, h⟩ := h
  refine j_nmi ev31 ?_
  refine j_istore [(7, .int v31), (6, .int v30), (0, .ref 17), (1, .ref 4), (2, .int x2), (3, .int x3), (4, .int x4), (5, .int x5)] dX4_carry_24 (Nat.le_of_ble_eq_true rfl) rfl ?_
  refine j_iload 7 dX4_carry_26 rfl ?_
  refine j_bipush (v := 17) dX4_carry_28 (by decide) ?_
  refine j_icmp_gt 45 dX4_carry_30 (by decide) (fun hc32 => ?_) (fun hc32 => ?_)
  · replace h := jif_t hc32 h
    refine j_sub [] [] rfl ?_
    exact f_X4_carry_J45_ok rc σ hn hrc hr _ h hK
  · replace h := jif_f hc32 h
    refine j_aload_n 2 dX4_carry_33 rfl rfl ?_
    refine j_get (ci := 4) 1 (.ref 19) jC_4 dX4_carry_34 kg_RX4_15 rfl (okX_17 _) (shX_17 _) (fvX_17_1 _) ?_
    refine j_iload 0 dX4_carry_37 rfl ?_
    replace h := bC_inv h
    obtain ⟨r33, cr33, h⟩ := h
    refine j_callS (st1 := .int r33 :: _) (c_X4_hasBit g cr33) jy_X4_hasBit kt_yX4_hasBit kl_RX4_81 dX4_carry_39 rfl rfl rfl (jblt (by omega)) (jbr _) (jbr _) hn.1 hn.2 (Or.inr rfl) rfl ?_
    refine j_if_eq 46 dX4_carry_42 (by decide) (fun hc34 => ?_) (fun hc34 => ?_)
    · replace h := jif_t hc34 h
      refine j_aload_n 2 dX4_carry_46 rfl rfl ?_
      refine j_get (ci := 4) 1 (.ref 19) jC_4 dX4_carry_47 kg_RX4_15 rfl (okX_17 _) (shX_17 _) (fvX_17_1 _) ?_
      refine j_iload 0 dX4_carry_50 rfl ?_
      replace h := bD_inv h
      obtain ⟨r35, σ36, cr35, h⟩ := h
      refine j_callS (st1 := _) (c_X4_putBit g cr35) jy_X4_putBit kt_yX4_putBit kl_RX4_37 dX4_carry_52 rfl rfl rfl (jblt (by omega)) (jbr _) (jbr _) hn.1 hn.2 (Or.inr rfl) rfl ?_
      refine j_aload_n 3 dX4_carry_55 rfl rfl ?_
      refine j_iload_n 4 dX4_carry_56 rfl rfl ?_
      refine j_aload_n 2 dX4_carry_57 rfl rfl ?_
      refine j_get (ci := 4) 3 (.int (gI σ36 17 3)) jC_4 dX4_carry_58 kg_RX4_69 rfl (okX_17 _) (shX_17 _) (fvX_17_3 _) ?_
      replace h := bC_inv h
      obtain ⟨r37, cr37, h⟩ := h
      refine j_callS (st1 := .int r37 :: _) (c_X4_spotAt g cr37) jy_X4_spotAt kt_yX4_spotAt kl_RX4_89 dX4_carry_61 rfl rfl rfl (jblt (by omega)) (jbr _) (jbr _) hn.1 hn.2 (Or.inr rfl) rfl ?_
      refine j_aload_n 3 dX4_carry_64 rfl rfl ?_
      refine j_iload_n 5 dX4_carry_65 rfl rfl ?_
      refine j_aload_n 2 dX4_carry_66 rfl rfl ?_
      refine j_get (ci := 4) 4 (.int (gI σ36 17 4)) jC_4 dX4_carry_67 kg_RX4_75 rfl (okX_17 _) (shX_17 _) (fvX_17_4 _) ?_
      replace h := bC_inv h
      obtain ⟨r38, cr38, h⟩ := h
      refine j_callS (st1 := .int r38 :: _) (c_X4_spotAt g cr38) jy_X4_spotAt kt_yX4_spotAt kl_RX4_89 dX4_carry_70 rfl rfl rfl (jblt (by omega)) (jbr _) (jbr _) hn.1 hn.2 (Or.inr rfl) rfl ?_
      refine j_iload 1 dX4_carry_73 rfl ?_
      replace h := bC_inv h
      obtain ⟨r39, cr39, h⟩ := h
      refine j_callS (st1 := .int r39 :: _) (c_X0_state g _ cr39) jy_X0_state kt_yX0_state kl_RX4_93 dX4_carry_75 rfl rfl rfl (jblt (by omega)) (jbr _) (jbr _) hn.1 hn.2 (Or.inr rfl) rfl ?_
      refine j_istore [(8, .int r39), (7, .int v31), (6, .int v30), (0, .ref 17), (1, .ref 4), (2, .int x2), (3, .int x3), (4, .int x4), (5, .int x5)] dX4_carry_78 (Nat.le_of_ble_eq_true rfl) rfl ?_
      refine j_aload_n 4 dX4_carry_80 rfl rfl ?_
      refine j_iload 0 dX4_carry_81 rfl ?_
      replace h := bC_inv h
      obtain ⟨r40, cr40, h⟩ := h
      refine j_callV (ci := 0) (st1 := .int r40 :: _) (c_X0_isEnded g cr40) jy_X0_isEnded ki_yX0_isEnded ks_yX0_isEnded kl_RX4_99 dX4_carry_83 rfl (okX_4 _) (shX_4 _) rfl rfl rfl (jblt (by omega)) (jbr _) (jbr _) hn.1 hn.2 (Or.inr rfl) rfl ?_
      refine j_if_eq 108 dX4_carry_86 (by decide) (fun hc41 => ?_) (fun hc41 => ?_)
      · replace h := jif_t hc41 h
        refine j_aload_n 3 dX4_carry_108 rfl rfl ?_
        refine j_aload_n 4 dX4_carry_109 rfl rfl ?_
        refine j_iload 0 dX4_carry_110 rfl ?_
        refine j_iload 7 dX4_carry_112 rfl ?_
        replace h := bC_inv h
        obtain ⟨r42, cr42, h⟩ := h
        refine j_callV (ci := 4) (st1 := .int r42 :: _) (c_X4_usable g cr42) jy_X4_usable ki_yX4_usable ks_yX4_usable kl_RX4_102 dX4_carry_114 rfl (okX_17 _) (shX_17 _) rfl rfl rfl (jblt (by omega)) (jbr _) (jbr _) hn.1 hn.2 (Or.inr rfl) rfl ?_
        refine j_istore [(9, .int r42), (8, .int r39), (7, .int v31), (6, .int v30), (0, .ref 17), (1, .ref 4), (2, .int x2), (3, .int x3), (4, .int x4), (5, .int x5)] dX4_carry_117 (Nat.le_of_ble_eq_true rfl) rfl ?_
        refine j_iload 0 dX4_carry_119 rfl ?_
        refine j_if_ne 151 dX4_carry_121 (by decide) (fun hc43 => ?_) (fun hc43 => ?_)
        · replace h := jif_f hc43 h
          refine j_sub [(0, .ref 17), (1, .ref 4), (2, .int x2), (3, .int x3), (4, .int x4), (5, .int x5), (6, .int v30), (9, .int r42)] [4, 5, 6, 7, 8, 9, 3, 0] rfl ?_
          exact f_X4_carry_J151_ok rc σ36 x2 x3 x4 x5 v30 r42 hn hrc hr _ h hK
        · replace h := jif_t hc43 h
          refine j_aload_n 4 dX4_carry_124 rfl rfl ?_
          refine j_aload_n 5 dX4_carry_125 rfl rfl ?_
          refine j_iload 1 dX4_carry_126 rfl ?_
          refine j_iconst (v := 1) dX4_carry_128 (by decide) ?_
          refine j_ixor dX4_carry_129 ?_
          refine j_iload 8 dX4_carry_130 rfl ?_
          replace h := bC_inv h
          obtain ⟨r44, cr44, h⟩ := h
          refine j_callV (ci := 4) (st1 := .int r44 :: _) (c_X4_usable g cr44) jy_X4_usable ki_yX4_usable ks_yX4_usable kl_RX4_102 dX4_carry_132 rfl (okX_17 _) (shX_17 _) rfl rfl rfl (jblt (by omega)) (jbr _) (jbr _) hn.1 hn.2 (Or.inr rfl) rfl ?_
          refine j_if_eq 151 dX4_carry_135 (by decide) (fun hc45 => ?_) (fun hc45 => ?_)
          · replace h := jif_t hc45 h
            refine j_sub [(0, .ref 17), (1, .ref 4), (2, .int x2), (3, .int x3), (4, .int x4), (5, .int x5), (6, .int v30), (9, .int r42)] [4, 5, 6, 7, 8, 9, 3, 0] rfl ?_
            exact f_X4_carry_J151_ok rc σ36 x2 x3 x4 x5 v30 r42 hn hrc hr _ h hK
          · replace h := jif_f hc45 h
            refine j_aload_n 4 dX4_carry_138 rfl rfl ?_
            refine j_aload_n 5 dX4_carry_139 rfl rfl ?_
            refine j_iload_n 6 dX4_carry_140 rfl rfl ?_
            refine j_iload_n 7 dX4_carry_141 rfl rfl ?_
            refine j_iload 8 dX4_carry_142 rfl ?_
            refine j_iload 9 dX4_carry_144 rfl ?_
            refine j_iconst (v := 1) dX4_carry_146 (by decide) ?_
            refine j_iadd dX4_carry_147 ?_
            replace h := bD_inv h
            obtain ⟨r46, σ47, cr46, h⟩ := h
            refine j_callV (ci := 4) (st1 := _) (hrc g _ _ _ _ _ _ _ cr46) jy_X4_carry ki_yX4_carry ks_yX4_carry kl_RX4_85 dX4_carry_148 rfl (okX_17 _) (shX_17 _) rfl rfl rfl (jblt (by omega)) (jbr _) (jbr _) hn.1 hn.2 (Or.inr rfl) rfl ?_
            refine j_sub [(0, .ref 17), (1, .ref 4), (2, .int x2), (3, .int x3), (4, .int x4), (5, .int x5), (6, .int v30), (9, .int r42)] [4, 5, 6, 7, 8, 9, 3, 0] rfl ?_
            exact f_X4_carry_J151_ok rc σ47 x2 x3 x4 x5 v30 r42 hn hrc hr _ h hK
      · replace h := jif_f hc41 h
        refine j_aload_n 3 dX4_carry_89 rfl rfl ?_
        refine j_get (ci := 4) 0 (.ref 18) jC_4 dX4_carry_90 kg_RX4_11 rfl (okX_17 _) (shX_17 _) (fvX_17_0 _) ?_
        refine j_aload_n 3 dX4_carry_93 rfl rfl ?_
        refine j_get (ci := 4) 5 (.int (gI σ36 17 5)) jC_4 dX4_carry_94 kg_RX4_78 rfl (okX_17 _) (shX_17 _) (fvX_17_5 _) ?_
        refine j_sipush (v := 256) dX4_carry_97 (by decide) ?_
        refine j_imul dX4_carry_100 ?_
        refine j_iload 7 dX4_carry_101 rfl ?_
        refine j_iadd dX4_carry_103 ?_
        replace h := bD_inv h
        obtain ⟨r48, σ49, cr48, h⟩ := h
        refine j_callS (st1 := _) (c_X4_putBit g cr48) jy_X4_putBit kt_yX4_putBit kl_RX4_37 dX4_carry_104 rfl rfl rfl (jblt (by omega)) (jbr _) (jbr _) hn.1 hn.2 (Or.inr rfl) rfl ?_
        replace h := Option.some.inj h
        subst h
        obtain ⟨hr1, hr2⟩ := hr _ _ hK
        exact j_vret dX4_carry_107 hr1 hr2
    · replace h := jif_f hc34 h
      refine j_sub [] [] rfl ?_
      exact f_X4_carry_J45_ok rc σ hn hrc hr _ h hK
theorem c_X4_carry_n : ∀ (n : Nat) (g : Bool) {σ : jS} {x2 : Int32} {x3 : Int32} {x4 : Int32} {x5 : Int32} {r : Unit} {σ2 : jS} (h : f_X4_carry n σ x2 x3 x4 x5 = some (r, σ2)), Cn yX4_carry cX4_carry 11 none (5 + n) g [.ref 17, .ref 4, .int x2, .int x3, .int x4, .int x5] (eX σ) none (eX σ2)
  | 0, _, _, _, _, _, _, _, _, h => by cases h
  | n + 1, g, σ, x2, x3, x4, x5, r, σ2, h => Cn_of (by decide) (Nat.le_refl _) (Nat.le_refl _) (Nat.le_of_ble_eq_true rfl) (f_X4_carry_R_ok (nr := n + 1) (by omega) (Kp := fun o => o = (r, σ2)) (f_X4_carry n) σ x2 x3 x4 x5 ⟨jbr _, jbr _⟩ (fun g s _ _ _ _ r s2 hq => c_X4_carry_n n g hq) (fun r2 s2 q => by cases q; exact ⟨rfl, rfl⟩) _ h rfl)
theorem c_X4_carry (g : Bool) {σ : jS} {x2 : Int32} {x3 : Int32} {x4 : Int32} {x5 : Int32} {r : Unit} {σ2 : jS} (h : f_X4_carry 20 σ x2 x3 x4 x5 = some (r, σ2)) : Cn yX4_carry cX4_carry 11 none 25 g [.ref 17, .ref 4, .int x2, .int x3, .int x4, .int x5] (eX σ) none (eX σ2) := c_X4_carry_n 20 g h
def f_X4_carryOneMore_J92 (σ : jS) : Option (Unit × jS) :=
  some (((), σ))
set_option maxHeartbeats 1000000 in
set_option maxRecDepth 20000 in
theorem f_X4_carryOneMore_J92_ok {g : Bool} {rv : Option Value} {μ' : jM} (σ : jS) {Kp : (Unit × jS) → Prop} (hn : Nat.ble nX μ'.1 = true ∧ Nat.ble wX μ'.2.1 = true) (hr : ∀ (r : Unit) (s : jS), Kp ((r, s)) → rv = none ∧ μ' = eX s) (o : (Unit × jS)) (h : f_X4_carryOneMore_J92 σ = some o) (hK : Kp o) : J yX4_carryOneMore cX4_carryOneMore 6 none 26 g rv μ' 92 [] [] (eX σ) := by
  unfold f_X4_carryOneMore_J92 at h
  replace h := Option.some.inj h
  subst h
  obtain ⟨hr1, hr2⟩ := hr _ _ hK
  exact j_vret dX4_carryOneMore_92 hr1 hr2
def f_X4_carryOneMore_J86 (σ : jS) (x3 : Int32) (x5 : Int32) : Option ((Int32 × jS) ⊕ (Unit × jS)) :=
  bV (x5 + 1) fun v9 =>
  some (.inl (v9, σ))
set_option maxHeartbeats 1000000 in
set_option maxRecDepth 20000 in
theorem f_X4_carryOneMore_J86_ok {g : Bool} {rv : Option Value} {μ' : jM} (σ : jS) (x3 : Int32) (x5 : Int32) {Kp : ((Int32 × jS) ⊕ (Unit × jS)) → Prop} (hn : Nat.ble nX μ'.1 = true ∧ Nat.ble wX μ'.2.1 = true) (hr : ∀ (r : Unit) (s : jS), Kp (.inr ((r, s))) → rv = none ∧ μ' = eX s) (hc0 : ∀ s : (Int32 × jS), Kp (.inl s) → J yX4_carryOneMore cX4_carryOneMore 6 none 26 g rv μ' 47 [(0, .ref 17), (1, .ref 4), (3, .int x3), (5, .int s.1)] [] (eX s.2)) (o : ((Int32 × jS) ⊕ (Unit × jS))) (h : f_X4_carryOneMore_J86 σ x3 x5 = some o) (hK : Kp o) : J yX4_carryOneMore cX4_carryOneMore 6 none 26 g rv μ' 86 [(0, .ref 17), (1, .ref 4), (3, .int x3), (5, .int x5)] [] (eX σ) := by
  unfold f_X4_carryOneMore_J86 at h
  replace h := bV_inv h
  obtain ⟨v10, ev10, h⟩ := h
  refine j_iinc (v := v10) [(5, .int v10), (0, .ref 17), (1, .ref 4), (3, .int x3)] 3 dX4_carryOneMore_86 rfl (by rw [ev10]; rfl) (Nat.le_of_ble_eq_true rfl) rfl ?_
  refine j_goto 47 dX4_carryOneMore_89 (by decide) ?_
  replace h := Option.some.inj h
  subst h
  refine j_sub [(0, .ref 17), (1, .ref 4), (3, .int x3), (5, .int v10)] [1, 2, 3, 0] rfl ?_
  exact hc0 _ hK
def f_X4_carryOneMore_B47 (σ : jS) (x3 : Int32) (x5 : Int32) : Option ((Int32 × jS) ⊕ (Unit × jS)) :=
  if ((1 : Int32) <<< ((gI σ 17 2) &&& 31)) ≤ x5 then (jw (f_X4_carryOneMore_J92 σ))
  else (bC (f_X4_hasBit σ 18 ((x3 * (256 : Int32)) + x5)) fun r8 =>
  if r8 = 0 then (f_X4_carryOneMore_J86 σ x3 x5)
  else (bD (f_X4_carry 20 σ 0 0 x5 0) fun r11 σ12 =>
  f_X4_carryOneMore_J86 σ12 x3 x5))
set_option maxHeartbeats 1000000 in
set_option maxRecDepth 20000 in
theorem f_X4_carryOneMore_B47_ok {g : Bool} {rv : Option Value} {μ' : jM} (σ : jS) (x3 : Int32) (x5 : Int32) {Kp : ((Int32 × jS) ⊕ (Unit × jS)) → Prop} (hn : Nat.ble nX μ'.1 = true ∧ Nat.ble wX μ'.2.1 = true) (hr : ∀ (r : Unit) (s : jS), Kp (.inr ((r, s))) → rv = none ∧ μ' = eX s) (hc0 : ∀ s : (Int32 × jS), Kp (.inl s) → J yX4_carryOneMore cX4_carryOneMore 6 none 26 g rv μ' 47 [(0, .ref 17), (1, .ref 4), (3, .int x3), (5, .int s.1)] [] (eX s.2)) (o : ((Int32 × jS) ⊕ (Unit × jS))) (h : f_X4_carryOneMore_B47 σ x3 x5 = some o) (hK : Kp o) : J yX4_carryOneMore cX4_carryOneMore 6 none 26 g rv μ' 47 [(0, .ref 17), (1, .ref 4), (3, .int x3), (5, .int x5)] [] (eX σ) := by
  unfold f_X4_carryOneMore_B47 at h
  refine j_iload 3 dX4_carryOneMore_47 rfl ?_
  refine j_iconst (v := 1) dX4_carryOneMore_49 (by decide) ?_
  refine j_aload_n 0 dX4_carryOneMore_50 rfl rfl ?_
  refine j_get (ci := 4) 2 (.int (gI σ 17 2)) jC_4 dX4_carryOneMore_51 kg_RX4_30 rfl (okX_17 _) (shX_17 _) (fvX_17_2 _) ?_
  refine j_ishl dX4_carryOneMore_54 ?_
  refine j_icmp_ge 92 dX4_carryOneMore_55 (by decide) (fun hc13 => ?_) (fun hc13 => ?_)
  · replace h := jif_t hc13 h
    replace h := jw_inv h
    obtain ⟨o14, rfl, h⟩ := h
    refine j_sub [] [] rfl ?_
    exact f_X4_carryOneMore_J92_ok (Kp := fun o => Kp (.inr (o))) σ hn (fun r s q => hr r s q) _ h hK
  · replace h := jif_f hc13 h
    refine j_aload_n 0 dX4_carryOneMore_58 rfl rfl ?_
    refine j_get (ci := 4) 0 (.ref 18) jC_4 dX4_carryOneMore_59 kg_RX4_11 rfl (okX_17 _) (shX_17 _) (fvX_17_0 _) ?_
    refine j_iload_n 2 dX4_carryOneMore_62 rfl rfl ?_
    refine j_sipush (v := 256) dX4_carryOneMore_63 (by decide) ?_
    refine j_imul dX4_carryOneMore_66 ?_
    refine j_iload 3 dX4_carryOneMore_67 rfl ?_
    refine j_iadd dX4_carryOneMore_69 ?_
    replace h := bC_inv h
    obtain ⟨r15, cr15, h⟩ := h
    refine j_callS (st1 := .int r15 :: _) (c_X4_hasBit g cr15) jy_X4_hasBit kt_yX4_hasBit kl_RX4_81 dX4_carryOneMore_70 rfl rfl rfl rfl (jbr _) (jbr _) hn.1 hn.2 (Or.inr rfl) rfl ?_
    refine j_if_eq 86 dX4_carryOneMore_73 (by decide) (fun hc16 => ?_) (fun hc16 => ?_)
    · replace h := jif_t hc16 h
      exact f_X4_carryOneMore_J86_ok σ x3 x5 hn hr hc0 _ h hK
    · replace h := jif_f hc16 h
      refine j_aload_n 0 dX4_carryOneMore_76 rfl rfl ?_
      refine j_aload_n 1 dX4_carryOneMore_77 rfl rfl ?_
      refine j_iconst (v := 0) dX4_carryOneMore_78 (by decide) ?_
      refine j_iconst (v := 0) dX4_carryOneMore_79 (by decide) ?_
      refine j_iload 3 dX4_carryOneMore_80 rfl ?_
      refine j_iconst (v := 0) dX4_carryOneMore_82 (by decide) ?_
      replace h := bD_inv h
      obtain ⟨r17, σ18, cr17, h⟩ := h
      refine j_callV (ci := 4) (st1 := _) (c_X4_carry g cr17) jy_X4_carry ki_yX4_carry ks_yX4_carry kl_RX4_85 dX4_carryOneMore_83 rfl (okX_17 _) (shX_17 _) rfl rfl rfl rfl (jbr _) (jbr _) hn.1 hn.2 (Or.inr rfl) rfl ?_
      exact f_X4_carryOneMore_J86_ok σ18 x3 x5 hn hr hc0 _ h hK
def f_X4_carryOneMore (σ : jS) (x2 : Nat) (x3 : Int32) (x4 : Int32) : Option (Unit × jS) :=
  bD (f_X6_fill_ σ 19 0) fun r1 σ2 =>
  bH [51, 61] x2 (
  bC (f_X6_at σ2 (rPX x2 3) x4) fun r3 =>
  bV (sI σ2 17 3 r3) fun σ4 =>
  bC (f_X6_at σ4 (rPX x2 4) x4) fun r5 =>
  bV (sI σ4 17 4 r5) fun σ6 =>
  bV (sI σ6 17 5 (x3 ||| ((1 : Int32) <<< (x4 &&& 31)))) fun σ7 =>
  jloop jFuel (fun s => f_X4_carryOneMore_B47 s.2 x3 s.1) (0, σ7))
set_option maxHeartbeats 1000000 in
set_option maxRecDepth 20000 in
theorem f_X4_carryOneMore_ok {g : Bool} {rv : Option Value} {μ' : jM} (σ : jS) (x2 : Nat) (x3 : Int32) (x4 : Int32) {Kp : (Unit × jS) → Prop} (hn : Nat.ble nX μ'.1 = true ∧ Nat.ble wX μ'.2.1 = true) (hr : ∀ (r : Unit) (s : jS), Kp ((r, s)) → rv = none ∧ μ' = eX s) (o : (Unit × jS)) (h : f_X4_carryOneMore σ x2 x3 x4 = some o) (hK : Kp o) : J yX4_carryOneMore cX4_carryOneMore 6 none 26 g rv μ' 0 [(0, .ref 17), (1, .ref 4), (2, .ref x2), (3, .int x3), (4, .int x4)] [] (eX σ) := by
  unfold f_X4_carryOneMore at h
  refine j_aload_n 0 dX4_carryOneMore_0 rfl rfl ?_
  refine j_get (ci := 4) 1 (.ref 19) jC_4 dX4_carryOneMore_1 kg_RX4_15 rfl (okX_17 _) (shX_17 _) (fvX_17_1 _) ?_
  refine j_lconst (v := 0) dX4_carryOneMore_4 (by decide) ?_
  replace h := bD_inv h
  obtain ⟨r19, σ20, cr19, h⟩ := h
  refine j_callS (st1 := _) (c_X6_fill_ g cr19) jy_X6_fill_ kt_yX6_fill_ kl_RX4_31 dX4_carryOneMore_5 rfl rfl rfl rfl (jbr _) (jbr _) hn.1 hn.2 (Or.inr rfl) rfl ?_
  refine j_aload_n 0 dX4_carryOneMore_8 rfl rfl ?_
  refine j_aload_n 2 dX4_carryOneMore_9 rfl rfl ?_
  replace h := bH_inv h
  obtain ⟨hm21, h⟩ := h
  simp only [List.mem_cons, List.not_mem_nil, or_false] at hm21
  rcases hm21 with rfl | rfl
  · skip
    refine j_get (ci := 7) 3 (.ref 55) jC_7 dX4_carryOneMore_10 kg_RX4_62 rfl (okX_51 _) (shX_51 _) (fvX_51_3 _) ?_
    refine j_iload 4 dX4_carryOneMore_13 rfl ?_
    replace h := bC_inv h
    obtain ⟨r22, cr22, h⟩ := h
    refine j_callS (st1 := .int r22 :: _) (c_X6_at g cr22) jy_X6_at kt_yX6_at kl_RX4_66 dX4_carryOneMore_15 rfl rfl rfl rfl (jbr _) (jbr _) hn.1 hn.2 (Or.inr rfl) rfl ?_
    replace h := bV_inv h
    obtain ⟨σ23, eσ23, h⟩ := h
    refine j_putI 3 jC_4 dX4_carryOneMore_18 kg_RX4_69 (Or.inl ff_4_3) rfl fk_4_3 (fn_4_3 _) (okX_17 _) (shX_17 _) ?_
    refine j_mem (congrArg eX eσ23) ?_
    refine j_aload_n 0 dX4_carryOneMore_21 rfl rfl ?_
    refine j_aload_n 2 dX4_carryOneMore_22 rfl rfl ?_
    refine j_get (ci := 7) 4 (.ref 56) jC_7 dX4_carryOneMore_23 kg_RX4_72 rfl (okX_51 _) (shX_51 _) (fvX_51_4 _) ?_
    refine j_iload 4 dX4_carryOneMore_26 rfl ?_
    replace h := bC_inv h
    obtain ⟨r24, cr24, h⟩ := h
    refine j_callS (st1 := .int r24 :: _) (c_X6_at g cr24) jy_X6_at kt_yX6_at kl_RX4_66 dX4_carryOneMore_28 rfl rfl rfl rfl (jbr _) (jbr _) hn.1 hn.2 (Or.inr rfl) rfl ?_
    replace h := bV_inv h
    obtain ⟨σ25, eσ25, h⟩ := h
    refine j_putI 4 jC_4 dX4_carryOneMore_31 kg_RX4_75 (Or.inl ff_4_4) rfl fk_4_4 (fn_4_4 _) (okX_17 _) (shX_17 _) ?_
    refine j_mem (congrArg eX eσ25) ?_
    refine j_aload_n 0 dX4_carryOneMore_34 rfl rfl ?_
    refine j_iload_n 3 dX4_carryOneMore_35 rfl rfl ?_
    refine j_iconst (v := 1) dX4_carryOneMore_36 (by decide) ?_
    refine j_iload 4 dX4_carryOneMore_37 rfl ?_
    refine j_ishl dX4_carryOneMore_39 ?_
    refine j_ior dX4_carryOneMore_40 ?_
    replace h := bV_inv h
    obtain ⟨σ26, eσ26, h⟩ := h
    refine j_putI 5 jC_4 dX4_carryOneMore_41 kg_RX4_78 (Or.inl ff_4_5) rfl fk_4_5 (fn_4_5 _) (okX_17 _) (shX_17 _) ?_
    refine j_mem (congrArg eX eσ26) ?_
    refine j_iconst (v := 0) dX4_carryOneMore_44 (by decide) ?_
    refine j_istore [(5, .int 0), (0, .ref 17), (1, .ref 4), (2, .ref 51), (3, .int x3), (4, .int x4)] dX4_carryOneMore_45 (Nat.le_of_ble_eq_true rfl) rfl ?_
    refine j_sub [(0, .ref 17), (1, .ref 4), (3, .int x3), (5, .int 0)] [1, 2, 4, 0] rfl ?_
    exact jloop_ok (fun s => f_X4_carryOneMore_B47 s.2 x3 s.1) (fun s => J yX4_carryOneMore cX4_carryOneMore 6 none 26 g rv μ' 47 [(0, .ref 17), (1, .ref 4), (3, .int x3), (5, .int s.1)] [] (eX s.2)) Kp (fun s o hb hk => f_X4_carryOneMore_B47_ok (Kp := jsum (fun s => J yX4_carryOneMore cX4_carryOneMore 6 none 26 g rv μ' 47 [(0, .ref 17), (1, .ref 4), (3, .int x3), (5, .int s.1)] [] (eX s.2)) Kp) s.2 x3 s.1 hn (fun r s q => hr r s q) (fun s q => q) o hb hk) jFuel _ _ h hK
  · skip
    refine j_get (ci := 7) 3 (.ref 65) jC_7 dX4_carryOneMore_10 kg_RX4_62 rfl (okX_61 _) (shX_61 _) (fvX_61_3 _) ?_
    refine j_iload 4 dX4_carryOneMore_13 rfl ?_
    replace h := bC_inv h
    obtain ⟨r27, cr27, h⟩ := h
    refine j_callS (st1 := .int r27 :: _) (c_X6_at g cr27) jy_X6_at kt_yX6_at kl_RX4_66 dX4_carryOneMore_15 rfl rfl rfl rfl (jbr _) (jbr _) hn.1 hn.2 (Or.inr rfl) rfl ?_
    replace h := bV_inv h
    obtain ⟨σ28, eσ28, h⟩ := h
    refine j_putI 3 jC_4 dX4_carryOneMore_18 kg_RX4_69 (Or.inl ff_4_3) rfl fk_4_3 (fn_4_3 _) (okX_17 _) (shX_17 _) ?_
    refine j_mem (congrArg eX eσ28) ?_
    refine j_aload_n 0 dX4_carryOneMore_21 rfl rfl ?_
    refine j_aload_n 2 dX4_carryOneMore_22 rfl rfl ?_
    refine j_get (ci := 7) 4 (.ref 66) jC_7 dX4_carryOneMore_23 kg_RX4_72 rfl (okX_61 _) (shX_61 _) (fvX_61_4 _) ?_
    refine j_iload 4 dX4_carryOneMore_26 rfl ?_
    replace h := bC_inv h
    obtain ⟨r29, cr29, h⟩ := h
    refine j_callS (st1 := .int r29 :: _) (c_X6_at g cr29) jy_X6_at kt_yX6_at kl_RX4_66 dX4_carryOneMore_28 rfl rfl rfl rfl (jbr _) (jbr _) hn.1 hn.2 (Or.inr rfl) rfl ?_
    replace h := bV_inv h
    obtain ⟨σ30, eσ30, h⟩ := h
    refine j_putI 4 jC_4 dX4_carryOneMore_31 kg_RX4_75 (Or.inl ff_4_4) rfl fk_4_4 (fn_4_4 _) (okX_17 _) (shX_17 _) ?_
    refine j_mem (congrArg eX eσ30) ?_
    refine j_aload_n 0 dX4_carryOneMore_34 rfl rfl ?_
    refine j_iload_n 3 dX4_carryOneMore_35 rfl rfl ?_
    refine j_iconst (v := 1) dX4_carryOneMore_36 (by decide) ?_
    refine j_iload 4 dX4_carryOneMore_37 rfl ?_
    refine j_ishl dX4_carryOneMore_39 ?_
    refine j_ior dX4_carryOneMore_40 ?_
    replace h := bV_inv h
    obtain ⟨σ31, eσ31, h⟩ := h
    refine j_putI 5 jC_4 dX4_carryOneMore_41 kg_RX4_78 (Or.inl ff_4_5) rfl fk_4_5 (fn_4_5 _) (okX_17 _) (shX_17 _) ?_
    refine j_mem (congrArg eX eσ31) ?_
    refine j_iconst (v := 0) dX4_carryOneMore_44 (by decide) ?_
    refine j_istore [(5, .int 0), (0, .ref 17), (1, .ref 4), (2, .ref 61), (3, .int x3), (4, .int x4)] dX4_carryOneMore_45 (Nat.le_of_ble_eq_true rfl) rfl ?_
    refine j_sub [(0, .ref 17), (1, .ref 4), (3, .int x3), (5, .int 0)] [1, 2, 4, 0] rfl ?_
    exact jloop_ok (fun s => f_X4_carryOneMore_B47 s.2 x3 s.1) (fun s => J yX4_carryOneMore cX4_carryOneMore 6 none 26 g rv μ' 47 [(0, .ref 17), (1, .ref 4), (3, .int x3), (5, .int s.1)] [] (eX s.2)) Kp (fun s o hb hk => f_X4_carryOneMore_B47_ok (Kp := jsum (fun s => J yX4_carryOneMore cX4_carryOneMore 6 none 26 g rv μ' 47 [(0, .ref 17), (1, .ref 4), (3, .int x3), (5, .int s.1)] [] (eX s.2)) Kp) s.2 x3 s.1 hn (fun r s q => hr r s q) (fun s q => q) o hb hk) jFuel _ _ h hK
theorem c_X4_carryOneMore (g : Bool) {σ : jS} {x2 : Nat} {x3 : Int32} {x4 : Int32} {r : Unit} {σ2 : jS} (h : f_X4_carryOneMore σ x2 x3 x4 = some (r, σ2)) : Cn yX4_carryOneMore cX4_carryOneMore 6 none 26 g [.ref 17, .ref 4, .ref x2, .int x3, .int x4] (eX σ) none (eX σ2) :=
  Cn_of (by decide) (Nat.le_refl _) (Nat.le_refl _) (Nat.le_of_ble_eq_true rfl) (f_X4_carryOneMore_ok (Kp := (fun o => o = (r, σ2))) σ x2 x3 x4 ⟨jbr _, jbr _⟩ (fun r2 s2 q => by cases q; exact ⟨rfl, rfl⟩) _ h rfl)
def f_X4_isReached_J32 (σ : jS) : Option Int32 :=
  some (0)
set_option maxHeartbeats 1000000 in
set_option maxRecDepth 20000 in
theorem f_X4_isReached_J32_ok {g : Bool} {rv : Option Value} {μ' : jM} (σ : jS) {Kp : Int32 → Prop} (hn : Nat.ble nX μ'.1 = true ∧ Nat.ble wX μ'.2.1 = true) (hr : ∀ r : Int32, Kp (r) → rv = some (.int r) ∧ μ' = (eX σ)) (o : Int32) (h : f_X4_isReached_J32 σ = some o) (hK : Kp o) : J yX4_isReached cX4_isReached 3 (some .boolean) 2 g rv μ' 32 [] [] (eX σ) := by
  unfold f_X4_isReached_J32 at h
  refine j_iconst (v := 0) dX4_isReached_32 (by decide) ?_
  replace h := Option.some.inj h
  subst h
  obtain ⟨hr1, hr2⟩ := hr _ hK
  exact j_zret rfl dX4_isReached_33 hr1 hr2
def f_X4_isReached_J24 (σ : jS) : Option Int32 :=
  some (1)
set_option maxHeartbeats 1000000 in
set_option maxRecDepth 20000 in
theorem f_X4_isReached_J24_ok {g : Bool} {rv : Option Value} {μ' : jM} (σ : jS) {Kp : Int32 → Prop} (hn : Nat.ble nX μ'.1 = true ∧ Nat.ble wX μ'.2.1 = true) (hr : ∀ r : Int32, Kp (r) → rv = some (.int r) ∧ μ' = (eX σ)) (o : Int32) (h : f_X4_isReached_J24 σ = some o) (hK : Kp o) : J yX4_isReached cX4_isReached 3 (some .boolean) 2 g rv μ' 24 [] [] (eX σ) := by
  unfold f_X4_isReached_J24 at h
  refine j_iconst (v := 1) dX4_isReached_24 (by decide) ?_
  replace h := Option.some.inj h
  subst h
  obtain ⟨hr1, hr2⟩ := hr _ hK
  exact j_zret rfl dX4_isReached_25 hr1 hr2
def f_X4_isReached_B2 (σ : jS) (x1 : Int32) (x2 : Int32) : Option ((Int32) ⊕ Int32) :=
  if 4 ≤ x2 then (jw (f_X4_isReached_J32 σ))
  else (bC (f_X6_at_ σ 18 ((x1 * (4 : Int32)) + x2)) fun r1 =>
  if (lg_cmp r1 0) = 0 then (bV (x2 + 1) fun v2 =>
  some (.inl v2))
  else (jw (f_X4_isReached_J24 σ)))
set_option maxHeartbeats 1000000 in
set_option maxRecDepth 20000 in
theorem f_X4_isReached_B2_ok {g : Bool} {rv : Option Value} {μ' : jM} (σ : jS) (x1 : Int32) (x2 : Int32) {Kp : ((Int32) ⊕ Int32) → Prop} (hn : Nat.ble nX μ'.1 = true ∧ Nat.ble wX μ'.2.1 = true) (hr : ∀ r : Int32, Kp (.inr (r)) → rv = some (.int r) ∧ μ' = (eX σ)) (hc0 : ∀ s : (Int32), Kp (.inl s) → J yX4_isReached cX4_isReached 3 (some .boolean) 2 g rv μ' 2 [(0, .ref 17), (1, .int x1), (2, .int s)] [] (eX σ)) (o : ((Int32) ⊕ Int32)) (h : f_X4_isReached_B2 σ x1 x2 = some o) (hK : Kp o) : J yX4_isReached cX4_isReached 3 (some .boolean) 2 g rv μ' 2 [(0, .ref 17), (1, .int x1), (2, .int x2)] [] (eX σ) := by
  unfold f_X4_isReached_B2 at h
  refine j_iload_n 2 dX4_isReached_2 rfl rfl ?_
  refine j_iconst (v := 4) dX4_isReached_3 (by decide) ?_
  refine j_icmp_ge 32 dX4_isReached_4 (by decide) (fun hc3 => ?_) (fun hc3 => ?_)
  · replace h := jif_t hc3 h
    replace h := jw_inv h
    obtain ⟨o4, rfl, h⟩ := h
    refine j_sub [] [] rfl ?_
    exact f_X4_isReached_J32_ok (Kp := fun o => Kp (.inr (o))) σ hn (fun r q => hr r q) _ h hK
  · replace h := jif_f hc3 h
    refine j_aload_n 0 dX4_isReached_7 rfl rfl ?_
    refine j_get (ci := 4) 0 (.ref 18) jC_4 dX4_isReached_8 kg_RX4_11 rfl (okX_17 _) (shX_17 _) (fvX_17_0 _) ?_
    refine j_iload_n 1 dX4_isReached_11 rfl rfl ?_
    refine j_iconst (v := 4) dX4_isReached_12 (by decide) ?_
    refine j_imul dX4_isReached_13 ?_
    refine j_iload_n 2 dX4_isReached_14 rfl rfl ?_
    refine j_iadd dX4_isReached_15 ?_
    replace h := bC_inv h
    obtain ⟨r5, cr5, h⟩ := h
    refine j_callS (st1 := .long r5 :: _) (c_X6_at_ g cr5) jy_X6_at_ kt_yX6_at_ kl_RX4_58 dX4_isReached_16 rfl rfl rfl rfl (jbr _) (jbr _) hn.1 hn.2 (Or.inr rfl) rfl ?_
    refine j_lconst (v := 0) dX4_isReached_19 (by decide) ?_
    refine j_lcmp dX4_isReached_20 ?_
    refine j_if_eq 26 dX4_isReached_21 (by decide) (fun hc6 => ?_) (fun hc6 => ?_)
    · replace h := jif_t hc6 h
      replace h := bV_inv h
      obtain ⟨v7, ev7, h⟩ := h
      refine j_iinc (v := v7) [(2, .int v7), (0, .ref 17), (1, .int x1)] 2 dX4_isReached_26 rfl (by rw [ev7]; rfl) (Nat.le_of_ble_eq_true rfl) rfl ?_
      refine j_goto 2 dX4_isReached_29 (by decide) ?_
      replace h := Option.some.inj h
      subst h
      refine j_sub [(0, .ref 17), (1, .int x1), (2, .int v7)] [1, 2, 0] rfl ?_
      exact hc0 _ hK
    · replace h := jif_f hc6 h
      replace h := jw_inv h
      obtain ⟨o8, rfl, h⟩ := h
      refine j_sub [] [] rfl ?_
      exact f_X4_isReached_J24_ok (Kp := fun o => Kp (.inr (o))) σ hn (fun r q => hr r q) _ h hK
def f_X4_isReached (σ : jS) (x1 : Int32) : Option Int32 :=
  jloop jFuel (fun s => f_X4_isReached_B2 σ x1 s) 0
set_option maxHeartbeats 1000000 in
set_option maxRecDepth 20000 in
theorem f_X4_isReached_ok {g : Bool} {rv : Option Value} {μ' : jM} (σ : jS) (x1 : Int32) {Kp : Int32 → Prop} (hn : Nat.ble nX μ'.1 = true ∧ Nat.ble wX μ'.2.1 = true) (hr : ∀ r : Int32, Kp (r) → rv = some (.int r) ∧ μ' = (eX σ)) (o : Int32) (h : f_X4_isReached σ x1 = some o) (hK : Kp o) : J yX4_isReached cX4_isReached 3 (some .boolean) 2 g rv μ' 0 [(0, .ref 17), (1, .int x1)] [] (eX σ) := by
  unfold f_X4_isReached at h
  refine j_iconst (v := 0) dX4_isReached_0 (by decide) ?_
  refine j_istore_n [(2, .int 0), (0, .ref 17), (1, .int x1)] dX4_isReached_1 rfl (Nat.le_of_ble_eq_true rfl) rfl ?_
  refine j_sub [(0, .ref 17), (1, .int x1), (2, .int 0)] [1, 2, 0] rfl ?_
  exact jloop_ok (fun s => f_X4_isReached_B2 σ x1 s) (fun s => J yX4_isReached cX4_isReached 3 (some .boolean) 2 g rv μ' 2 [(0, .ref 17), (1, .int x1), (2, .int s)] [] (eX σ)) Kp (fun s o hb hk => f_X4_isReached_B2_ok (Kp := jsum (fun s => J yX4_isReached cX4_isReached 3 (some .boolean) 2 g rv μ' 2 [(0, .ref 17), (1, .int x1), (2, .int s)] [] (eX σ)) Kp) σ x1 s hn (fun r q => hr r q) (fun s q => q) o hb hk) jFuel _ _ h hK
theorem c_X4_isReached (g : Bool) {σ : jS} {x1 : Int32} {r : Int32} (h : f_X4_isReached σ x1 = some r) : Cn yX4_isReached cX4_isReached 3 (some .boolean) 2 g [.ref 17, .int x1] (eX σ) (some (.int r)) (eX σ) :=
  Cn_of (by decide) (Nat.le_refl _) (Nat.le_refl _) (Nat.le_of_ble_eq_true rfl) (f_X4_isReached_ok (Kp := (fun o => o = r)) σ x1 ⟨jbr _, jbr _⟩ (fun r2 q => by cases q; exact ⟨rfl, rfl⟩) _ h rfl)
def f_X4_mostEnded_J119 (σ : jS) (x4 : Int32) : Option (Int32 × jS) :=
  some ((x4, σ))
set_option maxHeartbeats 1000000 in
set_option maxRecDepth 20000 in
theorem f_X4_mostEnded_J119_ok {g : Bool} {rv : Option Value} {μ' : jM} (σ : jS) (x4 : Int32) {Kp : (Int32 × jS) → Prop} (hn : Nat.ble nX μ'.1 = true ∧ Nat.ble wX μ'.2.1 = true) (hr : ∀ (r : Int32) (s : jS), Kp ((r, s)) → rv = some (.int r) ∧ μ' = eX s) (o : (Int32 × jS)) (h : f_X4_mostEnded_J119 σ x4 = some o) (hK : Kp o) : J yX4_mostEnded cX4_mostEnded 7 (some .int) 27 g rv μ' 119 [(4, .int x4)] [] (eX σ) := by
  unfold f_X4_mostEnded_J119 at h
  refine j_iload 0 dX4_mostEnded_119 rfl ?_
  replace h := Option.some.inj h
  subst h
  obtain ⟨hr1, hr2⟩ := hr _ _ hK
  exact j_iret dX4_mostEnded_121 hr1 hr2
def f_X4_mostEnded_J113 (σ : jS) (x2 : Nat) (x4 : Int32) (x5 : Int32) : Option ((Int32 × Int32 × jS) ⊕ (Int32 × jS)) :=
  bV (x5 + 1) fun v9 =>
  some (.inl (x4, v9, σ))
set_option maxHeartbeats 1000000 in
set_option maxRecDepth 20000 in
theorem f_X4_mostEnded_J113_ok {g : Bool} {rv : Option Value} {μ' : jM} (σ : jS) (x2 : Nat) (x4 : Int32) (x5 : Int32) {Kp : ((Int32 × Int32 × jS) ⊕ (Int32 × jS)) → Prop} (hn : Nat.ble nX μ'.1 = true ∧ Nat.ble wX μ'.2.1 = true) (hr : ∀ (r : Int32) (s : jS), Kp (.inr ((r, s))) → rv = some (.int r) ∧ μ' = eX s) (hc0 : ∀ s : (Int32 × Int32 × jS), Kp (.inl s) → J yX4_mostEnded cX4_mostEnded 7 (some .int) 27 g rv μ' 35 [(0, .ref 17), (1, .ref 4), (2, .ref x2), (4, .int s.1), (5, .int s.2.1)] [] (eX s.2.2)) (o : ((Int32 × Int32 × jS) ⊕ (Int32 × jS))) (h : f_X4_mostEnded_J113 σ x2 x4 x5 = some o) (hK : Kp o) : J yX4_mostEnded cX4_mostEnded 7 (some .int) 27 g rv μ' 113 [(0, .ref 17), (1, .ref 4), (2, .ref x2), (4, .int x4), (5, .int x5)] [] (eX σ) := by
  unfold f_X4_mostEnded_J113 at h
  replace h := bV_inv h
  obtain ⟨v10, ev10, h⟩ := h
  refine j_iinc (v := v10) [(5, .int v10), (0, .ref 17), (1, .ref 4), (2, .ref x2), (4, .int x4)] 4 dX4_mostEnded_113 rfl (by rw [ev10]; rfl) (Nat.le_of_ble_eq_true rfl) rfl ?_
  refine j_goto 35 dX4_mostEnded_116 (by decide) ?_
  replace h := Option.some.inj h
  subst h
  refine j_sub [(0, .ref 17), (1, .ref 4), (2, .ref x2), (4, .int x4), (5, .int v10)] [1, 2, 3, 4, 0] rfl ?_
  exact hc0 _ hK
def f_X4_mostEnded_J107 (σ : jS) (x2 : Nat) (x4 : Int32) (x5 : Int32) (x6 : Int32) : Option ((Int32 × jS) ⊕ ((Int32 × Int32 × jS) ⊕ (Int32 × jS))) :=
  bV (x6 + 1) fun v11 =>
  some (.inl (v11, σ))
set_option maxHeartbeats 1000000 in
set_option maxRecDepth 20000 in
theorem f_X4_mostEnded_J107_ok {g : Bool} {rv : Option Value} {μ' : jM} (σ : jS) (x2 : Nat) (x4 : Int32) (x5 : Int32) (x6 : Int32) {Kp : ((Int32 × jS) ⊕ ((Int32 × Int32 × jS) ⊕ (Int32 × jS))) → Prop} (hn : Nat.ble nX μ'.1 = true ∧ Nat.ble wX μ'.2.1 = true) (hr : ∀ (r : Int32) (s : jS), Kp (.inr (.inr ((r, s)))) → rv = some (.int r) ∧ μ' = eX s) (hc0 : ∀ s : (Int32 × Int32 × jS), Kp (.inr (.inl s)) → J yX4_mostEnded cX4_mostEnded 7 (some .int) 27 g rv μ' 35 [(0, .ref 17), (1, .ref 4), (2, .ref x2), (4, .int s.1), (5, .int s.2.1)] [] (eX s.2.2)) (hc1 : ∀ s : (Int32 × jS), Kp (.inl s) → J yX4_mostEnded cX4_mostEnded 7 (some .int) 27 g rv μ' 78 [(0, .ref 17), (1, .ref 4), (2, .ref x2), (4, .int x4), (5, .int x5), (6, .int s.1)] [] (eX s.2)) (o : ((Int32 × jS) ⊕ ((Int32 × Int32 × jS) ⊕ (Int32 × jS)))) (h : f_X4_mostEnded_J107 σ x2 x4 x5 x6 = some o) (hK : Kp o) : J yX4_mostEnded cX4_mostEnded 7 (some .int) 27 g rv μ' 107 [(0, .ref 17), (1, .ref 4), (2, .ref x2), (4, .int x4), (5, .int x5), (6, .int x6)] [] (eX σ) := by
  unfold f_X4_mostEnded_J107 at h
  replace h := bV_inv h
  obtain ⟨v12, ev12, h⟩ := h
  refine j_iinc (v := v12) [(6, .int v12), (0, .ref 17), (1, .ref 4), (2, .ref x2), (4, .int x4), (5, .int x5)] 5 dX4_mostEnded_107 rfl (by rw [ev12]; rfl) (Nat.le_of_ble_eq_true rfl) rfl ?_
  refine j_goto 78 dX4_mostEnded_110 (by decide) ?_
  replace h := Option.some.inj h
  subst h
  refine j_sub [(0, .ref 17), (1, .ref 4), (2, .ref x2), (4, .int x4), (5, .int x5), (6, .int v12)] [1, 2, 3, 4, 5, 0] rfl ?_
  exact hc1 _ hK
def f_X4_mostEnded_B78 (σ : jS) (x2 : Nat) (x4 : Int32) (x5 : Int32) (x6 : Int32) : Option ((Int32 × jS) ⊕ ((Int32 × Int32 × jS) ⊕ (Int32 × jS))) :=
  bH [51, 61] x2 (
  if (gI σ x2 8) ≤ x6 then (jw (f_X4_mostEnded_J113 σ x2 x4 x5))
  else (if ((x5 >>> (x6 &&& 31)) &&& (1 : Int32)) = 0 then (bD (f_X4_carryOneMore σ x2 x5 x6) fun r13 σ14 =>
  f_X4_mostEnded_J107 σ14 x2 x4 x5 x6)
  else (f_X4_mostEnded_J107 σ x2 x4 x5 x6)))
set_option maxHeartbeats 1000000 in
set_option maxRecDepth 20000 in
theorem f_X4_mostEnded_B78_ok {g : Bool} {rv : Option Value} {μ' : jM} (σ : jS) (x2 : Nat) (x4 : Int32) (x5 : Int32) (x6 : Int32) {Kp : ((Int32 × jS) ⊕ ((Int32 × Int32 × jS) ⊕ (Int32 × jS))) → Prop} (hn : Nat.ble nX μ'.1 = true ∧ Nat.ble wX μ'.2.1 = true) (hr : ∀ (r : Int32) (s : jS), Kp (.inr (.inr ((r, s)))) → rv = some (.int r) ∧ μ' = eX s) (hc0 : ∀ s : (Int32 × Int32 × jS), Kp (.inr (.inl s)) → J yX4_mostEnded cX4_mostEnded 7 (some .int) 27 g rv μ' 35 [(0, .ref 17), (1, .ref 4), (2, .ref x2), (4, .int s.1), (5, .int s.2.1)] [] (eX s.2.2)) (hc1 : ∀ s : (Int32 × jS), Kp (.inl s) → J yX4_mostEnded cX4_mostEnded 7 (some .int) 27 g rv μ' 78 [(0, .ref 17), (1, .ref 4), (2, .ref x2), (4, .int x4), (5, .int x5), (6, .int s.1)] [] (eX s.2)) (o : ((Int32 × jS) ⊕ ((Int32 × Int32 × jS) ⊕ (Int32 × jS)))) (h : f_X4_mostEnded_B78 σ x2 x4 x5 x6 = some o) (hK : Kp o) : J yX4_mostEnded cX4_mostEnded 7 (some .int) 27 g rv μ' 78 [(0, .ref 17), (1, .ref 4), (2, .ref x2), (4, .int x4), (5, .int x5), (6, .int x6)] [] (eX σ) := by
  unfold f_X4_mostEnded_B78 at h
  refine j_iload 5 dX4_mostEnded_78 rfl ?_
  refine j_aload_n 2 dX4_mostEnded_80 rfl rfl ?_
  replace h := bH_inv h
  obtain ⟨hm15, h⟩ := h
  simp only [List.mem_cons, List.not_mem_nil, or_false] at hm15
  rcases hm15 with rfl | rfl
  · skip
    refine j_get (ci := 7) 8 (.int (gI σ 51 8)) jC_7 dX4_mostEnded_81 kg_RX4_41 rfl (okX_51 _) (shX_51 _) (fvX_51_8 _) ?_
    refine j_icmp_ge 113 dX4_mostEnded_84 (by decide) (fun hc16 => ?_) (fun hc16 => ?_)
    · replace h := jif_t hc16 h
      replace h := jw_inv h
      obtain ⟨o17, rfl, h⟩ := h
      refine j_sub [(0, .ref 17), (1, .ref 4), (2, .ref 51), (4, .int x4), (5, .int x5)] [0, 1, 2, 3, 4] rfl ?_
      exact f_X4_mostEnded_J113_ok (Kp := fun o => Kp (.inr (o))) σ 51 x4 x5 hn (fun r s q => hr r s q) (fun s q => hc0 s q) _ h hK
    · replace h := jif_f hc16 h
      refine j_iload 4 dX4_mostEnded_87 rfl ?_
      refine j_iload 5 dX4_mostEnded_89 rfl ?_
      refine j_ishr dX4_mostEnded_91 ?_
      refine j_iconst (v := 1) dX4_mostEnded_92 (by decide) ?_
      refine j_iand dX4_mostEnded_93 ?_
      refine j_if_ne 107 dX4_mostEnded_94 (by decide) (fun hc18 => ?_) (fun hc18 => ?_)
      · replace h := jif_f hc18 h
        exact f_X4_mostEnded_J107_ok σ 51 x4 x5 x6 hn hr hc0 hc1 _ h hK
      · replace h := jif_t hc18 h
        refine j_aload_n 0 dX4_mostEnded_97 rfl rfl ?_
        refine j_aload_n 1 dX4_mostEnded_98 rfl rfl ?_
        refine j_aload_n 2 dX4_mostEnded_99 rfl rfl ?_
        refine j_iload 4 dX4_mostEnded_100 rfl ?_
        refine j_iload 5 dX4_mostEnded_102 rfl ?_
        replace h := bD_inv h
        obtain ⟨r19, σ20, cr19, h⟩ := h
        refine j_callV (ci := 4) (st1 := _) (c_X4_carryOneMore g cr19) jy_X4_carryOneMore ki_yX4_carryOneMore ks_yX4_carryOneMore kl_RX4_54 dX4_mostEnded_104 rfl (okX_17 _) (shX_17 _) rfl rfl rfl rfl (jbr _) (jbr _) hn.1 hn.2 (Or.inr rfl) rfl ?_
        exact f_X4_mostEnded_J107_ok σ20 51 x4 x5 x6 hn hr hc0 hc1 _ h hK
  · skip
    refine j_get (ci := 7) 8 (.int (gI σ 61 8)) jC_7 dX4_mostEnded_81 kg_RX4_41 rfl (okX_61 _) (shX_61 _) (fvX_61_8 _) ?_
    refine j_icmp_ge 113 dX4_mostEnded_84 (by decide) (fun hc21 => ?_) (fun hc21 => ?_)
    · replace h := jif_t hc21 h
      replace h := jw_inv h
      obtain ⟨o22, rfl, h⟩ := h
      refine j_sub [(0, .ref 17), (1, .ref 4), (2, .ref 61), (4, .int x4), (5, .int x5)] [0, 1, 2, 3, 4] rfl ?_
      exact f_X4_mostEnded_J113_ok (Kp := fun o => Kp (.inr (o))) σ 61 x4 x5 hn (fun r s q => hr r s q) (fun s q => hc0 s q) _ h hK
    · replace h := jif_f hc21 h
      refine j_iload 4 dX4_mostEnded_87 rfl ?_
      refine j_iload 5 dX4_mostEnded_89 rfl ?_
      refine j_ishr dX4_mostEnded_91 ?_
      refine j_iconst (v := 1) dX4_mostEnded_92 (by decide) ?_
      refine j_iand dX4_mostEnded_93 ?_
      refine j_if_ne 107 dX4_mostEnded_94 (by decide) (fun hc23 => ?_) (fun hc23 => ?_)
      · replace h := jif_f hc23 h
        exact f_X4_mostEnded_J107_ok σ 61 x4 x5 x6 hn hr hc0 hc1 _ h hK
      · replace h := jif_t hc23 h
        refine j_aload_n 0 dX4_mostEnded_97 rfl rfl ?_
        refine j_aload_n 1 dX4_mostEnded_98 rfl rfl ?_
        refine j_aload_n 2 dX4_mostEnded_99 rfl rfl ?_
        refine j_iload 4 dX4_mostEnded_100 rfl ?_
        refine j_iload 5 dX4_mostEnded_102 rfl ?_
        replace h := bD_inv h
        obtain ⟨r24, σ25, cr24, h⟩ := h
        refine j_callV (ci := 4) (st1 := _) (c_X4_carryOneMore g cr24) jy_X4_carryOneMore ki_yX4_carryOneMore ks_yX4_carryOneMore kl_RX4_54 dX4_mostEnded_104 rfl (okX_17 _) (shX_17 _) rfl rfl rfl rfl (jbr _) (jbr _) hn.1 hn.2 (Or.inr rfl) rfl ?_
        exact f_X4_mostEnded_J107_ok σ25 61 x4 x5 x6 hn hr hc0 hc1 _ h hK
def f_X4_mostEnded_J75 (σ : jS) (x2 : Nat) (x4 : Int32) (x5 : Int32) : Option ((Int32 × Int32 × jS) ⊕ (Int32 × jS)) :=
  jloop jFuel (fun s => f_X4_mostEnded_B78 s.2 x2 x4 x5 s.1) (0, σ)
set_option maxHeartbeats 1000000 in
set_option maxRecDepth 20000 in
theorem f_X4_mostEnded_J75_ok {g : Bool} {rv : Option Value} {μ' : jM} (σ : jS) (x2 : Nat) (x4 : Int32) (x5 : Int32) {Kp : ((Int32 × Int32 × jS) ⊕ (Int32 × jS)) → Prop} (hn : Nat.ble nX μ'.1 = true ∧ Nat.ble wX μ'.2.1 = true) (hr : ∀ (r : Int32) (s : jS), Kp (.inr ((r, s))) → rv = some (.int r) ∧ μ' = eX s) (hc0 : ∀ s : (Int32 × Int32 × jS), Kp (.inl s) → J yX4_mostEnded cX4_mostEnded 7 (some .int) 27 g rv μ' 35 [(0, .ref 17), (1, .ref 4), (2, .ref x2), (4, .int s.1), (5, .int s.2.1)] [] (eX s.2.2)) (o : ((Int32 × Int32 × jS) ⊕ (Int32 × jS))) (h : f_X4_mostEnded_J75 σ x2 x4 x5 = some o) (hK : Kp o) : J yX4_mostEnded cX4_mostEnded 7 (some .int) 27 g rv μ' 75 [(0, .ref 17), (1, .ref 4), (2, .ref x2), (4, .int x4), (5, .int x5)] [] (eX σ) := by
  unfold f_X4_mostEnded_J75 at h
  refine j_iconst (v := 0) dX4_mostEnded_75 (by decide) ?_
  refine j_istore [(6, .int 0), (0, .ref 17), (1, .ref 4), (2, .ref x2), (4, .int x4), (5, .int x5)] dX4_mostEnded_76 (Nat.le_of_ble_eq_true rfl) rfl ?_
  refine j_sub [(0, .ref 17), (1, .ref 4), (2, .ref x2), (4, .int x4), (5, .int x5), (6, .int 0)] [1, 2, 3, 4, 5, 0] rfl ?_
  exact jloop_ok (fun s => f_X4_mostEnded_B78 s.2 x2 x4 x5 s.1) (fun s => J yX4_mostEnded cX4_mostEnded 7 (some .int) 27 g rv μ' 78 [(0, .ref 17), (1, .ref 4), (2, .ref x2), (4, .int x4), (5, .int x5), (6, .int s.1)] [] (eX s.2)) Kp (fun s o hb hk => f_X4_mostEnded_B78_ok (Kp := jsum (fun s => J yX4_mostEnded cX4_mostEnded 7 (some .int) 27 g rv μ' 78 [(0, .ref 17), (1, .ref 4), (2, .ref x2), (4, .int x4), (5, .int x5), (6, .int s.1)] [] (eX s.2)) Kp) s.2 x2 x4 x5 s.1 hn (fun r s q => hr r s q) (fun s q => hc0 s q) (fun s q => q) o hb hk) jFuel _ _ h hK
def f_X4_mostEnded_B35 (σ : jS) (x2 : Nat) (x4 : Int32) (x5 : Int32) : Option ((Int32 × Int32 × jS) ⊕ (Int32 × jS)) :=
  bH [51, 61] x2 (
  if ((1 : Int32) <<< ((gI σ x2 8) &&& 31)) ≤ x5 then (jw (f_X4_mostEnded_J119 σ x4))
  else (bC (f_X4_isReached σ x5) fun r6 =>
  if r6 = 0 then (f_X4_mostEnded_J113 σ x2 x4 x5)
  else (bC (f_J6_bitCount_0f7a4 x5) fun r7 =>
  bC (f_J6_bitCount_0f7a4 x4) fun r8 =>
  if r7 ≤ r8 then (f_X4_mostEnded_J75 σ x2 x4 x5)
  else (f_X4_mostEnded_J75 σ x2 x5 x5))))
set_option maxHeartbeats 1000000 in
set_option maxRecDepth 20000 in
theorem f_X4_mostEnded_B35_ok {g : Bool} {rv : Option Value} {μ' : jM} (σ : jS) (x2 : Nat) (x4 : Int32) (x5 : Int32) {Kp : ((Int32 × Int32 × jS) ⊕ (Int32 × jS)) → Prop} (hn : Nat.ble nX μ'.1 = true ∧ Nat.ble wX μ'.2.1 = true) (hr : ∀ (r : Int32) (s : jS), Kp (.inr ((r, s))) → rv = some (.int r) ∧ μ' = eX s) (hc0 : ∀ s : (Int32 × Int32 × jS), Kp (.inl s) → J yX4_mostEnded cX4_mostEnded 7 (some .int) 27 g rv μ' 35 [(0, .ref 17), (1, .ref 4), (2, .ref x2), (4, .int s.1), (5, .int s.2.1)] [] (eX s.2.2)) (o : ((Int32 × Int32 × jS) ⊕ (Int32 × jS))) (h : f_X4_mostEnded_B35 σ x2 x4 x5 = some o) (hK : Kp o) : J yX4_mostEnded cX4_mostEnded 7 (some .int) 27 g rv μ' 35 [(0, .ref 17), (1, .ref 4), (2, .ref x2), (4, .int x4), (5, .int x5)] [] (eX σ) := by
  unfold f_X4_mostEnded_B35 at h
  refine j_iload 4 dX4_mostEnded_35 rfl ?_
  refine j_iconst (v := 1) dX4_mostEnded_37 (by decide) ?_
  refine j_aload_n 2 dX4_mostEnded_38 rfl rfl ?_
  replace h := bH_inv h
  obtain ⟨hm26, h⟩ := h
  simp only [List.mem_cons, List.not_mem_nil, or_false] at hm26
  rcases hm26 with rfl | rfl
  · skip
    refine j_get (ci := 7) 8 (.int (gI σ 51 8)) jC_7 dX4_mostEnded_39 kg_RX4_41 rfl (okX_51 _) (shX_51 _) (fvX_51_8 _) ?_
    refine j_ishl dX4_mostEnded_42 ?_
    refine j_icmp_ge 119 dX4_mostEnded_43 (by decide) (fun hc27 => ?_) (fun hc27 => ?_)
    · replace h := jif_t hc27 h
      replace h := jw_inv h
      obtain ⟨o28, rfl, h⟩ := h
      refine j_sub [(4, .int x4)] [3] rfl ?_
      exact f_X4_mostEnded_J119_ok (Kp := fun o => Kp (.inr (o))) σ x4 hn (fun r s q => hr r s q) _ h hK
    · replace h := jif_f hc27 h
      refine j_aload_n 0 dX4_mostEnded_46 rfl rfl ?_
      refine j_iload 4 dX4_mostEnded_47 rfl ?_
      replace h := bC_inv h
      obtain ⟨r29, cr29, h⟩ := h
      refine j_callV (ci := 4) (st1 := .int r29 :: _) (c_X4_isReached g cr29) jy_X4_isReached ki_yX4_isReached ks_yX4_isReached kl_RX4_44 dX4_mostEnded_49 rfl (okX_17 _) (shX_17 _) rfl rfl rfl rfl (jbr _) (jbr _) hn.1 hn.2 (Or.inr rfl) rfl ?_
      refine j_if_ne 58 dX4_mostEnded_52 (by decide) (fun hc30 => ?_) (fun hc30 => ?_)
      · replace h := jif_f hc30 h
        refine j_iload 4 dX4_mostEnded_58 rfl ?_
        replace h := bC_inv h
        obtain ⟨r31, cr31, h⟩ := h
        refine j_callS (st1 := .int r31 :: _) (c_J6_bitCount_0f7a4 g _ cr31) jy_J6_bitCount_0f7a4 kt_yJ6_bitCount_0f7a4 kl_RX4_48 dX4_mostEnded_60 rfl rfl rfl rfl (jbr _) (jbr _) hn.1 hn.2 (Or.inr rfl) rfl ?_
        refine j_iload 3 dX4_mostEnded_63 rfl ?_
        replace h := bC_inv h
        obtain ⟨r32, cr32, h⟩ := h
        refine j_callS (st1 := .int r32 :: _) (c_J6_bitCount_0f7a4 g _ cr32) jy_J6_bitCount_0f7a4 kt_yJ6_bitCount_0f7a4 kl_RX4_48 dX4_mostEnded_65 rfl rfl rfl rfl (jbr _) (jbr _) hn.1 hn.2 (Or.inr rfl) rfl ?_
        refine j_icmp_le 75 dX4_mostEnded_68 (by decide) (fun hc33 => ?_) (fun hc33 => ?_)
        · replace h := jif_t hc33 h
          exact f_X4_mostEnded_J75_ok σ 51 x4 x5 hn hr hc0 _ h hK
        · replace h := jif_f hc33 h
          refine j_iload 4 dX4_mostEnded_71 rfl ?_
          refine j_istore [(4, .int x5), (0, .ref 17), (1, .ref 4), (2, .ref 51), (5, .int x5)] dX4_mostEnded_73 (Nat.le_of_ble_eq_true rfl) rfl ?_
          refine j_sub [(0, .ref 17), (1, .ref 4), (2, .ref 51), (4, .int x5), (5, .int x5)] [1, 2, 3, 0, 4] rfl ?_
          exact f_X4_mostEnded_J75_ok σ 51 x5 x5 hn hr hc0 _ h hK
      · replace h := jif_t hc30 h
        refine j_goto 113 dX4_mostEnded_55 (by decide) ?_
        exact f_X4_mostEnded_J113_ok σ 51 x4 x5 hn hr hc0 _ h hK
  · skip
    refine j_get (ci := 7) 8 (.int (gI σ 61 8)) jC_7 dX4_mostEnded_39 kg_RX4_41 rfl (okX_61 _) (shX_61 _) (fvX_61_8 _) ?_
    refine j_ishl dX4_mostEnded_42 ?_
    refine j_icmp_ge 119 dX4_mostEnded_43 (by decide) (fun hc34 => ?_) (fun hc34 => ?_)
    · replace h := jif_t hc34 h
      replace h := jw_inv h
      obtain ⟨o35, rfl, h⟩ := h
      refine j_sub [(4, .int x4)] [3] rfl ?_
      exact f_X4_mostEnded_J119_ok (Kp := fun o => Kp (.inr (o))) σ x4 hn (fun r s q => hr r s q) _ h hK
    · replace h := jif_f hc34 h
      refine j_aload_n 0 dX4_mostEnded_46 rfl rfl ?_
      refine j_iload 4 dX4_mostEnded_47 rfl ?_
      replace h := bC_inv h
      obtain ⟨r36, cr36, h⟩ := h
      refine j_callV (ci := 4) (st1 := .int r36 :: _) (c_X4_isReached g cr36) jy_X4_isReached ki_yX4_isReached ks_yX4_isReached kl_RX4_44 dX4_mostEnded_49 rfl (okX_17 _) (shX_17 _) rfl rfl rfl rfl (jbr _) (jbr _) hn.1 hn.2 (Or.inr rfl) rfl ?_
      refine j_if_ne 58 dX4_mostEnded_52 (by decide) (fun hc37 => ?_) (fun hc37 => ?_)
      · replace h := jif_f hc37 h
        refine j_iload 4 dX4_mostEnded_58 rfl ?_
        replace h := bC_inv h
        obtain ⟨r38, cr38, h⟩ := h
        refine j_callS (st1 := .int r38 :: _) (c_J6_bitCount_0f7a4 g _ cr38) jy_J6_bitCount_0f7a4 kt_yJ6_bitCount_0f7a4 kl_RX4_48 dX4_mostEnded_60 rfl rfl rfl rfl (jbr _) (jbr _) hn.1 hn.2 (Or.inr rfl) rfl ?_
        refine j_iload 3 dX4_mostEnded_63 rfl ?_
        replace h := bC_inv h
        obtain ⟨r39, cr39, h⟩ := h
        refine j_callS (st1 := .int r39 :: _) (c_J6_bitCount_0f7a4 g _ cr39) jy_J6_bitCount_0f7a4 kt_yJ6_bitCount_0f7a4 kl_RX4_48 dX4_mostEnded_65 rfl rfl rfl rfl (jbr _) (jbr _) hn.1 hn.2 (Or.inr rfl) rfl ?_
        refine j_icmp_le 75 dX4_mostEnded_68 (by decide) (fun hc40 => ?_) (fun hc40 => ?_)
        · replace h := jif_t hc40 h
          exact f_X4_mostEnded_J75_ok σ 61 x4 x5 hn hr hc0 _ h hK
        · replace h := jif_f hc40 h
          refine j_iload 4 dX4_mostEnded_71 rfl ?_
          refine j_istore [(4, .int x5), (0, .ref 17), (1, .ref 4), (2, .ref 61), (5, .int x5)] dX4_mostEnded_73 (Nat.le_of_ble_eq_true rfl) rfl ?_
          refine j_sub [(0, .ref 17), (1, .ref 4), (2, .ref 61), (4, .int x5), (5, .int x5)] [1, 2, 3, 0, 4] rfl ?_
          exact f_X4_mostEnded_J75_ok σ 61 x5 x5 hn hr hc0 _ h hK
      · replace h := jif_t hc37 h
        refine j_goto 113 dX4_mostEnded_55 (by decide) ?_
        exact f_X4_mostEnded_J113_ok σ 61 x4 x5 hn hr hc0 _ h hK
def f_X4_mostEnded (σ : jS) (x2 : Nat) (x3 : Int32) : Option (Int32 × jS) :=
  bH [51, 61] x2 (
  bV (sI σ 17 2 (if 8 < (gI σ x2 7) then 8 else (gI σ x2 7))) fun σ1 =>
  bD (f_X6_fill_ σ1 18 0) fun r2 σ3 =>
  bD (f_X4_putBit σ3 18 x3) fun r4 σ5 =>
  jloop jFuel (fun s => f_X4_mostEnded_B35 s.2.2 x2 s.1 s.2.1) (0, 0, σ5))
set_option maxHeartbeats 1000000 in
set_option maxRecDepth 20000 in
theorem f_X4_mostEnded_ok {g : Bool} {rv : Option Value} {μ' : jM} (σ : jS) (x2 : Nat) (x3 : Int32) {Kp : (Int32 × jS) → Prop} (hn : Nat.ble nX μ'.1 = true ∧ Nat.ble wX μ'.2.1 = true) (hr : ∀ (r : Int32) (s : jS), Kp ((r, s)) → rv = some (.int r) ∧ μ' = eX s) (o : (Int32 × jS)) (h : f_X4_mostEnded σ x2 x3 = some o) (hK : Kp o) : J yX4_mostEnded cX4_mostEnded 7 (some .int) 27 g rv μ' 0 [(0, .ref 17), (1, .ref 4), (2, .ref x2), (3, .int x3)] [] (eX σ) := by
  unfold f_X4_mostEnded at h
  refine j_aload_n 0 dX4_mostEnded_0 rfl rfl ?_
  refine j_aload_n 2 dX4_mostEnded_1 rfl rfl ?_
  replace h := bH_inv h
  obtain ⟨hm41, h⟩ := h
  simp only [List.mem_cons, List.not_mem_nil, or_false] at hm41
  rcases hm41 with rfl | rfl
  · skip
    refine j_get (ci := 7) 7 (.int (gI σ 51 7)) jC_7 dX4_mostEnded_2 kg_RX4_18 rfl (okX_51 _) (shX_51 _) (fvX_51_7 _) ?_
    refine j_bipush (v := 8) dX4_mostEnded_5 (by decide) ?_
    refine j_mmin kl_RX4_24 kt_yJ9_min_7cf53 kz_RJ9 kc_yJ9_min_7cf53 dX4_mostEnded_7 rfl rfl hn.1 hn.2 ?_
    replace h := bV_inv h
    obtain ⟨σ42, eσ42, h⟩ := h
    refine j_putI 2 jC_4 dX4_mostEnded_10 kg_RX4_30 (Or.inl ff_4_2) rfl fk_4_2 (fn_4_2 _) (okX_17 _) (shX_17 _) ?_
    refine j_mem (congrArg eX eσ42) ?_
    refine j_aload_n 0 dX4_mostEnded_13 rfl rfl ?_
    refine j_get (ci := 4) 0 (.ref 18) jC_4 dX4_mostEnded_14 kg_RX4_11 rfl (okX_17 _) (shX_17 _) (fvX_17_0 _) ?_
    refine j_lconst (v := 0) dX4_mostEnded_17 (by decide) ?_
    replace h := bD_inv h
    obtain ⟨r43, σ44, cr43, h⟩ := h
    refine j_callS (st1 := _) (c_X6_fill_ g cr43) jy_X6_fill_ kt_yX6_fill_ kl_RX4_31 dX4_mostEnded_18 rfl rfl rfl rfl (jbr _) (jbr _) hn.1 hn.2 (Or.inr rfl) rfl ?_
    refine j_aload_n 0 dX4_mostEnded_21 rfl rfl ?_
    refine j_get (ci := 4) 0 (.ref 18) jC_4 dX4_mostEnded_22 kg_RX4_11 rfl (okX_17 _) (shX_17 _) (fvX_17_0 _) ?_
    refine j_iload_n 3 dX4_mostEnded_25 rfl rfl ?_
    replace h := bD_inv h
    obtain ⟨r45, σ46, cr45, h⟩ := h
    refine j_callS (st1 := _) (c_X4_putBit g cr45) jy_X4_putBit kt_yX4_putBit kl_RX4_37 dX4_mostEnded_26 rfl rfl rfl rfl (jbr _) (jbr _) hn.1 hn.2 (Or.inr rfl) rfl ?_
    refine j_iconst (v := 0) dX4_mostEnded_29 (by decide) ?_
    refine j_istore [(4, .int 0), (0, .ref 17), (1, .ref 4), (2, .ref 51), (3, .int x3)] dX4_mostEnded_30 (Nat.le_of_ble_eq_true rfl) rfl ?_
    refine j_iconst (v := 0) dX4_mostEnded_32 (by decide) ?_
    refine j_istore [(5, .int 0), (4, .int 0), (0, .ref 17), (1, .ref 4), (2, .ref 51), (3, .int x3)] dX4_mostEnded_33 (Nat.le_of_ble_eq_true rfl) rfl ?_
    refine j_sub [(0, .ref 17), (1, .ref 4), (2, .ref 51), (4, .int 0), (5, .int 0)] [2, 3, 4, 1, 0] rfl ?_
    exact jloop_ok (fun s => f_X4_mostEnded_B35 s.2.2 51 s.1 s.2.1) (fun s => J yX4_mostEnded cX4_mostEnded 7 (some .int) 27 g rv μ' 35 [(0, .ref 17), (1, .ref 4), (2, .ref 51), (4, .int s.1), (5, .int s.2.1)] [] (eX s.2.2)) Kp (fun s o hb hk => f_X4_mostEnded_B35_ok (Kp := jsum (fun s => J yX4_mostEnded cX4_mostEnded 7 (some .int) 27 g rv μ' 35 [(0, .ref 17), (1, .ref 4), (2, .ref 51), (4, .int s.1), (5, .int s.2.1)] [] (eX s.2.2)) Kp) s.2.2 51 s.1 s.2.1 hn (fun r s q => hr r s q) (fun s q => q) o hb hk) jFuel _ _ h hK
  · skip
    refine j_get (ci := 7) 7 (.int (gI σ 61 7)) jC_7 dX4_mostEnded_2 kg_RX4_18 rfl (okX_61 _) (shX_61 _) (fvX_61_7 _) ?_
    refine j_bipush (v := 8) dX4_mostEnded_5 (by decide) ?_
    refine j_mmin kl_RX4_24 kt_yJ9_min_7cf53 kz_RJ9 kc_yJ9_min_7cf53 dX4_mostEnded_7 rfl rfl hn.1 hn.2 ?_
    replace h := bV_inv h
    obtain ⟨σ47, eσ47, h⟩ := h
    refine j_putI 2 jC_4 dX4_mostEnded_10 kg_RX4_30 (Or.inl ff_4_2) rfl fk_4_2 (fn_4_2 _) (okX_17 _) (shX_17 _) ?_
    refine j_mem (congrArg eX eσ47) ?_
    refine j_aload_n 0 dX4_mostEnded_13 rfl rfl ?_
    refine j_get (ci := 4) 0 (.ref 18) jC_4 dX4_mostEnded_14 kg_RX4_11 rfl (okX_17 _) (shX_17 _) (fvX_17_0 _) ?_
    refine j_lconst (v := 0) dX4_mostEnded_17 (by decide) ?_
    replace h := bD_inv h
    obtain ⟨r48, σ49, cr48, h⟩ := h
    refine j_callS (st1 := _) (c_X6_fill_ g cr48) jy_X6_fill_ kt_yX6_fill_ kl_RX4_31 dX4_mostEnded_18 rfl rfl rfl rfl (jbr _) (jbr _) hn.1 hn.2 (Or.inr rfl) rfl ?_
    refine j_aload_n 0 dX4_mostEnded_21 rfl rfl ?_
    refine j_get (ci := 4) 0 (.ref 18) jC_4 dX4_mostEnded_22 kg_RX4_11 rfl (okX_17 _) (shX_17 _) (fvX_17_0 _) ?_
    refine j_iload_n 3 dX4_mostEnded_25 rfl rfl ?_
    replace h := bD_inv h
    obtain ⟨r50, σ51, cr50, h⟩ := h
    refine j_callS (st1 := _) (c_X4_putBit g cr50) jy_X4_putBit kt_yX4_putBit kl_RX4_37 dX4_mostEnded_26 rfl rfl rfl rfl (jbr _) (jbr _) hn.1 hn.2 (Or.inr rfl) rfl ?_
    refine j_iconst (v := 0) dX4_mostEnded_29 (by decide) ?_
    refine j_istore [(4, .int 0), (0, .ref 17), (1, .ref 4), (2, .ref 61), (3, .int x3)] dX4_mostEnded_30 (Nat.le_of_ble_eq_true rfl) rfl ?_
    refine j_iconst (v := 0) dX4_mostEnded_32 (by decide) ?_
    refine j_istore [(5, .int 0), (4, .int 0), (0, .ref 17), (1, .ref 4), (2, .ref 61), (3, .int x3)] dX4_mostEnded_33 (Nat.le_of_ble_eq_true rfl) rfl ?_
    refine j_sub [(0, .ref 17), (1, .ref 4), (2, .ref 61), (4, .int 0), (5, .int 0)] [2, 3, 4, 1, 0] rfl ?_
    exact jloop_ok (fun s => f_X4_mostEnded_B35 s.2.2 61 s.1 s.2.1) (fun s => J yX4_mostEnded cX4_mostEnded 7 (some .int) 27 g rv μ' 35 [(0, .ref 17), (1, .ref 4), (2, .ref 61), (4, .int s.1), (5, .int s.2.1)] [] (eX s.2.2)) Kp (fun s o hb hk => f_X4_mostEnded_B35_ok (Kp := jsum (fun s => J yX4_mostEnded cX4_mostEnded 7 (some .int) 27 g rv μ' 35 [(0, .ref 17), (1, .ref 4), (2, .ref 61), (4, .int s.1), (5, .int s.2.1)] [] (eX s.2.2)) Kp) s.2.2 61 s.1 s.2.1 hn (fun r s q => hr r s q) (fun s q => q) o hb hk) jFuel _ _ h hK
theorem c_X4_mostEnded (g : Bool) {σ : jS} {x2 : Nat} {x3 : Int32} {r : Int32} {σ2 : jS} (h : f_X4_mostEnded σ x2 x3 = some (r, σ2)) : Cn yX4_mostEnded cX4_mostEnded 7 (some .int) 27 g [.ref 17, .ref 4, .ref x2, .int x3] (eX σ) (some (.int r)) (eX σ2) :=
  Cn_of (by decide) (Nat.le_refl _) (Nat.le_refl _) (Nat.le_of_ble_eq_true rfl) (f_X4_mostEnded_ok (Kp := (fun o => o = (r, σ2))) σ x2 x3 ⟨jbr _, jbr _⟩ (fun r2 s2 q => by cases q; exact ⟨rfl, rfl⟩) _ h rfl)
def f_X10_most_J58 (σ : jS) (y0 : Int32) : Option (Int32 × jS) :=
  some ((y0, σ))
set_option maxHeartbeats 1000000 in
set_option maxRecDepth 20000 in
theorem f_X10_most_J58_ok {g : Bool} {rv : Option Value} {μ' : jM} (σ : jS) (y0 : Int32) {Kp : (Int32 × jS) → Prop} (hn : Nat.ble nX μ'.1 = true ∧ Nat.ble wX μ'.2.1 = true) (hr : ∀ (r : Int32) (s : jS), Kp ((r, s)) → rv = some (.int r) ∧ μ' = eX s) (o : (Int32 × jS)) (h : f_X10_most_J58 σ y0 = some o) (hK : Kp o) : J yX10_most cX10_most 3 (some .int) 28 g rv μ' 58 [] [.int y0] (eX σ) := by
  unfold f_X10_most_J58 at h
  replace h := Option.some.inj h
  subst h
  obtain ⟨hr1, hr2⟩ := hr _ _ hK
  exact j_iret dX10_most_58 hr1 hr2
def f_X10_most_J13 (σ : jS) (x1 : Int32) : Option (Int32 × jS) :=
  bV (σ.2.2.1) fun t1 =>
  bH [51, 61] t1 (
  if (gI σ t1 7) ≤ 8 then (bV (σ.2.2.1) fun t2 =>
  bD (f_X4_mostEnded σ t2 0) fun r3 σ4 =>
  if x1 = 0 then (bC (f_J6_bitCount_0f7a4 r3) fun r5 =>
  f_X10_most_J58 σ4 r5)
  else (f_X10_most_J58 σ4 r3))
  else (some (((-1003), σ))))
set_option maxHeartbeats 1000000 in
set_option maxRecDepth 20000 in
theorem f_X10_most_J13_ok {g : Bool} {rv : Option Value} {μ' : jM} (σ : jS) (x1 : Int32) {Kp : (Int32 × jS) → Prop} (hn : Nat.ble nX μ'.1 = true ∧ Nat.ble wX μ'.2.1 = true) (hr : ∀ (r : Int32) (s : jS), Kp ((r, s)) → rv = some (.int r) ∧ μ' = eX s) (o : (Int32 × jS)) (h : f_X10_most_J13 σ x1 = some o) (hK : Kp o) : J yX10_most cX10_most 3 (some .int) 28 g rv μ' 13 [(0, .ref 1), (1, .int x1)] [] (eX σ) := by
  unfold f_X10_most_J13 at h
  refine j_aload_n 0 dX10_most_13 rfl rfl ?_
  refine j_get (ci := 9) 7 (.ref (σ.2.2.1)) jC_9 dX10_most_14 kg_RX10_58 rfl (okX_1 _) (shX_1 _) (fvX_1_7 _) ?_
  replace h := bV_inv h
  obtain ⟨t6, et6, h⟩ := h
  refine j_nmr et6 ?_
  replace h := bH_inv h
  obtain ⟨hm7, h⟩ := h
  simp only [List.mem_cons, List.not_mem_nil, or_false] at hm7
  rcases hm7 with rfl | rfl
  · skip
    refine j_get (ci := 7) 7 (.int (gI σ 51 7)) jC_7 dX10_most_17 kg_RX10_128 rfl (okX_51 _) (shX_51 _) (fvX_51_7 _) ?_
    refine j_bipush (v := 8) dX10_most_20 (by decide) ?_
    refine j_icmp_le 29 dX10_most_22 (by decide) (fun hc8 => ?_) (fun hc8 => ?_)
    · replace h := jif_t hc8 h
      refine j_aload_n 0 dX10_most_29 rfl rfl ?_
      refine j_get (ci := 9) 2 (.ref 17) jC_9 dX10_most_30 kg_RX10_26 rfl (okX_1 _) (shX_1 _) (fvX_1_2 _) ?_
      refine j_aload_n 0 dX10_most_33 rfl rfl ?_
      refine j_get (ci := 9) 1 (.ref 4) jC_9 dX10_most_34 kg_RX10_19 rfl (okX_1 _) (shX_1 _) (fvX_1_1 _) ?_
      refine j_aload_n 0 dX10_most_37 rfl rfl ?_
      refine j_get (ci := 9) 7 (.ref (σ.2.2.1)) jC_9 dX10_most_38 kg_RX10_58 rfl (okX_1 _) (shX_1 _) (fvX_1_7 _) ?_
      replace h := bV_inv h
      obtain ⟨t9, et9, h⟩ := h
      refine j_nmr et9 ?_
      refine j_iconst (v := 0) dX10_most_41 (by decide) ?_
      replace h := bD_inv h
      obtain ⟨r10, σ11, cr10, h⟩ := h
      refine j_callV (ci := 4) (st1 := .int r10 :: _) (c_X4_mostEnded g cr10) jy_X4_mostEnded ki_yX4_mostEnded ks_yX4_mostEnded kl_RX10_262 dX10_most_42 rfl (okX_17 _) (shX_17 _) rfl rfl rfl rfl (jbr _) (jbr _) hn.1 hn.2 (Or.inr rfl) rfl ?_
      refine j_istore_n [(2, .int r10), (0, .ref 1), (1, .int x1)] dX10_most_45 rfl (Nat.le_of_ble_eq_true rfl) rfl ?_
      refine j_iload_n 2 dX10_most_46 rfl rfl ?_
      refine j_if_ne 57 dX10_most_47 (by decide) (fun hc12 => ?_) (fun hc12 => ?_)
      · replace h := jif_f hc12 h
        refine j_iload_n 0 dX10_most_57 rfl rfl ?_
        refine j_sub [] [] rfl ?_
        exact f_X10_most_J58_ok σ11 r10 hn hr _ h hK
      · replace h := jif_t hc12 h
        refine j_iload_n 0 dX10_most_50 rfl rfl ?_
        replace h := bC_inv h
        obtain ⟨r13, cr13, h⟩ := h
        refine j_callS (st1 := .int r13 :: _) (c_J6_bitCount_0f7a4 g _ cr13) jy_J6_bitCount_0f7a4 kt_yJ6_bitCount_0f7a4 kl_RX10_266 dX10_most_51 rfl rfl rfl rfl (jbr _) (jbr _) hn.1 hn.2 (Or.inr rfl) rfl ?_
        refine j_goto 58 dX10_most_54 (by decide) ?_
        refine j_sub [] [] rfl ?_
        exact f_X10_most_J58_ok σ11 r13 hn hr _ h hK
    · replace h := jif_f hc8 h
      refine j_sipush (v := (-1003)) dX10_most_25 (by decide) ?_
      replace h := Option.some.inj h
      subst h
      obtain ⟨hr1, hr2⟩ := hr _ _ hK
      exact j_iret dX10_most_28 hr1 hr2
  · skip
    refine j_get (ci := 7) 7 (.int (gI σ 61 7)) jC_7 dX10_most_17 kg_RX10_128 rfl (okX_61 _) (shX_61 _) (fvX_61_7 _) ?_
    refine j_bipush (v := 8) dX10_most_20 (by decide) ?_
    refine j_icmp_le 29 dX10_most_22 (by decide) (fun hc14 => ?_) (fun hc14 => ?_)
    · replace h := jif_t hc14 h
      refine j_aload_n 0 dX10_most_29 rfl rfl ?_
      refine j_get (ci := 9) 2 (.ref 17) jC_9 dX10_most_30 kg_RX10_26 rfl (okX_1 _) (shX_1 _) (fvX_1_2 _) ?_
      refine j_aload_n 0 dX10_most_33 rfl rfl ?_
      refine j_get (ci := 9) 1 (.ref 4) jC_9 dX10_most_34 kg_RX10_19 rfl (okX_1 _) (shX_1 _) (fvX_1_1 _) ?_
      refine j_aload_n 0 dX10_most_37 rfl rfl ?_
      refine j_get (ci := 9) 7 (.ref (σ.2.2.1)) jC_9 dX10_most_38 kg_RX10_58 rfl (okX_1 _) (shX_1 _) (fvX_1_7 _) ?_
      replace h := bV_inv h
      obtain ⟨t15, et15, h⟩ := h
      refine j_nmr et15 ?_
      refine j_iconst (v := 0) dX10_most_41 (by decide) ?_
      replace h := bD_inv h
      obtain ⟨r16, σ17, cr16, h⟩ := h
      refine j_callV (ci := 4) (st1 := .int r16 :: _) (c_X4_mostEnded g cr16) jy_X4_mostEnded ki_yX4_mostEnded ks_yX4_mostEnded kl_RX10_262 dX10_most_42 rfl (okX_17 _) (shX_17 _) rfl rfl rfl rfl (jbr _) (jbr _) hn.1 hn.2 (Or.inr rfl) rfl ?_
      refine j_istore_n [(2, .int r16), (0, .ref 1), (1, .int x1)] dX10_most_45 rfl (Nat.le_of_ble_eq_true rfl) rfl ?_
      refine j_iload_n 2 dX10_most_46 rfl rfl ?_
      refine j_if_ne 57 dX10_most_47 (by decide) (fun hc18 => ?_) (fun hc18 => ?_)
      · replace h := jif_f hc18 h
        refine j_iload_n 0 dX10_most_57 rfl rfl ?_
        refine j_sub [] [] rfl ?_
        exact f_X10_most_J58_ok σ17 r16 hn hr _ h hK
      · replace h := jif_t hc18 h
        refine j_iload_n 0 dX10_most_50 rfl rfl ?_
        replace h := bC_inv h
        obtain ⟨r19, cr19, h⟩ := h
        refine j_callS (st1 := .int r19 :: _) (c_J6_bitCount_0f7a4 g _ cr19) jy_J6_bitCount_0f7a4 kt_yJ6_bitCount_0f7a4 kl_RX10_266 dX10_most_51 rfl rfl rfl rfl (jbr _) (jbr _) hn.1 hn.2 (Or.inr rfl) rfl ?_
        refine j_goto 58 dX10_most_54 (by decide) ?_
        refine j_sub [] [] rfl ?_
        exact f_X10_most_J58_ok σ17 r19 hn hr _ h hK
    · replace h := jif_f hc14 h
      refine j_sipush (v := (-1003)) dX10_most_25 (by decide) ?_
      replace h := Option.some.inj h
      subst h
      obtain ⟨hr1, hr2⟩ := hr _ _ hK
      exact j_iret dX10_most_28 hr1 hr2
def f_X10_most (σ : jS) (x1 : Int32) : Option (Int32 × jS) :=
  if x1 = 0 then (f_X10_most_J13 σ x1)
  else (if x1 = 1 then (f_X10_most_J13 σ x1)
  else (some (((-1002), σ))))
set_option maxHeartbeats 1000000 in
set_option maxRecDepth 20000 in
theorem f_X10_most_ok {g : Bool} {rv : Option Value} {μ' : jM} (σ : jS) (x1 : Int32) {Kp : (Int32 × jS) → Prop} (hn : Nat.ble nX μ'.1 = true ∧ Nat.ble wX μ'.2.1 = true) (hr : ∀ (r : Int32) (s : jS), Kp ((r, s)) → rv = some (.int r) ∧ μ' = eX s) (o : (Int32 × jS)) (h : f_X10_most σ x1 = some o) (hK : Kp o) : J yX10_most cX10_most 3 (some .int) 28 g rv μ' 0 [(0, .ref 1), (1, .int x1)] [] (eX σ) := by
  unfold f_X10_most at h
  refine j_iload_n 1 dX10_most_0 rfl rfl ?_
  refine j_if_eq 13 dX10_most_1 (by decide) (fun hc20 => ?_) (fun hc20 => ?_)
  · replace h := jif_t hc20 h
    exact f_X10_most_J13_ok σ x1 hn hr _ h hK
  · replace h := jif_f hc20 h
    refine j_iload_n 1 dX10_most_4 rfl rfl ?_
    refine j_iconst (v := 1) dX10_most_5 (by decide) ?_
    refine j_icmp_eq 13 dX10_most_6 (by decide) (fun hc21 => ?_) (fun hc21 => ?_)
    · replace h := jif_t hc21 h
      exact f_X10_most_J13_ok σ x1 hn hr _ h hK
    · replace h := jif_f hc21 h
      refine j_sipush (v := (-1002)) dX10_most_9 (by decide) ?_
      replace h := Option.some.inj h
      subst h
      obtain ⟨hr1, hr2⟩ := hr _ _ hK
      exact j_iret dX10_most_12 hr1 hr2
theorem c_X10_most (g : Bool) {σ : jS} {x1 : Int32} {r : Int32} {σ2 : jS} (h : f_X10_most σ x1 = some (r, σ2)) : Cn yX10_most cX10_most 3 (some .int) 28 g [.ref 1, .int x1] (eX σ) (some (.int r)) (eX σ2) :=
  Cn_of (by decide) (Nat.le_refl _) (Nat.le_refl _) (Nat.le_of_ble_eq_true rfl) (f_X10_most_ok (Kp := (fun o => o = (r, σ2))) σ x1 ⟨jbr _, jbr _⟩ (fun r2 s2 q => by cases q; exact ⟨rfl, rfl⟩) _ h rfl)
