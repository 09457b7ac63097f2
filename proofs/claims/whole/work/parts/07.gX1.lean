def f_X6_put_J18 (σ : jS) : Option (Unit × jS) :=
  some (((), σ))
set_option maxHeartbeats 1000000 in
set_option maxRecDepth 20000 in
theorem f_X6_put_J18_ok {g : Bool} {rv : Option Value} {μ' : jM} (σ : jS) {Kp : (Unit × jS) → Prop} (hn : Nat.ble nX μ'.1 = true ∧ Nat.ble wX μ'.2.1 = true) (hr : ∀ (r : Unit) (s : jS), Kp ((r, s)) → rv = none ∧ μ' = eX s) (o : (Unit × jS)) (h : f_X6_put_J18 σ = some o) (hK : Kp o) : J yX6_put cX6_put 3 none 1 g rv μ' 18 [] [] (eX σ) := by
  unfold f_X6_put_J18 at h
  replace h := Option.some.inj h
  subst h
  obtain ⟨hr1, hr2⟩ := hr _ _ hK
  exact j_vret dX6_put_18 hr1 hr2
def f_X6_put (σ : jS) (x0 : Nat) (x1 : Int32) (x2 : Int32) : Option (Unit × jS) :=
  if x0 = 0 then (f_X6_put_J18 σ)
  else (if x1 < 0 then (f_X6_put_J18 σ)
  else (bG (jrwX 0 x0) (
  if (Int32.ofNat (SHX x0).2) ≤ x1 then (f_X6_put_J18 σ)
  else (bG (jin x1 (SHX x0).2) (
  bV (sI σ x0 (ix x1) x2) fun σ2 =>
  f_X6_put_J18 σ2)))))
set_option maxHeartbeats 1000000 in
set_option maxRecDepth 20000 in
theorem f_X6_put_ok {g : Bool} {rv : Option Value} {μ' : jM} (σ : jS) (x0 : Nat) (x1 : Int32) (x2 : Int32) {Kp : (Unit × jS) → Prop} (hn : Nat.ble nX μ'.1 = true ∧ Nat.ble wX μ'.2.1 = true) (hr : ∀ (r : Unit) (s : jS), Kp ((r, s)) → rv = none ∧ μ' = eX s) (o : (Unit × jS)) (h : f_X6_put σ x0 x1 x2 = some o) (hK : Kp o) : J yX6_put cX6_put 3 none 1 g rv μ' 0 [(0, .ref x0), (1, .int x1), (2, .int x2)] [] (eX σ) := by
  unfold f_X6_put at h
  refine j_aload_n 0 dX6_put_0 rfl rfl ?_
  refine j_ifnull 18 dX6_put_1 (by decide) (fun hc3 => ?_) (fun hc3 => ?_)
  · replace h := jif_t hc3 h
    refine j_sub [] [] rfl ?_
    exact f_X6_put_J18_ok σ hn hr _ h hK
  · replace h := jif_f hc3 h
    refine j_iload_n 1 dX6_put_4 rfl rfl ?_
    refine j_if_lt 18 dX6_put_5 (by decide) (fun hc4 => ?_) (fun hc4 => ?_)
    · replace h := jif_t hc4 h
      refine j_sub [] [] rfl ?_
      exact f_X6_put_J18_ok σ hn hr _ h hK
    · replace h := jif_f hc4 h
      refine j_iload_n 1 dX6_put_8 rfl rfl ?_
      refine j_aload_n 0 dX6_put_9 rfl rfl ?_
      replace h := bG_inv h
      obtain ⟨hg5, h⟩ := h
      refine j_alen dX6_put_10 (jrwX_ok hg5) (jrwX_sh hg5) rfl ?_
      refine j_icmp_ge 18 dX6_put_11 (by decide) (fun hc6 => ?_) (fun hc6 => ?_)
      · replace h := jif_t hc6 h
        refine j_sub [] [] rfl ?_
        exact f_X6_put_J18_ok σ hn hr _ h hK
      · replace h := jif_f hc6 h
        refine j_aload_n 0 dX6_put_14 rfl rfl ?_
        refine j_iload_n 1 dX6_put_15 rfl rfl ?_
        refine j_iload_n 2 dX6_put_16 rfl rfl ?_
        replace h := bG_inv h
        obtain ⟨hi7, h⟩ := h
        refine j_iastore dX6_put_17 (jrwX_ok hg5) (jrwX_sh hg5) (jin_spec hi7) ?_
        replace h := bV_inv h
        obtain ⟨σ8, eσ8, h⟩ := h
        refine j_mem (congrArg eX eσ8) ?_
        refine j_sub [] [] rfl ?_
        exact f_X6_put_J18_ok σ8 hn hr _ h hK
theorem c_X6_put (g : Bool) {σ : jS} {x0 : Nat} {x1 : Int32} {x2 : Int32} {r : Unit} {σ2 : jS} (h : f_X6_put σ x0 x1 x2 = some (r, σ2)) : Cn yX6_put cX6_put 3 none 1 g [.ref x0, .int x1, .int x2] (eX σ) none (eX σ2) :=
  Cn_of (by decide) (Nat.le_refl _) (Nat.le_refl _) (Nat.le_of_ble_eq_true rfl) (f_X6_put_ok (Kp := (fun o => o = (r, σ2))) σ x0 x1 x2 ⟨jbr _, jbr _⟩ (fun r2 s2 q => by cases q; exact ⟨rfl, rfl⟩) _ h rfl)
def f_X5_append (σ : jS) (x1 : Int32) : Option (Unit × jS) :=
  if (gI σ 2 1) < 500 then (bD (f_X6_put σ 3 (gI σ 2 1) x1) fun r1 σ2 =>
  bV (sI σ2 2 1 ((gI σ2 2 1) + (1 : Int32))) fun σ3 =>
  some (((), σ3)))
  else (some (((), σ)))
set_option maxHeartbeats 1000000 in
set_option maxRecDepth 20000 in
theorem f_X5_append_ok {g : Bool} {rv : Option Value} {μ' : jM} (σ : jS) (x1 : Int32) {Kp : (Unit × jS) → Prop} (hn : Nat.ble nX μ'.1 = true ∧ Nat.ble wX μ'.2.1 = true) (hr : ∀ (r : Unit) (s : jS), Kp ((r, s)) → rv = none ∧ μ' = eX s) (o : (Unit × jS)) (h : f_X5_append σ x1 = some o) (hK : Kp o) : J yX5_append cX5_append 2 none 2 g rv μ' 0 [(0, .ref 2), (1, .int x1)] [] (eX σ) := by
  unfold f_X5_append at h
  refine j_aload_n 0 dX5_append_0 rfl rfl ?_
  refine j_get (ci := 5) 1 (.int (gI σ 2 1)) jC_5 dX5_append_1 kg_RX5_19 rfl (okX_2 _) (shX_2 _) (fvX_2_1 _) ?_
  refine j_sipush (v := 500) dX5_append_4 (by decide) ?_
  refine j_icmp_lt 11 dX5_append_7 (by decide) (fun hc4 => ?_) (fun hc4 => ?_)
  · replace h := jif_t hc4 h
    refine j_aload_n 0 dX5_append_11 rfl rfl ?_
    refine j_get (ci := 5) 0 (.ref 3) jC_5 dX5_append_12 kg_RX5_9 rfl (okX_2 _) (shX_2 _) (fvX_2_0 _) ?_
    refine j_aload_n 0 dX5_append_15 rfl rfl ?_
    refine j_get (ci := 5) 1 (.int (gI σ 2 1)) jC_5 dX5_append_16 kg_RX5_19 rfl (okX_2 _) (shX_2 _) (fvX_2_1 _) ?_
    refine j_iload_n 1 dX5_append_19 rfl rfl ?_
    replace h := bD_inv h
    obtain ⟨r5, σ6, cr5, h⟩ := h
    refine j_callS (st1 := _) (c_X6_put g cr5) jy_X6_put kt_yX6_put kl_RX5_22 dX5_append_20 rfl rfl rfl rfl (jbr _) (jbr _) hn.1 hn.2 (Or.inr rfl) rfl ?_
    refine j_aload_n 0 dX5_append_23 rfl rfl ?_
    refine j_dup dX5_append_24 rfl ?_
    refine j_get (ci := 5) 1 (.int (gI σ6 2 1)) jC_5 dX5_append_25 kg_RX5_19 rfl (okX_2 _) (shX_2 _) (fvX_2_1 _) ?_
    refine j_iconst (v := 1) dX5_append_28 (by decide) ?_
    refine j_iadd dX5_append_29 ?_
    replace h := bV_inv h
    obtain ⟨σ7, eσ7, h⟩ := h
    refine j_putI 1 jC_5 dX5_append_30 kg_RX5_19 (Or.inl ff_5_1) rfl fk_5_1 (fn_5_1 _) (okX_2 _) (shX_2 _) ?_
    refine j_mem (congrArg eX eσ7) ?_
    replace h := Option.some.inj h
    subst h
    obtain ⟨hr1, hr2⟩ := hr _ _ hK
    exact j_vret dX5_append_33 hr1 hr2
  · replace h := jif_f hc4 h
    replace h := Option.some.inj h
    subst h
    obtain ⟨hr1, hr2⟩ := hr _ _ hK
    exact j_vret dX5_append_10 hr1 hr2
theorem c_X5_append (g : Bool) {σ : jS} {x1 : Int32} {r : Unit} {σ2 : jS} (h : f_X5_append σ x1 = some (r, σ2)) : Cn yX5_append cX5_append 2 none 2 g [.ref 2, .int x1] (eX σ) none (eX σ2) :=
  Cn_of (by decide) (Nat.le_refl _) (Nat.le_refl _) (Nat.le_of_ble_eq_true rfl) (f_X5_append_ok (Kp := (fun o => o = (r, σ2))) σ x1 ⟨jbr _, jbr _⟩ (fun r2 s2 q => by cases q; exact ⟨rfl, rfl⟩) _ h rfl)
def f_X10_feed_J11 (σ : jS) : Option (Int32 × jS) :=
  some (((-1002), σ))
set_option maxHeartbeats 1000000 in
set_option maxRecDepth 20000 in
theorem f_X10_feed_J11_ok {g : Bool} {rv : Option Value} {μ' : jM} (σ : jS) {Kp : (Int32 × jS) → Prop} (hn : Nat.ble nX μ'.1 = true ∧ Nat.ble wX μ'.2.1 = true) (hr : ∀ (r : Int32) (s : jS), Kp ((r, s)) → rv = some (.int r) ∧ μ' = eX s) (o : (Int32 × jS)) (h : f_X10_feed_J11 σ = some o) (hK : Kp o) : J yX10_feed cX10_feed 5 (some .int) 3 g rv μ' 11 [] [] (eX σ) := by
  unfold f_X10_feed_J11 at h
  refine j_sipush (v := (-1002)) dX10_feed_11 (by decide) ?_
  replace h := Option.some.inj h
  subst h
  obtain ⟨hr1, hr2⟩ := hr _ _ hK
  exact j_iret dX10_feed_14 hr1 hr2
def f_X10_feed_J69 (σ : jS) : Option (Int32 × jS) :=
  some ((gI σ 2 1, σ))
set_option maxHeartbeats 1000000 in
set_option maxRecDepth 20000 in
theorem f_X10_feed_J69_ok {g : Bool} {rv : Option Value} {μ' : jM} (σ : jS) {Kp : (Int32 × jS) → Prop} (hn : Nat.ble nX μ'.1 = true ∧ Nat.ble wX μ'.2.1 = true) (hr : ∀ (r : Int32) (s : jS), Kp ((r, s)) → rv = some (.int r) ∧ μ' = eX s) (o : (Int32 × jS)) (h : f_X10_feed_J69 σ = some o) (hK : Kp o) : J yX10_feed cX10_feed 5 (some .int) 3 g rv μ' 69 [(0, .ref 1)] [] (eX σ) := by
  unfold f_X10_feed_J69 at h
  refine j_aload_n 0 dX10_feed_69 rfl rfl ?_
  refine j_get (ci := 9) 0 (.ref 2) jC_9 dX10_feed_70 kg_RX10_12 rfl (okX_1 _) (shX_1 _) (fvX_1_0 _) ?_
  refine j_get (ci := 5) 1 (.int (gI σ 2 1)) jC_5 dX10_feed_73 kg_RX10_69 rfl (okX_2 _) (shX_2 _) (fvX_2_1 _) ?_
  replace h := Option.some.inj h
  subst h
  obtain ⟨hr1, hr2⟩ := hr _ _ hK
  exact j_iret dX10_feed_76 hr1 hr2
def f_X10_feed_B39 (σ : jS) (x2 : Int64) (x4 : Int32) : Option ((Int32 × jS) ⊕ (Int32 × jS)) :=
  if x4 < 0 then (jw (f_X10_feed_J69 σ))
  else (bD (f_X5_append σ (((x2 >>> (((8 : Int32) * x4).toInt64 &&& 63)).toInt32) &&& (255 : Int32))) fun r2 σ3 =>
  bV (x4 + (-1)) fun v4 =>
  some (.inl (v4, σ3)))
set_option maxHeartbeats 1000000 in
set_option maxRecDepth 20000 in
theorem f_X10_feed_B39_ok {g : Bool} {rv : Option Value} {μ' : jM} (σ : jS) (x2 : Int64) (x4 : Int32) {Kp : ((Int32 × jS) ⊕ (Int32 × jS)) → Prop} (hn : Nat.ble nX μ'.1 = true ∧ Nat.ble wX μ'.2.1 = true) (hr : ∀ (r : Int32) (s : jS), Kp (.inr ((r, s))) → rv = some (.int r) ∧ μ' = eX s) (hc0 : ∀ s : (Int32 × jS), Kp (.inl s) → J yX10_feed cX10_feed 5 (some .int) 3 g rv μ' 39 [(0, .ref 1), (2, .long x2), (4, .int s.1)] [] (eX s.2)) (o : ((Int32 × jS) ⊕ (Int32 × jS))) (h : f_X10_feed_B39 σ x2 x4 = some o) (hK : Kp o) : J yX10_feed cX10_feed 5 (some .int) 3 g rv μ' 39 [(0, .ref 1), (2, .long x2), (4, .int x4)] [] (eX σ) := by
  unfold f_X10_feed_B39 at h
  refine j_iload 2 dX10_feed_39 rfl ?_
  refine j_if_lt 69 dX10_feed_41 (by decide) (fun hc5 => ?_) (fun hc5 => ?_)
  · replace h := jif_t hc5 h
    replace h := jw_inv h
    obtain ⟨o6, rfl, h⟩ := h
    refine j_sub [(0, .ref 1)] [0] rfl ?_
    exact f_X10_feed_J69_ok (Kp := fun o => Kp (.inr (o))) σ hn (fun r s q => hr r s q) _ h hK
  · replace h := jif_f hc5 h
    refine j_aload_n 0 dX10_feed_44 rfl rfl ?_
    refine j_get (ci := 9) 0 (.ref 2) jC_9 dX10_feed_45 kg_RX10_12 rfl (okX_1 _) (shX_1 _) (fvX_1_0 _) ?_
    refine j_lload_n 1 dX10_feed_48 rfl rfl ?_
    refine j_bipush (v := 8) dX10_feed_49 (by decide) ?_
    refine j_iload 2 dX10_feed_51 rfl ?_
    refine j_imul dX10_feed_53 ?_
    refine j_lshr dX10_feed_54 ?_
    refine j_l2i dX10_feed_55 ?_
    refine j_sipush (v := 255) dX10_feed_56 (by decide) ?_
    refine j_iand dX10_feed_59 ?_
    replace h := bD_inv h
    obtain ⟨r7, σ8, cr7, h⟩ := h
    refine j_callV (ci := 5) (st1 := _) (c_X5_append g cr7) jy_X5_append ki_yX5_append ks_yX5_append kl_RX10_72 dX10_feed_60 rfl (okX_2 _) (shX_2 _) rfl rfl rfl rfl (jbr _) (jbr _) hn.1 hn.2 (Or.inr rfl) rfl ?_
    replace h := bV_inv h
    obtain ⟨v9, ev9, h⟩ := h
    refine j_iinc (v := v9) [(4, .int v9), (0, .ref 1), (2, .long x2)] 2 dX10_feed_63 rfl (by rw [ev9]; rfl) (Nat.le_of_ble_eq_true rfl) rfl ?_
    refine j_goto 39 dX10_feed_66 (by decide) ?_
    replace h := Option.some.inj h
    subst h
    refine j_sub [(0, .ref 1), (2, .long x2), (4, .int v9)] [1, 2, 0] rfl ?_
    exact hc0 _ hK
def f_X10_feed (σ : jS) (x1 : Int32) (x2 : Int64) : Option (Int32 × jS) :=
  if x1 < 1 then (f_X10_feed_J11 σ)
  else (if x1 ≤ 8 then (if ((gI σ 2 1) + x1) ≤ 500 then (bV (x1 - (1 : Int32)) fun v1 =>
  jloop jFuel (fun s => f_X10_feed_B39 s.2 x2 s.1) (v1, σ))
  else (some (((-1004), σ))))
  else (f_X10_feed_J11 σ))
set_option maxHeartbeats 1000000 in
set_option maxRecDepth 20000 in
theorem f_X10_feed_ok {g : Bool} {rv : Option Value} {μ' : jM} (σ : jS) (x1 : Int32) (x2 : Int64) {Kp : (Int32 × jS) → Prop} (hn : Nat.ble nX μ'.1 = true ∧ Nat.ble wX μ'.2.1 = true) (hr : ∀ (r : Int32) (s : jS), Kp ((r, s)) → rv = some (.int r) ∧ μ' = eX s) (o : (Int32 × jS)) (h : f_X10_feed σ x1 x2 = some o) (hK : Kp o) : J yX10_feed cX10_feed 5 (some .int) 3 g rv μ' 0 [(0, .ref 1), (1, .int x1), (2, .long x2)] [] (eX σ) := by
  unfold f_X10_feed at h
  refine j_iload_n 1 dX10_feed_0 rfl rfl ?_
  refine j_iconst (v := 1) dX10_feed_1 (by decide) ?_
  refine j_icmp_lt 11 dX10_feed_2 (by decide) (fun hc10 => ?_) (fun hc10 => ?_)
  · replace h := jif_t hc10 h
    refine j_sub [] [] rfl ?_
    exact f_X10_feed_J11_ok σ hn hr _ h hK
  · replace h := jif_f hc10 h
    refine j_iload_n 1 dX10_feed_5 rfl rfl ?_
    refine j_bipush (v := 8) dX10_feed_6 (by decide) ?_
    refine j_icmp_le 15 dX10_feed_8 (by decide) (fun hc11 => ?_) (fun hc11 => ?_)
    · replace h := jif_t hc11 h
      refine j_aload_n 0 dX10_feed_15 rfl rfl ?_
      refine j_get (ci := 9) 0 (.ref 2) jC_9 dX10_feed_16 kg_RX10_12 rfl (okX_1 _) (shX_1 _) (fvX_1_0 _) ?_
      refine j_get (ci := 5) 1 (.int (gI σ 2 1)) jC_5 dX10_feed_19 kg_RX10_69 rfl (okX_2 _) (shX_2 _) (fvX_2_1 _) ?_
      refine j_iload_n 1 dX10_feed_22 rfl rfl ?_
      refine j_iadd dX10_feed_23 ?_
      refine j_sipush (v := 500) dX10_feed_24 (by decide) ?_
      refine j_icmp_le 34 dX10_feed_27 (by decide) (fun hc12 => ?_) (fun hc12 => ?_)
      · replace h := jif_t hc12 h
        refine j_iload_n 1 dX10_feed_34 rfl rfl ?_
        refine j_iconst (v := 1) dX10_feed_35 (by decide) ?_
        refine j_isub dX10_feed_36 ?_
        replace h := bV_inv h
        obtain ⟨v13, ev13, h⟩ := h
        refine j_nmi ev13 ?_
        refine j_istore [(4, .int v13), (0, .ref 1), (1, .int x1), (2, .long x2)] dX10_feed_37 (Nat.le_of_ble_eq_true rfl) rfl ?_
        refine j_sub [(0, .ref 1), (2, .long x2), (4, .int v13)] [1, 3, 0] rfl ?_
        exact jloop_ok (fun s => f_X10_feed_B39 s.2 x2 s.1) (fun s => J yX10_feed cX10_feed 5 (some .int) 3 g rv μ' 39 [(0, .ref 1), (2, .long x2), (4, .int s.1)] [] (eX s.2)) Kp (fun s o hb hk => f_X10_feed_B39_ok (Kp := jsum (fun s => J yX10_feed cX10_feed 5 (some .int) 3 g rv μ' 39 [(0, .ref 1), (2, .long x2), (4, .int s.1)] [] (eX s.2)) Kp) s.2 x2 s.1 hn (fun r s q => hr r s q) (fun s q => q) o hb hk) jFuel _ _ h hK
      · replace h := jif_f hc12 h
        refine j_sipush (v := (-1004)) dX10_feed_30 (by decide) ?_
        replace h := Option.some.inj h
        subst h
        obtain ⟨hr1, hr2⟩ := hr _ _ hK
        exact j_iret dX10_feed_33 hr1 hr2
    · replace h := jif_f hc11 h
      refine j_sub [] [] rfl ?_
      exact f_X10_feed_J11_ok σ hn hr _ h hK
theorem c_X10_feed (g : Bool) {σ : jS} {x1 : Int32} {x2 : Int64} {r : Int32} {σ2 : jS} (h : f_X10_feed σ x1 x2 = some (r, σ2)) : Cn yX10_feed cX10_feed 5 (some .int) 3 g [.ref 1, .int x1, .long x2] (eX σ) (some (.int r)) (eX σ2) :=
  Cn_of (by decide) (Nat.le_refl _) (Nat.le_refl _) (Nat.le_of_ble_eq_true rfl) (f_X10_feed_ok (Kp := (fun o => o = (r, σ2))) σ x1 x2 ⟨jbr _, jbr _⟩ (fun r2 s2 q => by cases q; exact ⟨rfl, rfl⟩) _ h rfl)
def f_X10_imageAt_J30 (σ : jS) (y0 : Nat) : Option Nat :=
  some (y0)
set_option maxHeartbeats 1000000 in
set_option maxRecDepth 20000 in
theorem f_X10_imageAt_J30_ok {g : Bool} {rv : Option Value} {μ' : jM} (σ : jS) (y0 : Nat) {Kp : Nat → Prop} (hn : Nat.ble nX μ'.1 = true ∧ Nat.ble wX μ'.2.1 = true) (hr : ∀ r : Nat, Kp (r) → rv = some (.ref r) ∧ μ' = (eX σ)) (o : Nat) (h : f_X10_imageAt_J30 σ y0 = some o) (hK : Kp o) : J yX10_imageAt cX10_imageAt 2 (some (.object "DeputyQuarrels$Standing")) 1 g rv μ' 30 [] [.ref y0] (eX σ) := by
  unfold f_X10_imageAt_J30 at h
  replace h := Option.some.inj h
  subst h
  obtain ⟨hr1, hr2⟩ := hr _ hK
  exact j_aret (Or.inl ⟨_, rfl⟩) dX10_imageAt_30 hr1 hr2
def f_X10_imageAt_J29 (σ : jS) : Option Nat :=
  f_X10_imageAt_J30 σ 0
set_option maxHeartbeats 1000000 in
set_option maxRecDepth 20000 in
theorem f_X10_imageAt_J29_ok {g : Bool} {rv : Option Value} {μ' : jM} (σ : jS) {Kp : Nat → Prop} (hn : Nat.ble nX μ'.1 = true ∧ Nat.ble wX μ'.2.1 = true) (hr : ∀ r : Nat, Kp (r) → rv = some (.ref r) ∧ μ' = (eX σ)) (o : Nat) (h : f_X10_imageAt_J29 σ = some o) (hK : Kp o) : J yX10_imageAt cX10_imageAt 2 (some (.object "DeputyQuarrels$Standing")) 1 g rv μ' 29 [] [] (eX σ) := by
  unfold f_X10_imageAt_J29 at h
  refine j_null dX10_imageAt_29 ?_
  exact f_X10_imageAt_J30_ok σ 0 hn hr _ h hK
def f_X10_imageAt (σ : jS) (x1 : Int32) : Option Nat :=
  if 36 = 0 then (f_X10_imageAt_J29 σ)
  else (if x1 < 0 then (f_X10_imageAt_J29 σ)
  else (if (Int32.ofNat 2) ≤ x1 then (f_X10_imageAt_J29 σ)
  else (bG (jin x1 2) (
  bV (rPX 36 (ix x1)) fun t1 =>
  f_X10_imageAt_J30 σ t1))))
set_option maxHeartbeats 1000000 in
set_option maxRecDepth 20000 in
theorem f_X10_imageAt_ok {g : Bool} {rv : Option Value} {μ' : jM} (σ : jS) (x1 : Int32) {Kp : Nat → Prop} (hn : Nat.ble nX μ'.1 = true ∧ Nat.ble wX μ'.2.1 = true) (hr : ∀ r : Nat, Kp (r) → rv = some (.ref r) ∧ μ' = (eX σ)) (o : Nat) (h : f_X10_imageAt σ x1 = some o) (hK : Kp o) : J yX10_imageAt cX10_imageAt 2 (some (.object "DeputyQuarrels$Standing")) 1 g rv μ' 0 [(0, .ref 1), (1, .int x1)] [] (eX σ) := by
  unfold f_X10_imageAt at h
  refine j_aload_n 0 dX10_imageAt_0 rfl rfl ?_
  refine j_get (ci := 9) 6 (.ref 36) jC_9 dX10_imageAt_1 kg_RX10_51 rfl (okX_1 _) (shX_1 _) (fvX_1_6 _) ?_
  refine j_ifnull 29 dX10_imageAt_4 (by decide) (fun hc2 => ?_) (fun hc2 => ?_)
  · replace h := jif_t hc2 h
    refine j_sub [] [] rfl ?_
    exact f_X10_imageAt_J29_ok σ hn hr _ h hK
  · replace h := jif_f hc2 h
    refine j_iload_n 1 dX10_imageAt_7 rfl rfl ?_
    refine j_if_lt 29 dX10_imageAt_8 (by decide) (fun hc3 => ?_) (fun hc3 => ?_)
    · replace h := jif_t hc3 h
      refine j_sub [] [] rfl ?_
      exact f_X10_imageAt_J29_ok σ hn hr _ h hK
    · replace h := jif_f hc3 h
      refine j_iload_n 1 dX10_imageAt_11 rfl rfl ?_
      refine j_aload_n 0 dX10_imageAt_12 rfl rfl ?_
      refine j_get (ci := 9) 6 (.ref 36) jC_9 dX10_imageAt_13 kg_RX10_51 rfl (okX_1 _) (shX_1 _) (fvX_1_6 _) ?_
      refine j_alen dX10_imageAt_16 (okX_36 _) (shX_36 _) rfl ?_
      refine j_icmp_ge 29 dX10_imageAt_17 (by decide) (fun hc4 => ?_) (fun hc4 => ?_)
      · replace h := jif_t hc4 h
        refine j_sub [] [] rfl ?_
        exact f_X10_imageAt_J29_ok σ hn hr _ h hK
      · replace h := jif_f hc4 h
        refine j_aload_n 0 dX10_imageAt_20 rfl rfl ?_
        refine j_get (ci := 9) 6 (.ref 36) jC_9 dX10_imageAt_21 kg_RX10_51 rfl (okX_1 _) (shX_1 _) (fvX_1_6 _) ?_
        refine j_iload_n 1 dX10_imageAt_24 rfl rfl ?_
        replace h := bG_inv h
        obtain ⟨hi5, h⟩ := h
        refine j_aaload dX10_imageAt_25 (okX_36 _) (shX_36 _) (jin_spec hi5) ?_
        replace h := bV_inv h
        obtain ⟨t6, et6, h⟩ := h
        refine j_nmr et6 ?_
        refine j_goto 30 dX10_imageAt_26 (by decide) ?_
        refine j_sub [] [] rfl ?_
        exact f_X10_imageAt_J30_ok σ t6 hn hr _ h hK
theorem c_X10_imageAt (g : Bool) {σ : jS} {x1 : Int32} {r : Nat} (h : f_X10_imageAt σ x1 = some r) : Cn yX10_imageAt cX10_imageAt 2 (some (.object "DeputyQuarrels$Standing")) 1 g [.ref 1, .int x1] (eX σ) (some (.ref r)) (eX σ) :=
  Cn_of (by decide) (Nat.le_refl _) (Nat.le_refl _) (Nat.le_of_ble_eq_true rfl) (f_X10_imageAt_ok (Kp := (fun o => o = r)) σ x1 ⟨jbr _, jbr _⟩ (fun r2 q => by cases q; exact ⟨rfl, rfl⟩) _ h rfl)
def f_X6_at_J21 (σ : jS) (y0 : Int32) : Option Int32 :=
  some (y0)
set_option maxHeartbeats 1000000 in
set_option maxRecDepth 20000 in
theorem f_X6_at_J21_ok {g : Bool} {rv : Option Value} {μ' : jM} (σ : jS) (y0 : Int32) {Kp : Int32 → Prop} (hn : Nat.ble nX μ'.1 = true ∧ Nat.ble wX μ'.2.1 = true) (hr : ∀ r : Int32, Kp (r) → rv = some (.int r) ∧ μ' = (eX σ)) (o : Int32) (h : f_X6_at_J21 σ y0 = some o) (hK : Kp o) : J yX6_at cX6_at 2 (some .int) 1 g rv μ' 21 [] [.int y0] (eX σ) := by
  unfold f_X6_at_J21 at h
  replace h := Option.some.inj h
  subst h
  obtain ⟨hr1, hr2⟩ := hr _ hK
  exact j_iret dX6_at_21 hr1 hr2
def f_X6_at_J20 (σ : jS) : Option Int32 :=
  f_X6_at_J21 σ 0
set_option maxHeartbeats 1000000 in
set_option maxRecDepth 20000 in
theorem f_X6_at_J20_ok {g : Bool} {rv : Option Value} {μ' : jM} (σ : jS) {Kp : Int32 → Prop} (hn : Nat.ble nX μ'.1 = true ∧ Nat.ble wX μ'.2.1 = true) (hr : ∀ r : Int32, Kp (r) → rv = some (.int r) ∧ μ' = (eX σ)) (o : Int32) (h : f_X6_at_J20 σ = some o) (hK : Kp o) : J yX6_at cX6_at 2 (some .int) 1 g rv μ' 20 [] [] (eX σ) := by
  unfold f_X6_at_J20 at h
  refine j_iconst (v := 0) dX6_at_20 (by decide) ?_
  exact f_X6_at_J21_ok σ 0 hn hr _ h hK
def f_X6_at (σ : jS) (x0 : Nat) (x1 : Int32) : Option Int32 :=
  if x0 = 0 then (f_X6_at_J20 σ)
  else (if x1 < 0 then (f_X6_at_J20 σ)
  else (bG (jrwX 0 x0) (
  if (Int32.ofNat (SHX x0).2) ≤ x1 then (f_X6_at_J20 σ)
  else (bG (jin x1 (SHX x0).2) (
  f_X6_at_J21 σ (gI σ x0 (ix x1)))))))
set_option maxHeartbeats 1000000 in
set_option maxRecDepth 20000 in
theorem f_X6_at_ok {g : Bool} {rv : Option Value} {μ' : jM} (σ : jS) (x0 : Nat) (x1 : Int32) {Kp : Int32 → Prop} (hn : Nat.ble nX μ'.1 = true ∧ Nat.ble wX μ'.2.1 = true) (hr : ∀ r : Int32, Kp (r) → rv = some (.int r) ∧ μ' = (eX σ)) (o : Int32) (h : f_X6_at σ x0 x1 = some o) (hK : Kp o) : J yX6_at cX6_at 2 (some .int) 1 g rv μ' 0 [(0, .ref x0), (1, .int x1)] [] (eX σ) := by
  unfold f_X6_at at h
  refine j_aload_n 0 dX6_at_0 rfl rfl ?_
  refine j_ifnull 20 dX6_at_1 (by decide) (fun hc2 => ?_) (fun hc2 => ?_)
  · replace h := jif_t hc2 h
    refine j_sub [] [] rfl ?_
    exact f_X6_at_J20_ok σ hn hr _ h hK
  · replace h := jif_f hc2 h
    refine j_iload_n 1 dX6_at_4 rfl rfl ?_
    refine j_if_lt 20 dX6_at_5 (by decide) (fun hc3 => ?_) (fun hc3 => ?_)
    · replace h := jif_t hc3 h
      refine j_sub [] [] rfl ?_
      exact f_X6_at_J20_ok σ hn hr _ h hK
    · replace h := jif_f hc3 h
      refine j_iload_n 1 dX6_at_8 rfl rfl ?_
      refine j_aload_n 0 dX6_at_9 rfl rfl ?_
      replace h := bG_inv h
      obtain ⟨hg4, h⟩ := h
      refine j_alen dX6_at_10 (jrwX_ok hg4) (jrwX_sh hg4) rfl ?_
      refine j_icmp_ge 20 dX6_at_11 (by decide) (fun hc5 => ?_) (fun hc5 => ?_)
      · replace h := jif_t hc5 h
        refine j_sub [] [] rfl ?_
        exact f_X6_at_J20_ok σ hn hr _ h hK
      · replace h := jif_f hc5 h
        refine j_aload_n 0 dX6_at_14 rfl rfl ?_
        refine j_iload_n 1 dX6_at_15 rfl rfl ?_
        replace h := bG_inv h
        obtain ⟨hi6, h⟩ := h
        refine j_iaload dX6_at_16 (jrwX_ok hg4) (jrwX_sh hg4) (jin_spec hi6) ?_
        refine j_goto 21 dX6_at_17 (by decide) ?_
        refine j_sub [] [] rfl ?_
        exact f_X6_at_J21_ok σ (gI σ x0 (ix x1)) hn hr _ h hK
theorem c_X6_at (g : Bool) {σ : jS} {x0 : Nat} {x1 : Int32} {r : Int32} (h : f_X6_at σ x0 x1 = some r) : Cn yX6_at cX6_at 2 (some .int) 1 g [.ref x0, .int x1] (eX σ) (some (.int r)) (eX σ) :=
  Cn_of (by decide) (Nat.le_refl _) (Nat.le_refl _) (Nat.le_of_ble_eq_true rfl) (f_X6_at_ok (Kp := (fun o => o = r)) σ x0 x1 ⟨jbr _, jbr _⟩ (fun r2 q => by cases q; exact ⟨rfl, rfl⟩) _ h rfl)
def f_X6_copy_J23 (σ : jS) : Option (Unit × jS) :=
  some (((), σ))
set_option maxHeartbeats 1000000 in
set_option maxRecDepth 20000 in
theorem f_X6_copy_J23_ok {g : Bool} {rv : Option Value} {μ' : jM} (σ : jS) {Kp : (Unit × jS) → Prop} (hn : Nat.ble nX μ'.1 = true ∧ Nat.ble wX μ'.2.1 = true) (hr : ∀ (r : Unit) (s : jS), Kp ((r, s)) → rv = none ∧ μ' = eX s) (o : (Unit × jS)) (h : f_X6_copy_J23 σ = some o) (hK : Kp o) : J yX6_copy cX6_copy 4 none 2 g rv μ' 23 [] [] (eX σ) := by
  unfold f_X6_copy_J23 at h
  replace h := Option.some.inj h
  subst h
  obtain ⟨hr1, hr2⟩ := hr _ _ hK
  exact j_vret dX6_copy_23 hr1 hr2
def f_X6_copy_B2 (σ : jS) (x0 : Nat) (x1 : Nat) (x2 : Int32) (x3 : Int32) : Option ((Int32 × jS) ⊕ (Unit × jS)) :=
  if x2 ≤ x3 then (jw (f_X6_copy_J23 σ))
  else (bC (f_X6_at σ x0 x3) fun r1 =>
  bD (f_X6_put σ x1 x3 r1) fun r2 σ3 =>
  bV (x3 + 1) fun v4 =>
  some (.inl (v4, σ3)))
set_option maxHeartbeats 1000000 in
set_option maxRecDepth 20000 in
theorem f_X6_copy_B2_ok {g : Bool} {rv : Option Value} {μ' : jM} (σ : jS) (x0 : Nat) (x1 : Nat) (x2 : Int32) (x3 : Int32) {Kp : ((Int32 × jS) ⊕ (Unit × jS)) → Prop} (hn : Nat.ble nX μ'.1 = true ∧ Nat.ble wX μ'.2.1 = true) (hr : ∀ (r : Unit) (s : jS), Kp (.inr ((r, s))) → rv = none ∧ μ' = eX s) (hc0 : ∀ s : (Int32 × jS), Kp (.inl s) → J yX6_copy cX6_copy 4 none 2 g rv μ' 2 [(0, .ref x0), (1, .ref x1), (2, .int x2), (3, .int s.1)] [] (eX s.2)) (o : ((Int32 × jS) ⊕ (Unit × jS))) (h : f_X6_copy_B2 σ x0 x1 x2 x3 = some o) (hK : Kp o) : J yX6_copy cX6_copy 4 none 2 g rv μ' 2 [(0, .ref x0), (1, .ref x1), (2, .int x2), (3, .int x3)] [] (eX σ) := by
  unfold f_X6_copy_B2 at h
  refine j_iload_n 3 dX6_copy_2 rfl rfl ?_
  refine j_iload_n 2 dX6_copy_3 rfl rfl ?_
  refine j_icmp_ge 23 dX6_copy_4 (by decide) (fun hc5 => ?_) (fun hc5 => ?_)
  · replace h := jif_t hc5 h
    replace h := jw_inv h
    obtain ⟨o6, rfl, h⟩ := h
    refine j_sub [] [] rfl ?_
    exact f_X6_copy_J23_ok (Kp := fun o => Kp (.inr (o))) σ hn (fun r s q => hr r s q) _ h hK
  · replace h := jif_f hc5 h
    refine j_aload_n 1 dX6_copy_7 rfl rfl ?_
    refine j_iload_n 3 dX6_copy_8 rfl rfl ?_
    refine j_aload_n 0 dX6_copy_9 rfl rfl ?_
    refine j_iload_n 3 dX6_copy_10 rfl rfl ?_
    replace h := bC_inv h
    obtain ⟨r7, cr7, h⟩ := h
    refine j_callS (st1 := .int r7 :: _) (c_X6_at g cr7) jy_X6_at kt_yX6_at kl_RX6_7 dX6_copy_11 rfl rfl rfl rfl (jbr _) (jbr _) hn.1 hn.2 (Or.inr rfl) rfl ?_
    replace h := bD_inv h
    obtain ⟨r8, σ9, cr8, h⟩ := h
    refine j_callS (st1 := _) (c_X6_put g cr8) jy_X6_put kt_yX6_put kl_RX6_13 dX6_copy_14 rfl rfl rfl rfl (jbr _) (jbr _) hn.1 hn.2 (Or.inr rfl) rfl ?_
    replace h := bV_inv h
    obtain ⟨v10, ev10, h⟩ := h
    refine j_iinc (v := v10) [(3, .int v10), (0, .ref x0), (1, .ref x1), (2, .int x2)] 3 dX6_copy_17 rfl (by rw [ev10]; rfl) (Nat.le_of_ble_eq_true rfl) rfl ?_
    refine j_goto 2 dX6_copy_20 (by decide) ?_
    replace h := Option.some.inj h
    subst h
    refine j_sub [(0, .ref x0), (1, .ref x1), (2, .int x2), (3, .int v10)] [1, 2, 3, 0] rfl ?_
    exact hc0 _ hK
def f_X6_copy (σ : jS) (x0 : Nat) (x1 : Nat) (x2 : Int32) : Option (Unit × jS) :=
  jloop jFuel (fun s => f_X6_copy_B2 s.2 x0 x1 x2 s.1) (0, σ)
set_option maxHeartbeats 1000000 in
set_option maxRecDepth 20000 in
theorem f_X6_copy_ok {g : Bool} {rv : Option Value} {μ' : jM} (σ : jS) (x0 : Nat) (x1 : Nat) (x2 : Int32) {Kp : (Unit × jS) → Prop} (hn : Nat.ble nX μ'.1 = true ∧ Nat.ble wX μ'.2.1 = true) (hr : ∀ (r : Unit) (s : jS), Kp ((r, s)) → rv = none ∧ μ' = eX s) (o : (Unit × jS)) (h : f_X6_copy σ x0 x1 x2 = some o) (hK : Kp o) : J yX6_copy cX6_copy 4 none 2 g rv μ' 0 [(0, .ref x0), (1, .ref x1), (2, .int x2)] [] (eX σ) := by
  unfold f_X6_copy at h
  refine j_iconst (v := 0) dX6_copy_0 (by decide) ?_
  refine j_istore_n [(3, .int 0), (0, .ref x0), (1, .ref x1), (2, .int x2)] dX6_copy_1 rfl (Nat.le_of_ble_eq_true rfl) rfl ?_
  refine j_sub [(0, .ref x0), (1, .ref x1), (2, .int x2), (3, .int 0)] [1, 2, 3, 0] rfl ?_
  exact jloop_ok (fun s => f_X6_copy_B2 s.2 x0 x1 x2 s.1) (fun s => J yX6_copy cX6_copy 4 none 2 g rv μ' 2 [(0, .ref x0), (1, .ref x1), (2, .int x2), (3, .int s.1)] [] (eX s.2)) Kp (fun s o hb hk => f_X6_copy_B2_ok (Kp := jsum (fun s => J yX6_copy cX6_copy 4 none 2 g rv μ' 2 [(0, .ref x0), (1, .ref x1), (2, .int x2), (3, .int s.1)] [] (eX s.2)) Kp) s.2 x0 x1 x2 s.1 hn (fun r s q => hr r s q) (fun s q => q) o hb hk) jFuel _ _ h hK
theorem c_X6_copy (g : Bool) {σ : jS} {x0 : Nat} {x1 : Nat} {x2 : Int32} {r : Unit} {σ2 : jS} (h : f_X6_copy σ x0 x1 x2 = some (r, σ2)) : Cn yX6_copy cX6_copy 4 none 2 g [.ref x0, .ref x1, .int x2] (eX σ) none (eX σ2) :=
  Cn_of (by decide) (Nat.le_refl _) (Nat.le_refl _) (Nat.le_of_ble_eq_true rfl) (f_X6_copy_ok (Kp := (fun o => o = (r, σ2))) σ x0 x1 x2 ⟨jbr _, jbr _⟩ (fun r2 s2 q => by cases q; exact ⟨rfl, rfl⟩) _ h rfl)
def f_X0_takeFoes (σ : jS) (x1 : Nat) : Option (Unit × jS) :=
  bH [32, 40, 47, 57, 67] x1 (
  bD (f_X6_copy σ (rPX x1 2) 11 16) fun r1 σ2 =>
  some (((), σ2)))
set_option maxHeartbeats 1000000 in
set_option maxRecDepth 20000 in
theorem f_X0_takeFoes_ok {g : Bool} {rv : Option Value} {μ' : jM} (σ : jS) (x1 : Nat) {Kp : (Unit × jS) → Prop} (hn : Nat.ble nX μ'.1 = true ∧ Nat.ble wX μ'.2.1 = true) (hr : ∀ (r : Unit) (s : jS), Kp ((r, s)) → rv = none ∧ μ' = eX s) (o : (Unit × jS)) (h : f_X0_takeFoes σ x1 = some o) (hK : Kp o) : J yX0_takeFoes cX0_takeFoes 2 none 3 g rv μ' 0 [(0, .ref 4), (1, .ref x1)] [] (eX σ) := by
  unfold f_X0_takeFoes at h
  refine j_aload_n 1 dX0_takeFoes_0 rfl rfl ?_
  replace h := bH_inv h
  obtain ⟨hm3, h⟩ := h
  simp only [List.mem_cons, List.not_mem_nil, or_false] at hm3
  rcases hm3 with rfl | rfl | rfl | rfl | rfl
  · skip
    refine j_get (ci := 1) 2 (.ref 35) jC_1 dX0_takeFoes_1 kg_RX0_41 rfl (okX_32 _) (shX_32 _) (fvX_32_2 _) ?_
    refine j_aload_n 0 dX0_takeFoes_4 rfl rfl ?_
    refine j_get (ci := 0) 4 (.ref 11) jC_0 dX0_takeFoes_5 kg_RX0_18 rfl (okX_4 _) (shX_4 _) (fvX_4_4 _) ?_
    refine j_bipush (v := 16) dX0_takeFoes_8 (by decide) ?_
    replace h := bD_inv h
    obtain ⟨r4, σ5, cr4, h⟩ := h
    refine j_callS (st1 := _) (c_X6_copy g cr4) jy_X6_copy kt_yX6_copy kl_RX0_44 dX0_takeFoes_10 rfl rfl rfl rfl (jbr _) (jbr _) hn.1 hn.2 (Or.inr rfl) rfl ?_
    replace h := Option.some.inj h
    subst h
    obtain ⟨hr1, hr2⟩ := hr _ _ hK
    exact j_vret dX0_takeFoes_13 hr1 hr2
  · skip
    refine j_get (ci := 1) 2 (.ref 43) jC_1 dX0_takeFoes_1 kg_RX0_41 rfl (okX_40 _) (shX_40 _) (fvX_40_2 _) ?_
    refine j_aload_n 0 dX0_takeFoes_4 rfl rfl ?_
    refine j_get (ci := 0) 4 (.ref 11) jC_0 dX0_takeFoes_5 kg_RX0_18 rfl (okX_4 _) (shX_4 _) (fvX_4_4 _) ?_
    refine j_bipush (v := 16) dX0_takeFoes_8 (by decide) ?_
    replace h := bD_inv h
    obtain ⟨r6, σ7, cr6, h⟩ := h
    refine j_callS (st1 := _) (c_X6_copy g cr6) jy_X6_copy kt_yX6_copy kl_RX0_44 dX0_takeFoes_10 rfl rfl rfl rfl (jbr _) (jbr _) hn.1 hn.2 (Or.inr rfl) rfl ?_
    replace h := Option.some.inj h
    subst h
    obtain ⟨hr1, hr2⟩ := hr _ _ hK
    exact j_vret dX0_takeFoes_13 hr1 hr2
  · skip
    refine j_get (ci := 1) 2 (.ref 50) jC_1 dX0_takeFoes_1 kg_RX0_41 rfl (okX_47 _) (shX_47 _) (fvX_47_2 _) ?_
    refine j_aload_n 0 dX0_takeFoes_4 rfl rfl ?_
    refine j_get (ci := 0) 4 (.ref 11) jC_0 dX0_takeFoes_5 kg_RX0_18 rfl (okX_4 _) (shX_4 _) (fvX_4_4 _) ?_
    refine j_bipush (v := 16) dX0_takeFoes_8 (by decide) ?_
    replace h := bD_inv h
    obtain ⟨r8, σ9, cr8, h⟩ := h
    refine j_callS (st1 := _) (c_X6_copy g cr8) jy_X6_copy kt_yX6_copy kl_RX0_44 dX0_takeFoes_10 rfl rfl rfl rfl (jbr _) (jbr _) hn.1 hn.2 (Or.inr rfl) rfl ?_
    replace h := Option.some.inj h
    subst h
    obtain ⟨hr1, hr2⟩ := hr _ _ hK
    exact j_vret dX0_takeFoes_13 hr1 hr2
  · skip
    refine j_get (ci := 1) 2 (.ref 60) jC_1 dX0_takeFoes_1 kg_RX0_41 rfl (okX_57 _) (shX_57 _) (fvX_57_2 _) ?_
    refine j_aload_n 0 dX0_takeFoes_4 rfl rfl ?_
    refine j_get (ci := 0) 4 (.ref 11) jC_0 dX0_takeFoes_5 kg_RX0_18 rfl (okX_4 _) (shX_4 _) (fvX_4_4 _) ?_
    refine j_bipush (v := 16) dX0_takeFoes_8 (by decide) ?_
    replace h := bD_inv h
    obtain ⟨r10, σ11, cr10, h⟩ := h
    refine j_callS (st1 := _) (c_X6_copy g cr10) jy_X6_copy kt_yX6_copy kl_RX0_44 dX0_takeFoes_10 rfl rfl rfl rfl (jbr _) (jbr _) hn.1 hn.2 (Or.inr rfl) rfl ?_
    replace h := Option.some.inj h
    subst h
    obtain ⟨hr1, hr2⟩ := hr _ _ hK
    exact j_vret dX0_takeFoes_13 hr1 hr2
  · skip
    refine j_get (ci := 1) 2 (.ref 70) jC_1 dX0_takeFoes_1 kg_RX0_41 rfl (okX_67 _) (shX_67 _) (fvX_67_2 _) ?_
    refine j_aload_n 0 dX0_takeFoes_4 rfl rfl ?_
    refine j_get (ci := 0) 4 (.ref 11) jC_0 dX0_takeFoes_5 kg_RX0_18 rfl (okX_4 _) (shX_4 _) (fvX_4_4 _) ?_
    refine j_bipush (v := 16) dX0_takeFoes_8 (by decide) ?_
    replace h := bD_inv h
    obtain ⟨r12, σ13, cr12, h⟩ := h
    refine j_callS (st1 := _) (c_X6_copy g cr12) jy_X6_copy kt_yX6_copy kl_RX0_44 dX0_takeFoes_10 rfl rfl rfl rfl (jbr _) (jbr _) hn.1 hn.2 (Or.inr rfl) rfl ?_
    replace h := Option.some.inj h
    subst h
    obtain ⟨hr1, hr2⟩ := hr _ _ hK
    exact j_vret dX0_takeFoes_13 hr1 hr2
theorem c_X0_takeFoes (g : Bool) {σ : jS} {x1 : Nat} {r : Unit} {σ2 : jS} (h : f_X0_takeFoes σ x1 = some (r, σ2)) : Cn yX0_takeFoes cX0_takeFoes 2 none 3 g [.ref 4, .ref x1] (eX σ) none (eX σ2) :=
  Cn_of (by decide) (Nat.le_refl _) (Nat.le_refl _) (Nat.le_of_ble_eq_true rfl) (f_X0_takeFoes_ok (Kp := (fun o => o = (r, σ2))) σ x1 ⟨jbr _, jbr _⟩ (fun r2 s2 q => by cases q; exact ⟨rfl, rfl⟩) _ h rfl)
def f_X6_fill__J23 (σ : jS) : Option (Unit × jS) :=
  some (((), σ))
set_option maxHeartbeats 1000000 in
set_option maxRecDepth 20000 in
theorem f_X6_fill__J23_ok {g : Bool} {rv : Option Value} {μ' : jM} (σ : jS) {Kp : (Unit × jS) → Prop} (hn : Nat.ble nX μ'.1 = true ∧ Nat.ble wX μ'.2.1 = true) (hr : ∀ (r : Unit) (s : jS), Kp ((r, s)) → rv = none ∧ μ' = eX s) (o : (Unit × jS)) (h : f_X6_fill__J23 σ = some o) (hK : Kp o) : J yX6_fill_ cX6_fill_ 4 none 1 g rv μ' 23 [] [] (eX σ) := by
  unfold f_X6_fill__J23 at h
  replace h := Option.some.inj h
  subst h
  obtain ⟨hr1, hr2⟩ := hr _ _ hK
  exact j_vret dX6_fill__23 hr1 hr2
def f_X6_fill__B7 (σ : jS) (x0 : Nat) (x1 : Int64) (x3 : Int32) : Option ((Int32 × jS) ⊕ (Unit × jS)) :=
  bG (jrwX 2 x0) (
  if (Int32.ofNat (SHX x0).2) ≤ x3 then (jw (f_X6_fill__J23 σ))
  else (bG (jin x3 (SHX x0).2) (
  bV (sL σ x0 (ix x3) x1) fun σ2 =>
  bV (x3 + 1) fun v3 =>
  some (.inl (v3, σ2)))))
set_option maxHeartbeats 1000000 in
set_option maxRecDepth 20000 in
theorem f_X6_fill__B7_ok {g : Bool} {rv : Option Value} {μ' : jM} (σ : jS) (x0 : Nat) (x1 : Int64) (x3 : Int32) {Kp : ((Int32 × jS) ⊕ (Unit × jS)) → Prop} (hn : Nat.ble nX μ'.1 = true ∧ Nat.ble wX μ'.2.1 = true) (hr : ∀ (r : Unit) (s : jS), Kp (.inr ((r, s))) → rv = none ∧ μ' = eX s) (hc0 : ∀ s : (Int32 × jS), Kp (.inl s) → J yX6_fill_ cX6_fill_ 4 none 1 g rv μ' 7 [(0, .ref x0), (1, .long x1), (3, .int s.1)] [] (eX s.2)) (o : ((Int32 × jS) ⊕ (Unit × jS))) (h : f_X6_fill__B7 σ x0 x1 x3 = some o) (hK : Kp o) : J yX6_fill_ cX6_fill_ 4 none 1 g rv μ' 7 [(0, .ref x0), (1, .long x1), (3, .int x3)] [] (eX σ) := by
  unfold f_X6_fill__B7 at h
  refine j_iload_n 2 dX6_fill__7 rfl rfl ?_
  refine j_aload_n 0 dX6_fill__8 rfl rfl ?_
  replace h := bG_inv h
  obtain ⟨hg4, h⟩ := h
  refine j_alen dX6_fill__9 (jrwX_ok hg4) (jrwX_sh hg4) rfl ?_
  refine j_icmp_ge 23 dX6_fill__10 (by decide) (fun hc5 => ?_) (fun hc5 => ?_)
  · replace h := jif_t hc5 h
    replace h := jw_inv h
    obtain ⟨o6, rfl, h⟩ := h
    refine j_sub [] [] rfl ?_
    exact f_X6_fill__J23_ok (Kp := fun o => Kp (.inr (o))) σ hn (fun r s q => hr r s q) _ h hK
  · replace h := jif_f hc5 h
    refine j_aload_n 0 dX6_fill__13 rfl rfl ?_
    refine j_iload_n 2 dX6_fill__14 rfl rfl ?_
    refine j_lload_n 1 dX6_fill__15 rfl rfl ?_
    replace h := bG_inv h
    obtain ⟨hi7, h⟩ := h
    refine j_lastore dX6_fill__16 (jrwX_ok hg4) (jrwX_sh hg4) (jin_spec hi7) ?_
    replace h := bV_inv h
    obtain ⟨σ8, eσ8, h⟩ := h
    refine j_mem (congrArg eX eσ8) ?_
    replace h := bV_inv h
    obtain ⟨v9, ev9, h⟩ := h
    refine j_iinc (v := v9) [(3, .int v9), (0, .ref x0), (1, .long x1)] 2 dX6_fill__17 rfl (by rw [ev9]; rfl) (Nat.le_of_ble_eq_true rfl) rfl ?_
    refine j_goto 7 dX6_fill__20 (by decide) ?_
    replace h := Option.some.inj h
    subst h
    refine j_sub [(0, .ref x0), (1, .long x1), (3, .int v9)] [1, 2, 0] rfl ?_
    exact hc0 _ hK
def f_X6_fill_ (σ : jS) (x0 : Nat) (x1 : Int64) : Option (Unit × jS) :=
  if x0 = 0 then (some (((), σ)))
  else (jloop jFuel (fun s => f_X6_fill__B7 s.2 x0 x1 s.1) (0, σ))
set_option maxHeartbeats 1000000 in
set_option maxRecDepth 20000 in
theorem f_X6_fill__ok {g : Bool} {rv : Option Value} {μ' : jM} (σ : jS) (x0 : Nat) (x1 : Int64) {Kp : (Unit × jS) → Prop} (hn : Nat.ble nX μ'.1 = true ∧ Nat.ble wX μ'.2.1 = true) (hr : ∀ (r : Unit) (s : jS), Kp ((r, s)) → rv = none ∧ μ' = eX s) (o : (Unit × jS)) (h : f_X6_fill_ σ x0 x1 = some o) (hK : Kp o) : J yX6_fill_ cX6_fill_ 4 none 1 g rv μ' 0 [(0, .ref x0), (1, .long x1)] [] (eX σ) := by
  unfold f_X6_fill_ at h
  refine j_aload_n 0 dX6_fill__0 rfl rfl ?_
  refine j_ifnonnull 5 dX6_fill__1 (by decide) (fun hc10 => ?_) (fun hc10 => ?_)
  · replace h := jif_f hc10 h
    refine j_iconst (v := 0) dX6_fill__5 (by decide) ?_
    refine j_istore_n [(3, .int 0), (0, .ref x0), (1, .long x1)] dX6_fill__6 rfl (Nat.le_of_ble_eq_true rfl) rfl ?_
    refine j_sub [(0, .ref x0), (1, .long x1), (3, .int 0)] [1, 2, 0] rfl ?_
    exact jloop_ok (fun s => f_X6_fill__B7 s.2 x0 x1 s.1) (fun s => J yX6_fill_ cX6_fill_ 4 none 1 g rv μ' 7 [(0, .ref x0), (1, .long x1), (3, .int s.1)] [] (eX s.2)) Kp (fun s o hb hk => f_X6_fill__B7_ok (Kp := jsum (fun s => J yX6_fill_ cX6_fill_ 4 none 1 g rv μ' 7 [(0, .ref x0), (1, .long x1), (3, .int s.1)] [] (eX s.2)) Kp) s.2 x0 x1 s.1 hn (fun r s q => hr r s q) (fun s q => q) o hb hk) jFuel _ _ h hK
  · replace h := jif_t hc10 h
    replace h := Option.some.inj h
    subst h
    obtain ⟨hr1, hr2⟩ := hr _ _ hK
    exact j_vret dX6_fill__4 hr1 hr2
theorem c_X6_fill_ (g : Bool) {σ : jS} {x0 : Nat} {x1 : Int64} {r : Unit} {σ2 : jS} (h : f_X6_fill_ σ x0 x1 = some (r, σ2)) : Cn yX6_fill_ cX6_fill_ 4 none 1 g [.ref x0, .long x1] (eX σ) none (eX σ2) :=
  Cn_of (by decide) (Nat.le_refl _) (Nat.le_refl _) (Nat.le_of_ble_eq_true rfl) (f_X6_fill__ok (Kp := (fun o => o = (r, σ2))) σ x0 x1 ⟨jbr _, jbr _⟩ (fun r2 s2 q => by cases q; exact ⟨rfl, rfl⟩) _ h rfl)
def f_X9_isAllowed_J66 (y0 : Int32) : Option Int32 :=
  bG (jb y0) (
  some (y0))
set_option maxHeartbeats 1000000 in
set_option maxRecDepth 20000 in
theorem f_X9_isAllowed_J66_ok {g : Bool} {rv : Option Value} {μ' : jM} (y0 : Int32) (μ : jM) {Kp : Int32 → Prop} (hn : Nat.ble μ.1 μ'.1 = true ∧ Nat.ble μ.2.1 μ'.2.1 = true) (hr : ∀ r : Int32, Kp (r) → rv = some (.int r) ∧ μ' = μ) (o : Int32) (h : f_X9_isAllowed_J66 y0 = some o) (hK : Kp o) : J yX9_isAllowed cX9_isAllowed 3 (some .boolean) 1 g rv μ' 66 [] [.int y0] μ := by
  unfold f_X9_isAllowed_J66 at h
  replace h := bG_inv h
  obtain ⟨hb, h⟩ := h
  replace h := Option.some.inj h
  subst h
  obtain ⟨hr1, hr2⟩ := hr _ hK
  exact j_zret (jb_nar hb) dX9_isAllowed_66 hr1 hr2
def f_X9_isAllowed_J40 (y0 : Int32) : Option Int32 :=
  bG (jb y0) (
  some (y0))
set_option maxHeartbeats 1000000 in
set_option maxRecDepth 20000 in
theorem f_X9_isAllowed_J40_ok {g : Bool} {rv : Option Value} {μ' : jM} (y0 : Int32) (μ : jM) {Kp : Int32 → Prop} (hn : Nat.ble μ.1 μ'.1 = true ∧ Nat.ble μ.2.1 μ'.2.1 = true) (hr : ∀ r : Int32, Kp (r) → rv = some (.int r) ∧ μ' = μ) (o : Int32) (h : f_X9_isAllowed_J40 y0 = some o) (hK : Kp o) : J yX9_isAllowed cX9_isAllowed 3 (some .boolean) 1 g rv μ' 40 [] [.int y0] μ := by
  unfold f_X9_isAllowed_J40 at h
  replace h := bG_inv h
  obtain ⟨hb, h⟩ := h
  replace h := Option.some.inj h
  subst h
  obtain ⟨hr1, hr2⟩ := hr _ hK
  exact j_zret (jb_nar hb) dX9_isAllowed_40 hr1 hr2
def f_X9_isAllowed_J51 (y0 : Int32) : Option Int32 :=
  bG (jb y0) (
  some (y0))
set_option maxHeartbeats 1000000 in
set_option maxRecDepth 20000 in
theorem f_X9_isAllowed_J51_ok {g : Bool} {rv : Option Value} {μ' : jM} (y0 : Int32) (μ : jM) {Kp : Int32 → Prop} (hn : Nat.ble μ.1 μ'.1 = true ∧ Nat.ble μ.2.1 μ'.2.1 = true) (hr : ∀ r : Int32, Kp (r) → rv = some (.int r) ∧ μ' = μ) (o : Int32) (h : f_X9_isAllowed_J51 y0 = some o) (hK : Kp o) : J yX9_isAllowed cX9_isAllowed 3 (some .boolean) 1 g rv μ' 51 [] [.int y0] μ := by
  unfold f_X9_isAllowed_J51 at h
  replace h := bG_inv h
  obtain ⟨hb, h⟩ := h
  replace h := Option.some.inj h
  subst h
  obtain ⟨hr1, hr2⟩ := hr _ hK
  exact j_zret (jb_nar hb) dX9_isAllowed_51 hr1 hr2
def f_X9_isAllowed (x0 : Int32) (x1 : Int32) (x2 : Int32) : Option Int32 :=
  if x0 = 0 then (if x2 = (x1 - (1 : Int32)) then (f_X9_isAllowed_J40 1)
  else (f_X9_isAllowed_J40 0))
  else if x0 = 1 then (if x1 ≤ x2 then (f_X9_isAllowed_J51 0)
  else (f_X9_isAllowed_J51 1))
  else if x0 = 2 then (some (1))
  else (if x2 = (x1 + (1 : Int32)) then (f_X9_isAllowed_J66 1)
  else (f_X9_isAllowed_J66 0))
set_option maxHeartbeats 1000000 in
set_option maxRecDepth 20000 in
theorem f_X9_isAllowed_ok {g : Bool} {rv : Option Value} {μ' : jM} (x0 : Int32) (x1 : Int32) (x2 : Int32) (μ : jM) {Kp : Int32 → Prop} (hn : Nat.ble μ.1 μ'.1 = true ∧ Nat.ble μ.2.1 μ'.2.1 = true) (hr : ∀ r : Int32, Kp (r) → rv = some (.int r) ∧ μ' = μ) (o : Int32) (h : f_X9_isAllowed x0 x1 x2 = some o) (hK : Kp o) : J yX9_isAllowed cX9_isAllowed 3 (some .boolean) 1 g rv μ' 0 [(0, .int x0), (1, .int x1), (2, .int x2)] [] μ := by
  unfold f_X9_isAllowed at h
  refine j_iload_n 0 dX9_isAllowed_0 rfl rfl ?_
  by_cases hc1 : x0 = 0
  · replace h := jif_t hc1 h
    refine j_tblIn 28 dX9_isAllowed_1 (by rw [hc1]; decide) (by rw [hc1]; decide) (by rw [hc1]; rfl) (by decide) ?_
    refine j_iload_n 2 dX9_isAllowed_28 rfl rfl ?_
    refine j_iload_n 1 dX9_isAllowed_29 rfl rfl ?_
    refine j_iconst (v := 1) dX9_isAllowed_30 (by decide) ?_
    refine j_isub dX9_isAllowed_31 ?_
    refine j_icmp_ne 39 dX9_isAllowed_32 (by decide) (fun hc2 => ?_) (fun hc2 => ?_)
    · replace h := jif_f hc2 h
      refine j_iconst (v := 0) dX9_isAllowed_39 (by decide) ?_
      refine j_sub [] [] rfl ?_
      exact f_X9_isAllowed_J40_ok 0 μ hn hr _ h hK
    · replace h := jif_t hc2 h
      refine j_iconst (v := 1) dX9_isAllowed_35 (by decide) ?_
      refine j_goto 40 dX9_isAllowed_36 (by decide) ?_
      refine j_sub [] [] rfl ?_
      exact f_X9_isAllowed_J40_ok 1 μ hn hr _ h hK
  replace h := jif_f hc1 h
  by_cases hc3 : x0 = 1
  · replace h := jif_t hc3 h
    refine j_tblIn 41 dX9_isAllowed_1 (by rw [hc3]; decide) (by rw [hc3]; decide) (by rw [hc3]; rfl) (by decide) ?_
    refine j_iload_n 2 dX9_isAllowed_41 rfl rfl ?_
    refine j_iload_n 1 dX9_isAllowed_42 rfl rfl ?_
    refine j_icmp_ge 50 dX9_isAllowed_43 (by decide) (fun hc4 => ?_) (fun hc4 => ?_)
    · replace h := jif_t hc4 h
      refine j_iconst (v := 0) dX9_isAllowed_50 (by decide) ?_
      refine j_sub [] [] rfl ?_
      exact f_X9_isAllowed_J51_ok 0 μ hn hr _ h hK
    · replace h := jif_f hc4 h
      refine j_iconst (v := 1) dX9_isAllowed_46 (by decide) ?_
      refine j_goto 51 dX9_isAllowed_47 (by decide) ?_
      refine j_sub [] [] rfl ?_
      exact f_X9_isAllowed_J51_ok 1 μ hn hr _ h hK
  replace h := jif_f hc3 h
  by_cases hc5 : x0 = 2
  · replace h := jif_t hc5 h
    refine j_tblIn 52 dX9_isAllowed_1 (by rw [hc5]; decide) (by rw [hc5]; decide) (by rw [hc5]; rfl) (by decide) ?_
    refine j_iconst (v := 1) dX9_isAllowed_52 (by decide) ?_
    replace h := Option.some.inj h
    subst h
    obtain ⟨hr1, hr2⟩ := hr _ hK
    exact j_zret rfl dX9_isAllowed_53 hr1 hr2
  replace h := jif_f hc5 h
  refine j_tblOut 54 dX9_isAllowed_1 (jsw_out (by decide) (by decide) (fun q h1 h2 => ?_)) (by decide) ?_
  · clear h; match q, h1, h2 with
    | 0, _, _ => exact hc1
    | 1, _, _ => exact hc3
    | 2, _, _ => exact hc5
  · skip
    refine j_iload_n 2 dX9_isAllowed_54 rfl rfl ?_
    refine j_iload_n 1 dX9_isAllowed_55 rfl rfl ?_
    refine j_iconst (v := 1) dX9_isAllowed_56 (by decide) ?_
    refine j_iadd dX9_isAllowed_57 ?_
    refine j_icmp_ne 65 dX9_isAllowed_58 (by decide) (fun hc6 => ?_) (fun hc6 => ?_)
    · replace h := jif_f hc6 h
      refine j_iconst (v := 0) dX9_isAllowed_65 (by decide) ?_
      refine j_sub [] [] rfl ?_
      exact f_X9_isAllowed_J66_ok 0 μ hn hr _ h hK
    · replace h := jif_t hc6 h
      refine j_iconst (v := 1) dX9_isAllowed_61 (by decide) ?_
      refine j_goto 66 dX9_isAllowed_62 (by decide) ?_
      refine j_sub [] [] rfl ?_
      exact f_X9_isAllowed_J66_ok 1 μ hn hr _ h hK
theorem c_X9_isAllowed (g : Bool) (μ : jM) {x0 : Int32} {x1 : Int32} {x2 : Int32} {r : Int32} (h : f_X9_isAllowed x0 x1 x2 = some r) : Cn yX9_isAllowed cX9_isAllowed 3 (some .boolean) 1 g [.int x0, .int x1, .int x2] μ (some (.int r)) μ :=
  Cn_of (by decide) (Nat.le_refl _) (Nat.le_refl _) (Nat.le_of_ble_eq_true rfl) (f_X9_isAllowed_ok (Kp := (fun o => o = r)) x0 x1 x2 μ ⟨jbr _, jbr _⟩ (fun r2 q => by cases q; exact ⟨rfl, rfl⟩) _ h rfl)
def f_X6_at__J21 (σ : jS) (y0 : Int64) : Option Int64 :=
  some (y0)
set_option maxHeartbeats 1000000 in
set_option maxRecDepth 20000 in
theorem f_X6_at__J21_ok {g : Bool} {rv : Option Value} {μ' : jM} (σ : jS) (y0 : Int64) {Kp : Int64 → Prop} (hn : Nat.ble nX μ'.1 = true ∧ Nat.ble wX μ'.2.1 = true) (hr : ∀ r : Int64, Kp (r) → rv = some (.long r) ∧ μ' = (eX σ)) (o : Int64) (h : f_X6_at__J21 σ y0 = some o) (hK : Kp o) : J yX6_at_ cX6_at_ 2 (some .long) 1 g rv μ' 21 [] [.long y0] (eX σ) := by
  unfold f_X6_at__J21 at h
  replace h := Option.some.inj h
  subst h
  obtain ⟨hr1, hr2⟩ := hr _ hK
  exact j_lret dX6_at__21 hr1 hr2
def f_X6_at__J20 (σ : jS) : Option Int64 :=
  f_X6_at__J21 σ 0
set_option maxHeartbeats 1000000 in
set_option maxRecDepth 20000 in
theorem f_X6_at__J20_ok {g : Bool} {rv : Option Value} {μ' : jM} (σ : jS) {Kp : Int64 → Prop} (hn : Nat.ble nX μ'.1 = true ∧ Nat.ble wX μ'.2.1 = true) (hr : ∀ r : Int64, Kp (r) → rv = some (.long r) ∧ μ' = (eX σ)) (o : Int64) (h : f_X6_at__J20 σ = some o) (hK : Kp o) : J yX6_at_ cX6_at_ 2 (some .long) 1 g rv μ' 20 [] [] (eX σ) := by
  unfold f_X6_at__J20 at h
  refine j_lconst (v := 0) dX6_at__20 (by decide) ?_
  exact f_X6_at__J21_ok σ 0 hn hr _ h hK
def f_X6_at_ (σ : jS) (x0 : Nat) (x1 : Int32) : Option Int64 :=
  if x0 = 0 then (f_X6_at__J20 σ)
  else (if x1 < 0 then (f_X6_at__J20 σ)
  else (bG (jrwX 2 x0) (
  if (Int32.ofNat (SHX x0).2) ≤ x1 then (f_X6_at__J20 σ)
  else (bG (jin x1 (SHX x0).2) (
  f_X6_at__J21 σ (gL σ x0 (ix x1)))))))
set_option maxHeartbeats 1000000 in
set_option maxRecDepth 20000 in
theorem f_X6_at__ok {g : Bool} {rv : Option Value} {μ' : jM} (σ : jS) (x0 : Nat) (x1 : Int32) {Kp : Int64 → Prop} (hn : Nat.ble nX μ'.1 = true ∧ Nat.ble wX μ'.2.1 = true) (hr : ∀ r : Int64, Kp (r) → rv = some (.long r) ∧ μ' = (eX σ)) (o : Int64) (h : f_X6_at_ σ x0 x1 = some o) (hK : Kp o) : J yX6_at_ cX6_at_ 2 (some .long) 1 g rv μ' 0 [(0, .ref x0), (1, .int x1)] [] (eX σ) := by
  unfold f_X6_at_ at h
  refine j_aload_n 0 dX6_at__0 rfl rfl ?_
  refine j_ifnull 20 dX6_at__1 (by decide) (fun hc2 => ?_) (fun hc2 => ?_)
  · replace h := jif_t hc2 h
    refine j_sub [] [] rfl ?_
    exact f_X6_at__J20_ok σ hn hr _ h hK
  · replace h := jif_f hc2 h
    refine j_iload_n 1 dX6_at__4 rfl rfl ?_
    refine j_if_lt 20 dX6_at__5 (by decide) (fun hc3 => ?_) (fun hc3 => ?_)
    · replace h := jif_t hc3 h
      refine j_sub [] [] rfl ?_
      exact f_X6_at__J20_ok σ hn hr _ h hK
    · replace h := jif_f hc3 h
      refine j_iload_n 1 dX6_at__8 rfl rfl ?_
      refine j_aload_n 0 dX6_at__9 rfl rfl ?_
      replace h := bG_inv h
      obtain ⟨hg4, h⟩ := h
      refine j_alen dX6_at__10 (jrwX_ok hg4) (jrwX_sh hg4) rfl ?_
      refine j_icmp_ge 20 dX6_at__11 (by decide) (fun hc5 => ?_) (fun hc5 => ?_)
      · replace h := jif_t hc5 h
        refine j_sub [] [] rfl ?_
        exact f_X6_at__J20_ok σ hn hr _ h hK
      · replace h := jif_f hc5 h
        refine j_aload_n 0 dX6_at__14 rfl rfl ?_
        refine j_iload_n 1 dX6_at__15 rfl rfl ?_
        replace h := bG_inv h
        obtain ⟨hi6, h⟩ := h
        refine j_laload dX6_at__16 (jrwX_ok hg4) (jrwX_sh hg4) (jin_spec hi6) ?_
        refine j_goto 21 dX6_at__17 (by decide) ?_
        refine j_sub [] [] rfl ?_
        exact f_X6_at__J21_ok σ (gL σ x0 (ix x1)) hn hr _ h hK
theorem c_X6_at_ (g : Bool) {σ : jS} {x0 : Nat} {x1 : Int32} {r : Int64} (h : f_X6_at_ σ x0 x1 = some r) : Cn yX6_at_ cX6_at_ 2 (some .long) 1 g [.ref x0, .int x1] (eX σ) (some (.long r)) (eX σ) :=
  Cn_of (by decide) (Nat.le_refl _) (Nat.le_refl _) (Nat.le_of_ble_eq_true rfl) (f_X6_at__ok (Kp := (fun o => o = r)) σ x0 x1 ⟨jbr _, jbr _⟩ (fun r2 q => by cases q; exact ⟨rfl, rfl⟩) _ h rfl)
def f_X6_put__J18 (σ : jS) : Option (Unit × jS) :=
  some (((), σ))
set_option maxHeartbeats 1000000 in
set_option maxRecDepth 20000 in
theorem f_X6_put__J18_ok {g : Bool} {rv : Option Value} {μ' : jM} (σ : jS) {Kp : (Unit × jS) → Prop} (hn : Nat.ble nX μ'.1 = true ∧ Nat.ble wX μ'.2.1 = true) (hr : ∀ (r : Unit) (s : jS), Kp ((r, s)) → rv = none ∧ μ' = eX s) (o : (Unit × jS)) (h : f_X6_put__J18 σ = some o) (hK : Kp o) : J yX6_put_ cX6_put_ 4 none 1 g rv μ' 18 [] [] (eX σ) := by
  unfold f_X6_put__J18 at h
  replace h := Option.some.inj h
  subst h
  obtain ⟨hr1, hr2⟩ := hr _ _ hK
  exact j_vret dX6_put__18 hr1 hr2
def f_X6_put_ (σ : jS) (x0 : Nat) (x1 : Int32) (x2 : Int64) : Option (Unit × jS) :=
  if x0 = 0 then (f_X6_put__J18 σ)
  else (if x1 < 0 then (f_X6_put__J18 σ)
  else (bG (jrwX 2 x0) (
  if (Int32.ofNat (SHX x0).2) ≤ x1 then (f_X6_put__J18 σ)
  else (bG (jin x1 (SHX x0).2) (
  bV (sL σ x0 (ix x1) x2) fun σ2 =>
  f_X6_put__J18 σ2)))))
set_option maxHeartbeats 1000000 in
set_option maxRecDepth 20000 in
theorem f_X6_put__ok {g : Bool} {rv : Option Value} {μ' : jM} (σ : jS) (x0 : Nat) (x1 : Int32) (x2 : Int64) {Kp : (Unit × jS) → Prop} (hn : Nat.ble nX μ'.1 = true ∧ Nat.ble wX μ'.2.1 = true) (hr : ∀ (r : Unit) (s : jS), Kp ((r, s)) → rv = none ∧ μ' = eX s) (o : (Unit × jS)) (h : f_X6_put_ σ x0 x1 x2 = some o) (hK : Kp o) : J yX6_put_ cX6_put_ 4 none 1 g rv μ' 0 [(0, .ref x0), (1, .int x1), (2, .long x2)] [] (eX σ) := by
  unfold f_X6_put_ at h
  refine j_aload_n 0 dX6_put__0 rfl rfl ?_
  refine j_ifnull 18 dX6_put__1 (by decide) (fun hc3 => ?_) (fun hc3 => ?_)
  · replace h := jif_t hc3 h
    refine j_sub [] [] rfl ?_
    exact f_X6_put__J18_ok σ hn hr _ h hK
  · replace h := jif_f hc3 h
    refine j_iload_n 1 dX6_put__4 rfl rfl ?_
    refine j_if_lt 18 dX6_put__5 (by decide) (fun hc4 => ?_) (fun hc4 => ?_)
    · replace h := jif_t hc4 h
      refine j_sub [] [] rfl ?_
      exact f_X6_put__J18_ok σ hn hr _ h hK
    · replace h := jif_f hc4 h
      refine j_iload_n 1 dX6_put__8 rfl rfl ?_
      refine j_aload_n 0 dX6_put__9 rfl rfl ?_
      replace h := bG_inv h
      obtain ⟨hg5, h⟩ := h
      refine j_alen dX6_put__10 (jrwX_ok hg5) (jrwX_sh hg5) rfl ?_
      refine j_icmp_ge 18 dX6_put__11 (by decide) (fun hc6 => ?_) (fun hc6 => ?_)
      · replace h := jif_t hc6 h
        refine j_sub [] [] rfl ?_
        exact f_X6_put__J18_ok σ hn hr _ h hK
      · replace h := jif_f hc6 h
        refine j_aload_n 0 dX6_put__14 rfl rfl ?_
        refine j_iload_n 1 dX6_put__15 rfl rfl ?_
        refine j_lload_n 2 dX6_put__16 rfl rfl ?_
        replace h := bG_inv h
        obtain ⟨hi7, h⟩ := h
        refine j_lastore dX6_put__17 (jrwX_ok hg5) (jrwX_sh hg5) (jin_spec hi7) ?_
        replace h := bV_inv h
        obtain ⟨σ8, eσ8, h⟩ := h
        refine j_mem (congrArg eX eσ8) ?_
        refine j_sub [] [] rfl ?_
        exact f_X6_put__J18_ok σ8 hn hr _ h hK
theorem c_X6_put_ (g : Bool) {σ : jS} {x0 : Nat} {x1 : Int32} {x2 : Int64} {r : Unit} {σ2 : jS} (h : f_X6_put_ σ x0 x1 x2 = some (r, σ2)) : Cn yX6_put_ cX6_put_ 4 none 1 g [.ref x0, .int x1, .long x2] (eX σ) none (eX σ2) :=
  Cn_of (by decide) (Nat.le_refl _) (Nat.le_refl _) (Nat.le_of_ble_eq_true rfl) (f_X6_put__ok (Kp := (fun o => o = (r, σ2))) σ x0 x1 x2 ⟨jbr _, jbr _⟩ (fun r2 s2 q => by cases q; exact ⟨rfl, rfl⟩) _ h rfl)
def f_X9_byTurn_J25 (σ : jS) (y0 : Int32) : Option Int32 :=
  some (y0)
set_option maxHeartbeats 1000000 in
set_option maxRecDepth 20000 in
theorem f_X9_byTurn_J25_ok {g : Bool} {rv : Option Value} {μ' : jM} (σ : jS) (y0 : Int32) {Kp : Int32 → Prop} (hn : Nat.ble nX μ'.1 = true ∧ Nat.ble wX μ'.2.1 = true) (hr : ∀ r : Int32, Kp (r) → rv = some (.int r) ∧ μ' = (eX σ)) (o : Int32) (h : f_X9_byTurn_J25 σ y0 = some o) (hK : Kp o) : J yX9_byTurn cX9_byTurn 2 (some .int) 2 g rv μ' 25 [] [.int y0] (eX σ) := by
  unfold f_X9_byTurn_J25 at h
  replace h := Option.some.inj h
  subst h
  obtain ⟨hr1, hr2⟩ := hr _ hK
  exact j_iret dX9_byTurn_25 hr1 hr2
def f_X9_byTurn (σ : jS) (x1 : Int32) : Option Int32 :=
  if (gI σ 5 5) = 0 then (bC (f_X6_at σ 6 ((16 : Int32) + x1)) fun r1 =>
  f_X9_byTurn_J25 σ r1)
  else (f_X9_byTurn_J25 σ ((16 : Int32) + x1))
set_option maxHeartbeats 1000000 in
set_option maxRecDepth 20000 in
theorem f_X9_byTurn_ok {g : Bool} {rv : Option Value} {μ' : jM} (σ : jS) (x1 : Int32) {Kp : Int32 → Prop} (hn : Nat.ble nX μ'.1 = true ∧ Nat.ble wX μ'.2.1 = true) (hr : ∀ r : Int32, Kp (r) → rv = some (.int r) ∧ μ' = (eX σ)) (o : Int32) (h : f_X9_byTurn σ x1 = some o) (hK : Kp o) : J yX9_byTurn cX9_byTurn 2 (some .int) 2 g rv μ' 0 [(0, .ref 5), (1, .int x1)] [] (eX σ) := by
  unfold f_X9_byTurn at h
  refine j_aload_n 0 dX9_byTurn_0 rfl rfl ?_
  refine j_get (ci := 8) 5 (.int (gI σ 5 5)) jC_8 dX9_byTurn_1 kg_RX9_28 rfl (okX_5 _) (shX_5 _) (fvX_5_5 _) ?_
  refine j_if_eq 14 dX9_byTurn_4 (by decide) (fun hc2 => ?_) (fun hc2 => ?_)
  · replace h := jif_t hc2 h
    refine j_aload_n 0 dX9_byTurn_14 rfl rfl ?_
    refine j_get (ci := 8) 0 (.ref 6) jC_8 dX9_byTurn_15 kg_RX9_9 rfl (okX_5 _) (shX_5 _) (fvX_5_0 _) ?_
    refine j_bipush (v := 16) dX9_byTurn_18 (by decide) ?_
    refine j_iload_n 1 dX9_byTurn_20 rfl rfl ?_
    refine j_iadd dX9_byTurn_21 ?_
    replace h := bC_inv h
    obtain ⟨r3, cr3, h⟩ := h
    refine j_callS (st1 := .int r3 :: _) (c_X6_at g cr3) jy_X6_at kt_yX6_at kl_RX9_51 dX9_byTurn_22 rfl rfl rfl rfl (jbr _) (jbr _) hn.1 hn.2 (Or.inr rfl) rfl ?_
    refine j_sub [] [] rfl ?_
    exact f_X9_byTurn_J25_ok σ r3 hn hr _ h hK
  · replace h := jif_f hc2 h
    refine j_bipush (v := 16) dX9_byTurn_7 (by decide) ?_
    refine j_iload_n 1 dX9_byTurn_9 rfl rfl ?_
    refine j_iadd dX9_byTurn_10 ?_
    refine j_goto 25 dX9_byTurn_11 (by decide) ?_
    refine j_sub [] [] rfl ?_
    exact f_X9_byTurn_J25_ok σ ((16 : Int32) + x1) hn hr _ h hK
theorem c_X9_byTurn (g : Bool) {σ : jS} {x1 : Int32} {r : Int32} (h : f_X9_byTurn σ x1 = some r) : Cn yX9_byTurn cX9_byTurn 2 (some .int) 2 g [.ref 5, .int x1] (eX σ) (some (.int r)) (eX σ) :=
  Cn_of (by decide) (Nat.le_refl _) (Nat.le_refl _) (Nat.le_of_ble_eq_true rfl) (f_X9_byTurn_ok (Kp := (fun o => o = r)) σ x1 ⟨jbr _, jbr _⟩ (fun r2 q => by cases q; exact ⟨rfl, rfl⟩) _ h rfl)
def f_X9_join_J145 (σ : jS) : Option (Unit × jS) :=
  some (((), σ))
set_option maxHeartbeats 1000000 in
set_option maxRecDepth 20000 in
theorem f_X9_join_J145_ok {g : Bool} {rv : Option Value} {μ' : jM} (σ : jS) {Kp : (Unit × jS) → Prop} (hn : Nat.ble nX μ'.1 = true ∧ Nat.ble wX μ'.2.1 = true) (hr : ∀ (r : Unit) (s : jS), Kp ((r, s)) → rv = none ∧ μ' = eX s) (o : (Unit × jS)) (h : f_X9_join_J145 σ = some o) (hK : Kp o) : J yX9_join cX9_join 7 none 3 g rv μ' 145 [] [] (eX σ) := by
  unfold f_X9_join_J145 at h
  replace h := Option.some.inj h
  subst h
  obtain ⟨hr1, hr2⟩ := hr _ _ hK
  exact j_vret dX9_join_145 hr1 hr2
def f_X9_join_J139 (σ : jS) (x2 : Int32) (x3 : Int32) (x4 : Int32) (x5 : Int32) (x6 : Int32) : Option ((Int32 × jS) ⊕ (Unit × jS)) :=
  bV (x6 + 1) fun v5 =>
  some (.inl (v5, σ))
set_option maxHeartbeats 1000000 in
set_option maxRecDepth 20000 in
theorem f_X9_join_J139_ok {g : Bool} {rv : Option Value} {μ' : jM} (σ : jS) (x2 : Int32) (x3 : Int32) (x4 : Int32) (x5 : Int32) (x6 : Int32) {Kp : ((Int32 × jS) ⊕ (Unit × jS)) → Prop} (hn : Nat.ble nX μ'.1 = true ∧ Nat.ble wX μ'.2.1 = true) (hr : ∀ (r : Unit) (s : jS), Kp (.inr ((r, s))) → rv = none ∧ μ' = eX s) (hc0 : ∀ s : (Int32 × jS), Kp (.inl s) → J yX9_join cX9_join 7 none 3 g rv μ' 50 [(0, .ref 5), (2, .int x2), (3, .int x3), (4, .int x4), (5, .int x5), (6, .int s.1)] [] (eX s.2)) (o : ((Int32 × jS) ⊕ (Unit × jS))) (h : f_X9_join_J139 σ x2 x3 x4 x5 x6 = some o) (hK : Kp o) : J yX9_join cX9_join 7 none 3 g rv μ' 139 [(0, .ref 5), (2, .int x2), (3, .int x3), (4, .int x4), (5, .int x5), (6, .int x6)] [] (eX σ) := by
  unfold f_X9_join_J139 at h
  replace h := bV_inv h
  obtain ⟨v6, ev6, h⟩ := h
  refine j_iinc (v := v6) [(6, .int v6), (0, .ref 5), (2, .int x2), (3, .int x3), (4, .int x4), (5, .int x5)] 5 dX9_join_139 rfl (by rw [ev6]; rfl) (Nat.le_of_ble_eq_true rfl) rfl ?_
  refine j_goto 50 dX9_join_142 (by decide) ?_
  replace h := Option.some.inj h
  subst h
  refine j_sub [(0, .ref 5), (2, .int x2), (3, .int x3), (4, .int x4), (5, .int x5), (6, .int v6)] [1, 2, 3, 4, 5, 0] rfl ?_
  exact hc0 _ hK
def f_X9_join_J93 (σ : jS) (x2 : Int32) (x3 : Int32) (x4 : Int32) (x5 : Int32) (x6 : Int32) : Option ((Int32 × jS) ⊕ (Unit × jS)) :=
  bC (f_X6_at_ σ 8 x6) fun r7 =>
  bD (f_X6_put_ σ 8 x6 (r7 ||| ((1 : Int64) <<< (x4.toInt64 &&& 63)))) fun r8 σ9 =>
  bC (f_X6_at_ σ9 9 x4) fun r10 =>
  bD (f_X6_put_ σ9 9 x4 (r10 ||| ((1 : Int64) <<< (x6.toInt64 &&& 63)))) fun r11 σ12 =>
  f_X9_join_J139 σ12 x2 x3 x4 x5 x6
set_option maxHeartbeats 1000000 in
set_option maxRecDepth 20000 in
theorem f_X9_join_J93_ok {g : Bool} {rv : Option Value} {μ' : jM} (σ : jS) (x2 : Int32) (x3 : Int32) (x4 : Int32) (x5 : Int32) (x6 : Int32) {Kp : ((Int32 × jS) ⊕ (Unit × jS)) → Prop} (hn : Nat.ble nX μ'.1 = true ∧ Nat.ble wX μ'.2.1 = true) (hr : ∀ (r : Unit) (s : jS), Kp (.inr ((r, s))) → rv = none ∧ μ' = eX s) (hc0 : ∀ s : (Int32 × jS), Kp (.inl s) → J yX9_join cX9_join 7 none 3 g rv μ' 50 [(0, .ref 5), (2, .int x2), (3, .int x3), (4, .int x4), (5, .int x5), (6, .int s.1)] [] (eX s.2)) (o : ((Int32 × jS) ⊕ (Unit × jS))) (h : f_X9_join_J93 σ x2 x3 x4 x5 x6 = some o) (hK : Kp o) : J yX9_join cX9_join 7 none 3 g rv μ' 93 [(0, .ref 5), (2, .int x2), (3, .int x3), (4, .int x4), (5, .int x5), (6, .int x6)] [] (eX σ) := by
  unfold f_X9_join_J93 at h
  refine j_aload_n 0 dX9_join_93 rfl rfl ?_
  refine j_get (ci := 8) 2 (.ref 8) jC_8 dX9_join_94 kg_RX9_18 rfl (okX_5 _) (shX_5 _) (fvX_5_2 _) ?_
  refine j_iload 5 dX9_join_97 rfl ?_
  refine j_aload_n 0 dX9_join_99 rfl rfl ?_
  refine j_get (ci := 8) 2 (.ref 8) jC_8 dX9_join_100 kg_RX9_18 rfl (okX_5 _) (shX_5 _) (fvX_5_2 _) ?_
  refine j_iload 5 dX9_join_103 rfl ?_
  replace h := bC_inv h
  obtain ⟨r13, cr13, h⟩ := h
  refine j_callS (st1 := .long r13 :: _) (c_X6_at_ g cr13) jy_X6_at_ kt_yX6_at_ kl_RX9_69 dX9_join_105 rfl rfl rfl rfl (jbr _) (jbr _) hn.1 hn.2 (Or.inr rfl) rfl ?_
  refine j_lconst (v := 1) dX9_join_108 (by decide) ?_
  refine j_iload 3 dX9_join_109 rfl ?_
  refine j_lshl dX9_join_111 ?_
  refine j_lor dX9_join_112 ?_
  replace h := bD_inv h
  obtain ⟨r14, σ15, cr14, h⟩ := h
  refine j_callS (st1 := _) (c_X6_put_ g cr14) jy_X6_put_ kt_yX6_put_ kl_RX9_80 dX9_join_113 rfl rfl rfl rfl (jbr _) (jbr _) hn.1 hn.2 (Or.inr rfl) rfl ?_
  refine j_aload_n 0 dX9_join_116 rfl rfl ?_
  refine j_get (ci := 8) 3 (.ref 9) jC_8 dX9_join_117 kg_RX9_22 rfl (okX_5 _) (shX_5 _) (fvX_5_3 _) ?_
  refine j_iload 3 dX9_join_120 rfl ?_
  refine j_aload_n 0 dX9_join_122 rfl rfl ?_
  refine j_get (ci := 8) 3 (.ref 9) jC_8 dX9_join_123 kg_RX9_22 rfl (okX_5 _) (shX_5 _) (fvX_5_3 _) ?_
  refine j_iload 3 dX9_join_126 rfl ?_
  replace h := bC_inv h
  obtain ⟨r16, cr16, h⟩ := h
  refine j_callS (st1 := .long r16 :: _) (c_X6_at_ g cr16) jy_X6_at_ kt_yX6_at_ kl_RX9_69 dX9_join_128 rfl rfl rfl rfl (jbr _) (jbr _) hn.1 hn.2 (Or.inr rfl) rfl ?_
  refine j_lconst (v := 1) dX9_join_131 (by decide) ?_
  refine j_iload 5 dX9_join_132 rfl ?_
  refine j_lshl dX9_join_134 ?_
  refine j_lor dX9_join_135 ?_
  replace h := bD_inv h
  obtain ⟨r17, σ18, cr17, h⟩ := h
  refine j_callS (st1 := _) (c_X6_put_ g cr17) jy_X6_put_ kt_yX6_put_ kl_RX9_80 dX9_join_136 rfl rfl rfl rfl (jbr _) (jbr _) hn.1 hn.2 (Or.inr rfl) rfl ?_
  exact f_X9_join_J139_ok σ18 x2 x3 x4 x5 x6 hn hr hc0 _ h hK
def f_X9_join_B50 (σ : jS) (x2 : Int32) (x3 : Int32) (x4 : Int32) (x5 : Int32) (x6 : Int32) : Option ((Int32 × jS) ⊕ (Unit × jS)) :=
  if x5 ≤ x6 then (jw (f_X9_join_J145 σ))
  else (bC (f_X6_at σ 6 x6) fun r4 =>
  if r4 = x3 then (if (gI σ 5 5) = 0 then (f_X9_join_J93 σ x2 x3 x4 x5 x6)
  else (bC (f_X6_at σ 7 x6) fun r19 =>
  if r19 = x2 then (f_X9_join_J139 σ x2 x3 x4 x5 x6)
  else (f_X9_join_J93 σ x2 x3 x4 x5 x6)))
  else (f_X9_join_J139 σ x2 x3 x4 x5 x6))
set_option maxHeartbeats 1000000 in
set_option maxRecDepth 20000 in
theorem f_X9_join_B50_ok {g : Bool} {rv : Option Value} {μ' : jM} (σ : jS) (x2 : Int32) (x3 : Int32) (x4 : Int32) (x5 : Int32) (x6 : Int32) {Kp : ((Int32 × jS) ⊕ (Unit × jS)) → Prop} (hn : Nat.ble nX μ'.1 = true ∧ Nat.ble wX μ'.2.1 = true) (hr : ∀ (r : Unit) (s : jS), Kp (.inr ((r, s))) → rv = none ∧ μ' = eX s) (hc0 : ∀ s : (Int32 × jS), Kp (.inl s) → J yX9_join cX9_join 7 none 3 g rv μ' 50 [(0, .ref 5), (2, .int x2), (3, .int x3), (4, .int x4), (5, .int x5), (6, .int s.1)] [] (eX s.2)) (o : ((Int32 × jS) ⊕ (Unit × jS))) (h : f_X9_join_B50 σ x2 x3 x4 x5 x6 = some o) (hK : Kp o) : J yX9_join cX9_join 7 none 3 g rv μ' 50 [(0, .ref 5), (2, .int x2), (3, .int x3), (4, .int x4), (5, .int x5), (6, .int x6)] [] (eX σ) := by
  unfold f_X9_join_B50 at h
  refine j_iload 5 dX9_join_50 rfl ?_
  refine j_iload 4 dX9_join_52 rfl ?_
  refine j_icmp_ge 145 dX9_join_54 (by decide) (fun hc20 => ?_) (fun hc20 => ?_)
  · replace h := jif_t hc20 h
    replace h := jw_inv h
    obtain ⟨o21, rfl, h⟩ := h
    refine j_sub [] [] rfl ?_
    exact f_X9_join_J145_ok (Kp := fun o => Kp (.inr (o))) σ hn (fun r s q => hr r s q) _ h hK
  · replace h := jif_f hc20 h
    refine j_aload_n 0 dX9_join_57 rfl rfl ?_
    refine j_get (ci := 8) 0 (.ref 6) jC_8 dX9_join_58 kg_RX9_9 rfl (okX_5 _) (shX_5 _) (fvX_5_0 _) ?_
    refine j_iload 5 dX9_join_61 rfl ?_
    replace h := bC_inv h
    obtain ⟨r22, cr22, h⟩ := h
    refine j_callS (st1 := .int r22 :: _) (c_X6_at g cr22) jy_X6_at kt_yX6_at kl_RX9_51 dX9_join_63 rfl rfl rfl rfl (jbr _) (jbr _) hn.1 hn.2 (Or.inr rfl) rfl ?_
    refine j_iload_n 2 dX9_join_66 rfl rfl ?_
    refine j_icmp_ne 139 dX9_join_67 (by decide) (fun hc23 => ?_) (fun hc23 => ?_)
    · replace h := jif_f hc23 h
      exact f_X9_join_J139_ok σ x2 x3 x4 x5 x6 hn hr hc0 _ h hK
    · replace h := jif_t hc23 h
      refine j_aload_n 0 dX9_join_70 rfl rfl ?_
      refine j_get (ci := 8) 5 (.int (gI σ 5 5)) jC_8 dX9_join_71 kg_RX9_28 rfl (okX_5 _) (shX_5 _) (fvX_5_5 _) ?_
      refine j_if_eq 93 dX9_join_74 (by decide) (fun hc24 => ?_) (fun hc24 => ?_)
      · replace h := jif_t hc24 h
        exact f_X9_join_J93_ok σ x2 x3 x4 x5 x6 hn hr hc0 _ h hK
      · replace h := jif_f hc24 h
        refine j_aload_n 0 dX9_join_77 rfl rfl ?_
        refine j_get (ci := 8) 1 (.ref 7) jC_8 dX9_join_78 kg_RX9_15 rfl (okX_5 _) (shX_5 _) (fvX_5_1 _) ?_
        refine j_iload 5 dX9_join_81 rfl ?_
        replace h := bC_inv h
        obtain ⟨r25, cr25, h⟩ := h
        refine j_callS (st1 := .int r25 :: _) (c_X6_at g cr25) jy_X6_at kt_yX6_at kl_RX9_51 dX9_join_83 rfl rfl rfl rfl (jbr _) (jbr _) hn.1 hn.2 (Or.inr rfl) rfl ?_
        refine j_iload_n 1 dX9_join_86 rfl rfl ?_
        refine j_icmp_ne 93 dX9_join_87 (by decide) (fun hc26 => ?_) (fun hc26 => ?_)
        · replace h := jif_f hc26 h
          exact f_X9_join_J93_ok σ x2 x3 x4 x5 x6 hn hr hc0 _ h hK
        · replace h := jif_t hc26 h
          refine j_goto 139 dX9_join_90 (by decide) ?_
          exact f_X9_join_J139_ok σ x2 x3 x4 x5 x6 hn hr hc0 _ h hK
def f_X9_join_J45 (σ : jS) (x2 : Int32) (x3 : Int32) (x4 : Int32) (y0 : Int32) : Option (Unit × jS) :=
  jloop jFuel (fun s => f_X9_join_B50 s.2 x2 x3 x4 y0 s.1) (0, σ)
set_option maxHeartbeats 1000000 in
set_option maxRecDepth 20000 in
theorem f_X9_join_J45_ok {g : Bool} {rv : Option Value} {μ' : jM} (σ : jS) (x2 : Int32) (x3 : Int32) (x4 : Int32) (y0 : Int32) {Kp : (Unit × jS) → Prop} (hn : Nat.ble nX μ'.1 = true ∧ Nat.ble wX μ'.2.1 = true) (hr : ∀ (r : Unit) (s : jS), Kp ((r, s)) → rv = none ∧ μ' = eX s) (o : (Unit × jS)) (h : f_X9_join_J45 σ x2 x3 x4 y0 = some o) (hK : Kp o) : J yX9_join cX9_join 7 none 3 g rv μ' 45 [(0, .ref 5), (2, .int x2), (3, .int x3), (4, .int x4)] [.int y0] (eX σ) := by
  unfold f_X9_join_J45 at h
  refine j_istore [(5, .int y0), (0, .ref 5), (2, .int x2), (3, .int x3), (4, .int x4)] dX9_join_45 (Nat.le_of_ble_eq_true rfl) rfl ?_
  refine j_iconst (v := 0) dX9_join_47 (by decide) ?_
  refine j_istore [(6, .int 0), (5, .int y0), (0, .ref 5), (2, .int x2), (3, .int x3), (4, .int x4)] dX9_join_48 (Nat.le_of_ble_eq_true rfl) rfl ?_
  refine j_sub [(0, .ref 5), (2, .int x2), (3, .int x3), (4, .int x4), (5, .int y0), (6, .int 0)] [2, 3, 4, 5, 1, 0] rfl ?_
  exact jloop_ok (fun s => f_X9_join_B50 s.2 x2 x3 x4 y0 s.1) (fun s => J yX9_join cX9_join 7 none 3 g rv μ' 50 [(0, .ref 5), (2, .int x2), (3, .int x3), (4, .int x4), (5, .int y0), (6, .int s.1)] [] (eX s.2)) Kp (fun s o hb hk => f_X9_join_B50_ok (Kp := jsum (fun s => J yX9_join cX9_join 7 none 3 g rv μ' 50 [(0, .ref 5), (2, .int x2), (3, .int x3), (4, .int x4), (5, .int y0), (6, .int s.1)] [] (eX s.2)) Kp) s.2 x2 x3 x4 y0 s.1 hn (fun r s q => hr r s q) (fun s q => q) o hb hk) jFuel _ _ h hK
def f_X9_join (σ : jS) (x1 : Int32) : Option (Unit × jS) :=
  bC (f_X6_at σ 6 ((16 : Int32) + x1)) fun r1 =>
  bC (f_X6_at σ 7 ((16 : Int32) + x1)) fun r2 =>
  bC (f_X9_byTurn σ x1) fun r3 =>
  if (gI σ 5 5) = 0 then (f_X9_join_J45 σ r1 r2 r3 16)
  else (f_X9_join_J45 σ r1 r2 r3 56)
set_option maxHeartbeats 1000000 in
set_option maxRecDepth 20000 in
theorem f_X9_join_ok {g : Bool} {rv : Option Value} {μ' : jM} (σ : jS) (x1 : Int32) {Kp : (Unit × jS) → Prop} (hn : Nat.ble nX μ'.1 = true ∧ Nat.ble wX μ'.2.1 = true) (hr : ∀ (r : Unit) (s : jS), Kp ((r, s)) → rv = none ∧ μ' = eX s) (o : (Unit × jS)) (h : f_X9_join σ x1 = some o) (hK : Kp o) : J yX9_join cX9_join 7 none 3 g rv μ' 0 [(0, .ref 5), (1, .int x1)] [] (eX σ) := by
  unfold f_X9_join at h
  refine j_aload_n 0 dX9_join_0 rfl rfl ?_
  refine j_get (ci := 8) 0 (.ref 6) jC_8 dX9_join_1 kg_RX9_9 rfl (okX_5 _) (shX_5 _) (fvX_5_0 _) ?_
  refine j_bipush (v := 16) dX9_join_4 (by decide) ?_
  refine j_iload_n 1 dX9_join_6 rfl rfl ?_
  refine j_iadd dX9_join_7 ?_
  replace h := bC_inv h
  obtain ⟨r27, cr27, h⟩ := h
  refine j_callS (st1 := .int r27 :: _) (c_X6_at g cr27) jy_X6_at kt_yX6_at kl_RX9_51 dX9_join_8 rfl rfl rfl rfl (jbr _) (jbr _) hn.1 hn.2 (Or.inr rfl) rfl ?_
  refine j_istore_n [(2, .int r27), (0, .ref 5), (1, .int x1)] dX9_join_11 rfl (Nat.le_of_ble_eq_true rfl) rfl ?_
  refine j_aload_n 1 dX9_join_12 rfl rfl ?_
  refine j_get (ci := 8) 1 (.ref 7) jC_8 dX9_join_13 kg_RX9_15 rfl (okX_5 _) (shX_5 _) (fvX_5_1 _) ?_
  refine j_bipush (v := 16) dX9_join_16 (by decide) ?_
  refine j_iload_n 2 dX9_join_18 rfl rfl ?_
  refine j_iadd dX9_join_19 ?_
  replace h := bC_inv h
  obtain ⟨r28, cr28, h⟩ := h
  refine j_callS (st1 := .int r28 :: _) (c_X6_at g cr28) jy_X6_at kt_yX6_at kl_RX9_51 dX9_join_20 rfl rfl rfl rfl (jbr _) (jbr _) hn.1 hn.2 (Or.inr rfl) rfl ?_
  refine j_istore_n [(3, .int r28), (2, .int r27), (0, .ref 5), (1, .int x1)] dX9_join_23 rfl (Nat.le_of_ble_eq_true rfl) rfl ?_
  refine j_aload_n 2 dX9_join_24 rfl rfl ?_
  refine j_iload_n 3 dX9_join_25 rfl rfl ?_
  replace h := bC_inv h
  obtain ⟨r29, cr29, h⟩ := h
  refine j_callV (ci := 8) (st1 := .int r29 :: _) (c_X9_byTurn g cr29) jy_X9_byTurn ki_yX9_byTurn ks_yX9_byTurn kl_RX9_72 dX9_join_26 rfl (okX_5 _) (shX_5 _) rfl rfl rfl rfl (jbr _) (jbr _) hn.1 hn.2 (Or.inr rfl) rfl ?_
  refine j_istore [(4, .int r29), (3, .int r28), (2, .int r27), (0, .ref 5), (1, .int x1)] dX9_join_29 (Nat.le_of_ble_eq_true rfl) rfl ?_
  refine j_aload_n 3 dX9_join_31 rfl rfl ?_
  refine j_get (ci := 8) 5 (.int (gI σ 5 5)) jC_8 dX9_join_32 kg_RX9_28 rfl (okX_5 _) (shX_5 _) (fvX_5_5 _) ?_
  refine j_if_eq 43 dX9_join_35 (by decide) (fun hc30 => ?_) (fun hc30 => ?_)
  · replace h := jif_t hc30 h
    refine j_bipush (v := 16) dX9_join_43 (by decide) ?_
    refine j_sub [(0, .ref 5), (2, .int r27), (3, .int r28), (4, .int r29)] [3, 2, 1, 0] rfl ?_
    exact f_X9_join_J45_ok σ r27 r28 r29 16 hn hr _ h hK
  · replace h := jif_f hc30 h
    refine j_bipush (v := 56) dX9_join_38 (by decide) ?_
    refine j_goto 45 dX9_join_40 (by decide) ?_
    refine j_sub [(0, .ref 5), (2, .int r27), (3, .int r28), (4, .int r29)] [3, 2, 1, 0] rfl ?_
    exact f_X9_join_J45_ok σ r27 r28 r29 56 hn hr _ h hK
theorem c_X9_join (g : Bool) {σ : jS} {x1 : Int32} {r : Unit} {σ2 : jS} (h : f_X9_join σ x1 = some (r, σ2)) : Cn yX9_join cX9_join 7 none 3 g [.ref 5, .int x1] (eX σ) none (eX σ2) :=
  Cn_of (by decide) (Nat.le_refl _) (Nat.le_refl _) (Nat.le_of_ble_eq_true rfl) (f_X9_join_ok (Kp := (fun o => o = (r, σ2))) σ x1 ⟨jbr _, jbr _⟩ (fun r2 s2 q => by cases q; exact ⟨rfl, rfl⟩) _ h rfl)
def f_X9_setSpot_J43 (σ : jS) : Option (Unit × jS) :=
  some (((), σ))
set_option maxHeartbeats 1000000 in
set_option maxRecDepth 20000 in
theorem f_X9_setSpot_J43_ok {g : Bool} {rv : Option Value} {μ' : jM} (σ : jS) {Kp : (Unit × jS) → Prop} (hn : Nat.ble nX μ'.1 = true ∧ Nat.ble wX μ'.2.1 = true) (hr : ∀ (r : Unit) (s : jS), Kp ((r, s)) → rv = none ∧ μ' = eX s) (o : (Unit × jS)) (h : f_X9_setSpot_J43 σ = some o) (hK : Kp o) : J yX9_setSpot cX9_setSpot 4 none 2 g rv μ' 43 [] [] (eX σ) := by
  unfold f_X9_setSpot_J43 at h
  replace h := Option.some.inj h
  subst h
  obtain ⟨hr1, hr2⟩ := hr _ _ hK
  exact j_vret dX9_setSpot_43 hr1 hr2
def f_X9_setSpot (σ : jS) (x1 : Int32) (x2 : Int32) (x3 : Int32) : Option (Unit × jS) :=
  bD (f_X6_put σ 6 x1 x2) fun r1 σ2 =>
  bD (f_X6_put σ2 7 x1 x3) fun r3 σ4 =>
  if x2 = (-1) then (f_X9_setSpot_J43 σ4)
  else (bC (f_X6_at_ σ4 10 x2) fun r5 =>
  bD (f_X6_put_ σ4 10 x2 (r5 ||| ((1 : Int64) <<< (x1.toInt64 &&& 63)))) fun r6 σ7 =>
  f_X9_setSpot_J43 σ7)
set_option maxHeartbeats 1000000 in
set_option maxRecDepth 20000 in
theorem f_X9_setSpot_ok {g : Bool} {rv : Option Value} {μ' : jM} (σ : jS) (x1 : Int32) (x2 : Int32) (x3 : Int32) {Kp : (Unit × jS) → Prop} (hn : Nat.ble nX μ'.1 = true ∧ Nat.ble wX μ'.2.1 = true) (hr : ∀ (r : Unit) (s : jS), Kp ((r, s)) → rv = none ∧ μ' = eX s) (o : (Unit × jS)) (h : f_X9_setSpot σ x1 x2 x3 = some o) (hK : Kp o) : J yX9_setSpot cX9_setSpot 4 none 2 g rv μ' 0 [(0, .ref 5), (1, .int x1), (2, .int x2), (3, .int x3)] [] (eX σ) := by
  unfold f_X9_setSpot at h
  refine j_aload_n 0 dX9_setSpot_0 rfl rfl ?_
  refine j_get (ci := 8) 0 (.ref 6) jC_8 dX9_setSpot_1 kg_RX9_9 rfl (okX_5 _) (shX_5 _) (fvX_5_0 _) ?_
  refine j_iload_n 1 dX9_setSpot_4 rfl rfl ?_
  refine j_iload_n 2 dX9_setSpot_5 rfl rfl ?_
  replace h := bD_inv h
  obtain ⟨r8, σ9, cr8, h⟩ := h
  refine j_callS (st1 := _) (c_X6_put g cr8) jy_X6_put kt_yX6_put kl_RX9_76 dX9_setSpot_6 rfl rfl rfl rfl (jbr _) (jbr _) hn.1 hn.2 (Or.inr rfl) rfl ?_
  refine j_aload_n 0 dX9_setSpot_9 rfl rfl ?_
  refine j_get (ci := 8) 1 (.ref 7) jC_8 dX9_setSpot_10 kg_RX9_15 rfl (okX_5 _) (shX_5 _) (fvX_5_1 _) ?_
  refine j_iload_n 1 dX9_setSpot_13 rfl rfl ?_
  refine j_iload_n 3 dX9_setSpot_14 rfl rfl ?_
  replace h := bD_inv h
  obtain ⟨r10, σ11, cr10, h⟩ := h
  refine j_callS (st1 := _) (c_X6_put g cr10) jy_X6_put kt_yX6_put kl_RX9_76 dX9_setSpot_15 rfl rfl rfl rfl (jbr _) (jbr _) hn.1 hn.2 (Or.inr rfl) rfl ?_
  refine j_iload_n 2 dX9_setSpot_18 rfl rfl ?_
  refine j_iconst (v := (-1)) dX9_setSpot_19 (by decide) ?_
  refine j_icmp_eq 43 dX9_setSpot_20 (by decide) (fun hc12 => ?_) (fun hc12 => ?_)
  · replace h := jif_t hc12 h
    refine j_sub [] [] rfl ?_
    exact f_X9_setSpot_J43_ok σ11 hn hr _ h hK
  · replace h := jif_f hc12 h
    refine j_aload_n 0 dX9_setSpot_23 rfl rfl ?_
    refine j_get (ci := 8) 4 (.ref 10) jC_8 dX9_setSpot_24 kg_RX9_25 rfl (okX_5 _) (shX_5 _) (fvX_5_4 _) ?_
    refine j_iload_n 2 dX9_setSpot_27 rfl rfl ?_
    refine j_aload_n 0 dX9_setSpot_28 rfl rfl ?_
    refine j_get (ci := 8) 4 (.ref 10) jC_8 dX9_setSpot_29 kg_RX9_25 rfl (okX_5 _) (shX_5 _) (fvX_5_4 _) ?_
    refine j_iload_n 2 dX9_setSpot_32 rfl rfl ?_
    replace h := bC_inv h
    obtain ⟨r13, cr13, h⟩ := h
    refine j_callS (st1 := .long r13 :: _) (c_X6_at_ g cr13) jy_X6_at_ kt_yX6_at_ kl_RX9_69 dX9_setSpot_33 rfl rfl rfl rfl (jbr _) (jbr _) hn.1 hn.2 (Or.inr rfl) rfl ?_
    refine j_lconst (v := 1) dX9_setSpot_36 (by decide) ?_
    refine j_iload_n 1 dX9_setSpot_37 rfl rfl ?_
    refine j_lshl dX9_setSpot_38 ?_
    refine j_lor dX9_setSpot_39 ?_
    replace h := bD_inv h
    obtain ⟨r14, σ15, cr14, h⟩ := h
    refine j_callS (st1 := _) (c_X6_put_ g cr14) jy_X6_put_ kt_yX6_put_ kl_RX9_80 dX9_setSpot_40 rfl rfl rfl rfl (jbr _) (jbr _) hn.1 hn.2 (Or.inr rfl) rfl ?_
    refine j_sub [] [] rfl ?_
    exact f_X9_setSpot_J43_ok σ15 hn hr _ h hK
theorem c_X9_setSpot (g : Bool) {σ : jS} {x1 : Int32} {x2 : Int32} {x3 : Int32} {r : Unit} {σ2 : jS} (h : f_X9_setSpot σ x1 x2 x3 = some (r, σ2)) : Cn yX9_setSpot cX9_setSpot 4 none 2 g [.ref 5, .int x1, .int x2, .int x3] (eX σ) none (eX σ2) :=
  Cn_of (by decide) (Nat.le_refl _) (Nat.le_refl _) (Nat.le_of_ble_eq_true rfl) (f_X9_setSpot_ok (Kp := (fun o => o = (r, σ2))) σ x1 x2 x3 ⟨jbr _, jbr _⟩ (fun r2 s2 q => by cases q; exact ⟨rfl, rfl⟩) _ h rfl)
def f_X9_build_J187 (σ : jS) : Option (Unit × jS) :=
  some (((), σ))
set_option maxHeartbeats 1000000 in
set_option maxRecDepth 20000 in
theorem f_X9_build_J187_ok {g : Bool} {rv : Option Value} {μ' : jM} (σ : jS) {Kp : (Unit × jS) → Prop} (hn : Nat.ble nX μ'.1 = true ∧ Nat.ble wX μ'.2.1 = true) (hr : ∀ (r : Unit) (s : jS), Kp ((r, s)) → rv = none ∧ μ' = eX s) (o : (Unit × jS)) (h : f_X9_build_J187 σ = some o) (hK : Kp o) : J yX9_build cX9_build 6 none 4 g rv μ' 187 [] [] (eX σ) := by
  unfold f_X9_build_J187 at h
  replace h := Option.some.inj h
  subst h
  obtain ⟨hr1, hr2⟩ := hr _ _ hK
  exact j_vret dX9_build_187 hr1 hr2
def f_X9_build_J181 (σ : jS) (x1 : Nat) (x2 : Int32) (x4 : Int32) : Option ((Int32 × jS) ⊕ (Unit × jS)) :=
  bV (x4 + 1) fun v13 =>
  some (.inl (v13, σ))
set_option maxHeartbeats 1000000 in
set_option maxRecDepth 20000 in
theorem f_X9_build_J181_ok {g : Bool} {rv : Option Value} {μ' : jM} (σ : jS) (x1 : Nat) (x2 : Int32) (x4 : Int32) {Kp : ((Int32 × jS) ⊕ (Unit × jS)) → Prop} (hn : Nat.ble nX μ'.1 = true ∧ Nat.ble wX μ'.2.1 = true) (hr : ∀ (r : Unit) (s : jS), Kp (.inr ((r, s))) → rv = none ∧ μ' = eX s) (hc0 : ∀ s : (Int32 × jS), Kp (.inl s) → J yX9_build cX9_build 6 none 4 g rv μ' 123 [(0, .ref 5), (1, .ref x1), (2, .int x2), (4, .int s.1)] [] (eX s.2)) (o : ((Int32 × jS) ⊕ (Unit × jS))) (h : f_X9_build_J181 σ x1 x2 x4 = some o) (hK : Kp o) : J yX9_build cX9_build 6 none 4 g rv μ' 181 [(0, .ref 5), (1, .ref x1), (2, .int x2), (4, .int x4)] [] (eX σ) := by
  unfold f_X9_build_J181 at h
  replace h := bV_inv h
  obtain ⟨v14, ev14, h⟩ := h
  refine j_iinc (v := v14) [(4, .int v14), (0, .ref 5), (1, .ref x1), (2, .int x2)] 3 dX9_build_181 rfl (by rw [ev14]; rfl) (Nat.le_of_ble_eq_true rfl) rfl ?_
  refine j_goto 123 dX9_build_184 (by decide) ?_
  replace h := Option.some.inj h
  subst h
  refine j_sub [(0, .ref 5), (1, .ref x1), (2, .int x2), (4, .int v14)] [1, 2, 3, 0] rfl ?_
  exact hc0 _ hK
def f_X9_build_B123 (σ : jS) (x1 : Nat) (x2 : Int32) (x4 : Int32) : Option ((Int32 × jS) ⊕ (Unit × jS)) :=
  bH [51, 61] x1 (
  if (gI σ x1 7) ≤ x4 then (jw (f_X9_build_J187 σ))
  else (bC (f_X6_at σ (rPX x1 1) x4) fun r8 =>
  bC (f_X6_at σ (rPX x1 0) r8) fun r9 =>
  bC (f_X6_at σ (rPX x1 2) x4) fun r10 =>
  bC (f_X6_at σ (rPX x1 0) r10) fun r11 =>
  bC (f_X9_isAllowed x2 r11 r9) fun r12 =>
  if r12 = 0 then (f_X9_build_J181 σ x1 x2 x4)
  else (bD (f_X9_join σ x4) fun r15 σ16 =>
  f_X9_build_J181 σ16 x1 x2 x4)))
set_option maxHeartbeats 1000000 in
set_option maxRecDepth 20000 in
theorem f_X9_build_B123_ok {g : Bool} {rv : Option Value} {μ' : jM} (σ : jS) (x1 : Nat) (x2 : Int32) (x4 : Int32) {Kp : ((Int32 × jS) ⊕ (Unit × jS)) → Prop} (hn : Nat.ble nX μ'.1 = true ∧ Nat.ble wX μ'.2.1 = true) (hr : ∀ (r : Unit) (s : jS), Kp (.inr ((r, s))) → rv = none ∧ μ' = eX s) (hc0 : ∀ s : (Int32 × jS), Kp (.inl s) → J yX9_build cX9_build 6 none 4 g rv μ' 123 [(0, .ref 5), (1, .ref x1), (2, .int x2), (4, .int s.1)] [] (eX s.2)) (o : ((Int32 × jS) ⊕ (Unit × jS))) (h : f_X9_build_B123 σ x1 x2 x4 = some o) (hK : Kp o) : J yX9_build cX9_build 6 none 4 g rv μ' 123 [(0, .ref 5), (1, .ref x1), (2, .int x2), (4, .int x4)] [] (eX σ) := by
  unfold f_X9_build_B123 at h
  refine j_iload 3 dX9_build_123 rfl ?_
  refine j_aload_n 1 dX9_build_125 rfl rfl ?_
  replace h := bH_inv h
  obtain ⟨hm17, h⟩ := h
  simp only [List.mem_cons, List.not_mem_nil, or_false] at hm17
  rcases hm17 with rfl | rfl
  · skip
    refine j_get (ci := 7) 7 (.int (gI σ 51 7)) jC_7 dX9_build_126 kg_RX9_42 rfl (okX_51 _) (shX_51 _) (fvX_51_7 _) ?_
    refine j_icmp_ge 187 dX9_build_129 (by decide) (fun hc18 => ?_) (fun hc18 => ?_)
    · replace h := jif_t hc18 h
      replace h := jw_inv h
      obtain ⟨o19, rfl, h⟩ := h
      refine j_sub [] [] rfl ?_
      exact f_X9_build_J187_ok (Kp := fun o => Kp (.inr (o))) σ hn (fun r s q => hr r s q) _ h hK
    · replace h := jif_f hc18 h
      refine j_aload_n 1 dX9_build_132 rfl rfl ?_
      refine j_get (ci := 7) 0 (.ref 52) jC_7 dX9_build_133 kg_RX9_58 rfl (okX_51 _) (shX_51 _) (fvX_51_0 _) ?_
      refine j_aload_n 1 dX9_build_136 rfl rfl ?_
      refine j_get (ci := 7) 1 (.ref 53) jC_7 dX9_build_137 kg_RX9_48 rfl (okX_51 _) (shX_51 _) (fvX_51_1 _) ?_
      refine j_iload 3 dX9_build_140 rfl ?_
      replace h := bC_inv h
      obtain ⟨r20, cr20, h⟩ := h
      refine j_callS (st1 := .int r20 :: _) (c_X6_at g cr20) jy_X6_at kt_yX6_at kl_RX9_51 dX9_build_142 rfl rfl rfl rfl (jbr _) (jbr _) hn.1 hn.2 (Or.inr rfl) rfl ?_
      replace h := bC_inv h
      obtain ⟨r21, cr21, h⟩ := h
      refine j_callS (st1 := .int r21 :: _) (c_X6_at g cr21) jy_X6_at kt_yX6_at kl_RX9_51 dX9_build_145 rfl rfl rfl rfl (jbr _) (jbr _) hn.1 hn.2 (Or.inr rfl) rfl ?_
      refine j_istore [(5, .int r21), (0, .ref 5), (1, .ref 51), (2, .int x2), (4, .int x4)] dX9_build_148 (Nat.le_of_ble_eq_true rfl) rfl ?_
      refine j_iload_n 3 dX9_build_150 rfl rfl ?_
      refine j_aload_n 2 dX9_build_151 rfl rfl ?_
      refine j_get (ci := 7) 0 (.ref 52) jC_7 dX9_build_152 kg_RX9_58 rfl (okX_51 _) (shX_51 _) (fvX_51_0 _) ?_
      refine j_aload_n 2 dX9_build_155 rfl rfl ?_
      refine j_get (ci := 7) 2 (.ref 54) jC_7 dX9_build_156 kg_RX9_55 rfl (okX_51 _) (shX_51 _) (fvX_51_2 _) ?_
      refine j_iload 4 dX9_build_159 rfl ?_
      replace h := bC_inv h
      obtain ⟨r22, cr22, h⟩ := h
      refine j_callS (st1 := .int r22 :: _) (c_X6_at g cr22) jy_X6_at kt_yX6_at kl_RX9_51 dX9_build_161 rfl rfl rfl rfl (jbr _) (jbr _) hn.1 hn.2 (Or.inr rfl) rfl ?_
      replace h := bC_inv h
      obtain ⟨r23, cr23, h⟩ := h
      refine j_callS (st1 := .int r23 :: _) (c_X6_at g cr23) jy_X6_at kt_yX6_at kl_RX9_51 dX9_build_164 rfl rfl rfl rfl (jbr _) (jbr _) hn.1 hn.2 (Or.inr rfl) rfl ?_
      refine j_iload 0 dX9_build_167 rfl ?_
      replace h := bC_inv h
      obtain ⟨r24, cr24, h⟩ := h
      refine j_callS (st1 := .int r24 :: _) (c_X9_isAllowed g _ cr24) jy_X9_isAllowed kt_yX9_isAllowed kl_RX9_61 dX9_build_169 rfl rfl rfl rfl (jbr _) (jbr _) hn.1 hn.2 (Or.inr rfl) rfl ?_
      refine j_if_eq 181 dX9_build_172 (by decide) (fun hc25 => ?_) (fun hc25 => ?_)
      · replace h := jif_t hc25 h
        refine j_sub [(0, .ref 5), (1, .ref 51), (2, .int x2), (4, .int x4)] [1, 2, 3, 4] rfl ?_
        exact f_X9_build_J181_ok σ 51 x2 x4 hn hr hc0 _ h hK
      · replace h := jif_f hc25 h
        refine j_aload_n 1 dX9_build_175 rfl rfl ?_
        refine j_iload 4 dX9_build_176 rfl ?_
        replace h := bD_inv h
        obtain ⟨r26, σ27, cr26, h⟩ := h
        refine j_callV (ci := 8) (st1 := _) (c_X9_join g cr26) jy_X9_join ki_yX9_join ks_yX9_join kl_RX9_65 dX9_build_178 rfl (okX_5 _) (shX_5 _) rfl rfl rfl rfl (jbr _) (jbr _) hn.1 hn.2 (Or.inr rfl) rfl ?_
        refine j_sub [(0, .ref 5), (1, .ref 51), (2, .int x2), (4, .int x4)] [1, 2, 3, 4] rfl ?_
        exact f_X9_build_J181_ok σ27 51 x2 x4 hn hr hc0 _ h hK
  · skip
    refine j_get (ci := 7) 7 (.int (gI σ 61 7)) jC_7 dX9_build_126 kg_RX9_42 rfl (okX_61 _) (shX_61 _) (fvX_61_7 _) ?_
    refine j_icmp_ge 187 dX9_build_129 (by decide) (fun hc28 => ?_) (fun hc28 => ?_)
    · replace h := jif_t hc28 h
      replace h := jw_inv h
      obtain ⟨o29, rfl, h⟩ := h
      refine j_sub [] [] rfl ?_
      exact f_X9_build_J187_ok (Kp := fun o => Kp (.inr (o))) σ hn (fun r s q => hr r s q) _ h hK
    · replace h := jif_f hc28 h
      refine j_aload_n 1 dX9_build_132 rfl rfl ?_
      refine j_get (ci := 7) 0 (.ref 62) jC_7 dX9_build_133 kg_RX9_58 rfl (okX_61 _) (shX_61 _) (fvX_61_0 _) ?_
      refine j_aload_n 1 dX9_build_136 rfl rfl ?_
      refine j_get (ci := 7) 1 (.ref 63) jC_7 dX9_build_137 kg_RX9_48 rfl (okX_61 _) (shX_61 _) (fvX_61_1 _) ?_
      refine j_iload 3 dX9_build_140 rfl ?_
      replace h := bC_inv h
      obtain ⟨r30, cr30, h⟩ := h
      refine j_callS (st1 := .int r30 :: _) (c_X6_at g cr30) jy_X6_at kt_yX6_at kl_RX9_51 dX9_build_142 rfl rfl rfl rfl (jbr _) (jbr _) hn.1 hn.2 (Or.inr rfl) rfl ?_
      replace h := bC_inv h
      obtain ⟨r31, cr31, h⟩ := h
      refine j_callS (st1 := .int r31 :: _) (c_X6_at g cr31) jy_X6_at kt_yX6_at kl_RX9_51 dX9_build_145 rfl rfl rfl rfl (jbr _) (jbr _) hn.1 hn.2 (Or.inr rfl) rfl ?_
      refine j_istore [(5, .int r31), (0, .ref 5), (1, .ref 61), (2, .int x2), (4, .int x4)] dX9_build_148 (Nat.le_of_ble_eq_true rfl) rfl ?_
      refine j_iload_n 3 dX9_build_150 rfl rfl ?_
      refine j_aload_n 2 dX9_build_151 rfl rfl ?_
      refine j_get (ci := 7) 0 (.ref 62) jC_7 dX9_build_152 kg_RX9_58 rfl (okX_61 _) (shX_61 _) (fvX_61_0 _) ?_
      refine j_aload_n 2 dX9_build_155 rfl rfl ?_
      refine j_get (ci := 7) 2 (.ref 64) jC_7 dX9_build_156 kg_RX9_55 rfl (okX_61 _) (shX_61 _) (fvX_61_2 _) ?_
      refine j_iload 4 dX9_build_159 rfl ?_
      replace h := bC_inv h
      obtain ⟨r32, cr32, h⟩ := h
      refine j_callS (st1 := .int r32 :: _) (c_X6_at g cr32) jy_X6_at kt_yX6_at kl_RX9_51 dX9_build_161 rfl rfl rfl rfl (jbr _) (jbr _) hn.1 hn.2 (Or.inr rfl) rfl ?_
      replace h := bC_inv h
      obtain ⟨r33, cr33, h⟩ := h
      refine j_callS (st1 := .int r33 :: _) (c_X6_at g cr33) jy_X6_at kt_yX6_at kl_RX9_51 dX9_build_164 rfl rfl rfl rfl (jbr _) (jbr _) hn.1 hn.2 (Or.inr rfl) rfl ?_
      refine j_iload 0 dX9_build_167 rfl ?_
      replace h := bC_inv h
      obtain ⟨r34, cr34, h⟩ := h
      refine j_callS (st1 := .int r34 :: _) (c_X9_isAllowed g _ cr34) jy_X9_isAllowed kt_yX9_isAllowed kl_RX9_61 dX9_build_169 rfl rfl rfl rfl (jbr _) (jbr _) hn.1 hn.2 (Or.inr rfl) rfl ?_
      refine j_if_eq 181 dX9_build_172 (by decide) (fun hc35 => ?_) (fun hc35 => ?_)
      · replace h := jif_t hc35 h
        refine j_sub [(0, .ref 5), (1, .ref 61), (2, .int x2), (4, .int x4)] [1, 2, 3, 4] rfl ?_
        exact f_X9_build_J181_ok σ 61 x2 x4 hn hr hc0 _ h hK
      · replace h := jif_f hc35 h
        refine j_aload_n 1 dX9_build_175 rfl rfl ?_
        refine j_iload 4 dX9_build_176 rfl ?_
        replace h := bD_inv h
        obtain ⟨r36, σ37, cr36, h⟩ := h
        refine j_callV (ci := 8) (st1 := _) (c_X9_join g cr36) jy_X9_join ki_yX9_join ks_yX9_join kl_RX9_65 dX9_build_178 rfl (okX_5 _) (shX_5 _) rfl rfl rfl rfl (jbr _) (jbr _) hn.1 hn.2 (Or.inr rfl) rfl ?_
        refine j_sub [(0, .ref 5), (1, .ref 61), (2, .int x2), (4, .int x4)] [1, 2, 3, 4] rfl ?_
        exact f_X9_build_J181_ok σ37 61 x2 x4 hn hr hc0 _ h hK
def f_X9_build_J120 (σ : jS) (x1 : Nat) (x2 : Int32) : Option (Unit × jS) :=
  jloop jFuel (fun s => f_X9_build_B123 s.2 x1 x2 s.1) (0, σ)
set_option maxHeartbeats 1000000 in
set_option maxRecDepth 20000 in
theorem f_X9_build_J120_ok {g : Bool} {rv : Option Value} {μ' : jM} (σ : jS) (x1 : Nat) (x2 : Int32) {Kp : (Unit × jS) → Prop} (hn : Nat.ble nX μ'.1 = true ∧ Nat.ble wX μ'.2.1 = true) (hr : ∀ (r : Unit) (s : jS), Kp ((r, s)) → rv = none ∧ μ' = eX s) (o : (Unit × jS)) (h : f_X9_build_J120 σ x1 x2 = some o) (hK : Kp o) : J yX9_build cX9_build 6 none 4 g rv μ' 120 [(0, .ref 5), (1, .ref x1), (2, .int x2)] [] (eX σ) := by
  unfold f_X9_build_J120 at h
  refine j_iconst (v := 0) dX9_build_120 (by decide) ?_
  refine j_istore [(4, .int 0), (0, .ref 5), (1, .ref x1), (2, .int x2)] dX9_build_121 (Nat.le_of_ble_eq_true rfl) rfl ?_
  refine j_sub [(0, .ref 5), (1, .ref x1), (2, .int x2), (4, .int 0)] [1, 2, 3, 0] rfl ?_
  exact jloop_ok (fun s => f_X9_build_B123 s.2 x1 x2 s.1) (fun s => J yX9_build cX9_build 6 none 4 g rv μ' 123 [(0, .ref 5), (1, .ref x1), (2, .int x2), (4, .int s.1)] [] (eX s.2)) Kp (fun s o hb hk => f_X9_build_B123_ok (Kp := jsum (fun s => J yX9_build cX9_build 6 none 4 g rv μ' 123 [(0, .ref 5), (1, .ref x1), (2, .int x2), (4, .int s.1)] [] (eX s.2)) Kp) s.2 x1 x2 s.1 hn (fun r s q => hr r s q) (fun s q => q) o hb hk) jFuel _ _ h hK
def f_X9_build_J114 (σ : jS) (x1 : Nat) (x2 : Int32) (x4 : Int32) : Option ((Int32 × jS) ⊕ (Unit × jS)) :=
  bV (x4 + 1) fun v40 =>
  some (.inl (v40, σ))
set_option maxHeartbeats 1000000 in
set_option maxRecDepth 20000 in
theorem f_X9_build_J114_ok {g : Bool} {rv : Option Value} {μ' : jM} (σ : jS) (x1 : Nat) (x2 : Int32) (x4 : Int32) {Kp : ((Int32 × jS) ⊕ (Unit × jS)) → Prop} (hn : Nat.ble nX μ'.1 = true ∧ Nat.ble wX μ'.2.1 = true) (hr : ∀ (r : Unit) (s : jS), Kp (.inr ((r, s))) → rv = none ∧ μ' = eX s) (hc0 : ∀ s : (Int32 × jS), Kp (.inl s) → J yX9_build cX9_build 6 none 4 g rv μ' 57 [(0, .ref 5), (1, .ref x1), (2, .int x2), (4, .int s.1)] [] (eX s.2)) (o : ((Int32 × jS) ⊕ (Unit × jS))) (h : f_X9_build_J114 σ x1 x2 x4 = some o) (hK : Kp o) : J yX9_build cX9_build 6 none 4 g rv μ' 114 [(0, .ref 5), (1, .ref x1), (2, .int x2), (4, .int x4)] [] (eX σ) := by
  unfold f_X9_build_J114 at h
  replace h := bV_inv h
  obtain ⟨v41, ev41, h⟩ := h
  refine j_iinc (v := v41) [(4, .int v41), (0, .ref 5), (1, .ref x1), (2, .int x2)] 3 dX9_build_114 rfl (by rw [ev41]; rfl) (Nat.le_of_ble_eq_true rfl) rfl ?_
  refine j_goto 57 dX9_build_117 (by decide) ?_
  replace h := Option.some.inj h
  subst h
  refine j_sub [(0, .ref 5), (1, .ref x1), (2, .int x2), (4, .int v41)] [1, 2, 3, 0] rfl ?_
  exact hc0 _ hK
def f_X9_build_B57 (σ : jS) (x1 : Nat) (x2 : Int32) (x4 : Int32) : Option ((Int32 × jS) ⊕ (Unit × jS)) :=
  if 40 ≤ x4 then (jw (f_X9_build_J120 σ x1 x2))
  else (bH [51, 61] x1 (
  if (gI σ x1 7) ≤ x4 then (bD (f_X9_setSpot σ ((16 : Int32) + x4) (-1) (-1)) fun r38 σ39 =>
  f_X9_build_J114 σ39 x1 x2 x4)
  else (bC (f_X6_at σ (rPX x1 1) x4) fun r42 =>
  bC (f_X6_at σ (rPX x1 2) x4) fun r43 =>
  bD (f_X9_setSpot σ ((16 : Int32) + x4) r42 r43) fun r44 σ45 =>
  f_X9_build_J114 σ45 x1 x2 x4)))
set_option maxHeartbeats 1000000 in
set_option maxRecDepth 20000 in
theorem f_X9_build_B57_ok {g : Bool} {rv : Option Value} {μ' : jM} (σ : jS) (x1 : Nat) (x2 : Int32) (x4 : Int32) {Kp : ((Int32 × jS) ⊕ (Unit × jS)) → Prop} (hn : Nat.ble nX μ'.1 = true ∧ Nat.ble wX μ'.2.1 = true) (hr : ∀ (r : Unit) (s : jS), Kp (.inr ((r, s))) → rv = none ∧ μ' = eX s) (hc0 : ∀ s : (Int32 × jS), Kp (.inl s) → J yX9_build cX9_build 6 none 4 g rv μ' 57 [(0, .ref 5), (1, .ref x1), (2, .int x2), (4, .int s.1)] [] (eX s.2)) (o : ((Int32 × jS) ⊕ (Unit × jS))) (h : f_X9_build_B57 σ x1 x2 x4 = some o) (hK : Kp o) : J yX9_build cX9_build 6 none 4 g rv μ' 57 [(0, .ref 5), (1, .ref x1), (2, .int x2), (4, .int x4)] [] (eX σ) := by
  unfold f_X9_build_B57 at h
  refine j_iload 3 dX9_build_57 rfl ?_
  refine j_bipush (v := 40) dX9_build_59 (by decide) ?_
  refine j_icmp_ge 120 dX9_build_61 (by decide) (fun hc46 => ?_) (fun hc46 => ?_)
  · replace h := jif_t hc46 h
    replace h := jw_inv h
    obtain ⟨o47, rfl, h⟩ := h
    refine j_sub [(0, .ref 5), (1, .ref x1), (2, .int x2)] [0, 1, 2] rfl ?_
    exact f_X9_build_J120_ok (Kp := fun o => Kp (.inr (o))) σ x1 x2 hn (fun r s q => hr r s q) _ h hK
  · replace h := jif_f hc46 h
    refine j_iload 3 dX9_build_64 rfl ?_
    refine j_aload_n 1 dX9_build_66 rfl rfl ?_
    replace h := bH_inv h
    obtain ⟨hm48, h⟩ := h
    simp only [List.mem_cons, List.not_mem_nil, or_false] at hm48
    rcases hm48 with rfl | rfl
    · skip
      refine j_get (ci := 7) 7 (.int (gI σ 51 7)) jC_7 dX9_build_67 kg_RX9_42 rfl (okX_51 _) (shX_51 _) (fvX_51_7 _) ?_
      refine j_icmp_ge 103 dX9_build_70 (by decide) (fun hc49 => ?_) (fun hc49 => ?_)
      · replace h := jif_t hc49 h
        refine j_aload_n 0 dX9_build_103 rfl rfl ?_
        refine j_bipush (v := 16) dX9_build_104 (by decide) ?_
        refine j_iload 3 dX9_build_106 rfl ?_
        refine j_iadd dX9_build_108 ?_
        refine j_iconst (v := (-1)) dX9_build_109 (by decide) ?_
        refine j_iconst (v := (-1)) dX9_build_110 (by decide) ?_
        replace h := bD_inv h
        obtain ⟨r50, σ51, cr50, h⟩ := h
        refine j_callV (ci := 8) (st1 := _) (c_X9_setSpot g cr50) jy_X9_setSpot ki_yX9_setSpot ks_yX9_setSpot kl_RX9_38 dX9_build_111 rfl (okX_5 _) (shX_5 _) rfl rfl rfl rfl (jbr _) (jbr _) hn.1 hn.2 (Or.inr rfl) rfl ?_
        exact f_X9_build_J114_ok σ51 51 x2 x4 hn hr hc0 _ h hK
      · replace h := jif_f hc49 h
        refine j_aload_n 0 dX9_build_73 rfl rfl ?_
        refine j_bipush (v := 16) dX9_build_74 (by decide) ?_
        refine j_iload 3 dX9_build_76 rfl ?_
        refine j_iadd dX9_build_78 ?_
        refine j_aload_n 1 dX9_build_79 rfl rfl ?_
        refine j_get (ci := 7) 1 (.ref 53) jC_7 dX9_build_80 kg_RX9_48 rfl (okX_51 _) (shX_51 _) (fvX_51_1 _) ?_
        refine j_iload 3 dX9_build_83 rfl ?_
        replace h := bC_inv h
        obtain ⟨r52, cr52, h⟩ := h
        refine j_callS (st1 := .int r52 :: _) (c_X6_at g cr52) jy_X6_at kt_yX6_at kl_RX9_51 dX9_build_85 rfl rfl rfl rfl (jbr _) (jbr _) hn.1 hn.2 (Or.inr rfl) rfl ?_
        refine j_aload_n 1 dX9_build_88 rfl rfl ?_
        refine j_get (ci := 7) 2 (.ref 54) jC_7 dX9_build_89 kg_RX9_55 rfl (okX_51 _) (shX_51 _) (fvX_51_2 _) ?_
        refine j_iload 3 dX9_build_92 rfl ?_
        replace h := bC_inv h
        obtain ⟨r53, cr53, h⟩ := h
        refine j_callS (st1 := .int r53 :: _) (c_X6_at g cr53) jy_X6_at kt_yX6_at kl_RX9_51 dX9_build_94 rfl rfl rfl rfl (jbr _) (jbr _) hn.1 hn.2 (Or.inr rfl) rfl ?_
        replace h := bD_inv h
        obtain ⟨r54, σ55, cr54, h⟩ := h
        refine j_callV (ci := 8) (st1 := _) (c_X9_setSpot g cr54) jy_X9_setSpot ki_yX9_setSpot ks_yX9_setSpot kl_RX9_38 dX9_build_97 rfl (okX_5 _) (shX_5 _) rfl rfl rfl rfl (jbr _) (jbr _) hn.1 hn.2 (Or.inr rfl) rfl ?_
        refine j_goto 114 dX9_build_100 (by decide) ?_
        exact f_X9_build_J114_ok σ55 51 x2 x4 hn hr hc0 _ h hK
    · skip
      refine j_get (ci := 7) 7 (.int (gI σ 61 7)) jC_7 dX9_build_67 kg_RX9_42 rfl (okX_61 _) (shX_61 _) (fvX_61_7 _) ?_
      refine j_icmp_ge 103 dX9_build_70 (by decide) (fun hc56 => ?_) (fun hc56 => ?_)
      · replace h := jif_t hc56 h
        refine j_aload_n 0 dX9_build_103 rfl rfl ?_
        refine j_bipush (v := 16) dX9_build_104 (by decide) ?_
        refine j_iload 3 dX9_build_106 rfl ?_
        refine j_iadd dX9_build_108 ?_
        refine j_iconst (v := (-1)) dX9_build_109 (by decide) ?_
        refine j_iconst (v := (-1)) dX9_build_110 (by decide) ?_
        replace h := bD_inv h
        obtain ⟨r57, σ58, cr57, h⟩ := h
        refine j_callV (ci := 8) (st1 := _) (c_X9_setSpot g cr57) jy_X9_setSpot ki_yX9_setSpot ks_yX9_setSpot kl_RX9_38 dX9_build_111 rfl (okX_5 _) (shX_5 _) rfl rfl rfl rfl (jbr _) (jbr _) hn.1 hn.2 (Or.inr rfl) rfl ?_
        exact f_X9_build_J114_ok σ58 61 x2 x4 hn hr hc0 _ h hK
      · replace h := jif_f hc56 h
        refine j_aload_n 0 dX9_build_73 rfl rfl ?_
        refine j_bipush (v := 16) dX9_build_74 (by decide) ?_
        refine j_iload 3 dX9_build_76 rfl ?_
        refine j_iadd dX9_build_78 ?_
        refine j_aload_n 1 dX9_build_79 rfl rfl ?_
        refine j_get (ci := 7) 1 (.ref 63) jC_7 dX9_build_80 kg_RX9_48 rfl (okX_61 _) (shX_61 _) (fvX_61_1 _) ?_
        refine j_iload 3 dX9_build_83 rfl ?_
        replace h := bC_inv h
        obtain ⟨r59, cr59, h⟩ := h
        refine j_callS (st1 := .int r59 :: _) (c_X6_at g cr59) jy_X6_at kt_yX6_at kl_RX9_51 dX9_build_85 rfl rfl rfl rfl (jbr _) (jbr _) hn.1 hn.2 (Or.inr rfl) rfl ?_
        refine j_aload_n 1 dX9_build_88 rfl rfl ?_
        refine j_get (ci := 7) 2 (.ref 64) jC_7 dX9_build_89 kg_RX9_55 rfl (okX_61 _) (shX_61 _) (fvX_61_2 _) ?_
        refine j_iload 3 dX9_build_92 rfl ?_
        replace h := bC_inv h
        obtain ⟨r60, cr60, h⟩ := h
        refine j_callS (st1 := .int r60 :: _) (c_X6_at g cr60) jy_X6_at kt_yX6_at kl_RX9_51 dX9_build_94 rfl rfl rfl rfl (jbr _) (jbr _) hn.1 hn.2 (Or.inr rfl) rfl ?_
        replace h := bD_inv h
        obtain ⟨r61, σ62, cr61, h⟩ := h
        refine j_callV (ci := 8) (st1 := _) (c_X9_setSpot g cr61) jy_X9_setSpot ki_yX9_setSpot ks_yX9_setSpot kl_RX9_38 dX9_build_97 rfl (okX_5 _) (shX_5 _) rfl rfl rfl rfl (jbr _) (jbr _) hn.1 hn.2 (Or.inr rfl) rfl ?_
        refine j_goto 114 dX9_build_100 (by decide) ?_
        exact f_X9_build_J114_ok σ62 61 x2 x4 hn hr hc0 _ h hK
def f_X9_build_J54 (σ : jS) (x1 : Nat) (x2 : Int32) : Option (Unit × jS) :=
  jloop jFuel (fun s => f_X9_build_B57 s.2 x1 x2 s.1) (0, σ)
set_option maxHeartbeats 1000000 in
set_option maxRecDepth 20000 in
theorem f_X9_build_J54_ok {g : Bool} {rv : Option Value} {μ' : jM} (σ : jS) (x1 : Nat) (x2 : Int32) {Kp : (Unit × jS) → Prop} (hn : Nat.ble nX μ'.1 = true ∧ Nat.ble wX μ'.2.1 = true) (hr : ∀ (r : Unit) (s : jS), Kp ((r, s)) → rv = none ∧ μ' = eX s) (o : (Unit × jS)) (h : f_X9_build_J54 σ x1 x2 = some o) (hK : Kp o) : J yX9_build cX9_build 6 none 4 g rv μ' 54 [(0, .ref 5), (1, .ref x1), (2, .int x2)] [] (eX σ) := by
  unfold f_X9_build_J54 at h
  refine j_iconst (v := 0) dX9_build_54 (by decide) ?_
  refine j_istore [(4, .int 0), (0, .ref 5), (1, .ref x1), (2, .int x2)] dX9_build_55 (Nat.le_of_ble_eq_true rfl) rfl ?_
  refine j_sub [(0, .ref 5), (1, .ref x1), (2, .int x2), (4, .int 0)] [1, 2, 3, 0] rfl ?_
  exact jloop_ok (fun s => f_X9_build_B57 s.2 x1 x2 s.1) (fun s => J yX9_build cX9_build 6 none 4 g rv μ' 57 [(0, .ref 5), (1, .ref x1), (2, .int x2), (4, .int s.1)] [] (eX s.2)) Kp (fun s o hb hk => f_X9_build_B57_ok (Kp := jsum (fun s => J yX9_build cX9_build 6 none 4 g rv μ' 57 [(0, .ref 5), (1, .ref x1), (2, .int x2), (4, .int s.1)] [] (eX s.2)) Kp) s.2 x1 x2 s.1 hn (fun r s q => hr r s q) (fun s q => q) o hb hk) jFuel _ _ h hK
def f_X9_build_B32 (σ : jS) (x1 : Nat) (x2 : Int32) (x4 : Int32) : Option ((Int32 × jS) ⊕ (Unit × jS)) :=
  if 16 ≤ x4 then (jw (f_X9_build_J54 σ x1 x2))
  else (bD (f_X9_setSpot σ x4 x4 (-1)) fun r63 σ64 =>
  bV (x4 + 1) fun v65 =>
  some (.inl (v65, σ64)))
set_option maxHeartbeats 1000000 in
set_option maxRecDepth 20000 in
theorem f_X9_build_B32_ok {g : Bool} {rv : Option Value} {μ' : jM} (σ : jS) (x1 : Nat) (x2 : Int32) (x4 : Int32) {Kp : ((Int32 × jS) ⊕ (Unit × jS)) → Prop} (hn : Nat.ble nX μ'.1 = true ∧ Nat.ble wX μ'.2.1 = true) (hr : ∀ (r : Unit) (s : jS), Kp (.inr ((r, s))) → rv = none ∧ μ' = eX s) (hc0 : ∀ s : (Int32 × jS), Kp (.inl s) → J yX9_build cX9_build 6 none 4 g rv μ' 32 [(0, .ref 5), (1, .ref x1), (2, .int x2), (4, .int s.1)] [] (eX s.2)) (o : ((Int32 × jS) ⊕ (Unit × jS))) (h : f_X9_build_B32 σ x1 x2 x4 = some o) (hK : Kp o) : J yX9_build cX9_build 6 none 4 g rv μ' 32 [(0, .ref 5), (1, .ref x1), (2, .int x2), (4, .int x4)] [] (eX σ) := by
  unfold f_X9_build_B32 at h
  refine j_iload 3 dX9_build_32 rfl ?_
  refine j_bipush (v := 16) dX9_build_34 (by decide) ?_
  refine j_icmp_ge 54 dX9_build_36 (by decide) (fun hc66 => ?_) (fun hc66 => ?_)
  · replace h := jif_t hc66 h
    replace h := jw_inv h
    obtain ⟨o67, rfl, h⟩ := h
    refine j_sub [(0, .ref 5), (1, .ref x1), (2, .int x2)] [0, 1, 2] rfl ?_
    exact f_X9_build_J54_ok (Kp := fun o => Kp (.inr (o))) σ x1 x2 hn (fun r s q => hr r s q) _ h hK
  · replace h := jif_f hc66 h
    refine j_aload_n 0 dX9_build_39 rfl rfl ?_
    refine j_iload 3 dX9_build_40 rfl ?_
    refine j_iload 3 dX9_build_42 rfl ?_
    refine j_iconst (v := (-1)) dX9_build_44 (by decide) ?_
    replace h := bD_inv h
    obtain ⟨r68, σ69, cr68, h⟩ := h
    refine j_callV (ci := 8) (st1 := _) (c_X9_setSpot g cr68) jy_X9_setSpot ki_yX9_setSpot ks_yX9_setSpot kl_RX9_38 dX9_build_45 rfl (okX_5 _) (shX_5 _) rfl rfl rfl rfl (jbr _) (jbr _) hn.1 hn.2 (Or.inr rfl) rfl ?_
    replace h := bV_inv h
    obtain ⟨v70, ev70, h⟩ := h
    refine j_iinc (v := v70) [(4, .int v70), (0, .ref 5), (1, .ref x1), (2, .int x2)] 3 dX9_build_48 rfl (by rw [ev70]; rfl) (Nat.le_of_ble_eq_true rfl) rfl ?_
    refine j_goto 32 dX9_build_51 (by decide) ?_
    replace h := Option.some.inj h
    subst h
    refine j_sub [(0, .ref 5), (1, .ref x1), (2, .int x2), (4, .int v70)] [1, 2, 3, 0] rfl ?_
    exact hc0 _ hK
def f_X9_build (σ : jS) (x1 : Nat) (x2 : Int32) (x3 : Int32) : Option (Unit × jS) :=
  bG (jb x3) (
  bV (sI σ 5 5 x3) fun σ1 =>
  bD (f_X6_fill_ σ1 8 0) fun r2 σ3 =>
  bD (f_X6_fill_ σ3 9 0) fun r4 σ5 =>
  bD (f_X6_fill_ σ5 10 0) fun r6 σ7 =>
  jloop jFuel (fun s => f_X9_build_B32 s.2 x1 x2 s.1) (0, σ7))
set_option maxHeartbeats 1000000 in
set_option maxRecDepth 20000 in
theorem f_X9_build_ok {g : Bool} {rv : Option Value} {μ' : jM} (σ : jS) (x1 : Nat) (x2 : Int32) (x3 : Int32) {Kp : (Unit × jS) → Prop} (hn : Nat.ble nX μ'.1 = true ∧ Nat.ble wX μ'.2.1 = true) (hr : ∀ (r : Unit) (s : jS), Kp ((r, s)) → rv = none ∧ μ' = eX s) (o : (Unit × jS)) (h : f_X9_build σ x1 x2 x3 = some o) (hK : Kp o) : J yX9_build cX9_build 6 none 4 g rv μ' 0 [(0, .ref 5), (1, .ref x1), (2, .int x2), (3, .int x3)] [] (eX σ) := by
  unfold f_X9_build at h
  refine j_aload_n 0 dX9_build_0 rfl rfl ?_
  refine j_iload_n 3 dX9_build_1 rfl rfl ?_
  replace h := bG_inv h
  obtain ⟨hb71, h⟩ := h
  replace h := bV_inv h
  obtain ⟨σ72, eσ72, h⟩ := h
  refine j_putI 5 jC_8 dX9_build_2 kg_RX9_28 (Or.inl ff_8_5) rfl fk_8_5 (fn_8_5 hb71) (okX_5 _) (shX_5 _) ?_
  refine j_mem (congrArg eX eσ72) ?_
  refine j_aload_n 0 dX9_build_5 rfl rfl ?_
  refine j_get (ci := 8) 2 (.ref 8) jC_8 dX9_build_6 kg_RX9_18 rfl (okX_5 _) (shX_5 _) (fvX_5_2 _) ?_
  refine j_lconst (v := 0) dX9_build_9 (by decide) ?_
  replace h := bD_inv h
  obtain ⟨r73, σ74, cr73, h⟩ := h
  refine j_callS (st1 := _) (c_X6_fill_ g cr73) jy_X6_fill_ kt_yX6_fill_ kl_RX9_32 dX9_build_10 rfl rfl rfl rfl (jbr _) (jbr _) hn.1 hn.2 (Or.inr rfl) rfl ?_
  refine j_aload_n 0 dX9_build_13 rfl rfl ?_
  refine j_get (ci := 8) 3 (.ref 9) jC_8 dX9_build_14 kg_RX9_22 rfl (okX_5 _) (shX_5 _) (fvX_5_3 _) ?_
  refine j_lconst (v := 0) dX9_build_17 (by decide) ?_
  replace h := bD_inv h
  obtain ⟨r75, σ76, cr75, h⟩ := h
  refine j_callS (st1 := _) (c_X6_fill_ g cr75) jy_X6_fill_ kt_yX6_fill_ kl_RX9_32 dX9_build_18 rfl rfl rfl rfl (jbr _) (jbr _) hn.1 hn.2 (Or.inr rfl) rfl ?_
  refine j_aload_n 0 dX9_build_21 rfl rfl ?_
  refine j_get (ci := 8) 4 (.ref 10) jC_8 dX9_build_22 kg_RX9_25 rfl (okX_5 _) (shX_5 _) (fvX_5_4 _) ?_
  refine j_lconst (v := 0) dX9_build_25 (by decide) ?_
  replace h := bD_inv h
  obtain ⟨r77, σ78, cr77, h⟩ := h
  refine j_callS (st1 := _) (c_X6_fill_ g cr77) jy_X6_fill_ kt_yX6_fill_ kl_RX9_32 dX9_build_26 rfl rfl rfl rfl (jbr _) (jbr _) hn.1 hn.2 (Or.inr rfl) rfl ?_
  refine j_iconst (v := 0) dX9_build_29 (by decide) ?_
  refine j_istore [(4, .int 0), (0, .ref 5), (1, .ref x1), (2, .int x2), (3, .int x3)] dX9_build_30 (Nat.le_of_ble_eq_true rfl) rfl ?_
  refine j_sub [(0, .ref 5), (1, .ref x1), (2, .int x2), (4, .int 0)] [1, 2, 3, 0] rfl ?_
  exact jloop_ok (fun s => f_X9_build_B32 s.2 x1 x2 s.1) (fun s => J yX9_build cX9_build 6 none 4 g rv μ' 32 [(0, .ref 5), (1, .ref x1), (2, .int x2), (4, .int s.1)] [] (eX s.2)) Kp (fun s o hb hk => f_X9_build_B32_ok (Kp := jsum (fun s => J yX9_build cX9_build 6 none 4 g rv μ' 32 [(0, .ref 5), (1, .ref x1), (2, .int x2), (4, .int s.1)] [] (eX s.2)) Kp) s.2 x1 x2 s.1 hn (fun r s q => hr r s q) (fun s q => q) o hb hk) jFuel _ _ h hK
theorem c_X9_build (g : Bool) {σ : jS} {x1 : Nat} {x2 : Int32} {x3 : Int32} {r : Unit} {σ2 : jS} (h : f_X9_build σ x1 x2 x3 = some (r, σ2)) : Cn yX9_build cX9_build 6 none 4 g [.ref 5, .ref x1, .int x2, .int x3] (eX σ) none (eX σ2) :=
  Cn_of (by decide) (Nat.le_refl _) (Nat.le_refl _) (Nat.le_of_ble_eq_true rfl) (f_X9_build_ok (Kp := (fun o => o = (r, σ2))) σ x1 x2 x3 ⟨jbr _, jbr _⟩ (fun r2 s2 q => by cases q; exact ⟨rfl, rfl⟩) _ h rfl)
def f_X10_settle_J33 (σ : jS) (y0 : Int32) (y1 : Int32) (y2 : Nat) : Option (Unit × jS) :=
  bD (f_X9_build σ y2 y1 y0) fun r2 σ3 =>
  bD (f_X0_takeFoes σ3 32) fun r4 σ5 =>
  some (((), σ5))
set_option maxHeartbeats 1000000 in
set_option maxRecDepth 20000 in
theorem f_X10_settle_J33_ok {g : Bool} {rv : Option Value} {μ' : jM} (σ : jS) (y0 : Int32) (y1 : Int32) (y2 : Nat) {Kp : (Unit × jS) → Prop} (hn : Nat.ble nX μ'.1 = true ∧ Nat.ble wX μ'.2.1 = true) (hr : ∀ (r : Unit) (s : jS), Kp ((r, s)) → rv = none ∧ μ' = eX s) (o : (Unit × jS)) (h : f_X10_settle_J33 σ y0 y1 y2 = some o) (hK : Kp o) : J yX10_settle cX10_settle 1 none 5 g rv μ' 33 [(0, .ref 1)] [.int y0, .int y1, .ref y2, .ref 5] (eX σ) := by
  unfold f_X10_settle_J33 at h
  replace h := bD_inv h
  obtain ⟨r6, σ7, cr6, h⟩ := h
  refine j_callV (ci := 8) (st1 := _) (c_X9_build g cr6) jy_X9_build ki_yX9_build ks_yX9_build kl_RX10_311 dX10_settle_33 rfl (okX_5 _) (shX_5 _) rfl rfl rfl rfl (jbr _) (jbr _) hn.1 hn.2 (Or.inr rfl) rfl ?_
  refine j_aload_n 0 dX10_settle_36 rfl rfl ?_
  refine j_get (ci := 9) 1 (.ref 4) jC_9 dX10_settle_37 kg_RX10_19 rfl (okX_1 _) (shX_1 _) (fvX_1_1 _) ?_
  refine j_aload_n 0 dX10_settle_40 rfl rfl ?_
  refine j_get (ci := 9) 5 (.ref 29) jC_9 dX10_settle_41 kg_RX10_47 rfl (okX_1 _) (shX_1 _) (fvX_1_5 _) ?_
  refine j_get (ci := 6) 2 (.ref 32) jC_6 dX10_settle_44 kg_RX10_83 rfl (okX_29 _) (shX_29 _) (fvX_29_2 _) ?_
  replace h := bD_inv h
  obtain ⟨r8, σ9, cr8, h⟩ := h
  refine j_callV (ci := 0) (st1 := _) (c_X0_takeFoes g cr8) jy_X0_takeFoes ki_yX0_takeFoes ks_yX0_takeFoes kl_RX10_317 dX10_settle_47 rfl (okX_4 _) (shX_4 _) rfl rfl rfl rfl (jbr _) (jbr _) hn.1 hn.2 (Or.inr rfl) rfl ?_
  replace h := Option.some.inj h
  subst h
  obtain ⟨hr1, hr2⟩ := hr _ _ hK
  exact j_vret dX10_settle_50 hr1 hr2
def f_X10_settle (σ : jS) : Option (Unit × jS) :=
  bV (σ.2.2.1) fun t1 =>
  if (gI σ 29 4) = 0 then (f_X10_settle_J33 σ 0 (gI σ 29 3) t1)
  else (f_X10_settle_J33 σ 1 (gI σ 29 3) t1)
set_option maxHeartbeats 1000000 in
set_option maxRecDepth 20000 in
theorem f_X10_settle_ok {g : Bool} {rv : Option Value} {μ' : jM} (σ : jS) {Kp : (Unit × jS) → Prop} (hn : Nat.ble nX μ'.1 = true ∧ Nat.ble wX μ'.2.1 = true) (hr : ∀ (r : Unit) (s : jS), Kp ((r, s)) → rv = none ∧ μ' = eX s) (o : (Unit × jS)) (h : f_X10_settle σ = some o) (hK : Kp o) : J yX10_settle cX10_settle 1 none 5 g rv μ' 0 [(0, .ref 1)] [] (eX σ) := by
  unfold f_X10_settle at h
  refine j_aload_n 0 dX10_settle_0 rfl rfl ?_
  refine j_get (ci := 9) 1 (.ref 4) jC_9 dX10_settle_1 kg_RX10_19 rfl (okX_1 _) (shX_1 _) (fvX_1_1 _) ?_
  refine j_get (ci := 0) 0 (.ref 5) jC_0 dX10_settle_4 kg_RX10_307 rfl (okX_4 _) (shX_4 _) (fvX_4_0 _) ?_
  refine j_aload_n 0 dX10_settle_7 rfl rfl ?_
  refine j_get (ci := 9) 7 (.ref (σ.2.2.1)) jC_9 dX10_settle_8 kg_RX10_58 rfl (okX_1 _) (shX_1 _) (fvX_1_7 _) ?_
  replace h := bV_inv h
  obtain ⟨t10, et10, h⟩ := h
  refine j_nmr et10 ?_
  refine j_aload_n 0 dX10_settle_11 rfl rfl ?_
  refine j_get (ci := 9) 5 (.ref 29) jC_9 dX10_settle_12 kg_RX10_47 rfl (okX_1 _) (shX_1 _) (fvX_1_5 _) ?_
  refine j_get (ci := 6) 3 (.int (gI σ 29 3)) jC_6 dX10_settle_15 kg_RX10_178 rfl (okX_29 _) (shX_29 _) (fvX_29_3 _) ?_
  refine j_aload_n 0 dX10_settle_18 rfl rfl ?_
  refine j_get (ci := 9) 5 (.ref 29) jC_9 dX10_settle_19 kg_RX10_47 rfl (okX_1 _) (shX_1 _) (fvX_1_5 _) ?_
  refine j_get (ci := 6) 4 (.int (gI σ 29 4)) jC_6 dX10_settle_22 kg_RX10_181 rfl (okX_29 _) (shX_29 _) (fvX_29_4 _) ?_
  refine j_if_eq 32 dX10_settle_25 (by decide) (fun hc11 => ?_) (fun hc11 => ?_)
  · replace h := jif_t hc11 h
    refine j_iconst (v := 0) dX10_settle_32 (by decide) ?_
    exact f_X10_settle_J33_ok σ 0 (gI σ 29 3) t10 hn hr _ h hK
  · replace h := jif_f hc11 h
    refine j_iconst (v := 1) dX10_settle_28 (by decide) ?_
    refine j_goto 33 dX10_settle_29 (by decide) ?_
    exact f_X10_settle_J33_ok σ 1 (gI σ 29 3) t10 hn hr _ h hK
theorem c_X10_settle (g : Bool) {σ : jS} {r : Unit} {σ2 : jS} (h : f_X10_settle σ = some (r, σ2)) : Cn yX10_settle cX10_settle 1 none 5 g [.ref 1] (eX σ) none (eX σ2) :=
  Cn_of (by decide) (Nat.le_refl _) (Nat.le_refl _) (Nat.le_of_ble_eq_true rfl) (f_X10_settle_ok (Kp := (fun o => o = (r, σ2))) σ ⟨jbr _, jbr _⟩ (fun r2 s2 q => by cases q; exact ⟨rfl, rfl⟩) _ h rfl)
def f_X0_state (x0 : Int32) (x1 : Int32) (x2 : Int32) : Option Int32 :=
  some (((((x0 * (56 : Int32)) + x1) * (2 : Int32)) + x2))
set_option maxHeartbeats 1000000 in
set_option maxRecDepth 20000 in
theorem f_X0_state_ok {g : Bool} {rv : Option Value} {μ' : jM} (x0 : Int32) (x1 : Int32) (x2 : Int32) (μ : jM) {Kp : Int32 → Prop} (hn : Nat.ble μ.1 μ'.1 = true ∧ Nat.ble μ.2.1 μ'.2.1 = true) (hr : ∀ r : Int32, Kp (r) → rv = some (.int r) ∧ μ' = μ) (o : Int32) (h : f_X0_state x0 x1 x2 = some o) (hK : Kp o) : J yX0_state cX0_state 3 (some .int) 1 g rv μ' 0 [(0, .int x0), (1, .int x1), (2, .int x2)] [] μ := by
  unfold f_X0_state at h
  refine j_iload_n 0 dX0_state_0 rfl rfl ?_
  refine j_bipush (v := 56) dX0_state_1 (by decide) ?_
  refine j_imul dX0_state_3 ?_
  refine j_iload_n 1 dX0_state_4 rfl rfl ?_
  refine j_iadd dX0_state_5 ?_
  refine j_iconst (v := 2) dX0_state_6 (by decide) ?_
  refine j_imul dX0_state_7 ?_
  refine j_iload_n 2 dX0_state_8 rfl rfl ?_
  refine j_iadd dX0_state_9 ?_
  replace h := Option.some.inj h
  subst h
  obtain ⟨hr1, hr2⟩ := hr _ hK
  exact j_iret dX0_state_10 hr1 hr2
theorem c_X0_state (g : Bool) (μ : jM) {x0 : Int32} {x1 : Int32} {x2 : Int32} {r : Int32} (h : f_X0_state x0 x1 x2 = some r) : Cn yX0_state cX0_state 3 (some .int) 1 g [.int x0, .int x1, .int x2] μ (some (.int r)) μ :=
  Cn_of (by decide) (Nat.le_refl _) (Nat.le_refl _) (Nat.le_of_ble_eq_true rfl) (f_X0_state_ok (Kp := (fun o => o = r)) x0 x1 x2 μ ⟨jbr _, jbr _⟩ (fun r2 q => by cases q; exact ⟨rfl, rfl⟩) _ h rfl)
def f_X10_toldHow (σ : jS) (x1 : Int32) : Option Int32 :=
  bV (σ.2.2.1) fun t1 =>
  bH [51, 61] t1 (
  bC (f_X6_at σ (rPX t1 3) x1) fun r2 =>
  bV (σ.2.2.1) fun t3 =>
  bH [51, 61] t3 (
  bC (f_X6_at σ (rPX t3 4) x1) fun r4 =>
  bC (f_X0_state r2 r4 0) fun r5 =>
  some (r5)))
set_option maxHeartbeats 1000000 in
set_option maxRecDepth 20000 in
theorem f_X10_toldHow_ok {g : Bool} {rv : Option Value} {μ' : jM} (σ : jS) (x1 : Int32) {Kp : Int32 → Prop} (hn : Nat.ble nX μ'.1 = true ∧ Nat.ble wX μ'.2.1 = true) (hr : ∀ r : Int32, Kp (r) → rv = some (.int r) ∧ μ' = (eX σ)) (o : Int32) (h : f_X10_toldHow σ x1 = some o) (hK : Kp o) : J yX10_toldHow cX10_toldHow 2 (some .int) 2 g rv μ' 0 [(0, .ref 1), (1, .int x1)] [] (eX σ) := by
  unfold f_X10_toldHow at h
  refine j_aload_n 0 dX10_toldHow_0 rfl rfl ?_
  refine j_get (ci := 9) 7 (.ref (σ.2.2.1)) jC_9 dX10_toldHow_1 kg_RX10_58 rfl (okX_1 _) (shX_1 _) (fvX_1_7 _) ?_
  replace h := bV_inv h
  obtain ⟨t6, et6, h⟩ := h
  refine j_nmr et6 ?_
  replace h := bH_inv h
  obtain ⟨hm7, h⟩ := h
  simp only [List.mem_cons, List.not_mem_nil, or_false] at hm7
  rcases hm7 with rfl | rfl
  · skip
    refine j_get (ci := 7) 3 (.ref 55) jC_7 dX10_toldHow_4 kg_RX10_298 rfl (okX_51 _) (shX_51 _) (fvX_51_3 _) ?_
    refine j_iload_n 1 dX10_toldHow_7 rfl rfl ?_
    replace h := bC_inv h
    obtain ⟨r8, cr8, h⟩ := h
    refine j_callS (st1 := .int r8 :: _) (c_X6_at g cr8) jy_X6_at kt_yX6_at kl_RX10_150 dX10_toldHow_8 rfl rfl rfl rfl (jbr _) (jbr _) hn.1 hn.2 (Or.inr rfl) rfl ?_
    refine j_aload_n 0 dX10_toldHow_11 rfl rfl ?_
    refine j_get (ci := 9) 7 (.ref (σ.2.2.1)) jC_9 dX10_toldHow_12 kg_RX10_58 rfl (okX_1 _) (shX_1 _) (fvX_1_7 _) ?_
    replace h := bV_inv h
    obtain ⟨t9, et9, h⟩ := h
    refine j_nmr et9 ?_
    replace h := bH_inv h
    obtain ⟨hm10, h⟩ := h
    simp only [List.mem_cons, List.not_mem_nil, or_false] at hm10
    rcases hm10 with rfl | rfl
    · skip
      refine j_get (ci := 7) 4 (.ref 56) jC_7 dX10_toldHow_15 kg_RX10_301 rfl (okX_51 _) (shX_51 _) (fvX_51_4 _) ?_
      refine j_iload_n 1 dX10_toldHow_18 rfl rfl ?_
      replace h := bC_inv h
      obtain ⟨r11, cr11, h⟩ := h
      refine j_callS (st1 := .int r11 :: _) (c_X6_at g cr11) jy_X6_at kt_yX6_at kl_RX10_150 dX10_toldHow_19 rfl rfl rfl rfl (jbr _) (jbr _) hn.1 hn.2 (Or.inr rfl) rfl ?_
      refine j_iconst (v := 0) dX10_toldHow_22 (by decide) ?_
      replace h := bC_inv h
      obtain ⟨r12, cr12, h⟩ := h
      refine j_callS (st1 := .int r12 :: _) (c_X0_state g _ cr12) jy_X0_state kt_yX0_state kl_RX10_304 dX10_toldHow_23 rfl rfl rfl rfl (jbr _) (jbr _) hn.1 hn.2 (Or.inr rfl) rfl ?_
      replace h := Option.some.inj h
      subst h
      obtain ⟨hr1, hr2⟩ := hr _ hK
      exact j_iret dX10_toldHow_26 hr1 hr2
    · skip
      refine j_get (ci := 7) 4 (.ref 66) jC_7 dX10_toldHow_15 kg_RX10_301 rfl (okX_61 _) (shX_61 _) (fvX_61_4 _) ?_
      refine j_iload_n 1 dX10_toldHow_18 rfl rfl ?_
      replace h := bC_inv h
      obtain ⟨r13, cr13, h⟩ := h
      refine j_callS (st1 := .int r13 :: _) (c_X6_at g cr13) jy_X6_at kt_yX6_at kl_RX10_150 dX10_toldHow_19 rfl rfl rfl rfl (jbr _) (jbr _) hn.1 hn.2 (Or.inr rfl) rfl ?_
      refine j_iconst (v := 0) dX10_toldHow_22 (by decide) ?_
      replace h := bC_inv h
      obtain ⟨r14, cr14, h⟩ := h
      refine j_callS (st1 := .int r14 :: _) (c_X0_state g _ cr14) jy_X0_state kt_yX0_state kl_RX10_304 dX10_toldHow_23 rfl rfl rfl rfl (jbr _) (jbr _) hn.1 hn.2 (Or.inr rfl) rfl ?_
      replace h := Option.some.inj h
      subst h
      obtain ⟨hr1, hr2⟩ := hr _ hK
      exact j_iret dX10_toldHow_26 hr1 hr2
  · skip
    refine j_get (ci := 7) 3 (.ref 65) jC_7 dX10_toldHow_4 kg_RX10_298 rfl (okX_61 _) (shX_61 _) (fvX_61_3 _) ?_
    refine j_iload_n 1 dX10_toldHow_7 rfl rfl ?_
    replace h := bC_inv h
    obtain ⟨r15, cr15, h⟩ := h
    refine j_callS (st1 := .int r15 :: _) (c_X6_at g cr15) jy_X6_at kt_yX6_at kl_RX10_150 dX10_toldHow_8 rfl rfl rfl rfl (jbr _) (jbr _) hn.1 hn.2 (Or.inr rfl) rfl ?_
    refine j_aload_n 0 dX10_toldHow_11 rfl rfl ?_
    refine j_get (ci := 9) 7 (.ref (σ.2.2.1)) jC_9 dX10_toldHow_12 kg_RX10_58 rfl (okX_1 _) (shX_1 _) (fvX_1_7 _) ?_
    replace h := bV_inv h
    obtain ⟨t16, et16, h⟩ := h
    refine j_nmr et16 ?_
    replace h := bH_inv h
    obtain ⟨hm17, h⟩ := h
    simp only [List.mem_cons, List.not_mem_nil, or_false] at hm17
    rcases hm17 with rfl | rfl
    · skip
      refine j_get (ci := 7) 4 (.ref 56) jC_7 dX10_toldHow_15 kg_RX10_301 rfl (okX_51 _) (shX_51 _) (fvX_51_4 _) ?_
      refine j_iload_n 1 dX10_toldHow_18 rfl rfl ?_
      replace h := bC_inv h
      obtain ⟨r18, cr18, h⟩ := h
      refine j_callS (st1 := .int r18 :: _) (c_X6_at g cr18) jy_X6_at kt_yX6_at kl_RX10_150 dX10_toldHow_19 rfl rfl rfl rfl (jbr _) (jbr _) hn.1 hn.2 (Or.inr rfl) rfl ?_
      refine j_iconst (v := 0) dX10_toldHow_22 (by decide) ?_
      replace h := bC_inv h
      obtain ⟨r19, cr19, h⟩ := h
      refine j_callS (st1 := .int r19 :: _) (c_X0_state g _ cr19) jy_X0_state kt_yX0_state kl_RX10_304 dX10_toldHow_23 rfl rfl rfl rfl (jbr _) (jbr _) hn.1 hn.2 (Or.inr rfl) rfl ?_
      replace h := Option.some.inj h
      subst h
      obtain ⟨hr1, hr2⟩ := hr _ hK
      exact j_iret dX10_toldHow_26 hr1 hr2
    · skip
      refine j_get (ci := 7) 4 (.ref 66) jC_7 dX10_toldHow_15 kg_RX10_301 rfl (okX_61 _) (shX_61 _) (fvX_61_4 _) ?_
      refine j_iload_n 1 dX10_toldHow_18 rfl rfl ?_
      replace h := bC_inv h
      obtain ⟨r20, cr20, h⟩ := h
      refine j_callS (st1 := .int r20 :: _) (c_X6_at g cr20) jy_X6_at kt_yX6_at kl_RX10_150 dX10_toldHow_19 rfl rfl rfl rfl (jbr _) (jbr _) hn.1 hn.2 (Or.inr rfl) rfl ?_
      refine j_iconst (v := 0) dX10_toldHow_22 (by decide) ?_
      replace h := bC_inv h
      obtain ⟨r21, cr21, h⟩ := h
      refine j_callS (st1 := .int r21 :: _) (c_X0_state g _ cr21) jy_X0_state kt_yX0_state kl_RX10_304 dX10_toldHow_23 rfl rfl rfl rfl (jbr _) (jbr _) hn.1 hn.2 (Or.inr rfl) rfl ?_
      replace h := Option.some.inj h
      subst h
      obtain ⟨hr1, hr2⟩ := hr _ hK
      exact j_iret dX10_toldHow_26 hr1 hr2
theorem c_X10_toldHow (g : Bool) {σ : jS} {x1 : Int32} {r : Int32} (h : f_X10_toldHow σ x1 = some r) : Cn yX10_toldHow cX10_toldHow 2 (some .int) 2 g [.ref 1, .int x1] (eX σ) (some (.int r)) (eX σ) :=
  Cn_of (by decide) (Nat.le_refl _) (Nat.le_refl _) (Nat.le_of_ble_eq_true rfl) (f_X10_toldHow_ok (Kp := (fun o => o = r)) σ x1 ⟨jbr _, jbr _⟩ (fun r2 q => by cases q; exact ⟨rfl, rfl⟩) _ h rfl)
def f_X1_take (σ : jS) (x0 : Nat) (x1 : Nat) : Option (Unit × jS) :=
  bH [32, 40, 47, 57, 67] x1 (
  bH [32, 40, 47, 57, 67] x0 (
  bV (sI σ x0 3 (gI σ x1 3)) fun σ1 =>
  bD (f_X6_copy σ1 (rPX x1 0) (rPX x0 0) (gI σ1 x0 3)) fun r2 σ3 =>
  bD (f_X6_copy σ3 (rPX x1 1) (rPX x0 1) (gI σ3 x0 3)) fun r4 σ5 =>
  bD (f_X6_copy σ5 (rPX x1 2) (rPX x0 2) 16) fun r6 σ7 =>
  some (((), σ7))))
set_option maxHeartbeats 1000000 in
set_option maxRecDepth 20000 in
theorem f_X1_take_ok {g : Bool} {rv : Option Value} {μ' : jM} (σ : jS) (x0 : Nat) (x1 : Nat) {Kp : (Unit × jS) → Prop} (hn : Nat.ble nX μ'.1 = true ∧ Nat.ble wX μ'.2.1 = true) (hr : ∀ (r : Unit) (s : jS), Kp ((r, s)) → rv = none ∧ μ' = eX s) (o : (Unit × jS)) (h : f_X1_take σ x0 x1 = some o) (hK : Kp o) : J yX1_take cX1_take 2 none 3 g rv μ' 0 [(0, .ref x0), (1, .ref x1)] [] (eX σ) := by
  unfold f_X1_take at h
  refine j_aload_n 0 dX1_take_0 rfl rfl ?_
  refine j_aload_n 1 dX1_take_1 rfl rfl ?_
  replace h := bH_inv h
  obtain ⟨hm8, h⟩ := h
  simp only [List.mem_cons, List.not_mem_nil, or_false] at hm8
  rcases hm8 with rfl | rfl | rfl | rfl | rfl
  · skip
    refine j_get (ci := 1) 3 (.int (gI σ 32 3)) jC_1 dX1_take_2 kg_RX1_21 rfl (okX_32 _) (shX_32 _) (fvX_32_3 _) ?_
    replace h := bH_inv h
    obtain ⟨hm9, h⟩ := h
    simp only [List.mem_cons, List.not_mem_nil, or_false] at hm9
    rcases hm9 with rfl | rfl | rfl | rfl | rfl
    · skip
      replace h := bV_inv h
      obtain ⟨σ10, eσ10, h⟩ := h
      refine j_putI 3 jC_1 dX1_take_5 kg_RX1_21 (Or.inl ff_1_3) rfl fk_1_3 (fn_1_3 _) (okX_32 _) (shX_32 _) ?_
      refine j_mem (congrArg eX eσ10) ?_
      refine j_aload_n 1 dX1_take_8 rfl rfl ?_
      refine j_get (ci := 1) 0 (.ref 33) jC_1 dX1_take_9 kg_RX1_9 rfl (okX_32 _) (shX_32 _) (fvX_32_0 _) ?_
      refine j_aload_n 0 dX1_take_12 rfl rfl ?_
      refine j_get (ci := 1) 0 (.ref 33) jC_1 dX1_take_13 kg_RX1_9 rfl (okX_32 _) (shX_32 _) (fvX_32_0 _) ?_
      refine j_aload_n 0 dX1_take_16 rfl rfl ?_
      refine j_get (ci := 1) 3 (.int (gI σ10 32 3)) jC_1 dX1_take_17 kg_RX1_21 rfl (okX_32 _) (shX_32 _) (fvX_32_3 _) ?_
      replace h := bD_inv h
      obtain ⟨r11, σ12, cr11, h⟩ := h
      refine j_callS (st1 := _) (c_X6_copy g cr11) jy_X6_copy kt_yX6_copy kl_RX1_42 dX1_take_20 rfl rfl rfl rfl (jbr _) (jbr _) hn.1 hn.2 (Or.inr rfl) rfl ?_
      refine j_aload_n 1 dX1_take_23 rfl rfl ?_
      refine j_get (ci := 1) 1 (.ref 34) jC_1 dX1_take_24 kg_RX1_15 rfl (okX_32 _) (shX_32 _) (fvX_32_1 _) ?_
      refine j_aload_n 0 dX1_take_27 rfl rfl ?_
      refine j_get (ci := 1) 1 (.ref 34) jC_1 dX1_take_28 kg_RX1_15 rfl (okX_32 _) (shX_32 _) (fvX_32_1 _) ?_
      refine j_aload_n 0 dX1_take_31 rfl rfl ?_
      refine j_get (ci := 1) 3 (.int (gI σ12 32 3)) jC_1 dX1_take_32 kg_RX1_21 rfl (okX_32 _) (shX_32 _) (fvX_32_3 _) ?_
      replace h := bD_inv h
      obtain ⟨r13, σ14, cr13, h⟩ := h
      refine j_callS (st1 := _) (c_X6_copy g cr13) jy_X6_copy kt_yX6_copy kl_RX1_42 dX1_take_35 rfl rfl rfl rfl (jbr _) (jbr _) hn.1 hn.2 (Or.inr rfl) rfl ?_
      refine j_aload_n 1 dX1_take_38 rfl rfl ?_
      refine j_get (ci := 1) 2 (.ref 35) jC_1 dX1_take_39 kg_RX1_18 rfl (okX_32 _) (shX_32 _) (fvX_32_2 _) ?_
      refine j_aload_n 0 dX1_take_42 rfl rfl ?_
      refine j_get (ci := 1) 2 (.ref 35) jC_1 dX1_take_43 kg_RX1_18 rfl (okX_32 _) (shX_32 _) (fvX_32_2 _) ?_
      refine j_bipush (v := 16) dX1_take_46 (by decide) ?_
      replace h := bD_inv h
      obtain ⟨r15, σ16, cr15, h⟩ := h
      refine j_callS (st1 := _) (c_X6_copy g cr15) jy_X6_copy kt_yX6_copy kl_RX1_42 dX1_take_48 rfl rfl rfl rfl (jbr _) (jbr _) hn.1 hn.2 (Or.inr rfl) rfl ?_
      replace h := Option.some.inj h
      subst h
      obtain ⟨hr1, hr2⟩ := hr _ _ hK
      exact j_vret dX1_take_51 hr1 hr2
    · skip
      replace h := bV_inv h
      obtain ⟨σ17, eσ17, h⟩ := h
      refine j_putI 3 jC_1 dX1_take_5 kg_RX1_21 (Or.inl ff_1_3) rfl fk_1_3 (fn_1_3 _) (okX_40 _) (shX_40 _) ?_
      refine j_mem (congrArg eX eσ17) ?_
      refine j_aload_n 1 dX1_take_8 rfl rfl ?_
      refine j_get (ci := 1) 0 (.ref 33) jC_1 dX1_take_9 kg_RX1_9 rfl (okX_32 _) (shX_32 _) (fvX_32_0 _) ?_
      refine j_aload_n 0 dX1_take_12 rfl rfl ?_
      refine j_get (ci := 1) 0 (.ref 41) jC_1 dX1_take_13 kg_RX1_9 rfl (okX_40 _) (shX_40 _) (fvX_40_0 _) ?_
      refine j_aload_n 0 dX1_take_16 rfl rfl ?_
      refine j_get (ci := 1) 3 (.int (gI σ17 40 3)) jC_1 dX1_take_17 kg_RX1_21 rfl (okX_40 _) (shX_40 _) (fvX_40_3 _) ?_
      replace h := bD_inv h
      obtain ⟨r18, σ19, cr18, h⟩ := h
      refine j_callS (st1 := _) (c_X6_copy g cr18) jy_X6_copy kt_yX6_copy kl_RX1_42 dX1_take_20 rfl rfl rfl rfl (jbr _) (jbr _) hn.1 hn.2 (Or.inr rfl) rfl ?_
      refine j_aload_n 1 dX1_take_23 rfl rfl ?_
      refine j_get (ci := 1) 1 (.ref 34) jC_1 dX1_take_24 kg_RX1_15 rfl (okX_32 _) (shX_32 _) (fvX_32_1 _) ?_
      refine j_aload_n 0 dX1_take_27 rfl rfl ?_
      refine j_get (ci := 1) 1 (.ref 42) jC_1 dX1_take_28 kg_RX1_15 rfl (okX_40 _) (shX_40 _) (fvX_40_1 _) ?_
      refine j_aload_n 0 dX1_take_31 rfl rfl ?_
      refine j_get (ci := 1) 3 (.int (gI σ19 40 3)) jC_1 dX1_take_32 kg_RX1_21 rfl (okX_40 _) (shX_40 _) (fvX_40_3 _) ?_
      replace h := bD_inv h
      obtain ⟨r20, σ21, cr20, h⟩ := h
      refine j_callS (st1 := _) (c_X6_copy g cr20) jy_X6_copy kt_yX6_copy kl_RX1_42 dX1_take_35 rfl rfl rfl rfl (jbr _) (jbr _) hn.1 hn.2 (Or.inr rfl) rfl ?_
      refine j_aload_n 1 dX1_take_38 rfl rfl ?_
      refine j_get (ci := 1) 2 (.ref 35) jC_1 dX1_take_39 kg_RX1_18 rfl (okX_32 _) (shX_32 _) (fvX_32_2 _) ?_
      refine j_aload_n 0 dX1_take_42 rfl rfl ?_
      refine j_get (ci := 1) 2 (.ref 43) jC_1 dX1_take_43 kg_RX1_18 rfl (okX_40 _) (shX_40 _) (fvX_40_2 _) ?_
      refine j_bipush (v := 16) dX1_take_46 (by decide) ?_
      replace h := bD_inv h
      obtain ⟨r22, σ23, cr22, h⟩ := h
      refine j_callS (st1 := _) (c_X6_copy g cr22) jy_X6_copy kt_yX6_copy kl_RX1_42 dX1_take_48 rfl rfl rfl rfl (jbr _) (jbr _) hn.1 hn.2 (Or.inr rfl) rfl ?_
      replace h := Option.some.inj h
      subst h
      obtain ⟨hr1, hr2⟩ := hr _ _ hK
      exact j_vret dX1_take_51 hr1 hr2
    · skip
      replace h := bV_inv h
      obtain ⟨σ24, eσ24, h⟩ := h
      refine j_putI 3 jC_1 dX1_take_5 kg_RX1_21 (Or.inl ff_1_3) rfl fk_1_3 (fn_1_3 _) (okX_47 _) (shX_47 _) ?_
      refine j_mem (congrArg eX eσ24) ?_
      refine j_aload_n 1 dX1_take_8 rfl rfl ?_
      refine j_get (ci := 1) 0 (.ref 33) jC_1 dX1_take_9 kg_RX1_9 rfl (okX_32 _) (shX_32 _) (fvX_32_0 _) ?_
      refine j_aload_n 0 dX1_take_12 rfl rfl ?_
      refine j_get (ci := 1) 0 (.ref 48) jC_1 dX1_take_13 kg_RX1_9 rfl (okX_47 _) (shX_47 _) (fvX_47_0 _) ?_
      refine j_aload_n 0 dX1_take_16 rfl rfl ?_
      refine j_get (ci := 1) 3 (.int (gI σ24 47 3)) jC_1 dX1_take_17 kg_RX1_21 rfl (okX_47 _) (shX_47 _) (fvX_47_3 _) ?_
      replace h := bD_inv h
      obtain ⟨r25, σ26, cr25, h⟩ := h
      refine j_callS (st1 := _) (c_X6_copy g cr25) jy_X6_copy kt_yX6_copy kl_RX1_42 dX1_take_20 rfl rfl rfl rfl (jbr _) (jbr _) hn.1 hn.2 (Or.inr rfl) rfl ?_
      refine j_aload_n 1 dX1_take_23 rfl rfl ?_
      refine j_get (ci := 1) 1 (.ref 34) jC_1 dX1_take_24 kg_RX1_15 rfl (okX_32 _) (shX_32 _) (fvX_32_1 _) ?_
      refine j_aload_n 0 dX1_take_27 rfl rfl ?_
      refine j_get (ci := 1) 1 (.ref 49) jC_1 dX1_take_28 kg_RX1_15 rfl (okX_47 _) (shX_47 _) (fvX_47_1 _) ?_
      refine j_aload_n 0 dX1_take_31 rfl rfl ?_
      refine j_get (ci := 1) 3 (.int (gI σ26 47 3)) jC_1 dX1_take_32 kg_RX1_21 rfl (okX_47 _) (shX_47 _) (fvX_47_3 _) ?_
      replace h := bD_inv h
      obtain ⟨r27, σ28, cr27, h⟩ := h
      refine j_callS (st1 := _) (c_X6_copy g cr27) jy_X6_copy kt_yX6_copy kl_RX1_42 dX1_take_35 rfl rfl rfl rfl (jbr _) (jbr _) hn.1 hn.2 (Or.inr rfl) rfl ?_
      refine j_aload_n 1 dX1_take_38 rfl rfl ?_
      refine j_get (ci := 1) 2 (.ref 35) jC_1 dX1_take_39 kg_RX1_18 rfl (okX_32 _) (shX_32 _) (fvX_32_2 _) ?_
      refine j_aload_n 0 dX1_take_42 rfl rfl ?_
      refine j_get (ci := 1) 2 (.ref 50) jC_1 dX1_take_43 kg_RX1_18 rfl (okX_47 _) (shX_47 _) (fvX_47_2 _) ?_
      refine j_bipush (v := 16) dX1_take_46 (by decide) ?_
      replace h := bD_inv h
      obtain ⟨r29, σ30, cr29, h⟩ := h
      refine j_callS (st1 := _) (c_X6_copy g cr29) jy_X6_copy kt_yX6_copy kl_RX1_42 dX1_take_48 rfl rfl rfl rfl (jbr _) (jbr _) hn.1 hn.2 (Or.inr rfl) rfl ?_
      replace h := Option.some.inj h
      subst h
      obtain ⟨hr1, hr2⟩ := hr _ _ hK
      exact j_vret dX1_take_51 hr1 hr2
    · skip
      replace h := bV_inv h
      obtain ⟨σ31, eσ31, h⟩ := h
      refine j_putI 3 jC_1 dX1_take_5 kg_RX1_21 (Or.inl ff_1_3) rfl fk_1_3 (fn_1_3 _) (okX_57 _) (shX_57 _) ?_
      refine j_mem (congrArg eX eσ31) ?_
      refine j_aload_n 1 dX1_take_8 rfl rfl ?_
      refine j_get (ci := 1) 0 (.ref 33) jC_1 dX1_take_9 kg_RX1_9 rfl (okX_32 _) (shX_32 _) (fvX_32_0 _) ?_
      refine j_aload_n 0 dX1_take_12 rfl rfl ?_
      refine j_get (ci := 1) 0 (.ref 58) jC_1 dX1_take_13 kg_RX1_9 rfl (okX_57 _) (shX_57 _) (fvX_57_0 _) ?_
      refine j_aload_n 0 dX1_take_16 rfl rfl ?_
      refine j_get (ci := 1) 3 (.int (gI σ31 57 3)) jC_1 dX1_take_17 kg_RX1_21 rfl (okX_57 _) (shX_57 _) (fvX_57_3 _) ?_
      replace h := bD_inv h
      obtain ⟨r32, σ33, cr32, h⟩ := h
      refine j_callS (st1 := _) (c_X6_copy g cr32) jy_X6_copy kt_yX6_copy kl_RX1_42 dX1_take_20 rfl rfl rfl rfl (jbr _) (jbr _) hn.1 hn.2 (Or.inr rfl) rfl ?_
      refine j_aload_n 1 dX1_take_23 rfl rfl ?_
      refine j_get (ci := 1) 1 (.ref 34) jC_1 dX1_take_24 kg_RX1_15 rfl (okX_32 _) (shX_32 _) (fvX_32_1 _) ?_
      refine j_aload_n 0 dX1_take_27 rfl rfl ?_
      refine j_get (ci := 1) 1 (.ref 59) jC_1 dX1_take_28 kg_RX1_15 rfl (okX_57 _) (shX_57 _) (fvX_57_1 _) ?_
      refine j_aload_n 0 dX1_take_31 rfl rfl ?_
      refine j_get (ci := 1) 3 (.int (gI σ33 57 3)) jC_1 dX1_take_32 kg_RX1_21 rfl (okX_57 _) (shX_57 _) (fvX_57_3 _) ?_
      replace h := bD_inv h
      obtain ⟨r34, σ35, cr34, h⟩ := h
      refine j_callS (st1 := _) (c_X6_copy g cr34) jy_X6_copy kt_yX6_copy kl_RX1_42 dX1_take_35 rfl rfl rfl rfl (jbr _) (jbr _) hn.1 hn.2 (Or.inr rfl) rfl ?_
      refine j_aload_n 1 dX1_take_38 rfl rfl ?_
      refine j_get (ci := 1) 2 (.ref 35) jC_1 dX1_take_39 kg_RX1_18 rfl (okX_32 _) (shX_32 _) (fvX_32_2 _) ?_
      refine j_aload_n 0 dX1_take_42 rfl rfl ?_
      refine j_get (ci := 1) 2 (.ref 60) jC_1 dX1_take_43 kg_RX1_18 rfl (okX_57 _) (shX_57 _) (fvX_57_2 _) ?_
      refine j_bipush (v := 16) dX1_take_46 (by decide) ?_
      replace h := bD_inv h
      obtain ⟨r36, σ37, cr36, h⟩ := h
      refine j_callS (st1 := _) (c_X6_copy g cr36) jy_X6_copy kt_yX6_copy kl_RX1_42 dX1_take_48 rfl rfl rfl rfl (jbr _) (jbr _) hn.1 hn.2 (Or.inr rfl) rfl ?_
      replace h := Option.some.inj h
      subst h
      obtain ⟨hr1, hr2⟩ := hr _ _ hK
      exact j_vret dX1_take_51 hr1 hr2
    · skip
      replace h := bV_inv h
      obtain ⟨σ38, eσ38, h⟩ := h
      refine j_putI 3 jC_1 dX1_take_5 kg_RX1_21 (Or.inl ff_1_3) rfl fk_1_3 (fn_1_3 _) (okX_67 _) (shX_67 _) ?_
      refine j_mem (congrArg eX eσ38) ?_
      refine j_aload_n 1 dX1_take_8 rfl rfl ?_
      refine j_get (ci := 1) 0 (.ref 33) jC_1 dX1_take_9 kg_RX1_9 rfl (okX_32 _) (shX_32 _) (fvX_32_0 _) ?_
      refine j_aload_n 0 dX1_take_12 rfl rfl ?_
      refine j_get (ci := 1) 0 (.ref 68) jC_1 dX1_take_13 kg_RX1_9 rfl (okX_67 _) (shX_67 _) (fvX_67_0 _) ?_
      refine j_aload_n 0 dX1_take_16 rfl rfl ?_
      refine j_get (ci := 1) 3 (.int (gI σ38 67 3)) jC_1 dX1_take_17 kg_RX1_21 rfl (okX_67 _) (shX_67 _) (fvX_67_3 _) ?_
      replace h := bD_inv h
      obtain ⟨r39, σ40, cr39, h⟩ := h
      refine j_callS (st1 := _) (c_X6_copy g cr39) jy_X6_copy kt_yX6_copy kl_RX1_42 dX1_take_20 rfl rfl rfl rfl (jbr _) (jbr _) hn.1 hn.2 (Or.inr rfl) rfl ?_
      refine j_aload_n 1 dX1_take_23 rfl rfl ?_
      refine j_get (ci := 1) 1 (.ref 34) jC_1 dX1_take_24 kg_RX1_15 rfl (okX_32 _) (shX_32 _) (fvX_32_1 _) ?_
      refine j_aload_n 0 dX1_take_27 rfl rfl ?_
      refine j_get (ci := 1) 1 (.ref 69) jC_1 dX1_take_28 kg_RX1_15 rfl (okX_67 _) (shX_67 _) (fvX_67_1 _) ?_
      refine j_aload_n 0 dX1_take_31 rfl rfl ?_
      refine j_get (ci := 1) 3 (.int (gI σ40 67 3)) jC_1 dX1_take_32 kg_RX1_21 rfl (okX_67 _) (shX_67 _) (fvX_67_3 _) ?_
      replace h := bD_inv h
      obtain ⟨r41, σ42, cr41, h⟩ := h
      refine j_callS (st1 := _) (c_X6_copy g cr41) jy_X6_copy kt_yX6_copy kl_RX1_42 dX1_take_35 rfl rfl rfl rfl (jbr _) (jbr _) hn.1 hn.2 (Or.inr rfl) rfl ?_
      refine j_aload_n 1 dX1_take_38 rfl rfl ?_
      refine j_get (ci := 1) 2 (.ref 35) jC_1 dX1_take_39 kg_RX1_18 rfl (okX_32 _) (shX_32 _) (fvX_32_2 _) ?_
      refine j_aload_n 0 dX1_take_42 rfl rfl ?_
      refine j_get (ci := 1) 2 (.ref 70) jC_1 dX1_take_43 kg_RX1_18 rfl (okX_67 _) (shX_67 _) (fvX_67_2 _) ?_
      refine j_bipush (v := 16) dX1_take_46 (by decide) ?_
      replace h := bD_inv h
      obtain ⟨r43, σ44, cr43, h⟩ := h
      refine j_callS (st1 := _) (c_X6_copy g cr43) jy_X6_copy kt_yX6_copy kl_RX1_42 dX1_take_48 rfl rfl rfl rfl (jbr _) (jbr _) hn.1 hn.2 (Or.inr rfl) rfl ?_
      replace h := Option.some.inj h
      subst h
      obtain ⟨hr1, hr2⟩ := hr _ _ hK
      exact j_vret dX1_take_51 hr1 hr2
  · skip
    refine j_get (ci := 1) 3 (.int (gI σ 40 3)) jC_1 dX1_take_2 kg_RX1_21 rfl (okX_40 _) (shX_40 _) (fvX_40_3 _) ?_
    replace h := bH_inv h
    obtain ⟨hm45, h⟩ := h
    simp only [List.mem_cons, List.not_mem_nil, or_false] at hm45
    rcases hm45 with rfl | rfl | rfl | rfl | rfl
    · skip
      replace h := bV_inv h
      obtain ⟨σ46, eσ46, h⟩ := h
      refine j_putI 3 jC_1 dX1_take_5 kg_RX1_21 (Or.inl ff_1_3) rfl fk_1_3 (fn_1_3 _) (okX_32 _) (shX_32 _) ?_
      refine j_mem (congrArg eX eσ46) ?_
      refine j_aload_n 1 dX1_take_8 rfl rfl ?_
      refine j_get (ci := 1) 0 (.ref 41) jC_1 dX1_take_9 kg_RX1_9 rfl (okX_40 _) (shX_40 _) (fvX_40_0 _) ?_
      refine j_aload_n 0 dX1_take_12 rfl rfl ?_
      refine j_get (ci := 1) 0 (.ref 33) jC_1 dX1_take_13 kg_RX1_9 rfl (okX_32 _) (shX_32 _) (fvX_32_0 _) ?_
      refine j_aload_n 0 dX1_take_16 rfl rfl ?_
      refine j_get (ci := 1) 3 (.int (gI σ46 32 3)) jC_1 dX1_take_17 kg_RX1_21 rfl (okX_32 _) (shX_32 _) (fvX_32_3 _) ?_
      replace h := bD_inv h
      obtain ⟨r47, σ48, cr47, h⟩ := h
      refine j_callS (st1 := _) (c_X6_copy g cr47) jy_X6_copy kt_yX6_copy kl_RX1_42 dX1_take_20 rfl rfl rfl rfl (jbr _) (jbr _) hn.1 hn.2 (Or.inr rfl) rfl ?_
      refine j_aload_n 1 dX1_take_23 rfl rfl ?_
      refine j_get (ci := 1) 1 (.ref 42) jC_1 dX1_take_24 kg_RX1_15 rfl (okX_40 _) (shX_40 _) (fvX_40_1 _) ?_
      refine j_aload_n 0 dX1_take_27 rfl rfl ?_
      refine j_get (ci := 1) 1 (.ref 34) jC_1 dX1_take_28 kg_RX1_15 rfl (okX_32 _) (shX_32 _) (fvX_32_1 _) ?_
      refine j_aload_n 0 dX1_take_31 rfl rfl ?_
      refine j_get (ci := 1) 3 (.int (gI σ48 32 3)) jC_1 dX1_take_32 kg_RX1_21 rfl (okX_32 _) (shX_32 _) (fvX_32_3 _) ?_
      replace h := bD_inv h
      obtain ⟨r49, σ50, cr49, h⟩ := h
      refine j_callS (st1 := _) (c_X6_copy g cr49) jy_X6_copy kt_yX6_copy kl_RX1_42 dX1_take_35 rfl rfl rfl rfl (jbr _) (jbr _) hn.1 hn.2 (Or.inr rfl) rfl ?_
      refine j_aload_n 1 dX1_take_38 rfl rfl ?_
      refine j_get (ci := 1) 2 (.ref 43) jC_1 dX1_take_39 kg_RX1_18 rfl (okX_40 _) (shX_40 _) (fvX_40_2 _) ?_
      refine j_aload_n 0 dX1_take_42 rfl rfl ?_
      refine j_get (ci := 1) 2 (.ref 35) jC_1 dX1_take_43 kg_RX1_18 rfl (okX_32 _) (shX_32 _) (fvX_32_2 _) ?_
      refine j_bipush (v := 16) dX1_take_46 (by decide) ?_
      replace h := bD_inv h
      obtain ⟨r51, σ52, cr51, h⟩ := h
      refine j_callS (st1 := _) (c_X6_copy g cr51) jy_X6_copy kt_yX6_copy kl_RX1_42 dX1_take_48 rfl rfl rfl rfl (jbr _) (jbr _) hn.1 hn.2 (Or.inr rfl) rfl ?_
      replace h := Option.some.inj h
      subst h
      obtain ⟨hr1, hr2⟩ := hr _ _ hK
      exact j_vret dX1_take_51 hr1 hr2
    · skip
      replace h := bV_inv h
      obtain ⟨σ53, eσ53, h⟩ := h
      refine j_putI 3 jC_1 dX1_take_5 kg_RX1_21 (Or.inl ff_1_3) rfl fk_1_3 (fn_1_3 _) (okX_40 _) (shX_40 _) ?_
      refine j_mem (congrArg eX eσ53) ?_
      refine j_aload_n 1 dX1_take_8 rfl rfl ?_
      refine j_get (ci := 1) 0 (.ref 41) jC_1 dX1_take_9 kg_RX1_9 rfl (okX_40 _) (shX_40 _) (fvX_40_0 _) ?_
      refine j_aload_n 0 dX1_take_12 rfl rfl ?_
      refine j_get (ci := 1) 0 (.ref 41) jC_1 dX1_take_13 kg_RX1_9 rfl (okX_40 _) (shX_40 _) (fvX_40_0 _) ?_
      refine j_aload_n 0 dX1_take_16 rfl rfl ?_
      refine j_get (ci := 1) 3 (.int (gI σ53 40 3)) jC_1 dX1_take_17 kg_RX1_21 rfl (okX_40 _) (shX_40 _) (fvX_40_3 _) ?_
      replace h := bD_inv h
      obtain ⟨r54, σ55, cr54, h⟩ := h
      refine j_callS (st1 := _) (c_X6_copy g cr54) jy_X6_copy kt_yX6_copy kl_RX1_42 dX1_take_20 rfl rfl rfl rfl (jbr _) (jbr _) hn.1 hn.2 (Or.inr rfl) rfl ?_
      refine j_aload_n 1 dX1_take_23 rfl rfl ?_
      refine j_get (ci := 1) 1 (.ref 42) jC_1 dX1_take_24 kg_RX1_15 rfl (okX_40 _) (shX_40 _) (fvX_40_1 _) ?_
      refine j_aload_n 0 dX1_take_27 rfl rfl ?_
      refine j_get (ci := 1) 1 (.ref 42) jC_1 dX1_take_28 kg_RX1_15 rfl (okX_40 _) (shX_40 _) (fvX_40_1 _) ?_
      refine j_aload_n 0 dX1_take_31 rfl rfl ?_
      refine j_get (ci := 1) 3 (.int (gI σ55 40 3)) jC_1 dX1_take_32 kg_RX1_21 rfl (okX_40 _) (shX_40 _) (fvX_40_3 _) ?_
      replace h := bD_inv h
      obtain ⟨r56, σ57, cr56, h⟩ := h
      refine j_callS (st1 := _) (c_X6_copy g cr56) jy_X6_copy kt_yX6_copy kl_RX1_42 dX1_take_35 rfl rfl rfl rfl (jbr _) (jbr _) hn.1 hn.2 (Or.inr rfl) rfl ?_
      refine j_aload_n 1 dX1_take_38 rfl rfl ?_
      refine j_get (ci := 1) 2 (.ref 43) jC_1 dX1_take_39 kg_RX1_18 rfl (okX_40 _) (shX_40 _) (fvX_40_2 _) ?_
      refine j_aload_n 0 dX1_take_42 rfl rfl ?_
      refine j_get (ci := 1) 2 (.ref 43) jC_1 dX1_take_43 kg_RX1_18 rfl (okX_40 _) (shX_40 _) (fvX_40_2 _) ?_
      refine j_bipush (v := 16) dX1_take_46 (by decide) ?_
      replace h := bD_inv h
      obtain ⟨r58, σ59, cr58, h⟩ := h
      refine j_callS (st1 := _) (c_X6_copy g cr58) jy_X6_copy kt_yX6_copy kl_RX1_42 dX1_take_48 rfl rfl rfl rfl (jbr _) (jbr _) hn.1 hn.2 (Or.inr rfl) rfl ?_
      replace h := Option.some.inj h
      subst h
      obtain ⟨hr1, hr2⟩ := hr _ _ hK
      exact j_vret dX1_take_51 hr1 hr2
    · skip
      replace h := bV_inv h
      obtain ⟨σ60, eσ60, h⟩ := h
      refine j_putI 3 jC_1 dX1_take_5 kg_RX1_21 (Or.inl ff_1_3) rfl fk_1_3 (fn_1_3 _) (okX_47 _) (shX_47 _) ?_
      refine j_mem (congrArg eX eσ60) ?_
      refine j_aload_n 1 dX1_take_8 rfl rfl ?_
      refine j_get (ci := 1) 0 (.ref 41) jC_1 dX1_take_9 kg_RX1_9 rfl (okX_40 _) (shX_40 _) (fvX_40_0 _) ?_
      refine j_aload_n 0 dX1_take_12 rfl rfl ?_
      refine j_get (ci := 1) 0 (.ref 48) jC_1 dX1_take_13 kg_RX1_9 rfl (okX_47 _) (shX_47 _) (fvX_47_0 _) ?_
      refine j_aload_n 0 dX1_take_16 rfl rfl ?_
      refine j_get (ci := 1) 3 (.int (gI σ60 47 3)) jC_1 dX1_take_17 kg_RX1_21 rfl (okX_47 _) (shX_47 _) (fvX_47_3 _) ?_
      replace h := bD_inv h
      obtain ⟨r61, σ62, cr61, h⟩ := h
      refine j_callS (st1 := _) (c_X6_copy g cr61) jy_X6_copy kt_yX6_copy kl_RX1_42 dX1_take_20 rfl rfl rfl rfl (jbr _) (jbr _) hn.1 hn.2 (Or.inr rfl) rfl ?_
      refine j_aload_n 1 dX1_take_23 rfl rfl ?_
      refine j_get (ci := 1) 1 (.ref 42) jC_1 dX1_take_24 kg_RX1_15 rfl (okX_40 _) (shX_40 _) (fvX_40_1 _) ?_
      refine j_aload_n 0 dX1_take_27 rfl rfl ?_
      refine j_get (ci := 1) 1 (.ref 49) jC_1 dX1_take_28 kg_RX1_15 rfl (okX_47 _) (shX_47 _) (fvX_47_1 _) ?_
      refine j_aload_n 0 dX1_take_31 rfl rfl ?_
      refine j_get (ci := 1) 3 (.int (gI σ62 47 3)) jC_1 dX1_take_32 kg_RX1_21 rfl (okX_47 _) (shX_47 _) (fvX_47_3 _) ?_
      replace h := bD_inv h
      obtain ⟨r63, σ64, cr63, h⟩ := h
      refine j_callS (st1 := _) (c_X6_copy g cr63) jy_X6_copy kt_yX6_copy kl_RX1_42 dX1_take_35 rfl rfl rfl rfl (jbr _) (jbr _) hn.1 hn.2 (Or.inr rfl) rfl ?_
      refine j_aload_n 1 dX1_take_38 rfl rfl ?_
      refine j_get (ci := 1) 2 (.ref 43) jC_1 dX1_take_39 kg_RX1_18 rfl (okX_40 _) (shX_40 _) (fvX_40_2 _) ?_
      refine j_aload_n 0 dX1_take_42 rfl rfl ?_
      refine j_get (ci := 1) 2 (.ref 50) jC_1 dX1_take_43 kg_RX1_18 rfl (okX_47 _) (shX_47 _) (fvX_47_2 _) ?_
      refine j_bipush (v := 16) dX1_take_46 (by decide) ?_
      replace h := bD_inv h
      obtain ⟨r65, σ66, cr65, h⟩ := h
      refine j_callS (st1 := _) (c_X6_copy g cr65) jy_X6_copy kt_yX6_copy kl_RX1_42 dX1_take_48 rfl rfl rfl rfl (jbr _) (jbr _) hn.1 hn.2 (Or.inr rfl) rfl ?_
      replace h := Option.some.inj h
      subst h
      obtain ⟨hr1, hr2⟩ := hr _ _ hK
      exact j_vret dX1_take_51 hr1 hr2
    · skip
      replace h := bV_inv h
      obtain ⟨σ67, eσ67, h⟩ := h
      refine j_putI 3 jC_1 dX1_take_5 kg_RX1_21 (Or.inl ff_1_3) rfl fk_1_3 (fn_1_3 _) (okX_57 _) (shX_57 _) ?_
      refine j_mem (congrArg eX eσ67) ?_
      refine j_aload_n 1 dX1_take_8 rfl rfl ?_
      refine j_get (ci := 1) 0 (.ref 41) jC_1 dX1_take_9 kg_RX1_9 rfl (okX_40 _) (shX_40 _) (fvX_40_0 _) ?_
      refine j_aload_n 0 dX1_take_12 rfl rfl ?_
      refine j_get (ci := 1) 0 (.ref 58) jC_1 dX1_take_13 kg_RX1_9 rfl (okX_57 _) (shX_57 _) (fvX_57_0 _) ?_
      refine j_aload_n 0 dX1_take_16 rfl rfl ?_
      refine j_get (ci := 1) 3 (.int (gI σ67 57 3)) jC_1 dX1_take_17 kg_RX1_21 rfl (okX_57 _) (shX_57 _) (fvX_57_3 _) ?_
      replace h := bD_inv h
      obtain ⟨r68, σ69, cr68, h⟩ := h
      refine j_callS (st1 := _) (c_X6_copy g cr68) jy_X6_copy kt_yX6_copy kl_RX1_42 dX1_take_20 rfl rfl rfl rfl (jbr _) (jbr _) hn.1 hn.2 (Or.inr rfl) rfl ?_
      refine j_aload_n 1 dX1_take_23 rfl rfl ?_
      refine j_get (ci := 1) 1 (.ref 42) jC_1 dX1_take_24 kg_RX1_15 rfl (okX_40 _) (shX_40 _) (fvX_40_1 _) ?_
      refine j_aload_n 0 dX1_take_27 rfl rfl ?_
      refine j_get (ci := 1) 1 (.ref 59) jC_1 dX1_take_28 kg_RX1_15 rfl (okX_57 _) (shX_57 _) (fvX_57_1 _) ?_
      refine j_aload_n 0 dX1_take_31 rfl rfl ?_
      refine j_get (ci := 1) 3 (.int (gI σ69 57 3)) jC_1 dX1_take_32 kg_RX1_21 rfl (okX_57 _) (shX_57 _) (fvX_57_3 _) ?_
      replace h := bD_inv h
      obtain ⟨r70, σ71, cr70, h⟩ := h
      refine j_callS (st1 := _) (c_X6_copy g cr70) jy_X6_copy kt_yX6_copy kl_RX1_42 dX1_take_35 rfl rfl rfl rfl (jbr _) (jbr _) hn.1 hn.2 (Or.inr rfl) rfl ?_
      refine j_aload_n 1 dX1_take_38 rfl rfl ?_
      refine j_get (ci := 1) 2 (.ref 43) jC_1 dX1_take_39 kg_RX1_18 rfl (okX_40 _) (shX_40 _) (fvX_40_2 _) ?_
      refine j_aload_n 0 dX1_take_42 rfl rfl ?_
      refine j_get (ci := 1) 2 (.ref 60) jC_1 dX1_take_43 kg_RX1_18 rfl (okX_57 _) (shX_57 _) (fvX_57_2 _) ?_
      refine j_bipush (v := 16) dX1_take_46 (by decide) ?_
      replace h := bD_inv h
      obtain ⟨r72, σ73, cr72, h⟩ := h
      refine j_callS (st1 := _) (c_X6_copy g cr72) jy_X6_copy kt_yX6_copy kl_RX1_42 dX1_take_48 rfl rfl rfl rfl (jbr _) (jbr _) hn.1 hn.2 (Or.inr rfl) rfl ?_
      replace h := Option.some.inj h
      subst h
      obtain ⟨hr1, hr2⟩ := hr _ _ hK
      exact j_vret dX1_take_51 hr1 hr2
    · skip
      replace h := bV_inv h
      obtain ⟨σ74, eσ74, h⟩ := h
      refine j_putI 3 jC_1 dX1_take_5 kg_RX1_21 (Or.inl ff_1_3) rfl fk_1_3 (fn_1_3 _) (okX_67 _) (shX_67 _) ?_
      refine j_mem (congrArg eX eσ74) ?_
      refine j_aload_n 1 dX1_take_8 rfl rfl ?_
      refine j_get (ci := 1) 0 (.ref 41) jC_1 dX1_take_9 kg_RX1_9 rfl (okX_40 _) (shX_40 _) (fvX_40_0 _) ?_
      refine j_aload_n 0 dX1_take_12 rfl rfl ?_
      refine j_get (ci := 1) 0 (.ref 68) jC_1 dX1_take_13 kg_RX1_9 rfl (okX_67 _) (shX_67 _) (fvX_67_0 _) ?_
      refine j_aload_n 0 dX1_take_16 rfl rfl ?_
      refine j_get (ci := 1) 3 (.int (gI σ74 67 3)) jC_1 dX1_take_17 kg_RX1_21 rfl (okX_67 _) (shX_67 _) (fvX_67_3 _) ?_
      replace h := bD_inv h
      obtain ⟨r75, σ76, cr75, h⟩ := h
      refine j_callS (st1 := _) (c_X6_copy g cr75) jy_X6_copy kt_yX6_copy kl_RX1_42 dX1_take_20 rfl rfl rfl rfl (jbr _) (jbr _) hn.1 hn.2 (Or.inr rfl) rfl ?_
      refine j_aload_n 1 dX1_take_23 rfl rfl ?_
      refine j_get (ci := 1) 1 (.ref 42) jC_1 dX1_take_24 kg_RX1_15 rfl (okX_40 _) (shX_40 _) (fvX_40_1 _) ?_
      refine j_aload_n 0 dX1_take_27 rfl rfl ?_
      refine j_get (ci := 1) 1 (.ref 69) jC_1 dX1_take_28 kg_RX1_15 rfl (okX_67 _) (shX_67 _) (fvX_67_1 _) ?_
      refine j_aload_n 0 dX1_take_31 rfl rfl ?_
      refine j_get (ci := 1) 3 (.int (gI σ76 67 3)) jC_1 dX1_take_32 kg_RX1_21 rfl (okX_67 _) (shX_67 _) (fvX_67_3 _) ?_
      replace h := bD_inv h
      obtain ⟨r77, σ78, cr77, h⟩ := h
      refine j_callS (st1 := _) (c_X6_copy g cr77) jy_X6_copy kt_yX6_copy kl_RX1_42 dX1_take_35 rfl rfl rfl rfl (jbr _) (jbr _) hn.1 hn.2 (Or.inr rfl) rfl ?_
      refine j_aload_n 1 dX1_take_38 rfl rfl ?_
      refine j_get (ci := 1) 2 (.ref 43) jC_1 dX1_take_39 kg_RX1_18 rfl (okX_40 _) (shX_40 _) (fvX_40_2 _) ?_
      refine j_aload_n 0 dX1_take_42 rfl rfl ?_
      refine j_get (ci := 1) 2 (.ref 70) jC_1 dX1_take_43 kg_RX1_18 rfl (okX_67 _) (shX_67 _) (fvX_67_2 _) ?_
      refine j_bipush (v := 16) dX1_take_46 (by decide) ?_
      replace h := bD_inv h
      obtain ⟨r79, σ80, cr79, h⟩ := h
      refine j_callS (st1 := _) (c_X6_copy g cr79) jy_X6_copy kt_yX6_copy kl_RX1_42 dX1_take_48 rfl rfl rfl rfl (jbr _) (jbr _) hn.1 hn.2 (Or.inr rfl) rfl ?_
      replace h := Option.some.inj h
      subst h
      obtain ⟨hr1, hr2⟩ := hr _ _ hK
      exact j_vret dX1_take_51 hr1 hr2
  · skip
    refine j_get (ci := 1) 3 (.int (gI σ 47 3)) jC_1 dX1_take_2 kg_RX1_21 rfl (okX_47 _) (shX_47 _) (fvX_47_3 _) ?_
    replace h := bH_inv h
    obtain ⟨hm81, h⟩ := h
    simp only [List.mem_cons, List.not_mem_nil, or_false] at hm81
    rcases hm81 with rfl | rfl | rfl | rfl | rfl
    · skip
      replace h := bV_inv h
      obtain ⟨σ82, eσ82, h⟩ := h
      refine j_putI 3 jC_1 dX1_take_5 kg_RX1_21 (Or.inl ff_1_3) rfl fk_1_3 (fn_1_3 _) (okX_32 _) (shX_32 _) ?_
      refine j_mem (congrArg eX eσ82) ?_
      refine j_aload_n 1 dX1_take_8 rfl rfl ?_
      refine j_get (ci := 1) 0 (.ref 48) jC_1 dX1_take_9 kg_RX1_9 rfl (okX_47 _) (shX_47 _) (fvX_47_0 _) ?_
      refine j_aload_n 0 dX1_take_12 rfl rfl ?_
      refine j_get (ci := 1) 0 (.ref 33) jC_1 dX1_take_13 kg_RX1_9 rfl (okX_32 _) (shX_32 _) (fvX_32_0 _) ?_
      refine j_aload_n 0 dX1_take_16 rfl rfl ?_
      refine j_get (ci := 1) 3 (.int (gI σ82 32 3)) jC_1 dX1_take_17 kg_RX1_21 rfl (okX_32 _) (shX_32 _) (fvX_32_3 _) ?_
      replace h := bD_inv h
      obtain ⟨r83, σ84, cr83, h⟩ := h
      refine j_callS (st1 := _) (c_X6_copy g cr83) jy_X6_copy kt_yX6_copy kl_RX1_42 dX1_take_20 rfl rfl rfl rfl (jbr _) (jbr _) hn.1 hn.2 (Or.inr rfl) rfl ?_
      refine j_aload_n 1 dX1_take_23 rfl rfl ?_
      refine j_get (ci := 1) 1 (.ref 49) jC_1 dX1_take_24 kg_RX1_15 rfl (okX_47 _) (shX_47 _) (fvX_47_1 _) ?_
      refine j_aload_n 0 dX1_take_27 rfl rfl ?_
      refine j_get (ci := 1) 1 (.ref 34) jC_1 dX1_take_28 kg_RX1_15 rfl (okX_32 _) (shX_32 _) (fvX_32_1 _) ?_
      refine j_aload_n 0 dX1_take_31 rfl rfl ?_
      refine j_get (ci := 1) 3 (.int (gI σ84 32 3)) jC_1 dX1_take_32 kg_RX1_21 rfl (okX_32 _) (shX_32 _) (fvX_32_3 _) ?_
      replace h := bD_inv h
      obtain ⟨r85, σ86, cr85, h⟩ := h
      refine j_callS (st1 := _) (c_X6_copy g cr85) jy_X6_copy kt_yX6_copy kl_RX1_42 dX1_take_35 rfl rfl rfl rfl (jbr _) (jbr _) hn.1 hn.2 (Or.inr rfl) rfl ?_
      refine j_aload_n 1 dX1_take_38 rfl rfl ?_
      refine j_get (ci := 1) 2 (.ref 50) jC_1 dX1_take_39 kg_RX1_18 rfl (okX_47 _) (shX_47 _) (fvX_47_2 _) ?_
      refine j_aload_n 0 dX1_take_42 rfl rfl ?_
      refine j_get (ci := 1) 2 (.ref 35) jC_1 dX1_take_43 kg_RX1_18 rfl (okX_32 _) (shX_32 _) (fvX_32_2 _) ?_
      refine j_bipush (v := 16) dX1_take_46 (by decide) ?_
      replace h := bD_inv h
      obtain ⟨r87, σ88, cr87, h⟩ := h
      refine j_callS (st1 := _) (c_X6_copy g cr87) jy_X6_copy kt_yX6_copy kl_RX1_42 dX1_take_48 rfl rfl rfl rfl (jbr _) (jbr _) hn.1 hn.2 (Or.inr rfl) rfl ?_
      replace h := Option.some.inj h
      subst h
      obtain ⟨hr1, hr2⟩ := hr _ _ hK
      exact j_vret dX1_take_51 hr1 hr2
    · skip
      replace h := bV_inv h
      obtain ⟨σ89, eσ89, h⟩ := h
      refine j_putI 3 jC_1 dX1_take_5 kg_RX1_21 (Or.inl ff_1_3) rfl fk_1_3 (fn_1_3 _) (okX_40 _) (shX_40 _) ?_
      refine j_mem (congrArg eX eσ89) ?_
      refine j_aload_n 1 dX1_take_8 rfl rfl ?_
      refine j_get (ci := 1) 0 (.ref 48) jC_1 dX1_take_9 kg_RX1_9 rfl (okX_47 _) (shX_47 _) (fvX_47_0 _) ?_
      refine j_aload_n 0 dX1_take_12 rfl rfl ?_
      refine j_get (ci := 1) 0 (.ref 41) jC_1 dX1_take_13 kg_RX1_9 rfl (okX_40 _) (shX_40 _) (fvX_40_0 _) ?_
      refine j_aload_n 0 dX1_take_16 rfl rfl ?_
      refine j_get (ci := 1) 3 (.int (gI σ89 40 3)) jC_1 dX1_take_17 kg_RX1_21 rfl (okX_40 _) (shX_40 _) (fvX_40_3 _) ?_
      replace h := bD_inv h
      obtain ⟨r90, σ91, cr90, h⟩ := h
      refine j_callS (st1 := _) (c_X6_copy g cr90) jy_X6_copy kt_yX6_copy kl_RX1_42 dX1_take_20 rfl rfl rfl rfl (jbr _) (jbr _) hn.1 hn.2 (Or.inr rfl) rfl ?_
      refine j_aload_n 1 dX1_take_23 rfl rfl ?_
      refine j_get (ci := 1) 1 (.ref 49) jC_1 dX1_take_24 kg_RX1_15 rfl (okX_47 _) (shX_47 _) (fvX_47_1 _) ?_
      refine j_aload_n 0 dX1_take_27 rfl rfl ?_
      refine j_get (ci := 1) 1 (.ref 42) jC_1 dX1_take_28 kg_RX1_15 rfl (okX_40 _) (shX_40 _) (fvX_40_1 _) ?_
      refine j_aload_n 0 dX1_take_31 rfl rfl ?_
      refine j_get (ci := 1) 3 (.int (gI σ91 40 3)) jC_1 dX1_take_32 kg_RX1_21 rfl (okX_40 _) (shX_40 _) (fvX_40_3 _) ?_
      replace h := bD_inv h
      obtain ⟨r92, σ93, cr92, h⟩ := h
      refine j_callS (st1 := _) (c_X6_copy g cr92) jy_X6_copy kt_yX6_copy kl_RX1_42 dX1_take_35 rfl rfl rfl rfl (jbr _) (jbr _) hn.1 hn.2 (Or.inr rfl) rfl ?_
      refine j_aload_n 1 dX1_take_38 rfl rfl ?_
      refine j_get (ci := 1) 2 (.ref 50) jC_1 dX1_take_39 kg_RX1_18 rfl (okX_47 _) (shX_47 _) (fvX_47_2 _) ?_
      refine j_aload_n 0 dX1_take_42 rfl rfl ?_
      refine j_get (ci := 1) 2 (.ref 43) jC_1 dX1_take_43 kg_RX1_18 rfl (okX_40 _) (shX_40 _) (fvX_40_2 _) ?_
      refine j_bipush (v := 16) dX1_take_46 (by decide) ?_
      replace h := bD_inv h
      obtain ⟨r94, σ95, cr94, h⟩ := h
      refine j_callS (st1 := _) (c_X6_copy g cr94) jy_X6_copy kt_yX6_copy kl_RX1_42 dX1_take_48 rfl rfl rfl rfl (jbr _) (jbr _) hn.1 hn.2 (Or.inr rfl) rfl ?_
      replace h := Option.some.inj h
      subst h
      obtain ⟨hr1, hr2⟩ := hr _ _ hK
      exact j_vret dX1_take_51 hr1 hr2
    · skip
      replace h := bV_inv h
      obtain ⟨σ96, eσ96, h⟩ := h
      refine j_putI 3 jC_1 dX1_take_5 kg_RX1_21 (Or.inl ff_1_3) rfl fk_1_3 (fn_1_3 _) (okX_47 _) (shX_47 _) ?_
      refine j_mem (congrArg eX eσ96) ?_
      refine j_aload_n 1 dX1_take_8 rfl rfl ?_
      refine j_get (ci := 1) 0 (.ref 48) jC_1 dX1_take_9 kg_RX1_9 rfl (okX_47 _) (shX_47 _) (fvX_47_0 _) ?_
      refine j_aload_n 0 dX1_take_12 rfl rfl ?_
      refine j_get (ci := 1) 0 (.ref 48) jC_1 dX1_take_13 kg_RX1_9 rfl (okX_47 _) (shX_47 _) (fvX_47_0 _) ?_
      refine j_aload_n 0 dX1_take_16 rfl rfl ?_
      refine j_get (ci := 1) 3 (.int (gI σ96 47 3)) jC_1 dX1_take_17 kg_RX1_21 rfl (okX_47 _) (shX_47 _) (fvX_47_3 _) ?_
      replace h := bD_inv h
      obtain ⟨r97, σ98, cr97, h⟩ := h
      refine j_callS (st1 := _) (c_X6_copy g cr97) jy_X6_copy kt_yX6_copy kl_RX1_42 dX1_take_20 rfl rfl rfl rfl (jbr _) (jbr _) hn.1 hn.2 (Or.inr rfl) rfl ?_
      refine j_aload_n 1 dX1_take_23 rfl rfl ?_
      refine j_get (ci := 1) 1 (.ref 49) jC_1 dX1_take_24 kg_RX1_15 rfl (okX_47 _) (shX_47 _) (fvX_47_1 _) ?_
      refine j_aload_n 0 dX1_take_27 rfl rfl ?_
      refine j_get (ci := 1) 1 (.ref 49) jC_1 dX1_take_28 kg_RX1_15 rfl (okX_47 _) (shX_47 _) (fvX_47_1 _) ?_
      refine j_aload_n 0 dX1_take_31 rfl rfl ?_
      refine j_get (ci := 1) 3 (.int (gI σ98 47 3)) jC_1 dX1_take_32 kg_RX1_21 rfl (okX_47 _) (shX_47 _) (fvX_47_3 _) ?_
      replace h := bD_inv h
      obtain ⟨r99, σ100, cr99, h⟩ := h
      refine j_callS (st1 := _) (c_X6_copy g cr99) jy_X6_copy kt_yX6_copy kl_RX1_42 dX1_take_35 rfl rfl rfl rfl (jbr _) (jbr _) hn.1 hn.2 (Or.inr rfl) rfl ?_
      refine j_aload_n 1 dX1_take_38 rfl rfl ?_
      refine j_get (ci := 1) 2 (.ref 50) jC_1 dX1_take_39 kg_RX1_18 rfl (okX_47 _) (shX_47 _) (fvX_47_2 _) ?_
      refine j_aload_n 0 dX1_take_42 rfl rfl ?_
      refine j_get (ci := 1) 2 (.ref 50) jC_1 dX1_take_43 kg_RX1_18 rfl (okX_47 _) (shX_47 _) (fvX_47_2 _) ?_
      refine j_bipush (v := 16) dX1_take_46 (by decide) ?_
      replace h := bD_inv h
      obtain ⟨r101, σ102, cr101, h⟩ := h
      refine j_callS (st1 := _) (c_X6_copy g cr101) jy_X6_copy kt_yX6_copy kl_RX1_42 dX1_take_48 rfl rfl rfl rfl (jbr _) (jbr _) hn.1 hn.2 (Or.inr rfl) rfl ?_
      replace h := Option.some.inj h
      subst h
      obtain ⟨hr1, hr2⟩ := hr _ _ hK
      exact j_vret dX1_take_51 hr1 hr2
    · skip
      replace h := bV_inv h
      obtain ⟨σ103, eσ103, h⟩ := h
      refine j_putI 3 jC_1 dX1_take_5 kg_RX1_21 (Or.inl ff_1_3) rfl fk_1_3 (fn_1_3 _) (okX_57 _) (shX_57 _) ?_
      refine j_mem (congrArg eX eσ103) ?_
      refine j_aload_n 1 dX1_take_8 rfl rfl ?_
      refine j_get (ci := 1) 0 (.ref 48) jC_1 dX1_take_9 kg_RX1_9 rfl (okX_47 _) (shX_47 _) (fvX_47_0 _) ?_
      refine j_aload_n 0 dX1_take_12 rfl rfl ?_
      refine j_get (ci := 1) 0 (.ref 58) jC_1 dX1_take_13 kg_RX1_9 rfl (okX_57 _) (shX_57 _) (fvX_57_0 _) ?_
      refine j_aload_n 0 dX1_take_16 rfl rfl ?_
      refine j_get (ci := 1) 3 (.int (gI σ103 57 3)) jC_1 dX1_take_17 kg_RX1_21 rfl (okX_57 _) (shX_57 _) (fvX_57_3 _) ?_
      replace h := bD_inv h
      obtain ⟨r104, σ105, cr104, h⟩ := h
      refine j_callS (st1 := _) (c_X6_copy g cr104) jy_X6_copy kt_yX6_copy kl_RX1_42 dX1_take_20 rfl rfl rfl rfl (jbr _) (jbr _) hn.1 hn.2 (Or.inr rfl) rfl ?_
      refine j_aload_n 1 dX1_take_23 rfl rfl ?_
      refine j_get (ci := 1) 1 (.ref 49) jC_1 dX1_take_24 kg_RX1_15 rfl (okX_47 _) (shX_47 _) (fvX_47_1 _) ?_
      refine j_aload_n 0 dX1_take_27 rfl rfl ?_
      refine j_get (ci := 1) 1 (.ref 59) jC_1 dX1_take_28 kg_RX1_15 rfl (okX_57 _) (shX_57 _) (fvX_57_1 _) ?_
      refine j_aload_n 0 dX1_take_31 rfl rfl ?_
      refine j_get (ci := 1) 3 (.int (gI σ105 57 3)) jC_1 dX1_take_32 kg_RX1_21 rfl (okX_57 _) (shX_57 _) (fvX_57_3 _) ?_
      replace h := bD_inv h
      obtain ⟨r106, σ107, cr106, h⟩ := h
      refine j_callS (st1 := _) (c_X6_copy g cr106) jy_X6_copy kt_yX6_copy kl_RX1_42 dX1_take_35 rfl rfl rfl rfl (jbr _) (jbr _) hn.1 hn.2 (Or.inr rfl) rfl ?_
      refine j_aload_n 1 dX1_take_38 rfl rfl ?_
      refine j_get (ci := 1) 2 (.ref 50) jC_1 dX1_take_39 kg_RX1_18 rfl (okX_47 _) (shX_47 _) (fvX_47_2 _) ?_
      refine j_aload_n 0 dX1_take_42 rfl rfl ?_
      refine j_get (ci := 1) 2 (.ref 60) jC_1 dX1_take_43 kg_RX1_18 rfl (okX_57 _) (shX_57 _) (fvX_57_2 _) ?_
      refine j_bipush (v := 16) dX1_take_46 (by decide) ?_
      replace h := bD_inv h
      obtain ⟨r108, σ109, cr108, h⟩ := h
      refine j_callS (st1 := _) (c_X6_copy g cr108) jy_X6_copy kt_yX6_copy kl_RX1_42 dX1_take_48 rfl rfl rfl rfl (jbr _) (jbr _) hn.1 hn.2 (Or.inr rfl) rfl ?_
      replace h := Option.some.inj h
      subst h
      obtain ⟨hr1, hr2⟩ := hr _ _ hK
      exact j_vret dX1_take_51 hr1 hr2
    · skip
      replace h := bV_inv h
      obtain ⟨σ110, eσ110, h⟩ := h
      refine j_putI 3 jC_1 dX1_take_5 kg_RX1_21 (Or.inl ff_1_3) rfl fk_1_3 (fn_1_3 _) (okX_67 _) (shX_67 _) ?_
      refine j_mem (congrArg eX eσ110) ?_
      refine j_aload_n 1 dX1_take_8 rfl rfl ?_
      refine j_get (ci := 1) 0 (.ref 48) jC_1 dX1_take_9 kg_RX1_9 rfl (okX_47 _) (shX_47 _) (fvX_47_0 _) ?_
      refine j_aload_n 0 dX1_take_12 rfl rfl ?_
      refine j_get (ci := 1) 0 (.ref 68) jC_1 dX1_take_13 kg_RX1_9 rfl (okX_67 _) (shX_67 _) (fvX_67_0 _) ?_
      refine j_aload_n 0 dX1_take_16 rfl rfl ?_
      refine j_get (ci := 1) 3 (.int (gI σ110 67 3)) jC_1 dX1_take_17 kg_RX1_21 rfl (okX_67 _) (shX_67 _) (fvX_67_3 _) ?_
      replace h := bD_inv h
      obtain ⟨r111, σ112, cr111, h⟩ := h
      refine j_callS (st1 := _) (c_X6_copy g cr111) jy_X6_copy kt_yX6_copy kl_RX1_42 dX1_take_20 rfl rfl rfl rfl (jbr _) (jbr _) hn.1 hn.2 (Or.inr rfl) rfl ?_
      refine j_aload_n 1 dX1_take_23 rfl rfl ?_
      refine j_get (ci := 1) 1 (.ref 49) jC_1 dX1_take_24 kg_RX1_15 rfl (okX_47 _) (shX_47 _) (fvX_47_1 _) ?_
      refine j_aload_n 0 dX1_take_27 rfl rfl ?_
      refine j_get (ci := 1) 1 (.ref 69) jC_1 dX1_take_28 kg_RX1_15 rfl (okX_67 _) (shX_67 _) (fvX_67_1 _) ?_
      refine j_aload_n 0 dX1_take_31 rfl rfl ?_
      refine j_get (ci := 1) 3 (.int (gI σ112 67 3)) jC_1 dX1_take_32 kg_RX1_21 rfl (okX_67 _) (shX_67 _) (fvX_67_3 _) ?_
      replace h := bD_inv h
      obtain ⟨r113, σ114, cr113, h⟩ := h
      refine j_callS (st1 := _) (c_X6_copy g cr113) jy_X6_copy kt_yX6_copy kl_RX1_42 dX1_take_35 rfl rfl rfl rfl (jbr _) (jbr _) hn.1 hn.2 (Or.inr rfl) rfl ?_
      refine j_aload_n 1 dX1_take_38 rfl rfl ?_
      refine j_get (ci := 1) 2 (.ref 50) jC_1 dX1_take_39 kg_RX1_18 rfl (okX_47 _) (shX_47 _) (fvX_47_2 _) ?_
      refine j_aload_n 0 dX1_take_42 rfl rfl ?_
      refine j_get (ci := 1) 2 (.ref 70) jC_1 dX1_take_43 kg_RX1_18 rfl (okX_67 _) (shX_67 _) (fvX_67_2 _) ?_
      refine j_bipush (v := 16) dX1_take_46 (by decide) ?_
      replace h := bD_inv h
      obtain ⟨r115, σ116, cr115, h⟩ := h
      refine j_callS (st1 := _) (c_X6_copy g cr115) jy_X6_copy kt_yX6_copy kl_RX1_42 dX1_take_48 rfl rfl rfl rfl (jbr _) (jbr _) hn.1 hn.2 (Or.inr rfl) rfl ?_
      replace h := Option.some.inj h
      subst h
      obtain ⟨hr1, hr2⟩ := hr _ _ hK
      exact j_vret dX1_take_51 hr1 hr2
  · skip
    refine j_get (ci := 1) 3 (.int (gI σ 57 3)) jC_1 dX1_take_2 kg_RX1_21 rfl (okX_57 _) (shX_57 _) (fvX_57_3 _) ?_
    replace h := bH_inv h
    obtain ⟨hm117, h⟩ := h
    simp only [List.mem_cons, List.not_mem_nil, or_false] at hm117
    rcases hm117 with rfl | rfl | rfl | rfl | rfl
    · skip
      replace h := bV_inv h
      obtain ⟨σ118, eσ118, h⟩ := h
      refine j_putI 3 jC_1 dX1_take_5 kg_RX1_21 (Or.inl ff_1_3) rfl fk_1_3 (fn_1_3 _) (okX_32 _) (shX_32 _) ?_
      refine j_mem (congrArg eX eσ118) ?_
      refine j_aload_n 1 dX1_take_8 rfl rfl ?_
      refine j_get (ci := 1) 0 (.ref 58) jC_1 dX1_take_9 kg_RX1_9 rfl (okX_57 _) (shX_57 _) (fvX_57_0 _) ?_
      refine j_aload_n 0 dX1_take_12 rfl rfl ?_
      refine j_get (ci := 1) 0 (.ref 33) jC_1 dX1_take_13 kg_RX1_9 rfl (okX_32 _) (shX_32 _) (fvX_32_0 _) ?_
      refine j_aload_n 0 dX1_take_16 rfl rfl ?_
      refine j_get (ci := 1) 3 (.int (gI σ118 32 3)) jC_1 dX1_take_17 kg_RX1_21 rfl (okX_32 _) (shX_32 _) (fvX_32_3 _) ?_
      replace h := bD_inv h
      obtain ⟨r119, σ120, cr119, h⟩ := h
      refine j_callS (st1 := _) (c_X6_copy g cr119) jy_X6_copy kt_yX6_copy kl_RX1_42 dX1_take_20 rfl rfl rfl rfl (jbr _) (jbr _) hn.1 hn.2 (Or.inr rfl) rfl ?_
      refine j_aload_n 1 dX1_take_23 rfl rfl ?_
      refine j_get (ci := 1) 1 (.ref 59) jC_1 dX1_take_24 kg_RX1_15 rfl (okX_57 _) (shX_57 _) (fvX_57_1 _) ?_
      refine j_aload_n 0 dX1_take_27 rfl rfl ?_
      refine j_get (ci := 1) 1 (.ref 34) jC_1 dX1_take_28 kg_RX1_15 rfl (okX_32 _) (shX_32 _) (fvX_32_1 _) ?_
      refine j_aload_n 0 dX1_take_31 rfl rfl ?_
      refine j_get (ci := 1) 3 (.int (gI σ120 32 3)) jC_1 dX1_take_32 kg_RX1_21 rfl (okX_32 _) (shX_32 _) (fvX_32_3 _) ?_
      replace h := bD_inv h
      obtain ⟨r121, σ122, cr121, h⟩ := h
      refine j_callS (st1 := _) (c_X6_copy g cr121) jy_X6_copy kt_yX6_copy kl_RX1_42 dX1_take_35 rfl rfl rfl rfl (jbr _) (jbr _) hn.1 hn.2 (Or.inr rfl) rfl ?_
      refine j_aload_n 1 dX1_take_38 rfl rfl ?_
      refine j_get (ci := 1) 2 (.ref 60) jC_1 dX1_take_39 kg_RX1_18 rfl (okX_57 _) (shX_57 _) (fvX_57_2 _) ?_
      refine j_aload_n 0 dX1_take_42 rfl rfl ?_
      refine j_get (ci := 1) 2 (.ref 35) jC_1 dX1_take_43 kg_RX1_18 rfl (okX_32 _) (shX_32 _) (fvX_32_2 _) ?_
      refine j_bipush (v := 16) dX1_take_46 (by decide) ?_
      replace h := bD_inv h
      obtain ⟨r123, σ124, cr123, h⟩ := h
      refine j_callS (st1 := _) (c_X6_copy g cr123) jy_X6_copy kt_yX6_copy kl_RX1_42 dX1_take_48 rfl rfl rfl rfl (jbr _) (jbr _) hn.1 hn.2 (Or.inr rfl) rfl ?_
      replace h := Option.some.inj h
      subst h
      obtain ⟨hr1, hr2⟩ := hr _ _ hK
      exact j_vret dX1_take_51 hr1 hr2
    · skip
      replace h := bV_inv h
      obtain ⟨σ125, eσ125, h⟩ := h
      refine j_putI 3 jC_1 dX1_take_5 kg_RX1_21 (Or.inl ff_1_3) rfl fk_1_3 (fn_1_3 _) (okX_40 _) (shX_40 _) ?_
      refine j_mem (congrArg eX eσ125) ?_
      refine j_aload_n 1 dX1_take_8 rfl rfl ?_
      refine j_get (ci := 1) 0 (.ref 58) jC_1 dX1_take_9 kg_RX1_9 rfl (okX_57 _) (shX_57 _) (fvX_57_0 _) ?_
      refine j_aload_n 0 dX1_take_12 rfl rfl ?_
      refine j_get (ci := 1) 0 (.ref 41) jC_1 dX1_take_13 kg_RX1_9 rfl (okX_40 _) (shX_40 _) (fvX_40_0 _) ?_
      refine j_aload_n 0 dX1_take_16 rfl rfl ?_
      refine j_get (ci := 1) 3 (.int (gI σ125 40 3)) jC_1 dX1_take_17 kg_RX1_21 rfl (okX_40 _) (shX_40 _) (fvX_40_3 _) ?_
      replace h := bD_inv h
      obtain ⟨r126, σ127, cr126, h⟩ := h
      refine j_callS (st1 := _) (c_X6_copy g cr126) jy_X6_copy kt_yX6_copy kl_RX1_42 dX1_take_20 rfl rfl rfl rfl (jbr _) (jbr _) hn.1 hn.2 (Or.inr rfl) rfl ?_
      refine j_aload_n 1 dX1_take_23 rfl rfl ?_
      refine j_get (ci := 1) 1 (.ref 59) jC_1 dX1_take_24 kg_RX1_15 rfl (okX_57 _) (shX_57 _) (fvX_57_1 _) ?_
      refine j_aload_n 0 dX1_take_27 rfl rfl ?_
      refine j_get (ci := 1) 1 (.ref 42) jC_1 dX1_take_28 kg_RX1_15 rfl (okX_40 _) (shX_40 _) (fvX_40_1 _) ?_
      refine j_aload_n 0 dX1_take_31 rfl rfl ?_
      refine j_get (ci := 1) 3 (.int (gI σ127 40 3)) jC_1 dX1_take_32 kg_RX1_21 rfl (okX_40 _) (shX_40 _) (fvX_40_3 _) ?_
      replace h := bD_inv h
      obtain ⟨r128, σ129, cr128, h⟩ := h
      refine j_callS (st1 := _) (c_X6_copy g cr128) jy_X6_copy kt_yX6_copy kl_RX1_42 dX1_take_35 rfl rfl rfl rfl (jbr _) (jbr _) hn.1 hn.2 (Or.inr rfl) rfl ?_
      refine j_aload_n 1 dX1_take_38 rfl rfl ?_
      refine j_get (ci := 1) 2 (.ref 60) jC_1 dX1_take_39 kg_RX1_18 rfl (okX_57 _) (shX_57 _) (fvX_57_2 _) ?_
      refine j_aload_n 0 dX1_take_42 rfl rfl ?_
      refine j_get (ci := 1) 2 (.ref 43) jC_1 dX1_take_43 kg_RX1_18 rfl (okX_40 _) (shX_40 _) (fvX_40_2 _) ?_
      refine j_bipush (v := 16) dX1_take_46 (by decide) ?_
      replace h := bD_inv h
      obtain ⟨r130, σ131, cr130, h⟩ := h
      refine j_callS (st1 := _) (c_X6_copy g cr130) jy_X6_copy kt_yX6_copy kl_RX1_42 dX1_take_48 rfl rfl rfl rfl (jbr _) (jbr _) hn.1 hn.2 (Or.inr rfl) rfl ?_
      replace h := Option.some.inj h
      subst h
      obtain ⟨hr1, hr2⟩ := hr _ _ hK
      exact j_vret dX1_take_51 hr1 hr2
    · skip
      replace h := bV_inv h
      obtain ⟨σ132, eσ132, h⟩ := h
      refine j_putI 3 jC_1 dX1_take_5 kg_RX1_21 (Or.inl ff_1_3) rfl fk_1_3 (fn_1_3 _) (okX_47 _) (shX_47 _) ?_
      refine j_mem (congrArg eX eσ132) ?_
      refine j_aload_n 1 dX1_take_8 rfl rfl ?_
      refine j_get (ci := 1) 0 (.ref 58) jC_1 dX1_take_9 kg_RX1_9 rfl (okX_57 _) (shX_57 _) (fvX_57_0 _) ?_
      refine j_aload_n 0 dX1_take_12 rfl rfl ?_
      refine j_get (ci := 1) 0 (.ref 48) jC_1 dX1_take_13 kg_RX1_9 rfl (okX_47 _) (shX_47 _) (fvX_47_0 _) ?_
      refine j_aload_n 0 dX1_take_16 rfl rfl ?_
      refine j_get (ci := 1) 3 (.int (gI σ132 47 3)) jC_1 dX1_take_17 kg_RX1_21 rfl (okX_47 _) (shX_47 _) (fvX_47_3 _) ?_
      replace h := bD_inv h
      obtain ⟨r133, σ134, cr133, h⟩ := h
      refine j_callS (st1 := _) (c_X6_copy g cr133) jy_X6_copy kt_yX6_copy kl_RX1_42 dX1_take_20 rfl rfl rfl rfl (jbr _) (jbr _) hn.1 hn.2 (Or.inr rfl) rfl ?_
      refine j_aload_n 1 dX1_take_23 rfl rfl ?_
      refine j_get (ci := 1) 1 (.ref 59) jC_1 dX1_take_24 kg_RX1_15 rfl (okX_57 _) (shX_57 _) (fvX_57_1 _) ?_
      refine j_aload_n 0 dX1_take_27 rfl rfl ?_
      refine j_get (ci := 1) 1 (.ref 49) jC_1 dX1_take_28 kg_RX1_15 rfl (okX_47 _) (shX_47 _) (fvX_47_1 _) ?_
      refine j_aload_n 0 dX1_take_31 rfl rfl ?_
      refine j_get (ci := 1) 3 (.int (gI σ134 47 3)) jC_1 dX1_take_32 kg_RX1_21 rfl (okX_47 _) (shX_47 _) (fvX_47_3 _) ?_
      replace h := bD_inv h
      obtain ⟨r135, σ136, cr135, h⟩ := h
      refine j_callS (st1 := _) (c_X6_copy g cr135) jy_X6_copy kt_yX6_copy kl_RX1_42 dX1_take_35 rfl rfl rfl rfl (jbr _) (jbr _) hn.1 hn.2 (Or.inr rfl) rfl ?_
      refine j_aload_n 1 dX1_take_38 rfl rfl ?_
      refine j_get (ci := 1) 2 (.ref 60) jC_1 dX1_take_39 kg_RX1_18 rfl (okX_57 _) (shX_57 _) (fvX_57_2 _) ?_
      refine j_aload_n 0 dX1_take_42 rfl rfl ?_
      refine j_get (ci := 1) 2 (.ref 50) jC_1 dX1_take_43 kg_RX1_18 rfl (okX_47 _) (shX_47 _) (fvX_47_2 _) ?_
      refine j_bipush (v := 16) dX1_take_46 (by decide) ?_
      replace h := bD_inv h
      obtain ⟨r137, σ138, cr137, h⟩ := h
      refine j_callS (st1 := _) (c_X6_copy g cr137) jy_X6_copy kt_yX6_copy kl_RX1_42 dX1_take_48 rfl rfl rfl rfl (jbr _) (jbr _) hn.1 hn.2 (Or.inr rfl) rfl ?_
      replace h := Option.some.inj h
      subst h
      obtain ⟨hr1, hr2⟩ := hr _ _ hK
      exact j_vret dX1_take_51 hr1 hr2
    · skip
      replace h := bV_inv h
      obtain ⟨σ139, eσ139, h⟩ := h
      refine j_putI 3 jC_1 dX1_take_5 kg_RX1_21 (Or.inl ff_1_3) rfl fk_1_3 (fn_1_3 _) (okX_57 _) (shX_57 _) ?_
      refine j_mem (congrArg eX eσ139) ?_
      refine j_aload_n 1 dX1_take_8 rfl rfl ?_
      refine j_get (ci := 1) 0 (.ref 58) jC_1 dX1_take_9 kg_RX1_9 rfl (okX_57 _) (shX_57 _) (fvX_57_0 _) ?_
      refine j_aload_n 0 dX1_take_12 rfl rfl ?_
      refine j_get (ci := 1) 0 (.ref 58) jC_1 dX1_take_13 kg_RX1_9 rfl (okX_57 _) (shX_57 _) (fvX_57_0 _) ?_
      refine j_aload_n 0 dX1_take_16 rfl rfl ?_
      refine j_get (ci := 1) 3 (.int (gI σ139 57 3)) jC_1 dX1_take_17 kg_RX1_21 rfl (okX_57 _) (shX_57 _) (fvX_57_3 _) ?_
      replace h := bD_inv h
      obtain ⟨r140, σ141, cr140, h⟩ := h
      refine j_callS (st1 := _) (c_X6_copy g cr140) jy_X6_copy kt_yX6_copy kl_RX1_42 dX1_take_20 rfl rfl rfl rfl (jbr _) (jbr _) hn.1 hn.2 (Or.inr rfl) rfl ?_
      refine j_aload_n 1 dX1_take_23 rfl rfl ?_
      refine j_get (ci := 1) 1 (.ref 59) jC_1 dX1_take_24 kg_RX1_15 rfl (okX_57 _) (shX_57 _) (fvX_57_1 _) ?_
      refine j_aload_n 0 dX1_take_27 rfl rfl ?_
      refine j_get (ci := 1) 1 (.ref 59) jC_1 dX1_take_28 kg_RX1_15 rfl (okX_57 _) (shX_57 _) (fvX_57_1 _) ?_
      refine j_aload_n 0 dX1_take_31 rfl rfl ?_
      refine j_get (ci := 1) 3 (.int (gI σ141 57 3)) jC_1 dX1_take_32 kg_RX1_21 rfl (okX_57 _) (shX_57 _) (fvX_57_3 _) ?_
      replace h := bD_inv h
      obtain ⟨r142, σ143, cr142, h⟩ := h
      refine j_callS (st1 := _) (c_X6_copy g cr142) jy_X6_copy kt_yX6_copy kl_RX1_42 dX1_take_35 rfl rfl rfl rfl (jbr _) (jbr _) hn.1 hn.2 (Or.inr rfl) rfl ?_
      refine j_aload_n 1 dX1_take_38 rfl rfl ?_
      refine j_get (ci := 1) 2 (.ref 60) jC_1 dX1_take_39 kg_RX1_18 rfl (okX_57 _) (shX_57 _) (fvX_57_2 _) ?_
      refine j_aload_n 0 dX1_take_42 rfl rfl ?_
      refine j_get (ci := 1) 2 (.ref 60) jC_1 dX1_take_43 kg_RX1_18 rfl (okX_57 _) (shX_57 _) (fvX_57_2 _) ?_
      refine j_bipush (v := 16) dX1_take_46 (by decide) ?_
      replace h := bD_inv h
      obtain ⟨r144, σ145, cr144, h⟩ := h
      refine j_callS (st1 := _) (c_X6_copy g cr144) jy_X6_copy kt_yX6_copy kl_RX1_42 dX1_take_48 rfl rfl rfl rfl (jbr _) (jbr _) hn.1 hn.2 (Or.inr rfl) rfl ?_
      replace h := Option.some.inj h
      subst h
      obtain ⟨hr1, hr2⟩ := hr _ _ hK
      exact j_vret dX1_take_51 hr1 hr2
    · skip
      replace h := bV_inv h
      obtain ⟨σ146, eσ146, h⟩ := h
      refine j_putI 3 jC_1 dX1_take_5 kg_RX1_21 (Or.inl ff_1_3) rfl fk_1_3 (fn_1_3 _) (okX_67 _) (shX_67 _) ?_
      refine j_mem (congrArg eX eσ146) ?_
      refine j_aload_n 1 dX1_take_8 rfl rfl ?_
      refine j_get (ci := 1) 0 (.ref 58) jC_1 dX1_take_9 kg_RX1_9 rfl (okX_57 _) (shX_57 _) (fvX_57_0 _) ?_
      refine j_aload_n 0 dX1_take_12 rfl rfl ?_
      refine j_get (ci := 1) 0 (.ref 68) jC_1 dX1_take_13 kg_RX1_9 rfl (okX_67 _) (shX_67 _) (fvX_67_0 _) ?_
      refine j_aload_n 0 dX1_take_16 rfl rfl ?_
      refine j_get (ci := 1) 3 (.int (gI σ146 67 3)) jC_1 dX1_take_17 kg_RX1_21 rfl (okX_67 _) (shX_67 _) (fvX_67_3 _) ?_
      replace h := bD_inv h
      obtain ⟨r147, σ148, cr147, h⟩ := h
      refine j_callS (st1 := _) (c_X6_copy g cr147) jy_X6_copy kt_yX6_copy kl_RX1_42 dX1_take_20 rfl rfl rfl rfl (jbr _) (jbr _) hn.1 hn.2 (Or.inr rfl) rfl ?_
      refine j_aload_n 1 dX1_take_23 rfl rfl ?_
      refine j_get (ci := 1) 1 (.ref 59) jC_1 dX1_take_24 kg_RX1_15 rfl (okX_57 _) (shX_57 _) (fvX_57_1 _) ?_
      refine j_aload_n 0 dX1_take_27 rfl rfl ?_
      refine j_get (ci := 1) 1 (.ref 69) jC_1 dX1_take_28 kg_RX1_15 rfl (okX_67 _) (shX_67 _) (fvX_67_1 _) ?_
      refine j_aload_n 0 dX1_take_31 rfl rfl ?_
      refine j_get (ci := 1) 3 (.int (gI σ148 67 3)) jC_1 dX1_take_32 kg_RX1_21 rfl (okX_67 _) (shX_67 _) (fvX_67_3 _) ?_
      replace h := bD_inv h
      obtain ⟨r149, σ150, cr149, h⟩ := h
      refine j_callS (st1 := _) (c_X6_copy g cr149) jy_X6_copy kt_yX6_copy kl_RX1_42 dX1_take_35 rfl rfl rfl rfl (jbr _) (jbr _) hn.1 hn.2 (Or.inr rfl) rfl ?_
      refine j_aload_n 1 dX1_take_38 rfl rfl ?_
      refine j_get (ci := 1) 2 (.ref 60) jC_1 dX1_take_39 kg_RX1_18 rfl (okX_57 _) (shX_57 _) (fvX_57_2 _) ?_
      refine j_aload_n 0 dX1_take_42 rfl rfl ?_
      refine j_get (ci := 1) 2 (.ref 70) jC_1 dX1_take_43 kg_RX1_18 rfl (okX_67 _) (shX_67 _) (fvX_67_2 _) ?_
      refine j_bipush (v := 16) dX1_take_46 (by decide) ?_
      replace h := bD_inv h
      obtain ⟨r151, σ152, cr151, h⟩ := h
      refine j_callS (st1 := _) (c_X6_copy g cr151) jy_X6_copy kt_yX6_copy kl_RX1_42 dX1_take_48 rfl rfl rfl rfl (jbr _) (jbr _) hn.1 hn.2 (Or.inr rfl) rfl ?_
      replace h := Option.some.inj h
      subst h
      obtain ⟨hr1, hr2⟩ := hr _ _ hK
      exact j_vret dX1_take_51 hr1 hr2
  · skip
    refine j_get (ci := 1) 3 (.int (gI σ 67 3)) jC_1 dX1_take_2 kg_RX1_21 rfl (okX_67 _) (shX_67 _) (fvX_67_3 _) ?_
    replace h := bH_inv h
    obtain ⟨hm153, h⟩ := h
    simp only [List.mem_cons, List.not_mem_nil, or_false] at hm153
    rcases hm153 with rfl | rfl | rfl | rfl | rfl
    · skip
      replace h := bV_inv h
      obtain ⟨σ154, eσ154, h⟩ := h
      refine j_putI 3 jC_1 dX1_take_5 kg_RX1_21 (Or.inl ff_1_3) rfl fk_1_3 (fn_1_3 _) (okX_32 _) (shX_32 _) ?_
      refine j_mem (congrArg eX eσ154) ?_
      refine j_aload_n 1 dX1_take_8 rfl rfl ?_
      refine j_get (ci := 1) 0 (.ref 68) jC_1 dX1_take_9 kg_RX1_9 rfl (okX_67 _) (shX_67 _) (fvX_67_0 _) ?_
      refine j_aload_n 0 dX1_take_12 rfl rfl ?_
      refine j_get (ci := 1) 0 (.ref 33) jC_1 dX1_take_13 kg_RX1_9 rfl (okX_32 _) (shX_32 _) (fvX_32_0 _) ?_
      refine j_aload_n 0 dX1_take_16 rfl rfl ?_
      refine j_get (ci := 1) 3 (.int (gI σ154 32 3)) jC_1 dX1_take_17 kg_RX1_21 rfl (okX_32 _) (shX_32 _) (fvX_32_3 _) ?_
      replace h := bD_inv h
      obtain ⟨r155, σ156, cr155, h⟩ := h
      refine j_callS (st1 := _) (c_X6_copy g cr155) jy_X6_copy kt_yX6_copy kl_RX1_42 dX1_take_20 rfl rfl rfl rfl (jbr _) (jbr _) hn.1 hn.2 (Or.inr rfl) rfl ?_
      refine j_aload_n 1 dX1_take_23 rfl rfl ?_
      refine j_get (ci := 1) 1 (.ref 69) jC_1 dX1_take_24 kg_RX1_15 rfl (okX_67 _) (shX_67 _) (fvX_67_1 _) ?_
      refine j_aload_n 0 dX1_take_27 rfl rfl ?_
      refine j_get (ci := 1) 1 (.ref 34) jC_1 dX1_take_28 kg_RX1_15 rfl (okX_32 _) (shX_32 _) (fvX_32_1 _) ?_
      refine j_aload_n 0 dX1_take_31 rfl rfl ?_
      refine j_get (ci := 1) 3 (.int (gI σ156 32 3)) jC_1 dX1_take_32 kg_RX1_21 rfl (okX_32 _) (shX_32 _) (fvX_32_3 _) ?_
      replace h := bD_inv h
      obtain ⟨r157, σ158, cr157, h⟩ := h
      refine j_callS (st1 := _) (c_X6_copy g cr157) jy_X6_copy kt_yX6_copy kl_RX1_42 dX1_take_35 rfl rfl rfl rfl (jbr _) (jbr _) hn.1 hn.2 (Or.inr rfl) rfl ?_
      refine j_aload_n 1 dX1_take_38 rfl rfl ?_
      refine j_get (ci := 1) 2 (.ref 70) jC_1 dX1_take_39 kg_RX1_18 rfl (okX_67 _) (shX_67 _) (fvX_67_2 _) ?_
      refine j_aload_n 0 dX1_take_42 rfl rfl ?_
      refine j_get (ci := 1) 2 (.ref 35) jC_1 dX1_take_43 kg_RX1_18 rfl (okX_32 _) (shX_32 _) (fvX_32_2 _) ?_
      refine j_bipush (v := 16) dX1_take_46 (by decide) ?_
      replace h := bD_inv h
      obtain ⟨r159, σ160, cr159, h⟩ := h
      refine j_callS (st1 := _) (c_X6_copy g cr159) jy_X6_copy kt_yX6_copy kl_RX1_42 dX1_take_48 rfl rfl rfl rfl (jbr _) (jbr _) hn.1 hn.2 (Or.inr rfl) rfl ?_
      replace h := Option.some.inj h
      subst h
      obtain ⟨hr1, hr2⟩ := hr _ _ hK
      exact j_vret dX1_take_51 hr1 hr2
    · skip
      replace h := bV_inv h
      obtain ⟨σ161, eσ161, h⟩ := h
      refine j_putI 3 jC_1 dX1_take_5 kg_RX1_21 (Or.inl ff_1_3) rfl fk_1_3 (fn_1_3 _) (okX_40 _) (shX_40 _) ?_
      refine j_mem (congrArg eX eσ161) ?_
      refine j_aload_n 1 dX1_take_8 rfl rfl ?_
      refine j_get (ci := 1) 0 (.ref 68) jC_1 dX1_take_9 kg_RX1_9 rfl (okX_67 _) (shX_67 _) (fvX_67_0 _) ?_
      refine j_aload_n 0 dX1_take_12 rfl rfl ?_
      refine j_get (ci := 1) 0 (.ref 41) jC_1 dX1_take_13 kg_RX1_9 rfl (okX_40 _) (shX_40 _) (fvX_40_0 _) ?_
      refine j_aload_n 0 dX1_take_16 rfl rfl ?_
      refine j_get (ci := 1) 3 (.int (gI σ161 40 3)) jC_1 dX1_take_17 kg_RX1_21 rfl (okX_40 _) (shX_40 _) (fvX_40_3 _) ?_
      replace h := bD_inv h
      obtain ⟨r162, σ163, cr162, h⟩ := h
      refine j_callS (st1 := _) (c_X6_copy g cr162) jy_X6_copy kt_yX6_copy kl_RX1_42 dX1_take_20 rfl rfl rfl rfl (jbr _) (jbr _) hn.1 hn.2 (Or.inr rfl) rfl ?_
      refine j_aload_n 1 dX1_take_23 rfl rfl ?_
      refine j_get (ci := 1) 1 (.ref 69) jC_1 dX1_take_24 kg_RX1_15 rfl (okX_67 _) (shX_67 _) (fvX_67_1 _) ?_
      refine j_aload_n 0 dX1_take_27 rfl rfl ?_
      refine j_get (ci := 1) 1 (.ref 42) jC_1 dX1_take_28 kg_RX1_15 rfl (okX_40 _) (shX_40 _) (fvX_40_1 _) ?_
      refine j_aload_n 0 dX1_take_31 rfl rfl ?_
      refine j_get (ci := 1) 3 (.int (gI σ163 40 3)) jC_1 dX1_take_32 kg_RX1_21 rfl (okX_40 _) (shX_40 _) (fvX_40_3 _) ?_
      replace h := bD_inv h
      obtain ⟨r164, σ165, cr164, h⟩ := h
      refine j_callS (st1 := _) (c_X6_copy g cr164) jy_X6_copy kt_yX6_copy kl_RX1_42 dX1_take_35 rfl rfl rfl rfl (jbr _) (jbr _) hn.1 hn.2 (Or.inr rfl) rfl ?_
      refine j_aload_n 1 dX1_take_38 rfl rfl ?_
      refine j_get (ci := 1) 2 (.ref 70) jC_1 dX1_take_39 kg_RX1_18 rfl (okX_67 _) (shX_67 _) (fvX_67_2 _) ?_
      refine j_aload_n 0 dX1_take_42 rfl rfl ?_
      refine j_get (ci := 1) 2 (.ref 43) jC_1 dX1_take_43 kg_RX1_18 rfl (okX_40 _) (shX_40 _) (fvX_40_2 _) ?_
      refine j_bipush (v := 16) dX1_take_46 (by decide) ?_
      replace h := bD_inv h
      obtain ⟨r166, σ167, cr166, h⟩ := h
      refine j_callS (st1 := _) (c_X6_copy g cr166) jy_X6_copy kt_yX6_copy kl_RX1_42 dX1_take_48 rfl rfl rfl rfl (jbr _) (jbr _) hn.1 hn.2 (Or.inr rfl) rfl ?_
      replace h := Option.some.inj h
      subst h
      obtain ⟨hr1, hr2⟩ := hr _ _ hK
      exact j_vret dX1_take_51 hr1 hr2
    · skip
      replace h := bV_inv h
      obtain ⟨σ168, eσ168, h⟩ := h
      refine j_putI 3 jC_1 dX1_take_5 kg_RX1_21 (Or.inl ff_1_3) rfl fk_1_3 (fn_1_3 _) (okX_47 _) (shX_47 _) ?_
      refine j_mem (congrArg eX eσ168) ?_
      refine j_aload_n 1 dX1_take_8 rfl rfl ?_
      refine j_get (ci := 1) 0 (.ref 68) jC_1 dX1_take_9 kg_RX1_9 rfl (okX_67 _) (shX_67 _) (fvX_67_0 _) ?_
      refine j_aload_n 0 dX1_take_12 rfl rfl ?_
      refine j_get (ci := 1) 0 (.ref 48) jC_1 dX1_take_13 kg_RX1_9 rfl (okX_47 _) (shX_47 _) (fvX_47_0 _) ?_
      refine j_aload_n 0 dX1_take_16 rfl rfl ?_
      refine j_get (ci := 1) 3 (.int (gI σ168 47 3)) jC_1 dX1_take_17 kg_RX1_21 rfl (okX_47 _) (shX_47 _) (fvX_47_3 _) ?_
      replace h := bD_inv h
      obtain ⟨r169, σ170, cr169, h⟩ := h
      refine j_callS (st1 := _) (c_X6_copy g cr169) jy_X6_copy kt_yX6_copy kl_RX1_42 dX1_take_20 rfl rfl rfl rfl (jbr _) (jbr _) hn.1 hn.2 (Or.inr rfl) rfl ?_
      refine j_aload_n 1 dX1_take_23 rfl rfl ?_
      refine j_get (ci := 1) 1 (.ref 69) jC_1 dX1_take_24 kg_RX1_15 rfl (okX_67 _) (shX_67 _) (fvX_67_1 _) ?_
      refine j_aload_n 0 dX1_take_27 rfl rfl ?_
      refine j_get (ci := 1) 1 (.ref 49) jC_1 dX1_take_28 kg_RX1_15 rfl (okX_47 _) (shX_47 _) (fvX_47_1 _) ?_
      refine j_aload_n 0 dX1_take_31 rfl rfl ?_
      refine j_get (ci := 1) 3 (.int (gI σ170 47 3)) jC_1 dX1_take_32 kg_RX1_21 rfl (okX_47 _) (shX_47 _) (fvX_47_3 _) ?_
      replace h := bD_inv h
      obtain ⟨r171, σ172, cr171, h⟩ := h
      refine j_callS (st1 := _) (c_X6_copy g cr171) jy_X6_copy kt_yX6_copy kl_RX1_42 dX1_take_35 rfl rfl rfl rfl (jbr _) (jbr _) hn.1 hn.2 (Or.inr rfl) rfl ?_
      refine j_aload_n 1 dX1_take_38 rfl rfl ?_
      refine j_get (ci := 1) 2 (.ref 70) jC_1 dX1_take_39 kg_RX1_18 rfl (okX_67 _) (shX_67 _) (fvX_67_2 _) ?_
      refine j_aload_n 0 dX1_take_42 rfl rfl ?_
      refine j_get (ci := 1) 2 (.ref 50) jC_1 dX1_take_43 kg_RX1_18 rfl (okX_47 _) (shX_47 _) (fvX_47_2 _) ?_
      refine j_bipush (v := 16) dX1_take_46 (by decide) ?_
      replace h := bD_inv h
      obtain ⟨r173, σ174, cr173, h⟩ := h
      refine j_callS (st1 := _) (c_X6_copy g cr173) jy_X6_copy kt_yX6_copy kl_RX1_42 dX1_take_48 rfl rfl rfl rfl (jbr _) (jbr _) hn.1 hn.2 (Or.inr rfl) rfl ?_
      replace h := Option.some.inj h
      subst h
      obtain ⟨hr1, hr2⟩ := hr _ _ hK
      exact j_vret dX1_take_51 hr1 hr2
    · skip
      replace h := bV_inv h
      obtain ⟨σ175, eσ175, h⟩ := h
      refine j_putI 3 jC_1 dX1_take_5 kg_RX1_21 (Or.inl ff_1_3) rfl fk_1_3 (fn_1_3 _) (okX_57 _) (shX_57 _) ?_
      refine j_mem (congrArg eX eσ175) ?_
      refine j_aload_n 1 dX1_take_8 rfl rfl ?_
      refine j_get (ci := 1) 0 (.ref 68) jC_1 dX1_take_9 kg_RX1_9 rfl (okX_67 _) (shX_67 _) (fvX_67_0 _) ?_
      refine j_aload_n 0 dX1_take_12 rfl rfl ?_
      refine j_get (ci := 1) 0 (.ref 58) jC_1 dX1_take_13 kg_RX1_9 rfl (okX_57 _) (shX_57 _) (fvX_57_0 _) ?_
      refine j_aload_n 0 dX1_take_16 rfl rfl ?_
      refine j_get (ci := 1) 3 (.int (gI σ175 57 3)) jC_1 dX1_take_17 kg_RX1_21 rfl (okX_57 _) (shX_57 _) (fvX_57_3 _) ?_
      replace h := bD_inv h
      obtain ⟨r176, σ177, cr176, h⟩ := h
      refine j_callS (st1 := _) (c_X6_copy g cr176) jy_X6_copy kt_yX6_copy kl_RX1_42 dX1_take_20 rfl rfl rfl rfl (jbr _) (jbr _) hn.1 hn.2 (Or.inr rfl) rfl ?_
      refine j_aload_n 1 dX1_take_23 rfl rfl ?_
      refine j_get (ci := 1) 1 (.ref 69) jC_1 dX1_take_24 kg_RX1_15 rfl (okX_67 _) (shX_67 _) (fvX_67_1 _) ?_
      refine j_aload_n 0 dX1_take_27 rfl rfl ?_
      refine j_get (ci := 1) 1 (.ref 59) jC_1 dX1_take_28 kg_RX1_15 rfl (okX_57 _) (shX_57 _) (fvX_57_1 _) ?_
      refine j_aload_n 0 dX1_take_31 rfl rfl ?_
      refine j_get (ci := 1) 3 (.int (gI σ177 57 3)) jC_1 dX1_take_32 kg_RX1_21 rfl (okX_57 _) (shX_57 _) (fvX_57_3 _) ?_
      replace h := bD_inv h
      obtain ⟨r178, σ179, cr178, h⟩ := h
      refine j_callS (st1 := _) (c_X6_copy g cr178) jy_X6_copy kt_yX6_copy kl_RX1_42 dX1_take_35 rfl rfl rfl rfl (jbr _) (jbr _) hn.1 hn.2 (Or.inr rfl) rfl ?_
      refine j_aload_n 1 dX1_take_38 rfl rfl ?_
      refine j_get (ci := 1) 2 (.ref 70) jC_1 dX1_take_39 kg_RX1_18 rfl (okX_67 _) (shX_67 _) (fvX_67_2 _) ?_
      refine j_aload_n 0 dX1_take_42 rfl rfl ?_
      refine j_get (ci := 1) 2 (.ref 60) jC_1 dX1_take_43 kg_RX1_18 rfl (okX_57 _) (shX_57 _) (fvX_57_2 _) ?_
      refine j_bipush (v := 16) dX1_take_46 (by decide) ?_
      replace h := bD_inv h
      obtain ⟨r180, σ181, cr180, h⟩ := h
      refine j_callS (st1 := _) (c_X6_copy g cr180) jy_X6_copy kt_yX6_copy kl_RX1_42 dX1_take_48 rfl rfl rfl rfl (jbr _) (jbr _) hn.1 hn.2 (Or.inr rfl) rfl ?_
      replace h := Option.some.inj h
      subst h
      obtain ⟨hr1, hr2⟩ := hr _ _ hK
      exact j_vret dX1_take_51 hr1 hr2
    · skip
      replace h := bV_inv h
      obtain ⟨σ182, eσ182, h⟩ := h
      refine j_putI 3 jC_1 dX1_take_5 kg_RX1_21 (Or.inl ff_1_3) rfl fk_1_3 (fn_1_3 _) (okX_67 _) (shX_67 _) ?_
      refine j_mem (congrArg eX eσ182) ?_
      refine j_aload_n 1 dX1_take_8 rfl rfl ?_
      refine j_get (ci := 1) 0 (.ref 68) jC_1 dX1_take_9 kg_RX1_9 rfl (okX_67 _) (shX_67 _) (fvX_67_0 _) ?_
      refine j_aload_n 0 dX1_take_12 rfl rfl ?_
      refine j_get (ci := 1) 0 (.ref 68) jC_1 dX1_take_13 kg_RX1_9 rfl (okX_67 _) (shX_67 _) (fvX_67_0 _) ?_
      refine j_aload_n 0 dX1_take_16 rfl rfl ?_
      refine j_get (ci := 1) 3 (.int (gI σ182 67 3)) jC_1 dX1_take_17 kg_RX1_21 rfl (okX_67 _) (shX_67 _) (fvX_67_3 _) ?_
      replace h := bD_inv h
      obtain ⟨r183, σ184, cr183, h⟩ := h
      refine j_callS (st1 := _) (c_X6_copy g cr183) jy_X6_copy kt_yX6_copy kl_RX1_42 dX1_take_20 rfl rfl rfl rfl (jbr _) (jbr _) hn.1 hn.2 (Or.inr rfl) rfl ?_
      refine j_aload_n 1 dX1_take_23 rfl rfl ?_
      refine j_get (ci := 1) 1 (.ref 69) jC_1 dX1_take_24 kg_RX1_15 rfl (okX_67 _) (shX_67 _) (fvX_67_1 _) ?_
      refine j_aload_n 0 dX1_take_27 rfl rfl ?_
      refine j_get (ci := 1) 1 (.ref 69) jC_1 dX1_take_28 kg_RX1_15 rfl (okX_67 _) (shX_67 _) (fvX_67_1 _) ?_
      refine j_aload_n 0 dX1_take_31 rfl rfl ?_
      refine j_get (ci := 1) 3 (.int (gI σ184 67 3)) jC_1 dX1_take_32 kg_RX1_21 rfl (okX_67 _) (shX_67 _) (fvX_67_3 _) ?_
      replace h := bD_inv h
      obtain ⟨r185, σ186, cr185, h⟩ := h
      refine j_callS (st1 := _) (c_X6_copy g cr185) jy_X6_copy kt_yX6_copy kl_RX1_42 dX1_take_35 rfl rfl rfl rfl (jbr _) (jbr _) hn.1 hn.2 (Or.inr rfl) rfl ?_
      refine j_aload_n 1 dX1_take_38 rfl rfl ?_
      refine j_get (ci := 1) 2 (.ref 70) jC_1 dX1_take_39 kg_RX1_18 rfl (okX_67 _) (shX_67 _) (fvX_67_2 _) ?_
      refine j_aload_n 0 dX1_take_42 rfl rfl ?_
      refine j_get (ci := 1) 2 (.ref 70) jC_1 dX1_take_43 kg_RX1_18 rfl (okX_67 _) (shX_67 _) (fvX_67_2 _) ?_
      refine j_bipush (v := 16) dX1_take_46 (by decide) ?_
      replace h := bD_inv h
      obtain ⟨r187, σ188, cr187, h⟩ := h
      refine j_callS (st1 := _) (c_X6_copy g cr187) jy_X6_copy kt_yX6_copy kl_RX1_42 dX1_take_48 rfl rfl rfl rfl (jbr _) (jbr _) hn.1 hn.2 (Or.inr rfl) rfl ?_
      replace h := Option.some.inj h
      subst h
      obtain ⟨hr1, hr2⟩ := hr _ _ hK
      exact j_vret dX1_take_51 hr1 hr2
theorem c_X1_take (g : Bool) {σ : jS} {x0 : Nat} {x1 : Nat} {r : Unit} {σ2 : jS} (h : f_X1_take σ x0 x1 = some (r, σ2)) : Cn yX1_take cX1_take 2 none 3 g [.ref x0, .ref x1] (eX σ) none (eX σ2) :=
  Cn_of (by decide) (Nat.le_refl _) (Nat.le_refl _) (Nat.le_of_ble_eq_true rfl) (f_X1_take_ok (Kp := (fun o => o = (r, σ2))) σ x0 x1 ⟨jbr _, jbr _⟩ (fun r2 s2 q => by cases q; exact ⟨rfl, rfl⟩) _ h rfl)
def f_X3_empty (σ : jS) : Option (Unit × jS) :=
  bV (sI σ 23 2 0) fun σ1 =>
  bV (sI σ1 23 3 0) fun σ2 =>
  some (((), σ2))
set_option maxHeartbeats 1000000 in
set_option maxRecDepth 20000 in
theorem f_X3_empty_ok {g : Bool} {rv : Option Value} {μ' : jM} (σ : jS) {Kp : (Unit × jS) → Prop} (hn : Nat.ble nX μ'.1 = true ∧ Nat.ble wX μ'.2.1 = true) (hr : ∀ (r : Unit) (s : jS), Kp ((r, s)) → rv = none ∧ μ' = eX s) (o : (Unit × jS)) (h : f_X3_empty σ = some o) (hK : Kp o) : J yX3_empty cX3_empty 1 none 1 g rv μ' 0 [(0, .ref 23)] [] (eX σ) := by
  unfold f_X3_empty at h
  refine j_aload_n 0 dX3_empty_0 rfl rfl ?_
  refine j_iconst (v := 0) dX3_empty_1 (by decide) ?_
  replace h := bV_inv h
  obtain ⟨σ3, eσ3, h⟩ := h
  refine j_putI 2 jC_3 dX3_empty_2 kg_RX3_28 (Or.inl ff_3_2) rfl fk_3_2 (fn_3_2 _) (okX_23 _) (shX_23 _) ?_
  refine j_mem (congrArg eX eσ3) ?_
  refine j_aload_n 0 dX3_empty_5 rfl rfl ?_
  refine j_iconst (v := 0) dX3_empty_6 (by decide) ?_
  replace h := bV_inv h
  obtain ⟨σ4, eσ4, h⟩ := h
  refine j_putI 3 jC_3 dX3_empty_7 kg_RX3_32 (Or.inl ff_3_3) rfl fk_3_3 (fn_3_3 _) (okX_23 _) (shX_23 _) ?_
  refine j_mem (congrArg eX eσ4) ?_
  replace h := Option.some.inj h
  subst h
  obtain ⟨hr1, hr2⟩ := hr _ _ hK
  exact j_vret dX3_empty_10 hr1 hr2
theorem c_X3_empty (g : Bool) {σ : jS} {r : Unit} {σ2 : jS} (h : f_X3_empty σ = some (r, σ2)) : Cn yX3_empty cX3_empty 1 none 1 g [.ref 23] (eX σ) none (eX σ2) :=
  Cn_of (by decide) (Nat.le_refl _) (Nat.le_refl _) (Nat.le_of_ble_eq_true rfl) (f_X3_empty_ok (Kp := (fun o => o = (r, σ2))) σ ⟨jbr _, jbr _⟩ (fun r2 s2 q => by cases q; exact ⟨rfl, rfl⟩) _ h rfl)
def f_X5_fail (σ : jS) (x1 : Int32) (x2 : Int32) : Option (Unit × jS) :=
  if (gI σ 2 3) = 0 then (bV (sI σ 2 3 x1) fun σ1 =>
  bV (sI σ1 2 2 x2) fun σ2 =>
  some (((), σ2)))
  else (some (((), σ)))
set_option maxHeartbeats 1000000 in
set_option maxRecDepth 20000 in
theorem f_X5_fail_ok {g : Bool} {rv : Option Value} {μ' : jM} (σ : jS) (x1 : Int32) (x2 : Int32) {Kp : (Unit × jS) → Prop} (hn : Nat.ble nX μ'.1 = true ∧ Nat.ble wX μ'.2.1 = true) (hr : ∀ (r : Unit) (s : jS), Kp ((r, s)) → rv = none ∧ μ' = eX s) (o : (Unit × jS)) (h : f_X5_fail σ x1 x2 = some o) (hK : Kp o) : J yX5_fail cX5_fail 3 none 1 g rv μ' 0 [(0, .ref 2), (1, .int x1), (2, .int x2)] [] (eX σ) := by
  unfold f_X5_fail at h
  refine j_aload_n 0 dX5_fail_0 rfl rfl ?_
  refine j_get (ci := 5) 3 (.int (gI σ 2 3)) jC_5 dX5_fail_1 kg_RX5_33 rfl (okX_2 _) (shX_2 _) (fvX_2_3 _) ?_
  refine j_if_eq 8 dX5_fail_4 (by decide) (fun hc3 => ?_) (fun hc3 => ?_)
  · replace h := jif_t hc3 h
    refine j_aload_n 0 dX5_fail_8 rfl rfl ?_
    refine j_iload_n 1 dX5_fail_9 rfl rfl ?_
    replace h := bV_inv h
    obtain ⟨σ4, eσ4, h⟩ := h
    refine j_putI 3 jC_5 dX5_fail_10 kg_RX5_33 (Or.inl ff_5_3) rfl fk_5_3 (fn_5_3 _) (okX_2 _) (shX_2 _) ?_
    refine j_mem (congrArg eX eσ4) ?_
    refine j_aload_n 0 dX5_fail_13 rfl rfl ?_
    refine j_iload_n 2 dX5_fail_14 rfl rfl ?_
    replace h := bV_inv h
    obtain ⟨σ5, eσ5, h⟩ := h
    refine j_putI 2 jC_5 dX5_fail_15 kg_RX5_15 (Or.inl ff_5_2) rfl fk_5_2 (fn_5_2 _) (okX_2 _) (shX_2 _) ?_
    refine j_mem (congrArg eX eσ5) ?_
    replace h := Option.some.inj h
    subst h
    obtain ⟨hr1, hr2⟩ := hr _ _ hK
    exact j_vret dX5_fail_18 hr1 hr2
  · replace h := jif_f hc3 h
    replace h := Option.some.inj h
    subst h
    obtain ⟨hr1, hr2⟩ := hr _ _ hK
    exact j_vret dX5_fail_7 hr1 hr2
theorem c_X5_fail (g : Bool) {σ : jS} {x1 : Int32} {x2 : Int32} {r : Unit} {σ2 : jS} (h : f_X5_fail σ x1 x2 = some (r, σ2)) : Cn yX5_fail cX5_fail 3 none 1 g [.ref 2, .int x1, .int x2] (eX σ) none (eX σ2) :=
  Cn_of (by decide) (Nat.le_refl _) (Nat.le_refl _) (Nat.le_of_ble_eq_true rfl) (f_X5_fail_ok (Kp := (fun o => o = (r, σ2))) σ x1 x2 ⟨jbr _, jbr _⟩ (fun r2 s2 q => by cases q; exact ⟨rfl, rfl⟩) _ h rfl)
def f_X5_sign_J20 (σ : jS) (y0 : Int32) : Option Int32 :=
  some (y0)
set_option maxHeartbeats 1000000 in
set_option maxRecDepth 20000 in
theorem f_X5_sign_J20_ok {g : Bool} {rv : Option Value} {μ' : jM} (σ : jS) (y0 : Int32) {Kp : Int32 → Prop} (hn : Nat.ble nX μ'.1 = true ∧ Nat.ble wX μ'.2.1 = true) (hr : ∀ r : Int32, Kp (r) → rv = some (.int r) ∧ μ' = (eX σ)) (o : Int32) (h : f_X5_sign_J20 σ y0 = some o) (hK : Kp o) : J yX5_sign cX5_sign 2 (some .int) 2 g rv μ' 20 [] [.int y0] (eX σ) := by
  unfold f_X5_sign_J20 at h
  replace h := Option.some.inj h
  subst h
  obtain ⟨hr1, hr2⟩ := hr _ hK
  exact j_iret dX5_sign_20 hr1 hr2
def f_X5_sign (σ : jS) (x1 : Int32) : Option Int32 :=
  if (gI σ 2 1) ≤ x1 then (f_X5_sign_J20 σ (-1))
  else (bC (f_X6_at σ 3 x1) fun r1 =>
  f_X5_sign_J20 σ r1)
set_option maxHeartbeats 1000000 in
set_option maxRecDepth 20000 in
theorem f_X5_sign_ok {g : Bool} {rv : Option Value} {μ' : jM} (σ : jS) (x1 : Int32) {Kp : Int32 → Prop} (hn : Nat.ble nX μ'.1 = true ∧ Nat.ble wX μ'.2.1 = true) (hr : ∀ r : Int32, Kp (r) → rv = some (.int r) ∧ μ' = (eX σ)) (o : Int32) (h : f_X5_sign σ x1 = some o) (hK : Kp o) : J yX5_sign cX5_sign 2 (some .int) 2 g rv μ' 0 [(0, .ref 2), (1, .int x1)] [] (eX σ) := by
  unfold f_X5_sign at h
  refine j_iload_n 1 dX5_sign_0 rfl rfl ?_
  refine j_aload_n 0 dX5_sign_1 rfl rfl ?_
  refine j_get (ci := 5) 1 (.int (gI σ 2 1)) jC_5 dX5_sign_2 kg_RX5_19 rfl (okX_2 _) (shX_2 _) (fvX_2_1 _) ?_
  refine j_icmp_ge 19 dX5_sign_5 (by decide) (fun hc2 => ?_) (fun hc2 => ?_)
  · replace h := jif_t hc2 h
    refine j_iconst (v := (-1)) dX5_sign_19 (by decide) ?_
    refine j_sub [] [] rfl ?_
    exact f_X5_sign_J20_ok σ (-1) hn hr _ h hK
  · replace h := jif_f hc2 h
    refine j_aload_n 0 dX5_sign_8 rfl rfl ?_
    refine j_get (ci := 5) 0 (.ref 3) jC_5 dX5_sign_9 kg_RX5_9 rfl (okX_2 _) (shX_2 _) (fvX_2_0 _) ?_
    refine j_iload_n 1 dX5_sign_12 rfl rfl ?_
    replace h := bC_inv h
    obtain ⟨r3, cr3, h⟩ := h
    refine j_callS (st1 := .int r3 :: _) (c_X6_at g cr3) jy_X6_at kt_yX6_at kl_RX5_84 dX5_sign_13 rfl rfl rfl rfl (jbr _) (jbr _) hn.1 hn.2 (Or.inr rfl) rfl ?_
    refine j_goto 20 dX5_sign_16 (by decide) ?_
    refine j_sub [] [] rfl ?_
    exact f_X5_sign_J20_ok σ r3 hn hr _ h hK
theorem c_X5_sign (g : Bool) {σ : jS} {x1 : Int32} {r : Int32} (h : f_X5_sign σ x1 = some r) : Cn yX5_sign cX5_sign 2 (some .int) 2 g [.ref 2, .int x1] (eX σ) (some (.int r)) (eX σ) :=
  Cn_of (by decide) (Nat.le_refl _) (Nat.le_refl _) (Nat.le_of_ble_eq_true rfl) (f_X5_sign_ok (Kp := (fun o => o = r)) σ x1 ⟨jbr _, jbr _⟩ (fun r2 q => by cases q; exact ⟨rfl, rfl⟩) _ h rfl)
def f_X5_skipBlanks_J38 (σ : jS) : Option (Unit × jS) :=
  some (((), σ))
set_option maxHeartbeats 1000000 in
set_option maxRecDepth 20000 in
theorem f_X5_skipBlanks_J38_ok {g : Bool} {rv : Option Value} {μ' : jM} (σ : jS) {Kp : (Unit × jS) → Prop} (hn : Nat.ble nX μ'.1 = true ∧ Nat.ble wX μ'.2.1 = true) (hr : ∀ (r : Unit) (s : jS), Kp ((r, s)) → rv = none ∧ μ' = eX s) (o : (Unit × jS)) (h : f_X5_skipBlanks_J38 σ = some o) (hK : Kp o) : J yX5_skipBlanks cX5_skipBlanks 2 none 3 g rv μ' 38 [] [] (eX σ) := by
  unfold f_X5_skipBlanks_J38 at h
  replace h := Option.some.inj h
  subst h
  obtain ⟨hr1, hr2⟩ := hr _ _ hK
  exact j_vret dX5_skipBlanks_38 hr1 hr2
def f_X5_skipBlanks_B2 (σ : jS) (x1 : Int32) : Option ((Int32 × jS) ⊕ (Unit × jS)) :=
  if 500 ≤ x1 then (jw (f_X5_skipBlanks_J38 σ))
  else (bC (f_X5_sign σ (gI σ 2 4)) fun r1 =>
  if r1 = 32 then (bV (sI σ 2 4 ((gI σ 2 4) + (1 : Int32))) fun σ2 =>
  bV (x1 + 1) fun v3 =>
  some (.inl (v3, σ2)))
  else (jw (f_X5_skipBlanks_J38 σ)))
set_option maxHeartbeats 1000000 in
set_option maxRecDepth 20000 in
theorem f_X5_skipBlanks_B2_ok {g : Bool} {rv : Option Value} {μ' : jM} (σ : jS) (x1 : Int32) {Kp : ((Int32 × jS) ⊕ (Unit × jS)) → Prop} (hn : Nat.ble nX μ'.1 = true ∧ Nat.ble wX μ'.2.1 = true) (hr : ∀ (r : Unit) (s : jS), Kp (.inr ((r, s))) → rv = none ∧ μ' = eX s) (hc0 : ∀ s : (Int32 × jS), Kp (.inl s) → J yX5_skipBlanks cX5_skipBlanks 2 none 3 g rv μ' 2 [(0, .ref 2), (1, .int s.1)] [] (eX s.2)) (o : ((Int32 × jS) ⊕ (Unit × jS))) (h : f_X5_skipBlanks_B2 σ x1 = some o) (hK : Kp o) : J yX5_skipBlanks cX5_skipBlanks 2 none 3 g rv μ' 2 [(0, .ref 2), (1, .int x1)] [] (eX σ) := by
  unfold f_X5_skipBlanks_B2 at h
  refine j_iload_n 1 dX5_skipBlanks_2 rfl rfl ?_
  refine j_sipush (v := 500) dX5_skipBlanks_3 (by decide) ?_
  refine j_icmp_ge 38 dX5_skipBlanks_6 (by decide) (fun hc4 => ?_) (fun hc4 => ?_)
  · replace h := jif_t hc4 h
    replace h := jw_inv h
    obtain ⟨o5, rfl, h⟩ := h
    refine j_sub [] [] rfl ?_
    exact f_X5_skipBlanks_J38_ok (Kp := fun o => Kp (.inr (o))) σ hn (fun r s q => hr r s q) _ h hK
  · replace h := jif_f hc4 h
    refine j_aload_n 0 dX5_skipBlanks_9 rfl rfl ?_
    refine j_aload_n 0 dX5_skipBlanks_10 rfl rfl ?_
    refine j_get (ci := 5) 4 (.int (gI σ 2 4)) jC_5 dX5_skipBlanks_11 kg_RX5_36 rfl (okX_2 _) (shX_2 _) (fvX_2_4 _) ?_
    replace h := bC_inv h
    obtain ⟨r6, cr6, h⟩ := h
    refine j_callV (ci := 5) (st1 := .int r6 :: _) (c_X5_sign g cr6) jy_X5_sign ki_yX5_sign ks_yX5_sign kl_RX5_88 dX5_skipBlanks_14 rfl (okX_2 _) (shX_2 _) rfl rfl rfl rfl (jbr _) (jbr _) hn.1 hn.2 (Or.inr rfl) rfl ?_
    refine j_bipush (v := 32) dX5_skipBlanks_17 (by decide) ?_
    refine j_icmp_ne 38 dX5_skipBlanks_19 (by decide) (fun hc7 => ?_) (fun hc7 => ?_)
    · replace h := jif_f hc7 h
      replace h := jw_inv h
      obtain ⟨o8, rfl, h⟩ := h
      refine j_sub [] [] rfl ?_
      exact f_X5_skipBlanks_J38_ok (Kp := fun o => Kp (.inr (o))) σ hn (fun r s q => hr r s q) _ h hK
    · replace h := jif_t hc7 h
      refine j_aload_n 0 dX5_skipBlanks_22 rfl rfl ?_
      refine j_dup dX5_skipBlanks_23 rfl ?_
      refine j_get (ci := 5) 4 (.int (gI σ 2 4)) jC_5 dX5_skipBlanks_24 kg_RX5_36 rfl (okX_2 _) (shX_2 _) (fvX_2_4 _) ?_
      refine j_iconst (v := 1) dX5_skipBlanks_27 (by decide) ?_
      refine j_iadd dX5_skipBlanks_28 ?_
      replace h := bV_inv h
      obtain ⟨σ9, eσ9, h⟩ := h
      refine j_putI 4 jC_5 dX5_skipBlanks_29 kg_RX5_36 (Or.inl ff_5_4) rfl fk_5_4 (fn_5_4 _) (okX_2 _) (shX_2 _) ?_
      refine j_mem (congrArg eX eσ9) ?_
      replace h := bV_inv h
      obtain ⟨v10, ev10, h⟩ := h
      refine j_iinc (v := v10) [(1, .int v10), (0, .ref 2)] 1 dX5_skipBlanks_32 rfl (by rw [ev10]; rfl) (Nat.le_of_ble_eq_true rfl) rfl ?_
      refine j_goto 2 dX5_skipBlanks_35 (by decide) ?_
      replace h := Option.some.inj h
      subst h
      refine j_sub [(0, .ref 2), (1, .int v10)] [1, 0] rfl ?_
      exact hc0 _ hK
def f_X5_skipBlanks (σ : jS) : Option (Unit × jS) :=
  jloop jFuel (fun s => f_X5_skipBlanks_B2 s.2 s.1) (0, σ)
set_option maxHeartbeats 1000000 in
set_option maxRecDepth 20000 in
theorem f_X5_skipBlanks_ok {g : Bool} {rv : Option Value} {μ' : jM} (σ : jS) {Kp : (Unit × jS) → Prop} (hn : Nat.ble nX μ'.1 = true ∧ Nat.ble wX μ'.2.1 = true) (hr : ∀ (r : Unit) (s : jS), Kp ((r, s)) → rv = none ∧ μ' = eX s) (o : (Unit × jS)) (h : f_X5_skipBlanks σ = some o) (hK : Kp o) : J yX5_skipBlanks cX5_skipBlanks 2 none 3 g rv μ' 0 [(0, .ref 2)] [] (eX σ) := by
  unfold f_X5_skipBlanks at h
  refine j_iconst (v := 0) dX5_skipBlanks_0 (by decide) ?_
  refine j_istore_n [(1, .int 0), (0, .ref 2)] dX5_skipBlanks_1 rfl (Nat.le_of_ble_eq_true rfl) rfl ?_
  refine j_sub [(0, .ref 2), (1, .int 0)] [1, 0] rfl ?_
  exact jloop_ok (fun s => f_X5_skipBlanks_B2 s.2 s.1) (fun s => J yX5_skipBlanks cX5_skipBlanks 2 none 3 g rv μ' 2 [(0, .ref 2), (1, .int s.1)] [] (eX s.2)) Kp (fun s o hb hk => f_X5_skipBlanks_B2_ok (Kp := jsum (fun s => J yX5_skipBlanks cX5_skipBlanks 2 none 3 g rv μ' 2 [(0, .ref 2), (1, .int s.1)] [] (eX s.2)) Kp) s.2 s.1 hn (fun r s q => hr r s q) (fun s q => q) o hb hk) jFuel _ _ h hK
theorem c_X5_skipBlanks (g : Bool) {σ : jS} {r : Unit} {σ2 : jS} (h : f_X5_skipBlanks σ = some (r, σ2)) : Cn yX5_skipBlanks cX5_skipBlanks 2 none 3 g [.ref 2] (eX σ) none (eX σ2) :=
  Cn_of (by decide) (Nat.le_refl _) (Nat.le_refl _) (Nat.le_of_ble_eq_true rfl) (f_X5_skipBlanks_ok (Kp := (fun o => o = (r, σ2))) σ ⟨jbr _, jbr _⟩ (fun r2 s2 q => by cases q; exact ⟨rfl, rfl⟩) _ h rfl)
def f_X5_readClosing_J39 (σ : jS) : Option (Unit × jS) :=
  some (((), σ))
set_option maxHeartbeats 1000000 in
set_option maxRecDepth 20000 in
theorem f_X5_readClosing_J39_ok {g : Bool} {rv : Option Value} {μ' : jM} (σ : jS) {Kp : (Unit × jS) → Prop} (hn : Nat.ble nX μ'.1 = true ∧ Nat.ble wX μ'.2.1 = true) (hr : ∀ (r : Unit) (s : jS), Kp ((r, s)) → rv = none ∧ μ' = eX s) (o : (Unit × jS)) (h : f_X5_readClosing_J39 σ = some o) (hK : Kp o) : J yX5_readClosing cX5_readClosing 1 none 4 g rv μ' 39 [] [] (eX σ) := by
  unfold f_X5_readClosing_J39 at h
  replace h := Option.some.inj h
  subst h
  obtain ⟨hr1, hr2⟩ := hr _ _ hK
  exact j_vret dX5_readClosing_39 hr1 hr2
def f_X5_readClosing (σ : jS) : Option (Unit × jS) :=
  bD (f_X5_skipBlanks σ) fun r1 σ2 =>
  bC (f_X5_sign σ2 (gI σ2 2 4)) fun r3 =>
  if r3 = 59 then (bV (sI σ2 2 4 ((gI σ2 2 4) + (1 : Int32))) fun σ6 =>
  f_X5_readClosing_J39 σ6)
  else (bD (f_X5_fail σ2 1 (gI σ2 2 4)) fun r4 σ5 =>
  f_X5_readClosing_J39 σ5)
set_option maxHeartbeats 1000000 in
set_option maxRecDepth 20000 in
theorem f_X5_readClosing_ok {g : Bool} {rv : Option Value} {μ' : jM} (σ : jS) {Kp : (Unit × jS) → Prop} (hn : Nat.ble nX μ'.1 = true ∧ Nat.ble wX μ'.2.1 = true) (hr : ∀ (r : Unit) (s : jS), Kp ((r, s)) → rv = none ∧ μ' = eX s) (o : (Unit × jS)) (h : f_X5_readClosing σ = some o) (hK : Kp o) : J yX5_readClosing cX5_readClosing 1 none 4 g rv μ' 0 [(0, .ref 2)] [] (eX σ) := by
  unfold f_X5_readClosing at h
  refine j_aload_n 0 dX5_readClosing_0 rfl rfl ?_
  replace h := bD_inv h
  obtain ⟨r7, σ8, cr7, h⟩ := h
  refine j_callV (ci := 5) (st1 := _) (c_X5_skipBlanks g cr7) jy_X5_skipBlanks ki_yX5_skipBlanks ks_yX5_skipBlanks kl_RX5_39 dX5_readClosing_1 rfl (okX_2 _) (shX_2 _) rfl rfl rfl rfl (jbr _) (jbr _) hn.1 hn.2 (Or.inr rfl) rfl ?_
  refine j_aload_n 0 dX5_readClosing_4 rfl rfl ?_
  refine j_aload_n 0 dX5_readClosing_5 rfl rfl ?_
  refine j_get (ci := 5) 4 (.int (gI σ8 2 4)) jC_5 dX5_readClosing_6 kg_RX5_36 rfl (okX_2 _) (shX_2 _) (fvX_2_4 _) ?_
  replace h := bC_inv h
  obtain ⟨r9, cr9, h⟩ := h
  refine j_callV (ci := 5) (st1 := .int r9 :: _) (c_X5_sign g cr9) jy_X5_sign ki_yX5_sign ks_yX5_sign kl_RX5_88 dX5_readClosing_9 rfl (okX_2 _) (shX_2 _) rfl rfl rfl rfl (jbr _) (jbr _) hn.1 hn.2 (Or.inr rfl) rfl ?_
  refine j_bipush (v := 59) dX5_readClosing_12 (by decide) ?_
  refine j_icmp_ne 30 dX5_readClosing_14 (by decide) (fun hc10 => ?_) (fun hc10 => ?_)
  · replace h := jif_f hc10 h
    refine j_aload_n 0 dX5_readClosing_30 rfl rfl ?_
    refine j_iconst (v := 1) dX5_readClosing_31 (by decide) ?_
    refine j_aload_n 0 dX5_readClosing_32 rfl rfl ?_
    refine j_get (ci := 5) 4 (.int (gI σ8 2 4)) jC_5 dX5_readClosing_33 kg_RX5_36 rfl (okX_2 _) (shX_2 _) (fvX_2_4 _) ?_
    replace h := bD_inv h
    obtain ⟨r11, σ12, cr11, h⟩ := h
    refine j_callV (ci := 5) (st1 := _) (c_X5_fail g cr11) jy_X5_fail ki_yX5_fail ks_yX5_fail kl_RX5_50 dX5_readClosing_36 rfl (okX_2 _) (shX_2 _) rfl rfl rfl rfl (jbr _) (jbr _) hn.1 hn.2 (Or.inr rfl) rfl ?_
    refine j_sub [] [] rfl ?_
    exact f_X5_readClosing_J39_ok σ12 hn hr _ h hK
  · replace h := jif_t hc10 h
    refine j_aload_n 0 dX5_readClosing_17 rfl rfl ?_
    refine j_dup dX5_readClosing_18 rfl ?_
    refine j_get (ci := 5) 4 (.int (gI σ8 2 4)) jC_5 dX5_readClosing_19 kg_RX5_36 rfl (okX_2 _) (shX_2 _) (fvX_2_4 _) ?_
    refine j_iconst (v := 1) dX5_readClosing_22 (by decide) ?_
    refine j_iadd dX5_readClosing_23 ?_
    replace h := bV_inv h
    obtain ⟨σ13, eσ13, h⟩ := h
    refine j_putI 4 jC_5 dX5_readClosing_24 kg_RX5_36 (Or.inl ff_5_4) rfl fk_5_4 (fn_5_4 _) (okX_2 _) (shX_2 _) ?_
    refine j_mem (congrArg eX eσ13) ?_
    refine j_goto 39 dX5_readClosing_27 (by decide) ?_
    refine j_sub [] [] rfl ?_
    exact f_X5_readClosing_J39_ok σ13 hn hr _ h hK
theorem c_X5_readClosing (g : Bool) {σ : jS} {r : Unit} {σ2 : jS} (h : f_X5_readClosing σ = some (r, σ2)) : Cn yX5_readClosing cX5_readClosing 1 none 4 g [.ref 2] (eX σ) none (eX σ2) :=
  Cn_of (by decide) (Nat.le_refl _) (Nat.le_refl _) (Nat.le_of_ble_eq_true rfl) (f_X5_readClosing_ok (Kp := (fun o => o = (r, σ2))) σ ⟨jbr _, jbr _⟩ (fun r2 s2 q => by cases q; exact ⟨rfl, rfl⟩) _ h rfl)
def f_X5_isFigure_J17 (y0 : Int32) : Option Int32 :=
  bG (jb y0) (
  some (y0))
set_option maxHeartbeats 1000000 in
set_option maxRecDepth 20000 in
theorem f_X5_isFigure_J17_ok {g : Bool} {rv : Option Value} {μ' : jM} (y0 : Int32) (μ : jM) {Kp : Int32 → Prop} (hn : Nat.ble μ.1 μ'.1 = true ∧ Nat.ble μ.2.1 μ'.2.1 = true) (hr : ∀ r : Int32, Kp (r) → rv = some (.int r) ∧ μ' = μ) (o : Int32) (h : f_X5_isFigure_J17 y0 = some o) (hK : Kp o) : J yX5_isFigure cX5_isFigure 1 (some .boolean) 1 g rv μ' 17 [] [.int y0] μ := by
  unfold f_X5_isFigure_J17 at h
  replace h := bG_inv h
  obtain ⟨hb, h⟩ := h
  replace h := Option.some.inj h
  subst h
  obtain ⟨hr1, hr2⟩ := hr _ hK
  exact j_zret (jb_nar hb) dX5_isFigure_17 hr1 hr2
def f_X5_isFigure_J16 : Option Int32 :=
  f_X5_isFigure_J17 0
set_option maxHeartbeats 1000000 in
set_option maxRecDepth 20000 in
theorem f_X5_isFigure_J16_ok {g : Bool} {rv : Option Value} {μ' : jM} (μ : jM) {Kp : Int32 → Prop} (hn : Nat.ble μ.1 μ'.1 = true ∧ Nat.ble μ.2.1 μ'.2.1 = true) (hr : ∀ r : Int32, Kp (r) → rv = some (.int r) ∧ μ' = μ) (o : Int32) (h : f_X5_isFigure_J16  = some o) (hK : Kp o) : J yX5_isFigure cX5_isFigure 1 (some .boolean) 1 g rv μ' 16 [] [] μ := by
  unfold f_X5_isFigure_J16 at h
  refine j_iconst (v := 0) dX5_isFigure_16 (by decide) ?_
  exact f_X5_isFigure_J17_ok 0 μ hn hr _ h hK
def f_X5_isFigure (x0 : Int32) : Option Int32 :=
  if x0 < 48 then (f_X5_isFigure_J16 )
  else (if 57 < x0 then (f_X5_isFigure_J16 )
  else (f_X5_isFigure_J17 1))
set_option maxHeartbeats 1000000 in
set_option maxRecDepth 20000 in
theorem f_X5_isFigure_ok {g : Bool} {rv : Option Value} {μ' : jM} (x0 : Int32) (μ : jM) {Kp : Int32 → Prop} (hn : Nat.ble μ.1 μ'.1 = true ∧ Nat.ble μ.2.1 μ'.2.1 = true) (hr : ∀ r : Int32, Kp (r) → rv = some (.int r) ∧ μ' = μ) (o : Int32) (h : f_X5_isFigure x0 = some o) (hK : Kp o) : J yX5_isFigure cX5_isFigure 1 (some .boolean) 1 g rv μ' 0 [(0, .int x0)] [] μ := by
  unfold f_X5_isFigure at h
  refine j_iload_n 0 dX5_isFigure_0 rfl rfl ?_
  refine j_bipush (v := 48) dX5_isFigure_1 (by decide) ?_
  refine j_icmp_lt 16 dX5_isFigure_3 (by decide) (fun hc1 => ?_) (fun hc1 => ?_)
  · replace h := jif_t hc1 h
    refine j_sub [] [] rfl ?_
    exact f_X5_isFigure_J16_ok  μ hn hr _ h hK
  · replace h := jif_f hc1 h
    refine j_iload_n 0 dX5_isFigure_6 rfl rfl ?_
    refine j_bipush (v := 57) dX5_isFigure_7 (by decide) ?_
    refine j_icmp_gt 16 dX5_isFigure_9 (by decide) (fun hc2 => ?_) (fun hc2 => ?_)
    · replace h := jif_t hc2 h
      refine j_sub [] [] rfl ?_
      exact f_X5_isFigure_J16_ok  μ hn hr _ h hK
    · replace h := jif_f hc2 h
      refine j_iconst (v := 1) dX5_isFigure_12 (by decide) ?_
      refine j_goto 17 dX5_isFigure_13 (by decide) ?_
      refine j_sub [] [] rfl ?_
      exact f_X5_isFigure_J17_ok 1 μ hn hr _ h hK
theorem c_X5_isFigure (g : Bool) (μ : jM) {x0 : Int32} {r : Int32} (h : f_X5_isFigure x0 = some r) : Cn yX5_isFigure cX5_isFigure 1 (some .boolean) 1 g [.int x0] μ (some (.int r)) μ :=
  Cn_of (by decide) (Nat.le_refl _) (Nat.le_refl _) (Nat.le_of_ble_eq_true rfl) (f_X5_isFigure_ok (Kp := (fun o => o = r)) x0 μ ⟨jbr _, jbr _⟩ (fun r2 q => by cases q; exact ⟨rfl, rfl⟩) _ h rfl)
def f_X5_readNumber_J113 (σ : jS) (x3 : Int32) : Option (Int32 × jS) :=
  some ((x3, σ))
set_option maxHeartbeats 1000000 in
set_option maxRecDepth 20000 in
theorem f_X5_readNumber_J113_ok {g : Bool} {rv : Option Value} {μ' : jM} (σ : jS) (x3 : Int32) {Kp : (Int32 × jS) → Prop} (hn : Nat.ble nX μ'.1 = true ∧ Nat.ble wX μ'.2.1 = true) (hr : ∀ (r : Int32) (s : jS), Kp ((r, s)) → rv = some (.int r) ∧ μ' = eX s) (o : (Int32 × jS)) (h : f_X5_readNumber_J113 σ x3 = some o) (hK : Kp o) : J yX5_readNumber cX5_readNumber 5 (some .int) 4 g rv μ' 113 [(3, .int x3)] [] (eX σ) := by
  unfold f_X5_readNumber_J113 at h
  refine j_iload_n 0 dX5_readNumber_113 rfl rfl ?_
  replace h := Option.some.inj h
  subst h
  obtain ⟨hr1, hr2⟩ := hr _ _ hK
  exact j_iret dX5_readNumber_114 hr1 hr2
def f_X5_readNumber_J107 (σ : jS) (x2 : Int32) (x3 : Int32) : Option (Int32 × jS) :=
  bD (f_X5_fail σ 2 x2) fun r4 σ5 =>
  f_X5_readNumber_J113 σ5 x3
set_option maxHeartbeats 1000000 in
set_option maxRecDepth 20000 in
theorem f_X5_readNumber_J107_ok {g : Bool} {rv : Option Value} {μ' : jM} (σ : jS) (x2 : Int32) (x3 : Int32) {Kp : (Int32 × jS) → Prop} (hn : Nat.ble nX μ'.1 = true ∧ Nat.ble wX μ'.2.1 = true) (hr : ∀ (r : Int32) (s : jS), Kp ((r, s)) → rv = some (.int r) ∧ μ' = eX s) (o : (Int32 × jS)) (h : f_X5_readNumber_J107 σ x2 x3 = some o) (hK : Kp o) : J yX5_readNumber cX5_readNumber 5 (some .int) 4 g rv μ' 107 [(0, .ref 2), (2, .int x2), (3, .int x3)] [] (eX σ) := by
  unfold f_X5_readNumber_J107 at h
  refine j_aload_n 0 dX5_readNumber_107 rfl rfl ?_
  refine j_iconst (v := 2) dX5_readNumber_108 (by decide) ?_
  refine j_iload_n 1 dX5_readNumber_109 rfl rfl ?_
  replace h := bD_inv h
  obtain ⟨r6, σ7, cr6, h⟩ := h
  refine j_callV (ci := 5) (st1 := _) (c_X5_fail g cr6) jy_X5_fail ki_yX5_fail ks_yX5_fail kl_RX5_50 dX5_readNumber_110 rfl (okX_2 _) (shX_2 _) rfl rfl rfl rfl (jbr _) (jbr _) hn.1 hn.2 (Or.inr rfl) rfl ?_
  refine j_sub [(3, .int x3)] [2] rfl ?_
  exact f_X5_readNumber_J113_ok σ7 x3 hn hr _ h hK
def f_X5_readNumber_J75 (σ : jS) (x1 : Int32) (x2 : Int32) (x3 : Int32) : Option (Int32 × jS) :=
  if (gI σ 2 4) = x2 then (bD (f_X5_fail σ 1 x2) fun r8 σ9 =>
  f_X5_readNumber_J113 σ9 x3)
  else (if 2 < ((gI σ 2 4) - x2) then (f_X5_readNumber_J107 σ x2 x3)
  else (if x3 < x1 then (f_X5_readNumber_J113 σ x3)
  else (f_X5_readNumber_J107 σ x2 x3)))
set_option maxHeartbeats 1000000 in
set_option maxRecDepth 20000 in
theorem f_X5_readNumber_J75_ok {g : Bool} {rv : Option Value} {μ' : jM} (σ : jS) (x1 : Int32) (x2 : Int32) (x3 : Int32) {Kp : (Int32 × jS) → Prop} (hn : Nat.ble nX μ'.1 = true ∧ Nat.ble wX μ'.2.1 = true) (hr : ∀ (r : Int32) (s : jS), Kp ((r, s)) → rv = some (.int r) ∧ μ' = eX s) (o : (Int32 × jS)) (h : f_X5_readNumber_J75 σ x1 x2 x3 = some o) (hK : Kp o) : J yX5_readNumber cX5_readNumber 5 (some .int) 4 g rv μ' 75 [(0, .ref 2), (1, .int x1), (2, .int x2), (3, .int x3)] [] (eX σ) := by
  unfold f_X5_readNumber_J75 at h
  refine j_aload_n 0 dX5_readNumber_75 rfl rfl ?_
  refine j_get (ci := 5) 4 (.int (gI σ 2 4)) jC_5 dX5_readNumber_76 kg_RX5_36 rfl (okX_2 _) (shX_2 _) (fvX_2_4 _) ?_
  refine j_iload_n 2 dX5_readNumber_79 rfl rfl ?_
  refine j_icmp_ne 92 dX5_readNumber_80 (by decide) (fun hc10 => ?_) (fun hc10 => ?_)
  · replace h := jif_f hc10 h
    refine j_aload_n 0 dX5_readNumber_92 rfl rfl ?_
    refine j_get (ci := 5) 4 (.int (gI σ 2 4)) jC_5 dX5_readNumber_93 kg_RX5_36 rfl (okX_2 _) (shX_2 _) (fvX_2_4 _) ?_
    refine j_iload_n 2 dX5_readNumber_96 rfl rfl ?_
    refine j_isub dX5_readNumber_97 ?_
    refine j_iconst (v := 2) dX5_readNumber_98 (by decide) ?_
    refine j_icmp_gt 107 dX5_readNumber_99 (by decide) (fun hc11 => ?_) (fun hc11 => ?_)
    · replace h := jif_t hc11 h
      refine j_sub [(0, .ref 2), (2, .int x2), (3, .int x3)] [0, 2, 3] rfl ?_
      exact f_X5_readNumber_J107_ok σ x2 x3 hn hr _ h hK
    · replace h := jif_f hc11 h
      refine j_iload_n 3 dX5_readNumber_102 rfl rfl ?_
      refine j_iload_n 1 dX5_readNumber_103 rfl rfl ?_
      refine j_icmp_lt 113 dX5_readNumber_104 (by decide) (fun hc12 => ?_) (fun hc12 => ?_)
      · replace h := jif_t hc12 h
        refine j_sub [(3, .int x3)] [3] rfl ?_
        exact f_X5_readNumber_J113_ok σ x3 hn hr _ h hK
      · replace h := jif_f hc12 h
        refine j_sub [(0, .ref 2), (2, .int x2), (3, .int x3)] [0, 2, 3] rfl ?_
        exact f_X5_readNumber_J107_ok σ x2 x3 hn hr _ h hK
  · replace h := jif_t hc10 h
    refine j_aload_n 0 dX5_readNumber_83 rfl rfl ?_
    refine j_iconst (v := 1) dX5_readNumber_84 (by decide) ?_
    refine j_iload_n 2 dX5_readNumber_85 rfl rfl ?_
    replace h := bD_inv h
    obtain ⟨r13, σ14, cr13, h⟩ := h
    refine j_callV (ci := 5) (st1 := _) (c_X5_fail g cr13) jy_X5_fail ki_yX5_fail ks_yX5_fail kl_RX5_50 dX5_readNumber_86 rfl (okX_2 _) (shX_2 _) rfl rfl rfl rfl (jbr _) (jbr _) hn.1 hn.2 (Or.inr rfl) rfl ?_
    refine j_goto 113 dX5_readNumber_89 (by decide) ?_
    refine j_sub [(3, .int x3)] [3] rfl ?_
    exact f_X5_readNumber_J113_ok σ14 x3 hn hr _ h hK
def f_X5_readNumber_J59 (σ : jS) (x1 : Int32) (x2 : Int32) (x3 : Int32) (x4 : Int32) : Option ((Int32 × Int32 × jS) ⊕ (Int32 × jS)) :=
  bV (sI σ 2 4 ((gI σ 2 4) + (1 : Int32))) fun σ17 =>
  bV (x4 + 1) fun v18 =>
  some (.inl (x3, v18, σ17))
set_option maxHeartbeats 1000000 in
set_option maxRecDepth 20000 in
theorem f_X5_readNumber_J59_ok {g : Bool} {rv : Option Value} {μ' : jM} (σ : jS) (x1 : Int32) (x2 : Int32) (x3 : Int32) (x4 : Int32) {Kp : ((Int32 × Int32 × jS) ⊕ (Int32 × jS)) → Prop} (hn : Nat.ble nX μ'.1 = true ∧ Nat.ble wX μ'.2.1 = true) (hr : ∀ (r : Int32) (s : jS), Kp (.inr ((r, s))) → rv = some (.int r) ∧ μ' = eX s) (hc0 : ∀ s : (Int32 × Int32 × jS), Kp (.inl s) → J yX5_readNumber cX5_readNumber 5 (some .int) 4 g rv μ' 14 [(0, .ref 2), (1, .int x1), (2, .int x2), (3, .int s.1), (4, .int s.2.1)] [] (eX s.2.2)) (o : ((Int32 × Int32 × jS) ⊕ (Int32 × jS))) (h : f_X5_readNumber_J59 σ x1 x2 x3 x4 = some o) (hK : Kp o) : J yX5_readNumber cX5_readNumber 5 (some .int) 4 g rv μ' 59 [(0, .ref 2), (1, .int x1), (2, .int x2), (3, .int x3), (4, .int x4)] [] (eX σ) := by
  unfold f_X5_readNumber_J59 at h
  refine j_aload_n 0 dX5_readNumber_59 rfl rfl ?_
  refine j_dup dX5_readNumber_60 rfl ?_
  refine j_get (ci := 5) 4 (.int (gI σ 2 4)) jC_5 dX5_readNumber_61 kg_RX5_36 rfl (okX_2 _) (shX_2 _) (fvX_2_4 _) ?_
  refine j_iconst (v := 1) dX5_readNumber_64 (by decide) ?_
  refine j_iadd dX5_readNumber_65 ?_
  replace h := bV_inv h
  obtain ⟨σ19, eσ19, h⟩ := h
  refine j_putI 4 jC_5 dX5_readNumber_66 kg_RX5_36 (Or.inl ff_5_4) rfl fk_5_4 (fn_5_4 _) (okX_2 _) (shX_2 _) ?_
  refine j_mem (congrArg eX eσ19) ?_
  replace h := bV_inv h
  obtain ⟨v20, ev20, h⟩ := h
  refine j_iinc (v := v20) [(4, .int v20), (0, .ref 2), (1, .int x1), (2, .int x2), (3, .int x3)] 4 dX5_readNumber_69 rfl (by rw [ev20]; rfl) (Nat.le_of_ble_eq_true rfl) rfl ?_
  refine j_goto 14 dX5_readNumber_72 (by decide) ?_
  replace h := Option.some.inj h
  subst h
  refine j_sub [(0, .ref 2), (1, .int x1), (2, .int x2), (3, .int x3), (4, .int v20)] [1, 2, 3, 4, 0] rfl ?_
  exact hc0 _ hK
def f_X5_readNumber_B14 (σ : jS) (x1 : Int32) (x2 : Int32) (x3 : Int32) (x4 : Int32) : Option ((Int32 × Int32 × jS) ⊕ (Int32 × jS)) :=
  if 500 ≤ x4 then (jw (f_X5_readNumber_J75 σ x1 x2 x3))
  else (bC (f_X5_sign σ (gI σ 2 4)) fun r15 =>
  bC (f_X5_isFigure r15) fun r16 =>
  if r16 = 0 then (jw (f_X5_readNumber_J75 σ x1 x2 x3))
  else (if 2 ≤ x4 then (f_X5_readNumber_J59 σ x1 x2 x3 x4)
  else (bC (f_X5_sign σ (gI σ 2 4)) fun r21 =>
  bV ((((10 : Int32) * x3) + r21) - (48 : Int32)) fun v22 =>
  f_X5_readNumber_J59 σ x1 x2 v22 x4)))
set_option maxHeartbeats 1000000 in
set_option maxRecDepth 20000 in
theorem f_X5_readNumber_B14_ok {g : Bool} {rv : Option Value} {μ' : jM} (σ : jS) (x1 : Int32) (x2 : Int32) (x3 : Int32) (x4 : Int32) {Kp : ((Int32 × Int32 × jS) ⊕ (Int32 × jS)) → Prop} (hn : Nat.ble nX μ'.1 = true ∧ Nat.ble wX μ'.2.1 = true) (hr : ∀ (r : Int32) (s : jS), Kp (.inr ((r, s))) → rv = some (.int r) ∧ μ' = eX s) (hc0 : ∀ s : (Int32 × Int32 × jS), Kp (.inl s) → J yX5_readNumber cX5_readNumber 5 (some .int) 4 g rv μ' 14 [(0, .ref 2), (1, .int x1), (2, .int x2), (3, .int s.1), (4, .int s.2.1)] [] (eX s.2.2)) (o : ((Int32 × Int32 × jS) ⊕ (Int32 × jS))) (h : f_X5_readNumber_B14 σ x1 x2 x3 x4 = some o) (hK : Kp o) : J yX5_readNumber cX5_readNumber 5 (some .int) 4 g rv μ' 14 [(0, .ref 2), (1, .int x1), (2, .int x2), (3, .int x3), (4, .int x4)] [] (eX σ) := by
  unfold f_X5_readNumber_B14 at h
  refine j_iload 4 dX5_readNumber_14 rfl ?_
  refine j_sipush (v := 500) dX5_readNumber_16 (by decide) ?_
  refine j_icmp_ge 75 dX5_readNumber_19 (by decide) (fun hc23 => ?_) (fun hc23 => ?_)
  · replace h := jif_t hc23 h
    replace h := jw_inv h
    obtain ⟨o24, rfl, h⟩ := h
    refine j_sub [(0, .ref 2), (1, .int x1), (2, .int x2), (3, .int x3)] [0, 1, 2, 3] rfl ?_
    exact f_X5_readNumber_J75_ok (Kp := fun o => Kp (.inr (o))) σ x1 x2 x3 hn (fun r s q => hr r s q) _ h hK
  · replace h := jif_f hc23 h
    refine j_aload_n 0 dX5_readNumber_22 rfl rfl ?_
    refine j_aload_n 0 dX5_readNumber_23 rfl rfl ?_
    refine j_get (ci := 5) 4 (.int (gI σ 2 4)) jC_5 dX5_readNumber_24 kg_RX5_36 rfl (okX_2 _) (shX_2 _) (fvX_2_4 _) ?_
    replace h := bC_inv h
    obtain ⟨r25, cr25, h⟩ := h
    refine j_callV (ci := 5) (st1 := .int r25 :: _) (c_X5_sign g cr25) jy_X5_sign ki_yX5_sign ks_yX5_sign kl_RX5_88 dX5_readNumber_27 rfl (okX_2 _) (shX_2 _) rfl rfl rfl rfl (jbr _) (jbr _) hn.1 hn.2 (Or.inr rfl) rfl ?_
    replace h := bC_inv h
    obtain ⟨r26, cr26, h⟩ := h
    refine j_callS (st1 := .int r26 :: _) (c_X5_isFigure g _ cr26) jy_X5_isFigure kt_yX5_isFigure kl_RX5_118 dX5_readNumber_30 rfl rfl rfl rfl (jbr _) (jbr _) hn.1 hn.2 (Or.inr rfl) rfl ?_
    refine j_if_eq 75 dX5_readNumber_33 (by decide) (fun hc27 => ?_) (fun hc27 => ?_)
    · replace h := jif_t hc27 h
      replace h := jw_inv h
      obtain ⟨o28, rfl, h⟩ := h
      refine j_sub [(0, .ref 2), (1, .int x1), (2, .int x2), (3, .int x3)] [0, 1, 2, 3] rfl ?_
      exact f_X5_readNumber_J75_ok (Kp := fun o => Kp (.inr (o))) σ x1 x2 x3 hn (fun r s q => hr r s q) _ h hK
    · replace h := jif_f hc27 h
      refine j_iload 4 dX5_readNumber_36 rfl ?_
      refine j_iconst (v := 2) dX5_readNumber_38 (by decide) ?_
      refine j_icmp_ge 59 dX5_readNumber_39 (by decide) (fun hc29 => ?_) (fun hc29 => ?_)
      · replace h := jif_t hc29 h
        exact f_X5_readNumber_J59_ok σ x1 x2 x3 x4 hn hr hc0 _ h hK
      · replace h := jif_f hc29 h
        refine j_bipush (v := 10) dX5_readNumber_42 (by decide) ?_
        refine j_iload_n 3 dX5_readNumber_44 rfl rfl ?_
        refine j_imul dX5_readNumber_45 ?_
        refine j_aload_n 0 dX5_readNumber_46 rfl rfl ?_
        refine j_aload_n 0 dX5_readNumber_47 rfl rfl ?_
        refine j_get (ci := 5) 4 (.int (gI σ 2 4)) jC_5 dX5_readNumber_48 kg_RX5_36 rfl (okX_2 _) (shX_2 _) (fvX_2_4 _) ?_
        replace h := bC_inv h
        obtain ⟨r30, cr30, h⟩ := h
        refine j_callV (ci := 5) (st1 := .int r30 :: _) (c_X5_sign g cr30) jy_X5_sign ki_yX5_sign ks_yX5_sign kl_RX5_88 dX5_readNumber_51 rfl (okX_2 _) (shX_2 _) rfl rfl rfl rfl (jbr _) (jbr _) hn.1 hn.2 (Or.inr rfl) rfl ?_
        refine j_iadd dX5_readNumber_54 ?_
        refine j_bipush (v := 48) dX5_readNumber_55 (by decide) ?_
        refine j_isub dX5_readNumber_57 ?_
        replace h := bV_inv h
        obtain ⟨v31, ev31, h⟩ := h
        refine j_nmi ev31 ?_
        refine j_istore_n [(3, .int v31), (0, .ref 2), (1, .int x1), (2, .int x2), (4, .int x4)] dX5_readNumber_58 rfl (Nat.le_of_ble_eq_true rfl) rfl ?_
        refine j_sub [(0, .ref 2), (1, .int x1), (2, .int x2), (3, .int v31), (4, .int x4)] [1, 2, 3, 0, 4] rfl ?_
        exact f_X5_readNumber_J59_ok σ x1 x2 v31 x4 hn hr hc0 _ h hK
def f_X5_readNumber (σ : jS) (x1 : Int32) : Option (Int32 × jS) :=
  bD (f_X5_skipBlanks σ) fun r1 σ2 =>
  bV (gI σ2 2 4) fun v3 =>
  jloop jFuel (fun s => f_X5_readNumber_B14 s.2.2 x1 v3 s.1 s.2.1) (0, 0, σ2)
set_option maxHeartbeats 1000000 in
set_option maxRecDepth 20000 in
theorem f_X5_readNumber_ok {g : Bool} {rv : Option Value} {μ' : jM} (σ : jS) (x1 : Int32) {Kp : (Int32 × jS) → Prop} (hn : Nat.ble nX μ'.1 = true ∧ Nat.ble wX μ'.2.1 = true) (hr : ∀ (r : Int32) (s : jS), Kp ((r, s)) → rv = some (.int r) ∧ μ' = eX s) (o : (Int32 × jS)) (h : f_X5_readNumber σ x1 = some o) (hK : Kp o) : J yX5_readNumber cX5_readNumber 5 (some .int) 4 g rv μ' 0 [(0, .ref 2), (1, .int x1)] [] (eX σ) := by
  unfold f_X5_readNumber at h
  refine j_aload_n 0 dX5_readNumber_0 rfl rfl ?_
  replace h := bD_inv h
  obtain ⟨r32, σ33, cr32, h⟩ := h
  refine j_callV (ci := 5) (st1 := _) (c_X5_skipBlanks g cr32) jy_X5_skipBlanks ki_yX5_skipBlanks ks_yX5_skipBlanks kl_RX5_39 dX5_readNumber_1 rfl (okX_2 _) (shX_2 _) rfl rfl rfl rfl (jbr _) (jbr _) hn.1 hn.2 (Or.inr rfl) rfl ?_
  refine j_aload_n 0 dX5_readNumber_4 rfl rfl ?_
  refine j_get (ci := 5) 4 (.int (gI σ33 2 4)) jC_5 dX5_readNumber_5 kg_RX5_36 rfl (okX_2 _) (shX_2 _) (fvX_2_4 _) ?_
  replace h := bV_inv h
  obtain ⟨v34, ev34, h⟩ := h
  refine j_nmi ev34 ?_
  refine j_istore_n [(2, .int v34), (0, .ref 2), (1, .int x1)] dX5_readNumber_8 rfl (Nat.le_of_ble_eq_true rfl) rfl ?_
  refine j_iconst (v := 0) dX5_readNumber_9 (by decide) ?_
  refine j_istore_n [(3, .int 0), (2, .int v34), (0, .ref 2), (1, .int x1)] dX5_readNumber_10 rfl (Nat.le_of_ble_eq_true rfl) rfl ?_
  refine j_iconst (v := 0) dX5_readNumber_11 (by decide) ?_
  refine j_istore [(4, .int 0), (3, .int 0), (2, .int v34), (0, .ref 2), (1, .int x1)] dX5_readNumber_12 (Nat.le_of_ble_eq_true rfl) rfl ?_
  refine j_sub [(0, .ref 2), (1, .int x1), (2, .int v34), (3, .int 0), (4, .int 0)] [3, 4, 2, 1, 0] rfl ?_
  exact jloop_ok (fun s => f_X5_readNumber_B14 s.2.2 x1 v34 s.1 s.2.1) (fun s => J yX5_readNumber cX5_readNumber 5 (some .int) 4 g rv μ' 14 [(0, .ref 2), (1, .int x1), (2, .int v34), (3, .int s.1), (4, .int s.2.1)] [] (eX s.2.2)) Kp (fun s o hb hk => f_X5_readNumber_B14_ok (Kp := jsum (fun s => J yX5_readNumber cX5_readNumber 5 (some .int) 4 g rv μ' 14 [(0, .ref 2), (1, .int x1), (2, .int v34), (3, .int s.1), (4, .int s.2.1)] [] (eX s.2.2)) Kp) s.2.2 x1 v34 s.1 s.2.1 hn (fun r s q => hr r s q) (fun s q => q) o hb hk) jFuel _ _ h hK
theorem c_X5_readNumber (g : Bool) {σ : jS} {x1 : Int32} {r : Int32} {σ2 : jS} (h : f_X5_readNumber σ x1 = some (r, σ2)) : Cn yX5_readNumber cX5_readNumber 5 (some .int) 4 g [.ref 2, .int x1] (eX σ) (some (.int r)) (eX σ2) :=
  Cn_of (by decide) (Nat.le_refl _) (Nat.le_refl _) (Nat.le_of_ble_eq_true rfl) (f_X5_readNumber_ok (Kp := (fun o => o = (r, σ2))) σ x1 ⟨jbr _, jbr _⟩ (fun r2 s2 q => by cases q; exact ⟨rfl, rfl⟩) _ h rfl)
def f_X1_toggle (σ : jS) (x0 : Nat) (x1 : Int32) (x2 : Int32) : Option (Unit × jS) :=
  bC (f_X6_at σ x0 x1) fun r1 =>
  bD (f_X6_put σ x0 x1 (r1 ^^^ ((1 : Int32) <<< (x2 &&& 31)))) fun r2 σ3 =>
  bC (f_X6_at σ3 x0 x2) fun r4 =>
  bD (f_X6_put σ3 x0 x2 (r4 ^^^ ((1 : Int32) <<< (x1 &&& 31)))) fun r5 σ6 =>
  some (((), σ6))
set_option maxHeartbeats 1000000 in
set_option maxRecDepth 20000 in
theorem f_X1_toggle_ok {g : Bool} {rv : Option Value} {μ' : jM} (σ : jS) (x0 : Nat) (x1 : Int32) (x2 : Int32) {Kp : (Unit × jS) → Prop} (hn : Nat.ble nX μ'.1 = true ∧ Nat.ble wX μ'.2.1 = true) (hr : ∀ (r : Unit) (s : jS), Kp ((r, s)) → rv = none ∧ μ' = eX s) (o : (Unit × jS)) (h : f_X1_toggle σ x0 x1 x2 = some o) (hK : Kp o) : J yX1_toggle cX1_toggle 3 none 2 g rv μ' 0 [(0, .ref x0), (1, .int x1), (2, .int x2)] [] (eX σ) := by
  unfold f_X1_toggle at h
  refine j_aload_n 0 dX1_toggle_0 rfl rfl ?_
  refine j_iload_n 1 dX1_toggle_1 rfl rfl ?_
  refine j_aload_n 0 dX1_toggle_2 rfl rfl ?_
  refine j_iload_n 1 dX1_toggle_3 rfl rfl ?_
  replace h := bC_inv h
  obtain ⟨r7, cr7, h⟩ := h
  refine j_callS (st1 := .int r7 :: _) (c_X6_at g cr7) jy_X6_at kt_yX6_at kl_RX1_31 dX1_toggle_4 rfl rfl rfl rfl (jbr _) (jbr _) hn.1 hn.2 (Or.inr rfl) rfl ?_
  refine j_iconst (v := 1) dX1_toggle_7 (by decide) ?_
  refine j_iload_n 2 dX1_toggle_8 rfl rfl ?_
  refine j_ishl dX1_toggle_9 ?_
  refine j_ixor dX1_toggle_10 ?_
  replace h := bD_inv h
  obtain ⟨r8, σ9, cr8, h⟩ := h
  refine j_callS (st1 := _) (c_X6_put g cr8) jy_X6_put kt_yX6_put kl_RX1_35 dX1_toggle_11 rfl rfl rfl rfl (jbr _) (jbr _) hn.1 hn.2 (Or.inr rfl) rfl ?_
  refine j_aload_n 0 dX1_toggle_14 rfl rfl ?_
  refine j_iload_n 2 dX1_toggle_15 rfl rfl ?_
  refine j_aload_n 0 dX1_toggle_16 rfl rfl ?_
  refine j_iload_n 2 dX1_toggle_17 rfl rfl ?_
  replace h := bC_inv h
  obtain ⟨r10, cr10, h⟩ := h
  refine j_callS (st1 := .int r10 :: _) (c_X6_at g cr10) jy_X6_at kt_yX6_at kl_RX1_31 dX1_toggle_18 rfl rfl rfl rfl (jbr _) (jbr _) hn.1 hn.2 (Or.inr rfl) rfl ?_
  refine j_iconst (v := 1) dX1_toggle_21 (by decide) ?_
  refine j_iload_n 1 dX1_toggle_22 rfl rfl ?_
  refine j_ishl dX1_toggle_23 ?_
  refine j_ixor dX1_toggle_24 ?_
  replace h := bD_inv h
  obtain ⟨r11, σ12, cr11, h⟩ := h
  refine j_callS (st1 := _) (c_X6_put g cr11) jy_X6_put kt_yX6_put kl_RX1_35 dX1_toggle_25 rfl rfl rfl rfl (jbr _) (jbr _) hn.1 hn.2 (Or.inr rfl) rfl ?_
  replace h := Option.some.inj h
  subst h
  obtain ⟨hr1, hr2⟩ := hr _ _ hK
  exact j_vret dX1_toggle_28 hr1 hr2
theorem c_X1_toggle (g : Bool) {σ : jS} {x0 : Nat} {x1 : Int32} {x2 : Int32} {r : Unit} {σ2 : jS} (h : f_X1_toggle σ x0 x1 x2 = some (r, σ2)) : Cn yX1_toggle cX1_toggle 3 none 2 g [.ref x0, .int x1, .int x2] (eX σ) none (eX σ2) :=
  Cn_of (by decide) (Nat.le_refl _) (Nat.le_refl _) (Nat.le_of_ble_eq_true rfl) (f_X1_toggle_ok (Kp := (fun o => o = (r, σ2))) σ x0 x1 x2 ⟨jbr _, jbr _⟩ (fun r2 s2 q => by cases q; exact ⟨rfl, rfl⟩) _ h rfl)
def f_X1_add (σ : jS) (x0 : Nat) (x1 : Int32) (x2 : Int32) : Option (Unit × jS) :=
  bH [32, 40, 47, 57, 67] x0 (
  if (gI σ x0 3) < 120 then (bD (f_X6_put σ (rPX x0 0) (gI σ x0 3) x1) fun r1 σ2 =>
  bD (f_X6_put σ2 (rPX x0 1) (gI σ2 x0 3) x2) fun r3 σ4 =>
  bV (sI σ4 x0 3 ((gI σ4 x0 3) + (1 : Int32))) fun σ5 =>
  bD (f_X1_toggle σ5 (rPX x0 2) x1 x2) fun r6 σ7 =>
  some (((), σ7)))
  else (some (((), σ))))
set_option maxHeartbeats 1000000 in
set_option maxRecDepth 20000 in
theorem f_X1_add_ok {g : Bool} {rv : Option Value} {μ' : jM} (σ : jS) (x0 : Nat) (x1 : Int32) (x2 : Int32) {Kp : (Unit × jS) → Prop} (hn : Nat.ble nX μ'.1 = true ∧ Nat.ble wX μ'.2.1 = true) (hr : ∀ (r : Unit) (s : jS), Kp ((r, s)) → rv = none ∧ μ' = eX s) (o : (Unit × jS)) (h : f_X1_add σ x0 x1 x2 = some o) (hK : Kp o) : J yX1_add cX1_add 3 none 3 g rv μ' 0 [(0, .ref x0), (1, .int x1), (2, .int x2)] [] (eX σ) := by
  unfold f_X1_add at h
  refine j_aload_n 0 dX1_add_0 rfl rfl ?_
  replace h := bH_inv h
  obtain ⟨hm8, h⟩ := h
  simp only [List.mem_cons, List.not_mem_nil, or_false] at hm8
  rcases hm8 with rfl | rfl | rfl | rfl | rfl
  · skip
    refine j_get (ci := 1) 3 (.int (gI σ 32 3)) jC_1 dX1_add_1 kg_RX1_21 rfl (okX_32 _) (shX_32 _) (fvX_32_3 _) ?_
    refine j_bipush (v := 120) dX1_add_4 (by decide) ?_
    refine j_icmp_lt 10 dX1_add_6 (by decide) (fun hc9 => ?_) (fun hc9 => ?_)
    · replace h := jif_t hc9 h
      refine j_aload_n 0 dX1_add_10 rfl rfl ?_
      refine j_get (ci := 1) 0 (.ref 33) jC_1 dX1_add_11 kg_RX1_9 rfl (okX_32 _) (shX_32 _) (fvX_32_0 _) ?_
      refine j_aload_n 0 dX1_add_14 rfl rfl ?_
      refine j_get (ci := 1) 3 (.int (gI σ 32 3)) jC_1 dX1_add_15 kg_RX1_21 rfl (okX_32 _) (shX_32 _) (fvX_32_3 _) ?_
      refine j_iload_n 1 dX1_add_18 rfl rfl ?_
      replace h := bD_inv h
      obtain ⟨r10, σ11, cr10, h⟩ := h
      refine j_callS (st1 := _) (c_X6_put g cr10) jy_X6_put kt_yX6_put kl_RX1_35 dX1_add_19 rfl rfl rfl rfl (jbr _) (jbr _) hn.1 hn.2 (Or.inr rfl) rfl ?_
      refine j_aload_n 0 dX1_add_22 rfl rfl ?_
      refine j_get (ci := 1) 1 (.ref 34) jC_1 dX1_add_23 kg_RX1_15 rfl (okX_32 _) (shX_32 _) (fvX_32_1 _) ?_
      refine j_aload_n 0 dX1_add_26 rfl rfl ?_
      refine j_get (ci := 1) 3 (.int (gI σ11 32 3)) jC_1 dX1_add_27 kg_RX1_21 rfl (okX_32 _) (shX_32 _) (fvX_32_3 _) ?_
      refine j_iload_n 2 dX1_add_30 rfl rfl ?_
      replace h := bD_inv h
      obtain ⟨r12, σ13, cr12, h⟩ := h
      refine j_callS (st1 := _) (c_X6_put g cr12) jy_X6_put kt_yX6_put kl_RX1_35 dX1_add_31 rfl rfl rfl rfl (jbr _) (jbr _) hn.1 hn.2 (Or.inr rfl) rfl ?_
      refine j_aload_n 0 dX1_add_34 rfl rfl ?_
      refine j_dup dX1_add_35 rfl ?_
      refine j_get (ci := 1) 3 (.int (gI σ13 32 3)) jC_1 dX1_add_36 kg_RX1_21 rfl (okX_32 _) (shX_32 _) (fvX_32_3 _) ?_
      refine j_iconst (v := 1) dX1_add_39 (by decide) ?_
      refine j_iadd dX1_add_40 ?_
      replace h := bV_inv h
      obtain ⟨σ14, eσ14, h⟩ := h
      refine j_putI 3 jC_1 dX1_add_41 kg_RX1_21 (Or.inl ff_1_3) rfl fk_1_3 (fn_1_3 _) (okX_32 _) (shX_32 _) ?_
      refine j_mem (congrArg eX eσ14) ?_
      refine j_aload_n 0 dX1_add_44 rfl rfl ?_
      refine j_get (ci := 1) 2 (.ref 35) jC_1 dX1_add_45 kg_RX1_18 rfl (okX_32 _) (shX_32 _) (fvX_32_2 _) ?_
      refine j_iload_n 1 dX1_add_48 rfl rfl ?_
      refine j_iload_n 2 dX1_add_49 rfl rfl ?_
      replace h := bD_inv h
      obtain ⟨r15, σ16, cr15, h⟩ := h
      refine j_callS (st1 := _) (c_X1_toggle g cr15) jy_X1_toggle kt_yX1_toggle kl_RX1_39 dX1_add_50 rfl rfl rfl rfl (jbr _) (jbr _) hn.1 hn.2 (Or.inr rfl) rfl ?_
      replace h := Option.some.inj h
      subst h
      obtain ⟨hr1, hr2⟩ := hr _ _ hK
      exact j_vret dX1_add_53 hr1 hr2
    · replace h := jif_f hc9 h
      replace h := Option.some.inj h
      subst h
      obtain ⟨hr1, hr2⟩ := hr _ _ hK
      exact j_vret dX1_add_9 hr1 hr2
  · skip
    refine j_get (ci := 1) 3 (.int (gI σ 40 3)) jC_1 dX1_add_1 kg_RX1_21 rfl (okX_40 _) (shX_40 _) (fvX_40_3 _) ?_
    refine j_bipush (v := 120) dX1_add_4 (by decide) ?_
    refine j_icmp_lt 10 dX1_add_6 (by decide) (fun hc17 => ?_) (fun hc17 => ?_)
    · replace h := jif_t hc17 h
      refine j_aload_n 0 dX1_add_10 rfl rfl ?_
      refine j_get (ci := 1) 0 (.ref 41) jC_1 dX1_add_11 kg_RX1_9 rfl (okX_40 _) (shX_40 _) (fvX_40_0 _) ?_
      refine j_aload_n 0 dX1_add_14 rfl rfl ?_
      refine j_get (ci := 1) 3 (.int (gI σ 40 3)) jC_1 dX1_add_15 kg_RX1_21 rfl (okX_40 _) (shX_40 _) (fvX_40_3 _) ?_
      refine j_iload_n 1 dX1_add_18 rfl rfl ?_
      replace h := bD_inv h
      obtain ⟨r18, σ19, cr18, h⟩ := h
      refine j_callS (st1 := _) (c_X6_put g cr18) jy_X6_put kt_yX6_put kl_RX1_35 dX1_add_19 rfl rfl rfl rfl (jbr _) (jbr _) hn.1 hn.2 (Or.inr rfl) rfl ?_
      refine j_aload_n 0 dX1_add_22 rfl rfl ?_
      refine j_get (ci := 1) 1 (.ref 42) jC_1 dX1_add_23 kg_RX1_15 rfl (okX_40 _) (shX_40 _) (fvX_40_1 _) ?_
      refine j_aload_n 0 dX1_add_26 rfl rfl ?_
      refine j_get (ci := 1) 3 (.int (gI σ19 40 3)) jC_1 dX1_add_27 kg_RX1_21 rfl (okX_40 _) (shX_40 _) (fvX_40_3 _) ?_
      refine j_iload_n 2 dX1_add_30 rfl rfl ?_
      replace h := bD_inv h
      obtain ⟨r20, σ21, cr20, h⟩ := h
      refine j_callS (st1 := _) (c_X6_put g cr20) jy_X6_put kt_yX6_put kl_RX1_35 dX1_add_31 rfl rfl rfl rfl (jbr _) (jbr _) hn.1 hn.2 (Or.inr rfl) rfl ?_
      refine j_aload_n 0 dX1_add_34 rfl rfl ?_
      refine j_dup dX1_add_35 rfl ?_
      refine j_get (ci := 1) 3 (.int (gI σ21 40 3)) jC_1 dX1_add_36 kg_RX1_21 rfl (okX_40 _) (shX_40 _) (fvX_40_3 _) ?_
      refine j_iconst (v := 1) dX1_add_39 (by decide) ?_
      refine j_iadd dX1_add_40 ?_
      replace h := bV_inv h
      obtain ⟨σ22, eσ22, h⟩ := h
      refine j_putI 3 jC_1 dX1_add_41 kg_RX1_21 (Or.inl ff_1_3) rfl fk_1_3 (fn_1_3 _) (okX_40 _) (shX_40 _) ?_
      refine j_mem (congrArg eX eσ22) ?_
      refine j_aload_n 0 dX1_add_44 rfl rfl ?_
      refine j_get (ci := 1) 2 (.ref 43) jC_1 dX1_add_45 kg_RX1_18 rfl (okX_40 _) (shX_40 _) (fvX_40_2 _) ?_
      refine j_iload_n 1 dX1_add_48 rfl rfl ?_
      refine j_iload_n 2 dX1_add_49 rfl rfl ?_
      replace h := bD_inv h
      obtain ⟨r23, σ24, cr23, h⟩ := h
      refine j_callS (st1 := _) (c_X1_toggle g cr23) jy_X1_toggle kt_yX1_toggle kl_RX1_39 dX1_add_50 rfl rfl rfl rfl (jbr _) (jbr _) hn.1 hn.2 (Or.inr rfl) rfl ?_
      replace h := Option.some.inj h
      subst h
      obtain ⟨hr1, hr2⟩ := hr _ _ hK
      exact j_vret dX1_add_53 hr1 hr2
    · replace h := jif_f hc17 h
      replace h := Option.some.inj h
      subst h
      obtain ⟨hr1, hr2⟩ := hr _ _ hK
      exact j_vret dX1_add_9 hr1 hr2
  · skip
    refine j_get (ci := 1) 3 (.int (gI σ 47 3)) jC_1 dX1_add_1 kg_RX1_21 rfl (okX_47 _) (shX_47 _) (fvX_47_3 _) ?_
    refine j_bipush (v := 120) dX1_add_4 (by decide) ?_
    refine j_icmp_lt 10 dX1_add_6 (by decide) (fun hc25 => ?_) (fun hc25 => ?_)
    · replace h := jif_t hc25 h
      refine j_aload_n 0 dX1_add_10 rfl rfl ?_
      refine j_get (ci := 1) 0 (.ref 48) jC_1 dX1_add_11 kg_RX1_9 rfl (okX_47 _) (shX_47 _) (fvX_47_0 _) ?_
      refine j_aload_n 0 dX1_add_14 rfl rfl ?_
      refine j_get (ci := 1) 3 (.int (gI σ 47 3)) jC_1 dX1_add_15 kg_RX1_21 rfl (okX_47 _) (shX_47 _) (fvX_47_3 _) ?_
      refine j_iload_n 1 dX1_add_18 rfl rfl ?_
      replace h := bD_inv h
      obtain ⟨r26, σ27, cr26, h⟩ := h
      refine j_callS (st1 := _) (c_X6_put g cr26) jy_X6_put kt_yX6_put kl_RX1_35 dX1_add_19 rfl rfl rfl rfl (jbr _) (jbr _) hn.1 hn.2 (Or.inr rfl) rfl ?_
      refine j_aload_n 0 dX1_add_22 rfl rfl ?_
      refine j_get (ci := 1) 1 (.ref 49) jC_1 dX1_add_23 kg_RX1_15 rfl (okX_47 _) (shX_47 _) (fvX_47_1 _) ?_
      refine j_aload_n 0 dX1_add_26 rfl rfl ?_
      refine j_get (ci := 1) 3 (.int (gI σ27 47 3)) jC_1 dX1_add_27 kg_RX1_21 rfl (okX_47 _) (shX_47 _) (fvX_47_3 _) ?_
      refine j_iload_n 2 dX1_add_30 rfl rfl ?_
      replace h := bD_inv h
      obtain ⟨r28, σ29, cr28, h⟩ := h
      refine j_callS (st1 := _) (c_X6_put g cr28) jy_X6_put kt_yX6_put kl_RX1_35 dX1_add_31 rfl rfl rfl rfl (jbr _) (jbr _) hn.1 hn.2 (Or.inr rfl) rfl ?_
      refine j_aload_n 0 dX1_add_34 rfl rfl ?_
      refine j_dup dX1_add_35 rfl ?_
      refine j_get (ci := 1) 3 (.int (gI σ29 47 3)) jC_1 dX1_add_36 kg_RX1_21 rfl (okX_47 _) (shX_47 _) (fvX_47_3 _) ?_
      refine j_iconst (v := 1) dX1_add_39 (by decide) ?_
      refine j_iadd dX1_add_40 ?_
      replace h := bV_inv h
      obtain ⟨σ30, eσ30, h⟩ := h
      refine j_putI 3 jC_1 dX1_add_41 kg_RX1_21 (Or.inl ff_1_3) rfl fk_1_3 (fn_1_3 _) (okX_47 _) (shX_47 _) ?_
      refine j_mem (congrArg eX eσ30) ?_
      refine j_aload_n 0 dX1_add_44 rfl rfl ?_
      refine j_get (ci := 1) 2 (.ref 50) jC_1 dX1_add_45 kg_RX1_18 rfl (okX_47 _) (shX_47 _) (fvX_47_2 _) ?_
      refine j_iload_n 1 dX1_add_48 rfl rfl ?_
      refine j_iload_n 2 dX1_add_49 rfl rfl ?_
      replace h := bD_inv h
      obtain ⟨r31, σ32, cr31, h⟩ := h
      refine j_callS (st1 := _) (c_X1_toggle g cr31) jy_X1_toggle kt_yX1_toggle kl_RX1_39 dX1_add_50 rfl rfl rfl rfl (jbr _) (jbr _) hn.1 hn.2 (Or.inr rfl) rfl ?_
      replace h := Option.some.inj h
      subst h
      obtain ⟨hr1, hr2⟩ := hr _ _ hK
      exact j_vret dX1_add_53 hr1 hr2
    · replace h := jif_f hc25 h
      replace h := Option.some.inj h
      subst h
      obtain ⟨hr1, hr2⟩ := hr _ _ hK
      exact j_vret dX1_add_9 hr1 hr2
  · skip
    refine j_get (ci := 1) 3 (.int (gI σ 57 3)) jC_1 dX1_add_1 kg_RX1_21 rfl (okX_57 _) (shX_57 _) (fvX_57_3 _) ?_
    refine j_bipush (v := 120) dX1_add_4 (by decide) ?_
    refine j_icmp_lt 10 dX1_add_6 (by decide) (fun hc33 => ?_) (fun hc33 => ?_)
    · replace h := jif_t hc33 h
      refine j_aload_n 0 dX1_add_10 rfl rfl ?_
      refine j_get (ci := 1) 0 (.ref 58) jC_1 dX1_add_11 kg_RX1_9 rfl (okX_57 _) (shX_57 _) (fvX_57_0 _) ?_
      refine j_aload_n 0 dX1_add_14 rfl rfl ?_
      refine j_get (ci := 1) 3 (.int (gI σ 57 3)) jC_1 dX1_add_15 kg_RX1_21 rfl (okX_57 _) (shX_57 _) (fvX_57_3 _) ?_
      refine j_iload_n 1 dX1_add_18 rfl rfl ?_
      replace h := bD_inv h
      obtain ⟨r34, σ35, cr34, h⟩ := h
      refine j_callS (st1 := _) (c_X6_put g cr34) jy_X6_put kt_yX6_put kl_RX1_35 dX1_add_19 rfl rfl rfl rfl (jbr _) (jbr _) hn.1 hn.2 (Or.inr rfl) rfl ?_
      refine j_aload_n 0 dX1_add_22 rfl rfl ?_
      refine j_get (ci := 1) 1 (.ref 59) jC_1 dX1_add_23 kg_RX1_15 rfl (okX_57 _) (shX_57 _) (fvX_57_1 _) ?_
      refine j_aload_n 0 dX1_add_26 rfl rfl ?_
      refine j_get (ci := 1) 3 (.int (gI σ35 57 3)) jC_1 dX1_add_27 kg_RX1_21 rfl (okX_57 _) (shX_57 _) (fvX_57_3 _) ?_
      refine j_iload_n 2 dX1_add_30 rfl rfl ?_
      replace h := bD_inv h
      obtain ⟨r36, σ37, cr36, h⟩ := h
      refine j_callS (st1 := _) (c_X6_put g cr36) jy_X6_put kt_yX6_put kl_RX1_35 dX1_add_31 rfl rfl rfl rfl (jbr _) (jbr _) hn.1 hn.2 (Or.inr rfl) rfl ?_
      refine j_aload_n 0 dX1_add_34 rfl rfl ?_
      refine j_dup dX1_add_35 rfl ?_
      refine j_get (ci := 1) 3 (.int (gI σ37 57 3)) jC_1 dX1_add_36 kg_RX1_21 rfl (okX_57 _) (shX_57 _) (fvX_57_3 _) ?_
      refine j_iconst (v := 1) dX1_add_39 (by decide) ?_
      refine j_iadd dX1_add_40 ?_
      replace h := bV_inv h
      obtain ⟨σ38, eσ38, h⟩ := h
      refine j_putI 3 jC_1 dX1_add_41 kg_RX1_21 (Or.inl ff_1_3) rfl fk_1_3 (fn_1_3 _) (okX_57 _) (shX_57 _) ?_
      refine j_mem (congrArg eX eσ38) ?_
      refine j_aload_n 0 dX1_add_44 rfl rfl ?_
      refine j_get (ci := 1) 2 (.ref 60) jC_1 dX1_add_45 kg_RX1_18 rfl (okX_57 _) (shX_57 _) (fvX_57_2 _) ?_
      refine j_iload_n 1 dX1_add_48 rfl rfl ?_
      refine j_iload_n 2 dX1_add_49 rfl rfl ?_
      replace h := bD_inv h
      obtain ⟨r39, σ40, cr39, h⟩ := h
      refine j_callS (st1 := _) (c_X1_toggle g cr39) jy_X1_toggle kt_yX1_toggle kl_RX1_39 dX1_add_50 rfl rfl rfl rfl (jbr _) (jbr _) hn.1 hn.2 (Or.inr rfl) rfl ?_
      replace h := Option.some.inj h
      subst h
      obtain ⟨hr1, hr2⟩ := hr _ _ hK
      exact j_vret dX1_add_53 hr1 hr2
    · replace h := jif_f hc33 h
      replace h := Option.some.inj h
      subst h
      obtain ⟨hr1, hr2⟩ := hr _ _ hK
      exact j_vret dX1_add_9 hr1 hr2
  · skip
    refine j_get (ci := 1) 3 (.int (gI σ 67 3)) jC_1 dX1_add_1 kg_RX1_21 rfl (okX_67 _) (shX_67 _) (fvX_67_3 _) ?_
    refine j_bipush (v := 120) dX1_add_4 (by decide) ?_
    refine j_icmp_lt 10 dX1_add_6 (by decide) (fun hc41 => ?_) (fun hc41 => ?_)
    · replace h := jif_t hc41 h
      refine j_aload_n 0 dX1_add_10 rfl rfl ?_
      refine j_get (ci := 1) 0 (.ref 68) jC_1 dX1_add_11 kg_RX1_9 rfl (okX_67 _) (shX_67 _) (fvX_67_0 _) ?_
      refine j_aload_n 0 dX1_add_14 rfl rfl ?_
      refine j_get (ci := 1) 3 (.int (gI σ 67 3)) jC_1 dX1_add_15 kg_RX1_21 rfl (okX_67 _) (shX_67 _) (fvX_67_3 _) ?_
      refine j_iload_n 1 dX1_add_18 rfl rfl ?_
      replace h := bD_inv h
      obtain ⟨r42, σ43, cr42, h⟩ := h
      refine j_callS (st1 := _) (c_X6_put g cr42) jy_X6_put kt_yX6_put kl_RX1_35 dX1_add_19 rfl rfl rfl rfl (jbr _) (jbr _) hn.1 hn.2 (Or.inr rfl) rfl ?_
      refine j_aload_n 0 dX1_add_22 rfl rfl ?_
      refine j_get (ci := 1) 1 (.ref 69) jC_1 dX1_add_23 kg_RX1_15 rfl (okX_67 _) (shX_67 _) (fvX_67_1 _) ?_
      refine j_aload_n 0 dX1_add_26 rfl rfl ?_
      refine j_get (ci := 1) 3 (.int (gI σ43 67 3)) jC_1 dX1_add_27 kg_RX1_21 rfl (okX_67 _) (shX_67 _) (fvX_67_3 _) ?_
      refine j_iload_n 2 dX1_add_30 rfl rfl ?_
      replace h := bD_inv h
      obtain ⟨r44, σ45, cr44, h⟩ := h
      refine j_callS (st1 := _) (c_X6_put g cr44) jy_X6_put kt_yX6_put kl_RX1_35 dX1_add_31 rfl rfl rfl rfl (jbr _) (jbr _) hn.1 hn.2 (Or.inr rfl) rfl ?_
      refine j_aload_n 0 dX1_add_34 rfl rfl ?_
      refine j_dup dX1_add_35 rfl ?_
      refine j_get (ci := 1) 3 (.int (gI σ45 67 3)) jC_1 dX1_add_36 kg_RX1_21 rfl (okX_67 _) (shX_67 _) (fvX_67_3 _) ?_
      refine j_iconst (v := 1) dX1_add_39 (by decide) ?_
      refine j_iadd dX1_add_40 ?_
      replace h := bV_inv h
      obtain ⟨σ46, eσ46, h⟩ := h
      refine j_putI 3 jC_1 dX1_add_41 kg_RX1_21 (Or.inl ff_1_3) rfl fk_1_3 (fn_1_3 _) (okX_67 _) (shX_67 _) ?_
      refine j_mem (congrArg eX eσ46) ?_
      refine j_aload_n 0 dX1_add_44 rfl rfl ?_
      refine j_get (ci := 1) 2 (.ref 70) jC_1 dX1_add_45 kg_RX1_18 rfl (okX_67 _) (shX_67 _) (fvX_67_2 _) ?_
      refine j_iload_n 1 dX1_add_48 rfl rfl ?_
      refine j_iload_n 2 dX1_add_49 rfl rfl ?_
      replace h := bD_inv h
      obtain ⟨r47, σ48, cr47, h⟩ := h
      refine j_callS (st1 := _) (c_X1_toggle g cr47) jy_X1_toggle kt_yX1_toggle kl_RX1_39 dX1_add_50 rfl rfl rfl rfl (jbr _) (jbr _) hn.1 hn.2 (Or.inr rfl) rfl ?_
      replace h := Option.some.inj h
      subst h
      obtain ⟨hr1, hr2⟩ := hr _ _ hK
      exact j_vret dX1_add_53 hr1 hr2
    · replace h := jif_f hc41 h
      replace h := Option.some.inj h
      subst h
      obtain ⟨hr1, hr2⟩ := hr _ _ hK
      exact j_vret dX1_add_9 hr1 hr2
theorem c_X1_add (g : Bool) {σ : jS} {x0 : Nat} {x1 : Int32} {x2 : Int32} {r : Unit} {σ2 : jS} (h : f_X1_add σ x0 x1 x2 = some (r, σ2)) : Cn yX1_add cX1_add 3 none 3 g [.ref x0, .int x1, .int x2] (eX σ) none (eX σ2) :=
  Cn_of (by decide) (Nat.le_refl _) (Nat.le_refl _) (Nat.le_of_ble_eq_true rfl) (f_X1_add_ok (Kp := (fun o => o = (r, σ2))) σ x0 x1 x2 ⟨jbr _, jbr _⟩ (fun r2 s2 q => by cases q; exact ⟨rfl, rfl⟩) _ h rfl)
def f_X8_addPair_J93 (σ : jS) : Option (Unit × jS) :=
  some (((), σ))
set_option maxHeartbeats 1000000 in
set_option maxRecDepth 20000 in
theorem f_X8_addPair_J93_ok {g : Bool} {rv : Option Value} {μ' : jM} (σ : jS) {Kp : (Unit × jS) → Prop} (hn : Nat.ble nX μ'.1 = true ∧ Nat.ble wX μ'.2.1 = true) (hr : ∀ (r : Unit) (s : jS), Kp ((r, s)) → rv = none ∧ μ' = eX s) (o : (Unit × jS)) (h : f_X8_addPair_J93 σ = some o) (hK : Kp o) : J yX8_addPair cX8_addPair 4 none 4 g rv μ' 93 [] [] (eX σ) := by
  unfold f_X8_addPair_J93 at h
  replace h := Option.some.inj h
  subst h
  obtain ⟨hr1, hr2⟩ := hr _ _ hK
  exact j_vret dX8_addPair_93 hr1 hr2
def f_X8_addPair (σ : jS) (x0 : Nat) (x1 : Int32) (x2 : Int32) (x3 : Int32) : Option (Unit × jS) :=
  if x1 = 2 then (bH [51, 61] x0 (
  bD (f_X1_add σ (rPX x0 5) x2 x3) fun r11 σ12 =>
  f_X8_addPair_J93 σ12))
  else (if x1 = 1 then (bH [51, 61] x0 (
  bD (f_X6_put σ (rPX x0 1) (gI σ x0 7) x2) fun r6 σ7 =>
  bD (f_X6_put σ7 (rPX x0 2) (gI σ7 x0 7) x3) fun r8 σ9 =>
  bV (sI σ9 x0 7 ((gI σ9 x0 7) + (1 : Int32))) fun σ10 =>
  f_X8_addPair_J93 σ10))
  else (bH [51, 61] x0 (
  bD (f_X6_put σ (rPX x0 3) (gI σ x0 8) x2) fun r1 σ2 =>
  bD (f_X6_put σ2 (rPX x0 4) (gI σ2 x0 8) x3) fun r3 σ4 =>
  bV (sI σ4 x0 8 ((gI σ4 x0 8) + (1 : Int32))) fun σ5 =>
  f_X8_addPair_J93 σ5)))
set_option maxHeartbeats 1000000 in
set_option maxRecDepth 20000 in
theorem f_X8_addPair_ok {g : Bool} {rv : Option Value} {μ' : jM} (σ : jS) (x0 : Nat) (x1 : Int32) (x2 : Int32) (x3 : Int32) {Kp : (Unit × jS) → Prop} (hn : Nat.ble nX μ'.1 = true ∧ Nat.ble wX μ'.2.1 = true) (hr : ∀ (r : Unit) (s : jS), Kp ((r, s)) → rv = none ∧ μ' = eX s) (o : (Unit × jS)) (h : f_X8_addPair σ x0 x1 x2 x3 = some o) (hK : Kp o) : J yX8_addPair cX8_addPair 4 none 4 g rv μ' 0 [(0, .ref x0), (1, .int x1), (2, .int x2), (3, .int x3)] [] (eX σ) := by
  unfold f_X8_addPair at h
  refine j_iload_n 1 dX8_addPair_0 rfl rfl ?_
  refine j_iconst (v := 2) dX8_addPair_1 (by decide) ?_
  refine j_icmp_ne 17 dX8_addPair_2 (by decide) (fun hc13 => ?_) (fun hc13 => ?_)
  · replace h := jif_f hc13 h
    refine j_iload_n 1 dX8_addPair_17 rfl rfl ?_
    refine j_iconst (v := 1) dX8_addPair_18 (by decide) ?_
    refine j_icmp_ne 59 dX8_addPair_19 (by decide) (fun hc14 => ?_) (fun hc14 => ?_)
    · replace h := jif_f hc14 h
      refine j_aload_n 0 dX8_addPair_59 rfl rfl ?_
      replace h := bH_inv h
      obtain ⟨hm15, h⟩ := h
      simp only [List.mem_cons, List.not_mem_nil, or_false] at hm15
      rcases hm15 with rfl | rfl
      · skip
        refine j_get (ci := 7) 3 (.ref 55) jC_7 dX8_addPair_60 kg_RX8_21 rfl (okX_51 _) (shX_51 _) (fvX_51_3 _) ?_
        refine j_aload_n 0 dX8_addPair_63 rfl rfl ?_
        refine j_get (ci := 7) 8 (.int (gI σ 51 8)) jC_7 dX8_addPair_64 kg_RX8_41 rfl (okX_51 _) (shX_51 _) (fvX_51_8 _) ?_
        refine j_iload_n 2 dX8_addPair_67 rfl rfl ?_
        replace h := bD_inv h
        obtain ⟨r16, σ17, cr16, h⟩ := h
        refine j_callS (st1 := _) (c_X6_put g cr16) jy_X6_put kt_yX6_put kl_RX8_61 dX8_addPair_68 rfl rfl rfl rfl (jbr _) (jbr _) hn.1 hn.2 (Or.inr rfl) rfl ?_
        refine j_aload_n 0 dX8_addPair_71 rfl rfl ?_
        refine j_get (ci := 7) 4 (.ref 56) jC_7 dX8_addPair_72 kg_RX8_24 rfl (okX_51 _) (shX_51 _) (fvX_51_4 _) ?_
        refine j_aload_n 0 dX8_addPair_75 rfl rfl ?_
        refine j_get (ci := 7) 8 (.int (gI σ17 51 8)) jC_7 dX8_addPair_76 kg_RX8_41 rfl (okX_51 _) (shX_51 _) (fvX_51_8 _) ?_
        refine j_iload_n 3 dX8_addPair_79 rfl rfl ?_
        replace h := bD_inv h
        obtain ⟨r18, σ19, cr18, h⟩ := h
        refine j_callS (st1 := _) (c_X6_put g cr18) jy_X6_put kt_yX6_put kl_RX8_61 dX8_addPair_80 rfl rfl rfl rfl (jbr _) (jbr _) hn.1 hn.2 (Or.inr rfl) rfl ?_
        refine j_aload_n 0 dX8_addPair_83 rfl rfl ?_
        refine j_dup dX8_addPair_84 rfl ?_
        refine j_get (ci := 7) 8 (.int (gI σ19 51 8)) jC_7 dX8_addPair_85 kg_RX8_41 rfl (okX_51 _) (shX_51 _) (fvX_51_8 _) ?_
        refine j_iconst (v := 1) dX8_addPair_88 (by decide) ?_
        refine j_iadd dX8_addPair_89 ?_
        replace h := bV_inv h
        obtain ⟨σ20, eσ20, h⟩ := h
        refine j_putI 8 jC_7 dX8_addPair_90 kg_RX8_41 (Or.inl ff_7_8) rfl fk_7_8 (fn_7_8 _) (okX_51 _) (shX_51 _) ?_
        refine j_mem (congrArg eX eσ20) ?_
        refine j_sub [] [] rfl ?_
        exact f_X8_addPair_J93_ok σ20 hn hr _ h hK
      · skip
        refine j_get (ci := 7) 3 (.ref 65) jC_7 dX8_addPair_60 kg_RX8_21 rfl (okX_61 _) (shX_61 _) (fvX_61_3 _) ?_
        refine j_aload_n 0 dX8_addPair_63 rfl rfl ?_
        refine j_get (ci := 7) 8 (.int (gI σ 61 8)) jC_7 dX8_addPair_64 kg_RX8_41 rfl (okX_61 _) (shX_61 _) (fvX_61_8 _) ?_
        refine j_iload_n 2 dX8_addPair_67 rfl rfl ?_
        replace h := bD_inv h
        obtain ⟨r21, σ22, cr21, h⟩ := h
        refine j_callS (st1 := _) (c_X6_put g cr21) jy_X6_put kt_yX6_put kl_RX8_61 dX8_addPair_68 rfl rfl rfl rfl (jbr _) (jbr _) hn.1 hn.2 (Or.inr rfl) rfl ?_
        refine j_aload_n 0 dX8_addPair_71 rfl rfl ?_
        refine j_get (ci := 7) 4 (.ref 66) jC_7 dX8_addPair_72 kg_RX8_24 rfl (okX_61 _) (shX_61 _) (fvX_61_4 _) ?_
        refine j_aload_n 0 dX8_addPair_75 rfl rfl ?_
        refine j_get (ci := 7) 8 (.int (gI σ22 61 8)) jC_7 dX8_addPair_76 kg_RX8_41 rfl (okX_61 _) (shX_61 _) (fvX_61_8 _) ?_
        refine j_iload_n 3 dX8_addPair_79 rfl rfl ?_
        replace h := bD_inv h
        obtain ⟨r23, σ24, cr23, h⟩ := h
        refine j_callS (st1 := _) (c_X6_put g cr23) jy_X6_put kt_yX6_put kl_RX8_61 dX8_addPair_80 rfl rfl rfl rfl (jbr _) (jbr _) hn.1 hn.2 (Or.inr rfl) rfl ?_
        refine j_aload_n 0 dX8_addPair_83 rfl rfl ?_
        refine j_dup dX8_addPair_84 rfl ?_
        refine j_get (ci := 7) 8 (.int (gI σ24 61 8)) jC_7 dX8_addPair_85 kg_RX8_41 rfl (okX_61 _) (shX_61 _) (fvX_61_8 _) ?_
        refine j_iconst (v := 1) dX8_addPair_88 (by decide) ?_
        refine j_iadd dX8_addPair_89 ?_
        replace h := bV_inv h
        obtain ⟨σ25, eσ25, h⟩ := h
        refine j_putI 8 jC_7 dX8_addPair_90 kg_RX8_41 (Or.inl ff_7_8) rfl fk_7_8 (fn_7_8 _) (okX_61 _) (shX_61 _) ?_
        refine j_mem (congrArg eX eσ25) ?_
        refine j_sub [] [] rfl ?_
        exact f_X8_addPair_J93_ok σ25 hn hr _ h hK
    · replace h := jif_t hc14 h
      refine j_aload_n 0 dX8_addPair_22 rfl rfl ?_
      replace h := bH_inv h
      obtain ⟨hm26, h⟩ := h
      simp only [List.mem_cons, List.not_mem_nil, or_false] at hm26
      rcases hm26 with rfl | rfl
      · skip
        refine j_get (ci := 7) 1 (.ref 53) jC_7 dX8_addPair_23 kg_RX8_15 rfl (okX_51 _) (shX_51 _) (fvX_51_1 _) ?_
        refine j_aload_n 0 dX8_addPair_26 rfl rfl ?_
        refine j_get (ci := 7) 7 (.int (gI σ 51 7)) jC_7 dX8_addPair_27 kg_RX8_38 rfl (okX_51 _) (shX_51 _) (fvX_51_7 _) ?_
        refine j_iload_n 2 dX8_addPair_30 rfl rfl ?_
        replace h := bD_inv h
        obtain ⟨r27, σ28, cr27, h⟩ := h
        refine j_callS (st1 := _) (c_X6_put g cr27) jy_X6_put kt_yX6_put kl_RX8_61 dX8_addPair_31 rfl rfl rfl rfl (jbr _) (jbr _) hn.1 hn.2 (Or.inr rfl) rfl ?_
        refine j_aload_n 0 dX8_addPair_34 rfl rfl ?_
        refine j_get (ci := 7) 2 (.ref 54) jC_7 dX8_addPair_35 kg_RX8_18 rfl (okX_51 _) (shX_51 _) (fvX_51_2 _) ?_
        refine j_aload_n 0 dX8_addPair_38 rfl rfl ?_
        refine j_get (ci := 7) 7 (.int (gI σ28 51 7)) jC_7 dX8_addPair_39 kg_RX8_38 rfl (okX_51 _) (shX_51 _) (fvX_51_7 _) ?_
        refine j_iload_n 3 dX8_addPair_42 rfl rfl ?_
        replace h := bD_inv h
        obtain ⟨r29, σ30, cr29, h⟩ := h
        refine j_callS (st1 := _) (c_X6_put g cr29) jy_X6_put kt_yX6_put kl_RX8_61 dX8_addPair_43 rfl rfl rfl rfl (jbr _) (jbr _) hn.1 hn.2 (Or.inr rfl) rfl ?_
        refine j_aload_n 0 dX8_addPair_46 rfl rfl ?_
        refine j_dup dX8_addPair_47 rfl ?_
        refine j_get (ci := 7) 7 (.int (gI σ30 51 7)) jC_7 dX8_addPair_48 kg_RX8_38 rfl (okX_51 _) (shX_51 _) (fvX_51_7 _) ?_
        refine j_iconst (v := 1) dX8_addPair_51 (by decide) ?_
        refine j_iadd dX8_addPair_52 ?_
        replace h := bV_inv h
        obtain ⟨σ31, eσ31, h⟩ := h
        refine j_putI 7 jC_7 dX8_addPair_53 kg_RX8_38 (Or.inl ff_7_7) rfl fk_7_7 (fn_7_7 _) (okX_51 _) (shX_51 _) ?_
        refine j_mem (congrArg eX eσ31) ?_
        refine j_goto 93 dX8_addPair_56 (by decide) ?_
        refine j_sub [] [] rfl ?_
        exact f_X8_addPair_J93_ok σ31 hn hr _ h hK
      · skip
        refine j_get (ci := 7) 1 (.ref 63) jC_7 dX8_addPair_23 kg_RX8_15 rfl (okX_61 _) (shX_61 _) (fvX_61_1 _) ?_
        refine j_aload_n 0 dX8_addPair_26 rfl rfl ?_
        refine j_get (ci := 7) 7 (.int (gI σ 61 7)) jC_7 dX8_addPair_27 kg_RX8_38 rfl (okX_61 _) (shX_61 _) (fvX_61_7 _) ?_
        refine j_iload_n 2 dX8_addPair_30 rfl rfl ?_
        replace h := bD_inv h
        obtain ⟨r32, σ33, cr32, h⟩ := h
        refine j_callS (st1 := _) (c_X6_put g cr32) jy_X6_put kt_yX6_put kl_RX8_61 dX8_addPair_31 rfl rfl rfl rfl (jbr _) (jbr _) hn.1 hn.2 (Or.inr rfl) rfl ?_
        refine j_aload_n 0 dX8_addPair_34 rfl rfl ?_
        refine j_get (ci := 7) 2 (.ref 64) jC_7 dX8_addPair_35 kg_RX8_18 rfl (okX_61 _) (shX_61 _) (fvX_61_2 _) ?_
        refine j_aload_n 0 dX8_addPair_38 rfl rfl ?_
        refine j_get (ci := 7) 7 (.int (gI σ33 61 7)) jC_7 dX8_addPair_39 kg_RX8_38 rfl (okX_61 _) (shX_61 _) (fvX_61_7 _) ?_
        refine j_iload_n 3 dX8_addPair_42 rfl rfl ?_
        replace h := bD_inv h
        obtain ⟨r34, σ35, cr34, h⟩ := h
        refine j_callS (st1 := _) (c_X6_put g cr34) jy_X6_put kt_yX6_put kl_RX8_61 dX8_addPair_43 rfl rfl rfl rfl (jbr _) (jbr _) hn.1 hn.2 (Or.inr rfl) rfl ?_
        refine j_aload_n 0 dX8_addPair_46 rfl rfl ?_
        refine j_dup dX8_addPair_47 rfl ?_
        refine j_get (ci := 7) 7 (.int (gI σ35 61 7)) jC_7 dX8_addPair_48 kg_RX8_38 rfl (okX_61 _) (shX_61 _) (fvX_61_7 _) ?_
        refine j_iconst (v := 1) dX8_addPair_51 (by decide) ?_
        refine j_iadd dX8_addPair_52 ?_
        replace h := bV_inv h
        obtain ⟨σ36, eσ36, h⟩ := h
        refine j_putI 7 jC_7 dX8_addPair_53 kg_RX8_38 (Or.inl ff_7_7) rfl fk_7_7 (fn_7_7 _) (okX_61 _) (shX_61 _) ?_
        refine j_mem (congrArg eX eσ36) ?_
        refine j_goto 93 dX8_addPair_56 (by decide) ?_
        refine j_sub [] [] rfl ?_
        exact f_X8_addPair_J93_ok σ36 hn hr _ h hK
  · replace h := jif_t hc13 h
    refine j_aload_n 0 dX8_addPair_5 rfl rfl ?_
    replace h := bH_inv h
    obtain ⟨hm37, h⟩ := h
    simp only [List.mem_cons, List.not_mem_nil, or_false] at hm37
    rcases hm37 with rfl | rfl
    · skip
      refine j_get (ci := 7) 5 (.ref 57) jC_7 dX8_addPair_6 kg_RX8_30 rfl (okX_51 _) (shX_51 _) (fvX_51_5 _) ?_
      refine j_iload_n 2 dX8_addPair_9 rfl rfl ?_
      refine j_iload_n 3 dX8_addPair_10 rfl rfl ?_
      replace h := bD_inv h
      obtain ⟨r38, σ39, cr38, h⟩ := h
      refine j_callV (ci := 1) (st1 := _) (c_X1_add g cr38) jy_X1_add ki_yX1_add ks_yX1_add kl_RX8_65 dX8_addPair_11 rfl (okX_57 _) (shX_57 _) rfl rfl rfl rfl (jbr _) (jbr _) hn.1 hn.2 (Or.inr rfl) rfl ?_
      refine j_goto 93 dX8_addPair_14 (by decide) ?_
      refine j_sub [] [] rfl ?_
      exact f_X8_addPair_J93_ok σ39 hn hr _ h hK
    · skip
      refine j_get (ci := 7) 5 (.ref 67) jC_7 dX8_addPair_6 kg_RX8_30 rfl (okX_61 _) (shX_61 _) (fvX_61_5 _) ?_
      refine j_iload_n 2 dX8_addPair_9 rfl rfl ?_
      refine j_iload_n 3 dX8_addPair_10 rfl rfl ?_
      replace h := bD_inv h
      obtain ⟨r40, σ41, cr40, h⟩ := h
      refine j_callV (ci := 1) (st1 := _) (c_X1_add g cr40) jy_X1_add ki_yX1_add ks_yX1_add kl_RX8_65 dX8_addPair_11 rfl (okX_67 _) (shX_67 _) rfl rfl rfl rfl (jbr _) (jbr _) hn.1 hn.2 (Or.inr rfl) rfl ?_
      refine j_goto 93 dX8_addPair_14 (by decide) ?_
      refine j_sub [] [] rfl ?_
      exact f_X8_addPair_J93_ok σ41 hn hr _ h hK
theorem c_X8_addPair (g : Bool) {σ : jS} {x0 : Nat} {x1 : Int32} {x2 : Int32} {x3 : Int32} {r : Unit} {σ2 : jS} (h : f_X8_addPair σ x0 x1 x2 x3 = some (r, σ2)) : Cn yX8_addPair cX8_addPair 4 none 4 g [.ref x0, .int x1, .int x2, .int x3] (eX σ) none (eX σ2) :=
  Cn_of (by decide) (Nat.le_refl _) (Nat.le_refl _) (Nat.le_of_ble_eq_true rfl) (f_X8_addPair_ok (Kp := (fun o => o = (r, σ2))) σ x0 x1 x2 x3 ⟨jbr _, jbr _⟩ (fun r2 s2 q => by cases q; exact ⟨rfl, rfl⟩) _ h rfl)
def f_X1_has_J20 (σ : jS) (y0 : Int32) : Option Int32 :=
  bG (jb y0) (
  some (y0))
set_option maxHeartbeats 1000000 in
set_option maxRecDepth 20000 in
theorem f_X1_has_J20_ok {g : Bool} {rv : Option Value} {μ' : jM} (σ : jS) (y0 : Int32) {Kp : Int32 → Prop} (hn : Nat.ble nX μ'.1 = true ∧ Nat.ble wX μ'.2.1 = true) (hr : ∀ r : Int32, Kp (r) → rv = some (.int r) ∧ μ' = (eX σ)) (o : Int32) (h : f_X1_has_J20 σ y0 = some o) (hK : Kp o) : J yX1_has cX1_has 3 (some .boolean) 2 g rv μ' 20 [] [.int y0] (eX σ) := by
  unfold f_X1_has_J20 at h
  replace h := bG_inv h
  obtain ⟨hb, h⟩ := h
  replace h := Option.some.inj h
  subst h
  obtain ⟨hr1, hr2⟩ := hr _ hK
  exact j_zret (jb_nar hb) dX1_has_20 hr1 hr2
def f_X1_has (σ : jS) (x0 : Nat) (x1 : Int32) (x2 : Int32) : Option Int32 :=
  bH [32, 40, 47, 57, 67] x0 (
  bC (f_X6_at σ (rPX x0 2) x1) fun r1 =>
  if ((r1 >>> (x2 &&& 31)) &&& (1 : Int32)) = 0 then (f_X1_has_J20 σ 0)
  else (f_X1_has_J20 σ 1))
set_option maxHeartbeats 1000000 in
set_option maxRecDepth 20000 in
theorem f_X1_has_ok {g : Bool} {rv : Option Value} {μ' : jM} (σ : jS) (x0 : Nat) (x1 : Int32) (x2 : Int32) {Kp : Int32 → Prop} (hn : Nat.ble nX μ'.1 = true ∧ Nat.ble wX μ'.2.1 = true) (hr : ∀ r : Int32, Kp (r) → rv = some (.int r) ∧ μ' = (eX σ)) (o : Int32) (h : f_X1_has σ x0 x1 x2 = some o) (hK : Kp o) : J yX1_has cX1_has 3 (some .boolean) 2 g rv μ' 0 [(0, .ref x0), (1, .int x1), (2, .int x2)] [] (eX σ) := by
  unfold f_X1_has at h
  refine j_aload_n 0 dX1_has_0 rfl rfl ?_
  replace h := bH_inv h
  obtain ⟨hm2, h⟩ := h
  simp only [List.mem_cons, List.not_mem_nil, or_false] at hm2
  rcases hm2 with rfl | rfl | rfl | rfl | rfl
  · skip
    refine j_get (ci := 1) 2 (.ref 35) jC_1 dX1_has_1 kg_RX1_18 rfl (okX_32 _) (shX_32 _) (fvX_32_2 _) ?_
    refine j_iload_n 1 dX1_has_4 rfl rfl ?_
    replace h := bC_inv h
    obtain ⟨r3, cr3, h⟩ := h
    refine j_callS (st1 := .int r3 :: _) (c_X6_at g cr3) jy_X6_at kt_yX6_at kl_RX1_31 dX1_has_5 rfl rfl rfl rfl (jbr _) (jbr _) hn.1 hn.2 (Or.inr rfl) rfl ?_
    refine j_iload_n 2 dX1_has_8 rfl rfl ?_
    refine j_ishr dX1_has_9 ?_
    refine j_iconst (v := 1) dX1_has_10 (by decide) ?_
    refine j_iand dX1_has_11 ?_
    refine j_if_eq 19 dX1_has_12 (by decide) (fun hc4 => ?_) (fun hc4 => ?_)
    · replace h := jif_t hc4 h
      refine j_iconst (v := 0) dX1_has_19 (by decide) ?_
      refine j_sub [] [] rfl ?_
      exact f_X1_has_J20_ok σ 0 hn hr _ h hK
    · replace h := jif_f hc4 h
      refine j_iconst (v := 1) dX1_has_15 (by decide) ?_
      refine j_goto 20 dX1_has_16 (by decide) ?_
      refine j_sub [] [] rfl ?_
      exact f_X1_has_J20_ok σ 1 hn hr _ h hK
  · skip
    refine j_get (ci := 1) 2 (.ref 43) jC_1 dX1_has_1 kg_RX1_18 rfl (okX_40 _) (shX_40 _) (fvX_40_2 _) ?_
    refine j_iload_n 1 dX1_has_4 rfl rfl ?_
    replace h := bC_inv h
    obtain ⟨r5, cr5, h⟩ := h
    refine j_callS (st1 := .int r5 :: _) (c_X6_at g cr5) jy_X6_at kt_yX6_at kl_RX1_31 dX1_has_5 rfl rfl rfl rfl (jbr _) (jbr _) hn.1 hn.2 (Or.inr rfl) rfl ?_
    refine j_iload_n 2 dX1_has_8 rfl rfl ?_
    refine j_ishr dX1_has_9 ?_
    refine j_iconst (v := 1) dX1_has_10 (by decide) ?_
    refine j_iand dX1_has_11 ?_
    refine j_if_eq 19 dX1_has_12 (by decide) (fun hc6 => ?_) (fun hc6 => ?_)
    · replace h := jif_t hc6 h
      refine j_iconst (v := 0) dX1_has_19 (by decide) ?_
      refine j_sub [] [] rfl ?_
      exact f_X1_has_J20_ok σ 0 hn hr _ h hK
    · replace h := jif_f hc6 h
      refine j_iconst (v := 1) dX1_has_15 (by decide) ?_
      refine j_goto 20 dX1_has_16 (by decide) ?_
      refine j_sub [] [] rfl ?_
      exact f_X1_has_J20_ok σ 1 hn hr _ h hK
  · skip
    refine j_get (ci := 1) 2 (.ref 50) jC_1 dX1_has_1 kg_RX1_18 rfl (okX_47 _) (shX_47 _) (fvX_47_2 _) ?_
    refine j_iload_n 1 dX1_has_4 rfl rfl ?_
    replace h := bC_inv h
    obtain ⟨r7, cr7, h⟩ := h
    refine j_callS (st1 := .int r7 :: _) (c_X6_at g cr7) jy_X6_at kt_yX6_at kl_RX1_31 dX1_has_5 rfl rfl rfl rfl (jbr _) (jbr _) hn.1 hn.2 (Or.inr rfl) rfl ?_
    refine j_iload_n 2 dX1_has_8 rfl rfl ?_
    refine j_ishr dX1_has_9 ?_
    refine j_iconst (v := 1) dX1_has_10 (by decide) ?_
    refine j_iand dX1_has_11 ?_
    refine j_if_eq 19 dX1_has_12 (by decide) (fun hc8 => ?_) (fun hc8 => ?_)
    · replace h := jif_t hc8 h
      refine j_iconst (v := 0) dX1_has_19 (by decide) ?_
      refine j_sub [] [] rfl ?_
      exact f_X1_has_J20_ok σ 0 hn hr _ h hK
    · replace h := jif_f hc8 h
      refine j_iconst (v := 1) dX1_has_15 (by decide) ?_
      refine j_goto 20 dX1_has_16 (by decide) ?_
      refine j_sub [] [] rfl ?_
      exact f_X1_has_J20_ok σ 1 hn hr _ h hK
  · skip
    refine j_get (ci := 1) 2 (.ref 60) jC_1 dX1_has_1 kg_RX1_18 rfl (okX_57 _) (shX_57 _) (fvX_57_2 _) ?_
    refine j_iload_n 1 dX1_has_4 rfl rfl ?_
    replace h := bC_inv h
    obtain ⟨r9, cr9, h⟩ := h
    refine j_callS (st1 := .int r9 :: _) (c_X6_at g cr9) jy_X6_at kt_yX6_at kl_RX1_31 dX1_has_5 rfl rfl rfl rfl (jbr _) (jbr _) hn.1 hn.2 (Or.inr rfl) rfl ?_
    refine j_iload_n 2 dX1_has_8 rfl rfl ?_
    refine j_ishr dX1_has_9 ?_
    refine j_iconst (v := 1) dX1_has_10 (by decide) ?_
    refine j_iand dX1_has_11 ?_
    refine j_if_eq 19 dX1_has_12 (by decide) (fun hc10 => ?_) (fun hc10 => ?_)
    · replace h := jif_t hc10 h
      refine j_iconst (v := 0) dX1_has_19 (by decide) ?_
      refine j_sub [] [] rfl ?_
      exact f_X1_has_J20_ok σ 0 hn hr _ h hK
    · replace h := jif_f hc10 h
      refine j_iconst (v := 1) dX1_has_15 (by decide) ?_
      refine j_goto 20 dX1_has_16 (by decide) ?_
      refine j_sub [] [] rfl ?_
      exact f_X1_has_J20_ok σ 1 hn hr _ h hK
  · skip
    refine j_get (ci := 1) 2 (.ref 70) jC_1 dX1_has_1 kg_RX1_18 rfl (okX_67 _) (shX_67 _) (fvX_67_2 _) ?_
    refine j_iload_n 1 dX1_has_4 rfl rfl ?_
    replace h := bC_inv h
    obtain ⟨r11, cr11, h⟩ := h
    refine j_callS (st1 := .int r11 :: _) (c_X6_at g cr11) jy_X6_at kt_yX6_at kl_RX1_31 dX1_has_5 rfl rfl rfl rfl (jbr _) (jbr _) hn.1 hn.2 (Or.inr rfl) rfl ?_
    refine j_iload_n 2 dX1_has_8 rfl rfl ?_
    refine j_ishr dX1_has_9 ?_
    refine j_iconst (v := 1) dX1_has_10 (by decide) ?_
    refine j_iand dX1_has_11 ?_
    refine j_if_eq 19 dX1_has_12 (by decide) (fun hc12 => ?_) (fun hc12 => ?_)
    · replace h := jif_t hc12 h
      refine j_iconst (v := 0) dX1_has_19 (by decide) ?_
      refine j_sub [] [] rfl ?_
      exact f_X1_has_J20_ok σ 0 hn hr _ h hK
    · replace h := jif_f hc12 h
      refine j_iconst (v := 1) dX1_has_15 (by decide) ?_
      refine j_goto 20 dX1_has_16 (by decide) ?_
      refine j_sub [] [] rfl ?_
      exact f_X1_has_J20_ok σ 1 hn hr _ h hK
theorem c_X1_has (g : Bool) {σ : jS} {x0 : Nat} {x1 : Int32} {x2 : Int32} {r : Int32} (h : f_X1_has σ x0 x1 x2 = some r) : Cn yX1_has cX1_has 3 (some .boolean) 2 g [.ref x0, .int x1, .int x2] (eX σ) (some (.int r)) (eX σ) :=
  Cn_of (by decide) (Nat.le_refl _) (Nat.le_refl _) (Nat.le_of_ble_eq_true rfl) (f_X1_has_ok (Kp := (fun o => o = r)) σ x0 x1 x2 ⟨jbr _, jbr _⟩ (fun r2 q => by cases q; exact ⟨rfl, rfl⟩) _ h rfl)
def f_X8_debtorsOf_J43 (σ : jS) (x2 : Int32) : Option Int32 :=
  some (x2)
set_option maxHeartbeats 1000000 in
set_option maxRecDepth 20000 in
theorem f_X8_debtorsOf_J43_ok {g : Bool} {rv : Option Value} {μ' : jM} (σ : jS) (x2 : Int32) {Kp : Int32 → Prop} (hn : Nat.ble nX μ'.1 = true ∧ Nat.ble wX μ'.2.1 = true) (hr : ∀ r : Int32, Kp (r) → rv = some (.int r) ∧ μ' = (eX σ)) (o : Int32) (h : f_X8_debtorsOf_J43 σ x2 = some o) (hK : Kp o) : J yX8_debtorsOf cX8_debtorsOf 4 (some .int) 2 g rv μ' 43 [(2, .int x2)] [] (eX σ) := by
  unfold f_X8_debtorsOf_J43 at h
  refine j_iload_n 0 dX8_debtorsOf_43 rfl rfl ?_
  replace h := Option.some.inj h
  subst h
  obtain ⟨hr1, hr2⟩ := hr _ hK
  exact j_iret dX8_debtorsOf_44 hr1 hr2
def f_X8_debtorsOf_J37 (σ : jS) (x0 : Nat) (x1 : Int32) (x2 : Int32) (x3 : Int32) : Option ((Int32 × Int32) ⊕ Int32) :=
  bV (x3 + 1) fun v2 =>
  some (.inl (x2, v2))
set_option maxHeartbeats 1000000 in
set_option maxRecDepth 20000 in
theorem f_X8_debtorsOf_J37_ok {g : Bool} {rv : Option Value} {μ' : jM} (σ : jS) (x0 : Nat) (x1 : Int32) (x2 : Int32) (x3 : Int32) {Kp : ((Int32 × Int32) ⊕ Int32) → Prop} (hn : Nat.ble nX μ'.1 = true ∧ Nat.ble wX μ'.2.1 = true) (hr : ∀ r : Int32, Kp (.inr (r)) → rv = some (.int r) ∧ μ' = (eX σ)) (hc0 : ∀ s : (Int32 × Int32), Kp (.inl s) → J yX8_debtorsOf cX8_debtorsOf 4 (some .int) 2 g rv μ' 4 [(0, .ref x0), (1, .int x1), (2, .int s.1), (3, .int s.2)] [] (eX σ)) (o : ((Int32 × Int32) ⊕ Int32)) (h : f_X8_debtorsOf_J37 σ x0 x1 x2 x3 = some o) (hK : Kp o) : J yX8_debtorsOf cX8_debtorsOf 4 (some .int) 2 g rv μ' 37 [(0, .ref x0), (1, .int x1), (2, .int x2), (3, .int x3)] [] (eX σ) := by
  unfold f_X8_debtorsOf_J37 at h
  replace h := bV_inv h
  obtain ⟨v3, ev3, h⟩ := h
  refine j_iinc (v := v3) [(3, .int v3), (0, .ref x0), (1, .int x1), (2, .int x2)] 3 dX8_debtorsOf_37 rfl (by rw [ev3]; rfl) (Nat.le_of_ble_eq_true rfl) rfl ?_
  refine j_goto 4 dX8_debtorsOf_40 (by decide) ?_
  replace h := Option.some.inj h
  subst h
  refine j_sub [(0, .ref x0), (1, .int x1), (2, .int x2), (3, .int v3)] [1, 2, 3, 0] rfl ?_
  exact hc0 _ hK
def f_X8_debtorsOf_B4 (σ : jS) (x0 : Nat) (x1 : Int32) (x2 : Int32) (x3 : Int32) : Option ((Int32 × Int32) ⊕ Int32) :=
  bH [51, 61] x0 (
  if (gI σ x0 7) ≤ x3 then (jw (f_X8_debtorsOf_J43 σ x2))
  else (bC (f_X6_at σ (rPX x0 2) x3) fun r1 =>
  if r1 = x1 then (bC (f_X6_at σ (rPX x0 1) x3) fun r4 =>
  bV (x2 ||| ((1 : Int32) <<< (r4 &&& 31))) fun v5 =>
  f_X8_debtorsOf_J37 σ x0 x1 v5 x3)
  else (f_X8_debtorsOf_J37 σ x0 x1 x2 x3)))
set_option maxHeartbeats 1000000 in
set_option maxRecDepth 20000 in
theorem f_X8_debtorsOf_B4_ok {g : Bool} {rv : Option Value} {μ' : jM} (σ : jS) (x0 : Nat) (x1 : Int32) (x2 : Int32) (x3 : Int32) {Kp : ((Int32 × Int32) ⊕ Int32) → Prop} (hn : Nat.ble nX μ'.1 = true ∧ Nat.ble wX μ'.2.1 = true) (hr : ∀ r : Int32, Kp (.inr (r)) → rv = some (.int r) ∧ μ' = (eX σ)) (hc0 : ∀ s : (Int32 × Int32), Kp (.inl s) → J yX8_debtorsOf cX8_debtorsOf 4 (some .int) 2 g rv μ' 4 [(0, .ref x0), (1, .int x1), (2, .int s.1), (3, .int s.2)] [] (eX σ)) (o : ((Int32 × Int32) ⊕ Int32)) (h : f_X8_debtorsOf_B4 σ x0 x1 x2 x3 = some o) (hK : Kp o) : J yX8_debtorsOf cX8_debtorsOf 4 (some .int) 2 g rv μ' 4 [(0, .ref x0), (1, .int x1), (2, .int x2), (3, .int x3)] [] (eX σ) := by
  unfold f_X8_debtorsOf_B4 at h
  refine j_iload_n 3 dX8_debtorsOf_4 rfl rfl ?_
  refine j_aload_n 0 dX8_debtorsOf_5 rfl rfl ?_
  replace h := bH_inv h
  obtain ⟨hm6, h⟩ := h
  simp only [List.mem_cons, List.not_mem_nil, or_false] at hm6
  rcases hm6 with rfl | rfl
  · skip
    refine j_get (ci := 7) 7 (.int (gI σ 51 7)) jC_7 dX8_debtorsOf_6 kg_RX8_38 rfl (okX_51 _) (shX_51 _) (fvX_51_7 _) ?_
    refine j_icmp_ge 43 dX8_debtorsOf_9 (by decide) (fun hc7 => ?_) (fun hc7 => ?_)
    · replace h := jif_t hc7 h
      replace h := jw_inv h
      obtain ⟨o8, rfl, h⟩ := h
      refine j_sub [(2, .int x2)] [2] rfl ?_
      exact f_X8_debtorsOf_J43_ok (Kp := fun o => Kp (.inr (o))) σ x2 hn (fun r q => hr r q) _ h hK
    · replace h := jif_f hc7 h
      refine j_aload_n 0 dX8_debtorsOf_12 rfl rfl ?_
      refine j_get (ci := 7) 2 (.ref 54) jC_7 dX8_debtorsOf_13 kg_RX8_18 rfl (okX_51 _) (shX_51 _) (fvX_51_2 _) ?_
      refine j_iload_n 3 dX8_debtorsOf_16 rfl rfl ?_
      replace h := bC_inv h
      obtain ⟨r9, cr9, h⟩ := h
      refine j_callS (st1 := .int r9 :: _) (c_X6_at g cr9) jy_X6_at kt_yX6_at kl_RX8_55 dX8_debtorsOf_17 rfl rfl rfl rfl (jbr _) (jbr _) hn.1 hn.2 (Or.inr rfl) rfl ?_
      refine j_iload_n 1 dX8_debtorsOf_20 rfl rfl ?_
      refine j_icmp_ne 37 dX8_debtorsOf_21 (by decide) (fun hc10 => ?_) (fun hc10 => ?_)
      · replace h := jif_f hc10 h
        exact f_X8_debtorsOf_J37_ok σ 51 x1 x2 x3 hn hr hc0 _ h hK
      · replace h := jif_t hc10 h
        refine j_iload_n 2 dX8_debtorsOf_24 rfl rfl ?_
        refine j_iconst (v := 1) dX8_debtorsOf_25 (by decide) ?_
        refine j_aload_n 0 dX8_debtorsOf_26 rfl rfl ?_
        refine j_get (ci := 7) 1 (.ref 53) jC_7 dX8_debtorsOf_27 kg_RX8_15 rfl (okX_51 _) (shX_51 _) (fvX_51_1 _) ?_
        refine j_iload_n 3 dX8_debtorsOf_30 rfl rfl ?_
        replace h := bC_inv h
        obtain ⟨r11, cr11, h⟩ := h
        refine j_callS (st1 := .int r11 :: _) (c_X6_at g cr11) jy_X6_at kt_yX6_at kl_RX8_55 dX8_debtorsOf_31 rfl rfl rfl rfl (jbr _) (jbr _) hn.1 hn.2 (Or.inr rfl) rfl ?_
        refine j_ishl dX8_debtorsOf_34 ?_
        refine j_ior dX8_debtorsOf_35 ?_
        replace h := bV_inv h
        obtain ⟨v12, ev12, h⟩ := h
        refine j_nmi ev12 ?_
        refine j_istore_n [(2, .int v12), (0, .ref 51), (1, .int x1), (3, .int x3)] dX8_debtorsOf_36 rfl (Nat.le_of_ble_eq_true rfl) rfl ?_
        refine j_sub [(0, .ref 51), (1, .int x1), (2, .int v12), (3, .int x3)] [1, 2, 0, 3] rfl ?_
        exact f_X8_debtorsOf_J37_ok σ 51 x1 v12 x3 hn hr hc0 _ h hK
  · skip
    refine j_get (ci := 7) 7 (.int (gI σ 61 7)) jC_7 dX8_debtorsOf_6 kg_RX8_38 rfl (okX_61 _) (shX_61 _) (fvX_61_7 _) ?_
    refine j_icmp_ge 43 dX8_debtorsOf_9 (by decide) (fun hc13 => ?_) (fun hc13 => ?_)
    · replace h := jif_t hc13 h
      replace h := jw_inv h
      obtain ⟨o14, rfl, h⟩ := h
      refine j_sub [(2, .int x2)] [2] rfl ?_
      exact f_X8_debtorsOf_J43_ok (Kp := fun o => Kp (.inr (o))) σ x2 hn (fun r q => hr r q) _ h hK
    · replace h := jif_f hc13 h
      refine j_aload_n 0 dX8_debtorsOf_12 rfl rfl ?_
      refine j_get (ci := 7) 2 (.ref 64) jC_7 dX8_debtorsOf_13 kg_RX8_18 rfl (okX_61 _) (shX_61 _) (fvX_61_2 _) ?_
      refine j_iload_n 3 dX8_debtorsOf_16 rfl rfl ?_
      replace h := bC_inv h
      obtain ⟨r15, cr15, h⟩ := h
      refine j_callS (st1 := .int r15 :: _) (c_X6_at g cr15) jy_X6_at kt_yX6_at kl_RX8_55 dX8_debtorsOf_17 rfl rfl rfl rfl (jbr _) (jbr _) hn.1 hn.2 (Or.inr rfl) rfl ?_
      refine j_iload_n 1 dX8_debtorsOf_20 rfl rfl ?_
      refine j_icmp_ne 37 dX8_debtorsOf_21 (by decide) (fun hc16 => ?_) (fun hc16 => ?_)
      · replace h := jif_f hc16 h
        exact f_X8_debtorsOf_J37_ok σ 61 x1 x2 x3 hn hr hc0 _ h hK
      · replace h := jif_t hc16 h
        refine j_iload_n 2 dX8_debtorsOf_24 rfl rfl ?_
        refine j_iconst (v := 1) dX8_debtorsOf_25 (by decide) ?_
        refine j_aload_n 0 dX8_debtorsOf_26 rfl rfl ?_
        refine j_get (ci := 7) 1 (.ref 63) jC_7 dX8_debtorsOf_27 kg_RX8_15 rfl (okX_61 _) (shX_61 _) (fvX_61_1 _) ?_
        refine j_iload_n 3 dX8_debtorsOf_30 rfl rfl ?_
        replace h := bC_inv h
        obtain ⟨r17, cr17, h⟩ := h
        refine j_callS (st1 := .int r17 :: _) (c_X6_at g cr17) jy_X6_at kt_yX6_at kl_RX8_55 dX8_debtorsOf_31 rfl rfl rfl rfl (jbr _) (jbr _) hn.1 hn.2 (Or.inr rfl) rfl ?_
        refine j_ishl dX8_debtorsOf_34 ?_
        refine j_ior dX8_debtorsOf_35 ?_
        replace h := bV_inv h
        obtain ⟨v18, ev18, h⟩ := h
        refine j_nmi ev18 ?_
        refine j_istore_n [(2, .int v18), (0, .ref 61), (1, .int x1), (3, .int x3)] dX8_debtorsOf_36 rfl (Nat.le_of_ble_eq_true rfl) rfl ?_
        refine j_sub [(0, .ref 61), (1, .int x1), (2, .int v18), (3, .int x3)] [1, 2, 0, 3] rfl ?_
        exact f_X8_debtorsOf_J37_ok σ 61 x1 v18 x3 hn hr hc0 _ h hK
def f_X8_debtorsOf (σ : jS) (x0 : Nat) (x1 : Int32) : Option Int32 :=
  jloop jFuel (fun s => f_X8_debtorsOf_B4 σ x0 x1 s.1 s.2) (0, 0)
set_option maxHeartbeats 1000000 in
set_option maxRecDepth 20000 in
theorem f_X8_debtorsOf_ok {g : Bool} {rv : Option Value} {μ' : jM} (σ : jS) (x0 : Nat) (x1 : Int32) {Kp : Int32 → Prop} (hn : Nat.ble nX μ'.1 = true ∧ Nat.ble wX μ'.2.1 = true) (hr : ∀ r : Int32, Kp (r) → rv = some (.int r) ∧ μ' = (eX σ)) (o : Int32) (h : f_X8_debtorsOf σ x0 x1 = some o) (hK : Kp o) : J yX8_debtorsOf cX8_debtorsOf 4 (some .int) 2 g rv μ' 0 [(0, .ref x0), (1, .int x1)] [] (eX σ) := by
  unfold f_X8_debtorsOf at h
  refine j_iconst (v := 0) dX8_debtorsOf_0 (by decide) ?_
  refine j_istore_n [(2, .int 0), (0, .ref x0), (1, .int x1)] dX8_debtorsOf_1 rfl (Nat.le_of_ble_eq_true rfl) rfl ?_
  refine j_iconst (v := 0) dX8_debtorsOf_2 (by decide) ?_
  refine j_istore_n [(3, .int 0), (2, .int 0), (0, .ref x0), (1, .int x1)] dX8_debtorsOf_3 rfl (Nat.le_of_ble_eq_true rfl) rfl ?_
  refine j_sub [(0, .ref x0), (1, .int x1), (2, .int 0), (3, .int 0)] [2, 3, 1, 0] rfl ?_
  exact jloop_ok (fun s => f_X8_debtorsOf_B4 σ x0 x1 s.1 s.2) (fun s => J yX8_debtorsOf cX8_debtorsOf 4 (some .int) 2 g rv μ' 4 [(0, .ref x0), (1, .int x1), (2, .int s.1), (3, .int s.2)] [] (eX σ)) Kp (fun s o hb hk => f_X8_debtorsOf_B4_ok (Kp := jsum (fun s => J yX8_debtorsOf cX8_debtorsOf 4 (some .int) 2 g rv μ' 4 [(0, .ref x0), (1, .int x1), (2, .int s.1), (3, .int s.2)] [] (eX σ)) Kp) σ x0 x1 s.1 s.2 hn (fun r q => hr r q) (fun s q => q) o hb hk) jFuel _ _ h hK
theorem c_X8_debtorsOf (g : Bool) {σ : jS} {x0 : Nat} {x1 : Int32} {r : Int32} (h : f_X8_debtorsOf σ x0 x1 = some r) : Cn yX8_debtorsOf cX8_debtorsOf 4 (some .int) 2 g [.ref x0, .int x1] (eX σ) (some (.int r)) (eX σ) :=
  Cn_of (by decide) (Nat.le_refl _) (Nat.le_refl _) (Nat.le_of_ble_eq_true rfl) (f_X8_debtorsOf_ok (Kp := (fun o => o = r)) σ x0 x1 ⟨jbr _, jbr _⟩ (fun r2 q => by cases q; exact ⟨rfl, rfl⟩) _ h rfl)
def f_X8_isToldAlready_J37 (σ : jS) (y0 : Int32) : Option Int32 :=
  bG (jb y0) (
  some (y0))
set_option maxHeartbeats 1000000 in
set_option maxRecDepth 20000 in
theorem f_X8_isToldAlready_J37_ok {g : Bool} {rv : Option Value} {μ' : jM} (σ : jS) (y0 : Int32) {Kp : Int32 → Prop} (hn : Nat.ble nX μ'.1 = true ∧ Nat.ble wX μ'.2.1 = true) (hr : ∀ r : Int32, Kp (r) → rv = some (.int r) ∧ μ' = (eX σ)) (o : Int32) (h : f_X8_isToldAlready_J37 σ y0 = some o) (hK : Kp o) : J yX8_isToldAlready cX8_isToldAlready 4 (some .boolean) 3 g rv μ' 37 [] [.int y0] (eX σ) := by
  unfold f_X8_isToldAlready_J37 at h
  replace h := bG_inv h
  obtain ⟨hb, h⟩ := h
  replace h := Option.some.inj h
  subst h
  obtain ⟨hr1, hr2⟩ := hr _ hK
  exact j_zret (jb_nar hb) dX8_isToldAlready_37 hr1 hr2
def f_X8_isToldAlready_J36 (σ : jS) : Option Int32 :=
  f_X8_isToldAlready_J37 σ 0
set_option maxHeartbeats 1000000 in
set_option maxRecDepth 20000 in
theorem f_X8_isToldAlready_J36_ok {g : Bool} {rv : Option Value} {μ' : jM} (σ : jS) {Kp : Int32 → Prop} (hn : Nat.ble nX μ'.1 = true ∧ Nat.ble wX μ'.2.1 = true) (hr : ∀ r : Int32, Kp (r) → rv = some (.int r) ∧ μ' = (eX σ)) (o : Int32) (h : f_X8_isToldAlready_J36 σ = some o) (hK : Kp o) : J yX8_isToldAlready cX8_isToldAlready 4 (some .boolean) 3 g rv μ' 36 [] [] (eX σ) := by
  unfold f_X8_isToldAlready_J36 at h
  refine j_iconst (v := 0) dX8_isToldAlready_36 (by decide) ?_
  exact f_X8_isToldAlready_J37_ok σ 0 hn hr _ h hK
def f_X8_isToldAlready (σ : jS) (x0 : Nat) (x1 : Int32) (x2 : Int32) (x3 : Int32) : Option Int32 :=
  if x1 = 2 then (bH [51, 61] x0 (
  bC (f_X1_has σ (rPX x0 5) x2 x3) fun r2 =>
  bG (jb r2) (
  some (r2))))
  else (if x1 = 1 then (bH [51, 61] x0 (
  bC (f_X8_debtorsOf σ x0 x3) fun r1 =>
  if ((r1 >>> (x2 &&& 31)) &&& (1 : Int32)) = 0 then (f_X8_isToldAlready_J36 σ)
  else (f_X8_isToldAlready_J37 σ 1)))
  else (f_X8_isToldAlready_J36 σ))
set_option maxHeartbeats 1000000 in
set_option maxRecDepth 20000 in
theorem f_X8_isToldAlready_ok {g : Bool} {rv : Option Value} {μ' : jM} (σ : jS) (x0 : Nat) (x1 : Int32) (x2 : Int32) (x3 : Int32) {Kp : Int32 → Prop} (hn : Nat.ble nX μ'.1 = true ∧ Nat.ble wX μ'.2.1 = true) (hr : ∀ r : Int32, Kp (r) → rv = some (.int r) ∧ μ' = (eX σ)) (o : Int32) (h : f_X8_isToldAlready σ x0 x1 x2 x3 = some o) (hK : Kp o) : J yX8_isToldAlready cX8_isToldAlready 4 (some .boolean) 3 g rv μ' 0 [(0, .ref x0), (1, .int x1), (2, .int x2), (3, .int x3)] [] (eX σ) := by
  unfold f_X8_isToldAlready at h
  refine j_iload_n 1 dX8_isToldAlready_0 rfl rfl ?_
  refine j_iconst (v := 2) dX8_isToldAlready_1 (by decide) ?_
  refine j_icmp_ne 15 dX8_isToldAlready_2 (by decide) (fun hc3 => ?_) (fun hc3 => ?_)
  · replace h := jif_f hc3 h
    refine j_iload_n 1 dX8_isToldAlready_15 rfl rfl ?_
    refine j_iconst (v := 1) dX8_isToldAlready_16 (by decide) ?_
    refine j_icmp_ne 36 dX8_isToldAlready_17 (by decide) (fun hc4 => ?_) (fun hc4 => ?_)
    · replace h := jif_f hc4 h
      refine j_sub [] [] rfl ?_
      exact f_X8_isToldAlready_J36_ok σ hn hr _ h hK
    · replace h := jif_t hc4 h
      refine j_aload_n 0 dX8_isToldAlready_20 rfl rfl ?_
      refine j_iload_n 3 dX8_isToldAlready_21 rfl rfl ?_
      replace h := bH_inv h
      obtain ⟨hm5, h⟩ := h
      simp only [List.mem_cons, List.not_mem_nil, or_false] at hm5
      rcases hm5 with rfl | rfl
      · skip
        replace h := bC_inv h
        obtain ⟨r6, cr6, h⟩ := h
        refine j_callV (ci := 7) (st1 := .int r6 :: _) (c_X8_debtorsOf g cr6) jy_X8_debtorsOf ki_yX8_debtorsOf ks_yX8_debtorsOf kl_RX8_51 dX8_isToldAlready_22 rfl (okX_51 _) (shX_51 _) rfl rfl rfl rfl (jbr _) (jbr _) hn.1 hn.2 (Or.inr rfl) rfl ?_
        refine j_iload_n 2 dX8_isToldAlready_25 rfl rfl ?_
        refine j_ishr dX8_isToldAlready_26 ?_
        refine j_iconst (v := 1) dX8_isToldAlready_27 (by decide) ?_
        refine j_iand dX8_isToldAlready_28 ?_
        refine j_if_eq 36 dX8_isToldAlready_29 (by decide) (fun hc7 => ?_) (fun hc7 => ?_)
        · replace h := jif_t hc7 h
          refine j_sub [] [] rfl ?_
          exact f_X8_isToldAlready_J36_ok σ hn hr _ h hK
        · replace h := jif_f hc7 h
          refine j_iconst (v := 1) dX8_isToldAlready_32 (by decide) ?_
          refine j_goto 37 dX8_isToldAlready_33 (by decide) ?_
          refine j_sub [] [] rfl ?_
          exact f_X8_isToldAlready_J37_ok σ 1 hn hr _ h hK
      · skip
        replace h := bC_inv h
        obtain ⟨r8, cr8, h⟩ := h
        refine j_callV (ci := 7) (st1 := .int r8 :: _) (c_X8_debtorsOf g cr8) jy_X8_debtorsOf ki_yX8_debtorsOf ks_yX8_debtorsOf kl_RX8_51 dX8_isToldAlready_22 rfl (okX_61 _) (shX_61 _) rfl rfl rfl rfl (jbr _) (jbr _) hn.1 hn.2 (Or.inr rfl) rfl ?_
        refine j_iload_n 2 dX8_isToldAlready_25 rfl rfl ?_
        refine j_ishr dX8_isToldAlready_26 ?_
        refine j_iconst (v := 1) dX8_isToldAlready_27 (by decide) ?_
        refine j_iand dX8_isToldAlready_28 ?_
        refine j_if_eq 36 dX8_isToldAlready_29 (by decide) (fun hc9 => ?_) (fun hc9 => ?_)
        · replace h := jif_t hc9 h
          refine j_sub [] [] rfl ?_
          exact f_X8_isToldAlready_J36_ok σ hn hr _ h hK
        · replace h := jif_f hc9 h
          refine j_iconst (v := 1) dX8_isToldAlready_32 (by decide) ?_
          refine j_goto 37 dX8_isToldAlready_33 (by decide) ?_
          refine j_sub [] [] rfl ?_
          exact f_X8_isToldAlready_J37_ok σ 1 hn hr _ h hK
  · replace h := jif_t hc3 h
    refine j_aload_n 0 dX8_isToldAlready_5 rfl rfl ?_
    replace h := bH_inv h
    obtain ⟨hm10, h⟩ := h
    simp only [List.mem_cons, List.not_mem_nil, or_false] at hm10
    rcases hm10 with rfl | rfl
    · skip
      refine j_get (ci := 7) 5 (.ref 57) jC_7 dX8_isToldAlready_6 kg_RX8_30 rfl (okX_51 _) (shX_51 _) (fvX_51_5 _) ?_
      refine j_iload_n 2 dX8_isToldAlready_9 rfl rfl ?_
      refine j_iload_n 3 dX8_isToldAlready_10 rfl rfl ?_
      replace h := bC_inv h
      obtain ⟨r11, cr11, h⟩ := h
      refine j_callV (ci := 1) (st1 := .int r11 :: _) (c_X1_has g cr11) jy_X1_has ki_yX1_has ks_yX1_has kl_RX8_47 dX8_isToldAlready_11 rfl (okX_57 _) (shX_57 _) rfl rfl rfl rfl (jbr _) (jbr _) hn.1 hn.2 (Or.inr rfl) rfl ?_
      replace h := bG_inv h
      obtain ⟨hb, h⟩ := h
      replace h := Option.some.inj h
      subst h
      obtain ⟨hr1, hr2⟩ := hr _ hK
      exact j_zret (jb_nar hb) dX8_isToldAlready_14 hr1 hr2
    · skip
      refine j_get (ci := 7) 5 (.ref 67) jC_7 dX8_isToldAlready_6 kg_RX8_30 rfl (okX_61 _) (shX_61 _) (fvX_61_5 _) ?_
      refine j_iload_n 2 dX8_isToldAlready_9 rfl rfl ?_
      refine j_iload_n 3 dX8_isToldAlready_10 rfl rfl ?_
      replace h := bC_inv h
      obtain ⟨r12, cr12, h⟩ := h
      refine j_callV (ci := 1) (st1 := .int r12 :: _) (c_X1_has g cr12) jy_X1_has ki_yX1_has ks_yX1_has kl_RX8_47 dX8_isToldAlready_11 rfl (okX_67 _) (shX_67 _) rfl rfl rfl rfl (jbr _) (jbr _) hn.1 hn.2 (Or.inr rfl) rfl ?_
      replace h := bG_inv h
      obtain ⟨hb, h⟩ := h
      replace h := Option.some.inj h
      subst h
      obtain ⟨hr1, hr2⟩ := hr _ hK
      exact j_zret (jb_nar hb) dX8_isToldAlready_14 hr1 hr2
theorem c_X8_isToldAlready (g : Bool) {σ : jS} {x0 : Nat} {x1 : Int32} {x2 : Int32} {x3 : Int32} {r : Int32} (h : f_X8_isToldAlready σ x0 x1 x2 x3 = some r) : Cn yX8_isToldAlready cX8_isToldAlready 4 (some .boolean) 3 g [.ref x0, .int x1, .int x2, .int x3] (eX σ) (some (.int r)) (eX σ) :=
  Cn_of (by decide) (Nat.le_refl _) (Nat.le_refl _) (Nat.le_of_ble_eq_true rfl) (f_X8_isToldAlready_ok (Kp := (fun o => o = r)) σ x0 x1 x2 x3 ⟨jbr _, jbr _⟩ (fun r2 q => by cases q; exact ⟨rfl, rfl⟩) _ h rfl)
def f_X5_readPair_J79 (σ : jS) : Option (Unit × jS) :=
  some (((), σ))
set_option maxHeartbeats 1000000 in
set_option maxRecDepth 20000 in
theorem f_X5_readPair_J79_ok {g : Bool} {rv : Option Value} {μ' : jM} (σ : jS) {Kp : (Unit × jS) → Prop} (hn : Nat.ble nX μ'.1 = true ∧ Nat.ble wX μ'.2.1 = true) (hr : ∀ (r : Unit) (s : jS), Kp ((r, s)) → rv = none ∧ μ' = eX s) (o : (Unit × jS)) (h : f_X5_readPair_J79 σ = some o) (hK : Kp o) : J yX5_readPair cX5_readPair 6 none 5 g rv μ' 79 [] [] (eX σ) := by
  unfold f_X5_readPair_J79 at h
  replace h := Option.some.inj h
  subst h
  obtain ⟨hr1, hr2⟩ := hr _ _ hK
  exact j_vret dX5_readPair_79 hr1 hr2
def f_X5_readPair_J60 (σ : jS) (x1 : Nat) (x2 : Int32) (x3 : Int32) (x5 : Int32) : Option (Unit × jS) :=
  bD (f_X5_readClosing σ) fun r8 σ9 =>
  if (gI σ9 2 3) = 0 then (bH [51, 61] x1 (
  bD (f_X8_addPair σ9 x1 x2 x3 x5) fun r10 σ11 =>
  f_X5_readPair_J79 σ11))
  else (f_X5_readPair_J79 σ9)
set_option maxHeartbeats 1000000 in
set_option maxRecDepth 20000 in
theorem f_X5_readPair_J60_ok {g : Bool} {rv : Option Value} {μ' : jM} (σ : jS) (x1 : Nat) (x2 : Int32) (x3 : Int32) (x5 : Int32) {Kp : (Unit × jS) → Prop} (hn : Nat.ble nX μ'.1 = true ∧ Nat.ble wX μ'.2.1 = true) (hr : ∀ (r : Unit) (s : jS), Kp ((r, s)) → rv = none ∧ μ' = eX s) (o : (Unit × jS)) (h : f_X5_readPair_J60 σ x1 x2 x3 x5 = some o) (hK : Kp o) : J yX5_readPair cX5_readPair 6 none 5 g rv μ' 60 [(0, .ref 2), (1, .ref x1), (2, .int x2), (3, .int x3), (5, .int x5)] [] (eX σ) := by
  unfold f_X5_readPair_J60 at h
  refine j_aload_n 0 dX5_readPair_60 rfl rfl ?_
  replace h := bD_inv h
  obtain ⟨r12, σ13, cr12, h⟩ := h
  refine j_callV (ci := 5) (st1 := _) (c_X5_readClosing g cr12) jy_X5_readClosing ki_yX5_readClosing ks_yX5_readClosing kl_RX5_62 dX5_readPair_61 rfl (okX_2 _) (shX_2 _) rfl rfl rfl rfl (jbr _) (jbr _) hn.1 hn.2 (Or.inr rfl) rfl ?_
  refine j_aload_n 0 dX5_readPair_64 rfl rfl ?_
  refine j_get (ci := 5) 3 (.int (gI σ13 2 3)) jC_5 dX5_readPair_65 kg_RX5_33 rfl (okX_2 _) (shX_2 _) (fvX_2_3 _) ?_
  refine j_if_ne 79 dX5_readPair_68 (by decide) (fun hc14 => ?_) (fun hc14 => ?_)
  · replace h := jif_f hc14 h
    refine j_sub [] [] rfl ?_
    exact f_X5_readPair_J79_ok σ13 hn hr _ h hK
  · replace h := jif_t hc14 h
    refine j_aload_n 1 dX5_readPair_71 rfl rfl ?_
    refine j_iload_n 2 dX5_readPair_72 rfl rfl ?_
    refine j_iload_n 3 dX5_readPair_73 rfl rfl ?_
    refine j_iload 4 dX5_readPair_74 rfl ?_
    replace h := bH_inv h
    obtain ⟨hm15, h⟩ := h
    simp only [List.mem_cons, List.not_mem_nil, or_false] at hm15
    rcases hm15 with rfl | rfl
    · skip
      replace h := bD_inv h
      obtain ⟨r16, σ17, cr16, h⟩ := h
      refine j_callV (ci := 7) (st1 := _) (c_X8_addPair g cr16) jy_X8_addPair ki_yX8_addPair ks_yX8_addPair kl_RX5_80 dX5_readPair_76 rfl (okX_51 _) (shX_51 _) rfl rfl rfl rfl (jbr _) (jbr _) hn.1 hn.2 (Or.inr rfl) rfl ?_
      refine j_sub [] [] rfl ?_
      exact f_X5_readPair_J79_ok σ17 hn hr _ h hK
    · skip
      replace h := bD_inv h
      obtain ⟨r18, σ19, cr18, h⟩ := h
      refine j_callV (ci := 7) (st1 := _) (c_X8_addPair g cr18) jy_X8_addPair ki_yX8_addPair ks_yX8_addPair kl_RX5_80 dX5_readPair_76 rfl (okX_61 _) (shX_61 _) rfl rfl rfl rfl (jbr _) (jbr _) hn.1 hn.2 (Or.inr rfl) rfl ?_
      refine j_sub [] [] rfl ?_
      exact f_X5_readPair_J79_ok σ19 hn hr _ h hK
def f_X5_readPair_J53 (σ : jS) (x1 : Nat) (x2 : Int32) (x3 : Int32) (x4 : Int32) (x5 : Int32) : Option (Unit × jS) :=
  bD (f_X5_fail σ 4 x4) fun r20 σ21 =>
  f_X5_readPair_J60 σ21 x1 x2 x3 x5
set_option maxHeartbeats 1000000 in
set_option maxRecDepth 20000 in
theorem f_X5_readPair_J53_ok {g : Bool} {rv : Option Value} {μ' : jM} (σ : jS) (x1 : Nat) (x2 : Int32) (x3 : Int32) (x4 : Int32) (x5 : Int32) {Kp : (Unit × jS) → Prop} (hn : Nat.ble nX μ'.1 = true ∧ Nat.ble wX μ'.2.1 = true) (hr : ∀ (r : Unit) (s : jS), Kp ((r, s)) → rv = none ∧ μ' = eX s) (o : (Unit × jS)) (h : f_X5_readPair_J53 σ x1 x2 x3 x4 x5 = some o) (hK : Kp o) : J yX5_readPair cX5_readPair 6 none 5 g rv μ' 53 [(0, .ref 2), (1, .ref x1), (2, .int x2), (3, .int x3), (4, .int x4), (5, .int x5)] [] (eX σ) := by
  unfold f_X5_readPair_J53 at h
  refine j_aload_n 0 dX5_readPair_53 rfl rfl ?_
  refine j_iconst (v := 4) dX5_readPair_54 (by decide) ?_
  refine j_iload 4 dX5_readPair_55 rfl ?_
  replace h := bD_inv h
  obtain ⟨r22, σ23, cr22, h⟩ := h
  refine j_callV (ci := 5) (st1 := _) (c_X5_fail g cr22) jy_X5_fail ki_yX5_fail ks_yX5_fail kl_RX5_50 dX5_readPair_57 rfl (okX_2 _) (shX_2 _) rfl rfl rfl rfl (jbr _) (jbr _) hn.1 hn.2 (Or.inr rfl) rfl ?_
  refine j_sub [(0, .ref 2), (1, .ref x1), (2, .int x2), (3, .int x3), (5, .int x5)] [0, 1, 2, 3, 5] rfl ?_
  exact f_X5_readPair_J60_ok σ23 x1 x2 x3 x5 hn hr _ h hK
def f_X5_readPair (σ : jS) (x1 : Nat) (x2 : Int32) : Option (Unit × jS) :=
  bH [51, 61] x1 (
  bD (f_X5_readNumber σ (gI σ x1 6)) fun r1 σ2 =>
  bD (f_X5_skipBlanks σ2) fun r3 σ4 =>
  bV (gI σ4 2 4) fun v5 =>
  bD (f_X5_readNumber σ4 (gI σ4 x1 6)) fun r6 σ7 =>
  if (gI σ7 2 3) = 0 then (if r1 = r6 then (f_X5_readPair_J53 σ7 x1 x2 r1 v5 r6)
  else (bC (f_X8_isToldAlready σ7 x1 x2 r1 r6) fun r24 =>
  if r24 = 0 then (f_X5_readPair_J60 σ7 x1 x2 r1 r6)
  else (f_X5_readPair_J53 σ7 x1 x2 r1 v5 r6)))
  else (f_X5_readPair_J60 σ7 x1 x2 r1 r6))
set_option maxHeartbeats 1000000 in
set_option maxRecDepth 20000 in
theorem f_X5_readPair_ok {g : Bool} {rv : Option Value} {μ' : jM} (σ : jS) (x1 : Nat) (x2 : Int32) {Kp : (Unit × jS) → Prop} (hn : Nat.ble nX μ'.1 = true ∧ Nat.ble wX μ'.2.1 = true) (hr : ∀ (r : Unit) (s : jS), Kp ((r, s)) → rv = none ∧ μ' = eX s) (o : (Unit × jS)) (h : f_X5_readPair σ x1 x2 = some o) (hK : Kp o) : J yX5_readPair cX5_readPair 6 none 5 g rv μ' 0 [(0, .ref 2), (1, .ref x1), (2, .int x2)] [] (eX σ) := by
  unfold f_X5_readPair at h
  refine j_aload_n 0 dX5_readPair_0 rfl rfl ?_
  refine j_aload_n 1 dX5_readPair_1 rfl rfl ?_
  replace h := bH_inv h
  obtain ⟨hm25, h⟩ := h
  simp only [List.mem_cons, List.not_mem_nil, or_false] at hm25
  rcases hm25 with rfl | rfl
  · skip
    refine j_get (ci := 7) 6 (.int (gI σ 51 6)) jC_7 dX5_readPair_2 kg_RX5_73 rfl (okX_51 _) (shX_51 _) (fvX_51_6 _) ?_
    replace h := bD_inv h
    obtain ⟨r26, σ27, cr26, h⟩ := h
    refine j_callV (ci := 5) (st1 := .int r26 :: _) (c_X5_readNumber g cr26) jy_X5_readNumber ki_yX5_readNumber ks_yX5_readNumber kl_RX5_58 dX5_readPair_5 rfl (okX_2 _) (shX_2 _) rfl rfl rfl rfl (jbr _) (jbr _) hn.1 hn.2 (Or.inr rfl) rfl ?_
    refine j_istore_n [(3, .int r26), (0, .ref 2), (1, .ref 51), (2, .int x2)] dX5_readPair_8 rfl (Nat.le_of_ble_eq_true rfl) rfl ?_
    refine j_aload_n 1 dX5_readPair_9 rfl rfl ?_
    replace h := bD_inv h
    obtain ⟨r28, σ29, cr28, h⟩ := h
    refine j_callV (ci := 5) (st1 := _) (c_X5_skipBlanks g cr28) jy_X5_skipBlanks ki_yX5_skipBlanks ks_yX5_skipBlanks kl_RX5_39 dX5_readPair_10 rfl (okX_2 _) (shX_2 _) rfl rfl rfl rfl (jbr _) (jbr _) hn.1 hn.2 (Or.inr rfl) rfl ?_
    refine j_aload_n 1 dX5_readPair_13 rfl rfl ?_
    refine j_get (ci := 5) 4 (.int (gI σ29 2 4)) jC_5 dX5_readPair_14 kg_RX5_36 rfl (okX_2 _) (shX_2 _) (fvX_2_4 _) ?_
    replace h := bV_inv h
    obtain ⟨v30, ev30, h⟩ := h
    refine j_nmi ev30 ?_
    refine j_istore [(4, .int v30), (3, .int r26), (0, .ref 2), (1, .ref 51), (2, .int x2)] dX5_readPair_17 (Nat.le_of_ble_eq_true rfl) rfl ?_
    refine j_aload_n 2 dX5_readPair_19 rfl rfl ?_
    refine j_aload_n 3 dX5_readPair_20 rfl rfl ?_
    refine j_get (ci := 7) 6 (.int (gI σ29 51 6)) jC_7 dX5_readPair_21 kg_RX5_73 rfl (okX_51 _) (shX_51 _) (fvX_51_6 _) ?_
    replace h := bD_inv h
    obtain ⟨r31, σ32, cr31, h⟩ := h
    refine j_callV (ci := 5) (st1 := .int r31 :: _) (c_X5_readNumber g cr31) jy_X5_readNumber ki_yX5_readNumber ks_yX5_readNumber kl_RX5_58 dX5_readPair_24 rfl (okX_2 _) (shX_2 _) rfl rfl rfl rfl (jbr _) (jbr _) hn.1 hn.2 (Or.inr rfl) rfl ?_
    refine j_istore [(5, .int r31), (4, .int v30), (3, .int r26), (0, .ref 2), (1, .ref 51), (2, .int x2)] dX5_readPair_27 (Nat.le_of_ble_eq_true rfl) rfl ?_
    refine j_aload_n 3 dX5_readPair_29 rfl rfl ?_
    refine j_get (ci := 5) 3 (.int (gI σ32 2 3)) jC_5 dX5_readPair_30 kg_RX5_33 rfl (okX_2 _) (shX_2 _) (fvX_2_3 _) ?_
    refine j_if_ne 60 dX5_readPair_33 (by decide) (fun hc33 => ?_) (fun hc33 => ?_)
    · replace h := jif_f hc33 h
      refine j_sub [(0, .ref 2), (1, .ref 51), (2, .int x2), (3, .int r26), (5, .int r31)] [3, 4, 5, 2, 0] rfl ?_
      exact f_X5_readPair_J60_ok σ32 51 x2 r26 r31 hn hr _ h hK
    · replace h := jif_t hc33 h
      refine j_iload_n 2 dX5_readPair_36 rfl rfl ?_
      refine j_iload 0 dX5_readPair_37 rfl ?_
      refine j_icmp_eq 53 dX5_readPair_39 (by decide) (fun hc34 => ?_) (fun hc34 => ?_)
      · replace h := jif_t hc34 h
        refine j_sub [(0, .ref 2), (1, .ref 51), (2, .int x2), (3, .int r26), (4, .int v30), (5, .int r31)] [3, 4, 5, 2, 1, 0] rfl ?_
        exact f_X5_readPair_J53_ok σ32 51 x2 r26 v30 r31 hn hr _ h hK
      · replace h := jif_f hc34 h
        refine j_aload_n 4 dX5_readPair_42 rfl rfl ?_
        refine j_iload_n 5 dX5_readPair_43 rfl rfl ?_
        refine j_iload_n 2 dX5_readPair_44 rfl rfl ?_
        refine j_iload 0 dX5_readPair_45 rfl ?_
        replace h := bC_inv h
        obtain ⟨r35, cr35, h⟩ := h
        refine j_callV (ci := 7) (st1 := .int r35 :: _) (c_X8_isToldAlready g cr35) jy_X8_isToldAlready ki_yX8_isToldAlready ks_yX8_isToldAlready kl_RX5_76 dX5_readPair_47 rfl (okX_51 _) (shX_51 _) rfl rfl rfl rfl (jbr _) (jbr _) hn.1 hn.2 (Or.inr rfl) rfl ?_
        refine j_if_eq 60 dX5_readPair_50 (by decide) (fun hc36 => ?_) (fun hc36 => ?_)
        · replace h := jif_t hc36 h
          refine j_sub [(0, .ref 2), (1, .ref 51), (2, .int x2), (3, .int r26), (5, .int r31)] [3, 4, 5, 2, 0] rfl ?_
          exact f_X5_readPair_J60_ok σ32 51 x2 r26 r31 hn hr _ h hK
        · replace h := jif_f hc36 h
          refine j_sub [(0, .ref 2), (1, .ref 51), (2, .int x2), (3, .int r26), (4, .int v30), (5, .int r31)] [3, 4, 5, 2, 1, 0] rfl ?_
          exact f_X5_readPair_J53_ok σ32 51 x2 r26 v30 r31 hn hr _ h hK
  · skip
    refine j_get (ci := 7) 6 (.int (gI σ 61 6)) jC_7 dX5_readPair_2 kg_RX5_73 rfl (okX_61 _) (shX_61 _) (fvX_61_6 _) ?_
    replace h := bD_inv h
    obtain ⟨r37, σ38, cr37, h⟩ := h
    refine j_callV (ci := 5) (st1 := .int r37 :: _) (c_X5_readNumber g cr37) jy_X5_readNumber ki_yX5_readNumber ks_yX5_readNumber kl_RX5_58 dX5_readPair_5 rfl (okX_2 _) (shX_2 _) rfl rfl rfl rfl (jbr _) (jbr _) hn.1 hn.2 (Or.inr rfl) rfl ?_
    refine j_istore_n [(3, .int r37), (0, .ref 2), (1, .ref 61), (2, .int x2)] dX5_readPair_8 rfl (Nat.le_of_ble_eq_true rfl) rfl ?_
    refine j_aload_n 1 dX5_readPair_9 rfl rfl ?_
    replace h := bD_inv h
    obtain ⟨r39, σ40, cr39, h⟩ := h
    refine j_callV (ci := 5) (st1 := _) (c_X5_skipBlanks g cr39) jy_X5_skipBlanks ki_yX5_skipBlanks ks_yX5_skipBlanks kl_RX5_39 dX5_readPair_10 rfl (okX_2 _) (shX_2 _) rfl rfl rfl rfl (jbr _) (jbr _) hn.1 hn.2 (Or.inr rfl) rfl ?_
    refine j_aload_n 1 dX5_readPair_13 rfl rfl ?_
    refine j_get (ci := 5) 4 (.int (gI σ40 2 4)) jC_5 dX5_readPair_14 kg_RX5_36 rfl (okX_2 _) (shX_2 _) (fvX_2_4 _) ?_
    replace h := bV_inv h
    obtain ⟨v41, ev41, h⟩ := h
    refine j_nmi ev41 ?_
    refine j_istore [(4, .int v41), (3, .int r37), (0, .ref 2), (1, .ref 61), (2, .int x2)] dX5_readPair_17 (Nat.le_of_ble_eq_true rfl) rfl ?_
    refine j_aload_n 2 dX5_readPair_19 rfl rfl ?_
    refine j_aload_n 3 dX5_readPair_20 rfl rfl ?_
    refine j_get (ci := 7) 6 (.int (gI σ40 61 6)) jC_7 dX5_readPair_21 kg_RX5_73 rfl (okX_61 _) (shX_61 _) (fvX_61_6 _) ?_
    replace h := bD_inv h
    obtain ⟨r42, σ43, cr42, h⟩ := h
    refine j_callV (ci := 5) (st1 := .int r42 :: _) (c_X5_readNumber g cr42) jy_X5_readNumber ki_yX5_readNumber ks_yX5_readNumber kl_RX5_58 dX5_readPair_24 rfl (okX_2 _) (shX_2 _) rfl rfl rfl rfl (jbr _) (jbr _) hn.1 hn.2 (Or.inr rfl) rfl ?_
    refine j_istore [(5, .int r42), (4, .int v41), (3, .int r37), (0, .ref 2), (1, .ref 61), (2, .int x2)] dX5_readPair_27 (Nat.le_of_ble_eq_true rfl) rfl ?_
    refine j_aload_n 3 dX5_readPair_29 rfl rfl ?_
    refine j_get (ci := 5) 3 (.int (gI σ43 2 3)) jC_5 dX5_readPair_30 kg_RX5_33 rfl (okX_2 _) (shX_2 _) (fvX_2_3 _) ?_
    refine j_if_ne 60 dX5_readPair_33 (by decide) (fun hc44 => ?_) (fun hc44 => ?_)
    · replace h := jif_f hc44 h
      refine j_sub [(0, .ref 2), (1, .ref 61), (2, .int x2), (3, .int r37), (5, .int r42)] [3, 4, 5, 2, 0] rfl ?_
      exact f_X5_readPair_J60_ok σ43 61 x2 r37 r42 hn hr _ h hK
    · replace h := jif_t hc44 h
      refine j_iload_n 2 dX5_readPair_36 rfl rfl ?_
      refine j_iload 0 dX5_readPair_37 rfl ?_
      refine j_icmp_eq 53 dX5_readPair_39 (by decide) (fun hc45 => ?_) (fun hc45 => ?_)
      · replace h := jif_t hc45 h
        refine j_sub [(0, .ref 2), (1, .ref 61), (2, .int x2), (3, .int r37), (4, .int v41), (5, .int r42)] [3, 4, 5, 2, 1, 0] rfl ?_
        exact f_X5_readPair_J53_ok σ43 61 x2 r37 v41 r42 hn hr _ h hK
      · replace h := jif_f hc45 h
        refine j_aload_n 4 dX5_readPair_42 rfl rfl ?_
        refine j_iload_n 5 dX5_readPair_43 rfl rfl ?_
        refine j_iload_n 2 dX5_readPair_44 rfl rfl ?_
        refine j_iload 0 dX5_readPair_45 rfl ?_
        replace h := bC_inv h
        obtain ⟨r46, cr46, h⟩ := h
        refine j_callV (ci := 7) (st1 := .int r46 :: _) (c_X8_isToldAlready g cr46) jy_X8_isToldAlready ki_yX8_isToldAlready ks_yX8_isToldAlready kl_RX5_76 dX5_readPair_47 rfl (okX_61 _) (shX_61 _) rfl rfl rfl rfl (jbr _) (jbr _) hn.1 hn.2 (Or.inr rfl) rfl ?_
        refine j_if_eq 60 dX5_readPair_50 (by decide) (fun hc47 => ?_) (fun hc47 => ?_)
        · replace h := jif_t hc47 h
          refine j_sub [(0, .ref 2), (1, .ref 61), (2, .int x2), (3, .int r37), (5, .int r42)] [3, 4, 5, 2, 0] rfl ?_
          exact f_X5_readPair_J60_ok σ43 61 x2 r37 r42 hn hr _ h hK
        · replace h := jif_f hc47 h
          refine j_sub [(0, .ref 2), (1, .ref 61), (2, .int x2), (3, .int r37), (4, .int v41), (5, .int r42)] [3, 4, 5, 2, 1, 0] rfl ?_
          exact f_X5_readPair_J53_ok σ43 61 x2 r37 v41 r42 hn hr _ h hK
theorem c_X5_readPair (g : Bool) {σ : jS} {x1 : Nat} {x2 : Int32} {r : Unit} {σ2 : jS} (h : f_X5_readPair σ x1 x2 = some (r, σ2)) : Cn yX5_readPair cX5_readPair 6 none 5 g [.ref 2, .ref x1, .int x2] (eX σ) none (eX σ2) :=
  Cn_of (by decide) (Nat.le_refl _) (Nat.le_refl _) (Nat.le_of_ble_eq_true rfl) (f_X5_readPair_ok (Kp := (fun o => o = (r, σ2))) σ x1 x2 ⟨jbr _, jbr _⟩ (fun r2 s2 q => by cases q; exact ⟨rfl, rfl⟩) _ h rfl)
def f_X5_isLetter_J17 (y0 : Int32) : Option Int32 :=
  bG (jb y0) (
  some (y0))
set_option maxHeartbeats 1000000 in
set_option maxRecDepth 20000 in
theorem f_X5_isLetter_J17_ok {g : Bool} {rv : Option Value} {μ' : jM} (y0 : Int32) (μ : jM) {Kp : Int32 → Prop} (hn : Nat.ble μ.1 μ'.1 = true ∧ Nat.ble μ.2.1 μ'.2.1 = true) (hr : ∀ r : Int32, Kp (r) → rv = some (.int r) ∧ μ' = μ) (o : Int32) (h : f_X5_isLetter_J17 y0 = some o) (hK : Kp o) : J yX5_isLetter cX5_isLetter 1 (some .boolean) 1 g rv μ' 17 [] [.int y0] μ := by
  unfold f_X5_isLetter_J17 at h
  replace h := bG_inv h
  obtain ⟨hb, h⟩ := h
  replace h := Option.some.inj h
  subst h
  obtain ⟨hr1, hr2⟩ := hr _ hK
  exact j_zret (jb_nar hb) dX5_isLetter_17 hr1 hr2
def f_X5_isLetter_J16 : Option Int32 :=
  f_X5_isLetter_J17 0
set_option maxHeartbeats 1000000 in
set_option maxRecDepth 20000 in
theorem f_X5_isLetter_J16_ok {g : Bool} {rv : Option Value} {μ' : jM} (μ : jM) {Kp : Int32 → Prop} (hn : Nat.ble μ.1 μ'.1 = true ∧ Nat.ble μ.2.1 μ'.2.1 = true) (hr : ∀ r : Int32, Kp (r) → rv = some (.int r) ∧ μ' = μ) (o : Int32) (h : f_X5_isLetter_J16  = some o) (hK : Kp o) : J yX5_isLetter cX5_isLetter 1 (some .boolean) 1 g rv μ' 16 [] [] μ := by
  unfold f_X5_isLetter_J16 at h
  refine j_iconst (v := 0) dX5_isLetter_16 (by decide) ?_
  exact f_X5_isLetter_J17_ok 0 μ hn hr _ h hK
def f_X5_isLetter (x0 : Int32) : Option Int32 :=
  if x0 < 97 then (f_X5_isLetter_J16 )
  else (if 122 < x0 then (f_X5_isLetter_J16 )
  else (f_X5_isLetter_J17 1))
set_option maxHeartbeats 1000000 in
set_option maxRecDepth 20000 in
theorem f_X5_isLetter_ok {g : Bool} {rv : Option Value} {μ' : jM} (x0 : Int32) (μ : jM) {Kp : Int32 → Prop} (hn : Nat.ble μ.1 μ'.1 = true ∧ Nat.ble μ.2.1 μ'.2.1 = true) (hr : ∀ r : Int32, Kp (r) → rv = some (.int r) ∧ μ' = μ) (o : Int32) (h : f_X5_isLetter x0 = some o) (hK : Kp o) : J yX5_isLetter cX5_isLetter 1 (some .boolean) 1 g rv μ' 0 [(0, .int x0)] [] μ := by
  unfold f_X5_isLetter at h
  refine j_iload_n 0 dX5_isLetter_0 rfl rfl ?_
  refine j_bipush (v := 97) dX5_isLetter_1 (by decide) ?_
  refine j_icmp_lt 16 dX5_isLetter_3 (by decide) (fun hc1 => ?_) (fun hc1 => ?_)
  · replace h := jif_t hc1 h
    refine j_sub [] [] rfl ?_
    exact f_X5_isLetter_J16_ok  μ hn hr _ h hK
  · replace h := jif_f hc1 h
    refine j_iload_n 0 dX5_isLetter_6 rfl rfl ?_
    refine j_bipush (v := 122) dX5_isLetter_7 (by decide) ?_
    refine j_icmp_gt 16 dX5_isLetter_9 (by decide) (fun hc2 => ?_) (fun hc2 => ?_)
    · replace h := jif_t hc2 h
      refine j_sub [] [] rfl ?_
      exact f_X5_isLetter_J16_ok  μ hn hr _ h hK
    · replace h := jif_f hc2 h
      refine j_iconst (v := 1) dX5_isLetter_12 (by decide) ?_
      refine j_goto 17 dX5_isLetter_13 (by decide) ?_
      refine j_sub [] [] rfl ?_
      exact f_X5_isLetter_J17_ok 1 μ hn hr _ h hK
theorem c_X5_isLetter (g : Bool) (μ : jM) {x0 : Int32} {r : Int32} (h : f_X5_isLetter x0 = some r) : Cn yX5_isLetter cX5_isLetter 1 (some .boolean) 1 g [.int x0] μ (some (.int r)) μ :=
  Cn_of (by decide) (Nat.le_refl _) (Nat.le_refl _) (Nat.le_of_ble_eq_true rfl) (f_X5_isLetter_ok (Kp := (fun o => o = r)) x0 μ ⟨jbr _, jbr _⟩ (fun r2 q => by cases q; exact ⟨rfl, rfl⟩) _ h rfl)
def f_X5_isSpelled_J49 (σ : jS) : Option Int32 :=
  some (1)
set_option maxHeartbeats 1000000 in
set_option maxRecDepth 20000 in
theorem f_X5_isSpelled_J49_ok {g : Bool} {rv : Option Value} {μ' : jM} (σ : jS) {Kp : Int32 → Prop} (hn : Nat.ble nX μ'.1 = true ∧ Nat.ble wX μ'.2.1 = true) (hr : ∀ r : Int32, Kp (r) → rv = some (.int r) ∧ μ' = (eX σ)) (o : Int32) (h : f_X5_isSpelled_J49 σ = some o) (hK : Kp o) : J yX5_isSpelled cX5_isSpelled 5 (some .boolean) 7 g rv μ' 49 [] [] (eX σ) := by
  unfold f_X5_isSpelled_J49 at h
  refine j_iconst (v := 1) dX5_isSpelled_49 (by decide) ?_
  replace h := Option.some.inj h
  subst h
  obtain ⟨hr1, hr2⟩ := hr _ hK
  exact j_zret rfl dX5_isSpelled_50 hr1 hr2
def f_X5_isSpelled_J41 (σ : jS) : Option Int32 :=
  some (0)
set_option maxHeartbeats 1000000 in
set_option maxRecDepth 20000 in
theorem f_X5_isSpelled_J41_ok {g : Bool} {rv : Option Value} {μ' : jM} (σ : jS) {Kp : Int32 → Prop} (hn : Nat.ble nX μ'.1 = true ∧ Nat.ble wX μ'.2.1 = true) (hr : ∀ r : Int32, Kp (r) → rv = some (.int r) ∧ μ' = (eX σ)) (o : Int32) (h : f_X5_isSpelled_J41 σ = some o) (hK : Kp o) : J yX5_isSpelled cX5_isSpelled 5 (some .boolean) 7 g rv μ' 41 [] [] (eX σ) := by
  unfold f_X5_isSpelled_J41 at h
  refine j_iconst (v := 0) dX5_isSpelled_41 (by decide) ?_
  replace h := Option.some.inj h
  subst h
  obtain ⟨hr1, hr2⟩ := hr _ hK
  exact j_zret rfl dX5_isSpelled_42 hr1 hr2
def f_X5_isSpelled_B15 (σ : jS) (x1 : Nat) (x2 : Int32) (x4 : Int32) : Option ((Int32) ⊕ Int32) :=
  bH [1000000, 1000001, 1000002, 1000003] x1 (
  if (jsl x1) ≤ x4 then (jw (f_X5_isSpelled_J49 σ))
  else (bC (f_X5_sign σ (x2 + x4)) fun r1 =>
  bG (jin x4 (jsn x1)) (
  if r1 = (jsc x1 (ix x4)) then (bV (x4 + 1) fun v2 =>
  some (.inl v2))
  else (jw (f_X5_isSpelled_J41 σ)))))
set_option maxHeartbeats 1000000 in
set_option maxRecDepth 20000 in
theorem f_X5_isSpelled_B15_ok {g : Bool} {rv : Option Value} {μ' : jM} (σ : jS) (x1 : Nat) (x2 : Int32) (x4 : Int32) {Kp : ((Int32) ⊕ Int32) → Prop} (hn : Nat.ble nX μ'.1 = true ∧ Nat.ble wX μ'.2.1 = true) (hr : ∀ r : Int32, Kp (.inr (r)) → rv = some (.int r) ∧ μ' = (eX σ)) (hc0 : ∀ s : (Int32), Kp (.inl s) → J yX5_isSpelled cX5_isSpelled 5 (some .boolean) 7 g rv μ' 15 [(0, .ref 2), (1, .ref x1), (2, .int x2), (4, .int s)] [] (eX σ)) (o : ((Int32) ⊕ Int32)) (h : f_X5_isSpelled_B15 σ x1 x2 x4 = some o) (hK : Kp o) : J yX5_isSpelled cX5_isSpelled 5 (some .boolean) 7 g rv μ' 15 [(0, .ref 2), (1, .ref x1), (2, .int x2), (4, .int x4)] [] (eX σ) := by
  unfold f_X5_isSpelled_B15 at h
  refine j_iload 3 dX5_isSpelled_15 rfl ?_
  refine j_aload_n 1 dX5_isSpelled_17 rfl rfl ?_
  replace h := bH_inv h
  obtain ⟨hm3, h⟩ := h
  simp only [List.mem_cons, List.not_mem_nil, or_false] at hm3
  rcases hm3 with rfl | rfl | rfl | rfl
  · skip
    refine j_strlen 0 (by decide) kl_RX5_102 dX5_isSpelled_18 rfl rfl hn.1 hn.2 ?_
    refine j_icmp_ge 49 dX5_isSpelled_21 (by decide) (fun hc4 => ?_) (fun hc4 => ?_)
    · replace h := jif_t hc4 h
      replace h := jw_inv h
      obtain ⟨o5, rfl, h⟩ := h
      refine j_sub [] [] rfl ?_
      exact f_X5_isSpelled_J49_ok (Kp := fun o => Kp (.inr (o))) σ hn (fun r q => hr r q) _ h hK
    · replace h := jif_f hc4 h
      refine j_aload_n 0 dX5_isSpelled_24 rfl rfl ?_
      refine j_iload_n 2 dX5_isSpelled_25 rfl rfl ?_
      refine j_iload 3 dX5_isSpelled_26 rfl ?_
      refine j_iadd dX5_isSpelled_28 ?_
      replace h := bC_inv h
      obtain ⟨r6, cr6, h⟩ := h
      refine j_callV (ci := 5) (st1 := .int r6 :: _) (c_X5_sign g cr6) jy_X5_sign ki_yX5_sign ks_yX5_sign kl_RX5_88 dX5_isSpelled_29 rfl (okX_2 _) (shX_2 _) rfl rfl rfl rfl (jbr _) (jbr _) hn.1 hn.2 (Or.inr rfl) rfl ?_
      refine j_aload_n 1 dX5_isSpelled_32 rfl rfl ?_
      refine j_iload 3 dX5_isSpelled_33 rfl ?_
      replace h := bG_inv h
      obtain ⟨hi7, h⟩ := h
      refine j_charAt 0 (by decide) (jin_spec hi7) kl_RX5_106 dX5_isSpelled_35 rfl rfl hn.1 hn.2 ?_
      refine j_icmp_eq 43 dX5_isSpelled_38 (by decide) (fun hc8 => ?_) (fun hc8 => ?_)
      · replace h := jif_t hc8 h
        replace h := bV_inv h
        obtain ⟨v9, ev9, h⟩ := h
        refine j_iinc (v := v9) [(4, .int v9), (0, .ref 2), (1, .ref 1000000), (2, .int x2)] 3 dX5_isSpelled_43 rfl (by rw [ev9]; rfl) (Nat.le_of_ble_eq_true rfl) rfl ?_
        refine j_goto 15 dX5_isSpelled_46 (by decide) ?_
        replace h := Option.some.inj h
        subst h
        refine j_sub [(0, .ref 2), (1, .ref 1000000), (2, .int x2), (4, .int v9)] [1, 2, 3, 0] rfl ?_
        exact hc0 _ hK
      · replace h := jif_f hc8 h
        replace h := jw_inv h
        obtain ⟨o10, rfl, h⟩ := h
        refine j_sub [] [] rfl ?_
        exact f_X5_isSpelled_J41_ok (Kp := fun o => Kp (.inr (o))) σ hn (fun r q => hr r q) _ h hK
  · skip
    refine j_strlen 1 (by decide) kl_RX5_102 dX5_isSpelled_18 rfl rfl hn.1 hn.2 ?_
    refine j_icmp_ge 49 dX5_isSpelled_21 (by decide) (fun hc11 => ?_) (fun hc11 => ?_)
    · replace h := jif_t hc11 h
      replace h := jw_inv h
      obtain ⟨o12, rfl, h⟩ := h
      refine j_sub [] [] rfl ?_
      exact f_X5_isSpelled_J49_ok (Kp := fun o => Kp (.inr (o))) σ hn (fun r q => hr r q) _ h hK
    · replace h := jif_f hc11 h
      refine j_aload_n 0 dX5_isSpelled_24 rfl rfl ?_
      refine j_iload_n 2 dX5_isSpelled_25 rfl rfl ?_
      refine j_iload 3 dX5_isSpelled_26 rfl ?_
      refine j_iadd dX5_isSpelled_28 ?_
      replace h := bC_inv h
      obtain ⟨r13, cr13, h⟩ := h
      refine j_callV (ci := 5) (st1 := .int r13 :: _) (c_X5_sign g cr13) jy_X5_sign ki_yX5_sign ks_yX5_sign kl_RX5_88 dX5_isSpelled_29 rfl (okX_2 _) (shX_2 _) rfl rfl rfl rfl (jbr _) (jbr _) hn.1 hn.2 (Or.inr rfl) rfl ?_
      refine j_aload_n 1 dX5_isSpelled_32 rfl rfl ?_
      refine j_iload 3 dX5_isSpelled_33 rfl ?_
      replace h := bG_inv h
      obtain ⟨hi14, h⟩ := h
      refine j_charAt 1 (by decide) (jin_spec hi14) kl_RX5_106 dX5_isSpelled_35 rfl rfl hn.1 hn.2 ?_
      refine j_icmp_eq 43 dX5_isSpelled_38 (by decide) (fun hc15 => ?_) (fun hc15 => ?_)
      · replace h := jif_t hc15 h
        replace h := bV_inv h
        obtain ⟨v16, ev16, h⟩ := h
        refine j_iinc (v := v16) [(4, .int v16), (0, .ref 2), (1, .ref 1000001), (2, .int x2)] 3 dX5_isSpelled_43 rfl (by rw [ev16]; rfl) (Nat.le_of_ble_eq_true rfl) rfl ?_
        refine j_goto 15 dX5_isSpelled_46 (by decide) ?_
        replace h := Option.some.inj h
        subst h
        refine j_sub [(0, .ref 2), (1, .ref 1000001), (2, .int x2), (4, .int v16)] [1, 2, 3, 0] rfl ?_
        exact hc0 _ hK
      · replace h := jif_f hc15 h
        replace h := jw_inv h
        obtain ⟨o17, rfl, h⟩ := h
        refine j_sub [] [] rfl ?_
        exact f_X5_isSpelled_J41_ok (Kp := fun o => Kp (.inr (o))) σ hn (fun r q => hr r q) _ h hK
  · skip
    refine j_strlen 2 (by decide) kl_RX5_102 dX5_isSpelled_18 rfl rfl hn.1 hn.2 ?_
    refine j_icmp_ge 49 dX5_isSpelled_21 (by decide) (fun hc18 => ?_) (fun hc18 => ?_)
    · replace h := jif_t hc18 h
      replace h := jw_inv h
      obtain ⟨o19, rfl, h⟩ := h
      refine j_sub [] [] rfl ?_
      exact f_X5_isSpelled_J49_ok (Kp := fun o => Kp (.inr (o))) σ hn (fun r q => hr r q) _ h hK
    · replace h := jif_f hc18 h
      refine j_aload_n 0 dX5_isSpelled_24 rfl rfl ?_
      refine j_iload_n 2 dX5_isSpelled_25 rfl rfl ?_
      refine j_iload 3 dX5_isSpelled_26 rfl ?_
      refine j_iadd dX5_isSpelled_28 ?_
      replace h := bC_inv h
      obtain ⟨r20, cr20, h⟩ := h
      refine j_callV (ci := 5) (st1 := .int r20 :: _) (c_X5_sign g cr20) jy_X5_sign ki_yX5_sign ks_yX5_sign kl_RX5_88 dX5_isSpelled_29 rfl (okX_2 _) (shX_2 _) rfl rfl rfl rfl (jbr _) (jbr _) hn.1 hn.2 (Or.inr rfl) rfl ?_
      refine j_aload_n 1 dX5_isSpelled_32 rfl rfl ?_
      refine j_iload 3 dX5_isSpelled_33 rfl ?_
      replace h := bG_inv h
      obtain ⟨hi21, h⟩ := h
      refine j_charAt 2 (by decide) (jin_spec hi21) kl_RX5_106 dX5_isSpelled_35 rfl rfl hn.1 hn.2 ?_
      refine j_icmp_eq 43 dX5_isSpelled_38 (by decide) (fun hc22 => ?_) (fun hc22 => ?_)
      · replace h := jif_t hc22 h
        replace h := bV_inv h
        obtain ⟨v23, ev23, h⟩ := h
        refine j_iinc (v := v23) [(4, .int v23), (0, .ref 2), (1, .ref 1000002), (2, .int x2)] 3 dX5_isSpelled_43 rfl (by rw [ev23]; rfl) (Nat.le_of_ble_eq_true rfl) rfl ?_
        refine j_goto 15 dX5_isSpelled_46 (by decide) ?_
        replace h := Option.some.inj h
        subst h
        refine j_sub [(0, .ref 2), (1, .ref 1000002), (2, .int x2), (4, .int v23)] [1, 2, 3, 0] rfl ?_
        exact hc0 _ hK
      · replace h := jif_f hc22 h
        replace h := jw_inv h
        obtain ⟨o24, rfl, h⟩ := h
        refine j_sub [] [] rfl ?_
        exact f_X5_isSpelled_J41_ok (Kp := fun o => Kp (.inr (o))) σ hn (fun r q => hr r q) _ h hK
  · skip
    refine j_strlen 3 (by decide) kl_RX5_102 dX5_isSpelled_18 rfl rfl hn.1 hn.2 ?_
    refine j_icmp_ge 49 dX5_isSpelled_21 (by decide) (fun hc25 => ?_) (fun hc25 => ?_)
    · replace h := jif_t hc25 h
      replace h := jw_inv h
      obtain ⟨o26, rfl, h⟩ := h
      refine j_sub [] [] rfl ?_
      exact f_X5_isSpelled_J49_ok (Kp := fun o => Kp (.inr (o))) σ hn (fun r q => hr r q) _ h hK
    · replace h := jif_f hc25 h
      refine j_aload_n 0 dX5_isSpelled_24 rfl rfl ?_
      refine j_iload_n 2 dX5_isSpelled_25 rfl rfl ?_
      refine j_iload 3 dX5_isSpelled_26 rfl ?_
      refine j_iadd dX5_isSpelled_28 ?_
      replace h := bC_inv h
      obtain ⟨r27, cr27, h⟩ := h
      refine j_callV (ci := 5) (st1 := .int r27 :: _) (c_X5_sign g cr27) jy_X5_sign ki_yX5_sign ks_yX5_sign kl_RX5_88 dX5_isSpelled_29 rfl (okX_2 _) (shX_2 _) rfl rfl rfl rfl (jbr _) (jbr _) hn.1 hn.2 (Or.inr rfl) rfl ?_
      refine j_aload_n 1 dX5_isSpelled_32 rfl rfl ?_
      refine j_iload 3 dX5_isSpelled_33 rfl ?_
      replace h := bG_inv h
      obtain ⟨hi28, h⟩ := h
      refine j_charAt 3 (by decide) (jin_spec hi28) kl_RX5_106 dX5_isSpelled_35 rfl rfl hn.1 hn.2 ?_
      refine j_icmp_eq 43 dX5_isSpelled_38 (by decide) (fun hc29 => ?_) (fun hc29 => ?_)
      · replace h := jif_t hc29 h
        replace h := bV_inv h
        obtain ⟨v30, ev30, h⟩ := h
        refine j_iinc (v := v30) [(4, .int v30), (0, .ref 2), (1, .ref 1000003), (2, .int x2)] 3 dX5_isSpelled_43 rfl (by rw [ev30]; rfl) (Nat.le_of_ble_eq_true rfl) rfl ?_
        refine j_goto 15 dX5_isSpelled_46 (by decide) ?_
        replace h := Option.some.inj h
        subst h
        refine j_sub [(0, .ref 2), (1, .ref 1000003), (2, .int x2), (4, .int v30)] [1, 2, 3, 0] rfl ?_
        exact hc0 _ hK
      · replace h := jif_f hc29 h
        replace h := jw_inv h
        obtain ⟨o31, rfl, h⟩ := h
        refine j_sub [] [] rfl ?_
        exact f_X5_isSpelled_J41_ok (Kp := fun o => Kp (.inr (o))) σ hn (fun r q => hr r q) _ h hK
def f_X5_isSpelled (σ : jS) (x1 : Nat) (x2 : Int32) (x3 : Int32) : Option Int32 :=
  bH [1000000, 1000001, 1000002, 1000003] x1 (
  if (jsl x1) = (x3 - x2) then (jloop jFuel (fun s => f_X5_isSpelled_B15 σ x1 x2 s) 0)
  else (some (0)))
set_option maxHeartbeats 1000000 in
set_option maxRecDepth 20000 in
theorem f_X5_isSpelled_ok {g : Bool} {rv : Option Value} {μ' : jM} (σ : jS) (x1 : Nat) (x2 : Int32) (x3 : Int32) {Kp : Int32 → Prop} (hn : Nat.ble nX μ'.1 = true ∧ Nat.ble wX μ'.2.1 = true) (hr : ∀ r : Int32, Kp (r) → rv = some (.int r) ∧ μ' = (eX σ)) (o : Int32) (h : f_X5_isSpelled σ x1 x2 x3 = some o) (hK : Kp o) : J yX5_isSpelled cX5_isSpelled 5 (some .boolean) 7 g rv μ' 0 [(0, .ref 2), (1, .ref x1), (2, .int x2), (3, .int x3)] [] (eX σ) := by
  unfold f_X5_isSpelled at h
  refine j_aload_n 1 dX5_isSpelled_0 rfl rfl ?_
  replace h := bH_inv h
  obtain ⟨hm32, h⟩ := h
  simp only [List.mem_cons, List.not_mem_nil, or_false] at hm32
  rcases hm32 with rfl | rfl | rfl | rfl
  · skip
    refine j_strlen 0 (by decide) kl_RX5_102 dX5_isSpelled_1 rfl rfl hn.1 hn.2 ?_
    refine j_iload_n 3 dX5_isSpelled_4 rfl rfl ?_
    refine j_iload_n 2 dX5_isSpelled_5 rfl rfl ?_
    refine j_isub dX5_isSpelled_6 ?_
    refine j_icmp_eq 12 dX5_isSpelled_7 (by decide) (fun hc33 => ?_) (fun hc33 => ?_)
    · replace h := jif_t hc33 h
      refine j_iconst (v := 0) dX5_isSpelled_12 (by decide) ?_
      refine j_istore [(4, .int 0), (0, .ref 2), (1, .ref 1000000), (2, .int x2), (3, .int x3)] dX5_isSpelled_13 (Nat.le_of_ble_eq_true rfl) rfl ?_
      refine j_sub [(0, .ref 2), (1, .ref 1000000), (2, .int x2), (4, .int 0)] [1, 2, 3, 0] rfl ?_
      exact jloop_ok (fun s => f_X5_isSpelled_B15 σ 1000000 x2 s) (fun s => J yX5_isSpelled cX5_isSpelled 5 (some .boolean) 7 g rv μ' 15 [(0, .ref 2), (1, .ref 1000000), (2, .int x2), (4, .int s)] [] (eX σ)) Kp (fun s o hb hk => f_X5_isSpelled_B15_ok (Kp := jsum (fun s => J yX5_isSpelled cX5_isSpelled 5 (some .boolean) 7 g rv μ' 15 [(0, .ref 2), (1, .ref 1000000), (2, .int x2), (4, .int s)] [] (eX σ)) Kp) σ 1000000 x2 s hn (fun r q => hr r q) (fun s q => q) o hb hk) jFuel _ _ h hK
    · replace h := jif_f hc33 h
      refine j_iconst (v := 0) dX5_isSpelled_10 (by decide) ?_
      replace h := Option.some.inj h
      subst h
      obtain ⟨hr1, hr2⟩ := hr _ hK
      exact j_zret rfl dX5_isSpelled_11 hr1 hr2
  · skip
    refine j_strlen 1 (by decide) kl_RX5_102 dX5_isSpelled_1 rfl rfl hn.1 hn.2 ?_
    refine j_iload_n 3 dX5_isSpelled_4 rfl rfl ?_
    refine j_iload_n 2 dX5_isSpelled_5 rfl rfl ?_
    refine j_isub dX5_isSpelled_6 ?_
    refine j_icmp_eq 12 dX5_isSpelled_7 (by decide) (fun hc34 => ?_) (fun hc34 => ?_)
    · replace h := jif_t hc34 h
      refine j_iconst (v := 0) dX5_isSpelled_12 (by decide) ?_
      refine j_istore [(4, .int 0), (0, .ref 2), (1, .ref 1000001), (2, .int x2), (3, .int x3)] dX5_isSpelled_13 (Nat.le_of_ble_eq_true rfl) rfl ?_
      refine j_sub [(0, .ref 2), (1, .ref 1000001), (2, .int x2), (4, .int 0)] [1, 2, 3, 0] rfl ?_
      exact jloop_ok (fun s => f_X5_isSpelled_B15 σ 1000001 x2 s) (fun s => J yX5_isSpelled cX5_isSpelled 5 (some .boolean) 7 g rv μ' 15 [(0, .ref 2), (1, .ref 1000001), (2, .int x2), (4, .int s)] [] (eX σ)) Kp (fun s o hb hk => f_X5_isSpelled_B15_ok (Kp := jsum (fun s => J yX5_isSpelled cX5_isSpelled 5 (some .boolean) 7 g rv μ' 15 [(0, .ref 2), (1, .ref 1000001), (2, .int x2), (4, .int s)] [] (eX σ)) Kp) σ 1000001 x2 s hn (fun r q => hr r q) (fun s q => q) o hb hk) jFuel _ _ h hK
    · replace h := jif_f hc34 h
      refine j_iconst (v := 0) dX5_isSpelled_10 (by decide) ?_
      replace h := Option.some.inj h
      subst h
      obtain ⟨hr1, hr2⟩ := hr _ hK
      exact j_zret rfl dX5_isSpelled_11 hr1 hr2
  · skip
    refine j_strlen 2 (by decide) kl_RX5_102 dX5_isSpelled_1 rfl rfl hn.1 hn.2 ?_
    refine j_iload_n 3 dX5_isSpelled_4 rfl rfl ?_
    refine j_iload_n 2 dX5_isSpelled_5 rfl rfl ?_
    refine j_isub dX5_isSpelled_6 ?_
    refine j_icmp_eq 12 dX5_isSpelled_7 (by decide) (fun hc35 => ?_) (fun hc35 => ?_)
    · replace h := jif_t hc35 h
      refine j_iconst (v := 0) dX5_isSpelled_12 (by decide) ?_
      refine j_istore [(4, .int 0), (0, .ref 2), (1, .ref 1000002), (2, .int x2), (3, .int x3)] dX5_isSpelled_13 (Nat.le_of_ble_eq_true rfl) rfl ?_
      refine j_sub [(0, .ref 2), (1, .ref 1000002), (2, .int x2), (4, .int 0)] [1, 2, 3, 0] rfl ?_
      exact jloop_ok (fun s => f_X5_isSpelled_B15 σ 1000002 x2 s) (fun s => J yX5_isSpelled cX5_isSpelled 5 (some .boolean) 7 g rv μ' 15 [(0, .ref 2), (1, .ref 1000002), (2, .int x2), (4, .int s)] [] (eX σ)) Kp (fun s o hb hk => f_X5_isSpelled_B15_ok (Kp := jsum (fun s => J yX5_isSpelled cX5_isSpelled 5 (some .boolean) 7 g rv μ' 15 [(0, .ref 2), (1, .ref 1000002), (2, .int x2), (4, .int s)] [] (eX σ)) Kp) σ 1000002 x2 s hn (fun r q => hr r q) (fun s q => q) o hb hk) jFuel _ _ h hK
    · replace h := jif_f hc35 h
      refine j_iconst (v := 0) dX5_isSpelled_10 (by decide) ?_
      replace h := Option.some.inj h
      subst h
      obtain ⟨hr1, hr2⟩ := hr _ hK
      exact j_zret rfl dX5_isSpelled_11 hr1 hr2
  · skip
    refine j_strlen 3 (by decide) kl_RX5_102 dX5_isSpelled_1 rfl rfl hn.1 hn.2 ?_
    refine j_iload_n 3 dX5_isSpelled_4 rfl rfl ?_
    refine j_iload_n 2 dX5_isSpelled_5 rfl rfl ?_
    refine j_isub dX5_isSpelled_6 ?_
    refine j_icmp_eq 12 dX5_isSpelled_7 (by decide) (fun hc36 => ?_) (fun hc36 => ?_)
    · replace h := jif_t hc36 h
      refine j_iconst (v := 0) dX5_isSpelled_12 (by decide) ?_
      refine j_istore [(4, .int 0), (0, .ref 2), (1, .ref 1000003), (2, .int x2), (3, .int x3)] dX5_isSpelled_13 (Nat.le_of_ble_eq_true rfl) rfl ?_
      refine j_sub [(0, .ref 2), (1, .ref 1000003), (2, .int x2), (4, .int 0)] [1, 2, 3, 0] rfl ?_
      exact jloop_ok (fun s => f_X5_isSpelled_B15 σ 1000003 x2 s) (fun s => J yX5_isSpelled cX5_isSpelled 5 (some .boolean) 7 g rv μ' 15 [(0, .ref 2), (1, .ref 1000003), (2, .int x2), (4, .int s)] [] (eX σ)) Kp (fun s o hb hk => f_X5_isSpelled_B15_ok (Kp := jsum (fun s => J yX5_isSpelled cX5_isSpelled 5 (some .boolean) 7 g rv μ' 15 [(0, .ref 2), (1, .ref 1000003), (2, .int x2), (4, .int s)] [] (eX σ)) Kp) σ 1000003 x2 s hn (fun r q => hr r q) (fun s q => q) o hb hk) jFuel _ _ h hK
    · replace h := jif_f hc36 h
      refine j_iconst (v := 0) dX5_isSpelled_10 (by decide) ?_
      replace h := Option.some.inj h
      subst h
      obtain ⟨hr1, hr2⟩ := hr _ hK
      exact j_zret rfl dX5_isSpelled_11 hr1 hr2
theorem c_X5_isSpelled (g : Bool) {σ : jS} {x1 : Nat} {x2 : Int32} {x3 : Int32} {r : Int32} (h : f_X5_isSpelled σ x1 x2 x3 = some r) : Cn yX5_isSpelled cX5_isSpelled 5 (some .boolean) 7 g [.ref 2, .ref x1, .int x2, .int x3] (eX σ) (some (.int r)) (eX σ) :=
  Cn_of (by decide) (Nat.le_refl _) (Nat.le_refl _) (Nat.le_of_ble_eq_true rfl) (f_X5_isSpelled_ok (Kp := (fun o => o = r)) σ x1 x2 x3 ⟨jbr _, jbr _⟩ (fun r2 q => by cases q; exact ⟨rfl, rfl⟩) _ h rfl)
def f_X5_spelling (x0 : Int32) : Option Nat :=
  if x0 = 0 then (some (1000000))
  else if x0 = 1 then (some (1000001))
  else if x0 = 2 then (some (1000002))
  else (some (1000003))
set_option maxHeartbeats 1000000 in
set_option maxRecDepth 20000 in
theorem f_X5_spelling_ok {g : Bool} {rv : Option Value} {μ' : jM} (x0 : Int32) (μ : jM) {Kp : Nat → Prop} (hn : Nat.ble μ.1 μ'.1 = true ∧ Nat.ble μ.2.1 μ'.2.1 = true) (hr : ∀ r : Nat, Kp (r) → rv = some (.ref r) ∧ μ' = μ) (o : Nat) (h : f_X5_spelling x0 = some o) (hK : Kp o) : J yX5_spelling cX5_spelling 1 (some (.object "java/lang/String")) 1 g rv μ' 0 [(0, .int x0)] [] μ := by
  unfold f_X5_spelling at h
  refine j_iload_n 0 dX5_spelling_0 rfl rfl ?_
  by_cases hc1 : x0 = 0
  · replace h := jif_t hc1 h
    refine j_tblIn 28 dX5_spelling_1 (by rw [hc1]; decide) (by rw [hc1]; decide) (by rw [hc1]; rfl) (by decide) ?_
    refine j_ldcS 0 (by decide) rfl dX5_spelling_28 ?_
    replace h := Option.some.inj h
    subst h
    obtain ⟨hr1, hr2⟩ := hr _ hK
    exact j_aret (Or.inl ⟨_, rfl⟩) dX5_spelling_30 hr1 hr2
  replace h := jif_f hc1 h
  by_cases hc2 : x0 = 1
  · replace h := jif_t hc2 h
    refine j_tblIn 31 dX5_spelling_1 (by rw [hc2]; decide) (by rw [hc2]; decide) (by rw [hc2]; rfl) (by decide) ?_
    refine j_ldcS 1 (by decide) rfl dX5_spelling_31 ?_
    replace h := Option.some.inj h
    subst h
    obtain ⟨hr1, hr2⟩ := hr _ hK
    exact j_aret (Or.inl ⟨_, rfl⟩) dX5_spelling_33 hr1 hr2
  replace h := jif_f hc2 h
  by_cases hc3 : x0 = 2
  · replace h := jif_t hc3 h
    refine j_tblIn 34 dX5_spelling_1 (by rw [hc3]; decide) (by rw [hc3]; decide) (by rw [hc3]; rfl) (by decide) ?_
    refine j_ldcS 2 (by decide) rfl dX5_spelling_34 ?_
    replace h := Option.some.inj h
    subst h
    obtain ⟨hr1, hr2⟩ := hr _ hK
    exact j_aret (Or.inl ⟨_, rfl⟩) dX5_spelling_36 hr1 hr2
  replace h := jif_f hc3 h
  refine j_tblOut 37 dX5_spelling_1 (jsw_out (by decide) (by decide) (fun q h1 h2 => ?_)) (by decide) ?_
  · clear h; match q, h1, h2 with
    | 0, _, _ => exact hc1
    | 1, _, _ => exact hc2
    | 2, _, _ => exact hc3
  · skip
    refine j_ldcS 3 (by decide) rfl dX5_spelling_37 ?_
    replace h := Option.some.inj h
    subst h
    obtain ⟨hr1, hr2⟩ := hr _ hK
    exact j_aret (Or.inl ⟨_, rfl⟩) dX5_spelling_39 hr1 hr2
theorem c_X5_spelling (g : Bool) (μ : jM) {x0 : Int32} {r : Nat} (h : f_X5_spelling x0 = some r) : Cn yX5_spelling cX5_spelling 1 (some (.object "java/lang/String")) 1 g [.int x0] μ (some (.ref r)) μ :=
  Cn_of (by decide) (Nat.le_refl _) (Nat.le_refl _) (Nat.le_of_ble_eq_true rfl) (f_X5_spelling_ok (Kp := (fun o => o = r)) x0 μ ⟨jbr _, jbr _⟩ (fun r2 q => by cases q; exact ⟨rfl, rfl⟩) _ h rfl)
