def f_X11_in_J18 (y0 : Int32) : Option Int32 :=
  bG (jb y0) (
  some (y0))
set_option maxHeartbeats 1000000 in
set_option maxRecDepth 20000 in
theorem f_X11_in_J18_ok {g : Bool} {rv : Option Value} {μ' : jM} (y0 : Int32) (μ : jM) {Kp : Int32 → Prop} (hn : Nat.ble μ.1 μ'.1 = true ∧ Nat.ble μ.2.1 μ'.2.1 = true) (hr : ∀ r : Int32, Kp (r) → rv = some (.int r) ∧ μ' = μ) (o : Int32) (h : f_X11_in_J18 y0 = some o) (hK : Kp o) : J yX11_in cX11_in 6 (some .boolean) 1 g rv μ' 18 [] [.int y0] μ := by
  unfold f_X11_in_J18 at h
  replace h := bG_inv h
  obtain ⟨hb, h⟩ := h
  replace h := Option.some.inj h
  subst h
  obtain ⟨hr1, hr2⟩ := hr _ hK
  exact j_zret (jb_nar hb) dX11_in_18 hr1 hr2
def f_X11_in_J17 : Option Int32 :=
  f_X11_in_J18 0
set_option maxHeartbeats 1000000 in
set_option maxRecDepth 20000 in
theorem f_X11_in_J17_ok {g : Bool} {rv : Option Value} {μ' : jM} (μ : jM) {Kp : Int32 → Prop} (hn : Nat.ble μ.1 μ'.1 = true ∧ Nat.ble μ.2.1 μ'.2.1 = true) (hr : ∀ r : Int32, Kp (r) → rv = some (.int r) ∧ μ' = μ) (o : Int32) (h : f_X11_in_J17  = some o) (hK : Kp o) : J yX11_in cX11_in 6 (some .boolean) 1 g rv μ' 17 [] [] μ := by
  unfold f_X11_in_J17 at h
  refine j_iconst (v := 0) dX11_in_17 (by decide) ?_
  exact f_X11_in_J18_ok 0 μ hn hr _ h hK
def f_X11_in (x0 : Int64) (x2 : Int64) (x4 : Int64) : Option Int32 :=
  if (lg_cmp x0 x2) < 0 then (f_X11_in_J17 )
  else (if 0 < (lg_cmp x0 x4) then (f_X11_in_J17 )
  else (f_X11_in_J18 1))
set_option maxHeartbeats 1000000 in
set_option maxRecDepth 20000 in
theorem f_X11_in_ok {g : Bool} {rv : Option Value} {μ' : jM} (x0 : Int64) (x2 : Int64) (x4 : Int64) (μ : jM) {Kp : Int32 → Prop} (hn : Nat.ble μ.1 μ'.1 = true ∧ Nat.ble μ.2.1 μ'.2.1 = true) (hr : ∀ r : Int32, Kp (r) → rv = some (.int r) ∧ μ' = μ) (o : Int32) (h : f_X11_in x0 x2 x4 = some o) (hK : Kp o) : J yX11_in cX11_in 6 (some .boolean) 1 g rv μ' 0 [(0, .long x0), (2, .long x2), (4, .long x4)] [] μ := by
  unfold f_X11_in at h
  refine j_lload_n 0 dX11_in_0 rfl rfl ?_
  refine j_lload_n 1 dX11_in_1 rfl rfl ?_
  refine j_lcmp dX11_in_2 ?_
  refine j_if_lt 17 dX11_in_3 (by decide) (fun hc1 => ?_) (fun hc1 => ?_)
  · replace h := jif_t hc1 h
    refine j_sub [] [] rfl ?_
    exact f_X11_in_J17_ok  μ hn hr _ h hK
  · replace h := jif_f hc1 h
    refine j_lload_n 0 dX11_in_6 rfl rfl ?_
    refine j_lload 2 dX11_in_7 rfl ?_
    refine j_lcmp dX11_in_9 ?_
    refine j_if_gt 17 dX11_in_10 (by decide) (fun hc2 => ?_) (fun hc2 => ?_)
    · replace h := jif_t hc2 h
      refine j_sub [] [] rfl ?_
      exact f_X11_in_J17_ok  μ hn hr _ h hK
    · replace h := jif_f hc2 h
      refine j_iconst (v := 1) dX11_in_13 (by decide) ?_
      refine j_goto 18 dX11_in_14 (by decide) ?_
      refine j_sub [] [] rfl ?_
      exact f_X11_in_J18_ok 1 μ hn hr _ h hK
theorem c_X11_in (g : Bool) (μ : jM) {x0 : Int64} {x2 : Int64} {x4 : Int64} {r : Int32} (h : f_X11_in x0 x2 x4 = some r) : Cn yX11_in cX11_in 6 (some .boolean) 1 g [.long x0, .long x2, .long x4] μ (some (.int r)) μ :=
  Cn_of (by decide) (Nat.le_refl _) (Nat.le_refl _) (Nat.le_of_ble_eq_true rfl) (f_X11_in_ok (Kp := (fun o => o = r)) x0 x2 x4 μ ⟨jbr _, jbr _⟩ (fun r2 q => by cases q; exact ⟨rfl, rfl⟩) _ h rfl)
def f_X11_feed_J79 (σ : jS) : Option (Int32 × jS) :=
  some ((gI σ 1 16, σ))
set_option maxHeartbeats 1000000 in
set_option maxRecDepth 20000 in
theorem f_X11_feed_J79_ok {g : Bool} {rv : Option Value} {μ' : jM} (σ : jS) {Kp : (Int32 × jS) → Prop} (hn : Nat.ble nM μ'.1 = true ∧ Nat.ble wM μ'.2.1 = true) (hr : ∀ (r : Int32) (s : jS), Kp ((r, s)) → rv = some (.int r) ∧ μ' = eM s) (o : (Int32 × jS)) (h : f_X11_feed_J79 σ = some o) (hK : Kp o) : J yX11_feed cX11_feed 5 (some .int) 2 g rv μ' 79 [(0, .ref 1)] [] (eM σ) := by
  unfold f_X11_feed_J79 at h
  refine j_aload_n 0 dX11_feed_79 rfl rfl ?_
  refine j_get (ci := 10) 16 (.int (gI σ 1 16)) jC_10 dX11_feed_80 kg_RX11_153 rfl (okM_1 _) (shM_1 _) (fvM_1_16 _) ?_
  replace h := Option.some.inj h
  subst h
  obtain ⟨hr1, hr2⟩ := hr _ _ hK
  exact j_iret dX11_feed_83 hr1 hr2
def f_X11_feed_B37 (σ : jS) (x2 : Int64) (x4 : Int32) : Option ((Int32 × jS) ⊕ (Int32 × jS)) :=
  if x4 < 0 then (jw (f_X11_feed_J79 σ))
  else (bG (jin (gI σ 1 16) 500) (
  bV (sI σ 11 (ix (gI σ 1 16)) (((x2 >>> (((8 : Int32) * x4).toInt64 &&& 63)) &&& (255 : Int64)).toInt32)) fun σ3 =>
  bV (sI σ3 1 16 ((gI σ3 1 16) + (1 : Int32))) fun σ4 =>
  bV (x4 + (-1)) fun v5 =>
  some (.inl (v5, σ4))))
set_option maxHeartbeats 1000000 in
set_option maxRecDepth 20000 in
theorem f_X11_feed_B37_ok {g : Bool} {rv : Option Value} {μ' : jM} (σ : jS) (x2 : Int64) (x4 : Int32) {Kp : ((Int32 × jS) ⊕ (Int32 × jS)) → Prop} (hn : Nat.ble nM μ'.1 = true ∧ Nat.ble wM μ'.2.1 = true) (hr : ∀ (r : Int32) (s : jS), Kp (.inr ((r, s))) → rv = some (.int r) ∧ μ' = eM s) (hc0 : ∀ s : (Int32 × jS), Kp (.inl s) → J yX11_feed cX11_feed 5 (some .int) 2 g rv μ' 37 [(0, .ref 1), (2, .long x2), (4, .int s.1)] [] (eM s.2)) (o : ((Int32 × jS) ⊕ (Int32 × jS))) (h : f_X11_feed_B37 σ x2 x4 = some o) (hK : Kp o) : J yX11_feed cX11_feed 5 (some .int) 2 g rv μ' 37 [(0, .ref 1), (2, .long x2), (4, .int x4)] [] (eM σ) := by
  unfold f_X11_feed_B37 at h
  refine j_iload 2 dX11_feed_37 rfl ?_
  refine j_if_lt 79 dX11_feed_39 (by decide) (fun hc6 => ?_) (fun hc6 => ?_)
  · replace h := jif_t hc6 h
    replace h := jw_inv h
    obtain ⟨o7, rfl, h⟩ := h
    refine j_sub [(0, .ref 1)] [0] rfl ?_
    exact f_X11_feed_J79_ok (Kp := fun o => Kp (.inr (o))) σ hn (fun r s q => hr r s q) _ h hK
  · replace h := jif_f hc6 h
    refine j_aload_n 0 dX11_feed_42 rfl rfl ?_
    refine j_get (ci := 10) 15 (.ref 11) jC_10 dX11_feed_43 kg_RX11_37 rfl (okM_1 _) (shM_1 _) (fvM_1_15 _) ?_
    refine j_aload_n 0 dX11_feed_46 rfl rfl ?_
    refine j_get (ci := 10) 16 (.int (gI σ 1 16)) jC_10 dX11_feed_47 kg_RX11_153 rfl (okM_1 _) (shM_1 _) (fvM_1_16 _) ?_
    refine j_lload_n 1 dX11_feed_50 rfl rfl ?_
    refine j_bipush (v := 8) dX11_feed_51 (by decide) ?_
    refine j_iload 2 dX11_feed_53 rfl ?_
    refine j_imul dX11_feed_55 ?_
    refine j_lshr dX11_feed_56 ?_
    refine j_ldc2 (v := 255) kk_RX11_156 dX11_feed_57 ?_
    refine j_land dX11_feed_60 ?_
    refine j_l2i dX11_feed_61 ?_
    replace h := bG_inv h
    obtain ⟨hi8, h⟩ := h
    refine j_iastore dX11_feed_62 (okM_11 _) (shM_11 _) (jin_spec hi8) ?_
    replace h := bV_inv h
    obtain ⟨σ9, eσ9, h⟩ := h
    refine j_mem (congrArg eM eσ9) ?_
    refine j_aload_n 0 dX11_feed_63 rfl rfl ?_
    refine j_dup dX11_feed_64 rfl ?_
    refine j_get (ci := 10) 16 (.int (gI σ9 1 16)) jC_10 dX11_feed_65 kg_RX11_153 rfl (okM_1 _) (shM_1 _) (fvM_1_16 _) ?_
    refine j_iconst (v := 1) dX11_feed_68 (by decide) ?_
    refine j_iadd dX11_feed_69 ?_
    replace h := bV_inv h
    obtain ⟨σ10, eσ10, h⟩ := h
    refine j_putI 16 jC_10 dX11_feed_70 kg_RX11_153 (Or.inl ff_10_16) rfl fk_10_16 (fn_10_16 _) (okM_1 _) (shM_1 _) ?_
    refine j_mem (congrArg eM eσ10) ?_
    replace h := bV_inv h
    obtain ⟨v11, ev11, h⟩ := h
    refine j_iinc (v := v11) [(4, .int v11), (0, .ref 1), (2, .long x2)] 2 dX11_feed_73 rfl (by rw [ev11]; rfl) (Nat.le_of_ble_eq_true rfl) rfl ?_
    refine j_goto 37 dX11_feed_76 (by decide) ?_
    replace h := Option.some.inj h
    subst h
    refine j_sub [(0, .ref 1), (2, .long x2), (4, .int v11)] [1, 2, 0] rfl ?_
    exact hc0 _ hK
def f_X11_feed (σ : jS) (x1 : Int32) (x2 : Int64) : Option (Int32 × jS) :=
  bC (f_X11_in (x1.toInt64) 1 8) fun r1 =>
  if r1 = 0 then (some (((-1002), σ)))
  else (if ((gI σ 1 16) + x1) ≤ 500 then (bV (x1 - (1 : Int32)) fun v2 =>
  jloop jFuel (fun s => f_X11_feed_B37 s.2 x2 s.1) (v2, σ))
  else (some (((-1004), σ))))
set_option maxHeartbeats 1000000 in
set_option maxRecDepth 20000 in
theorem f_X11_feed_ok {g : Bool} {rv : Option Value} {μ' : jM} (σ : jS) (x1 : Int32) (x2 : Int64) {Kp : (Int32 × jS) → Prop} (hn : Nat.ble nM μ'.1 = true ∧ Nat.ble wM μ'.2.1 = true) (hr : ∀ (r : Int32) (s : jS), Kp ((r, s)) → rv = some (.int r) ∧ μ' = eM s) (o : (Int32 × jS)) (h : f_X11_feed σ x1 x2 = some o) (hK : Kp o) : J yX11_feed cX11_feed 5 (some .int) 2 g rv μ' 0 [(0, .ref 1), (1, .int x1), (2, .long x2)] [] (eM σ) := by
  unfold f_X11_feed at h
  refine j_iload_n 1 dX11_feed_0 rfl rfl ?_
  refine j_i2l dX11_feed_1 ?_
  refine j_lconst (v := 1) dX11_feed_2 (by decide) ?_
  refine j_ldc2 (v := 8) kk_RX11_151 dX11_feed_3 ?_
  replace h := bC_inv h
  obtain ⟨r12, cr12, h⟩ := h
  refine j_callS (st1 := .int r12 :: _) (c_X11_in g _ cr12) jy_X11_in kt_yX11_in kl_RX11_144 dX11_feed_6 rfl rfl rfl rfl (jbr _) (jbr _) hn.1 hn.2 (Or.inr rfl) rfl ?_
  refine j_if_ne 16 dX11_feed_9 (by decide) (fun hc13 => ?_) (fun hc13 => ?_)
  · replace h := jif_f hc13 h
    refine j_aload_n 0 dX11_feed_16 rfl rfl ?_
    refine j_get (ci := 10) 16 (.int (gI σ 1 16)) jC_10 dX11_feed_17 kg_RX11_153 rfl (okM_1 _) (shM_1 _) (fvM_1_16 _) ?_
    refine j_iload_n 1 dX11_feed_20 rfl rfl ?_
    refine j_iadd dX11_feed_21 ?_
    refine j_sipush (v := 500) dX11_feed_22 (by decide) ?_
    refine j_icmp_le 32 dX11_feed_25 (by decide) (fun hc14 => ?_) (fun hc14 => ?_)
    · replace h := jif_t hc14 h
      refine j_iload_n 1 dX11_feed_32 rfl rfl ?_
      refine j_iconst (v := 1) dX11_feed_33 (by decide) ?_
      refine j_isub dX11_feed_34 ?_
      replace h := bV_inv h
      obtain ⟨v15, ev15, h⟩ := h
      refine j_nmi ev15 ?_
      refine j_istore [(4, .int v15), (0, .ref 1), (1, .int x1), (2, .long x2)] dX11_feed_35 (Nat.le_of_ble_eq_true rfl) rfl ?_
      refine j_sub [(0, .ref 1), (2, .long x2), (4, .int v15)] [1, 3, 0] rfl ?_
      exact jloop_ok (fun s => f_X11_feed_B37 s.2 x2 s.1) (fun s => J yX11_feed cX11_feed 5 (some .int) 2 g rv μ' 37 [(0, .ref 1), (2, .long x2), (4, .int s.1)] [] (eM s.2)) Kp (fun s o hb hk => f_X11_feed_B37_ok (Kp := jsum (fun s => J yX11_feed cX11_feed 5 (some .int) 2 g rv μ' 37 [(0, .ref 1), (2, .long x2), (4, .int s.1)] [] (eM s.2)) Kp) s.2 x2 s.1 hn (fun r s q => hr r s q) (fun s q => q) o hb hk) jFuel _ _ h hK
    · replace h := jif_f hc14 h
      refine j_sipush (v := (-1004)) dX11_feed_28 (by decide) ?_
      replace h := Option.some.inj h
      subst h
      obtain ⟨hr1, hr2⟩ := hr _ _ hK
      exact j_iret dX11_feed_31 hr1 hr2
  · replace h := jif_t hc13 h
    refine j_sipush (v := (-1002)) dX11_feed_12 (by decide) ?_
    replace h := Option.some.inj h
    subst h
    obtain ⟨hr1, hr2⟩ := hr _ _ hK
    exact j_iret dX11_feed_15 hr1 hr2
theorem c_X11_feed (g : Bool) {σ : jS} {x1 : Int32} {x2 : Int64} {r : Int32} {σ2 : jS} (h : f_X11_feed σ x1 x2 = some (r, σ2)) : Cn yX11_feed cX11_feed 5 (some .int) 2 g [.ref 1, .int x1, .long x2] (eM σ) (some (.int r)) (eM σ2) :=
  Cn_of (by decide) (Nat.le_refl _) (Nat.le_refl _) (Nat.le_of_ble_eq_true rfl) (f_X11_feed_ok (Kp := (fun o => o = (r, σ2))) σ x1 x2 ⟨jbr _, jbr _⟩ (fun r2 s2 q => by cases q; exact ⟨rfl, rfl⟩) _ h rfl)
def f_X11_here_J62 (σ : jS) (y0 : Int32) : Option (Int32 × jS) :=
  some ((y0, σ))
set_option maxHeartbeats 1000000 in
set_option maxRecDepth 20000 in
theorem f_X11_here_J62_ok {g : Bool} {rv : Option Value} {μ' : jM} (σ : jS) (y0 : Int32) {Kp : (Int32 × jS) → Prop} (hn : Nat.ble nM μ'.1 = true ∧ Nat.ble wM μ'.2.1 = true) (hr : ∀ (r : Int32) (s : jS), Kp ((r, s)) → rv = some (.int r) ∧ μ' = eM s) (o : (Int32 × jS)) (h : f_X11_here_J62 σ y0 = some o) (hK : Kp o) : J yX11_here cX11_here 1 (some .int) 1 g rv μ' 62 [] [.int y0] (eM σ) := by
  unfold f_X11_here_J62 at h
  replace h := Option.some.inj h
  subst h
  obtain ⟨hr1, hr2⟩ := hr _ _ hK
  exact j_iret dX11_here_62 hr1 hr2
def f_X11_here_J38 (σ : jS) : Option (Int32 × jS) :=
  if (gI σ 1 16) ≤ (gI σ 1 18) then (f_X11_here_J62 σ (-1))
  else (bG (jin (gI σ 1 18) 500) (
  f_X11_here_J62 σ (gI σ 11 (ix (gI σ 1 18)))))
set_option maxHeartbeats 1000000 in
set_option maxRecDepth 20000 in
theorem f_X11_here_J38_ok {g : Bool} {rv : Option Value} {μ' : jM} (σ : jS) {Kp : (Int32 × jS) → Prop} (hn : Nat.ble nM μ'.1 = true ∧ Nat.ble wM μ'.2.1 = true) (hr : ∀ (r : Int32) (s : jS), Kp ((r, s)) → rv = some (.int r) ∧ μ' = eM s) (o : (Int32 × jS)) (h : f_X11_here_J38 σ = some o) (hK : Kp o) : J yX11_here cX11_here 1 (some .int) 1 g rv μ' 38 [(0, .ref 1)] [] (eM σ) := by
  unfold f_X11_here_J38 at h
  refine j_aload_n 0 dX11_here_38 rfl rfl ?_
  refine j_get (ci := 10) 18 (.int (gI σ 1 18)) jC_10 dX11_here_39 kg_RX11_158 rfl (okM_1 _) (shM_1 _) (fvM_1_18 _) ?_
  refine j_aload_n 0 dX11_here_42 rfl rfl ?_
  refine j_get (ci := 10) 16 (.int (gI σ 1 16)) jC_10 dX11_here_43 kg_RX11_153 rfl (okM_1 _) (shM_1 _) (fvM_1_16 _) ?_
  refine j_icmp_ge 61 dX11_here_46 (by decide) (fun hc1 => ?_) (fun hc1 => ?_)
  · replace h := jif_t hc1 h
    refine j_iconst (v := (-1)) dX11_here_61 (by decide) ?_
    refine j_sub [] [] rfl ?_
    exact f_X11_here_J62_ok σ (-1) hn hr _ h hK
  · replace h := jif_f hc1 h
    refine j_aload_n 0 dX11_here_49 rfl rfl ?_
    refine j_get (ci := 10) 15 (.ref 11) jC_10 dX11_here_50 kg_RX11_37 rfl (okM_1 _) (shM_1 _) (fvM_1_15 _) ?_
    refine j_aload_n 0 dX11_here_53 rfl rfl ?_
    refine j_get (ci := 10) 18 (.int (gI σ 1 18)) jC_10 dX11_here_54 kg_RX11_158 rfl (okM_1 _) (shM_1 _) (fvM_1_18 _) ?_
    replace h := bG_inv h
    obtain ⟨hi2, h⟩ := h
    refine j_iaload dX11_here_57 (okM_11 _) (shM_11 _) (jin_spec hi2) ?_
    refine j_goto 62 dX11_here_58 (by decide) ?_
    refine j_sub [] [] rfl ?_
    exact f_X11_here_J62_ok σ (gI σ 11 (ix (gI σ 1 18))) hn hr _ h hK
def f_X11_here_B0 (σ : jS) : Option ((jS) ⊕ (Int32 × jS)) :=
  if (gI σ 1 16) ≤ (gI σ 1 18) then (jw (f_X11_here_J38 σ))
  else (bG (jin (gI σ 1 18) 500) (
  if (gI σ 11 (ix (gI σ 1 18))) = 32 then (bV (sI σ 1 18 ((gI σ 1 18) + (1 : Int32))) fun σ3 =>
  some (.inl σ3))
  else (jw (f_X11_here_J38 σ))))
set_option maxHeartbeats 1000000 in
set_option maxRecDepth 20000 in
theorem f_X11_here_B0_ok {g : Bool} {rv : Option Value} {μ' : jM} (σ : jS) {Kp : ((jS) ⊕ (Int32 × jS)) → Prop} (hn : Nat.ble nM μ'.1 = true ∧ Nat.ble wM μ'.2.1 = true) (hr : ∀ (r : Int32) (s : jS), Kp (.inr ((r, s))) → rv = some (.int r) ∧ μ' = eM s) (hc0 : ∀ s : (jS), Kp (.inl s) → J yX11_here cX11_here 1 (some .int) 1 g rv μ' 0 [(0, .ref 1)] [] (eM s)) (o : ((jS) ⊕ (Int32 × jS))) (h : f_X11_here_B0 σ = some o) (hK : Kp o) : J yX11_here cX11_here 1 (some .int) 1 g rv μ' 0 [(0, .ref 1)] [] (eM σ) := by
  unfold f_X11_here_B0 at h
  refine j_aload_n 0 dX11_here_0 rfl rfl ?_
  refine j_get (ci := 10) 18 (.int (gI σ 1 18)) jC_10 dX11_here_1 kg_RX11_158 rfl (okM_1 _) (shM_1 _) (fvM_1_18 _) ?_
  refine j_aload_n 0 dX11_here_4 rfl rfl ?_
  refine j_get (ci := 10) 16 (.int (gI σ 1 16)) jC_10 dX11_here_5 kg_RX11_153 rfl (okM_1 _) (shM_1 _) (fvM_1_16 _) ?_
  refine j_icmp_ge 38 dX11_here_8 (by decide) (fun hc4 => ?_) (fun hc4 => ?_)
  · replace h := jif_t hc4 h
    replace h := jw_inv h
    obtain ⟨o5, rfl, h⟩ := h
    exact f_X11_here_J38_ok (Kp := fun o => Kp (.inr (o))) σ hn (fun r s q => hr r s q) _ h hK
  · replace h := jif_f hc4 h
    refine j_aload_n 0 dX11_here_11 rfl rfl ?_
    refine j_get (ci := 10) 15 (.ref 11) jC_10 dX11_here_12 kg_RX11_37 rfl (okM_1 _) (shM_1 _) (fvM_1_15 _) ?_
    refine j_aload_n 0 dX11_here_15 rfl rfl ?_
    refine j_get (ci := 10) 18 (.int (gI σ 1 18)) jC_10 dX11_here_16 kg_RX11_158 rfl (okM_1 _) (shM_1 _) (fvM_1_18 _) ?_
    replace h := bG_inv h
    obtain ⟨hi6, h⟩ := h
    refine j_iaload dX11_here_19 (okM_11 _) (shM_11 _) (jin_spec hi6) ?_
    refine j_bipush (v := 32) dX11_here_20 (by decide) ?_
    refine j_icmp_ne 38 dX11_here_22 (by decide) (fun hc7 => ?_) (fun hc7 => ?_)
    · replace h := jif_f hc7 h
      replace h := jw_inv h
      obtain ⟨o8, rfl, h⟩ := h
      exact f_X11_here_J38_ok (Kp := fun o => Kp (.inr (o))) σ hn (fun r s q => hr r s q) _ h hK
    · replace h := jif_t hc7 h
      refine j_aload_n 0 dX11_here_25 rfl rfl ?_
      refine j_dup dX11_here_26 rfl ?_
      refine j_get (ci := 10) 18 (.int (gI σ 1 18)) jC_10 dX11_here_27 kg_RX11_158 rfl (okM_1 _) (shM_1 _) (fvM_1_18 _) ?_
      refine j_iconst (v := 1) dX11_here_30 (by decide) ?_
      refine j_iadd dX11_here_31 ?_
      replace h := bV_inv h
      obtain ⟨σ9, eσ9, h⟩ := h
      refine j_putI 18 jC_10 dX11_here_32 kg_RX11_158 (Or.inl ff_10_18) rfl fk_10_18 (fn_10_18 _) (okM_1 _) (shM_1 _) ?_
      refine j_mem (congrArg eM eσ9) ?_
      refine j_goto 0 dX11_here_35 (by decide) ?_
      replace h := Option.some.inj h
      subst h
      exact hc0 _ hK
def f_X11_here (σ : jS) : Option (Int32 × jS) :=
  jloop jFuel (fun s => f_X11_here_B0 s) σ
set_option maxHeartbeats 1000000 in
set_option maxRecDepth 20000 in
theorem f_X11_here_ok {g : Bool} {rv : Option Value} {μ' : jM} (σ : jS) {Kp : (Int32 × jS) → Prop} (hn : Nat.ble nM μ'.1 = true ∧ Nat.ble wM μ'.2.1 = true) (hr : ∀ (r : Int32) (s : jS), Kp ((r, s)) → rv = some (.int r) ∧ μ' = eM s) (o : (Int32 × jS)) (h : f_X11_here σ = some o) (hK : Kp o) : J yX11_here cX11_here 1 (some .int) 1 g rv μ' 0 [(0, .ref 1)] [] (eM σ) := by
  unfold f_X11_here at h
  exact jloop_ok (fun s => f_X11_here_B0 s) (fun s => J yX11_here cX11_here 1 (some .int) 1 g rv μ' 0 [(0, .ref 1)] [] (eM s)) Kp (fun s o hb hk => f_X11_here_B0_ok (Kp := jsum (fun s => J yX11_here cX11_here 1 (some .int) 1 g rv μ' 0 [(0, .ref 1)] [] (eM s)) Kp) s hn (fun r s q => hr r s q) (fun s q => q) o hb hk) jFuel _ _ h hK
theorem c_X11_here (g : Bool) {σ : jS} {r : Int32} {σ2 : jS} (h : f_X11_here σ = some (r, σ2)) : Cn yX11_here cX11_here 1 (some .int) 1 g [.ref 1] (eM σ) (some (.int r)) (eM σ2) :=
  Cn_of (by decide) (Nat.le_refl _) (Nat.le_refl _) (Nat.le_of_ble_eq_true rfl) (f_X11_here_ok (Kp := (fun o => o = (r, σ2))) σ ⟨jbr _, jbr _⟩ (fun r2 s2 q => by cases q; exact ⟨rfl, rfl⟩) _ h rfl)
def f_X11_code4 (x0 : Int32) (x1 : Int32) (x2 : Int32) (x3 : Int32) : Option Int64 :=
  some (((((27 : Int64) * ((((27 : Int64) * ((((27 : Int64) * ((x0.toInt64) - (96 : Int64))) + (x1.toInt64)) - (96 : Int64))) + (x2.toInt64)) - (96 : Int64))) + (x3.toInt64)) - (96 : Int64)))
set_option maxHeartbeats 1000000 in
set_option maxRecDepth 20000 in
theorem f_X11_code4_ok {g : Bool} {rv : Option Value} {μ' : jM} (x0 : Int32) (x1 : Int32) (x2 : Int32) (x3 : Int32) (μ : jM) {Kp : Int64 → Prop} (hn : Nat.ble μ.1 μ'.1 = true ∧ Nat.ble μ.2.1 μ'.2.1 = true) (hr : ∀ r : Int64, Kp (r) → rv = some (.long r) ∧ μ' = μ) (o : Int64) (h : f_X11_code4 x0 x1 x2 x3 = some o) (hK : Kp o) : J yX11_code4 cX11_code4 4 (some .long) 1 g rv μ' 0 [(0, .int x0), (1, .int x1), (2, .int x2), (3, .int x3)] [] μ := by
  unfold f_X11_code4 at h
  refine j_ldc2 (v := 27) kk_RX11_180 dX11_code4_0 ?_
  refine j_ldc2 (v := 27) kk_RX11_180 dX11_code4_3 ?_
  refine j_ldc2 (v := 27) kk_RX11_180 dX11_code4_6 ?_
  refine j_iload_n 0 dX11_code4_9 rfl rfl ?_
  refine j_i2l dX11_code4_10 ?_
  refine j_ldc2 (v := 96) kk_RX11_182 dX11_code4_11 ?_
  refine j_lsub dX11_code4_14 ?_
  refine j_lmul dX11_code4_15 ?_
  refine j_iload_n 1 dX11_code4_16 rfl rfl ?_
  refine j_i2l dX11_code4_17 ?_
  refine j_ladd dX11_code4_18 ?_
  refine j_ldc2 (v := 96) kk_RX11_182 dX11_code4_19 ?_
  refine j_lsub dX11_code4_22 ?_
  refine j_lmul dX11_code4_23 ?_
  refine j_iload_n 2 dX11_code4_24 rfl rfl ?_
  refine j_i2l dX11_code4_25 ?_
  refine j_ladd dX11_code4_26 ?_
  refine j_ldc2 (v := 96) kk_RX11_182 dX11_code4_27 ?_
  refine j_lsub dX11_code4_30 ?_
  refine j_lmul dX11_code4_31 ?_
  refine j_iload_n 3 dX11_code4_32 rfl rfl ?_
  refine j_i2l dX11_code4_33 ?_
  refine j_ladd dX11_code4_34 ?_
  refine j_ldc2 (v := 96) kk_RX11_182 dX11_code4_35 ?_
  refine j_lsub dX11_code4_38 ?_
  replace h := Option.some.inj h
  subst h
  obtain ⟨hr1, hr2⟩ := hr _ hK
  exact j_lret dX11_code4_39 hr1 hr2
theorem c_X11_code4 (g : Bool) (μ : jM) {x0 : Int32} {x1 : Int32} {x2 : Int32} {x3 : Int32} {r : Int64} (h : f_X11_code4 x0 x1 x2 x3 = some r) : Cn yX11_code4 cX11_code4 4 (some .long) 1 g [.int x0, .int x1, .int x2, .int x3] μ (some (.long r)) μ :=
  Cn_of (by decide) (Nat.le_refl _) (Nat.le_refl _) (Nat.le_of_ble_eq_true rfl) (f_X11_code4_ok (Kp := (fun o => o = r)) x0 x1 x2 x3 μ ⟨jbr _, jbr _⟩ (fun r2 q => by cases q; exact ⟨rfl, rfl⟩) _ h rfl)
def f_X11_fails (σ : jS) (x1 : Int32) (x2 : Int32) : Option (Int32 × jS) :=
  bV (sI σ 1 17 x2) fun σ1 =>
  some ((x1, σ1))
set_option maxHeartbeats 1000000 in
set_option maxRecDepth 20000 in
theorem f_X11_fails_ok {g : Bool} {rv : Option Value} {μ' : jM} (σ : jS) (x1 : Int32) (x2 : Int32) {Kp : (Int32 × jS) → Prop} (hn : Nat.ble nM μ'.1 = true ∧ Nat.ble wM μ'.2.1 = true) (hr : ∀ (r : Int32) (s : jS), Kp ((r, s)) → rv = some (.int r) ∧ μ' = eM s) (o : (Int32 × jS)) (h : f_X11_fails σ x1 x2 = some o) (hK : Kp o) : J yX11_fails cX11_fails 3 (some .int) 1 g rv μ' 0 [(0, .ref 1), (1, .int x1), (2, .int x2)] [] (eM σ) := by
  unfold f_X11_fails at h
  refine j_aload_n 0 dX11_fails_0 rfl rfl ?_
  refine j_iload_n 2 dX11_fails_1 rfl rfl ?_
  replace h := bV_inv h
  obtain ⟨σ2, eσ2, h⟩ := h
  refine j_putI 17 jC_10 dX11_fails_2 kg_RX11_40 (Or.inl ff_10_17) rfl fk_10_17 (fn_10_17 _) (okM_1 _) (shM_1 _) ?_
  refine j_mem (congrArg eM eσ2) ?_
  refine j_iload_n 1 dX11_fails_5 rfl rfl ?_
  replace h := Option.some.inj h
  subst h
  obtain ⟨hr1, hr2⟩ := hr _ _ hK
  exact j_iret dX11_fails_6 hr1 hr2
theorem c_X11_fails (g : Bool) {σ : jS} {x1 : Int32} {x2 : Int32} {r : Int32} {σ2 : jS} (h : f_X11_fails σ x1 x2 = some (r, σ2)) : Cn yX11_fails cX11_fails 3 (some .int) 1 g [.ref 1, .int x1, .int x2] (eM σ) (some (.int r)) (eM σ2) :=
  Cn_of (by decide) (Nat.le_refl _) (Nat.le_refl _) (Nat.le_of_ble_eq_true rfl) (f_X11_fails_ok (Kp := (fun o => o = (r, σ2))) σ x1 x2 ⟨jbr _, jbr _⟩ (fun r2 s2 q => by cases q; exact ⟨rfl, rfl⟩) _ h rfl)
def f_X11_longer (x0 : Int64) (x2 : Int32) : Option Int64 :=
  some (((((27 : Int64) * x0) + (x2.toInt64)) - (96 : Int64)))
set_option maxHeartbeats 1000000 in
set_option maxRecDepth 20000 in
theorem f_X11_longer_ok {g : Bool} {rv : Option Value} {μ' : jM} (x0 : Int64) (x2 : Int32) (μ : jM) {Kp : Int64 → Prop} (hn : Nat.ble μ.1 μ'.1 = true ∧ Nat.ble μ.2.1 μ'.2.1 = true) (hr : ∀ r : Int64, Kp (r) → rv = some (.long r) ∧ μ' = μ) (o : Int64) (h : f_X11_longer x0 x2 = some o) (hK : Kp o) : J yX11_longer cX11_longer 3 (some .long) 1 g rv μ' 0 [(0, .long x0), (2, .int x2)] [] μ := by
  unfold f_X11_longer at h
  refine j_ldc2 (v := 27) kk_RX11_180 dX11_longer_0 ?_
  refine j_lload_n 0 dX11_longer_3 rfl rfl ?_
  refine j_lmul dX11_longer_4 ?_
  refine j_iload_n 1 dX11_longer_5 rfl rfl ?_
  refine j_i2l dX11_longer_6 ?_
  refine j_ladd dX11_longer_7 ?_
  refine j_ldc2 (v := 96) kk_RX11_182 dX11_longer_8 ?_
  refine j_lsub dX11_longer_11 ?_
  replace h := Option.some.inj h
  subst h
  obtain ⟨hr1, hr2⟩ := hr _ hK
  exact j_lret dX11_longer_12 hr1 hr2
theorem c_X11_longer (g : Bool) (μ : jM) {x0 : Int64} {x2 : Int32} {r : Int64} (h : f_X11_longer x0 x2 = some r) : Cn yX11_longer cX11_longer 3 (some .long) 1 g [.long x0, .int x2] μ (some (.long r)) μ :=
  Cn_of (by decide) (Nat.le_refl _) (Nat.le_refl _) (Nat.le_of_ble_eq_true rfl) (f_X11_longer_ok (Kp := (fun o => o = r)) x0 x2 μ ⟨jbr _, jbr _⟩ (fun r2 q => by cases q; exact ⟨rfl, rfl⟩) _ h rfl)
def f_X11_readWord_J108 (σ : jS) : Option (Unit × jS) :=
  some (((), σ))
set_option maxHeartbeats 1000000 in
set_option maxRecDepth 20000 in
theorem f_X11_readWord_J108_ok {g : Bool} {rv : Option Value} {μ' : jM} (σ : jS) {Kp : (Unit × jS) → Prop} (hn : Nat.ble nM μ'.1 = true ∧ Nat.ble wM μ'.2.1 = true) (hr : ∀ (r : Unit) (s : jS), Kp ((r, s)) → rv = none ∧ μ' = eM s) (o : (Unit × jS)) (h : f_X11_readWord_J108 σ = some o) (hK : Kp o) : J yX11_readWord cX11_readWord 2 none 2 g rv μ' 108 [] [] (eM σ) := by
  unfold f_X11_readWord_J108 at h
  replace h := Option.some.inj h
  subst h
  obtain ⟨hr1, hr2⟩ := hr _ _ hK
  exact j_vret dX11_readWord_108 hr1 hr2
def f_X11_readWord_J92 (σ : jS) (y0 : Int64) : Option ((jS) ⊕ (Unit × jS)) :=
  bV (sL σ 1 19 y0) fun σ6 =>
  bV (sI σ6 1 20 ((gI σ6 1 20) + (1 : Int32))) fun σ7 =>
  some (.inl σ7)
set_option maxHeartbeats 1000000 in
set_option maxRecDepth 20000 in
theorem f_X11_readWord_J92_ok {g : Bool} {rv : Option Value} {μ' : jM} (σ : jS) (y0 : Int64) {Kp : ((jS) ⊕ (Unit × jS)) → Prop} (hn : Nat.ble nM μ'.1 = true ∧ Nat.ble wM μ'.2.1 = true) (hr : ∀ (r : Unit) (s : jS), Kp (.inr ((r, s))) → rv = none ∧ μ' = eM s) (hc0 : ∀ s : (jS), Kp (.inl s) → J yX11_readWord cX11_readWord 2 none 2 g rv μ' 18 [(0, .ref 1)] [] (eM s)) (o : ((jS) ⊕ (Unit × jS))) (h : f_X11_readWord_J92 σ y0 = some o) (hK : Kp o) : J yX11_readWord cX11_readWord 2 none 2 g rv μ' 92 [(0, .ref 1)] [.long y0, .ref 1] (eM σ) := by
  unfold f_X11_readWord_J92 at h
  replace h := bV_inv h
  obtain ⟨σ8, eσ8, h⟩ := h
  refine j_putL 19 jC_10 dX11_readWord_92 kg_RX11_165 (Or.inl ff_10_19) rfl fk_10_19 (fn_10_19 _) (okM_1 _) (shM_1 _) ?_
  refine j_mem (congrArg eM eσ8) ?_
  refine j_aload_n 0 dX11_readWord_95 rfl rfl ?_
  refine j_dup dX11_readWord_96 rfl ?_
  refine j_get (ci := 10) 20 (.int (gI σ8 1 20)) jC_10 dX11_readWord_97 kg_RX11_169 rfl (okM_1 _) (shM_1 _) (fvM_1_20 _) ?_
  refine j_iconst (v := 1) dX11_readWord_100 (by decide) ?_
  refine j_iadd dX11_readWord_101 ?_
  replace h := bV_inv h
  obtain ⟨σ9, eσ9, h⟩ := h
  refine j_putI 20 jC_10 dX11_readWord_102 kg_RX11_169 (Or.inl ff_10_20) rfl fk_10_20 (fn_10_20 _) (okM_1 _) (shM_1 _) ?_
  refine j_mem (congrArg eM eσ9) ?_
  refine j_goto 18 dX11_readWord_105 (by decide) ?_
  replace h := Option.some.inj h
  subst h
  exact hc0 _ hK
def f_X11_readWord_B18 (σ : jS) : Option ((jS) ⊕ (Unit × jS)) :=
  if (gI σ 1 16) ≤ (gI σ 1 20) then (jw (f_X11_readWord_J108 σ))
  else (bG (jin (gI σ 1 20) 500) (
  bC (f_X11_in ((gI σ 11 (ix (gI σ 1 20))).toInt64) 97 122) fun r5 =>
  if r5 = 0 then (jw (f_X11_readWord_J108 σ))
  else (if (lg_cmp (gL σ 1 19) 10000000000000) ≤ 0 then (bG (jin (gI σ 1 20) 500) (
  f_X11_readWord_J92 σ ((((27 : Int64) * (gL σ 1 19)) + ((gI σ 11 (ix (gI σ 1 20))).toInt64)) - (96 : Int64))))
  else (f_X11_readWord_J92 σ 20000000000000))))
set_option maxHeartbeats 1000000 in
set_option maxRecDepth 20000 in
theorem f_X11_readWord_B18_ok {g : Bool} {rv : Option Value} {μ' : jM} (σ : jS) {Kp : ((jS) ⊕ (Unit × jS)) → Prop} (hn : Nat.ble nM μ'.1 = true ∧ Nat.ble wM μ'.2.1 = true) (hr : ∀ (r : Unit) (s : jS), Kp (.inr ((r, s))) → rv = none ∧ μ' = eM s) (hc0 : ∀ s : (jS), Kp (.inl s) → J yX11_readWord cX11_readWord 2 none 2 g rv μ' 18 [(0, .ref 1)] [] (eM s)) (o : ((jS) ⊕ (Unit × jS))) (h : f_X11_readWord_B18 σ = some o) (hK : Kp o) : J yX11_readWord cX11_readWord 2 none 2 g rv μ' 18 [(0, .ref 1)] [] (eM σ) := by
  unfold f_X11_readWord_B18 at h
  refine j_aload_n 0 dX11_readWord_18 rfl rfl ?_
  refine j_get (ci := 10) 20 (.int (gI σ 1 20)) jC_10 dX11_readWord_19 kg_RX11_169 rfl (okM_1 _) (shM_1 _) (fvM_1_20 _) ?_
  refine j_aload_n 0 dX11_readWord_22 rfl rfl ?_
  refine j_get (ci := 10) 16 (.int (gI σ 1 16)) jC_10 dX11_readWord_23 kg_RX11_153 rfl (okM_1 _) (shM_1 _) (fvM_1_16 _) ?_
  refine j_icmp_ge 108 dX11_readWord_26 (by decide) (fun hc10 => ?_) (fun hc10 => ?_)
  · replace h := jif_t hc10 h
    replace h := jw_inv h
    obtain ⟨o11, rfl, h⟩ := h
    refine j_sub [] [] rfl ?_
    exact f_X11_readWord_J108_ok (Kp := fun o => Kp (.inr (o))) σ hn (fun r s q => hr r s q) _ h hK
  · replace h := jif_f hc10 h
    refine j_aload_n 0 dX11_readWord_29 rfl rfl ?_
    refine j_get (ci := 10) 15 (.ref 11) jC_10 dX11_readWord_30 kg_RX11_37 rfl (okM_1 _) (shM_1 _) (fvM_1_15 _) ?_
    refine j_aload_n 0 dX11_readWord_33 rfl rfl ?_
    refine j_get (ci := 10) 20 (.int (gI σ 1 20)) jC_10 dX11_readWord_34 kg_RX11_169 rfl (okM_1 _) (shM_1 _) (fvM_1_20 _) ?_
    replace h := bG_inv h
    obtain ⟨hi12, h⟩ := h
    refine j_iaload dX11_readWord_37 (okM_11 _) (shM_11 _) (jin_spec hi12) ?_
    refine j_i2l dX11_readWord_38 ?_
    refine j_ldc2 (v := 97) kk_RX11_172 dX11_readWord_39 ?_
    refine j_ldc2 (v := 122) kk_RX11_174 dX11_readWord_42 ?_
    replace h := bC_inv h
    obtain ⟨r13, cr13, h⟩ := h
    refine j_callS (st1 := .int r13 :: _) (c_X11_in g _ cr13) jy_X11_in kt_yX11_in kl_RX11_144 dX11_readWord_45 rfl rfl rfl rfl (jbr _) (jbr _) hn.1 hn.2 (Or.inr rfl) rfl ?_
    refine j_if_eq 108 dX11_readWord_48 (by decide) (fun hc14 => ?_) (fun hc14 => ?_)
    · replace h := jif_t hc14 h
      replace h := jw_inv h
      obtain ⟨o15, rfl, h⟩ := h
      refine j_sub [] [] rfl ?_
      exact f_X11_readWord_J108_ok (Kp := fun o => Kp (.inr (o))) σ hn (fun r s q => hr r s q) _ h hK
    · replace h := jif_f hc14 h
      refine j_aload_n 0 dX11_readWord_51 rfl rfl ?_
      refine j_aload_n 0 dX11_readWord_52 rfl rfl ?_
      refine j_get (ci := 10) 19 (.long (gL σ 1 19)) jC_10 dX11_readWord_53 kg_RX11_165 rfl (okM_1 _) (shM_1 _) (fvM_1_19 _) ?_
      refine j_ldc2 (v := 10000000000000) kk_RX11_176 dX11_readWord_56 ?_
      refine j_lcmp dX11_readWord_59 ?_
      refine j_if_le 69 dX11_readWord_60 (by decide) (fun hc16 => ?_) (fun hc16 => ?_)
      · replace h := jif_t hc16 h
        refine j_ldc2 (v := 27) kk_RX11_180 dX11_readWord_69 ?_
        refine j_aload_n 0 dX11_readWord_72 rfl rfl ?_
        refine j_get (ci := 10) 19 (.long (gL σ 1 19)) jC_10 dX11_readWord_73 kg_RX11_165 rfl (okM_1 _) (shM_1 _) (fvM_1_19 _) ?_
        refine j_lmul dX11_readWord_76 ?_
        refine j_aload_n 0 dX11_readWord_77 rfl rfl ?_
        refine j_get (ci := 10) 15 (.ref 11) jC_10 dX11_readWord_78 kg_RX11_37 rfl (okM_1 _) (shM_1 _) (fvM_1_15 _) ?_
        refine j_aload_n 0 dX11_readWord_81 rfl rfl ?_
        refine j_get (ci := 10) 20 (.int (gI σ 1 20)) jC_10 dX11_readWord_82 kg_RX11_169 rfl (okM_1 _) (shM_1 _) (fvM_1_20 _) ?_
        replace h := bG_inv h
        obtain ⟨hi17, h⟩ := h
        refine j_iaload dX11_readWord_85 (okM_11 _) (shM_11 _) (jin_spec hi17) ?_
        refine j_i2l dX11_readWord_86 ?_
        refine j_ladd dX11_readWord_87 ?_
        refine j_ldc2 (v := 96) kk_RX11_182 dX11_readWord_88 ?_
        refine j_lsub dX11_readWord_91 ?_
        exact f_X11_readWord_J92_ok σ ((((27 : Int64) * (gL σ 1 19)) + ((gI σ 11 (ix (gI σ 1 20))).toInt64)) - (96 : Int64)) hn hr hc0 _ h hK
      · replace h := jif_f hc16 h
        refine j_ldc2 (v := 20000000000000) kk_RX11_178 dX11_readWord_63 ?_
        refine j_goto 92 dX11_readWord_66 (by decide) ?_
        exact f_X11_readWord_J92_ok σ 20000000000000 hn hr hc0 _ h hK
def f_X11_readWord (σ : jS) : Option (Unit × jS) :=
  bD (f_X11_here σ) fun r1 σ2 =>
  bV (sL σ2 1 19 0) fun σ3 =>
  bV (sI σ3 1 20 (gI σ3 1 18)) fun σ4 =>
  jloop jFuel (fun s => f_X11_readWord_B18 s) σ4
set_option maxHeartbeats 1000000 in
set_option maxRecDepth 20000 in
theorem f_X11_readWord_ok {g : Bool} {rv : Option Value} {μ' : jM} (σ : jS) {Kp : (Unit × jS) → Prop} (hn : Nat.ble nM μ'.1 = true ∧ Nat.ble wM μ'.2.1 = true) (hr : ∀ (r : Unit) (s : jS), Kp ((r, s)) → rv = none ∧ μ' = eM s) (o : (Unit × jS)) (h : f_X11_readWord σ = some o) (hK : Kp o) : J yX11_readWord cX11_readWord 2 none 2 g rv μ' 0 [(0, .ref 1)] [] (eM σ) := by
  unfold f_X11_readWord at h
  refine j_aload_n 0 dX11_readWord_0 rfl rfl ?_
  replace h := bD_inv h
  obtain ⟨r18, σ19, cr18, h⟩ := h
  refine j_callV (ci := 10) (st1 := .int r18 :: _) (c_X11_here g cr18) jy_X11_here ki_yX11_here ks_yX11_here kl_RX11_161 dX11_readWord_1 rfl (okM_1 _) (shM_1 _) rfl rfl rfl rfl (jbr _) (jbr _) hn.1 hn.2 (Or.inr rfl) rfl ?_
  refine j_istore_n [(1, .int r18), (0, .ref 1)] dX11_readWord_4 rfl (Nat.le_of_ble_eq_true rfl) rfl ?_
  refine j_aload_n 1 dX11_readWord_5 rfl rfl ?_
  refine j_lconst (v := 0) dX11_readWord_6 (by decide) ?_
  replace h := bV_inv h
  obtain ⟨σ20, eσ20, h⟩ := h
  refine j_putL 19 jC_10 dX11_readWord_7 kg_RX11_165 (Or.inl ff_10_19) rfl fk_10_19 (fn_10_19 _) (okM_1 _) (shM_1 _) ?_
  refine j_mem (congrArg eM eσ20) ?_
  refine j_aload_n 1 dX11_readWord_10 rfl rfl ?_
  refine j_aload_n 1 dX11_readWord_11 rfl rfl ?_
  refine j_get (ci := 10) 18 (.int (gI σ20 1 18)) jC_10 dX11_readWord_12 kg_RX11_158 rfl (okM_1 _) (shM_1 _) (fvM_1_18 _) ?_
  replace h := bV_inv h
  obtain ⟨σ21, eσ21, h⟩ := h
  refine j_putI 20 jC_10 dX11_readWord_15 kg_RX11_169 (Or.inl ff_10_20) rfl fk_10_20 (fn_10_20 _) (okM_1 _) (shM_1 _) ?_
  refine j_mem (congrArg eM eσ21) ?_
  refine j_sub [(0, .ref 1)] [1] rfl ?_
  exact jloop_ok (fun s => f_X11_readWord_B18 s) (fun s => J yX11_readWord cX11_readWord 2 none 2 g rv μ' 18 [(0, .ref 1)] [] (eM s)) Kp (fun s o hb hk => f_X11_readWord_B18_ok (Kp := jsum (fun s => J yX11_readWord cX11_readWord 2 none 2 g rv μ' 18 [(0, .ref 1)] [] (eM s)) Kp) s hn (fun r s q => hr r s q) (fun s q => q) o hb hk) jFuel _ _ h hK
theorem c_X11_readWord (g : Bool) {σ : jS} {r : Unit} {σ2 : jS} (h : f_X11_readWord σ = some (r, σ2)) : Cn yX11_readWord cX11_readWord 2 none 2 g [.ref 1] (eM σ) none (eM σ2) :=
  Cn_of (by decide) (Nat.le_refl _) (Nat.le_refl _) (Nat.le_of_ble_eq_true rfl) (f_X11_readWord_ok (Kp := (fun o => o = (r, σ2))) σ ⟨jbr _, jbr _⟩ (fun r2 s2 q => by cases q; exact ⟨rfl, rfl⟩) _ h rfl)
def f_X11_takeNumber_J170 (σ : jS) (y0 : Int32) : Option (Int32 × jS) :=
  some ((y0, σ))
set_option maxHeartbeats 1000000 in
set_option maxRecDepth 20000 in
theorem f_X11_takeNumber_J170_ok {g : Bool} {rv : Option Value} {μ' : jM} (σ : jS) (y0 : Int32) {Kp : (Int32 × jS) → Prop} (hn : Nat.ble nM μ'.1 = true ∧ Nat.ble wM μ'.2.1 = true) (hr : ∀ (r : Int32) (s : jS), Kp ((r, s)) → rv = some (.int r) ∧ μ' = eM s) (o : (Int32 × jS)) (h : f_X11_takeNumber_J170 σ y0 = some o) (hK : Kp o) : J yX11_takeNumber cX11_takeNumber 4 (some .int) 2 g rv μ' 170 [] [.int y0] (eM σ) := by
  unfold f_X11_takeNumber_J170 at h
  replace h := Option.some.inj h
  subst h
  obtain ⟨hr1, hr2⟩ := hr _ _ hK
  exact j_iret dX11_takeNumber_170 hr1 hr2
def f_X11_takeNumber_J157 (σ : jS) : Option (Int32 × jS) :=
  bD (f_X11_fails σ 2 (gI σ 1 22)) fun r6 σ7 =>
  f_X11_takeNumber_J170 σ7 r6
set_option maxHeartbeats 1000000 in
set_option maxRecDepth 20000 in
theorem f_X11_takeNumber_J157_ok {g : Bool} {rv : Option Value} {μ' : jM} (σ : jS) {Kp : (Int32 × jS) → Prop} (hn : Nat.ble nM μ'.1 = true ∧ Nat.ble wM μ'.2.1 = true) (hr : ∀ (r : Int32) (s : jS), Kp ((r, s)) → rv = some (.int r) ∧ μ' = eM s) (o : (Int32 × jS)) (h : f_X11_takeNumber_J157 σ = some o) (hK : Kp o) : J yX11_takeNumber cX11_takeNumber 4 (some .int) 2 g rv μ' 157 [(0, .ref 1)] [] (eM σ) := by
  unfold f_X11_takeNumber_J157 at h
  refine j_aload_n 0 dX11_takeNumber_157 rfl rfl ?_
  refine j_iconst (v := 2) dX11_takeNumber_158 (by decide) ?_
  refine j_aload_n 0 dX11_takeNumber_159 rfl rfl ?_
  refine j_get (ci := 10) 22 (.int (gI σ 1 22)) jC_10 dX11_takeNumber_160 kg_RX11_192 rfl (okM_1 _) (shM_1 _) (fvM_1_22 _) ?_
  replace h := bD_inv h
  obtain ⟨r8, σ9, cr8, h⟩ := h
  refine j_callV (ci := 10) (st1 := .int r8 :: _) (c_X11_fails g cr8) jy_X11_fails ki_yX11_fails ks_yX11_fails kl_RX11_188 dX11_takeNumber_163 rfl (okM_1 _) (shM_1 _) rfl rfl rfl rfl (jbr _) (jbr _) hn.1 hn.2 (Or.inr rfl) rfl ?_
  refine j_goto 170 dX11_takeNumber_166 (by decide) ?_
  refine j_sub [] [] rfl ?_
  exact f_X11_takeNumber_J170_ok σ9 r8 hn hr _ h hK
def f_X11_takeNumber_J129 (σ : jS) (x1 : Int32) (x2 : Int32) : Option (Int32 × jS) :=
  if 2 < ((gI σ 1 18) - (gI σ 1 22)) then (f_X11_takeNumber_J157 σ)
  else (bC (f_X11_in ((gI σ 1 21).toInt64) (x1.toInt64) (x2.toInt64)) fun r10 =>
  if r10 = 0 then (f_X11_takeNumber_J157 σ)
  else (f_X11_takeNumber_J170 σ 0))
set_option maxHeartbeats 1000000 in
set_option maxRecDepth 20000 in
theorem f_X11_takeNumber_J129_ok {g : Bool} {rv : Option Value} {μ' : jM} (σ : jS) (x1 : Int32) (x2 : Int32) {Kp : (Int32 × jS) → Prop} (hn : Nat.ble nM μ'.1 = true ∧ Nat.ble wM μ'.2.1 = true) (hr : ∀ (r : Int32) (s : jS), Kp ((r, s)) → rv = some (.int r) ∧ μ' = eM s) (o : (Int32 × jS)) (h : f_X11_takeNumber_J129 σ x1 x2 = some o) (hK : Kp o) : J yX11_takeNumber cX11_takeNumber 4 (some .int) 2 g rv μ' 129 [(0, .ref 1), (1, .int x1), (2, .int x2)] [] (eM σ) := by
  unfold f_X11_takeNumber_J129 at h
  refine j_aload_n 0 dX11_takeNumber_129 rfl rfl ?_
  refine j_get (ci := 10) 18 (.int (gI σ 1 18)) jC_10 dX11_takeNumber_130 kg_RX11_158 rfl (okM_1 _) (shM_1 _) (fvM_1_18 _) ?_
  refine j_aload_n 0 dX11_takeNumber_133 rfl rfl ?_
  refine j_get (ci := 10) 22 (.int (gI σ 1 22)) jC_10 dX11_takeNumber_134 kg_RX11_192 rfl (okM_1 _) (shM_1 _) (fvM_1_22 _) ?_
  refine j_isub dX11_takeNumber_137 ?_
  refine j_iconst (v := 2) dX11_takeNumber_138 (by decide) ?_
  refine j_icmp_gt 157 dX11_takeNumber_139 (by decide) (fun hc11 => ?_) (fun hc11 => ?_)
  · replace h := jif_t hc11 h
    refine j_sub [(0, .ref 1)] [0] rfl ?_
    exact f_X11_takeNumber_J157_ok σ hn hr _ h hK
  · replace h := jif_f hc11 h
    refine j_aload_n 0 dX11_takeNumber_142 rfl rfl ?_
    refine j_get (ci := 10) 21 (.int (gI σ 1 21)) jC_10 dX11_takeNumber_143 kg_RX11_195 rfl (okM_1 _) (shM_1 _) (fvM_1_21 _) ?_
    refine j_i2l dX11_takeNumber_146 ?_
    refine j_iload_n 1 dX11_takeNumber_147 rfl rfl ?_
    refine j_i2l dX11_takeNumber_148 ?_
    refine j_iload_n 2 dX11_takeNumber_149 rfl rfl ?_
    refine j_i2l dX11_takeNumber_150 ?_
    replace h := bC_inv h
    obtain ⟨r12, cr12, h⟩ := h
    refine j_callS (st1 := .int r12 :: _) (c_X11_in g _ cr12) jy_X11_in kt_yX11_in kl_RX11_144 dX11_takeNumber_151 rfl rfl rfl rfl (jbr _) (jbr _) hn.1 hn.2 (Or.inr rfl) rfl ?_
    refine j_if_ne 169 dX11_takeNumber_154 (by decide) (fun hc13 => ?_) (fun hc13 => ?_)
    · replace h := jif_f hc13 h
      refine j_iconst (v := 0) dX11_takeNumber_169 (by decide) ?_
      refine j_sub [] [] rfl ?_
      exact f_X11_takeNumber_J170_ok σ 0 hn hr _ h hK
    · replace h := jif_t hc13 h
      refine j_sub [(0, .ref 1)] [0] rfl ?_
      exact f_X11_takeNumber_J157_ok σ hn hr _ h hK
def f_X11_takeNumber_J113 (σ : jS) (x1 : Int32) (x2 : Int32) (y0 : Int32) : Option ((jS) ⊕ (Int32 × jS)) :=
  bV (sI σ 1 21 y0) fun σ15 =>
  bV (sI σ15 1 18 ((gI σ15 1 18) + (1 : Int32))) fun σ16 =>
  some (.inl σ16)
set_option maxHeartbeats 1000000 in
set_option maxRecDepth 20000 in
theorem f_X11_takeNumber_J113_ok {g : Bool} {rv : Option Value} {μ' : jM} (σ : jS) (x1 : Int32) (x2 : Int32) (y0 : Int32) {Kp : ((jS) ⊕ (Int32 × jS)) → Prop} (hn : Nat.ble nM μ'.1 = true ∧ Nat.ble wM μ'.2.1 = true) (hr : ∀ (r : Int32) (s : jS), Kp (.inr ((r, s))) → rv = some (.int r) ∧ μ' = eM s) (hc0 : ∀ s : (jS), Kp (.inl s) → J yX11_takeNumber cX11_takeNumber 4 (some .int) 2 g rv μ' 42 [(0, .ref 1), (1, .int x1), (2, .int x2)] [] (eM s)) (o : ((jS) ⊕ (Int32 × jS))) (h : f_X11_takeNumber_J113 σ x1 x2 y0 = some o) (hK : Kp o) : J yX11_takeNumber cX11_takeNumber 4 (some .int) 2 g rv μ' 113 [(0, .ref 1), (1, .int x1), (2, .int x2)] [.int y0, .ref 1] (eM σ) := by
  unfold f_X11_takeNumber_J113 at h
  replace h := bV_inv h
  obtain ⟨σ17, eσ17, h⟩ := h
  refine j_putI 21 jC_10 dX11_takeNumber_113 kg_RX11_195 (Or.inl ff_10_21) rfl fk_10_21 (fn_10_21 _) (okM_1 _) (shM_1 _) ?_
  refine j_mem (congrArg eM eσ17) ?_
  refine j_aload_n 0 dX11_takeNumber_116 rfl rfl ?_
  refine j_dup dX11_takeNumber_117 rfl ?_
  refine j_get (ci := 10) 18 (.int (gI σ17 1 18)) jC_10 dX11_takeNumber_118 kg_RX11_158 rfl (okM_1 _) (shM_1 _) (fvM_1_18 _) ?_
  refine j_iconst (v := 1) dX11_takeNumber_121 (by decide) ?_
  refine j_iadd dX11_takeNumber_122 ?_
  replace h := bV_inv h
  obtain ⟨σ18, eσ18, h⟩ := h
  refine j_putI 18 jC_10 dX11_takeNumber_123 kg_RX11_158 (Or.inl ff_10_18) rfl fk_10_18 (fn_10_18 _) (okM_1 _) (shM_1 _) ?_
  refine j_mem (congrArg eM eσ18) ?_
  refine j_goto 42 dX11_takeNumber_126 (by decide) ?_
  replace h := Option.some.inj h
  subst h
  exact hc0 _ hK
def f_X11_takeNumber_B42 (σ : jS) (x1 : Int32) (x2 : Int32) : Option ((jS) ⊕ (Int32 × jS)) :=
  if (gI σ 1 16) ≤ (gI σ 1 18) then (jw (f_X11_takeNumber_J129 σ x1 x2))
  else (bG (jin (gI σ 1 18) 500) (
  bC (f_X11_in ((gI σ 11 (ix (gI σ 1 18))).toInt64) 48 57) fun r14 =>
  if r14 = 0 then (jw (f_X11_takeNumber_J129 σ x1 x2))
  else (if (gI σ 1 21) ≤ 1000 then (bG (jin (gI σ 1 18) 500) (
  f_X11_takeNumber_J113 σ x1 x2 ((((10 : Int32) * (gI σ 1 21)) + (gI σ 11 (ix (gI σ 1 18)))) - (48 : Int32))))
  else (f_X11_takeNumber_J113 σ x1 x2 (gI σ 1 21)))))
set_option maxHeartbeats 1000000 in
set_option maxRecDepth 20000 in
theorem f_X11_takeNumber_B42_ok {g : Bool} {rv : Option Value} {μ' : jM} (σ : jS) (x1 : Int32) (x2 : Int32) {Kp : ((jS) ⊕ (Int32 × jS)) → Prop} (hn : Nat.ble nM μ'.1 = true ∧ Nat.ble wM μ'.2.1 = true) (hr : ∀ (r : Int32) (s : jS), Kp (.inr ((r, s))) → rv = some (.int r) ∧ μ' = eM s) (hc0 : ∀ s : (jS), Kp (.inl s) → J yX11_takeNumber cX11_takeNumber 4 (some .int) 2 g rv μ' 42 [(0, .ref 1), (1, .int x1), (2, .int x2)] [] (eM s)) (o : ((jS) ⊕ (Int32 × jS))) (h : f_X11_takeNumber_B42 σ x1 x2 = some o) (hK : Kp o) : J yX11_takeNumber cX11_takeNumber 4 (some .int) 2 g rv μ' 42 [(0, .ref 1), (1, .int x1), (2, .int x2)] [] (eM σ) := by
  unfold f_X11_takeNumber_B42 at h
  refine j_aload_n 0 dX11_takeNumber_42 rfl rfl ?_
  refine j_get (ci := 10) 18 (.int (gI σ 1 18)) jC_10 dX11_takeNumber_43 kg_RX11_158 rfl (okM_1 _) (shM_1 _) (fvM_1_18 _) ?_
  refine j_aload_n 0 dX11_takeNumber_46 rfl rfl ?_
  refine j_get (ci := 10) 16 (.int (gI σ 1 16)) jC_10 dX11_takeNumber_47 kg_RX11_153 rfl (okM_1 _) (shM_1 _) (fvM_1_16 _) ?_
  refine j_icmp_ge 129 dX11_takeNumber_50 (by decide) (fun hc19 => ?_) (fun hc19 => ?_)
  · replace h := jif_t hc19 h
    replace h := jw_inv h
    obtain ⟨o20, rfl, h⟩ := h
    exact f_X11_takeNumber_J129_ok (Kp := fun o => Kp (.inr (o))) σ x1 x2 hn (fun r s q => hr r s q) _ h hK
  · replace h := jif_f hc19 h
    refine j_aload_n 0 dX11_takeNumber_53 rfl rfl ?_
    refine j_get (ci := 10) 15 (.ref 11) jC_10 dX11_takeNumber_54 kg_RX11_37 rfl (okM_1 _) (shM_1 _) (fvM_1_15 _) ?_
    refine j_aload_n 0 dX11_takeNumber_57 rfl rfl ?_
    refine j_get (ci := 10) 18 (.int (gI σ 1 18)) jC_10 dX11_takeNumber_58 kg_RX11_158 rfl (okM_1 _) (shM_1 _) (fvM_1_18 _) ?_
    replace h := bG_inv h
    obtain ⟨hi21, h⟩ := h
    refine j_iaload dX11_takeNumber_61 (okM_11 _) (shM_11 _) (jin_spec hi21) ?_
    refine j_i2l dX11_takeNumber_62 ?_
    refine j_ldc2 (v := 48) kk_RX11_184 dX11_takeNumber_63 ?_
    refine j_ldc2 (v := 57) kk_RX11_186 dX11_takeNumber_66 ?_
    replace h := bC_inv h
    obtain ⟨r22, cr22, h⟩ := h
    refine j_callS (st1 := .int r22 :: _) (c_X11_in g _ cr22) jy_X11_in kt_yX11_in kl_RX11_144 dX11_takeNumber_69 rfl rfl rfl rfl (jbr _) (jbr _) hn.1 hn.2 (Or.inr rfl) rfl ?_
    refine j_if_eq 129 dX11_takeNumber_72 (by decide) (fun hc23 => ?_) (fun hc23 => ?_)
    · replace h := jif_t hc23 h
      replace h := jw_inv h
      obtain ⟨o24, rfl, h⟩ := h
      exact f_X11_takeNumber_J129_ok (Kp := fun o => Kp (.inr (o))) σ x1 x2 hn (fun r s q => hr r s q) _ h hK
    · replace h := jif_f hc23 h
      refine j_aload_n 0 dX11_takeNumber_75 rfl rfl ?_
      refine j_aload_n 0 dX11_takeNumber_76 rfl rfl ?_
      refine j_get (ci := 10) 21 (.int (gI σ 1 21)) jC_10 dX11_takeNumber_77 kg_RX11_195 rfl (okM_1 _) (shM_1 _) (fvM_1_21 _) ?_
      refine j_sipush (v := 1000) dX11_takeNumber_80 (by decide) ?_
      refine j_icmp_le 93 dX11_takeNumber_83 (by decide) (fun hc25 => ?_) (fun hc25 => ?_)
      · replace h := jif_t hc25 h
        refine j_bipush (v := 10) dX11_takeNumber_93 (by decide) ?_
        refine j_aload_n 0 dX11_takeNumber_95 rfl rfl ?_
        refine j_get (ci := 10) 21 (.int (gI σ 1 21)) jC_10 dX11_takeNumber_96 kg_RX11_195 rfl (okM_1 _) (shM_1 _) (fvM_1_21 _) ?_
        refine j_imul dX11_takeNumber_99 ?_
        refine j_aload_n 0 dX11_takeNumber_100 rfl rfl ?_
        refine j_get (ci := 10) 15 (.ref 11) jC_10 dX11_takeNumber_101 kg_RX11_37 rfl (okM_1 _) (shM_1 _) (fvM_1_15 _) ?_
        refine j_aload_n 0 dX11_takeNumber_104 rfl rfl ?_
        refine j_get (ci := 10) 18 (.int (gI σ 1 18)) jC_10 dX11_takeNumber_105 kg_RX11_158 rfl (okM_1 _) (shM_1 _) (fvM_1_18 _) ?_
        replace h := bG_inv h
        obtain ⟨hi26, h⟩ := h
        refine j_iaload dX11_takeNumber_108 (okM_11 _) (shM_11 _) (jin_spec hi26) ?_
        refine j_iadd dX11_takeNumber_109 ?_
        refine j_bipush (v := 48) dX11_takeNumber_110 (by decide) ?_
        refine j_isub dX11_takeNumber_112 ?_
        exact f_X11_takeNumber_J113_ok σ x1 x2 ((((10 : Int32) * (gI σ 1 21)) + (gI σ 11 (ix (gI σ 1 18)))) - (48 : Int32)) hn hr hc0 _ h hK
      · replace h := jif_f hc25 h
        refine j_aload_n 0 dX11_takeNumber_86 rfl rfl ?_
        refine j_get (ci := 10) 21 (.int (gI σ 1 21)) jC_10 dX11_takeNumber_87 kg_RX11_195 rfl (okM_1 _) (shM_1 _) (fvM_1_21 _) ?_
        refine j_goto 113 dX11_takeNumber_90 (by decide) ?_
        exact f_X11_takeNumber_J113_ok σ x1 x2 (gI σ 1 21) hn hr hc0 _ h hK
def f_X11_takeNumber (σ : jS) (x1 : Int32) (x2 : Int32) : Option (Int32 × jS) :=
  bD (f_X11_here σ) fun r1 σ2 =>
  bC (f_X11_in (r1.toInt64) 48 57) fun r3 =>
  if r3 = 0 then (bD (f_X11_fails σ2 1 (gI σ2 1 18)) fun r27 σ28 =>
  some ((r27, σ28)))
  else (bV (sI σ2 1 22 (gI σ2 1 18)) fun σ4 =>
  bV (sI σ4 1 21 0) fun σ5 =>
  jloop jFuel (fun s => f_X11_takeNumber_B42 s x1 x2) σ5)
set_option maxHeartbeats 1000000 in
set_option maxRecDepth 20000 in
theorem f_X11_takeNumber_ok {g : Bool} {rv : Option Value} {μ' : jM} (σ : jS) (x1 : Int32) (x2 : Int32) {Kp : (Int32 × jS) → Prop} (hn : Nat.ble nM μ'.1 = true ∧ Nat.ble wM μ'.2.1 = true) (hr : ∀ (r : Int32) (s : jS), Kp ((r, s)) → rv = some (.int r) ∧ μ' = eM s) (o : (Int32 × jS)) (h : f_X11_takeNumber σ x1 x2 = some o) (hK : Kp o) : J yX11_takeNumber cX11_takeNumber 4 (some .int) 2 g rv μ' 0 [(0, .ref 1), (1, .int x1), (2, .int x2)] [] (eM σ) := by
  unfold f_X11_takeNumber at h
  refine j_aload_n 0 dX11_takeNumber_0 rfl rfl ?_
  replace h := bD_inv h
  obtain ⟨r29, σ30, cr29, h⟩ := h
  refine j_callV (ci := 10) (st1 := .int r29 :: _) (c_X11_here g cr29) jy_X11_here ki_yX11_here ks_yX11_here kl_RX11_161 dX11_takeNumber_1 rfl (okM_1 _) (shM_1 _) rfl rfl rfl rfl (jbr _) (jbr _) hn.1 hn.2 (Or.inr rfl) rfl ?_
  refine j_istore_n [(3, .int r29), (0, .ref 1), (1, .int x1), (2, .int x2)] dX11_takeNumber_4 rfl (Nat.le_of_ble_eq_true rfl) rfl ?_
  refine j_iload_n 0 dX11_takeNumber_5 rfl rfl ?_
  refine j_i2l dX11_takeNumber_6 ?_
  refine j_ldc2 (v := 48) kk_RX11_184 dX11_takeNumber_7 ?_
  refine j_ldc2 (v := 57) kk_RX11_186 dX11_takeNumber_10 ?_
  replace h := bC_inv h
  obtain ⟨r31, cr31, h⟩ := h
  refine j_callS (st1 := .int r31 :: _) (c_X11_in g _ cr31) jy_X11_in kt_yX11_in kl_RX11_144 dX11_takeNumber_13 rfl rfl rfl rfl (jbr _) (jbr _) hn.1 hn.2 (Or.inr rfl) rfl ?_
  refine j_if_ne 29 dX11_takeNumber_16 (by decide) (fun hc32 => ?_) (fun hc32 => ?_)
  · replace h := jif_f hc32 h
    refine j_aload_n 1 dX11_takeNumber_29 rfl rfl ?_
    refine j_aload_n 1 dX11_takeNumber_30 rfl rfl ?_
    refine j_get (ci := 10) 18 (.int (gI σ30 1 18)) jC_10 dX11_takeNumber_31 kg_RX11_158 rfl (okM_1 _) (shM_1 _) (fvM_1_18 _) ?_
    replace h := bV_inv h
    obtain ⟨σ33, eσ33, h⟩ := h
    refine j_putI 22 jC_10 dX11_takeNumber_34 kg_RX11_192 (Or.inl ff_10_22) rfl fk_10_22 (fn_10_22 _) (okM_1 _) (shM_1 _) ?_
    refine j_mem (congrArg eM eσ33) ?_
    refine j_aload_n 1 dX11_takeNumber_37 rfl rfl ?_
    refine j_iconst (v := 0) dX11_takeNumber_38 (by decide) ?_
    replace h := bV_inv h
    obtain ⟨σ34, eσ34, h⟩ := h
    refine j_putI 21 jC_10 dX11_takeNumber_39 kg_RX11_195 (Or.inl ff_10_21) rfl fk_10_21 (fn_10_21 _) (okM_1 _) (shM_1 _) ?_
    refine j_mem (congrArg eM eσ34) ?_
    refine j_sub [(0, .ref 1), (1, .int x1), (2, .int x2)] [1, 2, 3] rfl ?_
    exact jloop_ok (fun s => f_X11_takeNumber_B42 s x1 x2) (fun s => J yX11_takeNumber cX11_takeNumber 4 (some .int) 2 g rv μ' 42 [(0, .ref 1), (1, .int x1), (2, .int x2)] [] (eM s)) Kp (fun s o hb hk => f_X11_takeNumber_B42_ok (Kp := jsum (fun s => J yX11_takeNumber cX11_takeNumber 4 (some .int) 2 g rv μ' 42 [(0, .ref 1), (1, .int x1), (2, .int x2)] [] (eM s)) Kp) s x1 x2 hn (fun r s q => hr r s q) (fun s q => q) o hb hk) jFuel _ _ h hK
  · replace h := jif_t hc32 h
    refine j_aload_n 1 dX11_takeNumber_19 rfl rfl ?_
    refine j_iconst (v := 1) dX11_takeNumber_20 (by decide) ?_
    refine j_aload_n 1 dX11_takeNumber_21 rfl rfl ?_
    refine j_get (ci := 10) 18 (.int (gI σ30 1 18)) jC_10 dX11_takeNumber_22 kg_RX11_158 rfl (okM_1 _) (shM_1 _) (fvM_1_18 _) ?_
    replace h := bD_inv h
    obtain ⟨r35, σ36, cr35, h⟩ := h
    refine j_callV (ci := 10) (st1 := .int r35 :: _) (c_X11_fails g cr35) jy_X11_fails ki_yX11_fails ks_yX11_fails kl_RX11_188 dX11_takeNumber_25 rfl (okM_1 _) (shM_1 _) rfl rfl rfl rfl (jbr _) (jbr _) hn.1 hn.2 (Or.inr rfl) rfl ?_
    replace h := Option.some.inj h
    subst h
    obtain ⟨hr1, hr2⟩ := hr _ _ hK
    exact j_iret dX11_takeNumber_28 hr1 hr2
theorem c_X11_takeNumber (g : Bool) {σ : jS} {x1 : Int32} {x2 : Int32} {r : Int32} {σ2 : jS} (h : f_X11_takeNumber σ x1 x2 = some (r, σ2)) : Cn yX11_takeNumber cX11_takeNumber 4 (some .int) 2 g [.ref 1, .int x1, .int x2] (eM σ) (some (.int r)) (eM σ2) :=
  Cn_of (by decide) (Nat.le_refl _) (Nat.le_refl _) (Nat.le_of_ble_eq_true rfl) (f_X11_takeNumber_ok (Kp := (fun o => o = (r, σ2))) σ x1 x2 ⟨jbr _, jbr _⟩ (fun r2 s2 q => by cases q; exact ⟨rfl, rfl⟩) _ h rfl)
def f_X11_takeTwo_J226 (σ : jS) (y0 : Int32) : Option (Int32 × jS) :=
  some ((y0, σ))
set_option maxHeartbeats 1000000 in
set_option maxRecDepth 20000 in
theorem f_X11_takeTwo_J226_ok {g : Bool} {rv : Option Value} {μ' : jM} (σ : jS) (y0 : Int32) {Kp : (Int32 × jS) → Prop} (hn : Nat.ble nM μ'.1 = true ∧ Nat.ble wM μ'.2.1 = true) (hr : ∀ (r : Int32) (s : jS), Kp ((r, s)) → rv = some (.int r) ∧ μ' = eM s) (o : (Int32 × jS)) (h : f_X11_takeTwo_J226 σ y0 = some o) (hK : Kp o) : J yX11_takeTwo cX11_takeTwo 5 (some .int) 3 g rv μ' 226 [] [.int y0] (eM σ) := by
  unfold f_X11_takeTwo_J226 at h
  replace h := Option.some.inj h
  subst h
  obtain ⟨hr1, hr2⟩ := hr _ _ hK
  exact j_iret dX11_takeTwo_226 hr1 hr2
def f_X11_takeTwo_J209 (σ : jS) (x3 : Int32) : Option (Int32 × jS) :=
  if x3 = 0 then (f_X11_takeTwo_J226 σ 0)
  else (bD (f_X11_fails σ 4 (gI σ 1 22)) fun r7 σ8 =>
  f_X11_takeTwo_J226 σ8 r7)
set_option maxHeartbeats 1000000 in
set_option maxRecDepth 20000 in
theorem f_X11_takeTwo_J209_ok {g : Bool} {rv : Option Value} {μ' : jM} (σ : jS) (x3 : Int32) {Kp : (Int32 × jS) → Prop} (hn : Nat.ble nM μ'.1 = true ∧ Nat.ble wM μ'.2.1 = true) (hr : ∀ (r : Int32) (s : jS), Kp ((r, s)) → rv = some (.int r) ∧ μ' = eM s) (o : (Int32 × jS)) (h : f_X11_takeTwo_J209 σ x3 = some o) (hK : Kp o) : J yX11_takeTwo cX11_takeTwo 5 (some .int) 3 g rv μ' 209 [(0, .ref 1), (3, .int x3)] [] (eM σ) := by
  unfold f_X11_takeTwo_J209 at h
  refine j_iload_n 1 dX11_takeTwo_209 rfl rfl ?_
  refine j_if_eq 225 dX11_takeTwo_210 (by decide) (fun hc9 => ?_) (fun hc9 => ?_)
  · replace h := jif_t hc9 h
    refine j_iconst (v := 0) dX11_takeTwo_225 (by decide) ?_
    refine j_sub [] [] rfl ?_
    exact f_X11_takeTwo_J226_ok σ 0 hn hr _ h hK
  · replace h := jif_f hc9 h
    refine j_aload_n 0 dX11_takeTwo_213 rfl rfl ?_
    refine j_iconst (v := 4) dX11_takeTwo_214 (by decide) ?_
    refine j_aload_n 0 dX11_takeTwo_215 rfl rfl ?_
    refine j_get (ci := 10) 22 (.int (gI σ 1 22)) jC_10 dX11_takeTwo_216 kg_RX11_192 rfl (okM_1 _) (shM_1 _) (fvM_1_22 _) ?_
    replace h := bD_inv h
    obtain ⟨r10, σ11, cr10, h⟩ := h
    refine j_callV (ci := 10) (st1 := .int r10 :: _) (c_X11_fails g cr10) jy_X11_fails ki_yX11_fails ks_yX11_fails kl_RX11_188 dX11_takeTwo_219 rfl (okM_1 _) (shM_1 _) rfl rfl rfl rfl (jbr _) (jbr _) hn.1 hn.2 (Or.inr rfl) rfl ?_
    refine j_goto 226 dX11_takeTwo_222 (by decide) ?_
    refine j_sub [] [] rfl ?_
    exact f_X11_takeTwo_J226_ok σ11 r10 hn hr _ h hK
def f_X11_takeTwo_J202 (σ : jS) (x1 : Int32) (x4 : Int32) (y0 : Int32) : Option ((Int32 × Int32 × jS) ⊕ (Int32 × jS)) :=
  bV (x4 + 1) fun v12 =>
  some (.inl (y0, v12, σ))
set_option maxHeartbeats 1000000 in
set_option maxRecDepth 20000 in
theorem f_X11_takeTwo_J202_ok {g : Bool} {rv : Option Value} {μ' : jM} (σ : jS) (x1 : Int32) (x4 : Int32) (y0 : Int32) {Kp : ((Int32 × Int32 × jS) ⊕ (Int32 × jS)) → Prop} (hn : Nat.ble nM μ'.1 = true ∧ Nat.ble wM μ'.2.1 = true) (hr : ∀ (r : Int32) (s : jS), Kp (.inr ((r, s))) → rv = some (.int r) ∧ μ' = eM s) (hc0 : ∀ s : (Int32 × Int32 × jS), Kp (.inl s) → J yX11_takeTwo cX11_takeTwo 5 (some .int) 3 g rv μ' 135 [(0, .ref 1), (1, .int x1), (3, .int s.1), (4, .int s.2.1)] [] (eM s.2.2)) (o : ((Int32 × Int32 × jS) ⊕ (Int32 × jS))) (h : f_X11_takeTwo_J202 σ x1 x4 y0 = some o) (hK : Kp o) : J yX11_takeTwo cX11_takeTwo 5 (some .int) 3 g rv μ' 202 [(0, .ref 1), (1, .int x1), (4, .int x4)] [.int y0] (eM σ) := by
  unfold f_X11_takeTwo_J202 at h
  refine j_istore_n [(3, .int y0), (0, .ref 1), (1, .int x1), (4, .int x4)] dX11_takeTwo_202 rfl (Nat.le_of_ble_eq_true rfl) rfl ?_
  replace h := bV_inv h
  obtain ⟨v13, ev13, h⟩ := h
  refine j_iinc (v := v13) [(4, .int v13), (3, .int y0), (0, .ref 1), (1, .int x1)] 3 dX11_takeTwo_203 rfl (by rw [ev13]; rfl) (Nat.le_of_ble_eq_true rfl) rfl ?_
  refine j_goto 135 dX11_takeTwo_206 (by decide) ?_
  replace h := Option.some.inj h
  subst h
  refine j_sub [(0, .ref 1), (1, .int x1), (3, .int y0), (4, .int v13)] [2, 3, 1, 0] rfl ?_
  exact hc0 _ hK
def f_X11_takeTwo_J197 (σ : jS) (x1 : Int32) (x4 : Int32) : Option ((Int32 × Int32 × jS) ⊕ (Int32 × jS)) :=
  f_X11_takeTwo_J202 σ x1 x4 1
set_option maxHeartbeats 1000000 in
set_option maxRecDepth 20000 in
theorem f_X11_takeTwo_J197_ok {g : Bool} {rv : Option Value} {μ' : jM} (σ : jS) (x1 : Int32) (x4 : Int32) {Kp : ((Int32 × Int32 × jS) ⊕ (Int32 × jS)) → Prop} (hn : Nat.ble nM μ'.1 = true ∧ Nat.ble wM μ'.2.1 = true) (hr : ∀ (r : Int32) (s : jS), Kp (.inr ((r, s))) → rv = some (.int r) ∧ μ' = eM s) (hc0 : ∀ s : (Int32 × Int32 × jS), Kp (.inl s) → J yX11_takeTwo cX11_takeTwo 5 (some .int) 3 g rv μ' 135 [(0, .ref 1), (1, .int x1), (3, .int s.1), (4, .int s.2.1)] [] (eM s.2.2)) (o : ((Int32 × Int32 × jS) ⊕ (Int32 × jS))) (h : f_X11_takeTwo_J197 σ x1 x4 = some o) (hK : Kp o) : J yX11_takeTwo cX11_takeTwo 5 (some .int) 3 g rv μ' 197 [(0, .ref 1), (1, .int x1), (4, .int x4)] [] (eM σ) := by
  unfold f_X11_takeTwo_J197 at h
  refine j_iconst (v := 1) dX11_takeTwo_197 (by decide) ?_
  refine j_goto 202 dX11_takeTwo_198 (by decide) ?_
  exact f_X11_takeTwo_J202_ok σ x1 x4 1 hn hr hc0 _ h hK
def f_X11_takeTwo_J201 (σ : jS) (x1 : Int32) (x4 : Int32) : Option ((Int32 × Int32 × jS) ⊕ (Int32 × jS)) :=
  f_X11_takeTwo_J202 σ x1 x4 0
set_option maxHeartbeats 1000000 in
set_option maxRecDepth 20000 in
theorem f_X11_takeTwo_J201_ok {g : Bool} {rv : Option Value} {μ' : jM} (σ : jS) (x1 : Int32) (x4 : Int32) {Kp : ((Int32 × Int32 × jS) ⊕ (Int32 × jS)) → Prop} (hn : Nat.ble nM μ'.1 = true ∧ Nat.ble wM μ'.2.1 = true) (hr : ∀ (r : Int32) (s : jS), Kp (.inr ((r, s))) → rv = some (.int r) ∧ μ' = eM s) (hc0 : ∀ s : (Int32 × Int32 × jS), Kp (.inl s) → J yX11_takeTwo cX11_takeTwo 5 (some .int) 3 g rv μ' 135 [(0, .ref 1), (1, .int x1), (3, .int s.1), (4, .int s.2.1)] [] (eM s.2.2)) (o : ((Int32 × Int32 × jS) ⊕ (Int32 × jS))) (h : f_X11_takeTwo_J201 σ x1 x4 = some o) (hK : Kp o) : J yX11_takeTwo cX11_takeTwo 5 (some .int) 3 g rv μ' 201 [(0, .ref 1), (1, .int x1), (4, .int x4)] [] (eM σ) := by
  unfold f_X11_takeTwo_J201 at h
  refine j_iconst (v := 0) dX11_takeTwo_201 (by decide) ?_
  exact f_X11_takeTwo_J202_ok σ x1 x4 0 hn hr hc0 _ h hK
def f_X11_takeTwo_B135 (σ : jS) (x1 : Int32) (x3 : Int32) (x4 : Int32) : Option ((Int32 × Int32 × jS) ⊕ (Int32 × jS)) :=
  if (gI σ 1 28) ≤ x4 then (jw (f_X11_takeTwo_J209 σ x3))
  else (if x3 = 0 then (if x1 = 2 then (bG (jin x4 120) (
  if (gI σ 15 (ix x4)) = (((100 : Int32) * (gI σ 1 33)) + (gI σ 1 34)) then (f_X11_takeTwo_J197 σ x1 x4)
  else (bG (jin x4 120) (
  if (gI σ 15 (ix x4)) = (((100 : Int32) * (gI σ 1 34)) + (gI σ 1 33)) then (f_X11_takeTwo_J197 σ x1 x4)
  else (f_X11_takeTwo_J201 σ x1 x4)))))
  else (f_X11_takeTwo_J201 σ x1 x4))
  else (f_X11_takeTwo_J197 σ x1 x4))
set_option maxHeartbeats 1000000 in
set_option maxRecDepth 20000 in
theorem f_X11_takeTwo_B135_ok {g : Bool} {rv : Option Value} {μ' : jM} (σ : jS) (x1 : Int32) (x3 : Int32) (x4 : Int32) {Kp : ((Int32 × Int32 × jS) ⊕ (Int32 × jS)) → Prop} (hn : Nat.ble nM μ'.1 = true ∧ Nat.ble wM μ'.2.1 = true) (hr : ∀ (r : Int32) (s : jS), Kp (.inr ((r, s))) → rv = some (.int r) ∧ μ' = eM s) (hc0 : ∀ s : (Int32 × Int32 × jS), Kp (.inl s) → J yX11_takeTwo cX11_takeTwo 5 (some .int) 3 g rv μ' 135 [(0, .ref 1), (1, .int x1), (3, .int s.1), (4, .int s.2.1)] [] (eM s.2.2)) (o : ((Int32 × Int32 × jS) ⊕ (Int32 × jS))) (h : f_X11_takeTwo_B135 σ x1 x3 x4 = some o) (hK : Kp o) : J yX11_takeTwo cX11_takeTwo 5 (some .int) 3 g rv μ' 135 [(0, .ref 1), (1, .int x1), (3, .int x3), (4, .int x4)] [] (eM σ) := by
  unfold f_X11_takeTwo_B135 at h
  refine j_iload 3 dX11_takeTwo_135 rfl ?_
  refine j_aload_n 0 dX11_takeTwo_137 rfl rfl ?_
  refine j_get (ci := 10) 28 (.int (gI σ 1 28)) jC_10 dX11_takeTwo_138 kg_RX11_213 rfl (okM_1 _) (shM_1 _) (fvM_1_28 _) ?_
  refine j_icmp_ge 209 dX11_takeTwo_141 (by decide) (fun hc14 => ?_) (fun hc14 => ?_)
  · replace h := jif_t hc14 h
    replace h := jw_inv h
    obtain ⟨o15, rfl, h⟩ := h
    refine j_sub [(0, .ref 1), (3, .int x3)] [0, 2] rfl ?_
    exact f_X11_takeTwo_J209_ok (Kp := fun o => Kp (.inr (o))) σ x3 hn (fun r s q => hr r s q) _ h hK
  · replace h := jif_f hc14 h
    refine j_iload_n 2 dX11_takeTwo_144 rfl rfl ?_
    refine j_if_ne 197 dX11_takeTwo_145 (by decide) (fun hc16 => ?_) (fun hc16 => ?_)
    · replace h := jif_f hc16 h
      refine j_sub [(0, .ref 1), (1, .int x1), (4, .int x4)] [0, 1, 3] rfl ?_
      exact f_X11_takeTwo_J197_ok σ x1 x4 hn hr hc0 _ h hK
    · replace h := jif_t hc16 h
      refine j_iload_n 1 dX11_takeTwo_148 rfl rfl ?_
      refine j_iconst (v := 2) dX11_takeTwo_149 (by decide) ?_
      refine j_icmp_ne 201 dX11_takeTwo_150 (by decide) (fun hc17 => ?_) (fun hc17 => ?_)
      · replace h := jif_f hc17 h
        refine j_sub [(0, .ref 1), (1, .int x1), (4, .int x4)] [0, 1, 3] rfl ?_
        exact f_X11_takeTwo_J201_ok σ x1 x4 hn hr hc0 _ h hK
      · replace h := jif_t hc17 h
        refine j_aload_n 0 dX11_takeTwo_153 rfl rfl ?_
        refine j_get (ci := 10) 29 (.ref 15) jC_10 dX11_takeTwo_154 kg_RX11_53 rfl (okM_1 _) (shM_1 _) (fvM_1_29 _) ?_
        refine j_iload 3 dX11_takeTwo_157 rfl ?_
        replace h := bG_inv h
        obtain ⟨hi18, h⟩ := h
        refine j_iaload dX11_takeTwo_159 (okM_15 _) (shM_15 _) (jin_spec hi18) ?_
        refine j_bipush (v := 100) dX11_takeTwo_160 (by decide) ?_
        refine j_aload_n 0 dX11_takeTwo_162 rfl rfl ?_
        refine j_get (ci := 10) 33 (.int (gI σ 1 33)) jC_10 dX11_takeTwo_163 kg_RX11_204 rfl (okM_1 _) (shM_1 _) (fvM_1_33 _) ?_
        refine j_imul dX11_takeTwo_166 ?_
        refine j_aload_n 0 dX11_takeTwo_167 rfl rfl ?_
        refine j_get (ci := 10) 34 (.int (gI σ 1 34)) jC_10 dX11_takeTwo_168 kg_RX11_207 rfl (okM_1 _) (shM_1 _) (fvM_1_34 _) ?_
        refine j_iadd dX11_takeTwo_171 ?_
        refine j_icmp_eq 197 dX11_takeTwo_172 (by decide) (fun hc19 => ?_) (fun hc19 => ?_)
        · replace h := jif_t hc19 h
          refine j_sub [(0, .ref 1), (1, .int x1), (4, .int x4)] [0, 1, 3] rfl ?_
          exact f_X11_takeTwo_J197_ok σ x1 x4 hn hr hc0 _ h hK
        · replace h := jif_f hc19 h
          refine j_aload_n 0 dX11_takeTwo_175 rfl rfl ?_
          refine j_get (ci := 10) 29 (.ref 15) jC_10 dX11_takeTwo_176 kg_RX11_53 rfl (okM_1 _) (shM_1 _) (fvM_1_29 _) ?_
          refine j_iload 3 dX11_takeTwo_179 rfl ?_
          replace h := bG_inv h
          obtain ⟨hi20, h⟩ := h
          refine j_iaload dX11_takeTwo_181 (okM_15 _) (shM_15 _) (jin_spec hi20) ?_
          refine j_bipush (v := 100) dX11_takeTwo_182 (by decide) ?_
          refine j_aload_n 0 dX11_takeTwo_184 rfl rfl ?_
          refine j_get (ci := 10) 34 (.int (gI σ 1 34)) jC_10 dX11_takeTwo_185 kg_RX11_207 rfl (okM_1 _) (shM_1 _) (fvM_1_34 _) ?_
          refine j_imul dX11_takeTwo_188 ?_
          refine j_aload_n 0 dX11_takeTwo_189 rfl rfl ?_
          refine j_get (ci := 10) 33 (.int (gI σ 1 33)) jC_10 dX11_takeTwo_190 kg_RX11_204 rfl (okM_1 _) (shM_1 _) (fvM_1_33 _) ?_
          refine j_iadd dX11_takeTwo_193 ?_
          refine j_icmp_ne 201 dX11_takeTwo_194 (by decide) (fun hc21 => ?_) (fun hc21 => ?_)
          · replace h := jif_f hc21 h
            refine j_sub [(0, .ref 1), (1, .int x1), (4, .int x4)] [0, 1, 3] rfl ?_
            exact f_X11_takeTwo_J201_ok σ x1 x4 hn hr hc0 _ h hK
          · replace h := jif_t hc21 h
            refine j_sub [(0, .ref 1), (1, .int x1), (4, .int x4)] [0, 1, 3] rfl ?_
            exact f_X11_takeTwo_J197_ok σ x1 x4 hn hr hc0 _ h hK
def f_X11_takeTwo_J132 (σ : jS) (x1 : Int32) (x3 : Int32) : Option (Int32 × jS) :=
  jloop jFuel (fun s => f_X11_takeTwo_B135 s.2.2 x1 s.1 s.2.1) (x3, 0, σ)
set_option maxHeartbeats 1000000 in
set_option maxRecDepth 20000 in
theorem f_X11_takeTwo_J132_ok {g : Bool} {rv : Option Value} {μ' : jM} (σ : jS) (x1 : Int32) (x3 : Int32) {Kp : (Int32 × jS) → Prop} (hn : Nat.ble nM μ'.1 = true ∧ Nat.ble wM μ'.2.1 = true) (hr : ∀ (r : Int32) (s : jS), Kp ((r, s)) → rv = some (.int r) ∧ μ' = eM s) (o : (Int32 × jS)) (h : f_X11_takeTwo_J132 σ x1 x3 = some o) (hK : Kp o) : J yX11_takeTwo cX11_takeTwo 5 (some .int) 3 g rv μ' 132 [(0, .ref 1), (1, .int x1), (3, .int x3)] [] (eM σ) := by
  unfold f_X11_takeTwo_J132 at h
  refine j_iconst (v := 0) dX11_takeTwo_132 (by decide) ?_
  refine j_istore [(4, .int 0), (0, .ref 1), (1, .int x1), (3, .int x3)] dX11_takeTwo_133 (Nat.le_of_ble_eq_true rfl) rfl ?_
  refine j_sub [(0, .ref 1), (1, .int x1), (3, .int x3), (4, .int 0)] [1, 2, 3, 0] rfl ?_
  exact jloop_ok (fun s => f_X11_takeTwo_B135 s.2.2 x1 s.1 s.2.1) (fun s => J yX11_takeTwo cX11_takeTwo 5 (some .int) 3 g rv μ' 135 [(0, .ref 1), (1, .int x1), (3, .int s.1), (4, .int s.2.1)] [] (eM s.2.2)) Kp (fun s o hb hk => f_X11_takeTwo_B135_ok (Kp := jsum (fun s => J yX11_takeTwo cX11_takeTwo 5 (some .int) 3 g rv μ' 135 [(0, .ref 1), (1, .int x1), (3, .int s.1), (4, .int s.2.1)] [] (eM s.2.2)) Kp) s.2.2 x1 s.1 s.2.1 hn (fun r s q => hr r s q) (fun s q => q) o hb hk) jFuel _ _ h hK
def f_X11_takeTwo_J125 (σ : jS) (x1 : Int32) (x4 : Int32) (y0 : Int32) : Option ((Int32 × Int32 × jS) ⊕ (Int32 × jS)) :=
  bV (x4 + 1) fun v22 =>
  some (.inl (y0, v22, σ))
set_option maxHeartbeats 1000000 in
set_option maxRecDepth 20000 in
theorem f_X11_takeTwo_J125_ok {g : Bool} {rv : Option Value} {μ' : jM} (σ : jS) (x1 : Int32) (x4 : Int32) (y0 : Int32) {Kp : ((Int32 × Int32 × jS) ⊕ (Int32 × jS)) → Prop} (hn : Nat.ble nM μ'.1 = true ∧ Nat.ble wM μ'.2.1 = true) (hr : ∀ (r : Int32) (s : jS), Kp (.inr ((r, s))) → rv = some (.int r) ∧ μ' = eM s) (hc0 : ∀ s : (Int32 × Int32 × jS), Kp (.inl s) → J yX11_takeTwo cX11_takeTwo 5 (some .int) 3 g rv μ' 74 [(0, .ref 1), (1, .int x1), (3, .int s.1), (4, .int s.2.1)] [] (eM s.2.2)) (o : ((Int32 × Int32 × jS) ⊕ (Int32 × jS))) (h : f_X11_takeTwo_J125 σ x1 x4 y0 = some o) (hK : Kp o) : J yX11_takeTwo cX11_takeTwo 5 (some .int) 3 g rv μ' 125 [(0, .ref 1), (1, .int x1), (4, .int x4)] [.int y0] (eM σ) := by
  unfold f_X11_takeTwo_J125 at h
  refine j_istore_n [(3, .int y0), (0, .ref 1), (1, .int x1), (4, .int x4)] dX11_takeTwo_125 rfl (Nat.le_of_ble_eq_true rfl) rfl ?_
  replace h := bV_inv h
  obtain ⟨v23, ev23, h⟩ := h
  refine j_iinc (v := v23) [(4, .int v23), (3, .int y0), (0, .ref 1), (1, .int x1)] 3 dX11_takeTwo_126 rfl (by rw [ev23]; rfl) (Nat.le_of_ble_eq_true rfl) rfl ?_
  refine j_goto 74 dX11_takeTwo_129 (by decide) ?_
  replace h := Option.some.inj h
  subst h
  refine j_sub [(0, .ref 1), (1, .int x1), (3, .int y0), (4, .int v23)] [2, 3, 1, 0] rfl ?_
  exact hc0 _ hK
def f_X11_takeTwo_J120 (σ : jS) (x1 : Int32) (x4 : Int32) : Option ((Int32 × Int32 × jS) ⊕ (Int32 × jS)) :=
  f_X11_takeTwo_J125 σ x1 x4 1
set_option maxHeartbeats 1000000 in
set_option maxRecDepth 20000 in
theorem f_X11_takeTwo_J120_ok {g : Bool} {rv : Option Value} {μ' : jM} (σ : jS) (x1 : Int32) (x4 : Int32) {Kp : ((Int32 × Int32 × jS) ⊕ (Int32 × jS)) → Prop} (hn : Nat.ble nM μ'.1 = true ∧ Nat.ble wM μ'.2.1 = true) (hr : ∀ (r : Int32) (s : jS), Kp (.inr ((r, s))) → rv = some (.int r) ∧ μ' = eM s) (hc0 : ∀ s : (Int32 × Int32 × jS), Kp (.inl s) → J yX11_takeTwo cX11_takeTwo 5 (some .int) 3 g rv μ' 74 [(0, .ref 1), (1, .int x1), (3, .int s.1), (4, .int s.2.1)] [] (eM s.2.2)) (o : ((Int32 × Int32 × jS) ⊕ (Int32 × jS))) (h : f_X11_takeTwo_J120 σ x1 x4 = some o) (hK : Kp o) : J yX11_takeTwo cX11_takeTwo 5 (some .int) 3 g rv μ' 120 [(0, .ref 1), (1, .int x1), (4, .int x4)] [] (eM σ) := by
  unfold f_X11_takeTwo_J120 at h
  refine j_iconst (v := 1) dX11_takeTwo_120 (by decide) ?_
  refine j_goto 125 dX11_takeTwo_121 (by decide) ?_
  exact f_X11_takeTwo_J125_ok σ x1 x4 1 hn hr hc0 _ h hK
def f_X11_takeTwo_J124 (σ : jS) (x1 : Int32) (x4 : Int32) : Option ((Int32 × Int32 × jS) ⊕ (Int32 × jS)) :=
  f_X11_takeTwo_J125 σ x1 x4 0
set_option maxHeartbeats 1000000 in
set_option maxRecDepth 20000 in
theorem f_X11_takeTwo_J124_ok {g : Bool} {rv : Option Value} {μ' : jM} (σ : jS) (x1 : Int32) (x4 : Int32) {Kp : ((Int32 × Int32 × jS) ⊕ (Int32 × jS)) → Prop} (hn : Nat.ble nM μ'.1 = true ∧ Nat.ble wM μ'.2.1 = true) (hr : ∀ (r : Int32) (s : jS), Kp (.inr ((r, s))) → rv = some (.int r) ∧ μ' = eM s) (hc0 : ∀ s : (Int32 × Int32 × jS), Kp (.inl s) → J yX11_takeTwo cX11_takeTwo 5 (some .int) 3 g rv μ' 74 [(0, .ref 1), (1, .int x1), (3, .int s.1), (4, .int s.2.1)] [] (eM s.2.2)) (o : ((Int32 × Int32 × jS) ⊕ (Int32 × jS))) (h : f_X11_takeTwo_J124 σ x1 x4 = some o) (hK : Kp o) : J yX11_takeTwo cX11_takeTwo 5 (some .int) 3 g rv μ' 124 [(0, .ref 1), (1, .int x1), (4, .int x4)] [] (eM σ) := by
  unfold f_X11_takeTwo_J124 at h
  refine j_iconst (v := 0) dX11_takeTwo_124 (by decide) ?_
  exact f_X11_takeTwo_J125_ok σ x1 x4 0 hn hr hc0 _ h hK
def f_X11_takeTwo_B74 (σ : jS) (x1 : Int32) (x3 : Int32) (x4 : Int32) : Option ((Int32 × Int32 × jS) ⊕ (Int32 × jS)) :=
  if (gI σ 1 25) ≤ x4 then (jw (f_X11_takeTwo_J132 σ x1 x3))
  else (if x3 = 0 then (if x1 = 1 then (bG (jin x4 40) (
  if (gI σ 13 (ix x4)) = (gI σ 1 33) then (bG (jin x4 40) (
  if (gI σ 14 (ix x4)) = (gI σ 1 34) then (f_X11_takeTwo_J120 σ x1 x4)
  else (f_X11_takeTwo_J124 σ x1 x4)))
  else (f_X11_takeTwo_J124 σ x1 x4)))
  else (f_X11_takeTwo_J124 σ x1 x4))
  else (f_X11_takeTwo_J120 σ x1 x4))
set_option maxHeartbeats 1000000 in
set_option maxRecDepth 20000 in
theorem f_X11_takeTwo_B74_ok {g : Bool} {rv : Option Value} {μ' : jM} (σ : jS) (x1 : Int32) (x3 : Int32) (x4 : Int32) {Kp : ((Int32 × Int32 × jS) ⊕ (Int32 × jS)) → Prop} (hn : Nat.ble nM μ'.1 = true ∧ Nat.ble wM μ'.2.1 = true) (hr : ∀ (r : Int32) (s : jS), Kp (.inr ((r, s))) → rv = some (.int r) ∧ μ' = eM s) (hc0 : ∀ s : (Int32 × Int32 × jS), Kp (.inl s) → J yX11_takeTwo cX11_takeTwo 5 (some .int) 3 g rv μ' 74 [(0, .ref 1), (1, .int x1), (3, .int s.1), (4, .int s.2.1)] [] (eM s.2.2)) (o : ((Int32 × Int32 × jS) ⊕ (Int32 × jS))) (h : f_X11_takeTwo_B74 σ x1 x3 x4 = some o) (hK : Kp o) : J yX11_takeTwo cX11_takeTwo 5 (some .int) 3 g rv μ' 74 [(0, .ref 1), (1, .int x1), (3, .int x3), (4, .int x4)] [] (eM σ) := by
  unfold f_X11_takeTwo_B74 at h
  refine j_iload 3 dX11_takeTwo_74 rfl ?_
  refine j_aload_n 0 dX11_takeTwo_76 rfl rfl ?_
  refine j_get (ci := 10) 25 (.int (gI σ 1 25)) jC_10 dX11_takeTwo_77 kg_RX11_210 rfl (okM_1 _) (shM_1 _) (fvM_1_25 _) ?_
  refine j_icmp_ge 132 dX11_takeTwo_80 (by decide) (fun hc24 => ?_) (fun hc24 => ?_)
  · replace h := jif_t hc24 h
    replace h := jw_inv h
    obtain ⟨o25, rfl, h⟩ := h
    refine j_sub [(0, .ref 1), (1, .int x1), (3, .int x3)] [0, 1, 2] rfl ?_
    exact f_X11_takeTwo_J132_ok (Kp := fun o => Kp (.inr (o))) σ x1 x3 hn (fun r s q => hr r s q) _ h hK
  · replace h := jif_f hc24 h
    refine j_iload_n 2 dX11_takeTwo_83 rfl rfl ?_
    refine j_if_ne 120 dX11_takeTwo_84 (by decide) (fun hc26 => ?_) (fun hc26 => ?_)
    · replace h := jif_f hc26 h
      refine j_sub [(0, .ref 1), (1, .int x1), (4, .int x4)] [0, 1, 3] rfl ?_
      exact f_X11_takeTwo_J120_ok σ x1 x4 hn hr hc0 _ h hK
    · replace h := jif_t hc26 h
      refine j_iload_n 1 dX11_takeTwo_87 rfl rfl ?_
      refine j_iconst (v := 1) dX11_takeTwo_88 (by decide) ?_
      refine j_icmp_ne 124 dX11_takeTwo_89 (by decide) (fun hc27 => ?_) (fun hc27 => ?_)
      · replace h := jif_f hc27 h
        refine j_sub [(0, .ref 1), (1, .int x1), (4, .int x4)] [0, 1, 3] rfl ?_
        exact f_X11_takeTwo_J124_ok σ x1 x4 hn hr hc0 _ h hK
      · replace h := jif_t hc27 h
        refine j_aload_n 0 dX11_takeTwo_92 rfl rfl ?_
        refine j_get (ci := 10) 26 (.ref 13) jC_10 dX11_takeTwo_93 kg_RX11_47 rfl (okM_1 _) (shM_1 _) (fvM_1_26 _) ?_
        refine j_iload 3 dX11_takeTwo_96 rfl ?_
        replace h := bG_inv h
        obtain ⟨hi28, h⟩ := h
        refine j_iaload dX11_takeTwo_98 (okM_13 _) (shM_13 _) (jin_spec hi28) ?_
        refine j_aload_n 0 dX11_takeTwo_99 rfl rfl ?_
        refine j_get (ci := 10) 33 (.int (gI σ 1 33)) jC_10 dX11_takeTwo_100 kg_RX11_204 rfl (okM_1 _) (shM_1 _) (fvM_1_33 _) ?_
        refine j_icmp_ne 124 dX11_takeTwo_103 (by decide) (fun hc29 => ?_) (fun hc29 => ?_)
        · replace h := jif_f hc29 h
          refine j_sub [(0, .ref 1), (1, .int x1), (4, .int x4)] [0, 1, 3] rfl ?_
          exact f_X11_takeTwo_J124_ok σ x1 x4 hn hr hc0 _ h hK
        · replace h := jif_t hc29 h
          refine j_aload_n 0 dX11_takeTwo_106 rfl rfl ?_
          refine j_get (ci := 10) 27 (.ref 14) jC_10 dX11_takeTwo_107 kg_RX11_50 rfl (okM_1 _) (shM_1 _) (fvM_1_27 _) ?_
          refine j_iload 3 dX11_takeTwo_110 rfl ?_
          replace h := bG_inv h
          obtain ⟨hi30, h⟩ := h
          refine j_iaload dX11_takeTwo_112 (okM_14 _) (shM_14 _) (jin_spec hi30) ?_
          refine j_aload_n 0 dX11_takeTwo_113 rfl rfl ?_
          refine j_get (ci := 10) 34 (.int (gI σ 1 34)) jC_10 dX11_takeTwo_114 kg_RX11_207 rfl (okM_1 _) (shM_1 _) (fvM_1_34 _) ?_
          refine j_icmp_ne 124 dX11_takeTwo_117 (by decide) (fun hc31 => ?_) (fun hc31 => ?_)
          · replace h := jif_f hc31 h
            refine j_sub [(0, .ref 1), (1, .int x1), (4, .int x4)] [0, 1, 3] rfl ?_
            exact f_X11_takeTwo_J124_ok σ x1 x4 hn hr hc0 _ h hK
          · replace h := jif_t hc31 h
            refine j_sub [(0, .ref 1), (1, .int x1), (4, .int x4)] [0, 1, 3] rfl ?_
            exact f_X11_takeTwo_J120_ok σ x1 x4 hn hr hc0 _ h hK
def f_X11_takeTwo_J70 (σ : jS) (x1 : Int32) (y0 : Int32) : Option (Int32 × jS) :=
  jloop jFuel (fun s => f_X11_takeTwo_B74 s.2.2 x1 s.1 s.2.1) (y0, 0, σ)
set_option maxHeartbeats 1000000 in
set_option maxRecDepth 20000 in
theorem f_X11_takeTwo_J70_ok {g : Bool} {rv : Option Value} {μ' : jM} (σ : jS) (x1 : Int32) (y0 : Int32) {Kp : (Int32 × jS) → Prop} (hn : Nat.ble nM μ'.1 = true ∧ Nat.ble wM μ'.2.1 = true) (hr : ∀ (r : Int32) (s : jS), Kp ((r, s)) → rv = some (.int r) ∧ μ' = eM s) (o : (Int32 × jS)) (h : f_X11_takeTwo_J70 σ x1 y0 = some o) (hK : Kp o) : J yX11_takeTwo cX11_takeTwo 5 (some .int) 3 g rv μ' 70 [(0, .ref 1), (1, .int x1)] [.int y0] (eM σ) := by
  unfold f_X11_takeTwo_J70 at h
  refine j_istore_n [(3, .int y0), (0, .ref 1), (1, .int x1)] dX11_takeTwo_70 rfl (Nat.le_of_ble_eq_true rfl) rfl ?_
  refine j_iconst (v := 0) dX11_takeTwo_71 (by decide) ?_
  refine j_istore [(4, .int 0), (3, .int y0), (0, .ref 1), (1, .int x1)] dX11_takeTwo_72 (Nat.le_of_ble_eq_true rfl) rfl ?_
  refine j_sub [(0, .ref 1), (1, .int x1), (3, .int y0), (4, .int 0)] [2, 3, 1, 0] rfl ?_
  exact jloop_ok (fun s => f_X11_takeTwo_B74 s.2.2 x1 s.1 s.2.1) (fun s => J yX11_takeTwo cX11_takeTwo 5 (some .int) 3 g rv μ' 74 [(0, .ref 1), (1, .int x1), (3, .int s.1), (4, .int s.2.1)] [] (eM s.2.2)) Kp (fun s o hb hk => f_X11_takeTwo_B74_ok (Kp := jsum (fun s => J yX11_takeTwo cX11_takeTwo 5 (some .int) 3 g rv μ' 74 [(0, .ref 1), (1, .int x1), (3, .int s.1), (4, .int s.2.1)] [] (eM s.2.2)) Kp) s.2.2 x1 s.1 s.2.1 hn (fun r s q => hr r s q) (fun s q => q) o hb hk) jFuel _ _ h hK
def f_X11_takeTwo_J39 (σ : jS) (x1 : Int32) (y0 : Int32) : Option (Int32 × jS) :=
  bV (sI σ 1 34 (gI σ 1 21)) fun σ6 =>
  if y0 ≤ 0 then (if (gI σ6 1 33) = (gI σ6 1 34) then (f_X11_takeTwo_J70 σ6 x1 1)
  else (f_X11_takeTwo_J70 σ6 x1 0))
  else (some ((y0, σ6)))
set_option maxHeartbeats 1000000 in
set_option maxRecDepth 20000 in
theorem f_X11_takeTwo_J39_ok {g : Bool} {rv : Option Value} {μ' : jM} (σ : jS) (x1 : Int32) (y0 : Int32) {Kp : (Int32 × jS) → Prop} (hn : Nat.ble nM μ'.1 = true ∧ Nat.ble wM μ'.2.1 = true) (hr : ∀ (r : Int32) (s : jS), Kp ((r, s)) → rv = some (.int r) ∧ μ' = eM s) (o : (Int32 × jS)) (h : f_X11_takeTwo_J39 σ x1 y0 = some o) (hK : Kp o) : J yX11_takeTwo cX11_takeTwo 5 (some .int) 3 g rv μ' 39 [(0, .ref 1), (1, .int x1)] [.int y0] (eM σ) := by
  unfold f_X11_takeTwo_J39 at h
  refine j_istore_n [(2, .int y0), (0, .ref 1), (1, .int x1)] dX11_takeTwo_39 rfl (Nat.le_of_ble_eq_true rfl) rfl ?_
  refine j_aload_n 1 dX11_takeTwo_40 rfl rfl ?_
  refine j_aload_n 1 dX11_takeTwo_41 rfl rfl ?_
  refine j_get (ci := 10) 21 (.int (gI σ 1 21)) jC_10 dX11_takeTwo_42 kg_RX11_195 rfl (okM_1 _) (shM_1 _) (fvM_1_21 _) ?_
  replace h := bV_inv h
  obtain ⟨σ32, eσ32, h⟩ := h
  refine j_putI 34 jC_10 dX11_takeTwo_45 kg_RX11_207 (Or.inl ff_10_34) rfl fk_10_34 (fn_10_34 _) (okM_1 _) (shM_1 _) ?_
  refine j_mem (congrArg eM eσ32) ?_
  refine j_iload_n 0 dX11_takeTwo_48 rfl rfl ?_
  refine j_if_le 54 dX11_takeTwo_49 (by decide) (fun hc33 => ?_) (fun hc33 => ?_)
  · replace h := jif_t hc33 h
    refine j_aload_n 1 dX11_takeTwo_54 rfl rfl ?_
    refine j_get (ci := 10) 33 (.int (gI σ32 1 33)) jC_10 dX11_takeTwo_55 kg_RX11_204 rfl (okM_1 _) (shM_1 _) (fvM_1_33 _) ?_
    refine j_aload_n 1 dX11_takeTwo_58 rfl rfl ?_
    refine j_get (ci := 10) 34 (.int (gI σ32 1 34)) jC_10 dX11_takeTwo_59 kg_RX11_207 rfl (okM_1 _) (shM_1 _) (fvM_1_34 _) ?_
    refine j_icmp_ne 69 dX11_takeTwo_62 (by decide) (fun hc34 => ?_) (fun hc34 => ?_)
    · replace h := jif_f hc34 h
      refine j_iconst (v := 0) dX11_takeTwo_69 (by decide) ?_
      refine j_sub [(0, .ref 1), (1, .int x1)] [1, 2] rfl ?_
      exact f_X11_takeTwo_J70_ok σ32 x1 0 hn hr _ h hK
    · replace h := jif_t hc34 h
      refine j_iconst (v := 1) dX11_takeTwo_65 (by decide) ?_
      refine j_goto 70 dX11_takeTwo_66 (by decide) ?_
      refine j_sub [(0, .ref 1), (1, .int x1)] [1, 2] rfl ?_
      exact f_X11_takeTwo_J70_ok σ32 x1 1 hn hr _ h hK
  · replace h := jif_f hc33 h
    refine j_iload_n 0 dX11_takeTwo_52 rfl rfl ?_
    replace h := Option.some.inj h
    subst h
    obtain ⟨hr1, hr2⟩ := hr _ _ hK
    exact j_iret dX11_takeTwo_53 hr1 hr2
def f_X11_takeTwo (σ : jS) (x1 : Int32) : Option (Int32 × jS) :=
  bD (f_X11_takeNumber σ 0 ((gI σ 1 23) - (1 : Int32))) fun r1 σ2 =>
  bV (sI σ2 1 33 (gI σ2 1 21)) fun σ3 =>
  if r1 ≤ 0 then (bD (f_X11_takeNumber σ3 0 ((gI σ3 1 23) - (1 : Int32))) fun r4 σ5 =>
  f_X11_takeTwo_J39 σ5 x1 r4)
  else (f_X11_takeTwo_J39 σ3 x1 r1)
set_option maxHeartbeats 1000000 in
set_option maxRecDepth 20000 in
theorem f_X11_takeTwo_ok {g : Bool} {rv : Option Value} {μ' : jM} (σ : jS) (x1 : Int32) {Kp : (Int32 × jS) → Prop} (hn : Nat.ble nM μ'.1 = true ∧ Nat.ble wM μ'.2.1 = true) (hr : ∀ (r : Int32) (s : jS), Kp ((r, s)) → rv = some (.int r) ∧ μ' = eM s) (o : (Int32 × jS)) (h : f_X11_takeTwo σ x1 = some o) (hK : Kp o) : J yX11_takeTwo cX11_takeTwo 5 (some .int) 3 g rv μ' 0 [(0, .ref 1), (1, .int x1)] [] (eM σ) := by
  unfold f_X11_takeTwo at h
  refine j_aload_n 0 dX11_takeTwo_0 rfl rfl ?_
  refine j_iconst (v := 0) dX11_takeTwo_1 (by decide) ?_
  refine j_aload_n 0 dX11_takeTwo_2 rfl rfl ?_
  refine j_get (ci := 10) 23 (.int (gI σ 1 23)) jC_10 dX11_takeTwo_3 kg_RX11_198 rfl (okM_1 _) (shM_1 _) (fvM_1_23 _) ?_
  refine j_iconst (v := 1) dX11_takeTwo_6 (by decide) ?_
  refine j_isub dX11_takeTwo_7 ?_
  replace h := bD_inv h
  obtain ⟨r35, σ36, cr35, h⟩ := h
  refine j_callV (ci := 10) (st1 := .int r35 :: _) (c_X11_takeNumber g cr35) jy_X11_takeNumber ki_yX11_takeNumber ks_yX11_takeNumber kl_RX11_201 dX11_takeTwo_8 rfl (okM_1 _) (shM_1 _) rfl rfl rfl rfl (jbr _) (jbr _) hn.1 hn.2 (Or.inr rfl) rfl ?_
  refine j_istore_n [(2, .int r35), (0, .ref 1), (1, .int x1)] dX11_takeTwo_11 rfl (Nat.le_of_ble_eq_true rfl) rfl ?_
  refine j_aload_n 1 dX11_takeTwo_12 rfl rfl ?_
  refine j_aload_n 1 dX11_takeTwo_13 rfl rfl ?_
  refine j_get (ci := 10) 21 (.int (gI σ36 1 21)) jC_10 dX11_takeTwo_14 kg_RX11_195 rfl (okM_1 _) (shM_1 _) (fvM_1_21 _) ?_
  replace h := bV_inv h
  obtain ⟨σ37, eσ37, h⟩ := h
  refine j_putI 33 jC_10 dX11_takeTwo_17 kg_RX11_204 (Or.inl ff_10_33) rfl fk_10_33 (fn_10_33 _) (okM_1 _) (shM_1 _) ?_
  refine j_mem (congrArg eM eσ37) ?_
  refine j_iload_n 0 dX11_takeTwo_20 rfl rfl ?_
  refine j_if_le 28 dX11_takeTwo_21 (by decide) (fun hc38 => ?_) (fun hc38 => ?_)
  · replace h := jif_t hc38 h
    refine j_aload_n 1 dX11_takeTwo_28 rfl rfl ?_
    refine j_iconst (v := 0) dX11_takeTwo_29 (by decide) ?_
    refine j_aload_n 1 dX11_takeTwo_30 rfl rfl ?_
    refine j_get (ci := 10) 23 (.int (gI σ37 1 23)) jC_10 dX11_takeTwo_31 kg_RX11_198 rfl (okM_1 _) (shM_1 _) (fvM_1_23 _) ?_
    refine j_iconst (v := 1) dX11_takeTwo_34 (by decide) ?_
    refine j_isub dX11_takeTwo_35 ?_
    replace h := bD_inv h
    obtain ⟨r39, σ40, cr39, h⟩ := h
    refine j_callV (ci := 10) (st1 := .int r39 :: _) (c_X11_takeNumber g cr39) jy_X11_takeNumber ki_yX11_takeNumber ks_yX11_takeNumber kl_RX11_201 dX11_takeTwo_36 rfl (okM_1 _) (shM_1 _) rfl rfl rfl rfl (jbr _) (jbr _) hn.1 hn.2 (Or.inr rfl) rfl ?_
    refine j_sub [(0, .ref 1), (1, .int x1)] [1, 2] rfl ?_
    exact f_X11_takeTwo_J39_ok σ40 x1 r39 hn hr _ h hK
  · replace h := jif_f hc38 h
    refine j_iload_n 0 dX11_takeTwo_24 rfl rfl ?_
    refine j_goto 39 dX11_takeTwo_25 (by decide) ?_
    refine j_sub [(0, .ref 1), (1, .int x1)] [1, 2] rfl ?_
    exact f_X11_takeTwo_J39_ok σ37 x1 r35 hn hr _ h hK
theorem c_X11_takeTwo (g : Bool) {σ : jS} {x1 : Int32} {r : Int32} {σ2 : jS} (h : f_X11_takeTwo σ x1 = some (r, σ2)) : Cn yX11_takeTwo cX11_takeTwo 5 (some .int) 3 g [.ref 1, .int x1] (eM σ) (some (.int r)) (eM σ2) :=
  Cn_of (by decide) (Nat.le_refl _) (Nat.le_refl _) (Nat.le_of_ble_eq_true rfl) (f_X11_takeTwo_ok (Kp := (fun o => o = (r, σ2))) σ x1 ⟨jbr _, jbr _⟩ (fun r2 s2 q => by cases q; exact ⟨rfl, rfl⟩) _ h rfl)
def f_X11_takeClause_J380 (σ : jS) : Option (Int32 × jS) :=
  bD (f_X11_here σ) fun r20 σ21 =>
  if r20 = 59 then (bV (sI σ21 1 18 ((gI σ21 1 18) + (1 : Int32))) fun σ22 =>
  some ((0, σ22)))
  else (bD (f_X11_fails σ21 1 (gI σ21 1 18)) fun r23 σ24 =>
  some ((r23, σ24)))
set_option maxHeartbeats 1000000 in
set_option maxRecDepth 20000 in
theorem f_X11_takeClause_J380_ok {g : Bool} {rv : Option Value} {μ' : jM} (σ : jS) {Kp : (Int32 × jS) → Prop} (hn : Nat.ble nM μ'.1 = true ∧ Nat.ble wM μ'.2.1 = true) (hr : ∀ (r : Int32) (s : jS), Kp ((r, s)) → rv = some (.int r) ∧ μ' = eM s) (o : (Int32 × jS)) (h : f_X11_takeClause_J380 σ = some o) (hK : Kp o) : J yX11_takeClause cX11_takeClause 3 (some .int) 4 g rv μ' 380 [(0, .ref 1)] [] (eM σ) := by
  unfold f_X11_takeClause_J380 at h
  refine j_aload_n 0 dX11_takeClause_380 rfl rfl ?_
  replace h := bD_inv h
  obtain ⟨r25, σ26, cr25, h⟩ := h
  refine j_callV (ci := 10) (st1 := .int r25 :: _) (c_X11_here g cr25) jy_X11_here ki_yX11_here ks_yX11_here kl_RX11_161 dX11_takeClause_381 rfl (okM_1 _) (shM_1 _) rfl rfl rfl rfl (jbr _) (jbr _) hn.1 hn.2 (Or.inr rfl) rfl ?_
  refine j_bipush (v := 59) dX11_takeClause_384 (by decide) ?_
  refine j_icmp_eq 399 dX11_takeClause_386 (by decide) (fun hc27 => ?_) (fun hc27 => ?_)
  · replace h := jif_t hc27 h
    refine j_aload_n 0 dX11_takeClause_399 rfl rfl ?_
    refine j_dup dX11_takeClause_400 rfl ?_
    refine j_get (ci := 10) 18 (.int (gI σ26 1 18)) jC_10 dX11_takeClause_401 kg_RX11_158 rfl (okM_1 _) (shM_1 _) (fvM_1_18 _) ?_
    refine j_iconst (v := 1) dX11_takeClause_404 (by decide) ?_
    refine j_iadd dX11_takeClause_405 ?_
    replace h := bV_inv h
    obtain ⟨σ28, eσ28, h⟩ := h
    refine j_putI 18 jC_10 dX11_takeClause_406 kg_RX11_158 (Or.inl ff_10_18) rfl fk_10_18 (fn_10_18 _) (okM_1 _) (shM_1 _) ?_
    refine j_mem (congrArg eM eσ28) ?_
    refine j_iconst (v := 0) dX11_takeClause_409 (by decide) ?_
    replace h := Option.some.inj h
    subst h
    obtain ⟨hr1, hr2⟩ := hr _ _ hK
    exact j_iret dX11_takeClause_410 hr1 hr2
  · replace h := jif_f hc27 h
    refine j_aload_n 0 dX11_takeClause_389 rfl rfl ?_
    refine j_iconst (v := 1) dX11_takeClause_390 (by decide) ?_
    refine j_aload_n 0 dX11_takeClause_391 rfl rfl ?_
    refine j_get (ci := 10) 18 (.int (gI σ26 1 18)) jC_10 dX11_takeClause_392 kg_RX11_158 rfl (okM_1 _) (shM_1 _) (fvM_1_18 _) ?_
    replace h := bD_inv h
    obtain ⟨r29, σ30, cr29, h⟩ := h
    refine j_callV (ci := 10) (st1 := .int r29 :: _) (c_X11_fails g cr29) jy_X11_fails ki_yX11_fails ks_yX11_fails kl_RX11_188 dX11_takeClause_395 rfl (okM_1 _) (shM_1 _) rfl rfl rfl rfl (jbr _) (jbr _) hn.1 hn.2 (Or.inr rfl) rfl ?_
    replace h := Option.some.inj h
    subst h
    obtain ⟨hr1, hr2⟩ := hr _ _ hK
    exact j_iret dX11_takeClause_398 hr1 hr2
def f_X11_takeClause_J224 (σ : jS) (x1 : Int32) (y0 : Int32) : Option (Int32 × jS) :=
  if y0 ≤ 0 then (if x1 = 0 then (bG (jin (gI σ 1 23) 16) (
  bV (sI σ 12 (ix (gI σ 1 23)) (gI σ 1 21)) fun σ36 =>
  bV (sI σ36 1 23 ((gI σ36 1 23) + (1 : Int32))) fun σ37 =>
  f_X11_takeClause_J380 σ37))
  else (if x1 = 1 then (bG (jin (gI σ 1 25) 40) (
  bV (sI σ 13 (ix (gI σ 1 25)) (gI σ 1 33)) fun σ33 =>
  bG (jin (gI σ33 1 25) 40) (
  bV (sI σ33 14 (ix (gI σ33 1 25)) (gI σ33 1 34)) fun σ34 =>
  bV (sI σ34 1 25 ((gI σ34 1 25) + (1 : Int32))) fun σ35 =>
  f_X11_takeClause_J380 σ35)))
  else (if x1 = 2 then (bG (jin (gI σ 1 28) 120) (
  bV (sI σ 15 (ix (gI σ 1 28)) (((100 : Int32) * (gI σ 1 33)) + (gI σ 1 34))) fun σ31 =>
  bV (sI σ31 1 28 ((gI σ31 1 28) + (1 : Int32))) fun σ32 =>
  f_X11_takeClause_J380 σ32))
  else (bG (jin (gI σ 1 30) 4) (
  bV (sI σ 16 (ix (gI σ 1 30)) (gI σ 1 33)) fun σ17 =>
  bG (jin (gI σ17 1 30) 4) (
  bV (sI σ17 17 (ix (gI σ17 1 30)) (gI σ17 1 34)) fun σ18 =>
  bV (sI σ18 1 30 ((gI σ18 1 30) + (1 : Int32))) fun σ19 =>
  f_X11_takeClause_J380 σ19))))))
  else (some ((y0, σ)))
set_option maxHeartbeats 1000000 in
set_option maxRecDepth 20000 in
theorem f_X11_takeClause_J224_ok {g : Bool} {rv : Option Value} {μ' : jM} (σ : jS) (x1 : Int32) (y0 : Int32) {Kp : (Int32 × jS) → Prop} (hn : Nat.ble nM μ'.1 = true ∧ Nat.ble wM μ'.2.1 = true) (hr : ∀ (r : Int32) (s : jS), Kp ((r, s)) → rv = some (.int r) ∧ μ' = eM s) (o : (Int32 × jS)) (h : f_X11_takeClause_J224 σ x1 y0 = some o) (hK : Kp o) : J yX11_takeClause cX11_takeClause 3 (some .int) 4 g rv μ' 224 [(0, .ref 1), (1, .int x1)] [.int y0] (eM σ) := by
  unfold f_X11_takeClause_J224 at h
  refine j_istore_n [(2, .int y0), (0, .ref 1), (1, .int x1)] dX11_takeClause_224 rfl (Nat.le_of_ble_eq_true rfl) rfl ?_
  refine j_iload_n 0 dX11_takeClause_225 rfl rfl ?_
  refine j_if_le 231 dX11_takeClause_226 (by decide) (fun hc38 => ?_) (fun hc38 => ?_)
  · replace h := jif_t hc38 h
    refine j_iload_n 2 dX11_takeClause_231 rfl rfl ?_
    refine j_if_ne 261 dX11_takeClause_232 (by decide) (fun hc39 => ?_) (fun hc39 => ?_)
    · replace h := jif_f hc39 h
      refine j_iload_n 2 dX11_takeClause_261 rfl rfl ?_
      refine j_iconst (v := 1) dX11_takeClause_262 (by decide) ?_
      refine j_icmp_ne 305 dX11_takeClause_263 (by decide) (fun hc40 => ?_) (fun hc40 => ?_)
      · replace h := jif_f hc40 h
        refine j_iload_n 2 dX11_takeClause_305 rfl rfl ?_
        refine j_iconst (v := 2) dX11_takeClause_306 (by decide) ?_
        refine j_icmp_ne 344 dX11_takeClause_307 (by decide) (fun hc41 => ?_) (fun hc41 => ?_)
        · replace h := jif_f hc41 h
          refine j_aload_n 1 dX11_takeClause_344 rfl rfl ?_
          refine j_get (ci := 10) 31 (.ref 16) jC_10 dX11_takeClause_345 kg_RX11_56 rfl (okM_1 _) (shM_1 _) (fvM_1_31 _) ?_
          refine j_aload_n 1 dX11_takeClause_348 rfl rfl ?_
          refine j_get (ci := 10) 30 (.int (gI σ 1 30)) jC_10 dX11_takeClause_349 kg_RX11_227 rfl (okM_1 _) (shM_1 _) (fvM_1_30 _) ?_
          refine j_aload_n 1 dX11_takeClause_352 rfl rfl ?_
          refine j_get (ci := 10) 33 (.int (gI σ 1 33)) jC_10 dX11_takeClause_353 kg_RX11_204 rfl (okM_1 _) (shM_1 _) (fvM_1_33 _) ?_
          replace h := bG_inv h
          obtain ⟨hi42, h⟩ := h
          refine j_iastore dX11_takeClause_356 (okM_16 _) (shM_16 _) (jin_spec hi42) ?_
          replace h := bV_inv h
          obtain ⟨σ43, eσ43, h⟩ := h
          refine j_mem (congrArg eM eσ43) ?_
          refine j_aload_n 1 dX11_takeClause_357 rfl rfl ?_
          refine j_get (ci := 10) 32 (.ref 17) jC_10 dX11_takeClause_358 kg_RX11_59 rfl (okM_1 _) (shM_1 _) (fvM_1_32 _) ?_
          refine j_aload_n 1 dX11_takeClause_361 rfl rfl ?_
          refine j_get (ci := 10) 30 (.int (gI σ43 1 30)) jC_10 dX11_takeClause_362 kg_RX11_227 rfl (okM_1 _) (shM_1 _) (fvM_1_30 _) ?_
          refine j_aload_n 1 dX11_takeClause_365 rfl rfl ?_
          refine j_get (ci := 10) 34 (.int (gI σ43 1 34)) jC_10 dX11_takeClause_366 kg_RX11_207 rfl (okM_1 _) (shM_1 _) (fvM_1_34 _) ?_
          replace h := bG_inv h
          obtain ⟨hi44, h⟩ := h
          refine j_iastore dX11_takeClause_369 (okM_17 _) (shM_17 _) (jin_spec hi44) ?_
          replace h := bV_inv h
          obtain ⟨σ45, eσ45, h⟩ := h
          refine j_mem (congrArg eM eσ45) ?_
          refine j_aload_n 1 dX11_takeClause_370 rfl rfl ?_
          refine j_dup dX11_takeClause_371 rfl ?_
          refine j_get (ci := 10) 30 (.int (gI σ45 1 30)) jC_10 dX11_takeClause_372 kg_RX11_227 rfl (okM_1 _) (shM_1 _) (fvM_1_30 _) ?_
          refine j_iconst (v := 1) dX11_takeClause_375 (by decide) ?_
          refine j_iadd dX11_takeClause_376 ?_
          replace h := bV_inv h
          obtain ⟨σ46, eσ46, h⟩ := h
          refine j_putI 30 jC_10 dX11_takeClause_377 kg_RX11_227 (Or.inl ff_10_30) rfl fk_10_30 (fn_10_30 _) (okM_1 _) (shM_1 _) ?_
          refine j_mem (congrArg eM eσ46) ?_
          refine j_sub [(0, .ref 1)] [1] rfl ?_
          exact f_X11_takeClause_J380_ok σ46 hn hr _ h hK
        · replace h := jif_t hc41 h
          refine j_aload_n 1 dX11_takeClause_310 rfl rfl ?_
          refine j_get (ci := 10) 29 (.ref 15) jC_10 dX11_takeClause_311 kg_RX11_53 rfl (okM_1 _) (shM_1 _) (fvM_1_29 _) ?_
          refine j_aload_n 1 dX11_takeClause_314 rfl rfl ?_
          refine j_get (ci := 10) 28 (.int (gI σ 1 28)) jC_10 dX11_takeClause_315 kg_RX11_213 rfl (okM_1 _) (shM_1 _) (fvM_1_28 _) ?_
          refine j_bipush (v := 100) dX11_takeClause_318 (by decide) ?_
          refine j_aload_n 1 dX11_takeClause_320 rfl rfl ?_
          refine j_get (ci := 10) 33 (.int (gI σ 1 33)) jC_10 dX11_takeClause_321 kg_RX11_204 rfl (okM_1 _) (shM_1 _) (fvM_1_33 _) ?_
          refine j_imul dX11_takeClause_324 ?_
          refine j_aload_n 1 dX11_takeClause_325 rfl rfl ?_
          refine j_get (ci := 10) 34 (.int (gI σ 1 34)) jC_10 dX11_takeClause_326 kg_RX11_207 rfl (okM_1 _) (shM_1 _) (fvM_1_34 _) ?_
          refine j_iadd dX11_takeClause_329 ?_
          replace h := bG_inv h
          obtain ⟨hi47, h⟩ := h
          refine j_iastore dX11_takeClause_330 (okM_15 _) (shM_15 _) (jin_spec hi47) ?_
          replace h := bV_inv h
          obtain ⟨σ48, eσ48, h⟩ := h
          refine j_mem (congrArg eM eσ48) ?_
          refine j_aload_n 1 dX11_takeClause_331 rfl rfl ?_
          refine j_dup dX11_takeClause_332 rfl ?_
          refine j_get (ci := 10) 28 (.int (gI σ48 1 28)) jC_10 dX11_takeClause_333 kg_RX11_213 rfl (okM_1 _) (shM_1 _) (fvM_1_28 _) ?_
          refine j_iconst (v := 1) dX11_takeClause_336 (by decide) ?_
          refine j_iadd dX11_takeClause_337 ?_
          replace h := bV_inv h
          obtain ⟨σ49, eσ49, h⟩ := h
          refine j_putI 28 jC_10 dX11_takeClause_338 kg_RX11_213 (Or.inl ff_10_28) rfl fk_10_28 (fn_10_28 _) (okM_1 _) (shM_1 _) ?_
          refine j_mem (congrArg eM eσ49) ?_
          refine j_goto 380 dX11_takeClause_341 (by decide) ?_
          refine j_sub [(0, .ref 1)] [1] rfl ?_
          exact f_X11_takeClause_J380_ok σ49 hn hr _ h hK
      · replace h := jif_t hc40 h
        refine j_aload_n 1 dX11_takeClause_266 rfl rfl ?_
        refine j_get (ci := 10) 26 (.ref 13) jC_10 dX11_takeClause_267 kg_RX11_47 rfl (okM_1 _) (shM_1 _) (fvM_1_26 _) ?_
        refine j_aload_n 1 dX11_takeClause_270 rfl rfl ?_
        refine j_get (ci := 10) 25 (.int (gI σ 1 25)) jC_10 dX11_takeClause_271 kg_RX11_210 rfl (okM_1 _) (shM_1 _) (fvM_1_25 _) ?_
        refine j_aload_n 1 dX11_takeClause_274 rfl rfl ?_
        refine j_get (ci := 10) 33 (.int (gI σ 1 33)) jC_10 dX11_takeClause_275 kg_RX11_204 rfl (okM_1 _) (shM_1 _) (fvM_1_33 _) ?_
        replace h := bG_inv h
        obtain ⟨hi50, h⟩ := h
        refine j_iastore dX11_takeClause_278 (okM_13 _) (shM_13 _) (jin_spec hi50) ?_
        replace h := bV_inv h
        obtain ⟨σ51, eσ51, h⟩ := h
        refine j_mem (congrArg eM eσ51) ?_
        refine j_aload_n 1 dX11_takeClause_279 rfl rfl ?_
        refine j_get (ci := 10) 27 (.ref 14) jC_10 dX11_takeClause_280 kg_RX11_50 rfl (okM_1 _) (shM_1 _) (fvM_1_27 _) ?_
        refine j_aload_n 1 dX11_takeClause_283 rfl rfl ?_
        refine j_get (ci := 10) 25 (.int (gI σ51 1 25)) jC_10 dX11_takeClause_284 kg_RX11_210 rfl (okM_1 _) (shM_1 _) (fvM_1_25 _) ?_
        refine j_aload_n 1 dX11_takeClause_287 rfl rfl ?_
        refine j_get (ci := 10) 34 (.int (gI σ51 1 34)) jC_10 dX11_takeClause_288 kg_RX11_207 rfl (okM_1 _) (shM_1 _) (fvM_1_34 _) ?_
        replace h := bG_inv h
        obtain ⟨hi52, h⟩ := h
        refine j_iastore dX11_takeClause_291 (okM_14 _) (shM_14 _) (jin_spec hi52) ?_
        replace h := bV_inv h
        obtain ⟨σ53, eσ53, h⟩ := h
        refine j_mem (congrArg eM eσ53) ?_
        refine j_aload_n 1 dX11_takeClause_292 rfl rfl ?_
        refine j_dup dX11_takeClause_293 rfl ?_
        refine j_get (ci := 10) 25 (.int (gI σ53 1 25)) jC_10 dX11_takeClause_294 kg_RX11_210 rfl (okM_1 _) (shM_1 _) (fvM_1_25 _) ?_
        refine j_iconst (v := 1) dX11_takeClause_297 (by decide) ?_
        refine j_iadd dX11_takeClause_298 ?_
        replace h := bV_inv h
        obtain ⟨σ54, eσ54, h⟩ := h
        refine j_putI 25 jC_10 dX11_takeClause_299 kg_RX11_210 (Or.inl ff_10_25) rfl fk_10_25 (fn_10_25 _) (okM_1 _) (shM_1 _) ?_
        refine j_mem (congrArg eM eσ54) ?_
        refine j_goto 380 dX11_takeClause_302 (by decide) ?_
        refine j_sub [(0, .ref 1)] [1] rfl ?_
        exact f_X11_takeClause_J380_ok σ54 hn hr _ h hK
    · replace h := jif_t hc39 h
      refine j_aload_n 1 dX11_takeClause_235 rfl rfl ?_
      refine j_get (ci := 10) 24 (.ref 12) jC_10 dX11_takeClause_236 kg_RX11_44 rfl (okM_1 _) (shM_1 _) (fvM_1_24 _) ?_
      refine j_aload_n 1 dX11_takeClause_239 rfl rfl ?_
      refine j_get (ci := 10) 23 (.int (gI σ 1 23)) jC_10 dX11_takeClause_240 kg_RX11_198 rfl (okM_1 _) (shM_1 _) (fvM_1_23 _) ?_
      refine j_aload_n 1 dX11_takeClause_243 rfl rfl ?_
      refine j_get (ci := 10) 21 (.int (gI σ 1 21)) jC_10 dX11_takeClause_244 kg_RX11_195 rfl (okM_1 _) (shM_1 _) (fvM_1_21 _) ?_
      replace h := bG_inv h
      obtain ⟨hi55, h⟩ := h
      refine j_iastore dX11_takeClause_247 (okM_12 _) (shM_12 _) (jin_spec hi55) ?_
      replace h := bV_inv h
      obtain ⟨σ56, eσ56, h⟩ := h
      refine j_mem (congrArg eM eσ56) ?_
      refine j_aload_n 1 dX11_takeClause_248 rfl rfl ?_
      refine j_dup dX11_takeClause_249 rfl ?_
      refine j_get (ci := 10) 23 (.int (gI σ56 1 23)) jC_10 dX11_takeClause_250 kg_RX11_198 rfl (okM_1 _) (shM_1 _) (fvM_1_23 _) ?_
      refine j_iconst (v := 1) dX11_takeClause_253 (by decide) ?_
      refine j_iadd dX11_takeClause_254 ?_
      replace h := bV_inv h
      obtain ⟨σ57, eσ57, h⟩ := h
      refine j_putI 23 jC_10 dX11_takeClause_255 kg_RX11_198 (Or.inl ff_10_23) rfl fk_10_23 (fn_10_23 _) (okM_1 _) (shM_1 _) ?_
      refine j_mem (congrArg eM eσ57) ?_
      refine j_goto 380 dX11_takeClause_258 (by decide) ?_
      refine j_sub [(0, .ref 1)] [1] rfl ?_
      exact f_X11_takeClause_J380_ok σ57 hn hr _ h hK
  · replace h := jif_f hc38 h
    refine j_iload_n 0 dX11_takeClause_229 rfl rfl ?_
    replace h := Option.some.inj h
    subst h
    obtain ⟨hr1, hr2⟩ := hr _ _ hK
    exact j_iret dX11_takeClause_230 hr1 hr2
def f_X11_takeClause_J197 (σ : jS) (x1 : Int32) : Option (Int32 × jS) :=
  bV (sI σ 1 18 (gI σ 1 20)) fun σ14 =>
  if x1 = 0 then (bD (f_X11_takeNumber σ14 0 9) fun r58 σ59 =>
  f_X11_takeClause_J224 σ59 x1 r58)
  else (bD (f_X11_takeTwo σ14 x1) fun r15 σ16 =>
  f_X11_takeClause_J224 σ16 x1 r15)
set_option maxHeartbeats 1000000 in
set_option maxRecDepth 20000 in
theorem f_X11_takeClause_J197_ok {g : Bool} {rv : Option Value} {μ' : jM} (σ : jS) (x1 : Int32) {Kp : (Int32 × jS) → Prop} (hn : Nat.ble nM μ'.1 = true ∧ Nat.ble wM μ'.2.1 = true) (hr : ∀ (r : Int32) (s : jS), Kp ((r, s)) → rv = some (.int r) ∧ μ' = eM s) (o : (Int32 × jS)) (h : f_X11_takeClause_J197 σ x1 = some o) (hK : Kp o) : J yX11_takeClause cX11_takeClause 3 (some .int) 4 g rv μ' 197 [(0, .ref 1), (1, .int x1)] [] (eM σ) := by
  unfold f_X11_takeClause_J197 at h
  refine j_aload_n 0 dX11_takeClause_197 rfl rfl ?_
  refine j_aload_n 0 dX11_takeClause_198 rfl rfl ?_
  refine j_get (ci := 10) 20 (.int (gI σ 1 20)) jC_10 dX11_takeClause_199 kg_RX11_169 rfl (okM_1 _) (shM_1 _) (fvM_1_20 _) ?_
  replace h := bV_inv h
  obtain ⟨σ60, eσ60, h⟩ := h
  refine j_putI 18 jC_10 dX11_takeClause_202 kg_RX11_158 (Or.inl ff_10_18) rfl fk_10_18 (fn_10_18 _) (okM_1 _) (shM_1 _) ?_
  refine j_mem (congrArg eM eσ60) ?_
  refine j_iload_n 1 dX11_takeClause_205 rfl rfl ?_
  refine j_if_ne 219 dX11_takeClause_206 (by decide) (fun hc61 => ?_) (fun hc61 => ?_)
  · replace h := jif_f hc61 h
    refine j_aload_n 0 dX11_takeClause_219 rfl rfl ?_
    refine j_iload_n 1 dX11_takeClause_220 rfl rfl ?_
    replace h := bD_inv h
    obtain ⟨r62, σ63, cr62, h⟩ := h
    refine j_callV (ci := 10) (st1 := .int r62 :: _) (c_X11_takeTwo g cr62) jy_X11_takeTwo ki_yX11_takeTwo ks_yX11_takeTwo kl_RX11_230 dX11_takeClause_221 rfl (okM_1 _) (shM_1 _) rfl rfl rfl rfl (jbr _) (jbr _) hn.1 hn.2 (Or.inr rfl) rfl ?_
    exact f_X11_takeClause_J224_ok σ63 x1 r62 hn hr _ h hK
  · replace h := jif_t hc61 h
    refine j_aload_n 0 dX11_takeClause_209 rfl rfl ?_
    refine j_iconst (v := 0) dX11_takeClause_210 (by decide) ?_
    refine j_bipush (v := 9) dX11_takeClause_211 (by decide) ?_
    replace h := bD_inv h
    obtain ⟨r64, σ65, cr64, h⟩ := h
    refine j_callV (ci := 10) (st1 := .int r64 :: _) (c_X11_takeNumber g cr64) jy_X11_takeNumber ki_yX11_takeNumber ks_yX11_takeNumber kl_RX11_201 dX11_takeClause_213 rfl (okM_1 _) (shM_1 _) rfl rfl rfl rfl (jbr _) (jbr _) hn.1 hn.2 (Or.inr rfl) rfl ?_
    refine j_goto 224 dX11_takeClause_216 (by decide) ?_
    exact f_X11_takeClause_J224_ok σ65 x1 r64 hn hr _ h hK
def f_X11_takeClause_J187 (σ : jS) : Option (Int32 × jS) :=
  bD (f_X11_fails σ 3 (gI σ 1 18)) fun r66 σ67 =>
  some ((r66, σ67))
set_option maxHeartbeats 1000000 in
set_option maxRecDepth 20000 in
theorem f_X11_takeClause_J187_ok {g : Bool} {rv : Option Value} {μ' : jM} (σ : jS) {Kp : (Int32 × jS) → Prop} (hn : Nat.ble nM μ'.1 = true ∧ Nat.ble wM μ'.2.1 = true) (hr : ∀ (r : Int32) (s : jS), Kp ((r, s)) → rv = some (.int r) ∧ μ' = eM s) (o : (Int32 × jS)) (h : f_X11_takeClause_J187 σ = some o) (hK : Kp o) : J yX11_takeClause cX11_takeClause 3 (some .int) 4 g rv μ' 187 [(0, .ref 1)] [] (eM σ) := by
  unfold f_X11_takeClause_J187 at h
  refine j_aload_n 0 dX11_takeClause_187 rfl rfl ?_
  refine j_iconst (v := 3) dX11_takeClause_188 (by decide) ?_
  refine j_aload_n 0 dX11_takeClause_189 rfl rfl ?_
  refine j_get (ci := 10) 18 (.int (gI σ 1 18)) jC_10 dX11_takeClause_190 kg_RX11_158 rfl (okM_1 _) (shM_1 _) (fvM_1_18 _) ?_
  replace h := bD_inv h
  obtain ⟨r68, σ69, cr68, h⟩ := h
  refine j_callV (ci := 10) (st1 := .int r68 :: _) (c_X11_fails g cr68) jy_X11_fails ki_yX11_fails ks_yX11_fails kl_RX11_188 dX11_takeClause_193 rfl (okM_1 _) (shM_1 _) rfl rfl rfl rfl (jbr _) (jbr _) hn.1 hn.2 (Or.inr rfl) rfl ?_
  replace h := Option.some.inj h
  subst h
  obtain ⟨hr1, hr2⟩ := hr _ _ hK
  exact j_iret dX11_takeClause_196 hr1 hr2
def f_X11_takeClause_J174 (σ : jS) (x1 : Int32) : Option (Int32 × jS) :=
  if x1 = 3 then (if (gI σ 1 30) = 4 then (f_X11_takeClause_J187 σ)
  else (f_X11_takeClause_J197 σ x1))
  else (f_X11_takeClause_J197 σ x1)
set_option maxHeartbeats 1000000 in
set_option maxRecDepth 20000 in
theorem f_X11_takeClause_J174_ok {g : Bool} {rv : Option Value} {μ' : jM} (σ : jS) (x1 : Int32) {Kp : (Int32 × jS) → Prop} (hn : Nat.ble nM μ'.1 = true ∧ Nat.ble wM μ'.2.1 = true) (hr : ∀ (r : Int32) (s : jS), Kp ((r, s)) → rv = some (.int r) ∧ μ' = eM s) (o : (Int32 × jS)) (h : f_X11_takeClause_J174 σ x1 = some o) (hK : Kp o) : J yX11_takeClause cX11_takeClause 3 (some .int) 4 g rv μ' 174 [(0, .ref 1), (1, .int x1)] [] (eM σ) := by
  unfold f_X11_takeClause_J174 at h
  refine j_iload_n 1 dX11_takeClause_174 rfl rfl ?_
  refine j_iconst (v := 3) dX11_takeClause_175 (by decide) ?_
  refine j_icmp_ne 197 dX11_takeClause_176 (by decide) (fun hc70 => ?_) (fun hc70 => ?_)
  · replace h := jif_f hc70 h
    exact f_X11_takeClause_J197_ok σ x1 hn hr _ h hK
  · replace h := jif_t hc70 h
    refine j_aload_n 0 dX11_takeClause_179 rfl rfl ?_
    refine j_get (ci := 10) 30 (.int (gI σ 1 30)) jC_10 dX11_takeClause_180 kg_RX11_227 rfl (okM_1 _) (shM_1 _) (fvM_1_30 _) ?_
    refine j_iconst (v := 4) dX11_takeClause_183 (by decide) ?_
    refine j_icmp_ne 197 dX11_takeClause_184 (by decide) (fun hc71 => ?_) (fun hc71 => ?_)
    · replace h := jif_f hc71 h
      exact f_X11_takeClause_J197_ok σ x1 hn hr _ h hK
    · replace h := jif_t hc71 h
      refine j_sub [(0, .ref 1)] [0] rfl ?_
      exact f_X11_takeClause_J187_ok σ hn hr _ h hK
def f_X11_takeClause_J160 (σ : jS) (x1 : Int32) : Option (Int32 × jS) :=
  if x1 = 1 then (if (gI σ 1 25) = 40 then (f_X11_takeClause_J187 σ)
  else (f_X11_takeClause_J174 σ x1))
  else (f_X11_takeClause_J174 σ x1)
set_option maxHeartbeats 1000000 in
set_option maxRecDepth 20000 in
theorem f_X11_takeClause_J160_ok {g : Bool} {rv : Option Value} {μ' : jM} (σ : jS) (x1 : Int32) {Kp : (Int32 × jS) → Prop} (hn : Nat.ble nM μ'.1 = true ∧ Nat.ble wM μ'.2.1 = true) (hr : ∀ (r : Int32) (s : jS), Kp ((r, s)) → rv = some (.int r) ∧ μ' = eM s) (o : (Int32 × jS)) (h : f_X11_takeClause_J160 σ x1 = some o) (hK : Kp o) : J yX11_takeClause cX11_takeClause 3 (some .int) 4 g rv μ' 160 [(0, .ref 1), (1, .int x1)] [] (eM σ) := by
  unfold f_X11_takeClause_J160 at h
  refine j_iload_n 1 dX11_takeClause_160 rfl rfl ?_
  refine j_iconst (v := 1) dX11_takeClause_161 (by decide) ?_
  refine j_icmp_ne 174 dX11_takeClause_162 (by decide) (fun hc72 => ?_) (fun hc72 => ?_)
  · replace h := jif_f hc72 h
    exact f_X11_takeClause_J174_ok σ x1 hn hr _ h hK
  · replace h := jif_t hc72 h
    refine j_aload_n 0 dX11_takeClause_165 rfl rfl ?_
    refine j_get (ci := 10) 25 (.int (gI σ 1 25)) jC_10 dX11_takeClause_166 kg_RX11_210 rfl (okM_1 _) (shM_1 _) (fvM_1_25 _) ?_
    refine j_bipush (v := 40) dX11_takeClause_169 (by decide) ?_
    refine j_icmp_eq 187 dX11_takeClause_171 (by decide) (fun hc73 => ?_) (fun hc73 => ?_)
    · replace h := jif_t hc73 h
      refine j_sub [(0, .ref 1)] [0] rfl ?_
      exact f_X11_takeClause_J187_ok σ hn hr _ h hK
    · replace h := jif_f hc73 h
      exact f_X11_takeClause_J174_ok σ x1 hn hr _ h hK
def f_X11_takeClause_J132 (σ : jS) (y0 : Int32) : Option (Int32 × jS) :=
  if 0 ≤ y0 then (if y0 = 0 then (if (gI σ 1 23) = 16 then (f_X11_takeClause_J187 σ)
  else (f_X11_takeClause_J160 σ y0))
  else (f_X11_takeClause_J160 σ y0))
  else (bD (f_X11_fails σ 1 (gI σ 1 18)) fun r74 σ75 =>
  some ((r74, σ75)))
set_option maxHeartbeats 1000000 in
set_option maxRecDepth 20000 in
theorem f_X11_takeClause_J132_ok {g : Bool} {rv : Option Value} {μ' : jM} (σ : jS) (y0 : Int32) {Kp : (Int32 × jS) → Prop} (hn : Nat.ble nM μ'.1 = true ∧ Nat.ble wM μ'.2.1 = true) (hr : ∀ (r : Int32) (s : jS), Kp ((r, s)) → rv = some (.int r) ∧ μ' = eM s) (o : (Int32 × jS)) (h : f_X11_takeClause_J132 σ y0 = some o) (hK : Kp o) : J yX11_takeClause cX11_takeClause 3 (some .int) 4 g rv μ' 132 [(0, .ref 1)] [.int y0] (eM σ) := by
  unfold f_X11_takeClause_J132 at h
  refine j_istore_n [(1, .int y0), (0, .ref 1)] dX11_takeClause_132 rfl (Nat.le_of_ble_eq_true rfl) rfl ?_
  refine j_iload_n 0 dX11_takeClause_133 rfl rfl ?_
  refine j_if_ge 147 dX11_takeClause_134 (by decide) (fun hc76 => ?_) (fun hc76 => ?_)
  · replace h := jif_t hc76 h
    refine j_iload_n 0 dX11_takeClause_147 rfl rfl ?_
    refine j_if_ne 160 dX11_takeClause_148 (by decide) (fun hc77 => ?_) (fun hc77 => ?_)
    · replace h := jif_f hc77 h
      refine j_sub [(0, .ref 1), (1, .int y0)] [1, 0] rfl ?_
      exact f_X11_takeClause_J160_ok σ y0 hn hr _ h hK
    · replace h := jif_t hc77 h
      refine j_aload_n 1 dX11_takeClause_151 rfl rfl ?_
      refine j_get (ci := 10) 23 (.int (gI σ 1 23)) jC_10 dX11_takeClause_152 kg_RX11_198 rfl (okM_1 _) (shM_1 _) (fvM_1_23 _) ?_
      refine j_bipush (v := 16) dX11_takeClause_155 (by decide) ?_
      refine j_icmp_eq 187 dX11_takeClause_157 (by decide) (fun hc78 => ?_) (fun hc78 => ?_)
      · replace h := jif_t hc78 h
        refine j_sub [(0, .ref 1)] [1] rfl ?_
        exact f_X11_takeClause_J187_ok σ hn hr _ h hK
      · replace h := jif_f hc78 h
        refine j_sub [(0, .ref 1), (1, .int y0)] [1, 0] rfl ?_
        exact f_X11_takeClause_J160_ok σ y0 hn hr _ h hK
  · replace h := jif_f hc76 h
    refine j_aload_n 1 dX11_takeClause_137 rfl rfl ?_
    refine j_iconst (v := 1) dX11_takeClause_138 (by decide) ?_
    refine j_aload_n 1 dX11_takeClause_139 rfl rfl ?_
    refine j_get (ci := 10) 18 (.int (gI σ 1 18)) jC_10 dX11_takeClause_140 kg_RX11_158 rfl (okM_1 _) (shM_1 _) (fvM_1_18 _) ?_
    replace h := bD_inv h
    obtain ⟨r79, σ80, cr79, h⟩ := h
    refine j_callV (ci := 10) (st1 := .int r79 :: _) (c_X11_fails g cr79) jy_X11_fails ki_yX11_fails ks_yX11_fails kl_RX11_188 dX11_takeClause_143 rfl (okM_1 _) (shM_1 _) rfl rfl rfl rfl (jbr _) (jbr _) hn.1 hn.2 (Or.inr rfl) rfl ?_
    replace h := Option.some.inj h
    subst h
    obtain ⟨hr1, hr2⟩ := hr _ _ hK
    exact j_iret dX11_takeClause_146 hr1 hr2
def f_X11_takeClause (σ : jS) : Option (Int32 × jS) :=
  bD (f_X11_readWord σ) fun r1 σ2 =>
  bC (f_X11_code4 112 101 114 115) fun r3 =>
  bC (f_X11_longer r3 111) fun r4 =>
  bC (f_X11_longer r4 110) fun r5 =>
  if (lg_cmp (gL σ2 1 19) r5) = 0 then (f_X11_takeClause_J132 σ2 0)
  else (bC (f_X11_code4 111 119 101 115) fun r6 =>
  if (lg_cmp (gL σ2 1 19) r6) = 0 then (f_X11_takeClause_J132 σ2 1)
  else (bC (f_X11_code4 103 114 117 100) fun r7 =>
  bC (f_X11_longer r7 103) fun r8 =>
  bC (f_X11_longer r8 101) fun r9 =>
  if (lg_cmp (gL σ2 1 19) r9) = 0 then (f_X11_takeClause_J132 σ2 2)
  else (bC (f_X11_code4 113 117 97 114) fun r10 =>
  bC (f_X11_longer r10 114) fun r11 =>
  bC (f_X11_longer r11 101) fun r12 =>
  bC (f_X11_longer r12 108) fun r13 =>
  if (lg_cmp (gL σ2 1 19) r13) = 0 then (f_X11_takeClause_J132 σ2 3)
  else (f_X11_takeClause_J132 σ2 (-1)))))
set_option maxHeartbeats 1000000 in
set_option maxRecDepth 20000 in
theorem f_X11_takeClause_ok {g : Bool} {rv : Option Value} {μ' : jM} (σ : jS) {Kp : (Int32 × jS) → Prop} (hn : Nat.ble nM μ'.1 = true ∧ Nat.ble wM μ'.2.1 = true) (hr : ∀ (r : Int32) (s : jS), Kp ((r, s)) → rv = some (.int r) ∧ μ' = eM s) (o : (Int32 × jS)) (h : f_X11_takeClause σ = some o) (hK : Kp o) : J yX11_takeClause cX11_takeClause 3 (some .int) 4 g rv μ' 0 [(0, .ref 1)] [] (eM σ) := by
  unfold f_X11_takeClause at h
  refine j_aload_n 0 dX11_takeClause_0 rfl rfl ?_
  replace h := bD_inv h
  obtain ⟨r81, σ82, cr81, h⟩ := h
  refine j_callV (ci := 10) (st1 := _) (c_X11_readWord g cr81) jy_X11_readWord ki_yX11_readWord ks_yX11_readWord kl_RX11_216 dX11_takeClause_1 rfl (okM_1 _) (shM_1 _) rfl rfl rfl rfl (jbr _) (jbr _) hn.1 hn.2 (Or.inr rfl) rfl ?_
  refine j_aload_n 0 dX11_takeClause_4 rfl rfl ?_
  refine j_get (ci := 10) 19 (.long (gL σ82 1 19)) jC_10 dX11_takeClause_5 kg_RX11_165 rfl (okM_1 _) (shM_1 _) (fvM_1_19 _) ?_
  refine j_bipush (v := 112) dX11_takeClause_8 (by decide) ?_
  refine j_bipush (v := 101) dX11_takeClause_10 (by decide) ?_
  refine j_bipush (v := 114) dX11_takeClause_12 (by decide) ?_
  refine j_bipush (v := 115) dX11_takeClause_14 (by decide) ?_
  replace h := bC_inv h
  obtain ⟨r83, cr83, h⟩ := h
  refine j_callS (st1 := .long r83 :: _) (c_X11_code4 g _ cr83) jy_X11_code4 kt_yX11_code4 kl_RX11_219 dX11_takeClause_16 rfl rfl rfl rfl (jbr _) (jbr _) hn.1 hn.2 (Or.inr rfl) rfl ?_
  refine j_bipush (v := 111) dX11_takeClause_19 (by decide) ?_
  replace h := bC_inv h
  obtain ⟨r84, cr84, h⟩ := h
  refine j_callS (st1 := .long r84 :: _) (c_X11_longer g _ cr84) jy_X11_longer kt_yX11_longer kl_RX11_223 dX11_takeClause_21 rfl rfl rfl rfl (jbr _) (jbr _) hn.1 hn.2 (Or.inr rfl) rfl ?_
  refine j_bipush (v := 110) dX11_takeClause_24 (by decide) ?_
  replace h := bC_inv h
  obtain ⟨r85, cr85, h⟩ := h
  refine j_callS (st1 := .long r85 :: _) (c_X11_longer g _ cr85) jy_X11_longer kt_yX11_longer kl_RX11_223 dX11_takeClause_26 rfl rfl rfl rfl (jbr _) (jbr _) hn.1 hn.2 (Or.inr rfl) rfl ?_
  refine j_lcmp dX11_takeClause_29 ?_
  refine j_if_ne 37 dX11_takeClause_30 (by decide) (fun hc86 => ?_) (fun hc86 => ?_)
  · replace h := jif_f hc86 h
    refine j_aload_n 0 dX11_takeClause_37 rfl rfl ?_
    refine j_get (ci := 10) 19 (.long (gL σ82 1 19)) jC_10 dX11_takeClause_38 kg_RX11_165 rfl (okM_1 _) (shM_1 _) (fvM_1_19 _) ?_
    refine j_bipush (v := 111) dX11_takeClause_41 (by decide) ?_
    refine j_bipush (v := 119) dX11_takeClause_43 (by decide) ?_
    refine j_bipush (v := 101) dX11_takeClause_45 (by decide) ?_
    refine j_bipush (v := 115) dX11_takeClause_47 (by decide) ?_
    replace h := bC_inv h
    obtain ⟨r87, cr87, h⟩ := h
    refine j_callS (st1 := .long r87 :: _) (c_X11_code4 g _ cr87) jy_X11_code4 kt_yX11_code4 kl_RX11_219 dX11_takeClause_49 rfl rfl rfl rfl (jbr _) (jbr _) hn.1 hn.2 (Or.inr rfl) rfl ?_
    refine j_lcmp dX11_takeClause_52 ?_
    refine j_if_ne 60 dX11_takeClause_53 (by decide) (fun hc88 => ?_) (fun hc88 => ?_)
    · replace h := jif_f hc88 h
      refine j_aload_n 0 dX11_takeClause_60 rfl rfl ?_
      refine j_get (ci := 10) 19 (.long (gL σ82 1 19)) jC_10 dX11_takeClause_61 kg_RX11_165 rfl (okM_1 _) (shM_1 _) (fvM_1_19 _) ?_
      refine j_bipush (v := 103) dX11_takeClause_64 (by decide) ?_
      refine j_bipush (v := 114) dX11_takeClause_66 (by decide) ?_
      refine j_bipush (v := 117) dX11_takeClause_68 (by decide) ?_
      refine j_bipush (v := 100) dX11_takeClause_70 (by decide) ?_
      replace h := bC_inv h
      obtain ⟨r89, cr89, h⟩ := h
      refine j_callS (st1 := .long r89 :: _) (c_X11_code4 g _ cr89) jy_X11_code4 kt_yX11_code4 kl_RX11_219 dX11_takeClause_72 rfl rfl rfl rfl (jbr _) (jbr _) hn.1 hn.2 (Or.inr rfl) rfl ?_
      refine j_bipush (v := 103) dX11_takeClause_75 (by decide) ?_
      replace h := bC_inv h
      obtain ⟨r90, cr90, h⟩ := h
      refine j_callS (st1 := .long r90 :: _) (c_X11_longer g _ cr90) jy_X11_longer kt_yX11_longer kl_RX11_223 dX11_takeClause_77 rfl rfl rfl rfl (jbr _) (jbr _) hn.1 hn.2 (Or.inr rfl) rfl ?_
      refine j_bipush (v := 101) dX11_takeClause_80 (by decide) ?_
      replace h := bC_inv h
      obtain ⟨r91, cr91, h⟩ := h
      refine j_callS (st1 := .long r91 :: _) (c_X11_longer g _ cr91) jy_X11_longer kt_yX11_longer kl_RX11_223 dX11_takeClause_82 rfl rfl rfl rfl (jbr _) (jbr _) hn.1 hn.2 (Or.inr rfl) rfl ?_
      refine j_lcmp dX11_takeClause_85 ?_
      refine j_if_ne 93 dX11_takeClause_86 (by decide) (fun hc92 => ?_) (fun hc92 => ?_)
      · replace h := jif_f hc92 h
        refine j_aload_n 0 dX11_takeClause_93 rfl rfl ?_
        refine j_get (ci := 10) 19 (.long (gL σ82 1 19)) jC_10 dX11_takeClause_94 kg_RX11_165 rfl (okM_1 _) (shM_1 _) (fvM_1_19 _) ?_
        refine j_bipush (v := 113) dX11_takeClause_97 (by decide) ?_
        refine j_bipush (v := 117) dX11_takeClause_99 (by decide) ?_
        refine j_bipush (v := 97) dX11_takeClause_101 (by decide) ?_
        refine j_bipush (v := 114) dX11_takeClause_103 (by decide) ?_
        replace h := bC_inv h
        obtain ⟨r93, cr93, h⟩ := h
        refine j_callS (st1 := .long r93 :: _) (c_X11_code4 g _ cr93) jy_X11_code4 kt_yX11_code4 kl_RX11_219 dX11_takeClause_105 rfl rfl rfl rfl (jbr _) (jbr _) hn.1 hn.2 (Or.inr rfl) rfl ?_
        refine j_bipush (v := 114) dX11_takeClause_108 (by decide) ?_
        replace h := bC_inv h
        obtain ⟨r94, cr94, h⟩ := h
        refine j_callS (st1 := .long r94 :: _) (c_X11_longer g _ cr94) jy_X11_longer kt_yX11_longer kl_RX11_223 dX11_takeClause_110 rfl rfl rfl rfl (jbr _) (jbr _) hn.1 hn.2 (Or.inr rfl) rfl ?_
        refine j_bipush (v := 101) dX11_takeClause_113 (by decide) ?_
        replace h := bC_inv h
        obtain ⟨r95, cr95, h⟩ := h
        refine j_callS (st1 := .long r95 :: _) (c_X11_longer g _ cr95) jy_X11_longer kt_yX11_longer kl_RX11_223 dX11_takeClause_115 rfl rfl rfl rfl (jbr _) (jbr _) hn.1 hn.2 (Or.inr rfl) rfl ?_
        refine j_bipush (v := 108) dX11_takeClause_118 (by decide) ?_
        replace h := bC_inv h
        obtain ⟨r96, cr96, h⟩ := h
        refine j_callS (st1 := .long r96 :: _) (c_X11_longer g _ cr96) jy_X11_longer kt_yX11_longer kl_RX11_223 dX11_takeClause_120 rfl rfl rfl rfl (jbr _) (jbr _) hn.1 hn.2 (Or.inr rfl) rfl ?_
        refine j_lcmp dX11_takeClause_123 ?_
        refine j_if_ne 131 dX11_takeClause_124 (by decide) (fun hc97 => ?_) (fun hc97 => ?_)
        · replace h := jif_f hc97 h
          refine j_iconst (v := (-1)) dX11_takeClause_131 (by decide) ?_
          exact f_X11_takeClause_J132_ok σ82 (-1) hn hr _ h hK
        · replace h := jif_t hc97 h
          refine j_iconst (v := 3) dX11_takeClause_127 (by decide) ?_
          refine j_goto 132 dX11_takeClause_128 (by decide) ?_
          exact f_X11_takeClause_J132_ok σ82 3 hn hr _ h hK
      · replace h := jif_t hc92 h
        refine j_iconst (v := 2) dX11_takeClause_89 (by decide) ?_
        refine j_goto 132 dX11_takeClause_90 (by decide) ?_
        exact f_X11_takeClause_J132_ok σ82 2 hn hr _ h hK
    · replace h := jif_t hc88 h
      refine j_iconst (v := 1) dX11_takeClause_56 (by decide) ?_
      refine j_goto 132 dX11_takeClause_57 (by decide) ?_
      exact f_X11_takeClause_J132_ok σ82 1 hn hr _ h hK
  · replace h := jif_t hc86 h
    refine j_iconst (v := 0) dX11_takeClause_33 (by decide) ?_
    refine j_goto 132 dX11_takeClause_34 (by decide) ?_
    exact f_X11_takeClause_J132_ok σ82 0 hn hr _ h hK
theorem c_X11_takeClause (g : Bool) {σ : jS} {r : Int32} {σ2 : jS} (h : f_X11_takeClause σ = some (r, σ2)) : Cn yX11_takeClause cX11_takeClause 3 (some .int) 4 g [.ref 1] (eM σ) (some (.int r)) (eM σ2) :=
  Cn_of (by decide) (Nat.le_refl _) (Nat.le_refl _) (Nat.le_of_ble_eq_true rfl) (f_X11_takeClause_ok (Kp := (fun o => o = (r, σ2))) σ ⟨jbr _, jbr _⟩ (fun r2 s2 q => by cases q; exact ⟨rfl, rfl⟩) _ h rfl)
def f_X11_code (x0 : Int32) (x1 : Int32) (x2 : Int32) (x3 : Int32) (x4 : Int32) : Option Int32 :=
  some (((((((((((x0 * (16 : Int32)) + x1) * (2 : Int32)) + x2) * (17 : Int32)) + x3) + (1 : Int32)) * (17 : Int32)) + x4) + (1 : Int32)))
set_option maxHeartbeats 1000000 in
set_option maxRecDepth 20000 in
theorem f_X11_code_ok {g : Bool} {rv : Option Value} {μ' : jM} (x0 : Int32) (x1 : Int32) (x2 : Int32) (x3 : Int32) (x4 : Int32) (μ : jM) {Kp : Int32 → Prop} (hn : Nat.ble μ.1 μ'.1 = true ∧ Nat.ble μ.2.1 μ'.2.1 = true) (hr : ∀ r : Int32, Kp (r) → rv = some (.int r) ∧ μ' = μ) (o : Int32) (h : f_X11_code x0 x1 x2 x3 x4 = some o) (hK : Kp o) : J yX11_code cX11_code 5 (some .int) 1 g rv μ' 0 [(0, .int x0), (1, .int x1), (2, .int x2), (3, .int x3), (4, .int x4)] [] μ := by
  unfold f_X11_code at h
  refine j_iload_n 0 dX11_code_0 rfl rfl ?_
  refine j_bipush (v := 16) dX11_code_1 (by decide) ?_
  refine j_imul dX11_code_3 ?_
  refine j_iload_n 1 dX11_code_4 rfl rfl ?_
  refine j_iadd dX11_code_5 ?_
  refine j_iconst (v := 2) dX11_code_6 (by decide) ?_
  refine j_imul dX11_code_7 ?_
  refine j_iload_n 2 dX11_code_8 rfl rfl ?_
  refine j_iadd dX11_code_9 ?_
  refine j_bipush (v := 17) dX11_code_10 (by decide) ?_
  refine j_imul dX11_code_12 ?_
  refine j_iload_n 3 dX11_code_13 rfl rfl ?_
  refine j_iadd dX11_code_14 ?_
  refine j_iconst (v := 1) dX11_code_15 (by decide) ?_
  refine j_iadd dX11_code_16 ?_
  refine j_bipush (v := 17) dX11_code_17 (by decide) ?_
  refine j_imul dX11_code_19 ?_
  refine j_iload 4 dX11_code_20 rfl ?_
  refine j_iadd dX11_code_22 ?_
  refine j_iconst (v := 1) dX11_code_23 (by decide) ?_
  refine j_iadd dX11_code_24 ?_
  replace h := Option.some.inj h
  subst h
  obtain ⟨hr1, hr2⟩ := hr _ hK
  exact j_iret dX11_code_25 hr1 hr2
theorem c_X11_code (g : Bool) (μ : jM) {x0 : Int32} {x1 : Int32} {x2 : Int32} {x3 : Int32} {x4 : Int32} {r : Int32} (h : f_X11_code x0 x1 x2 x3 x4 = some r) : Cn yX11_code cX11_code 5 (some .int) 1 g [.int x0, .int x1, .int x2, .int x3, .int x4] μ (some (.int r)) μ :=
  Cn_of (by decide) (Nat.le_refl _) (Nat.le_refl _) (Nat.le_of_ble_eq_true rfl) (f_X11_code_ok (Kp := (fun o => o = r)) x0 x1 x2 x3 x4 μ ⟨jbr _, jbr _⟩ (fun r2 q => by cases q; exact ⟨rfl, rfl⟩) _ h rfl)
def f_X11_toldCode (σ : jS) (x1 : Int32) : Option Int32 :=
  bG (jin x1 4) (
  bG (jin x1 4) (
  bC (f_X11_code (gI σ 7 (ix x1)) (gI σ 8 (ix x1)) 0 (-1) (-1)) fun r1 =>
  some (r1)))
set_option maxHeartbeats 1000000 in
set_option maxRecDepth 20000 in
theorem f_X11_toldCode_ok {g : Bool} {rv : Option Value} {μ' : jM} (σ : jS) (x1 : Int32) {Kp : Int32 → Prop} (hn : Nat.ble nM μ'.1 = true ∧ Nat.ble wM μ'.2.1 = true) (hr : ∀ r : Int32, Kp (r) → rv = some (.int r) ∧ μ' = (eM σ)) (o : Int32) (h : f_X11_toldCode σ x1 = some o) (hK : Kp o) : J yX11_toldCode cX11_toldCode 2 (some .int) 2 g rv μ' 0 [(0, .ref 1), (1, .int x1)] [] (eM σ) := by
  unfold f_X11_toldCode at h
  refine j_aload_n 0 dX11_toldCode_0 rfl rfl ?_
  refine j_get (ci := 10) 9 (.ref 7) jC_10 dX11_toldCode_1 kg_RX11_25 rfl (okM_1 _) (shM_1 _) (fvM_1_9 _) ?_
  refine j_iload_n 1 dX11_toldCode_4 rfl rfl ?_
  replace h := bG_inv h
  obtain ⟨hi2, h⟩ := h
  refine j_iaload dX11_toldCode_5 (okM_7 _) (shM_7 _) (jin_spec hi2) ?_
  refine j_aload_n 0 dX11_toldCode_6 rfl rfl ?_
  refine j_get (ci := 10) 10 (.ref 8) jC_10 dX11_toldCode_7 kg_RX11_28 rfl (okM_1 _) (shM_1 _) (fvM_1_10 _) ?_
  refine j_iload_n 1 dX11_toldCode_10 rfl rfl ?_
  replace h := bG_inv h
  obtain ⟨hi3, h⟩ := h
  refine j_iaload dX11_toldCode_11 (okM_8 _) (shM_8 _) (jin_spec hi3) ?_
  refine j_iconst (v := 0) dX11_toldCode_12 (by decide) ?_
  refine j_iconst (v := (-1)) dX11_toldCode_13 (by decide) ?_
  refine j_iconst (v := (-1)) dX11_toldCode_14 (by decide) ?_
  replace h := bC_inv h
  obtain ⟨r4, cr4, h⟩ := h
  refine j_callS (st1 := .int r4 :: _) (c_X11_code g _ cr4) jy_X11_code kt_yX11_code kl_RX11_280 dX11_toldCode_15 rfl rfl rfl rfl (jbr _) (jbr _) hn.1 hn.2 (Or.inr rfl) rfl ?_
  replace h := Option.some.inj h
  subst h
  obtain ⟨hr1, hr2⟩ := hr _ hK
  exact j_iret dX11_toldCode_18 hr1 hr2
theorem c_X11_toldCode (g : Bool) {σ : jS} {x1 : Int32} {r : Int32} (h : f_X11_toldCode σ x1 = some r) : Cn yX11_toldCode cX11_toldCode 2 (some .int) 2 g [.ref 1, .int x1] (eM σ) (some (.int r)) (eM σ) :=
  Cn_of (by decide) (Nat.le_refl _) (Nat.le_refl _) (Nat.le_of_ble_eq_true rfl) (f_X11_toldCode_ok (Kp := (fun o => o = r)) σ x1 ⟨jbr _, jbr _⟩ (fun r2 q => by cases q; exact ⟨rfl, rfl⟩) _ h rfl)
def f_X11_takeTown_J213 (σ : jS) : Option (Unit × jS) :=
  bV (sI σ 1 56 0) fun σ5 =>
  bV (sI σ5 1 59 0) fun σ6 =>
  bG (jin 0 2) (
  bV (sI σ6 41 (ix 0) 0) fun σ7 =>
  bG (jin 1 2) (
  bV (sI σ7 41 (ix 1) 0) fun σ8 =>
  some (((), σ8))))
set_option maxHeartbeats 1000000 in
set_option maxRecDepth 20000 in
theorem f_X11_takeTown_J213_ok {g : Bool} {rv : Option Value} {μ' : jM} (σ : jS) {Kp : (Unit × jS) → Prop} (hn : Nat.ble nM μ'.1 = true ∧ Nat.ble wM μ'.2.1 = true) (hr : ∀ (r : Unit) (s : jS), Kp ((r, s)) → rv = none ∧ μ' = eM s) (o : (Unit × jS)) (h : f_X11_takeTown_J213 σ = some o) (hK : Kp o) : J yX11_takeTown cX11_takeTown 2 none 3 g rv μ' 213 [(0, .ref 1)] [] (eM σ) := by
  unfold f_X11_takeTown_J213 at h
  refine j_aload_n 0 dX11_takeTown_213 rfl rfl ?_
  refine j_iconst (v := 0) dX11_takeTown_214 (by decide) ?_
  replace h := bV_inv h
  obtain ⟨σ9, eσ9, h⟩ := h
  refine j_putI 56 jC_10 dX11_takeTown_215 kg_RX11_249 (Or.inl ff_10_56) rfl fk_10_56 (fn_10_56 _) (okM_1 _) (shM_1 _) ?_
  refine j_mem (congrArg eM eσ9) ?_
  refine j_aload_n 0 dX11_takeTown_218 rfl rfl ?_
  refine j_iconst (v := 0) dX11_takeTown_219 (by decide) ?_
  replace h := bV_inv h
  obtain ⟨σ10, eσ10, h⟩ := h
  refine j_putI 59 jC_10 dX11_takeTown_220 kg_RX11_252 (Or.inl ff_10_59) rfl fk_10_59 (fn_10_59 _) (okM_1 _) (shM_1 _) ?_
  refine j_mem (congrArg eM eσ10) ?_
  refine j_aload_n 0 dX11_takeTown_223 rfl rfl ?_
  refine j_get (ci := 10) 70 (.ref 41) jC_10 dX11_takeTown_224 kg_RX11_138 rfl (okM_1 _) (shM_1 _) (fvM_1_70 _) ?_
  refine j_iconst (v := 0) dX11_takeTown_227 (by decide) ?_
  refine j_iconst (v := 0) dX11_takeTown_228 (by decide) ?_
  replace h := bG_inv h
  obtain ⟨hi11, h⟩ := h
  refine j_bastore dX11_takeTown_229 (okM_41 _) (shM_41 _) (jin_spec hi11) ?_
  rw [jb_vp (x := 0) rfl]
  replace h := bV_inv h
  obtain ⟨σ12, eσ12, h⟩ := h
  refine j_mem (congrArg eM eσ12) ?_
  refine j_aload_n 0 dX11_takeTown_230 rfl rfl ?_
  refine j_get (ci := 10) 70 (.ref 41) jC_10 dX11_takeTown_231 kg_RX11_138 rfl (okM_1 _) (shM_1 _) (fvM_1_70 _) ?_
  refine j_iconst (v := 1) dX11_takeTown_234 (by decide) ?_
  refine j_iconst (v := 0) dX11_takeTown_235 (by decide) ?_
  replace h := bG_inv h
  obtain ⟨hi13, h⟩ := h
  refine j_bastore dX11_takeTown_236 (okM_41 _) (shM_41 _) (jin_spec hi13) ?_
  rw [jb_vp (x := 0) rfl]
  replace h := bV_inv h
  obtain ⟨σ14, eσ14, h⟩ := h
  refine j_mem (congrArg eM eσ14) ?_
  replace h := Option.some.inj h
  subst h
  obtain ⟨hr1, hr2⟩ := hr _ _ hK
  exact j_vret dX11_takeTown_237 hr1 hr2
def f_X11_takeTown_B157 (σ : jS) (x1 : Int32) : Option ((Int32 × jS) ⊕ (Unit × jS)) :=
  if (gI σ 1 8) ≤ x1 then (jw (f_X11_takeTown_J213 σ))
  else (bG (jin x1 4) (
  bG (jin x1 4) (
  bV (sI σ 7 (ix x1) (gI σ 16 (ix x1))) fun σ15 =>
  bG (jin x1 4) (
  bG (jin x1 4) (
  bV (sI σ15 8 (ix x1) (gI σ15 17 (ix x1))) fun σ16 =>
  bC (f_X11_toldCode σ16 x1) fun r17 =>
  bG (jin x1 4) (
  bV (sI σ16 9 (ix x1) r17) fun σ18 =>
  bG (jin x1 4) (
  bV (sI σ18 10 (ix x1) 0) fun σ19 =>
  bV (x1 + 1) fun v20 =>
  some (.inl (v20, σ19)))))))))
set_option maxHeartbeats 1000000 in
set_option maxRecDepth 20000 in
theorem f_X11_takeTown_B157_ok {g : Bool} {rv : Option Value} {μ' : jM} (σ : jS) (x1 : Int32) {Kp : ((Int32 × jS) ⊕ (Unit × jS)) → Prop} (hn : Nat.ble nM μ'.1 = true ∧ Nat.ble wM μ'.2.1 = true) (hr : ∀ (r : Unit) (s : jS), Kp (.inr ((r, s))) → rv = none ∧ μ' = eM s) (hc0 : ∀ s : (Int32 × jS), Kp (.inl s) → J yX11_takeTown cX11_takeTown 2 none 3 g rv μ' 157 [(0, .ref 1), (1, .int s.1)] [] (eM s.2)) (o : ((Int32 × jS) ⊕ (Unit × jS))) (h : f_X11_takeTown_B157 σ x1 = some o) (hK : Kp o) : J yX11_takeTown cX11_takeTown 2 none 3 g rv μ' 157 [(0, .ref 1), (1, .int x1)] [] (eM σ) := by
  unfold f_X11_takeTown_B157 at h
  refine j_iload_n 1 dX11_takeTown_157 rfl rfl ?_
  refine j_aload_n 0 dX11_takeTown_158 rfl rfl ?_
  refine j_get (ci := 10) 8 (.int (gI σ 1 8)) jC_10 dX11_takeTown_159 kg_RX11_148 rfl (okM_1 _) (shM_1 _) (fvM_1_8 _) ?_
  refine j_icmp_ge 213 dX11_takeTown_162 (by decide) (fun hc21 => ?_) (fun hc21 => ?_)
  · replace h := jif_t hc21 h
    replace h := jw_inv h
    obtain ⟨o22, rfl, h⟩ := h
    refine j_sub [(0, .ref 1)] [0] rfl ?_
    exact f_X11_takeTown_J213_ok (Kp := fun o => Kp (.inr (o))) σ hn (fun r s q => hr r s q) _ h hK
  · replace h := jif_f hc21 h
    refine j_aload_n 0 dX11_takeTown_165 rfl rfl ?_
    refine j_get (ci := 10) 9 (.ref 7) jC_10 dX11_takeTown_166 kg_RX11_25 rfl (okM_1 _) (shM_1 _) (fvM_1_9 _) ?_
    refine j_iload_n 1 dX11_takeTown_169 rfl rfl ?_
    refine j_aload_n 0 dX11_takeTown_170 rfl rfl ?_
    refine j_get (ci := 10) 31 (.ref 16) jC_10 dX11_takeTown_171 kg_RX11_56 rfl (okM_1 _) (shM_1 _) (fvM_1_31 _) ?_
    refine j_iload_n 1 dX11_takeTown_174 rfl rfl ?_
    replace h := bG_inv h
    obtain ⟨hi23, h⟩ := h
    refine j_iaload dX11_takeTown_175 (okM_16 _) (shM_16 _) (jin_spec hi23) ?_
    replace h := bG_inv h
    obtain ⟨hi24, h⟩ := h
    refine j_iastore dX11_takeTown_176 (okM_7 _) (shM_7 _) (jin_spec hi24) ?_
    replace h := bV_inv h
    obtain ⟨σ25, eσ25, h⟩ := h
    refine j_mem (congrArg eM eσ25) ?_
    refine j_aload_n 0 dX11_takeTown_177 rfl rfl ?_
    refine j_get (ci := 10) 10 (.ref 8) jC_10 dX11_takeTown_178 kg_RX11_28 rfl (okM_1 _) (shM_1 _) (fvM_1_10 _) ?_
    refine j_iload_n 1 dX11_takeTown_181 rfl rfl ?_
    refine j_aload_n 0 dX11_takeTown_182 rfl rfl ?_
    refine j_get (ci := 10) 32 (.ref 17) jC_10 dX11_takeTown_183 kg_RX11_59 rfl (okM_1 _) (shM_1 _) (fvM_1_32 _) ?_
    refine j_iload_n 1 dX11_takeTown_186 rfl rfl ?_
    replace h := bG_inv h
    obtain ⟨hi26, h⟩ := h
    refine j_iaload dX11_takeTown_187 (okM_17 _) (shM_17 _) (jin_spec hi26) ?_
    replace h := bG_inv h
    obtain ⟨hi27, h⟩ := h
    refine j_iastore dX11_takeTown_188 (okM_8 _) (shM_8 _) (jin_spec hi27) ?_
    replace h := bV_inv h
    obtain ⟨σ28, eσ28, h⟩ := h
    refine j_mem (congrArg eM eσ28) ?_
    refine j_aload_n 0 dX11_takeTown_189 rfl rfl ?_
    refine j_get (ci := 10) 11 (.ref 9) jC_10 dX11_takeTown_190 kg_RX11_31 rfl (okM_1 _) (shM_1 _) (fvM_1_11 _) ?_
    refine j_iload_n 1 dX11_takeTown_193 rfl rfl ?_
    refine j_aload_n 0 dX11_takeTown_194 rfl rfl ?_
    refine j_iload_n 1 dX11_takeTown_195 rfl rfl ?_
    replace h := bC_inv h
    obtain ⟨r29, cr29, h⟩ := h
    refine j_callV (ci := 10) (st1 := .int r29 :: _) (c_X11_toldCode g cr29) jy_X11_toldCode ki_yX11_toldCode ks_yX11_toldCode kl_RX11_246 dX11_takeTown_196 rfl (okM_1 _) (shM_1 _) rfl rfl rfl rfl (jbr _) (jbr _) hn.1 hn.2 (Or.inr rfl) rfl ?_
    replace h := bG_inv h
    obtain ⟨hi30, h⟩ := h
    refine j_iastore dX11_takeTown_199 (okM_9 _) (shM_9 _) (jin_spec hi30) ?_
    replace h := bV_inv h
    obtain ⟨σ31, eσ31, h⟩ := h
    refine j_mem (congrArg eM eσ31) ?_
    refine j_aload_n 0 dX11_takeTown_200 rfl rfl ?_
    refine j_get (ci := 10) 12 (.ref 10) jC_10 dX11_takeTown_201 kg_RX11_34 rfl (okM_1 _) (shM_1 _) (fvM_1_12 _) ?_
    refine j_iload_n 1 dX11_takeTown_204 rfl rfl ?_
    refine j_iconst (v := 0) dX11_takeTown_205 (by decide) ?_
    replace h := bG_inv h
    obtain ⟨hi32, h⟩ := h
    refine j_iastore dX11_takeTown_206 (okM_10 _) (shM_10 _) (jin_spec hi32) ?_
    replace h := bV_inv h
    obtain ⟨σ33, eσ33, h⟩ := h
    refine j_mem (congrArg eM eσ33) ?_
    replace h := bV_inv h
    obtain ⟨v34, ev34, h⟩ := h
    refine j_iinc (v := v34) [(1, .int v34), (0, .ref 1)] 1 dX11_takeTown_207 rfl (by rw [ev34]; rfl) (Nat.le_of_ble_eq_true rfl) rfl ?_
    refine j_goto 157 dX11_takeTown_210 (by decide) ?_
    replace h := Option.some.inj h
    subst h
    refine j_sub [(0, .ref 1), (1, .int v34)] [1, 0] rfl ?_
    exact hc0 _ hK
def f_X11_takeTown_J155 (σ : jS) : Option (Unit × jS) :=
  jloop jFuel (fun s => f_X11_takeTown_B157 s.2 s.1) (0, σ)
set_option maxHeartbeats 1000000 in
set_option maxRecDepth 20000 in
theorem f_X11_takeTown_J155_ok {g : Bool} {rv : Option Value} {μ' : jM} (σ : jS) {Kp : (Unit × jS) → Prop} (hn : Nat.ble nM μ'.1 = true ∧ Nat.ble wM μ'.2.1 = true) (hr : ∀ (r : Unit) (s : jS), Kp ((r, s)) → rv = none ∧ μ' = eM s) (o : (Unit × jS)) (h : f_X11_takeTown_J155 σ = some o) (hK : Kp o) : J yX11_takeTown cX11_takeTown 2 none 3 g rv μ' 155 [(0, .ref 1)] [] (eM σ) := by
  unfold f_X11_takeTown_J155 at h
  refine j_iconst (v := 0) dX11_takeTown_155 (by decide) ?_
  refine j_istore_n [(1, .int 0), (0, .ref 1)] dX11_takeTown_156 rfl (Nat.le_of_ble_eq_true rfl) rfl ?_
  refine j_sub [(0, .ref 1), (1, .int 0)] [1, 0] rfl ?_
  exact jloop_ok (fun s => f_X11_takeTown_B157 s.2 s.1) (fun s => J yX11_takeTown cX11_takeTown 2 none 3 g rv μ' 157 [(0, .ref 1), (1, .int s.1)] [] (eM s.2)) Kp (fun s o hb hk => f_X11_takeTown_B157_ok (Kp := jsum (fun s => J yX11_takeTown cX11_takeTown 2 none 3 g rv μ' 157 [(0, .ref 1), (1, .int s.1)] [] (eM s.2)) Kp) s.2 s.1 hn (fun r s q => hr r s q) (fun s q => q) o hb hk) jFuel _ _ h hK
def f_X11_takeTown_B129 (σ : jS) (x1 : Int32) : Option ((Int32 × jS) ⊕ (Unit × jS)) :=
  if (gI σ 1 6) ≤ x1 then (jw (f_X11_takeTown_J155 σ))
  else (bG (jin x1 120) (
  bG (jin x1 120) (
  bV (sI σ 6 (ix x1) (gI σ 15 (ix x1))) fun σ35 =>
  bV (x1 + 1) fun v36 =>
  some (.inl (v36, σ35)))))
set_option maxHeartbeats 1000000 in
set_option maxRecDepth 20000 in
theorem f_X11_takeTown_B129_ok {g : Bool} {rv : Option Value} {μ' : jM} (σ : jS) (x1 : Int32) {Kp : ((Int32 × jS) ⊕ (Unit × jS)) → Prop} (hn : Nat.ble nM μ'.1 = true ∧ Nat.ble wM μ'.2.1 = true) (hr : ∀ (r : Unit) (s : jS), Kp (.inr ((r, s))) → rv = none ∧ μ' = eM s) (hc0 : ∀ s : (Int32 × jS), Kp (.inl s) → J yX11_takeTown cX11_takeTown 2 none 3 g rv μ' 129 [(0, .ref 1), (1, .int s.1)] [] (eM s.2)) (o : ((Int32 × jS) ⊕ (Unit × jS))) (h : f_X11_takeTown_B129 σ x1 = some o) (hK : Kp o) : J yX11_takeTown cX11_takeTown 2 none 3 g rv μ' 129 [(0, .ref 1), (1, .int x1)] [] (eM σ) := by
  unfold f_X11_takeTown_B129 at h
  refine j_iload_n 1 dX11_takeTown_129 rfl rfl ?_
  refine j_aload_n 0 dX11_takeTown_130 rfl rfl ?_
  refine j_get (ci := 10) 6 (.int (gI σ 1 6)) jC_10 dX11_takeTown_131 kg_RX11_243 rfl (okM_1 _) (shM_1 _) (fvM_1_6 _) ?_
  refine j_icmp_ge 155 dX11_takeTown_134 (by decide) (fun hc37 => ?_) (fun hc37 => ?_)
  · replace h := jif_t hc37 h
    replace h := jw_inv h
    obtain ⟨o38, rfl, h⟩ := h
    refine j_sub [(0, .ref 1)] [0] rfl ?_
    exact f_X11_takeTown_J155_ok (Kp := fun o => Kp (.inr (o))) σ hn (fun r s q => hr r s q) _ h hK
  · replace h := jif_f hc37 h
    refine j_aload_n 0 dX11_takeTown_137 rfl rfl ?_
    refine j_get (ci := 10) 7 (.ref 6) jC_10 dX11_takeTown_138 kg_RX11_22 rfl (okM_1 _) (shM_1 _) (fvM_1_7 _) ?_
    refine j_iload_n 1 dX11_takeTown_141 rfl rfl ?_
    refine j_aload_n 0 dX11_takeTown_142 rfl rfl ?_
    refine j_get (ci := 10) 29 (.ref 15) jC_10 dX11_takeTown_143 kg_RX11_53 rfl (okM_1 _) (shM_1 _) (fvM_1_29 _) ?_
    refine j_iload_n 1 dX11_takeTown_146 rfl rfl ?_
    replace h := bG_inv h
    obtain ⟨hi39, h⟩ := h
    refine j_iaload dX11_takeTown_147 (okM_15 _) (shM_15 _) (jin_spec hi39) ?_
    replace h := bG_inv h
    obtain ⟨hi40, h⟩ := h
    refine j_iastore dX11_takeTown_148 (okM_6 _) (shM_6 _) (jin_spec hi40) ?_
    replace h := bV_inv h
    obtain ⟨σ41, eσ41, h⟩ := h
    refine j_mem (congrArg eM eσ41) ?_
    replace h := bV_inv h
    obtain ⟨v42, ev42, h⟩ := h
    refine j_iinc (v := v42) [(1, .int v42), (0, .ref 1)] 1 dX11_takeTown_149 rfl (by rw [ev42]; rfl) (Nat.le_of_ble_eq_true rfl) rfl ?_
    refine j_goto 129 dX11_takeTown_152 (by decide) ?_
    replace h := Option.some.inj h
    subst h
    refine j_sub [(0, .ref 1), (1, .int v42)] [1, 0] rfl ?_
    exact hc0 _ hK
def f_X11_takeTown_J127 (σ : jS) : Option (Unit × jS) :=
  jloop jFuel (fun s => f_X11_takeTown_B129 s.2 s.1) (0, σ)
set_option maxHeartbeats 1000000 in
set_option maxRecDepth 20000 in
theorem f_X11_takeTown_J127_ok {g : Bool} {rv : Option Value} {μ' : jM} (σ : jS) {Kp : (Unit × jS) → Prop} (hn : Nat.ble nM μ'.1 = true ∧ Nat.ble wM μ'.2.1 = true) (hr : ∀ (r : Unit) (s : jS), Kp ((r, s)) → rv = none ∧ μ' = eM s) (o : (Unit × jS)) (h : f_X11_takeTown_J127 σ = some o) (hK : Kp o) : J yX11_takeTown cX11_takeTown 2 none 3 g rv μ' 127 [(0, .ref 1)] [] (eM σ) := by
  unfold f_X11_takeTown_J127 at h
  refine j_iconst (v := 0) dX11_takeTown_127 (by decide) ?_
  refine j_istore_n [(1, .int 0), (0, .ref 1)] dX11_takeTown_128 rfl (Nat.le_of_ble_eq_true rfl) rfl ?_
  refine j_sub [(0, .ref 1), (1, .int 0)] [1, 0] rfl ?_
  exact jloop_ok (fun s => f_X11_takeTown_B129 s.2 s.1) (fun s => J yX11_takeTown cX11_takeTown 2 none 3 g rv μ' 129 [(0, .ref 1), (1, .int s.1)] [] (eM s.2)) Kp (fun s o hb hk => f_X11_takeTown_B129_ok (Kp := jsum (fun s => J yX11_takeTown cX11_takeTown 2 none 3 g rv μ' 129 [(0, .ref 1), (1, .int s.1)] [] (eM s.2)) Kp) s.2 s.1 hn (fun r s q => hr r s q) (fun s q => q) o hb hk) jFuel _ _ h hK
def f_X11_takeTown_B67 (σ : jS) (x1 : Int32) : Option ((Int32 × jS) ⊕ (Unit × jS)) :=
  if (gI σ 1 2) ≤ x1 then (jw (f_X11_takeTown_J127 σ))
  else (bG (jin x1 40) (
  bG (jin x1 40) (
  bV (sI σ 3 (ix x1) (gI σ 13 (ix x1))) fun σ43 =>
  bG (jin x1 40) (
  bG (jin x1 40) (
  bV (sI σ43 4 (ix x1) (gI σ43 14 (ix x1))) fun σ44 =>
  bG (jin x1 40) (
  bV (gI σ44 4 (ix x1)) fun v45 =>
  bG (jin v45 16) (
  bG (jin x1 40) (
  bG (jin v45 16) (
  bV (sI σ44 5 (ix v45) ((gI σ44 5 (ix v45)) ||| ((1 : Int32) <<< ((gI σ44 3 (ix x1)) &&& 31)))) fun σ46 =>
  bV (x1 + 1) fun v47 =>
  some (.inl (v47, σ46)))))))))))
set_option maxHeartbeats 1000000 in
set_option maxRecDepth 20000 in
theorem f_X11_takeTown_B67_ok {g : Bool} {rv : Option Value} {μ' : jM} (σ : jS) (x1 : Int32) {Kp : ((Int32 × jS) ⊕ (Unit × jS)) → Prop} (hn : Nat.ble nM μ'.1 = true ∧ Nat.ble wM μ'.2.1 = true) (hr : ∀ (r : Unit) (s : jS), Kp (.inr ((r, s))) → rv = none ∧ μ' = eM s) (hc0 : ∀ s : (Int32 × jS), Kp (.inl s) → J yX11_takeTown cX11_takeTown 2 none 3 g rv μ' 67 [(0, .ref 1), (1, .int s.1)] [] (eM s.2)) (o : ((Int32 × jS) ⊕ (Unit × jS))) (h : f_X11_takeTown_B67 σ x1 = some o) (hK : Kp o) : J yX11_takeTown cX11_takeTown 2 none 3 g rv μ' 67 [(0, .ref 1), (1, .int x1)] [] (eM σ) := by
  unfold f_X11_takeTown_B67 at h
  refine j_iload_n 1 dX11_takeTown_67 rfl rfl ?_
  refine j_aload_n 0 dX11_takeTown_68 rfl rfl ?_
  refine j_get (ci := 10) 2 (.int (gI σ 1 2)) jC_10 dX11_takeTown_69 kg_RX11_240 rfl (okM_1 _) (shM_1 _) (fvM_1_2 _) ?_
  refine j_icmp_ge 127 dX11_takeTown_72 (by decide) (fun hc48 => ?_) (fun hc48 => ?_)
  · replace h := jif_t hc48 h
    replace h := jw_inv h
    obtain ⟨o49, rfl, h⟩ := h
    refine j_sub [(0, .ref 1)] [0] rfl ?_
    exact f_X11_takeTown_J127_ok (Kp := fun o => Kp (.inr (o))) σ hn (fun r s q => hr r s q) _ h hK
  · replace h := jif_f hc48 h
    refine j_aload_n 0 dX11_takeTown_75 rfl rfl ?_
    refine j_get (ci := 10) 3 (.ref 3) jC_10 dX11_takeTown_76 kg_RX11_13 rfl (okM_1 _) (shM_1 _) (fvM_1_3 _) ?_
    refine j_iload_n 1 dX11_takeTown_79 rfl rfl ?_
    refine j_aload_n 0 dX11_takeTown_80 rfl rfl ?_
    refine j_get (ci := 10) 26 (.ref 13) jC_10 dX11_takeTown_81 kg_RX11_47 rfl (okM_1 _) (shM_1 _) (fvM_1_26 _) ?_
    refine j_iload_n 1 dX11_takeTown_84 rfl rfl ?_
    replace h := bG_inv h
    obtain ⟨hi50, h⟩ := h
    refine j_iaload dX11_takeTown_85 (okM_13 _) (shM_13 _) (jin_spec hi50) ?_
    replace h := bG_inv h
    obtain ⟨hi51, h⟩ := h
    refine j_iastore dX11_takeTown_86 (okM_3 _) (shM_3 _) (jin_spec hi51) ?_
    replace h := bV_inv h
    obtain ⟨σ52, eσ52, h⟩ := h
    refine j_mem (congrArg eM eσ52) ?_
    refine j_aload_n 0 dX11_takeTown_87 rfl rfl ?_
    refine j_get (ci := 10) 4 (.ref 4) jC_10 dX11_takeTown_88 kg_RX11_16 rfl (okM_1 _) (shM_1 _) (fvM_1_4 _) ?_
    refine j_iload_n 1 dX11_takeTown_91 rfl rfl ?_
    refine j_aload_n 0 dX11_takeTown_92 rfl rfl ?_
    refine j_get (ci := 10) 27 (.ref 14) jC_10 dX11_takeTown_93 kg_RX11_50 rfl (okM_1 _) (shM_1 _) (fvM_1_27 _) ?_
    refine j_iload_n 1 dX11_takeTown_96 rfl rfl ?_
    replace h := bG_inv h
    obtain ⟨hi53, h⟩ := h
    refine j_iaload dX11_takeTown_97 (okM_14 _) (shM_14 _) (jin_spec hi53) ?_
    replace h := bG_inv h
    obtain ⟨hi54, h⟩ := h
    refine j_iastore dX11_takeTown_98 (okM_4 _) (shM_4 _) (jin_spec hi54) ?_
    replace h := bV_inv h
    obtain ⟨σ55, eσ55, h⟩ := h
    refine j_mem (congrArg eM eσ55) ?_
    refine j_aload_n 0 dX11_takeTown_99 rfl rfl ?_
    refine j_get (ci := 10) 5 (.ref 5) jC_10 dX11_takeTown_100 kg_RX11_19 rfl (okM_1 _) (shM_1 _) (fvM_1_5 _) ?_
    refine j_aload_n 0 dX11_takeTown_103 rfl rfl ?_
    refine j_get (ci := 10) 4 (.ref 4) jC_10 dX11_takeTown_104 kg_RX11_16 rfl (okM_1 _) (shM_1 _) (fvM_1_4 _) ?_
    refine j_iload_n 1 dX11_takeTown_107 rfl rfl ?_
    replace h := bG_inv h
    obtain ⟨hi56, h⟩ := h
    refine j_iaload dX11_takeTown_108 (okM_4 _) (shM_4 _) (jin_spec hi56) ?_
    replace h := bV_inv h
    obtain ⟨v57, ev57, h⟩ := h
    refine j_nmi ev57 ?_
    refine j_dup2 dX11_takeTown_109 rfl rfl ?_
    replace h := bG_inv h
    obtain ⟨hi58, h⟩ := h
    refine j_iaload dX11_takeTown_110 (okM_5 _) (shM_5 _) (jin_spec hi58) ?_
    refine j_iconst (v := 1) dX11_takeTown_111 (by decide) ?_
    refine j_aload_n 0 dX11_takeTown_112 rfl rfl ?_
    refine j_get (ci := 10) 3 (.ref 3) jC_10 dX11_takeTown_113 kg_RX11_13 rfl (okM_1 _) (shM_1 _) (fvM_1_3 _) ?_
    refine j_iload_n 1 dX11_takeTown_116 rfl rfl ?_
    replace h := bG_inv h
    obtain ⟨hi59, h⟩ := h
    refine j_iaload dX11_takeTown_117 (okM_3 _) (shM_3 _) (jin_spec hi59) ?_
    refine j_ishl dX11_takeTown_118 ?_
    refine j_ior dX11_takeTown_119 ?_
    replace h := bG_inv h
    obtain ⟨hi60, h⟩ := h
    refine j_iastore dX11_takeTown_120 (okM_5 _) (shM_5 _) (jin_spec hi60) ?_
    replace h := bV_inv h
    obtain ⟨σ61, eσ61, h⟩ := h
    refine j_mem (congrArg eM eσ61) ?_
    replace h := bV_inv h
    obtain ⟨v62, ev62, h⟩ := h
    refine j_iinc (v := v62) [(1, .int v62), (0, .ref 1)] 1 dX11_takeTown_121 rfl (by rw [ev62]; rfl) (Nat.le_of_ble_eq_true rfl) rfl ?_
    refine j_goto 67 dX11_takeTown_124 (by decide) ?_
    replace h := Option.some.inj h
    subst h
    refine j_sub [(0, .ref 1), (1, .int v62)] [1, 0] rfl ?_
    exact hc0 _ hK
def f_X11_takeTown_J65 (σ : jS) : Option (Unit × jS) :=
  jloop jFuel (fun s => f_X11_takeTown_B67 s.2 s.1) (0, σ)
set_option maxHeartbeats 1000000 in
set_option maxRecDepth 20000 in
theorem f_X11_takeTown_J65_ok {g : Bool} {rv : Option Value} {μ' : jM} (σ : jS) {Kp : (Unit × jS) → Prop} (hn : Nat.ble nM μ'.1 = true ∧ Nat.ble wM μ'.2.1 = true) (hr : ∀ (r : Unit) (s : jS), Kp ((r, s)) → rv = none ∧ μ' = eM s) (o : (Unit × jS)) (h : f_X11_takeTown_J65 σ = some o) (hK : Kp o) : J yX11_takeTown cX11_takeTown 2 none 3 g rv μ' 65 [(0, .ref 1)] [] (eM σ) := by
  unfold f_X11_takeTown_J65 at h
  refine j_iconst (v := 0) dX11_takeTown_65 (by decide) ?_
  refine j_istore_n [(1, .int 0), (0, .ref 1)] dX11_takeTown_66 rfl (Nat.le_of_ble_eq_true rfl) rfl ?_
  refine j_sub [(0, .ref 1), (1, .int 0)] [1, 0] rfl ?_
  exact jloop_ok (fun s => f_X11_takeTown_B67 s.2 s.1) (fun s => J yX11_takeTown cX11_takeTown 2 none 3 g rv μ' 67 [(0, .ref 1), (1, .int s.1)] [] (eM s.2)) Kp (fun s o hb hk => f_X11_takeTown_B67_ok (Kp := jsum (fun s => J yX11_takeTown cX11_takeTown 2 none 3 g rv μ' 67 [(0, .ref 1), (1, .int s.1)] [] (eM s.2)) Kp) s.2 s.1 hn (fun r s q => hr r s q) (fun s q => q) o hb hk) jFuel _ _ h hK
def f_X11_takeTown_B34 (σ : jS) (x1 : Int32) : Option ((Int32 × jS) ⊕ (Unit × jS)) :=
  if 16 ≤ x1 then (jw (f_X11_takeTown_J65 σ))
  else (bG (jin x1 16) (
  bG (jin x1 16) (
  bV (sI σ 2 (ix x1) (gI σ 12 (ix x1))) fun σ63 =>
  bG (jin x1 16) (
  bV (sI σ63 5 (ix x1) 0) fun σ64 =>
  bV (x1 + 1) fun v65 =>
  some (.inl (v65, σ64))))))
set_option maxHeartbeats 1000000 in
set_option maxRecDepth 20000 in
theorem f_X11_takeTown_B34_ok {g : Bool} {rv : Option Value} {μ' : jM} (σ : jS) (x1 : Int32) {Kp : ((Int32 × jS) ⊕ (Unit × jS)) → Prop} (hn : Nat.ble nM μ'.1 = true ∧ Nat.ble wM μ'.2.1 = true) (hr : ∀ (r : Unit) (s : jS), Kp (.inr ((r, s))) → rv = none ∧ μ' = eM s) (hc0 : ∀ s : (Int32 × jS), Kp (.inl s) → J yX11_takeTown cX11_takeTown 2 none 3 g rv μ' 34 [(0, .ref 1), (1, .int s.1)] [] (eM s.2)) (o : ((Int32 × jS) ⊕ (Unit × jS))) (h : f_X11_takeTown_B34 σ x1 = some o) (hK : Kp o) : J yX11_takeTown cX11_takeTown 2 none 3 g rv μ' 34 [(0, .ref 1), (1, .int x1)] [] (eM σ) := by
  unfold f_X11_takeTown_B34 at h
  refine j_iload_n 1 dX11_takeTown_34 rfl rfl ?_
  refine j_bipush (v := 16) dX11_takeTown_35 (by decide) ?_
  refine j_icmp_ge 65 dX11_takeTown_37 (by decide) (fun hc66 => ?_) (fun hc66 => ?_)
  · replace h := jif_t hc66 h
    replace h := jw_inv h
    obtain ⟨o67, rfl, h⟩ := h
    refine j_sub [(0, .ref 1)] [0] rfl ?_
    exact f_X11_takeTown_J65_ok (Kp := fun o => Kp (.inr (o))) σ hn (fun r s q => hr r s q) _ h hK
  · replace h := jif_f hc66 h
    refine j_aload_n 0 dX11_takeTown_40 rfl rfl ?_
    refine j_get (ci := 10) 1 (.ref 2) jC_10 dX11_takeTown_41 kg_RX11_7 rfl (okM_1 _) (shM_1 _) (fvM_1_1 _) ?_
    refine j_iload_n 1 dX11_takeTown_44 rfl rfl ?_
    refine j_aload_n 0 dX11_takeTown_45 rfl rfl ?_
    refine j_get (ci := 10) 24 (.ref 12) jC_10 dX11_takeTown_46 kg_RX11_44 rfl (okM_1 _) (shM_1 _) (fvM_1_24 _) ?_
    refine j_iload_n 1 dX11_takeTown_49 rfl rfl ?_
    replace h := bG_inv h
    obtain ⟨hi68, h⟩ := h
    refine j_iaload dX11_takeTown_50 (okM_12 _) (shM_12 _) (jin_spec hi68) ?_
    replace h := bG_inv h
    obtain ⟨hi69, h⟩ := h
    refine j_iastore dX11_takeTown_51 (okM_2 _) (shM_2 _) (jin_spec hi69) ?_
    replace h := bV_inv h
    obtain ⟨σ70, eσ70, h⟩ := h
    refine j_mem (congrArg eM eσ70) ?_
    refine j_aload_n 0 dX11_takeTown_52 rfl rfl ?_
    refine j_get (ci := 10) 5 (.ref 5) jC_10 dX11_takeTown_53 kg_RX11_19 rfl (okM_1 _) (shM_1 _) (fvM_1_5 _) ?_
    refine j_iload_n 1 dX11_takeTown_56 rfl rfl ?_
    refine j_iconst (v := 0) dX11_takeTown_57 (by decide) ?_
    replace h := bG_inv h
    obtain ⟨hi71, h⟩ := h
    refine j_iastore dX11_takeTown_58 (okM_5 _) (shM_5 _) (jin_spec hi71) ?_
    replace h := bV_inv h
    obtain ⟨σ72, eσ72, h⟩ := h
    refine j_mem (congrArg eM eσ72) ?_
    replace h := bV_inv h
    obtain ⟨v73, ev73, h⟩ := h
    refine j_iinc (v := v73) [(1, .int v73), (0, .ref 1)] 1 dX11_takeTown_59 rfl (by rw [ev73]; rfl) (Nat.le_of_ble_eq_true rfl) rfl ?_
    refine j_goto 34 dX11_takeTown_62 (by decide) ?_
    replace h := Option.some.inj h
    subst h
    refine j_sub [(0, .ref 1), (1, .int v73)] [1, 0] rfl ?_
    exact hc0 _ hK
def f_X11_takeTown (σ : jS) : Option (Unit × jS) :=
  bV (sI σ 1 0 (gI σ 1 23)) fun σ1 =>
  bV (sI σ1 1 2 (gI σ1 1 25)) fun σ2 =>
  bV (sI σ2 1 6 (gI σ2 1 28)) fun σ3 =>
  bV (sI σ3 1 8 (gI σ3 1 30)) fun σ4 =>
  jloop jFuel (fun s => f_X11_takeTown_B34 s.2 s.1) (0, σ4)
set_option maxHeartbeats 1000000 in
set_option maxRecDepth 20000 in
theorem f_X11_takeTown_ok {g : Bool} {rv : Option Value} {μ' : jM} (σ : jS) {Kp : (Unit × jS) → Prop} (hn : Nat.ble nM μ'.1 = true ∧ Nat.ble wM μ'.2.1 = true) (hr : ∀ (r : Unit) (s : jS), Kp ((r, s)) → rv = none ∧ μ' = eM s) (o : (Unit × jS)) (h : f_X11_takeTown σ = some o) (hK : Kp o) : J yX11_takeTown cX11_takeTown 2 none 3 g rv μ' 0 [(0, .ref 1)] [] (eM σ) := by
  unfold f_X11_takeTown at h
  refine j_aload_n 0 dX11_takeTown_0 rfl rfl ?_
  refine j_aload_n 0 dX11_takeTown_1 rfl rfl ?_
  refine j_get (ci := 10) 23 (.int (gI σ 1 23)) jC_10 dX11_takeTown_2 kg_RX11_198 rfl (okM_1 _) (shM_1 _) (fvM_1_23 _) ?_
  replace h := bV_inv h
  obtain ⟨σ74, eσ74, h⟩ := h
  refine j_putI 0 jC_10 dX11_takeTown_5 kg_RX11_141 (Or.inl ff_10_0) rfl fk_10_0 (fn_10_0 _) (okM_1 _) (shM_1 _) ?_
  refine j_mem (congrArg eM eσ74) ?_
  refine j_aload_n 0 dX11_takeTown_8 rfl rfl ?_
  refine j_aload_n 0 dX11_takeTown_9 rfl rfl ?_
  refine j_get (ci := 10) 25 (.int (gI σ74 1 25)) jC_10 dX11_takeTown_10 kg_RX11_210 rfl (okM_1 _) (shM_1 _) (fvM_1_25 _) ?_
  replace h := bV_inv h
  obtain ⟨σ75, eσ75, h⟩ := h
  refine j_putI 2 jC_10 dX11_takeTown_13 kg_RX11_240 (Or.inl ff_10_2) rfl fk_10_2 (fn_10_2 _) (okM_1 _) (shM_1 _) ?_
  refine j_mem (congrArg eM eσ75) ?_
  refine j_aload_n 0 dX11_takeTown_16 rfl rfl ?_
  refine j_aload_n 0 dX11_takeTown_17 rfl rfl ?_
  refine j_get (ci := 10) 28 (.int (gI σ75 1 28)) jC_10 dX11_takeTown_18 kg_RX11_213 rfl (okM_1 _) (shM_1 _) (fvM_1_28 _) ?_
  replace h := bV_inv h
  obtain ⟨σ76, eσ76, h⟩ := h
  refine j_putI 6 jC_10 dX11_takeTown_21 kg_RX11_243 (Or.inl ff_10_6) rfl fk_10_6 (fn_10_6 _) (okM_1 _) (shM_1 _) ?_
  refine j_mem (congrArg eM eσ76) ?_
  refine j_aload_n 0 dX11_takeTown_24 rfl rfl ?_
  refine j_aload_n 0 dX11_takeTown_25 rfl rfl ?_
  refine j_get (ci := 10) 30 (.int (gI σ76 1 30)) jC_10 dX11_takeTown_26 kg_RX11_227 rfl (okM_1 _) (shM_1 _) (fvM_1_30 _) ?_
  replace h := bV_inv h
  obtain ⟨σ77, eσ77, h⟩ := h
  refine j_putI 8 jC_10 dX11_takeTown_29 kg_RX11_148 (Or.inl ff_10_8) rfl fk_10_8 (fn_10_8 _) (okM_1 _) (shM_1 _) ?_
  refine j_mem (congrArg eM eσ77) ?_
  refine j_iconst (v := 0) dX11_takeTown_32 (by decide) ?_
  refine j_istore_n [(1, .int 0), (0, .ref 1)] dX11_takeTown_33 rfl (Nat.le_of_ble_eq_true rfl) rfl ?_
  refine j_sub [(0, .ref 1), (1, .int 0)] [1, 0] rfl ?_
  exact jloop_ok (fun s => f_X11_takeTown_B34 s.2 s.1) (fun s => J yX11_takeTown cX11_takeTown 2 none 3 g rv μ' 34 [(0, .ref 1), (1, .int s.1)] [] (eM s.2)) Kp (fun s o hb hk => f_X11_takeTown_B34_ok (Kp := jsum (fun s => J yX11_takeTown cX11_takeTown 2 none 3 g rv μ' 34 [(0, .ref 1), (1, .int s.1)] [] (eM s.2)) Kp) s.2 s.1 hn (fun r s q => hr r s q) (fun s q => q) o hb hk) jFuel _ _ h hK
theorem c_X11_takeTown (g : Bool) {σ : jS} {r : Unit} {σ2 : jS} (h : f_X11_takeTown σ = some (r, σ2)) : Cn yX11_takeTown cX11_takeTown 2 none 3 g [.ref 1] (eM σ) none (eM σ2) :=
  Cn_of (by decide) (Nat.le_refl _) (Nat.le_refl _) (Nat.le_of_ble_eq_true rfl) (f_X11_takeTown_ok (Kp := (fun o => o = (r, σ2))) σ ⟨jbr _, jbr _⟩ (fun r2 s2 q => by cases q; exact ⟨rfl, rfl⟩) _ h rfl)
def f_X11_town_J51 (σ : jS) (x1 : Int32) : Option (Int32 × jS) :=
  bV (sI σ 1 16 0) fun σ7 =>
  if x1 ≤ 0 then (bD (f_X11_takeTown σ7) fun r8 σ9 =>
  some ((gI σ9 1 0, σ9)))
  else (some ((((-10) : Int32) - x1, σ7)))
set_option maxHeartbeats 1000000 in
set_option maxRecDepth 20000 in
theorem f_X11_town_J51_ok {g : Bool} {rv : Option Value} {μ' : jM} (σ : jS) (x1 : Int32) {Kp : (Int32 × jS) → Prop} (hn : Nat.ble nM μ'.1 = true ∧ Nat.ble wM μ'.2.1 = true) (hr : ∀ (r : Int32) (s : jS), Kp ((r, s)) → rv = some (.int r) ∧ μ' = eM s) (o : (Int32 × jS)) (h : f_X11_town_J51 σ x1 = some o) (hK : Kp o) : J yX11_town cX11_town 2 (some .int) 5 g rv μ' 51 [(0, .ref 1), (1, .int x1)] [] (eM σ) := by
  unfold f_X11_town_J51 at h
  refine j_aload_n 0 dX11_town_51 rfl rfl ?_
  refine j_iconst (v := 0) dX11_town_52 (by decide) ?_
  replace h := bV_inv h
  obtain ⟨σ10, eσ10, h⟩ := h
  refine j_putI 16 jC_10 dX11_town_53 kg_RX11_153 (Or.inl ff_10_16) rfl fk_10_16 (fn_10_16 _) (okM_1 _) (shM_1 _) ?_
  refine j_mem (congrArg eM eσ10) ?_
  refine j_iload_n 1 dX11_town_56 rfl rfl ?_
  refine j_if_le 65 dX11_town_57 (by decide) (fun hc11 => ?_) (fun hc11 => ?_)
  · replace h := jif_t hc11 h
    refine j_aload_n 0 dX11_town_65 rfl rfl ?_
    replace h := bD_inv h
    obtain ⟨r12, σ13, cr12, h⟩ := h
    refine j_callV (ci := 10) (st1 := _) (c_X11_takeTown g cr12) jy_X11_takeTown ki_yX11_takeTown ks_yX11_takeTown kl_RX11_237 dX11_town_66 rfl (okM_1 _) (shM_1 _) rfl rfl rfl rfl (jbr _) (jbr _) hn.1 hn.2 (Or.inr rfl) rfl ?_
    refine j_aload_n 0 dX11_town_69 rfl rfl ?_
    refine j_get (ci := 10) 0 (.int (gI σ13 1 0)) jC_10 dX11_town_70 kg_RX11_141 rfl (okM_1 _) (shM_1 _) (fvM_1_0 _) ?_
    replace h := Option.some.inj h
    subst h
    obtain ⟨hr1, hr2⟩ := hr _ _ hK
    exact j_iret dX11_town_73 hr1 hr2
  · replace h := jif_f hc11 h
    refine j_bipush (v := (-10)) dX11_town_60 (by decide) ?_
    refine j_iload_n 1 dX11_town_62 rfl rfl ?_
    refine j_isub dX11_town_63 ?_
    replace h := Option.some.inj h
    subst h
    obtain ⟨hr1, hr2⟩ := hr _ _ hK
    exact j_iret dX11_town_64 hr1 hr2
def f_X11_town_B32 (σ : jS) (x1 : Int32) : Option ((Int32 × jS) ⊕ (Int32 × jS)) :=
  if x1 = 0 then (bD (f_X11_here σ) fun r14 σ15 =>
  if r14 < 0 then (jw (f_X11_town_J51 σ15 x1))
  else (bD (f_X11_takeClause σ15) fun r16 σ17 =>
  some (.inl (r16, σ17))))
  else (jw (f_X11_town_J51 σ x1))
set_option maxHeartbeats 1000000 in
set_option maxRecDepth 20000 in
theorem f_X11_town_B32_ok {g : Bool} {rv : Option Value} {μ' : jM} (σ : jS) (x1 : Int32) {Kp : ((Int32 × jS) ⊕ (Int32 × jS)) → Prop} (hn : Nat.ble nM μ'.1 = true ∧ Nat.ble wM μ'.2.1 = true) (hr : ∀ (r : Int32) (s : jS), Kp (.inr ((r, s))) → rv = some (.int r) ∧ μ' = eM s) (hc0 : ∀ s : (Int32 × jS), Kp (.inl s) → J yX11_town cX11_town 2 (some .int) 5 g rv μ' 32 [(0, .ref 1), (1, .int s.1)] [] (eM s.2)) (o : ((Int32 × jS) ⊕ (Int32 × jS))) (h : f_X11_town_B32 σ x1 = some o) (hK : Kp o) : J yX11_town cX11_town 2 (some .int) 5 g rv μ' 32 [(0, .ref 1), (1, .int x1)] [] (eM σ) := by
  unfold f_X11_town_B32 at h
  refine j_iload_n 1 dX11_town_32 rfl rfl ?_
  refine j_if_ne 51 dX11_town_33 (by decide) (fun hc18 => ?_) (fun hc18 => ?_)
  · replace h := jif_f hc18 h
    replace h := jw_inv h
    obtain ⟨o19, rfl, h⟩ := h
    exact f_X11_town_J51_ok (Kp := fun o => Kp (.inr (o))) σ x1 hn (fun r s q => hr r s q) _ h hK
  · replace h := jif_t hc18 h
    refine j_aload_n 0 dX11_town_36 rfl rfl ?_
    replace h := bD_inv h
    obtain ⟨r20, σ21, cr20, h⟩ := h
    refine j_callV (ci := 10) (st1 := .int r20 :: _) (c_X11_here g cr20) jy_X11_here ki_yX11_here ks_yX11_here kl_RX11_161 dX11_town_37 rfl (okM_1 _) (shM_1 _) rfl rfl rfl rfl (jbr _) (jbr _) hn.1 hn.2 (Or.inr rfl) rfl ?_
    refine j_if_lt 51 dX11_town_40 (by decide) (fun hc22 => ?_) (fun hc22 => ?_)
    · replace h := jif_t hc22 h
      replace h := jw_inv h
      obtain ⟨o23, rfl, h⟩ := h
      exact f_X11_town_J51_ok (Kp := fun o => Kp (.inr (o))) σ21 x1 hn (fun r s q => hr r s q) _ h hK
    · replace h := jif_f hc22 h
      refine j_aload_n 0 dX11_town_43 rfl rfl ?_
      replace h := bD_inv h
      obtain ⟨r24, σ25, cr24, h⟩ := h
      refine j_callV (ci := 10) (st1 := .int r24 :: _) (c_X11_takeClause g cr24) jy_X11_takeClause ki_yX11_takeClause ks_yX11_takeClause kl_RX11_234 dX11_town_44 rfl (okM_1 _) (shM_1 _) rfl rfl rfl rfl (jbr _) (jbr _) hn.1 hn.2 (Or.inr rfl) rfl ?_
      refine j_istore_n [(1, .int r24), (0, .ref 1)] dX11_town_47 rfl (Nat.le_of_ble_eq_true rfl) rfl ?_
      refine j_goto 32 dX11_town_48 (by decide) ?_
      replace h := Option.some.inj h
      subst h
      refine j_sub [(0, .ref 1), (1, .int r24)] [1, 0] rfl ?_
      exact hc0 _ hK
def f_X11_town (σ : jS) : Option (Int32 × jS) :=
  bV (sI σ 1 17 (-1)) fun σ1 =>
  bV (sI σ1 1 18 0) fun σ2 =>
  bV (sI σ2 1 23 0) fun σ3 =>
  bV (sI σ3 1 25 0) fun σ4 =>
  bV (sI σ4 1 28 0) fun σ5 =>
  bV (sI σ5 1 30 0) fun σ6 =>
  jloop jFuel (fun s => f_X11_town_B32 s.2 s.1) (0, σ6)
set_option maxHeartbeats 1000000 in
set_option maxRecDepth 20000 in
theorem f_X11_town_ok {g : Bool} {rv : Option Value} {μ' : jM} (σ : jS) {Kp : (Int32 × jS) → Prop} (hn : Nat.ble nM μ'.1 = true ∧ Nat.ble wM μ'.2.1 = true) (hr : ∀ (r : Int32) (s : jS), Kp ((r, s)) → rv = some (.int r) ∧ μ' = eM s) (o : (Int32 × jS)) (h : f_X11_town σ = some o) (hK : Kp o) : J yX11_town cX11_town 2 (some .int) 5 g rv μ' 0 [(0, .ref 1)] [] (eM σ) := by
  unfold f_X11_town at h
  refine j_aload_n 0 dX11_town_0 rfl rfl ?_
  refine j_iconst (v := (-1)) dX11_town_1 (by decide) ?_
  replace h := bV_inv h
  obtain ⟨σ26, eσ26, h⟩ := h
  refine j_putI 17 jC_10 dX11_town_2 kg_RX11_40 (Or.inl ff_10_17) rfl fk_10_17 (fn_10_17 _) (okM_1 _) (shM_1 _) ?_
  refine j_mem (congrArg eM eσ26) ?_
  refine j_aload_n 0 dX11_town_5 rfl rfl ?_
  refine j_iconst (v := 0) dX11_town_6 (by decide) ?_
  replace h := bV_inv h
  obtain ⟨σ27, eσ27, h⟩ := h
  refine j_putI 18 jC_10 dX11_town_7 kg_RX11_158 (Or.inl ff_10_18) rfl fk_10_18 (fn_10_18 _) (okM_1 _) (shM_1 _) ?_
  refine j_mem (congrArg eM eσ27) ?_
  refine j_aload_n 0 dX11_town_10 rfl rfl ?_
  refine j_iconst (v := 0) dX11_town_11 (by decide) ?_
  replace h := bV_inv h
  obtain ⟨σ28, eσ28, h⟩ := h
  refine j_putI 23 jC_10 dX11_town_12 kg_RX11_198 (Or.inl ff_10_23) rfl fk_10_23 (fn_10_23 _) (okM_1 _) (shM_1 _) ?_
  refine j_mem (congrArg eM eσ28) ?_
  refine j_aload_n 0 dX11_town_15 rfl rfl ?_
  refine j_iconst (v := 0) dX11_town_16 (by decide) ?_
  replace h := bV_inv h
  obtain ⟨σ29, eσ29, h⟩ := h
  refine j_putI 25 jC_10 dX11_town_17 kg_RX11_210 (Or.inl ff_10_25) rfl fk_10_25 (fn_10_25 _) (okM_1 _) (shM_1 _) ?_
  refine j_mem (congrArg eM eσ29) ?_
  refine j_aload_n 0 dX11_town_20 rfl rfl ?_
  refine j_iconst (v := 0) dX11_town_21 (by decide) ?_
  replace h := bV_inv h
  obtain ⟨σ30, eσ30, h⟩ := h
  refine j_putI 28 jC_10 dX11_town_22 kg_RX11_213 (Or.inl ff_10_28) rfl fk_10_28 (fn_10_28 _) (okM_1 _) (shM_1 _) ?_
  refine j_mem (congrArg eM eσ30) ?_
  refine j_aload_n 0 dX11_town_25 rfl rfl ?_
  refine j_iconst (v := 0) dX11_town_26 (by decide) ?_
  replace h := bV_inv h
  obtain ⟨σ31, eσ31, h⟩ := h
  refine j_putI 30 jC_10 dX11_town_27 kg_RX11_227 (Or.inl ff_10_30) rfl fk_10_30 (fn_10_30 _) (okM_1 _) (shM_1 _) ?_
  refine j_mem (congrArg eM eσ31) ?_
  refine j_iconst (v := 0) dX11_town_30 (by decide) ?_
  refine j_istore_n [(1, .int 0), (0, .ref 1)] dX11_town_31 rfl (Nat.le_of_ble_eq_true rfl) rfl ?_
  refine j_sub [(0, .ref 1), (1, .int 0)] [1, 0] rfl ?_
  exact jloop_ok (fun s => f_X11_town_B32 s.2 s.1) (fun s => J yX11_town cX11_town 2 (some .int) 5 g rv μ' 32 [(0, .ref 1), (1, .int s.1)] [] (eM s.2)) Kp (fun s o hb hk => f_X11_town_B32_ok (Kp := jsum (fun s => J yX11_town cX11_town 2 (some .int) 5 g rv μ' 32 [(0, .ref 1), (1, .int s.1)] [] (eM s.2)) Kp) s.2 s.1 hn (fun r s q => hr r s q) (fun s q => q) o hb hk) jFuel _ _ h hK
theorem c_X11_town (g : Bool) {σ : jS} {r : Int32} {σ2 : jS} (h : f_X11_town σ = some (r, σ2)) : Cn yX11_town cX11_town 2 (some .int) 5 g [.ref 1] (eM σ) (some (.int r)) (eM σ2) :=
  Cn_of (by decide) (Nat.le_refl _) (Nat.le_refl _) (Nat.le_of_ble_eq_true rfl) (f_X11_town_ok (Kp := (fun o => o = (r, σ2))) σ ⟨jbr _, jbr _⟩ (fun r2 s2 q => by cases q; exact ⟨rfl, rfl⟩) _ h rfl)
def f_X11_fault (σ : jS) : Option Int32 :=
  some ((gI σ 1 17))
set_option maxHeartbeats 1000000 in
set_option maxRecDepth 20000 in
theorem f_X11_fault_ok {g : Bool} {rv : Option Value} {μ' : jM} (σ : jS) {Kp : Int32 → Prop} (hn : Nat.ble nM μ'.1 = true ∧ Nat.ble wM μ'.2.1 = true) (hr : ∀ r : Int32, Kp (r) → rv = some (.int r) ∧ μ' = (eM σ)) (o : Int32) (h : f_X11_fault σ = some o) (hK : Kp o) : J yX11_fault cX11_fault 1 (some .int) 1 g rv μ' 0 [(0, .ref 1)] [] (eM σ) := by
  unfold f_X11_fault at h
  refine j_aload_n 0 dX11_fault_0 rfl rfl ?_
  refine j_get (ci := 10) 17 (.int (gI σ 1 17)) jC_10 dX11_fault_1 kg_RX11_40 rfl (okM_1 _) (shM_1 _) (fvM_1_17 _) ?_
  replace h := Option.some.inj h
  subst h
  obtain ⟨hr1, hr2⟩ := hr _ hK
  exact j_iret dX11_fault_4 hr1 hr2
theorem c_X11_fault (g : Bool) {σ : jS} {r : Int32} (h : f_X11_fault σ = some r) : Cn yX11_fault cX11_fault 1 (some .int) 1 g [.ref 1] (eM σ) (some (.int r)) (eM σ) :=
  Cn_of (by decide) (Nat.le_refl _) (Nat.le_refl _) (Nat.le_of_ble_eq_true rfl) (f_X11_fault_ok (Kp := (fun o => o = r)) σ ⟨jbr _, jbr _⟩ (fun r2 q => by cases q; exact ⟨rfl, rfl⟩) _ h rfl)
def f_X11_count (σ : jS) (x1 : Int32) : Option Int32 :=
  if x1 = 0 then (some ((gI σ 1 0)))
  else if x1 = 1 then (some ((gI σ 1 2)))
  else if x1 = 2 then (some ((gI σ 1 6)))
  else if x1 = 3 then (some ((gI σ 1 8)))
  else if x1 = 4 then (some ((gI σ 1 16)))
  else if x1 = 5 then (some ((gI σ 1 56)))
  else if x1 = 6 then (some ((gI σ 1 59)))
  else (some ((-1002)))
set_option maxHeartbeats 1000000 in
set_option maxRecDepth 20000 in
theorem f_X11_count_ok {g : Bool} {rv : Option Value} {μ' : jM} (σ : jS) (x1 : Int32) {Kp : Int32 → Prop} (hn : Nat.ble nM μ'.1 = true ∧ Nat.ble wM μ'.2.1 = true) (hr : ∀ r : Int32, Kp (r) → rv = some (.int r) ∧ μ' = (eM σ)) (o : Int32) (h : f_X11_count σ x1 = some o) (hK : Kp o) : J yX11_count cX11_count 2 (some .int) 1 g rv μ' 0 [(0, .ref 1), (1, .int x1)] [] (eM σ) := by
  unfold f_X11_count at h
  refine j_iload_n 1 dX11_count_0 rfl rfl ?_
  by_cases hc1 : x1 = 0
  · replace h := jif_t hc1 h
    refine j_tblIn 44 dX11_count_1 (by rw [hc1]; decide) (by rw [hc1]; decide) (by rw [hc1]; rfl) (by decide) ?_
    refine j_aload_n 0 dX11_count_44 rfl rfl ?_
    refine j_get (ci := 10) 0 (.int (gI σ 1 0)) jC_10 dX11_count_45 kg_RX11_141 rfl (okM_1 _) (shM_1 _) (fvM_1_0 _) ?_
    replace h := Option.some.inj h
    subst h
    obtain ⟨hr1, hr2⟩ := hr _ hK
    exact j_iret dX11_count_48 hr1 hr2
  replace h := jif_f hc1 h
  by_cases hc2 : x1 = 1
  · replace h := jif_t hc2 h
    refine j_tblIn 49 dX11_count_1 (by rw [hc2]; decide) (by rw [hc2]; decide) (by rw [hc2]; rfl) (by decide) ?_
    refine j_aload_n 0 dX11_count_49 rfl rfl ?_
    refine j_get (ci := 10) 2 (.int (gI σ 1 2)) jC_10 dX11_count_50 kg_RX11_240 rfl (okM_1 _) (shM_1 _) (fvM_1_2 _) ?_
    replace h := Option.some.inj h
    subst h
    obtain ⟨hr1, hr2⟩ := hr _ hK
    exact j_iret dX11_count_53 hr1 hr2
  replace h := jif_f hc2 h
  by_cases hc3 : x1 = 2
  · replace h := jif_t hc3 h
    refine j_tblIn 54 dX11_count_1 (by rw [hc3]; decide) (by rw [hc3]; decide) (by rw [hc3]; rfl) (by decide) ?_
    refine j_aload_n 0 dX11_count_54 rfl rfl ?_
    refine j_get (ci := 10) 6 (.int (gI σ 1 6)) jC_10 dX11_count_55 kg_RX11_243 rfl (okM_1 _) (shM_1 _) (fvM_1_6 _) ?_
    replace h := Option.some.inj h
    subst h
    obtain ⟨hr1, hr2⟩ := hr _ hK
    exact j_iret dX11_count_58 hr1 hr2
  replace h := jif_f hc3 h
  by_cases hc4 : x1 = 3
  · replace h := jif_t hc4 h
    refine j_tblIn 59 dX11_count_1 (by rw [hc4]; decide) (by rw [hc4]; decide) (by rw [hc4]; rfl) (by decide) ?_
    refine j_aload_n 0 dX11_count_59 rfl rfl ?_
    refine j_get (ci := 10) 8 (.int (gI σ 1 8)) jC_10 dX11_count_60 kg_RX11_148 rfl (okM_1 _) (shM_1 _) (fvM_1_8 _) ?_
    replace h := Option.some.inj h
    subst h
    obtain ⟨hr1, hr2⟩ := hr _ hK
    exact j_iret dX11_count_63 hr1 hr2
  replace h := jif_f hc4 h
  by_cases hc5 : x1 = 4
  · replace h := jif_t hc5 h
    refine j_tblIn 64 dX11_count_1 (by rw [hc5]; decide) (by rw [hc5]; decide) (by rw [hc5]; rfl) (by decide) ?_
    refine j_aload_n 0 dX11_count_64 rfl rfl ?_
    refine j_get (ci := 10) 16 (.int (gI σ 1 16)) jC_10 dX11_count_65 kg_RX11_153 rfl (okM_1 _) (shM_1 _) (fvM_1_16 _) ?_
    replace h := Option.some.inj h
    subst h
    obtain ⟨hr1, hr2⟩ := hr _ hK
    exact j_iret dX11_count_68 hr1 hr2
  replace h := jif_f hc5 h
  by_cases hc6 : x1 = 5
  · replace h := jif_t hc6 h
    refine j_tblIn 69 dX11_count_1 (by rw [hc6]; decide) (by rw [hc6]; decide) (by rw [hc6]; rfl) (by decide) ?_
    refine j_aload_n 0 dX11_count_69 rfl rfl ?_
    refine j_get (ci := 10) 56 (.int (gI σ 1 56)) jC_10 dX11_count_70 kg_RX11_249 rfl (okM_1 _) (shM_1 _) (fvM_1_56 _) ?_
    replace h := Option.some.inj h
    subst h
    obtain ⟨hr1, hr2⟩ := hr _ hK
    exact j_iret dX11_count_73 hr1 hr2
  replace h := jif_f hc6 h
  by_cases hc7 : x1 = 6
  · replace h := jif_t hc7 h
    refine j_tblIn 74 dX11_count_1 (by rw [hc7]; decide) (by rw [hc7]; decide) (by rw [hc7]; rfl) (by decide) ?_
    refine j_aload_n 0 dX11_count_74 rfl rfl ?_
    refine j_get (ci := 10) 59 (.int (gI σ 1 59)) jC_10 dX11_count_75 kg_RX11_252 rfl (okM_1 _) (shM_1 _) (fvM_1_59 _) ?_
    replace h := Option.some.inj h
    subst h
    obtain ⟨hr1, hr2⟩ := hr _ hK
    exact j_iret dX11_count_78 hr1 hr2
  replace h := jif_f hc7 h
  refine j_tblOut 79 dX11_count_1 (jsw_out (by decide) (by decide) (fun q h1 h2 => ?_)) (by decide) ?_
  · clear h; match q, h1, h2 with
    | 0, _, _ => exact hc1
    | 1, _, _ => exact hc2
    | 2, _, _ => exact hc3
    | 3, _, _ => exact hc4
    | 4, _, _ => exact hc5
    | 5, _, _ => exact hc6
    | 6, _, _ => exact hc7
  · skip
    refine j_sipush (v := (-1002)) dX11_count_79 (by decide) ?_
    replace h := Option.some.inj h
    subst h
    obtain ⟨hr1, hr2⟩ := hr _ hK
    exact j_iret dX11_count_82 hr1 hr2
theorem c_X11_count (g : Bool) {σ : jS} {x1 : Int32} {r : Int32} (h : f_X11_count σ x1 = some r) : Cn yX11_count cX11_count 2 (some .int) 1 g [.ref 1, .int x1] (eM σ) (some (.int r)) (eM σ) :=
  Cn_of (by decide) (Nat.le_refl _) (Nat.le_refl _) (Nat.le_of_ble_eq_true rfl) (f_X11_count_ok (Kp := (fun o => o = r)) σ x1 ⟨jbr _, jbr _⟩ (fun r2 q => by cases q; exact ⟨rfl, rfl⟩) _ h rfl)
def f_X11_bears_J80 (σ : jS) (x2 : Int32) : Option Int32 :=
  some (x2)
set_option maxHeartbeats 1000000 in
set_option maxRecDepth 20000 in
theorem f_X11_bears_J80_ok {g : Bool} {rv : Option Value} {μ' : jM} (σ : jS) (x2 : Int32) {Kp : Int32 → Prop} (hn : Nat.ble nM μ'.1 = true ∧ Nat.ble wM μ'.2.1 = true) (hr : ∀ r : Int32, Kp (r) → rv = some (.int r) ∧ μ' = (eM σ)) (o : Int32) (h : f_X11_bears_J80 σ x2 = some o) (hK : Kp o) : J yX11_bears cX11_bears 4 (some .int) 1 g rv μ' 80 [(2, .int x2)] [] (eM σ) := by
  unfold f_X11_bears_J80 at h
  refine j_iload_n 0 dX11_bears_80 rfl rfl ?_
  replace h := Option.some.inj h
  subst h
  obtain ⟨hr1, hr2⟩ := hr _ hK
  exact j_iret dX11_bears_81 hr1 hr2
def f_X11_bears_J72 (σ : jS) (x1 : Int32) (x3 : Int32) (y0 : Int32) (y1 : Int32) : Option ((Int32 × Int32) ⊕ Int32) :=
  bV (y1 ||| y0) fun v2 =>
  bV (x3 + 1) fun v3 =>
  some (.inl (v2, v3))
set_option maxHeartbeats 1000000 in
set_option maxRecDepth 20000 in
theorem f_X11_bears_J72_ok {g : Bool} {rv : Option Value} {μ' : jM} (σ : jS) (x1 : Int32) (x3 : Int32) (y0 : Int32) (y1 : Int32) {Kp : ((Int32 × Int32) ⊕ Int32) → Prop} (hn : Nat.ble nM μ'.1 = true ∧ Nat.ble wM μ'.2.1 = true) (hr : ∀ r : Int32, Kp (.inr (r)) → rv = some (.int r) ∧ μ' = (eM σ)) (hc0 : ∀ s : (Int32 × Int32), Kp (.inl s) → J yX11_bears cX11_bears 4 (some .int) 1 g rv μ' 4 [(0, .ref 1), (1, .int x1), (2, .int s.1), (3, .int s.2)] [] (eM σ)) (o : ((Int32 × Int32) ⊕ Int32)) (h : f_X11_bears_J72 σ x1 x3 y0 y1 = some o) (hK : Kp o) : J yX11_bears cX11_bears 4 (some .int) 1 g rv μ' 72 [(0, .ref 1), (1, .int x1), (3, .int x3)] [.int y0, .int y1] (eM σ) := by
  unfold f_X11_bears_J72 at h
  refine j_ior dX11_bears_72 ?_
  replace h := bV_inv h
  obtain ⟨v4, ev4, h⟩ := h
  refine j_nmi ev4 ?_
  refine j_istore_n [(2, .int v4), (0, .ref 1), (1, .int x1), (3, .int x3)] dX11_bears_73 rfl (Nat.le_of_ble_eq_true rfl) rfl ?_
  replace h := bV_inv h
  obtain ⟨v5, ev5, h⟩ := h
  refine j_iinc (v := v5) [(3, .int v5), (2, .int v4), (0, .ref 1), (1, .int x1)] 3 dX11_bears_74 rfl (by rw [ev5]; rfl) (Nat.le_of_ble_eq_true rfl) rfl ?_
  refine j_goto 4 dX11_bears_77 (by decide) ?_
  replace h := Option.some.inj h
  subst h
  refine j_sub [(0, .ref 1), (1, .int x1), (2, .int v4), (3, .int v5)] [2, 3, 1, 0] rfl ?_
  exact hc0 _ hK
def f_X11_bears_J41 (σ : jS) (x1 : Int32) (x3 : Int32) (y0 : Int32) (y1 : Int32) : Option ((Int32 × Int32) ⊕ Int32) :=
  bV (y1 ||| y0) fun v1 =>
  bG (jin x3 120) (
  if ((gI σ 6 (ix x3)) - (gI σ 6 (ix x3)) / (100 : Int32) * (100 : Int32)) = x1 then (bG (jin x3 120) (
  f_X11_bears_J72 σ x1 x3 ((1 : Int32) <<< (((gI σ 6 (ix x3)) / (100 : Int32)) &&& 31)) v1))
  else (f_X11_bears_J72 σ x1 x3 0 v1))
set_option maxHeartbeats 1000000 in
set_option maxRecDepth 20000 in
theorem f_X11_bears_J41_ok {g : Bool} {rv : Option Value} {μ' : jM} (σ : jS) (x1 : Int32) (x3 : Int32) (y0 : Int32) (y1 : Int32) {Kp : ((Int32 × Int32) ⊕ Int32) → Prop} (hn : Nat.ble nM μ'.1 = true ∧ Nat.ble wM μ'.2.1 = true) (hr : ∀ r : Int32, Kp (.inr (r)) → rv = some (.int r) ∧ μ' = (eM σ)) (hc0 : ∀ s : (Int32 × Int32), Kp (.inl s) → J yX11_bears cX11_bears 4 (some .int) 1 g rv μ' 4 [(0, .ref 1), (1, .int x1), (2, .int s.1), (3, .int s.2)] [] (eM σ)) (o : ((Int32 × Int32) ⊕ Int32)) (h : f_X11_bears_J41 σ x1 x3 y0 y1 = some o) (hK : Kp o) : J yX11_bears cX11_bears 4 (some .int) 1 g rv μ' 41 [(0, .ref 1), (1, .int x1), (3, .int x3)] [.int y0, .int y1] (eM σ) := by
  unfold f_X11_bears_J41 at h
  refine j_ior dX11_bears_41 ?_
  replace h := bV_inv h
  obtain ⟨v6, ev6, h⟩ := h
  refine j_nmi ev6 ?_
  refine j_istore_n [(2, .int v6), (0, .ref 1), (1, .int x1), (3, .int x3)] dX11_bears_42 rfl (Nat.le_of_ble_eq_true rfl) rfl ?_
  refine j_iload_n 0 dX11_bears_43 rfl rfl ?_
  refine j_aload_n 1 dX11_bears_44 rfl rfl ?_
  refine j_get (ci := 10) 7 (.ref 6) jC_10 dX11_bears_45 kg_RX11_22 rfl (okM_1 _) (shM_1 _) (fvM_1_7 _) ?_
  refine j_iload_n 3 dX11_bears_48 rfl rfl ?_
  replace h := bG_inv h
  obtain ⟨hi7, h⟩ := h
  refine j_iaload dX11_bears_49 (okM_6 _) (shM_6 _) (jin_spec hi7) ?_
  refine j_bipush (v := 100) dX11_bears_50 (by decide) ?_
  refine j_irem dX11_bears_52 (by decide) ?_
  refine j_iload_n 2 dX11_bears_53 rfl rfl ?_
  refine j_icmp_ne 71 dX11_bears_54 (by decide) (fun hc8 => ?_) (fun hc8 => ?_)
  · replace h := jif_f hc8 h
    refine j_iconst (v := 0) dX11_bears_71 (by decide) ?_
    refine j_sub [(0, .ref 1), (1, .int x1), (3, .int x3)] [1, 2, 3] rfl ?_
    exact f_X11_bears_J72_ok σ x1 x3 0 v6 hn hr hc0 _ h hK
  · replace h := jif_t hc8 h
    refine j_iconst (v := 1) dX11_bears_57 (by decide) ?_
    refine j_aload_n 1 dX11_bears_58 rfl rfl ?_
    refine j_get (ci := 10) 7 (.ref 6) jC_10 dX11_bears_59 kg_RX11_22 rfl (okM_1 _) (shM_1 _) (fvM_1_7 _) ?_
    refine j_iload_n 3 dX11_bears_62 rfl rfl ?_
    replace h := bG_inv h
    obtain ⟨hi9, h⟩ := h
    refine j_iaload dX11_bears_63 (okM_6 _) (shM_6 _) (jin_spec hi9) ?_
    refine j_bipush (v := 100) dX11_bears_64 (by decide) ?_
    refine j_idiv dX11_bears_66 (by decide) ?_
    refine j_ishl dX11_bears_67 ?_
    refine j_goto 72 dX11_bears_68 (by decide) ?_
    refine j_sub [(0, .ref 1), (1, .int x1), (3, .int x3)] [1, 2, 3] rfl ?_
    exact f_X11_bears_J72_ok σ x1 x3 ((1 : Int32) <<< (((gI σ 6 (ix x3)) / (100 : Int32)) &&& 31)) v6 hn hr hc0 _ h hK
def f_X11_bears_B4 (σ : jS) (x1 : Int32) (x2 : Int32) (x3 : Int32) : Option ((Int32 × Int32) ⊕ Int32) :=
  if (gI σ 1 6) ≤ x3 then (jw (f_X11_bears_J80 σ x2))
  else (bG (jin x3 120) (
  if ((gI σ 6 (ix x3)) / (100 : Int32)) = x1 then (bG (jin x3 120) (
  f_X11_bears_J41 σ x1 x3 ((1 : Int32) <<< (((gI σ 6 (ix x3)) - (gI σ 6 (ix x3)) / (100 : Int32) * (100 : Int32)) &&& 31)) x2))
  else (f_X11_bears_J41 σ x1 x3 0 x2)))
set_option maxHeartbeats 1000000 in
set_option maxRecDepth 20000 in
theorem f_X11_bears_B4_ok {g : Bool} {rv : Option Value} {μ' : jM} (σ : jS) (x1 : Int32) (x2 : Int32) (x3 : Int32) {Kp : ((Int32 × Int32) ⊕ Int32) → Prop} (hn : Nat.ble nM μ'.1 = true ∧ Nat.ble wM μ'.2.1 = true) (hr : ∀ r : Int32, Kp (.inr (r)) → rv = some (.int r) ∧ μ' = (eM σ)) (hc0 : ∀ s : (Int32 × Int32), Kp (.inl s) → J yX11_bears cX11_bears 4 (some .int) 1 g rv μ' 4 [(0, .ref 1), (1, .int x1), (2, .int s.1), (3, .int s.2)] [] (eM σ)) (o : ((Int32 × Int32) ⊕ Int32)) (h : f_X11_bears_B4 σ x1 x2 x3 = some o) (hK : Kp o) : J yX11_bears cX11_bears 4 (some .int) 1 g rv μ' 4 [(0, .ref 1), (1, .int x1), (2, .int x2), (3, .int x3)] [] (eM σ) := by
  unfold f_X11_bears_B4 at h
  refine j_iload_n 3 dX11_bears_4 rfl rfl ?_
  refine j_aload_n 0 dX11_bears_5 rfl rfl ?_
  refine j_get (ci := 10) 6 (.int (gI σ 1 6)) jC_10 dX11_bears_6 kg_RX11_243 rfl (okM_1 _) (shM_1 _) (fvM_1_6 _) ?_
  refine j_icmp_ge 80 dX11_bears_9 (by decide) (fun hc10 => ?_) (fun hc10 => ?_)
  · replace h := jif_t hc10 h
    replace h := jw_inv h
    obtain ⟨o11, rfl, h⟩ := h
    refine j_sub [(2, .int x2)] [2] rfl ?_
    exact f_X11_bears_J80_ok (Kp := fun o => Kp (.inr (o))) σ x2 hn (fun r q => hr r q) _ h hK
  · replace h := jif_f hc10 h
    refine j_iload_n 2 dX11_bears_12 rfl rfl ?_
    refine j_aload_n 0 dX11_bears_13 rfl rfl ?_
    refine j_get (ci := 10) 7 (.ref 6) jC_10 dX11_bears_14 kg_RX11_22 rfl (okM_1 _) (shM_1 _) (fvM_1_7 _) ?_
    refine j_iload_n 3 dX11_bears_17 rfl rfl ?_
    replace h := bG_inv h
    obtain ⟨hi12, h⟩ := h
    refine j_iaload dX11_bears_18 (okM_6 _) (shM_6 _) (jin_spec hi12) ?_
    refine j_bipush (v := 100) dX11_bears_19 (by decide) ?_
    refine j_idiv dX11_bears_21 (by decide) ?_
    refine j_iload_n 1 dX11_bears_22 rfl rfl ?_
    refine j_icmp_ne 40 dX11_bears_23 (by decide) (fun hc13 => ?_) (fun hc13 => ?_)
    · replace h := jif_f hc13 h
      refine j_iconst (v := 0) dX11_bears_40 (by decide) ?_
      refine j_sub [(0, .ref 1), (1, .int x1), (3, .int x3)] [0, 1, 3] rfl ?_
      exact f_X11_bears_J41_ok σ x1 x3 0 x2 hn hr hc0 _ h hK
    · replace h := jif_t hc13 h
      refine j_iconst (v := 1) dX11_bears_26 (by decide) ?_
      refine j_aload_n 0 dX11_bears_27 rfl rfl ?_
      refine j_get (ci := 10) 7 (.ref 6) jC_10 dX11_bears_28 kg_RX11_22 rfl (okM_1 _) (shM_1 _) (fvM_1_7 _) ?_
      refine j_iload_n 3 dX11_bears_31 rfl rfl ?_
      replace h := bG_inv h
      obtain ⟨hi14, h⟩ := h
      refine j_iaload dX11_bears_32 (okM_6 _) (shM_6 _) (jin_spec hi14) ?_
      refine j_bipush (v := 100) dX11_bears_33 (by decide) ?_
      refine j_irem dX11_bears_35 (by decide) ?_
      refine j_ishl dX11_bears_36 ?_
      refine j_goto 41 dX11_bears_37 (by decide) ?_
      refine j_sub [(0, .ref 1), (1, .int x1), (3, .int x3)] [0, 1, 3] rfl ?_
      exact f_X11_bears_J41_ok σ x1 x3 ((1 : Int32) <<< (((gI σ 6 (ix x3)) - (gI σ 6 (ix x3)) / (100 : Int32) * (100 : Int32)) &&& 31)) x2 hn hr hc0 _ h hK
def f_X11_bears (σ : jS) (x1 : Int32) : Option Int32 :=
  jloop jFuel (fun s => f_X11_bears_B4 σ x1 s.1 s.2) (0, 0)
set_option maxHeartbeats 1000000 in
set_option maxRecDepth 20000 in
theorem f_X11_bears_ok {g : Bool} {rv : Option Value} {μ' : jM} (σ : jS) (x1 : Int32) {Kp : Int32 → Prop} (hn : Nat.ble nM μ'.1 = true ∧ Nat.ble wM μ'.2.1 = true) (hr : ∀ r : Int32, Kp (r) → rv = some (.int r) ∧ μ' = (eM σ)) (o : Int32) (h : f_X11_bears σ x1 = some o) (hK : Kp o) : J yX11_bears cX11_bears 4 (some .int) 1 g rv μ' 0 [(0, .ref 1), (1, .int x1)] [] (eM σ) := by
  unfold f_X11_bears at h
  refine j_iconst (v := 0) dX11_bears_0 (by decide) ?_
  refine j_istore_n [(2, .int 0), (0, .ref 1), (1, .int x1)] dX11_bears_1 rfl (Nat.le_of_ble_eq_true rfl) rfl ?_
  refine j_iconst (v := 0) dX11_bears_2 (by decide) ?_
  refine j_istore_n [(3, .int 0), (2, .int 0), (0, .ref 1), (1, .int x1)] dX11_bears_3 rfl (Nat.le_of_ble_eq_true rfl) rfl ?_
  refine j_sub [(0, .ref 1), (1, .int x1), (2, .int 0), (3, .int 0)] [2, 3, 1, 0] rfl ?_
  exact jloop_ok (fun s => f_X11_bears_B4 σ x1 s.1 s.2) (fun s => J yX11_bears cX11_bears 4 (some .int) 1 g rv μ' 4 [(0, .ref 1), (1, .int x1), (2, .int s.1), (3, .int s.2)] [] (eM σ)) Kp (fun s o hb hk => f_X11_bears_B4_ok (Kp := jsum (fun s => J yX11_bears cX11_bears 4 (some .int) 1 g rv μ' 4 [(0, .ref 1), (1, .int x1), (2, .int s.1), (3, .int s.2)] [] (eM σ)) Kp) σ x1 s.1 s.2 hn (fun r q => hr r q) (fun s q => q) o hb hk) jFuel _ _ h hK
theorem c_X11_bears (g : Bool) {σ : jS} {x1 : Int32} {r : Int32} (h : f_X11_bears σ x1 = some r) : Cn yX11_bears cX11_bears 4 (some .int) 1 g [.ref 1, .int x1] (eM σ) (some (.int r)) (eM σ) :=
  Cn_of (by decide) (Nat.le_refl _) (Nat.le_refl _) (Nat.le_of_ble_eq_true rfl) (f_X11_bears_ok (Kp := (fun o => o = r)) σ x1 ⟨jbr _, jbr _⟩ (fun r2 q => by cases q; exact ⟨rfl, rfl⟩) _ h rfl)
def f_X11_isPerson (σ : jS) (x1 : Int32) : Option Int32 :=
  bC (f_X11_in (x1.toInt64) 0 (((gI σ 1 0) - (1 : Int32)).toInt64)) fun r1 =>
  bG (jb r1) (
  some (r1))
set_option maxHeartbeats 1000000 in
set_option maxRecDepth 20000 in
theorem f_X11_isPerson_ok {g : Bool} {rv : Option Value} {μ' : jM} (σ : jS) (x1 : Int32) {Kp : Int32 → Prop} (hn : Nat.ble nM μ'.1 = true ∧ Nat.ble wM μ'.2.1 = true) (hr : ∀ r : Int32, Kp (r) → rv = some (.int r) ∧ μ' = (eM σ)) (o : Int32) (h : f_X11_isPerson σ x1 = some o) (hK : Kp o) : J yX11_isPerson cX11_isPerson 2 (some .boolean) 2 g rv μ' 0 [(0, .ref 1), (1, .int x1)] [] (eM σ) := by
  unfold f_X11_isPerson at h
  refine j_iload_n 1 dX11_isPerson_0 rfl rfl ?_
  refine j_i2l dX11_isPerson_1 ?_
  refine j_lconst (v := 0) dX11_isPerson_2 (by decide) ?_
  refine j_aload_n 0 dX11_isPerson_3 rfl rfl ?_
  refine j_get (ci := 10) 0 (.int (gI σ 1 0)) jC_10 dX11_isPerson_4 kg_RX11_141 rfl (okM_1 _) (shM_1 _) (fvM_1_0 _) ?_
  refine j_iconst (v := 1) dX11_isPerson_7 (by decide) ?_
  refine j_isub dX11_isPerson_8 ?_
  refine j_i2l dX11_isPerson_9 ?_
  replace h := bC_inv h
  obtain ⟨r2, cr2, h⟩ := h
  refine j_callS (st1 := .int r2 :: _) (c_X11_in g _ cr2) jy_X11_in kt_yX11_in kl_RX11_144 dX11_isPerson_10 rfl rfl rfl rfl (jbr _) (jbr _) hn.1 hn.2 (Or.inr rfl) rfl ?_
  replace h := bG_inv h
  obtain ⟨hb, h⟩ := h
  replace h := Option.some.inj h
  subst h
  obtain ⟨hr1, hr2⟩ := hr _ hK
  exact j_zret (jb_nar hb) dX11_isPerson_13 hr1 hr2
theorem c_X11_isPerson (g : Bool) {σ : jS} {x1 : Int32} {r : Int32} (h : f_X11_isPerson σ x1 = some r) : Cn yX11_isPerson cX11_isPerson 2 (some .boolean) 2 g [.ref 1, .int x1] (eM σ) (some (.int r)) (eM σ) :=
  Cn_of (by decide) (Nat.le_refl _) (Nat.le_refl _) (Nat.le_of_ble_eq_true rfl) (f_X11_isPerson_ok (Kp := (fun o => o = r)) σ x1 ⟨jbr _, jbr _⟩ (fun r2 q => by cases q; exact ⟨rfl, rfl⟩) _ h rfl)
def f_X11_person_J111 (σ : jS) (y0 : Int32) : Option Int32 :=
  some (y0)
set_option maxHeartbeats 1000000 in
set_option maxRecDepth 20000 in
theorem f_X11_person_J111_ok {g : Bool} {rv : Option Value} {μ' : jM} (σ : jS) (y0 : Int32) {Kp : Int32 → Prop} (hn : Nat.ble nM μ'.1 = true ∧ Nat.ble wM μ'.2.1 = true) (hr : ∀ r : Int32, Kp (r) → rv = some (.int r) ∧ μ' = (eM σ)) (o : Int32) (h : f_X11_person_J111 σ y0 = some o) (hK : Kp o) : J yX11_person cX11_person 5 (some .int) 3 g rv μ' 111 [] [.int y0] (eM σ) := by
  unfold f_X11_person_J111 at h
  replace h := Option.some.inj h
  subst h
  obtain ⟨hr1, hr2⟩ := hr _ hK
  exact j_iret dX11_person_111 hr1 hr2
def f_X11_person_J59 (σ : jS) (x1 : Int32) (x2 : Int32) (x3 : Int32) : Option Int32 :=
  if x2 = 0 then (bG (jin x1 16) (
  f_X11_person_J111 σ (gI σ 2 (ix x1))))
  else (if x2 = 1 then (bG (jin x1 16) (
  f_X11_person_J111 σ (gI σ 5 (ix x1))))
  else (if x2 = 2 then (f_X11_person_J111 σ x3)
  else (if x2 = 3 then (bC (f_X11_bears σ x1) fun r2 =>
  f_X11_person_J111 σ r2)
  else (f_X11_person_J111 σ (-1002)))))
set_option maxHeartbeats 1000000 in
set_option maxRecDepth 20000 in
theorem f_X11_person_J59_ok {g : Bool} {rv : Option Value} {μ' : jM} (σ : jS) (x1 : Int32) (x2 : Int32) (x3 : Int32) {Kp : Int32 → Prop} (hn : Nat.ble nM μ'.1 = true ∧ Nat.ble wM μ'.2.1 = true) (hr : ∀ r : Int32, Kp (r) → rv = some (.int r) ∧ μ' = (eM σ)) (o : Int32) (h : f_X11_person_J59 σ x1 x2 x3 = some o) (hK : Kp o) : J yX11_person cX11_person 5 (some .int) 3 g rv μ' 59 [(0, .ref 1), (1, .int x1), (2, .int x2), (3, .int x3)] [] (eM σ) := by
  unfold f_X11_person_J59 at h
  refine j_iload_n 2 dX11_person_59 rfl rfl ?_
  refine j_if_ne 72 dX11_person_60 (by decide) (fun hc3 => ?_) (fun hc3 => ?_)
  · replace h := jif_f hc3 h
    refine j_iload_n 2 dX11_person_72 rfl rfl ?_
    refine j_iconst (v := 1) dX11_person_73 (by decide) ?_
    refine j_icmp_ne 86 dX11_person_74 (by decide) (fun hc4 => ?_) (fun hc4 => ?_)
    · replace h := jif_f hc4 h
      refine j_iload_n 2 dX11_person_86 rfl rfl ?_
      refine j_iconst (v := 2) dX11_person_87 (by decide) ?_
      refine j_icmp_ne 95 dX11_person_88 (by decide) (fun hc5 => ?_) (fun hc5 => ?_)
      · replace h := jif_f hc5 h
        refine j_iload_n 2 dX11_person_95 rfl rfl ?_
        refine j_iconst (v := 3) dX11_person_96 (by decide) ?_
        refine j_icmp_ne 108 dX11_person_97 (by decide) (fun hc6 => ?_) (fun hc6 => ?_)
        · replace h := jif_f hc6 h
          refine j_sipush (v := (-1002)) dX11_person_108 (by decide) ?_
          refine j_sub [] [] rfl ?_
          exact f_X11_person_J111_ok σ (-1002) hn hr _ h hK
        · replace h := jif_t hc6 h
          refine j_aload_n 0 dX11_person_100 rfl rfl ?_
          refine j_iload_n 1 dX11_person_101 rfl rfl ?_
          replace h := bC_inv h
          obtain ⟨r7, cr7, h⟩ := h
          refine j_callV (ci := 10) (st1 := .int r7 :: _) (c_X11_bears g cr7) jy_X11_bears ki_yX11_bears ks_yX11_bears kl_RX11_259 dX11_person_102 rfl (okM_1 _) (shM_1 _) rfl rfl rfl rfl (jbr _) (jbr _) hn.1 hn.2 (Or.inr rfl) rfl ?_
          refine j_goto 111 dX11_person_105 (by decide) ?_
          refine j_sub [] [] rfl ?_
          exact f_X11_person_J111_ok σ r7 hn hr _ h hK
      · replace h := jif_t hc5 h
        refine j_iload_n 3 dX11_person_91 rfl rfl ?_
        refine j_goto 111 dX11_person_92 (by decide) ?_
        refine j_sub [] [] rfl ?_
        exact f_X11_person_J111_ok σ x3 hn hr _ h hK
    · replace h := jif_t hc4 h
      refine j_aload_n 0 dX11_person_77 rfl rfl ?_
      refine j_get (ci := 10) 5 (.ref 5) jC_10 dX11_person_78 kg_RX11_19 rfl (okM_1 _) (shM_1 _) (fvM_1_5 _) ?_
      refine j_iload_n 1 dX11_person_81 rfl rfl ?_
      replace h := bG_inv h
      obtain ⟨hi8, h⟩ := h
      refine j_iaload dX11_person_82 (okM_5 _) (shM_5 _) (jin_spec hi8) ?_
      refine j_goto 111 dX11_person_83 (by decide) ?_
      refine j_sub [] [] rfl ?_
      exact f_X11_person_J111_ok σ (gI σ 5 (ix x1)) hn hr _ h hK
  · replace h := jif_t hc3 h
    refine j_aload_n 0 dX11_person_63 rfl rfl ?_
    refine j_get (ci := 10) 1 (.ref 2) jC_10 dX11_person_64 kg_RX11_7 rfl (okM_1 _) (shM_1 _) (fvM_1_1 _) ?_
    refine j_iload_n 1 dX11_person_67 rfl rfl ?_
    replace h := bG_inv h
    obtain ⟨hi9, h⟩ := h
    refine j_iaload dX11_person_68 (okM_2 _) (shM_2 _) (jin_spec hi9) ?_
    refine j_goto 111 dX11_person_69 (by decide) ?_
    refine j_sub [] [] rfl ?_
    exact f_X11_person_J111_ok σ (gI σ 2 (ix x1)) hn hr _ h hK
def f_X11_person_J51 (σ : jS) (x1 : Int32) (x2 : Int32) (x4 : Int32) (y0 : Int32) (y1 : Int32) : Option ((Int32 × Int32) ⊕ Int32) :=
  bV (y1 ||| y0) fun v10 =>
  bV (x4 + 1) fun v11 =>
  some (.inl (v10, v11))
set_option maxHeartbeats 1000000 in
set_option maxRecDepth 20000 in
theorem f_X11_person_J51_ok {g : Bool} {rv : Option Value} {μ' : jM} (σ : jS) (x1 : Int32) (x2 : Int32) (x4 : Int32) (y0 : Int32) (y1 : Int32) {Kp : ((Int32 × Int32) ⊕ Int32) → Prop} (hn : Nat.ble nM μ'.1 = true ∧ Nat.ble wM μ'.2.1 = true) (hr : ∀ r : Int32, Kp (.inr (r)) → rv = some (.int r) ∧ μ' = (eM σ)) (hc0 : ∀ s : (Int32 × Int32), Kp (.inl s) → J yX11_person cX11_person 5 (some .int) 3 g rv μ' 17 [(0, .ref 1), (1, .int x1), (2, .int x2), (3, .int s.1), (4, .int s.2)] [] (eM σ)) (o : ((Int32 × Int32) ⊕ Int32)) (h : f_X11_person_J51 σ x1 x2 x4 y0 y1 = some o) (hK : Kp o) : J yX11_person cX11_person 5 (some .int) 3 g rv μ' 51 [(0, .ref 1), (1, .int x1), (2, .int x2), (4, .int x4)] [.int y0, .int y1] (eM σ) := by
  unfold f_X11_person_J51 at h
  refine j_ior dX11_person_51 ?_
  replace h := bV_inv h
  obtain ⟨v12, ev12, h⟩ := h
  refine j_nmi ev12 ?_
  refine j_istore_n [(3, .int v12), (0, .ref 1), (1, .int x1), (2, .int x2), (4, .int x4)] dX11_person_52 rfl (Nat.le_of_ble_eq_true rfl) rfl ?_
  replace h := bV_inv h
  obtain ⟨v13, ev13, h⟩ := h
  refine j_iinc (v := v13) [(4, .int v13), (3, .int v12), (0, .ref 1), (1, .int x1), (2, .int x2)] 4 dX11_person_53 rfl (by rw [ev13]; rfl) (Nat.le_of_ble_eq_true rfl) rfl ?_
  refine j_goto 17 dX11_person_56 (by decide) ?_
  replace h := Option.some.inj h
  subst h
  refine j_sub [(0, .ref 1), (1, .int x1), (2, .int x2), (3, .int v12), (4, .int v13)] [2, 3, 4, 1, 0] rfl ?_
  exact hc0 _ hK
def f_X11_person_B17 (σ : jS) (x1 : Int32) (x2 : Int32) (x3 : Int32) (x4 : Int32) : Option ((Int32 × Int32) ⊕ Int32) :=
  if (gI σ 1 2) ≤ x4 then (jw (f_X11_person_J59 σ x1 x2 x3))
  else (bG (jin x4 40) (
  if (gI σ 3 (ix x4)) = x1 then (bG (jin x4 40) (
  f_X11_person_J51 σ x1 x2 x4 ((1 : Int32) <<< ((gI σ 4 (ix x4)) &&& 31)) x3))
  else (f_X11_person_J51 σ x1 x2 x4 0 x3)))
set_option maxHeartbeats 1000000 in
set_option maxRecDepth 20000 in
theorem f_X11_person_B17_ok {g : Bool} {rv : Option Value} {μ' : jM} (σ : jS) (x1 : Int32) (x2 : Int32) (x3 : Int32) (x4 : Int32) {Kp : ((Int32 × Int32) ⊕ Int32) → Prop} (hn : Nat.ble nM μ'.1 = true ∧ Nat.ble wM μ'.2.1 = true) (hr : ∀ r : Int32, Kp (.inr (r)) → rv = some (.int r) ∧ μ' = (eM σ)) (hc0 : ∀ s : (Int32 × Int32), Kp (.inl s) → J yX11_person cX11_person 5 (some .int) 3 g rv μ' 17 [(0, .ref 1), (1, .int x1), (2, .int x2), (3, .int s.1), (4, .int s.2)] [] (eM σ)) (o : ((Int32 × Int32) ⊕ Int32)) (h : f_X11_person_B17 σ x1 x2 x3 x4 = some o) (hK : Kp o) : J yX11_person cX11_person 5 (some .int) 3 g rv μ' 17 [(0, .ref 1), (1, .int x1), (2, .int x2), (3, .int x3), (4, .int x4)] [] (eM σ) := by
  unfold f_X11_person_B17 at h
  refine j_iload 4 dX11_person_17 rfl ?_
  refine j_aload_n 0 dX11_person_19 rfl rfl ?_
  refine j_get (ci := 10) 2 (.int (gI σ 1 2)) jC_10 dX11_person_20 kg_RX11_240 rfl (okM_1 _) (shM_1 _) (fvM_1_2 _) ?_
  refine j_icmp_ge 59 dX11_person_23 (by decide) (fun hc14 => ?_) (fun hc14 => ?_)
  · replace h := jif_t hc14 h
    replace h := jw_inv h
    obtain ⟨o15, rfl, h⟩ := h
    refine j_sub [(0, .ref 1), (1, .int x1), (2, .int x2), (3, .int x3)] [0, 1, 2, 3] rfl ?_
    exact f_X11_person_J59_ok (Kp := fun o => Kp (.inr (o))) σ x1 x2 x3 hn (fun r q => hr r q) _ h hK
  · replace h := jif_f hc14 h
    refine j_iload_n 3 dX11_person_26 rfl rfl ?_
    refine j_aload_n 0 dX11_person_27 rfl rfl ?_
    refine j_get (ci := 10) 3 (.ref 3) jC_10 dX11_person_28 kg_RX11_13 rfl (okM_1 _) (shM_1 _) (fvM_1_3 _) ?_
    refine j_iload 4 dX11_person_31 rfl ?_
    replace h := bG_inv h
    obtain ⟨hi16, h⟩ := h
    refine j_iaload dX11_person_33 (okM_3 _) (shM_3 _) (jin_spec hi16) ?_
    refine j_iload_n 1 dX11_person_34 rfl rfl ?_
    refine j_icmp_ne 50 dX11_person_35 (by decide) (fun hc17 => ?_) (fun hc17 => ?_)
    · replace h := jif_f hc17 h
      refine j_iconst (v := 0) dX11_person_50 (by decide) ?_
      refine j_sub [(0, .ref 1), (1, .int x1), (2, .int x2), (4, .int x4)] [0, 1, 2, 4] rfl ?_
      exact f_X11_person_J51_ok σ x1 x2 x4 0 x3 hn hr hc0 _ h hK
    · replace h := jif_t hc17 h
      refine j_iconst (v := 1) dX11_person_38 (by decide) ?_
      refine j_aload_n 0 dX11_person_39 rfl rfl ?_
      refine j_get (ci := 10) 4 (.ref 4) jC_10 dX11_person_40 kg_RX11_16 rfl (okM_1 _) (shM_1 _) (fvM_1_4 _) ?_
      refine j_iload 4 dX11_person_43 rfl ?_
      replace h := bG_inv h
      obtain ⟨hi18, h⟩ := h
      refine j_iaload dX11_person_45 (okM_4 _) (shM_4 _) (jin_spec hi18) ?_
      refine j_ishl dX11_person_46 ?_
      refine j_goto 51 dX11_person_47 (by decide) ?_
      refine j_sub [(0, .ref 1), (1, .int x1), (2, .int x2), (4, .int x4)] [0, 1, 2, 4] rfl ?_
      exact f_X11_person_J51_ok σ x1 x2 x4 ((1 : Int32) <<< ((gI σ 4 (ix x4)) &&& 31)) x3 hn hr hc0 _ h hK
def f_X11_person (σ : jS) (x1 : Int32) (x2 : Int32) : Option Int32 :=
  bC (f_X11_isPerson σ x1) fun r1 =>
  if r1 = 0 then (some ((-1001)))
  else (jloop jFuel (fun s => f_X11_person_B17 σ x1 x2 s.1 s.2) (0, 0))
set_option maxHeartbeats 1000000 in
set_option maxRecDepth 20000 in
theorem f_X11_person_ok {g : Bool} {rv : Option Value} {μ' : jM} (σ : jS) (x1 : Int32) (x2 : Int32) {Kp : Int32 → Prop} (hn : Nat.ble nM μ'.1 = true ∧ Nat.ble wM μ'.2.1 = true) (hr : ∀ r : Int32, Kp (r) → rv = some (.int r) ∧ μ' = (eM σ)) (o : Int32) (h : f_X11_person σ x1 x2 = some o) (hK : Kp o) : J yX11_person cX11_person 5 (some .int) 3 g rv μ' 0 [(0, .ref 1), (1, .int x1), (2, .int x2)] [] (eM σ) := by
  unfold f_X11_person at h
  refine j_aload_n 0 dX11_person_0 rfl rfl ?_
  refine j_iload_n 1 dX11_person_1 rfl rfl ?_
  replace h := bC_inv h
  obtain ⟨r19, cr19, h⟩ := h
  refine j_callV (ci := 10) (st1 := .int r19 :: _) (c_X11_isPerson g cr19) jy_X11_isPerson ki_yX11_isPerson ks_yX11_isPerson kl_RX11_255 dX11_person_2 rfl (okM_1 _) (shM_1 _) rfl rfl rfl rfl (jbr _) (jbr _) hn.1 hn.2 (Or.inr rfl) rfl ?_
  refine j_if_ne 12 dX11_person_5 (by decide) (fun hc20 => ?_) (fun hc20 => ?_)
  · replace h := jif_f hc20 h
    refine j_iconst (v := 0) dX11_person_12 (by decide) ?_
    refine j_istore_n [(3, .int 0), (0, .ref 1), (1, .int x1), (2, .int x2)] dX11_person_13 rfl (Nat.le_of_ble_eq_true rfl) rfl ?_
    refine j_iconst (v := 0) dX11_person_14 (by decide) ?_
    refine j_istore [(4, .int 0), (3, .int 0), (0, .ref 1), (1, .int x1), (2, .int x2)] dX11_person_15 (Nat.le_of_ble_eq_true rfl) rfl ?_
    refine j_sub [(0, .ref 1), (1, .int x1), (2, .int x2), (3, .int 0), (4, .int 0)] [2, 3, 4, 1, 0] rfl ?_
    exact jloop_ok (fun s => f_X11_person_B17 σ x1 x2 s.1 s.2) (fun s => J yX11_person cX11_person 5 (some .int) 3 g rv μ' 17 [(0, .ref 1), (1, .int x1), (2, .int x2), (3, .int s.1), (4, .int s.2)] [] (eM σ)) Kp (fun s o hb hk => f_X11_person_B17_ok (Kp := jsum (fun s => J yX11_person cX11_person 5 (some .int) 3 g rv μ' 17 [(0, .ref 1), (1, .int x1), (2, .int x2), (3, .int s.1), (4, .int s.2)] [] (eM σ)) Kp) σ x1 x2 s.1 s.2 hn (fun r q => hr r q) (fun s q => q) o hb hk) jFuel _ _ h hK
  · replace h := jif_t hc20 h
    refine j_sipush (v := (-1001)) dX11_person_8 (by decide) ?_
    replace h := Option.some.inj h
    subst h
    obtain ⟨hr1, hr2⟩ := hr _ hK
    exact j_iret dX11_person_11 hr1 hr2
theorem c_X11_person (g : Bool) {σ : jS} {x1 : Int32} {x2 : Int32} {r : Int32} (h : f_X11_person σ x1 x2 = some r) : Cn yX11_person cX11_person 5 (some .int) 3 g [.ref 1, .int x1, .int x2] (eM σ) (some (.int r)) (eM σ) :=
  Cn_of (by decide) (Nat.le_refl _) (Nat.le_refl _) (Nat.le_of_ble_eq_true rfl) (f_X11_person_ok (Kp := (fun o => o = r)) σ x1 x2 ⟨jbr _, jbr _⟩ (fun r2 q => by cases q; exact ⟨rfl, rfl⟩) _ h rfl)
def f_X11_turn_J50 (σ : jS) (y0 : Int32) : Option Int32 :=
  some (y0)
set_option maxHeartbeats 1000000 in
set_option maxRecDepth 20000 in
theorem f_X11_turn_J50_ok {g : Bool} {rv : Option Value} {μ' : jM} (σ : jS) (y0 : Int32) {Kp : Int32 → Prop} (hn : Nat.ble nM μ'.1 = true ∧ Nat.ble wM μ'.2.1 = true) (hr : ∀ r : Int32, Kp (r) → rv = some (.int r) ∧ μ' = (eM σ)) (o : Int32) (h : f_X11_turn_J50 σ y0 = some o) (hK : Kp o) : J yX11_turn cX11_turn 3 (some .int) 2 g rv μ' 50 [] [.int y0] (eM σ) := by
  unfold f_X11_turn_J50 at h
  replace h := Option.some.inj h
  subst h
  obtain ⟨hr1, hr2⟩ := hr _ hK
  exact j_iret dX11_turn_50 hr1 hr2
def f_X11_turn (σ : jS) (x1 : Int32) (x2 : Int32) : Option Int32 :=
  bC (f_X11_in (x1.toInt64) 0 (((gI σ 1 2) - (1 : Int32)).toInt64)) fun r1 =>
  if r1 = 0 then (some ((-1001)))
  else (if x2 = 0 then (bG (jin x1 40) (
  f_X11_turn_J50 σ (gI σ 3 (ix x1))))
  else (if x2 = 1 then (bG (jin x1 40) (
  f_X11_turn_J50 σ (gI σ 4 (ix x1))))
  else (f_X11_turn_J50 σ (-1002))))
set_option maxHeartbeats 1000000 in
set_option maxRecDepth 20000 in
theorem f_X11_turn_ok {g : Bool} {rv : Option Value} {μ' : jM} (σ : jS) (x1 : Int32) (x2 : Int32) {Kp : Int32 → Prop} (hn : Nat.ble nM μ'.1 = true ∧ Nat.ble wM μ'.2.1 = true) (hr : ∀ r : Int32, Kp (r) → rv = some (.int r) ∧ μ' = (eM σ)) (o : Int32) (h : f_X11_turn σ x1 x2 = some o) (hK : Kp o) : J yX11_turn cX11_turn 3 (some .int) 2 g rv μ' 0 [(0, .ref 1), (1, .int x1), (2, .int x2)] [] (eM σ) := by
  unfold f_X11_turn at h
  refine j_iload_n 1 dX11_turn_0 rfl rfl ?_
  refine j_i2l dX11_turn_1 ?_
  refine j_lconst (v := 0) dX11_turn_2 (by decide) ?_
  refine j_aload_n 0 dX11_turn_3 rfl rfl ?_
  refine j_get (ci := 10) 2 (.int (gI σ 1 2)) jC_10 dX11_turn_4 kg_RX11_240 rfl (okM_1 _) (shM_1 _) (fvM_1_2 _) ?_
  refine j_iconst (v := 1) dX11_turn_7 (by decide) ?_
  refine j_isub dX11_turn_8 ?_
  refine j_i2l dX11_turn_9 ?_
  replace h := bC_inv h
  obtain ⟨r2, cr2, h⟩ := h
  refine j_callS (st1 := .int r2 :: _) (c_X11_in g _ cr2) jy_X11_in kt_yX11_in kl_RX11_144 dX11_turn_10 rfl rfl rfl rfl (jbr _) (jbr _) hn.1 hn.2 (Or.inr rfl) rfl ?_
  refine j_if_ne 20 dX11_turn_13 (by decide) (fun hc3 => ?_) (fun hc3 => ?_)
  · replace h := jif_f hc3 h
    refine j_iload_n 2 dX11_turn_20 rfl rfl ?_
    refine j_if_ne 33 dX11_turn_21 (by decide) (fun hc4 => ?_) (fun hc4 => ?_)
    · replace h := jif_f hc4 h
      refine j_iload_n 2 dX11_turn_33 rfl rfl ?_
      refine j_iconst (v := 1) dX11_turn_34 (by decide) ?_
      refine j_icmp_ne 47 dX11_turn_35 (by decide) (fun hc5 => ?_) (fun hc5 => ?_)
      · replace h := jif_f hc5 h
        refine j_sipush (v := (-1002)) dX11_turn_47 (by decide) ?_
        refine j_sub [] [] rfl ?_
        exact f_X11_turn_J50_ok σ (-1002) hn hr _ h hK
      · replace h := jif_t hc5 h
        refine j_aload_n 0 dX11_turn_38 rfl rfl ?_
        refine j_get (ci := 10) 4 (.ref 4) jC_10 dX11_turn_39 kg_RX11_16 rfl (okM_1 _) (shM_1 _) (fvM_1_4 _) ?_
        refine j_iload_n 1 dX11_turn_42 rfl rfl ?_
        replace h := bG_inv h
        obtain ⟨hi6, h⟩ := h
        refine j_iaload dX11_turn_43 (okM_4 _) (shM_4 _) (jin_spec hi6) ?_
        refine j_goto 50 dX11_turn_44 (by decide) ?_
        refine j_sub [] [] rfl ?_
        exact f_X11_turn_J50_ok σ (gI σ 4 (ix x1)) hn hr _ h hK
    · replace h := jif_t hc4 h
      refine j_aload_n 0 dX11_turn_24 rfl rfl ?_
      refine j_get (ci := 10) 3 (.ref 3) jC_10 dX11_turn_25 kg_RX11_13 rfl (okM_1 _) (shM_1 _) (fvM_1_3 _) ?_
      refine j_iload_n 1 dX11_turn_28 rfl rfl ?_
      replace h := bG_inv h
      obtain ⟨hi7, h⟩ := h
      refine j_iaload dX11_turn_29 (okM_3 _) (shM_3 _) (jin_spec hi7) ?_
      refine j_goto 50 dX11_turn_30 (by decide) ?_
      refine j_sub [] [] rfl ?_
      exact f_X11_turn_J50_ok σ (gI σ 3 (ix x1)) hn hr _ h hK
  · replace h := jif_t hc3 h
    refine j_sipush (v := (-1001)) dX11_turn_16 (by decide) ?_
    replace h := Option.some.inj h
    subst h
    obtain ⟨hr1, hr2⟩ := hr _ hK
    exact j_iret dX11_turn_19 hr1 hr2
theorem c_X11_turn (g : Bool) {σ : jS} {x1 : Int32} {x2 : Int32} {r : Int32} (h : f_X11_turn σ x1 x2 = some r) : Cn yX11_turn cX11_turn 3 (some .int) 2 g [.ref 1, .int x1, .int x2] (eM σ) (some (.int r)) (eM σ) :=
  Cn_of (by decide) (Nat.le_refl _) (Nat.le_refl _) (Nat.le_of_ble_eq_true rfl) (f_X11_turn_ok (Kp := (fun o => o = r)) σ x1 x2 ⟨jbr _, jbr _⟩ (fun r2 q => by cases q; exact ⟨rfl, rfl⟩) _ h rfl)
def f_X11_grudge_J28 (σ : jS) (y0 : Int32) : Option Int32 :=
  some (y0)
set_option maxHeartbeats 1000000 in
set_option maxRecDepth 20000 in
theorem f_X11_grudge_J28_ok {g : Bool} {rv : Option Value} {μ' : jM} (σ : jS) (y0 : Int32) {Kp : Int32 → Prop} (hn : Nat.ble nM μ'.1 = true ∧ Nat.ble wM μ'.2.1 = true) (hr : ∀ r : Int32, Kp (r) → rv = some (.int r) ∧ μ' = (eM σ)) (o : Int32) (h : f_X11_grudge_J28 σ y0 = some o) (hK : Kp o) : J yX11_grudge cX11_grudge 2 (some .int) 2 g rv μ' 28 [] [.int y0] (eM σ) := by
  unfold f_X11_grudge_J28 at h
  replace h := Option.some.inj h
  subst h
  obtain ⟨hr1, hr2⟩ := hr _ hK
  exact j_iret dX11_grudge_28 hr1 hr2
def f_X11_grudge (σ : jS) (x1 : Int32) : Option Int32 :=
  bC (f_X11_in (x1.toInt64) 0 (((gI σ 1 6) - (1 : Int32)).toInt64)) fun r1 =>
  if r1 = 0 then (f_X11_grudge_J28 σ (-1001))
  else (bG (jin x1 120) (
  f_X11_grudge_J28 σ (gI σ 6 (ix x1))))
set_option maxHeartbeats 1000000 in
set_option maxRecDepth 20000 in
theorem f_X11_grudge_ok {g : Bool} {rv : Option Value} {μ' : jM} (σ : jS) (x1 : Int32) {Kp : Int32 → Prop} (hn : Nat.ble nM μ'.1 = true ∧ Nat.ble wM μ'.2.1 = true) (hr : ∀ r : Int32, Kp (r) → rv = some (.int r) ∧ μ' = (eM σ)) (o : Int32) (h : f_X11_grudge σ x1 = some o) (hK : Kp o) : J yX11_grudge cX11_grudge 2 (some .int) 2 g rv μ' 0 [(0, .ref 1), (1, .int x1)] [] (eM σ) := by
  unfold f_X11_grudge at h
  refine j_iload_n 1 dX11_grudge_0 rfl rfl ?_
  refine j_i2l dX11_grudge_1 ?_
  refine j_lconst (v := 0) dX11_grudge_2 (by decide) ?_
  refine j_aload_n 0 dX11_grudge_3 rfl rfl ?_
  refine j_get (ci := 10) 6 (.int (gI σ 1 6)) jC_10 dX11_grudge_4 kg_RX11_243 rfl (okM_1 _) (shM_1 _) (fvM_1_6 _) ?_
  refine j_iconst (v := 1) dX11_grudge_7 (by decide) ?_
  refine j_isub dX11_grudge_8 ?_
  refine j_i2l dX11_grudge_9 ?_
  replace h := bC_inv h
  obtain ⟨r2, cr2, h⟩ := h
  refine j_callS (st1 := .int r2 :: _) (c_X11_in g _ cr2) jy_X11_in kt_yX11_in kl_RX11_144 dX11_grudge_10 rfl rfl rfl rfl (jbr _) (jbr _) hn.1 hn.2 (Or.inr rfl) rfl ?_
  refine j_if_eq 25 dX11_grudge_13 (by decide) (fun hc3 => ?_) (fun hc3 => ?_)
  · replace h := jif_t hc3 h
    refine j_sipush (v := (-1001)) dX11_grudge_25 (by decide) ?_
    refine j_sub [] [] rfl ?_
    exact f_X11_grudge_J28_ok σ (-1001) hn hr _ h hK
  · replace h := jif_f hc3 h
    refine j_aload_n 0 dX11_grudge_16 rfl rfl ?_
    refine j_get (ci := 10) 7 (.ref 6) jC_10 dX11_grudge_17 kg_RX11_22 rfl (okM_1 _) (shM_1 _) (fvM_1_7 _) ?_
    refine j_iload_n 1 dX11_grudge_20 rfl rfl ?_
    replace h := bG_inv h
    obtain ⟨hi4, h⟩ := h
    refine j_iaload dX11_grudge_21 (okM_6 _) (shM_6 _) (jin_spec hi4) ?_
    refine j_goto 28 dX11_grudge_22 (by decide) ?_
    refine j_sub [] [] rfl ?_
    exact f_X11_grudge_J28_ok σ (gI σ 6 (ix x1)) hn hr _ h hK
theorem c_X11_grudge (g : Bool) {σ : jS} {x1 : Int32} {r : Int32} (h : f_X11_grudge σ x1 = some r) : Cn yX11_grudge cX11_grudge 2 (some .int) 2 g [.ref 1, .int x1] (eM σ) (some (.int r)) (eM σ) :=
  Cn_of (by decide) (Nat.le_refl _) (Nat.le_refl _) (Nat.le_of_ble_eq_true rfl) (f_X11_grudge_ok (Kp := (fun o => o = r)) σ x1 ⟨jbr _, jbr _⟩ (fun r2 q => by cases q; exact ⟨rfl, rfl⟩) _ h rfl)
def f_X11_one (x0 : Int32) : Option Int32 :=
  some ((x0 / (9248 : Int32)))
set_option maxHeartbeats 1000000 in
set_option maxRecDepth 20000 in
theorem f_X11_one_ok {g : Bool} {rv : Option Value} {μ' : jM} (x0 : Int32) (μ : jM) {Kp : Int32 → Prop} (hn : Nat.ble μ.1 μ'.1 = true ∧ Nat.ble μ.2.1 μ'.2.1 = true) (hr : ∀ r : Int32, Kp (r) → rv = some (.int r) ∧ μ' = μ) (o : Int32) (h : f_X11_one x0 = some o) (hK : Kp o) : J yX11_one cX11_one 1 (some .int) 1 g rv μ' 0 [(0, .int x0)] [] μ := by
  unfold f_X11_one at h
  refine j_iload_n 0 dX11_one_0 rfl rfl ?_
  refine j_sipush (v := 9248) dX11_one_1 (by decide) ?_
  refine j_idiv dX11_one_4 (by decide) ?_
  replace h := Option.some.inj h
  subst h
  obtain ⟨hr1, hr2⟩ := hr _ hK
  exact j_iret dX11_one_5 hr1 hr2
theorem c_X11_one (g : Bool) (μ : jM) {x0 : Int32} {r : Int32} (h : f_X11_one x0 = some r) : Cn yX11_one cX11_one 1 (some .int) 1 g [.int x0] μ (some (.int r)) μ :=
  Cn_of (by decide) (Nat.le_refl _) (Nat.le_refl _) (Nat.le_of_ble_eq_true rfl) (f_X11_one_ok (Kp := (fun o => o = r)) x0 μ ⟨jbr _, jbr _⟩ (fun r2 q => by cases q; exact ⟨rfl, rfl⟩) _ h rfl)
def f_X11_side (x0 : Int32) : Option Int32 :=
  some (((x0 / (289 : Int32)) - (x0 / (289 : Int32)) / (2 : Int32) * (2 : Int32)))
set_option maxHeartbeats 1000000 in
set_option maxRecDepth 20000 in
theorem f_X11_side_ok {g : Bool} {rv : Option Value} {μ' : jM} (x0 : Int32) (μ : jM) {Kp : Int32 → Prop} (hn : Nat.ble μ.1 μ'.1 = true ∧ Nat.ble μ.2.1 μ'.2.1 = true) (hr : ∀ r : Int32, Kp (r) → rv = some (.int r) ∧ μ' = μ) (o : Int32) (h : f_X11_side x0 = some o) (hK : Kp o) : J yX11_side cX11_side 1 (some .int) 1 g rv μ' 0 [(0, .int x0)] [] μ := by
  unfold f_X11_side at h
  refine j_iload_n 0 dX11_side_0 rfl rfl ?_
  refine j_sipush (v := 289) dX11_side_1 (by decide) ?_
  refine j_idiv dX11_side_4 (by decide) ?_
  refine j_iconst (v := 2) dX11_side_5 (by decide) ?_
  refine j_irem dX11_side_6 (by decide) ?_
  replace h := Option.some.inj h
  subst h
  obtain ⟨hr1, hr2⟩ := hr _ hK
  exact j_iret dX11_side_7 hr1 hr2
theorem c_X11_side (g : Bool) (μ : jM) {x0 : Int32} {r : Int32} (h : f_X11_side x0 = some r) : Cn yX11_side cX11_side 1 (some .int) 1 g [.int x0] μ (some (.int r)) μ :=
  Cn_of (by decide) (Nat.le_refl _) (Nat.le_refl _) (Nat.le_of_ble_eq_true rfl) (f_X11_side_ok (Kp := (fun o => o = r)) x0 μ ⟨jbr _, jbr _⟩ (fun r2 q => by cases q; exact ⟨rfl, rfl⟩) _ h rfl)
def f_X11_two (x0 : Int32) : Option Int32 :=
  some (((x0 / (578 : Int32)) - (x0 / (578 : Int32)) / (16 : Int32) * (16 : Int32)))
set_option maxHeartbeats 1000000 in
set_option maxRecDepth 20000 in
theorem f_X11_two_ok {g : Bool} {rv : Option Value} {μ' : jM} (x0 : Int32) (μ : jM) {Kp : Int32 → Prop} (hn : Nat.ble μ.1 μ'.1 = true ∧ Nat.ble μ.2.1 μ'.2.1 = true) (hr : ∀ r : Int32, Kp (r) → rv = some (.int r) ∧ μ' = μ) (o : Int32) (h : f_X11_two x0 = some o) (hK : Kp o) : J yX11_two cX11_two 1 (some .int) 1 g rv μ' 0 [(0, .int x0)] [] μ := by
  unfold f_X11_two at h
  refine j_iload_n 0 dX11_two_0 rfl rfl ?_
  refine j_sipush (v := 578) dX11_two_1 (by decide) ?_
  refine j_idiv dX11_two_4 (by decide) ?_
  refine j_bipush (v := 16) dX11_two_5 (by decide) ?_
  refine j_irem dX11_two_7 (by decide) ?_
  replace h := Option.some.inj h
  subst h
  obtain ⟨hr1, hr2⟩ := hr _ hK
  exact j_iret dX11_two_8 hr1 hr2
theorem c_X11_two (g : Bool) (μ : jM) {x0 : Int32} {r : Int32} (h : f_X11_two x0 = some r) : Cn yX11_two cX11_two 1 (some .int) 1 g [.int x0] μ (some (.int r)) μ :=
  Cn_of (by decide) (Nat.le_refl _) (Nat.le_refl _) (Nat.le_of_ble_eq_true rfl) (f_X11_two_ok (Kp := (fun o => o = r)) x0 μ ⟨jbr _, jbr _⟩ (fun r2 q => by cases q; exact ⟨rfl, rfl⟩) _ h rfl)
def f_X11_law_J30 (σ : jS) : Option (Int32 × jS) :=
  some (((-1002), σ))
set_option maxHeartbeats 1000000 in
set_option maxRecDepth 20000 in
theorem f_X11_law_J30_ok {g : Bool} {rv : Option Value} {μ' : jM} (σ : jS) {Kp : (Int32 × jS) → Prop} (hn : Nat.ble nM μ'.1 = true ∧ Nat.ble wM μ'.2.1 = true) (hr : ∀ (r : Int32) (s : jS), Kp ((r, s)) → rv = some (.int r) ∧ μ' = eM s) (o : (Int32 × jS)) (h : f_X11_law_J30 σ = some o) (hK : Kp o) : J yX11_law cX11_law 5 (some .int) 2 g rv μ' 30 [] [] (eM σ) := by
  unfold f_X11_law_J30 at h
  refine j_sipush (v := (-1002)) dX11_law_30 (by decide) ?_
  replace h := Option.some.inj h
  subst h
  obtain ⟨hr1, hr2⟩ := hr _ _ hK
  exact j_iret dX11_law_33 hr1 hr2
def f_X11_law_J169 (σ : jS) (x3 : Int32) : Option (Int32 × jS) :=
  some ((x3, σ))
set_option maxHeartbeats 1000000 in
set_option maxRecDepth 20000 in
theorem f_X11_law_J169_ok {g : Bool} {rv : Option Value} {μ' : jM} (σ : jS) (x3 : Int32) {Kp : (Int32 × jS) → Prop} (hn : Nat.ble nM μ'.1 = true ∧ Nat.ble wM μ'.2.1 = true) (hr : ∀ (r : Int32) (s : jS), Kp ((r, s)) → rv = some (.int r) ∧ μ' = eM s) (o : (Int32 × jS)) (h : f_X11_law_J169 σ x3 = some o) (hK : Kp o) : J yX11_law cX11_law 5 (some .int) 2 g rv μ' 169 [(3, .int x3)] [] (eM σ) := by
  unfold f_X11_law_J169 at h
  refine j_iload_n 0 dX11_law_169 rfl rfl ?_
  replace h := Option.some.inj h
  subst h
  obtain ⟨hr1, hr2⟩ := hr _ _ hK
  exact j_iret dX11_law_170 hr1 hr2
def f_X11_law_B103 (σ : jS) (x1 : Int32) (x2 : Int32) (x3 : Int32) (x4 : Int32) : Option ((Int32 × jS) ⊕ (Int32 × jS)) :=
  if (gI σ 1 8) ≤ x4 then (jw (f_X11_law_J169 σ x3))
  else (if x1 = 1 then (if x2 = 0 then (bG (jin x4 4) (
  bC (f_X11_one (gI σ 9 (ix x4))) fun r5 =>
  bG (jin x4 4) (
  bC (f_X11_two (gI σ 9 (ix x4))) fun r6 =>
  bG (jin x4 4) (
  bC (f_X11_side (gI σ 9 (ix x4))) fun r7 =>
  bC (f_X11_code r5 r6 r7 (-1) (-1)) fun r8 =>
  bG (jin x4 4) (
  bV (sI σ 9 (ix x4) r8) fun σ9 =>
  bV (x4 + 1) fun v10 =>
  some (.inl (v10, σ9)))))))
  else (jw (f_X11_law_J169 σ x3)))
  else (jw (f_X11_law_J169 σ x3)))
set_option maxHeartbeats 1000000 in
set_option maxRecDepth 20000 in
theorem f_X11_law_B103_ok {g : Bool} {rv : Option Value} {μ' : jM} (σ : jS) (x1 : Int32) (x2 : Int32) (x3 : Int32) (x4 : Int32) {Kp : ((Int32 × jS) ⊕ (Int32 × jS)) → Prop} (hn : Nat.ble nM μ'.1 = true ∧ Nat.ble wM μ'.2.1 = true) (hr : ∀ (r : Int32) (s : jS), Kp (.inr ((r, s))) → rv = some (.int r) ∧ μ' = eM s) (hc0 : ∀ s : (Int32 × jS), Kp (.inl s) → J yX11_law cX11_law 5 (some .int) 2 g rv μ' 103 [(0, .ref 1), (1, .int x1), (2, .int x2), (3, .int x3), (4, .int s.1)] [] (eM s.2)) (o : ((Int32 × jS) ⊕ (Int32 × jS))) (h : f_X11_law_B103 σ x1 x2 x3 x4 = some o) (hK : Kp o) : J yX11_law cX11_law 5 (some .int) 2 g rv μ' 103 [(0, .ref 1), (1, .int x1), (2, .int x2), (3, .int x3), (4, .int x4)] [] (eM σ) := by
  unfold f_X11_law_B103 at h
  refine j_iload 4 dX11_law_103 rfl ?_
  refine j_aload_n 0 dX11_law_105 rfl rfl ?_
  refine j_get (ci := 10) 8 (.int (gI σ 1 8)) jC_10 dX11_law_106 kg_RX11_148 rfl (okM_1 _) (shM_1 _) (fvM_1_8 _) ?_
  refine j_icmp_ge 169 dX11_law_109 (by decide) (fun hc11 => ?_) (fun hc11 => ?_)
  · replace h := jif_t hc11 h
    replace h := jw_inv h
    obtain ⟨o12, rfl, h⟩ := h
    refine j_sub [(3, .int x3)] [3] rfl ?_
    exact f_X11_law_J169_ok (Kp := fun o => Kp (.inr (o))) σ x3 hn (fun r s q => hr r s q) _ h hK
  · replace h := jif_f hc11 h
    refine j_iload_n 1 dX11_law_112 rfl rfl ?_
    refine j_iconst (v := 1) dX11_law_113 (by decide) ?_
    refine j_icmp_ne 169 dX11_law_114 (by decide) (fun hc13 => ?_) (fun hc13 => ?_)
    · replace h := jif_f hc13 h
      replace h := jw_inv h
      obtain ⟨o14, rfl, h⟩ := h
      refine j_sub [(3, .int x3)] [3] rfl ?_
      exact f_X11_law_J169_ok (Kp := fun o => Kp (.inr (o))) σ x3 hn (fun r s q => hr r s q) _ h hK
    · replace h := jif_t hc13 h
      refine j_iload_n 2 dX11_law_117 rfl rfl ?_
      refine j_if_ne 169 dX11_law_118 (by decide) (fun hc15 => ?_) (fun hc15 => ?_)
      · replace h := jif_f hc15 h
        replace h := jw_inv h
        obtain ⟨o16, rfl, h⟩ := h
        refine j_sub [(3, .int x3)] [3] rfl ?_
        exact f_X11_law_J169_ok (Kp := fun o => Kp (.inr (o))) σ x3 hn (fun r s q => hr r s q) _ h hK
      · replace h := jif_t hc15 h
        refine j_aload_n 0 dX11_law_121 rfl rfl ?_
        refine j_get (ci := 10) 11 (.ref 9) jC_10 dX11_law_122 kg_RX11_31 rfl (okM_1 _) (shM_1 _) (fvM_1_11 _) ?_
        refine j_iload 4 dX11_law_125 rfl ?_
        refine j_aload_n 0 dX11_law_127 rfl rfl ?_
        refine j_get (ci := 10) 11 (.ref 9) jC_10 dX11_law_128 kg_RX11_31 rfl (okM_1 _) (shM_1 _) (fvM_1_11 _) ?_
        refine j_iload 4 dX11_law_131 rfl ?_
        replace h := bG_inv h
        obtain ⟨hi17, h⟩ := h
        refine j_iaload dX11_law_133 (okM_9 _) (shM_9 _) (jin_spec hi17) ?_
        replace h := bC_inv h
        obtain ⟨r18, cr18, h⟩ := h
        refine j_callS (st1 := .int r18 :: _) (c_X11_one g _ cr18) jy_X11_one kt_yX11_one kl_RX11_271 dX11_law_134 rfl rfl rfl rfl (jbr _) (jbr _) hn.1 hn.2 (Or.inr rfl) rfl ?_
        refine j_aload_n 0 dX11_law_137 rfl rfl ?_
        refine j_get (ci := 10) 11 (.ref 9) jC_10 dX11_law_138 kg_RX11_31 rfl (okM_1 _) (shM_1 _) (fvM_1_11 _) ?_
        refine j_iload 4 dX11_law_141 rfl ?_
        replace h := bG_inv h
        obtain ⟨hi19, h⟩ := h
        refine j_iaload dX11_law_143 (okM_9 _) (shM_9 _) (jin_spec hi19) ?_
        replace h := bC_inv h
        obtain ⟨r20, cr20, h⟩ := h
        refine j_callS (st1 := .int r20 :: _) (c_X11_two g _ cr20) jy_X11_two kt_yX11_two kl_RX11_274 dX11_law_144 rfl rfl rfl rfl (jbr _) (jbr _) hn.1 hn.2 (Or.inr rfl) rfl ?_
        refine j_aload_n 0 dX11_law_147 rfl rfl ?_
        refine j_get (ci := 10) 11 (.ref 9) jC_10 dX11_law_148 kg_RX11_31 rfl (okM_1 _) (shM_1 _) (fvM_1_11 _) ?_
        refine j_iload 4 dX11_law_151 rfl ?_
        replace h := bG_inv h
        obtain ⟨hi21, h⟩ := h
        refine j_iaload dX11_law_153 (okM_9 _) (shM_9 _) (jin_spec hi21) ?_
        replace h := bC_inv h
        obtain ⟨r22, cr22, h⟩ := h
        refine j_callS (st1 := .int r22 :: _) (c_X11_side g _ cr22) jy_X11_side kt_yX11_side kl_RX11_277 dX11_law_154 rfl rfl rfl rfl (jbr _) (jbr _) hn.1 hn.2 (Or.inr rfl) rfl ?_
        refine j_iconst (v := (-1)) dX11_law_157 (by decide) ?_
        refine j_iconst (v := (-1)) dX11_law_158 (by decide) ?_
        replace h := bC_inv h
        obtain ⟨r23, cr23, h⟩ := h
        refine j_callS (st1 := .int r23 :: _) (c_X11_code g _ cr23) jy_X11_code kt_yX11_code kl_RX11_280 dX11_law_159 rfl rfl rfl rfl (jbr _) (jbr _) hn.1 hn.2 (Or.inr rfl) rfl ?_
        replace h := bG_inv h
        obtain ⟨hi24, h⟩ := h
        refine j_iastore dX11_law_162 (okM_9 _) (shM_9 _) (jin_spec hi24) ?_
        replace h := bV_inv h
        obtain ⟨σ25, eσ25, h⟩ := h
        refine j_mem (congrArg eM eσ25) ?_
        replace h := bV_inv h
        obtain ⟨v26, ev26, h⟩ := h
        refine j_iinc (v := v26) [(4, .int v26), (0, .ref 1), (1, .int x1), (2, .int x2), (3, .int x3)] 4 dX11_law_163 rfl (by rw [ev26]; rfl) (Nat.le_of_ble_eq_true rfl) rfl ?_
        refine j_goto 103 dX11_law_166 (by decide) ?_
        replace h := Option.some.inj h
        subst h
        refine j_sub [(0, .ref 1), (1, .int x1), (2, .int x2), (3, .int x3), (4, .int v26)] [1, 2, 3, 4, 0] rfl ?_
        exact hc0 _ hK
def f_X11_law_J97 (σ : jS) (x1 : Int32) (x2 : Int32) (x3 : Int32) (y0 : Int32) : Option (Int32 × jS) :=
  bG (jb y0) (
  bV (sI σ 1 14 y0) fun σ4 =>
  jloop jFuel (fun s => f_X11_law_B103 s.2 x1 x2 x3 s.1) (0, σ4))
set_option maxHeartbeats 1000000 in
set_option maxRecDepth 20000 in
theorem f_X11_law_J97_ok {g : Bool} {rv : Option Value} {μ' : jM} (σ : jS) (x1 : Int32) (x2 : Int32) (x3 : Int32) (y0 : Int32) {Kp : (Int32 × jS) → Prop} (hn : Nat.ble nM μ'.1 = true ∧ Nat.ble wM μ'.2.1 = true) (hr : ∀ (r : Int32) (s : jS), Kp ((r, s)) → rv = some (.int r) ∧ μ' = eM s) (o : (Int32 × jS)) (h : f_X11_law_J97 σ x1 x2 x3 y0 = some o) (hK : Kp o) : J yX11_law cX11_law 5 (some .int) 2 g rv μ' 97 [(0, .ref 1), (1, .int x1), (2, .int x2), (3, .int x3)] [.int y0, .ref 1] (eM σ) := by
  unfold f_X11_law_J97 at h
  replace h := bG_inv h
  obtain ⟨hb27, h⟩ := h
  replace h := bV_inv h
  obtain ⟨σ28, eσ28, h⟩ := h
  refine j_putI 14 jC_10 dX11_law_97 kg_RX11_267 (Or.inl ff_10_14) rfl fk_10_14 (fn_10_14 hb27) (okM_1 _) (shM_1 _) ?_
  refine j_mem (congrArg eM eσ28) ?_
  refine j_iconst (v := 0) dX11_law_100 (by decide) ?_
  refine j_istore [(4, .int 0), (0, .ref 1), (1, .int x1), (2, .int x2), (3, .int x3)] dX11_law_101 (Nat.le_of_ble_eq_true rfl) rfl ?_
  refine j_sub [(0, .ref 1), (1, .int x1), (2, .int x2), (3, .int x3), (4, .int 0)] [1, 2, 3, 4, 0] rfl ?_
  exact jloop_ok (fun s => f_X11_law_B103 s.2 x1 x2 x3 s.1) (fun s => J yX11_law cX11_law 5 (some .int) 2 g rv μ' 103 [(0, .ref 1), (1, .int x1), (2, .int x2), (3, .int x3), (4, .int s.1)] [] (eM s.2)) Kp (fun s o hb hk => f_X11_law_B103_ok (Kp := jsum (fun s => J yX11_law cX11_law 5 (some .int) 2 g rv μ' 103 [(0, .ref 1), (1, .int x1), (2, .int x2), (3, .int x3), (4, .int s.1)] [] (eM s.2)) Kp) s.2 x1 x2 x3 s.1 hn (fun r s q => hr r s q) (fun s q => q) o hb hk) jFuel _ _ h hK
def f_X11_law_J71 (σ : jS) (x1 : Int32) (x2 : Int32) (x3 : Int32) (y0 : Int32) : Option (Int32 × jS) :=
  bV (sI σ 1 13 y0) fun σ3 =>
  if x1 = 1 then (if x2 = 1 then (f_X11_law_J97 σ3 x1 x2 x3 1)
  else (f_X11_law_J97 σ3 x1 x2 x3 0))
  else (f_X11_law_J97 σ3 x1 x2 x3 (gI σ3 1 14))
set_option maxHeartbeats 1000000 in
set_option maxRecDepth 20000 in
theorem f_X11_law_J71_ok {g : Bool} {rv : Option Value} {μ' : jM} (σ : jS) (x1 : Int32) (x2 : Int32) (x3 : Int32) (y0 : Int32) {Kp : (Int32 × jS) → Prop} (hn : Nat.ble nM μ'.1 = true ∧ Nat.ble wM μ'.2.1 = true) (hr : ∀ (r : Int32) (s : jS), Kp ((r, s)) → rv = some (.int r) ∧ μ' = eM s) (o : (Int32 × jS)) (h : f_X11_law_J71 σ x1 x2 x3 y0 = some o) (hK : Kp o) : J yX11_law cX11_law 5 (some .int) 2 g rv μ' 71 [(0, .ref 1), (1, .int x1), (2, .int x2), (3, .int x3)] [.int y0, .ref 1] (eM σ) := by
  unfold f_X11_law_J71 at h
  replace h := bV_inv h
  obtain ⟨σ29, eσ29, h⟩ := h
  refine j_putI 13 jC_10 dX11_law_71 kg_RX11_264 (Or.inl ff_10_13) rfl fk_10_13 (fn_10_13 _) (okM_1 _) (shM_1 _) ?_
  refine j_mem (congrArg eM eσ29) ?_
  refine j_aload_n 0 dX11_law_74 rfl rfl ?_
  refine j_iload_n 1 dX11_law_75 rfl rfl ?_
  refine j_iconst (v := 1) dX11_law_76 (by decide) ?_
  refine j_icmp_ne 93 dX11_law_77 (by decide) (fun hc30 => ?_) (fun hc30 => ?_)
  · replace h := jif_f hc30 h
    refine j_aload_n 0 dX11_law_93 rfl rfl ?_
    refine j_get (ci := 10) 14 (.int (gI σ29 1 14)) jC_10 dX11_law_94 kg_RX11_267 rfl (okM_1 _) (shM_1 _) (fvM_1_14 _) ?_
    exact f_X11_law_J97_ok σ29 x1 x2 x3 (gI σ29 1 14) hn hr _ h hK
  · replace h := jif_t hc30 h
    refine j_iload_n 2 dX11_law_80 rfl rfl ?_
    refine j_iconst (v := 1) dX11_law_81 (by decide) ?_
    refine j_icmp_ne 89 dX11_law_82 (by decide) (fun hc31 => ?_) (fun hc31 => ?_)
    · replace h := jif_f hc31 h
      refine j_iconst (v := 0) dX11_law_89 (by decide) ?_
      refine j_goto 97 dX11_law_90 (by decide) ?_
      exact f_X11_law_J97_ok σ29 x1 x2 x3 0 hn hr _ h hK
    · replace h := jif_t hc31 h
      refine j_iconst (v := 1) dX11_law_85 (by decide) ?_
      refine j_goto 97 dX11_law_86 (by decide) ?_
      exact f_X11_law_J97_ok σ29 x1 x2 x3 1 hn hr _ h hK
def f_X11_law_J57 (σ : jS) (x1 : Int32) (x2 : Int32) (y0 : Int32) : Option (Int32 × jS) :=
  if x1 = 0 then (f_X11_law_J71 σ x1 x2 y0 x2)
  else (f_X11_law_J71 σ x1 x2 y0 (gI σ 1 13))
set_option maxHeartbeats 1000000 in
set_option maxRecDepth 20000 in
theorem f_X11_law_J57_ok {g : Bool} {rv : Option Value} {μ' : jM} (σ : jS) (x1 : Int32) (x2 : Int32) (y0 : Int32) {Kp : (Int32 × jS) → Prop} (hn : Nat.ble nM μ'.1 = true ∧ Nat.ble wM μ'.2.1 = true) (hr : ∀ (r : Int32) (s : jS), Kp ((r, s)) → rv = some (.int r) ∧ μ' = eM s) (o : (Int32 × jS)) (h : f_X11_law_J57 σ x1 x2 y0 = some o) (hK : Kp o) : J yX11_law cX11_law 5 (some .int) 2 g rv μ' 57 [(0, .ref 1), (1, .int x1), (2, .int x2)] [.int y0] (eM σ) := by
  unfold f_X11_law_J57 at h
  refine j_istore_n [(3, .int y0), (0, .ref 1), (1, .int x1), (2, .int x2)] dX11_law_57 rfl (Nat.le_of_ble_eq_true rfl) rfl ?_
  refine j_aload_n 1 dX11_law_58 rfl rfl ?_
  refine j_iload_n 2 dX11_law_59 rfl rfl ?_
  refine j_if_ne 67 dX11_law_60 (by decide) (fun hc32 => ?_) (fun hc32 => ?_)
  · replace h := jif_f hc32 h
    refine j_aload_n 1 dX11_law_67 rfl rfl ?_
    refine j_get (ci := 10) 13 (.int (gI σ 1 13)) jC_10 dX11_law_68 kg_RX11_264 rfl (okM_1 _) (shM_1 _) (fvM_1_13 _) ?_
    refine j_sub [(0, .ref 1), (1, .int x1), (2, .int x2), (3, .int y0)] [1, 2, 3, 0] rfl ?_
    exact f_X11_law_J71_ok σ x1 x2 y0 (gI σ 1 13) hn hr _ h hK
  · replace h := jif_t hc32 h
    refine j_iload_n 3 dX11_law_63 rfl rfl ?_
    refine j_goto 71 dX11_law_64 (by decide) ?_
    refine j_sub [(0, .ref 1), (1, .int x1), (2, .int x2), (3, .int y0)] [1, 2, 3, 0] rfl ?_
    exact f_X11_law_J71_ok σ x1 x2 y0 x2 hn hr _ h hK
def f_X11_law_J24 (σ : jS) (x1 : Int32) (x2 : Int32) (y0 : Int64) (y1 : Int64) (y2 : Int64) : Option (Int32 × jS) :=
  bC (f_X11_in y2 y1 y0) fun r2 =>
  if r2 = 0 then (f_X11_law_J30 σ)
  else (if x1 = 0 then (f_X11_law_J57 σ x1 x2 (gI σ 1 13))
  else (if (gI σ 1 14) = 0 then (f_X11_law_J57 σ x1 x2 0)
  else (f_X11_law_J57 σ x1 x2 1)))
set_option maxHeartbeats 1000000 in
set_option maxRecDepth 20000 in
theorem f_X11_law_J24_ok {g : Bool} {rv : Option Value} {μ' : jM} (σ : jS) (x1 : Int32) (x2 : Int32) (y0 : Int64) (y1 : Int64) (y2 : Int64) {Kp : (Int32 × jS) → Prop} (hn : Nat.ble nM μ'.1 = true ∧ Nat.ble wM μ'.2.1 = true) (hr : ∀ (r : Int32) (s : jS), Kp ((r, s)) → rv = some (.int r) ∧ μ' = eM s) (o : (Int32 × jS)) (h : f_X11_law_J24 σ x1 x2 y0 y1 y2 = some o) (hK : Kp o) : J yX11_law cX11_law 5 (some .int) 2 g rv μ' 24 [(0, .ref 1), (1, .int x1), (2, .int x2)] [.long y0, .long y1, .long y2] (eM σ) := by
  unfold f_X11_law_J24 at h
  replace h := bC_inv h
  obtain ⟨r33, cr33, h⟩ := h
  refine j_callS (st1 := .int r33 :: _) (c_X11_in g _ cr33) jy_X11_in kt_yX11_in kl_RX11_144 dX11_law_24 rfl rfl rfl rfl (jbr _) (jbr _) hn.1 hn.2 (Or.inr rfl) rfl ?_
  refine j_if_ne 34 dX11_law_27 (by decide) (fun hc34 => ?_) (fun hc34 => ?_)
  · replace h := jif_f hc34 h
    refine j_iload_n 1 dX11_law_34 rfl rfl ?_
    refine j_if_ne 45 dX11_law_35 (by decide) (fun hc35 => ?_) (fun hc35 => ?_)
    · replace h := jif_f hc35 h
      refine j_aload_n 0 dX11_law_45 rfl rfl ?_
      refine j_get (ci := 10) 14 (.int (gI σ 1 14)) jC_10 dX11_law_46 kg_RX11_267 rfl (okM_1 _) (shM_1 _) (fvM_1_14 _) ?_
      refine j_if_eq 56 dX11_law_49 (by decide) (fun hc36 => ?_) (fun hc36 => ?_)
      · replace h := jif_t hc36 h
        refine j_iconst (v := 0) dX11_law_56 (by decide) ?_
        exact f_X11_law_J57_ok σ x1 x2 0 hn hr _ h hK
      · replace h := jif_f hc36 h
        refine j_iconst (v := 1) dX11_law_52 (by decide) ?_
        refine j_goto 57 dX11_law_53 (by decide) ?_
        exact f_X11_law_J57_ok σ x1 x2 1 hn hr _ h hK
    · replace h := jif_t hc35 h
      refine j_aload_n 0 dX11_law_38 rfl rfl ?_
      refine j_get (ci := 10) 13 (.int (gI σ 1 13)) jC_10 dX11_law_39 kg_RX11_264 rfl (okM_1 _) (shM_1 _) (fvM_1_13 _) ?_
      refine j_goto 57 dX11_law_42 (by decide) ?_
      exact f_X11_law_J57_ok σ x1 x2 (gI σ 1 13) hn hr _ h hK
  · replace h := jif_t hc34 h
    refine j_sub [] [] rfl ?_
    exact f_X11_law_J30_ok σ hn hr _ h hK
def f_X11_law (σ : jS) (x1 : Int32) (x2 : Int32) : Option (Int32 × jS) :=
  bC (f_X11_in (x1.toInt64) 0 1) fun r1 =>
  if r1 = 0 then (f_X11_law_J30 σ)
  else (if x1 = 0 then (f_X11_law_J24 σ x1 x2 3 0 (x2.toInt64))
  else (f_X11_law_J24 σ x1 x2 1 0 (x2.toInt64)))
set_option maxHeartbeats 1000000 in
set_option maxRecDepth 20000 in
theorem f_X11_law_ok {g : Bool} {rv : Option Value} {μ' : jM} (σ : jS) (x1 : Int32) (x2 : Int32) {Kp : (Int32 × jS) → Prop} (hn : Nat.ble nM μ'.1 = true ∧ Nat.ble wM μ'.2.1 = true) (hr : ∀ (r : Int32) (s : jS), Kp ((r, s)) → rv = some (.int r) ∧ μ' = eM s) (o : (Int32 × jS)) (h : f_X11_law σ x1 x2 = some o) (hK : Kp o) : J yX11_law cX11_law 5 (some .int) 2 g rv μ' 0 [(0, .ref 1), (1, .int x1), (2, .int x2)] [] (eM σ) := by
  unfold f_X11_law at h
  refine j_iload_n 1 dX11_law_0 rfl rfl ?_
  refine j_i2l dX11_law_1 ?_
  refine j_lconst (v := 0) dX11_law_2 (by decide) ?_
  refine j_lconst (v := 1) dX11_law_3 (by decide) ?_
  replace h := bC_inv h
  obtain ⟨r37, cr37, h⟩ := h
  refine j_callS (st1 := .int r37 :: _) (c_X11_in g _ cr37) jy_X11_in kt_yX11_in kl_RX11_144 dX11_law_4 rfl rfl rfl rfl (jbr _) (jbr _) hn.1 hn.2 (Or.inr rfl) rfl ?_
  refine j_if_eq 30 dX11_law_7 (by decide) (fun hc38 => ?_) (fun hc38 => ?_)
  · replace h := jif_t hc38 h
    refine j_sub [] [] rfl ?_
    exact f_X11_law_J30_ok σ hn hr _ h hK
  · replace h := jif_f hc38 h
    refine j_iload_n 2 dX11_law_10 rfl rfl ?_
    refine j_i2l dX11_law_11 ?_
    refine j_lconst (v := 0) dX11_law_12 (by decide) ?_
    refine j_iload_n 1 dX11_law_13 rfl rfl ?_
    refine j_if_ne 23 dX11_law_14 (by decide) (fun hc39 => ?_) (fun hc39 => ?_)
    · replace h := jif_f hc39 h
      refine j_lconst (v := 1) dX11_law_23 (by decide) ?_
      exact f_X11_law_J24_ok σ x1 x2 1 0 (x2.toInt64) hn hr _ h hK
    · replace h := jif_t hc39 h
      refine j_ldc2 (v := 3) kk_RX11_262 dX11_law_17 ?_
      refine j_goto 24 dX11_law_20 (by decide) ?_
      exact f_X11_law_J24_ok σ x1 x2 3 0 (x2.toInt64) hn hr _ h hK
theorem c_X11_law (g : Bool) {σ : jS} {x1 : Int32} {x2 : Int32} {r : Int32} {σ2 : jS} (h : f_X11_law σ x1 x2 = some (r, σ2)) : Cn yX11_law cX11_law 5 (some .int) 2 g [.ref 1, .int x1, .int x2] (eM σ) (some (.int r)) (eM σ2) :=
  Cn_of (by decide) (Nat.le_refl _) (Nat.le_refl _) (Nat.le_of_ble_eq_true rfl) (f_X11_law_ok (Kp := (fun o => o = (r, σ2))) σ x1 x2 ⟨jbr _, jbr _⟩ (fun r2 s2 q => by cases q; exact ⟨rfl, rfl⟩) _ h rfl)
def f_X11_grudgeOf_J59 (σ : jS) (x3 : Int32) : Option Int32 :=
  some (x3)
set_option maxHeartbeats 1000000 in
set_option maxRecDepth 20000 in
theorem f_X11_grudgeOf_J59_ok {g : Bool} {rv : Option Value} {μ' : jM} (σ : jS) (x3 : Int32) {Kp : Int32 → Prop} (hn : Nat.ble nM μ'.1 = true ∧ Nat.ble wM μ'.2.1 = true) (hr : ∀ r : Int32, Kp (r) → rv = some (.int r) ∧ μ' = (eM σ)) (o : Int32) (h : f_X11_grudgeOf_J59 σ x3 = some o) (hK : Kp o) : J yX11_grudgeOf cX11_grudgeOf 5 (some .int) 1 g rv μ' 59 [(3, .int x3)] [] (eM σ) := by
  unfold f_X11_grudgeOf_J59 at h
  refine j_iload_n 0 dX11_grudgeOf_59 rfl rfl ?_
  replace h := Option.some.inj h
  subst h
  obtain ⟨hr1, hr2⟩ := hr _ hK
  exact j_iret dX11_grudgeOf_60 hr1 hr2
def f_X11_grudgeOf_J52 (σ : jS) (x1 : Int32) (x2 : Int32) (x4 : Int32) (y0 : Int32) : Option ((Int32 × Int32) ⊕ Int32) :=
  bV (x4 + 1) fun v1 =>
  some (.inl (y0, v1))
set_option maxHeartbeats 1000000 in
set_option maxRecDepth 20000 in
theorem f_X11_grudgeOf_J52_ok {g : Bool} {rv : Option Value} {μ' : jM} (σ : jS) (x1 : Int32) (x2 : Int32) (x4 : Int32) (y0 : Int32) {Kp : ((Int32 × Int32) ⊕ Int32) → Prop} (hn : Nat.ble nM μ'.1 = true ∧ Nat.ble wM μ'.2.1 = true) (hr : ∀ r : Int32, Kp (.inr (r)) → rv = some (.int r) ∧ μ' = (eM σ)) (hc0 : ∀ s : (Int32 × Int32), Kp (.inl s) → J yX11_grudgeOf cX11_grudgeOf 5 (some .int) 1 g rv μ' 5 [(0, .ref 1), (1, .int x1), (2, .int x2), (3, .int s.1), (4, .int s.2)] [] (eM σ)) (o : ((Int32 × Int32) ⊕ Int32)) (h : f_X11_grudgeOf_J52 σ x1 x2 x4 y0 = some o) (hK : Kp o) : J yX11_grudgeOf cX11_grudgeOf 5 (some .int) 1 g rv μ' 52 [(0, .ref 1), (1, .int x1), (2, .int x2), (4, .int x4)] [.int y0] (eM σ) := by
  unfold f_X11_grudgeOf_J52 at h
  refine j_istore_n [(3, .int y0), (0, .ref 1), (1, .int x1), (2, .int x2), (4, .int x4)] dX11_grudgeOf_52 rfl (Nat.le_of_ble_eq_true rfl) rfl ?_
  replace h := bV_inv h
  obtain ⟨v2, ev2, h⟩ := h
  refine j_iinc (v := v2) [(4, .int v2), (3, .int y0), (0, .ref 1), (1, .int x1), (2, .int x2)] 4 dX11_grudgeOf_53 rfl (by rw [ev2]; rfl) (Nat.le_of_ble_eq_true rfl) rfl ?_
  refine j_goto 5 dX11_grudgeOf_56 (by decide) ?_
  replace h := Option.some.inj h
  subst h
  refine j_sub [(0, .ref 1), (1, .int x1), (2, .int x2), (3, .int y0), (4, .int v2)] [2, 3, 4, 1, 0] rfl ?_
  exact hc0 _ hK
def f_X11_grudgeOf_J46 (σ : jS) (x1 : Int32) (x2 : Int32) (x4 : Int32) : Option ((Int32 × Int32) ⊕ Int32) :=
  f_X11_grudgeOf_J52 σ x1 x2 x4 x4
set_option maxHeartbeats 1000000 in
set_option maxRecDepth 20000 in
theorem f_X11_grudgeOf_J46_ok {g : Bool} {rv : Option Value} {μ' : jM} (σ : jS) (x1 : Int32) (x2 : Int32) (x4 : Int32) {Kp : ((Int32 × Int32) ⊕ Int32) → Prop} (hn : Nat.ble nM μ'.1 = true ∧ Nat.ble wM μ'.2.1 = true) (hr : ∀ r : Int32, Kp (.inr (r)) → rv = some (.int r) ∧ μ' = (eM σ)) (hc0 : ∀ s : (Int32 × Int32), Kp (.inl s) → J yX11_grudgeOf cX11_grudgeOf 5 (some .int) 1 g rv μ' 5 [(0, .ref 1), (1, .int x1), (2, .int x2), (3, .int s.1), (4, .int s.2)] [] (eM σ)) (o : ((Int32 × Int32) ⊕ Int32)) (h : f_X11_grudgeOf_J46 σ x1 x2 x4 = some o) (hK : Kp o) : J yX11_grudgeOf cX11_grudgeOf 5 (some .int) 1 g rv μ' 46 [(0, .ref 1), (1, .int x1), (2, .int x2), (4, .int x4)] [] (eM σ) := by
  unfold f_X11_grudgeOf_J46 at h
  refine j_iload 3 dX11_grudgeOf_46 rfl ?_
  refine j_goto 52 dX11_grudgeOf_48 (by decide) ?_
  exact f_X11_grudgeOf_J52_ok σ x1 x2 x4 x4 hn hr hc0 _ h hK
def f_X11_grudgeOf_B5 (σ : jS) (x1 : Int32) (x2 : Int32) (x3 : Int32) (x4 : Int32) : Option ((Int32 × Int32) ⊕ Int32) :=
  if (gI σ 1 6) ≤ x4 then (jw (f_X11_grudgeOf_J59 σ x3))
  else (bG (jin x4 120) (
  if (gI σ 6 (ix x4)) = (((100 : Int32) * x1) + x2) then (f_X11_grudgeOf_J46 σ x1 x2 x4)
  else (bG (jin x4 120) (
  if (gI σ 6 (ix x4)) = (((100 : Int32) * x2) + x1) then (f_X11_grudgeOf_J46 σ x1 x2 x4)
  else (f_X11_grudgeOf_J52 σ x1 x2 x4 x3)))))
set_option maxHeartbeats 1000000 in
set_option maxRecDepth 20000 in
theorem f_X11_grudgeOf_B5_ok {g : Bool} {rv : Option Value} {μ' : jM} (σ : jS) (x1 : Int32) (x2 : Int32) (x3 : Int32) (x4 : Int32) {Kp : ((Int32 × Int32) ⊕ Int32) → Prop} (hn : Nat.ble nM μ'.1 = true ∧ Nat.ble wM μ'.2.1 = true) (hr : ∀ r : Int32, Kp (.inr (r)) → rv = some (.int r) ∧ μ' = (eM σ)) (hc0 : ∀ s : (Int32 × Int32), Kp (.inl s) → J yX11_grudgeOf cX11_grudgeOf 5 (some .int) 1 g rv μ' 5 [(0, .ref 1), (1, .int x1), (2, .int x2), (3, .int s.1), (4, .int s.2)] [] (eM σ)) (o : ((Int32 × Int32) ⊕ Int32)) (h : f_X11_grudgeOf_B5 σ x1 x2 x3 x4 = some o) (hK : Kp o) : J yX11_grudgeOf cX11_grudgeOf 5 (some .int) 1 g rv μ' 5 [(0, .ref 1), (1, .int x1), (2, .int x2), (3, .int x3), (4, .int x4)] [] (eM σ) := by
  unfold f_X11_grudgeOf_B5 at h
  refine j_iload 4 dX11_grudgeOf_5 rfl ?_
  refine j_aload_n 0 dX11_grudgeOf_7 rfl rfl ?_
  refine j_get (ci := 10) 6 (.int (gI σ 1 6)) jC_10 dX11_grudgeOf_8 kg_RX11_243 rfl (okM_1 _) (shM_1 _) (fvM_1_6 _) ?_
  refine j_icmp_ge 59 dX11_grudgeOf_11 (by decide) (fun hc3 => ?_) (fun hc3 => ?_)
  · replace h := jif_t hc3 h
    replace h := jw_inv h
    obtain ⟨o4, rfl, h⟩ := h
    refine j_sub [(3, .int x3)] [3] rfl ?_
    exact f_X11_grudgeOf_J59_ok (Kp := fun o => Kp (.inr (o))) σ x3 hn (fun r q => hr r q) _ h hK
  · replace h := jif_f hc3 h
    refine j_aload_n 0 dX11_grudgeOf_14 rfl rfl ?_
    refine j_get (ci := 10) 7 (.ref 6) jC_10 dX11_grudgeOf_15 kg_RX11_22 rfl (okM_1 _) (shM_1 _) (fvM_1_7 _) ?_
    refine j_iload 4 dX11_grudgeOf_18 rfl ?_
    replace h := bG_inv h
    obtain ⟨hi5, h⟩ := h
    refine j_iaload dX11_grudgeOf_20 (okM_6 _) (shM_6 _) (jin_spec hi5) ?_
    refine j_bipush (v := 100) dX11_grudgeOf_21 (by decide) ?_
    refine j_iload_n 1 dX11_grudgeOf_23 rfl rfl ?_
    refine j_imul dX11_grudgeOf_24 ?_
    refine j_iload_n 2 dX11_grudgeOf_25 rfl rfl ?_
    refine j_iadd dX11_grudgeOf_26 ?_
    refine j_icmp_eq 46 dX11_grudgeOf_27 (by decide) (fun hc6 => ?_) (fun hc6 => ?_)
    · replace h := jif_t hc6 h
      refine j_sub [(0, .ref 1), (1, .int x1), (2, .int x2), (4, .int x4)] [0, 1, 2, 4] rfl ?_
      exact f_X11_grudgeOf_J46_ok σ x1 x2 x4 hn hr hc0 _ h hK
    · replace h := jif_f hc6 h
      refine j_aload_n 0 dX11_grudgeOf_30 rfl rfl ?_
      refine j_get (ci := 10) 7 (.ref 6) jC_10 dX11_grudgeOf_31 kg_RX11_22 rfl (okM_1 _) (shM_1 _) (fvM_1_7 _) ?_
      refine j_iload 4 dX11_grudgeOf_34 rfl ?_
      replace h := bG_inv h
      obtain ⟨hi7, h⟩ := h
      refine j_iaload dX11_grudgeOf_36 (okM_6 _) (shM_6 _) (jin_spec hi7) ?_
      refine j_bipush (v := 100) dX11_grudgeOf_37 (by decide) ?_
      refine j_iload_n 2 dX11_grudgeOf_39 rfl rfl ?_
      refine j_imul dX11_grudgeOf_40 ?_
      refine j_iload_n 1 dX11_grudgeOf_41 rfl rfl ?_
      refine j_iadd dX11_grudgeOf_42 ?_
      refine j_icmp_ne 51 dX11_grudgeOf_43 (by decide) (fun hc8 => ?_) (fun hc8 => ?_)
      · replace h := jif_f hc8 h
        refine j_iload_n 3 dX11_grudgeOf_51 rfl rfl ?_
        refine j_sub [(0, .ref 1), (1, .int x1), (2, .int x2), (4, .int x4)] [0, 1, 2, 4] rfl ?_
        exact f_X11_grudgeOf_J52_ok σ x1 x2 x4 x3 hn hr hc0 _ h hK
      · replace h := jif_t hc8 h
        refine j_sub [(0, .ref 1), (1, .int x1), (2, .int x2), (4, .int x4)] [0, 1, 2, 4] rfl ?_
        exact f_X11_grudgeOf_J46_ok σ x1 x2 x4 hn hr hc0 _ h hK
def f_X11_grudgeOf (σ : jS) (x1 : Int32) (x2 : Int32) : Option Int32 :=
  jloop jFuel (fun s => f_X11_grudgeOf_B5 σ x1 x2 s.1 s.2) ((-1), 0)
set_option maxHeartbeats 1000000 in
set_option maxRecDepth 20000 in
theorem f_X11_grudgeOf_ok {g : Bool} {rv : Option Value} {μ' : jM} (σ : jS) (x1 : Int32) (x2 : Int32) {Kp : Int32 → Prop} (hn : Nat.ble nM μ'.1 = true ∧ Nat.ble wM μ'.2.1 = true) (hr : ∀ r : Int32, Kp (r) → rv = some (.int r) ∧ μ' = (eM σ)) (o : Int32) (h : f_X11_grudgeOf σ x1 x2 = some o) (hK : Kp o) : J yX11_grudgeOf cX11_grudgeOf 5 (some .int) 1 g rv μ' 0 [(0, .ref 1), (1, .int x1), (2, .int x2)] [] (eM σ) := by
  unfold f_X11_grudgeOf at h
  refine j_iconst (v := (-1)) dX11_grudgeOf_0 (by decide) ?_
  refine j_istore_n [(3, .int (-1)), (0, .ref 1), (1, .int x1), (2, .int x2)] dX11_grudgeOf_1 rfl (Nat.le_of_ble_eq_true rfl) rfl ?_
  refine j_iconst (v := 0) dX11_grudgeOf_2 (by decide) ?_
  refine j_istore [(4, .int 0), (3, .int (-1)), (0, .ref 1), (1, .int x1), (2, .int x2)] dX11_grudgeOf_3 (Nat.le_of_ble_eq_true rfl) rfl ?_
  refine j_sub [(0, .ref 1), (1, .int x1), (2, .int x2), (3, .int (-1)), (4, .int 0)] [2, 3, 4, 1, 0] rfl ?_
  exact jloop_ok (fun s => f_X11_grudgeOf_B5 σ x1 x2 s.1 s.2) (fun s => J yX11_grudgeOf cX11_grudgeOf 5 (some .int) 1 g rv μ' 5 [(0, .ref 1), (1, .int x1), (2, .int x2), (3, .int s.1), (4, .int s.2)] [] (eM σ)) Kp (fun s o hb hk => f_X11_grudgeOf_B5_ok (Kp := jsum (fun s => J yX11_grudgeOf cX11_grudgeOf 5 (some .int) 1 g rv μ' 5 [(0, .ref 1), (1, .int x1), (2, .int x2), (3, .int s.1), (4, .int s.2)] [] (eM σ)) Kp) σ x1 x2 s.1 s.2 hn (fun r q => hr r q) (fun s q => q) o hb hk) jFuel _ _ h hK
theorem c_X11_grudgeOf (g : Bool) {σ : jS} {x1 : Int32} {x2 : Int32} {r : Int32} (h : f_X11_grudgeOf σ x1 x2 = some r) : Cn yX11_grudgeOf cX11_grudgeOf 5 (some .int) 1 g [.ref 1, .int x1, .int x2] (eM σ) (some (.int r)) (eM σ) :=
  Cn_of (by decide) (Nat.le_refl _) (Nat.le_refl _) (Nat.le_of_ble_eq_true rfl) (f_X11_grudgeOf_ok (Kp := (fun o => o = r)) σ x1 x2 ⟨jbr _, jbr _⟩ (fun r2 q => by cases q; exact ⟨rfl, rfl⟩) _ h rfl)
def f_X11_bear_J21 (σ : jS) : Option (Int32 × jS) :=
  some (((-1001), σ))
set_option maxHeartbeats 1000000 in
set_option maxRecDepth 20000 in
theorem f_X11_bear_J21_ok {g : Bool} {rv : Option Value} {μ' : jM} (σ : jS) {Kp : (Int32 × jS) → Prop} (hn : Nat.ble nM μ'.1 = true ∧ Nat.ble wM μ'.2.1 = true) (hr : ∀ (r : Int32) (s : jS), Kp ((r, s)) → rv = some (.int r) ∧ μ' = eM s) (o : (Int32 × jS)) (h : f_X11_bear_J21 σ = some o) (hK : Kp o) : J yX11_bear cX11_bear 5 (some .int) 3 g rv μ' 21 [] [] (eM σ) := by
  unfold f_X11_bear_J21 at h
  refine j_sipush (v := (-1001)) dX11_bear_21 (by decide) ?_
  replace h := Option.some.inj h
  subst h
  obtain ⟨hr1, hr2⟩ := hr _ _ hK
  exact j_iret dX11_bear_24 hr1 hr2
def f_X11_bear_J109 (σ : jS) : Option (Int32 × jS) :=
  some ((gI σ 1 6, σ))
set_option maxHeartbeats 1000000 in
set_option maxRecDepth 20000 in
theorem f_X11_bear_J109_ok {g : Bool} {rv : Option Value} {μ' : jM} (σ : jS) {Kp : (Int32 × jS) → Prop} (hn : Nat.ble nM μ'.1 = true ∧ Nat.ble wM μ'.2.1 = true) (hr : ∀ (r : Int32) (s : jS), Kp ((r, s)) → rv = some (.int r) ∧ μ' = eM s) (o : (Int32 × jS)) (h : f_X11_bear_J109 σ = some o) (hK : Kp o) : J yX11_bear cX11_bear 5 (some .int) 3 g rv μ' 109 [(0, .ref 1)] [] (eM σ) := by
  unfold f_X11_bear_J109 at h
  refine j_aload_n 0 dX11_bear_109 rfl rfl ?_
  refine j_get (ci := 10) 6 (.int (gI σ 1 6)) jC_10 dX11_bear_110 kg_RX11_243 rfl (okM_1 _) (shM_1 _) (fvM_1_6 _) ?_
  replace h := Option.some.inj h
  subst h
  obtain ⟨hr1, hr2⟩ := hr _ _ hK
  exact j_iret dX11_bear_113 hr1 hr2
def f_X11_bear_J43 (σ : jS) (x1 : Int32) (x2 : Int32) (x3 : Int32) (x4 : Int32) (y0 : Int32) : Option (Int32 × jS) :=
  if y0 = x3 then (some (((-1003), σ)))
  else (if x3 = 0 then (bV (sI σ 1 6 ((gI σ 1 6) - (1 : Int32))) fun σ4 =>
  bG (jin (gI σ4 1 6) 120) (
  bG (jin x4 120) (
  bV (sI σ4 6 (ix x4) (gI σ4 6 (ix (gI σ4 1 6)))) fun σ5 =>
  f_X11_bear_J109 σ5)))
  else (bG (jin (gI σ 1 6) 120) (
  bV (sI σ 6 (ix (gI σ 1 6)) (((100 : Int32) * x1) + x2)) fun σ6 =>
  bV (sI σ6 1 6 ((gI σ6 1 6) + (1 : Int32))) fun σ7 =>
  f_X11_bear_J109 σ7)))
set_option maxHeartbeats 1000000 in
set_option maxRecDepth 20000 in
theorem f_X11_bear_J43_ok {g : Bool} {rv : Option Value} {μ' : jM} (σ : jS) (x1 : Int32) (x2 : Int32) (x3 : Int32) (x4 : Int32) (y0 : Int32) {Kp : (Int32 × jS) → Prop} (hn : Nat.ble nM μ'.1 = true ∧ Nat.ble wM μ'.2.1 = true) (hr : ∀ (r : Int32) (s : jS), Kp ((r, s)) → rv = some (.int r) ∧ μ' = eM s) (o : (Int32 × jS)) (h : f_X11_bear_J43 σ x1 x2 x3 x4 y0 = some o) (hK : Kp o) : J yX11_bear cX11_bear 5 (some .int) 3 g rv μ' 43 [(0, .ref 1), (1, .int x1), (2, .int x2), (3, .int x3), (4, .int x4)] [.int y0] (eM σ) := by
  unfold f_X11_bear_J43 at h
  refine j_iload_n 3 dX11_bear_43 rfl rfl ?_
  refine j_icmp_ne 51 dX11_bear_44 (by decide) (fun hc8 => ?_) (fun hc8 => ?_)
  · replace h := jif_f hc8 h
    refine j_iload_n 3 dX11_bear_51 rfl rfl ?_
    refine j_if_eq 83 dX11_bear_52 (by decide) (fun hc9 => ?_) (fun hc9 => ?_)
    · replace h := jif_t hc9 h
      refine j_aload_n 0 dX11_bear_83 rfl rfl ?_
      refine j_dup dX11_bear_84 rfl ?_
      refine j_get (ci := 10) 6 (.int (gI σ 1 6)) jC_10 dX11_bear_85 kg_RX11_243 rfl (okM_1 _) (shM_1 _) (fvM_1_6 _) ?_
      refine j_iconst (v := 1) dX11_bear_88 (by decide) ?_
      refine j_isub dX11_bear_89 ?_
      replace h := bV_inv h
      obtain ⟨σ10, eσ10, h⟩ := h
      refine j_putI 6 jC_10 dX11_bear_90 kg_RX11_243 (Or.inl ff_10_6) rfl fk_10_6 (fn_10_6 _) (okM_1 _) (shM_1 _) ?_
      refine j_mem (congrArg eM eσ10) ?_
      refine j_aload_n 0 dX11_bear_93 rfl rfl ?_
      refine j_get (ci := 10) 7 (.ref 6) jC_10 dX11_bear_94 kg_RX11_22 rfl (okM_1 _) (shM_1 _) (fvM_1_7 _) ?_
      refine j_iload 4 dX11_bear_97 rfl ?_
      refine j_aload_n 0 dX11_bear_99 rfl rfl ?_
      refine j_get (ci := 10) 7 (.ref 6) jC_10 dX11_bear_100 kg_RX11_22 rfl (okM_1 _) (shM_1 _) (fvM_1_7 _) ?_
      refine j_aload_n 0 dX11_bear_103 rfl rfl ?_
      refine j_get (ci := 10) 6 (.int (gI σ10 1 6)) jC_10 dX11_bear_104 kg_RX11_243 rfl (okM_1 _) (shM_1 _) (fvM_1_6 _) ?_
      replace h := bG_inv h
      obtain ⟨hi11, h⟩ := h
      refine j_iaload dX11_bear_107 (okM_6 _) (shM_6 _) (jin_spec hi11) ?_
      replace h := bG_inv h
      obtain ⟨hi12, h⟩ := h
      refine j_iastore dX11_bear_108 (okM_6 _) (shM_6 _) (jin_spec hi12) ?_
      replace h := bV_inv h
      obtain ⟨σ13, eσ13, h⟩ := h
      refine j_mem (congrArg eM eσ13) ?_
      refine j_sub [(0, .ref 1)] [0] rfl ?_
      exact f_X11_bear_J109_ok σ13 hn hr _ h hK
    · replace h := jif_f hc9 h
      refine j_aload_n 0 dX11_bear_55 rfl rfl ?_
      refine j_get (ci := 10) 7 (.ref 6) jC_10 dX11_bear_56 kg_RX11_22 rfl (okM_1 _) (shM_1 _) (fvM_1_7 _) ?_
      refine j_aload_n 0 dX11_bear_59 rfl rfl ?_
      refine j_get (ci := 10) 6 (.int (gI σ 1 6)) jC_10 dX11_bear_60 kg_RX11_243 rfl (okM_1 _) (shM_1 _) (fvM_1_6 _) ?_
      refine j_bipush (v := 100) dX11_bear_63 (by decide) ?_
      refine j_iload_n 1 dX11_bear_65 rfl rfl ?_
      refine j_imul dX11_bear_66 ?_
      refine j_iload_n 2 dX11_bear_67 rfl rfl ?_
      refine j_iadd dX11_bear_68 ?_
      replace h := bG_inv h
      obtain ⟨hi14, h⟩ := h
      refine j_iastore dX11_bear_69 (okM_6 _) (shM_6 _) (jin_spec hi14) ?_
      replace h := bV_inv h
      obtain ⟨σ15, eσ15, h⟩ := h
      refine j_mem (congrArg eM eσ15) ?_
      refine j_aload_n 0 dX11_bear_70 rfl rfl ?_
      refine j_dup dX11_bear_71 rfl ?_
      refine j_get (ci := 10) 6 (.int (gI σ15 1 6)) jC_10 dX11_bear_72 kg_RX11_243 rfl (okM_1 _) (shM_1 _) (fvM_1_6 _) ?_
      refine j_iconst (v := 1) dX11_bear_75 (by decide) ?_
      refine j_iadd dX11_bear_76 ?_
      replace h := bV_inv h
      obtain ⟨σ16, eσ16, h⟩ := h
      refine j_putI 6 jC_10 dX11_bear_77 kg_RX11_243 (Or.inl ff_10_6) rfl fk_10_6 (fn_10_6 _) (okM_1 _) (shM_1 _) ?_
      refine j_mem (congrArg eM eσ16) ?_
      refine j_goto 109 dX11_bear_80 (by decide) ?_
      refine j_sub [(0, .ref 1)] [0] rfl ?_
      exact f_X11_bear_J109_ok σ16 hn hr _ h hK
  · replace h := jif_t hc8 h
    refine j_sipush (v := (-1003)) dX11_bear_47 (by decide) ?_
    replace h := Option.some.inj h
    subst h
    obtain ⟨hr1, hr2⟩ := hr _ _ hK
    exact j_iret dX11_bear_50 hr1 hr2
def f_X11_bear (σ : jS) (x1 : Int32) (x2 : Int32) (x3 : Int32) : Option (Int32 × jS) :=
  bC (f_X11_isPerson σ x1) fun r1 =>
  if r1 = 0 then (f_X11_bear_J21 σ)
  else (bC (f_X11_isPerson σ x2) fun r2 =>
  if r2 = 0 then (f_X11_bear_J21 σ)
  else (if x1 = x2 then (f_X11_bear_J21 σ)
  else (bC (f_X11_grudgeOf σ x1 x2) fun r3 =>
  if r3 < 0 then (f_X11_bear_J43 σ x1 x2 x3 r3 0)
  else (f_X11_bear_J43 σ x1 x2 x3 r3 1))))
set_option maxHeartbeats 1000000 in
set_option maxRecDepth 20000 in
theorem f_X11_bear_ok {g : Bool} {rv : Option Value} {μ' : jM} (σ : jS) (x1 : Int32) (x2 : Int32) (x3 : Int32) {Kp : (Int32 × jS) → Prop} (hn : Nat.ble nM μ'.1 = true ∧ Nat.ble wM μ'.2.1 = true) (hr : ∀ (r : Int32) (s : jS), Kp ((r, s)) → rv = some (.int r) ∧ μ' = eM s) (o : (Int32 × jS)) (h : f_X11_bear σ x1 x2 x3 = some o) (hK : Kp o) : J yX11_bear cX11_bear 5 (some .int) 3 g rv μ' 0 [(0, .ref 1), (1, .int x1), (2, .int x2), (3, .int x3)] [] (eM σ) := by
  unfold f_X11_bear at h
  refine j_aload_n 0 dX11_bear_0 rfl rfl ?_
  refine j_iload_n 1 dX11_bear_1 rfl rfl ?_
  replace h := bC_inv h
  obtain ⟨r17, cr17, h⟩ := h
  refine j_callV (ci := 10) (st1 := .int r17 :: _) (c_X11_isPerson g cr17) jy_X11_isPerson ki_yX11_isPerson ks_yX11_isPerson kl_RX11_255 dX11_bear_2 rfl (okM_1 _) (shM_1 _) rfl rfl rfl rfl (jbr _) (jbr _) hn.1 hn.2 (Or.inr rfl) rfl ?_
  refine j_if_eq 21 dX11_bear_5 (by decide) (fun hc18 => ?_) (fun hc18 => ?_)
  · replace h := jif_t hc18 h
    refine j_sub [] [] rfl ?_
    exact f_X11_bear_J21_ok σ hn hr _ h hK
  · replace h := jif_f hc18 h
    refine j_aload_n 0 dX11_bear_8 rfl rfl ?_
    refine j_iload_n 2 dX11_bear_9 rfl rfl ?_
    replace h := bC_inv h
    obtain ⟨r19, cr19, h⟩ := h
    refine j_callV (ci := 10) (st1 := .int r19 :: _) (c_X11_isPerson g cr19) jy_X11_isPerson ki_yX11_isPerson ks_yX11_isPerson kl_RX11_255 dX11_bear_10 rfl (okM_1 _) (shM_1 _) rfl rfl rfl rfl (jbr _) (jbr _) hn.1 hn.2 (Or.inr rfl) rfl ?_
    refine j_if_eq 21 dX11_bear_13 (by decide) (fun hc20 => ?_) (fun hc20 => ?_)
    · replace h := jif_t hc20 h
      refine j_sub [] [] rfl ?_
      exact f_X11_bear_J21_ok σ hn hr _ h hK
    · replace h := jif_f hc20 h
      refine j_iload_n 1 dX11_bear_16 rfl rfl ?_
      refine j_iload_n 2 dX11_bear_17 rfl rfl ?_
      refine j_icmp_ne 25 dX11_bear_18 (by decide) (fun hc21 => ?_) (fun hc21 => ?_)
      · replace h := jif_f hc21 h
        refine j_aload_n 0 dX11_bear_25 rfl rfl ?_
        refine j_iload_n 1 dX11_bear_26 rfl rfl ?_
        refine j_iload_n 2 dX11_bear_27 rfl rfl ?_
        replace h := bC_inv h
        obtain ⟨r22, cr22, h⟩ := h
        refine j_callV (ci := 10) (st1 := .int r22 :: _) (c_X11_grudgeOf g cr22) jy_X11_grudgeOf ki_yX11_grudgeOf ks_yX11_grudgeOf kl_RX11_284 dX11_bear_28 rfl (okM_1 _) (shM_1 _) rfl rfl rfl rfl (jbr _) (jbr _) hn.1 hn.2 (Or.inr rfl) rfl ?_
        refine j_istore [(4, .int r22), (0, .ref 1), (1, .int x1), (2, .int x2), (3, .int x3)] dX11_bear_31 (Nat.le_of_ble_eq_true rfl) rfl ?_
        refine j_iload 0 dX11_bear_33 rfl ?_
        refine j_if_lt 42 dX11_bear_35 (by decide) (fun hc23 => ?_) (fun hc23 => ?_)
        · replace h := jif_t hc23 h
          refine j_iconst (v := 0) dX11_bear_42 (by decide) ?_
          refine j_sub [(0, .ref 1), (1, .int x1), (2, .int x2), (3, .int x3), (4, .int r22)] [1, 2, 3, 4, 0] rfl ?_
          exact f_X11_bear_J43_ok σ x1 x2 x3 r22 0 hn hr _ h hK
        · replace h := jif_f hc23 h
          refine j_iconst (v := 1) dX11_bear_38 (by decide) ?_
          refine j_goto 43 dX11_bear_39 (by decide) ?_
          refine j_sub [(0, .ref 1), (1, .int x1), (2, .int x2), (3, .int x3), (4, .int r22)] [1, 2, 3, 4, 0] rfl ?_
          exact f_X11_bear_J43_ok σ x1 x2 x3 r22 1 hn hr _ h hK
      · replace h := jif_t hc21 h
        refine j_sub [] [] rfl ?_
        exact f_X11_bear_J21_ok σ hn hr _ h hK
theorem c_X11_bear (g : Bool) {σ : jS} {x1 : Int32} {x2 : Int32} {x3 : Int32} {r : Int32} {σ2 : jS} (h : f_X11_bear σ x1 x2 x3 = some (r, σ2)) : Cn yX11_bear cX11_bear 5 (some .int) 3 g [.ref 1, .int x1, .int x2, .int x3] (eM σ) (some (.int r)) (eM σ2) :=
  Cn_of (by decide) (Nat.le_refl _) (Nat.le_refl _) (Nat.le_of_ble_eq_true rfl) (f_X11_bear_ok (Kp := (fun o => o = (r, σ2))) σ x1 x2 x3 ⟨jbr _, jbr _⟩ (fun r2 s2 q => by cases q; exact ⟨rfl, rfl⟩) _ h rfl)
def f_X11_from_J22 (y0 : Int32) : Option Int32 :=
  some (y0)
set_option maxHeartbeats 1000000 in
set_option maxRecDepth 20000 in
theorem f_X11_from_J22_ok {g : Bool} {rv : Option Value} {μ' : jM} (y0 : Int32) (μ : jM) {Kp : Int32 → Prop} (hn : Nat.ble μ.1 μ'.1 = true ∧ Nat.ble μ.2.1 μ'.2.1 = true) (hr : ∀ r : Int32, Kp (r) → rv = some (.int r) ∧ μ' = μ) (o : Int32) (h : f_X11_from_J22 y0 = some o) (hK : Kp o) : J yX11_from cX11_from 2 (some .int) 1 g rv μ' 22 [] [.int y0] μ := by
  unfold f_X11_from_J22 at h
  replace h := Option.some.inj h
  subst h
  obtain ⟨hr1, hr2⟩ := hr _ hK
  exact j_iret dX11_from_22 hr1 hr2
def f_X11_from (x0 : Int32) (x1 : Int32) : Option Int32 :=
  if x1 = 0 then (f_X11_from_J22 (((x0 / (17 : Int32)) - (x0 / (17 : Int32)) / (17 : Int32) * (17 : Int32)) - (1 : Int32)))
  else (f_X11_from_J22 ((x0 - x0 / (17 : Int32) * (17 : Int32)) - (1 : Int32)))
set_option maxHeartbeats 1000000 in
set_option maxRecDepth 20000 in
theorem f_X11_from_ok {g : Bool} {rv : Option Value} {μ' : jM} (x0 : Int32) (x1 : Int32) (μ : jM) {Kp : Int32 → Prop} (hn : Nat.ble μ.1 μ'.1 = true ∧ Nat.ble μ.2.1 μ'.2.1 = true) (hr : ∀ r : Int32, Kp (r) → rv = some (.int r) ∧ μ' = μ) (o : Int32) (h : f_X11_from x0 x1 = some o) (hK : Kp o) : J yX11_from cX11_from 2 (some .int) 1 g rv μ' 0 [(0, .int x0), (1, .int x1)] [] μ := by
  unfold f_X11_from at h
  refine j_iload_n 1 dX11_from_0 rfl rfl ?_
  refine j_if_ne 16 dX11_from_1 (by decide) (fun hc1 => ?_) (fun hc1 => ?_)
  · replace h := jif_f hc1 h
    refine j_iload_n 0 dX11_from_16 rfl rfl ?_
    refine j_bipush (v := 17) dX11_from_17 (by decide) ?_
    refine j_irem dX11_from_19 (by decide) ?_
    refine j_iconst (v := 1) dX11_from_20 (by decide) ?_
    refine j_isub dX11_from_21 ?_
    refine j_sub [] [] rfl ?_
    exact f_X11_from_J22_ok ((x0 - x0 / (17 : Int32) * (17 : Int32)) - (1 : Int32)) μ hn hr _ h hK
  · replace h := jif_t hc1 h
    refine j_iload_n 0 dX11_from_4 rfl rfl ?_
    refine j_bipush (v := 17) dX11_from_5 (by decide) ?_
    refine j_idiv dX11_from_7 (by decide) ?_
    refine j_bipush (v := 17) dX11_from_8 (by decide) ?_
    refine j_irem dX11_from_10 (by decide) ?_
    refine j_iconst (v := 1) dX11_from_11 (by decide) ?_
    refine j_isub dX11_from_12 ?_
    refine j_goto 22 dX11_from_13 (by decide) ?_
    refine j_sub [] [] rfl ?_
    exact f_X11_from_J22_ok (((x0 / (17 : Int32)) - (x0 / (17 : Int32)) / (17 : Int32) * (17 : Int32)) - (1 : Int32)) μ hn hr _ h hK
theorem c_X11_from (g : Bool) (μ : jM) {x0 : Int32} {x1 : Int32} {r : Int32} (h : f_X11_from x0 x1 = some r) : Cn yX11_from cX11_from 2 (some .int) 1 g [.int x0, .int x1] μ (some (.int r)) μ :=
  Cn_of (by decide) (Nat.le_refl _) (Nat.le_refl _) (Nat.le_of_ble_eq_true rfl) (f_X11_from_ok (Kp := (fun o => o = r)) x0 x1 μ ⟨jbr _, jbr _⟩ (fun r2 q => by cases q; exact ⟨rfl, rfl⟩) _ h rfl)
def f_X11_isQuarrel (σ : jS) (x1 : Int32) : Option Int32 :=
  bC (f_X11_in (x1.toInt64) 0 (((gI σ 1 8) - (1 : Int32)).toInt64)) fun r1 =>
  bG (jb r1) (
  some (r1))
set_option maxHeartbeats 1000000 in
set_option maxRecDepth 20000 in
theorem f_X11_isQuarrel_ok {g : Bool} {rv : Option Value} {μ' : jM} (σ : jS) (x1 : Int32) {Kp : Int32 → Prop} (hn : Nat.ble nM μ'.1 = true ∧ Nat.ble wM μ'.2.1 = true) (hr : ∀ r : Int32, Kp (r) → rv = some (.int r) ∧ μ' = (eM σ)) (o : Int32) (h : f_X11_isQuarrel σ x1 = some o) (hK : Kp o) : J yX11_isQuarrel cX11_isQuarrel 2 (some .boolean) 2 g rv μ' 0 [(0, .ref 1), (1, .int x1)] [] (eM σ) := by
  unfold f_X11_isQuarrel at h
  refine j_iload_n 1 dX11_isQuarrel_0 rfl rfl ?_
  refine j_i2l dX11_isQuarrel_1 ?_
  refine j_lconst (v := 0) dX11_isQuarrel_2 (by decide) ?_
  refine j_aload_n 0 dX11_isQuarrel_3 rfl rfl ?_
  refine j_get (ci := 10) 8 (.int (gI σ 1 8)) jC_10 dX11_isQuarrel_4 kg_RX11_148 rfl (okM_1 _) (shM_1 _) (fvM_1_8 _) ?_
  refine j_iconst (v := 1) dX11_isQuarrel_7 (by decide) ?_
  refine j_isub dX11_isQuarrel_8 ?_
  refine j_i2l dX11_isQuarrel_9 ?_
  replace h := bC_inv h
  obtain ⟨r2, cr2, h⟩ := h
  refine j_callS (st1 := .int r2 :: _) (c_X11_in g _ cr2) jy_X11_in kt_yX11_in kl_RX11_144 dX11_isQuarrel_10 rfl rfl rfl rfl (jbr _) (jbr _) hn.1 hn.2 (Or.inr rfl) rfl ?_
  replace h := bG_inv h
  obtain ⟨hb, h⟩ := h
  replace h := Option.some.inj h
  subst h
  obtain ⟨hr1, hr2⟩ := hr _ hK
  exact j_zret (jb_nar hb) dX11_isQuarrel_13 hr1 hr2
theorem c_X11_isQuarrel (g : Bool) {σ : jS} {x1 : Int32} {r : Int32} (h : f_X11_isQuarrel σ x1 = some r) : Cn yX11_isQuarrel cX11_isQuarrel 2 (some .boolean) 2 g [.ref 1, .int x1] (eM σ) (some (.int r)) (eM σ) :=
  Cn_of (by decide) (Nat.le_refl _) (Nat.le_refl _) (Nat.le_of_ble_eq_true rfl) (f_X11_isQuarrel_ok (Kp := (fun o => o = r)) σ x1 ⟨jbr _, jbr _⟩ (fun r2 q => by cases q; exact ⟨rfl, rfl⟩) _ h rfl)
def f_X11_isEnded_J20 (σ : jS) (y0 : Int32) : Option Int32 :=
  bG (jb y0) (
  some (y0))
set_option maxHeartbeats 1000000 in
set_option maxRecDepth 20000 in
theorem f_X11_isEnded_J20_ok {g : Bool} {rv : Option Value} {μ' : jM} (σ : jS) (y0 : Int32) {Kp : Int32 → Prop} (hn : Nat.ble nM μ'.1 = true ∧ Nat.ble wM μ'.2.1 = true) (hr : ∀ r : Int32, Kp (r) → rv = some (.int r) ∧ μ' = (eM σ)) (o : Int32) (h : f_X11_isEnded_J20 σ y0 = some o) (hK : Kp o) : J yX11_isEnded cX11_isEnded 2 (some .boolean) 2 g rv μ' 20 [] [.int y0] (eM σ) := by
  unfold f_X11_isEnded_J20 at h
  replace h := bG_inv h
  obtain ⟨hb, h⟩ := h
  replace h := Option.some.inj h
  subst h
  obtain ⟨hr1, hr2⟩ := hr _ hK
  exact j_zret (jb_nar hb) dX11_isEnded_20 hr1 hr2
def f_X11_isEnded (σ : jS) (x1 : Int32) : Option Int32 :=
  bC (f_X11_one x1) fun r1 =>
  bC (f_X11_two x1) fun r2 =>
  bC (f_X11_grudgeOf σ r1 r2) fun r3 =>
  if 0 ≤ r3 then (f_X11_isEnded_J20 σ 0)
  else (f_X11_isEnded_J20 σ 1)
set_option maxHeartbeats 1000000 in
set_option maxRecDepth 20000 in
theorem f_X11_isEnded_ok {g : Bool} {rv : Option Value} {μ' : jM} (σ : jS) (x1 : Int32) {Kp : Int32 → Prop} (hn : Nat.ble nM μ'.1 = true ∧ Nat.ble wM μ'.2.1 = true) (hr : ∀ r : Int32, Kp (r) → rv = some (.int r) ∧ μ' = (eM σ)) (o : Int32) (h : f_X11_isEnded σ x1 = some o) (hK : Kp o) : J yX11_isEnded cX11_isEnded 2 (some .boolean) 2 g rv μ' 0 [(0, .ref 1), (1, .int x1)] [] (eM σ) := by
  unfold f_X11_isEnded at h
  refine j_aload_n 0 dX11_isEnded_0 rfl rfl ?_
  refine j_iload_n 1 dX11_isEnded_1 rfl rfl ?_
  replace h := bC_inv h
  obtain ⟨r4, cr4, h⟩ := h
  refine j_callS (st1 := .int r4 :: _) (c_X11_one g _ cr4) jy_X11_one kt_yX11_one kl_RX11_271 dX11_isEnded_2 rfl rfl rfl rfl (jbr _) (jbr _) hn.1 hn.2 (Or.inr rfl) rfl ?_
  refine j_iload_n 1 dX11_isEnded_5 rfl rfl ?_
  replace h := bC_inv h
  obtain ⟨r5, cr5, h⟩ := h
  refine j_callS (st1 := .int r5 :: _) (c_X11_two g _ cr5) jy_X11_two kt_yX11_two kl_RX11_274 dX11_isEnded_6 rfl rfl rfl rfl (jbr _) (jbr _) hn.1 hn.2 (Or.inr rfl) rfl ?_
  replace h := bC_inv h
  obtain ⟨r6, cr6, h⟩ := h
  refine j_callV (ci := 10) (st1 := .int r6 :: _) (c_X11_grudgeOf g cr6) jy_X11_grudgeOf ki_yX11_grudgeOf ks_yX11_grudgeOf kl_RX11_284 dX11_isEnded_9 rfl (okM_1 _) (shM_1 _) rfl rfl rfl rfl (jbr _) (jbr _) hn.1 hn.2 (Or.inr rfl) rfl ?_
  refine j_if_ge 19 dX11_isEnded_12 (by decide) (fun hc7 => ?_) (fun hc7 => ?_)
  · replace h := jif_t hc7 h
    refine j_iconst (v := 0) dX11_isEnded_19 (by decide) ?_
    refine j_sub [] [] rfl ?_
    exact f_X11_isEnded_J20_ok σ 0 hn hr _ h hK
  · replace h := jif_f hc7 h
    refine j_iconst (v := 1) dX11_isEnded_15 (by decide) ?_
    refine j_goto 20 dX11_isEnded_16 (by decide) ?_
    refine j_sub [] [] rfl ?_
    exact f_X11_isEnded_J20_ok σ 1 hn hr _ h hK
theorem c_X11_isEnded (g : Bool) {σ : jS} {x1 : Int32} {r : Int32} (h : f_X11_isEnded σ x1 = some r) : Cn yX11_isEnded cX11_isEnded 2 (some .boolean) 2 g [.ref 1, .int x1] (eM σ) (some (.int r)) (eM σ) :=
  Cn_of (by decide) (Nat.le_refl _) (Nat.le_refl _) (Nat.le_of_ble_eq_true rfl) (f_X11_isEnded_ok (Kp := (fun o => o = r)) σ x1 ⟨jbr _, jbr _⟩ (fun r2 q => by cases q; exact ⟨rfl, rfl⟩) _ h rfl)
def f_X11_has_J14 (y0 : Int32) : Option Int32 :=
  bG (jb y0) (
  some (y0))
set_option maxHeartbeats 1000000 in
set_option maxRecDepth 20000 in
theorem f_X11_has_J14_ok {g : Bool} {rv : Option Value} {μ' : jM} (y0 : Int32) (μ : jM) {Kp : Int32 → Prop} (hn : Nat.ble μ.1 μ'.1 = true ∧ Nat.ble μ.2.1 μ'.2.1 = true) (hr : ∀ r : Int32, Kp (r) → rv = some (.int r) ∧ μ' = μ) (o : Int32) (h : f_X11_has_J14 y0 = some o) (hK : Kp o) : J yX11_has cX11_has 2 (some .boolean) 1 g rv μ' 14 [] [.int y0] μ := by
  unfold f_X11_has_J14 at h
  replace h := bG_inv h
  obtain ⟨hb, h⟩ := h
  replace h := Option.some.inj h
  subst h
  obtain ⟨hr1, hr2⟩ := hr _ hK
  exact j_zret (jb_nar hb) dX11_has_14 hr1 hr2
def f_X11_has (x0 : Int32) (x1 : Int32) : Option Int32 :=
  if ((x0 >>> (x1 &&& 31)) &&& (1 : Int32)) = 1 then (f_X11_has_J14 1)
  else (f_X11_has_J14 0)
set_option maxHeartbeats 1000000 in
set_option maxRecDepth 20000 in
theorem f_X11_has_ok {g : Bool} {rv : Option Value} {μ' : jM} (x0 : Int32) (x1 : Int32) (μ : jM) {Kp : Int32 → Prop} (hn : Nat.ble μ.1 μ'.1 = true ∧ Nat.ble μ.2.1 μ'.2.1 = true) (hr : ∀ r : Int32, Kp (r) → rv = some (.int r) ∧ μ' = μ) (o : Int32) (h : f_X11_has x0 x1 = some o) (hK : Kp o) : J yX11_has cX11_has 2 (some .boolean) 1 g rv μ' 0 [(0, .int x0), (1, .int x1)] [] μ := by
  unfold f_X11_has at h
  refine j_iload_n 0 dX11_has_0 rfl rfl ?_
  refine j_iload_n 1 dX11_has_1 rfl rfl ?_
  refine j_ishr dX11_has_2 ?_
  refine j_iconst (v := 1) dX11_has_3 (by decide) ?_
  refine j_iand dX11_has_4 ?_
  refine j_iconst (v := 1) dX11_has_5 (by decide) ?_
  refine j_icmp_ne 13 dX11_has_6 (by decide) (fun hc1 => ?_) (fun hc1 => ?_)
  · replace h := jif_f hc1 h
    refine j_iconst (v := 0) dX11_has_13 (by decide) ?_
    refine j_sub [] [] rfl ?_
    exact f_X11_has_J14_ok 0 μ hn hr _ h hK
  · replace h := jif_t hc1 h
    refine j_iconst (v := 1) dX11_has_9 (by decide) ?_
    refine j_goto 14 dX11_has_10 (by decide) ?_
    refine j_sub [] [] rfl ?_
    exact f_X11_has_J14_ok 1 μ hn hr _ h hK
theorem c_X11_has (g : Bool) (μ : jM) {x0 : Int32} {x1 : Int32} {r : Int32} (h : f_X11_has x0 x1 = some r) : Cn yX11_has cX11_has 2 (some .boolean) 1 g [.int x0, .int x1] μ (some (.int r)) μ :=
  Cn_of (by decide) (Nat.le_refl _) (Nat.le_refl _) (Nat.le_of_ble_eq_true rfl) (f_X11_has_ok (Kp := (fun o => o = r)) x0 x1 μ ⟨jbr _, jbr _⟩ (fun r2 q => by cases q; exact ⟨rfl, rfl⟩) _ h rfl)
def f_X11_holder_J15 (y0 : Int32) : Option Int32 :=
  some (y0)
set_option maxHeartbeats 1000000 in
set_option maxRecDepth 20000 in
theorem f_X11_holder_J15_ok {g : Bool} {rv : Option Value} {μ' : jM} (y0 : Int32) (μ : jM) {Kp : Int32 → Prop} (hn : Nat.ble μ.1 μ'.1 = true ∧ Nat.ble μ.2.1 μ'.2.1 = true) (hr : ∀ r : Int32, Kp (r) → rv = some (.int r) ∧ μ' = μ) (o : Int32) (h : f_X11_holder_J15 y0 = some o) (hK : Kp o) : J yX11_holder cX11_holder 2 (some .int) 2 g rv μ' 15 [] [.int y0] μ := by
  unfold f_X11_holder_J15 at h
  replace h := Option.some.inj h
  subst h
  obtain ⟨hr1, hr2⟩ := hr _ hK
  exact j_iret dX11_holder_15 hr1 hr2
def f_X11_holder (x0 : Int32) (x1 : Int32) : Option Int32 :=
  if x1 = 0 then (bC (f_X11_one x0) fun r2 =>
  f_X11_holder_J15 r2)
  else (bC (f_X11_two x0) fun r1 =>
  f_X11_holder_J15 r1)
set_option maxHeartbeats 1000000 in
set_option maxRecDepth 20000 in
theorem f_X11_holder_ok {g : Bool} {rv : Option Value} {μ' : jM} (x0 : Int32) (x1 : Int32) (μ : jM) {Kp : Int32 → Prop} (hn : Nat.ble μ.1 μ'.1 = true ∧ Nat.ble μ.2.1 μ'.2.1 = true) (hr : ∀ r : Int32, Kp (r) → rv = some (.int r) ∧ μ' = μ) (o : Int32) (h : f_X11_holder x0 x1 = some o) (hK : Kp o) : J yX11_holder cX11_holder 2 (some .int) 2 g rv μ' 0 [(0, .int x0), (1, .int x1)] [] μ := by
  unfold f_X11_holder at h
  refine j_iload_n 1 dX11_holder_0 rfl rfl ?_
  refine j_if_ne 11 dX11_holder_1 (by decide) (fun hc3 => ?_) (fun hc3 => ?_)
  · replace h := jif_f hc3 h
    refine j_iload_n 0 dX11_holder_11 rfl rfl ?_
    replace h := bC_inv h
    obtain ⟨r4, cr4, h⟩ := h
    refine j_callS (st1 := .int r4 :: _) (c_X11_two g _ cr4) jy_X11_two kt_yX11_two kl_RX11_274 dX11_holder_12 rfl rfl rfl rfl (jbr _) (jbr _) hn.1 hn.2 (Or.inr rfl) rfl ?_
    refine j_sub [] [] rfl ?_
    exact f_X11_holder_J15_ok r4 μ hn hr _ h hK
  · replace h := jif_t hc3 h
    refine j_iload_n 0 dX11_holder_4 rfl rfl ?_
    replace h := bC_inv h
    obtain ⟨r5, cr5, h⟩ := h
    refine j_callS (st1 := .int r5 :: _) (c_X11_one g _ cr5) jy_X11_one kt_yX11_one kl_RX11_271 dX11_holder_5 rfl rfl rfl rfl (jbr _) (jbr _) hn.1 hn.2 (Or.inr rfl) rfl ?_
    refine j_goto 15 dX11_holder_8 (by decide) ?_
    refine j_sub [] [] rfl ?_
    exact f_X11_holder_J15_ok r5 μ hn hr _ h hK
theorem c_X11_holder (g : Bool) (μ : jM) {x0 : Int32} {x1 : Int32} {r : Int32} (h : f_X11_holder x0 x1 = some r) : Cn yX11_holder cX11_holder 2 (some .int) 2 g [.int x0, .int x1] μ (some (.int r)) μ :=
  Cn_of (by decide) (Nat.le_refl _) (Nat.le_refl _) (Nat.le_of_ble_eq_true rfl) (f_X11_holder_ok (Kp := (fun o => o = r)) x0 x1 μ ⟨jbr _, jbr _⟩ (fun r2 q => by cases q; exact ⟨rfl, rfl⟩) _ h rfl)
def f_X11_isLawful_J72 (σ : jS) (y0 : Int32) : Option Int32 :=
  bG (jb y0) (
  some (y0))
set_option maxHeartbeats 1000000 in
set_option maxRecDepth 20000 in
theorem f_X11_isLawful_J72_ok {g : Bool} {rv : Option Value} {μ' : jM} (σ : jS) (y0 : Int32) {Kp : Int32 → Prop} (hn : Nat.ble nM μ'.1 = true ∧ Nat.ble wM μ'.2.1 = true) (hr : ∀ r : Int32, Kp (r) → rv = some (.int r) ∧ μ' = (eM σ)) (o : Int32) (h : f_X11_isLawful_J72 σ y0 = some o) (hK : Kp o) : J yX11_isLawful cX11_isLawful 4 (some .boolean) 1 g rv μ' 72 [] [.int y0] (eM σ) := by
  unfold f_X11_isLawful_J72 at h
  replace h := bG_inv h
  obtain ⟨hb, h⟩ := h
  replace h := Option.some.inj h
  subst h
  obtain ⟨hr1, hr2⟩ := hr _ hK
  exact j_zret (jb_nar hb) dX11_isLawful_72 hr1 hr2
def f_X11_isLawful_J67 (σ : jS) : Option Int32 :=
  f_X11_isLawful_J72 σ 1
set_option maxHeartbeats 1000000 in
set_option maxRecDepth 20000 in
theorem f_X11_isLawful_J67_ok {g : Bool} {rv : Option Value} {μ' : jM} (σ : jS) {Kp : Int32 → Prop} (hn : Nat.ble nM μ'.1 = true ∧ Nat.ble wM μ'.2.1 = true) (hr : ∀ r : Int32, Kp (r) → rv = some (.int r) ∧ μ' = (eM σ)) (o : Int32) (h : f_X11_isLawful_J67 σ = some o) (hK : Kp o) : J yX11_isLawful cX11_isLawful 4 (some .boolean) 1 g rv μ' 67 [] [] (eM σ) := by
  unfold f_X11_isLawful_J67 at h
  refine j_iconst (v := 1) dX11_isLawful_67 (by decide) ?_
  refine j_goto 72 dX11_isLawful_68 (by decide) ?_
  exact f_X11_isLawful_J72_ok σ 1 hn hr _ h hK
def f_X11_isLawful (σ : jS) (x1 : Int32) (x2 : Int32) : Option Int32 :=
  bG (jin x2 16) (
  bG (jin x1 16) (
  bV ((gI σ 2 (ix x2)) - (gI σ 2 (ix x1))) fun v1 =>
  if (gI σ 1 13) = 0 then (if v1 = (-1) then (f_X11_isLawful_J72 σ 1)
  else (f_X11_isLawful_J72 σ 0))
  else (if (gI σ 1 13) = 1 then (if 0 ≤ v1 then (f_X11_isLawful_J72 σ 0)
  else (f_X11_isLawful_J72 σ 1))
  else (if (gI σ 1 13) = 2 then (f_X11_isLawful_J67 σ)
  else (if v1 = 1 then (f_X11_isLawful_J67 σ)
  else (f_X11_isLawful_J72 σ 0))))))
set_option maxHeartbeats 1000000 in
set_option maxRecDepth 20000 in
theorem f_X11_isLawful_ok {g : Bool} {rv : Option Value} {μ' : jM} (σ : jS) (x1 : Int32) (x2 : Int32) {Kp : Int32 → Prop} (hn : Nat.ble nM μ'.1 = true ∧ Nat.ble wM μ'.2.1 = true) (hr : ∀ r : Int32, Kp (r) → rv = some (.int r) ∧ μ' = (eM σ)) (o : Int32) (h : f_X11_isLawful σ x1 x2 = some o) (hK : Kp o) : J yX11_isLawful cX11_isLawful 4 (some .boolean) 1 g rv μ' 0 [(0, .ref 1), (1, .int x1), (2, .int x2)] [] (eM σ) := by
  unfold f_X11_isLawful at h
  refine j_aload_n 0 dX11_isLawful_0 rfl rfl ?_
  refine j_get (ci := 10) 1 (.ref 2) jC_10 dX11_isLawful_1 kg_RX11_7 rfl (okM_1 _) (shM_1 _) (fvM_1_1 _) ?_
  refine j_iload_n 2 dX11_isLawful_4 rfl rfl ?_
  replace h := bG_inv h
  obtain ⟨hi2, h⟩ := h
  refine j_iaload dX11_isLawful_5 (okM_2 _) (shM_2 _) (jin_spec hi2) ?_
  refine j_aload_n 0 dX11_isLawful_6 rfl rfl ?_
  refine j_get (ci := 10) 1 (.ref 2) jC_10 dX11_isLawful_7 kg_RX11_7 rfl (okM_1 _) (shM_1 _) (fvM_1_1 _) ?_
  refine j_iload_n 1 dX11_isLawful_10 rfl rfl ?_
  replace h := bG_inv h
  obtain ⟨hi3, h⟩ := h
  refine j_iaload dX11_isLawful_11 (okM_2 _) (shM_2 _) (jin_spec hi3) ?_
  refine j_isub dX11_isLawful_12 ?_
  replace h := bV_inv h
  obtain ⟨v4, ev4, h⟩ := h
  refine j_nmi ev4 ?_
  refine j_istore_n [(3, .int v4), (0, .ref 1), (1, .int x1), (2, .int x2)] dX11_isLawful_13 rfl (Nat.le_of_ble_eq_true rfl) rfl ?_
  refine j_aload_n 1 dX11_isLawful_14 rfl rfl ?_
  refine j_get (ci := 10) 13 (.int (gI σ 1 13)) jC_10 dX11_isLawful_15 kg_RX11_264 rfl (okM_1 _) (shM_1 _) (fvM_1_13 _) ?_
  refine j_if_ne 34 dX11_isLawful_18 (by decide) (fun hc5 => ?_) (fun hc5 => ?_)
  · replace h := jif_f hc5 h
    refine j_aload_n 1 dX11_isLawful_34 rfl rfl ?_
    refine j_get (ci := 10) 13 (.int (gI σ 1 13)) jC_10 dX11_isLawful_35 kg_RX11_264 rfl (okM_1 _) (shM_1 _) (fvM_1_13 _) ?_
    refine j_iconst (v := 1) dX11_isLawful_38 (by decide) ?_
    refine j_icmp_ne 54 dX11_isLawful_39 (by decide) (fun hc6 => ?_) (fun hc6 => ?_)
    · replace h := jif_f hc6 h
      refine j_aload_n 1 dX11_isLawful_54 rfl rfl ?_
      refine j_get (ci := 10) 13 (.int (gI σ 1 13)) jC_10 dX11_isLawful_55 kg_RX11_264 rfl (okM_1 _) (shM_1 _) (fvM_1_13 _) ?_
      refine j_iconst (v := 2) dX11_isLawful_58 (by decide) ?_
      refine j_icmp_eq 67 dX11_isLawful_59 (by decide) (fun hc7 => ?_) (fun hc7 => ?_)
      · replace h := jif_t hc7 h
        refine j_sub [] [] rfl ?_
        exact f_X11_isLawful_J67_ok σ hn hr _ h hK
      · replace h := jif_f hc7 h
        refine j_iload_n 0 dX11_isLawful_62 rfl rfl ?_
        refine j_iconst (v := 1) dX11_isLawful_63 (by decide) ?_
        refine j_icmp_ne 71 dX11_isLawful_64 (by decide) (fun hc8 => ?_) (fun hc8 => ?_)
        · replace h := jif_f hc8 h
          refine j_iconst (v := 0) dX11_isLawful_71 (by decide) ?_
          refine j_sub [] [] rfl ?_
          exact f_X11_isLawful_J72_ok σ 0 hn hr _ h hK
        · replace h := jif_t hc8 h
          refine j_sub [] [] rfl ?_
          exact f_X11_isLawful_J67_ok σ hn hr _ h hK
    · replace h := jif_t hc6 h
      refine j_iload_n 0 dX11_isLawful_42 rfl rfl ?_
      refine j_if_ge 50 dX11_isLawful_43 (by decide) (fun hc9 => ?_) (fun hc9 => ?_)
      · replace h := jif_t hc9 h
        refine j_iconst (v := 0) dX11_isLawful_50 (by decide) ?_
        refine j_goto 72 dX11_isLawful_51 (by decide) ?_
        refine j_sub [] [] rfl ?_
        exact f_X11_isLawful_J72_ok σ 0 hn hr _ h hK
      · replace h := jif_f hc9 h
        refine j_iconst (v := 1) dX11_isLawful_46 (by decide) ?_
        refine j_goto 72 dX11_isLawful_47 (by decide) ?_
        refine j_sub [] [] rfl ?_
        exact f_X11_isLawful_J72_ok σ 1 hn hr _ h hK
  · replace h := jif_t hc5 h
    refine j_iload_n 0 dX11_isLawful_21 rfl rfl ?_
    refine j_iconst (v := (-1)) dX11_isLawful_22 (by decide) ?_
    refine j_icmp_ne 30 dX11_isLawful_23 (by decide) (fun hc10 => ?_) (fun hc10 => ?_)
    · replace h := jif_f hc10 h
      refine j_iconst (v := 0) dX11_isLawful_30 (by decide) ?_
      refine j_goto 72 dX11_isLawful_31 (by decide) ?_
      refine j_sub [] [] rfl ?_
      exact f_X11_isLawful_J72_ok σ 0 hn hr _ h hK
    · replace h := jif_t hc10 h
      refine j_iconst (v := 1) dX11_isLawful_26 (by decide) ?_
      refine j_goto 72 dX11_isLawful_27 (by decide) ?_
      refine j_sub [] [] rfl ?_
      exact f_X11_isLawful_J72_ok σ 1 hn hr _ h hK
theorem c_X11_isLawful (g : Bool) {σ : jS} {x1 : Int32} {x2 : Int32} {r : Int32} (h : f_X11_isLawful σ x1 x2 = some r) : Cn yX11_isLawful cX11_isLawful 4 (some .boolean) 1 g [.ref 1, .int x1, .int x2] (eM σ) (some (.int r)) (eM σ) :=
  Cn_of (by decide) (Nat.le_refl _) (Nat.le_refl _) (Nat.le_of_ble_eq_true rfl) (f_X11_isLawful_ok (Kp := (fun o => o = r)) σ x1 x2 ⟨jbr _, jbr _⟩ (fun r2 q => by cases q; exact ⟨rfl, rfl⟩) _ h rfl)
def f_X11_owedNow_J68 (σ : jS) (x2 : Int32) : Option Int32 :=
  some (x2)
set_option maxHeartbeats 1000000 in
set_option maxRecDepth 20000 in
theorem f_X11_owedNow_J68_ok {g : Bool} {rv : Option Value} {μ' : jM} (σ : jS) (x2 : Int32) {Kp : Int32 → Prop} (hn : Nat.ble nM μ'.1 = true ∧ Nat.ble wM μ'.2.1 = true) (hr : ∀ r : Int32, Kp (r) → rv = some (.int r) ∧ μ' = (eM σ)) (o : Int32) (h : f_X11_owedNow_J68 σ x2 = some o) (hK : Kp o) : J yX11_owedNow cX11_owedNow 4 (some .int) 2 g rv μ' 68 [(2, .int x2)] [] (eM σ) := by
  unfold f_X11_owedNow_J68 at h
  refine j_iload_n 0 dX11_owedNow_68 rfl rfl ?_
  replace h := Option.some.inj h
  subst h
  obtain ⟨hr1, hr2⟩ := hr _ hK
  exact j_iret dX11_owedNow_69 hr1 hr2
def f_X11_owedNow_J60 (σ : jS) (x1 : Int32) (x3 : Int32) (y0 : Int32) (y1 : Int32) : Option ((Int32 × Int32) ⊕ Int32) :=
  bV (y1 ||| y0) fun v2 =>
  bV (x3 + 1) fun v3 =>
  some (.inl (v2, v3))
set_option maxHeartbeats 1000000 in
set_option maxRecDepth 20000 in
theorem f_X11_owedNow_J60_ok {g : Bool} {rv : Option Value} {μ' : jM} (σ : jS) (x1 : Int32) (x3 : Int32) (y0 : Int32) (y1 : Int32) {Kp : ((Int32 × Int32) ⊕ Int32) → Prop} (hn : Nat.ble nM μ'.1 = true ∧ Nat.ble wM μ'.2.1 = true) (hr : ∀ r : Int32, Kp (.inr (r)) → rv = some (.int r) ∧ μ' = (eM σ)) (hc0 : ∀ s : (Int32 × Int32), Kp (.inl s) → J yX11_owedNow cX11_owedNow 4 (some .int) 2 g rv μ' 18 [(0, .ref 1), (1, .int x1), (2, .int s.1), (3, .int s.2)] [] (eM σ)) (o : ((Int32 × Int32) ⊕ Int32)) (h : f_X11_owedNow_J60 σ x1 x3 y0 y1 = some o) (hK : Kp o) : J yX11_owedNow cX11_owedNow 4 (some .int) 2 g rv μ' 60 [(0, .ref 1), (1, .int x1), (3, .int x3)] [.int y0, .int y1] (eM σ) := by
  unfold f_X11_owedNow_J60 at h
  refine j_ior dX11_owedNow_60 ?_
  replace h := bV_inv h
  obtain ⟨v4, ev4, h⟩ := h
  refine j_nmi ev4 ?_
  refine j_istore_n [(2, .int v4), (0, .ref 1), (1, .int x1), (3, .int x3)] dX11_owedNow_61 rfl (Nat.le_of_ble_eq_true rfl) rfl ?_
  replace h := bV_inv h
  obtain ⟨v5, ev5, h⟩ := h
  refine j_iinc (v := v5) [(3, .int v5), (2, .int v4), (0, .ref 1), (1, .int x1)] 3 dX11_owedNow_62 rfl (by rw [ev5]; rfl) (Nat.le_of_ble_eq_true rfl) rfl ?_
  refine j_goto 18 dX11_owedNow_65 (by decide) ?_
  replace h := Option.some.inj h
  subst h
  refine j_sub [(0, .ref 1), (1, .int x1), (2, .int v4), (3, .int v5)] [2, 3, 1, 0] rfl ?_
  exact hc0 _ hK
def f_X11_owedNow_J59 (σ : jS) (x1 : Int32) (x3 : Int32) (y0 : Int32) : Option ((Int32 × Int32) ⊕ Int32) :=
  f_X11_owedNow_J60 σ x1 x3 0 y0
set_option maxHeartbeats 1000000 in
set_option maxRecDepth 20000 in
theorem f_X11_owedNow_J59_ok {g : Bool} {rv : Option Value} {μ' : jM} (σ : jS) (x1 : Int32) (x3 : Int32) (y0 : Int32) {Kp : ((Int32 × Int32) ⊕ Int32) → Prop} (hn : Nat.ble nM μ'.1 = true ∧ Nat.ble wM μ'.2.1 = true) (hr : ∀ r : Int32, Kp (.inr (r)) → rv = some (.int r) ∧ μ' = (eM σ)) (hc0 : ∀ s : (Int32 × Int32), Kp (.inl s) → J yX11_owedNow cX11_owedNow 4 (some .int) 2 g rv μ' 18 [(0, .ref 1), (1, .int x1), (2, .int s.1), (3, .int s.2)] [] (eM σ)) (o : ((Int32 × Int32) ⊕ Int32)) (h : f_X11_owedNow_J59 σ x1 x3 y0 = some o) (hK : Kp o) : J yX11_owedNow cX11_owedNow 4 (some .int) 2 g rv μ' 59 [(0, .ref 1), (1, .int x1), (3, .int x3)] [.int y0] (eM σ) := by
  unfold f_X11_owedNow_J59 at h
  refine j_iconst (v := 0) dX11_owedNow_59 (by decide) ?_
  exact f_X11_owedNow_J60_ok σ x1 x3 0 y0 hn hr hc0 _ h hK
def f_X11_owedNow_B18 (σ : jS) (x1 : Int32) (x2 : Int32) (x3 : Int32) : Option ((Int32 × Int32) ⊕ Int32) :=
  if (gI σ 1 2) ≤ x3 then (jw (f_X11_owedNow_J68 σ x2))
  else (bC (f_X11_has (gI σ 1 35) x3) fun r1 =>
  if r1 = 0 then (f_X11_owedNow_J59 σ x1 x3 x2)
  else (bG (jin x3 40) (
  if (gI σ 4 (ix x3)) = x1 then (bG (jin x3 40) (
  f_X11_owedNow_J60 σ x1 x3 ((1 : Int32) <<< ((gI σ 3 (ix x3)) &&& 31)) x2))
  else (f_X11_owedNow_J59 σ x1 x3 x2))))
set_option maxHeartbeats 1000000 in
set_option maxRecDepth 20000 in
theorem f_X11_owedNow_B18_ok {g : Bool} {rv : Option Value} {μ' : jM} (σ : jS) (x1 : Int32) (x2 : Int32) (x3 : Int32) {Kp : ((Int32 × Int32) ⊕ Int32) → Prop} (hn : Nat.ble nM μ'.1 = true ∧ Nat.ble wM μ'.2.1 = true) (hr : ∀ r : Int32, Kp (.inr (r)) → rv = some (.int r) ∧ μ' = (eM σ)) (hc0 : ∀ s : (Int32 × Int32), Kp (.inl s) → J yX11_owedNow cX11_owedNow 4 (some .int) 2 g rv μ' 18 [(0, .ref 1), (1, .int x1), (2, .int s.1), (3, .int s.2)] [] (eM σ)) (o : ((Int32 × Int32) ⊕ Int32)) (h : f_X11_owedNow_B18 σ x1 x2 x3 = some o) (hK : Kp o) : J yX11_owedNow cX11_owedNow 4 (some .int) 2 g rv μ' 18 [(0, .ref 1), (1, .int x1), (2, .int x2), (3, .int x3)] [] (eM σ) := by
  unfold f_X11_owedNow_B18 at h
  refine j_iload_n 3 dX11_owedNow_18 rfl rfl ?_
  refine j_aload_n 0 dX11_owedNow_19 rfl rfl ?_
  refine j_get (ci := 10) 2 (.int (gI σ 1 2)) jC_10 dX11_owedNow_20 kg_RX11_240 rfl (okM_1 _) (shM_1 _) (fvM_1_2 _) ?_
  refine j_icmp_ge 68 dX11_owedNow_23 (by decide) (fun hc6 => ?_) (fun hc6 => ?_)
  · replace h := jif_t hc6 h
    replace h := jw_inv h
    obtain ⟨o7, rfl, h⟩ := h
    refine j_sub [(2, .int x2)] [2] rfl ?_
    exact f_X11_owedNow_J68_ok (Kp := fun o => Kp (.inr (o))) σ x2 hn (fun r q => hr r q) _ h hK
  · replace h := jif_f hc6 h
    refine j_iload_n 2 dX11_owedNow_26 rfl rfl ?_
    refine j_aload_n 0 dX11_owedNow_27 rfl rfl ?_
    refine j_get (ci := 10) 35 (.int (gI σ 1 35)) jC_10 dX11_owedNow_28 kg_RX11_62 rfl (okM_1 _) (shM_1 _) (fvM_1_35 _) ?_
    refine j_iload_n 3 dX11_owedNow_31 rfl rfl ?_
    replace h := bC_inv h
    obtain ⟨r8, cr8, h⟩ := h
    refine j_callS (st1 := .int r8 :: _) (c_X11_has g _ cr8) jy_X11_has kt_yX11_has kl_RX11_287 dX11_owedNow_32 rfl rfl rfl rfl (jbr _) (jbr _) hn.1 hn.2 (Or.inr rfl) rfl ?_
    refine j_if_eq 59 dX11_owedNow_35 (by decide) (fun hc9 => ?_) (fun hc9 => ?_)
    · replace h := jif_t hc9 h
      refine j_sub [(0, .ref 1), (1, .int x1), (3, .int x3)] [0, 1, 3] rfl ?_
      exact f_X11_owedNow_J59_ok σ x1 x3 x2 hn hr hc0 _ h hK
    · replace h := jif_f hc9 h
      refine j_aload_n 0 dX11_owedNow_38 rfl rfl ?_
      refine j_get (ci := 10) 4 (.ref 4) jC_10 dX11_owedNow_39 kg_RX11_16 rfl (okM_1 _) (shM_1 _) (fvM_1_4 _) ?_
      refine j_iload_n 3 dX11_owedNow_42 rfl rfl ?_
      replace h := bG_inv h
      obtain ⟨hi10, h⟩ := h
      refine j_iaload dX11_owedNow_43 (okM_4 _) (shM_4 _) (jin_spec hi10) ?_
      refine j_iload_n 1 dX11_owedNow_44 rfl rfl ?_
      refine j_icmp_ne 59 dX11_owedNow_45 (by decide) (fun hc11 => ?_) (fun hc11 => ?_)
      · replace h := jif_f hc11 h
        refine j_sub [(0, .ref 1), (1, .int x1), (3, .int x3)] [0, 1, 3] rfl ?_
        exact f_X11_owedNow_J59_ok σ x1 x3 x2 hn hr hc0 _ h hK
      · replace h := jif_t hc11 h
        refine j_iconst (v := 1) dX11_owedNow_48 (by decide) ?_
        refine j_aload_n 0 dX11_owedNow_49 rfl rfl ?_
        refine j_get (ci := 10) 3 (.ref 3) jC_10 dX11_owedNow_50 kg_RX11_13 rfl (okM_1 _) (shM_1 _) (fvM_1_3 _) ?_
        refine j_iload_n 3 dX11_owedNow_53 rfl rfl ?_
        replace h := bG_inv h
        obtain ⟨hi12, h⟩ := h
        refine j_iaload dX11_owedNow_54 (okM_3 _) (shM_3 _) (jin_spec hi12) ?_
        refine j_ishl dX11_owedNow_55 ?_
        refine j_goto 60 dX11_owedNow_56 (by decide) ?_
        refine j_sub [(0, .ref 1), (1, .int x1), (3, .int x3)] [0, 1, 3] rfl ?_
        exact f_X11_owedNow_J60_ok σ x1 x3 ((1 : Int32) <<< ((gI σ 3 (ix x3)) &&& 31)) x2 hn hr hc0 _ h hK
def f_X11_owedNow (σ : jS) (x1 : Int32) : Option Int32 :=
  if 0 ≤ (gI σ 1 35) then (jloop jFuel (fun s => f_X11_owedNow_B18 σ x1 s.1 s.2) (0, 0))
  else (bG (jin x1 16) (
  some ((gI σ 5 (ix x1)))))
set_option maxHeartbeats 1000000 in
set_option maxRecDepth 20000 in
theorem f_X11_owedNow_ok {g : Bool} {rv : Option Value} {μ' : jM} (σ : jS) (x1 : Int32) {Kp : Int32 → Prop} (hn : Nat.ble nM μ'.1 = true ∧ Nat.ble wM μ'.2.1 = true) (hr : ∀ r : Int32, Kp (r) → rv = some (.int r) ∧ μ' = (eM σ)) (o : Int32) (h : f_X11_owedNow σ x1 = some o) (hK : Kp o) : J yX11_owedNow cX11_owedNow 4 (some .int) 2 g rv μ' 0 [(0, .ref 1), (1, .int x1)] [] (eM σ) := by
  unfold f_X11_owedNow at h
  refine j_aload_n 0 dX11_owedNow_0 rfl rfl ?_
  refine j_get (ci := 10) 35 (.int (gI σ 1 35)) jC_10 dX11_owedNow_1 kg_RX11_62 rfl (okM_1 _) (shM_1 _) (fvM_1_35 _) ?_
  refine j_if_ge 14 dX11_owedNow_4 (by decide) (fun hc13 => ?_) (fun hc13 => ?_)
  · replace h := jif_t hc13 h
    refine j_iconst (v := 0) dX11_owedNow_14 (by decide) ?_
    refine j_istore_n [(2, .int 0), (0, .ref 1), (1, .int x1)] dX11_owedNow_15 rfl (Nat.le_of_ble_eq_true rfl) rfl ?_
    refine j_iconst (v := 0) dX11_owedNow_16 (by decide) ?_
    refine j_istore_n [(3, .int 0), (2, .int 0), (0, .ref 1), (1, .int x1)] dX11_owedNow_17 rfl (Nat.le_of_ble_eq_true rfl) rfl ?_
    refine j_sub [(0, .ref 1), (1, .int x1), (2, .int 0), (3, .int 0)] [2, 3, 1, 0] rfl ?_
    exact jloop_ok (fun s => f_X11_owedNow_B18 σ x1 s.1 s.2) (fun s => J yX11_owedNow cX11_owedNow 4 (some .int) 2 g rv μ' 18 [(0, .ref 1), (1, .int x1), (2, .int s.1), (3, .int s.2)] [] (eM σ)) Kp (fun s o hb hk => f_X11_owedNow_B18_ok (Kp := jsum (fun s => J yX11_owedNow cX11_owedNow 4 (some .int) 2 g rv μ' 18 [(0, .ref 1), (1, .int x1), (2, .int s.1), (3, .int s.2)] [] (eM σ)) Kp) σ x1 s.1 s.2 hn (fun r q => hr r q) (fun s q => q) o hb hk) jFuel _ _ h hK
  · replace h := jif_f hc13 h
    refine j_aload_n 0 dX11_owedNow_7 rfl rfl ?_
    refine j_get (ci := 10) 5 (.ref 5) jC_10 dX11_owedNow_8 kg_RX11_19 rfl (okM_1 _) (shM_1 _) (fvM_1_5 _) ?_
    refine j_iload_n 1 dX11_owedNow_11 rfl rfl ?_
    replace h := bG_inv h
    obtain ⟨hi14, h⟩ := h
    refine j_iaload dX11_owedNow_12 (okM_5 _) (shM_5 _) (jin_spec hi14) ?_
    replace h := Option.some.inj h
    subst h
    obtain ⟨hr1, hr2⟩ := hr _ hK
    exact j_iret dX11_owedNow_13 hr1 hr2
theorem c_X11_owedNow (g : Bool) {σ : jS} {x1 : Int32} {r : Int32} (h : f_X11_owedNow σ x1 = some r) : Cn yX11_owedNow cX11_owedNow 4 (some .int) 2 g [.ref 1, .int x1] (eM σ) (some (.int r)) (eM σ) :=
  Cn_of (by decide) (Nat.le_refl _) (Nat.le_refl _) (Nat.le_of_ble_eq_true rfl) (f_X11_owedNow_ok (Kp := (fun o => o = r)) σ x1 ⟨jbr _, jbr _⟩ (fun r2 q => by cases q; exact ⟨rfl, rfl⟩) _ h rfl)
def f_X11_mayOf_J108 (σ : jS) (x5 : Int32) : Option Int32 :=
  some (x5)
set_option maxHeartbeats 1000000 in
set_option maxRecDepth 20000 in
theorem f_X11_mayOf_J108_ok {g : Bool} {rv : Option Value} {μ' : jM} (σ : jS) (x5 : Int32) {Kp : Int32 → Prop} (hn : Nat.ble nM μ'.1 = true ∧ Nat.ble wM μ'.2.1 = true) (hr : ∀ r : Int32, Kp (r) → rv = some (.int r) ∧ μ' = (eM σ)) (o : Int32) (h : f_X11_mayOf_J108 σ x5 = some o) (hK : Kp o) : J yX11_mayOf cX11_mayOf 8 (some .int) 3 g rv μ' 108 [(5, .int x5)] [] (eM σ) := by
  unfold f_X11_mayOf_J108 at h
  refine j_iload 0 dX11_mayOf_108 rfl ?_
  replace h := Option.some.inj h
  subst h
  obtain ⟨hr1, hr2⟩ := hr _ hK
  exact j_iret dX11_mayOf_110 hr1 hr2
def f_X11_mayOf_J99 (σ : jS) (x1 : Int32) (x2 : Int32) (x3 : Int32) (x4 : Int32) (x6 : Int32) (y0 : Int32) (y1 : Int32) : Option ((Int32 × Int32) ⊕ Int32) :=
  bV (y1 ||| y0) fun v4 =>
  bV (x6 + 1) fun v5 =>
  some (.inl (v4, v5))
set_option maxHeartbeats 1000000 in
set_option maxRecDepth 20000 in
theorem f_X11_mayOf_J99_ok {g : Bool} {rv : Option Value} {μ' : jM} (σ : jS) (x1 : Int32) (x2 : Int32) (x3 : Int32) (x4 : Int32) (x6 : Int32) (y0 : Int32) (y1 : Int32) {Kp : ((Int32 × Int32) ⊕ Int32) → Prop} (hn : Nat.ble nM μ'.1 = true ∧ Nat.ble wM μ'.2.1 = true) (hr : ∀ r : Int32, Kp (.inr (r)) → rv = some (.int r) ∧ μ' = (eM σ)) (hc0 : ∀ s : (Int32 × Int32), Kp (.inl s) → J yX11_mayOf cX11_mayOf 8 (some .int) 3 g rv μ' 19 [(0, .ref 1), (1, .int x1), (2, .int x2), (3, .int x3), (4, .int x4), (5, .int s.1), (6, .int s.2)] [] (eM σ)) (o : ((Int32 × Int32) ⊕ Int32)) (h : f_X11_mayOf_J99 σ x1 x2 x3 x4 x6 y0 y1 = some o) (hK : Kp o) : J yX11_mayOf cX11_mayOf 8 (some .int) 3 g rv μ' 99 [(0, .ref 1), (1, .int x1), (2, .int x2), (3, .int x3), (4, .int x4), (6, .int x6)] [.int y0, .int y1] (eM σ) := by
  unfold f_X11_mayOf_J99 at h
  refine j_ior dX11_mayOf_99 ?_
  replace h := bV_inv h
  obtain ⟨v6, ev6, h⟩ := h
  refine j_nmi ev6 ?_
  refine j_istore [(5, .int v6), (0, .ref 1), (1, .int x1), (2, .int x2), (3, .int x3), (4, .int x4), (6, .int x6)] dX11_mayOf_100 (Nat.le_of_ble_eq_true rfl) rfl ?_
  replace h := bV_inv h
  obtain ⟨v7, ev7, h⟩ := h
  refine j_iinc (v := v7) [(6, .int v7), (5, .int v6), (0, .ref 1), (1, .int x1), (2, .int x2), (3, .int x3), (4, .int x4)] 6 dX11_mayOf_102 rfl (by rw [ev7]; rfl) (Nat.le_of_ble_eq_true rfl) rfl ?_
  refine j_goto 19 dX11_mayOf_105 (by decide) ?_
  replace h := Option.some.inj h
  subst h
  refine j_sub [(0, .ref 1), (1, .int x1), (2, .int x2), (3, .int x3), (4, .int x4), (5, .int v6), (6, .int v7)] [2, 3, 4, 5, 6, 1, 0] rfl ?_
  exact hc0 _ hK
def f_X11_mayOf_J82 (σ : jS) (x1 : Int32) (x2 : Int32) (x3 : Int32) (x4 : Int32) (x5 : Int32) (x6 : Int32) (y0 : Int32) : Option ((Int32 × Int32) ⊕ Int32) :=
  if y0 = 0 then (f_X11_mayOf_J99 σ x1 x2 x3 x4 x6 0 x5)
  else (f_X11_mayOf_J99 σ x1 x2 x3 x4 x6 ((1 : Int32) <<< (x6 &&& 31)) x5)
set_option maxHeartbeats 1000000 in
set_option maxRecDepth 20000 in
theorem f_X11_mayOf_J82_ok {g : Bool} {rv : Option Value} {μ' : jM} (σ : jS) (x1 : Int32) (x2 : Int32) (x3 : Int32) (x4 : Int32) (x5 : Int32) (x6 : Int32) (y0 : Int32) {Kp : ((Int32 × Int32) ⊕ Int32) → Prop} (hn : Nat.ble nM μ'.1 = true ∧ Nat.ble wM μ'.2.1 = true) (hr : ∀ r : Int32, Kp (.inr (r)) → rv = some (.int r) ∧ μ' = (eM σ)) (hc0 : ∀ s : (Int32 × Int32), Kp (.inl s) → J yX11_mayOf cX11_mayOf 8 (some .int) 3 g rv μ' 19 [(0, .ref 1), (1, .int x1), (2, .int x2), (3, .int x3), (4, .int x4), (5, .int s.1), (6, .int s.2)] [] (eM σ)) (o : ((Int32 × Int32) ⊕ Int32)) (h : f_X11_mayOf_J82 σ x1 x2 x3 x4 x5 x6 y0 = some o) (hK : Kp o) : J yX11_mayOf cX11_mayOf 8 (some .int) 3 g rv μ' 82 [(0, .ref 1), (1, .int x1), (2, .int x2), (3, .int x3), (4, .int x4), (5, .int x5), (6, .int x6)] [.int y0] (eM σ) := by
  unfold f_X11_mayOf_J82 at h
  refine j_istore [(7, .int y0), (0, .ref 1), (1, .int x1), (2, .int x2), (3, .int x3), (4, .int x4), (5, .int x5), (6, .int x6)] dX11_mayOf_82 (Nat.le_of_ble_eq_true rfl) rfl ?_
  refine j_iload 6 dX11_mayOf_84 rfl ?_
  refine j_iload 0 dX11_mayOf_86 rfl ?_
  refine j_if_eq 98 dX11_mayOf_88 (by decide) (fun hc8 => ?_) (fun hc8 => ?_)
  · replace h := jif_t hc8 h
    refine j_iconst (v := 0) dX11_mayOf_98 (by decide) ?_
    refine j_sub [(0, .ref 1), (1, .int x1), (2, .int x2), (3, .int x3), (4, .int x4), (6, .int x6)] [1, 2, 3, 4, 5, 7] rfl ?_
    exact f_X11_mayOf_J99_ok σ x1 x2 x3 x4 x6 0 x5 hn hr hc0 _ h hK
  · replace h := jif_f hc8 h
    refine j_iconst (v := 1) dX11_mayOf_91 (by decide) ?_
    refine j_iload 7 dX11_mayOf_92 rfl ?_
    refine j_ishl dX11_mayOf_94 ?_
    refine j_goto 99 dX11_mayOf_95 (by decide) ?_
    refine j_sub [(0, .ref 1), (1, .int x1), (2, .int x2), (3, .int x3), (4, .int x4), (6, .int x6)] [1, 2, 3, 4, 5, 7] rfl ?_
    exact f_X11_mayOf_J99_ok σ x1 x2 x3 x4 x6 ((1 : Int32) <<< (x6 &&& 31)) x5 hn hr hc0 _ h hK
def f_X11_mayOf_J81 (σ : jS) (x1 : Int32) (x2 : Int32) (x3 : Int32) (x4 : Int32) (x5 : Int32) (x6 : Int32) : Option ((Int32 × Int32) ⊕ Int32) :=
  f_X11_mayOf_J82 σ x1 x2 x3 x4 x5 x6 0
set_option maxHeartbeats 1000000 in
set_option maxRecDepth 20000 in
theorem f_X11_mayOf_J81_ok {g : Bool} {rv : Option Value} {μ' : jM} (σ : jS) (x1 : Int32) (x2 : Int32) (x3 : Int32) (x4 : Int32) (x5 : Int32) (x6 : Int32) {Kp : ((Int32 × Int32) ⊕ Int32) → Prop} (hn : Nat.ble nM μ'.1 = true ∧ Nat.ble wM μ'.2.1 = true) (hr : ∀ r : Int32, Kp (.inr (r)) → rv = some (.int r) ∧ μ' = (eM σ)) (hc0 : ∀ s : (Int32 × Int32), Kp (.inl s) → J yX11_mayOf cX11_mayOf 8 (some .int) 3 g rv μ' 19 [(0, .ref 1), (1, .int x1), (2, .int x2), (3, .int x3), (4, .int x4), (5, .int s.1), (6, .int s.2)] [] (eM σ)) (o : ((Int32 × Int32) ⊕ Int32)) (h : f_X11_mayOf_J81 σ x1 x2 x3 x4 x5 x6 = some o) (hK : Kp o) : J yX11_mayOf cX11_mayOf 8 (some .int) 3 g rv μ' 81 [(0, .ref 1), (1, .int x1), (2, .int x2), (3, .int x3), (4, .int x4), (5, .int x5), (6, .int x6)] [] (eM σ) := by
  unfold f_X11_mayOf_J81 at h
  refine j_iconst (v := 0) dX11_mayOf_81 (by decide) ?_
  exact f_X11_mayOf_J82_ok σ x1 x2 x3 x4 x5 x6 0 hn hr hc0 _ h hK
def f_X11_mayOf_J77 (σ : jS) (x1 : Int32) (x2 : Int32) (x3 : Int32) (x4 : Int32) (x5 : Int32) (x6 : Int32) : Option ((Int32 × Int32) ⊕ Int32) :=
  f_X11_mayOf_J82 σ x1 x2 x3 x4 x5 x6 1
set_option maxHeartbeats 1000000 in
set_option maxRecDepth 20000 in
theorem f_X11_mayOf_J77_ok {g : Bool} {rv : Option Value} {μ' : jM} (σ : jS) (x1 : Int32) (x2 : Int32) (x3 : Int32) (x4 : Int32) (x5 : Int32) (x6 : Int32) {Kp : ((Int32 × Int32) ⊕ Int32) → Prop} (hn : Nat.ble nM μ'.1 = true ∧ Nat.ble wM μ'.2.1 = true) (hr : ∀ r : Int32, Kp (.inr (r)) → rv = some (.int r) ∧ μ' = (eM σ)) (hc0 : ∀ s : (Int32 × Int32), Kp (.inl s) → J yX11_mayOf cX11_mayOf 8 (some .int) 3 g rv μ' 19 [(0, .ref 1), (1, .int x1), (2, .int x2), (3, .int x3), (4, .int x4), (5, .int s.1), (6, .int s.2)] [] (eM σ)) (o : ((Int32 × Int32) ⊕ Int32)) (h : f_X11_mayOf_J77 σ x1 x2 x3 x4 x5 x6 = some o) (hK : Kp o) : J yX11_mayOf cX11_mayOf 8 (some .int) 3 g rv μ' 77 [(0, .ref 1), (1, .int x1), (2, .int x2), (3, .int x3), (4, .int x4), (5, .int x5), (6, .int x6)] [] (eM σ) := by
  unfold f_X11_mayOf_J77 at h
  refine j_iconst (v := 1) dX11_mayOf_77 (by decide) ?_
  refine j_goto 82 dX11_mayOf_78 (by decide) ?_
  exact f_X11_mayOf_J82_ok σ x1 x2 x3 x4 x5 x6 1 hn hr hc0 _ h hK
def f_X11_mayOf_B19 (σ : jS) (x1 : Int32) (x2 : Int32) (x3 : Int32) (x4 : Int32) (x5 : Int32) (x6 : Int32) : Option ((Int32 × Int32) ⊕ Int32) :=
  if (gI σ 1 0) ≤ x6 then (jw (f_X11_mayOf_J108 σ x5))
  else (bC (f_X11_has x4 x6) fun r3 =>
  if r3 = 0 then (f_X11_mayOf_J81 σ x1 x2 x3 x4 x5 x6)
  else (bC (f_X11_isLawful σ x3 x6) fun r9 =>
  if r9 = 0 then (f_X11_mayOf_J81 σ x1 x2 x3 x4 x5 x6)
  else (bC (f_X11_holder x1 ((1 : Int32) - x2)) fun r10 =>
  if x6 = r10 then (f_X11_mayOf_J81 σ x1 x2 x3 x4 x5 x6)
  else (if (gI σ 1 14) = 0 then (f_X11_mayOf_J77 σ x1 x2 x3 x4 x5 x6)
  else (bC (f_X11_from x1 x2) fun r11 =>
  if r11 = x6 then (f_X11_mayOf_J81 σ x1 x2 x3 x4 x5 x6)
  else (f_X11_mayOf_J77 σ x1 x2 x3 x4 x5 x6))))))
set_option maxHeartbeats 1000000 in
set_option maxRecDepth 20000 in
theorem f_X11_mayOf_B19_ok {g : Bool} {rv : Option Value} {μ' : jM} (σ : jS) (x1 : Int32) (x2 : Int32) (x3 : Int32) (x4 : Int32) (x5 : Int32) (x6 : Int32) {Kp : ((Int32 × Int32) ⊕ Int32) → Prop} (hn : Nat.ble nM μ'.1 = true ∧ Nat.ble wM μ'.2.1 = true) (hr : ∀ r : Int32, Kp (.inr (r)) → rv = some (.int r) ∧ μ' = (eM σ)) (hc0 : ∀ s : (Int32 × Int32), Kp (.inl s) → J yX11_mayOf cX11_mayOf 8 (some .int) 3 g rv μ' 19 [(0, .ref 1), (1, .int x1), (2, .int x2), (3, .int x3), (4, .int x4), (5, .int s.1), (6, .int s.2)] [] (eM σ)) (o : ((Int32 × Int32) ⊕ Int32)) (h : f_X11_mayOf_B19 σ x1 x2 x3 x4 x5 x6 = some o) (hK : Kp o) : J yX11_mayOf cX11_mayOf 8 (some .int) 3 g rv μ' 19 [(0, .ref 1), (1, .int x1), (2, .int x2), (3, .int x3), (4, .int x4), (5, .int x5), (6, .int x6)] [] (eM σ) := by
  unfold f_X11_mayOf_B19 at h
  refine j_iload 6 dX11_mayOf_19 rfl ?_
  refine j_aload_n 0 dX11_mayOf_21 rfl rfl ?_
  refine j_get (ci := 10) 0 (.int (gI σ 1 0)) jC_10 dX11_mayOf_22 kg_RX11_141 rfl (okM_1 _) (shM_1 _) (fvM_1_0 _) ?_
  refine j_icmp_ge 108 dX11_mayOf_25 (by decide) (fun hc12 => ?_) (fun hc12 => ?_)
  · replace h := jif_t hc12 h
    replace h := jw_inv h
    obtain ⟨o13, rfl, h⟩ := h
    refine j_sub [(5, .int x5)] [5] rfl ?_
    exact f_X11_mayOf_J108_ok (Kp := fun o => Kp (.inr (o))) σ x5 hn (fun r q => hr r q) _ h hK
  · replace h := jif_f hc12 h
    refine j_iload 4 dX11_mayOf_28 rfl ?_
    refine j_iload 6 dX11_mayOf_30 rfl ?_
    replace h := bC_inv h
    obtain ⟨r14, cr14, h⟩ := h
    refine j_callS (st1 := .int r14 :: _) (c_X11_has g _ cr14) jy_X11_has kt_yX11_has kl_RX11_287 dX11_mayOf_32 rfl rfl rfl rfl (jbr _) (jbr _) hn.1 hn.2 (Or.inr rfl) rfl ?_
    refine j_if_eq 81 dX11_mayOf_35 (by decide) (fun hc15 => ?_) (fun hc15 => ?_)
    · replace h := jif_t hc15 h
      exact f_X11_mayOf_J81_ok σ x1 x2 x3 x4 x5 x6 hn hr hc0 _ h hK
    · replace h := jif_f hc15 h
      refine j_aload_n 0 dX11_mayOf_38 rfl rfl ?_
      refine j_iload_n 3 dX11_mayOf_39 rfl rfl ?_
      refine j_iload 6 dX11_mayOf_40 rfl ?_
      replace h := bC_inv h
      obtain ⟨r16, cr16, h⟩ := h
      refine j_callV (ci := 10) (st1 := .int r16 :: _) (c_X11_isLawful g cr16) jy_X11_isLawful ki_yX11_isLawful ks_yX11_isLawful kl_RX11_297 dX11_mayOf_42 rfl (okM_1 _) (shM_1 _) rfl rfl rfl rfl (jbr _) (jbr _) hn.1 hn.2 (Or.inr rfl) rfl ?_
      refine j_if_eq 81 dX11_mayOf_45 (by decide) (fun hc17 => ?_) (fun hc17 => ?_)
      · replace h := jif_t hc17 h
        exact f_X11_mayOf_J81_ok σ x1 x2 x3 x4 x5 x6 hn hr hc0 _ h hK
      · replace h := jif_f hc17 h
        refine j_iload 6 dX11_mayOf_48 rfl ?_
        refine j_iload_n 1 dX11_mayOf_50 rfl rfl ?_
        refine j_iconst (v := 1) dX11_mayOf_51 (by decide) ?_
        refine j_iload_n 2 dX11_mayOf_52 rfl rfl ?_
        refine j_isub dX11_mayOf_53 ?_
        replace h := bC_inv h
        obtain ⟨r18, cr18, h⟩ := h
        refine j_callS (st1 := .int r18 :: _) (c_X11_holder g _ cr18) jy_X11_holder kt_yX11_holder kl_RX11_291 dX11_mayOf_54 rfl rfl rfl rfl (jbr _) (jbr _) hn.1 hn.2 (Or.inr rfl) rfl ?_
        refine j_icmp_eq 81 dX11_mayOf_57 (by decide) (fun hc19 => ?_) (fun hc19 => ?_)
        · replace h := jif_t hc19 h
          exact f_X11_mayOf_J81_ok σ x1 x2 x3 x4 x5 x6 hn hr hc0 _ h hK
        · replace h := jif_f hc19 h
          refine j_aload_n 0 dX11_mayOf_60 rfl rfl ?_
          refine j_get (ci := 10) 14 (.int (gI σ 1 14)) jC_10 dX11_mayOf_61 kg_RX11_267 rfl (okM_1 _) (shM_1 _) (fvM_1_14 _) ?_
          refine j_if_eq 77 dX11_mayOf_64 (by decide) (fun hc20 => ?_) (fun hc20 => ?_)
          · replace h := jif_t hc20 h
            exact f_X11_mayOf_J77_ok σ x1 x2 x3 x4 x5 x6 hn hr hc0 _ h hK
          · replace h := jif_f hc20 h
            refine j_iload_n 1 dX11_mayOf_67 rfl rfl ?_
            refine j_iload_n 2 dX11_mayOf_68 rfl rfl ?_
            replace h := bC_inv h
            obtain ⟨r21, cr21, h⟩ := h
            refine j_callS (st1 := .int r21 :: _) (c_X11_from g _ cr21) jy_X11_from kt_yX11_from kl_RX11_300 dX11_mayOf_69 rfl rfl rfl rfl (jbr _) (jbr _) hn.1 hn.2 (Or.inr rfl) rfl ?_
            refine j_iload 6 dX11_mayOf_72 rfl ?_
            refine j_icmp_eq 81 dX11_mayOf_74 (by decide) (fun hc22 => ?_) (fun hc22 => ?_)
            · replace h := jif_t hc22 h
              exact f_X11_mayOf_J81_ok σ x1 x2 x3 x4 x5 x6 hn hr hc0 _ h hK
            · replace h := jif_f hc22 h
              exact f_X11_mayOf_J77_ok σ x1 x2 x3 x4 x5 x6 hn hr hc0 _ h hK
def f_X11_mayOf (σ : jS) (x1 : Int32) (x2 : Int32) : Option Int32 :=
  bC (f_X11_holder x1 x2) fun r1 =>
  bC (f_X11_owedNow σ r1) fun r2 =>
  jloop jFuel (fun s => f_X11_mayOf_B19 σ x1 x2 r1 r2 s.1 s.2) (0, 0)
set_option maxHeartbeats 1000000 in
set_option maxRecDepth 20000 in
theorem f_X11_mayOf_ok {g : Bool} {rv : Option Value} {μ' : jM} (σ : jS) (x1 : Int32) (x2 : Int32) {Kp : Int32 → Prop} (hn : Nat.ble nM μ'.1 = true ∧ Nat.ble wM μ'.2.1 = true) (hr : ∀ r : Int32, Kp (r) → rv = some (.int r) ∧ μ' = (eM σ)) (o : Int32) (h : f_X11_mayOf σ x1 x2 = some o) (hK : Kp o) : J yX11_mayOf cX11_mayOf 8 (some .int) 3 g rv μ' 0 [(0, .ref 1), (1, .int x1), (2, .int x2)] [] (eM σ) := by
  unfold f_X11_mayOf at h
  refine j_iload_n 1 dX11_mayOf_0 rfl rfl ?_
  refine j_iload_n 2 dX11_mayOf_1 rfl rfl ?_
  replace h := bC_inv h
  obtain ⟨r23, cr23, h⟩ := h
  refine j_callS (st1 := .int r23 :: _) (c_X11_holder g _ cr23) jy_X11_holder kt_yX11_holder kl_RX11_291 dX11_mayOf_2 rfl rfl rfl rfl (jbr _) (jbr _) hn.1 hn.2 (Or.inr rfl) rfl ?_
  refine j_istore_n [(3, .int r23), (0, .ref 1), (1, .int x1), (2, .int x2)] dX11_mayOf_5 rfl (Nat.le_of_ble_eq_true rfl) rfl ?_
  refine j_aload_n 1 dX11_mayOf_6 rfl rfl ?_
  refine j_iload_n 0 dX11_mayOf_7 rfl rfl ?_
  replace h := bC_inv h
  obtain ⟨r24, cr24, h⟩ := h
  refine j_callV (ci := 10) (st1 := .int r24 :: _) (c_X11_owedNow g cr24) jy_X11_owedNow ki_yX11_owedNow ks_yX11_owedNow kl_RX11_294 dX11_mayOf_8 rfl (okM_1 _) (shM_1 _) rfl rfl rfl rfl (jbr _) (jbr _) hn.1 hn.2 (Or.inr rfl) rfl ?_
  refine j_istore [(4, .int r24), (3, .int r23), (0, .ref 1), (1, .int x1), (2, .int x2)] dX11_mayOf_11 (Nat.le_of_ble_eq_true rfl) rfl ?_
  refine j_iconst (v := 0) dX11_mayOf_13 (by decide) ?_
  refine j_istore [(5, .int 0), (4, .int r24), (3, .int r23), (0, .ref 1), (1, .int x1), (2, .int x2)] dX11_mayOf_14 (Nat.le_of_ble_eq_true rfl) rfl ?_
  refine j_iconst (v := 0) dX11_mayOf_16 (by decide) ?_
  refine j_istore [(6, .int 0), (5, .int 0), (4, .int r24), (3, .int r23), (0, .ref 1), (1, .int x1), (2, .int x2)] dX11_mayOf_17 (Nat.le_of_ble_eq_true rfl) rfl ?_
  refine j_sub [(0, .ref 1), (1, .int x1), (2, .int x2), (3, .int r23), (4, .int r24), (5, .int 0), (6, .int 0)] [4, 5, 6, 3, 2, 1, 0] rfl ?_
  exact jloop_ok (fun s => f_X11_mayOf_B19 σ x1 x2 r23 r24 s.1 s.2) (fun s => J yX11_mayOf cX11_mayOf 8 (some .int) 3 g rv μ' 19 [(0, .ref 1), (1, .int x1), (2, .int x2), (3, .int r23), (4, .int r24), (5, .int s.1), (6, .int s.2)] [] (eM σ)) Kp (fun s o hb hk => f_X11_mayOf_B19_ok (Kp := jsum (fun s => J yX11_mayOf cX11_mayOf 8 (some .int) 3 g rv μ' 19 [(0, .ref 1), (1, .int x1), (2, .int x2), (3, .int r23), (4, .int r24), (5, .int s.1), (6, .int s.2)] [] (eM σ)) Kp) σ x1 x2 r23 r24 s.1 s.2 hn (fun r q => hr r q) (fun s q => q) o hb hk) jFuel _ _ h hK
theorem c_X11_mayOf (g : Bool) {σ : jS} {x1 : Int32} {x2 : Int32} {r : Int32} (h : f_X11_mayOf σ x1 x2 = some r) : Cn yX11_mayOf cX11_mayOf 8 (some .int) 3 g [.ref 1, .int x1, .int x2] (eM σ) (some (.int r)) (eM σ) :=
  Cn_of (by decide) (Nat.le_refl _) (Nat.le_refl _) (Nat.le_of_ble_eq_true rfl) (f_X11_mayOf_ok (Kp := (fun o => o = r)) σ x1 x2 ⟨jbr _, jbr _⟩ (fun r2 q => by cases q; exact ⟨rfl, rfl⟩) _ h rfl)
def f_X11_stateOf_J35 (σ : jS) (y0 : Int32) : Option Int32 :=
  some (y0)
set_option maxHeartbeats 1000000 in
set_option maxRecDepth 20000 in
theorem f_X11_stateOf_J35_ok {g : Bool} {rv : Option Value} {μ' : jM} (σ : jS) (y0 : Int32) {Kp : Int32 → Prop} (hn : Nat.ble nM μ'.1 = true ∧ Nat.ble wM μ'.2.1 = true) (hr : ∀ r : Int32, Kp (r) → rv = some (.int r) ∧ μ' = (eM σ)) (o : Int32) (h : f_X11_stateOf_J35 σ y0 = some o) (hK : Kp o) : J yX11_stateOf cX11_stateOf 2 (some .int) 4 g rv μ' 35 [] [.int y0] (eM σ) := by
  unfold f_X11_stateOf_J35 at h
  replace h := Option.some.inj h
  subst h
  obtain ⟨hr1, hr2⟩ := hr _ hK
  exact j_iret dX11_stateOf_35 hr1 hr2
def f_X11_stateOf_J34 (σ : jS) : Option Int32 :=
  f_X11_stateOf_J35 σ 0
set_option maxHeartbeats 1000000 in
set_option maxRecDepth 20000 in
theorem f_X11_stateOf_J34_ok {g : Bool} {rv : Option Value} {μ' : jM} (σ : jS) {Kp : Int32 → Prop} (hn : Nat.ble nM μ'.1 = true ∧ Nat.ble wM μ'.2.1 = true) (hr : ∀ r : Int32, Kp (r) → rv = some (.int r) ∧ μ' = (eM σ)) (o : Int32) (h : f_X11_stateOf_J34 σ = some o) (hK : Kp o) : J yX11_stateOf cX11_stateOf 2 (some .int) 4 g rv μ' 34 [] [] (eM σ) := by
  unfold f_X11_stateOf_J34 at h
  refine j_iconst (v := 0) dX11_stateOf_34 (by decide) ?_
  exact f_X11_stateOf_J35_ok σ 0 hn hr _ h hK
def f_X11_stateOf (σ : jS) (x1 : Int32) : Option Int32 :=
  bC (f_X11_isEnded σ x1) fun r1 =>
  if r1 = 0 then (bC (f_X11_mayOf σ x1 0) fun r2 =>
  if r2 = 0 then (bC (f_X11_mayOf σ x1 1) fun r3 =>
  if r3 = 0 then (f_X11_stateOf_J35 σ 2)
  else (f_X11_stateOf_J34 σ))
  else (f_X11_stateOf_J34 σ))
  else (f_X11_stateOf_J35 σ 1)
set_option maxHeartbeats 1000000 in
set_option maxRecDepth 20000 in
theorem f_X11_stateOf_ok {g : Bool} {rv : Option Value} {μ' : jM} (σ : jS) (x1 : Int32) {Kp : Int32 → Prop} (hn : Nat.ble nM μ'.1 = true ∧ Nat.ble wM μ'.2.1 = true) (hr : ∀ r : Int32, Kp (r) → rv = some (.int r) ∧ μ' = (eM σ)) (o : Int32) (h : f_X11_stateOf σ x1 = some o) (hK : Kp o) : J yX11_stateOf cX11_stateOf 2 (some .int) 4 g rv μ' 0 [(0, .ref 1), (1, .int x1)] [] (eM σ) := by
  unfold f_X11_stateOf at h
  refine j_aload_n 0 dX11_stateOf_0 rfl rfl ?_
  refine j_iload_n 1 dX11_stateOf_1 rfl rfl ?_
  replace h := bC_inv h
  obtain ⟨r4, cr4, h⟩ := h
  refine j_callV (ci := 10) (st1 := .int r4 :: _) (c_X11_isEnded g cr4) jy_X11_isEnded ki_yX11_isEnded ks_yX11_isEnded kl_RX11_303 dX11_stateOf_2 rfl (okM_1 _) (shM_1 _) rfl rfl rfl rfl (jbr _) (jbr _) hn.1 hn.2 (Or.inr rfl) rfl ?_
  refine j_if_eq 12 dX11_stateOf_5 (by decide) (fun hc5 => ?_) (fun hc5 => ?_)
  · replace h := jif_t hc5 h
    refine j_aload_n 0 dX11_stateOf_12 rfl rfl ?_
    refine j_iload_n 1 dX11_stateOf_13 rfl rfl ?_
    refine j_iconst (v := 0) dX11_stateOf_14 (by decide) ?_
    replace h := bC_inv h
    obtain ⟨r6, cr6, h⟩ := h
    refine j_callV (ci := 10) (st1 := .int r6 :: _) (c_X11_mayOf g cr6) jy_X11_mayOf ki_yX11_mayOf ks_yX11_mayOf kl_RX11_306 dX11_stateOf_15 rfl (okM_1 _) (shM_1 _) rfl rfl rfl rfl (jbr _) (jbr _) hn.1 hn.2 (Or.inr rfl) rfl ?_
    refine j_if_ne 34 dX11_stateOf_18 (by decide) (fun hc7 => ?_) (fun hc7 => ?_)
    · replace h := jif_f hc7 h
      refine j_sub [] [] rfl ?_
      exact f_X11_stateOf_J34_ok σ hn hr _ h hK
    · replace h := jif_t hc7 h
      refine j_aload_n 0 dX11_stateOf_21 rfl rfl ?_
      refine j_iload_n 1 dX11_stateOf_22 rfl rfl ?_
      refine j_iconst (v := 1) dX11_stateOf_23 (by decide) ?_
      replace h := bC_inv h
      obtain ⟨r8, cr8, h⟩ := h
      refine j_callV (ci := 10) (st1 := .int r8 :: _) (c_X11_mayOf g cr8) jy_X11_mayOf ki_yX11_mayOf ks_yX11_mayOf kl_RX11_306 dX11_stateOf_24 rfl (okM_1 _) (shM_1 _) rfl rfl rfl rfl (jbr _) (jbr _) hn.1 hn.2 (Or.inr rfl) rfl ?_
      refine j_if_ne 34 dX11_stateOf_27 (by decide) (fun hc9 => ?_) (fun hc9 => ?_)
      · replace h := jif_f hc9 h
        refine j_sub [] [] rfl ?_
        exact f_X11_stateOf_J34_ok σ hn hr _ h hK
      · replace h := jif_t hc9 h
        refine j_iconst (v := 2) dX11_stateOf_30 (by decide) ?_
        refine j_goto 35 dX11_stateOf_31 (by decide) ?_
        refine j_sub [] [] rfl ?_
        exact f_X11_stateOf_J35_ok σ 2 hn hr _ h hK
  · replace h := jif_f hc5 h
    refine j_iconst (v := 1) dX11_stateOf_8 (by decide) ?_
    refine j_goto 35 dX11_stateOf_9 (by decide) ?_
    refine j_sub [] [] rfl ?_
    exact f_X11_stateOf_J35_ok σ 1 hn hr _ h hK
theorem c_X11_stateOf (g : Bool) {σ : jS} {x1 : Int32} {r : Int32} (h : f_X11_stateOf σ x1 = some r) : Cn yX11_stateOf cX11_stateOf 2 (some .int) 4 g [.ref 1, .int x1] (eM σ) (some (.int r)) (eM σ) :=
  Cn_of (by decide) (Nat.le_refl _) (Nat.le_refl _) (Nat.le_of_ble_eq_true rfl) (f_X11_stateOf_ok (Kp := (fun o => o = r)) σ x1 ⟨jbr _, jbr _⟩ (fun r2 q => by cases q; exact ⟨rfl, rfl⟩) _ h rfl)
def f_X11_quarrel (σ : jS) (x1 : Int32) (x2 : Int32) : Option Int32 :=
  bC (f_X11_isQuarrel σ x1) fun r1 =>
  if r1 = 0 then (some ((-1001)))
  else (if x2 = 0 then (bG (jin x1 4) (
  bC (f_X11_one (gI σ 9 (ix x1))) fun r2 =>
  some (r2)))
  else if x2 = 1 then (bG (jin x1 4) (
  bC (f_X11_two (gI σ 9 (ix x1))) fun r3 =>
  some (r3)))
  else if x2 = 2 then (bG (jin x1 4) (
  bC (f_X11_side (gI σ 9 (ix x1))) fun r4 =>
  some (r4)))
  else if x2 = 3 then (bG (jin x1 4) (
  bC (f_X11_from (gI σ 9 (ix x1)) 0) fun r5 =>
  some (r5)))
  else if x2 = 4 then (bG (jin x1 4) (
  bC (f_X11_from (gI σ 9 (ix x1)) 1) fun r6 =>
  some (r6)))
  else if x2 = 5 then (bG (jin x1 4) (
  bC (f_X11_stateOf σ (gI σ 9 (ix x1))) fun r7 =>
  some (r7)))
  else if x2 = 6 then (bG (jin x1 4) (
  some ((gI σ 10 (ix x1)))))
  else (some ((-1002))))
set_option maxHeartbeats 1000000 in
set_option maxRecDepth 20000 in
theorem f_X11_quarrel_ok {g : Bool} {rv : Option Value} {μ' : jM} (σ : jS) (x1 : Int32) (x2 : Int32) {Kp : Int32 → Prop} (hn : Nat.ble nM μ'.1 = true ∧ Nat.ble wM μ'.2.1 = true) (hr : ∀ r : Int32, Kp (r) → rv = some (.int r) ∧ μ' = (eM σ)) (o : Int32) (h : f_X11_quarrel σ x1 x2 = some o) (hK : Kp o) : J yX11_quarrel cX11_quarrel 3 (some .int) 5 g rv μ' 0 [(0, .ref 1), (1, .int x1), (2, .int x2)] [] (eM σ) := by
  unfold f_X11_quarrel at h
  refine j_aload_n 0 dX11_quarrel_0 rfl rfl ?_
  refine j_iload_n 1 dX11_quarrel_1 rfl rfl ?_
  replace h := bC_inv h
  obtain ⟨r8, cr8, h⟩ := h
  refine j_callV (ci := 10) (st1 := .int r8 :: _) (c_X11_isQuarrel g cr8) jy_X11_isQuarrel ki_yX11_isQuarrel ks_yX11_isQuarrel kl_RX11_309 dX11_quarrel_2 rfl (okM_1 _) (shM_1 _) rfl rfl rfl rfl (jbr _) (jbr _) hn.1 hn.2 (Or.inr rfl) rfl ?_
  refine j_if_ne 12 dX11_quarrel_5 (by decide) (fun hc9 => ?_) (fun hc9 => ?_)
  · replace h := jif_f hc9 h
    refine j_iload_n 2 dX11_quarrel_12 rfl rfl ?_
    by_cases hc10 : x2 = 0
    · replace h := jif_t hc10 h
      refine j_tblIn 56 dX11_quarrel_13 (by rw [hc10]; decide) (by rw [hc10]; decide) (by rw [hc10]; rfl) (by decide) ?_
      refine j_aload_n 0 dX11_quarrel_56 rfl rfl ?_
      refine j_get (ci := 10) 11 (.ref 9) jC_10 dX11_quarrel_57 kg_RX11_31 rfl (okM_1 _) (shM_1 _) (fvM_1_11 _) ?_
      refine j_iload_n 1 dX11_quarrel_60 rfl rfl ?_
      replace h := bG_inv h
      obtain ⟨hi11, h⟩ := h
      refine j_iaload dX11_quarrel_61 (okM_9 _) (shM_9 _) (jin_spec hi11) ?_
      replace h := bC_inv h
      obtain ⟨r12, cr12, h⟩ := h
      refine j_callS (st1 := .int r12 :: _) (c_X11_one g _ cr12) jy_X11_one kt_yX11_one kl_RX11_271 dX11_quarrel_62 rfl rfl rfl rfl (jbr _) (jbr _) hn.1 hn.2 (Or.inr rfl) rfl ?_
      replace h := Option.some.inj h
      subst h
      obtain ⟨hr1, hr2⟩ := hr _ hK
      exact j_iret dX11_quarrel_65 hr1 hr2
    replace h := jif_f hc10 h
    by_cases hc13 : x2 = 1
    · replace h := jif_t hc13 h
      refine j_tblIn 66 dX11_quarrel_13 (by rw [hc13]; decide) (by rw [hc13]; decide) (by rw [hc13]; rfl) (by decide) ?_
      refine j_aload_n 0 dX11_quarrel_66 rfl rfl ?_
      refine j_get (ci := 10) 11 (.ref 9) jC_10 dX11_quarrel_67 kg_RX11_31 rfl (okM_1 _) (shM_1 _) (fvM_1_11 _) ?_
      refine j_iload_n 1 dX11_quarrel_70 rfl rfl ?_
      replace h := bG_inv h
      obtain ⟨hi14, h⟩ := h
      refine j_iaload dX11_quarrel_71 (okM_9 _) (shM_9 _) (jin_spec hi14) ?_
      replace h := bC_inv h
      obtain ⟨r15, cr15, h⟩ := h
      refine j_callS (st1 := .int r15 :: _) (c_X11_two g _ cr15) jy_X11_two kt_yX11_two kl_RX11_274 dX11_quarrel_72 rfl rfl rfl rfl (jbr _) (jbr _) hn.1 hn.2 (Or.inr rfl) rfl ?_
      replace h := Option.some.inj h
      subst h
      obtain ⟨hr1, hr2⟩ := hr _ hK
      exact j_iret dX11_quarrel_75 hr1 hr2
    replace h := jif_f hc13 h
    by_cases hc16 : x2 = 2
    · replace h := jif_t hc16 h
      refine j_tblIn 76 dX11_quarrel_13 (by rw [hc16]; decide) (by rw [hc16]; decide) (by rw [hc16]; rfl) (by decide) ?_
      refine j_aload_n 0 dX11_quarrel_76 rfl rfl ?_
      refine j_get (ci := 10) 11 (.ref 9) jC_10 dX11_quarrel_77 kg_RX11_31 rfl (okM_1 _) (shM_1 _) (fvM_1_11 _) ?_
      refine j_iload_n 1 dX11_quarrel_80 rfl rfl ?_
      replace h := bG_inv h
      obtain ⟨hi17, h⟩ := h
      refine j_iaload dX11_quarrel_81 (okM_9 _) (shM_9 _) (jin_spec hi17) ?_
      replace h := bC_inv h
      obtain ⟨r18, cr18, h⟩ := h
      refine j_callS (st1 := .int r18 :: _) (c_X11_side g _ cr18) jy_X11_side kt_yX11_side kl_RX11_277 dX11_quarrel_82 rfl rfl rfl rfl (jbr _) (jbr _) hn.1 hn.2 (Or.inr rfl) rfl ?_
      replace h := Option.some.inj h
      subst h
      obtain ⟨hr1, hr2⟩ := hr _ hK
      exact j_iret dX11_quarrel_85 hr1 hr2
    replace h := jif_f hc16 h
    by_cases hc19 : x2 = 3
    · replace h := jif_t hc19 h
      refine j_tblIn 86 dX11_quarrel_13 (by rw [hc19]; decide) (by rw [hc19]; decide) (by rw [hc19]; rfl) (by decide) ?_
      refine j_aload_n 0 dX11_quarrel_86 rfl rfl ?_
      refine j_get (ci := 10) 11 (.ref 9) jC_10 dX11_quarrel_87 kg_RX11_31 rfl (okM_1 _) (shM_1 _) (fvM_1_11 _) ?_
      refine j_iload_n 1 dX11_quarrel_90 rfl rfl ?_
      replace h := bG_inv h
      obtain ⟨hi20, h⟩ := h
      refine j_iaload dX11_quarrel_91 (okM_9 _) (shM_9 _) (jin_spec hi20) ?_
      refine j_iconst (v := 0) dX11_quarrel_92 (by decide) ?_
      replace h := bC_inv h
      obtain ⟨r21, cr21, h⟩ := h
      refine j_callS (st1 := .int r21 :: _) (c_X11_from g _ cr21) jy_X11_from kt_yX11_from kl_RX11_300 dX11_quarrel_93 rfl rfl rfl rfl (jbr _) (jbr _) hn.1 hn.2 (Or.inr rfl) rfl ?_
      replace h := Option.some.inj h
      subst h
      obtain ⟨hr1, hr2⟩ := hr _ hK
      exact j_iret dX11_quarrel_96 hr1 hr2
    replace h := jif_f hc19 h
    by_cases hc22 : x2 = 4
    · replace h := jif_t hc22 h
      refine j_tblIn 97 dX11_quarrel_13 (by rw [hc22]; decide) (by rw [hc22]; decide) (by rw [hc22]; rfl) (by decide) ?_
      refine j_aload_n 0 dX11_quarrel_97 rfl rfl ?_
      refine j_get (ci := 10) 11 (.ref 9) jC_10 dX11_quarrel_98 kg_RX11_31 rfl (okM_1 _) (shM_1 _) (fvM_1_11 _) ?_
      refine j_iload_n 1 dX11_quarrel_101 rfl rfl ?_
      replace h := bG_inv h
      obtain ⟨hi23, h⟩ := h
      refine j_iaload dX11_quarrel_102 (okM_9 _) (shM_9 _) (jin_spec hi23) ?_
      refine j_iconst (v := 1) dX11_quarrel_103 (by decide) ?_
      replace h := bC_inv h
      obtain ⟨r24, cr24, h⟩ := h
      refine j_callS (st1 := .int r24 :: _) (c_X11_from g _ cr24) jy_X11_from kt_yX11_from kl_RX11_300 dX11_quarrel_104 rfl rfl rfl rfl (jbr _) (jbr _) hn.1 hn.2 (Or.inr rfl) rfl ?_
      replace h := Option.some.inj h
      subst h
      obtain ⟨hr1, hr2⟩ := hr _ hK
      exact j_iret dX11_quarrel_107 hr1 hr2
    replace h := jif_f hc22 h
    by_cases hc25 : x2 = 5
    · replace h := jif_t hc25 h
      refine j_tblIn 108 dX11_quarrel_13 (by rw [hc25]; decide) (by rw [hc25]; decide) (by rw [hc25]; rfl) (by decide) ?_
      refine j_aload_n 0 dX11_quarrel_108 rfl rfl ?_
      refine j_aload_n 0 dX11_quarrel_109 rfl rfl ?_
      refine j_get (ci := 10) 11 (.ref 9) jC_10 dX11_quarrel_110 kg_RX11_31 rfl (okM_1 _) (shM_1 _) (fvM_1_11 _) ?_
      refine j_iload_n 1 dX11_quarrel_113 rfl rfl ?_
      replace h := bG_inv h
      obtain ⟨hi26, h⟩ := h
      refine j_iaload dX11_quarrel_114 (okM_9 _) (shM_9 _) (jin_spec hi26) ?_
      replace h := bC_inv h
      obtain ⟨r27, cr27, h⟩ := h
      refine j_callV (ci := 10) (st1 := .int r27 :: _) (c_X11_stateOf g cr27) jy_X11_stateOf ki_yX11_stateOf ks_yX11_stateOf kl_RX11_312 dX11_quarrel_115 rfl (okM_1 _) (shM_1 _) rfl rfl rfl rfl (jbr _) (jbr _) hn.1 hn.2 (Or.inr rfl) rfl ?_
      replace h := Option.some.inj h
      subst h
      obtain ⟨hr1, hr2⟩ := hr _ hK
      exact j_iret dX11_quarrel_118 hr1 hr2
    replace h := jif_f hc25 h
    by_cases hc28 : x2 = 6
    · replace h := jif_t hc28 h
      refine j_tblIn 119 dX11_quarrel_13 (by rw [hc28]; decide) (by rw [hc28]; decide) (by rw [hc28]; rfl) (by decide) ?_
      refine j_aload_n 0 dX11_quarrel_119 rfl rfl ?_
      refine j_get (ci := 10) 12 (.ref 10) jC_10 dX11_quarrel_120 kg_RX11_34 rfl (okM_1 _) (shM_1 _) (fvM_1_12 _) ?_
      refine j_iload_n 1 dX11_quarrel_123 rfl rfl ?_
      replace h := bG_inv h
      obtain ⟨hi29, h⟩ := h
      refine j_iaload dX11_quarrel_124 (okM_10 _) (shM_10 _) (jin_spec hi29) ?_
      replace h := Option.some.inj h
      subst h
      obtain ⟨hr1, hr2⟩ := hr _ hK
      exact j_iret dX11_quarrel_125 hr1 hr2
    replace h := jif_f hc28 h
    refine j_tblOut 126 dX11_quarrel_13 (jsw_out (by decide) (by decide) (fun q h1 h2 => ?_)) (by decide) ?_
    · clear h; match q, h1, h2 with
      | 0, _, _ => exact hc10
      | 1, _, _ => exact hc13
      | 2, _, _ => exact hc16
      | 3, _, _ => exact hc19
      | 4, _, _ => exact hc22
      | 5, _, _ => exact hc25
      | 6, _, _ => exact hc28
    · skip
      refine j_sipush (v := (-1002)) dX11_quarrel_126 (by decide) ?_
      replace h := Option.some.inj h
      subst h
      obtain ⟨hr1, hr2⟩ := hr _ hK
      exact j_iret dX11_quarrel_129 hr1 hr2
  · replace h := jif_t hc9 h
    refine j_sipush (v := (-1001)) dX11_quarrel_8 (by decide) ?_
    replace h := Option.some.inj h
    subst h
    obtain ⟨hr1, hr2⟩ := hr _ hK
    exact j_iret dX11_quarrel_11 hr1 hr2
theorem c_X11_quarrel (g : Bool) {σ : jS} {x1 : Int32} {x2 : Int32} {r : Int32} (h : f_X11_quarrel σ x1 x2 = some r) : Cn yX11_quarrel cX11_quarrel 3 (some .int) 5 g [.ref 1, .int x1, .int x2] (eM σ) (some (.int r)) (eM σ) :=
  Cn_of (by decide) (Nat.le_refl _) (Nat.le_refl _) (Nat.le_of_ble_eq_true rfl) (f_X11_quarrel_ok (Kp := (fun o => o = r)) σ x1 x2 ⟨jbr _, jbr _⟩ (fun r2 q => by cases q; exact ⟨rfl, rfl⟩) _ h rfl)
def f_X11_mayNow_J21 (σ : jS) (y0 : Int32) : Option Int32 :=
  some (y0)
set_option maxHeartbeats 1000000 in
set_option maxRecDepth 20000 in
theorem f_X11_mayNow_J21_ok {g : Bool} {rv : Option Value} {μ' : jM} (σ : jS) (y0 : Int32) {Kp : Int32 → Prop} (hn : Nat.ble nM μ'.1 = true ∧ Nat.ble wM μ'.2.1 = true) (hr : ∀ r : Int32, Kp (r) → rv = some (.int r) ∧ μ' = (eM σ)) (o : Int32) (h : f_X11_mayNow_J21 σ y0 = some o) (hK : Kp o) : J yX11_mayNow cX11_mayNow 2 (some .int) 5 g rv μ' 21 [] [.int y0] (eM σ) := by
  unfold f_X11_mayNow_J21 at h
  replace h := Option.some.inj h
  subst h
  obtain ⟨hr1, hr2⟩ := hr _ hK
  exact j_iret dX11_mayNow_21 hr1 hr2
def f_X11_mayNow (σ : jS) (x1 : Int32) : Option Int32 :=
  bC (f_X11_stateOf σ x1) fun r1 =>
  if r1 = 0 then (bC (f_X11_side x1) fun r2 =>
  bC (f_X11_mayOf σ x1 r2) fun r3 =>
  f_X11_mayNow_J21 σ r3)
  else (f_X11_mayNow_J21 σ 0)
set_option maxHeartbeats 1000000 in
set_option maxRecDepth 20000 in
theorem f_X11_mayNow_ok {g : Bool} {rv : Option Value} {μ' : jM} (σ : jS) (x1 : Int32) {Kp : Int32 → Prop} (hn : Nat.ble nM μ'.1 = true ∧ Nat.ble wM μ'.2.1 = true) (hr : ∀ r : Int32, Kp (r) → rv = some (.int r) ∧ μ' = (eM σ)) (o : Int32) (h : f_X11_mayNow σ x1 = some o) (hK : Kp o) : J yX11_mayNow cX11_mayNow 2 (some .int) 5 g rv μ' 0 [(0, .ref 1), (1, .int x1)] [] (eM σ) := by
  unfold f_X11_mayNow at h
  refine j_aload_n 0 dX11_mayNow_0 rfl rfl ?_
  refine j_iload_n 1 dX11_mayNow_1 rfl rfl ?_
  replace h := bC_inv h
  obtain ⟨r4, cr4, h⟩ := h
  refine j_callV (ci := 10) (st1 := .int r4 :: _) (c_X11_stateOf g cr4) jy_X11_stateOf ki_yX11_stateOf ks_yX11_stateOf kl_RX11_312 dX11_mayNow_2 rfl (okM_1 _) (shM_1 _) rfl rfl rfl rfl (jbr _) (jbr _) hn.1 hn.2 (Or.inr rfl) rfl ?_
  refine j_if_ne 20 dX11_mayNow_5 (by decide) (fun hc5 => ?_) (fun hc5 => ?_)
  · replace h := jif_f hc5 h
    refine j_iconst (v := 0) dX11_mayNow_20 (by decide) ?_
    refine j_sub [] [] rfl ?_
    exact f_X11_mayNow_J21_ok σ 0 hn hr _ h hK
  · replace h := jif_t hc5 h
    refine j_aload_n 0 dX11_mayNow_8 rfl rfl ?_
    refine j_iload_n 1 dX11_mayNow_9 rfl rfl ?_
    refine j_iload_n 1 dX11_mayNow_10 rfl rfl ?_
    replace h := bC_inv h
    obtain ⟨r6, cr6, h⟩ := h
    refine j_callS (st1 := .int r6 :: _) (c_X11_side g _ cr6) jy_X11_side kt_yX11_side kl_RX11_277 dX11_mayNow_11 rfl rfl rfl rfl (jbr _) (jbr _) hn.1 hn.2 (Or.inr rfl) rfl ?_
    replace h := bC_inv h
    obtain ⟨r7, cr7, h⟩ := h
    refine j_callV (ci := 10) (st1 := .int r7 :: _) (c_X11_mayOf g cr7) jy_X11_mayOf ki_yX11_mayOf ks_yX11_mayOf kl_RX11_306 dX11_mayNow_14 rfl (okM_1 _) (shM_1 _) rfl rfl rfl rfl (jbr _) (jbr _) hn.1 hn.2 (Or.inr rfl) rfl ?_
    refine j_goto 21 dX11_mayNow_17 (by decide) ?_
    refine j_sub [] [] rfl ?_
    exact f_X11_mayNow_J21_ok σ r7 hn hr _ h hK
theorem c_X11_mayNow (g : Bool) {σ : jS} {x1 : Int32} {r : Int32} (h : f_X11_mayNow σ x1 = some r) : Cn yX11_mayNow cX11_mayNow 2 (some .int) 5 g [.ref 1, .int x1] (eM σ) (some (.int r)) (eM σ) :=
  Cn_of (by decide) (Nat.le_refl _) (Nat.le_refl _) (Nat.le_of_ble_eq_true rfl) (f_X11_mayNow_ok (Kp := (fun o => o = r)) σ x1 ⟨jbr _, jbr _⟩ (fun r2 q => by cases q; exact ⟨rfl, rfl⟩) _ h rfl)
def f_X11_may_J24 (σ : jS) (y0 : Int32) : Option Int32 :=
  some (y0)
set_option maxHeartbeats 1000000 in
set_option maxRecDepth 20000 in
theorem f_X11_may_J24_ok {g : Bool} {rv : Option Value} {μ' : jM} (σ : jS) (y0 : Int32) {Kp : Int32 → Prop} (hn : Nat.ble nM μ'.1 = true ∧ Nat.ble wM μ'.2.1 = true) (hr : ∀ r : Int32, Kp (r) → rv = some (.int r) ∧ μ' = (eM σ)) (o : Int32) (h : f_X11_may_J24 σ y0 = some o) (hK : Kp o) : J yX11_may cX11_may 2 (some .int) 6 g rv μ' 24 [] [.int y0] (eM σ) := by
  unfold f_X11_may_J24 at h
  replace h := Option.some.inj h
  subst h
  obtain ⟨hr1, hr2⟩ := hr _ hK
  exact j_iret dX11_may_24 hr1 hr2
def f_X11_may (σ : jS) (x1 : Int32) : Option Int32 :=
  bC (f_X11_isQuarrel σ x1) fun r1 =>
  if r1 = 0 then (f_X11_may_J24 σ (-1001))
  else (bG (jin x1 4) (
  bC (f_X11_mayNow σ (gI σ 9 (ix x1))) fun r2 =>
  f_X11_may_J24 σ r2))
set_option maxHeartbeats 1000000 in
set_option maxRecDepth 20000 in
theorem f_X11_may_ok {g : Bool} {rv : Option Value} {μ' : jM} (σ : jS) (x1 : Int32) {Kp : Int32 → Prop} (hn : Nat.ble nM μ'.1 = true ∧ Nat.ble wM μ'.2.1 = true) (hr : ∀ r : Int32, Kp (r) → rv = some (.int r) ∧ μ' = (eM σ)) (o : Int32) (h : f_X11_may σ x1 = some o) (hK : Kp o) : J yX11_may cX11_may 2 (some .int) 6 g rv μ' 0 [(0, .ref 1), (1, .int x1)] [] (eM σ) := by
  unfold f_X11_may at h
  refine j_aload_n 0 dX11_may_0 rfl rfl ?_
  refine j_iload_n 1 dX11_may_1 rfl rfl ?_
  replace h := bC_inv h
  obtain ⟨r3, cr3, h⟩ := h
  refine j_callV (ci := 10) (st1 := .int r3 :: _) (c_X11_isQuarrel g cr3) jy_X11_isQuarrel ki_yX11_isQuarrel ks_yX11_isQuarrel kl_RX11_309 dX11_may_2 rfl (okM_1 _) (shM_1 _) rfl rfl rfl rfl (jbr _) (jbr _) hn.1 hn.2 (Or.inr rfl) rfl ?_
  refine j_if_eq 21 dX11_may_5 (by decide) (fun hc4 => ?_) (fun hc4 => ?_)
  · replace h := jif_t hc4 h
    refine j_sipush (v := (-1001)) dX11_may_21 (by decide) ?_
    refine j_sub [] [] rfl ?_
    exact f_X11_may_J24_ok σ (-1001) hn hr _ h hK
  · replace h := jif_f hc4 h
    refine j_aload_n 0 dX11_may_8 rfl rfl ?_
    refine j_aload_n 0 dX11_may_9 rfl rfl ?_
    refine j_get (ci := 10) 11 (.ref 9) jC_10 dX11_may_10 kg_RX11_31 rfl (okM_1 _) (shM_1 _) (fvM_1_11 _) ?_
    refine j_iload_n 1 dX11_may_13 rfl rfl ?_
    replace h := bG_inv h
    obtain ⟨hi5, h⟩ := h
    refine j_iaload dX11_may_14 (okM_9 _) (shM_9 _) (jin_spec hi5) ?_
    replace h := bC_inv h
    obtain ⟨r6, cr6, h⟩ := h
    refine j_callV (ci := 10) (st1 := .int r6 :: _) (c_X11_mayNow g cr6) jy_X11_mayNow ki_yX11_mayNow ks_yX11_mayNow kl_RX11_315 dX11_may_15 rfl (okM_1 _) (shM_1 _) rfl rfl rfl rfl (jbr _) (jbr _) hn.1 hn.2 (Or.inr rfl) rfl ?_
    refine j_goto 24 dX11_may_18 (by decide) ?_
    refine j_sub [] [] rfl ?_
    exact f_X11_may_J24_ok σ r6 hn hr _ h hK
theorem c_X11_may (g : Bool) {σ : jS} {x1 : Int32} {r : Int32} (h : f_X11_may σ x1 = some r) : Cn yX11_may cX11_may 2 (some .int) 6 g [.ref 1, .int x1] (eM σ) (some (.int r)) (eM σ) :=
  Cn_of (by decide) (Nat.le_refl _) (Nat.le_refl _) (Nat.le_of_ble_eq_true rfl) (f_X11_may_ok (Kp := (fun o => o = r)) σ x1 ⟨jbr _, jbr _⟩ (fun r2 q => by cases q; exact ⟨rfl, rfl⟩) _ h rfl)
def f_X11_behind_J105 (σ : jS) (x3 : Int32) (x4 : Int32) (x5 : Int32) (x6 : Int32) (x7 : Int32) : Option Int32 :=
  bC (f_X11_code x4 x5 ((1 : Int32) - x3) x6 x7) fun r6 =>
  some (r6)
set_option maxHeartbeats 1000000 in
set_option maxRecDepth 20000 in
theorem f_X11_behind_J105_ok {g : Bool} {rv : Option Value} {μ' : jM} (σ : jS) (x3 : Int32) (x4 : Int32) (x5 : Int32) (x6 : Int32) (x7 : Int32) {Kp : Int32 → Prop} (hn : Nat.ble nM μ'.1 = true ∧ Nat.ble wM μ'.2.1 = true) (hr : ∀ r : Int32, Kp (r) → rv = some (.int r) ∧ μ' = (eM σ)) (o : Int32) (h : f_X11_behind_J105 σ x3 x4 x5 x6 x7 = some o) (hK : Kp o) : J yX11_behind cX11_behind 9 (some .int) 3 g rv μ' 105 [(3, .int x3), (4, .int x4), (5, .int x5), (6, .int x6), (7, .int x7)] [] (eM σ) := by
  unfold f_X11_behind_J105 at h
  refine j_iload 1 dX11_behind_105 rfl ?_
  refine j_iload 2 dX11_behind_107 rfl ?_
  refine j_iconst (v := 1) dX11_behind_109 (by decide) ?_
  refine j_iload_n 0 dX11_behind_110 rfl rfl ?_
  refine j_isub dX11_behind_111 ?_
  refine j_iload 3 dX11_behind_112 rfl ?_
  refine j_iload 4 dX11_behind_114 rfl ?_
  replace h := bC_inv h
  obtain ⟨r7, cr7, h⟩ := h
  refine j_callS (st1 := .int r7 :: _) (c_X11_code g _ cr7) jy_X11_code kt_yX11_code kl_RX11_280 dX11_behind_116 rfl rfl rfl rfl (jbr _) (jbr _) hn.1 hn.2 (Or.inr rfl) rfl ?_
  replace h := Option.some.inj h
  subst h
  obtain ⟨hr1, hr2⟩ := hr _ hK
  exact j_iret dX11_behind_119 hr1 hr2
def f_X11_behind_J103 (σ : jS) (x3 : Int32) (x4 : Int32) (x6 : Int32) (x7 : Int32) (y0 : Int32) : Option Int32 :=
  f_X11_behind_J105 σ x3 x4 y0 x6 x7
set_option maxHeartbeats 1000000 in
set_option maxRecDepth 20000 in
theorem f_X11_behind_J103_ok {g : Bool} {rv : Option Value} {μ' : jM} (σ : jS) (x3 : Int32) (x4 : Int32) (x6 : Int32) (x7 : Int32) (y0 : Int32) {Kp : Int32 → Prop} (hn : Nat.ble nM μ'.1 = true ∧ Nat.ble wM μ'.2.1 = true) (hr : ∀ r : Int32, Kp (r) → rv = some (.int r) ∧ μ' = (eM σ)) (o : Int32) (h : f_X11_behind_J103 σ x3 x4 x6 x7 y0 = some o) (hK : Kp o) : J yX11_behind cX11_behind 9 (some .int) 3 g rv μ' 103 [(3, .int x3), (4, .int x4), (6, .int x6), (7, .int x7)] [.int y0] (eM σ) := by
  unfold f_X11_behind_J103 at h
  refine j_istore [(5, .int y0), (3, .int x3), (4, .int x4), (6, .int x6), (7, .int x7)] dX11_behind_103 (Nat.le_of_ble_eq_true rfl) rfl ?_
  refine j_sub [(3, .int x3), (4, .int x4), (5, .int y0), (6, .int x6), (7, .int x7)] [1, 2, 0, 3, 4] rfl ?_
  exact f_X11_behind_J105_ok σ x3 x4 y0 x6 x7 hn hr _ h hK
def f_X11_behind_J90 (σ : jS) (x2 : Int32) (x3 : Int32) (x5 : Int32) (x6 : Int32) (x7 : Int32) (y0 : Int32) : Option Int32 :=
  if x3 = 1 then (f_X11_behind_J103 σ x3 y0 x6 x7 x2)
  else (f_X11_behind_J103 σ x3 y0 x6 x7 x5)
set_option maxHeartbeats 1000000 in
set_option maxRecDepth 20000 in
theorem f_X11_behind_J90_ok {g : Bool} {rv : Option Value} {μ' : jM} (σ : jS) (x2 : Int32) (x3 : Int32) (x5 : Int32) (x6 : Int32) (x7 : Int32) (y0 : Int32) {Kp : Int32 → Prop} (hn : Nat.ble nM μ'.1 = true ∧ Nat.ble wM μ'.2.1 = true) (hr : ∀ r : Int32, Kp (r) → rv = some (.int r) ∧ μ' = (eM σ)) (o : Int32) (h : f_X11_behind_J90 σ x2 x3 x5 x6 x7 y0 = some o) (hK : Kp o) : J yX11_behind cX11_behind 9 (some .int) 3 g rv μ' 90 [(2, .int x2), (3, .int x3), (5, .int x5), (6, .int x6), (7, .int x7)] [.int y0] (eM σ) := by
  unfold f_X11_behind_J90 at h
  refine j_istore [(4, .int y0), (2, .int x2), (3, .int x3), (5, .int x5), (6, .int x6), (7, .int x7)] dX11_behind_90 (Nat.le_of_ble_eq_true rfl) rfl ?_
  refine j_iload_n 2 dX11_behind_92 rfl rfl ?_
  refine j_iconst (v := 1) dX11_behind_93 (by decide) ?_
  refine j_icmp_ne 101 dX11_behind_94 (by decide) (fun hc8 => ?_) (fun hc8 => ?_)
  · replace h := jif_f hc8 h
    refine j_iload 3 dX11_behind_101 rfl ?_
    refine j_sub [(3, .int x3), (4, .int y0), (6, .int x6), (7, .int x7)] [2, 0, 4, 5] rfl ?_
    exact f_X11_behind_J103_ok σ x3 y0 x6 x7 x5 hn hr _ h hK
  · replace h := jif_t hc8 h
    refine j_iload_n 1 dX11_behind_97 rfl rfl ?_
    refine j_goto 103 dX11_behind_98 (by decide) ?_
    refine j_sub [(3, .int x3), (4, .int y0), (6, .int x6), (7, .int x7)] [2, 0, 4, 5] rfl ?_
    exact f_X11_behind_J103_ok σ x3 y0 x6 x7 x2 hn hr _ h hK
def f_X11_behind_J78 (σ : jS) (x2 : Int32) (x3 : Int32) (x4 : Int32) (x5 : Int32) (x6 : Int32) (y0 : Int32) : Option Int32 :=
  if x3 = 0 then (f_X11_behind_J90 σ x2 x3 x5 x6 y0 x2)
  else (f_X11_behind_J90 σ x2 x3 x5 x6 y0 x4)
set_option maxHeartbeats 1000000 in
set_option maxRecDepth 20000 in
theorem f_X11_behind_J78_ok {g : Bool} {rv : Option Value} {μ' : jM} (σ : jS) (x2 : Int32) (x3 : Int32) (x4 : Int32) (x5 : Int32) (x6 : Int32) (y0 : Int32) {Kp : Int32 → Prop} (hn : Nat.ble nM μ'.1 = true ∧ Nat.ble wM μ'.2.1 = true) (hr : ∀ r : Int32, Kp (r) → rv = some (.int r) ∧ μ' = (eM σ)) (o : Int32) (h : f_X11_behind_J78 σ x2 x3 x4 x5 x6 y0 = some o) (hK : Kp o) : J yX11_behind cX11_behind 9 (some .int) 3 g rv μ' 78 [(2, .int x2), (3, .int x3), (4, .int x4), (5, .int x5), (6, .int x6)] [.int y0] (eM σ) := by
  unfold f_X11_behind_J78 at h
  refine j_istore [(7, .int y0), (2, .int x2), (3, .int x3), (4, .int x4), (5, .int x5), (6, .int x6)] dX11_behind_78 (Nat.le_of_ble_eq_true rfl) rfl ?_
  refine j_iload_n 2 dX11_behind_80 rfl rfl ?_
  refine j_if_ne 88 dX11_behind_81 (by decide) (fun hc9 => ?_) (fun hc9 => ?_)
  · replace h := jif_f hc9 h
    refine j_iload 3 dX11_behind_88 rfl ?_
    refine j_sub [(2, .int x2), (3, .int x3), (5, .int x5), (6, .int x6), (7, .int y0)] [1, 2, 4, 5, 0] rfl ?_
    exact f_X11_behind_J90_ok σ x2 x3 x5 x6 y0 x4 hn hr _ h hK
  · replace h := jif_t hc9 h
    refine j_iload_n 1 dX11_behind_84 rfl rfl ?_
    refine j_goto 90 dX11_behind_85 (by decide) ?_
    refine j_sub [(2, .int x2), (3, .int x3), (5, .int x5), (6, .int x6), (7, .int y0)] [1, 2, 4, 5, 0] rfl ?_
    exact f_X11_behind_J90_ok σ x2 x3 x5 x6 y0 x2 hn hr _ h hK
def f_X11_behind_J64 (σ : jS) (x2 : Int32) (x3 : Int32) (x4 : Int32) (x5 : Int32) (x7 : Int32) (x8 : Int32) (y0 : Int32) : Option Int32 :=
  if x3 = 1 then (f_X11_behind_J78 σ x2 x3 x4 x5 y0 x8)
  else (f_X11_behind_J78 σ x2 x3 x4 x5 y0 x7)
set_option maxHeartbeats 1000000 in
set_option maxRecDepth 20000 in
theorem f_X11_behind_J64_ok {g : Bool} {rv : Option Value} {μ' : jM} (σ : jS) (x2 : Int32) (x3 : Int32) (x4 : Int32) (x5 : Int32) (x7 : Int32) (x8 : Int32) (y0 : Int32) {Kp : Int32 → Prop} (hn : Nat.ble nM μ'.1 = true ∧ Nat.ble wM μ'.2.1 = true) (hr : ∀ r : Int32, Kp (r) → rv = some (.int r) ∧ μ' = (eM σ)) (o : Int32) (h : f_X11_behind_J64 σ x2 x3 x4 x5 x7 x8 y0 = some o) (hK : Kp o) : J yX11_behind cX11_behind 9 (some .int) 3 g rv μ' 64 [(2, .int x2), (3, .int x3), (4, .int x4), (5, .int x5), (7, .int x7), (8, .int x8)] [.int y0] (eM σ) := by
  unfold f_X11_behind_J64 at h
  refine j_istore [(6, .int y0), (2, .int x2), (3, .int x3), (4, .int x4), (5, .int x5), (7, .int x7), (8, .int x8)] dX11_behind_64 (Nat.le_of_ble_eq_true rfl) rfl ?_
  refine j_iload_n 2 dX11_behind_66 rfl rfl ?_
  refine j_iconst (v := 1) dX11_behind_67 (by decide) ?_
  refine j_icmp_ne 76 dX11_behind_68 (by decide) (fun hc10 => ?_) (fun hc10 => ?_)
  · replace h := jif_f hc10 h
    refine j_iload 5 dX11_behind_76 rfl ?_
    refine j_sub [(2, .int x2), (3, .int x3), (4, .int x4), (5, .int x5), (6, .int y0)] [1, 2, 3, 4, 0] rfl ?_
    exact f_X11_behind_J78_ok σ x2 x3 x4 x5 y0 x7 hn hr _ h hK
  · replace h := jif_t hc10 h
    refine j_iload 6 dX11_behind_71 rfl ?_
    refine j_goto 78 dX11_behind_73 (by decide) ?_
    refine j_sub [(2, .int x2), (3, .int x3), (4, .int x4), (5, .int x5), (6, .int y0)] [1, 2, 3, 4, 0] rfl ?_
    exact f_X11_behind_J78_ok σ x2 x3 x4 x5 y0 x8 hn hr _ h hK
def f_X11_behind_J51 (σ : jS) (x2 : Int32) (x3 : Int32) (x4 : Int32) (x5 : Int32) (x6 : Int32) (x7 : Int32) (y0 : Int32) : Option Int32 :=
  if x3 = 0 then (f_X11_behind_J64 σ x2 x3 x4 x5 x7 y0 y0)
  else (f_X11_behind_J64 σ x2 x3 x4 x5 x7 y0 x6)
set_option maxHeartbeats 1000000 in
set_option maxRecDepth 20000 in
theorem f_X11_behind_J51_ok {g : Bool} {rv : Option Value} {μ' : jM} (σ : jS) (x2 : Int32) (x3 : Int32) (x4 : Int32) (x5 : Int32) (x6 : Int32) (x7 : Int32) (y0 : Int32) {Kp : Int32 → Prop} (hn : Nat.ble nM μ'.1 = true ∧ Nat.ble wM μ'.2.1 = true) (hr : ∀ r : Int32, Kp (r) → rv = some (.int r) ∧ μ' = (eM σ)) (o : Int32) (h : f_X11_behind_J51 σ x2 x3 x4 x5 x6 x7 y0 = some o) (hK : Kp o) : J yX11_behind cX11_behind 9 (some .int) 3 g rv μ' 51 [(2, .int x2), (3, .int x3), (4, .int x4), (5, .int x5), (6, .int x6), (7, .int x7)] [.int y0] (eM σ) := by
  unfold f_X11_behind_J51 at h
  refine j_istore [(8, .int y0), (2, .int x2), (3, .int x3), (4, .int x4), (5, .int x5), (6, .int x6), (7, .int x7)] dX11_behind_51 (Nat.le_of_ble_eq_true rfl) rfl ?_
  refine j_iload_n 2 dX11_behind_53 rfl rfl ?_
  refine j_if_ne 62 dX11_behind_54 (by decide) (fun hc11 => ?_) (fun hc11 => ?_)
  · replace h := jif_f hc11 h
    refine j_iload 5 dX11_behind_62 rfl ?_
    refine j_sub [(2, .int x2), (3, .int x3), (4, .int x4), (5, .int x5), (7, .int x7), (8, .int y0)] [1, 2, 3, 4, 6, 0] rfl ?_
    exact f_X11_behind_J64_ok σ x2 x3 x4 x5 x7 y0 x6 hn hr _ h hK
  · replace h := jif_t hc11 h
    refine j_iload 0 dX11_behind_57 rfl ?_
    refine j_goto 64 dX11_behind_59 (by decide) ?_
    refine j_sub [(2, .int x2), (3, .int x3), (4, .int x4), (5, .int x5), (7, .int x7), (8, .int y0)] [1, 2, 3, 4, 6, 0] rfl ?_
    exact f_X11_behind_J64_ok σ x2 x3 x4 x5 x7 y0 y0 hn hr _ h hK
def f_X11_behind (σ : jS) (x1 : Int32) (x2 : Int32) : Option Int32 :=
  bC (f_X11_side x1) fun r1 =>
  bC (f_X11_one x1) fun r2 =>
  bC (f_X11_two x1) fun r3 =>
  bC (f_X11_from x1 0) fun r4 =>
  bC (f_X11_from x1 1) fun r5 =>
  if x2 < 0 then (f_X11_behind_J105 σ r1 r2 r3 r4 r5)
  else (if (gI σ 1 14) = 0 then (f_X11_behind_J51 σ x2 r1 r2 r3 r4 r5 (-1))
  else (bC (f_X11_holder x1 r1) fun r12 =>
  f_X11_behind_J51 σ x2 r1 r2 r3 r4 r5 r12))
set_option maxHeartbeats 1000000 in
set_option maxRecDepth 20000 in
theorem f_X11_behind_ok {g : Bool} {rv : Option Value} {μ' : jM} (σ : jS) (x1 : Int32) (x2 : Int32) {Kp : Int32 → Prop} (hn : Nat.ble nM μ'.1 = true ∧ Nat.ble wM μ'.2.1 = true) (hr : ∀ r : Int32, Kp (r) → rv = some (.int r) ∧ μ' = (eM σ)) (o : Int32) (h : f_X11_behind σ x1 x2 = some o) (hK : Kp o) : J yX11_behind cX11_behind 9 (some .int) 3 g rv μ' 0 [(0, .ref 1), (1, .int x1), (2, .int x2)] [] (eM σ) := by
  unfold f_X11_behind at h
  refine j_iload_n 1 dX11_behind_0 rfl rfl ?_
  replace h := bC_inv h
  obtain ⟨r13, cr13, h⟩ := h
  refine j_callS (st1 := .int r13 :: _) (c_X11_side g _ cr13) jy_X11_side kt_yX11_side kl_RX11_277 dX11_behind_1 rfl rfl rfl rfl (jbr _) (jbr _) hn.1 hn.2 (Or.inr rfl) rfl ?_
  refine j_istore_n [(3, .int r13), (0, .ref 1), (1, .int x1), (2, .int x2)] dX11_behind_4 rfl (Nat.le_of_ble_eq_true rfl) rfl ?_
  refine j_iload_n 2 dX11_behind_5 rfl rfl ?_
  replace h := bC_inv h
  obtain ⟨r14, cr14, h⟩ := h
  refine j_callS (st1 := .int r14 :: _) (c_X11_one g _ cr14) jy_X11_one kt_yX11_one kl_RX11_271 dX11_behind_6 rfl rfl rfl rfl (jbr _) (jbr _) hn.1 hn.2 (Or.inr rfl) rfl ?_
  refine j_istore [(4, .int r14), (3, .int r13), (0, .ref 1), (1, .int x1), (2, .int x2)] dX11_behind_9 (Nat.le_of_ble_eq_true rfl) rfl ?_
  refine j_iload_n 3 dX11_behind_11 rfl rfl ?_
  replace h := bC_inv h
  obtain ⟨r15, cr15, h⟩ := h
  refine j_callS (st1 := .int r15 :: _) (c_X11_two g _ cr15) jy_X11_two kt_yX11_two kl_RX11_274 dX11_behind_12 rfl rfl rfl rfl (jbr _) (jbr _) hn.1 hn.2 (Or.inr rfl) rfl ?_
  refine j_istore [(5, .int r15), (4, .int r14), (3, .int r13), (0, .ref 1), (1, .int x1), (2, .int x2)] dX11_behind_15 (Nat.le_of_ble_eq_true rfl) rfl ?_
  refine j_iload_n 4 dX11_behind_17 rfl rfl ?_
  refine j_iconst (v := 0) dX11_behind_18 (by decide) ?_
  replace h := bC_inv h
  obtain ⟨r16, cr16, h⟩ := h
  refine j_callS (st1 := .int r16 :: _) (c_X11_from g _ cr16) jy_X11_from kt_yX11_from kl_RX11_300 dX11_behind_19 rfl rfl rfl rfl (jbr _) (jbr _) hn.1 hn.2 (Or.inr rfl) rfl ?_
  refine j_istore [(6, .int r16), (5, .int r15), (4, .int r14), (3, .int r13), (0, .ref 1), (1, .int x1), (2, .int x2)] dX11_behind_22 (Nat.le_of_ble_eq_true rfl) rfl ?_
  refine j_iload_n 5 dX11_behind_24 rfl rfl ?_
  refine j_iconst (v := 1) dX11_behind_25 (by decide) ?_
  replace h := bC_inv h
  obtain ⟨r17, cr17, h⟩ := h
  refine j_callS (st1 := .int r17 :: _) (c_X11_from g _ cr17) jy_X11_from kt_yX11_from kl_RX11_300 dX11_behind_26 rfl rfl rfl rfl (jbr _) (jbr _) hn.1 hn.2 (Or.inr rfl) rfl ?_
  refine j_istore [(7, .int r17), (6, .int r16), (5, .int r15), (4, .int r14), (3, .int r13), (0, .ref 1), (1, .int x1), (2, .int x2)] dX11_behind_29 (Nat.le_of_ble_eq_true rfl) rfl ?_
  refine j_iload_n 7 dX11_behind_31 rfl rfl ?_
  refine j_if_lt 105 dX11_behind_32 (by decide) (fun hc18 => ?_) (fun hc18 => ?_)
  · replace h := jif_t hc18 h
    refine j_sub [(3, .int r13), (4, .int r14), (5, .int r15), (6, .int r16), (7, .int r17)] [4, 3, 2, 1, 0] rfl ?_
    exact f_X11_behind_J105_ok σ r13 r14 r15 r16 r17 hn hr _ h hK
  · replace h := jif_f hc18 h
    refine j_aload_n 5 dX11_behind_35 rfl rfl ?_
    refine j_get (ci := 10) 14 (.int (gI σ 1 14)) jC_10 dX11_behind_36 kg_RX11_267 rfl (okM_1 _) (shM_1 _) (fvM_1_14 _) ?_
    refine j_if_eq 50 dX11_behind_39 (by decide) (fun hc19 => ?_) (fun hc19 => ?_)
    · replace h := jif_t hc19 h
      refine j_iconst (v := (-1)) dX11_behind_50 (by decide) ?_
      refine j_sub [(2, .int x2), (3, .int r13), (4, .int r14), (5, .int r15), (6, .int r16), (7, .int r17)] [7, 4, 3, 2, 1, 0] rfl ?_
      exact f_X11_behind_J51_ok σ x2 r13 r14 r15 r16 r17 (-1) hn hr _ h hK
    · replace h := jif_f hc19 h
      refine j_iload_n 6 dX11_behind_42 rfl rfl ?_
      refine j_iload_n 4 dX11_behind_43 rfl rfl ?_
      replace h := bC_inv h
      obtain ⟨r20, cr20, h⟩ := h
      refine j_callS (st1 := .int r20 :: _) (c_X11_holder g _ cr20) jy_X11_holder kt_yX11_holder kl_RX11_291 dX11_behind_44 rfl rfl rfl rfl (jbr _) (jbr _) hn.1 hn.2 (Or.inr rfl) rfl ?_
      refine j_goto 51 dX11_behind_47 (by decide) ?_
      refine j_sub [(2, .int x2), (3, .int r13), (4, .int r14), (5, .int r15), (6, .int r16), (7, .int r17)] [7, 4, 3, 2, 1, 0] rfl ?_
      exact f_X11_behind_J51_ok σ x2 r13 r14 r15 r16 r17 r20 hn hr _ h hK
theorem c_X11_behind (g : Bool) {σ : jS} {x1 : Int32} {x2 : Int32} {r : Int32} (h : f_X11_behind σ x1 x2 = some r) : Cn yX11_behind cX11_behind 9 (some .int) 3 g [.ref 1, .int x1, .int x2] (eM σ) (some (.int r)) (eM σ) :=
  Cn_of (by decide) (Nat.le_refl _) (Nat.le_refl _) (Nat.le_of_ble_eq_true rfl) (f_X11_behind_ok (Kp := (fun o => o = r)) σ x1 x2 ⟨jbr _, jbr _⟩ (fun r2 q => by cases q; exact ⟨rfl, rfl⟩) _ h rfl)
def f_X11_bits_J24 (x1 : Int32) : Option Int32 :=
  some (x1)
set_option maxHeartbeats 1000000 in
set_option maxRecDepth 20000 in
theorem f_X11_bits_J24_ok {g : Bool} {rv : Option Value} {μ' : jM} (x1 : Int32) (μ : jM) {Kp : Int32 → Prop} (hn : Nat.ble μ.1 μ'.1 = true ∧ Nat.ble μ.2.1 μ'.2.1 = true) (hr : ∀ r : Int32, Kp (r) → rv = some (.int r) ∧ μ' = μ) (o : Int32) (h : f_X11_bits_J24 x1 = some o) (hK : Kp o) : J yX11_bits cX11_bits 3 (some .int) 1 g rv μ' 24 [(1, .int x1)] [] μ := by
  unfold f_X11_bits_J24 at h
  refine j_iload_n 0 dX11_bits_24 rfl rfl ?_
  replace h := Option.some.inj h
  subst h
  obtain ⟨hr1, hr2⟩ := hr _ hK
  exact j_iret dX11_bits_25 hr1 hr2
def f_X11_bits_B4 (x0 : Int32) (x1 : Int32) (x2 : Int32) : Option ((Int32 × Int32) ⊕ Int32) :=
  if 16 ≤ x2 then (jw (f_X11_bits_J24 x1))
  else (bV (x1 + ((x0 >>> (x2 &&& 31)) &&& (1 : Int32))) fun v1 =>
  bV (x2 + 1) fun v2 =>
  some (.inl (v1, v2)))
set_option maxHeartbeats 1000000 in
set_option maxRecDepth 20000 in
theorem f_X11_bits_B4_ok {g : Bool} {rv : Option Value} {μ' : jM} (x0 : Int32) (x1 : Int32) (x2 : Int32) (μ : jM) {Kp : ((Int32 × Int32) ⊕ Int32) → Prop} (hn : Nat.ble μ.1 μ'.1 = true ∧ Nat.ble μ.2.1 μ'.2.1 = true) (hr : ∀ r : Int32, Kp (.inr (r)) → rv = some (.int r) ∧ μ' = μ) (hc0 : ∀ s : (Int32 × Int32), Kp (.inl s) → J yX11_bits cX11_bits 3 (some .int) 1 g rv μ' 4 [(0, .int x0), (1, .int s.1), (2, .int s.2)] [] μ) (o : ((Int32 × Int32) ⊕ Int32)) (h : f_X11_bits_B4 x0 x1 x2 = some o) (hK : Kp o) : J yX11_bits cX11_bits 3 (some .int) 1 g rv μ' 4 [(0, .int x0), (1, .int x1), (2, .int x2)] [] μ := by
  unfold f_X11_bits_B4 at h
  refine j_iload_n 2 dX11_bits_4 rfl rfl ?_
  refine j_bipush (v := 16) dX11_bits_5 (by decide) ?_
  refine j_icmp_ge 24 dX11_bits_7 (by decide) (fun hc3 => ?_) (fun hc3 => ?_)
  · replace h := jif_t hc3 h
    replace h := jw_inv h
    obtain ⟨o4, rfl, h⟩ := h
    refine j_sub [(1, .int x1)] [1] rfl ?_
    exact f_X11_bits_J24_ok (Kp := fun o => Kp (.inr (o))) x1 μ hn (fun r q => hr r q) _ h hK
  · replace h := jif_f hc3 h
    refine j_iload_n 1 dX11_bits_10 rfl rfl ?_
    refine j_iload_n 0 dX11_bits_11 rfl rfl ?_
    refine j_iload_n 2 dX11_bits_12 rfl rfl ?_
    refine j_ishr dX11_bits_13 ?_
    refine j_iconst (v := 1) dX11_bits_14 (by decide) ?_
    refine j_iand dX11_bits_15 ?_
    refine j_iadd dX11_bits_16 ?_
    replace h := bV_inv h
    obtain ⟨v5, ev5, h⟩ := h
    refine j_nmi ev5 ?_
    refine j_istore_n [(1, .int v5), (0, .int x0), (2, .int x2)] dX11_bits_17 rfl (Nat.le_of_ble_eq_true rfl) rfl ?_
    replace h := bV_inv h
    obtain ⟨v6, ev6, h⟩ := h
    refine j_iinc (v := v6) [(2, .int v6), (1, .int v5), (0, .int x0)] 2 dX11_bits_18 rfl (by rw [ev6]; rfl) (Nat.le_of_ble_eq_true rfl) rfl ?_
    refine j_goto 4 dX11_bits_21 (by decide) ?_
    replace h := Option.some.inj h
    subst h
    refine j_sub [(0, .int x0), (1, .int v5), (2, .int v6)] [2, 1, 0] rfl ?_
    exact hc0 _ hK
def f_X11_bits (x0 : Int32) : Option Int32 :=
  jloop jFuel (fun s => f_X11_bits_B4 x0 s.1 s.2) (0, 0)
set_option maxHeartbeats 1000000 in
set_option maxRecDepth 20000 in
theorem f_X11_bits_ok {g : Bool} {rv : Option Value} {μ' : jM} (x0 : Int32) (μ : jM) {Kp : Int32 → Prop} (hn : Nat.ble μ.1 μ'.1 = true ∧ Nat.ble μ.2.1 μ'.2.1 = true) (hr : ∀ r : Int32, Kp (r) → rv = some (.int r) ∧ μ' = μ) (o : Int32) (h : f_X11_bits x0 = some o) (hK : Kp o) : J yX11_bits cX11_bits 3 (some .int) 1 g rv μ' 0 [(0, .int x0)] [] μ := by
  unfold f_X11_bits at h
  refine j_iconst (v := 0) dX11_bits_0 (by decide) ?_
  refine j_istore_n [(1, .int 0), (0, .int x0)] dX11_bits_1 rfl (Nat.le_of_ble_eq_true rfl) rfl ?_
  refine j_iconst (v := 0) dX11_bits_2 (by decide) ?_
  refine j_istore_n [(2, .int 0), (1, .int 0), (0, .int x0)] dX11_bits_3 rfl (Nat.le_of_ble_eq_true rfl) rfl ?_
  refine j_sub [(0, .int x0), (1, .int 0), (2, .int 0)] [2, 1, 0] rfl ?_
  exact jloop_ok (fun s => f_X11_bits_B4 x0 s.1 s.2) (fun s => J yX11_bits cX11_bits 3 (some .int) 1 g rv μ' 4 [(0, .int x0), (1, .int s.1), (2, .int s.2)] [] μ) Kp (fun s o hb hk => f_X11_bits_B4_ok (Kp := jsum (fun s => J yX11_bits cX11_bits 3 (some .int) 1 g rv μ' 4 [(0, .int x0), (1, .int s.1), (2, .int s.2)] [] μ) Kp) x0 s.1 s.2 μ hn (fun r q => hr r q) (fun s q => q) o hb hk) jFuel _ _ h hK
theorem c_X11_bits (g : Bool) (μ : jM) {x0 : Int32} {r : Int32} (h : f_X11_bits x0 = some r) : Cn yX11_bits cX11_bits 3 (some .int) 1 g [.int x0] μ (some (.int r)) μ :=
  Cn_of (by decide) (Nat.le_refl _) (Nat.le_refl _) (Nat.le_of_ble_eq_true rfl) (f_X11_bits_ok (Kp := (fun o => o = r)) x0 μ ⟨jbr _, jbr _⟩ (fun r2 q => by cases q; exact ⟨rfl, rfl⟩) _ h rfl)
def f_X11_draw (σ : jS) (x1 : Int32) : Option (Int32 × jS) :=
  bV (sI σ 1 36 ((((((gI σ 1 36).toInt64) * (1103515245 : Int64)) + (12345 : Int64)) - ((((gI σ 1 36).toInt64) * (1103515245 : Int64)) + (12345 : Int64)) / (2147483648 : Int64) * (2147483648 : Int64)).toInt32)) fun σ1 =>
  bG (x1 != 0) (
  some ((((gI σ1 1 36) / (65536 : Int32)) - ((gI σ1 1 36) / (65536 : Int32)) / x1 * x1, σ1)))
set_option maxHeartbeats 1000000 in
set_option maxRecDepth 20000 in
theorem f_X11_draw_ok {g : Bool} {rv : Option Value} {μ' : jM} (σ : jS) (x1 : Int32) {Kp : (Int32 × jS) → Prop} (hn : Nat.ble nM μ'.1 = true ∧ Nat.ble wM μ'.2.1 = true) (hr : ∀ (r : Int32) (s : jS), Kp ((r, s)) → rv = some (.int r) ∧ μ' = eM s) (o : (Int32 × jS)) (h : f_X11_draw σ x1 = some o) (hK : Kp o) : J yX11_draw cX11_draw 2 (some .int) 1 g rv μ' 0 [(0, .ref 1), (1, .int x1)] [] (eM σ) := by
  unfold f_X11_draw at h
  refine j_aload_n 0 dX11_draw_0 rfl rfl ?_
  refine j_aload_n 0 dX11_draw_1 rfl rfl ?_
  refine j_get (ci := 10) 36 (.int (gI σ 1 36)) jC_10 dX11_draw_2 kg_RX11_318 rfl (okM_1 _) (shM_1 _) (fvM_1_36 _) ?_
  refine j_i2l dX11_draw_5 ?_
  refine j_ldc2 (v := 1103515245) kk_RX11_321 dX11_draw_6 ?_
  refine j_lmul dX11_draw_9 ?_
  refine j_ldc2 (v := 12345) kk_RX11_323 dX11_draw_10 ?_
  refine j_ladd dX11_draw_13 ?_
  refine j_ldc2 (v := 2147483648) kk_RX11_325 dX11_draw_14 ?_
  refine j_lrem dX11_draw_17 (by decide) ?_
  refine j_l2i dX11_draw_18 ?_
  replace h := bV_inv h
  obtain ⟨σ2, eσ2, h⟩ := h
  refine j_putI 36 jC_10 dX11_draw_19 kg_RX11_318 (Or.inl ff_10_36) rfl fk_10_36 (fn_10_36 _) (okM_1 _) (shM_1 _) ?_
  refine j_mem (congrArg eM eσ2) ?_
  refine j_aload_n 0 dX11_draw_22 rfl rfl ?_
  refine j_get (ci := 10) 36 (.int (gI σ2 1 36)) jC_10 dX11_draw_23 kg_RX11_318 rfl (okM_1 _) (shM_1 _) (fvM_1_36 _) ?_
  refine j_ldcw (v := 65536) kk_RX11_327 dX11_draw_26 ?_
  refine j_idiv dX11_draw_29 (by decide) ?_
  refine j_iload_n 1 dX11_draw_30 rfl rfl ?_
  replace h := bG_inv h
  obtain ⟨hz3, h⟩ := h
  refine j_irem dX11_draw_31 (bne_zero hz3) ?_
  replace h := Option.some.inj h
  subst h
  obtain ⟨hr1, hr2⟩ := hr _ _ hK
  exact j_iret dX11_draw_32 hr1 hr2
theorem c_X11_draw (g : Bool) {σ : jS} {x1 : Int32} {r : Int32} {σ2 : jS} (h : f_X11_draw σ x1 = some (r, σ2)) : Cn yX11_draw cX11_draw 2 (some .int) 1 g [.ref 1, .int x1] (eM σ) (some (.int r)) (eM σ2) :=
  Cn_of (by decide) (Nat.le_refl _) (Nat.le_refl _) (Nat.le_of_ble_eq_true rfl) (f_X11_draw_ok (Kp := (fun o => o = (r, σ2))) σ x1 ⟨jbr _, jbr _⟩ (fun r2 s2 q => by cases q; exact ⟨rfl, rfl⟩) _ h rfl)
