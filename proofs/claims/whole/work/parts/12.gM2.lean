def f_X11_drawn_J37 (σ : jS) (x1 : Int32) (x3 : Int32) (y0 : Int32) (y1 : Int32) : Option ((Int32 × Int32 × jS) ⊕ (Int32 × jS)) :=
  bV (y1 - y0) fun v6 =>
  bV (x3 + 1) fun v7 =>
  some (.inl (v6, v7, σ))
set_option maxHeartbeats 1000000 in
set_option maxRecDepth 20000 in
theorem f_X11_drawn_J37_ok {g : Bool} {rv : Option Value} {μ' : jM} (σ : jS) (x1 : Int32) (x3 : Int32) (y0 : Int32) (y1 : Int32) {Kp : ((Int32 × Int32 × jS) ⊕ (Int32 × jS)) → Prop} (hn : Nat.ble nM μ'.1 = true ∧ Nat.ble wM μ'.2.1 = true) (hr : ∀ (r : Int32) (s : jS), Kp (.inr ((r, s))) → rv = some (.int r) ∧ μ' = eM s) (hc0 : ∀ s : (Int32 × Int32 × jS), Kp (.inl s) → J yX11_drawn cX11_drawn 4 (some .int) 2 g rv μ' 11 [(1, .int x1), (2, .int s.1), (3, .int s.2.1)] [] (eM s.2.2)) (o : ((Int32 × Int32 × jS) ⊕ (Int32 × jS))) (h : f_X11_drawn_J37 σ x1 x3 y0 y1 = some o) (hK : Kp o) : J yX11_drawn cX11_drawn 4 (some .int) 2 g rv μ' 37 [(1, .int x1), (3, .int x3)] [.int y0, .int y1] (eM σ) := by
  unfold f_X11_drawn_J37 at h
  refine j_isub dX11_drawn_37 ?_
  replace h := bV_inv h
  obtain ⟨v8, ev8, h⟩ := h
  refine j_nmi ev8 ?_
  refine j_istore_n [(2, .int v8), (1, .int x1), (3, .int x3)] dX11_drawn_38 rfl (Nat.le_of_ble_eq_true rfl) rfl ?_
  replace h := bV_inv h
  obtain ⟨v9, ev9, h⟩ := h
  refine j_iinc (v := v9) [(3, .int v9), (2, .int v8), (1, .int x1)] 2 dX11_drawn_39 rfl (by rw [ev9]; rfl) (Nat.le_of_ble_eq_true rfl) rfl ?_
  refine j_goto 11 dX11_drawn_42 (by decide) ?_
  replace h := Option.some.inj h
  subst h
  refine j_sub [(1, .int x1), (2, .int v8), (3, .int v9)] [2, 1, 0] rfl ?_
  exact hc0 _ hK
def f_X11_drawn_J23 (σ : jS) (x1 : Int32) (x2 : Int32) (x3 : Int32) : Option ((Int32 × Int32 × jS) ⊕ (Int32 × jS)) :=
  bC (f_X11_has x1 x3) fun r5 =>
  if r5 = 0 then (f_X11_drawn_J37 σ x1 x3 0 x2)
  else (f_X11_drawn_J37 σ x1 x3 1 x2)
set_option maxHeartbeats 1000000 in
set_option maxRecDepth 20000 in
theorem f_X11_drawn_J23_ok {g : Bool} {rv : Option Value} {μ' : jM} (σ : jS) (x1 : Int32) (x2 : Int32) (x3 : Int32) {Kp : ((Int32 × Int32 × jS) ⊕ (Int32 × jS)) → Prop} (hn : Nat.ble nM μ'.1 = true ∧ Nat.ble wM μ'.2.1 = true) (hr : ∀ (r : Int32) (s : jS), Kp (.inr ((r, s))) → rv = some (.int r) ∧ μ' = eM s) (hc0 : ∀ s : (Int32 × Int32 × jS), Kp (.inl s) → J yX11_drawn cX11_drawn 4 (some .int) 2 g rv μ' 11 [(1, .int x1), (2, .int s.1), (3, .int s.2.1)] [] (eM s.2.2)) (o : ((Int32 × Int32 × jS) ⊕ (Int32 × jS))) (h : f_X11_drawn_J23 σ x1 x2 x3 = some o) (hK : Kp o) : J yX11_drawn cX11_drawn 4 (some .int) 2 g rv μ' 23 [(1, .int x1), (2, .int x2), (3, .int x3)] [] (eM σ) := by
  unfold f_X11_drawn_J23 at h
  refine j_iload_n 1 dX11_drawn_23 rfl rfl ?_
  refine j_iload_n 0 dX11_drawn_24 rfl rfl ?_
  refine j_iload_n 2 dX11_drawn_25 rfl rfl ?_
  replace h := bC_inv h
  obtain ⟨r10, cr10, h⟩ := h
  refine j_callS (st1 := .int r10 :: _) (c_X11_has g _ cr10) jy_X11_has kt_yX11_has kl_RX11_287 dX11_drawn_26 rfl rfl rfl rfl (jbr _) (jbr _) hn.1 hn.2 (Or.inr rfl) rfl ?_
  refine j_if_eq 36 dX11_drawn_29 (by decide) (fun hc11 => ?_) (fun hc11 => ?_)
  · replace h := jif_t hc11 h
    refine j_iconst (v := 0) dX11_drawn_36 (by decide) ?_
    refine j_sub [(1, .int x1), (3, .int x3)] [0, 2] rfl ?_
    exact f_X11_drawn_J37_ok σ x1 x3 0 x2 hn hr hc0 _ h hK
  · replace h := jif_f hc11 h
    refine j_iconst (v := 1) dX11_drawn_32 (by decide) ?_
    refine j_goto 37 dX11_drawn_33 (by decide) ?_
    refine j_sub [(1, .int x1), (3, .int x3)] [0, 2] rfl ?_
    exact f_X11_drawn_J37_ok σ x1 x3 1 x2 hn hr hc0 _ h hK
def f_X11_drawn_J45 (σ : jS) (x3 : Int32) : Option (Int32 × jS) :=
  some ((x3, σ))
set_option maxHeartbeats 1000000 in
set_option maxRecDepth 20000 in
theorem f_X11_drawn_J45_ok {g : Bool} {rv : Option Value} {μ' : jM} (σ : jS) (x3 : Int32) {Kp : (Int32 × jS) → Prop} (hn : Nat.ble nM μ'.1 = true ∧ Nat.ble wM μ'.2.1 = true) (hr : ∀ (r : Int32) (s : jS), Kp ((r, s)) → rv = some (.int r) ∧ μ' = eM s) (o : (Int32 × jS)) (h : f_X11_drawn_J45 σ x3 = some o) (hK : Kp o) : J yX11_drawn cX11_drawn 4 (some .int) 2 g rv μ' 45 [(3, .int x3)] [] (eM σ) := by
  unfold f_X11_drawn_J45 at h
  refine j_iload_n 0 dX11_drawn_45 rfl rfl ?_
  replace h := Option.some.inj h
  subst h
  obtain ⟨hr1, hr2⟩ := hr _ _ hK
  exact j_iret dX11_drawn_46 hr1 hr2
def f_X11_drawn_B11 (σ : jS) (x1 : Int32) (x2 : Int32) (x3 : Int32) : Option ((Int32 × Int32 × jS) ⊕ (Int32 × jS)) :=
  bC (f_X11_has x1 x3) fun r4 =>
  if r4 = 0 then (f_X11_drawn_J23 σ x1 x2 x3)
  else (if x2 ≤ 0 then (jw (f_X11_drawn_J45 σ x3))
  else (f_X11_drawn_J23 σ x1 x2 x3))
set_option maxHeartbeats 1000000 in
set_option maxRecDepth 20000 in
theorem f_X11_drawn_B11_ok {g : Bool} {rv : Option Value} {μ' : jM} (σ : jS) (x1 : Int32) (x2 : Int32) (x3 : Int32) {Kp : ((Int32 × Int32 × jS) ⊕ (Int32 × jS)) → Prop} (hn : Nat.ble nM μ'.1 = true ∧ Nat.ble wM μ'.2.1 = true) (hr : ∀ (r : Int32) (s : jS), Kp (.inr ((r, s))) → rv = some (.int r) ∧ μ' = eM s) (hc0 : ∀ s : (Int32 × Int32 × jS), Kp (.inl s) → J yX11_drawn cX11_drawn 4 (some .int) 2 g rv μ' 11 [(1, .int x1), (2, .int s.1), (3, .int s.2.1)] [] (eM s.2.2)) (o : ((Int32 × Int32 × jS) ⊕ (Int32 × jS))) (h : f_X11_drawn_B11 σ x1 x2 x3 = some o) (hK : Kp o) : J yX11_drawn cX11_drawn 4 (some .int) 2 g rv μ' 11 [(1, .int x1), (2, .int x2), (3, .int x3)] [] (eM σ) := by
  unfold f_X11_drawn_B11 at h
  refine j_iload_n 0 dX11_drawn_11 rfl rfl ?_
  refine j_iload_n 2 dX11_drawn_12 rfl rfl ?_
  replace h := bC_inv h
  obtain ⟨r12, cr12, h⟩ := h
  refine j_callS (st1 := .int r12 :: _) (c_X11_has g _ cr12) jy_X11_has kt_yX11_has kl_RX11_287 dX11_drawn_13 rfl rfl rfl rfl (jbr _) (jbr _) hn.1 hn.2 (Or.inr rfl) rfl ?_
  refine j_if_eq 23 dX11_drawn_16 (by decide) (fun hc13 => ?_) (fun hc13 => ?_)
  · replace h := jif_t hc13 h
    exact f_X11_drawn_J23_ok σ x1 x2 x3 hn hr hc0 _ h hK
  · replace h := jif_f hc13 h
    refine j_iload_n 1 dX11_drawn_19 rfl rfl ?_
    refine j_if_le 45 dX11_drawn_20 (by decide) (fun hc14 => ?_) (fun hc14 => ?_)
    · replace h := jif_t hc14 h
      replace h := jw_inv h
      obtain ⟨o15, rfl, h⟩ := h
      refine j_sub [(3, .int x3)] [2] rfl ?_
      exact f_X11_drawn_J45_ok (Kp := fun o => Kp (.inr (o))) σ x3 hn (fun r s q => hr r s q) _ h hK
    · replace h := jif_f hc14 h
      exact f_X11_drawn_J23_ok σ x1 x2 x3 hn hr hc0 _ h hK
def f_X11_drawn (σ : jS) (x1 : Int32) : Option (Int32 × jS) :=
  bC (f_X11_bits x1) fun r1 =>
  bD (f_X11_draw σ r1) fun r2 σ3 =>
  jloop jFuel (fun s => f_X11_drawn_B11 s.2.2 x1 s.1 s.2.1) (r2, 0, σ3)
set_option maxHeartbeats 1000000 in
set_option maxRecDepth 20000 in
theorem f_X11_drawn_ok {g : Bool} {rv : Option Value} {μ' : jM} (σ : jS) (x1 : Int32) {Kp : (Int32 × jS) → Prop} (hn : Nat.ble nM μ'.1 = true ∧ Nat.ble wM μ'.2.1 = true) (hr : ∀ (r : Int32) (s : jS), Kp ((r, s)) → rv = some (.int r) ∧ μ' = eM s) (o : (Int32 × jS)) (h : f_X11_drawn σ x1 = some o) (hK : Kp o) : J yX11_drawn cX11_drawn 4 (some .int) 2 g rv μ' 0 [(0, .ref 1), (1, .int x1)] [] (eM σ) := by
  unfold f_X11_drawn at h
  refine j_aload_n 0 dX11_drawn_0 rfl rfl ?_
  refine j_iload_n 1 dX11_drawn_1 rfl rfl ?_
  replace h := bC_inv h
  obtain ⟨r16, cr16, h⟩ := h
  refine j_callS (st1 := .int r16 :: _) (c_X11_bits g _ cr16) jy_X11_bits kt_yX11_bits kl_RX11_328 dX11_drawn_2 rfl rfl rfl rfl (jbr _) (jbr _) hn.1 hn.2 (Or.inr rfl) rfl ?_
  replace h := bD_inv h
  obtain ⟨r17, σ18, cr17, h⟩ := h
  refine j_callV (ci := 10) (st1 := .int r17 :: _) (c_X11_draw g cr17) jy_X11_draw ki_yX11_draw ks_yX11_draw kl_RX11_331 dX11_drawn_5 rfl (okM_1 _) (shM_1 _) rfl rfl rfl rfl (jbr _) (jbr _) hn.1 hn.2 (Or.inr rfl) rfl ?_
  refine j_istore_n [(2, .int r17), (0, .ref 1), (1, .int x1)] dX11_drawn_8 rfl (Nat.le_of_ble_eq_true rfl) rfl ?_
  refine j_iconst (v := 0) dX11_drawn_9 (by decide) ?_
  refine j_istore_n [(3, .int 0), (2, .int r17), (0, .ref 1), (1, .int x1)] dX11_drawn_10 rfl (Nat.le_of_ble_eq_true rfl) rfl ?_
  refine j_sub [(1, .int x1), (2, .int r17), (3, .int 0)] [3, 1, 0] rfl ?_
  exact jloop_ok (fun s => f_X11_drawn_B11 s.2.2 x1 s.1 s.2.1) (fun s => J yX11_drawn cX11_drawn 4 (some .int) 2 g rv μ' 11 [(1, .int x1), (2, .int s.1), (3, .int s.2.1)] [] (eM s.2.2)) Kp (fun s o hb hk => f_X11_drawn_B11_ok (Kp := jsum (fun s => J yX11_drawn cX11_drawn 4 (some .int) 2 g rv μ' 11 [(1, .int x1), (2, .int s.1), (3, .int s.2.1)] [] (eM s.2.2)) Kp) s.2.2 x1 s.1 s.2.1 hn (fun r s q => hr r s q) (fun s q => q) o hb hk) jFuel _ _ h hK
theorem c_X11_drawn (g : Bool) {σ : jS} {x1 : Int32} {r : Int32} {σ2 : jS} (h : f_X11_drawn σ x1 = some (r, σ2)) : Cn yX11_drawn cX11_drawn 4 (some .int) 2 g [.ref 1, .int x1] (eM σ) (some (.int r)) (eM σ2) :=
  Cn_of (by decide) (Nat.le_refl _) (Nat.le_refl _) (Nat.le_of_ble_eq_true rfl) (f_X11_drawn_ok (Kp := (fun o => o = (r, σ2))) σ x1 ⟨jbr _, jbr _⟩ (fun r2 s2 q => by cases q; exact ⟨rfl, rfl⟩) _ h rfl)
def f_X11_handOn_J32 (σ : jS) (x1 : Int32) (y0 : Int32) : Option (Int32 × jS) :=
  bG (jin x1 4) (
  bC (f_X11_behind σ (gI σ 9 (ix x1)) y0) fun r2 =>
  bG (jin x1 4) (
  bV (sI σ 9 (ix x1) r2) fun σ3 =>
  bG (jin x1 4) (
  bG (jin x1 4) (
  bV (sI σ3 10 (ix x1) ((gI σ3 10 (ix x1)) + (1 : Int32))) fun σ4 =>
  some ((y0, σ4))))))
set_option maxHeartbeats 1000000 in
set_option maxRecDepth 20000 in
theorem f_X11_handOn_J32_ok {g : Bool} {rv : Option Value} {μ' : jM} (σ : jS) (x1 : Int32) (y0 : Int32) {Kp : (Int32 × jS) → Prop} (hn : Nat.ble nM μ'.1 = true ∧ Nat.ble wM μ'.2.1 = true) (hr : ∀ (r : Int32) (s : jS), Kp ((r, s)) → rv = some (.int r) ∧ μ' = eM s) (o : (Int32 × jS)) (h : f_X11_handOn_J32 σ x1 y0 = some o) (hK : Kp o) : J yX11_handOn cX11_handOn 5 (some .int) 6 g rv μ' 32 [(0, .ref 1), (1, .int x1)] [.int y0] (eM σ) := by
  unfold f_X11_handOn_J32 at h
  refine j_istore [(4, .int y0), (0, .ref 1), (1, .int x1)] dX11_handOn_32 (Nat.le_of_ble_eq_true rfl) rfl ?_
  refine j_aload_n 1 dX11_handOn_34 rfl rfl ?_
  refine j_get (ci := 10) 11 (.ref 9) jC_10 dX11_handOn_35 kg_RX11_31 rfl (okM_1 _) (shM_1 _) (fvM_1_11 _) ?_
  refine j_iload_n 2 dX11_handOn_38 rfl rfl ?_
  refine j_aload_n 1 dX11_handOn_39 rfl rfl ?_
  refine j_aload_n 1 dX11_handOn_40 rfl rfl ?_
  refine j_get (ci := 10) 11 (.ref 9) jC_10 dX11_handOn_41 kg_RX11_31 rfl (okM_1 _) (shM_1 _) (fvM_1_11 _) ?_
  refine j_iload_n 2 dX11_handOn_44 rfl rfl ?_
  replace h := bG_inv h
  obtain ⟨hi5, h⟩ := h
  refine j_iaload dX11_handOn_45 (okM_9 _) (shM_9 _) (jin_spec hi5) ?_
  refine j_iload 0 dX11_handOn_46 rfl ?_
  replace h := bC_inv h
  obtain ⟨r6, cr6, h⟩ := h
  refine j_callV (ci := 10) (st1 := .int r6 :: _) (c_X11_behind g cr6) jy_X11_behind ki_yX11_behind ks_yX11_behind kl_RX11_337 dX11_handOn_48 rfl (okM_1 _) (shM_1 _) rfl rfl rfl rfl (jbr _) (jbr _) hn.1 hn.2 (Or.inr rfl) rfl ?_
  replace h := bG_inv h
  obtain ⟨hi7, h⟩ := h
  refine j_iastore dX11_handOn_51 (okM_9 _) (shM_9 _) (jin_spec hi7) ?_
  replace h := bV_inv h
  obtain ⟨σ8, eσ8, h⟩ := h
  refine j_mem (congrArg eM eσ8) ?_
  refine j_aload_n 1 dX11_handOn_52 rfl rfl ?_
  refine j_get (ci := 10) 12 (.ref 10) jC_10 dX11_handOn_53 kg_RX11_34 rfl (okM_1 _) (shM_1 _) (fvM_1_12 _) ?_
  refine j_iload_n 2 dX11_handOn_56 rfl rfl ?_
  refine j_dup2 dX11_handOn_57 rfl rfl ?_
  replace h := bG_inv h
  obtain ⟨hi9, h⟩ := h
  refine j_iaload dX11_handOn_58 (okM_10 _) (shM_10 _) (jin_spec hi9) ?_
  refine j_iconst (v := 1) dX11_handOn_59 (by decide) ?_
  refine j_iadd dX11_handOn_60 ?_
  replace h := bG_inv h
  obtain ⟨hi10, h⟩ := h
  refine j_iastore dX11_handOn_61 (okM_10 _) (shM_10 _) (jin_spec hi10) ?_
  replace h := bV_inv h
  obtain ⟨σ11, eσ11, h⟩ := h
  refine j_mem (congrArg eM eσ11) ?_
  refine j_iload 0 dX11_handOn_62 rfl ?_
  replace h := Option.some.inj h
  subst h
  obtain ⟨hr1, hr2⟩ := hr _ _ hK
  exact j_iret dX11_handOn_64 hr1 hr2
def f_X11_handOn (σ : jS) (x1 : Int32) (x2 : Int32) : Option (Int32 × jS) :=
  bG (jin x1 4) (
  bC (f_X11_mayNow σ (gI σ 9 (ix x1))) fun r1 =>
  if r1 = 0 then (f_X11_handOn_J32 σ x1 (-1))
  else (if 0 ≤ x2 then (f_X11_handOn_J32 σ x1 x2)
  else (bD (f_X11_drawn σ r1) fun r12 σ13 =>
  f_X11_handOn_J32 σ13 x1 r12)))
set_option maxHeartbeats 1000000 in
set_option maxRecDepth 20000 in
theorem f_X11_handOn_ok {g : Bool} {rv : Option Value} {μ' : jM} (σ : jS) (x1 : Int32) (x2 : Int32) {Kp : (Int32 × jS) → Prop} (hn : Nat.ble nM μ'.1 = true ∧ Nat.ble wM μ'.2.1 = true) (hr : ∀ (r : Int32) (s : jS), Kp ((r, s)) → rv = some (.int r) ∧ μ' = eM s) (o : (Int32 × jS)) (h : f_X11_handOn σ x1 x2 = some o) (hK : Kp o) : J yX11_handOn cX11_handOn 5 (some .int) 6 g rv μ' 0 [(0, .ref 1), (1, .int x1), (2, .int x2)] [] (eM σ) := by
  unfold f_X11_handOn at h
  refine j_aload_n 0 dX11_handOn_0 rfl rfl ?_
  refine j_aload_n 0 dX11_handOn_1 rfl rfl ?_
  refine j_get (ci := 10) 11 (.ref 9) jC_10 dX11_handOn_2 kg_RX11_31 rfl (okM_1 _) (shM_1 _) (fvM_1_11 _) ?_
  refine j_iload_n 1 dX11_handOn_5 rfl rfl ?_
  replace h := bG_inv h
  obtain ⟨hi14, h⟩ := h
  refine j_iaload dX11_handOn_6 (okM_9 _) (shM_9 _) (jin_spec hi14) ?_
  replace h := bC_inv h
  obtain ⟨r15, cr15, h⟩ := h
  refine j_callV (ci := 10) (st1 := .int r15 :: _) (c_X11_mayNow g cr15) jy_X11_mayNow ki_yX11_mayNow ks_yX11_mayNow kl_RX11_315 dX11_handOn_7 rfl (okM_1 _) (shM_1 _) rfl rfl rfl rfl (jbr _) (jbr _) hn.1 hn.2 (Or.inr rfl) rfl ?_
  refine j_istore_n [(3, .int r15), (0, .ref 1), (1, .int x1), (2, .int x2)] dX11_handOn_10 rfl (Nat.le_of_ble_eq_true rfl) rfl ?_
  refine j_iload_n 0 dX11_handOn_11 rfl rfl ?_
  refine j_if_ne 19 dX11_handOn_12 (by decide) (fun hc16 => ?_) (fun hc16 => ?_)
  · replace h := jif_f hc16 h
    refine j_iload_n 3 dX11_handOn_19 rfl rfl ?_
    refine j_if_ge 31 dX11_handOn_20 (by decide) (fun hc17 => ?_) (fun hc17 => ?_)
    · replace h := jif_t hc17 h
      refine j_iload_n 3 dX11_handOn_31 rfl rfl ?_
      refine j_sub [(0, .ref 1), (1, .int x1)] [1, 2] rfl ?_
      exact f_X11_handOn_J32_ok σ x1 x2 hn hr _ h hK
    · replace h := jif_f hc17 h
      refine j_aload_n 1 dX11_handOn_23 rfl rfl ?_
      refine j_iload_n 0 dX11_handOn_24 rfl rfl ?_
      replace h := bD_inv h
      obtain ⟨r18, σ19, cr18, h⟩ := h
      refine j_callV (ci := 10) (st1 := .int r18 :: _) (c_X11_drawn g cr18) jy_X11_drawn ki_yX11_drawn ks_yX11_drawn kl_RX11_334 dX11_handOn_25 rfl (okM_1 _) (shM_1 _) rfl rfl rfl rfl (jbr _) (jbr _) hn.1 hn.2 (Or.inr rfl) rfl ?_
      refine j_goto 32 dX11_handOn_28 (by decide) ?_
      refine j_sub [(0, .ref 1), (1, .int x1)] [1, 2] rfl ?_
      exact f_X11_handOn_J32_ok σ19 x1 r18 hn hr _ h hK
  · replace h := jif_t hc16 h
    refine j_iconst (v := (-1)) dX11_handOn_15 (by decide) ?_
    refine j_goto 32 dX11_handOn_16 (by decide) ?_
    refine j_sub [(0, .ref 1), (1, .int x1)] [1, 2] rfl ?_
    exact f_X11_handOn_J32_ok σ x1 (-1) hn hr _ h hK
theorem c_X11_handOn (g : Bool) {σ : jS} {x1 : Int32} {x2 : Int32} {r : Int32} {σ2 : jS} (h : f_X11_handOn σ x1 x2 = some (r, σ2)) : Cn yX11_handOn cX11_handOn 5 (some .int) 6 g [.ref 1, .int x1, .int x2] (eM σ) (some (.int r)) (eM σ2) :=
  Cn_of (by decide) (Nat.le_refl _) (Nat.le_refl _) (Nat.le_of_ble_eq_true rfl) (f_X11_handOn_ok (Kp := (fun o => o = (r, σ2))) σ x1 x2 ⟨jbr _, jbr _⟩ (fun r2 s2 q => by cases q; exact ⟨rfl, rfl⟩) _ h rfl)
def f_X11_hand_J21 (σ : jS) : Option (Int32 × jS) :=
  some (((-1001), σ))
set_option maxHeartbeats 1000000 in
set_option maxRecDepth 20000 in
theorem f_X11_hand_J21_ok {g : Bool} {rv : Option Value} {μ' : jM} (σ : jS) {Kp : (Int32 × jS) → Prop} (hn : Nat.ble nM μ'.1 = true ∧ Nat.ble wM μ'.2.1 = true) (hr : ∀ (r : Int32) (s : jS), Kp ((r, s)) → rv = some (.int r) ∧ μ' = eM s) (o : (Int32 × jS)) (h : f_X11_hand_J21 σ = some o) (hK : Kp o) : J yX11_hand cX11_hand 3 (some .int) 7 g rv μ' 21 [] [] (eM σ) := by
  unfold f_X11_hand_J21 at h
  refine j_sipush (v := (-1001)) dX11_hand_21 (by decide) ?_
  replace h := Option.some.inj h
  subst h
  obtain ⟨hr1, hr2⟩ := hr _ _ hK
  exact j_iret dX11_hand_24 hr1 hr2
def f_X11_hand_J60 (σ : jS) : Option (Int32 × jS) :=
  some (((-1003), σ))
set_option maxHeartbeats 1000000 in
set_option maxRecDepth 20000 in
theorem f_X11_hand_J60_ok {g : Bool} {rv : Option Value} {μ' : jM} (σ : jS) {Kp : (Int32 × jS) → Prop} (hn : Nat.ble nM μ'.1 = true ∧ Nat.ble wM μ'.2.1 = true) (hr : ∀ (r : Int32) (s : jS), Kp ((r, s)) → rv = some (.int r) ∧ μ' = eM s) (o : (Int32 × jS)) (h : f_X11_hand_J60 σ = some o) (hK : Kp o) : J yX11_hand cX11_hand 3 (some .int) 7 g rv μ' 60 [] [] (eM σ) := by
  unfold f_X11_hand_J60 at h
  refine j_sipush (v := (-1003)) dX11_hand_60 (by decide) ?_
  replace h := Option.some.inj h
  subst h
  obtain ⟨hr1, hr2⟩ := hr _ _ hK
  exact j_iret dX11_hand_63 hr1 hr2
def f_X11_hand_J64 (σ : jS) (x1 : Int32) (x2 : Int32) : Option (Int32 × jS) :=
  bD (f_X11_handOn σ x1 x2) fun r3 σ4 =>
  some ((r3, σ4))
set_option maxHeartbeats 1000000 in
set_option maxRecDepth 20000 in
theorem f_X11_hand_J64_ok {g : Bool} {rv : Option Value} {μ' : jM} (σ : jS) (x1 : Int32) (x2 : Int32) {Kp : (Int32 × jS) → Prop} (hn : Nat.ble nM μ'.1 = true ∧ Nat.ble wM μ'.2.1 = true) (hr : ∀ (r : Int32) (s : jS), Kp ((r, s)) → rv = some (.int r) ∧ μ' = eM s) (o : (Int32 × jS)) (h : f_X11_hand_J64 σ x1 x2 = some o) (hK : Kp o) : J yX11_hand cX11_hand 3 (some .int) 7 g rv μ' 64 [(0, .ref 1), (1, .int x1), (2, .int x2)] [] (eM σ) := by
  unfold f_X11_hand_J64 at h
  refine j_aload_n 0 dX11_hand_64 rfl rfl ?_
  refine j_iload_n 1 dX11_hand_65 rfl rfl ?_
  refine j_iload_n 2 dX11_hand_66 rfl rfl ?_
  replace h := bD_inv h
  obtain ⟨r5, σ6, cr5, h⟩ := h
  refine j_callV (ci := 10) (st1 := .int r5 :: _) (c_X11_handOn g cr5) jy_X11_handOn ki_yX11_handOn ks_yX11_handOn kl_RX11_340 dX11_hand_67 rfl (okM_1 _) (shM_1 _) rfl rfl rfl rfl (jbr _) (jbr _) hn.1 hn.2 (Or.inr rfl) rfl ?_
  replace h := Option.some.inj h
  subst h
  obtain ⟨hr1, hr2⟩ := hr _ _ hK
  exact j_iret dX11_hand_70 hr1 hr2
def f_X11_hand_J25 (σ : jS) (x1 : Int32) (x2 : Int32) : Option (Int32 × jS) :=
  bG (jin x1 4) (
  bC (f_X11_stateOf σ (gI σ 9 (ix x1))) fun r2 =>
  if r2 = 0 then (if x2 = (-1) then (f_X11_hand_J64 σ x1 x2)
  else (bG (jin x1 4) (
  bC (f_X11_mayNow σ (gI σ 9 (ix x1))) fun r7 =>
  bC (f_X11_has r7 x2) fun r8 =>
  if r8 = 0 then (f_X11_hand_J60 σ)
  else (f_X11_hand_J64 σ x1 x2))))
  else (f_X11_hand_J60 σ))
set_option maxHeartbeats 1000000 in
set_option maxRecDepth 20000 in
theorem f_X11_hand_J25_ok {g : Bool} {rv : Option Value} {μ' : jM} (σ : jS) (x1 : Int32) (x2 : Int32) {Kp : (Int32 × jS) → Prop} (hn : Nat.ble nM μ'.1 = true ∧ Nat.ble wM μ'.2.1 = true) (hr : ∀ (r : Int32) (s : jS), Kp ((r, s)) → rv = some (.int r) ∧ μ' = eM s) (o : (Int32 × jS)) (h : f_X11_hand_J25 σ x1 x2 = some o) (hK : Kp o) : J yX11_hand cX11_hand 3 (some .int) 7 g rv μ' 25 [(0, .ref 1), (1, .int x1), (2, .int x2)] [] (eM σ) := by
  unfold f_X11_hand_J25 at h
  refine j_aload_n 0 dX11_hand_25 rfl rfl ?_
  refine j_aload_n 0 dX11_hand_26 rfl rfl ?_
  refine j_get (ci := 10) 11 (.ref 9) jC_10 dX11_hand_27 kg_RX11_31 rfl (okM_1 _) (shM_1 _) (fvM_1_11 _) ?_
  refine j_iload_n 1 dX11_hand_30 rfl rfl ?_
  replace h := bG_inv h
  obtain ⟨hi9, h⟩ := h
  refine j_iaload dX11_hand_31 (okM_9 _) (shM_9 _) (jin_spec hi9) ?_
  replace h := bC_inv h
  obtain ⟨r10, cr10, h⟩ := h
  refine j_callV (ci := 10) (st1 := .int r10 :: _) (c_X11_stateOf g cr10) jy_X11_stateOf ki_yX11_stateOf ks_yX11_stateOf kl_RX11_312 dX11_hand_32 rfl (okM_1 _) (shM_1 _) rfl rfl rfl rfl (jbr _) (jbr _) hn.1 hn.2 (Or.inr rfl) rfl ?_
  refine j_if_ne 60 dX11_hand_35 (by decide) (fun hc11 => ?_) (fun hc11 => ?_)
  · replace h := jif_f hc11 h
    refine j_sub [] [] rfl ?_
    exact f_X11_hand_J60_ok σ hn hr _ h hK
  · replace h := jif_t hc11 h
    refine j_iload_n 2 dX11_hand_38 rfl rfl ?_
    refine j_iconst (v := (-1)) dX11_hand_39 (by decide) ?_
    refine j_icmp_eq 64 dX11_hand_40 (by decide) (fun hc12 => ?_) (fun hc12 => ?_)
    · replace h := jif_t hc12 h
      exact f_X11_hand_J64_ok σ x1 x2 hn hr _ h hK
    · replace h := jif_f hc12 h
      refine j_aload_n 0 dX11_hand_43 rfl rfl ?_
      refine j_aload_n 0 dX11_hand_44 rfl rfl ?_
      refine j_get (ci := 10) 11 (.ref 9) jC_10 dX11_hand_45 kg_RX11_31 rfl (okM_1 _) (shM_1 _) (fvM_1_11 _) ?_
      refine j_iload_n 1 dX11_hand_48 rfl rfl ?_
      replace h := bG_inv h
      obtain ⟨hi13, h⟩ := h
      refine j_iaload dX11_hand_49 (okM_9 _) (shM_9 _) (jin_spec hi13) ?_
      replace h := bC_inv h
      obtain ⟨r14, cr14, h⟩ := h
      refine j_callV (ci := 10) (st1 := .int r14 :: _) (c_X11_mayNow g cr14) jy_X11_mayNow ki_yX11_mayNow ks_yX11_mayNow kl_RX11_315 dX11_hand_50 rfl (okM_1 _) (shM_1 _) rfl rfl rfl rfl (jbr _) (jbr _) hn.1 hn.2 (Or.inr rfl) rfl ?_
      refine j_iload_n 2 dX11_hand_53 rfl rfl ?_
      replace h := bC_inv h
      obtain ⟨r15, cr15, h⟩ := h
      refine j_callS (st1 := .int r15 :: _) (c_X11_has g _ cr15) jy_X11_has kt_yX11_has kl_RX11_287 dX11_hand_54 rfl rfl rfl rfl (jbr _) (jbr _) hn.1 hn.2 (Or.inr rfl) rfl ?_
      refine j_if_ne 64 dX11_hand_57 (by decide) (fun hc16 => ?_) (fun hc16 => ?_)
      · replace h := jif_f hc16 h
        exact f_X11_hand_J64_ok σ x1 x2 hn hr _ h hK
      · replace h := jif_t hc16 h
        refine j_sub [] [] rfl ?_
        exact f_X11_hand_J60_ok σ hn hr _ h hK
def f_X11_hand (σ : jS) (x1 : Int32) (x2 : Int32) : Option (Int32 × jS) :=
  bC (f_X11_isQuarrel σ x1) fun r1 =>
  if r1 = 0 then (f_X11_hand_J21 σ)
  else (if x2 = (-1) then (f_X11_hand_J25 σ x1 x2)
  else (bC (f_X11_isPerson σ x2) fun r17 =>
  if r17 = 0 then (f_X11_hand_J21 σ)
  else (f_X11_hand_J25 σ x1 x2)))
set_option maxHeartbeats 1000000 in
set_option maxRecDepth 20000 in
theorem f_X11_hand_ok {g : Bool} {rv : Option Value} {μ' : jM} (σ : jS) (x1 : Int32) (x2 : Int32) {Kp : (Int32 × jS) → Prop} (hn : Nat.ble nM μ'.1 = true ∧ Nat.ble wM μ'.2.1 = true) (hr : ∀ (r : Int32) (s : jS), Kp ((r, s)) → rv = some (.int r) ∧ μ' = eM s) (o : (Int32 × jS)) (h : f_X11_hand σ x1 x2 = some o) (hK : Kp o) : J yX11_hand cX11_hand 3 (some .int) 7 g rv μ' 0 [(0, .ref 1), (1, .int x1), (2, .int x2)] [] (eM σ) := by
  unfold f_X11_hand at h
  refine j_aload_n 0 dX11_hand_0 rfl rfl ?_
  refine j_iload_n 1 dX11_hand_1 rfl rfl ?_
  replace h := bC_inv h
  obtain ⟨r18, cr18, h⟩ := h
  refine j_callV (ci := 10) (st1 := .int r18 :: _) (c_X11_isQuarrel g cr18) jy_X11_isQuarrel ki_yX11_isQuarrel ks_yX11_isQuarrel kl_RX11_309 dX11_hand_2 rfl (okM_1 _) (shM_1 _) rfl rfl rfl rfl (jbr _) (jbr _) hn.1 hn.2 (Or.inr rfl) rfl ?_
  refine j_if_eq 21 dX11_hand_5 (by decide) (fun hc19 => ?_) (fun hc19 => ?_)
  · replace h := jif_t hc19 h
    refine j_sub [] [] rfl ?_
    exact f_X11_hand_J21_ok σ hn hr _ h hK
  · replace h := jif_f hc19 h
    refine j_iload_n 2 dX11_hand_8 rfl rfl ?_
    refine j_iconst (v := (-1)) dX11_hand_9 (by decide) ?_
    refine j_icmp_eq 25 dX11_hand_10 (by decide) (fun hc20 => ?_) (fun hc20 => ?_)
    · replace h := jif_t hc20 h
      exact f_X11_hand_J25_ok σ x1 x2 hn hr _ h hK
    · replace h := jif_f hc20 h
      refine j_aload_n 0 dX11_hand_13 rfl rfl ?_
      refine j_iload_n 2 dX11_hand_14 rfl rfl ?_
      replace h := bC_inv h
      obtain ⟨r21, cr21, h⟩ := h
      refine j_callV (ci := 10) (st1 := .int r21 :: _) (c_X11_isPerson g cr21) jy_X11_isPerson ki_yX11_isPerson ks_yX11_isPerson kl_RX11_255 dX11_hand_15 rfl (okM_1 _) (shM_1 _) rfl rfl rfl rfl (jbr _) (jbr _) hn.1 hn.2 (Or.inr rfl) rfl ?_
      refine j_if_ne 25 dX11_hand_18 (by decide) (fun hc22 => ?_) (fun hc22 => ?_)
      · replace h := jif_f hc22 h
        exact f_X11_hand_J25_ok σ x1 x2 hn hr _ h hK
      · replace h := jif_t hc22 h
        refine j_sub [] [] rfl ?_
        exact f_X11_hand_J21_ok σ hn hr _ h hK
theorem c_X11_hand (g : Bool) {σ : jS} {x1 : Int32} {x2 : Int32} {r : Int32} {σ2 : jS} (h : f_X11_hand σ x1 x2 = some (r, σ2)) : Cn yX11_hand cX11_hand 3 (some .int) 7 g [.ref 1, .int x1, .int x2] (eM σ) (some (.int r)) (eM σ2) :=
  Cn_of (by decide) (Nat.le_refl _) (Nat.le_refl _) (Nat.le_of_ble_eq_true rfl) (f_X11_hand_ok (Kp := (fun o => o = (r, σ2))) σ x1 x2 ⟨jbr _, jbr _⟩ (fun r2 s2 q => by cases q; exact ⟨rfl, rfl⟩) _ h rfl)
def f_X11_begin (σ : jS) (x1 : Int32) : Option (Int32 × jS) :=
  bC (f_X11_isQuarrel σ x1) fun r1 =>
  if r1 = 0 then (some (((-1001), σ)))
  else (bG (jin x1 4) (
  bV (gI σ 10 (ix x1)) fun v2 =>
  bC (f_X11_toldCode σ x1) fun r3 =>
  bG (jin x1 4) (
  bV (sI σ 9 (ix x1) r3) fun σ4 =>
  bG (jin x1 4) (
  bV (sI σ4 10 (ix x1) 0) fun σ5 =>
  some ((v2, σ5))))))
set_option maxHeartbeats 1000000 in
set_option maxRecDepth 20000 in
theorem f_X11_begin_ok {g : Bool} {rv : Option Value} {μ' : jM} (σ : jS) (x1 : Int32) {Kp : (Int32 × jS) → Prop} (hn : Nat.ble nM μ'.1 = true ∧ Nat.ble wM μ'.2.1 = true) (hr : ∀ (r : Int32) (s : jS), Kp ((r, s)) → rv = some (.int r) ∧ μ' = eM s) (o : (Int32 × jS)) (h : f_X11_begin σ x1 = some o) (hK : Kp o) : J yX11_begin cX11_begin 3 (some .int) 3 g rv μ' 0 [(0, .ref 1), (1, .int x1)] [] (eM σ) := by
  unfold f_X11_begin at h
  refine j_aload_n 0 dX11_begin_0 rfl rfl ?_
  refine j_iload_n 1 dX11_begin_1 rfl rfl ?_
  replace h := bC_inv h
  obtain ⟨r6, cr6, h⟩ := h
  refine j_callV (ci := 10) (st1 := .int r6 :: _) (c_X11_isQuarrel g cr6) jy_X11_isQuarrel ki_yX11_isQuarrel ks_yX11_isQuarrel kl_RX11_309 dX11_begin_2 rfl (okM_1 _) (shM_1 _) rfl rfl rfl rfl (jbr _) (jbr _) hn.1 hn.2 (Or.inr rfl) rfl ?_
  refine j_if_ne 12 dX11_begin_5 (by decide) (fun hc7 => ?_) (fun hc7 => ?_)
  · replace h := jif_f hc7 h
    refine j_aload_n 0 dX11_begin_12 rfl rfl ?_
    refine j_get (ci := 10) 12 (.ref 10) jC_10 dX11_begin_13 kg_RX11_34 rfl (okM_1 _) (shM_1 _) (fvM_1_12 _) ?_
    refine j_iload_n 1 dX11_begin_16 rfl rfl ?_
    replace h := bG_inv h
    obtain ⟨hi8, h⟩ := h
    refine j_iaload dX11_begin_17 (okM_10 _) (shM_10 _) (jin_spec hi8) ?_
    replace h := bV_inv h
    obtain ⟨v9, ev9, h⟩ := h
    refine j_nmi ev9 ?_
    refine j_istore_n [(2, .int v9), (0, .ref 1), (1, .int x1)] dX11_begin_18 rfl (Nat.le_of_ble_eq_true rfl) rfl ?_
    refine j_aload_n 1 dX11_begin_19 rfl rfl ?_
    refine j_get (ci := 10) 11 (.ref 9) jC_10 dX11_begin_20 kg_RX11_31 rfl (okM_1 _) (shM_1 _) (fvM_1_11 _) ?_
    refine j_iload_n 2 dX11_begin_23 rfl rfl ?_
    refine j_aload_n 1 dX11_begin_24 rfl rfl ?_
    refine j_iload_n 2 dX11_begin_25 rfl rfl ?_
    replace h := bC_inv h
    obtain ⟨r10, cr10, h⟩ := h
    refine j_callV (ci := 10) (st1 := .int r10 :: _) (c_X11_toldCode g cr10) jy_X11_toldCode ki_yX11_toldCode ks_yX11_toldCode kl_RX11_246 dX11_begin_26 rfl (okM_1 _) (shM_1 _) rfl rfl rfl rfl (jbr _) (jbr _) hn.1 hn.2 (Or.inr rfl) rfl ?_
    replace h := bG_inv h
    obtain ⟨hi11, h⟩ := h
    refine j_iastore dX11_begin_29 (okM_9 _) (shM_9 _) (jin_spec hi11) ?_
    replace h := bV_inv h
    obtain ⟨σ12, eσ12, h⟩ := h
    refine j_mem (congrArg eM eσ12) ?_
    refine j_aload_n 1 dX11_begin_30 rfl rfl ?_
    refine j_get (ci := 10) 12 (.ref 10) jC_10 dX11_begin_31 kg_RX11_34 rfl (okM_1 _) (shM_1 _) (fvM_1_12 _) ?_
    refine j_iload_n 2 dX11_begin_34 rfl rfl ?_
    refine j_iconst (v := 0) dX11_begin_35 (by decide) ?_
    replace h := bG_inv h
    obtain ⟨hi13, h⟩ := h
    refine j_iastore dX11_begin_36 (okM_10 _) (shM_10 _) (jin_spec hi13) ?_
    replace h := bV_inv h
    obtain ⟨σ14, eσ14, h⟩ := h
    refine j_mem (congrArg eM eσ14) ?_
    refine j_iload_n 0 dX11_begin_37 rfl rfl ?_
    replace h := Option.some.inj h
    subst h
    obtain ⟨hr1, hr2⟩ := hr _ _ hK
    exact j_iret dX11_begin_38 hr1 hr2
  · replace h := jif_t hc7 h
    refine j_sipush (v := (-1001)) dX11_begin_8 (by decide) ?_
    replace h := Option.some.inj h
    subst h
    obtain ⟨hr1, hr2⟩ := hr _ _ hK
    exact j_iret dX11_begin_11 hr1 hr2
theorem c_X11_begin (g : Bool) {σ : jS} {x1 : Int32} {r : Int32} {σ2 : jS} (h : f_X11_begin σ x1 = some (r, σ2)) : Cn yX11_begin cX11_begin 3 (some .int) 3 g [.ref 1, .int x1] (eM σ) (some (.int r)) (eM σ2) :=
  Cn_of (by decide) (Nat.le_refl _) (Nat.le_refl _) (Nat.le_of_ble_eq_true rfl) (f_X11_begin_ok (Kp := (fun o => o = (r, σ2))) σ x1 ⟨jbr _, jbr _⟩ (fun r2 s2 q => by cases q; exact ⟨rfl, rfl⟩) _ h rfl)
def f_X11_drift_J62 (σ : jS) (x1 : Int32) : Option (Int32 × jS) :=
  bG (jin x1 4) (
  bC (f_X11_stateOf σ (gI σ 9 (ix x1))) fun r3 =>
  some ((r3, σ)))
set_option maxHeartbeats 1000000 in
set_option maxRecDepth 20000 in
theorem f_X11_drift_J62_ok {g : Bool} {rv : Option Value} {μ' : jM} (σ : jS) (x1 : Int32) {Kp : (Int32 × jS) → Prop} (hn : Nat.ble nM μ'.1 = true ∧ Nat.ble wM μ'.2.1 = true) (hr : ∀ (r : Int32) (s : jS), Kp ((r, s)) → rv = some (.int r) ∧ μ' = eM s) (o : (Int32 × jS)) (h : f_X11_drift_J62 σ x1 = some o) (hK : Kp o) : J yX11_drift cX11_drift 5 (some .int) 7 g rv μ' 62 [(0, .ref 1), (1, .int x1)] [] (eM σ) := by
  unfold f_X11_drift_J62 at h
  refine j_aload_n 0 dX11_drift_62 rfl rfl ?_
  refine j_aload_n 0 dX11_drift_63 rfl rfl ?_
  refine j_get (ci := 10) 11 (.ref 9) jC_10 dX11_drift_64 kg_RX11_31 rfl (okM_1 _) (shM_1 _) (fvM_1_11 _) ?_
  refine j_iload_n 1 dX11_drift_67 rfl rfl ?_
  replace h := bG_inv h
  obtain ⟨hi4, h⟩ := h
  refine j_iaload dX11_drift_68 (okM_9 _) (shM_9 _) (jin_spec hi4) ?_
  replace h := bC_inv h
  obtain ⟨r5, cr5, h⟩ := h
  refine j_callV (ci := 10) (st1 := .int r5 :: _) (c_X11_stateOf g cr5) jy_X11_stateOf ki_yX11_stateOf ks_yX11_stateOf kl_RX11_312 dX11_drift_69 rfl (okM_1 _) (shM_1 _) rfl rfl rfl rfl (jbr _) (jbr _) hn.1 hn.2 (Or.inr rfl) rfl ?_
  replace h := Option.some.inj h
  subst h
  obtain ⟨hr1, hr2⟩ := hr _ _ hK
  exact j_iret dX11_drift_72 hr1 hr2
def f_X11_drift_B30 (σ : jS) (x1 : Int32) (x2 : Int32) (x3 : Int32) : Option ((Int32 × jS) ⊕ (Int32 × jS)) :=
  if x2 ≤ x3 then (jw (f_X11_drift_J62 σ x1))
  else (bG (jin x1 4) (
  bC (f_X11_stateOf σ (gI σ 9 (ix x1))) fun r6 =>
  if r6 = 0 then (bD (f_X11_handOn σ x1 (-1)) fun r7 σ8 =>
  bV (x3 + 1) fun v9 =>
  some (.inl (v9, σ8)))
  else (jw (f_X11_drift_J62 σ x1))))
set_option maxHeartbeats 1000000 in
set_option maxRecDepth 20000 in
theorem f_X11_drift_B30_ok {g : Bool} {rv : Option Value} {μ' : jM} (σ : jS) (x1 : Int32) (x2 : Int32) (x3 : Int32) {Kp : ((Int32 × jS) ⊕ (Int32 × jS)) → Prop} (hn : Nat.ble nM μ'.1 = true ∧ Nat.ble wM μ'.2.1 = true) (hr : ∀ (r : Int32) (s : jS), Kp (.inr ((r, s))) → rv = some (.int r) ∧ μ' = eM s) (hc0 : ∀ s : (Int32 × jS), Kp (.inl s) → J yX11_drift cX11_drift 5 (some .int) 7 g rv μ' 30 [(0, .ref 1), (1, .int x1), (2, .int x2), (3, .int s.1)] [] (eM s.2)) (o : ((Int32 × jS) ⊕ (Int32 × jS))) (h : f_X11_drift_B30 σ x1 x2 x3 = some o) (hK : Kp o) : J yX11_drift cX11_drift 5 (some .int) 7 g rv μ' 30 [(0, .ref 1), (1, .int x1), (2, .int x2), (3, .int x3)] [] (eM σ) := by
  unfold f_X11_drift_B30 at h
  refine j_iload_n 3 dX11_drift_30 rfl rfl ?_
  refine j_iload_n 2 dX11_drift_31 rfl rfl ?_
  refine j_icmp_ge 62 dX11_drift_32 (by decide) (fun hc10 => ?_) (fun hc10 => ?_)
  · replace h := jif_t hc10 h
    replace h := jw_inv h
    obtain ⟨o11, rfl, h⟩ := h
    refine j_sub [(0, .ref 1), (1, .int x1)] [0, 1] rfl ?_
    exact f_X11_drift_J62_ok (Kp := fun o => Kp (.inr (o))) σ x1 hn (fun r s q => hr r s q) _ h hK
  · replace h := jif_f hc10 h
    refine j_aload_n 0 dX11_drift_35 rfl rfl ?_
    refine j_aload_n 0 dX11_drift_36 rfl rfl ?_
    refine j_get (ci := 10) 11 (.ref 9) jC_10 dX11_drift_37 kg_RX11_31 rfl (okM_1 _) (shM_1 _) (fvM_1_11 _) ?_
    refine j_iload_n 1 dX11_drift_40 rfl rfl ?_
    replace h := bG_inv h
    obtain ⟨hi12, h⟩ := h
    refine j_iaload dX11_drift_41 (okM_9 _) (shM_9 _) (jin_spec hi12) ?_
    replace h := bC_inv h
    obtain ⟨r13, cr13, h⟩ := h
    refine j_callV (ci := 10) (st1 := .int r13 :: _) (c_X11_stateOf g cr13) jy_X11_stateOf ki_yX11_stateOf ks_yX11_stateOf kl_RX11_312 dX11_drift_42 rfl (okM_1 _) (shM_1 _) rfl rfl rfl rfl (jbr _) (jbr _) hn.1 hn.2 (Or.inr rfl) rfl ?_
    refine j_if_ne 62 dX11_drift_45 (by decide) (fun hc14 => ?_) (fun hc14 => ?_)
    · replace h := jif_f hc14 h
      replace h := jw_inv h
      obtain ⟨o15, rfl, h⟩ := h
      refine j_sub [(0, .ref 1), (1, .int x1)] [0, 1] rfl ?_
      exact f_X11_drift_J62_ok (Kp := fun o => Kp (.inr (o))) σ x1 hn (fun r s q => hr r s q) _ h hK
    · replace h := jif_t hc14 h
      refine j_aload_n 0 dX11_drift_48 rfl rfl ?_
      refine j_iload_n 1 dX11_drift_49 rfl rfl ?_
      refine j_iconst (v := (-1)) dX11_drift_50 (by decide) ?_
      replace h := bD_inv h
      obtain ⟨r16, σ17, cr16, h⟩ := h
      refine j_callV (ci := 10) (st1 := .int r16 :: _) (c_X11_handOn g cr16) jy_X11_handOn ki_yX11_handOn ks_yX11_handOn kl_RX11_340 dX11_drift_51 rfl (okM_1 _) (shM_1 _) rfl rfl rfl rfl (jbr _) (jbr _) hn.1 hn.2 (Or.inr rfl) rfl ?_
      refine j_istore [(4, .int r16), (0, .ref 1), (1, .int x1), (2, .int x2), (3, .int x3)] dX11_drift_54 (Nat.le_of_ble_eq_true rfl) rfl ?_
      replace h := bV_inv h
      obtain ⟨v18, ev18, h⟩ := h
      refine j_iinc (v := v18) [(3, .int v18), (4, .int r16), (0, .ref 1), (1, .int x1), (2, .int x2)] 4 dX11_drift_56 rfl (by rw [ev18]; rfl) (Nat.le_of_ble_eq_true rfl) rfl ?_
      refine j_goto 30 dX11_drift_59 (by decide) ?_
      replace h := Option.some.inj h
      subst h
      refine j_sub [(0, .ref 1), (1, .int x1), (2, .int x2), (3, .int v18)] [2, 3, 4, 0] rfl ?_
      exact hc0 _ hK
def f_X11_drift (σ : jS) (x1 : Int32) (x2 : Int32) : Option (Int32 × jS) :=
  bC (f_X11_isQuarrel σ x1) fun r1 =>
  if r1 = 0 then (some (((-1001), σ)))
  else (bC (f_X11_in (x2.toInt64) 1 99) fun r2 =>
  if r2 = 0 then (some (((-1002), σ)))
  else (jloop jFuel (fun s => f_X11_drift_B30 s.2 x1 x2 s.1) (0, σ)))
set_option maxHeartbeats 1000000 in
set_option maxRecDepth 20000 in
theorem f_X11_drift_ok {g : Bool} {rv : Option Value} {μ' : jM} (σ : jS) (x1 : Int32) (x2 : Int32) {Kp : (Int32 × jS) → Prop} (hn : Nat.ble nM μ'.1 = true ∧ Nat.ble wM μ'.2.1 = true) (hr : ∀ (r : Int32) (s : jS), Kp ((r, s)) → rv = some (.int r) ∧ μ' = eM s) (o : (Int32 × jS)) (h : f_X11_drift σ x1 x2 = some o) (hK : Kp o) : J yX11_drift cX11_drift 5 (some .int) 7 g rv μ' 0 [(0, .ref 1), (1, .int x1), (2, .int x2)] [] (eM σ) := by
  unfold f_X11_drift at h
  refine j_aload_n 0 dX11_drift_0 rfl rfl ?_
  refine j_iload_n 1 dX11_drift_1 rfl rfl ?_
  replace h := bC_inv h
  obtain ⟨r19, cr19, h⟩ := h
  refine j_callV (ci := 10) (st1 := .int r19 :: _) (c_X11_isQuarrel g cr19) jy_X11_isQuarrel ki_yX11_isQuarrel ks_yX11_isQuarrel kl_RX11_309 dX11_drift_2 rfl (okM_1 _) (shM_1 _) rfl rfl rfl rfl (jbr _) (jbr _) hn.1 hn.2 (Or.inr rfl) rfl ?_
  refine j_if_ne 12 dX11_drift_5 (by decide) (fun hc20 => ?_) (fun hc20 => ?_)
  · replace h := jif_f hc20 h
    refine j_iload_n 2 dX11_drift_12 rfl rfl ?_
    refine j_i2l dX11_drift_13 ?_
    refine j_lconst (v := 1) dX11_drift_14 (by decide) ?_
    refine j_ldc2 (v := 99) kk_RX11_343 dX11_drift_15 ?_
    replace h := bC_inv h
    obtain ⟨r21, cr21, h⟩ := h
    refine j_callS (st1 := .int r21 :: _) (c_X11_in g _ cr21) jy_X11_in kt_yX11_in kl_RX11_144 dX11_drift_18 rfl rfl rfl rfl (jbr _) (jbr _) hn.1 hn.2 (Or.inr rfl) rfl ?_
    refine j_if_ne 28 dX11_drift_21 (by decide) (fun hc22 => ?_) (fun hc22 => ?_)
    · replace h := jif_f hc22 h
      refine j_iconst (v := 0) dX11_drift_28 (by decide) ?_
      refine j_istore_n [(3, .int 0), (0, .ref 1), (1, .int x1), (2, .int x2)] dX11_drift_29 rfl (Nat.le_of_ble_eq_true rfl) rfl ?_
      refine j_sub [(0, .ref 1), (1, .int x1), (2, .int x2), (3, .int 0)] [1, 2, 3, 0] rfl ?_
      exact jloop_ok (fun s => f_X11_drift_B30 s.2 x1 x2 s.1) (fun s => J yX11_drift cX11_drift 5 (some .int) 7 g rv μ' 30 [(0, .ref 1), (1, .int x1), (2, .int x2), (3, .int s.1)] [] (eM s.2)) Kp (fun s o hb hk => f_X11_drift_B30_ok (Kp := jsum (fun s => J yX11_drift cX11_drift 5 (some .int) 7 g rv μ' 30 [(0, .ref 1), (1, .int x1), (2, .int x2), (3, .int s.1)] [] (eM s.2)) Kp) s.2 x1 x2 s.1 hn (fun r s q => hr r s q) (fun s q => q) o hb hk) jFuel _ _ h hK
    · replace h := jif_t hc22 h
      refine j_sipush (v := (-1002)) dX11_drift_24 (by decide) ?_
      replace h := Option.some.inj h
      subst h
      obtain ⟨hr1, hr2⟩ := hr _ _ hK
      exact j_iret dX11_drift_27 hr1 hr2
  · replace h := jif_t hc20 h
    refine j_sipush (v := (-1001)) dX11_drift_8 (by decide) ?_
    replace h := Option.some.inj h
    subst h
    obtain ⟨hr1, hr2⟩ := hr _ _ hK
    exact j_iret dX11_drift_11 hr1 hr2
theorem c_X11_drift (g : Bool) {σ : jS} {x1 : Int32} {x2 : Int32} {r : Int32} {σ2 : jS} (h : f_X11_drift σ x1 x2 = some (r, σ2)) : Cn yX11_drift cX11_drift 5 (some .int) 7 g [.ref 1, .int x1, .int x2] (eM σ) (some (.int r)) (eM σ2) :=
  Cn_of (by decide) (Nat.le_refl _) (Nat.le_refl _) (Nat.le_of_ble_eq_true rfl) (f_X11_drift_ok (Kp := (fun o => o = (r, σ2))) σ x1 x2 ⟨jbr _, jbr _⟩ (fun r2 s2 q => by cases q; exact ⟨rfl, rfl⟩) _ h rfl)
def f_X11_findEnds_J79 (σ : jS) : Option (Unit × jS) :=
  some (((), σ))
set_option maxHeartbeats 1000000 in
set_option maxRecDepth 20000 in
theorem f_X11_findEnds_J79_ok {g : Bool} {rv : Option Value} {μ' : jM} (σ : jS) {Kp : (Unit × jS) → Prop} (hn : Nat.ble nM μ'.1 = true ∧ Nat.ble wM μ'.2.1 = true) (hr : ∀ (r : Unit) (s : jS), Kp ((r, s)) → rv = none ∧ μ' = eM s) (o : (Unit × jS)) (h : f_X11_findEnds_J79 σ = some o) (hK : Kp o) : J yX11_findEnds cX11_findEnds 2 none 3 g rv μ' 79 [] [] (eM σ) := by
  unfold f_X11_findEnds_J79 at h
  replace h := Option.some.inj h
  subst h
  obtain ⟨hr1, hr2⟩ := hr _ _ hK
  exact j_vret dX11_findEnds_79 hr1 hr2
def f_X11_findEnds_J73 (σ : jS) (x1 : Int32) : Option ((Int32 × jS) ⊕ (Unit × jS)) :=
  bV (x1 + 1) fun v2 =>
  some (.inl (v2, σ))
set_option maxHeartbeats 1000000 in
set_option maxRecDepth 20000 in
theorem f_X11_findEnds_J73_ok {g : Bool} {rv : Option Value} {μ' : jM} (σ : jS) (x1 : Int32) {Kp : ((Int32 × jS) ⊕ (Unit × jS)) → Prop} (hn : Nat.ble nM μ'.1 = true ∧ Nat.ble wM μ'.2.1 = true) (hr : ∀ (r : Unit) (s : jS), Kp (.inr ((r, s))) → rv = none ∧ μ' = eM s) (hc0 : ∀ s : (Int32 × jS), Kp (.inl s) → J yX11_findEnds cX11_findEnds 2 none 3 g rv μ' 24 [(0, .ref 1), (1, .int s.1)] [] (eM s.2)) (o : ((Int32 × jS) ⊕ (Unit × jS))) (h : f_X11_findEnds_J73 σ x1 = some o) (hK : Kp o) : J yX11_findEnds cX11_findEnds 2 none 3 g rv μ' 73 [(0, .ref 1), (1, .int x1)] [] (eM σ) := by
  unfold f_X11_findEnds_J73 at h
  replace h := bV_inv h
  obtain ⟨v3, ev3, h⟩ := h
  refine j_iinc (v := v3) [(1, .int v3), (0, .ref 1)] 1 dX11_findEnds_73 rfl (by rw [ev3]; rfl) (Nat.le_of_ble_eq_true rfl) rfl ?_
  refine j_goto 24 dX11_findEnds_76 (by decide) ?_
  replace h := Option.some.inj h
  subst h
  refine j_sub [(0, .ref 1), (1, .int v3)] [1, 0] rfl ?_
  exact hc0 _ hK
def f_X11_findEnds_B24 (σ : jS) (x1 : Int32) : Option ((Int32 × jS) ⊕ (Unit × jS)) :=
  if (gI σ 1 39) ≤ x1 then (jw (f_X11_findEnds_J79 σ))
  else (bG (jin x1 147968) (
  bC (f_X11_isEnded σ (gI σ 19 (ix x1))) fun r1 =>
  if r1 = 0 then (f_X11_findEnds_J73 σ x1)
  else (bG (jin x1 147968) (
  bC (f_X11_one (gI σ 19 (ix x1))) fun r4 =>
  bG (jin x1 147968) (
  bC (f_X11_two (gI σ 19 (ix x1))) fun r5 =>
  bG (jin (((100 : Int32) * r4) + r5) 1600) (
  bV (sI σ 26 (ix (((100 : Int32) * r4) + r5)) 1) fun σ6 =>
  f_X11_findEnds_J73 σ6 x1))))))
set_option maxHeartbeats 1000000 in
set_option maxRecDepth 20000 in
theorem f_X11_findEnds_B24_ok {g : Bool} {rv : Option Value} {μ' : jM} (σ : jS) (x1 : Int32) {Kp : ((Int32 × jS) ⊕ (Unit × jS)) → Prop} (hn : Nat.ble nM μ'.1 = true ∧ Nat.ble wM μ'.2.1 = true) (hr : ∀ (r : Unit) (s : jS), Kp (.inr ((r, s))) → rv = none ∧ μ' = eM s) (hc0 : ∀ s : (Int32 × jS), Kp (.inl s) → J yX11_findEnds cX11_findEnds 2 none 3 g rv μ' 24 [(0, .ref 1), (1, .int s.1)] [] (eM s.2)) (o : ((Int32 × jS) ⊕ (Unit × jS))) (h : f_X11_findEnds_B24 σ x1 = some o) (hK : Kp o) : J yX11_findEnds cX11_findEnds 2 none 3 g rv μ' 24 [(0, .ref 1), (1, .int x1)] [] (eM σ) := by
  unfold f_X11_findEnds_B24 at h
  refine j_iload_n 1 dX11_findEnds_24 rfl rfl ?_
  refine j_aload_n 0 dX11_findEnds_25 rfl rfl ?_
  refine j_get (ci := 10) 39 (.int (gI σ 1 39)) jC_10 dX11_findEnds_26 kg_RX11_345 rfl (okM_1 _) (shM_1 _) (fvM_1_39 _) ?_
  refine j_icmp_ge 79 dX11_findEnds_29 (by decide) (fun hc7 => ?_) (fun hc7 => ?_)
  · replace h := jif_t hc7 h
    replace h := jw_inv h
    obtain ⟨o8, rfl, h⟩ := h
    refine j_sub [] [] rfl ?_
    exact f_X11_findEnds_J79_ok (Kp := fun o => Kp (.inr (o))) σ hn (fun r s q => hr r s q) _ h hK
  · replace h := jif_f hc7 h
    refine j_aload_n 0 dX11_findEnds_32 rfl rfl ?_
    refine j_aload_n 0 dX11_findEnds_33 rfl rfl ?_
    refine j_get (ci := 10) 38 (.ref 19) jC_10 dX11_findEnds_34 kg_RX11_69 rfl (okM_1 _) (shM_1 _) (fvM_1_38 _) ?_
    refine j_iload_n 1 dX11_findEnds_37 rfl rfl ?_
    replace h := bG_inv h
    obtain ⟨hi9, h⟩ := h
    refine j_iaload dX11_findEnds_38 (okM_19 _) (shM_19 _) (jin_spec hi9) ?_
    replace h := bC_inv h
    obtain ⟨r10, cr10, h⟩ := h
    refine j_callV (ci := 10) (st1 := .int r10 :: _) (c_X11_isEnded g cr10) jy_X11_isEnded ki_yX11_isEnded ks_yX11_isEnded kl_RX11_303 dX11_findEnds_39 rfl (okM_1 _) (shM_1 _) rfl rfl rfl rfl (jbr _) (jbr _) hn.1 hn.2 (Or.inr rfl) rfl ?_
    refine j_if_eq 73 dX11_findEnds_42 (by decide) (fun hc11 => ?_) (fun hc11 => ?_)
    · replace h := jif_t hc11 h
      exact f_X11_findEnds_J73_ok σ x1 hn hr hc0 _ h hK
    · replace h := jif_f hc11 h
      refine j_aload_n 0 dX11_findEnds_45 rfl rfl ?_
      refine j_get (ci := 10) 47 (.ref 26) jC_10 dX11_findEnds_46 kg_RX11_91 rfl (okM_1 _) (shM_1 _) (fvM_1_47 _) ?_
      refine j_bipush (v := 100) dX11_findEnds_49 (by decide) ?_
      refine j_aload_n 0 dX11_findEnds_51 rfl rfl ?_
      refine j_get (ci := 10) 38 (.ref 19) jC_10 dX11_findEnds_52 kg_RX11_69 rfl (okM_1 _) (shM_1 _) (fvM_1_38 _) ?_
      refine j_iload_n 1 dX11_findEnds_55 rfl rfl ?_
      replace h := bG_inv h
      obtain ⟨hi12, h⟩ := h
      refine j_iaload dX11_findEnds_56 (okM_19 _) (shM_19 _) (jin_spec hi12) ?_
      replace h := bC_inv h
      obtain ⟨r13, cr13, h⟩ := h
      refine j_callS (st1 := .int r13 :: _) (c_X11_one g _ cr13) jy_X11_one kt_yX11_one kl_RX11_271 dX11_findEnds_57 rfl rfl rfl rfl (jbr _) (jbr _) hn.1 hn.2 (Or.inr rfl) rfl ?_
      refine j_imul dX11_findEnds_60 ?_
      refine j_aload_n 0 dX11_findEnds_61 rfl rfl ?_
      refine j_get (ci := 10) 38 (.ref 19) jC_10 dX11_findEnds_62 kg_RX11_69 rfl (okM_1 _) (shM_1 _) (fvM_1_38 _) ?_
      refine j_iload_n 1 dX11_findEnds_65 rfl rfl ?_
      replace h := bG_inv h
      obtain ⟨hi14, h⟩ := h
      refine j_iaload dX11_findEnds_66 (okM_19 _) (shM_19 _) (jin_spec hi14) ?_
      replace h := bC_inv h
      obtain ⟨r15, cr15, h⟩ := h
      refine j_callS (st1 := .int r15 :: _) (c_X11_two g _ cr15) jy_X11_two kt_yX11_two kl_RX11_274 dX11_findEnds_67 rfl rfl rfl rfl (jbr _) (jbr _) hn.1 hn.2 (Or.inr rfl) rfl ?_
      refine j_iadd dX11_findEnds_70 ?_
      refine j_iconst (v := 1) dX11_findEnds_71 (by decide) ?_
      replace h := bG_inv h
      obtain ⟨hi16, h⟩ := h
      refine j_bastore dX11_findEnds_72 (okM_26 _) (shM_26 _) (jin_spec hi16) ?_
      rw [jb_vp (x := 1) rfl]
      replace h := bV_inv h
      obtain ⟨σ17, eσ17, h⟩ := h
      refine j_mem (congrArg eM eσ17) ?_
      exact f_X11_findEnds_J73_ok σ17 x1 hn hr hc0 _ h hK
def f_X11_findEnds_J22 (σ : jS) : Option (Unit × jS) :=
  jloop jFuel (fun s => f_X11_findEnds_B24 s.2 s.1) (0, σ)
set_option maxHeartbeats 1000000 in
set_option maxRecDepth 20000 in
theorem f_X11_findEnds_J22_ok {g : Bool} {rv : Option Value} {μ' : jM} (σ : jS) {Kp : (Unit × jS) → Prop} (hn : Nat.ble nM μ'.1 = true ∧ Nat.ble wM μ'.2.1 = true) (hr : ∀ (r : Unit) (s : jS), Kp ((r, s)) → rv = none ∧ μ' = eM s) (o : (Unit × jS)) (h : f_X11_findEnds_J22 σ = some o) (hK : Kp o) : J yX11_findEnds cX11_findEnds 2 none 3 g rv μ' 22 [(0, .ref 1)] [] (eM σ) := by
  unfold f_X11_findEnds_J22 at h
  refine j_iconst (v := 0) dX11_findEnds_22 (by decide) ?_
  refine j_istore_n [(1, .int 0), (0, .ref 1)] dX11_findEnds_23 rfl (Nat.le_of_ble_eq_true rfl) rfl ?_
  refine j_sub [(0, .ref 1), (1, .int 0)] [1, 0] rfl ?_
  exact jloop_ok (fun s => f_X11_findEnds_B24 s.2 s.1) (fun s => J yX11_findEnds cX11_findEnds 2 none 3 g rv μ' 24 [(0, .ref 1), (1, .int s.1)] [] (eM s.2)) Kp (fun s o hb hk => f_X11_findEnds_B24_ok (Kp := jsum (fun s => J yX11_findEnds cX11_findEnds 2 none 3 g rv μ' 24 [(0, .ref 1), (1, .int s.1)] [] (eM s.2)) Kp) s.2 s.1 hn (fun r s q => hr r s q) (fun s q => q) o hb hk) jFuel _ _ h hK
def f_X11_findEnds_B2 (σ : jS) (x1 : Int32) : Option ((Int32 × jS) ⊕ (Unit × jS)) :=
  if 1600 ≤ x1 then (jw (f_X11_findEnds_J22 σ))
  else (bG (jin x1 1600) (
  bV (sI σ 26 (ix x1) 0) fun σ18 =>
  bV (x1 + 1) fun v19 =>
  some (.inl (v19, σ18))))
set_option maxHeartbeats 1000000 in
set_option maxRecDepth 20000 in
theorem f_X11_findEnds_B2_ok {g : Bool} {rv : Option Value} {μ' : jM} (σ : jS) (x1 : Int32) {Kp : ((Int32 × jS) ⊕ (Unit × jS)) → Prop} (hn : Nat.ble nM μ'.1 = true ∧ Nat.ble wM μ'.2.1 = true) (hr : ∀ (r : Unit) (s : jS), Kp (.inr ((r, s))) → rv = none ∧ μ' = eM s) (hc0 : ∀ s : (Int32 × jS), Kp (.inl s) → J yX11_findEnds cX11_findEnds 2 none 3 g rv μ' 2 [(0, .ref 1), (1, .int s.1)] [] (eM s.2)) (o : ((Int32 × jS) ⊕ (Unit × jS))) (h : f_X11_findEnds_B2 σ x1 = some o) (hK : Kp o) : J yX11_findEnds cX11_findEnds 2 none 3 g rv μ' 2 [(0, .ref 1), (1, .int x1)] [] (eM σ) := by
  unfold f_X11_findEnds_B2 at h
  refine j_iload_n 1 dX11_findEnds_2 rfl rfl ?_
  refine j_sipush (v := 1600) dX11_findEnds_3 (by decide) ?_
  refine j_icmp_ge 22 dX11_findEnds_6 (by decide) (fun hc20 => ?_) (fun hc20 => ?_)
  · replace h := jif_t hc20 h
    replace h := jw_inv h
    obtain ⟨o21, rfl, h⟩ := h
    refine j_sub [(0, .ref 1)] [0] rfl ?_
    exact f_X11_findEnds_J22_ok (Kp := fun o => Kp (.inr (o))) σ hn (fun r s q => hr r s q) _ h hK
  · replace h := jif_f hc20 h
    refine j_aload_n 0 dX11_findEnds_9 rfl rfl ?_
    refine j_get (ci := 10) 47 (.ref 26) jC_10 dX11_findEnds_10 kg_RX11_91 rfl (okM_1 _) (shM_1 _) (fvM_1_47 _) ?_
    refine j_iload_n 1 dX11_findEnds_13 rfl rfl ?_
    refine j_iconst (v := 0) dX11_findEnds_14 (by decide) ?_
    replace h := bG_inv h
    obtain ⟨hi22, h⟩ := h
    refine j_bastore dX11_findEnds_15 (okM_26 _) (shM_26 _) (jin_spec hi22) ?_
    rw [jb_vp (x := 0) rfl]
    replace h := bV_inv h
    obtain ⟨σ23, eσ23, h⟩ := h
    refine j_mem (congrArg eM eσ23) ?_
    replace h := bV_inv h
    obtain ⟨v24, ev24, h⟩ := h
    refine j_iinc (v := v24) [(1, .int v24), (0, .ref 1)] 1 dX11_findEnds_16 rfl (by rw [ev24]; rfl) (Nat.le_of_ble_eq_true rfl) rfl ?_
    refine j_goto 2 dX11_findEnds_19 (by decide) ?_
    replace h := Option.some.inj h
    subst h
    refine j_sub [(0, .ref 1), (1, .int v24)] [1, 0] rfl ?_
    exact hc0 _ hK
def f_X11_findEnds (σ : jS) : Option (Unit × jS) :=
  jloop jFuel (fun s => f_X11_findEnds_B2 s.2 s.1) (0, σ)
set_option maxHeartbeats 1000000 in
set_option maxRecDepth 20000 in
theorem f_X11_findEnds_ok {g : Bool} {rv : Option Value} {μ' : jM} (σ : jS) {Kp : (Unit × jS) → Prop} (hn : Nat.ble nM μ'.1 = true ∧ Nat.ble wM μ'.2.1 = true) (hr : ∀ (r : Unit) (s : jS), Kp ((r, s)) → rv = none ∧ μ' = eM s) (o : (Unit × jS)) (h : f_X11_findEnds σ = some o) (hK : Kp o) : J yX11_findEnds cX11_findEnds 2 none 3 g rv μ' 0 [(0, .ref 1)] [] (eM σ) := by
  unfold f_X11_findEnds at h
  refine j_iconst (v := 0) dX11_findEnds_0 (by decide) ?_
  refine j_istore_n [(1, .int 0), (0, .ref 1)] dX11_findEnds_1 rfl (Nat.le_of_ble_eq_true rfl) rfl ?_
  refine j_sub [(0, .ref 1), (1, .int 0)] [1, 0] rfl ?_
  exact jloop_ok (fun s => f_X11_findEnds_B2 s.2 s.1) (fun s => J yX11_findEnds cX11_findEnds 2 none 3 g rv μ' 2 [(0, .ref 1), (1, .int s.1)] [] (eM s.2)) Kp (fun s o hb hk => f_X11_findEnds_B2_ok (Kp := jsum (fun s => J yX11_findEnds cX11_findEnds 2 none 3 g rv μ' 2 [(0, .ref 1), (1, .int s.1)] [] (eM s.2)) Kp) s.2 s.1 hn (fun r s q => hr r s q) (fun s q => q) o hb hk) jFuel _ _ h hK
theorem c_X11_findEnds (g : Bool) {σ : jS} {r : Unit} {σ2 : jS} (h : f_X11_findEnds σ = some (r, σ2)) : Cn yX11_findEnds cX11_findEnds 2 none 3 g [.ref 1] (eM σ) none (eM σ2) :=
  Cn_of (by decide) (Nat.le_refl _) (Nat.le_refl _) (Nat.le_of_ble_eq_true rfl) (f_X11_findEnds_ok (Kp := (fun o => o = (r, σ2))) σ ⟨jbr _, jbr _⟩ (fun r2 s2 q => by cases q; exact ⟨rfl, rfl⟩) _ h rfl)
def f_X11_goesRound_J145 (σ : jS) (y0 : Int32) : Option (Int32 × jS) :=
  bG (jb y0) (
  some ((y0, σ)))
set_option maxHeartbeats 1000000 in
set_option maxRecDepth 20000 in
theorem f_X11_goesRound_J145_ok {g : Bool} {rv : Option Value} {μ' : jM} (σ : jS) (y0 : Int32) {Kp : (Int32 × jS) → Prop} (hn : Nat.ble nM μ'.1 = true ∧ Nat.ble wM μ'.2.1 = true) (hr : ∀ (r : Int32) (s : jS), Kp ((r, s)) → rv = some (.int r) ∧ μ' = eM s) (o : (Int32 × jS)) (h : f_X11_goesRound_J145 σ y0 = some o) (hK : Kp o) : J yX11_goesRound cX11_goesRound 4 (some .boolean) 1 g rv μ' 145 [] [.int y0] (eM σ) := by
  unfold f_X11_goesRound_J145 at h
  replace h := bG_inv h
  obtain ⟨hb, h⟩ := h
  replace h := Option.some.inj h
  subst h
  obtain ⟨hr1, hr2⟩ := hr _ _ hK
  exact j_zret (jb_nar hb) dX11_goesRound_145 hr1 hr2
def f_X11_goesRound_J132 (σ : jS) (x1 : Int32) : Option (Int32 × jS) :=
  if (gI σ 1 39) ≤ x1 then (f_X11_goesRound_J145 σ 0)
  else (f_X11_goesRound_J145 σ 1)
set_option maxHeartbeats 1000000 in
set_option maxRecDepth 20000 in
theorem f_X11_goesRound_J132_ok {g : Bool} {rv : Option Value} {μ' : jM} (σ : jS) (x1 : Int32) {Kp : (Int32 × jS) → Prop} (hn : Nat.ble nM μ'.1 = true ∧ Nat.ble wM μ'.2.1 = true) (hr : ∀ (r : Int32) (s : jS), Kp ((r, s)) → rv = some (.int r) ∧ μ' = eM s) (o : (Int32 × jS)) (h : f_X11_goesRound_J132 σ x1 = some o) (hK : Kp o) : J yX11_goesRound cX11_goesRound 4 (some .boolean) 1 g rv μ' 132 [(0, .ref 1), (1, .int x1)] [] (eM σ) := by
  unfold f_X11_goesRound_J132 at h
  refine j_iload_n 1 dX11_goesRound_132 rfl rfl ?_
  refine j_aload_n 0 dX11_goesRound_133 rfl rfl ?_
  refine j_get (ci := 10) 39 (.int (gI σ 1 39)) jC_10 dX11_goesRound_134 kg_RX11_345 rfl (okM_1 _) (shM_1 _) (fvM_1_39 _) ?_
  refine j_icmp_ge 144 dX11_goesRound_137 (by decide) (fun hc1 => ?_) (fun hc1 => ?_)
  · replace h := jif_t hc1 h
    refine j_iconst (v := 0) dX11_goesRound_144 (by decide) ?_
    refine j_sub [] [] rfl ?_
    exact f_X11_goesRound_J145_ok σ 0 hn hr _ h hK
  · replace h := jif_f hc1 h
    refine j_iconst (v := 1) dX11_goesRound_140 (by decide) ?_
    refine j_goto 145 dX11_goesRound_141 (by decide) ?_
    refine j_sub [] [] rfl ?_
    exact f_X11_goesRound_J145_ok σ 1 hn hr _ h hK
def f_X11_goesRound_J126 (σ : jS) (x1 : Int32) (x2 : Int32) : Option ((Int32 × Int32 × jS) ⊕ (Int32 × jS)) :=
  bV (x2 + 1) fun v3 =>
  some (.inl (x1, v3, σ))
set_option maxHeartbeats 1000000 in
set_option maxRecDepth 20000 in
theorem f_X11_goesRound_J126_ok {g : Bool} {rv : Option Value} {μ' : jM} (σ : jS) (x1 : Int32) (x2 : Int32) {Kp : ((Int32 × Int32 × jS) ⊕ (Int32 × jS)) → Prop} (hn : Nat.ble nM μ'.1 = true ∧ Nat.ble wM μ'.2.1 = true) (hr : ∀ (r : Int32) (s : jS), Kp (.inr ((r, s))) → rv = some (.int r) ∧ μ' = eM s) (hc0 : ∀ s : (Int32 × Int32 × jS), Kp (.inl s) → J yX11_goesRound cX11_goesRound 4 (some .boolean) 1 g rv μ' 51 [(0, .ref 1), (1, .int s.1), (2, .int s.2.1)] [] (eM s.2.2)) (o : ((Int32 × Int32 × jS) ⊕ (Int32 × jS))) (h : f_X11_goesRound_J126 σ x1 x2 = some o) (hK : Kp o) : J yX11_goesRound cX11_goesRound 4 (some .boolean) 1 g rv μ' 126 [(0, .ref 1), (1, .int x1), (2, .int x2)] [] (eM σ) := by
  unfold f_X11_goesRound_J126 at h
  replace h := bV_inv h
  obtain ⟨v4, ev4, h⟩ := h
  refine j_iinc (v := v4) [(2, .int v4), (0, .ref 1), (1, .int x1)] 2 dX11_goesRound_126 rfl (by rw [ev4]; rfl) (Nat.le_of_ble_eq_true rfl) rfl ?_
  refine j_goto 51 dX11_goesRound_129 (by decide) ?_
  replace h := Option.some.inj h
  subst h
  refine j_sub [(0, .ref 1), (1, .int x1), (2, .int v4)] [1, 2, 0] rfl ?_
  exact hc0 _ hK
def f_X11_goesRound_J116 (σ : jS) (x1 : Int32) (x2 : Int32) (x3 : Int32) : Option ((Int32 × Int32 × jS) ⊕ ((Int32 × Int32 × jS) ⊕ (Int32 × jS))) :=
  bG (jin x3 620000) (
  bV (gI σ 23 (ix x3)) fun v7 =>
  some (.inl (x1, v7, σ)))
set_option maxHeartbeats 1000000 in
set_option maxRecDepth 20000 in
theorem f_X11_goesRound_J116_ok {g : Bool} {rv : Option Value} {μ' : jM} (σ : jS) (x1 : Int32) (x2 : Int32) (x3 : Int32) {Kp : ((Int32 × Int32 × jS) ⊕ ((Int32 × Int32 × jS) ⊕ (Int32 × jS))) → Prop} (hn : Nat.ble nM μ'.1 = true ∧ Nat.ble wM μ'.2.1 = true) (hr : ∀ (r : Int32) (s : jS), Kp (.inr (.inr ((r, s)))) → rv = some (.int r) ∧ μ' = eM s) (hc0 : ∀ s : (Int32 × Int32 × jS), Kp (.inr (.inl s)) → J yX11_goesRound cX11_goesRound 4 (some .boolean) 1 g rv μ' 51 [(0, .ref 1), (1, .int s.1), (2, .int s.2.1)] [] (eM s.2.2)) (hc1 : ∀ s : (Int32 × Int32 × jS), Kp (.inl s) → J yX11_goesRound cX11_goesRound 4 (some .boolean) 1 g rv μ' 68 [(0, .ref 1), (1, .int s.1), (2, .int x2), (3, .int s.2.1)] [] (eM s.2.2)) (o : ((Int32 × Int32 × jS) ⊕ ((Int32 × Int32 × jS) ⊕ (Int32 × jS)))) (h : f_X11_goesRound_J116 σ x1 x2 x3 = some o) (hK : Kp o) : J yX11_goesRound cX11_goesRound 4 (some .boolean) 1 g rv μ' 116 [(0, .ref 1), (1, .int x1), (2, .int x2), (3, .int x3)] [] (eM σ) := by
  unfold f_X11_goesRound_J116 at h
  refine j_aload_n 0 dX11_goesRound_116 rfl rfl ?_
  refine j_get (ci := 10) 43 (.ref 23) jC_10 dX11_goesRound_117 kg_RX11_82 rfl (okM_1 _) (shM_1 _) (fvM_1_43 _) ?_
  refine j_iload_n 3 dX11_goesRound_120 rfl rfl ?_
  replace h := bG_inv h
  obtain ⟨hi8, h⟩ := h
  refine j_iaload dX11_goesRound_121 (okM_23 _) (shM_23 _) (jin_spec hi8) ?_
  replace h := bV_inv h
  obtain ⟨v9, ev9, h⟩ := h
  refine j_nmi ev9 ?_
  refine j_istore_n [(3, .int v9), (0, .ref 1), (1, .int x1), (2, .int x2)] dX11_goesRound_122 rfl (Nat.le_of_ble_eq_true rfl) rfl ?_
  refine j_goto 68 dX11_goesRound_123 (by decide) ?_
  replace h := Option.some.inj h
  subst h
  refine j_sub [(0, .ref 1), (1, .int x1), (2, .int x2), (3, .int v9)] [1, 2, 3, 0] rfl ?_
  exact hc1 _ hK
def f_X11_goesRound_B68 (σ : jS) (x1 : Int32) (x2 : Int32) (x3 : Int32) : Option ((Int32 × Int32 × jS) ⊕ ((Int32 × Int32 × jS) ⊕ (Int32 × jS))) :=
  if x3 < 0 then (jw (f_X11_goesRound_J126 σ x1 x2))
  else (bG (jin x3 620000) (
  bV (gI σ 22 (ix x3)) fun v5 =>
  bG (jin v5 147968) (
  bG (jin v5 147968) (
  bV (sI σ 24 (ix v5) ((gI σ 24 (ix v5)) - (1 : Int32))) fun σ6 =>
  bG (jin x3 620000) (
  bG (jin (gI σ6 22 (ix x3)) 147968) (
  if (gI σ6 24 (ix (gI σ6 22 (ix x3)))) = 0 then (bG (jin x3 620000) (
  bG (jin x1 147968) (
  bV (sI σ6 25 (ix x1) (gI σ6 22 (ix x3))) fun σ10 =>
  bV (x1 + 1) fun v11 =>
  f_X11_goesRound_J116 σ10 v11 x2 x3)))
  else (f_X11_goesRound_J116 σ6 x1 x2 x3)))))))
set_option maxHeartbeats 1000000 in
set_option maxRecDepth 20000 in
theorem f_X11_goesRound_B68_ok {g : Bool} {rv : Option Value} {μ' : jM} (σ : jS) (x1 : Int32) (x2 : Int32) (x3 : Int32) {Kp : ((Int32 × Int32 × jS) ⊕ ((Int32 × Int32 × jS) ⊕ (Int32 × jS))) → Prop} (hn : Nat.ble nM μ'.1 = true ∧ Nat.ble wM μ'.2.1 = true) (hr : ∀ (r : Int32) (s : jS), Kp (.inr (.inr ((r, s)))) → rv = some (.int r) ∧ μ' = eM s) (hc0 : ∀ s : (Int32 × Int32 × jS), Kp (.inr (.inl s)) → J yX11_goesRound cX11_goesRound 4 (some .boolean) 1 g rv μ' 51 [(0, .ref 1), (1, .int s.1), (2, .int s.2.1)] [] (eM s.2.2)) (hc1 : ∀ s : (Int32 × Int32 × jS), Kp (.inl s) → J yX11_goesRound cX11_goesRound 4 (some .boolean) 1 g rv μ' 68 [(0, .ref 1), (1, .int s.1), (2, .int x2), (3, .int s.2.1)] [] (eM s.2.2)) (o : ((Int32 × Int32 × jS) ⊕ ((Int32 × Int32 × jS) ⊕ (Int32 × jS)))) (h : f_X11_goesRound_B68 σ x1 x2 x3 = some o) (hK : Kp o) : J yX11_goesRound cX11_goesRound 4 (some .boolean) 1 g rv μ' 68 [(0, .ref 1), (1, .int x1), (2, .int x2), (3, .int x3)] [] (eM σ) := by
  unfold f_X11_goesRound_B68 at h
  refine j_iload_n 3 dX11_goesRound_68 rfl rfl ?_
  refine j_if_lt 126 dX11_goesRound_69 (by decide) (fun hc12 => ?_) (fun hc12 => ?_)
  · replace h := jif_t hc12 h
    replace h := jw_inv h
    obtain ⟨o13, rfl, h⟩ := h
    refine j_sub [(0, .ref 1), (1, .int x1), (2, .int x2)] [0, 1, 2] rfl ?_
    exact f_X11_goesRound_J126_ok (Kp := fun o => Kp (.inr (o))) σ x1 x2 hn (fun r s q => hr r s q) (fun s q => hc0 s q) _ h hK
  · replace h := jif_f hc12 h
    refine j_aload_n 0 dX11_goesRound_72 rfl rfl ?_
    refine j_get (ci := 10) 45 (.ref 24) jC_10 dX11_goesRound_73 kg_RX11_85 rfl (okM_1 _) (shM_1 _) (fvM_1_45 _) ?_
    refine j_aload_n 0 dX11_goesRound_76 rfl rfl ?_
    refine j_get (ci := 10) 42 (.ref 22) jC_10 dX11_goesRound_77 kg_RX11_79 rfl (okM_1 _) (shM_1 _) (fvM_1_42 _) ?_
    refine j_iload_n 3 dX11_goesRound_80 rfl rfl ?_
    replace h := bG_inv h
    obtain ⟨hi14, h⟩ := h
    refine j_iaload dX11_goesRound_81 (okM_22 _) (shM_22 _) (jin_spec hi14) ?_
    replace h := bV_inv h
    obtain ⟨v15, ev15, h⟩ := h
    refine j_nmi ev15 ?_
    refine j_dup2 dX11_goesRound_82 rfl rfl ?_
    replace h := bG_inv h
    obtain ⟨hi16, h⟩ := h
    refine j_iaload dX11_goesRound_83 (okM_24 _) (shM_24 _) (jin_spec hi16) ?_
    refine j_iconst (v := 1) dX11_goesRound_84 (by decide) ?_
    refine j_isub dX11_goesRound_85 ?_
    replace h := bG_inv h
    obtain ⟨hi17, h⟩ := h
    refine j_iastore dX11_goesRound_86 (okM_24 _) (shM_24 _) (jin_spec hi17) ?_
    replace h := bV_inv h
    obtain ⟨σ18, eσ18, h⟩ := h
    refine j_mem (congrArg eM eσ18) ?_
    refine j_aload_n 0 dX11_goesRound_87 rfl rfl ?_
    refine j_get (ci := 10) 45 (.ref 24) jC_10 dX11_goesRound_88 kg_RX11_85 rfl (okM_1 _) (shM_1 _) (fvM_1_45 _) ?_
    refine j_aload_n 0 dX11_goesRound_91 rfl rfl ?_
    refine j_get (ci := 10) 42 (.ref 22) jC_10 dX11_goesRound_92 kg_RX11_79 rfl (okM_1 _) (shM_1 _) (fvM_1_42 _) ?_
    refine j_iload_n 3 dX11_goesRound_95 rfl rfl ?_
    replace h := bG_inv h
    obtain ⟨hi19, h⟩ := h
    refine j_iaload dX11_goesRound_96 (okM_22 _) (shM_22 _) (jin_spec hi19) ?_
    replace h := bG_inv h
    obtain ⟨hi20, h⟩ := h
    refine j_iaload dX11_goesRound_97 (okM_24 _) (shM_24 _) (jin_spec hi20) ?_
    refine j_if_ne 116 dX11_goesRound_98 (by decide) (fun hc21 => ?_) (fun hc21 => ?_)
    · replace h := jif_f hc21 h
      exact f_X11_goesRound_J116_ok σ18 x1 x2 x3 hn hr hc0 hc1 _ h hK
    · replace h := jif_t hc21 h
      refine j_aload_n 0 dX11_goesRound_101 rfl rfl ?_
      refine j_get (ci := 10) 46 (.ref 25) jC_10 dX11_goesRound_102 kg_RX11_88 rfl (okM_1 _) (shM_1 _) (fvM_1_46 _) ?_
      refine j_iload_n 1 dX11_goesRound_105 rfl rfl ?_
      refine j_aload_n 0 dX11_goesRound_106 rfl rfl ?_
      refine j_get (ci := 10) 42 (.ref 22) jC_10 dX11_goesRound_107 kg_RX11_79 rfl (okM_1 _) (shM_1 _) (fvM_1_42 _) ?_
      refine j_iload_n 3 dX11_goesRound_110 rfl rfl ?_
      replace h := bG_inv h
      obtain ⟨hi22, h⟩ := h
      refine j_iaload dX11_goesRound_111 (okM_22 _) (shM_22 _) (jin_spec hi22) ?_
      replace h := bG_inv h
      obtain ⟨hi23, h⟩ := h
      refine j_iastore dX11_goesRound_112 (okM_25 _) (shM_25 _) (jin_spec hi23) ?_
      replace h := bV_inv h
      obtain ⟨σ24, eσ24, h⟩ := h
      refine j_mem (congrArg eM eσ24) ?_
      replace h := bV_inv h
      obtain ⟨v25, ev25, h⟩ := h
      refine j_iinc (v := v25) [(1, .int v25), (0, .ref 1), (2, .int x2), (3, .int x3)] 1 dX11_goesRound_113 rfl (by rw [ev25]; rfl) (Nat.le_of_ble_eq_true rfl) rfl ?_
      refine j_sub [(0, .ref 1), (1, .int v25), (2, .int x2), (3, .int x3)] [1, 0, 2, 3] rfl ?_
      exact f_X11_goesRound_J116_ok σ24 v25 x2 x3 hn hr hc0 hc1 _ h hK
def f_X11_goesRound_B51 (σ : jS) (x1 : Int32) (x2 : Int32) : Option ((Int32 × Int32 × jS) ⊕ (Int32 × jS)) :=
  if x1 ≤ x2 then (jw (f_X11_goesRound_J132 σ x1))
  else (bG (jin x2 147968) (
  bG (jin (gI σ 25 (ix x2)) 147968) (
  bV (gI σ 20 (ix (gI σ 25 (ix x2)))) fun v2 =>
  jloop jFuel (fun s => f_X11_goesRound_B68 s.2.2 s.1 x2 s.2.1) (x1, v2, σ))))
set_option maxHeartbeats 1000000 in
set_option maxRecDepth 20000 in
theorem f_X11_goesRound_B51_ok {g : Bool} {rv : Option Value} {μ' : jM} (σ : jS) (x1 : Int32) (x2 : Int32) {Kp : ((Int32 × Int32 × jS) ⊕ (Int32 × jS)) → Prop} (hn : Nat.ble nM μ'.1 = true ∧ Nat.ble wM μ'.2.1 = true) (hr : ∀ (r : Int32) (s : jS), Kp (.inr ((r, s))) → rv = some (.int r) ∧ μ' = eM s) (hc0 : ∀ s : (Int32 × Int32 × jS), Kp (.inl s) → J yX11_goesRound cX11_goesRound 4 (some .boolean) 1 g rv μ' 51 [(0, .ref 1), (1, .int s.1), (2, .int s.2.1)] [] (eM s.2.2)) (o : ((Int32 × Int32 × jS) ⊕ (Int32 × jS))) (h : f_X11_goesRound_B51 σ x1 x2 = some o) (hK : Kp o) : J yX11_goesRound cX11_goesRound 4 (some .boolean) 1 g rv μ' 51 [(0, .ref 1), (1, .int x1), (2, .int x2)] [] (eM σ) := by
  unfold f_X11_goesRound_B51 at h
  refine j_iload_n 2 dX11_goesRound_51 rfl rfl ?_
  refine j_iload_n 1 dX11_goesRound_52 rfl rfl ?_
  refine j_icmp_ge 132 dX11_goesRound_53 (by decide) (fun hc26 => ?_) (fun hc26 => ?_)
  · replace h := jif_t hc26 h
    replace h := jw_inv h
    obtain ⟨o27, rfl, h⟩ := h
    refine j_sub [(0, .ref 1), (1, .int x1)] [0, 1] rfl ?_
    exact f_X11_goesRound_J132_ok (Kp := fun o => Kp (.inr (o))) σ x1 hn (fun r s q => hr r s q) _ h hK
  · replace h := jif_f hc26 h
    refine j_aload_n 0 dX11_goesRound_56 rfl rfl ?_
    refine j_get (ci := 10) 40 (.ref 20) jC_10 dX11_goesRound_57 kg_RX11_72 rfl (okM_1 _) (shM_1 _) (fvM_1_40 _) ?_
    refine j_aload_n 0 dX11_goesRound_60 rfl rfl ?_
    refine j_get (ci := 10) 46 (.ref 25) jC_10 dX11_goesRound_61 kg_RX11_88 rfl (okM_1 _) (shM_1 _) (fvM_1_46 _) ?_
    refine j_iload_n 2 dX11_goesRound_64 rfl rfl ?_
    replace h := bG_inv h
    obtain ⟨hi28, h⟩ := h
    refine j_iaload dX11_goesRound_65 (okM_25 _) (shM_25 _) (jin_spec hi28) ?_
    replace h := bG_inv h
    obtain ⟨hi29, h⟩ := h
    refine j_iaload dX11_goesRound_66 (okM_20 _) (shM_20 _) (jin_spec hi29) ?_
    replace h := bV_inv h
    obtain ⟨v30, ev30, h⟩ := h
    refine j_nmi ev30 ?_
    refine j_istore_n [(3, .int v30), (0, .ref 1), (1, .int x1), (2, .int x2)] dX11_goesRound_67 rfl (Nat.le_of_ble_eq_true rfl) rfl ?_
    refine j_sub [(0, .ref 1), (1, .int x1), (2, .int x2), (3, .int v30)] [1, 2, 3, 0] rfl ?_
    exact jloop_ok (fun s => f_X11_goesRound_B68 s.2.2 s.1 x2 s.2.1) (fun s => J yX11_goesRound cX11_goesRound 4 (some .boolean) 1 g rv μ' 68 [(0, .ref 1), (1, .int s.1), (2, .int x2), (3, .int s.2.1)] [] (eM s.2.2)) Kp (fun s o hb hk => f_X11_goesRound_B68_ok (Kp := jsum (fun s => J yX11_goesRound cX11_goesRound 4 (some .boolean) 1 g rv μ' 68 [(0, .ref 1), (1, .int s.1), (2, .int x2), (3, .int s.2.1)] [] (eM s.2.2)) Kp) s.2.2 s.1 x2 s.2.1 hn (fun r s q => hr r s q) (fun s q => hc0 s q) (fun s q => q) o hb hk) jFuel _ _ h hK
def f_X11_goesRound_J49 (σ : jS) (x1 : Int32) : Option (Int32 × jS) :=
  jloop jFuel (fun s => f_X11_goesRound_B51 s.2.2 s.1 s.2.1) (x1, 0, σ)
set_option maxHeartbeats 1000000 in
set_option maxRecDepth 20000 in
theorem f_X11_goesRound_J49_ok {g : Bool} {rv : Option Value} {μ' : jM} (σ : jS) (x1 : Int32) {Kp : (Int32 × jS) → Prop} (hn : Nat.ble nM μ'.1 = true ∧ Nat.ble wM μ'.2.1 = true) (hr : ∀ (r : Int32) (s : jS), Kp ((r, s)) → rv = some (.int r) ∧ μ' = eM s) (o : (Int32 × jS)) (h : f_X11_goesRound_J49 σ x1 = some o) (hK : Kp o) : J yX11_goesRound cX11_goesRound 4 (some .boolean) 1 g rv μ' 49 [(0, .ref 1), (1, .int x1)] [] (eM σ) := by
  unfold f_X11_goesRound_J49 at h
  refine j_iconst (v := 0) dX11_goesRound_49 (by decide) ?_
  refine j_istore_n [(2, .int 0), (0, .ref 1), (1, .int x1)] dX11_goesRound_50 rfl (Nat.le_of_ble_eq_true rfl) rfl ?_
  refine j_sub [(0, .ref 1), (1, .int x1), (2, .int 0)] [1, 2, 0] rfl ?_
  exact jloop_ok (fun s => f_X11_goesRound_B51 s.2.2 s.1 s.2.1) (fun s => J yX11_goesRound cX11_goesRound 4 (some .boolean) 1 g rv μ' 51 [(0, .ref 1), (1, .int s.1), (2, .int s.2.1)] [] (eM s.2.2)) Kp (fun s o hb hk => f_X11_goesRound_B51_ok (Kp := jsum (fun s => J yX11_goesRound cX11_goesRound 4 (some .boolean) 1 g rv μ' 51 [(0, .ref 1), (1, .int s.1), (2, .int s.2.1)] [] (eM s.2.2)) Kp) s.2.2 s.1 s.2.1 hn (fun r s q => hr r s q) (fun s q => q) o hb hk) jFuel _ _ h hK
def f_X11_goesRound_J43 (σ : jS) (x1 : Int32) (x2 : Int32) : Option ((Int32 × Int32 × jS) ⊕ (Int32 × jS)) :=
  bV (x2 + 1) fun v32 =>
  some (.inl (x1, v32, σ))
set_option maxHeartbeats 1000000 in
set_option maxRecDepth 20000 in
theorem f_X11_goesRound_J43_ok {g : Bool} {rv : Option Value} {μ' : jM} (σ : jS) (x1 : Int32) (x2 : Int32) {Kp : ((Int32 × Int32 × jS) ⊕ (Int32 × jS)) → Prop} (hn : Nat.ble nM μ'.1 = true ∧ Nat.ble wM μ'.2.1 = true) (hr : ∀ (r : Int32) (s : jS), Kp (.inr ((r, s))) → rv = some (.int r) ∧ μ' = eM s) (hc0 : ∀ s : (Int32 × Int32 × jS), Kp (.inl s) → J yX11_goesRound cX11_goesRound 4 (some .boolean) 1 g rv μ' 4 [(0, .ref 1), (1, .int s.1), (2, .int s.2.1)] [] (eM s.2.2)) (o : ((Int32 × Int32 × jS) ⊕ (Int32 × jS))) (h : f_X11_goesRound_J43 σ x1 x2 = some o) (hK : Kp o) : J yX11_goesRound cX11_goesRound 4 (some .boolean) 1 g rv μ' 43 [(0, .ref 1), (1, .int x1), (2, .int x2)] [] (eM σ) := by
  unfold f_X11_goesRound_J43 at h
  replace h := bV_inv h
  obtain ⟨v33, ev33, h⟩ := h
  refine j_iinc (v := v33) [(2, .int v33), (0, .ref 1), (1, .int x1)] 2 dX11_goesRound_43 rfl (by rw [ev33]; rfl) (Nat.le_of_ble_eq_true rfl) rfl ?_
  refine j_goto 4 dX11_goesRound_46 (by decide) ?_
  replace h := Option.some.inj h
  subst h
  refine j_sub [(0, .ref 1), (1, .int x1), (2, .int v33)] [1, 2, 0] rfl ?_
  exact hc0 _ hK
def f_X11_goesRound_B4 (σ : jS) (x1 : Int32) (x2 : Int32) : Option ((Int32 × Int32 × jS) ⊕ (Int32 × jS)) :=
  if (gI σ 1 39) ≤ x2 then (jw (f_X11_goesRound_J49 σ x1))
  else (bG (jin x2 147968) (
  bG (jin x2 147968) (
  bV (sI σ 24 (ix x2) (gI σ 21 (ix x2))) fun σ31 =>
  bG (jin x2 147968) (
  if (gI σ31 24 (ix x2)) = 0 then (bG (jin x1 147968) (
  bV (sI σ31 25 (ix x1) x2) fun σ34 =>
  bV (x1 + 1) fun v35 =>
  f_X11_goesRound_J43 σ34 v35 x2))
  else (f_X11_goesRound_J43 σ31 x1 x2)))))
set_option maxHeartbeats 1000000 in
set_option maxRecDepth 20000 in
theorem f_X11_goesRound_B4_ok {g : Bool} {rv : Option Value} {μ' : jM} (σ : jS) (x1 : Int32) (x2 : Int32) {Kp : ((Int32 × Int32 × jS) ⊕ (Int32 × jS)) → Prop} (hn : Nat.ble nM μ'.1 = true ∧ Nat.ble wM μ'.2.1 = true) (hr : ∀ (r : Int32) (s : jS), Kp (.inr ((r, s))) → rv = some (.int r) ∧ μ' = eM s) (hc0 : ∀ s : (Int32 × Int32 × jS), Kp (.inl s) → J yX11_goesRound cX11_goesRound 4 (some .boolean) 1 g rv μ' 4 [(0, .ref 1), (1, .int s.1), (2, .int s.2.1)] [] (eM s.2.2)) (o : ((Int32 × Int32 × jS) ⊕ (Int32 × jS))) (h : f_X11_goesRound_B4 σ x1 x2 = some o) (hK : Kp o) : J yX11_goesRound cX11_goesRound 4 (some .boolean) 1 g rv μ' 4 [(0, .ref 1), (1, .int x1), (2, .int x2)] [] (eM σ) := by
  unfold f_X11_goesRound_B4 at h
  refine j_iload_n 2 dX11_goesRound_4 rfl rfl ?_
  refine j_aload_n 0 dX11_goesRound_5 rfl rfl ?_
  refine j_get (ci := 10) 39 (.int (gI σ 1 39)) jC_10 dX11_goesRound_6 kg_RX11_345 rfl (okM_1 _) (shM_1 _) (fvM_1_39 _) ?_
  refine j_icmp_ge 49 dX11_goesRound_9 (by decide) (fun hc36 => ?_) (fun hc36 => ?_)
  · replace h := jif_t hc36 h
    replace h := jw_inv h
    obtain ⟨o37, rfl, h⟩ := h
    refine j_sub [(0, .ref 1), (1, .int x1)] [0, 1] rfl ?_
    exact f_X11_goesRound_J49_ok (Kp := fun o => Kp (.inr (o))) σ x1 hn (fun r s q => hr r s q) _ h hK
  · replace h := jif_f hc36 h
    refine j_aload_n 0 dX11_goesRound_12 rfl rfl ?_
    refine j_get (ci := 10) 45 (.ref 24) jC_10 dX11_goesRound_13 kg_RX11_85 rfl (okM_1 _) (shM_1 _) (fvM_1_45 _) ?_
    refine j_iload_n 2 dX11_goesRound_16 rfl rfl ?_
    refine j_aload_n 0 dX11_goesRound_17 rfl rfl ?_
    refine j_get (ci := 10) 41 (.ref 21) jC_10 dX11_goesRound_18 kg_RX11_75 rfl (okM_1 _) (shM_1 _) (fvM_1_41 _) ?_
    refine j_iload_n 2 dX11_goesRound_21 rfl rfl ?_
    replace h := bG_inv h
    obtain ⟨hi38, h⟩ := h
    refine j_iaload dX11_goesRound_22 (okM_21 _) (shM_21 _) (jin_spec hi38) ?_
    replace h := bG_inv h
    obtain ⟨hi39, h⟩ := h
    refine j_iastore dX11_goesRound_23 (okM_24 _) (shM_24 _) (jin_spec hi39) ?_
    replace h := bV_inv h
    obtain ⟨σ40, eσ40, h⟩ := h
    refine j_mem (congrArg eM eσ40) ?_
    refine j_aload_n 0 dX11_goesRound_24 rfl rfl ?_
    refine j_get (ci := 10) 45 (.ref 24) jC_10 dX11_goesRound_25 kg_RX11_85 rfl (okM_1 _) (shM_1 _) (fvM_1_45 _) ?_
    refine j_iload_n 2 dX11_goesRound_28 rfl rfl ?_
    replace h := bG_inv h
    obtain ⟨hi41, h⟩ := h
    refine j_iaload dX11_goesRound_29 (okM_24 _) (shM_24 _) (jin_spec hi41) ?_
    refine j_if_ne 43 dX11_goesRound_30 (by decide) (fun hc42 => ?_) (fun hc42 => ?_)
    · replace h := jif_f hc42 h
      exact f_X11_goesRound_J43_ok σ40 x1 x2 hn hr hc0 _ h hK
    · replace h := jif_t hc42 h
      refine j_aload_n 0 dX11_goesRound_33 rfl rfl ?_
      refine j_get (ci := 10) 46 (.ref 25) jC_10 dX11_goesRound_34 kg_RX11_88 rfl (okM_1 _) (shM_1 _) (fvM_1_46 _) ?_
      refine j_iload_n 1 dX11_goesRound_37 rfl rfl ?_
      refine j_iload_n 2 dX11_goesRound_38 rfl rfl ?_
      replace h := bG_inv h
      obtain ⟨hi43, h⟩ := h
      refine j_iastore dX11_goesRound_39 (okM_25 _) (shM_25 _) (jin_spec hi43) ?_
      replace h := bV_inv h
      obtain ⟨σ44, eσ44, h⟩ := h
      refine j_mem (congrArg eM eσ44) ?_
      replace h := bV_inv h
      obtain ⟨v45, ev45, h⟩ := h
      refine j_iinc (v := v45) [(1, .int v45), (0, .ref 1), (2, .int x2)] 1 dX11_goesRound_40 rfl (by rw [ev45]; rfl) (Nat.le_of_ble_eq_true rfl) rfl ?_
      refine j_sub [(0, .ref 1), (1, .int v45), (2, .int x2)] [1, 0, 2] rfl ?_
      exact f_X11_goesRound_J43_ok σ44 v45 x2 hn hr hc0 _ h hK
def f_X11_goesRound (σ : jS) : Option (Int32 × jS) :=
  jloop jFuel (fun s => f_X11_goesRound_B4 s.2.2 s.1 s.2.1) (0, 0, σ)
set_option maxHeartbeats 1000000 in
set_option maxRecDepth 20000 in
theorem f_X11_goesRound_ok {g : Bool} {rv : Option Value} {μ' : jM} (σ : jS) {Kp : (Int32 × jS) → Prop} (hn : Nat.ble nM μ'.1 = true ∧ Nat.ble wM μ'.2.1 = true) (hr : ∀ (r : Int32) (s : jS), Kp ((r, s)) → rv = some (.int r) ∧ μ' = eM s) (o : (Int32 × jS)) (h : f_X11_goesRound σ = some o) (hK : Kp o) : J yX11_goesRound cX11_goesRound 4 (some .boolean) 1 g rv μ' 0 [(0, .ref 1)] [] (eM σ) := by
  unfold f_X11_goesRound at h
  refine j_iconst (v := 0) dX11_goesRound_0 (by decide) ?_
  refine j_istore_n [(1, .int 0), (0, .ref 1)] dX11_goesRound_1 rfl (Nat.le_of_ble_eq_true rfl) rfl ?_
  refine j_iconst (v := 0) dX11_goesRound_2 (by decide) ?_
  refine j_istore_n [(2, .int 0), (1, .int 0), (0, .ref 1)] dX11_goesRound_3 rfl (Nat.le_of_ble_eq_true rfl) rfl ?_
  refine j_sub [(0, .ref 1), (1, .int 0), (2, .int 0)] [2, 1, 0] rfl ?_
  exact jloop_ok (fun s => f_X11_goesRound_B4 s.2.2 s.1 s.2.1) (fun s => J yX11_goesRound cX11_goesRound 4 (some .boolean) 1 g rv μ' 4 [(0, .ref 1), (1, .int s.1), (2, .int s.2.1)] [] (eM s.2.2)) Kp (fun s o hb hk => f_X11_goesRound_B4_ok (Kp := jsum (fun s => J yX11_goesRound cX11_goesRound 4 (some .boolean) 1 g rv μ' 4 [(0, .ref 1), (1, .int s.1), (2, .int s.2.1)] [] (eM s.2.2)) Kp) s.2.2 s.1 s.2.1 hn (fun r s q => hr r s q) (fun s q => q) o hb hk) jFuel _ _ h hK
theorem c_X11_goesRound (g : Bool) {σ : jS} {r : Int32} {σ2 : jS} (h : f_X11_goesRound σ = some (r, σ2)) : Cn yX11_goesRound cX11_goesRound 4 (some .boolean) 1 g [.ref 1] (eM σ) (some (.int r)) (eM σ2) :=
  Cn_of (by decide) (Nat.le_refl _) (Nat.le_refl _) (Nat.le_of_ble_eq_true rfl) (f_X11_goesRound_ok (Kp := (fun o => o = (r, σ2))) σ ⟨jbr _, jbr _⟩ (fun r2 s2 q => by cases q; exact ⟨rfl, rfl⟩) _ h rfl)
def f_X11_reach_J132 (σ : jS) : Option (Unit × jS) :=
  some (((), σ))
set_option maxHeartbeats 1000000 in
set_option maxRecDepth 20000 in
theorem f_X11_reach_J132_ok {g : Bool} {rv : Option Value} {μ' : jM} (σ : jS) {Kp : (Unit × jS) → Prop} (hn : Nat.ble nM μ'.1 = true ∧ Nat.ble wM μ'.2.1 = true) (hr : ∀ (r : Unit) (s : jS), Kp ((r, s)) → rv = none ∧ μ' = eM s) (o : (Unit × jS)) (h : f_X11_reach_J132 σ = some o) (hK : Kp o) : J yX11_reach cX11_reach 3 none 1 g rv μ' 132 [] [] (eM σ) := by
  unfold f_X11_reach_J132 at h
  replace h := Option.some.inj h
  subst h
  obtain ⟨hr1, hr2⟩ := hr _ _ hK
  exact j_vret dX11_reach_132 hr1 hr2
def f_X11_reach_J59 (σ : jS) (x1 : Int32) (x2 : Int32) : Option (Unit × jS) :=
  if x1 < 0 then (f_X11_reach_J132 σ)
  else (bG (jin (gI σ 1 44) 620000) (
  bV (sI σ 22 (ix (gI σ 1 44)) x1) fun σ1 =>
  bG (jin x2 147968) (
  bG (jin ((gI σ1 18 (ix x2)) - (1 : Int32)) 147968) (
  bG (jin (gI σ1 1 44) 620000) (
  bV (sI σ1 23 (ix (gI σ1 1 44)) (gI σ1 20 (ix ((gI σ1 18 (ix x2)) - (1 : Int32))))) fun σ2 =>
  bG (jin x2 147968) (
  bG (jin ((gI σ2 18 (ix x2)) - (1 : Int32)) 147968) (
  bV (sI σ2 20 (ix ((gI σ2 18 (ix x2)) - (1 : Int32))) (gI σ2 1 44)) fun σ3 =>
  bG (jin x1 147968) (
  bG (jin x1 147968) (
  bV (sI σ3 21 (ix x1) ((gI σ3 21 (ix x1)) + (1 : Int32))) fun σ4 =>
  bV (sI σ4 1 44 ((gI σ4 1 44) + (1 : Int32))) fun σ5 =>
  f_X11_reach_J132 σ5)))))))))
set_option maxHeartbeats 1000000 in
set_option maxRecDepth 20000 in
theorem f_X11_reach_J59_ok {g : Bool} {rv : Option Value} {μ' : jM} (σ : jS) (x1 : Int32) (x2 : Int32) {Kp : (Unit × jS) → Prop} (hn : Nat.ble nM μ'.1 = true ∧ Nat.ble wM μ'.2.1 = true) (hr : ∀ (r : Unit) (s : jS), Kp ((r, s)) → rv = none ∧ μ' = eM s) (o : (Unit × jS)) (h : f_X11_reach_J59 σ x1 x2 = some o) (hK : Kp o) : J yX11_reach cX11_reach 3 none 1 g rv μ' 59 [(0, .ref 1), (1, .int x1), (2, .int x2)] [] (eM σ) := by
  unfold f_X11_reach_J59 at h
  refine j_iload_n 1 dX11_reach_59 rfl rfl ?_
  refine j_if_lt 132 dX11_reach_60 (by decide) (fun hc6 => ?_) (fun hc6 => ?_)
  · replace h := jif_t hc6 h
    refine j_sub [] [] rfl ?_
    exact f_X11_reach_J132_ok σ hn hr _ h hK
  · replace h := jif_f hc6 h
    refine j_aload_n 0 dX11_reach_63 rfl rfl ?_
    refine j_get (ci := 10) 42 (.ref 22) jC_10 dX11_reach_64 kg_RX11_79 rfl (okM_1 _) (shM_1 _) (fvM_1_42 _) ?_
    refine j_aload_n 0 dX11_reach_67 rfl rfl ?_
    refine j_get (ci := 10) 44 (.int (gI σ 1 44)) jC_10 dX11_reach_68 kg_RX11_348 rfl (okM_1 _) (shM_1 _) (fvM_1_44 _) ?_
    refine j_iload_n 1 dX11_reach_71 rfl rfl ?_
    replace h := bG_inv h
    obtain ⟨hi7, h⟩ := h
    refine j_iastore dX11_reach_72 (okM_22 _) (shM_22 _) (jin_spec hi7) ?_
    replace h := bV_inv h
    obtain ⟨σ8, eσ8, h⟩ := h
    refine j_mem (congrArg eM eσ8) ?_
    refine j_aload_n 0 dX11_reach_73 rfl rfl ?_
    refine j_get (ci := 10) 43 (.ref 23) jC_10 dX11_reach_74 kg_RX11_82 rfl (okM_1 _) (shM_1 _) (fvM_1_43 _) ?_
    refine j_aload_n 0 dX11_reach_77 rfl rfl ?_
    refine j_get (ci := 10) 44 (.int (gI σ8 1 44)) jC_10 dX11_reach_78 kg_RX11_348 rfl (okM_1 _) (shM_1 _) (fvM_1_44 _) ?_
    refine j_aload_n 0 dX11_reach_81 rfl rfl ?_
    refine j_get (ci := 10) 40 (.ref 20) jC_10 dX11_reach_82 kg_RX11_72 rfl (okM_1 _) (shM_1 _) (fvM_1_40 _) ?_
    refine j_aload_n 0 dX11_reach_85 rfl rfl ?_
    refine j_get (ci := 10) 37 (.ref 18) jC_10 dX11_reach_86 kg_RX11_66 rfl (okM_1 _) (shM_1 _) (fvM_1_37 _) ?_
    refine j_iload_n 2 dX11_reach_89 rfl rfl ?_
    replace h := bG_inv h
    obtain ⟨hi9, h⟩ := h
    refine j_iaload dX11_reach_90 (okM_18 _) (shM_18 _) (jin_spec hi9) ?_
    refine j_iconst (v := 1) dX11_reach_91 (by decide) ?_
    refine j_isub dX11_reach_92 ?_
    replace h := bG_inv h
    obtain ⟨hi10, h⟩ := h
    refine j_iaload dX11_reach_93 (okM_20 _) (shM_20 _) (jin_spec hi10) ?_
    replace h := bG_inv h
    obtain ⟨hi11, h⟩ := h
    refine j_iastore dX11_reach_94 (okM_23 _) (shM_23 _) (jin_spec hi11) ?_
    replace h := bV_inv h
    obtain ⟨σ12, eσ12, h⟩ := h
    refine j_mem (congrArg eM eσ12) ?_
    refine j_aload_n 0 dX11_reach_95 rfl rfl ?_
    refine j_get (ci := 10) 40 (.ref 20) jC_10 dX11_reach_96 kg_RX11_72 rfl (okM_1 _) (shM_1 _) (fvM_1_40 _) ?_
    refine j_aload_n 0 dX11_reach_99 rfl rfl ?_
    refine j_get (ci := 10) 37 (.ref 18) jC_10 dX11_reach_100 kg_RX11_66 rfl (okM_1 _) (shM_1 _) (fvM_1_37 _) ?_
    refine j_iload_n 2 dX11_reach_103 rfl rfl ?_
    replace h := bG_inv h
    obtain ⟨hi13, h⟩ := h
    refine j_iaload dX11_reach_104 (okM_18 _) (shM_18 _) (jin_spec hi13) ?_
    refine j_iconst (v := 1) dX11_reach_105 (by decide) ?_
    refine j_isub dX11_reach_106 ?_
    refine j_aload_n 0 dX11_reach_107 rfl rfl ?_
    refine j_get (ci := 10) 44 (.int (gI σ12 1 44)) jC_10 dX11_reach_108 kg_RX11_348 rfl (okM_1 _) (shM_1 _) (fvM_1_44 _) ?_
    replace h := bG_inv h
    obtain ⟨hi14, h⟩ := h
    refine j_iastore dX11_reach_111 (okM_20 _) (shM_20 _) (jin_spec hi14) ?_
    replace h := bV_inv h
    obtain ⟨σ15, eσ15, h⟩ := h
    refine j_mem (congrArg eM eσ15) ?_
    refine j_aload_n 0 dX11_reach_112 rfl rfl ?_
    refine j_get (ci := 10) 41 (.ref 21) jC_10 dX11_reach_113 kg_RX11_75 rfl (okM_1 _) (shM_1 _) (fvM_1_41 _) ?_
    refine j_iload_n 1 dX11_reach_116 rfl rfl ?_
    refine j_dup2 dX11_reach_117 rfl rfl ?_
    replace h := bG_inv h
    obtain ⟨hi16, h⟩ := h
    refine j_iaload dX11_reach_118 (okM_21 _) (shM_21 _) (jin_spec hi16) ?_
    refine j_iconst (v := 1) dX11_reach_119 (by decide) ?_
    refine j_iadd dX11_reach_120 ?_
    replace h := bG_inv h
    obtain ⟨hi17, h⟩ := h
    refine j_iastore dX11_reach_121 (okM_21 _) (shM_21 _) (jin_spec hi17) ?_
    replace h := bV_inv h
    obtain ⟨σ18, eσ18, h⟩ := h
    refine j_mem (congrArg eM eσ18) ?_
    refine j_aload_n 0 dX11_reach_122 rfl rfl ?_
    refine j_dup dX11_reach_123 rfl ?_
    refine j_get (ci := 10) 44 (.int (gI σ18 1 44)) jC_10 dX11_reach_124 kg_RX11_348 rfl (okM_1 _) (shM_1 _) (fvM_1_44 _) ?_
    refine j_iconst (v := 1) dX11_reach_127 (by decide) ?_
    refine j_iadd dX11_reach_128 ?_
    replace h := bV_inv h
    obtain ⟨σ19, eσ19, h⟩ := h
    refine j_putI 44 jC_10 dX11_reach_129 kg_RX11_348 (Or.inl ff_10_44) rfl fk_10_44 (fn_10_44 _) (okM_1 _) (shM_1 _) ?_
    refine j_mem (congrArg eM eσ19) ?_
    refine j_sub [] [] rfl ?_
    exact f_X11_reach_J132_ok σ19 hn hr _ h hK
def f_X11_reach (σ : jS) (x1 : Int32) (x2 : Int32) : Option (Unit × jS) :=
  bG (jin x2 147968) (
  if (gI σ 18 (ix x2)) = 0 then (bG (jin (gI σ 1 39) 147968) (
  bV (sI σ 19 (ix (gI σ 1 39)) x2) fun σ20 =>
  bG (jin (gI σ20 1 39) 147968) (
  bV (sI σ20 20 (ix (gI σ20 1 39)) (-1)) fun σ21 =>
  bG (jin (gI σ21 1 39) 147968) (
  bV (sI σ21 21 (ix (gI σ21 1 39)) 0) fun σ22 =>
  bV (sI σ22 1 39 ((gI σ22 1 39) + (1 : Int32))) fun σ23 =>
  bG (jin x2 147968) (
  bV (sI σ23 18 (ix x2) (gI σ23 1 39)) fun σ24 =>
  f_X11_reach_J59 σ24 x1 x2)))))
  else (f_X11_reach_J59 σ x1 x2))
set_option maxHeartbeats 1000000 in
set_option maxRecDepth 20000 in
theorem f_X11_reach_ok {g : Bool} {rv : Option Value} {μ' : jM} (σ : jS) (x1 : Int32) (x2 : Int32) {Kp : (Unit × jS) → Prop} (hn : Nat.ble nM μ'.1 = true ∧ Nat.ble wM μ'.2.1 = true) (hr : ∀ (r : Unit) (s : jS), Kp ((r, s)) → rv = none ∧ μ' = eM s) (o : (Unit × jS)) (h : f_X11_reach σ x1 x2 = some o) (hK : Kp o) : J yX11_reach cX11_reach 3 none 1 g rv μ' 0 [(0, .ref 1), (1, .int x1), (2, .int x2)] [] (eM σ) := by
  unfold f_X11_reach at h
  refine j_aload_n 0 dX11_reach_0 rfl rfl ?_
  refine j_get (ci := 10) 37 (.ref 18) jC_10 dX11_reach_1 kg_RX11_66 rfl (okM_1 _) (shM_1 _) (fvM_1_37 _) ?_
  refine j_iload_n 2 dX11_reach_4 rfl rfl ?_
  replace h := bG_inv h
  obtain ⟨hi25, h⟩ := h
  refine j_iaload dX11_reach_5 (okM_18 _) (shM_18 _) (jin_spec hi25) ?_
  refine j_if_ne 59 dX11_reach_6 (by decide) (fun hc26 => ?_) (fun hc26 => ?_)
  · replace h := jif_f hc26 h
    exact f_X11_reach_J59_ok σ x1 x2 hn hr _ h hK
  · replace h := jif_t hc26 h
    refine j_aload_n 0 dX11_reach_9 rfl rfl ?_
    refine j_get (ci := 10) 38 (.ref 19) jC_10 dX11_reach_10 kg_RX11_69 rfl (okM_1 _) (shM_1 _) (fvM_1_38 _) ?_
    refine j_aload_n 0 dX11_reach_13 rfl rfl ?_
    refine j_get (ci := 10) 39 (.int (gI σ 1 39)) jC_10 dX11_reach_14 kg_RX11_345 rfl (okM_1 _) (shM_1 _) (fvM_1_39 _) ?_
    refine j_iload_n 2 dX11_reach_17 rfl rfl ?_
    replace h := bG_inv h
    obtain ⟨hi27, h⟩ := h
    refine j_iastore dX11_reach_18 (okM_19 _) (shM_19 _) (jin_spec hi27) ?_
    replace h := bV_inv h
    obtain ⟨σ28, eσ28, h⟩ := h
    refine j_mem (congrArg eM eσ28) ?_
    refine j_aload_n 0 dX11_reach_19 rfl rfl ?_
    refine j_get (ci := 10) 40 (.ref 20) jC_10 dX11_reach_20 kg_RX11_72 rfl (okM_1 _) (shM_1 _) (fvM_1_40 _) ?_
    refine j_aload_n 0 dX11_reach_23 rfl rfl ?_
    refine j_get (ci := 10) 39 (.int (gI σ28 1 39)) jC_10 dX11_reach_24 kg_RX11_345 rfl (okM_1 _) (shM_1 _) (fvM_1_39 _) ?_
    refine j_iconst (v := (-1)) dX11_reach_27 (by decide) ?_
    replace h := bG_inv h
    obtain ⟨hi29, h⟩ := h
    refine j_iastore dX11_reach_28 (okM_20 _) (shM_20 _) (jin_spec hi29) ?_
    replace h := bV_inv h
    obtain ⟨σ30, eσ30, h⟩ := h
    refine j_mem (congrArg eM eσ30) ?_
    refine j_aload_n 0 dX11_reach_29 rfl rfl ?_
    refine j_get (ci := 10) 41 (.ref 21) jC_10 dX11_reach_30 kg_RX11_75 rfl (okM_1 _) (shM_1 _) (fvM_1_41 _) ?_
    refine j_aload_n 0 dX11_reach_33 rfl rfl ?_
    refine j_get (ci := 10) 39 (.int (gI σ30 1 39)) jC_10 dX11_reach_34 kg_RX11_345 rfl (okM_1 _) (shM_1 _) (fvM_1_39 _) ?_
    refine j_iconst (v := 0) dX11_reach_37 (by decide) ?_
    replace h := bG_inv h
    obtain ⟨hi31, h⟩ := h
    refine j_iastore dX11_reach_38 (okM_21 _) (shM_21 _) (jin_spec hi31) ?_
    replace h := bV_inv h
    obtain ⟨σ32, eσ32, h⟩ := h
    refine j_mem (congrArg eM eσ32) ?_
    refine j_aload_n 0 dX11_reach_39 rfl rfl ?_
    refine j_dup dX11_reach_40 rfl ?_
    refine j_get (ci := 10) 39 (.int (gI σ32 1 39)) jC_10 dX11_reach_41 kg_RX11_345 rfl (okM_1 _) (shM_1 _) (fvM_1_39 _) ?_
    refine j_iconst (v := 1) dX11_reach_44 (by decide) ?_
    refine j_iadd dX11_reach_45 ?_
    replace h := bV_inv h
    obtain ⟨σ33, eσ33, h⟩ := h
    refine j_putI 39 jC_10 dX11_reach_46 kg_RX11_345 (Or.inl ff_10_39) rfl fk_10_39 (fn_10_39 _) (okM_1 _) (shM_1 _) ?_
    refine j_mem (congrArg eM eσ33) ?_
    refine j_aload_n 0 dX11_reach_49 rfl rfl ?_
    refine j_get (ci := 10) 37 (.ref 18) jC_10 dX11_reach_50 kg_RX11_66 rfl (okM_1 _) (shM_1 _) (fvM_1_37 _) ?_
    refine j_iload_n 2 dX11_reach_53 rfl rfl ?_
    refine j_aload_n 0 dX11_reach_54 rfl rfl ?_
    refine j_get (ci := 10) 39 (.int (gI σ33 1 39)) jC_10 dX11_reach_55 kg_RX11_345 rfl (okM_1 _) (shM_1 _) (fvM_1_39 _) ?_
    replace h := bG_inv h
    obtain ⟨hi34, h⟩ := h
    refine j_iastore dX11_reach_58 (okM_18 _) (shM_18 _) (jin_spec hi34) ?_
    replace h := bV_inv h
    obtain ⟨σ35, eσ35, h⟩ := h
    refine j_mem (congrArg eM eσ35) ?_
    exact f_X11_reach_J59_ok σ35 x1 x2 hn hr _ h hK
theorem c_X11_reach (g : Bool) {σ : jS} {x1 : Int32} {x2 : Int32} {r : Unit} {σ2 : jS} (h : f_X11_reach σ x1 x2 = some (r, σ2)) : Cn yX11_reach cX11_reach 3 none 1 g [.ref 1, .int x1, .int x2] (eM σ) none (eM σ2) :=
  Cn_of (by decide) (Nat.le_refl _) (Nat.le_refl _) (Nat.le_of_ble_eq_true rfl) (f_X11_reach_ok (Kp := (fun o => o = (r, σ2))) σ x1 x2 ⟨jbr _, jbr _⟩ (fun r2 s2 q => by cases q; exact ⟨rfl, rfl⟩) _ h rfl)
def f_X11_spread_J184 (σ : jS) : Option (Unit × jS) :=
  some (((), σ))
set_option maxHeartbeats 1000000 in
set_option maxRecDepth 20000 in
theorem f_X11_spread_J184_ok {g : Bool} {rv : Option Value} {μ' : jM} (σ : jS) {Kp : (Unit × jS) → Prop} (hn : Nat.ble nM μ'.1 = true ∧ Nat.ble wM μ'.2.1 = true) (hr : ∀ (r : Unit) (s : jS), Kp ((r, s)) → rv = none ∧ μ' = eM s) (o : (Unit × jS)) (h : f_X11_spread_J184 σ = some o) (hK : Kp o) : J yX11_spread cX11_spread 8 none 4 g rv μ' 184 [] [] (eM σ) := by
  unfold f_X11_spread_J184 at h
  replace h := Option.some.inj h
  subst h
  obtain ⟨hr1, hr2⟩ := hr _ _ hK
  exact j_vret dX11_spread_184 hr1 hr2
def f_X11_spread_J178 (σ : jS) (x2 : Int32) (x3 : Int32) : Option ((Int32 × jS) ⊕ (Unit × jS)) :=
  bV (x3 + 1) fun v7 =>
  some (.inl (v7, σ))
set_option maxHeartbeats 1000000 in
set_option maxRecDepth 20000 in
theorem f_X11_spread_J178_ok {g : Bool} {rv : Option Value} {μ' : jM} (σ : jS) (x2 : Int32) (x3 : Int32) {Kp : ((Int32 × jS) ⊕ (Unit × jS)) → Prop} (hn : Nat.ble nM μ'.1 = true ∧ Nat.ble wM μ'.2.1 = true) (hr : ∀ (r : Unit) (s : jS), Kp (.inr ((r, s))) → rv = none ∧ μ' = eM s) (hc0 : ∀ s : (Int32 × jS), Kp (.inl s) → J yX11_spread cX11_spread 8 none 4 g rv μ' 46 [(0, .ref 1), (2, .int x2), (3, .int s.1)] [] (eM s.2)) (o : ((Int32 × jS) ⊕ (Unit × jS))) (h : f_X11_spread_J178 σ x2 x3 = some o) (hK : Kp o) : J yX11_spread cX11_spread 8 none 4 g rv μ' 178 [(0, .ref 1), (2, .int x2), (3, .int x3)] [] (eM σ) := by
  unfold f_X11_spread_J178 at h
  replace h := bV_inv h
  obtain ⟨v8, ev8, h⟩ := h
  refine j_iinc (v := v8) [(3, .int v8), (0, .ref 1), (2, .int x2)] 2 dX11_spread_178 rfl (by rw [ev8]; rfl) (Nat.le_of_ble_eq_true rfl) rfl ?_
  refine j_goto 46 dX11_spread_181 (by decide) ?_
  replace h := Option.some.inj h
  subst h
  refine j_sub [(0, .ref 1), (2, .int x2), (3, .int v8)] [1, 2, 0] rfl ?_
  exact hc0 _ hK
def f_X11_spread_J172 (σ : jS) (x2 : Int32) (x3 : Int32) (x4 : Int32) (x6 : Int32) (x7 : Int32) : Option ((Int32 × jS) ⊕ ((Int32 × jS) ⊕ (Unit × jS))) :=
  bV (x7 + 1) fun v12 =>
  some (.inl (v12, σ))
set_option maxHeartbeats 1000000 in
set_option maxRecDepth 20000 in
theorem f_X11_spread_J172_ok {g : Bool} {rv : Option Value} {μ' : jM} (σ : jS) (x2 : Int32) (x3 : Int32) (x4 : Int32) (x6 : Int32) (x7 : Int32) {Kp : ((Int32 × jS) ⊕ ((Int32 × jS) ⊕ (Unit × jS))) → Prop} (hn : Nat.ble nM μ'.1 = true ∧ Nat.ble wM μ'.2.1 = true) (hr : ∀ (r : Unit) (s : jS), Kp (.inr (.inr ((r, s)))) → rv = none ∧ μ' = eM s) (hc0 : ∀ s : (Int32 × jS), Kp (.inr (.inl s)) → J yX11_spread cX11_spread 8 none 4 g rv μ' 46 [(0, .ref 1), (2, .int x2), (3, .int s.1)] [] (eM s.2)) (hc1 : ∀ s : (Int32 × jS), Kp (.inl s) → J yX11_spread cX11_spread 8 none 4 g rv μ' 140 [(0, .ref 1), (2, .int x2), (3, .int x3), (4, .int x4), (6, .int x6), (7, .int s.1)] [] (eM s.2)) (o : ((Int32 × jS) ⊕ ((Int32 × jS) ⊕ (Unit × jS)))) (h : f_X11_spread_J172 σ x2 x3 x4 x6 x7 = some o) (hK : Kp o) : J yX11_spread cX11_spread 8 none 4 g rv μ' 172 [(0, .ref 1), (2, .int x2), (3, .int x3), (4, .int x4), (6, .int x6), (7, .int x7)] [] (eM σ) := by
  unfold f_X11_spread_J172 at h
  replace h := bV_inv h
  obtain ⟨v13, ev13, h⟩ := h
  refine j_iinc (v := v13) [(7, .int v13), (0, .ref 1), (2, .int x2), (3, .int x3), (4, .int x4), (6, .int x6)] 5 dX11_spread_172 rfl (by rw [ev13]; rfl) (Nat.le_of_ble_eq_true rfl) rfl ?_
  refine j_goto 140 dX11_spread_175 (by decide) ?_
  replace h := Option.some.inj h
  subst h
  refine j_sub [(0, .ref 1), (2, .int x2), (3, .int x3), (4, .int x4), (6, .int x6), (7, .int v13)] [1, 2, 3, 4, 5, 0] rfl ?_
  exact hc1 _ hK
def f_X11_spread_B140 (σ : jS) (x2 : Int32) (x3 : Int32) (x4 : Int32) (x6 : Int32) (x7 : Int32) : Option ((Int32 × jS) ⊕ ((Int32 × jS) ⊕ (Unit × jS))) :=
  if (gI σ 1 0) ≤ x7 then (jw (f_X11_spread_J178 σ x2 x3))
  else (bC (f_X11_has x6 x7) fun r11 =>
  if r11 = 0 then (f_X11_spread_J172 σ x2 x3 x4 x6 x7)
  else (bC (f_X11_behind σ x4 x7) fun r14 =>
  bD (f_X11_reach σ x3 r14) fun r15 σ16 =>
  f_X11_spread_J172 σ16 x2 x3 x4 x6 x7))
set_option maxHeartbeats 1000000 in
set_option maxRecDepth 20000 in
theorem f_X11_spread_B140_ok {g : Bool} {rv : Option Value} {μ' : jM} (σ : jS) (x2 : Int32) (x3 : Int32) (x4 : Int32) (x6 : Int32) (x7 : Int32) {Kp : ((Int32 × jS) ⊕ ((Int32 × jS) ⊕ (Unit × jS))) → Prop} (hn : Nat.ble nM μ'.1 = true ∧ Nat.ble wM μ'.2.1 = true) (hr : ∀ (r : Unit) (s : jS), Kp (.inr (.inr ((r, s)))) → rv = none ∧ μ' = eM s) (hc0 : ∀ s : (Int32 × jS), Kp (.inr (.inl s)) → J yX11_spread cX11_spread 8 none 4 g rv μ' 46 [(0, .ref 1), (2, .int x2), (3, .int s.1)] [] (eM s.2)) (hc1 : ∀ s : (Int32 × jS), Kp (.inl s) → J yX11_spread cX11_spread 8 none 4 g rv μ' 140 [(0, .ref 1), (2, .int x2), (3, .int x3), (4, .int x4), (6, .int x6), (7, .int s.1)] [] (eM s.2)) (o : ((Int32 × jS) ⊕ ((Int32 × jS) ⊕ (Unit × jS)))) (h : f_X11_spread_B140 σ x2 x3 x4 x6 x7 = some o) (hK : Kp o) : J yX11_spread cX11_spread 8 none 4 g rv μ' 140 [(0, .ref 1), (2, .int x2), (3, .int x3), (4, .int x4), (6, .int x6), (7, .int x7)] [] (eM σ) := by
  unfold f_X11_spread_B140 at h
  refine j_iload 5 dX11_spread_140 rfl ?_
  refine j_aload_n 0 dX11_spread_142 rfl rfl ?_
  refine j_get (ci := 10) 0 (.int (gI σ 1 0)) jC_10 dX11_spread_143 kg_RX11_141 rfl (okM_1 _) (shM_1 _) (fvM_1_0 _) ?_
  refine j_icmp_ge 178 dX11_spread_146 (by decide) (fun hc17 => ?_) (fun hc17 => ?_)
  · replace h := jif_t hc17 h
    replace h := jw_inv h
    obtain ⟨o18, rfl, h⟩ := h
    refine j_sub [(0, .ref 1), (2, .int x2), (3, .int x3)] [0, 1, 2] rfl ?_
    exact f_X11_spread_J178_ok (Kp := fun o => Kp (.inr (o))) σ x2 x3 hn (fun r s q => hr r s q) (fun s q => hc0 s q) _ h hK
  · replace h := jif_f hc17 h
    refine j_iload 4 dX11_spread_149 rfl ?_
    refine j_iload 5 dX11_spread_151 rfl ?_
    replace h := bC_inv h
    obtain ⟨r19, cr19, h⟩ := h
    refine j_callS (st1 := .int r19 :: _) (c_X11_has g _ cr19) jy_X11_has kt_yX11_has kl_RX11_287 dX11_spread_153 rfl rfl rfl rfl (jbr _) (jbr _) hn.1 hn.2 (Or.inr rfl) rfl ?_
    refine j_if_eq 172 dX11_spread_156 (by decide) (fun hc20 => ?_) (fun hc20 => ?_)
    · replace h := jif_t hc20 h
      exact f_X11_spread_J172_ok σ x2 x3 x4 x6 x7 hn hr hc0 hc1 _ h hK
    · replace h := jif_f hc20 h
      refine j_aload_n 0 dX11_spread_159 rfl rfl ?_
      refine j_iload_n 2 dX11_spread_160 rfl rfl ?_
      refine j_aload_n 0 dX11_spread_161 rfl rfl ?_
      refine j_iload 3 dX11_spread_162 rfl ?_
      refine j_iload 5 dX11_spread_164 rfl ?_
      replace h := bC_inv h
      obtain ⟨r21, cr21, h⟩ := h
      refine j_callV (ci := 10) (st1 := .int r21 :: _) (c_X11_behind g cr21) jy_X11_behind ki_yX11_behind ks_yX11_behind kl_RX11_337 dX11_spread_166 rfl (okM_1 _) (shM_1 _) rfl rfl rfl rfl (jbr _) (jbr _) hn.1 hn.2 (Or.inr rfl) rfl ?_
      replace h := bD_inv h
      obtain ⟨r22, σ23, cr22, h⟩ := h
      refine j_callV (ci := 10) (st1 := _) (c_X11_reach g cr22) jy_X11_reach ki_yX11_reach ks_yX11_reach kl_RX11_351 dX11_spread_169 rfl (okM_1 _) (shM_1 _) rfl rfl rfl rfl (jbr _) (jbr _) hn.1 hn.2 (Or.inr rfl) rfl ?_
      exact f_X11_spread_J172_ok σ23 x2 x3 x4 x6 x7 hn hr hc0 hc1 _ h hK
def f_X11_spread_J137 (σ : jS) (x2 : Int32) (x3 : Int32) (x4 : Int32) (x6 : Int32) : Option ((Int32 × jS) ⊕ (Unit × jS)) :=
  jloop jFuel (fun s => f_X11_spread_B140 s.2 x2 x3 x4 x6 s.1) (0, σ)
set_option maxHeartbeats 1000000 in
set_option maxRecDepth 20000 in
theorem f_X11_spread_J137_ok {g : Bool} {rv : Option Value} {μ' : jM} (σ : jS) (x2 : Int32) (x3 : Int32) (x4 : Int32) (x6 : Int32) {Kp : ((Int32 × jS) ⊕ (Unit × jS)) → Prop} (hn : Nat.ble nM μ'.1 = true ∧ Nat.ble wM μ'.2.1 = true) (hr : ∀ (r : Unit) (s : jS), Kp (.inr ((r, s))) → rv = none ∧ μ' = eM s) (hc0 : ∀ s : (Int32 × jS), Kp (.inl s) → J yX11_spread cX11_spread 8 none 4 g rv μ' 46 [(0, .ref 1), (2, .int x2), (3, .int s.1)] [] (eM s.2)) (o : ((Int32 × jS) ⊕ (Unit × jS))) (h : f_X11_spread_J137 σ x2 x3 x4 x6 = some o) (hK : Kp o) : J yX11_spread cX11_spread 8 none 4 g rv μ' 137 [(0, .ref 1), (2, .int x2), (3, .int x3), (4, .int x4), (6, .int x6)] [] (eM σ) := by
  unfold f_X11_spread_J137 at h
  refine j_iconst (v := 0) dX11_spread_137 (by decide) ?_
  refine j_istore [(7, .int 0), (0, .ref 1), (2, .int x2), (3, .int x3), (4, .int x4), (6, .int x6)] dX11_spread_138 (Nat.le_of_ble_eq_true rfl) rfl ?_
  refine j_sub [(0, .ref 1), (2, .int x2), (3, .int x3), (4, .int x4), (6, .int x6), (7, .int 0)] [1, 2, 3, 4, 5, 0] rfl ?_
  exact jloop_ok (fun s => f_X11_spread_B140 s.2 x2 x3 x4 x6 s.1) (fun s => J yX11_spread cX11_spread 8 none 4 g rv μ' 140 [(0, .ref 1), (2, .int x2), (3, .int x3), (4, .int x4), (6, .int x6), (7, .int s.1)] [] (eM s.2)) Kp (fun s o hb hk => f_X11_spread_B140_ok (Kp := jsum (fun s => J yX11_spread cX11_spread 8 none 4 g rv μ' 140 [(0, .ref 1), (2, .int x2), (3, .int x3), (4, .int x4), (6, .int x6), (7, .int s.1)] [] (eM s.2)) Kp) s.2 x2 x3 x4 x6 s.1 hn (fun r s q => hr r s q) (fun s q => hc0 s q) (fun s q => q) o hb hk) jFuel _ _ h hK
def f_X11_spread_J107 (σ : jS) (x2 : Int32) (x3 : Int32) (x4 : Int32) : Option ((Int32 × jS) ⊕ (Unit × jS)) :=
  bC (f_X11_side x4) fun r9 =>
  bC (f_X11_mayOf σ x4 r9) fun r10 =>
  if r10 = 0 then (bC (f_X11_behind σ x4 (-1)) fun r24 =>
  bD (f_X11_reach σ x3 r24) fun r25 σ26 =>
  f_X11_spread_J137 σ26 x2 x3 x4 r10)
  else (f_X11_spread_J137 σ x2 x3 x4 r10)
set_option maxHeartbeats 1000000 in
set_option maxRecDepth 20000 in
theorem f_X11_spread_J107_ok {g : Bool} {rv : Option Value} {μ' : jM} (σ : jS) (x2 : Int32) (x3 : Int32) (x4 : Int32) {Kp : ((Int32 × jS) ⊕ (Unit × jS)) → Prop} (hn : Nat.ble nM μ'.1 = true ∧ Nat.ble wM μ'.2.1 = true) (hr : ∀ (r : Unit) (s : jS), Kp (.inr ((r, s))) → rv = none ∧ μ' = eM s) (hc0 : ∀ s : (Int32 × jS), Kp (.inl s) → J yX11_spread cX11_spread 8 none 4 g rv μ' 46 [(0, .ref 1), (2, .int x2), (3, .int s.1)] [] (eM s.2)) (o : ((Int32 × jS) ⊕ (Unit × jS))) (h : f_X11_spread_J107 σ x2 x3 x4 = some o) (hK : Kp o) : J yX11_spread cX11_spread 8 none 4 g rv μ' 107 [(0, .ref 1), (2, .int x2), (3, .int x3), (4, .int x4)] [] (eM σ) := by
  unfold f_X11_spread_J107 at h
  refine j_aload_n 0 dX11_spread_107 rfl rfl ?_
  refine j_iload 3 dX11_spread_108 rfl ?_
  refine j_iload 3 dX11_spread_110 rfl ?_
  replace h := bC_inv h
  obtain ⟨r27, cr27, h⟩ := h
  refine j_callS (st1 := .int r27 :: _) (c_X11_side g _ cr27) jy_X11_side kt_yX11_side kl_RX11_277 dX11_spread_112 rfl rfl rfl rfl (jbr _) (jbr _) hn.1 hn.2 (Or.inr rfl) rfl ?_
  replace h := bC_inv h
  obtain ⟨r28, cr28, h⟩ := h
  refine j_callV (ci := 10) (st1 := .int r28 :: _) (c_X11_mayOf g cr28) jy_X11_mayOf ki_yX11_mayOf ks_yX11_mayOf kl_RX11_306 dX11_spread_115 rfl (okM_1 _) (shM_1 _) rfl rfl rfl rfl (jbr _) (jbr _) hn.1 hn.2 (Or.inr rfl) rfl ?_
  refine j_istore [(6, .int r28), (0, .ref 1), (2, .int x2), (3, .int x3), (4, .int x4)] dX11_spread_118 (Nat.le_of_ble_eq_true rfl) rfl ?_
  refine j_iload 0 dX11_spread_120 rfl ?_
  refine j_if_ne 137 dX11_spread_122 (by decide) (fun hc29 => ?_) (fun hc29 => ?_)
  · replace h := jif_f hc29 h
    refine j_sub [(0, .ref 1), (2, .int x2), (3, .int x3), (4, .int x4), (6, .int r28)] [1, 2, 3, 4, 0] rfl ?_
    exact f_X11_spread_J137_ok σ x2 x3 x4 r28 hn hr hc0 _ h hK
  · replace h := jif_t hc29 h
    refine j_aload_n 1 dX11_spread_125 rfl rfl ?_
    refine j_iload_n 3 dX11_spread_126 rfl rfl ?_
    refine j_aload_n 1 dX11_spread_127 rfl rfl ?_
    refine j_iload 4 dX11_spread_128 rfl ?_
    refine j_iconst (v := (-1)) dX11_spread_130 (by decide) ?_
    replace h := bC_inv h
    obtain ⟨r30, cr30, h⟩ := h
    refine j_callV (ci := 10) (st1 := .int r30 :: _) (c_X11_behind g cr30) jy_X11_behind ki_yX11_behind ks_yX11_behind kl_RX11_337 dX11_spread_131 rfl (okM_1 _) (shM_1 _) rfl rfl rfl rfl (jbr _) (jbr _) hn.1 hn.2 (Or.inr rfl) rfl ?_
    replace h := bD_inv h
    obtain ⟨r31, σ32, cr31, h⟩ := h
    refine j_callV (ci := 10) (st1 := _) (c_X11_reach g cr31) jy_X11_reach ki_yX11_reach ks_yX11_reach kl_RX11_351 dX11_spread_134 rfl (okM_1 _) (shM_1 _) rfl rfl rfl rfl (jbr _) (jbr _) hn.1 hn.2 (Or.inr rfl) rfl ?_
    refine j_sub [(0, .ref 1), (2, .int x2), (3, .int x3), (4, .int x4), (6, .int r28)] [1, 2, 3, 4, 0] rfl ?_
    exact f_X11_spread_J137_ok σ32 x2 x3 x4 r28 hn hr hc0 _ h hK
def f_X11_spread_J87 (σ : jS) (x2 : Int32) (x3 : Int32) (x4 : Int32) (y0 : Int32) : Option ((Int32 × jS) ⊕ (Unit × jS)) :=
  if y0 = 0 then (if x2 = 0 then (bC (f_X11_isEnded σ x4) fun r33 =>
  if r33 = 0 then (f_X11_spread_J107 σ x2 x3 x4)
  else (f_X11_spread_J178 σ x2 x3))
  else (f_X11_spread_J107 σ x2 x3 x4))
  else (f_X11_spread_J178 σ x2 x3)
set_option maxHeartbeats 1000000 in
set_option maxRecDepth 20000 in
theorem f_X11_spread_J87_ok {g : Bool} {rv : Option Value} {μ' : jM} (σ : jS) (x2 : Int32) (x3 : Int32) (x4 : Int32) (y0 : Int32) {Kp : ((Int32 × jS) ⊕ (Unit × jS)) → Prop} (hn : Nat.ble nM μ'.1 = true ∧ Nat.ble wM μ'.2.1 = true) (hr : ∀ (r : Unit) (s : jS), Kp (.inr ((r, s))) → rv = none ∧ μ' = eM s) (hc0 : ∀ s : (Int32 × jS), Kp (.inl s) → J yX11_spread cX11_spread 8 none 4 g rv μ' 46 [(0, .ref 1), (2, .int x2), (3, .int s.1)] [] (eM s.2)) (o : ((Int32 × jS) ⊕ (Unit × jS))) (h : f_X11_spread_J87 σ x2 x3 x4 y0 = some o) (hK : Kp o) : J yX11_spread cX11_spread 8 none 4 g rv μ' 87 [(0, .ref 1), (2, .int x2), (3, .int x3), (4, .int x4)] [.int y0] (eM σ) := by
  unfold f_X11_spread_J87 at h
  refine j_istore [(5, .int y0), (0, .ref 1), (2, .int x2), (3, .int x3), (4, .int x4)] dX11_spread_87 (Nat.le_of_ble_eq_true rfl) rfl ?_
  refine j_iload 0 dX11_spread_89 rfl ?_
  refine j_if_ne 178 dX11_spread_91 (by decide) (fun hc34 => ?_) (fun hc34 => ?_)
  · replace h := jif_f hc34 h
    refine j_sub [(0, .ref 1), (2, .int x2), (3, .int x3)] [1, 2, 3] rfl ?_
    exact f_X11_spread_J178_ok σ x2 x3 hn hr hc0 _ h hK
  · replace h := jif_t hc34 h
    refine j_iload_n 2 dX11_spread_94 rfl rfl ?_
    refine j_if_ne 107 dX11_spread_95 (by decide) (fun hc35 => ?_) (fun hc35 => ?_)
    · replace h := jif_f hc35 h
      refine j_sub [(0, .ref 1), (2, .int x2), (3, .int x3), (4, .int x4)] [1, 2, 3, 4] rfl ?_
      exact f_X11_spread_J107_ok σ x2 x3 x4 hn hr hc0 _ h hK
    · replace h := jif_t hc35 h
      refine j_aload_n 1 dX11_spread_98 rfl rfl ?_
      refine j_iload 4 dX11_spread_99 rfl ?_
      replace h := bC_inv h
      obtain ⟨r36, cr36, h⟩ := h
      refine j_callV (ci := 10) (st1 := .int r36 :: _) (c_X11_isEnded g cr36) jy_X11_isEnded ki_yX11_isEnded ks_yX11_isEnded kl_RX11_303 dX11_spread_101 rfl (okM_1 _) (shM_1 _) rfl rfl rfl rfl (jbr _) (jbr _) hn.1 hn.2 (Or.inr rfl) rfl ?_
      refine j_if_ne 178 dX11_spread_104 (by decide) (fun hc37 => ?_) (fun hc37 => ?_)
      · replace h := jif_f hc37 h
        refine j_sub [(0, .ref 1), (2, .int x2), (3, .int x3)] [1, 2, 3] rfl ?_
        exact f_X11_spread_J178_ok σ x2 x3 hn hr hc0 _ h hK
      · replace h := jif_t hc37 h
        refine j_sub [(0, .ref 1), (2, .int x2), (3, .int x3), (4, .int x4)] [1, 2, 3, 4] rfl ?_
        exact f_X11_spread_J107_ok σ x2 x3 x4 hn hr hc0 _ h hK
def f_X11_spread_J86 (σ : jS) (x2 : Int32) (x3 : Int32) (x4 : Int32) : Option ((Int32 × jS) ⊕ (Unit × jS)) :=
  f_X11_spread_J87 σ x2 x3 x4 0
set_option maxHeartbeats 1000000 in
set_option maxRecDepth 20000 in
theorem f_X11_spread_J86_ok {g : Bool} {rv : Option Value} {μ' : jM} (σ : jS) (x2 : Int32) (x3 : Int32) (x4 : Int32) {Kp : ((Int32 × jS) ⊕ (Unit × jS)) → Prop} (hn : Nat.ble nM μ'.1 = true ∧ Nat.ble wM μ'.2.1 = true) (hr : ∀ (r : Unit) (s : jS), Kp (.inr ((r, s))) → rv = none ∧ μ' = eM s) (hc0 : ∀ s : (Int32 × jS), Kp (.inl s) → J yX11_spread cX11_spread 8 none 4 g rv μ' 46 [(0, .ref 1), (2, .int x2), (3, .int s.1)] [] (eM s.2)) (o : ((Int32 × jS) ⊕ (Unit × jS))) (h : f_X11_spread_J86 σ x2 x3 x4 = some o) (hK : Kp o) : J yX11_spread cX11_spread 8 none 4 g rv μ' 86 [(0, .ref 1), (2, .int x2), (3, .int x3), (4, .int x4)] [] (eM σ) := by
  unfold f_X11_spread_J86 at h
  refine j_iconst (v := 0) dX11_spread_86 (by decide) ?_
  exact f_X11_spread_J87_ok σ x2 x3 x4 0 hn hr hc0 _ h hK
def f_X11_spread_B46 (σ : jS) (x2 : Int32) (x3 : Int32) : Option ((Int32 × jS) ⊕ (Unit × jS)) :=
  if (gI σ 1 39) ≤ x3 then (jw (f_X11_spread_J184 σ))
  else (bG (jin x3 147968) (
  bV (gI σ 19 (ix x3)) fun v5 =>
  bC (f_X11_mayOf σ v5 0) fun r6 =>
  if r6 = 0 then (bC (f_X11_mayOf σ v5 1) fun r38 =>
  if r38 = 0 then (f_X11_spread_J87 σ x2 x3 v5 1)
  else (f_X11_spread_J86 σ x2 x3 v5))
  else (f_X11_spread_J86 σ x2 x3 v5)))
set_option maxHeartbeats 1000000 in
set_option maxRecDepth 20000 in
theorem f_X11_spread_B46_ok {g : Bool} {rv : Option Value} {μ' : jM} (σ : jS) (x2 : Int32) (x3 : Int32) {Kp : ((Int32 × jS) ⊕ (Unit × jS)) → Prop} (hn : Nat.ble nM μ'.1 = true ∧ Nat.ble wM μ'.2.1 = true) (hr : ∀ (r : Unit) (s : jS), Kp (.inr ((r, s))) → rv = none ∧ μ' = eM s) (hc0 : ∀ s : (Int32 × jS), Kp (.inl s) → J yX11_spread cX11_spread 8 none 4 g rv μ' 46 [(0, .ref 1), (2, .int x2), (3, .int s.1)] [] (eM s.2)) (o : ((Int32 × jS) ⊕ (Unit × jS))) (h : f_X11_spread_B46 σ x2 x3 = some o) (hK : Kp o) : J yX11_spread cX11_spread 8 none 4 g rv μ' 46 [(0, .ref 1), (2, .int x2), (3, .int x3)] [] (eM σ) := by
  unfold f_X11_spread_B46 at h
  refine j_iload_n 2 dX11_spread_46 rfl rfl ?_
  refine j_aload_n 0 dX11_spread_47 rfl rfl ?_
  refine j_get (ci := 10) 39 (.int (gI σ 1 39)) jC_10 dX11_spread_48 kg_RX11_345 rfl (okM_1 _) (shM_1 _) (fvM_1_39 _) ?_
  refine j_icmp_ge 184 dX11_spread_51 (by decide) (fun hc39 => ?_) (fun hc39 => ?_)
  · replace h := jif_t hc39 h
    replace h := jw_inv h
    obtain ⟨o40, rfl, h⟩ := h
    refine j_sub [] [] rfl ?_
    exact f_X11_spread_J184_ok (Kp := fun o => Kp (.inr (o))) σ hn (fun r s q => hr r s q) _ h hK
  · replace h := jif_f hc39 h
    refine j_aload_n 0 dX11_spread_54 rfl rfl ?_
    refine j_get (ci := 10) 38 (.ref 19) jC_10 dX11_spread_55 kg_RX11_69 rfl (okM_1 _) (shM_1 _) (fvM_1_38 _) ?_
    refine j_iload_n 2 dX11_spread_58 rfl rfl ?_
    replace h := bG_inv h
    obtain ⟨hi41, h⟩ := h
    refine j_iaload dX11_spread_59 (okM_19 _) (shM_19 _) (jin_spec hi41) ?_
    replace h := bV_inv h
    obtain ⟨v42, ev42, h⟩ := h
    refine j_nmi ev42 ?_
    refine j_istore [(4, .int v42), (0, .ref 1), (2, .int x2), (3, .int x3)] dX11_spread_60 (Nat.le_of_ble_eq_true rfl) rfl ?_
    refine j_aload_n 1 dX11_spread_62 rfl rfl ?_
    refine j_iload 0 dX11_spread_63 rfl ?_
    refine j_iconst (v := 0) dX11_spread_65 (by decide) ?_
    replace h := bC_inv h
    obtain ⟨r43, cr43, h⟩ := h
    refine j_callV (ci := 10) (st1 := .int r43 :: _) (c_X11_mayOf g cr43) jy_X11_mayOf ki_yX11_mayOf ks_yX11_mayOf kl_RX11_306 dX11_spread_66 rfl (okM_1 _) (shM_1 _) rfl rfl rfl rfl (jbr _) (jbr _) hn.1 hn.2 (Or.inr rfl) rfl ?_
    refine j_if_ne 86 dX11_spread_69 (by decide) (fun hc44 => ?_) (fun hc44 => ?_)
    · replace h := jif_f hc44 h
      refine j_sub [(0, .ref 1), (2, .int x2), (3, .int x3), (4, .int v42)] [1, 2, 3, 0] rfl ?_
      exact f_X11_spread_J86_ok σ x2 x3 v42 hn hr hc0 _ h hK
    · replace h := jif_t hc44 h
      refine j_aload_n 1 dX11_spread_72 rfl rfl ?_
      refine j_iload 0 dX11_spread_73 rfl ?_
      refine j_iconst (v := 1) dX11_spread_75 (by decide) ?_
      replace h := bC_inv h
      obtain ⟨r45, cr45, h⟩ := h
      refine j_callV (ci := 10) (st1 := .int r45 :: _) (c_X11_mayOf g cr45) jy_X11_mayOf ki_yX11_mayOf ks_yX11_mayOf kl_RX11_306 dX11_spread_76 rfl (okM_1 _) (shM_1 _) rfl rfl rfl rfl (jbr _) (jbr _) hn.1 hn.2 (Or.inr rfl) rfl ?_
      refine j_if_ne 86 dX11_spread_79 (by decide) (fun hc46 => ?_) (fun hc46 => ?_)
      · replace h := jif_f hc46 h
        refine j_sub [(0, .ref 1), (2, .int x2), (3, .int x3), (4, .int v42)] [1, 2, 3, 0] rfl ?_
        exact f_X11_spread_J86_ok σ x2 x3 v42 hn hr hc0 _ h hK
      · replace h := jif_t hc46 h
        refine j_iconst (v := 1) dX11_spread_82 (by decide) ?_
        refine j_goto 87 dX11_spread_83 (by decide) ?_
        refine j_sub [(0, .ref 1), (2, .int x2), (3, .int x3), (4, .int v42)] [1, 2, 3, 0] rfl ?_
        exact f_X11_spread_J87_ok σ x2 x3 v42 1 hn hr hc0 _ h hK
def f_X11_spread_J28 (σ : jS) (x1 : Int32) (x2 : Int32) : Option (Unit × jS) :=
  bV (sI σ 1 39 0) fun σ1 =>
  bV (sI σ1 1 44 0) fun σ2 =>
  bD (f_X11_reach σ2 (-1) x1) fun r3 σ4 =>
  jloop jFuel (fun s => f_X11_spread_B46 s.2 x2 s.1) (0, σ4)
set_option maxHeartbeats 1000000 in
set_option maxRecDepth 20000 in
theorem f_X11_spread_J28_ok {g : Bool} {rv : Option Value} {μ' : jM} (σ : jS) (x1 : Int32) (x2 : Int32) {Kp : (Unit × jS) → Prop} (hn : Nat.ble nM μ'.1 = true ∧ Nat.ble wM μ'.2.1 = true) (hr : ∀ (r : Unit) (s : jS), Kp ((r, s)) → rv = none ∧ μ' = eM s) (o : (Unit × jS)) (h : f_X11_spread_J28 σ x1 x2 = some o) (hK : Kp o) : J yX11_spread cX11_spread 8 none 4 g rv μ' 28 [(0, .ref 1), (1, .int x1), (2, .int x2)] [] (eM σ) := by
  unfold f_X11_spread_J28 at h
  refine j_aload_n 0 dX11_spread_28 rfl rfl ?_
  refine j_iconst (v := 0) dX11_spread_29 (by decide) ?_
  replace h := bV_inv h
  obtain ⟨σ47, eσ47, h⟩ := h
  refine j_putI 39 jC_10 dX11_spread_30 kg_RX11_345 (Or.inl ff_10_39) rfl fk_10_39 (fn_10_39 _) (okM_1 _) (shM_1 _) ?_
  refine j_mem (congrArg eM eσ47) ?_
  refine j_aload_n 0 dX11_spread_33 rfl rfl ?_
  refine j_iconst (v := 0) dX11_spread_34 (by decide) ?_
  replace h := bV_inv h
  obtain ⟨σ48, eσ48, h⟩ := h
  refine j_putI 44 jC_10 dX11_spread_35 kg_RX11_348 (Or.inl ff_10_44) rfl fk_10_44 (fn_10_44 _) (okM_1 _) (shM_1 _) ?_
  refine j_mem (congrArg eM eσ48) ?_
  refine j_aload_n 0 dX11_spread_38 rfl rfl ?_
  refine j_iconst (v := (-1)) dX11_spread_39 (by decide) ?_
  refine j_iload_n 1 dX11_spread_40 rfl rfl ?_
  replace h := bD_inv h
  obtain ⟨r49, σ50, cr49, h⟩ := h
  refine j_callV (ci := 10) (st1 := _) (c_X11_reach g cr49) jy_X11_reach ki_yX11_reach ks_yX11_reach kl_RX11_351 dX11_spread_41 rfl (okM_1 _) (shM_1 _) rfl rfl rfl rfl (jbr _) (jbr _) hn.1 hn.2 (Or.inr rfl) rfl ?_
  refine j_iconst (v := 0) dX11_spread_44 (by decide) ?_
  refine j_istore_n [(3, .int 0), (0, .ref 1), (1, .int x1), (2, .int x2)] dX11_spread_45 rfl (Nat.le_of_ble_eq_true rfl) rfl ?_
  refine j_sub [(0, .ref 1), (2, .int x2), (3, .int 0)] [1, 3, 0] rfl ?_
  exact jloop_ok (fun s => f_X11_spread_B46 s.2 x2 s.1) (fun s => J yX11_spread cX11_spread 8 none 4 g rv μ' 46 [(0, .ref 1), (2, .int x2), (3, .int s.1)] [] (eM s.2)) Kp (fun s o hb hk => f_X11_spread_B46_ok (Kp := jsum (fun s => J yX11_spread cX11_spread 8 none 4 g rv μ' 46 [(0, .ref 1), (2, .int x2), (3, .int s.1)] [] (eM s.2)) Kp) s.2 x2 s.1 hn (fun r s q => hr r s q) (fun s q => q) o hb hk) jFuel _ _ h hK
def f_X11_spread_B2 (σ : jS) (x1 : Int32) (x2 : Int32) (x3 : Int32) : Option ((Int32 × jS) ⊕ (Unit × jS)) :=
  if (gI σ 1 39) ≤ x3 then (jw (f_X11_spread_J28 σ x1 x2))
  else (bG (jin x3 147968) (
  bG (jin (gI σ 19 (ix x3)) 147968) (
  bV (sI σ 18 (ix (gI σ 19 (ix x3))) 0) fun σ51 =>
  bV (x3 + 1) fun v52 =>
  some (.inl (v52, σ51)))))
set_option maxHeartbeats 1000000 in
set_option maxRecDepth 20000 in
theorem f_X11_spread_B2_ok {g : Bool} {rv : Option Value} {μ' : jM} (σ : jS) (x1 : Int32) (x2 : Int32) (x3 : Int32) {Kp : ((Int32 × jS) ⊕ (Unit × jS)) → Prop} (hn : Nat.ble nM μ'.1 = true ∧ Nat.ble wM μ'.2.1 = true) (hr : ∀ (r : Unit) (s : jS), Kp (.inr ((r, s))) → rv = none ∧ μ' = eM s) (hc0 : ∀ s : (Int32 × jS), Kp (.inl s) → J yX11_spread cX11_spread 8 none 4 g rv μ' 2 [(0, .ref 1), (1, .int x1), (2, .int x2), (3, .int s.1)] [] (eM s.2)) (o : ((Int32 × jS) ⊕ (Unit × jS))) (h : f_X11_spread_B2 σ x1 x2 x3 = some o) (hK : Kp o) : J yX11_spread cX11_spread 8 none 4 g rv μ' 2 [(0, .ref 1), (1, .int x1), (2, .int x2), (3, .int x3)] [] (eM σ) := by
  unfold f_X11_spread_B2 at h
  refine j_iload_n 3 dX11_spread_2 rfl rfl ?_
  refine j_aload_n 0 dX11_spread_3 rfl rfl ?_
  refine j_get (ci := 10) 39 (.int (gI σ 1 39)) jC_10 dX11_spread_4 kg_RX11_345 rfl (okM_1 _) (shM_1 _) (fvM_1_39 _) ?_
  refine j_icmp_ge 28 dX11_spread_7 (by decide) (fun hc53 => ?_) (fun hc53 => ?_)
  · replace h := jif_t hc53 h
    replace h := jw_inv h
    obtain ⟨o54, rfl, h⟩ := h
    refine j_sub [(0, .ref 1), (1, .int x1), (2, .int x2)] [0, 1, 2] rfl ?_
    exact f_X11_spread_J28_ok (Kp := fun o => Kp (.inr (o))) σ x1 x2 hn (fun r s q => hr r s q) _ h hK
  · replace h := jif_f hc53 h
    refine j_aload_n 0 dX11_spread_10 rfl rfl ?_
    refine j_get (ci := 10) 37 (.ref 18) jC_10 dX11_spread_11 kg_RX11_66 rfl (okM_1 _) (shM_1 _) (fvM_1_37 _) ?_
    refine j_aload_n 0 dX11_spread_14 rfl rfl ?_
    refine j_get (ci := 10) 38 (.ref 19) jC_10 dX11_spread_15 kg_RX11_69 rfl (okM_1 _) (shM_1 _) (fvM_1_38 _) ?_
    refine j_iload_n 3 dX11_spread_18 rfl rfl ?_
    replace h := bG_inv h
    obtain ⟨hi55, h⟩ := h
    refine j_iaload dX11_spread_19 (okM_19 _) (shM_19 _) (jin_spec hi55) ?_
    refine j_iconst (v := 0) dX11_spread_20 (by decide) ?_
    replace h := bG_inv h
    obtain ⟨hi56, h⟩ := h
    refine j_iastore dX11_spread_21 (okM_18 _) (shM_18 _) (jin_spec hi56) ?_
    replace h := bV_inv h
    obtain ⟨σ57, eσ57, h⟩ := h
    refine j_mem (congrArg eM eσ57) ?_
    replace h := bV_inv h
    obtain ⟨v58, ev58, h⟩ := h
    refine j_iinc (v := v58) [(3, .int v58), (0, .ref 1), (1, .int x1), (2, .int x2)] 3 dX11_spread_22 rfl (by rw [ev58]; rfl) (Nat.le_of_ble_eq_true rfl) rfl ?_
    refine j_goto 2 dX11_spread_25 (by decide) ?_
    replace h := Option.some.inj h
    subst h
    refine j_sub [(0, .ref 1), (1, .int x1), (2, .int x2), (3, .int v58)] [1, 2, 3, 0] rfl ?_
    exact hc0 _ hK
def f_X11_spread (σ : jS) (x1 : Int32) (x2 : Int32) : Option (Unit × jS) :=
  jloop jFuel (fun s => f_X11_spread_B2 s.2 x1 x2 s.1) (0, σ)
set_option maxHeartbeats 1000000 in
set_option maxRecDepth 20000 in
theorem f_X11_spread_ok {g : Bool} {rv : Option Value} {μ' : jM} (σ : jS) (x1 : Int32) (x2 : Int32) {Kp : (Unit × jS) → Prop} (hn : Nat.ble nM μ'.1 = true ∧ Nat.ble wM μ'.2.1 = true) (hr : ∀ (r : Unit) (s : jS), Kp ((r, s)) → rv = none ∧ μ' = eM s) (o : (Unit × jS)) (h : f_X11_spread σ x1 x2 = some o) (hK : Kp o) : J yX11_spread cX11_spread 8 none 4 g rv μ' 0 [(0, .ref 1), (1, .int x1), (2, .int x2)] [] (eM σ) := by
  unfold f_X11_spread at h
  refine j_iconst (v := 0) dX11_spread_0 (by decide) ?_
  refine j_istore_n [(3, .int 0), (0, .ref 1), (1, .int x1), (2, .int x2)] dX11_spread_1 rfl (Nat.le_of_ble_eq_true rfl) rfl ?_
  refine j_sub [(0, .ref 1), (1, .int x1), (2, .int x2), (3, .int 0)] [1, 2, 3, 0] rfl ?_
  exact jloop_ok (fun s => f_X11_spread_B2 s.2 x1 x2 s.1) (fun s => J yX11_spread cX11_spread 8 none 4 g rv μ' 2 [(0, .ref 1), (1, .int x1), (2, .int x2), (3, .int s.1)] [] (eM s.2)) Kp (fun s o hb hk => f_X11_spread_B2_ok (Kp := jsum (fun s => J yX11_spread cX11_spread 8 none 4 g rv μ' 2 [(0, .ref 1), (1, .int x1), (2, .int x2), (3, .int s.1)] [] (eM s.2)) Kp) s.2 x1 x2 s.1 hn (fun r s q => hr r s q) (fun s q => q) o hb hk) jFuel _ _ h hK
theorem c_X11_spread (g : Bool) {σ : jS} {x1 : Int32} {x2 : Int32} {r : Unit} {σ2 : jS} (h : f_X11_spread σ x1 x2 = some (r, σ2)) : Cn yX11_spread cX11_spread 8 none 4 g [.ref 1, .int x1, .int x2] (eM σ) none (eM σ2) :=
  Cn_of (by decide) (Nat.le_refl _) (Nat.le_refl _) (Nat.le_of_ble_eq_true rfl) (f_X11_spread_ok (Kp := (fun o => o = (r, σ2))) σ x1 x2 ⟨jbr _, jbr _⟩ (fun r2 s2 q => by cases q; exact ⟨rfl, rfl⟩) _ h rfl)
def f_X11_comes_J209 (σ : jS) (y0 : Int32) : Option (Int32 × jS) :=
  some ((y0, σ))
set_option maxHeartbeats 1000000 in
set_option maxRecDepth 20000 in
theorem f_X11_comes_J209_ok {g : Bool} {rv : Option Value} {μ' : jM} (σ : jS) (y0 : Int32) {Kp : (Int32 × jS) → Prop} (hn : Nat.ble nM μ'.1 = true ∧ Nat.ble wM μ'.2.1 = true) (hr : ∀ (r : Int32) (s : jS), Kp ((r, s)) → rv = some (.int r) ∧ μ' = eM s) (o : (Int32 × jS)) (h : f_X11_comes_J209 σ y0 = some o) (hK : Kp o) : J yX11_comes cX11_comes 7 (some .int) 5 g rv μ' 209 [] [.int y0] (eM σ) := by
  unfold f_X11_comes_J209 at h
  replace h := Option.some.inj h
  subst h
  obtain ⟨hr1, hr2⟩ := hr _ _ hK
  exact j_iret dX11_comes_209 hr1 hr2
def f_X11_comes_J157 (σ : jS) (x2 : Int32) (x3 : Int32) (x4 : Int32) (x5 : Int32) : Option (Int32 × jS) :=
  if x2 = 0 then (f_X11_comes_J209 σ (gI σ 1 39))
  else (if x2 = 1 then (f_X11_comes_J209 σ x3)
  else (if x2 = 2 then (f_X11_comes_J209 σ x4)
  else (if x2 = 3 then (bD (f_X11_goesRound σ) fun r7 σ8 =>
  if r7 = 0 then (f_X11_comes_J209 σ8 0)
  else (f_X11_comes_J209 σ8 1))
  else (f_X11_comes_J209 σ x5))))
set_option maxHeartbeats 1000000 in
set_option maxRecDepth 20000 in
theorem f_X11_comes_J157_ok {g : Bool} {rv : Option Value} {μ' : jM} (σ : jS) (x2 : Int32) (x3 : Int32) (x4 : Int32) (x5 : Int32) {Kp : (Int32 × jS) → Prop} (hn : Nat.ble nM μ'.1 = true ∧ Nat.ble wM μ'.2.1 = true) (hr : ∀ (r : Int32) (s : jS), Kp ((r, s)) → rv = some (.int r) ∧ μ' = eM s) (o : (Int32 × jS)) (h : f_X11_comes_J157 σ x2 x3 x4 x5 = some o) (hK : Kp o) : J yX11_comes cX11_comes 7 (some .int) 5 g rv μ' 157 [(0, .ref 1), (2, .int x2), (3, .int x3), (4, .int x4), (5, .int x5)] [] (eM σ) := by
  unfold f_X11_comes_J157 at h
  refine j_iload_n 1 dX11_comes_157 rfl rfl ?_
  refine j_if_ne 168 dX11_comes_158 (by decide) (fun hc9 => ?_) (fun hc9 => ?_)
  · replace h := jif_f hc9 h
    refine j_iload_n 1 dX11_comes_168 rfl rfl ?_
    refine j_iconst (v := 1) dX11_comes_169 (by decide) ?_
    refine j_icmp_ne 177 dX11_comes_170 (by decide) (fun hc10 => ?_) (fun hc10 => ?_)
    · replace h := jif_f hc10 h
      refine j_iload_n 1 dX11_comes_177 rfl rfl ?_
      refine j_iconst (v := 2) dX11_comes_178 (by decide) ?_
      refine j_icmp_ne 187 dX11_comes_179 (by decide) (fun hc11 => ?_) (fun hc11 => ?_)
      · replace h := jif_f hc11 h
        refine j_iload_n 1 dX11_comes_187 rfl rfl ?_
        refine j_iconst (v := 3) dX11_comes_188 (by decide) ?_
        refine j_icmp_ne 207 dX11_comes_189 (by decide) (fun hc12 => ?_) (fun hc12 => ?_)
        · replace h := jif_f hc12 h
          refine j_iload 4 dX11_comes_207 rfl ?_
          refine j_sub [] [] rfl ?_
          exact f_X11_comes_J209_ok σ x5 hn hr _ h hK
        · replace h := jif_t hc12 h
          refine j_aload_n 0 dX11_comes_192 rfl rfl ?_
          replace h := bD_inv h
          obtain ⟨r13, σ14, cr13, h⟩ := h
          refine j_callV (ci := 10) (st1 := .int r13 :: _) (c_X11_goesRound g cr13) jy_X11_goesRound ki_yX11_goesRound ks_yX11_goesRound kl_RX11_364 dX11_comes_193 rfl (okM_1 _) (shM_1 _) rfl rfl rfl rfl (jbr _) (jbr _) hn.1 hn.2 (Or.inr rfl) rfl ?_
          refine j_if_eq 203 dX11_comes_196 (by decide) (fun hc15 => ?_) (fun hc15 => ?_)
          · replace h := jif_t hc15 h
            refine j_iconst (v := 0) dX11_comes_203 (by decide) ?_
            refine j_goto 209 dX11_comes_204 (by decide) ?_
            refine j_sub [] [] rfl ?_
            exact f_X11_comes_J209_ok σ14 0 hn hr _ h hK
          · replace h := jif_f hc15 h
            refine j_iconst (v := 1) dX11_comes_199 (by decide) ?_
            refine j_goto 209 dX11_comes_200 (by decide) ?_
            refine j_sub [] [] rfl ?_
            exact f_X11_comes_J209_ok σ14 1 hn hr _ h hK
      · replace h := jif_t hc11 h
        refine j_iload 3 dX11_comes_182 rfl ?_
        refine j_goto 209 dX11_comes_184 (by decide) ?_
        refine j_sub [] [] rfl ?_
        exact f_X11_comes_J209_ok σ x4 hn hr _ h hK
    · replace h := jif_t hc10 h
      refine j_iload_n 2 dX11_comes_173 rfl rfl ?_
      refine j_goto 209 dX11_comes_174 (by decide) ?_
      refine j_sub [] [] rfl ?_
      exact f_X11_comes_J209_ok σ x3 hn hr _ h hK
  · replace h := jif_t hc9 h
    refine j_aload_n 0 dX11_comes_161 rfl rfl ?_
    refine j_get (ci := 10) 39 (.int (gI σ 1 39)) jC_10 dX11_comes_162 kg_RX11_345 rfl (okM_1 _) (shM_1 _) (fvM_1_39 _) ?_
    refine j_goto 209 dX11_comes_165 (by decide) ?_
    refine j_sub [] [] rfl ?_
    exact f_X11_comes_J209_ok σ (gI σ 1 39) hn hr _ h hK
def f_X11_comes_J119 (σ : jS) (x2 : Int32) (x3 : Int32) (x5 : Int32) (x6 : Int32) (y0 : Int32) : Option ((Int32 × Int32 × Int32 × jS) ⊕ (Int32 × jS)) :=
  bG (jin x6 147968) (
  bC (f_X11_one (gI σ 19 (ix x6))) fun r17 =>
  bG (jin x6 147968) (
  bC (f_X11_two (gI σ 19 (ix x6))) fun r18 =>
  bV (x5 ||| (((1 : Int32) <<< (r17 &&& 31)) ||| ((1 : Int32) <<< (r18 &&& 31)))) fun v19 =>
  bV (x6 + 1) fun v20 =>
  some (.inl (y0, v19, v20, σ))))
set_option maxHeartbeats 1000000 in
set_option maxRecDepth 20000 in
theorem f_X11_comes_J119_ok {g : Bool} {rv : Option Value} {μ' : jM} (σ : jS) (x2 : Int32) (x3 : Int32) (x5 : Int32) (x6 : Int32) (y0 : Int32) {Kp : ((Int32 × Int32 × Int32 × jS) ⊕ (Int32 × jS)) → Prop} (hn : Nat.ble nM μ'.1 = true ∧ Nat.ble wM μ'.2.1 = true) (hr : ∀ (r : Int32) (s : jS), Kp (.inr ((r, s))) → rv = some (.int r) ∧ μ' = eM s) (hc0 : ∀ s : (Int32 × Int32 × Int32 × jS), Kp (.inl s) → J yX11_comes cX11_comes 7 (some .int) 5 g rv μ' 89 [(0, .ref 1), (2, .int x2), (3, .int x3), (4, .int s.1), (5, .int s.2.1), (6, .int s.2.2.1)] [] (eM s.2.2.2)) (o : ((Int32 × Int32 × Int32 × jS) ⊕ (Int32 × jS))) (h : f_X11_comes_J119 σ x2 x3 x5 x6 y0 = some o) (hK : Kp o) : J yX11_comes cX11_comes 7 (some .int) 5 g rv μ' 119 [(0, .ref 1), (2, .int x2), (3, .int x3), (5, .int x5), (6, .int x6)] [.int y0] (eM σ) := by
  unfold f_X11_comes_J119 at h
  refine j_istore [(4, .int y0), (0, .ref 1), (2, .int x2), (3, .int x3), (5, .int x5), (6, .int x6)] dX11_comes_119 (Nat.le_of_ble_eq_true rfl) rfl ?_
  refine j_iload 4 dX11_comes_121 rfl ?_
  refine j_iconst (v := 1) dX11_comes_123 (by decide) ?_
  refine j_aload_n 1 dX11_comes_124 rfl rfl ?_
  refine j_get (ci := 10) 38 (.ref 19) jC_10 dX11_comes_125 kg_RX11_69 rfl (okM_1 _) (shM_1 _) (fvM_1_38 _) ?_
  refine j_iload 5 dX11_comes_128 rfl ?_
  replace h := bG_inv h
  obtain ⟨hi21, h⟩ := h
  refine j_iaload dX11_comes_130 (okM_19 _) (shM_19 _) (jin_spec hi21) ?_
  replace h := bC_inv h
  obtain ⟨r22, cr22, h⟩ := h
  refine j_callS (st1 := .int r22 :: _) (c_X11_one g _ cr22) jy_X11_one kt_yX11_one kl_RX11_271 dX11_comes_131 rfl rfl rfl rfl (jbr _) (jbr _) hn.1 hn.2 (Or.inr rfl) rfl ?_
  refine j_ishl dX11_comes_134 ?_
  refine j_iconst (v := 1) dX11_comes_135 (by decide) ?_
  refine j_aload_n 1 dX11_comes_136 rfl rfl ?_
  refine j_get (ci := 10) 38 (.ref 19) jC_10 dX11_comes_137 kg_RX11_69 rfl (okM_1 _) (shM_1 _) (fvM_1_38 _) ?_
  refine j_iload 5 dX11_comes_140 rfl ?_
  replace h := bG_inv h
  obtain ⟨hi23, h⟩ := h
  refine j_iaload dX11_comes_142 (okM_19 _) (shM_19 _) (jin_spec hi23) ?_
  replace h := bC_inv h
  obtain ⟨r24, cr24, h⟩ := h
  refine j_callS (st1 := .int r24 :: _) (c_X11_two g _ cr24) jy_X11_two kt_yX11_two kl_RX11_274 dX11_comes_143 rfl rfl rfl rfl (jbr _) (jbr _) hn.1 hn.2 (Or.inr rfl) rfl ?_
  refine j_ishl dX11_comes_146 ?_
  refine j_ior dX11_comes_147 ?_
  refine j_ior dX11_comes_148 ?_
  replace h := bV_inv h
  obtain ⟨v25, ev25, h⟩ := h
  refine j_nmi ev25 ?_
  refine j_istore [(5, .int v25), (4, .int y0), (0, .ref 1), (2, .int x2), (3, .int x3), (6, .int x6)] dX11_comes_149 (Nat.le_of_ble_eq_true rfl) rfl ?_
  replace h := bV_inv h
  obtain ⟨v26, ev26, h⟩ := h
  refine j_iinc (v := v26) [(6, .int v26), (5, .int v25), (4, .int y0), (0, .ref 1), (2, .int x2), (3, .int x3)] 5 dX11_comes_151 rfl (by rw [ev26]; rfl) (Nat.le_of_ble_eq_true rfl) rfl ?_
  refine j_goto 89 dX11_comes_154 (by decide) ?_
  replace h := Option.some.inj h
  subst h
  refine j_sub [(0, .ref 1), (2, .int x2), (3, .int x3), (4, .int y0), (5, .int v25), (6, .int v26)] [3, 4, 5, 2, 1, 0] rfl ?_
  exact hc0 _ hK
def f_X11_comes_B89 (σ : jS) (x2 : Int32) (x3 : Int32) (x4 : Int32) (x5 : Int32) (x6 : Int32) : Option ((Int32 × Int32 × Int32 × jS) ⊕ (Int32 × jS)) :=
  if (gI σ 1 39) ≤ x6 then (jw (f_X11_comes_J157 σ x2 x3 x4 x5))
  else (bG (jin x6 147968) (
  bC (f_X11_stateOf σ (gI σ 19 (ix x6))) fun r16 =>
  if r16 = 2 then (f_X11_comes_J119 σ x2 x3 x5 x6 1)
  else (f_X11_comes_J119 σ x2 x3 x5 x6 x4)))
set_option maxHeartbeats 1000000 in
set_option maxRecDepth 20000 in
theorem f_X11_comes_B89_ok {g : Bool} {rv : Option Value} {μ' : jM} (σ : jS) (x2 : Int32) (x3 : Int32) (x4 : Int32) (x5 : Int32) (x6 : Int32) {Kp : ((Int32 × Int32 × Int32 × jS) ⊕ (Int32 × jS)) → Prop} (hn : Nat.ble nM μ'.1 = true ∧ Nat.ble wM μ'.2.1 = true) (hr : ∀ (r : Int32) (s : jS), Kp (.inr ((r, s))) → rv = some (.int r) ∧ μ' = eM s) (hc0 : ∀ s : (Int32 × Int32 × Int32 × jS), Kp (.inl s) → J yX11_comes cX11_comes 7 (some .int) 5 g rv μ' 89 [(0, .ref 1), (2, .int x2), (3, .int x3), (4, .int s.1), (5, .int s.2.1), (6, .int s.2.2.1)] [] (eM s.2.2.2)) (o : ((Int32 × Int32 × Int32 × jS) ⊕ (Int32 × jS))) (h : f_X11_comes_B89 σ x2 x3 x4 x5 x6 = some o) (hK : Kp o) : J yX11_comes cX11_comes 7 (some .int) 5 g rv μ' 89 [(0, .ref 1), (2, .int x2), (3, .int x3), (4, .int x4), (5, .int x5), (6, .int x6)] [] (eM σ) := by
  unfold f_X11_comes_B89 at h
  refine j_iload 5 dX11_comes_89 rfl ?_
  refine j_aload_n 0 dX11_comes_91 rfl rfl ?_
  refine j_get (ci := 10) 39 (.int (gI σ 1 39)) jC_10 dX11_comes_92 kg_RX11_345 rfl (okM_1 _) (shM_1 _) (fvM_1_39 _) ?_
  refine j_icmp_ge 157 dX11_comes_95 (by decide) (fun hc27 => ?_) (fun hc27 => ?_)
  · replace h := jif_t hc27 h
    replace h := jw_inv h
    obtain ⟨o28, rfl, h⟩ := h
    refine j_sub [(0, .ref 1), (2, .int x2), (3, .int x3), (4, .int x4), (5, .int x5)] [0, 1, 2, 3, 4] rfl ?_
    exact f_X11_comes_J157_ok (Kp := fun o => Kp (.inr (o))) σ x2 x3 x4 x5 hn (fun r s q => hr r s q) _ h hK
  · replace h := jif_f hc27 h
    refine j_aload_n 0 dX11_comes_98 rfl rfl ?_
    refine j_aload_n 0 dX11_comes_99 rfl rfl ?_
    refine j_get (ci := 10) 38 (.ref 19) jC_10 dX11_comes_100 kg_RX11_69 rfl (okM_1 _) (shM_1 _) (fvM_1_38 _) ?_
    refine j_iload 5 dX11_comes_103 rfl ?_
    replace h := bG_inv h
    obtain ⟨hi29, h⟩ := h
    refine j_iaload dX11_comes_105 (okM_19 _) (shM_19 _) (jin_spec hi29) ?_
    replace h := bC_inv h
    obtain ⟨r30, cr30, h⟩ := h
    refine j_callV (ci := 10) (st1 := .int r30 :: _) (c_X11_stateOf g cr30) jy_X11_stateOf ki_yX11_stateOf ks_yX11_stateOf kl_RX11_312 dX11_comes_106 rfl (okM_1 _) (shM_1 _) rfl rfl rfl rfl (jbr _) (jbr _) hn.1 hn.2 (Or.inr rfl) rfl ?_
    refine j_iconst (v := 2) dX11_comes_109 (by decide) ?_
    refine j_icmp_ne 117 dX11_comes_110 (by decide) (fun hc31 => ?_) (fun hc31 => ?_)
    · replace h := jif_f hc31 h
      refine j_iload 3 dX11_comes_117 rfl ?_
      refine j_sub [(0, .ref 1), (2, .int x2), (3, .int x3), (5, .int x5), (6, .int x6)] [0, 1, 2, 4, 5] rfl ?_
      exact f_X11_comes_J119_ok σ x2 x3 x5 x6 x4 hn hr hc0 _ h hK
    · replace h := jif_t hc31 h
      refine j_iconst (v := 1) dX11_comes_113 (by decide) ?_
      refine j_goto 119 dX11_comes_114 (by decide) ?_
      refine j_sub [(0, .ref 1), (2, .int x2), (3, .int x3), (5, .int x5), (6, .int x6)] [0, 1, 2, 4, 5] rfl ?_
      exact f_X11_comes_J119_ok σ x2 x3 x5 x6 1 hn hr hc0 _ h hK
def f_X11_comes_J80 (σ : jS) (x2 : Int32) (x3 : Int32) : Option (Int32 × jS) :=
  jloop jFuel (fun s => f_X11_comes_B89 s.2.2.2 x2 x3 s.1 s.2.1 s.2.2.1) (0, 0, 0, σ)
set_option maxHeartbeats 1000000 in
set_option maxRecDepth 20000 in
theorem f_X11_comes_J80_ok {g : Bool} {rv : Option Value} {μ' : jM} (σ : jS) (x2 : Int32) (x3 : Int32) {Kp : (Int32 × jS) → Prop} (hn : Nat.ble nM μ'.1 = true ∧ Nat.ble wM μ'.2.1 = true) (hr : ∀ (r : Int32) (s : jS), Kp ((r, s)) → rv = some (.int r) ∧ μ' = eM s) (o : (Int32 × jS)) (h : f_X11_comes_J80 σ x2 x3 = some o) (hK : Kp o) : J yX11_comes cX11_comes 7 (some .int) 5 g rv μ' 80 [(0, .ref 1), (2, .int x2), (3, .int x3)] [] (eM σ) := by
  unfold f_X11_comes_J80 at h
  refine j_iconst (v := 0) dX11_comes_80 (by decide) ?_
  refine j_istore [(4, .int 0), (0, .ref 1), (2, .int x2), (3, .int x3)] dX11_comes_81 (Nat.le_of_ble_eq_true rfl) rfl ?_
  refine j_iconst (v := 0) dX11_comes_83 (by decide) ?_
  refine j_istore [(5, .int 0), (4, .int 0), (0, .ref 1), (2, .int x2), (3, .int x3)] dX11_comes_84 (Nat.le_of_ble_eq_true rfl) rfl ?_
  refine j_iconst (v := 0) dX11_comes_86 (by decide) ?_
  refine j_istore [(6, .int 0), (5, .int 0), (4, .int 0), (0, .ref 1), (2, .int x2), (3, .int x3)] dX11_comes_87 (Nat.le_of_ble_eq_true rfl) rfl ?_
  refine j_sub [(0, .ref 1), (2, .int x2), (3, .int x3), (4, .int 0), (5, .int 0), (6, .int 0)] [3, 4, 5, 2, 1, 0] rfl ?_
  exact jloop_ok (fun s => f_X11_comes_B89 s.2.2.2 x2 x3 s.1 s.2.1 s.2.2.1) (fun s => J yX11_comes cX11_comes 7 (some .int) 5 g rv μ' 89 [(0, .ref 1), (2, .int x2), (3, .int x3), (4, .int s.1), (5, .int s.2.1), (6, .int s.2.2.1)] [] (eM s.2.2.2)) Kp (fun s o hb hk => f_X11_comes_B89_ok (Kp := jsum (fun s => J yX11_comes cX11_comes 7 (some .int) 5 g rv μ' 89 [(0, .ref 1), (2, .int x2), (3, .int x3), (4, .int s.1), (5, .int s.2.1), (6, .int s.2.2.1)] [] (eM s.2.2.2)) Kp) s.2.2.2 x2 x3 s.1 s.2.1 s.2.2.1 hn (fun r s q => hr r s q) (fun s q => q) o hb hk) jFuel _ _ h hK
def f_X11_comes_J72 (σ : jS) (x2 : Int32) (x4 : Int32) (y0 : Int32) (y1 : Int32) : Option ((Int32 × Int32 × jS) ⊕ (Int32 × jS)) :=
  bV (y1 + y0) fun v32 =>
  bV (x4 + 1) fun v33 =>
  some (.inl (v32, v33, σ))
set_option maxHeartbeats 1000000 in
set_option maxRecDepth 20000 in
theorem f_X11_comes_J72_ok {g : Bool} {rv : Option Value} {μ' : jM} (σ : jS) (x2 : Int32) (x4 : Int32) (y0 : Int32) (y1 : Int32) {Kp : ((Int32 × Int32 × jS) ⊕ (Int32 × jS)) → Prop} (hn : Nat.ble nM μ'.1 = true ∧ Nat.ble wM μ'.2.1 = true) (hr : ∀ (r : Int32) (s : jS), Kp (.inr ((r, s))) → rv = some (.int r) ∧ μ' = eM s) (hc0 : ∀ s : (Int32 × Int32 × jS), Kp (.inl s) → J yX11_comes cX11_comes 7 (some .int) 5 g rv μ' 48 [(0, .ref 1), (2, .int x2), (3, .int s.1), (4, .int s.2.1)] [] (eM s.2.2)) (o : ((Int32 × Int32 × jS) ⊕ (Int32 × jS))) (h : f_X11_comes_J72 σ x2 x4 y0 y1 = some o) (hK : Kp o) : J yX11_comes cX11_comes 7 (some .int) 5 g rv μ' 72 [(0, .ref 1), (2, .int x2), (4, .int x4)] [.int y0, .int y1] (eM σ) := by
  unfold f_X11_comes_J72 at h
  refine j_iadd dX11_comes_72 ?_
  replace h := bV_inv h
  obtain ⟨v34, ev34, h⟩ := h
  refine j_nmi ev34 ?_
  refine j_istore_n [(3, .int v34), (0, .ref 1), (2, .int x2), (4, .int x4)] dX11_comes_73 rfl (Nat.le_of_ble_eq_true rfl) rfl ?_
  replace h := bV_inv h
  obtain ⟨v35, ev35, h⟩ := h
  refine j_iinc (v := v35) [(4, .int v35), (3, .int v34), (0, .ref 1), (2, .int x2)] 3 dX11_comes_74 rfl (by rw [ev35]; rfl) (Nat.le_of_ble_eq_true rfl) rfl ?_
  refine j_goto 48 dX11_comes_77 (by decide) ?_
  replace h := Option.some.inj h
  subst h
  refine j_sub [(0, .ref 1), (2, .int x2), (3, .int v34), (4, .int v35)] [2, 3, 1, 0] rfl ?_
  exact hc0 _ hK
def f_X11_comes_B48 (σ : jS) (x2 : Int32) (x3 : Int32) (x4 : Int32) : Option ((Int32 × Int32 × jS) ⊕ (Int32 × jS)) :=
  if 1600 ≤ x4 then (jw (f_X11_comes_J80 σ x2 x3))
  else (bG (jin x4 1600) (
  if (gI σ 26 (ix x4)) = 0 then (f_X11_comes_J72 σ x2 x4 0 x3)
  else (f_X11_comes_J72 σ x2 x4 1 x3)))
set_option maxHeartbeats 1000000 in
set_option maxRecDepth 20000 in
theorem f_X11_comes_B48_ok {g : Bool} {rv : Option Value} {μ' : jM} (σ : jS) (x2 : Int32) (x3 : Int32) (x4 : Int32) {Kp : ((Int32 × Int32 × jS) ⊕ (Int32 × jS)) → Prop} (hn : Nat.ble nM μ'.1 = true ∧ Nat.ble wM μ'.2.1 = true) (hr : ∀ (r : Int32) (s : jS), Kp (.inr ((r, s))) → rv = some (.int r) ∧ μ' = eM s) (hc0 : ∀ s : (Int32 × Int32 × jS), Kp (.inl s) → J yX11_comes cX11_comes 7 (some .int) 5 g rv μ' 48 [(0, .ref 1), (2, .int x2), (3, .int s.1), (4, .int s.2.1)] [] (eM s.2.2)) (o : ((Int32 × Int32 × jS) ⊕ (Int32 × jS))) (h : f_X11_comes_B48 σ x2 x3 x4 = some o) (hK : Kp o) : J yX11_comes cX11_comes 7 (some .int) 5 g rv μ' 48 [(0, .ref 1), (2, .int x2), (3, .int x3), (4, .int x4)] [] (eM σ) := by
  unfold f_X11_comes_B48 at h
  refine j_iload 3 dX11_comes_48 rfl ?_
  refine j_sipush (v := 1600) dX11_comes_50 (by decide) ?_
  refine j_icmp_ge 80 dX11_comes_53 (by decide) (fun hc36 => ?_) (fun hc36 => ?_)
  · replace h := jif_t hc36 h
    replace h := jw_inv h
    obtain ⟨o37, rfl, h⟩ := h
    refine j_sub [(0, .ref 1), (2, .int x2), (3, .int x3)] [0, 1, 2] rfl ?_
    exact f_X11_comes_J80_ok (Kp := fun o => Kp (.inr (o))) σ x2 x3 hn (fun r s q => hr r s q) _ h hK
  · replace h := jif_f hc36 h
    refine j_iload_n 2 dX11_comes_56 rfl rfl ?_
    refine j_aload_n 0 dX11_comes_57 rfl rfl ?_
    refine j_get (ci := 10) 47 (.ref 26) jC_10 dX11_comes_58 kg_RX11_91 rfl (okM_1 _) (shM_1 _) (fvM_1_47 _) ?_
    refine j_iload 3 dX11_comes_61 rfl ?_
    replace h := bG_inv h
    obtain ⟨hi38, h⟩ := h
    refine j_baload dX11_comes_63 (okM_26 _) (shM_26 _) (jin_spec hi38) ?_
    refine j_if_eq 71 dX11_comes_64 (by decide) (fun hc39 => ?_) (fun hc39 => ?_)
    · replace h := jif_t hc39 h
      refine j_iconst (v := 0) dX11_comes_71 (by decide) ?_
      refine j_sub [(0, .ref 1), (2, .int x2), (4, .int x4)] [0, 1, 3] rfl ?_
      exact f_X11_comes_J72_ok σ x2 x4 0 x3 hn hr hc0 _ h hK
    · replace h := jif_f hc39 h
      refine j_iconst (v := 1) dX11_comes_67 (by decide) ?_
      refine j_goto 72 dX11_comes_68 (by decide) ?_
      refine j_sub [(0, .ref 1), (2, .int x2), (4, .int x4)] [0, 1, 3] rfl ?_
      exact f_X11_comes_J72_ok σ x2 x4 1 x3 hn hr hc0 _ h hK
def f_X11_comes (σ : jS) (x1 : Int32) (x2 : Int32) : Option (Int32 × jS) :=
  bC (f_X11_isQuarrel σ x1) fun r1 =>
  if r1 = 0 then (some (((-1001), σ)))
  else (bC (f_X11_in (x2.toInt64) 0 4) fun r2 =>
  if r2 = 0 then (some (((-1002), σ)))
  else (bG (jin x1 4) (
  bD (f_X11_spread σ (gI σ 9 (ix x1)) 0) fun r3 σ4 =>
  bD (f_X11_findEnds σ4) fun r5 σ6 =>
  jloop jFuel (fun s => f_X11_comes_B48 s.2.2 x2 s.1 s.2.1) (0, 0, σ6))))
set_option maxHeartbeats 1000000 in
set_option maxRecDepth 20000 in
theorem f_X11_comes_ok {g : Bool} {rv : Option Value} {μ' : jM} (σ : jS) (x1 : Int32) (x2 : Int32) {Kp : (Int32 × jS) → Prop} (hn : Nat.ble nM μ'.1 = true ∧ Nat.ble wM μ'.2.1 = true) (hr : ∀ (r : Int32) (s : jS), Kp ((r, s)) → rv = some (.int r) ∧ μ' = eM s) (o : (Int32 × jS)) (h : f_X11_comes σ x1 x2 = some o) (hK : Kp o) : J yX11_comes cX11_comes 7 (some .int) 5 g rv μ' 0 [(0, .ref 1), (1, .int x1), (2, .int x2)] [] (eM σ) := by
  unfold f_X11_comes at h
  refine j_aload_n 0 dX11_comes_0 rfl rfl ?_
  refine j_iload_n 1 dX11_comes_1 rfl rfl ?_
  replace h := bC_inv h
  obtain ⟨r40, cr40, h⟩ := h
  refine j_callV (ci := 10) (st1 := .int r40 :: _) (c_X11_isQuarrel g cr40) jy_X11_isQuarrel ki_yX11_isQuarrel ks_yX11_isQuarrel kl_RX11_309 dX11_comes_2 rfl (okM_1 _) (shM_1 _) rfl rfl rfl rfl (jbr _) (jbr _) hn.1 hn.2 (Or.inr rfl) rfl ?_
  refine j_if_ne 12 dX11_comes_5 (by decide) (fun hc41 => ?_) (fun hc41 => ?_)
  · replace h := jif_f hc41 h
    refine j_iload_n 2 dX11_comes_12 rfl rfl ?_
    refine j_i2l dX11_comes_13 ?_
    refine j_lconst (v := 0) dX11_comes_14 (by decide) ?_
    refine j_ldc2 (v := 4) kk_RX11_355 dX11_comes_15 ?_
    replace h := bC_inv h
    obtain ⟨r42, cr42, h⟩ := h
    refine j_callS (st1 := .int r42 :: _) (c_X11_in g _ cr42) jy_X11_in kt_yX11_in kl_RX11_144 dX11_comes_18 rfl rfl rfl rfl (jbr _) (jbr _) hn.1 hn.2 (Or.inr rfl) rfl ?_
    refine j_if_ne 28 dX11_comes_21 (by decide) (fun hc43 => ?_) (fun hc43 => ?_)
    · replace h := jif_f hc43 h
      refine j_aload_n 0 dX11_comes_28 rfl rfl ?_
      refine j_aload_n 0 dX11_comes_29 rfl rfl ?_
      refine j_get (ci := 10) 11 (.ref 9) jC_10 dX11_comes_30 kg_RX11_31 rfl (okM_1 _) (shM_1 _) (fvM_1_11 _) ?_
      refine j_iload_n 1 dX11_comes_33 rfl rfl ?_
      replace h := bG_inv h
      obtain ⟨hi44, h⟩ := h
      refine j_iaload dX11_comes_34 (okM_9 _) (shM_9 _) (jin_spec hi44) ?_
      refine j_iconst (v := 0) dX11_comes_35 (by decide) ?_
      replace h := bD_inv h
      obtain ⟨r45, σ46, cr45, h⟩ := h
      refine j_callV (ci := 10) (st1 := _) (c_X11_spread g cr45) jy_X11_spread ki_yX11_spread ks_yX11_spread kl_RX11_357 dX11_comes_36 rfl (okM_1 _) (shM_1 _) rfl rfl rfl rfl (jbr _) (jbr _) hn.1 hn.2 (Or.inr rfl) rfl ?_
      refine j_aload_n 0 dX11_comes_39 rfl rfl ?_
      replace h := bD_inv h
      obtain ⟨r47, σ48, cr47, h⟩ := h
      refine j_callV (ci := 10) (st1 := _) (c_X11_findEnds g cr47) jy_X11_findEnds ki_yX11_findEnds ks_yX11_findEnds kl_RX11_361 dX11_comes_40 rfl (okM_1 _) (shM_1 _) rfl rfl rfl rfl (jbr _) (jbr _) hn.1 hn.2 (Or.inr rfl) rfl ?_
      refine j_iconst (v := 0) dX11_comes_43 (by decide) ?_
      refine j_istore_n [(3, .int 0), (0, .ref 1), (1, .int x1), (2, .int x2)] dX11_comes_44 rfl (Nat.le_of_ble_eq_true rfl) rfl ?_
      refine j_iconst (v := 0) dX11_comes_45 (by decide) ?_
      refine j_istore [(4, .int 0), (3, .int 0), (0, .ref 1), (1, .int x1), (2, .int x2)] dX11_comes_46 (Nat.le_of_ble_eq_true rfl) rfl ?_
      refine j_sub [(0, .ref 1), (2, .int x2), (3, .int 0), (4, .int 0)] [2, 4, 1, 0] rfl ?_
      exact jloop_ok (fun s => f_X11_comes_B48 s.2.2 x2 s.1 s.2.1) (fun s => J yX11_comes cX11_comes 7 (some .int) 5 g rv μ' 48 [(0, .ref 1), (2, .int x2), (3, .int s.1), (4, .int s.2.1)] [] (eM s.2.2)) Kp (fun s o hb hk => f_X11_comes_B48_ok (Kp := jsum (fun s => J yX11_comes cX11_comes 7 (some .int) 5 g rv μ' 48 [(0, .ref 1), (2, .int x2), (3, .int s.1), (4, .int s.2.1)] [] (eM s.2.2)) Kp) s.2.2 x2 s.1 s.2.1 hn (fun r s q => hr r s q) (fun s q => q) o hb hk) jFuel _ _ h hK
    · replace h := jif_t hc43 h
      refine j_sipush (v := (-1002)) dX11_comes_24 (by decide) ?_
      replace h := Option.some.inj h
      subst h
      obtain ⟨hr1, hr2⟩ := hr _ _ hK
      exact j_iret dX11_comes_27 hr1 hr2
  · replace h := jif_t hc41 h
    refine j_sipush (v := (-1001)) dX11_comes_8 (by decide) ?_
    replace h := Option.some.inj h
    subst h
    obtain ⟨hr1, hr2⟩ := hr _ _ hK
    exact j_iret dX11_comes_11 hr1 hr2
theorem c_X11_comes (g : Bool) {σ : jS} {x1 : Int32} {x2 : Int32} {r : Int32} {σ2 : jS} (h : f_X11_comes σ x1 x2 = some (r, σ2)) : Cn yX11_comes cX11_comes 7 (some .int) 5 g [.ref 1, .int x1, .int x2] (eM σ) (some (.int r)) (eM σ2) :=
  Cn_of (by decide) (Nat.le_refl _) (Nat.le_refl _) (Nat.le_of_ble_eq_true rfl) (f_X11_comes_ok (Kp := (fun o => o = (r, σ2))) σ x1 x2 ⟨jbr _, jbr _⟩ (fun r2 s2 q => by cases q; exact ⟨rfl, rfl⟩) _ h rfl)
def f_X11_end_J67 (σ : jS) : Option (Int32 × jS) :=
  some (((-1), σ))
set_option maxHeartbeats 1000000 in
set_option maxRecDepth 20000 in
theorem f_X11_end_J67_ok {g : Bool} {rv : Option Value} {μ' : jM} (σ : jS) {Kp : (Int32 × jS) → Prop} (hn : Nat.ble nM μ'.1 = true ∧ Nat.ble wM μ'.2.1 = true) (hr : ∀ (r : Int32) (s : jS), Kp ((r, s)) → rv = some (.int r) ∧ μ' = eM s) (o : (Int32 × jS)) (h : f_X11_end_J67 σ = some o) (hK : Kp o) : J yX11_end cX11_end 5 (some .int) 5 g rv μ' 67 [] [] (eM σ) := by
  unfold f_X11_end_J67 at h
  refine j_iconst (v := (-1)) dX11_end_67 (by decide) ?_
  replace h := Option.some.inj h
  subst h
  obtain ⟨hr1, hr2⟩ := hr _ _ hK
  exact j_iret dX11_end_68 hr1 hr2
def f_X11_end_J61 (σ : jS) (x2 : Int32) (x3 : Int32) (x4 : Int32) : Option ((Int32 × Int32 × jS) ⊕ (Int32 × jS)) :=
  bV (x4 + 1) fun v6 =>
  some (.inl (x3, v6, σ))
set_option maxHeartbeats 1000000 in
set_option maxRecDepth 20000 in
theorem f_X11_end_J61_ok {g : Bool} {rv : Option Value} {μ' : jM} (σ : jS) (x2 : Int32) (x3 : Int32) (x4 : Int32) {Kp : ((Int32 × Int32 × jS) ⊕ (Int32 × jS)) → Prop} (hn : Nat.ble nM μ'.1 = true ∧ Nat.ble wM μ'.2.1 = true) (hr : ∀ (r : Int32) (s : jS), Kp (.inr ((r, s))) → rv = some (.int r) ∧ μ' = eM s) (hc0 : ∀ s : (Int32 × Int32 × jS), Kp (.inl s) → J yX11_end cX11_end 5 (some .int) 5 g rv μ' 32 [(0, .ref 1), (2, .int x2), (3, .int s.1), (4, .int s.2.1)] [] (eM s.2.2)) (o : ((Int32 × Int32 × jS) ⊕ (Int32 × jS))) (h : f_X11_end_J61 σ x2 x3 x4 = some o) (hK : Kp o) : J yX11_end cX11_end 5 (some .int) 5 g rv μ' 61 [(0, .ref 1), (2, .int x2), (3, .int x3), (4, .int x4)] [] (eM σ) := by
  unfold f_X11_end_J61 at h
  replace h := bV_inv h
  obtain ⟨v7, ev7, h⟩ := h
  refine j_iinc (v := v7) [(4, .int v7), (0, .ref 1), (2, .int x2), (3, .int x3)] 3 dX11_end_61 rfl (by rw [ev7]; rfl) (Nat.le_of_ble_eq_true rfl) rfl ?_
  refine j_goto 32 dX11_end_64 (by decide) ?_
  replace h := Option.some.inj h
  subst h
  refine j_sub [(0, .ref 1), (2, .int x2), (3, .int x3), (4, .int v7)] [1, 2, 3, 0] rfl ?_
  exact hc0 _ hK
def f_X11_end_J55 (σ : jS) (x4 : Int32) : Option (Int32 × jS) :=
  some ((x4, σ))
set_option maxHeartbeats 1000000 in
set_option maxRecDepth 20000 in
theorem f_X11_end_J55_ok {g : Bool} {rv : Option Value} {μ' : jM} (σ : jS) (x4 : Int32) {Kp : (Int32 × jS) → Prop} (hn : Nat.ble nM μ'.1 = true ∧ Nat.ble wM μ'.2.1 = true) (hr : ∀ (r : Int32) (s : jS), Kp ((r, s)) → rv = some (.int r) ∧ μ' = eM s) (o : (Int32 × jS)) (h : f_X11_end_J55 σ x4 = some o) (hK : Kp o) : J yX11_end cX11_end 5 (some .int) 5 g rv μ' 55 [(4, .int x4)] [] (eM σ) := by
  unfold f_X11_end_J55 at h
  refine j_iload 0 dX11_end_55 rfl ?_
  replace h := Option.some.inj h
  subst h
  obtain ⟨hr1, hr2⟩ := hr _ _ hK
  exact j_iret dX11_end_57 hr1 hr2
def f_X11_end_B32 (σ : jS) (x2 : Int32) (x3 : Int32) (x4 : Int32) : Option ((Int32 × Int32 × jS) ⊕ (Int32 × jS)) :=
  if 1600 ≤ x4 then (jw (f_X11_end_J67 σ))
  else (bG (jin x4 1600) (
  if (gI σ 26 (ix x4)) = 0 then (f_X11_end_J61 σ x2 x3 x4)
  else (if x3 = x2 then (jw (f_X11_end_J55 σ x4))
  else (bV (x3 + 1) fun v8 =>
  f_X11_end_J61 σ x2 v8 x4))))
set_option maxHeartbeats 1000000 in
set_option maxRecDepth 20000 in
theorem f_X11_end_B32_ok {g : Bool} {rv : Option Value} {μ' : jM} (σ : jS) (x2 : Int32) (x3 : Int32) (x4 : Int32) {Kp : ((Int32 × Int32 × jS) ⊕ (Int32 × jS)) → Prop} (hn : Nat.ble nM μ'.1 = true ∧ Nat.ble wM μ'.2.1 = true) (hr : ∀ (r : Int32) (s : jS), Kp (.inr ((r, s))) → rv = some (.int r) ∧ μ' = eM s) (hc0 : ∀ s : (Int32 × Int32 × jS), Kp (.inl s) → J yX11_end cX11_end 5 (some .int) 5 g rv μ' 32 [(0, .ref 1), (2, .int x2), (3, .int s.1), (4, .int s.2.1)] [] (eM s.2.2)) (o : ((Int32 × Int32 × jS) ⊕ (Int32 × jS))) (h : f_X11_end_B32 σ x2 x3 x4 = some o) (hK : Kp o) : J yX11_end cX11_end 5 (some .int) 5 g rv μ' 32 [(0, .ref 1), (2, .int x2), (3, .int x3), (4, .int x4)] [] (eM σ) := by
  unfold f_X11_end_B32 at h
  refine j_iload 3 dX11_end_32 rfl ?_
  refine j_sipush (v := 1600) dX11_end_34 (by decide) ?_
  refine j_icmp_ge 67 dX11_end_37 (by decide) (fun hc9 => ?_) (fun hc9 => ?_)
  · replace h := jif_t hc9 h
    replace h := jw_inv h
    obtain ⟨o10, rfl, h⟩ := h
    refine j_sub [] [] rfl ?_
    exact f_X11_end_J67_ok (Kp := fun o => Kp (.inr (o))) σ hn (fun r s q => hr r s q) _ h hK
  · replace h := jif_f hc9 h
    refine j_aload_n 0 dX11_end_40 rfl rfl ?_
    refine j_get (ci := 10) 47 (.ref 26) jC_10 dX11_end_41 kg_RX11_91 rfl (okM_1 _) (shM_1 _) (fvM_1_47 _) ?_
    refine j_iload 3 dX11_end_44 rfl ?_
    replace h := bG_inv h
    obtain ⟨hi11, h⟩ := h
    refine j_baload dX11_end_46 (okM_26 _) (shM_26 _) (jin_spec hi11) ?_
    refine j_if_eq 61 dX11_end_47 (by decide) (fun hc12 => ?_) (fun hc12 => ?_)
    · replace h := jif_t hc12 h
      exact f_X11_end_J61_ok σ x2 x3 x4 hn hr hc0 _ h hK
    · replace h := jif_f hc12 h
      refine j_iload_n 2 dX11_end_50 rfl rfl ?_
      refine j_iload_n 1 dX11_end_51 rfl rfl ?_
      refine j_icmp_ne 58 dX11_end_52 (by decide) (fun hc13 => ?_) (fun hc13 => ?_)
      · replace h := jif_f hc13 h
        replace h := bV_inv h
        obtain ⟨v14, ev14, h⟩ := h
        refine j_iinc (v := v14) [(3, .int v14), (0, .ref 1), (2, .int x2), (4, .int x4)] 2 dX11_end_58 rfl (by rw [ev14]; rfl) (Nat.le_of_ble_eq_true rfl) rfl ?_
        refine j_sub [(0, .ref 1), (2, .int x2), (3, .int v14), (4, .int x4)] [1, 2, 0, 3] rfl ?_
        exact f_X11_end_J61_ok σ x2 v14 x4 hn hr hc0 _ h hK
      · replace h := jif_t hc13 h
        replace h := jw_inv h
        obtain ⟨o15, rfl, h⟩ := h
        refine j_sub [(4, .int x4)] [3] rfl ?_
        exact f_X11_end_J55_ok (Kp := fun o => Kp (.inr (o))) σ x4 hn (fun r s q => hr r s q) _ h hK
def f_X11_end (σ : jS) (x1 : Int32) (x2 : Int32) : Option (Int32 × jS) :=
  bC (f_X11_isQuarrel σ x1) fun r1 =>
  if r1 = 0 then (some (((-1001), σ)))
  else (bG (jin x1 4) (
  bD (f_X11_spread σ (gI σ 9 (ix x1)) 0) fun r2 σ3 =>
  bD (f_X11_findEnds σ3) fun r4 σ5 =>
  jloop jFuel (fun s => f_X11_end_B32 s.2.2 x2 s.1 s.2.1) (0, 0, σ5)))
set_option maxHeartbeats 1000000 in
set_option maxRecDepth 20000 in
theorem f_X11_end_ok {g : Bool} {rv : Option Value} {μ' : jM} (σ : jS) (x1 : Int32) (x2 : Int32) {Kp : (Int32 × jS) → Prop} (hn : Nat.ble nM μ'.1 = true ∧ Nat.ble wM μ'.2.1 = true) (hr : ∀ (r : Int32) (s : jS), Kp ((r, s)) → rv = some (.int r) ∧ μ' = eM s) (o : (Int32 × jS)) (h : f_X11_end σ x1 x2 = some o) (hK : Kp o) : J yX11_end cX11_end 5 (some .int) 5 g rv μ' 0 [(0, .ref 1), (1, .int x1), (2, .int x2)] [] (eM σ) := by
  unfold f_X11_end at h
  refine j_aload_n 0 dX11_end_0 rfl rfl ?_
  refine j_iload_n 1 dX11_end_1 rfl rfl ?_
  replace h := bC_inv h
  obtain ⟨r16, cr16, h⟩ := h
  refine j_callV (ci := 10) (st1 := .int r16 :: _) (c_X11_isQuarrel g cr16) jy_X11_isQuarrel ki_yX11_isQuarrel ks_yX11_isQuarrel kl_RX11_309 dX11_end_2 rfl (okM_1 _) (shM_1 _) rfl rfl rfl rfl (jbr _) (jbr _) hn.1 hn.2 (Or.inr rfl) rfl ?_
  refine j_if_ne 12 dX11_end_5 (by decide) (fun hc17 => ?_) (fun hc17 => ?_)
  · replace h := jif_f hc17 h
    refine j_aload_n 0 dX11_end_12 rfl rfl ?_
    refine j_aload_n 0 dX11_end_13 rfl rfl ?_
    refine j_get (ci := 10) 11 (.ref 9) jC_10 dX11_end_14 kg_RX11_31 rfl (okM_1 _) (shM_1 _) (fvM_1_11 _) ?_
    refine j_iload_n 1 dX11_end_17 rfl rfl ?_
    replace h := bG_inv h
    obtain ⟨hi18, h⟩ := h
    refine j_iaload dX11_end_18 (okM_9 _) (shM_9 _) (jin_spec hi18) ?_
    refine j_iconst (v := 0) dX11_end_19 (by decide) ?_
    replace h := bD_inv h
    obtain ⟨r19, σ20, cr19, h⟩ := h
    refine j_callV (ci := 10) (st1 := _) (c_X11_spread g cr19) jy_X11_spread ki_yX11_spread ks_yX11_spread kl_RX11_357 dX11_end_20 rfl (okM_1 _) (shM_1 _) rfl rfl rfl rfl (jbr _) (jbr _) hn.1 hn.2 (Or.inr rfl) rfl ?_
    refine j_aload_n 0 dX11_end_23 rfl rfl ?_
    replace h := bD_inv h
    obtain ⟨r21, σ22, cr21, h⟩ := h
    refine j_callV (ci := 10) (st1 := _) (c_X11_findEnds g cr21) jy_X11_findEnds ki_yX11_findEnds ks_yX11_findEnds kl_RX11_361 dX11_end_24 rfl (okM_1 _) (shM_1 _) rfl rfl rfl rfl (jbr _) (jbr _) hn.1 hn.2 (Or.inr rfl) rfl ?_
    refine j_iconst (v := 0) dX11_end_27 (by decide) ?_
    refine j_istore_n [(3, .int 0), (0, .ref 1), (1, .int x1), (2, .int x2)] dX11_end_28 rfl (Nat.le_of_ble_eq_true rfl) rfl ?_
    refine j_iconst (v := 0) dX11_end_29 (by decide) ?_
    refine j_istore [(4, .int 0), (3, .int 0), (0, .ref 1), (1, .int x1), (2, .int x2)] dX11_end_30 (Nat.le_of_ble_eq_true rfl) rfl ?_
    refine j_sub [(0, .ref 1), (2, .int x2), (3, .int 0), (4, .int 0)] [2, 4, 1, 0] rfl ?_
    exact jloop_ok (fun s => f_X11_end_B32 s.2.2 x2 s.1 s.2.1) (fun s => J yX11_end cX11_end 5 (some .int) 5 g rv μ' 32 [(0, .ref 1), (2, .int x2), (3, .int s.1), (4, .int s.2.1)] [] (eM s.2.2)) Kp (fun s o hb hk => f_X11_end_B32_ok (Kp := jsum (fun s => J yX11_end cX11_end 5 (some .int) 5 g rv μ' 32 [(0, .ref 1), (2, .int x2), (3, .int s.1), (4, .int s.2.1)] [] (eM s.2.2)) Kp) s.2.2 x2 s.1 s.2.1 hn (fun r s q => hr r s q) (fun s q => q) o hb hk) jFuel _ _ h hK
  · replace h := jif_t hc17 h
    refine j_sipush (v := (-1001)) dX11_end_8 (by decide) ?_
    replace h := Option.some.inj h
    subst h
    obtain ⟨hr1, hr2⟩ := hr _ _ hK
    exact j_iret dX11_end_11 hr1 hr2
theorem c_X11_end (g : Bool) {σ : jS} {x1 : Int32} {x2 : Int32} {r : Int32} {σ2 : jS} (h : f_X11_end σ x1 x2 = some (r, σ2)) : Cn yX11_end cX11_end 5 (some .int) 5 g [.ref 1, .int x1, .int x2] (eM σ) (some (.int r)) (eM σ2) :=
  Cn_of (by decide) (Nat.le_refl _) (Nat.le_refl _) (Nat.le_of_ble_eq_true rfl) (f_X11_end_ok (Kp := (fun o => o = (r, σ2))) σ x1 x2 ⟨jbr _, jbr _⟩ (fun r2 s2 q => by cases q; exact ⟨rfl, rfl⟩) _ h rfl)
def f_X11_solve_J212 (σ : jS) : Option (Unit × jS) :=
  some (((), σ))
set_option maxHeartbeats 1000000 in
set_option maxRecDepth 20000 in
theorem f_X11_solve_J212_ok {g : Bool} {rv : Option Value} {μ' : jM} (σ : jS) {Kp : (Unit × jS) → Prop} (hn : Nat.ble nM μ'.1 = true ∧ Nat.ble wM μ'.2.1 = true) (hr : ∀ (r : Unit) (s : jS), Kp ((r, s)) → rv = none ∧ μ' = eM s) (o : (Unit × jS)) (h : f_X11_solve_J212 σ = some o) (hK : Kp o) : J yX11_solve cX11_solve 6 none 2 g rv μ' 212 [] [] (eM σ) := by
  unfold f_X11_solve_J212 at h
  replace h := Option.some.inj h
  subst h
  obtain ⟨hr1, hr2⟩ := hr _ _ hK
  exact j_vret dX11_solve_212 hr1 hr2
def f_X11_solve_J206 (σ : jS) (x1 : Int32) (x2 : Int32) (x3 : Int32) : Option ((Int32 × Int32 × jS) ⊕ (Unit × jS)) :=
  bV (x3 + 1) fun v2 =>
  some (.inl (x2, v2, σ))
set_option maxHeartbeats 1000000 in
set_option maxRecDepth 20000 in
theorem f_X11_solve_J206_ok {g : Bool} {rv : Option Value} {μ' : jM} (σ : jS) (x1 : Int32) (x2 : Int32) (x3 : Int32) {Kp : ((Int32 × Int32 × jS) ⊕ (Unit × jS)) → Prop} (hn : Nat.ble nM μ'.1 = true ∧ Nat.ble wM μ'.2.1 = true) (hr : ∀ (r : Unit) (s : jS), Kp (.inr ((r, s))) → rv = none ∧ μ' = eM s) (hc0 : ∀ s : (Int32 × Int32 × jS), Kp (.inl s) → J yX11_solve cX11_solve 6 none 2 g rv μ' 86 [(0, .ref 1), (1, .int x1), (2, .int s.1), (3, .int s.2.1)] [] (eM s.2.2)) (o : ((Int32 × Int32 × jS) ⊕ (Unit × jS))) (h : f_X11_solve_J206 σ x1 x2 x3 = some o) (hK : Kp o) : J yX11_solve cX11_solve 6 none 2 g rv μ' 206 [(0, .ref 1), (1, .int x1), (2, .int x2), (3, .int x3)] [] (eM σ) := by
  unfold f_X11_solve_J206 at h
  replace h := bV_inv h
  obtain ⟨v3, ev3, h⟩ := h
  refine j_iinc (v := v3) [(3, .int v3), (0, .ref 1), (1, .int x1), (2, .int x2)] 3 dX11_solve_206 rfl (by rw [ev3]; rfl) (Nat.le_of_ble_eq_true rfl) rfl ?_
  refine j_goto 86 dX11_solve_209 (by decide) ?_
  replace h := Option.some.inj h
  subst h
  refine j_sub [(0, .ref 1), (1, .int x1), (2, .int x2), (3, .int v3)] [1, 2, 3, 0] rfl ?_
  exact hc0 _ hK
def f_X11_solve_J194 (σ : jS) (x1 : Int32) (x2 : Int32) (x3 : Int32) (x4 : Int32) : Option ((Int32 × Int32 × jS) ⊕ ((Int32 × Int32 × jS) ⊕ (Unit × jS))) :=
  bG (jin x4 620000) (
  bV (gI σ 23 (ix x4)) fun v6 =>
  some (.inl (x2, v6, σ)))
set_option maxHeartbeats 1000000 in
set_option maxRecDepth 20000 in
theorem f_X11_solve_J194_ok {g : Bool} {rv : Option Value} {μ' : jM} (σ : jS) (x1 : Int32) (x2 : Int32) (x3 : Int32) (x4 : Int32) {Kp : ((Int32 × Int32 × jS) ⊕ ((Int32 × Int32 × jS) ⊕ (Unit × jS))) → Prop} (hn : Nat.ble nM μ'.1 = true ∧ Nat.ble wM μ'.2.1 = true) (hr : ∀ (r : Unit) (s : jS), Kp (.inr (.inr ((r, s)))) → rv = none ∧ μ' = eM s) (hc0 : ∀ s : (Int32 × Int32 × jS), Kp (.inr (.inl s)) → J yX11_solve cX11_solve 6 none 2 g rv μ' 86 [(0, .ref 1), (1, .int x1), (2, .int s.1), (3, .int s.2.1)] [] (eM s.2.2)) (hc1 : ∀ s : (Int32 × Int32 × jS), Kp (.inl s) → J yX11_solve cX11_solve 6 none 2 g rv μ' 104 [(0, .ref 1), (1, .int x1), (2, .int s.1), (3, .int x3), (4, .int s.2.1)] [] (eM s.2.2)) (o : ((Int32 × Int32 × jS) ⊕ ((Int32 × Int32 × jS) ⊕ (Unit × jS)))) (h : f_X11_solve_J194 σ x1 x2 x3 x4 = some o) (hK : Kp o) : J yX11_solve cX11_solve 6 none 2 g rv μ' 194 [(0, .ref 1), (1, .int x1), (2, .int x2), (3, .int x3), (4, .int x4)] [] (eM σ) := by
  unfold f_X11_solve_J194 at h
  refine j_aload_n 0 dX11_solve_194 rfl rfl ?_
  refine j_get (ci := 10) 43 (.ref 23) jC_10 dX11_solve_195 kg_RX11_82 rfl (okM_1 _) (shM_1 _) (fvM_1_43 _) ?_
  refine j_iload 4 dX11_solve_198 rfl ?_
  replace h := bG_inv h
  obtain ⟨hi7, h⟩ := h
  refine j_iaload dX11_solve_200 (okM_23 _) (shM_23 _) (jin_spec hi7) ?_
  replace h := bV_inv h
  obtain ⟨v8, ev8, h⟩ := h
  refine j_nmi ev8 ?_
  refine j_istore [(4, .int v8), (0, .ref 1), (1, .int x1), (2, .int x2), (3, .int x3)] dX11_solve_201 (Nat.le_of_ble_eq_true rfl) rfl ?_
  refine j_goto 104 dX11_solve_203 (by decide) ?_
  replace h := Option.some.inj h
  subst h
  refine j_sub [(0, .ref 1), (1, .int x1), (2, .int x2), (3, .int x3), (4, .int v8)] [1, 2, 3, 4, 0] rfl ?_
  exact hc1 _ hK
def f_X11_solve_J163 (σ : jS) (x1 : Int32) (x2 : Int32) (x3 : Int32) (x4 : Int32) (x5 : Int32) : Option ((Int32 × Int32 × jS) ⊕ ((Int32 × Int32 × jS) ⊕ (Unit × jS))) :=
  bG (jin x3 147968) (
  bG (jin (gI σ 25 (ix x3)) 147968) (
  bG (jin x5 147968) (
  bV (sI σ 27 (ix x5) ((gI σ 27 (ix (gI σ 25 (ix x3)))) + (1 : Int32))) fun σ9 =>
  bG (jin x2 147968) (
  bV (sI σ9 25 (ix x2) x5) fun σ10 =>
  bV (x2 + 1) fun v11 =>
  f_X11_solve_J194 σ10 x1 v11 x3 x4))))
set_option maxHeartbeats 1000000 in
set_option maxRecDepth 20000 in
theorem f_X11_solve_J163_ok {g : Bool} {rv : Option Value} {μ' : jM} (σ : jS) (x1 : Int32) (x2 : Int32) (x3 : Int32) (x4 : Int32) (x5 : Int32) {Kp : ((Int32 × Int32 × jS) ⊕ ((Int32 × Int32 × jS) ⊕ (Unit × jS))) → Prop} (hn : Nat.ble nM μ'.1 = true ∧ Nat.ble wM μ'.2.1 = true) (hr : ∀ (r : Unit) (s : jS), Kp (.inr (.inr ((r, s)))) → rv = none ∧ μ' = eM s) (hc0 : ∀ s : (Int32 × Int32 × jS), Kp (.inr (.inl s)) → J yX11_solve cX11_solve 6 none 2 g rv μ' 86 [(0, .ref 1), (1, .int x1), (2, .int s.1), (3, .int s.2.1)] [] (eM s.2.2)) (hc1 : ∀ s : (Int32 × Int32 × jS), Kp (.inl s) → J yX11_solve cX11_solve 6 none 2 g rv μ' 104 [(0, .ref 1), (1, .int x1), (2, .int s.1), (3, .int x3), (4, .int s.2.1)] [] (eM s.2.2)) (o : ((Int32 × Int32 × jS) ⊕ ((Int32 × Int32 × jS) ⊕ (Unit × jS)))) (h : f_X11_solve_J163 σ x1 x2 x3 x4 x5 = some o) (hK : Kp o) : J yX11_solve cX11_solve 6 none 2 g rv μ' 163 [(0, .ref 1), (1, .int x1), (2, .int x2), (3, .int x3), (4, .int x4), (5, .int x5)] [] (eM σ) := by
  unfold f_X11_solve_J163 at h
  refine j_aload_n 0 dX11_solve_163 rfl rfl ?_
  refine j_get (ci := 10) 48 (.ref 27) jC_10 dX11_solve_164 kg_RX11_95 rfl (okM_1 _) (shM_1 _) (fvM_1_48 _) ?_
  refine j_iload 5 dX11_solve_167 rfl ?_
  refine j_aload_n 0 dX11_solve_169 rfl rfl ?_
  refine j_get (ci := 10) 48 (.ref 27) jC_10 dX11_solve_170 kg_RX11_95 rfl (okM_1 _) (shM_1 _) (fvM_1_48 _) ?_
  refine j_aload_n 0 dX11_solve_173 rfl rfl ?_
  refine j_get (ci := 10) 46 (.ref 25) jC_10 dX11_solve_174 kg_RX11_88 rfl (okM_1 _) (shM_1 _) (fvM_1_46 _) ?_
  refine j_iload_n 3 dX11_solve_177 rfl rfl ?_
  replace h := bG_inv h
  obtain ⟨hi12, h⟩ := h
  refine j_iaload dX11_solve_178 (okM_25 _) (shM_25 _) (jin_spec hi12) ?_
  replace h := bG_inv h
  obtain ⟨hi13, h⟩ := h
  refine j_iaload dX11_solve_179 (okM_27 _) (shM_27 _) (jin_spec hi13) ?_
  refine j_iconst (v := 1) dX11_solve_180 (by decide) ?_
  refine j_iadd dX11_solve_181 ?_
  replace h := bG_inv h
  obtain ⟨hi14, h⟩ := h
  refine j_iastore dX11_solve_182 (okM_27 _) (shM_27 _) (jin_spec hi14) ?_
  replace h := bV_inv h
  obtain ⟨σ15, eσ15, h⟩ := h
  refine j_mem (congrArg eM eσ15) ?_
  refine j_aload_n 0 dX11_solve_183 rfl rfl ?_
  refine j_get (ci := 10) 46 (.ref 25) jC_10 dX11_solve_184 kg_RX11_88 rfl (okM_1 _) (shM_1 _) (fvM_1_46 _) ?_
  refine j_iload_n 2 dX11_solve_187 rfl rfl ?_
  refine j_iload 5 dX11_solve_188 rfl ?_
  replace h := bG_inv h
  obtain ⟨hi16, h⟩ := h
  refine j_iastore dX11_solve_190 (okM_25 _) (shM_25 _) (jin_spec hi16) ?_
  replace h := bV_inv h
  obtain ⟨σ17, eσ17, h⟩ := h
  refine j_mem (congrArg eM eσ17) ?_
  replace h := bV_inv h
  obtain ⟨v18, ev18, h⟩ := h
  refine j_iinc (v := v18) [(2, .int v18), (0, .ref 1), (1, .int x1), (3, .int x3), (4, .int x4), (5, .int x5)] 2 dX11_solve_191 rfl (by rw [ev18]; rfl) (Nat.le_of_ble_eq_true rfl) rfl ?_
  refine j_sub [(0, .ref 1), (1, .int x1), (2, .int v18), (3, .int x3), (4, .int x4)] [1, 2, 0, 3, 4] rfl ?_
  exact f_X11_solve_J194_ok σ17 x1 v18 x3 x4 hn hr hc0 hc1 _ h hK
def f_X11_solve_B104 (σ : jS) (x1 : Int32) (x2 : Int32) (x3 : Int32) (x4 : Int32) : Option ((Int32 × Int32 × jS) ⊕ ((Int32 × Int32 × jS) ⊕ (Unit × jS))) :=
  if x4 < 0 then (jw (f_X11_solve_J206 σ x1 x2 x3))
  else (bG (jin x4 620000) (
  bV (gI σ 22 (ix x4)) fun v4 =>
  bG (jin v4 147968) (
  bG (jin v4 147968) (
  bV (sI σ 24 (ix v4) ((gI σ 24 (ix v4)) - (1 : Int32))) fun σ5 =>
  bG (jin v4 147968) (
  if 0 ≤ (gI σ5 27 (ix v4)) then (f_X11_solve_J194 σ5 x1 x2 x3 x4)
  else (bG (jin v4 147968) (
  if (gI σ5 24 (ix v4)) = 0 then (f_X11_solve_J163 σ5 x1 x2 x3 x4 v4)
  else (bG (jin v4 147968) (
  bC (f_X11_side (gI σ5 19 (ix v4))) fun r19 =>
  if r19 = x1 then (f_X11_solve_J163 σ5 x1 x2 x3 x4 v4)
  else (f_X11_solve_J194 σ5 x1 x2 x3 x4))))))))))
set_option maxHeartbeats 1000000 in
set_option maxRecDepth 20000 in
theorem f_X11_solve_B104_ok {g : Bool} {rv : Option Value} {μ' : jM} (σ : jS) (x1 : Int32) (x2 : Int32) (x3 : Int32) (x4 : Int32) {Kp : ((Int32 × Int32 × jS) ⊕ ((Int32 × Int32 × jS) ⊕ (Unit × jS))) → Prop} (hn : Nat.ble nM μ'.1 = true ∧ Nat.ble wM μ'.2.1 = true) (hr : ∀ (r : Unit) (s : jS), Kp (.inr (.inr ((r, s)))) → rv = none ∧ μ' = eM s) (hc0 : ∀ s : (Int32 × Int32 × jS), Kp (.inr (.inl s)) → J yX11_solve cX11_solve 6 none 2 g rv μ' 86 [(0, .ref 1), (1, .int x1), (2, .int s.1), (3, .int s.2.1)] [] (eM s.2.2)) (hc1 : ∀ s : (Int32 × Int32 × jS), Kp (.inl s) → J yX11_solve cX11_solve 6 none 2 g rv μ' 104 [(0, .ref 1), (1, .int x1), (2, .int s.1), (3, .int x3), (4, .int s.2.1)] [] (eM s.2.2)) (o : ((Int32 × Int32 × jS) ⊕ ((Int32 × Int32 × jS) ⊕ (Unit × jS)))) (h : f_X11_solve_B104 σ x1 x2 x3 x4 = some o) (hK : Kp o) : J yX11_solve cX11_solve 6 none 2 g rv μ' 104 [(0, .ref 1), (1, .int x1), (2, .int x2), (3, .int x3), (4, .int x4)] [] (eM σ) := by
  unfold f_X11_solve_B104 at h
  refine j_iload 4 dX11_solve_104 rfl ?_
  refine j_if_lt 206 dX11_solve_106 (by decide) (fun hc20 => ?_) (fun hc20 => ?_)
  · replace h := jif_t hc20 h
    replace h := jw_inv h
    obtain ⟨o21, rfl, h⟩ := h
    refine j_sub [(0, .ref 1), (1, .int x1), (2, .int x2), (3, .int x3)] [0, 1, 2, 3] rfl ?_
    exact f_X11_solve_J206_ok (Kp := fun o => Kp (.inr (o))) σ x1 x2 x3 hn (fun r s q => hr r s q) (fun s q => hc0 s q) _ h hK
  · replace h := jif_f hc20 h
    refine j_aload_n 0 dX11_solve_109 rfl rfl ?_
    refine j_get (ci := 10) 42 (.ref 22) jC_10 dX11_solve_110 kg_RX11_79 rfl (okM_1 _) (shM_1 _) (fvM_1_42 _) ?_
    refine j_iload 4 dX11_solve_113 rfl ?_
    replace h := bG_inv h
    obtain ⟨hi22, h⟩ := h
    refine j_iaload dX11_solve_115 (okM_22 _) (shM_22 _) (jin_spec hi22) ?_
    replace h := bV_inv h
    obtain ⟨v23, ev23, h⟩ := h
    refine j_nmi ev23 ?_
    refine j_istore [(5, .int v23), (0, .ref 1), (1, .int x1), (2, .int x2), (3, .int x3), (4, .int x4)] dX11_solve_116 (Nat.le_of_ble_eq_true rfl) rfl ?_
    refine j_aload_n 1 dX11_solve_118 rfl rfl ?_
    refine j_get (ci := 10) 45 (.ref 24) jC_10 dX11_solve_119 kg_RX11_85 rfl (okM_1 _) (shM_1 _) (fvM_1_45 _) ?_
    refine j_iload 0 dX11_solve_122 rfl ?_
    refine j_dup2 dX11_solve_124 rfl rfl ?_
    replace h := bG_inv h
    obtain ⟨hi24, h⟩ := h
    refine j_iaload dX11_solve_125 (okM_24 _) (shM_24 _) (jin_spec hi24) ?_
    refine j_iconst (v := 1) dX11_solve_126 (by decide) ?_
    refine j_isub dX11_solve_127 ?_
    replace h := bG_inv h
    obtain ⟨hi25, h⟩ := h
    refine j_iastore dX11_solve_128 (okM_24 _) (shM_24 _) (jin_spec hi25) ?_
    replace h := bV_inv h
    obtain ⟨σ26, eσ26, h⟩ := h
    refine j_mem (congrArg eM eσ26) ?_
    refine j_aload_n 1 dX11_solve_129 rfl rfl ?_
    refine j_get (ci := 10) 48 (.ref 27) jC_10 dX11_solve_130 kg_RX11_95 rfl (okM_1 _) (shM_1 _) (fvM_1_48 _) ?_
    refine j_iload 0 dX11_solve_133 rfl ?_
    replace h := bG_inv h
    obtain ⟨hi27, h⟩ := h
    refine j_iaload dX11_solve_135 (okM_27 _) (shM_27 _) (jin_spec hi27) ?_
    refine j_if_ge 194 dX11_solve_136 (by decide) (fun hc28 => ?_) (fun hc28 => ?_)
    · replace h := jif_t hc28 h
      refine j_sub [(0, .ref 1), (1, .int x1), (2, .int x2), (3, .int x3), (4, .int x4)] [1, 2, 3, 4, 5] rfl ?_
      exact f_X11_solve_J194_ok σ26 x1 x2 x3 x4 hn hr hc0 hc1 _ h hK
    · replace h := jif_f hc28 h
      refine j_aload_n 1 dX11_solve_139 rfl rfl ?_
      refine j_get (ci := 10) 45 (.ref 24) jC_10 dX11_solve_140 kg_RX11_85 rfl (okM_1 _) (shM_1 _) (fvM_1_45 _) ?_
      refine j_iload 0 dX11_solve_143 rfl ?_
      replace h := bG_inv h
      obtain ⟨hi29, h⟩ := h
      refine j_iaload dX11_solve_145 (okM_24 _) (shM_24 _) (jin_spec hi29) ?_
      refine j_if_eq 163 dX11_solve_146 (by decide) (fun hc30 => ?_) (fun hc30 => ?_)
      · replace h := jif_t hc30 h
        refine j_sub [(0, .ref 1), (1, .int x1), (2, .int x2), (3, .int x3), (4, .int x4), (5, .int v23)] [1, 2, 3, 4, 5, 0] rfl ?_
        exact f_X11_solve_J163_ok σ26 x1 x2 x3 x4 v23 hn hr hc0 hc1 _ h hK
      · replace h := jif_f hc30 h
        refine j_aload_n 1 dX11_solve_149 rfl rfl ?_
        refine j_get (ci := 10) 38 (.ref 19) jC_10 dX11_solve_150 kg_RX11_69 rfl (okM_1 _) (shM_1 _) (fvM_1_38 _) ?_
        refine j_iload 0 dX11_solve_153 rfl ?_
        replace h := bG_inv h
        obtain ⟨hi31, h⟩ := h
        refine j_iaload dX11_solve_155 (okM_19 _) (shM_19 _) (jin_spec hi31) ?_
        replace h := bC_inv h
        obtain ⟨r32, cr32, h⟩ := h
        refine j_callS (st1 := .int r32 :: _) (c_X11_side g _ cr32) jy_X11_side kt_yX11_side kl_RX11_277 dX11_solve_156 rfl rfl rfl rfl (jbr _) (jbr _) hn.1 hn.2 (Or.inr rfl) rfl ?_
        refine j_iload_n 2 dX11_solve_159 rfl rfl ?_
        refine j_icmp_ne 194 dX11_solve_160 (by decide) (fun hc33 => ?_) (fun hc33 => ?_)
        · replace h := jif_f hc33 h
          refine j_sub [(0, .ref 1), (1, .int x1), (2, .int x2), (3, .int x3), (4, .int x4)] [1, 2, 3, 4, 5] rfl ?_
          exact f_X11_solve_J194_ok σ26 x1 x2 x3 x4 hn hr hc0 hc1 _ h hK
        · replace h := jif_t hc33 h
          refine j_sub [(0, .ref 1), (1, .int x1), (2, .int x2), (3, .int x3), (4, .int x4), (5, .int v23)] [1, 2, 3, 4, 5, 0] rfl ?_
          exact f_X11_solve_J163_ok σ26 x1 x2 x3 x4 v23 hn hr hc0 hc1 _ h hK
def f_X11_solve_B86 (σ : jS) (x1 : Int32) (x2 : Int32) (x3 : Int32) : Option ((Int32 × Int32 × jS) ⊕ (Unit × jS)) :=
  if x2 ≤ x3 then (jw (f_X11_solve_J212 σ))
  else (bG (jin x3 147968) (
  bG (jin (gI σ 25 (ix x3)) 147968) (
  bV (gI σ 20 (ix (gI σ 25 (ix x3)))) fun v1 =>
  jloop jFuel (fun s => f_X11_solve_B104 s.2.2 x1 s.1 x3 s.2.1) (x2, v1, σ))))
set_option maxHeartbeats 1000000 in
set_option maxRecDepth 20000 in
theorem f_X11_solve_B86_ok {g : Bool} {rv : Option Value} {μ' : jM} (σ : jS) (x1 : Int32) (x2 : Int32) (x3 : Int32) {Kp : ((Int32 × Int32 × jS) ⊕ (Unit × jS)) → Prop} (hn : Nat.ble nM μ'.1 = true ∧ Nat.ble wM μ'.2.1 = true) (hr : ∀ (r : Unit) (s : jS), Kp (.inr ((r, s))) → rv = none ∧ μ' = eM s) (hc0 : ∀ s : (Int32 × Int32 × jS), Kp (.inl s) → J yX11_solve cX11_solve 6 none 2 g rv μ' 86 [(0, .ref 1), (1, .int x1), (2, .int s.1), (3, .int s.2.1)] [] (eM s.2.2)) (o : ((Int32 × Int32 × jS) ⊕ (Unit × jS))) (h : f_X11_solve_B86 σ x1 x2 x3 = some o) (hK : Kp o) : J yX11_solve cX11_solve 6 none 2 g rv μ' 86 [(0, .ref 1), (1, .int x1), (2, .int x2), (3, .int x3)] [] (eM σ) := by
  unfold f_X11_solve_B86 at h
  refine j_iload_n 3 dX11_solve_86 rfl rfl ?_
  refine j_iload_n 2 dX11_solve_87 rfl rfl ?_
  refine j_icmp_ge 212 dX11_solve_88 (by decide) (fun hc34 => ?_) (fun hc34 => ?_)
  · replace h := jif_t hc34 h
    replace h := jw_inv h
    obtain ⟨o35, rfl, h⟩ := h
    refine j_sub [] [] rfl ?_
    exact f_X11_solve_J212_ok (Kp := fun o => Kp (.inr (o))) σ hn (fun r s q => hr r s q) _ h hK
  · replace h := jif_f hc34 h
    refine j_aload_n 0 dX11_solve_91 rfl rfl ?_
    refine j_get (ci := 10) 40 (.ref 20) jC_10 dX11_solve_92 kg_RX11_72 rfl (okM_1 _) (shM_1 _) (fvM_1_40 _) ?_
    refine j_aload_n 0 dX11_solve_95 rfl rfl ?_
    refine j_get (ci := 10) 46 (.ref 25) jC_10 dX11_solve_96 kg_RX11_88 rfl (okM_1 _) (shM_1 _) (fvM_1_46 _) ?_
    refine j_iload_n 3 dX11_solve_99 rfl rfl ?_
    replace h := bG_inv h
    obtain ⟨hi36, h⟩ := h
    refine j_iaload dX11_solve_100 (okM_25 _) (shM_25 _) (jin_spec hi36) ?_
    replace h := bG_inv h
    obtain ⟨hi37, h⟩ := h
    refine j_iaload dX11_solve_101 (okM_20 _) (shM_20 _) (jin_spec hi37) ?_
    replace h := bV_inv h
    obtain ⟨v38, ev38, h⟩ := h
    refine j_nmi ev38 ?_
    refine j_istore [(4, .int v38), (0, .ref 1), (1, .int x1), (2, .int x2), (3, .int x3)] dX11_solve_102 (Nat.le_of_ble_eq_true rfl) rfl ?_
    refine j_sub [(0, .ref 1), (1, .int x1), (2, .int x2), (3, .int x3), (4, .int v38)] [1, 2, 3, 4, 0] rfl ?_
    exact jloop_ok (fun s => f_X11_solve_B104 s.2.2 x1 s.1 x3 s.2.1) (fun s => J yX11_solve cX11_solve 6 none 2 g rv μ' 104 [(0, .ref 1), (1, .int x1), (2, .int s.1), (3, .int x3), (4, .int s.2.1)] [] (eM s.2.2)) Kp (fun s o hb hk => f_X11_solve_B104_ok (Kp := jsum (fun s => J yX11_solve cX11_solve 6 none 2 g rv μ' 104 [(0, .ref 1), (1, .int x1), (2, .int s.1), (3, .int x3), (4, .int s.2.1)] [] (eM s.2.2)) Kp) s.2.2 x1 s.1 x3 s.2.1 hn (fun r s q => hr r s q) (fun s q => hc0 s q) (fun s q => q) o hb hk) jFuel _ _ h hK
def f_X11_solve_J84 (σ : jS) (x1 : Int32) (x2 : Int32) : Option (Unit × jS) :=
  jloop jFuel (fun s => f_X11_solve_B86 s.2.2 x1 s.1 s.2.1) (x2, 0, σ)
set_option maxHeartbeats 1000000 in
set_option maxRecDepth 20000 in
theorem f_X11_solve_J84_ok {g : Bool} {rv : Option Value} {μ' : jM} (σ : jS) (x1 : Int32) (x2 : Int32) {Kp : (Unit × jS) → Prop} (hn : Nat.ble nM μ'.1 = true ∧ Nat.ble wM μ'.2.1 = true) (hr : ∀ (r : Unit) (s : jS), Kp ((r, s)) → rv = none ∧ μ' = eM s) (o : (Unit × jS)) (h : f_X11_solve_J84 σ x1 x2 = some o) (hK : Kp o) : J yX11_solve cX11_solve 6 none 2 g rv μ' 84 [(0, .ref 1), (1, .int x1), (2, .int x2)] [] (eM σ) := by
  unfold f_X11_solve_J84 at h
  refine j_iconst (v := 0) dX11_solve_84 (by decide) ?_
  refine j_istore_n [(3, .int 0), (0, .ref 1), (1, .int x1), (2, .int x2)] dX11_solve_85 rfl (Nat.le_of_ble_eq_true rfl) rfl ?_
  refine j_sub [(0, .ref 1), (1, .int x1), (2, .int x2), (3, .int 0)] [1, 2, 3, 0] rfl ?_
  exact jloop_ok (fun s => f_X11_solve_B86 s.2.2 x1 s.1 s.2.1) (fun s => J yX11_solve cX11_solve 6 none 2 g rv μ' 86 [(0, .ref 1), (1, .int x1), (2, .int s.1), (3, .int s.2.1)] [] (eM s.2.2)) Kp (fun s o hb hk => f_X11_solve_B86_ok (Kp := jsum (fun s => J yX11_solve cX11_solve 6 none 2 g rv μ' 86 [(0, .ref 1), (1, .int x1), (2, .int s.1), (3, .int s.2.1)] [] (eM s.2.2)) Kp) s.2.2 x1 s.1 s.2.1 hn (fun r s q => hr r s q) (fun s q => q) o hb hk) jFuel _ _ h hK
def f_X11_solve_J78 (σ : jS) (x1 : Int32) (x2 : Int32) (x3 : Int32) : Option ((Int32 × Int32 × jS) ⊕ (Unit × jS)) :=
  bV (x3 + 1) fun v43 =>
  some (.inl (x2, v43, σ))
set_option maxHeartbeats 1000000 in
set_option maxRecDepth 20000 in
theorem f_X11_solve_J78_ok {g : Bool} {rv : Option Value} {μ' : jM} (σ : jS) (x1 : Int32) (x2 : Int32) (x3 : Int32) {Kp : ((Int32 × Int32 × jS) ⊕ (Unit × jS)) → Prop} (hn : Nat.ble nM μ'.1 = true ∧ Nat.ble wM μ'.2.1 = true) (hr : ∀ (r : Unit) (s : jS), Kp (.inr ((r, s))) → rv = none ∧ μ' = eM s) (hc0 : ∀ s : (Int32 × Int32 × jS), Kp (.inl s) → J yX11_solve cX11_solve 6 none 2 g rv μ' 4 [(0, .ref 1), (1, .int x1), (2, .int s.1), (3, .int s.2.1)] [] (eM s.2.2)) (o : ((Int32 × Int32 × jS) ⊕ (Unit × jS))) (h : f_X11_solve_J78 σ x1 x2 x3 = some o) (hK : Kp o) : J yX11_solve cX11_solve 6 none 2 g rv μ' 78 [(0, .ref 1), (1, .int x1), (2, .int x2), (3, .int x3)] [] (eM σ) := by
  unfold f_X11_solve_J78 at h
  replace h := bV_inv h
  obtain ⟨v44, ev44, h⟩ := h
  refine j_iinc (v := v44) [(3, .int v44), (0, .ref 1), (1, .int x1), (2, .int x2)] 3 dX11_solve_78 rfl (by rw [ev44]; rfl) (Nat.le_of_ble_eq_true rfl) rfl ?_
  refine j_goto 4 dX11_solve_81 (by decide) ?_
  replace h := Option.some.inj h
  subst h
  refine j_sub [(0, .ref 1), (1, .int x1), (2, .int x2), (3, .int v44)] [1, 2, 3, 0] rfl ?_
  exact hc0 _ hK
def f_X11_solve_B4 (σ : jS) (x1 : Int32) (x2 : Int32) (x3 : Int32) : Option ((Int32 × Int32 × jS) ⊕ (Unit × jS)) :=
  if (gI σ 1 39) ≤ x3 then (jw (f_X11_solve_J84 σ x1 x2))
  else (bG (jin x3 147968) (
  bG (jin x3 147968) (
  bV (sI σ 24 (ix x3) (gI σ 21 (ix x3))) fun σ39 =>
  bG (jin x3 147968) (
  bV (sI σ39 27 (ix x3) (-1)) fun σ40 =>
  bG (jin x3 147968) (
  bC (f_X11_one (gI σ40 19 (ix x3))) fun r41 =>
  bG (jin x3 147968) (
  bC (f_X11_two (gI σ40 19 (ix x3))) fun r42 =>
  bG (jin (((16 : Int32) * r41) + r42) 256) (
  if (gI σ40 28 (ix (((16 : Int32) * r41) + r42))) = 0 then (bG (jin x3 147968) (
  bV (sI σ40 27 (ix x3) 0) fun σ45 =>
  bG (jin x2 147968) (
  bV (sI σ45 25 (ix x2) x3) fun σ46 =>
  bV (x2 + 1) fun v47 =>
  f_X11_solve_J78 σ46 x1 v47 x3)))
  else (f_X11_solve_J78 σ40 x1 x2 x3))))))))
set_option maxHeartbeats 1000000 in
set_option maxRecDepth 20000 in
theorem f_X11_solve_B4_ok {g : Bool} {rv : Option Value} {μ' : jM} (σ : jS) (x1 : Int32) (x2 : Int32) (x3 : Int32) {Kp : ((Int32 × Int32 × jS) ⊕ (Unit × jS)) → Prop} (hn : Nat.ble nM μ'.1 = true ∧ Nat.ble wM μ'.2.1 = true) (hr : ∀ (r : Unit) (s : jS), Kp (.inr ((r, s))) → rv = none ∧ μ' = eM s) (hc0 : ∀ s : (Int32 × Int32 × jS), Kp (.inl s) → J yX11_solve cX11_solve 6 none 2 g rv μ' 4 [(0, .ref 1), (1, .int x1), (2, .int s.1), (3, .int s.2.1)] [] (eM s.2.2)) (o : ((Int32 × Int32 × jS) ⊕ (Unit × jS))) (h : f_X11_solve_B4 σ x1 x2 x3 = some o) (hK : Kp o) : J yX11_solve cX11_solve 6 none 2 g rv μ' 4 [(0, .ref 1), (1, .int x1), (2, .int x2), (3, .int x3)] [] (eM σ) := by
  unfold f_X11_solve_B4 at h
  refine j_iload_n 3 dX11_solve_4 rfl rfl ?_
  refine j_aload_n 0 dX11_solve_5 rfl rfl ?_
  refine j_get (ci := 10) 39 (.int (gI σ 1 39)) jC_10 dX11_solve_6 kg_RX11_345 rfl (okM_1 _) (shM_1 _) (fvM_1_39 _) ?_
  refine j_icmp_ge 84 dX11_solve_9 (by decide) (fun hc48 => ?_) (fun hc48 => ?_)
  · replace h := jif_t hc48 h
    replace h := jw_inv h
    obtain ⟨o49, rfl, h⟩ := h
    refine j_sub [(0, .ref 1), (1, .int x1), (2, .int x2)] [0, 1, 2] rfl ?_
    exact f_X11_solve_J84_ok (Kp := fun o => Kp (.inr (o))) σ x1 x2 hn (fun r s q => hr r s q) _ h hK
  · replace h := jif_f hc48 h
    refine j_aload_n 0 dX11_solve_12 rfl rfl ?_
    refine j_get (ci := 10) 45 (.ref 24) jC_10 dX11_solve_13 kg_RX11_85 rfl (okM_1 _) (shM_1 _) (fvM_1_45 _) ?_
    refine j_iload_n 3 dX11_solve_16 rfl rfl ?_
    refine j_aload_n 0 dX11_solve_17 rfl rfl ?_
    refine j_get (ci := 10) 41 (.ref 21) jC_10 dX11_solve_18 kg_RX11_75 rfl (okM_1 _) (shM_1 _) (fvM_1_41 _) ?_
    refine j_iload_n 3 dX11_solve_21 rfl rfl ?_
    replace h := bG_inv h
    obtain ⟨hi50, h⟩ := h
    refine j_iaload dX11_solve_22 (okM_21 _) (shM_21 _) (jin_spec hi50) ?_
    replace h := bG_inv h
    obtain ⟨hi51, h⟩ := h
    refine j_iastore dX11_solve_23 (okM_24 _) (shM_24 _) (jin_spec hi51) ?_
    replace h := bV_inv h
    obtain ⟨σ52, eσ52, h⟩ := h
    refine j_mem (congrArg eM eσ52) ?_
    refine j_aload_n 0 dX11_solve_24 rfl rfl ?_
    refine j_get (ci := 10) 48 (.ref 27) jC_10 dX11_solve_25 kg_RX11_95 rfl (okM_1 _) (shM_1 _) (fvM_1_48 _) ?_
    refine j_iload_n 3 dX11_solve_28 rfl rfl ?_
    refine j_iconst (v := (-1)) dX11_solve_29 (by decide) ?_
    replace h := bG_inv h
    obtain ⟨hi53, h⟩ := h
    refine j_iastore dX11_solve_30 (okM_27 _) (shM_27 _) (jin_spec hi53) ?_
    replace h := bV_inv h
    obtain ⟨σ54, eσ54, h⟩ := h
    refine j_mem (congrArg eM eσ54) ?_
    refine j_aload_n 0 dX11_solve_31 rfl rfl ?_
    refine j_get (ci := 10) 49 (.ref 28) jC_10 dX11_solve_32 kg_RX11_98 rfl (okM_1 _) (shM_1 _) (fvM_1_49 _) ?_
    refine j_bipush (v := 16) dX11_solve_35 (by decide) ?_
    refine j_aload_n 0 dX11_solve_37 rfl rfl ?_
    refine j_get (ci := 10) 38 (.ref 19) jC_10 dX11_solve_38 kg_RX11_69 rfl (okM_1 _) (shM_1 _) (fvM_1_38 _) ?_
    refine j_iload_n 3 dX11_solve_41 rfl rfl ?_
    replace h := bG_inv h
    obtain ⟨hi55, h⟩ := h
    refine j_iaload dX11_solve_42 (okM_19 _) (shM_19 _) (jin_spec hi55) ?_
    replace h := bC_inv h
    obtain ⟨r56, cr56, h⟩ := h
    refine j_callS (st1 := .int r56 :: _) (c_X11_one g _ cr56) jy_X11_one kt_yX11_one kl_RX11_271 dX11_solve_43 rfl rfl rfl rfl (jbr _) (jbr _) hn.1 hn.2 (Or.inr rfl) rfl ?_
    refine j_imul dX11_solve_46 ?_
    refine j_aload_n 0 dX11_solve_47 rfl rfl ?_
    refine j_get (ci := 10) 38 (.ref 19) jC_10 dX11_solve_48 kg_RX11_69 rfl (okM_1 _) (shM_1 _) (fvM_1_38 _) ?_
    refine j_iload_n 3 dX11_solve_51 rfl rfl ?_
    replace h := bG_inv h
    obtain ⟨hi57, h⟩ := h
    refine j_iaload dX11_solve_52 (okM_19 _) (shM_19 _) (jin_spec hi57) ?_
    replace h := bC_inv h
    obtain ⟨r58, cr58, h⟩ := h
    refine j_callS (st1 := .int r58 :: _) (c_X11_two g _ cr58) jy_X11_two kt_yX11_two kl_RX11_274 dX11_solve_53 rfl rfl rfl rfl (jbr _) (jbr _) hn.1 hn.2 (Or.inr rfl) rfl ?_
    refine j_iadd dX11_solve_56 ?_
    replace h := bG_inv h
    obtain ⟨hi59, h⟩ := h
    refine j_baload dX11_solve_57 (okM_28 _) (shM_28 _) (jin_spec hi59) ?_
    refine j_if_ne 78 dX11_solve_58 (by decide) (fun hc60 => ?_) (fun hc60 => ?_)
    · replace h := jif_f hc60 h
      exact f_X11_solve_J78_ok σ54 x1 x2 x3 hn hr hc0 _ h hK
    · replace h := jif_t hc60 h
      refine j_aload_n 0 dX11_solve_61 rfl rfl ?_
      refine j_get (ci := 10) 48 (.ref 27) jC_10 dX11_solve_62 kg_RX11_95 rfl (okM_1 _) (shM_1 _) (fvM_1_48 _) ?_
      refine j_iload_n 3 dX11_solve_65 rfl rfl ?_
      refine j_iconst (v := 0) dX11_solve_66 (by decide) ?_
      replace h := bG_inv h
      obtain ⟨hi61, h⟩ := h
      refine j_iastore dX11_solve_67 (okM_27 _) (shM_27 _) (jin_spec hi61) ?_
      replace h := bV_inv h
      obtain ⟨σ62, eσ62, h⟩ := h
      refine j_mem (congrArg eM eσ62) ?_
      refine j_aload_n 0 dX11_solve_68 rfl rfl ?_
      refine j_get (ci := 10) 46 (.ref 25) jC_10 dX11_solve_69 kg_RX11_88 rfl (okM_1 _) (shM_1 _) (fvM_1_46 _) ?_
      refine j_iload_n 2 dX11_solve_72 rfl rfl ?_
      refine j_iload_n 3 dX11_solve_73 rfl rfl ?_
      replace h := bG_inv h
      obtain ⟨hi63, h⟩ := h
      refine j_iastore dX11_solve_74 (okM_25 _) (shM_25 _) (jin_spec hi63) ?_
      replace h := bV_inv h
      obtain ⟨σ64, eσ64, h⟩ := h
      refine j_mem (congrArg eM eσ64) ?_
      replace h := bV_inv h
      obtain ⟨v65, ev65, h⟩ := h
      refine j_iinc (v := v65) [(2, .int v65), (0, .ref 1), (1, .int x1), (3, .int x3)] 2 dX11_solve_75 rfl (by rw [ev65]; rfl) (Nat.le_of_ble_eq_true rfl) rfl ?_
      refine j_sub [(0, .ref 1), (1, .int x1), (2, .int v65), (3, .int x3)] [1, 2, 0, 3] rfl ?_
      exact f_X11_solve_J78_ok σ64 x1 v65 x3 hn hr hc0 _ h hK
def f_X11_solve (σ : jS) (x1 : Int32) : Option (Unit × jS) :=
  jloop jFuel (fun s => f_X11_solve_B4 s.2.2 x1 s.1 s.2.1) (0, 0, σ)
set_option maxHeartbeats 1000000 in
set_option maxRecDepth 20000 in
theorem f_X11_solve_ok {g : Bool} {rv : Option Value} {μ' : jM} (σ : jS) (x1 : Int32) {Kp : (Unit × jS) → Prop} (hn : Nat.ble nM μ'.1 = true ∧ Nat.ble wM μ'.2.1 = true) (hr : ∀ (r : Unit) (s : jS), Kp ((r, s)) → rv = none ∧ μ' = eM s) (o : (Unit × jS)) (h : f_X11_solve σ x1 = some o) (hK : Kp o) : J yX11_solve cX11_solve 6 none 2 g rv μ' 0 [(0, .ref 1), (1, .int x1)] [] (eM σ) := by
  unfold f_X11_solve at h
  refine j_iconst (v := 0) dX11_solve_0 (by decide) ?_
  refine j_istore_n [(2, .int 0), (0, .ref 1), (1, .int x1)] dX11_solve_1 rfl (Nat.le_of_ble_eq_true rfl) rfl ?_
  refine j_iconst (v := 0) dX11_solve_2 (by decide) ?_
  refine j_istore_n [(3, .int 0), (2, .int 0), (0, .ref 1), (1, .int x1)] dX11_solve_3 rfl (Nat.le_of_ble_eq_true rfl) rfl ?_
  refine j_sub [(0, .ref 1), (1, .int x1), (2, .int 0), (3, .int 0)] [2, 3, 1, 0] rfl ?_
  exact jloop_ok (fun s => f_X11_solve_B4 s.2.2 x1 s.1 s.2.1) (fun s => J yX11_solve cX11_solve 6 none 2 g rv μ' 4 [(0, .ref 1), (1, .int x1), (2, .int s.1), (3, .int s.2.1)] [] (eM s.2.2)) Kp (fun s o hb hk => f_X11_solve_B4_ok (Kp := jsum (fun s => J yX11_solve cX11_solve 6 none 2 g rv μ' 4 [(0, .ref 1), (1, .int x1), (2, .int s.1), (3, .int s.2.1)] [] (eM s.2.2)) Kp) s.2.2 x1 s.1 s.2.1 hn (fun r s q => hr r s q) (fun s q => q) o hb hk) jFuel _ _ h hK
theorem c_X11_solve (g : Bool) {σ : jS} {x1 : Int32} {r : Unit} {σ2 : jS} (h : f_X11_solve σ x1 = some (r, σ2)) : Cn yX11_solve cX11_solve 6 none 2 g [.ref 1, .int x1] (eM σ) none (eM σ2) :=
  Cn_of (by decide) (Nat.le_refl _) (Nat.le_refl _) (Nat.le_of_ble_eq_true rfl) (f_X11_solve_ok (Kp := (fun o => o = (r, σ2))) σ x1 ⟨jbr _, jbr _⟩ (fun r2 s2 q => by cases q; exact ⟨rfl, rfl⟩) _ h rfl)
def f_X11_takeGrudges_J114 (σ : jS) : Option (Unit × jS) :=
  some (((), σ))
set_option maxHeartbeats 1000000 in
set_option maxRecDepth 20000 in
theorem f_X11_takeGrudges_J114_ok {g : Bool} {rv : Option Value} {μ' : jM} (σ : jS) {Kp : (Unit × jS) → Prop} (hn : Nat.ble nM μ'.1 = true ∧ Nat.ble wM μ'.2.1 = true) (hr : ∀ (r : Unit) (s : jS), Kp ((r, s)) → rv = none ∧ μ' = eM s) (o : (Unit × jS)) (h : f_X11_takeGrudges_J114 σ = some o) (hK : Kp o) : J yX11_takeGrudges cX11_takeGrudges 4 none 2 g rv μ' 114 [] [] (eM σ) := by
  unfold f_X11_takeGrudges_J114 at h
  replace h := Option.some.inj h
  subst h
  obtain ⟨hr1, hr2⟩ := hr _ _ hK
  exact j_vret dX11_takeGrudges_114 hr1 hr2
def f_X11_takeGrudges_J51 (σ : jS) (x1 : Int32) (x2 : Int32) (y0 : Int32) : Option ((Int32 × jS) ⊕ (Unit × jS)) :=
  bG (jin x2 120) (
  bG (jin x2 120) (
  bG (jb y0) (
  bG (jin (((16 : Int32) * ((gI σ 6 (ix x2)) / (100 : Int32))) + ((gI σ 6 (ix x2)) - (gI σ 6 (ix x2)) / (100 : Int32) * (100 : Int32))) 256) (
  bV (sI σ 28 (ix (((16 : Int32) * ((gI σ 6 (ix x2)) / (100 : Int32))) + ((gI σ 6 (ix x2)) - (gI σ 6 (ix x2)) / (100 : Int32) * (100 : Int32)))) y0) fun σ1 =>
  bG (jin x2 120) (
  bG (jin x2 120) (
  bG (jb y0) (
  bG (jin (((16 : Int32) * ((gI σ1 6 (ix x2)) - (gI σ1 6 (ix x2)) / (100 : Int32) * (100 : Int32))) + ((gI σ1 6 (ix x2)) / (100 : Int32))) 256) (
  bV (sI σ1 28 (ix (((16 : Int32) * ((gI σ1 6 (ix x2)) - (gI σ1 6 (ix x2)) / (100 : Int32) * (100 : Int32))) + ((gI σ1 6 (ix x2)) / (100 : Int32)))) y0) fun σ2 =>
  bV (x2 + 1) fun v3 =>
  some (.inl (v3, σ2))))))))))
set_option maxHeartbeats 1000000 in
set_option maxRecDepth 20000 in
theorem f_X11_takeGrudges_J51_ok {g : Bool} {rv : Option Value} {μ' : jM} (σ : jS) (x1 : Int32) (x2 : Int32) (y0 : Int32) {Kp : ((Int32 × jS) ⊕ (Unit × jS)) → Prop} (hn : Nat.ble nM μ'.1 = true ∧ Nat.ble wM μ'.2.1 = true) (hr : ∀ (r : Unit) (s : jS), Kp (.inr ((r, s))) → rv = none ∧ μ' = eM s) (hc0 : ∀ s : (Int32 × jS), Kp (.inl s) → J yX11_takeGrudges cX11_takeGrudges 4 none 2 g rv μ' 24 [(0, .ref 1), (1, .int x1), (2, .int s.1)] [] (eM s.2)) (o : ((Int32 × jS) ⊕ (Unit × jS))) (h : f_X11_takeGrudges_J51 σ x1 x2 y0 = some o) (hK : Kp o) : J yX11_takeGrudges cX11_takeGrudges 4 none 2 g rv μ' 51 [(0, .ref 1), (1, .int x1), (2, .int x2)] [.int y0] (eM σ) := by
  unfold f_X11_takeGrudges_J51 at h
  refine j_istore_n [(3, .int y0), (0, .ref 1), (1, .int x1), (2, .int x2)] dX11_takeGrudges_51 rfl (Nat.le_of_ble_eq_true rfl) rfl ?_
  refine j_aload_n 1 dX11_takeGrudges_52 rfl rfl ?_
  refine j_get (ci := 10) 49 (.ref 28) jC_10 dX11_takeGrudges_53 kg_RX11_98 rfl (okM_1 _) (shM_1 _) (fvM_1_49 _) ?_
  refine j_bipush (v := 16) dX11_takeGrudges_56 (by decide) ?_
  refine j_aload_n 1 dX11_takeGrudges_58 rfl rfl ?_
  refine j_get (ci := 10) 7 (.ref 6) jC_10 dX11_takeGrudges_59 kg_RX11_22 rfl (okM_1 _) (shM_1 _) (fvM_1_7 _) ?_
  refine j_iload_n 3 dX11_takeGrudges_62 rfl rfl ?_
  replace h := bG_inv h
  obtain ⟨hi4, h⟩ := h
  refine j_iaload dX11_takeGrudges_63 (okM_6 _) (shM_6 _) (jin_spec hi4) ?_
  refine j_bipush (v := 100) dX11_takeGrudges_64 (by decide) ?_
  refine j_idiv dX11_takeGrudges_66 (by decide) ?_
  refine j_imul dX11_takeGrudges_67 ?_
  refine j_aload_n 1 dX11_takeGrudges_68 rfl rfl ?_
  refine j_get (ci := 10) 7 (.ref 6) jC_10 dX11_takeGrudges_69 kg_RX11_22 rfl (okM_1 _) (shM_1 _) (fvM_1_7 _) ?_
  refine j_iload_n 3 dX11_takeGrudges_72 rfl rfl ?_
  replace h := bG_inv h
  obtain ⟨hi5, h⟩ := h
  refine j_iaload dX11_takeGrudges_73 (okM_6 _) (shM_6 _) (jin_spec hi5) ?_
  refine j_bipush (v := 100) dX11_takeGrudges_74 (by decide) ?_
  refine j_irem dX11_takeGrudges_76 (by decide) ?_
  refine j_iadd dX11_takeGrudges_77 ?_
  refine j_iload_n 0 dX11_takeGrudges_78 rfl rfl ?_
  replace h := bG_inv h
  obtain ⟨hb6, h⟩ := h
  replace h := bG_inv h
  obtain ⟨hi7, h⟩ := h
  refine j_bastore dX11_takeGrudges_79 (okM_28 _) (shM_28 _) (jin_spec hi7) ?_
  rw [jb_vp hb6]
  replace h := bV_inv h
  obtain ⟨σ8, eσ8, h⟩ := h
  refine j_mem (congrArg eM eσ8) ?_
  refine j_aload_n 1 dX11_takeGrudges_80 rfl rfl ?_
  refine j_get (ci := 10) 49 (.ref 28) jC_10 dX11_takeGrudges_81 kg_RX11_98 rfl (okM_1 _) (shM_1 _) (fvM_1_49 _) ?_
  refine j_bipush (v := 16) dX11_takeGrudges_84 (by decide) ?_
  refine j_aload_n 1 dX11_takeGrudges_86 rfl rfl ?_
  refine j_get (ci := 10) 7 (.ref 6) jC_10 dX11_takeGrudges_87 kg_RX11_22 rfl (okM_1 _) (shM_1 _) (fvM_1_7 _) ?_
  refine j_iload_n 3 dX11_takeGrudges_90 rfl rfl ?_
  replace h := bG_inv h
  obtain ⟨hi9, h⟩ := h
  refine j_iaload dX11_takeGrudges_91 (okM_6 _) (shM_6 _) (jin_spec hi9) ?_
  refine j_bipush (v := 100) dX11_takeGrudges_92 (by decide) ?_
  refine j_irem dX11_takeGrudges_94 (by decide) ?_
  refine j_imul dX11_takeGrudges_95 ?_
  refine j_aload_n 1 dX11_takeGrudges_96 rfl rfl ?_
  refine j_get (ci := 10) 7 (.ref 6) jC_10 dX11_takeGrudges_97 kg_RX11_22 rfl (okM_1 _) (shM_1 _) (fvM_1_7 _) ?_
  refine j_iload_n 3 dX11_takeGrudges_100 rfl rfl ?_
  replace h := bG_inv h
  obtain ⟨hi10, h⟩ := h
  refine j_iaload dX11_takeGrudges_101 (okM_6 _) (shM_6 _) (jin_spec hi10) ?_
  refine j_bipush (v := 100) dX11_takeGrudges_102 (by decide) ?_
  refine j_idiv dX11_takeGrudges_104 (by decide) ?_
  refine j_iadd dX11_takeGrudges_105 ?_
  refine j_iload_n 0 dX11_takeGrudges_106 rfl rfl ?_
  replace h := bG_inv h
  obtain ⟨hb11, h⟩ := h
  replace h := bG_inv h
  obtain ⟨hi12, h⟩ := h
  refine j_bastore dX11_takeGrudges_107 (okM_28 _) (shM_28 _) (jin_spec hi12) ?_
  rw [jb_vp hb11]
  replace h := bV_inv h
  obtain ⟨σ13, eσ13, h⟩ := h
  refine j_mem (congrArg eM eσ13) ?_
  replace h := bV_inv h
  obtain ⟨v14, ev14, h⟩ := h
  refine j_iinc (v := v14) [(2, .int v14), (3, .int y0), (0, .ref 1), (1, .int x1)] 3 dX11_takeGrudges_108 rfl (by rw [ev14]; rfl) (Nat.le_of_ble_eq_true rfl) rfl ?_
  refine j_goto 24 dX11_takeGrudges_111 (by decide) ?_
  replace h := Option.some.inj h
  subst h
  refine j_sub [(0, .ref 1), (1, .int x1), (2, .int v14)] [2, 3, 0] rfl ?_
  exact hc0 _ hK
def f_X11_takeGrudges_J46 (σ : jS) (x1 : Int32) (x2 : Int32) : Option ((Int32 × jS) ⊕ (Unit × jS)) :=
  f_X11_takeGrudges_J51 σ x1 x2 1
set_option maxHeartbeats 1000000 in
set_option maxRecDepth 20000 in
theorem f_X11_takeGrudges_J46_ok {g : Bool} {rv : Option Value} {μ' : jM} (σ : jS) (x1 : Int32) (x2 : Int32) {Kp : ((Int32 × jS) ⊕ (Unit × jS)) → Prop} (hn : Nat.ble nM μ'.1 = true ∧ Nat.ble wM μ'.2.1 = true) (hr : ∀ (r : Unit) (s : jS), Kp (.inr ((r, s))) → rv = none ∧ μ' = eM s) (hc0 : ∀ s : (Int32 × jS), Kp (.inl s) → J yX11_takeGrudges cX11_takeGrudges 4 none 2 g rv μ' 24 [(0, .ref 1), (1, .int x1), (2, .int s.1)] [] (eM s.2)) (o : ((Int32 × jS) ⊕ (Unit × jS))) (h : f_X11_takeGrudges_J46 σ x1 x2 = some o) (hK : Kp o) : J yX11_takeGrudges cX11_takeGrudges 4 none 2 g rv μ' 46 [(0, .ref 1), (1, .int x1), (2, .int x2)] [] (eM σ) := by
  unfold f_X11_takeGrudges_J46 at h
  refine j_iconst (v := 1) dX11_takeGrudges_46 (by decide) ?_
  refine j_goto 51 dX11_takeGrudges_47 (by decide) ?_
  exact f_X11_takeGrudges_J51_ok σ x1 x2 1 hn hr hc0 _ h hK
def f_X11_takeGrudges_B24 (σ : jS) (x1 : Int32) (x2 : Int32) : Option ((Int32 × jS) ⊕ (Unit × jS)) :=
  if (gI σ 1 6) ≤ x2 then (jw (f_X11_takeGrudges_J114 σ))
  else (if 30 < x2 then (f_X11_takeGrudges_J46 σ x1 x2)
  else (bC (f_X11_has x1 x2) fun r15 =>
  if r15 = 0 then (f_X11_takeGrudges_J46 σ x1 x2)
  else (f_X11_takeGrudges_J51 σ x1 x2 0)))
set_option maxHeartbeats 1000000 in
set_option maxRecDepth 20000 in
theorem f_X11_takeGrudges_B24_ok {g : Bool} {rv : Option Value} {μ' : jM} (σ : jS) (x1 : Int32) (x2 : Int32) {Kp : ((Int32 × jS) ⊕ (Unit × jS)) → Prop} (hn : Nat.ble nM μ'.1 = true ∧ Nat.ble wM μ'.2.1 = true) (hr : ∀ (r : Unit) (s : jS), Kp (.inr ((r, s))) → rv = none ∧ μ' = eM s) (hc0 : ∀ s : (Int32 × jS), Kp (.inl s) → J yX11_takeGrudges cX11_takeGrudges 4 none 2 g rv μ' 24 [(0, .ref 1), (1, .int x1), (2, .int s.1)] [] (eM s.2)) (o : ((Int32 × jS) ⊕ (Unit × jS))) (h : f_X11_takeGrudges_B24 σ x1 x2 = some o) (hK : Kp o) : J yX11_takeGrudges cX11_takeGrudges 4 none 2 g rv μ' 24 [(0, .ref 1), (1, .int x1), (2, .int x2)] [] (eM σ) := by
  unfold f_X11_takeGrudges_B24 at h
  refine j_iload_n 2 dX11_takeGrudges_24 rfl rfl ?_
  refine j_aload_n 0 dX11_takeGrudges_25 rfl rfl ?_
  refine j_get (ci := 10) 6 (.int (gI σ 1 6)) jC_10 dX11_takeGrudges_26 kg_RX11_243 rfl (okM_1 _) (shM_1 _) (fvM_1_6 _) ?_
  refine j_icmp_ge 114 dX11_takeGrudges_29 (by decide) (fun hc16 => ?_) (fun hc16 => ?_)
  · replace h := jif_t hc16 h
    replace h := jw_inv h
    obtain ⟨o17, rfl, h⟩ := h
    refine j_sub [] [] rfl ?_
    exact f_X11_takeGrudges_J114_ok (Kp := fun o => Kp (.inr (o))) σ hn (fun r s q => hr r s q) _ h hK
  · replace h := jif_f hc16 h
    refine j_iload_n 2 dX11_takeGrudges_32 rfl rfl ?_
    refine j_bipush (v := 30) dX11_takeGrudges_33 (by decide) ?_
    refine j_icmp_gt 46 dX11_takeGrudges_35 (by decide) (fun hc18 => ?_) (fun hc18 => ?_)
    · replace h := jif_t hc18 h
      exact f_X11_takeGrudges_J46_ok σ x1 x2 hn hr hc0 _ h hK
    · replace h := jif_f hc18 h
      refine j_iload_n 1 dX11_takeGrudges_38 rfl rfl ?_
      refine j_iload_n 2 dX11_takeGrudges_39 rfl rfl ?_
      replace h := bC_inv h
      obtain ⟨r19, cr19, h⟩ := h
      refine j_callS (st1 := .int r19 :: _) (c_X11_has g _ cr19) jy_X11_has kt_yX11_has kl_RX11_287 dX11_takeGrudges_40 rfl rfl rfl rfl (jbr _) (jbr _) hn.1 hn.2 (Or.inr rfl) rfl ?_
      refine j_if_ne 50 dX11_takeGrudges_43 (by decide) (fun hc20 => ?_) (fun hc20 => ?_)
      · replace h := jif_f hc20 h
        refine j_iconst (v := 0) dX11_takeGrudges_50 (by decide) ?_
        exact f_X11_takeGrudges_J51_ok σ x1 x2 0 hn hr hc0 _ h hK
      · replace h := jif_t hc20 h
        exact f_X11_takeGrudges_J46_ok σ x1 x2 hn hr hc0 _ h hK
def f_X11_takeGrudges_J22 (σ : jS) (x1 : Int32) : Option (Unit × jS) :=
  jloop jFuel (fun s => f_X11_takeGrudges_B24 s.2 x1 s.1) (0, σ)
set_option maxHeartbeats 1000000 in
set_option maxRecDepth 20000 in
theorem f_X11_takeGrudges_J22_ok {g : Bool} {rv : Option Value} {μ' : jM} (σ : jS) (x1 : Int32) {Kp : (Unit × jS) → Prop} (hn : Nat.ble nM μ'.1 = true ∧ Nat.ble wM μ'.2.1 = true) (hr : ∀ (r : Unit) (s : jS), Kp ((r, s)) → rv = none ∧ μ' = eM s) (o : (Unit × jS)) (h : f_X11_takeGrudges_J22 σ x1 = some o) (hK : Kp o) : J yX11_takeGrudges cX11_takeGrudges 4 none 2 g rv μ' 22 [(0, .ref 1), (1, .int x1)] [] (eM σ) := by
  unfold f_X11_takeGrudges_J22 at h
  refine j_iconst (v := 0) dX11_takeGrudges_22 (by decide) ?_
  refine j_istore_n [(2, .int 0), (0, .ref 1), (1, .int x1)] dX11_takeGrudges_23 rfl (Nat.le_of_ble_eq_true rfl) rfl ?_
  refine j_sub [(0, .ref 1), (1, .int x1), (2, .int 0)] [1, 2, 0] rfl ?_
  exact jloop_ok (fun s => f_X11_takeGrudges_B24 s.2 x1 s.1) (fun s => J yX11_takeGrudges cX11_takeGrudges 4 none 2 g rv μ' 24 [(0, .ref 1), (1, .int x1), (2, .int s.1)] [] (eM s.2)) Kp (fun s o hb hk => f_X11_takeGrudges_B24_ok (Kp := jsum (fun s => J yX11_takeGrudges cX11_takeGrudges 4 none 2 g rv μ' 24 [(0, .ref 1), (1, .int x1), (2, .int s.1)] [] (eM s.2)) Kp) s.2 x1 s.1 hn (fun r s q => hr r s q) (fun s q => q) o hb hk) jFuel _ _ h hK
def f_X11_takeGrudges_B2 (σ : jS) (x1 : Int32) (x2 : Int32) : Option ((Int32 × jS) ⊕ (Unit × jS)) :=
  if 256 ≤ x2 then (jw (f_X11_takeGrudges_J22 σ x1))
  else (bG (jin x2 256) (
  bV (sI σ 28 (ix x2) 0) fun σ21 =>
  bV (x2 + 1) fun v22 =>
  some (.inl (v22, σ21))))
set_option maxHeartbeats 1000000 in
set_option maxRecDepth 20000 in
theorem f_X11_takeGrudges_B2_ok {g : Bool} {rv : Option Value} {μ' : jM} (σ : jS) (x1 : Int32) (x2 : Int32) {Kp : ((Int32 × jS) ⊕ (Unit × jS)) → Prop} (hn : Nat.ble nM μ'.1 = true ∧ Nat.ble wM μ'.2.1 = true) (hr : ∀ (r : Unit) (s : jS), Kp (.inr ((r, s))) → rv = none ∧ μ' = eM s) (hc0 : ∀ s : (Int32 × jS), Kp (.inl s) → J yX11_takeGrudges cX11_takeGrudges 4 none 2 g rv μ' 2 [(0, .ref 1), (1, .int x1), (2, .int s.1)] [] (eM s.2)) (o : ((Int32 × jS) ⊕ (Unit × jS))) (h : f_X11_takeGrudges_B2 σ x1 x2 = some o) (hK : Kp o) : J yX11_takeGrudges cX11_takeGrudges 4 none 2 g rv μ' 2 [(0, .ref 1), (1, .int x1), (2, .int x2)] [] (eM σ) := by
  unfold f_X11_takeGrudges_B2 at h
  refine j_iload_n 2 dX11_takeGrudges_2 rfl rfl ?_
  refine j_sipush (v := 256) dX11_takeGrudges_3 (by decide) ?_
  refine j_icmp_ge 22 dX11_takeGrudges_6 (by decide) (fun hc23 => ?_) (fun hc23 => ?_)
  · replace h := jif_t hc23 h
    replace h := jw_inv h
    obtain ⟨o24, rfl, h⟩ := h
    refine j_sub [(0, .ref 1), (1, .int x1)] [0, 1] rfl ?_
    exact f_X11_takeGrudges_J22_ok (Kp := fun o => Kp (.inr (o))) σ x1 hn (fun r s q => hr r s q) _ h hK
  · replace h := jif_f hc23 h
    refine j_aload_n 0 dX11_takeGrudges_9 rfl rfl ?_
    refine j_get (ci := 10) 49 (.ref 28) jC_10 dX11_takeGrudges_10 kg_RX11_98 rfl (okM_1 _) (shM_1 _) (fvM_1_49 _) ?_
    refine j_iload_n 2 dX11_takeGrudges_13 rfl rfl ?_
    refine j_iconst (v := 0) dX11_takeGrudges_14 (by decide) ?_
    replace h := bG_inv h
    obtain ⟨hi25, h⟩ := h
    refine j_bastore dX11_takeGrudges_15 (okM_28 _) (shM_28 _) (jin_spec hi25) ?_
    rw [jb_vp (x := 0) rfl]
    replace h := bV_inv h
    obtain ⟨σ26, eσ26, h⟩ := h
    refine j_mem (congrArg eM eσ26) ?_
    replace h := bV_inv h
    obtain ⟨v27, ev27, h⟩ := h
    refine j_iinc (v := v27) [(2, .int v27), (0, .ref 1), (1, .int x1)] 2 dX11_takeGrudges_16 rfl (by rw [ev27]; rfl) (Nat.le_of_ble_eq_true rfl) rfl ?_
    refine j_goto 2 dX11_takeGrudges_19 (by decide) ?_
    replace h := Option.some.inj h
    subst h
    refine j_sub [(0, .ref 1), (1, .int x1), (2, .int v27)] [1, 2, 0] rfl ?_
    exact hc0 _ hK
def f_X11_takeGrudges (σ : jS) (x1 : Int32) : Option (Unit × jS) :=
  jloop jFuel (fun s => f_X11_takeGrudges_B2 s.2 x1 s.1) (0, σ)
set_option maxHeartbeats 1000000 in
set_option maxRecDepth 20000 in
theorem f_X11_takeGrudges_ok {g : Bool} {rv : Option Value} {μ' : jM} (σ : jS) (x1 : Int32) {Kp : (Unit × jS) → Prop} (hn : Nat.ble nM μ'.1 = true ∧ Nat.ble wM μ'.2.1 = true) (hr : ∀ (r : Unit) (s : jS), Kp ((r, s)) → rv = none ∧ μ' = eM s) (o : (Unit × jS)) (h : f_X11_takeGrudges σ x1 = some o) (hK : Kp o) : J yX11_takeGrudges cX11_takeGrudges 4 none 2 g rv μ' 0 [(0, .ref 1), (1, .int x1)] [] (eM σ) := by
  unfold f_X11_takeGrudges at h
  refine j_iconst (v := 0) dX11_takeGrudges_0 (by decide) ?_
  refine j_istore_n [(2, .int 0), (0, .ref 1), (1, .int x1)] dX11_takeGrudges_1 rfl (Nat.le_of_ble_eq_true rfl) rfl ?_
  refine j_sub [(0, .ref 1), (1, .int x1), (2, .int 0)] [1, 2, 0] rfl ?_
  exact jloop_ok (fun s => f_X11_takeGrudges_B2 s.2 x1 s.1) (fun s => J yX11_takeGrudges cX11_takeGrudges 4 none 2 g rv μ' 2 [(0, .ref 1), (1, .int x1), (2, .int s.1)] [] (eM s.2)) Kp (fun s o hb hk => f_X11_takeGrudges_B2_ok (Kp := jsum (fun s => J yX11_takeGrudges cX11_takeGrudges 4 none 2 g rv μ' 2 [(0, .ref 1), (1, .int x1), (2, .int s.1)] [] (eM s.2)) Kp) s.2 x1 s.1 hn (fun r s q => hr r s q) (fun s q => q) o hb hk) jFuel _ _ h hK
theorem c_X11_takeGrudges (g : Bool) {σ : jS} {x1 : Int32} {r : Unit} {σ2 : jS} (h : f_X11_takeGrudges σ x1 = some (r, σ2)) : Cn yX11_takeGrudges cX11_takeGrudges 4 none 2 g [.ref 1, .int x1] (eM σ) none (eM σ2) :=
  Cn_of (by decide) (Nat.le_refl _) (Nat.le_refl _) (Nat.le_of_ble_eq_true rfl) (f_X11_takeGrudges_ok (Kp := (fun o => o = (r, σ2))) σ x1 ⟨jbr _, jbr _⟩ (fun r2 s2 q => by cases q; exact ⟨rfl, rfl⟩) _ h rfl)
def f_X11_forcesNow (σ : jS) (x1 : Int32) (x2 : Int32) : Option (Int32 × jS) :=
  bG (jin x1 4) (
  bD (f_X11_spread σ (gI σ 9 (ix x1)) 1) fun r1 σ2 =>
  bD (f_X11_takeGrudges σ2 0) fun r3 σ4 =>
  bD (f_X11_solve σ4 x2) fun r5 σ6 =>
  bG (jin 0 147968) (
  some ((gI σ6 27 (ix 0), σ6))))
set_option maxHeartbeats 1000000 in
set_option maxRecDepth 20000 in
theorem f_X11_forcesNow_ok {g : Bool} {rv : Option Value} {μ' : jM} (σ : jS) (x1 : Int32) (x2 : Int32) {Kp : (Int32 × jS) → Prop} (hn : Nat.ble nM μ'.1 = true ∧ Nat.ble wM μ'.2.1 = true) (hr : ∀ (r : Int32) (s : jS), Kp ((r, s)) → rv = some (.int r) ∧ μ' = eM s) (o : (Int32 × jS)) (h : f_X11_forcesNow σ x1 x2 = some o) (hK : Kp o) : J yX11_forcesNow cX11_forcesNow 3 (some .int) 5 g rv μ' 0 [(0, .ref 1), (1, .int x1), (2, .int x2)] [] (eM σ) := by
  unfold f_X11_forcesNow at h
  refine j_aload_n 0 dX11_forcesNow_0 rfl rfl ?_
  refine j_aload_n 0 dX11_forcesNow_1 rfl rfl ?_
  refine j_get (ci := 10) 11 (.ref 9) jC_10 dX11_forcesNow_2 kg_RX11_31 rfl (okM_1 _) (shM_1 _) (fvM_1_11 _) ?_
  refine j_iload_n 1 dX11_forcesNow_5 rfl rfl ?_
  replace h := bG_inv h
  obtain ⟨hi7, h⟩ := h
  refine j_iaload dX11_forcesNow_6 (okM_9 _) (shM_9 _) (jin_spec hi7) ?_
  refine j_iconst (v := 1) dX11_forcesNow_7 (by decide) ?_
  replace h := bD_inv h
  obtain ⟨r8, σ9, cr8, h⟩ := h
  refine j_callV (ci := 10) (st1 := _) (c_X11_spread g cr8) jy_X11_spread ki_yX11_spread ks_yX11_spread kl_RX11_357 dX11_forcesNow_8 rfl (okM_1 _) (shM_1 _) rfl rfl rfl rfl (jbr _) (jbr _) hn.1 hn.2 (Or.inr rfl) rfl ?_
  refine j_aload_n 0 dX11_forcesNow_11 rfl rfl ?_
  refine j_iconst (v := 0) dX11_forcesNow_12 (by decide) ?_
  replace h := bD_inv h
  obtain ⟨r10, σ11, cr10, h⟩ := h
  refine j_callV (ci := 10) (st1 := _) (c_X11_takeGrudges g cr10) jy_X11_takeGrudges ki_yX11_takeGrudges ks_yX11_takeGrudges kl_RX11_368 dX11_forcesNow_13 rfl (okM_1 _) (shM_1 _) rfl rfl rfl rfl (jbr _) (jbr _) hn.1 hn.2 (Or.inr rfl) rfl ?_
  refine j_aload_n 0 dX11_forcesNow_16 rfl rfl ?_
  refine j_iload_n 2 dX11_forcesNow_17 rfl rfl ?_
  replace h := bD_inv h
  obtain ⟨r12, σ13, cr12, h⟩ := h
  refine j_callV (ci := 10) (st1 := _) (c_X11_solve g cr12) jy_X11_solve ki_yX11_solve ks_yX11_solve kl_RX11_372 dX11_forcesNow_18 rfl (okM_1 _) (shM_1 _) rfl rfl rfl rfl (jbr _) (jbr _) hn.1 hn.2 (Or.inr rfl) rfl ?_
  refine j_aload_n 0 dX11_forcesNow_21 rfl rfl ?_
  refine j_get (ci := 10) 48 (.ref 27) jC_10 dX11_forcesNow_22 kg_RX11_95 rfl (okM_1 _) (shM_1 _) (fvM_1_48 _) ?_
  refine j_iconst (v := 0) dX11_forcesNow_25 (by decide) ?_
  replace h := bG_inv h
  obtain ⟨hi14, h⟩ := h
  refine j_iaload dX11_forcesNow_26 (okM_27 _) (shM_27 _) (jin_spec hi14) ?_
  replace h := Option.some.inj h
  subst h
  obtain ⟨hr1, hr2⟩ := hr _ _ hK
  exact j_iret dX11_forcesNow_27 hr1 hr2
theorem c_X11_forcesNow (g : Bool) {σ : jS} {x1 : Int32} {x2 : Int32} {r : Int32} {σ2 : jS} (h : f_X11_forcesNow σ x1 x2 = some (r, σ2)) : Cn yX11_forcesNow cX11_forcesNow 3 (some .int) 5 g [.ref 1, .int x1, .int x2] (eM σ) (some (.int r)) (eM σ2) :=
  Cn_of (by decide) (Nat.le_refl _) (Nat.le_refl _) (Nat.le_of_ble_eq_true rfl) (f_X11_forcesNow_ok (Kp := (fun o => o = (r, σ2))) σ x1 x2 ⟨jbr _, jbr _⟩ (fun r2 s2 q => by cases q; exact ⟨rfl, rfl⟩) _ h rfl)
def f_X11_isSide (x0 : Int32) : Option Int32 :=
  bC (f_X11_in (x0.toInt64) 0 1) fun r1 =>
  bG (jb r1) (
  some (r1))
set_option maxHeartbeats 1000000 in
set_option maxRecDepth 20000 in
theorem f_X11_isSide_ok {g : Bool} {rv : Option Value} {μ' : jM} (x0 : Int32) (μ : jM) {Kp : Int32 → Prop} (hn : Nat.ble μ.1 μ'.1 = true ∧ Nat.ble μ.2.1 μ'.2.1 = true) (hr : ∀ r : Int32, Kp (r) → rv = some (.int r) ∧ μ' = μ) (o : Int32) (h : f_X11_isSide x0 = some o) (hK : Kp o) : J yX11_isSide cX11_isSide 1 (some .boolean) 2 g rv μ' 0 [(0, .int x0)] [] μ := by
  unfold f_X11_isSide at h
  refine j_iload_n 0 dX11_isSide_0 rfl rfl ?_
  refine j_i2l dX11_isSide_1 ?_
  refine j_lconst (v := 0) dX11_isSide_2 (by decide) ?_
  refine j_lconst (v := 1) dX11_isSide_3 (by decide) ?_
  replace h := bC_inv h
  obtain ⟨r2, cr2, h⟩ := h
  refine j_callS (st1 := .int r2 :: _) (c_X11_in g _ cr2) jy_X11_in kt_yX11_in kl_RX11_144 dX11_isSide_4 rfl rfl rfl rfl (jbr _) (jbr _) hn.1 hn.2 (Or.inr rfl) rfl ?_
  replace h := bG_inv h
  obtain ⟨hb, h⟩ := h
  replace h := Option.some.inj h
  subst h
  obtain ⟨hr1, hr2⟩ := hr _ hK
  exact j_zret (jb_nar hb) dX11_isSide_7 hr1 hr2
theorem c_X11_isSide (g : Bool) (μ : jM) {x0 : Int32} {r : Int32} (h : f_X11_isSide x0 = some r) : Cn yX11_isSide cX11_isSide 1 (some .boolean) 2 g [.int x0] μ (some (.int r)) μ :=
  Cn_of (by decide) (Nat.le_refl _) (Nat.le_refl _) (Nat.le_of_ble_eq_true rfl) (f_X11_isSide_ok (Kp := (fun o => o = r)) x0 μ ⟨jbr _, jbr _⟩ (fun r2 q => by cases q; exact ⟨rfl, rfl⟩) _ h rfl)
def f_X11_forces_J31 (σ : jS) (y0 : Int32) : Option (Int32 × jS) :=
  some ((y0, σ))
set_option maxHeartbeats 1000000 in
set_option maxRecDepth 20000 in
theorem f_X11_forces_J31_ok {g : Bool} {rv : Option Value} {μ' : jM} (σ : jS) (y0 : Int32) {Kp : (Int32 × jS) → Prop} (hn : Nat.ble nM μ'.1 = true ∧ Nat.ble wM μ'.2.1 = true) (hr : ∀ (r : Int32) (s : jS), Kp ((r, s)) → rv = some (.int r) ∧ μ' = eM s) (o : (Int32 × jS)) (h : f_X11_forces_J31 σ y0 = some o) (hK : Kp o) : J yX11_forces cX11_forces 3 (some .int) 6 g rv μ' 31 [] [.int y0] (eM σ) := by
  unfold f_X11_forces_J31 at h
  replace h := Option.some.inj h
  subst h
  obtain ⟨hr1, hr2⟩ := hr _ _ hK
  exact j_iret dX11_forces_31 hr1 hr2
def f_X11_forces (σ : jS) (x1 : Int32) (x2 : Int32) : Option (Int32 × jS) :=
  bC (f_X11_isQuarrel σ x1) fun r1 =>
  if r1 = 0 then (some (((-1001), σ)))
  else (bC (f_X11_isSide x2) fun r2 =>
  if r2 = 0 then (f_X11_forces_J31 σ (-1002))
  else (bD (f_X11_forcesNow σ x1 x2) fun r3 σ4 =>
  f_X11_forces_J31 σ4 r3))
set_option maxHeartbeats 1000000 in
set_option maxRecDepth 20000 in
theorem f_X11_forces_ok {g : Bool} {rv : Option Value} {μ' : jM} (σ : jS) (x1 : Int32) (x2 : Int32) {Kp : (Int32 × jS) → Prop} (hn : Nat.ble nM μ'.1 = true ∧ Nat.ble wM μ'.2.1 = true) (hr : ∀ (r : Int32) (s : jS), Kp ((r, s)) → rv = some (.int r) ∧ μ' = eM s) (o : (Int32 × jS)) (h : f_X11_forces σ x1 x2 = some o) (hK : Kp o) : J yX11_forces cX11_forces 3 (some .int) 6 g rv μ' 0 [(0, .ref 1), (1, .int x1), (2, .int x2)] [] (eM σ) := by
  unfold f_X11_forces at h
  refine j_aload_n 0 dX11_forces_0 rfl rfl ?_
  refine j_iload_n 1 dX11_forces_1 rfl rfl ?_
  replace h := bC_inv h
  obtain ⟨r5, cr5, h⟩ := h
  refine j_callV (ci := 10) (st1 := .int r5 :: _) (c_X11_isQuarrel g cr5) jy_X11_isQuarrel ki_yX11_isQuarrel ks_yX11_isQuarrel kl_RX11_309 dX11_forces_2 rfl (okM_1 _) (shM_1 _) rfl rfl rfl rfl (jbr _) (jbr _) hn.1 hn.2 (Or.inr rfl) rfl ?_
  refine j_if_ne 12 dX11_forces_5 (by decide) (fun hc6 => ?_) (fun hc6 => ?_)
  · replace h := jif_f hc6 h
    refine j_iload_n 2 dX11_forces_12 rfl rfl ?_
    replace h := bC_inv h
    obtain ⟨r7, cr7, h⟩ := h
    refine j_callS (st1 := .int r7 :: _) (c_X11_isSide g _ cr7) jy_X11_isSide kt_yX11_isSide kl_RX11_375 dX11_forces_13 rfl rfl rfl rfl (jbr _) (jbr _) hn.1 hn.2 (Or.inr rfl) rfl ?_
    refine j_if_eq 28 dX11_forces_16 (by decide) (fun hc8 => ?_) (fun hc8 => ?_)
    · replace h := jif_t hc8 h
      refine j_sipush (v := (-1002)) dX11_forces_28 (by decide) ?_
      refine j_sub [] [] rfl ?_
      exact f_X11_forces_J31_ok σ (-1002) hn hr _ h hK
    · replace h := jif_f hc8 h
      refine j_aload_n 0 dX11_forces_19 rfl rfl ?_
      refine j_iload_n 1 dX11_forces_20 rfl rfl ?_
      refine j_iload_n 2 dX11_forces_21 rfl rfl ?_
      replace h := bD_inv h
      obtain ⟨r9, σ10, cr9, h⟩ := h
      refine j_callV (ci := 10) (st1 := .int r9 :: _) (c_X11_forcesNow g cr9) jy_X11_forcesNow ki_yX11_forcesNow ks_yX11_forcesNow kl_RX11_378 dX11_forces_22 rfl (okM_1 _) (shM_1 _) rfl rfl rfl rfl (jbr _) (jbr _) hn.1 hn.2 (Or.inr rfl) rfl ?_
      refine j_goto 31 dX11_forces_25 (by decide) ?_
      refine j_sub [] [] rfl ?_
      exact f_X11_forces_J31_ok σ10 r9 hn hr _ h hK
  · replace h := jif_t hc6 h
    refine j_sipush (v := (-1001)) dX11_forces_8 (by decide) ?_
    replace h := Option.some.inj h
    subst h
    obtain ⟨hr1, hr2⟩ := hr _ _ hK
    exact j_iret dX11_forces_11 hr1 hr2
theorem c_X11_forces (g : Bool) {σ : jS} {x1 : Int32} {x2 : Int32} {r : Int32} {σ2 : jS} (h : f_X11_forces σ x1 x2 = some (r, σ2)) : Cn yX11_forces cX11_forces 3 (some .int) 6 g [.ref 1, .int x1, .int x2] (eM σ) (some (.int r)) (eM σ2) :=
  Cn_of (by decide) (Nat.le_refl _) (Nat.le_refl _) (Nat.le_of_ble_eq_true rfl) (f_X11_forces_ok (Kp := (fun o => o = (r, σ2))) σ x1 x2 ⟨jbr _, jbr _⟩ (fun r2 s2 q => by cases q; exact ⟨rfl, rfl⟩) _ h rfl)
def f_X11_best_J198 (σ : jS) (x6 : Int32) : Option (Int32 × jS) :=
  some ((x6, σ))
set_option maxHeartbeats 1000000 in
set_option maxRecDepth 20000 in
theorem f_X11_best_J198_ok {g : Bool} {rv : Option Value} {μ' : jM} (σ : jS) (x6 : Int32) {Kp : (Int32 × jS) → Prop} (hn : Nat.ble nM μ'.1 = true ∧ Nat.ble wM μ'.2.1 = true) (hr : ∀ (r : Int32) (s : jS), Kp ((r, s)) → rv = some (.int r) ∧ μ' = eM s) (o : (Int32 × jS)) (h : f_X11_best_J198 σ x6 = some o) (hK : Kp o) : J yX11_best cX11_best 12 (some .int) 6 g rv μ' 198 [(6, .int x6)] [] (eM σ) := by
  unfold f_X11_best_J198 at h
  refine j_iload 0 dX11_best_198 rfl ?_
  replace h := Option.some.inj h
  subst h
  obtain ⟨hr1, hr2⟩ := hr _ _ hK
  exact j_iret dX11_best_200 hr1 hr2
def f_X11_best_J192 (σ : jS) (x1 : Int32) (x3 : Int32) (x5 : Int32) (x6 : Int32) (x7 : Int32) (x8 : Int32) : Option ((Int32 × Int32 × Int32 × jS) ⊕ (Int32 × jS)) :=
  bV (x8 + 1) fun v8 =>
  some (.inl (x6, x7, v8, σ))
set_option maxHeartbeats 1000000 in
set_option maxRecDepth 20000 in
theorem f_X11_best_J192_ok {g : Bool} {rv : Option Value} {μ' : jM} (σ : jS) (x1 : Int32) (x3 : Int32) (x5 : Int32) (x6 : Int32) (x7 : Int32) (x8 : Int32) {Kp : ((Int32 × Int32 × Int32 × jS) ⊕ (Int32 × jS)) → Prop} (hn : Nat.ble nM μ'.1 = true ∧ Nat.ble wM μ'.2.1 = true) (hr : ∀ (r : Int32) (s : jS), Kp (.inr ((r, s))) → rv = some (.int r) ∧ μ' = eM s) (hc0 : ∀ s : (Int32 × Int32 × Int32 × jS), Kp (.inl s) → J yX11_best cX11_best 12 (some .int) 6 g rv μ' 71 [(0, .ref 1), (1, .int x1), (3, .int x3), (5, .int x5), (6, .int s.1), (7, .int s.2.1), (8, .int s.2.2.1)] [] (eM s.2.2.2)) (o : ((Int32 × Int32 × Int32 × jS) ⊕ (Int32 × jS))) (h : f_X11_best_J192 σ x1 x3 x5 x6 x7 x8 = some o) (hK : Kp o) : J yX11_best cX11_best 12 (some .int) 6 g rv μ' 192 [(0, .ref 1), (1, .int x1), (3, .int x3), (5, .int x5), (6, .int x6), (7, .int x7), (8, .int x8)] [] (eM σ) := by
  unfold f_X11_best_J192 at h
  replace h := bV_inv h
  obtain ⟨v9, ev9, h⟩ := h
  refine j_iinc (v := v9) [(8, .int v9), (0, .ref 1), (1, .int x1), (3, .int x3), (5, .int x5), (6, .int x6), (7, .int x7)] 6 dX11_best_192 rfl (by rw [ev9]; rfl) (Nat.le_of_ble_eq_true rfl) rfl ?_
  refine j_goto 71 dX11_best_195 (by decide) ?_
  replace h := Option.some.inj h
  subst h
  refine j_sub [(0, .ref 1), (1, .int x1), (3, .int x3), (5, .int x5), (6, .int x6), (7, .int x7), (8, .int v9)] [1, 2, 3, 4, 5, 6, 0] rfl ?_
  exact hc0 _ hK
def f_X11_best_J190 (σ : jS) (x1 : Int32) (x3 : Int32) (x5 : Int32) (x6 : Int32) (x8 : Int32) (y0 : Int32) : Option ((Int32 × Int32 × Int32 × jS) ⊕ (Int32 × jS)) :=
  f_X11_best_J192 σ x1 x3 x5 x6 y0 x8
set_option maxHeartbeats 1000000 in
set_option maxRecDepth 20000 in
theorem f_X11_best_J190_ok {g : Bool} {rv : Option Value} {μ' : jM} (σ : jS) (x1 : Int32) (x3 : Int32) (x5 : Int32) (x6 : Int32) (x8 : Int32) (y0 : Int32) {Kp : ((Int32 × Int32 × Int32 × jS) ⊕ (Int32 × jS)) → Prop} (hn : Nat.ble nM μ'.1 = true ∧ Nat.ble wM μ'.2.1 = true) (hr : ∀ (r : Int32) (s : jS), Kp (.inr ((r, s))) → rv = some (.int r) ∧ μ' = eM s) (hc0 : ∀ s : (Int32 × Int32 × Int32 × jS), Kp (.inl s) → J yX11_best cX11_best 12 (some .int) 6 g rv μ' 71 [(0, .ref 1), (1, .int x1), (3, .int x3), (5, .int x5), (6, .int s.1), (7, .int s.2.1), (8, .int s.2.2.1)] [] (eM s.2.2.2)) (o : ((Int32 × Int32 × Int32 × jS) ⊕ (Int32 × jS))) (h : f_X11_best_J190 σ x1 x3 x5 x6 x8 y0 = some o) (hK : Kp o) : J yX11_best cX11_best 12 (some .int) 6 g rv μ' 190 [(0, .ref 1), (1, .int x1), (3, .int x3), (5, .int x5), (6, .int x6), (8, .int x8)] [.int y0] (eM σ) := by
  unfold f_X11_best_J190 at h
  refine j_istore [(7, .int y0), (0, .ref 1), (1, .int x1), (3, .int x3), (5, .int x5), (6, .int x6), (8, .int x8)] dX11_best_190 (Nat.le_of_ble_eq_true rfl) rfl ?_
  refine j_sub [(0, .ref 1), (1, .int x1), (3, .int x3), (5, .int x5), (6, .int x6), (7, .int y0), (8, .int x8)] [1, 2, 3, 4, 5, 0, 6] rfl ?_
  exact f_X11_best_J192_ok σ x1 x3 x5 x6 y0 x8 hn hr hc0 _ h hK
def f_X11_best_J176 (σ : jS) (x1 : Int32) (x3 : Int32) (x5 : Int32) (x7 : Int32) (x8 : Int32) (x10 : Int32) (x11 : Int32) (y0 : Int32) : Option ((Int32 × Int32 × Int32 × jS) ⊕ (Int32 × jS)) :=
  if x11 = 0 then (f_X11_best_J190 σ x1 x3 x5 y0 x8 x7)
  else (f_X11_best_J190 σ x1 x3 x5 y0 x8 x10)
set_option maxHeartbeats 1000000 in
set_option maxRecDepth 20000 in
theorem f_X11_best_J176_ok {g : Bool} {rv : Option Value} {μ' : jM} (σ : jS) (x1 : Int32) (x3 : Int32) (x5 : Int32) (x7 : Int32) (x8 : Int32) (x10 : Int32) (x11 : Int32) (y0 : Int32) {Kp : ((Int32 × Int32 × Int32 × jS) ⊕ (Int32 × jS)) → Prop} (hn : Nat.ble nM μ'.1 = true ∧ Nat.ble wM μ'.2.1 = true) (hr : ∀ (r : Int32) (s : jS), Kp (.inr ((r, s))) → rv = some (.int r) ∧ μ' = eM s) (hc0 : ∀ s : (Int32 × Int32 × Int32 × jS), Kp (.inl s) → J yX11_best cX11_best 12 (some .int) 6 g rv μ' 71 [(0, .ref 1), (1, .int x1), (3, .int x3), (5, .int x5), (6, .int s.1), (7, .int s.2.1), (8, .int s.2.2.1)] [] (eM s.2.2.2)) (o : ((Int32 × Int32 × Int32 × jS) ⊕ (Int32 × jS))) (h : f_X11_best_J176 σ x1 x3 x5 x7 x8 x10 x11 y0 = some o) (hK : Kp o) : J yX11_best cX11_best 12 (some .int) 6 g rv μ' 176 [(0, .ref 1), (1, .int x1), (3, .int x3), (5, .int x5), (7, .int x7), (8, .int x8), (10, .int x10), (11, .int x11)] [.int y0] (eM σ) := by
  unfold f_X11_best_J176 at h
  refine j_istore [(6, .int y0), (0, .ref 1), (1, .int x1), (3, .int x3), (5, .int x5), (7, .int x7), (8, .int x8), (10, .int x10), (11, .int x11)] dX11_best_176 (Nat.le_of_ble_eq_true rfl) rfl ?_
  refine j_iload 8 dX11_best_178 rfl ?_
  refine j_if_eq 188 dX11_best_180 (by decide) (fun hc12 => ?_) (fun hc12 => ?_)
  · replace h := jif_t hc12 h
    refine j_iload 5 dX11_best_188 rfl ?_
    refine j_sub [(0, .ref 1), (1, .int x1), (3, .int x3), (5, .int x5), (6, .int y0), (8, .int x8)] [1, 2, 3, 4, 0, 6] rfl ?_
    exact f_X11_best_J190_ok σ x1 x3 x5 y0 x8 x7 hn hr hc0 _ h hK
  · replace h := jif_f hc12 h
    refine j_iload 7 dX11_best_183 rfl ?_
    refine j_goto 190 dX11_best_185 (by decide) ?_
    refine j_sub [(0, .ref 1), (1, .int x1), (3, .int x3), (5, .int x5), (6, .int y0), (8, .int x8)] [1, 2, 3, 4, 0, 6] rfl ?_
    exact f_X11_best_J190_ok σ x1 x3 x5 y0 x8 x10 hn hr hc0 _ h hK
def f_X11_best_J162 (σ : jS) (x1 : Int32) (x3 : Int32) (x5 : Int32) (x6 : Int32) (x7 : Int32) (x8 : Int32) (x10 : Int32) (y0 : Int32) : Option ((Int32 × Int32 × Int32 × jS) ⊕ (Int32 × jS)) :=
  if y0 = 0 then (f_X11_best_J176 σ x1 x3 x5 x7 x8 x10 y0 x6)
  else (f_X11_best_J176 σ x1 x3 x5 x7 x8 x10 y0 x8)
set_option maxHeartbeats 1000000 in
set_option maxRecDepth 20000 in
theorem f_X11_best_J162_ok {g : Bool} {rv : Option Value} {μ' : jM} (σ : jS) (x1 : Int32) (x3 : Int32) (x5 : Int32) (x6 : Int32) (x7 : Int32) (x8 : Int32) (x10 : Int32) (y0 : Int32) {Kp : ((Int32 × Int32 × Int32 × jS) ⊕ (Int32 × jS)) → Prop} (hn : Nat.ble nM μ'.1 = true ∧ Nat.ble wM μ'.2.1 = true) (hr : ∀ (r : Int32) (s : jS), Kp (.inr ((r, s))) → rv = some (.int r) ∧ μ' = eM s) (hc0 : ∀ s : (Int32 × Int32 × Int32 × jS), Kp (.inl s) → J yX11_best cX11_best 12 (some .int) 6 g rv μ' 71 [(0, .ref 1), (1, .int x1), (3, .int x3), (5, .int x5), (6, .int s.1), (7, .int s.2.1), (8, .int s.2.2.1)] [] (eM s.2.2.2)) (o : ((Int32 × Int32 × Int32 × jS) ⊕ (Int32 × jS))) (h : f_X11_best_J162 σ x1 x3 x5 x6 x7 x8 x10 y0 = some o) (hK : Kp o) : J yX11_best cX11_best 12 (some .int) 6 g rv μ' 162 [(0, .ref 1), (1, .int x1), (3, .int x3), (5, .int x5), (6, .int x6), (7, .int x7), (8, .int x8), (10, .int x10)] [.int y0] (eM σ) := by
  unfold f_X11_best_J162 at h
  refine j_istore [(11, .int y0), (0, .ref 1), (1, .int x1), (3, .int x3), (5, .int x5), (6, .int x6), (7, .int x7), (8, .int x8), (10, .int x10)] dX11_best_162 (Nat.le_of_ble_eq_true rfl) rfl ?_
  refine j_iload 0 dX11_best_164 rfl ?_
  refine j_if_eq 174 dX11_best_166 (by decide) (fun hc13 => ?_) (fun hc13 => ?_)
  · replace h := jif_t hc13 h
    refine j_iload 5 dX11_best_174 rfl ?_
    refine j_sub [(0, .ref 1), (1, .int x1), (3, .int x3), (5, .int x5), (7, .int x7), (8, .int x8), (10, .int x10), (11, .int y0)] [1, 2, 3, 4, 6, 7, 8, 0] rfl ?_
    exact f_X11_best_J176_ok σ x1 x3 x5 x7 x8 x10 y0 x6 hn hr hc0 _ h hK
  · replace h := jif_f hc13 h
    refine j_iload 7 dX11_best_169 rfl ?_
    refine j_goto 176 dX11_best_171 (by decide) ?_
    refine j_sub [(0, .ref 1), (1, .int x1), (3, .int x3), (5, .int x5), (7, .int x7), (8, .int x8), (10, .int x10), (11, .int y0)] [1, 2, 3, 4, 6, 7, 8, 0] rfl ?_
    exact f_X11_best_J176_ok σ x1 x3 x5 x7 x8 x10 y0 x8 hn hr hc0 _ h hK
def f_X11_best_J157 (σ : jS) (x1 : Int32) (x3 : Int32) (x5 : Int32) (x6 : Int32) (x7 : Int32) (x8 : Int32) (x10 : Int32) : Option ((Int32 × Int32 × Int32 × jS) ⊕ (Int32 × jS)) :=
  f_X11_best_J162 σ x1 x3 x5 x6 x7 x8 x10 1
set_option maxHeartbeats 1000000 in
set_option maxRecDepth 20000 in
theorem f_X11_best_J157_ok {g : Bool} {rv : Option Value} {μ' : jM} (σ : jS) (x1 : Int32) (x3 : Int32) (x5 : Int32) (x6 : Int32) (x7 : Int32) (x8 : Int32) (x10 : Int32) {Kp : ((Int32 × Int32 × Int32 × jS) ⊕ (Int32 × jS)) → Prop} (hn : Nat.ble nM μ'.1 = true ∧ Nat.ble wM μ'.2.1 = true) (hr : ∀ (r : Int32) (s : jS), Kp (.inr ((r, s))) → rv = some (.int r) ∧ μ' = eM s) (hc0 : ∀ s : (Int32 × Int32 × Int32 × jS), Kp (.inl s) → J yX11_best cX11_best 12 (some .int) 6 g rv μ' 71 [(0, .ref 1), (1, .int x1), (3, .int x3), (5, .int x5), (6, .int s.1), (7, .int s.2.1), (8, .int s.2.2.1)] [] (eM s.2.2.2)) (o : ((Int32 × Int32 × Int32 × jS) ⊕ (Int32 × jS))) (h : f_X11_best_J157 σ x1 x3 x5 x6 x7 x8 x10 = some o) (hK : Kp o) : J yX11_best cX11_best 12 (some .int) 6 g rv μ' 157 [(0, .ref 1), (1, .int x1), (3, .int x3), (5, .int x5), (6, .int x6), (7, .int x7), (8, .int x8), (10, .int x10)] [] (eM σ) := by
  unfold f_X11_best_J157 at h
  refine j_iconst (v := 1) dX11_best_157 (by decide) ?_
  refine j_goto 162 dX11_best_158 (by decide) ?_
  exact f_X11_best_J162_ok σ x1 x3 x5 x6 x7 x8 x10 1 hn hr hc0 _ h hK
def f_X11_best_J161 (σ : jS) (x1 : Int32) (x3 : Int32) (x5 : Int32) (x6 : Int32) (x7 : Int32) (x8 : Int32) (x10 : Int32) : Option ((Int32 × Int32 × Int32 × jS) ⊕ (Int32 × jS)) :=
  f_X11_best_J162 σ x1 x3 x5 x6 x7 x8 x10 0
set_option maxHeartbeats 1000000 in
set_option maxRecDepth 20000 in
theorem f_X11_best_J161_ok {g : Bool} {rv : Option Value} {μ' : jM} (σ : jS) (x1 : Int32) (x3 : Int32) (x5 : Int32) (x6 : Int32) (x7 : Int32) (x8 : Int32) (x10 : Int32) {Kp : ((Int32 × Int32 × Int32 × jS) ⊕ (Int32 × jS)) → Prop} (hn : Nat.ble nM μ'.1 = true ∧ Nat.ble wM μ'.2.1 = true) (hr : ∀ (r : Int32) (s : jS), Kp (.inr ((r, s))) → rv = some (.int r) ∧ μ' = eM s) (hc0 : ∀ s : (Int32 × Int32 × Int32 × jS), Kp (.inl s) → J yX11_best cX11_best 12 (some .int) 6 g rv μ' 71 [(0, .ref 1), (1, .int x1), (3, .int x3), (5, .int x5), (6, .int s.1), (7, .int s.2.1), (8, .int s.2.2.1)] [] (eM s.2.2.2)) (o : ((Int32 × Int32 × Int32 × jS) ⊕ (Int32 × jS))) (h : f_X11_best_J161 σ x1 x3 x5 x6 x7 x8 x10 = some o) (hK : Kp o) : J yX11_best cX11_best 12 (some .int) 6 g rv μ' 161 [(0, .ref 1), (1, .int x1), (3, .int x3), (5, .int x5), (6, .int x6), (7, .int x7), (8, .int x8), (10, .int x10)] [] (eM σ) := by
  unfold f_X11_best_J161 at h
  refine j_iconst (v := 0) dX11_best_161 (by decide) ?_
  exact f_X11_best_J162_ok σ x1 x3 x5 x6 x7 x8 x10 0 hn hr hc0 _ h hK
def f_X11_best_J128 (σ : jS) (x1 : Int32) (x3 : Int32) (x5 : Int32) (x6 : Int32) (x7 : Int32) (x8 : Int32) (y0 : Int32) : Option ((Int32 × Int32 × Int32 × jS) ⊕ (Int32 × jS)) :=
  if x6 < 0 then (f_X11_best_J157 σ x1 x3 x5 x6 x7 x8 y0)
  else (if x5 = 0 then (if y0 ≤ x7 then (f_X11_best_J161 σ x1 x3 x5 x6 x7 x8 y0)
  else (f_X11_best_J157 σ x1 x3 x5 x6 x7 x8 y0))
  else (if x7 ≤ y0 then (f_X11_best_J161 σ x1 x3 x5 x6 x7 x8 y0)
  else (f_X11_best_J157 σ x1 x3 x5 x6 x7 x8 y0)))
set_option maxHeartbeats 1000000 in
set_option maxRecDepth 20000 in
theorem f_X11_best_J128_ok {g : Bool} {rv : Option Value} {μ' : jM} (σ : jS) (x1 : Int32) (x3 : Int32) (x5 : Int32) (x6 : Int32) (x7 : Int32) (x8 : Int32) (y0 : Int32) {Kp : ((Int32 × Int32 × Int32 × jS) ⊕ (Int32 × jS)) → Prop} (hn : Nat.ble nM μ'.1 = true ∧ Nat.ble wM μ'.2.1 = true) (hr : ∀ (r : Int32) (s : jS), Kp (.inr ((r, s))) → rv = some (.int r) ∧ μ' = eM s) (hc0 : ∀ s : (Int32 × Int32 × Int32 × jS), Kp (.inl s) → J yX11_best cX11_best 12 (some .int) 6 g rv μ' 71 [(0, .ref 1), (1, .int x1), (3, .int x3), (5, .int x5), (6, .int s.1), (7, .int s.2.1), (8, .int s.2.2.1)] [] (eM s.2.2.2)) (o : ((Int32 × Int32 × Int32 × jS) ⊕ (Int32 × jS))) (h : f_X11_best_J128 σ x1 x3 x5 x6 x7 x8 y0 = some o) (hK : Kp o) : J yX11_best cX11_best 12 (some .int) 6 g rv μ' 128 [(0, .ref 1), (1, .int x1), (3, .int x3), (5, .int x5), (6, .int x6), (7, .int x7), (8, .int x8)] [.int y0] (eM σ) := by
  unfold f_X11_best_J128 at h
  refine j_istore [(10, .int y0), (0, .ref 1), (1, .int x1), (3, .int x3), (5, .int x5), (6, .int x6), (7, .int x7), (8, .int x8)] dX11_best_128 (Nat.le_of_ble_eq_true rfl) rfl ?_
  refine j_iload 5 dX11_best_130 rfl ?_
  refine j_if_lt 157 dX11_best_132 (by decide) (fun hc14 => ?_) (fun hc14 => ?_)
  · replace h := jif_t hc14 h
    refine j_sub [(0, .ref 1), (1, .int x1), (3, .int x3), (5, .int x5), (6, .int x6), (7, .int x7), (8, .int x8), (10, .int y0)] [1, 2, 3, 4, 5, 6, 7, 0] rfl ?_
    exact f_X11_best_J157_ok σ x1 x3 x5 x6 x7 x8 y0 hn hr hc0 _ h hK
  · replace h := jif_f hc14 h
    refine j_iload 4 dX11_best_135 rfl ?_
    refine j_if_eq 150 dX11_best_137 (by decide) (fun hc15 => ?_) (fun hc15 => ?_)
    · replace h := jif_t hc15 h
      refine j_iload 0 dX11_best_150 rfl ?_
      refine j_iload 6 dX11_best_152 rfl ?_
      refine j_icmp_le 161 dX11_best_154 (by decide) (fun hc16 => ?_) (fun hc16 => ?_)
      · replace h := jif_t hc16 h
        refine j_sub [(0, .ref 1), (1, .int x1), (3, .int x3), (5, .int x5), (6, .int x6), (7, .int x7), (8, .int x8), (10, .int y0)] [1, 2, 3, 4, 5, 6, 7, 0] rfl ?_
        exact f_X11_best_J161_ok σ x1 x3 x5 x6 x7 x8 y0 hn hr hc0 _ h hK
      · replace h := jif_f hc16 h
        refine j_sub [(0, .ref 1), (1, .int x1), (3, .int x3), (5, .int x5), (6, .int x6), (7, .int x7), (8, .int x8), (10, .int y0)] [1, 2, 3, 4, 5, 6, 7, 0] rfl ?_
        exact f_X11_best_J157_ok σ x1 x3 x5 x6 x7 x8 y0 hn hr hc0 _ h hK
    · replace h := jif_f hc15 h
      refine j_iload 0 dX11_best_140 rfl ?_
      refine j_iload 6 dX11_best_142 rfl ?_
      refine j_icmp_ge 161 dX11_best_144 (by decide) (fun hc17 => ?_) (fun hc17 => ?_)
      · replace h := jif_t hc17 h
        refine j_sub [(0, .ref 1), (1, .int x1), (3, .int x3), (5, .int x5), (6, .int x6), (7, .int x7), (8, .int x8), (10, .int y0)] [1, 2, 3, 4, 5, 6, 7, 0] rfl ?_
        exact f_X11_best_J161_ok σ x1 x3 x5 x6 x7 x8 y0 hn hr hc0 _ h hK
      · replace h := jif_f hc17 h
        refine j_goto 157 dX11_best_147 (by decide) ?_
        refine j_sub [(0, .ref 1), (1, .int x1), (3, .int x3), (5, .int x5), (6, .int x6), (7, .int x7), (8, .int x8), (10, .int y0)] [1, 2, 3, 4, 5, 6, 7, 0] rfl ?_
        exact f_X11_best_J157_ok σ x1 x3 x5 x6 x7 x8 y0 hn hr hc0 _ h hK
def f_X11_best_B71 (σ : jS) (x1 : Int32) (x3 : Int32) (x5 : Int32) (x6 : Int32) (x7 : Int32) (x8 : Int32) : Option ((Int32 × Int32 × Int32 × jS) ⊕ (Int32 × jS)) :=
  if (gI σ 1 0) ≤ x8 then (jw (f_X11_best_J198 σ x6))
  else (bC (f_X11_has x3 x8) fun r7 =>
  if r7 = 0 then (f_X11_best_J192 σ x1 x3 x5 x6 x7 x8)
  else (bG (jin x1 4) (
  bC (f_X11_behind σ (gI σ 9 (ix x1)) x8) fun r10 =>
  bG (jin r10 147968) (
  bG (jin ((gI σ 18 (ix r10)) - (1 : Int32)) 147968) (
  bV (gI σ 27 (ix ((gI σ 18 (ix r10)) - (1 : Int32)))) fun v11 =>
  if 0 ≤ v11 then (f_X11_best_J128 σ x1 x3 x5 x6 x7 x8 v11)
  else (f_X11_best_J128 σ x1 x3 x5 x6 x7 x8 1000000))))))
set_option maxHeartbeats 1000000 in
set_option maxRecDepth 20000 in
theorem f_X11_best_B71_ok {g : Bool} {rv : Option Value} {μ' : jM} (σ : jS) (x1 : Int32) (x3 : Int32) (x5 : Int32) (x6 : Int32) (x7 : Int32) (x8 : Int32) {Kp : ((Int32 × Int32 × Int32 × jS) ⊕ (Int32 × jS)) → Prop} (hn : Nat.ble nM μ'.1 = true ∧ Nat.ble wM μ'.2.1 = true) (hr : ∀ (r : Int32) (s : jS), Kp (.inr ((r, s))) → rv = some (.int r) ∧ μ' = eM s) (hc0 : ∀ s : (Int32 × Int32 × Int32 × jS), Kp (.inl s) → J yX11_best cX11_best 12 (some .int) 6 g rv μ' 71 [(0, .ref 1), (1, .int x1), (3, .int x3), (5, .int x5), (6, .int s.1), (7, .int s.2.1), (8, .int s.2.2.1)] [] (eM s.2.2.2)) (o : ((Int32 × Int32 × Int32 × jS) ⊕ (Int32 × jS))) (h : f_X11_best_B71 σ x1 x3 x5 x6 x7 x8 = some o) (hK : Kp o) : J yX11_best cX11_best 12 (some .int) 6 g rv μ' 71 [(0, .ref 1), (1, .int x1), (3, .int x3), (5, .int x5), (6, .int x6), (7, .int x7), (8, .int x8)] [] (eM σ) := by
  unfold f_X11_best_B71 at h
  refine j_iload 6 dX11_best_71 rfl ?_
  refine j_aload_n 0 dX11_best_73 rfl rfl ?_
  refine j_get (ci := 10) 0 (.int (gI σ 1 0)) jC_10 dX11_best_74 kg_RX11_141 rfl (okM_1 _) (shM_1 _) (fvM_1_0 _) ?_
  refine j_icmp_ge 198 dX11_best_77 (by decide) (fun hc18 => ?_) (fun hc18 => ?_)
  · replace h := jif_t hc18 h
    replace h := jw_inv h
    obtain ⟨o19, rfl, h⟩ := h
    refine j_sub [(6, .int x6)] [4] rfl ?_
    exact f_X11_best_J198_ok (Kp := fun o => Kp (.inr (o))) σ x6 hn (fun r s q => hr r s q) _ h hK
  · replace h := jif_f hc18 h
    refine j_iload_n 2 dX11_best_80 rfl rfl ?_
    refine j_iload 6 dX11_best_81 rfl ?_
    replace h := bC_inv h
    obtain ⟨r20, cr20, h⟩ := h
    refine j_callS (st1 := .int r20 :: _) (c_X11_has g _ cr20) jy_X11_has kt_yX11_has kl_RX11_287 dX11_best_83 rfl rfl rfl rfl (jbr _) (jbr _) hn.1 hn.2 (Or.inr rfl) rfl ?_
    refine j_if_eq 192 dX11_best_86 (by decide) (fun hc21 => ?_) (fun hc21 => ?_)
    · replace h := jif_t hc21 h
      exact f_X11_best_J192_ok σ x1 x3 x5 x6 x7 x8 hn hr hc0 _ h hK
    · replace h := jif_f hc21 h
      refine j_aload_n 0 dX11_best_89 rfl rfl ?_
      refine j_get (ci := 10) 48 (.ref 27) jC_10 dX11_best_90 kg_RX11_95 rfl (okM_1 _) (shM_1 _) (fvM_1_48 _) ?_
      refine j_aload_n 0 dX11_best_93 rfl rfl ?_
      refine j_get (ci := 10) 37 (.ref 18) jC_10 dX11_best_94 kg_RX11_66 rfl (okM_1 _) (shM_1 _) (fvM_1_37 _) ?_
      refine j_aload_n 0 dX11_best_97 rfl rfl ?_
      refine j_aload_n 0 dX11_best_98 rfl rfl ?_
      refine j_get (ci := 10) 11 (.ref 9) jC_10 dX11_best_99 kg_RX11_31 rfl (okM_1 _) (shM_1 _) (fvM_1_11 _) ?_
      refine j_iload_n 1 dX11_best_102 rfl rfl ?_
      replace h := bG_inv h
      obtain ⟨hi22, h⟩ := h
      refine j_iaload dX11_best_103 (okM_9 _) (shM_9 _) (jin_spec hi22) ?_
      refine j_iload 6 dX11_best_104 rfl ?_
      replace h := bC_inv h
      obtain ⟨r23, cr23, h⟩ := h
      refine j_callV (ci := 10) (st1 := .int r23 :: _) (c_X11_behind g cr23) jy_X11_behind ki_yX11_behind ks_yX11_behind kl_RX11_337 dX11_best_106 rfl (okM_1 _) (shM_1 _) rfl rfl rfl rfl (jbr _) (jbr _) hn.1 hn.2 (Or.inr rfl) rfl ?_
      replace h := bG_inv h
      obtain ⟨hi24, h⟩ := h
      refine j_iaload dX11_best_109 (okM_18 _) (shM_18 _) (jin_spec hi24) ?_
      refine j_iconst (v := 1) dX11_best_110 (by decide) ?_
      refine j_isub dX11_best_111 ?_
      replace h := bG_inv h
      obtain ⟨hi25, h⟩ := h
      refine j_iaload dX11_best_112 (okM_27 _) (shM_27 _) (jin_spec hi25) ?_
      replace h := bV_inv h
      obtain ⟨v26, ev26, h⟩ := h
      refine j_nmi ev26 ?_
      refine j_istore [(9, .int v26), (0, .ref 1), (1, .int x1), (3, .int x3), (5, .int x5), (6, .int x6), (7, .int x7), (8, .int x8)] dX11_best_113 (Nat.le_of_ble_eq_true rfl) rfl ?_
      refine j_iload 0 dX11_best_115 rfl ?_
      refine j_if_ge 126 dX11_best_117 (by decide) (fun hc27 => ?_) (fun hc27 => ?_)
      · replace h := jif_t hc27 h
        refine j_iload 0 dX11_best_126 rfl ?_
        refine j_sub [(0, .ref 1), (1, .int x1), (3, .int x3), (5, .int x5), (6, .int x6), (7, .int x7), (8, .int x8)] [1, 2, 3, 4, 5, 6, 7] rfl ?_
        exact f_X11_best_J128_ok σ x1 x3 x5 x6 x7 x8 v26 hn hr hc0 _ h hK
      · replace h := jif_f hc27 h
        refine j_ldcw (v := 1000000) kk_RX11_381 dX11_best_120 ?_
        refine j_goto 128 dX11_best_123 (by decide) ?_
        refine j_sub [(0, .ref 1), (1, .int x1), (3, .int x3), (5, .int x5), (6, .int x6), (7, .int x7), (8, .int x8)] [1, 2, 3, 4, 5, 6, 7] rfl ?_
        exact f_X11_best_J128_ok σ x1 x3 x5 x6 x7 x8 1000000 hn hr hc0 _ h hK
def f_X11_best_J60 (σ : jS) (x1 : Int32) (x3 : Int32) (y0 : Int32) : Option (Int32 × jS) :=
  jloop jFuel (fun s => f_X11_best_B71 s.2.2.2 x1 x3 y0 s.1 s.2.1 s.2.2.1) ((-1), 0, 0, σ)
set_option maxHeartbeats 1000000 in
set_option maxRecDepth 20000 in
theorem f_X11_best_J60_ok {g : Bool} {rv : Option Value} {μ' : jM} (σ : jS) (x1 : Int32) (x3 : Int32) (y0 : Int32) {Kp : (Int32 × jS) → Prop} (hn : Nat.ble nM μ'.1 = true ∧ Nat.ble wM μ'.2.1 = true) (hr : ∀ (r : Int32) (s : jS), Kp ((r, s)) → rv = some (.int r) ∧ μ' = eM s) (o : (Int32 × jS)) (h : f_X11_best_J60 σ x1 x3 y0 = some o) (hK : Kp o) : J yX11_best cX11_best 12 (some .int) 6 g rv μ' 60 [(0, .ref 1), (1, .int x1), (3, .int x3)] [.int y0] (eM σ) := by
  unfold f_X11_best_J60 at h
  refine j_istore [(5, .int y0), (0, .ref 1), (1, .int x1), (3, .int x3)] dX11_best_60 (Nat.le_of_ble_eq_true rfl) rfl ?_
  refine j_iconst (v := (-1)) dX11_best_62 (by decide) ?_
  refine j_istore [(6, .int (-1)), (5, .int y0), (0, .ref 1), (1, .int x1), (3, .int x3)] dX11_best_63 (Nat.le_of_ble_eq_true rfl) rfl ?_
  refine j_iconst (v := 0) dX11_best_65 (by decide) ?_
  refine j_istore [(7, .int 0), (6, .int (-1)), (5, .int y0), (0, .ref 1), (1, .int x1), (3, .int x3)] dX11_best_66 (Nat.le_of_ble_eq_true rfl) rfl ?_
  refine j_iconst (v := 0) dX11_best_68 (by decide) ?_
  refine j_istore [(8, .int 0), (7, .int 0), (6, .int (-1)), (5, .int y0), (0, .ref 1), (1, .int x1), (3, .int x3)] dX11_best_69 (Nat.le_of_ble_eq_true rfl) rfl ?_
  refine j_sub [(0, .ref 1), (1, .int x1), (3, .int x3), (5, .int y0), (6, .int (-1)), (7, .int 0), (8, .int 0)] [4, 5, 6, 3, 2, 1, 0] rfl ?_
  exact jloop_ok (fun s => f_X11_best_B71 s.2.2.2 x1 x3 y0 s.1 s.2.1 s.2.2.1) (fun s => J yX11_best cX11_best 12 (some .int) 6 g rv μ' 71 [(0, .ref 1), (1, .int x1), (3, .int x3), (5, .int y0), (6, .int s.1), (7, .int s.2.1), (8, .int s.2.2.1)] [] (eM s.2.2.2)) Kp (fun s o hb hk => f_X11_best_B71_ok (Kp := jsum (fun s => J yX11_best cX11_best 12 (some .int) 6 g rv μ' 71 [(0, .ref 1), (1, .int x1), (3, .int x3), (5, .int y0), (6, .int s.1), (7, .int s.2.1), (8, .int s.2.2.1)] [] (eM s.2.2.2)) Kp) s.2.2.2 x1 x3 y0 s.1 s.2.1 s.2.2.1 hn (fun r s q => hr r s q) (fun s q => q) o hb hk) jFuel _ _ h hK
def f_X11_best (σ : jS) (x1 : Int32) (x2 : Int32) : Option (Int32 × jS) :=
  bC (f_X11_isQuarrel σ x1) fun r1 =>
  if r1 = 0 then (some (((-1001), σ)))
  else (bC (f_X11_isSide x2) fun r2 =>
  if r2 = 0 then (some (((-1002), σ)))
  else (bG (jin x1 4) (
  bC (f_X11_mayNow σ (gI σ 9 (ix x1))) fun r3 =>
  bD (f_X11_forcesNow σ x1 x2) fun r4 σ5 =>
  bG (jin x1 4) (
  bC (f_X11_side (gI σ5 9 (ix x1))) fun r6 =>
  if r6 = x2 then (f_X11_best_J60 σ5 x1 r3 1)
  else (f_X11_best_J60 σ5 x1 r3 0)))))
set_option maxHeartbeats 1000000 in
set_option maxRecDepth 20000 in
theorem f_X11_best_ok {g : Bool} {rv : Option Value} {μ' : jM} (σ : jS) (x1 : Int32) (x2 : Int32) {Kp : (Int32 × jS) → Prop} (hn : Nat.ble nM μ'.1 = true ∧ Nat.ble wM μ'.2.1 = true) (hr : ∀ (r : Int32) (s : jS), Kp ((r, s)) → rv = some (.int r) ∧ μ' = eM s) (o : (Int32 × jS)) (h : f_X11_best σ x1 x2 = some o) (hK : Kp o) : J yX11_best cX11_best 12 (some .int) 6 g rv μ' 0 [(0, .ref 1), (1, .int x1), (2, .int x2)] [] (eM σ) := by
  unfold f_X11_best at h
  refine j_aload_n 0 dX11_best_0 rfl rfl ?_
  refine j_iload_n 1 dX11_best_1 rfl rfl ?_
  replace h := bC_inv h
  obtain ⟨r28, cr28, h⟩ := h
  refine j_callV (ci := 10) (st1 := .int r28 :: _) (c_X11_isQuarrel g cr28) jy_X11_isQuarrel ki_yX11_isQuarrel ks_yX11_isQuarrel kl_RX11_309 dX11_best_2 rfl (okM_1 _) (shM_1 _) rfl rfl rfl rfl (jbr _) (jbr _) hn.1 hn.2 (Or.inr rfl) rfl ?_
  refine j_if_ne 12 dX11_best_5 (by decide) (fun hc29 => ?_) (fun hc29 => ?_)
  · replace h := jif_f hc29 h
    refine j_iload_n 2 dX11_best_12 rfl rfl ?_
    replace h := bC_inv h
    obtain ⟨r30, cr30, h⟩ := h
    refine j_callS (st1 := .int r30 :: _) (c_X11_isSide g _ cr30) jy_X11_isSide kt_yX11_isSide kl_RX11_375 dX11_best_13 rfl rfl rfl rfl (jbr _) (jbr _) hn.1 hn.2 (Or.inr rfl) rfl ?_
    refine j_if_ne 23 dX11_best_16 (by decide) (fun hc31 => ?_) (fun hc31 => ?_)
    · replace h := jif_f hc31 h
      refine j_aload_n 0 dX11_best_23 rfl rfl ?_
      refine j_aload_n 0 dX11_best_24 rfl rfl ?_
      refine j_get (ci := 10) 11 (.ref 9) jC_10 dX11_best_25 kg_RX11_31 rfl (okM_1 _) (shM_1 _) (fvM_1_11 _) ?_
      refine j_iload_n 1 dX11_best_28 rfl rfl ?_
      replace h := bG_inv h
      obtain ⟨hi32, h⟩ := h
      refine j_iaload dX11_best_29 (okM_9 _) (shM_9 _) (jin_spec hi32) ?_
      replace h := bC_inv h
      obtain ⟨r33, cr33, h⟩ := h
      refine j_callV (ci := 10) (st1 := .int r33 :: _) (c_X11_mayNow g cr33) jy_X11_mayNow ki_yX11_mayNow ks_yX11_mayNow kl_RX11_315 dX11_best_30 rfl (okM_1 _) (shM_1 _) rfl rfl rfl rfl (jbr _) (jbr _) hn.1 hn.2 (Or.inr rfl) rfl ?_
      refine j_istore_n [(3, .int r33), (0, .ref 1), (1, .int x1), (2, .int x2)] dX11_best_33 rfl (Nat.le_of_ble_eq_true rfl) rfl ?_
      refine j_aload_n 1 dX11_best_34 rfl rfl ?_
      refine j_iload_n 2 dX11_best_35 rfl rfl ?_
      refine j_iload_n 3 dX11_best_36 rfl rfl ?_
      replace h := bD_inv h
      obtain ⟨r34, σ35, cr34, h⟩ := h
      refine j_callV (ci := 10) (st1 := .int r34 :: _) (c_X11_forcesNow g cr34) jy_X11_forcesNow ki_yX11_forcesNow ks_yX11_forcesNow kl_RX11_378 dX11_best_37 rfl (okM_1 _) (shM_1 _) rfl rfl rfl rfl (jbr _) (jbr _) hn.1 hn.2 (Or.inr rfl) rfl ?_
      refine j_istore [(4, .int r34), (3, .int r33), (0, .ref 1), (1, .int x1), (2, .int x2)] dX11_best_40 (Nat.le_of_ble_eq_true rfl) rfl ?_
      refine j_aload_n 2 dX11_best_42 rfl rfl ?_
      refine j_get (ci := 10) 11 (.ref 9) jC_10 dX11_best_43 kg_RX11_31 rfl (okM_1 _) (shM_1 _) (fvM_1_11 _) ?_
      refine j_iload_n 3 dX11_best_46 rfl rfl ?_
      replace h := bG_inv h
      obtain ⟨hi36, h⟩ := h
      refine j_iaload dX11_best_47 (okM_9 _) (shM_9 _) (jin_spec hi36) ?_
      replace h := bC_inv h
      obtain ⟨r37, cr37, h⟩ := h
      refine j_callS (st1 := .int r37 :: _) (c_X11_side g _ cr37) jy_X11_side kt_yX11_side kl_RX11_277 dX11_best_48 rfl rfl rfl rfl (jbr _) (jbr _) hn.1 hn.2 (Or.inr rfl) rfl ?_
      refine j_iload_n 4 dX11_best_51 rfl rfl ?_
      refine j_icmp_ne 59 dX11_best_52 (by decide) (fun hc38 => ?_) (fun hc38 => ?_)
      · replace h := jif_f hc38 h
        refine j_iconst (v := 0) dX11_best_59 (by decide) ?_
        refine j_sub [(0, .ref 1), (1, .int x1), (3, .int r33)] [2, 3, 1] rfl ?_
        exact f_X11_best_J60_ok σ35 x1 r33 0 hn hr _ h hK
      · replace h := jif_t hc38 h
        refine j_iconst (v := 1) dX11_best_55 (by decide) ?_
        refine j_goto 60 dX11_best_56 (by decide) ?_
        refine j_sub [(0, .ref 1), (1, .int x1), (3, .int r33)] [2, 3, 1] rfl ?_
        exact f_X11_best_J60_ok σ35 x1 r33 1 hn hr _ h hK
    · replace h := jif_t hc31 h
      refine j_sipush (v := (-1002)) dX11_best_19 (by decide) ?_
      replace h := Option.some.inj h
      subst h
      obtain ⟨hr1, hr2⟩ := hr _ _ hK
      exact j_iret dX11_best_22 hr1 hr2
  · replace h := jif_t hc29 h
    refine j_sipush (v := (-1001)) dX11_best_8 (by decide) ?_
    replace h := Option.some.inj h
    subst h
    obtain ⟨hr1, hr2⟩ := hr _ _ hK
    exact j_iret dX11_best_11 hr1 hr2
theorem c_X11_best (g : Bool) {σ : jS} {x1 : Int32} {x2 : Int32} {r : Int32} {σ2 : jS} (h : f_X11_best σ x1 x2 = some (r, σ2)) : Cn yX11_best cX11_best 12 (some .int) 6 g [.ref 1, .int x1, .int x2] (eM σ) (some (.int r)) (eM σ2) :=
  Cn_of (by decide) (Nat.le_refl _) (Nat.le_refl _) (Nat.le_of_ble_eq_true rfl) (f_X11_best_ok (Kp := (fun o => o = (r, σ2))) σ x1 x2 ⟨jbr _, jbr _⟩ (fun r2 s2 q => by cases q; exact ⟨rfl, rfl⟩) _ h rfl)
def f_X11_sure_J20 (σ : jS) (y0 : Int32) : Option (Int32 × jS) :=
  some ((y0, σ))
set_option maxHeartbeats 1000000 in
set_option maxRecDepth 20000 in
theorem f_X11_sure_J20_ok {g : Bool} {rv : Option Value} {μ' : jM} (σ : jS) (y0 : Int32) {Kp : (Int32 × jS) → Prop} (hn : Nat.ble nM μ'.1 = true ∧ Nat.ble wM μ'.2.1 = true) (hr : ∀ (r : Int32) (s : jS), Kp ((r, s)) → rv = some (.int r) ∧ μ' = eM s) (o : (Int32 × jS)) (h : f_X11_sure_J20 σ y0 = some o) (hK : Kp o) : J yX11_sure cX11_sure 2 (some .int) 6 g rv μ' 20 [] [.int y0] (eM σ) := by
  unfold f_X11_sure_J20 at h
  replace h := Option.some.inj h
  subst h
  obtain ⟨hr1, hr2⟩ := hr _ _ hK
  exact j_iret dX11_sure_20 hr1 hr2
def f_X11_sure (σ : jS) (x1 : Int32) : Option (Int32 × jS) :=
  bC (f_X11_isQuarrel σ x1) fun r1 =>
  if r1 = 0 then (f_X11_sure_J20 σ (-1001))
  else (bD (f_X11_forcesNow σ x1 2) fun r2 σ3 =>
  f_X11_sure_J20 σ3 r2)
set_option maxHeartbeats 1000000 in
set_option maxRecDepth 20000 in
theorem f_X11_sure_ok {g : Bool} {rv : Option Value} {μ' : jM} (σ : jS) (x1 : Int32) {Kp : (Int32 × jS) → Prop} (hn : Nat.ble nM μ'.1 = true ∧ Nat.ble wM μ'.2.1 = true) (hr : ∀ (r : Int32) (s : jS), Kp ((r, s)) → rv = some (.int r) ∧ μ' = eM s) (o : (Int32 × jS)) (h : f_X11_sure σ x1 = some o) (hK : Kp o) : J yX11_sure cX11_sure 2 (some .int) 6 g rv μ' 0 [(0, .ref 1), (1, .int x1)] [] (eM σ) := by
  unfold f_X11_sure at h
  refine j_aload_n 0 dX11_sure_0 rfl rfl ?_
  refine j_iload_n 1 dX11_sure_1 rfl rfl ?_
  replace h := bC_inv h
  obtain ⟨r4, cr4, h⟩ := h
  refine j_callV (ci := 10) (st1 := .int r4 :: _) (c_X11_isQuarrel g cr4) jy_X11_isQuarrel ki_yX11_isQuarrel ks_yX11_isQuarrel kl_RX11_309 dX11_sure_2 rfl (okM_1 _) (shM_1 _) rfl rfl rfl rfl (jbr _) (jbr _) hn.1 hn.2 (Or.inr rfl) rfl ?_
  refine j_if_eq 17 dX11_sure_5 (by decide) (fun hc5 => ?_) (fun hc5 => ?_)
  · replace h := jif_t hc5 h
    refine j_sipush (v := (-1001)) dX11_sure_17 (by decide) ?_
    refine j_sub [] [] rfl ?_
    exact f_X11_sure_J20_ok σ (-1001) hn hr _ h hK
  · replace h := jif_f hc5 h
    refine j_aload_n 0 dX11_sure_8 rfl rfl ?_
    refine j_iload_n 1 dX11_sure_9 rfl rfl ?_
    refine j_iconst (v := 2) dX11_sure_10 (by decide) ?_
    replace h := bD_inv h
    obtain ⟨r6, σ7, cr6, h⟩ := h
    refine j_callV (ci := 10) (st1 := .int r6 :: _) (c_X11_forcesNow g cr6) jy_X11_forcesNow ki_yX11_forcesNow ks_yX11_forcesNow kl_RX11_378 dX11_sure_11 rfl (okM_1 _) (shM_1 _) rfl rfl rfl rfl (jbr _) (jbr _) hn.1 hn.2 (Or.inr rfl) rfl ?_
    refine j_goto 20 dX11_sure_14 (by decide) ?_
    refine j_sub [] [] rfl ?_
    exact f_X11_sure_J20_ok σ7 r6 hn hr _ h hK
theorem c_X11_sure (g : Bool) {σ : jS} {x1 : Int32} {r : Int32} {σ2 : jS} (h : f_X11_sure σ x1 = some (r, σ2)) : Cn yX11_sure cX11_sure 2 (some .int) 6 g [.ref 1, .int x1] (eM σ) (some (.int r)) (eM σ2) :=
  Cn_of (by decide) (Nat.le_refl _) (Nat.le_refl _) (Nat.le_of_ble_eq_true rfl) (f_X11_sure_ok (Kp := (fun o => o = (r, σ2))) σ x1 ⟨jbr _, jbr _⟩ (fun r2 s2 q => by cases q; exact ⟨rfl, rfl⟩) _ h rfl)
def f_X11_aside_J115 (σ : jS) : Option (Int32 × jS) :=
  some (((-1), σ))
set_option maxHeartbeats 1000000 in
set_option maxRecDepth 20000 in
theorem f_X11_aside_J115_ok {g : Bool} {rv : Option Value} {μ' : jM} (σ : jS) {Kp : (Int32 × jS) → Prop} (hn : Nat.ble nM μ'.1 = true ∧ Nat.ble wM μ'.2.1 = true) (hr : ∀ (r : Int32) (s : jS), Kp ((r, s)) → rv = some (.int r) ∧ μ' = eM s) (o : (Int32 × jS)) (h : f_X11_aside_J115 σ = some o) (hK : Kp o) : J yX11_aside cX11_aside 5 (some .int) 5 g rv μ' 115 [] [] (eM σ) := by
  unfold f_X11_aside_J115 at h
  refine j_iconst (v := (-1)) dX11_aside_115 (by decide) ?_
  replace h := Option.some.inj h
  subst h
  obtain ⟨hr1, hr2⟩ := hr _ _ hK
  exact j_iret dX11_aside_116 hr1 hr2
def f_X11_aside_J109 (σ : jS) (x2 : Int32) (x3 : Int32) : Option ((Int32 × jS) ⊕ (Int32 × jS)) :=
  bV (x3 + 1) fun v5 =>
  some (.inl (v5, σ))
set_option maxHeartbeats 1000000 in
set_option maxRecDepth 20000 in
theorem f_X11_aside_J109_ok {g : Bool} {rv : Option Value} {μ' : jM} (σ : jS) (x2 : Int32) (x3 : Int32) {Kp : ((Int32 × jS) ⊕ (Int32 × jS)) → Prop} (hn : Nat.ble nM μ'.1 = true ∧ Nat.ble wM μ'.2.1 = true) (hr : ∀ (r : Int32) (s : jS), Kp (.inr ((r, s))) → rv = some (.int r) ∧ μ' = eM s) (hc0 : ∀ s : (Int32 × jS), Kp (.inl s) → J yX11_aside cX11_aside 5 (some .int) 5 g rv μ' 49 [(0, .ref 1), (2, .int x2), (3, .int s.1)] [] (eM s.2)) (o : ((Int32 × jS) ⊕ (Int32 × jS))) (h : f_X11_aside_J109 σ x2 x3 = some o) (hK : Kp o) : J yX11_aside cX11_aside 5 (some .int) 5 g rv μ' 109 [(0, .ref 1), (2, .int x2), (3, .int x3)] [] (eM σ) := by
  unfold f_X11_aside_J109 at h
  replace h := bV_inv h
  obtain ⟨v6, ev6, h⟩ := h
  refine j_iinc (v := v6) [(3, .int v6), (0, .ref 1), (2, .int x2)] 2 dX11_aside_109 rfl (by rw [ev6]; rfl) (Nat.le_of_ble_eq_true rfl) rfl ?_
  refine j_goto 49 dX11_aside_112 (by decide) ?_
  replace h := Option.some.inj h
  subst h
  refine j_sub [(0, .ref 1), (2, .int x2), (3, .int v6)] [1, 2, 0] rfl ?_
  exact hc0 _ hK
def f_X11_aside_J103 (σ : jS) (x2 : Int32) (x3 : Int32) (x4 : Int32) : Option ((Int32 × jS) ⊕ ((Int32 × jS) ⊕ (Int32 × jS))) :=
  bV (x4 + 1) fun v8 =>
  some (.inl (v8, σ))
set_option maxHeartbeats 1000000 in
set_option maxRecDepth 20000 in
theorem f_X11_aside_J103_ok {g : Bool} {rv : Option Value} {μ' : jM} (σ : jS) (x2 : Int32) (x3 : Int32) (x4 : Int32) {Kp : ((Int32 × jS) ⊕ ((Int32 × jS) ⊕ (Int32 × jS))) → Prop} (hn : Nat.ble nM μ'.1 = true ∧ Nat.ble wM μ'.2.1 = true) (hr : ∀ (r : Int32) (s : jS), Kp (.inr (.inr ((r, s)))) → rv = some (.int r) ∧ μ' = eM s) (hc0 : ∀ s : (Int32 × jS), Kp (.inr (.inl s)) → J yX11_aside cX11_aside 5 (some .int) 5 g rv μ' 49 [(0, .ref 1), (2, .int x2), (3, .int s.1)] [] (eM s.2)) (hc1 : ∀ s : (Int32 × jS), Kp (.inl s) → J yX11_aside cX11_aside 5 (some .int) 5 g rv μ' 60 [(0, .ref 1), (2, .int x2), (3, .int x3), (4, .int s.1)] [] (eM s.2)) (o : ((Int32 × jS) ⊕ ((Int32 × jS) ⊕ (Int32 × jS)))) (h : f_X11_aside_J103 σ x2 x3 x4 = some o) (hK : Kp o) : J yX11_aside cX11_aside 5 (some .int) 5 g rv μ' 103 [(0, .ref 1), (2, .int x2), (3, .int x3), (4, .int x4)] [] (eM σ) := by
  unfold f_X11_aside_J103 at h
  replace h := bV_inv h
  obtain ⟨v9, ev9, h⟩ := h
  refine j_iinc (v := v9) [(4, .int v9), (0, .ref 1), (2, .int x2), (3, .int x3)] 3 dX11_aside_103 rfl (by rw [ev9]; rfl) (Nat.le_of_ble_eq_true rfl) rfl ?_
  refine j_goto 60 dX11_aside_106 (by decide) ?_
  replace h := Option.some.inj h
  subst h
  refine j_sub [(0, .ref 1), (2, .int x2), (3, .int x3), (4, .int v9)] [1, 2, 3, 0] rfl ?_
  exact hc1 _ hK
def f_X11_aside_J100 (σ : jS) (x4 : Int32) : Option (Int32 × jS) :=
  some ((x4, σ))
set_option maxHeartbeats 1000000 in
set_option maxRecDepth 20000 in
theorem f_X11_aside_J100_ok {g : Bool} {rv : Option Value} {μ' : jM} (σ : jS) (x4 : Int32) {Kp : (Int32 × jS) → Prop} (hn : Nat.ble nM μ'.1 = true ∧ Nat.ble wM μ'.2.1 = true) (hr : ∀ (r : Int32) (s : jS), Kp ((r, s)) → rv = some (.int r) ∧ μ' = eM s) (o : (Int32 × jS)) (h : f_X11_aside_J100 σ x4 = some o) (hK : Kp o) : J yX11_aside cX11_aside 5 (some .int) 5 g rv μ' 100 [(4, .int x4)] [] (eM σ) := by
  unfold f_X11_aside_J100 at h
  refine j_iload 0 dX11_aside_100 rfl ?_
  replace h := Option.some.inj h
  subst h
  obtain ⟨hr1, hr2⟩ := hr _ _ hK
  exact j_iret dX11_aside_102 hr1 hr2
def f_X11_aside_B60 (σ : jS) (x2 : Int32) (x3 : Int32) (x4 : Int32) : Option ((Int32 × jS) ⊕ ((Int32 × jS) ⊕ (Int32 × jS))) :=
  if ((1 : Int32) <<< ((gI σ 1 6) &&& 31)) ≤ x4 then (jw (f_X11_aside_J109 σ x2 x3))
  else (bC (f_X11_bits x4) fun r7 =>
  if r7 = x3 then (bD (f_X11_takeGrudges σ x4) fun r10 σ11 =>
  bD (f_X11_solve σ11 x2) fun r12 σ13 =>
  bG (jin 0 147968) (
  if (gI σ13 27 (ix 0)) < 0 then (f_X11_aside_J103 σ13 x2 x3 x4)
  else (jw (jw (f_X11_aside_J100 σ13 x4)))))
  else (f_X11_aside_J103 σ x2 x3 x4))
set_option maxHeartbeats 1000000 in
set_option maxRecDepth 20000 in
theorem f_X11_aside_B60_ok {g : Bool} {rv : Option Value} {μ' : jM} (σ : jS) (x2 : Int32) (x3 : Int32) (x4 : Int32) {Kp : ((Int32 × jS) ⊕ ((Int32 × jS) ⊕ (Int32 × jS))) → Prop} (hn : Nat.ble nM μ'.1 = true ∧ Nat.ble wM μ'.2.1 = true) (hr : ∀ (r : Int32) (s : jS), Kp (.inr (.inr ((r, s)))) → rv = some (.int r) ∧ μ' = eM s) (hc0 : ∀ s : (Int32 × jS), Kp (.inr (.inl s)) → J yX11_aside cX11_aside 5 (some .int) 5 g rv μ' 49 [(0, .ref 1), (2, .int x2), (3, .int s.1)] [] (eM s.2)) (hc1 : ∀ s : (Int32 × jS), Kp (.inl s) → J yX11_aside cX11_aside 5 (some .int) 5 g rv μ' 60 [(0, .ref 1), (2, .int x2), (3, .int x3), (4, .int s.1)] [] (eM s.2)) (o : ((Int32 × jS) ⊕ ((Int32 × jS) ⊕ (Int32 × jS)))) (h : f_X11_aside_B60 σ x2 x3 x4 = some o) (hK : Kp o) : J yX11_aside cX11_aside 5 (some .int) 5 g rv μ' 60 [(0, .ref 1), (2, .int x2), (3, .int x3), (4, .int x4)] [] (eM σ) := by
  unfold f_X11_aside_B60 at h
  refine j_iload 3 dX11_aside_60 rfl ?_
  refine j_iconst (v := 1) dX11_aside_62 (by decide) ?_
  refine j_aload_n 0 dX11_aside_63 rfl rfl ?_
  refine j_get (ci := 10) 6 (.int (gI σ 1 6)) jC_10 dX11_aside_64 kg_RX11_243 rfl (okM_1 _) (shM_1 _) (fvM_1_6 _) ?_
  refine j_ishl dX11_aside_67 ?_
  refine j_icmp_ge 109 dX11_aside_68 (by decide) (fun hc14 => ?_) (fun hc14 => ?_)
  · replace h := jif_t hc14 h
    replace h := jw_inv h
    obtain ⟨o15, rfl, h⟩ := h
    refine j_sub [(0, .ref 1), (2, .int x2), (3, .int x3)] [0, 1, 2] rfl ?_
    exact f_X11_aside_J109_ok (Kp := fun o => Kp (.inr (o))) σ x2 x3 hn (fun r s q => hr r s q) (fun s q => hc0 s q) _ h hK
  · replace h := jif_f hc14 h
    refine j_iload 3 dX11_aside_71 rfl ?_
    replace h := bC_inv h
    obtain ⟨r16, cr16, h⟩ := h
    refine j_callS (st1 := .int r16 :: _) (c_X11_bits g _ cr16) jy_X11_bits kt_yX11_bits kl_RX11_328 dX11_aside_73 rfl rfl rfl rfl (jbr _) (jbr _) hn.1 hn.2 (Or.inr rfl) rfl ?_
    refine j_iload_n 2 dX11_aside_76 rfl rfl ?_
    refine j_icmp_ne 103 dX11_aside_77 (by decide) (fun hc17 => ?_) (fun hc17 => ?_)
    · replace h := jif_f hc17 h
      exact f_X11_aside_J103_ok σ x2 x3 x4 hn hr hc0 hc1 _ h hK
    · replace h := jif_t hc17 h
      refine j_aload_n 0 dX11_aside_80 rfl rfl ?_
      refine j_iload 3 dX11_aside_81 rfl ?_
      replace h := bD_inv h
      obtain ⟨r18, σ19, cr18, h⟩ := h
      refine j_callV (ci := 10) (st1 := _) (c_X11_takeGrudges g cr18) jy_X11_takeGrudges ki_yX11_takeGrudges ks_yX11_takeGrudges kl_RX11_368 dX11_aside_83 rfl (okM_1 _) (shM_1 _) rfl rfl rfl rfl (jbr _) (jbr _) hn.1 hn.2 (Or.inr rfl) rfl ?_
      refine j_aload_n 0 dX11_aside_86 rfl rfl ?_
      refine j_iload_n 1 dX11_aside_87 rfl rfl ?_
      replace h := bD_inv h
      obtain ⟨r20, σ21, cr20, h⟩ := h
      refine j_callV (ci := 10) (st1 := _) (c_X11_solve g cr20) jy_X11_solve ki_yX11_solve ks_yX11_solve kl_RX11_372 dX11_aside_88 rfl (okM_1 _) (shM_1 _) rfl rfl rfl rfl (jbr _) (jbr _) hn.1 hn.2 (Or.inr rfl) rfl ?_
      refine j_aload_n 0 dX11_aside_91 rfl rfl ?_
      refine j_get (ci := 10) 48 (.ref 27) jC_10 dX11_aside_92 kg_RX11_95 rfl (okM_1 _) (shM_1 _) (fvM_1_48 _) ?_
      refine j_iconst (v := 0) dX11_aside_95 (by decide) ?_
      replace h := bG_inv h
      obtain ⟨hi22, h⟩ := h
      refine j_iaload dX11_aside_96 (okM_27 _) (shM_27 _) (jin_spec hi22) ?_
      refine j_if_lt 103 dX11_aside_97 (by decide) (fun hc23 => ?_) (fun hc23 => ?_)
      · replace h := jif_t hc23 h
        exact f_X11_aside_J103_ok σ21 x2 x3 x4 hn hr hc0 hc1 _ h hK
      · replace h := jif_f hc23 h
        replace h := jw_inv h
        obtain ⟨o24, rfl, h⟩ := h
        replace h := jw_inv h
        obtain ⟨o25, rfl, h⟩ := h
        refine j_sub [(4, .int x4)] [3] rfl ?_
        exact f_X11_aside_J100_ok (Kp := fun o => Kp (.inr (.inr (o)))) σ21 x4 hn (fun r s q => hr r s q) _ h hK
def f_X11_aside_B49 (σ : jS) (x2 : Int32) (x3 : Int32) : Option ((Int32 × jS) ⊕ (Int32 × jS)) :=
  if (gI σ 1 6) < x3 then (jw (f_X11_aside_J115 σ))
  else (jloop jFuel (fun s => f_X11_aside_B60 s.2 x2 x3 s.1) (0, σ))
set_option maxHeartbeats 1000000 in
set_option maxRecDepth 20000 in
theorem f_X11_aside_B49_ok {g : Bool} {rv : Option Value} {μ' : jM} (σ : jS) (x2 : Int32) (x3 : Int32) {Kp : ((Int32 × jS) ⊕ (Int32 × jS)) → Prop} (hn : Nat.ble nM μ'.1 = true ∧ Nat.ble wM μ'.2.1 = true) (hr : ∀ (r : Int32) (s : jS), Kp (.inr ((r, s))) → rv = some (.int r) ∧ μ' = eM s) (hc0 : ∀ s : (Int32 × jS), Kp (.inl s) → J yX11_aside cX11_aside 5 (some .int) 5 g rv μ' 49 [(0, .ref 1), (2, .int x2), (3, .int s.1)] [] (eM s.2)) (o : ((Int32 × jS) ⊕ (Int32 × jS))) (h : f_X11_aside_B49 σ x2 x3 = some o) (hK : Kp o) : J yX11_aside cX11_aside 5 (some .int) 5 g rv μ' 49 [(0, .ref 1), (2, .int x2), (3, .int x3)] [] (eM σ) := by
  unfold f_X11_aside_B49 at h
  refine j_iload_n 2 dX11_aside_49 rfl rfl ?_
  refine j_aload_n 0 dX11_aside_50 rfl rfl ?_
  refine j_get (ci := 10) 6 (.int (gI σ 1 6)) jC_10 dX11_aside_51 kg_RX11_243 rfl (okM_1 _) (shM_1 _) (fvM_1_6 _) ?_
  refine j_icmp_gt 115 dX11_aside_54 (by decide) (fun hc26 => ?_) (fun hc26 => ?_)
  · replace h := jif_t hc26 h
    replace h := jw_inv h
    obtain ⟨o27, rfl, h⟩ := h
    refine j_sub [] [] rfl ?_
    exact f_X11_aside_J115_ok (Kp := fun o => Kp (.inr (o))) σ hn (fun r s q => hr r s q) _ h hK
  · replace h := jif_f hc26 h
    refine j_iconst (v := 0) dX11_aside_57 (by decide) ?_
    refine j_istore [(4, .int 0), (0, .ref 1), (2, .int x2), (3, .int x3)] dX11_aside_58 (Nat.le_of_ble_eq_true rfl) rfl ?_
    refine j_sub [(0, .ref 1), (2, .int x2), (3, .int x3), (4, .int 0)] [1, 2, 3, 0] rfl ?_
    exact jloop_ok (fun s => f_X11_aside_B60 s.2 x2 x3 s.1) (fun s => J yX11_aside cX11_aside 5 (some .int) 5 g rv μ' 60 [(0, .ref 1), (2, .int x2), (3, .int x3), (4, .int s.1)] [] (eM s.2)) Kp (fun s o hb hk => f_X11_aside_B60_ok (Kp := jsum (fun s => J yX11_aside cX11_aside 5 (some .int) 5 g rv μ' 60 [(0, .ref 1), (2, .int x2), (3, .int x3), (4, .int s.1)] [] (eM s.2)) Kp) s.2 x2 x3 s.1 hn (fun r s q => hr r s q) (fun s q => hc0 s q) (fun s q => q) o hb hk) jFuel _ _ h hK
def f_X11_aside (σ : jS) (x1 : Int32) (x2 : Int32) : Option (Int32 × jS) :=
  bC (f_X11_isQuarrel σ x1) fun r1 =>
  if r1 = 0 then (some (((-1001), σ)))
  else (bC (f_X11_isSide x2) fun r2 =>
  if r2 = 0 then (some (((-1002), σ)))
  else (if (gI σ 1 6) ≤ 12 then (bG (jin x1 4) (
  bD (f_X11_spread σ (gI σ 9 (ix x1)) 1) fun r3 σ4 =>
  jloop jFuel (fun s => f_X11_aside_B49 s.2 x2 s.1) (0, σ4)))
  else (some (((-1003), σ)))))
set_option maxHeartbeats 1000000 in
set_option maxRecDepth 20000 in
theorem f_X11_aside_ok {g : Bool} {rv : Option Value} {μ' : jM} (σ : jS) (x1 : Int32) (x2 : Int32) {Kp : (Int32 × jS) → Prop} (hn : Nat.ble nM μ'.1 = true ∧ Nat.ble wM μ'.2.1 = true) (hr : ∀ (r : Int32) (s : jS), Kp ((r, s)) → rv = some (.int r) ∧ μ' = eM s) (o : (Int32 × jS)) (h : f_X11_aside σ x1 x2 = some o) (hK : Kp o) : J yX11_aside cX11_aside 5 (some .int) 5 g rv μ' 0 [(0, .ref 1), (1, .int x1), (2, .int x2)] [] (eM σ) := by
  unfold f_X11_aside at h
  refine j_aload_n 0 dX11_aside_0 rfl rfl ?_
  refine j_iload_n 1 dX11_aside_1 rfl rfl ?_
  replace h := bC_inv h
  obtain ⟨r28, cr28, h⟩ := h
  refine j_callV (ci := 10) (st1 := .int r28 :: _) (c_X11_isQuarrel g cr28) jy_X11_isQuarrel ki_yX11_isQuarrel ks_yX11_isQuarrel kl_RX11_309 dX11_aside_2 rfl (okM_1 _) (shM_1 _) rfl rfl rfl rfl (jbr _) (jbr _) hn.1 hn.2 (Or.inr rfl) rfl ?_
  refine j_if_ne 12 dX11_aside_5 (by decide) (fun hc29 => ?_) (fun hc29 => ?_)
  · replace h := jif_f hc29 h
    refine j_iload_n 2 dX11_aside_12 rfl rfl ?_
    replace h := bC_inv h
    obtain ⟨r30, cr30, h⟩ := h
    refine j_callS (st1 := .int r30 :: _) (c_X11_isSide g _ cr30) jy_X11_isSide kt_yX11_isSide kl_RX11_375 dX11_aside_13 rfl rfl rfl rfl (jbr _) (jbr _) hn.1 hn.2 (Or.inr rfl) rfl ?_
    refine j_if_ne 23 dX11_aside_16 (by decide) (fun hc31 => ?_) (fun hc31 => ?_)
    · replace h := jif_f hc31 h
      refine j_aload_n 0 dX11_aside_23 rfl rfl ?_
      refine j_get (ci := 10) 6 (.int (gI σ 1 6)) jC_10 dX11_aside_24 kg_RX11_243 rfl (okM_1 _) (shM_1 _) (fvM_1_6 _) ?_
      refine j_bipush (v := 12) dX11_aside_27 (by decide) ?_
      refine j_icmp_le 36 dX11_aside_29 (by decide) (fun hc32 => ?_) (fun hc32 => ?_)
      · replace h := jif_t hc32 h
        refine j_aload_n 0 dX11_aside_36 rfl rfl ?_
        refine j_aload_n 0 dX11_aside_37 rfl rfl ?_
        refine j_get (ci := 10) 11 (.ref 9) jC_10 dX11_aside_38 kg_RX11_31 rfl (okM_1 _) (shM_1 _) (fvM_1_11 _) ?_
        refine j_iload_n 1 dX11_aside_41 rfl rfl ?_
        replace h := bG_inv h
        obtain ⟨hi33, h⟩ := h
        refine j_iaload dX11_aside_42 (okM_9 _) (shM_9 _) (jin_spec hi33) ?_
        refine j_iconst (v := 1) dX11_aside_43 (by decide) ?_
        replace h := bD_inv h
        obtain ⟨r34, σ35, cr34, h⟩ := h
        refine j_callV (ci := 10) (st1 := _) (c_X11_spread g cr34) jy_X11_spread ki_yX11_spread ks_yX11_spread kl_RX11_357 dX11_aside_44 rfl (okM_1 _) (shM_1 _) rfl rfl rfl rfl (jbr _) (jbr _) hn.1 hn.2 (Or.inr rfl) rfl ?_
        refine j_iconst (v := 0) dX11_aside_47 (by decide) ?_
        refine j_istore_n [(3, .int 0), (0, .ref 1), (1, .int x1), (2, .int x2)] dX11_aside_48 rfl (Nat.le_of_ble_eq_true rfl) rfl ?_
        refine j_sub [(0, .ref 1), (2, .int x2), (3, .int 0)] [1, 3, 0] rfl ?_
        exact jloop_ok (fun s => f_X11_aside_B49 s.2 x2 s.1) (fun s => J yX11_aside cX11_aside 5 (some .int) 5 g rv μ' 49 [(0, .ref 1), (2, .int x2), (3, .int s.1)] [] (eM s.2)) Kp (fun s o hb hk => f_X11_aside_B49_ok (Kp := jsum (fun s => J yX11_aside cX11_aside 5 (some .int) 5 g rv μ' 49 [(0, .ref 1), (2, .int x2), (3, .int s.1)] [] (eM s.2)) Kp) s.2 x2 s.1 hn (fun r s q => hr r s q) (fun s q => q) o hb hk) jFuel _ _ h hK
      · replace h := jif_f hc32 h
        refine j_sipush (v := (-1003)) dX11_aside_32 (by decide) ?_
        replace h := Option.some.inj h
        subst h
        obtain ⟨hr1, hr2⟩ := hr _ _ hK
        exact j_iret dX11_aside_35 hr1 hr2
    · replace h := jif_t hc31 h
      refine j_sipush (v := (-1002)) dX11_aside_19 (by decide) ?_
      replace h := Option.some.inj h
      subst h
      obtain ⟨hr1, hr2⟩ := hr _ _ hK
      exact j_iret dX11_aside_22 hr1 hr2
  · replace h := jif_t hc29 h
    refine j_sipush (v := (-1001)) dX11_aside_8 (by decide) ?_
    replace h := Option.some.inj h
    subst h
    obtain ⟨hr1, hr2⟩ := hr _ _ hK
    exact j_iret dX11_aside_11 hr1 hr2
theorem c_X11_aside (g : Bool) {σ : jS} {x1 : Int32} {x2 : Int32} {r : Int32} {σ2 : jS} (h : f_X11_aside σ x1 x2 = some (r, σ2)) : Cn yX11_aside cX11_aside 5 (some .int) 5 g [.ref 1, .int x1, .int x2] (eM σ) (some (.int r)) (eM σ2) :=
  Cn_of (by decide) (Nat.le_refl _) (Nat.le_refl _) (Nat.le_of_ble_eq_true rfl) (f_X11_aside_ok (Kp := (fun o => o = (r, σ2))) σ x1 x2 ⟨jbr _, jbr _⟩ (fun r2 s2 q => by cases q; exact ⟨rfl, rfl⟩) _ h rfl)
def f_X11_isForced_J19 (σ : jS) (y0 : Int32) : Option (Int32 × jS) :=
  bG (jb y0) (
  some ((y0, σ)))
set_option maxHeartbeats 1000000 in
set_option maxRecDepth 20000 in
theorem f_X11_isForced_J19_ok {g : Bool} {rv : Option Value} {μ' : jM} (σ : jS) (y0 : Int32) {Kp : (Int32 × jS) → Prop} (hn : Nat.ble nM μ'.1 = true ∧ Nat.ble wM μ'.2.1 = true) (hr : ∀ (r : Int32) (s : jS), Kp ((r, s)) → rv = some (.int r) ∧ μ' = eM s) (o : (Int32 × jS)) (h : f_X11_isForced_J19 σ y0 = some o) (hK : Kp o) : J yX11_isForced cX11_isForced 2 (some .boolean) 3 g rv μ' 19 [] [.int y0] (eM σ) := by
  unfold f_X11_isForced_J19 at h
  replace h := bG_inv h
  obtain ⟨hb, h⟩ := h
  replace h := Option.some.inj h
  subst h
  obtain ⟨hr1, hr2⟩ := hr _ _ hK
  exact j_zret (jb_nar hb) dX11_isForced_19 hr1 hr2
def f_X11_isForced (σ : jS) (x1 : Int32) : Option (Int32 × jS) :=
  bD (f_X11_solve σ x1) fun r1 σ2 =>
  bG (jin 0 147968) (
  if (gI σ2 27 (ix 0)) < 0 then (f_X11_isForced_J19 σ2 0)
  else (f_X11_isForced_J19 σ2 1))
set_option maxHeartbeats 1000000 in
set_option maxRecDepth 20000 in
theorem f_X11_isForced_ok {g : Bool} {rv : Option Value} {μ' : jM} (σ : jS) (x1 : Int32) {Kp : (Int32 × jS) → Prop} (hn : Nat.ble nM μ'.1 = true ∧ Nat.ble wM μ'.2.1 = true) (hr : ∀ (r : Int32) (s : jS), Kp ((r, s)) → rv = some (.int r) ∧ μ' = eM s) (o : (Int32 × jS)) (h : f_X11_isForced σ x1 = some o) (hK : Kp o) : J yX11_isForced cX11_isForced 2 (some .boolean) 3 g rv μ' 0 [(0, .ref 1), (1, .int x1)] [] (eM σ) := by
  unfold f_X11_isForced at h
  refine j_aload_n 0 dX11_isForced_0 rfl rfl ?_
  refine j_iload_n 1 dX11_isForced_1 rfl rfl ?_
  replace h := bD_inv h
  obtain ⟨r3, σ4, cr3, h⟩ := h
  refine j_callV (ci := 10) (st1 := _) (c_X11_solve g cr3) jy_X11_solve ki_yX11_solve ks_yX11_solve kl_RX11_372 dX11_isForced_2 rfl (okM_1 _) (shM_1 _) rfl rfl rfl rfl (jbr _) (jbr _) hn.1 hn.2 (Or.inr rfl) rfl ?_
  refine j_aload_n 0 dX11_isForced_5 rfl rfl ?_
  refine j_get (ci := 10) 48 (.ref 27) jC_10 dX11_isForced_6 kg_RX11_95 rfl (okM_1 _) (shM_1 _) (fvM_1_48 _) ?_
  refine j_iconst (v := 0) dX11_isForced_9 (by decide) ?_
  replace h := bG_inv h
  obtain ⟨hi5, h⟩ := h
  refine j_iaload dX11_isForced_10 (okM_27 _) (shM_27 _) (jin_spec hi5) ?_
  refine j_if_lt 18 dX11_isForced_11 (by decide) (fun hc6 => ?_) (fun hc6 => ?_)
  · replace h := jif_t hc6 h
    refine j_iconst (v := 0) dX11_isForced_18 (by decide) ?_
    refine j_sub [] [] rfl ?_
    exact f_X11_isForced_J19_ok σ4 0 hn hr _ h hK
  · replace h := jif_f hc6 h
    refine j_iconst (v := 1) dX11_isForced_14 (by decide) ?_
    refine j_goto 19 dX11_isForced_15 (by decide) ?_
    refine j_sub [] [] rfl ?_
    exact f_X11_isForced_J19_ok σ4 1 hn hr _ h hK
theorem c_X11_isForced (g : Bool) {σ : jS} {x1 : Int32} {r : Int32} {σ2 : jS} (h : f_X11_isForced σ x1 = some (r, σ2)) : Cn yX11_isForced cX11_isForced 2 (some .boolean) 3 g [.ref 1, .int x1] (eM σ) (some (.int r)) (eM σ2) :=
  Cn_of (by decide) (Nat.le_refl _) (Nat.le_refl _) (Nat.le_of_ble_eq_true rfl) (f_X11_isForced_ok (Kp := (fun o => o = (r, σ2))) σ x1 ⟨jbr _, jbr _⟩ (fun r2 s2 q => by cases q; exact ⟨rfl, rfl⟩) _ h rfl)
def f_X11_isFree_J24 (σ : jS) (y0 : Int32) : Option Int32 :=
  bG (jb y0) (
  some (y0))
set_option maxHeartbeats 1000000 in
set_option maxRecDepth 20000 in
theorem f_X11_isFree_J24_ok {g : Bool} {rv : Option Value} {μ' : jM} (σ : jS) (y0 : Int32) {Kp : Int32 → Prop} (hn : Nat.ble nM μ'.1 = true ∧ Nat.ble wM μ'.2.1 = true) (hr : ∀ r : Int32, Kp (r) → rv = some (.int r) ∧ μ' = (eM σ)) (o : Int32) (h : f_X11_isFree_J24 σ y0 = some o) (hK : Kp o) : J yX11_isFree cX11_isFree 3 (some .boolean) 1 g rv μ' 24 [] [.int y0] (eM σ) := by
  unfold f_X11_isFree_J24 at h
  replace h := bG_inv h
  obtain ⟨hb, h⟩ := h
  replace h := Option.some.inj h
  subst h
  obtain ⟨hr1, hr2⟩ := hr _ hK
  exact j_zret (jb_nar hb) dX11_isFree_24 hr1 hr2
def f_X11_isFree_J23 (σ : jS) : Option Int32 :=
  f_X11_isFree_J24 σ 0
set_option maxHeartbeats 1000000 in
set_option maxRecDepth 20000 in
theorem f_X11_isFree_J23_ok {g : Bool} {rv : Option Value} {μ' : jM} (σ : jS) {Kp : Int32 → Prop} (hn : Nat.ble nM μ'.1 = true ∧ Nat.ble wM μ'.2.1 = true) (hr : ∀ r : Int32, Kp (r) → rv = some (.int r) ∧ μ' = (eM σ)) (o : Int32) (h : f_X11_isFree_J23 σ = some o) (hK : Kp o) : J yX11_isFree cX11_isFree 3 (some .boolean) 1 g rv μ' 23 [] [] (eM σ) := by
  unfold f_X11_isFree_J23 at h
  refine j_iconst (v := 0) dX11_isFree_23 (by decide) ?_
  exact f_X11_isFree_J24_ok σ 0 hn hr _ h hK
def f_X11_isFree (σ : jS) (x1 : Int32) (x2 : Int32) : Option Int32 :=
  if x2 ≤ x1 then (f_X11_isFree_J23 σ)
  else (bG (jin (((16 : Int32) * x1) + x2) 256) (
  if (gI σ 28 (ix (((16 : Int32) * x1) + x2))) = 0 then (f_X11_isFree_J24 σ 1)
  else (f_X11_isFree_J23 σ)))
set_option maxHeartbeats 1000000 in
set_option maxRecDepth 20000 in
theorem f_X11_isFree_ok {g : Bool} {rv : Option Value} {μ' : jM} (σ : jS) (x1 : Int32) (x2 : Int32) {Kp : Int32 → Prop} (hn : Nat.ble nM μ'.1 = true ∧ Nat.ble wM μ'.2.1 = true) (hr : ∀ r : Int32, Kp (r) → rv = some (.int r) ∧ μ' = (eM σ)) (o : Int32) (h : f_X11_isFree σ x1 x2 = some o) (hK : Kp o) : J yX11_isFree cX11_isFree 3 (some .boolean) 1 g rv μ' 0 [(0, .ref 1), (1, .int x1), (2, .int x2)] [] (eM σ) := by
  unfold f_X11_isFree at h
  refine j_iload_n 1 dX11_isFree_0 rfl rfl ?_
  refine j_iload_n 2 dX11_isFree_1 rfl rfl ?_
  refine j_icmp_ge 23 dX11_isFree_2 (by decide) (fun hc1 => ?_) (fun hc1 => ?_)
  · replace h := jif_t hc1 h
    refine j_sub [] [] rfl ?_
    exact f_X11_isFree_J23_ok σ hn hr _ h hK
  · replace h := jif_f hc1 h
    refine j_aload_n 0 dX11_isFree_5 rfl rfl ?_
    refine j_get (ci := 10) 49 (.ref 28) jC_10 dX11_isFree_6 kg_RX11_98 rfl (okM_1 _) (shM_1 _) (fvM_1_49 _) ?_
    refine j_bipush (v := 16) dX11_isFree_9 (by decide) ?_
    refine j_iload_n 1 dX11_isFree_11 rfl rfl ?_
    refine j_imul dX11_isFree_12 ?_
    refine j_iload_n 2 dX11_isFree_13 rfl rfl ?_
    refine j_iadd dX11_isFree_14 ?_
    replace h := bG_inv h
    obtain ⟨hi2, h⟩ := h
    refine j_baload dX11_isFree_15 (okM_28 _) (shM_28 _) (jin_spec hi2) ?_
    refine j_if_ne 23 dX11_isFree_16 (by decide) (fun hc3 => ?_) (fun hc3 => ?_)
    · replace h := jif_f hc3 h
      refine j_sub [] [] rfl ?_
      exact f_X11_isFree_J23_ok σ hn hr _ h hK
    · replace h := jif_t hc3 h
      refine j_iconst (v := 1) dX11_isFree_19 (by decide) ?_
      refine j_goto 24 dX11_isFree_20 (by decide) ?_
      refine j_sub [] [] rfl ?_
      exact f_X11_isFree_J24_ok σ 1 hn hr _ h hK
theorem c_X11_isFree (g : Bool) {σ : jS} {x1 : Int32} {x2 : Int32} {r : Int32} (h : f_X11_isFree σ x1 x2 = some r) : Cn yX11_isFree cX11_isFree 3 (some .boolean) 1 g [.ref 1, .int x1, .int x2] (eM σ) (some (.int r)) (eM σ) :=
  Cn_of (by decide) (Nat.le_refl _) (Nat.le_refl _) (Nat.le_of_ble_eq_true rfl) (f_X11_isFree_ok (Kp := (fun o => o = r)) σ x1 x2 ⟨jbr _, jbr _⟩ (fun r2 q => by cases q; exact ⟨rfl, rfl⟩) _ h rfl)
def f_X11_setBearing (σ : jS) (x1 : Int32) (x2 : Int32) : Option (Unit × jS) :=
  bG (jb x2) (
  bG (jin (((16 : Int32) * (x1 / (100 : Int32))) + (x1 - x1 / (100 : Int32) * (100 : Int32))) 256) (
  bV (sI σ 28 (ix (((16 : Int32) * (x1 / (100 : Int32))) + (x1 - x1 / (100 : Int32) * (100 : Int32)))) x2) fun σ1 =>
  bG (jb x2) (
  bG (jin (((16 : Int32) * (x1 - x1 / (100 : Int32) * (100 : Int32))) + (x1 / (100 : Int32))) 256) (
  bV (sI σ1 28 (ix (((16 : Int32) * (x1 - x1 / (100 : Int32) * (100 : Int32))) + (x1 / (100 : Int32)))) x2) fun σ2 =>
  some (((), σ2))))))
set_option maxHeartbeats 1000000 in
set_option maxRecDepth 20000 in
theorem f_X11_setBearing_ok {g : Bool} {rv : Option Value} {μ' : jM} (σ : jS) (x1 : Int32) (x2 : Int32) {Kp : (Unit × jS) → Prop} (hn : Nat.ble nM μ'.1 = true ∧ Nat.ble wM μ'.2.1 = true) (hr : ∀ (r : Unit) (s : jS), Kp ((r, s)) → rv = none ∧ μ' = eM s) (o : (Unit × jS)) (h : f_X11_setBearing σ x1 x2 = some o) (hK : Kp o) : J yX11_setBearing cX11_setBearing 3 none 1 g rv μ' 0 [(0, .ref 1), (1, .int x1), (2, .int x2)] [] (eM σ) := by
  unfold f_X11_setBearing at h
  refine j_aload_n 0 dX11_setBearing_0 rfl rfl ?_
  refine j_get (ci := 10) 49 (.ref 28) jC_10 dX11_setBearing_1 kg_RX11_98 rfl (okM_1 _) (shM_1 _) (fvM_1_49 _) ?_
  refine j_bipush (v := 16) dX11_setBearing_4 (by decide) ?_
  refine j_iload_n 1 dX11_setBearing_6 rfl rfl ?_
  refine j_bipush (v := 100) dX11_setBearing_7 (by decide) ?_
  refine j_idiv dX11_setBearing_9 (by decide) ?_
  refine j_imul dX11_setBearing_10 ?_
  refine j_iload_n 1 dX11_setBearing_11 rfl rfl ?_
  refine j_bipush (v := 100) dX11_setBearing_12 (by decide) ?_
  refine j_irem dX11_setBearing_14 (by decide) ?_
  refine j_iadd dX11_setBearing_15 ?_
  refine j_iload_n 2 dX11_setBearing_16 rfl rfl ?_
  replace h := bG_inv h
  obtain ⟨hb3, h⟩ := h
  replace h := bG_inv h
  obtain ⟨hi4, h⟩ := h
  refine j_bastore dX11_setBearing_17 (okM_28 _) (shM_28 _) (jin_spec hi4) ?_
  rw [jb_vp hb3]
  replace h := bV_inv h
  obtain ⟨σ5, eσ5, h⟩ := h
  refine j_mem (congrArg eM eσ5) ?_
  refine j_aload_n 0 dX11_setBearing_18 rfl rfl ?_
  refine j_get (ci := 10) 49 (.ref 28) jC_10 dX11_setBearing_19 kg_RX11_98 rfl (okM_1 _) (shM_1 _) (fvM_1_49 _) ?_
  refine j_bipush (v := 16) dX11_setBearing_22 (by decide) ?_
  refine j_iload_n 1 dX11_setBearing_24 rfl rfl ?_
  refine j_bipush (v := 100) dX11_setBearing_25 (by decide) ?_
  refine j_irem dX11_setBearing_27 (by decide) ?_
  refine j_imul dX11_setBearing_28 ?_
  refine j_iload_n 1 dX11_setBearing_29 rfl rfl ?_
  refine j_bipush (v := 100) dX11_setBearing_30 (by decide) ?_
  refine j_idiv dX11_setBearing_32 (by decide) ?_
  refine j_iadd dX11_setBearing_33 ?_
  refine j_iload_n 2 dX11_setBearing_34 rfl rfl ?_
  replace h := bG_inv h
  obtain ⟨hb6, h⟩ := h
  replace h := bG_inv h
  obtain ⟨hi7, h⟩ := h
  refine j_bastore dX11_setBearing_35 (okM_28 _) (shM_28 _) (jin_spec hi7) ?_
  rw [jb_vp hb6]
  replace h := bV_inv h
  obtain ⟨σ8, eσ8, h⟩ := h
  refine j_mem (congrArg eM eσ8) ?_
  replace h := Option.some.inj h
  subst h
  obtain ⟨hr1, hr2⟩ := hr _ _ hK
  exact j_vret dX11_setBearing_36 hr1 hr2
theorem c_X11_setBearing (g : Bool) {σ : jS} {x1 : Int32} {x2 : Int32} {r : Unit} {σ2 : jS} (h : f_X11_setBearing σ x1 x2 = some (r, σ2)) : Cn yX11_setBearing cX11_setBearing 3 none 1 g [.ref 1, .int x1, .int x2] (eM σ) none (eM σ2) :=
  Cn_of (by decide) (Nat.le_refl _) (Nat.le_refl _) (Nat.le_of_ble_eq_true rfl) (f_X11_setBearing_ok (Kp := (fun o => o = (r, σ2))) σ x1 x2 ⟨jbr _, jbr _⟩ (fun r2 s2 q => by cases q; exact ⟨rfl, rfl⟩) _ h rfl)
def f_X11_findFresh_J305 (σ : jS) : Option (Int32 × jS) :=
  some (((-1), σ))
set_option maxHeartbeats 1000000 in
set_option maxRecDepth 20000 in
theorem f_X11_findFresh_J305_ok {g : Bool} {rv : Option Value} {μ' : jM} (σ : jS) {Kp : (Int32 × jS) → Prop} (hn : Nat.ble nM μ'.1 = true ∧ Nat.ble wM μ'.2.1 = true) (hr : ∀ (r : Int32) (s : jS), Kp ((r, s)) → rv = some (.int r) ∧ μ' = eM s) (o : (Int32 × jS)) (h : f_X11_findFresh_J305 σ = some o) (hK : Kp o) : J yX11_findFresh cX11_findFresh 7 (some .int) 4 g rv μ' 305 [] [] (eM σ) := by
  unfold f_X11_findFresh_J305 at h
  refine j_iconst (v := (-1)) dX11_findFresh_305 (by decide) ?_
  replace h := Option.some.inj h
  subst h
  obtain ⟨hr1, hr2⟩ := hr _ _ hK
  exact j_iret dX11_findFresh_306 hr1 hr2
def f_X11_findFresh_J299 (σ : jS) (x1 : Int32) (x2 : Int32) : Option ((Int32 × jS) ⊕ (Int32 × jS)) :=
  bV (x2 + 1) fun v7 =>
  some (.inl (v7, σ))
set_option maxHeartbeats 1000000 in
set_option maxRecDepth 20000 in
theorem f_X11_findFresh_J299_ok {g : Bool} {rv : Option Value} {μ' : jM} (σ : jS) (x1 : Int32) (x2 : Int32) {Kp : ((Int32 × jS) ⊕ (Int32 × jS)) → Prop} (hn : Nat.ble nM μ'.1 = true ∧ Nat.ble wM μ'.2.1 = true) (hr : ∀ (r : Int32) (s : jS), Kp (.inr ((r, s))) → rv = some (.int r) ∧ μ' = eM s) (hc0 : ∀ s : (Int32 × jS), Kp (.inl s) → J yX11_findFresh cX11_findFresh 7 (some .int) 4 g rv μ' 125 [(0, .ref 1), (1, .int x1), (2, .int s.1)] [] (eM s.2)) (o : ((Int32 × jS) ⊕ (Int32 × jS))) (h : f_X11_findFresh_J299 σ x1 x2 = some o) (hK : Kp o) : J yX11_findFresh cX11_findFresh 7 (some .int) 4 g rv μ' 299 [(0, .ref 1), (1, .int x1), (2, .int x2)] [] (eM σ) := by
  unfold f_X11_findFresh_J299 at h
  replace h := bV_inv h
  obtain ⟨v8, ev8, h⟩ := h
  refine j_iinc (v := v8) [(2, .int v8), (0, .ref 1), (1, .int x1)] 2 dX11_findFresh_299 rfl (by rw [ev8]; rfl) (Nat.le_of_ble_eq_true rfl) rfl ?_
  refine j_goto 125 dX11_findFresh_302 (by decide) ?_
  replace h := Option.some.inj h
  subst h
  refine j_sub [(0, .ref 1), (1, .int x1), (2, .int v8)] [1, 2, 0] rfl ?_
  exact hc0 _ hK
def f_X11_findFresh_J293 (σ : jS) (x1 : Int32) (x2 : Int32) (x3 : Int32) : Option ((Int32 × jS) ⊕ (Int32 × jS)) :=
  bD (f_X11_setBearing σ x3 0) fun r12 σ13 =>
  f_X11_findFresh_J299 σ13 x1 x2
set_option maxHeartbeats 1000000 in
set_option maxRecDepth 20000 in
theorem f_X11_findFresh_J293_ok {g : Bool} {rv : Option Value} {μ' : jM} (σ : jS) (x1 : Int32) (x2 : Int32) (x3 : Int32) {Kp : ((Int32 × jS) ⊕ (Int32 × jS)) → Prop} (hn : Nat.ble nM μ'.1 = true ∧ Nat.ble wM μ'.2.1 = true) (hr : ∀ (r : Int32) (s : jS), Kp (.inr ((r, s))) → rv = some (.int r) ∧ μ' = eM s) (hc0 : ∀ s : (Int32 × jS), Kp (.inl s) → J yX11_findFresh cX11_findFresh 7 (some .int) 4 g rv μ' 125 [(0, .ref 1), (1, .int x1), (2, .int s.1)] [] (eM s.2)) (o : ((Int32 × jS) ⊕ (Int32 × jS))) (h : f_X11_findFresh_J293 σ x1 x2 x3 = some o) (hK : Kp o) : J yX11_findFresh cX11_findFresh 7 (some .int) 4 g rv μ' 293 [(0, .ref 1), (1, .int x1), (2, .int x2), (3, .int x3)] [] (eM σ) := by
  unfold f_X11_findFresh_J293 at h
  refine j_aload_n 0 dX11_findFresh_293 rfl rfl ?_
  refine j_iload_n 3 dX11_findFresh_294 rfl rfl ?_
  refine j_iconst (v := 0) dX11_findFresh_295 (by decide) ?_
  replace h := bD_inv h
  obtain ⟨r14, σ15, cr14, h⟩ := h
  refine j_callV (ci := 10) (st1 := _) (c_X11_setBearing g cr14) jy_X11_setBearing ki_yX11_setBearing ks_yX11_setBearing kl_RX11_394 dX11_findFresh_296 rfl (okM_1 _) (shM_1 _) rfl rfl rfl rfl (jbr _) (jbr _) hn.1 hn.2 (Or.inr rfl) rfl ?_
  refine j_sub [(0, .ref 1), (1, .int x1), (2, .int x2)] [0, 1, 2] rfl ?_
  exact f_X11_findFresh_J299_ok σ15 x1 x2 hn hr hc0 _ h hK
def f_X11_findFresh_J287 (σ : jS) (x1 : Int32) (x2 : Int32) (x3 : Int32) (x4 : Int32) : Option ((Int32 × jS) ⊕ ((Int32 × jS) ⊕ (Int32 × jS))) :=
  bV (x4 + 1) fun v18 =>
  some (.inl (v18, σ))
set_option maxHeartbeats 1000000 in
set_option maxRecDepth 20000 in
theorem f_X11_findFresh_J287_ok {g : Bool} {rv : Option Value} {μ' : jM} (σ : jS) (x1 : Int32) (x2 : Int32) (x3 : Int32) (x4 : Int32) {Kp : ((Int32 × jS) ⊕ ((Int32 × jS) ⊕ (Int32 × jS))) → Prop} (hn : Nat.ble nM μ'.1 = true ∧ Nat.ble wM μ'.2.1 = true) (hr : ∀ (r : Int32) (s : jS), Kp (.inr (.inr ((r, s)))) → rv = some (.int r) ∧ μ' = eM s) (hc0 : ∀ s : (Int32 × jS), Kp (.inr (.inl s)) → J yX11_findFresh cX11_findFresh 7 (some .int) 4 g rv μ' 125 [(0, .ref 1), (1, .int x1), (2, .int s.1)] [] (eM s.2)) (hc1 : ∀ s : (Int32 × jS), Kp (.inl s) → J yX11_findFresh cX11_findFresh 7 (some .int) 4 g rv μ' 185 [(0, .ref 1), (1, .int x1), (2, .int x2), (3, .int x3), (4, .int s.1)] [] (eM s.2)) (o : ((Int32 × jS) ⊕ ((Int32 × jS) ⊕ (Int32 × jS)))) (h : f_X11_findFresh_J287 σ x1 x2 x3 x4 = some o) (hK : Kp o) : J yX11_findFresh cX11_findFresh 7 (some .int) 4 g rv μ' 287 [(0, .ref 1), (1, .int x1), (2, .int x2), (3, .int x3), (4, .int x4)] [] (eM σ) := by
  unfold f_X11_findFresh_J287 at h
  replace h := bV_inv h
  obtain ⟨v19, ev19, h⟩ := h
  refine j_iinc (v := v19) [(4, .int v19), (0, .ref 1), (1, .int x1), (2, .int x2), (3, .int x3)] 4 dX11_findFresh_287 rfl (by rw [ev19]; rfl) (Nat.le_of_ble_eq_true rfl) rfl ?_
  refine j_goto 185 dX11_findFresh_290 (by decide) ?_
  replace h := Option.some.inj h
  subst h
  refine j_sub [(0, .ref 1), (1, .int x1), (2, .int x2), (3, .int x3), (4, .int v19)] [1, 2, 3, 4, 0] rfl ?_
  exact hc1 _ hK
def f_X11_findFresh_J274 (σ : jS) (x3 : Int32) (x5 : Int32) : Option (Int32 × jS) :=
  bV (sI σ 1 50 x3) fun σ26 =>
  bV (sI σ26 1 51 x5) fun σ27 =>
  some ((2, σ27))
set_option maxHeartbeats 1000000 in
set_option maxRecDepth 20000 in
theorem f_X11_findFresh_J274_ok {g : Bool} {rv : Option Value} {μ' : jM} (σ : jS) (x3 : Int32) (x5 : Int32) {Kp : (Int32 × jS) → Prop} (hn : Nat.ble nM μ'.1 = true ∧ Nat.ble wM μ'.2.1 = true) (hr : ∀ (r : Int32) (s : jS), Kp ((r, s)) → rv = some (.int r) ∧ μ' = eM s) (o : (Int32 × jS)) (h : f_X11_findFresh_J274 σ x3 x5 = some o) (hK : Kp o) : J yX11_findFresh cX11_findFresh 7 (some .int) 4 g rv μ' 274 [(0, .ref 1), (3, .int x3), (5, .int x5)] [] (eM σ) := by
  unfold f_X11_findFresh_J274 at h
  refine j_aload_n 0 dX11_findFresh_274 rfl rfl ?_
  refine j_iload_n 1 dX11_findFresh_275 rfl rfl ?_
  replace h := bV_inv h
  obtain ⟨σ28, eσ28, h⟩ := h
  refine j_putI 50 jC_10 dX11_findFresh_276 kg_RX11_382 (Or.inl ff_10_50) rfl fk_10_50 (fn_10_50 _) (okM_1 _) (shM_1 _) ?_
  refine j_mem (congrArg eM eσ28) ?_
  refine j_aload_n 0 dX11_findFresh_279 rfl rfl ?_
  refine j_iload 2 dX11_findFresh_280 rfl ?_
  replace h := bV_inv h
  obtain ⟨σ29, eσ29, h⟩ := h
  refine j_putI 51 jC_10 dX11_findFresh_282 kg_RX11_385 (Or.inl ff_10_51) rfl fk_10_51 (fn_10_51 _) (okM_1 _) (shM_1 _) ?_
  refine j_mem (congrArg eM eσ29) ?_
  refine j_iconst (v := 2) dX11_findFresh_285 (by decide) ?_
  replace h := Option.some.inj h
  subst h
  obtain ⟨hr1, hr2⟩ := hr _ _ hK
  exact j_iret dX11_findFresh_286 hr1 hr2
def f_X11_findFresh_J260 (σ : jS) (x1 : Int32) (x2 : Int32) (x3 : Int32) (x4 : Int32) (x5 : Int32) (y0 : Int32) : Option ((Int32 × jS) ⊕ ((Int32 × jS) ⊕ (Int32 × jS))) :=
  bD (f_X11_setBearing σ x5 0) fun r24 σ25 =>
  if y0 = 0 then (f_X11_findFresh_J287 σ25 x1 x2 x3 x4)
  else (jw (jw (f_X11_findFresh_J274 σ25 x3 x5)))
set_option maxHeartbeats 1000000 in
set_option maxRecDepth 20000 in
theorem f_X11_findFresh_J260_ok {g : Bool} {rv : Option Value} {μ' : jM} (σ : jS) (x1 : Int32) (x2 : Int32) (x3 : Int32) (x4 : Int32) (x5 : Int32) (y0 : Int32) {Kp : ((Int32 × jS) ⊕ ((Int32 × jS) ⊕ (Int32 × jS))) → Prop} (hn : Nat.ble nM μ'.1 = true ∧ Nat.ble wM μ'.2.1 = true) (hr : ∀ (r : Int32) (s : jS), Kp (.inr (.inr ((r, s)))) → rv = some (.int r) ∧ μ' = eM s) (hc0 : ∀ s : (Int32 × jS), Kp (.inr (.inl s)) → J yX11_findFresh cX11_findFresh 7 (some .int) 4 g rv μ' 125 [(0, .ref 1), (1, .int x1), (2, .int s.1)] [] (eM s.2)) (hc1 : ∀ s : (Int32 × jS), Kp (.inl s) → J yX11_findFresh cX11_findFresh 7 (some .int) 4 g rv μ' 185 [(0, .ref 1), (1, .int x1), (2, .int x2), (3, .int x3), (4, .int s.1)] [] (eM s.2)) (o : ((Int32 × jS) ⊕ ((Int32 × jS) ⊕ (Int32 × jS)))) (h : f_X11_findFresh_J260 σ x1 x2 x3 x4 x5 y0 = some o) (hK : Kp o) : J yX11_findFresh cX11_findFresh 7 (some .int) 4 g rv μ' 260 [(0, .ref 1), (1, .int x1), (2, .int x2), (3, .int x3), (4, .int x4), (5, .int x5)] [.int y0] (eM σ) := by
  unfold f_X11_findFresh_J260 at h
  refine j_istore [(6, .int y0), (0, .ref 1), (1, .int x1), (2, .int x2), (3, .int x3), (4, .int x4), (5, .int x5)] dX11_findFresh_260 (Nat.le_of_ble_eq_true rfl) rfl ?_
  refine j_aload_n 1 dX11_findFresh_262 rfl rfl ?_
  refine j_iload 6 dX11_findFresh_263 rfl ?_
  refine j_iconst (v := 0) dX11_findFresh_265 (by decide) ?_
  replace h := bD_inv h
  obtain ⟨r30, σ31, cr30, h⟩ := h
  refine j_callV (ci := 10) (st1 := _) (c_X11_setBearing g cr30) jy_X11_setBearing ki_yX11_setBearing ks_yX11_setBearing kl_RX11_394 dX11_findFresh_266 rfl (okM_1 _) (shM_1 _) rfl rfl rfl rfl (jbr _) (jbr _) hn.1 hn.2 (Or.inr rfl) rfl ?_
  refine j_iload 0 dX11_findFresh_269 rfl ?_
  refine j_if_eq 287 dX11_findFresh_271 (by decide) (fun hc32 => ?_) (fun hc32 => ?_)
  · replace h := jif_t hc32 h
    refine j_sub [(0, .ref 1), (1, .int x1), (2, .int x2), (3, .int x3), (4, .int x4)] [1, 2, 3, 4, 5] rfl ?_
    exact f_X11_findFresh_J287_ok σ31 x1 x2 x3 x4 hn hr hc0 hc1 _ h hK
  · replace h := jif_f hc32 h
    replace h := jw_inv h
    obtain ⟨o33, rfl, h⟩ := h
    replace h := jw_inv h
    obtain ⟨o34, rfl, h⟩ := h
    refine j_sub [(0, .ref 1), (3, .int x3), (5, .int x5)] [1, 4, 6] rfl ?_
    exact f_X11_findFresh_J274_ok (Kp := fun o => Kp (.inr (.inr (o)))) σ31 x3 x5 hn (fun r s q => hr r s q) _ h hK
def f_X11_findFresh_B185 (σ : jS) (x1 : Int32) (x2 : Int32) (x3 : Int32) (x4 : Int32) : Option ((Int32 × jS) ⊕ ((Int32 × jS) ⊕ (Int32 × jS))) :=
  if ((gI σ 1 0) * (gI σ 1 0)) ≤ x4 then (jw (f_X11_findFresh_J293 σ x1 x2 x3))
  else (bG ((gI σ 1 0) != 0) (
  bG ((gI σ 1 0) != 0) (
  bV (((100 : Int32) * (x4 / (gI σ 1 0))) + (x4 - x4 / (gI σ 1 0) * (gI σ 1 0))) fun v16 =>
  bG ((gI σ 1 0) != 0) (
  bG ((gI σ 1 0) != 0) (
  bC (f_X11_isFree σ (x4 / (gI σ 1 0)) (x4 - x4 / (gI σ 1 0) * (gI σ 1 0))) fun r17 =>
  if r17 = 0 then (f_X11_findFresh_J287 σ x1 x2 x3 x4)
  else (bD (f_X11_setBearing σ v16 1) fun r20 σ21 =>
  bD (f_X11_isForced σ21 x1) fun r22 σ23 =>
  if r22 = 0 then (f_X11_findFresh_J260 σ23 x1 x2 x3 x4 v16 1)
  else (f_X11_findFresh_J260 σ23 x1 x2 x3 x4 v16 0)))))))
set_option maxHeartbeats 1000000 in
set_option maxRecDepth 20000 in
theorem f_X11_findFresh_B185_ok {g : Bool} {rv : Option Value} {μ' : jM} (σ : jS) (x1 : Int32) (x2 : Int32) (x3 : Int32) (x4 : Int32) {Kp : ((Int32 × jS) ⊕ ((Int32 × jS) ⊕ (Int32 × jS))) → Prop} (hn : Nat.ble nM μ'.1 = true ∧ Nat.ble wM μ'.2.1 = true) (hr : ∀ (r : Int32) (s : jS), Kp (.inr (.inr ((r, s)))) → rv = some (.int r) ∧ μ' = eM s) (hc0 : ∀ s : (Int32 × jS), Kp (.inr (.inl s)) → J yX11_findFresh cX11_findFresh 7 (some .int) 4 g rv μ' 125 [(0, .ref 1), (1, .int x1), (2, .int s.1)] [] (eM s.2)) (hc1 : ∀ s : (Int32 × jS), Kp (.inl s) → J yX11_findFresh cX11_findFresh 7 (some .int) 4 g rv μ' 185 [(0, .ref 1), (1, .int x1), (2, .int x2), (3, .int x3), (4, .int s.1)] [] (eM s.2)) (o : ((Int32 × jS) ⊕ ((Int32 × jS) ⊕ (Int32 × jS)))) (h : f_X11_findFresh_B185 σ x1 x2 x3 x4 = some o) (hK : Kp o) : J yX11_findFresh cX11_findFresh 7 (some .int) 4 g rv μ' 185 [(0, .ref 1), (1, .int x1), (2, .int x2), (3, .int x3), (4, .int x4)] [] (eM σ) := by
  unfold f_X11_findFresh_B185 at h
  refine j_iload 4 dX11_findFresh_185 rfl ?_
  refine j_aload_n 0 dX11_findFresh_187 rfl rfl ?_
  refine j_get (ci := 10) 0 (.int (gI σ 1 0)) jC_10 dX11_findFresh_188 kg_RX11_141 rfl (okM_1 _) (shM_1 _) (fvM_1_0 _) ?_
  refine j_aload_n 0 dX11_findFresh_191 rfl rfl ?_
  refine j_get (ci := 10) 0 (.int (gI σ 1 0)) jC_10 dX11_findFresh_192 kg_RX11_141 rfl (okM_1 _) (shM_1 _) (fvM_1_0 _) ?_
  refine j_imul dX11_findFresh_195 ?_
  refine j_icmp_ge 293 dX11_findFresh_196 (by decide) (fun hc35 => ?_) (fun hc35 => ?_)
  · replace h := jif_t hc35 h
    replace h := jw_inv h
    obtain ⟨o36, rfl, h⟩ := h
    refine j_sub [(0, .ref 1), (1, .int x1), (2, .int x2), (3, .int x3)] [0, 1, 2, 3] rfl ?_
    exact f_X11_findFresh_J293_ok (Kp := fun o => Kp (.inr (o))) σ x1 x2 x3 hn (fun r s q => hr r s q) (fun s q => hc0 s q) _ h hK
  · replace h := jif_f hc35 h
    refine j_bipush (v := 100) dX11_findFresh_199 (by decide) ?_
    refine j_iload 4 dX11_findFresh_201 rfl ?_
    refine j_aload_n 0 dX11_findFresh_203 rfl rfl ?_
    refine j_get (ci := 10) 0 (.int (gI σ 1 0)) jC_10 dX11_findFresh_204 kg_RX11_141 rfl (okM_1 _) (shM_1 _) (fvM_1_0 _) ?_
    replace h := bG_inv h
    obtain ⟨hz37, h⟩ := h
    refine j_idiv dX11_findFresh_207 (bne_zero hz37) ?_
    refine j_imul dX11_findFresh_208 ?_
    refine j_iload 4 dX11_findFresh_209 rfl ?_
    refine j_aload_n 0 dX11_findFresh_211 rfl rfl ?_
    refine j_get (ci := 10) 0 (.int (gI σ 1 0)) jC_10 dX11_findFresh_212 kg_RX11_141 rfl (okM_1 _) (shM_1 _) (fvM_1_0 _) ?_
    replace h := bG_inv h
    obtain ⟨hz38, h⟩ := h
    refine j_irem dX11_findFresh_215 (bne_zero hz38) ?_
    refine j_iadd dX11_findFresh_216 ?_
    replace h := bV_inv h
    obtain ⟨v39, ev39, h⟩ := h
    refine j_nmi ev39 ?_
    refine j_istore [(5, .int v39), (0, .ref 1), (1, .int x1), (2, .int x2), (3, .int x3), (4, .int x4)] dX11_findFresh_217 (Nat.le_of_ble_eq_true rfl) rfl ?_
    refine j_aload_n 1 dX11_findFresh_219 rfl rfl ?_
    refine j_iload 5 dX11_findFresh_220 rfl ?_
    refine j_aload_n 1 dX11_findFresh_222 rfl rfl ?_
    refine j_get (ci := 10) 0 (.int (gI σ 1 0)) jC_10 dX11_findFresh_223 kg_RX11_141 rfl (okM_1 _) (shM_1 _) (fvM_1_0 _) ?_
    replace h := bG_inv h
    obtain ⟨hz40, h⟩ := h
    refine j_idiv dX11_findFresh_226 (bne_zero hz40) ?_
    refine j_iload 5 dX11_findFresh_227 rfl ?_
    refine j_aload_n 1 dX11_findFresh_229 rfl rfl ?_
    refine j_get (ci := 10) 0 (.int (gI σ 1 0)) jC_10 dX11_findFresh_230 kg_RX11_141 rfl (okM_1 _) (shM_1 _) (fvM_1_0 _) ?_
    replace h := bG_inv h
    obtain ⟨hz41, h⟩ := h
    refine j_irem dX11_findFresh_233 (bne_zero hz41) ?_
    replace h := bC_inv h
    obtain ⟨r42, cr42, h⟩ := h
    refine j_callV (ci := 10) (st1 := .int r42 :: _) (c_X11_isFree g cr42) jy_X11_isFree ki_yX11_isFree ks_yX11_isFree kl_RX11_391 dX11_findFresh_234 rfl (okM_1 _) (shM_1 _) rfl rfl rfl rfl (jbr _) (jbr _) hn.1 hn.2 (Or.inr rfl) rfl ?_
    refine j_if_eq 287 dX11_findFresh_237 (by decide) (fun hc43 => ?_) (fun hc43 => ?_)
    · replace h := jif_t hc43 h
      refine j_sub [(0, .ref 1), (1, .int x1), (2, .int x2), (3, .int x3), (4, .int x4)] [1, 2, 3, 4, 5] rfl ?_
      exact f_X11_findFresh_J287_ok σ x1 x2 x3 x4 hn hr hc0 hc1 _ h hK
    · replace h := jif_f hc43 h
      refine j_aload_n 1 dX11_findFresh_240 rfl rfl ?_
      refine j_iload 0 dX11_findFresh_241 rfl ?_
      refine j_iconst (v := 1) dX11_findFresh_243 (by decide) ?_
      replace h := bD_inv h
      obtain ⟨r44, σ45, cr44, h⟩ := h
      refine j_callV (ci := 10) (st1 := _) (c_X11_setBearing g cr44) jy_X11_setBearing ki_yX11_setBearing ks_yX11_setBearing kl_RX11_394 dX11_findFresh_244 rfl (okM_1 _) (shM_1 _) rfl rfl rfl rfl (jbr _) (jbr _) hn.1 hn.2 (Or.inr rfl) rfl ?_
      refine j_aload_n 1 dX11_findFresh_247 rfl rfl ?_
      refine j_iload_n 2 dX11_findFresh_248 rfl rfl ?_
      replace h := bD_inv h
      obtain ⟨r46, σ47, cr46, h⟩ := h
      refine j_callV (ci := 10) (st1 := .int r46 :: _) (c_X11_isForced g cr46) jy_X11_isForced ki_yX11_isForced ks_yX11_isForced kl_RX11_388 dX11_findFresh_249 rfl (okM_1 _) (shM_1 _) rfl rfl rfl rfl (jbr _) (jbr _) hn.1 hn.2 (Or.inr rfl) rfl ?_
      refine j_if_ne 259 dX11_findFresh_252 (by decide) (fun hc48 => ?_) (fun hc48 => ?_)
      · replace h := jif_f hc48 h
        refine j_iconst (v := 0) dX11_findFresh_259 (by decide) ?_
        refine j_sub [(0, .ref 1), (1, .int x1), (2, .int x2), (3, .int x3), (4, .int x4), (5, .int v39)] [1, 2, 3, 4, 5, 0] rfl ?_
        exact f_X11_findFresh_J260_ok σ47 x1 x2 x3 x4 v39 0 hn hr hc0 hc1 _ h hK
      · replace h := jif_t hc48 h
        refine j_iconst (v := 1) dX11_findFresh_255 (by decide) ?_
        refine j_goto 260 dX11_findFresh_256 (by decide) ?_
        refine j_sub [(0, .ref 1), (1, .int x1), (2, .int x2), (3, .int x3), (4, .int x4), (5, .int v39)] [1, 2, 3, 4, 5, 0] rfl ?_
        exact f_X11_findFresh_J260_ok σ47 x1 x2 x3 x4 v39 1 hn hr hc0 hc1 _ h hK
def f_X11_findFresh_B125 (σ : jS) (x1 : Int32) (x2 : Int32) : Option ((Int32 × jS) ⊕ (Int32 × jS)) :=
  if ((gI σ 1 0) * (gI σ 1 0)) ≤ x2 then (jw (f_X11_findFresh_J305 σ))
  else (bG ((gI σ 1 0) != 0) (
  bG ((gI σ 1 0) != 0) (
  bV (((100 : Int32) * (x2 / (gI σ 1 0))) + (x2 - x2 / (gI σ 1 0) * (gI σ 1 0))) fun v5 =>
  bG ((gI σ 1 0) != 0) (
  bG ((gI σ 1 0) != 0) (
  bC (f_X11_isFree σ (x2 / (gI σ 1 0)) (x2 - x2 / (gI σ 1 0) * (gI σ 1 0))) fun r6 =>
  if r6 = 0 then (f_X11_findFresh_J299 σ x1 x2)
  else (bD (f_X11_setBearing σ v5 1) fun r9 σ10 =>
  bV (x2 + (1 : Int32)) fun v11 =>
  jloop jFuel (fun s => f_X11_findFresh_B185 s.2 x1 x2 v5 s.1) (v11, σ10)))))))
set_option maxHeartbeats 1000000 in
set_option maxRecDepth 20000 in
theorem f_X11_findFresh_B125_ok {g : Bool} {rv : Option Value} {μ' : jM} (σ : jS) (x1 : Int32) (x2 : Int32) {Kp : ((Int32 × jS) ⊕ (Int32 × jS)) → Prop} (hn : Nat.ble nM μ'.1 = true ∧ Nat.ble wM μ'.2.1 = true) (hr : ∀ (r : Int32) (s : jS), Kp (.inr ((r, s))) → rv = some (.int r) ∧ μ' = eM s) (hc0 : ∀ s : (Int32 × jS), Kp (.inl s) → J yX11_findFresh cX11_findFresh 7 (some .int) 4 g rv μ' 125 [(0, .ref 1), (1, .int x1), (2, .int s.1)] [] (eM s.2)) (o : ((Int32 × jS) ⊕ (Int32 × jS))) (h : f_X11_findFresh_B125 σ x1 x2 = some o) (hK : Kp o) : J yX11_findFresh cX11_findFresh 7 (some .int) 4 g rv μ' 125 [(0, .ref 1), (1, .int x1), (2, .int x2)] [] (eM σ) := by
  unfold f_X11_findFresh_B125 at h
  refine j_iload_n 2 dX11_findFresh_125 rfl rfl ?_
  refine j_aload_n 0 dX11_findFresh_126 rfl rfl ?_
  refine j_get (ci := 10) 0 (.int (gI σ 1 0)) jC_10 dX11_findFresh_127 kg_RX11_141 rfl (okM_1 _) (shM_1 _) (fvM_1_0 _) ?_
  refine j_aload_n 0 dX11_findFresh_130 rfl rfl ?_
  refine j_get (ci := 10) 0 (.int (gI σ 1 0)) jC_10 dX11_findFresh_131 kg_RX11_141 rfl (okM_1 _) (shM_1 _) (fvM_1_0 _) ?_
  refine j_imul dX11_findFresh_134 ?_
  refine j_icmp_ge 305 dX11_findFresh_135 (by decide) (fun hc49 => ?_) (fun hc49 => ?_)
  · replace h := jif_t hc49 h
    replace h := jw_inv h
    obtain ⟨o50, rfl, h⟩ := h
    refine j_sub [] [] rfl ?_
    exact f_X11_findFresh_J305_ok (Kp := fun o => Kp (.inr (o))) σ hn (fun r s q => hr r s q) _ h hK
  · replace h := jif_f hc49 h
    refine j_bipush (v := 100) dX11_findFresh_138 (by decide) ?_
    refine j_iload_n 2 dX11_findFresh_140 rfl rfl ?_
    refine j_aload_n 0 dX11_findFresh_141 rfl rfl ?_
    refine j_get (ci := 10) 0 (.int (gI σ 1 0)) jC_10 dX11_findFresh_142 kg_RX11_141 rfl (okM_1 _) (shM_1 _) (fvM_1_0 _) ?_
    replace h := bG_inv h
    obtain ⟨hz51, h⟩ := h
    refine j_idiv dX11_findFresh_145 (bne_zero hz51) ?_
    refine j_imul dX11_findFresh_146 ?_
    refine j_iload_n 2 dX11_findFresh_147 rfl rfl ?_
    refine j_aload_n 0 dX11_findFresh_148 rfl rfl ?_
    refine j_get (ci := 10) 0 (.int (gI σ 1 0)) jC_10 dX11_findFresh_149 kg_RX11_141 rfl (okM_1 _) (shM_1 _) (fvM_1_0 _) ?_
    replace h := bG_inv h
    obtain ⟨hz52, h⟩ := h
    refine j_irem dX11_findFresh_152 (bne_zero hz52) ?_
    refine j_iadd dX11_findFresh_153 ?_
    replace h := bV_inv h
    obtain ⟨v53, ev53, h⟩ := h
    refine j_nmi ev53 ?_
    refine j_istore_n [(3, .int v53), (0, .ref 1), (1, .int x1), (2, .int x2)] dX11_findFresh_154 rfl (Nat.le_of_ble_eq_true rfl) rfl ?_
    refine j_aload_n 1 dX11_findFresh_155 rfl rfl ?_
    refine j_iload_n 3 dX11_findFresh_156 rfl rfl ?_
    refine j_aload_n 1 dX11_findFresh_157 rfl rfl ?_
    refine j_get (ci := 10) 0 (.int (gI σ 1 0)) jC_10 dX11_findFresh_158 kg_RX11_141 rfl (okM_1 _) (shM_1 _) (fvM_1_0 _) ?_
    replace h := bG_inv h
    obtain ⟨hz54, h⟩ := h
    refine j_idiv dX11_findFresh_161 (bne_zero hz54) ?_
    refine j_iload_n 3 dX11_findFresh_162 rfl rfl ?_
    refine j_aload_n 1 dX11_findFresh_163 rfl rfl ?_
    refine j_get (ci := 10) 0 (.int (gI σ 1 0)) jC_10 dX11_findFresh_164 kg_RX11_141 rfl (okM_1 _) (shM_1 _) (fvM_1_0 _) ?_
    replace h := bG_inv h
    obtain ⟨hz55, h⟩ := h
    refine j_irem dX11_findFresh_167 (bne_zero hz55) ?_
    replace h := bC_inv h
    obtain ⟨r56, cr56, h⟩ := h
    refine j_callV (ci := 10) (st1 := .int r56 :: _) (c_X11_isFree g cr56) jy_X11_isFree ki_yX11_isFree ks_yX11_isFree kl_RX11_391 dX11_findFresh_168 rfl (okM_1 _) (shM_1 _) rfl rfl rfl rfl (jbr _) (jbr _) hn.1 hn.2 (Or.inr rfl) rfl ?_
    refine j_if_eq 299 dX11_findFresh_171 (by decide) (fun hc57 => ?_) (fun hc57 => ?_)
    · replace h := jif_t hc57 h
      refine j_sub [(0, .ref 1), (1, .int x1), (2, .int x2)] [1, 2, 3] rfl ?_
      exact f_X11_findFresh_J299_ok σ x1 x2 hn hr hc0 _ h hK
    · replace h := jif_f hc57 h
      refine j_aload_n 1 dX11_findFresh_174 rfl rfl ?_
      refine j_iload_n 0 dX11_findFresh_175 rfl rfl ?_
      refine j_iconst (v := 1) dX11_findFresh_176 (by decide) ?_
      replace h := bD_inv h
      obtain ⟨r58, σ59, cr58, h⟩ := h
      refine j_callV (ci := 10) (st1 := _) (c_X11_setBearing g cr58) jy_X11_setBearing ki_yX11_setBearing ks_yX11_setBearing kl_RX11_394 dX11_findFresh_177 rfl (okM_1 _) (shM_1 _) rfl rfl rfl rfl (jbr _) (jbr _) hn.1 hn.2 (Or.inr rfl) rfl ?_
      refine j_iload_n 3 dX11_findFresh_180 rfl rfl ?_
      refine j_iconst (v := 1) dX11_findFresh_181 (by decide) ?_
      refine j_iadd dX11_findFresh_182 ?_
      replace h := bV_inv h
      obtain ⟨v60, ev60, h⟩ := h
      refine j_nmi ev60 ?_
      refine j_istore [(4, .int v60), (3, .int v53), (0, .ref 1), (1, .int x1), (2, .int x2)] dX11_findFresh_183 (Nat.le_of_ble_eq_true rfl) rfl ?_
      refine j_sub [(0, .ref 1), (1, .int x1), (2, .int x2), (3, .int v53), (4, .int v60)] [2, 3, 4, 1, 0] rfl ?_
      exact jloop_ok (fun s => f_X11_findFresh_B185 s.2 x1 x2 v53 s.1) (fun s => J yX11_findFresh cX11_findFresh 7 (some .int) 4 g rv μ' 185 [(0, .ref 1), (1, .int x1), (2, .int x2), (3, .int v53), (4, .int s.1)] [] (eM s.2)) Kp (fun s o hb hk => f_X11_findFresh_B185_ok (Kp := jsum (fun s => J yX11_findFresh cX11_findFresh 7 (some .int) 4 g rv μ' 185 [(0, .ref 1), (1, .int x1), (2, .int x2), (3, .int v53), (4, .int s.1)] [] (eM s.2)) Kp) s.2 x1 x2 v53 s.1 hn (fun r s q => hr r s q) (fun s q => hc0 s q) (fun s q => q) o hb hk) jFuel _ _ h hK
def f_X11_findFresh_J123 (σ : jS) (x1 : Int32) : Option (Int32 × jS) :=
  jloop jFuel (fun s => f_X11_findFresh_B125 s.2 x1 s.1) (0, σ)
set_option maxHeartbeats 1000000 in
set_option maxRecDepth 20000 in
theorem f_X11_findFresh_J123_ok {g : Bool} {rv : Option Value} {μ' : jM} (σ : jS) (x1 : Int32) {Kp : (Int32 × jS) → Prop} (hn : Nat.ble nM μ'.1 = true ∧ Nat.ble wM μ'.2.1 = true) (hr : ∀ (r : Int32) (s : jS), Kp ((r, s)) → rv = some (.int r) ∧ μ' = eM s) (o : (Int32 × jS)) (h : f_X11_findFresh_J123 σ x1 = some o) (hK : Kp o) : J yX11_findFresh cX11_findFresh 7 (some .int) 4 g rv μ' 123 [(0, .ref 1), (1, .int x1)] [] (eM σ) := by
  unfold f_X11_findFresh_J123 at h
  refine j_iconst (v := 0) dX11_findFresh_123 (by decide) ?_
  refine j_istore_n [(2, .int 0), (0, .ref 1), (1, .int x1)] dX11_findFresh_124 rfl (Nat.le_of_ble_eq_true rfl) rfl ?_
  refine j_sub [(0, .ref 1), (1, .int x1), (2, .int 0)] [1, 2, 0] rfl ?_
  exact jloop_ok (fun s => f_X11_findFresh_B125 s.2 x1 s.1) (fun s => J yX11_findFresh cX11_findFresh 7 (some .int) 4 g rv μ' 125 [(0, .ref 1), (1, .int x1), (2, .int s.1)] [] (eM s.2)) Kp (fun s o hb hk => f_X11_findFresh_B125_ok (Kp := jsum (fun s => J yX11_findFresh cX11_findFresh 7 (some .int) 4 g rv μ' 125 [(0, .ref 1), (1, .int x1), (2, .int s.1)] [] (eM s.2)) Kp) s.2 x1 s.1 hn (fun r s q => hr r s q) (fun s q => q) o hb hk) jFuel _ _ h hK
def f_X11_findFresh_J117 (σ : jS) (x1 : Int32) (x2 : Int32) : Option ((Int32 × jS) ⊕ (Int32 × jS)) :=
  bV (x2 + 1) fun v64 =>
  some (.inl (v64, σ))
set_option maxHeartbeats 1000000 in
set_option maxRecDepth 20000 in
theorem f_X11_findFresh_J117_ok {g : Bool} {rv : Option Value} {μ' : jM} (σ : jS) (x1 : Int32) (x2 : Int32) {Kp : ((Int32 × jS) ⊕ (Int32 × jS)) → Prop} (hn : Nat.ble nM μ'.1 = true ∧ Nat.ble wM μ'.2.1 = true) (hr : ∀ (r : Int32) (s : jS), Kp (.inr ((r, s))) → rv = some (.int r) ∧ μ' = eM s) (hc0 : ∀ s : (Int32 × jS), Kp (.inl s) → J yX11_findFresh cX11_findFresh 7 (some .int) 4 g rv μ' 22 [(0, .ref 1), (1, .int x1), (2, .int s.1)] [] (eM s.2)) (o : ((Int32 × jS) ⊕ (Int32 × jS))) (h : f_X11_findFresh_J117 σ x1 x2 = some o) (hK : Kp o) : J yX11_findFresh cX11_findFresh 7 (some .int) 4 g rv μ' 117 [(0, .ref 1), (1, .int x1), (2, .int x2)] [] (eM σ) := by
  unfold f_X11_findFresh_J117 at h
  replace h := bV_inv h
  obtain ⟨v65, ev65, h⟩ := h
  refine j_iinc (v := v65) [(2, .int v65), (0, .ref 1), (1, .int x1)] 2 dX11_findFresh_117 rfl (by rw [ev65]; rfl) (Nat.le_of_ble_eq_true rfl) rfl ?_
  refine j_goto 22 dX11_findFresh_120 (by decide) ?_
  replace h := Option.some.inj h
  subst h
  refine j_sub [(0, .ref 1), (1, .int x1), (2, .int v65)] [1, 2, 0] rfl ?_
  exact hc0 _ hK
def f_X11_findFresh_J104 (σ : jS) (x3 : Int32) (x4 : Int32) : Option (Int32 × jS) :=
  bV (sI σ 1 50 (((100 : Int32) * x3) + x4)) fun σ72 =>
  some ((1, σ72))
set_option maxHeartbeats 1000000 in
set_option maxRecDepth 20000 in
theorem f_X11_findFresh_J104_ok {g : Bool} {rv : Option Value} {μ' : jM} (σ : jS) (x3 : Int32) (x4 : Int32) {Kp : (Int32 × jS) → Prop} (hn : Nat.ble nM μ'.1 = true ∧ Nat.ble wM μ'.2.1 = true) (hr : ∀ (r : Int32) (s : jS), Kp ((r, s)) → rv = some (.int r) ∧ μ' = eM s) (o : (Int32 × jS)) (h : f_X11_findFresh_J104 σ x3 x4 = some o) (hK : Kp o) : J yX11_findFresh cX11_findFresh 7 (some .int) 4 g rv μ' 104 [(0, .ref 1), (3, .int x3), (4, .int x4)] [] (eM σ) := by
  unfold f_X11_findFresh_J104 at h
  refine j_aload_n 0 dX11_findFresh_104 rfl rfl ?_
  refine j_bipush (v := 100) dX11_findFresh_105 (by decide) ?_
  refine j_iload_n 1 dX11_findFresh_107 rfl rfl ?_
  refine j_imul dX11_findFresh_108 ?_
  refine j_iload 2 dX11_findFresh_109 rfl ?_
  refine j_iadd dX11_findFresh_111 ?_
  replace h := bV_inv h
  obtain ⟨σ73, eσ73, h⟩ := h
  refine j_putI 50 jC_10 dX11_findFresh_112 kg_RX11_382 (Or.inl ff_10_50) rfl fk_10_50 (fn_10_50 _) (okM_1 _) (shM_1 _) ?_
  refine j_mem (congrArg eM eσ73) ?_
  refine j_iconst (v := 1) dX11_findFresh_115 (by decide) ?_
  replace h := Option.some.inj h
  subst h
  obtain ⟨hr1, hr2⟩ := hr _ _ hK
  exact j_iret dX11_findFresh_116 hr1 hr2
def f_X11_findFresh_J85 (σ : jS) (x1 : Int32) (x2 : Int32) (x3 : Int32) (x4 : Int32) (y0 : Int32) : Option ((Int32 × jS) ⊕ (Int32 × jS)) :=
  bD (f_X11_setBearing σ (((100 : Int32) * x3) + x4) 0) fun r70 σ71 =>
  if y0 = 0 then (f_X11_findFresh_J117 σ71 x1 x2)
  else (jw (f_X11_findFresh_J104 σ71 x3 x4))
set_option maxHeartbeats 1000000 in
set_option maxRecDepth 20000 in
theorem f_X11_findFresh_J85_ok {g : Bool} {rv : Option Value} {μ' : jM} (σ : jS) (x1 : Int32) (x2 : Int32) (x3 : Int32) (x4 : Int32) (y0 : Int32) {Kp : ((Int32 × jS) ⊕ (Int32 × jS)) → Prop} (hn : Nat.ble nM μ'.1 = true ∧ Nat.ble wM μ'.2.1 = true) (hr : ∀ (r : Int32) (s : jS), Kp (.inr ((r, s))) → rv = some (.int r) ∧ μ' = eM s) (hc0 : ∀ s : (Int32 × jS), Kp (.inl s) → J yX11_findFresh cX11_findFresh 7 (some .int) 4 g rv μ' 22 [(0, .ref 1), (1, .int x1), (2, .int s.1)] [] (eM s.2)) (o : ((Int32 × jS) ⊕ (Int32 × jS))) (h : f_X11_findFresh_J85 σ x1 x2 x3 x4 y0 = some o) (hK : Kp o) : J yX11_findFresh cX11_findFresh 7 (some .int) 4 g rv μ' 85 [(0, .ref 1), (1, .int x1), (2, .int x2), (3, .int x3), (4, .int x4)] [.int y0] (eM σ) := by
  unfold f_X11_findFresh_J85 at h
  refine j_istore [(5, .int y0), (0, .ref 1), (1, .int x1), (2, .int x2), (3, .int x3), (4, .int x4)] dX11_findFresh_85 (Nat.le_of_ble_eq_true rfl) rfl ?_
  refine j_aload_n 1 dX11_findFresh_87 rfl rfl ?_
  refine j_bipush (v := 100) dX11_findFresh_88 (by decide) ?_
  refine j_iload_n 4 dX11_findFresh_90 rfl rfl ?_
  refine j_imul dX11_findFresh_91 ?_
  refine j_iload 5 dX11_findFresh_92 rfl ?_
  refine j_iadd dX11_findFresh_94 ?_
  refine j_iconst (v := 0) dX11_findFresh_95 (by decide) ?_
  replace h := bD_inv h
  obtain ⟨r74, σ75, cr74, h⟩ := h
  refine j_callV (ci := 10) (st1 := _) (c_X11_setBearing g cr74) jy_X11_setBearing ki_yX11_setBearing ks_yX11_setBearing kl_RX11_394 dX11_findFresh_96 rfl (okM_1 _) (shM_1 _) rfl rfl rfl rfl (jbr _) (jbr _) hn.1 hn.2 (Or.inr rfl) rfl ?_
  refine j_iload 0 dX11_findFresh_99 rfl ?_
  refine j_if_eq 117 dX11_findFresh_101 (by decide) (fun hc76 => ?_) (fun hc76 => ?_)
  · replace h := jif_t hc76 h
    refine j_sub [(0, .ref 1), (1, .int x1), (2, .int x2)] [1, 2, 3] rfl ?_
    exact f_X11_findFresh_J117_ok σ75 x1 x2 hn hr hc0 _ h hK
  · replace h := jif_f hc76 h
    replace h := jw_inv h
    obtain ⟨o77, rfl, h⟩ := h
    refine j_sub [(0, .ref 1), (3, .int x3), (4, .int x4)] [1, 4, 5] rfl ?_
    exact f_X11_findFresh_J104_ok (Kp := fun o => Kp (.inr (o))) σ75 x3 x4 hn (fun r s q => hr r s q) _ h hK
def f_X11_findFresh_B22 (σ : jS) (x1 : Int32) (x2 : Int32) : Option ((Int32 × jS) ⊕ (Int32 × jS)) :=
  if ((gI σ 1 0) * (gI σ 1 0)) ≤ x2 then (jw (f_X11_findFresh_J123 σ x1))
  else (bG ((gI σ 1 0) != 0) (
  bV (x2 / (gI σ 1 0)) fun v61 =>
  bG ((gI σ 1 0) != 0) (
  bV (x2 - x2 / (gI σ 1 0) * (gI σ 1 0)) fun v62 =>
  bC (f_X11_isFree σ v61 v62) fun r63 =>
  if r63 = 0 then (f_X11_findFresh_J117 σ x1 x2)
  else (bD (f_X11_setBearing σ (((100 : Int32) * v61) + v62) 1) fun r66 σ67 =>
  bD (f_X11_isForced σ67 x1) fun r68 σ69 =>
  if r68 = 0 then (f_X11_findFresh_J85 σ69 x1 x2 v61 v62 1)
  else (f_X11_findFresh_J85 σ69 x1 x2 v61 v62 0)))))
set_option maxHeartbeats 1000000 in
set_option maxRecDepth 20000 in
theorem f_X11_findFresh_B22_ok {g : Bool} {rv : Option Value} {μ' : jM} (σ : jS) (x1 : Int32) (x2 : Int32) {Kp : ((Int32 × jS) ⊕ (Int32 × jS)) → Prop} (hn : Nat.ble nM μ'.1 = true ∧ Nat.ble wM μ'.2.1 = true) (hr : ∀ (r : Int32) (s : jS), Kp (.inr ((r, s))) → rv = some (.int r) ∧ μ' = eM s) (hc0 : ∀ s : (Int32 × jS), Kp (.inl s) → J yX11_findFresh cX11_findFresh 7 (some .int) 4 g rv μ' 22 [(0, .ref 1), (1, .int x1), (2, .int s.1)] [] (eM s.2)) (o : ((Int32 × jS) ⊕ (Int32 × jS))) (h : f_X11_findFresh_B22 σ x1 x2 = some o) (hK : Kp o) : J yX11_findFresh cX11_findFresh 7 (some .int) 4 g rv μ' 22 [(0, .ref 1), (1, .int x1), (2, .int x2)] [] (eM σ) := by
  unfold f_X11_findFresh_B22 at h
  refine j_iload_n 2 dX11_findFresh_22 rfl rfl ?_
  refine j_aload_n 0 dX11_findFresh_23 rfl rfl ?_
  refine j_get (ci := 10) 0 (.int (gI σ 1 0)) jC_10 dX11_findFresh_24 kg_RX11_141 rfl (okM_1 _) (shM_1 _) (fvM_1_0 _) ?_
  refine j_aload_n 0 dX11_findFresh_27 rfl rfl ?_
  refine j_get (ci := 10) 0 (.int (gI σ 1 0)) jC_10 dX11_findFresh_28 kg_RX11_141 rfl (okM_1 _) (shM_1 _) (fvM_1_0 _) ?_
  refine j_imul dX11_findFresh_31 ?_
  refine j_icmp_ge 123 dX11_findFresh_32 (by decide) (fun hc78 => ?_) (fun hc78 => ?_)
  · replace h := jif_t hc78 h
    replace h := jw_inv h
    obtain ⟨o79, rfl, h⟩ := h
    refine j_sub [(0, .ref 1), (1, .int x1)] [0, 1] rfl ?_
    exact f_X11_findFresh_J123_ok (Kp := fun o => Kp (.inr (o))) σ x1 hn (fun r s q => hr r s q) _ h hK
  · replace h := jif_f hc78 h
    refine j_iload_n 2 dX11_findFresh_35 rfl rfl ?_
    refine j_aload_n 0 dX11_findFresh_36 rfl rfl ?_
    refine j_get (ci := 10) 0 (.int (gI σ 1 0)) jC_10 dX11_findFresh_37 kg_RX11_141 rfl (okM_1 _) (shM_1 _) (fvM_1_0 _) ?_
    replace h := bG_inv h
    obtain ⟨hz80, h⟩ := h
    refine j_idiv dX11_findFresh_40 (bne_zero hz80) ?_
    replace h := bV_inv h
    obtain ⟨v81, ev81, h⟩ := h
    refine j_nmi ev81 ?_
    refine j_istore_n [(3, .int v81), (0, .ref 1), (1, .int x1), (2, .int x2)] dX11_findFresh_41 rfl (Nat.le_of_ble_eq_true rfl) rfl ?_
    refine j_iload_n 3 dX11_findFresh_42 rfl rfl ?_
    refine j_aload_n 1 dX11_findFresh_43 rfl rfl ?_
    refine j_get (ci := 10) 0 (.int (gI σ 1 0)) jC_10 dX11_findFresh_44 kg_RX11_141 rfl (okM_1 _) (shM_1 _) (fvM_1_0 _) ?_
    replace h := bG_inv h
    obtain ⟨hz82, h⟩ := h
    refine j_irem dX11_findFresh_47 (bne_zero hz82) ?_
    replace h := bV_inv h
    obtain ⟨v83, ev83, h⟩ := h
    refine j_nmi ev83 ?_
    refine j_istore [(4, .int v83), (3, .int v81), (0, .ref 1), (1, .int x1), (2, .int x2)] dX11_findFresh_48 (Nat.le_of_ble_eq_true rfl) rfl ?_
    refine j_aload_n 2 dX11_findFresh_50 rfl rfl ?_
    refine j_iload_n 1 dX11_findFresh_51 rfl rfl ?_
    refine j_iload 0 dX11_findFresh_52 rfl ?_
    replace h := bC_inv h
    obtain ⟨r84, cr84, h⟩ := h
    refine j_callV (ci := 10) (st1 := .int r84 :: _) (c_X11_isFree g cr84) jy_X11_isFree ki_yX11_isFree ks_yX11_isFree kl_RX11_391 dX11_findFresh_54 rfl (okM_1 _) (shM_1 _) rfl rfl rfl rfl (jbr _) (jbr _) hn.1 hn.2 (Or.inr rfl) rfl ?_
    refine j_if_eq 117 dX11_findFresh_57 (by decide) (fun hc85 => ?_) (fun hc85 => ?_)
    · replace h := jif_t hc85 h
      refine j_sub [(0, .ref 1), (1, .int x1), (2, .int x2)] [2, 3, 4] rfl ?_
      exact f_X11_findFresh_J117_ok σ x1 x2 hn hr hc0 _ h hK
    · replace h := jif_f hc85 h
      refine j_aload_n 2 dX11_findFresh_60 rfl rfl ?_
      refine j_bipush (v := 100) dX11_findFresh_61 (by decide) ?_
      refine j_iload_n 1 dX11_findFresh_63 rfl rfl ?_
      refine j_imul dX11_findFresh_64 ?_
      refine j_iload 0 dX11_findFresh_65 rfl ?_
      refine j_iadd dX11_findFresh_67 ?_
      refine j_iconst (v := 1) dX11_findFresh_68 (by decide) ?_
      replace h := bD_inv h
      obtain ⟨r86, σ87, cr86, h⟩ := h
      refine j_callV (ci := 10) (st1 := _) (c_X11_setBearing g cr86) jy_X11_setBearing ki_yX11_setBearing ks_yX11_setBearing kl_RX11_394 dX11_findFresh_69 rfl (okM_1 _) (shM_1 _) rfl rfl rfl rfl (jbr _) (jbr _) hn.1 hn.2 (Or.inr rfl) rfl ?_
      refine j_aload_n 2 dX11_findFresh_72 rfl rfl ?_
      refine j_iload_n 3 dX11_findFresh_73 rfl rfl ?_
      replace h := bD_inv h
      obtain ⟨r88, σ89, cr88, h⟩ := h
      refine j_callV (ci := 10) (st1 := .int r88 :: _) (c_X11_isForced g cr88) jy_X11_isForced ki_yX11_isForced ks_yX11_isForced kl_RX11_388 dX11_findFresh_74 rfl (okM_1 _) (shM_1 _) rfl rfl rfl rfl (jbr _) (jbr _) hn.1 hn.2 (Or.inr rfl) rfl ?_
      refine j_if_ne 84 dX11_findFresh_77 (by decide) (fun hc90 => ?_) (fun hc90 => ?_)
      · replace h := jif_f hc90 h
        refine j_iconst (v := 0) dX11_findFresh_84 (by decide) ?_
        refine j_sub [(0, .ref 1), (1, .int x1), (2, .int x2), (3, .int v81), (4, .int v83)] [2, 3, 4, 1, 0] rfl ?_
        exact f_X11_findFresh_J85_ok σ89 x1 x2 v81 v83 0 hn hr hc0 _ h hK
      · replace h := jif_t hc90 h
        refine j_iconst (v := 1) dX11_findFresh_80 (by decide) ?_
        refine j_goto 85 dX11_findFresh_81 (by decide) ?_
        refine j_sub [(0, .ref 1), (1, .int x1), (2, .int x2), (3, .int v81), (4, .int v83)] [2, 3, 4, 1, 0] rfl ?_
        exact f_X11_findFresh_J85_ok σ89 x1 x2 v81 v83 1 hn hr hc0 _ h hK
def f_X11_findFresh (σ : jS) (x1 : Int32) : Option (Int32 × jS) :=
  bV (sI σ 1 50 (-1)) fun σ1 =>
  bV (sI σ1 1 51 (-1)) fun σ2 =>
  bD (f_X11_isForced σ2 x1) fun r3 σ4 =>
  if r3 = 0 then (some ((0, σ4)))
  else (jloop jFuel (fun s => f_X11_findFresh_B22 s.2 x1 s.1) (0, σ4))
set_option maxHeartbeats 1000000 in
set_option maxRecDepth 20000 in
theorem f_X11_findFresh_ok {g : Bool} {rv : Option Value} {μ' : jM} (σ : jS) (x1 : Int32) {Kp : (Int32 × jS) → Prop} (hn : Nat.ble nM μ'.1 = true ∧ Nat.ble wM μ'.2.1 = true) (hr : ∀ (r : Int32) (s : jS), Kp ((r, s)) → rv = some (.int r) ∧ μ' = eM s) (o : (Int32 × jS)) (h : f_X11_findFresh σ x1 = some o) (hK : Kp o) : J yX11_findFresh cX11_findFresh 7 (some .int) 4 g rv μ' 0 [(0, .ref 1), (1, .int x1)] [] (eM σ) := by
  unfold f_X11_findFresh at h
  refine j_aload_n 0 dX11_findFresh_0 rfl rfl ?_
  refine j_iconst (v := (-1)) dX11_findFresh_1 (by decide) ?_
  replace h := bV_inv h
  obtain ⟨σ91, eσ91, h⟩ := h
  refine j_putI 50 jC_10 dX11_findFresh_2 kg_RX11_382 (Or.inl ff_10_50) rfl fk_10_50 (fn_10_50 _) (okM_1 _) (shM_1 _) ?_
  refine j_mem (congrArg eM eσ91) ?_
  refine j_aload_n 0 dX11_findFresh_5 rfl rfl ?_
  refine j_iconst (v := (-1)) dX11_findFresh_6 (by decide) ?_
  replace h := bV_inv h
  obtain ⟨σ92, eσ92, h⟩ := h
  refine j_putI 51 jC_10 dX11_findFresh_7 kg_RX11_385 (Or.inl ff_10_51) rfl fk_10_51 (fn_10_51 _) (okM_1 _) (shM_1 _) ?_
  refine j_mem (congrArg eM eσ92) ?_
  refine j_aload_n 0 dX11_findFresh_10 rfl rfl ?_
  refine j_iload_n 1 dX11_findFresh_11 rfl rfl ?_
  replace h := bD_inv h
  obtain ⟨r93, σ94, cr93, h⟩ := h
  refine j_callV (ci := 10) (st1 := .int r93 :: _) (c_X11_isForced g cr93) jy_X11_isForced ki_yX11_isForced ks_yX11_isForced kl_RX11_388 dX11_findFresh_12 rfl (okM_1 _) (shM_1 _) rfl rfl rfl rfl (jbr _) (jbr _) hn.1 hn.2 (Or.inr rfl) rfl ?_
  refine j_if_ne 20 dX11_findFresh_15 (by decide) (fun hc95 => ?_) (fun hc95 => ?_)
  · replace h := jif_f hc95 h
    refine j_iconst (v := 0) dX11_findFresh_20 (by decide) ?_
    refine j_istore_n [(2, .int 0), (0, .ref 1), (1, .int x1)] dX11_findFresh_21 rfl (Nat.le_of_ble_eq_true rfl) rfl ?_
    refine j_sub [(0, .ref 1), (1, .int x1), (2, .int 0)] [1, 2, 0] rfl ?_
    exact jloop_ok (fun s => f_X11_findFresh_B22 s.2 x1 s.1) (fun s => J yX11_findFresh cX11_findFresh 7 (some .int) 4 g rv μ' 22 [(0, .ref 1), (1, .int x1), (2, .int s.1)] [] (eM s.2)) Kp (fun s o hb hk => f_X11_findFresh_B22_ok (Kp := jsum (fun s => J yX11_findFresh cX11_findFresh 7 (some .int) 4 g rv μ' 22 [(0, .ref 1), (1, .int x1), (2, .int s.1)] [] (eM s.2)) Kp) s.2 x1 s.1 hn (fun r s q => hr r s q) (fun s q => q) o hb hk) jFuel _ _ h hK
  · replace h := jif_t hc95 h
    refine j_iconst (v := 0) dX11_findFresh_18 (by decide) ?_
    replace h := Option.some.inj h
    subst h
    obtain ⟨hr1, hr2⟩ := hr _ _ hK
    exact j_iret dX11_findFresh_19 hr1 hr2
theorem c_X11_findFresh (g : Bool) {σ : jS} {x1 : Int32} {r : Int32} {σ2 : jS} (h : f_X11_findFresh σ x1 = some (r, σ2)) : Cn yX11_findFresh cX11_findFresh 7 (some .int) 4 g [.ref 1, .int x1] (eM σ) (some (.int r)) (eM σ2) :=
  Cn_of (by decide) (Nat.le_refl _) (Nat.le_refl _) (Nat.le_of_ble_eq_true rfl) (f_X11_findFresh_ok (Kp := (fun o => o = (r, σ2))) σ x1 ⟨jbr _, jbr _⟩ (fun r2 s2 q => by cases q; exact ⟨rfl, rfl⟩) _ h rfl)
def f_X11_fresh_J31 (σ : jS) : Option (Int32 × jS) :=
  some (((-1002), σ))
set_option maxHeartbeats 1000000 in
set_option maxRecDepth 20000 in
theorem f_X11_fresh_J31_ok {g : Bool} {rv : Option Value} {μ' : jM} (σ : jS) {Kp : (Int32 × jS) → Prop} (hn : Nat.ble nM μ'.1 = true ∧ Nat.ble wM μ'.2.1 = true) (hr : ∀ (r : Int32) (s : jS), Kp ((r, s)) → rv = some (.int r) ∧ μ' = eM s) (o : (Int32 × jS)) (h : f_X11_fresh_J31 σ = some o) (hK : Kp o) : J yX11_fresh cX11_fresh 5 (some .int) 5 g rv μ' 31 [] [] (eM σ) := by
  unfold f_X11_fresh_J31 at h
  refine j_sipush (v := (-1002)) dX11_fresh_31 (by decide) ?_
  replace h := Option.some.inj h
  subst h
  obtain ⟨hr1, hr2⟩ := hr _ _ hK
  exact j_iret dX11_fresh_34 hr1 hr2
def f_X11_fresh_J83 (σ : jS) (y0 : Int32) : Option (Int32 × jS) :=
  some ((y0, σ))
set_option maxHeartbeats 1000000 in
set_option maxRecDepth 20000 in
theorem f_X11_fresh_J83_ok {g : Bool} {rv : Option Value} {μ' : jM} (σ : jS) (y0 : Int32) {Kp : (Int32 × jS) → Prop} (hn : Nat.ble nM μ'.1 = true ∧ Nat.ble wM μ'.2.1 = true) (hr : ∀ (r : Int32) (s : jS), Kp ((r, s)) → rv = some (.int r) ∧ μ' = eM s) (o : (Int32 × jS)) (h : f_X11_fresh_J83 σ y0 = some o) (hK : Kp o) : J yX11_fresh cX11_fresh 5 (some .int) 5 g rv μ' 83 [] [.int y0] (eM σ) := by
  unfold f_X11_fresh_J83 at h
  replace h := Option.some.inj h
  subst h
  obtain ⟨hr1, hr2⟩ := hr _ _ hK
  exact j_iret dX11_fresh_83 hr1 hr2
def f_X11_fresh (σ : jS) (x1 : Int32) (x2 : Int32) (x3 : Int32) : Option (Int32 × jS) :=
  bC (f_X11_isQuarrel σ x1) fun r1 =>
  if r1 = 0 then (some (((-1001), σ)))
  else (bC (f_X11_isSide x2) fun r2 =>
  if r2 = 0 then (f_X11_fresh_J31 σ)
  else (bC (f_X11_in (x3.toInt64) 0 2) fun r3 =>
  if r3 = 0 then (f_X11_fresh_J31 σ)
  else (bG (jin x1 4) (
  bD (f_X11_spread σ (gI σ 9 (ix x1)) 1) fun r4 σ5 =>
  bD (f_X11_takeGrudges σ5 0) fun r6 σ7 =>
  bD (f_X11_findFresh σ7 x2) fun r8 σ9 =>
  if x3 = 0 then (f_X11_fresh_J83 σ9 r8)
  else (if x3 = 1 then (f_X11_fresh_J83 σ9 (gI σ9 1 50))
  else (f_X11_fresh_J83 σ9 (gI σ9 1 51)))))))
set_option maxHeartbeats 1000000 in
set_option maxRecDepth 20000 in
theorem f_X11_fresh_ok {g : Bool} {rv : Option Value} {μ' : jM} (σ : jS) (x1 : Int32) (x2 : Int32) (x3 : Int32) {Kp : (Int32 × jS) → Prop} (hn : Nat.ble nM μ'.1 = true ∧ Nat.ble wM μ'.2.1 = true) (hr : ∀ (r : Int32) (s : jS), Kp ((r, s)) → rv = some (.int r) ∧ μ' = eM s) (o : (Int32 × jS)) (h : f_X11_fresh σ x1 x2 x3 = some o) (hK : Kp o) : J yX11_fresh cX11_fresh 5 (some .int) 5 g rv μ' 0 [(0, .ref 1), (1, .int x1), (2, .int x2), (3, .int x3)] [] (eM σ) := by
  unfold f_X11_fresh at h
  refine j_aload_n 0 dX11_fresh_0 rfl rfl ?_
  refine j_iload_n 1 dX11_fresh_1 rfl rfl ?_
  replace h := bC_inv h
  obtain ⟨r10, cr10, h⟩ := h
  refine j_callV (ci := 10) (st1 := .int r10 :: _) (c_X11_isQuarrel g cr10) jy_X11_isQuarrel ki_yX11_isQuarrel ks_yX11_isQuarrel kl_RX11_309 dX11_fresh_2 rfl (okM_1 _) (shM_1 _) rfl rfl rfl rfl (jbr _) (jbr _) hn.1 hn.2 (Or.inr rfl) rfl ?_
  refine j_if_ne 12 dX11_fresh_5 (by decide) (fun hc11 => ?_) (fun hc11 => ?_)
  · replace h := jif_f hc11 h
    refine j_iload_n 2 dX11_fresh_12 rfl rfl ?_
    replace h := bC_inv h
    obtain ⟨r12, cr12, h⟩ := h
    refine j_callS (st1 := .int r12 :: _) (c_X11_isSide g _ cr12) jy_X11_isSide kt_yX11_isSide kl_RX11_375 dX11_fresh_13 rfl rfl rfl rfl (jbr _) (jbr _) hn.1 hn.2 (Or.inr rfl) rfl ?_
    refine j_if_eq 31 dX11_fresh_16 (by decide) (fun hc13 => ?_) (fun hc13 => ?_)
    · replace h := jif_t hc13 h
      refine j_sub [] [] rfl ?_
      exact f_X11_fresh_J31_ok σ hn hr _ h hK
    · replace h := jif_f hc13 h
      refine j_iload_n 3 dX11_fresh_19 rfl rfl ?_
      refine j_i2l dX11_fresh_20 ?_
      refine j_lconst (v := 0) dX11_fresh_21 (by decide) ?_
      refine j_ldc2 (v := 2) kk_RX11_397 dX11_fresh_22 ?_
      replace h := bC_inv h
      obtain ⟨r14, cr14, h⟩ := h
      refine j_callS (st1 := .int r14 :: _) (c_X11_in g _ cr14) jy_X11_in kt_yX11_in kl_RX11_144 dX11_fresh_25 rfl rfl rfl rfl (jbr _) (jbr _) hn.1 hn.2 (Or.inr rfl) rfl ?_
      refine j_if_ne 35 dX11_fresh_28 (by decide) (fun hc15 => ?_) (fun hc15 => ?_)
      · replace h := jif_f hc15 h
        refine j_aload_n 0 dX11_fresh_35 rfl rfl ?_
        refine j_aload_n 0 dX11_fresh_36 rfl rfl ?_
        refine j_get (ci := 10) 11 (.ref 9) jC_10 dX11_fresh_37 kg_RX11_31 rfl (okM_1 _) (shM_1 _) (fvM_1_11 _) ?_
        refine j_iload_n 1 dX11_fresh_40 rfl rfl ?_
        replace h := bG_inv h
        obtain ⟨hi16, h⟩ := h
        refine j_iaload dX11_fresh_41 (okM_9 _) (shM_9 _) (jin_spec hi16) ?_
        refine j_iconst (v := 1) dX11_fresh_42 (by decide) ?_
        replace h := bD_inv h
        obtain ⟨r17, σ18, cr17, h⟩ := h
        refine j_callV (ci := 10) (st1 := _) (c_X11_spread g cr17) jy_X11_spread ki_yX11_spread ks_yX11_spread kl_RX11_357 dX11_fresh_43 rfl (okM_1 _) (shM_1 _) rfl rfl rfl rfl (jbr _) (jbr _) hn.1 hn.2 (Or.inr rfl) rfl ?_
        refine j_aload_n 0 dX11_fresh_46 rfl rfl ?_
        refine j_iconst (v := 0) dX11_fresh_47 (by decide) ?_
        replace h := bD_inv h
        obtain ⟨r19, σ20, cr19, h⟩ := h
        refine j_callV (ci := 10) (st1 := _) (c_X11_takeGrudges g cr19) jy_X11_takeGrudges ki_yX11_takeGrudges ks_yX11_takeGrudges kl_RX11_368 dX11_fresh_48 rfl (okM_1 _) (shM_1 _) rfl rfl rfl rfl (jbr _) (jbr _) hn.1 hn.2 (Or.inr rfl) rfl ?_
        refine j_aload_n 0 dX11_fresh_51 rfl rfl ?_
        refine j_iload_n 2 dX11_fresh_52 rfl rfl ?_
        replace h := bD_inv h
        obtain ⟨r21, σ22, cr21, h⟩ := h
        refine j_callV (ci := 10) (st1 := .int r21 :: _) (c_X11_findFresh g cr21) jy_X11_findFresh ki_yX11_findFresh ks_yX11_findFresh kl_RX11_399 dX11_fresh_53 rfl (okM_1 _) (shM_1 _) rfl rfl rfl rfl (jbr _) (jbr _) hn.1 hn.2 (Or.inr rfl) rfl ?_
        refine j_istore [(4, .int r21), (0, .ref 1), (1, .int x1), (2, .int x2), (3, .int x3)] dX11_fresh_56 (Nat.le_of_ble_eq_true rfl) rfl ?_
        refine j_iload_n 4 dX11_fresh_58 rfl rfl ?_
        refine j_if_ne 67 dX11_fresh_59 (by decide) (fun hc23 => ?_) (fun hc23 => ?_)
        · replace h := jif_f hc23 h
          refine j_iload_n 4 dX11_fresh_67 rfl rfl ?_
          refine j_iconst (v := 1) dX11_fresh_68 (by decide) ?_
          refine j_icmp_ne 79 dX11_fresh_69 (by decide) (fun hc24 => ?_) (fun hc24 => ?_)
          · replace h := jif_f hc24 h
            refine j_aload_n 1 dX11_fresh_79 rfl rfl ?_
            refine j_get (ci := 10) 51 (.int (gI σ22 1 51)) jC_10 dX11_fresh_80 kg_RX11_385 rfl (okM_1 _) (shM_1 _) (fvM_1_51 _) ?_
            refine j_sub [] [] rfl ?_
            exact f_X11_fresh_J83_ok σ22 (gI σ22 1 51) hn hr _ h hK
          · replace h := jif_t hc24 h
            refine j_aload_n 1 dX11_fresh_72 rfl rfl ?_
            refine j_get (ci := 10) 50 (.int (gI σ22 1 50)) jC_10 dX11_fresh_73 kg_RX11_382 rfl (okM_1 _) (shM_1 _) (fvM_1_50 _) ?_
            refine j_goto 83 dX11_fresh_76 (by decide) ?_
            refine j_sub [] [] rfl ?_
            exact f_X11_fresh_J83_ok σ22 (gI σ22 1 50) hn hr _ h hK
        · replace h := jif_t hc23 h
          refine j_iload 0 dX11_fresh_62 rfl ?_
          refine j_goto 83 dX11_fresh_64 (by decide) ?_
          refine j_sub [] [] rfl ?_
          exact f_X11_fresh_J83_ok σ22 r21 hn hr _ h hK
      · replace h := jif_t hc15 h
        refine j_sub [] [] rfl ?_
        exact f_X11_fresh_J31_ok σ hn hr _ h hK
  · replace h := jif_t hc11 h
    refine j_sipush (v := (-1001)) dX11_fresh_8 (by decide) ?_
    replace h := Option.some.inj h
    subst h
    obtain ⟨hr1, hr2⟩ := hr _ _ hK
    exact j_iret dX11_fresh_11 hr1 hr2
theorem c_X11_fresh (g : Bool) {σ : jS} {x1 : Int32} {x2 : Int32} {x3 : Int32} {r : Int32} {σ2 : jS} (h : f_X11_fresh σ x1 x2 x3 = some (r, σ2)) : Cn yX11_fresh cX11_fresh 5 (some .int) 5 g [.ref 1, .int x1, .int x2, .int x3] (eM σ) (some (.int r)) (eM σ2) :=
  Cn_of (by decide) (Nat.le_refl _) (Nat.le_refl _) (Nat.le_of_ble_eq_true rfl) (f_X11_fresh_ok (Kp := (fun o => o = (r, σ2))) σ x1 x2 x3 ⟨jbr _, jbr _⟩ (fun r2 s2 q => by cases q; exact ⟨rfl, rfl⟩) _ h rfl)
def f_X11_tryOn (σ : jS) (x1 : Int32) (x2 : Int32) : Option (Unit × jS) :=
  bG (jin (gI σ 1 55) 120000) (
  bV (sI σ 30 (ix (gI σ 1 55)) x1) fun σ1 =>
  bG (jin (gI σ1 1 55) 120000) (
  bV (sI σ1 31 (ix (gI σ1 1 55)) x2) fun σ2 =>
  bV (sI σ2 1 55 ((gI σ2 1 55) + (1 : Int32))) fun σ3 =>
  some (((), σ3))))
set_option maxHeartbeats 1000000 in
set_option maxRecDepth 20000 in
theorem f_X11_tryOn_ok {g : Bool} {rv : Option Value} {μ' : jM} (σ : jS) (x1 : Int32) (x2 : Int32) {Kp : (Unit × jS) → Prop} (hn : Nat.ble nM μ'.1 = true ∧ Nat.ble wM μ'.2.1 = true) (hr : ∀ (r : Unit) (s : jS), Kp ((r, s)) → rv = none ∧ μ' = eM s) (o : (Unit × jS)) (h : f_X11_tryOn σ x1 x2 = some o) (hK : Kp o) : J yX11_tryOn cX11_tryOn 3 none 1 g rv μ' 0 [(0, .ref 1), (1, .int x1), (2, .int x2)] [] (eM σ) := by
  unfold f_X11_tryOn at h
  refine j_aload_n 0 dX11_tryOn_0 rfl rfl ?_
  refine j_get (ci := 10) 53 (.ref 30) jC_10 dX11_tryOn_1 kg_RX11_105 rfl (okM_1 _) (shM_1 _) (fvM_1_53 _) ?_
  refine j_aload_n 0 dX11_tryOn_4 rfl rfl ?_
  refine j_get (ci := 10) 55 (.int (gI σ 1 55)) jC_10 dX11_tryOn_5 kg_RX11_402 rfl (okM_1 _) (shM_1 _) (fvM_1_55 _) ?_
  refine j_iload_n 1 dX11_tryOn_8 rfl rfl ?_
  replace h := bG_inv h
  obtain ⟨hi4, h⟩ := h
  refine j_iastore dX11_tryOn_9 (okM_30 _) (shM_30 _) (jin_spec hi4) ?_
  replace h := bV_inv h
  obtain ⟨σ5, eσ5, h⟩ := h
  refine j_mem (congrArg eM eσ5) ?_
  refine j_aload_n 0 dX11_tryOn_10 rfl rfl ?_
  refine j_get (ci := 10) 54 (.ref 31) jC_10 dX11_tryOn_11 kg_RX11_108 rfl (okM_1 _) (shM_1 _) (fvM_1_54 _) ?_
  refine j_aload_n 0 dX11_tryOn_14 rfl rfl ?_
  refine j_get (ci := 10) 55 (.int (gI σ5 1 55)) jC_10 dX11_tryOn_15 kg_RX11_402 rfl (okM_1 _) (shM_1 _) (fvM_1_55 _) ?_
  refine j_iload_n 2 dX11_tryOn_18 rfl rfl ?_
  replace h := bG_inv h
  obtain ⟨hi6, h⟩ := h
  refine j_iastore dX11_tryOn_19 (okM_31 _) (shM_31 _) (jin_spec hi6) ?_
  replace h := bV_inv h
  obtain ⟨σ7, eσ7, h⟩ := h
  refine j_mem (congrArg eM eσ7) ?_
  refine j_aload_n 0 dX11_tryOn_20 rfl rfl ?_
  refine j_dup dX11_tryOn_21 rfl ?_
  refine j_get (ci := 10) 55 (.int (gI σ7 1 55)) jC_10 dX11_tryOn_22 kg_RX11_402 rfl (okM_1 _) (shM_1 _) (fvM_1_55 _) ?_
  refine j_iconst (v := 1) dX11_tryOn_25 (by decide) ?_
  refine j_iadd dX11_tryOn_26 ?_
  replace h := bV_inv h
  obtain ⟨σ8, eσ8, h⟩ := h
  refine j_putI 55 jC_10 dX11_tryOn_27 kg_RX11_402 (Or.inl ff_10_55) rfl fk_10_55 (fn_10_55 _) (okM_1 _) (shM_1 _) ?_
  refine j_mem (congrArg eM eσ8) ?_
  replace h := Option.some.inj h
  subst h
  obtain ⟨hr1, hr2⟩ := hr _ _ hK
  exact j_vret dX11_tryOn_30 hr1 hr2
theorem c_X11_tryOn (g : Bool) {σ : jS} {x1 : Int32} {x2 : Int32} {r : Unit} {σ2 : jS} (h : f_X11_tryOn σ x1 x2 = some (r, σ2)) : Cn yX11_tryOn cX11_tryOn 3 none 1 g [.ref 1, .int x1, .int x2] (eM σ) none (eM σ2) :=
  Cn_of (by decide) (Nat.le_refl _) (Nat.le_refl _) (Nat.le_of_ble_eq_true rfl) (f_X11_tryOn_ok (Kp := (fun o => o = (r, σ2))) σ x1 x2 ⟨jbr _, jbr _⟩ (fun r2 s2 q => by cases q; exact ⟨rfl, rfl⟩) _ h rfl)
def f_X11_turnOf_J49 (σ : jS) (x3 : Int32) : Option Int32 :=
  some (x3)
set_option maxHeartbeats 1000000 in
set_option maxRecDepth 20000 in
theorem f_X11_turnOf_J49_ok {g : Bool} {rv : Option Value} {μ' : jM} (σ : jS) (x3 : Int32) {Kp : Int32 → Prop} (hn : Nat.ble nM μ'.1 = true ∧ Nat.ble wM μ'.2.1 = true) (hr : ∀ r : Int32, Kp (r) → rv = some (.int r) ∧ μ' = (eM σ)) (o : Int32) (h : f_X11_turnOf_J49 σ x3 = some o) (hK : Kp o) : J yX11_turnOf cX11_turnOf 5 (some .int) 1 g rv μ' 49 [(3, .int x3)] [] (eM σ) := by
  unfold f_X11_turnOf_J49 at h
  refine j_iload_n 0 dX11_turnOf_49 rfl rfl ?_
  replace h := Option.some.inj h
  subst h
  obtain ⟨hr1, hr2⟩ := hr _ hK
  exact j_iret dX11_turnOf_50 hr1 hr2
def f_X11_turnOf_J42 (σ : jS) (x1 : Int32) (x2 : Int32) (x4 : Int32) (y0 : Int32) : Option ((Int32 × Int32) ⊕ Int32) :=
  bV (x4 + 1) fun v1 =>
  some (.inl (y0, v1))
set_option maxHeartbeats 1000000 in
set_option maxRecDepth 20000 in
theorem f_X11_turnOf_J42_ok {g : Bool} {rv : Option Value} {μ' : jM} (σ : jS) (x1 : Int32) (x2 : Int32) (x4 : Int32) (y0 : Int32) {Kp : ((Int32 × Int32) ⊕ Int32) → Prop} (hn : Nat.ble nM μ'.1 = true ∧ Nat.ble wM μ'.2.1 = true) (hr : ∀ r : Int32, Kp (.inr (r)) → rv = some (.int r) ∧ μ' = (eM σ)) (hc0 : ∀ s : (Int32 × Int32), Kp (.inl s) → J yX11_turnOf cX11_turnOf 5 (some .int) 1 g rv μ' 5 [(0, .ref 1), (1, .int x1), (2, .int x2), (3, .int s.1), (4, .int s.2)] [] (eM σ)) (o : ((Int32 × Int32) ⊕ Int32)) (h : f_X11_turnOf_J42 σ x1 x2 x4 y0 = some o) (hK : Kp o) : J yX11_turnOf cX11_turnOf 5 (some .int) 1 g rv μ' 42 [(0, .ref 1), (1, .int x1), (2, .int x2), (4, .int x4)] [.int y0] (eM σ) := by
  unfold f_X11_turnOf_J42 at h
  refine j_istore_n [(3, .int y0), (0, .ref 1), (1, .int x1), (2, .int x2), (4, .int x4)] dX11_turnOf_42 rfl (Nat.le_of_ble_eq_true rfl) rfl ?_
  replace h := bV_inv h
  obtain ⟨v2, ev2, h⟩ := h
  refine j_iinc (v := v2) [(4, .int v2), (3, .int y0), (0, .ref 1), (1, .int x1), (2, .int x2)] 4 dX11_turnOf_43 rfl (by rw [ev2]; rfl) (Nat.le_of_ble_eq_true rfl) rfl ?_
  refine j_goto 5 dX11_turnOf_46 (by decide) ?_
  replace h := Option.some.inj h
  subst h
  refine j_sub [(0, .ref 1), (1, .int x1), (2, .int x2), (3, .int y0), (4, .int v2)] [2, 3, 4, 1, 0] rfl ?_
  exact hc0 _ hK
def f_X11_turnOf_J41 (σ : jS) (x1 : Int32) (x2 : Int32) (x3 : Int32) (x4 : Int32) : Option ((Int32 × Int32) ⊕ Int32) :=
  f_X11_turnOf_J42 σ x1 x2 x4 x3
set_option maxHeartbeats 1000000 in
set_option maxRecDepth 20000 in
theorem f_X11_turnOf_J41_ok {g : Bool} {rv : Option Value} {μ' : jM} (σ : jS) (x1 : Int32) (x2 : Int32) (x3 : Int32) (x4 : Int32) {Kp : ((Int32 × Int32) ⊕ Int32) → Prop} (hn : Nat.ble nM μ'.1 = true ∧ Nat.ble wM μ'.2.1 = true) (hr : ∀ r : Int32, Kp (.inr (r)) → rv = some (.int r) ∧ μ' = (eM σ)) (hc0 : ∀ s : (Int32 × Int32), Kp (.inl s) → J yX11_turnOf cX11_turnOf 5 (some .int) 1 g rv μ' 5 [(0, .ref 1), (1, .int x1), (2, .int x2), (3, .int s.1), (4, .int s.2)] [] (eM σ)) (o : ((Int32 × Int32) ⊕ Int32)) (h : f_X11_turnOf_J41 σ x1 x2 x3 x4 = some o) (hK : Kp o) : J yX11_turnOf cX11_turnOf 5 (some .int) 1 g rv μ' 41 [(0, .ref 1), (1, .int x1), (2, .int x2), (3, .int x3), (4, .int x4)] [] (eM σ) := by
  unfold f_X11_turnOf_J41 at h
  refine j_iload_n 3 dX11_turnOf_41 rfl rfl ?_
  refine j_sub [(0, .ref 1), (1, .int x1), (2, .int x2), (4, .int x4)] [0, 1, 2, 4] rfl ?_
  exact f_X11_turnOf_J42_ok σ x1 x2 x4 x3 hn hr hc0 _ h hK
def f_X11_turnOf_B5 (σ : jS) (x1 : Int32) (x2 : Int32) (x3 : Int32) (x4 : Int32) : Option ((Int32 × Int32) ⊕ Int32) :=
  if (gI σ 1 2) ≤ x4 then (jw (f_X11_turnOf_J49 σ x3))
  else (bG (jin x4 40) (
  if (gI σ 3 (ix x4)) = x1 then (bG (jin x4 40) (
  if (gI σ 4 (ix x4)) = x2 then (f_X11_turnOf_J42 σ x1 x2 x4 x4)
  else (f_X11_turnOf_J41 σ x1 x2 x3 x4)))
  else (f_X11_turnOf_J41 σ x1 x2 x3 x4)))
set_option maxHeartbeats 1000000 in
set_option maxRecDepth 20000 in
theorem f_X11_turnOf_B5_ok {g : Bool} {rv : Option Value} {μ' : jM} (σ : jS) (x1 : Int32) (x2 : Int32) (x3 : Int32) (x4 : Int32) {Kp : ((Int32 × Int32) ⊕ Int32) → Prop} (hn : Nat.ble nM μ'.1 = true ∧ Nat.ble wM μ'.2.1 = true) (hr : ∀ r : Int32, Kp (.inr (r)) → rv = some (.int r) ∧ μ' = (eM σ)) (hc0 : ∀ s : (Int32 × Int32), Kp (.inl s) → J yX11_turnOf cX11_turnOf 5 (some .int) 1 g rv μ' 5 [(0, .ref 1), (1, .int x1), (2, .int x2), (3, .int s.1), (4, .int s.2)] [] (eM σ)) (o : ((Int32 × Int32) ⊕ Int32)) (h : f_X11_turnOf_B5 σ x1 x2 x3 x4 = some o) (hK : Kp o) : J yX11_turnOf cX11_turnOf 5 (some .int) 1 g rv μ' 5 [(0, .ref 1), (1, .int x1), (2, .int x2), (3, .int x3), (4, .int x4)] [] (eM σ) := by
  unfold f_X11_turnOf_B5 at h
  refine j_iload 4 dX11_turnOf_5 rfl ?_
  refine j_aload_n 0 dX11_turnOf_7 rfl rfl ?_
  refine j_get (ci := 10) 2 (.int (gI σ 1 2)) jC_10 dX11_turnOf_8 kg_RX11_240 rfl (okM_1 _) (shM_1 _) (fvM_1_2 _) ?_
  refine j_icmp_ge 49 dX11_turnOf_11 (by decide) (fun hc3 => ?_) (fun hc3 => ?_)
  · replace h := jif_t hc3 h
    replace h := jw_inv h
    obtain ⟨o4, rfl, h⟩ := h
    refine j_sub [(3, .int x3)] [3] rfl ?_
    exact f_X11_turnOf_J49_ok (Kp := fun o => Kp (.inr (o))) σ x3 hn (fun r q => hr r q) _ h hK
  · replace h := jif_f hc3 h
    refine j_aload_n 0 dX11_turnOf_14 rfl rfl ?_
    refine j_get (ci := 10) 3 (.ref 3) jC_10 dX11_turnOf_15 kg_RX11_13 rfl (okM_1 _) (shM_1 _) (fvM_1_3 _) ?_
    refine j_iload 4 dX11_turnOf_18 rfl ?_
    replace h := bG_inv h
    obtain ⟨hi5, h⟩ := h
    refine j_iaload dX11_turnOf_20 (okM_3 _) (shM_3 _) (jin_spec hi5) ?_
    refine j_iload_n 1 dX11_turnOf_21 rfl rfl ?_
    refine j_icmp_ne 41 dX11_turnOf_22 (by decide) (fun hc6 => ?_) (fun hc6 => ?_)
    · replace h := jif_f hc6 h
      exact f_X11_turnOf_J41_ok σ x1 x2 x3 x4 hn hr hc0 _ h hK
    · replace h := jif_t hc6 h
      refine j_aload_n 0 dX11_turnOf_25 rfl rfl ?_
      refine j_get (ci := 10) 4 (.ref 4) jC_10 dX11_turnOf_26 kg_RX11_16 rfl (okM_1 _) (shM_1 _) (fvM_1_4 _) ?_
      refine j_iload 4 dX11_turnOf_29 rfl ?_
      replace h := bG_inv h
      obtain ⟨hi7, h⟩ := h
      refine j_iaload dX11_turnOf_31 (okM_4 _) (shM_4 _) (jin_spec hi7) ?_
      refine j_iload_n 2 dX11_turnOf_32 rfl rfl ?_
      refine j_icmp_ne 41 dX11_turnOf_33 (by decide) (fun hc8 => ?_) (fun hc8 => ?_)
      · replace h := jif_f hc8 h
        exact f_X11_turnOf_J41_ok σ x1 x2 x3 x4 hn hr hc0 _ h hK
      · replace h := jif_t hc8 h
        refine j_iload 4 dX11_turnOf_36 rfl ?_
        refine j_goto 42 dX11_turnOf_38 (by decide) ?_
        refine j_sub [(0, .ref 1), (1, .int x1), (2, .int x2), (4, .int x4)] [0, 1, 2, 4] rfl ?_
        exact f_X11_turnOf_J42_ok σ x1 x2 x4 x4 hn hr hc0 _ h hK
def f_X11_turnOf (σ : jS) (x1 : Int32) (x2 : Int32) : Option Int32 :=
  jloop jFuel (fun s => f_X11_turnOf_B5 σ x1 x2 s.1 s.2) ((-1), 0)
set_option maxHeartbeats 1000000 in
set_option maxRecDepth 20000 in
theorem f_X11_turnOf_ok {g : Bool} {rv : Option Value} {μ' : jM} (σ : jS) (x1 : Int32) (x2 : Int32) {Kp : Int32 → Prop} (hn : Nat.ble nM μ'.1 = true ∧ Nat.ble wM μ'.2.1 = true) (hr : ∀ r : Int32, Kp (r) → rv = some (.int r) ∧ μ' = (eM σ)) (o : Int32) (h : f_X11_turnOf σ x1 x2 = some o) (hK : Kp o) : J yX11_turnOf cX11_turnOf 5 (some .int) 1 g rv μ' 0 [(0, .ref 1), (1, .int x1), (2, .int x2)] [] (eM σ) := by
  unfold f_X11_turnOf at h
  refine j_iconst (v := (-1)) dX11_turnOf_0 (by decide) ?_
  refine j_istore_n [(3, .int (-1)), (0, .ref 1), (1, .int x1), (2, .int x2)] dX11_turnOf_1 rfl (Nat.le_of_ble_eq_true rfl) rfl ?_
  refine j_iconst (v := 0) dX11_turnOf_2 (by decide) ?_
  refine j_istore [(4, .int 0), (3, .int (-1)), (0, .ref 1), (1, .int x1), (2, .int x2)] dX11_turnOf_3 (Nat.le_of_ble_eq_true rfl) rfl ?_
  refine j_sub [(0, .ref 1), (1, .int x1), (2, .int x2), (3, .int (-1)), (4, .int 0)] [2, 3, 4, 1, 0] rfl ?_
  exact jloop_ok (fun s => f_X11_turnOf_B5 σ x1 x2 s.1 s.2) (fun s => J yX11_turnOf cX11_turnOf 5 (some .int) 1 g rv μ' 5 [(0, .ref 1), (1, .int x1), (2, .int x2), (3, .int s.1), (4, .int s.2)] [] (eM σ)) Kp (fun s o hb hk => f_X11_turnOf_B5_ok (Kp := jsum (fun s => J yX11_turnOf cX11_turnOf 5 (some .int) 1 g rv μ' 5 [(0, .ref 1), (1, .int x1), (2, .int x2), (3, .int s.1), (4, .int s.2)] [] (eM σ)) Kp) σ x1 x2 s.1 s.2 hn (fun r q => hr r q) (fun s q => q) o hb hk) jFuel _ _ h hK
theorem c_X11_turnOf (g : Bool) {σ : jS} {x1 : Int32} {x2 : Int32} {r : Int32} (h : f_X11_turnOf σ x1 x2 = some r) : Cn yX11_turnOf cX11_turnOf 5 (some .int) 1 g [.ref 1, .int x1, .int x2] (eM σ) (some (.int r)) (eM σ) :=
  Cn_of (by decide) (Nat.le_refl _) (Nat.le_refl _) (Nat.le_of_ble_eq_true rfl) (f_X11_turnOf_ok (Kp := (fun o => o = r)) σ x1 x2 ⟨jbr _, jbr _⟩ (fun r2 q => by cases q; exact ⟨rfl, rfl⟩) _ h rfl)
def f_X11_carryOn_J207 (σ : jS) : Option (Unit × jS) :=
  bV (sI σ 1 35 (-1)) fun σ5 =>
  some (((), σ5))
set_option maxHeartbeats 1000000 in
set_option maxRecDepth 20000 in
theorem f_X11_carryOn_J207_ok {g : Bool} {rv : Option Value} {μ' : jM} (σ : jS) {Kp : (Unit × jS) → Prop} (hn : Nat.ble nM μ'.1 = true ∧ Nat.ble wM μ'.2.1 = true) (hr : ∀ (r : Unit) (s : jS), Kp ((r, s)) → rv = none ∧ μ' = eM s) (o : (Unit × jS)) (h : f_X11_carryOn_J207 σ = some o) (hK : Kp o) : J yX11_carryOn cX11_carryOn 9 none 4 g rv μ' 207 [(0, .ref 1)] [] (eM σ) := by
  unfold f_X11_carryOn_J207 at h
  refine j_aload_n 0 dX11_carryOn_207 rfl rfl ?_
  refine j_iconst (v := (-1)) dX11_carryOn_208 (by decide) ?_
  replace h := bV_inv h
  obtain ⟨σ6, eσ6, h⟩ := h
  refine j_putI 35 jC_10 dX11_carryOn_209 kg_RX11_62 (Or.inl ff_10_35) rfl fk_10_35 (fn_10_35 _) (okM_1 _) (shM_1 _) ?_
  refine j_mem (congrArg eM eσ6) ?_
  replace h := Option.some.inj h
  subst h
  obtain ⟨hr1, hr2⟩ := hr _ _ hK
  exact j_vret dX11_carryOn_212 hr1 hr2
def f_X11_carryOn_J201 (σ : jS) (x1 : Int32) (x3 : Int32) (x4 : Int32) : Option ((Int32 × jS) ⊕ (Unit × jS)) :=
  bV (x4 + 1) fun v14 =>
  some (.inl (v14, σ))
set_option maxHeartbeats 1000000 in
set_option maxRecDepth 20000 in
theorem f_X11_carryOn_J201_ok {g : Bool} {rv : Option Value} {μ' : jM} (σ : jS) (x1 : Int32) (x3 : Int32) (x4 : Int32) {Kp : ((Int32 × jS) ⊕ (Unit × jS)) → Prop} (hn : Nat.ble nM μ'.1 = true ∧ Nat.ble wM μ'.2.1 = true) (hr : ∀ (r : Unit) (s : jS), Kp (.inr ((r, s))) → rv = none ∧ μ' = eM s) (hc0 : ∀ s : (Int32 × jS), Kp (.inl s) → J yX11_carryOn cX11_carryOn 9 none 4 g rv μ' 18 [(0, .ref 1), (1, .int x1), (3, .int x3), (4, .int s.1)] [] (eM s.2)) (o : ((Int32 × jS) ⊕ (Unit × jS))) (h : f_X11_carryOn_J201 σ x1 x3 x4 = some o) (hK : Kp o) : J yX11_carryOn cX11_carryOn 9 none 4 g rv μ' 201 [(0, .ref 1), (1, .int x1), (3, .int x3), (4, .int x4)] [] (eM σ) := by
  unfold f_X11_carryOn_J201 at h
  replace h := bV_inv h
  obtain ⟨v15, ev15, h⟩ := h
  refine j_iinc (v := v15) [(4, .int v15), (0, .ref 1), (1, .int x1), (3, .int x3)] 3 dX11_carryOn_201 rfl (by rw [ev15]; rfl) (Nat.le_of_ble_eq_true rfl) rfl ?_
  refine j_goto 18 dX11_carryOn_204 (by decide) ?_
  replace h := Option.some.inj h
  subst h
  refine j_sub [(0, .ref 1), (1, .int x1), (3, .int x3), (4, .int v15)] [1, 2, 3, 0] rfl ?_
  exact hc0 _ hK
def f_X11_carryOn_J195 (σ : jS) (x1 : Int32) (x3 : Int32) (x4 : Int32) (x5 : Int32) (x6 : Int32) (x7 : Int32) (x8 : Int32) : Option ((Int32 × jS) ⊕ ((Int32 × jS) ⊕ (Unit × jS))) :=
  bV (x8 + 1) fun v17 =>
  some (.inl (v17, σ))
set_option maxHeartbeats 1000000 in
set_option maxRecDepth 20000 in
theorem f_X11_carryOn_J195_ok {g : Bool} {rv : Option Value} {μ' : jM} (σ : jS) (x1 : Int32) (x3 : Int32) (x4 : Int32) (x5 : Int32) (x6 : Int32) (x7 : Int32) (x8 : Int32) {Kp : ((Int32 × jS) ⊕ ((Int32 × jS) ⊕ (Unit × jS))) → Prop} (hn : Nat.ble nM μ'.1 = true ∧ Nat.ble wM μ'.2.1 = true) (hr : ∀ (r : Unit) (s : jS), Kp (.inr (.inr ((r, s)))) → rv = none ∧ μ' = eM s) (hc0 : ∀ s : (Int32 × jS), Kp (.inr (.inl s)) → J yX11_carryOn cX11_carryOn 9 none 4 g rv μ' 18 [(0, .ref 1), (1, .int x1), (3, .int x3), (4, .int s.1)] [] (eM s.2)) (hc1 : ∀ s : (Int32 × jS), Kp (.inl s) → J yX11_carryOn cX11_carryOn 9 none 4 g rv μ' 141 [(0, .ref 1), (1, .int x1), (3, .int x3), (4, .int x4), (5, .int x5), (6, .int x6), (7, .int x7), (8, .int s.1)] [] (eM s.2)) (o : ((Int32 × jS) ⊕ ((Int32 × jS) ⊕ (Unit × jS)))) (h : f_X11_carryOn_J195 σ x1 x3 x4 x5 x6 x7 x8 = some o) (hK : Kp o) : J yX11_carryOn cX11_carryOn 9 none 4 g rv μ' 195 [(0, .ref 1), (1, .int x1), (3, .int x3), (4, .int x4), (5, .int x5), (6, .int x6), (7, .int x7), (8, .int x8)] [] (eM σ) := by
  unfold f_X11_carryOn_J195 at h
  replace h := bV_inv h
  obtain ⟨v18, ev18, h⟩ := h
  refine j_iinc (v := v18) [(8, .int v18), (0, .ref 1), (1, .int x1), (3, .int x3), (4, .int x4), (5, .int x5), (6, .int x6), (7, .int x7)] 7 dX11_carryOn_195 rfl (by rw [ev18]; rfl) (Nat.le_of_ble_eq_true rfl) rfl ?_
  refine j_goto 141 dX11_carryOn_198 (by decide) ?_
  replace h := Option.some.inj h
  subst h
  refine j_sub [(0, .ref 1), (1, .int x1), (3, .int x3), (4, .int x4), (5, .int x5), (6, .int x6), (7, .int x7), (8, .int v18)] [1, 2, 3, 4, 5, 6, 7, 0] rfl ?_
  exact hc1 _ hK
def f_X11_carryOn_B141 (σ : jS) (x1 : Int32) (x3 : Int32) (x4 : Int32) (x5 : Int32) (x6 : Int32) (x7 : Int32) (x8 : Int32) : Option ((Int32 × jS) ⊕ ((Int32 × jS) ⊕ (Unit × jS))) :=
  if (gI σ 1 0) ≤ x8 then (jw (f_X11_carryOn_J201 σ x1 x3 x4))
  else (bC (f_X11_has x6 x8) fun r16 =>
  if r16 = 0 then (f_X11_carryOn_J195 σ x1 x3 x4 x5 x6 x7 x8)
  else (bC (f_X11_behind σ x5 x8) fun r19 =>
  bC (f_X11_side x5) fun r20 =>
  bC (f_X11_holder x5 r20) fun r21 =>
  bC (f_X11_turnOf σ x8 r21) fun r22 =>
  bD (f_X11_tryOn σ r19 (x7 &&& (((1 : Int32) <<< (r22 &&& 31)) ^^^ ((-1) : Int32)))) fun r23 σ24 =>
  f_X11_carryOn_J195 σ24 x1 x3 x4 x5 x6 x7 x8))
set_option maxHeartbeats 1000000 in
set_option maxRecDepth 20000 in
theorem f_X11_carryOn_B141_ok {g : Bool} {rv : Option Value} {μ' : jM} (σ : jS) (x1 : Int32) (x3 : Int32) (x4 : Int32) (x5 : Int32) (x6 : Int32) (x7 : Int32) (x8 : Int32) {Kp : ((Int32 × jS) ⊕ ((Int32 × jS) ⊕ (Unit × jS))) → Prop} (hn : Nat.ble nM μ'.1 = true ∧ Nat.ble wM μ'.2.1 = true) (hr : ∀ (r : Unit) (s : jS), Kp (.inr (.inr ((r, s)))) → rv = none ∧ μ' = eM s) (hc0 : ∀ s : (Int32 × jS), Kp (.inr (.inl s)) → J yX11_carryOn cX11_carryOn 9 none 4 g rv μ' 18 [(0, .ref 1), (1, .int x1), (3, .int x3), (4, .int s.1)] [] (eM s.2)) (hc1 : ∀ s : (Int32 × jS), Kp (.inl s) → J yX11_carryOn cX11_carryOn 9 none 4 g rv μ' 141 [(0, .ref 1), (1, .int x1), (3, .int x3), (4, .int x4), (5, .int x5), (6, .int x6), (7, .int x7), (8, .int s.1)] [] (eM s.2)) (o : ((Int32 × jS) ⊕ ((Int32 × jS) ⊕ (Unit × jS)))) (h : f_X11_carryOn_B141 σ x1 x3 x4 x5 x6 x7 x8 = some o) (hK : Kp o) : J yX11_carryOn cX11_carryOn 9 none 4 g rv μ' 141 [(0, .ref 1), (1, .int x1), (3, .int x3), (4, .int x4), (5, .int x5), (6, .int x6), (7, .int x7), (8, .int x8)] [] (eM σ) := by
  unfold f_X11_carryOn_B141 at h
  refine j_iload 7 dX11_carryOn_141 rfl ?_
  refine j_aload_n 0 dX11_carryOn_143 rfl rfl ?_
  refine j_get (ci := 10) 0 (.int (gI σ 1 0)) jC_10 dX11_carryOn_144 kg_RX11_141 rfl (okM_1 _) (shM_1 _) (fvM_1_0 _) ?_
  refine j_icmp_ge 201 dX11_carryOn_147 (by decide) (fun hc25 => ?_) (fun hc25 => ?_)
  · replace h := jif_t hc25 h
    replace h := jw_inv h
    obtain ⟨o26, rfl, h⟩ := h
    refine j_sub [(0, .ref 1), (1, .int x1), (3, .int x3), (4, .int x4)] [0, 1, 2, 3] rfl ?_
    exact f_X11_carryOn_J201_ok (Kp := fun o => Kp (.inr (o))) σ x1 x3 x4 hn (fun r s q => hr r s q) (fun s q => hc0 s q) _ h hK
  · replace h := jif_f hc25 h
    refine j_iload 5 dX11_carryOn_150 rfl ?_
    refine j_iload 7 dX11_carryOn_152 rfl ?_
    replace h := bC_inv h
    obtain ⟨r27, cr27, h⟩ := h
    refine j_callS (st1 := .int r27 :: _) (c_X11_has g _ cr27) jy_X11_has kt_yX11_has kl_RX11_287 dX11_carryOn_154 rfl rfl rfl rfl (jbr _) (jbr _) hn.1 hn.2 (Or.inr rfl) rfl ?_
    refine j_if_eq 195 dX11_carryOn_157 (by decide) (fun hc28 => ?_) (fun hc28 => ?_)
    · replace h := jif_t hc28 h
      exact f_X11_carryOn_J195_ok σ x1 x3 x4 x5 x6 x7 x8 hn hr hc0 hc1 _ h hK
    · replace h := jif_f hc28 h
      refine j_aload_n 0 dX11_carryOn_160 rfl rfl ?_
      refine j_aload_n 0 dX11_carryOn_161 rfl rfl ?_
      refine j_iload 4 dX11_carryOn_162 rfl ?_
      refine j_iload 7 dX11_carryOn_164 rfl ?_
      replace h := bC_inv h
      obtain ⟨r29, cr29, h⟩ := h
      refine j_callV (ci := 10) (st1 := .int r29 :: _) (c_X11_behind g cr29) jy_X11_behind ki_yX11_behind ks_yX11_behind kl_RX11_337 dX11_carryOn_166 rfl (okM_1 _) (shM_1 _) rfl rfl rfl rfl (jbr _) (jbr _) hn.1 hn.2 (Or.inr rfl) rfl ?_
      refine j_iload 6 dX11_carryOn_169 rfl ?_
      refine j_iconst (v := 1) dX11_carryOn_171 (by decide) ?_
      refine j_aload_n 0 dX11_carryOn_172 rfl rfl ?_
      refine j_iload 7 dX11_carryOn_173 rfl ?_
      refine j_iload 4 dX11_carryOn_175 rfl ?_
      refine j_iload 4 dX11_carryOn_177 rfl ?_
      replace h := bC_inv h
      obtain ⟨r30, cr30, h⟩ := h
      refine j_callS (st1 := .int r30 :: _) (c_X11_side g _ cr30) jy_X11_side kt_yX11_side kl_RX11_277 dX11_carryOn_179 rfl rfl rfl rfl (jbr _) (jbr _) hn.1 hn.2 (Or.inr rfl) rfl ?_
      replace h := bC_inv h
      obtain ⟨r31, cr31, h⟩ := h
      refine j_callS (st1 := .int r31 :: _) (c_X11_holder g _ cr31) jy_X11_holder kt_yX11_holder kl_RX11_291 dX11_carryOn_182 rfl rfl rfl rfl (jbr _) (jbr _) hn.1 hn.2 (Or.inr rfl) rfl ?_
      replace h := bC_inv h
      obtain ⟨r32, cr32, h⟩ := h
      refine j_callV (ci := 10) (st1 := .int r32 :: _) (c_X11_turnOf g cr32) jy_X11_turnOf ki_yX11_turnOf ks_yX11_turnOf kl_RX11_408 dX11_carryOn_185 rfl (okM_1 _) (shM_1 _) rfl rfl rfl rfl (jbr _) (jbr _) hn.1 hn.2 (Or.inr rfl) rfl ?_
      refine j_ishl dX11_carryOn_188 ?_
      refine j_iconst (v := (-1)) dX11_carryOn_189 (by decide) ?_
      refine j_ixor dX11_carryOn_190 ?_
      refine j_iand dX11_carryOn_191 ?_
      replace h := bD_inv h
      obtain ⟨r33, σ34, cr33, h⟩ := h
      refine j_callV (ci := 10) (st1 := _) (c_X11_tryOn g cr33) jy_X11_tryOn ki_yX11_tryOn ks_yX11_tryOn kl_RX11_405 dX11_carryOn_192 rfl (okM_1 _) (shM_1 _) rfl rfl rfl rfl (jbr _) (jbr _) hn.1 hn.2 (Or.inr rfl) rfl ?_
      exact f_X11_carryOn_J195_ok σ34 x1 x3 x4 x5 x6 x7 x8 hn hr hc0 hc1 _ h hK
def f_X11_carryOn_J132 (σ : jS) (x1 : Int32) (x3 : Int32) (x4 : Int32) (x5 : Int32) (x6 : Int32) : Option ((Int32 × jS) ⊕ (Unit × jS)) :=
  bV (gI σ 1 35) fun v13 =>
  jloop jFuel (fun s => f_X11_carryOn_B141 s.2 x1 x3 x4 x5 x6 v13 s.1) (0, σ)
set_option maxHeartbeats 1000000 in
set_option maxRecDepth 20000 in
theorem f_X11_carryOn_J132_ok {g : Bool} {rv : Option Value} {μ' : jM} (σ : jS) (x1 : Int32) (x3 : Int32) (x4 : Int32) (x5 : Int32) (x6 : Int32) {Kp : ((Int32 × jS) ⊕ (Unit × jS)) → Prop} (hn : Nat.ble nM μ'.1 = true ∧ Nat.ble wM μ'.2.1 = true) (hr : ∀ (r : Unit) (s : jS), Kp (.inr ((r, s))) → rv = none ∧ μ' = eM s) (hc0 : ∀ s : (Int32 × jS), Kp (.inl s) → J yX11_carryOn cX11_carryOn 9 none 4 g rv μ' 18 [(0, .ref 1), (1, .int x1), (3, .int x3), (4, .int s.1)] [] (eM s.2)) (o : ((Int32 × jS) ⊕ (Unit × jS))) (h : f_X11_carryOn_J132 σ x1 x3 x4 x5 x6 = some o) (hK : Kp o) : J yX11_carryOn cX11_carryOn 9 none 4 g rv μ' 132 [(0, .ref 1), (1, .int x1), (3, .int x3), (4, .int x4), (5, .int x5), (6, .int x6)] [] (eM σ) := by
  unfold f_X11_carryOn_J132 at h
  refine j_aload_n 0 dX11_carryOn_132 rfl rfl ?_
  refine j_get (ci := 10) 35 (.int (gI σ 1 35)) jC_10 dX11_carryOn_133 kg_RX11_62 rfl (okM_1 _) (shM_1 _) (fvM_1_35 _) ?_
  replace h := bV_inv h
  obtain ⟨v35, ev35, h⟩ := h
  refine j_nmi ev35 ?_
  refine j_istore [(7, .int v35), (0, .ref 1), (1, .int x1), (3, .int x3), (4, .int x4), (5, .int x5), (6, .int x6)] dX11_carryOn_136 (Nat.le_of_ble_eq_true rfl) rfl ?_
  refine j_iconst (v := 0) dX11_carryOn_138 (by decide) ?_
  refine j_istore [(8, .int 0), (7, .int v35), (0, .ref 1), (1, .int x1), (3, .int x3), (4, .int x4), (5, .int x5), (6, .int x6)] dX11_carryOn_139 (Nat.le_of_ble_eq_true rfl) rfl ?_
  refine j_sub [(0, .ref 1), (1, .int x1), (3, .int x3), (4, .int x4), (5, .int x5), (6, .int x6), (7, .int v35), (8, .int 0)] [2, 3, 4, 5, 6, 7, 1, 0] rfl ?_
  exact jloop_ok (fun s => f_X11_carryOn_B141 s.2 x1 x3 x4 x5 x6 v35 s.1) (fun s => J yX11_carryOn cX11_carryOn 9 none 4 g rv μ' 141 [(0, .ref 1), (1, .int x1), (3, .int x3), (4, .int x4), (5, .int x5), (6, .int x6), (7, .int v35), (8, .int s.1)] [] (eM s.2)) Kp (fun s o hb hk => f_X11_carryOn_B141_ok (Kp := jsum (fun s => J yX11_carryOn cX11_carryOn 9 none 4 g rv μ' 141 [(0, .ref 1), (1, .int x1), (3, .int x3), (4, .int x4), (5, .int x5), (6, .int x6), (7, .int v35), (8, .int s.1)] [] (eM s.2)) Kp) s.2 x1 x3 x4 x5 x6 v35 s.1 hn (fun r s q => hr r s q) (fun s q => hc0 s q) (fun s q => q) o hb hk) jFuel _ _ h hK
def f_X11_carryOn_J99 (σ : jS) (x1 : Int32) (x3 : Int32) (x4 : Int32) (x5 : Int32) : Option ((Int32 × jS) ⊕ (Unit × jS)) :=
  bC (f_X11_side x5) fun r11 =>
  bC (f_X11_mayOf σ x5 r11) fun r12 =>
  if r12 = 0 then (bC (f_X11_behind σ x5 (-1)) fun r36 =>
  bD (f_X11_tryOn σ r36 (gI σ 1 35)) fun r37 σ38 =>
  f_X11_carryOn_J132 σ38 x1 x3 x4 x5 r12)
  else (f_X11_carryOn_J132 σ x1 x3 x4 x5 r12)
set_option maxHeartbeats 1000000 in
set_option maxRecDepth 20000 in
theorem f_X11_carryOn_J99_ok {g : Bool} {rv : Option Value} {μ' : jM} (σ : jS) (x1 : Int32) (x3 : Int32) (x4 : Int32) (x5 : Int32) {Kp : ((Int32 × jS) ⊕ (Unit × jS)) → Prop} (hn : Nat.ble nM μ'.1 = true ∧ Nat.ble wM μ'.2.1 = true) (hr : ∀ (r : Unit) (s : jS), Kp (.inr ((r, s))) → rv = none ∧ μ' = eM s) (hc0 : ∀ s : (Int32 × jS), Kp (.inl s) → J yX11_carryOn cX11_carryOn 9 none 4 g rv μ' 18 [(0, .ref 1), (1, .int x1), (3, .int x3), (4, .int s.1)] [] (eM s.2)) (o : ((Int32 × jS) ⊕ (Unit × jS))) (h : f_X11_carryOn_J99 σ x1 x3 x4 x5 = some o) (hK : Kp o) : J yX11_carryOn cX11_carryOn 9 none 4 g rv μ' 99 [(0, .ref 1), (1, .int x1), (3, .int x3), (4, .int x4), (5, .int x5)] [] (eM σ) := by
  unfold f_X11_carryOn_J99 at h
  refine j_aload_n 0 dX11_carryOn_99 rfl rfl ?_
  refine j_iload 4 dX11_carryOn_100 rfl ?_
  refine j_iload 4 dX11_carryOn_102 rfl ?_
  replace h := bC_inv h
  obtain ⟨r39, cr39, h⟩ := h
  refine j_callS (st1 := .int r39 :: _) (c_X11_side g _ cr39) jy_X11_side kt_yX11_side kl_RX11_277 dX11_carryOn_104 rfl rfl rfl rfl (jbr _) (jbr _) hn.1 hn.2 (Or.inr rfl) rfl ?_
  replace h := bC_inv h
  obtain ⟨r40, cr40, h⟩ := h
  refine j_callV (ci := 10) (st1 := .int r40 :: _) (c_X11_mayOf g cr40) jy_X11_mayOf ki_yX11_mayOf ks_yX11_mayOf kl_RX11_306 dX11_carryOn_107 rfl (okM_1 _) (shM_1 _) rfl rfl rfl rfl (jbr _) (jbr _) hn.1 hn.2 (Or.inr rfl) rfl ?_
  refine j_istore [(6, .int r40), (0, .ref 1), (1, .int x1), (3, .int x3), (4, .int x4), (5, .int x5)] dX11_carryOn_110 (Nat.le_of_ble_eq_true rfl) rfl ?_
  refine j_iload 0 dX11_carryOn_112 rfl ?_
  refine j_if_ne 132 dX11_carryOn_114 (by decide) (fun hc41 => ?_) (fun hc41 => ?_)
  · replace h := jif_f hc41 h
    refine j_sub [(0, .ref 1), (1, .int x1), (3, .int x3), (4, .int x4), (5, .int x5), (6, .int r40)] [1, 2, 3, 4, 5, 0] rfl ?_
    exact f_X11_carryOn_J132_ok σ x1 x3 x4 x5 r40 hn hr hc0 _ h hK
  · replace h := jif_t hc41 h
    refine j_aload_n 1 dX11_carryOn_117 rfl rfl ?_
    refine j_aload_n 1 dX11_carryOn_118 rfl rfl ?_
    refine j_iload 5 dX11_carryOn_119 rfl ?_
    refine j_iconst (v := (-1)) dX11_carryOn_121 (by decide) ?_
    replace h := bC_inv h
    obtain ⟨r42, cr42, h⟩ := h
    refine j_callV (ci := 10) (st1 := .int r42 :: _) (c_X11_behind g cr42) jy_X11_behind ki_yX11_behind ks_yX11_behind kl_RX11_337 dX11_carryOn_122 rfl (okM_1 _) (shM_1 _) rfl rfl rfl rfl (jbr _) (jbr _) hn.1 hn.2 (Or.inr rfl) rfl ?_
    refine j_aload_n 1 dX11_carryOn_125 rfl rfl ?_
    refine j_get (ci := 10) 35 (.int (gI σ 1 35)) jC_10 dX11_carryOn_126 kg_RX11_62 rfl (okM_1 _) (shM_1 _) (fvM_1_35 _) ?_
    replace h := bD_inv h
    obtain ⟨r43, σ44, cr43, h⟩ := h
    refine j_callV (ci := 10) (st1 := _) (c_X11_tryOn g cr43) jy_X11_tryOn ki_yX11_tryOn ks_yX11_tryOn kl_RX11_405 dX11_carryOn_129 rfl (okM_1 _) (shM_1 _) rfl rfl rfl rfl (jbr _) (jbr _) hn.1 hn.2 (Or.inr rfl) rfl ?_
    refine j_sub [(0, .ref 1), (1, .int x1), (3, .int x3), (4, .int x4), (5, .int x5), (6, .int r40)] [1, 2, 3, 4, 5, 0] rfl ?_
    exact f_X11_carryOn_J132_ok σ44 x1 x3 x4 x5 r40 hn hr hc0 _ h hK
def f_X11_carryOn_B18 (σ : jS) (x1 : Int32) (x3 : Int32) (x4 : Int32) : Option ((Int32 × jS) ⊕ (Unit × jS)) :=
  if (gI σ 1 55) ≤ x4 then (jw (f_X11_carryOn_J207 σ))
  else (bG (jin x4 120000) (
  bV (gI σ 30 (ix x4)) fun v7 =>
  bG (jin x4 120000) (
  bV (sI σ 1 35 (gI σ 31 (ix x4))) fun σ8 =>
  bC (f_X11_isEnded σ8 v7) fun r9 =>
  if r9 = 0 then (bC (f_X11_mayOf σ8 v7 0) fun r10 =>
  if r10 = 0 then (bC (f_X11_mayOf σ8 v7 1) fun r45 =>
  if r45 = 0 then (f_X11_carryOn_J201 σ8 x1 x3 x4)
  else (f_X11_carryOn_J99 σ8 x1 x3 x4 v7))
  else (f_X11_carryOn_J99 σ8 x1 x3 x4 v7))
  else (bG (jin (((256 : Int32) * (x1 ||| ((1 : Int32) <<< (x3 &&& 31)))) + (gI σ8 1 35)) 4096) (
  bV (sI σ8 29 (ix (((256 : Int32) * (x1 ||| ((1 : Int32) <<< (x3 &&& 31)))) + (gI σ8 1 35))) 1) fun σ46 =>
  f_X11_carryOn_J201 σ46 x1 x3 x4)))))
set_option maxHeartbeats 1000000 in
set_option maxRecDepth 20000 in
theorem f_X11_carryOn_B18_ok {g : Bool} {rv : Option Value} {μ' : jM} (σ : jS) (x1 : Int32) (x3 : Int32) (x4 : Int32) {Kp : ((Int32 × jS) ⊕ (Unit × jS)) → Prop} (hn : Nat.ble nM μ'.1 = true ∧ Nat.ble wM μ'.2.1 = true) (hr : ∀ (r : Unit) (s : jS), Kp (.inr ((r, s))) → rv = none ∧ μ' = eM s) (hc0 : ∀ s : (Int32 × jS), Kp (.inl s) → J yX11_carryOn cX11_carryOn 9 none 4 g rv μ' 18 [(0, .ref 1), (1, .int x1), (3, .int x3), (4, .int s.1)] [] (eM s.2)) (o : ((Int32 × jS) ⊕ (Unit × jS))) (h : f_X11_carryOn_B18 σ x1 x3 x4 = some o) (hK : Kp o) : J yX11_carryOn cX11_carryOn 9 none 4 g rv μ' 18 [(0, .ref 1), (1, .int x1), (3, .int x3), (4, .int x4)] [] (eM σ) := by
  unfold f_X11_carryOn_B18 at h
  refine j_iload 3 dX11_carryOn_18 rfl ?_
  refine j_aload_n 0 dX11_carryOn_20 rfl rfl ?_
  refine j_get (ci := 10) 55 (.int (gI σ 1 55)) jC_10 dX11_carryOn_21 kg_RX11_402 rfl (okM_1 _) (shM_1 _) (fvM_1_55 _) ?_
  refine j_icmp_ge 207 dX11_carryOn_24 (by decide) (fun hc47 => ?_) (fun hc47 => ?_)
  · replace h := jif_t hc47 h
    replace h := jw_inv h
    obtain ⟨o48, rfl, h⟩ := h
    refine j_sub [(0, .ref 1)] [0] rfl ?_
    exact f_X11_carryOn_J207_ok (Kp := fun o => Kp (.inr (o))) σ hn (fun r s q => hr r s q) _ h hK
  · replace h := jif_f hc47 h
    refine j_aload_n 0 dX11_carryOn_27 rfl rfl ?_
    refine j_get (ci := 10) 53 (.ref 30) jC_10 dX11_carryOn_28 kg_RX11_105 rfl (okM_1 _) (shM_1 _) (fvM_1_53 _) ?_
    refine j_iload 3 dX11_carryOn_31 rfl ?_
    replace h := bG_inv h
    obtain ⟨hi49, h⟩ := h
    refine j_iaload dX11_carryOn_33 (okM_30 _) (shM_30 _) (jin_spec hi49) ?_
    replace h := bV_inv h
    obtain ⟨v50, ev50, h⟩ := h
    refine j_nmi ev50 ?_
    refine j_istore [(5, .int v50), (0, .ref 1), (1, .int x1), (3, .int x3), (4, .int x4)] dX11_carryOn_34 (Nat.le_of_ble_eq_true rfl) rfl ?_
    refine j_aload_n 1 dX11_carryOn_36 rfl rfl ?_
    refine j_aload_n 1 dX11_carryOn_37 rfl rfl ?_
    refine j_get (ci := 10) 54 (.ref 31) jC_10 dX11_carryOn_38 kg_RX11_108 rfl (okM_1 _) (shM_1 _) (fvM_1_54 _) ?_
    refine j_iload 4 dX11_carryOn_41 rfl ?_
    replace h := bG_inv h
    obtain ⟨hi51, h⟩ := h
    refine j_iaload dX11_carryOn_43 (okM_31 _) (shM_31 _) (jin_spec hi51) ?_
    replace h := bV_inv h
    obtain ⟨σ52, eσ52, h⟩ := h
    refine j_putI 35 jC_10 dX11_carryOn_44 kg_RX11_62 (Or.inl ff_10_35) rfl fk_10_35 (fn_10_35 _) (okM_1 _) (shM_1 _) ?_
    refine j_mem (congrArg eM eσ52) ?_
    refine j_aload_n 1 dX11_carryOn_47 rfl rfl ?_
    refine j_iload 0 dX11_carryOn_48 rfl ?_
    replace h := bC_inv h
    obtain ⟨r53, cr53, h⟩ := h
    refine j_callV (ci := 10) (st1 := .int r53 :: _) (c_X11_isEnded g cr53) jy_X11_isEnded ki_yX11_isEnded ks_yX11_isEnded kl_RX11_303 dX11_carryOn_50 rfl (okM_1 _) (shM_1 _) rfl rfl rfl rfl (jbr _) (jbr _) hn.1 hn.2 (Or.inr rfl) rfl ?_
    refine j_if_eq 79 dX11_carryOn_53 (by decide) (fun hc54 => ?_) (fun hc54 => ?_)
    · replace h := jif_t hc54 h
      refine j_aload_n 1 dX11_carryOn_79 rfl rfl ?_
      refine j_iload 0 dX11_carryOn_80 rfl ?_
      refine j_iconst (v := 0) dX11_carryOn_82 (by decide) ?_
      replace h := bC_inv h
      obtain ⟨r55, cr55, h⟩ := h
      refine j_callV (ci := 10) (st1 := .int r55 :: _) (c_X11_mayOf g cr55) jy_X11_mayOf ki_yX11_mayOf ks_yX11_mayOf kl_RX11_306 dX11_carryOn_83 rfl (okM_1 _) (shM_1 _) rfl rfl rfl rfl (jbr _) (jbr _) hn.1 hn.2 (Or.inr rfl) rfl ?_
      refine j_if_ne 99 dX11_carryOn_86 (by decide) (fun hc56 => ?_) (fun hc56 => ?_)
      · replace h := jif_f hc56 h
        refine j_sub [(0, .ref 1), (1, .int x1), (3, .int x3), (4, .int x4), (5, .int v50)] [1, 2, 3, 4, 0] rfl ?_
        exact f_X11_carryOn_J99_ok σ52 x1 x3 x4 v50 hn hr hc0 _ h hK
      · replace h := jif_t hc56 h
        refine j_aload_n 1 dX11_carryOn_89 rfl rfl ?_
        refine j_iload 0 dX11_carryOn_90 rfl ?_
        refine j_iconst (v := 1) dX11_carryOn_92 (by decide) ?_
        replace h := bC_inv h
        obtain ⟨r57, cr57, h⟩ := h
        refine j_callV (ci := 10) (st1 := .int r57 :: _) (c_X11_mayOf g cr57) jy_X11_mayOf ki_yX11_mayOf ks_yX11_mayOf kl_RX11_306 dX11_carryOn_93 rfl (okM_1 _) (shM_1 _) rfl rfl rfl rfl (jbr _) (jbr _) hn.1 hn.2 (Or.inr rfl) rfl ?_
        refine j_if_eq 201 dX11_carryOn_96 (by decide) (fun hc58 => ?_) (fun hc58 => ?_)
        · replace h := jif_t hc58 h
          refine j_sub [(0, .ref 1), (1, .int x1), (3, .int x3), (4, .int x4)] [1, 2, 3, 4] rfl ?_
          exact f_X11_carryOn_J201_ok σ52 x1 x3 x4 hn hr hc0 _ h hK
        · replace h := jif_f hc58 h
          refine j_sub [(0, .ref 1), (1, .int x1), (3, .int x3), (4, .int x4), (5, .int v50)] [1, 2, 3, 4, 0] rfl ?_
          exact f_X11_carryOn_J99_ok σ52 x1 x3 x4 v50 hn hr hc0 _ h hK
    · replace h := jif_f hc54 h
      refine j_aload_n 1 dX11_carryOn_56 rfl rfl ?_
      refine j_get (ci := 10) 52 (.ref 29) jC_10 dX11_carryOn_57 kg_RX11_101 rfl (okM_1 _) (shM_1 _) (fvM_1_52 _) ?_
      refine j_sipush (v := 256) dX11_carryOn_60 (by decide) ?_
      refine j_iload_n 2 dX11_carryOn_63 rfl rfl ?_
      refine j_iconst (v := 1) dX11_carryOn_64 (by decide) ?_
      refine j_iload_n 3 dX11_carryOn_65 rfl rfl ?_
      refine j_ishl dX11_carryOn_66 ?_
      refine j_ior dX11_carryOn_67 ?_
      refine j_imul dX11_carryOn_68 ?_
      refine j_aload_n 1 dX11_carryOn_69 rfl rfl ?_
      refine j_get (ci := 10) 35 (.int (gI σ52 1 35)) jC_10 dX11_carryOn_70 kg_RX11_62 rfl (okM_1 _) (shM_1 _) (fvM_1_35 _) ?_
      refine j_iadd dX11_carryOn_73 ?_
      refine j_iconst (v := 1) dX11_carryOn_74 (by decide) ?_
      replace h := bG_inv h
      obtain ⟨hi59, h⟩ := h
      refine j_bastore dX11_carryOn_75 (okM_29 _) (shM_29 _) (jin_spec hi59) ?_
      rw [jb_vp (x := 1) rfl]
      replace h := bV_inv h
      obtain ⟨σ60, eσ60, h⟩ := h
      refine j_mem (congrArg eM eσ60) ?_
      refine j_goto 201 dX11_carryOn_76 (by decide) ?_
      refine j_sub [(0, .ref 1), (1, .int x1), (3, .int x3), (4, .int x4)] [1, 2, 3, 4] rfl ?_
      exact f_X11_carryOn_J201_ok σ60 x1 x3 x4 hn hr hc0 _ h hK
def f_X11_carryOn (σ : jS) (x1 : Int32) (x2 : Int32) (x3 : Int32) : Option (Unit × jS) :=
  bV (sI σ 1 55 0) fun σ1 =>
  bC (f_X11_toldCode σ1 x3) fun r2 =>
  bD (f_X11_tryOn σ1 r2 x2) fun r3 σ4 =>
  jloop jFuel (fun s => f_X11_carryOn_B18 s.2 x1 x3 s.1) (0, σ4)
set_option maxHeartbeats 1000000 in
set_option maxRecDepth 20000 in
theorem f_X11_carryOn_ok {g : Bool} {rv : Option Value} {μ' : jM} (σ : jS) (x1 : Int32) (x2 : Int32) (x3 : Int32) {Kp : (Unit × jS) → Prop} (hn : Nat.ble nM μ'.1 = true ∧ Nat.ble wM μ'.2.1 = true) (hr : ∀ (r : Unit) (s : jS), Kp ((r, s)) → rv = none ∧ μ' = eM s) (o : (Unit × jS)) (h : f_X11_carryOn σ x1 x2 x3 = some o) (hK : Kp o) : J yX11_carryOn cX11_carryOn 9 none 4 g rv μ' 0 [(0, .ref 1), (1, .int x1), (2, .int x2), (3, .int x3)] [] (eM σ) := by
  unfold f_X11_carryOn at h
  refine j_aload_n 0 dX11_carryOn_0 rfl rfl ?_
  refine j_iconst (v := 0) dX11_carryOn_1 (by decide) ?_
  replace h := bV_inv h
  obtain ⟨σ61, eσ61, h⟩ := h
  refine j_putI 55 jC_10 dX11_carryOn_2 kg_RX11_402 (Or.inl ff_10_55) rfl fk_10_55 (fn_10_55 _) (okM_1 _) (shM_1 _) ?_
  refine j_mem (congrArg eM eσ61) ?_
  refine j_aload_n 0 dX11_carryOn_5 rfl rfl ?_
  refine j_aload_n 0 dX11_carryOn_6 rfl rfl ?_
  refine j_iload_n 3 dX11_carryOn_7 rfl rfl ?_
  replace h := bC_inv h
  obtain ⟨r62, cr62, h⟩ := h
  refine j_callV (ci := 10) (st1 := .int r62 :: _) (c_X11_toldCode g cr62) jy_X11_toldCode ki_yX11_toldCode ks_yX11_toldCode kl_RX11_246 dX11_carryOn_8 rfl (okM_1 _) (shM_1 _) rfl rfl rfl rfl (jbr _) (jbr _) hn.1 hn.2 (Or.inr rfl) rfl ?_
  refine j_iload_n 2 dX11_carryOn_11 rfl rfl ?_
  replace h := bD_inv h
  obtain ⟨r63, σ64, cr63, h⟩ := h
  refine j_callV (ci := 10) (st1 := _) (c_X11_tryOn g cr63) jy_X11_tryOn ki_yX11_tryOn ks_yX11_tryOn kl_RX11_405 dX11_carryOn_12 rfl (okM_1 _) (shM_1 _) rfl rfl rfl rfl (jbr _) (jbr _) hn.1 hn.2 (Or.inr rfl) rfl ?_
  refine j_iconst (v := 0) dX11_carryOn_15 (by decide) ?_
  refine j_istore [(4, .int 0), (0, .ref 1), (1, .int x1), (2, .int x2), (3, .int x3)] dX11_carryOn_16 (Nat.le_of_ble_eq_true rfl) rfl ?_
  refine j_sub [(0, .ref 1), (1, .int x1), (3, .int x3), (4, .int 0)] [1, 2, 4, 0] rfl ?_
  exact jloop_ok (fun s => f_X11_carryOn_B18 s.2 x1 x3 s.1) (fun s => J yX11_carryOn cX11_carryOn 9 none 4 g rv μ' 18 [(0, .ref 1), (1, .int x1), (3, .int x3), (4, .int s.1)] [] (eM s.2)) Kp (fun s o hb hk => f_X11_carryOn_B18_ok (Kp := jsum (fun s => J yX11_carryOn cX11_carryOn 9 none 4 g rv μ' 18 [(0, .ref 1), (1, .int x1), (3, .int x3), (4, .int s.1)] [] (eM s.2)) Kp) s.2 x1 x3 s.1 hn (fun r s q => hr r s q) (fun s q => q) o hb hk) jFuel _ _ h hK
theorem c_X11_carryOn (g : Bool) {σ : jS} {x1 : Int32} {x2 : Int32} {x3 : Int32} {r : Unit} {σ2 : jS} (h : f_X11_carryOn σ x1 x2 x3 = some (r, σ2)) : Cn yX11_carryOn cX11_carryOn 9 none 4 g [.ref 1, .int x1, .int x2, .int x3] (eM σ) none (eM σ2) :=
  Cn_of (by decide) (Nat.le_refl _) (Nat.le_refl _) (Nat.le_of_ble_eq_true rfl) (f_X11_carryOn_ok (Kp := (fun o => o = (r, σ2))) σ x1 x2 x3 ⟨jbr _, jbr _⟩ (fun r2 s2 q => by cases q; exact ⟨rfl, rfl⟩) _ h rfl)
