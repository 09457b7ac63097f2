def f_X11_mostSet_J146 (σ : jS) (x2 : Int32) : Option (Int32 × jS) :=
  some ((x2, σ))
set_option maxHeartbeats 1000000 in
set_option maxRecDepth 20000 in
theorem f_X11_mostSet_J146_ok {g : Bool} {rv : Option Value} {μ' : jM} (σ : jS) (x2 : Int32) {Kp : (Int32 × jS) → Prop} (hn : Nat.ble nM μ'.1 = true ∧ Nat.ble wM μ'.2.1 = true) (hr : ∀ (r : Int32) (s : jS), Kp ((r, s)) → rv = some (.int r) ∧ μ' = eM s) (o : (Int32 × jS)) (h : f_X11_mostSet_J146 σ x2 = some o) (hK : Kp o) : J yX11_mostSet cX11_mostSet 7 (some .int) 5 g rv μ' 146 [(2, .int x2)] [] (eM σ) := by
  unfold f_X11_mostSet_J146 at h
  refine j_iload_n 0 dX11_mostSet_146 rfl rfl ?_
  replace h := Option.some.inj h
  subst h
  obtain ⟨hr1, hr2⟩ := hr _ _ hK
  exact j_iret dX11_mostSet_147 hr1 hr2
def f_X11_mostSet_J139 (σ : jS) (x3 : Int32) (y0 : Int32) : Option ((Int32 × Int32 × jS) ⊕ (Int32 × jS)) :=
  bV (x3 + 1) fun v2 =>
  some (.inl (y0, v2, σ))
set_option maxHeartbeats 1000000 in
set_option maxRecDepth 20000 in
theorem f_X11_mostSet_J139_ok {g : Bool} {rv : Option Value} {μ' : jM} (σ : jS) (x3 : Int32) (y0 : Int32) {Kp : ((Int32 × Int32 × jS) ⊕ (Int32 × jS)) → Prop} (hn : Nat.ble nM μ'.1 = true ∧ Nat.ble wM μ'.2.1 = true) (hr : ∀ (r : Int32) (s : jS), Kp (.inr ((r, s))) → rv = some (.int r) ∧ μ' = eM s) (hc0 : ∀ s : (Int32 × Int32 × jS), Kp (.inl s) → J yX11_mostSet cX11_mostSet 7 (some .int) 5 g rv μ' 33 [(0, .ref 1), (2, .int s.1), (3, .int s.2.1)] [] (eM s.2.2)) (o : ((Int32 × Int32 × jS) ⊕ (Int32 × jS))) (h : f_X11_mostSet_J139 σ x3 y0 = some o) (hK : Kp o) : J yX11_mostSet cX11_mostSet 7 (some .int) 5 g rv μ' 139 [(0, .ref 1), (3, .int x3)] [.int y0] (eM σ) := by
  unfold f_X11_mostSet_J139 at h
  refine j_istore_n [(2, .int y0), (0, .ref 1), (3, .int x3)] dX11_mostSet_139 rfl (Nat.le_of_ble_eq_true rfl) rfl ?_
  replace h := bV_inv h
  obtain ⟨v3, ev3, h⟩ := h
  refine j_iinc (v := v3) [(3, .int v3), (2, .int y0), (0, .ref 1)] 2 dX11_mostSet_140 rfl (by rw [ev3]; rfl) (Nat.le_of_ble_eq_true rfl) rfl ?_
  refine j_goto 33 dX11_mostSet_143 (by decide) ?_
  replace h := Option.some.inj h
  subst h
  refine j_sub [(0, .ref 1), (2, .int y0), (3, .int v3)] [2, 1, 0] rfl ?_
  exact hc0 _ hK
def f_X11_mostSet_J138 (σ : jS) (x2 : Int32) (x3 : Int32) : Option ((Int32 × Int32 × jS) ⊕ (Int32 × jS)) :=
  f_X11_mostSet_J139 σ x3 x2
set_option maxHeartbeats 1000000 in
set_option maxRecDepth 20000 in
theorem f_X11_mostSet_J138_ok {g : Bool} {rv : Option Value} {μ' : jM} (σ : jS) (x2 : Int32) (x3 : Int32) {Kp : ((Int32 × Int32 × jS) ⊕ (Int32 × jS)) → Prop} (hn : Nat.ble nM μ'.1 = true ∧ Nat.ble wM μ'.2.1 = true) (hr : ∀ (r : Int32) (s : jS), Kp (.inr ((r, s))) → rv = some (.int r) ∧ μ' = eM s) (hc0 : ∀ s : (Int32 × Int32 × jS), Kp (.inl s) → J yX11_mostSet cX11_mostSet 7 (some .int) 5 g rv μ' 33 [(0, .ref 1), (2, .int s.1), (3, .int s.2.1)] [] (eM s.2.2)) (o : ((Int32 × Int32 × jS) ⊕ (Int32 × jS))) (h : f_X11_mostSet_J138 σ x2 x3 = some o) (hK : Kp o) : J yX11_mostSet cX11_mostSet 7 (some .int) 5 g rv μ' 138 [(0, .ref 1), (2, .int x2), (3, .int x3)] [] (eM σ) := by
  unfold f_X11_mostSet_J138 at h
  refine j_iload_n 1 dX11_mostSet_138 rfl rfl ?_
  refine j_sub [(0, .ref 1), (3, .int x3)] [0, 2] rfl ?_
  exact f_X11_mostSet_J139_ok σ x3 x2 hn hr hc0 _ h hK
def f_X11_mostSet_J118 (σ : jS) (x2 : Int32) (x3 : Int32) (x4 : Int32) : Option ((Int32 × Int32 × jS) ⊕ (Int32 × jS)) :=
  if x4 = 0 then (f_X11_mostSet_J138 σ x2 x3)
  else (bC (f_X11_bits x3) fun r4 =>
  bC (f_X11_bits x2) fun r5 =>
  if r4 ≤ r5 then (f_X11_mostSet_J138 σ x2 x3)
  else (f_X11_mostSet_J139 σ x3 x3))
set_option maxHeartbeats 1000000 in
set_option maxRecDepth 20000 in
theorem f_X11_mostSet_J118_ok {g : Bool} {rv : Option Value} {μ' : jM} (σ : jS) (x2 : Int32) (x3 : Int32) (x4 : Int32) {Kp : ((Int32 × Int32 × jS) ⊕ (Int32 × jS)) → Prop} (hn : Nat.ble nM μ'.1 = true ∧ Nat.ble wM μ'.2.1 = true) (hr : ∀ (r : Int32) (s : jS), Kp (.inr ((r, s))) → rv = some (.int r) ∧ μ' = eM s) (hc0 : ∀ s : (Int32 × Int32 × jS), Kp (.inl s) → J yX11_mostSet cX11_mostSet 7 (some .int) 5 g rv μ' 33 [(0, .ref 1), (2, .int s.1), (3, .int s.2.1)] [] (eM s.2.2)) (o : ((Int32 × Int32 × jS) ⊕ (Int32 × jS))) (h : f_X11_mostSet_J118 σ x2 x3 x4 = some o) (hK : Kp o) : J yX11_mostSet cX11_mostSet 7 (some .int) 5 g rv μ' 118 [(0, .ref 1), (2, .int x2), (3, .int x3), (4, .int x4)] [] (eM σ) := by
  unfold f_X11_mostSet_J118 at h
  refine j_iload 3 dX11_mostSet_118 rfl ?_
  refine j_if_eq 138 dX11_mostSet_120 (by decide) (fun hc6 => ?_) (fun hc6 => ?_)
  · replace h := jif_t hc6 h
    refine j_sub [(0, .ref 1), (2, .int x2), (3, .int x3)] [0, 1, 2] rfl ?_
    exact f_X11_mostSet_J138_ok σ x2 x3 hn hr hc0 _ h hK
  · replace h := jif_f hc6 h
    refine j_iload_n 2 dX11_mostSet_123 rfl rfl ?_
    replace h := bC_inv h
    obtain ⟨r7, cr7, h⟩ := h
    refine j_callS (st1 := .int r7 :: _) (c_X11_bits g _ cr7) jy_X11_bits kt_yX11_bits kl_RX11_328 dX11_mostSet_124 rfl rfl rfl rfl (jbr _) (jbr _) hn.1 hn.2 (Or.inr rfl) rfl ?_
    refine j_iload_n 1 dX11_mostSet_127 rfl rfl ?_
    replace h := bC_inv h
    obtain ⟨r8, cr8, h⟩ := h
    refine j_callS (st1 := .int r8 :: _) (c_X11_bits g _ cr8) jy_X11_bits kt_yX11_bits kl_RX11_328 dX11_mostSet_128 rfl rfl rfl rfl (jbr _) (jbr _) hn.1 hn.2 (Or.inr rfl) rfl ?_
    refine j_icmp_le 138 dX11_mostSet_131 (by decide) (fun hc9 => ?_) (fun hc9 => ?_)
    · replace h := jif_t hc9 h
      refine j_sub [(0, .ref 1), (2, .int x2), (3, .int x3)] [0, 1, 2] rfl ?_
      exact f_X11_mostSet_J138_ok σ x2 x3 hn hr hc0 _ h hK
    · replace h := jif_f hc9 h
      refine j_iload_n 2 dX11_mostSet_134 rfl rfl ?_
      refine j_goto 139 dX11_mostSet_135 (by decide) ?_
      refine j_sub [(0, .ref 1), (3, .int x3)] [0, 2] rfl ?_
      exact f_X11_mostSet_J139_ok σ x3 x3 hn hr hc0 _ h hK
def f_X11_mostSet_J112 (σ : jS) (x2 : Int32) (x3 : Int32) (x4 : Int32) (x5 : Int32) : Option ((Int32 × Int32 × jS) ⊕ ((Int32 × Int32 × jS) ⊕ (Int32 × jS))) :=
  bV (x5 + 1) fun v10 =>
  some (.inl (x4, v10, σ))
set_option maxHeartbeats 1000000 in
set_option maxRecDepth 20000 in
theorem f_X11_mostSet_J112_ok {g : Bool} {rv : Option Value} {μ' : jM} (σ : jS) (x2 : Int32) (x3 : Int32) (x4 : Int32) (x5 : Int32) {Kp : ((Int32 × Int32 × jS) ⊕ ((Int32 × Int32 × jS) ⊕ (Int32 × jS))) → Prop} (hn : Nat.ble nM μ'.1 = true ∧ Nat.ble wM μ'.2.1 = true) (hr : ∀ (r : Int32) (s : jS), Kp (.inr (.inr ((r, s)))) → rv = some (.int r) ∧ μ' = eM s) (hc0 : ∀ s : (Int32 × Int32 × jS), Kp (.inr (.inl s)) → J yX11_mostSet cX11_mostSet 7 (some .int) 5 g rv μ' 33 [(0, .ref 1), (2, .int s.1), (3, .int s.2.1)] [] (eM s.2.2)) (hc1 : ∀ s : (Int32 × Int32 × jS), Kp (.inl s) → J yX11_mostSet cX11_mostSet 7 (some .int) 5 g rv μ' 49 [(0, .ref 1), (2, .int x2), (3, .int x3), (4, .int s.1), (5, .int s.2.1)] [] (eM s.2.2)) (o : ((Int32 × Int32 × jS) ⊕ ((Int32 × Int32 × jS) ⊕ (Int32 × jS)))) (h : f_X11_mostSet_J112 σ x2 x3 x4 x5 = some o) (hK : Kp o) : J yX11_mostSet cX11_mostSet 7 (some .int) 5 g rv μ' 112 [(0, .ref 1), (2, .int x2), (3, .int x3), (4, .int x4), (5, .int x5)] [] (eM σ) := by
  unfold f_X11_mostSet_J112 at h
  replace h := bV_inv h
  obtain ⟨v11, ev11, h⟩ := h
  refine j_iinc (v := v11) [(5, .int v11), (0, .ref 1), (2, .int x2), (3, .int x3), (4, .int x4)] 4 dX11_mostSet_112 rfl (by rw [ev11]; rfl) (Nat.le_of_ble_eq_true rfl) rfl ?_
  refine j_goto 49 dX11_mostSet_115 (by decide) ?_
  replace h := Option.some.inj h
  subst h
  refine j_sub [(0, .ref 1), (2, .int x2), (3, .int x3), (4, .int x4), (5, .int v11)] [1, 2, 3, 4, 0] rfl ?_
  exact hc1 _ hK
def f_X11_mostSet_J106 (σ : jS) (x2 : Int32) (x3 : Int32) (x4 : Int32) (x5 : Int32) (x6 : Int32) : Option ((Int32 × jS) ⊕ ((Int32 × Int32 × jS) ⊕ ((Int32 × Int32 × jS) ⊕ (Int32 × jS)))) :=
  bV (x6 + 1) fun v13 =>
  some (.inl (v13, σ))
set_option maxHeartbeats 1000000 in
set_option maxRecDepth 20000 in
theorem f_X11_mostSet_J106_ok {g : Bool} {rv : Option Value} {μ' : jM} (σ : jS) (x2 : Int32) (x3 : Int32) (x4 : Int32) (x5 : Int32) (x6 : Int32) {Kp : ((Int32 × jS) ⊕ ((Int32 × Int32 × jS) ⊕ ((Int32 × Int32 × jS) ⊕ (Int32 × jS)))) → Prop} (hn : Nat.ble nM μ'.1 = true ∧ Nat.ble wM μ'.2.1 = true) (hr : ∀ (r : Int32) (s : jS), Kp (.inr (.inr (.inr ((r, s))))) → rv = some (.int r) ∧ μ' = eM s) (hc0 : ∀ s : (Int32 × Int32 × jS), Kp (.inr (.inr (.inl s))) → J yX11_mostSet cX11_mostSet 7 (some .int) 5 g rv μ' 33 [(0, .ref 1), (2, .int s.1), (3, .int s.2.1)] [] (eM s.2.2)) (hc1 : ∀ s : (Int32 × Int32 × jS), Kp (.inr (.inl s)) → J yX11_mostSet cX11_mostSet 7 (some .int) 5 g rv μ' 49 [(0, .ref 1), (2, .int x2), (3, .int x3), (4, .int s.1), (5, .int s.2.1)] [] (eM s.2.2)) (hc2 : ∀ s : (Int32 × jS), Kp (.inl s) → J yX11_mostSet cX11_mostSet 7 (some .int) 5 g rv μ' 79 [(0, .ref 1), (2, .int x2), (3, .int x3), (4, .int x4), (5, .int x5), (6, .int s.1)] [] (eM s.2)) (o : ((Int32 × jS) ⊕ ((Int32 × Int32 × jS) ⊕ ((Int32 × Int32 × jS) ⊕ (Int32 × jS))))) (h : f_X11_mostSet_J106 σ x2 x3 x4 x5 x6 = some o) (hK : Kp o) : J yX11_mostSet cX11_mostSet 7 (some .int) 5 g rv μ' 106 [(0, .ref 1), (2, .int x2), (3, .int x3), (4, .int x4), (5, .int x5), (6, .int x6)] [] (eM σ) := by
  unfold f_X11_mostSet_J106 at h
  replace h := bV_inv h
  obtain ⟨v14, ev14, h⟩ := h
  refine j_iinc (v := v14) [(6, .int v14), (0, .ref 1), (2, .int x2), (3, .int x3), (4, .int x4), (5, .int x5)] 5 dX11_mostSet_106 rfl (by rw [ev14]; rfl) (Nat.le_of_ble_eq_true rfl) rfl ?_
  refine j_goto 79 dX11_mostSet_109 (by decide) ?_
  replace h := Option.some.inj h
  subst h
  refine j_sub [(0, .ref 1), (2, .int x2), (3, .int x3), (4, .int x4), (5, .int x5), (6, .int v14)] [1, 2, 3, 4, 5, 0] rfl ?_
  exact hc2 _ hK
def f_X11_mostSet_B79 (σ : jS) (x2 : Int32) (x3 : Int32) (x4 : Int32) (x5 : Int32) (x6 : Int32) : Option ((Int32 × jS) ⊕ ((Int32 × Int32 × jS) ⊕ ((Int32 × Int32 × jS) ⊕ (Int32 × jS)))) :=
  if (gI σ 1 8) ≤ x6 then (jw (f_X11_mostSet_J112 σ x2 x3 x4 x5))
  else (bC (f_X11_has x3 x6) fun r12 =>
  if r12 = 0 then (bD (f_X11_carryOn σ x3 x5 x6) fun r15 σ16 =>
  f_X11_mostSet_J106 σ16 x2 x3 x4 x5 x6)
  else (f_X11_mostSet_J106 σ x2 x3 x4 x5 x6))
set_option maxHeartbeats 1000000 in
set_option maxRecDepth 20000 in
theorem f_X11_mostSet_B79_ok {g : Bool} {rv : Option Value} {μ' : jM} (σ : jS) (x2 : Int32) (x3 : Int32) (x4 : Int32) (x5 : Int32) (x6 : Int32) {Kp : ((Int32 × jS) ⊕ ((Int32 × Int32 × jS) ⊕ ((Int32 × Int32 × jS) ⊕ (Int32 × jS)))) → Prop} (hn : Nat.ble nM μ'.1 = true ∧ Nat.ble wM μ'.2.1 = true) (hr : ∀ (r : Int32) (s : jS), Kp (.inr (.inr (.inr ((r, s))))) → rv = some (.int r) ∧ μ' = eM s) (hc0 : ∀ s : (Int32 × Int32 × jS), Kp (.inr (.inr (.inl s))) → J yX11_mostSet cX11_mostSet 7 (some .int) 5 g rv μ' 33 [(0, .ref 1), (2, .int s.1), (3, .int s.2.1)] [] (eM s.2.2)) (hc1 : ∀ s : (Int32 × Int32 × jS), Kp (.inr (.inl s)) → J yX11_mostSet cX11_mostSet 7 (some .int) 5 g rv μ' 49 [(0, .ref 1), (2, .int x2), (3, .int x3), (4, .int s.1), (5, .int s.2.1)] [] (eM s.2.2)) (hc2 : ∀ s : (Int32 × jS), Kp (.inl s) → J yX11_mostSet cX11_mostSet 7 (some .int) 5 g rv μ' 79 [(0, .ref 1), (2, .int x2), (3, .int x3), (4, .int x4), (5, .int x5), (6, .int s.1)] [] (eM s.2)) (o : ((Int32 × jS) ⊕ ((Int32 × Int32 × jS) ⊕ ((Int32 × Int32 × jS) ⊕ (Int32 × jS))))) (h : f_X11_mostSet_B79 σ x2 x3 x4 x5 x6 = some o) (hK : Kp o) : J yX11_mostSet cX11_mostSet 7 (some .int) 5 g rv μ' 79 [(0, .ref 1), (2, .int x2), (3, .int x3), (4, .int x4), (5, .int x5), (6, .int x6)] [] (eM σ) := by
  unfold f_X11_mostSet_B79 at h
  refine j_iload 5 dX11_mostSet_79 rfl ?_
  refine j_aload_n 0 dX11_mostSet_81 rfl rfl ?_
  refine j_get (ci := 10) 8 (.int (gI σ 1 8)) jC_10 dX11_mostSet_82 kg_RX11_148 rfl (okM_1 _) (shM_1 _) (fvM_1_8 _) ?_
  refine j_icmp_ge 112 dX11_mostSet_85 (by decide) (fun hc17 => ?_) (fun hc17 => ?_)
  · replace h := jif_t hc17 h
    replace h := jw_inv h
    obtain ⟨o18, rfl, h⟩ := h
    refine j_sub [(0, .ref 1), (2, .int x2), (3, .int x3), (4, .int x4), (5, .int x5)] [0, 1, 2, 3, 4] rfl ?_
    exact f_X11_mostSet_J112_ok (Kp := fun o => Kp (.inr (o))) σ x2 x3 x4 x5 hn (fun r s q => hr r s q) (fun s q => hc0 s q) (fun s q => hc1 s q) _ h hK
  · replace h := jif_f hc17 h
    refine j_iload_n 2 dX11_mostSet_88 rfl rfl ?_
    refine j_iload 5 dX11_mostSet_89 rfl ?_
    replace h := bC_inv h
    obtain ⟨r19, cr19, h⟩ := h
    refine j_callS (st1 := .int r19 :: _) (c_X11_has g _ cr19) jy_X11_has kt_yX11_has kl_RX11_287 dX11_mostSet_91 rfl rfl rfl rfl (jbr _) (jbr _) hn.1 hn.2 (Or.inr rfl) rfl ?_
    refine j_if_ne 106 dX11_mostSet_94 (by decide) (fun hc20 => ?_) (fun hc20 => ?_)
    · replace h := jif_f hc20 h
      exact f_X11_mostSet_J106_ok σ x2 x3 x4 x5 x6 hn hr hc0 hc1 hc2 _ h hK
    · replace h := jif_t hc20 h
      refine j_aload_n 0 dX11_mostSet_97 rfl rfl ?_
      refine j_iload_n 2 dX11_mostSet_98 rfl rfl ?_
      refine j_iload 4 dX11_mostSet_99 rfl ?_
      refine j_iload 5 dX11_mostSet_101 rfl ?_
      replace h := bD_inv h
      obtain ⟨r21, σ22, cr21, h⟩ := h
      refine j_callV (ci := 10) (st1 := _) (c_X11_carryOn g cr21) jy_X11_carryOn ki_yX11_carryOn ks_yX11_carryOn kl_RX11_411 dX11_mostSet_103 rfl (okM_1 _) (shM_1 _) rfl rfl rfl rfl (jbr _) (jbr _) hn.1 hn.2 (Or.inr rfl) rfl ?_
      exact f_X11_mostSet_J106_ok σ22 x2 x3 x4 x5 x6 hn hr hc0 hc1 hc2 _ h hK
def f_X11_mostSet_B49 (σ : jS) (x2 : Int32) (x3 : Int32) (x4 : Int32) (x5 : Int32) : Option ((Int32 × Int32 × jS) ⊕ ((Int32 × Int32 × jS) ⊕ (Int32 × jS))) :=
  if 256 ≤ x5 then (jw (f_X11_mostSet_J118 σ x2 x3 x4))
  else (bG (jin (((256 : Int32) * x3) + x5) 4096) (
  if (gI σ 29 (ix (((256 : Int32) * x3) + x5))) = 0 then (f_X11_mostSet_J112 σ x2 x3 x4 x5)
  else (jloop jFuel (fun s => f_X11_mostSet_B79 s.2 x2 x3 1 x5 s.1) (0, σ))))
set_option maxHeartbeats 1000000 in
set_option maxRecDepth 20000 in
theorem f_X11_mostSet_B49_ok {g : Bool} {rv : Option Value} {μ' : jM} (σ : jS) (x2 : Int32) (x3 : Int32) (x4 : Int32) (x5 : Int32) {Kp : ((Int32 × Int32 × jS) ⊕ ((Int32 × Int32 × jS) ⊕ (Int32 × jS))) → Prop} (hn : Nat.ble nM μ'.1 = true ∧ Nat.ble wM μ'.2.1 = true) (hr : ∀ (r : Int32) (s : jS), Kp (.inr (.inr ((r, s)))) → rv = some (.int r) ∧ μ' = eM s) (hc0 : ∀ s : (Int32 × Int32 × jS), Kp (.inr (.inl s)) → J yX11_mostSet cX11_mostSet 7 (some .int) 5 g rv μ' 33 [(0, .ref 1), (2, .int s.1), (3, .int s.2.1)] [] (eM s.2.2)) (hc1 : ∀ s : (Int32 × Int32 × jS), Kp (.inl s) → J yX11_mostSet cX11_mostSet 7 (some .int) 5 g rv μ' 49 [(0, .ref 1), (2, .int x2), (3, .int x3), (4, .int s.1), (5, .int s.2.1)] [] (eM s.2.2)) (o : ((Int32 × Int32 × jS) ⊕ ((Int32 × Int32 × jS) ⊕ (Int32 × jS)))) (h : f_X11_mostSet_B49 σ x2 x3 x4 x5 = some o) (hK : Kp o) : J yX11_mostSet cX11_mostSet 7 (some .int) 5 g rv μ' 49 [(0, .ref 1), (2, .int x2), (3, .int x3), (4, .int x4), (5, .int x5)] [] (eM σ) := by
  unfold f_X11_mostSet_B49 at h
  refine j_iload 4 dX11_mostSet_49 rfl ?_
  refine j_sipush (v := 256) dX11_mostSet_51 (by decide) ?_
  refine j_icmp_ge 118 dX11_mostSet_54 (by decide) (fun hc23 => ?_) (fun hc23 => ?_)
  · replace h := jif_t hc23 h
    replace h := jw_inv h
    obtain ⟨o24, rfl, h⟩ := h
    refine j_sub [(0, .ref 1), (2, .int x2), (3, .int x3), (4, .int x4)] [0, 1, 2, 3] rfl ?_
    exact f_X11_mostSet_J118_ok (Kp := fun o => Kp (.inr (o))) σ x2 x3 x4 hn (fun r s q => hr r s q) (fun s q => hc0 s q) _ h hK
  · replace h := jif_f hc23 h
    refine j_aload_n 0 dX11_mostSet_57 rfl rfl ?_
    refine j_get (ci := 10) 52 (.ref 29) jC_10 dX11_mostSet_58 kg_RX11_101 rfl (okM_1 _) (shM_1 _) (fvM_1_52 _) ?_
    refine j_sipush (v := 256) dX11_mostSet_61 (by decide) ?_
    refine j_iload_n 2 dX11_mostSet_64 rfl rfl ?_
    refine j_imul dX11_mostSet_65 ?_
    refine j_iload 4 dX11_mostSet_66 rfl ?_
    refine j_iadd dX11_mostSet_68 ?_
    replace h := bG_inv h
    obtain ⟨hi25, h⟩ := h
    refine j_baload dX11_mostSet_69 (okM_29 _) (shM_29 _) (jin_spec hi25) ?_
    refine j_if_eq 112 dX11_mostSet_70 (by decide) (fun hc26 => ?_) (fun hc26 => ?_)
    · replace h := jif_t hc26 h
      exact f_X11_mostSet_J112_ok σ x2 x3 x4 x5 hn hr hc0 hc1 _ h hK
    · replace h := jif_f hc26 h
      refine j_iconst (v := 1) dX11_mostSet_73 (by decide) ?_
      refine j_istore [(4, .int 1), (0, .ref 1), (2, .int x2), (3, .int x3), (5, .int x5)] dX11_mostSet_74 (Nat.le_of_ble_eq_true rfl) rfl ?_
      refine j_iconst (v := 0) dX11_mostSet_76 (by decide) ?_
      refine j_istore [(6, .int 0), (4, .int 1), (0, .ref 1), (2, .int x2), (3, .int x3), (5, .int x5)] dX11_mostSet_77 (Nat.le_of_ble_eq_true rfl) rfl ?_
      refine j_sub [(0, .ref 1), (2, .int x2), (3, .int x3), (4, .int 1), (5, .int x5), (6, .int 0)] [2, 3, 4, 1, 5, 0] rfl ?_
      exact jloop_ok (fun s => f_X11_mostSet_B79 s.2 x2 x3 1 x5 s.1) (fun s => J yX11_mostSet cX11_mostSet 7 (some .int) 5 g rv μ' 79 [(0, .ref 1), (2, .int x2), (3, .int x3), (4, .int 1), (5, .int x5), (6, .int s.1)] [] (eM s.2)) Kp (fun s o hb hk => f_X11_mostSet_B79_ok (Kp := jsum (fun s => J yX11_mostSet cX11_mostSet 7 (some .int) 5 g rv μ' 79 [(0, .ref 1), (2, .int x2), (3, .int x3), (4, .int 1), (5, .int x5), (6, .int s.1)] [] (eM s.2)) Kp) s.2 x2 x3 1 x5 s.1 hn (fun r s q => hr r s q) (fun s q => hc0 s q) (fun s q => hc1 s q) (fun s q => q) o hb hk) jFuel _ _ h hK
def f_X11_mostSet_B33 (σ : jS) (x2 : Int32) (x3 : Int32) : Option ((Int32 × Int32 × jS) ⊕ (Int32 × jS)) :=
  if ((1 : Int32) <<< ((gI σ 1 8) &&& 31)) ≤ x3 then (jw (f_X11_mostSet_J146 σ x2))
  else (jloop jFuel (fun s => f_X11_mostSet_B49 s.2.2 x2 x3 s.1 s.2.1) (0, 0, σ))
set_option maxHeartbeats 1000000 in
set_option maxRecDepth 20000 in
theorem f_X11_mostSet_B33_ok {g : Bool} {rv : Option Value} {μ' : jM} (σ : jS) (x2 : Int32) (x3 : Int32) {Kp : ((Int32 × Int32 × jS) ⊕ (Int32 × jS)) → Prop} (hn : Nat.ble nM μ'.1 = true ∧ Nat.ble wM μ'.2.1 = true) (hr : ∀ (r : Int32) (s : jS), Kp (.inr ((r, s))) → rv = some (.int r) ∧ μ' = eM s) (hc0 : ∀ s : (Int32 × Int32 × jS), Kp (.inl s) → J yX11_mostSet cX11_mostSet 7 (some .int) 5 g rv μ' 33 [(0, .ref 1), (2, .int s.1), (3, .int s.2.1)] [] (eM s.2.2)) (o : ((Int32 × Int32 × jS) ⊕ (Int32 × jS))) (h : f_X11_mostSet_B33 σ x2 x3 = some o) (hK : Kp o) : J yX11_mostSet cX11_mostSet 7 (some .int) 5 g rv μ' 33 [(0, .ref 1), (2, .int x2), (3, .int x3)] [] (eM σ) := by
  unfold f_X11_mostSet_B33 at h
  refine j_iload_n 2 dX11_mostSet_33 rfl rfl ?_
  refine j_iconst (v := 1) dX11_mostSet_34 (by decide) ?_
  refine j_aload_n 0 dX11_mostSet_35 rfl rfl ?_
  refine j_get (ci := 10) 8 (.int (gI σ 1 8)) jC_10 dX11_mostSet_36 kg_RX11_148 rfl (okM_1 _) (shM_1 _) (fvM_1_8 _) ?_
  refine j_ishl dX11_mostSet_39 ?_
  refine j_icmp_ge 146 dX11_mostSet_40 (by decide) (fun hc27 => ?_) (fun hc27 => ?_)
  · replace h := jif_t hc27 h
    replace h := jw_inv h
    obtain ⟨o28, rfl, h⟩ := h
    refine j_sub [(2, .int x2)] [1] rfl ?_
    exact f_X11_mostSet_J146_ok (Kp := fun o => Kp (.inr (o))) σ x2 hn (fun r s q => hr r s q) _ h hK
  · replace h := jif_f hc27 h
    refine j_iconst (v := 0) dX11_mostSet_43 (by decide) ?_
    refine j_istore [(4, .int 0), (0, .ref 1), (2, .int x2), (3, .int x3)] dX11_mostSet_44 (Nat.le_of_ble_eq_true rfl) rfl ?_
    refine j_iconst (v := 0) dX11_mostSet_46 (by decide) ?_
    refine j_istore [(5, .int 0), (4, .int 0), (0, .ref 1), (2, .int x2), (3, .int x3)] dX11_mostSet_47 (Nat.le_of_ble_eq_true rfl) rfl ?_
    refine j_sub [(0, .ref 1), (2, .int x2), (3, .int x3), (4, .int 0), (5, .int 0)] [2, 3, 4, 1, 0] rfl ?_
    exact jloop_ok (fun s => f_X11_mostSet_B49 s.2.2 x2 x3 s.1 s.2.1) (fun s => J yX11_mostSet cX11_mostSet 7 (some .int) 5 g rv μ' 49 [(0, .ref 1), (2, .int x2), (3, .int x3), (4, .int s.1), (5, .int s.2.1)] [] (eM s.2.2)) Kp (fun s o hb hk => f_X11_mostSet_B49_ok (Kp := jsum (fun s => J yX11_mostSet cX11_mostSet 7 (some .int) 5 g rv μ' 49 [(0, .ref 1), (2, .int x2), (3, .int x3), (4, .int s.1), (5, .int s.2.1)] [] (eM s.2.2)) Kp) s.2.2 x2 x3 s.1 s.2.1 hn (fun r s q => hr r s q) (fun s q => hc0 s q) (fun s q => q) o hb hk) jFuel _ _ h hK
def f_X11_mostSet_J22 (σ : jS) (x1 : Int32) : Option (Int32 × jS) :=
  bG (jin x1 4096) (
  bV (sI σ 29 (ix x1) 1) fun σ1 =>
  jloop jFuel (fun s => f_X11_mostSet_B33 s.2.2 s.1 s.2.1) (0, 0, σ1))
set_option maxHeartbeats 1000000 in
set_option maxRecDepth 20000 in
theorem f_X11_mostSet_J22_ok {g : Bool} {rv : Option Value} {μ' : jM} (σ : jS) (x1 : Int32) {Kp : (Int32 × jS) → Prop} (hn : Nat.ble nM μ'.1 = true ∧ Nat.ble wM μ'.2.1 = true) (hr : ∀ (r : Int32) (s : jS), Kp ((r, s)) → rv = some (.int r) ∧ μ' = eM s) (o : (Int32 × jS)) (h : f_X11_mostSet_J22 σ x1 = some o) (hK : Kp o) : J yX11_mostSet cX11_mostSet 7 (some .int) 5 g rv μ' 22 [(0, .ref 1), (1, .int x1)] [] (eM σ) := by
  unfold f_X11_mostSet_J22 at h
  refine j_aload_n 0 dX11_mostSet_22 rfl rfl ?_
  refine j_get (ci := 10) 52 (.ref 29) jC_10 dX11_mostSet_23 kg_RX11_101 rfl (okM_1 _) (shM_1 _) (fvM_1_52 _) ?_
  refine j_iload_n 1 dX11_mostSet_26 rfl rfl ?_
  refine j_iconst (v := 1) dX11_mostSet_27 (by decide) ?_
  replace h := bG_inv h
  obtain ⟨hi29, h⟩ := h
  refine j_bastore dX11_mostSet_28 (okM_29 _) (shM_29 _) (jin_spec hi29) ?_
  rw [jb_vp (x := 1) rfl]
  replace h := bV_inv h
  obtain ⟨σ30, eσ30, h⟩ := h
  refine j_mem (congrArg eM eσ30) ?_
  refine j_iconst (v := 0) dX11_mostSet_29 (by decide) ?_
  refine j_istore_n [(2, .int 0), (0, .ref 1), (1, .int x1)] dX11_mostSet_30 rfl (Nat.le_of_ble_eq_true rfl) rfl ?_
  refine j_iconst (v := 0) dX11_mostSet_31 (by decide) ?_
  refine j_istore_n [(3, .int 0), (2, .int 0), (0, .ref 1), (1, .int x1)] dX11_mostSet_32 rfl (Nat.le_of_ble_eq_true rfl) rfl ?_
  refine j_sub [(0, .ref 1), (2, .int 0), (3, .int 0)] [2, 1, 0] rfl ?_
  exact jloop_ok (fun s => f_X11_mostSet_B33 s.2.2 s.1 s.2.1) (fun s => J yX11_mostSet cX11_mostSet 7 (some .int) 5 g rv μ' 33 [(0, .ref 1), (2, .int s.1), (3, .int s.2.1)] [] (eM s.2.2)) Kp (fun s o hb hk => f_X11_mostSet_B33_ok (Kp := jsum (fun s => J yX11_mostSet cX11_mostSet 7 (some .int) 5 g rv μ' 33 [(0, .ref 1), (2, .int s.1), (3, .int s.2.1)] [] (eM s.2.2)) Kp) s.2.2 s.1 s.2.1 hn (fun r s q => hr r s q) (fun s q => q) o hb hk) jFuel _ _ h hK
def f_X11_mostSet_B2 (σ : jS) (x1 : Int32) (x2 : Int32) : Option ((Int32 × jS) ⊕ (Int32 × jS)) :=
  if 4096 ≤ x2 then (jw (f_X11_mostSet_J22 σ x1))
  else (bG (jin x2 4096) (
  bV (sI σ 29 (ix x2) 0) fun σ31 =>
  bV (x2 + 1) fun v32 =>
  some (.inl (v32, σ31))))
set_option maxHeartbeats 1000000 in
set_option maxRecDepth 20000 in
theorem f_X11_mostSet_B2_ok {g : Bool} {rv : Option Value} {μ' : jM} (σ : jS) (x1 : Int32) (x2 : Int32) {Kp : ((Int32 × jS) ⊕ (Int32 × jS)) → Prop} (hn : Nat.ble nM μ'.1 = true ∧ Nat.ble wM μ'.2.1 = true) (hr : ∀ (r : Int32) (s : jS), Kp (.inr ((r, s))) → rv = some (.int r) ∧ μ' = eM s) (hc0 : ∀ s : (Int32 × jS), Kp (.inl s) → J yX11_mostSet cX11_mostSet 7 (some .int) 5 g rv μ' 2 [(0, .ref 1), (1, .int x1), (2, .int s.1)] [] (eM s.2)) (o : ((Int32 × jS) ⊕ (Int32 × jS))) (h : f_X11_mostSet_B2 σ x1 x2 = some o) (hK : Kp o) : J yX11_mostSet cX11_mostSet 7 (some .int) 5 g rv μ' 2 [(0, .ref 1), (1, .int x1), (2, .int x2)] [] (eM σ) := by
  unfold f_X11_mostSet_B2 at h
  refine j_iload_n 2 dX11_mostSet_2 rfl rfl ?_
  refine j_sipush (v := 4096) dX11_mostSet_3 (by decide) ?_
  refine j_icmp_ge 22 dX11_mostSet_6 (by decide) (fun hc33 => ?_) (fun hc33 => ?_)
  · replace h := jif_t hc33 h
    replace h := jw_inv h
    obtain ⟨o34, rfl, h⟩ := h
    refine j_sub [(0, .ref 1), (1, .int x1)] [0, 1] rfl ?_
    exact f_X11_mostSet_J22_ok (Kp := fun o => Kp (.inr (o))) σ x1 hn (fun r s q => hr r s q) _ h hK
  · replace h := jif_f hc33 h
    refine j_aload_n 0 dX11_mostSet_9 rfl rfl ?_
    refine j_get (ci := 10) 52 (.ref 29) jC_10 dX11_mostSet_10 kg_RX11_101 rfl (okM_1 _) (shM_1 _) (fvM_1_52 _) ?_
    refine j_iload_n 2 dX11_mostSet_13 rfl rfl ?_
    refine j_iconst (v := 0) dX11_mostSet_14 (by decide) ?_
    replace h := bG_inv h
    obtain ⟨hi35, h⟩ := h
    refine j_bastore dX11_mostSet_15 (okM_29 _) (shM_29 _) (jin_spec hi35) ?_
    rw [jb_vp (x := 0) rfl]
    replace h := bV_inv h
    obtain ⟨σ36, eσ36, h⟩ := h
    refine j_mem (congrArg eM eσ36) ?_
    replace h := bV_inv h
    obtain ⟨v37, ev37, h⟩ := h
    refine j_iinc (v := v37) [(2, .int v37), (0, .ref 1), (1, .int x1)] 2 dX11_mostSet_16 rfl (by rw [ev37]; rfl) (Nat.le_of_ble_eq_true rfl) rfl ?_
    refine j_goto 2 dX11_mostSet_19 (by decide) ?_
    replace h := Option.some.inj h
    subst h
    refine j_sub [(0, .ref 1), (1, .int x1), (2, .int v37)] [1, 2, 0] rfl ?_
    exact hc0 _ hK
def f_X11_mostSet (σ : jS) (x1 : Int32) : Option (Int32 × jS) :=
  jloop jFuel (fun s => f_X11_mostSet_B2 s.2 x1 s.1) (0, σ)
set_option maxHeartbeats 1000000 in
set_option maxRecDepth 20000 in
theorem f_X11_mostSet_ok {g : Bool} {rv : Option Value} {μ' : jM} (σ : jS) (x1 : Int32) {Kp : (Int32 × jS) → Prop} (hn : Nat.ble nM μ'.1 = true ∧ Nat.ble wM μ'.2.1 = true) (hr : ∀ (r : Int32) (s : jS), Kp ((r, s)) → rv = some (.int r) ∧ μ' = eM s) (o : (Int32 × jS)) (h : f_X11_mostSet σ x1 = some o) (hK : Kp o) : J yX11_mostSet cX11_mostSet 7 (some .int) 5 g rv μ' 0 [(0, .ref 1), (1, .int x1)] [] (eM σ) := by
  unfold f_X11_mostSet at h
  refine j_iconst (v := 0) dX11_mostSet_0 (by decide) ?_
  refine j_istore_n [(2, .int 0), (0, .ref 1), (1, .int x1)] dX11_mostSet_1 rfl (Nat.le_of_ble_eq_true rfl) rfl ?_
  refine j_sub [(0, .ref 1), (1, .int x1), (2, .int 0)] [1, 2, 0] rfl ?_
  exact jloop_ok (fun s => f_X11_mostSet_B2 s.2 x1 s.1) (fun s => J yX11_mostSet cX11_mostSet 7 (some .int) 5 g rv μ' 2 [(0, .ref 1), (1, .int x1), (2, .int s.1)] [] (eM s.2)) Kp (fun s o hb hk => f_X11_mostSet_B2_ok (Kp := jsum (fun s => J yX11_mostSet cX11_mostSet 7 (some .int) 5 g rv μ' 2 [(0, .ref 1), (1, .int x1), (2, .int s.1)] [] (eM s.2)) Kp) s.2 x1 s.1 hn (fun r s q => hr r s q) (fun s q => q) o hb hk) jFuel _ _ h hK
theorem c_X11_mostSet (g : Bool) {σ : jS} {x1 : Int32} {r : Int32} {σ2 : jS} (h : f_X11_mostSet σ x1 = some (r, σ2)) : Cn yX11_mostSet cX11_mostSet 7 (some .int) 5 g [.ref 1, .int x1] (eM σ) (some (.int r)) (eM σ2) :=
  Cn_of (by decide) (Nat.le_refl _) (Nat.le_refl _) (Nat.le_of_ble_eq_true rfl) (f_X11_mostSet_ok (Kp := (fun o => o = (r, σ2))) σ x1 ⟨jbr _, jbr _⟩ (fun r2 s2 q => by cases q; exact ⟨rfl, rfl⟩) _ h rfl)
def f_X11_most_J52 (σ : jS) (y0 : Int32) : Option (Int32 × jS) :=
  some ((y0, σ))
set_option maxHeartbeats 1000000 in
set_option maxRecDepth 20000 in
theorem f_X11_most_J52_ok {g : Bool} {rv : Option Value} {μ' : jM} (σ : jS) (y0 : Int32) {Kp : (Int32 × jS) → Prop} (hn : Nat.ble nM μ'.1 = true ∧ Nat.ble wM μ'.2.1 = true) (hr : ∀ (r : Int32) (s : jS), Kp ((r, s)) → rv = some (.int r) ∧ μ' = eM s) (o : (Int32 × jS)) (h : f_X11_most_J52 σ y0 = some o) (hK : Kp o) : J yX11_most cX11_most 3 (some .int) 6 g rv μ' 52 [] [.int y0] (eM σ) := by
  unfold f_X11_most_J52 at h
  replace h := Option.some.inj h
  subst h
  obtain ⟨hr1, hr2⟩ := hr _ _ hK
  exact j_iret dX11_most_52 hr1 hr2
def f_X11_most (σ : jS) (x1 : Int32) : Option (Int32 × jS) :=
  bC (f_X11_in (x1.toInt64) 0 1) fun r1 =>
  if r1 = 0 then (some (((-1002), σ)))
  else (if (gI σ 1 2) ≤ 8 then (bD (f_X11_mostSet σ (((1 : Int32) <<< ((gI σ 1 2) &&& 31)) - (1 : Int32))) fun r2 σ3 =>
  if x1 = 0 then (bC (f_X11_bits r2) fun r4 =>
  f_X11_most_J52 σ3 r4)
  else (f_X11_most_J52 σ3 r2))
  else (some (((-1003), σ))))
set_option maxHeartbeats 1000000 in
set_option maxRecDepth 20000 in
theorem f_X11_most_ok {g : Bool} {rv : Option Value} {μ' : jM} (σ : jS) (x1 : Int32) {Kp : (Int32 × jS) → Prop} (hn : Nat.ble nM μ'.1 = true ∧ Nat.ble wM μ'.2.1 = true) (hr : ∀ (r : Int32) (s : jS), Kp ((r, s)) → rv = some (.int r) ∧ μ' = eM s) (o : (Int32 × jS)) (h : f_X11_most σ x1 = some o) (hK : Kp o) : J yX11_most cX11_most 3 (some .int) 6 g rv μ' 0 [(0, .ref 1), (1, .int x1)] [] (eM σ) := by
  unfold f_X11_most at h
  refine j_iload_n 1 dX11_most_0 rfl rfl ?_
  refine j_i2l dX11_most_1 ?_
  refine j_lconst (v := 0) dX11_most_2 (by decide) ?_
  refine j_lconst (v := 1) dX11_most_3 (by decide) ?_
  replace h := bC_inv h
  obtain ⟨r5, cr5, h⟩ := h
  refine j_callS (st1 := .int r5 :: _) (c_X11_in g _ cr5) jy_X11_in kt_yX11_in kl_RX11_144 dX11_most_4 rfl rfl rfl rfl (jbr _) (jbr _) hn.1 hn.2 (Or.inr rfl) rfl ?_
  refine j_if_ne 14 dX11_most_7 (by decide) (fun hc6 => ?_) (fun hc6 => ?_)
  · replace h := jif_f hc6 h
    refine j_aload_n 0 dX11_most_14 rfl rfl ?_
    refine j_get (ci := 10) 2 (.int (gI σ 1 2)) jC_10 dX11_most_15 kg_RX11_240 rfl (okM_1 _) (shM_1 _) (fvM_1_2 _) ?_
    refine j_bipush (v := 8) dX11_most_18 (by decide) ?_
    refine j_icmp_le 27 dX11_most_20 (by decide) (fun hc7 => ?_) (fun hc7 => ?_)
    · replace h := jif_t hc7 h
      refine j_aload_n 0 dX11_most_27 rfl rfl ?_
      refine j_iconst (v := 1) dX11_most_28 (by decide) ?_
      refine j_aload_n 0 dX11_most_29 rfl rfl ?_
      refine j_get (ci := 10) 2 (.int (gI σ 1 2)) jC_10 dX11_most_30 kg_RX11_240 rfl (okM_1 _) (shM_1 _) (fvM_1_2 _) ?_
      refine j_ishl dX11_most_33 ?_
      refine j_iconst (v := 1) dX11_most_34 (by decide) ?_
      refine j_isub dX11_most_35 ?_
      replace h := bD_inv h
      obtain ⟨r8, σ9, cr8, h⟩ := h
      refine j_callV (ci := 10) (st1 := .int r8 :: _) (c_X11_mostSet g cr8) jy_X11_mostSet ki_yX11_mostSet ks_yX11_mostSet kl_RX11_415 dX11_most_36 rfl (okM_1 _) (shM_1 _) rfl rfl rfl rfl (jbr _) (jbr _) hn.1 hn.2 (Or.inr rfl) rfl ?_
      refine j_istore_n [(2, .int r8), (0, .ref 1), (1, .int x1)] dX11_most_39 rfl (Nat.le_of_ble_eq_true rfl) rfl ?_
      refine j_iload_n 2 dX11_most_40 rfl rfl ?_
      refine j_if_ne 51 dX11_most_41 (by decide) (fun hc10 => ?_) (fun hc10 => ?_)
      · replace h := jif_f hc10 h
        refine j_iload_n 0 dX11_most_51 rfl rfl ?_
        refine j_sub [] [] rfl ?_
        exact f_X11_most_J52_ok σ9 r8 hn hr _ h hK
      · replace h := jif_t hc10 h
        refine j_iload_n 0 dX11_most_44 rfl rfl ?_
        replace h := bC_inv h
        obtain ⟨r11, cr11, h⟩ := h
        refine j_callS (st1 := .int r11 :: _) (c_X11_bits g _ cr11) jy_X11_bits kt_yX11_bits kl_RX11_328 dX11_most_45 rfl rfl rfl rfl (jbr _) (jbr _) hn.1 hn.2 (Or.inr rfl) rfl ?_
        refine j_goto 52 dX11_most_48 (by decide) ?_
        refine j_sub [] [] rfl ?_
        exact f_X11_most_J52_ok σ9 r11 hn hr _ h hK
    · replace h := jif_f hc7 h
      refine j_sipush (v := (-1003)) dX11_most_23 (by decide) ?_
      replace h := Option.some.inj h
      subst h
      obtain ⟨hr1, hr2⟩ := hr _ _ hK
      exact j_iret dX11_most_26 hr1 hr2
  · replace h := jif_t hc6 h
    refine j_sipush (v := (-1002)) dX11_most_10 (by decide) ?_
    replace h := Option.some.inj h
    subst h
    obtain ⟨hr1, hr2⟩ := hr _ _ hK
    exact j_iret dX11_most_13 hr1 hr2
theorem c_X11_most (g : Bool) {σ : jS} {x1 : Int32} {r : Int32} {σ2 : jS} (h : f_X11_most σ x1 = some (r, σ2)) : Cn yX11_most cX11_most 3 (some .int) 6 g [.ref 1, .int x1] (eM σ) (some (.int r)) (eM σ2) :=
  Cn_of (by decide) (Nat.le_refl _) (Nat.le_refl _) (Nat.le_of_ble_eq_true rfl) (f_X11_most_ok (Kp := (fun o => o = (r, σ2))) σ x1 ⟨jbr _, jbr _⟩ (fun r2 s2 q => by cases q; exact ⟨rfl, rfl⟩) _ h rfl)
def f_X11_worth (σ : jS) (x1 : Int32) : Option (Int32 × jS) :=
  bC (f_X11_in (x1.toInt64) 0 (((gI σ 1 2) - (1 : Int32)).toInt64)) fun r1 =>
  if r1 = 0 then (some (((-1001), σ)))
  else (if (gI σ 1 2) ≤ 8 then (bV (((1 : Int32) <<< ((gI σ 1 2) &&& 31)) - (1 : Int32)) fun v2 =>
  bD (f_X11_mostSet σ v2) fun r3 σ4 =>
  bC (f_X11_bits r3) fun r5 =>
  bD (f_X11_mostSet σ4 (v2 &&& (((1 : Int32) <<< (x1 &&& 31)) ^^^ ((-1) : Int32)))) fun r6 σ7 =>
  bC (f_X11_bits r6) fun r8 =>
  some ((r5 - r8, σ7)))
  else (some (((-1003), σ))))
set_option maxHeartbeats 1000000 in
set_option maxRecDepth 20000 in
theorem f_X11_worth_ok {g : Bool} {rv : Option Value} {μ' : jM} (σ : jS) (x1 : Int32) {Kp : (Int32 × jS) → Prop} (hn : Nat.ble nM μ'.1 = true ∧ Nat.ble wM μ'.2.1 = true) (hr : ∀ (r : Int32) (s : jS), Kp ((r, s)) → rv = some (.int r) ∧ μ' = eM s) (o : (Int32 × jS)) (h : f_X11_worth σ x1 = some o) (hK : Kp o) : J yX11_worth cX11_worth 3 (some .int) 6 g rv μ' 0 [(0, .ref 1), (1, .int x1)] [] (eM σ) := by
  unfold f_X11_worth at h
  refine j_iload_n 1 dX11_worth_0 rfl rfl ?_
  refine j_i2l dX11_worth_1 ?_
  refine j_lconst (v := 0) dX11_worth_2 (by decide) ?_
  refine j_aload_n 0 dX11_worth_3 rfl rfl ?_
  refine j_get (ci := 10) 2 (.int (gI σ 1 2)) jC_10 dX11_worth_4 kg_RX11_240 rfl (okM_1 _) (shM_1 _) (fvM_1_2 _) ?_
  refine j_iconst (v := 1) dX11_worth_7 (by decide) ?_
  refine j_isub dX11_worth_8 ?_
  refine j_i2l dX11_worth_9 ?_
  replace h := bC_inv h
  obtain ⟨r9, cr9, h⟩ := h
  refine j_callS (st1 := .int r9 :: _) (c_X11_in g _ cr9) jy_X11_in kt_yX11_in kl_RX11_144 dX11_worth_10 rfl rfl rfl rfl (jbr _) (jbr _) hn.1 hn.2 (Or.inr rfl) rfl ?_
  refine j_if_ne 20 dX11_worth_13 (by decide) (fun hc10 => ?_) (fun hc10 => ?_)
  · replace h := jif_f hc10 h
    refine j_aload_n 0 dX11_worth_20 rfl rfl ?_
    refine j_get (ci := 10) 2 (.int (gI σ 1 2)) jC_10 dX11_worth_21 kg_RX11_240 rfl (okM_1 _) (shM_1 _) (fvM_1_2 _) ?_
    refine j_bipush (v := 8) dX11_worth_24 (by decide) ?_
    refine j_icmp_le 33 dX11_worth_26 (by decide) (fun hc11 => ?_) (fun hc11 => ?_)
    · replace h := jif_t hc11 h
      refine j_iconst (v := 1) dX11_worth_33 (by decide) ?_
      refine j_aload_n 0 dX11_worth_34 rfl rfl ?_
      refine j_get (ci := 10) 2 (.int (gI σ 1 2)) jC_10 dX11_worth_35 kg_RX11_240 rfl (okM_1 _) (shM_1 _) (fvM_1_2 _) ?_
      refine j_ishl dX11_worth_38 ?_
      refine j_iconst (v := 1) dX11_worth_39 (by decide) ?_
      refine j_isub dX11_worth_40 ?_
      replace h := bV_inv h
      obtain ⟨v12, ev12, h⟩ := h
      refine j_nmi ev12 ?_
      refine j_istore_n [(2, .int v12), (0, .ref 1), (1, .int x1)] dX11_worth_41 rfl (Nat.le_of_ble_eq_true rfl) rfl ?_
      refine j_aload_n 1 dX11_worth_42 rfl rfl ?_
      refine j_iload_n 0 dX11_worth_43 rfl rfl ?_
      replace h := bD_inv h
      obtain ⟨r13, σ14, cr13, h⟩ := h
      refine j_callV (ci := 10) (st1 := .int r13 :: _) (c_X11_mostSet g cr13) jy_X11_mostSet ki_yX11_mostSet ks_yX11_mostSet kl_RX11_415 dX11_worth_44 rfl (okM_1 _) (shM_1 _) rfl rfl rfl rfl (jbr _) (jbr _) hn.1 hn.2 (Or.inr rfl) rfl ?_
      replace h := bC_inv h
      obtain ⟨r15, cr15, h⟩ := h
      refine j_callS (st1 := .int r15 :: _) (c_X11_bits g _ cr15) jy_X11_bits kt_yX11_bits kl_RX11_328 dX11_worth_47 rfl rfl rfl rfl (jbr _) (jbr _) hn.1 hn.2 (Or.inr rfl) rfl ?_
      refine j_aload_n 1 dX11_worth_50 rfl rfl ?_
      refine j_iload_n 0 dX11_worth_51 rfl rfl ?_
      refine j_iconst (v := 1) dX11_worth_52 (by decide) ?_
      refine j_iload_n 2 dX11_worth_53 rfl rfl ?_
      refine j_ishl dX11_worth_54 ?_
      refine j_iconst (v := (-1)) dX11_worth_55 (by decide) ?_
      refine j_ixor dX11_worth_56 ?_
      refine j_iand dX11_worth_57 ?_
      replace h := bD_inv h
      obtain ⟨r16, σ17, cr16, h⟩ := h
      refine j_callV (ci := 10) (st1 := .int r16 :: _) (c_X11_mostSet g cr16) jy_X11_mostSet ki_yX11_mostSet ks_yX11_mostSet kl_RX11_415 dX11_worth_58 rfl (okM_1 _) (shM_1 _) rfl rfl rfl rfl (jbr _) (jbr _) hn.1 hn.2 (Or.inr rfl) rfl ?_
      replace h := bC_inv h
      obtain ⟨r18, cr18, h⟩ := h
      refine j_callS (st1 := .int r18 :: _) (c_X11_bits g _ cr18) jy_X11_bits kt_yX11_bits kl_RX11_328 dX11_worth_61 rfl rfl rfl rfl (jbr _) (jbr _) hn.1 hn.2 (Or.inr rfl) rfl ?_
      refine j_isub dX11_worth_64 ?_
      replace h := Option.some.inj h
      subst h
      obtain ⟨hr1, hr2⟩ := hr _ _ hK
      exact j_iret dX11_worth_65 hr1 hr2
    · replace h := jif_f hc11 h
      refine j_sipush (v := (-1003)) dX11_worth_29 (by decide) ?_
      replace h := Option.some.inj h
      subst h
      obtain ⟨hr1, hr2⟩ := hr _ _ hK
      exact j_iret dX11_worth_32 hr1 hr2
  · replace h := jif_t hc10 h
    refine j_sipush (v := (-1001)) dX11_worth_16 (by decide) ?_
    replace h := Option.some.inj h
    subst h
    obtain ⟨hr1, hr2⟩ := hr _ _ hK
    exact j_iret dX11_worth_19 hr1 hr2
theorem c_X11_worth (g : Bool) {σ : jS} {x1 : Int32} {r : Int32} {σ2 : jS} (h : f_X11_worth σ x1 = some (r, σ2)) : Cn yX11_worth cX11_worth 3 (some .int) 6 g [.ref 1, .int x1] (eM σ) (some (.int r)) (eM σ2) :=
  Cn_of (by decide) (Nat.le_refl _) (Nat.le_refl _) (Nat.le_of_ble_eq_true rfl) (f_X11_worth_ok (Kp := (fun o => o = (r, σ2))) σ x1 ⟨jbr _, jbr _⟩ (fun r2 s2 q => by cases q; exact ⟨rfl, rfl⟩) _ h rfl)
def f_X11_log_J16 (σ : jS) : Option (Int32 × jS) :=
  some (((-1001), σ))
set_option maxHeartbeats 1000000 in
set_option maxRecDepth 20000 in
theorem f_X11_log_J16_ok {g : Bool} {rv : Option Value} {μ' : jM} (σ : jS) {Kp : (Int32 × jS) → Prop} (hn : Nat.ble nM μ'.1 = true ∧ Nat.ble wM μ'.2.1 = true) (hr : ∀ (r : Int32) (s : jS), Kp ((r, s)) → rv = some (.int r) ∧ μ' = eM s) (o : (Int32 × jS)) (h : f_X11_log_J16 σ = some o) (hK : Kp o) : J yX11_log cX11_log 3 (some .int) 3 g rv μ' 16 [] [] (eM σ) := by
  unfold f_X11_log_J16 at h
  refine j_sipush (v := (-1001)) dX11_log_16 (by decide) ?_
  replace h := Option.some.inj h
  subst h
  obtain ⟨hr1, hr2⟩ := hr _ _ hK
  exact j_iret dX11_log_19 hr1 hr2
def f_X11_log (σ : jS) (x1 : Int32) (x2 : Int32) : Option (Int32 × jS) :=
  bC (f_X11_isPerson σ x1) fun r1 =>
  if r1 = 0 then (f_X11_log_J16 σ)
  else (bC (f_X11_isPerson σ x2) fun r2 =>
  if r2 = 0 then (f_X11_log_J16 σ)
  else (if (gI σ 1 56) = 40 then (some (((-1004), σ)))
  else (bG (jin (gI σ 1 56) 40) (
  bV (sI σ 32 (ix (gI σ 1 56)) x1) fun σ3 =>
  bG (jin (gI σ3 1 56) 40) (
  bV (sI σ3 33 (ix (gI σ3 1 56)) x2) fun σ4 =>
  bV (sI σ4 1 56 ((gI σ4 1 56) + (1 : Int32))) fun σ5 =>
  some ((gI σ5 1 56, σ5)))))))
set_option maxHeartbeats 1000000 in
set_option maxRecDepth 20000 in
theorem f_X11_log_ok {g : Bool} {rv : Option Value} {μ' : jM} (σ : jS) (x1 : Int32) (x2 : Int32) {Kp : (Int32 × jS) → Prop} (hn : Nat.ble nM μ'.1 = true ∧ Nat.ble wM μ'.2.1 = true) (hr : ∀ (r : Int32) (s : jS), Kp ((r, s)) → rv = some (.int r) ∧ μ' = eM s) (o : (Int32 × jS)) (h : f_X11_log σ x1 x2 = some o) (hK : Kp o) : J yX11_log cX11_log 3 (some .int) 3 g rv μ' 0 [(0, .ref 1), (1, .int x1), (2, .int x2)] [] (eM σ) := by
  unfold f_X11_log at h
  refine j_aload_n 0 dX11_log_0 rfl rfl ?_
  refine j_iload_n 1 dX11_log_1 rfl rfl ?_
  replace h := bC_inv h
  obtain ⟨r6, cr6, h⟩ := h
  refine j_callV (ci := 10) (st1 := .int r6 :: _) (c_X11_isPerson g cr6) jy_X11_isPerson ki_yX11_isPerson ks_yX11_isPerson kl_RX11_255 dX11_log_2 rfl (okM_1 _) (shM_1 _) rfl rfl rfl rfl (jbr _) (jbr _) hn.1 hn.2 (Or.inr rfl) rfl ?_
  refine j_if_eq 16 dX11_log_5 (by decide) (fun hc7 => ?_) (fun hc7 => ?_)
  · replace h := jif_t hc7 h
    refine j_sub [] [] rfl ?_
    exact f_X11_log_J16_ok σ hn hr _ h hK
  · replace h := jif_f hc7 h
    refine j_aload_n 0 dX11_log_8 rfl rfl ?_
    refine j_iload_n 2 dX11_log_9 rfl rfl ?_
    replace h := bC_inv h
    obtain ⟨r8, cr8, h⟩ := h
    refine j_callV (ci := 10) (st1 := .int r8 :: _) (c_X11_isPerson g cr8) jy_X11_isPerson ki_yX11_isPerson ks_yX11_isPerson kl_RX11_255 dX11_log_10 rfl (okM_1 _) (shM_1 _) rfl rfl rfl rfl (jbr _) (jbr _) hn.1 hn.2 (Or.inr rfl) rfl ?_
    refine j_if_ne 20 dX11_log_13 (by decide) (fun hc9 => ?_) (fun hc9 => ?_)
    · replace h := jif_f hc9 h
      refine j_aload_n 0 dX11_log_20 rfl rfl ?_
      refine j_get (ci := 10) 56 (.int (gI σ 1 56)) jC_10 dX11_log_21 kg_RX11_249 rfl (okM_1 _) (shM_1 _) (fvM_1_56 _) ?_
      refine j_bipush (v := 40) dX11_log_24 (by decide) ?_
      refine j_icmp_ne 33 dX11_log_26 (by decide) (fun hc10 => ?_) (fun hc10 => ?_)
      · replace h := jif_f hc10 h
        refine j_aload_n 0 dX11_log_33 rfl rfl ?_
        refine j_get (ci := 10) 57 (.ref 32) jC_10 dX11_log_34 kg_RX11_111 rfl (okM_1 _) (shM_1 _) (fvM_1_57 _) ?_
        refine j_aload_n 0 dX11_log_37 rfl rfl ?_
        refine j_get (ci := 10) 56 (.int (gI σ 1 56)) jC_10 dX11_log_38 kg_RX11_249 rfl (okM_1 _) (shM_1 _) (fvM_1_56 _) ?_
        refine j_iload_n 1 dX11_log_41 rfl rfl ?_
        replace h := bG_inv h
        obtain ⟨hi11, h⟩ := h
        refine j_iastore dX11_log_42 (okM_32 _) (shM_32 _) (jin_spec hi11) ?_
        replace h := bV_inv h
        obtain ⟨σ12, eσ12, h⟩ := h
        refine j_mem (congrArg eM eσ12) ?_
        refine j_aload_n 0 dX11_log_43 rfl rfl ?_
        refine j_get (ci := 10) 58 (.ref 33) jC_10 dX11_log_44 kg_RX11_114 rfl (okM_1 _) (shM_1 _) (fvM_1_58 _) ?_
        refine j_aload_n 0 dX11_log_47 rfl rfl ?_
        refine j_get (ci := 10) 56 (.int (gI σ12 1 56)) jC_10 dX11_log_48 kg_RX11_249 rfl (okM_1 _) (shM_1 _) (fvM_1_56 _) ?_
        refine j_iload_n 2 dX11_log_51 rfl rfl ?_
        replace h := bG_inv h
        obtain ⟨hi13, h⟩ := h
        refine j_iastore dX11_log_52 (okM_33 _) (shM_33 _) (jin_spec hi13) ?_
        replace h := bV_inv h
        obtain ⟨σ14, eσ14, h⟩ := h
        refine j_mem (congrArg eM eσ14) ?_
        refine j_aload_n 0 dX11_log_53 rfl rfl ?_
        refine j_dup dX11_log_54 rfl ?_
        refine j_get (ci := 10) 56 (.int (gI σ14 1 56)) jC_10 dX11_log_55 kg_RX11_249 rfl (okM_1 _) (shM_1 _) (fvM_1_56 _) ?_
        refine j_iconst (v := 1) dX11_log_58 (by decide) ?_
        refine j_iadd dX11_log_59 ?_
        replace h := bV_inv h
        obtain ⟨σ15, eσ15, h⟩ := h
        refine j_putI 56 jC_10 dX11_log_60 kg_RX11_249 (Or.inl ff_10_56) rfl fk_10_56 (fn_10_56 _) (okM_1 _) (shM_1 _) ?_
        refine j_mem (congrArg eM eσ15) ?_
        refine j_aload_n 0 dX11_log_63 rfl rfl ?_
        refine j_get (ci := 10) 56 (.int (gI σ15 1 56)) jC_10 dX11_log_64 kg_RX11_249 rfl (okM_1 _) (shM_1 _) (fvM_1_56 _) ?_
        replace h := Option.some.inj h
        subst h
        obtain ⟨hr1, hr2⟩ := hr _ _ hK
        exact j_iret dX11_log_67 hr1 hr2
      · replace h := jif_t hc10 h
        refine j_sipush (v := (-1004)) dX11_log_29 (by decide) ?_
        replace h := Option.some.inj h
        subst h
        obtain ⟨hr1, hr2⟩ := hr _ _ hK
        exact j_iret dX11_log_32 hr1 hr2
    · replace h := jif_t hc9 h
      refine j_sub [] [] rfl ?_
      exact f_X11_log_J16_ok σ hn hr _ h hK
theorem c_X11_log (g : Bool) {σ : jS} {x1 : Int32} {x2 : Int32} {r : Int32} {σ2 : jS} (h : f_X11_log σ x1 x2 = some (r, σ2)) : Cn yX11_log cX11_log 3 (some .int) 3 g [.ref 1, .int x1, .int x2] (eM σ) (some (.int r)) (eM σ2) :=
  Cn_of (by decide) (Nat.le_refl _) (Nat.le_refl _) (Nat.le_of_ble_eq_true rfl) (f_X11_log_ok (Kp := (fun o => o = (r, σ2))) σ x1 x2 ⟨jbr _, jbr _⟩ (fun r2 s2 q => by cases q; exact ⟨rfl, rfl⟩) _ h rfl)
def f_X11_clear (σ : jS) : Option (Int32 × jS) :=
  bV ((gI σ 1 56) + (gI σ 1 59)) fun v1 =>
  bV (sI σ 1 56 0) fun σ2 =>
  bV (sI σ2 1 59 0) fun σ3 =>
  some ((v1, σ3))
set_option maxHeartbeats 1000000 in
set_option maxRecDepth 20000 in
theorem f_X11_clear_ok {g : Bool} {rv : Option Value} {μ' : jM} (σ : jS) {Kp : (Int32 × jS) → Prop} (hn : Nat.ble nM μ'.1 = true ∧ Nat.ble wM μ'.2.1 = true) (hr : ∀ (r : Int32) (s : jS), Kp ((r, s)) → rv = some (.int r) ∧ μ' = eM s) (o : (Int32 × jS)) (h : f_X11_clear σ = some o) (hK : Kp o) : J yX11_clear cX11_clear 2 (some .int) 1 g rv μ' 0 [(0, .ref 1)] [] (eM σ) := by
  unfold f_X11_clear at h
  refine j_aload_n 0 dX11_clear_0 rfl rfl ?_
  refine j_get (ci := 10) 56 (.int (gI σ 1 56)) jC_10 dX11_clear_1 kg_RX11_249 rfl (okM_1 _) (shM_1 _) (fvM_1_56 _) ?_
  refine j_aload_n 0 dX11_clear_4 rfl rfl ?_
  refine j_get (ci := 10) 59 (.int (gI σ 1 59)) jC_10 dX11_clear_5 kg_RX11_252 rfl (okM_1 _) (shM_1 _) (fvM_1_59 _) ?_
  refine j_iadd dX11_clear_8 ?_
  replace h := bV_inv h
  obtain ⟨v4, ev4, h⟩ := h
  refine j_nmi ev4 ?_
  refine j_istore_n [(1, .int v4), (0, .ref 1)] dX11_clear_9 rfl (Nat.le_of_ble_eq_true rfl) rfl ?_
  refine j_aload_n 1 dX11_clear_10 rfl rfl ?_
  refine j_iconst (v := 0) dX11_clear_11 (by decide) ?_
  replace h := bV_inv h
  obtain ⟨σ5, eσ5, h⟩ := h
  refine j_putI 56 jC_10 dX11_clear_12 kg_RX11_249 (Or.inl ff_10_56) rfl fk_10_56 (fn_10_56 _) (okM_1 _) (shM_1 _) ?_
  refine j_mem (congrArg eM eσ5) ?_
  refine j_aload_n 1 dX11_clear_15 rfl rfl ?_
  refine j_iconst (v := 0) dX11_clear_16 (by decide) ?_
  replace h := bV_inv h
  obtain ⟨σ6, eσ6, h⟩ := h
  refine j_putI 59 jC_10 dX11_clear_17 kg_RX11_252 (Or.inl ff_10_59) rfl fk_10_59 (fn_10_59 _) (okM_1 _) (shM_1 _) ?_
  refine j_mem (congrArg eM eσ6) ?_
  refine j_iload_n 0 dX11_clear_20 rfl rfl ?_
  replace h := Option.some.inj h
  subst h
  obtain ⟨hr1, hr2⟩ := hr _ _ hK
  exact j_iret dX11_clear_21 hr1 hr2
theorem c_X11_clear (g : Bool) {σ : jS} {r : Int32} {σ2 : jS} (h : f_X11_clear σ = some (r, σ2)) : Cn yX11_clear cX11_clear 2 (some .int) 1 g [.ref 1] (eM σ) (some (.int r)) (eM σ2) :=
  Cn_of (by decide) (Nat.le_refl _) (Nat.le_refl _) (Nat.le_of_ble_eq_true rfl) (f_X11_clear_ok (Kp := (fun o => o = (r, σ2))) σ ⟨jbr _, jbr _⟩ (fun r2 s2 q => by cases q; exact ⟨rfl, rfl⟩) _ h rfl)
def f_X11_judge_J210 (σ : jS) (y0 : Int32) : Option Int32 :=
  some (y0)
set_option maxHeartbeats 1000000 in
set_option maxRecDepth 20000 in
theorem f_X11_judge_J210_ok {g : Bool} {rv : Option Value} {μ' : jM} (σ : jS) (y0 : Int32) {Kp : Int32 → Prop} (hn : Nat.ble nM μ'.1 = true ∧ Nat.ble wM μ'.2.1 = true) (hr : ∀ r : Int32, Kp (r) → rv = some (.int r) ∧ μ' = (eM σ)) (o : Int32) (h : f_X11_judge_J210 σ y0 = some o) (hK : Kp o) : J yX11_judge cX11_judge 7 (some .int) 6 g rv μ' 210 [] [.int y0] (eM σ) := by
  unfold f_X11_judge_J210 at h
  replace h := Option.some.inj h
  subst h
  obtain ⟨hr1, hr2⟩ := hr _ hK
  exact j_iret dX11_judge_210 hr1 hr2
def f_X11_judge_J177 (σ : jS) (x1 : Int32) (x2 : Int32) (x3 : Int32) : Option Int32 :=
  if x1 = 0 then (f_X11_judge_J210 σ x3)
  else (if x1 = 1 then (bC (f_X11_one x2) fun r4 =>
  bC (f_X11_two x2) fun r5 =>
  f_X11_judge_J210 σ (((100 : Int32) * r4) + r5))
  else (bC (f_X11_stateOf σ x2) fun r3 =>
  f_X11_judge_J210 σ r3))
set_option maxHeartbeats 1000000 in
set_option maxRecDepth 20000 in
theorem f_X11_judge_J177_ok {g : Bool} {rv : Option Value} {μ' : jM} (σ : jS) (x1 : Int32) (x2 : Int32) (x3 : Int32) {Kp : Int32 → Prop} (hn : Nat.ble nM μ'.1 = true ∧ Nat.ble wM μ'.2.1 = true) (hr : ∀ r : Int32, Kp (r) → rv = some (.int r) ∧ μ' = (eM σ)) (o : Int32) (h : f_X11_judge_J177 σ x1 x2 x3 = some o) (hK : Kp o) : J yX11_judge cX11_judge 7 (some .int) 6 g rv μ' 177 [(0, .ref 1), (1, .int x1), (2, .int x2), (3, .int x3)] [] (eM σ) := by
  unfold f_X11_judge_J177 at h
  refine j_iload_n 1 dX11_judge_177 rfl rfl ?_
  refine j_if_ne 185 dX11_judge_178 (by decide) (fun hc6 => ?_) (fun hc6 => ?_)
  · replace h := jif_f hc6 h
    refine j_iload_n 1 dX11_judge_185 rfl rfl ?_
    refine j_iconst (v := 1) dX11_judge_186 (by decide) ?_
    refine j_icmp_ne 205 dX11_judge_187 (by decide) (fun hc7 => ?_) (fun hc7 => ?_)
    · replace h := jif_f hc7 h
      refine j_aload_n 0 dX11_judge_205 rfl rfl ?_
      refine j_iload_n 2 dX11_judge_206 rfl rfl ?_
      replace h := bC_inv h
      obtain ⟨r8, cr8, h⟩ := h
      refine j_callV (ci := 10) (st1 := .int r8 :: _) (c_X11_stateOf g cr8) jy_X11_stateOf ki_yX11_stateOf ks_yX11_stateOf kl_RX11_312 dX11_judge_207 rfl (okM_1 _) (shM_1 _) rfl rfl rfl rfl (jbr _) (jbr _) hn.1 hn.2 (Or.inr rfl) rfl ?_
      refine j_sub [] [] rfl ?_
      exact f_X11_judge_J210_ok σ r8 hn hr _ h hK
    · replace h := jif_t hc7 h
      refine j_bipush (v := 100) dX11_judge_190 (by decide) ?_
      refine j_iload_n 2 dX11_judge_192 rfl rfl ?_
      replace h := bC_inv h
      obtain ⟨r9, cr9, h⟩ := h
      refine j_callS (st1 := .int r9 :: _) (c_X11_one g _ cr9) jy_X11_one kt_yX11_one kl_RX11_271 dX11_judge_193 rfl rfl rfl rfl (jbr _) (jbr _) hn.1 hn.2 (Or.inr rfl) rfl ?_
      refine j_imul dX11_judge_196 ?_
      refine j_iload_n 2 dX11_judge_197 rfl rfl ?_
      replace h := bC_inv h
      obtain ⟨r10, cr10, h⟩ := h
      refine j_callS (st1 := .int r10 :: _) (c_X11_two g _ cr10) jy_X11_two kt_yX11_two kl_RX11_274 dX11_judge_198 rfl rfl rfl rfl (jbr _) (jbr _) hn.1 hn.2 (Or.inr rfl) rfl ?_
      refine j_iadd dX11_judge_201 ?_
      refine j_goto 210 dX11_judge_202 (by decide) ?_
      refine j_sub [] [] rfl ?_
      exact f_X11_judge_J210_ok σ (((100 : Int32) * r9) + r10) hn hr _ h hK
  · replace h := jif_t hc6 h
    refine j_iload_n 3 dX11_judge_181 rfl rfl ?_
    refine j_goto 210 dX11_judge_182 (by decide) ?_
    refine j_sub [] [] rfl ?_
    exact f_X11_judge_J210_ok σ x3 hn hr _ h hK
def f_X11_judge_J170 (σ : jS) (x1 : Int32) (x3 : Int32) (x4 : Int32) (y0 : Int32) : Option ((Int32 × Int32 × Int32) ⊕ Int32) :=
  bV (x4 + 1) fun v13 =>
  some (.inl (y0, x3, v13))
set_option maxHeartbeats 1000000 in
set_option maxRecDepth 20000 in
theorem f_X11_judge_J170_ok {g : Bool} {rv : Option Value} {μ' : jM} (σ : jS) (x1 : Int32) (x3 : Int32) (x4 : Int32) (y0 : Int32) {Kp : ((Int32 × Int32 × Int32) ⊕ Int32) → Prop} (hn : Nat.ble nM μ'.1 = true ∧ Nat.ble wM μ'.2.1 = true) (hr : ∀ r : Int32, Kp (.inr (r)) → rv = some (.int r) ∧ μ' = (eM σ)) (hc0 : ∀ s : (Int32 × Int32 × Int32), Kp (.inl s) → J yX11_judge cX11_judge 7 (some .int) 6 g rv μ' 38 [(0, .ref 1), (1, .int x1), (2, .int s.1), (3, .int s.2.1), (4, .int s.2.2)] [] (eM σ)) (o : ((Int32 × Int32 × Int32) ⊕ Int32)) (h : f_X11_judge_J170 σ x1 x3 x4 y0 = some o) (hK : Kp o) : J yX11_judge cX11_judge 7 (some .int) 6 g rv μ' 170 [(0, .ref 1), (1, .int x1), (3, .int x3), (4, .int x4)] [.int y0] (eM σ) := by
  unfold f_X11_judge_J170 at h
  refine j_istore_n [(2, .int y0), (0, .ref 1), (1, .int x1), (3, .int x3), (4, .int x4)] dX11_judge_170 rfl (Nat.le_of_ble_eq_true rfl) rfl ?_
  replace h := bV_inv h
  obtain ⟨v14, ev14, h⟩ := h
  refine j_iinc (v := v14) [(4, .int v14), (2, .int y0), (0, .ref 1), (1, .int x1), (3, .int x3)] 4 dX11_judge_171 rfl (by rw [ev14]; rfl) (Nat.le_of_ble_eq_true rfl) rfl ?_
  refine j_goto 38 dX11_judge_174 (by decide) ?_
  replace h := Option.some.inj h
  subst h
  refine j_sub [(0, .ref 1), (1, .int x1), (2, .int y0), (3, .int x3), (4, .int v14)] [2, 3, 1, 4, 0] rfl ?_
  exact hc0 _ hK
def f_X11_judge_J147 (σ : jS) (x1 : Int32) (x2 : Int32) (x4 : Int32) (x5 : Int32) (x6 : Int32) (y0 : Int32) : Option ((Int32 × Int32 × Int32) ⊕ Int32) :=
  if x6 = 0 then (f_X11_judge_J170 σ x1 y0 x4 x2)
  else (bG (jin x4 40) (
  bC (f_X11_behind σ x5 (gI σ 33 (ix x4))) fun r15 =>
  f_X11_judge_J170 σ x1 y0 x4 r15))
set_option maxHeartbeats 1000000 in
set_option maxRecDepth 20000 in
theorem f_X11_judge_J147_ok {g : Bool} {rv : Option Value} {μ' : jM} (σ : jS) (x1 : Int32) (x2 : Int32) (x4 : Int32) (x5 : Int32) (x6 : Int32) (y0 : Int32) {Kp : ((Int32 × Int32 × Int32) ⊕ Int32) → Prop} (hn : Nat.ble nM μ'.1 = true ∧ Nat.ble wM μ'.2.1 = true) (hr : ∀ r : Int32, Kp (.inr (r)) → rv = some (.int r) ∧ μ' = (eM σ)) (hc0 : ∀ s : (Int32 × Int32 × Int32), Kp (.inl s) → J yX11_judge cX11_judge 7 (some .int) 6 g rv μ' 38 [(0, .ref 1), (1, .int x1), (2, .int s.1), (3, .int s.2.1), (4, .int s.2.2)] [] (eM σ)) (o : ((Int32 × Int32 × Int32) ⊕ Int32)) (h : f_X11_judge_J147 σ x1 x2 x4 x5 x6 y0 = some o) (hK : Kp o) : J yX11_judge cX11_judge 7 (some .int) 6 g rv μ' 147 [(0, .ref 1), (1, .int x1), (2, .int x2), (4, .int x4), (5, .int x5), (6, .int x6)] [.int y0] (eM σ) := by
  unfold f_X11_judge_J147 at h
  refine j_istore_n [(3, .int y0), (0, .ref 1), (1, .int x1), (2, .int x2), (4, .int x4), (5, .int x5), (6, .int x6)] dX11_judge_147 rfl (Nat.le_of_ble_eq_true rfl) rfl ?_
  refine j_iload 6 dX11_judge_148 rfl ?_
  refine j_if_eq 169 dX11_judge_150 (by decide) (fun hc16 => ?_) (fun hc16 => ?_)
  · replace h := jif_t hc16 h
    refine j_iload_n 3 dX11_judge_169 rfl rfl ?_
    refine j_sub [(0, .ref 1), (1, .int x1), (3, .int y0), (4, .int x4)] [1, 2, 0, 4] rfl ?_
    exact f_X11_judge_J170_ok σ x1 y0 x4 x2 hn hr hc0 _ h hK
  · replace h := jif_f hc16 h
    refine j_aload_n 1 dX11_judge_153 rfl rfl ?_
    refine j_iload 5 dX11_judge_154 rfl ?_
    refine j_aload_n 1 dX11_judge_156 rfl rfl ?_
    refine j_get (ci := 10) 58 (.ref 33) jC_10 dX11_judge_157 kg_RX11_114 rfl (okM_1 _) (shM_1 _) (fvM_1_58 _) ?_
    refine j_iload 4 dX11_judge_160 rfl ?_
    replace h := bG_inv h
    obtain ⟨hi17, h⟩ := h
    refine j_iaload dX11_judge_162 (okM_33 _) (shM_33 _) (jin_spec hi17) ?_
    replace h := bC_inv h
    obtain ⟨r18, cr18, h⟩ := h
    refine j_callV (ci := 10) (st1 := .int r18 :: _) (c_X11_behind g cr18) jy_X11_behind ki_yX11_behind ks_yX11_behind kl_RX11_337 dX11_judge_163 rfl (okM_1 _) (shM_1 _) rfl rfl rfl rfl (jbr _) (jbr _) hn.1 hn.2 (Or.inr rfl) rfl ?_
    refine j_goto 170 dX11_judge_166 (by decide) ?_
    refine j_sub [(0, .ref 1), (1, .int x1), (3, .int y0), (4, .int x4)] [1, 2, 0, 4] rfl ?_
    exact f_X11_judge_J170_ok σ x1 y0 x4 r18 hn hr hc0 _ h hK
def f_X11_judge_J134 (σ : jS) (x1 : Int32) (x2 : Int32) (x4 : Int32) (x5 : Int32) (y0 : Int32) : Option ((Int32 × Int32 × Int32) ⊕ Int32) :=
  if y0 = 0 then (f_X11_judge_J147 σ x1 x2 x4 x5 y0 x4)
  else (f_X11_judge_J147 σ x1 x2 x4 x5 y0 (-1))
set_option maxHeartbeats 1000000 in
set_option maxRecDepth 20000 in
theorem f_X11_judge_J134_ok {g : Bool} {rv : Option Value} {μ' : jM} (σ : jS) (x1 : Int32) (x2 : Int32) (x4 : Int32) (x5 : Int32) (y0 : Int32) {Kp : ((Int32 × Int32 × Int32) ⊕ Int32) → Prop} (hn : Nat.ble nM μ'.1 = true ∧ Nat.ble wM μ'.2.1 = true) (hr : ∀ r : Int32, Kp (.inr (r)) → rv = some (.int r) ∧ μ' = (eM σ)) (hc0 : ∀ s : (Int32 × Int32 × Int32), Kp (.inl s) → J yX11_judge cX11_judge 7 (some .int) 6 g rv μ' 38 [(0, .ref 1), (1, .int x1), (2, .int s.1), (3, .int s.2.1), (4, .int s.2.2)] [] (eM σ)) (o : ((Int32 × Int32 × Int32) ⊕ Int32)) (h : f_X11_judge_J134 σ x1 x2 x4 x5 y0 = some o) (hK : Kp o) : J yX11_judge cX11_judge 7 (some .int) 6 g rv μ' 134 [(0, .ref 1), (1, .int x1), (2, .int x2), (4, .int x4), (5, .int x5)] [.int y0] (eM σ) := by
  unfold f_X11_judge_J134 at h
  refine j_istore [(6, .int y0), (0, .ref 1), (1, .int x1), (2, .int x2), (4, .int x4), (5, .int x5)] dX11_judge_134 (Nat.le_of_ble_eq_true rfl) rfl ?_
  refine j_iload 0 dX11_judge_136 rfl ?_
  refine j_if_eq 145 dX11_judge_138 (by decide) (fun hc19 => ?_) (fun hc19 => ?_)
  · replace h := jif_t hc19 h
    refine j_iload 4 dX11_judge_145 rfl ?_
    refine j_sub [(0, .ref 1), (1, .int x1), (2, .int x2), (4, .int x4), (5, .int x5), (6, .int y0)] [1, 2, 3, 4, 5, 0] rfl ?_
    exact f_X11_judge_J147_ok σ x1 x2 x4 x5 y0 x4 hn hr hc0 _ h hK
  · replace h := jif_f hc19 h
    refine j_iconst (v := (-1)) dX11_judge_141 (by decide) ?_
    refine j_goto 147 dX11_judge_142 (by decide) ?_
    refine j_sub [(0, .ref 1), (1, .int x1), (2, .int x2), (4, .int x4), (5, .int x5), (6, .int y0)] [1, 2, 3, 4, 5, 0] rfl ?_
    exact f_X11_judge_J147_ok σ x1 x2 x4 x5 y0 (-1) hn hr hc0 _ h hK
def f_X11_judge_J133 (σ : jS) (x1 : Int32) (x2 : Int32) (x4 : Int32) (x5 : Int32) : Option ((Int32 × Int32 × Int32) ⊕ Int32) :=
  f_X11_judge_J134 σ x1 x2 x4 x5 0
set_option maxHeartbeats 1000000 in
set_option maxRecDepth 20000 in
theorem f_X11_judge_J133_ok {g : Bool} {rv : Option Value} {μ' : jM} (σ : jS) (x1 : Int32) (x2 : Int32) (x4 : Int32) (x5 : Int32) {Kp : ((Int32 × Int32 × Int32) ⊕ Int32) → Prop} (hn : Nat.ble nM μ'.1 = true ∧ Nat.ble wM μ'.2.1 = true) (hr : ∀ r : Int32, Kp (.inr (r)) → rv = some (.int r) ∧ μ' = (eM σ)) (hc0 : ∀ s : (Int32 × Int32 × Int32), Kp (.inl s) → J yX11_judge cX11_judge 7 (some .int) 6 g rv μ' 38 [(0, .ref 1), (1, .int x1), (2, .int s.1), (3, .int s.2.1), (4, .int s.2.2)] [] (eM σ)) (o : ((Int32 × Int32 × Int32) ⊕ Int32)) (h : f_X11_judge_J133 σ x1 x2 x4 x5 = some o) (hK : Kp o) : J yX11_judge cX11_judge 7 (some .int) 6 g rv μ' 133 [(0, .ref 1), (1, .int x1), (2, .int x2), (4, .int x4), (5, .int x5)] [] (eM σ) := by
  unfold f_X11_judge_J133 at h
  refine j_iconst (v := 0) dX11_judge_133 (by decide) ?_
  exact f_X11_judge_J134_ok σ x1 x2 x4 x5 0 hn hr hc0 _ h hK
def f_X11_judge_J81 (σ : jS) (x1 : Int32) (x2 : Int32) (x4 : Int32) (x5 : Int32) : Option ((Int32 × Int32 × Int32) ⊕ Int32) :=
  bC (f_X11_stateOf σ x5) fun r12 =>
  if r12 = 0 then (bC (f_X11_side x5) fun r20 =>
  bC (f_X11_holder x5 r20) fun r21 =>
  bG (jin x4 40) (
  if r21 = (gI σ 32 (ix x4)) then (bC (f_X11_mayNow σ x5) fun r22 =>
  bG (jin x4 40) (
  bC (f_X11_has r22 (gI σ 33 (ix x4))) fun r23 =>
  if r23 = 0 then (f_X11_judge_J133 σ x1 x2 x4 x5)
  else (f_X11_judge_J134 σ x1 x2 x4 x5 1)))
  else (f_X11_judge_J133 σ x1 x2 x4 x5)))
  else (f_X11_judge_J133 σ x1 x2 x4 x5)
set_option maxHeartbeats 1000000 in
set_option maxRecDepth 20000 in
theorem f_X11_judge_J81_ok {g : Bool} {rv : Option Value} {μ' : jM} (σ : jS) (x1 : Int32) (x2 : Int32) (x4 : Int32) (x5 : Int32) {Kp : ((Int32 × Int32 × Int32) ⊕ Int32) → Prop} (hn : Nat.ble nM μ'.1 = true ∧ Nat.ble wM μ'.2.1 = true) (hr : ∀ r : Int32, Kp (.inr (r)) → rv = some (.int r) ∧ μ' = (eM σ)) (hc0 : ∀ s : (Int32 × Int32 × Int32), Kp (.inl s) → J yX11_judge cX11_judge 7 (some .int) 6 g rv μ' 38 [(0, .ref 1), (1, .int x1), (2, .int s.1), (3, .int s.2.1), (4, .int s.2.2)] [] (eM σ)) (o : ((Int32 × Int32 × Int32) ⊕ Int32)) (h : f_X11_judge_J81 σ x1 x2 x4 x5 = some o) (hK : Kp o) : J yX11_judge cX11_judge 7 (some .int) 6 g rv μ' 81 [(0, .ref 1), (1, .int x1), (2, .int x2), (4, .int x4), (5, .int x5)] [] (eM σ) := by
  unfold f_X11_judge_J81 at h
  refine j_aload_n 0 dX11_judge_81 rfl rfl ?_
  refine j_iload 4 dX11_judge_82 rfl ?_
  replace h := bC_inv h
  obtain ⟨r24, cr24, h⟩ := h
  refine j_callV (ci := 10) (st1 := .int r24 :: _) (c_X11_stateOf g cr24) jy_X11_stateOf ki_yX11_stateOf ks_yX11_stateOf kl_RX11_312 dX11_judge_84 rfl (okM_1 _) (shM_1 _) rfl rfl rfl rfl (jbr _) (jbr _) hn.1 hn.2 (Or.inr rfl) rfl ?_
  refine j_if_ne 133 dX11_judge_87 (by decide) (fun hc25 => ?_) (fun hc25 => ?_)
  · replace h := jif_f hc25 h
    exact f_X11_judge_J133_ok σ x1 x2 x4 x5 hn hr hc0 _ h hK
  · replace h := jif_t hc25 h
    refine j_iload 4 dX11_judge_90 rfl ?_
    refine j_iload 4 dX11_judge_92 rfl ?_
    replace h := bC_inv h
    obtain ⟨r26, cr26, h⟩ := h
    refine j_callS (st1 := .int r26 :: _) (c_X11_side g _ cr26) jy_X11_side kt_yX11_side kl_RX11_277 dX11_judge_94 rfl rfl rfl rfl (jbr _) (jbr _) hn.1 hn.2 (Or.inr rfl) rfl ?_
    replace h := bC_inv h
    obtain ⟨r27, cr27, h⟩ := h
    refine j_callS (st1 := .int r27 :: _) (c_X11_holder g _ cr27) jy_X11_holder kt_yX11_holder kl_RX11_291 dX11_judge_97 rfl rfl rfl rfl (jbr _) (jbr _) hn.1 hn.2 (Or.inr rfl) rfl ?_
    refine j_aload_n 0 dX11_judge_100 rfl rfl ?_
    refine j_get (ci := 10) 57 (.ref 32) jC_10 dX11_judge_101 kg_RX11_111 rfl (okM_1 _) (shM_1 _) (fvM_1_57 _) ?_
    refine j_iload 3 dX11_judge_104 rfl ?_
    replace h := bG_inv h
    obtain ⟨hi28, h⟩ := h
    refine j_iaload dX11_judge_106 (okM_32 _) (shM_32 _) (jin_spec hi28) ?_
    refine j_icmp_ne 133 dX11_judge_107 (by decide) (fun hc29 => ?_) (fun hc29 => ?_)
    · replace h := jif_f hc29 h
      exact f_X11_judge_J133_ok σ x1 x2 x4 x5 hn hr hc0 _ h hK
    · replace h := jif_t hc29 h
      refine j_aload_n 0 dX11_judge_110 rfl rfl ?_
      refine j_iload 4 dX11_judge_111 rfl ?_
      replace h := bC_inv h
      obtain ⟨r30, cr30, h⟩ := h
      refine j_callV (ci := 10) (st1 := .int r30 :: _) (c_X11_mayNow g cr30) jy_X11_mayNow ki_yX11_mayNow ks_yX11_mayNow kl_RX11_315 dX11_judge_113 rfl (okM_1 _) (shM_1 _) rfl rfl rfl rfl (jbr _) (jbr _) hn.1 hn.2 (Or.inr rfl) rfl ?_
      refine j_aload_n 0 dX11_judge_116 rfl rfl ?_
      refine j_get (ci := 10) 58 (.ref 33) jC_10 dX11_judge_117 kg_RX11_114 rfl (okM_1 _) (shM_1 _) (fvM_1_58 _) ?_
      refine j_iload 3 dX11_judge_120 rfl ?_
      replace h := bG_inv h
      obtain ⟨hi31, h⟩ := h
      refine j_iaload dX11_judge_122 (okM_33 _) (shM_33 _) (jin_spec hi31) ?_
      replace h := bC_inv h
      obtain ⟨r32, cr32, h⟩ := h
      refine j_callS (st1 := .int r32 :: _) (c_X11_has g _ cr32) jy_X11_has kt_yX11_has kl_RX11_287 dX11_judge_123 rfl rfl rfl rfl (jbr _) (jbr _) hn.1 hn.2 (Or.inr rfl) rfl ?_
      refine j_if_eq 133 dX11_judge_126 (by decide) (fun hc33 => ?_) (fun hc33 => ?_)
      · replace h := jif_t hc33 h
        exact f_X11_judge_J133_ok σ x1 x2 x4 x5 hn hr hc0 _ h hK
      · replace h := jif_f hc33 h
        refine j_iconst (v := 1) dX11_judge_129 (by decide) ?_
        refine j_goto 134 dX11_judge_130 (by decide) ?_
        exact f_X11_judge_J134_ok σ x1 x2 x4 x5 1 hn hr hc0 _ h hK
def f_X11_judge_B38 (σ : jS) (x1 : Int32) (x2 : Int32) (x3 : Int32) (x4 : Int32) : Option ((Int32 × Int32 × Int32) ⊕ Int32) :=
  if (gI σ 1 56) ≤ x4 then (jw (f_X11_judge_J177 σ x1 x2 x3))
  else (if 0 ≤ x3 then (jw (f_X11_judge_J177 σ x1 x2 x3))
  else (bC (f_X11_stateOf σ x2) fun r11 =>
  if r11 = 0 then (bC (f_X11_mayNow σ x2) fun r34 =>
  if r34 = 0 then (bC (f_X11_behind σ x2 (-1)) fun r35 =>
  f_X11_judge_J81 σ x1 x2 x4 r35)
  else (f_X11_judge_J81 σ x1 x2 x4 x2))
  else (f_X11_judge_J81 σ x1 x2 x4 x2)))
set_option maxHeartbeats 1000000 in
set_option maxRecDepth 20000 in
theorem f_X11_judge_B38_ok {g : Bool} {rv : Option Value} {μ' : jM} (σ : jS) (x1 : Int32) (x2 : Int32) (x3 : Int32) (x4 : Int32) {Kp : ((Int32 × Int32 × Int32) ⊕ Int32) → Prop} (hn : Nat.ble nM μ'.1 = true ∧ Nat.ble wM μ'.2.1 = true) (hr : ∀ r : Int32, Kp (.inr (r)) → rv = some (.int r) ∧ μ' = (eM σ)) (hc0 : ∀ s : (Int32 × Int32 × Int32), Kp (.inl s) → J yX11_judge cX11_judge 7 (some .int) 6 g rv μ' 38 [(0, .ref 1), (1, .int x1), (2, .int s.1), (3, .int s.2.1), (4, .int s.2.2)] [] (eM σ)) (o : ((Int32 × Int32 × Int32) ⊕ Int32)) (h : f_X11_judge_B38 σ x1 x2 x3 x4 = some o) (hK : Kp o) : J yX11_judge cX11_judge 7 (some .int) 6 g rv μ' 38 [(0, .ref 1), (1, .int x1), (2, .int x2), (3, .int x3), (4, .int x4)] [] (eM σ) := by
  unfold f_X11_judge_B38 at h
  refine j_iload 4 dX11_judge_38 rfl ?_
  refine j_aload_n 0 dX11_judge_40 rfl rfl ?_
  refine j_get (ci := 10) 56 (.int (gI σ 1 56)) jC_10 dX11_judge_41 kg_RX11_249 rfl (okM_1 _) (shM_1 _) (fvM_1_56 _) ?_
  refine j_icmp_ge 177 dX11_judge_44 (by decide) (fun hc36 => ?_) (fun hc36 => ?_)
  · replace h := jif_t hc36 h
    replace h := jw_inv h
    obtain ⟨o37, rfl, h⟩ := h
    refine j_sub [(0, .ref 1), (1, .int x1), (2, .int x2), (3, .int x3)] [0, 1, 2, 3] rfl ?_
    exact f_X11_judge_J177_ok (Kp := fun o => Kp (.inr (o))) σ x1 x2 x3 hn (fun r q => hr r q) _ h hK
  · replace h := jif_f hc36 h
    refine j_iload_n 3 dX11_judge_47 rfl rfl ?_
    refine j_if_ge 177 dX11_judge_48 (by decide) (fun hc38 => ?_) (fun hc38 => ?_)
    · replace h := jif_t hc38 h
      replace h := jw_inv h
      obtain ⟨o39, rfl, h⟩ := h
      refine j_sub [(0, .ref 1), (1, .int x1), (2, .int x2), (3, .int x3)] [0, 1, 2, 3] rfl ?_
      exact f_X11_judge_J177_ok (Kp := fun o => Kp (.inr (o))) σ x1 x2 x3 hn (fun r q => hr r q) _ h hK
    · replace h := jif_f hc38 h
      refine j_iload_n 2 dX11_judge_51 rfl rfl ?_
      refine j_istore [(5, .int x2), (0, .ref 1), (1, .int x1), (2, .int x2), (3, .int x3), (4, .int x4)] dX11_judge_52 (Nat.le_of_ble_eq_true rfl) rfl ?_
      refine j_aload_n 1 dX11_judge_54 rfl rfl ?_
      refine j_iload 0 dX11_judge_55 rfl ?_
      replace h := bC_inv h
      obtain ⟨r40, cr40, h⟩ := h
      refine j_callV (ci := 10) (st1 := .int r40 :: _) (c_X11_stateOf g cr40) jy_X11_stateOf ki_yX11_stateOf ks_yX11_stateOf kl_RX11_312 dX11_judge_57 rfl (okM_1 _) (shM_1 _) rfl rfl rfl rfl (jbr _) (jbr _) hn.1 hn.2 (Or.inr rfl) rfl ?_
      refine j_if_ne 81 dX11_judge_60 (by decide) (fun hc41 => ?_) (fun hc41 => ?_)
      · replace h := jif_f hc41 h
        refine j_sub [(0, .ref 1), (1, .int x1), (2, .int x2), (4, .int x4), (5, .int x2)] [1, 2, 3, 5, 0] rfl ?_
        exact f_X11_judge_J81_ok σ x1 x2 x4 x2 hn hr hc0 _ h hK
      · replace h := jif_t hc41 h
        refine j_aload_n 1 dX11_judge_63 rfl rfl ?_
        refine j_iload 0 dX11_judge_64 rfl ?_
        replace h := bC_inv h
        obtain ⟨r42, cr42, h⟩ := h
        refine j_callV (ci := 10) (st1 := .int r42 :: _) (c_X11_mayNow g cr42) jy_X11_mayNow ki_yX11_mayNow ks_yX11_mayNow kl_RX11_315 dX11_judge_66 rfl (okM_1 _) (shM_1 _) rfl rfl rfl rfl (jbr _) (jbr _) hn.1 hn.2 (Or.inr rfl) rfl ?_
        refine j_if_ne 81 dX11_judge_69 (by decide) (fun hc43 => ?_) (fun hc43 => ?_)
        · replace h := jif_f hc43 h
          refine j_sub [(0, .ref 1), (1, .int x1), (2, .int x2), (4, .int x4), (5, .int x2)] [1, 2, 3, 5, 0] rfl ?_
          exact f_X11_judge_J81_ok σ x1 x2 x4 x2 hn hr hc0 _ h hK
        · replace h := jif_t hc43 h
          refine j_aload_n 1 dX11_judge_72 rfl rfl ?_
          refine j_iload 0 dX11_judge_73 rfl ?_
          refine j_iconst (v := (-1)) dX11_judge_75 (by decide) ?_
          replace h := bC_inv h
          obtain ⟨r44, cr44, h⟩ := h
          refine j_callV (ci := 10) (st1 := .int r44 :: _) (c_X11_behind g cr44) jy_X11_behind ki_yX11_behind ks_yX11_behind kl_RX11_337 dX11_judge_76 rfl (okM_1 _) (shM_1 _) rfl rfl rfl rfl (jbr _) (jbr _) hn.1 hn.2 (Or.inr rfl) rfl ?_
          refine j_istore [(5, .int r44), (0, .ref 1), (1, .int x1), (2, .int x2), (3, .int x3), (4, .int x4)] dX11_judge_79 (Nat.le_of_ble_eq_true rfl) rfl ?_
          refine j_sub [(0, .ref 1), (1, .int x1), (2, .int x2), (4, .int x4), (5, .int r44)] [1, 2, 3, 5, 0] rfl ?_
          exact f_X11_judge_J81_ok σ x1 x2 x4 r44 hn hr hc0 _ h hK
def f_X11_judge (σ : jS) (x1 : Int32) : Option Int32 :=
  bC (f_X11_in (x1.toInt64) 0 2) fun r1 =>
  if r1 = 0 then (some ((-1002)))
  else (if (gI σ 1 8) = 0 then (some ((-1003)))
  else (bC (f_X11_toldCode σ 0) fun r2 =>
  jloop jFuel (fun s => f_X11_judge_B38 σ x1 s.1 s.2.1 s.2.2) (r2, (-1), 0)))
set_option maxHeartbeats 1000000 in
set_option maxRecDepth 20000 in
theorem f_X11_judge_ok {g : Bool} {rv : Option Value} {μ' : jM} (σ : jS) (x1 : Int32) {Kp : Int32 → Prop} (hn : Nat.ble nM μ'.1 = true ∧ Nat.ble wM μ'.2.1 = true) (hr : ∀ r : Int32, Kp (r) → rv = some (.int r) ∧ μ' = (eM σ)) (o : Int32) (h : f_X11_judge σ x1 = some o) (hK : Kp o) : J yX11_judge cX11_judge 7 (some .int) 6 g rv μ' 0 [(0, .ref 1), (1, .int x1)] [] (eM σ) := by
  unfold f_X11_judge at h
  refine j_iload_n 1 dX11_judge_0 rfl rfl ?_
  refine j_i2l dX11_judge_1 ?_
  refine j_lconst (v := 0) dX11_judge_2 (by decide) ?_
  refine j_ldc2 (v := 2) kk_RX11_397 dX11_judge_3 ?_
  replace h := bC_inv h
  obtain ⟨r45, cr45, h⟩ := h
  refine j_callS (st1 := .int r45 :: _) (c_X11_in g _ cr45) jy_X11_in kt_yX11_in kl_RX11_144 dX11_judge_6 rfl rfl rfl rfl (jbr _) (jbr _) hn.1 hn.2 (Or.inr rfl) rfl ?_
  refine j_if_ne 16 dX11_judge_9 (by decide) (fun hc46 => ?_) (fun hc46 => ?_)
  · replace h := jif_f hc46 h
    refine j_aload_n 0 dX11_judge_16 rfl rfl ?_
    refine j_get (ci := 10) 8 (.int (gI σ 1 8)) jC_10 dX11_judge_17 kg_RX11_148 rfl (okM_1 _) (shM_1 _) (fvM_1_8 _) ?_
    refine j_if_ne 27 dX11_judge_20 (by decide) (fun hc47 => ?_) (fun hc47 => ?_)
    · replace h := jif_f hc47 h
      refine j_aload_n 0 dX11_judge_27 rfl rfl ?_
      refine j_iconst (v := 0) dX11_judge_28 (by decide) ?_
      replace h := bC_inv h
      obtain ⟨r48, cr48, h⟩ := h
      refine j_callV (ci := 10) (st1 := .int r48 :: _) (c_X11_toldCode g cr48) jy_X11_toldCode ki_yX11_toldCode ks_yX11_toldCode kl_RX11_246 dX11_judge_29 rfl (okM_1 _) (shM_1 _) rfl rfl rfl rfl (jbr _) (jbr _) hn.1 hn.2 (Or.inr rfl) rfl ?_
      refine j_istore_n [(2, .int r48), (0, .ref 1), (1, .int x1)] dX11_judge_32 rfl (Nat.le_of_ble_eq_true rfl) rfl ?_
      refine j_iconst (v := (-1)) dX11_judge_33 (by decide) ?_
      refine j_istore_n [(3, .int (-1)), (2, .int r48), (0, .ref 1), (1, .int x1)] dX11_judge_34 rfl (Nat.le_of_ble_eq_true rfl) rfl ?_
      refine j_iconst (v := 0) dX11_judge_35 (by decide) ?_
      refine j_istore [(4, .int 0), (3, .int (-1)), (2, .int r48), (0, .ref 1), (1, .int x1)] dX11_judge_36 (Nat.le_of_ble_eq_true rfl) rfl ?_
      refine j_sub [(0, .ref 1), (1, .int x1), (2, .int r48), (3, .int (-1)), (4, .int 0)] [3, 4, 2, 1, 0] rfl ?_
      exact jloop_ok (fun s => f_X11_judge_B38 σ x1 s.1 s.2.1 s.2.2) (fun s => J yX11_judge cX11_judge 7 (some .int) 6 g rv μ' 38 [(0, .ref 1), (1, .int x1), (2, .int s.1), (3, .int s.2.1), (4, .int s.2.2)] [] (eM σ)) Kp (fun s o hb hk => f_X11_judge_B38_ok (Kp := jsum (fun s => J yX11_judge cX11_judge 7 (some .int) 6 g rv μ' 38 [(0, .ref 1), (1, .int x1), (2, .int s.1), (3, .int s.2.1), (4, .int s.2.2)] [] (eM σ)) Kp) σ x1 s.1 s.2.1 s.2.2 hn (fun r q => hr r q) (fun s q => q) o hb hk) jFuel _ _ h hK
    · replace h := jif_t hc47 h
      refine j_sipush (v := (-1003)) dX11_judge_23 (by decide) ?_
      replace h := Option.some.inj h
      subst h
      obtain ⟨hr1, hr2⟩ := hr _ hK
      exact j_iret dX11_judge_26 hr1 hr2
  · replace h := jif_t hc46 h
    refine j_sipush (v := (-1002)) dX11_judge_12 (by decide) ?_
    replace h := Option.some.inj h
    subst h
    obtain ⟨hr1, hr2⟩ := hr _ hK
    exact j_iret dX11_judge_15 hr1 hr2
theorem c_X11_judge (g : Bool) {σ : jS} {x1 : Int32} {r : Int32} (h : f_X11_judge σ x1 = some r) : Cn yX11_judge cX11_judge 7 (some .int) 6 g [.ref 1, .int x1] (eM σ) (some (.int r)) (eM σ) :=
  Cn_of (by decide) (Nat.le_refl _) (Nat.le_refl _) (Nat.le_of_ble_eq_true rfl) (f_X11_judge_ok (Kp := (fun o => o = r)) σ x1 ⟨jbr _, jbr _⟩ (fun r2 q => by cases q; exact ⟨rfl, rfl⟩) _ h rfl)
def f_X11_seen (σ : jS) (x1 : Int32) (x2 : Int32) (x3 : Int32) : Option (Int32 × jS) :=
  bC (f_X11_isPerson σ x2) fun r1 =>
  if r1 = 0 then (some (((-1001), σ)))
  else (bC (f_X11_in (x1.toInt64) 0 40) fun r2 =>
  if r2 = 0 then (some (((-1002), σ)))
  else (if (gI σ 1 59) = 20 then (some (((-1004), σ)))
  else (bG (jin (gI σ 1 59) 20) (
  bV (sI σ 34 (ix (gI σ 1 59)) x1) fun σ3 =>
  bG (jin (gI σ3 1 59) 20) (
  bV (sI σ3 35 (ix (gI σ3 1 59)) x2) fun σ4 =>
  bG (jb x3) (
  bG (jin (gI σ4 1 59) 20) (
  bV (sI σ4 36 (ix (gI σ4 1 59)) x3) fun σ5 =>
  bV (sI σ5 1 59 ((gI σ5 1 59) + (1 : Int32))) fun σ6 =>
  some ((gI σ6 1 59, σ6)))))))))
set_option maxHeartbeats 1000000 in
set_option maxRecDepth 20000 in
theorem f_X11_seen_ok {g : Bool} {rv : Option Value} {μ' : jM} (σ : jS) (x1 : Int32) (x2 : Int32) (x3 : Int32) {Kp : (Int32 × jS) → Prop} (hn : Nat.ble nM μ'.1 = true ∧ Nat.ble wM μ'.2.1 = true) (hr : ∀ (r : Int32) (s : jS), Kp ((r, s)) → rv = some (.int r) ∧ μ' = eM s) (o : (Int32 × jS)) (h : f_X11_seen σ x1 x2 x3 = some o) (hK : Kp o) : J yX11_seen cX11_seen 4 (some .int) 3 g rv μ' 0 [(0, .ref 1), (1, .int x1), (2, .int x2), (3, .int x3)] [] (eM σ) := by
  unfold f_X11_seen at h
  refine j_aload_n 0 dX11_seen_0 rfl rfl ?_
  refine j_iload_n 2 dX11_seen_1 rfl rfl ?_
  replace h := bC_inv h
  obtain ⟨r7, cr7, h⟩ := h
  refine j_callV (ci := 10) (st1 := .int r7 :: _) (c_X11_isPerson g cr7) jy_X11_isPerson ki_yX11_isPerson ks_yX11_isPerson kl_RX11_255 dX11_seen_2 rfl (okM_1 _) (shM_1 _) rfl rfl rfl rfl (jbr _) (jbr _) hn.1 hn.2 (Or.inr rfl) rfl ?_
  refine j_if_ne 12 dX11_seen_5 (by decide) (fun hc8 => ?_) (fun hc8 => ?_)
  · replace h := jif_f hc8 h
    refine j_iload_n 1 dX11_seen_12 rfl rfl ?_
    refine j_i2l dX11_seen_13 ?_
    refine j_lconst (v := 0) dX11_seen_14 (by decide) ?_
    refine j_ldc2 (v := 40) kk_RX11_418 dX11_seen_15 ?_
    replace h := bC_inv h
    obtain ⟨r9, cr9, h⟩ := h
    refine j_callS (st1 := .int r9 :: _) (c_X11_in g _ cr9) jy_X11_in kt_yX11_in kl_RX11_144 dX11_seen_18 rfl rfl rfl rfl (jbr _) (jbr _) hn.1 hn.2 (Or.inr rfl) rfl ?_
    refine j_if_ne 28 dX11_seen_21 (by decide) (fun hc10 => ?_) (fun hc10 => ?_)
    · replace h := jif_f hc10 h
      refine j_aload_n 0 dX11_seen_28 rfl rfl ?_
      refine j_get (ci := 10) 59 (.int (gI σ 1 59)) jC_10 dX11_seen_29 kg_RX11_252 rfl (okM_1 _) (shM_1 _) (fvM_1_59 _) ?_
      refine j_bipush (v := 20) dX11_seen_32 (by decide) ?_
      refine j_icmp_ne 41 dX11_seen_34 (by decide) (fun hc11 => ?_) (fun hc11 => ?_)
      · replace h := jif_f hc11 h
        refine j_aload_n 0 dX11_seen_41 rfl rfl ?_
        refine j_get (ci := 10) 60 (.ref 34) jC_10 dX11_seen_42 kg_RX11_117 rfl (okM_1 _) (shM_1 _) (fvM_1_60 _) ?_
        refine j_aload_n 0 dX11_seen_45 rfl rfl ?_
        refine j_get (ci := 10) 59 (.int (gI σ 1 59)) jC_10 dX11_seen_46 kg_RX11_252 rfl (okM_1 _) (shM_1 _) (fvM_1_59 _) ?_
        refine j_iload_n 1 dX11_seen_49 rfl rfl ?_
        replace h := bG_inv h
        obtain ⟨hi12, h⟩ := h
        refine j_iastore dX11_seen_50 (okM_34 _) (shM_34 _) (jin_spec hi12) ?_
        replace h := bV_inv h
        obtain ⟨σ13, eσ13, h⟩ := h
        refine j_mem (congrArg eM eσ13) ?_
        refine j_aload_n 0 dX11_seen_51 rfl rfl ?_
        refine j_get (ci := 10) 61 (.ref 35) jC_10 dX11_seen_52 kg_RX11_120 rfl (okM_1 _) (shM_1 _) (fvM_1_61 _) ?_
        refine j_aload_n 0 dX11_seen_55 rfl rfl ?_
        refine j_get (ci := 10) 59 (.int (gI σ13 1 59)) jC_10 dX11_seen_56 kg_RX11_252 rfl (okM_1 _) (shM_1 _) (fvM_1_59 _) ?_
        refine j_iload_n 2 dX11_seen_59 rfl rfl ?_
        replace h := bG_inv h
        obtain ⟨hi14, h⟩ := h
        refine j_iastore dX11_seen_60 (okM_35 _) (shM_35 _) (jin_spec hi14) ?_
        replace h := bV_inv h
        obtain ⟨σ15, eσ15, h⟩ := h
        refine j_mem (congrArg eM eσ15) ?_
        refine j_aload_n 0 dX11_seen_61 rfl rfl ?_
        refine j_get (ci := 10) 62 (.ref 36) jC_10 dX11_seen_62 kg_RX11_123 rfl (okM_1 _) (shM_1 _) (fvM_1_62 _) ?_
        refine j_aload_n 0 dX11_seen_65 rfl rfl ?_
        refine j_get (ci := 10) 59 (.int (gI σ15 1 59)) jC_10 dX11_seen_66 kg_RX11_252 rfl (okM_1 _) (shM_1 _) (fvM_1_59 _) ?_
        refine j_iload_n 3 dX11_seen_69 rfl rfl ?_
        replace h := bG_inv h
        obtain ⟨hb16, h⟩ := h
        replace h := bG_inv h
        obtain ⟨hi17, h⟩ := h
        refine j_bastore dX11_seen_70 (okM_36 _) (shM_36 _) (jin_spec hi17) ?_
        rw [jb_vp hb16]
        replace h := bV_inv h
        obtain ⟨σ18, eσ18, h⟩ := h
        refine j_mem (congrArg eM eσ18) ?_
        refine j_aload_n 0 dX11_seen_71 rfl rfl ?_
        refine j_dup dX11_seen_72 rfl ?_
        refine j_get (ci := 10) 59 (.int (gI σ18 1 59)) jC_10 dX11_seen_73 kg_RX11_252 rfl (okM_1 _) (shM_1 _) (fvM_1_59 _) ?_
        refine j_iconst (v := 1) dX11_seen_76 (by decide) ?_
        refine j_iadd dX11_seen_77 ?_
        replace h := bV_inv h
        obtain ⟨σ19, eσ19, h⟩ := h
        refine j_putI 59 jC_10 dX11_seen_78 kg_RX11_252 (Or.inl ff_10_59) rfl fk_10_59 (fn_10_59 _) (okM_1 _) (shM_1 _) ?_
        refine j_mem (congrArg eM eσ19) ?_
        refine j_aload_n 0 dX11_seen_81 rfl rfl ?_
        refine j_get (ci := 10) 59 (.int (gI σ19 1 59)) jC_10 dX11_seen_82 kg_RX11_252 rfl (okM_1 _) (shM_1 _) (fvM_1_59 _) ?_
        replace h := Option.some.inj h
        subst h
        obtain ⟨hr1, hr2⟩ := hr _ _ hK
        exact j_iret dX11_seen_85 hr1 hr2
      · replace h := jif_t hc11 h
        refine j_sipush (v := (-1004)) dX11_seen_37 (by decide) ?_
        replace h := Option.some.inj h
        subst h
        obtain ⟨hr1, hr2⟩ := hr _ _ hK
        exact j_iret dX11_seen_40 hr1 hr2
    · replace h := jif_t hc10 h
      refine j_sipush (v := (-1002)) dX11_seen_24 (by decide) ?_
      replace h := Option.some.inj h
      subst h
      obtain ⟨hr1, hr2⟩ := hr _ _ hK
      exact j_iret dX11_seen_27 hr1 hr2
  · replace h := jif_t hc8 h
    refine j_sipush (v := (-1001)) dX11_seen_8 (by decide) ?_
    replace h := Option.some.inj h
    subst h
    obtain ⟨hr1, hr2⟩ := hr _ _ hK
    exact j_iret dX11_seen_11 hr1 hr2
theorem c_X11_seen (g : Bool) {σ : jS} {x1 : Int32} {x2 : Int32} {x3 : Int32} {r : Int32} {σ2 : jS} (h : f_X11_seen σ x1 x2 x3 = some (r, σ2)) : Cn yX11_seen cX11_seen 4 (some .int) 3 g [.ref 1, .int x1, .int x2, .int x3] (eM σ) (some (.int r)) (eM σ2) :=
  Cn_of (by decide) (Nat.le_refl _) (Nat.le_refl _) (Nat.le_of_ble_eq_true rfl) (f_X11_seen_ok (Kp := (fun o => o = (r, σ2))) σ x1 x2 x3 ⟨jbr _, jbr _⟩ (fun r2 s2 q => by cases q; exact ⟨rfl, rfl⟩) _ h rfl)
def f_X11_fits_J88 (σ : jS) (x3 : Int32) : Option Int32 :=
  bG (jb x3) (
  some (x3))
set_option maxHeartbeats 1000000 in
set_option maxRecDepth 20000 in
theorem f_X11_fits_J88_ok {g : Bool} {rv : Option Value} {μ' : jM} (σ : jS) (x3 : Int32) {Kp : Int32 → Prop} (hn : Nat.ble nM μ'.1 = true ∧ Nat.ble wM μ'.2.1 = true) (hr : ∀ r : Int32, Kp (r) → rv = some (.int r) ∧ μ' = (eM σ)) (o : Int32) (h : f_X11_fits_J88 σ x3 = some o) (hK : Kp o) : J yX11_fits cX11_fits 6 (some .boolean) 2 g rv μ' 88 [(3, .int x3)] [] (eM σ) := by
  unfold f_X11_fits_J88 at h
  refine j_iload_n 0 dX11_fits_88 rfl rfl ?_
  replace h := bG_inv h
  obtain ⟨hb, h⟩ := h
  replace h := Option.some.inj h
  subst h
  obtain ⟨hr1, hr2⟩ := hr _ hK
  exact j_zret (jb_nar hb) dX11_fits_89 hr1 hr2
def f_X11_fits_J81 (σ : jS) (x1 : Int32) (x2 : Int32) (x4 : Int32) (y0 : Int32) : Option ((Int32 × Int32) ⊕ Int32) :=
  bV (x4 + 1) fun v2 =>
  some (.inl (y0, v2))
set_option maxHeartbeats 1000000 in
set_option maxRecDepth 20000 in
theorem f_X11_fits_J81_ok {g : Bool} {rv : Option Value} {μ' : jM} (σ : jS) (x1 : Int32) (x2 : Int32) (x4 : Int32) (y0 : Int32) {Kp : ((Int32 × Int32) ⊕ Int32) → Prop} (hn : Nat.ble nM μ'.1 = true ∧ Nat.ble wM μ'.2.1 = true) (hr : ∀ r : Int32, Kp (.inr (r)) → rv = some (.int r) ∧ μ' = (eM σ)) (hc0 : ∀ s : (Int32 × Int32), Kp (.inl s) → J yX11_fits cX11_fits 6 (some .boolean) 2 g rv μ' 5 [(0, .ref 1), (1, .int x1), (2, .int x2), (3, .int s.1), (4, .int s.2)] [] (eM σ)) (o : ((Int32 × Int32) ⊕ Int32)) (h : f_X11_fits_J81 σ x1 x2 x4 y0 = some o) (hK : Kp o) : J yX11_fits cX11_fits 6 (some .boolean) 2 g rv μ' 81 [(0, .ref 1), (1, .int x1), (2, .int x2), (4, .int x4)] [.int y0] (eM σ) := by
  unfold f_X11_fits_J81 at h
  refine j_istore_n [(3, .int y0), (0, .ref 1), (1, .int x1), (2, .int x2), (4, .int x4)] dX11_fits_81 rfl (Nat.le_of_ble_eq_true rfl) rfl ?_
  replace h := bV_inv h
  obtain ⟨v3, ev3, h⟩ := h
  refine j_iinc (v := v3) [(4, .int v3), (3, .int y0), (0, .ref 1), (1, .int x1), (2, .int x2)] 4 dX11_fits_82 rfl (by rw [ev3]; rfl) (Nat.le_of_ble_eq_true rfl) rfl ?_
  refine j_goto 5 dX11_fits_85 (by decide) ?_
  replace h := Option.some.inj h
  subst h
  refine j_sub [(0, .ref 1), (1, .int x1), (2, .int x2), (3, .int y0), (4, .int v3)] [2, 3, 4, 1, 0] rfl ?_
  exact hc0 _ hK
def f_X11_fits_J80 (σ : jS) (x1 : Int32) (x2 : Int32) (x4 : Int32) : Option ((Int32 × Int32) ⊕ Int32) :=
  f_X11_fits_J81 σ x1 x2 x4 0
set_option maxHeartbeats 1000000 in
set_option maxRecDepth 20000 in
theorem f_X11_fits_J80_ok {g : Bool} {rv : Option Value} {μ' : jM} (σ : jS) (x1 : Int32) (x2 : Int32) (x4 : Int32) {Kp : ((Int32 × Int32) ⊕ Int32) → Prop} (hn : Nat.ble nM μ'.1 = true ∧ Nat.ble wM μ'.2.1 = true) (hr : ∀ r : Int32, Kp (.inr (r)) → rv = some (.int r) ∧ μ' = (eM σ)) (hc0 : ∀ s : (Int32 × Int32), Kp (.inl s) → J yX11_fits cX11_fits 6 (some .boolean) 2 g rv μ' 5 [(0, .ref 1), (1, .int x1), (2, .int x2), (3, .int s.1), (4, .int s.2)] [] (eM σ)) (o : ((Int32 × Int32) ⊕ Int32)) (h : f_X11_fits_J80 σ x1 x2 x4 = some o) (hK : Kp o) : J yX11_fits cX11_fits 6 (some .boolean) 2 g rv μ' 80 [(0, .ref 1), (1, .int x1), (2, .int x2), (4, .int x4)] [] (eM σ) := by
  unfold f_X11_fits_J80 at h
  refine j_iconst (v := 0) dX11_fits_80 (by decide) ?_
  exact f_X11_fits_J81_ok σ x1 x2 x4 0 hn hr hc0 _ h hK
def f_X11_fits_J76 (σ : jS) (x1 : Int32) (x2 : Int32) (x4 : Int32) : Option ((Int32 × Int32) ⊕ Int32) :=
  f_X11_fits_J81 σ x1 x2 x4 1
set_option maxHeartbeats 1000000 in
set_option maxRecDepth 20000 in
theorem f_X11_fits_J76_ok {g : Bool} {rv : Option Value} {μ' : jM} (σ : jS) (x1 : Int32) (x2 : Int32) (x4 : Int32) {Kp : ((Int32 × Int32) ⊕ Int32) → Prop} (hn : Nat.ble nM μ'.1 = true ∧ Nat.ble wM μ'.2.1 = true) (hr : ∀ r : Int32, Kp (.inr (r)) → rv = some (.int r) ∧ μ' = (eM σ)) (hc0 : ∀ s : (Int32 × Int32), Kp (.inl s) → J yX11_fits cX11_fits 6 (some .boolean) 2 g rv μ' 5 [(0, .ref 1), (1, .int x1), (2, .int x2), (3, .int s.1), (4, .int s.2)] [] (eM σ)) (o : ((Int32 × Int32) ⊕ Int32)) (h : f_X11_fits_J76 σ x1 x2 x4 = some o) (hK : Kp o) : J yX11_fits cX11_fits 6 (some .boolean) 2 g rv μ' 76 [(0, .ref 1), (1, .int x1), (2, .int x2), (4, .int x4)] [] (eM σ) := by
  unfold f_X11_fits_J76 at h
  refine j_iconst (v := 1) dX11_fits_76 (by decide) ?_
  refine j_goto 81 dX11_fits_77 (by decide) ?_
  exact f_X11_fits_J81_ok σ x1 x2 x4 1 hn hr hc0 _ h hK
def f_X11_fits_J47 (σ : jS) (x1 : Int32) (x2 : Int32) (x3 : Int32) (x4 : Int32) (y0 : Int32) : Option ((Int32 × Int32) ⊕ Int32) :=
  if x3 = 0 then (f_X11_fits_J80 σ x1 x2 x4)
  else (bG (jin x4 20) (
  if (gI σ 34 (ix x4)) = x2 then (bG (jin x4 20) (
  if y0 = (gI σ 36 (ix x4)) then (f_X11_fits_J76 σ x1 x2 x4)
  else (f_X11_fits_J80 σ x1 x2 x4)))
  else (f_X11_fits_J76 σ x1 x2 x4)))
set_option maxHeartbeats 1000000 in
set_option maxRecDepth 20000 in
theorem f_X11_fits_J47_ok {g : Bool} {rv : Option Value} {μ' : jM} (σ : jS) (x1 : Int32) (x2 : Int32) (x3 : Int32) (x4 : Int32) (y0 : Int32) {Kp : ((Int32 × Int32) ⊕ Int32) → Prop} (hn : Nat.ble nM μ'.1 = true ∧ Nat.ble wM μ'.2.1 = true) (hr : ∀ r : Int32, Kp (.inr (r)) → rv = some (.int r) ∧ μ' = (eM σ)) (hc0 : ∀ s : (Int32 × Int32), Kp (.inl s) → J yX11_fits cX11_fits 6 (some .boolean) 2 g rv μ' 5 [(0, .ref 1), (1, .int x1), (2, .int x2), (3, .int s.1), (4, .int s.2)] [] (eM σ)) (o : ((Int32 × Int32) ⊕ Int32)) (h : f_X11_fits_J47 σ x1 x2 x3 x4 y0 = some o) (hK : Kp o) : J yX11_fits cX11_fits 6 (some .boolean) 2 g rv μ' 47 [(0, .ref 1), (1, .int x1), (2, .int x2), (3, .int x3), (4, .int x4)] [.int y0] (eM σ) := by
  unfold f_X11_fits_J47 at h
  refine j_istore [(5, .int y0), (0, .ref 1), (1, .int x1), (2, .int x2), (3, .int x3), (4, .int x4)] dX11_fits_47 (Nat.le_of_ble_eq_true rfl) rfl ?_
  refine j_iload_n 4 dX11_fits_49 rfl rfl ?_
  refine j_if_eq 80 dX11_fits_50 (by decide) (fun hc4 => ?_) (fun hc4 => ?_)
  · replace h := jif_t hc4 h
    refine j_sub [(0, .ref 1), (1, .int x1), (2, .int x2), (4, .int x4)] [1, 2, 3, 5] rfl ?_
    exact f_X11_fits_J80_ok σ x1 x2 x4 hn hr hc0 _ h hK
  · replace h := jif_f hc4 h
    refine j_aload_n 1 dX11_fits_53 rfl rfl ?_
    refine j_get (ci := 10) 60 (.ref 34) jC_10 dX11_fits_54 kg_RX11_117 rfl (okM_1 _) (shM_1 _) (fvM_1_60 _) ?_
    refine j_iload 5 dX11_fits_57 rfl ?_
    replace h := bG_inv h
    obtain ⟨hi5, h⟩ := h
    refine j_iaload dX11_fits_59 (okM_34 _) (shM_34 _) (jin_spec hi5) ?_
    refine j_iload_n 3 dX11_fits_60 rfl rfl ?_
    refine j_icmp_ne 76 dX11_fits_61 (by decide) (fun hc6 => ?_) (fun hc6 => ?_)
    · replace h := jif_f hc6 h
      refine j_sub [(0, .ref 1), (1, .int x1), (2, .int x2), (4, .int x4)] [1, 2, 3, 5] rfl ?_
      exact f_X11_fits_J76_ok σ x1 x2 x4 hn hr hc0 _ h hK
    · replace h := jif_t hc6 h
      refine j_iload 0 dX11_fits_64 rfl ?_
      refine j_aload_n 1 dX11_fits_66 rfl rfl ?_
      refine j_get (ci := 10) 62 (.ref 36) jC_10 dX11_fits_67 kg_RX11_123 rfl (okM_1 _) (shM_1 _) (fvM_1_62 _) ?_
      refine j_iload 5 dX11_fits_70 rfl ?_
      replace h := bG_inv h
      obtain ⟨hi7, h⟩ := h
      refine j_baload dX11_fits_72 (okM_36 _) (shM_36 _) (jin_spec hi7) ?_
      refine j_icmp_ne 80 dX11_fits_73 (by decide) (fun hc8 => ?_) (fun hc8 => ?_)
      · replace h := jif_f hc8 h
        refine j_sub [(0, .ref 1), (1, .int x1), (2, .int x2), (4, .int x4)] [1, 2, 3, 5] rfl ?_
        exact f_X11_fits_J80_ok σ x1 x2 x4 hn hr hc0 _ h hK
      · replace h := jif_t hc8 h
        refine j_sub [(0, .ref 1), (1, .int x1), (2, .int x2), (4, .int x4)] [1, 2, 3, 5] rfl ?_
        exact f_X11_fits_J76_ok σ x1 x2 x4 hn hr hc0 _ h hK
def f_X11_fits_J42 (σ : jS) (x1 : Int32) (x2 : Int32) (x3 : Int32) (x4 : Int32) : Option ((Int32 × Int32) ⊕ Int32) :=
  f_X11_fits_J47 σ x1 x2 x3 x4 1
set_option maxHeartbeats 1000000 in
set_option maxRecDepth 20000 in
theorem f_X11_fits_J42_ok {g : Bool} {rv : Option Value} {μ' : jM} (σ : jS) (x1 : Int32) (x2 : Int32) (x3 : Int32) (x4 : Int32) {Kp : ((Int32 × Int32) ⊕ Int32) → Prop} (hn : Nat.ble nM μ'.1 = true ∧ Nat.ble wM μ'.2.1 = true) (hr : ∀ r : Int32, Kp (.inr (r)) → rv = some (.int r) ∧ μ' = (eM σ)) (hc0 : ∀ s : (Int32 × Int32), Kp (.inl s) → J yX11_fits cX11_fits 6 (some .boolean) 2 g rv μ' 5 [(0, .ref 1), (1, .int x1), (2, .int x2), (3, .int s.1), (4, .int s.2)] [] (eM σ)) (o : ((Int32 × Int32) ⊕ Int32)) (h : f_X11_fits_J42 σ x1 x2 x3 x4 = some o) (hK : Kp o) : J yX11_fits cX11_fits 6 (some .boolean) 2 g rv μ' 42 [(0, .ref 1), (1, .int x1), (2, .int x2), (3, .int x3), (4, .int x4)] [] (eM σ) := by
  unfold f_X11_fits_J42 at h
  refine j_iconst (v := 1) dX11_fits_42 (by decide) ?_
  refine j_goto 47 dX11_fits_43 (by decide) ?_
  exact f_X11_fits_J47_ok σ x1 x2 x3 x4 1 hn hr hc0 _ h hK
def f_X11_fits_B5 (σ : jS) (x1 : Int32) (x2 : Int32) (x3 : Int32) (x4 : Int32) : Option ((Int32 × Int32) ⊕ Int32) :=
  if (gI σ 1 59) ≤ x4 then (jw (f_X11_fits_J88 σ x3))
  else (bC (f_X11_one x1) fun r1 =>
  bG (jin x4 20) (
  if r1 = (gI σ 35 (ix x4)) then (f_X11_fits_J42 σ x1 x2 x3 x4)
  else (bC (f_X11_two x1) fun r9 =>
  bG (jin x4 20) (
  if r9 = (gI σ 35 (ix x4)) then (f_X11_fits_J42 σ x1 x2 x3 x4)
  else (f_X11_fits_J47 σ x1 x2 x3 x4 0)))))
set_option maxHeartbeats 1000000 in
set_option maxRecDepth 20000 in
theorem f_X11_fits_B5_ok {g : Bool} {rv : Option Value} {μ' : jM} (σ : jS) (x1 : Int32) (x2 : Int32) (x3 : Int32) (x4 : Int32) {Kp : ((Int32 × Int32) ⊕ Int32) → Prop} (hn : Nat.ble nM μ'.1 = true ∧ Nat.ble wM μ'.2.1 = true) (hr : ∀ r : Int32, Kp (.inr (r)) → rv = some (.int r) ∧ μ' = (eM σ)) (hc0 : ∀ s : (Int32 × Int32), Kp (.inl s) → J yX11_fits cX11_fits 6 (some .boolean) 2 g rv μ' 5 [(0, .ref 1), (1, .int x1), (2, .int x2), (3, .int s.1), (4, .int s.2)] [] (eM σ)) (o : ((Int32 × Int32) ⊕ Int32)) (h : f_X11_fits_B5 σ x1 x2 x3 x4 = some o) (hK : Kp o) : J yX11_fits cX11_fits 6 (some .boolean) 2 g rv μ' 5 [(0, .ref 1), (1, .int x1), (2, .int x2), (3, .int x3), (4, .int x4)] [] (eM σ) := by
  unfold f_X11_fits_B5 at h
  refine j_iload 4 dX11_fits_5 rfl ?_
  refine j_aload_n 0 dX11_fits_7 rfl rfl ?_
  refine j_get (ci := 10) 59 (.int (gI σ 1 59)) jC_10 dX11_fits_8 kg_RX11_252 rfl (okM_1 _) (shM_1 _) (fvM_1_59 _) ?_
  refine j_icmp_ge 88 dX11_fits_11 (by decide) (fun hc10 => ?_) (fun hc10 => ?_)
  · replace h := jif_t hc10 h
    replace h := jw_inv h
    obtain ⟨o11, rfl, h⟩ := h
    refine j_sub [(3, .int x3)] [3] rfl ?_
    exact f_X11_fits_J88_ok (Kp := fun o => Kp (.inr (o))) σ x3 hn (fun r q => hr r q) _ h hK
  · replace h := jif_f hc10 h
    refine j_iload_n 1 dX11_fits_14 rfl rfl ?_
    replace h := bC_inv h
    obtain ⟨r12, cr12, h⟩ := h
    refine j_callS (st1 := .int r12 :: _) (c_X11_one g _ cr12) jy_X11_one kt_yX11_one kl_RX11_271 dX11_fits_15 rfl rfl rfl rfl (jbr _) (jbr _) hn.1 hn.2 (Or.inr rfl) rfl ?_
    refine j_aload_n 0 dX11_fits_18 rfl rfl ?_
    refine j_get (ci := 10) 61 (.ref 35) jC_10 dX11_fits_19 kg_RX11_120 rfl (okM_1 _) (shM_1 _) (fvM_1_61 _) ?_
    refine j_iload 4 dX11_fits_22 rfl ?_
    replace h := bG_inv h
    obtain ⟨hi13, h⟩ := h
    refine j_iaload dX11_fits_24 (okM_35 _) (shM_35 _) (jin_spec hi13) ?_
    refine j_icmp_eq 42 dX11_fits_25 (by decide) (fun hc14 => ?_) (fun hc14 => ?_)
    · replace h := jif_t hc14 h
      exact f_X11_fits_J42_ok σ x1 x2 x3 x4 hn hr hc0 _ h hK
    · replace h := jif_f hc14 h
      refine j_iload_n 1 dX11_fits_28 rfl rfl ?_
      replace h := bC_inv h
      obtain ⟨r15, cr15, h⟩ := h
      refine j_callS (st1 := .int r15 :: _) (c_X11_two g _ cr15) jy_X11_two kt_yX11_two kl_RX11_274 dX11_fits_29 rfl rfl rfl rfl (jbr _) (jbr _) hn.1 hn.2 (Or.inr rfl) rfl ?_
      refine j_aload_n 0 dX11_fits_32 rfl rfl ?_
      refine j_get (ci := 10) 61 (.ref 35) jC_10 dX11_fits_33 kg_RX11_120 rfl (okM_1 _) (shM_1 _) (fvM_1_61 _) ?_
      refine j_iload 4 dX11_fits_36 rfl ?_
      replace h := bG_inv h
      obtain ⟨hi16, h⟩ := h
      refine j_iaload dX11_fits_38 (okM_35 _) (shM_35 _) (jin_spec hi16) ?_
      refine j_icmp_ne 46 dX11_fits_39 (by decide) (fun hc17 => ?_) (fun hc17 => ?_)
      · replace h := jif_f hc17 h
        refine j_iconst (v := 0) dX11_fits_46 (by decide) ?_
        exact f_X11_fits_J47_ok σ x1 x2 x3 x4 0 hn hr hc0 _ h hK
      · replace h := jif_t hc17 h
        exact f_X11_fits_J42_ok σ x1 x2 x3 x4 hn hr hc0 _ h hK
def f_X11_fits (σ : jS) (x1 : Int32) (x2 : Int32) : Option Int32 :=
  jloop jFuel (fun s => f_X11_fits_B5 σ x1 x2 s.1 s.2) (1, 0)
set_option maxHeartbeats 1000000 in
set_option maxRecDepth 20000 in
theorem f_X11_fits_ok {g : Bool} {rv : Option Value} {μ' : jM} (σ : jS) (x1 : Int32) (x2 : Int32) {Kp : Int32 → Prop} (hn : Nat.ble nM μ'.1 = true ∧ Nat.ble wM μ'.2.1 = true) (hr : ∀ r : Int32, Kp (r) → rv = some (.int r) ∧ μ' = (eM σ)) (o : Int32) (h : f_X11_fits σ x1 x2 = some o) (hK : Kp o) : J yX11_fits cX11_fits 6 (some .boolean) 2 g rv μ' 0 [(0, .ref 1), (1, .int x1), (2, .int x2)] [] (eM σ) := by
  unfold f_X11_fits at h
  refine j_iconst (v := 1) dX11_fits_0 (by decide) ?_
  refine j_istore_n [(3, .int 1), (0, .ref 1), (1, .int x1), (2, .int x2)] dX11_fits_1 rfl (Nat.le_of_ble_eq_true rfl) rfl ?_
  refine j_iconst (v := 0) dX11_fits_2 (by decide) ?_
  refine j_istore [(4, .int 0), (3, .int 1), (0, .ref 1), (1, .int x1), (2, .int x2)] dX11_fits_3 (Nat.le_of_ble_eq_true rfl) rfl ?_
  refine j_sub [(0, .ref 1), (1, .int x1), (2, .int x2), (3, .int 1), (4, .int 0)] [2, 3, 4, 1, 0] rfl ?_
  exact jloop_ok (fun s => f_X11_fits_B5 σ x1 x2 s.1 s.2) (fun s => J yX11_fits cX11_fits 6 (some .boolean) 2 g rv μ' 5 [(0, .ref 1), (1, .int x1), (2, .int x2), (3, .int s.1), (4, .int s.2)] [] (eM σ)) Kp (fun s o hb hk => f_X11_fits_B5_ok (Kp := jsum (fun s => J yX11_fits cX11_fits 6 (some .boolean) 2 g rv μ' 5 [(0, .ref 1), (1, .int x1), (2, .int x2), (3, .int s.1), (4, .int s.2)] [] (eM σ)) Kp) σ x1 x2 s.1 s.2 hn (fun r q => hr r q) (fun s q => q) o hb hk) jFuel _ _ h hK
theorem c_X11_fits (g : Bool) {σ : jS} {x1 : Int32} {x2 : Int32} {r : Int32} (h : f_X11_fits σ x1 x2 = some r) : Cn yX11_fits cX11_fits 6 (some .boolean) 2 g [.ref 1, .int x1, .int x2] (eM σ) (some (.int r)) (eM σ) :=
  Cn_of (by decide) (Nat.le_refl _) (Nat.le_refl _) (Nat.le_of_ble_eq_true rfl) (f_X11_fits_ok (Kp := (fun o => o = r)) σ x1 x2 ⟨jbr _, jbr _⟩ (fun r2 q => by cases q; exact ⟨rfl, rfl⟩) _ h rfl)
def f_X11_layOn_J52 (σ : jS) : Option (Unit × jS) :=
  some (((), σ))
set_option maxHeartbeats 1000000 in
set_option maxRecDepth 20000 in
theorem f_X11_layOn_J52_ok {g : Bool} {rv : Option Value} {μ' : jM} (σ : jS) {Kp : (Unit × jS) → Prop} (hn : Nat.ble nM μ'.1 = true ∧ Nat.ble wM μ'.2.1 = true) (hr : ∀ (r : Unit) (s : jS), Kp ((r, s)) → rv = none ∧ μ' = eM s) (o : (Unit × jS)) (h : f_X11_layOn_J52 σ = some o) (hK : Kp o) : J yX11_layOn cX11_layOn 3 none 3 g rv μ' 52 [] [] (eM σ) := by
  unfold f_X11_layOn_J52 at h
  replace h := Option.some.inj h
  subst h
  obtain ⟨hr1, hr2⟩ := hr _ _ hK
  exact j_vret dX11_layOn_52 hr1 hr2
def f_X11_layOn (σ : jS) (x1 : Int32) (x2 : Int32) : Option (Unit × jS) :=
  bG (jin x1 147968) (
  if (gI σ 39 (ix x1)) = (gI σ 1 68) then (f_X11_layOn_J52 σ)
  else (bC (f_X11_fits σ x1 x2) fun r1 =>
  if r1 = 0 then (f_X11_layOn_J52 σ)
  else (bG (jin x1 147968) (
  bV (sI σ 39 (ix x1) (gI σ 1 68)) fun σ2 =>
  bG (jin (gI σ2 1 66) 147968) (
  bV (sI σ2 38 (ix (gI σ2 1 66)) x1) fun σ3 =>
  bV (sI σ3 1 66 ((gI σ3 1 66) + (1 : Int32))) fun σ4 =>
  f_X11_layOn_J52 σ4)))))
set_option maxHeartbeats 1000000 in
set_option maxRecDepth 20000 in
theorem f_X11_layOn_ok {g : Bool} {rv : Option Value} {μ' : jM} (σ : jS) (x1 : Int32) (x2 : Int32) {Kp : (Unit × jS) → Prop} (hn : Nat.ble nM μ'.1 = true ∧ Nat.ble wM μ'.2.1 = true) (hr : ∀ (r : Unit) (s : jS), Kp ((r, s)) → rv = none ∧ μ' = eM s) (o : (Unit × jS)) (h : f_X11_layOn σ x1 x2 = some o) (hK : Kp o) : J yX11_layOn cX11_layOn 3 none 3 g rv μ' 0 [(0, .ref 1), (1, .int x1), (2, .int x2)] [] (eM σ) := by
  unfold f_X11_layOn at h
  refine j_aload_n 0 dX11_layOn_0 rfl rfl ?_
  refine j_get (ci := 10) 67 (.ref 39) jC_10 dX11_layOn_1 kg_RX11_132 rfl (okM_1 _) (shM_1 _) (fvM_1_67 _) ?_
  refine j_iload_n 1 dX11_layOn_4 rfl rfl ?_
  replace h := bG_inv h
  obtain ⟨hi5, h⟩ := h
  refine j_iaload dX11_layOn_5 (okM_39 _) (shM_39 _) (jin_spec hi5) ?_
  refine j_aload_n 0 dX11_layOn_6 rfl rfl ?_
  refine j_get (ci := 10) 68 (.int (gI σ 1 68)) jC_10 dX11_layOn_7 kg_RX11_420 rfl (okM_1 _) (shM_1 _) (fvM_1_68 _) ?_
  refine j_icmp_eq 52 dX11_layOn_10 (by decide) (fun hc6 => ?_) (fun hc6 => ?_)
  · replace h := jif_t hc6 h
    refine j_sub [] [] rfl ?_
    exact f_X11_layOn_J52_ok σ hn hr _ h hK
  · replace h := jif_f hc6 h
    refine j_aload_n 0 dX11_layOn_13 rfl rfl ?_
    refine j_iload_n 1 dX11_layOn_14 rfl rfl ?_
    refine j_iload_n 2 dX11_layOn_15 rfl rfl ?_
    replace h := bC_inv h
    obtain ⟨r7, cr7, h⟩ := h
    refine j_callV (ci := 10) (st1 := .int r7 :: _) (c_X11_fits g cr7) jy_X11_fits ki_yX11_fits ks_yX11_fits kl_RX11_423 dX11_layOn_16 rfl (okM_1 _) (shM_1 _) rfl rfl rfl rfl (jbr _) (jbr _) hn.1 hn.2 (Or.inr rfl) rfl ?_
    refine j_if_eq 52 dX11_layOn_19 (by decide) (fun hc8 => ?_) (fun hc8 => ?_)
    · replace h := jif_t hc8 h
      refine j_sub [] [] rfl ?_
      exact f_X11_layOn_J52_ok σ hn hr _ h hK
    · replace h := jif_f hc8 h
      refine j_aload_n 0 dX11_layOn_22 rfl rfl ?_
      refine j_get (ci := 10) 67 (.ref 39) jC_10 dX11_layOn_23 kg_RX11_132 rfl (okM_1 _) (shM_1 _) (fvM_1_67 _) ?_
      refine j_iload_n 1 dX11_layOn_26 rfl rfl ?_
      refine j_aload_n 0 dX11_layOn_27 rfl rfl ?_
      refine j_get (ci := 10) 68 (.int (gI σ 1 68)) jC_10 dX11_layOn_28 kg_RX11_420 rfl (okM_1 _) (shM_1 _) (fvM_1_68 _) ?_
      replace h := bG_inv h
      obtain ⟨hi9, h⟩ := h
      refine j_iastore dX11_layOn_31 (okM_39 _) (shM_39 _) (jin_spec hi9) ?_
      replace h := bV_inv h
      obtain ⟨σ10, eσ10, h⟩ := h
      refine j_mem (congrArg eM eσ10) ?_
      refine j_aload_n 0 dX11_layOn_32 rfl rfl ?_
      refine j_get (ci := 10) 65 (.ref 38) jC_10 dX11_layOn_33 kg_RX11_129 rfl (okM_1 _) (shM_1 _) (fvM_1_65 _) ?_
      refine j_aload_n 0 dX11_layOn_36 rfl rfl ?_
      refine j_get (ci := 10) 66 (.int (gI σ10 1 66)) jC_10 dX11_layOn_37 kg_RX11_426 rfl (okM_1 _) (shM_1 _) (fvM_1_66 _) ?_
      refine j_iload_n 1 dX11_layOn_40 rfl rfl ?_
      replace h := bG_inv h
      obtain ⟨hi11, h⟩ := h
      refine j_iastore dX11_layOn_41 (okM_38 _) (shM_38 _) (jin_spec hi11) ?_
      replace h := bV_inv h
      obtain ⟨σ12, eσ12, h⟩ := h
      refine j_mem (congrArg eM eσ12) ?_
      refine j_aload_n 0 dX11_layOn_42 rfl rfl ?_
      refine j_dup dX11_layOn_43 rfl ?_
      refine j_get (ci := 10) 66 (.int (gI σ12 1 66)) jC_10 dX11_layOn_44 kg_RX11_426 rfl (okM_1 _) (shM_1 _) (fvM_1_66 _) ?_
      refine j_iconst (v := 1) dX11_layOn_47 (by decide) ?_
      refine j_iadd dX11_layOn_48 ?_
      replace h := bV_inv h
      obtain ⟨σ13, eσ13, h⟩ := h
      refine j_putI 66 jC_10 dX11_layOn_49 kg_RX11_426 (Or.inl ff_10_66) rfl fk_10_66 (fn_10_66 _) (okM_1 _) (shM_1 _) ?_
      refine j_mem (congrArg eM eσ13) ?_
      refine j_sub [] [] rfl ?_
      exact f_X11_layOn_J52_ok σ13 hn hr _ h hK
theorem c_X11_layOn (g : Bool) {σ : jS} {x1 : Int32} {x2 : Int32} {r : Unit} {σ2 : jS} (h : f_X11_layOn σ x1 x2 = some (r, σ2)) : Cn yX11_layOn cX11_layOn 3 none 3 g [.ref 1, .int x1, .int x2] (eM σ) none (eM σ2) :=
  Cn_of (by decide) (Nat.le_refl _) (Nat.le_refl _) (Nat.le_of_ble_eq_true rfl) (f_X11_layOn_ok (Kp := (fun o => o = (r, σ2))) σ x1 x2 ⟨jbr _, jbr _⟩ (fun r2 s2 q => by cases q; exact ⟨rfl, rfl⟩) _ h rfl)
def f_X11_nextLay_J154 (σ : jS) : Option (Unit × jS) :=
  some (((), σ))
set_option maxHeartbeats 1000000 in
set_option maxRecDepth 20000 in
theorem f_X11_nextLay_J154_ok {g : Bool} {rv : Option Value} {μ' : jM} (σ : jS) {Kp : (Unit × jS) → Prop} (hn : Nat.ble nM μ'.1 = true ∧ Nat.ble wM μ'.2.1 = true) (hr : ∀ (r : Unit) (s : jS), Kp ((r, s)) → rv = none ∧ μ' = eM s) (o : (Unit × jS)) (h : f_X11_nextLay_J154 σ = some o) (hK : Kp o) : J yX11_nextLay cX11_nextLay 6 none 6 g rv μ' 154 [] [] (eM σ) := by
  unfold f_X11_nextLay_J154 at h
  replace h := Option.some.inj h
  subst h
  obtain ⟨hr1, hr2⟩ := hr _ _ hK
  exact j_vret dX11_nextLay_154 hr1 hr2
def f_X11_nextLay_B128 (σ : jS) (x2 : Int32) : Option ((Int32 × jS) ⊕ (Unit × jS)) :=
  if (gI σ 1 63) ≤ x2 then (jw (f_X11_nextLay_J154 σ))
  else (bG (jin x2 147968) (
  bG (jin x2 147968) (
  bV (sI σ 37 (ix x2) (gI σ 38 (ix x2))) fun σ4 =>
  bV (x2 + 1) fun v5 =>
  some (.inl (v5, σ4)))))
set_option maxHeartbeats 1000000 in
set_option maxRecDepth 20000 in
theorem f_X11_nextLay_B128_ok {g : Bool} {rv : Option Value} {μ' : jM} (σ : jS) (x2 : Int32) {Kp : ((Int32 × jS) ⊕ (Unit × jS)) → Prop} (hn : Nat.ble nM μ'.1 = true ∧ Nat.ble wM μ'.2.1 = true) (hr : ∀ (r : Unit) (s : jS), Kp (.inr ((r, s))) → rv = none ∧ μ' = eM s) (hc0 : ∀ s : (Int32 × jS), Kp (.inl s) → J yX11_nextLay cX11_nextLay 6 none 6 g rv μ' 128 [(0, .ref 1), (2, .int s.1)] [] (eM s.2)) (o : ((Int32 × jS) ⊕ (Unit × jS))) (h : f_X11_nextLay_B128 σ x2 = some o) (hK : Kp o) : J yX11_nextLay cX11_nextLay 6 none 6 g rv μ' 128 [(0, .ref 1), (2, .int x2)] [] (eM σ) := by
  unfold f_X11_nextLay_B128 at h
  refine j_iload_n 1 dX11_nextLay_128 rfl rfl ?_
  refine j_aload_n 0 dX11_nextLay_129 rfl rfl ?_
  refine j_get (ci := 10) 63 (.int (gI σ 1 63)) jC_10 dX11_nextLay_130 kg_RX11_429 rfl (okM_1 _) (shM_1 _) (fvM_1_63 _) ?_
  refine j_icmp_ge 154 dX11_nextLay_133 (by decide) (fun hc6 => ?_) (fun hc6 => ?_)
  · replace h := jif_t hc6 h
    replace h := jw_inv h
    obtain ⟨o7, rfl, h⟩ := h
    refine j_sub [] [] rfl ?_
    exact f_X11_nextLay_J154_ok (Kp := fun o => Kp (.inr (o))) σ hn (fun r s q => hr r s q) _ h hK
  · replace h := jif_f hc6 h
    refine j_aload_n 0 dX11_nextLay_136 rfl rfl ?_
    refine j_get (ci := 10) 64 (.ref 37) jC_10 dX11_nextLay_137 kg_RX11_126 rfl (okM_1 _) (shM_1 _) (fvM_1_64 _) ?_
    refine j_iload_n 1 dX11_nextLay_140 rfl rfl ?_
    refine j_aload_n 0 dX11_nextLay_141 rfl rfl ?_
    refine j_get (ci := 10) 65 (.ref 38) jC_10 dX11_nextLay_142 kg_RX11_129 rfl (okM_1 _) (shM_1 _) (fvM_1_65 _) ?_
    refine j_iload_n 1 dX11_nextLay_145 rfl rfl ?_
    replace h := bG_inv h
    obtain ⟨hi8, h⟩ := h
    refine j_iaload dX11_nextLay_146 (okM_38 _) (shM_38 _) (jin_spec hi8) ?_
    replace h := bG_inv h
    obtain ⟨hi9, h⟩ := h
    refine j_iastore dX11_nextLay_147 (okM_37 _) (shM_37 _) (jin_spec hi9) ?_
    replace h := bV_inv h
    obtain ⟨σ10, eσ10, h⟩ := h
    refine j_mem (congrArg eM eσ10) ?_
    replace h := bV_inv h
    obtain ⟨v11, ev11, h⟩ := h
    refine j_iinc (v := v11) [(2, .int v11), (0, .ref 1)] 1 dX11_nextLay_148 rfl (by rw [ev11]; rfl) (Nat.le_of_ble_eq_true rfl) rfl ?_
    refine j_goto 128 dX11_nextLay_151 (by decide) ?_
    replace h := Option.some.inj h
    subst h
    refine j_sub [(0, .ref 1), (2, .int v11)] [1, 0] rfl ?_
    exact hc0 _ hK
def f_X11_nextLay_J118 (σ : jS) : Option (Unit × jS) :=
  bV (sI σ 1 63 (gI σ 1 66)) fun σ3 =>
  jloop jFuel (fun s => f_X11_nextLay_B128 s.2 s.1) (0, σ3)
set_option maxHeartbeats 1000000 in
set_option maxRecDepth 20000 in
theorem f_X11_nextLay_J118_ok {g : Bool} {rv : Option Value} {μ' : jM} (σ : jS) {Kp : (Unit × jS) → Prop} (hn : Nat.ble nM μ'.1 = true ∧ Nat.ble wM μ'.2.1 = true) (hr : ∀ (r : Unit) (s : jS), Kp ((r, s)) → rv = none ∧ μ' = eM s) (o : (Unit × jS)) (h : f_X11_nextLay_J118 σ = some o) (hK : Kp o) : J yX11_nextLay cX11_nextLay 6 none 6 g rv μ' 118 [(0, .ref 1)] [] (eM σ) := by
  unfold f_X11_nextLay_J118 at h
  refine j_aload_n 0 dX11_nextLay_118 rfl rfl ?_
  refine j_aload_n 0 dX11_nextLay_119 rfl rfl ?_
  refine j_get (ci := 10) 66 (.int (gI σ 1 66)) jC_10 dX11_nextLay_120 kg_RX11_426 rfl (okM_1 _) (shM_1 _) (fvM_1_66 _) ?_
  replace h := bV_inv h
  obtain ⟨σ12, eσ12, h⟩ := h
  refine j_putI 63 jC_10 dX11_nextLay_123 kg_RX11_429 (Or.inl ff_10_63) rfl fk_10_63 (fn_10_63 _) (okM_1 _) (shM_1 _) ?_
  refine j_mem (congrArg eM eσ12) ?_
  refine j_iconst (v := 0) dX11_nextLay_126 (by decide) ?_
  refine j_istore_n [(2, .int 0), (0, .ref 1)] dX11_nextLay_127 rfl (Nat.le_of_ble_eq_true rfl) rfl ?_
  refine j_sub [(0, .ref 1), (2, .int 0)] [1, 0] rfl ?_
  exact jloop_ok (fun s => f_X11_nextLay_B128 s.2 s.1) (fun s => J yX11_nextLay cX11_nextLay 6 none 6 g rv μ' 128 [(0, .ref 1), (2, .int s.1)] [] (eM s.2)) Kp (fun s o hb hk => f_X11_nextLay_B128_ok (Kp := jsum (fun s => J yX11_nextLay cX11_nextLay 6 none 6 g rv μ' 128 [(0, .ref 1), (2, .int s.1)] [] (eM s.2)) Kp) s.2 s.1 hn (fun r s q => hr r s q) (fun s q => q) o hb hk) jFuel _ _ h hK
def f_X11_nextLay_J112 (σ : jS) (x1 : Int32) (x2 : Int32) : Option ((Int32 × jS) ⊕ (Unit × jS)) :=
  bV (x2 + 1) fun v16 =>
  some (.inl (v16, σ))
set_option maxHeartbeats 1000000 in
set_option maxRecDepth 20000 in
theorem f_X11_nextLay_J112_ok {g : Bool} {rv : Option Value} {μ' : jM} (σ : jS) (x1 : Int32) (x2 : Int32) {Kp : ((Int32 × jS) ⊕ (Unit × jS)) → Prop} (hn : Nat.ble nM μ'.1 = true ∧ Nat.ble wM μ'.2.1 = true) (hr : ∀ (r : Unit) (s : jS), Kp (.inr ((r, s))) → rv = none ∧ μ' = eM s) (hc0 : ∀ s : (Int32 × jS), Kp (.inl s) → J yX11_nextLay cX11_nextLay 6 none 6 g rv μ' 17 [(0, .ref 1), (1, .int x1), (2, .int s.1)] [] (eM s.2)) (o : ((Int32 × jS) ⊕ (Unit × jS))) (h : f_X11_nextLay_J112 σ x1 x2 = some o) (hK : Kp o) : J yX11_nextLay cX11_nextLay 6 none 6 g rv μ' 112 [(0, .ref 1), (1, .int x1), (2, .int x2)] [] (eM σ) := by
  unfold f_X11_nextLay_J112 at h
  replace h := bV_inv h
  obtain ⟨v17, ev17, h⟩ := h
  refine j_iinc (v := v17) [(2, .int v17), (0, .ref 1), (1, .int x1)] 2 dX11_nextLay_112 rfl (by rw [ev17]; rfl) (Nat.le_of_ble_eq_true rfl) rfl ?_
  refine j_goto 17 dX11_nextLay_115 (by decide) ?_
  replace h := Option.some.inj h
  subst h
  refine j_sub [(0, .ref 1), (1, .int x1), (2, .int v17)] [1, 2, 0] rfl ?_
  exact hc0 _ hK
def f_X11_nextLay_J106 (σ : jS) (x1 : Int32) (x2 : Int32) (x3 : Int32) (x4 : Int32) (x5 : Int32) : Option ((Int32 × jS) ⊕ ((Int32 × jS) ⊕ (Unit × jS))) :=
  bV (x5 + 1) fun v19 =>
  some (.inl (v19, σ))
set_option maxHeartbeats 1000000 in
set_option maxRecDepth 20000 in
theorem f_X11_nextLay_J106_ok {g : Bool} {rv : Option Value} {μ' : jM} (σ : jS) (x1 : Int32) (x2 : Int32) (x3 : Int32) (x4 : Int32) (x5 : Int32) {Kp : ((Int32 × jS) ⊕ ((Int32 × jS) ⊕ (Unit × jS))) → Prop} (hn : Nat.ble nM μ'.1 = true ∧ Nat.ble wM μ'.2.1 = true) (hr : ∀ (r : Unit) (s : jS), Kp (.inr (.inr ((r, s)))) → rv = none ∧ μ' = eM s) (hc0 : ∀ s : (Int32 × jS), Kp (.inr (.inl s)) → J yX11_nextLay cX11_nextLay 6 none 6 g rv μ' 17 [(0, .ref 1), (1, .int x1), (2, .int s.1)] [] (eM s.2)) (hc1 : ∀ s : (Int32 × jS), Kp (.inl s) → J yX11_nextLay cX11_nextLay 6 none 6 g rv μ' 75 [(0, .ref 1), (1, .int x1), (2, .int x2), (3, .int x3), (4, .int x4), (5, .int s.1)] [] (eM s.2)) (o : ((Int32 × jS) ⊕ ((Int32 × jS) ⊕ (Unit × jS)))) (h : f_X11_nextLay_J106 σ x1 x2 x3 x4 x5 = some o) (hK : Kp o) : J yX11_nextLay cX11_nextLay 6 none 6 g rv μ' 106 [(0, .ref 1), (1, .int x1), (2, .int x2), (3, .int x3), (4, .int x4), (5, .int x5)] [] (eM σ) := by
  unfold f_X11_nextLay_J106 at h
  replace h := bV_inv h
  obtain ⟨v20, ev20, h⟩ := h
  refine j_iinc (v := v20) [(5, .int v20), (0, .ref 1), (1, .int x1), (2, .int x2), (3, .int x3), (4, .int x4)] 5 dX11_nextLay_106 rfl (by rw [ev20]; rfl) (Nat.le_of_ble_eq_true rfl) rfl ?_
  refine j_goto 75 dX11_nextLay_109 (by decide) ?_
  replace h := Option.some.inj h
  subst h
  refine j_sub [(0, .ref 1), (1, .int x1), (2, .int x2), (3, .int x3), (4, .int x4), (5, .int v20)] [1, 2, 3, 4, 5, 0] rfl ?_
  exact hc1 _ hK
def f_X11_nextLay_B75 (σ : jS) (x1 : Int32) (x2 : Int32) (x3 : Int32) (x4 : Int32) (x5 : Int32) : Option ((Int32 × jS) ⊕ ((Int32 × jS) ⊕ (Unit × jS))) :=
  if (gI σ 1 0) ≤ x5 then (jw (f_X11_nextLay_J112 σ x1 x2))
  else (bC (f_X11_has x4 x5) fun r18 =>
  if r18 = 0 then (f_X11_nextLay_J106 σ x1 x2 x3 x4 x5)
  else (bC (f_X11_behind σ x3 x5) fun r21 =>
  bD (f_X11_layOn σ r21 x1) fun r22 σ23 =>
  f_X11_nextLay_J106 σ23 x1 x2 x3 x4 x5))
set_option maxHeartbeats 1000000 in
set_option maxRecDepth 20000 in
theorem f_X11_nextLay_B75_ok {g : Bool} {rv : Option Value} {μ' : jM} (σ : jS) (x1 : Int32) (x2 : Int32) (x3 : Int32) (x4 : Int32) (x5 : Int32) {Kp : ((Int32 × jS) ⊕ ((Int32 × jS) ⊕ (Unit × jS))) → Prop} (hn : Nat.ble nM μ'.1 = true ∧ Nat.ble wM μ'.2.1 = true) (hr : ∀ (r : Unit) (s : jS), Kp (.inr (.inr ((r, s)))) → rv = none ∧ μ' = eM s) (hc0 : ∀ s : (Int32 × jS), Kp (.inr (.inl s)) → J yX11_nextLay cX11_nextLay 6 none 6 g rv μ' 17 [(0, .ref 1), (1, .int x1), (2, .int s.1)] [] (eM s.2)) (hc1 : ∀ s : (Int32 × jS), Kp (.inl s) → J yX11_nextLay cX11_nextLay 6 none 6 g rv μ' 75 [(0, .ref 1), (1, .int x1), (2, .int x2), (3, .int x3), (4, .int x4), (5, .int s.1)] [] (eM s.2)) (o : ((Int32 × jS) ⊕ ((Int32 × jS) ⊕ (Unit × jS)))) (h : f_X11_nextLay_B75 σ x1 x2 x3 x4 x5 = some o) (hK : Kp o) : J yX11_nextLay cX11_nextLay 6 none 6 g rv μ' 75 [(0, .ref 1), (1, .int x1), (2, .int x2), (3, .int x3), (4, .int x4), (5, .int x5)] [] (eM σ) := by
  unfold f_X11_nextLay_B75 at h
  refine j_iload 5 dX11_nextLay_75 rfl ?_
  refine j_aload_n 0 dX11_nextLay_77 rfl rfl ?_
  refine j_get (ci := 10) 0 (.int (gI σ 1 0)) jC_10 dX11_nextLay_78 kg_RX11_141 rfl (okM_1 _) (shM_1 _) (fvM_1_0 _) ?_
  refine j_icmp_ge 112 dX11_nextLay_81 (by decide) (fun hc24 => ?_) (fun hc24 => ?_)
  · replace h := jif_t hc24 h
    replace h := jw_inv h
    obtain ⟨o25, rfl, h⟩ := h
    refine j_sub [(0, .ref 1), (1, .int x1), (2, .int x2)] [0, 1, 2] rfl ?_
    exact f_X11_nextLay_J112_ok (Kp := fun o => Kp (.inr (o))) σ x1 x2 hn (fun r s q => hr r s q) (fun s q => hc0 s q) _ h hK
  · replace h := jif_f hc24 h
    refine j_iload 4 dX11_nextLay_84 rfl ?_
    refine j_iload 5 dX11_nextLay_86 rfl ?_
    replace h := bC_inv h
    obtain ⟨r26, cr26, h⟩ := h
    refine j_callS (st1 := .int r26 :: _) (c_X11_has g _ cr26) jy_X11_has kt_yX11_has kl_RX11_287 dX11_nextLay_88 rfl rfl rfl rfl (jbr _) (jbr _) hn.1 hn.2 (Or.inr rfl) rfl ?_
    refine j_if_eq 106 dX11_nextLay_91 (by decide) (fun hc27 => ?_) (fun hc27 => ?_)
    · replace h := jif_t hc27 h
      exact f_X11_nextLay_J106_ok σ x1 x2 x3 x4 x5 hn hr hc0 hc1 _ h hK
    · replace h := jif_f hc27 h
      refine j_aload_n 0 dX11_nextLay_94 rfl rfl ?_
      refine j_aload_n 0 dX11_nextLay_95 rfl rfl ?_
      refine j_iload_n 3 dX11_nextLay_96 rfl rfl ?_
      refine j_iload 5 dX11_nextLay_97 rfl ?_
      replace h := bC_inv h
      obtain ⟨r28, cr28, h⟩ := h
      refine j_callV (ci := 10) (st1 := .int r28 :: _) (c_X11_behind g cr28) jy_X11_behind ki_yX11_behind ks_yX11_behind kl_RX11_337 dX11_nextLay_99 rfl (okM_1 _) (shM_1 _) rfl rfl rfl rfl (jbr _) (jbr _) hn.1 hn.2 (Or.inr rfl) rfl ?_
      refine j_iload_n 1 dX11_nextLay_102 rfl rfl ?_
      replace h := bD_inv h
      obtain ⟨r29, σ30, cr29, h⟩ := h
      refine j_callV (ci := 10) (st1 := _) (c_X11_layOn g cr29) jy_X11_layOn ki_yX11_layOn ks_yX11_layOn kl_RX11_432 dX11_nextLay_103 rfl (okM_1 _) (shM_1 _) rfl rfl rfl rfl (jbr _) (jbr _) hn.1 hn.2 (Or.inr rfl) rfl ?_
      exact f_X11_nextLay_J106_ok σ30 x1 x2 x3 x4 x5 hn hr hc0 hc1 _ h hK
def f_X11_nextLay_J72 (σ : jS) (x1 : Int32) (x2 : Int32) (x3 : Int32) (x4 : Int32) : Option ((Int32 × jS) ⊕ (Unit × jS)) :=
  jloop jFuel (fun s => f_X11_nextLay_B75 s.2 x1 x2 x3 x4 s.1) (0, σ)
set_option maxHeartbeats 1000000 in
set_option maxRecDepth 20000 in
theorem f_X11_nextLay_J72_ok {g : Bool} {rv : Option Value} {μ' : jM} (σ : jS) (x1 : Int32) (x2 : Int32) (x3 : Int32) (x4 : Int32) {Kp : ((Int32 × jS) ⊕ (Unit × jS)) → Prop} (hn : Nat.ble nM μ'.1 = true ∧ Nat.ble wM μ'.2.1 = true) (hr : ∀ (r : Unit) (s : jS), Kp (.inr ((r, s))) → rv = none ∧ μ' = eM s) (hc0 : ∀ s : (Int32 × jS), Kp (.inl s) → J yX11_nextLay cX11_nextLay 6 none 6 g rv μ' 17 [(0, .ref 1), (1, .int x1), (2, .int s.1)] [] (eM s.2)) (o : ((Int32 × jS) ⊕ (Unit × jS))) (h : f_X11_nextLay_J72 σ x1 x2 x3 x4 = some o) (hK : Kp o) : J yX11_nextLay cX11_nextLay 6 none 6 g rv μ' 72 [(0, .ref 1), (1, .int x1), (2, .int x2), (3, .int x3), (4, .int x4)] [] (eM σ) := by
  unfold f_X11_nextLay_J72 at h
  refine j_iconst (v := 0) dX11_nextLay_72 (by decide) ?_
  refine j_istore [(5, .int 0), (0, .ref 1), (1, .int x1), (2, .int x2), (3, .int x3), (4, .int x4)] dX11_nextLay_73 (Nat.le_of_ble_eq_true rfl) rfl ?_
  refine j_sub [(0, .ref 1), (1, .int x1), (2, .int x2), (3, .int x3), (4, .int x4), (5, .int 0)] [1, 2, 3, 4, 5, 0] rfl ?_
  exact jloop_ok (fun s => f_X11_nextLay_B75 s.2 x1 x2 x3 x4 s.1) (fun s => J yX11_nextLay cX11_nextLay 6 none 6 g rv μ' 75 [(0, .ref 1), (1, .int x1), (2, .int x2), (3, .int x3), (4, .int x4), (5, .int s.1)] [] (eM s.2)) Kp (fun s o hb hk => f_X11_nextLay_B75_ok (Kp := jsum (fun s => J yX11_nextLay cX11_nextLay 6 none 6 g rv μ' 75 [(0, .ref 1), (1, .int x1), (2, .int x2), (3, .int x3), (4, .int x4), (5, .int s.1)] [] (eM s.2)) Kp) s.2 x1 x2 x3 x4 s.1 hn (fun r s q => hr r s q) (fun s q => hc0 s q) (fun s q => q) o hb hk) jFuel _ _ h hK
def f_X11_nextLay_B17 (σ : jS) (x1 : Int32) (x2 : Int32) : Option ((Int32 × jS) ⊕ (Unit × jS)) :=
  if (gI σ 1 63) ≤ x2 then (jw (f_X11_nextLay_J118 σ))
  else (bG (jin x2 147968) (
  bV (gI σ 37 (ix x2)) fun v13 =>
  bC (f_X11_mayNow σ v13) fun r14 =>
  bC (f_X11_stateOf σ v13) fun r15 =>
  if r15 = 0 then (if r14 = 0 then (bC (f_X11_behind σ v13 (-1)) fun r31 =>
  bD (f_X11_layOn σ r31 x1) fun r32 σ33 =>
  f_X11_nextLay_J72 σ33 x1 x2 v13 r14)
  else (f_X11_nextLay_J72 σ x1 x2 v13 r14))
  else (bD (f_X11_layOn σ v13 x1) fun r34 σ35 =>
  f_X11_nextLay_J72 σ35 x1 x2 v13 r14)))
set_option maxHeartbeats 1000000 in
set_option maxRecDepth 20000 in
theorem f_X11_nextLay_B17_ok {g : Bool} {rv : Option Value} {μ' : jM} (σ : jS) (x1 : Int32) (x2 : Int32) {Kp : ((Int32 × jS) ⊕ (Unit × jS)) → Prop} (hn : Nat.ble nM μ'.1 = true ∧ Nat.ble wM μ'.2.1 = true) (hr : ∀ (r : Unit) (s : jS), Kp (.inr ((r, s))) → rv = none ∧ μ' = eM s) (hc0 : ∀ s : (Int32 × jS), Kp (.inl s) → J yX11_nextLay cX11_nextLay 6 none 6 g rv μ' 17 [(0, .ref 1), (1, .int x1), (2, .int s.1)] [] (eM s.2)) (o : ((Int32 × jS) ⊕ (Unit × jS))) (h : f_X11_nextLay_B17 σ x1 x2 = some o) (hK : Kp o) : J yX11_nextLay cX11_nextLay 6 none 6 g rv μ' 17 [(0, .ref 1), (1, .int x1), (2, .int x2)] [] (eM σ) := by
  unfold f_X11_nextLay_B17 at h
  refine j_iload_n 2 dX11_nextLay_17 rfl rfl ?_
  refine j_aload_n 0 dX11_nextLay_18 rfl rfl ?_
  refine j_get (ci := 10) 63 (.int (gI σ 1 63)) jC_10 dX11_nextLay_19 kg_RX11_429 rfl (okM_1 _) (shM_1 _) (fvM_1_63 _) ?_
  refine j_icmp_ge 118 dX11_nextLay_22 (by decide) (fun hc36 => ?_) (fun hc36 => ?_)
  · replace h := jif_t hc36 h
    replace h := jw_inv h
    obtain ⟨o37, rfl, h⟩ := h
    refine j_sub [(0, .ref 1)] [0] rfl ?_
    exact f_X11_nextLay_J118_ok (Kp := fun o => Kp (.inr (o))) σ hn (fun r s q => hr r s q) _ h hK
  · replace h := jif_f hc36 h
    refine j_aload_n 0 dX11_nextLay_25 rfl rfl ?_
    refine j_get (ci := 10) 64 (.ref 37) jC_10 dX11_nextLay_26 kg_RX11_126 rfl (okM_1 _) (shM_1 _) (fvM_1_64 _) ?_
    refine j_iload_n 2 dX11_nextLay_29 rfl rfl ?_
    replace h := bG_inv h
    obtain ⟨hi38, h⟩ := h
    refine j_iaload dX11_nextLay_30 (okM_37 _) (shM_37 _) (jin_spec hi38) ?_
    replace h := bV_inv h
    obtain ⟨v39, ev39, h⟩ := h
    refine j_nmi ev39 ?_
    refine j_istore_n [(3, .int v39), (0, .ref 1), (1, .int x1), (2, .int x2)] dX11_nextLay_31 rfl (Nat.le_of_ble_eq_true rfl) rfl ?_
    refine j_aload_n 1 dX11_nextLay_32 rfl rfl ?_
    refine j_iload_n 0 dX11_nextLay_33 rfl rfl ?_
    replace h := bC_inv h
    obtain ⟨r40, cr40, h⟩ := h
    refine j_callV (ci := 10) (st1 := .int r40 :: _) (c_X11_mayNow g cr40) jy_X11_mayNow ki_yX11_mayNow ks_yX11_mayNow kl_RX11_315 dX11_nextLay_34 rfl (okM_1 _) (shM_1 _) rfl rfl rfl rfl (jbr _) (jbr _) hn.1 hn.2 (Or.inr rfl) rfl ?_
    refine j_istore [(4, .int r40), (3, .int v39), (0, .ref 1), (1, .int x1), (2, .int x2)] dX11_nextLay_37 (Nat.le_of_ble_eq_true rfl) rfl ?_
    refine j_aload_n 2 dX11_nextLay_39 rfl rfl ?_
    refine j_iload_n 1 dX11_nextLay_40 rfl rfl ?_
    replace h := bC_inv h
    obtain ⟨r41, cr41, h⟩ := h
    refine j_callV (ci := 10) (st1 := .int r41 :: _) (c_X11_stateOf g cr41) jy_X11_stateOf ki_yX11_stateOf ks_yX11_stateOf kl_RX11_312 dX11_nextLay_41 rfl (okM_1 _) (shM_1 _) rfl rfl rfl rfl (jbr _) (jbr _) hn.1 hn.2 (Or.inr rfl) rfl ?_
    refine j_if_eq 56 dX11_nextLay_44 (by decide) (fun hc42 => ?_) (fun hc42 => ?_)
    · replace h := jif_t hc42 h
      refine j_iload 0 dX11_nextLay_56 rfl ?_
      refine j_if_ne 72 dX11_nextLay_58 (by decide) (fun hc43 => ?_) (fun hc43 => ?_)
      · replace h := jif_f hc43 h
        refine j_sub [(0, .ref 1), (1, .int x1), (2, .int x2), (3, .int v39), (4, .int r40)] [2, 3, 4, 1, 0] rfl ?_
        exact f_X11_nextLay_J72_ok σ x1 x2 v39 r40 hn hr hc0 _ h hK
      · replace h := jif_t hc43 h
        refine j_aload_n 2 dX11_nextLay_61 rfl rfl ?_
        refine j_aload_n 2 dX11_nextLay_62 rfl rfl ?_
        refine j_iload_n 1 dX11_nextLay_63 rfl rfl ?_
        refine j_iconst (v := (-1)) dX11_nextLay_64 (by decide) ?_
        replace h := bC_inv h
        obtain ⟨r44, cr44, h⟩ := h
        refine j_callV (ci := 10) (st1 := .int r44 :: _) (c_X11_behind g cr44) jy_X11_behind ki_yX11_behind ks_yX11_behind kl_RX11_337 dX11_nextLay_65 rfl (okM_1 _) (shM_1 _) rfl rfl rfl rfl (jbr _) (jbr _) hn.1 hn.2 (Or.inr rfl) rfl ?_
        refine j_iload_n 3 dX11_nextLay_68 rfl rfl ?_
        replace h := bD_inv h
        obtain ⟨r45, σ46, cr45, h⟩ := h
        refine j_callV (ci := 10) (st1 := _) (c_X11_layOn g cr45) jy_X11_layOn ki_yX11_layOn ks_yX11_layOn kl_RX11_432 dX11_nextLay_69 rfl (okM_1 _) (shM_1 _) rfl rfl rfl rfl (jbr _) (jbr _) hn.1 hn.2 (Or.inr rfl) rfl ?_
        refine j_sub [(0, .ref 1), (1, .int x1), (2, .int x2), (3, .int v39), (4, .int r40)] [2, 3, 4, 1, 0] rfl ?_
        exact f_X11_nextLay_J72_ok σ46 x1 x2 v39 r40 hn hr hc0 _ h hK
    · replace h := jif_f hc42 h
      refine j_aload_n 2 dX11_nextLay_47 rfl rfl ?_
      refine j_iload_n 1 dX11_nextLay_48 rfl rfl ?_
      refine j_iload_n 3 dX11_nextLay_49 rfl rfl ?_
      replace h := bD_inv h
      obtain ⟨r47, σ48, cr47, h⟩ := h
      refine j_callV (ci := 10) (st1 := _) (c_X11_layOn g cr47) jy_X11_layOn ki_yX11_layOn ks_yX11_layOn kl_RX11_432 dX11_nextLay_50 rfl (okM_1 _) (shM_1 _) rfl rfl rfl rfl (jbr _) (jbr _) hn.1 hn.2 (Or.inr rfl) rfl ?_
      refine j_goto 72 dX11_nextLay_53 (by decide) ?_
      refine j_sub [(0, .ref 1), (1, .int x1), (2, .int x2), (3, .int v39), (4, .int r40)] [2, 3, 4, 1, 0] rfl ?_
      exact f_X11_nextLay_J72_ok σ48 x1 x2 v39 r40 hn hr hc0 _ h hK
def f_X11_nextLay (σ : jS) (x1 : Int32) : Option (Unit × jS) :=
  bV (sI σ 1 68 ((gI σ 1 68) + (1 : Int32))) fun σ1 =>
  bV (sI σ1 1 66 0) fun σ2 =>
  jloop jFuel (fun s => f_X11_nextLay_B17 s.2 x1 s.1) (0, σ2)
set_option maxHeartbeats 1000000 in
set_option maxRecDepth 20000 in
theorem f_X11_nextLay_ok {g : Bool} {rv : Option Value} {μ' : jM} (σ : jS) (x1 : Int32) {Kp : (Unit × jS) → Prop} (hn : Nat.ble nM μ'.1 = true ∧ Nat.ble wM μ'.2.1 = true) (hr : ∀ (r : Unit) (s : jS), Kp ((r, s)) → rv = none ∧ μ' = eM s) (o : (Unit × jS)) (h : f_X11_nextLay σ x1 = some o) (hK : Kp o) : J yX11_nextLay cX11_nextLay 6 none 6 g rv μ' 0 [(0, .ref 1), (1, .int x1)] [] (eM σ) := by
  unfold f_X11_nextLay at h
  refine j_aload_n 0 dX11_nextLay_0 rfl rfl ?_
  refine j_dup dX11_nextLay_1 rfl ?_
  refine j_get (ci := 10) 68 (.int (gI σ 1 68)) jC_10 dX11_nextLay_2 kg_RX11_420 rfl (okM_1 _) (shM_1 _) (fvM_1_68 _) ?_
  refine j_iconst (v := 1) dX11_nextLay_5 (by decide) ?_
  refine j_iadd dX11_nextLay_6 ?_
  replace h := bV_inv h
  obtain ⟨σ49, eσ49, h⟩ := h
  refine j_putI 68 jC_10 dX11_nextLay_7 kg_RX11_420 (Or.inl ff_10_68) rfl fk_10_68 (fn_10_68 _) (okM_1 _) (shM_1 _) ?_
  refine j_mem (congrArg eM eσ49) ?_
  refine j_aload_n 0 dX11_nextLay_10 rfl rfl ?_
  refine j_iconst (v := 0) dX11_nextLay_11 (by decide) ?_
  replace h := bV_inv h
  obtain ⟨σ50, eσ50, h⟩ := h
  refine j_putI 66 jC_10 dX11_nextLay_12 kg_RX11_426 (Or.inl ff_10_66) rfl fk_10_66 (fn_10_66 _) (okM_1 _) (shM_1 _) ?_
  refine j_mem (congrArg eM eσ50) ?_
  refine j_iconst (v := 0) dX11_nextLay_15 (by decide) ?_
  refine j_istore_n [(2, .int 0), (0, .ref 1), (1, .int x1)] dX11_nextLay_16 rfl (Nat.le_of_ble_eq_true rfl) rfl ?_
  refine j_sub [(0, .ref 1), (1, .int x1), (2, .int 0)] [1, 2, 0] rfl ?_
  exact jloop_ok (fun s => f_X11_nextLay_B17 s.2 x1 s.1) (fun s => J yX11_nextLay cX11_nextLay 6 none 6 g rv μ' 17 [(0, .ref 1), (1, .int x1), (2, .int s.1)] [] (eM s.2)) Kp (fun s o hb hk => f_X11_nextLay_B17_ok (Kp := jsum (fun s => J yX11_nextLay cX11_nextLay 6 none 6 g rv μ' 17 [(0, .ref 1), (1, .int x1), (2, .int s.1)] [] (eM s.2)) Kp) s.2 x1 s.1 hn (fun r s q => hr r s q) (fun s q => q) o hb hk) jFuel _ _ h hK
theorem c_X11_nextLay (g : Bool) {σ : jS} {x1 : Int32} {r : Unit} {σ2 : jS} (h : f_X11_nextLay σ x1 = some (r, σ2)) : Cn yX11_nextLay cX11_nextLay 6 none 6 g [.ref 1, .int x1] (eM σ) none (eM σ2) :=
  Cn_of (by decide) (Nat.le_refl _) (Nat.le_refl _) (Nat.le_of_ble_eq_true rfl) (f_X11_nextLay_ok (Kp := (fun o => o = (r, σ2))) σ x1 ⟨jbr _, jbr _⟩ (fun r2 s2 q => by cases q; exact ⟨rfl, rfl⟩) _ h rfl)
def f_X11_have_J123 (σ : jS) (x2 : Int32) : Option (Int32 × jS) :=
  some ((x2, σ))
set_option maxHeartbeats 1000000 in
set_option maxRecDepth 20000 in
theorem f_X11_have_J123_ok {g : Bool} {rv : Option Value} {μ' : jM} (σ : jS) (x2 : Int32) {Kp : (Int32 × jS) → Prop} (hn : Nat.ble nM μ'.1 = true ∧ Nat.ble wM μ'.2.1 = true) (hr : ∀ (r : Int32) (s : jS), Kp ((r, s)) → rv = some (.int r) ∧ μ' = eM s) (o : (Int32 × jS)) (h : f_X11_have_J123 σ x2 = some o) (hK : Kp o) : J yX11_have cX11_have 4 (some .int) 7 g rv μ' 123 [(2, .int x2)] [] (eM σ) := by
  unfold f_X11_have_J123 at h
  refine j_iload_n 0 dX11_have_123 rfl rfl ?_
  replace h := Option.some.inj h
  subst h
  obtain ⟨hr1, hr2⟩ := hr _ _ hK
  exact j_iret dX11_have_124 hr1 hr2
def f_X11_have_B83 (σ : jS) (x2 : Int32) (x3 : Int32) : Option ((Int32 × Int32 × jS) ⊕ (Int32 × jS)) :=
  if (gI σ 1 63) ≤ x3 then (jw (f_X11_have_J123 σ x2))
  else (bG (jin x3 147968) (
  bC (f_X11_one (gI σ 37 (ix x3))) fun r6 =>
  bG (jin x3 147968) (
  bC (f_X11_two (gI σ 37 (ix x3))) fun r7 =>
  bV (x2 ||| (((1 : Int32) <<< (r6 &&& 31)) ||| ((1 : Int32) <<< (r7 &&& 31)))) fun v8 =>
  bV (x3 + 1) fun v9 =>
  some (.inl (v8, v9, σ)))))
set_option maxHeartbeats 1000000 in
set_option maxRecDepth 20000 in
theorem f_X11_have_B83_ok {g : Bool} {rv : Option Value} {μ' : jM} (σ : jS) (x2 : Int32) (x3 : Int32) {Kp : ((Int32 × Int32 × jS) ⊕ (Int32 × jS)) → Prop} (hn : Nat.ble nM μ'.1 = true ∧ Nat.ble wM μ'.2.1 = true) (hr : ∀ (r : Int32) (s : jS), Kp (.inr ((r, s))) → rv = some (.int r) ∧ μ' = eM s) (hc0 : ∀ s : (Int32 × Int32 × jS), Kp (.inl s) → J yX11_have cX11_have 4 (some .int) 7 g rv μ' 83 [(0, .ref 1), (2, .int s.1), (3, .int s.2.1)] [] (eM s.2.2)) (o : ((Int32 × Int32 × jS) ⊕ (Int32 × jS))) (h : f_X11_have_B83 σ x2 x3 = some o) (hK : Kp o) : J yX11_have cX11_have 4 (some .int) 7 g rv μ' 83 [(0, .ref 1), (2, .int x2), (3, .int x3)] [] (eM σ) := by
  unfold f_X11_have_B83 at h
  refine j_iload_n 2 dX11_have_83 rfl rfl ?_
  refine j_aload_n 0 dX11_have_84 rfl rfl ?_
  refine j_get (ci := 10) 63 (.int (gI σ 1 63)) jC_10 dX11_have_85 kg_RX11_429 rfl (okM_1 _) (shM_1 _) (fvM_1_63 _) ?_
  refine j_icmp_ge 123 dX11_have_88 (by decide) (fun hc10 => ?_) (fun hc10 => ?_)
  · replace h := jif_t hc10 h
    replace h := jw_inv h
    obtain ⟨o11, rfl, h⟩ := h
    refine j_sub [(2, .int x2)] [1] rfl ?_
    exact f_X11_have_J123_ok (Kp := fun o => Kp (.inr (o))) σ x2 hn (fun r s q => hr r s q) _ h hK
  · replace h := jif_f hc10 h
    refine j_iload_n 1 dX11_have_91 rfl rfl ?_
    refine j_iconst (v := 1) dX11_have_92 (by decide) ?_
    refine j_aload_n 0 dX11_have_93 rfl rfl ?_
    refine j_get (ci := 10) 64 (.ref 37) jC_10 dX11_have_94 kg_RX11_126 rfl (okM_1 _) (shM_1 _) (fvM_1_64 _) ?_
    refine j_iload_n 2 dX11_have_97 rfl rfl ?_
    replace h := bG_inv h
    obtain ⟨hi12, h⟩ := h
    refine j_iaload dX11_have_98 (okM_37 _) (shM_37 _) (jin_spec hi12) ?_
    replace h := bC_inv h
    obtain ⟨r13, cr13, h⟩ := h
    refine j_callS (st1 := .int r13 :: _) (c_X11_one g _ cr13) jy_X11_one kt_yX11_one kl_RX11_271 dX11_have_99 rfl rfl rfl rfl (jbr _) (jbr _) hn.1 hn.2 (Or.inr rfl) rfl ?_
    refine j_ishl dX11_have_102 ?_
    refine j_iconst (v := 1) dX11_have_103 (by decide) ?_
    refine j_aload_n 0 dX11_have_104 rfl rfl ?_
    refine j_get (ci := 10) 64 (.ref 37) jC_10 dX11_have_105 kg_RX11_126 rfl (okM_1 _) (shM_1 _) (fvM_1_64 _) ?_
    refine j_iload_n 2 dX11_have_108 rfl rfl ?_
    replace h := bG_inv h
    obtain ⟨hi14, h⟩ := h
    refine j_iaload dX11_have_109 (okM_37 _) (shM_37 _) (jin_spec hi14) ?_
    replace h := bC_inv h
    obtain ⟨r15, cr15, h⟩ := h
    refine j_callS (st1 := .int r15 :: _) (c_X11_two g _ cr15) jy_X11_two kt_yX11_two kl_RX11_274 dX11_have_110 rfl rfl rfl rfl (jbr _) (jbr _) hn.1 hn.2 (Or.inr rfl) rfl ?_
    refine j_ishl dX11_have_113 ?_
    refine j_ior dX11_have_114 ?_
    refine j_ior dX11_have_115 ?_
    replace h := bV_inv h
    obtain ⟨v16, ev16, h⟩ := h
    refine j_nmi ev16 ?_
    refine j_istore_n [(2, .int v16), (0, .ref 1), (3, .int x3)] dX11_have_116 rfl (Nat.le_of_ble_eq_true rfl) rfl ?_
    replace h := bV_inv h
    obtain ⟨v17, ev17, h⟩ := h
    refine j_iinc (v := v17) [(3, .int v17), (2, .int v16), (0, .ref 1)] 2 dX11_have_117 rfl (by rw [ev17]; rfl) (Nat.le_of_ble_eq_true rfl) rfl ?_
    refine j_goto 83 dX11_have_120 (by decide) ?_
    replace h := Option.some.inj h
    subst h
    refine j_sub [(0, .ref 1), (2, .int v16), (3, .int v17)] [2, 1, 0] rfl ?_
    exact hc0 _ hK
def f_X11_have_J79 (σ : jS) : Option (Int32 × jS) :=
  jloop jFuel (fun s => f_X11_have_B83 s.2.2 s.1 s.2.1) (0, 0, σ)
set_option maxHeartbeats 1000000 in
set_option maxRecDepth 20000 in
theorem f_X11_have_J79_ok {g : Bool} {rv : Option Value} {μ' : jM} (σ : jS) {Kp : (Int32 × jS) → Prop} (hn : Nat.ble nM μ'.1 = true ∧ Nat.ble wM μ'.2.1 = true) (hr : ∀ (r : Int32) (s : jS), Kp ((r, s)) → rv = some (.int r) ∧ μ' = eM s) (o : (Int32 × jS)) (h : f_X11_have_J79 σ = some o) (hK : Kp o) : J yX11_have cX11_have 4 (some .int) 7 g rv μ' 79 [(0, .ref 1)] [] (eM σ) := by
  unfold f_X11_have_J79 at h
  refine j_iconst (v := 0) dX11_have_79 (by decide) ?_
  refine j_istore_n [(2, .int 0), (0, .ref 1)] dX11_have_80 rfl (Nat.le_of_ble_eq_true rfl) rfl ?_
  refine j_iconst (v := 0) dX11_have_81 (by decide) ?_
  refine j_istore_n [(3, .int 0), (2, .int 0), (0, .ref 1)] dX11_have_82 rfl (Nat.le_of_ble_eq_true rfl) rfl ?_
  refine j_sub [(0, .ref 1), (2, .int 0), (3, .int 0)] [2, 1, 0] rfl ?_
  exact jloop_ok (fun s => f_X11_have_B83 s.2.2 s.1 s.2.1) (fun s => J yX11_have cX11_have 4 (some .int) 7 g rv μ' 83 [(0, .ref 1), (2, .int s.1), (3, .int s.2.1)] [] (eM s.2.2)) Kp (fun s o hb hk => f_X11_have_B83_ok (Kp := jsum (fun s => J yX11_have cX11_have 4 (some .int) 7 g rv μ' 83 [(0, .ref 1), (2, .int s.1), (3, .int s.2.1)] [] (eM s.2.2)) Kp) s.2.2 s.1 s.2.1 hn (fun r s q => hr r s q) (fun s q => q) o hb hk) jFuel _ _ h hK
def f_X11_have_B63 (σ : jS) (x1 : Int32) (x2 : Int32) : Option ((Int32 × jS) ⊕ (Int32 × jS)) :=
  if x1 < x2 then (jw (f_X11_have_J79 σ))
  else (bD (f_X11_nextLay σ x2) fun r18 σ19 =>
  bV (x2 + 1) fun v20 =>
  some (.inl (v20, σ19)))
set_option maxHeartbeats 1000000 in
set_option maxRecDepth 20000 in
theorem f_X11_have_B63_ok {g : Bool} {rv : Option Value} {μ' : jM} (σ : jS) (x1 : Int32) (x2 : Int32) {Kp : ((Int32 × jS) ⊕ (Int32 × jS)) → Prop} (hn : Nat.ble nM μ'.1 = true ∧ Nat.ble wM μ'.2.1 = true) (hr : ∀ (r : Int32) (s : jS), Kp (.inr ((r, s))) → rv = some (.int r) ∧ μ' = eM s) (hc0 : ∀ s : (Int32 × jS), Kp (.inl s) → J yX11_have cX11_have 4 (some .int) 7 g rv μ' 63 [(0, .ref 1), (1, .int x1), (2, .int s.1)] [] (eM s.2)) (o : ((Int32 × jS) ⊕ (Int32 × jS))) (h : f_X11_have_B63 σ x1 x2 = some o) (hK : Kp o) : J yX11_have cX11_have 4 (some .int) 7 g rv μ' 63 [(0, .ref 1), (1, .int x1), (2, .int x2)] [] (eM σ) := by
  unfold f_X11_have_B63 at h
  refine j_iload_n 2 dX11_have_63 rfl rfl ?_
  refine j_iload_n 1 dX11_have_64 rfl rfl ?_
  refine j_icmp_gt 79 dX11_have_65 (by decide) (fun hc21 => ?_) (fun hc21 => ?_)
  · replace h := jif_t hc21 h
    replace h := jw_inv h
    obtain ⟨o22, rfl, h⟩ := h
    refine j_sub [(0, .ref 1)] [0] rfl ?_
    exact f_X11_have_J79_ok (Kp := fun o => Kp (.inr (o))) σ hn (fun r s q => hr r s q) _ h hK
  · replace h := jif_f hc21 h
    refine j_aload_n 0 dX11_have_68 rfl rfl ?_
    refine j_iload_n 2 dX11_have_69 rfl rfl ?_
    replace h := bD_inv h
    obtain ⟨r23, σ24, cr23, h⟩ := h
    refine j_callV (ci := 10) (st1 := _) (c_X11_nextLay g cr23) jy_X11_nextLay ki_yX11_nextLay ks_yX11_nextLay kl_RX11_435 dX11_have_70 rfl (okM_1 _) (shM_1 _) rfl rfl rfl rfl (jbr _) (jbr _) hn.1 hn.2 (Or.inr rfl) rfl ?_
    replace h := bV_inv h
    obtain ⟨v25, ev25, h⟩ := h
    refine j_iinc (v := v25) [(2, .int v25), (0, .ref 1), (1, .int x1)] 2 dX11_have_73 rfl (by rw [ev25]; rfl) (Nat.le_of_ble_eq_true rfl) rfl ?_
    refine j_goto 63 dX11_have_76 (by decide) ?_
    replace h := Option.some.inj h
    subst h
    refine j_sub [(0, .ref 1), (1, .int x1), (2, .int v25)] [1, 2, 0] rfl ?_
    exact hc0 _ hK
def f_X11_have_J58 (σ : jS) (x1 : Int32) (y0 : Int32) : Option (Int32 × jS) :=
  bV (sI σ 1 63 y0) fun σ5 =>
  jloop jFuel (fun s => f_X11_have_B63 s.2 x1 s.1) (1, σ5)
set_option maxHeartbeats 1000000 in
set_option maxRecDepth 20000 in
theorem f_X11_have_J58_ok {g : Bool} {rv : Option Value} {μ' : jM} (σ : jS) (x1 : Int32) (y0 : Int32) {Kp : (Int32 × jS) → Prop} (hn : Nat.ble nM μ'.1 = true ∧ Nat.ble wM μ'.2.1 = true) (hr : ∀ (r : Int32) (s : jS), Kp ((r, s)) → rv = some (.int r) ∧ μ' = eM s) (o : (Int32 × jS)) (h : f_X11_have_J58 σ x1 y0 = some o) (hK : Kp o) : J yX11_have cX11_have 4 (some .int) 7 g rv μ' 58 [(0, .ref 1), (1, .int x1)] [.int y0, .ref 1] (eM σ) := by
  unfold f_X11_have_J58 at h
  replace h := bV_inv h
  obtain ⟨σ26, eσ26, h⟩ := h
  refine j_putI 63 jC_10 dX11_have_58 kg_RX11_429 (Or.inl ff_10_63) rfl fk_10_63 (fn_10_63 _) (okM_1 _) (shM_1 _) ?_
  refine j_mem (congrArg eM eσ26) ?_
  refine j_iconst (v := 1) dX11_have_61 (by decide) ?_
  refine j_istore_n [(2, .int 1), (0, .ref 1), (1, .int x1)] dX11_have_62 rfl (Nat.le_of_ble_eq_true rfl) rfl ?_
  refine j_sub [(0, .ref 1), (1, .int x1), (2, .int 1)] [1, 2, 0] rfl ?_
  exact jloop_ok (fun s => f_X11_have_B63 s.2 x1 s.1) (fun s => J yX11_have cX11_have 4 (some .int) 7 g rv μ' 63 [(0, .ref 1), (1, .int x1), (2, .int s.1)] [] (eM s.2)) Kp (fun s o hb hk => f_X11_have_B63_ok (Kp := jsum (fun s => J yX11_have cX11_have 4 (some .int) 7 g rv μ' 63 [(0, .ref 1), (1, .int x1), (2, .int s.1)] [] (eM s.2)) Kp) s.2 x1 s.1 hn (fun r s q => hr r s q) (fun s q => q) o hb hk) jFuel _ _ h hK
def f_X11_have (σ : jS) (x1 : Int32) : Option (Int32 × jS) :=
  bC (f_X11_in (x1.toInt64) 0 40) fun r1 =>
  if r1 = 0 then (some (((-1002), σ)))
  else (if (gI σ 1 8) = 0 then (some (((-1003), σ)))
  else (bC (f_X11_toldCode σ 0) fun r2 =>
  bG (jin 0 147968) (
  bV (sI σ 37 (ix 0) r2) fun σ3 =>
  bG (jin 0 147968) (
  bC (f_X11_fits σ3 (gI σ3 37 (ix 0)) 0) fun r4 =>
  if r4 = 0 then (f_X11_have_J58 σ3 x1 0)
  else (f_X11_have_J58 σ3 x1 1)))))
set_option maxHeartbeats 1000000 in
set_option maxRecDepth 20000 in
theorem f_X11_have_ok {g : Bool} {rv : Option Value} {μ' : jM} (σ : jS) (x1 : Int32) {Kp : (Int32 × jS) → Prop} (hn : Nat.ble nM μ'.1 = true ∧ Nat.ble wM μ'.2.1 = true) (hr : ∀ (r : Int32) (s : jS), Kp ((r, s)) → rv = some (.int r) ∧ μ' = eM s) (o : (Int32 × jS)) (h : f_X11_have σ x1 = some o) (hK : Kp o) : J yX11_have cX11_have 4 (some .int) 7 g rv μ' 0 [(0, .ref 1), (1, .int x1)] [] (eM σ) := by
  unfold f_X11_have at h
  refine j_iload_n 1 dX11_have_0 rfl rfl ?_
  refine j_i2l dX11_have_1 ?_
  refine j_lconst (v := 0) dX11_have_2 (by decide) ?_
  refine j_ldc2 (v := 40) kk_RX11_418 dX11_have_3 ?_
  replace h := bC_inv h
  obtain ⟨r27, cr27, h⟩ := h
  refine j_callS (st1 := .int r27 :: _) (c_X11_in g _ cr27) jy_X11_in kt_yX11_in kl_RX11_144 dX11_have_6 rfl rfl rfl rfl (jbr _) (jbr _) hn.1 hn.2 (Or.inr rfl) rfl ?_
  refine j_if_ne 16 dX11_have_9 (by decide) (fun hc28 => ?_) (fun hc28 => ?_)
  · replace h := jif_f hc28 h
    refine j_aload_n 0 dX11_have_16 rfl rfl ?_
    refine j_get (ci := 10) 8 (.int (gI σ 1 8)) jC_10 dX11_have_17 kg_RX11_148 rfl (okM_1 _) (shM_1 _) (fvM_1_8 _) ?_
    refine j_if_ne 27 dX11_have_20 (by decide) (fun hc29 => ?_) (fun hc29 => ?_)
    · replace h := jif_f hc29 h
      refine j_aload_n 0 dX11_have_27 rfl rfl ?_
      refine j_get (ci := 10) 64 (.ref 37) jC_10 dX11_have_28 kg_RX11_126 rfl (okM_1 _) (shM_1 _) (fvM_1_64 _) ?_
      refine j_iconst (v := 0) dX11_have_31 (by decide) ?_
      refine j_aload_n 0 dX11_have_32 rfl rfl ?_
      refine j_iconst (v := 0) dX11_have_33 (by decide) ?_
      replace h := bC_inv h
      obtain ⟨r30, cr30, h⟩ := h
      refine j_callV (ci := 10) (st1 := .int r30 :: _) (c_X11_toldCode g cr30) jy_X11_toldCode ki_yX11_toldCode ks_yX11_toldCode kl_RX11_246 dX11_have_34 rfl (okM_1 _) (shM_1 _) rfl rfl rfl rfl (jbr _) (jbr _) hn.1 hn.2 (Or.inr rfl) rfl ?_
      replace h := bG_inv h
      obtain ⟨hi31, h⟩ := h
      refine j_iastore dX11_have_37 (okM_37 _) (shM_37 _) (jin_spec hi31) ?_
      replace h := bV_inv h
      obtain ⟨σ32, eσ32, h⟩ := h
      refine j_mem (congrArg eM eσ32) ?_
      refine j_aload_n 0 dX11_have_38 rfl rfl ?_
      refine j_aload_n 0 dX11_have_39 rfl rfl ?_
      refine j_aload_n 0 dX11_have_40 rfl rfl ?_
      refine j_get (ci := 10) 64 (.ref 37) jC_10 dX11_have_41 kg_RX11_126 rfl (okM_1 _) (shM_1 _) (fvM_1_64 _) ?_
      refine j_iconst (v := 0) dX11_have_44 (by decide) ?_
      replace h := bG_inv h
      obtain ⟨hi33, h⟩ := h
      refine j_iaload dX11_have_45 (okM_37 _) (shM_37 _) (jin_spec hi33) ?_
      refine j_iconst (v := 0) dX11_have_46 (by decide) ?_
      replace h := bC_inv h
      obtain ⟨r34, cr34, h⟩ := h
      refine j_callV (ci := 10) (st1 := .int r34 :: _) (c_X11_fits g cr34) jy_X11_fits ki_yX11_fits ks_yX11_fits kl_RX11_423 dX11_have_47 rfl (okM_1 _) (shM_1 _) rfl rfl rfl rfl (jbr _) (jbr _) hn.1 hn.2 (Or.inr rfl) rfl ?_
      refine j_if_eq 57 dX11_have_50 (by decide) (fun hc35 => ?_) (fun hc35 => ?_)
      · replace h := jif_t hc35 h
        refine j_iconst (v := 0) dX11_have_57 (by decide) ?_
        exact f_X11_have_J58_ok σ32 x1 0 hn hr _ h hK
      · replace h := jif_f hc35 h
        refine j_iconst (v := 1) dX11_have_53 (by decide) ?_
        refine j_goto 58 dX11_have_54 (by decide) ?_
        exact f_X11_have_J58_ok σ32 x1 1 hn hr _ h hK
    · replace h := jif_t hc29 h
      refine j_sipush (v := (-1003)) dX11_have_23 (by decide) ?_
      replace h := Option.some.inj h
      subst h
      obtain ⟨hr1, hr2⟩ := hr _ _ hK
      exact j_iret dX11_have_26 hr1 hr2
  · replace h := jif_t hc28 h
    refine j_sipush (v := (-1002)) dX11_have_12 (by decide) ?_
    replace h := Option.some.inj h
    subst h
    obtain ⟨hr1, hr2⟩ := hr _ _ hK
    exact j_iret dX11_have_15 hr1 hr2
theorem c_X11_have (g : Bool) {σ : jS} {x1 : Int32} {r : Int32} {σ2 : jS} (h : f_X11_have σ x1 = some (r, σ2)) : Cn yX11_have cX11_have 4 (some .int) 7 g [.ref 1, .int x1] (eM σ) (some (.int r)) (eM σ2) :=
  Cn_of (by decide) (Nat.le_refl _) (Nat.le_refl _) (Nat.le_of_ble_eq_true rfl) (f_X11_have_ok (Kp := (fun o => o = (r, σ2))) σ x1 ⟨jbr _, jbr _⟩ (fun r2 s2 q => by cases q; exact ⟨rfl, rfl⟩) _ h rfl)
def f_X11_seed (σ : jS) (x1 : Int32) : Option (Int32 × jS) :=
  if 0 ≤ x1 then (bV (gI σ 1 36) fun v1 =>
  bV (sI σ 1 36 x1) fun σ2 =>
  some ((v1, σ2)))
  else (some (((-1002), σ)))
set_option maxHeartbeats 1000000 in
set_option maxRecDepth 20000 in
theorem f_X11_seed_ok {g : Bool} {rv : Option Value} {μ' : jM} (σ : jS) (x1 : Int32) {Kp : (Int32 × jS) → Prop} (hn : Nat.ble nM μ'.1 = true ∧ Nat.ble wM μ'.2.1 = true) (hr : ∀ (r : Int32) (s : jS), Kp ((r, s)) → rv = some (.int r) ∧ μ' = eM s) (o : (Int32 × jS)) (h : f_X11_seed σ x1 = some o) (hK : Kp o) : J yX11_seed cX11_seed 3 (some .int) 1 g rv μ' 0 [(0, .ref 1), (1, .int x1)] [] (eM σ) := by
  unfold f_X11_seed at h
  refine j_iload_n 1 dX11_seed_0 rfl rfl ?_
  refine j_if_ge 8 dX11_seed_1 (by decide) (fun hc3 => ?_) (fun hc3 => ?_)
  · replace h := jif_t hc3 h
    refine j_aload_n 0 dX11_seed_8 rfl rfl ?_
    refine j_get (ci := 10) 36 (.int (gI σ 1 36)) jC_10 dX11_seed_9 kg_RX11_318 rfl (okM_1 _) (shM_1 _) (fvM_1_36 _) ?_
    replace h := bV_inv h
    obtain ⟨v4, ev4, h⟩ := h
    refine j_nmi ev4 ?_
    refine j_istore_n [(2, .int v4), (0, .ref 1), (1, .int x1)] dX11_seed_12 rfl (Nat.le_of_ble_eq_true rfl) rfl ?_
    refine j_aload_n 1 dX11_seed_13 rfl rfl ?_
    refine j_iload_n 2 dX11_seed_14 rfl rfl ?_
    replace h := bV_inv h
    obtain ⟨σ5, eσ5, h⟩ := h
    refine j_putI 36 jC_10 dX11_seed_15 kg_RX11_318 (Or.inl ff_10_36) rfl fk_10_36 (fn_10_36 _) (okM_1 _) (shM_1 _) ?_
    refine j_mem (congrArg eM eσ5) ?_
    refine j_iload_n 0 dX11_seed_18 rfl rfl ?_
    replace h := Option.some.inj h
    subst h
    obtain ⟨hr1, hr2⟩ := hr _ _ hK
    exact j_iret dX11_seed_19 hr1 hr2
  · replace h := jif_f hc3 h
    refine j_sipush (v := (-1002)) dX11_seed_4 (by decide) ?_
    replace h := Option.some.inj h
    subst h
    obtain ⟨hr1, hr2⟩ := hr _ _ hK
    exact j_iret dX11_seed_7 hr1 hr2
theorem c_X11_seed (g : Bool) {σ : jS} {x1 : Int32} {r : Int32} {σ2 : jS} (h : f_X11_seed σ x1 = some (r, σ2)) : Cn yX11_seed cX11_seed 3 (some .int) 1 g [.ref 1, .int x1] (eM σ) (some (.int r)) (eM σ2) :=
  Cn_of (by decide) (Nat.le_refl _) (Nat.le_refl _) (Nat.le_of_ble_eq_true rfl) (f_X11_seed_ok (Kp := (fun o => o = (r, σ2))) σ x1 ⟨jbr _, jbr _⟩ (fun r2 s2 q => by cases q; exact ⟨rfl, rfl⟩) _ h rfl)
def f_X11_keep_J156 (σ : jS) (x1 : Int32) : Option (Int32 × jS) :=
  bG (jin x1 2) (
  bV (sI σ 41 (ix x1) 1) fun σ8 =>
  some ((1, σ8)))
set_option maxHeartbeats 1000000 in
set_option maxRecDepth 20000 in
theorem f_X11_keep_J156_ok {g : Bool} {rv : Option Value} {μ' : jM} (σ : jS) (x1 : Int32) {Kp : (Int32 × jS) → Prop} (hn : Nat.ble nM μ'.1 = true ∧ Nat.ble wM μ'.2.1 = true) (hr : ∀ (r : Int32) (s : jS), Kp ((r, s)) → rv = some (.int r) ∧ μ' = eM s) (o : (Int32 × jS)) (h : f_X11_keep_J156 σ x1 = some o) (hK : Kp o) : J yX11_keep cX11_keep 4 (some .int) 2 g rv μ' 156 [(0, .ref 1), (1, .int x1)] [] (eM σ) := by
  unfold f_X11_keep_J156 at h
  refine j_aload_n 0 dX11_keep_156 rfl rfl ?_
  refine j_get (ci := 10) 70 (.ref 41) jC_10 dX11_keep_157 kg_RX11_138 rfl (okM_1 _) (shM_1 _) (fvM_1_70 _) ?_
  refine j_iload_n 1 dX11_keep_160 rfl rfl ?_
  refine j_iconst (v := 1) dX11_keep_161 (by decide) ?_
  replace h := bG_inv h
  obtain ⟨hi9, h⟩ := h
  refine j_bastore dX11_keep_162 (okM_41 _) (shM_41 _) (jin_spec hi9) ?_
  rw [jb_vp (x := 1) rfl]
  replace h := bV_inv h
  obtain ⟨σ10, eσ10, h⟩ := h
  refine j_mem (congrArg eM eσ10) ?_
  refine j_iconst (v := 1) dX11_keep_163 (by decide) ?_
  replace h := Option.some.inj h
  subst h
  obtain ⟨hr1, hr2⟩ := hr _ _ hK
  exact j_iret dX11_keep_164 hr1 hr2
def f_X11_keep_B125 (σ : jS) (x1 : Int32) (x2 : Int32) (x3 : Int32) : Option ((Int32 × jS) ⊕ (Int32 × jS)) :=
  if (gI σ 1 6) ≤ x3 then (jw (f_X11_keep_J156 σ x1))
  else (bG (jin x3 120) (
  bG (jin ((x2 + (12 : Int32)) + x3) 280) (
  bV (sI σ 40 (ix ((x2 + (12 : Int32)) + x3)) (gI σ 6 (ix x3))) fun σ11 =>
  bV (x3 + 1) fun v12 =>
  some (.inl (v12, σ11)))))
set_option maxHeartbeats 1000000 in
set_option maxRecDepth 20000 in
theorem f_X11_keep_B125_ok {g : Bool} {rv : Option Value} {μ' : jM} (σ : jS) (x1 : Int32) (x2 : Int32) (x3 : Int32) {Kp : ((Int32 × jS) ⊕ (Int32 × jS)) → Prop} (hn : Nat.ble nM μ'.1 = true ∧ Nat.ble wM μ'.2.1 = true) (hr : ∀ (r : Int32) (s : jS), Kp (.inr ((r, s))) → rv = some (.int r) ∧ μ' = eM s) (hc0 : ∀ s : (Int32 × jS), Kp (.inl s) → J yX11_keep cX11_keep 4 (some .int) 2 g rv μ' 125 [(0, .ref 1), (1, .int x1), (2, .int x2), (3, .int s.1)] [] (eM s.2)) (o : ((Int32 × jS) ⊕ (Int32 × jS))) (h : f_X11_keep_B125 σ x1 x2 x3 = some o) (hK : Kp o) : J yX11_keep cX11_keep 4 (some .int) 2 g rv μ' 125 [(0, .ref 1), (1, .int x1), (2, .int x2), (3, .int x3)] [] (eM σ) := by
  unfold f_X11_keep_B125 at h
  refine j_iload_n 3 dX11_keep_125 rfl rfl ?_
  refine j_aload_n 0 dX11_keep_126 rfl rfl ?_
  refine j_get (ci := 10) 6 (.int (gI σ 1 6)) jC_10 dX11_keep_127 kg_RX11_243 rfl (okM_1 _) (shM_1 _) (fvM_1_6 _) ?_
  refine j_icmp_ge 156 dX11_keep_130 (by decide) (fun hc13 => ?_) (fun hc13 => ?_)
  · replace h := jif_t hc13 h
    replace h := jw_inv h
    obtain ⟨o14, rfl, h⟩ := h
    refine j_sub [(0, .ref 1), (1, .int x1)] [0, 1] rfl ?_
    exact f_X11_keep_J156_ok (Kp := fun o => Kp (.inr (o))) σ x1 hn (fun r s q => hr r s q) _ h hK
  · replace h := jif_f hc13 h
    refine j_aload_n 0 dX11_keep_133 rfl rfl ?_
    refine j_get (ci := 10) 69 (.ref 40) jC_10 dX11_keep_134 kg_RX11_135 rfl (okM_1 _) (shM_1 _) (fvM_1_69 _) ?_
    refine j_iload_n 2 dX11_keep_137 rfl rfl ?_
    refine j_bipush (v := 12) dX11_keep_138 (by decide) ?_
    refine j_iadd dX11_keep_140 ?_
    refine j_iload_n 3 dX11_keep_141 rfl rfl ?_
    refine j_iadd dX11_keep_142 ?_
    refine j_aload_n 0 dX11_keep_143 rfl rfl ?_
    refine j_get (ci := 10) 7 (.ref 6) jC_10 dX11_keep_144 kg_RX11_22 rfl (okM_1 _) (shM_1 _) (fvM_1_7 _) ?_
    refine j_iload_n 3 dX11_keep_147 rfl rfl ?_
    replace h := bG_inv h
    obtain ⟨hi15, h⟩ := h
    refine j_iaload dX11_keep_148 (okM_6 _) (shM_6 _) (jin_spec hi15) ?_
    replace h := bG_inv h
    obtain ⟨hi16, h⟩ := h
    refine j_iastore dX11_keep_149 (okM_40 _) (shM_40 _) (jin_spec hi16) ?_
    replace h := bV_inv h
    obtain ⟨σ17, eσ17, h⟩ := h
    refine j_mem (congrArg eM eσ17) ?_
    replace h := bV_inv h
    obtain ⟨v18, ev18, h⟩ := h
    refine j_iinc (v := v18) [(3, .int v18), (0, .ref 1), (1, .int x1), (2, .int x2)] 3 dX11_keep_150 rfl (by rw [ev18]; rfl) (Nat.le_of_ble_eq_true rfl) rfl ?_
    refine j_goto 125 dX11_keep_153 (by decide) ?_
    replace h := Option.some.inj h
    subst h
    refine j_sub [(0, .ref 1), (1, .int x1), (2, .int x2), (3, .int v18)] [1, 2, 3, 0] rfl ?_
    exact hc0 _ hK
def f_X11_keep_J96 (σ : jS) (x1 : Int32) (x2 : Int32) (y0 : Int32) (y1 : Int32) (y2 : Nat) : Option (Int32 × jS) :=
  bG (jrwM 0 y2) (
  bG (jin y1 (SHM y2).2) (
  bV (sI σ y2 (ix y1) y0) fun σ5 =>
  bG (jin (x2 + (10 : Int32)) 280) (
  bV (sI σ5 40 (ix (x2 + (10 : Int32))) (gI σ5 1 36)) fun σ6 =>
  bG (jin (x2 + (11 : Int32)) 280) (
  bV (sI σ6 40 (ix (x2 + (11 : Int32))) (gI σ6 1 6)) fun σ7 =>
  jloop jFuel (fun s => f_X11_keep_B125 s.2 x1 x2 s.1) (0, σ7)))))
set_option maxHeartbeats 1000000 in
set_option maxRecDepth 20000 in
theorem f_X11_keep_J96_ok {g : Bool} {rv : Option Value} {μ' : jM} (σ : jS) (x1 : Int32) (x2 : Int32) (y0 : Int32) (y1 : Int32) (y2 : Nat) {Kp : (Int32 × jS) → Prop} (hn : Nat.ble nM μ'.1 = true ∧ Nat.ble wM μ'.2.1 = true) (hr : ∀ (r : Int32) (s : jS), Kp ((r, s)) → rv = some (.int r) ∧ μ' = eM s) (o : (Int32 × jS)) (h : f_X11_keep_J96 σ x1 x2 y0 y1 y2 = some o) (hK : Kp o) : J yX11_keep cX11_keep 4 (some .int) 2 g rv μ' 96 [(0, .ref 1), (1, .int x1), (2, .int x2)] [.int y0, .int y1, .ref y2] (eM σ) := by
  unfold f_X11_keep_J96 at h
  replace h := bG_inv h
  obtain ⟨hg19, h⟩ := h
  replace h := bG_inv h
  obtain ⟨hi20, h⟩ := h
  refine j_iastore dX11_keep_96 (jrwM_ok hg19) (jrwM_sh hg19) (jin_spec hi20) ?_
  replace h := bV_inv h
  obtain ⟨σ21, eσ21, h⟩ := h
  refine j_mem (congrArg eM eσ21) ?_
  refine j_aload_n 0 dX11_keep_97 rfl rfl ?_
  refine j_get (ci := 10) 69 (.ref 40) jC_10 dX11_keep_98 kg_RX11_135 rfl (okM_1 _) (shM_1 _) (fvM_1_69 _) ?_
  refine j_iload_n 2 dX11_keep_101 rfl rfl ?_
  refine j_bipush (v := 10) dX11_keep_102 (by decide) ?_
  refine j_iadd dX11_keep_104 ?_
  refine j_aload_n 0 dX11_keep_105 rfl rfl ?_
  refine j_get (ci := 10) 36 (.int (gI σ21 1 36)) jC_10 dX11_keep_106 kg_RX11_318 rfl (okM_1 _) (shM_1 _) (fvM_1_36 _) ?_
  replace h := bG_inv h
  obtain ⟨hi22, h⟩ := h
  refine j_iastore dX11_keep_109 (okM_40 _) (shM_40 _) (jin_spec hi22) ?_
  replace h := bV_inv h
  obtain ⟨σ23, eσ23, h⟩ := h
  refine j_mem (congrArg eM eσ23) ?_
  refine j_aload_n 0 dX11_keep_110 rfl rfl ?_
  refine j_get (ci := 10) 69 (.ref 40) jC_10 dX11_keep_111 kg_RX11_135 rfl (okM_1 _) (shM_1 _) (fvM_1_69 _) ?_
  refine j_iload_n 2 dX11_keep_114 rfl rfl ?_
  refine j_bipush (v := 11) dX11_keep_115 (by decide) ?_
  refine j_iadd dX11_keep_117 ?_
  refine j_aload_n 0 dX11_keep_118 rfl rfl ?_
  refine j_get (ci := 10) 6 (.int (gI σ23 1 6)) jC_10 dX11_keep_119 kg_RX11_243 rfl (okM_1 _) (shM_1 _) (fvM_1_6 _) ?_
  replace h := bG_inv h
  obtain ⟨hi24, h⟩ := h
  refine j_iastore dX11_keep_122 (okM_40 _) (shM_40 _) (jin_spec hi24) ?_
  replace h := bV_inv h
  obtain ⟨σ25, eσ25, h⟩ := h
  refine j_mem (congrArg eM eσ25) ?_
  refine j_iconst (v := 0) dX11_keep_123 (by decide) ?_
  refine j_istore_n [(3, .int 0), (0, .ref 1), (1, .int x1), (2, .int x2)] dX11_keep_124 rfl (Nat.le_of_ble_eq_true rfl) rfl ?_
  refine j_sub [(0, .ref 1), (1, .int x1), (2, .int x2), (3, .int 0)] [1, 2, 3, 0] rfl ?_
  exact jloop_ok (fun s => f_X11_keep_B125 s.2 x1 x2 s.1) (fun s => J yX11_keep cX11_keep 4 (some .int) 2 g rv μ' 125 [(0, .ref 1), (1, .int x1), (2, .int x2), (3, .int s.1)] [] (eM s.2)) Kp (fun s o hb hk => f_X11_keep_B125_ok (Kp := jsum (fun s => J yX11_keep cX11_keep 4 (some .int) 2 g rv μ' 125 [(0, .ref 1), (1, .int x1), (2, .int x2), (3, .int s.1)] [] (eM s.2)) Kp) s.2 x1 x2 s.1 hn (fun r s q => hr r s q) (fun s q => q) o hb hk) jFuel _ _ h hK
def f_X11_keep_J63 (σ : jS) (x1 : Int32) (x2 : Int32) : Option (Int32 × jS) :=
  bG (jin (x2 + (8 : Int32)) 280) (
  bV (sI σ 40 (ix (x2 + (8 : Int32))) (gI σ 1 13)) fun σ3 =>
  if (gI σ3 1 14) = 0 then (f_X11_keep_J96 σ3 x1 x2 0 (x2 + (9 : Int32)) 40)
  else (f_X11_keep_J96 σ3 x1 x2 1 (x2 + (9 : Int32)) 40))
set_option maxHeartbeats 1000000 in
set_option maxRecDepth 20000 in
theorem f_X11_keep_J63_ok {g : Bool} {rv : Option Value} {μ' : jM} (σ : jS) (x1 : Int32) (x2 : Int32) {Kp : (Int32 × jS) → Prop} (hn : Nat.ble nM μ'.1 = true ∧ Nat.ble wM μ'.2.1 = true) (hr : ∀ (r : Int32) (s : jS), Kp ((r, s)) → rv = some (.int r) ∧ μ' = eM s) (o : (Int32 × jS)) (h : f_X11_keep_J63 σ x1 x2 = some o) (hK : Kp o) : J yX11_keep cX11_keep 4 (some .int) 2 g rv μ' 63 [(0, .ref 1), (1, .int x1), (2, .int x2)] [] (eM σ) := by
  unfold f_X11_keep_J63 at h
  refine j_aload_n 0 dX11_keep_63 rfl rfl ?_
  refine j_get (ci := 10) 69 (.ref 40) jC_10 dX11_keep_64 kg_RX11_135 rfl (okM_1 _) (shM_1 _) (fvM_1_69 _) ?_
  refine j_iload_n 2 dX11_keep_67 rfl rfl ?_
  refine j_bipush (v := 8) dX11_keep_68 (by decide) ?_
  refine j_iadd dX11_keep_70 ?_
  refine j_aload_n 0 dX11_keep_71 rfl rfl ?_
  refine j_get (ci := 10) 13 (.int (gI σ 1 13)) jC_10 dX11_keep_72 kg_RX11_264 rfl (okM_1 _) (shM_1 _) (fvM_1_13 _) ?_
  replace h := bG_inv h
  obtain ⟨hi26, h⟩ := h
  refine j_iastore dX11_keep_75 (okM_40 _) (shM_40 _) (jin_spec hi26) ?_
  replace h := bV_inv h
  obtain ⟨σ27, eσ27, h⟩ := h
  refine j_mem (congrArg eM eσ27) ?_
  refine j_aload_n 0 dX11_keep_76 rfl rfl ?_
  refine j_get (ci := 10) 69 (.ref 40) jC_10 dX11_keep_77 kg_RX11_135 rfl (okM_1 _) (shM_1 _) (fvM_1_69 _) ?_
  refine j_iload_n 2 dX11_keep_80 rfl rfl ?_
  refine j_bipush (v := 9) dX11_keep_81 (by decide) ?_
  refine j_iadd dX11_keep_83 ?_
  refine j_aload_n 0 dX11_keep_84 rfl rfl ?_
  refine j_get (ci := 10) 14 (.int (gI σ27 1 14)) jC_10 dX11_keep_85 kg_RX11_267 rfl (okM_1 _) (shM_1 _) (fvM_1_14 _) ?_
  refine j_if_eq 95 dX11_keep_88 (by decide) (fun hc28 => ?_) (fun hc28 => ?_)
  · replace h := jif_t hc28 h
    refine j_iconst (v := 0) dX11_keep_95 (by decide) ?_
    exact f_X11_keep_J96_ok σ27 x1 x2 0 (x2 + (9 : Int32)) 40 hn hr _ h hK
  · replace h := jif_f hc28 h
    refine j_iconst (v := 1) dX11_keep_91 (by decide) ?_
    refine j_goto 96 dX11_keep_92 (by decide) ?_
    exact f_X11_keep_J96_ok σ27 x1 x2 1 (x2 + (9 : Int32)) 40 hn hr _ h hK
def f_X11_keep_B22 (σ : jS) (x1 : Int32) (x2 : Int32) (x3 : Int32) : Option ((Int32 × jS) ⊕ (Int32 × jS)) :=
  if 4 ≤ x3 then (jw (f_X11_keep_J63 σ x1 x2))
  else (bG (jin x3 4) (
  bG (jin (x2 + x3) 280) (
  bV (sI σ 40 (ix (x2 + x3)) (gI σ 9 (ix x3))) fun σ29 =>
  bG (jin x3 4) (
  bG (jin ((x2 + (4 : Int32)) + x3) 280) (
  bV (sI σ29 40 (ix ((x2 + (4 : Int32)) + x3)) (gI σ29 10 (ix x3))) fun σ30 =>
  bV (x3 + 1) fun v31 =>
  some (.inl (v31, σ30)))))))
set_option maxHeartbeats 1000000 in
set_option maxRecDepth 20000 in
theorem f_X11_keep_B22_ok {g : Bool} {rv : Option Value} {μ' : jM} (σ : jS) (x1 : Int32) (x2 : Int32) (x3 : Int32) {Kp : ((Int32 × jS) ⊕ (Int32 × jS)) → Prop} (hn : Nat.ble nM μ'.1 = true ∧ Nat.ble wM μ'.2.1 = true) (hr : ∀ (r : Int32) (s : jS), Kp (.inr ((r, s))) → rv = some (.int r) ∧ μ' = eM s) (hc0 : ∀ s : (Int32 × jS), Kp (.inl s) → J yX11_keep cX11_keep 4 (some .int) 2 g rv μ' 22 [(0, .ref 1), (1, .int x1), (2, .int x2), (3, .int s.1)] [] (eM s.2)) (o : ((Int32 × jS) ⊕ (Int32 × jS))) (h : f_X11_keep_B22 σ x1 x2 x3 = some o) (hK : Kp o) : J yX11_keep cX11_keep 4 (some .int) 2 g rv μ' 22 [(0, .ref 1), (1, .int x1), (2, .int x2), (3, .int x3)] [] (eM σ) := by
  unfold f_X11_keep_B22 at h
  refine j_iload_n 3 dX11_keep_22 rfl rfl ?_
  refine j_iconst (v := 4) dX11_keep_23 (by decide) ?_
  refine j_icmp_ge 63 dX11_keep_24 (by decide) (fun hc32 => ?_) (fun hc32 => ?_)
  · replace h := jif_t hc32 h
    replace h := jw_inv h
    obtain ⟨o33, rfl, h⟩ := h
    refine j_sub [(0, .ref 1), (1, .int x1), (2, .int x2)] [0, 1, 2] rfl ?_
    exact f_X11_keep_J63_ok (Kp := fun o => Kp (.inr (o))) σ x1 x2 hn (fun r s q => hr r s q) _ h hK
  · replace h := jif_f hc32 h
    refine j_aload_n 0 dX11_keep_27 rfl rfl ?_
    refine j_get (ci := 10) 69 (.ref 40) jC_10 dX11_keep_28 kg_RX11_135 rfl (okM_1 _) (shM_1 _) (fvM_1_69 _) ?_
    refine j_iload_n 2 dX11_keep_31 rfl rfl ?_
    refine j_iload_n 3 dX11_keep_32 rfl rfl ?_
    refine j_iadd dX11_keep_33 ?_
    refine j_aload_n 0 dX11_keep_34 rfl rfl ?_
    refine j_get (ci := 10) 11 (.ref 9) jC_10 dX11_keep_35 kg_RX11_31 rfl (okM_1 _) (shM_1 _) (fvM_1_11 _) ?_
    refine j_iload_n 3 dX11_keep_38 rfl rfl ?_
    replace h := bG_inv h
    obtain ⟨hi34, h⟩ := h
    refine j_iaload dX11_keep_39 (okM_9 _) (shM_9 _) (jin_spec hi34) ?_
    replace h := bG_inv h
    obtain ⟨hi35, h⟩ := h
    refine j_iastore dX11_keep_40 (okM_40 _) (shM_40 _) (jin_spec hi35) ?_
    replace h := bV_inv h
    obtain ⟨σ36, eσ36, h⟩ := h
    refine j_mem (congrArg eM eσ36) ?_
    refine j_aload_n 0 dX11_keep_41 rfl rfl ?_
    refine j_get (ci := 10) 69 (.ref 40) jC_10 dX11_keep_42 kg_RX11_135 rfl (okM_1 _) (shM_1 _) (fvM_1_69 _) ?_
    refine j_iload_n 2 dX11_keep_45 rfl rfl ?_
    refine j_iconst (v := 4) dX11_keep_46 (by decide) ?_
    refine j_iadd dX11_keep_47 ?_
    refine j_iload_n 3 dX11_keep_48 rfl rfl ?_
    refine j_iadd dX11_keep_49 ?_
    refine j_aload_n 0 dX11_keep_50 rfl rfl ?_
    refine j_get (ci := 10) 12 (.ref 10) jC_10 dX11_keep_51 kg_RX11_34 rfl (okM_1 _) (shM_1 _) (fvM_1_12 _) ?_
    refine j_iload_n 3 dX11_keep_54 rfl rfl ?_
    replace h := bG_inv h
    obtain ⟨hi37, h⟩ := h
    refine j_iaload dX11_keep_55 (okM_10 _) (shM_10 _) (jin_spec hi37) ?_
    replace h := bG_inv h
    obtain ⟨hi38, h⟩ := h
    refine j_iastore dX11_keep_56 (okM_40 _) (shM_40 _) (jin_spec hi38) ?_
    replace h := bV_inv h
    obtain ⟨σ39, eσ39, h⟩ := h
    refine j_mem (congrArg eM eσ39) ?_
    replace h := bV_inv h
    obtain ⟨v40, ev40, h⟩ := h
    refine j_iinc (v := v40) [(3, .int v40), (0, .ref 1), (1, .int x1), (2, .int x2)] 3 dX11_keep_57 rfl (by rw [ev40]; rfl) (Nat.le_of_ble_eq_true rfl) rfl ?_
    refine j_goto 22 dX11_keep_60 (by decide) ?_
    replace h := Option.some.inj h
    subst h
    refine j_sub [(0, .ref 1), (1, .int x1), (2, .int x2), (3, .int v40)] [1, 2, 3, 0] rfl ?_
    exact hc0 _ hK
def f_X11_keep (σ : jS) (x1 : Int32) : Option (Int32 × jS) :=
  bC (f_X11_in (x1.toInt64) 0 1) fun r1 =>
  if r1 = 0 then (some (((-1001), σ)))
  else (bV ((140 : Int32) * x1) fun v2 =>
  jloop jFuel (fun s => f_X11_keep_B22 s.2 x1 v2 s.1) (0, σ))
set_option maxHeartbeats 1000000 in
set_option maxRecDepth 20000 in
theorem f_X11_keep_ok {g : Bool} {rv : Option Value} {μ' : jM} (σ : jS) (x1 : Int32) {Kp : (Int32 × jS) → Prop} (hn : Nat.ble nM μ'.1 = true ∧ Nat.ble wM μ'.2.1 = true) (hr : ∀ (r : Int32) (s : jS), Kp ((r, s)) → rv = some (.int r) ∧ μ' = eM s) (o : (Int32 × jS)) (h : f_X11_keep σ x1 = some o) (hK : Kp o) : J yX11_keep cX11_keep 4 (some .int) 2 g rv μ' 0 [(0, .ref 1), (1, .int x1)] [] (eM σ) := by
  unfold f_X11_keep at h
  refine j_iload_n 1 dX11_keep_0 rfl rfl ?_
  refine j_i2l dX11_keep_1 ?_
  refine j_lconst (v := 0) dX11_keep_2 (by decide) ?_
  refine j_lconst (v := 1) dX11_keep_3 (by decide) ?_
  replace h := bC_inv h
  obtain ⟨r41, cr41, h⟩ := h
  refine j_callS (st1 := .int r41 :: _) (c_X11_in g _ cr41) jy_X11_in kt_yX11_in kl_RX11_144 dX11_keep_4 rfl rfl rfl rfl (jbr _) (jbr _) hn.1 hn.2 (Or.inr rfl) rfl ?_
  refine j_if_ne 14 dX11_keep_7 (by decide) (fun hc42 => ?_) (fun hc42 => ?_)
  · replace h := jif_f hc42 h
    refine j_sipush (v := 140) dX11_keep_14 (by decide) ?_
    refine j_iload_n 1 dX11_keep_17 rfl rfl ?_
    refine j_imul dX11_keep_18 ?_
    replace h := bV_inv h
    obtain ⟨v43, ev43, h⟩ := h
    refine j_nmi ev43 ?_
    refine j_istore_n [(2, .int v43), (0, .ref 1), (1, .int x1)] dX11_keep_19 rfl (Nat.le_of_ble_eq_true rfl) rfl ?_
    refine j_iconst (v := 0) dX11_keep_20 (by decide) ?_
    refine j_istore_n [(3, .int 0), (2, .int v43), (0, .ref 1), (1, .int x1)] dX11_keep_21 rfl (Nat.le_of_ble_eq_true rfl) rfl ?_
    refine j_sub [(0, .ref 1), (1, .int x1), (2, .int v43), (3, .int 0)] [2, 3, 1, 0] rfl ?_
    exact jloop_ok (fun s => f_X11_keep_B22 s.2 x1 v43 s.1) (fun s => J yX11_keep cX11_keep 4 (some .int) 2 g rv μ' 22 [(0, .ref 1), (1, .int x1), (2, .int v43), (3, .int s.1)] [] (eM s.2)) Kp (fun s o hb hk => f_X11_keep_B22_ok (Kp := jsum (fun s => J yX11_keep cX11_keep 4 (some .int) 2 g rv μ' 22 [(0, .ref 1), (1, .int x1), (2, .int v43), (3, .int s.1)] [] (eM s.2)) Kp) s.2 x1 v43 s.1 hn (fun r s q => hr r s q) (fun s q => q) o hb hk) jFuel _ _ h hK
  · replace h := jif_t hc42 h
    refine j_sipush (v := (-1001)) dX11_keep_10 (by decide) ?_
    replace h := Option.some.inj h
    subst h
    obtain ⟨hr1, hr2⟩ := hr _ _ hK
    exact j_iret dX11_keep_13 hr1 hr2
theorem c_X11_keep (g : Bool) {σ : jS} {x1 : Int32} {r : Int32} {σ2 : jS} (h : f_X11_keep σ x1 = some (r, σ2)) : Cn yX11_keep cX11_keep 4 (some .int) 2 g [.ref 1, .int x1] (eM σ) (some (.int r)) (eM σ2) :=
  Cn_of (by decide) (Nat.le_refl _) (Nat.le_refl _) (Nat.le_of_ble_eq_true rfl) (f_X11_keep_ok (Kp := (fun o => o = (r, σ2))) σ x1 ⟨jbr _, jbr _⟩ (fun r2 s2 q => by cases q; exact ⟨rfl, rfl⟩) _ h rfl)
def f_X11_goBack_J170 (σ : jS) : Option (Int32 × jS) :=
  some ((1, σ))
set_option maxHeartbeats 1000000 in
set_option maxRecDepth 20000 in
theorem f_X11_goBack_J170_ok {g : Bool} {rv : Option Value} {μ' : jM} (σ : jS) {Kp : (Int32 × jS) → Prop} (hn : Nat.ble nM μ'.1 = true ∧ Nat.ble wM μ'.2.1 = true) (hr : ∀ (r : Int32) (s : jS), Kp ((r, s)) → rv = some (.int r) ∧ μ' = eM s) (o : (Int32 × jS)) (h : f_X11_goBack_J170 σ = some o) (hK : Kp o) : J yX11_goBack cX11_goBack 4 (some .int) 2 g rv μ' 170 [] [] (eM σ) := by
  unfold f_X11_goBack_J170 at h
  refine j_iconst (v := 1) dX11_goBack_170 (by decide) ?_
  replace h := Option.some.inj h
  subst h
  obtain ⟨hr1, hr2⟩ := hr _ _ hK
  exact j_iret dX11_goBack_171 hr1 hr2
def f_X11_goBack_B139 (σ : jS) (x2 : Int32) (x3 : Int32) : Option ((Int32 × jS) ⊕ (Int32 × jS)) :=
  if (gI σ 1 6) ≤ x3 then (jw (f_X11_goBack_J170 σ))
  else (bG (jin ((x2 + (12 : Int32)) + x3) 280) (
  bG (jin x3 120) (
  bV (sI σ 6 (ix x3) (gI σ 40 (ix ((x2 + (12 : Int32)) + x3)))) fun σ7 =>
  bV (x3 + 1) fun v8 =>
  some (.inl (v8, σ7)))))
set_option maxHeartbeats 1000000 in
set_option maxRecDepth 20000 in
theorem f_X11_goBack_B139_ok {g : Bool} {rv : Option Value} {μ' : jM} (σ : jS) (x2 : Int32) (x3 : Int32) {Kp : ((Int32 × jS) ⊕ (Int32 × jS)) → Prop} (hn : Nat.ble nM μ'.1 = true ∧ Nat.ble wM μ'.2.1 = true) (hr : ∀ (r : Int32) (s : jS), Kp (.inr ((r, s))) → rv = some (.int r) ∧ μ' = eM s) (hc0 : ∀ s : (Int32 × jS), Kp (.inl s) → J yX11_goBack cX11_goBack 4 (some .int) 2 g rv μ' 139 [(0, .ref 1), (2, .int x2), (3, .int s.1)] [] (eM s.2)) (o : ((Int32 × jS) ⊕ (Int32 × jS))) (h : f_X11_goBack_B139 σ x2 x3 = some o) (hK : Kp o) : J yX11_goBack cX11_goBack 4 (some .int) 2 g rv μ' 139 [(0, .ref 1), (2, .int x2), (3, .int x3)] [] (eM σ) := by
  unfold f_X11_goBack_B139 at h
  refine j_iload_n 2 dX11_goBack_139 rfl rfl ?_
  refine j_aload_n 0 dX11_goBack_140 rfl rfl ?_
  refine j_get (ci := 10) 6 (.int (gI σ 1 6)) jC_10 dX11_goBack_141 kg_RX11_243 rfl (okM_1 _) (shM_1 _) (fvM_1_6 _) ?_
  refine j_icmp_ge 170 dX11_goBack_144 (by decide) (fun hc9 => ?_) (fun hc9 => ?_)
  · replace h := jif_t hc9 h
    replace h := jw_inv h
    obtain ⟨o10, rfl, h⟩ := h
    refine j_sub [] [] rfl ?_
    exact f_X11_goBack_J170_ok (Kp := fun o => Kp (.inr (o))) σ hn (fun r s q => hr r s q) _ h hK
  · replace h := jif_f hc9 h
    refine j_aload_n 0 dX11_goBack_147 rfl rfl ?_
    refine j_get (ci := 10) 7 (.ref 6) jC_10 dX11_goBack_148 kg_RX11_22 rfl (okM_1 _) (shM_1 _) (fvM_1_7 _) ?_
    refine j_iload_n 2 dX11_goBack_151 rfl rfl ?_
    refine j_aload_n 0 dX11_goBack_152 rfl rfl ?_
    refine j_get (ci := 10) 69 (.ref 40) jC_10 dX11_goBack_153 kg_RX11_135 rfl (okM_1 _) (shM_1 _) (fvM_1_69 _) ?_
    refine j_iload_n 1 dX11_goBack_156 rfl rfl ?_
    refine j_bipush (v := 12) dX11_goBack_157 (by decide) ?_
    refine j_iadd dX11_goBack_159 ?_
    refine j_iload_n 2 dX11_goBack_160 rfl rfl ?_
    refine j_iadd dX11_goBack_161 ?_
    replace h := bG_inv h
    obtain ⟨hi11, h⟩ := h
    refine j_iaload dX11_goBack_162 (okM_40 _) (shM_40 _) (jin_spec hi11) ?_
    replace h := bG_inv h
    obtain ⟨hi12, h⟩ := h
    refine j_iastore dX11_goBack_163 (okM_6 _) (shM_6 _) (jin_spec hi12) ?_
    replace h := bV_inv h
    obtain ⟨σ13, eσ13, h⟩ := h
    refine j_mem (congrArg eM eσ13) ?_
    replace h := bV_inv h
    obtain ⟨v14, ev14, h⟩ := h
    refine j_iinc (v := v14) [(3, .int v14), (0, .ref 1), (2, .int x2)] 2 dX11_goBack_164 rfl (by rw [ev14]; rfl) (Nat.le_of_ble_eq_true rfl) rfl ?_
    refine j_goto 139 dX11_goBack_167 (by decide) ?_
    replace h := Option.some.inj h
    subst h
    refine j_sub [(0, .ref 1), (2, .int x2), (3, .int v14)] [1, 2, 0] rfl ?_
    exact hc0 _ hK
def f_X11_goBack_J108 (σ : jS) (x2 : Int32) (y0 : Int32) : Option (Int32 × jS) :=
  bG (jb y0) (
  bV (sI σ 1 14 y0) fun σ4 =>
  bG (jin (x2 + (10 : Int32)) 280) (
  bV (sI σ4 1 36 (gI σ4 40 (ix (x2 + (10 : Int32))))) fun σ5 =>
  bG (jin (x2 + (11 : Int32)) 280) (
  bV (sI σ5 1 6 (gI σ5 40 (ix (x2 + (11 : Int32))))) fun σ6 =>
  jloop jFuel (fun s => f_X11_goBack_B139 s.2 x2 s.1) (0, σ6))))
set_option maxHeartbeats 1000000 in
set_option maxRecDepth 20000 in
theorem f_X11_goBack_J108_ok {g : Bool} {rv : Option Value} {μ' : jM} (σ : jS) (x2 : Int32) (y0 : Int32) {Kp : (Int32 × jS) → Prop} (hn : Nat.ble nM μ'.1 = true ∧ Nat.ble wM μ'.2.1 = true) (hr : ∀ (r : Int32) (s : jS), Kp ((r, s)) → rv = some (.int r) ∧ μ' = eM s) (o : (Int32 × jS)) (h : f_X11_goBack_J108 σ x2 y0 = some o) (hK : Kp o) : J yX11_goBack cX11_goBack 4 (some .int) 2 g rv μ' 108 [(0, .ref 1), (2, .int x2)] [.int y0, .ref 1] (eM σ) := by
  unfold f_X11_goBack_J108 at h
  replace h := bG_inv h
  obtain ⟨hb15, h⟩ := h
  replace h := bV_inv h
  obtain ⟨σ16, eσ16, h⟩ := h
  refine j_putI 14 jC_10 dX11_goBack_108 kg_RX11_267 (Or.inl ff_10_14) rfl fk_10_14 (fn_10_14 hb15) (okM_1 _) (shM_1 _) ?_
  refine j_mem (congrArg eM eσ16) ?_
  refine j_aload_n 0 dX11_goBack_111 rfl rfl ?_
  refine j_aload_n 0 dX11_goBack_112 rfl rfl ?_
  refine j_get (ci := 10) 69 (.ref 40) jC_10 dX11_goBack_113 kg_RX11_135 rfl (okM_1 _) (shM_1 _) (fvM_1_69 _) ?_
  refine j_iload_n 1 dX11_goBack_116 rfl rfl ?_
  refine j_bipush (v := 10) dX11_goBack_117 (by decide) ?_
  refine j_iadd dX11_goBack_119 ?_
  replace h := bG_inv h
  obtain ⟨hi17, h⟩ := h
  refine j_iaload dX11_goBack_120 (okM_40 _) (shM_40 _) (jin_spec hi17) ?_
  replace h := bV_inv h
  obtain ⟨σ18, eσ18, h⟩ := h
  refine j_putI 36 jC_10 dX11_goBack_121 kg_RX11_318 (Or.inl ff_10_36) rfl fk_10_36 (fn_10_36 _) (okM_1 _) (shM_1 _) ?_
  refine j_mem (congrArg eM eσ18) ?_
  refine j_aload_n 0 dX11_goBack_124 rfl rfl ?_
  refine j_aload_n 0 dX11_goBack_125 rfl rfl ?_
  refine j_get (ci := 10) 69 (.ref 40) jC_10 dX11_goBack_126 kg_RX11_135 rfl (okM_1 _) (shM_1 _) (fvM_1_69 _) ?_
  refine j_iload_n 1 dX11_goBack_129 rfl rfl ?_
  refine j_bipush (v := 11) dX11_goBack_130 (by decide) ?_
  refine j_iadd dX11_goBack_132 ?_
  replace h := bG_inv h
  obtain ⟨hi19, h⟩ := h
  refine j_iaload dX11_goBack_133 (okM_40 _) (shM_40 _) (jin_spec hi19) ?_
  replace h := bV_inv h
  obtain ⟨σ20, eσ20, h⟩ := h
  refine j_putI 6 jC_10 dX11_goBack_134 kg_RX11_243 (Or.inl ff_10_6) rfl fk_10_6 (fn_10_6 _) (okM_1 _) (shM_1 _) ?_
  refine j_mem (congrArg eM eσ20) ?_
  refine j_iconst (v := 0) dX11_goBack_137 (by decide) ?_
  refine j_istore_n [(3, .int 0), (0, .ref 1), (2, .int x2)] dX11_goBack_138 rfl (Nat.le_of_ble_eq_true rfl) rfl ?_
  refine j_sub [(0, .ref 1), (2, .int x2), (3, .int 0)] [1, 2, 0] rfl ?_
  exact jloop_ok (fun s => f_X11_goBack_B139 s.2 x2 s.1) (fun s => J yX11_goBack cX11_goBack 4 (some .int) 2 g rv μ' 139 [(0, .ref 1), (2, .int x2), (3, .int s.1)] [] (eM s.2)) Kp (fun s o hb hk => f_X11_goBack_B139_ok (Kp := jsum (fun s => J yX11_goBack cX11_goBack 4 (some .int) 2 g rv μ' 139 [(0, .ref 1), (2, .int x2), (3, .int s.1)] [] (eM s.2)) Kp) s.2 x2 s.1 hn (fun r s q => hr r s q) (fun s q => q) o hb hk) jFuel _ _ h hK
def f_X11_goBack_J76 (σ : jS) (x2 : Int32) : Option (Int32 × jS) :=
  bG (jin (x2 + (8 : Int32)) 280) (
  bV (sI σ 1 13 (gI σ 40 (ix (x2 + (8 : Int32))))) fun σ3 =>
  bG (jin (x2 + (9 : Int32)) 280) (
  if (gI σ3 40 (ix (x2 + (9 : Int32)))) = 1 then (f_X11_goBack_J108 σ3 x2 1)
  else (f_X11_goBack_J108 σ3 x2 0)))
set_option maxHeartbeats 1000000 in
set_option maxRecDepth 20000 in
theorem f_X11_goBack_J76_ok {g : Bool} {rv : Option Value} {μ' : jM} (σ : jS) (x2 : Int32) {Kp : (Int32 × jS) → Prop} (hn : Nat.ble nM μ'.1 = true ∧ Nat.ble wM μ'.2.1 = true) (hr : ∀ (r : Int32) (s : jS), Kp ((r, s)) → rv = some (.int r) ∧ μ' = eM s) (o : (Int32 × jS)) (h : f_X11_goBack_J76 σ x2 = some o) (hK : Kp o) : J yX11_goBack cX11_goBack 4 (some .int) 2 g rv μ' 76 [(0, .ref 1), (2, .int x2)] [] (eM σ) := by
  unfold f_X11_goBack_J76 at h
  refine j_aload_n 0 dX11_goBack_76 rfl rfl ?_
  refine j_aload_n 0 dX11_goBack_77 rfl rfl ?_
  refine j_get (ci := 10) 69 (.ref 40) jC_10 dX11_goBack_78 kg_RX11_135 rfl (okM_1 _) (shM_1 _) (fvM_1_69 _) ?_
  refine j_iload_n 1 dX11_goBack_81 rfl rfl ?_
  refine j_bipush (v := 8) dX11_goBack_82 (by decide) ?_
  refine j_iadd dX11_goBack_84 ?_
  replace h := bG_inv h
  obtain ⟨hi21, h⟩ := h
  refine j_iaload dX11_goBack_85 (okM_40 _) (shM_40 _) (jin_spec hi21) ?_
  replace h := bV_inv h
  obtain ⟨σ22, eσ22, h⟩ := h
  refine j_putI 13 jC_10 dX11_goBack_86 kg_RX11_264 (Or.inl ff_10_13) rfl fk_10_13 (fn_10_13 _) (okM_1 _) (shM_1 _) ?_
  refine j_mem (congrArg eM eσ22) ?_
  refine j_aload_n 0 dX11_goBack_89 rfl rfl ?_
  refine j_aload_n 0 dX11_goBack_90 rfl rfl ?_
  refine j_get (ci := 10) 69 (.ref 40) jC_10 dX11_goBack_91 kg_RX11_135 rfl (okM_1 _) (shM_1 _) (fvM_1_69 _) ?_
  refine j_iload_n 1 dX11_goBack_94 rfl rfl ?_
  refine j_bipush (v := 9) dX11_goBack_95 (by decide) ?_
  refine j_iadd dX11_goBack_97 ?_
  replace h := bG_inv h
  obtain ⟨hi23, h⟩ := h
  refine j_iaload dX11_goBack_98 (okM_40 _) (shM_40 _) (jin_spec hi23) ?_
  refine j_iconst (v := 1) dX11_goBack_99 (by decide) ?_
  refine j_icmp_ne 107 dX11_goBack_100 (by decide) (fun hc24 => ?_) (fun hc24 => ?_)
  · replace h := jif_f hc24 h
    refine j_iconst (v := 0) dX11_goBack_107 (by decide) ?_
    exact f_X11_goBack_J108_ok σ22 x2 0 hn hr _ h hK
  · replace h := jif_t hc24 h
    refine j_iconst (v := 1) dX11_goBack_103 (by decide) ?_
    refine j_goto 108 dX11_goBack_104 (by decide) ?_
    exact f_X11_goBack_J108_ok σ22 x2 1 hn hr _ h hK
def f_X11_goBack_B35 (σ : jS) (x2 : Int32) (x3 : Int32) : Option ((Int32 × jS) ⊕ (Int32 × jS)) :=
  if 4 ≤ x3 then (jw (f_X11_goBack_J76 σ x2))
  else (bG (jin (x2 + x3) 280) (
  bG (jin x3 4) (
  bV (sI σ 9 (ix x3) (gI σ 40 (ix (x2 + x3)))) fun σ25 =>
  bG (jin ((x2 + (4 : Int32)) + x3) 280) (
  bG (jin x3 4) (
  bV (sI σ25 10 (ix x3) (gI σ25 40 (ix ((x2 + (4 : Int32)) + x3)))) fun σ26 =>
  bV (x3 + 1) fun v27 =>
  some (.inl (v27, σ26)))))))
set_option maxHeartbeats 1000000 in
set_option maxRecDepth 20000 in
theorem f_X11_goBack_B35_ok {g : Bool} {rv : Option Value} {μ' : jM} (σ : jS) (x2 : Int32) (x3 : Int32) {Kp : ((Int32 × jS) ⊕ (Int32 × jS)) → Prop} (hn : Nat.ble nM μ'.1 = true ∧ Nat.ble wM μ'.2.1 = true) (hr : ∀ (r : Int32) (s : jS), Kp (.inr ((r, s))) → rv = some (.int r) ∧ μ' = eM s) (hc0 : ∀ s : (Int32 × jS), Kp (.inl s) → J yX11_goBack cX11_goBack 4 (some .int) 2 g rv μ' 35 [(0, .ref 1), (2, .int x2), (3, .int s.1)] [] (eM s.2)) (o : ((Int32 × jS) ⊕ (Int32 × jS))) (h : f_X11_goBack_B35 σ x2 x3 = some o) (hK : Kp o) : J yX11_goBack cX11_goBack 4 (some .int) 2 g rv μ' 35 [(0, .ref 1), (2, .int x2), (3, .int x3)] [] (eM σ) := by
  unfold f_X11_goBack_B35 at h
  refine j_iload_n 2 dX11_goBack_35 rfl rfl ?_
  refine j_iconst (v := 4) dX11_goBack_36 (by decide) ?_
  refine j_icmp_ge 76 dX11_goBack_37 (by decide) (fun hc28 => ?_) (fun hc28 => ?_)
  · replace h := jif_t hc28 h
    replace h := jw_inv h
    obtain ⟨o29, rfl, h⟩ := h
    refine j_sub [(0, .ref 1), (2, .int x2)] [0, 1] rfl ?_
    exact f_X11_goBack_J76_ok (Kp := fun o => Kp (.inr (o))) σ x2 hn (fun r s q => hr r s q) _ h hK
  · replace h := jif_f hc28 h
    refine j_aload_n 0 dX11_goBack_40 rfl rfl ?_
    refine j_get (ci := 10) 11 (.ref 9) jC_10 dX11_goBack_41 kg_RX11_31 rfl (okM_1 _) (shM_1 _) (fvM_1_11 _) ?_
    refine j_iload_n 2 dX11_goBack_44 rfl rfl ?_
    refine j_aload_n 0 dX11_goBack_45 rfl rfl ?_
    refine j_get (ci := 10) 69 (.ref 40) jC_10 dX11_goBack_46 kg_RX11_135 rfl (okM_1 _) (shM_1 _) (fvM_1_69 _) ?_
    refine j_iload_n 1 dX11_goBack_49 rfl rfl ?_
    refine j_iload_n 2 dX11_goBack_50 rfl rfl ?_
    refine j_iadd dX11_goBack_51 ?_
    replace h := bG_inv h
    obtain ⟨hi30, h⟩ := h
    refine j_iaload dX11_goBack_52 (okM_40 _) (shM_40 _) (jin_spec hi30) ?_
    replace h := bG_inv h
    obtain ⟨hi31, h⟩ := h
    refine j_iastore dX11_goBack_53 (okM_9 _) (shM_9 _) (jin_spec hi31) ?_
    replace h := bV_inv h
    obtain ⟨σ32, eσ32, h⟩ := h
    refine j_mem (congrArg eM eσ32) ?_
    refine j_aload_n 0 dX11_goBack_54 rfl rfl ?_
    refine j_get (ci := 10) 12 (.ref 10) jC_10 dX11_goBack_55 kg_RX11_34 rfl (okM_1 _) (shM_1 _) (fvM_1_12 _) ?_
    refine j_iload_n 2 dX11_goBack_58 rfl rfl ?_
    refine j_aload_n 0 dX11_goBack_59 rfl rfl ?_
    refine j_get (ci := 10) 69 (.ref 40) jC_10 dX11_goBack_60 kg_RX11_135 rfl (okM_1 _) (shM_1 _) (fvM_1_69 _) ?_
    refine j_iload_n 1 dX11_goBack_63 rfl rfl ?_
    refine j_iconst (v := 4) dX11_goBack_64 (by decide) ?_
    refine j_iadd dX11_goBack_65 ?_
    refine j_iload_n 2 dX11_goBack_66 rfl rfl ?_
    refine j_iadd dX11_goBack_67 ?_
    replace h := bG_inv h
    obtain ⟨hi33, h⟩ := h
    refine j_iaload dX11_goBack_68 (okM_40 _) (shM_40 _) (jin_spec hi33) ?_
    replace h := bG_inv h
    obtain ⟨hi34, h⟩ := h
    refine j_iastore dX11_goBack_69 (okM_10 _) (shM_10 _) (jin_spec hi34) ?_
    replace h := bV_inv h
    obtain ⟨σ35, eσ35, h⟩ := h
    refine j_mem (congrArg eM eσ35) ?_
    replace h := bV_inv h
    obtain ⟨v36, ev36, h⟩ := h
    refine j_iinc (v := v36) [(3, .int v36), (0, .ref 1), (2, .int x2)] 2 dX11_goBack_70 rfl (by rw [ev36]; rfl) (Nat.le_of_ble_eq_true rfl) rfl ?_
    refine j_goto 35 dX11_goBack_73 (by decide) ?_
    replace h := Option.some.inj h
    subst h
    refine j_sub [(0, .ref 1), (2, .int x2), (3, .int v36)] [1, 2, 0] rfl ?_
    exact hc0 _ hK
def f_X11_goBack (σ : jS) (x1 : Int32) : Option (Int32 × jS) :=
  bC (f_X11_in (x1.toInt64) 0 1) fun r1 =>
  if r1 = 0 then (some (((-1001), σ)))
  else (bG (jin x1 2) (
  if (gI σ 41 (ix x1)) = 0 then (some (((-1003), σ)))
  else (bV ((140 : Int32) * x1) fun v2 =>
  jloop jFuel (fun s => f_X11_goBack_B35 s.2 v2 s.1) (0, σ))))
set_option maxHeartbeats 1000000 in
set_option maxRecDepth 20000 in
theorem f_X11_goBack_ok {g : Bool} {rv : Option Value} {μ' : jM} (σ : jS) (x1 : Int32) {Kp : (Int32 × jS) → Prop} (hn : Nat.ble nM μ'.1 = true ∧ Nat.ble wM μ'.2.1 = true) (hr : ∀ (r : Int32) (s : jS), Kp ((r, s)) → rv = some (.int r) ∧ μ' = eM s) (o : (Int32 × jS)) (h : f_X11_goBack σ x1 = some o) (hK : Kp o) : J yX11_goBack cX11_goBack 4 (some .int) 2 g rv μ' 0 [(0, .ref 1), (1, .int x1)] [] (eM σ) := by
  unfold f_X11_goBack at h
  refine j_iload_n 1 dX11_goBack_0 rfl rfl ?_
  refine j_i2l dX11_goBack_1 ?_
  refine j_lconst (v := 0) dX11_goBack_2 (by decide) ?_
  refine j_lconst (v := 1) dX11_goBack_3 (by decide) ?_
  replace h := bC_inv h
  obtain ⟨r37, cr37, h⟩ := h
  refine j_callS (st1 := .int r37 :: _) (c_X11_in g _ cr37) jy_X11_in kt_yX11_in kl_RX11_144 dX11_goBack_4 rfl rfl rfl rfl (jbr _) (jbr _) hn.1 hn.2 (Or.inr rfl) rfl ?_
  refine j_if_ne 14 dX11_goBack_7 (by decide) (fun hc38 => ?_) (fun hc38 => ?_)
  · replace h := jif_f hc38 h
    refine j_aload_n 0 dX11_goBack_14 rfl rfl ?_
    refine j_get (ci := 10) 70 (.ref 41) jC_10 dX11_goBack_15 kg_RX11_138 rfl (okM_1 _) (shM_1 _) (fvM_1_70 _) ?_
    refine j_iload_n 1 dX11_goBack_18 rfl rfl ?_
    replace h := bG_inv h
    obtain ⟨hi39, h⟩ := h
    refine j_baload dX11_goBack_19 (okM_41 _) (shM_41 _) (jin_spec hi39) ?_
    refine j_if_ne 27 dX11_goBack_20 (by decide) (fun hc40 => ?_) (fun hc40 => ?_)
    · replace h := jif_f hc40 h
      refine j_sipush (v := 140) dX11_goBack_27 (by decide) ?_
      refine j_iload_n 1 dX11_goBack_30 rfl rfl ?_
      refine j_imul dX11_goBack_31 ?_
      replace h := bV_inv h
      obtain ⟨v41, ev41, h⟩ := h
      refine j_nmi ev41 ?_
      refine j_istore_n [(2, .int v41), (0, .ref 1), (1, .int x1)] dX11_goBack_32 rfl (Nat.le_of_ble_eq_true rfl) rfl ?_
      refine j_iconst (v := 0) dX11_goBack_33 (by decide) ?_
      refine j_istore_n [(3, .int 0), (2, .int v41), (0, .ref 1), (1, .int x1)] dX11_goBack_34 rfl (Nat.le_of_ble_eq_true rfl) rfl ?_
      refine j_sub [(0, .ref 1), (2, .int v41), (3, .int 0)] [2, 1, 0] rfl ?_
      exact jloop_ok (fun s => f_X11_goBack_B35 s.2 v41 s.1) (fun s => J yX11_goBack cX11_goBack 4 (some .int) 2 g rv μ' 35 [(0, .ref 1), (2, .int v41), (3, .int s.1)] [] (eM s.2)) Kp (fun s o hb hk => f_X11_goBack_B35_ok (Kp := jsum (fun s => J yX11_goBack cX11_goBack 4 (some .int) 2 g rv μ' 35 [(0, .ref 1), (2, .int v41), (3, .int s.1)] [] (eM s.2)) Kp) s.2 v41 s.1 hn (fun r s q => hr r s q) (fun s q => q) o hb hk) jFuel _ _ h hK
    · replace h := jif_t hc40 h
      refine j_sipush (v := (-1003)) dX11_goBack_23 (by decide) ?_
      replace h := Option.some.inj h
      subst h
      obtain ⟨hr1, hr2⟩ := hr _ _ hK
      exact j_iret dX11_goBack_26 hr1 hr2
  · replace h := jif_t hc38 h
    refine j_sipush (v := (-1001)) dX11_goBack_10 (by decide) ?_
    replace h := Option.some.inj h
    subst h
    obtain ⟨hr1, hr2⟩ := hr _ _ hK
    exact j_iret dX11_goBack_13 hr1 hr2
theorem c_X11_goBack (g : Bool) {σ : jS} {x1 : Int32} {r : Int32} {σ2 : jS} (h : f_X11_goBack σ x1 = some (r, σ2)) : Cn yX11_goBack cX11_goBack 4 (some .int) 2 g [.ref 1, .int x1] (eM σ) (some (.int r)) (eM σ2) :=
  Cn_of (by decide) (Nat.le_refl _) (Nat.le_refl _) (Nat.le_of_ble_eq_true rfl) (f_X11_goBack_ok (Kp := (fun o => o = (r, σ2))) σ x1 ⟨jbr _, jbr _⟩ (fun r2 s2 q => by cases q; exact ⟨rfl, rfl⟩) _ h rfl)
