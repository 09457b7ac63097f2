def f_X5_readWord_J70 (σ : jS) : Option (Int32 × jS) :=
  some (((-1), σ))
set_option maxHeartbeats 1000000 in
set_option maxRecDepth 20000 in
theorem f_X5_readWord_J70_ok {g : Bool} {rv : Option Value} {μ' : jM} (σ : jS) {Kp : (Int32 × jS) → Prop} (hn : Nat.ble nX μ'.1 = true ∧ Nat.ble wX μ'.2.1 = true) (hr : ∀ (r : Int32) (s : jS), Kp ((r, s)) → rv = some (.int r) ∧ μ' = eX s) (o : (Int32 × jS)) (h : f_X5_readWord_J70 σ = some o) (hK : Kp o) : J yX5_readWord cX5_readWord 3 (some .int) 8 g rv μ' 70 [] [] (eX σ) := by
  unfold f_X5_readWord_J70 at h
  refine j_iconst (v := (-1)) dX5_readWord_70 (by decide) ?_
  replace h := Option.some.inj h
  subst h
  obtain ⟨hr1, hr2⟩ := hr _ _ hK
  exact j_iret dX5_readWord_71 hr1 hr2
def f_X5_readWord_J57 (σ : jS) (x1 : Int32) (x2 : Int32) : Option (Int32 × jS) :=
  bV (sI σ 2 4 x1) fun σ5 =>
  some ((x2, σ5))
set_option maxHeartbeats 1000000 in
set_option maxRecDepth 20000 in
theorem f_X5_readWord_J57_ok {g : Bool} {rv : Option Value} {μ' : jM} (σ : jS) (x1 : Int32) (x2 : Int32) {Kp : (Int32 × jS) → Prop} (hn : Nat.ble nX μ'.1 = true ∧ Nat.ble wX μ'.2.1 = true) (hr : ∀ (r : Int32) (s : jS), Kp ((r, s)) → rv = some (.int r) ∧ μ' = eX s) (o : (Int32 × jS)) (h : f_X5_readWord_J57 σ x1 x2 = some o) (hK : Kp o) : J yX5_readWord cX5_readWord 3 (some .int) 8 g rv μ' 57 [(0, .ref 2), (1, .int x1), (2, .int x2)] [] (eX σ) := by
  unfold f_X5_readWord_J57 at h
  refine j_aload_n 0 dX5_readWord_57 rfl rfl ?_
  refine j_iload_n 1 dX5_readWord_58 rfl rfl ?_
  replace h := bV_inv h
  obtain ⟨σ6, eσ6, h⟩ := h
  refine j_putI 4 jC_5 dX5_readWord_59 kg_RX5_36 (Or.inl ff_5_4) rfl fk_5_4 (fn_5_4 _) (okX_2 _) (shX_2 _) ?_
  refine j_mem (congrArg eX eσ6) ?_
  refine j_iload_n 2 dX5_readWord_62 rfl rfl ?_
  replace h := Option.some.inj h
  subst h
  obtain ⟨hr1, hr2⟩ := hr _ _ hK
  exact j_iret dX5_readWord_63 hr1 hr2
def f_X5_readWord_B36 (σ : jS) (x1 : Int32) (x2 : Int32) : Option ((Int32 × jS) ⊕ (Int32 × jS)) :=
  if 4 ≤ x2 then (jw (f_X5_readWord_J70 σ))
  else (bC (f_X5_spelling x2) fun r2 =>
  bC (f_X5_isSpelled σ r2 (gI σ 2 4) x1) fun r3 =>
  if r3 = 0 then (bV (x2 + 1) fun v4 =>
  some (.inl (v4, σ)))
  else (jw (f_X5_readWord_J57 σ x1 x2)))
set_option maxHeartbeats 1000000 in
set_option maxRecDepth 20000 in
theorem f_X5_readWord_B36_ok {g : Bool} {rv : Option Value} {μ' : jM} (σ : jS) (x1 : Int32) (x2 : Int32) {Kp : ((Int32 × jS) ⊕ (Int32 × jS)) → Prop} (hn : Nat.ble nX μ'.1 = true ∧ Nat.ble wX μ'.2.1 = true) (hr : ∀ (r : Int32) (s : jS), Kp (.inr ((r, s))) → rv = some (.int r) ∧ μ' = eX s) (hc0 : ∀ s : (Int32 × jS), Kp (.inl s) → J yX5_readWord cX5_readWord 3 (some .int) 8 g rv μ' 36 [(0, .ref 2), (1, .int x1), (2, .int s.1)] [] (eX s.2)) (o : ((Int32 × jS) ⊕ (Int32 × jS))) (h : f_X5_readWord_B36 σ x1 x2 = some o) (hK : Kp o) : J yX5_readWord cX5_readWord 3 (some .int) 8 g rv μ' 36 [(0, .ref 2), (1, .int x1), (2, .int x2)] [] (eX σ) := by
  unfold f_X5_readWord_B36 at h
  refine j_iload_n 2 dX5_readWord_36 rfl rfl ?_
  refine j_iconst (v := 4) dX5_readWord_37 (by decide) ?_
  refine j_icmp_ge 70 dX5_readWord_38 (by decide) (fun hc7 => ?_) (fun hc7 => ?_)
  · replace h := jif_t hc7 h
    replace h := jw_inv h
    obtain ⟨o8, rfl, h⟩ := h
    refine j_sub [] [] rfl ?_
    exact f_X5_readWord_J70_ok (Kp := fun o => Kp (.inr (o))) σ hn (fun r s q => hr r s q) _ h hK
  · replace h := jif_f hc7 h
    refine j_aload_n 0 dX5_readWord_41 rfl rfl ?_
    refine j_iload_n 2 dX5_readWord_42 rfl rfl ?_
    replace h := bC_inv h
    obtain ⟨r9, cr9, h⟩ := h
    refine j_callS (st1 := .ref r9 :: _) (c_X5_spelling g _ cr9) jy_X5_spelling kt_yX5_spelling kl_RX5_94 dX5_readWord_43 rfl rfl rfl rfl (jbr _) (jbr _) hn.1 hn.2 (Or.inr rfl) rfl ?_
    refine j_aload_n 0 dX5_readWord_46 rfl rfl ?_
    refine j_get (ci := 5) 4 (.int (gI σ 2 4)) jC_5 dX5_readWord_47 kg_RX5_36 rfl (okX_2 _) (shX_2 _) (fvX_2_4 _) ?_
    refine j_iload_n 1 dX5_readWord_50 rfl rfl ?_
    replace h := bC_inv h
    obtain ⟨r10, cr10, h⟩ := h
    refine j_callV (ci := 5) (st1 := .int r10 :: _) (c_X5_isSpelled g cr10) jy_X5_isSpelled ki_yX5_isSpelled ks_yX5_isSpelled kl_RX5_98 dX5_readWord_51 rfl (okX_2 _) (shX_2 _) rfl rfl rfl rfl (jbr _) (jbr _) hn.1 hn.2 (Or.inr rfl) rfl ?_
    refine j_if_eq 64 dX5_readWord_54 (by decide) (fun hc11 => ?_) (fun hc11 => ?_)
    · replace h := jif_t hc11 h
      replace h := bV_inv h
      obtain ⟨v12, ev12, h⟩ := h
      refine j_iinc (v := v12) [(2, .int v12), (0, .ref 2), (1, .int x1)] 2 dX5_readWord_64 rfl (by rw [ev12]; rfl) (Nat.le_of_ble_eq_true rfl) rfl ?_
      refine j_goto 36 dX5_readWord_67 (by decide) ?_
      replace h := Option.some.inj h
      subst h
      refine j_sub [(0, .ref 2), (1, .int x1), (2, .int v12)] [1, 2, 0] rfl ?_
      exact hc0 _ hK
    · replace h := jif_f hc11 h
      replace h := jw_inv h
      obtain ⟨o13, rfl, h⟩ := h
      exact f_X5_readWord_J57_ok (Kp := fun o => Kp (.inr (o))) σ x1 x2 hn (fun r s q => hr r s q) _ h hK
def f_X5_readWord_J34 (σ : jS) (x1 : Int32) : Option (Int32 × jS) :=
  jloop jFuel (fun s => f_X5_readWord_B36 s.2 x1 s.1) (0, σ)
set_option maxHeartbeats 1000000 in
set_option maxRecDepth 20000 in
theorem f_X5_readWord_J34_ok {g : Bool} {rv : Option Value} {μ' : jM} (σ : jS) (x1 : Int32) {Kp : (Int32 × jS) → Prop} (hn : Nat.ble nX μ'.1 = true ∧ Nat.ble wX μ'.2.1 = true) (hr : ∀ (r : Int32) (s : jS), Kp ((r, s)) → rv = some (.int r) ∧ μ' = eX s) (o : (Int32 × jS)) (h : f_X5_readWord_J34 σ x1 = some o) (hK : Kp o) : J yX5_readWord cX5_readWord 3 (some .int) 8 g rv μ' 34 [(0, .ref 2), (1, .int x1)] [] (eX σ) := by
  unfold f_X5_readWord_J34 at h
  refine j_iconst (v := 0) dX5_readWord_34 (by decide) ?_
  refine j_istore_n [(2, .int 0), (0, .ref 2), (1, .int x1)] dX5_readWord_35 rfl (Nat.le_of_ble_eq_true rfl) rfl ?_
  refine j_sub [(0, .ref 2), (1, .int x1), (2, .int 0)] [1, 2, 0] rfl ?_
  exact jloop_ok (fun s => f_X5_readWord_B36 s.2 x1 s.1) (fun s => J yX5_readWord cX5_readWord 3 (some .int) 8 g rv μ' 36 [(0, .ref 2), (1, .int x1), (2, .int s.1)] [] (eX s.2)) Kp (fun s o hb hk => f_X5_readWord_B36_ok (Kp := jsum (fun s => J yX5_readWord cX5_readWord 3 (some .int) 8 g rv μ' 36 [(0, .ref 2), (1, .int x1), (2, .int s.1)] [] (eX s.2)) Kp) s.2 x1 s.1 hn (fun r s q => hr r s q) (fun s q => q) o hb hk) jFuel _ _ h hK
def f_X5_readWord_B7 (σ : jS) (x1 : Int32) (x2 : Int32) : Option ((Int32 × Int32 × jS) ⊕ (Int32 × jS)) :=
  if 500 ≤ x2 then (jw (f_X5_readWord_J34 σ x1))
  else (bC (f_X5_sign σ x1) fun r14 =>
  bC (f_X5_isLetter r14) fun r15 =>
  if r15 = 0 then (jw (f_X5_readWord_J34 σ x1))
  else (bV (x1 + 1) fun v16 =>
  bV (x2 + 1) fun v17 =>
  some (.inl (v16, v17, σ))))
set_option maxHeartbeats 1000000 in
set_option maxRecDepth 20000 in
theorem f_X5_readWord_B7_ok {g : Bool} {rv : Option Value} {μ' : jM} (σ : jS) (x1 : Int32) (x2 : Int32) {Kp : ((Int32 × Int32 × jS) ⊕ (Int32 × jS)) → Prop} (hn : Nat.ble nX μ'.1 = true ∧ Nat.ble wX μ'.2.1 = true) (hr : ∀ (r : Int32) (s : jS), Kp (.inr ((r, s))) → rv = some (.int r) ∧ μ' = eX s) (hc0 : ∀ s : (Int32 × Int32 × jS), Kp (.inl s) → J yX5_readWord cX5_readWord 3 (some .int) 8 g rv μ' 7 [(0, .ref 2), (1, .int s.1), (2, .int s.2.1)] [] (eX s.2.2)) (o : ((Int32 × Int32 × jS) ⊕ (Int32 × jS))) (h : f_X5_readWord_B7 σ x1 x2 = some o) (hK : Kp o) : J yX5_readWord cX5_readWord 3 (some .int) 8 g rv μ' 7 [(0, .ref 2), (1, .int x1), (2, .int x2)] [] (eX σ) := by
  unfold f_X5_readWord_B7 at h
  refine j_iload_n 2 dX5_readWord_7 rfl rfl ?_
  refine j_sipush (v := 500) dX5_readWord_8 (by decide) ?_
  refine j_icmp_ge 34 dX5_readWord_11 (by decide) (fun hc18 => ?_) (fun hc18 => ?_)
  · replace h := jif_t hc18 h
    replace h := jw_inv h
    obtain ⟨o19, rfl, h⟩ := h
    refine j_sub [(0, .ref 2), (1, .int x1)] [0, 1] rfl ?_
    exact f_X5_readWord_J34_ok (Kp := fun o => Kp (.inr (o))) σ x1 hn (fun r s q => hr r s q) _ h hK
  · replace h := jif_f hc18 h
    refine j_aload_n 0 dX5_readWord_14 rfl rfl ?_
    refine j_iload_n 1 dX5_readWord_15 rfl rfl ?_
    replace h := bC_inv h
    obtain ⟨r20, cr20, h⟩ := h
    refine j_callV (ci := 5) (st1 := .int r20 :: _) (c_X5_sign g cr20) jy_X5_sign ki_yX5_sign ks_yX5_sign kl_RX5_88 dX5_readWord_16 rfl (okX_2 _) (shX_2 _) rfl rfl rfl rfl (jbr _) (jbr _) hn.1 hn.2 (Or.inr rfl) rfl ?_
    replace h := bC_inv h
    obtain ⟨r21, cr21, h⟩ := h
    refine j_callS (st1 := .int r21 :: _) (c_X5_isLetter g _ cr21) jy_X5_isLetter kt_yX5_isLetter kl_RX5_91 dX5_readWord_19 rfl rfl rfl rfl (jbr _) (jbr _) hn.1 hn.2 (Or.inr rfl) rfl ?_
    refine j_if_eq 34 dX5_readWord_22 (by decide) (fun hc22 => ?_) (fun hc22 => ?_)
    · replace h := jif_t hc22 h
      replace h := jw_inv h
      obtain ⟨o23, rfl, h⟩ := h
      refine j_sub [(0, .ref 2), (1, .int x1)] [0, 1] rfl ?_
      exact f_X5_readWord_J34_ok (Kp := fun o => Kp (.inr (o))) σ x1 hn (fun r s q => hr r s q) _ h hK
    · replace h := jif_f hc22 h
      replace h := bV_inv h
      obtain ⟨v24, ev24, h⟩ := h
      refine j_iinc (v := v24) [(1, .int v24), (0, .ref 2), (2, .int x2)] 1 dX5_readWord_25 rfl (by rw [ev24]; rfl) (Nat.le_of_ble_eq_true rfl) rfl ?_
      replace h := bV_inv h
      obtain ⟨v25, ev25, h⟩ := h
      refine j_iinc (v := v25) [(2, .int v25), (1, .int v24), (0, .ref 2)] 2 dX5_readWord_28 rfl (by rw [ev25]; rfl) (Nat.le_of_ble_eq_true rfl) rfl ?_
      refine j_goto 7 dX5_readWord_31 (by decide) ?_
      replace h := Option.some.inj h
      subst h
      refine j_sub [(0, .ref 2), (1, .int v24), (2, .int v25)] [2, 1, 0] rfl ?_
      exact hc0 _ hK
def f_X5_readWord (σ : jS) : Option (Int32 × jS) :=
  bV (gI σ 2 4) fun v1 =>
  jloop jFuel (fun s => f_X5_readWord_B7 s.2.2 s.1 s.2.1) (v1, 0, σ)
set_option maxHeartbeats 1000000 in
set_option maxRecDepth 20000 in
theorem f_X5_readWord_ok {g : Bool} {rv : Option Value} {μ' : jM} (σ : jS) {Kp : (Int32 × jS) → Prop} (hn : Nat.ble nX μ'.1 = true ∧ Nat.ble wX μ'.2.1 = true) (hr : ∀ (r : Int32) (s : jS), Kp ((r, s)) → rv = some (.int r) ∧ μ' = eX s) (o : (Int32 × jS)) (h : f_X5_readWord σ = some o) (hK : Kp o) : J yX5_readWord cX5_readWord 3 (some .int) 8 g rv μ' 0 [(0, .ref 2)] [] (eX σ) := by
  unfold f_X5_readWord at h
  refine j_aload_n 0 dX5_readWord_0 rfl rfl ?_
  refine j_get (ci := 5) 4 (.int (gI σ 2 4)) jC_5 dX5_readWord_1 kg_RX5_36 rfl (okX_2 _) (shX_2 _) (fvX_2_4 _) ?_
  replace h := bV_inv h
  obtain ⟨v26, ev26, h⟩ := h
  refine j_nmi ev26 ?_
  refine j_istore_n [(1, .int v26), (0, .ref 2)] dX5_readWord_4 rfl (Nat.le_of_ble_eq_true rfl) rfl ?_
  refine j_iconst (v := 0) dX5_readWord_5 (by decide) ?_
  refine j_istore_n [(2, .int 0), (1, .int v26), (0, .ref 2)] dX5_readWord_6 rfl (Nat.le_of_ble_eq_true rfl) rfl ?_
  refine j_sub [(0, .ref 2), (1, .int v26), (2, .int 0)] [2, 1, 0] rfl ?_
  exact jloop_ok (fun s => f_X5_readWord_B7 s.2.2 s.1 s.2.1) (fun s => J yX5_readWord cX5_readWord 3 (some .int) 8 g rv μ' 7 [(0, .ref 2), (1, .int s.1), (2, .int s.2.1)] [] (eX s.2.2)) Kp (fun s o hb hk => f_X5_readWord_B7_ok (Kp := jsum (fun s => J yX5_readWord cX5_readWord 3 (some .int) 8 g rv μ' 7 [(0, .ref 2), (1, .int s.1), (2, .int s.2.1)] [] (eX s.2.2)) Kp) s.2.2 s.1 s.2.1 hn (fun r s q => hr r s q) (fun s q => q) o hb hk) jFuel _ _ h hK
theorem c_X5_readWord (g : Bool) {σ : jS} {r : Int32} {σ2 : jS} (h : f_X5_readWord σ = some (r, σ2)) : Cn yX5_readWord cX5_readWord 3 (some .int) 8 g [.ref 2] (eX σ) (some (.int r)) (eX σ2) :=
  Cn_of (by decide) (Nat.le_refl _) (Nat.le_refl _) (Nat.le_of_ble_eq_true rfl) (f_X5_readWord_ok (Kp := (fun o => o = (r, σ2))) σ ⟨jbr _, jbr _⟩ (fun r2 s2 q => by cases q; exact ⟨rfl, rfl⟩) _ h rfl)
def f_X8_addPerson (σ : jS) (x0 : Nat) (x1 : Int32) : Option (Unit × jS) :=
  bH [51, 61] x0 (
  bD (f_X6_put σ (rPX x0 0) (gI σ x0 6) x1) fun r1 σ2 =>
  bV (sI σ2 x0 6 ((gI σ2 x0 6) + (1 : Int32))) fun σ3 =>
  some (((), σ3)))
set_option maxHeartbeats 1000000 in
set_option maxRecDepth 20000 in
theorem f_X8_addPerson_ok {g : Bool} {rv : Option Value} {μ' : jM} (σ : jS) (x0 : Nat) (x1 : Int32) {Kp : (Unit × jS) → Prop} (hn : Nat.ble nX μ'.1 = true ∧ Nat.ble wX μ'.2.1 = true) (hr : ∀ (r : Unit) (s : jS), Kp ((r, s)) → rv = none ∧ μ' = eX s) (o : (Unit × jS)) (h : f_X8_addPerson σ x0 x1 = some o) (hK : Kp o) : J yX8_addPerson cX8_addPerson 2 none 2 g rv μ' 0 [(0, .ref x0), (1, .int x1)] [] (eX σ) := by
  unfold f_X8_addPerson at h
  refine j_aload_n 0 dX8_addPerson_0 rfl rfl ?_
  replace h := bH_inv h
  obtain ⟨hm4, h⟩ := h
  simp only [List.mem_cons, List.not_mem_nil, or_false] at hm4
  rcases hm4 with rfl | rfl
  · skip
    refine j_get (ci := 7) 0 (.ref 52) jC_7 dX8_addPerson_1 kg_RX8_9 rfl (okX_51 _) (shX_51 _) (fvX_51_0 _) ?_
    refine j_aload_n 0 dX8_addPerson_4 rfl rfl ?_
    refine j_get (ci := 7) 6 (.int (gI σ 51 6)) jC_7 dX8_addPerson_5 kg_RX8_34 rfl (okX_51 _) (shX_51 _) (fvX_51_6 _) ?_
    refine j_iload_n 1 dX8_addPerson_8 rfl rfl ?_
    replace h := bD_inv h
    obtain ⟨r5, σ6, cr5, h⟩ := h
    refine j_callS (st1 := _) (c_X6_put g cr5) jy_X6_put kt_yX6_put kl_RX8_61 dX8_addPerson_9 rfl rfl rfl rfl (jbr _) (jbr _) hn.1 hn.2 (Or.inr rfl) rfl ?_
    refine j_aload_n 0 dX8_addPerson_12 rfl rfl ?_
    refine j_dup dX8_addPerson_13 rfl ?_
    refine j_get (ci := 7) 6 (.int (gI σ6 51 6)) jC_7 dX8_addPerson_14 kg_RX8_34 rfl (okX_51 _) (shX_51 _) (fvX_51_6 _) ?_
    refine j_iconst (v := 1) dX8_addPerson_17 (by decide) ?_
    refine j_iadd dX8_addPerson_18 ?_
    replace h := bV_inv h
    obtain ⟨σ7, eσ7, h⟩ := h
    refine j_putI 6 jC_7 dX8_addPerson_19 kg_RX8_34 (Or.inl ff_7_6) rfl fk_7_6 (fn_7_6 _) (okX_51 _) (shX_51 _) ?_
    refine j_mem (congrArg eX eσ7) ?_
    replace h := Option.some.inj h
    subst h
    obtain ⟨hr1, hr2⟩ := hr _ _ hK
    exact j_vret dX8_addPerson_22 hr1 hr2
  · skip
    refine j_get (ci := 7) 0 (.ref 62) jC_7 dX8_addPerson_1 kg_RX8_9 rfl (okX_61 _) (shX_61 _) (fvX_61_0 _) ?_
    refine j_aload_n 0 dX8_addPerson_4 rfl rfl ?_
    refine j_get (ci := 7) 6 (.int (gI σ 61 6)) jC_7 dX8_addPerson_5 kg_RX8_34 rfl (okX_61 _) (shX_61 _) (fvX_61_6 _) ?_
    refine j_iload_n 1 dX8_addPerson_8 rfl rfl ?_
    replace h := bD_inv h
    obtain ⟨r8, σ9, cr8, h⟩ := h
    refine j_callS (st1 := _) (c_X6_put g cr8) jy_X6_put kt_yX6_put kl_RX8_61 dX8_addPerson_9 rfl rfl rfl rfl (jbr _) (jbr _) hn.1 hn.2 (Or.inr rfl) rfl ?_
    refine j_aload_n 0 dX8_addPerson_12 rfl rfl ?_
    refine j_dup dX8_addPerson_13 rfl ?_
    refine j_get (ci := 7) 6 (.int (gI σ9 61 6)) jC_7 dX8_addPerson_14 kg_RX8_34 rfl (okX_61 _) (shX_61 _) (fvX_61_6 _) ?_
    refine j_iconst (v := 1) dX8_addPerson_17 (by decide) ?_
    refine j_iadd dX8_addPerson_18 ?_
    replace h := bV_inv h
    obtain ⟨σ10, eσ10, h⟩ := h
    refine j_putI 6 jC_7 dX8_addPerson_19 kg_RX8_34 (Or.inl ff_7_6) rfl fk_7_6 (fn_7_6 _) (okX_61 _) (shX_61 _) ?_
    refine j_mem (congrArg eX eσ10) ?_
    replace h := Option.some.inj h
    subst h
    obtain ⟨hr1, hr2⟩ := hr _ _ hK
    exact j_vret dX8_addPerson_22 hr1 hr2
theorem c_X8_addPerson (g : Bool) {σ : jS} {x0 : Nat} {x1 : Int32} {r : Unit} {σ2 : jS} (h : f_X8_addPerson σ x0 x1 = some (r, σ2)) : Cn yX8_addPerson cX8_addPerson 2 none 2 g [.ref x0, .int x1] (eX σ) none (eX σ2) :=
  Cn_of (by decide) (Nat.le_refl _) (Nat.le_refl _) (Nat.le_of_ble_eq_true rfl) (f_X8_addPerson_ok (Kp := (fun o => o = (r, σ2))) σ x0 x1 ⟨jbr _, jbr _⟩ (fun r2 s2 q => by cases q; exact ⟨rfl, rfl⟩) _ h rfl)
def f_X8_isFullFor_J45 (σ : jS) (y0 : Int32) : Option Int32 :=
  bG (jb y0) (
  some (y0))
set_option maxHeartbeats 1000000 in
set_option maxRecDepth 20000 in
theorem f_X8_isFullFor_J45_ok {g : Bool} {rv : Option Value} {μ' : jM} (σ : jS) (y0 : Int32) {Kp : Int32 → Prop} (hn : Nat.ble nX μ'.1 = true ∧ Nat.ble wX μ'.2.1 = true) (hr : ∀ r : Int32, Kp (r) → rv = some (.int r) ∧ μ' = (eX σ)) (o : Int32) (h : f_X8_isFullFor_J45 σ y0 = some o) (hK : Kp o) : J yX8_isFullFor cX8_isFullFor 2 (some .boolean) 1 g rv μ' 45 [] [.int y0] (eX σ) := by
  unfold f_X8_isFullFor_J45 at h
  replace h := bG_inv h
  obtain ⟨hb, h⟩ := h
  replace h := Option.some.inj h
  subst h
  obtain ⟨hr1, hr2⟩ := hr _ hK
  exact j_zret (jb_nar hb) dX8_isFullFor_45 hr1 hr2
def f_X8_isFullFor_J44 (σ : jS) : Option Int32 :=
  f_X8_isFullFor_J45 σ 0
set_option maxHeartbeats 1000000 in
set_option maxRecDepth 20000 in
theorem f_X8_isFullFor_J44_ok {g : Bool} {rv : Option Value} {μ' : jM} (σ : jS) {Kp : Int32 → Prop} (hn : Nat.ble nX μ'.1 = true ∧ Nat.ble wX μ'.2.1 = true) (hr : ∀ r : Int32, Kp (r) → rv = some (.int r) ∧ μ' = (eX σ)) (o : Int32) (h : f_X8_isFullFor_J44 σ = some o) (hK : Kp o) : J yX8_isFullFor cX8_isFullFor 2 (some .boolean) 1 g rv μ' 44 [] [] (eX σ) := by
  unfold f_X8_isFullFor_J44 at h
  refine j_iconst (v := 0) dX8_isFullFor_44 (by decide) ?_
  exact f_X8_isFullFor_J45_ok σ 0 hn hr _ h hK
def f_X8_isFullFor_J40 (σ : jS) : Option Int32 :=
  f_X8_isFullFor_J45 σ 1
set_option maxHeartbeats 1000000 in
set_option maxRecDepth 20000 in
theorem f_X8_isFullFor_J40_ok {g : Bool} {rv : Option Value} {μ' : jM} (σ : jS) {Kp : Int32 → Prop} (hn : Nat.ble nX μ'.1 = true ∧ Nat.ble wX μ'.2.1 = true) (hr : ∀ r : Int32, Kp (r) → rv = some (.int r) ∧ μ' = (eX σ)) (o : Int32) (h : f_X8_isFullFor_J40 σ = some o) (hK : Kp o) : J yX8_isFullFor cX8_isFullFor 2 (some .boolean) 1 g rv μ' 40 [] [] (eX σ) := by
  unfold f_X8_isFullFor_J40 at h
  refine j_iconst (v := 1) dX8_isFullFor_40 (by decide) ?_
  refine j_goto 45 dX8_isFullFor_41 (by decide) ?_
  exact f_X8_isFullFor_J45_ok σ 1 hn hr _ h hK
def f_X8_isFullFor_J27 (σ : jS) (x0 : Nat) (x1 : Int32) : Option Int32 :=
  if x1 = 3 then (bH [51, 61] x0 (
  if (gI σ x0 8) < 4 then (f_X8_isFullFor_J44 σ)
  else (f_X8_isFullFor_J40 σ)))
  else (f_X8_isFullFor_J44 σ)
set_option maxHeartbeats 1000000 in
set_option maxRecDepth 20000 in
theorem f_X8_isFullFor_J27_ok {g : Bool} {rv : Option Value} {μ' : jM} (σ : jS) (x0 : Nat) (x1 : Int32) {Kp : Int32 → Prop} (hn : Nat.ble nX μ'.1 = true ∧ Nat.ble wX μ'.2.1 = true) (hr : ∀ r : Int32, Kp (r) → rv = some (.int r) ∧ μ' = (eX σ)) (o : Int32) (h : f_X8_isFullFor_J27 σ x0 x1 = some o) (hK : Kp o) : J yX8_isFullFor cX8_isFullFor 2 (some .boolean) 1 g rv μ' 27 [(0, .ref x0), (1, .int x1)] [] (eX σ) := by
  unfold f_X8_isFullFor_J27 at h
  refine j_iload_n 1 dX8_isFullFor_27 rfl rfl ?_
  refine j_iconst (v := 3) dX8_isFullFor_28 (by decide) ?_
  refine j_icmp_ne 44 dX8_isFullFor_29 (by decide) (fun hc1 => ?_) (fun hc1 => ?_)
  · replace h := jif_f hc1 h
    refine j_sub [] [] rfl ?_
    exact f_X8_isFullFor_J44_ok σ hn hr _ h hK
  · replace h := jif_t hc1 h
    refine j_aload_n 0 dX8_isFullFor_32 rfl rfl ?_
    replace h := bH_inv h
    obtain ⟨hm2, h⟩ := h
    simp only [List.mem_cons, List.not_mem_nil, or_false] at hm2
    rcases hm2 with rfl | rfl
    · skip
      refine j_get (ci := 7) 8 (.int (gI σ 51 8)) jC_7 dX8_isFullFor_33 kg_RX8_41 rfl (okX_51 _) (shX_51 _) (fvX_51_8 _) ?_
      refine j_iconst (v := 4) dX8_isFullFor_36 (by decide) ?_
      refine j_icmp_lt 44 dX8_isFullFor_37 (by decide) (fun hc3 => ?_) (fun hc3 => ?_)
      · replace h := jif_t hc3 h
        refine j_sub [] [] rfl ?_
        exact f_X8_isFullFor_J44_ok σ hn hr _ h hK
      · replace h := jif_f hc3 h
        refine j_sub [] [] rfl ?_
        exact f_X8_isFullFor_J40_ok σ hn hr _ h hK
    · skip
      refine j_get (ci := 7) 8 (.int (gI σ 61 8)) jC_7 dX8_isFullFor_33 kg_RX8_41 rfl (okX_61 _) (shX_61 _) (fvX_61_8 _) ?_
      refine j_iconst (v := 4) dX8_isFullFor_36 (by decide) ?_
      refine j_icmp_lt 44 dX8_isFullFor_37 (by decide) (fun hc4 => ?_) (fun hc4 => ?_)
      · replace h := jif_t hc4 h
        refine j_sub [] [] rfl ?_
        exact f_X8_isFullFor_J44_ok σ hn hr _ h hK
      · replace h := jif_f hc4 h
        refine j_sub [] [] rfl ?_
        exact f_X8_isFullFor_J40_ok σ hn hr _ h hK
def f_X8_isFullFor_J13 (σ : jS) (x0 : Nat) (x1 : Int32) : Option Int32 :=
  if x1 = 1 then (bH [51, 61] x0 (
  if 40 ≤ (gI σ x0 7) then (f_X8_isFullFor_J40 σ)
  else (f_X8_isFullFor_J27 σ x0 x1)))
  else (f_X8_isFullFor_J27 σ x0 x1)
set_option maxHeartbeats 1000000 in
set_option maxRecDepth 20000 in
theorem f_X8_isFullFor_J13_ok {g : Bool} {rv : Option Value} {μ' : jM} (σ : jS) (x0 : Nat) (x1 : Int32) {Kp : Int32 → Prop} (hn : Nat.ble nX μ'.1 = true ∧ Nat.ble wX μ'.2.1 = true) (hr : ∀ r : Int32, Kp (r) → rv = some (.int r) ∧ μ' = (eX σ)) (o : Int32) (h : f_X8_isFullFor_J13 σ x0 x1 = some o) (hK : Kp o) : J yX8_isFullFor cX8_isFullFor 2 (some .boolean) 1 g rv μ' 13 [(0, .ref x0), (1, .int x1)] [] (eX σ) := by
  unfold f_X8_isFullFor_J13 at h
  refine j_iload_n 1 dX8_isFullFor_13 rfl rfl ?_
  refine j_iconst (v := 1) dX8_isFullFor_14 (by decide) ?_
  refine j_icmp_ne 27 dX8_isFullFor_15 (by decide) (fun hc5 => ?_) (fun hc5 => ?_)
  · replace h := jif_f hc5 h
    exact f_X8_isFullFor_J27_ok σ x0 x1 hn hr _ h hK
  · replace h := jif_t hc5 h
    refine j_aload_n 0 dX8_isFullFor_18 rfl rfl ?_
    replace h := bH_inv h
    obtain ⟨hm6, h⟩ := h
    simp only [List.mem_cons, List.not_mem_nil, or_false] at hm6
    rcases hm6 with rfl | rfl
    · skip
      refine j_get (ci := 7) 7 (.int (gI σ 51 7)) jC_7 dX8_isFullFor_19 kg_RX8_38 rfl (okX_51 _) (shX_51 _) (fvX_51_7 _) ?_
      refine j_bipush (v := 40) dX8_isFullFor_22 (by decide) ?_
      refine j_icmp_ge 40 dX8_isFullFor_24 (by decide) (fun hc7 => ?_) (fun hc7 => ?_)
      · replace h := jif_t hc7 h
        refine j_sub [] [] rfl ?_
        exact f_X8_isFullFor_J40_ok σ hn hr _ h hK
      · replace h := jif_f hc7 h
        exact f_X8_isFullFor_J27_ok σ 51 x1 hn hr _ h hK
    · skip
      refine j_get (ci := 7) 7 (.int (gI σ 61 7)) jC_7 dX8_isFullFor_19 kg_RX8_38 rfl (okX_61 _) (shX_61 _) (fvX_61_7 _) ?_
      refine j_bipush (v := 40) dX8_isFullFor_22 (by decide) ?_
      refine j_icmp_ge 40 dX8_isFullFor_24 (by decide) (fun hc8 => ?_) (fun hc8 => ?_)
      · replace h := jif_t hc8 h
        refine j_sub [] [] rfl ?_
        exact f_X8_isFullFor_J40_ok σ hn hr _ h hK
      · replace h := jif_f hc8 h
        exact f_X8_isFullFor_J27_ok σ 61 x1 hn hr _ h hK
def f_X8_isFullFor (σ : jS) (x0 : Nat) (x1 : Int32) : Option Int32 :=
  if x1 = 0 then (bH [51, 61] x0 (
  if 16 ≤ (gI σ x0 6) then (f_X8_isFullFor_J40 σ)
  else (f_X8_isFullFor_J13 σ x0 x1)))
  else (f_X8_isFullFor_J13 σ x0 x1)
set_option maxHeartbeats 1000000 in
set_option maxRecDepth 20000 in
theorem f_X8_isFullFor_ok {g : Bool} {rv : Option Value} {μ' : jM} (σ : jS) (x0 : Nat) (x1 : Int32) {Kp : Int32 → Prop} (hn : Nat.ble nX μ'.1 = true ∧ Nat.ble wX μ'.2.1 = true) (hr : ∀ r : Int32, Kp (r) → rv = some (.int r) ∧ μ' = (eX σ)) (o : Int32) (h : f_X8_isFullFor σ x0 x1 = some o) (hK : Kp o) : J yX8_isFullFor cX8_isFullFor 2 (some .boolean) 1 g rv μ' 0 [(0, .ref x0), (1, .int x1)] [] (eX σ) := by
  unfold f_X8_isFullFor at h
  refine j_iload_n 1 dX8_isFullFor_0 rfl rfl ?_
  refine j_if_ne 13 dX8_isFullFor_1 (by decide) (fun hc9 => ?_) (fun hc9 => ?_)
  · replace h := jif_f hc9 h
    exact f_X8_isFullFor_J13_ok σ x0 x1 hn hr _ h hK
  · replace h := jif_t hc9 h
    refine j_aload_n 0 dX8_isFullFor_4 rfl rfl ?_
    replace h := bH_inv h
    obtain ⟨hm10, h⟩ := h
    simp only [List.mem_cons, List.not_mem_nil, or_false] at hm10
    rcases hm10 with rfl | rfl
    · skip
      refine j_get (ci := 7) 6 (.int (gI σ 51 6)) jC_7 dX8_isFullFor_5 kg_RX8_34 rfl (okX_51 _) (shX_51 _) (fvX_51_6 _) ?_
      refine j_bipush (v := 16) dX8_isFullFor_8 (by decide) ?_
      refine j_icmp_ge 40 dX8_isFullFor_10 (by decide) (fun hc11 => ?_) (fun hc11 => ?_)
      · replace h := jif_t hc11 h
        refine j_sub [] [] rfl ?_
        exact f_X8_isFullFor_J40_ok σ hn hr _ h hK
      · replace h := jif_f hc11 h
        exact f_X8_isFullFor_J13_ok σ 51 x1 hn hr _ h hK
    · skip
      refine j_get (ci := 7) 6 (.int (gI σ 61 6)) jC_7 dX8_isFullFor_5 kg_RX8_34 rfl (okX_61 _) (shX_61 _) (fvX_61_6 _) ?_
      refine j_bipush (v := 16) dX8_isFullFor_8 (by decide) ?_
      refine j_icmp_ge 40 dX8_isFullFor_10 (by decide) (fun hc12 => ?_) (fun hc12 => ?_)
      · replace h := jif_t hc12 h
        refine j_sub [] [] rfl ?_
        exact f_X8_isFullFor_J40_ok σ hn hr _ h hK
      · replace h := jif_f hc12 h
        exact f_X8_isFullFor_J13_ok σ 61 x1 hn hr _ h hK
theorem c_X8_isFullFor (g : Bool) {σ : jS} {x0 : Nat} {x1 : Int32} {r : Int32} (h : f_X8_isFullFor σ x0 x1 = some r) : Cn yX8_isFullFor cX8_isFullFor 2 (some .boolean) 1 g [.ref x0, .int x1] (eX σ) (some (.int r)) (eX σ) :=
  Cn_of (by decide) (Nat.le_refl _) (Nat.le_refl _) (Nat.le_of_ble_eq_true rfl) (f_X8_isFullFor_ok (Kp := (fun o => o = r)) σ x0 x1 ⟨jbr _, jbr _⟩ (fun r2 q => by cases q; exact ⟨rfl, rfl⟩) _ h rfl)
def f_X5_readClause_J79 (σ : jS) : Option (Unit × jS) :=
  some (((), σ))
set_option maxHeartbeats 1000000 in
set_option maxRecDepth 20000 in
theorem f_X5_readClause_J79_ok {g : Bool} {rv : Option Value} {μ' : jM} (σ : jS) {Kp : (Unit × jS) → Prop} (hn : Nat.ble nX μ'.1 = true ∧ Nat.ble wX μ'.2.1 = true) (hr : ∀ (r : Unit) (s : jS), Kp ((r, s)) → rv = none ∧ μ' = eX s) (o : (Unit × jS)) (h : f_X5_readClause_J79 σ = some o) (hK : Kp o) : J yX5_readClause cX5_readClause 5 none 9 g rv μ' 79 [] [] (eX σ) := by
  unfold f_X5_readClause_J79 at h
  replace h := Option.some.inj h
  subst h
  obtain ⟨hr1, hr2⟩ := hr _ _ hK
  exact j_vret dX5_readClause_79 hr1 hr2
def f_X5_readClause_J70 (σ : jS) : Option (Unit × jS) :=
  f_X5_readClause_J79 σ
set_option maxHeartbeats 1000000 in
set_option maxRecDepth 20000 in
theorem f_X5_readClause_J70_ok {g : Bool} {rv : Option Value} {μ' : jM} (σ : jS) {Kp : (Unit × jS) → Prop} (hn : Nat.ble nX μ'.1 = true ∧ Nat.ble wX μ'.2.1 = true) (hr : ∀ (r : Unit) (s : jS), Kp ((r, s)) → rv = none ∧ μ' = eX s) (o : (Unit × jS)) (h : f_X5_readClause_J70 σ = some o) (hK : Kp o) : J yX5_readClause cX5_readClause 5 none 9 g rv μ' 70 [] [] (eX σ) := by
  unfold f_X5_readClause_J70 at h
  refine j_goto 79 dX5_readClause_70 (by decide) ?_
  exact f_X5_readClause_J79_ok σ hn hr _ h hK
def f_X5_readClause (σ : jS) (x1 : Nat) : Option (Unit × jS) :=
  bV (gI σ 2 4) fun v1 =>
  bD (f_X5_readWord σ) fun r2 σ3 =>
  if r2 = (-1) then (bD (f_X5_fail σ3 1 v1) fun r15 σ16 =>
  f_X5_readClause_J79 σ16)
  else (bH [51, 61] x1 (
  bC (f_X8_isFullFor σ3 x1 r2) fun r4 =>
  if r4 = 0 then (if r2 = 0 then (bD (f_X5_readNumber σ3 10) fun r7 σ8 =>
  bD (f_X5_readClosing σ8) fun r9 σ10 =>
  if (gI σ10 2 3) = 0 then (bD (f_X8_addPerson σ10 x1 r7) fun r11 σ12 =>
  f_X5_readClause_J70 σ12)
  else (f_X5_readClause_J70 σ10))
  else (bD (f_X5_readPair σ3 x1 r2) fun r5 σ6 =>
  f_X5_readClause_J79 σ6))
  else (bD (f_X5_fail σ3 3 v1) fun r13 σ14 =>
  f_X5_readClause_J79 σ14)))
set_option maxHeartbeats 1000000 in
set_option maxRecDepth 20000 in
theorem f_X5_readClause_ok {g : Bool} {rv : Option Value} {μ' : jM} (σ : jS) (x1 : Nat) {Kp : (Unit × jS) → Prop} (hn : Nat.ble nX μ'.1 = true ∧ Nat.ble wX μ'.2.1 = true) (hr : ∀ (r : Unit) (s : jS), Kp ((r, s)) → rv = none ∧ μ' = eX s) (o : (Unit × jS)) (h : f_X5_readClause σ x1 = some o) (hK : Kp o) : J yX5_readClause cX5_readClause 5 none 9 g rv μ' 0 [(0, .ref 2), (1, .ref x1)] [] (eX σ) := by
  unfold f_X5_readClause at h
  refine j_aload_n 0 dX5_readClause_0 rfl rfl ?_
  refine j_get (ci := 5) 4 (.int (gI σ 2 4)) jC_5 dX5_readClause_1 kg_RX5_36 rfl (okX_2 _) (shX_2 _) (fvX_2_4 _) ?_
  replace h := bV_inv h
  obtain ⟨v17, ev17, h⟩ := h
  refine j_nmi ev17 ?_
  refine j_istore_n [(2, .int v17), (0, .ref 2), (1, .ref x1)] dX5_readClause_4 rfl (Nat.le_of_ble_eq_true rfl) rfl ?_
  refine j_aload_n 1 dX5_readClause_5 rfl rfl ?_
  replace h := bD_inv h
  obtain ⟨r18, σ19, cr18, h⟩ := h
  refine j_callV (ci := 5) (st1 := .int r18 :: _) (c_X5_readWord g cr18) jy_X5_readWord ki_yX5_readWord ks_yX5_readWord kl_RX5_46 dX5_readClause_6 rfl (okX_2 _) (shX_2 _) rfl rfl rfl rfl (jbr _) (jbr _) hn.1 hn.2 (Or.inr rfl) rfl ?_
  refine j_istore_n [(3, .int r18), (2, .int v17), (0, .ref 2), (1, .ref x1)] dX5_readClause_9 rfl (Nat.le_of_ble_eq_true rfl) rfl ?_
  refine j_iload_n 0 dX5_readClause_10 rfl rfl ?_
  refine j_iconst (v := (-1)) dX5_readClause_11 (by decide) ?_
  refine j_icmp_ne 24 dX5_readClause_12 (by decide) (fun hc20 => ?_) (fun hc20 => ?_)
  · replace h := jif_f hc20 h
    refine j_aload_n 3 dX5_readClause_24 rfl rfl ?_
    refine j_iload_n 0 dX5_readClause_25 rfl rfl ?_
    replace h := bH_inv h
    obtain ⟨hm21, h⟩ := h
    simp only [List.mem_cons, List.not_mem_nil, or_false] at hm21
    rcases hm21 with rfl | rfl
    · skip
      replace h := bC_inv h
      obtain ⟨r22, cr22, h⟩ := h
      refine j_callV (ci := 7) (st1 := .int r22 :: _) (c_X8_isFullFor g cr22) jy_X8_isFullFor ki_yX8_isFullFor ks_yX8_isFullFor kl_RX5_54 dX5_readClause_26 rfl (okX_51 _) (shX_51 _) rfl rfl rfl rfl (jbr _) (jbr _) hn.1 hn.2 (Or.inr rfl) rfl ?_
      refine j_if_eq 41 dX5_readClause_29 (by decide) (fun hc23 => ?_) (fun hc23 => ?_)
      · replace h := jif_t hc23 h
        refine j_iload_n 0 dX5_readClause_41 rfl rfl ?_
        refine j_if_ne 73 dX5_readClause_42 (by decide) (fun hc24 => ?_) (fun hc24 => ?_)
        · replace h := jif_f hc24 h
          refine j_aload_n 2 dX5_readClause_73 rfl rfl ?_
          refine j_aload_n 3 dX5_readClause_74 rfl rfl ?_
          refine j_iload_n 0 dX5_readClause_75 rfl rfl ?_
          replace h := bD_inv h
          obtain ⟨r25, σ26, cr25, h⟩ := h
          refine j_callV (ci := 5) (st1 := _) (c_X5_readPair g cr25) jy_X5_readPair ki_yX5_readPair ks_yX5_readPair kl_RX5_69 dX5_readClause_76 rfl (okX_2 _) (shX_2 _) rfl rfl rfl rfl (jbr _) (jbr _) hn.1 hn.2 (Or.inr rfl) rfl ?_
          refine j_sub [] [] rfl ?_
          exact f_X5_readClause_J79_ok σ26 hn hr _ h hK
        · replace h := jif_t hc24 h
          refine j_aload_n 2 dX5_readClause_45 rfl rfl ?_
          refine j_bipush (v := 10) dX5_readClause_46 (by decide) ?_
          replace h := bD_inv h
          obtain ⟨r27, σ28, cr27, h⟩ := h
          refine j_callV (ci := 5) (st1 := .int r27 :: _) (c_X5_readNumber g cr27) jy_X5_readNumber ki_yX5_readNumber ks_yX5_readNumber kl_RX5_58 dX5_readClause_48 rfl (okX_2 _) (shX_2 _) rfl rfl rfl rfl (jbr _) (jbr _) hn.1 hn.2 (Or.inr rfl) rfl ?_
          refine j_istore [(4, .int r27), (3, .int r18), (2, .int v17), (0, .ref 2), (1, .ref 51)] dX5_readClause_51 (Nat.le_of_ble_eq_true rfl) rfl ?_
          refine j_aload_n 3 dX5_readClause_53 rfl rfl ?_
          replace h := bD_inv h
          obtain ⟨r29, σ30, cr29, h⟩ := h
          refine j_callV (ci := 5) (st1 := _) (c_X5_readClosing g cr29) jy_X5_readClosing ki_yX5_readClosing ks_yX5_readClosing kl_RX5_62 dX5_readClause_54 rfl (okX_2 _) (shX_2 _) rfl rfl rfl rfl (jbr _) (jbr _) hn.1 hn.2 (Or.inr rfl) rfl ?_
          refine j_aload_n 3 dX5_readClause_57 rfl rfl ?_
          refine j_get (ci := 5) 3 (.int (gI σ30 2 3)) jC_5 dX5_readClause_58 kg_RX5_33 rfl (okX_2 _) (shX_2 _) (fvX_2_3 _) ?_
          refine j_if_ne 70 dX5_readClause_61 (by decide) (fun hc31 => ?_) (fun hc31 => ?_)
          · replace h := jif_f hc31 h
            refine j_sub [] [] rfl ?_
            exact f_X5_readClause_J70_ok σ30 hn hr _ h hK
          · replace h := jif_t hc31 h
            refine j_aload_n 4 dX5_readClause_64 rfl rfl ?_
            refine j_iload 0 dX5_readClause_65 rfl ?_
            replace h := bD_inv h
            obtain ⟨r32, σ33, cr32, h⟩ := h
            refine j_callV (ci := 7) (st1 := _) (c_X8_addPerson g cr32) jy_X8_addPerson ki_yX8_addPerson ks_yX8_addPerson kl_RX5_65 dX5_readClause_67 rfl (okX_51 _) (shX_51 _) rfl rfl rfl rfl (jbr _) (jbr _) hn.1 hn.2 (Or.inr rfl) rfl ?_
            refine j_sub [] [] rfl ?_
            exact f_X5_readClause_J70_ok σ33 hn hr _ h hK
      · replace h := jif_f hc23 h
        refine j_aload_n 2 dX5_readClause_32 rfl rfl ?_
        refine j_iconst (v := 3) dX5_readClause_33 (by decide) ?_
        refine j_iload_n 1 dX5_readClause_34 rfl rfl ?_
        replace h := bD_inv h
        obtain ⟨r34, σ35, cr34, h⟩ := h
        refine j_callV (ci := 5) (st1 := _) (c_X5_fail g cr34) jy_X5_fail ki_yX5_fail ks_yX5_fail kl_RX5_50 dX5_readClause_35 rfl (okX_2 _) (shX_2 _) rfl rfl rfl rfl (jbr _) (jbr _) hn.1 hn.2 (Or.inr rfl) rfl ?_
        refine j_goto 79 dX5_readClause_38 (by decide) ?_
        refine j_sub [] [] rfl ?_
        exact f_X5_readClause_J79_ok σ35 hn hr _ h hK
    · skip
      replace h := bC_inv h
      obtain ⟨r36, cr36, h⟩ := h
      refine j_callV (ci := 7) (st1 := .int r36 :: _) (c_X8_isFullFor g cr36) jy_X8_isFullFor ki_yX8_isFullFor ks_yX8_isFullFor kl_RX5_54 dX5_readClause_26 rfl (okX_61 _) (shX_61 _) rfl rfl rfl rfl (jbr _) (jbr _) hn.1 hn.2 (Or.inr rfl) rfl ?_
      refine j_if_eq 41 dX5_readClause_29 (by decide) (fun hc37 => ?_) (fun hc37 => ?_)
      · replace h := jif_t hc37 h
        refine j_iload_n 0 dX5_readClause_41 rfl rfl ?_
        refine j_if_ne 73 dX5_readClause_42 (by decide) (fun hc38 => ?_) (fun hc38 => ?_)
        · replace h := jif_f hc38 h
          refine j_aload_n 2 dX5_readClause_73 rfl rfl ?_
          refine j_aload_n 3 dX5_readClause_74 rfl rfl ?_
          refine j_iload_n 0 dX5_readClause_75 rfl rfl ?_
          replace h := bD_inv h
          obtain ⟨r39, σ40, cr39, h⟩ := h
          refine j_callV (ci := 5) (st1 := _) (c_X5_readPair g cr39) jy_X5_readPair ki_yX5_readPair ks_yX5_readPair kl_RX5_69 dX5_readClause_76 rfl (okX_2 _) (shX_2 _) rfl rfl rfl rfl (jbr _) (jbr _) hn.1 hn.2 (Or.inr rfl) rfl ?_
          refine j_sub [] [] rfl ?_
          exact f_X5_readClause_J79_ok σ40 hn hr _ h hK
        · replace h := jif_t hc38 h
          refine j_aload_n 2 dX5_readClause_45 rfl rfl ?_
          refine j_bipush (v := 10) dX5_readClause_46 (by decide) ?_
          replace h := bD_inv h
          obtain ⟨r41, σ42, cr41, h⟩ := h
          refine j_callV (ci := 5) (st1 := .int r41 :: _) (c_X5_readNumber g cr41) jy_X5_readNumber ki_yX5_readNumber ks_yX5_readNumber kl_RX5_58 dX5_readClause_48 rfl (okX_2 _) (shX_2 _) rfl rfl rfl rfl (jbr _) (jbr _) hn.1 hn.2 (Or.inr rfl) rfl ?_
          refine j_istore [(4, .int r41), (3, .int r18), (2, .int v17), (0, .ref 2), (1, .ref 61)] dX5_readClause_51 (Nat.le_of_ble_eq_true rfl) rfl ?_
          refine j_aload_n 3 dX5_readClause_53 rfl rfl ?_
          replace h := bD_inv h
          obtain ⟨r43, σ44, cr43, h⟩ := h
          refine j_callV (ci := 5) (st1 := _) (c_X5_readClosing g cr43) jy_X5_readClosing ki_yX5_readClosing ks_yX5_readClosing kl_RX5_62 dX5_readClause_54 rfl (okX_2 _) (shX_2 _) rfl rfl rfl rfl (jbr _) (jbr _) hn.1 hn.2 (Or.inr rfl) rfl ?_
          refine j_aload_n 3 dX5_readClause_57 rfl rfl ?_
          refine j_get (ci := 5) 3 (.int (gI σ44 2 3)) jC_5 dX5_readClause_58 kg_RX5_33 rfl (okX_2 _) (shX_2 _) (fvX_2_3 _) ?_
          refine j_if_ne 70 dX5_readClause_61 (by decide) (fun hc45 => ?_) (fun hc45 => ?_)
          · replace h := jif_f hc45 h
            refine j_sub [] [] rfl ?_
            exact f_X5_readClause_J70_ok σ44 hn hr _ h hK
          · replace h := jif_t hc45 h
            refine j_aload_n 4 dX5_readClause_64 rfl rfl ?_
            refine j_iload 0 dX5_readClause_65 rfl ?_
            replace h := bD_inv h
            obtain ⟨r46, σ47, cr46, h⟩ := h
            refine j_callV (ci := 7) (st1 := _) (c_X8_addPerson g cr46) jy_X8_addPerson ki_yX8_addPerson ks_yX8_addPerson kl_RX5_65 dX5_readClause_67 rfl (okX_61 _) (shX_61 _) rfl rfl rfl rfl (jbr _) (jbr _) hn.1 hn.2 (Or.inr rfl) rfl ?_
            refine j_sub [] [] rfl ?_
            exact f_X5_readClause_J70_ok σ47 hn hr _ h hK
      · replace h := jif_f hc37 h
        refine j_aload_n 2 dX5_readClause_32 rfl rfl ?_
        refine j_iconst (v := 3) dX5_readClause_33 (by decide) ?_
        refine j_iload_n 1 dX5_readClause_34 rfl rfl ?_
        replace h := bD_inv h
        obtain ⟨r48, σ49, cr48, h⟩ := h
        refine j_callV (ci := 5) (st1 := _) (c_X5_fail g cr48) jy_X5_fail ki_yX5_fail ks_yX5_fail kl_RX5_50 dX5_readClause_35 rfl (okX_2 _) (shX_2 _) rfl rfl rfl rfl (jbr _) (jbr _) hn.1 hn.2 (Or.inr rfl) rfl ?_
        refine j_goto 79 dX5_readClause_38 (by decide) ?_
        refine j_sub [] [] rfl ?_
        exact f_X5_readClause_J79_ok σ49 hn hr _ h hK
  · replace h := jif_t hc20 h
    refine j_aload_n 2 dX5_readClause_15 rfl rfl ?_
    refine j_iconst (v := 1) dX5_readClause_16 (by decide) ?_
    refine j_iload_n 1 dX5_readClause_17 rfl rfl ?_
    replace h := bD_inv h
    obtain ⟨r50, σ51, cr50, h⟩ := h
    refine j_callV (ci := 5) (st1 := _) (c_X5_fail g cr50) jy_X5_fail ki_yX5_fail ks_yX5_fail kl_RX5_50 dX5_readClause_18 rfl (okX_2 _) (shX_2 _) rfl rfl rfl rfl (jbr _) (jbr _) hn.1 hn.2 (Or.inr rfl) rfl ?_
    refine j_goto 79 dX5_readClause_21 (by decide) ?_
    refine j_sub [] [] rfl ?_
    exact f_X5_readClause_J79_ok σ51 hn hr _ h hK
theorem c_X5_readClause (g : Bool) {σ : jS} {x1 : Nat} {r : Unit} {σ2 : jS} (h : f_X5_readClause σ x1 = some (r, σ2)) : Cn yX5_readClause cX5_readClause 5 none 9 g [.ref 2, .ref x1] (eX σ) none (eX σ2) :=
  Cn_of (by decide) (Nat.le_refl _) (Nat.le_refl _) (Nat.le_of_ble_eq_true rfl) (f_X5_readClause_ok (Kp := (fun o => o = (r, σ2))) σ x1 ⟨jbr _, jbr _⟩ (fun r2 s2 q => by cases q; exact ⟨rfl, rfl⟩) _ h rfl)
def f_X6_fill_J23 (σ : jS) : Option (Unit × jS) :=
  some (((), σ))
set_option maxHeartbeats 1000000 in
set_option maxRecDepth 20000 in
theorem f_X6_fill_J23_ok {g : Bool} {rv : Option Value} {μ' : jM} (σ : jS) {Kp : (Unit × jS) → Prop} (hn : Nat.ble nX μ'.1 = true ∧ Nat.ble wX μ'.2.1 = true) (hr : ∀ (r : Unit) (s : jS), Kp ((r, s)) → rv = none ∧ μ' = eX s) (o : (Unit × jS)) (h : f_X6_fill_J23 σ = some o) (hK : Kp o) : J yX6_fill cX6_fill 3 none 1 g rv μ' 23 [] [] (eX σ) := by
  unfold f_X6_fill_J23 at h
  replace h := Option.some.inj h
  subst h
  obtain ⟨hr1, hr2⟩ := hr _ _ hK
  exact j_vret dX6_fill_23 hr1 hr2
def f_X6_fill_B7 (σ : jS) (x0 : Nat) (x1 : Int32) (x2 : Int32) : Option ((Int32 × jS) ⊕ (Unit × jS)) :=
  bG (jrwX 0 x0) (
  if (Int32.ofNat (SHX x0).2) ≤ x2 then (jw (f_X6_fill_J23 σ))
  else (bG (jin x2 (SHX x0).2) (
  bV (sI σ x0 (ix x2) x1) fun σ2 =>
  bV (x2 + 1) fun v3 =>
  some (.inl (v3, σ2)))))
set_option maxHeartbeats 1000000 in
set_option maxRecDepth 20000 in
theorem f_X6_fill_B7_ok {g : Bool} {rv : Option Value} {μ' : jM} (σ : jS) (x0 : Nat) (x1 : Int32) (x2 : Int32) {Kp : ((Int32 × jS) ⊕ (Unit × jS)) → Prop} (hn : Nat.ble nX μ'.1 = true ∧ Nat.ble wX μ'.2.1 = true) (hr : ∀ (r : Unit) (s : jS), Kp (.inr ((r, s))) → rv = none ∧ μ' = eX s) (hc0 : ∀ s : (Int32 × jS), Kp (.inl s) → J yX6_fill cX6_fill 3 none 1 g rv μ' 7 [(0, .ref x0), (1, .int x1), (2, .int s.1)] [] (eX s.2)) (o : ((Int32 × jS) ⊕ (Unit × jS))) (h : f_X6_fill_B7 σ x0 x1 x2 = some o) (hK : Kp o) : J yX6_fill cX6_fill 3 none 1 g rv μ' 7 [(0, .ref x0), (1, .int x1), (2, .int x2)] [] (eX σ) := by
  unfold f_X6_fill_B7 at h
  refine j_iload_n 2 dX6_fill_7 rfl rfl ?_
  refine j_aload_n 0 dX6_fill_8 rfl rfl ?_
  replace h := bG_inv h
  obtain ⟨hg4, h⟩ := h
  refine j_alen dX6_fill_9 (jrwX_ok hg4) (jrwX_sh hg4) rfl ?_
  refine j_icmp_ge 23 dX6_fill_10 (by decide) (fun hc5 => ?_) (fun hc5 => ?_)
  · replace h := jif_t hc5 h
    replace h := jw_inv h
    obtain ⟨o6, rfl, h⟩ := h
    refine j_sub [] [] rfl ?_
    exact f_X6_fill_J23_ok (Kp := fun o => Kp (.inr (o))) σ hn (fun r s q => hr r s q) _ h hK
  · replace h := jif_f hc5 h
    refine j_aload_n 0 dX6_fill_13 rfl rfl ?_
    refine j_iload_n 2 dX6_fill_14 rfl rfl ?_
    refine j_iload_n 1 dX6_fill_15 rfl rfl ?_
    replace h := bG_inv h
    obtain ⟨hi7, h⟩ := h
    refine j_iastore dX6_fill_16 (jrwX_ok hg4) (jrwX_sh hg4) (jin_spec hi7) ?_
    replace h := bV_inv h
    obtain ⟨σ8, eσ8, h⟩ := h
    refine j_mem (congrArg eX eσ8) ?_
    replace h := bV_inv h
    obtain ⟨v9, ev9, h⟩ := h
    refine j_iinc (v := v9) [(2, .int v9), (0, .ref x0), (1, .int x1)] 2 dX6_fill_17 rfl (by rw [ev9]; rfl) (Nat.le_of_ble_eq_true rfl) rfl ?_
    refine j_goto 7 dX6_fill_20 (by decide) ?_
    replace h := Option.some.inj h
    subst h
    refine j_sub [(0, .ref x0), (1, .int x1), (2, .int v9)] [1, 2, 0] rfl ?_
    exact hc0 _ hK
def f_X6_fill (σ : jS) (x0 : Nat) (x1 : Int32) : Option (Unit × jS) :=
  if x0 = 0 then (some (((), σ)))
  else (jloop jFuel (fun s => f_X6_fill_B7 s.2 x0 x1 s.1) (0, σ))
set_option maxHeartbeats 1000000 in
set_option maxRecDepth 20000 in
theorem f_X6_fill_ok {g : Bool} {rv : Option Value} {μ' : jM} (σ : jS) (x0 : Nat) (x1 : Int32) {Kp : (Unit × jS) → Prop} (hn : Nat.ble nX μ'.1 = true ∧ Nat.ble wX μ'.2.1 = true) (hr : ∀ (r : Unit) (s : jS), Kp ((r, s)) → rv = none ∧ μ' = eX s) (o : (Unit × jS)) (h : f_X6_fill σ x0 x1 = some o) (hK : Kp o) : J yX6_fill cX6_fill 3 none 1 g rv μ' 0 [(0, .ref x0), (1, .int x1)] [] (eX σ) := by
  unfold f_X6_fill at h
  refine j_aload_n 0 dX6_fill_0 rfl rfl ?_
  refine j_ifnonnull 5 dX6_fill_1 (by decide) (fun hc10 => ?_) (fun hc10 => ?_)
  · replace h := jif_f hc10 h
    refine j_iconst (v := 0) dX6_fill_5 (by decide) ?_
    refine j_istore_n [(2, .int 0), (0, .ref x0), (1, .int x1)] dX6_fill_6 rfl (Nat.le_of_ble_eq_true rfl) rfl ?_
    refine j_sub [(0, .ref x0), (1, .int x1), (2, .int 0)] [1, 2, 0] rfl ?_
    exact jloop_ok (fun s => f_X6_fill_B7 s.2 x0 x1 s.1) (fun s => J yX6_fill cX6_fill 3 none 1 g rv μ' 7 [(0, .ref x0), (1, .int x1), (2, .int s.1)] [] (eX s.2)) Kp (fun s o hb hk => f_X6_fill_B7_ok (Kp := jsum (fun s => J yX6_fill cX6_fill 3 none 1 g rv μ' 7 [(0, .ref x0), (1, .int x1), (2, .int s.1)] [] (eX s.2)) Kp) s.2 x0 x1 s.1 hn (fun r s q => hr r s q) (fun s q => q) o hb hk) jFuel _ _ h hK
  · replace h := jif_t hc10 h
    replace h := Option.some.inj h
    subst h
    obtain ⟨hr1, hr2⟩ := hr _ _ hK
    exact j_vret dX6_fill_4 hr1 hr2
theorem c_X6_fill (g : Bool) {σ : jS} {x0 : Nat} {x1 : Int32} {r : Unit} {σ2 : jS} (h : f_X6_fill σ x0 x1 = some (r, σ2)) : Cn yX6_fill cX6_fill 3 none 1 g [.ref x0, .int x1] (eX σ) none (eX σ2) :=
  Cn_of (by decide) (Nat.le_refl _) (Nat.le_refl _) (Nat.le_of_ble_eq_true rfl) (f_X6_fill_ok (Kp := (fun o => o = (r, σ2))) σ x0 x1 ⟨jbr _, jbr _⟩ (fun r2 s2 q => by cases q; exact ⟨rfl, rfl⟩) _ h rfl)
def f_X1_empty (σ : jS) (x0 : Nat) : Option (Unit × jS) :=
  bH [32, 40, 47, 57, 67] x0 (
  bV (sI σ x0 3 0) fun σ1 =>
  bD (f_X6_fill σ1 (rPX x0 2) 0) fun r2 σ3 =>
  some (((), σ3)))
set_option maxHeartbeats 1000000 in
set_option maxRecDepth 20000 in
theorem f_X1_empty_ok {g : Bool} {rv : Option Value} {μ' : jM} (σ : jS) (x0 : Nat) {Kp : (Unit × jS) → Prop} (hn : Nat.ble nX μ'.1 = true ∧ Nat.ble wX μ'.2.1 = true) (hr : ∀ (r : Unit) (s : jS), Kp ((r, s)) → rv = none ∧ μ' = eX s) (o : (Unit × jS)) (h : f_X1_empty σ x0 = some o) (hK : Kp o) : J yX1_empty cX1_empty 1 none 2 g rv μ' 0 [(0, .ref x0)] [] (eX σ) := by
  unfold f_X1_empty at h
  refine j_aload_n 0 dX1_empty_0 rfl rfl ?_
  refine j_iconst (v := 0) dX1_empty_1 (by decide) ?_
  replace h := bH_inv h
  obtain ⟨hm4, h⟩ := h
  simp only [List.mem_cons, List.not_mem_nil, or_false] at hm4
  rcases hm4 with rfl | rfl | rfl | rfl | rfl
  · skip
    replace h := bV_inv h
    obtain ⟨σ5, eσ5, h⟩ := h
    refine j_putI 3 jC_1 dX1_empty_2 kg_RX1_21 (Or.inl ff_1_3) rfl fk_1_3 (fn_1_3 _) (okX_32 _) (shX_32 _) ?_
    refine j_mem (congrArg eX eσ5) ?_
    refine j_aload_n 0 dX1_empty_5 rfl rfl ?_
    refine j_get (ci := 1) 2 (.ref 35) jC_1 dX1_empty_6 kg_RX1_18 rfl (okX_32 _) (shX_32 _) (fvX_32_2 _) ?_
    refine j_iconst (v := 0) dX1_empty_9 (by decide) ?_
    replace h := bD_inv h
    obtain ⟨r6, σ7, cr6, h⟩ := h
    refine j_callS (st1 := _) (c_X6_fill g cr6) jy_X6_fill kt_yX6_fill kl_RX1_25 dX1_empty_10 rfl rfl rfl rfl (jbr _) (jbr _) hn.1 hn.2 (Or.inr rfl) rfl ?_
    replace h := Option.some.inj h
    subst h
    obtain ⟨hr1, hr2⟩ := hr _ _ hK
    exact j_vret dX1_empty_13 hr1 hr2
  · skip
    replace h := bV_inv h
    obtain ⟨σ8, eσ8, h⟩ := h
    refine j_putI 3 jC_1 dX1_empty_2 kg_RX1_21 (Or.inl ff_1_3) rfl fk_1_3 (fn_1_3 _) (okX_40 _) (shX_40 _) ?_
    refine j_mem (congrArg eX eσ8) ?_
    refine j_aload_n 0 dX1_empty_5 rfl rfl ?_
    refine j_get (ci := 1) 2 (.ref 43) jC_1 dX1_empty_6 kg_RX1_18 rfl (okX_40 _) (shX_40 _) (fvX_40_2 _) ?_
    refine j_iconst (v := 0) dX1_empty_9 (by decide) ?_
    replace h := bD_inv h
    obtain ⟨r9, σ10, cr9, h⟩ := h
    refine j_callS (st1 := _) (c_X6_fill g cr9) jy_X6_fill kt_yX6_fill kl_RX1_25 dX1_empty_10 rfl rfl rfl rfl (jbr _) (jbr _) hn.1 hn.2 (Or.inr rfl) rfl ?_
    replace h := Option.some.inj h
    subst h
    obtain ⟨hr1, hr2⟩ := hr _ _ hK
    exact j_vret dX1_empty_13 hr1 hr2
  · skip
    replace h := bV_inv h
    obtain ⟨σ11, eσ11, h⟩ := h
    refine j_putI 3 jC_1 dX1_empty_2 kg_RX1_21 (Or.inl ff_1_3) rfl fk_1_3 (fn_1_3 _) (okX_47 _) (shX_47 _) ?_
    refine j_mem (congrArg eX eσ11) ?_
    refine j_aload_n 0 dX1_empty_5 rfl rfl ?_
    refine j_get (ci := 1) 2 (.ref 50) jC_1 dX1_empty_6 kg_RX1_18 rfl (okX_47 _) (shX_47 _) (fvX_47_2 _) ?_
    refine j_iconst (v := 0) dX1_empty_9 (by decide) ?_
    replace h := bD_inv h
    obtain ⟨r12, σ13, cr12, h⟩ := h
    refine j_callS (st1 := _) (c_X6_fill g cr12) jy_X6_fill kt_yX6_fill kl_RX1_25 dX1_empty_10 rfl rfl rfl rfl (jbr _) (jbr _) hn.1 hn.2 (Or.inr rfl) rfl ?_
    replace h := Option.some.inj h
    subst h
    obtain ⟨hr1, hr2⟩ := hr _ _ hK
    exact j_vret dX1_empty_13 hr1 hr2
  · skip
    replace h := bV_inv h
    obtain ⟨σ14, eσ14, h⟩ := h
    refine j_putI 3 jC_1 dX1_empty_2 kg_RX1_21 (Or.inl ff_1_3) rfl fk_1_3 (fn_1_3 _) (okX_57 _) (shX_57 _) ?_
    refine j_mem (congrArg eX eσ14) ?_
    refine j_aload_n 0 dX1_empty_5 rfl rfl ?_
    refine j_get (ci := 1) 2 (.ref 60) jC_1 dX1_empty_6 kg_RX1_18 rfl (okX_57 _) (shX_57 _) (fvX_57_2 _) ?_
    refine j_iconst (v := 0) dX1_empty_9 (by decide) ?_
    replace h := bD_inv h
    obtain ⟨r15, σ16, cr15, h⟩ := h
    refine j_callS (st1 := _) (c_X6_fill g cr15) jy_X6_fill kt_yX6_fill kl_RX1_25 dX1_empty_10 rfl rfl rfl rfl (jbr _) (jbr _) hn.1 hn.2 (Or.inr rfl) rfl ?_
    replace h := Option.some.inj h
    subst h
    obtain ⟨hr1, hr2⟩ := hr _ _ hK
    exact j_vret dX1_empty_13 hr1 hr2
  · skip
    replace h := bV_inv h
    obtain ⟨σ17, eσ17, h⟩ := h
    refine j_putI 3 jC_1 dX1_empty_2 kg_RX1_21 (Or.inl ff_1_3) rfl fk_1_3 (fn_1_3 _) (okX_67 _) (shX_67 _) ?_
    refine j_mem (congrArg eX eσ17) ?_
    refine j_aload_n 0 dX1_empty_5 rfl rfl ?_
    refine j_get (ci := 1) 2 (.ref 70) jC_1 dX1_empty_6 kg_RX1_18 rfl (okX_67 _) (shX_67 _) (fvX_67_2 _) ?_
    refine j_iconst (v := 0) dX1_empty_9 (by decide) ?_
    replace h := bD_inv h
    obtain ⟨r18, σ19, cr18, h⟩ := h
    refine j_callS (st1 := _) (c_X6_fill g cr18) jy_X6_fill kt_yX6_fill kl_RX1_25 dX1_empty_10 rfl rfl rfl rfl (jbr _) (jbr _) hn.1 hn.2 (Or.inr rfl) rfl ?_
    replace h := Option.some.inj h
    subst h
    obtain ⟨hr1, hr2⟩ := hr _ _ hK
    exact j_vret dX1_empty_13 hr1 hr2
theorem c_X1_empty (g : Bool) {σ : jS} {x0 : Nat} {r : Unit} {σ2 : jS} (h : f_X1_empty σ x0 = some (r, σ2)) : Cn yX1_empty cX1_empty 1 none 2 g [.ref x0] (eX σ) none (eX σ2) :=
  Cn_of (by decide) (Nat.le_refl _) (Nat.le_refl _) (Nat.le_of_ble_eq_true rfl) (f_X1_empty_ok (Kp := (fun o => o = (r, σ2))) σ x0 ⟨jbr _, jbr _⟩ (fun r2 s2 q => by cases q; exact ⟨rfl, rfl⟩) _ h rfl)
def f_X8_empty (σ : jS) (x0 : Nat) : Option (Unit × jS) :=
  bH [51, 61] x0 (
  bV (sI σ x0 6 0) fun σ1 =>
  bV (sI σ1 x0 7 0) fun σ2 =>
  bV (sI σ2 x0 8 0) fun σ3 =>
  bD (f_X1_empty σ3 (rPX x0 5)) fun r4 σ5 =>
  some (((), σ5)))
set_option maxHeartbeats 1000000 in
set_option maxRecDepth 20000 in
theorem f_X8_empty_ok {g : Bool} {rv : Option Value} {μ' : jM} (σ : jS) (x0 : Nat) {Kp : (Unit × jS) → Prop} (hn : Nat.ble nX μ'.1 = true ∧ Nat.ble wX μ'.2.1 = true) (hr : ∀ (r : Unit) (s : jS), Kp ((r, s)) → rv = none ∧ μ' = eX s) (o : (Unit × jS)) (h : f_X8_empty σ x0 = some o) (hK : Kp o) : J yX8_empty cX8_empty 1 none 3 g rv μ' 0 [(0, .ref x0)] [] (eX σ) := by
  unfold f_X8_empty at h
  refine j_aload_n 0 dX8_empty_0 rfl rfl ?_
  refine j_iconst (v := 0) dX8_empty_1 (by decide) ?_
  replace h := bH_inv h
  obtain ⟨hm6, h⟩ := h
  simp only [List.mem_cons, List.not_mem_nil, or_false] at hm6
  rcases hm6 with rfl | rfl
  · skip
    replace h := bV_inv h
    obtain ⟨σ7, eσ7, h⟩ := h
    refine j_putI 6 jC_7 dX8_empty_2 kg_RX8_34 (Or.inl ff_7_6) rfl fk_7_6 (fn_7_6 _) (okX_51 _) (shX_51 _) ?_
    refine j_mem (congrArg eX eσ7) ?_
    refine j_aload_n 0 dX8_empty_5 rfl rfl ?_
    refine j_iconst (v := 0) dX8_empty_6 (by decide) ?_
    replace h := bV_inv h
    obtain ⟨σ8, eσ8, h⟩ := h
    refine j_putI 7 jC_7 dX8_empty_7 kg_RX8_38 (Or.inl ff_7_7) rfl fk_7_7 (fn_7_7 _) (okX_51 _) (shX_51 _) ?_
    refine j_mem (congrArg eX eσ8) ?_
    refine j_aload_n 0 dX8_empty_10 rfl rfl ?_
    refine j_iconst (v := 0) dX8_empty_11 (by decide) ?_
    replace h := bV_inv h
    obtain ⟨σ9, eσ9, h⟩ := h
    refine j_putI 8 jC_7 dX8_empty_12 kg_RX8_41 (Or.inl ff_7_8) rfl fk_7_8 (fn_7_8 _) (okX_51 _) (shX_51 _) ?_
    refine j_mem (congrArg eX eσ9) ?_
    refine j_aload_n 0 dX8_empty_15 rfl rfl ?_
    refine j_get (ci := 7) 5 (.ref 57) jC_7 dX8_empty_16 kg_RX8_30 rfl (okX_51 _) (shX_51 _) (fvX_51_5 _) ?_
    replace h := bD_inv h
    obtain ⟨r10, σ11, cr10, h⟩ := h
    refine j_callV (ci := 1) (st1 := _) (c_X1_empty g cr10) jy_X1_empty ki_yX1_empty ks_yX1_empty kl_RX8_44 dX8_empty_19 rfl (okX_57 _) (shX_57 _) rfl rfl rfl rfl (jbr _) (jbr _) hn.1 hn.2 (Or.inr rfl) rfl ?_
    replace h := Option.some.inj h
    subst h
    obtain ⟨hr1, hr2⟩ := hr _ _ hK
    exact j_vret dX8_empty_22 hr1 hr2
  · skip
    replace h := bV_inv h
    obtain ⟨σ12, eσ12, h⟩ := h
    refine j_putI 6 jC_7 dX8_empty_2 kg_RX8_34 (Or.inl ff_7_6) rfl fk_7_6 (fn_7_6 _) (okX_61 _) (shX_61 _) ?_
    refine j_mem (congrArg eX eσ12) ?_
    refine j_aload_n 0 dX8_empty_5 rfl rfl ?_
    refine j_iconst (v := 0) dX8_empty_6 (by decide) ?_
    replace h := bV_inv h
    obtain ⟨σ13, eσ13, h⟩ := h
    refine j_putI 7 jC_7 dX8_empty_7 kg_RX8_38 (Or.inl ff_7_7) rfl fk_7_7 (fn_7_7 _) (okX_61 _) (shX_61 _) ?_
    refine j_mem (congrArg eX eσ13) ?_
    refine j_aload_n 0 dX8_empty_10 rfl rfl ?_
    refine j_iconst (v := 0) dX8_empty_11 (by decide) ?_
    replace h := bV_inv h
    obtain ⟨σ14, eσ14, h⟩ := h
    refine j_putI 8 jC_7 dX8_empty_12 kg_RX8_41 (Or.inl ff_7_8) rfl fk_7_8 (fn_7_8 _) (okX_61 _) (shX_61 _) ?_
    refine j_mem (congrArg eX eσ14) ?_
    refine j_aload_n 0 dX8_empty_15 rfl rfl ?_
    refine j_get (ci := 7) 5 (.ref 67) jC_7 dX8_empty_16 kg_RX8_30 rfl (okX_61 _) (shX_61 _) (fvX_61_5 _) ?_
    replace h := bD_inv h
    obtain ⟨r15, σ16, cr15, h⟩ := h
    refine j_callV (ci := 1) (st1 := _) (c_X1_empty g cr15) jy_X1_empty ki_yX1_empty ks_yX1_empty kl_RX8_44 dX8_empty_19 rfl (okX_67 _) (shX_67 _) rfl rfl rfl rfl (jbr _) (jbr _) hn.1 hn.2 (Or.inr rfl) rfl ?_
    replace h := Option.some.inj h
    subst h
    obtain ⟨hr1, hr2⟩ := hr _ _ hK
    exact j_vret dX8_empty_22 hr1 hr2
theorem c_X8_empty (g : Bool) {σ : jS} {x0 : Nat} {r : Unit} {σ2 : jS} (h : f_X8_empty σ x0 = some (r, σ2)) : Cn yX8_empty cX8_empty 1 none 3 g [.ref x0] (eX σ) none (eX σ2) :=
  Cn_of (by decide) (Nat.le_refl _) (Nat.le_refl _) (Nat.le_of_ble_eq_true rfl) (f_X8_empty_ok (Kp := (fun o => o = (r, σ2))) σ x0 ⟨jbr _, jbr _⟩ (fun r2 s2 q => by cases q; exact ⟨rfl, rfl⟩) _ h rfl)
def f_X5_read_J64 (σ : jS) : Option (Int32 × jS) :=
  some ((gI σ 2 3, σ))
set_option maxHeartbeats 1000000 in
set_option maxRecDepth 20000 in
theorem f_X5_read_J64_ok {g : Bool} {rv : Option Value} {μ' : jM} (σ : jS) {Kp : (Int32 × jS) → Prop} (hn : Nat.ble nX μ'.1 = true ∧ Nat.ble wX μ'.2.1 = true) (hr : ∀ (r : Int32) (s : jS), Kp ((r, s)) → rv = some (.int r) ∧ μ' = eX s) (o : (Int32 × jS)) (h : f_X5_read_J64 σ = some o) (hK : Kp o) : J yX5_read cX5_read 3 (some .int) 10 g rv μ' 64 [(0, .ref 2)] [] (eX σ) := by
  unfold f_X5_read_J64 at h
  refine j_aload_n 0 dX5_read_64 rfl rfl ?_
  refine j_get (ci := 5) 3 (.int (gI σ 2 3)) jC_5 dX5_read_65 kg_RX5_33 rfl (okX_2 _) (shX_2 _) (fvX_2_3 _) ?_
  replace h := Option.some.inj h
  subst h
  obtain ⟨hr1, hr2⟩ := hr _ _ hK
  exact j_iret dX5_read_68 hr1 hr2
def f_X5_read_J50 (σ : jS) : Option (Int32 × jS) :=
  f_X5_read_J64 σ
set_option maxHeartbeats 1000000 in
set_option maxRecDepth 20000 in
theorem f_X5_read_J50_ok {g : Bool} {rv : Option Value} {μ' : jM} (σ : jS) {Kp : (Int32 × jS) → Prop} (hn : Nat.ble nX μ'.1 = true ∧ Nat.ble wX μ'.2.1 = true) (hr : ∀ (r : Int32) (s : jS), Kp ((r, s)) → rv = some (.int r) ∧ μ' = eX s) (o : (Int32 × jS)) (h : f_X5_read_J50 σ = some o) (hK : Kp o) : J yX5_read cX5_read 3 (some .int) 10 g rv μ' 50 [(0, .ref 2)] [] (eX σ) := by
  unfold f_X5_read_J50 at h
  refine j_goto 64 dX5_read_50 (by decide) ?_
  exact f_X5_read_J64_ok σ hn hr _ h hK
def f_X5_read_B21 (σ : jS) (x1 : Nat) (x2 : Int32) : Option ((Int32 × jS) ⊕ (Int32 × jS)) :=
  if 500 ≤ x2 then (jw (f_X5_read_J64 σ))
  else (if (gI σ 2 3) = 0 then (bD (f_X5_skipBlanks σ) fun r6 σ7 =>
  if (gI σ7 2 4) < (gI σ7 2 1) then (bD (f_X5_readClause σ7 x1) fun r8 σ9 =>
  bV (x2 + 1) fun v10 =>
  some (.inl (v10, σ9)))
  else (jw (f_X5_read_J50 σ7)))
  else (jw (f_X5_read_J64 σ)))
set_option maxHeartbeats 1000000 in
set_option maxRecDepth 20000 in
theorem f_X5_read_B21_ok {g : Bool} {rv : Option Value} {μ' : jM} (σ : jS) (x1 : Nat) (x2 : Int32) {Kp : ((Int32 × jS) ⊕ (Int32 × jS)) → Prop} (hn : Nat.ble nX μ'.1 = true ∧ Nat.ble wX μ'.2.1 = true) (hr : ∀ (r : Int32) (s : jS), Kp (.inr ((r, s))) → rv = some (.int r) ∧ μ' = eX s) (hc0 : ∀ s : (Int32 × jS), Kp (.inl s) → J yX5_read cX5_read 3 (some .int) 10 g rv μ' 21 [(0, .ref 2), (1, .ref x1), (2, .int s.1)] [] (eX s.2)) (o : ((Int32 × jS) ⊕ (Int32 × jS))) (h : f_X5_read_B21 σ x1 x2 = some o) (hK : Kp o) : J yX5_read cX5_read 3 (some .int) 10 g rv μ' 21 [(0, .ref 2), (1, .ref x1), (2, .int x2)] [] (eX σ) := by
  unfold f_X5_read_B21 at h
  refine j_iload_n 2 dX5_read_21 rfl rfl ?_
  refine j_sipush (v := 500) dX5_read_22 (by decide) ?_
  refine j_icmp_ge 64 dX5_read_25 (by decide) (fun hc11 => ?_) (fun hc11 => ?_)
  · replace h := jif_t hc11 h
    replace h := jw_inv h
    obtain ⟨o12, rfl, h⟩ := h
    refine j_sub [(0, .ref 2)] [0] rfl ?_
    exact f_X5_read_J64_ok (Kp := fun o => Kp (.inr (o))) σ hn (fun r s q => hr r s q) _ h hK
  · replace h := jif_f hc11 h
    refine j_aload_n 0 dX5_read_28 rfl rfl ?_
    refine j_get (ci := 5) 3 (.int (gI σ 2 3)) jC_5 dX5_read_29 kg_RX5_33 rfl (okX_2 _) (shX_2 _) (fvX_2_3 _) ?_
    refine j_if_ne 64 dX5_read_32 (by decide) (fun hc13 => ?_) (fun hc13 => ?_)
    · replace h := jif_f hc13 h
      replace h := jw_inv h
      obtain ⟨o14, rfl, h⟩ := h
      refine j_sub [(0, .ref 2)] [0] rfl ?_
      exact f_X5_read_J64_ok (Kp := fun o => Kp (.inr (o))) σ hn (fun r s q => hr r s q) _ h hK
    · replace h := jif_t hc13 h
      refine j_aload_n 0 dX5_read_35 rfl rfl ?_
      replace h := bD_inv h
      obtain ⟨r15, σ16, cr15, h⟩ := h
      refine j_callV (ci := 5) (st1 := _) (c_X5_skipBlanks g cr15) jy_X5_skipBlanks ki_yX5_skipBlanks ks_yX5_skipBlanks kl_RX5_39 dX5_read_36 rfl (okX_2 _) (shX_2 _) rfl rfl rfl rfl (jbr _) (jbr _) hn.1 hn.2 (Or.inr rfl) rfl ?_
      refine j_aload_n 0 dX5_read_39 rfl rfl ?_
      refine j_get (ci := 5) 4 (.int (gI σ16 2 4)) jC_5 dX5_read_40 kg_RX5_36 rfl (okX_2 _) (shX_2 _) (fvX_2_4 _) ?_
      refine j_aload_n 0 dX5_read_43 rfl rfl ?_
      refine j_get (ci := 5) 1 (.int (gI σ16 2 1)) jC_5 dX5_read_44 kg_RX5_19 rfl (okX_2 _) (shX_2 _) (fvX_2_1 _) ?_
      refine j_icmp_lt 53 dX5_read_47 (by decide) (fun hc17 => ?_) (fun hc17 => ?_)
      · replace h := jif_t hc17 h
        refine j_aload_n 0 dX5_read_53 rfl rfl ?_
        refine j_aload_n 1 dX5_read_54 rfl rfl ?_
        replace h := bD_inv h
        obtain ⟨r18, σ19, cr18, h⟩ := h
        refine j_callV (ci := 5) (st1 := _) (c_X5_readClause g cr18) jy_X5_readClause ki_yX5_readClause ks_yX5_readClause kl_RX5_42 dX5_read_55 rfl (okX_2 _) (shX_2 _) rfl rfl rfl rfl (jbr _) (jbr _) hn.1 hn.2 (Or.inr rfl) rfl ?_
        replace h := bV_inv h
        obtain ⟨v20, ev20, h⟩ := h
        refine j_iinc (v := v20) [(2, .int v20), (0, .ref 2), (1, .ref x1)] 2 dX5_read_58 rfl (by rw [ev20]; rfl) (Nat.le_of_ble_eq_true rfl) rfl ?_
        refine j_goto 21 dX5_read_61 (by decide) ?_
        replace h := Option.some.inj h
        subst h
        refine j_sub [(0, .ref 2), (1, .ref x1), (2, .int v20)] [1, 2, 0] rfl ?_
        exact hc0 _ hK
      · replace h := jif_f hc17 h
        replace h := jw_inv h
        obtain ⟨o21, rfl, h⟩ := h
        refine j_sub [(0, .ref 2)] [0] rfl ?_
        exact f_X5_read_J50_ok (Kp := fun o => Kp (.inr (o))) σ16 hn (fun r s q => hr r s q) _ h hK
def f_X5_read (σ : jS) (x1 : Nat) : Option (Int32 × jS) :=
  bH [51, 61] x1 (
  bD (f_X8_empty σ x1) fun r1 σ2 =>
  bV (sI σ2 2 3 0) fun σ3 =>
  bV (sI σ3 2 2 (-1)) fun σ4 =>
  bV (sI σ4 2 4 0) fun σ5 =>
  jloop jFuel (fun s => f_X5_read_B21 s.2 x1 s.1) (0, σ5))
set_option maxHeartbeats 1000000 in
set_option maxRecDepth 20000 in
theorem f_X5_read_ok {g : Bool} {rv : Option Value} {μ' : jM} (σ : jS) (x1 : Nat) {Kp : (Int32 × jS) → Prop} (hn : Nat.ble nX μ'.1 = true ∧ Nat.ble wX μ'.2.1 = true) (hr : ∀ (r : Int32) (s : jS), Kp ((r, s)) → rv = some (.int r) ∧ μ' = eX s) (o : (Int32 × jS)) (h : f_X5_read σ x1 = some o) (hK : Kp o) : J yX5_read cX5_read 3 (some .int) 10 g rv μ' 0 [(0, .ref 2), (1, .ref x1)] [] (eX σ) := by
  unfold f_X5_read at h
  refine j_aload_n 1 dX5_read_0 rfl rfl ?_
  replace h := bH_inv h
  obtain ⟨hm22, h⟩ := h
  simp only [List.mem_cons, List.not_mem_nil, or_false] at hm22
  rcases hm22 with rfl | rfl
  · skip
    replace h := bD_inv h
    obtain ⟨r23, σ24, cr23, h⟩ := h
    refine j_callV (ci := 7) (st1 := _) (c_X8_empty g cr23) jy_X8_empty ki_yX8_empty ks_yX8_empty kl_RX5_28 dX5_read_1 rfl (okX_51 _) (shX_51 _) rfl rfl rfl rfl (jbr _) (jbr _) hn.1 hn.2 (Or.inr rfl) rfl ?_
    refine j_aload_n 0 dX5_read_4 rfl rfl ?_
    refine j_iconst (v := 0) dX5_read_5 (by decide) ?_
    replace h := bV_inv h
    obtain ⟨σ25, eσ25, h⟩ := h
    refine j_putI 3 jC_5 dX5_read_6 kg_RX5_33 (Or.inl ff_5_3) rfl fk_5_3 (fn_5_3 _) (okX_2 _) (shX_2 _) ?_
    refine j_mem (congrArg eX eσ25) ?_
    refine j_aload_n 0 dX5_read_9 rfl rfl ?_
    refine j_iconst (v := (-1)) dX5_read_10 (by decide) ?_
    replace h := bV_inv h
    obtain ⟨σ26, eσ26, h⟩ := h
    refine j_putI 2 jC_5 dX5_read_11 kg_RX5_15 (Or.inl ff_5_2) rfl fk_5_2 (fn_5_2 _) (okX_2 _) (shX_2 _) ?_
    refine j_mem (congrArg eX eσ26) ?_
    refine j_aload_n 0 dX5_read_14 rfl rfl ?_
    refine j_iconst (v := 0) dX5_read_15 (by decide) ?_
    replace h := bV_inv h
    obtain ⟨σ27, eσ27, h⟩ := h
    refine j_putI 4 jC_5 dX5_read_16 kg_RX5_36 (Or.inl ff_5_4) rfl fk_5_4 (fn_5_4 _) (okX_2 _) (shX_2 _) ?_
    refine j_mem (congrArg eX eσ27) ?_
    refine j_iconst (v := 0) dX5_read_19 (by decide) ?_
    refine j_istore_n [(2, .int 0), (0, .ref 2), (1, .ref 51)] dX5_read_20 rfl (Nat.le_of_ble_eq_true rfl) rfl ?_
    refine j_sub [(0, .ref 2), (1, .ref 51), (2, .int 0)] [1, 2, 0] rfl ?_
    exact jloop_ok (fun s => f_X5_read_B21 s.2 51 s.1) (fun s => J yX5_read cX5_read 3 (some .int) 10 g rv μ' 21 [(0, .ref 2), (1, .ref 51), (2, .int s.1)] [] (eX s.2)) Kp (fun s o hb hk => f_X5_read_B21_ok (Kp := jsum (fun s => J yX5_read cX5_read 3 (some .int) 10 g rv μ' 21 [(0, .ref 2), (1, .ref 51), (2, .int s.1)] [] (eX s.2)) Kp) s.2 51 s.1 hn (fun r s q => hr r s q) (fun s q => q) o hb hk) jFuel _ _ h hK
  · skip
    replace h := bD_inv h
    obtain ⟨r28, σ29, cr28, h⟩ := h
    refine j_callV (ci := 7) (st1 := _) (c_X8_empty g cr28) jy_X8_empty ki_yX8_empty ks_yX8_empty kl_RX5_28 dX5_read_1 rfl (okX_61 _) (shX_61 _) rfl rfl rfl rfl (jbr _) (jbr _) hn.1 hn.2 (Or.inr rfl) rfl ?_
    refine j_aload_n 0 dX5_read_4 rfl rfl ?_
    refine j_iconst (v := 0) dX5_read_5 (by decide) ?_
    replace h := bV_inv h
    obtain ⟨σ30, eσ30, h⟩ := h
    refine j_putI 3 jC_5 dX5_read_6 kg_RX5_33 (Or.inl ff_5_3) rfl fk_5_3 (fn_5_3 _) (okX_2 _) (shX_2 _) ?_
    refine j_mem (congrArg eX eσ30) ?_
    refine j_aload_n 0 dX5_read_9 rfl rfl ?_
    refine j_iconst (v := (-1)) dX5_read_10 (by decide) ?_
    replace h := bV_inv h
    obtain ⟨σ31, eσ31, h⟩ := h
    refine j_putI 2 jC_5 dX5_read_11 kg_RX5_15 (Or.inl ff_5_2) rfl fk_5_2 (fn_5_2 _) (okX_2 _) (shX_2 _) ?_
    refine j_mem (congrArg eX eσ31) ?_
    refine j_aload_n 0 dX5_read_14 rfl rfl ?_
    refine j_iconst (v := 0) dX5_read_15 (by decide) ?_
    replace h := bV_inv h
    obtain ⟨σ32, eσ32, h⟩ := h
    refine j_putI 4 jC_5 dX5_read_16 kg_RX5_36 (Or.inl ff_5_4) rfl fk_5_4 (fn_5_4 _) (okX_2 _) (shX_2 _) ?_
    refine j_mem (congrArg eX eσ32) ?_
    refine j_iconst (v := 0) dX5_read_19 (by decide) ?_
    refine j_istore_n [(2, .int 0), (0, .ref 2), (1, .ref 61)] dX5_read_20 rfl (Nat.le_of_ble_eq_true rfl) rfl ?_
    refine j_sub [(0, .ref 2), (1, .ref 61), (2, .int 0)] [1, 2, 0] rfl ?_
    exact jloop_ok (fun s => f_X5_read_B21 s.2 61 s.1) (fun s => J yX5_read cX5_read 3 (some .int) 10 g rv μ' 21 [(0, .ref 2), (1, .ref 61), (2, .int s.1)] [] (eX s.2)) Kp (fun s o hb hk => f_X5_read_B21_ok (Kp := jsum (fun s => J yX5_read cX5_read 3 (some .int) 10 g rv μ' 21 [(0, .ref 2), (1, .ref 61), (2, .int s.1)] [] (eX s.2)) Kp) s.2 61 s.1 hn (fun r s q => hr r s q) (fun s q => q) o hb hk) jFuel _ _ h hK
theorem c_X5_read (g : Bool) {σ : jS} {x1 : Nat} {r : Int32} {σ2 : jS} (h : f_X5_read σ x1 = some (r, σ2)) : Cn yX5_read cX5_read 3 (some .int) 10 g [.ref 2, .ref x1] (eX σ) (some (.int r)) (eX σ2) :=
  Cn_of (by decide) (Nat.le_refl _) (Nat.le_refl _) (Nat.le_of_ble_eq_true rfl) (f_X5_read_ok (Kp := (fun o => o = (r, σ2))) σ x1 ⟨jbr _, jbr _⟩ (fun r2 s2 q => by cases q; exact ⟨rfl, rfl⟩) _ h rfl)
def f_X10_town_J154 (σ : jS) : Option (Int32 × jS) :=
  bD (f_X10_settle σ) fun r15 σ16 =>
  bV (σ16.2.2.1) fun t17 =>
  bH [51, 61] t17 (
  some ((gI σ16 t17 6, σ16)))
set_option maxHeartbeats 1000000 in
set_option maxRecDepth 20000 in
theorem f_X10_town_J154_ok {g : Bool} {rv : Option Value} {μ' : jM} (σ : jS) {Kp : (Int32 × jS) → Prop} (hn : Nat.ble nX μ'.1 = true ∧ Nat.ble wX μ'.2.1 = true) (hr : ∀ (r : Int32) (s : jS), Kp ((r, s)) → rv = some (.int r) ∧ μ' = eX s) (o : (Int32 × jS)) (h : f_X10_town_J154 σ = some o) (hK : Kp o) : J yX10_town cX10_town 5 (some .int) 11 g rv μ' 154 [(0, .ref 1)] [] (eX σ) := by
  unfold f_X10_town_J154 at h
  refine j_aload_n 0 dX10_town_154 rfl rfl ?_
  replace h := bD_inv h
  obtain ⟨r18, σ19, cr18, h⟩ := h
  refine j_callV (ci := 9) (st1 := _) (c_X10_settle g cr18) jy_X10_settle ki_yX10_settle ks_yX10_settle kl_RX10_122 dX10_town_155 rfl (okX_1 _) (shX_1 _) rfl rfl rfl rfl (jbr _) (jbr _) hn.1 hn.2 (Or.inr rfl) rfl ?_
  refine j_aload_n 0 dX10_town_158 rfl rfl ?_
  refine j_get (ci := 9) 7 (.ref (σ19.2.2.1)) jC_9 dX10_town_159 kg_RX10_58 rfl (okX_1 _) (shX_1 _) (fvX_1_7 _) ?_
  replace h := bV_inv h
  obtain ⟨t20, et20, h⟩ := h
  refine j_nmr et20 ?_
  replace h := bH_inv h
  obtain ⟨hm21, h⟩ := h
  simp only [List.mem_cons, List.not_mem_nil, or_false] at hm21
  rcases hm21 with rfl | rfl
  · skip
    refine j_get (ci := 7) 6 (.int (gI σ19 51 6)) jC_7 dX10_town_162 kg_RX10_125 rfl (okX_51 _) (shX_51 _) (fvX_51_6 _) ?_
    replace h := Option.some.inj h
    subst h
    obtain ⟨hr1, hr2⟩ := hr _ _ hK
    exact j_iret dX10_town_165 hr1 hr2
  · skip
    refine j_get (ci := 7) 6 (.int (gI σ19 61 6)) jC_7 dX10_town_162 kg_RX10_125 rfl (okX_61 _) (shX_61 _) (fvX_61_6 _) ?_
    replace h := Option.some.inj h
    subst h
    obtain ⟨hr1, hr2⟩ := hr _ _ hK
    exact j_iret dX10_town_165 hr1 hr2
def f_X10_town_J148 (σ : jS) (x3 : Int32) : Option ((Int32 × jS) ⊕ (Int32 × jS)) :=
  bV (x3 + 1) fun v23 =>
  some (.inl (v23, σ))
set_option maxHeartbeats 1000000 in
set_option maxRecDepth 20000 in
theorem f_X10_town_J148_ok {g : Bool} {rv : Option Value} {μ' : jM} (σ : jS) (x3 : Int32) {Kp : ((Int32 × jS) ⊕ (Int32 × jS)) → Prop} (hn : Nat.ble nX μ'.1 = true ∧ Nat.ble wX μ'.2.1 = true) (hr : ∀ (r : Int32) (s : jS), Kp (.inr ((r, s))) → rv = some (.int r) ∧ μ' = eX s) (hc0 : ∀ s : (Int32 × jS), Kp (.inl s) → J yX10_town cX10_town 5 (some .int) 11 g rv μ' 125 [(0, .ref 1), (3, .int s.1)] [] (eX s.2)) (o : ((Int32 × jS) ⊕ (Int32 × jS))) (h : f_X10_town_J148 σ x3 = some o) (hK : Kp o) : J yX10_town cX10_town 5 (some .int) 11 g rv μ' 148 [(0, .ref 1), (3, .int x3)] [] (eX σ) := by
  unfold f_X10_town_J148 at h
  replace h := bV_inv h
  obtain ⟨v24, ev24, h⟩ := h
  refine j_iinc (v := v24) [(3, .int v24), (0, .ref 1)] 1 dX10_town_148 rfl (by rw [ev24]; rfl) (Nat.le_of_ble_eq_true rfl) rfl ?_
  refine j_goto 125 dX10_town_151 (by decide) ?_
  replace h := Option.some.inj h
  subst h
  refine j_sub [(0, .ref 1), (3, .int v24)] [1, 0] rfl ?_
  exact hc0 _ hK
def f_X10_town_B125 (σ : jS) (x3 : Int32) : Option ((Int32 × jS) ⊕ (Int32 × jS)) :=
  if 2 ≤ x3 then (jw (f_X10_town_J154 σ))
  else (bC (f_X10_imageAt σ x3) fun r22 =>
  if r22 = 0 then (f_X10_town_J148 σ x3)
  else (bH [29, 37, 44] r22 (
  bV (sI σ r22 6 0) fun σ25 =>
  f_X10_town_J148 σ25 x3)))
set_option maxHeartbeats 1000000 in
set_option maxRecDepth 20000 in
theorem f_X10_town_B125_ok {g : Bool} {rv : Option Value} {μ' : jM} (σ : jS) (x3 : Int32) {Kp : ((Int32 × jS) ⊕ (Int32 × jS)) → Prop} (hn : Nat.ble nX μ'.1 = true ∧ Nat.ble wX μ'.2.1 = true) (hr : ∀ (r : Int32) (s : jS), Kp (.inr ((r, s))) → rv = some (.int r) ∧ μ' = eX s) (hc0 : ∀ s : (Int32 × jS), Kp (.inl s) → J yX10_town cX10_town 5 (some .int) 11 g rv μ' 125 [(0, .ref 1), (3, .int s.1)] [] (eX s.2)) (o : ((Int32 × jS) ⊕ (Int32 × jS))) (h : f_X10_town_B125 σ x3 = some o) (hK : Kp o) : J yX10_town cX10_town 5 (some .int) 11 g rv μ' 125 [(0, .ref 1), (3, .int x3)] [] (eX σ) := by
  unfold f_X10_town_B125 at h
  refine j_iload_n 1 dX10_town_125 rfl rfl ?_
  refine j_iconst (v := 2) dX10_town_126 (by decide) ?_
  refine j_icmp_ge 154 dX10_town_127 (by decide) (fun hc26 => ?_) (fun hc26 => ?_)
  · replace h := jif_t hc26 h
    replace h := jw_inv h
    obtain ⟨o27, rfl, h⟩ := h
    refine j_sub [(0, .ref 1)] [0] rfl ?_
    exact f_X10_town_J154_ok (Kp := fun o => Kp (.inr (o))) σ hn (fun r s q => hr r s q) _ h hK
  · replace h := jif_f hc26 h
    refine j_aload_n 0 dX10_town_130 rfl rfl ?_
    refine j_iload_n 1 dX10_town_131 rfl rfl ?_
    replace h := bC_inv h
    obtain ⟨r28, cr28, h⟩ := h
    refine j_callV (ci := 9) (st1 := .ref r28 :: _) (c_X10_imageAt g cr28) jy_X10_imageAt ki_yX10_imageAt ks_yX10_imageAt kl_RX10_114 dX10_town_132 rfl (okX_1 _) (shX_1 _) rfl rfl rfl rfl (jbr _) (jbr _) hn.1 hn.2 (Or.inr rfl) rfl ?_
    refine j_astore [(4, .ref r28), (0, .ref 1), (3, .int x3)] dX10_town_135 (Nat.le_of_ble_eq_true rfl) rfl ?_
    refine j_aload 0 dX10_town_137 rfl ?_
    refine j_ifnull 148 dX10_town_139 (by decide) (fun hc29 => ?_) (fun hc29 => ?_)
    · replace h := jif_t hc29 h
      refine j_sub [(0, .ref 1), (3, .int x3)] [1, 2] rfl ?_
      exact f_X10_town_J148_ok σ x3 hn hr hc0 _ h hK
    · replace h := jif_f hc29 h
      refine j_aload 0 dX10_town_142 rfl ?_
      refine j_iconst (v := 0) dX10_town_144 (by decide) ?_
      replace h := bH_inv h
      obtain ⟨hm30, h⟩ := h
      simp only [List.mem_cons, List.not_mem_nil, or_false] at hm30
      rcases hm30 with rfl | rfl | rfl
      · skip
        replace h := bV_inv h
        obtain ⟨σ31, eσ31, h⟩ := h
        refine j_putI 6 jC_6 dX10_town_145 kg_RX10_118 (Or.inl ff_6_6) rfl fk_6_6 (fn_6_6 (x := 0) rfl) (okX_29 _) (shX_29 _) ?_
        refine j_mem (congrArg eX eσ31) ?_
        refine j_sub [(0, .ref 1), (3, .int x3)] [1, 2] rfl ?_
        exact f_X10_town_J148_ok σ31 x3 hn hr hc0 _ h hK
      · skip
        replace h := bV_inv h
        obtain ⟨σ32, eσ32, h⟩ := h
        refine j_putI 6 jC_6 dX10_town_145 kg_RX10_118 (Or.inl ff_6_6) rfl fk_6_6 (fn_6_6 (x := 0) rfl) (okX_37 _) (shX_37 _) ?_
        refine j_mem (congrArg eX eσ32) ?_
        refine j_sub [(0, .ref 1), (3, .int x3)] [1, 2] rfl ?_
        exact f_X10_town_J148_ok σ32 x3 hn hr hc0 _ h hK
      · skip
        replace h := bV_inv h
        obtain ⟨σ33, eσ33, h⟩ := h
        refine j_putI 6 jC_6 dX10_town_145 kg_RX10_118 (Or.inl ff_6_6) rfl fk_6_6 (fn_6_6 (x := 0) rfl) (okX_44 _) (shX_44 _) ?_
        refine j_mem (congrArg eX eσ33) ?_
        refine j_sub [(0, .ref 1), (3, .int x3)] [1, 2] rfl ?_
        exact f_X10_town_J148_ok σ33 x3 hn hr hc0 _ h hK
def f_X10_town_J116 (σ : jS) : Option (Int32 × jS) :=
  bD (f_X3_empty σ) fun r13 σ14 =>
  jloop jFuel (fun s => f_X10_town_B125 s.2 s.1) (0, σ14)
set_option maxHeartbeats 1000000 in
set_option maxRecDepth 20000 in
theorem f_X10_town_J116_ok {g : Bool} {rv : Option Value} {μ' : jM} (σ : jS) {Kp : (Int32 × jS) → Prop} (hn : Nat.ble nX μ'.1 = true ∧ Nat.ble wX μ'.2.1 = true) (hr : ∀ (r : Int32) (s : jS), Kp ((r, s)) → rv = some (.int r) ∧ μ' = eX s) (o : (Int32 × jS)) (h : f_X10_town_J116 σ = some o) (hK : Kp o) : J yX10_town cX10_town 5 (some .int) 11 g rv μ' 116 [(0, .ref 1)] [] (eX σ) := by
  unfold f_X10_town_J116 at h
  refine j_aload_n 0 dX10_town_116 rfl rfl ?_
  refine j_get (ci := 9) 4 (.ref 23) jC_9 dX10_town_117 kg_RX10_40 rfl (okX_1 _) (shX_1 _) (fvX_1_4 _) ?_
  replace h := bD_inv h
  obtain ⟨r34, σ35, cr34, h⟩ := h
  refine j_callV (ci := 3) (st1 := _) (c_X3_empty g cr34) jy_X3_empty ki_yX3_empty ks_yX3_empty kl_RX10_111 dX10_town_120 rfl (okX_23 _) (shX_23 _) rfl rfl rfl rfl (jbr _) (jbr _) hn.1 hn.2 (Or.inr rfl) rfl ?_
  refine j_iconst (v := 0) dX10_town_123 (by decide) ?_
  refine j_istore_n [(3, .int 0), (0, .ref 1)] dX10_town_124 rfl (Nat.le_of_ble_eq_true rfl) rfl ?_
  refine j_sub [(0, .ref 1), (3, .int 0)] [1, 0] rfl ?_
  exact jloop_ok (fun s => f_X10_town_B125 s.2 s.1) (fun s => J yX10_town cX10_town 5 (some .int) 11 g rv μ' 125 [(0, .ref 1), (3, .int s.1)] [] (eX s.2)) Kp (fun s o hb hk => f_X10_town_B125_ok (Kp := jsum (fun s => J yX10_town cX10_town 5 (some .int) 11 g rv μ' 125 [(0, .ref 1), (3, .int s.1)] [] (eX s.2)) Kp) s.2 s.1 hn (fun r s q => hr r s q) (fun s q => q) o hb hk) jFuel _ _ h hK
def f_X10_town_B77 (σ : jS) (x3 : Int32) : Option ((Int32 × jS) ⊕ (Int32 × jS)) :=
  if 4 ≤ x3 then (jw (f_X10_town_J116 σ))
  else (bC (f_X10_toldHow σ x3) fun r36 =>
  bD (f_X6_put σ 30 x3 r36) fun r37 σ38 =>
  bD (f_X6_put σ38 31 x3 0) fun r39 σ40 =>
  bV (x3 + 1) fun v41 =>
  some (.inl (v41, σ40)))
set_option maxHeartbeats 1000000 in
set_option maxRecDepth 20000 in
theorem f_X10_town_B77_ok {g : Bool} {rv : Option Value} {μ' : jM} (σ : jS) (x3 : Int32) {Kp : ((Int32 × jS) ⊕ (Int32 × jS)) → Prop} (hn : Nat.ble nX μ'.1 = true ∧ Nat.ble wX μ'.2.1 = true) (hr : ∀ (r : Int32) (s : jS), Kp (.inr ((r, s))) → rv = some (.int r) ∧ μ' = eX s) (hc0 : ∀ s : (Int32 × jS), Kp (.inl s) → J yX10_town cX10_town 5 (some .int) 11 g rv μ' 77 [(0, .ref 1), (3, .int s.1)] [] (eX s.2)) (o : ((Int32 × jS) ⊕ (Int32 × jS))) (h : f_X10_town_B77 σ x3 = some o) (hK : Kp o) : J yX10_town cX10_town 5 (some .int) 11 g rv μ' 77 [(0, .ref 1), (3, .int x3)] [] (eX σ) := by
  unfold f_X10_town_B77 at h
  refine j_iload_n 1 dX10_town_77 rfl rfl ?_
  refine j_iconst (v := 4) dX10_town_78 (by decide) ?_
  refine j_icmp_ge 116 dX10_town_79 (by decide) (fun hc42 => ?_) (fun hc42 => ?_)
  · replace h := jif_t hc42 h
    replace h := jw_inv h
    obtain ⟨o43, rfl, h⟩ := h
    refine j_sub [(0, .ref 1)] [0] rfl ?_
    exact f_X10_town_J116_ok (Kp := fun o => Kp (.inr (o))) σ hn (fun r s q => hr r s q) _ h hK
  · replace h := jif_f hc42 h
    refine j_aload_n 0 dX10_town_82 rfl rfl ?_
    refine j_get (ci := 9) 5 (.ref 29) jC_9 dX10_town_83 kg_RX10_47 rfl (okX_1 _) (shX_1 _) (fvX_1_5 _) ?_
    refine j_get (ci := 6) 0 (.ref 30) jC_6 dX10_town_86 kg_RX10_94 rfl (okX_29 _) (shX_29 _) (fvX_29_0 _) ?_
    refine j_iload_n 1 dX10_town_89 rfl rfl ?_
    refine j_aload_n 0 dX10_town_90 rfl rfl ?_
    refine j_iload_n 1 dX10_town_91 rfl rfl ?_
    replace h := bC_inv h
    obtain ⟨r44, cr44, h⟩ := h
    refine j_callV (ci := 9) (st1 := .int r44 :: _) (c_X10_toldHow g cr44) jy_X10_toldHow ki_yX10_toldHow ks_yX10_toldHow kl_RX10_98 dX10_town_92 rfl (okX_1 _) (shX_1 _) rfl rfl rfl rfl (jbr _) (jbr _) hn.1 hn.2 (Or.inr rfl) rfl ?_
    replace h := bD_inv h
    obtain ⟨r45, σ46, cr45, h⟩ := h
    refine j_callS (st1 := _) (c_X6_put g cr45) jy_X6_put kt_yX6_put kl_RX10_102 dX10_town_95 rfl rfl rfl rfl (jbr _) (jbr _) hn.1 hn.2 (Or.inr rfl) rfl ?_
    refine j_aload_n 0 dX10_town_98 rfl rfl ?_
    refine j_get (ci := 9) 5 (.ref 29) jC_9 dX10_town_99 kg_RX10_47 rfl (okX_1 _) (shX_1 _) (fvX_1_5 _) ?_
    refine j_get (ci := 6) 1 (.ref 31) jC_6 dX10_town_102 kg_RX10_108 rfl (okX_29 _) (shX_29 _) (fvX_29_1 _) ?_
    refine j_iload_n 1 dX10_town_105 rfl rfl ?_
    refine j_iconst (v := 0) dX10_town_106 (by decide) ?_
    replace h := bD_inv h
    obtain ⟨r47, σ48, cr47, h⟩ := h
    refine j_callS (st1 := _) (c_X6_put g cr47) jy_X6_put kt_yX6_put kl_RX10_102 dX10_town_107 rfl rfl rfl rfl (jbr _) (jbr _) hn.1 hn.2 (Or.inr rfl) rfl ?_
    replace h := bV_inv h
    obtain ⟨v49, ev49, h⟩ := h
    refine j_iinc (v := v49) [(3, .int v49), (0, .ref 1)] 1 dX10_town_110 rfl (by rw [ev49]; rfl) (Nat.le_of_ble_eq_true rfl) rfl ?_
    refine j_goto 77 dX10_town_113 (by decide) ?_
    replace h := Option.some.inj h
    subst h
    refine j_sub [(0, .ref 1), (3, .int v49)] [1, 0] rfl ?_
    exact hc0 _ hK
def f_X10_town (σ : jS) : Option (Int32 × jS) :=
  bV (σ.2.2.2) fun t1 =>
  bD (f_X5_read σ t1) fun r2 σ3 =>
  bV (sI σ3 1 9 (gI σ3 2 2)) fun σ4 =>
  bV (sI σ4 2 1 0) fun σ5 =>
  if r2 = 0 then (bV (σ5.2.2.1) fun t6 =>
  bV (σ5.2.2.2) fun t7 =>
  bV (sT σ5 t7) fun σ8 =>
  bV (sU σ8 t6) fun σ9 =>
  bV (σ9.2.2.1) fun t10 =>
  bH [51, 61] t10 (
  bD (f_X1_take σ9 32 (rPX t10 5)) fun r11 σ12 =>
  jloop jFuel (fun s => f_X10_town_B77 s.2 s.1) (0, σ12)))
  else (some ((((-10) : Int32) - r2, σ5)))
set_option maxHeartbeats 1000000 in
set_option maxRecDepth 20000 in
theorem f_X10_town_ok {g : Bool} {rv : Option Value} {μ' : jM} (σ : jS) {Kp : (Int32 × jS) → Prop} (hn : Nat.ble nX μ'.1 = true ∧ Nat.ble wX μ'.2.1 = true) (hr : ∀ (r : Int32) (s : jS), Kp ((r, s)) → rv = some (.int r) ∧ μ' = eX s) (o : (Int32 × jS)) (h : f_X10_town σ = some o) (hK : Kp o) : J yX10_town cX10_town 5 (some .int) 11 g rv μ' 0 [(0, .ref 1)] [] (eX σ) := by
  unfold f_X10_town at h
  refine j_aload_n 0 dX10_town_0 rfl rfl ?_
  refine j_get (ci := 9) 0 (.ref 2) jC_9 dX10_town_1 kg_RX10_12 rfl (okX_1 _) (shX_1 _) (fvX_1_0 _) ?_
  refine j_aload_n 0 dX10_town_4 rfl rfl ?_
  refine j_get (ci := 9) 8 (.ref (σ.2.2.2)) jC_9 dX10_town_5 kg_RX10_62 rfl (okX_1 _) (shX_1 _) (fvX_1_8 _) ?_
  replace h := bV_inv h
  obtain ⟨t50, et50, h⟩ := h
  refine j_nmr et50 ?_
  replace h := bD_inv h
  obtain ⟨r51, σ52, cr51, h⟩ := h
  refine j_callV (ci := 5) (st1 := .int r51 :: _) (c_X5_read g cr51) jy_X5_read ki_yX5_read ks_yX5_read kl_RX10_76 dX10_town_8 rfl (okX_2 _) (shX_2 _) rfl rfl rfl rfl (jbr _) (jbr _) hn.1 hn.2 (Or.inr rfl) rfl ?_
  refine j_istore_n [(1, .int r51), (0, .ref 1)] dX10_town_11 rfl (Nat.le_of_ble_eq_true rfl) rfl ?_
  refine j_aload_n 1 dX10_town_12 rfl rfl ?_
  refine j_aload_n 1 dX10_town_13 rfl rfl ?_
  refine j_get (ci := 9) 0 (.ref 2) jC_9 dX10_town_14 kg_RX10_12 rfl (okX_1 _) (shX_1 _) (fvX_1_0 _) ?_
  refine j_get (ci := 5) 2 (.int (gI σ52 2 2)) jC_5 dX10_town_17 kg_RX10_80 rfl (okX_2 _) (shX_2 _) (fvX_2_2 _) ?_
  replace h := bV_inv h
  obtain ⟨σ53, eσ53, h⟩ := h
  refine j_putI 9 jC_9 dX10_town_20 kg_RX10_65 (Or.inl ff_9_9) rfl fk_9_9 (fn_9_9 _) (okX_1 _) (shX_1 _) ?_
  refine j_mem (congrArg eX eσ53) ?_
  refine j_aload_n 1 dX10_town_23 rfl rfl ?_
  refine j_get (ci := 9) 0 (.ref 2) jC_9 dX10_town_24 kg_RX10_12 rfl (okX_1 _) (shX_1 _) (fvX_1_0 _) ?_
  refine j_iconst (v := 0) dX10_town_27 (by decide) ?_
  replace h := bV_inv h
  obtain ⟨σ54, eσ54, h⟩ := h
  refine j_putI 1 jC_5 dX10_town_28 kg_RX10_69 (Or.inl ff_5_1) rfl fk_5_1 (fn_5_1 _) (okX_2 _) (shX_2 _) ?_
  refine j_mem (congrArg eX eσ54) ?_
  refine j_iload_n 0 dX10_town_31 rfl rfl ?_
  refine j_if_eq 40 dX10_town_32 (by decide) (fun hc55 => ?_) (fun hc55 => ?_)
  · replace h := jif_t hc55 h
    refine j_aload_n 1 dX10_town_40 rfl rfl ?_
    refine j_get (ci := 9) 7 (.ref (σ54.2.2.1)) jC_9 dX10_town_41 kg_RX10_58 rfl (okX_1 _) (shX_1 _) (fvX_1_7 _) ?_
    replace h := bV_inv h
    obtain ⟨t56, et56, h⟩ := h
    refine j_nmr et56 ?_
    refine j_astore_n [(2, .ref t56), (1, .int r51), (0, .ref 1)] dX10_town_44 rfl (Nat.le_of_ble_eq_true rfl) rfl ?_
    refine j_aload_n 2 dX10_town_45 rfl rfl ?_
    refine j_aload_n 2 dX10_town_46 rfl rfl ?_
    refine j_get (ci := 9) 8 (.ref (σ54.2.2.2)) jC_9 dX10_town_47 kg_RX10_62 rfl (okX_1 _) (shX_1 _) (fvX_1_8 _) ?_
    replace h := bV_inv h
    obtain ⟨t57, et57, h⟩ := h
    refine j_nmr et57 ?_
    replace h := bV_inv h
    obtain ⟨σ58, eσ58, h⟩ := h
    refine j_putP 7 jC_9 dX10_town_50 kg_RX10_58 (Or.inl ff_9_7) rfl fk_9_7 (fn_9_7 _) (okX_1 _) (shX_1 _) ?_
    refine j_mem (eX_T eσ58) ?_
    refine j_aload_n 2 dX10_town_53 rfl rfl ?_
    refine j_aload_n 0 dX10_town_54 rfl rfl ?_
    replace h := bV_inv h
    obtain ⟨σ59, eσ59, h⟩ := h
    refine j_putP 8 jC_9 dX10_town_55 kg_RX10_62 (Or.inl ff_9_8) rfl fk_9_8 (fn_9_8 _) (okX_1 _) (shX_1 _) ?_
    refine j_mem (eX_U eσ59) ?_
    refine j_aload_n 2 dX10_town_58 rfl rfl ?_
    refine j_get (ci := 9) 5 (.ref 29) jC_9 dX10_town_59 kg_RX10_47 rfl (okX_1 _) (shX_1 _) (fvX_1_5 _) ?_
    refine j_get (ci := 6) 2 (.ref 32) jC_6 dX10_town_62 kg_RX10_83 rfl (okX_29 _) (shX_29 _) (fvX_29_2 _) ?_
    refine j_aload_n 2 dX10_town_65 rfl rfl ?_
    refine j_get (ci := 9) 7 (.ref (σ59.2.2.1)) jC_9 dX10_town_66 kg_RX10_58 rfl (okX_1 _) (shX_1 _) (fvX_1_7 _) ?_
    replace h := bV_inv h
    obtain ⟨t60, et60, h⟩ := h
    refine j_nmr et60 ?_
    replace h := bH_inv h
    obtain ⟨hm61, h⟩ := h
    simp only [List.mem_cons, List.not_mem_nil, or_false] at hm61
    rcases hm61 with rfl | rfl
    · skip
      refine j_get (ci := 7) 5 (.ref 57) jC_7 dX10_town_69 kg_RX10_87 rfl (okX_51 _) (shX_51 _) (fvX_51_5 _) ?_
      replace h := bD_inv h
      obtain ⟨r62, σ63, cr62, h⟩ := h
      refine j_callV (ci := 1) (st1 := _) (c_X1_take g cr62) jy_X1_take ki_yX1_take ks_yX1_take kl_RX10_88 dX10_town_72 rfl (okX_32 _) (shX_32 _) rfl rfl rfl rfl (jbr _) (jbr _) hn.1 hn.2 (Or.inr rfl) rfl ?_
      refine j_iconst (v := 0) dX10_town_75 (by decide) ?_
      refine j_istore_n [(3, .int 0), (2, .ref t56), (1, .int r51), (0, .ref 1)] dX10_town_76 rfl (Nat.le_of_ble_eq_true rfl) rfl ?_
      refine j_sub [(0, .ref 1), (3, .int 0)] [3, 0] rfl ?_
      exact jloop_ok (fun s => f_X10_town_B77 s.2 s.1) (fun s => J yX10_town cX10_town 5 (some .int) 11 g rv μ' 77 [(0, .ref 1), (3, .int s.1)] [] (eX s.2)) Kp (fun s o hb hk => f_X10_town_B77_ok (Kp := jsum (fun s => J yX10_town cX10_town 5 (some .int) 11 g rv μ' 77 [(0, .ref 1), (3, .int s.1)] [] (eX s.2)) Kp) s.2 s.1 hn (fun r s q => hr r s q) (fun s q => q) o hb hk) jFuel _ _ h hK
    · skip
      refine j_get (ci := 7) 5 (.ref 67) jC_7 dX10_town_69 kg_RX10_87 rfl (okX_61 _) (shX_61 _) (fvX_61_5 _) ?_
      replace h := bD_inv h
      obtain ⟨r64, σ65, cr64, h⟩ := h
      refine j_callV (ci := 1) (st1 := _) (c_X1_take g cr64) jy_X1_take ki_yX1_take ks_yX1_take kl_RX10_88 dX10_town_72 rfl (okX_32 _) (shX_32 _) rfl rfl rfl rfl (jbr _) (jbr _) hn.1 hn.2 (Or.inr rfl) rfl ?_
      refine j_iconst (v := 0) dX10_town_75 (by decide) ?_
      refine j_istore_n [(3, .int 0), (2, .ref t56), (1, .int r51), (0, .ref 1)] dX10_town_76 rfl (Nat.le_of_ble_eq_true rfl) rfl ?_
      refine j_sub [(0, .ref 1), (3, .int 0)] [3, 0] rfl ?_
      exact jloop_ok (fun s => f_X10_town_B77 s.2 s.1) (fun s => J yX10_town cX10_town 5 (some .int) 11 g rv μ' 77 [(0, .ref 1), (3, .int s.1)] [] (eX s.2)) Kp (fun s o hb hk => f_X10_town_B77_ok (Kp := jsum (fun s => J yX10_town cX10_town 5 (some .int) 11 g rv μ' 77 [(0, .ref 1), (3, .int s.1)] [] (eX s.2)) Kp) s.2 s.1 hn (fun r s q => hr r s q) (fun s q => q) o hb hk) jFuel _ _ h hK
  · replace h := jif_f hc55 h
    refine j_bipush (v := (-10)) dX10_town_35 (by decide) ?_
    refine j_iload_n 0 dX10_town_37 rfl rfl ?_
    refine j_isub dX10_town_38 ?_
    replace h := Option.some.inj h
    subst h
    obtain ⟨hr1, hr2⟩ := hr _ _ hK
    exact j_iret dX10_town_39 hr1 hr2
theorem c_X10_town (g : Bool) {σ : jS} {r : Int32} {σ2 : jS} (h : f_X10_town σ = some (r, σ2)) : Cn yX10_town cX10_town 5 (some .int) 11 g [.ref 1] (eX σ) (some (.int r)) (eX σ2) :=
  Cn_of (by decide) (Nat.le_refl _) (Nat.le_refl _) (Nat.le_of_ble_eq_true rfl) (f_X10_town_ok (Kp := (fun o => o = (r, σ2))) σ ⟨jbr _, jbr _⟩ (fun r2 s2 q => by cases q; exact ⟨rfl, rfl⟩) _ h rfl)
def f_X10_fault (σ : jS) : Option Int32 :=
  some ((gI σ 1 9))
set_option maxHeartbeats 1000000 in
set_option maxRecDepth 20000 in
theorem f_X10_fault_ok {g : Bool} {rv : Option Value} {μ' : jM} (σ : jS) {Kp : Int32 → Prop} (hn : Nat.ble nX μ'.1 = true ∧ Nat.ble wX μ'.2.1 = true) (hr : ∀ r : Int32, Kp (r) → rv = some (.int r) ∧ μ' = (eX σ)) (o : Int32) (h : f_X10_fault σ = some o) (hK : Kp o) : J yX10_fault cX10_fault 1 (some .int) 1 g rv μ' 0 [(0, .ref 1)] [] (eX σ) := by
  unfold f_X10_fault at h
  refine j_aload_n 0 dX10_fault_0 rfl rfl ?_
  refine j_get (ci := 9) 9 (.int (gI σ 1 9)) jC_9 dX10_fault_1 kg_RX10_65 rfl (okX_1 _) (shX_1 _) (fvX_1_9 _) ?_
  replace h := Option.some.inj h
  subst h
  obtain ⟨hr1, hr2⟩ := hr _ hK
  exact j_iret dX10_fault_4 hr1 hr2
theorem c_X10_fault (g : Bool) {σ : jS} {r : Int32} (h : f_X10_fault σ = some r) : Cn yX10_fault cX10_fault 1 (some .int) 1 g [.ref 1] (eX σ) (some (.int r)) (eX σ) :=
  Cn_of (by decide) (Nat.le_refl _) (Nat.le_refl _) (Nat.le_of_ble_eq_true rfl) (f_X10_fault_ok (Kp := (fun o => o = r)) σ ⟨jbr _, jbr _⟩ (fun r2 q => by cases q; exact ⟨rfl, rfl⟩) _ h rfl)
def f_X10_count (σ : jS) (x1 : Int32) : Option Int32 :=
  if x1 = 0 then (bV (σ.2.2.1) fun t1 =>
  bH [51, 61] t1 (
  some ((gI σ t1 6))))
  else if x1 = 1 then (bV (σ.2.2.1) fun t2 =>
  bH [51, 61] t2 (
  some ((gI σ t2 7))))
  else if x1 = 2 then (some ((gI σ 32 3)))
  else if x1 = 3 then (bV (σ.2.2.1) fun t3 =>
  bH [51, 61] t3 (
  some ((gI σ t3 8))))
  else if x1 = 4 then (some ((gI σ 2 1)))
  else if x1 = 5 then (some ((gI σ 23 2)))
  else if x1 = 6 then (some ((gI σ 23 3)))
  else (some ((-1002)))
set_option maxHeartbeats 1000000 in
set_option maxRecDepth 20000 in
theorem f_X10_count_ok {g : Bool} {rv : Option Value} {μ' : jM} (σ : jS) (x1 : Int32) {Kp : Int32 → Prop} (hn : Nat.ble nX μ'.1 = true ∧ Nat.ble wX μ'.2.1 = true) (hr : ∀ r : Int32, Kp (r) → rv = some (.int r) ∧ μ' = (eX σ)) (o : Int32) (h : f_X10_count σ x1 = some o) (hK : Kp o) : J yX10_count cX10_count 2 (some .int) 1 g rv μ' 0 [(0, .ref 1), (1, .int x1)] [] (eX σ) := by
  unfold f_X10_count at h
  refine j_iload_n 1 dX10_count_0 rfl rfl ?_
  by_cases hc4 : x1 = 0
  · replace h := jif_t hc4 h
    refine j_tblIn 44 dX10_count_1 (by rw [hc4]; decide) (by rw [hc4]; decide) (by rw [hc4]; rfl) (by decide) ?_
    refine j_aload_n 0 dX10_count_44 rfl rfl ?_
    refine j_get (ci := 9) 7 (.ref (σ.2.2.1)) jC_9 dX10_count_45 kg_RX10_58 rfl (okX_1 _) (shX_1 _) (fvX_1_7 _) ?_
    replace h := bV_inv h
    obtain ⟨t5, et5, h⟩ := h
    refine j_nmr et5 ?_
    replace h := bH_inv h
    obtain ⟨hm6, h⟩ := h
    simp only [List.mem_cons, List.not_mem_nil, or_false] at hm6
    rcases hm6 with rfl | rfl
    · skip
      refine j_get (ci := 7) 6 (.int (gI σ 51 6)) jC_7 dX10_count_48 kg_RX10_125 rfl (okX_51 _) (shX_51 _) (fvX_51_6 _) ?_
      replace h := Option.some.inj h
      subst h
      obtain ⟨hr1, hr2⟩ := hr _ hK
      exact j_iret dX10_count_51 hr1 hr2
    · skip
      refine j_get (ci := 7) 6 (.int (gI σ 61 6)) jC_7 dX10_count_48 kg_RX10_125 rfl (okX_61 _) (shX_61 _) (fvX_61_6 _) ?_
      replace h := Option.some.inj h
      subst h
      obtain ⟨hr1, hr2⟩ := hr _ hK
      exact j_iret dX10_count_51 hr1 hr2
  replace h := jif_f hc4 h
  by_cases hc7 : x1 = 1
  · replace h := jif_t hc7 h
    refine j_tblIn 52 dX10_count_1 (by rw [hc7]; decide) (by rw [hc7]; decide) (by rw [hc7]; rfl) (by decide) ?_
    refine j_aload_n 0 dX10_count_52 rfl rfl ?_
    refine j_get (ci := 9) 7 (.ref (σ.2.2.1)) jC_9 dX10_count_53 kg_RX10_58 rfl (okX_1 _) (shX_1 _) (fvX_1_7 _) ?_
    replace h := bV_inv h
    obtain ⟨t8, et8, h⟩ := h
    refine j_nmr et8 ?_
    replace h := bH_inv h
    obtain ⟨hm9, h⟩ := h
    simp only [List.mem_cons, List.not_mem_nil, or_false] at hm9
    rcases hm9 with rfl | rfl
    · skip
      refine j_get (ci := 7) 7 (.int (gI σ 51 7)) jC_7 dX10_count_56 kg_RX10_128 rfl (okX_51 _) (shX_51 _) (fvX_51_7 _) ?_
      replace h := Option.some.inj h
      subst h
      obtain ⟨hr1, hr2⟩ := hr _ hK
      exact j_iret dX10_count_59 hr1 hr2
    · skip
      refine j_get (ci := 7) 7 (.int (gI σ 61 7)) jC_7 dX10_count_56 kg_RX10_128 rfl (okX_61 _) (shX_61 _) (fvX_61_7 _) ?_
      replace h := Option.some.inj h
      subst h
      obtain ⟨hr1, hr2⟩ := hr _ hK
      exact j_iret dX10_count_59 hr1 hr2
  replace h := jif_f hc7 h
  by_cases hc10 : x1 = 2
  · replace h := jif_t hc10 h
    refine j_tblIn 60 dX10_count_1 (by rw [hc10]; decide) (by rw [hc10]; decide) (by rw [hc10]; rfl) (by decide) ?_
    refine j_aload_n 0 dX10_count_60 rfl rfl ?_
    refine j_get (ci := 9) 5 (.ref 29) jC_9 dX10_count_61 kg_RX10_47 rfl (okX_1 _) (shX_1 _) (fvX_1_5 _) ?_
    refine j_get (ci := 6) 2 (.ref 32) jC_6 dX10_count_64 kg_RX10_83 rfl (okX_29 _) (shX_29 _) (fvX_29_2 _) ?_
    refine j_get (ci := 1) 3 (.int (gI σ 32 3)) jC_1 dX10_count_67 kg_RX10_131 rfl (okX_32 _) (shX_32 _) (fvX_32_3 _) ?_
    replace h := Option.some.inj h
    subst h
    obtain ⟨hr1, hr2⟩ := hr _ hK
    exact j_iret dX10_count_70 hr1 hr2
  replace h := jif_f hc10 h
  by_cases hc11 : x1 = 3
  · replace h := jif_t hc11 h
    refine j_tblIn 71 dX10_count_1 (by rw [hc11]; decide) (by rw [hc11]; decide) (by rw [hc11]; rfl) (by decide) ?_
    refine j_aload_n 0 dX10_count_71 rfl rfl ?_
    refine j_get (ci := 9) 7 (.ref (σ.2.2.1)) jC_9 dX10_count_72 kg_RX10_58 rfl (okX_1 _) (shX_1 _) (fvX_1_7 _) ?_
    replace h := bV_inv h
    obtain ⟨t12, et12, h⟩ := h
    refine j_nmr et12 ?_
    replace h := bH_inv h
    obtain ⟨hm13, h⟩ := h
    simp only [List.mem_cons, List.not_mem_nil, or_false] at hm13
    rcases hm13 with rfl | rfl
    · skip
      refine j_get (ci := 7) 8 (.int (gI σ 51 8)) jC_7 dX10_count_75 kg_RX10_134 rfl (okX_51 _) (shX_51 _) (fvX_51_8 _) ?_
      replace h := Option.some.inj h
      subst h
      obtain ⟨hr1, hr2⟩ := hr _ hK
      exact j_iret dX10_count_78 hr1 hr2
    · skip
      refine j_get (ci := 7) 8 (.int (gI σ 61 8)) jC_7 dX10_count_75 kg_RX10_134 rfl (okX_61 _) (shX_61 _) (fvX_61_8 _) ?_
      replace h := Option.some.inj h
      subst h
      obtain ⟨hr1, hr2⟩ := hr _ hK
      exact j_iret dX10_count_78 hr1 hr2
  replace h := jif_f hc11 h
  by_cases hc14 : x1 = 4
  · replace h := jif_t hc14 h
    refine j_tblIn 79 dX10_count_1 (by rw [hc14]; decide) (by rw [hc14]; decide) (by rw [hc14]; rfl) (by decide) ?_
    refine j_aload_n 0 dX10_count_79 rfl rfl ?_
    refine j_get (ci := 9) 0 (.ref 2) jC_9 dX10_count_80 kg_RX10_12 rfl (okX_1 _) (shX_1 _) (fvX_1_0 _) ?_
    refine j_get (ci := 5) 1 (.int (gI σ 2 1)) jC_5 dX10_count_83 kg_RX10_69 rfl (okX_2 _) (shX_2 _) (fvX_2_1 _) ?_
    replace h := Option.some.inj h
    subst h
    obtain ⟨hr1, hr2⟩ := hr _ hK
    exact j_iret dX10_count_86 hr1 hr2
  replace h := jif_f hc14 h
  by_cases hc15 : x1 = 5
  · replace h := jif_t hc15 h
    refine j_tblIn 87 dX10_count_1 (by rw [hc15]; decide) (by rw [hc15]; decide) (by rw [hc15]; rfl) (by decide) ?_
    refine j_aload_n 0 dX10_count_87 rfl rfl ?_
    refine j_get (ci := 9) 4 (.ref 23) jC_9 dX10_count_88 kg_RX10_40 rfl (okX_1 _) (shX_1 _) (fvX_1_4 _) ?_
    refine j_get (ci := 3) 2 (.int (gI σ 23 2)) jC_3 dX10_count_91 kg_RX10_137 rfl (okX_23 _) (shX_23 _) (fvX_23_2 _) ?_
    replace h := Option.some.inj h
    subst h
    obtain ⟨hr1, hr2⟩ := hr _ hK
    exact j_iret dX10_count_94 hr1 hr2
  replace h := jif_f hc15 h
  by_cases hc16 : x1 = 6
  · replace h := jif_t hc16 h
    refine j_tblIn 95 dX10_count_1 (by rw [hc16]; decide) (by rw [hc16]; decide) (by rw [hc16]; rfl) (by decide) ?_
    refine j_aload_n 0 dX10_count_95 rfl rfl ?_
    refine j_get (ci := 9) 4 (.ref 23) jC_9 dX10_count_96 kg_RX10_40 rfl (okX_1 _) (shX_1 _) (fvX_1_4 _) ?_
    refine j_get (ci := 3) 3 (.int (gI σ 23 3)) jC_3 dX10_count_99 kg_RX10_140 rfl (okX_23 _) (shX_23 _) (fvX_23_3 _) ?_
    replace h := Option.some.inj h
    subst h
    obtain ⟨hr1, hr2⟩ := hr _ hK
    exact j_iret dX10_count_102 hr1 hr2
  replace h := jif_f hc16 h
  refine j_tblOut 103 dX10_count_1 (jsw_out (by decide) (by decide) (fun q h1 h2 => ?_)) (by decide) ?_
  · clear h; match q, h1, h2 with
    | 0, _, _ => exact hc4
    | 1, _, _ => exact hc7
    | 2, _, _ => exact hc10
    | 3, _, _ => exact hc11
    | 4, _, _ => exact hc14
    | 5, _, _ => exact hc15
    | 6, _, _ => exact hc16
  · skip
    refine j_sipush (v := (-1002)) dX10_count_103 (by decide) ?_
    replace h := Option.some.inj h
    subst h
    obtain ⟨hr1, hr2⟩ := hr _ hK
    exact j_iret dX10_count_106 hr1 hr2
theorem c_X10_count (g : Bool) {σ : jS} {x1 : Int32} {r : Int32} (h : f_X10_count σ x1 = some r) : Cn yX10_count cX10_count 2 (some .int) 1 g [.ref 1, .int x1] (eX σ) (some (.int r)) (eX σ) :=
  Cn_of (by decide) (Nat.le_refl _) (Nat.le_refl _) (Nat.le_of_ble_eq_true rfl) (f_X10_count_ok (Kp := (fun o => o = r)) σ x1 ⟨jbr _, jbr _⟩ (fun r2 q => by cases q; exact ⟨rfl, rfl⟩) _ h rfl)
def f_X10_isPerson_J20 (σ : jS) (y0 : Int32) : Option Int32 :=
  bG (jb y0) (
  some (y0))
set_option maxHeartbeats 1000000 in
set_option maxRecDepth 20000 in
theorem f_X10_isPerson_J20_ok {g : Bool} {rv : Option Value} {μ' : jM} (σ : jS) (y0 : Int32) {Kp : Int32 → Prop} (hn : Nat.ble nX μ'.1 = true ∧ Nat.ble wX μ'.2.1 = true) (hr : ∀ r : Int32, Kp (r) → rv = some (.int r) ∧ μ' = (eX σ)) (o : Int32) (h : f_X10_isPerson_J20 σ y0 = some o) (hK : Kp o) : J yX10_isPerson cX10_isPerson 2 (some .boolean) 1 g rv μ' 20 [] [.int y0] (eX σ) := by
  unfold f_X10_isPerson_J20 at h
  replace h := bG_inv h
  obtain ⟨hb, h⟩ := h
  replace h := Option.some.inj h
  subst h
  obtain ⟨hr1, hr2⟩ := hr _ hK
  exact j_zret (jb_nar hb) dX10_isPerson_20 hr1 hr2
def f_X10_isPerson_J19 (σ : jS) : Option Int32 :=
  f_X10_isPerson_J20 σ 0
set_option maxHeartbeats 1000000 in
set_option maxRecDepth 20000 in
theorem f_X10_isPerson_J19_ok {g : Bool} {rv : Option Value} {μ' : jM} (σ : jS) {Kp : Int32 → Prop} (hn : Nat.ble nX μ'.1 = true ∧ Nat.ble wX μ'.2.1 = true) (hr : ∀ r : Int32, Kp (r) → rv = some (.int r) ∧ μ' = (eX σ)) (o : Int32) (h : f_X10_isPerson_J19 σ = some o) (hK : Kp o) : J yX10_isPerson cX10_isPerson 2 (some .boolean) 1 g rv μ' 19 [] [] (eX σ) := by
  unfold f_X10_isPerson_J19 at h
  refine j_iconst (v := 0) dX10_isPerson_19 (by decide) ?_
  exact f_X10_isPerson_J20_ok σ 0 hn hr _ h hK
def f_X10_isPerson (σ : jS) (x1 : Int32) : Option Int32 :=
  if x1 < 0 then (f_X10_isPerson_J19 σ)
  else (bV (σ.2.2.1) fun t1 =>
  bH [51, 61] t1 (
  if (gI σ t1 6) ≤ x1 then (f_X10_isPerson_J19 σ)
  else (f_X10_isPerson_J20 σ 1)))
set_option maxHeartbeats 1000000 in
set_option maxRecDepth 20000 in
theorem f_X10_isPerson_ok {g : Bool} {rv : Option Value} {μ' : jM} (σ : jS) (x1 : Int32) {Kp : Int32 → Prop} (hn : Nat.ble nX μ'.1 = true ∧ Nat.ble wX μ'.2.1 = true) (hr : ∀ r : Int32, Kp (r) → rv = some (.int r) ∧ μ' = (eX σ)) (o : Int32) (h : f_X10_isPerson σ x1 = some o) (hK : Kp o) : J yX10_isPerson cX10_isPerson 2 (some .boolean) 1 g rv μ' 0 [(0, .ref 1), (1, .int x1)] [] (eX σ) := by
  unfold f_X10_isPerson at h
  refine j_iload_n 1 dX10_isPerson_0 rfl rfl ?_
  refine j_if_lt 19 dX10_isPerson_1 (by decide) (fun hc2 => ?_) (fun hc2 => ?_)
  · replace h := jif_t hc2 h
    refine j_sub [] [] rfl ?_
    exact f_X10_isPerson_J19_ok σ hn hr _ h hK
  · replace h := jif_f hc2 h
    refine j_iload_n 1 dX10_isPerson_4 rfl rfl ?_
    refine j_aload_n 0 dX10_isPerson_5 rfl rfl ?_
    refine j_get (ci := 9) 7 (.ref (σ.2.2.1)) jC_9 dX10_isPerson_6 kg_RX10_58 rfl (okX_1 _) (shX_1 _) (fvX_1_7 _) ?_
    replace h := bV_inv h
    obtain ⟨t3, et3, h⟩ := h
    refine j_nmr et3 ?_
    replace h := bH_inv h
    obtain ⟨hm4, h⟩ := h
    simp only [List.mem_cons, List.not_mem_nil, or_false] at hm4
    rcases hm4 with rfl | rfl
    · skip
      refine j_get (ci := 7) 6 (.int (gI σ 51 6)) jC_7 dX10_isPerson_9 kg_RX10_125 rfl (okX_51 _) (shX_51 _) (fvX_51_6 _) ?_
      refine j_icmp_ge 19 dX10_isPerson_12 (by decide) (fun hc5 => ?_) (fun hc5 => ?_)
      · replace h := jif_t hc5 h
        refine j_sub [] [] rfl ?_
        exact f_X10_isPerson_J19_ok σ hn hr _ h hK
      · replace h := jif_f hc5 h
        refine j_iconst (v := 1) dX10_isPerson_15 (by decide) ?_
        refine j_goto 20 dX10_isPerson_16 (by decide) ?_
        refine j_sub [] [] rfl ?_
        exact f_X10_isPerson_J20_ok σ 1 hn hr _ h hK
    · skip
      refine j_get (ci := 7) 6 (.int (gI σ 61 6)) jC_7 dX10_isPerson_9 kg_RX10_125 rfl (okX_61 _) (shX_61 _) (fvX_61_6 _) ?_
      refine j_icmp_ge 19 dX10_isPerson_12 (by decide) (fun hc6 => ?_) (fun hc6 => ?_)
      · replace h := jif_t hc6 h
        refine j_sub [] [] rfl ?_
        exact f_X10_isPerson_J19_ok σ hn hr _ h hK
      · replace h := jif_f hc6 h
        refine j_iconst (v := 1) dX10_isPerson_15 (by decide) ?_
        refine j_goto 20 dX10_isPerson_16 (by decide) ?_
        refine j_sub [] [] rfl ?_
        exact f_X10_isPerson_J20_ok σ 1 hn hr _ h hK
theorem c_X10_isPerson (g : Bool) {σ : jS} {x1 : Int32} {r : Int32} (h : f_X10_isPerson σ x1 = some r) : Cn yX10_isPerson cX10_isPerson 2 (some .boolean) 1 g [.ref 1, .int x1] (eX σ) (some (.int r)) (eX σ) :=
  Cn_of (by decide) (Nat.le_refl _) (Nat.le_refl _) (Nat.le_of_ble_eq_true rfl) (f_X10_isPerson_ok (Kp := (fun o => o = r)) σ x1 ⟨jbr _, jbr _⟩ (fun r2 q => by cases q; exact ⟨rfl, rfl⟩) _ h rfl)
def f_X8_creditorsOf_J43 (σ : jS) (x2 : Int32) : Option Int32 :=
  some (x2)
set_option maxHeartbeats 1000000 in
set_option maxRecDepth 20000 in
theorem f_X8_creditorsOf_J43_ok {g : Bool} {rv : Option Value} {μ' : jM} (σ : jS) (x2 : Int32) {Kp : Int32 → Prop} (hn : Nat.ble nX μ'.1 = true ∧ Nat.ble wX μ'.2.1 = true) (hr : ∀ r : Int32, Kp (r) → rv = some (.int r) ∧ μ' = (eX σ)) (o : Int32) (h : f_X8_creditorsOf_J43 σ x2 = some o) (hK : Kp o) : J yX8_creditorsOf cX8_creditorsOf 4 (some .int) 2 g rv μ' 43 [(2, .int x2)] [] (eX σ) := by
  unfold f_X8_creditorsOf_J43 at h
  refine j_iload_n 0 dX8_creditorsOf_43 rfl rfl ?_
  replace h := Option.some.inj h
  subst h
  obtain ⟨hr1, hr2⟩ := hr _ hK
  exact j_iret dX8_creditorsOf_44 hr1 hr2
def f_X8_creditorsOf_J37 (σ : jS) (x0 : Nat) (x1 : Int32) (x2 : Int32) (x3 : Int32) : Option ((Int32 × Int32) ⊕ Int32) :=
  bV (x3 + 1) fun v2 =>
  some (.inl (x2, v2))
set_option maxHeartbeats 1000000 in
set_option maxRecDepth 20000 in
theorem f_X8_creditorsOf_J37_ok {g : Bool} {rv : Option Value} {μ' : jM} (σ : jS) (x0 : Nat) (x1 : Int32) (x2 : Int32) (x3 : Int32) {Kp : ((Int32 × Int32) ⊕ Int32) → Prop} (hn : Nat.ble nX μ'.1 = true ∧ Nat.ble wX μ'.2.1 = true) (hr : ∀ r : Int32, Kp (.inr (r)) → rv = some (.int r) ∧ μ' = (eX σ)) (hc0 : ∀ s : (Int32 × Int32), Kp (.inl s) → J yX8_creditorsOf cX8_creditorsOf 4 (some .int) 2 g rv μ' 4 [(0, .ref x0), (1, .int x1), (2, .int s.1), (3, .int s.2)] [] (eX σ)) (o : ((Int32 × Int32) ⊕ Int32)) (h : f_X8_creditorsOf_J37 σ x0 x1 x2 x3 = some o) (hK : Kp o) : J yX8_creditorsOf cX8_creditorsOf 4 (some .int) 2 g rv μ' 37 [(0, .ref x0), (1, .int x1), (2, .int x2), (3, .int x3)] [] (eX σ) := by
  unfold f_X8_creditorsOf_J37 at h
  replace h := bV_inv h
  obtain ⟨v3, ev3, h⟩ := h
  refine j_iinc (v := v3) [(3, .int v3), (0, .ref x0), (1, .int x1), (2, .int x2)] 3 dX8_creditorsOf_37 rfl (by rw [ev3]; rfl) (Nat.le_of_ble_eq_true rfl) rfl ?_
  refine j_goto 4 dX8_creditorsOf_40 (by decide) ?_
  replace h := Option.some.inj h
  subst h
  refine j_sub [(0, .ref x0), (1, .int x1), (2, .int x2), (3, .int v3)] [1, 2, 3, 0] rfl ?_
  exact hc0 _ hK
def f_X8_creditorsOf_B4 (σ : jS) (x0 : Nat) (x1 : Int32) (x2 : Int32) (x3 : Int32) : Option ((Int32 × Int32) ⊕ Int32) :=
  bH [51, 61] x0 (
  if (gI σ x0 7) ≤ x3 then (jw (f_X8_creditorsOf_J43 σ x2))
  else (bC (f_X6_at σ (rPX x0 1) x3) fun r1 =>
  if r1 = x1 then (bC (f_X6_at σ (rPX x0 2) x3) fun r4 =>
  bV (x2 ||| ((1 : Int32) <<< (r4 &&& 31))) fun v5 =>
  f_X8_creditorsOf_J37 σ x0 x1 v5 x3)
  else (f_X8_creditorsOf_J37 σ x0 x1 x2 x3)))
set_option maxHeartbeats 1000000 in
set_option maxRecDepth 20000 in
theorem f_X8_creditorsOf_B4_ok {g : Bool} {rv : Option Value} {μ' : jM} (σ : jS) (x0 : Nat) (x1 : Int32) (x2 : Int32) (x3 : Int32) {Kp : ((Int32 × Int32) ⊕ Int32) → Prop} (hn : Nat.ble nX μ'.1 = true ∧ Nat.ble wX μ'.2.1 = true) (hr : ∀ r : Int32, Kp (.inr (r)) → rv = some (.int r) ∧ μ' = (eX σ)) (hc0 : ∀ s : (Int32 × Int32), Kp (.inl s) → J yX8_creditorsOf cX8_creditorsOf 4 (some .int) 2 g rv μ' 4 [(0, .ref x0), (1, .int x1), (2, .int s.1), (3, .int s.2)] [] (eX σ)) (o : ((Int32 × Int32) ⊕ Int32)) (h : f_X8_creditorsOf_B4 σ x0 x1 x2 x3 = some o) (hK : Kp o) : J yX8_creditorsOf cX8_creditorsOf 4 (some .int) 2 g rv μ' 4 [(0, .ref x0), (1, .int x1), (2, .int x2), (3, .int x3)] [] (eX σ) := by
  unfold f_X8_creditorsOf_B4 at h
  refine j_iload_n 3 dX8_creditorsOf_4 rfl rfl ?_
  refine j_aload_n 0 dX8_creditorsOf_5 rfl rfl ?_
  replace h := bH_inv h
  obtain ⟨hm6, h⟩ := h
  simp only [List.mem_cons, List.not_mem_nil, or_false] at hm6
  rcases hm6 with rfl | rfl
  · skip
    refine j_get (ci := 7) 7 (.int (gI σ 51 7)) jC_7 dX8_creditorsOf_6 kg_RX8_38 rfl (okX_51 _) (shX_51 _) (fvX_51_7 _) ?_
    refine j_icmp_ge 43 dX8_creditorsOf_9 (by decide) (fun hc7 => ?_) (fun hc7 => ?_)
    · replace h := jif_t hc7 h
      replace h := jw_inv h
      obtain ⟨o8, rfl, h⟩ := h
      refine j_sub [(2, .int x2)] [2] rfl ?_
      exact f_X8_creditorsOf_J43_ok (Kp := fun o => Kp (.inr (o))) σ x2 hn (fun r q => hr r q) _ h hK
    · replace h := jif_f hc7 h
      refine j_aload_n 0 dX8_creditorsOf_12 rfl rfl ?_
      refine j_get (ci := 7) 1 (.ref 53) jC_7 dX8_creditorsOf_13 kg_RX8_15 rfl (okX_51 _) (shX_51 _) (fvX_51_1 _) ?_
      refine j_iload_n 3 dX8_creditorsOf_16 rfl rfl ?_
      replace h := bC_inv h
      obtain ⟨r9, cr9, h⟩ := h
      refine j_callS (st1 := .int r9 :: _) (c_X6_at g cr9) jy_X6_at kt_yX6_at kl_RX8_55 dX8_creditorsOf_17 rfl rfl rfl rfl (jbr _) (jbr _) hn.1 hn.2 (Or.inr rfl) rfl ?_
      refine j_iload_n 1 dX8_creditorsOf_20 rfl rfl ?_
      refine j_icmp_ne 37 dX8_creditorsOf_21 (by decide) (fun hc10 => ?_) (fun hc10 => ?_)
      · replace h := jif_f hc10 h
        exact f_X8_creditorsOf_J37_ok σ 51 x1 x2 x3 hn hr hc0 _ h hK
      · replace h := jif_t hc10 h
        refine j_iload_n 2 dX8_creditorsOf_24 rfl rfl ?_
        refine j_iconst (v := 1) dX8_creditorsOf_25 (by decide) ?_
        refine j_aload_n 0 dX8_creditorsOf_26 rfl rfl ?_
        refine j_get (ci := 7) 2 (.ref 54) jC_7 dX8_creditorsOf_27 kg_RX8_18 rfl (okX_51 _) (shX_51 _) (fvX_51_2 _) ?_
        refine j_iload_n 3 dX8_creditorsOf_30 rfl rfl ?_
        replace h := bC_inv h
        obtain ⟨r11, cr11, h⟩ := h
        refine j_callS (st1 := .int r11 :: _) (c_X6_at g cr11) jy_X6_at kt_yX6_at kl_RX8_55 dX8_creditorsOf_31 rfl rfl rfl rfl (jbr _) (jbr _) hn.1 hn.2 (Or.inr rfl) rfl ?_
        refine j_ishl dX8_creditorsOf_34 ?_
        refine j_ior dX8_creditorsOf_35 ?_
        replace h := bV_inv h
        obtain ⟨v12, ev12, h⟩ := h
        refine j_nmi ev12 ?_
        refine j_istore_n [(2, .int v12), (0, .ref 51), (1, .int x1), (3, .int x3)] dX8_creditorsOf_36 rfl (Nat.le_of_ble_eq_true rfl) rfl ?_
        refine j_sub [(0, .ref 51), (1, .int x1), (2, .int v12), (3, .int x3)] [1, 2, 0, 3] rfl ?_
        exact f_X8_creditorsOf_J37_ok σ 51 x1 v12 x3 hn hr hc0 _ h hK
  · skip
    refine j_get (ci := 7) 7 (.int (gI σ 61 7)) jC_7 dX8_creditorsOf_6 kg_RX8_38 rfl (okX_61 _) (shX_61 _) (fvX_61_7 _) ?_
    refine j_icmp_ge 43 dX8_creditorsOf_9 (by decide) (fun hc13 => ?_) (fun hc13 => ?_)
    · replace h := jif_t hc13 h
      replace h := jw_inv h
      obtain ⟨o14, rfl, h⟩ := h
      refine j_sub [(2, .int x2)] [2] rfl ?_
      exact f_X8_creditorsOf_J43_ok (Kp := fun o => Kp (.inr (o))) σ x2 hn (fun r q => hr r q) _ h hK
    · replace h := jif_f hc13 h
      refine j_aload_n 0 dX8_creditorsOf_12 rfl rfl ?_
      refine j_get (ci := 7) 1 (.ref 63) jC_7 dX8_creditorsOf_13 kg_RX8_15 rfl (okX_61 _) (shX_61 _) (fvX_61_1 _) ?_
      refine j_iload_n 3 dX8_creditorsOf_16 rfl rfl ?_
      replace h := bC_inv h
      obtain ⟨r15, cr15, h⟩ := h
      refine j_callS (st1 := .int r15 :: _) (c_X6_at g cr15) jy_X6_at kt_yX6_at kl_RX8_55 dX8_creditorsOf_17 rfl rfl rfl rfl (jbr _) (jbr _) hn.1 hn.2 (Or.inr rfl) rfl ?_
      refine j_iload_n 1 dX8_creditorsOf_20 rfl rfl ?_
      refine j_icmp_ne 37 dX8_creditorsOf_21 (by decide) (fun hc16 => ?_) (fun hc16 => ?_)
      · replace h := jif_f hc16 h
        exact f_X8_creditorsOf_J37_ok σ 61 x1 x2 x3 hn hr hc0 _ h hK
      · replace h := jif_t hc16 h
        refine j_iload_n 2 dX8_creditorsOf_24 rfl rfl ?_
        refine j_iconst (v := 1) dX8_creditorsOf_25 (by decide) ?_
        refine j_aload_n 0 dX8_creditorsOf_26 rfl rfl ?_
        refine j_get (ci := 7) 2 (.ref 64) jC_7 dX8_creditorsOf_27 kg_RX8_18 rfl (okX_61 _) (shX_61 _) (fvX_61_2 _) ?_
        refine j_iload_n 3 dX8_creditorsOf_30 rfl rfl ?_
        replace h := bC_inv h
        obtain ⟨r17, cr17, h⟩ := h
        refine j_callS (st1 := .int r17 :: _) (c_X6_at g cr17) jy_X6_at kt_yX6_at kl_RX8_55 dX8_creditorsOf_31 rfl rfl rfl rfl (jbr _) (jbr _) hn.1 hn.2 (Or.inr rfl) rfl ?_
        refine j_ishl dX8_creditorsOf_34 ?_
        refine j_ior dX8_creditorsOf_35 ?_
        replace h := bV_inv h
        obtain ⟨v18, ev18, h⟩ := h
        refine j_nmi ev18 ?_
        refine j_istore_n [(2, .int v18), (0, .ref 61), (1, .int x1), (3, .int x3)] dX8_creditorsOf_36 rfl (Nat.le_of_ble_eq_true rfl) rfl ?_
        refine j_sub [(0, .ref 61), (1, .int x1), (2, .int v18), (3, .int x3)] [1, 2, 0, 3] rfl ?_
        exact f_X8_creditorsOf_J37_ok σ 61 x1 v18 x3 hn hr hc0 _ h hK
def f_X8_creditorsOf (σ : jS) (x0 : Nat) (x1 : Int32) : Option Int32 :=
  jloop jFuel (fun s => f_X8_creditorsOf_B4 σ x0 x1 s.1 s.2) (0, 0)
set_option maxHeartbeats 1000000 in
set_option maxRecDepth 20000 in
theorem f_X8_creditorsOf_ok {g : Bool} {rv : Option Value} {μ' : jM} (σ : jS) (x0 : Nat) (x1 : Int32) {Kp : Int32 → Prop} (hn : Nat.ble nX μ'.1 = true ∧ Nat.ble wX μ'.2.1 = true) (hr : ∀ r : Int32, Kp (r) → rv = some (.int r) ∧ μ' = (eX σ)) (o : Int32) (h : f_X8_creditorsOf σ x0 x1 = some o) (hK : Kp o) : J yX8_creditorsOf cX8_creditorsOf 4 (some .int) 2 g rv μ' 0 [(0, .ref x0), (1, .int x1)] [] (eX σ) := by
  unfold f_X8_creditorsOf at h
  refine j_iconst (v := 0) dX8_creditorsOf_0 (by decide) ?_
  refine j_istore_n [(2, .int 0), (0, .ref x0), (1, .int x1)] dX8_creditorsOf_1 rfl (Nat.le_of_ble_eq_true rfl) rfl ?_
  refine j_iconst (v := 0) dX8_creditorsOf_2 (by decide) ?_
  refine j_istore_n [(3, .int 0), (2, .int 0), (0, .ref x0), (1, .int x1)] dX8_creditorsOf_3 rfl (Nat.le_of_ble_eq_true rfl) rfl ?_
  refine j_sub [(0, .ref x0), (1, .int x1), (2, .int 0), (3, .int 0)] [2, 3, 1, 0] rfl ?_
  exact jloop_ok (fun s => f_X8_creditorsOf_B4 σ x0 x1 s.1 s.2) (fun s => J yX8_creditorsOf cX8_creditorsOf 4 (some .int) 2 g rv μ' 4 [(0, .ref x0), (1, .int x1), (2, .int s.1), (3, .int s.2)] [] (eX σ)) Kp (fun s o hb hk => f_X8_creditorsOf_B4_ok (Kp := jsum (fun s => J yX8_creditorsOf cX8_creditorsOf 4 (some .int) 2 g rv μ' 4 [(0, .ref x0), (1, .int x1), (2, .int s.1), (3, .int s.2)] [] (eX σ)) Kp) σ x0 x1 s.1 s.2 hn (fun r q => hr r q) (fun s q => q) o hb hk) jFuel _ _ h hK
theorem c_X8_creditorsOf (g : Bool) {σ : jS} {x0 : Nat} {x1 : Int32} {r : Int32} (h : f_X8_creditorsOf σ x0 x1 = some r) : Cn yX8_creditorsOf cX8_creditorsOf 4 (some .int) 2 g [.ref x0, .int x1] (eX σ) (some (.int r)) (eX σ) :=
  Cn_of (by decide) (Nat.le_refl _) (Nat.le_refl _) (Nat.le_of_ble_eq_true rfl) (f_X8_creditorsOf_ok (Kp := (fun o => o = r)) σ x0 x1 ⟨jbr _, jbr _⟩ (fun r2 q => by cases q; exact ⟨rfl, rfl⟩) _ h rfl)
def f_X10_person (σ : jS) (x1 : Int32) (x2 : Int32) : Option Int32 :=
  bC (f_X10_isPerson σ x1) fun r1 =>
  if r1 = 0 then (some ((-1001)))
  else (if x2 = 0 then (bV (σ.2.2.1) fun t2 =>
  bH [51, 61] t2 (
  bC (f_X6_at σ (rPX t2 0) x1) fun r3 =>
  some (r3)))
  else if x2 = 1 then (bV (σ.2.2.1) fun t4 =>
  bH [51, 61] t4 (
  bC (f_X8_debtorsOf σ t4 x1) fun r5 =>
  some (r5)))
  else if x2 = 2 then (bV (σ.2.2.1) fun t6 =>
  bH [51, 61] t6 (
  bC (f_X8_creditorsOf σ t6 x1) fun r7 =>
  some (r7)))
  else if x2 = 3 then (bC (f_X6_at σ 35 x1) fun r8 =>
  some (r8))
  else (some ((-1002))))
set_option maxHeartbeats 1000000 in
set_option maxRecDepth 20000 in
theorem f_X10_person_ok {g : Bool} {rv : Option Value} {μ' : jM} (σ : jS) (x1 : Int32) (x2 : Int32) {Kp : Int32 → Prop} (hn : Nat.ble nX μ'.1 = true ∧ Nat.ble wX μ'.2.1 = true) (hr : ∀ r : Int32, Kp (r) → rv = some (.int r) ∧ μ' = (eX σ)) (o : Int32) (h : f_X10_person σ x1 x2 = some o) (hK : Kp o) : J yX10_person cX10_person 3 (some .int) 3 g rv μ' 0 [(0, .ref 1), (1, .int x1), (2, .int x2)] [] (eX σ) := by
  unfold f_X10_person at h
  refine j_aload_n 0 dX10_person_0 rfl rfl ?_
  refine j_iload_n 1 dX10_person_1 rfl rfl ?_
  replace h := bC_inv h
  obtain ⟨r9, cr9, h⟩ := h
  refine j_callV (ci := 9) (st1 := .int r9 :: _) (c_X10_isPerson g cr9) jy_X10_isPerson ki_yX10_isPerson ks_yX10_isPerson kl_RX10_143 dX10_person_2 rfl (okX_1 _) (shX_1 _) rfl rfl rfl rfl (jbr _) (jbr _) hn.1 hn.2 (Or.inr rfl) rfl ?_
  refine j_if_ne 12 dX10_person_5 (by decide) (fun hc10 => ?_) (fun hc10 => ?_)
  · replace h := jif_f hc10 h
    refine j_iload_n 2 dX10_person_12 rfl rfl ?_
    by_cases hc11 : x2 = 0
    · replace h := jif_t hc11 h
      refine j_tblIn 44 dX10_person_13 (by rw [hc11]; decide) (by rw [hc11]; decide) (by rw [hc11]; rfl) (by decide) ?_
      refine j_aload_n 0 dX10_person_44 rfl rfl ?_
      refine j_get (ci := 9) 7 (.ref (σ.2.2.1)) jC_9 dX10_person_45 kg_RX10_58 rfl (okX_1 _) (shX_1 _) (fvX_1_7 _) ?_
      replace h := bV_inv h
      obtain ⟨t12, et12, h⟩ := h
      refine j_nmr et12 ?_
      replace h := bH_inv h
      obtain ⟨hm13, h⟩ := h
      simp only [List.mem_cons, List.not_mem_nil, or_false] at hm13
      rcases hm13 with rfl | rfl
      · skip
        refine j_get (ci := 7) 0 (.ref 52) jC_7 dX10_person_48 kg_RX10_147 rfl (okX_51 _) (shX_51 _) (fvX_51_0 _) ?_
        refine j_iload_n 1 dX10_person_51 rfl rfl ?_
        replace h := bC_inv h
        obtain ⟨r14, cr14, h⟩ := h
        refine j_callS (st1 := .int r14 :: _) (c_X6_at g cr14) jy_X6_at kt_yX6_at kl_RX10_150 dX10_person_52 rfl rfl rfl rfl (jbr _) (jbr _) hn.1 hn.2 (Or.inr rfl) rfl ?_
        replace h := Option.some.inj h
        subst h
        obtain ⟨hr1, hr2⟩ := hr _ hK
        exact j_iret dX10_person_55 hr1 hr2
      · skip
        refine j_get (ci := 7) 0 (.ref 62) jC_7 dX10_person_48 kg_RX10_147 rfl (okX_61 _) (shX_61 _) (fvX_61_0 _) ?_
        refine j_iload_n 1 dX10_person_51 rfl rfl ?_
        replace h := bC_inv h
        obtain ⟨r15, cr15, h⟩ := h
        refine j_callS (st1 := .int r15 :: _) (c_X6_at g cr15) jy_X6_at kt_yX6_at kl_RX10_150 dX10_person_52 rfl rfl rfl rfl (jbr _) (jbr _) hn.1 hn.2 (Or.inr rfl) rfl ?_
        replace h := Option.some.inj h
        subst h
        obtain ⟨hr1, hr2⟩ := hr _ hK
        exact j_iret dX10_person_55 hr1 hr2
    replace h := jif_f hc11 h
    by_cases hc16 : x2 = 1
    · replace h := jif_t hc16 h
      refine j_tblIn 56 dX10_person_13 (by rw [hc16]; decide) (by rw [hc16]; decide) (by rw [hc16]; rfl) (by decide) ?_
      refine j_aload_n 0 dX10_person_56 rfl rfl ?_
      refine j_get (ci := 9) 7 (.ref (σ.2.2.1)) jC_9 dX10_person_57 kg_RX10_58 rfl (okX_1 _) (shX_1 _) (fvX_1_7 _) ?_
      replace h := bV_inv h
      obtain ⟨t17, et17, h⟩ := h
      refine j_nmr et17 ?_
      refine j_iload_n 1 dX10_person_60 rfl rfl ?_
      replace h := bH_inv h
      obtain ⟨hm18, h⟩ := h
      simp only [List.mem_cons, List.not_mem_nil, or_false] at hm18
      rcases hm18 with rfl | rfl
      · skip
        replace h := bC_inv h
        obtain ⟨r19, cr19, h⟩ := h
        refine j_callV (ci := 7) (st1 := .int r19 :: _) (c_X8_debtorsOf g cr19) jy_X8_debtorsOf ki_yX8_debtorsOf ks_yX8_debtorsOf kl_RX10_154 dX10_person_61 rfl (okX_51 _) (shX_51 _) rfl rfl rfl rfl (jbr _) (jbr _) hn.1 hn.2 (Or.inr rfl) rfl ?_
        replace h := Option.some.inj h
        subst h
        obtain ⟨hr1, hr2⟩ := hr _ hK
        exact j_iret dX10_person_64 hr1 hr2
      · skip
        replace h := bC_inv h
        obtain ⟨r20, cr20, h⟩ := h
        refine j_callV (ci := 7) (st1 := .int r20 :: _) (c_X8_debtorsOf g cr20) jy_X8_debtorsOf ki_yX8_debtorsOf ks_yX8_debtorsOf kl_RX10_154 dX10_person_61 rfl (okX_61 _) (shX_61 _) rfl rfl rfl rfl (jbr _) (jbr _) hn.1 hn.2 (Or.inr rfl) rfl ?_
        replace h := Option.some.inj h
        subst h
        obtain ⟨hr1, hr2⟩ := hr _ hK
        exact j_iret dX10_person_64 hr1 hr2
    replace h := jif_f hc16 h
    by_cases hc21 : x2 = 2
    · replace h := jif_t hc21 h
      refine j_tblIn 65 dX10_person_13 (by rw [hc21]; decide) (by rw [hc21]; decide) (by rw [hc21]; rfl) (by decide) ?_
      refine j_aload_n 0 dX10_person_65 rfl rfl ?_
      refine j_get (ci := 9) 7 (.ref (σ.2.2.1)) jC_9 dX10_person_66 kg_RX10_58 rfl (okX_1 _) (shX_1 _) (fvX_1_7 _) ?_
      replace h := bV_inv h
      obtain ⟨t22, et22, h⟩ := h
      refine j_nmr et22 ?_
      refine j_iload_n 1 dX10_person_69 rfl rfl ?_
      replace h := bH_inv h
      obtain ⟨hm23, h⟩ := h
      simp only [List.mem_cons, List.not_mem_nil, or_false] at hm23
      rcases hm23 with rfl | rfl
      · skip
        replace h := bC_inv h
        obtain ⟨r24, cr24, h⟩ := h
        refine j_callV (ci := 7) (st1 := .int r24 :: _) (c_X8_creditorsOf g cr24) jy_X8_creditorsOf ki_yX8_creditorsOf ks_yX8_creditorsOf kl_RX10_157 dX10_person_70 rfl (okX_51 _) (shX_51 _) rfl rfl rfl rfl (jbr _) (jbr _) hn.1 hn.2 (Or.inr rfl) rfl ?_
        replace h := Option.some.inj h
        subst h
        obtain ⟨hr1, hr2⟩ := hr _ hK
        exact j_iret dX10_person_73 hr1 hr2
      · skip
        replace h := bC_inv h
        obtain ⟨r25, cr25, h⟩ := h
        refine j_callV (ci := 7) (st1 := .int r25 :: _) (c_X8_creditorsOf g cr25) jy_X8_creditorsOf ki_yX8_creditorsOf ks_yX8_creditorsOf kl_RX10_157 dX10_person_70 rfl (okX_61 _) (shX_61 _) rfl rfl rfl rfl (jbr _) (jbr _) hn.1 hn.2 (Or.inr rfl) rfl ?_
        replace h := Option.some.inj h
        subst h
        obtain ⟨hr1, hr2⟩ := hr _ hK
        exact j_iret dX10_person_73 hr1 hr2
    replace h := jif_f hc21 h
    by_cases hc26 : x2 = 3
    · replace h := jif_t hc26 h
      refine j_tblIn 74 dX10_person_13 (by rw [hc26]; decide) (by rw [hc26]; decide) (by rw [hc26]; rfl) (by decide) ?_
      refine j_aload_n 0 dX10_person_74 rfl rfl ?_
      refine j_get (ci := 9) 5 (.ref 29) jC_9 dX10_person_75 kg_RX10_47 rfl (okX_1 _) (shX_1 _) (fvX_1_5 _) ?_
      refine j_get (ci := 6) 2 (.ref 32) jC_6 dX10_person_78 kg_RX10_83 rfl (okX_29 _) (shX_29 _) (fvX_29_2 _) ?_
      refine j_get (ci := 1) 2 (.ref 35) jC_1 dX10_person_81 kg_RX10_160 rfl (okX_32 _) (shX_32 _) (fvX_32_2 _) ?_
      refine j_iload_n 1 dX10_person_84 rfl rfl ?_
      replace h := bC_inv h
      obtain ⟨r27, cr27, h⟩ := h
      refine j_callS (st1 := .int r27 :: _) (c_X6_at g cr27) jy_X6_at kt_yX6_at kl_RX10_150 dX10_person_85 rfl rfl rfl rfl (jbr _) (jbr _) hn.1 hn.2 (Or.inr rfl) rfl ?_
      replace h := Option.some.inj h
      subst h
      obtain ⟨hr1, hr2⟩ := hr _ hK
      exact j_iret dX10_person_88 hr1 hr2
    replace h := jif_f hc26 h
    refine j_tblOut 89 dX10_person_13 (jsw_out (by decide) (by decide) (fun q h1 h2 => ?_)) (by decide) ?_
    · clear h; match q, h1, h2 with
      | 0, _, _ => exact hc11
      | 1, _, _ => exact hc16
      | 2, _, _ => exact hc21
      | 3, _, _ => exact hc26
    · skip
      refine j_sipush (v := (-1002)) dX10_person_89 (by decide) ?_
      replace h := Option.some.inj h
      subst h
      obtain ⟨hr1, hr2⟩ := hr _ hK
      exact j_iret dX10_person_92 hr1 hr2
  · replace h := jif_t hc10 h
    refine j_sipush (v := (-1001)) dX10_person_8 (by decide) ?_
    replace h := Option.some.inj h
    subst h
    obtain ⟨hr1, hr2⟩ := hr _ hK
    exact j_iret dX10_person_11 hr1 hr2
theorem c_X10_person (g : Bool) {σ : jS} {x1 : Int32} {x2 : Int32} {r : Int32} (h : f_X10_person σ x1 x2 = some r) : Cn yX10_person cX10_person 3 (some .int) 3 g [.ref 1, .int x1, .int x2] (eX σ) (some (.int r)) (eX σ) :=
  Cn_of (by decide) (Nat.le_refl _) (Nat.le_refl _) (Nat.le_of_ble_eq_true rfl) (f_X10_person_ok (Kp := (fun o => o = r)) σ x1 x2 ⟨jbr _, jbr _⟩ (fun r2 q => by cases q; exact ⟨rfl, rfl⟩) _ h rfl)
def f_X10_isTurn_J20 (σ : jS) (y0 : Int32) : Option Int32 :=
  bG (jb y0) (
  some (y0))
set_option maxHeartbeats 1000000 in
set_option maxRecDepth 20000 in
theorem f_X10_isTurn_J20_ok {g : Bool} {rv : Option Value} {μ' : jM} (σ : jS) (y0 : Int32) {Kp : Int32 → Prop} (hn : Nat.ble nX μ'.1 = true ∧ Nat.ble wX μ'.2.1 = true) (hr : ∀ r : Int32, Kp (r) → rv = some (.int r) ∧ μ' = (eX σ)) (o : Int32) (h : f_X10_isTurn_J20 σ y0 = some o) (hK : Kp o) : J yX10_isTurn cX10_isTurn 2 (some .boolean) 1 g rv μ' 20 [] [.int y0] (eX σ) := by
  unfold f_X10_isTurn_J20 at h
  replace h := bG_inv h
  obtain ⟨hb, h⟩ := h
  replace h := Option.some.inj h
  subst h
  obtain ⟨hr1, hr2⟩ := hr _ hK
  exact j_zret (jb_nar hb) dX10_isTurn_20 hr1 hr2
def f_X10_isTurn_J19 (σ : jS) : Option Int32 :=
  f_X10_isTurn_J20 σ 0
set_option maxHeartbeats 1000000 in
set_option maxRecDepth 20000 in
theorem f_X10_isTurn_J19_ok {g : Bool} {rv : Option Value} {μ' : jM} (σ : jS) {Kp : Int32 → Prop} (hn : Nat.ble nX μ'.1 = true ∧ Nat.ble wX μ'.2.1 = true) (hr : ∀ r : Int32, Kp (r) → rv = some (.int r) ∧ μ' = (eX σ)) (o : Int32) (h : f_X10_isTurn_J19 σ = some o) (hK : Kp o) : J yX10_isTurn cX10_isTurn 2 (some .boolean) 1 g rv μ' 19 [] [] (eX σ) := by
  unfold f_X10_isTurn_J19 at h
  refine j_iconst (v := 0) dX10_isTurn_19 (by decide) ?_
  exact f_X10_isTurn_J20_ok σ 0 hn hr _ h hK
def f_X10_isTurn (σ : jS) (x1 : Int32) : Option Int32 :=
  if x1 < 0 then (f_X10_isTurn_J19 σ)
  else (bV (σ.2.2.1) fun t1 =>
  bH [51, 61] t1 (
  if (gI σ t1 7) ≤ x1 then (f_X10_isTurn_J19 σ)
  else (f_X10_isTurn_J20 σ 1)))
set_option maxHeartbeats 1000000 in
set_option maxRecDepth 20000 in
theorem f_X10_isTurn_ok {g : Bool} {rv : Option Value} {μ' : jM} (σ : jS) (x1 : Int32) {Kp : Int32 → Prop} (hn : Nat.ble nX μ'.1 = true ∧ Nat.ble wX μ'.2.1 = true) (hr : ∀ r : Int32, Kp (r) → rv = some (.int r) ∧ μ' = (eX σ)) (o : Int32) (h : f_X10_isTurn σ x1 = some o) (hK : Kp o) : J yX10_isTurn cX10_isTurn 2 (some .boolean) 1 g rv μ' 0 [(0, .ref 1), (1, .int x1)] [] (eX σ) := by
  unfold f_X10_isTurn at h
  refine j_iload_n 1 dX10_isTurn_0 rfl rfl ?_
  refine j_if_lt 19 dX10_isTurn_1 (by decide) (fun hc2 => ?_) (fun hc2 => ?_)
  · replace h := jif_t hc2 h
    refine j_sub [] [] rfl ?_
    exact f_X10_isTurn_J19_ok σ hn hr _ h hK
  · replace h := jif_f hc2 h
    refine j_iload_n 1 dX10_isTurn_4 rfl rfl ?_
    refine j_aload_n 0 dX10_isTurn_5 rfl rfl ?_
    refine j_get (ci := 9) 7 (.ref (σ.2.2.1)) jC_9 dX10_isTurn_6 kg_RX10_58 rfl (okX_1 _) (shX_1 _) (fvX_1_7 _) ?_
    replace h := bV_inv h
    obtain ⟨t3, et3, h⟩ := h
    refine j_nmr et3 ?_
    replace h := bH_inv h
    obtain ⟨hm4, h⟩ := h
    simp only [List.mem_cons, List.not_mem_nil, or_false] at hm4
    rcases hm4 with rfl | rfl
    · skip
      refine j_get (ci := 7) 7 (.int (gI σ 51 7)) jC_7 dX10_isTurn_9 kg_RX10_128 rfl (okX_51 _) (shX_51 _) (fvX_51_7 _) ?_
      refine j_icmp_ge 19 dX10_isTurn_12 (by decide) (fun hc5 => ?_) (fun hc5 => ?_)
      · replace h := jif_t hc5 h
        refine j_sub [] [] rfl ?_
        exact f_X10_isTurn_J19_ok σ hn hr _ h hK
      · replace h := jif_f hc5 h
        refine j_iconst (v := 1) dX10_isTurn_15 (by decide) ?_
        refine j_goto 20 dX10_isTurn_16 (by decide) ?_
        refine j_sub [] [] rfl ?_
        exact f_X10_isTurn_J20_ok σ 1 hn hr _ h hK
    · skip
      refine j_get (ci := 7) 7 (.int (gI σ 61 7)) jC_7 dX10_isTurn_9 kg_RX10_128 rfl (okX_61 _) (shX_61 _) (fvX_61_7 _) ?_
      refine j_icmp_ge 19 dX10_isTurn_12 (by decide) (fun hc6 => ?_) (fun hc6 => ?_)
      · replace h := jif_t hc6 h
        refine j_sub [] [] rfl ?_
        exact f_X10_isTurn_J19_ok σ hn hr _ h hK
      · replace h := jif_f hc6 h
        refine j_iconst (v := 1) dX10_isTurn_15 (by decide) ?_
        refine j_goto 20 dX10_isTurn_16 (by decide) ?_
        refine j_sub [] [] rfl ?_
        exact f_X10_isTurn_J20_ok σ 1 hn hr _ h hK
theorem c_X10_isTurn (g : Bool) {σ : jS} {x1 : Int32} {r : Int32} (h : f_X10_isTurn σ x1 = some r) : Cn yX10_isTurn cX10_isTurn 2 (some .boolean) 1 g [.ref 1, .int x1] (eX σ) (some (.int r)) (eX σ) :=
  Cn_of (by decide) (Nat.le_refl _) (Nat.le_refl _) (Nat.le_of_ble_eq_true rfl) (f_X10_isTurn_ok (Kp := (fun o => o = r)) σ x1 ⟨jbr _, jbr _⟩ (fun r2 q => by cases q; exact ⟨rfl, rfl⟩) _ h rfl)
def f_X10_turn (σ : jS) (x1 : Int32) (x2 : Int32) : Option Int32 :=
  bC (f_X10_isTurn σ x1) fun r1 =>
  if r1 = 0 then (some ((-1001)))
  else (if x2 = 0 then (bV (σ.2.2.1) fun t4 =>
  bH [51, 61] t4 (
  bC (f_X6_at σ (rPX t4 1) x1) fun r5 =>
  some (r5)))
  else (if x2 = 1 then (bV (σ.2.2.1) fun t2 =>
  bH [51, 61] t2 (
  bC (f_X6_at σ (rPX t2 2) x1) fun r3 =>
  some (r3)))
  else (some ((-1002)))))
set_option maxHeartbeats 1000000 in
set_option maxRecDepth 20000 in
theorem f_X10_turn_ok {g : Bool} {rv : Option Value} {μ' : jM} (σ : jS) (x1 : Int32) (x2 : Int32) {Kp : Int32 → Prop} (hn : Nat.ble nX μ'.1 = true ∧ Nat.ble wX μ'.2.1 = true) (hr : ∀ r : Int32, Kp (r) → rv = some (.int r) ∧ μ' = (eX σ)) (o : Int32) (h : f_X10_turn σ x1 x2 = some o) (hK : Kp o) : J yX10_turn cX10_turn 3 (some .int) 2 g rv μ' 0 [(0, .ref 1), (1, .int x1), (2, .int x2)] [] (eX σ) := by
  unfold f_X10_turn at h
  refine j_aload_n 0 dX10_turn_0 rfl rfl ?_
  refine j_iload_n 1 dX10_turn_1 rfl rfl ?_
  replace h := bC_inv h
  obtain ⟨r6, cr6, h⟩ := h
  refine j_callV (ci := 9) (st1 := .int r6 :: _) (c_X10_isTurn g cr6) jy_X10_isTurn ki_yX10_isTurn ks_yX10_isTurn kl_RX10_163 dX10_turn_2 rfl (okX_1 _) (shX_1 _) rfl rfl rfl rfl (jbr _) (jbr _) hn.1 hn.2 (Or.inr rfl) rfl ?_
  refine j_if_ne 12 dX10_turn_5 (by decide) (fun hc7 => ?_) (fun hc7 => ?_)
  · replace h := jif_f hc7 h
    refine j_iload_n 2 dX10_turn_12 rfl rfl ?_
    refine j_if_ne 28 dX10_turn_13 (by decide) (fun hc8 => ?_) (fun hc8 => ?_)
    · replace h := jif_f hc8 h
      refine j_iload_n 2 dX10_turn_28 rfl rfl ?_
      refine j_iconst (v := 1) dX10_turn_29 (by decide) ?_
      refine j_icmp_ne 45 dX10_turn_30 (by decide) (fun hc9 => ?_) (fun hc9 => ?_)
      · replace h := jif_f hc9 h
        refine j_sipush (v := (-1002)) dX10_turn_45 (by decide) ?_
        replace h := Option.some.inj h
        subst h
        obtain ⟨hr1, hr2⟩ := hr _ hK
        exact j_iret dX10_turn_48 hr1 hr2
      · replace h := jif_t hc9 h
        refine j_aload_n 0 dX10_turn_33 rfl rfl ?_
        refine j_get (ci := 9) 7 (.ref (σ.2.2.1)) jC_9 dX10_turn_34 kg_RX10_58 rfl (okX_1 _) (shX_1 _) (fvX_1_7 _) ?_
        replace h := bV_inv h
        obtain ⟨t10, et10, h⟩ := h
        refine j_nmr et10 ?_
        replace h := bH_inv h
        obtain ⟨hm11, h⟩ := h
        simp only [List.mem_cons, List.not_mem_nil, or_false] at hm11
        rcases hm11 with rfl | rfl
        · skip
          refine j_get (ci := 7) 2 (.ref 54) jC_7 dX10_turn_37 kg_RX10_169 rfl (okX_51 _) (shX_51 _) (fvX_51_2 _) ?_
          refine j_iload_n 1 dX10_turn_40 rfl rfl ?_
          replace h := bC_inv h
          obtain ⟨r12, cr12, h⟩ := h
          refine j_callS (st1 := .int r12 :: _) (c_X6_at g cr12) jy_X6_at kt_yX6_at kl_RX10_150 dX10_turn_41 rfl rfl rfl rfl (jbr _) (jbr _) hn.1 hn.2 (Or.inr rfl) rfl ?_
          replace h := Option.some.inj h
          subst h
          obtain ⟨hr1, hr2⟩ := hr _ hK
          exact j_iret dX10_turn_44 hr1 hr2
        · skip
          refine j_get (ci := 7) 2 (.ref 64) jC_7 dX10_turn_37 kg_RX10_169 rfl (okX_61 _) (shX_61 _) (fvX_61_2 _) ?_
          refine j_iload_n 1 dX10_turn_40 rfl rfl ?_
          replace h := bC_inv h
          obtain ⟨r13, cr13, h⟩ := h
          refine j_callS (st1 := .int r13 :: _) (c_X6_at g cr13) jy_X6_at kt_yX6_at kl_RX10_150 dX10_turn_41 rfl rfl rfl rfl (jbr _) (jbr _) hn.1 hn.2 (Or.inr rfl) rfl ?_
          replace h := Option.some.inj h
          subst h
          obtain ⟨hr1, hr2⟩ := hr _ hK
          exact j_iret dX10_turn_44 hr1 hr2
    · replace h := jif_t hc8 h
      refine j_aload_n 0 dX10_turn_16 rfl rfl ?_
      refine j_get (ci := 9) 7 (.ref (σ.2.2.1)) jC_9 dX10_turn_17 kg_RX10_58 rfl (okX_1 _) (shX_1 _) (fvX_1_7 _) ?_
      replace h := bV_inv h
      obtain ⟨t14, et14, h⟩ := h
      refine j_nmr et14 ?_
      replace h := bH_inv h
      obtain ⟨hm15, h⟩ := h
      simp only [List.mem_cons, List.not_mem_nil, or_false] at hm15
      rcases hm15 with rfl | rfl
      · skip
        refine j_get (ci := 7) 1 (.ref 53) jC_7 dX10_turn_20 kg_RX10_166 rfl (okX_51 _) (shX_51 _) (fvX_51_1 _) ?_
        refine j_iload_n 1 dX10_turn_23 rfl rfl ?_
        replace h := bC_inv h
        obtain ⟨r16, cr16, h⟩ := h
        refine j_callS (st1 := .int r16 :: _) (c_X6_at g cr16) jy_X6_at kt_yX6_at kl_RX10_150 dX10_turn_24 rfl rfl rfl rfl (jbr _) (jbr _) hn.1 hn.2 (Or.inr rfl) rfl ?_
        replace h := Option.some.inj h
        subst h
        obtain ⟨hr1, hr2⟩ := hr _ hK
        exact j_iret dX10_turn_27 hr1 hr2
      · skip
        refine j_get (ci := 7) 1 (.ref 63) jC_7 dX10_turn_20 kg_RX10_166 rfl (okX_61 _) (shX_61 _) (fvX_61_1 _) ?_
        refine j_iload_n 1 dX10_turn_23 rfl rfl ?_
        replace h := bC_inv h
        obtain ⟨r17, cr17, h⟩ := h
        refine j_callS (st1 := .int r17 :: _) (c_X6_at g cr17) jy_X6_at kt_yX6_at kl_RX10_150 dX10_turn_24 rfl rfl rfl rfl (jbr _) (jbr _) hn.1 hn.2 (Or.inr rfl) rfl ?_
        replace h := Option.some.inj h
        subst h
        obtain ⟨hr1, hr2⟩ := hr _ hK
        exact j_iret dX10_turn_27 hr1 hr2
  · replace h := jif_t hc7 h
    refine j_sipush (v := (-1001)) dX10_turn_8 (by decide) ?_
    replace h := Option.some.inj h
    subst h
    obtain ⟨hr1, hr2⟩ := hr _ hK
    exact j_iret dX10_turn_11 hr1 hr2
theorem c_X10_turn (g : Bool) {σ : jS} {x1 : Int32} {x2 : Int32} {r : Int32} (h : f_X10_turn σ x1 x2 = some r) : Cn yX10_turn cX10_turn 3 (some .int) 2 g [.ref 1, .int x1, .int x2] (eX σ) (some (.int r)) (eX σ) :=
  Cn_of (by decide) (Nat.le_refl _) (Nat.le_refl _) (Nat.le_of_ble_eq_true rfl) (f_X10_turn_ok (Kp := (fun o => o = r)) σ x1 x2 ⟨jbr _, jbr _⟩ (fun r2 q => by cases q; exact ⟨rfl, rfl⟩) _ h rfl)
def f_X10_grudge_J18 (σ : jS) : Option Int32 :=
  some ((-1001))
set_option maxHeartbeats 1000000 in
set_option maxRecDepth 20000 in
theorem f_X10_grudge_J18_ok {g : Bool} {rv : Option Value} {μ' : jM} (σ : jS) {Kp : Int32 → Prop} (hn : Nat.ble nX μ'.1 = true ∧ Nat.ble wX μ'.2.1 = true) (hr : ∀ r : Int32, Kp (r) → rv = some (.int r) ∧ μ' = (eX σ)) (o : Int32) (h : f_X10_grudge_J18 σ = some o) (hK : Kp o) : J yX10_grudge cX10_grudge 2 (some .int) 2 g rv μ' 18 [] [] (eX σ) := by
  unfold f_X10_grudge_J18 at h
  refine j_sipush (v := (-1001)) dX10_grudge_18 (by decide) ?_
  replace h := Option.some.inj h
  subst h
  obtain ⟨hr1, hr2⟩ := hr _ hK
  exact j_iret dX10_grudge_21 hr1 hr2
def f_X10_grudge (σ : jS) (x1 : Int32) : Option Int32 :=
  if x1 < 0 then (f_X10_grudge_J18 σ)
  else (if x1 < (gI σ 32 3) then (bC (f_X6_at σ 33 x1) fun r1 =>
  bC (f_X6_at σ 34 x1) fun r2 =>
  some ((((100 : Int32) * r1) + r2)))
  else (f_X10_grudge_J18 σ))
set_option maxHeartbeats 1000000 in
set_option maxRecDepth 20000 in
theorem f_X10_grudge_ok {g : Bool} {rv : Option Value} {μ' : jM} (σ : jS) (x1 : Int32) {Kp : Int32 → Prop} (hn : Nat.ble nX μ'.1 = true ∧ Nat.ble wX μ'.2.1 = true) (hr : ∀ r : Int32, Kp (r) → rv = some (.int r) ∧ μ' = (eX σ)) (o : Int32) (h : f_X10_grudge σ x1 = some o) (hK : Kp o) : J yX10_grudge cX10_grudge 2 (some .int) 2 g rv μ' 0 [(0, .ref 1), (1, .int x1)] [] (eX σ) := by
  unfold f_X10_grudge at h
  refine j_iload_n 1 dX10_grudge_0 rfl rfl ?_
  refine j_if_lt 18 dX10_grudge_1 (by decide) (fun hc3 => ?_) (fun hc3 => ?_)
  · replace h := jif_t hc3 h
    refine j_sub [] [] rfl ?_
    exact f_X10_grudge_J18_ok σ hn hr _ h hK
  · replace h := jif_f hc3 h
    refine j_iload_n 1 dX10_grudge_4 rfl rfl ?_
    refine j_aload_n 0 dX10_grudge_5 rfl rfl ?_
    refine j_get (ci := 9) 5 (.ref 29) jC_9 dX10_grudge_6 kg_RX10_47 rfl (okX_1 _) (shX_1 _) (fvX_1_5 _) ?_
    refine j_get (ci := 6) 2 (.ref 32) jC_6 dX10_grudge_9 kg_RX10_83 rfl (okX_29 _) (shX_29 _) (fvX_29_2 _) ?_
    refine j_get (ci := 1) 3 (.int (gI σ 32 3)) jC_1 dX10_grudge_12 kg_RX10_131 rfl (okX_32 _) (shX_32 _) (fvX_32_3 _) ?_
    refine j_icmp_lt 22 dX10_grudge_15 (by decide) (fun hc4 => ?_) (fun hc4 => ?_)
    · replace h := jif_t hc4 h
      refine j_bipush (v := 100) dX10_grudge_22 (by decide) ?_
      refine j_aload_n 0 dX10_grudge_24 rfl rfl ?_
      refine j_get (ci := 9) 5 (.ref 29) jC_9 dX10_grudge_25 kg_RX10_47 rfl (okX_1 _) (shX_1 _) (fvX_1_5 _) ?_
      refine j_get (ci := 6) 2 (.ref 32) jC_6 dX10_grudge_28 kg_RX10_83 rfl (okX_29 _) (shX_29 _) (fvX_29_2 _) ?_
      refine j_get (ci := 1) 0 (.ref 33) jC_1 dX10_grudge_31 kg_RX10_172 rfl (okX_32 _) (shX_32 _) (fvX_32_0 _) ?_
      refine j_iload_n 1 dX10_grudge_34 rfl rfl ?_
      replace h := bC_inv h
      obtain ⟨r5, cr5, h⟩ := h
      refine j_callS (st1 := .int r5 :: _) (c_X6_at g cr5) jy_X6_at kt_yX6_at kl_RX10_150 dX10_grudge_35 rfl rfl rfl rfl (jbr _) (jbr _) hn.1 hn.2 (Or.inr rfl) rfl ?_
      refine j_imul dX10_grudge_38 ?_
      refine j_aload_n 0 dX10_grudge_39 rfl rfl ?_
      refine j_get (ci := 9) 5 (.ref 29) jC_9 dX10_grudge_40 kg_RX10_47 rfl (okX_1 _) (shX_1 _) (fvX_1_5 _) ?_
      refine j_get (ci := 6) 2 (.ref 32) jC_6 dX10_grudge_43 kg_RX10_83 rfl (okX_29 _) (shX_29 _) (fvX_29_2 _) ?_
      refine j_get (ci := 1) 1 (.ref 34) jC_1 dX10_grudge_46 kg_RX10_175 rfl (okX_32 _) (shX_32 _) (fvX_32_1 _) ?_
      refine j_iload_n 1 dX10_grudge_49 rfl rfl ?_
      replace h := bC_inv h
      obtain ⟨r6, cr6, h⟩ := h
      refine j_callS (st1 := .int r6 :: _) (c_X6_at g cr6) jy_X6_at kt_yX6_at kl_RX10_150 dX10_grudge_50 rfl rfl rfl rfl (jbr _) (jbr _) hn.1 hn.2 (Or.inr rfl) rfl ?_
      refine j_iadd dX10_grudge_53 ?_
      replace h := Option.some.inj h
      subst h
      obtain ⟨hr1, hr2⟩ := hr _ hK
      exact j_iret dX10_grudge_54 hr1 hr2
    · replace h := jif_f hc4 h
      refine j_sub [] [] rfl ?_
      exact f_X10_grudge_J18_ok σ hn hr _ h hK
theorem c_X10_grudge (g : Bool) {σ : jS} {x1 : Int32} {r : Int32} (h : f_X10_grudge σ x1 = some r) : Cn yX10_grudge cX10_grudge 2 (some .int) 2 g [.ref 1, .int x1] (eX σ) (some (.int r)) (eX σ) :=
  Cn_of (by decide) (Nat.le_refl _) (Nat.le_refl _) (Nat.le_of_ble_eq_true rfl) (f_X10_grudge_ok (Kp := (fun o => o = r)) σ x1 ⟨jbr _, jbr _⟩ (fun r2 q => by cases q; exact ⟨rfl, rfl⟩) _ h rfl)
def f_X0_spot_J19 (y0 : Int32) : Option Int32 :=
  some (y0)
set_option maxHeartbeats 1000000 in
set_option maxRecDepth 20000 in
theorem f_X0_spot_J19_ok {g : Bool} {rv : Option Value} {μ' : jM} (y0 : Int32) (μ : jM) {Kp : Int32 → Prop} (hn : Nat.ble μ.1 μ'.1 = true ∧ Nat.ble μ.2.1 μ'.2.1 = true) (hr : ∀ r : Int32, Kp (r) → rv = some (.int r) ∧ μ' = μ) (o : Int32) (h : f_X0_spot_J19 y0 = some o) (hK : Kp o) : J yX0_spot cX0_spot 2 (some .int) 1 g rv μ' 19 [] [.int y0] μ := by
  unfold f_X0_spot_J19 at h
  replace h := Option.some.inj h
  subst h
  obtain ⟨hr1, hr2⟩ := hr _ hK
  exact j_iret dX0_spot_19 hr1 hr2
def f_X0_spot (x0 : Int32) (x1 : Int32) : Option Int32 :=
  if x1 = 0 then (f_X0_spot_J19 ((x0 / (2 : Int32)) / (56 : Int32)))
  else (f_X0_spot_J19 ((x0 / (2 : Int32)) - (x0 / (2 : Int32)) / (56 : Int32) * (56 : Int32)))
set_option maxHeartbeats 1000000 in
set_option maxRecDepth 20000 in
theorem f_X0_spot_ok {g : Bool} {rv : Option Value} {μ' : jM} (x0 : Int32) (x1 : Int32) (μ : jM) {Kp : Int32 → Prop} (hn : Nat.ble μ.1 μ'.1 = true ∧ Nat.ble μ.2.1 μ'.2.1 = true) (hr : ∀ r : Int32, Kp (r) → rv = some (.int r) ∧ μ' = μ) (o : Int32) (h : f_X0_spot x0 x1 = some o) (hK : Kp o) : J yX0_spot cX0_spot 2 (some .int) 1 g rv μ' 0 [(0, .int x0), (1, .int x1)] [] μ := by
  unfold f_X0_spot at h
  refine j_iload_n 1 dX0_spot_0 rfl rfl ?_
  refine j_if_ne 13 dX0_spot_1 (by decide) (fun hc1 => ?_) (fun hc1 => ?_)
  · replace h := jif_f hc1 h
    refine j_iload_n 0 dX0_spot_13 rfl rfl ?_
    refine j_iconst (v := 2) dX0_spot_14 (by decide) ?_
    refine j_idiv dX0_spot_15 (by decide) ?_
    refine j_bipush (v := 56) dX0_spot_16 (by decide) ?_
    refine j_irem dX0_spot_18 (by decide) ?_
    refine j_sub [] [] rfl ?_
    exact f_X0_spot_J19_ok ((x0 / (2 : Int32)) - (x0 / (2 : Int32)) / (56 : Int32) * (56 : Int32)) μ hn hr _ h hK
  · replace h := jif_t hc1 h
    refine j_iload_n 0 dX0_spot_4 rfl rfl ?_
    refine j_iconst (v := 2) dX0_spot_5 (by decide) ?_
    refine j_idiv dX0_spot_6 (by decide) ?_
    refine j_bipush (v := 56) dX0_spot_7 (by decide) ?_
    refine j_idiv dX0_spot_9 (by decide) ?_
    refine j_goto 19 dX0_spot_10 (by decide) ?_
    refine j_sub [] [] rfl ?_
    exact f_X0_spot_J19_ok ((x0 / (2 : Int32)) / (56 : Int32)) μ hn hr _ h hK
theorem c_X0_spot (g : Bool) (μ : jM) {x0 : Int32} {x1 : Int32} {r : Int32} (h : f_X0_spot x0 x1 = some r) : Cn yX0_spot cX0_spot 2 (some .int) 1 g [.int x0, .int x1] μ (some (.int r)) μ :=
  Cn_of (by decide) (Nat.le_refl _) (Nat.le_refl _) (Nat.le_of_ble_eq_true rfl) (f_X0_spot_ok (Kp := (fun o => o = r)) x0 x1 μ ⟨jbr _, jbr _⟩ (fun r2 q => by cases q; exact ⟨rfl, rfl⟩) _ h rfl)
def f_X0_holder (σ : jS) (x1 : Int32) (x2 : Int32) : Option Int32 :=
  bC (f_X0_spot x1 x2) fun r1 =>
  bC (f_X6_at σ 6 r1) fun r2 =>
  some (r2)
set_option maxHeartbeats 1000000 in
set_option maxRecDepth 20000 in
theorem f_X0_holder_ok {g : Bool} {rv : Option Value} {μ' : jM} (σ : jS) (x1 : Int32) (x2 : Int32) {Kp : Int32 → Prop} (hn : Nat.ble nX μ'.1 = true ∧ Nat.ble wX μ'.2.1 = true) (hr : ∀ r : Int32, Kp (r) → rv = some (.int r) ∧ μ' = (eX σ)) (o : Int32) (h : f_X0_holder σ x1 x2 = some o) (hK : Kp o) : J yX0_holder cX0_holder 3 (some .int) 2 g rv μ' 0 [(0, .ref 4), (1, .int x1), (2, .int x2)] [] (eX σ) := by
  unfold f_X0_holder at h
  refine j_aload_n 0 dX0_holder_0 rfl rfl ?_
  refine j_get (ci := 0) 0 (.ref 5) jC_0 dX0_holder_1 kg_RX0_12 rfl (okX_4 _) (shX_4 _) (fvX_4_0 _) ?_
  refine j_get (ci := 8) 0 (.ref 6) jC_8 dX0_holder_4 kg_RX0_54 rfl (okX_5 _) (shX_5 _) (fvX_5_0 _) ?_
  refine j_iload_n 1 dX0_holder_7 rfl rfl ?_
  refine j_iload_n 2 dX0_holder_8 rfl rfl ?_
  replace h := bC_inv h
  obtain ⟨r3, cr3, h⟩ := h
  refine j_callS (st1 := .int r3 :: _) (c_X0_spot g _ cr3) jy_X0_spot kt_yX0_spot kl_RX0_57 dX0_holder_9 rfl rfl rfl rfl (jbr _) (jbr _) hn.1 hn.2 (Or.inr rfl) rfl ?_
  replace h := bC_inv h
  obtain ⟨r4, cr4, h⟩ := h
  refine j_callS (st1 := .int r4 :: _) (c_X6_at g cr4) jy_X6_at kt_yX6_at kl_RX0_61 dX0_holder_12 rfl rfl rfl rfl (jbr _) (jbr _) hn.1 hn.2 (Or.inr rfl) rfl ?_
  replace h := Option.some.inj h
  subst h
  obtain ⟨hr1, hr2⟩ := hr _ hK
  exact j_iret dX0_holder_15 hr1 hr2
theorem c_X0_holder (g : Bool) {σ : jS} {x1 : Int32} {x2 : Int32} {r : Int32} (h : f_X0_holder σ x1 x2 = some r) : Cn yX0_holder cX0_holder 3 (some .int) 2 g [.ref 4, .int x1, .int x2] (eX σ) (some (.int r)) (eX σ) :=
  Cn_of (by decide) (Nat.le_refl _) (Nat.le_refl _) (Nat.le_of_ble_eq_true rfl) (f_X0_holder_ok (Kp := (fun o => o = r)) σ x1 x2 ⟨jbr _, jbr _⟩ (fun r2 q => by cases q; exact ⟨rfl, rfl⟩) _ h rfl)
def f_X10_forgetFromWhom_J66 (σ : jS) : Option (Unit × jS) :=
  some (((), σ))
set_option maxHeartbeats 1000000 in
set_option maxRecDepth 20000 in
theorem f_X10_forgetFromWhom_J66_ok {g : Bool} {rv : Option Value} {μ' : jM} (σ : jS) {Kp : (Unit × jS) → Prop} (hn : Nat.ble nX μ'.1 = true ∧ Nat.ble wX μ'.2.1 = true) (hr : ∀ (r : Unit) (s : jS), Kp ((r, s)) → rv = none ∧ μ' = eX s) (o : (Unit × jS)) (h : f_X10_forgetFromWhom_J66 σ = some o) (hK : Kp o) : J yX10_forgetFromWhom cX10_forgetFromWhom 3 none 3 g rv μ' 66 [] [] (eX σ) := by
  unfold f_X10_forgetFromWhom_J66 at h
  replace h := Option.some.inj h
  subst h
  obtain ⟨hr1, hr2⟩ := hr _ _ hK
  exact j_vret dX10_forgetFromWhom_66 hr1 hr2
def f_X10_forgetFromWhom_B2 (σ : jS) (x1 : Int32) : Option ((Int32 × jS) ⊕ (Unit × jS)) :=
  bV (σ.2.2.1) fun t1 =>
  bH [51, 61] t1 (
  if (gI σ t1 8) ≤ x1 then (jw (f_X10_forgetFromWhom_J66 σ))
  else (bC (f_X6_at σ 30 x1) fun r2 =>
  bC (f_X0_holder σ r2 0) fun r3 =>
  bC (f_X0_holder σ r2 1) fun r4 =>
  bC (f_X0_state r3 r4 (r2 &&& (1 : Int32))) fun r5 =>
  bD (f_X6_put σ 30 x1 r5) fun r6 σ7 =>
  bV (x1 + 1) fun v8 =>
  some (.inl (v8, σ7))))
set_option maxHeartbeats 1000000 in
set_option maxRecDepth 20000 in
theorem f_X10_forgetFromWhom_B2_ok {g : Bool} {rv : Option Value} {μ' : jM} (σ : jS) (x1 : Int32) {Kp : ((Int32 × jS) ⊕ (Unit × jS)) → Prop} (hn : Nat.ble nX μ'.1 = true ∧ Nat.ble wX μ'.2.1 = true) (hr : ∀ (r : Unit) (s : jS), Kp (.inr ((r, s))) → rv = none ∧ μ' = eX s) (hc0 : ∀ s : (Int32 × jS), Kp (.inl s) → J yX10_forgetFromWhom cX10_forgetFromWhom 3 none 3 g rv μ' 2 [(0, .ref 1), (1, .int s.1)] [] (eX s.2)) (o : ((Int32 × jS) ⊕ (Unit × jS))) (h : f_X10_forgetFromWhom_B2 σ x1 = some o) (hK : Kp o) : J yX10_forgetFromWhom cX10_forgetFromWhom 3 none 3 g rv μ' 2 [(0, .ref 1), (1, .int x1)] [] (eX σ) := by
  unfold f_X10_forgetFromWhom_B2 at h
  refine j_iload_n 1 dX10_forgetFromWhom_2 rfl rfl ?_
  refine j_aload_n 0 dX10_forgetFromWhom_3 rfl rfl ?_
  refine j_get (ci := 9) 7 (.ref (σ.2.2.1)) jC_9 dX10_forgetFromWhom_4 kg_RX10_58 rfl (okX_1 _) (shX_1 _) (fvX_1_7 _) ?_
  replace h := bV_inv h
  obtain ⟨t9, et9, h⟩ := h
  refine j_nmr et9 ?_
  replace h := bH_inv h
  obtain ⟨hm10, h⟩ := h
  simp only [List.mem_cons, List.not_mem_nil, or_false] at hm10
  rcases hm10 with rfl | rfl
  · skip
    refine j_get (ci := 7) 8 (.int (gI σ 51 8)) jC_7 dX10_forgetFromWhom_7 kg_RX10_134 rfl (okX_51 _) (shX_51 _) (fvX_51_8 _) ?_
    refine j_icmp_ge 66 dX10_forgetFromWhom_10 (by decide) (fun hc11 => ?_) (fun hc11 => ?_)
    · replace h := jif_t hc11 h
      replace h := jw_inv h
      obtain ⟨o12, rfl, h⟩ := h
      refine j_sub [] [] rfl ?_
      exact f_X10_forgetFromWhom_J66_ok (Kp := fun o => Kp (.inr (o))) σ hn (fun r s q => hr r s q) _ h hK
    · replace h := jif_f hc11 h
      refine j_aload_n 0 dX10_forgetFromWhom_13 rfl rfl ?_
      refine j_get (ci := 9) 5 (.ref 29) jC_9 dX10_forgetFromWhom_14 kg_RX10_47 rfl (okX_1 _) (shX_1 _) (fvX_1_5 _) ?_
      refine j_get (ci := 6) 0 (.ref 30) jC_6 dX10_forgetFromWhom_17 kg_RX10_94 rfl (okX_29 _) (shX_29 _) (fvX_29_0 _) ?_
      refine j_iload_n 1 dX10_forgetFromWhom_20 rfl rfl ?_
      replace h := bC_inv h
      obtain ⟨r13, cr13, h⟩ := h
      refine j_callS (st1 := .int r13 :: _) (c_X6_at g cr13) jy_X6_at kt_yX6_at kl_RX10_150 dX10_forgetFromWhom_21 rfl rfl rfl rfl (jbr _) (jbr _) hn.1 hn.2 (Or.inr rfl) rfl ?_
      refine j_istore_n [(2, .int r13), (0, .ref 1), (1, .int x1)] dX10_forgetFromWhom_24 rfl (Nat.le_of_ble_eq_true rfl) rfl ?_
      refine j_aload_n 1 dX10_forgetFromWhom_25 rfl rfl ?_
      refine j_get (ci := 9) 5 (.ref 29) jC_9 dX10_forgetFromWhom_26 kg_RX10_47 rfl (okX_1 _) (shX_1 _) (fvX_1_5 _) ?_
      refine j_get (ci := 6) 0 (.ref 30) jC_6 dX10_forgetFromWhom_29 kg_RX10_94 rfl (okX_29 _) (shX_29 _) (fvX_29_0 _) ?_
      refine j_iload_n 2 dX10_forgetFromWhom_32 rfl rfl ?_
      refine j_aload_n 1 dX10_forgetFromWhom_33 rfl rfl ?_
      refine j_get (ci := 9) 1 (.ref 4) jC_9 dX10_forgetFromWhom_34 kg_RX10_19 rfl (okX_1 _) (shX_1 _) (fvX_1_1 _) ?_
      refine j_iload_n 0 dX10_forgetFromWhom_37 rfl rfl ?_
      refine j_iconst (v := 0) dX10_forgetFromWhom_38 (by decide) ?_
      replace h := bC_inv h
      obtain ⟨r14, cr14, h⟩ := h
      refine j_callV (ci := 0) (st1 := .int r14 :: _) (c_X0_holder g cr14) jy_X0_holder ki_yX0_holder ks_yX0_holder kl_RX10_201 dX10_forgetFromWhom_39 rfl (okX_4 _) (shX_4 _) rfl rfl rfl rfl (jbr _) (jbr _) hn.1 hn.2 (Or.inr rfl) rfl ?_
      refine j_aload_n 1 dX10_forgetFromWhom_42 rfl rfl ?_
      refine j_get (ci := 9) 1 (.ref 4) jC_9 dX10_forgetFromWhom_43 kg_RX10_19 rfl (okX_1 _) (shX_1 _) (fvX_1_1 _) ?_
      refine j_iload_n 0 dX10_forgetFromWhom_46 rfl rfl ?_
      refine j_iconst (v := 1) dX10_forgetFromWhom_47 (by decide) ?_
      replace h := bC_inv h
      obtain ⟨r15, cr15, h⟩ := h
      refine j_callV (ci := 0) (st1 := .int r15 :: _) (c_X0_holder g cr15) jy_X0_holder ki_yX0_holder ks_yX0_holder kl_RX10_201 dX10_forgetFromWhom_48 rfl (okX_4 _) (shX_4 _) rfl rfl rfl rfl (jbr _) (jbr _) hn.1 hn.2 (Or.inr rfl) rfl ?_
      refine j_iload_n 0 dX10_forgetFromWhom_51 rfl rfl ?_
      refine j_iconst (v := 1) dX10_forgetFromWhom_52 (by decide) ?_
      refine j_iand dX10_forgetFromWhom_53 ?_
      replace h := bC_inv h
      obtain ⟨r16, cr16, h⟩ := h
      refine j_callS (st1 := .int r16 :: _) (c_X0_state g _ cr16) jy_X0_state kt_yX0_state kl_RX10_304 dX10_forgetFromWhom_54 rfl rfl rfl rfl (jbr _) (jbr _) hn.1 hn.2 (Or.inr rfl) rfl ?_
      replace h := bD_inv h
      obtain ⟨r17, σ18, cr17, h⟩ := h
      refine j_callS (st1 := _) (c_X6_put g cr17) jy_X6_put kt_yX6_put kl_RX10_102 dX10_forgetFromWhom_57 rfl rfl rfl rfl (jbr _) (jbr _) hn.1 hn.2 (Or.inr rfl) rfl ?_
      replace h := bV_inv h
      obtain ⟨v19, ev19, h⟩ := h
      refine j_iinc (v := v19) [(1, .int v19), (2, .int r13), (0, .ref 1)] 2 dX10_forgetFromWhom_60 rfl (by rw [ev19]; rfl) (Nat.le_of_ble_eq_true rfl) rfl ?_
      refine j_goto 2 dX10_forgetFromWhom_63 (by decide) ?_
      replace h := Option.some.inj h
      subst h
      refine j_sub [(0, .ref 1), (1, .int v19)] [2, 0] rfl ?_
      exact hc0 _ hK
  · skip
    refine j_get (ci := 7) 8 (.int (gI σ 61 8)) jC_7 dX10_forgetFromWhom_7 kg_RX10_134 rfl (okX_61 _) (shX_61 _) (fvX_61_8 _) ?_
    refine j_icmp_ge 66 dX10_forgetFromWhom_10 (by decide) (fun hc20 => ?_) (fun hc20 => ?_)
    · replace h := jif_t hc20 h
      replace h := jw_inv h
      obtain ⟨o21, rfl, h⟩ := h
      refine j_sub [] [] rfl ?_
      exact f_X10_forgetFromWhom_J66_ok (Kp := fun o => Kp (.inr (o))) σ hn (fun r s q => hr r s q) _ h hK
    · replace h := jif_f hc20 h
      refine j_aload_n 0 dX10_forgetFromWhom_13 rfl rfl ?_
      refine j_get (ci := 9) 5 (.ref 29) jC_9 dX10_forgetFromWhom_14 kg_RX10_47 rfl (okX_1 _) (shX_1 _) (fvX_1_5 _) ?_
      refine j_get (ci := 6) 0 (.ref 30) jC_6 dX10_forgetFromWhom_17 kg_RX10_94 rfl (okX_29 _) (shX_29 _) (fvX_29_0 _) ?_
      refine j_iload_n 1 dX10_forgetFromWhom_20 rfl rfl ?_
      replace h := bC_inv h
      obtain ⟨r22, cr22, h⟩ := h
      refine j_callS (st1 := .int r22 :: _) (c_X6_at g cr22) jy_X6_at kt_yX6_at kl_RX10_150 dX10_forgetFromWhom_21 rfl rfl rfl rfl (jbr _) (jbr _) hn.1 hn.2 (Or.inr rfl) rfl ?_
      refine j_istore_n [(2, .int r22), (0, .ref 1), (1, .int x1)] dX10_forgetFromWhom_24 rfl (Nat.le_of_ble_eq_true rfl) rfl ?_
      refine j_aload_n 1 dX10_forgetFromWhom_25 rfl rfl ?_
      refine j_get (ci := 9) 5 (.ref 29) jC_9 dX10_forgetFromWhom_26 kg_RX10_47 rfl (okX_1 _) (shX_1 _) (fvX_1_5 _) ?_
      refine j_get (ci := 6) 0 (.ref 30) jC_6 dX10_forgetFromWhom_29 kg_RX10_94 rfl (okX_29 _) (shX_29 _) (fvX_29_0 _) ?_
      refine j_iload_n 2 dX10_forgetFromWhom_32 rfl rfl ?_
      refine j_aload_n 1 dX10_forgetFromWhom_33 rfl rfl ?_
      refine j_get (ci := 9) 1 (.ref 4) jC_9 dX10_forgetFromWhom_34 kg_RX10_19 rfl (okX_1 _) (shX_1 _) (fvX_1_1 _) ?_
      refine j_iload_n 0 dX10_forgetFromWhom_37 rfl rfl ?_
      refine j_iconst (v := 0) dX10_forgetFromWhom_38 (by decide) ?_
      replace h := bC_inv h
      obtain ⟨r23, cr23, h⟩ := h
      refine j_callV (ci := 0) (st1 := .int r23 :: _) (c_X0_holder g cr23) jy_X0_holder ki_yX0_holder ks_yX0_holder kl_RX10_201 dX10_forgetFromWhom_39 rfl (okX_4 _) (shX_4 _) rfl rfl rfl rfl (jbr _) (jbr _) hn.1 hn.2 (Or.inr rfl) rfl ?_
      refine j_aload_n 1 dX10_forgetFromWhom_42 rfl rfl ?_
      refine j_get (ci := 9) 1 (.ref 4) jC_9 dX10_forgetFromWhom_43 kg_RX10_19 rfl (okX_1 _) (shX_1 _) (fvX_1_1 _) ?_
      refine j_iload_n 0 dX10_forgetFromWhom_46 rfl rfl ?_
      refine j_iconst (v := 1) dX10_forgetFromWhom_47 (by decide) ?_
      replace h := bC_inv h
      obtain ⟨r24, cr24, h⟩ := h
      refine j_callV (ci := 0) (st1 := .int r24 :: _) (c_X0_holder g cr24) jy_X0_holder ki_yX0_holder ks_yX0_holder kl_RX10_201 dX10_forgetFromWhom_48 rfl (okX_4 _) (shX_4 _) rfl rfl rfl rfl (jbr _) (jbr _) hn.1 hn.2 (Or.inr rfl) rfl ?_
      refine j_iload_n 0 dX10_forgetFromWhom_51 rfl rfl ?_
      refine j_iconst (v := 1) dX10_forgetFromWhom_52 (by decide) ?_
      refine j_iand dX10_forgetFromWhom_53 ?_
      replace h := bC_inv h
      obtain ⟨r25, cr25, h⟩ := h
      refine j_callS (st1 := .int r25 :: _) (c_X0_state g _ cr25) jy_X0_state kt_yX0_state kl_RX10_304 dX10_forgetFromWhom_54 rfl rfl rfl rfl (jbr _) (jbr _) hn.1 hn.2 (Or.inr rfl) rfl ?_
      replace h := bD_inv h
      obtain ⟨r26, σ27, cr26, h⟩ := h
      refine j_callS (st1 := _) (c_X6_put g cr26) jy_X6_put kt_yX6_put kl_RX10_102 dX10_forgetFromWhom_57 rfl rfl rfl rfl (jbr _) (jbr _) hn.1 hn.2 (Or.inr rfl) rfl ?_
      replace h := bV_inv h
      obtain ⟨v28, ev28, h⟩ := h
      refine j_iinc (v := v28) [(1, .int v28), (2, .int r22), (0, .ref 1)] 2 dX10_forgetFromWhom_60 rfl (by rw [ev28]; rfl) (Nat.le_of_ble_eq_true rfl) rfl ?_
      refine j_goto 2 dX10_forgetFromWhom_63 (by decide) ?_
      replace h := Option.some.inj h
      subst h
      refine j_sub [(0, .ref 1), (1, .int v28)] [2, 0] rfl ?_
      exact hc0 _ hK
def f_X10_forgetFromWhom (σ : jS) : Option (Unit × jS) :=
  jloop jFuel (fun s => f_X10_forgetFromWhom_B2 s.2 s.1) (0, σ)
set_option maxHeartbeats 1000000 in
set_option maxRecDepth 20000 in
theorem f_X10_forgetFromWhom_ok {g : Bool} {rv : Option Value} {μ' : jM} (σ : jS) {Kp : (Unit × jS) → Prop} (hn : Nat.ble nX μ'.1 = true ∧ Nat.ble wX μ'.2.1 = true) (hr : ∀ (r : Unit) (s : jS), Kp ((r, s)) → rv = none ∧ μ' = eX s) (o : (Unit × jS)) (h : f_X10_forgetFromWhom σ = some o) (hK : Kp o) : J yX10_forgetFromWhom cX10_forgetFromWhom 3 none 3 g rv μ' 0 [(0, .ref 1)] [] (eX σ) := by
  unfold f_X10_forgetFromWhom at h
  refine j_iconst (v := 0) dX10_forgetFromWhom_0 (by decide) ?_
  refine j_istore_n [(1, .int 0), (0, .ref 1)] dX10_forgetFromWhom_1 rfl (Nat.le_of_ble_eq_true rfl) rfl ?_
  refine j_sub [(0, .ref 1), (1, .int 0)] [1, 0] rfl ?_
  exact jloop_ok (fun s => f_X10_forgetFromWhom_B2 s.2 s.1) (fun s => J yX10_forgetFromWhom cX10_forgetFromWhom 3 none 3 g rv μ' 2 [(0, .ref 1), (1, .int s.1)] [] (eX s.2)) Kp (fun s o hb hk => f_X10_forgetFromWhom_B2_ok (Kp := jsum (fun s => J yX10_forgetFromWhom cX10_forgetFromWhom 3 none 3 g rv μ' 2 [(0, .ref 1), (1, .int s.1)] [] (eX s.2)) Kp) s.2 s.1 hn (fun r s q => hr r s q) (fun s q => q) o hb hk) jFuel _ _ h hK
theorem c_X10_forgetFromWhom (g : Bool) {σ : jS} {r : Unit} {σ2 : jS} (h : f_X10_forgetFromWhom σ = some (r, σ2)) : Cn yX10_forgetFromWhom cX10_forgetFromWhom 3 none 3 g [.ref 1] (eX σ) none (eX σ2) :=
  Cn_of (by decide) (Nat.le_refl _) (Nat.le_refl _) (Nat.le_of_ble_eq_true rfl) (f_X10_forgetFromWhom_ok (Kp := (fun o => o = (r, σ2))) σ ⟨jbr _, jbr _⟩ (fun r2 s2 q => by cases q; exact ⟨rfl, rfl⟩) _ h rfl)
def f_X10_law_J73 (σ : jS) : Option (Int32 × jS) :=
  some (((-1002), σ))
set_option maxHeartbeats 1000000 in
set_option maxRecDepth 20000 in
theorem f_X10_law_J73_ok {g : Bool} {rv : Option Value} {μ' : jM} (σ : jS) {Kp : (Int32 × jS) → Prop} (hn : Nat.ble nX μ'.1 = true ∧ Nat.ble wX μ'.2.1 = true) (hr : ∀ (r : Int32) (s : jS), Kp ((r, s)) → rv = some (.int r) ∧ μ' = eX s) (o : (Int32 × jS)) (h : f_X10_law_J73 σ = some o) (hK : Kp o) : J yX10_law cX10_law 4 (some .int) 6 g rv μ' 73 [] [] (eX σ) := by
  unfold f_X10_law_J73 at h
  refine j_sipush (v := (-1002)) dX10_law_73 (by decide) ?_
  replace h := Option.some.inj h
  subst h
  obtain ⟨hr1, hr2⟩ := hr _ _ hK
  exact j_iret dX10_law_76 hr1 hr2
def f_X10_law_J77 (σ : jS) (x3 : Int32) : Option (Int32 × jS) :=
  bD (f_X10_settle σ) fun r3 σ4 =>
  some ((x3, σ4))
set_option maxHeartbeats 1000000 in
set_option maxRecDepth 20000 in
theorem f_X10_law_J77_ok {g : Bool} {rv : Option Value} {μ' : jM} (σ : jS) (x3 : Int32) {Kp : (Int32 × jS) → Prop} (hn : Nat.ble nX μ'.1 = true ∧ Nat.ble wX μ'.2.1 = true) (hr : ∀ (r : Int32) (s : jS), Kp ((r, s)) → rv = some (.int r) ∧ μ' = eX s) (o : (Int32 × jS)) (h : f_X10_law_J77 σ x3 = some o) (hK : Kp o) : J yX10_law cX10_law 4 (some .int) 6 g rv μ' 77 [(0, .ref 1), (3, .int x3)] [] (eX σ) := by
  unfold f_X10_law_J77 at h
  refine j_aload_n 0 dX10_law_77 rfl rfl ?_
  replace h := bD_inv h
  obtain ⟨r5, σ6, cr5, h⟩ := h
  refine j_callV (ci := 9) (st1 := _) (c_X10_settle g cr5) jy_X10_settle ki_yX10_settle ks_yX10_settle kl_RX10_122 dX10_law_78 rfl (okX_1 _) (shX_1 _) rfl rfl rfl rfl (jbr _) (jbr _) hn.1 hn.2 (Or.inr rfl) rfl ?_
  refine j_iload_n 1 dX10_law_81 rfl rfl ?_
  replace h := Option.some.inj h
  subst h
  obtain ⟨hr1, hr2⟩ := hr _ _ hK
  exact j_iret dX10_law_82 hr1 hr2
def f_X10_law_J46 (σ : jS) (x2 : Int32) : Option (Int32 × jS) :=
  bV (gI σ 29 4) fun v1 =>
  bV (sI σ 29 4 x2) fun σ2 =>
  if x2 = 0 then (bD (f_X10_forgetFromWhom σ2) fun r7 σ8 =>
  f_X10_law_J77 σ8 v1)
  else (f_X10_law_J77 σ2 v1)
set_option maxHeartbeats 1000000 in
set_option maxRecDepth 20000 in
theorem f_X10_law_J46_ok {g : Bool} {rv : Option Value} {μ' : jM} (σ : jS) (x2 : Int32) {Kp : (Int32 × jS) → Prop} (hn : Nat.ble nX μ'.1 = true ∧ Nat.ble wX μ'.2.1 = true) (hr : ∀ (r : Int32) (s : jS), Kp ((r, s)) → rv = some (.int r) ∧ μ' = eX s) (o : (Int32 × jS)) (h : f_X10_law_J46 σ x2 = some o) (hK : Kp o) : J yX10_law cX10_law 4 (some .int) 6 g rv μ' 46 [(0, .ref 1), (2, .int x2)] [] (eX σ) := by
  unfold f_X10_law_J46 at h
  refine j_aload_n 0 dX10_law_46 rfl rfl ?_
  refine j_get (ci := 9) 5 (.ref 29) jC_9 dX10_law_47 kg_RX10_47 rfl (okX_1 _) (shX_1 _) (fvX_1_5 _) ?_
  refine j_get (ci := 6) 4 (.int (gI σ 29 4)) jC_6 dX10_law_50 kg_RX10_181 rfl (okX_29 _) (shX_29 _) (fvX_29_4 _) ?_
  replace h := bV_inv h
  obtain ⟨v9, ev9, h⟩ := h
  refine j_nmi ev9 ?_
  refine j_istore_n [(3, .int v9), (0, .ref 1), (2, .int x2)] dX10_law_53 rfl (Nat.le_of_ble_eq_true rfl) rfl ?_
  refine j_aload_n 1 dX10_law_54 rfl rfl ?_
  refine j_get (ci := 9) 5 (.ref 29) jC_9 dX10_law_55 kg_RX10_47 rfl (okX_1 _) (shX_1 _) (fvX_1_5 _) ?_
  refine j_iload_n 2 dX10_law_58 rfl rfl ?_
  replace h := bV_inv h
  obtain ⟨σ10, eσ10, h⟩ := h
  refine j_putI 4 jC_6 dX10_law_59 kg_RX10_181 (Or.inl ff_6_4) rfl fk_6_4 (fn_6_4 _) (okX_29 _) (shX_29 _) ?_
  refine j_mem (congrArg eX eσ10) ?_
  refine j_iload_n 2 dX10_law_62 rfl rfl ?_
  refine j_if_ne 77 dX10_law_63 (by decide) (fun hc11 => ?_) (fun hc11 => ?_)
  · replace h := jif_f hc11 h
    refine j_sub [(0, .ref 1), (3, .int v9)] [1, 0] rfl ?_
    exact f_X10_law_J77_ok σ10 v9 hn hr _ h hK
  · replace h := jif_t hc11 h
    refine j_aload_n 1 dX10_law_66 rfl rfl ?_
    replace h := bD_inv h
    obtain ⟨r12, σ13, cr12, h⟩ := h
    refine j_callV (ci := 9) (st1 := _) (c_X10_forgetFromWhom g cr12) jy_X10_forgetFromWhom ki_yX10_forgetFromWhom ks_yX10_forgetFromWhom kl_RX10_184 dX10_law_67 rfl (okX_1 _) (shX_1 _) rfl rfl rfl rfl (jbr _) (jbr _) hn.1 hn.2 (Or.inr rfl) rfl ?_
    refine j_goto 77 dX10_law_70 (by decide) ?_
    refine j_sub [(0, .ref 1), (3, .int v9)] [1, 0] rfl ?_
    exact f_X10_law_J77_ok σ13 v9 hn hr _ h hK
def f_X10_law_J32 (σ : jS) (x1 : Int32) (x2 : Int32) : Option (Int32 × jS) :=
  if x1 = 1 then (if x2 = 0 then (f_X10_law_J46 σ x2)
  else (if x2 = 1 then (f_X10_law_J46 σ x2)
  else (f_X10_law_J73 σ)))
  else (f_X10_law_J73 σ)
set_option maxHeartbeats 1000000 in
set_option maxRecDepth 20000 in
theorem f_X10_law_J32_ok {g : Bool} {rv : Option Value} {μ' : jM} (σ : jS) (x1 : Int32) (x2 : Int32) {Kp : (Int32 × jS) → Prop} (hn : Nat.ble nX μ'.1 = true ∧ Nat.ble wX μ'.2.1 = true) (hr : ∀ (r : Int32) (s : jS), Kp ((r, s)) → rv = some (.int r) ∧ μ' = eX s) (o : (Int32 × jS)) (h : f_X10_law_J32 σ x1 x2 = some o) (hK : Kp o) : J yX10_law cX10_law 4 (some .int) 6 g rv μ' 32 [(0, .ref 1), (1, .int x1), (2, .int x2)] [] (eX σ) := by
  unfold f_X10_law_J32 at h
  refine j_iload_n 1 dX10_law_32 rfl rfl ?_
  refine j_iconst (v := 1) dX10_law_33 (by decide) ?_
  refine j_icmp_ne 73 dX10_law_34 (by decide) (fun hc14 => ?_) (fun hc14 => ?_)
  · replace h := jif_f hc14 h
    refine j_sub [] [] rfl ?_
    exact f_X10_law_J73_ok σ hn hr _ h hK
  · replace h := jif_t hc14 h
    refine j_iload_n 2 dX10_law_37 rfl rfl ?_
    refine j_if_eq 46 dX10_law_38 (by decide) (fun hc15 => ?_) (fun hc15 => ?_)
    · replace h := jif_t hc15 h
      refine j_sub [(0, .ref 1), (2, .int x2)] [0, 2] rfl ?_
      exact f_X10_law_J46_ok σ x2 hn hr _ h hK
    · replace h := jif_f hc15 h
      refine j_iload_n 2 dX10_law_41 rfl rfl ?_
      refine j_iconst (v := 1) dX10_law_42 (by decide) ?_
      refine j_icmp_ne 73 dX10_law_43 (by decide) (fun hc16 => ?_) (fun hc16 => ?_)
      · replace h := jif_f hc16 h
        refine j_sub [] [] rfl ?_
        exact f_X10_law_J73_ok σ hn hr _ h hK
      · replace h := jif_t hc16 h
        refine j_sub [(0, .ref 1), (2, .int x2)] [0, 2] rfl ?_
        exact f_X10_law_J46_ok σ x2 hn hr _ h hK
def f_X10_law (σ : jS) (x1 : Int32) (x2 : Int32) : Option (Int32 × jS) :=
  if x1 = 0 then (if x2 < 0 then (f_X10_law_J32 σ x1 x2)
  else (if 4 ≤ x2 then (f_X10_law_J32 σ x1 x2)
  else (bV (gI σ 29 3) fun v17 =>
  bV (sI σ 29 3 x2) fun σ18 =>
  f_X10_law_J77 σ18 v17)))
  else (f_X10_law_J32 σ x1 x2)
set_option maxHeartbeats 1000000 in
set_option maxRecDepth 20000 in
theorem f_X10_law_ok {g : Bool} {rv : Option Value} {μ' : jM} (σ : jS) (x1 : Int32) (x2 : Int32) {Kp : (Int32 × jS) → Prop} (hn : Nat.ble nX μ'.1 = true ∧ Nat.ble wX μ'.2.1 = true) (hr : ∀ (r : Int32) (s : jS), Kp ((r, s)) → rv = some (.int r) ∧ μ' = eX s) (o : (Int32 × jS)) (h : f_X10_law σ x1 x2 = some o) (hK : Kp o) : J yX10_law cX10_law 4 (some .int) 6 g rv μ' 0 [(0, .ref 1), (1, .int x1), (2, .int x2)] [] (eX σ) := by
  unfold f_X10_law at h
  refine j_iload_n 1 dX10_law_0 rfl rfl ?_
  refine j_if_ne 32 dX10_law_1 (by decide) (fun hc19 => ?_) (fun hc19 => ?_)
  · replace h := jif_f hc19 h
    exact f_X10_law_J32_ok σ x1 x2 hn hr _ h hK
  · replace h := jif_t hc19 h
    refine j_iload_n 2 dX10_law_4 rfl rfl ?_
    refine j_if_lt 32 dX10_law_5 (by decide) (fun hc20 => ?_) (fun hc20 => ?_)
    · replace h := jif_t hc20 h
      exact f_X10_law_J32_ok σ x1 x2 hn hr _ h hK
    · replace h := jif_f hc20 h
      refine j_iload_n 2 dX10_law_8 rfl rfl ?_
      refine j_iconst (v := 4) dX10_law_9 (by decide) ?_
      refine j_icmp_ge 32 dX10_law_10 (by decide) (fun hc21 => ?_) (fun hc21 => ?_)
      · replace h := jif_t hc21 h
        exact f_X10_law_J32_ok σ x1 x2 hn hr _ h hK
      · replace h := jif_f hc21 h
        refine j_aload_n 0 dX10_law_13 rfl rfl ?_
        refine j_get (ci := 9) 5 (.ref 29) jC_9 dX10_law_14 kg_RX10_47 rfl (okX_1 _) (shX_1 _) (fvX_1_5 _) ?_
        refine j_get (ci := 6) 3 (.int (gI σ 29 3)) jC_6 dX10_law_17 kg_RX10_178 rfl (okX_29 _) (shX_29 _) (fvX_29_3 _) ?_
        replace h := bV_inv h
        obtain ⟨v22, ev22, h⟩ := h
        refine j_nmi ev22 ?_
        refine j_istore_n [(3, .int v22), (0, .ref 1), (1, .int x1), (2, .int x2)] dX10_law_20 rfl (Nat.le_of_ble_eq_true rfl) rfl ?_
        refine j_aload_n 1 dX10_law_21 rfl rfl ?_
        refine j_get (ci := 9) 5 (.ref 29) jC_9 dX10_law_22 kg_RX10_47 rfl (okX_1 _) (shX_1 _) (fvX_1_5 _) ?_
        refine j_iload_n 3 dX10_law_25 rfl rfl ?_
        replace h := bV_inv h
        obtain ⟨σ23, eσ23, h⟩ := h
        refine j_putI 3 jC_6 dX10_law_26 kg_RX10_178 (Or.inl ff_6_3) rfl fk_6_3 (fn_6_3 _) (okX_29 _) (shX_29 _) ?_
        refine j_mem (congrArg eX eσ23) ?_
        refine j_goto 77 dX10_law_29 (by decide) ?_
        refine j_sub [(0, .ref 1), (3, .int v22)] [1, 0] rfl ?_
        exact f_X10_law_J77_ok σ23 v22 hn hr _ h hK
theorem c_X10_law (g : Bool) {σ : jS} {x1 : Int32} {x2 : Int32} {r : Int32} {σ2 : jS} (h : f_X10_law σ x1 x2 = some (r, σ2)) : Cn yX10_law cX10_law 4 (some .int) 6 g [.ref 1, .int x1, .int x2] (eX σ) (some (.int r)) (eX σ2) :=
  Cn_of (by decide) (Nat.le_refl _) (Nat.le_refl _) (Nat.le_of_ble_eq_true rfl) (f_X10_law_ok (Kp := (fun o => o = (r, σ2))) σ x1 x2 ⟨jbr _, jbr _⟩ (fun r2 s2 q => by cases q; exact ⟨rfl, rfl⟩) _ h rfl)
def f_X1_drop_J118 (σ : jS) : Option (Unit × jS) :=
  some (((), σ))
set_option maxHeartbeats 1000000 in
set_option maxRecDepth 20000 in
theorem f_X1_drop_J118_ok {g : Bool} {rv : Option Value} {μ' : jM} (σ : jS) {Kp : (Unit × jS) → Prop} (hn : Nat.ble nX μ'.1 = true ∧ Nat.ble wX μ'.2.1 = true) (hr : ∀ (r : Unit) (s : jS), Kp ((r, s)) → rv = none ∧ μ' = eX s) (o : (Unit × jS)) (h : f_X1_drop_J118 σ = some o) (hK : Kp o) : J yX1_drop cX1_drop 6 none 3 g rv μ' 118 [] [] (eX σ) := by
  unfold f_X1_drop_J118 at h
  replace h := Option.some.inj h
  subst h
  obtain ⟨hr1, hr2⟩ := hr _ _ hK
  exact j_vret dX1_drop_118 hr1 hr2
def f_X1_drop_J112 (σ : jS) (x0 : Nat) (x1 : Int32) (x2 : Int32) (x3 : Int32) : Option ((Int32 × jS) ⊕ (Unit × jS)) :=
  bV (x3 + 1) fun v3 =>
  some (.inl (v3, σ))
set_option maxHeartbeats 1000000 in
set_option maxRecDepth 20000 in
theorem f_X1_drop_J112_ok {g : Bool} {rv : Option Value} {μ' : jM} (σ : jS) (x0 : Nat) (x1 : Int32) (x2 : Int32) (x3 : Int32) {Kp : ((Int32 × jS) ⊕ (Unit × jS)) → Prop} (hn : Nat.ble nX μ'.1 = true ∧ Nat.ble wX μ'.2.1 = true) (hr : ∀ (r : Unit) (s : jS), Kp (.inr ((r, s))) → rv = none ∧ μ' = eX s) (hc0 : ∀ s : (Int32 × jS), Kp (.inl s) → J yX1_drop cX1_drop 6 none 3 g rv μ' 2 [(0, .ref x0), (1, .int x1), (2, .int x2), (3, .int s.1)] [] (eX s.2)) (o : ((Int32 × jS) ⊕ (Unit × jS))) (h : f_X1_drop_J112 σ x0 x1 x2 x3 = some o) (hK : Kp o) : J yX1_drop cX1_drop 6 none 3 g rv μ' 112 [(0, .ref x0), (1, .int x1), (2, .int x2), (3, .int x3)] [] (eX σ) := by
  unfold f_X1_drop_J112 at h
  replace h := bV_inv h
  obtain ⟨v4, ev4, h⟩ := h
  refine j_iinc (v := v4) [(3, .int v4), (0, .ref x0), (1, .int x1), (2, .int x2)] 3 dX1_drop_112 rfl (by rw [ev4]; rfl) (Nat.le_of_ble_eq_true rfl) rfl ?_
  refine j_goto 2 dX1_drop_115 (by decide) ?_
  replace h := Option.some.inj h
  subst h
  refine j_sub [(0, .ref x0), (1, .int x1), (2, .int x2), (3, .int v4)] [1, 2, 3, 0] rfl ?_
  exact hc0 _ hK
def f_X1_drop_J54 (σ : jS) (x0 : Nat) (x1 : Int32) (x2 : Int32) (x3 : Int32) : Option (Unit × jS) :=
  bH [32, 40, 47, 57, 67] x0 (
  bV (sI σ x0 3 ((gI σ x0 3) - (1 : Int32))) fun σ5 =>
  bC (f_X6_at σ5 (rPX x0 0) (gI σ5 x0 3)) fun r6 =>
  bD (f_X6_put σ5 (rPX x0 0) x3 r6) fun r7 σ8 =>
  bC (f_X6_at σ8 (rPX x0 1) (gI σ8 x0 3)) fun r9 =>
  bD (f_X6_put σ8 (rPX x0 1) x3 r9) fun r10 σ11 =>
  bD (f_X1_toggle σ11 (rPX x0 2) x1 x2) fun r12 σ13 =>
  some (((), σ13)))
set_option maxHeartbeats 1000000 in
set_option maxRecDepth 20000 in
theorem f_X1_drop_J54_ok {g : Bool} {rv : Option Value} {μ' : jM} (σ : jS) (x0 : Nat) (x1 : Int32) (x2 : Int32) (x3 : Int32) {Kp : (Unit × jS) → Prop} (hn : Nat.ble nX μ'.1 = true ∧ Nat.ble wX μ'.2.1 = true) (hr : ∀ (r : Unit) (s : jS), Kp ((r, s)) → rv = none ∧ μ' = eX s) (o : (Unit × jS)) (h : f_X1_drop_J54 σ x0 x1 x2 x3 = some o) (hK : Kp o) : J yX1_drop cX1_drop 6 none 3 g rv μ' 54 [(0, .ref x0), (1, .int x1), (2, .int x2), (3, .int x3)] [] (eX σ) := by
  unfold f_X1_drop_J54 at h
  refine j_aload_n 0 dX1_drop_54 rfl rfl ?_
  refine j_dup dX1_drop_55 rfl ?_
  replace h := bH_inv h
  obtain ⟨hm14, h⟩ := h
  simp only [List.mem_cons, List.not_mem_nil, or_false] at hm14
  rcases hm14 with rfl | rfl | rfl | rfl | rfl
  · skip
    refine j_get (ci := 1) 3 (.int (gI σ 32 3)) jC_1 dX1_drop_56 kg_RX1_21 rfl (okX_32 _) (shX_32 _) (fvX_32_3 _) ?_
    refine j_iconst (v := 1) dX1_drop_59 (by decide) ?_
    refine j_isub dX1_drop_60 ?_
    replace h := bV_inv h
    obtain ⟨σ15, eσ15, h⟩ := h
    refine j_putI 3 jC_1 dX1_drop_61 kg_RX1_21 (Or.inl ff_1_3) rfl fk_1_3 (fn_1_3 _) (okX_32 _) (shX_32 _) ?_
    refine j_mem (congrArg eX eσ15) ?_
    refine j_aload_n 0 dX1_drop_64 rfl rfl ?_
    refine j_get (ci := 1) 0 (.ref 33) jC_1 dX1_drop_65 kg_RX1_9 rfl (okX_32 _) (shX_32 _) (fvX_32_0 _) ?_
    refine j_iload_n 3 dX1_drop_68 rfl rfl ?_
    refine j_aload_n 0 dX1_drop_69 rfl rfl ?_
    refine j_get (ci := 1) 0 (.ref 33) jC_1 dX1_drop_70 kg_RX1_9 rfl (okX_32 _) (shX_32 _) (fvX_32_0 _) ?_
    refine j_aload_n 0 dX1_drop_73 rfl rfl ?_
    refine j_get (ci := 1) 3 (.int (gI σ15 32 3)) jC_1 dX1_drop_74 kg_RX1_21 rfl (okX_32 _) (shX_32 _) (fvX_32_3 _) ?_
    replace h := bC_inv h
    obtain ⟨r16, cr16, h⟩ := h
    refine j_callS (st1 := .int r16 :: _) (c_X6_at g cr16) jy_X6_at kt_yX6_at kl_RX1_31 dX1_drop_77 rfl rfl rfl rfl (jbr _) (jbr _) hn.1 hn.2 (Or.inr rfl) rfl ?_
    replace h := bD_inv h
    obtain ⟨r17, σ18, cr17, h⟩ := h
    refine j_callS (st1 := _) (c_X6_put g cr17) jy_X6_put kt_yX6_put kl_RX1_35 dX1_drop_80 rfl rfl rfl rfl (jbr _) (jbr _) hn.1 hn.2 (Or.inr rfl) rfl ?_
    refine j_aload_n 0 dX1_drop_83 rfl rfl ?_
    refine j_get (ci := 1) 1 (.ref 34) jC_1 dX1_drop_84 kg_RX1_15 rfl (okX_32 _) (shX_32 _) (fvX_32_1 _) ?_
    refine j_iload_n 3 dX1_drop_87 rfl rfl ?_
    refine j_aload_n 0 dX1_drop_88 rfl rfl ?_
    refine j_get (ci := 1) 1 (.ref 34) jC_1 dX1_drop_89 kg_RX1_15 rfl (okX_32 _) (shX_32 _) (fvX_32_1 _) ?_
    refine j_aload_n 0 dX1_drop_92 rfl rfl ?_
    refine j_get (ci := 1) 3 (.int (gI σ18 32 3)) jC_1 dX1_drop_93 kg_RX1_21 rfl (okX_32 _) (shX_32 _) (fvX_32_3 _) ?_
    replace h := bC_inv h
    obtain ⟨r19, cr19, h⟩ := h
    refine j_callS (st1 := .int r19 :: _) (c_X6_at g cr19) jy_X6_at kt_yX6_at kl_RX1_31 dX1_drop_96 rfl rfl rfl rfl (jbr _) (jbr _) hn.1 hn.2 (Or.inr rfl) rfl ?_
    replace h := bD_inv h
    obtain ⟨r20, σ21, cr20, h⟩ := h
    refine j_callS (st1 := _) (c_X6_put g cr20) jy_X6_put kt_yX6_put kl_RX1_35 dX1_drop_99 rfl rfl rfl rfl (jbr _) (jbr _) hn.1 hn.2 (Or.inr rfl) rfl ?_
    refine j_aload_n 0 dX1_drop_102 rfl rfl ?_
    refine j_get (ci := 1) 2 (.ref 35) jC_1 dX1_drop_103 kg_RX1_18 rfl (okX_32 _) (shX_32 _) (fvX_32_2 _) ?_
    refine j_iload_n 1 dX1_drop_106 rfl rfl ?_
    refine j_iload_n 2 dX1_drop_107 rfl rfl ?_
    replace h := bD_inv h
    obtain ⟨r22, σ23, cr22, h⟩ := h
    refine j_callS (st1 := _) (c_X1_toggle g cr22) jy_X1_toggle kt_yX1_toggle kl_RX1_39 dX1_drop_108 rfl rfl rfl rfl (jbr _) (jbr _) hn.1 hn.2 (Or.inr rfl) rfl ?_
    replace h := Option.some.inj h
    subst h
    obtain ⟨hr1, hr2⟩ := hr _ _ hK
    exact j_vret dX1_drop_111 hr1 hr2
  · skip
    refine j_get (ci := 1) 3 (.int (gI σ 40 3)) jC_1 dX1_drop_56 kg_RX1_21 rfl (okX_40 _) (shX_40 _) (fvX_40_3 _) ?_
    refine j_iconst (v := 1) dX1_drop_59 (by decide) ?_
    refine j_isub dX1_drop_60 ?_
    replace h := bV_inv h
    obtain ⟨σ24, eσ24, h⟩ := h
    refine j_putI 3 jC_1 dX1_drop_61 kg_RX1_21 (Or.inl ff_1_3) rfl fk_1_3 (fn_1_3 _) (okX_40 _) (shX_40 _) ?_
    refine j_mem (congrArg eX eσ24) ?_
    refine j_aload_n 0 dX1_drop_64 rfl rfl ?_
    refine j_get (ci := 1) 0 (.ref 41) jC_1 dX1_drop_65 kg_RX1_9 rfl (okX_40 _) (shX_40 _) (fvX_40_0 _) ?_
    refine j_iload_n 3 dX1_drop_68 rfl rfl ?_
    refine j_aload_n 0 dX1_drop_69 rfl rfl ?_
    refine j_get (ci := 1) 0 (.ref 41) jC_1 dX1_drop_70 kg_RX1_9 rfl (okX_40 _) (shX_40 _) (fvX_40_0 _) ?_
    refine j_aload_n 0 dX1_drop_73 rfl rfl ?_
    refine j_get (ci := 1) 3 (.int (gI σ24 40 3)) jC_1 dX1_drop_74 kg_RX1_21 rfl (okX_40 _) (shX_40 _) (fvX_40_3 _) ?_
    replace h := bC_inv h
    obtain ⟨r25, cr25, h⟩ := h
    refine j_callS (st1 := .int r25 :: _) (c_X6_at g cr25) jy_X6_at kt_yX6_at kl_RX1_31 dX1_drop_77 rfl rfl rfl rfl (jbr _) (jbr _) hn.1 hn.2 (Or.inr rfl) rfl ?_
    replace h := bD_inv h
    obtain ⟨r26, σ27, cr26, h⟩ := h
    refine j_callS (st1 := _) (c_X6_put g cr26) jy_X6_put kt_yX6_put kl_RX1_35 dX1_drop_80 rfl rfl rfl rfl (jbr _) (jbr _) hn.1 hn.2 (Or.inr rfl) rfl ?_
    refine j_aload_n 0 dX1_drop_83 rfl rfl ?_
    refine j_get (ci := 1) 1 (.ref 42) jC_1 dX1_drop_84 kg_RX1_15 rfl (okX_40 _) (shX_40 _) (fvX_40_1 _) ?_
    refine j_iload_n 3 dX1_drop_87 rfl rfl ?_
    refine j_aload_n 0 dX1_drop_88 rfl rfl ?_
    refine j_get (ci := 1) 1 (.ref 42) jC_1 dX1_drop_89 kg_RX1_15 rfl (okX_40 _) (shX_40 _) (fvX_40_1 _) ?_
    refine j_aload_n 0 dX1_drop_92 rfl rfl ?_
    refine j_get (ci := 1) 3 (.int (gI σ27 40 3)) jC_1 dX1_drop_93 kg_RX1_21 rfl (okX_40 _) (shX_40 _) (fvX_40_3 _) ?_
    replace h := bC_inv h
    obtain ⟨r28, cr28, h⟩ := h
    refine j_callS (st1 := .int r28 :: _) (c_X6_at g cr28) jy_X6_at kt_yX6_at kl_RX1_31 dX1_drop_96 rfl rfl rfl rfl (jbr _) (jbr _) hn.1 hn.2 (Or.inr rfl) rfl ?_
    replace h := bD_inv h
    obtain ⟨r29, σ30, cr29, h⟩ := h
    refine j_callS (st1 := _) (c_X6_put g cr29) jy_X6_put kt_yX6_put kl_RX1_35 dX1_drop_99 rfl rfl rfl rfl (jbr _) (jbr _) hn.1 hn.2 (Or.inr rfl) rfl ?_
    refine j_aload_n 0 dX1_drop_102 rfl rfl ?_
    refine j_get (ci := 1) 2 (.ref 43) jC_1 dX1_drop_103 kg_RX1_18 rfl (okX_40 _) (shX_40 _) (fvX_40_2 _) ?_
    refine j_iload_n 1 dX1_drop_106 rfl rfl ?_
    refine j_iload_n 2 dX1_drop_107 rfl rfl ?_
    replace h := bD_inv h
    obtain ⟨r31, σ32, cr31, h⟩ := h
    refine j_callS (st1 := _) (c_X1_toggle g cr31) jy_X1_toggle kt_yX1_toggle kl_RX1_39 dX1_drop_108 rfl rfl rfl rfl (jbr _) (jbr _) hn.1 hn.2 (Or.inr rfl) rfl ?_
    replace h := Option.some.inj h
    subst h
    obtain ⟨hr1, hr2⟩ := hr _ _ hK
    exact j_vret dX1_drop_111 hr1 hr2
  · skip
    refine j_get (ci := 1) 3 (.int (gI σ 47 3)) jC_1 dX1_drop_56 kg_RX1_21 rfl (okX_47 _) (shX_47 _) (fvX_47_3 _) ?_
    refine j_iconst (v := 1) dX1_drop_59 (by decide) ?_
    refine j_isub dX1_drop_60 ?_
    replace h := bV_inv h
    obtain ⟨σ33, eσ33, h⟩ := h
    refine j_putI 3 jC_1 dX1_drop_61 kg_RX1_21 (Or.inl ff_1_3) rfl fk_1_3 (fn_1_3 _) (okX_47 _) (shX_47 _) ?_
    refine j_mem (congrArg eX eσ33) ?_
    refine j_aload_n 0 dX1_drop_64 rfl rfl ?_
    refine j_get (ci := 1) 0 (.ref 48) jC_1 dX1_drop_65 kg_RX1_9 rfl (okX_47 _) (shX_47 _) (fvX_47_0 _) ?_
    refine j_iload_n 3 dX1_drop_68 rfl rfl ?_
    refine j_aload_n 0 dX1_drop_69 rfl rfl ?_
    refine j_get (ci := 1) 0 (.ref 48) jC_1 dX1_drop_70 kg_RX1_9 rfl (okX_47 _) (shX_47 _) (fvX_47_0 _) ?_
    refine j_aload_n 0 dX1_drop_73 rfl rfl ?_
    refine j_get (ci := 1) 3 (.int (gI σ33 47 3)) jC_1 dX1_drop_74 kg_RX1_21 rfl (okX_47 _) (shX_47 _) (fvX_47_3 _) ?_
    replace h := bC_inv h
    obtain ⟨r34, cr34, h⟩ := h
    refine j_callS (st1 := .int r34 :: _) (c_X6_at g cr34) jy_X6_at kt_yX6_at kl_RX1_31 dX1_drop_77 rfl rfl rfl rfl (jbr _) (jbr _) hn.1 hn.2 (Or.inr rfl) rfl ?_
    replace h := bD_inv h
    obtain ⟨r35, σ36, cr35, h⟩ := h
    refine j_callS (st1 := _) (c_X6_put g cr35) jy_X6_put kt_yX6_put kl_RX1_35 dX1_drop_80 rfl rfl rfl rfl (jbr _) (jbr _) hn.1 hn.2 (Or.inr rfl) rfl ?_
    refine j_aload_n 0 dX1_drop_83 rfl rfl ?_
    refine j_get (ci := 1) 1 (.ref 49) jC_1 dX1_drop_84 kg_RX1_15 rfl (okX_47 _) (shX_47 _) (fvX_47_1 _) ?_
    refine j_iload_n 3 dX1_drop_87 rfl rfl ?_
    refine j_aload_n 0 dX1_drop_88 rfl rfl ?_
    refine j_get (ci := 1) 1 (.ref 49) jC_1 dX1_drop_89 kg_RX1_15 rfl (okX_47 _) (shX_47 _) (fvX_47_1 _) ?_
    refine j_aload_n 0 dX1_drop_92 rfl rfl ?_
    refine j_get (ci := 1) 3 (.int (gI σ36 47 3)) jC_1 dX1_drop_93 kg_RX1_21 rfl (okX_47 _) (shX_47 _) (fvX_47_3 _) ?_
    replace h := bC_inv h
    obtain ⟨r37, cr37, h⟩ := h
    refine j_callS (st1 := .int r37 :: _) (c_X6_at g cr37) jy_X6_at kt_yX6_at kl_RX1_31 dX1_drop_96 rfl rfl rfl rfl (jbr _) (jbr _) hn.1 hn.2 (Or.inr rfl) rfl ?_
    replace h := bD_inv h
    obtain ⟨r38, σ39, cr38, h⟩ := h
    refine j_callS (st1 := _) (c_X6_put g cr38) jy_X6_put kt_yX6_put kl_RX1_35 dX1_drop_99 rfl rfl rfl rfl (jbr _) (jbr _) hn.1 hn.2 (Or.inr rfl) rfl ?_
    refine j_aload_n 0 dX1_drop_102 rfl rfl ?_
    refine j_get (ci := 1) 2 (.ref 50) jC_1 dX1_drop_103 kg_RX1_18 rfl (okX_47 _) (shX_47 _) (fvX_47_2 _) ?_
    refine j_iload_n 1 dX1_drop_106 rfl rfl ?_
    refine j_iload_n 2 dX1_drop_107 rfl rfl ?_
    replace h := bD_inv h
    obtain ⟨r40, σ41, cr40, h⟩ := h
    refine j_callS (st1 := _) (c_X1_toggle g cr40) jy_X1_toggle kt_yX1_toggle kl_RX1_39 dX1_drop_108 rfl rfl rfl rfl (jbr _) (jbr _) hn.1 hn.2 (Or.inr rfl) rfl ?_
    replace h := Option.some.inj h
    subst h
    obtain ⟨hr1, hr2⟩ := hr _ _ hK
    exact j_vret dX1_drop_111 hr1 hr2
  · skip
    refine j_get (ci := 1) 3 (.int (gI σ 57 3)) jC_1 dX1_drop_56 kg_RX1_21 rfl (okX_57 _) (shX_57 _) (fvX_57_3 _) ?_
    refine j_iconst (v := 1) dX1_drop_59 (by decide) ?_
    refine j_isub dX1_drop_60 ?_
    replace h := bV_inv h
    obtain ⟨σ42, eσ42, h⟩ := h
    refine j_putI 3 jC_1 dX1_drop_61 kg_RX1_21 (Or.inl ff_1_3) rfl fk_1_3 (fn_1_3 _) (okX_57 _) (shX_57 _) ?_
    refine j_mem (congrArg eX eσ42) ?_
    refine j_aload_n 0 dX1_drop_64 rfl rfl ?_
    refine j_get (ci := 1) 0 (.ref 58) jC_1 dX1_drop_65 kg_RX1_9 rfl (okX_57 _) (shX_57 _) (fvX_57_0 _) ?_
    refine j_iload_n 3 dX1_drop_68 rfl rfl ?_
    refine j_aload_n 0 dX1_drop_69 rfl rfl ?_
    refine j_get (ci := 1) 0 (.ref 58) jC_1 dX1_drop_70 kg_RX1_9 rfl (okX_57 _) (shX_57 _) (fvX_57_0 _) ?_
    refine j_aload_n 0 dX1_drop_73 rfl rfl ?_
    refine j_get (ci := 1) 3 (.int (gI σ42 57 3)) jC_1 dX1_drop_74 kg_RX1_21 rfl (okX_57 _) (shX_57 _) (fvX_57_3 _) ?_
    replace h := bC_inv h
    obtain ⟨r43, cr43, h⟩ := h
    refine j_callS (st1 := .int r43 :: _) (c_X6_at g cr43) jy_X6_at kt_yX6_at kl_RX1_31 dX1_drop_77 rfl rfl rfl rfl (jbr _) (jbr _) hn.1 hn.2 (Or.inr rfl) rfl ?_
    replace h := bD_inv h
    obtain ⟨r44, σ45, cr44, h⟩ := h
    refine j_callS (st1 := _) (c_X6_put g cr44) jy_X6_put kt_yX6_put kl_RX1_35 dX1_drop_80 rfl rfl rfl rfl (jbr _) (jbr _) hn.1 hn.2 (Or.inr rfl) rfl ?_
    refine j_aload_n 0 dX1_drop_83 rfl rfl ?_
    refine j_get (ci := 1) 1 (.ref 59) jC_1 dX1_drop_84 kg_RX1_15 rfl (okX_57 _) (shX_57 _) (fvX_57_1 _) ?_
    refine j_iload_n 3 dX1_drop_87 rfl rfl ?_
    refine j_aload_n 0 dX1_drop_88 rfl rfl ?_
    refine j_get (ci := 1) 1 (.ref 59) jC_1 dX1_drop_89 kg_RX1_15 rfl (okX_57 _) (shX_57 _) (fvX_57_1 _) ?_
    refine j_aload_n 0 dX1_drop_92 rfl rfl ?_
    refine j_get (ci := 1) 3 (.int (gI σ45 57 3)) jC_1 dX1_drop_93 kg_RX1_21 rfl (okX_57 _) (shX_57 _) (fvX_57_3 _) ?_
    replace h := bC_inv h
    obtain ⟨r46, cr46, h⟩ := h
    refine j_callS (st1 := .int r46 :: _) (c_X6_at g cr46) jy_X6_at kt_yX6_at kl_RX1_31 dX1_drop_96 rfl rfl rfl rfl (jbr _) (jbr _) hn.1 hn.2 (Or.inr rfl) rfl ?_
    replace h := bD_inv h
    obtain ⟨r47, σ48, cr47, h⟩ := h
    refine j_callS (st1 := _) (c_X6_put g cr47) jy_X6_put kt_yX6_put kl_RX1_35 dX1_drop_99 rfl rfl rfl rfl (jbr _) (jbr _) hn.1 hn.2 (Or.inr rfl) rfl ?_
    refine j_aload_n 0 dX1_drop_102 rfl rfl ?_
    refine j_get (ci := 1) 2 (.ref 60) jC_1 dX1_drop_103 kg_RX1_18 rfl (okX_57 _) (shX_57 _) (fvX_57_2 _) ?_
    refine j_iload_n 1 dX1_drop_106 rfl rfl ?_
    refine j_iload_n 2 dX1_drop_107 rfl rfl ?_
    replace h := bD_inv h
    obtain ⟨r49, σ50, cr49, h⟩ := h
    refine j_callS (st1 := _) (c_X1_toggle g cr49) jy_X1_toggle kt_yX1_toggle kl_RX1_39 dX1_drop_108 rfl rfl rfl rfl (jbr _) (jbr _) hn.1 hn.2 (Or.inr rfl) rfl ?_
    replace h := Option.some.inj h
    subst h
    obtain ⟨hr1, hr2⟩ := hr _ _ hK
    exact j_vret dX1_drop_111 hr1 hr2
  · skip
    refine j_get (ci := 1) 3 (.int (gI σ 67 3)) jC_1 dX1_drop_56 kg_RX1_21 rfl (okX_67 _) (shX_67 _) (fvX_67_3 _) ?_
    refine j_iconst (v := 1) dX1_drop_59 (by decide) ?_
    refine j_isub dX1_drop_60 ?_
    replace h := bV_inv h
    obtain ⟨σ51, eσ51, h⟩ := h
    refine j_putI 3 jC_1 dX1_drop_61 kg_RX1_21 (Or.inl ff_1_3) rfl fk_1_3 (fn_1_3 _) (okX_67 _) (shX_67 _) ?_
    refine j_mem (congrArg eX eσ51) ?_
    refine j_aload_n 0 dX1_drop_64 rfl rfl ?_
    refine j_get (ci := 1) 0 (.ref 68) jC_1 dX1_drop_65 kg_RX1_9 rfl (okX_67 _) (shX_67 _) (fvX_67_0 _) ?_
    refine j_iload_n 3 dX1_drop_68 rfl rfl ?_
    refine j_aload_n 0 dX1_drop_69 rfl rfl ?_
    refine j_get (ci := 1) 0 (.ref 68) jC_1 dX1_drop_70 kg_RX1_9 rfl (okX_67 _) (shX_67 _) (fvX_67_0 _) ?_
    refine j_aload_n 0 dX1_drop_73 rfl rfl ?_
    refine j_get (ci := 1) 3 (.int (gI σ51 67 3)) jC_1 dX1_drop_74 kg_RX1_21 rfl (okX_67 _) (shX_67 _) (fvX_67_3 _) ?_
    replace h := bC_inv h
    obtain ⟨r52, cr52, h⟩ := h
    refine j_callS (st1 := .int r52 :: _) (c_X6_at g cr52) jy_X6_at kt_yX6_at kl_RX1_31 dX1_drop_77 rfl rfl rfl rfl (jbr _) (jbr _) hn.1 hn.2 (Or.inr rfl) rfl ?_
    replace h := bD_inv h
    obtain ⟨r53, σ54, cr53, h⟩ := h
    refine j_callS (st1 := _) (c_X6_put g cr53) jy_X6_put kt_yX6_put kl_RX1_35 dX1_drop_80 rfl rfl rfl rfl (jbr _) (jbr _) hn.1 hn.2 (Or.inr rfl) rfl ?_
    refine j_aload_n 0 dX1_drop_83 rfl rfl ?_
    refine j_get (ci := 1) 1 (.ref 69) jC_1 dX1_drop_84 kg_RX1_15 rfl (okX_67 _) (shX_67 _) (fvX_67_1 _) ?_
    refine j_iload_n 3 dX1_drop_87 rfl rfl ?_
    refine j_aload_n 0 dX1_drop_88 rfl rfl ?_
    refine j_get (ci := 1) 1 (.ref 69) jC_1 dX1_drop_89 kg_RX1_15 rfl (okX_67 _) (shX_67 _) (fvX_67_1 _) ?_
    refine j_aload_n 0 dX1_drop_92 rfl rfl ?_
    refine j_get (ci := 1) 3 (.int (gI σ54 67 3)) jC_1 dX1_drop_93 kg_RX1_21 rfl (okX_67 _) (shX_67 _) (fvX_67_3 _) ?_
    replace h := bC_inv h
    obtain ⟨r55, cr55, h⟩ := h
    refine j_callS (st1 := .int r55 :: _) (c_X6_at g cr55) jy_X6_at kt_yX6_at kl_RX1_31 dX1_drop_96 rfl rfl rfl rfl (jbr _) (jbr _) hn.1 hn.2 (Or.inr rfl) rfl ?_
    replace h := bD_inv h
    obtain ⟨r56, σ57, cr56, h⟩ := h
    refine j_callS (st1 := _) (c_X6_put g cr56) jy_X6_put kt_yX6_put kl_RX1_35 dX1_drop_99 rfl rfl rfl rfl (jbr _) (jbr _) hn.1 hn.2 (Or.inr rfl) rfl ?_
    refine j_aload_n 0 dX1_drop_102 rfl rfl ?_
    refine j_get (ci := 1) 2 (.ref 70) jC_1 dX1_drop_103 kg_RX1_18 rfl (okX_67 _) (shX_67 _) (fvX_67_2 _) ?_
    refine j_iload_n 1 dX1_drop_106 rfl rfl ?_
    refine j_iload_n 2 dX1_drop_107 rfl rfl ?_
    replace h := bD_inv h
    obtain ⟨r58, σ59, cr58, h⟩ := h
    refine j_callS (st1 := _) (c_X1_toggle g cr58) jy_X1_toggle kt_yX1_toggle kl_RX1_39 dX1_drop_108 rfl rfl rfl rfl (jbr _) (jbr _) hn.1 hn.2 (Or.inr rfl) rfl ?_
    replace h := Option.some.inj h
    subst h
    obtain ⟨hr1, hr2⟩ := hr _ _ hK
    exact j_vret dX1_drop_111 hr1 hr2
def f_X1_drop_J42 (σ : jS) (x0 : Nat) (x1 : Int32) (x2 : Int32) (x3 : Int32) (x4 : Int32) (x5 : Int32) : Option ((Int32 × jS) ⊕ (Unit × jS)) :=
  if x4 = x2 then (if x5 = x1 then (jw (f_X1_drop_J54 σ x0 x1 x2 x3))
  else (f_X1_drop_J112 σ x0 x1 x2 x3))
  else (f_X1_drop_J112 σ x0 x1 x2 x3)
set_option maxHeartbeats 1000000 in
set_option maxRecDepth 20000 in
theorem f_X1_drop_J42_ok {g : Bool} {rv : Option Value} {μ' : jM} (σ : jS) (x0 : Nat) (x1 : Int32) (x2 : Int32) (x3 : Int32) (x4 : Int32) (x5 : Int32) {Kp : ((Int32 × jS) ⊕ (Unit × jS)) → Prop} (hn : Nat.ble nX μ'.1 = true ∧ Nat.ble wX μ'.2.1 = true) (hr : ∀ (r : Unit) (s : jS), Kp (.inr ((r, s))) → rv = none ∧ μ' = eX s) (hc0 : ∀ s : (Int32 × jS), Kp (.inl s) → J yX1_drop cX1_drop 6 none 3 g rv μ' 2 [(0, .ref x0), (1, .int x1), (2, .int x2), (3, .int s.1)] [] (eX s.2)) (o : ((Int32 × jS) ⊕ (Unit × jS))) (h : f_X1_drop_J42 σ x0 x1 x2 x3 x4 x5 = some o) (hK : Kp o) : J yX1_drop cX1_drop 6 none 3 g rv μ' 42 [(0, .ref x0), (1, .int x1), (2, .int x2), (3, .int x3), (4, .int x4), (5, .int x5)] [] (eX σ) := by
  unfold f_X1_drop_J42 at h
  refine j_iload 4 dX1_drop_42 rfl ?_
  refine j_iload_n 2 dX1_drop_44 rfl rfl ?_
  refine j_icmp_ne 112 dX1_drop_45 (by decide) (fun hc60 => ?_) (fun hc60 => ?_)
  · replace h := jif_f hc60 h
    refine j_sub [(0, .ref x0), (1, .int x1), (2, .int x2), (3, .int x3)] [0, 1, 2, 3] rfl ?_
    exact f_X1_drop_J112_ok σ x0 x1 x2 x3 hn hr hc0 _ h hK
  · replace h := jif_t hc60 h
    refine j_iload 5 dX1_drop_48 rfl ?_
    refine j_iload_n 1 dX1_drop_50 rfl rfl ?_
    refine j_icmp_ne 112 dX1_drop_51 (by decide) (fun hc61 => ?_) (fun hc61 => ?_)
    · replace h := jif_f hc61 h
      refine j_sub [(0, .ref x0), (1, .int x1), (2, .int x2), (3, .int x3)] [0, 1, 2, 3] rfl ?_
      exact f_X1_drop_J112_ok σ x0 x1 x2 x3 hn hr hc0 _ h hK
    · replace h := jif_t hc61 h
      replace h := jw_inv h
      obtain ⟨o62, rfl, h⟩ := h
      refine j_sub [(0, .ref x0), (1, .int x1), (2, .int x2), (3, .int x3)] [0, 1, 2, 3] rfl ?_
      exact f_X1_drop_J54_ok (Kp := fun o => Kp (.inr (o))) σ x0 x1 x2 x3 hn (fun r s q => hr r s q) _ h hK
def f_X1_drop_B2 (σ : jS) (x0 : Nat) (x1 : Int32) (x2 : Int32) (x3 : Int32) : Option ((Int32 × jS) ⊕ (Unit × jS)) :=
  bH [32, 40, 47, 57, 67] x0 (
  if (gI σ x0 3) ≤ x3 then (jw (f_X1_drop_J118 σ))
  else (bC (f_X6_at σ (rPX x0 0) x3) fun r1 =>
  bC (f_X6_at σ (rPX x0 1) x3) fun r2 =>
  if r1 = x1 then (if r2 = x2 then (jw (f_X1_drop_J54 σ x0 x1 x2 x3))
  else (f_X1_drop_J42 σ x0 x1 x2 x3 r1 r2))
  else (f_X1_drop_J42 σ x0 x1 x2 x3 r1 r2)))
set_option maxHeartbeats 1000000 in
set_option maxRecDepth 20000 in
theorem f_X1_drop_B2_ok {g : Bool} {rv : Option Value} {μ' : jM} (σ : jS) (x0 : Nat) (x1 : Int32) (x2 : Int32) (x3 : Int32) {Kp : ((Int32 × jS) ⊕ (Unit × jS)) → Prop} (hn : Nat.ble nX μ'.1 = true ∧ Nat.ble wX μ'.2.1 = true) (hr : ∀ (r : Unit) (s : jS), Kp (.inr ((r, s))) → rv = none ∧ μ' = eX s) (hc0 : ∀ s : (Int32 × jS), Kp (.inl s) → J yX1_drop cX1_drop 6 none 3 g rv μ' 2 [(0, .ref x0), (1, .int x1), (2, .int x2), (3, .int s.1)] [] (eX s.2)) (o : ((Int32 × jS) ⊕ (Unit × jS))) (h : f_X1_drop_B2 σ x0 x1 x2 x3 = some o) (hK : Kp o) : J yX1_drop cX1_drop 6 none 3 g rv μ' 2 [(0, .ref x0), (1, .int x1), (2, .int x2), (3, .int x3)] [] (eX σ) := by
  unfold f_X1_drop_B2 at h
  refine j_iload_n 3 dX1_drop_2 rfl rfl ?_
  refine j_aload_n 0 dX1_drop_3 rfl rfl ?_
  replace h := bH_inv h
  obtain ⟨hm63, h⟩ := h
  simp only [List.mem_cons, List.not_mem_nil, or_false] at hm63
  rcases hm63 with rfl | rfl | rfl | rfl | rfl
  · skip
    refine j_get (ci := 1) 3 (.int (gI σ 32 3)) jC_1 dX1_drop_4 kg_RX1_21 rfl (okX_32 _) (shX_32 _) (fvX_32_3 _) ?_
    refine j_icmp_ge 118 dX1_drop_7 (by decide) (fun hc64 => ?_) (fun hc64 => ?_)
    · replace h := jif_t hc64 h
      replace h := jw_inv h
      obtain ⟨o65, rfl, h⟩ := h
      refine j_sub [] [] rfl ?_
      exact f_X1_drop_J118_ok (Kp := fun o => Kp (.inr (o))) σ hn (fun r s q => hr r s q) _ h hK
    · replace h := jif_f hc64 h
      refine j_aload_n 0 dX1_drop_10 rfl rfl ?_
      refine j_get (ci := 1) 0 (.ref 33) jC_1 dX1_drop_11 kg_RX1_9 rfl (okX_32 _) (shX_32 _) (fvX_32_0 _) ?_
      refine j_iload_n 3 dX1_drop_14 rfl rfl ?_
      replace h := bC_inv h
      obtain ⟨r66, cr66, h⟩ := h
      refine j_callS (st1 := .int r66 :: _) (c_X6_at g cr66) jy_X6_at kt_yX6_at kl_RX1_31 dX1_drop_15 rfl rfl rfl rfl (jbr _) (jbr _) hn.1 hn.2 (Or.inr rfl) rfl ?_
      refine j_istore [(4, .int r66), (0, .ref 32), (1, .int x1), (2, .int x2), (3, .int x3)] dX1_drop_18 (Nat.le_of_ble_eq_true rfl) rfl ?_
      refine j_aload_n 1 dX1_drop_20 rfl rfl ?_
      refine j_get (ci := 1) 1 (.ref 34) jC_1 dX1_drop_21 kg_RX1_15 rfl (okX_32 _) (shX_32 _) (fvX_32_1 _) ?_
      refine j_iload_n 4 dX1_drop_24 rfl rfl ?_
      replace h := bC_inv h
      obtain ⟨r67, cr67, h⟩ := h
      refine j_callS (st1 := .int r67 :: _) (c_X6_at g cr67) jy_X6_at kt_yX6_at kl_RX1_31 dX1_drop_25 rfl rfl rfl rfl (jbr _) (jbr _) hn.1 hn.2 (Or.inr rfl) rfl ?_
      refine j_istore [(5, .int r67), (4, .int r66), (0, .ref 32), (1, .int x1), (2, .int x2), (3, .int x3)] dX1_drop_28 (Nat.le_of_ble_eq_true rfl) rfl ?_
      refine j_iload 1 dX1_drop_30 rfl ?_
      refine j_iload_n 3 dX1_drop_32 rfl rfl ?_
      refine j_icmp_ne 42 dX1_drop_33 (by decide) (fun hc68 => ?_) (fun hc68 => ?_)
      · replace h := jif_f hc68 h
        refine j_sub [(0, .ref 32), (1, .int x1), (2, .int x2), (3, .int x3), (4, .int r66), (5, .int r67)] [2, 3, 4, 5, 1, 0] rfl ?_
        exact f_X1_drop_J42_ok σ 32 x1 x2 x3 r66 r67 hn hr hc0 _ h hK
      · replace h := jif_t hc68 h
        refine j_iload 0 dX1_drop_36 rfl ?_
        refine j_iload_n 4 dX1_drop_38 rfl rfl ?_
        refine j_icmp_eq 54 dX1_drop_39 (by decide) (fun hc69 => ?_) (fun hc69 => ?_)
        · replace h := jif_t hc69 h
          replace h := jw_inv h
          obtain ⟨o70, rfl, h⟩ := h
          refine j_sub [(0, .ref 32), (1, .int x1), (2, .int x2), (3, .int x3)] [2, 3, 4, 5] rfl ?_
          exact f_X1_drop_J54_ok (Kp := fun o => Kp (.inr (o))) σ 32 x1 x2 x3 hn (fun r s q => hr r s q) _ h hK
        · replace h := jif_f hc69 h
          refine j_sub [(0, .ref 32), (1, .int x1), (2, .int x2), (3, .int x3), (4, .int r66), (5, .int r67)] [2, 3, 4, 5, 1, 0] rfl ?_
          exact f_X1_drop_J42_ok σ 32 x1 x2 x3 r66 r67 hn hr hc0 _ h hK
  · skip
    refine j_get (ci := 1) 3 (.int (gI σ 40 3)) jC_1 dX1_drop_4 kg_RX1_21 rfl (okX_40 _) (shX_40 _) (fvX_40_3 _) ?_
    refine j_icmp_ge 118 dX1_drop_7 (by decide) (fun hc71 => ?_) (fun hc71 => ?_)
    · replace h := jif_t hc71 h
      replace h := jw_inv h
      obtain ⟨o72, rfl, h⟩ := h
      refine j_sub [] [] rfl ?_
      exact f_X1_drop_J118_ok (Kp := fun o => Kp (.inr (o))) σ hn (fun r s q => hr r s q) _ h hK
    · replace h := jif_f hc71 h
      refine j_aload_n 0 dX1_drop_10 rfl rfl ?_
      refine j_get (ci := 1) 0 (.ref 41) jC_1 dX1_drop_11 kg_RX1_9 rfl (okX_40 _) (shX_40 _) (fvX_40_0 _) ?_
      refine j_iload_n 3 dX1_drop_14 rfl rfl ?_
      replace h := bC_inv h
      obtain ⟨r73, cr73, h⟩ := h
      refine j_callS (st1 := .int r73 :: _) (c_X6_at g cr73) jy_X6_at kt_yX6_at kl_RX1_31 dX1_drop_15 rfl rfl rfl rfl (jbr _) (jbr _) hn.1 hn.2 (Or.inr rfl) rfl ?_
      refine j_istore [(4, .int r73), (0, .ref 40), (1, .int x1), (2, .int x2), (3, .int x3)] dX1_drop_18 (Nat.le_of_ble_eq_true rfl) rfl ?_
      refine j_aload_n 1 dX1_drop_20 rfl rfl ?_
      refine j_get (ci := 1) 1 (.ref 42) jC_1 dX1_drop_21 kg_RX1_15 rfl (okX_40 _) (shX_40 _) (fvX_40_1 _) ?_
      refine j_iload_n 4 dX1_drop_24 rfl rfl ?_
      replace h := bC_inv h
      obtain ⟨r74, cr74, h⟩ := h
      refine j_callS (st1 := .int r74 :: _) (c_X6_at g cr74) jy_X6_at kt_yX6_at kl_RX1_31 dX1_drop_25 rfl rfl rfl rfl (jbr _) (jbr _) hn.1 hn.2 (Or.inr rfl) rfl ?_
      refine j_istore [(5, .int r74), (4, .int r73), (0, .ref 40), (1, .int x1), (2, .int x2), (3, .int x3)] dX1_drop_28 (Nat.le_of_ble_eq_true rfl) rfl ?_
      refine j_iload 1 dX1_drop_30 rfl ?_
      refine j_iload_n 3 dX1_drop_32 rfl rfl ?_
      refine j_icmp_ne 42 dX1_drop_33 (by decide) (fun hc75 => ?_) (fun hc75 => ?_)
      · replace h := jif_f hc75 h
        refine j_sub [(0, .ref 40), (1, .int x1), (2, .int x2), (3, .int x3), (4, .int r73), (5, .int r74)] [2, 3, 4, 5, 1, 0] rfl ?_
        exact f_X1_drop_J42_ok σ 40 x1 x2 x3 r73 r74 hn hr hc0 _ h hK
      · replace h := jif_t hc75 h
        refine j_iload 0 dX1_drop_36 rfl ?_
        refine j_iload_n 4 dX1_drop_38 rfl rfl ?_
        refine j_icmp_eq 54 dX1_drop_39 (by decide) (fun hc76 => ?_) (fun hc76 => ?_)
        · replace h := jif_t hc76 h
          replace h := jw_inv h
          obtain ⟨o77, rfl, h⟩ := h
          refine j_sub [(0, .ref 40), (1, .int x1), (2, .int x2), (3, .int x3)] [2, 3, 4, 5] rfl ?_
          exact f_X1_drop_J54_ok (Kp := fun o => Kp (.inr (o))) σ 40 x1 x2 x3 hn (fun r s q => hr r s q) _ h hK
        · replace h := jif_f hc76 h
          refine j_sub [(0, .ref 40), (1, .int x1), (2, .int x2), (3, .int x3), (4, .int r73), (5, .int r74)] [2, 3, 4, 5, 1, 0] rfl ?_
          exact f_X1_drop_J42_ok σ 40 x1 x2 x3 r73 r74 hn hr hc0 _ h hK
  · skip
    refine j_get (ci := 1) 3 (.int (gI σ 47 3)) jC_1 dX1_drop_4 kg_RX1_21 rfl (okX_47 _) (shX_47 _) (fvX_47_3 _) ?_
    refine j_icmp_ge 118 dX1_drop_7 (by decide) (fun hc78 => ?_) (fun hc78 => ?_)
    · replace h := jif_t hc78 h
      replace h := jw_inv h
      obtain ⟨o79, rfl, h⟩ := h
      refine j_sub [] [] rfl ?_
      exact f_X1_drop_J118_ok (Kp := fun o => Kp (.inr (o))) σ hn (fun r s q => hr r s q) _ h hK
    · replace h := jif_f hc78 h
      refine j_aload_n 0 dX1_drop_10 rfl rfl ?_
      refine j_get (ci := 1) 0 (.ref 48) jC_1 dX1_drop_11 kg_RX1_9 rfl (okX_47 _) (shX_47 _) (fvX_47_0 _) ?_
      refine j_iload_n 3 dX1_drop_14 rfl rfl ?_
      replace h := bC_inv h
      obtain ⟨r80, cr80, h⟩ := h
      refine j_callS (st1 := .int r80 :: _) (c_X6_at g cr80) jy_X6_at kt_yX6_at kl_RX1_31 dX1_drop_15 rfl rfl rfl rfl (jbr _) (jbr _) hn.1 hn.2 (Or.inr rfl) rfl ?_
      refine j_istore [(4, .int r80), (0, .ref 47), (1, .int x1), (2, .int x2), (3, .int x3)] dX1_drop_18 (Nat.le_of_ble_eq_true rfl) rfl ?_
      refine j_aload_n 1 dX1_drop_20 rfl rfl ?_
      refine j_get (ci := 1) 1 (.ref 49) jC_1 dX1_drop_21 kg_RX1_15 rfl (okX_47 _) (shX_47 _) (fvX_47_1 _) ?_
      refine j_iload_n 4 dX1_drop_24 rfl rfl ?_
      replace h := bC_inv h
      obtain ⟨r81, cr81, h⟩ := h
      refine j_callS (st1 := .int r81 :: _) (c_X6_at g cr81) jy_X6_at kt_yX6_at kl_RX1_31 dX1_drop_25 rfl rfl rfl rfl (jbr _) (jbr _) hn.1 hn.2 (Or.inr rfl) rfl ?_
      refine j_istore [(5, .int r81), (4, .int r80), (0, .ref 47), (1, .int x1), (2, .int x2), (3, .int x3)] dX1_drop_28 (Nat.le_of_ble_eq_true rfl) rfl ?_
      refine j_iload 1 dX1_drop_30 rfl ?_
      refine j_iload_n 3 dX1_drop_32 rfl rfl ?_
      refine j_icmp_ne 42 dX1_drop_33 (by decide) (fun hc82 => ?_) (fun hc82 => ?_)
      · replace h := jif_f hc82 h
        refine j_sub [(0, .ref 47), (1, .int x1), (2, .int x2), (3, .int x3), (4, .int r80), (5, .int r81)] [2, 3, 4, 5, 1, 0] rfl ?_
        exact f_X1_drop_J42_ok σ 47 x1 x2 x3 r80 r81 hn hr hc0 _ h hK
      · replace h := jif_t hc82 h
        refine j_iload 0 dX1_drop_36 rfl ?_
        refine j_iload_n 4 dX1_drop_38 rfl rfl ?_
        refine j_icmp_eq 54 dX1_drop_39 (by decide) (fun hc83 => ?_) (fun hc83 => ?_)
        · replace h := jif_t hc83 h
          replace h := jw_inv h
          obtain ⟨o84, rfl, h⟩ := h
          refine j_sub [(0, .ref 47), (1, .int x1), (2, .int x2), (3, .int x3)] [2, 3, 4, 5] rfl ?_
          exact f_X1_drop_J54_ok (Kp := fun o => Kp (.inr (o))) σ 47 x1 x2 x3 hn (fun r s q => hr r s q) _ h hK
        · replace h := jif_f hc83 h
          refine j_sub [(0, .ref 47), (1, .int x1), (2, .int x2), (3, .int x3), (4, .int r80), (5, .int r81)] [2, 3, 4, 5, 1, 0] rfl ?_
          exact f_X1_drop_J42_ok σ 47 x1 x2 x3 r80 r81 hn hr hc0 _ h hK
  · skip
    refine j_get (ci := 1) 3 (.int (gI σ 57 3)) jC_1 dX1_drop_4 kg_RX1_21 rfl (okX_57 _) (shX_57 _) (fvX_57_3 _) ?_
    refine j_icmp_ge 118 dX1_drop_7 (by decide) (fun hc85 => ?_) (fun hc85 => ?_)
    · replace h := jif_t hc85 h
      replace h := jw_inv h
      obtain ⟨o86, rfl, h⟩ := h
      refine j_sub [] [] rfl ?_
      exact f_X1_drop_J118_ok (Kp := fun o => Kp (.inr (o))) σ hn (fun r s q => hr r s q) _ h hK
    · replace h := jif_f hc85 h
      refine j_aload_n 0 dX1_drop_10 rfl rfl ?_
      refine j_get (ci := 1) 0 (.ref 58) jC_1 dX1_drop_11 kg_RX1_9 rfl (okX_57 _) (shX_57 _) (fvX_57_0 _) ?_
      refine j_iload_n 3 dX1_drop_14 rfl rfl ?_
      replace h := bC_inv h
      obtain ⟨r87, cr87, h⟩ := h
      refine j_callS (st1 := .int r87 :: _) (c_X6_at g cr87) jy_X6_at kt_yX6_at kl_RX1_31 dX1_drop_15 rfl rfl rfl rfl (jbr _) (jbr _) hn.1 hn.2 (Or.inr rfl) rfl ?_
      refine j_istore [(4, .int r87), (0, .ref 57), (1, .int x1), (2, .int x2), (3, .int x3)] dX1_drop_18 (Nat.le_of_ble_eq_true rfl) rfl ?_
      refine j_aload_n 1 dX1_drop_20 rfl rfl ?_
      refine j_get (ci := 1) 1 (.ref 59) jC_1 dX1_drop_21 kg_RX1_15 rfl (okX_57 _) (shX_57 _) (fvX_57_1 _) ?_
      refine j_iload_n 4 dX1_drop_24 rfl rfl ?_
      replace h := bC_inv h
      obtain ⟨r88, cr88, h⟩ := h
      refine j_callS (st1 := .int r88 :: _) (c_X6_at g cr88) jy_X6_at kt_yX6_at kl_RX1_31 dX1_drop_25 rfl rfl rfl rfl (jbr _) (jbr _) hn.1 hn.2 (Or.inr rfl) rfl ?_
      refine j_istore [(5, .int r88), (4, .int r87), (0, .ref 57), (1, .int x1), (2, .int x2), (3, .int x3)] dX1_drop_28 (Nat.le_of_ble_eq_true rfl) rfl ?_
      refine j_iload 1 dX1_drop_30 rfl ?_
      refine j_iload_n 3 dX1_drop_32 rfl rfl ?_
      refine j_icmp_ne 42 dX1_drop_33 (by decide) (fun hc89 => ?_) (fun hc89 => ?_)
      · replace h := jif_f hc89 h
        refine j_sub [(0, .ref 57), (1, .int x1), (2, .int x2), (3, .int x3), (4, .int r87), (5, .int r88)] [2, 3, 4, 5, 1, 0] rfl ?_
        exact f_X1_drop_J42_ok σ 57 x1 x2 x3 r87 r88 hn hr hc0 _ h hK
      · replace h := jif_t hc89 h
        refine j_iload 0 dX1_drop_36 rfl ?_
        refine j_iload_n 4 dX1_drop_38 rfl rfl ?_
        refine j_icmp_eq 54 dX1_drop_39 (by decide) (fun hc90 => ?_) (fun hc90 => ?_)
        · replace h := jif_t hc90 h
          replace h := jw_inv h
          obtain ⟨o91, rfl, h⟩ := h
          refine j_sub [(0, .ref 57), (1, .int x1), (2, .int x2), (3, .int x3)] [2, 3, 4, 5] rfl ?_
          exact f_X1_drop_J54_ok (Kp := fun o => Kp (.inr (o))) σ 57 x1 x2 x3 hn (fun r s q => hr r s q) _ h hK
        · replace h := jif_f hc90 h
          refine j_sub [(0, .ref 57), (1, .int x1), (2, .int x2), (3, .int x3), (4, .int r87), (5, .int r88)] [2, 3, 4, 5, 1, 0] rfl ?_
          exact f_X1_drop_J42_ok σ 57 x1 x2 x3 r87 r88 hn hr hc0 _ h hK
  · skip
    refine j_get (ci := 1) 3 (.int (gI σ 67 3)) jC_1 dX1_drop_4 kg_RX1_21 rfl (okX_67 _) (shX_67 _) (fvX_67_3 _) ?_
    refine j_icmp_ge 118 dX1_drop_7 (by decide) (fun hc92 => ?_) (fun hc92 => ?_)
    · replace h := jif_t hc92 h
      replace h := jw_inv h
      obtain ⟨o93, rfl, h⟩ := h
      refine j_sub [] [] rfl ?_
      exact f_X1_drop_J118_ok (Kp := fun o => Kp (.inr (o))) σ hn (fun r s q => hr r s q) _ h hK
    · replace h := jif_f hc92 h
      refine j_aload_n 0 dX1_drop_10 rfl rfl ?_
      refine j_get (ci := 1) 0 (.ref 68) jC_1 dX1_drop_11 kg_RX1_9 rfl (okX_67 _) (shX_67 _) (fvX_67_0 _) ?_
      refine j_iload_n 3 dX1_drop_14 rfl rfl ?_
      replace h := bC_inv h
      obtain ⟨r94, cr94, h⟩ := h
      refine j_callS (st1 := .int r94 :: _) (c_X6_at g cr94) jy_X6_at kt_yX6_at kl_RX1_31 dX1_drop_15 rfl rfl rfl rfl (jbr _) (jbr _) hn.1 hn.2 (Or.inr rfl) rfl ?_
      refine j_istore [(4, .int r94), (0, .ref 67), (1, .int x1), (2, .int x2), (3, .int x3)] dX1_drop_18 (Nat.le_of_ble_eq_true rfl) rfl ?_
      refine j_aload_n 1 dX1_drop_20 rfl rfl ?_
      refine j_get (ci := 1) 1 (.ref 69) jC_1 dX1_drop_21 kg_RX1_15 rfl (okX_67 _) (shX_67 _) (fvX_67_1 _) ?_
      refine j_iload_n 4 dX1_drop_24 rfl rfl ?_
      replace h := bC_inv h
      obtain ⟨r95, cr95, h⟩ := h
      refine j_callS (st1 := .int r95 :: _) (c_X6_at g cr95) jy_X6_at kt_yX6_at kl_RX1_31 dX1_drop_25 rfl rfl rfl rfl (jbr _) (jbr _) hn.1 hn.2 (Or.inr rfl) rfl ?_
      refine j_istore [(5, .int r95), (4, .int r94), (0, .ref 67), (1, .int x1), (2, .int x2), (3, .int x3)] dX1_drop_28 (Nat.le_of_ble_eq_true rfl) rfl ?_
      refine j_iload 1 dX1_drop_30 rfl ?_
      refine j_iload_n 3 dX1_drop_32 rfl rfl ?_
      refine j_icmp_ne 42 dX1_drop_33 (by decide) (fun hc96 => ?_) (fun hc96 => ?_)
      · replace h := jif_f hc96 h
        refine j_sub [(0, .ref 67), (1, .int x1), (2, .int x2), (3, .int x3), (4, .int r94), (5, .int r95)] [2, 3, 4, 5, 1, 0] rfl ?_
        exact f_X1_drop_J42_ok σ 67 x1 x2 x3 r94 r95 hn hr hc0 _ h hK
      · replace h := jif_t hc96 h
        refine j_iload 0 dX1_drop_36 rfl ?_
        refine j_iload_n 4 dX1_drop_38 rfl rfl ?_
        refine j_icmp_eq 54 dX1_drop_39 (by decide) (fun hc97 => ?_) (fun hc97 => ?_)
        · replace h := jif_t hc97 h
          replace h := jw_inv h
          obtain ⟨o98, rfl, h⟩ := h
          refine j_sub [(0, .ref 67), (1, .int x1), (2, .int x2), (3, .int x3)] [2, 3, 4, 5] rfl ?_
          exact f_X1_drop_J54_ok (Kp := fun o => Kp (.inr (o))) σ 67 x1 x2 x3 hn (fun r s q => hr r s q) _ h hK
        · replace h := jif_f hc97 h
          refine j_sub [(0, .ref 67), (1, .int x1), (2, .int x2), (3, .int x3), (4, .int r94), (5, .int r95)] [2, 3, 4, 5, 1, 0] rfl ?_
          exact f_X1_drop_J42_ok σ 67 x1 x2 x3 r94 r95 hn hr hc0 _ h hK
def f_X1_drop (σ : jS) (x0 : Nat) (x1 : Int32) (x2 : Int32) : Option (Unit × jS) :=
  jloop jFuel (fun s => f_X1_drop_B2 s.2 x0 x1 x2 s.1) (0, σ)
set_option maxHeartbeats 1000000 in
set_option maxRecDepth 20000 in
theorem f_X1_drop_ok {g : Bool} {rv : Option Value} {μ' : jM} (σ : jS) (x0 : Nat) (x1 : Int32) (x2 : Int32) {Kp : (Unit × jS) → Prop} (hn : Nat.ble nX μ'.1 = true ∧ Nat.ble wX μ'.2.1 = true) (hr : ∀ (r : Unit) (s : jS), Kp ((r, s)) → rv = none ∧ μ' = eX s) (o : (Unit × jS)) (h : f_X1_drop σ x0 x1 x2 = some o) (hK : Kp o) : J yX1_drop cX1_drop 6 none 3 g rv μ' 0 [(0, .ref x0), (1, .int x1), (2, .int x2)] [] (eX σ) := by
  unfold f_X1_drop at h
  refine j_iconst (v := 0) dX1_drop_0 (by decide) ?_
  refine j_istore_n [(3, .int 0), (0, .ref x0), (1, .int x1), (2, .int x2)] dX1_drop_1 rfl (Nat.le_of_ble_eq_true rfl) rfl ?_
  refine j_sub [(0, .ref x0), (1, .int x1), (2, .int x2), (3, .int 0)] [1, 2, 3, 0] rfl ?_
  exact jloop_ok (fun s => f_X1_drop_B2 s.2 x0 x1 x2 s.1) (fun s => J yX1_drop cX1_drop 6 none 3 g rv μ' 2 [(0, .ref x0), (1, .int x1), (2, .int x2), (3, .int s.1)] [] (eX s.2)) Kp (fun s o hb hk => f_X1_drop_B2_ok (Kp := jsum (fun s => J yX1_drop cX1_drop 6 none 3 g rv μ' 2 [(0, .ref x0), (1, .int x1), (2, .int x2), (3, .int s.1)] [] (eX s.2)) Kp) s.2 x0 x1 x2 s.1 hn (fun r s q => hr r s q) (fun s q => q) o hb hk) jFuel _ _ h hK
theorem c_X1_drop (g : Bool) {σ : jS} {x0 : Nat} {x1 : Int32} {x2 : Int32} {r : Unit} {σ2 : jS} (h : f_X1_drop σ x0 x1 x2 = some (r, σ2)) : Cn yX1_drop cX1_drop 6 none 3 g [.ref x0, .int x1, .int x2] (eX σ) none (eX σ2) :=
  Cn_of (by decide) (Nat.le_refl _) (Nat.le_refl _) (Nat.le_of_ble_eq_true rfl) (f_X1_drop_ok (Kp := (fun o => o = (r, σ2))) σ x0 x1 x2 ⟨jbr _, jbr _⟩ (fun r2 s2 q => by cases q; exact ⟨rfl, rfl⟩) _ h rfl)
def f_X10_bear_J21 (σ : jS) : Option (Int32 × jS) :=
  some (((-1001), σ))
set_option maxHeartbeats 1000000 in
set_option maxRecDepth 20000 in
theorem f_X10_bear_J21_ok {g : Bool} {rv : Option Value} {μ' : jM} (σ : jS) {Kp : (Int32 × jS) → Prop} (hn : Nat.ble nX μ'.1 = true ∧ Nat.ble wX μ'.2.1 = true) (hr : ∀ (r : Int32) (s : jS), Kp ((r, s)) → rv = some (.int r) ∧ μ' = eX s) (o : (Int32 × jS)) (h : f_X10_bear_J21 σ = some o) (hK : Kp o) : J yX10_bear cX10_bear 4 (some .int) 6 g rv μ' 21 [] [] (eX σ) := by
  unfold f_X10_bear_J21 at h
  refine j_sipush (v := (-1001)) dX10_bear_21 (by decide) ?_
  replace h := Option.some.inj h
  subst h
  obtain ⟨hr1, hr2⟩ := hr _ _ hK
  exact j_iret dX10_bear_24 hr1 hr2
def f_X10_bear_J76 (σ : jS) : Option (Int32 × jS) :=
  bD (f_X10_settle σ) fun r6 σ7 =>
  some ((gI σ7 32 3, σ7))
set_option maxHeartbeats 1000000 in
set_option maxRecDepth 20000 in
theorem f_X10_bear_J76_ok {g : Bool} {rv : Option Value} {μ' : jM} (σ : jS) {Kp : (Int32 × jS) → Prop} (hn : Nat.ble nX μ'.1 = true ∧ Nat.ble wX μ'.2.1 = true) (hr : ∀ (r : Int32) (s : jS), Kp ((r, s)) → rv = some (.int r) ∧ μ' = eX s) (o : (Int32 × jS)) (h : f_X10_bear_J76 σ = some o) (hK : Kp o) : J yX10_bear cX10_bear 4 (some .int) 6 g rv μ' 76 [(0, .ref 1)] [] (eX σ) := by
  unfold f_X10_bear_J76 at h
  refine j_aload_n 0 dX10_bear_76 rfl rfl ?_
  replace h := bD_inv h
  obtain ⟨r8, σ9, cr8, h⟩ := h
  refine j_callV (ci := 9) (st1 := _) (c_X10_settle g cr8) jy_X10_settle ki_yX10_settle ks_yX10_settle kl_RX10_122 dX10_bear_77 rfl (okX_1 _) (shX_1 _) rfl rfl rfl rfl (jbr _) (jbr _) hn.1 hn.2 (Or.inr rfl) rfl ?_
  refine j_aload_n 0 dX10_bear_80 rfl rfl ?_
  refine j_get (ci := 9) 5 (.ref 29) jC_9 dX10_bear_81 kg_RX10_47 rfl (okX_1 _) (shX_1 _) (fvX_1_5 _) ?_
  refine j_get (ci := 6) 2 (.ref 32) jC_6 dX10_bear_84 kg_RX10_83 rfl (okX_29 _) (shX_29 _) (fvX_29_2 _) ?_
  refine j_get (ci := 1) 3 (.int (gI σ9 32 3)) jC_1 dX10_bear_87 kg_RX10_131 rfl (okX_32 _) (shX_32 _) (fvX_32_3 _) ?_
  replace h := Option.some.inj h
  subst h
  obtain ⟨hr1, hr2⟩ := hr _ _ hK
  exact j_iret dX10_bear_90 hr1 hr2
def f_X10_bear (σ : jS) (x1 : Int32) (x2 : Int32) (x3 : Int32) : Option (Int32 × jS) :=
  bC (f_X10_isPerson σ x1) fun r1 =>
  if r1 = 0 then (f_X10_bear_J21 σ)
  else (bC (f_X10_isPerson σ x2) fun r2 =>
  if r2 = 0 then (f_X10_bear_J21 σ)
  else (if x1 = x2 then (f_X10_bear_J21 σ)
  else (bC (f_X1_has σ 32 x1 x2) fun r3 =>
  if r3 = x3 then (some (((-1003), σ)))
  else (if x3 = 0 then (bD (f_X1_drop σ 32 x1 x2) fun r4 σ5 =>
  f_X10_bear_J76 σ5)
  else (bD (f_X1_add σ 32 x1 x2) fun r10 σ11 =>
  f_X10_bear_J76 σ11)))))
set_option maxHeartbeats 1000000 in
set_option maxRecDepth 20000 in
theorem f_X10_bear_ok {g : Bool} {rv : Option Value} {μ' : jM} (σ : jS) (x1 : Int32) (x2 : Int32) (x3 : Int32) {Kp : (Int32 × jS) → Prop} (hn : Nat.ble nX μ'.1 = true ∧ Nat.ble wX μ'.2.1 = true) (hr : ∀ (r : Int32) (s : jS), Kp ((r, s)) → rv = some (.int r) ∧ μ' = eX s) (o : (Int32 × jS)) (h : f_X10_bear σ x1 x2 x3 = some o) (hK : Kp o) : J yX10_bear cX10_bear 4 (some .int) 6 g rv μ' 0 [(0, .ref 1), (1, .int x1), (2, .int x2), (3, .int x3)] [] (eX σ) := by
  unfold f_X10_bear at h
  refine j_aload_n 0 dX10_bear_0 rfl rfl ?_
  refine j_iload_n 1 dX10_bear_1 rfl rfl ?_
  replace h := bC_inv h
  obtain ⟨r12, cr12, h⟩ := h
  refine j_callV (ci := 9) (st1 := .int r12 :: _) (c_X10_isPerson g cr12) jy_X10_isPerson ki_yX10_isPerson ks_yX10_isPerson kl_RX10_143 dX10_bear_2 rfl (okX_1 _) (shX_1 _) rfl rfl rfl rfl (jbr _) (jbr _) hn.1 hn.2 (Or.inr rfl) rfl ?_
  refine j_if_eq 21 dX10_bear_5 (by decide) (fun hc13 => ?_) (fun hc13 => ?_)
  · replace h := jif_t hc13 h
    refine j_sub [] [] rfl ?_
    exact f_X10_bear_J21_ok σ hn hr _ h hK
  · replace h := jif_f hc13 h
    refine j_aload_n 0 dX10_bear_8 rfl rfl ?_
    refine j_iload_n 2 dX10_bear_9 rfl rfl ?_
    replace h := bC_inv h
    obtain ⟨r14, cr14, h⟩ := h
    refine j_callV (ci := 9) (st1 := .int r14 :: _) (c_X10_isPerson g cr14) jy_X10_isPerson ki_yX10_isPerson ks_yX10_isPerson kl_RX10_143 dX10_bear_10 rfl (okX_1 _) (shX_1 _) rfl rfl rfl rfl (jbr _) (jbr _) hn.1 hn.2 (Or.inr rfl) rfl ?_
    refine j_if_eq 21 dX10_bear_13 (by decide) (fun hc15 => ?_) (fun hc15 => ?_)
    · replace h := jif_t hc15 h
      refine j_sub [] [] rfl ?_
      exact f_X10_bear_J21_ok σ hn hr _ h hK
    · replace h := jif_f hc15 h
      refine j_iload_n 1 dX10_bear_16 rfl rfl ?_
      refine j_iload_n 2 dX10_bear_17 rfl rfl ?_
      refine j_icmp_ne 25 dX10_bear_18 (by decide) (fun hc16 => ?_) (fun hc16 => ?_)
      · replace h := jif_f hc16 h
        refine j_aload_n 0 dX10_bear_25 rfl rfl ?_
        refine j_get (ci := 9) 5 (.ref 29) jC_9 dX10_bear_26 kg_RX10_47 rfl (okX_1 _) (shX_1 _) (fvX_1_5 _) ?_
        refine j_get (ci := 6) 2 (.ref 32) jC_6 dX10_bear_29 kg_RX10_83 rfl (okX_29 _) (shX_29 _) (fvX_29_2 _) ?_
        refine j_iload_n 1 dX10_bear_32 rfl rfl ?_
        refine j_iload_n 2 dX10_bear_33 rfl rfl ?_
        replace h := bC_inv h
        obtain ⟨r17, cr17, h⟩ := h
        refine j_callV (ci := 1) (st1 := .int r17 :: _) (c_X1_has g cr17) jy_X1_has ki_yX1_has ks_yX1_has kl_RX10_187 dX10_bear_34 rfl (okX_32 _) (shX_32 _) rfl rfl rfl rfl (jbr _) (jbr _) hn.1 hn.2 (Or.inr rfl) rfl ?_
        refine j_iload_n 3 dX10_bear_37 rfl rfl ?_
        refine j_icmp_ne 45 dX10_bear_38 (by decide) (fun hc18 => ?_) (fun hc18 => ?_)
        · replace h := jif_f hc18 h
          refine j_iload_n 3 dX10_bear_45 rfl rfl ?_
          refine j_if_eq 64 dX10_bear_46 (by decide) (fun hc19 => ?_) (fun hc19 => ?_)
          · replace h := jif_t hc19 h
            refine j_aload_n 0 dX10_bear_64 rfl rfl ?_
            refine j_get (ci := 9) 5 (.ref 29) jC_9 dX10_bear_65 kg_RX10_47 rfl (okX_1 _) (shX_1 _) (fvX_1_5 _) ?_
            refine j_get (ci := 6) 2 (.ref 32) jC_6 dX10_bear_68 kg_RX10_83 rfl (okX_29 _) (shX_29 _) (fvX_29_2 _) ?_
            refine j_iload_n 1 dX10_bear_71 rfl rfl ?_
            refine j_iload_n 2 dX10_bear_72 rfl rfl ?_
            replace h := bD_inv h
            obtain ⟨r20, σ21, cr20, h⟩ := h
            refine j_callV (ci := 1) (st1 := _) (c_X1_drop g cr20) jy_X1_drop ki_yX1_drop ks_yX1_drop kl_RX10_195 dX10_bear_73 rfl (okX_32 _) (shX_32 _) rfl rfl rfl rfl (jbr _) (jbr _) hn.1 hn.2 (Or.inr rfl) rfl ?_
            refine j_sub [(0, .ref 1)] [0] rfl ?_
            exact f_X10_bear_J76_ok σ21 hn hr _ h hK
          · replace h := jif_f hc19 h
            refine j_aload_n 0 dX10_bear_49 rfl rfl ?_
            refine j_get (ci := 9) 5 (.ref 29) jC_9 dX10_bear_50 kg_RX10_47 rfl (okX_1 _) (shX_1 _) (fvX_1_5 _) ?_
            refine j_get (ci := 6) 2 (.ref 32) jC_6 dX10_bear_53 kg_RX10_83 rfl (okX_29 _) (shX_29 _) (fvX_29_2 _) ?_
            refine j_iload_n 1 dX10_bear_56 rfl rfl ?_
            refine j_iload_n 2 dX10_bear_57 rfl rfl ?_
            replace h := bD_inv h
            obtain ⟨r22, σ23, cr22, h⟩ := h
            refine j_callV (ci := 1) (st1 := _) (c_X1_add g cr22) jy_X1_add ki_yX1_add ks_yX1_add kl_RX10_191 dX10_bear_58 rfl (okX_32 _) (shX_32 _) rfl rfl rfl rfl (jbr _) (jbr _) hn.1 hn.2 (Or.inr rfl) rfl ?_
            refine j_goto 76 dX10_bear_61 (by decide) ?_
            refine j_sub [(0, .ref 1)] [0] rfl ?_
            exact f_X10_bear_J76_ok σ23 hn hr _ h hK
        · replace h := jif_t hc18 h
          refine j_sipush (v := (-1003)) dX10_bear_41 (by decide) ?_
          replace h := Option.some.inj h
          subst h
          obtain ⟨hr1, hr2⟩ := hr _ _ hK
          exact j_iret dX10_bear_44 hr1 hr2
      · replace h := jif_t hc16 h
        refine j_sub [] [] rfl ?_
        exact f_X10_bear_J21_ok σ hn hr _ h hK
theorem c_X10_bear (g : Bool) {σ : jS} {x1 : Int32} {x2 : Int32} {x3 : Int32} {r : Int32} {σ2 : jS} (h : f_X10_bear σ x1 x2 x3 = some (r, σ2)) : Cn yX10_bear cX10_bear 4 (some .int) 6 g [.ref 1, .int x1, .int x2, .int x3] (eX σ) (some (.int r)) (eX σ2) :=
  Cn_of (by decide) (Nat.le_refl _) (Nat.le_refl _) (Nat.le_of_ble_eq_true rfl) (f_X10_bear_ok (Kp := (fun o => o = (r, σ2))) σ x1 x2 x3 ⟨jbr _, jbr _⟩ (fun r2 s2 q => by cases q; exact ⟨rfl, rfl⟩) _ h rfl)
def f_X0_fromWhom_J27 (σ : jS) (y0 : Int32) : Option Int32 :=
  some (y0)
set_option maxHeartbeats 1000000 in
set_option maxRecDepth 20000 in
theorem f_X0_fromWhom_J27_ok {g : Bool} {rv : Option Value} {μ' : jM} (σ : jS) (y0 : Int32) {Kp : Int32 → Prop} (hn : Nat.ble nX μ'.1 = true ∧ Nat.ble wX μ'.2.1 = true) (hr : ∀ r : Int32, Kp (r) → rv = some (.int r) ∧ μ' = (eX σ)) (o : Int32) (h : f_X0_fromWhom_J27 σ y0 = some o) (hK : Kp o) : J yX0_fromWhom cX0_fromWhom 4 (some .int) 2 g rv μ' 27 [] [.int y0] (eX σ) := by
  unfold f_X0_fromWhom_J27 at h
  replace h := Option.some.inj h
  subst h
  obtain ⟨hr1, hr2⟩ := hr _ hK
  exact j_iret dX0_fromWhom_27 hr1 hr2
def f_X0_fromWhom (σ : jS) (x1 : Int32) (x2 : Int32) : Option Int32 :=
  bC (f_X0_spot x1 x2) fun r1 =>
  if 16 ≤ r1 then (bC (f_X6_at σ 7 r1) fun r2 =>
  f_X0_fromWhom_J27 σ r2)
  else (f_X0_fromWhom_J27 σ (-1))
set_option maxHeartbeats 1000000 in
set_option maxRecDepth 20000 in
theorem f_X0_fromWhom_ok {g : Bool} {rv : Option Value} {μ' : jM} (σ : jS) (x1 : Int32) (x2 : Int32) {Kp : Int32 → Prop} (hn : Nat.ble nX μ'.1 = true ∧ Nat.ble wX μ'.2.1 = true) (hr : ∀ r : Int32, Kp (r) → rv = some (.int r) ∧ μ' = (eX σ)) (o : Int32) (h : f_X0_fromWhom σ x1 x2 = some o) (hK : Kp o) : J yX0_fromWhom cX0_fromWhom 4 (some .int) 2 g rv μ' 0 [(0, .ref 4), (1, .int x1), (2, .int x2)] [] (eX σ) := by
  unfold f_X0_fromWhom at h
  refine j_iload_n 1 dX0_fromWhom_0 rfl rfl ?_
  refine j_iload_n 2 dX0_fromWhom_1 rfl rfl ?_
  replace h := bC_inv h
  obtain ⟨r3, cr3, h⟩ := h
  refine j_callS (st1 := .int r3 :: _) (c_X0_spot g _ cr3) jy_X0_spot kt_yX0_spot kl_RX0_57 dX0_fromWhom_2 rfl rfl rfl rfl (jbr _) (jbr _) hn.1 hn.2 (Or.inr rfl) rfl ?_
  refine j_istore_n [(3, .int r3), (0, .ref 4), (1, .int x1), (2, .int x2)] dX0_fromWhom_5 rfl (Nat.le_of_ble_eq_true rfl) rfl ?_
  refine j_iload_n 0 dX0_fromWhom_6 rfl rfl ?_
  refine j_bipush (v := 16) dX0_fromWhom_7 (by decide) ?_
  refine j_icmp_ge 16 dX0_fromWhom_9 (by decide) (fun hc4 => ?_) (fun hc4 => ?_)
  · replace h := jif_t hc4 h
    refine j_aload_n 1 dX0_fromWhom_16 rfl rfl ?_
    refine j_get (ci := 0) 0 (.ref 5) jC_0 dX0_fromWhom_17 kg_RX0_12 rfl (okX_4 _) (shX_4 _) (fvX_4_0 _) ?_
    refine j_get (ci := 8) 1 (.ref 7) jC_8 dX0_fromWhom_20 kg_RX0_65 rfl (okX_5 _) (shX_5 _) (fvX_5_1 _) ?_
    refine j_iload_n 0 dX0_fromWhom_23 rfl rfl ?_
    replace h := bC_inv h
    obtain ⟨r5, cr5, h⟩ := h
    refine j_callS (st1 := .int r5 :: _) (c_X6_at g cr5) jy_X6_at kt_yX6_at kl_RX0_61 dX0_fromWhom_24 rfl rfl rfl rfl (jbr _) (jbr _) hn.1 hn.2 (Or.inr rfl) rfl ?_
    refine j_sub [] [] rfl ?_
    exact f_X0_fromWhom_J27_ok σ r5 hn hr _ h hK
  · replace h := jif_f hc4 h
    refine j_iconst (v := (-1)) dX0_fromWhom_12 (by decide) ?_
    refine j_goto 27 dX0_fromWhom_13 (by decide) ?_
    refine j_sub [] [] rfl ?_
    exact f_X0_fromWhom_J27_ok σ (-1) hn hr _ h hK
theorem c_X0_fromWhom (g : Bool) {σ : jS} {x1 : Int32} {x2 : Int32} {r : Int32} (h : f_X0_fromWhom σ x1 x2 = some r) : Cn yX0_fromWhom cX0_fromWhom 4 (some .int) 2 g [.ref 4, .int x1, .int x2] (eX σ) (some (.int r)) (eX σ) :=
  Cn_of (by decide) (Nat.le_refl _) (Nat.le_refl _) (Nat.le_of_ble_eq_true rfl) (f_X0_fromWhom_ok (Kp := (fun o => o = r)) σ x1 x2 ⟨jbr _, jbr _⟩ (fun r2 q => by cases q; exact ⟨rfl, rfl⟩) _ h rfl)
def f_X0_isEnded_J52 (σ : jS) (y0 : Int32) : Option Int32 :=
  bG (jb y0) (
  some (y0))
set_option maxHeartbeats 1000000 in
set_option maxRecDepth 20000 in
theorem f_X0_isEnded_J52_ok {g : Bool} {rv : Option Value} {μ' : jM} (σ : jS) (y0 : Int32) {Kp : Int32 → Prop} (hn : Nat.ble nX μ'.1 = true ∧ Nat.ble wX μ'.2.1 = true) (hr : ∀ r : Int32, Kp (r) → rv = some (.int r) ∧ μ' = (eX σ)) (o : Int32) (h : f_X0_isEnded_J52 σ y0 = some o) (hK : Kp o) : J yX0_isEnded cX0_isEnded 4 (some .boolean) 2 g rv μ' 52 [] [.int y0] (eX σ) := by
  unfold f_X0_isEnded_J52 at h
  replace h := bG_inv h
  obtain ⟨hb, h⟩ := h
  replace h := Option.some.inj h
  subst h
  obtain ⟨hr1, hr2⟩ := hr _ hK
  exact j_zret (jb_nar hb) dX0_isEnded_52 hr1 hr2
def f_X0_isEnded (σ : jS) (x1 : Int32) : Option Int32 :=
  bC (f_X0_spot x1 0) fun r1 =>
  bC (f_X6_at σ 6 r1) fun r2 =>
  bC (f_X0_spot x1 1) fun r3 =>
  bC (f_X6_at σ 6 r3) fun r4 =>
  bC (f_X6_at σ 11 r2) fun r5 =>
  if ((r5 >>> (r4 &&& 31)) &&& (1 : Int32)) = 0 then (f_X0_isEnded_J52 σ 1)
  else (f_X0_isEnded_J52 σ 0)
set_option maxHeartbeats 1000000 in
set_option maxRecDepth 20000 in
theorem f_X0_isEnded_ok {g : Bool} {rv : Option Value} {μ' : jM} (σ : jS) (x1 : Int32) {Kp : Int32 → Prop} (hn : Nat.ble nX μ'.1 = true ∧ Nat.ble wX μ'.2.1 = true) (hr : ∀ r : Int32, Kp (r) → rv = some (.int r) ∧ μ' = (eX σ)) (o : Int32) (h : f_X0_isEnded σ x1 = some o) (hK : Kp o) : J yX0_isEnded cX0_isEnded 4 (some .boolean) 2 g rv μ' 0 [(0, .ref 4), (1, .int x1)] [] (eX σ) := by
  unfold f_X0_isEnded at h
  refine j_aload_n 0 dX0_isEnded_0 rfl rfl ?_
  refine j_get (ci := 0) 0 (.ref 5) jC_0 dX0_isEnded_1 kg_RX0_12 rfl (okX_4 _) (shX_4 _) (fvX_4_0 _) ?_
  refine j_get (ci := 8) 0 (.ref 6) jC_8 dX0_isEnded_4 kg_RX0_54 rfl (okX_5 _) (shX_5 _) (fvX_5_0 _) ?_
  refine j_iload_n 1 dX0_isEnded_7 rfl rfl ?_
  refine j_iconst (v := 0) dX0_isEnded_8 (by decide) ?_
  replace h := bC_inv h
  obtain ⟨r6, cr6, h⟩ := h
  refine j_callS (st1 := .int r6 :: _) (c_X0_spot g _ cr6) jy_X0_spot kt_yX0_spot kl_RX0_57 dX0_isEnded_9 rfl rfl rfl rfl (jbr _) (jbr _) hn.1 hn.2 (Or.inr rfl) rfl ?_
  replace h := bC_inv h
  obtain ⟨r7, cr7, h⟩ := h
  refine j_callS (st1 := .int r7 :: _) (c_X6_at g cr7) jy_X6_at kt_yX6_at kl_RX0_61 dX0_isEnded_12 rfl rfl rfl rfl (jbr _) (jbr _) hn.1 hn.2 (Or.inr rfl) rfl ?_
  refine j_istore_n [(2, .int r7), (0, .ref 4), (1, .int x1)] dX0_isEnded_15 rfl (Nat.le_of_ble_eq_true rfl) rfl ?_
  refine j_aload_n 1 dX0_isEnded_16 rfl rfl ?_
  refine j_get (ci := 0) 0 (.ref 5) jC_0 dX0_isEnded_17 kg_RX0_12 rfl (okX_4 _) (shX_4 _) (fvX_4_0 _) ?_
  refine j_get (ci := 8) 0 (.ref 6) jC_8 dX0_isEnded_20 kg_RX0_54 rfl (okX_5 _) (shX_5 _) (fvX_5_0 _) ?_
  refine j_iload_n 2 dX0_isEnded_23 rfl rfl ?_
  refine j_iconst (v := 1) dX0_isEnded_24 (by decide) ?_
  replace h := bC_inv h
  obtain ⟨r8, cr8, h⟩ := h
  refine j_callS (st1 := .int r8 :: _) (c_X0_spot g _ cr8) jy_X0_spot kt_yX0_spot kl_RX0_57 dX0_isEnded_25 rfl rfl rfl rfl (jbr _) (jbr _) hn.1 hn.2 (Or.inr rfl) rfl ?_
  replace h := bC_inv h
  obtain ⟨r9, cr9, h⟩ := h
  refine j_callS (st1 := .int r9 :: _) (c_X6_at g cr9) jy_X6_at kt_yX6_at kl_RX0_61 dX0_isEnded_28 rfl rfl rfl rfl (jbr _) (jbr _) hn.1 hn.2 (Or.inr rfl) rfl ?_
  refine j_istore_n [(3, .int r9), (2, .int r7), (0, .ref 4), (1, .int x1)] dX0_isEnded_31 rfl (Nat.le_of_ble_eq_true rfl) rfl ?_
  refine j_aload_n 2 dX0_isEnded_32 rfl rfl ?_
  refine j_get (ci := 0) 4 (.ref 11) jC_0 dX0_isEnded_33 kg_RX0_18 rfl (okX_4 _) (shX_4 _) (fvX_4_4 _) ?_
  refine j_iload_n 1 dX0_isEnded_36 rfl rfl ?_
  replace h := bC_inv h
  obtain ⟨r10, cr10, h⟩ := h
  refine j_callS (st1 := .int r10 :: _) (c_X6_at g cr10) jy_X6_at kt_yX6_at kl_RX0_61 dX0_isEnded_37 rfl rfl rfl rfl (jbr _) (jbr _) hn.1 hn.2 (Or.inr rfl) rfl ?_
  refine j_iload_n 0 dX0_isEnded_40 rfl rfl ?_
  refine j_ishr dX0_isEnded_41 ?_
  refine j_iconst (v := 1) dX0_isEnded_42 (by decide) ?_
  refine j_iand dX0_isEnded_43 ?_
  refine j_if_ne 51 dX0_isEnded_44 (by decide) (fun hc11 => ?_) (fun hc11 => ?_)
  · replace h := jif_f hc11 h
    refine j_iconst (v := 0) dX0_isEnded_51 (by decide) ?_
    refine j_sub [] [] rfl ?_
    exact f_X0_isEnded_J52_ok σ 0 hn hr _ h hK
  · replace h := jif_t hc11 h
    refine j_iconst (v := 1) dX0_isEnded_47 (by decide) ?_
    refine j_goto 52 dX0_isEnded_48 (by decide) ?_
    refine j_sub [] [] rfl ?_
    exact f_X0_isEnded_J52_ok σ 1 hn hr _ h hK
theorem c_X0_isEnded (g : Bool) {σ : jS} {x1 : Int32} {r : Int32} (h : f_X0_isEnded σ x1 = some r) : Cn yX0_isEnded cX0_isEnded 4 (some .boolean) 2 g [.ref 4, .int x1] (eX σ) (some (.int r)) (eX σ) :=
  Cn_of (by decide) (Nat.le_refl _) (Nat.le_refl _) (Nat.le_of_ble_eq_true rfl) (f_X0_isEnded_ok (Kp := (fun o => o = r)) σ x1 ⟨jbr _, jbr _⟩ (fun r2 q => by cases q; exact ⟨rfl, rfl⟩) _ h rfl)
def f_X0_onwardOf (σ : jS) (x1 : Int32) : Option Int64 :=
  bV (x1 &&& (1 : Int32)) fun v1 =>
  bC (f_X0_spot x1 ((1 : Int32) - v1)) fun r2 =>
  bC (f_X6_at σ 6 r2) fun r3 =>
  bC (f_X0_spot x1 v1) fun r4 =>
  bC (f_X6_at_ σ 8 r4) fun r5 =>
  bC (f_X6_at_ σ 10 r3) fun r6 =>
  some ((r5 &&& (r6 ^^^ ((-1) : Int64))))
set_option maxHeartbeats 1000000 in
set_option maxRecDepth 20000 in
theorem f_X0_onwardOf_ok {g : Bool} {rv : Option Value} {μ' : jM} (σ : jS) (x1 : Int32) {Kp : Int64 → Prop} (hn : Nat.ble nX μ'.1 = true ∧ Nat.ble wX μ'.2.1 = true) (hr : ∀ r : Int64, Kp (r) → rv = some (.long r) ∧ μ' = (eX σ)) (o : Int64) (h : f_X0_onwardOf σ x1 = some o) (hK : Kp o) : J yX0_onwardOf cX0_onwardOf 4 (some .long) 2 g rv μ' 0 [(0, .ref 4), (1, .int x1)] [] (eX σ) := by
  unfold f_X0_onwardOf at h
  refine j_iload_n 1 dX0_onwardOf_0 rfl rfl ?_
  refine j_iconst (v := 1) dX0_onwardOf_1 (by decide) ?_
  refine j_iand dX0_onwardOf_2 ?_
  replace h := bV_inv h
  obtain ⟨v7, ev7, h⟩ := h
  refine j_nmi ev7 ?_
  refine j_istore_n [(2, .int v7), (0, .ref 4), (1, .int x1)] dX0_onwardOf_3 rfl (Nat.le_of_ble_eq_true rfl) rfl ?_
  refine j_aload_n 1 dX0_onwardOf_4 rfl rfl ?_
  refine j_get (ci := 0) 0 (.ref 5) jC_0 dX0_onwardOf_5 kg_RX0_12 rfl (okX_4 _) (shX_4 _) (fvX_4_0 _) ?_
  refine j_get (ci := 8) 0 (.ref 6) jC_8 dX0_onwardOf_8 kg_RX0_54 rfl (okX_5 _) (shX_5 _) (fvX_5_0 _) ?_
  refine j_iload_n 2 dX0_onwardOf_11 rfl rfl ?_
  refine j_iconst (v := 1) dX0_onwardOf_12 (by decide) ?_
  refine j_iload_n 0 dX0_onwardOf_13 rfl rfl ?_
  refine j_isub dX0_onwardOf_14 ?_
  replace h := bC_inv h
  obtain ⟨r8, cr8, h⟩ := h
  refine j_callS (st1 := .int r8 :: _) (c_X0_spot g _ cr8) jy_X0_spot kt_yX0_spot kl_RX0_57 dX0_onwardOf_15 rfl rfl rfl rfl (jbr _) (jbr _) hn.1 hn.2 (Or.inr rfl) rfl ?_
  replace h := bC_inv h
  obtain ⟨r9, cr9, h⟩ := h
  refine j_callS (st1 := .int r9 :: _) (c_X6_at g cr9) jy_X6_at kt_yX6_at kl_RX0_61 dX0_onwardOf_18 rfl rfl rfl rfl (jbr _) (jbr _) hn.1 hn.2 (Or.inr rfl) rfl ?_
  refine j_istore_n [(3, .int r9), (2, .int v7), (0, .ref 4), (1, .int x1)] dX0_onwardOf_21 rfl (Nat.le_of_ble_eq_true rfl) rfl ?_
  refine j_aload_n 2 dX0_onwardOf_22 rfl rfl ?_
  refine j_get (ci := 0) 0 (.ref 5) jC_0 dX0_onwardOf_23 kg_RX0_12 rfl (okX_4 _) (shX_4 _) (fvX_4_0 _) ?_
  refine j_get (ci := 8) 2 (.ref 8) jC_8 dX0_onwardOf_26 kg_RX0_76 rfl (okX_5 _) (shX_5 _) (fvX_5_2 _) ?_
  refine j_iload_n 3 dX0_onwardOf_29 rfl rfl ?_
  refine j_iload_n 1 dX0_onwardOf_30 rfl rfl ?_
  replace h := bC_inv h
  obtain ⟨r10, cr10, h⟩ := h
  refine j_callS (st1 := .int r10 :: _) (c_X0_spot g _ cr10) jy_X0_spot kt_yX0_spot kl_RX0_57 dX0_onwardOf_31 rfl rfl rfl rfl (jbr _) (jbr _) hn.1 hn.2 (Or.inr rfl) rfl ?_
  replace h := bC_inv h
  obtain ⟨r11, cr11, h⟩ := h
  refine j_callS (st1 := .long r11 :: _) (c_X6_at_ g cr11) jy_X6_at_ kt_yX6_at_ kl_RX0_80 dX0_onwardOf_34 rfl rfl rfl rfl (jbr _) (jbr _) hn.1 hn.2 (Or.inr rfl) rfl ?_
  refine j_aload_n 2 dX0_onwardOf_37 rfl rfl ?_
  refine j_get (ci := 0) 0 (.ref 5) jC_0 dX0_onwardOf_38 kg_RX0_12 rfl (okX_4 _) (shX_4 _) (fvX_4_0 _) ?_
  refine j_get (ci := 8) 4 (.ref 10) jC_8 dX0_onwardOf_41 kg_RX0_83 rfl (okX_5 _) (shX_5 _) (fvX_5_4 _) ?_
  refine j_iload_n 0 dX0_onwardOf_44 rfl rfl ?_
  replace h := bC_inv h
  obtain ⟨r12, cr12, h⟩ := h
  refine j_callS (st1 := .long r12 :: _) (c_X6_at_ g cr12) jy_X6_at_ kt_yX6_at_ kl_RX0_80 dX0_onwardOf_45 rfl rfl rfl rfl (jbr _) (jbr _) hn.1 hn.2 (Or.inr rfl) rfl ?_
  refine j_ldc2 (v := (-1)) kk_RX0_86 dX0_onwardOf_48 ?_
  refine j_lxor dX0_onwardOf_51 ?_
  refine j_land dX0_onwardOf_52 ?_
  replace h := Option.some.inj h
  subst h
  obtain ⟨hr1, hr2⟩ := hr _ hK
  exact j_lret dX0_onwardOf_53 hr1 hr2
theorem c_X0_onwardOf (g : Bool) {σ : jS} {x1 : Int32} {r : Int64} (h : f_X0_onwardOf σ x1 = some r) : Cn yX0_onwardOf cX0_onwardOf 4 (some .long) 2 g [.ref 4, .int x1] (eX σ) (some (.long r)) (eX σ) :=
  Cn_of (by decide) (Nat.le_refl _) (Nat.le_refl _) (Nat.le_of_ble_eq_true rfl) (f_X0_onwardOf_ok (Kp := (fun o => o = r)) σ x1 ⟨jbr _, jbr _⟩ (fun r2 q => by cases q; exact ⟨rfl, rfl⟩) _ h rfl)
def f_X0_howIs_J37 (σ : jS) (y0 : Int32) : Option Int32 :=
  some (y0)
set_option maxHeartbeats 1000000 in
set_option maxRecDepth 20000 in
theorem f_X0_howIs_J37_ok {g : Bool} {rv : Option Value} {μ' : jM} (σ : jS) (y0 : Int32) {Kp : Int32 → Prop} (hn : Nat.ble nX μ'.1 = true ∧ Nat.ble wX μ'.2.1 = true) (hr : ∀ r : Int32, Kp (r) → rv = some (.int r) ∧ μ' = (eX σ)) (o : Int32) (h : f_X0_howIs_J37 σ y0 = some o) (hK : Kp o) : J yX0_howIs cX0_howIs 2 (some .int) 3 g rv μ' 37 [] [.int y0] (eX σ) := by
  unfold f_X0_howIs_J37 at h
  replace h := Option.some.inj h
  subst h
  obtain ⟨hr1, hr2⟩ := hr _ hK
  exact j_iret dX0_howIs_37 hr1 hr2
def f_X0_howIs_J36 (σ : jS) : Option Int32 :=
  f_X0_howIs_J37 σ 0
set_option maxHeartbeats 1000000 in
set_option maxRecDepth 20000 in
theorem f_X0_howIs_J36_ok {g : Bool} {rv : Option Value} {μ' : jM} (σ : jS) {Kp : Int32 → Prop} (hn : Nat.ble nX μ'.1 = true ∧ Nat.ble wX μ'.2.1 = true) (hr : ∀ r : Int32, Kp (r) → rv = some (.int r) ∧ μ' = (eX σ)) (o : Int32) (h : f_X0_howIs_J36 σ = some o) (hK : Kp o) : J yX0_howIs cX0_howIs 2 (some .int) 3 g rv μ' 36 [] [] (eX σ) := by
  unfold f_X0_howIs_J36 at h
  refine j_iconst (v := 0) dX0_howIs_36 (by decide) ?_
  exact f_X0_howIs_J37_ok σ 0 hn hr _ h hK
def f_X0_howIs (σ : jS) (x1 : Int32) : Option Int32 :=
  bC (f_X0_isEnded σ x1) fun r1 =>
  if r1 = 0 then (bC (f_X0_onwardOf σ x1) fun r2 =>
  if (lg_cmp r2 0) = 0 then (bC (f_X0_onwardOf σ (x1 ^^^ (1 : Int32))) fun r3 =>
  if (lg_cmp r3 0) = 0 then (f_X0_howIs_J37 σ 2)
  else (f_X0_howIs_J36 σ))
  else (f_X0_howIs_J36 σ))
  else (some (1))
set_option maxHeartbeats 1000000 in
set_option maxRecDepth 20000 in
theorem f_X0_howIs_ok {g : Bool} {rv : Option Value} {μ' : jM} (σ : jS) (x1 : Int32) {Kp : Int32 → Prop} (hn : Nat.ble nX μ'.1 = true ∧ Nat.ble wX μ'.2.1 = true) (hr : ∀ r : Int32, Kp (r) → rv = some (.int r) ∧ μ' = (eX σ)) (o : Int32) (h : f_X0_howIs σ x1 = some o) (hK : Kp o) : J yX0_howIs cX0_howIs 2 (some .int) 3 g rv μ' 0 [(0, .ref 4), (1, .int x1)] [] (eX σ) := by
  unfold f_X0_howIs at h
  refine j_aload_n 0 dX0_howIs_0 rfl rfl ?_
  refine j_iload_n 1 dX0_howIs_1 rfl rfl ?_
  replace h := bC_inv h
  obtain ⟨r4, cr4, h⟩ := h
  refine j_callV (ci := 0) (st1 := .int r4 :: _) (c_X0_isEnded g cr4) jy_X0_isEnded ki_yX0_isEnded ks_yX0_isEnded kl_RX0_68 dX0_howIs_2 rfl (okX_4 _) (shX_4 _) rfl rfl rfl rfl (jbr _) (jbr _) hn.1 hn.2 (Or.inr rfl) rfl ?_
  refine j_if_eq 10 dX0_howIs_5 (by decide) (fun hc5 => ?_) (fun hc5 => ?_)
  · replace h := jif_t hc5 h
    refine j_aload_n 0 dX0_howIs_10 rfl rfl ?_
    refine j_iload_n 1 dX0_howIs_11 rfl rfl ?_
    replace h := bC_inv h
    obtain ⟨r6, cr6, h⟩ := h
    refine j_callV (ci := 0) (st1 := .long r6 :: _) (c_X0_onwardOf g cr6) jy_X0_onwardOf ki_yX0_onwardOf ks_yX0_onwardOf kl_RX0_72 dX0_howIs_12 rfl (okX_4 _) (shX_4 _) rfl rfl rfl rfl (jbr _) (jbr _) hn.1 hn.2 (Or.inr rfl) rfl ?_
    refine j_lconst (v := 0) dX0_howIs_15 (by decide) ?_
    refine j_lcmp dX0_howIs_16 ?_
    refine j_if_ne 36 dX0_howIs_17 (by decide) (fun hc7 => ?_) (fun hc7 => ?_)
    · replace h := jif_f hc7 h
      refine j_sub [] [] rfl ?_
      exact f_X0_howIs_J36_ok σ hn hr _ h hK
    · replace h := jif_t hc7 h
      refine j_aload_n 0 dX0_howIs_20 rfl rfl ?_
      refine j_iload_n 1 dX0_howIs_21 rfl rfl ?_
      refine j_iconst (v := 1) dX0_howIs_22 (by decide) ?_
      refine j_ixor dX0_howIs_23 ?_
      replace h := bC_inv h
      obtain ⟨r8, cr8, h⟩ := h
      refine j_callV (ci := 0) (st1 := .long r8 :: _) (c_X0_onwardOf g cr8) jy_X0_onwardOf ki_yX0_onwardOf ks_yX0_onwardOf kl_RX0_72 dX0_howIs_24 rfl (okX_4 _) (shX_4 _) rfl rfl rfl rfl (jbr _) (jbr _) hn.1 hn.2 (Or.inr rfl) rfl ?_
      refine j_lconst (v := 0) dX0_howIs_27 (by decide) ?_
      refine j_lcmp dX0_howIs_28 ?_
      refine j_if_ne 36 dX0_howIs_29 (by decide) (fun hc9 => ?_) (fun hc9 => ?_)
      · replace h := jif_f hc9 h
        refine j_sub [] [] rfl ?_
        exact f_X0_howIs_J36_ok σ hn hr _ h hK
      · replace h := jif_t hc9 h
        refine j_iconst (v := 2) dX0_howIs_32 (by decide) ?_
        refine j_goto 37 dX0_howIs_33 (by decide) ?_
        refine j_sub [] [] rfl ?_
        exact f_X0_howIs_J37_ok σ 2 hn hr _ h hK
  · replace h := jif_f hc5 h
    refine j_iconst (v := 1) dX0_howIs_8 (by decide) ?_
    replace h := Option.some.inj h
    subst h
    obtain ⟨hr1, hr2⟩ := hr _ hK
    exact j_iret dX0_howIs_9 hr1 hr2
theorem c_X0_howIs (g : Bool) {σ : jS} {x1 : Int32} {r : Int32} (h : f_X0_howIs σ x1 = some r) : Cn yX0_howIs cX0_howIs 2 (some .int) 3 g [.ref 4, .int x1] (eX σ) (some (.int r)) (eX σ) :=
  Cn_of (by decide) (Nat.le_refl _) (Nat.le_refl _) (Nat.le_of_ble_eq_true rfl) (f_X0_howIs_ok (Kp := (fun o => o = r)) σ x1 ⟨jbr _, jbr _⟩ (fun r2 q => by cases q; exact ⟨rfl, rfl⟩) _ h rfl)
def f_X10_isQuarrel_J20 (σ : jS) (y0 : Int32) : Option Int32 :=
  bG (jb y0) (
  some (y0))
set_option maxHeartbeats 1000000 in
set_option maxRecDepth 20000 in
theorem f_X10_isQuarrel_J20_ok {g : Bool} {rv : Option Value} {μ' : jM} (σ : jS) (y0 : Int32) {Kp : Int32 → Prop} (hn : Nat.ble nX μ'.1 = true ∧ Nat.ble wX μ'.2.1 = true) (hr : ∀ r : Int32, Kp (r) → rv = some (.int r) ∧ μ' = (eX σ)) (o : Int32) (h : f_X10_isQuarrel_J20 σ y0 = some o) (hK : Kp o) : J yX10_isQuarrel cX10_isQuarrel 2 (some .boolean) 1 g rv μ' 20 [] [.int y0] (eX σ) := by
  unfold f_X10_isQuarrel_J20 at h
  replace h := bG_inv h
  obtain ⟨hb, h⟩ := h
  replace h := Option.some.inj h
  subst h
  obtain ⟨hr1, hr2⟩ := hr _ hK
  exact j_zret (jb_nar hb) dX10_isQuarrel_20 hr1 hr2
def f_X10_isQuarrel_J19 (σ : jS) : Option Int32 :=
  f_X10_isQuarrel_J20 σ 0
set_option maxHeartbeats 1000000 in
set_option maxRecDepth 20000 in
theorem f_X10_isQuarrel_J19_ok {g : Bool} {rv : Option Value} {μ' : jM} (σ : jS) {Kp : Int32 → Prop} (hn : Nat.ble nX μ'.1 = true ∧ Nat.ble wX μ'.2.1 = true) (hr : ∀ r : Int32, Kp (r) → rv = some (.int r) ∧ μ' = (eX σ)) (o : Int32) (h : f_X10_isQuarrel_J19 σ = some o) (hK : Kp o) : J yX10_isQuarrel cX10_isQuarrel 2 (some .boolean) 1 g rv μ' 19 [] [] (eX σ) := by
  unfold f_X10_isQuarrel_J19 at h
  refine j_iconst (v := 0) dX10_isQuarrel_19 (by decide) ?_
  exact f_X10_isQuarrel_J20_ok σ 0 hn hr _ h hK
def f_X10_isQuarrel (σ : jS) (x1 : Int32) : Option Int32 :=
  if x1 < 0 then (f_X10_isQuarrel_J19 σ)
  else (bV (σ.2.2.1) fun t1 =>
  bH [51, 61] t1 (
  if (gI σ t1 8) ≤ x1 then (f_X10_isQuarrel_J19 σ)
  else (f_X10_isQuarrel_J20 σ 1)))
set_option maxHeartbeats 1000000 in
set_option maxRecDepth 20000 in
theorem f_X10_isQuarrel_ok {g : Bool} {rv : Option Value} {μ' : jM} (σ : jS) (x1 : Int32) {Kp : Int32 → Prop} (hn : Nat.ble nX μ'.1 = true ∧ Nat.ble wX μ'.2.1 = true) (hr : ∀ r : Int32, Kp (r) → rv = some (.int r) ∧ μ' = (eX σ)) (o : Int32) (h : f_X10_isQuarrel σ x1 = some o) (hK : Kp o) : J yX10_isQuarrel cX10_isQuarrel 2 (some .boolean) 1 g rv μ' 0 [(0, .ref 1), (1, .int x1)] [] (eX σ) := by
  unfold f_X10_isQuarrel at h
  refine j_iload_n 1 dX10_isQuarrel_0 rfl rfl ?_
  refine j_if_lt 19 dX10_isQuarrel_1 (by decide) (fun hc2 => ?_) (fun hc2 => ?_)
  · replace h := jif_t hc2 h
    refine j_sub [] [] rfl ?_
    exact f_X10_isQuarrel_J19_ok σ hn hr _ h hK
  · replace h := jif_f hc2 h
    refine j_iload_n 1 dX10_isQuarrel_4 rfl rfl ?_
    refine j_aload_n 0 dX10_isQuarrel_5 rfl rfl ?_
    refine j_get (ci := 9) 7 (.ref (σ.2.2.1)) jC_9 dX10_isQuarrel_6 kg_RX10_58 rfl (okX_1 _) (shX_1 _) (fvX_1_7 _) ?_
    replace h := bV_inv h
    obtain ⟨t3, et3, h⟩ := h
    refine j_nmr et3 ?_
    replace h := bH_inv h
    obtain ⟨hm4, h⟩ := h
    simp only [List.mem_cons, List.not_mem_nil, or_false] at hm4
    rcases hm4 with rfl | rfl
    · skip
      refine j_get (ci := 7) 8 (.int (gI σ 51 8)) jC_7 dX10_isQuarrel_9 kg_RX10_134 rfl (okX_51 _) (shX_51 _) (fvX_51_8 _) ?_
      refine j_icmp_ge 19 dX10_isQuarrel_12 (by decide) (fun hc5 => ?_) (fun hc5 => ?_)
      · replace h := jif_t hc5 h
        refine j_sub [] [] rfl ?_
        exact f_X10_isQuarrel_J19_ok σ hn hr _ h hK
      · replace h := jif_f hc5 h
        refine j_iconst (v := 1) dX10_isQuarrel_15 (by decide) ?_
        refine j_goto 20 dX10_isQuarrel_16 (by decide) ?_
        refine j_sub [] [] rfl ?_
        exact f_X10_isQuarrel_J20_ok σ 1 hn hr _ h hK
    · skip
      refine j_get (ci := 7) 8 (.int (gI σ 61 8)) jC_7 dX10_isQuarrel_9 kg_RX10_134 rfl (okX_61 _) (shX_61 _) (fvX_61_8 _) ?_
      refine j_icmp_ge 19 dX10_isQuarrel_12 (by decide) (fun hc6 => ?_) (fun hc6 => ?_)
      · replace h := jif_t hc6 h
        refine j_sub [] [] rfl ?_
        exact f_X10_isQuarrel_J19_ok σ hn hr _ h hK
      · replace h := jif_f hc6 h
        refine j_iconst (v := 1) dX10_isQuarrel_15 (by decide) ?_
        refine j_goto 20 dX10_isQuarrel_16 (by decide) ?_
        refine j_sub [] [] rfl ?_
        exact f_X10_isQuarrel_J20_ok σ 1 hn hr _ h hK
theorem c_X10_isQuarrel (g : Bool) {σ : jS} {x1 : Int32} {r : Int32} (h : f_X10_isQuarrel σ x1 = some r) : Cn yX10_isQuarrel cX10_isQuarrel 2 (some .boolean) 1 g [.ref 1, .int x1] (eX σ) (some (.int r)) (eX σ) :=
  Cn_of (by decide) (Nat.le_refl _) (Nat.le_refl _) (Nat.le_of_ble_eq_true rfl) (f_X10_isQuarrel_ok (Kp := (fun o => o = r)) σ x1 ⟨jbr _, jbr _⟩ (fun r2 q => by cases q; exact ⟨rfl, rfl⟩) _ h rfl)
def f_X10_quarrel (σ : jS) (x1 : Int32) (x2 : Int32) : Option Int32 :=
  bC (f_X10_isQuarrel σ x1) fun r1 =>
  if r1 = 0 then (some ((-1001)))
  else (bC (f_X6_at σ 30 x1) fun r2 =>
  if x2 = 0 then (bC (f_X0_holder σ r2 0) fun r3 =>
  some (r3))
  else if x2 = 1 then (bC (f_X0_holder σ r2 1) fun r4 =>
  some (r4))
  else if x2 = 2 then (some ((r2 &&& (1 : Int32))))
  else if x2 = 3 then (bC (f_X0_fromWhom σ r2 0) fun r5 =>
  some (r5))
  else if x2 = 4 then (bC (f_X0_fromWhom σ r2 1) fun r6 =>
  some (r6))
  else if x2 = 5 then (bC (f_X0_howIs σ r2) fun r7 =>
  some (r7))
  else if x2 = 6 then (bC (f_X6_at σ 31 x1) fun r8 =>
  some (r8))
  else (some ((-1002))))
set_option maxHeartbeats 1000000 in
set_option maxRecDepth 20000 in
theorem f_X10_quarrel_ok {g : Bool} {rv : Option Value} {μ' : jM} (σ : jS) (x1 : Int32) (x2 : Int32) {Kp : Int32 → Prop} (hn : Nat.ble nX μ'.1 = true ∧ Nat.ble wX μ'.2.1 = true) (hr : ∀ r : Int32, Kp (r) → rv = some (.int r) ∧ μ' = (eX σ)) (o : Int32) (h : f_X10_quarrel σ x1 x2 = some o) (hK : Kp o) : J yX10_quarrel cX10_quarrel 4 (some .int) 4 g rv μ' 0 [(0, .ref 1), (1, .int x1), (2, .int x2)] [] (eX σ) := by
  unfold f_X10_quarrel at h
  refine j_aload_n 0 dX10_quarrel_0 rfl rfl ?_
  refine j_iload_n 1 dX10_quarrel_1 rfl rfl ?_
  replace h := bC_inv h
  obtain ⟨r9, cr9, h⟩ := h
  refine j_callV (ci := 9) (st1 := .int r9 :: _) (c_X10_isQuarrel g cr9) jy_X10_isQuarrel ki_yX10_isQuarrel ks_yX10_isQuarrel kl_RX10_198 dX10_quarrel_2 rfl (okX_1 _) (shX_1 _) rfl rfl rfl rfl (jbr _) (jbr _) hn.1 hn.2 (Or.inr rfl) rfl ?_
  refine j_if_ne 12 dX10_quarrel_5 (by decide) (fun hc10 => ?_) (fun hc10 => ?_)
  · replace h := jif_f hc10 h
    refine j_aload_n 0 dX10_quarrel_12 rfl rfl ?_
    refine j_get (ci := 9) 5 (.ref 29) jC_9 dX10_quarrel_13 kg_RX10_47 rfl (okX_1 _) (shX_1 _) (fvX_1_5 _) ?_
    refine j_get (ci := 6) 0 (.ref 30) jC_6 dX10_quarrel_16 kg_RX10_94 rfl (okX_29 _) (shX_29 _) (fvX_29_0 _) ?_
    refine j_iload_n 1 dX10_quarrel_19 rfl rfl ?_
    replace h := bC_inv h
    obtain ⟨r11, cr11, h⟩ := h
    refine j_callS (st1 := .int r11 :: _) (c_X6_at g cr11) jy_X6_at kt_yX6_at kl_RX10_150 dX10_quarrel_20 rfl rfl rfl rfl (jbr _) (jbr _) hn.1 hn.2 (Or.inr rfl) rfl ?_
    refine j_istore_n [(3, .int r11), (0, .ref 1), (1, .int x1), (2, .int x2)] dX10_quarrel_23 rfl (Nat.le_of_ble_eq_true rfl) rfl ?_
    refine j_iload_n 3 dX10_quarrel_24 rfl rfl ?_
    by_cases hc12 : x2 = 0
    · replace h := jif_t hc12 h
      refine j_tblIn 68 dX10_quarrel_25 (by rw [hc12]; decide) (by rw [hc12]; decide) (by rw [hc12]; rfl) (by decide) ?_
      refine j_aload_n 1 dX10_quarrel_68 rfl rfl ?_
      refine j_get (ci := 9) 1 (.ref 4) jC_9 dX10_quarrel_69 kg_RX10_19 rfl (okX_1 _) (shX_1 _) (fvX_1_1 _) ?_
      refine j_iload_n 0 dX10_quarrel_72 rfl rfl ?_
      refine j_iconst (v := 0) dX10_quarrel_73 (by decide) ?_
      replace h := bC_inv h
      obtain ⟨r13, cr13, h⟩ := h
      refine j_callV (ci := 0) (st1 := .int r13 :: _) (c_X0_holder g cr13) jy_X0_holder ki_yX0_holder ks_yX0_holder kl_RX10_201 dX10_quarrel_74 rfl (okX_4 _) (shX_4 _) rfl rfl rfl rfl (jbr _) (jbr _) hn.1 hn.2 (Or.inr rfl) rfl ?_
      replace h := Option.some.inj h
      subst h
      obtain ⟨hr1, hr2⟩ := hr _ hK
      exact j_iret dX10_quarrel_77 hr1 hr2
    replace h := jif_f hc12 h
    by_cases hc14 : x2 = 1
    · replace h := jif_t hc14 h
      refine j_tblIn 78 dX10_quarrel_25 (by rw [hc14]; decide) (by rw [hc14]; decide) (by rw [hc14]; rfl) (by decide) ?_
      refine j_aload_n 1 dX10_quarrel_78 rfl rfl ?_
      refine j_get (ci := 9) 1 (.ref 4) jC_9 dX10_quarrel_79 kg_RX10_19 rfl (okX_1 _) (shX_1 _) (fvX_1_1 _) ?_
      refine j_iload_n 0 dX10_quarrel_82 rfl rfl ?_
      refine j_iconst (v := 1) dX10_quarrel_83 (by decide) ?_
      replace h := bC_inv h
      obtain ⟨r15, cr15, h⟩ := h
      refine j_callV (ci := 0) (st1 := .int r15 :: _) (c_X0_holder g cr15) jy_X0_holder ki_yX0_holder ks_yX0_holder kl_RX10_201 dX10_quarrel_84 rfl (okX_4 _) (shX_4 _) rfl rfl rfl rfl (jbr _) (jbr _) hn.1 hn.2 (Or.inr rfl) rfl ?_
      replace h := Option.some.inj h
      subst h
      obtain ⟨hr1, hr2⟩ := hr _ hK
      exact j_iret dX10_quarrel_87 hr1 hr2
    replace h := jif_f hc14 h
    by_cases hc16 : x2 = 2
    · replace h := jif_t hc16 h
      refine j_tblIn 88 dX10_quarrel_25 (by rw [hc16]; decide) (by rw [hc16]; decide) (by rw [hc16]; rfl) (by decide) ?_
      refine j_iload_n 0 dX10_quarrel_88 rfl rfl ?_
      refine j_iconst (v := 1) dX10_quarrel_89 (by decide) ?_
      refine j_iand dX10_quarrel_90 ?_
      replace h := Option.some.inj h
      subst h
      obtain ⟨hr1, hr2⟩ := hr _ hK
      exact j_iret dX10_quarrel_91 hr1 hr2
    replace h := jif_f hc16 h
    by_cases hc17 : x2 = 3
    · replace h := jif_t hc17 h
      refine j_tblIn 92 dX10_quarrel_25 (by rw [hc17]; decide) (by rw [hc17]; decide) (by rw [hc17]; rfl) (by decide) ?_
      refine j_aload_n 1 dX10_quarrel_92 rfl rfl ?_
      refine j_get (ci := 9) 1 (.ref 4) jC_9 dX10_quarrel_93 kg_RX10_19 rfl (okX_1 _) (shX_1 _) (fvX_1_1 _) ?_
      refine j_iload_n 0 dX10_quarrel_96 rfl rfl ?_
      refine j_iconst (v := 0) dX10_quarrel_97 (by decide) ?_
      replace h := bC_inv h
      obtain ⟨r18, cr18, h⟩ := h
      refine j_callV (ci := 0) (st1 := .int r18 :: _) (c_X0_fromWhom g cr18) jy_X0_fromWhom ki_yX0_fromWhom ks_yX0_fromWhom kl_RX10_205 dX10_quarrel_98 rfl (okX_4 _) (shX_4 _) rfl rfl rfl rfl (jbr _) (jbr _) hn.1 hn.2 (Or.inr rfl) rfl ?_
      replace h := Option.some.inj h
      subst h
      obtain ⟨hr1, hr2⟩ := hr _ hK
      exact j_iret dX10_quarrel_101 hr1 hr2
    replace h := jif_f hc17 h
    by_cases hc19 : x2 = 4
    · replace h := jif_t hc19 h
      refine j_tblIn 102 dX10_quarrel_25 (by rw [hc19]; decide) (by rw [hc19]; decide) (by rw [hc19]; rfl) (by decide) ?_
      refine j_aload_n 1 dX10_quarrel_102 rfl rfl ?_
      refine j_get (ci := 9) 1 (.ref 4) jC_9 dX10_quarrel_103 kg_RX10_19 rfl (okX_1 _) (shX_1 _) (fvX_1_1 _) ?_
      refine j_iload_n 0 dX10_quarrel_106 rfl rfl ?_
      refine j_iconst (v := 1) dX10_quarrel_107 (by decide) ?_
      replace h := bC_inv h
      obtain ⟨r20, cr20, h⟩ := h
      refine j_callV (ci := 0) (st1 := .int r20 :: _) (c_X0_fromWhom g cr20) jy_X0_fromWhom ki_yX0_fromWhom ks_yX0_fromWhom kl_RX10_205 dX10_quarrel_108 rfl (okX_4 _) (shX_4 _) rfl rfl rfl rfl (jbr _) (jbr _) hn.1 hn.2 (Or.inr rfl) rfl ?_
      replace h := Option.some.inj h
      subst h
      obtain ⟨hr1, hr2⟩ := hr _ hK
      exact j_iret dX10_quarrel_111 hr1 hr2
    replace h := jif_f hc19 h
    by_cases hc21 : x2 = 5
    · replace h := jif_t hc21 h
      refine j_tblIn 112 dX10_quarrel_25 (by rw [hc21]; decide) (by rw [hc21]; decide) (by rw [hc21]; rfl) (by decide) ?_
      refine j_aload_n 1 dX10_quarrel_112 rfl rfl ?_
      refine j_get (ci := 9) 1 (.ref 4) jC_9 dX10_quarrel_113 kg_RX10_19 rfl (okX_1 _) (shX_1 _) (fvX_1_1 _) ?_
      refine j_iload_n 0 dX10_quarrel_116 rfl rfl ?_
      replace h := bC_inv h
      obtain ⟨r22, cr22, h⟩ := h
      refine j_callV (ci := 0) (st1 := .int r22 :: _) (c_X0_howIs g cr22) jy_X0_howIs ki_yX0_howIs ks_yX0_howIs kl_RX10_208 dX10_quarrel_117 rfl (okX_4 _) (shX_4 _) rfl rfl rfl rfl (jbr _) (jbr _) hn.1 hn.2 (Or.inr rfl) rfl ?_
      replace h := Option.some.inj h
      subst h
      obtain ⟨hr1, hr2⟩ := hr _ hK
      exact j_iret dX10_quarrel_120 hr1 hr2
    replace h := jif_f hc21 h
    by_cases hc23 : x2 = 6
    · replace h := jif_t hc23 h
      refine j_tblIn 121 dX10_quarrel_25 (by rw [hc23]; decide) (by rw [hc23]; decide) (by rw [hc23]; rfl) (by decide) ?_
      refine j_aload_n 1 dX10_quarrel_121 rfl rfl ?_
      refine j_get (ci := 9) 5 (.ref 29) jC_9 dX10_quarrel_122 kg_RX10_47 rfl (okX_1 _) (shX_1 _) (fvX_1_5 _) ?_
      refine j_get (ci := 6) 1 (.ref 31) jC_6 dX10_quarrel_125 kg_RX10_108 rfl (okX_29 _) (shX_29 _) (fvX_29_1 _) ?_
      refine j_iload_n 2 dX10_quarrel_128 rfl rfl ?_
      replace h := bC_inv h
      obtain ⟨r24, cr24, h⟩ := h
      refine j_callS (st1 := .int r24 :: _) (c_X6_at g cr24) jy_X6_at kt_yX6_at kl_RX10_150 dX10_quarrel_129 rfl rfl rfl rfl (jbr _) (jbr _) hn.1 hn.2 (Or.inr rfl) rfl ?_
      replace h := Option.some.inj h
      subst h
      obtain ⟨hr1, hr2⟩ := hr _ hK
      exact j_iret dX10_quarrel_132 hr1 hr2
    replace h := jif_f hc23 h
    refine j_tblOut 133 dX10_quarrel_25 (jsw_out (by decide) (by decide) (fun q h1 h2 => ?_)) (by decide) ?_
    · clear h; match q, h1, h2 with
      | 0, _, _ => exact hc12
      | 1, _, _ => exact hc14
      | 2, _, _ => exact hc16
      | 3, _, _ => exact hc17
      | 4, _, _ => exact hc19
      | 5, _, _ => exact hc21
      | 6, _, _ => exact hc23
    · skip
      refine j_sipush (v := (-1002)) dX10_quarrel_133 (by decide) ?_
      replace h := Option.some.inj h
      subst h
      obtain ⟨hr1, hr2⟩ := hr _ hK
      exact j_iret dX10_quarrel_136 hr1 hr2
  · replace h := jif_t hc10 h
    refine j_sipush (v := (-1001)) dX10_quarrel_8 (by decide) ?_
    replace h := Option.some.inj h
    subst h
    obtain ⟨hr1, hr2⟩ := hr _ hK
    exact j_iret dX10_quarrel_11 hr1 hr2
theorem c_X10_quarrel (g : Bool) {σ : jS} {x1 : Int32} {x2 : Int32} {r : Int32} (h : f_X10_quarrel σ x1 x2 = some r) : Cn yX10_quarrel cX10_quarrel 4 (some .int) 4 g [.ref 1, .int x1, .int x2] (eX σ) (some (.int r)) (eX σ) :=
  Cn_of (by decide) (Nat.le_refl _) (Nat.le_refl _) (Nat.le_of_ble_eq_true rfl) (f_X10_quarrel_ok (Kp := (fun o => o = r)) σ x1 x2 ⟨jbr _, jbr _⟩ (fun r2 q => by cases q; exact ⟨rfl, rfl⟩) _ h rfl)
def f_J13_bitCount_95d88 (x0 : Int64) : Option Int32 :=
  bV (x0 - (((x0.toUInt64 >>> ((1 : Int32).toInt64.toUInt64 &&& Int64.toUInt64 63)).toInt64) &&& (6148914691236517205 : Int64))) fun v1 =>
  bV ((v1 &&& (3689348814741910323 : Int64)) + (((v1.toUInt64 >>> ((2 : Int32).toInt64.toUInt64 &&& Int64.toUInt64 63)).toInt64) &&& (3689348814741910323 : Int64))) fun v2 =>
  bV ((v2 + ((v2.toUInt64 >>> ((4 : Int32).toInt64.toUInt64 &&& Int64.toUInt64 63)).toInt64)) &&& (1085102592571150095 : Int64)) fun v3 =>
  bV (v3 + ((v3.toUInt64 >>> ((8 : Int32).toInt64.toUInt64 &&& Int64.toUInt64 63)).toInt64)) fun v4 =>
  bV (v4 + ((v4.toUInt64 >>> ((16 : Int32).toInt64.toUInt64 &&& Int64.toUInt64 63)).toInt64)) fun v5 =>
  bV (v5 + ((v5.toUInt64 >>> ((32 : Int32).toInt64.toUInt64 &&& Int64.toUInt64 63)).toInt64)) fun v6 =>
  some (((v6.toInt32) &&& (127 : Int32)))
set_option maxHeartbeats 1000000 in
set_option maxRecDepth 20000 in
theorem f_J13_bitCount_95d88_ok {g : Bool} {rv : Option Value} {μ' : jM} (x0 : Int64) (μ : jM) {Kp : Int32 → Prop} (hn : Nat.ble μ.1 μ'.1 = true ∧ Nat.ble μ.2.1 μ'.2.1 = true) (hr : ∀ r : Int32, Kp (r) → rv = some (.int r) ∧ μ' = μ) (o : Int32) (h : f_J13_bitCount_95d88 x0 = some o) (hK : Kp o) : J yJ13_bitCount_95d88 cJ13_bitCount_95d88 2 (some .int) 1 g rv μ' 0 [(0, .long x0)] [] μ := by
  unfold f_J13_bitCount_95d88 at h
  refine j_lload_n 0 dJ13_bitCount_95d88_0 rfl rfl ?_
  refine j_lload_n 0 dJ13_bitCount_95d88_1 rfl rfl ?_
  refine j_iconst (v := 1) dJ13_bitCount_95d88_2 (by decide) ?_
  refine j_lushr dJ13_bitCount_95d88_3 ?_
  refine j_ldc2 (v := 6148914691236517205) kk_RJ13_314 dJ13_bitCount_95d88_4 ?_
  refine j_land dJ13_bitCount_95d88_7 ?_
  refine j_lsub dJ13_bitCount_95d88_8 ?_
  replace h := bV_inv h
  obtain ⟨v7, ev7, h⟩ := h
  refine j_nml ev7 ?_
  refine j_lstore_n [(0, .long v7)] dJ13_bitCount_95d88_9 rfl (Nat.le_of_ble_eq_true rfl) rfl ?_
  refine j_lload_n 0 dJ13_bitCount_95d88_10 rfl rfl ?_
  refine j_ldc2 (v := 3689348814741910323) kk_RJ13_316 dJ13_bitCount_95d88_11 ?_
  refine j_land dJ13_bitCount_95d88_14 ?_
  refine j_lload_n 0 dJ13_bitCount_95d88_15 rfl rfl ?_
  refine j_iconst (v := 2) dJ13_bitCount_95d88_16 (by decide) ?_
  refine j_lushr dJ13_bitCount_95d88_17 ?_
  refine j_ldc2 (v := 3689348814741910323) kk_RJ13_316 dJ13_bitCount_95d88_18 ?_
  refine j_land dJ13_bitCount_95d88_21 ?_
  refine j_ladd dJ13_bitCount_95d88_22 ?_
  replace h := bV_inv h
  obtain ⟨v8, ev8, h⟩ := h
  refine j_nml ev8 ?_
  refine j_lstore_n [(0, .long v8)] dJ13_bitCount_95d88_23 rfl (Nat.le_of_ble_eq_true rfl) rfl ?_
  refine j_lload_n 0 dJ13_bitCount_95d88_24 rfl rfl ?_
  refine j_lload_n 0 dJ13_bitCount_95d88_25 rfl rfl ?_
  refine j_iconst (v := 4) dJ13_bitCount_95d88_26 (by decide) ?_
  refine j_lushr dJ13_bitCount_95d88_27 ?_
  refine j_ladd dJ13_bitCount_95d88_28 ?_
  refine j_ldc2 (v := 1085102592571150095) kk_RJ13_318 dJ13_bitCount_95d88_29 ?_
  refine j_land dJ13_bitCount_95d88_32 ?_
  replace h := bV_inv h
  obtain ⟨v9, ev9, h⟩ := h
  refine j_nml ev9 ?_
  refine j_lstore_n [(0, .long v9)] dJ13_bitCount_95d88_33 rfl (Nat.le_of_ble_eq_true rfl) rfl ?_
  refine j_lload_n 0 dJ13_bitCount_95d88_34 rfl rfl ?_
  refine j_lload_n 0 dJ13_bitCount_95d88_35 rfl rfl ?_
  refine j_bipush (v := 8) dJ13_bitCount_95d88_36 (by decide) ?_
  refine j_lushr dJ13_bitCount_95d88_38 ?_
  refine j_ladd dJ13_bitCount_95d88_39 ?_
  replace h := bV_inv h
  obtain ⟨v10, ev10, h⟩ := h
  refine j_nml ev10 ?_
  refine j_lstore_n [(0, .long v10)] dJ13_bitCount_95d88_40 rfl (Nat.le_of_ble_eq_true rfl) rfl ?_
  refine j_lload_n 0 dJ13_bitCount_95d88_41 rfl rfl ?_
  refine j_lload_n 0 dJ13_bitCount_95d88_42 rfl rfl ?_
  refine j_bipush (v := 16) dJ13_bitCount_95d88_43 (by decide) ?_
  refine j_lushr dJ13_bitCount_95d88_45 ?_
  refine j_ladd dJ13_bitCount_95d88_46 ?_
  replace h := bV_inv h
  obtain ⟨v11, ev11, h⟩ := h
  refine j_nml ev11 ?_
  refine j_lstore_n [(0, .long v11)] dJ13_bitCount_95d88_47 rfl (Nat.le_of_ble_eq_true rfl) rfl ?_
  refine j_lload_n 0 dJ13_bitCount_95d88_48 rfl rfl ?_
  refine j_lload_n 0 dJ13_bitCount_95d88_49 rfl rfl ?_
  refine j_bipush (v := 32) dJ13_bitCount_95d88_50 (by decide) ?_
  refine j_lushr dJ13_bitCount_95d88_52 ?_
  refine j_ladd dJ13_bitCount_95d88_53 ?_
  replace h := bV_inv h
  obtain ⟨v12, ev12, h⟩ := h
  refine j_nml ev12 ?_
  refine j_lstore_n [(0, .long v12)] dJ13_bitCount_95d88_54 rfl (Nat.le_of_ble_eq_true rfl) rfl ?_
  refine j_lload_n 0 dJ13_bitCount_95d88_55 rfl rfl ?_
  refine j_l2i dJ13_bitCount_95d88_56 ?_
  refine j_bipush (v := 127) dJ13_bitCount_95d88_57 (by decide) ?_
  refine j_iand dJ13_bitCount_95d88_59 ?_
  replace h := Option.some.inj h
  subst h
  obtain ⟨hr1, hr2⟩ := hr _ hK
  exact j_iret dJ13_bitCount_95d88_60 hr1 hr2
theorem c_J13_bitCount_95d88 (g : Bool) (μ : jM) {x0 : Int64} {r : Int32} (h : f_J13_bitCount_95d88 x0 = some r) : Cn yJ13_bitCount_95d88 cJ13_bitCount_95d88 2 (some .int) 1 g [.long x0] μ (some (.int r)) μ :=
  Cn_of (by decide) (Nat.le_refl _) (Nat.le_refl _) (Nat.le_of_ble_eq_true rfl) (f_J13_bitCount_95d88_ok (Kp := (fun o => o = r)) x0 μ ⟨jbr _, jbr _⟩ (fun r2 q => by cases q; exact ⟨rfl, rfl⟩) _ h rfl)
def f_X6_lowest (x0 : Int64) : Option Int32 :=
  bC (f_J13_bitCount_95d88 ((x0 &&& (-x0)) - (1 : Int64))) fun r1 =>
  some (r1)
set_option maxHeartbeats 1000000 in
set_option maxRecDepth 20000 in
theorem f_X6_lowest_ok {g : Bool} {rv : Option Value} {μ' : jM} (x0 : Int64) (μ : jM) {Kp : Int32 → Prop} (hn : Nat.ble μ.1 μ'.1 = true ∧ Nat.ble μ.2.1 μ'.2.1 = true) (hr : ∀ r : Int32, Kp (r) → rv = some (.int r) ∧ μ' = μ) (o : Int32) (h : f_X6_lowest x0 = some o) (hK : Kp o) : J yX6_lowest cX6_lowest 2 (some .int) 2 g rv μ' 0 [(0, .long x0)] [] μ := by
  unfold f_X6_lowest at h
  refine j_lload_n 0 dX6_lowest_0 rfl rfl ?_
  refine j_lload_n 0 dX6_lowest_1 rfl rfl ?_
  refine j_lneg dX6_lowest_2 ?_
  refine j_land dX6_lowest_3 ?_
  refine j_lconst (v := 1) dX6_lowest_4 (by decide) ?_
  refine j_lsub dX6_lowest_5 ?_
  replace h := bC_inv h
  obtain ⟨r2, cr2, h⟩ := h
  refine j_callS (st1 := .int r2 :: _) (c_J13_bitCount_95d88 g _ cr2) jy_J13_bitCount_95d88 kt_yJ13_bitCount_95d88 kl_RX6_17 dX6_lowest_6 rfl rfl rfl rfl (jbr _) (jbr _) hn.1 hn.2 (Or.inr rfl) rfl ?_
  replace h := Option.some.inj h
  subst h
  obtain ⟨hr1, hr2⟩ := hr _ hK
  exact j_iret dX6_lowest_9 hr1 hr2
theorem c_X6_lowest (g : Bool) (μ : jM) {x0 : Int64} {r : Int32} (h : f_X6_lowest x0 = some r) : Cn yX6_lowest cX6_lowest 2 (some .int) 2 g [.long x0] μ (some (.int r)) μ :=
  Cn_of (by decide) (Nat.le_refl _) (Nat.le_refl _) (Nat.le_of_ble_eq_true rfl) (f_X6_lowest_ok (Kp := (fun o => o = r)) x0 μ ⟨jbr _, jbr _⟩ (fun r2 q => by cases q; exact ⟨rfl, rfl⟩) _ h rfl)
def f_X0_allowed_J60 (σ : jS) (x2 : Int32) : Option Int32 :=
  some (x2)
set_option maxHeartbeats 1000000 in
set_option maxRecDepth 20000 in
theorem f_X0_allowed_J60_ok {g : Bool} {rv : Option Value} {μ' : jM} (σ : jS) (x2 : Int32) {Kp : Int32 → Prop} (hn : Nat.ble nX μ'.1 = true ∧ Nat.ble wX μ'.2.1 = true) (hr : ∀ r : Int32, Kp (r) → rv = some (.int r) ∧ μ' = (eX σ)) (o : Int32) (h : f_X0_allowed_J60 σ x2 = some o) (hK : Kp o) : J yX0_allowed cX0_allowed 6 (some .int) 3 g rv μ' 60 [(2, .int x2)] [] (eX σ) := by
  unfold f_X0_allowed_J60 at h
  refine j_iload_n 0 dX0_allowed_60 rfl rfl ?_
  replace h := Option.some.inj h
  subst h
  obtain ⟨hr1, hr2⟩ := hr _ hK
  exact j_iret dX0_allowed_61 hr1 hr2
def f_X0_allowed_B24 (σ : jS) (x2 : Int32) (x3 : Int64) (x5 : Int32) : Option ((Int32 × Int64 × Int32) ⊕ Int32) :=
  if x5 ≤ 0 then (jw (f_X0_allowed_J60 σ x2))
  else (bC (f_X6_lowest x3) fun r4 =>
  bC (f_X6_at σ 6 r4) fun r5 =>
  bV (x2 ||| ((1 : Int32) <<< (r5 &&& 31))) fun v6 =>
  bV (x3 &&& (x3 - (1 : Int64))) fun v7 =>
  bV (x5 + (-1)) fun v8 =>
  some (.inl (v6, v7, v8)))
set_option maxHeartbeats 1000000 in
set_option maxRecDepth 20000 in
theorem f_X0_allowed_B24_ok {g : Bool} {rv : Option Value} {μ' : jM} (σ : jS) (x2 : Int32) (x3 : Int64) (x5 : Int32) {Kp : ((Int32 × Int64 × Int32) ⊕ Int32) → Prop} (hn : Nat.ble nX μ'.1 = true ∧ Nat.ble wX μ'.2.1 = true) (hr : ∀ r : Int32, Kp (.inr (r)) → rv = some (.int r) ∧ μ' = (eX σ)) (hc0 : ∀ s : (Int32 × Int64 × Int32), Kp (.inl s) → J yX0_allowed cX0_allowed 6 (some .int) 3 g rv μ' 24 [(0, .ref 4), (2, .int s.1), (3, .long s.2.1), (5, .int s.2.2)] [] (eX σ)) (o : ((Int32 × Int64 × Int32) ⊕ Int32)) (h : f_X0_allowed_B24 σ x2 x3 x5 = some o) (hK : Kp o) : J yX0_allowed cX0_allowed 6 (some .int) 3 g rv μ' 24 [(0, .ref 4), (2, .int x2), (3, .long x3), (5, .int x5)] [] (eX σ) := by
  unfold f_X0_allowed_B24 at h
  refine j_iload 3 dX0_allowed_24 rfl ?_
  refine j_if_le 60 dX0_allowed_26 (by decide) (fun hc9 => ?_) (fun hc9 => ?_)
  · replace h := jif_t hc9 h
    replace h := jw_inv h
    obtain ⟨o10, rfl, h⟩ := h
    refine j_sub [(2, .int x2)] [1] rfl ?_
    exact f_X0_allowed_J60_ok (Kp := fun o => Kp (.inr (o))) σ x2 hn (fun r q => hr r q) _ h hK
  · replace h := jif_f hc9 h
    refine j_iload_n 1 dX0_allowed_29 rfl rfl ?_
    refine j_iconst (v := 1) dX0_allowed_30 (by decide) ?_
    refine j_aload_n 0 dX0_allowed_31 rfl rfl ?_
    refine j_get (ci := 0) 0 (.ref 5) jC_0 dX0_allowed_32 kg_RX0_12 rfl (okX_4 _) (shX_4 _) (fvX_4_0 _) ?_
    refine j_get (ci := 8) 0 (.ref 6) jC_8 dX0_allowed_35 kg_RX0_54 rfl (okX_5 _) (shX_5 _) (fvX_5_0 _) ?_
    refine j_lload_n 2 dX0_allowed_38 rfl rfl ?_
    replace h := bC_inv h
    obtain ⟨r11, cr11, h⟩ := h
    refine j_callS (st1 := .int r11 :: _) (c_X6_lowest g _ cr11) jy_X6_lowest kt_yX6_lowest kl_RX0_98 dX0_allowed_39 rfl rfl rfl rfl (jbr _) (jbr _) hn.1 hn.2 (Or.inr rfl) rfl ?_
    replace h := bC_inv h
    obtain ⟨r12, cr12, h⟩ := h
    refine j_callS (st1 := .int r12 :: _) (c_X6_at g cr12) jy_X6_at kt_yX6_at kl_RX0_61 dX0_allowed_42 rfl rfl rfl rfl (jbr _) (jbr _) hn.1 hn.2 (Or.inr rfl) rfl ?_
    refine j_ishl dX0_allowed_45 ?_
    refine j_ior dX0_allowed_46 ?_
    replace h := bV_inv h
    obtain ⟨v13, ev13, h⟩ := h
    refine j_nmi ev13 ?_
    refine j_istore_n [(2, .int v13), (0, .ref 4), (3, .long x3), (5, .int x5)] dX0_allowed_47 rfl (Nat.le_of_ble_eq_true rfl) rfl ?_
    refine j_lload_n 2 dX0_allowed_48 rfl rfl ?_
    refine j_lload_n 2 dX0_allowed_49 rfl rfl ?_
    refine j_lconst (v := 1) dX0_allowed_50 (by decide) ?_
    refine j_lsub dX0_allowed_51 ?_
    refine j_land dX0_allowed_52 ?_
    replace h := bV_inv h
    obtain ⟨v14, ev14, h⟩ := h
    refine j_nml ev14 ?_
    refine j_lstore_n [(3, .long v14), (2, .int v13), (0, .ref 4), (5, .int x5)] dX0_allowed_53 rfl (Nat.le_of_ble_eq_true rfl) rfl ?_
    replace h := bV_inv h
    obtain ⟨v15, ev15, h⟩ := h
    refine j_iinc (v := v15) [(5, .int v15), (3, .long v14), (2, .int v13), (0, .ref 4)] 3 dX0_allowed_54 rfl (by rw [ev15]; rfl) (Nat.le_of_ble_eq_true rfl) rfl ?_
    refine j_goto 24 dX0_allowed_57 (by decide) ?_
    replace h := Option.some.inj h
    subst h
    refine j_sub [(0, .ref 4), (2, .int v13), (3, .long v14), (5, .int v15)] [3, 2, 1, 0] rfl ?_
    exact hc0 _ hK
def f_X0_allowed (σ : jS) (x1 : Int32) : Option Int32 :=
  bC (f_X0_isEnded σ x1) fun r1 =>
  if r1 = 0 then (bC (f_X0_onwardOf σ x1) fun r2 =>
  bC (f_J13_bitCount_95d88 r2) fun r3 =>
  jloop jFuel (fun s => f_X0_allowed_B24 σ s.1 s.2.1 s.2.2) (0, r2, r3))
  else (some (0))
set_option maxHeartbeats 1000000 in
set_option maxRecDepth 20000 in
theorem f_X0_allowed_ok {g : Bool} {rv : Option Value} {μ' : jM} (σ : jS) (x1 : Int32) {Kp : Int32 → Prop} (hn : Nat.ble nX μ'.1 = true ∧ Nat.ble wX μ'.2.1 = true) (hr : ∀ r : Int32, Kp (r) → rv = some (.int r) ∧ μ' = (eX σ)) (o : Int32) (h : f_X0_allowed σ x1 = some o) (hK : Kp o) : J yX0_allowed cX0_allowed 6 (some .int) 3 g rv μ' 0 [(0, .ref 4), (1, .int x1)] [] (eX σ) := by
  unfold f_X0_allowed at h
  refine j_aload_n 0 dX0_allowed_0 rfl rfl ?_
  refine j_iload_n 1 dX0_allowed_1 rfl rfl ?_
  replace h := bC_inv h
  obtain ⟨r16, cr16, h⟩ := h
  refine j_callV (ci := 0) (st1 := .int r16 :: _) (c_X0_isEnded g cr16) jy_X0_isEnded ki_yX0_isEnded ks_yX0_isEnded kl_RX0_68 dX0_allowed_2 rfl (okX_4 _) (shX_4 _) rfl rfl rfl rfl (jbr _) (jbr _) hn.1 hn.2 (Or.inr rfl) rfl ?_
  refine j_if_eq 10 dX0_allowed_5 (by decide) (fun hc17 => ?_) (fun hc17 => ?_)
  · replace h := jif_t hc17 h
    refine j_iconst (v := 0) dX0_allowed_10 (by decide) ?_
    refine j_istore_n [(2, .int 0), (0, .ref 4), (1, .int x1)] dX0_allowed_11 rfl (Nat.le_of_ble_eq_true rfl) rfl ?_
    refine j_aload_n 1 dX0_allowed_12 rfl rfl ?_
    refine j_iload_n 2 dX0_allowed_13 rfl rfl ?_
    replace h := bC_inv h
    obtain ⟨r18, cr18, h⟩ := h
    refine j_callV (ci := 0) (st1 := .long r18 :: _) (c_X0_onwardOf g cr18) jy_X0_onwardOf ki_yX0_onwardOf ks_yX0_onwardOf kl_RX0_72 dX0_allowed_14 rfl (okX_4 _) (shX_4 _) rfl rfl rfl rfl (jbr _) (jbr _) hn.1 hn.2 (Or.inr rfl) rfl ?_
    refine j_lstore_n [(3, .long r18), (2, .int 0), (0, .ref 4), (1, .int x1)] dX0_allowed_17 rfl (Nat.le_of_ble_eq_true rfl) rfl ?_
    refine j_lload_n 0 dX0_allowed_18 rfl rfl ?_
    replace h := bC_inv h
    obtain ⟨r19, cr19, h⟩ := h
    refine j_callS (st1 := .int r19 :: _) (c_J13_bitCount_95d88 g _ cr19) jy_J13_bitCount_95d88 kt_yJ13_bitCount_95d88 kl_RX0_92 dX0_allowed_19 rfl rfl rfl rfl (jbr _) (jbr _) hn.1 hn.2 (Or.inr rfl) rfl ?_
    refine j_istore [(5, .int r19), (3, .long r18), (2, .int 0), (0, .ref 4), (1, .int x1)] dX0_allowed_22 (Nat.le_of_ble_eq_true rfl) rfl ?_
    refine j_sub [(0, .ref 4), (2, .int 0), (3, .long r18), (5, .int r19)] [3, 2, 1, 0] rfl ?_
    exact jloop_ok (fun s => f_X0_allowed_B24 σ s.1 s.2.1 s.2.2) (fun s => J yX0_allowed cX0_allowed 6 (some .int) 3 g rv μ' 24 [(0, .ref 4), (2, .int s.1), (3, .long s.2.1), (5, .int s.2.2)] [] (eX σ)) Kp (fun s o hb hk => f_X0_allowed_B24_ok (Kp := jsum (fun s => J yX0_allowed cX0_allowed 6 (some .int) 3 g rv μ' 24 [(0, .ref 4), (2, .int s.1), (3, .long s.2.1), (5, .int s.2.2)] [] (eX σ)) Kp) σ s.1 s.2.1 s.2.2 hn (fun r q => hr r q) (fun s q => q) o hb hk) jFuel _ _ h hK
  · replace h := jif_f hc17 h
    refine j_iconst (v := 0) dX0_allowed_8 (by decide) ?_
    replace h := Option.some.inj h
    subst h
    obtain ⟨hr1, hr2⟩ := hr _ hK
    exact j_iret dX0_allowed_9 hr1 hr2
theorem c_X0_allowed (g : Bool) {σ : jS} {x1 : Int32} {r : Int32} (h : f_X0_allowed σ x1 = some r) : Cn yX0_allowed cX0_allowed 6 (some .int) 3 g [.ref 4, .int x1] (eX σ) (some (.int r)) (eX σ) :=
  Cn_of (by decide) (Nat.le_refl _) (Nat.le_refl _) (Nat.le_of_ble_eq_true rfl) (f_X0_allowed_ok (Kp := (fun o => o = r)) σ x1 ⟨jbr _, jbr _⟩ (fun r2 q => by cases q; exact ⟨rfl, rfl⟩) _ h rfl)
def f_X10_may (σ : jS) (x1 : Int32) : Option Int32 :=
  bC (f_X10_isQuarrel σ x1) fun r1 =>
  if r1 = 0 then (some ((-1001)))
  else (bC (f_X6_at σ 30 x1) fun r2 =>
  bC (f_X0_allowed σ r2) fun r3 =>
  some (r3))
set_option maxHeartbeats 1000000 in
set_option maxRecDepth 20000 in
theorem f_X10_may_ok {g : Bool} {rv : Option Value} {μ' : jM} (σ : jS) (x1 : Int32) {Kp : Int32 → Prop} (hn : Nat.ble nX μ'.1 = true ∧ Nat.ble wX μ'.2.1 = true) (hr : ∀ r : Int32, Kp (r) → rv = some (.int r) ∧ μ' = (eX σ)) (o : Int32) (h : f_X10_may σ x1 = some o) (hK : Kp o) : J yX10_may cX10_may 2 (some .int) 4 g rv μ' 0 [(0, .ref 1), (1, .int x1)] [] (eX σ) := by
  unfold f_X10_may at h
  refine j_aload_n 0 dX10_may_0 rfl rfl ?_
  refine j_iload_n 1 dX10_may_1 rfl rfl ?_
  replace h := bC_inv h
  obtain ⟨r4, cr4, h⟩ := h
  refine j_callV (ci := 9) (st1 := .int r4 :: _) (c_X10_isQuarrel g cr4) jy_X10_isQuarrel ki_yX10_isQuarrel ks_yX10_isQuarrel kl_RX10_198 dX10_may_2 rfl (okX_1 _) (shX_1 _) rfl rfl rfl rfl (jbr _) (jbr _) hn.1 hn.2 (Or.inr rfl) rfl ?_
  refine j_if_ne 12 dX10_may_5 (by decide) (fun hc5 => ?_) (fun hc5 => ?_)
  · replace h := jif_f hc5 h
    refine j_aload_n 0 dX10_may_12 rfl rfl ?_
    refine j_get (ci := 9) 1 (.ref 4) jC_9 dX10_may_13 kg_RX10_19 rfl (okX_1 _) (shX_1 _) (fvX_1_1 _) ?_
    refine j_aload_n 0 dX10_may_16 rfl rfl ?_
    refine j_get (ci := 9) 5 (.ref 29) jC_9 dX10_may_17 kg_RX10_47 rfl (okX_1 _) (shX_1 _) (fvX_1_5 _) ?_
    refine j_get (ci := 6) 0 (.ref 30) jC_6 dX10_may_20 kg_RX10_94 rfl (okX_29 _) (shX_29 _) (fvX_29_0 _) ?_
    refine j_iload_n 1 dX10_may_23 rfl rfl ?_
    replace h := bC_inv h
    obtain ⟨r6, cr6, h⟩ := h
    refine j_callS (st1 := .int r6 :: _) (c_X6_at g cr6) jy_X6_at kt_yX6_at kl_RX10_150 dX10_may_24 rfl rfl rfl rfl (jbr _) (jbr _) hn.1 hn.2 (Or.inr rfl) rfl ?_
    replace h := bC_inv h
    obtain ⟨r7, cr7, h⟩ := h
    refine j_callV (ci := 0) (st1 := .int r7 :: _) (c_X0_allowed g cr7) jy_X0_allowed ki_yX0_allowed ks_yX0_allowed kl_RX10_211 dX10_may_27 rfl (okX_4 _) (shX_4 _) rfl rfl rfl rfl (jbr _) (jbr _) hn.1 hn.2 (Or.inr rfl) rfl ?_
    replace h := Option.some.inj h
    subst h
    obtain ⟨hr1, hr2⟩ := hr _ hK
    exact j_iret dX10_may_30 hr1 hr2
  · replace h := jif_t hc5 h
    refine j_sipush (v := (-1001)) dX10_may_8 (by decide) ?_
    replace h := Option.some.inj h
    subst h
    obtain ⟨hr1, hr2⟩ := hr _ hK
    exact j_iret dX10_may_11 hr1 hr2
theorem c_X10_may (g : Bool) {σ : jS} {x1 : Int32} {r : Int32} (h : f_X10_may σ x1 = some r) : Cn yX10_may cX10_may 2 (some .int) 4 g [.ref 1, .int x1] (eX σ) (some (.int r)) (eX σ) :=
  Cn_of (by decide) (Nat.le_refl _) (Nat.le_refl _) (Nat.le_of_ble_eq_true rfl) (f_X10_may_ok (Kp := (fun o => o = r)) σ x1 ⟨jbr _, jbr _⟩ (fun r2 q => by cases q; exact ⟨rfl, rfl⟩) _ h rfl)
def f_J6_bitCount_0f7a4 (x0 : Int32) : Option Int32 :=
  bV (x0 - (((x0.toUInt32 >>> ((1 : Int32).toUInt32 &&& Int32.toUInt32 31)).toInt32) &&& (1431655765 : Int32))) fun v1 =>
  bV ((v1 &&& (858993459 : Int32)) + (((v1.toUInt32 >>> ((2 : Int32).toUInt32 &&& Int32.toUInt32 31)).toInt32) &&& (858993459 : Int32))) fun v2 =>
  bV ((v2 + ((v2.toUInt32 >>> ((4 : Int32).toUInt32 &&& Int32.toUInt32 31)).toInt32)) &&& (252645135 : Int32)) fun v3 =>
  bV (v3 + ((v3.toUInt32 >>> ((8 : Int32).toUInt32 &&& Int32.toUInt32 31)).toInt32)) fun v4 =>
  bV (v4 + ((v4.toUInt32 >>> ((16 : Int32).toUInt32 &&& Int32.toUInt32 31)).toInt32)) fun v5 =>
  some ((v5 &&& (63 : Int32)))
set_option maxHeartbeats 1000000 in
set_option maxRecDepth 20000 in
theorem f_J6_bitCount_0f7a4_ok {g : Bool} {rv : Option Value} {μ' : jM} (x0 : Int32) (μ : jM) {Kp : Int32 → Prop} (hn : Nat.ble μ.1 μ'.1 = true ∧ Nat.ble μ.2.1 μ'.2.1 = true) (hr : ∀ r : Int32, Kp (r) → rv = some (.int r) ∧ μ' = μ) (o : Int32) (h : f_J6_bitCount_0f7a4 x0 = some o) (hK : Kp o) : J yJ6_bitCount_0f7a4 cJ6_bitCount_0f7a4 1 (some .int) 1 g rv μ' 0 [(0, .int x0)] [] μ := by
  unfold f_J6_bitCount_0f7a4 at h
  refine j_iload_n 0 dJ6_bitCount_0f7a4_0 rfl rfl ?_
  refine j_iload_n 0 dJ6_bitCount_0f7a4_1 rfl rfl ?_
  refine j_iconst (v := 1) dJ6_bitCount_0f7a4_2 (by decide) ?_
  refine j_iushr dJ6_bitCount_0f7a4_3 ?_
  refine j_ldcw (v := 1431655765) kk_RJ6_265 dJ6_bitCount_0f7a4_4 ?_
  refine j_iand dJ6_bitCount_0f7a4_7 ?_
  refine j_isub dJ6_bitCount_0f7a4_8 ?_
  replace h := bV_inv h
  obtain ⟨v6, ev6, h⟩ := h
  refine j_nmi ev6 ?_
  refine j_istore_n [(0, .int v6)] dJ6_bitCount_0f7a4_9 rfl (Nat.le_of_ble_eq_true rfl) rfl ?_
  refine j_iload_n 0 dJ6_bitCount_0f7a4_10 rfl rfl ?_
  refine j_ldcw (v := 858993459) kk_RJ6_266 dJ6_bitCount_0f7a4_11 ?_
  refine j_iand dJ6_bitCount_0f7a4_14 ?_
  refine j_iload_n 0 dJ6_bitCount_0f7a4_15 rfl rfl ?_
  refine j_iconst (v := 2) dJ6_bitCount_0f7a4_16 (by decide) ?_
  refine j_iushr dJ6_bitCount_0f7a4_17 ?_
  refine j_ldcw (v := 858993459) kk_RJ6_266 dJ6_bitCount_0f7a4_18 ?_
  refine j_iand dJ6_bitCount_0f7a4_21 ?_
  refine j_iadd dJ6_bitCount_0f7a4_22 ?_
  replace h := bV_inv h
  obtain ⟨v7, ev7, h⟩ := h
  refine j_nmi ev7 ?_
  refine j_istore_n [(0, .int v7)] dJ6_bitCount_0f7a4_23 rfl (Nat.le_of_ble_eq_true rfl) rfl ?_
  refine j_iload_n 0 dJ6_bitCount_0f7a4_24 rfl rfl ?_
  refine j_iload_n 0 dJ6_bitCount_0f7a4_25 rfl rfl ?_
  refine j_iconst (v := 4) dJ6_bitCount_0f7a4_26 (by decide) ?_
  refine j_iushr dJ6_bitCount_0f7a4_27 ?_
  refine j_iadd dJ6_bitCount_0f7a4_28 ?_
  refine j_ldcw (v := 252645135) kk_RJ6_267 dJ6_bitCount_0f7a4_29 ?_
  refine j_iand dJ6_bitCount_0f7a4_32 ?_
  replace h := bV_inv h
  obtain ⟨v8, ev8, h⟩ := h
  refine j_nmi ev8 ?_
  refine j_istore_n [(0, .int v8)] dJ6_bitCount_0f7a4_33 rfl (Nat.le_of_ble_eq_true rfl) rfl ?_
  refine j_iload_n 0 dJ6_bitCount_0f7a4_34 rfl rfl ?_
  refine j_iload_n 0 dJ6_bitCount_0f7a4_35 rfl rfl ?_
  refine j_bipush (v := 8) dJ6_bitCount_0f7a4_36 (by decide) ?_
  refine j_iushr dJ6_bitCount_0f7a4_38 ?_
  refine j_iadd dJ6_bitCount_0f7a4_39 ?_
  replace h := bV_inv h
  obtain ⟨v9, ev9, h⟩ := h
  refine j_nmi ev9 ?_
  refine j_istore_n [(0, .int v9)] dJ6_bitCount_0f7a4_40 rfl (Nat.le_of_ble_eq_true rfl) rfl ?_
  refine j_iload_n 0 dJ6_bitCount_0f7a4_41 rfl rfl ?_
  refine j_iload_n 0 dJ6_bitCount_0f7a4_42 rfl rfl ?_
  refine j_bipush (v := 16) dJ6_bitCount_0f7a4_43 (by decide) ?_
  refine j_iushr dJ6_bitCount_0f7a4_45 ?_
  refine j_iadd dJ6_bitCount_0f7a4_46 ?_
  replace h := bV_inv h
  obtain ⟨v10, ev10, h⟩ := h
  refine j_nmi ev10 ?_
  refine j_istore_n [(0, .int v10)] dJ6_bitCount_0f7a4_47 rfl (Nat.le_of_ble_eq_true rfl) rfl ?_
  refine j_iload_n 0 dJ6_bitCount_0f7a4_48 rfl rfl ?_
  refine j_bipush (v := 63) dJ6_bitCount_0f7a4_49 (by decide) ?_
  refine j_iand dJ6_bitCount_0f7a4_51 ?_
  replace h := Option.some.inj h
  subst h
  obtain ⟨hr1, hr2⟩ := hr _ hK
  exact j_iret dJ6_bitCount_0f7a4_52 hr1 hr2
theorem c_J6_bitCount_0f7a4 (g : Bool) (μ : jM) {x0 : Int32} {r : Int32} (h : f_J6_bitCount_0f7a4 x0 = some r) : Cn yJ6_bitCount_0f7a4 cJ6_bitCount_0f7a4 1 (some .int) 1 g [.int x0] μ (some (.int r)) μ :=
  Cn_of (by decide) (Nat.le_refl _) (Nat.le_refl _) (Nat.le_of_ble_eq_true rfl) (f_J6_bitCount_0f7a4_ok (Kp := (fun o => o = r)) x0 μ ⟨jbr _, jbr _⟩ (fun r2 q => by cases q; exact ⟨rfl, rfl⟩) _ h rfl)
def f_X10_draw_J49 (σ : jS) (y0 : Int32) : Option (Int32 × jS) :=
  some ((y0, σ))
set_option maxHeartbeats 1000000 in
set_option maxRecDepth 20000 in
theorem f_X10_draw_J49_ok {g : Bool} {rv : Option Value} {μ' : jM} (σ : jS) (y0 : Int32) {Kp : (Int32 × jS) → Prop} (hn : Nat.ble nX μ'.1 = true ∧ Nat.ble wX μ'.2.1 = true) (hr : ∀ (r : Int32) (s : jS), Kp ((r, s)) → rv = some (.int r) ∧ μ' = eX s) (o : (Int32 × jS)) (h : f_X10_draw_J49 σ y0 = some o) (hK : Kp o) : J yX10_draw cX10_draw 2 (some .int) 1 g rv μ' 49 [] [.int y0] (eX σ) := by
  unfold f_X10_draw_J49 at h
  replace h := Option.some.inj h
  subst h
  obtain ⟨hr1, hr2⟩ := hr _ _ hK
  exact j_iret dX10_draw_49 hr1 hr2
def f_X10_draw (σ : jS) (x1 : Int32) : Option (Int32 × jS) :=
  bV (sI σ 29 5 ((((((gI σ 29 5).toInt64) * (1103515245 : Int64)) + (12345 : Int64)) &&& (2147483647 : Int64)).toInt32)) fun σ1 =>
  if x1 ≤ 0 then (f_X10_draw_J49 σ1 0)
  else (bG (x1 != 0) (
  f_X10_draw_J49 σ1 (((gI σ1 29 5) / (65536 : Int32)) - ((gI σ1 29 5) / (65536 : Int32)) / x1 * x1)))
set_option maxHeartbeats 1000000 in
set_option maxRecDepth 20000 in
theorem f_X10_draw_ok {g : Bool} {rv : Option Value} {μ' : jM} (σ : jS) (x1 : Int32) {Kp : (Int32 × jS) → Prop} (hn : Nat.ble nX μ'.1 = true ∧ Nat.ble wX μ'.2.1 = true) (hr : ∀ (r : Int32) (s : jS), Kp ((r, s)) → rv = some (.int r) ∧ μ' = eX s) (o : (Int32 × jS)) (h : f_X10_draw σ x1 = some o) (hK : Kp o) : J yX10_draw cX10_draw 2 (some .int) 1 g rv μ' 0 [(0, .ref 1), (1, .int x1)] [] (eX σ) := by
  unfold f_X10_draw at h
  refine j_aload_n 0 dX10_draw_0 rfl rfl ?_
  refine j_get (ci := 9) 5 (.ref 29) jC_9 dX10_draw_1 kg_RX10_47 rfl (okX_1 _) (shX_1 _) (fvX_1_5 _) ?_
  refine j_aload_n 0 dX10_draw_4 rfl rfl ?_
  refine j_get (ci := 9) 5 (.ref 29) jC_9 dX10_draw_5 kg_RX10_47 rfl (okX_1 _) (shX_1 _) (fvX_1_5 _) ?_
  refine j_get (ci := 6) 5 (.int (gI σ 29 5)) jC_6 dX10_draw_8 kg_RX10_292 rfl (okX_29 _) (shX_29 _) (fvX_29_5 _) ?_
  refine j_i2l dX10_draw_11 ?_
  refine j_ldc2 (v := 1103515245) kk_RX10_335 dX10_draw_12 ?_
  refine j_lmul dX10_draw_15 ?_
  refine j_ldc2 (v := 12345) kk_RX10_337 dX10_draw_16 ?_
  refine j_ladd dX10_draw_19 ?_
  refine j_ldc2 (v := 2147483647) kk_RX10_339 dX10_draw_20 ?_
  refine j_land dX10_draw_23 ?_
  refine j_l2i dX10_draw_24 ?_
  replace h := bV_inv h
  obtain ⟨σ2, eσ2, h⟩ := h
  refine j_putI 5 jC_6 dX10_draw_25 kg_RX10_292 (Or.inl ff_6_5) rfl fk_6_5 (fn_6_5 _) (okX_29 _) (shX_29 _) ?_
  refine j_mem (congrArg eX eσ2) ?_
  refine j_iload_n 1 dX10_draw_28 rfl rfl ?_
  refine j_if_le 48 dX10_draw_29 (by decide) (fun hc3 => ?_) (fun hc3 => ?_)
  · replace h := jif_t hc3 h
    refine j_iconst (v := 0) dX10_draw_48 (by decide) ?_
    refine j_sub [] [] rfl ?_
    exact f_X10_draw_J49_ok σ2 0 hn hr _ h hK
  · replace h := jif_f hc3 h
    refine j_aload_n 0 dX10_draw_32 rfl rfl ?_
    refine j_get (ci := 9) 5 (.ref 29) jC_9 dX10_draw_33 kg_RX10_47 rfl (okX_1 _) (shX_1 _) (fvX_1_5 _) ?_
    refine j_get (ci := 6) 5 (.int (gI σ2 29 5)) jC_6 dX10_draw_36 kg_RX10_292 rfl (okX_29 _) (shX_29 _) (fvX_29_5 _) ?_
    refine j_ldcw (v := 65536) kk_RX10_341 dX10_draw_39 ?_
    refine j_idiv dX10_draw_42 (by decide) ?_
    refine j_iload_n 1 dX10_draw_43 rfl rfl ?_
    replace h := bG_inv h
    obtain ⟨hz4, h⟩ := h
    refine j_irem dX10_draw_44 (bne_zero hz4) ?_
    refine j_goto 49 dX10_draw_45 (by decide) ?_
    refine j_sub [] [] rfl ?_
    exact f_X10_draw_J49_ok σ2 (((gI σ2 29 5) / (65536 : Int32)) - ((gI σ2 29 5) / (65536 : Int32)) / x1 * x1) hn hr _ h hK
theorem c_X10_draw (g : Bool) {σ : jS} {x1 : Int32} {r : Int32} {σ2 : jS} (h : f_X10_draw σ x1 = some (r, σ2)) : Cn yX10_draw cX10_draw 2 (some .int) 1 g [.ref 1, .int x1] (eX σ) (some (.int r)) (eX σ2) :=
  Cn_of (by decide) (Nat.le_refl _) (Nat.le_refl _) (Nat.le_of_ble_eq_true rfl) (f_X10_draw_ok (Kp := (fun o => o = (r, σ2))) σ x1 ⟨jbr _, jbr _⟩ (fun r2 s2 q => by cases q; exact ⟨rfl, rfl⟩) _ h rfl)
def f_X0_after_J29 (y0 : Int32) : Option Int32 :=
  some (y0)
set_option maxHeartbeats 1000000 in
set_option maxRecDepth 20000 in
theorem f_X0_after_J29_ok {g : Bool} {rv : Option Value} {μ' : jM} (y0 : Int32) (μ : jM) {Kp : Int32 → Prop} (hn : Nat.ble μ.1 μ'.1 = true ∧ Nat.ble μ.2.1 μ'.2.1 = true) (hr : ∀ r : Int32, Kp (r) → rv = some (.int r) ∧ μ' = μ) (o : Int32) (h : f_X0_after_J29 y0 = some o) (hK : Kp o) : J yX0_after cX0_after 3 (some .int) 2 g rv μ' 29 [] [.int y0] μ := by
  unfold f_X0_after_J29 at h
  replace h := Option.some.inj h
  subst h
  obtain ⟨hr1, hr2⟩ := hr _ hK
  exact j_iret dX0_after_29 hr1 hr2
def f_X0_after (x1 : Int32) (x2 : Int32) : Option Int32 :=
  if (x1 &&& (1 : Int32)) = 0 then (bC (f_X0_spot x1 1) fun r3 =>
  bC (f_X0_state x2 r3 1) fun r4 =>
  f_X0_after_J29 r4)
  else (bC (f_X0_spot x1 0) fun r1 =>
  bC (f_X0_state r1 x2 0) fun r2 =>
  f_X0_after_J29 r2)
set_option maxHeartbeats 1000000 in
set_option maxRecDepth 20000 in
theorem f_X0_after_ok {g : Bool} {rv : Option Value} {μ' : jM} (x1 : Int32) (x2 : Int32) (μ : jM) {Kp : Int32 → Prop} (hn : Nat.ble μ.1 μ'.1 = true ∧ Nat.ble μ.2.1 μ'.2.1 = true) (hr : ∀ r : Int32, Kp (r) → rv = some (.int r) ∧ μ' = μ) (o : Int32) (h : f_X0_after x1 x2 = some o) (hK : Kp o) : J yX0_after cX0_after 3 (some .int) 2 g rv μ' 0 [(0, .ref 4), (1, .int x1), (2, .int x2)] [] μ := by
  unfold f_X0_after at h
  refine j_iload_n 1 dX0_after_0 rfl rfl ?_
  refine j_iconst (v := 1) dX0_after_1 (by decide) ?_
  refine j_iand dX0_after_2 ?_
  refine j_if_ne 19 dX0_after_3 (by decide) (fun hc5 => ?_) (fun hc5 => ?_)
  · replace h := jif_f hc5 h
    refine j_iload_n 1 dX0_after_19 rfl rfl ?_
    refine j_iconst (v := 0) dX0_after_20 (by decide) ?_
    replace h := bC_inv h
    obtain ⟨r6, cr6, h⟩ := h
    refine j_callS (st1 := .int r6 :: _) (c_X0_spot g _ cr6) jy_X0_spot kt_yX0_spot kl_RX0_57 dX0_after_21 rfl rfl rfl rfl (jbr _) (jbr _) hn.1 hn.2 (Or.inr rfl) rfl ?_
    refine j_iload_n 2 dX0_after_24 rfl rfl ?_
    refine j_iconst (v := 0) dX0_after_25 (by decide) ?_
    replace h := bC_inv h
    obtain ⟨r7, cr7, h⟩ := h
    refine j_callS (st1 := .int r7 :: _) (c_X0_state g _ cr7) jy_X0_state kt_yX0_state kl_RX0_88 dX0_after_26 rfl rfl rfl rfl (jbr _) (jbr _) hn.1 hn.2 (Or.inr rfl) rfl ?_
    refine j_sub [] [] rfl ?_
    exact f_X0_after_J29_ok r7 μ hn hr _ h hK
  · replace h := jif_t hc5 h
    refine j_iload_n 2 dX0_after_6 rfl rfl ?_
    refine j_iload_n 1 dX0_after_7 rfl rfl ?_
    refine j_iconst (v := 1) dX0_after_8 (by decide) ?_
    replace h := bC_inv h
    obtain ⟨r8, cr8, h⟩ := h
    refine j_callS (st1 := .int r8 :: _) (c_X0_spot g _ cr8) jy_X0_spot kt_yX0_spot kl_RX0_57 dX0_after_9 rfl rfl rfl rfl (jbr _) (jbr _) hn.1 hn.2 (Or.inr rfl) rfl ?_
    refine j_iconst (v := 1) dX0_after_12 (by decide) ?_
    replace h := bC_inv h
    obtain ⟨r9, cr9, h⟩ := h
    refine j_callS (st1 := .int r9 :: _) (c_X0_state g _ cr9) jy_X0_state kt_yX0_state kl_RX0_88 dX0_after_13 rfl rfl rfl rfl (jbr _) (jbr _) hn.1 hn.2 (Or.inr rfl) rfl ?_
    refine j_goto 29 dX0_after_16 (by decide) ?_
    refine j_sub [] [] rfl ?_
    exact f_X0_after_J29_ok r9 μ hn hr _ h hK
theorem c_X0_after (g : Bool) (μ : jM) {x1 : Int32} {x2 : Int32} {r : Int32} (h : f_X0_after x1 x2 = some r) : Cn yX0_after cX0_after 3 (some .int) 2 g [.ref 4, .int x1, .int x2] μ (some (.int r)) μ :=
  Cn_of (by decide) (Nat.le_refl _) (Nat.le_refl _) (Nat.le_of_ble_eq_true rfl) (f_X0_after_ok (Kp := (fun o => o = r)) x1 x2 μ ⟨jbr _, jbr _⟩ (fun r2 q => by cases q; exact ⟨rfl, rfl⟩) _ h rfl)
def f_X0_spotFor (σ : jS) (x1 : Int32) (x2 : Int32) : Option Int32 :=
  bC (f_X0_onwardOf σ x1) fun r1 =>
  bC (f_X6_at_ σ 10 x2) fun r2 =>
  bC (f_X6_lowest (r1 &&& r2)) fun r3 =>
  some (r3)
set_option maxHeartbeats 1000000 in
set_option maxRecDepth 20000 in
theorem f_X0_spotFor_ok {g : Bool} {rv : Option Value} {μ' : jM} (σ : jS) (x1 : Int32) (x2 : Int32) {Kp : Int32 → Prop} (hn : Nat.ble nX μ'.1 = true ∧ Nat.ble wX μ'.2.1 = true) (hr : ∀ r : Int32, Kp (r) → rv = some (.int r) ∧ μ' = (eX σ)) (o : Int32) (h : f_X0_spotFor σ x1 x2 = some o) (hK : Kp o) : J yX0_spotFor cX0_spotFor 3 (some .int) 3 g rv μ' 0 [(0, .ref 4), (1, .int x1), (2, .int x2)] [] (eX σ) := by
  unfold f_X0_spotFor at h
  refine j_aload_n 0 dX0_spotFor_0 rfl rfl ?_
  refine j_iload_n 1 dX0_spotFor_1 rfl rfl ?_
  replace h := bC_inv h
  obtain ⟨r4, cr4, h⟩ := h
  refine j_callV (ci := 0) (st1 := .long r4 :: _) (c_X0_onwardOf g cr4) jy_X0_onwardOf ki_yX0_onwardOf ks_yX0_onwardOf kl_RX0_72 dX0_spotFor_2 rfl (okX_4 _) (shX_4 _) rfl rfl rfl rfl (jbr _) (jbr _) hn.1 hn.2 (Or.inr rfl) rfl ?_
  refine j_aload_n 0 dX0_spotFor_5 rfl rfl ?_
  refine j_get (ci := 0) 0 (.ref 5) jC_0 dX0_spotFor_6 kg_RX0_12 rfl (okX_4 _) (shX_4 _) (fvX_4_0 _) ?_
  refine j_get (ci := 8) 4 (.ref 10) jC_8 dX0_spotFor_9 kg_RX0_83 rfl (okX_5 _) (shX_5 _) (fvX_5_4 _) ?_
  refine j_iload_n 2 dX0_spotFor_12 rfl rfl ?_
  replace h := bC_inv h
  obtain ⟨r5, cr5, h⟩ := h
  refine j_callS (st1 := .long r5 :: _) (c_X6_at_ g cr5) jy_X6_at_ kt_yX6_at_ kl_RX0_80 dX0_spotFor_13 rfl rfl rfl rfl (jbr _) (jbr _) hn.1 hn.2 (Or.inr rfl) rfl ?_
  refine j_land dX0_spotFor_16 ?_
  replace h := bC_inv h
  obtain ⟨r6, cr6, h⟩ := h
  refine j_callS (st1 := .int r6 :: _) (c_X6_lowest g _ cr6) jy_X6_lowest kt_yX6_lowest kl_RX0_98 dX0_spotFor_17 rfl rfl rfl rfl (jbr _) (jbr _) hn.1 hn.2 (Or.inr rfl) rfl ?_
  replace h := Option.some.inj h
  subst h
  obtain ⟨hr1, hr2⟩ := hr _ hK
  exact j_iret dX0_spotFor_20 hr1 hr2
theorem c_X0_spotFor (g : Bool) {σ : jS} {x1 : Int32} {x2 : Int32} {r : Int32} (h : f_X0_spotFor σ x1 x2 = some r) : Cn yX0_spotFor cX0_spotFor 3 (some .int) 3 g [.ref 4, .int x1, .int x2] (eX σ) (some (.int r)) (eX σ) :=
  Cn_of (by decide) (Nat.le_refl _) (Nat.le_refl _) (Nat.le_of_ble_eq_true rfl) (f_X0_spotFor_ok (Kp := (fun o => o = r)) σ x1 x2 ⟨jbr _, jbr _⟩ (fun r2 q => by cases q; exact ⟨rfl, rfl⟩) _ h rfl)
def f_X10_setHow (σ : jS) (x1 : Int32) (x2 : Int32) : Option (Unit × jS) :=
  bD (f_X6_put σ 30 x1 x2) fun r1 σ2 =>
  bC (f_X6_at σ2 31 x1) fun r3 =>
  bD (f_X6_put σ2 31 x1 (r3 + (1 : Int32))) fun r4 σ5 =>
  some (((), σ5))
set_option maxHeartbeats 1000000 in
set_option maxRecDepth 20000 in
theorem f_X10_setHow_ok {g : Bool} {rv : Option Value} {μ' : jM} (σ : jS) (x1 : Int32) (x2 : Int32) {Kp : (Unit × jS) → Prop} (hn : Nat.ble nX μ'.1 = true ∧ Nat.ble wX μ'.2.1 = true) (hr : ∀ (r : Unit) (s : jS), Kp ((r, s)) → rv = none ∧ μ' = eX s) (o : (Unit × jS)) (h : f_X10_setHow σ x1 x2 = some o) (hK : Kp o) : J yX10_setHow cX10_setHow 3 none 2 g rv μ' 0 [(0, .ref 1), (1, .int x1), (2, .int x2)] [] (eX σ) := by
  unfold f_X10_setHow at h
  refine j_aload_n 0 dX10_setHow_0 rfl rfl ?_
  refine j_get (ci := 9) 5 (.ref 29) jC_9 dX10_setHow_1 kg_RX10_47 rfl (okX_1 _) (shX_1 _) (fvX_1_5 _) ?_
  refine j_get (ci := 6) 0 (.ref 30) jC_6 dX10_setHow_4 kg_RX10_94 rfl (okX_29 _) (shX_29 _) (fvX_29_0 _) ?_
  refine j_iload_n 1 dX10_setHow_7 rfl rfl ?_
  refine j_iload_n 2 dX10_setHow_8 rfl rfl ?_
  replace h := bD_inv h
  obtain ⟨r6, σ7, cr6, h⟩ := h
  refine j_callS (st1 := _) (c_X6_put g cr6) jy_X6_put kt_yX6_put kl_RX10_102 dX10_setHow_9 rfl rfl rfl rfl (jbr _) (jbr _) hn.1 hn.2 (Or.inr rfl) rfl ?_
  refine j_aload_n 0 dX10_setHow_12 rfl rfl ?_
  refine j_get (ci := 9) 5 (.ref 29) jC_9 dX10_setHow_13 kg_RX10_47 rfl (okX_1 _) (shX_1 _) (fvX_1_5 _) ?_
  refine j_get (ci := 6) 1 (.ref 31) jC_6 dX10_setHow_16 kg_RX10_108 rfl (okX_29 _) (shX_29 _) (fvX_29_1 _) ?_
  refine j_iload_n 1 dX10_setHow_19 rfl rfl ?_
  refine j_aload_n 0 dX10_setHow_20 rfl rfl ?_
  refine j_get (ci := 9) 5 (.ref 29) jC_9 dX10_setHow_21 kg_RX10_47 rfl (okX_1 _) (shX_1 _) (fvX_1_5 _) ?_
  refine j_get (ci := 6) 1 (.ref 31) jC_6 dX10_setHow_24 kg_RX10_108 rfl (okX_29 _) (shX_29 _) (fvX_29_1 _) ?_
  refine j_iload_n 1 dX10_setHow_27 rfl rfl ?_
  replace h := bC_inv h
  obtain ⟨r8, cr8, h⟩ := h
  refine j_callS (st1 := .int r8 :: _) (c_X6_at g cr8) jy_X6_at kt_yX6_at kl_RX10_150 dX10_setHow_28 rfl rfl rfl rfl (jbr _) (jbr _) hn.1 hn.2 (Or.inr rfl) rfl ?_
  refine j_iconst (v := 1) dX10_setHow_31 (by decide) ?_
  refine j_iadd dX10_setHow_32 ?_
  replace h := bD_inv h
  obtain ⟨r9, σ10, cr9, h⟩ := h
  refine j_callS (st1 := _) (c_X6_put g cr9) jy_X6_put kt_yX6_put kl_RX10_102 dX10_setHow_33 rfl rfl rfl rfl (jbr _) (jbr _) hn.1 hn.2 (Or.inr rfl) rfl ?_
  replace h := Option.some.inj h
  subst h
  obtain ⟨hr1, hr2⟩ := hr _ _ hK
  exact j_vret dX10_setHow_36 hr1 hr2
theorem c_X10_setHow (g : Bool) {σ : jS} {x1 : Int32} {x2 : Int32} {r : Unit} {σ2 : jS} (h : f_X10_setHow σ x1 x2 = some (r, σ2)) : Cn yX10_setHow cX10_setHow 3 none 2 g [.ref 1, .int x1, .int x2] (eX σ) none (eX σ2) :=
  Cn_of (by decide) (Nat.le_refl _) (Nat.le_refl _) (Nat.le_of_ble_eq_true rfl) (f_X10_setHow_ok (Kp := (fun o => o = (r, σ2))) σ x1 x2 ⟨jbr _, jbr _⟩ (fun r2 s2 q => by cases q; exact ⟨rfl, rfl⟩) _ h rfl)
def f_X10_handTo (σ : jS) (x1 : Int32) (x2 : Int32) : Option (Unit × jS) :=
  bC (f_X6_at σ 30 x1) fun r1 =>
  bC (f_X0_spotFor σ r1 x2) fun r2 =>
  bC (f_X0_after r1 r2) fun r3 =>
  bD (f_X10_setHow σ x1 r3) fun r4 σ5 =>
  some (((), σ5))
set_option maxHeartbeats 1000000 in
set_option maxRecDepth 20000 in
theorem f_X10_handTo_ok {g : Bool} {rv : Option Value} {μ' : jM} (σ : jS) (x1 : Int32) (x2 : Int32) {Kp : (Unit × jS) → Prop} (hn : Nat.ble nX μ'.1 = true ∧ Nat.ble wX μ'.2.1 = true) (hr : ∀ (r : Unit) (s : jS), Kp ((r, s)) → rv = none ∧ μ' = eX s) (o : (Unit × jS)) (h : f_X10_handTo σ x1 x2 = some o) (hK : Kp o) : J yX10_handTo cX10_handTo 4 none 4 g rv μ' 0 [(0, .ref 1), (1, .int x1), (2, .int x2)] [] (eX σ) := by
  unfold f_X10_handTo at h
  refine j_aload_n 0 dX10_handTo_0 rfl rfl ?_
  refine j_get (ci := 9) 5 (.ref 29) jC_9 dX10_handTo_1 kg_RX10_47 rfl (okX_1 _) (shX_1 _) (fvX_1_5 _) ?_
  refine j_get (ci := 6) 0 (.ref 30) jC_6 dX10_handTo_4 kg_RX10_94 rfl (okX_29 _) (shX_29 _) (fvX_29_0 _) ?_
  refine j_iload_n 1 dX10_handTo_7 rfl rfl ?_
  replace h := bC_inv h
  obtain ⟨r6, cr6, h⟩ := h
  refine j_callS (st1 := .int r6 :: _) (c_X6_at g cr6) jy_X6_at kt_yX6_at kl_RX10_150 dX10_handTo_8 rfl rfl rfl rfl (jbr _) (jbr _) hn.1 hn.2 (Or.inr rfl) rfl ?_
  refine j_istore_n [(3, .int r6), (0, .ref 1), (1, .int x1), (2, .int x2)] dX10_handTo_11 rfl (Nat.le_of_ble_eq_true rfl) rfl ?_
  refine j_aload_n 1 dX10_handTo_12 rfl rfl ?_
  refine j_iload_n 2 dX10_handTo_13 rfl rfl ?_
  refine j_aload_n 1 dX10_handTo_14 rfl rfl ?_
  refine j_get (ci := 9) 1 (.ref 4) jC_9 dX10_handTo_15 kg_RX10_19 rfl (okX_1 _) (shX_1 _) (fvX_1_1 _) ?_
  refine j_iload_n 0 dX10_handTo_18 rfl rfl ?_
  refine j_aload_n 1 dX10_handTo_19 rfl rfl ?_
  refine j_get (ci := 9) 1 (.ref 4) jC_9 dX10_handTo_20 kg_RX10_19 rfl (okX_1 _) (shX_1 _) (fvX_1_1 _) ?_
  refine j_iload_n 0 dX10_handTo_23 rfl rfl ?_
  refine j_iload_n 3 dX10_handTo_24 rfl rfl ?_
  replace h := bC_inv h
  obtain ⟨r7, cr7, h⟩ := h
  refine j_callV (ci := 0) (st1 := .int r7 :: _) (c_X0_spotFor g cr7) jy_X0_spotFor ki_yX0_spotFor ks_yX0_spotFor kl_RX10_320 dX10_handTo_25 rfl (okX_4 _) (shX_4 _) rfl rfl rfl rfl (jbr _) (jbr _) hn.1 hn.2 (Or.inr rfl) rfl ?_
  replace h := bC_inv h
  obtain ⟨r8, cr8, h⟩ := h
  refine j_callV (ci := 0) (st1 := .int r8 :: _) (c_X0_after g _ cr8) jy_X0_after ki_yX0_after ks_yX0_after kl_RX10_323 dX10_handTo_28 rfl (okX_4 _) (shX_4 _) rfl rfl rfl rfl (jbr _) (jbr _) hn.1 hn.2 (Or.inr rfl) rfl ?_
  replace h := bD_inv h
  obtain ⟨r9, σ10, cr9, h⟩ := h
  refine j_callV (ci := 9) (st1 := _) (c_X10_setHow g cr9) jy_X10_setHow ki_yX10_setHow ks_yX10_setHow kl_RX10_326 dX10_handTo_31 rfl (okX_1 _) (shX_1 _) rfl rfl rfl rfl (jbr _) (jbr _) hn.1 hn.2 (Or.inr rfl) rfl ?_
  replace h := Option.some.inj h
  subst h
  obtain ⟨hr1, hr2⟩ := hr _ _ hK
  exact j_vret dX10_handTo_34 hr1 hr2
theorem c_X10_handTo (g : Bool) {σ : jS} {x1 : Int32} {x2 : Int32} {r : Unit} {σ2 : jS} (h : f_X10_handTo σ x1 x2 = some (r, σ2)) : Cn yX10_handTo cX10_handTo 4 none 4 g [.ref 1, .int x1, .int x2] (eX σ) none (eX σ2) :=
  Cn_of (by decide) (Nat.le_refl _) (Nat.le_refl _) (Nat.le_of_ble_eq_true rfl) (f_X10_handTo_ok (Kp := (fun o => o = (r, σ2))) σ x1 x2 ⟨jbr _, jbr _⟩ (fun r2 s2 q => by cases q; exact ⟨rfl, rfl⟩) _ h rfl)
def f_X6_numbered_J21 (x2 : Int32) : Option Int32 :=
  bC (f_X6_lowest (x2.toInt64)) fun r1 =>
  some (r1)
set_option maxHeartbeats 1000000 in
set_option maxRecDepth 20000 in
theorem f_X6_numbered_J21_ok {g : Bool} {rv : Option Value} {μ' : jM} (x2 : Int32) (μ : jM) {Kp : Int32 → Prop} (hn : Nat.ble μ.1 μ'.1 = true ∧ Nat.ble μ.2.1 μ'.2.1 = true) (hr : ∀ r : Int32, Kp (r) → rv = some (.int r) ∧ μ' = μ) (o : Int32) (h : f_X6_numbered_J21 x2 = some o) (hK : Kp o) : J yX6_numbered cX6_numbered 4 (some .int) 3 g rv μ' 21 [(2, .int x2)] [] μ := by
  unfold f_X6_numbered_J21 at h
  refine j_iload_n 0 dX6_numbered_21 rfl rfl ?_
  refine j_i2l dX6_numbered_22 ?_
  replace h := bC_inv h
  obtain ⟨r2, cr2, h⟩ := h
  refine j_callS (st1 := .int r2 :: _) (c_X6_lowest g _ cr2) jy_X6_lowest kt_yX6_lowest kl_RX6_23 dX6_numbered_23 rfl rfl rfl rfl (jbr _) (jbr _) hn.1 hn.2 (Or.inr rfl) rfl ?_
  replace h := Option.some.inj h
  subst h
  obtain ⟨hr1, hr2⟩ := hr _ hK
  exact j_iret dX6_numbered_26 hr1 hr2
def f_X6_numbered_B4 (x1 : Int32) (x2 : Int32) (x3 : Int32) : Option ((Int32 × Int32) ⊕ Int32) :=
  if x1 ≤ x3 then (jw (f_X6_numbered_J21 x2))
  else (bV (x2 &&& (x2 - (1 : Int32))) fun v3 =>
  bV (x3 + 1) fun v4 =>
  some (.inl (v3, v4)))
set_option maxHeartbeats 1000000 in
set_option maxRecDepth 20000 in
theorem f_X6_numbered_B4_ok {g : Bool} {rv : Option Value} {μ' : jM} (x1 : Int32) (x2 : Int32) (x3 : Int32) (μ : jM) {Kp : ((Int32 × Int32) ⊕ Int32) → Prop} (hn : Nat.ble μ.1 μ'.1 = true ∧ Nat.ble μ.2.1 μ'.2.1 = true) (hr : ∀ r : Int32, Kp (.inr (r)) → rv = some (.int r) ∧ μ' = μ) (hc0 : ∀ s : (Int32 × Int32), Kp (.inl s) → J yX6_numbered cX6_numbered 4 (some .int) 3 g rv μ' 4 [(1, .int x1), (2, .int s.1), (3, .int s.2)] [] μ) (o : ((Int32 × Int32) ⊕ Int32)) (h : f_X6_numbered_B4 x1 x2 x3 = some o) (hK : Kp o) : J yX6_numbered cX6_numbered 4 (some .int) 3 g rv μ' 4 [(1, .int x1), (2, .int x2), (3, .int x3)] [] μ := by
  unfold f_X6_numbered_B4 at h
  refine j_iload_n 2 dX6_numbered_4 rfl rfl ?_
  refine j_iload_n 0 dX6_numbered_5 rfl rfl ?_
  refine j_icmp_ge 21 dX6_numbered_6 (by decide) (fun hc5 => ?_) (fun hc5 => ?_)
  · replace h := jif_t hc5 h
    replace h := jw_inv h
    obtain ⟨o6, rfl, h⟩ := h
    refine j_sub [(2, .int x2)] [1] rfl ?_
    exact f_X6_numbered_J21_ok (Kp := fun o => Kp (.inr (o))) x2 μ hn (fun r q => hr r q) _ h hK
  · replace h := jif_f hc5 h
    refine j_iload_n 1 dX6_numbered_9 rfl rfl ?_
    refine j_iload_n 1 dX6_numbered_10 rfl rfl ?_
    refine j_iconst (v := 1) dX6_numbered_11 (by decide) ?_
    refine j_isub dX6_numbered_12 ?_
    refine j_iand dX6_numbered_13 ?_
    replace h := bV_inv h
    obtain ⟨v7, ev7, h⟩ := h
    refine j_nmi ev7 ?_
    refine j_istore_n [(2, .int v7), (1, .int x1), (3, .int x3)] dX6_numbered_14 rfl (Nat.le_of_ble_eq_true rfl) rfl ?_
    replace h := bV_inv h
    obtain ⟨v8, ev8, h⟩ := h
    refine j_iinc (v := v8) [(3, .int v8), (2, .int v7), (1, .int x1)] 2 dX6_numbered_15 rfl (by rw [ev8]; rfl) (Nat.le_of_ble_eq_true rfl) rfl ?_
    refine j_goto 4 dX6_numbered_18 (by decide) ?_
    replace h := Option.some.inj h
    subst h
    refine j_sub [(1, .int x1), (2, .int v7), (3, .int v8)] [2, 1, 0] rfl ?_
    exact hc0 _ hK
def f_X6_numbered (x0 : Int32) (x1 : Int32) : Option Int32 :=
  jloop jFuel (fun s => f_X6_numbered_B4 x1 s.1 s.2) (x0, 0)
set_option maxHeartbeats 1000000 in
set_option maxRecDepth 20000 in
theorem f_X6_numbered_ok {g : Bool} {rv : Option Value} {μ' : jM} (x0 : Int32) (x1 : Int32) (μ : jM) {Kp : Int32 → Prop} (hn : Nat.ble μ.1 μ'.1 = true ∧ Nat.ble μ.2.1 μ'.2.1 = true) (hr : ∀ r : Int32, Kp (r) → rv = some (.int r) ∧ μ' = μ) (o : Int32) (h : f_X6_numbered x0 x1 = some o) (hK : Kp o) : J yX6_numbered cX6_numbered 4 (some .int) 3 g rv μ' 0 [(0, .int x0), (1, .int x1)] [] μ := by
  unfold f_X6_numbered at h
  refine j_iload_n 0 dX6_numbered_0 rfl rfl ?_
  refine j_istore_n [(2, .int x0), (0, .int x0), (1, .int x1)] dX6_numbered_1 rfl (Nat.le_of_ble_eq_true rfl) rfl ?_
  refine j_iconst (v := 0) dX6_numbered_2 (by decide) ?_
  refine j_istore_n [(3, .int 0), (2, .int x0), (0, .int x0), (1, .int x1)] dX6_numbered_3 rfl (Nat.le_of_ble_eq_true rfl) rfl ?_
  refine j_sub [(1, .int x1), (2, .int x0), (3, .int 0)] [3, 1, 0] rfl ?_
  exact jloop_ok (fun s => f_X6_numbered_B4 x1 s.1 s.2) (fun s => J yX6_numbered cX6_numbered 4 (some .int) 3 g rv μ' 4 [(1, .int x1), (2, .int s.1), (3, .int s.2)] [] μ) Kp (fun s o hb hk => f_X6_numbered_B4_ok (Kp := jsum (fun s => J yX6_numbered cX6_numbered 4 (some .int) 3 g rv μ' 4 [(1, .int x1), (2, .int s.1), (3, .int s.2)] [] μ) Kp) x1 s.1 s.2 μ hn (fun r q => hr r q) (fun s q => q) o hb hk) jFuel _ _ h hK
theorem c_X6_numbered (g : Bool) (μ : jM) {x0 : Int32} {x1 : Int32} {r : Int32} (h : f_X6_numbered x0 x1 = some r) : Cn yX6_numbered cX6_numbered 4 (some .int) 3 g [.int x0, .int x1] μ (some (.int r)) μ :=
  Cn_of (by decide) (Nat.le_refl _) (Nat.le_refl _) (Nat.le_of_ble_eq_true rfl) (f_X6_numbered_ok (Kp := (fun o => o = r)) x0 x1 μ ⟨jbr _, jbr _⟩ (fun r2 q => by cases q; exact ⟨rfl, rfl⟩) _ h rfl)
def f_X10_handByDraw (σ : jS) (x1 : Int32) : Option (Int32 × jS) :=
  bC (f_X6_at σ 30 x1) fun r1 =>
  bC (f_X0_allowed σ r1) fun r2 =>
  if r2 = 0 then (bD (f_X10_setHow σ x1 (r1 ^^^ (1 : Int32))) fun r9 σ10 =>
  some (((-1), σ10)))
  else (bC (f_J6_bitCount_0f7a4 r2) fun r3 =>
  bD (f_X10_draw σ r3) fun r4 σ5 =>
  bC (f_X6_numbered r2 r4) fun r6 =>
  bD (f_X10_handTo σ5 x1 r6) fun r7 σ8 =>
  some ((r6, σ8)))
set_option maxHeartbeats 1000000 in
set_option maxRecDepth 20000 in
theorem f_X10_handByDraw_ok {g : Bool} {rv : Option Value} {μ' : jM} (σ : jS) (x1 : Int32) {Kp : (Int32 × jS) → Prop} (hn : Nat.ble nX μ'.1 = true ∧ Nat.ble wX μ'.2.1 = true) (hr : ∀ (r : Int32) (s : jS), Kp ((r, s)) → rv = some (.int r) ∧ μ' = eX s) (o : (Int32 × jS)) (h : f_X10_handByDraw σ x1 = some o) (hK : Kp o) : J yX10_handByDraw cX10_handByDraw 5 (some .int) 5 g rv μ' 0 [(0, .ref 1), (1, .int x1)] [] (eX σ) := by
  unfold f_X10_handByDraw at h
  refine j_aload_n 0 dX10_handByDraw_0 rfl rfl ?_
  refine j_get (ci := 9) 5 (.ref 29) jC_9 dX10_handByDraw_1 kg_RX10_47 rfl (okX_1 _) (shX_1 _) (fvX_1_5 _) ?_
  refine j_get (ci := 6) 0 (.ref 30) jC_6 dX10_handByDraw_4 kg_RX10_94 rfl (okX_29 _) (shX_29 _) (fvX_29_0 _) ?_
  refine j_iload_n 1 dX10_handByDraw_7 rfl rfl ?_
  replace h := bC_inv h
  obtain ⟨r11, cr11, h⟩ := h
  refine j_callS (st1 := .int r11 :: _) (c_X6_at g cr11) jy_X6_at kt_yX6_at kl_RX10_150 dX10_handByDraw_8 rfl rfl rfl rfl (jbr _) (jbr _) hn.1 hn.2 (Or.inr rfl) rfl ?_
  refine j_istore_n [(2, .int r11), (0, .ref 1), (1, .int x1)] dX10_handByDraw_11 rfl (Nat.le_of_ble_eq_true rfl) rfl ?_
  refine j_aload_n 1 dX10_handByDraw_12 rfl rfl ?_
  refine j_get (ci := 9) 1 (.ref 4) jC_9 dX10_handByDraw_13 kg_RX10_19 rfl (okX_1 _) (shX_1 _) (fvX_1_1 _) ?_
  refine j_iload_n 0 dX10_handByDraw_16 rfl rfl ?_
  replace h := bC_inv h
  obtain ⟨r12, cr12, h⟩ := h
  refine j_callV (ci := 0) (st1 := .int r12 :: _) (c_X0_allowed g cr12) jy_X0_allowed ki_yX0_allowed ks_yX0_allowed kl_RX10_211 dX10_handByDraw_17 rfl (okX_4 _) (shX_4 _) rfl rfl rfl rfl (jbr _) (jbr _) hn.1 hn.2 (Or.inr rfl) rfl ?_
  refine j_istore_n [(3, .int r12), (2, .int r11), (0, .ref 1), (1, .int x1)] dX10_handByDraw_20 rfl (Nat.le_of_ble_eq_true rfl) rfl ?_
  refine j_iload_n 0 dX10_handByDraw_21 rfl rfl ?_
  refine j_if_ne 35 dX10_handByDraw_22 (by decide) (fun hc13 => ?_) (fun hc13 => ?_)
  · replace h := jif_f hc13 h
    refine j_iload_n 0 dX10_handByDraw_35 rfl rfl ?_
    refine j_aload_n 2 dX10_handByDraw_36 rfl rfl ?_
    refine j_iload_n 0 dX10_handByDraw_37 rfl rfl ?_
    replace h := bC_inv h
    obtain ⟨r14, cr14, h⟩ := h
    refine j_callS (st1 := .int r14 :: _) (c_J6_bitCount_0f7a4 g _ cr14) jy_J6_bitCount_0f7a4 kt_yJ6_bitCount_0f7a4 kl_RX10_266 dX10_handByDraw_38 rfl rfl rfl rfl (jbr _) (jbr _) hn.1 hn.2 (Or.inr rfl) rfl ?_
    replace h := bD_inv h
    obtain ⟨r15, σ16, cr15, h⟩ := h
    refine j_callV (ci := 9) (st1 := .int r15 :: _) (c_X10_draw g cr15) jy_X10_draw ki_yX10_draw ks_yX10_draw kl_RX10_329 dX10_handByDraw_41 rfl (okX_1 _) (shX_1 _) rfl rfl rfl rfl (jbr _) (jbr _) hn.1 hn.2 (Or.inr rfl) rfl ?_
    replace h := bC_inv h
    obtain ⟨r17, cr17, h⟩ := h
    refine j_callS (st1 := .int r17 :: _) (c_X6_numbered g _ cr17) jy_X6_numbered kt_yX6_numbered kl_RX10_332 dX10_handByDraw_44 rfl rfl rfl rfl (jbr _) (jbr _) hn.1 hn.2 (Or.inr rfl) rfl ?_
    refine j_istore [(4, .int r17), (3, .int r12), (2, .int r11), (0, .ref 1), (1, .int x1)] dX10_handByDraw_47 (Nat.le_of_ble_eq_true rfl) rfl ?_
    refine j_aload_n 3 dX10_handByDraw_49 rfl rfl ?_
    refine j_iload_n 4 dX10_handByDraw_50 rfl rfl ?_
    refine j_iload 0 dX10_handByDraw_51 rfl ?_
    replace h := bD_inv h
    obtain ⟨r18, σ19, cr18, h⟩ := h
    refine j_callV (ci := 9) (st1 := _) (c_X10_handTo g cr18) jy_X10_handTo ki_yX10_handTo ks_yX10_handTo kl_RX10_217 dX10_handByDraw_53 rfl (okX_1 _) (shX_1 _) rfl rfl rfl rfl (jbr _) (jbr _) hn.1 hn.2 (Or.inr rfl) rfl ?_
    refine j_iload 0 dX10_handByDraw_56 rfl ?_
    replace h := Option.some.inj h
    subst h
    obtain ⟨hr1, hr2⟩ := hr _ _ hK
    exact j_iret dX10_handByDraw_58 hr1 hr2
  · replace h := jif_t hc13 h
    refine j_aload_n 2 dX10_handByDraw_25 rfl rfl ?_
    refine j_iload_n 3 dX10_handByDraw_26 rfl rfl ?_
    refine j_iload_n 1 dX10_handByDraw_27 rfl rfl ?_
    refine j_iconst (v := 1) dX10_handByDraw_28 (by decide) ?_
    refine j_ixor dX10_handByDraw_29 ?_
    replace h := bD_inv h
    obtain ⟨r20, σ21, cr20, h⟩ := h
    refine j_callV (ci := 9) (st1 := _) (c_X10_setHow g cr20) jy_X10_setHow ki_yX10_setHow ks_yX10_setHow kl_RX10_326 dX10_handByDraw_30 rfl (okX_1 _) (shX_1 _) rfl rfl rfl rfl (jbr _) (jbr _) hn.1 hn.2 (Or.inr rfl) rfl ?_
    refine j_iconst (v := (-1)) dX10_handByDraw_33 (by decide) ?_
    replace h := Option.some.inj h
    subst h
    obtain ⟨hr1, hr2⟩ := hr _ _ hK
    exact j_iret dX10_handByDraw_34 hr1 hr2
theorem c_X10_handByDraw (g : Bool) {σ : jS} {x1 : Int32} {r : Int32} {σ2 : jS} (h : f_X10_handByDraw σ x1 = some (r, σ2)) : Cn yX10_handByDraw cX10_handByDraw 5 (some .int) 5 g [.ref 1, .int x1] (eX σ) (some (.int r)) (eX σ2) :=
  Cn_of (by decide) (Nat.le_refl _) (Nat.le_refl _) (Nat.le_of_ble_eq_true rfl) (f_X10_handByDraw_ok (Kp := (fun o => o = (r, σ2))) σ x1 ⟨jbr _, jbr _⟩ (fun r2 s2 q => by cases q; exact ⟨rfl, rfl⟩) _ h rfl)
def f_X10_hand_J21 (σ : jS) : Option (Int32 × jS) :=
  some (((-1001), σ))
set_option maxHeartbeats 1000000 in
set_option maxRecDepth 20000 in
theorem f_X10_hand_J21_ok {g : Bool} {rv : Option Value} {μ' : jM} (σ : jS) {Kp : (Int32 × jS) → Prop} (hn : Nat.ble nX μ'.1 = true ∧ Nat.ble wX μ'.2.1 = true) (hr : ∀ (r : Int32) (s : jS), Kp ((r, s)) → rv = some (.int r) ∧ μ' = eX s) (o : (Int32 × jS)) (h : f_X10_hand_J21 σ = some o) (hK : Kp o) : J yX10_hand cX10_hand 4 (some .int) 6 g rv μ' 21 [] [] (eX σ) := by
  unfold f_X10_hand_J21 at h
  refine j_sipush (v := (-1001)) dX10_hand_21 (by decide) ?_
  replace h := Option.some.inj h
  subst h
  obtain ⟨hr1, hr2⟩ := hr _ _ hK
  exact j_iret dX10_hand_24 hr1 hr2
def f_X10_hand_J25 (σ : jS) (x1 : Int32) (x2 : Int32) : Option (Int32 × jS) :=
  bC (f_X6_at σ 30 x1) fun r2 =>
  bC (f_X0_howIs σ r2) fun r3 =>
  if r3 = 0 then (if x2 = (-1) then (bD (f_X10_handByDraw σ x1) fun r7 σ8 =>
  some ((r7, σ8)))
  else (bC (f_X0_allowed σ r2) fun r4 =>
  if ((r4 >>> (x2 &&& 31)) &&& (1 : Int32)) = 0 then (some (((-1003), σ)))
  else (bD (f_X10_handTo σ x1 x2) fun r5 σ6 =>
  some ((x2, σ6)))))
  else (some (((-1003), σ)))
set_option maxHeartbeats 1000000 in
set_option maxRecDepth 20000 in
theorem f_X10_hand_J25_ok {g : Bool} {rv : Option Value} {μ' : jM} (σ : jS) (x1 : Int32) (x2 : Int32) {Kp : (Int32 × jS) → Prop} (hn : Nat.ble nX μ'.1 = true ∧ Nat.ble wX μ'.2.1 = true) (hr : ∀ (r : Int32) (s : jS), Kp ((r, s)) → rv = some (.int r) ∧ μ' = eX s) (o : (Int32 × jS)) (h : f_X10_hand_J25 σ x1 x2 = some o) (hK : Kp o) : J yX10_hand cX10_hand 4 (some .int) 6 g rv μ' 25 [(0, .ref 1), (1, .int x1), (2, .int x2)] [] (eX σ) := by
  unfold f_X10_hand_J25 at h
  refine j_aload_n 0 dX10_hand_25 rfl rfl ?_
  refine j_get (ci := 9) 5 (.ref 29) jC_9 dX10_hand_26 kg_RX10_47 rfl (okX_1 _) (shX_1 _) (fvX_1_5 _) ?_
  refine j_get (ci := 6) 0 (.ref 30) jC_6 dX10_hand_29 kg_RX10_94 rfl (okX_29 _) (shX_29 _) (fvX_29_0 _) ?_
  refine j_iload_n 1 dX10_hand_32 rfl rfl ?_
  replace h := bC_inv h
  obtain ⟨r9, cr9, h⟩ := h
  refine j_callS (st1 := .int r9 :: _) (c_X6_at g cr9) jy_X6_at kt_yX6_at kl_RX10_150 dX10_hand_33 rfl rfl rfl rfl (jbr _) (jbr _) hn.1 hn.2 (Or.inr rfl) rfl ?_
  refine j_istore_n [(3, .int r9), (0, .ref 1), (1, .int x1), (2, .int x2)] dX10_hand_36 rfl (Nat.le_of_ble_eq_true rfl) rfl ?_
  refine j_aload_n 1 dX10_hand_37 rfl rfl ?_
  refine j_get (ci := 9) 1 (.ref 4) jC_9 dX10_hand_38 kg_RX10_19 rfl (okX_1 _) (shX_1 _) (fvX_1_1 _) ?_
  refine j_iload_n 0 dX10_hand_41 rfl rfl ?_
  replace h := bC_inv h
  obtain ⟨r10, cr10, h⟩ := h
  refine j_callV (ci := 0) (st1 := .int r10 :: _) (c_X0_howIs g cr10) jy_X0_howIs ki_yX0_howIs ks_yX0_howIs kl_RX10_208 dX10_hand_42 rfl (okX_4 _) (shX_4 _) rfl rfl rfl rfl (jbr _) (jbr _) hn.1 hn.2 (Or.inr rfl) rfl ?_
  refine j_if_eq 52 dX10_hand_45 (by decide) (fun hc11 => ?_) (fun hc11 => ?_)
  · replace h := jif_t hc11 h
    refine j_iload_n 3 dX10_hand_52 rfl rfl ?_
    refine j_iconst (v := (-1)) dX10_hand_53 (by decide) ?_
    refine j_icmp_ne 63 dX10_hand_54 (by decide) (fun hc12 => ?_) (fun hc12 => ?_)
    · replace h := jif_f hc12 h
      refine j_aload_n 1 dX10_hand_63 rfl rfl ?_
      refine j_get (ci := 9) 1 (.ref 4) jC_9 dX10_hand_64 kg_RX10_19 rfl (okX_1 _) (shX_1 _) (fvX_1_1 _) ?_
      refine j_iload_n 0 dX10_hand_67 rfl rfl ?_
      replace h := bC_inv h
      obtain ⟨r13, cr13, h⟩ := h
      refine j_callV (ci := 0) (st1 := .int r13 :: _) (c_X0_allowed g cr13) jy_X0_allowed ki_yX0_allowed ks_yX0_allowed kl_RX10_211 dX10_hand_68 rfl (okX_4 _) (shX_4 _) rfl rfl rfl rfl (jbr _) (jbr _) hn.1 hn.2 (Or.inr rfl) rfl ?_
      refine j_iload_n 3 dX10_hand_71 rfl rfl ?_
      refine j_ishr dX10_hand_72 ?_
      refine j_iconst (v := 1) dX10_hand_73 (by decide) ?_
      refine j_iand dX10_hand_74 ?_
      refine j_if_ne 82 dX10_hand_75 (by decide) (fun hc14 => ?_) (fun hc14 => ?_)
      · replace h := jif_f hc14 h
        refine j_aload_n 1 dX10_hand_82 rfl rfl ?_
        refine j_iload_n 2 dX10_hand_83 rfl rfl ?_
        refine j_iload_n 3 dX10_hand_84 rfl rfl ?_
        replace h := bD_inv h
        obtain ⟨r15, σ16, cr15, h⟩ := h
        refine j_callV (ci := 9) (st1 := _) (c_X10_handTo g cr15) jy_X10_handTo ki_yX10_handTo ks_yX10_handTo kl_RX10_217 dX10_hand_85 rfl (okX_1 _) (shX_1 _) rfl rfl rfl rfl (jbr _) (jbr _) hn.1 hn.2 (Or.inr rfl) rfl ?_
        refine j_iload_n 3 dX10_hand_88 rfl rfl ?_
        replace h := Option.some.inj h
        subst h
        obtain ⟨hr1, hr2⟩ := hr _ _ hK
        exact j_iret dX10_hand_89 hr1 hr2
      · replace h := jif_t hc14 h
        refine j_sipush (v := (-1003)) dX10_hand_78 (by decide) ?_
        replace h := Option.some.inj h
        subst h
        obtain ⟨hr1, hr2⟩ := hr _ _ hK
        exact j_iret dX10_hand_81 hr1 hr2
    · replace h := jif_t hc12 h
      refine j_aload_n 1 dX10_hand_57 rfl rfl ?_
      refine j_iload_n 2 dX10_hand_58 rfl rfl ?_
      replace h := bD_inv h
      obtain ⟨r17, σ18, cr17, h⟩ := h
      refine j_callV (ci := 9) (st1 := .int r17 :: _) (c_X10_handByDraw g cr17) jy_X10_handByDraw ki_yX10_handByDraw ks_yX10_handByDraw kl_RX10_214 dX10_hand_59 rfl (okX_1 _) (shX_1 _) rfl rfl rfl rfl (jbr _) (jbr _) hn.1 hn.2 (Or.inr rfl) rfl ?_
      replace h := Option.some.inj h
      subst h
      obtain ⟨hr1, hr2⟩ := hr _ _ hK
      exact j_iret dX10_hand_62 hr1 hr2
  · replace h := jif_f hc11 h
    refine j_sipush (v := (-1003)) dX10_hand_48 (by decide) ?_
    replace h := Option.some.inj h
    subst h
    obtain ⟨hr1, hr2⟩ := hr _ _ hK
    exact j_iret dX10_hand_51 hr1 hr2
def f_X10_hand (σ : jS) (x1 : Int32) (x2 : Int32) : Option (Int32 × jS) :=
  bC (f_X10_isQuarrel σ x1) fun r1 =>
  if r1 = 0 then (f_X10_hand_J21 σ)
  else (if x2 = (-1) then (f_X10_hand_J25 σ x1 x2)
  else (bC (f_X10_isPerson σ x2) fun r19 =>
  if r19 = 0 then (f_X10_hand_J21 σ)
  else (f_X10_hand_J25 σ x1 x2)))
set_option maxHeartbeats 1000000 in
set_option maxRecDepth 20000 in
theorem f_X10_hand_ok {g : Bool} {rv : Option Value} {μ' : jM} (σ : jS) (x1 : Int32) (x2 : Int32) {Kp : (Int32 × jS) → Prop} (hn : Nat.ble nX μ'.1 = true ∧ Nat.ble wX μ'.2.1 = true) (hr : ∀ (r : Int32) (s : jS), Kp ((r, s)) → rv = some (.int r) ∧ μ' = eX s) (o : (Int32 × jS)) (h : f_X10_hand σ x1 x2 = some o) (hK : Kp o) : J yX10_hand cX10_hand 4 (some .int) 6 g rv μ' 0 [(0, .ref 1), (1, .int x1), (2, .int x2)] [] (eX σ) := by
  unfold f_X10_hand at h
  refine j_aload_n 0 dX10_hand_0 rfl rfl ?_
  refine j_iload_n 1 dX10_hand_1 rfl rfl ?_
  replace h := bC_inv h
  obtain ⟨r20, cr20, h⟩ := h
  refine j_callV (ci := 9) (st1 := .int r20 :: _) (c_X10_isQuarrel g cr20) jy_X10_isQuarrel ki_yX10_isQuarrel ks_yX10_isQuarrel kl_RX10_198 dX10_hand_2 rfl (okX_1 _) (shX_1 _) rfl rfl rfl rfl (jbr _) (jbr _) hn.1 hn.2 (Or.inr rfl) rfl ?_
  refine j_if_eq 21 dX10_hand_5 (by decide) (fun hc21 => ?_) (fun hc21 => ?_)
  · replace h := jif_t hc21 h
    refine j_sub [] [] rfl ?_
    exact f_X10_hand_J21_ok σ hn hr _ h hK
  · replace h := jif_f hc21 h
    refine j_iload_n 2 dX10_hand_8 rfl rfl ?_
    refine j_iconst (v := (-1)) dX10_hand_9 (by decide) ?_
    refine j_icmp_eq 25 dX10_hand_10 (by decide) (fun hc22 => ?_) (fun hc22 => ?_)
    · replace h := jif_t hc22 h
      exact f_X10_hand_J25_ok σ x1 x2 hn hr _ h hK
    · replace h := jif_f hc22 h
      refine j_aload_n 0 dX10_hand_13 rfl rfl ?_
      refine j_iload_n 2 dX10_hand_14 rfl rfl ?_
      replace h := bC_inv h
      obtain ⟨r23, cr23, h⟩ := h
      refine j_callV (ci := 9) (st1 := .int r23 :: _) (c_X10_isPerson g cr23) jy_X10_isPerson ki_yX10_isPerson ks_yX10_isPerson kl_RX10_143 dX10_hand_15 rfl (okX_1 _) (shX_1 _) rfl rfl rfl rfl (jbr _) (jbr _) hn.1 hn.2 (Or.inr rfl) rfl ?_
      refine j_if_ne 25 dX10_hand_18 (by decide) (fun hc24 => ?_) (fun hc24 => ?_)
      · replace h := jif_f hc24 h
        exact f_X10_hand_J25_ok σ x1 x2 hn hr _ h hK
      · replace h := jif_t hc24 h
        refine j_sub [] [] rfl ?_
        exact f_X10_hand_J21_ok σ hn hr _ h hK
theorem c_X10_hand (g : Bool) {σ : jS} {x1 : Int32} {x2 : Int32} {r : Int32} {σ2 : jS} (h : f_X10_hand σ x1 x2 = some (r, σ2)) : Cn yX10_hand cX10_hand 4 (some .int) 6 g [.ref 1, .int x1, .int x2] (eX σ) (some (.int r)) (eX σ2) :=
  Cn_of (by decide) (Nat.le_refl _) (Nat.le_refl _) (Nat.le_of_ble_eq_true rfl) (f_X10_hand_ok (Kp := (fun o => o = (r, σ2))) σ x1 x2 ⟨jbr _, jbr _⟩ (fun r2 s2 q => by cases q; exact ⟨rfl, rfl⟩) _ h rfl)
def f_X10_begin (σ : jS) (x1 : Int32) : Option (Int32 × jS) :=
  bC (f_X10_isQuarrel σ x1) fun r1 =>
  if r1 = 0 then (some (((-1001), σ)))
  else (bC (f_X6_at σ 31 x1) fun r2 =>
  bC (f_X10_toldHow σ x1) fun r3 =>
  bD (f_X6_put σ 30 x1 r3) fun r4 σ5 =>
  bD (f_X6_put σ5 31 x1 0) fun r6 σ7 =>
  some ((r2, σ7)))
set_option maxHeartbeats 1000000 in
set_option maxRecDepth 20000 in
theorem f_X10_begin_ok {g : Bool} {rv : Option Value} {μ' : jM} (σ : jS) (x1 : Int32) {Kp : (Int32 × jS) → Prop} (hn : Nat.ble nX μ'.1 = true ∧ Nat.ble wX μ'.2.1 = true) (hr : ∀ (r : Int32) (s : jS), Kp ((r, s)) → rv = some (.int r) ∧ μ' = eX s) (o : (Int32 × jS)) (h : f_X10_begin σ x1 = some o) (hK : Kp o) : J yX10_begin cX10_begin 3 (some .int) 3 g rv μ' 0 [(0, .ref 1), (1, .int x1)] [] (eX σ) := by
  unfold f_X10_begin at h
  refine j_aload_n 0 dX10_begin_0 rfl rfl ?_
  refine j_iload_n 1 dX10_begin_1 rfl rfl ?_
  replace h := bC_inv h
  obtain ⟨r8, cr8, h⟩ := h
  refine j_callV (ci := 9) (st1 := .int r8 :: _) (c_X10_isQuarrel g cr8) jy_X10_isQuarrel ki_yX10_isQuarrel ks_yX10_isQuarrel kl_RX10_198 dX10_begin_2 rfl (okX_1 _) (shX_1 _) rfl rfl rfl rfl (jbr _) (jbr _) hn.1 hn.2 (Or.inr rfl) rfl ?_
  refine j_if_ne 12 dX10_begin_5 (by decide) (fun hc9 => ?_) (fun hc9 => ?_)
  · replace h := jif_f hc9 h
    refine j_aload_n 0 dX10_begin_12 rfl rfl ?_
    refine j_get (ci := 9) 5 (.ref 29) jC_9 dX10_begin_13 kg_RX10_47 rfl (okX_1 _) (shX_1 _) (fvX_1_5 _) ?_
    refine j_get (ci := 6) 1 (.ref 31) jC_6 dX10_begin_16 kg_RX10_108 rfl (okX_29 _) (shX_29 _) (fvX_29_1 _) ?_
    refine j_iload_n 1 dX10_begin_19 rfl rfl ?_
    replace h := bC_inv h
    obtain ⟨r10, cr10, h⟩ := h
    refine j_callS (st1 := .int r10 :: _) (c_X6_at g cr10) jy_X6_at kt_yX6_at kl_RX10_150 dX10_begin_20 rfl rfl rfl rfl (jbr _) (jbr _) hn.1 hn.2 (Or.inr rfl) rfl ?_
    refine j_istore_n [(2, .int r10), (0, .ref 1), (1, .int x1)] dX10_begin_23 rfl (Nat.le_of_ble_eq_true rfl) rfl ?_
    refine j_aload_n 1 dX10_begin_24 rfl rfl ?_
    refine j_get (ci := 9) 5 (.ref 29) jC_9 dX10_begin_25 kg_RX10_47 rfl (okX_1 _) (shX_1 _) (fvX_1_5 _) ?_
    refine j_get (ci := 6) 0 (.ref 30) jC_6 dX10_begin_28 kg_RX10_94 rfl (okX_29 _) (shX_29 _) (fvX_29_0 _) ?_
    refine j_iload_n 2 dX10_begin_31 rfl rfl ?_
    refine j_aload_n 1 dX10_begin_32 rfl rfl ?_
    refine j_iload_n 2 dX10_begin_33 rfl rfl ?_
    replace h := bC_inv h
    obtain ⟨r11, cr11, h⟩ := h
    refine j_callV (ci := 9) (st1 := .int r11 :: _) (c_X10_toldHow g cr11) jy_X10_toldHow ki_yX10_toldHow ks_yX10_toldHow kl_RX10_98 dX10_begin_34 rfl (okX_1 _) (shX_1 _) rfl rfl rfl rfl (jbr _) (jbr _) hn.1 hn.2 (Or.inr rfl) rfl ?_
    replace h := bD_inv h
    obtain ⟨r12, σ13, cr12, h⟩ := h
    refine j_callS (st1 := _) (c_X6_put g cr12) jy_X6_put kt_yX6_put kl_RX10_102 dX10_begin_37 rfl rfl rfl rfl (jbr _) (jbr _) hn.1 hn.2 (Or.inr rfl) rfl ?_
    refine j_aload_n 1 dX10_begin_40 rfl rfl ?_
    refine j_get (ci := 9) 5 (.ref 29) jC_9 dX10_begin_41 kg_RX10_47 rfl (okX_1 _) (shX_1 _) (fvX_1_5 _) ?_
    refine j_get (ci := 6) 1 (.ref 31) jC_6 dX10_begin_44 kg_RX10_108 rfl (okX_29 _) (shX_29 _) (fvX_29_1 _) ?_
    refine j_iload_n 2 dX10_begin_47 rfl rfl ?_
    refine j_iconst (v := 0) dX10_begin_48 (by decide) ?_
    replace h := bD_inv h
    obtain ⟨r14, σ15, cr14, h⟩ := h
    refine j_callS (st1 := _) (c_X6_put g cr14) jy_X6_put kt_yX6_put kl_RX10_102 dX10_begin_49 rfl rfl rfl rfl (jbr _) (jbr _) hn.1 hn.2 (Or.inr rfl) rfl ?_
    refine j_iload_n 0 dX10_begin_52 rfl rfl ?_
    replace h := Option.some.inj h
    subst h
    obtain ⟨hr1, hr2⟩ := hr _ _ hK
    exact j_iret dX10_begin_53 hr1 hr2
  · replace h := jif_t hc9 h
    refine j_sipush (v := (-1001)) dX10_begin_8 (by decide) ?_
    replace h := Option.some.inj h
    subst h
    obtain ⟨hr1, hr2⟩ := hr _ _ hK
    exact j_iret dX10_begin_11 hr1 hr2
theorem c_X10_begin (g : Bool) {σ : jS} {x1 : Int32} {r : Int32} {σ2 : jS} (h : f_X10_begin σ x1 = some (r, σ2)) : Cn yX10_begin cX10_begin 3 (some .int) 3 g [.ref 1, .int x1] (eX σ) (some (.int r)) (eX σ2) :=
  Cn_of (by decide) (Nat.le_refl _) (Nat.le_refl _) (Nat.le_of_ble_eq_true rfl) (f_X10_begin_ok (Kp := (fun o => o = (r, σ2))) σ x1 ⟨jbr _, jbr _⟩ (fun r2 s2 q => by cases q; exact ⟨rfl, rfl⟩) _ h rfl)
def f_X10_drift_J23 (σ : jS) : Option (Int32 × jS) :=
  some (((-1002), σ))
set_option maxHeartbeats 1000000 in
set_option maxRecDepth 20000 in
theorem f_X10_drift_J23_ok {g : Bool} {rv : Option Value} {μ' : jM} (σ : jS) {Kp : (Int32 × jS) → Prop} (hn : Nat.ble nX μ'.1 = true ∧ Nat.ble wX μ'.2.1 = true) (hr : ∀ (r : Int32) (s : jS), Kp ((r, s)) → rv = some (.int r) ∧ μ' = eX s) (o : (Int32 × jS)) (h : f_X10_drift_J23 σ = some o) (hK : Kp o) : J yX10_drift cX10_drift 4 (some .int) 6 g rv μ' 23 [] [] (eX σ) := by
  unfold f_X10_drift_J23 at h
  refine j_sipush (v := (-1002)) dX10_drift_23 (by decide) ?_
  replace h := Option.some.inj h
  subst h
  obtain ⟨hr1, hr2⟩ := hr _ _ hK
  exact j_iret dX10_drift_26 hr1 hr2
def f_X10_drift_J67 (σ : jS) (x1 : Int32) : Option (Int32 × jS) :=
  bC (f_X6_at σ 30 x1) fun r2 =>
  bC (f_X0_howIs σ r2) fun r3 =>
  some ((r3, σ))
set_option maxHeartbeats 1000000 in
set_option maxRecDepth 20000 in
theorem f_X10_drift_J67_ok {g : Bool} {rv : Option Value} {μ' : jM} (σ : jS) (x1 : Int32) {Kp : (Int32 × jS) → Prop} (hn : Nat.ble nX μ'.1 = true ∧ Nat.ble wX μ'.2.1 = true) (hr : ∀ (r : Int32) (s : jS), Kp ((r, s)) → rv = some (.int r) ∧ μ' = eX s) (o : (Int32 × jS)) (h : f_X10_drift_J67 σ x1 = some o) (hK : Kp o) : J yX10_drift cX10_drift 4 (some .int) 6 g rv μ' 67 [(0, .ref 1), (1, .int x1)] [] (eX σ) := by
  unfold f_X10_drift_J67 at h
  refine j_aload_n 0 dX10_drift_67 rfl rfl ?_
  refine j_get (ci := 9) 1 (.ref 4) jC_9 dX10_drift_68 kg_RX10_19 rfl (okX_1 _) (shX_1 _) (fvX_1_1 _) ?_
  refine j_aload_n 0 dX10_drift_71 rfl rfl ?_
  refine j_get (ci := 9) 5 (.ref 29) jC_9 dX10_drift_72 kg_RX10_47 rfl (okX_1 _) (shX_1 _) (fvX_1_5 _) ?_
  refine j_get (ci := 6) 0 (.ref 30) jC_6 dX10_drift_75 kg_RX10_94 rfl (okX_29 _) (shX_29 _) (fvX_29_0 _) ?_
  refine j_iload_n 1 dX10_drift_78 rfl rfl ?_
  replace h := bC_inv h
  obtain ⟨r4, cr4, h⟩ := h
  refine j_callS (st1 := .int r4 :: _) (c_X6_at g cr4) jy_X6_at kt_yX6_at kl_RX10_150 dX10_drift_79 rfl rfl rfl rfl (jbr _) (jbr _) hn.1 hn.2 (Or.inr rfl) rfl ?_
  replace h := bC_inv h
  obtain ⟨r5, cr5, h⟩ := h
  refine j_callV (ci := 0) (st1 := .int r5 :: _) (c_X0_howIs g cr5) jy_X0_howIs ki_yX0_howIs ks_yX0_howIs kl_RX10_208 dX10_drift_82 rfl (okX_4 _) (shX_4 _) rfl rfl rfl rfl (jbr _) (jbr _) hn.1 hn.2 (Or.inr rfl) rfl ?_
  replace h := Option.some.inj h
  subst h
  obtain ⟨hr1, hr2⟩ := hr _ _ hK
  exact j_iret dX10_drift_85 hr1 hr2
def f_X10_drift_B29 (σ : jS) (x1 : Int32) (x2 : Int32) (x3 : Int32) : Option ((Int32 × jS) ⊕ (Int32 × jS)) :=
  if x2 ≤ x3 then (jw (f_X10_drift_J67 σ x1))
  else (bC (f_X6_at σ 30 x1) fun r6 =>
  bC (f_X0_howIs σ r6) fun r7 =>
  if r7 = 0 then (bD (f_X10_handByDraw σ x1) fun r8 σ9 =>
  bV (x3 + 1) fun v10 =>
  some (.inl (v10, σ9)))
  else (jw (f_X10_drift_J67 σ x1)))
set_option maxHeartbeats 1000000 in
set_option maxRecDepth 20000 in
theorem f_X10_drift_B29_ok {g : Bool} {rv : Option Value} {μ' : jM} (σ : jS) (x1 : Int32) (x2 : Int32) (x3 : Int32) {Kp : ((Int32 × jS) ⊕ (Int32 × jS)) → Prop} (hn : Nat.ble nX μ'.1 = true ∧ Nat.ble wX μ'.2.1 = true) (hr : ∀ (r : Int32) (s : jS), Kp (.inr ((r, s))) → rv = some (.int r) ∧ μ' = eX s) (hc0 : ∀ s : (Int32 × jS), Kp (.inl s) → J yX10_drift cX10_drift 4 (some .int) 6 g rv μ' 29 [(0, .ref 1), (1, .int x1), (2, .int x2), (3, .int s.1)] [] (eX s.2)) (o : ((Int32 × jS) ⊕ (Int32 × jS))) (h : f_X10_drift_B29 σ x1 x2 x3 = some o) (hK : Kp o) : J yX10_drift cX10_drift 4 (some .int) 6 g rv μ' 29 [(0, .ref 1), (1, .int x1), (2, .int x2), (3, .int x3)] [] (eX σ) := by
  unfold f_X10_drift_B29 at h
  refine j_iload_n 3 dX10_drift_29 rfl rfl ?_
  refine j_iload_n 2 dX10_drift_30 rfl rfl ?_
  refine j_icmp_ge 67 dX10_drift_31 (by decide) (fun hc11 => ?_) (fun hc11 => ?_)
  · replace h := jif_t hc11 h
    replace h := jw_inv h
    obtain ⟨o12, rfl, h⟩ := h
    refine j_sub [(0, .ref 1), (1, .int x1)] [0, 1] rfl ?_
    exact f_X10_drift_J67_ok (Kp := fun o => Kp (.inr (o))) σ x1 hn (fun r s q => hr r s q) _ h hK
  · replace h := jif_f hc11 h
    refine j_aload_n 0 dX10_drift_34 rfl rfl ?_
    refine j_get (ci := 9) 1 (.ref 4) jC_9 dX10_drift_35 kg_RX10_19 rfl (okX_1 _) (shX_1 _) (fvX_1_1 _) ?_
    refine j_aload_n 0 dX10_drift_38 rfl rfl ?_
    refine j_get (ci := 9) 5 (.ref 29) jC_9 dX10_drift_39 kg_RX10_47 rfl (okX_1 _) (shX_1 _) (fvX_1_5 _) ?_
    refine j_get (ci := 6) 0 (.ref 30) jC_6 dX10_drift_42 kg_RX10_94 rfl (okX_29 _) (shX_29 _) (fvX_29_0 _) ?_
    refine j_iload_n 1 dX10_drift_45 rfl rfl ?_
    replace h := bC_inv h
    obtain ⟨r13, cr13, h⟩ := h
    refine j_callS (st1 := .int r13 :: _) (c_X6_at g cr13) jy_X6_at kt_yX6_at kl_RX10_150 dX10_drift_46 rfl rfl rfl rfl (jbr _) (jbr _) hn.1 hn.2 (Or.inr rfl) rfl ?_
    replace h := bC_inv h
    obtain ⟨r14, cr14, h⟩ := h
    refine j_callV (ci := 0) (st1 := .int r14 :: _) (c_X0_howIs g cr14) jy_X0_howIs ki_yX0_howIs ks_yX0_howIs kl_RX10_208 dX10_drift_49 rfl (okX_4 _) (shX_4 _) rfl rfl rfl rfl (jbr _) (jbr _) hn.1 hn.2 (Or.inr rfl) rfl ?_
    refine j_if_ne 67 dX10_drift_52 (by decide) (fun hc15 => ?_) (fun hc15 => ?_)
    · replace h := jif_f hc15 h
      replace h := jw_inv h
      obtain ⟨o16, rfl, h⟩ := h
      refine j_sub [(0, .ref 1), (1, .int x1)] [0, 1] rfl ?_
      exact f_X10_drift_J67_ok (Kp := fun o => Kp (.inr (o))) σ x1 hn (fun r s q => hr r s q) _ h hK
    · replace h := jif_t hc15 h
      refine j_aload_n 0 dX10_drift_55 rfl rfl ?_
      refine j_iload_n 1 dX10_drift_56 rfl rfl ?_
      replace h := bD_inv h
      obtain ⟨r17, σ18, cr17, h⟩ := h
      refine j_callV (ci := 9) (st1 := .int r17 :: _) (c_X10_handByDraw g cr17) jy_X10_handByDraw ki_yX10_handByDraw ks_yX10_handByDraw kl_RX10_214 dX10_drift_57 rfl (okX_1 _) (shX_1 _) rfl rfl rfl rfl (jbr _) (jbr _) hn.1 hn.2 (Or.inr rfl) rfl ?_
      refine j_pop dX10_drift_60 rfl ?_
      replace h := bV_inv h
      obtain ⟨v19, ev19, h⟩ := h
      refine j_iinc (v := v19) [(3, .int v19), (0, .ref 1), (1, .int x1), (2, .int x2)] 3 dX10_drift_61 rfl (by rw [ev19]; rfl) (Nat.le_of_ble_eq_true rfl) rfl ?_
      refine j_goto 29 dX10_drift_64 (by decide) ?_
      replace h := Option.some.inj h
      subst h
      refine j_sub [(0, .ref 1), (1, .int x1), (2, .int x2), (3, .int v19)] [1, 2, 3, 0] rfl ?_
      exact hc0 _ hK
def f_X10_drift (σ : jS) (x1 : Int32) (x2 : Int32) : Option (Int32 × jS) :=
  bC (f_X10_isQuarrel σ x1) fun r1 =>
  if r1 = 0 then (some (((-1001), σ)))
  else (if x2 < 1 then (f_X10_drift_J23 σ)
  else (if x2 ≤ 99 then (jloop jFuel (fun s => f_X10_drift_B29 s.2 x1 x2 s.1) (0, σ))
  else (f_X10_drift_J23 σ)))
set_option maxHeartbeats 1000000 in
set_option maxRecDepth 20000 in
theorem f_X10_drift_ok {g : Bool} {rv : Option Value} {μ' : jM} (σ : jS) (x1 : Int32) (x2 : Int32) {Kp : (Int32 × jS) → Prop} (hn : Nat.ble nX μ'.1 = true ∧ Nat.ble wX μ'.2.1 = true) (hr : ∀ (r : Int32) (s : jS), Kp ((r, s)) → rv = some (.int r) ∧ μ' = eX s) (o : (Int32 × jS)) (h : f_X10_drift σ x1 x2 = some o) (hK : Kp o) : J yX10_drift cX10_drift 4 (some .int) 6 g rv μ' 0 [(0, .ref 1), (1, .int x1), (2, .int x2)] [] (eX σ) := by
  unfold f_X10_drift at h
  refine j_aload_n 0 dX10_drift_0 rfl rfl ?_
  refine j_iload_n 1 dX10_drift_1 rfl rfl ?_
  replace h := bC_inv h
  obtain ⟨r20, cr20, h⟩ := h
  refine j_callV (ci := 9) (st1 := .int r20 :: _) (c_X10_isQuarrel g cr20) jy_X10_isQuarrel ki_yX10_isQuarrel ks_yX10_isQuarrel kl_RX10_198 dX10_drift_2 rfl (okX_1 _) (shX_1 _) rfl rfl rfl rfl (jbr _) (jbr _) hn.1 hn.2 (Or.inr rfl) rfl ?_
  refine j_if_ne 12 dX10_drift_5 (by decide) (fun hc21 => ?_) (fun hc21 => ?_)
  · replace h := jif_f hc21 h
    refine j_iload_n 2 dX10_drift_12 rfl rfl ?_
    refine j_iconst (v := 1) dX10_drift_13 (by decide) ?_
    refine j_icmp_lt 23 dX10_drift_14 (by decide) (fun hc22 => ?_) (fun hc22 => ?_)
    · replace h := jif_t hc22 h
      refine j_sub [] [] rfl ?_
      exact f_X10_drift_J23_ok σ hn hr _ h hK
    · replace h := jif_f hc22 h
      refine j_iload_n 2 dX10_drift_17 rfl rfl ?_
      refine j_bipush (v := 99) dX10_drift_18 (by decide) ?_
      refine j_icmp_le 27 dX10_drift_20 (by decide) (fun hc23 => ?_) (fun hc23 => ?_)
      · replace h := jif_t hc23 h
        refine j_iconst (v := 0) dX10_drift_27 (by decide) ?_
        refine j_istore_n [(3, .int 0), (0, .ref 1), (1, .int x1), (2, .int x2)] dX10_drift_28 rfl (Nat.le_of_ble_eq_true rfl) rfl ?_
        refine j_sub [(0, .ref 1), (1, .int x1), (2, .int x2), (3, .int 0)] [1, 2, 3, 0] rfl ?_
        exact jloop_ok (fun s => f_X10_drift_B29 s.2 x1 x2 s.1) (fun s => J yX10_drift cX10_drift 4 (some .int) 6 g rv μ' 29 [(0, .ref 1), (1, .int x1), (2, .int x2), (3, .int s.1)] [] (eX s.2)) Kp (fun s o hb hk => f_X10_drift_B29_ok (Kp := jsum (fun s => J yX10_drift cX10_drift 4 (some .int) 6 g rv μ' 29 [(0, .ref 1), (1, .int x1), (2, .int x2), (3, .int s.1)] [] (eX s.2)) Kp) s.2 x1 x2 s.1 hn (fun r s q => hr r s q) (fun s q => q) o hb hk) jFuel _ _ h hK
      · replace h := jif_f hc23 h
        refine j_sub [] [] rfl ?_
        exact f_X10_drift_J23_ok σ hn hr _ h hK
  · replace h := jif_t hc21 h
    refine j_sipush (v := (-1001)) dX10_drift_8 (by decide) ?_
    replace h := Option.some.inj h
    subst h
    obtain ⟨hr1, hr2⟩ := hr _ _ hK
    exact j_iret dX10_drift_11 hr1 hr2
theorem c_X10_drift (g : Bool) {σ : jS} {x1 : Int32} {x2 : Int32} {r : Int32} {σ2 : jS} (h : f_X10_drift σ x1 x2 = some (r, σ2)) : Cn yX10_drift cX10_drift 4 (some .int) 6 g [.ref 1, .int x1, .int x2] (eX σ) (some (.int r)) (eX σ2) :=
  Cn_of (by decide) (Nat.le_refl _) (Nat.le_refl _) (Nat.le_of_ble_eq_true rfl) (f_X10_drift_ok (Kp := (fun o => o = (r, σ2))) σ x1 x2 ⟨jbr _, jbr _⟩ (fun r2 s2 q => by cases q; exact ⟨rfl, rfl⟩) _ h rfl)
def f_X0_endsFound_J30 (σ : jS) (x1 : Int32) : Option Int32 :=
  some (x1)
set_option maxHeartbeats 1000000 in
set_option maxRecDepth 20000 in
theorem f_X0_endsFound_J30_ok {g : Bool} {rv : Option Value} {μ' : jM} (σ : jS) (x1 : Int32) {Kp : Int32 → Prop} (hn : Nat.ble nX μ'.1 = true ∧ Nat.ble wX μ'.2.1 = true) (hr : ∀ r : Int32, Kp (r) → rv = some (.int r) ∧ μ' = (eX σ)) (o : Int32) (h : f_X0_endsFound_J30 σ x1 = some o) (hK : Kp o) : J yX0_endsFound cX0_endsFound 3 (some .int) 2 g rv μ' 30 [(1, .int x1)] [] (eX σ) := by
  unfold f_X0_endsFound_J30 at h
  refine j_iload_n 0 dX0_endsFound_30 rfl rfl ?_
  replace h := Option.some.inj h
  subst h
  obtain ⟨hr1, hr2⟩ := hr _ hK
  exact j_iret dX0_endsFound_31 hr1 hr2
def f_X0_endsFound_B4 (σ : jS) (x1 : Int32) (x2 : Int32) : Option ((Int32 × Int32) ⊕ Int32) :=
  if 16 ≤ x2 then (jw (f_X0_endsFound_J30 σ x1))
  else (bC (f_X6_at σ 16 x2) fun r1 =>
  bC (f_J6_bitCount_0f7a4 r1) fun r2 =>
  bV (x1 + r2) fun v3 =>
  bV (x2 + 1) fun v4 =>
  some (.inl (v3, v4)))
set_option maxHeartbeats 1000000 in
set_option maxRecDepth 20000 in
theorem f_X0_endsFound_B4_ok {g : Bool} {rv : Option Value} {μ' : jM} (σ : jS) (x1 : Int32) (x2 : Int32) {Kp : ((Int32 × Int32) ⊕ Int32) → Prop} (hn : Nat.ble nX μ'.1 = true ∧ Nat.ble wX μ'.2.1 = true) (hr : ∀ r : Int32, Kp (.inr (r)) → rv = some (.int r) ∧ μ' = (eX σ)) (hc0 : ∀ s : (Int32 × Int32), Kp (.inl s) → J yX0_endsFound cX0_endsFound 3 (some .int) 2 g rv μ' 4 [(0, .ref 4), (1, .int s.1), (2, .int s.2)] [] (eX σ)) (o : ((Int32 × Int32) ⊕ Int32)) (h : f_X0_endsFound_B4 σ x1 x2 = some o) (hK : Kp o) : J yX0_endsFound cX0_endsFound 3 (some .int) 2 g rv μ' 4 [(0, .ref 4), (1, .int x1), (2, .int x2)] [] (eX σ) := by
  unfold f_X0_endsFound_B4 at h
  refine j_iload_n 2 dX0_endsFound_4 rfl rfl ?_
  refine j_bipush (v := 16) dX0_endsFound_5 (by decide) ?_
  refine j_icmp_ge 30 dX0_endsFound_7 (by decide) (fun hc5 => ?_) (fun hc5 => ?_)
  · replace h := jif_t hc5 h
    replace h := jw_inv h
    obtain ⟨o6, rfl, h⟩ := h
    refine j_sub [(1, .int x1)] [1] rfl ?_
    exact f_X0_endsFound_J30_ok (Kp := fun o => Kp (.inr (o))) σ x1 hn (fun r q => hr r q) _ h hK
  · replace h := jif_f hc5 h
    refine j_iload_n 1 dX0_endsFound_10 rfl rfl ?_
    refine j_aload_n 0 dX0_endsFound_11 rfl rfl ?_
    refine j_get (ci := 0) 9 (.ref 16) jC_0 dX0_endsFound_12 kg_RX0_34 rfl (okX_4 _) (shX_4 _) (fvX_4_9 _) ?_
    refine j_iload_n 2 dX0_endsFound_15 rfl rfl ?_
    replace h := bC_inv h
    obtain ⟨r7, cr7, h⟩ := h
    refine j_callS (st1 := .int r7 :: _) (c_X6_at g cr7) jy_X6_at kt_yX6_at kl_RX0_61 dX0_endsFound_16 rfl rfl rfl rfl (jbr _) (jbr _) hn.1 hn.2 (Or.inr rfl) rfl ?_
    replace h := bC_inv h
    obtain ⟨r8, cr8, h⟩ := h
    refine j_callS (st1 := .int r8 :: _) (c_J6_bitCount_0f7a4 g _ cr8) jy_J6_bitCount_0f7a4 kt_yJ6_bitCount_0f7a4 kl_RX0_167 dX0_endsFound_19 rfl rfl rfl rfl (jbr _) (jbr _) hn.1 hn.2 (Or.inr rfl) rfl ?_
    refine j_iadd dX0_endsFound_22 ?_
    replace h := bV_inv h
    obtain ⟨v9, ev9, h⟩ := h
    refine j_nmi ev9 ?_
    refine j_istore_n [(1, .int v9), (0, .ref 4), (2, .int x2)] dX0_endsFound_23 rfl (Nat.le_of_ble_eq_true rfl) rfl ?_
    replace h := bV_inv h
    obtain ⟨v10, ev10, h⟩ := h
    refine j_iinc (v := v10) [(2, .int v10), (1, .int v9), (0, .ref 4)] 2 dX0_endsFound_24 rfl (by rw [ev10]; rfl) (Nat.le_of_ble_eq_true rfl) rfl ?_
    refine j_goto 4 dX0_endsFound_27 (by decide) ?_
    replace h := Option.some.inj h
    subst h
    refine j_sub [(0, .ref 4), (1, .int v9), (2, .int v10)] [2, 1, 0] rfl ?_
    exact hc0 _ hK
def f_X0_endsFound (σ : jS) : Option Int32 :=
  jloop jFuel (fun s => f_X0_endsFound_B4 σ s.1 s.2) (0, 0)
set_option maxHeartbeats 1000000 in
set_option maxRecDepth 20000 in
theorem f_X0_endsFound_ok {g : Bool} {rv : Option Value} {μ' : jM} (σ : jS) {Kp : Int32 → Prop} (hn : Nat.ble nX μ'.1 = true ∧ Nat.ble wX μ'.2.1 = true) (hr : ∀ r : Int32, Kp (r) → rv = some (.int r) ∧ μ' = (eX σ)) (o : Int32) (h : f_X0_endsFound σ = some o) (hK : Kp o) : J yX0_endsFound cX0_endsFound 3 (some .int) 2 g rv μ' 0 [(0, .ref 4)] [] (eX σ) := by
  unfold f_X0_endsFound at h
  refine j_iconst (v := 0) dX0_endsFound_0 (by decide) ?_
  refine j_istore_n [(1, .int 0), (0, .ref 4)] dX0_endsFound_1 rfl (Nat.le_of_ble_eq_true rfl) rfl ?_
  refine j_iconst (v := 0) dX0_endsFound_2 (by decide) ?_
  refine j_istore_n [(2, .int 0), (1, .int 0), (0, .ref 4)] dX0_endsFound_3 rfl (Nat.le_of_ble_eq_true rfl) rfl ?_
  refine j_sub [(0, .ref 4), (1, .int 0), (2, .int 0)] [2, 1, 0] rfl ?_
  exact jloop_ok (fun s => f_X0_endsFound_B4 σ s.1 s.2) (fun s => J yX0_endsFound cX0_endsFound 3 (some .int) 2 g rv μ' 4 [(0, .ref 4), (1, .int s.1), (2, .int s.2)] [] (eX σ)) Kp (fun s o hb hk => f_X0_endsFound_B4_ok (Kp := jsum (fun s => J yX0_endsFound cX0_endsFound 3 (some .int) 2 g rv μ' 4 [(0, .ref 4), (1, .int s.1), (2, .int s.2)] [] (eX σ)) Kp) σ s.1 s.2 hn (fun r q => hr r q) (fun s q => q) o hb hk) jFuel _ _ h hK
theorem c_X0_endsFound (g : Bool) {σ : jS} {r : Int32} (h : f_X0_endsFound σ = some r) : Cn yX0_endsFound cX0_endsFound 3 (some .int) 2 g [.ref 4] (eX σ) (some (.int r)) (eX σ) :=
  Cn_of (by decide) (Nat.le_refl _) (Nat.le_refl _) (Nat.le_of_ble_eq_true rfl) (f_X0_endsFound_ok (Kp := (fun o => o = r)) σ ⟨jbr _, jbr _⟩ (fun r2 q => by cases q; exact ⟨rfl, rfl⟩) _ h rfl)
