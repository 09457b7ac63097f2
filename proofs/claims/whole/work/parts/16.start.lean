theorem ksr_0 : Cond.stringRef RX5 110 "person" ∈ lw_tbl := jT_2 173 rfl
theorem ksr_1 : Cond.stringRef RX5 112 "owes" ∈ lw_tbl := jT_2 174 rfl
theorem ksr_2 : Cond.stringRef RX5 114 "grudge" ∈ lw_tbl := jT_2 175 rfl
theorem ksr_3 : Cond.stringRef RX5 116 "quarrel" ∈ lw_tbl := jT_2 176 rfl
theorem kls_0 : Cond.laysStatic "java/lang/String" "COMPACT_STRINGS" "Z" ∈ lw_tbl := jT_2 190 rfl
theorem kls_1 : Cond.laysStatic "jdk/internal/util/Preconditions" "SIOOBE_FORMATTER" "Ljava/util/function/BiFunction;" ∈ lw_tbl := jT_2 206 rfl
theorem lw_arr {s : State} {args : Array Value} {ty : FieldType} (hp : ∀ C, ty ≠ .object C) (h : (Cond.arrayClass ty).before args s = true) : ∃ cA : ClassId, ArrOfT s cA ty ∧ va_RA s cA ty := by
  obtain ⟨cA, kA, comp, h1, h2, h3⟩ := Cond.arrayClass_spec h
  refine ⟨cA, fun n z => ⟨fun k h => (by cases h), kA, h2, comp, h3⟩, ?_⟩
  cases ty with
  | object C => exact absurd rfl (hp C)
  | _ => exact h1
theorem lw_arrq {s : State} {args : Array Value} {C : String} (h : (Cond.arrayOver (.object C)).before args s = true) : ∃ cA : ClassId, ArrOfT s cA (.object C) ∧ va_RA s cA (.object C) := by
  obtain ⟨comp, cA, kA, h1, h2, h3, h4, h5⟩ := Cond.arrayOver_spec h
  exact ⟨cA, fun n z => ⟨fun k h => (by cases h), kA, h3, comp, h4⟩, kA, comp, h3, h4, h1, h5⟩
/-- the start: the tables, the texts, the statics -/
theorem lw_env {p : Program} {s : State} {m : MethodId} {meth : Method} {c : Code} {b L : Nat} {xs : Nat → Int32} (C0 : lw_At p s m meth c b L xs) : ∃ (D : va_G) (cy : Nat → ClassId) (adX adM : Nat → Nat) (bX : Nat), lw_E p s m meth c b L xs D cy adX adM bX := by
  obtain ⟨hx, hb, hr, hml, hown, hts, hX, hbl, hlocks, hgv⟩ := id C0
  have htG : ∀ w ∈ jG, w.before #[Value.ref b] s = true := fun w hw => hts w (jG_sub w hw)
  have hn := flat_of_before _ hgv
  obtain ⟨c0, i0, hKn0⟩ := u_known (C := RX0) (T := TX0) (N := 12) (n := 12) htG kw_X0 (htG _ kv_RX0)
  obtain ⟨c1, i1, hKn1⟩ := u_known (C := RX1) (T := TX1) (N := 4) (n := 4) htG kw_X1 (htG _ kv_RX1)
  obtain ⟨c2, i2, hKn2⟩ := u_known (C := RX2) (T := TX2) (N := 5) (n := 5) htG kw_X2 (htG _ kv_RX2)
  obtain ⟨c3, i3, hKn3⟩ := u_known (C := RX3) (T := TX3) (N := 7) (n := 7) htG kw_X3 (htG _ kv_RX3)
  obtain ⟨c4, i4, hKn4⟩ := u_known (C := RX4) (T := TX4) (N := 6) (n := 6) htG kw_X4 (htG _ kv_RX4)
  obtain ⟨c5, i5, hKn5⟩ := u_known (C := RX5) (T := TX5) (N := 5) (n := 5) htG kw_X5 (htG _ kv_RX5)
  obtain ⟨c6, i6, hKn6⟩ := u_known (C := RX7) (T := TX7) (N := 7) (n := 7) htG kw_X7 (htG _ kv_RX7)
  obtain ⟨c7, i7, hKn7⟩ := u_known (C := RX8) (T := TX8) (N := 9) (n := 9) htG kw_X8 (htG _ kv_RX8)
  obtain ⟨c8, i8, hKn8⟩ := u_known (C := RX9) (T := TX9) (N := 6) (n := 6) htG kw_X9 (htG _ kv_RX9)
  obtain ⟨c9, i9, hKn9⟩ := u_known (C := RX10) (T := TX10) (N := 10) (n := 10) htG kw_X10 (htG _ kv_RX10)
  obtain ⟨c10, i10, hKn10⟩ := u_known (C := RX11) (T := TX11) (N := 71) (n := 71) htG kw_X11 (htG _ kv_RX11)
  obtain ⟨D, hKc⟩ : ∃ D : va_G, ∀ (k : Nat) (q : vw_C), vwCl[k]? = some q → u_Kn s q.1 q.2.1 q.2.2 (D.1 k) (D.2 k) := by
    refine ⟨(fun k => if k = 0 then c0 else if k = 1 then c1 else if k = 2 then c2 else if k = 3 then c3 else if k = 4 then c4 else if k = 5 then c5 else if k = 6 then c6 else if k = 7 then c7 else if k = 8 then c8 else if k = 9 then c9 else c10, fun k => if k = 0 then i0 else if k = 1 then i1 else if k = 2 then i2 else if k = 3 then i3 else if k = 4 then i4 else if k = 5 then i5 else if k = 6 then i6 else if k = 7 then i7 else if k = 8 then i8 else if k = 9 then i9 else i10), ?_⟩
    intro k q hq
    match k, hq with
    | 0, hq => cases hq; exact hKn0
    | 1, hq => cases hq; exact hKn1
    | 2, hq => cases hq; exact hKn2
    | 3, hq => cases hq; exact hKn3
    | 4, hq => cases hq; exact hKn4
    | 5, hq => cases hq; exact hKn5
    | 6, hq => cases hq; exact hKn6
    | 7, hq => cases hq; exact hKn7
    | 8, hq => cases hq; exact hKn8
    | 9, hq => cases hq; exact hKn9
    | 10, hq => cases hq; exact hKn10
    | k + 11, hq => simp [vwCl] at hq
  obtain ⟨y0, ha0, hb0⟩ := lw_arr (fun C q => by cases q) (htG _ ka_int)
  obtain ⟨y1, ha1, hb1⟩ := lw_arr (fun C q => by cases q) (htG _ ka_boolean)
  obtain ⟨y2, ha2, hb2⟩ := lw_arr (fun C q => by cases q) (htG _ ka_long)
  obtain ⟨y3, ha3, hb3⟩ := lw_arrq (hts _ ka_over)
  obtain ⟨cy, hcy⟩ : ∃ cy : Nat → ClassId, cy 0 = y0 ∧ cy 1 = y1 ∧ cy 2 = y2 ∧ cy 3 = y3 := ⟨fun k => if k = 0 then y0 else if k = 1 then y1 else if k = 2 then y2 else y3, rfl, rfl, rfl, rfl⟩
  obtain ⟨rfl, rfl, rfl, rfl⟩ := hcy
  have hK : va_K D vwCl (jtys cy) s := by
    refine ⟨hKc, fun k q h => ?_⟩
    match k, h with
    | 0, h => cases h; exact ⟨ha0, hb0⟩
    | 1, h => cases h; exact ⟨ha1, hb1⟩
    | 2, h => cases h; exact ⟨ha2, hb2⟩
    | 3, h => cases h; exact ⟨ha3, hb3⟩
    | k + 4, h => simp [jtys] at h
  have hA : ∀ a : Nat, a < s.heap.size → ¬ (fun q : Nat => s.heap.size ≤ q) a := fun a h => Nat.not_le.mpr h
  obtain ⟨adK, adV, hS, hev⟩ := vk_Sof (args := #[Value.ref b]) (s := s) (N := 4) (tm := fun i => Term.string RX5 (jidx i)) (len := jlen) (byt := jbyt) (A := fun q => s.heap.size ≤ q) (by decide)
    (fun i hi => hn _ (by revert i; decide +kernel)) (fun i hi => hn _ (by revert i; decide +kernel)) (fun i hi => hn _ (by revert i; decide +kernel)) (fun i hi => hn _ (by revert i; decide +kernel))
    (fun i hi j hj => hn _ (by revert i j; decide +kernel))
    (fun i j hi hj hij => by
      have key : ∀ i, i < 4 → ∀ j, j < 4 → i ≠ j → (Cond.not (Cond.eq (Term.string RX5 (jidx i)) (Term.string RX5 (jidx j)))) ∈ flatC (Jvm.Cond.and given_1 narrow_1) ∨ (Cond.not (Cond.eq (Term.string RX5 (jidx j)) (Term.string RX5 (jidx i)))) ∈ flatC (Jvm.Cond.and given_1 narrow_1) := by decide +kernel
      rcases key i hi j hj hij with h | h
      · exact Or.inl (hn _ h)
      · exact Or.inr (hn _ h)) hA
  have hZ1 : va_Z "java/lang/String" "COMPACT_STRINGS" "Z" (.int 1) (fun q => s.heap.size ≤ q) s s.heap := va_Zof (hts _ kls_0) (htG _ kz_RJ0) (va_eqt (hn _ (by decide +kernel))) hA
  have hZ2 : va_Zq "jdk/internal/util/Preconditions" "SIOOBE_FORMATTER" "Ljava/util/function/BiFunction;" (fun q => s.heap.size ≤ q) s s.heap := va_Zqof (hts _ kls_1) (htG _ kz_RJ3) (hn _ (by decide +kernel)) hA
  obtain ⟨fm, hZ3⟩ : ∃ fm : Nat, va_Z "jdk/internal/util/Preconditions" "SIOOBE_FORMATTER" "Ljava/util/function/BiFunction;" .null (fun q => s.heap.size ≤ q) s s.heap ∨ va_Z "jdk/internal/util/Preconditions" "SIOOBE_FORMATTER" "Ljava/util/function/BiFunction;" (.ref fm) (fun q => s.heap.size ≤ q) s s.heap := by
    rcases hZ2 with h | ⟨t, h⟩
    · exact ⟨0, Or.inl h⟩
    · exact ⟨t, Or.inr h⟩
  obtain ⟨bX, hbX⟩ : ∃ bX, bX + 1 = s.heap.size := ⟨s.heap.size - 1, by omega⟩
  have mk : ∀ bs, bX ≤ bs → ∃ ad : Nat → Nat, (∀ h, h < jlim → ad h = bs + h) ∧ jE ad bs s s.heap := by
    intro bs hbs
    have hAB : ∀ q : Nat, bs < q → s.heap.size ≤ q := fun q h => by omega
    refine ⟨fun h => if h < jlim then bs + h else if h < jlim + 10 then adK (h - jlim) else if h < jlim + 20 then adV (h - jlim - 10) else fm, fun h hh => if_pos hh, ?_⟩
    have e1 : ∀ i, i < 4 → (if jlim + i < jlim then bs + (jlim + i) else if jlim + i < jlim + 10 then adK (jlim + i - jlim) else if jlim + i < jlim + 20 then adV (jlim + i - jlim - 10) else fm) = adK i := by
      intro i hi
      rw [if_neg (by omega), if_pos (by omega), show jlim + i - jlim = i by omega]
    have e2 : ∀ i, i < 4 → (if jlim + 10 + i < jlim then bs + (jlim + 10 + i) else if jlim + 10 + i < jlim + 10 then adK (jlim + 10 + i - jlim) else if jlim + 10 + i < jlim + 20 then adV (jlim + 10 + i - jlim - 10) else fm) = adV i := by
      intro i hi
      rw [if_neg (by omega), if_neg (by omega), if_pos (by omega), show jlim + 10 + i - jlim - 10 = i by omega]
    have e3 : (if jlim + 20 < jlim then bs + (jlim + 20) else if jlim + 20 < jlim + 10 then adK (jlim + 20 - jlim) else if jlim + 20 < jlim + 20 then adV (jlim + 20 - jlim - 10) else fm) = fm := by
      rw [if_neg (by omega), if_neg (by omega), if_neg (by omega)]
    refine ⟨fun w hw => ?_, va_AO.of (hts _ ka_over), ⟨fun i hi => ?_, fun i j hi hj hij => ?_⟩, fun i hi => ?_, va_Z.narrow hZ1 hAB, ?_⟩
    · simp only [jnests, List.mem_cons, List.not_mem_nil, or_false] at hw
      rcases hw with rfl | rfl | rfl | rfl | rfl | rfl | rfl | rfl | rfl | rfl
      · exact va_Nw.of rfl (hts _ kn_RX10_11)
      · exact va_Nw.of rfl (hts _ kn_RX10_18)
      · exact va_Nw.of rfl (hts _ kn_RX0_11)
      · exact va_Nw.of rfl (hts _ kn_RX10_25)
      · exact va_Nw.of rfl (hts _ kn_RX10_32)
      · exact va_Nw.of rfl (hts _ kn_RX10_39)
      · exact va_Nw.of rfl (hts _ kn_RX10_46)
      · exact va_Nw.of rfl (hts _ kn_RX7_20)
      · exact va_Nw.of rfl (hts _ kn_RX10_57)
      · exact va_Nw.of rfl (hts _ kn_RX8_29)
    · have q := hS.1 i hi
      simp only [e1 i hi, e2 i hi]
      exact ⟨va_O.narrow q.1 hAB, va_OF.narrow q.2.1 hAB, va_OF.narrow q.2.2.1 hAB, va_T.narrow q.2.2.2 hAB⟩
    · simp only [e1 i hi, e1 j hj] at hij
      exact hS.2 i j hi hj hij
    · simp only [e1 i hi]
      refine vk_R.of (A := #[Value.ref b]) ?_ (hev i hi)
      match i, hi with
      | 0, _ => exact hts _ ksr_0
      | 1, _ => exact hts _ ksr_1
      | 2, _ => exact hts _ ksr_2
      | 3, _ => exact hts _ ksr_3
    · simp only [e3]
      rcases hZ3 with h | h
      · exact Or.inl (va_Z.narrow h hAB)
      · exact Or.inr (va_Z.narrow h hAB)
  obtain ⟨adX, x1, x2⟩ := mk bX (Nat.le_refl _)
  obtain ⟨adM, m1, m2⟩ := mk (bX + 70) (by omega)
  exact ⟨D, cy, adX, adM, bX, C0, hbX, hK, x2, m2, x1, m1⟩
set_option maxHeartbeats 4000000 in
set_option maxRecDepth 100000 in
theorem whole_open (Rel : Nat → jS → jS → Prop) (h_mono : ∀ (k : Nat) (σ τ : jS), Rel k σ τ → Rel (k + 4) σ τ) (h_start : Rel 0 lw_X0 lw_M0)
    (h_feed : ∀ (k : Nat) (σ τ : jS) (a1 : Int32) (a2 : Int64), k < 2048 → Rel k σ τ → ∃ r σ2 τ2, f_X10_feed σ a1 a2 = some (r, σ2) ∧ f_X11_feed τ a1 a2 = some (r, τ2) ∧ Rel (k + 4) σ2 τ2)
    (h_town : ∀ (k : Nat) (σ τ : jS), k < 2048 → Rel k σ τ → ∃ r σ2 τ2, f_X10_town σ  = some (r, σ2) ∧ f_X11_town τ  = some (r, τ2) ∧ Rel (k + 4) σ2 τ2)
    (h_fault : ∀ (k : Nat) (σ τ : jS), k < 2048 → Rel k σ τ → ∃ r, f_X10_fault σ  = some r ∧ f_X11_fault τ  = some r)
    (h_count : ∀ (k : Nat) (σ τ : jS) (a1 : Int32), k < 2048 → Rel k σ τ → ∃ r, f_X10_count σ a1 = some r ∧ f_X11_count τ a1 = some r)
    (h_person : ∀ (k : Nat) (σ τ : jS) (a1 : Int32) (a2 : Int32), k < 2048 → Rel k σ τ → ∃ r, f_X10_person σ a1 a2 = some r ∧ f_X11_person τ a1 a2 = some r)
    (h_turn : ∀ (k : Nat) (σ τ : jS) (a1 : Int32) (a2 : Int32), k < 2048 → Rel k σ τ → ∃ r, f_X10_turn σ a1 a2 = some r ∧ f_X11_turn τ a1 a2 = some r)
    (h_grudge : ∀ (k : Nat) (σ τ : jS) (a1 : Int32), k < 2048 → Rel k σ τ → ∃ r, f_X10_grudge σ a1 = some r ∧ f_X11_grudge τ a1 = some r)
    (h_law : ∀ (k : Nat) (σ τ : jS) (a1 : Int32) (a2 : Int32), k < 2048 → Rel k σ τ → ∃ r σ2 τ2, f_X10_law σ a1 a2 = some (r, σ2) ∧ f_X11_law τ a1 a2 = some (r, τ2) ∧ Rel (k + 4) σ2 τ2)
    (h_bear : ∀ (k : Nat) (σ τ : jS) (a1 : Int32) (a2 : Int32) (a3 : Int32), k < 2048 → Rel k σ τ → (a3 = 0 ∨ a3 = 1) → ∃ r σ2 τ2, f_X10_bear σ a1 a2 a3 = some (r, σ2) ∧ f_X11_bear τ a1 a2 a3 = some (r, τ2) ∧ Rel (k + 4) σ2 τ2)
    (h_quarrel : ∀ (k : Nat) (σ τ : jS) (a1 : Int32) (a2 : Int32), k < 2048 → Rel k σ τ → ∃ r, f_X10_quarrel σ a1 a2 = some r ∧ f_X11_quarrel τ a1 a2 = some r)
    (h_may : ∀ (k : Nat) (σ τ : jS) (a1 : Int32), k < 2048 → Rel k σ τ → ∃ r, f_X10_may σ a1 = some r ∧ f_X11_may τ a1 = some r)
    (h_hand : ∀ (k : Nat) (σ τ : jS) (a1 : Int32) (a2 : Int32), k < 2048 → Rel k σ τ → ∃ r σ2 τ2, f_X10_hand σ a1 a2 = some (r, σ2) ∧ f_X11_hand τ a1 a2 = some (r, τ2) ∧ Rel (k + 4) σ2 τ2)
    (h_begin : ∀ (k : Nat) (σ τ : jS) (a1 : Int32), k < 2048 → Rel k σ τ → ∃ r σ2 τ2, f_X10_begin σ a1 = some (r, σ2) ∧ f_X11_begin τ a1 = some (r, τ2) ∧ Rel (k + 4) σ2 τ2)
    (h_drift : ∀ (k : Nat) (σ τ : jS) (a1 : Int32) (a2 : Int32), k < 2048 → Rel k σ τ → ∃ r σ2 τ2, f_X10_drift σ a1 a2 = some (r, σ2) ∧ f_X11_drift τ a1 a2 = some (r, τ2) ∧ Rel (k + 4) σ2 τ2)
    (h_comes : ∀ (k : Nat) (σ τ : jS) (a1 : Int32) (a2 : Int32), k < 2048 → Rel k σ τ → ∃ r σ2 τ2, f_X10_comes σ a1 a2 = some (r, σ2) ∧ f_X11_comes τ a1 a2 = some (r, τ2) ∧ Rel (k + 4) σ2 τ2)
    (h_end : ∀ (k : Nat) (σ τ : jS) (a1 : Int32) (a2 : Int32), k < 2048 → Rel k σ τ → ∃ r σ2 τ2, f_X10_end σ a1 a2 = some (r, σ2) ∧ f_X11_end τ a1 a2 = some (r, τ2) ∧ Rel (k + 4) σ2 τ2)
    (h_forces : ∀ (k : Nat) (σ τ : jS) (a1 : Int32) (a2 : Int32), k < 2048 → Rel k σ τ → ∃ r σ2 τ2, f_X10_forces σ a1 a2 = some (r, σ2) ∧ f_X11_forces τ a1 a2 = some (r, τ2) ∧ Rel (k + 4) σ2 τ2)
    (h_best : ∀ (k : Nat) (σ τ : jS) (a1 : Int32) (a2 : Int32), k < 2048 → Rel k σ τ → ∃ r σ2 τ2, f_X10_best σ a1 a2 = some (r, σ2) ∧ f_X11_best τ a1 a2 = some (r, τ2) ∧ Rel (k + 4) σ2 τ2)
    (h_sure : ∀ (k : Nat) (σ τ : jS) (a1 : Int32), k < 2048 → Rel k σ τ → ∃ r σ2 τ2, f_X10_sure σ a1 = some (r, σ2) ∧ f_X11_sure τ a1 = some (r, τ2) ∧ Rel (k + 4) σ2 τ2)
    (h_aside : ∀ (k : Nat) (σ τ : jS) (a1 : Int32) (a2 : Int32), k < 2048 → Rel k σ τ → ∃ r σ2 τ2, f_X10_aside σ a1 a2 = some (r, σ2) ∧ f_X11_aside τ a1 a2 = some (r, τ2) ∧ Rel (k + 4) σ2 τ2)
    (h_fresh : ∀ (k : Nat) (σ τ : jS) (a1 : Int32) (a2 : Int32) (a3 : Int32), k < 2048 → Rel k σ τ → ∃ r σ2 τ2, f_X10_fresh σ a1 a2 a3 = some (r, σ2) ∧ f_X11_fresh τ a1 a2 a3 = some (r, τ2) ∧ Rel (k + 4) σ2 τ2)
    (h_most : ∀ (k : Nat) (σ τ : jS) (a1 : Int32), k < 2048 → Rel k σ τ → ∃ r σ2 τ2, f_X10_most σ a1 = some (r, σ2) ∧ f_X11_most τ a1 = some (r, τ2) ∧ Rel (k + 4) σ2 τ2)
    (h_worth : ∀ (k : Nat) (σ τ : jS) (a1 : Int32), k < 2048 → Rel k σ τ → ∃ r σ2 τ2, f_X10_worth σ a1 = some (r, σ2) ∧ f_X11_worth τ a1 = some (r, τ2) ∧ Rel (k + 4) σ2 τ2)
    (h_log : ∀ (k : Nat) (σ τ : jS) (a1 : Int32) (a2 : Int32), k < 2048 → Rel k σ τ → ∃ r σ2 τ2, f_X10_log σ a1 a2 = some (r, σ2) ∧ f_X11_log τ a1 a2 = some (r, τ2) ∧ Rel (k + 4) σ2 τ2)
    (h_clear : ∀ (k : Nat) (σ τ : jS), k < 2048 → Rel k σ τ → ∃ r σ2 τ2, f_X10_clear σ  = some (r, σ2) ∧ f_X11_clear τ  = some (r, τ2) ∧ Rel (k + 4) σ2 τ2)
    (h_judge : ∀ (k : Nat) (σ τ : jS) (a1 : Int32), k < 2048 → Rel k σ τ → ∃ r, f_X10_judge σ a1 = some r ∧ f_X11_judge τ a1 = some r)
    (h_seen : ∀ (k : Nat) (σ τ : jS) (a1 : Int32) (a2 : Int32) (a3 : Int32), k < 2048 → Rel k σ τ → (a3 = 0 ∨ a3 = 1) → ∃ r σ2 τ2, f_X10_seen σ a1 a2 a3 = some (r, σ2) ∧ f_X11_seen τ a1 a2 a3 = some (r, τ2) ∧ Rel (k + 4) σ2 τ2)
    (h_have : ∀ (k : Nat) (σ τ : jS) (a1 : Int32), k < 2048 → Rel k σ τ → ∃ r σ2 τ2, f_X10_have σ a1 = some (r, σ2) ∧ f_X11_have τ a1 = some (r, τ2) ∧ Rel (k + 4) σ2 τ2)
    (h_seed : ∀ (k : Nat) (σ τ : jS) (a1 : Int32), k < 2048 → Rel k σ τ → ∃ r σ2 τ2, f_X10_seed σ a1 = some (r, σ2) ∧ f_X11_seed τ a1 = some (r, τ2) ∧ Rel (k + 4) σ2 τ2)
    (h_keep : ∀ (k : Nat) (σ τ : jS) (a1 : Int32), k < 2048 → Rel k σ τ → ∃ r σ2 τ2, f_X10_keep σ a1 = some (r, σ2) ∧ f_X11_keep τ a1 = some (r, τ2) ∧ Rel (k + 4) σ2 τ2)
    (h_goBack : ∀ (k : Nat) (σ τ : jS) (a1 : Int32), k < 2048 → Rel k σ τ → ∃ r σ2 τ2, f_X10_goBack σ a1 = some (r, σ2) ∧ f_X11_goBack τ a1 = some (r, τ2) ∧ Rel (k + 4) σ2 τ2)
    {p : Program} {e : Env} {s : State} {m : MethodId} {below : List Frame} {meth : Method} {c : Code} (l : Launch) {b L : Nat} {xs : Nat → Int32} (hL : L ≤ 2048) (C0 : lw_At p s m meth c b L xs) : W p l e room_1 s m #[Value.ref b] below meth c s.heap [] 0 0 (lw_Z below #[Value.ref b] s) (entryFrame m ([Value.ref b] : List Value).toArray 4) := by
  obtain ⟨D, cy, adX, adM, bX, E0⟩ := lw_env C0
  obtain ⟨A0, hbX, hK, hEX, hEM, hadX, hadM⟩ := id E0
  obtain ⟨hx, hb, hr, hml, hown, hts, hX, hbl, hlocks, hgv⟩ := id A0
  have htG := lw_hts E0
  have hl := lv_entry ([.ref b]) (n := 4) (Nat.le_of_ble_eq_true rfl)
  rw [lg_entry_eq]
  generalize (lg_sl ([.ref b]) ++ List.replicate (4 - (lg_sl ([.ref b])).length) Slot.unset).toArray = ls at hl ⊢
  have hl : lv_has ls 4 [(0, .ref b)] := hl
  -- the class
  refine W.newcK hx hb hown (htG _ kq_RL_7) (htG _ kv_RX10) (htG _ kz_RX10) rfl dL_law_0 (by decide) (by decide) (hK.1 9 _ rfl).2.1 rfl fun H1 kC hkC e1 z1 o1 => ?_
  have hP1 : va_P D vwCl (jW cy adX bX (kX 1 10 kXI0 kXP0)) H1 := by
    intro i x hx
    match i, hx with
    | 0, hx =>
      cases hx
      refine ⟨_, rfl, ?_⟩
      show t_OB (bX + 1) _ _ _ _ _
      rw [hbX]
      refine (u_born (jty 9) htG kw_X10 (hK.1 9 _ rfl) hkC e1 tyX10_ok).to (fun j hj => ?_)
      have key : ∀ j, j < 10 → jtyok (jty 9 j) = true := by decide
      have hq := jfv_new (μ := kX 0 0 kXI0 kXP0) (ad := adX) (k := 13) (len := 0) (w := 10) (key j hj)
      simp only [vp_V, List.getD, List.getElem?_map]
      rw [show jnf 9 = 10 from rfl, List.getElem?_range hj]
      rw [← hq]
      rfl
  have hS1 : va_S (fun q : Nat => s.heap.size ≤ q) s.heap H1 [] := ⟨by omega, fun q h1 h2 => o1 q h1, fun _ h => by cases h⟩
  refine lv_dup (va := .ref s.heap.size) hx hb dL_law_3 rfl ?_
  have hpre1 : ∀ U : State, U.heap = H1 → s.WarmedH U.vm → jPc D cy adX bX true H1.size [.ref 1] (kX 1 10 kXI0 kXP0) (Value.ref s.heap.size :: ([] : List Value)).toArray U := by
    intro U hU hWm
    refine ⟨?_, by rw [hU], by rw [hU]; exact hP1, va_K.moved hWm.alike hK, fun _ => by show H1.size = bX + 1 + 1; omega, by omega, hadX, jE_moved hWm (fun a h1 h2 => ?_) hEX⟩
    · show _ = #[jr adX 1]
      rw [jr_cell hadX (by decide) (by decide), hbX]
    · rw [hU]
      exact o1 a h1
  have hrun := va_runI (p := p) (l := l) (e := e) (R := room_1) (s := s) (m := m) (args := #[Value.ref b]) (below := below) (meth := meth) (c := c) (H := H1) (locs := []) (cells := 0 + 1) (slots := 0 + 10) (g := F0 m 4 ls [.ref s.heap.size, .ref s.heap.size]) (As := []) (rest := [.ref s.heap.size]) (Ts := jG) (own := RL) (b := s.heap.size) (index := 9) ⟨hx, hb, hml, hown, htG⟩ (k_X10_init_1 l D cy adX bX H1.size) (cwI 0 htG (jG_in fun w hw => by
    rcases List.mem_cons.mp hw with rfl | hw
    · exact kc_yX10_init
    · exact hw) rfl rfl rfl (htG _ kz_RX10) (htG _ kl_RL_9) (htG _ ki_yX10_init) rfl (by decide +kernel) ⟨by decide, by decide⟩) ⟨jPc_blind, hpre1⟩ rfl rfl hl.1 rfl (lv_room (Nat.le_of_ble_eq_true rfl)) dL_law_4 ⟨by decide, by decide⟩
  intro T hT X
  obtain ⟨v, st₀, t, T', LL, e0, X', hLf, e1', e2', ⟨hv, hPX, hg2, hz, hk⟩, stp⟩ := hrun T hT X
  cases hv
  rw [e0] at hz hk
  rw [lw_WX] at hPX
  have hsz2 : T'.heap.size = bX + 70 + 1 := by rw [e1']; exact hg2 rfl
  have hS2 : va_S (fun q : Nat => s.heap.size ≤ q) s.heap T'.heap LL := ⟨by omega, fun q h1 h2 => by
    rw [e1', hk q (by omega) (fun z => ?_)]
    · exact o1 q h1
    · rcases z with z | z
      · omega
      · omega, fun q hq => by
      have := hLf q hq
      rcases this with z | z
      · omega
      · omega⟩
  suffices hW : W p l e room_1 s m #[Value.ref b] below meth c T'.heap LL (0 + 1 + (70 - 1)) (0 + 10 + (28368 - 10)) (lw_Z below #[Value.ref b] s) (F0 m 7 ls [.ref s.heap.size]) by
    obtain ⟨t2, a1, b1⟩ := hW T' rfl X'
    exact ⟨t2, stp t2 a1, b1⟩
  have hPX : va_P D vwCl (jW cy adX bX (eX lw_X0)) T'.heap := by rw [e1']; exact hPX
  generalize T'.heap = H2 at hPX hS2 hsz2 ⊢
  clear stp X' hz hk hLf e1' e2' hg2 X hT hrun hpre1 hP1
  refine lv_astore_n (lv' := [(1, .ref s.heap.size), (0, .ref b)]) hx hb dL_law_7 rfl hl (by decide) rfl (fun ls hl => ?_)
  -- the reference
  refine W.newcK hx hb hown (htG _ kq_RL_10) (htG _ kv_RX11) (htG _ kz_RX11) rfl dL_law_8 (by decide) (by decide) (hK.1 10 _ rfl).2.1 hsz2 fun H3 kC3 hkC3 e3 z3 o3 => ?_
  have hP3 : va_P D vwCl (jW cy adM (bX + 70) (kM 1 71 kMI0 kMP0)) H3 := by
    intro i x hx
    match i, hx with
    | 0, hx =>
      cases hx
      refine ⟨_, rfl, ?_⟩
      show t_OB (bX + 70 + 1) _ _ _ _ _
      refine (u_born (jty 10) htG kw_X11 (hK.1 10 _ rfl) hkC3 e3 tyX11_ok).to (fun j hj => ?_)
      have key : ∀ j, j < 71 → jtyok (jty 10 j) = true := by decide
      have hq := jfv_new (μ := kM 0 0 kMI0 kMP0) (ad := adM) (k := 14) (len := 0) (w := 71) (key j hj)
      simp only [vp_V, List.getD, List.getElem?_map]
      rw [show jnf 10 = 71 from rfl, List.getElem?_range hj]
      rw [← hq]
      rfl
  have hPX3 : va_P D vwCl (jW cy adX bX (eX lw_X0)) H3 := hPX.kept (fun k q hq => o3 q.1 (by have := (hPX k q hq).lt; omega))
  have hS3 : va_S (fun q : Nat => s.heap.size ≤ q) s.heap H3 LL := ⟨by omega, fun q h1 h2 => (o3 q (by omega)).trans (hS2.2.1 q h1 h2), hS2.2.2⟩
  refine lv_dup (va := .ref (bX + 70 + 1)) hx hb dL_law_11 rfl ?_
  have hpre3 : ∀ U : State, U.heap = H3 → s.WarmedH U.vm → jPc D cy adM (bX + 70) true H3.size [.ref 1] (kM 1 71 kMI0 kMP0) (Value.ref (bX + 70 + 1) :: ([] : List Value)).toArray U := by
    intro U hU hWm
    refine ⟨?_, by rw [hU], by rw [hU]; exact hP3, va_K.moved hWm.alike hK, fun _ => by show H3.size = bX + 70 + 1 + 1; omega, by omega, hadM, jE_moved hWm (fun a h1 h2 => ?_) hEM⟩
    · show _ = #[jr adM 1]
      rw [jr_cell hadM (by decide) (by decide)]
    · rw [hU]
      exact hS3.2.1 a h1 (Nat.not_le.mpr h1)
  have hrun := va_runI (p := p) (l := l) (e := e) (R := room_1) (s := s) (m := m) (args := #[Value.ref b]) (below := below) (meth := meth) (c := c) (H := H3) (locs := LL) (cells := 0 + 1 + (70 - 1) + 1) (slots := 0 + 10 + (28368 - 10) + 71) (g := F0 m 12 ls [.ref (bX + 70 + 1), .ref (bX + 70 + 1)]) (As := []) (rest := [.ref (bX + 70 + 1)]) (Ts := jG) (own := RL) (b := bX + 70 + 1) (index := 12) ⟨hx, hb, hml, hown, htG⟩ (k_X11_init_1 l D cy adM (bX + 70) H3.size) (cwI 0 htG (jG_in fun w hw => by
    rcases List.mem_cons.mp hw with rfl | hw
    · exact kc_yX11_init
    · exact hw) rfl rfl rfl (htG _ kz_RX11) (htG _ kl_RL_12) (htG _ ki_yX11_init) rfl (by decide +kernel) ⟨by decide, by decide⟩) ⟨jPc_blind, hpre3⟩ rfl rfl hl.1 rfl (lv_room (Nat.le_of_ble_eq_true rfl)) dL_law_12 ⟨by decide, by decide⟩
  intro T hT X
  obtain ⟨v, st₀, t, T', L2, e0, X', hLf, e1', e2', ⟨hv, hPM, hg2, hz, hk⟩, stp⟩ := hrun T hT X
  cases hv
  rw [e0] at hz hk
  rw [lw_WM] at hPM
  have hsz4 : T'.heap.size ≥ H3.size := by rw [e1']; exact hz
  have hS4 : va_S (fun q : Nat => s.heap.size ≤ q) s.heap T'.heap (LL ++ L2) := ⟨by have := hS3.1; omega, fun q h1 h2 => by
    rw [e1', hk q (by have := hS3.1; omega) (fun z => ?_)]
    · exact hS3.2.1 q h1 h2
    · rcases z with z | z
      · omega
      · omega, fun q hq => by
      rcases List.mem_append.mp hq with h | h
      · exact hS3.2.2 q h
      · have := hLf q h
        rcases this with z | z
        · omega
        · omega⟩
  suffices hW : W p l e room_1 s m #[Value.ref b] below meth c T'.heap (LL ++ L2) (0 + 1 + (70 - 1) + 1 + (41 - 1)) (0 + 10 + (28368 - 10) + 71 + (2967097 - 71)) (lw_Z below #[Value.ref b] s) (F0 m 15 ls [.ref (bX + 70 + 1)]) by
    obtain ⟨t2, a1, b1⟩ := hW T' rfl X'
    exact ⟨t2, stp t2 a1, b1⟩
  have hPM : va_P D vwCl (jW cy adM (bX + 70) (eM lw_M0)) T'.heap := by rw [e1']; exact hPM
  have hPX4 : va_P D vwCl (jW cy adX bX (eX lw_X0)) T'.heap := hPX3.kept (fun k q hq => by
    have hlt := (hPX3 k q hq).lt
    have hlt2 := (hPX k q hq).lt
    rw [e1']
    refine hk q.1 hlt (fun z => ?_)
    rcases z with z | z
    · have : (kM 1 71 kMI0 kMP0).1 = 1 := rfl
      omega
    · omega)
  generalize T'.heap = H4 at hPM hPX4 hS4 ⊢
  refine lv_astore_n (lv' := [(2, .ref (bX + 71)), (1, .ref s.heap.size), (0, .ref b)]) hx hb dL_law_15 rfl hl (by decide) rfl (fun ls hl => ?_)
  refine lv_iconst (v := 0) hx hb dL_law_16 (by decide) ?_
  refine lv_istore_n (lv' := [(3, .int 0), (2, .ref (bX + 71)), (1, .ref s.heap.size), (0, .ref b)]) hx hb dL_law_17 rfl hl (by decide) rfl (fun ls hl => ?_)
  rw [← hbX] at hl
  exact law_loop Rel h_mono h_feed h_town h_fault h_count h_person h_turn h_grudge h_law h_bear h_quarrel h_may h_hand h_begin h_drift h_comes h_end h_forces h_best h_sure h_aside h_fresh h_most h_worth h_log h_clear h_judge h_seen h_have h_seed h_keep h_goBack hL E0 (L + 1) 0 0 (by omega) nI_0.symm (by omega) lw_X0 lw_M0 h_start H4 (LL ++ L2) hPX4 hPM hS4 ls (lv_sub hl [3, 2, 1, 0] rfl)
