/-! text constants: the four words, at the abstract addresses jlim + k, their bytes at jlim + 10 + k -/
theorem jbr (n : Nat) : Nat.ble n n = true := Nat.ble_eq_true_of_le (Nat.le_refl _)
def jsn (w : Nat) : Nat := jlen.getD (w - jlim) 0
def jsl (w : Nat) : Int32 := nI (jsn w)
def jsc (w i : Nat) : Int32 := (jbyt.getD (w - jlim) []).getD i 0
def jsr (k : Nat) : Nat := 1000000 + k
def jsb (k : Nat) : Nat := 1000010 + k
theorem jv_jsr (ad : Nat → Nat) (k : Nat) : jv ad (.ref (jsr k)) = .ref (ad (jlim + k)) := by
  show jr ad (1000000 + k) = _
  unfold jr
  rw [if_neg (by omega)]
  rfl
theorem jv_jsb (ad : Nat → Nat) (k : Nat) : jv ad (.ref (jsb k)) = .ref (ad (jlim + 10 + k)) := by
  show jr ad (1000010 + k) = _
  unfold jr
  rw [if_neg (by omega)]
  rfl
section JSTR
variable {y : MethodName} {cc : ByteArray} {nL : Nat} {rt : Option FieldType} {d : Nat} {g : Bool} {rv : Option Value} {μ' : jM} {pc : Nat} {lv : List (Nat × Value)} {st : List Value} {μ μ1 : jM}
theorem jS_big {D : va_G} {cy : Nat → ClassId} {ad : Nat → Nat} {bs : Nat} {A : Nat → Prop} {MC MS n0 w0 : Nat} {p : Program} {s : State} {m : MethodId} {args : Array Value} {meth : Method} {c : Code} {H : Heap} {locs : List Loc} {cells slots : Nat} (F : jF y cc nL rt D cy ad bs A p s m args meth c) (B : jH D cy ad bs A MC MS n0 w0 g μ' s H locs cells slots μ) : va_S (fun q => bs < q) s.heap H locs := by
  obtain ⟨f1, f2, f3, f4, f5, f6, f7, f8, f9, f10, f11⟩ := F
  exact ⟨B.2.1.1, fun q h1 h2 => B.2.1.2.1 q h1 (fun z => h2 (f10 q z)), fun l hl => f10 _ (B.2.1.2.2 l hl)⟩
theorem j_ldcS (k : Nat) (hk : k < 4) {i : Nat} (hi : i = jidx k) (hd : decode cX5_spelling pc = .ok (.ldc i, 2)) (kk : J yX5_spelling cX5_spelling nL rt d g rv μ' (pc + 2) lv (.ref (jsr k) :: st) μ) : J yX5_spelling cX5_spelling nL rt d g rv μ' pc lv st μ := by
  intro D cy ad bs A MC MS n0 w0 p l e s m args below meth c H locs cells slots ls F B hl
  have K := (kk D cy ad bs A MC MS n0 w0 p l e s m args below meth c H locs cells slots ls F B hl)
  subst hi
  have hR := F.2.2.2.2.2.2.2.2.2.2.2.1.2.2.2.1 k hk
  simp only [List.map_cons, jv_jsr] at K
  exact va_ldcS F.1 F.2.1 F.2.2.2.2.1 hR hd K
theorem j_gets1 {idx : Nat} (hw : Cond.fieldLink y.cls idx "java/lang/String" "COMPACT_STRINGS" "Z" ∈ jG) (hd : decode cc pc = .ok (.getstatic idx, 3)) (kk : J y cc nL rt d g rv μ' (pc + 3) lv (.int 1 :: st) μ) : J y cc nL rt d g rv μ' pc lv st μ := by
  intro D cy ad bs A MC MS n0 w0 p l e s m args below meth c H locs cells slots ls F B hl
  obtain ⟨f1, f2, f3, f4, f5, f6, f7, f8, f9, f10, f11, f12, f13, f14⟩ := id F
  exact va_gets f1 f2 f12.2.2.2.2.1 (jS_big F B) f5 (f6 _ hw) (fun _ h => h) hd (kk D cy ad bs A MC MS n0 w0 p l e s m args below meth c H locs cells slots ls F B hl)
theorem j_gets2 {idx : Nat} (hw : Cond.fieldLink y.cls idx "jdk/internal/util/Preconditions" "SIOOBE_FORMATTER" "Ljava/util/function/BiFunction;" ∈ jG) (hd : decode cc pc = .ok (.getstatic idx, 3)) (kk : ∀ h, J y cc nL rt d g rv μ' (pc + 3) lv (.ref h :: st) μ) : J y cc nL rt d g rv μ' pc lv st μ := by
  intro D cy ad bs A MC MS n0 w0 p l e s m args below meth c H locs cells slots ls F B hl
  obtain ⟨f1, f2, f3, f4, f5, f6, f7, f8, f9, f10, f11, f12, f13, f14⟩ := id F
  rcases f12.2.2.2.2.2 with z | z
  · have K := kk 0 D cy ad bs A MC MS n0 w0 p l e s m args below meth c H locs cells slots ls F B hl
    exact va_gets f1 f2 z (jS_big F B) f5 (f6 _ hw) (fun _ h => h) hd K
  · have K := kk (1000020) D cy ad bs A MC MS n0 w0 p l e s m args below meth c H locs cells slots ls F B hl
    have e1 : jv ad (.ref 1000020) = .ref (ad (jlim + 20)) := by
      show jr ad 1000020 = _
      unfold jr
      rw [if_neg (by omega)]
      rfl
    simp only [List.map_cons, e1] at K
    exact va_gets f1 f2 z (jS_big F B) f5 (f6 _ hw) (fun _ h => h) hd K
theorem j_gcoder (k : Nat) (hk : k < 4) {idx : Nat} (hw : Cond.fieldLink y.cls idx "java/lang/String" "coder" "B" ∈ jG) (hd : decode cc pc = .ok (.getfield idx, 3)) (kk : J y cc nL rt d g rv μ' (pc + 3) lv (.int 0 :: st) μ) : J y cc nL rt d g rv μ' pc lv (.ref (jsr k) :: st) μ := by
  intro D cy ad bs A MC MS n0 w0 p l e s m args below meth c H locs cells slots ls F B hl
  obtain ⟨f1, f2, f3, f4, f5, f6, f7, f8, f9, f10, f11, f12, f13, f14⟩ := id F
  simp only [List.map_cons, jv_jsr]
  exact va_getX (N := 4) (v := fun _ => .int 0) (ad := fun i => ad (jlim + i)) (i := k) f1 f2 (fun i hi => (f12.2.2.1.1 i hi).2.1) hk (jS_big F B) f5 (f6 _ hw) (fun _ h => h) hd (kk D cy ad bs A MC MS n0 w0 p l e s m args below meth c H locs cells slots ls F B hl)
theorem j_gvalue (k : Nat) (hk : k < 4) {idx : Nat} (hw : Cond.fieldLink y.cls idx "java/lang/String" "value" "[B" ∈ jG) (hd : decode cc pc = .ok (.getfield idx, 3)) (kk : J y cc nL rt d g rv μ' (pc + 3) lv (.ref (jsb k) :: st) μ) : J y cc nL rt d g rv μ' pc lv (.ref (jsr k) :: st) μ := by
  intro D cy ad bs A MC MS n0 w0 p l e s m args below meth c H locs cells slots ls F B hl
  obtain ⟨f1, f2, f3, f4, f5, f6, f7, f8, f9, f10, f11, f12, f13, f14⟩ := id F
  have K := (kk D cy ad bs A MC MS n0 w0 p l e s m args below meth c H locs cells slots ls F B hl)
  simp only [List.map_cons, jv_jsb] at K
  simp only [List.map_cons, jv_jsr]
  exact va_getX (N := 4) (v := fun i => .ref (ad (jlim + 10 + i))) (ad := fun i => ad (jlim + i)) (i := k) f1 f2 (fun i hi => (f12.2.2.1.1 i hi).2.2.1) hk (jS_big F B) f5 (f6 _ hw) (fun _ h => h) hd K
theorem j_btlen (k : Nat) (hk : k < 4) (hd : decode cc pc = .ok (.arraylength, 1)) (kk : J y cc nL rt d g rv μ' (pc + 1) lv (.int (jsl (jsr k)) :: st) μ) : J y cc nL rt d g rv μ' pc lv (.ref (jsb k) :: st) μ := by
  intro D cy ad bs A MC MS n0 w0 p l e s m args below meth c H locs cells slots ls F B hl
  obtain ⟨f1, f2, f3, f4, f5, f6, f7, f8, f9, f10, f11, f12, f13, f14⟩ := id F
  simp only [List.map_cons, jv_jsb]
  have eK : jsr k - jlim = k := by
    show 1000000 + k - 1000000 = k
    omega
  exact va_tlen f1 f2 (f12.2.2.1.1 k hk).2.2.2 (jS_big F B) (v := jsl (jsr k)) (by unfold jsl jsn; rw [eK]; rfl) hd (kk D cy ad bs A MC MS n0 w0 p l e s m args below meth c H locs cells slots ls F B hl)
theorem j_btld (k : Nat) (hk : k < 4) {i : Int32} (hi : vp_in i (jsn (jsr k))) (hd : decode cc pc = .ok (.baload, 1)) (kk : J y cc nL rt d g rv μ' (pc + 1) lv (.int (jsc (jsr k) i.toNatClampNeg) :: st) μ) : J y cc nL rt d g rv μ' pc lv (.int i :: .ref (jsb k) :: st) μ := by
  intro D cy ad bs A MC MS n0 w0 p l e s m args below meth c H locs cells slots ls F B hl
  obtain ⟨f1, f2, f3, f4, f5, f6, f7, f8, f9, f10, f11, f12, f13, f14⟩ := id F
  have eK : jsr k - jlim = k := by
    show 1000000 + k - 1000000 = k
    omega
  unfold jsn at hi
  rw [eK] at hi
  show W _ _ _ _ _ _ _ _ _ _ _ _ _ _ _ (F0 m pc ls (.int i :: jv ad (.ref (jsb k)) :: st.map (jv ad)))
  rw [jv_jsb]
  exact va_tb f1 f2 (f12.2.2.1.1 k hk).2.2.2 (jS_big F B) hi (v := .int (jsc (jsr k) i.toNatClampNeg)) (by unfold jsc; rw [eK]) hd (kk D cy ad bs A MC MS n0 w0 p l e s m args below meth c H locs cells slots ls F B hl)
theorem j_callVS {y2 : MethodName} {cc2 : ByteArray} {nL2 : Nat} {rt2 : Option FieldType} {d2 n idx : Nat} {as st0 st1 : List Value} {rv2 : Option Value} (k : Nat) (hk : k < 4) (hM : Cn y2 cc2 nL2 rt2 d2 g (.ref (jsr k) :: as) μ rv2 μ) (hY : jY y2 cc2 nL2 rt2 n) (hcs : y2.cls = "java/lang/String") (hin : Cond.instanceMethod y2 ∈ jG) (hsel : Cond.selects y2.cls y2 y2 ∈ jG) (hw : Cond.methodLink y.cls idx y2 ∈ jG) (hd : decode cc pc = .ok (.invokevirtual idx, 3)) (hst : st0 = as.reverse ++ .ref (jsr k) :: st) (hn : as.length = n) (hW : Nat.ble ((st.map fun v => v.category).sum) 8 = true) (hdd : Nat.blt d2 d = true) (h3 : Nat.ble μ.1 μ'.1 = true) (h4 : Nat.ble μ.2.1 μ'.2.1 = true) (hs1 : st1 = rv2.toList ++ st) (kk : J y cc nL rt d g rv μ' (pc + 3) lv st1 μ) : J y cc nL rt d g rv μ' pc lv st0 μ := by
  subst hs1
  intro D cy ad bs A MC MS n0 w0 p l e s m args below meth c H locs cells slots ls F B hl
  obtain ⟨f1, f2, f3, f4, f5, f6, f7, f8, f9, f10, f11, f12, f13, f14⟩ := id F
  obtain ⟨hP, hS, hA, hg, q1, q2, q3, q4⟩ := id B
  obtain ⟨y1, y3, y4, y5⟩ := hY
  have hdd := Nat.le_of_ble_eq_true hdd
  have h3 := Nat.le_of_ble_eq_true h3
  have h4 := Nat.le_of_ble_eq_true h4
  have hO := (va_O.kept (f12.2.2.1.1 k hk).1 (H1 := H) (jS_big F B).2.1)
  have hrec : ∃ cell : Cell, H[ad (jlim + k)]? = some cell ∧ cell.vm.isStatics = false ∧ s.vm.findClass y2.cls = some cell.cls := by
    obtain ⟨cell, c1, c2, c3, c4⟩ := hO
    exact ⟨cell, c1, c2, by rw [hcs]; exact c3⟩
  have eA : ((Value.ref (jsr k) :: as).map (jv ad)) = Value.ref (ad (jlim + k)) :: as.map (jv ad) := by
    simp only [List.map_cons, jv_jsr]
  have hpre := jPc_of (as := .ref (jsr k) :: as) F B
  rw [eA] at hpre
  refine j_callOn F B hl (va_runV (As := as.map (jv ad)) (rest := st.map (jv ad)) (Ts := jG) (own := y.cls) (C := y2.cls) (b := ad (jlim + k)) ⟨f1, f2, f3, f5, f6⟩ (hM l D cy ad bs H.size) (cwV n f6 (jG_in fun w hw2 => ?_) rfl rfl rfl ⟨rfl, y4⟩ ⟨?_, ?_⟩) ⟨jPc_blind, hrec, hpre⟩ rfl (by simp [hn]) hl.1 ?_ (lv_room (j_sumcat hW)) hd ⟨?_, ?_⟩) (Nat.le_refl _) (Nat.le_refl _) (Or.inr rfl) kk
  · simp only [wsV, List.mem_append, List.mem_cons, List.not_mem_nil, or_false] at hw2
    rcases hw2 with (rfl | rfl | rfl | rfl) | rfl | hw2
    · exact hw
    · exact hin
    · exact hsel
    · exact y3
    · exact y1
    · exact hw2
  · exact hdd
  · show 8 + (nL2 + 11) + 41 * d2 ≤ 41 * d
    omega
  · show st0.map (jv ad) = _
    rw [hst, List.map_append, List.map_cons, List.map_reverse, jv_jsr]
  · show cells + (μ.1 - μ.1) ≤ MC
    omega
  · show slots + (μ.2.1 - μ.2.1) ≤ MS
    omega
end JSTR
theorem jy_J0_length_8abf5 : jY yJ0_length_8abf5 cJ0_length_8abf5 1 (some .int) 0 := ⟨kc_yJ0_length_8abf5, kz_RJ0, ⟨by decide +kernel, by decide +kernel, by decide +kernel⟩, by decide⟩
theorem jy_J0_coder_7d493 : jY yJ0_coder_7d493 cJ0_coder_7d493 1 (some .byte) 0 := ⟨kc_yJ0_coder_7d493, kz_RJ0, ⟨by decide +kernel, by decide +kernel, by decide +kernel⟩, by decide⟩
theorem jy_J0_charAt_5068e : jY yJ0_charAt_5068e cJ0_charAt_5068e 2 (some .char) 1 := ⟨kc_yJ0_charAt_5068e, kz_RJ0, ⟨by decide +kernel, by decide +kernel, by decide +kernel⟩, by decide⟩
theorem jy_J0_isLatin1_aae02 : jY yJ0_isLatin1_aae02 cJ0_isLatin1_aae02 1 (some .boolean) 0 := ⟨kc_yJ0_isLatin1_aae02, kz_RJ0, ⟨by decide +kernel, by decide +kernel, by decide +kernel⟩, by decide⟩
theorem jy_J1_charAt_3b067 : jY yJ1_charAt_3b067 cJ1_charAt_3b067 2 (some .char) 2 := ⟨kc_yJ1_charAt_3b067, kz_RJ1, ⟨by decide +kernel, by decide +kernel, by decide +kernel⟩, by decide⟩
theorem jy_J0_checkIndex_df160 : jY yJ0_checkIndex_df160 cJ0_checkIndex_df160 2 none 2 := ⟨kc_yJ0_checkIndex_df160, kz_RJ0, ⟨by decide +kernel, by decide +kernel, by decide +kernel⟩, by decide⟩
theorem jy_J3_checkIndex_8e157 : jY yJ3_checkIndex_8e157 cJ3_checkIndex_8e157 3 (some .int) 3 := ⟨kc_yJ3_checkIndex_8e157, kz_RJ3, ⟨by decide +kernel, by decide +kernel, by decide +kernel⟩, by decide⟩
set_option maxRecDepth 20000 in
theorem c_J0_coder (g : Bool) (μ : jM) (k : Nat) (hk : k < 4) : Cn yJ0_coder_7d493 cJ0_coder_7d493 1 (some .byte) 1 g [.ref (jsr k)] μ (some (.int 0)) μ := by
  refine Cn_of (by decide) (Nat.le_refl _) (Nat.le_refl _) (Nat.le_of_ble_eq_true rfl) ?_
  show J yJ0_coder_7d493 cJ0_coder_7d493 1 (some .byte) 1 g _ _ 0 [(0, .ref (jsr k))] [] μ
  refine j_gets1 kf_RJ0_38 dJ0_coder_7d493_0 ?_
  refine j_if_eq 13 dJ0_coder_7d493_3 (by decide) (fun h => absurd h (by decide)) (fun _ => ?_)
  refine j_aload_n 0 dJ0_coder_7d493_6 rfl rfl ?_
  refine j_gcoder k hk kf_RJ0_15 dJ0_coder_7d493_7 ?_
  refine j_goto 14 dJ0_coder_7d493_10 (by decide) ?_
  exact j_zret rfl dJ0_coder_7d493_14 rfl rfl
set_option maxRecDepth 20000 in
theorem c_J0_isLatin1 (g : Bool) (μ : jM) (k : Nat) (hk : k < 4) : Cn yJ0_isLatin1_aae02 cJ0_isLatin1_aae02 1 (some .boolean) 1 g [.ref (jsr k)] μ (some (.int 1)) μ := by
  refine Cn_of (by decide) (Nat.le_refl _) (Nat.le_refl _) (Nat.le_of_ble_eq_true rfl) ?_
  show J yJ0_isLatin1_aae02 cJ0_isLatin1_aae02 1 (some .boolean) 1 g _ _ 0 [(0, .ref (jsr k))] [] μ
  refine j_gets1 kf_RJ0_38 dJ0_isLatin1_aae02_0 ?_
  refine j_if_eq 17 dJ0_isLatin1_aae02_3 (by decide) (fun h => absurd h (by decide)) (fun _ => ?_)
  refine j_aload_n 0 dJ0_isLatin1_aae02_6 rfl rfl ?_
  refine j_gcoder k hk kf_RJ0_15 dJ0_isLatin1_aae02_7 ?_
  refine j_if_ne 17 dJ0_isLatin1_aae02_10 (by decide) (fun h => absurd rfl h) (fun _ => ?_)
  refine j_iconst (v := 1) dJ0_isLatin1_aae02_13 (by decide) ?_
  refine j_goto 18 dJ0_isLatin1_aae02_14 (by decide) ?_
  exact j_zret rfl dJ0_isLatin1_aae02_18 rfl rfl
set_option maxRecDepth 20000 in
theorem c_J0_length (g : Bool) (μ : jM) (k : Nat) (hk : k < 4) : Cn yJ0_length_8abf5 cJ0_length_8abf5 1 (some .int) 2 g [.ref (jsr k)] μ (some (.int (jsl (jsr k)))) μ := by
  refine Cn_of (by decide) (Nat.le_refl _) (Nat.le_refl _) (Nat.le_of_ble_eq_true rfl) ?_
  show J yJ0_length_8abf5 cJ0_length_8abf5 1 (some .int) 2 g _ _ 0 [(0, .ref (jsr k))] [] μ
  refine j_aload_n 0 dJ0_length_8abf5_0 rfl rfl ?_
  refine j_gvalue k hk kf_RJ0_9 dJ0_length_8abf5_1 ?_
  refine j_btlen k hk dJ0_length_8abf5_4 ?_
  refine j_aload_n 0 dJ0_length_8abf5_5 rfl rfl ?_
  refine j_callVS (st1 := .int 0 :: _) k hk (c_J0_coder g μ k hk) jy_J0_coder_7d493 rfl ki_yJ0_coder_7d493 ks_yJ0_coder_7d493 kl_RJ0_335 dJ0_length_8abf5_6 rfl rfl rfl rfl (jbr _) (jbr _) rfl ?_
  refine j_ishr dJ0_length_8abf5_9 ?_
  have e : jsl (jsr k) >>> ((0 : Int32) &&& 31) = jsl (jsr k) := by
    match k, hk with
    | 0, _ => rfl
    | 1, _ => rfl
    | 2, _ => rfl
    | 3, _ => rfl
  exact j_iret dJ0_length_8abf5_10 (by rw [e]) rfl
set_option maxRecDepth 20000 in
theorem c_J3_checkIndex (g : Bool) (μ : jM) {i n : Int32} (q : Nat) (h1 : ¬ i < 0) (h2 : i < n) : Cn yJ3_checkIndex_8e157 cJ3_checkIndex_8e157 3 (some .int) 1 g [.int i, .int n, .ref q] μ (some (.int i)) μ := by
  refine Cn_of (by decide) (Nat.le_refl _) (Nat.le_refl _) (Nat.le_of_ble_eq_true rfl) ?_
  show J yJ3_checkIndex_8e157 cJ3_checkIndex_8e157 3 (some .int) 1 g _ _ 0 [(0, .int i), (1, .int n), (2, .ref q)] [] μ
  refine j_iload_n 0 dJ3_checkIndex_8e157_0 rfl rfl ?_
  refine j_if_lt 9 dJ3_checkIndex_8e157_1 (by decide) (fun h => absurd h h1) (fun _ => ?_)
  refine j_iload_n 0 dJ3_checkIndex_8e157_4 rfl rfl ?_
  refine j_iload_n 1 dJ3_checkIndex_8e157_5 rfl rfl ?_
  refine j_icmp_lt 16 dJ3_checkIndex_8e157_6 (by decide) (fun _ => ?_) (fun h => absurd h2 h)
  refine j_iload_n 0 dJ3_checkIndex_8e157_16 rfl rfl ?_
  exact j_iret dJ3_checkIndex_8e157_17 rfl rfl
set_option maxRecDepth 20000 in
theorem c_J0_checkIndex (g : Bool) (μ : jM) {i n : Int32} (h1 : ¬ i < 0) (h2 : i < n) : Cn yJ0_checkIndex_df160 cJ0_checkIndex_df160 2 none 2 g [.int i, .int n] μ none μ := by
  refine Cn_of (by decide) (Nat.le_refl _) (Nat.le_refl _) (Nat.le_of_ble_eq_true rfl) ?_
  show J yJ0_checkIndex_df160 cJ0_checkIndex_df160 2 none 2 g _ _ 0 [(0, .int i), (1, .int n)] [] μ
  refine j_iload_n 0 dJ0_checkIndex_df160_0 rfl rfl ?_
  refine j_iload_n 1 dJ0_checkIndex_df160_1 rfl rfl ?_
  refine j_gets2 kf_RJ0_1053 dJ0_checkIndex_df160_2 (fun q => ?_)
  refine j_callS (st1 := .int i :: _) (c_J3_checkIndex g μ q h1 h2) jy_J3_checkIndex_8e157 kt_yJ3_checkIndex_8e157 kl_RJ0_1059 dJ0_checkIndex_df160_5 rfl rfl rfl rfl (jbr _) (jbr _) (jbr _) (jbr _) (Or.inr rfl) rfl ?_
  refine j_pop dJ0_checkIndex_df160_8 rfl ?_
  exact j_vret dJ0_checkIndex_df160_9 rfl rfl
theorem jsc_ok : ∀ k, k < 4 → ∀ i, i < jsn (jsr k) → ((jsc (jsr k) i &&& 255).toUInt32 % 65536).toInt32 = jsc (jsr k) i ∧ narrow .char (.int (jsc (jsr k) i)) = .int (jsc (jsr k) i) := by decide +kernel
theorem jsn_lt : ∀ k, k < 4 → jsn (jsr k) < 2 ^ 31 := by decide +kernel
set_option maxRecDepth 20000 in
theorem c_J1_charAt (g : Bool) (μ : jM) (k : Nat) (hk : k < 4) {i : Int32} (hi : vp_in i (jsn (jsr k))) : Cn yJ1_charAt_3b067 cJ1_charAt_3b067 2 (some .char) 3 g [.ref (jsb k), .int i] μ (some (.int (jsc (jsr k) i.toNatClampNeg))) μ := by
  have hlt : i.toNatClampNeg < jsn (jsr k) := Nat.not_le.mp fun q => hi (Or.inr q)
  have hc := jsc_ok k hk _ hlt
  have hi0 : ¬ i < 0 := fun q => hi (Or.inl q)
  have hin : i < jsl (jsr k) := by
    obtain ⟨j, hj, rfl⟩ := vp_in_of hi (jsn_lt k hk)
    exact nI_lt hj (jsn_lt k hk)
  refine Cn_of (by decide) (Nat.le_refl _) (Nat.le_refl _) (Nat.le_of_ble_eq_true rfl) ?_
  show J yJ1_charAt_3b067 cJ1_charAt_3b067 2 (some .char) 3 g _ _ 0 [(0, .ref (jsb k)), (1, .int i)] [] μ
  refine j_iload_n 1 dJ1_charAt_3b067_0 rfl rfl ?_
  refine j_aload_n 0 dJ1_charAt_3b067_1 rfl rfl ?_
  refine j_btlen k hk dJ1_charAt_3b067_2 ?_
  refine j_callS (st1 := _) (c_J0_checkIndex g μ hi0 hin) jy_J0_checkIndex_df160 kt_yJ0_checkIndex_df160 kl_RJ1_9 dJ1_charAt_3b067_3 rfl rfl rfl rfl (jbr _) (jbr _) (jbr _) (jbr _) (Or.inr rfl) rfl ?_
  refine j_aload_n 0 dJ1_charAt_3b067_6 rfl rfl ?_
  refine j_iload_n 1 dJ1_charAt_3b067_7 rfl rfl ?_
  refine j_btld k hk hi dJ1_charAt_3b067_8 ?_
  refine j_sipush (v := 255) dJ1_charAt_3b067_9 (by decide) ?_
  refine j_iand dJ1_charAt_3b067_12 ?_
  refine j_i2c dJ1_charAt_3b067_13 ?_
  rw [hc.1]
  exact j_zret hc.2 dJ1_charAt_3b067_14 rfl rfl
set_option maxRecDepth 20000 in
theorem c_J0_charAt (g : Bool) (μ : jM) (k : Nat) (hk : k < 4) {i : Int32} (hi : vp_in i (jsn (jsr k))) : Cn yJ0_charAt_5068e cJ0_charAt_5068e 2 (some .char) 4 g [.ref (jsr k), .int i] μ (some (.int (jsc (jsr k) i.toNatClampNeg))) μ := by
  have hlt : i.toNatClampNeg < jsn (jsr k) := Nat.not_le.mp fun q => hi (Or.inr q)
  have hc := jsc_ok k hk _ hlt
  refine Cn_of (by decide) (Nat.le_refl _) (Nat.le_refl _) (Nat.le_of_ble_eq_true rfl) ?_
  show J yJ0_charAt_5068e cJ0_charAt_5068e 2 (some .char) 4 g _ _ 0 [(0, .ref (jsr k)), (1, .int i)] [] μ
  refine j_aload_n 0 dJ0_charAt_5068e_0 rfl rfl ?_
  refine j_callVS (st1 := .int 1 :: _) k hk (c_J0_isLatin1 g μ k hk) jy_J0_isLatin1_aae02 rfl ki_yJ0_isLatin1_aae02 ks_yJ0_isLatin1_aae02 kl_RJ0_492 dJ0_charAt_5068e_1 rfl rfl rfl rfl (jbr _) (jbr _) rfl ?_
  refine j_if_eq 16 dJ0_charAt_5068e_4 (by decide) (fun h => absurd h (by decide)) (fun _ => ?_)
  refine j_aload_n 0 dJ0_charAt_5068e_7 rfl rfl ?_
  refine j_gvalue k hk kf_RJ0_9 dJ0_charAt_5068e_8 ?_
  refine j_iload_n 1 dJ0_charAt_5068e_11 rfl rfl ?_
  refine j_callS (st1 := .int (jsc (jsr k) i.toNatClampNeg) :: _) (c_J1_charAt g μ k hk hi) jy_J1_charAt_3b067 kt_yJ1_charAt_3b067 kl_RJ0_495 dJ0_charAt_5068e_12 rfl rfl rfl rfl (jbr _) (jbr _) (jbr _) (jbr _) (Or.inr rfl) rfl ?_
  exact j_zret hc.2 dJ0_charAt_5068e_15 rfl rfl
section JSTR2
variable {y : MethodName} {cc : ByteArray} {nL : Nat} {rt : Option FieldType} {d : Nat} {g : Bool} {rv : Option Value} {μ' : jM} {pc : Nat} {lv : List (Nat × Value)} {st : List Value} {μ μ1 : jM}
theorem j_strlen (k : Nat) (hk : k < 4) {idx : Nat} (hw : Cond.methodLink y.cls idx yJ0_length_8abf5 ∈ jG) (hd : decode cc pc = .ok (.invokevirtual idx, 3)) (hW : Nat.ble ((st.map fun v => v.category).sum) 8 = true) (hdd : Nat.blt 4 d = true) (h3 : Nat.ble μ.1 μ'.1 = true) (h4 : Nat.ble μ.2.1 μ'.2.1 = true) (kk : J y cc nL rt d g rv μ' (pc + 3) lv (.int (jsl (jsr k)) :: st) μ) : J y cc nL rt d g rv μ' pc lv (.ref (jsr k) :: st) μ :=
  j_callVS (as := []) (st1 := .int (jsl (jsr k)) :: st) k hk (c_J0_length g μ k hk) jy_J0_length_8abf5 rfl ki_yJ0_length_8abf5 ks_yJ0_length_8abf5 hw hd rfl rfl hW (Nat.ble_eq_true_of_le (by have := Nat.le_of_ble_eq_true hdd; omega)) h3 h4 rfl kk
theorem j_charAt (k : Nat) (hk : k < 4) {i : Int32} {idx : Nat} (hi : vp_in i (jsn (jsr k))) (hw : Cond.methodLink y.cls idx yJ0_charAt_5068e ∈ jG) (hd : decode cc pc = .ok (.invokevirtual idx, 3)) (hW : Nat.ble ((st.map fun v => v.category).sum) 8 = true) (hdd : Nat.blt 4 d = true) (h3 : Nat.ble μ.1 μ'.1 = true) (h4 : Nat.ble μ.2.1 μ'.2.1 = true) (kk : J y cc nL rt d g rv μ' (pc + 3) lv (.int (jsc (jsr k) (i.toNatClampNeg)) :: st) μ) : J y cc nL rt d g rv μ' pc lv (.int i :: .ref (jsr k) :: st) μ :=
  j_callVS (as := [.int i]) (st1 := .int (jsc (jsr k) i.toNatClampNeg) :: st) k hk (c_J0_charAt g μ k hk hi) jy_J0_charAt_5068e rfl ki_yJ0_charAt_5068e ks_yJ0_charAt_5068e hw hd rfl rfl hW hdd h3 h4 rfl kk
end JSTR2
