/-! THE ABSTRACT MACHINE. A memory jM: how many cells, how many slots they took, what each cell is (kind, length), its ints, longs, references (0 = null, h = cell h).
J: from here the method comes to its end with the answer rv and the memory μ'. Cn: a method's contract. -/
abbrev jM : Type := Nat × Nat × (Nat → Nat × Nat) × (Nat → Nat → Int32) × (Nat → Nat → Int64) × (Nat → Nat → Nat)
def jsh (μ : jM) : Nat → Nat × Nat := μ.2.2.1
def jI (μ : jM) : Nat → Nat → Int32 := μ.2.2.2.1
def jL (μ : jM) : Nat → Nat → Int64 := μ.2.2.2.2.1
def jP (μ : jM) : Nat → Nat → Nat := μ.2.2.2.2.2
def ju {α : Type} (f : Nat → Nat → α) (h i : Nat) (v : α) : Nat → Nat → α := fun a j => if a = h ∧ j = i then v else f a j
def jsI (μ : jM) (h i : Nat) (v : Int32) : jM := (μ.1, μ.2.1, jsh μ, ju (jI μ) h i v, jL μ, jP μ)
def jsL (μ : jM) (h i : Nat) (v : Int64) : jM := (μ.1, μ.2.1, jsh μ, jI μ, ju (jL μ) h i v, jP μ)
def jsP (μ : jM) (h i : Nat) (v : Nat) : jM := (μ.1, μ.2.1, jsh μ, jI μ, jL μ, ju (jP μ) h i v)
def jnw (μ : jM) (k len w : Nat) : jM := (μ.1 + 1, μ.2.1 + w, (fun h => if h = μ.1 + 1 then (k, len) else jsh μ h), (fun h => if h = μ.1 + 1 then fun _ => 0 else jI μ h), (fun h => if h = μ.1 + 1 then fun _ => 0 else jL μ h), (fun h => if h = μ.1 + 1 then fun _ => 0 else jP μ h))
def jty : Nat → Nat → FieldType
  | 0 => tyX0 | 1 => tyX1 | 2 => tyX2 | 3 => tyX3 | 4 => tyX4 | 5 => tyX5 | 6 => tyX7 | 7 => tyX8 | 8 => tyX9 | 9 => tyX10 | 10 => tyX11 | _ => fun _ => .int
def jnf (ci : Nat) : Nat := [12, 4, 5, 7, 6, 5, 7, 9, 6, 10, 71].getD ci 0
def jr (ad : Nat → Nat) (h : Nat) : Value := if h = 0 then .null else .ref (ad h)
def jv (ad : Nat → Nat) : Value → Value
  | .ref h => jr ad h
  | v => v
def jo (ad : Nat → Nat) (h : Nat) : Option Nat := if h = 0 then none else some (ad h)
theorem jo_rf (ad : Nat → Nat) (h : Nat) : va_rf (jo ad h) = jr ad h := by
  unfold jo jr
  by_cases q : h = 0 <;> simp [q, va_rf]
def jk : FieldType → Nat
  | .long => 1
  | .object _ => 2
  | .array _ => 2
  | _ => 0
def jfv (ad : Nat → Nat) (μ : jM) (ci h j : Nat) : Value := match jk (jty ci j) with
  | 0 => .int (jI μ h j)
  | 1 => .long (jL μ h j)
  | _ => jr ad (jP μ h j)
def jcell (cy : Nat → ClassId) (ad : Nat → Nat) (μ : jM) (h : Nat) : va_E := match jsh μ h with
  | (0, n) => .inl (cy 0, n, .inl (jI μ h))
  | (1, n) => .inl (cy 1, n, .inl (jI μ h))
  | (2, n) => .inl (cy 2, n, .inr (.inl (jL μ h)))
  | (3, n) => .inl (cy 3, n, .inr (.inr (.inr (.inr (fun i => jo ad (jP μ h i))))))
  | (k + 4, _) => .inr (k, (List.range (jnf k)).map (jfv ad μ k h))
def jW (cy : Nat → ClassId) (ad : Nat → Nat) (bs : Nat) (μ : jM) : va_W := (List.range μ.1).map fun k => (bs + (k + 1), jcell cy ad μ (k + 1))
def jtys (cy : Nat → ClassId) : List (ClassId × FieldType) := [(cy 0, .int), (cy 1, .boolean), (cy 2, .long), (cy 3, .object RX7)]
theorem jW_get {cy : Nat → ClassId} {ad : Nat → Nat} {bs : Nat} {μ : jM} {h : Nat} (h0 : h ≠ 0) (hn : h ≤ μ.1) : (jW cy ad bs μ)[h - 1]? = some (bs + h, jcell cy ad μ h) := by
  have e : h - 1 + 1 = h := by omega
  simp only [jW, List.getElem?_map]
  rw [List.getElem?_range (by omega)]
  simp [e]
theorem jW_D {cy : Nat → ClassId} {ad : Nat → Nat} {bs : Nat} {μ : jM} {A : Nat → Prop} (hA : ∀ q, bs < q → q ≤ bs + μ.1 → A q) : va_D A (jW cy ad bs μ) := by
  have key : ∀ (i : Nat) (p : Nat × va_E), (jW cy ad bs μ)[i]? = some p → i < μ.1 ∧ p.1 = bs + (i + 1) := by
    intro i p h
    simp only [jW, List.getElem?_map] at h
    by_cases hi : i < μ.1
    · rw [List.getElem?_range hi] at h
      simp at h
      exact ⟨hi, by rw [← h]⟩
    · rw [List.getElem?_eq_none (by simp; omega)] at h
      cases h
  refine ⟨fun i j p q hp hq e => ?_, fun k q hq => ?_⟩
  · have a := key i p hp
    have b := key j q hq
    omega
  · have a := key k q hq
    rw [a.2]
    exact hA _ (by omega) (by omega)
theorem jW_set {cy : Nat → ClassId} {ad : Nat → Nat} {bs : Nat} {μ μ2 : jM} {h : Nat} {e : va_E} (h0 : h ≠ 0) (hn : h ≤ μ.1) (h1 : μ2.1 = μ.1) (h2 : jcell cy ad μ2 h = e) (h3 : ∀ k, k ≠ h → jcell cy ad μ2 k = jcell cy ad μ k) : (jW cy ad bs μ).set (h - 1) (bs + h, e) = jW cy ad bs μ2 := by
  apply List.ext_getElem?
  intro i
  rw [List.getElem?_set]
  have hl : (jW cy ad bs μ).length = μ.1 := by simp [jW]
  by_cases q : h - 1 = i
  · subst q
    rw [if_pos rfl, if_pos (by omega), jW_get (μ := μ2) h0 (by omega), h2]
  · rw [if_neg q]
    simp only [jW, List.getElem?_map, h1]
    by_cases hi : i < μ.1
    · rw [List.getElem?_range hi]
      simp [h3 (i + 1) (by omega)]
    · rw [List.getElem?_eq_none (by simp; omega)]
      rfl
theorem jW_push {cy : Nat → ClassId} {ad : Nat → Nat} {bs : Nat} {μ μ2 : jM} {e : va_E} (h1 : μ2.1 = μ.1 + 1) (h2 : jcell cy ad μ2 (μ.1 + 1) = e) (h3 : ∀ k, k ≤ μ.1 → jcell cy ad μ2 k = jcell cy ad μ k) : jW cy ad bs μ ++ [(bs + (μ.1 + 1), e)] = jW cy ad bs μ2 := by
  simp only [jW, h1, List.range_succ, List.map_append, List.map_cons, List.map_nil, h2]
  congr 1
  apply List.map_congr_left
  intro k hk
  have := List.mem_range.mp hk
  simp [h3 (k + 1) (by omega)]
/-- the words on the nest's own constructors, the array of Standings, the text constants: facts of a state and its heap below bs -/
def jnests : List Cond := [.methodLinkNest RX10 11 yX5_init "DeputyQuarrels", .methodLinkNest RX10 18 yX0_init "DeputyQuarrels", .methodLinkNest RX0 11 yX9_init "DeputyQuarrels", .methodLinkNest RX10 25 yX4_init "DeputyQuarrels", .methodLinkNest RX10 32 yX2_init "DeputyQuarrels", .methodLinkNest RX10 39 yX3_init "DeputyQuarrels", .methodLinkNest RX10 46 yX7_init "DeputyQuarrels", .methodLinkNest RX7 20 yX1_init "DeputyQuarrels", .methodLinkNest RX10 57 yX8_init "DeputyQuarrels", .methodLinkNest RX8 29 yX1_init "DeputyQuarrels"]
def jidx : Nat → Nat := fun i => 110 + 2 * i
def jtx : Nat → String := fun i => ["person", "owes", "grudge", "quarrel"].getD i ""
def jlen : List Nat := [6, 4, 6, 7]
def jbyt : List (List Int32) := [[112, 101, 114, 115, 111, 110], [111, 119, 101, 115], [103, 114, 117, 100, 103, 101], [113, 117, 97, 114, 114, 101, 108]]
def jlim : Nat := 1000000
def jE (ad : Nat → Nat) (bs : Nat) (U : State) (H : Heap) : Prop :=
  (∀ w ∈ jnests, va_Nw w U) ∧ va_AO RX7 U ∧ vk_S 4 jlen jbyt (fun i => ad (jlim + i)) (fun i => ad (jlim + 10 + i)) (fun q => bs < q) U H ∧ (∀ i, i < 4 → vk_R RX5 (jidx i) (jtx i) (ad (jlim + i)) U) ∧ va_Z "java/lang/String" "COMPACT_STRINGS" "Z" (.int 1) (fun q => bs < q) U H ∧ (va_Z "jdk/internal/util/Preconditions" "SIOOBE_FORMATTER" "Ljava/util/function/BiFunction;" .null (fun q => bs < q) U H ∨ va_Z "jdk/internal/util/Preconditions" "SIOOBE_FORMATTER" "Ljava/util/function/BiFunction;" (.ref (ad (jlim + 20))) (fun q => bs < q) U H)
theorem jE_moved {ad : Nat → Nat} {bs : Nat} {s U : State} {H0 H : Heap} (hW : s.WarmedH U.vm) (hq : ∀ a : Nat, a < H0.size → a ≤ bs → H[a]? = H0[a]?) (h : jE ad bs s H0) : jE ad bs U H := by
  obtain ⟨h1, h2, h3, h4, h5, h6⟩ := h
  have hq' : ∀ a : Nat, a < H0.size → ¬ (bs < a) → H[a]? = H0[a]? := fun a x z => hq a x (by omega)
  refine ⟨fun w hw => ?_, va_AO.moved hW.alike h2, vk_S.kept (vk_S.moved hW.alike h3) hq', fun i hi => vk_R.warm hW (h4 i hi), va_Z.kept (va_Z.moved hW.alike h5) hq', ?_⟩
  · have hh := h1 w hw
    simp only [jnests, List.mem_cons, List.not_mem_nil, or_false] at hw
    rcases hw with rfl | rfl | rfl | rfl | rfl | rfl | rfl | rfl | rfl | rfl <;> exact va_Nw.warmM hW hh
  · rcases h6 with h6 | h6
    · exact Or.inl (va_Z.kept (va_Z.moved hW.alike h6) hq')
    · exact Or.inr (va_Z.kept (va_Z.moved hW.alike h6) hq')
def jR (d mc ms : Nat) : Room := { frames := d, cells := mc, slots := ms, locals := 41 * d }
/-- what stays over a whole frame -/
def jF (y : MethodName) (cc : ByteArray) (nL : Nat) (rt : Option FieldType) (D : va_G) (cy : Nat → ClassId) (ad : Nat → Nat) (bs : Nat) (A : Nat → Prop) (p : Program) (s : State) (m : MethodId) (args : Array Value) (meth : Method) (c : Code) : Prop :=
  p.tables.exec = Jvm.exec ∧ c.code = cc ∧ c.maxLocals = nL ∧ meth.sig.returnType = rt ∧ s.vm.findClass y.cls = some m.cls ∧ (∀ w ∈ jG, w.before args s = true) ∧ meth.locks = false ∧ va_K D vwCl (jtys cy) s ∧ (∀ q, s.heap.size ≤ q → A q) ∧ (∀ q, A q → bs < q) ∧ (∀ h, h < jlim → ad h = bs + h) ∧ jE ad bs s s.heap ∧ meth.name = y.name ∧ bs < s.heap.size
/-- what holds at a point -/
def jH (D : va_G) (cy : Nat → ClassId) (ad : Nat → Nat) (bs : Nat) (A : Nat → Prop) (MC MS n0 w0 : Nat) (g : Bool) (μ' : jM) (s : State) (H : Heap) (locs : List Loc) (cells slots : Nat) (μ : jM) : Prop :=
  va_P D vwCl (jW cy ad bs μ) H ∧ va_S A s.heap H locs ∧ (∀ q, bs < q → q ≤ bs + μ.1 → A q) ∧ (g = true → H.size = bs + μ.1 + 1) ∧ cells + n0 = μ.1 ∧ slots + w0 = μ.2.1 ∧ MC + n0 = μ'.1 ∧ MS + w0 = μ'.2.1
def jQ (D : va_G) (cy : Nat → ClassId) (ad : Nat → Nat) (bs : Nat) (A : Nat → Prop) (g : Bool) (rv : Option Value) (μ' : jM) : Array Value → State → Outcome → State → Prop := fun _ st o t =>
  o = .returned (rv.map (jv ad)) ∧ va_P D vwCl (jW cy ad bs μ') t.heap ∧ (g = true → t.heap.size = bs + μ'.1 + 1) ∧ va_F A st t
def jlv (ad : Nat → Nat) (lv : List (Nat × Value)) : List (Nat × Value) := lv.map fun q => (q.1, jv ad q.2)
def J (y : MethodName) (cc : ByteArray) (nL : Nat) (rt : Option FieldType) (d : Nat) (g : Bool) (rv : Option Value) (μ' : jM) (pc : Nat) (lv : List (Nat × Value)) (st : List Value) (μ : jM) : Prop :=
  ∀ (D : va_G) (cy : Nat → ClassId) (ad : Nat → Nat) (bs : Nat) (A : Nat → Prop) (MC MS n0 w0 : Nat) (p : Program) (l : Launch) (e : Env) (s : State) (m : MethodId) (args : Array Value) (below : List Frame) (meth : Method) (c : Code) (H : Heap) (locs : List Loc) (cells slots : Nat) (ls : Array Slot),
    jF y cc nL rt D cy ad bs A p s m args meth c → jH D cy ad bs A MC MS n0 w0 g μ' s H locs cells slots μ → lv_has ls nL (jlv ad lv) →
    W p l e (jR d MC MS) s m args below meth c H locs cells slots (MQ below (jQ D cy ad bs A g rv μ') args s MC MS A) (F0 m pc ls (st.map (jv ad)))
def jA (bs n sz : Nat) : Nat → Prop := fun q => (bs < q ∧ q ≤ bs + n) ∨ sz ≤ q
def jPc (D : va_G) (cy : Nat → ClassId) (ad : Nat → Nat) (bs : Nat) (g : Bool) (sz : Nat) (as : List Value) (μ : jM) : Array Value → State → Prop := fun a U =>
  a = (as.map (jv ad)).toArray ∧ U.heap.size = sz ∧ va_P D vwCl (jW cy ad bs μ) U.heap ∧ va_K D vwCl (jtys cy) U ∧ (g = true → sz = bs + μ.1 + 1) ∧ bs < sz ∧ (∀ h, h < jlim → ad h = bs + h) ∧ jE ad bs U U.heap
/-- a method's contract: from the memory μ, with the arguments as, it answers rv and leaves the memory μ' (g: no cell lies behind the memory's, so it may make some) -/
def Cn (y : MethodName) (cc : ByteArray) (nL : Nat) (rt : Option FieldType) (d : Nat) (g : Bool) (as : List Value) (μ : jM) (rv : Option Value) (μ' : jM) : Prop :=
  ∀ (l : Launch) (D : va_G) (cy : Nat → ClassId) (ad : Nat → Nat) (bs sz : Nat), Met l y (Cond.code y cc nL rt :: jG) (jR d (μ'.1 - μ.1) (μ'.2.1 - μ.2.1)) (jPc D cy ad bs g sz as μ) (jQ D cy ad bs (jA bs μ.1 sz) g rv μ') (μ'.1 - μ.1) (μ'.2.1 - μ.2.1) (jA bs μ.1 sz)
theorem jv_cat (ad : Nat → Nat) (v : Value) : (jv ad v).category = v.category := by
  cases v with
  | ref h => by_cases q : h = 0 <;> simp [jv, jr, Value.category, q]
  | _ => rfl
theorem j_flt (ad : Nat → Nat) (f : Nat → Nat → Bool) : ∀ (lv : List (Nat × Value)), (lv.map fun q => (q.1, jv ad q.2)).filter (fun q => f q.1 q.2.category) = (lv.filter (fun q => f q.1 q.2.category)).map fun q => (q.1, jv ad q.2)
  | [] => rfl
  | q :: lv => by
    have ih := j_flt ad f lv
    simp only [List.map_cons, List.filter_cons, jv_cat, ih]
    split <;> rfl
theorem jlv_args (ad : Nat → Nat) : ∀ (as : List Value) (i : Nat), lv_args i (as.map (jv ad)) = jlv ad (lv_args i as)
  | [], _ => rfl
  | v :: vs, i => by
    simp only [List.map_cons, lv_args, jlv, jv_cat]
    rw [jlv_args ad vs]
    rfl
theorem j_sl_len (ad : Nat → Nat) : ∀ (as : List Value), (lg_sl (as.map (jv ad))).length = (lg_sl as).length
  | [] => rfl
  | v :: vs => by
    have ih := j_sl_len ad vs
    simp only [lg_sl, List.map_cons, List.flatMap_cons, List.length_append] at ih ⊢
    rw [ih]
    congr 1
    simp only [jv_cat]
    split <;> rfl

/-- the entry: a method's contract out of J at 0 -/
theorem Cn_of {y : MethodName} {cc : ByteArray} {nL : Nat} {rt : Option FieldType} {d : Nat} {g : Bool} {as : List Value} {μ μ' : jM} {rv : Option Value} (hy : plainName y.cls = true) (hn : μ.1 ≤ μ'.1) (hw : μ.2.1 ≤ μ'.2.1) (hs : (lg_sl as).length ≤ nL)
    (h : J y cc nL rt d g rv μ' 0 (lv_args 0 as) [] μ) : Cn y cc nL rt d g as μ rv μ' := by
  intro l D cy ad bs sz
  refine Met.ofW (cc := cc) (maxL := nL) (ret := rt) hy rfl ?_
  intro p e s m args below meth c s₁ B hml hv
  obtain ⟨rfl, hsz, hP, hK, hg, hbs, had, hE⟩ := hv
  have hts := atoms_spec (ws := Cond.code y cc nL rt :: jG) B.pre
  have hown : s.vm.findClass y.cls = some m.cls := findClass_of_methodNamed B.named
  have hnm : meth.name = y.name := (name_of_methodNamed B.named B.method).1
  have hl := lv_entry (as.map (jv ad)) (n := nL) (by rw [j_sl_len]; exact hs)
  rw [lg_entry_eq]
  generalize (lg_sl (as.map (jv ad)) ++ List.replicate (nL - (lg_sl (as.map (jv ad))).length) Slot.unset).toArray = ls at hl ⊢
  rw [jlv_args] at hl
  refine h D cy ad bs (jA bs μ.1 sz) (μ'.1 - μ.1) (μ'.2.1 - μ.2.1) μ.1 μ.2.1 p l e s m _ below meth c s.heap [] 0 0 ls ?_ ?_ hl
  · refine ⟨B.exec, B.bytes, hml, B.returns, hown, fun w hw => hts w (List.mem_cons_of_mem _ hw), B.notSynchronized, hK, fun q hq => Or.inr (by rw [← hsz]; exact hq), fun q hq => ?_, had, hE, hnm, by rw [hsz]; exact hbs⟩
    rcases hq with hq | hq
    · exact hq.1
    · omega
  · exact ⟨hP, va_S.rf, fun q h1 h2 => Or.inl ⟨h1, h2⟩, fun hgt => by rw [hsz]; exact hg hgt, by omega, by omega, by omega, by omega⟩
section JROWS
variable {y : MethodName} {cc : ByteArray} {nL : Nat} {rt : Option FieldType} {d : Nat} {g : Bool} {rv : Option Value} {μ' : jM} {pc : Nat} {lv : List (Nat × Value)} {st : List Value} {μ : jM}
theorem j_at {ad : Nat → Nat} {ls : Array Slot} {i : Nat} {v : Value} {k : Nat} (hl : lv_has ls nL (jlv ad lv)) (hk : lv[k]? = some (i, v)) : ls[i]? = some (.val (jv ad v)) :=
  lv_at hl k (by simp [jlv, List.getElem?_map, hk])
theorem j_sub (lv' : List (Nat × Value)) (ks : List Nat) (h : lv_pick lv ks = lv') (k : J y cc nL rt d g rv μ' pc lv' st μ) : J y cc nL rt d g rv μ' pc lv st μ := by
  intro D cy ad bs A MC MS n0 w0 p l e s m args below meth c H locs cells slots ls F B hl
  refine k D cy ad bs A MC MS n0 w0 p l e s m args below meth c H locs cells slots ls F B (lv_sub hl ks ?_)
  subst h
  simp only [lv_pick, jlv, List.getElem?_map, List.map_filterMap]

theorem j_iadd {x z : Int32} (hd : decode cc pc = .ok (.iadd, 1)) (k : J y cc nL rt d g rv μ' (pc + 1) lv (.int (x + z) :: st) μ) : J y cc nL rt d g rv μ' pc lv (.int z :: .int x :: st) μ := by
  intro D cy ad bs A MC MS n0 w0 p l e s m args below meth c H locs cells slots ls F B hl
  exact lv_iadd F.1 F.2.1 hd (k D cy ad bs A MC MS n0 w0 p l e s m args below meth c H locs cells slots ls F B hl)
theorem j_isub {x z : Int32} (hd : decode cc pc = .ok (.isub, 1)) (k : J y cc nL rt d g rv μ' (pc + 1) lv (.int (x - z) :: st) μ) : J y cc nL rt d g rv μ' pc lv (.int z :: .int x :: st) μ := by
  intro D cy ad bs A MC MS n0 w0 p l e s m args below meth c H locs cells slots ls F B hl
  exact lv_isub F.1 F.2.1 hd (k D cy ad bs A MC MS n0 w0 p l e s m args below meth c H locs cells slots ls F B hl)
theorem j_imul {x z : Int32} (hd : decode cc pc = .ok (.imul, 1)) (k : J y cc nL rt d g rv μ' (pc + 1) lv (.int (x * z) :: st) μ) : J y cc nL rt d g rv μ' pc lv (.int z :: .int x :: st) μ := by
  intro D cy ad bs A MC MS n0 w0 p l e s m args below meth c H locs cells slots ls F B hl
  exact lv_imul F.1 F.2.1 hd (k D cy ad bs A MC MS n0 w0 p l e s m args below meth c H locs cells slots ls F B hl)
theorem j_iand {x z : Int32} (hd : decode cc pc = .ok (.iand, 1)) (k : J y cc nL rt d g rv μ' (pc + 1) lv (.int (x &&& z) :: st) μ) : J y cc nL rt d g rv μ' pc lv (.int z :: .int x :: st) μ := by
  intro D cy ad bs A MC MS n0 w0 p l e s m args below meth c H locs cells slots ls F B hl
  exact lv_iand F.1 F.2.1 hd (k D cy ad bs A MC MS n0 w0 p l e s m args below meth c H locs cells slots ls F B hl)
theorem j_ior {x z : Int32} (hd : decode cc pc = .ok (.ior, 1)) (k : J y cc nL rt d g rv μ' (pc + 1) lv (.int (x ||| z) :: st) μ) : J y cc nL rt d g rv μ' pc lv (.int z :: .int x :: st) μ := by
  intro D cy ad bs A MC MS n0 w0 p l e s m args below meth c H locs cells slots ls F B hl
  exact lv_ior F.1 F.2.1 hd (k D cy ad bs A MC MS n0 w0 p l e s m args below meth c H locs cells slots ls F B hl)
theorem j_ixor {x z : Int32} (hd : decode cc pc = .ok (.ixor, 1)) (k : J y cc nL rt d g rv μ' (pc + 1) lv (.int (x ^^^ z) :: st) μ) : J y cc nL rt d g rv μ' pc lv (.int z :: .int x :: st) μ := by
  intro D cy ad bs A MC MS n0 w0 p l e s m args below meth c H locs cells slots ls F B hl
  exact lv_ixor F.1 F.2.1 hd (k D cy ad bs A MC MS n0 w0 p l e s m args below meth c H locs cells slots ls F B hl)
theorem j_ishl {x z : Int32} (hd : decode cc pc = .ok (.ishl, 1)) (k : J y cc nL rt d g rv μ' (pc + 1) lv (.int (x <<< (z &&& 31)) :: st) μ) : J y cc nL rt d g rv μ' pc lv (.int z :: .int x :: st) μ := by
  intro D cy ad bs A MC MS n0 w0 p l e s m args below meth c H locs cells slots ls F B hl
  exact lv_ishl F.1 F.2.1 hd (k D cy ad bs A MC MS n0 w0 p l e s m args below meth c H locs cells slots ls F B hl)
theorem j_ishr {x z : Int32} (hd : decode cc pc = .ok (.ishr, 1)) (k : J y cc nL rt d g rv μ' (pc + 1) lv (.int (x >>> (z &&& 31)) :: st) μ) : J y cc nL rt d g rv μ' pc lv (.int z :: .int x :: st) μ := by
  intro D cy ad bs A MC MS n0 w0 p l e s m args below meth c H locs cells slots ls F B hl
  exact lv_ishr F.1 F.2.1 hd (k D cy ad bs A MC MS n0 w0 p l e s m args below meth c H locs cells slots ls F B hl)
theorem j_idiv {x z : Int32} (hd : decode cc pc = .ok (.idiv, 1)) (h : ¬ z = 0) (k : J y cc nL rt d g rv μ' (pc + 1) lv (.int (x / z) :: st) μ) : J y cc nL rt d g rv μ' pc lv (.int z :: .int x :: st) μ := by
  intro D cy ad bs A MC MS n0 w0 p l e s m args below meth c H locs cells slots ls F B hl
  exact lv_idiv F.1 F.2.1 hd h (k D cy ad bs A MC MS n0 w0 p l e s m args below meth c H locs cells slots ls F B hl)
theorem j_irem {x z : Int32} (hd : decode cc pc = .ok (.irem, 1)) (h : ¬ z = 0) (k : J y cc nL rt d g rv μ' (pc + 1) lv (.int (x - x / z * z) :: st) μ) : J y cc nL rt d g rv μ' pc lv (.int z :: .int x :: st) μ := by
  intro D cy ad bs A MC MS n0 w0 p l e s m args below meth c H locs cells slots ls F B hl
  exact lv_irem F.1 F.2.1 hd h (k D cy ad bs A MC MS n0 w0 p l e s m args below meth c H locs cells slots ls F B hl)
theorem j_ladd {x z : Int64} (hd : decode cc pc = .ok (.ladd, 1)) (k : J y cc nL rt d g rv μ' (pc + 1) lv (.long (x + z) :: st) μ) : J y cc nL rt d g rv μ' pc lv (.long z :: .long x :: st) μ := by
  intro D cy ad bs A MC MS n0 w0 p l e s m args below meth c H locs cells slots ls F B hl
  exact lv_ladd F.1 F.2.1 hd (k D cy ad bs A MC MS n0 w0 p l e s m args below meth c H locs cells slots ls F B hl)
theorem j_lsub {x z : Int64} (hd : decode cc pc = .ok (.lsub, 1)) (k : J y cc nL rt d g rv μ' (pc + 1) lv (.long (x - z) :: st) μ) : J y cc nL rt d g rv μ' pc lv (.long z :: .long x :: st) μ := by
  intro D cy ad bs A MC MS n0 w0 p l e s m args below meth c H locs cells slots ls F B hl
  exact lv_lsub F.1 F.2.1 hd (k D cy ad bs A MC MS n0 w0 p l e s m args below meth c H locs cells slots ls F B hl)
theorem j_lmul {x z : Int64} (hd : decode cc pc = .ok (.lmul, 1)) (k : J y cc nL rt d g rv μ' (pc + 1) lv (.long (x * z) :: st) μ) : J y cc nL rt d g rv μ' pc lv (.long z :: .long x :: st) μ := by
  intro D cy ad bs A MC MS n0 w0 p l e s m args below meth c H locs cells slots ls F B hl
  exact lv_lmul F.1 F.2.1 hd (k D cy ad bs A MC MS n0 w0 p l e s m args below meth c H locs cells slots ls F B hl)
theorem j_land {x z : Int64} (hd : decode cc pc = .ok (.land, 1)) (k : J y cc nL rt d g rv μ' (pc + 1) lv (.long (x &&& z) :: st) μ) : J y cc nL rt d g rv μ' pc lv (.long z :: .long x :: st) μ := by
  intro D cy ad bs A MC MS n0 w0 p l e s m args below meth c H locs cells slots ls F B hl
  exact lv_land F.1 F.2.1 hd (k D cy ad bs A MC MS n0 w0 p l e s m args below meth c H locs cells slots ls F B hl)
theorem j_lor {x z : Int64} (hd : decode cc pc = .ok (.lor, 1)) (k : J y cc nL rt d g rv μ' (pc + 1) lv (.long (x ||| z) :: st) μ) : J y cc nL rt d g rv μ' pc lv (.long z :: .long x :: st) μ := by
  intro D cy ad bs A MC MS n0 w0 p l e s m args below meth c H locs cells slots ls F B hl
  exact lv_lor F.1 F.2.1 hd (k D cy ad bs A MC MS n0 w0 p l e s m args below meth c H locs cells slots ls F B hl)
theorem j_lxor {x z : Int64} (hd : decode cc pc = .ok (.lxor, 1)) (k : J y cc nL rt d g rv μ' (pc + 1) lv (.long (x ^^^ z) :: st) μ) : J y cc nL rt d g rv μ' pc lv (.long z :: .long x :: st) μ := by
  intro D cy ad bs A MC MS n0 w0 p l e s m args below meth c H locs cells slots ls F B hl
  exact lv_lxor F.1 F.2.1 hd (k D cy ad bs A MC MS n0 w0 p l e s m args below meth c H locs cells slots ls F B hl)
theorem j_ldiv {x z : Int64} (hd : decode cc pc = .ok (.ldiv, 1)) (h : ¬ z = 0) (k : J y cc nL rt d g rv μ' (pc + 1) lv (.long (x / z) :: st) μ) : J y cc nL rt d g rv μ' pc lv (.long z :: .long x :: st) μ := by
  intro D cy ad bs A MC MS n0 w0 p l e s m args below meth c H locs cells slots ls F B hl
  exact lv_ldiv F.1 F.2.1 hd h (k D cy ad bs A MC MS n0 w0 p l e s m args below meth c H locs cells slots ls F B hl)
theorem j_lrem {x z : Int64} (hd : decode cc pc = .ok (.lrem, 1)) (h : ¬ z = 0) (k : J y cc nL rt d g rv μ' (pc + 1) lv (.long (x - x / z * z) :: st) μ) : J y cc nL rt d g rv μ' pc lv (.long z :: .long x :: st) μ := by
  intro D cy ad bs A MC MS n0 w0 p l e s m args below meth c H locs cells slots ls F B hl
  exact lv_lrem F.1 F.2.1 hd h (k D cy ad bs A MC MS n0 w0 p l e s m args below meth c H locs cells slots ls F B hl)
theorem j_ineg {x : Int32} (hd : decode cc pc = .ok (.ineg, 1)) (k : J y cc nL rt d g rv μ' (pc + 1) lv (.int (-x) :: st) μ) : J y cc nL rt d g rv μ' pc lv (.int x :: st) μ := by
  intro D cy ad bs A MC MS n0 w0 p l e s m args below meth c H locs cells slots ls F B hl
  exact lv_ineg F.1 F.2.1 hd (k D cy ad bs A MC MS n0 w0 p l e s m args below meth c H locs cells slots ls F B hl)
theorem j_lneg {x : Int64} (hd : decode cc pc = .ok (.lneg, 1)) (k : J y cc nL rt d g rv μ' (pc + 1) lv (.long (-x) :: st) μ) : J y cc nL rt d g rv μ' pc lv (.long x :: st) μ := by
  intro D cy ad bs A MC MS n0 w0 p l e s m args below meth c H locs cells slots ls F B hl
  exact lv_lneg F.1 F.2.1 hd (k D cy ad bs A MC MS n0 w0 p l e s m args below meth c H locs cells slots ls F B hl)
theorem j_iushr {x z : Int32} (hd : decode cc pc = .ok (.iushr, 1)) (k : J y cc nL rt d g rv μ' (pc + 1) lv (.int ((x.toUInt32 >>> (z.toUInt32 &&& Int32.toUInt32 31)).toInt32) :: st) μ) : J y cc nL rt d g rv μ' pc lv (.int z :: .int x :: st) μ := by
  intro D cy ad bs A MC MS n0 w0 p l e s m args below meth c H locs cells slots ls F B hl
  exact lv_iushr F.1 F.2.1 hd rfl (k D cy ad bs A MC MS n0 w0 p l e s m args below meth c H locs cells slots ls F B hl)
theorem j_lshl {x : Int64} {z : Int32} (hd : decode cc pc = .ok (.lshl, 1)) (k : J y cc nL rt d g rv μ' (pc + 1) lv (.long (x <<< (z.toInt64 &&& 63)) :: st) μ) : J y cc nL rt d g rv μ' pc lv (.int z :: .long x :: st) μ := by
  intro D cy ad bs A MC MS n0 w0 p l e s m args below meth c H locs cells slots ls F B hl
  exact lv_lshl F.1 F.2.1 hd rfl (k D cy ad bs A MC MS n0 w0 p l e s m args below meth c H locs cells slots ls F B hl)
theorem j_lshr {x : Int64} {z : Int32} (hd : decode cc pc = .ok (.lshr, 1)) (k : J y cc nL rt d g rv μ' (pc + 1) lv (.long (x >>> (z.toInt64 &&& 63)) :: st) μ) : J y cc nL rt d g rv μ' pc lv (.int z :: .long x :: st) μ := by
  intro D cy ad bs A MC MS n0 w0 p l e s m args below meth c H locs cells slots ls F B hl
  exact lv_lshr F.1 F.2.1 hd rfl (k D cy ad bs A MC MS n0 w0 p l e s m args below meth c H locs cells slots ls F B hl)
theorem j_lushr {x : Int64} {z : Int32} (hd : decode cc pc = .ok (.lushr, 1)) (k : J y cc nL rt d g rv μ' (pc + 1) lv (.long ((x.toUInt64 >>> (z.toInt64.toUInt64 &&& Int64.toUInt64 63)).toInt64) :: st) μ) : J y cc nL rt d g rv μ' pc lv (.int z :: .long x :: st) μ := by
  intro D cy ad bs A MC MS n0 w0 p l e s m args below meth c H locs cells slots ls F B hl
  exact lv_lushr F.1 F.2.1 hd rfl (k D cy ad bs A MC MS n0 w0 p l e s m args below meth c H locs cells slots ls F B hl)
theorem j_i2l {x : Int32} (hd : decode cc pc = .ok (.i2l, 1)) (k : J y cc nL rt d g rv μ' (pc + 1) lv (.long x.toInt64 :: st) μ) : J y cc nL rt d g rv μ' pc lv (.int x :: st) μ := by
  intro D cy ad bs A MC MS n0 w0 p l e s m args below meth c H locs cells slots ls F B hl
  exact lv_i2l F.1 F.2.1 hd rfl (k D cy ad bs A MC MS n0 w0 p l e s m args below meth c H locs cells slots ls F B hl)
theorem j_l2i {x : Int64} (hd : decode cc pc = .ok (.l2i, 1)) (k : J y cc nL rt d g rv μ' (pc + 1) lv (.int x.toInt32 :: st) μ) : J y cc nL rt d g rv μ' pc lv (.long x :: st) μ := by
  intro D cy ad bs A MC MS n0 w0 p l e s m args below meth c H locs cells slots ls F B hl
  exact lv_l2i F.1 F.2.1 hd rfl (k D cy ad bs A MC MS n0 w0 p l e s m args below meth c H locs cells slots ls F B hl)
theorem j_i2c {x : Int32} (hd : decode cc pc = .ok (.i2c, 1)) (k : J y cc nL rt d g rv μ' (pc + 1) lv (.int ((x.toUInt32 % 65536).toInt32) :: st) μ) : J y cc nL rt d g rv μ' pc lv (.int x :: st) μ := by
  intro D cy ad bs A MC MS n0 w0 p l e s m args below meth c H locs cells slots ls F B hl
  exact lv_i2c F.1 F.2.1 hd rfl (k D cy ad bs A MC MS n0 w0 p l e s m args below meth c H locs cells slots ls F B hl)
theorem j_lcmp {x z : Int64} (hd : decode cc pc = .ok (.lcmp, 1)) (k : J y cc nL rt d g rv μ' (pc + 1) lv (.int (lg_cmp x z) :: st) μ) : J y cc nL rt d g rv μ' pc lv (.long z :: .long x :: st) μ := by
  intro D cy ad bs A MC MS n0 w0 p l e s m args below meth c H locs cells slots ls F B hl
  exact W.lcmp F.1 F.2.1 hd (k D cy ad bs A MC MS n0 w0 p l e s m args below meth c H locs cells slots ls F B hl)
theorem j_iconst {n : Int} {v : Int32} (hd : decode cc pc = .ok (.iconst n, 1)) (hv : Int32.ofInt n = v) (k : J y cc nL rt d g rv μ' (pc + 1) lv (.int v :: st) μ) : J y cc nL rt d g rv μ' pc lv (st) μ := by
  intro D cy ad bs A MC MS n0 w0 p l e s m args below meth c H locs cells slots ls F B hl
  exact lv_iconst F.1 F.2.1 hd hv (k D cy ad bs A MC MS n0 w0 p l e s m args below meth c H locs cells slots ls F B hl)
theorem j_bipush {n : Int} {v : Int32} (hd : decode cc pc = .ok (.bipush n, 2)) (hv : (Int8.ofInt n).toInt32 = v) (k : J y cc nL rt d g rv μ' (pc + 2) lv (.int v :: st) μ) : J y cc nL rt d g rv μ' pc lv (st) μ := by
  intro D cy ad bs A MC MS n0 w0 p l e s m args below meth c H locs cells slots ls F B hl
  exact lv_bipush F.1 F.2.1 hd hv (k D cy ad bs A MC MS n0 w0 p l e s m args below meth c H locs cells slots ls F B hl)
theorem j_sipush {n : Int} {v : Int32} (hd : decode cc pc = .ok (.sipush n, 3)) (hv : (Int16.ofInt n).toInt32 = v) (k : J y cc nL rt d g rv μ' (pc + 3) lv (.int v :: st) μ) : J y cc nL rt d g rv μ' pc lv (st) μ := by
  intro D cy ad bs A MC MS n0 w0 p l e s m args below meth c H locs cells slots ls F B hl
  exact lv_sipush F.1 F.2.1 hd hv (k D cy ad bs A MC MS n0 w0 p l e s m args below meth c H locs cells slots ls F B hl)
theorem j_lconst {n : Fin 2} {v : Int64} (hd : decode cc pc = .ok (.lconst n, 1)) (hv : Int64.ofNat (n : Nat) = v) (k : J y cc nL rt d g rv μ' (pc + 1) lv (.long v :: st) μ) : J y cc nL rt d g rv μ' pc lv (st) μ := by
  intro D cy ad bs A MC MS n0 w0 p l e s m args below meth c H locs cells slots ls F B hl
  exact lv_lconst F.1 F.2.1 hd hv (k D cy ad bs A MC MS n0 w0 p l e s m args below meth c H locs cells slots ls F B hl)
theorem j_ldc {i : Nat} {v : Int32} (hw : Cond.constant y.cls i v ∈ jG) (hd : decode cc pc = .ok (.ldc i, 2)) (k : J y cc nL rt d g rv μ' (pc + 2) lv (.int v :: st) μ) : J y cc nL rt d g rv μ' pc lv (st) μ := by
  intro D cy ad bs A MC MS n0 w0 p l e s m args below meth c H locs cells slots ls F B hl
  exact lv_ldc F.1 F.2.1 F.2.2.2.2.1 (F.2.2.2.2.2.1 _ hw) hd (k D cy ad bs A MC MS n0 w0 p l e s m args below meth c H locs cells slots ls F B hl)
theorem j_ldcw {i : Nat} {v : Int32} (hw : Cond.constant y.cls i v ∈ jG) (hd : decode cc pc = .ok (.ldc_w i, 3)) (k : J y cc nL rt d g rv μ' (pc + 3) lv (.int v :: st) μ) : J y cc nL rt d g rv μ' pc lv (st) μ := by
  intro D cy ad bs A MC MS n0 w0 p l e s m args below meth c H locs cells slots ls F B hl
  exact lv_ldcw F.1 F.2.1 F.2.2.2.2.1 (F.2.2.2.2.2.1 _ hw) hd (k D cy ad bs A MC MS n0 w0 p l e s m args below meth c H locs cells slots ls F B hl)
theorem j_ldc2 {i : Nat} {v : Int64} (hw : Cond.constantLong y.cls i v ∈ jG) (hd : decode cc pc = .ok (.ldc2_w i, 3)) (k : J y cc nL rt d g rv μ' (pc + 3) lv (.long v :: st) μ) : J y cc nL rt d g rv μ' pc lv (st) μ := by
  intro D cy ad bs A MC MS n0 w0 p l e s m args below meth c H locs cells slots ls F B hl
  exact lv_ldc2 F.1 F.2.1 F.2.2.2.2.1 (F.2.2.2.2.2.1 _ hw) hd (k D cy ad bs A MC MS n0 w0 p l e s m args below meth c H locs cells slots ls F B hl)
theorem j_null  (hd : decode cc pc = .ok (.aconst_null, 1)) (k : J y cc nL rt d g rv μ' (pc + 1) lv (.ref 0 :: st) μ) : J y cc nL rt d g rv μ' pc lv (st) μ := by
  intro D cy ad bs A MC MS n0 w0 p l e s m args below meth c H locs cells slots ls F B hl
  exact lv_null F.1 F.2.1 hd (k D cy ad bs A MC MS n0 w0 p l e s m args below meth c H locs cells slots ls F B hl)
theorem j_dup {v : Value} (hd : decode cc pc = .ok (.dup, 1)) (hc : v.category = 1) (k : J y cc nL rt d g rv μ' (pc + 1) lv (v :: v :: st) μ) : J y cc nL rt d g rv μ' pc lv (v :: st) μ := by
  intro D cy ad bs A MC MS n0 w0 p l e s m args below meth c H locs cells slots ls F B hl
  exact lv_dup F.1 F.2.1 hd (by rw [jv_cat]; exact hc) (k D cy ad bs A MC MS n0 w0 p l e s m args below meth c H locs cells slots ls F B hl)
theorem j_pop {v : Value} (hd : decode cc pc = .ok (.pop, 1)) (hc : v.category = 1) (k : J y cc nL rt d g rv μ' (pc + 1) lv (st) μ) : J y cc nL rt d g rv μ' pc lv (v :: st) μ := by
  intro D cy ad bs A MC MS n0 w0 p l e s m args below meth c H locs cells slots ls F B hl
  exact lv_pop F.1 F.2.1 hd (by rw [jv_cat]; exact hc) (k D cy ad bs A MC MS n0 w0 p l e s m args below meth c H locs cells slots ls F B hl)
theorem j_dup2 {v u : Value} (hd : decode cc pc = .ok (.dup2, 1)) (hc : v.category = 1) (hc2 : u.category = 1) (k : J y cc nL rt d g rv μ' (pc + 1) lv (v :: u :: v :: u :: st) μ) : J y cc nL rt d g rv μ' pc lv (v :: u :: st) μ := by
  intro D cy ad bs A MC MS n0 w0 p l e s m args below meth c H locs cells slots ls F B hl
  exact lv_dup2_11 F.1 F.2.1 hd (by rw [jv_cat]; exact hc) (by rw [jv_cat]; exact hc2) (k D cy ad bs A MC MS n0 w0 p l e s m args below meth c H locs cells slots ls F B hl)
theorem j_iload_n {q : Fin 4} {i : Nat} {x : Int32} (n : Nat) (hd : decode cc pc = .ok (.iload_n q, 1)) (hi : (q : Nat) = i) (hk : lv[n]? = some (i, .int x)) (k : J y cc nL rt d g rv μ' (pc + 1) lv (.int x :: st) μ) : J y cc nL rt d g rv μ' pc lv (st) μ := by
  intro D cy ad bs A MC MS n0 w0 p l e s m args below meth c H locs cells slots ls F B hl
  exact lv_iload_n F.1 F.2.1 hd hi (j_at hl hk) (k D cy ad bs A MC MS n0 w0 p l e s m args below meth c H locs cells slots ls F B hl)
theorem j_iload {i : Nat} {x : Int32} (n : Nat) (hd : decode cc pc = .ok (.iload i, 2)) (hk : lv[n]? = some (i, .int x)) (k : J y cc nL rt d g rv μ' (pc + 2) lv (.int x :: st) μ) : J y cc nL rt d g rv μ' pc lv (st) μ := by
  intro D cy ad bs A MC MS n0 w0 p l e s m args below meth c H locs cells slots ls F B hl
  exact lv_iload F.1 F.2.1 hd (j_at hl hk) (k D cy ad bs A MC MS n0 w0 p l e s m args below meth c H locs cells slots ls F B hl)
theorem j_lload_n {q : Fin 4} {i : Nat} {x : Int64} (n : Nat) (hd : decode cc pc = .ok (.lload_n q, 1)) (hi : (q : Nat) = i) (hk : lv[n]? = some (i, .long x)) (k : J y cc nL rt d g rv μ' (pc + 1) lv (.long x :: st) μ) : J y cc nL rt d g rv μ' pc lv (st) μ := by
  intro D cy ad bs A MC MS n0 w0 p l e s m args below meth c H locs cells slots ls F B hl
  exact lv_lload_n F.1 F.2.1 hd hi (j_at hl hk) (k D cy ad bs A MC MS n0 w0 p l e s m args below meth c H locs cells slots ls F B hl)
theorem j_lload {i : Nat} {x : Int64} (n : Nat) (hd : decode cc pc = .ok (.lload i, 2)) (hk : lv[n]? = some (i, .long x)) (k : J y cc nL rt d g rv μ' (pc + 2) lv (.long x :: st) μ) : J y cc nL rt d g rv μ' pc lv (st) μ := by
  intro D cy ad bs A MC MS n0 w0 p l e s m args below meth c H locs cells slots ls F B hl
  exact lv_lload F.1 F.2.1 hd (j_at hl hk) (k D cy ad bs A MC MS n0 w0 p l e s m args below meth c H locs cells slots ls F B hl)
theorem j_aload_n {q : Fin 4} {i : Nat} {x : Nat} (n : Nat) (hd : decode cc pc = .ok (.aload_n q, 1)) (hi : (q : Nat) = i) (hk : lv[n]? = some (i, .ref x)) (k : J y cc nL rt d g rv μ' (pc + 1) lv (.ref x :: st) μ) : J y cc nL rt d g rv μ' pc lv st μ := by
  intro D cy ad bs A MC MS n0 w0 p l e s m args below meth c H locs cells slots ls F B hl
  have h1 := j_at hl hk
  have h2 := k D cy ad bs A MC MS n0 w0 p l e s m args below meth c H locs cells slots ls F B hl
  by_cases q0 : x = 0
  · have ee : jv ad (.ref x) = .null := by simp [jv, jr, q0]
    simp only [List.map_cons, ee] at h1 h2
    exact lv_aload_nN F.1 F.2.1 hd hi h1 h2
  · have ee : jv ad (.ref x) = .ref (ad x) := by simp [jv, jr, q0]
    simp only [List.map_cons, ee] at h1 h2
    exact lv_aload_n F.1 F.2.1 hd hi h1 h2
theorem j_astore_n {q : Fin 4} {i : Nat} {x : Nat} (lv' : List (Nat × Value)) (hd : decode cc pc = .ok (.astore_n q, 1)) (hi : (q : Nat) = i) (hn : i < nL) (hl' : (i, Value.ref x) :: lv.filter (fun q => !(q.1 == i) && !(q.1 + 1 == i && q.2.category == 2)) = lv') (k : J y cc nL rt d g rv μ' (pc + 1) lv' st μ) : J y cc nL rt d g rv μ' pc lv (.ref x :: st) μ := by
  intro D cy ad bs A MC MS n0 w0 p l e s m args below meth c H locs cells slots ls F B hl
  have h2 : ∀ ls' : Array Slot, lv_has ls' nL (jlv ad lv') → _ := fun ls' hl => k D cy ad bs A MC MS n0 w0 p l e s m args below meth c H locs cells slots ls' F B hl
  subst hl'
  by_cases q0 : x = 0
  · have ee : jv ad (.ref x) = .null := by simp [jv, jr, q0]
    have h3 : (i, Value.null) :: (jlv ad lv).filter (fun q => !(q.1 == i) && !(q.1 + 1 == i && q.2.category == 2)) = jlv ad ((i, Value.ref x) :: lv.filter (fun q => !(q.1 == i) && !(q.1 + 1 == i && q.2.category == 2))) := by
      rw [← ee]
      exact congrArg (List.cons _) (j_flt ad (fun a c => !(a == i) && !(a + 1 == i && c == 2)) lv)
    simp only [List.map_cons, ee]
    exact lv_astore_nN F.1 F.2.1 hd hi hl hn h3 h2
  · have ee : jv ad (.ref x) = .ref (ad x) := by simp [jv, jr, q0]
    have h3 : (i, Value.ref (ad x)) :: (jlv ad lv).filter (fun q => !(q.1 == i) && !(q.1 + 1 == i && q.2.category == 2)) = jlv ad ((i, Value.ref x) :: lv.filter (fun q => !(q.1 == i) && !(q.1 + 1 == i && q.2.category == 2))) := by
      rw [← ee]
      exact congrArg (List.cons _) (j_flt ad (fun a c => !(a == i) && !(a + 1 == i && c == 2)) lv)
    simp only [List.map_cons, ee]
    exact lv_astore_n F.1 F.2.1 hd hi hl hn h3 h2
theorem j_istore_n {q : Fin 4} {i : Nat} {x : Int32} (lv' : List (Nat × Value)) (hd : decode cc pc = .ok (.istore_n q, 1)) (hi : (q : Nat) = i) (hn : i < nL) (hl' : (i, Value.int x) :: lv.filter (fun q => !(q.1 == i) && !(q.1 + 1 == i && q.2.category == 2)) = lv') (k : J y cc nL rt d g rv μ' (pc + 1) lv' st μ) : J y cc nL rt d g rv μ' pc lv (.int x :: st) μ := by
  intro D cy ad bs A MC MS n0 w0 p l e s m args below meth c H locs cells slots ls F B hl
  have h2 : ∀ ls' : Array Slot, lv_has ls' nL (jlv ad lv') → _ := fun ls' hl => k D cy ad bs A MC MS n0 w0 p l e s m args below meth c H locs cells slots ls' F B hl
  subst hl'
  have h3 : (i, Value.int x) :: (jlv ad lv).filter (fun q => !(q.1 == i) && !(q.1 + 1 == i && q.2.category == 2)) = jlv ad ((i, Value.int x) :: lv.filter (fun q => !(q.1 == i) && !(q.1 + 1 == i && q.2.category == 2))) := by
    exact congrArg (List.cons _) (j_flt ad (fun a c => !(a == i) && !(a + 1 == i && c == 2)) lv)
  exact lv_istore_n F.1 F.2.1 hd hi hl hn h3 h2
theorem j_lstore_n {q : Fin 4} {i : Nat} {x : Int64} (lv' : List (Nat × Value)) (hd : decode cc pc = .ok (.lstore_n q, 1)) (hi : (q : Nat) = i) (hn : i + 1 < nL) (hl' : (i, Value.long x) :: lv.filter (fun q => !(q.1 == i) && (!(q.1 == i + 1) && !(q.1 + 1 == i && q.2.category == 2))) = lv') (k : J y cc nL rt d g rv μ' (pc + 1) lv' st μ) : J y cc nL rt d g rv μ' pc lv (.long x :: st) μ := by
  intro D cy ad bs A MC MS n0 w0 p l e s m args below meth c H locs cells slots ls F B hl
  have h2 : ∀ ls' : Array Slot, lv_has ls' nL (jlv ad lv') → _ := fun ls' hl => k D cy ad bs A MC MS n0 w0 p l e s m args below meth c H locs cells slots ls' F B hl
  subst hl'
  have h3 : (i, Value.long x) :: (jlv ad lv).filter (fun q => !(q.1 == i) && (!(q.1 == i + 1) && !(q.1 + 1 == i && q.2.category == 2))) = jlv ad ((i, Value.long x) :: lv.filter (fun q => !(q.1 == i) && (!(q.1 == i + 1) && !(q.1 + 1 == i && q.2.category == 2)))) := by
    exact congrArg (List.cons _) (j_flt ad (fun a c => !(a == i) && (!(a == i + 1) && !(a + 1 == i && c == 2))) lv)
  exact lv_lstore_n F.1 F.2.1 hd hi hl hn h3 h2
theorem j_aload {i : Nat} {x : Nat} (n : Nat) (hd : decode cc pc = .ok (.aload i, 2)) (hk : lv[n]? = some (i, .ref x)) (k : J y cc nL rt d g rv μ' (pc + 2) lv (.ref x :: st) μ) : J y cc nL rt d g rv μ' pc lv st μ := by
  intro D cy ad bs A MC MS n0 w0 p l e s m args below meth c H locs cells slots ls F B hl
  have h1 := j_at hl hk
  have h2 := k D cy ad bs A MC MS n0 w0 p l e s m args below meth c H locs cells slots ls F B hl
  by_cases q0 : x = 0
  · have ee : jv ad (.ref x) = .null := by simp [jv, jr, q0]
    simp only [List.map_cons, ee] at h1 h2
    exact lv_aloadN F.1 F.2.1 hd h1 h2
  · have ee : jv ad (.ref x) = .ref (ad x) := by simp [jv, jr, q0]
    simp only [List.map_cons, ee] at h1 h2
    exact lv_aload F.1 F.2.1 hd h1 h2
theorem j_astore {i : Nat} {x : Nat} (lv' : List (Nat × Value)) (hd : decode cc pc = .ok (.astore i, 2)) (hn : i < nL) (hl' : (i, Value.ref x) :: lv.filter (fun q => !(q.1 == i) && !(q.1 + 1 == i && q.2.category == 2)) = lv') (k : J y cc nL rt d g rv μ' (pc + 2) lv' st μ) : J y cc nL rt d g rv μ' pc lv (.ref x :: st) μ := by
  intro D cy ad bs A MC MS n0 w0 p l e s m args below meth c H locs cells slots ls F B hl
  have h2 : ∀ ls' : Array Slot, lv_has ls' nL (jlv ad lv') → _ := fun ls' hl => k D cy ad bs A MC MS n0 w0 p l e s m args below meth c H locs cells slots ls' F B hl
  subst hl'
  by_cases q0 : x = 0
  · have ee : jv ad (.ref x) = .null := by simp [jv, jr, q0]
    have h3 : (i, Value.null) :: (jlv ad lv).filter (fun q => !(q.1 == i) && !(q.1 + 1 == i && q.2.category == 2)) = jlv ad ((i, Value.ref x) :: lv.filter (fun q => !(q.1 == i) && !(q.1 + 1 == i && q.2.category == 2))) := by
      rw [← ee]
      exact congrArg (List.cons _) (j_flt ad (fun a c => !(a == i) && !(a + 1 == i && c == 2)) lv)
    simp only [List.map_cons, ee]
    exact lv_astoreN F.1 F.2.1 hd hl hn h3 h2
  · have ee : jv ad (.ref x) = .ref (ad x) := by simp [jv, jr, q0]
    have h3 : (i, Value.ref (ad x)) :: (jlv ad lv).filter (fun q => !(q.1 == i) && !(q.1 + 1 == i && q.2.category == 2)) = jlv ad ((i, Value.ref x) :: lv.filter (fun q => !(q.1 == i) && !(q.1 + 1 == i && q.2.category == 2))) := by
      rw [← ee]
      exact congrArg (List.cons _) (j_flt ad (fun a c => !(a == i) && !(a + 1 == i && c == 2)) lv)
    simp only [List.map_cons, ee]
    exact lv_astore F.1 F.2.1 hd hl hn h3 h2
theorem j_istore {i : Nat} {x : Int32} (lv' : List (Nat × Value)) (hd : decode cc pc = .ok (.istore i, 2)) (hn : i < nL) (hl' : (i, Value.int x) :: lv.filter (fun q => !(q.1 == i) && !(q.1 + 1 == i && q.2.category == 2)) = lv') (k : J y cc nL rt d g rv μ' (pc + 2) lv' st μ) : J y cc nL rt d g rv μ' pc lv (.int x :: st) μ := by
  intro D cy ad bs A MC MS n0 w0 p l e s m args below meth c H locs cells slots ls F B hl
  have h2 : ∀ ls' : Array Slot, lv_has ls' nL (jlv ad lv') → _ := fun ls' hl => k D cy ad bs A MC MS n0 w0 p l e s m args below meth c H locs cells slots ls' F B hl
  subst hl'
  have h3 : (i, Value.int x) :: (jlv ad lv).filter (fun q => !(q.1 == i) && !(q.1 + 1 == i && q.2.category == 2)) = jlv ad ((i, Value.int x) :: lv.filter (fun q => !(q.1 == i) && !(q.1 + 1 == i && q.2.category == 2))) := by
    exact congrArg (List.cons _) (j_flt ad (fun a c => !(a == i) && !(a + 1 == i && c == 2)) lv)
  exact lv_istore F.1 F.2.1 hd hl hn h3 h2
theorem j_lstore {i : Nat} {x : Int64} (lv' : List (Nat × Value)) (hd : decode cc pc = .ok (.lstore i, 2)) (hn : i + 1 < nL) (hl' : (i, Value.long x) :: lv.filter (fun q => !(q.1 == i) && (!(q.1 == i + 1) && !(q.1 + 1 == i && q.2.category == 2))) = lv') (k : J y cc nL rt d g rv μ' (pc + 2) lv' st μ) : J y cc nL rt d g rv μ' pc lv (.long x :: st) μ := by
  intro D cy ad bs A MC MS n0 w0 p l e s m args below meth c H locs cells slots ls F B hl
  have h2 : ∀ ls' : Array Slot, lv_has ls' nL (jlv ad lv') → _ := fun ls' hl => k D cy ad bs A MC MS n0 w0 p l e s m args below meth c H locs cells slots ls' F B hl
  subst hl'
  have h3 : (i, Value.long x) :: (jlv ad lv).filter (fun q => !(q.1 == i) && (!(q.1 == i + 1) && !(q.1 + 1 == i && q.2.category == 2))) = jlv ad ((i, Value.long x) :: lv.filter (fun q => !(q.1 == i) && (!(q.1 == i + 1) && !(q.1 + 1 == i && q.2.category == 2)))) := by
    exact congrArg (List.cons _) (j_flt ad (fun a c => !(a == i) && (!(a == i + 1) && !(a + 1 == i && c == 2))) lv)
  exact lv_lstore F.1 F.2.1 hd hl hn h3 h2
theorem j_iinc {i : Nat} {z : Int} {x v : Int32} (lv' : List (Nat × Value)) (n : Nat) (hd : decode cc pc = .ok (.iinc i z, 3)) (hk : lv[n]? = some (i, .int x)) (hv : x + Int32.ofInt z = v) (hn : i < nL) (hl' : (i, Value.int v) :: lv.filter (fun q => !(q.1 == i) && !(q.1 + 1 == i && q.2.category == 2)) = lv') (k : J y cc nL rt d g rv μ' (pc + 3) lv' st μ) : J y cc nL rt d g rv μ' pc lv st μ := by
  intro D cy ad bs A MC MS n0 w0 p l e s m args below meth c H locs cells slots ls F B hl
  have h2 : ∀ ls' : Array Slot, lv_has ls' nL (jlv ad lv') → _ := fun ls' hl => k D cy ad bs A MC MS n0 w0 p l e s m args below meth c H locs cells slots ls' F B hl
  subst hl'
  have h3 : (i, Value.int v) :: (jlv ad lv).filter (fun q => !(q.1 == i) && !(q.1 + 1 == i && q.2.category == 2)) = jlv ad ((i, Value.int v) :: lv.filter (fun q => !(q.1 == i) && !(q.1 + 1 == i && q.2.category == 2))) := by
    exact congrArg (List.cons _) (j_flt ad (fun a c => !(a == i) && !(a + 1 == i && c == 2)) lv)
  exact lv_iinc F.1 F.2.1 hd hl (k := n) (by simp [jlv, List.getElem?_map, hk, jv]) hv hn h3 h2
theorem j_goto {off : Int} (tgt : Nat) (hd : decode cc pc = .ok (.goto off, 3)) (ht : (pc : Int) + off = (tgt : Int)) (k : J y cc nL rt d g rv μ' tgt lv st μ) : J y cc nL rt d g rv μ' pc lv st μ := by
  intro D cy ad bs A MC MS n0 w0 p l e s m args below meth c H locs cells slots ls F B hl
  exact lv_goto F.1 F.2.1 hd ht (k D cy ad bs A MC MS n0 w0 p l e s m args below meth c H locs cells slots ls F B hl)
theorem j_if_eq {x : Int32} {off : Int} (tgt : Nat) (hd : decode cc pc = .ok (.ifCond .eq off, 3)) (ht : (pc : Int) + off = (tgt : Int)) (kt : x = 0 → J y cc nL rt d g rv μ' tgt lv st μ) (kf : ¬ (x = 0) → J y cc nL rt d g rv μ' (pc + 3) lv st μ) : J y cc nL rt d g rv μ' pc lv (.int x :: st) μ := by
  intro D cy ad bs A MC MS n0 w0 p l e s m args below meth c H locs cells slots ls F B hl
  exact lv_if_eq F.1 F.2.1 hd ht (fun h => (kt h D cy ad bs A MC MS n0 w0 p l e s m args below meth c H locs cells slots ls F B hl)) (fun h => (kf h D cy ad bs A MC MS n0 w0 p l e s m args below meth c H locs cells slots ls F B hl))
theorem j_if_ne {x : Int32} {off : Int} (tgt : Nat) (hd : decode cc pc = .ok (.ifCond .ne off, 3)) (ht : (pc : Int) + off = (tgt : Int)) (kt : ¬ x = 0 → J y cc nL rt d g rv μ' tgt lv st μ) (kf : x = 0 → J y cc nL rt d g rv μ' (pc + 3) lv st μ) : J y cc nL rt d g rv μ' pc lv (.int x :: st) μ := by
  intro D cy ad bs A MC MS n0 w0 p l e s m args below meth c H locs cells slots ls F B hl
  exact lv_if_ne F.1 F.2.1 hd ht (fun h => (kt h D cy ad bs A MC MS n0 w0 p l e s m args below meth c H locs cells slots ls F B hl)) (fun h => (kf h D cy ad bs A MC MS n0 w0 p l e s m args below meth c H locs cells slots ls F B hl))
theorem j_if_lt {x : Int32} {off : Int} (tgt : Nat) (hd : decode cc pc = .ok (.ifCond .lt off, 3)) (ht : (pc : Int) + off = (tgt : Int)) (kt : x < 0 → J y cc nL rt d g rv μ' tgt lv st μ) (kf : ¬ (x < 0) → J y cc nL rt d g rv μ' (pc + 3) lv st μ) : J y cc nL rt d g rv μ' pc lv (.int x :: st) μ := by
  intro D cy ad bs A MC MS n0 w0 p l e s m args below meth c H locs cells slots ls F B hl
  exact lv_if_lt F.1 F.2.1 hd ht (fun h => (kt h D cy ad bs A MC MS n0 w0 p l e s m args below meth c H locs cells slots ls F B hl)) (fun h => (kf h D cy ad bs A MC MS n0 w0 p l e s m args below meth c H locs cells slots ls F B hl))
theorem j_if_ge {x : Int32} {off : Int} (tgt : Nat) (hd : decode cc pc = .ok (.ifCond .ge off, 3)) (ht : (pc : Int) + off = (tgt : Int)) (kt : 0 ≤ x → J y cc nL rt d g rv μ' tgt lv st μ) (kf : ¬ (0 ≤ x) → J y cc nL rt d g rv μ' (pc + 3) lv st μ) : J y cc nL rt d g rv μ' pc lv (.int x :: st) μ := by
  intro D cy ad bs A MC MS n0 w0 p l e s m args below meth c H locs cells slots ls F B hl
  exact lv_if_ge F.1 F.2.1 hd ht (fun h => (kt h D cy ad bs A MC MS n0 w0 p l e s m args below meth c H locs cells slots ls F B hl)) (fun h => (kf h D cy ad bs A MC MS n0 w0 p l e s m args below meth c H locs cells slots ls F B hl))
theorem j_if_gt {x : Int32} {off : Int} (tgt : Nat) (hd : decode cc pc = .ok (.ifCond .gt off, 3)) (ht : (pc : Int) + off = (tgt : Int)) (kt : 0 < x → J y cc nL rt d g rv μ' tgt lv st μ) (kf : ¬ (0 < x) → J y cc nL rt d g rv μ' (pc + 3) lv st μ) : J y cc nL rt d g rv μ' pc lv (.int x :: st) μ := by
  intro D cy ad bs A MC MS n0 w0 p l e s m args below meth c H locs cells slots ls F B hl
  exact lv_if_gt F.1 F.2.1 hd ht (fun h => (kt h D cy ad bs A MC MS n0 w0 p l e s m args below meth c H locs cells slots ls F B hl)) (fun h => (kf h D cy ad bs A MC MS n0 w0 p l e s m args below meth c H locs cells slots ls F B hl))
theorem j_if_le {x : Int32} {off : Int} (tgt : Nat) (hd : decode cc pc = .ok (.ifCond .le off, 3)) (ht : (pc : Int) + off = (tgt : Int)) (kt : x ≤ 0 → J y cc nL rt d g rv μ' tgt lv st μ) (kf : ¬ (x ≤ 0) → J y cc nL rt d g rv μ' (pc + 3) lv st μ) : J y cc nL rt d g rv μ' pc lv (.int x :: st) μ := by
  intro D cy ad bs A MC MS n0 w0 p l e s m args below meth c H locs cells slots ls F B hl
  exact lv_if_le F.1 F.2.1 hd ht (fun h => (kt h D cy ad bs A MC MS n0 w0 p l e s m args below meth c H locs cells slots ls F B hl)) (fun h => (kf h D cy ad bs A MC MS n0 w0 p l e s m args below meth c H locs cells slots ls F B hl))
theorem j_icmp_eq {x z : Int32} {off : Int} (tgt : Nat) (hd : decode cc pc = .ok (.if_icmp .eq off, 3)) (ht : (pc : Int) + off = (tgt : Int)) (kt : x = z → J y cc nL rt d g rv μ' tgt lv st μ) (kf : ¬ (x = z) → J y cc nL rt d g rv μ' (pc + 3) lv st μ) : J y cc nL rt d g rv μ' pc lv (.int z :: .int x :: st) μ := by
  intro D cy ad bs A MC MS n0 w0 p l e s m args below meth c H locs cells slots ls F B hl
  exact lv_icmp_eq F.1 F.2.1 hd ht (fun h => (kt h D cy ad bs A MC MS n0 w0 p l e s m args below meth c H locs cells slots ls F B hl)) (fun h => (kf h D cy ad bs A MC MS n0 w0 p l e s m args below meth c H locs cells slots ls F B hl))
theorem j_icmp_ne {x z : Int32} {off : Int} (tgt : Nat) (hd : decode cc pc = .ok (.if_icmp .ne off, 3)) (ht : (pc : Int) + off = (tgt : Int)) (kt : ¬ x = z → J y cc nL rt d g rv μ' tgt lv st μ) (kf : x = z → J y cc nL rt d g rv μ' (pc + 3) lv st μ) : J y cc nL rt d g rv μ' pc lv (.int z :: .int x :: st) μ := by
  intro D cy ad bs A MC MS n0 w0 p l e s m args below meth c H locs cells slots ls F B hl
  exact lv_icmp_ne F.1 F.2.1 hd ht (fun h => (kt h D cy ad bs A MC MS n0 w0 p l e s m args below meth c H locs cells slots ls F B hl)) (fun h => (kf h D cy ad bs A MC MS n0 w0 p l e s m args below meth c H locs cells slots ls F B hl))
theorem j_icmp_lt {x z : Int32} {off : Int} (tgt : Nat) (hd : decode cc pc = .ok (.if_icmp .lt off, 3)) (ht : (pc : Int) + off = (tgt : Int)) (kt : x < z → J y cc nL rt d g rv μ' tgt lv st μ) (kf : ¬ (x < z) → J y cc nL rt d g rv μ' (pc + 3) lv st μ) : J y cc nL rt d g rv μ' pc lv (.int z :: .int x :: st) μ := by
  intro D cy ad bs A MC MS n0 w0 p l e s m args below meth c H locs cells slots ls F B hl
  exact lv_icmp_lt F.1 F.2.1 hd ht (fun h => (kt h D cy ad bs A MC MS n0 w0 p l e s m args below meth c H locs cells slots ls F B hl)) (fun h => (kf h D cy ad bs A MC MS n0 w0 p l e s m args below meth c H locs cells slots ls F B hl))
theorem j_icmp_ge {x z : Int32} {off : Int} (tgt : Nat) (hd : decode cc pc = .ok (.if_icmp .ge off, 3)) (ht : (pc : Int) + off = (tgt : Int)) (kt : z ≤ x → J y cc nL rt d g rv μ' tgt lv st μ) (kf : ¬ (z ≤ x) → J y cc nL rt d g rv μ' (pc + 3) lv st μ) : J y cc nL rt d g rv μ' pc lv (.int z :: .int x :: st) μ := by
  intro D cy ad bs A MC MS n0 w0 p l e s m args below meth c H locs cells slots ls F B hl
  exact lv_icmp_ge F.1 F.2.1 hd ht (fun h => (kt h D cy ad bs A MC MS n0 w0 p l e s m args below meth c H locs cells slots ls F B hl)) (fun h => (kf h D cy ad bs A MC MS n0 w0 p l e s m args below meth c H locs cells slots ls F B hl))
theorem j_icmp_gt {x z : Int32} {off : Int} (tgt : Nat) (hd : decode cc pc = .ok (.if_icmp .gt off, 3)) (ht : (pc : Int) + off = (tgt : Int)) (kt : z < x → J y cc nL rt d g rv μ' tgt lv st μ) (kf : ¬ (z < x) → J y cc nL rt d g rv μ' (pc + 3) lv st μ) : J y cc nL rt d g rv μ' pc lv (.int z :: .int x :: st) μ := by
  intro D cy ad bs A MC MS n0 w0 p l e s m args below meth c H locs cells slots ls F B hl
  exact lv_icmp_gt F.1 F.2.1 hd ht (fun h => (kt h D cy ad bs A MC MS n0 w0 p l e s m args below meth c H locs cells slots ls F B hl)) (fun h => (kf h D cy ad bs A MC MS n0 w0 p l e s m args below meth c H locs cells slots ls F B hl))
theorem j_icmp_le {x z : Int32} {off : Int} (tgt : Nat) (hd : decode cc pc = .ok (.if_icmp .le off, 3)) (ht : (pc : Int) + off = (tgt : Int)) (kt : x ≤ z → J y cc nL rt d g rv μ' tgt lv st μ) (kf : ¬ (x ≤ z) → J y cc nL rt d g rv μ' (pc + 3) lv st μ) : J y cc nL rt d g rv μ' pc lv (.int z :: .int x :: st) μ := by
  intro D cy ad bs A MC MS n0 w0 p l e s m args below meth c H locs cells slots ls F B hl
  exact lv_icmp_le F.1 F.2.1 hd ht (fun h => (kt h D cy ad bs A MC MS n0 w0 p l e s m args below meth c H locs cells slots ls F B hl)) (fun h => (kf h D cy ad bs A MC MS n0 w0 p l e s m args below meth c H locs cells slots ls F B hl))
theorem j_ifnull {x : Nat} {off : Int} (tgt : Nat) (hd : decode cc pc = .ok (.ifnull off, 3)) (ht : (pc : Int) + off = (tgt : Int)) (kt : x = 0 → J y cc nL rt d g rv μ' tgt lv st μ) (kf : ¬ (x = 0) → J y cc nL rt d g rv μ' (pc + 3) lv st μ) : J y cc nL rt d g rv μ' pc lv (.ref x :: st) μ := by
  intro D cy ad bs A MC MS n0 w0 p l e s m args below meth c H locs cells slots ls F B hl
  by_cases q0 : x = 0
  · have ee : jv ad (.ref x) = .null := by simp [jv, jr, q0]
    simp only [List.map_cons, ee]
    exact lv_ifnullN F.1 F.2.1 hd ht (kt q0 D cy ad bs A MC MS n0 w0 p l e s m args below meth c H locs cells slots ls F B hl)
  · have ee : jv ad (.ref x) = .ref (ad x) := by simp [jv, jr, q0]
    simp only [List.map_cons, ee]
    exact lv_ifnull F.1 F.2.1 hd (kf q0 D cy ad bs A MC MS n0 w0 p l e s m args below meth c H locs cells slots ls F B hl)
theorem j_ifnonnull {x : Nat} {off : Int} (tgt : Nat) (hd : decode cc pc = .ok (.ifnonnull off, 3)) (ht : (pc : Int) + off = (tgt : Int)) (kt : ¬ (x = 0) → J y cc nL rt d g rv μ' tgt lv st μ) (kf : x = 0 → J y cc nL rt d g rv μ' (pc + 3) lv st μ) : J y cc nL rt d g rv μ' pc lv (.ref x :: st) μ := by
  intro D cy ad bs A MC MS n0 w0 p l e s m args below meth c H locs cells slots ls F B hl
  by_cases q0 : x = 0
  · have ee : jv ad (.ref x) = .null := by simp [jv, jr, q0]
    simp only [List.map_cons, ee]
    exact lv_ifnonnullN F.1 F.2.1 hd (kf q0 D cy ad bs A MC MS n0 w0 p l e s m args below meth c H locs cells slots ls F B hl)
  · have ee : jv ad (.ref x) = .ref (ad x) := by simp [jv, jr, q0]
    simp only [List.map_cons, ee]
    exact lv_ifnonnull F.1 F.2.1 hd ht (kt q0 D cy ad bs A MC MS n0 w0 p l e s m args below meth c H locs cells slots ls F B hl)
theorem j_tblOut {dflt lo hi : Int} {offs : Array Int} {len : Nat} {x : Int32} (tgt : Nat) (hd : decode cc pc = .ok (.tableswitch dflt lo hi offs, len)) (h : x.toInt < lo ∨ hi < x.toInt) (ht : (pc : Int) + dflt = (tgt : Int)) (k : J y cc nL rt d g rv μ' tgt lv st μ) : J y cc nL rt d g rv μ' pc lv (.int x :: st) μ := by
  intro D cy ad bs A MC MS n0 w0 p l e s m args below meth c H locs cells slots ls F B hl
  exact lv_tableOut F.1 F.2.1 hd h ht (k D cy ad bs A MC MS n0 w0 p l e s m args below meth c H locs cells slots ls F B hl)
theorem j_tblIn {dflt lo hi : Int} {offs : Array Int} {len : Nat} {x : Int32} {off : Int} (tgt : Nat) (hd : decode cc pc = .ok (.tableswitch dflt lo hi offs, len)) (h1 : ¬ x.toInt < lo) (h2 : ¬ hi < x.toInt) (ho : offs[(x.toInt - lo).toNat]? = some off) (ht : (pc : Int) + off = (tgt : Int)) (k : J y cc nL rt d g rv μ' tgt lv st μ) : J y cc nL rt d g rv μ' pc lv (.int x :: st) μ := by
  intro D cy ad bs A MC MS n0 w0 p l e s m args below meth c H locs cells slots ls F B hl
  exact lv_tableIn F.1 F.2.1 hd h1 h2 ho ht (k D cy ad bs A MC MS n0 w0 p l e s m args below meth c H locs cells slots ls F B hl)
theorem jH_cells {D : va_G} {cy : Nat → ClassId} {ad : Nat → Nat} {bs : Nat} {A : Nat → Prop} {MC MS n0 w0 : Nat} {s : State} {H : Heap} {locs : List Loc} {cells slots : Nat} (B : jH D cy ad bs A MC MS n0 w0 g μ s H locs cells slots μ) : cells = MC ∧ slots = MS := by
  obtain ⟨-, -, -, -, h1, h2, h3, h4⟩ := B
  omega
theorem jQ_of {D : va_G} {cy : Nat → ClassId} {ad : Nat → Nat} {bs : Nat} {A : Nat → Prop} {MC MS n0 w0 : Nat} {s t : State} {args : Array Value} {H : Heap} {locs : List Loc} {cells slots : Nat} (B : jH D cy ad bs A MC MS n0 w0 g μ s H locs cells slots μ) (ht : t.heap = H) : jQ D cy ad bs A g rv μ args s (.returned (rv.map (jv ad))) t := by
  obtain ⟨h1, h2, -, h3, -⟩ := B
  exact ⟨rfl, by rw [ht]; exact h1, fun q => by rw [ht]; exact h3 q, h2.F ht⟩

theorem j_iret {x : Int32} (hd : decode cc pc = .ok (.ireturn, 1)) (hx : rv = some (.int x)) (hμ : μ' = μ) : J y cc nL (some .int) d g rv μ' pc lv [.int x] μ := by
  intro D cy ad bs A MC MS n0 w0 p l e s m args below meth c H locs cells slots ls F B hl
  subst hx; subst hμ
  obtain ⟨rfl, rfl⟩ := jH_cells B
  exact W.iret (v := x) F.1 F.2.1 F.2.2.2.1 (fun t ht _ => jQ_of B ht) B.2.1.2.2 hd (hlocks := F.2.2.2.2.2.2.1)
theorem j_zret {x : Int32} {ty : FieldType} (hn : narrow ty (.int x) = .int x) (hd : decode cc pc = .ok (.ireturn, 1)) (hx : rv = some (.int x)) (hμ : μ' = μ) : J y cc nL (some ty) d g rv μ' pc lv [.int x] μ := by
  intro D cy ad bs A MC MS n0 w0 p l e s m args below meth c H locs cells slots ls F B hl
  subst hx; subst hμ
  obtain ⟨rfl, rfl⟩ := jH_cells B
  exact W.zret (v := x) F.1 F.2.1 F.2.2.2.1 hn (fun t ht _ => jQ_of B ht) B.2.1.2.2 hd (hlocks := F.2.2.2.2.2.2.1)
theorem j_lret {x : Int64} (hd : decode cc pc = .ok (.lreturn, 1)) (hx : rv = some (.long x)) (hμ : μ' = μ) : J y cc nL (some .long) d g rv μ' pc lv [.long x] μ := by
  intro D cy ad bs A MC MS n0 w0 p l e s m args below meth c H locs cells slots ls F B hl
  subst hx; subst hμ
  obtain ⟨rfl, rfl⟩ := jH_cells B
  exact W.lret (v := x) F.1 F.2.1 F.2.2.2.1 (fun t ht _ => jQ_of B ht) B.2.1.2.2 hd (hlocks := F.2.2.2.2.2.2.1)
theorem j_vret  (hd : decode cc pc = .ok (.return_, 1)) (hx : rv = none) (hμ : μ' = μ) : J y cc nL none d g rv μ' pc lv [] μ := by
  intro D cy ad bs A MC MS n0 w0 p l e s m args below meth c H locs cells slots ls F B hl
  subst hx; subst hμ
  obtain ⟨rfl, rfl⟩ := jH_cells B
  exact W.vret F.1 F.2.1 F.2.2.2.1 (fun t ht _ => jQ_of B ht) B.2.1.2.2 hd (hlocks := F.2.2.2.2.2.2.1)
theorem j_aret {x : Nat} {ty : FieldType} (hrt : (∃ n, ty = .object n) ∨ ∃ t, ty = .array t) (hd : decode cc pc = .ok (.areturn, 1)) (hx : rv = some (.ref x)) (hμ : μ' = μ) : J y cc nL (some ty) d g rv μ' pc lv [.ref x] μ := by
  intro D cy ad bs A MC MS n0 w0 p l e s m args below meth c H locs cells slots ls F B hl
  subst hx; subst hμ
  obtain ⟨rfl, rfl⟩ := jH_cells B
  exact W.aret (v := jr ad x) F.1 F.2.1 F.2.2.2.1 hrt (by unfold jr; split; exact Or.inl rfl; exact Or.inr ⟨_, rfl⟩) (fun t ht _ => jQ_of B ht) B.2.1.2.2 hd (hlocks := F.2.2.2.2.2.2.1)
/-- a class, as the tables have it -/
def jC (ci : Nat) (C : String) (T : u_T) (N : Nat) : Prop := vwCl[ci]? = some (C, T, N) ∧ (∀ w ∈ u_ws C T N, w ∈ jG) ∧ (∀ k, k < N → parseFieldDescriptor (T k).2.2.1 = some (jty ci k)) ∧ (∀ a, a < N → ∀ b, b < N → a ≠ b → (T a).2.1 ≠ (T b).2.1) ∧ (∀ k, k < N → (T k).1 = C) ∧ jnf ci = N
/-- a cell of the memory -/
def jok (μ : jM) (h : Nat) : Bool := Nat.ble 1 h && (Nat.ble h μ.1 && Nat.blt h jlim)
theorem jok_spec {h : Nat} (q : jok μ h = true) : h ≠ 0 ∧ h ≤ μ.1 ∧ h < jlim := by
  simp only [jok, Bool.and_eq_true] at q
  have a := Nat.le_of_ble_eq_true q.1
  have b := Nat.le_of_ble_eq_true q.2.1
  have c := Nat.le_of_ble_eq_true q.2.2
  exact ⟨by omega, b, c⟩
theorem jr_cell {ad : Nat → Nat} {bs h : Nat} (had : ∀ h, h < jlim → ad h = bs + h) (h0 : h ≠ 0) (hl : h < jlim) : jr ad h = .ref (bs + h) := by
  unfold jr
  rw [if_neg h0, had h hl]
theorem jH_store {D : va_G} {cy : Nat → ClassId} {ad : Nat → Nat} {bs : Nat} {A : Nat → Prop} {MC MS n0 w0 : Nat} {s : State} {H H1 : Heap} {locs : List Loc} {cells slots : Nat} {μ2 : jM} {h : Nat} (i : Nat) (B : jH D cy ad bs A MC MS n0 w0 g μ' s H locs cells slots μ) (h0 : h ≠ 0) (hn : h ≤ μ.1) (e1 : μ2.1 = μ.1) (e2 : μ2.2.1 = μ.2.1) (hat : va_at D vwCl (bs + h, jcell cy ad μ2 h) H1) (h3 : ∀ k, k ≠ h → jcell cy ad μ2 k = jcell cy ad μ k) (z : H1.size = H.size) (oq : ∀ q, q ≠ bs + h → H1[q]? = H[q]?) : jH D cy ad bs A MC MS n0 w0 g μ' s H1 (locs ++ [⟨bs + h, i⟩]) cells slots μ2 := by
  obtain ⟨hP, hS, hA, hg, c1, c2, c3, c4⟩ := B
  refine ⟨?_, hS.put z oq (hA _ (by omega) (by omega)), by rw [e1]; exact hA, fun q => by rw [z, e1]; exact hg q, by rw [e1]; exact c1, by rw [e2]; exact c2, c3, c4⟩
  have key := va_P.set hP (jW_D hA) (jW_get h0 hn) hat oq
  rw [jW_set (μ2 := μ2) h0 hn e1 rfl h3] at key
  exact key
theorem jcell_congr {cy : Nat → ClassId} {ad : Nat → Nat} {μ2 : jM} {k : Nat} (h1 : jsh μ2 k = jsh μ k) (h2 : jI μ2 k = jI μ k) (h3 : jL μ2 k = jL μ k) (h4 : jP μ2 k = jP μ k) : jcell cy ad μ2 k = jcell cy ad μ k := by
  have e2 : ∀ ci, jfv ad μ2 ci k = jfv ad μ ci k := by
    intro ci
    funext j
    unfold jfv
    rw [h2, h3, h4]
  unfold jcell
  simp only [h1, h2, h3, h4, e2]
theorem ju_ne {α : Type} {f : Nat → Nat → α} {h i k : Nat} {v : α} (hk : k ≠ h) : ju f h i v k = f k := by
  funext j
  simp [ju, hk]
theorem jcell_jsI {cy : Nat → ClassId} {ad : Nat → Nat} {h i : Nat} {v : Int32} (k : Nat) (hk : k ≠ h) : jcell cy ad (jsI μ h i v) k = jcell cy ad μ k := jcell_congr rfl (ju_ne hk) rfl rfl
theorem jcell_jsL {cy : Nat → ClassId} {ad : Nat → Nat} {h i : Nat} {v : Int64} (k : Nat) (hk : k ≠ h) : jcell cy ad (jsL μ h i v) k = jcell cy ad μ k := jcell_congr rfl rfl (ju_ne hk) rfl
theorem jcell_jsP {cy : Nat → ClassId} {ad : Nat → Nat} {h i : Nat} {v : Nat} (k : Nat) (hk : k ≠ h) : jcell cy ad (jsP μ h i v) k = jcell cy ad μ k := jcell_congr rfl rfl rfl (ju_ne hk)
theorem jcell_obj {cy : Nat → ClassId} {ad : Nat → Nat} {h ci n : Nat} (hsh : jsh μ h = (ci + 4, n)) : jcell cy ad μ h = .inr (ci, (List.range (jnf ci)).map (jfv ad μ ci h)) := by
  unfold jcell
  rw [hsh]
theorem j_get {ci idx h n N : Nat} {C : String} {T : u_T} (j : Nat) (v : Value) (hC : jC ci C T N) (hd : decode cc pc = .ok (.getfield idx, 3)) (hw : Cond.fieldLink y.cls idx C (T j).2.1 (T j).2.2.1 ∈ jG) (hj : Nat.blt j N = true) (hh : jok μ h = true) (hsh : jsh μ h = (ci + 4, n)) (hv : ∀ ad, jfv ad μ ci h j = jv ad v) (k : J y cc nL rt d g rv μ' (pc + 3) lv (v :: st) μ) : J y cc nL rt d g rv μ' pc lv (.ref h :: st) μ := by
  intro D cy ad bs A MC MS n0 w0 p l e s m args below meth c H locs cells slots ls F B hl
  obtain ⟨h0, hn, hlim⟩ := jok_spec hh
  obtain ⟨c1, c2, c3, c4, c5, c6⟩ := hC
  have hj := Nat.le_of_ble_eq_true hj
  obtain ⟨f1, f2, f3, f4, f5, f6, f7, f8, f9, f10, f11, f12⟩ := id F
  obtain ⟨hP, hB⟩ := id B
  have hg1 := jW_get (cy := cy) (ad := ad) (bs := bs) h0 hn
  rw [jcell_obj hsh] at hg1
  have eR := jr_cell f11 h0 hlim
  have hw' := f6 _ hw
  show W _ _ _ _ _ _ _ _ _ _ _ _ _ _ _ (F0 m pc ls (jr ad h :: st.map (jv ad)))
  rw [eR]
  refine va_get f1 f2 f6 c2 f5 f8 hP (h - 1) hg1 c1 j hj hw' (by rw [c5 j hj]; exact fun _ h9 => h9) (v := jv ad v) ?_ hd (k D cy ad bs A MC MS n0 w0 p l e s m args below meth c H locs cells slots ls F B hl)
  rw [← hv ad, List.getElem?_map, List.getElem?_range (by omega)]
  rfl
/-- a field's new value, in the heap -/
theorem j_fset {ad : Nat → Nat} {μ2 : jM} {ci h j N : Nat} {v : Value} (hN : j < N) (h1 : jfv ad μ2 ci h j = v) (h2 : ∀ i, i ≠ j → jfv ad μ2 ci h i = jfv ad μ ci h i) : ((List.range N).map (jfv ad μ ci h)).set j v = (List.range N).map (jfv ad μ2 ci h) := by
  apply List.ext_getElem?
  intro i
  rw [List.getElem?_set]
  by_cases q : j = i
  · subst q
    simp [hN, h1]
  · rw [if_neg q]
    simp only [List.getElem?_map]
    by_cases hi : i < N
    · rw [List.getElem?_range hi]
      simp [h2 i (fun z => q z.symm)]
    · rw [List.getElem?_eq_none (by simp; omega)]
      rfl
theorem j_put {ci idx h n N : Nat} {C : String} {T : u_T} {v : Value} {μ2 : jM} (j : Nat) (hC : jC ci C T N) (hfin : (T j).2.2.2 = false ∨ ((T j).2.2.2 = true ∧ y.name = "<init>" ∧ C = y.cls)) (e1 : μ2.1 = μ.1) (e2 : μ2.2.1 = μ.2.1) (hsh2 : jsh μ2 = jsh μ) (h3 : ∀ (cy : Nat → ClassId) (ad : Nat → Nat) (k : Nat), k ≠ h → jcell cy ad μ2 k = jcell cy ad μ k) (h5 : ∀ ad, jfv ad μ2 ci h j = jv ad v) (h6 : ∀ ad i, i ≠ j → jfv ad μ2 ci h i = jfv ad μ ci h i) (hnf : ∀ ad, narrow (jty ci j) (jv ad v) = jv ad v ∧ fits (jty ci j) (jv ad v) = true) (hd : decode cc pc = .ok (.putfield idx, 3)) (hw : Cond.fieldLink y.cls idx C (T j).2.1 (T j).2.2.1 ∈ jG) (hj : Nat.blt j N = true) (hh : jok μ h = true) (hsh : jsh μ h = (ci + 4, n)) (k : J y cc nL rt d g rv μ' (pc + 3) lv st μ2) : J y cc nL rt d g rv μ' pc lv (v :: .ref h :: st) μ := by
  intro D cy ad bs A MC MS n0 w0 p l e s m args below meth c H locs cells slots ls F B hl
  obtain ⟨h0, hn, hlim⟩ := jok_spec hh
  obtain ⟨c1, c2, c3, c4, c5, c6⟩ := hC
  have hj := Nat.le_of_ble_eq_true hj
  obtain ⟨f1, f2, f3, f4, f5, f6, f7, f8, f9, f10, f11, f12, f13, f14⟩ := id F
  obtain ⟨hP, hB⟩ := id B
  have hg1 := jW_get (cy := cy) (ad := ad) (bs := bs) h0 hn
  rw [jcell_obj hsh] at hg1
  have eR := jr_cell f11 h0 hlim
  have hw' := f6 _ hw
  have hc2 : jcell cy ad μ2 h = .inr (ci, (List.range (jnf ci)).map (jfv ad μ2 ci h)) := jcell_obj (by rw [hsh2]; exact hsh)
  have hfs := j_fset (μ := μ) (N := jnf ci) (by rw [c6]; exact hj) (h5 ad) (h6 ad)
  show W _ _ _ _ _ _ _ _ _ _ _ _ _ _ _ (F0 m pc ls (jv ad v :: jr ad h :: st.map (jv ad)))
  rw [eR]
  have hap := va_apart (own := y.cls) f6 c2 (jty ci) c3 c4 f8 c1
  obtain ⟨r, g1, cell, q1, q2, q3, q4⟩ := hP _ _ hg1
  have hr : r = (C, T, N) := Option.some.inj (g1.symm.trans c1)
  subst hr
  obtain ⟨kS, hfc, kC, hkC, hkind⟩ := f8.1 ci _ c1
  obtain ⟨cf, kf, fi, f, hi, hsl⟩ := kS j hj
  have hst := (u_facts hfc hkC (u_lays f6 c2 hj) hi).1
  have hsame : s.fieldFound? C (T j).2.1 (T j).2.2.1 = some (cf, kf, fi, f) := by rw [← c5 j hj]; exact hi
  have fin : ∀ H' : Heap, H'[bs + h]? = some (cell.setSlot f.slot (jv ad v)) → H'.size = H.size → (∀ q, q ≠ bs + h → H'[q]? = H[q]?) → W p l e (jR d MC MS) s m args below meth c H' (locs ++ [⟨bs + h, f.slot⟩]) cells slots (MQ below (jQ D cy ad bs A g rv μ') args s MC MS A) (F0 m (pc + 3) ls (st.map (jv ad))) := by
    intro H' a1 a2 a3
    refine k D cy ad bs A MC MS n0 w0 p l e s m args below meth c H' _ cells slots ls F (jH_store f.slot B h0 hn e1 e2 ?_ (h3 cy ad) a2 a3) hl
    rw [hc2, ← hfs]
    rw [hsl] at a1
    refine ⟨_, c1, t_OB.to (V := updV (vp_V ((List.range (jnf ci)).map (jfv ad μ ci h))) j (jv ad v)) ⟨_, a1, q2, q3, t_set q4 hap hj (jv ad v)⟩ (fun i _ => vp_updV_set (by simp; rw [c6]; exact hj) (jv ad v) i)⟩
  have hlay := f6 _ (c2 _ (u_in_lay hj))
  unfold u_lay at hlay
  rcases hfin with hfin | ⟨hfin, hin2, hdecl⟩
  · rw [if_neg (by rw [hfin]; decide)] at hlay
    have h6' := u_store hfc hkC hkind hlay hi (c3 j hj) (hnf ad).1 (hnf ad).2
    exact W.putK f1 f2 (f := f) ⟨f5, hw', ⟨_, _, _, hsame⟩, hst⟩ (by rw [q2]; exact h6') q1 q3 (by rw [hsl]; exact k2_hasslot (q4 j hj)) rfl rfl hd fin
  · rw [if_pos hfin] at hlay
    have hcf : m.cls = cf := by
      obtain ⟨_, _, c', _, _, _, -, -, hf', -, -, -, hown2, -⟩ := Cond.laysFinal_spec hlay
      have e1 : c' = cf := by have := hi.symm.trans hf'; simp at this; exact this.1.symm
      rw [c5 j hj, hdecl] at hown2
      rw [← e1]; exact Option.some.inj (f5.symm.trans hown2)
    have h6' := u_fits hfc hkC hkind (Or.inr hlay) hi (c3 j hj) (hnf ad).1 (hnf ad).2
    exact W.putFinK f1 f2 f5 hw' hsame hst hcf (by rw [f13]; exact hin2) (by rw [q2]; exact h6') q1 q3 (by rw [hsl]; exact k2_hasslot (q4 j hj)) rfl rfl hd fin

theorem jfv_jsI {ad : Nat → Nat} {h j ci : Nat} {x : Int32} (hk : jk (jty ci j) = 0) : jfv ad (jsI μ h j x) ci h j = jv ad (.int x) := by
  unfold jfv
  rw [hk]
  have e : jI (jsI μ h j x) h j = x := by
    show ju (jI μ) h j x h j = _
    simp [ju]
  simp only [e]
  rfl
theorem jfv_jsIn {ad : Nat → Nat} {h j ci i : Nat} {x : Int32} (hi : i ≠ j) : jfv ad (jsI μ h j x) ci h i = jfv ad μ ci h i := by
  have e : jI (jsI μ h j x) h i = jI μ h i := by
    show ju (jI μ) h j x h i = _
    simp [ju, hi]
  unfold jfv
  rw [e]
  rfl
theorem j_putI {ci idx h n N : Nat} {C : String} {T : u_T} {x : Int32} (j : Nat) (hC : jC ci C T N) (hd : decode cc pc = .ok (.putfield idx, 3)) (hw : Cond.fieldLink y.cls idx C (T j).2.1 (T j).2.2.1 ∈ jG) (hfin : (T j).2.2.2 = false ∨ ((T j).2.2.2 = true ∧ y.name = "<init>" ∧ C = y.cls)) (hj : Nat.blt j N = true) (hk : jk (jty ci j) = 0) (hnf : ∀ ad, narrow (jty ci j) (jv ad (.int x)) = jv ad (.int x) ∧ fits (jty ci j) (jv ad (.int x)) = true) (hh : jok μ h = true) (hsh : jsh μ h = (ci + 4, n)) (k : J y cc nL rt d g rv μ' (pc + 3) lv st (jsI μ h j x)) : J y cc nL rt d g rv μ' pc lv (.int x :: .ref h :: st) μ :=
  j_put (μ2 := jsI μ h j x) j hC hfin rfl rfl rfl (fun _ _ k hk => jcell_jsI k hk) (fun _ => jfv_jsI hk) (fun _ _ hi => jfv_jsIn hi) hnf hd hw hj hh hsh k
theorem jfv_jsL {ad : Nat → Nat} {h j ci : Nat} {x : Int64} (hk : jk (jty ci j) = 1) : jfv ad (jsL μ h j x) ci h j = jv ad (.long x) := by
  unfold jfv
  rw [hk]
  have e : jL (jsL μ h j x) h j = x := by
    show ju (jL μ) h j x h j = _
    simp [ju]
  simp only [e]
  rfl
theorem jfv_jsLn {ad : Nat → Nat} {h j ci i : Nat} {x : Int64} (hi : i ≠ j) : jfv ad (jsL μ h j x) ci h i = jfv ad μ ci h i := by
  have e : jL (jsL μ h j x) h i = jL μ h i := by
    show ju (jL μ) h j x h i = _
    simp [ju, hi]
  unfold jfv
  rw [e]
  rfl
theorem j_putL {ci idx h n N : Nat} {C : String} {T : u_T} {x : Int64} (j : Nat) (hC : jC ci C T N) (hd : decode cc pc = .ok (.putfield idx, 3)) (hw : Cond.fieldLink y.cls idx C (T j).2.1 (T j).2.2.1 ∈ jG) (hfin : (T j).2.2.2 = false ∨ ((T j).2.2.2 = true ∧ y.name = "<init>" ∧ C = y.cls)) (hj : Nat.blt j N = true) (hk : jk (jty ci j) = 1) (hnf : ∀ ad, narrow (jty ci j) (jv ad (.long x)) = jv ad (.long x) ∧ fits (jty ci j) (jv ad (.long x)) = true) (hh : jok μ h = true) (hsh : jsh μ h = (ci + 4, n)) (k : J y cc nL rt d g rv μ' (pc + 3) lv st (jsL μ h j x)) : J y cc nL rt d g rv μ' pc lv (.long x :: .ref h :: st) μ :=
  j_put (μ2 := jsL μ h j x) j hC hfin rfl rfl rfl (fun _ _ k hk => jcell_jsL k hk) (fun _ => jfv_jsL hk) (fun _ _ hi => jfv_jsLn hi) hnf hd hw hj hh hsh k
theorem jfv_jsP {ad : Nat → Nat} {h j ci : Nat} {x : Nat} (hk : jk (jty ci j) = 2) : jfv ad (jsP μ h j x) ci h j = jv ad (.ref x) := by
  unfold jfv
  rw [hk]
  have e : jP (jsP μ h j x) h j = x := by
    show ju (jP μ) h j x h j = _
    simp [ju]
  simp only [e]
  rfl
theorem jfv_jsPn {ad : Nat → Nat} {h j ci i : Nat} {x : Nat} (hi : i ≠ j) : jfv ad (jsP μ h j x) ci h i = jfv ad μ ci h i := by
  have e : jP (jsP μ h j x) h i = jP μ h i := by
    show ju (jP μ) h j x h i = _
    simp [ju, hi]
  unfold jfv
  rw [e]
  rfl
theorem j_putP {ci idx h n N : Nat} {C : String} {T : u_T} {x : Nat} (j : Nat) (hC : jC ci C T N) (hd : decode cc pc = .ok (.putfield idx, 3)) (hw : Cond.fieldLink y.cls idx C (T j).2.1 (T j).2.2.1 ∈ jG) (hfin : (T j).2.2.2 = false ∨ ((T j).2.2.2 = true ∧ y.name = "<init>" ∧ C = y.cls)) (hj : Nat.blt j N = true) (hk : jk (jty ci j) = 2) (hnf : ∀ ad, narrow (jty ci j) (jv ad (.ref x)) = jv ad (.ref x) ∧ fits (jty ci j) (jv ad (.ref x)) = true) (hh : jok μ h = true) (hsh : jsh μ h = (ci + 4, n)) (k : J y cc nL rt d g rv μ' (pc + 3) lv st (jsP μ h j x)) : J y cc nL rt d g rv μ' pc lv (.ref x :: .ref h :: st) μ :=
  j_put (μ2 := jsP μ h j x) j hC hfin rfl rfl rfl (fun _ _ k hk => jcell_jsP k hk) (fun _ => jfv_jsP hk) (fun _ _ hi => jfv_jsPn hi) hnf hd hw hj hh hsh k
theorem j_iaload {h n : Nat} {i : Int32} (hd : decode cc pc = .ok (.iaload, 1)) (hh : jok μ h = true) (hsh : jsh μ h = (0, n)) (hi : vp_in i n) (k : J y cc nL rt d g rv μ' (pc + 1) lv (.int (jI μ h i.toNatClampNeg) :: st) μ) : J y cc nL rt d g rv μ' pc lv (.int i :: .ref h :: st) μ := by
  intro D cy ad bs A MC MS n0 w0 p l e s m args below meth c H locs cells slots ls F B hl
  obtain ⟨h0, hn, hlim⟩ := jok_spec hh
  obtain ⟨f1, f2, f3, f4, f5, f6, f7, f8, f9, f10, f11, f12, f13, f14⟩ := id F
  obtain ⟨hP, hB⟩ := id B
  have hg1 := jW_get (cy := cy) (ad := ad) (bs := bs) h0 hn
  have hc : jcell cy ad μ h = .inl (cy 0, n, .inl (jI μ h)) := by unfold jcell; rw [hsh]
  rw [hc] at hg1
  have eR := jr_cell f11 h0 hlim
  show W _ _ _ _ _ _ _ _ _ _ _ _ _ _ _ (F0 m pc ls (.int i :: jr ad h :: st.map (jv ad)))
  rw [eR]
  exact va_iald f1 f2 f8 hP (h - 1) 0 hg1 rfl hi hd (k D cy ad bs A MC MS n0 w0 p l e s m args below meth c H locs cells slots ls F B hl)
theorem j_baload {h n : Nat} {i : Int32} (hd : decode cc pc = .ok (.baload, 1)) (hh : jok μ h = true) (hsh : jsh μ h = (1, n)) (hi : vp_in i n) (k : J y cc nL rt d g rv μ' (pc + 1) lv (.int (jI μ h i.toNatClampNeg) :: st) μ) : J y cc nL rt d g rv μ' pc lv (.int i :: .ref h :: st) μ := by
  intro D cy ad bs A MC MS n0 w0 p l e s m args below meth c H locs cells slots ls F B hl
  obtain ⟨h0, hn, hlim⟩ := jok_spec hh
  obtain ⟨f1, f2, f3, f4, f5, f6, f7, f8, f9, f10, f11, f12, f13, f14⟩ := id F
  obtain ⟨hP, hB⟩ := id B
  have hg1 := jW_get (cy := cy) (ad := ad) (bs := bs) h0 hn
  have hc : jcell cy ad μ h = .inl (cy 1, n, .inl (jI μ h)) := by unfold jcell; rw [hsh]
  rw [hc] at hg1
  have eR := jr_cell f11 h0 hlim
  show W _ _ _ _ _ _ _ _ _ _ _ _ _ _ _ (F0 m pc ls (.int i :: jr ad h :: st.map (jv ad)))
  rw [eR]
  exact va_zald f1 f2 f8 hP (h - 1) 1 hg1 rfl hi hd (k D cy ad bs A MC MS n0 w0 p l e s m args below meth c H locs cells slots ls F B hl)
theorem j_laload {h n : Nat} {i : Int32} (hd : decode cc pc = .ok (.laload, 1)) (hh : jok μ h = true) (hsh : jsh μ h = (2, n)) (hi : vp_in i n) (k : J y cc nL rt d g rv μ' (pc + 1) lv (.long (jL μ h i.toNatClampNeg) :: st) μ) : J y cc nL rt d g rv μ' pc lv (.int i :: .ref h :: st) μ := by
  intro D cy ad bs A MC MS n0 w0 p l e s m args below meth c H locs cells slots ls F B hl
  obtain ⟨h0, hn, hlim⟩ := jok_spec hh
  obtain ⟨f1, f2, f3, f4, f5, f6, f7, f8, f9, f10, f11, f12, f13, f14⟩ := id F
  obtain ⟨hP, hB⟩ := id B
  have hg1 := jW_get (cy := cy) (ad := ad) (bs := bs) h0 hn
  have hc : jcell cy ad μ h = .inl (cy 2, n, .inr (.inl (jL μ h))) := by unfold jcell; rw [hsh]
  rw [hc] at hg1
  have eR := jr_cell f11 h0 hlim
  show W _ _ _ _ _ _ _ _ _ _ _ _ _ _ _ (F0 m pc ls (.int i :: jr ad h :: st.map (jv ad)))
  rw [eR]
  exact va_lald f1 f2 f8 hP (h - 1) 2 hg1 rfl hi hd (k D cy ad bs A MC MS n0 w0 p l e s m args below meth c H locs cells slots ls F B hl)
theorem j_aaload {h n : Nat} {i : Int32} (hd : decode cc pc = .ok (.aaload, 1)) (hh : jok μ h = true) (hsh : jsh μ h = (3, n)) (hi : vp_in i n) (k : J y cc nL rt d g rv μ' (pc + 1) lv (.ref (jP μ h i.toNatClampNeg) :: st) μ) : J y cc nL rt d g rv μ' pc lv (.int i :: .ref h :: st) μ := by
  intro D cy ad bs A MC MS n0 w0 p l e s m args below meth c H locs cells slots ls F B hl
  obtain ⟨h0, hn, hlim⟩ := jok_spec hh
  obtain ⟨f1, f2, f3, f4, f5, f6, f7, f8, f9, f10, f11, f12, f13, f14⟩ := id F
  obtain ⟨hP, hB⟩ := id B
  have hg1 := jW_get (cy := cy) (ad := ad) (bs := bs) h0 hn
  have hc : jcell cy ad μ h = .inl (cy 3, n, .inr (.inr (.inr (.inr (fun i => jo ad (jP μ h i)))))) := by unfold jcell; rw [hsh]
  rw [hc] at hg1
  have eR := jr_cell f11 h0 hlim
  show W _ _ _ _ _ _ _ _ _ _ _ _ _ _ _ (F0 m pc ls (.int i :: jr ad h :: st.map (jv ad)))
  rw [eR]
  refine va_aldq f1 f2 f8 hP (h - 1) 3 hg1 rfl hi hd ?_
  rw [jo_rf]
  exact (k D cy ad bs A MC MS n0 w0 p l e s m args below meth c H locs cells slots ls F B hl)
theorem j_alen {h kd n : Nat} (hd : decode cc pc = .ok (.arraylength, 1)) (hh : jok μ h = true) (hsh : jsh μ h = (kd, n)) (hk : Nat.blt kd 4 = true) (k : J y cc nL rt d g rv μ' (pc + 1) lv (.int (Int32.ofNat n) :: st) μ) : J y cc nL rt d g rv μ' pc lv (.ref h :: st) μ := by
  intro D cy ad bs A MC MS n0 w0 p l e s m args below meth c H locs cells slots ls F B hl
  obtain ⟨h0, hn, hlim⟩ := jok_spec hh
  obtain ⟨f1, f2, f3, f4, f5, f6, f7, f8, f9, f10, f11, f12, f13, f14⟩ := id F
  obtain ⟨hP, hB⟩ := id B
  have hg1 := jW_get (cy := cy) (ad := ad) (bs := bs) h0 hn
  have hk := Nat.le_of_ble_eq_true hk
  have hc : ∃ (x : vp_A) (ty : FieldType), jcell cy ad μ h = .inl (cy kd, x) ∧ x.1 = n ∧ (jtys cy)[kd]? = some (cy kd, ty) := by
    unfold jcell
    rw [hsh]
    match kd, hk with
    | 0, _ => exact ⟨_, _, rfl, rfl, rfl⟩
    | 1, _ => exact ⟨_, _, rfl, rfl, rfl⟩
    | 2, _ => exact ⟨_, _, rfl, rfl, rfl⟩
    | 3, _ => exact ⟨_, _, rfl, rfl, rfl⟩
  obtain ⟨x, ty, hc, hx, hty⟩ := hc
  rw [hc] at hg1
  have eR := jr_cell f11 h0 hlim
  show W _ _ _ _ _ _ _ _ _ _ _ _ _ _ _ (F0 m pc ls (jr ad h :: st.map (jv ad)))
  rw [eR]
  exact va_alen f1 f2 f8 hP (h - 1) kd hg1 hty (by rw [hx]) hd (k D cy ad bs A MC MS n0 w0 p l e s m args below meth c H locs cells slots ls F B hl)
theorem j_iastore {h n : Nat} {i : Int32} {x : Int32} (hd : decode cc pc = .ok (.iastore, 1)) (hh : jok μ h = true) (hsh : jsh μ h = (0, n)) (hi : vp_in i n) (k : J y cc nL rt d g rv μ' (pc + 1) lv st (jsI μ h i.toNatClampNeg x)) : J y cc nL rt d g rv μ' pc lv (.int x :: .int i :: .ref h :: st) μ := by
  intro D cy ad bs A MC MS n0 w0 p l e s m args below meth c H locs cells slots ls F B hl
  obtain ⟨h0, hn, hlim⟩ := jok_spec hh
  obtain ⟨f1, f2, f3, f4, f5, f6, f7, f8, f9, f10, f11, f12, f13, f14⟩ := id F
  obtain ⟨hP, hB⟩ := id B
  have hg1 := jW_get (cy := cy) (ad := ad) (bs := bs) h0 hn
  have hc : jcell cy ad μ h = .inl (cy 0, n, .inl (jI μ h)) := by unfold jcell; rw [hsh]
  rw [hc] at hg1
  have eR := jr_cell f11 h0 hlim
  have hc2 : jcell cy ad (jsI μ h i.toNatClampNeg x) h = .inl (cy 0, n, .inl (jI (jsI μ h i.toNatClampNeg x) h)) := by
    unfold jcell
    rw [show jsh (jsI μ h i.toNatClampNeg x) h = (0, n) from hsh]
  show W _ _ _ _ _ _ _ _ _ _ _ _ _ _ _ (F0 m pc ls (.int x :: .int i :: jr ad h :: st.map (jv ad)))
  rw [eR]
  refine W.iast f1 f2 (hP _ _ hg1) ((f8.2 0 _ rfl).1 n (fun j => .int (jI μ h j))) (fun q => by cases q) (by show ¬ (i < 0 ∨ (arrV _ _ _).slots.size ≤ _); rw [arrV_size]; exact hi) rfl rfl hd fun H1 e1 z oq => ?_
  refine k D cy ad bs A MC MS n0 w0 p l e s m args below meth c H1 _ cells slots ls F (jH_store _ B h0 hn rfl rfl ?_ (fun k hk => jcell_jsI k hk) z oq) hl
  rw [hc2]
  show H1[bs + h]? = some (vp_cell _ _)
  rw [e1, vp_cell_i, vp_cell_i, arrV_store]
  congr 2
  funext q
  show _ = Value.int (ju (jI μ) h i.toNatClampNeg x h q)
  by_cases hq : q = i.toNatClampNeg
  · subst hq
    simp [updV, ju]
  · simp [updV, ju, hq]
theorem j_bastore {h n : Nat} {i : Int32} {x : Int32} (hd : decode cc pc = .ok (.bastore, 1)) (hh : jok μ h = true) (hsh : jsh μ h = (1, n)) (hi : vp_in i n) (k : J y cc nL rt d g rv μ' (pc + 1) lv st (jsI μ h i.toNatClampNeg (vp_nar .boolean x))) : J y cc nL rt d g rv μ' pc lv (.int x :: .int i :: .ref h :: st) μ := by
  intro D cy ad bs A MC MS n0 w0 p l e s m args below meth c H locs cells slots ls F B hl
  obtain ⟨h0, hn, hlim⟩ := jok_spec hh
  obtain ⟨f1, f2, f3, f4, f5, f6, f7, f8, f9, f10, f11, f12, f13, f14⟩ := id F
  obtain ⟨hP, hB⟩ := id B
  have hg1 := jW_get (cy := cy) (ad := ad) (bs := bs) h0 hn
  have hc : jcell cy ad μ h = .inl (cy 1, n, .inl (jI μ h)) := by unfold jcell; rw [hsh]
  rw [hc] at hg1
  have eR := jr_cell f11 h0 hlim
  have hc2 : jcell cy ad (jsI μ h i.toNatClampNeg (vp_nar .boolean x)) h = .inl (cy 1, n, .inl (jI (jsI μ h i.toNatClampNeg (vp_nar .boolean x)) h)) := by
    unfold jcell
    rw [show jsh (jsI μ h i.toNatClampNeg (vp_nar .boolean x)) h = (1, n) from hsh]
  show W _ _ _ _ _ _ _ _ _ _ _ _ _ _ _ (F0 m pc ls (.int x :: .int i :: jr ad h :: st.map (jv ad)))
  rw [eR]
  refine W.zast f1 f2 (hP _ _ hg1) ((f8.2 1 _ rfl).1 n (fun j => .int (jI μ h j))) (fun q => by cases q) (by show ¬ (i < 0 ∨ (arrV _ _ _).slots.size ≤ _); rw [arrV_size]; exact hi) rfl rfl hd fun H1 e1 z oq => ?_
  refine k D cy ad bs A MC MS n0 w0 p l e s m args below meth c H1 _ cells slots ls F (jH_store _ B h0 hn rfl rfl ?_ (fun k hk => jcell_jsI k hk) z oq) hl
  rw [hc2]
  show H1[bs + h]? = some (vp_cell _ _)
  rw [e1, vp_cell_i, vp_cell_i, arrV_store]
  congr 2
  funext q
  show _ = Value.int (ju (jI μ) h i.toNatClampNeg (vp_nar .boolean x) h q)
  by_cases hq : q = i.toNatClampNeg
  · subst hq
    simp [updV, ju, vp_nar, narrow]
  · simp [updV, ju, hq]
theorem j_lastore {h n : Nat} {i : Int32} {x : Int64} (hd : decode cc pc = .ok (.lastore, 1)) (hh : jok μ h = true) (hsh : jsh μ h = (2, n)) (hi : vp_in i n) (k : J y cc nL rt d g rv μ' (pc + 1) lv st (jsL μ h i.toNatClampNeg x)) : J y cc nL rt d g rv μ' pc lv (.long x :: .int i :: .ref h :: st) μ := by
  intro D cy ad bs A MC MS n0 w0 p l e s m args below meth c H locs cells slots ls F B hl
  obtain ⟨h0, hn, hlim⟩ := jok_spec hh
  obtain ⟨f1, f2, f3, f4, f5, f6, f7, f8, f9, f10, f11, f12, f13, f14⟩ := id F
  obtain ⟨hP, hB⟩ := id B
  have hg1 := jW_get (cy := cy) (ad := ad) (bs := bs) h0 hn
  have hc : jcell cy ad μ h = .inl (cy 2, n, .inr (.inl (jL μ h))) := by unfold jcell; rw [hsh]
  rw [hc] at hg1
  have eR := jr_cell f11 h0 hlim
  have hc2 : jcell cy ad (jsL μ h i.toNatClampNeg x) h = .inl (cy 2, n, .inr (.inl (jL (jsL μ h i.toNatClampNeg x) h))) := by
    unfold jcell
    rw [show jsh (jsL μ h i.toNatClampNeg x) h = (2, n) from hsh]
  show W _ _ _ _ _ _ _ _ _ _ _ _ _ _ _ (F0 m pc ls (.long x :: .int i :: jr ad h :: st.map (jv ad)))
  rw [eR]
  refine W.last f1 f2 (hP _ _ hg1) ((f8.2 2 _ rfl).1 n (fun j => .long (jL μ h j))) (fun q => by cases q) (by show ¬ (i < 0 ∨ (arrV _ _ _).slots.size ≤ _); rw [arrV_size]; exact hi) rfl rfl hd fun H1 e1 z oq => ?_
  refine k D cy ad bs A MC MS n0 w0 p l e s m args below meth c H1 _ cells slots ls F (jH_store _ B h0 hn rfl rfl ?_ (fun k hk => jcell_jsL k hk) z oq) hl
  rw [hc2]
  show H1[bs + h]? = some (vp_cell _ _)
  rw [e1, vp_cell_l, vp_cell_l, arrV_store]
  congr 2
  funext q
  show _ = Value.long (ju (jL μ) h i.toNatClampNeg x h q)
  by_cases hq : q = i.toNatClampNeg
  · subst hq
    simp [updV, ju]
  · simp [updV, ju, hq]
def jtyok : FieldType → Bool
  | .int => true
  | .boolean => true
  | .long => true
  | .object _ => true
  | .array _ => true
  | _ => false
theorem jfv_new {ad : Nat → Nat} {ci k len w j : Nat} (h : jtyok (jty ci j) = true) : jfv ad (jnw μ k len w) ci (μ.1 + 1) j = defaultValue (jty ci j) := by
  have e1 : jI (jnw μ k len w) (μ.1 + 1) j = 0 := by simp [jI, jnw]
  have e2 : jL (jnw μ k len w) (μ.1 + 1) j = 0 := by simp [jL, jnw]
  have e3 : jP (jnw μ k len w) (μ.1 + 1) j = 0 := by simp [jP, jnw]
  unfold jfv
  rw [e1, e2, e3]
  cases hq : jty ci j <;> rw [hq] at h <;> first | (cases h; done) | rfl
theorem jcell_new {cy : Nat → ClassId} {ad : Nat → Nat} {k len w : Nat} (j : Nat) (hj : j ≤ μ.1) : jcell cy ad (jnw μ k len w) j = jcell cy ad μ j := by
  have q : j ≠ μ.1 + 1 := by omega
  exact jcell_congr (by simp [jsh, jnw, q]) (by simp [jI, jnw, q]) (by simp [jL, jnw, q]) (by simp [jP, jnw, q])
theorem jH_push {D : va_G} {cy : Nat → ClassId} {ad : Nat → Nat} {bs : Nat} {A : Nat → Prop} {MC MS n0 w0 : Nat} {s : State} {H H1 : Heap} {locs : List Loc} {cells slots : Nat} {k len w : Nat} (B : jH D cy ad bs A MC MS n0 w0 true μ' s H locs cells slots μ) (hA2 : ∀ q, s.heap.size ≤ q → A q) (hat : va_at D vwCl (H.size, jcell cy ad (jnw μ k len w) (μ.1 + 1)) H1) (z1 : H1.size = H.size + 1) (o1 : ∀ q, q < H.size → H1[q]? = H[q]?) : jH D cy ad bs A MC MS n0 w0 true μ' s H1 locs (cells + 1) (slots + w) (jnw μ k len w) := by
  obtain ⟨hP, hS, hA, hg, c1, c2, c3, c4⟩ := B
  have hsz := hg rfl
  refine ⟨?_, ⟨Nat.le_trans hS.1 (by omega), fun x h1 h2 => (o1 x (Nat.lt_of_lt_of_le h1 hS.1)).trans (hS.2.1 x h1 h2), hS.2.2⟩, fun q h1 h2 => ?_, fun _ => ?_, ?_, ?_, c3, c4⟩
  · have hk : ∀ (i : Nat) (x : Nat × va_E), (jW cy ad bs μ)[i]? = some x → H1[x.1]? = H[x.1]? := fun i x hx => o1 x.1 ((hP i x hx).lt)
    rw [← jW_push (μ := μ) (μ2 := jnw μ k len w) rfl rfl (fun j hj => jcell_new j hj)]
    refine (hP.kept hk).app (fun i x hx => ?_)
    have hz : i < 1 := (List.getElem?_eq_some_iff.mp hx).1
    rw [show i = 0 by omega] at hx
    cases hx
    rw [show bs + (μ.1 + 1) = H.size by omega]
    exact hat
  · have h2 : q ≤ bs + (μ.1 + 1) := h2
    by_cases q0 : q ≤ bs + μ.1
    · exact hA q h1 q0
    · exact hA2 q (by have := hS.1; omega)
  · show H1.size = bs + (μ.1 + 1) + 1
    omega
  · show cells + 1 + n0 = μ.1 + 1
    omega
  · show slots + w + w0 = μ.2.1 + w
    omega
theorem jr_new {ad : Nat → Nat} {bs : Nat} {H : Heap} (had : ∀ h, h < jlim → ad h = bs + h) (hl : Nat.blt (μ.1 + 1) jlim = true) (hsz : H.size = bs + μ.1 + 1) : jv ad (.ref (μ.1 + 1)) = .ref H.size := by
  show jr ad (μ.1 + 1) = _
  rw [jr_cell had (by omega) (Nat.le_of_ble_eq_true hl), hsz]
  rfl
theorem j_new {ci idx N : Nat} {C : String} {T : u_T} (hC : jC ci C T N) (hd : decode cc pc = .ok (.new idx, 3)) (hw : Cond.classLink y.cls idx C ∈ jG) (hins : Cond.instantiable C N ∈ jG) (hini : Cond.initialized C ∈ jG) (hty : ∀ j, j < N → jtyok (jty ci j) = true) (h1 : Nat.ble (μ.1 + 1) μ'.1 = true) (h2 : Nat.ble (μ.2.1 + N) μ'.2.1 = true) (hlim : Nat.blt (μ.1 + 1) jlim = true) (k : J y cc nL rt d true rv μ' (pc + 3) lv (.ref (μ.1 + 1) :: st) (jnw μ (ci + 4) 0 N)) : J y cc nL rt d true rv μ' pc lv st μ := by
  intro D cy ad bs A MC MS n0 w0 p l e s m args below meth c H locs cells slots ls F B hl
  obtain ⟨c1, c2, c3, c4, c5, c6⟩ := hC
  obtain ⟨f1, f2, f3, f4, f5, f6, f7, f8, f9, f10, f11, f12, f13, f14⟩ := id F
  obtain ⟨hP, hS, hA, hg, q1, q2, q3, q4⟩ := id B
  have h1 := Nat.le_of_ble_eq_true h1
  have h2 := Nat.le_of_ble_eq_true h2
  have hsz := hg rfl
  have hKn := f8.1 ci _ c1
  refine W.newcK f1 f2 f5 (f6 _ hw) (f6 _ hins) (f6 _ hini) rfl hd (by show cells + 1 ≤ MC; omega) (by show slots + N ≤ MS; omega) hKn.2.1 rfl fun H1 kC hkC e1 z1 o1 => ?_
  have B2 := jH_push (k := ci + 4) (len := 0) (w := N) B f9 (H1 := H1) ?_ z1 o1
  · have K := k D cy ad bs A MC MS n0 w0 p l e s m args below meth c H1 locs _ _ ls F B2 hl
    simp only [List.map_cons] at K
    rw [jr_new f11 hlim hsz] at K
    exact K
  · rw [jcell_obj (ci := ci) (n := 0) (by simp [jsh, jnw])]
    refine ⟨_, c1, (u_born (jty ci) f6 c2 hKn hkC e1 c3).to (fun j hj => ?_)⟩
    simp only [vp_V, List.getD, List.getElem?_map]
    rw [c6, List.getElem?_range hj]
    exact (jfv_new (hty j hj)).symm
theorem j_RAint {D : va_G} {cy : Nat → ClassId} {s : State} {kd : Nat} {ty : FieldType} {cA : ClassId} (hK : va_K D vwCl (jtys cy) s) (h : (jtys cy)[kd]? = some (cy kd, ty)) (hp : ∀ C, ty ≠ .object C) (hn : s.vm.findClass ("[" ++ ty.toString) = some cA) : cA = cy kd := by
  have h1 := (hK.2 kd _ h).2
  cases ty with
  | object C => exact absurd rfl (hp C)
  | _ => exact Option.some.inj (hn.symm.trans h1)
theorem j_newI {x : Int32} (N : Nat) (hd : decode cc pc = .ok (.newarray .int, 2)) (hw : Cond.arrayClass .int ∈ jG) (hx : ¬ x < 0) (hN : x.toNatClampNeg = N) (hb : Nat.ble N 10000000 = true) (h1 : Nat.ble (μ.1 + 1) μ'.1 = true) (h2 : Nat.ble (μ.2.1 + N) μ'.2.1 = true) (hlim : Nat.blt (μ.1 + 1) jlim = true) (k : J y cc nL rt d true rv μ' (pc + 2) lv (.ref (μ.1 + 1) :: st) (jnw μ 0 N N)) : J y cc nL rt d true rv μ' pc lv (.int x :: st) μ := by
  intro D cy ad bs A MC MS n0 w0 p l e s m args below meth c H locs cells slots ls F B hl
  obtain ⟨f1, f2, f3, f4, f5, f6, f7, f8, f9, f10, f11, f12, f13, f14⟩ := id F
  obtain ⟨hP, hS, hA, hg, q1, q2, q3, q4⟩ := id B
  have h1 := Nat.le_of_ble_eq_true h1
  have h2 := Nat.le_of_ble_eq_true h2
  have hb := Nat.le_of_ble_eq_true hb
  have hsz := hg rfl
  refine va_newaK (atype := .int) f1 f2 (f6 _ hw) rfl hd rfl hx hN (by show N * componentBytes .int ≤ _; simp [componentBytes]; omega) (by show cells + 1 ≤ MC; omega) (by show slots + N ≤ MS; omega) rfl fun H1 cA e1 z1 o1 hAr hNm => ?_
  have B2 := jH_push (k := 0) (len := N) (w := N) B f9 (H1 := H1) ?_ z1 o1
  · have K := k D cy ad bs A MC MS n0 w0 p l e s m args below meth c H1 locs _ _ ls F B2 hl
    simp only [List.map_cons] at K
    rw [jr_new f11 hlim hsz] at K
    exact K
  · have hc := j_RAint (kd := 0) (ty := .int) f8 rfl (fun C q => by cases q) hNm
    subst hc
    have e : jcell cy ad (jnw μ 0 N N) (μ.1 + 1) = .inl (cy 0, N, .inl (fun _ => 0)) := by
      unfold jcell
      rw [show jsh (jnw μ 0 N N) (μ.1 + 1) = (0, N) by simp [jsh, jnw]]
      have e1 : jI (jnw μ 0 N N) (μ.1 + 1) = fun _ => 0 := by simp [jI, jnw]
      simp only [e1]
    rw [e]
    show H1[H.size]? = some (vp_cell _ _)
    rw [vp_cell_i]
    exact e1
theorem j_newZ {x : Int32} (N : Nat) (hd : decode cc pc = .ok (.newarray .boolean, 2)) (hw : Cond.arrayClass .boolean ∈ jG) (hx : ¬ x < 0) (hN : x.toNatClampNeg = N) (hb : Nat.ble N 10000000 = true) (h1 : Nat.ble (μ.1 + 1) μ'.1 = true) (h2 : Nat.ble (μ.2.1 + N) μ'.2.1 = true) (hlim : Nat.blt (μ.1 + 1) jlim = true) (k : J y cc nL rt d true rv μ' (pc + 2) lv (.ref (μ.1 + 1) :: st) (jnw μ 1 N N)) : J y cc nL rt d true rv μ' pc lv (.int x :: st) μ := by
  intro D cy ad bs A MC MS n0 w0 p l e s m args below meth c H locs cells slots ls F B hl
  obtain ⟨f1, f2, f3, f4, f5, f6, f7, f8, f9, f10, f11, f12, f13, f14⟩ := id F
  obtain ⟨hP, hS, hA, hg, q1, q2, q3, q4⟩ := id B
  have h1 := Nat.le_of_ble_eq_true h1
  have h2 := Nat.le_of_ble_eq_true h2
  have hb := Nat.le_of_ble_eq_true hb
  have hsz := hg rfl
  refine va_newaK (atype := .boolean) f1 f2 (f6 _ hw) rfl hd rfl hx hN (by show N * componentBytes .boolean ≤ _; simp [componentBytes]; omega) (by show cells + 1 ≤ MC; omega) (by show slots + N ≤ MS; omega) rfl fun H1 cA e1 z1 o1 hAr hNm => ?_
  have B2 := jH_push (k := 1) (len := N) (w := N) B f9 (H1 := H1) ?_ z1 o1
  · have K := k D cy ad bs A MC MS n0 w0 p l e s m args below meth c H1 locs _ _ ls F B2 hl
    simp only [List.map_cons] at K
    rw [jr_new f11 hlim hsz] at K
    exact K
  · have hc := j_RAint (kd := 1) (ty := .boolean) f8 rfl (fun C q => by cases q) hNm
    subst hc
    have e : jcell cy ad (jnw μ 1 N N) (μ.1 + 1) = .inl (cy 1, N, .inl (fun _ => 0)) := by
      unfold jcell
      rw [show jsh (jnw μ 1 N N) (μ.1 + 1) = (1, N) by simp [jsh, jnw]]
      have e1 : jI (jnw μ 1 N N) (μ.1 + 1) = fun _ => 0 := by simp [jI, jnw]
      simp only [e1]
    rw [e]
    show H1[H.size]? = some (vp_cell _ _)
    rw [vp_cell_i]
    exact e1
theorem j_newL {x : Int32} (N : Nat) (hd : decode cc pc = .ok (.newarray .long, 2)) (hw : Cond.arrayClass .long ∈ jG) (hx : ¬ x < 0) (hN : x.toNatClampNeg = N) (hb : Nat.ble N 10000000 = true) (h1 : Nat.ble (μ.1 + 1) μ'.1 = true) (h2 : Nat.ble (μ.2.1 + N) μ'.2.1 = true) (hlim : Nat.blt (μ.1 + 1) jlim = true) (k : J y cc nL rt d true rv μ' (pc + 2) lv (.ref (μ.1 + 1) :: st) (jnw μ 2 N N)) : J y cc nL rt d true rv μ' pc lv (.int x :: st) μ := by
  intro D cy ad bs A MC MS n0 w0 p l e s m args below meth c H locs cells slots ls F B hl
  obtain ⟨f1, f2, f3, f4, f5, f6, f7, f8, f9, f10, f11, f12, f13, f14⟩ := id F
  obtain ⟨hP, hS, hA, hg, q1, q2, q3, q4⟩ := id B
  have h1 := Nat.le_of_ble_eq_true h1
  have h2 := Nat.le_of_ble_eq_true h2
  have hb := Nat.le_of_ble_eq_true hb
  have hsz := hg rfl
  refine va_newaK (atype := .long) f1 f2 (f6 _ hw) rfl hd rfl hx hN (by show N * componentBytes .long ≤ _; simp [componentBytes]; omega) (by show cells + 1 ≤ MC; omega) (by show slots + N ≤ MS; omega) rfl fun H1 cA e1 z1 o1 hAr hNm => ?_
  have B2 := jH_push (k := 2) (len := N) (w := N) B f9 (H1 := H1) ?_ z1 o1
  · have K := k D cy ad bs A MC MS n0 w0 p l e s m args below meth c H1 locs _ _ ls F B2 hl
    simp only [List.map_cons] at K
    rw [jr_new f11 hlim hsz] at K
    exact K
  · have hc := j_RAint (kd := 2) (ty := .long) f8 rfl (fun C q => by cases q) hNm
    subst hc
    have e : jcell cy ad (jnw μ 2 N N) (μ.1 + 1) = .inl (cy 2, N, .inr (.inl (fun _ => 0))) := by
      unfold jcell
      rw [show jsh (jnw μ 2 N N) (μ.1 + 1) = (2, N) by simp [jsh, jnw]]
      have e1 : jL (jnw μ 2 N N) (μ.1 + 1) = fun _ => 0 := by simp [jL, jnw]
      simp only [e1]
    rw [e]
    show H1[H.size]? = some (vp_cell _ _)
    rw [vp_cell_l]
    exact e1
theorem j_asn (vm : Vm) (c : ClassId) : vm.assignable c c = true := by
  first | exact Vm.assignable_self vm c | (show vm.assignableAux _ c c = true; unfold Vm.assignableAux; simp)
theorem j_newq {x : Int32} {idx : Nat} (N : Nat) (hd : decode cc pc = .ok (.anewarray idx, 3)) (hw : Cond.classLink y.cls idx RX7 ∈ jG) (hx : ¬ x < 0) (hN : x.toNatClampNeg = N) (hb : Nat.ble N 10000000 = true) (h1 : Nat.ble (μ.1 + 1) μ'.1 = true) (h2 : Nat.ble (μ.2.1 + N) μ'.2.1 = true) (hlim : Nat.blt (μ.1 + 1) jlim = true) (k : J y cc nL rt d true rv μ' (pc + 3) lv (.ref (μ.1 + 1) :: st) (jnw μ 3 N N)) : J y cc nL rt d true rv μ' pc lv (.int x :: st) μ := by
  intro D cy ad bs A MC MS n0 w0 p l e s m args below meth c H locs cells slots ls F B hl
  obtain ⟨f1, f2, f3, f4, f5, f6, f7, f8, f9, f10, f11, f12, f13, f14⟩ := id F
  obtain ⟨hP, hS, hA, hg, q1, q2, q3, q4⟩ := id B
  have h1 := Nat.le_of_ble_eq_true h1
  have h2 := Nat.le_of_ble_eq_true h2
  have hb := Nat.le_of_ble_eq_true hb
  have hsz := hg rfl
  subst hN
  refine W.anew f1 f2 f5 (f6 _ hw) (va_AO.use f12.2.1) rfl hd rfl hx (by omega) (by show cells + 1 ≤ MC; omega) (by show slots + _ ≤ MS; omega) fun cA kA comp g1 g2 g3 g4 => ?_
  generalize hH1 : H.push ({ cls := cA, slots := Array.replicate x.toNatClampNeg .null, vm := .none } : Cell) = H1
  have z1 : H1.size = H.size + 1 := by rw [← hH1, Array.size_push]
  have e1 : H1[H.size]? = some (arrV cA x.toNatClampNeg (fun _ => .null)) := by rw [← hH1, Array.getElem?_push_size, ← arrV_new]
  have o1 : ∀ q : Nat, q < H.size → H1[q]? = H[q]? := fun q hq => by rw [← hH1, Array.getElem?_push, if_neg (Nat.ne_of_lt hq)]
  have B2 := jH_push (k := 3) (len := x.toNatClampNeg) (w := x.toNatClampNeg) B f9 (H1 := H1) ?_ z1 o1
  · have K := k D cy ad bs A MC MS n0 w0 p l e s m args below meth c H1 locs _ _ ls F B2 hl
    simp only [List.map_cons] at K
    rw [jr_new f11 hlim hsz] at K
    exact K
  · have hc : cA = cy 3 := by
      obtain ⟨_, _, _, _, _, w5⟩ := (f8.2 3 _ rfl).2
      exact Option.some.inj (g1.symm.trans w5)
    subst hc
    have e : jcell cy ad (jnw μ 3 x.toNatClampNeg x.toNatClampNeg) (μ.1 + 1) = .inl (cy 3, x.toNatClampNeg, .inr (.inr (.inr (.inr (fun _ => none))))) := by
      unfold jcell
      rw [show jsh (jnw μ 3 x.toNatClampNeg x.toNatClampNeg) (μ.1 + 1) = (3, x.toNatClampNeg) by simp [jsh, jnw]]
      have e1 : ∀ i, jP (jnw μ 3 x.toNatClampNeg x.toNatClampNeg) (μ.1 + 1) i = 0 := by intro i; simp [jP, jnw]
      simp only [e1, jo, if_true]
    rw [e]
    show H1[H.size]? = some (vp_cell _ _)
    rw [vp_cell_q]
    exact e1
theorem j_aastore {h n v nv ci : Nat} {i : Int32} (hd : decode cc pc = .ok (.aastore, 1)) (hh : jok μ h = true) (hsh : jsh μ h = (3, n)) (hv : jok μ v = true) (hvs : jsh μ v = (6 + 4, nv)) (hi : vp_in i n) (k : J y cc nL rt d g rv μ' (pc + 1) lv st (jsP μ h i.toNatClampNeg v)) : J y cc nL rt d g rv μ' pc lv (.ref v :: .int i :: .ref h :: st) μ := by
  intro D cy ad bs A MC MS n0 w0 p l e s m args below meth c H locs cells slots ls F B hl
  obtain ⟨h0, hn, hlim⟩ := jok_spec hh
  obtain ⟨f1, f2, f3, f4, f5, f6, f7, f8, f9, f10, f11, f12, f13, f14⟩ := id F
  obtain ⟨hP, hB⟩ := id B
  have hg1 := jW_get (cy := cy) (ad := ad) (bs := bs) h0 hn
  have hc : jcell cy ad μ h = .inl (cy 3, n, .inr (.inr (.inr (.inr (fun i => jo ad (jP μ h i)))))) := by unfold jcell; rw [hsh]
  rw [hc] at hg1
  have eR := jr_cell f11 h0 hlim
  obtain ⟨v0, vn, vlim⟩ := jok_spec hv
  have hv1 := jW_get (cy := cy) (ad := ad) (bs := bs) v0 vn
  rw [jcell_obj hvs] at hv1
  have eV := jr_cell f11 v0 vlim
  obtain ⟨r', hc', cv, p1, p2, p3, -⟩ := hP _ _ hv1
  obtain rfl : (RX7, TX7, 7) = r' := Option.some.inj hc'
  obtain ⟨kS, hfc, kC, hkC, hkind⟩ := f8.1 6 _ rfl
  obtain ⟨kA, comp, w1, w2, w3, w4⟩ := (f8.2 3 _ rfl).2
  have hcomp : comp = D.1 6 := Option.some.inj (w3.symm.trans hfc)
  subst hcomp
  show W _ _ _ _ _ _ _ _ _ _ _ _ _ _ _ (F0 m pc ls (jr ad v :: .int i :: jr ad h :: st.map (jv ad)))
  rw [eR, eV]
  have hi2 : ¬ i < 0 ∧ i.toNatClampNeg < n := ⟨fun q => hi (Or.inl q), Nat.not_le.mp fun q => hi (Or.inr q)⟩
  refine W.aast f1 f2 (hP _ _ hg1) (fun q z => by cases z) (fun z => by cases z) w1 w2 rfl hkC (by show ¬ i < 0 ∧ _ < (arrV _ _ _).slots.size; rw [arrV_size]; exact hi2) p1 (fun q z => by rw [p3] at z; cases z) (by rw [p2]; exact hkC) (by rw [p2]; exact j_asn s.vm _) rfl rfl hd fun H1 e1 z oq => ?_
  refine k D cy ad bs A MC MS n0 w0 p l e s m args below meth c H1 _ cells slots ls F (jH_store _ B h0 hn rfl rfl ?_ (fun k hk => jcell_jsP k hk) z oq) hl
  have hc2 : jcell cy ad (jsP μ h i.toNatClampNeg v) h = .inl (cy 3, n, .inr (.inr (.inr (.inr (fun j => jo ad (jP (jsP μ h i.toNatClampNeg v) h j)))))) := by
    unfold jcell
    rw [show jsh (jsP μ h i.toNatClampNeg v) h = (3, n) from hsh]
  rw [hc2]
  show H1[bs + h]? = some (vp_cell _ _)
  rw [e1, vp_cell_q, vp_cell_q, arrV_store]
  congr 2
  funext q
  show _ = va_rf (jo ad (ju (jP μ) h i.toNatClampNeg v h q))
  by_cases hq : q = i.toNatClampNeg
  · subst hq
    simp only [updV, ju, if_true, and_self]
    rw [jo_rf, eV]
  · simp [updV, ju, hq]
theorem j_objInit {idx h : Nat} (hd : decode cc pc = .ok (.invokespecial idx, 3)) (hw : Cond.methodLink y.cls idx objectInit ∈ jG) (hh : Nat.blt 0 h = true) (hl0 : Nat.blt h jlim = true) (hdd : Nat.ble 1 d = true) (hW : Nat.ble ((st.map fun v => v.category).sum) 8 = true) (k : J y cc nL rt d g rv μ' (pc + 3) lv st μ) : J y cc nL rt d g rv μ' pc lv (.ref h :: st) μ := by
  intro D cy ad bs A MC MS n0 w0 p l e s m args below meth c H locs cells slots ls F B hl
  obtain ⟨f1, f2, f3, f4, f5, f6, f7, f8, f9, f10, f11, f12, f13, f14⟩ := id F
  have hh := Nat.le_of_ble_eq_true hh
  have eR := jr_cell f11 (by omega) (Nat.le_of_ble_eq_true hl0)
  have hdd := Nat.le_of_ble_eq_true hdd
  have hW := Nat.le_of_ble_eq_true hW
  have hW2 : ((st.map (jv ad)).map fun v => v.category).sum ≤ 8 := by
    rw [List.map_map]
    have : ((fun v : Value => v.category) ∘ jv ad) = fun v => v.category := by funext v; exact jv_cat ad v
    rw [this]; exact hW
  show W _ _ _ _ _ _ _ _ _ _ _ _ _ _ _ (F0 m pc ls (jr ad h :: st.map (jv ad)))
  rw [eR]
  have hr := lv_room (m := m) (pc := pc) (ls := ls) (rest := Value.ref (bs + h) :: st.map (jv ad)) (st := st.map (jv ad)) hW2
  refine W.objInit f1 f2 f5 (f6 _ hw) (f6 _ ki_obj) (f6 _ kc_obj) rfl (by rw [f3]; exact hl.1) rfl hd hdd ?_ (k D cy ad bs A MC MS n0 w0 p l e s m args below meth c H locs cells slots ls F B hl)
  show _ ≤ 41 * d
  omega

/-- a callee, as the tables have it: its code, its class, how many parameters -/
def jY (y2 : MethodName) (cc2 : ByteArray) (nL2 : Nat) (rt2 : Option FieldType) (n : Nat) : Prop := Cond.code y2 cc2 nL2 rt2 ∈ jG ∧ Cond.initialized y2.cls ∈ jG ∧ (y2.cls ≠ "java/lang/invoke/MethodHandle" ∧ y2.cls ≠ "java/lang/invoke/VarHandle" ∧ (parseMethodDescriptor y2.desc).map (fun q => q.parameters.length) = some n) ∧ nL2 ≤ 22
theorem jG_in {ws : List Cond} (h : ∀ w ∈ ws, w ∈ jG) : GoodIn jG ws := fun w hw => ⟨h w hw, good_of_word (jG_good w (h w hw))⟩
theorem jPc_blind {D : va_G} {cy : Nat → ClassId} {ad : Nat → Nat} {bs sz : Nat} {as : List Value} : FrameBlind (jPc D cy ad bs g sz as μ) := by
  intro a U gg mk hq
  obtain ⟨h1, h2, h3, h4, h5, h6, h7, h8⟩ := hq
  exact ⟨h1, h2, h3, va_K.moved (u := U) (U := U.calling gg mk a) (Vm.Alike.refl U.vm) h4, h5, h6, h7, jE_moved (s := U) (U := U.calling gg mk a) (State.WarmedH.refl U) (fun _ _ _ => rfl) h8⟩
theorem jH_lift {D : va_G} {cy : Nat → ClassId} {ad : Nat → Nat} {bs : Nat} {A : Nat → Prop} {MC MS n0 w0 : Nat} {s : State} {H : Heap} {locs : List Loc} {cells slots : Nat} (B : jH D cy ad bs A MC MS n0 w0 g μ' s H locs cells slots μ) (hA2 : ∀ q, s.heap.size ≤ q → A q) : ∀ q, jA bs μ.1 H.size q → A q := by
  intro q hq
  rcases hq with hq | hq
  · exact B.2.2.1 q hq.1 hq.2
  · exact hA2 q (Nat.le_trans B.2.1.1 hq)
/-- the callee's start holds -/
theorem jPc_of {D : va_G} {cy : Nat → ClassId} {ad : Nat → Nat} {bs : Nat} {A : Nat → Prop} {MC MS n0 w0 : Nat} {p : Program} {s : State} {m : MethodId} {args : Array Value} {meth : Method} {c : Code} {H : Heap} {locs : List Loc} {cells slots : Nat} {as : List Value} (F : jF y cc nL rt D cy ad bs A p s m args meth c) (B : jH D cy ad bs A MC MS n0 w0 g μ' s H locs cells slots μ) : ∀ U : State, U.heap = H → s.WarmedH U.vm → jPc D cy ad bs g H.size as μ (as.map (jv ad)).toArray U := by
  obtain ⟨f1, f2, f3, f4, f5, f6, f7, f8, f9, f10, f11, f12, f13, f14⟩ := F
  obtain ⟨hP, hS, hA, hg, q1, q2, q3, q4⟩ := B
  intro U hU hW
  refine ⟨rfl, by rw [hU], by rw [hU]; exact hP, va_K.moved hW.alike f8, fun q => by have := hg q; omega, Nat.lt_of_lt_of_le f14 hS.1, f11, jE_moved hW (fun a h1 h2 => ?_) f12⟩
  rw [hU]
  exact hS.2.1 a h1 (fun z => by have := f10 a z; omega)
theorem j_callOn {D : va_G} {cy : Nat → ClassId} {ad : Nat → Nat} {bs : Nat} {A : Nat → Prop} {MC MS n0 w0 : Nat} {p : Program} {l : Launch} {e : Env} {s : State} {m : MethodId} {args : Array Value} {below : List Frame} {meth : Method} {c : Code} {H : Heap} {locs : List Loc} {cells slots : Nat} {ls : Array Slot} {st0 : List Value} {a : Array Value} {rv2 : Option Value} {μ1 : jM} (F : jF y cc nL rt D cy ad bs A p s m args meth c) (B : jH D cy ad bs A MC MS n0 w0 g μ' s H locs cells slots μ) (hl : lv_has ls nL (jlv ad lv))
    (hr : va_Run p l e (jR d MC MS) s m args below meth c H locs cells slots (μ1.1 - μ.1) (μ1.2.1 - μ.2.1) (F0 m pc ls st0) (st.map (jv ad)) (jQ D cy ad bs (jA bs μ.1 H.size) g rv2 μ1 a) (jA bs μ.1 H.size)) (h1 : μ.1 ≤ μ1.1) (h2 : μ.2.1 ≤ μ1.2.1) (hg2 : g = true ∨ μ1.1 = μ.1)
    (k : J y cc nL rt d g rv μ' (pc + 3) lv (rv2.toList ++ st) μ1) : W p l e (jR d MC MS) s m args below meth c H locs cells slots (MQ below (jQ D cy ad bs A g rv μ') args s MC MS A) (F0 m pc ls st0) := by
  intro T hT X
  obtain ⟨v, st₀, t, T', L, e0, X', hL, e1, e2, ⟨hv, hP1, hg1, hz, hk⟩, stp⟩ := hr T hT X
  have hlift := jH_lift B F.2.2.2.2.2.2.2.2.1
  obtain ⟨hP, hS, hA, hg, q1, q2, q3, q4⟩ := B
  injection hv with hv
  subst hv
  rw [e0] at hz hk
  have hH : T'.heap.size ≥ H.size := by rw [e1]; exact hz
  have est : (rv2.map (jv ad)).toList ++ st.map (jv ad) = (rv2.toList ++ st).map (jv ad) := by cases rv2 <;> simp
  rw [est] at stp
  have B2 : jH D cy ad bs A MC MS n0 w0 g μ' s T'.heap (locs ++ L) (cells + (μ1.1 - μ.1)) (slots + (μ1.2.1 - μ.2.1)) μ1 := by
    refine ⟨by rw [e1]; exact hP1, ⟨Nat.le_trans hS.1 hH, fun q i1 i2 => ?_, fun q hq => ?_⟩, fun q i1 i2 => ?_, fun i => by rw [e1]; exact hg1 i, by omega, by omega, q3, q4⟩
    · rw [e1, hk q (Nat.lt_of_lt_of_le i1 hS.1) (fun z => i2 (hlift q z))]
      exact hS.2.1 q i1 i2
    · rcases List.mem_append.mp hq with i | i
      · exact hS.2.2 q i
      · exact hlift _ (hL q i)
    · rcases hg2 with hg2 | hg2
      · by_cases i3 : q ≤ bs + μ.1
        · exact hA q i1 i3
        · exact hlift q (Or.inr (by have := hg hg2; omega))
      · exact hA q i1 (by omega)
  obtain ⟨t2, a1, b1⟩ := k D cy ad bs A MC MS n0 w0 p l e s m args below meth c T'.heap (locs ++ L) (cells + (μ1.1 - μ.1)) (slots + (μ1.2.1 - μ.2.1)) ls F B2 hl T' rfl X'
  exact ⟨t2, stp t2 a1, b1⟩
theorem j_sumcat {ad : Nat → Nat} (hW : Nat.ble ((st.map fun v => v.category).sum) 8 = true) : ((st.map (jv ad)).map fun v => v.category).sum ≤ 8 := by
  rw [List.map_map]
  have : ((fun v : Value => v.category) ∘ jv ad) = fun v => v.category := by funext v; exact jv_cat ad v
  rw [this]
  exact Nat.le_of_ble_eq_true hW

theorem j_callS {y2 : MethodName} {cc2 : ByteArray} {nL2 : Nat} {rt2 : Option FieldType} {d2 n idx : Nat} {as st0 st1 : List Value} {rv2 : Option Value} {μ1 : jM} (hM : Cn y2 cc2 nL2 rt2 d2 g as μ rv2 μ1) (hY : jY y2 cc2 nL2 rt2 n) (hsta : Cond.static y2 ∈ jG) (hw : Cond.methodLink y.cls idx y2 ∈ jG) (hd : decode cc pc = .ok (.invokestatic idx, 3)) (hst : st0 = as.reverse ++ st) (hn : as.length = n) (hW : Nat.ble ((st.map fun v => v.category).sum) 8 = true) (hdd : Nat.blt d2 d = true) (h1 : Nat.ble μ.1 μ1.1 = true) (h2 : Nat.ble μ.2.1 μ1.2.1 = true) (h3 : Nat.ble μ1.1 μ'.1 = true) (h4 : Nat.ble μ1.2.1 μ'.2.1 = true) (hg2 : g = true ∨ μ1.1 = μ.1) (hs1 : st1 = rv2.toList ++ st) (k : J y cc nL rt d g rv μ' (pc + 3) lv st1 μ1) : J y cc nL rt d g rv μ' pc lv st0 μ := by
  subst hs1
  intro D cy ad bs A MC MS n0 w0 p l e s m args below meth c H locs cells slots ls F B hl
  obtain ⟨f1, f2, f3, f4, f5, f6, f7, f8, f9, f10, f11, f12, f13, f14⟩ := id F
  obtain ⟨hP, hS, hA, hg, q1, q2, q3, q4⟩ := id B
  obtain ⟨y1, y3, y4, y5⟩ := hY
  have hdd := Nat.le_of_ble_eq_true hdd
  have h1 := Nat.le_of_ble_eq_true h1
  have h2 := Nat.le_of_ble_eq_true h2
  have h3 := Nat.le_of_ble_eq_true h3
  have h4 := Nat.le_of_ble_eq_true h4
  refine j_callOn F B hl (va_runS (As := as.map (jv ad)) (rest := st.map (jv ad)) (Ts := jG) (own := y.cls) ⟨f1, f2, f3, f5, f6⟩ (hM l D cy ad bs H.size) (va_cwS n f6 (jG_in fun w hw2 => ?_) rfl rfl rfl y4 ⟨?_, ?_⟩) ⟨jPc_blind, jPc_of F B⟩ rfl (by simp [hn]) hl.1 (by rw [hst]; simp) (lv_room (j_sumcat hW)) hd ⟨?_, ?_⟩) h1 h2 hg2 k
  · simp only [va_wsS, List.mem_append, List.mem_cons, List.not_mem_nil, or_false] at hw2
    rcases hw2 with (rfl | rfl | rfl) | rfl | hw2
    · exact hw
    · exact hsta
    · exact y3
    · exact y1
    · exact hw2
  · exact hdd
  · show 8 + (nL2 + 11) + 41 * d2 ≤ 41 * d
    omega
  · show cells + (μ1.1 - μ.1) ≤ MC
    omega
  · show slots + (μ1.2.1 - μ.2.1) ≤ MS
    omega
theorem j_callV {y2 : MethodName} {cc2 : ByteArray} {nL2 : Nat} {rt2 : Option FieldType} {d2 n idx : Nat} {as st0 st1 : List Value} {rv2 : Option Value} {μ1 : jM} {h ci nn : Nat} (hM : Cn y2 cc2 nL2 rt2 d2 g (.ref h :: as) μ rv2 μ1) (hY : jY y2 cc2 nL2 rt2 n) (hin : Cond.instanceMethod y2 ∈ jG) (hsel : Cond.selects y2.cls y2 y2 ∈ jG) (hw : Cond.methodLink y.cls idx y2 ∈ jG) (hd : decode cc pc = .ok (.invokevirtual idx, 3)) (hst : st0 = as.reverse ++ .ref h :: st) (hh : jok μ h = true) (hsh : jsh μ h = (ci + 4, nn)) (hcl : (vwCl[ci]?).map (fun q => q.1) = some y2.cls) (hn : as.length = n) (hW : Nat.ble ((st.map fun v => v.category).sum) 8 = true) (hdd : Nat.blt d2 d = true) (h1 : Nat.ble μ.1 μ1.1 = true) (h2 : Nat.ble μ.2.1 μ1.2.1 = true) (h3 : Nat.ble μ1.1 μ'.1 = true) (h4 : Nat.ble μ1.2.1 μ'.2.1 = true) (hg2 : g = true ∨ μ1.1 = μ.1) (hs1 : st1 = rv2.toList ++ st) (k : J y cc nL rt d g rv μ' (pc + 3) lv st1 μ1) : J y cc nL rt d g rv μ' pc lv st0 μ := by
  subst hs1
  intro D cy ad bs A MC MS n0 w0 p l e s m args below meth c H locs cells slots ls F B hl
  obtain ⟨z0, zn, zlim⟩ := jok_spec hh
  obtain ⟨f1, f2, f3, f4, f5, f6, f7, f8, f9, f10, f11, f12, f13, f14⟩ := id F
  obtain ⟨hP, hS, hA, hg, q1, q2, q3, q4⟩ := id B
  obtain ⟨y1, y3, y4, y5⟩ := hY
  have hdd := Nat.le_of_ble_eq_true hdd
  have h1 := Nat.le_of_ble_eq_true h1
  have h2 := Nat.le_of_ble_eq_true h2
  have h3 := Nat.le_of_ble_eq_true h3
  have h4 := Nat.le_of_ble_eq_true h4
  have eR := jr_cell f11 z0 zlim
  have hg1 := jW_get (cy := cy) (ad := ad) (bs := bs) z0 zn
  rw [jcell_obj hsh] at hg1
  obtain ⟨q, hq⟩ : ∃ q, vwCl[ci]? = some q := by
    cases hq : vwCl[ci]? with
    | none => rw [hq] at hcl; cases hcl
    | some q => exact ⟨q, rfl⟩
  have hqc : q.1 = y2.cls := by rw [hq] at hcl; exact Option.some.inj hcl
  have hrec := va_recv f8 hP hq hg1
  rw [hqc] at hrec
  have eA : ((Value.ref h :: as).map (jv ad)) = Value.ref (bs + h) :: as.map (jv ad) := by
    show jr ad h :: _ = _
    rw [eR]
  have hpre := jPc_of (as := .ref h :: as) F B
  rw [eA] at hpre
  refine j_callOn F B hl (va_runV (As := as.map (jv ad)) (rest := st.map (jv ad)) (Ts := jG) (own := y.cls) (C := y2.cls) (b := bs + h) ⟨f1, f2, f3, f5, f6⟩ (hM l D cy ad bs H.size) (cwV n f6 (jG_in fun w hw2 => ?_) rfl rfl rfl ⟨rfl, y4⟩ ⟨?_, ?_⟩) ⟨jPc_blind, hrec, hpre⟩ rfl (by simp [hn]) hl.1 ?_ (lv_room (j_sumcat hW)) hd ⟨?_, ?_⟩) h1 h2 hg2 k
  · simp only [wsV, List.mem_append, List.mem_cons, List.not_mem_nil, or_false] at hw2
    rcases hw2 with (rfl | rfl | rfl | rfl) | rfl | hw2
    · exact hw
    · exact hin
    · exact hsel
    · exact y3
    · exact y1
    · exact hw2
  · exact hdd
  · show 8 + (nL2 + 11) + 41 * d2 ≤ 41 * d
    omega
  · show st0.map (jv ad) = _
    rw [hst, List.map_append, List.map_cons, List.map_reverse]
    show _ ++ jr ad h :: _ = _
    rw [eR]
  · show cells + (μ1.1 - μ.1) ≤ MC
    omega
  · show slots + (μ1.2.1 - μ.2.1) ≤ MS
    omega
theorem j_callN {y2 : MethodName} {cc2 : ByteArray} {nL2 : Nat}  {d2 n idx : Nat} {as st0 st1 : List Value} {rv2 : Option Value} {μ1 : jM} {h : Nat} (hM : Cn y2 cc2 nL2 none d2 g (.ref h :: as) μ rv2 μ1) (hY : jY y2 cc2 nL2 none n) (hin : Cond.instanceMethod y2 ∈ jG) (hin2 : y2.name = "<init>") (hw : Cond.methodLinkNest y.cls idx y2 "DeputyQuarrels" ∈ jnests) (hd : decode cc pc = .ok (.invokespecial idx, 3)) (hst : st0 = as.reverse ++ .ref h :: st) (hh : jok μ h = true) (hn : as.length = n) (hW : Nat.ble ((st.map fun v => v.category).sum) 8 = true) (hdd : Nat.blt d2 d = true) (h1 : Nat.ble μ.1 μ1.1 = true) (h2 : Nat.ble μ.2.1 μ1.2.1 = true) (h3 : Nat.ble μ1.1 μ'.1 = true) (h4 : Nat.ble μ1.2.1 μ'.2.1 = true) (hg2 : g = true ∨ μ1.1 = μ.1) (hs1 : st1 = rv2.toList ++ st) (k : J y cc nL rt d g rv μ' (pc + 3) lv st1 μ1) : J y cc nL rt d g rv μ' pc lv st0 μ := by
  subst hs1
  intro D cy ad bs A MC MS n0 w0 p l e s m args below meth c H locs cells slots ls F B hl
  obtain ⟨z0, zn, zlim⟩ := jok_spec hh
  obtain ⟨f1, f2, f3, f4, f5, f6, f7, f8, f9, f10, f11, f12, f13, f14⟩ := id F
  obtain ⟨hP, hS, hA, hg, q1, q2, q3, q4⟩ := id B
  obtain ⟨y1, y3, y4, y5⟩ := hY
  have hdd := Nat.le_of_ble_eq_true hdd
  have h1 := Nat.le_of_ble_eq_true h1
  have h2 := Nat.le_of_ble_eq_true h2
  have h3 := Nat.le_of_ble_eq_true h3
  have h4 := Nat.le_of_ble_eq_true h4
  have eR := jr_cell f11 z0 zlim
  have eA : ((Value.ref h :: as).map (jv ad)) = Value.ref (bs + h) :: as.map (jv ad) := by
    show jr ad h :: _ = _
    rw [eR]
  have hpre := jPc_of (as := .ref h :: as) F B
  rw [eA] at hpre
  refine j_callOn F B hl (va_runIN (As := as.map (jv ad)) (rest := st.map (jv ad)) (Ts := jG) (own := y.cls) (host := "DeputyQuarrels") (b := bs + h) ⟨f1, f2, f3, f5, f6⟩ (hM l D cy ad bs H.size) ⟨va_cnB n f6 (jG_in fun w hw2 => ?_) rfl rfl rfl (f12.1 _ hw) (f6 _ y3) y4 ⟨?_, ?_⟩, hin2, f6 _ hin⟩ ⟨jPc_blind, hpre⟩ rfl (by simp [hn]) hl.1 ?_ (lv_room (j_sumcat hW)) hd ⟨?_, ?_⟩) h1 h2 hg2 k
  · rcases List.mem_cons.mp hw2 with rfl | hw2
    · exact y1
    · exact hw2
  · exact hdd
  · show 8 + (nL2 + 11) + 41 * d2 ≤ 41 * d
    omega
  · show st0.map (jv ad) = _
    rw [hst, List.map_append, List.map_cons, List.map_reverse]
    show _ ++ jr ad h :: _ = _
    rw [eR]
  · show cells + (μ1.1 - μ.1) ≤ MC
    omega
  · show slots + (μ1.2.1 - μ.2.1) ≤ MS
    omega

theorem j_mmax {idx : Nat} {x z : Int32} (hw : Cond.methodLink y.cls idx Lib.Math.max.name ∈ jG) (hw2 : Cond.static Lib.Math.max.name ∈ jG) (hw3 : Cond.initialized "java/lang/Math" ∈ jG) (hw4 : Cond.code Lib.Math.max.name Lib.Math.max.code 2 (some .int) ∈ jG) (hd : decode cc pc = .ok (.invokestatic idx, 3)) (hW : Nat.ble ((st.map fun v => v.category).sum) 8 = true) (hdd : Nat.ble 1 d = true) (h3 : Nat.ble μ.1 μ'.1 = true) (h4 : Nat.ble μ.2.1 μ'.2.1 = true) (k : J y cc nL rt d g rv μ' (pc + 3) lv (.int (if x < z then z else x) :: st) μ) : J y cc nL rt d g rv μ' pc lv (.int z :: .int x :: st) μ := by
  intro D cy ad bs A MC MS n0 w0 p l e s m args below meth c H locs cells slots ls F B hl
  obtain ⟨f1, f2, f3, f4, f5, f6, f7, f8, f9, f10, f11, f12, f13, f14⟩ := id F
  obtain ⟨hP, hS, hA, hg, q1, q2, q3, q4⟩ := id B
  have hdd := Nat.le_of_ble_eq_true hdd
  have h3 := Nat.le_of_ble_eq_true h3
  have h4 := Nat.le_of_ble_eq_true h4
  have hW2 := j_sumcat (ad := ad) hW
  exact va_mmax f1 f2 (f3.trans hl.1.symm) f5 (f6 _ hw) (f6 _ hw2) (f6 _ hw3) (f6 _ hw4) hdd (by show _ + 13 ≤ 41 * d; omega) (by show cells ≤ MC; omega) (by show slots ≤ MS; omega) hd (k D cy ad bs A MC MS n0 w0 p l e s m args below meth c H locs cells slots ls F B hl)
theorem j_mmin {idx : Nat} {x z : Int32} (hw : Cond.methodLink y.cls idx Lib.Math.min.name ∈ jG) (hw2 : Cond.static Lib.Math.min.name ∈ jG) (hw3 : Cond.initialized "java/lang/Math" ∈ jG) (hw4 : Cond.code Lib.Math.min.name Lib.Math.min.code 2 (some .int) ∈ jG) (hd : decode cc pc = .ok (.invokestatic idx, 3)) (hW : Nat.ble ((st.map fun v => v.category).sum) 8 = true) (hdd : Nat.ble 1 d = true) (h3 : Nat.ble μ.1 μ'.1 = true) (h4 : Nat.ble μ.2.1 μ'.2.1 = true) (k : J y cc nL rt d g rv μ' (pc + 3) lv (.int (if z < x then z else x) :: st) μ) : J y cc nL rt d g rv μ' pc lv (.int z :: .int x :: st) μ := by
  intro D cy ad bs A MC MS n0 w0 p l e s m args below meth c H locs cells slots ls F B hl
  obtain ⟨f1, f2, f3, f4, f5, f6, f7, f8, f9, f10, f11, f12, f13, f14⟩ := id F
  obtain ⟨hP, hS, hA, hg, q1, q2, q3, q4⟩ := id B
  have hdd := Nat.le_of_ble_eq_true hdd
  have h3 := Nat.le_of_ble_eq_true h3
  have h4 := Nat.le_of_ble_eq_true h4
  have hW2 := j_sumcat (ad := ad) hW
  exact va_mmin f1 f2 (f3.trans hl.1.symm) f5 (f6 _ hw) (f6 _ hw2) (f6 _ hw3) (f6 _ hw4) hdd (by show _ + 13 ≤ 41 * d; omega) (by show cells ≤ MC; omega) (by show slots ≤ MS; omega) hd (k D cy ad bs A MC MS n0 w0 p l e s m args below meth c H locs cells slots ls F B hl)
end JROWS
