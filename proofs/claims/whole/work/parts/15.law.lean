
theorem jnf_le (ci : Nat) : jnf ci ≤ 71 := by
  by_cases h : ci < 11
  · exact (by decide : ∀ ci, ci < 11 → jnf ci ≤ 71) ci h
  · unfold jnf
    rw [List.getD_eq_getElem?_getD, List.getElem?_eq_none (by simp; omega)]
    decide
theorem jcell_P {cy : Nat → ClassId} {ad : Nat → Nat} {μ μ2 : jM} {h : Nat} (h2 : jsh μ h = jsh μ2 h) (h3 : jI μ h = jI μ2 h) (h4 : jL μ h = jL μ2 h) (h5 : ∀ j, j < 71 → jP μ h j = jP μ2 h j) (h6 : (jsh μ h).1 = 3 → jP μ h = jP μ2 h) : jcell cy ad μ h = jcell cy ad μ2 h := by
  unfold jcell
  rw [← h2, ← h3, ← h4]
  match hq : jsh μ h with
  | (0, n) => rfl
  | (1, n) => rfl
  | (2, n) => rfl
  | (3, n) => rw [h6 (by rw [hq])]
  | (k + 4, n) =>
    have e : (List.range (jnf k)).map (jfv ad μ k h) = (List.range (jnf k)).map (jfv ad μ2 k h) := by
      apply List.map_congr_left
      intro j hj
      have hj : j < jnf k := List.mem_range.mp hj
      unfold jfv
      rw [h3, h4, h5 j (Nat.lt_of_lt_of_le hj (jnf_le k))]
    simp only [e]
theorem jW_P {cy : Nat → ClassId} {ad : Nat → Nat} {bs : Nat} {μ μ2 : jM} (h1 : μ.1 = μ2.1) (h : ∀ k, k < μ.1 → jcell cy ad μ (k + 1) = jcell cy ad μ2 (k + 1)) : jW cy ad bs μ = jW cy ad bs μ2 := by
  unfold jW
  rw [← h1]
  apply List.map_congr_left
  intro i hi
  rw [h i (List.mem_range.mp hi)]
def lw_X0 : jS := (kXI3, kL, 51, 61)
def lw_M0 : jS := (kMI3, kL, 0, 0)
theorem lw_XP : ∀ k, k < 70 → ∀ j, j < 71 → kXP69 (k + 1) j = PX 51 61 (k + 1) j := by decide +kernel
theorem lw_MP : ∀ k, k < 41 → ∀ j, j < 71 → kMP40 (k + 1) j = rPM (k + 1) j := by decide +kernel
theorem lw_X36 : kXP69 36 = PX 51 61 36 := by
  funext i
  match i with
  | 0 => rfl
  | 1 => rfl
  | i + 2 => rfl
theorem lw_kind3X : ∀ k, k < 70 → (SHX (k + 1)).1 = 3 → k + 1 = 36 := by decide +kernel
theorem lw_kind3M : ∀ k, k < 41 → (SHM (k + 1)).1 ≠ 3 := by decide +kernel
theorem lw_WX {cy : Nat → ClassId} {ad : Nat → Nat} {bs : Nat} : jW cy ad bs (kX 70 28368 kXI3 kXP69) = jW cy ad bs (eX lw_X0) := by
  refine jW_P rfl (fun k hk => jcell_P rfl rfl rfl (lw_XP k hk) (fun h => ?_))
  have e := lw_kind3X k hk h
  rw [e]
  exact lw_X36
theorem lw_WM {cy : Nat → ClassId} {ad : Nat → Nat} {bs : Nat} : jW cy ad bs (kM 41 2967097 kMI3 kMP40) = jW cy ad bs (eM lw_M0) := by
  exact jW_P rfl (fun k hk => jcell_P rfl rfl rfl (lw_MP k hk) (fun h => absurd h (lw_kind3M k hk)))
def R_law : String := "DeputyQuarrelsLaw"
def lw_P (b : Addr) (xs : List Int32) (args : Array Value) (s : State) : Prop := args = #[.ref b] ∧ s.IntsAt b xs ∧ xs.length ≤ 2048 ∧ (Jvm.Cond.and given_1 narrow_1).before args s = true
def lw_Q (_ : Array Value) (s : State) (o : Outcome) (t : State) : Prop := o = .returned (some (.int 1)) ∧ Framed s o t [] 600000 7302250
def lw_Z (below : List Frame) (a : Array Value) (s : State) : State → Prop := fun t => ∃ o, t.status = .running ∧ Ended t below o ∧ lw_Q a s o t
/-- the law's own end, with 1 on the stack, nothing written that was there before, its room as the claim has it -/
theorem lw_ret {p : Program} {l : Launch} {e : Env} {s : State} {m : MethodId} {below : List Frame} {meth : Method} {c : Code} {b : Nat} (hx : p.tables.exec = Jvm.exec) (hb : c.code = code) (hr : meth.sig.returnType = ret) (hlocks : meth.locks = false) {pc : Nat} {H : Heap} {ls : Array Slot} (hdg : decode code pc = .ok (.ireturn, 1)) : W p l e room_1 s m #[Value.ref b] below meth c H [] 600000 7302250 (lw_Z below #[Value.ref b] s) (F0 m pc ls [.int 1]) := by
  intro T hT X
  obtain ⟨fs, hret, hrun, hended, hW, hframe⟩ := X.leave (v := some (.int 1)) (hlocks := hlocks) (fun h => by rw [hr] at h; cases h)
  have hmeth' : T.vm.method? m = some meth := X.method'
  refine ⟨T.setFrames fs, ?_, .returned (some (.int 1)), hrun, hended, rfl, ⟨_, rfl⟩, hW, hframe⟩
  jvm_step X.here [X.here.top, hx, hb, hdg, hmeth', hr, ret, narrow_b1]
  (try refine ⟨rfl, ?_⟩); (try refine ⟨rfl, ?_⟩)
  first | (intro acts; rw [hret _ acts rfl rfl rfl]) | rw [hret _ _ rfl rfl rfl]
  exact Steps.refl _
/-- what holds at the law's entry: the machine, the code, the tables' words (any of lw_tbl by 'hts w (by decide +kernel)'), the script of L ints xs at the cell b, what the Statement gives of the start (any of its parts by flat_of_before) -/
def lw_At (p : Program) (s : State) (m : MethodId) (meth : Method) (c : Code) (b L : Nat) (xs : Nat → Int32) : Prop :=
  p.tables.exec = Jvm.exec ∧ c.code = code ∧ meth.sig.returnType = ret ∧ c.maxLocals = 4 ∧ s.vm.findClass R_law = some m.cls ∧ (∀ w ∈ lw_tbl, w.before #[Value.ref b] s = true) ∧ va_X b L xs s s.heap ∧ b < s.heap.size ∧ meth.locks = false ∧ (Jvm.Cond.and given_1 narrow_1).before #[Value.ref b] s = true
/-- the law's frame with its two systems -/
def lw_E (p : Program) (s : State) (m : MethodId) (meth : Method) (c : Code) (b L : Nat) (xs : Nat → Int32) (D : va_G) (cy : Nat → ClassId) (adX adM : Nat → Nat) (bX : Nat) : Prop :=
  lw_At p s m meth c b L xs ∧ bX + 1 = s.heap.size ∧ va_K D vwCl (jtys cy) s ∧ jE adX bX s s.heap ∧ jE adM (bX + 70) s s.heap ∧ (∀ h, h < jlim → adX h = bX + h) ∧ (∀ h, h < jlim → adM h = bX + 70 + h)
section LWC
variable {p : Program} {l : Launch} {e : Env} {s : State} {m : MethodId} {below : List Frame} {meth : Method} {c : Code} {b L : Nat} {xs : Nat → Int32} {D : va_G} {cy : Nat → ClassId} {adX adM : Nat → Nat} {bX : Nat} {H : Heap} {locs : List Loc} {cells slots : Nat} {Q : State → Prop} {pc : Nat} {ls : Array Slot} {σ τ : jS}
theorem lwr1 {d2 a b : Nat} (h : d2 ≤ 40) : (jR d2 a b).frames + 1 ≤ room_1.frames := by
  have e : room_1.frames = 2048 := rfl
  have e2 : (jR d2 a b).frames = d2 := rfl
  rw [e, e2]
  omega
theorem lwr2 {d2 a b nL2 : Nat} (h : nL2 ≤ 22) (h2 : d2 ≤ 40) : 8 + (nL2 + 11) + (jR d2 a b).locals ≤ room_1.locals := by
  have e : room_1.locals = 84000 := rfl
  have e2 : (jR d2 a b).locals = 41 * d2 := rfl
  rw [e, e2]
  omega
theorem lwr3 {cells a : Nat} (h : cells ≤ 600000) : cells + (a - a) ≤ room_1.cells := by
  have e : room_1.cells = 600000 := rfl
  rw [e, Nat.sub_self]
  exact h
theorem lwr4 {slots a : Nat} (h : slots ≤ 7302250) : slots + (a - a) ≤ room_1.slots := by
  have e : room_1.slots = 7302250 := rfl
  rw [e, Nat.sub_self]
  exact h
theorem lw_hts (E0 : lw_E p s m meth c b L xs D cy adX adM bX) : ∀ w ∈ jG, w.before #[Value.ref b] s = true := fun w hw => E0.1.2.2.2.2.2.1 w (jG_sub w hw)
theorem lw_callX {y2 : MethodName} {cc2 : ByteArray} {nL2 : Nat} {rt2 : Option FieldType} {d2 n idx : Nat} {as st st0 : List Value} {r : Int32} {σ1 : jS} (E0 : lw_E p s m meth c b L xs D cy adX adM bX) (hPX : va_P D vwCl (jW cy adX bX (eX σ)) H) (hPM : va_P D vwCl (jW cy adM (bX + 70) (eM τ)) H) (hS : va_S (fun q : Nat => s.heap.size ≤ q) s.heap H locs) (hls : ls.size = 4)
    (hM : Cn y2 cc2 nL2 rt2 d2 false (.ref 1 :: as) (eX σ) (some (.int r)) (eX σ1)) (hY : jY y2 cc2 nL2 rt2 n) (hcl : y2.cls = RX10) (hin : Cond.instanceMethod y2 ∈ jG) (hsel : Cond.selects y2.cls y2 y2 ∈ jG) (hw : Cond.methodLink RL idx y2 ∈ jG) (hd : decode code pc = .ok (.invokevirtual idx, 3)) (hst : st0 = (as.map (jv adX)).reverse ++ .ref (bX + 1) :: st) (hn : as.length = n) (hW : (st.map fun v => v.category).sum ≤ 8) (hd2 : d2 ≤ 40) (hc : cells ≤ 600000) (hsl : slots ≤ 7302250)
    (kk : ∀ (H1 : Heap) (locs1 : List Loc), va_P D vwCl (jW cy adX bX (eX σ1)) H1 → va_P D vwCl (jW cy adM (bX + 70) (eM τ)) H1 → va_S (fun q : Nat => s.heap.size ≤ q) s.heap H1 locs1 → W p l e room_1 s m #[Value.ref b] below meth c H1 locs1 cells slots Q (F0 m (pc + 3) ls (.int r :: st))) : W p l e room_1 s m #[Value.ref b] below meth c H locs cells slots Q (F0 m pc ls st0) := by
  obtain ⟨A0, hbX, hK, hEX, hEM, hadX, hadM⟩ := id E0
  obtain ⟨hx, hb, hr, hml, hown, hts, hX, hbl, hlocks, hgv⟩ := id A0
  obtain ⟨y1, y3, y4, y5⟩ := hY
  have hg1 := jW_get (cy := cy) (ad := adX) (bs := bX) (μ := eX σ) (h := 1) (by decide) (Nat.le_of_ble_eq_true rfl)
  rw [jcell_obj (ci := 9) rfl] at hg1
  have hrec := va_recv (q := (RX10, TX10, 10)) hK hPX rfl hg1
  have eA : ((Value.ref 1 :: as).map (jv adX)) = Value.ref (bX + 1) :: as.map (jv adX) := by
    show jr adX 1 :: _ = _
    rw [jr_cell hadX (by decide) (by decide)]
  have low : ∀ a : Nat, a < s.heap.size → H[a]? = s.heap[a]? := fun a ha => hS.2.1 a ha (Nat.not_le.mpr ha)
  have hpre : ∀ U : State, U.heap = H → s.WarmedH U.vm → jPc D cy adX bX false H.size (.ref 1 :: as) (eX σ) (Value.ref (bX + 1) :: as.map (jv adX)).toArray U := by
    intro U hU hWm
    refine ⟨by rw [eA], by rw [hU], by rw [hU]; exact hPX, va_K.moved hWm.alike hK, (fun q => by cases q), (by have := hS.1; omega), hadX, jE_moved hWm (fun a h1 h2 => ?_) hEX⟩
    rw [hU]
    exact low a h1
  have hrun := va_runV (p := p) (l := l) (e := e) (R := room_1) (s := s) (m := m) (args := #[Value.ref b]) (below := below) (meth := meth) (c := c) (H := H) (locs := locs) (cells := cells) (slots := slots) (g := F0 m pc ls st0) (As := as.map (jv adX)) (rest := st) (Ts := jG) (own := RL) (C := y2.cls) (b := bX + 1) (index := idx) ⟨hx, hb, hml, hown, lw_hts E0⟩ (hM l D cy adX bX H.size) (cwV n (lw_hts E0) (jG_in fun w hw2 => by
    simp only [wsV, List.mem_append, List.mem_cons, List.not_mem_nil, or_false] at hw2
    rcases hw2 with (rfl | rfl | rfl | rfl) | rfl | hw2
    · exact hw
    · exact hin
    · exact hsel
    · exact y3
    · exact y1
    · exact hw2) rfl rfl rfl ⟨rfl, y4⟩ ⟨lwr1 hd2, lwr2 y5 hd2⟩) ⟨jPc_blind, by rw [hcl]; exact hrec, hpre⟩ rfl (by simp [hn]) hls hst (lv_room hW) hd ⟨lwr3 hc, lwr4 hsl⟩
  intro T hT X
  obtain ⟨v, st₀, t, T', LL, e0, X', hL, e1, e2, ⟨hv, hP1, hg2, hz, hk⟩, stp⟩ := hrun T hT X
  injection hv with hv
  subst hv
  rw [e0] at hz hk
  have z1 : cells + ((eX σ1).1 - (eX σ).1) = cells := by rw [show (eX σ1).1 = (eX σ).1 from rfl, Nat.sub_self]; rfl
  have z2 : slots + ((eX σ1).2.1 - (eX σ).2.1) = slots := by rw [show (eX σ1).2.1 = (eX σ).2.1 from rfl, Nat.sub_self]; rfl
  rw [z1, z2] at X'
  have hfree : ∀ q, jA bX (eX σ).1 H.size q → s.heap.size ≤ q := by
    intro q hq
    rcases hq with hq | hq
    · omega
    · exact Nat.le_trans hS.1 hq
  have hsz : T'.heap.size ≥ H.size := by rw [e1]; exact hz
  obtain ⟨t2, a1, b1⟩ := kk T'.heap (locs ++ LL) (by rw [e1]; exact hP1) (hPM.kept (fun k q hq => by
      have hlt := (hPM k q hq).lt
      have hq1 : q.1 = bX + 70 + (k + 1) := by
        simp only [jW, List.getElem?_map] at hq
        by_cases hkk : k < (eM τ).1
        · rw [List.getElem?_range hkk] at hq
          simp at hq
          rw [← hq]
        · rw [List.getElem?_eq_none (by simp; omega)] at hq
          cases hq
      rw [e1]
      refine hk q.1 hlt (fun z => ?_)
      rcases z with z | z
      · have : (eX σ).1 = 70 := rfl
        omega
      · omega)) ⟨Nat.le_trans hS.1 hsz, fun q i1 i2 => by rw [e1, hk q (Nat.lt_of_lt_of_le i1 hS.1) (fun z => i2 (hfree q z))]; exact hS.2.1 q i1 i2, fun q hq => by
      rcases List.mem_append.mp hq with i | i
      · exact hS.2.2 q i
      · exact hfree _ (hL q i)⟩ T' rfl X'
  exact ⟨t2, stp t2 a1, b1⟩
theorem lw_callM {y2 : MethodName} {cc2 : ByteArray} {nL2 : Nat} {rt2 : Option FieldType} {d2 n idx : Nat} {as st st0 : List Value} {r : Int32} {τ1 : jS} (E0 : lw_E p s m meth c b L xs D cy adX adM bX) (hPX : va_P D vwCl (jW cy adX bX (eX σ)) H) (hPM : va_P D vwCl (jW cy adM (bX + 70) (eM τ)) H) (hS : va_S (fun q : Nat => s.heap.size ≤ q) s.heap H locs) (hls : ls.size = 4)
    (hM : Cn y2 cc2 nL2 rt2 d2 false (.ref 1 :: as) (eM τ) (some (.int r)) (eM τ1)) (hY : jY y2 cc2 nL2 rt2 n) (hcl : y2.cls = RX11) (hin : Cond.instanceMethod y2 ∈ jG) (hsel : Cond.selects y2.cls y2 y2 ∈ jG) (hw : Cond.methodLink RL idx y2 ∈ jG) (hd : decode code pc = .ok (.invokevirtual idx, 3)) (hst : st0 = (as.map (jv adM)).reverse ++ .ref (bX + 71) :: st) (hn : as.length = n) (hW : (st.map fun v => v.category).sum ≤ 8) (hd2 : d2 ≤ 40) (hc : cells ≤ 600000) (hsl : slots ≤ 7302250)
    (kk : ∀ (H1 : Heap) (locs1 : List Loc), va_P D vwCl (jW cy adX bX (eX σ)) H1 → va_P D vwCl (jW cy adM (bX + 70) (eM τ1)) H1 → va_S (fun q : Nat => s.heap.size ≤ q) s.heap H1 locs1 → W p l e room_1 s m #[Value.ref b] below meth c H1 locs1 cells slots Q (F0 m (pc + 3) ls (.int r :: st))) : W p l e room_1 s m #[Value.ref b] below meth c H locs cells slots Q (F0 m pc ls st0) := by
  obtain ⟨A0, hbX, hK, hEX, hEM, hadX, hadM⟩ := id E0
  obtain ⟨hx, hb, hr, hml, hown, hts, hX, hbl, hlocks, hgv⟩ := id A0
  obtain ⟨y1, y3, y4, y5⟩ := hY
  have hg1 := jW_get (cy := cy) (ad := adM) (bs := bX + 70) (μ := eM τ) (h := 1) (by decide) (Nat.le_of_ble_eq_true rfl)
  rw [jcell_obj (ci := 10) rfl] at hg1
  have hrec := va_recv (q := (RX11, TX11, 71)) hK hPM rfl hg1
  have eA : ((Value.ref 1 :: as).map (jv adM)) = Value.ref (bX + 71) :: as.map (jv adM) := by
    show jr adM 1 :: _ = _
    rw [jr_cell hadM (by decide) (by decide)]
  have low : ∀ a : Nat, a < s.heap.size → H[a]? = s.heap[a]? := fun a ha => hS.2.1 a ha (Nat.not_le.mpr ha)
  have hszM : bX + 70 < H.size := by
    have h5 : bX + 70 + 1 < H.size := (hPM _ _ hg1).lt
    omega
  have hpre : ∀ U : State, U.heap = H → s.WarmedH U.vm → jPc D cy adM (bX + 70) false H.size (.ref 1 :: as) (eM τ) (Value.ref (bX + 71) :: as.map (jv adM)).toArray U := by
    intro U hU hWm
    refine ⟨by rw [eA], by rw [hU], by rw [hU]; exact hPM, va_K.moved hWm.alike hK, (fun q => by cases q), hszM, hadM, jE_moved hWm (fun a h1 h2 => ?_) hEM⟩
    rw [hU]
    exact low a h1
  have hrun := va_runV (p := p) (l := l) (e := e) (R := room_1) (s := s) (m := m) (args := #[Value.ref b]) (below := below) (meth := meth) (c := c) (H := H) (locs := locs) (cells := cells) (slots := slots) (g := F0 m pc ls st0) (As := as.map (jv adM)) (rest := st) (Ts := jG) (own := RL) (C := y2.cls) (b := bX + 71) (index := idx) ⟨hx, hb, hml, hown, lw_hts E0⟩ (hM l D cy adM (bX + 70) H.size) (cwV n (lw_hts E0) (jG_in fun w hw2 => by
    simp only [wsV, List.mem_append, List.mem_cons, List.not_mem_nil, or_false] at hw2
    rcases hw2 with (rfl | rfl | rfl | rfl) | rfl | hw2
    · exact hw
    · exact hin
    · exact hsel
    · exact y3
    · exact y1
    · exact hw2) rfl rfl rfl ⟨rfl, y4⟩ ⟨lwr1 hd2, lwr2 y5 hd2⟩) ⟨jPc_blind, by rw [hcl]; exact hrec, hpre⟩ rfl (by simp [hn]) hls hst (lv_room hW) hd ⟨lwr3 hc, lwr4 hsl⟩
  intro T hT X
  obtain ⟨v, st₀, t, T', LL, e0, X', hL, e1, e2, ⟨hv, hP1, hg2, hz, hk⟩, stp⟩ := hrun T hT X
  injection hv with hv
  subst hv
  rw [e0] at hz hk
  have z1 : cells + ((eM τ1).1 - (eM τ).1) = cells := by rw [show (eM τ1).1 = (eM τ).1 from rfl, Nat.sub_self]; rfl
  have z2 : slots + ((eM τ1).2.1 - (eM τ).2.1) = slots := by rw [show (eM τ1).2.1 = (eM τ).2.1 from rfl, Nat.sub_self]; rfl
  rw [z1, z2] at X'
  have hfree : ∀ q, jA (bX + 70) (eM τ).1 H.size q → s.heap.size ≤ q := by
    intro q hq
    rcases hq with hq | hq
    · omega
    · exact Nat.le_trans hS.1 hq
  have hsz : T'.heap.size ≥ H.size := by rw [e1]; exact hz
  obtain ⟨t2, a1, b1⟩ := kk T'.heap (locs ++ LL) (hPX.kept (fun k q hq => by
      have hlt := (hPX k q hq).lt
      have hq1 : q.1 = bX + (k + 1) ∧ k < 70 := by
        simp only [jW, List.getElem?_map] at hq
        by_cases hkk : k < (eX σ).1
        · rw [List.getElem?_range hkk] at hq
          simp at hq
          exact ⟨by rw [← hq], hkk⟩
        · rw [List.getElem?_eq_none (by simp; omega)] at hq
          cases hq
      rw [e1]
      refine hk q.1 hlt (fun z => ?_)
      rcases z with z | z
      · omega
      · omega)) (by rw [e1]; exact hP1) ⟨Nat.le_trans hS.1 hsz, fun q i1 i2 => by rw [e1, hk q (Nat.lt_of_lt_of_le i1 hS.1) (fun z => i2 (hfree q z))]; exact hS.2.1 q i1 i2, fun q hq => by
      rcases List.mem_append.mp hq with i | i
      · exact hS.2.2 q i
      · exact hfree _ (hL q i)⟩ T' rfl X'
  exact ⟨t2, stp t2 a1, b1⟩
end LWC
theorem lw_sub4 {L : Nat} (h : 4 ≤ L) : Int32.ofNat L - 4 = nI (L - 4) := by
  have e : nI (L - 4) + 4 = Int32.ofNat L := by
    rw [show nI (L - 4) + 4 = nI (L - 4 + 4) from nI_add _ 4, show L - 4 + 4 = L by omega]
    rfl
  rw [← e]
  simp
set_option maxRecDepth 20000 in
/-- the loop's end -/
theorem lw_out {p : Program} {l : Launch} {e : Env} {s : State} {m : MethodId} {below : List Frame} {meth : Method} {c : Code} {b L : Nat} {xs : Nat → Int32} {D : va_G} {cy : Nat → ClassId} {adX adM : Nat → Nat} {bX k : Nat} {x3 : Int32} {H : Heap} {locs : List Loc} {ls : Array Slot} {z1 z2 : Nat} (hL : L ≤ 2048) (E0 : lw_E p s m meth c b L xs D cy adX adM bX) (hk : L < k + 4) (ex3 : x3 = nI k) (hk4 : k ≤ L + 4) (hS : va_S (fun q : Nat => s.heap.size ≤ q) s.heap H locs) (hl : lv_has ls 4 [(0, .ref b), (1, .ref z1), (2, .ref z2), (3, .int x3)]) : W p l e room_1 s m #[Value.ref b] below meth c H locs 111 2995465 (lw_Z below #[Value.ref b] s) (F0 m 18 ls []) := by
  obtain ⟨A0, hbX, hK, hEX, hEM, hadX, hadM⟩ := id E0
  obtain ⟨hx, hb, hr, hml, hown, hts, hX, hbl, hlocks, hgv⟩ := id A0
  have hbA : ¬ (fun q : Nat => s.heap.size ≤ q) b := Nat.not_le.mpr hbl
  have q4 : Int32.ofNat L - 4 < x3 := by
    rw [Int32.lt_iff_toInt_lt, Int32.toInt_sub, ex3, nI_toInt (by omega), show (Int32.ofNat L).toInt = (L : Int) from nI_toInt (by omega), show ((4 : Int32)).toInt = 4 from rfl]
    have : ((L : Int) - 4).bmod (2 ^ 32) = (L : Int) - 4 := by
      rw [Int.bmod_def]
      omega
    rw [this]
    omega
  refine lv_iload_n hx hb dL_law_18 rfl (lv_at hl 3 rfl) ?_
  refine lv_aload_n hx hb dL_law_19 rfl (lv_at hl 0 rfl) ?_
  refine va_slen hx hb hX hbl hbA hS dL_law_20 ?_
  refine lv_iconst (v := 4) hx hb dL_law_21 (by decide) ?_
  refine lv_isub hx hb dL_law_22 ?_
  refine lv_icmp_gt (tgt := 1113) hx hb dL_law_23 (by decide) (fun _ => ?_) (fun h => absurd q4 h)
  refine lv_iconst (v := 1) hx hb dL_law_1113 (by decide) ?_
  refine va_forget (fun q hq => hS.2.2 q hq) ?_
  refine W.widen (k := 600000) (n := 7302250) (by decide) (by decide) ?_
  exact lw_ret hx hb hr hlocks dL_law_1114
set_option maxHeartbeats 8000000 in
set_option maxRecDepth 100000 in
theorem law_loop (Rel : Nat → jS → jS → Prop) (h_mono : ∀ (k : Nat) (σ τ : jS), Rel k σ τ → Rel (k + 4) σ τ)
    (h_feed : ∀ (k : Nat) (σ τ : jS) (a1 : Int32) (a2 : Int64), k < 2048 → Rel k σ τ → ∃ r σ2 τ2, f_X10_feed σ a1 a2 = some (r, σ2) ∧ f_X11_feed τ a1 a2 = some (r, τ2) ∧ Rel (k + 4) σ2 τ2)
    (h_town : ∀ (k : Nat) (σ τ : jS), k < 2048 → Rel k σ τ → ∃ r σ2 τ2, f_X10_town σ  = some (r, σ2) ∧ f_X11_town τ  = some (r, τ2) ∧ Rel (k + 4) σ2 τ2)
    (h_fault : ∀ (k : Nat) (σ τ : jS), k < 2048 → Rel k σ τ → ∃ r, f_X10_fault σ  = some r ∧ f_X11_fault τ  = some r)
    (h_count : ∀ (k : Nat) (σ τ : jS) (a1 : Int32), k < 2048 → Rel k σ τ → ∃ r, f_X10_count σ a1 = some r ∧ f_X11_count τ a1 = some r)
    (h_person : ∀ (k : Nat) (σ τ : jS) (a1 : Int32) (a2 : Int32), k < 2048 → Rel k σ τ → ∃ r, f_X10_person σ a1 a2 = some r ∧ f_X11_person τ a1 a2 = some r)
    (h_turn : ∀ (k : Nat) (σ τ : jS) (a1 : Int32) (a2 : Int32), k < 2048 → Rel k σ τ → ∃ r, f_X10_turn σ a1 a2 = some r ∧ f_X11_turn τ a1 a2 = some r)
    (h_grudge : ∀ (k : Nat) (σ τ : jS) (a1 : Int32), k < 2048 → Rel k σ τ → ∃ r, f_X10_grudge σ a1 = some r ∧ f_X11_grudge τ a1 = some r)
    (h_law : ∀ (k : Nat) (σ τ : jS) (a1 : Int32) (a2 : Int32), k < 2048 → Rel k σ τ → ∃ r σ2 τ2, f_X10_law σ a1 a2 = some (r, σ2) ∧ f_X11_law τ a1 a2 = some (r, τ2) ∧ Rel (k + 4) σ2 τ2)
    (h_bear : ∀ (k : Nat) (σ τ : jS) (a1 : Int32) (a2 : Int32) (a3 : Int32), k < 2048 → Rel k σ τ → (a3 = 0 ∨ a3 = 1) → ∃ r σ2 τ2, f_X10_bear σ a1 a2 a3 = some (r, σ2) ∧ f_X11_bear τ a1 a2 a3 = some (r, τ2) ∧ Rel (k + 4) σ2 τ2)
    (h_quarrel : ∀ (k : Nat) (σ τ : jS) (a1 : Int32) (a2 : Int32), k < 2048 → Rel k σ τ → ∃ r, f_X10_quarrel σ a1 a2 = some r ∧ f_X11_quarrel τ a1 a2 = some r)
    (h_may : ∀ (k : Nat) (σ τ : jS) (a1 : Int32), k < 2048 → Rel k σ τ → ∃ r, f_X10_may σ a1 = some r ∧ f_X11_may τ a1 = some r)
    (h_hand : ∀ (k : Nat) (σ τ : jS) (a1 : Int32) (a2 : Int32), k < 2048 → Rel k σ τ → ∃ r σ2 τ2, f_X10_hand σ a1 a2 = some (r, σ2) ∧ f_X11_hand τ a1 a2 = some (r, τ2) ∧ Rel (k + 4) σ2 τ2)
    (h_begin : ∀ (k : Nat) (σ τ : jS) (a1 : Int32), k < 2048 → Rel k σ τ → ∃ r σ2 τ2, f_X10_begin σ a1 = some (r, σ2) ∧ f_X11_begin τ a1 = some (r, τ2) ∧ Rel (k + 4) σ2 τ2)
    (h_drift : ∀ (k : Nat) (σ τ : jS) (a1 : Int32) (a2 : Int32), k < 2048 → Rel k σ τ → ∃ r σ2 τ2, f_X10_drift σ a1 a2 = some (r, σ2) ∧ f_X11_drift τ a1 a2 = some (r, τ2) ∧ Rel (k + 4) σ2 τ2)
    (h_comes : ∀ (k : Nat) (σ τ : jS) (a1 : Int32) (a2 : Int32), k < 2048 → Rel k σ τ → ∃ r σ2 τ2, f_X10_comes σ a1 a2 = some (r, σ2) ∧ f_X11_comes τ a1 a2 = some (r, τ2) ∧ Rel (k + 4) σ2 τ2)
    (h_end : ∀ (k : Nat) (σ τ : jS) (a1 : Int32) (a2 : Int32), k < 2048 → Rel k σ τ → ∃ r σ2 τ2, f_X10_end σ a1 a2 = some (r, σ2) ∧ f_X11_end τ a1 a2 = some (r, τ2) ∧ Rel (k + 4) σ2 τ2)
    (h_forces : ∀ (k : Nat) (σ τ : jS) (a1 : Int32) (a2 : Int32), k < 2048 → Rel k σ τ → ∃ r σ2 τ2, f_X10_forces σ a1 a2 = some (r, σ2) ∧ f_X11_forces τ a1 a2 = some (r, τ2) ∧ Rel (k + 4) σ2 τ2)
    (h_best : ∀ (k : Nat) (σ τ : jS) (a1 : Int32) (a2 : Int32), k < 2048 → Rel k σ τ → ∃ r σ2 τ2, f_X10_best σ a1 a2 = some (r, σ2) ∧ f_X11_best τ a1 a2 = some (r, τ2) ∧ Rel (k + 4) σ2 τ2)
    (h_sure : ∀ (k : Nat) (σ τ : jS) (a1 : Int32), k < 2048 → Rel k σ τ → ∃ r σ2 τ2, f_X10_sure σ a1 = some (r, σ2) ∧ f_X11_sure τ a1 = some (r, τ2) ∧ Rel (k + 4) σ2 τ2)
    (h_aside : ∀ (k : Nat) (σ τ : jS) (a1 : Int32) (a2 : Int32), k < 2048 → Rel k σ τ → ∃ r σ2 τ2, f_X10_aside σ a1 a2 = some (r, σ2) ∧ f_X11_aside τ a1 a2 = some (r, τ2) ∧ Rel (k + 4) σ2 τ2)
    (h_fresh : ∀ (k : Nat) (σ τ : jS) (a1 : Int32) (a2 : Int32) (a3 : Int32), k < 2048 → Rel k σ τ → ∃ r σ2 τ2, f_X10_fresh σ a1 a2 a3 = some (r, σ2) ∧ f_X11_fresh τ a1 a2 a3 = some (r, τ2) ∧ Rel (k + 4) σ2 τ2)
    (h_most : ∀ (k : Nat) (σ τ : jS) (a1 : Int32), k < 2048 → Rel k σ τ → ∃ r σ2 τ2, f_X10_most σ a1 = some (r, σ2) ∧ f_X11_most τ a1 = some (r, τ2) ∧ Rel (k + 4) σ2 τ2)
    (h_worth : ∀ (k : Nat) (σ τ : jS) (a1 : Int32), k < 2048 → Rel k σ τ → ∃ r σ2 τ2, f_X10_worth σ a1 = some (r, σ2) ∧ f_X11_worth τ a1 = some (r, τ2) ∧ Rel (k + 4) σ2 τ2)
    (h_log : ∀ (k : Nat) (σ τ : jS) (a1 : Int32) (a2 : Int32), k < 2048 → Rel k σ τ → ∃ r σ2 τ2, f_X10_log σ a1 a2 = some (r, σ2) ∧ f_X11_log τ a1 a2 = some (r, τ2) ∧ Rel (k + 4) σ2 τ2)
    (h_clear : ∀ (k : Nat) (σ τ : jS), k < 2048 → Rel k σ τ → ∃ r σ2 τ2, f_X10_clear σ  = some (r, σ2) ∧ f_X11_clear τ  = some (r, τ2) ∧ Rel (k + 4) σ2 τ2)
    (h_judge : ∀ (k : Nat) (σ τ : jS) (a1 : Int32), k < 2048 → Rel k σ τ → ∃ r, f_X10_judge σ a1 = some r ∧ f_X11_judge τ a1 = some r)
    (h_seen : ∀ (k : Nat) (σ τ : jS) (a1 : Int32) (a2 : Int32) (a3 : Int32), k < 2048 → Rel k σ τ → (a3 = 0 ∨ a3 = 1) → ∃ r σ2 τ2, f_X10_seen σ a1 a2 a3 = some (r, σ2) ∧ f_X11_seen τ a1 a2 a3 = some (r, τ2) ∧ Rel (k + 4) σ2 τ2)
    (h_have : ∀ (k : Nat) (σ τ : jS) (a1 : Int32), k < 2048 → Rel k σ τ → ∃ r σ2 τ2, f_X10_have σ a1 = some (r, σ2) ∧ f_X11_have τ a1 = some (r, τ2) ∧ Rel (k + 4) σ2 τ2)
    (h_seed : ∀ (k : Nat) (σ τ : jS) (a1 : Int32), k < 2048 → Rel k σ τ → ∃ r σ2 τ2, f_X10_seed σ a1 = some (r, σ2) ∧ f_X11_seed τ a1 = some (r, τ2) ∧ Rel (k + 4) σ2 τ2)
    (h_keep : ∀ (k : Nat) (σ τ : jS) (a1 : Int32), k < 2048 → Rel k σ τ → ∃ r σ2 τ2, f_X10_keep σ a1 = some (r, σ2) ∧ f_X11_keep τ a1 = some (r, τ2) ∧ Rel (k + 4) σ2 τ2)
    (h_goBack : ∀ (k : Nat) (σ τ : jS) (a1 : Int32), k < 2048 → Rel k σ τ → ∃ r σ2 τ2, f_X10_goBack σ a1 = some (r, σ2) ∧ f_X11_goBack τ a1 = some (r, τ2) ∧ Rel (k + 4) σ2 τ2)
    {p : Program} {l : Launch} {e : Env} {s : State} {m : MethodId} {below : List Frame} {meth : Method} {c : Code} {b L : Nat} {xs : Nat → Int32} {D : va_G} {cy : Nat → ClassId} {adX adM : Nat → Nat} {bX : Nat} (hL : L ≤ 2048) (E0 : lw_E p s m meth c b L xs D cy adX adM bX) :
    ∀ (n k : Nat) (x3 : Int32), L < k + n → x3 = nI k → k ≤ L + 4 → ∀ (σ τ : jS), Rel k σ τ → ∀ (H : Heap) (locs : List Loc), va_P D vwCl (jW cy adX bX (eX σ)) H → va_P D vwCl (jW cy adM (bX + 70) (eM τ)) H → va_S (fun q : Nat => s.heap.size ≤ q) s.heap H locs → ∀ (ls : Array Slot), lv_has ls 4 [(0, .ref b), (1, .ref (bX + 1)), (2, .ref (bX + 71)), (3, .int x3)] → W p l e room_1 s m #[Value.ref b] below meth c H locs 111 2995465 (lw_Z below #[Value.ref b] s) (F0 m 18 ls []) := by
  obtain ⟨A0, hbX, hK, hEX, hEM, hadX, hadM⟩ := id E0
  obtain ⟨hx, hb, hr, hml, hown, hts, hX, hbl, hlocks, hgv⟩ := id A0
  have hA : ∀ q : Nat, s.heap.size ≤ q → (fun q : Nat => s.heap.size ≤ q) q := fun _ h => h
  have hbA : ¬ (fun q : Nat => s.heap.size ≤ q) b := Nat.not_le.mpr hbl
  intro n
  induction n with
  | zero =>
    intro k x3 h1 h2 h3
    intro σ τ hR H locs hPX hPM hS ls hl
    exact lw_out hL E0 (by omega) h2 h3 hS hl
  | succ n ih =>
    intro k x3 hkn ex3 hk4 σ τ hR H locs hPX hPM hS ls hl
    rcases Nat.lt_or_ge L (k + 4) with hlt | hge
    · exact lw_out hL E0 (by omega) ex3 hk4 hS hl
    have q0 : vp_in x3 L := by rw [ex3]; exact vp_in_nI (by omega) (by omega)
    have q1 : vp_in (x3 + 1) L := by rw [ex3, show nI k + 1 = nI (k + 1) from nI_add k 1]; exact vp_in_nI (by omega) (by omega)
    have q2 : vp_in (x3 + 2) L := by rw [ex3, show nI k + 2 = nI (k + 2) from nI_add k 2]; exact vp_in_nI (by omega) (by omega)
    have q3 : vp_in (x3 + 3) L := by rw [ex3, show nI k + 3 = nI (k + 3) from nI_add k 3]; exact vp_in_nI (by omega) (by omega)
    have q4 : ¬ Int32.ofNat L - 4 < x3 := by
      rw [ex3, show Int32.ofNat L - 4 = nI (L - 4) from lw_sub4 (by omega)]
      exact nI_nlt (by omega) (by omega)
    refine lv_iload_n hx hb dL_law_18 rfl (lv_at hl 3 rfl) ?_
    refine lv_aload_n hx hb dL_law_19 rfl (lv_at hl 0 rfl) ?_
    refine va_slen hx hb hX hbl hbA hS dL_law_20 ?_
    refine lv_iconst (v := 4) hx hb dL_law_21 (by decide) ?_
    refine lv_isub hx hb dL_law_22 ?_
    refine lv_icmp_gt (tgt := 1113) hx hb dL_law_23 (by decide) (fun h => absurd h q4) (fun _ => ?_)
    refine lv_aload_n hx hb dL_law_26 rfl (lv_at hl 0 rfl) ?_
    refine lv_iload_n hx hb dL_law_27 rfl (lv_at hl 3 rfl) ?_
    refine va_sld hx hb hX hbl hbA hS q0 dL_law_28 ?_
    refine lv_bipush (v := 31) hx hb dL_law_29 (by decide) ?_
    refine lv_iand hx hb dL_law_31 ?_
    refine lv_topi (fun w ew => ?_)
    by_cases w0 : w = 0
    · refine lv_tableIn (tgt := 172) hx hb dL_law_32 (by rw [w0]; decide) (by rw [w0]; decide) (by rw [w0]; rfl) (by decide) ?_
      refine lv_aload_n hx hb dL_law_172 rfl (lv_at hl 1 rfl) ?_
      refine lv_aload_n hx hb dL_law_173 rfl (lv_at hl 0 rfl) ?_
      refine lv_iload_n hx hb dL_law_174 rfl (lv_at hl 3 rfl) ?_
      refine lv_iconst (v := 1) hx hb dL_law_175 (by decide) ?_
      refine lv_iadd hx hb dL_law_176 ?_
      refine va_sld hx hb hX hbl hbA hS q1 dL_law_177 ?_
      refine lv_aload_n hx hb dL_law_178 rfl (lv_at hl 0 rfl) ?_
      refine lv_iload_n hx hb dL_law_179 rfl (lv_at hl 3 rfl) ?_
      refine lv_iconst (v := 2) hx hb dL_law_180 (by decide) ?_
      refine lv_iadd hx hb dL_law_181 ?_
      refine va_sld hx hb hX hbl hbA hS q2 dL_law_182 ?_
      refine lv_i2l (v := (xs (x3 + 2).toNatClampNeg).toInt64) hx hb dL_law_183 rfl ?_
      refine lv_bipush (v := 32) hx hb dL_law_184 (by decide) ?_
      refine lv_lshl (v := ((xs (x3 + 2).toNatClampNeg).toInt64 <<< ((32 : Int32).toInt64 &&& 63))) hx hb dL_law_186 rfl ?_
      refine lv_aload_n hx hb dL_law_187 rfl (lv_at hl 0 rfl) ?_
      refine lv_iload_n hx hb dL_law_188 rfl (lv_at hl 3 rfl) ?_
      refine lv_iconst (v := 3) hx hb dL_law_189 (by decide) ?_
      refine lv_iadd hx hb dL_law_190 ?_
      refine va_sld hx hb hX hbl hbA hS q3 dL_law_191 ?_
      refine lv_i2l (v := (xs (x3 + 3).toNatClampNeg).toInt64) hx hb dL_law_192 rfl ?_
      refine lv_ldc2 (v := 4294967295) hx hb hown (lw_hts E0 _ kk_RL_13) dL_law_193 ?_
      refine lv_land hx hb dL_law_196 ?_
      refine lv_lor hx hb dL_law_197 ?_
      obtain ⟨r, σ2, τ2, g1, g2, hR2⟩ := h_feed k σ τ (xs (x3 + 1).toNatClampNeg) (((xs (x3 + 2).toNatClampNeg).toInt64 <<< ((32 : Int32).toInt64 &&& 63)) ||| ((xs (x3 + 3).toNatClampNeg).toInt64 &&& 4294967295)) (by omega) hR
      refine lw_callX (as := [.int (xs (x3 + 1).toNatClampNeg), .long (((xs (x3 + 2).toNatClampNeg).toInt64 <<< ((32 : Int32).toInt64 &&& 63)) ||| ((xs (x3 + 3).toNatClampNeg).toInt64 &&& 4294967295))]) (st := []) E0 hPX hPM hS hl.1 (c_X10_feed false g1) jy_X10_feed rfl ki_yX10_feed ks_yX10_feed kl_RL_15 dL_law_198 rfl rfl (Nat.le_of_ble_eq_true rfl) (by decide) (by decide) (by decide) (fun H locs hPX hPM hS => ?_)
      refine lv_aload_n hx hb dL_law_201 rfl (lv_at hl 2 rfl) ?_
      refine lv_aload_n hx hb dL_law_202 rfl (lv_at hl 0 rfl) ?_
      refine lv_iload_n hx hb dL_law_203 rfl (lv_at hl 3 rfl) ?_
      refine lv_iconst (v := 1) hx hb dL_law_204 (by decide) ?_
      refine lv_iadd hx hb dL_law_205 ?_
      refine va_sld hx hb hX hbl hbA hS q1 dL_law_206 ?_
      refine lv_aload_n hx hb dL_law_207 rfl (lv_at hl 0 rfl) ?_
      refine lv_iload_n hx hb dL_law_208 rfl (lv_at hl 3 rfl) ?_
      refine lv_iconst (v := 2) hx hb dL_law_209 (by decide) ?_
      refine lv_iadd hx hb dL_law_210 ?_
      refine va_sld hx hb hX hbl hbA hS q2 dL_law_211 ?_
      refine lv_i2l (v := (xs (x3 + 2).toNatClampNeg).toInt64) hx hb dL_law_212 rfl ?_
      refine lv_bipush (v := 32) hx hb dL_law_213 (by decide) ?_
      refine lv_lshl (v := ((xs (x3 + 2).toNatClampNeg).toInt64 <<< ((32 : Int32).toInt64 &&& 63))) hx hb dL_law_215 rfl ?_
      refine lv_aload_n hx hb dL_law_216 rfl (lv_at hl 0 rfl) ?_
      refine lv_iload_n hx hb dL_law_217 rfl (lv_at hl 3 rfl) ?_
      refine lv_iconst (v := 3) hx hb dL_law_218 (by decide) ?_
      refine lv_iadd hx hb dL_law_219 ?_
      refine va_sld hx hb hX hbl hbA hS q3 dL_law_220 ?_
      refine lv_i2l (v := (xs (x3 + 3).toNatClampNeg).toInt64) hx hb dL_law_221 rfl ?_
      refine lv_ldc2 (v := 4294967295) hx hb hown (lw_hts E0 _ kk_RL_13) dL_law_222 ?_
      refine lv_land hx hb dL_law_225 ?_
      refine lv_lor hx hb dL_law_226 ?_
      refine lw_callM (as := [.int (xs (x3 + 1).toNatClampNeg), .long (((xs (x3 + 2).toNatClampNeg).toInt64 <<< ((32 : Int32).toInt64 &&& 63)) ||| ((xs (x3 + 3).toNatClampNeg).toInt64 &&& 4294967295))]) (st := [.int r]) E0 hPX hPM hS hl.1 (c_X11_feed false g2) jy_X11_feed rfl ki_yX11_feed ks_yX11_feed kl_RL_19 dL_law_227 rfl rfl (Nat.le_of_ble_eq_true rfl) (by decide) (by decide) (by decide) (fun H locs hPX hPM hS => ?_)
      refine lv_icmp_eq (tgt := 1107) hx hb dL_law_230 (by decide) (fun _ => ?_) (fun h => absurd rfl h)
      refine lv_iinc (v := x3 + 4) (lv' := [(3, .int (x3 + 4)), (0, .ref b), (1, .ref (bX + 1)), (2, .ref (bX + 71))]) hx hb dL_law_1107 hl (k := 3) rfl rfl (by decide) rfl (fun ls hl => ?_)
      refine lv_goto (tgt := 18) hx hb dL_law_1110 (by decide) ?_
      exact ih (k + 4) (x3 + 4) (by omega) (by rw [ex3]; exact nI_add k 4) (by omega) σ2 τ2 hR2 H locs hPX hPM hS ls (lv_sub hl [1, 2, 3, 0] rfl)
    by_cases w1 : w = 1
    · refine lv_tableIn (tgt := 235) hx hb dL_law_32 (by rw [w1]; decide) (by rw [w1]; decide) (by rw [w1]; rfl) (by decide) ?_
      refine lv_aload_n hx hb dL_law_235 rfl (lv_at hl 1 rfl) ?_
      obtain ⟨r, σ2, τ2, g1, g2, hR2⟩ := h_town k σ τ  (by omega) hR
      refine lw_callX (as := []) (st := []) E0 hPX hPM hS hl.1 (c_X10_town false g1) jy_X10_town rfl ki_yX10_town ks_yX10_town kl_RL_20 dL_law_236 rfl rfl (Nat.le_of_ble_eq_true rfl) (by decide) (by decide) (by decide) (fun H locs hPX hPM hS => ?_)
      refine lv_aload_n hx hb dL_law_239 rfl (lv_at hl 2 rfl) ?_
      refine lw_callM (as := []) (st := [.int r]) E0 hPX hPM hS hl.1 (c_X11_town false g2) jy_X11_town rfl ki_yX11_town ks_yX11_town kl_RL_24 dL_law_240 rfl rfl (Nat.le_of_ble_eq_true rfl) (by decide) (by decide) (by decide) (fun H locs hPX hPM hS => ?_)
      refine lv_icmp_eq (tgt := 1107) hx hb dL_law_243 (by decide) (fun _ => ?_) (fun h => absurd rfl h)
      refine lv_iinc (v := x3 + 4) (lv' := [(3, .int (x3 + 4)), (0, .ref b), (1, .ref (bX + 1)), (2, .ref (bX + 71))]) hx hb dL_law_1107 hl (k := 3) rfl rfl (by decide) rfl (fun ls hl => ?_)
      refine lv_goto (tgt := 18) hx hb dL_law_1110 (by decide) ?_
      exact ih (k + 4) (x3 + 4) (by omega) (by rw [ex3]; exact nI_add k 4) (by omega) σ2 τ2 hR2 H locs hPX hPM hS ls (lv_sub hl [1, 2, 3, 0] rfl)
    by_cases w2 : w = 2
    · refine lv_tableIn (tgt := 248) hx hb dL_law_32 (by rw [w2]; decide) (by rw [w2]; decide) (by rw [w2]; rfl) (by decide) ?_
      refine lv_aload_n hx hb dL_law_248 rfl (lv_at hl 1 rfl) ?_
      obtain ⟨r, g1, g2⟩ := h_fault k σ τ  (by omega) hR
      refine lw_callX (as := []) (st := []) E0 hPX hPM hS hl.1 (c_X10_fault false g1) jy_X10_fault rfl ki_yX10_fault ks_yX10_fault kl_RL_25 dL_law_249 rfl rfl (Nat.le_of_ble_eq_true rfl) (by decide) (by decide) (by decide) (fun H locs hPX hPM hS => ?_)
      refine lv_aload_n hx hb dL_law_252 rfl (lv_at hl 2 rfl) ?_
      refine lw_callM (as := []) (st := [.int r]) E0 hPX hPM hS hl.1 (c_X11_fault false g2) jy_X11_fault rfl ki_yX11_fault ks_yX11_fault kl_RL_28 dL_law_253 rfl rfl (Nat.le_of_ble_eq_true rfl) (by decide) (by decide) (by decide) (fun H locs hPX hPM hS => ?_)
      refine lv_icmp_eq (tgt := 1107) hx hb dL_law_256 (by decide) (fun _ => ?_) (fun h => absurd rfl h)
      refine lv_iinc (v := x3 + 4) (lv' := [(3, .int (x3 + 4)), (0, .ref b), (1, .ref (bX + 1)), (2, .ref (bX + 71))]) hx hb dL_law_1107 hl (k := 3) rfl rfl (by decide) rfl (fun ls hl => ?_)
      refine lv_goto (tgt := 18) hx hb dL_law_1110 (by decide) ?_
      exact ih (k + 4) (x3 + 4) (by omega) (by rw [ex3]; exact nI_add k 4) (by omega) σ τ (h_mono _ _ _ hR) H locs hPX hPM hS ls (lv_sub hl [1, 2, 3, 0] rfl)
    by_cases w3 : w = 3
    · refine lv_tableIn (tgt := 261) hx hb dL_law_32 (by rw [w3]; decide) (by rw [w3]; decide) (by rw [w3]; rfl) (by decide) ?_
      refine lv_aload_n hx hb dL_law_261 rfl (lv_at hl 1 rfl) ?_
      refine lv_aload_n hx hb dL_law_262 rfl (lv_at hl 0 rfl) ?_
      refine lv_iload_n hx hb dL_law_263 rfl (lv_at hl 3 rfl) ?_
      refine lv_iconst (v := 1) hx hb dL_law_264 (by decide) ?_
      refine lv_iadd hx hb dL_law_265 ?_
      refine va_sld hx hb hX hbl hbA hS q1 dL_law_266 ?_
      obtain ⟨r, g1, g2⟩ := h_count k σ τ (xs (x3 + 1).toNatClampNeg) (by omega) hR
      refine lw_callX (as := [.int (xs (x3 + 1).toNatClampNeg)]) (st := []) E0 hPX hPM hS hl.1 (c_X10_count false g1) jy_X10_count rfl ki_yX10_count ks_yX10_count kl_RL_29 dL_law_267 rfl rfl (Nat.le_of_ble_eq_true rfl) (by decide) (by decide) (by decide) (fun H locs hPX hPM hS => ?_)
      refine lv_aload_n hx hb dL_law_270 rfl (lv_at hl 2 rfl) ?_
      refine lv_aload_n hx hb dL_law_271 rfl (lv_at hl 0 rfl) ?_
      refine lv_iload_n hx hb dL_law_272 rfl (lv_at hl 3 rfl) ?_
      refine lv_iconst (v := 1) hx hb dL_law_273 (by decide) ?_
      refine lv_iadd hx hb dL_law_274 ?_
      refine va_sld hx hb hX hbl hbA hS q1 dL_law_275 ?_
      refine lw_callM (as := [.int (xs (x3 + 1).toNatClampNeg)]) (st := [.int r]) E0 hPX hPM hS hl.1 (c_X11_count false g2) jy_X11_count rfl ki_yX11_count ks_yX11_count kl_RL_33 dL_law_276 rfl rfl (Nat.le_of_ble_eq_true rfl) (by decide) (by decide) (by decide) (fun H locs hPX hPM hS => ?_)
      refine lv_icmp_eq (tgt := 1107) hx hb dL_law_279 (by decide) (fun _ => ?_) (fun h => absurd rfl h)
      refine lv_iinc (v := x3 + 4) (lv' := [(3, .int (x3 + 4)), (0, .ref b), (1, .ref (bX + 1)), (2, .ref (bX + 71))]) hx hb dL_law_1107 hl (k := 3) rfl rfl (by decide) rfl (fun ls hl => ?_)
      refine lv_goto (tgt := 18) hx hb dL_law_1110 (by decide) ?_
      exact ih (k + 4) (x3 + 4) (by omega) (by rw [ex3]; exact nI_add k 4) (by omega) σ τ (h_mono _ _ _ hR) H locs hPX hPM hS ls (lv_sub hl [1, 2, 3, 0] rfl)
    by_cases w4 : w = 4
    · refine lv_tableIn (tgt := 284) hx hb dL_law_32 (by rw [w4]; decide) (by rw [w4]; decide) (by rw [w4]; rfl) (by decide) ?_
      refine lv_aload_n hx hb dL_law_284 rfl (lv_at hl 1 rfl) ?_
      refine lv_aload_n hx hb dL_law_285 rfl (lv_at hl 0 rfl) ?_
      refine lv_iload_n hx hb dL_law_286 rfl (lv_at hl 3 rfl) ?_
      refine lv_iconst (v := 1) hx hb dL_law_287 (by decide) ?_
      refine lv_iadd hx hb dL_law_288 ?_
      refine va_sld hx hb hX hbl hbA hS q1 dL_law_289 ?_
      refine lv_aload_n hx hb dL_law_290 rfl (lv_at hl 0 rfl) ?_
      refine lv_iload_n hx hb dL_law_291 rfl (lv_at hl 3 rfl) ?_
      refine lv_iconst (v := 2) hx hb dL_law_292 (by decide) ?_
      refine lv_iadd hx hb dL_law_293 ?_
      refine va_sld hx hb hX hbl hbA hS q2 dL_law_294 ?_
      obtain ⟨r, g1, g2⟩ := h_person k σ τ (xs (x3 + 1).toNatClampNeg) (xs (x3 + 2).toNatClampNeg) (by omega) hR
      refine lw_callX (as := [.int (xs (x3 + 1).toNatClampNeg), .int (xs (x3 + 2).toNatClampNeg)]) (st := []) E0 hPX hPM hS hl.1 (c_X10_person false g1) jy_X10_person rfl ki_yX10_person ks_yX10_person kl_RL_34 dL_law_295 rfl rfl (Nat.le_of_ble_eq_true rfl) (by decide) (by decide) (by decide) (fun H locs hPX hPM hS => ?_)
      refine lv_aload_n hx hb dL_law_298 rfl (lv_at hl 2 rfl) ?_
      refine lv_aload_n hx hb dL_law_299 rfl (lv_at hl 0 rfl) ?_
      refine lv_iload_n hx hb dL_law_300 rfl (lv_at hl 3 rfl) ?_
      refine lv_iconst (v := 1) hx hb dL_law_301 (by decide) ?_
      refine lv_iadd hx hb dL_law_302 ?_
      refine va_sld hx hb hX hbl hbA hS q1 dL_law_303 ?_
      refine lv_aload_n hx hb dL_law_304 rfl (lv_at hl 0 rfl) ?_
      refine lv_iload_n hx hb dL_law_305 rfl (lv_at hl 3 rfl) ?_
      refine lv_iconst (v := 2) hx hb dL_law_306 (by decide) ?_
      refine lv_iadd hx hb dL_law_307 ?_
      refine va_sld hx hb hX hbl hbA hS q2 dL_law_308 ?_
      refine lw_callM (as := [.int (xs (x3 + 1).toNatClampNeg), .int (xs (x3 + 2).toNatClampNeg)]) (st := [.int r]) E0 hPX hPM hS hl.1 (c_X11_person false g2) jy_X11_person rfl ki_yX11_person ks_yX11_person kl_RL_38 dL_law_309 rfl rfl (Nat.le_of_ble_eq_true rfl) (by decide) (by decide) (by decide) (fun H locs hPX hPM hS => ?_)
      refine lv_icmp_eq (tgt := 1107) hx hb dL_law_312 (by decide) (fun _ => ?_) (fun h => absurd rfl h)
      refine lv_iinc (v := x3 + 4) (lv' := [(3, .int (x3 + 4)), (0, .ref b), (1, .ref (bX + 1)), (2, .ref (bX + 71))]) hx hb dL_law_1107 hl (k := 3) rfl rfl (by decide) rfl (fun ls hl => ?_)
      refine lv_goto (tgt := 18) hx hb dL_law_1110 (by decide) ?_
      exact ih (k + 4) (x3 + 4) (by omega) (by rw [ex3]; exact nI_add k 4) (by omega) σ τ (h_mono _ _ _ hR) H locs hPX hPM hS ls (lv_sub hl [1, 2, 3, 0] rfl)
    by_cases w5 : w = 5
    · refine lv_tableIn (tgt := 317) hx hb dL_law_32 (by rw [w5]; decide) (by rw [w5]; decide) (by rw [w5]; rfl) (by decide) ?_
      refine lv_aload_n hx hb dL_law_317 rfl (lv_at hl 1 rfl) ?_
      refine lv_aload_n hx hb dL_law_318 rfl (lv_at hl 0 rfl) ?_
      refine lv_iload_n hx hb dL_law_319 rfl (lv_at hl 3 rfl) ?_
      refine lv_iconst (v := 1) hx hb dL_law_320 (by decide) ?_
      refine lv_iadd hx hb dL_law_321 ?_
      refine va_sld hx hb hX hbl hbA hS q1 dL_law_322 ?_
      refine lv_aload_n hx hb dL_law_323 rfl (lv_at hl 0 rfl) ?_
      refine lv_iload_n hx hb dL_law_324 rfl (lv_at hl 3 rfl) ?_
      refine lv_iconst (v := 2) hx hb dL_law_325 (by decide) ?_
      refine lv_iadd hx hb dL_law_326 ?_
      refine va_sld hx hb hX hbl hbA hS q2 dL_law_327 ?_
      obtain ⟨r, g1, g2⟩ := h_turn k σ τ (xs (x3 + 1).toNatClampNeg) (xs (x3 + 2).toNatClampNeg) (by omega) hR
      refine lw_callX (as := [.int (xs (x3 + 1).toNatClampNeg), .int (xs (x3 + 2).toNatClampNeg)]) (st := []) E0 hPX hPM hS hl.1 (c_X10_turn false g1) jy_X10_turn rfl ki_yX10_turn ks_yX10_turn kl_RL_39 dL_law_328 rfl rfl (Nat.le_of_ble_eq_true rfl) (by decide) (by decide) (by decide) (fun H locs hPX hPM hS => ?_)
      refine lv_aload_n hx hb dL_law_331 rfl (lv_at hl 2 rfl) ?_
      refine lv_aload_n hx hb dL_law_332 rfl (lv_at hl 0 rfl) ?_
      refine lv_iload_n hx hb dL_law_333 rfl (lv_at hl 3 rfl) ?_
      refine lv_iconst (v := 1) hx hb dL_law_334 (by decide) ?_
      refine lv_iadd hx hb dL_law_335 ?_
      refine va_sld hx hb hX hbl hbA hS q1 dL_law_336 ?_
      refine lv_aload_n hx hb dL_law_337 rfl (lv_at hl 0 rfl) ?_
      refine lv_iload_n hx hb dL_law_338 rfl (lv_at hl 3 rfl) ?_
      refine lv_iconst (v := 2) hx hb dL_law_339 (by decide) ?_
      refine lv_iadd hx hb dL_law_340 ?_
      refine va_sld hx hb hX hbl hbA hS q2 dL_law_341 ?_
      refine lw_callM (as := [.int (xs (x3 + 1).toNatClampNeg), .int (xs (x3 + 2).toNatClampNeg)]) (st := [.int r]) E0 hPX hPM hS hl.1 (c_X11_turn false g2) jy_X11_turn rfl ki_yX11_turn ks_yX11_turn kl_RL_42 dL_law_342 rfl rfl (Nat.le_of_ble_eq_true rfl) (by decide) (by decide) (by decide) (fun H locs hPX hPM hS => ?_)
      refine lv_icmp_eq (tgt := 1107) hx hb dL_law_345 (by decide) (fun _ => ?_) (fun h => absurd rfl h)
      refine lv_iinc (v := x3 + 4) (lv' := [(3, .int (x3 + 4)), (0, .ref b), (1, .ref (bX + 1)), (2, .ref (bX + 71))]) hx hb dL_law_1107 hl (k := 3) rfl rfl (by decide) rfl (fun ls hl => ?_)
      refine lv_goto (tgt := 18) hx hb dL_law_1110 (by decide) ?_
      exact ih (k + 4) (x3 + 4) (by omega) (by rw [ex3]; exact nI_add k 4) (by omega) σ τ (h_mono _ _ _ hR) H locs hPX hPM hS ls (lv_sub hl [1, 2, 3, 0] rfl)
    by_cases w6 : w = 6
    · refine lv_tableIn (tgt := 350) hx hb dL_law_32 (by rw [w6]; decide) (by rw [w6]; decide) (by rw [w6]; rfl) (by decide) ?_
      refine lv_aload_n hx hb dL_law_350 rfl (lv_at hl 1 rfl) ?_
      refine lv_aload_n hx hb dL_law_351 rfl (lv_at hl 0 rfl) ?_
      refine lv_iload_n hx hb dL_law_352 rfl (lv_at hl 3 rfl) ?_
      refine lv_iconst (v := 1) hx hb dL_law_353 (by decide) ?_
      refine lv_iadd hx hb dL_law_354 ?_
      refine va_sld hx hb hX hbl hbA hS q1 dL_law_355 ?_
      obtain ⟨r, g1, g2⟩ := h_grudge k σ τ (xs (x3 + 1).toNatClampNeg) (by omega) hR
      refine lw_callX (as := [.int (xs (x3 + 1).toNatClampNeg)]) (st := []) E0 hPX hPM hS hl.1 (c_X10_grudge false g1) jy_X10_grudge rfl ki_yX10_grudge ks_yX10_grudge kl_RL_43 dL_law_356 rfl rfl (Nat.le_of_ble_eq_true rfl) (by decide) (by decide) (by decide) (fun H locs hPX hPM hS => ?_)
      refine lv_aload_n hx hb dL_law_359 rfl (lv_at hl 2 rfl) ?_
      refine lv_aload_n hx hb dL_law_360 rfl (lv_at hl 0 rfl) ?_
      refine lv_iload_n hx hb dL_law_361 rfl (lv_at hl 3 rfl) ?_
      refine lv_iconst (v := 1) hx hb dL_law_362 (by decide) ?_
      refine lv_iadd hx hb dL_law_363 ?_
      refine va_sld hx hb hX hbl hbA hS q1 dL_law_364 ?_
      refine lw_callM (as := [.int (xs (x3 + 1).toNatClampNeg)]) (st := [.int r]) E0 hPX hPM hS hl.1 (c_X11_grudge false g2) jy_X11_grudge rfl ki_yX11_grudge ks_yX11_grudge kl_RL_46 dL_law_365 rfl rfl (Nat.le_of_ble_eq_true rfl) (by decide) (by decide) (by decide) (fun H locs hPX hPM hS => ?_)
      refine lv_icmp_eq (tgt := 1107) hx hb dL_law_368 (by decide) (fun _ => ?_) (fun h => absurd rfl h)
      refine lv_iinc (v := x3 + 4) (lv' := [(3, .int (x3 + 4)), (0, .ref b), (1, .ref (bX + 1)), (2, .ref (bX + 71))]) hx hb dL_law_1107 hl (k := 3) rfl rfl (by decide) rfl (fun ls hl => ?_)
      refine lv_goto (tgt := 18) hx hb dL_law_1110 (by decide) ?_
      exact ih (k + 4) (x3 + 4) (by omega) (by rw [ex3]; exact nI_add k 4) (by omega) σ τ (h_mono _ _ _ hR) H locs hPX hPM hS ls (lv_sub hl [1, 2, 3, 0] rfl)
    by_cases w7 : w = 7
    · refine lv_tableIn (tgt := 373) hx hb dL_law_32 (by rw [w7]; decide) (by rw [w7]; decide) (by rw [w7]; rfl) (by decide) ?_
      refine lv_aload_n hx hb dL_law_373 rfl (lv_at hl 1 rfl) ?_
      refine lv_aload_n hx hb dL_law_374 rfl (lv_at hl 0 rfl) ?_
      refine lv_iload_n hx hb dL_law_375 rfl (lv_at hl 3 rfl) ?_
      refine lv_iconst (v := 1) hx hb dL_law_376 (by decide) ?_
      refine lv_iadd hx hb dL_law_377 ?_
      refine va_sld hx hb hX hbl hbA hS q1 dL_law_378 ?_
      refine lv_aload_n hx hb dL_law_379 rfl (lv_at hl 0 rfl) ?_
      refine lv_iload_n hx hb dL_law_380 rfl (lv_at hl 3 rfl) ?_
      refine lv_iconst (v := 2) hx hb dL_law_381 (by decide) ?_
      refine lv_iadd hx hb dL_law_382 ?_
      refine va_sld hx hb hX hbl hbA hS q2 dL_law_383 ?_
      obtain ⟨r, σ2, τ2, g1, g2, hR2⟩ := h_law k σ τ (xs (x3 + 1).toNatClampNeg) (xs (x3 + 2).toNatClampNeg) (by omega) hR
      refine lw_callX (as := [.int (xs (x3 + 1).toNatClampNeg), .int (xs (x3 + 2).toNatClampNeg)]) (st := []) E0 hPX hPM hS hl.1 (c_X10_law false g1) jy_X10_law rfl ki_yX10_law ks_yX10_law kl_RL_47 dL_law_384 rfl rfl (Nat.le_of_ble_eq_true rfl) (by decide) (by decide) (by decide) (fun H locs hPX hPM hS => ?_)
      refine lv_aload_n hx hb dL_law_387 rfl (lv_at hl 2 rfl) ?_
      refine lv_aload_n hx hb dL_law_388 rfl (lv_at hl 0 rfl) ?_
      refine lv_iload_n hx hb dL_law_389 rfl (lv_at hl 3 rfl) ?_
      refine lv_iconst (v := 1) hx hb dL_law_390 (by decide) ?_
      refine lv_iadd hx hb dL_law_391 ?_
      refine va_sld hx hb hX hbl hbA hS q1 dL_law_392 ?_
      refine lv_aload_n hx hb dL_law_393 rfl (lv_at hl 0 rfl) ?_
      refine lv_iload_n hx hb dL_law_394 rfl (lv_at hl 3 rfl) ?_
      refine lv_iconst (v := 2) hx hb dL_law_395 (by decide) ?_
      refine lv_iadd hx hb dL_law_396 ?_
      refine va_sld hx hb hX hbl hbA hS q2 dL_law_397 ?_
      refine lw_callM (as := [.int (xs (x3 + 1).toNatClampNeg), .int (xs (x3 + 2).toNatClampNeg)]) (st := [.int r]) E0 hPX hPM hS hl.1 (c_X11_law false g2) jy_X11_law rfl ki_yX11_law ks_yX11_law kl_RL_50 dL_law_398 rfl rfl (Nat.le_of_ble_eq_true rfl) (by decide) (by decide) (by decide) (fun H locs hPX hPM hS => ?_)
      refine lv_icmp_eq (tgt := 1107) hx hb dL_law_401 (by decide) (fun _ => ?_) (fun h => absurd rfl h)
      refine lv_iinc (v := x3 + 4) (lv' := [(3, .int (x3 + 4)), (0, .ref b), (1, .ref (bX + 1)), (2, .ref (bX + 71))]) hx hb dL_law_1107 hl (k := 3) rfl rfl (by decide) rfl (fun ls hl => ?_)
      refine lv_goto (tgt := 18) hx hb dL_law_1110 (by decide) ?_
      exact ih (k + 4) (x3 + 4) (by omega) (by rw [ex3]; exact nI_add k 4) (by omega) σ2 τ2 hR2 H locs hPX hPM hS ls (lv_sub hl [1, 2, 3, 0] rfl)
    by_cases w8 : w = 8
    · refine lv_tableIn (tgt := 406) hx hb dL_law_32 (by rw [w8]; decide) (by rw [w8]; decide) (by rw [w8]; rfl) (by decide) ?_
      refine lv_aload_n hx hb dL_law_406 rfl (lv_at hl 1 rfl) ?_
      refine lv_aload_n hx hb dL_law_407 rfl (lv_at hl 0 rfl) ?_
      refine lv_iload_n hx hb dL_law_408 rfl (lv_at hl 3 rfl) ?_
      refine lv_iconst (v := 1) hx hb dL_law_409 (by decide) ?_
      refine lv_iadd hx hb dL_law_410 ?_
      refine va_sld hx hb hX hbl hbA hS q1 dL_law_411 ?_
      refine lv_aload_n hx hb dL_law_412 rfl (lv_at hl 0 rfl) ?_
      refine lv_iload_n hx hb dL_law_413 rfl (lv_at hl 3 rfl) ?_
      refine lv_iconst (v := 2) hx hb dL_law_414 (by decide) ?_
      refine lv_iadd hx hb dL_law_415 ?_
      refine va_sld hx hb hX hbl hbA hS q2 dL_law_416 ?_
      refine lv_aload_n hx hb dL_law_417 rfl (lv_at hl 0 rfl) ?_
      refine lv_iload_n hx hb dL_law_418 rfl (lv_at hl 3 rfl) ?_
      refine lv_iconst (v := 3) hx hb dL_law_419 (by decide) ?_
      refine lv_iadd hx hb dL_law_420 ?_
      refine va_sld hx hb hX hbl hbA hS q3 dL_law_421 ?_
      by_cases hz : (xs (x3 + 3).toNatClampNeg) = 0
      · refine lv_if_eq (tgt := 429) hx hb dL_law_422 (by decide) (fun _ => ?_) (fun h => absurd hz h)
        refine lv_iconst (v := 0) hx hb dL_law_429 (by decide) ?_
        obtain ⟨r, σ2, τ2, g1, g2, hR2⟩ := h_bear k σ τ (xs (x3 + 1).toNatClampNeg) (xs (x3 + 2).toNatClampNeg) 0 (by omega) hR (Or.inl rfl)
        refine lw_callX (as := [.int (xs (x3 + 1).toNatClampNeg), .int (xs (x3 + 2).toNatClampNeg), .int 0]) (st := []) E0 hPX hPM hS hl.1 (c_X10_bear false g1) jy_X10_bear rfl ki_yX10_bear ks_yX10_bear kl_RL_51 dL_law_430 rfl rfl (Nat.le_of_ble_eq_true rfl) (by decide) (by decide) (by decide) (fun H locs hPX hPM hS => ?_)
        refine lv_aload_n hx hb dL_law_433 rfl (lv_at hl 2 rfl) ?_
        refine lv_aload_n hx hb dL_law_434 rfl (lv_at hl 0 rfl) ?_
        refine lv_iload_n hx hb dL_law_435 rfl (lv_at hl 3 rfl) ?_
        refine lv_iconst (v := 1) hx hb dL_law_436 (by decide) ?_
        refine lv_iadd hx hb dL_law_437 ?_
        refine va_sld hx hb hX hbl hbA hS q1 dL_law_438 ?_
        refine lv_aload_n hx hb dL_law_439 rfl (lv_at hl 0 rfl) ?_
        refine lv_iload_n hx hb dL_law_440 rfl (lv_at hl 3 rfl) ?_
        refine lv_iconst (v := 2) hx hb dL_law_441 (by decide) ?_
        refine lv_iadd hx hb dL_law_442 ?_
        refine va_sld hx hb hX hbl hbA hS q2 dL_law_443 ?_
        refine lv_aload_n hx hb dL_law_444 rfl (lv_at hl 0 rfl) ?_
        refine lv_iload_n hx hb dL_law_445 rfl (lv_at hl 3 rfl) ?_
        refine lv_iconst (v := 3) hx hb dL_law_446 (by decide) ?_
        refine lv_iadd hx hb dL_law_447 ?_
        refine va_sld hx hb hX hbl hbA hS q3 dL_law_448 ?_
        refine lv_if_eq (tgt := 456) hx hb dL_law_449 (by decide) (fun _ => ?_) (fun h => absurd hz h)
        refine lv_iconst (v := 0) hx hb dL_law_456 (by decide) ?_
        refine lw_callM (as := [.int (xs (x3 + 1).toNatClampNeg), .int (xs (x3 + 2).toNatClampNeg), .int 0]) (st := [.int r]) E0 hPX hPM hS hl.1 (c_X11_bear false g2) jy_X11_bear rfl ki_yX11_bear ks_yX11_bear kl_RL_55 dL_law_457 rfl rfl (Nat.le_of_ble_eq_true rfl) (by decide) (by decide) (by decide) (fun H locs hPX hPM hS => ?_)
        refine lv_icmp_eq (tgt := 1107) hx hb dL_law_460 (by decide) (fun _ => ?_) (fun h => absurd rfl h)
        refine lv_iinc (v := x3 + 4) (lv' := [(3, .int (x3 + 4)), (0, .ref b), (1, .ref (bX + 1)), (2, .ref (bX + 71))]) hx hb dL_law_1107 hl (k := 3) rfl rfl (by decide) rfl (fun ls hl => ?_)
        refine lv_goto (tgt := 18) hx hb dL_law_1110 (by decide) ?_
        exact ih (k + 4) (x3 + 4) (by omega) (by rw [ex3]; exact nI_add k 4) (by omega) σ2 τ2 hR2 H locs hPX hPM hS ls (lv_sub hl [1, 2, 3, 0] rfl)
      · refine lv_if_eq (tgt := 429) hx hb dL_law_422 (by decide) (fun h => absurd h hz) (fun _ => ?_)
        refine lv_iconst (v := 1) hx hb dL_law_425 (by decide) ?_
        refine lv_goto (tgt := 430) hx hb dL_law_426 (by decide) ?_
        obtain ⟨r, σ2, τ2, g1, g2, hR2⟩ := h_bear k σ τ (xs (x3 + 1).toNatClampNeg) (xs (x3 + 2).toNatClampNeg) 1 (by omega) hR (Or.inr rfl)
        refine lw_callX (as := [.int (xs (x3 + 1).toNatClampNeg), .int (xs (x3 + 2).toNatClampNeg), .int 1]) (st := []) E0 hPX hPM hS hl.1 (c_X10_bear false g1) jy_X10_bear rfl ki_yX10_bear ks_yX10_bear kl_RL_51 dL_law_430 rfl rfl (Nat.le_of_ble_eq_true rfl) (by decide) (by decide) (by decide) (fun H locs hPX hPM hS => ?_)
        refine lv_aload_n hx hb dL_law_433 rfl (lv_at hl 2 rfl) ?_
        refine lv_aload_n hx hb dL_law_434 rfl (lv_at hl 0 rfl) ?_
        refine lv_iload_n hx hb dL_law_435 rfl (lv_at hl 3 rfl) ?_
        refine lv_iconst (v := 1) hx hb dL_law_436 (by decide) ?_
        refine lv_iadd hx hb dL_law_437 ?_
        refine va_sld hx hb hX hbl hbA hS q1 dL_law_438 ?_
        refine lv_aload_n hx hb dL_law_439 rfl (lv_at hl 0 rfl) ?_
        refine lv_iload_n hx hb dL_law_440 rfl (lv_at hl 3 rfl) ?_
        refine lv_iconst (v := 2) hx hb dL_law_441 (by decide) ?_
        refine lv_iadd hx hb dL_law_442 ?_
        refine va_sld hx hb hX hbl hbA hS q2 dL_law_443 ?_
        refine lv_aload_n hx hb dL_law_444 rfl (lv_at hl 0 rfl) ?_
        refine lv_iload_n hx hb dL_law_445 rfl (lv_at hl 3 rfl) ?_
        refine lv_iconst (v := 3) hx hb dL_law_446 (by decide) ?_
        refine lv_iadd hx hb dL_law_447 ?_
        refine va_sld hx hb hX hbl hbA hS q3 dL_law_448 ?_
        refine lv_if_eq (tgt := 456) hx hb dL_law_449 (by decide) (fun h => absurd h hz) (fun _ => ?_)
        refine lv_iconst (v := 1) hx hb dL_law_452 (by decide) ?_
        refine lv_goto (tgt := 457) hx hb dL_law_453 (by decide) ?_
        refine lw_callM (as := [.int (xs (x3 + 1).toNatClampNeg), .int (xs (x3 + 2).toNatClampNeg), .int 1]) (st := [.int r]) E0 hPX hPM hS hl.1 (c_X11_bear false g2) jy_X11_bear rfl ki_yX11_bear ks_yX11_bear kl_RL_55 dL_law_457 rfl rfl (Nat.le_of_ble_eq_true rfl) (by decide) (by decide) (by decide) (fun H locs hPX hPM hS => ?_)
        refine lv_icmp_eq (tgt := 1107) hx hb dL_law_460 (by decide) (fun _ => ?_) (fun h => absurd rfl h)
        refine lv_iinc (v := x3 + 4) (lv' := [(3, .int (x3 + 4)), (0, .ref b), (1, .ref (bX + 1)), (2, .ref (bX + 71))]) hx hb dL_law_1107 hl (k := 3) rfl rfl (by decide) rfl (fun ls hl => ?_)
        refine lv_goto (tgt := 18) hx hb dL_law_1110 (by decide) ?_
        exact ih (k + 4) (x3 + 4) (by omega) (by rw [ex3]; exact nI_add k 4) (by omega) σ2 τ2 hR2 H locs hPX hPM hS ls (lv_sub hl [1, 2, 3, 0] rfl)
    by_cases w9 : w = 9
    · refine lv_tableIn (tgt := 465) hx hb dL_law_32 (by rw [w9]; decide) (by rw [w9]; decide) (by rw [w9]; rfl) (by decide) ?_
      refine lv_aload_n hx hb dL_law_465 rfl (lv_at hl 1 rfl) ?_
      refine lv_aload_n hx hb dL_law_466 rfl (lv_at hl 0 rfl) ?_
      refine lv_iload_n hx hb dL_law_467 rfl (lv_at hl 3 rfl) ?_
      refine lv_iconst (v := 1) hx hb dL_law_468 (by decide) ?_
      refine lv_iadd hx hb dL_law_469 ?_
      refine va_sld hx hb hX hbl hbA hS q1 dL_law_470 ?_
      refine lv_aload_n hx hb dL_law_471 rfl (lv_at hl 0 rfl) ?_
      refine lv_iload_n hx hb dL_law_472 rfl (lv_at hl 3 rfl) ?_
      refine lv_iconst (v := 2) hx hb dL_law_473 (by decide) ?_
      refine lv_iadd hx hb dL_law_474 ?_
      refine va_sld hx hb hX hbl hbA hS q2 dL_law_475 ?_
      obtain ⟨r, g1, g2⟩ := h_quarrel k σ τ (xs (x3 + 1).toNatClampNeg) (xs (x3 + 2).toNatClampNeg) (by omega) hR
      refine lw_callX (as := [.int (xs (x3 + 1).toNatClampNeg), .int (xs (x3 + 2).toNatClampNeg)]) (st := []) E0 hPX hPM hS hl.1 (c_X10_quarrel false g1) jy_X10_quarrel rfl ki_yX10_quarrel ks_yX10_quarrel kl_RL_56 dL_law_476 rfl rfl (Nat.le_of_ble_eq_true rfl) (by decide) (by decide) (by decide) (fun H locs hPX hPM hS => ?_)
      refine lv_aload_n hx hb dL_law_479 rfl (lv_at hl 2 rfl) ?_
      refine lv_aload_n hx hb dL_law_480 rfl (lv_at hl 0 rfl) ?_
      refine lv_iload_n hx hb dL_law_481 rfl (lv_at hl 3 rfl) ?_
      refine lv_iconst (v := 1) hx hb dL_law_482 (by decide) ?_
      refine lv_iadd hx hb dL_law_483 ?_
      refine va_sld hx hb hX hbl hbA hS q1 dL_law_484 ?_
      refine lv_aload_n hx hb dL_law_485 rfl (lv_at hl 0 rfl) ?_
      refine lv_iload_n hx hb dL_law_486 rfl (lv_at hl 3 rfl) ?_
      refine lv_iconst (v := 2) hx hb dL_law_487 (by decide) ?_
      refine lv_iadd hx hb dL_law_488 ?_
      refine va_sld hx hb hX hbl hbA hS q2 dL_law_489 ?_
      refine lw_callM (as := [.int (xs (x3 + 1).toNatClampNeg), .int (xs (x3 + 2).toNatClampNeg)]) (st := [.int r]) E0 hPX hPM hS hl.1 (c_X11_quarrel false g2) jy_X11_quarrel rfl ki_yX11_quarrel ks_yX11_quarrel kl_RL_59 dL_law_490 rfl rfl (Nat.le_of_ble_eq_true rfl) (by decide) (by decide) (by decide) (fun H locs hPX hPM hS => ?_)
      refine lv_icmp_eq (tgt := 1107) hx hb dL_law_493 (by decide) (fun _ => ?_) (fun h => absurd rfl h)
      refine lv_iinc (v := x3 + 4) (lv' := [(3, .int (x3 + 4)), (0, .ref b), (1, .ref (bX + 1)), (2, .ref (bX + 71))]) hx hb dL_law_1107 hl (k := 3) rfl rfl (by decide) rfl (fun ls hl => ?_)
      refine lv_goto (tgt := 18) hx hb dL_law_1110 (by decide) ?_
      exact ih (k + 4) (x3 + 4) (by omega) (by rw [ex3]; exact nI_add k 4) (by omega) σ τ (h_mono _ _ _ hR) H locs hPX hPM hS ls (lv_sub hl [1, 2, 3, 0] rfl)
    by_cases w10 : w = 10
    · refine lv_tableIn (tgt := 498) hx hb dL_law_32 (by rw [w10]; decide) (by rw [w10]; decide) (by rw [w10]; rfl) (by decide) ?_
      refine lv_aload_n hx hb dL_law_498 rfl (lv_at hl 1 rfl) ?_
      refine lv_aload_n hx hb dL_law_499 rfl (lv_at hl 0 rfl) ?_
      refine lv_iload_n hx hb dL_law_500 rfl (lv_at hl 3 rfl) ?_
      refine lv_iconst (v := 1) hx hb dL_law_501 (by decide) ?_
      refine lv_iadd hx hb dL_law_502 ?_
      refine va_sld hx hb hX hbl hbA hS q1 dL_law_503 ?_
      obtain ⟨r, g1, g2⟩ := h_may k σ τ (xs (x3 + 1).toNatClampNeg) (by omega) hR
      refine lw_callX (as := [.int (xs (x3 + 1).toNatClampNeg)]) (st := []) E0 hPX hPM hS hl.1 (c_X10_may false g1) jy_X10_may rfl ki_yX10_may ks_yX10_may kl_RL_60 dL_law_504 rfl rfl (Nat.le_of_ble_eq_true rfl) (by decide) (by decide) (by decide) (fun H locs hPX hPM hS => ?_)
      refine lv_aload_n hx hb dL_law_507 rfl (lv_at hl 2 rfl) ?_
      refine lv_aload_n hx hb dL_law_508 rfl (lv_at hl 0 rfl) ?_
      refine lv_iload_n hx hb dL_law_509 rfl (lv_at hl 3 rfl) ?_
      refine lv_iconst (v := 1) hx hb dL_law_510 (by decide) ?_
      refine lv_iadd hx hb dL_law_511 ?_
      refine va_sld hx hb hX hbl hbA hS q1 dL_law_512 ?_
      refine lw_callM (as := [.int (xs (x3 + 1).toNatClampNeg)]) (st := [.int r]) E0 hPX hPM hS hl.1 (c_X11_may false g2) jy_X11_may rfl ki_yX11_may ks_yX11_may kl_RL_63 dL_law_513 rfl rfl (Nat.le_of_ble_eq_true rfl) (by decide) (by decide) (by decide) (fun H locs hPX hPM hS => ?_)
      refine lv_icmp_eq (tgt := 1107) hx hb dL_law_516 (by decide) (fun _ => ?_) (fun h => absurd rfl h)
      refine lv_iinc (v := x3 + 4) (lv' := [(3, .int (x3 + 4)), (0, .ref b), (1, .ref (bX + 1)), (2, .ref (bX + 71))]) hx hb dL_law_1107 hl (k := 3) rfl rfl (by decide) rfl (fun ls hl => ?_)
      refine lv_goto (tgt := 18) hx hb dL_law_1110 (by decide) ?_
      exact ih (k + 4) (x3 + 4) (by omega) (by rw [ex3]; exact nI_add k 4) (by omega) σ τ (h_mono _ _ _ hR) H locs hPX hPM hS ls (lv_sub hl [1, 2, 3, 0] rfl)
    by_cases w11 : w = 11
    · refine lv_tableIn (tgt := 521) hx hb dL_law_32 (by rw [w11]; decide) (by rw [w11]; decide) (by rw [w11]; rfl) (by decide) ?_
      refine lv_aload_n hx hb dL_law_521 rfl (lv_at hl 1 rfl) ?_
      refine lv_aload_n hx hb dL_law_522 rfl (lv_at hl 0 rfl) ?_
      refine lv_iload_n hx hb dL_law_523 rfl (lv_at hl 3 rfl) ?_
      refine lv_iconst (v := 1) hx hb dL_law_524 (by decide) ?_
      refine lv_iadd hx hb dL_law_525 ?_
      refine va_sld hx hb hX hbl hbA hS q1 dL_law_526 ?_
      refine lv_aload_n hx hb dL_law_527 rfl (lv_at hl 0 rfl) ?_
      refine lv_iload_n hx hb dL_law_528 rfl (lv_at hl 3 rfl) ?_
      refine lv_iconst (v := 2) hx hb dL_law_529 (by decide) ?_
      refine lv_iadd hx hb dL_law_530 ?_
      refine va_sld hx hb hX hbl hbA hS q2 dL_law_531 ?_
      obtain ⟨r, σ2, τ2, g1, g2, hR2⟩ := h_hand k σ τ (xs (x3 + 1).toNatClampNeg) (xs (x3 + 2).toNatClampNeg) (by omega) hR
      refine lw_callX (as := [.int (xs (x3 + 1).toNatClampNeg), .int (xs (x3 + 2).toNatClampNeg)]) (st := []) E0 hPX hPM hS hl.1 (c_X10_hand false g1) jy_X10_hand rfl ki_yX10_hand ks_yX10_hand kl_RL_64 dL_law_532 rfl rfl (Nat.le_of_ble_eq_true rfl) (by decide) (by decide) (by decide) (fun H locs hPX hPM hS => ?_)
      refine lv_aload_n hx hb dL_law_535 rfl (lv_at hl 2 rfl) ?_
      refine lv_aload_n hx hb dL_law_536 rfl (lv_at hl 0 rfl) ?_
      refine lv_iload_n hx hb dL_law_537 rfl (lv_at hl 3 rfl) ?_
      refine lv_iconst (v := 1) hx hb dL_law_538 (by decide) ?_
      refine lv_iadd hx hb dL_law_539 ?_
      refine va_sld hx hb hX hbl hbA hS q1 dL_law_540 ?_
      refine lv_aload_n hx hb dL_law_541 rfl (lv_at hl 0 rfl) ?_
      refine lv_iload_n hx hb dL_law_542 rfl (lv_at hl 3 rfl) ?_
      refine lv_iconst (v := 2) hx hb dL_law_543 (by decide) ?_
      refine lv_iadd hx hb dL_law_544 ?_
      refine va_sld hx hb hX hbl hbA hS q2 dL_law_545 ?_
      refine lw_callM (as := [.int (xs (x3 + 1).toNatClampNeg), .int (xs (x3 + 2).toNatClampNeg)]) (st := [.int r]) E0 hPX hPM hS hl.1 (c_X11_hand false g2) jy_X11_hand rfl ki_yX11_hand ks_yX11_hand kl_RL_67 dL_law_546 rfl rfl (Nat.le_of_ble_eq_true rfl) (by decide) (by decide) (by decide) (fun H locs hPX hPM hS => ?_)
      refine lv_icmp_eq (tgt := 1107) hx hb dL_law_549 (by decide) (fun _ => ?_) (fun h => absurd rfl h)
      refine lv_iinc (v := x3 + 4) (lv' := [(3, .int (x3 + 4)), (0, .ref b), (1, .ref (bX + 1)), (2, .ref (bX + 71))]) hx hb dL_law_1107 hl (k := 3) rfl rfl (by decide) rfl (fun ls hl => ?_)
      refine lv_goto (tgt := 18) hx hb dL_law_1110 (by decide) ?_
      exact ih (k + 4) (x3 + 4) (by omega) (by rw [ex3]; exact nI_add k 4) (by omega) σ2 τ2 hR2 H locs hPX hPM hS ls (lv_sub hl [1, 2, 3, 0] rfl)
    by_cases w12 : w = 12
    · refine lv_tableIn (tgt := 554) hx hb dL_law_32 (by rw [w12]; decide) (by rw [w12]; decide) (by rw [w12]; rfl) (by decide) ?_
      refine lv_aload_n hx hb dL_law_554 rfl (lv_at hl 1 rfl) ?_
      refine lv_aload_n hx hb dL_law_555 rfl (lv_at hl 0 rfl) ?_
      refine lv_iload_n hx hb dL_law_556 rfl (lv_at hl 3 rfl) ?_
      refine lv_iconst (v := 1) hx hb dL_law_557 (by decide) ?_
      refine lv_iadd hx hb dL_law_558 ?_
      refine va_sld hx hb hX hbl hbA hS q1 dL_law_559 ?_
      obtain ⟨r, σ2, τ2, g1, g2, hR2⟩ := h_begin k σ τ (xs (x3 + 1).toNatClampNeg) (by omega) hR
      refine lw_callX (as := [.int (xs (x3 + 1).toNatClampNeg)]) (st := []) E0 hPX hPM hS hl.1 (c_X10_begin false g1) jy_X10_begin rfl ki_yX10_begin ks_yX10_begin kl_RL_68 dL_law_560 rfl rfl (Nat.le_of_ble_eq_true rfl) (by decide) (by decide) (by decide) (fun H locs hPX hPM hS => ?_)
      refine lv_aload_n hx hb dL_law_563 rfl (lv_at hl 2 rfl) ?_
      refine lv_aload_n hx hb dL_law_564 rfl (lv_at hl 0 rfl) ?_
      refine lv_iload_n hx hb dL_law_565 rfl (lv_at hl 3 rfl) ?_
      refine lv_iconst (v := 1) hx hb dL_law_566 (by decide) ?_
      refine lv_iadd hx hb dL_law_567 ?_
      refine va_sld hx hb hX hbl hbA hS q1 dL_law_568 ?_
      refine lw_callM (as := [.int (xs (x3 + 1).toNatClampNeg)]) (st := [.int r]) E0 hPX hPM hS hl.1 (c_X11_begin false g2) jy_X11_begin rfl ki_yX11_begin ks_yX11_begin kl_RL_71 dL_law_569 rfl rfl (Nat.le_of_ble_eq_true rfl) (by decide) (by decide) (by decide) (fun H locs hPX hPM hS => ?_)
      refine lv_icmp_eq (tgt := 1107) hx hb dL_law_572 (by decide) (fun _ => ?_) (fun h => absurd rfl h)
      refine lv_iinc (v := x3 + 4) (lv' := [(3, .int (x3 + 4)), (0, .ref b), (1, .ref (bX + 1)), (2, .ref (bX + 71))]) hx hb dL_law_1107 hl (k := 3) rfl rfl (by decide) rfl (fun ls hl => ?_)
      refine lv_goto (tgt := 18) hx hb dL_law_1110 (by decide) ?_
      exact ih (k + 4) (x3 + 4) (by omega) (by rw [ex3]; exact nI_add k 4) (by omega) σ2 τ2 hR2 H locs hPX hPM hS ls (lv_sub hl [1, 2, 3, 0] rfl)
    by_cases w13 : w = 13
    · refine lv_tableIn (tgt := 577) hx hb dL_law_32 (by rw [w13]; decide) (by rw [w13]; decide) (by rw [w13]; rfl) (by decide) ?_
      refine lv_aload_n hx hb dL_law_577 rfl (lv_at hl 1 rfl) ?_
      refine lv_aload_n hx hb dL_law_578 rfl (lv_at hl 0 rfl) ?_
      refine lv_iload_n hx hb dL_law_579 rfl (lv_at hl 3 rfl) ?_
      refine lv_iconst (v := 1) hx hb dL_law_580 (by decide) ?_
      refine lv_iadd hx hb dL_law_581 ?_
      refine va_sld hx hb hX hbl hbA hS q1 dL_law_582 ?_
      refine lv_aload_n hx hb dL_law_583 rfl (lv_at hl 0 rfl) ?_
      refine lv_iload_n hx hb dL_law_584 rfl (lv_at hl 3 rfl) ?_
      refine lv_iconst (v := 2) hx hb dL_law_585 (by decide) ?_
      refine lv_iadd hx hb dL_law_586 ?_
      refine va_sld hx hb hX hbl hbA hS q2 dL_law_587 ?_
      obtain ⟨r, σ2, τ2, g1, g2, hR2⟩ := h_drift k σ τ (xs (x3 + 1).toNatClampNeg) (xs (x3 + 2).toNatClampNeg) (by omega) hR
      refine lw_callX (as := [.int (xs (x3 + 1).toNatClampNeg), .int (xs (x3 + 2).toNatClampNeg)]) (st := []) E0 hPX hPM hS hl.1 (c_X10_drift false g1) jy_X10_drift rfl ki_yX10_drift ks_yX10_drift kl_RL_72 dL_law_588 rfl rfl (Nat.le_of_ble_eq_true rfl) (by decide) (by decide) (by decide) (fun H locs hPX hPM hS => ?_)
      refine lv_aload_n hx hb dL_law_591 rfl (lv_at hl 2 rfl) ?_
      refine lv_aload_n hx hb dL_law_592 rfl (lv_at hl 0 rfl) ?_
      refine lv_iload_n hx hb dL_law_593 rfl (lv_at hl 3 rfl) ?_
      refine lv_iconst (v := 1) hx hb dL_law_594 (by decide) ?_
      refine lv_iadd hx hb dL_law_595 ?_
      refine va_sld hx hb hX hbl hbA hS q1 dL_law_596 ?_
      refine lv_aload_n hx hb dL_law_597 rfl (lv_at hl 0 rfl) ?_
      refine lv_iload_n hx hb dL_law_598 rfl (lv_at hl 3 rfl) ?_
      refine lv_iconst (v := 2) hx hb dL_law_599 (by decide) ?_
      refine lv_iadd hx hb dL_law_600 ?_
      refine va_sld hx hb hX hbl hbA hS q2 dL_law_601 ?_
      refine lw_callM (as := [.int (xs (x3 + 1).toNatClampNeg), .int (xs (x3 + 2).toNatClampNeg)]) (st := [.int r]) E0 hPX hPM hS hl.1 (c_X11_drift false g2) jy_X11_drift rfl ki_yX11_drift ks_yX11_drift kl_RL_75 dL_law_602 rfl rfl (Nat.le_of_ble_eq_true rfl) (by decide) (by decide) (by decide) (fun H locs hPX hPM hS => ?_)
      refine lv_icmp_eq (tgt := 1107) hx hb dL_law_605 (by decide) (fun _ => ?_) (fun h => absurd rfl h)
      refine lv_iinc (v := x3 + 4) (lv' := [(3, .int (x3 + 4)), (0, .ref b), (1, .ref (bX + 1)), (2, .ref (bX + 71))]) hx hb dL_law_1107 hl (k := 3) rfl rfl (by decide) rfl (fun ls hl => ?_)
      refine lv_goto (tgt := 18) hx hb dL_law_1110 (by decide) ?_
      exact ih (k + 4) (x3 + 4) (by omega) (by rw [ex3]; exact nI_add k 4) (by omega) σ2 τ2 hR2 H locs hPX hPM hS ls (lv_sub hl [1, 2, 3, 0] rfl)
    by_cases w14 : w = 14
    · refine lv_tableIn (tgt := 610) hx hb dL_law_32 (by rw [w14]; decide) (by rw [w14]; decide) (by rw [w14]; rfl) (by decide) ?_
      refine lv_aload_n hx hb dL_law_610 rfl (lv_at hl 1 rfl) ?_
      refine lv_aload_n hx hb dL_law_611 rfl (lv_at hl 0 rfl) ?_
      refine lv_iload_n hx hb dL_law_612 rfl (lv_at hl 3 rfl) ?_
      refine lv_iconst (v := 1) hx hb dL_law_613 (by decide) ?_
      refine lv_iadd hx hb dL_law_614 ?_
      refine va_sld hx hb hX hbl hbA hS q1 dL_law_615 ?_
      refine lv_aload_n hx hb dL_law_616 rfl (lv_at hl 0 rfl) ?_
      refine lv_iload_n hx hb dL_law_617 rfl (lv_at hl 3 rfl) ?_
      refine lv_iconst (v := 2) hx hb dL_law_618 (by decide) ?_
      refine lv_iadd hx hb dL_law_619 ?_
      refine va_sld hx hb hX hbl hbA hS q2 dL_law_620 ?_
      obtain ⟨r, σ2, τ2, g1, g2, hR2⟩ := h_comes k σ τ (xs (x3 + 1).toNatClampNeg) (xs (x3 + 2).toNatClampNeg) (by omega) hR
      refine lw_callX (as := [.int (xs (x3 + 1).toNatClampNeg), .int (xs (x3 + 2).toNatClampNeg)]) (st := []) E0 hPX hPM hS hl.1 (c_X10_comes false g1) jy_X10_comes rfl ki_yX10_comes ks_yX10_comes kl_RL_76 dL_law_621 rfl rfl (Nat.le_of_ble_eq_true rfl) (by decide) (by decide) (by decide) (fun H locs hPX hPM hS => ?_)
      refine lv_aload_n hx hb dL_law_624 rfl (lv_at hl 2 rfl) ?_
      refine lv_aload_n hx hb dL_law_625 rfl (lv_at hl 0 rfl) ?_
      refine lv_iload_n hx hb dL_law_626 rfl (lv_at hl 3 rfl) ?_
      refine lv_iconst (v := 1) hx hb dL_law_627 (by decide) ?_
      refine lv_iadd hx hb dL_law_628 ?_
      refine va_sld hx hb hX hbl hbA hS q1 dL_law_629 ?_
      refine lv_aload_n hx hb dL_law_630 rfl (lv_at hl 0 rfl) ?_
      refine lv_iload_n hx hb dL_law_631 rfl (lv_at hl 3 rfl) ?_
      refine lv_iconst (v := 2) hx hb dL_law_632 (by decide) ?_
      refine lv_iadd hx hb dL_law_633 ?_
      refine va_sld hx hb hX hbl hbA hS q2 dL_law_634 ?_
      refine lw_callM (as := [.int (xs (x3 + 1).toNatClampNeg), .int (xs (x3 + 2).toNatClampNeg)]) (st := [.int r]) E0 hPX hPM hS hl.1 (c_X11_comes false g2) jy_X11_comes rfl ki_yX11_comes ks_yX11_comes kl_RL_79 dL_law_635 rfl rfl (Nat.le_of_ble_eq_true rfl) (by decide) (by decide) (by decide) (fun H locs hPX hPM hS => ?_)
      refine lv_icmp_eq (tgt := 1107) hx hb dL_law_638 (by decide) (fun _ => ?_) (fun h => absurd rfl h)
      refine lv_iinc (v := x3 + 4) (lv' := [(3, .int (x3 + 4)), (0, .ref b), (1, .ref (bX + 1)), (2, .ref (bX + 71))]) hx hb dL_law_1107 hl (k := 3) rfl rfl (by decide) rfl (fun ls hl => ?_)
      refine lv_goto (tgt := 18) hx hb dL_law_1110 (by decide) ?_
      exact ih (k + 4) (x3 + 4) (by omega) (by rw [ex3]; exact nI_add k 4) (by omega) σ2 τ2 hR2 H locs hPX hPM hS ls (lv_sub hl [1, 2, 3, 0] rfl)
    by_cases w15 : w = 15
    · refine lv_tableIn (tgt := 643) hx hb dL_law_32 (by rw [w15]; decide) (by rw [w15]; decide) (by rw [w15]; rfl) (by decide) ?_
      refine lv_aload_n hx hb dL_law_643 rfl (lv_at hl 1 rfl) ?_
      refine lv_aload_n hx hb dL_law_644 rfl (lv_at hl 0 rfl) ?_
      refine lv_iload_n hx hb dL_law_645 rfl (lv_at hl 3 rfl) ?_
      refine lv_iconst (v := 1) hx hb dL_law_646 (by decide) ?_
      refine lv_iadd hx hb dL_law_647 ?_
      refine va_sld hx hb hX hbl hbA hS q1 dL_law_648 ?_
      refine lv_aload_n hx hb dL_law_649 rfl (lv_at hl 0 rfl) ?_
      refine lv_iload_n hx hb dL_law_650 rfl (lv_at hl 3 rfl) ?_
      refine lv_iconst (v := 2) hx hb dL_law_651 (by decide) ?_
      refine lv_iadd hx hb dL_law_652 ?_
      refine va_sld hx hb hX hbl hbA hS q2 dL_law_653 ?_
      obtain ⟨r, σ2, τ2, g1, g2, hR2⟩ := h_end k σ τ (xs (x3 + 1).toNatClampNeg) (xs (x3 + 2).toNatClampNeg) (by omega) hR
      refine lw_callX (as := [.int (xs (x3 + 1).toNatClampNeg), .int (xs (x3 + 2).toNatClampNeg)]) (st := []) E0 hPX hPM hS hl.1 (c_X10_end false g1) jy_X10_end rfl ki_yX10_end ks_yX10_end kl_RL_80 dL_law_654 rfl rfl (Nat.le_of_ble_eq_true rfl) (by decide) (by decide) (by decide) (fun H locs hPX hPM hS => ?_)
      refine lv_aload_n hx hb dL_law_657 rfl (lv_at hl 2 rfl) ?_
      refine lv_aload_n hx hb dL_law_658 rfl (lv_at hl 0 rfl) ?_
      refine lv_iload_n hx hb dL_law_659 rfl (lv_at hl 3 rfl) ?_
      refine lv_iconst (v := 1) hx hb dL_law_660 (by decide) ?_
      refine lv_iadd hx hb dL_law_661 ?_
      refine va_sld hx hb hX hbl hbA hS q1 dL_law_662 ?_
      refine lv_aload_n hx hb dL_law_663 rfl (lv_at hl 0 rfl) ?_
      refine lv_iload_n hx hb dL_law_664 rfl (lv_at hl 3 rfl) ?_
      refine lv_iconst (v := 2) hx hb dL_law_665 (by decide) ?_
      refine lv_iadd hx hb dL_law_666 ?_
      refine va_sld hx hb hX hbl hbA hS q2 dL_law_667 ?_
      refine lw_callM (as := [.int (xs (x3 + 1).toNatClampNeg), .int (xs (x3 + 2).toNatClampNeg)]) (st := [.int r]) E0 hPX hPM hS hl.1 (c_X11_end false g2) jy_X11_end rfl ki_yX11_end ks_yX11_end kl_RL_83 dL_law_668 rfl rfl (Nat.le_of_ble_eq_true rfl) (by decide) (by decide) (by decide) (fun H locs hPX hPM hS => ?_)
      refine lv_icmp_eq (tgt := 1107) hx hb dL_law_671 (by decide) (fun _ => ?_) (fun h => absurd rfl h)
      refine lv_iinc (v := x3 + 4) (lv' := [(3, .int (x3 + 4)), (0, .ref b), (1, .ref (bX + 1)), (2, .ref (bX + 71))]) hx hb dL_law_1107 hl (k := 3) rfl rfl (by decide) rfl (fun ls hl => ?_)
      refine lv_goto (tgt := 18) hx hb dL_law_1110 (by decide) ?_
      exact ih (k + 4) (x3 + 4) (by omega) (by rw [ex3]; exact nI_add k 4) (by omega) σ2 τ2 hR2 H locs hPX hPM hS ls (lv_sub hl [1, 2, 3, 0] rfl)
    by_cases w16 : w = 16
    · refine lv_tableIn (tgt := 676) hx hb dL_law_32 (by rw [w16]; decide) (by rw [w16]; decide) (by rw [w16]; rfl) (by decide) ?_
      refine lv_aload_n hx hb dL_law_676 rfl (lv_at hl 1 rfl) ?_
      refine lv_aload_n hx hb dL_law_677 rfl (lv_at hl 0 rfl) ?_
      refine lv_iload_n hx hb dL_law_678 rfl (lv_at hl 3 rfl) ?_
      refine lv_iconst (v := 1) hx hb dL_law_679 (by decide) ?_
      refine lv_iadd hx hb dL_law_680 ?_
      refine va_sld hx hb hX hbl hbA hS q1 dL_law_681 ?_
      refine lv_aload_n hx hb dL_law_682 rfl (lv_at hl 0 rfl) ?_
      refine lv_iload_n hx hb dL_law_683 rfl (lv_at hl 3 rfl) ?_
      refine lv_iconst (v := 2) hx hb dL_law_684 (by decide) ?_
      refine lv_iadd hx hb dL_law_685 ?_
      refine va_sld hx hb hX hbl hbA hS q2 dL_law_686 ?_
      obtain ⟨r, σ2, τ2, g1, g2, hR2⟩ := h_forces k σ τ (xs (x3 + 1).toNatClampNeg) (xs (x3 + 2).toNatClampNeg) (by omega) hR
      refine lw_callX (as := [.int (xs (x3 + 1).toNatClampNeg), .int (xs (x3 + 2).toNatClampNeg)]) (st := []) E0 hPX hPM hS hl.1 (c_X10_forces false g1) jy_X10_forces rfl ki_yX10_forces ks_yX10_forces kl_RL_84 dL_law_687 rfl rfl (Nat.le_of_ble_eq_true rfl) (by decide) (by decide) (by decide) (fun H locs hPX hPM hS => ?_)
      refine lv_aload_n hx hb dL_law_690 rfl (lv_at hl 2 rfl) ?_
      refine lv_aload_n hx hb dL_law_691 rfl (lv_at hl 0 rfl) ?_
      refine lv_iload_n hx hb dL_law_692 rfl (lv_at hl 3 rfl) ?_
      refine lv_iconst (v := 1) hx hb dL_law_693 (by decide) ?_
      refine lv_iadd hx hb dL_law_694 ?_
      refine va_sld hx hb hX hbl hbA hS q1 dL_law_695 ?_
      refine lv_aload_n hx hb dL_law_696 rfl (lv_at hl 0 rfl) ?_
      refine lv_iload_n hx hb dL_law_697 rfl (lv_at hl 3 rfl) ?_
      refine lv_iconst (v := 2) hx hb dL_law_698 (by decide) ?_
      refine lv_iadd hx hb dL_law_699 ?_
      refine va_sld hx hb hX hbl hbA hS q2 dL_law_700 ?_
      refine lw_callM (as := [.int (xs (x3 + 1).toNatClampNeg), .int (xs (x3 + 2).toNatClampNeg)]) (st := [.int r]) E0 hPX hPM hS hl.1 (c_X11_forces false g2) jy_X11_forces rfl ki_yX11_forces ks_yX11_forces kl_RL_87 dL_law_701 rfl rfl (Nat.le_of_ble_eq_true rfl) (by decide) (by decide) (by decide) (fun H locs hPX hPM hS => ?_)
      refine lv_icmp_eq (tgt := 1107) hx hb dL_law_704 (by decide) (fun _ => ?_) (fun h => absurd rfl h)
      refine lv_iinc (v := x3 + 4) (lv' := [(3, .int (x3 + 4)), (0, .ref b), (1, .ref (bX + 1)), (2, .ref (bX + 71))]) hx hb dL_law_1107 hl (k := 3) rfl rfl (by decide) rfl (fun ls hl => ?_)
      refine lv_goto (tgt := 18) hx hb dL_law_1110 (by decide) ?_
      exact ih (k + 4) (x3 + 4) (by omega) (by rw [ex3]; exact nI_add k 4) (by omega) σ2 τ2 hR2 H locs hPX hPM hS ls (lv_sub hl [1, 2, 3, 0] rfl)
    by_cases w17 : w = 17
    · refine lv_tableIn (tgt := 709) hx hb dL_law_32 (by rw [w17]; decide) (by rw [w17]; decide) (by rw [w17]; rfl) (by decide) ?_
      refine lv_aload_n hx hb dL_law_709 rfl (lv_at hl 1 rfl) ?_
      refine lv_aload_n hx hb dL_law_710 rfl (lv_at hl 0 rfl) ?_
      refine lv_iload_n hx hb dL_law_711 rfl (lv_at hl 3 rfl) ?_
      refine lv_iconst (v := 1) hx hb dL_law_712 (by decide) ?_
      refine lv_iadd hx hb dL_law_713 ?_
      refine va_sld hx hb hX hbl hbA hS q1 dL_law_714 ?_
      refine lv_aload_n hx hb dL_law_715 rfl (lv_at hl 0 rfl) ?_
      refine lv_iload_n hx hb dL_law_716 rfl (lv_at hl 3 rfl) ?_
      refine lv_iconst (v := 2) hx hb dL_law_717 (by decide) ?_
      refine lv_iadd hx hb dL_law_718 ?_
      refine va_sld hx hb hX hbl hbA hS q2 dL_law_719 ?_
      obtain ⟨r, σ2, τ2, g1, g2, hR2⟩ := h_best k σ τ (xs (x3 + 1).toNatClampNeg) (xs (x3 + 2).toNatClampNeg) (by omega) hR
      refine lw_callX (as := [.int (xs (x3 + 1).toNatClampNeg), .int (xs (x3 + 2).toNatClampNeg)]) (st := []) E0 hPX hPM hS hl.1 (c_X10_best false g1) jy_X10_best rfl ki_yX10_best ks_yX10_best kl_RL_88 dL_law_720 rfl rfl (Nat.le_of_ble_eq_true rfl) (by decide) (by decide) (by decide) (fun H locs hPX hPM hS => ?_)
      refine lv_aload_n hx hb dL_law_723 rfl (lv_at hl 2 rfl) ?_
      refine lv_aload_n hx hb dL_law_724 rfl (lv_at hl 0 rfl) ?_
      refine lv_iload_n hx hb dL_law_725 rfl (lv_at hl 3 rfl) ?_
      refine lv_iconst (v := 1) hx hb dL_law_726 (by decide) ?_
      refine lv_iadd hx hb dL_law_727 ?_
      refine va_sld hx hb hX hbl hbA hS q1 dL_law_728 ?_
      refine lv_aload_n hx hb dL_law_729 rfl (lv_at hl 0 rfl) ?_
      refine lv_iload_n hx hb dL_law_730 rfl (lv_at hl 3 rfl) ?_
      refine lv_iconst (v := 2) hx hb dL_law_731 (by decide) ?_
      refine lv_iadd hx hb dL_law_732 ?_
      refine va_sld hx hb hX hbl hbA hS q2 dL_law_733 ?_
      refine lw_callM (as := [.int (xs (x3 + 1).toNatClampNeg), .int (xs (x3 + 2).toNatClampNeg)]) (st := [.int r]) E0 hPX hPM hS hl.1 (c_X11_best false g2) jy_X11_best rfl ki_yX11_best ks_yX11_best kl_RL_91 dL_law_734 rfl rfl (Nat.le_of_ble_eq_true rfl) (by decide) (by decide) (by decide) (fun H locs hPX hPM hS => ?_)
      refine lv_icmp_eq (tgt := 1107) hx hb dL_law_737 (by decide) (fun _ => ?_) (fun h => absurd rfl h)
      refine lv_iinc (v := x3 + 4) (lv' := [(3, .int (x3 + 4)), (0, .ref b), (1, .ref (bX + 1)), (2, .ref (bX + 71))]) hx hb dL_law_1107 hl (k := 3) rfl rfl (by decide) rfl (fun ls hl => ?_)
      refine lv_goto (tgt := 18) hx hb dL_law_1110 (by decide) ?_
      exact ih (k + 4) (x3 + 4) (by omega) (by rw [ex3]; exact nI_add k 4) (by omega) σ2 τ2 hR2 H locs hPX hPM hS ls (lv_sub hl [1, 2, 3, 0] rfl)
    by_cases w18 : w = 18
    · refine lv_tableIn (tgt := 742) hx hb dL_law_32 (by rw [w18]; decide) (by rw [w18]; decide) (by rw [w18]; rfl) (by decide) ?_
      refine lv_aload_n hx hb dL_law_742 rfl (lv_at hl 1 rfl) ?_
      refine lv_aload_n hx hb dL_law_743 rfl (lv_at hl 0 rfl) ?_
      refine lv_iload_n hx hb dL_law_744 rfl (lv_at hl 3 rfl) ?_
      refine lv_iconst (v := 1) hx hb dL_law_745 (by decide) ?_
      refine lv_iadd hx hb dL_law_746 ?_
      refine va_sld hx hb hX hbl hbA hS q1 dL_law_747 ?_
      obtain ⟨r, σ2, τ2, g1, g2, hR2⟩ := h_sure k σ τ (xs (x3 + 1).toNatClampNeg) (by omega) hR
      refine lw_callX (as := [.int (xs (x3 + 1).toNatClampNeg)]) (st := []) E0 hPX hPM hS hl.1 (c_X10_sure false g1) jy_X10_sure rfl ki_yX10_sure ks_yX10_sure kl_RL_92 dL_law_748 rfl rfl (Nat.le_of_ble_eq_true rfl) (by decide) (by decide) (by decide) (fun H locs hPX hPM hS => ?_)
      refine lv_aload_n hx hb dL_law_751 rfl (lv_at hl 2 rfl) ?_
      refine lv_aload_n hx hb dL_law_752 rfl (lv_at hl 0 rfl) ?_
      refine lv_iload_n hx hb dL_law_753 rfl (lv_at hl 3 rfl) ?_
      refine lv_iconst (v := 1) hx hb dL_law_754 (by decide) ?_
      refine lv_iadd hx hb dL_law_755 ?_
      refine va_sld hx hb hX hbl hbA hS q1 dL_law_756 ?_
      refine lw_callM (as := [.int (xs (x3 + 1).toNatClampNeg)]) (st := [.int r]) E0 hPX hPM hS hl.1 (c_X11_sure false g2) jy_X11_sure rfl ki_yX11_sure ks_yX11_sure kl_RL_95 dL_law_757 rfl rfl (Nat.le_of_ble_eq_true rfl) (by decide) (by decide) (by decide) (fun H locs hPX hPM hS => ?_)
      refine lv_icmp_eq (tgt := 1107) hx hb dL_law_760 (by decide) (fun _ => ?_) (fun h => absurd rfl h)
      refine lv_iinc (v := x3 + 4) (lv' := [(3, .int (x3 + 4)), (0, .ref b), (1, .ref (bX + 1)), (2, .ref (bX + 71))]) hx hb dL_law_1107 hl (k := 3) rfl rfl (by decide) rfl (fun ls hl => ?_)
      refine lv_goto (tgt := 18) hx hb dL_law_1110 (by decide) ?_
      exact ih (k + 4) (x3 + 4) (by omega) (by rw [ex3]; exact nI_add k 4) (by omega) σ2 τ2 hR2 H locs hPX hPM hS ls (lv_sub hl [1, 2, 3, 0] rfl)
    by_cases w19 : w = 19
    · refine lv_tableIn (tgt := 765) hx hb dL_law_32 (by rw [w19]; decide) (by rw [w19]; decide) (by rw [w19]; rfl) (by decide) ?_
      refine lv_aload_n hx hb dL_law_765 rfl (lv_at hl 1 rfl) ?_
      refine lv_aload_n hx hb dL_law_766 rfl (lv_at hl 0 rfl) ?_
      refine lv_iload_n hx hb dL_law_767 rfl (lv_at hl 3 rfl) ?_
      refine lv_iconst (v := 1) hx hb dL_law_768 (by decide) ?_
      refine lv_iadd hx hb dL_law_769 ?_
      refine va_sld hx hb hX hbl hbA hS q1 dL_law_770 ?_
      refine lv_aload_n hx hb dL_law_771 rfl (lv_at hl 0 rfl) ?_
      refine lv_iload_n hx hb dL_law_772 rfl (lv_at hl 3 rfl) ?_
      refine lv_iconst (v := 2) hx hb dL_law_773 (by decide) ?_
      refine lv_iadd hx hb dL_law_774 ?_
      refine va_sld hx hb hX hbl hbA hS q2 dL_law_775 ?_
      obtain ⟨r, σ2, τ2, g1, g2, hR2⟩ := h_aside k σ τ (xs (x3 + 1).toNatClampNeg) (xs (x3 + 2).toNatClampNeg) (by omega) hR
      refine lw_callX (as := [.int (xs (x3 + 1).toNatClampNeg), .int (xs (x3 + 2).toNatClampNeg)]) (st := []) E0 hPX hPM hS hl.1 (c_X10_aside false g1) jy_X10_aside rfl ki_yX10_aside ks_yX10_aside kl_RL_96 dL_law_776 rfl rfl (Nat.le_of_ble_eq_true rfl) (by decide) (by decide) (by decide) (fun H locs hPX hPM hS => ?_)
      refine lv_aload_n hx hb dL_law_779 rfl (lv_at hl 2 rfl) ?_
      refine lv_aload_n hx hb dL_law_780 rfl (lv_at hl 0 rfl) ?_
      refine lv_iload_n hx hb dL_law_781 rfl (lv_at hl 3 rfl) ?_
      refine lv_iconst (v := 1) hx hb dL_law_782 (by decide) ?_
      refine lv_iadd hx hb dL_law_783 ?_
      refine va_sld hx hb hX hbl hbA hS q1 dL_law_784 ?_
      refine lv_aload_n hx hb dL_law_785 rfl (lv_at hl 0 rfl) ?_
      refine lv_iload_n hx hb dL_law_786 rfl (lv_at hl 3 rfl) ?_
      refine lv_iconst (v := 2) hx hb dL_law_787 (by decide) ?_
      refine lv_iadd hx hb dL_law_788 ?_
      refine va_sld hx hb hX hbl hbA hS q2 dL_law_789 ?_
      refine lw_callM (as := [.int (xs (x3 + 1).toNatClampNeg), .int (xs (x3 + 2).toNatClampNeg)]) (st := [.int r]) E0 hPX hPM hS hl.1 (c_X11_aside false g2) jy_X11_aside rfl ki_yX11_aside ks_yX11_aside kl_RL_99 dL_law_790 rfl rfl (Nat.le_of_ble_eq_true rfl) (by decide) (by decide) (by decide) (fun H locs hPX hPM hS => ?_)
      refine lv_icmp_eq (tgt := 1107) hx hb dL_law_793 (by decide) (fun _ => ?_) (fun h => absurd rfl h)
      refine lv_iinc (v := x3 + 4) (lv' := [(3, .int (x3 + 4)), (0, .ref b), (1, .ref (bX + 1)), (2, .ref (bX + 71))]) hx hb dL_law_1107 hl (k := 3) rfl rfl (by decide) rfl (fun ls hl => ?_)
      refine lv_goto (tgt := 18) hx hb dL_law_1110 (by decide) ?_
      exact ih (k + 4) (x3 + 4) (by omega) (by rw [ex3]; exact nI_add k 4) (by omega) σ2 τ2 hR2 H locs hPX hPM hS ls (lv_sub hl [1, 2, 3, 0] rfl)
    by_cases w20 : w = 20
    · refine lv_tableIn (tgt := 798) hx hb dL_law_32 (by rw [w20]; decide) (by rw [w20]; decide) (by rw [w20]; rfl) (by decide) ?_
      refine lv_aload_n hx hb dL_law_798 rfl (lv_at hl 1 rfl) ?_
      refine lv_aload_n hx hb dL_law_799 rfl (lv_at hl 0 rfl) ?_
      refine lv_iload_n hx hb dL_law_800 rfl (lv_at hl 3 rfl) ?_
      refine lv_iconst (v := 1) hx hb dL_law_801 (by decide) ?_
      refine lv_iadd hx hb dL_law_802 ?_
      refine va_sld hx hb hX hbl hbA hS q1 dL_law_803 ?_
      refine lv_aload_n hx hb dL_law_804 rfl (lv_at hl 0 rfl) ?_
      refine lv_iload_n hx hb dL_law_805 rfl (lv_at hl 3 rfl) ?_
      refine lv_iconst (v := 2) hx hb dL_law_806 (by decide) ?_
      refine lv_iadd hx hb dL_law_807 ?_
      refine va_sld hx hb hX hbl hbA hS q2 dL_law_808 ?_
      refine lv_aload_n hx hb dL_law_809 rfl (lv_at hl 0 rfl) ?_
      refine lv_iload_n hx hb dL_law_810 rfl (lv_at hl 3 rfl) ?_
      refine lv_iconst (v := 3) hx hb dL_law_811 (by decide) ?_
      refine lv_iadd hx hb dL_law_812 ?_
      refine va_sld hx hb hX hbl hbA hS q3 dL_law_813 ?_
      obtain ⟨r, σ2, τ2, g1, g2, hR2⟩ := h_fresh k σ τ (xs (x3 + 1).toNatClampNeg) (xs (x3 + 2).toNatClampNeg) (xs (x3 + 3).toNatClampNeg) (by omega) hR
      refine lw_callX (as := [.int (xs (x3 + 1).toNatClampNeg), .int (xs (x3 + 2).toNatClampNeg), .int (xs (x3 + 3).toNatClampNeg)]) (st := []) E0 hPX hPM hS hl.1 (c_X10_fresh false g1) jy_X10_fresh rfl ki_yX10_fresh ks_yX10_fresh kl_RL_100 dL_law_814 rfl rfl (Nat.le_of_ble_eq_true rfl) (by decide) (by decide) (by decide) (fun H locs hPX hPM hS => ?_)
      refine lv_aload_n hx hb dL_law_817 rfl (lv_at hl 2 rfl) ?_
      refine lv_aload_n hx hb dL_law_818 rfl (lv_at hl 0 rfl) ?_
      refine lv_iload_n hx hb dL_law_819 rfl (lv_at hl 3 rfl) ?_
      refine lv_iconst (v := 1) hx hb dL_law_820 (by decide) ?_
      refine lv_iadd hx hb dL_law_821 ?_
      refine va_sld hx hb hX hbl hbA hS q1 dL_law_822 ?_
      refine lv_aload_n hx hb dL_law_823 rfl (lv_at hl 0 rfl) ?_
      refine lv_iload_n hx hb dL_law_824 rfl (lv_at hl 3 rfl) ?_
      refine lv_iconst (v := 2) hx hb dL_law_825 (by decide) ?_
      refine lv_iadd hx hb dL_law_826 ?_
      refine va_sld hx hb hX hbl hbA hS q2 dL_law_827 ?_
      refine lv_aload_n hx hb dL_law_828 rfl (lv_at hl 0 rfl) ?_
      refine lv_iload_n hx hb dL_law_829 rfl (lv_at hl 3 rfl) ?_
      refine lv_iconst (v := 3) hx hb dL_law_830 (by decide) ?_
      refine lv_iadd hx hb dL_law_831 ?_
      refine va_sld hx hb hX hbl hbA hS q3 dL_law_832 ?_
      refine lw_callM (as := [.int (xs (x3 + 1).toNatClampNeg), .int (xs (x3 + 2).toNatClampNeg), .int (xs (x3 + 3).toNatClampNeg)]) (st := [.int r]) E0 hPX hPM hS hl.1 (c_X11_fresh false g2) jy_X11_fresh rfl ki_yX11_fresh ks_yX11_fresh kl_RL_104 dL_law_833 rfl rfl (Nat.le_of_ble_eq_true rfl) (by decide) (by decide) (by decide) (fun H locs hPX hPM hS => ?_)
      refine lv_icmp_eq (tgt := 1107) hx hb dL_law_836 (by decide) (fun _ => ?_) (fun h => absurd rfl h)
      refine lv_iinc (v := x3 + 4) (lv' := [(3, .int (x3 + 4)), (0, .ref b), (1, .ref (bX + 1)), (2, .ref (bX + 71))]) hx hb dL_law_1107 hl (k := 3) rfl rfl (by decide) rfl (fun ls hl => ?_)
      refine lv_goto (tgt := 18) hx hb dL_law_1110 (by decide) ?_
      exact ih (k + 4) (x3 + 4) (by omega) (by rw [ex3]; exact nI_add k 4) (by omega) σ2 τ2 hR2 H locs hPX hPM hS ls (lv_sub hl [1, 2, 3, 0] rfl)
    by_cases w21 : w = 21
    · refine lv_tableIn (tgt := 841) hx hb dL_law_32 (by rw [w21]; decide) (by rw [w21]; decide) (by rw [w21]; rfl) (by decide) ?_
      refine lv_aload_n hx hb dL_law_841 rfl (lv_at hl 1 rfl) ?_
      refine lv_aload_n hx hb dL_law_842 rfl (lv_at hl 0 rfl) ?_
      refine lv_iload_n hx hb dL_law_843 rfl (lv_at hl 3 rfl) ?_
      refine lv_iconst (v := 1) hx hb dL_law_844 (by decide) ?_
      refine lv_iadd hx hb dL_law_845 ?_
      refine va_sld hx hb hX hbl hbA hS q1 dL_law_846 ?_
      obtain ⟨r, σ2, τ2, g1, g2, hR2⟩ := h_most k σ τ (xs (x3 + 1).toNatClampNeg) (by omega) hR
      refine lw_callX (as := [.int (xs (x3 + 1).toNatClampNeg)]) (st := []) E0 hPX hPM hS hl.1 (c_X10_most false g1) jy_X10_most rfl ki_yX10_most ks_yX10_most kl_RL_105 dL_law_847 rfl rfl (Nat.le_of_ble_eq_true rfl) (by decide) (by decide) (by decide) (fun H locs hPX hPM hS => ?_)
      refine lv_aload_n hx hb dL_law_850 rfl (lv_at hl 2 rfl) ?_
      refine lv_aload_n hx hb dL_law_851 rfl (lv_at hl 0 rfl) ?_
      refine lv_iload_n hx hb dL_law_852 rfl (lv_at hl 3 rfl) ?_
      refine lv_iconst (v := 1) hx hb dL_law_853 (by decide) ?_
      refine lv_iadd hx hb dL_law_854 ?_
      refine va_sld hx hb hX hbl hbA hS q1 dL_law_855 ?_
      refine lw_callM (as := [.int (xs (x3 + 1).toNatClampNeg)]) (st := [.int r]) E0 hPX hPM hS hl.1 (c_X11_most false g2) jy_X11_most rfl ki_yX11_most ks_yX11_most kl_RL_108 dL_law_856 rfl rfl (Nat.le_of_ble_eq_true rfl) (by decide) (by decide) (by decide) (fun H locs hPX hPM hS => ?_)
      refine lv_icmp_eq (tgt := 1107) hx hb dL_law_859 (by decide) (fun _ => ?_) (fun h => absurd rfl h)
      refine lv_iinc (v := x3 + 4) (lv' := [(3, .int (x3 + 4)), (0, .ref b), (1, .ref (bX + 1)), (2, .ref (bX + 71))]) hx hb dL_law_1107 hl (k := 3) rfl rfl (by decide) rfl (fun ls hl => ?_)
      refine lv_goto (tgt := 18) hx hb dL_law_1110 (by decide) ?_
      exact ih (k + 4) (x3 + 4) (by omega) (by rw [ex3]; exact nI_add k 4) (by omega) σ2 τ2 hR2 H locs hPX hPM hS ls (lv_sub hl [1, 2, 3, 0] rfl)
    by_cases w22 : w = 22
    · refine lv_tableIn (tgt := 864) hx hb dL_law_32 (by rw [w22]; decide) (by rw [w22]; decide) (by rw [w22]; rfl) (by decide) ?_
      refine lv_aload_n hx hb dL_law_864 rfl (lv_at hl 1 rfl) ?_
      refine lv_aload_n hx hb dL_law_865 rfl (lv_at hl 0 rfl) ?_
      refine lv_iload_n hx hb dL_law_866 rfl (lv_at hl 3 rfl) ?_
      refine lv_iconst (v := 1) hx hb dL_law_867 (by decide) ?_
      refine lv_iadd hx hb dL_law_868 ?_
      refine va_sld hx hb hX hbl hbA hS q1 dL_law_869 ?_
      obtain ⟨r, σ2, τ2, g1, g2, hR2⟩ := h_worth k σ τ (xs (x3 + 1).toNatClampNeg) (by omega) hR
      refine lw_callX (as := [.int (xs (x3 + 1).toNatClampNeg)]) (st := []) E0 hPX hPM hS hl.1 (c_X10_worth false g1) jy_X10_worth rfl ki_yX10_worth ks_yX10_worth kl_RL_109 dL_law_870 rfl rfl (Nat.le_of_ble_eq_true rfl) (by decide) (by decide) (by decide) (fun H locs hPX hPM hS => ?_)
      refine lv_aload_n hx hb dL_law_873 rfl (lv_at hl 2 rfl) ?_
      refine lv_aload_n hx hb dL_law_874 rfl (lv_at hl 0 rfl) ?_
      refine lv_iload_n hx hb dL_law_875 rfl (lv_at hl 3 rfl) ?_
      refine lv_iconst (v := 1) hx hb dL_law_876 (by decide) ?_
      refine lv_iadd hx hb dL_law_877 ?_
      refine va_sld hx hb hX hbl hbA hS q1 dL_law_878 ?_
      refine lw_callM (as := [.int (xs (x3 + 1).toNatClampNeg)]) (st := [.int r]) E0 hPX hPM hS hl.1 (c_X11_worth false g2) jy_X11_worth rfl ki_yX11_worth ks_yX11_worth kl_RL_112 dL_law_879 rfl rfl (Nat.le_of_ble_eq_true rfl) (by decide) (by decide) (by decide) (fun H locs hPX hPM hS => ?_)
      refine lv_icmp_eq (tgt := 1107) hx hb dL_law_882 (by decide) (fun _ => ?_) (fun h => absurd rfl h)
      refine lv_iinc (v := x3 + 4) (lv' := [(3, .int (x3 + 4)), (0, .ref b), (1, .ref (bX + 1)), (2, .ref (bX + 71))]) hx hb dL_law_1107 hl (k := 3) rfl rfl (by decide) rfl (fun ls hl => ?_)
      refine lv_goto (tgt := 18) hx hb dL_law_1110 (by decide) ?_
      exact ih (k + 4) (x3 + 4) (by omega) (by rw [ex3]; exact nI_add k 4) (by omega) σ2 τ2 hR2 H locs hPX hPM hS ls (lv_sub hl [1, 2, 3, 0] rfl)
    by_cases w23 : w = 23
    · refine lv_tableIn (tgt := 887) hx hb dL_law_32 (by rw [w23]; decide) (by rw [w23]; decide) (by rw [w23]; rfl) (by decide) ?_
      refine lv_aload_n hx hb dL_law_887 rfl (lv_at hl 1 rfl) ?_
      refine lv_aload_n hx hb dL_law_888 rfl (lv_at hl 0 rfl) ?_
      refine lv_iload_n hx hb dL_law_889 rfl (lv_at hl 3 rfl) ?_
      refine lv_iconst (v := 1) hx hb dL_law_890 (by decide) ?_
      refine lv_iadd hx hb dL_law_891 ?_
      refine va_sld hx hb hX hbl hbA hS q1 dL_law_892 ?_
      refine lv_aload_n hx hb dL_law_893 rfl (lv_at hl 0 rfl) ?_
      refine lv_iload_n hx hb dL_law_894 rfl (lv_at hl 3 rfl) ?_
      refine lv_iconst (v := 2) hx hb dL_law_895 (by decide) ?_
      refine lv_iadd hx hb dL_law_896 ?_
      refine va_sld hx hb hX hbl hbA hS q2 dL_law_897 ?_
      obtain ⟨r, σ2, τ2, g1, g2, hR2⟩ := h_log k σ τ (xs (x3 + 1).toNatClampNeg) (xs (x3 + 2).toNatClampNeg) (by omega) hR
      refine lw_callX (as := [.int (xs (x3 + 1).toNatClampNeg), .int (xs (x3 + 2).toNatClampNeg)]) (st := []) E0 hPX hPM hS hl.1 (c_X10_log false g1) jy_X10_log rfl ki_yX10_log ks_yX10_log kl_RL_113 dL_law_898 rfl rfl (Nat.le_of_ble_eq_true rfl) (by decide) (by decide) (by decide) (fun H locs hPX hPM hS => ?_)
      refine lv_aload_n hx hb dL_law_901 rfl (lv_at hl 2 rfl) ?_
      refine lv_aload_n hx hb dL_law_902 rfl (lv_at hl 0 rfl) ?_
      refine lv_iload_n hx hb dL_law_903 rfl (lv_at hl 3 rfl) ?_
      refine lv_iconst (v := 1) hx hb dL_law_904 (by decide) ?_
      refine lv_iadd hx hb dL_law_905 ?_
      refine va_sld hx hb hX hbl hbA hS q1 dL_law_906 ?_
      refine lv_aload_n hx hb dL_law_907 rfl (lv_at hl 0 rfl) ?_
      refine lv_iload_n hx hb dL_law_908 rfl (lv_at hl 3 rfl) ?_
      refine lv_iconst (v := 2) hx hb dL_law_909 (by decide) ?_
      refine lv_iadd hx hb dL_law_910 ?_
      refine va_sld hx hb hX hbl hbA hS q2 dL_law_911 ?_
      refine lw_callM (as := [.int (xs (x3 + 1).toNatClampNeg), .int (xs (x3 + 2).toNatClampNeg)]) (st := [.int r]) E0 hPX hPM hS hl.1 (c_X11_log false g2) jy_X11_log rfl ki_yX11_log ks_yX11_log kl_RL_116 dL_law_912 rfl rfl (Nat.le_of_ble_eq_true rfl) (by decide) (by decide) (by decide) (fun H locs hPX hPM hS => ?_)
      refine lv_icmp_eq (tgt := 1107) hx hb dL_law_915 (by decide) (fun _ => ?_) (fun h => absurd rfl h)
      refine lv_iinc (v := x3 + 4) (lv' := [(3, .int (x3 + 4)), (0, .ref b), (1, .ref (bX + 1)), (2, .ref (bX + 71))]) hx hb dL_law_1107 hl (k := 3) rfl rfl (by decide) rfl (fun ls hl => ?_)
      refine lv_goto (tgt := 18) hx hb dL_law_1110 (by decide) ?_
      exact ih (k + 4) (x3 + 4) (by omega) (by rw [ex3]; exact nI_add k 4) (by omega) σ2 τ2 hR2 H locs hPX hPM hS ls (lv_sub hl [1, 2, 3, 0] rfl)
    by_cases w24 : w = 24
    · refine lv_tableIn (tgt := 920) hx hb dL_law_32 (by rw [w24]; decide) (by rw [w24]; decide) (by rw [w24]; rfl) (by decide) ?_
      refine lv_aload_n hx hb dL_law_920 rfl (lv_at hl 1 rfl) ?_
      obtain ⟨r, σ2, τ2, g1, g2, hR2⟩ := h_clear k σ τ  (by omega) hR
      refine lw_callX (as := []) (st := []) E0 hPX hPM hS hl.1 (c_X10_clear false g1) jy_X10_clear rfl ki_yX10_clear ks_yX10_clear kl_RL_117 dL_law_921 rfl rfl (Nat.le_of_ble_eq_true rfl) (by decide) (by decide) (by decide) (fun H locs hPX hPM hS => ?_)
      refine lv_aload_n hx hb dL_law_924 rfl (lv_at hl 2 rfl) ?_
      refine lw_callM (as := []) (st := [.int r]) E0 hPX hPM hS hl.1 (c_X11_clear false g2) jy_X11_clear rfl ki_yX11_clear ks_yX11_clear kl_RL_120 dL_law_925 rfl rfl (Nat.le_of_ble_eq_true rfl) (by decide) (by decide) (by decide) (fun H locs hPX hPM hS => ?_)
      refine lv_icmp_eq (tgt := 1107) hx hb dL_law_928 (by decide) (fun _ => ?_) (fun h => absurd rfl h)
      refine lv_iinc (v := x3 + 4) (lv' := [(3, .int (x3 + 4)), (0, .ref b), (1, .ref (bX + 1)), (2, .ref (bX + 71))]) hx hb dL_law_1107 hl (k := 3) rfl rfl (by decide) rfl (fun ls hl => ?_)
      refine lv_goto (tgt := 18) hx hb dL_law_1110 (by decide) ?_
      exact ih (k + 4) (x3 + 4) (by omega) (by rw [ex3]; exact nI_add k 4) (by omega) σ2 τ2 hR2 H locs hPX hPM hS ls (lv_sub hl [1, 2, 3, 0] rfl)
    by_cases w25 : w = 25
    · refine lv_tableIn (tgt := 933) hx hb dL_law_32 (by rw [w25]; decide) (by rw [w25]; decide) (by rw [w25]; rfl) (by decide) ?_
      refine lv_aload_n hx hb dL_law_933 rfl (lv_at hl 1 rfl) ?_
      refine lv_aload_n hx hb dL_law_934 rfl (lv_at hl 0 rfl) ?_
      refine lv_iload_n hx hb dL_law_935 rfl (lv_at hl 3 rfl) ?_
      refine lv_iconst (v := 1) hx hb dL_law_936 (by decide) ?_
      refine lv_iadd hx hb dL_law_937 ?_
      refine va_sld hx hb hX hbl hbA hS q1 dL_law_938 ?_
      obtain ⟨r, g1, g2⟩ := h_judge k σ τ (xs (x3 + 1).toNatClampNeg) (by omega) hR
      refine lw_callX (as := [.int (xs (x3 + 1).toNatClampNeg)]) (st := []) E0 hPX hPM hS hl.1 (c_X10_judge false g1) jy_X10_judge rfl ki_yX10_judge ks_yX10_judge kl_RL_121 dL_law_939 rfl rfl (Nat.le_of_ble_eq_true rfl) (by decide) (by decide) (by decide) (fun H locs hPX hPM hS => ?_)
      refine lv_aload_n hx hb dL_law_942 rfl (lv_at hl 2 rfl) ?_
      refine lv_aload_n hx hb dL_law_943 rfl (lv_at hl 0 rfl) ?_
      refine lv_iload_n hx hb dL_law_944 rfl (lv_at hl 3 rfl) ?_
      refine lv_iconst (v := 1) hx hb dL_law_945 (by decide) ?_
      refine lv_iadd hx hb dL_law_946 ?_
      refine va_sld hx hb hX hbl hbA hS q1 dL_law_947 ?_
      refine lw_callM (as := [.int (xs (x3 + 1).toNatClampNeg)]) (st := [.int r]) E0 hPX hPM hS hl.1 (c_X11_judge false g2) jy_X11_judge rfl ki_yX11_judge ks_yX11_judge kl_RL_124 dL_law_948 rfl rfl (Nat.le_of_ble_eq_true rfl) (by decide) (by decide) (by decide) (fun H locs hPX hPM hS => ?_)
      refine lv_icmp_eq (tgt := 1107) hx hb dL_law_951 (by decide) (fun _ => ?_) (fun h => absurd rfl h)
      refine lv_iinc (v := x3 + 4) (lv' := [(3, .int (x3 + 4)), (0, .ref b), (1, .ref (bX + 1)), (2, .ref (bX + 71))]) hx hb dL_law_1107 hl (k := 3) rfl rfl (by decide) rfl (fun ls hl => ?_)
      refine lv_goto (tgt := 18) hx hb dL_law_1110 (by decide) ?_
      exact ih (k + 4) (x3 + 4) (by omega) (by rw [ex3]; exact nI_add k 4) (by omega) σ τ (h_mono _ _ _ hR) H locs hPX hPM hS ls (lv_sub hl [1, 2, 3, 0] rfl)
    by_cases w26 : w = 26
    · refine lv_tableIn (tgt := 956) hx hb dL_law_32 (by rw [w26]; decide) (by rw [w26]; decide) (by rw [w26]; rfl) (by decide) ?_
      refine lv_aload_n hx hb dL_law_956 rfl (lv_at hl 1 rfl) ?_
      refine lv_aload_n hx hb dL_law_957 rfl (lv_at hl 0 rfl) ?_
      refine lv_iload_n hx hb dL_law_958 rfl (lv_at hl 3 rfl) ?_
      refine lv_iconst (v := 1) hx hb dL_law_959 (by decide) ?_
      refine lv_iadd hx hb dL_law_960 ?_
      refine va_sld hx hb hX hbl hbA hS q1 dL_law_961 ?_
      refine lv_aload_n hx hb dL_law_962 rfl (lv_at hl 0 rfl) ?_
      refine lv_iload_n hx hb dL_law_963 rfl (lv_at hl 3 rfl) ?_
      refine lv_iconst (v := 2) hx hb dL_law_964 (by decide) ?_
      refine lv_iadd hx hb dL_law_965 ?_
      refine va_sld hx hb hX hbl hbA hS q2 dL_law_966 ?_
      refine lv_aload_n hx hb dL_law_967 rfl (lv_at hl 0 rfl) ?_
      refine lv_iload_n hx hb dL_law_968 rfl (lv_at hl 3 rfl) ?_
      refine lv_iconst (v := 3) hx hb dL_law_969 (by decide) ?_
      refine lv_iadd hx hb dL_law_970 ?_
      refine va_sld hx hb hX hbl hbA hS q3 dL_law_971 ?_
      by_cases hz : (xs (x3 + 3).toNatClampNeg) = 0
      · refine lv_if_eq (tgt := 979) hx hb dL_law_972 (by decide) (fun _ => ?_) (fun h => absurd hz h)
        refine lv_iconst (v := 0) hx hb dL_law_979 (by decide) ?_
        obtain ⟨r, σ2, τ2, g1, g2, hR2⟩ := h_seen k σ τ (xs (x3 + 1).toNatClampNeg) (xs (x3 + 2).toNatClampNeg) 0 (by omega) hR (Or.inl rfl)
        refine lw_callX (as := [.int (xs (x3 + 1).toNatClampNeg), .int (xs (x3 + 2).toNatClampNeg), .int 0]) (st := []) E0 hPX hPM hS hl.1 (c_X10_seen false g1) jy_X10_seen rfl ki_yX10_seen ks_yX10_seen kl_RL_125 dL_law_980 rfl rfl (Nat.le_of_ble_eq_true rfl) (by decide) (by decide) (by decide) (fun H locs hPX hPM hS => ?_)
        refine lv_aload_n hx hb dL_law_983 rfl (lv_at hl 2 rfl) ?_
        refine lv_aload_n hx hb dL_law_984 rfl (lv_at hl 0 rfl) ?_
        refine lv_iload_n hx hb dL_law_985 rfl (lv_at hl 3 rfl) ?_
        refine lv_iconst (v := 1) hx hb dL_law_986 (by decide) ?_
        refine lv_iadd hx hb dL_law_987 ?_
        refine va_sld hx hb hX hbl hbA hS q1 dL_law_988 ?_
        refine lv_aload_n hx hb dL_law_989 rfl (lv_at hl 0 rfl) ?_
        refine lv_iload_n hx hb dL_law_990 rfl (lv_at hl 3 rfl) ?_
        refine lv_iconst (v := 2) hx hb dL_law_991 (by decide) ?_
        refine lv_iadd hx hb dL_law_992 ?_
        refine va_sld hx hb hX hbl hbA hS q2 dL_law_993 ?_
        refine lv_aload_n hx hb dL_law_994 rfl (lv_at hl 0 rfl) ?_
        refine lv_iload_n hx hb dL_law_995 rfl (lv_at hl 3 rfl) ?_
        refine lv_iconst (v := 3) hx hb dL_law_996 (by decide) ?_
        refine lv_iadd hx hb dL_law_997 ?_
        refine va_sld hx hb hX hbl hbA hS q3 dL_law_998 ?_
        refine lv_if_eq (tgt := 1006) hx hb dL_law_999 (by decide) (fun _ => ?_) (fun h => absurd hz h)
        refine lv_iconst (v := 0) hx hb dL_law_1006 (by decide) ?_
        refine lw_callM (as := [.int (xs (x3 + 1).toNatClampNeg), .int (xs (x3 + 2).toNatClampNeg), .int 0]) (st := [.int r]) E0 hPX hPM hS hl.1 (c_X11_seen false g2) jy_X11_seen rfl ki_yX11_seen ks_yX11_seen kl_RL_128 dL_law_1007 rfl rfl (Nat.le_of_ble_eq_true rfl) (by decide) (by decide) (by decide) (fun H locs hPX hPM hS => ?_)
        refine lv_icmp_eq (tgt := 1107) hx hb dL_law_1010 (by decide) (fun _ => ?_) (fun h => absurd rfl h)
        refine lv_iinc (v := x3 + 4) (lv' := [(3, .int (x3 + 4)), (0, .ref b), (1, .ref (bX + 1)), (2, .ref (bX + 71))]) hx hb dL_law_1107 hl (k := 3) rfl rfl (by decide) rfl (fun ls hl => ?_)
        refine lv_goto (tgt := 18) hx hb dL_law_1110 (by decide) ?_
        exact ih (k + 4) (x3 + 4) (by omega) (by rw [ex3]; exact nI_add k 4) (by omega) σ2 τ2 hR2 H locs hPX hPM hS ls (lv_sub hl [1, 2, 3, 0] rfl)
      · refine lv_if_eq (tgt := 979) hx hb dL_law_972 (by decide) (fun h => absurd h hz) (fun _ => ?_)
        refine lv_iconst (v := 1) hx hb dL_law_975 (by decide) ?_
        refine lv_goto (tgt := 980) hx hb dL_law_976 (by decide) ?_
        obtain ⟨r, σ2, τ2, g1, g2, hR2⟩ := h_seen k σ τ (xs (x3 + 1).toNatClampNeg) (xs (x3 + 2).toNatClampNeg) 1 (by omega) hR (Or.inr rfl)
        refine lw_callX (as := [.int (xs (x3 + 1).toNatClampNeg), .int (xs (x3 + 2).toNatClampNeg), .int 1]) (st := []) E0 hPX hPM hS hl.1 (c_X10_seen false g1) jy_X10_seen rfl ki_yX10_seen ks_yX10_seen kl_RL_125 dL_law_980 rfl rfl (Nat.le_of_ble_eq_true rfl) (by decide) (by decide) (by decide) (fun H locs hPX hPM hS => ?_)
        refine lv_aload_n hx hb dL_law_983 rfl (lv_at hl 2 rfl) ?_
        refine lv_aload_n hx hb dL_law_984 rfl (lv_at hl 0 rfl) ?_
        refine lv_iload_n hx hb dL_law_985 rfl (lv_at hl 3 rfl) ?_
        refine lv_iconst (v := 1) hx hb dL_law_986 (by decide) ?_
        refine lv_iadd hx hb dL_law_987 ?_
        refine va_sld hx hb hX hbl hbA hS q1 dL_law_988 ?_
        refine lv_aload_n hx hb dL_law_989 rfl (lv_at hl 0 rfl) ?_
        refine lv_iload_n hx hb dL_law_990 rfl (lv_at hl 3 rfl) ?_
        refine lv_iconst (v := 2) hx hb dL_law_991 (by decide) ?_
        refine lv_iadd hx hb dL_law_992 ?_
        refine va_sld hx hb hX hbl hbA hS q2 dL_law_993 ?_
        refine lv_aload_n hx hb dL_law_994 rfl (lv_at hl 0 rfl) ?_
        refine lv_iload_n hx hb dL_law_995 rfl (lv_at hl 3 rfl) ?_
        refine lv_iconst (v := 3) hx hb dL_law_996 (by decide) ?_
        refine lv_iadd hx hb dL_law_997 ?_
        refine va_sld hx hb hX hbl hbA hS q3 dL_law_998 ?_
        refine lv_if_eq (tgt := 1006) hx hb dL_law_999 (by decide) (fun h => absurd h hz) (fun _ => ?_)
        refine lv_iconst (v := 1) hx hb dL_law_1002 (by decide) ?_
        refine lv_goto (tgt := 1007) hx hb dL_law_1003 (by decide) ?_
        refine lw_callM (as := [.int (xs (x3 + 1).toNatClampNeg), .int (xs (x3 + 2).toNatClampNeg), .int 1]) (st := [.int r]) E0 hPX hPM hS hl.1 (c_X11_seen false g2) jy_X11_seen rfl ki_yX11_seen ks_yX11_seen kl_RL_128 dL_law_1007 rfl rfl (Nat.le_of_ble_eq_true rfl) (by decide) (by decide) (by decide) (fun H locs hPX hPM hS => ?_)
        refine lv_icmp_eq (tgt := 1107) hx hb dL_law_1010 (by decide) (fun _ => ?_) (fun h => absurd rfl h)
        refine lv_iinc (v := x3 + 4) (lv' := [(3, .int (x3 + 4)), (0, .ref b), (1, .ref (bX + 1)), (2, .ref (bX + 71))]) hx hb dL_law_1107 hl (k := 3) rfl rfl (by decide) rfl (fun ls hl => ?_)
        refine lv_goto (tgt := 18) hx hb dL_law_1110 (by decide) ?_
        exact ih (k + 4) (x3 + 4) (by omega) (by rw [ex3]; exact nI_add k 4) (by omega) σ2 τ2 hR2 H locs hPX hPM hS ls (lv_sub hl [1, 2, 3, 0] rfl)
    by_cases w27 : w = 27
    · refine lv_tableIn (tgt := 1015) hx hb dL_law_32 (by rw [w27]; decide) (by rw [w27]; decide) (by rw [w27]; rfl) (by decide) ?_
      refine lv_aload_n hx hb dL_law_1015 rfl (lv_at hl 1 rfl) ?_
      refine lv_aload_n hx hb dL_law_1016 rfl (lv_at hl 0 rfl) ?_
      refine lv_iload_n hx hb dL_law_1017 rfl (lv_at hl 3 rfl) ?_
      refine lv_iconst (v := 1) hx hb dL_law_1018 (by decide) ?_
      refine lv_iadd hx hb dL_law_1019 ?_
      refine va_sld hx hb hX hbl hbA hS q1 dL_law_1020 ?_
      obtain ⟨r, σ2, τ2, g1, g2, hR2⟩ := h_have k σ τ (xs (x3 + 1).toNatClampNeg) (by omega) hR
      refine lw_callX (as := [.int (xs (x3 + 1).toNatClampNeg)]) (st := []) E0 hPX hPM hS hl.1 (c_X10_have false g1) jy_X10_have rfl ki_yX10_have ks_yX10_have kl_RL_129 dL_law_1021 rfl rfl (Nat.le_of_ble_eq_true rfl) (by decide) (by decide) (by decide) (fun H locs hPX hPM hS => ?_)
      refine lv_aload_n hx hb dL_law_1024 rfl (lv_at hl 2 rfl) ?_
      refine lv_aload_n hx hb dL_law_1025 rfl (lv_at hl 0 rfl) ?_
      refine lv_iload_n hx hb dL_law_1026 rfl (lv_at hl 3 rfl) ?_
      refine lv_iconst (v := 1) hx hb dL_law_1027 (by decide) ?_
      refine lv_iadd hx hb dL_law_1028 ?_
      refine va_sld hx hb hX hbl hbA hS q1 dL_law_1029 ?_
      refine lw_callM (as := [.int (xs (x3 + 1).toNatClampNeg)]) (st := [.int r]) E0 hPX hPM hS hl.1 (c_X11_have false g2) jy_X11_have rfl ki_yX11_have ks_yX11_have kl_RL_132 dL_law_1030 rfl rfl (Nat.le_of_ble_eq_true rfl) (by decide) (by decide) (by decide) (fun H locs hPX hPM hS => ?_)
      refine lv_icmp_eq (tgt := 1107) hx hb dL_law_1033 (by decide) (fun _ => ?_) (fun h => absurd rfl h)
      refine lv_iinc (v := x3 + 4) (lv' := [(3, .int (x3 + 4)), (0, .ref b), (1, .ref (bX + 1)), (2, .ref (bX + 71))]) hx hb dL_law_1107 hl (k := 3) rfl rfl (by decide) rfl (fun ls hl => ?_)
      refine lv_goto (tgt := 18) hx hb dL_law_1110 (by decide) ?_
      exact ih (k + 4) (x3 + 4) (by omega) (by rw [ex3]; exact nI_add k 4) (by omega) σ2 τ2 hR2 H locs hPX hPM hS ls (lv_sub hl [1, 2, 3, 0] rfl)
    by_cases w28 : w = 28
    · refine lv_tableIn (tgt := 1038) hx hb dL_law_32 (by rw [w28]; decide) (by rw [w28]; decide) (by rw [w28]; rfl) (by decide) ?_
      refine lv_aload_n hx hb dL_law_1038 rfl (lv_at hl 1 rfl) ?_
      refine lv_aload_n hx hb dL_law_1039 rfl (lv_at hl 0 rfl) ?_
      refine lv_iload_n hx hb dL_law_1040 rfl (lv_at hl 3 rfl) ?_
      refine lv_iconst (v := 1) hx hb dL_law_1041 (by decide) ?_
      refine lv_iadd hx hb dL_law_1042 ?_
      refine va_sld hx hb hX hbl hbA hS q1 dL_law_1043 ?_
      obtain ⟨r, σ2, τ2, g1, g2, hR2⟩ := h_seed k σ τ (xs (x3 + 1).toNatClampNeg) (by omega) hR
      refine lw_callX (as := [.int (xs (x3 + 1).toNatClampNeg)]) (st := []) E0 hPX hPM hS hl.1 (c_X10_seed false g1) jy_X10_seed rfl ki_yX10_seed ks_yX10_seed kl_RL_133 dL_law_1044 rfl rfl (Nat.le_of_ble_eq_true rfl) (by decide) (by decide) (by decide) (fun H locs hPX hPM hS => ?_)
      refine lv_aload_n hx hb dL_law_1047 rfl (lv_at hl 2 rfl) ?_
      refine lv_aload_n hx hb dL_law_1048 rfl (lv_at hl 0 rfl) ?_
      refine lv_iload_n hx hb dL_law_1049 rfl (lv_at hl 3 rfl) ?_
      refine lv_iconst (v := 1) hx hb dL_law_1050 (by decide) ?_
      refine lv_iadd hx hb dL_law_1051 ?_
      refine va_sld hx hb hX hbl hbA hS q1 dL_law_1052 ?_
      refine lw_callM (as := [.int (xs (x3 + 1).toNatClampNeg)]) (st := [.int r]) E0 hPX hPM hS hl.1 (c_X11_seed false g2) jy_X11_seed rfl ki_yX11_seed ks_yX11_seed kl_RL_136 dL_law_1053 rfl rfl (Nat.le_of_ble_eq_true rfl) (by decide) (by decide) (by decide) (fun H locs hPX hPM hS => ?_)
      refine lv_icmp_eq (tgt := 1107) hx hb dL_law_1056 (by decide) (fun _ => ?_) (fun h => absurd rfl h)
      refine lv_iinc (v := x3 + 4) (lv' := [(3, .int (x3 + 4)), (0, .ref b), (1, .ref (bX + 1)), (2, .ref (bX + 71))]) hx hb dL_law_1107 hl (k := 3) rfl rfl (by decide) rfl (fun ls hl => ?_)
      refine lv_goto (tgt := 18) hx hb dL_law_1110 (by decide) ?_
      exact ih (k + 4) (x3 + 4) (by omega) (by rw [ex3]; exact nI_add k 4) (by omega) σ2 τ2 hR2 H locs hPX hPM hS ls (lv_sub hl [1, 2, 3, 0] rfl)
    by_cases w29 : w = 29
    · refine lv_tableIn (tgt := 1061) hx hb dL_law_32 (by rw [w29]; decide) (by rw [w29]; decide) (by rw [w29]; rfl) (by decide) ?_
      refine lv_aload_n hx hb dL_law_1061 rfl (lv_at hl 1 rfl) ?_
      refine lv_aload_n hx hb dL_law_1062 rfl (lv_at hl 0 rfl) ?_
      refine lv_iload_n hx hb dL_law_1063 rfl (lv_at hl 3 rfl) ?_
      refine lv_iconst (v := 1) hx hb dL_law_1064 (by decide) ?_
      refine lv_iadd hx hb dL_law_1065 ?_
      refine va_sld hx hb hX hbl hbA hS q1 dL_law_1066 ?_
      obtain ⟨r, σ2, τ2, g1, g2, hR2⟩ := h_keep k σ τ (xs (x3 + 1).toNatClampNeg) (by omega) hR
      refine lw_callX (as := [.int (xs (x3 + 1).toNatClampNeg)]) (st := []) E0 hPX hPM hS hl.1 (c_X10_keep false g1) jy_X10_keep rfl ki_yX10_keep ks_yX10_keep kl_RL_137 dL_law_1067 rfl rfl (Nat.le_of_ble_eq_true rfl) (by decide) (by decide) (by decide) (fun H locs hPX hPM hS => ?_)
      refine lv_aload_n hx hb dL_law_1070 rfl (lv_at hl 2 rfl) ?_
      refine lv_aload_n hx hb dL_law_1071 rfl (lv_at hl 0 rfl) ?_
      refine lv_iload_n hx hb dL_law_1072 rfl (lv_at hl 3 rfl) ?_
      refine lv_iconst (v := 1) hx hb dL_law_1073 (by decide) ?_
      refine lv_iadd hx hb dL_law_1074 ?_
      refine va_sld hx hb hX hbl hbA hS q1 dL_law_1075 ?_
      refine lw_callM (as := [.int (xs (x3 + 1).toNatClampNeg)]) (st := [.int r]) E0 hPX hPM hS hl.1 (c_X11_keep false g2) jy_X11_keep rfl ki_yX11_keep ks_yX11_keep kl_RL_140 dL_law_1076 rfl rfl (Nat.le_of_ble_eq_true rfl) (by decide) (by decide) (by decide) (fun H locs hPX hPM hS => ?_)
      refine lv_icmp_eq (tgt := 1107) hx hb dL_law_1079 (by decide) (fun _ => ?_) (fun h => absurd rfl h)
      refine lv_iinc (v := x3 + 4) (lv' := [(3, .int (x3 + 4)), (0, .ref b), (1, .ref (bX + 1)), (2, .ref (bX + 71))]) hx hb dL_law_1107 hl (k := 3) rfl rfl (by decide) rfl (fun ls hl => ?_)
      refine lv_goto (tgt := 18) hx hb dL_law_1110 (by decide) ?_
      exact ih (k + 4) (x3 + 4) (by omega) (by rw [ex3]; exact nI_add k 4) (by omega) σ2 τ2 hR2 H locs hPX hPM hS ls (lv_sub hl [1, 2, 3, 0] rfl)
    by_cases w30 : w = 30
    · refine lv_tableIn (tgt := 1084) hx hb dL_law_32 (by rw [w30]; decide) (by rw [w30]; decide) (by rw [w30]; rfl) (by decide) ?_
      refine lv_aload_n hx hb dL_law_1084 rfl (lv_at hl 1 rfl) ?_
      refine lv_aload_n hx hb dL_law_1085 rfl (lv_at hl 0 rfl) ?_
      refine lv_iload_n hx hb dL_law_1086 rfl (lv_at hl 3 rfl) ?_
      refine lv_iconst (v := 1) hx hb dL_law_1087 (by decide) ?_
      refine lv_iadd hx hb dL_law_1088 ?_
      refine va_sld hx hb hX hbl hbA hS q1 dL_law_1089 ?_
      obtain ⟨r, σ2, τ2, g1, g2, hR2⟩ := h_goBack k σ τ (xs (x3 + 1).toNatClampNeg) (by omega) hR
      refine lw_callX (as := [.int (xs (x3 + 1).toNatClampNeg)]) (st := []) E0 hPX hPM hS hl.1 (c_X10_goBack false g1) jy_X10_goBack rfl ki_yX10_goBack ks_yX10_goBack kl_RL_141 dL_law_1090 rfl rfl (Nat.le_of_ble_eq_true rfl) (by decide) (by decide) (by decide) (fun H locs hPX hPM hS => ?_)
      refine lv_aload_n hx hb dL_law_1093 rfl (lv_at hl 2 rfl) ?_
      refine lv_aload_n hx hb dL_law_1094 rfl (lv_at hl 0 rfl) ?_
      refine lv_iload_n hx hb dL_law_1095 rfl (lv_at hl 3 rfl) ?_
      refine lv_iconst (v := 1) hx hb dL_law_1096 (by decide) ?_
      refine lv_iadd hx hb dL_law_1097 ?_
      refine va_sld hx hb hX hbl hbA hS q1 dL_law_1098 ?_
      refine lw_callM (as := [.int (xs (x3 + 1).toNatClampNeg)]) (st := [.int r]) E0 hPX hPM hS hl.1 (c_X11_goBack false g2) jy_X11_goBack rfl ki_yX11_goBack ks_yX11_goBack kl_RL_144 dL_law_1099 rfl rfl (Nat.le_of_ble_eq_true rfl) (by decide) (by decide) (by decide) (fun H locs hPX hPM hS => ?_)
      refine lv_icmp_eq (tgt := 1107) hx hb dL_law_1102 (by decide) (fun _ => ?_) (fun h => absurd rfl h)
      refine lv_iinc (v := x3 + 4) (lv' := [(3, .int (x3 + 4)), (0, .ref b), (1, .ref (bX + 1)), (2, .ref (bX + 71))]) hx hb dL_law_1107 hl (k := 3) rfl rfl (by decide) rfl (fun ls hl => ?_)
      refine lv_goto (tgt := 18) hx hb dL_law_1110 (by decide) ?_
      exact ih (k + 4) (x3 + 4) (by omega) (by rw [ex3]; exact nI_add k 4) (by omega) σ2 τ2 hR2 H locs hPX hPM hS ls (lv_sub hl [1, 2, 3, 0] rfl)
    refine lv_tableOut (tgt := 1107) hx hb dL_law_32 (jsw_out (by decide) (by decide) (fun q h1 h2 => ?_)) (by decide) ?_
    · match q, h1, h2 with
      | 0, _, _ => exact w0
      | 1, _, _ => exact w1
      | 2, _, _ => exact w2
      | 3, _, _ => exact w3
      | 4, _, _ => exact w4
      | 5, _, _ => exact w5
      | 6, _, _ => exact w6
      | 7, _, _ => exact w7
      | 8, _, _ => exact w8
      | 9, _, _ => exact w9
      | 10, _, _ => exact w10
      | 11, _, _ => exact w11
      | 12, _, _ => exact w12
      | 13, _, _ => exact w13
      | 14, _, _ => exact w14
      | 15, _, _ => exact w15
      | 16, _, _ => exact w16
      | 17, _, _ => exact w17
      | 18, _, _ => exact w18
      | 19, _, _ => exact w19
      | 20, _, _ => exact w20
      | 21, _, _ => exact w21
      | 22, _, _ => exact w22
      | 23, _, _ => exact w23
      | 24, _, _ => exact w24
      | 25, _, _ => exact w25
      | 26, _, _ => exact w26
      | 27, _, _ => exact w27
      | 28, _, _ => exact w28
      | 29, _, _ => exact w29
      | 30, _, _ => exact w30
    · skip
      refine lv_iinc (v := x3 + 4) (lv' := [(3, .int (x3 + 4)), (0, .ref b), (1, .ref (bX + 1)), (2, .ref (bX + 71))]) hx hb dL_law_1107 hl (k := 3) rfl rfl (by decide) rfl (fun ls hl => ?_)
      refine lv_goto (tgt := 18) hx hb dL_law_1110 (by decide) ?_
      exact ih (k + 4) (x3 + 4) (by omega) (by rw [ex3]; exact nI_add k 4) (by omega) σ τ (h_mono _ _ _ hR) H locs hPX hPM hS ls (lv_sub hl [1, 2, 3, 0] rfl)
