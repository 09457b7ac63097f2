/-! what is written: by handles -/
def fr (H : List Nat) (σ σ' : jS) : Prop := σ'.2.2 = σ.2.2 ∧ ∀ a, a ∉ H → ∀ i, gI σ' a i = gI σ a i ∧ gL σ' a i = gL σ a i
theorem fr_rfl (H : List Nat) (σ : jS) : fr H σ σ := ⟨rfl, fun _ _ _ => ⟨rfl, rfl⟩⟩
theorem fr_trans {H : List Nat} {a b c : jS} (h1 : fr H a b) (h2 : fr H b c) : fr H a c :=
  ⟨h2.1.trans h1.1, fun x hx i => ⟨((h2.2 x hx i).1).trans (h1.2 x hx i).1, ((h2.2 x hx i).2).trans (h1.2 x hx i).2⟩⟩
theorem fr_mono {H K : List Nat} {a b : jS} (h : fr H a b) (hk : ∀ x, x ∈ H → x ∈ K) : fr K a b :=
  ⟨h.1, fun x hx i => h.2 x (fun q => hx (hk x q)) i⟩
theorem fr_sI {H : List Nat} (σ : jS) {h : Nat} (i : Nat) (v : Int32) (hm : h ∈ H) : fr H σ (sI σ h i v) :=
  ⟨rfl, fun a ha j => ⟨gI_ne (fun q => ha (by rw [q]; exact hm)), rfl⟩⟩
theorem fr_sL {H : List Nat} (σ : jS) {h : Nat} (i : Nat) (v : Int64) (hm : h ∈ H) : fr H σ (sL σ h i v) :=
  ⟨rfl, fun a ha j => ⟨rfl, gL_sLn (fun q => ha (by rw [q.1]; exact hm))⟩⟩
theorem fr_I {H : List Nat} {σ σ' : jS} (h : fr H σ σ') {a : Nat} (ha : a ∉ H) (i : Nat) : gI σ' a i = gI σ a i := (h.2 a ha i).1
theorem fr_L {H : List Nat} {σ σ' : jS} (h : fr H σ σ') {a : Nat} (ha : a ∉ H) (i : Nat) : gL σ' a i = gL σ a i := (h.2 a ha i).2
theorem fr_T {H : List Nat} {σ σ' : jS} (h : fr H σ σ') : σ'.2.2.1 = σ.2.2.1 := by rw [h.1]
/-- a row of longs filled -/
theorem x_fillL {σ : jS} {h : Nat} {v : Int64} (h0 : h ≠ 0) (hr : jrwX 2 h = true) (hs : (SHX h).2 ≤ 1000) : ∃ σ', f_X6_fill_ σ h v = some ((), σ') ∧ fr [h] σ σ' ∧ (∀ i, i < (SHX h).2 → gL σ' h i = v) ∧ ∀ a i, gI σ' a i = gI σ a i := by
  unfold f_X6_fill_
  rw [if_neg h0]
  have key := jloop_ex (S := Int32 × jS) (O := Unit × jS) (f := fun s => f_X6_fill__B7 s.2 h v s.1) (fun i s => s.1 = nI i ∧ fr [h] σ s.2 ∧ (∀ j, j < i → gL s.2 h j = v) ∧ ∀ a i, gI s.2 a i = gI σ a i) (SHX h).2 (fun o => fr [h] σ o.2 ∧ (∀ j, j < (SHX h).2 → gL o.2 h j = v) ∧ ∀ a i, gI o.2 a i = gI σ a i) (s0 := (0, σ)) ⟨rfl, fr_rfl _ _, fun j hj => absurd hj (Nat.not_lt_zero j), fun _ _ => rfl⟩ (jfuel_big (by omega)) ?_ ?_
  · obtain ⟨o, e1, e2⟩ := key
    exact ⟨o.2, e1, e2⟩
  · rintro ⟨a, s⟩ ⟨rfl, h1, h2, h3⟩
    refine ⟨((), s), ?_, h1, h2, h3⟩
    show f_X6_fill__B7 s h v (nI _) = _
    unfold f_X6_fill__B7 f_X6_fill__J23
    rw [bG_t hr, if_pos (show Int32.ofNat (SHX h).2 ≤ nI (SHX h).2 from Int32.le_refl _), jw_e]
  · rintro i ⟨a, s⟩ hi ⟨rfl, h1, h2, h3⟩
    refine Or.inl ⟨(nI (i + 1), sL s h i v), ?_, rfl, fr_trans h1 (fr_sL s i v (List.mem_singleton.mpr rfl)), ?_, h3⟩
    · show f_X6_fill__B7 s h v (nI _) = _
      unfold f_X6_fill__B7
      rw [bG_t hr, if_neg (show ¬ Int32.ofNat (SHX h).2 ≤ nI i from nI_ge hi (by omega)), bG_t (jin_nI hi (by omega)), ix_nI (by omega), bV_e, bV_e, nI_1]
    · intro j hj
      by_cases q : j = i
      · subst q; exact gL_sL s h j v
      · rw [gL_sLn (fun z => q z.2)]
        exact h2 j (by omega)
