/-! PURE, 0: rules for the models (OK o P: the model o answers, and P of its answer) -/
def OK {ρ : Type} (o : Option ρ) (P : ρ → Prop) : Prop := ∃ r, o = some r ∧ P r
theorem OK_some {ρ : Type} {r : ρ} {P : ρ → Prop} (h : P r) : OK (some r) P := ⟨r, rfl, h⟩
theorem OK_gB {α ρ : Type} {e : α} {k : α → Option ρ} {P : ρ → Prop} (h : OK (k e) P) : OK (gB e k) P := h
theorem OK_gBx {α ρ : Type} {e : α} {k : α → Option ρ} {P : ρ → Prop} (h : ∀ x, x = e → OK (k x) P) : OK (gB e k) P := h e rfl
theorem OK_gC {ρ : Type} {b : Bool} {a : Option ρ} {P : ρ → Prop} (hb : b = true) (h : OK a P) : OK (gC b a) P := by subst hb; exact h
theorem OK_gM {α ρ : Type} {o : Option α} {k : α → Option ρ} {P' : α → Prop} {P : ρ → Prop} (ho : OK o P') (h : ∀ a, P' a → OK (k a) P) : OK (gM o k) P := by
  obtain ⟨a, rfl, ha⟩ := ho
  exact h a ha
theorem OK_ite {ρ : Type} {c : Prop} [Decidable c] {a b : Option ρ} {P : ρ → Prop} (h1 : c → OK a P) (h2 : ¬ c → OK b P) : OK (if c then a else b) P := by
  by_cases h : c
  · rw [if_pos h]; exact h1 h
  · rw [if_neg h]; exact h2 h
theorem OK_mono {ρ : Type} {o : Option ρ} {P P' : ρ → Prop} (h : OK o P) (hp : ∀ r, P r → P' r) : OK o P' := by
  obtain ⟨r, e, h⟩ := h
  exact ⟨r, e, hp r h⟩
/-- a loop: an invariant I, a measure that falls -/
theorem OK_gL {σ ρ : Type} {body : (σ → Option ρ) → σ → Option ρ} {P : ρ → Prop} (I : σ → Prop) (μ : σ → Nat) (step : ∀ (k : σ → Option ρ) (z : σ), I z → (∀ z', I z' → μ z' < μ z → OK (k z') P) → OK (body k z) P) : ∀ (F : Nat) (z : σ), I z → μ z < F → OK (gL body F z) P := by
  intro F
  induction F with
  | zero => intro z _ h; omega
  | succ F ih =>
    intro z hz h
    rw [gL_s]
    exact step _ z hz (fun z' h1 h2 => ih z' h1 (by omega))
/-- a loop that counts i from i0 up to e -/
theorem OK_for {σ ρ : Type} {body : (σ → Option ρ) → σ → Option ρ} {P : ρ → Prop} (e : Nat) (I : Nat → σ → Prop) (last : ∀ (k : σ → Option ρ) (z : σ), I e z → OK (body k z) P) (step : ∀ (k : σ → Option ρ) (i : Nat) (z : σ), i < e → I i z → (∀ z', I (i + 1) z' → OK (k z') P) → OK (body k z) P) : ∀ (F i : Nat) (z : σ), i ≤ e → I i z → e - i < F → OK (gL body F z) P := by
  intro F
  induction F with
  | zero => intro i z _ _ h; omega
  | succ F ih =>
    intro i z hi hz h
    rw [gL_s]
    by_cases he : i = e
    · subst he; exact last _ z hz
    · exact step _ i z (by omega) hz (fun z' h1 => ih (i + 1) z' (by omega) h1 (by omega))
theorem inb_iff {x : Int32} {n : Nat} : inb x n = true ↔ 0 ≤ x.toInt ∧ x.toInt < n := by
  unfold inb
  rw [decide_eq_true_iff]
  exact vp_in_iff
theorem nI_inj {a b : Nat} (ha : a < 2 ^ 31) (hb : b < 2 ^ 31) (h : nI a = nI b) : a = b := (nI_eq ha hb).mp h
/-- an int as an index below n, or not one -/
theorem ix_cases (x : Int32) {n : Nat} (hn : n < 2 ^ 31) : (∃ j, j < n ∧ x = nI j ∧ 0 ≤ x ∧ x < nI n) ∨ (¬ (0 ≤ x ∧ x < nI n) ∧ (x < 0 ∨ nI n ≤ x)) := by
  rcases pk_ix x hn with h | h | ⟨j, hj, rfl⟩
  · refine Or.inr ⟨fun q => ?_, Or.inl h⟩
    have h1 := Int32.le_iff_toInt_le.mp q.1
    have h2 := Int32.lt_iff_toInt_lt.mp h
    omega
  · refine Or.inr ⟨fun q => ?_, Or.inr h⟩
    have h1 := Int32.lt_iff_toInt_lt.mp q.2
    have h2 := Int32.le_iff_toInt_le.mp h
    omega
  · exact Or.inl ⟨j, hj, rfl, nI_pos' (by omega), nI_lt hj (by omega)⟩
theorem upd_same (f : Nat → Int32) (k : Nat) (x : Int32) : upd f k x k = x := if_pos rfl
theorem upd_ne {f : Nat → Int32} {k j : Nat} {x : Int32} (h : j ≠ k) : upd f k x j = f j := if_neg h
