/-! PURE, 24: the first of all in the order of the rows; backtracking as such -/
def eqB (f g : Nat → Nat) (i : Nat) : Prop := ∀ u, u < i → f u = g u
theorem eqB_symm {f g : Nat → Nat} {i : Nat} (h : eqB f g i) : eqB g f i := fun u hu => (h u hu).symm
theorem eqB_trans {f g h : Nat → Nat} {i : Nat} (h1 : eqB f g i) (h2 : eqB g h i) : eqB f h i := fun u hu => (h1 u hu).trans (h2 u hu)
theorem eqB_le {f g : Nat → Nat} {i j : Nat} (h : eqB f g j) (hij : i ≤ j) : eqB f g i := fun u hu => h u (by omega)
/-- f comes before g, or is g, below N -/
def leL (N : Nat) (f g : Nat → Nat) : Prop := eqB f g N ∨ ∃ j, j < N ∧ eqB f g j ∧ f j < g j
def Fst (N : Nat) (V : (Nat → Nat) → Prop) (f : Nat → Nat) : Prop := V f ∧ ∀ g, V g → leL N f g
theorem leL_anti {N : Nat} {f g : Nat → Nat} (h1 : leL N f g) (h2 : leL N g f) : eqB f g N := by
  rcases h1 with h1 | ⟨j, hj, e1, l1⟩
  · exact h1
  · rcases h2 with h2 | ⟨i, hi, e2, l2⟩
    · exact eqB_symm h2
    · exfalso
      rcases Nat.lt_trichotomy i j with h | h | h
      · have := e1 i h; omega
      · subst h; omega
      · have := e2 j h; omega
theorem Fst_uniq {N : Nat} {V : (Nat → Nat) → Prop} {f g : Nat → Nat} (hf : Fst N V f) (hg : Fst N V g) : eqB f g N := leL_anti (hf.2 g hg.1) (hg.2 f hf.1)
theorem leL_trans {N : Nat} {f g h : Nat → Nat} (h1 : leL N f g) (h2 : leL N g h) : leL N f h := by
  rcases h1 with h1 | ⟨j, hj, e1, l1⟩
  · rcases h2 with h2 | ⟨i, hi, e2, l2⟩
    · exact Or.inl (eqB_trans h1 h2)
    · exact Or.inr ⟨i, hi, eqB_trans (eqB_le h1 (by omega)) e2, by rw [h1 i hi]; exact l2⟩
  · rcases h2 with h2 | ⟨i, hi, e2, l2⟩
    · exact Or.inr ⟨j, hj, eqB_trans e1 (eqB_le h2 (by omega)), by rw [← h2 j hj]; exact l1⟩
    · rcases Nat.lt_trichotomy i j with h | h | h
      · exact Or.inr ⟨i, hi, eqB_trans (eqB_le e1 (by omega)) e2, by rw [e1 i h]; exact l2⟩
      · subst h; exact Or.inr ⟨i, hi, eqB_trans e1 e2, by omega⟩
      · exact Or.inr ⟨j, hj, eqB_trans e1 (eqB_le e2 (by omega)), by rw [← e2 j h]; exact l1⟩
theorem leastN {P : Nat → Prop} : ∀ n, P n → ∃ m, P m ∧ ∀ k, k < m → ¬ P k := by
  intro n
  induction n using Nat.strongRecOn with
  | ind n ih =>
    intro h
    by_cases q : ∃ k, k < n ∧ P k
    · obtain ⟨k, hk, hp⟩ := q
      exact ih k hk hp
    · exact ⟨n, h, fun k hk hp => q ⟨k, hk, hp⟩⟩
/-- where there is one there is a first one -/
theorem Fst_ex {V : (Nat → Nat) → Prop} (h : ∃ f, V f) : ∀ N, ∃ f, Fst N V f := by
  intro N
  induction N with
  | zero =>
    obtain ⟨f, hf⟩ := h
    exact ⟨f, hf, fun g _ => Or.inl (fun u hu => by omega)⟩
  | succ N ih =>
    obtain ⟨f, hf, hl⟩ := ih
    obtain ⟨m, ⟨g, hg, ge, gm⟩, hmin⟩ := leastN (P := fun m => ∃ g, V g ∧ eqB f g N ∧ g N = m) (f N) ⟨f, hf, fun _ _ => rfl, rfl⟩
    refine ⟨g, hg, fun h hh => ?_⟩
    rcases hl h hh with e | ⟨j, hj, e, l⟩
    · rcases Nat.lt_trichotomy (h N) m with q | q | q
      · exact absurd ⟨h, hh, e, rfl⟩ (hmin _ q)
      · refine Or.inl (fun u hu => ?_)
        by_cases hN : u = N
        · subst hN; omega
        · exact (ge u (by omega)).symm.trans (e u (by omega))
      · exact Or.inr ⟨N, by omega, eqB_trans (eqB_symm ge) e, by omega⟩
    · exact Or.inr ⟨j, by omega, eqB_trans (eqB_symm (eqB_le ge (by omega))) e, by rw [← ge j hj]; exact l⟩
def setN (r : Nat → Nat) (d c : Nat) : Nat → Nat := fun j => if j = d then c else r j
theorem setN_same (r : Nat → Nat) (d c : Nat) : setN r d c d = c := if_pos rfl
theorem setN_ne {r : Nat → Nat} {d c j : Nat} (h : j ≠ d) : setN r d c j = r j := if_neg h
theorem setN_eqB (r : Nat → Nat) (d c : Nat) : eqB r (setN r d c) d := fun u hu => (setN_ne (by omega)).symm
/-- turning two colours -/
def swp (c d x : Nat) : Nat := if x = c then d else if x = d then c else x
theorem swp_l (c d : Nat) : swp c d c = d := if_pos rfl
theorem swp_r (c d : Nat) : swp c d d = c := by
  unfold swp
  by_cases h : d = c
  · rw [if_pos h, h]
  · rw [if_neg h, if_pos rfl]
theorem swp_o {c d x : Nat} (h1 : x ≠ c) (h2 : x ≠ d) : swp c d x = x := by unfold swp; rw [if_neg h1, if_neg h2]
theorem swp_swp (c d x : Nat) : swp c d (swp c d x) = x := by
  by_cases h1 : x = c
  · subst h1; rw [swp_l, swp_r]
  · by_cases h2 : x = d
    · subst h2; rw [swp_r, swp_l]
    · rw [swp_o h1 h2, swp_o h1 h2]
theorem swp_inj {c d x y : Nat} (h : swp c d x = swp c d y) : x = y := by
  have := congrArg (swp c d) h
  rwa [swp_swp, swp_swp] at this
theorem swp_lt {c d x k : Nat} (hc : c < k) (hd : d < k) (hx : x < k) : swp c d x < k := by
  unfold swp
  by_cases h1 : x = c
  · rw [if_pos h1]; exact hd
  · rw [if_neg h1]
    by_cases h2 : x = d
    · rw [if_pos h2]; exact hc
    · rw [if_neg h2]; exact hx
/-- the first one takes its colours in turn -/
theorem Fst_turn {N k : Nat} {V : (Nat → Nat) → Prop} {f : Nat → Nat} (hf : Fst N V f) (hk : ∀ g, V g → ∀ i, i < N → g i < k) (hs : ∀ g c d, c < k → d < k → V g → V (fun i => swp c d (g i))) : ∀ i, i < N → ∀ d, d < f i → ∃ u, u < i ∧ f u = d := by
  intro i hi d hd
  by_cases q : ∃ u, u < i ∧ f u = d
  · exact q
  · exfalso
    have q' : ∀ u, u < i → ¬ f u = d := fun u hu e => q ⟨u, hu, e⟩
    obtain ⟨j, ⟨hji, hj⟩, hmin⟩ := leastN (P := fun j => j ≤ i ∧ f j = f i) i ⟨Nat.le_refl _, rfl⟩
    have hck := hk f hf.1 i hi
    have hV := hs f (f i) d hck (by omega) hf.1
    have same : ∀ u, u < j → swp (f i) d (f u) = f u := fun u hu => swp_o (fun e => hmin u hu ⟨by omega, e⟩) (q' u (by omega))
    have atj : swp (f i) d (f j) = d := by rw [hj, swp_l]
    rcases hf.2 _ hV with e | ⟨m, hm, e, l⟩
    · have := e j (by omega)
      dsimp only at this
      rw [atj] at this; omega
    · dsimp only at l
      rcases Nat.lt_trichotomy m j with h | h | h
      · rw [same m h] at l; omega
      · subst h; rw [atj] at l; omega
      · have := e j h
        dsimp only at this
        rw [atj] at this; omega
def Rt (N : Nat) (Ad : (Nat → Nat) → Nat → Nat → Prop) (f : Nat → Nat) : Prop := ∀ i, i < N → Ad f i (f i)
/-- backtracking: at depth d, colour x next, row r: all right ones lie ahead -/
def BI (N K : Nat) (Ad : (Nat → Nat) → Nat → Nat → Prop) (d x : Nat) (r : Nat → Nat) : Prop :=
  d ≤ N ∧ x ≤ K ∧ (∀ i, i < d → r i < K) ∧ (∀ i, i < d → Ad r i (r i)) ∧ ∀ g, Rt N Ad g → (eqB r g d ∧ (d < N → x ≤ g d)) ∨ ∃ j, j < d ∧ eqB r g j ∧ r j < g j
theorem BI_0 {N K : Nat} {Ad : (Nat → Nat) → Nat → Nat → Prop} (r : Nat → Nat) : BI N K Ad 0 0 r :=
  ⟨Nat.zero_le _, Nat.zero_le _, fun i hi => by omega, fun i hi => by omega, fun g _ => Or.inl ⟨fun u hu => by omega, fun _ => Nat.zero_le _⟩⟩
theorem BI_fwd {N K d x c : Nat} {Ad : (Nat → Nat) → Nat → Nat → Prop} {r : Nat → Nat} (hA : ∀ f g i c, eqB f g i → Ad f i c → Ad g i c) (h : BI N K Ad d x r) (hd : d < N) (hc : c < K) (hxc : x ≤ c) (hac : Ad r d c) (hno : ∀ c', x ≤ c' → c' < c → ¬ Ad r d c') : BI N K Ad (d + 1) 0 (setN r d c) := by
  obtain ⟨h1, h2, h3, h4, h5⟩ := h
  refine ⟨by omega, Nat.zero_le _, ?_, ?_, ?_⟩
  · intro i hi
    by_cases e : i = d
    · subst e; rw [setN_same]; exact hc
    · rw [setN_ne e]; exact h3 i (by omega)
  · intro i hi
    by_cases e : i = d
    · subst e; rw [setN_same]; exact hA _ _ _ _ (setN_eqB r i c) hac
    · rw [setN_ne e]; exact hA _ _ _ _ (eqB_le (setN_eqB r d c) (by omega)) (h4 i (by omega))
  · intro g hg
    rcases h5 g hg with ⟨e, hx⟩ | ⟨j, hj, e, l⟩
    · have hx' := hx hd
      rcases Nat.lt_trichotomy (g d) c with q | q | q
      · exact absurd (hA _ _ _ _ (eqB_symm e) (hg d hd)) (hno _ hx' q)
      · refine Or.inl ⟨fun u hu => ?_, fun _ => Nat.zero_le _⟩
        by_cases e2 : u = d
        · subst e2; rw [setN_same]; exact q.symm
        · rw [setN_ne e2]; exact e u (by omega)
      · exact Or.inr ⟨d, by omega, eqB_trans (eqB_symm (setN_eqB r d c)) e, by rw [setN_same]; exact q⟩
    · exact Or.inr ⟨j, by omega, eqB_trans (eqB_symm (eqB_le (setN_eqB r d c) (by omega))) e, by rw [setN_ne (by omega)]; exact l⟩
theorem BI_back {N K d x : Nat} {Ad : (Nat → Nat) → Nat → Nat → Prop} {r : Nat → Nat} (hA : ∀ f g i c, eqB f g i → Ad f i c → Ad g i c) (h : BI N K Ad (d + 1) x r) (hd : d + 1 < N) (hno : ∀ c', x ≤ c' → ¬ Ad r (d + 1) c') : BI N K Ad d (r d + 1) r := by
  obtain ⟨h1, h2, h3, h4, h5⟩ := h
  refine ⟨by omega, h3 d (by omega), fun i hi => h3 i (by omega), fun i hi => h4 i (by omega), ?_⟩
  intro g hg
  rcases h5 g hg with ⟨e, hx⟩ | ⟨j, hj, e, l⟩
  · exact absurd (hA _ _ _ _ (eqB_symm e) (hg _ hd)) (hno _ (hx hd))
  · by_cases q : j = d
    · subst q; exact Or.inl ⟨e, fun _ => l⟩
    · exact Or.inr ⟨j, by omega, e, l⟩
theorem BI_fail {N K x : Nat} {Ad : (Nat → Nat) → Nat → Nat → Prop} {r : Nat → Nat} (hA : ∀ f g i c, eqB f g i → Ad f i c → Ad g i c) (h : BI N K Ad 0 x r) (hd : 0 < N) (hno : ∀ c', x ≤ c' → ¬ Ad r 0 c') : ∀ g, ¬ Rt N Ad g := by
  intro g hg
  rcases h.2.2.2.2 g hg with ⟨e, hx⟩ | ⟨j, hj, e, l⟩
  · exact absurd (hA _ _ _ _ (eqB_symm e) (hg _ hd)) (hno _ (hx hd))
  · omega
theorem BI_done {N K x : Nat} {Ad : (Nat → Nat) → Nat → Nat → Prop} {r : Nat → Nat} (h : BI N K Ad N x r) : Fst N (Rt N Ad) r := by
  refine ⟨fun i hi => h.2.2.2.1 i hi, fun g hg => ?_⟩
  rcases h.2.2.2.2 g hg with ⟨e, _⟩ | q
  · exact Or.inl e
  · exact Or.inr q
/-- the measure -/
def muS (N : Nat) (r : Nat → Nat) : Nat → Nat
  | 0 => 0
  | d + 1 => muS N r d + (2 * r d + 1) * 40 ^ (N - d)
def muB (N d x : Nat) (r : Nat → Nat) : Nat := muS N r d + 2 * x * 40 ^ (N - d)
theorem muS_eq {N : Nat} {r s : Nat → Nat} : ∀ d, eqB r s d → muS N r d = muS N s d := by
  intro d
  induction d with
  | zero => intro _; rfl
  | succ d ih => intro h; show muS N r d + _ = muS N s d + _; rw [ih (eqB_le h (by omega)), h d (by omega)]
theorem muS_le {N : Nat} {r : Nat → Nat} : ∀ d, d ≤ N + 1 → (∀ i, i < d → r i < 17) → muS N r d + 40 ^ (N + 1 - d) ≤ 40 ^ (N + 1) := by
  intro d
  induction d with
  | zero => intro _ _; show 0 + _ ≤ _; rw [Nat.zero_add]; exact Nat.le_refl _
  | succ d ih =>
    intro hd hr
    have h1 := ih (by omega) (fun i hi => hr i (by omega))
    have h2 := hr d (by omega)
    have e : 40 ^ (N + 1 - d) = 40 ^ (N - d) * 40 := by rw [show N + 1 - d = (N - d) + 1 from by omega, Nat.pow_succ]
    have e2 : N + 1 - (d + 1) = N - d := by omega
    rw [e] at h1
    rw [e2]
    show muS N r d + (2 * r d + 1) * 40 ^ (N - d) + 40 ^ (N - d) ≤ _
    have h3 : (2 * r d + 1) * 40 ^ (N - d) ≤ 39 * 40 ^ (N - d) := Nat.mul_le_mul_right _ (by omega)
    omega
theorem muB_lt {N d x : Nat} {r : Nat → Nat} (hd : d ≤ N) (hx : x ≤ 17) (hr : ∀ i, i < d → r i < 17) : muB N d x r < 40 ^ (N + 1) := by
  have h1 := muS_le (N := N) (r := r) d (by omega) hr
  have e : 40 ^ (N + 1 - d) = 40 ^ (N - d) * 40 := by rw [show N + 1 - d = (N - d) + 1 from by omega, Nat.pow_succ]
  rw [e] at h1
  unfold muB
  have h3 : 2 * x * 40 ^ (N - d) ≤ 34 * 40 ^ (N - d) := Nat.mul_le_mul_right _ (by omega)
  have h4 : 0 < 40 ^ (N - d) := Nat.pow_pos (by omega)
  omega
theorem muB_fwd {N d x c : Nat} {r : Nat → Nat} (hxc : x ≤ c) : muB N d x r < muB N (d + 1) 0 (setN r d c) := by
  unfold muB
  show _ < muS N (setN r d c) d + (2 * setN r d c d + 1) * 40 ^ (N - d) + 2 * 0 * _
  rw [← muS_eq d (setN_eqB r d c), setN_same, Nat.mul_zero, Nat.zero_mul]
  have h4 : 0 < 40 ^ (N - d) := Nat.pow_pos (by omega)
  have h3 : 2 * x * 40 ^ (N - d) ≤ 2 * c * 40 ^ (N - d) := Nat.mul_le_mul_right _ (by omega)
  rw [Nat.add_mul, Nat.one_mul]
  omega
theorem muB_back {N d x : Nat} {r : Nat → Nat} (hd : d + 1 ≤ N) (hx : x ≤ 17) : muB N (d + 1) x r < muB N d (r d + 1) r := by
  unfold muB
  show muS N r d + (2 * r d + 1) * 40 ^ (N - d) + 2 * x * 40 ^ (N - (d + 1)) < _
  have e : 40 ^ (N - d) = 40 ^ (N - (d + 1)) * 40 := by rw [show N - d = (N - (d + 1)) + 1 from by omega, Nat.pow_succ]
  have h4 : 0 < 40 ^ (N - (d + 1)) := Nat.pow_pos (by omega)
  have h3 : 2 * x * 40 ^ (N - (d + 1)) ≤ 34 * 40 ^ (N - (d + 1)) := Nat.mul_le_mul_right _ (by omega)
  have h5 : 2 * (r d + 1) * 40 ^ (N - d) = (2 * r d + 1) * 40 ^ (N - d) + 40 ^ (N - d) := by
    rw [show 2 * (r d + 1) = (2 * r d + 1) + 1 from by omega, Nat.add_mul (2 * r d + 1), Nat.one_mul]
  omega
/-- a loop with an invariant that names its own measure -/
theorem OK_gLm {σ ρ : Type} {body : (σ → Option ρ) → σ → Option ρ} {P : ρ → Prop} (I : Nat → σ → Prop) (step : ∀ (k : σ → Option ρ) (m : Nat) (z : σ), I m z → (∀ m' z', m' < m → I m' z' → OK (k z') P) → OK (body k z) P) : ∀ (F m : Nat) (z : σ), I m z → m < F → OK (gL body F z) P := by
  intro F
  induction F with
  | zero => intro m z _ h; omega
  | succ F ih =>
    intro m z hz h
    rw [gL_s]
    exact step _ m z hz (fun m' z' h1 h2 => ih m' z' h2 (by omega))
