/-! PURE, 34: sets as numbers -/
def sbN (t m : Nat) : Prop := ∀ i, t.testBit i = true → m.testBit i = true
theorem sbN_and {t m : Nat} (h : sbN t m) : t &&& m = t := by
  apply Nat.eq_of_testBit_eq
  intro i
  rw [Nat.testBit_and]
  cases hb : t.testBit i with
  | false => rfl
  | true => rw [h i hb]; rfl
theorem and_sbN {t m : Nat} : sbN (t &&& m) m := fun i h => by
  rw [Nat.testBit_and, Bool.and_eq_true] at h
  exact h.2
theorem and_sbN' {t m : Nat} : sbN (t &&& m) t := fun i h => by
  rw [Nat.testBit_and, Bool.and_eq_true] at h
  exact h.1
theorem sbN_le {t m : Nat} (h : sbN t m) : t ≤ m := by
  rw [← sbN_and h]
  exact Nat.and_le_right
theorem sbN_refl (m : Nat) : sbN m m := fun _ h => h
theorem sbN_trans {a b c : Nat} (h1 : sbN a b) (h2 : sbN b c) : sbN a c := fun i h => h2 i (h1 i h)
theorem sbN_0 (m : Nat) : sbN 0 m := fun i h => by rw [Nat.zero_testBit] at h; cases h
theorem and_half (x y : Nat) : (x &&& y) / 2 = (x / 2) &&& (y / 2) ∧ (x &&& y) % 2 = (x % 2) * (y % 2) := by
  constructor
  · have := Nat.and_div_two_pow (a := x) (b := y) (n := 1)
    simpa using this
  · have := Nat.and_mod_two_pow (a := x) (b := y) (n := 1)
    rw [Nat.pow_one] at this
    rw [this]
    rcases Nat.mod_two_eq_zero_or_one x with h | h <;> rcases Nat.mod_two_eq_zero_or_one y with h2 | h2 <;> rw [h, h2] <;> rfl
/-- the next smaller one of m's sets -/
theorem prevSub : ∀ t m s : Nat, t &&& m = t → s &&& m = s → s < t → s ≤ (t - 1) &&& m := by
  intro t
  induction t using Nat.strongRecOn with
  | ind t ih =>
    intro m s ht hs hl
    obtain ⟨a1, a2⟩ := and_half t m
    obtain ⟨b1, b2⟩ := and_half s m
    obtain ⟨c1, c2⟩ := and_half (t - 1) m
    rw [ht] at a1 a2
    rw [hs] at b1 b2
    rcases Nat.mod_two_eq_zero_or_one t with h | h
    · have h1 : (t - 1) / 2 = t / 2 - 1 := by omega
      have h2 : (t - 1) % 2 = 1 := by omega
      have := ih (t / 2) (by omega) (m / 2) (s / 2) a1.symm b1.symm (by omega)
      rw [h1] at c1
      rw [h2, Nat.one_mul] at c2
      have h3 : s % 2 ≤ m % 2 := by
        rcases Nat.mod_two_eq_zero_or_one s with q | q
        · omega
        · rw [q, Nat.one_mul] at b2; omega
      omega
    · have h1 : (t - 1) / 2 = t / 2 := by omega
      have h2 : (t - 1) % 2 = 0 := by omega
      rw [h1, ← a1] at c1
      rw [h2, Nat.zero_mul] at c2
      omega
theorem bit_lt {s n i : Nat} (h : s < 2 ^ n) (hb : s.testBit i = true) : i < n := by
  rcases Nat.lt_or_ge i n with q | q
  · exact q
  · rw [Nat.testBit_lt_two_pow (Nat.lt_of_lt_of_le h (Nat.pow_le_pow_right (by omega) q))] at hb
    cases hb
def mkM (p : Nat → Bool) : Nat → Nat
  | 0 => 0
  | n + 1 => mkM p n ||| (if p n = true then 2 ^ n else 0)
theorem mkM_bit {p : Nat → Bool} : ∀ n i, (mkM p n).testBit i = (decide (i < n) && p i) := by
  intro n
  induction n with
  | zero =>
    intro i
    show Nat.testBit 0 i = _
    rw [Nat.zero_testBit]; rfl
  | succ n ih =>
    intro i
    show Nat.testBit (mkM p n ||| (if p n = true then 2 ^ n else 0)) i = _
    rw [Nat.testBit_or, ih i]
    by_cases h : p n = true
    · rw [if_pos h, Nat.testBit_two_pow]
      by_cases e : n = i
      · subst e
        rw [decide_eq_true rfl, decide_eq_true (Nat.lt_succ_self _), h, Bool.or_true]; rfl
      · rw [decide_eq_false e, Bool.or_false]
        by_cases l : i < n
        · rw [decide_eq_true l, decide_eq_true (by omega)]
        · rw [decide_eq_false l, decide_eq_false (by omega)]
    · rw [if_neg h, Nat.zero_testBit, Bool.or_false]
      by_cases e : i = n
      · subst e
        rw [decide_eq_false (by omega), decide_eq_true (by omega)]
        cases hp : p i with
        | false => rfl
        | true => exact absurd hp h
      · by_cases l : i < n
        · rw [decide_eq_true l, decide_eq_true (by omega)]
        · rw [decide_eq_false l, decide_eq_false (by omega)]
theorem mkM_lt {p : Nat → Bool} (n : Nat) : mkM p n < 2 ^ n := by
  apply Nat.lt_pow_two_of_testBit
  intro i hi
  rw [mkM_bit, decide_eq_false (by omega)]; rfl
/-- a colouring of the set s with colours below c -/
def DC (al nr : Nat → Nat → Prop) (c s : Nat) : Prop := ∃ g : Nat → Nat, (∀ i, s.testBit i = true → g i < c ∧ al i (g i)) ∧ ∀ i j, s.testBit i = true → s.testBit j = true → nr i j → ¬ g i = g j
theorem xor_sub {s t i : Nat} (h : sbN t s) : (s ^^^ t).testBit i = true ↔ s.testBit i = true ∧ ¬ t.testBit i = true := by
  rw [Nat.testBit_xor]
  cases hs : s.testBit i <;> cases ht : t.testBit i
  · simp
  · rw [h i ht] at hs; cases hs
  · simp
  · simp
theorem DC_0 {al nr : Nat → Nat → Prop} {s : Nat} : DC al nr 0 s ↔ s = 0 := by
  constructor
  · rintro ⟨g, h1, _⟩
    apply Nat.eq_of_testBit_eq
    intro i
    rw [Nat.zero_testBit]
    cases hb : s.testBit i with
    | false => rfl
    | true => have := (h1 i hb).1; omega
  · rintro rfl
    exact ⟨fun _ => 0, (fun i h => by rw [Nat.zero_testBit] at h; cases h), (fun i j h => by rw [Nat.zero_testBit] at h; cases h)⟩
/-- t goes with colour c -/
def okT (al nr : Nat → Nat → Prop) (c t : Nat) : Prop := (∀ i, t.testBit i = true → al i c) ∧ ∀ i j, t.testBit i = true → t.testBit j = true → ¬ nr i j
theorem DC_put {al nr : Nat → Nat → Prop} {c s t : Nat} (hts : sbN t s) (ho : okT al nr c t) (hd : DC al nr c (s ^^^ t)) : DC al nr (c + 1) s := by
  obtain ⟨g, h1, h2⟩ := hd
  have key : ∀ i, s.testBit i = true → ¬ t.testBit i = true → (s ^^^ t).testBit i = true := fun i a b => (xor_sub hts).mpr ⟨a, b⟩
  refine ⟨fun i => if t.testBit i = true then c else g i, fun i hi => ?_, fun i j hi hj hn => ?_⟩
  · by_cases q : t.testBit i = true
    · dsimp only; rw [if_pos q]; exact ⟨by omega, ho.1 i q⟩
    · dsimp only; rw [if_neg q]
      have := h1 i (key i hi q)
      exact ⟨by omega, this.2⟩
  · dsimp only
    by_cases q : t.testBit i = true
    · by_cases q2 : t.testBit j = true
      · exact absurd hn (ho.2 i j q q2)
      · rw [if_pos q, if_neg q2]
        have := (h1 j (key j hj q2)).1
        omega
    · by_cases q2 : t.testBit j = true
      · rw [if_neg q, if_pos q2]
        have := (h1 i (key i hi q)).1
        omega
      · rw [if_neg q, if_neg q2]
        exact h2 i j (key i hi q) (key j hj q2) hn
theorem DC_take {al nr : Nat → Nat → Prop} {n c s : Nat} (hs : s < 2 ^ n) (hd : DC al nr (c + 1) s) : ∃ t, sbN t s ∧ okT al nr c t ∧ DC al nr c (s ^^^ t) := by
  obtain ⟨g, h1, h2⟩ := hd
  have hb : ∀ i, (mkM (fun i => s.testBit i && decide (g i = c)) n).testBit i = true ↔ s.testBit i = true ∧ g i = c := by
    intro i
    rw [mkM_bit, Bool.and_eq_true, Bool.and_eq_true, decide_eq_true_iff, decide_eq_true_iff]
    exact ⟨fun w => w.2, fun w => ⟨bit_lt hs w.1, w⟩⟩
  generalize mkM (fun i => s.testBit i && decide (g i = c)) n = t at hb
  have hts : sbN t s := fun i h => ((hb i).mp h).1
  refine ⟨t, hts, ⟨fun i hi => ?_, fun i j hi hj hn => ?_⟩, g, fun i hi => ?_, fun i j hi hj hn => ?_⟩
  · have := (hb i).mp hi
    have h3 := (h1 i this.1).2
    rw [this.2] at h3
    exact h3
  · have e1 := (hb i).mp hi
    have e2 := (hb j).mp hj
    exact h2 i j e1.1 e2.1 hn (e1.2.trans e2.2.symm)
  · have := (xor_sub hts).mp hi
    have h3 := h1 i this.1
    refine ⟨?_, h3.2⟩
    rcases Nat.lt_or_ge (g i) c with q | q
    · exact q
    · exact absurd ((hb i).mpr ⟨this.1, by omega⟩) this.2
  · exact h2 i j ((xor_sub hts).mp hi).1 ((xor_sub hts).mp hj).1 hn
theorem DC_mono {al nr : Nat → Nat → Prop} {c d s : Nat} (h : c ≤ d) (hd : DC al nr c s) : DC al nr d s := by
  obtain ⟨g, h1, h2⟩ := hd
  exact ⟨g, fun i hi => ⟨by have := (h1 i hi).1; omega, (h1 i hi).2⟩, h2⟩
theorem xor_0 (s : Nat) : s ^^^ 0 = s := Nat.xor_zero s
/-- the step of the reference: s without more, or a set t of it goes with c -/
theorem DC_step {al nr : Nat → Nat → Prop} {n c s : Nat} (hs : s < 2 ^ n) : DC al nr (c + 1) s ↔ DC al nr c s ∨ ∃ t, 0 < t ∧ sbN t s ∧ okT al nr c t ∧ DC al nr c (s ^^^ t) := by
  constructor
  · intro h
    obtain ⟨t, h1, h2, h3⟩ := DC_take hs h
    by_cases q : t = 0
    · subst q
      rw [xor_0] at h3
      exact Or.inl h3
    · exact Or.inr ⟨t, by omega, h1, h2, h3⟩
  · rintro (h | ⟨t, _, h1, h2, h3⟩)
    · exact DC_mono (by omega) h
    · exact DC_put h1 h2 h3
