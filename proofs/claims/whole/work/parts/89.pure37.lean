/-! PURE, 37: sums over the ways to cut a set in two -/
theorem top_bit {a n i : Nat} (h : a < 2 ^ n) : (a + 2 ^ n).testBit i = (decide (i = n) || a.testBit i) := by
  have e : a + 2 ^ n = 2 ^ n ||| a := by
    have := Nat.two_pow_add_eq_or_of_lt h 1
    rw [Nat.mul_one] at this
    rw [Nat.add_comm, this]
  rw [e, Nat.testBit_or, Nat.testBit_two_pow]
  by_cases q : n = i
  · rw [decide_eq_true q, decide_eq_true q.symm]
  · rw [decide_eq_false q, decide_eq_false (fun w => q w.symm)]
theorem bit_ge {a n : Nat} (h : a < 2 ^ n) {i : Nat} (hi : n ≤ i) : a.testBit i = false := Nat.testBit_lt_two_pow (Nat.lt_of_lt_of_le h (Nat.pow_le_pow_right (by omega) hi))
theorem split_top {S n : Nat} (h : S < 2 ^ (n + 1)) (hb : S.testBit n = true) : ∃ S', S' < 2 ^ n ∧ S = S' + 2 ^ n := by
  have h1 : 2 ^ n ≤ S := by
    rcases Nat.lt_or_ge S (2 ^ n) with q | q
    · rw [bit_ge q (Nat.le_refl _)] at hb; cases hb
    · exact q
  rw [Nat.pow_succ] at h
  exact ⟨S - 2 ^ n, by omega, by omega⟩
theorem low_of {S n : Nat} (h : S < 2 ^ (n + 1)) (hb : ¬ S.testBit n = true) : S < 2 ^ n := by
  apply Nat.lt_pow_two_of_testBit
  intro i hi
  by_cases e : i = n
  · subst e
    cases q : S.testBit i with
    | false => rfl
    | true => exact absurd q hb
  · exact bit_ge h (by omega)
def pp : Nat → Nat → (Nat → Nat → Int) → Int
  | 0, _, h => h 0 0
  | n + 1, S, h => if S.testBit n = true then pp n S (fun a b => h (a + 2 ^ n) b) + pp n S (fun a b => h a (b + 2 ^ n)) else pp n S h
theorem pp_t {n S : Nat} {h : Nat → Nat → Int} (hb : S.testBit n = true) : pp (n + 1) S h = pp n S (fun a b => h (a + 2 ^ n) b) + pp n S (fun a b => h a (b + 2 ^ n)) := if_pos hb
theorem pp_f {n S : Nat} {h : Nat → Nat → Int} (hb : ¬ S.testBit n = true) : pp (n + 1) S h = pp n S h := if_neg hb
theorem pp_low : ∀ (n S S' : Nat) (h : Nat → Nat → Int), (∀ i, i < n → S.testBit i = S'.testBit i) → pp n S h = pp n S' h := by
  intro n
  induction n with
  | zero => intro S S' h _; rfl
  | succ n ih =>
    intro S S' h e
    have e' : ∀ i, i < n → S.testBit i = S'.testBit i := fun i hi => e i (by omega)
    by_cases q : S.testBit n = true
    · rw [pp_t q, pp_t (by rw [← e n (by omega)]; exact q), ih S S' _ e', ih S S' _ e']
    · rw [pp_f q, pp_f (by rw [← e n (by omega)]; exact q), ih S S' _ e']
theorem pp_top {n S' : Nat} {h : Nat → Nat → Int} (hs : S' < 2 ^ n) : pp n (S' + 2 ^ n) h = pp n S' h := pp_low n _ _ h (fun i hi => by rw [top_bit hs, decide_eq_false (by omega), Bool.false_or])
theorem top_t {n S' : Nat} (hs : S' < 2 ^ n) : (S' + 2 ^ n).testBit n = true := by rw [top_bit hs, decide_eq_true rfl, Bool.true_or]
theorem pp_T {n S' : Nat} {h : Nat → Nat → Int} (hs : S' < 2 ^ n) : pp (n + 1) (S' + 2 ^ n) h = pp n S' (fun a b => h (a + 2 ^ n) b) + pp n S' (fun a b => h a (b + 2 ^ n)) := by
  rw [pp_t (top_t hs), pp_top hs, pp_top hs]
theorem pp_F {n S : Nat} {h : Nat → Nat → Int} (hs : S < 2 ^ n) : pp (n + 1) S h = pp n S h := pp_f (by rw [bit_ge hs (Nat.le_refl _)]; decide)
/-- a and b are a cut of S -/
def cut (S a b : Nat) : Prop := ∀ i, (S.testBit i = true ↔ a.testBit i = true ∨ b.testBit i = true) ∧ ¬ (a.testBit i = true ∧ b.testBit i = true)
theorem cut_top {n S a b : Nat} (hS : S < 2 ^ n) (ha : a < 2 ^ n) (h : cut S a b) : cut (S + 2 ^ n) (a + 2 ^ n) b := by
  intro i
  have hb : b.testBit i = true → ¬ i = n := fun w e => by
    have := ((h i).1).mpr (Or.inr w)
    rw [e, bit_ge hS (Nat.le_refl _)] at this; cases this
  rw [top_bit hS, top_bit ha, Bool.or_eq_true, Bool.or_eq_true, decide_eq_true_iff, (h i).1]
  refine ⟨⟨fun w => ?_, fun w => ?_⟩, fun w => ?_⟩
  · rcases w with w | w | w
    · exact Or.inl (Or.inl w)
    · exact Or.inl (Or.inr w)
    · exact Or.inr w
  · rcases w with (w | w) | w
    · exact Or.inl w
    · exact Or.inr (Or.inl w)
    · exact Or.inr (Or.inr w)
  · rcases w with ⟨w | w, w2⟩
    · exact hb w2 w
    · exact (h i).2 ⟨w, w2⟩
theorem cut_symm {S a b : Nat} (h : cut S a b) : cut S b a := fun i => ⟨⟨fun w => ((h i).1.mp w).symm, fun w => (h i).1.mpr w.symm⟩, fun w => (h i).2 ⟨w.2, w.1⟩⟩
theorem pp_congr : ∀ (n S : Nat) (h h' : Nat → Nat → Int), S < 2 ^ n → (∀ a b, a < 2 ^ n → b < 2 ^ n → cut S a b → h a b = h' a b) → pp n S h = pp n S h' := by
  intro n
  induction n with
  | zero =>
    intro S h h' hS e
    refine e 0 0 (by decide) (by decide) (fun i => ?_)
    have : S = 0 := by rw [Nat.pow_zero] at hS; omega
    subst this
    rw [Nat.zero_testBit]
    exact ⟨⟨fun w => (by cases w), fun w => (by rcases w with w | w <;> cases w)⟩, fun w => (by cases w.1)⟩
  | succ n ih =>
    intro S h h' hS e
    have hp : 2 ^ (n + 1) = 2 ^ n + 2 ^ n := by rw [Nat.pow_succ]; omega
    by_cases q : S.testBit n = true
    · obtain ⟨S', hS', rfl⟩ := split_top hS q
      rw [pp_T hS', pp_T hS']
      rw [ih S' _ _ hS' (fun a b ha hb hc => e (a + 2 ^ n) b (by omega) (by omega) (cut_top hS' ha hc)), ih S' _ _ hS' (fun a b ha hb hc => e a (b + 2 ^ n) (by omega) (by omega) (cut_symm (cut_top hS' hb (cut_symm hc))))]
    · have hS' := low_of hS q
      rw [pp_F hS', pp_F hS']
      exact ih S _ _ hS' (fun a b ha hb hc => e a b (by omega) (by omega) hc)
theorem pp_add {h h' : Nat → Nat → Int} : ∀ n S, pp n S (fun a b => h a b + h' a b) = pp n S h + pp n S h' := by
  intro n
  induction n generalizing h h' with
  | zero => intro S; rfl
  | succ n ih =>
    intro S
    by_cases q : S.testBit n = true
    · rw [pp_t q, pp_t q, pp_t q, ih (h := fun a b => h (a + 2 ^ n) b) (h' := fun a b => h' (a + 2 ^ n) b), ih (h := fun a b => h a (b + 2 ^ n)) (h' := fun a b => h' a (b + 2 ^ n))]; omega
    · rw [pp_f q, pp_f q, pp_f q, ih]
theorem pp_mul {h : Nat → Nat → Int} {c : Int} : ∀ n S, pp n S (fun a b => c * h a b) = c * pp n S h := by
  intro n
  induction n generalizing h with
  | zero => intro S; rfl
  | succ n ih =>
    intro S
    by_cases q : S.testBit n = true
    · rw [pp_t q, pp_t q, ih, ih, Int.mul_add]
    · rw [pp_f q, pp_f q, ih]
theorem pp_comm {h : Nat → Nat → Int} : ∀ n S, pp n S (fun a b => h b a) = pp n S h := by
  intro n
  induction n generalizing h with
  | zero => intro S; rfl
  | succ n ih =>
    intro S
    by_cases q : S.testBit n = true
    · rw [pp_t q, pp_t q, ih (h := fun a b => h a (b + 2 ^ n)), ih (h := fun a b => h (a + 2 ^ n) b)]; omega
    · rw [pp_f q, pp_f q, ih]
theorem pp_0 : ∀ n S, pp n S (fun _ _ => 0) = 0 := by
  intro n
  induction n with
  | zero => intro S; rfl
  | succ n ih =>
    intro S
    by_cases q : S.testBit n = true
    · rw [pp_t q, ih]; rfl
    · rw [pp_f q, ih]
theorem pp_le : ∀ (n S : Nat) (h h' : Nat → Nat → Int), S < 2 ^ n → (∀ a b, a < 2 ^ n → b < 2 ^ n → cut S a b → h a b ≤ h' a b) → pp n S h ≤ pp n S h' := by
  intro n
  induction n with
  | zero =>
    intro S h h' hS e
    refine e 0 0 (by decide) (by decide) (fun i => ?_)
    have : S = 0 := by rw [Nat.pow_zero] at hS; omega
    subst this
    rw [Nat.zero_testBit]
    exact ⟨⟨fun w => (by cases w), fun w => (by rcases w with w | w <;> cases w)⟩, fun w => (by cases w.1)⟩
  | succ n ih =>
    intro S h h' hS e
    have hp : 2 ^ (n + 1) = 2 ^ n + 2 ^ n := by rw [Nat.pow_succ]; omega
    by_cases q : S.testBit n = true
    · obtain ⟨S', hS', rfl⟩ := split_top hS q
      rw [pp_T hS', pp_T hS']
      have h1 := ih S' (fun a b => h (a + 2 ^ n) b) (fun a b => h' (a + 2 ^ n) b) hS' (fun a b ha hb hc => e (a + 2 ^ n) b (by omega) (by omega) (cut_top hS' ha hc))
      have h2 := ih S' (fun a b => h a (b + 2 ^ n)) (fun a b => h' a (b + 2 ^ n)) hS' (fun a b ha hb hc => e a (b + 2 ^ n) (by omega) (by omega) (cut_symm (cut_top hS' hb (cut_symm hc))))
      omega
    · have hS' := low_of hS q
      rw [pp_F hS', pp_F hS']
      exact ih S _ _ hS' (fun a b ha hb hc => e a b (by omega) (by omega) hc)
/-- three parts, cut in either order -/
theorem pp_assoc : ∀ (n S : Nat) (h : Nat → Nat → Nat → Int), S < 2 ^ n → pp n S (fun a x => pp n x (fun b c => h a b c)) = pp n S (fun x c => pp n x (fun a b => h a b c)) := by
  intro n
  induction n with
  | zero => intro S h _; rfl
  | succ n ih =>
    intro S h hS
    by_cases q : S.testBit n = true
    · obtain ⟨S', hS', rfl⟩ := split_top hS q
      rw [pp_T hS', pp_T hS']
      rw [pp_congr n S' (fun a b => pp (n + 1) b (fun b c => h (a + 2 ^ n) b c)) (fun a b => pp n b (fun b c => h (a + 2 ^ n) b c)) hS' (fun a b ha hb _ => pp_F hb)]
      rw [pp_congr n S' (fun a b => pp (n + 1) (b + 2 ^ n) (fun b c => h a b c)) (fun a b => pp n b (fun b c => h a (b + 2 ^ n) c) + pp n b (fun b c => h a b (c + 2 ^ n))) hS' (fun a b ha hb _ => pp_T hb)]
      rw [pp_congr n S' (fun a b => pp (n + 1) (a + 2 ^ n) (fun a b_1 => h a b_1 b)) (fun a b => pp n a (fun a' b' => h (a' + 2 ^ n) b' b) + pp n a (fun a' b' => h a' (b' + 2 ^ n) b)) hS' (fun a b ha hb _ => pp_T ha)]
      rw [pp_congr n S' (fun a b => pp (n + 1) a (fun a b_1 => h a b_1 (b + 2 ^ n))) (fun a b => pp n a (fun a' b' => h a' b' (b + 2 ^ n))) hS' (fun a b ha hb _ => pp_F ha)]
      rw [pp_add, pp_add, ih S' (fun a b c => h (a + 2 ^ n) b c) hS', ih S' (fun a b c => h a (b + 2 ^ n) c) hS', ih S' (fun a b c => h a b (c + 2 ^ n)) hS']
      omega
    · have hS' := low_of hS q
      rw [pp_F hS', pp_F hS']
      rw [pp_congr n S (fun a x => pp (n + 1) x (fun b c => h a b c)) (fun a x => pp n x (fun b c => h a b c)) hS' (fun a b ha hb _ => pp_F hb)]
      rw [pp_congr n S (fun x c => pp (n + 1) x (fun a b => h a b c)) (fun x c => pp n x (fun a b => h a b c)) hS' (fun a b ha hb _ => pp_F ha)]
      exact ih S h hS'
/-- sums in a row -/
def sumR (g : Nat → Int) : Nat → Int
  | 0 => 0
  | b + 1 => sumR g b + g b
theorem sumR_s (g : Nat → Int) (b : Nat) : sumR g (b + 1) = sumR g b + g b := rfl
theorem sumR_eq {g g' : Nat → Int} : ∀ b, (∀ t, t < b → g t = g' t) → sumR g b = sumR g' b := by
  intro b
  induction b with
  | zero => intro _; rfl
  | succ b ih => intro h; rw [sumR_s, sumR_s, ih (fun t ht => h t (by omega)), h b (by omega)]
theorem sumR_add {g : Nat → Int} {a : Nat} : ∀ b, sumR g (a + b) = sumR g a + sumR (fun t => g (a + t)) b := by
  intro b
  induction b with
  | zero => show _ = _ + 0; rw [Nat.add_zero]; omega
  | succ b ih => rw [← Nat.add_assoc, sumR_s, sumR_s, ih]; omega
theorem sumR_gap {g : Nat → Int} {a : Nat} : ∀ b, a ≤ b → (∀ t, a ≤ t → t < b → g t = 0) → sumR g b = sumR g a := by
  intro b
  induction b with
  | zero => intro h _; rw [show a = 0 by omega]
  | succ b ih =>
    intro h hz
    by_cases e : a = b + 1
    · rw [e]
    · rw [sumR_s, ih (by omega) (fun t h1 h2 => hz t h1 (by omega)), hz b (by omega) (by omega)]; omega
/-- the summand of the submask t of S -/
def subg (S : Nat) (h : Nat → Nat → Int) (t : Nat) : Int := if t &&& S = t then h t (S ^^^ t) else 0
theorem and_eq_iff {t S : Nat} : t &&& S = t ↔ sbN t S := ⟨fun h i hi => by rw [← h, Nat.testBit_and, Bool.and_eq_true] at hi; exact hi.2, sbN_and⟩
theorem pp_range : ∀ (n S : Nat) (h : Nat → Nat → Int), S < 2 ^ n → pp n S h = sumR (subg S h) (2 ^ n) := by
  intro n
  induction n with
  | zero =>
    intro S h hS
    have : S = 0 := by rw [Nat.pow_zero] at hS; omega
    subst this
    show h 0 0 = 0 + subg 0 h 0
    unfold subg
    rw [if_pos (show 0 &&& 0 = 0 from rfl)]
    show h 0 0 = 0 + h 0 0
    omega
  | succ n ih =>
    intro S h hS
    have hp : 2 ^ (n + 1) = 2 ^ n + 2 ^ n := by rw [Nat.pow_succ]; omega
    rw [hp, sumR_add]
    by_cases q : S.testBit n = true
    · obtain ⟨S', hS', rfl⟩ := split_top hS q
      rw [pp_T hS', ih S' _ hS', ih S' _ hS', Int.add_comm]
      congr 1
      · refine sumR_eq _ (fun t ht => ?_)
        unfold subg
        by_cases w : sbN t S'
        · have w' : sbN t (S' + 2 ^ n) := fun i hi => by rw [top_bit hS', w i hi, Bool.or_true]
          rw [if_pos (and_eq_iff.mpr w), if_pos (and_eq_iff.mpr w')]
          show h t ((S' ^^^ t) + 2 ^ n) = h t ((S' + 2 ^ n) ^^^ t)
          congr 1
          apply Nat.eq_of_testBit_eq
          intro i
          rw [top_bit (Nat.xor_lt_two_pow hS' ht), Nat.testBit_xor, Nat.testBit_xor, top_bit hS']
          by_cases e : i = n
          · subst e; rw [bit_ge ht (Nat.le_refl _), bit_ge hS' (Nat.le_refl _)]; simp
          · rw [decide_eq_false e, Bool.false_or, Bool.false_or]
        · have w' : ¬ sbN t (S' + 2 ^ n) := fun z => w (fun i hi => by
            have := z i hi
            rw [top_bit hS', Bool.or_eq_true, decide_eq_true_iff] at this
            rcases this with e | e
            · rw [e, bit_ge ht (Nat.le_refl _)] at hi; cases hi
            · exact e)
          rw [if_neg (fun z => w (and_eq_iff.mp z)), if_neg (fun z => w' (and_eq_iff.mp z))]
      · refine sumR_eq _ (fun t ht => ?_)
        unfold subg
        rw [Nat.add_comm (2 ^ n) t]
        by_cases w : sbN t S'
        · have w' : sbN (t + 2 ^ n) (S' + 2 ^ n) := fun i hi => by
            rw [top_bit ht, Bool.or_eq_true] at hi
            rw [top_bit hS']
            rcases hi with e | e
            · rw [e, Bool.true_or]
            · rw [w i e, Bool.or_true]
          rw [if_pos (and_eq_iff.mpr w), if_pos (and_eq_iff.mpr w')]
          show h (t + 2 ^ n) (S' ^^^ t) = h (t + 2 ^ n) ((S' + 2 ^ n) ^^^ (t + 2 ^ n))
          congr 1
          apply Nat.eq_of_testBit_eq
          intro i
          rw [Nat.testBit_xor, Nat.testBit_xor, top_bit hS', top_bit ht]
          by_cases e : i = n
          · subst e; rw [bit_ge ht (Nat.le_refl _), bit_ge hS' (Nat.le_refl _)]; simp
          · rw [decide_eq_false e, Bool.false_or, Bool.false_or]
        · have w' : ¬ sbN (t + 2 ^ n) (S' + 2 ^ n) := fun z => w (fun i hi => by
            have := z i (by rw [top_bit ht, hi, Bool.or_true])
            rw [top_bit hS', Bool.or_eq_true, decide_eq_true_iff] at this
            rcases this with e | e
            · rw [e, bit_ge ht (Nat.le_refl _)] at hi; cases hi
            · exact e)
          rw [if_neg (fun z => w (and_eq_iff.mp z)), if_neg (fun z => w' (and_eq_iff.mp z))]
    · have hS' := low_of hS q
      rw [pp_F hS', ih S h hS']
      have : sumR (fun t => subg S h (2 ^ n + t)) (2 ^ n) = 0 := by
        have := sumR_gap (g := fun t => subg S h (2 ^ n + t)) (a := 0) (2 ^ n) (Nat.zero_le _) (fun t _ ht => ?_)
        · exact this
        · show (if (2 ^ n + t) &&& S = 2 ^ n + t then _ else (0 : Int)) = 0
          refine if_neg (fun z => ?_)
          have := and_eq_iff.mp z n (by rw [Nat.add_comm]; exact top_t ht)
          rw [bit_ge hS' (Nat.le_refl _)] at this; cases this
      rw [this]; omega
