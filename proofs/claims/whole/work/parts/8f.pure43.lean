/-! PURE, 43: products of set functions -/
theorem rmB_top {n S u : Nat} (hS : S < 2 ^ n) (hu : ¬ u = n) : rmB (S + 2 ^ n) u = rmB S u + 2 ^ n := by
  apply Nat.eq_of_testBit_eq
  intro i
  have h1 := rmB_bit (s := S + 2 ^ n) (v := u) (i := i)
  rw [top_bit (rmB_lt hS)]
  have h2 := rmB_bit (s := S) (v := u) (i := i)
  rw [top_bit hS] at h1
  by_cases e : i = n
  · subst e
    rw [decide_eq_true rfl, Bool.true_or] at h1 ⊢
    exact h1.mpr ⟨rfl, fun q => hu q.symm⟩
  · rw [decide_eq_false e, Bool.false_or] at h1 ⊢
    cases ha : (rmB (S + 2 ^ n) u).testBit i <;> cases hb : (rmB S u).testBit i
    · rfl
    · rw [ha] at h1; rw [hb] at h2; exact absurd (h1.mpr (h2.mp rfl)) (by decide)
    · rw [ha] at h1; rw [hb] at h2; exact absurd (h2.mpr (h1.mp rfl)) (by decide)
    · rfl
theorem rmB_self {n S : Nat} (hS : S < 2 ^ n) : rmB (S + 2 ^ n) n = S := by
  apply Nat.eq_of_testBit_eq
  intro i
  have h1 := rmB_bit (s := S + 2 ^ n) (v := n) (i := i)
  rw [top_bit hS] at h1
  by_cases e : i = n
  · subst e
    rw [bit_ge hS (Nat.le_refl _)]
    cases ha : (rmB (S + 2 ^ i) i).testBit i with
    | false => rfl
    | true => rw [ha] at h1; exact absurd rfl (h1.mp rfl).2
  · rw [decide_eq_false e, Bool.false_or] at h1
    cases ha : (rmB (S + 2 ^ n) n).testBit i <;> cases hb : S.testBit i
    · rfl
    · rw [ha, hb] at h1; exact absurd (h1.mpr ⟨rfl, e⟩) (by decide)
    · rw [ha, hb] at h1; exact absurd (h1.mp rfl).1 (by decide)
    · rfl
theorem rmB_no {S u : Nat} (h : ¬ S.testBit u = true) : rmB S u = S := by
  apply Nat.eq_of_testBit_eq
  intro i
  have h1 := rmB_bit (s := S) (v := u) (i := i)
  cases ha : (rmB S u).testBit i <;> cases hb : S.testBit i
  · rfl
  · rw [ha, hb] at h1; exact absurd (h1.mpr ⟨rfl, fun e => h (by rw [← e]; exact hb)⟩) (by decide)
  · rw [ha, hb] at h1; exact absurd (h1.mp rfl).1 (by decide)
  · rfl
theorem rmB_off (S u : Nat) : ¬ (rmB S u).testBit u = true := fun h => (rmB_bit.mp h).2 rfl
theorem rmB_sb (S u : Nat) : sbN (rmB S u) S := fun i h => (rmB_bit.mp h).1
/-- a sum over cuts, parted by the side of u -/
theorem pp_at : ∀ (n S u : Nat) (h : Nat → Nat → Int), S < 2 ^ n → u < n → S.testBit u = true → pp n S h = pp n (rmB S u) (fun a b => h (a + 2 ^ u) b) + pp n (rmB S u) (fun a b => h a (b + 2 ^ u)) := by
  intro n
  induction n with
  | zero => intro S u h _ hu; omega
  | succ n ih =>
    intro S u h hS hu hb
    by_cases e : u = n
    · subst e
      obtain ⟨S', hS', rfl⟩ := split_top hS hb
      rw [rmB_self hS', pp_T hS', pp_F hS', pp_F hS']
    · by_cases q : S.testBit n = true
      · obtain ⟨S', hS', rfl⟩ := split_top hS q
        have hb' : S'.testBit u = true := by
          rw [top_bit hS', decide_eq_false e, Bool.false_or] at hb
          exact hb
        rw [rmB_top hS' e, pp_T hS', pp_T (rmB_lt hS'), pp_T (rmB_lt hS'), ih S' u _ hS' (by omega) hb', ih S' u _ hS' (by omega) hb']
        have c1 : (fun a b => h (a + 2 ^ u + 2 ^ n) b) = (fun a b => h (a + 2 ^ n + 2 ^ u) b) := by funext a b; rw [Nat.add_right_comm]
        have c2 : (fun a b => h a (b + 2 ^ u + 2 ^ n)) = (fun a b => h a (b + 2 ^ n + 2 ^ u)) := by funext a b; rw [Nat.add_right_comm]
        rw [c1, c2]; omega
      · have hS' := low_of hS q
        rw [pp_F hS', pp_F (rmB_lt hS'), pp_F (rmB_lt hS')]
        exact ih S u h hS' (by omega) hb
theorem or_half (x y : Nat) : (x ||| y) / 2 = (x / 2) ||| (y / 2) ∧ (x ||| y) % 2 = max (x % 2) (y % 2) := by
  constructor
  · have := Nat.or_div_two_pow (a := x) (b := y) (n := 1)
    simpa using this
  · have := Nat.or_mod_two_pow (a := x) (b := y) (n := 1)
    rw [Nat.pow_one] at this
    rw [this]
    rcases Nat.mod_two_eq_zero_or_one x with h | h <;> rcases Nat.mod_two_eq_zero_or_one y with h2 | h2 <;> rw [h, h2] <;> rfl
theorem add_or : ∀ a b : Nat, a &&& b = 0 → a + b = a ||| b := by
  intro a
  induction a using Nat.strongRecOn with
  | ind a ih =>
    intro b h
    by_cases h0 : a = 0
    · subst h0; rw [Nat.zero_or, Nat.zero_add]
    · obtain ⟨a1, a2⟩ := and_half a b
      obtain ⟨o1, o2⟩ := or_half a b
      rw [h] at a1 a2
      have := ih (a / 2) (by omega) (b / 2) (by rw [← a1])
      rcases Nat.mod_two_eq_zero_or_one a with q | q <;> rcases Nat.mod_two_eq_zero_or_one b with q2 | q2 <;> rw [q, q2] at a2 o2 <;> omega
theorem add_bit {a u n : Nat} (ha : a < 2 ^ n) (hu : ¬ a.testBit u = true) : (a + 2 ^ u).testBit u = true ∧ rmB (a + 2 ^ u) u = a := by
  have e : a + 2 ^ u = a ||| 2 ^ u := by
    have hd : a &&& 2 ^ u = 0 := by
      apply Nat.eq_of_testBit_eq
      intro i
      rw [Nat.testBit_and, Nat.testBit_two_pow, Nat.zero_testBit]
      by_cases q : u = i
      · subst q
        cases hb : a.testBit u with
        | false => rfl
        | true => exact absurd hb hu
      · rw [decide_eq_false q, Bool.and_false]
    exact add_or _ _ hd
  rw [e]
  have hbit : ∀ i, (a ||| 2 ^ u).testBit i = (a.testBit i || decide (u = i)) := fun i => by rw [Nat.testBit_or, Nat.testBit_two_pow]
  refine ⟨by rw [hbit, decide_eq_true rfl, Bool.or_true], ?_⟩
  apply Nat.eq_of_testBit_eq
  intro i
  have h1 := rmB_bit (s := a ||| 2 ^ u) (v := u) (i := i)
  rw [hbit] at h1
  by_cases q : i = u
  · subst q
    cases ha2 : (rmB (a ||| 2 ^ i) i).testBit i with
    | false => cases hb : a.testBit i with | false => rfl | true => exact absurd hb hu
    | true => rw [ha2] at h1; exact absurd rfl (h1.mp rfl).2
  · rw [decide_eq_false (fun w => q w.symm), Bool.or_false] at h1
    cases ha2 : (rmB (a ||| 2 ^ u) u).testBit i <;> cases hb : a.testBit i
    · rfl
    · rw [ha2, hb] at h1; exact absurd (h1.mpr ⟨rfl, q⟩) (by decide)
    · rw [ha2, hb] at h1; exact absurd (h1.mp rfl).1 (by decide)
    · rfl
theorem cut_off {S a b u : Nat} (h : cut (rmB S u) a b) : ¬ a.testBit u = true ∧ ¬ b.testBit u = true := ⟨fun w => rmB_off S u ((h u).1.mpr (Or.inl w)), fun w => rmB_off S u ((h u).1.mpr (Or.inr w))⟩
/-- only the cuts with u on the first side -/
theorem pp_left {n S u : Nat} {h : Nat → Nat → Int} (hS : S < 2 ^ n) (hu : u < n) (hb : S.testBit u = true) : pp n S (fun a b => if a.testBit u = true then h (rmB a u) b else 0) = pp n (rmB S u) h := by
  rw [pp_at n S u _ hS hu hb]
  have e1 : pp n (rmB S u) (fun a b => if (a + 2 ^ u).testBit u = true then h (rmB (a + 2 ^ u) u) b else 0) = pp n (rmB S u) h := pp_congr n _ _ _ (rmB_lt hS) (fun a b ha hb' hc => by
    obtain ⟨h1, h2⟩ := add_bit ha (cut_off hc).1
    show (if (a + 2 ^ u).testBit u = true then h (rmB (a + 2 ^ u) u) b else 0) = h a b
    rw [if_pos h1, h2])
  have e2 : pp n (rmB S u) (fun a b => if a.testBit u = true then h (rmB a u) (b + 2 ^ u) else 0) = 0 := by
    rw [pp_congr n (rmB S u) _ (fun _ _ => 0) (rmB_lt hS) (fun a b ha hb' hc => if_neg (cut_off hc).1)]
    exact pp_0 n _
  rw [e1, e2]; omega
def conv (n : Nat) (f g : Nat → Int) (S : Nat) : Int := pp n S (fun a b => f a * g b)
theorem conv_comm (n : Nat) (f g : Nat → Int) (S : Nat) : conv n f g S = conv n g f S := by
  unfold conv
  rw [← pp_comm]
  congr 1
  funext a b
  exact Int.mul_comm _ _
theorem conv_congr {n : Nat} {f f' g g' : Nat → Int} {S : Nat} (hS : S < 2 ^ n) (hf : ∀ a, a < 2 ^ n → sbN a S → f a = f' a) (hg : ∀ a, a < 2 ^ n → sbN a S → g a = g' a) : conv n f g S = conv n f' g' S :=
  pp_congr n S _ _ hS (fun a b ha hb hc => by rw [hf a ha (cut_sb hc), hg b hb (cut_sb (cut_symm hc))])
theorem conv_assoc (n : Nat) (f g h : Nat → Int) {S : Nat} (hS : S < 2 ^ n) : conv n f (conv n g h) S = conv n (conv n f g) h S := by
  unfold conv
  have e1 : (fun (a b : Nat) => f a * pp n b (fun a b => g a * h b)) = (fun a x => pp n x (fun b c => f a * (g b * h c))) := by
    funext a x
    rw [pp_mul]
  have e2 : (fun (a b : Nat) => pp n a (fun a b => f a * g b) * h b) = (fun x c => pp n x (fun a b => f a * (g b * h c))) := by
    funext x c
    rw [Int.mul_comm, ← pp_mul]
    congr 1
    funext a b
    rw [Int.mul_comm (h c), Int.mul_assoc]
  rw [e1, e2]
  exact pp_assoc n S (fun a b c => f a * (g b * h c)) hS
theorem conv_add (n : Nat) (f f' g : Nat → Int) (S : Nat) : conv n (fun a => f a + f' a) g S = conv n f g S + conv n f' g S := by
  unfold conv
  rw [← pp_add]
  congr 1
  funext a b
  exact Int.add_mul _ _ _
/-- shifting by u -/
def zu (u : Nat) (f : Nat → Int) : Nat → Int := fun S => if S.testBit u = true then f (rmB S u) else 0
theorem conv_zu {n u : Nat} {f g : Nat → Int} {S : Nat} (hS : S < 2 ^ n) (hu : u < n) : conv n (zu u f) g S = zu u (conv n f g) S := by
  unfold conv zu
  by_cases q : S.testBit u = true
  · rw [if_pos q]
    show _ = pp n (rmB S u) (fun a b => f a * g b)
    rw [← pp_left hS hu q]
    congr 1
    funext a b
    by_cases w : a.testBit u = true
    · rw [if_pos w, if_pos w]
    · rw [if_neg w, if_neg w, Int.zero_mul]
  · rw [if_neg q]
    refine Eq.trans (pp_congr n S _ (fun _ _ => 0) hS (fun a b ha hb hc => ?_)) (pp_0 n S)
    rw [if_neg (fun w => q ((hc u).1.mpr (Or.inl w))), Int.zero_mul]
theorem pcN_cut : ∀ (n S a b : Nat), cut S a b → pcN n S = pcN n a + pcN n b := by
  intro n
  induction n with
  | zero => intro S a b _; rfl
  | succ n ih =>
    intro S a b h
    show pcN n S + _ = (pcN n a + _) + (pcN n b + _)
    rw [ih S a b h]
    obtain ⟨h1, h2⟩ := h n
    by_cases qa : a.testBit n = true
    · rw [if_pos qa, if_pos (h1.mpr (Or.inl qa)), if_neg (fun w => h2 ⟨qa, w⟩)]; omega
    · rw [if_neg qa]
      by_cases qb : b.testBit n = true
      · rw [if_pos qb, if_pos (h1.mpr (Or.inr qb))]; omega
      · rw [if_neg qb, if_neg (fun w => by rcases h1.mp w with z | z; exact qa z; exact qb z)]; omega
theorem pcN_rm : ∀ (n S u : Nat), u < n → S.testBit u = true → pcN n S = pcN n (rmB S u) + 1 := by
  intro n
  induction n with
  | zero => intro S u hu; omega
  | succ n ih =>
    intro S u hu hb
    show pcN n S + _ = pcN n (rmB S u) + _ + 1
    by_cases e : u = n
    · subst e
      rw [if_pos hb, if_neg (rmB_off S u), pcN_low u S (rmB S u) (fun i hi => by
        have h1 := rmB_bit (s := S) (v := u) (i := i)
        cases ha : (rmB S u).testBit i <;> cases hb2 : S.testBit i
        · rfl
        · rw [ha, hb2] at h1; exact absurd (h1.mpr ⟨rfl, by omega⟩) (by decide)
        · rw [ha, hb2] at h1; exact absurd (h1.mp rfl).1 (by decide)
        · rfl)]
    · rw [ih S u (by omega) hb]
      have h1 := rmB_bit (s := S) (v := u) (i := n)
      by_cases q : S.testBit n = true
      · rw [if_pos q, if_pos (h1.mpr ⟨q, fun w => e w.symm⟩)]
      · rw [if_neg q, if_neg (fun w => q (h1.mp w).1)]
def fct : Nat → Int
  | 0 => 1
  | k + 1 => (k + 1 : Int) * fct k
theorem fct_pos : ∀ k, 0 < fct k := by
  intro k
  induction k with
  | zero => decide
  | succ k ih => exact Int.mul_pos (by omega) ih
theorem pp_fct : ∀ (n S i j : Nat), S < 2 ^ n → pp n S (fun a b => fct (pcN n a + i) * fct (pcN n b + j)) * fct (i + j + 1) = fct i * fct j * fct (pcN n S + i + j + 1) := by
  intro n
  induction n with
  | zero =>
    intro S i j _
    show fct (0 + i) * fct (0 + j) * _ = _ * fct (0 + i + j + 1)
    rw [Nat.zero_add, Nat.zero_add]
  | succ n ih =>
    intro S i j hS
    by_cases q : S.testBit n = true
    · obtain ⟨S', hS', rfl⟩ := split_top hS q
      rw [pp_T hS', pcN_T hS']
      have h1 := ih S' (i + 1) j hS'
      have h2 := ih S' i (j + 1) hS'
      have e1 : pp n S' (fun a b => fct (pcN (n + 1) (a + 2 ^ n) + i) * fct (pcN (n + 1) b + j)) = pp n S' (fun a b => fct (pcN n a + (i + 1)) * fct (pcN n b + j)) := pp_congr n S' _ _ hS' (fun a b ha hb _ => by
        rw [pcN_T ha, pcN_F hb, show pcN n a + 1 + i = pcN n a + (i + 1) by omega])
      have e2 : pp n S' (fun a b => fct (pcN (n + 1) a + i) * fct (pcN (n + 1) (b + 2 ^ n) + j)) = pp n S' (fun a b => fct (pcN n a + i) * fct (pcN n b + (j + 1))) := pp_congr n S' _ _ hS' (fun a b ha hb _ => by
        rw [pcN_T hb, pcN_F ha, show pcN n b + 1 + j = pcN n b + (j + 1) by omega])
      rw [e1, e2]
      generalize pp n S' (fun a b => fct (pcN n a + (i + 1)) * fct (pcN n b + j)) = X at h1
      generalize pp n S' (fun a b => fct (pcN n a + i) * fct (pcN n b + (j + 1))) = Y at h2
      have f1 : fct (i + 1 + j + 1) = ((i + j + 1 : Nat) + 1 : Int) * fct (i + j + 1) := by rw [show i + 1 + j + 1 = (i + j + 1) + 1 by omega]; rfl
      have f2 : fct (i + (j + 1) + 1) = ((i + j + 1 : Nat) + 1 : Int) * fct (i + j + 1) := by rw [show i + (j + 1) + 1 = (i + j + 1) + 1 by omega]; rfl
      have f3 : fct (i + 1) = (i + 1 : Int) * fct i := rfl
      have f4 : fct (j + 1) = (j + 1 : Int) * fct j := rfl
      rw [f1, f3, show pcN n S' + (i + 1) + j + 1 = pcN n S' + 1 + i + j + 1 by omega] at h1
      rw [f2, f4, show pcN n S' + i + (j + 1) + 1 = pcN n S' + 1 + i + j + 1 by omega] at h2
      generalize fct (pcN n S' + 1 + i + j + 1) = Z at *
      generalize fct (i + j + 1) = G at *
      generalize fct i = A at *
      generalize fct j = B at *
      have hc : (((i + j + 1 : Nat) : Int) + 1) = (i + 1 : Int) + (j + 1 : Int) := by omega
      rw [hc] at h1 h2
      have hne : ((i : Int) + 1 + ((j : Int) + 1)) ≠ 0 := by omega
      apply Int.eq_of_mul_eq_mul_left hne
      have k1 : ((i : Int) + 1 + ((j : Int) + 1)) * ((X + Y) * G) = X * (((i : Int) + 1 + ((j : Int) + 1)) * G) + Y * (((i : Int) + 1 + ((j : Int) + 1)) * G) := by
        generalize ((i : Int) + 1 + ((j : Int) + 1)) = c
        rw [Int.add_mul, Int.mul_add, Int.mul_left_comm c X G, Int.mul_left_comm c Y G]
      rw [k1, h1, h2]
      generalize (i : Int) + 1 = p
      generalize (j : Int) + 1 = r
      have k2 : p * A * B * Z = p * (A * B * Z) := by rw [Int.mul_assoc, Int.mul_assoc, Int.mul_assoc]
      have k3 : A * (r * B) * Z = r * (A * B * Z) := by rw [Int.mul_left_comm A r B, Int.mul_assoc]
      rw [k2, k3, Int.add_mul]
    · have hS' := low_of hS q
      rw [pp_F hS', pcN_F hS', ← ih S i j hS']
      congr 1
      exact pp_congr n S _ _ hS' (fun a b ha hb _ => by rw [pcN_F ha, pcN_F hb])
theorem pp_fct0 {n S : Nat} (hS : S < 2 ^ n) : pp n S (fun a b => fct (pcN n a) * fct (pcN n b)) = fct (pcN n S + 1) := by
  have := pp_fct n S 0 0 hS
  have e : fct (0 + 0 + 1) = 1 := by decide
  have e0 : fct 0 = 1 := rfl
  rw [e, e0, Int.mul_one, Int.mul_one, Int.one_mul] at this
  exact this
