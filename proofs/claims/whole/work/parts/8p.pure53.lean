/-! PURE, 53: polynomials by their coefficients; by the number of blocks -/
def evL : Nat → (Nat → Int) → Int → Int
  | 0, _, _ => 0
  | m + 1, c, k => c 0 + k * evL m (fun i => c (i + 1)) k
theorem evL_s (m : Nat) (c : Nat → Int) (k : Int) : evL (m + 1) c k = c 0 + k * evL m (fun i => c (i + 1)) k := rfl
theorem evL_congr : ∀ (m : Nat) (c d : Nat → Int) (k : Int), (∀ i, i < m → c i = d i) → evL m c k = evL m d k := by
  intro m
  induction m with
  | zero => intro c d k _; rfl
  | succ m ih =>
    intro c d k h
    rw [evL_s, evL_s, h 0 (by omega), ih (fun i => c (i + 1)) (fun i => d (i + 1)) k (fun i hi => h (i + 1) (by omega))]
theorem evL_add : ∀ (m : Nat) (c d : Nat → Int) (k : Int), evL m (fun i => c i + d i) k = evL m c k + evL m d k := by
  intro m
  induction m with
  | zero => intro c d k; rfl
  | succ m ih =>
    intro c d k
    rw [evL_s, evL_s, evL_s, ih (fun i => c (i + 1)) (fun i => d (i + 1)) k, Int.mul_add]
    omega
theorem evL_mul : ∀ (m : Nat) (c : Nat → Int) (x k : Int), evL m (fun i => x * c i) k = x * evL m c k := by
  intro m
  induction m with
  | zero => intro c x k; exact (Int.mul_zero x).symm
  | succ m ih =>
    intro c x k
    rw [evL_s, evL_s, ih (fun i => c (i + 1)) x k, Int.mul_add, Int.mul_left_comm]
theorem evL_top : ∀ (m : Nat) (c : Nat → Int) (k : Int), c m = 0 → evL (m + 1) c k = evL m c k := by
  intro m
  induction m with
  | zero =>
    intro c k h
    rw [evL_s, h]
    show 0 + k * 0 = 0
    rw [Int.mul_zero]; rfl
  | succ m ih =>
    intro c k h
    rw [evL_s, ih (fun i => c (i + 1)) k h]
    rfl
theorem evL_0 : ∀ (m : Nat) (k : Int), evL m (fun _ => 0) k = 0 := by
  intro m
  induction m with
  | zero => intro k; rfl
  | succ m ih => intro k; rw [evL_s, ih k, Int.mul_zero]; rfl
/-- times (x - d) -/
def mulx (d : Int) (c : Nat → Int) : Nat → Int
  | 0 => - d * c 0
  | i + 1 => c i - d * c (i + 1)
theorem evL_mulx {m : Nat} {c : Nat → Int} {d k : Int} (h : c m = 0) : evL (m + 1) (mulx d c) k = (k - d) * evL (m + 1) c k := by
  have e : evL (m + 1) (mulx d c) k = evL (m + 1) (fun i => (fun j => match j with | 0 => 0 | j + 1 => c j) i + (- d) * c i) k := evL_congr (m + 1) _ _ k (fun i _ => by
    cases i with
    | zero => show - d * c 0 = 0 + - d * c 0; omega
    | succ i => show c i - d * c (i + 1) = c i + - d * c (i + 1); rw [Int.neg_mul]; omega)
  rw [e, evL_add, evL_mul, evL_s]
  show 0 + k * evL m (fun i => c i) k + -d * evL (m + 1) c k = _
  rw [show (fun i => c i) = c from rfl, ← evL_top m c k h, Int.sub_mul, Int.neg_mul]
  omega
theorem evL_zero : ∀ (m : Nat) (c : Nat → Int) (K : Nat), (∀ k : Nat, K ≤ k → evL m c (k : Int) = 0) → ∀ i, i < m → c i = 0 := by
  intro m
  induction m with
  | zero => intro c K _ i hi; omega
  | succ m ih =>
    intro c K h
    have h0 : c 0 = 0 := by
      have h1 := h (K + (c 0).natAbs + 1) (by omega)
      rw [evL_s] at h1
      generalize evL m (fun i => c (i + 1)) ((K + (c 0).natAbs + 1 : Nat) : Int) = q at h1
      rcases Int.lt_trichotomy q 0 with z | z | z
      · exfalso
        have h2 : ((K + (c 0).natAbs + 1 : Nat) : Int) * q ≤ ((K + (c 0).natAbs + 1 : Nat) : Int) * (-1) := Int.mul_le_mul_of_nonneg_left (by omega) (by omega)
        rw [Int.mul_neg, Int.mul_one] at h2
        omega
      · rw [z, Int.mul_zero] at h1; omega
      · exfalso
        have h2 : ((K + (c 0).natAbs + 1 : Nat) : Int) * 1 ≤ ((K + (c 0).natAbs + 1 : Nat) : Int) * q := Int.mul_le_mul_of_nonneg_left (by omega) (by omega)
        rw [Int.mul_one] at h2
        omega
    have h3 := ih (fun i => c (i + 1)) (K + 1) (fun k hk => by
      have h1 := h k (by omega)
      rw [evL_s, h0, Int.zero_add] at h1
      rcases Int.mul_eq_zero.mp h1 with z | z
      · omega
      · exact z)
    intro i hi
    cases i with
    | zero => exact h0
    | succ i => exact h3 i (by omega)
theorem evL_uniq {m : Nat} {c d : Nat → Int} (h : ∀ k : Nat, evL m c (k : Int) = evL m d (k : Int)) : ∀ i, i < m → c i = d i := by
  have := evL_zero m (fun i => c i + (-1) * d i) 0 (fun k _ => by
    rw [evL_add, evL_mul, h k]; omega)
  intro i hi
  have := this i hi
  omega
/-- falling products -/
def ff : Nat → Nat → Int
  | _, 0 => 1
  | 0, _ + 1 => 0
  | k + 1, j + 1 => (k + 1 : Int) * ff k j
theorem ff_s : ∀ j k : Nat, ff k (j + 1) = ff k j * ((k : Int) - j) := by
  intro j
  induction j with
  | zero =>
    intro k
    cases k with
    | zero => decide
    | succ k =>
      show ((k : Int) + 1) * ff k 0 = 1 * _
      have : ff k 0 = 1 := by cases k <;> rfl
      rw [this]; omega
  | succ j ih =>
    intro k
    cases k with
    | zero => show (0 : Int) = 0 * _; rw [Int.zero_mul]
    | succ k =>
      show ((k : Int) + 1) * ff k (j + 1) = ((k : Int) + 1) * ff k j * _
      rw [ih k, Int.mul_assoc]
      congr 2
      omega
def fc : Nat → Nat → Int
  | 0 => fun i => if i = 0 then 1 else 0
  | j + 1 => mulx (j : Int) (fc j)
theorem fc_hi : ∀ j i, j < i → fc j i = 0 := by
  intro j
  induction j with
  | zero => intro i hi; exact if_neg (by omega)
  | succ j ih =>
    intro i hi
    cases i with
    | zero => omega
    | succ i =>
      show fc j i - (j : Int) * fc j (i + 1) = 0
      rw [ih i (by omega), ih (i + 1) (by omega), Int.mul_zero]; rfl
theorem fc_ev {m : Nat} {k : Nat} : ∀ j, j ≤ m → evL (m + 1) (fc j) (k : Int) = ff k j := by
  intro j
  induction j with
  | zero =>
    intro _
    rw [evL_s]
    have : ff k 0 = 1 := by cases k <;> rfl
    rw [this, evL_congr m (fun i => fc 0 (i + 1)) (fun _ => 0) k (fun i _ => show (if i + 1 = 0 then (1 : Int) else 0) = 0 from if_neg (by omega)), evL_0, Int.mul_zero]
    rfl
  | succ j ih =>
    intro hj
    show evL (m + 1) (mulx (j : Int) (fc j)) _ = _
    rw [evL_mulx (fc_hi j m (by omega)), ih (by omega), ff_s, Int.mul_comm]
noncomputable def lowF (S : Nat) : Nat := Classical.epsilon (isLow S)
theorem lowF_ok {S : Nat} (h : S ≠ 0) : isLow S (lowF S) := Classical.epsilon_spec (lowS_ex h)
/-- in how many ways a set falls into j blocks without arcs -/
noncomputable def spA (nr : Nat → Nat → Prop) (n : Nat) : Nat → Nat → Int
  | 0, S => if S = 0 then 1 else 0
  | j + 1, S => if S = 0 then 0 else pp n S (fun t x => if t.testBit (lowF S) = true then iN nr t * spA nr n j x else 0)
theorem spA_s {nr : Nat → Nat → Prop} {n j S l : Nat} (hl : isLow S l) : spA nr n (j + 1) S = pp n S (fun t x => if t.testBit l = true then iN nr t * spA nr n j x else 0) := by
  have h0 : S ≠ 0 := bit_nz hl.1
  show (if S = 0 then 0 else _) = _
  rw [if_neg h0, low_uniq (lowF_ok h0) hl]
theorem sumR_front {g : Nat → Int} : ∀ m, sumR g (m + 1) = g 0 + sumR (fun j => g (j + 1)) m := by
  intro m
  induction m with
  | zero => show 0 + g 0 = g 0 + 0; omega
  | succ m ih => rw [sumR_s, ih, sumR_s]; omega
theorem wy_sp {nr : Nat → Nat → Prop} {n : Nat} : ∀ k S m, S < 2 ^ n → pcN n S ≤ m → wy aT nr n k S = sumR (fun j => spA nr n j S * ff k j) (m + 1) := by
  intro k
  induction k with
  | zero =>
    intro S m hS hm
    rw [sumR_front]
    have : sumR (fun j => spA nr n (j + 1) S * ff 0 (j + 1)) m = 0 := Eq.trans (sumR_eq m (fun j _ => Int.mul_zero _)) (sumR_z m)
    rw [this]
    show (if S = 0 then (1 : Int) else 0) = (if S = 0 then 1 else 0) * 1 + 0
    omega
  | succ k ih =>
    intro S m hS hm
    by_cases h0 : S = 0
    · subst h0
      rw [wy_z, sumR_front]
      have : sumR (fun j => spA nr n (j + 1) 0 * ff (k + 1) (j + 1)) m = 0 := Eq.trans (sumR_eq m (fun j _ => by
        have : spA nr n (j + 1) 0 = 0 := if_pos rfl
        rw [this, Int.zero_mul])) (sumR_z m)
      rw [this]
      show (1 : Int) = 1 * 1 + 0
      rfl
    · obtain ⟨l, hl⟩ := lowS_ex h0
      have hln := bit_lt hS hl.1
      have hpc := pcN_rm n S l hln hl.1
      obtain ⟨m', rfl⟩ : ∃ m', m = m' + 1 := ⟨m - 1, by omega⟩
      rw [wy_blk k S hS hl.1]
      have e1 : pp n S (fun t x => if t.testBit l = true then iN nr t * wy aT nr n k x else 0) = pp n S (fun t x => sumR (fun j => ff k j * (if t.testBit l = true then iN nr t * spA nr n j x else 0)) (m' + 1)) := pp_congr n S _ _ hS (fun t x ht hx hc => by
        by_cases q : t.testBit l = true
        · rw [if_pos q, ih x m' hx (by
            have h1 := pcN_cut n S t x hc
            have h2 := pcN_rm n t l hln q
            omega), sumR_mul]
          refine sumR_eq _ (fun j _ => ?_)
          rw [if_pos q, Int.mul_comm (spA nr n j x), Int.mul_left_comm]
        · rw [if_neg q]
          refine Eq.symm (Eq.trans (sumR_eq _ (fun j _ => ?_)) (sumR_z _))
          rw [if_neg q, Int.mul_zero])
      rw [e1, pp_sumR (h := fun j t x => ff k j * (if t.testBit l = true then iN nr t * spA nr n j x else 0)), sumR_mul, sumR_front (g := fun j => spA nr n j S * ff (k + 1) j)]
      have e0 : spA nr n 0 S = 0 := if_neg h0
      rw [e0, Int.zero_mul, Int.zero_add]
      refine sumR_eq _ (fun j _ => ?_)
      rw [pp_mul, ← spA_s hl]
      show ((k + 1 : Nat) : Int) * (ff k j * spA nr n (j + 1) S) = spA nr n (j + 1) S * (((k : Int) + 1) * ff k j)
      rw [← Int.mul_assoc, Int.mul_comm]
      rfl
/-- the coefficients of the polynomial of a set -/
noncomputable def pco (nr : Nat → Nat → Prop) (n S : Nat) : Nat → Int := fun i => sumR (fun j => spA nr n j S * fc j i) (n + 1)
theorem evL_sum {m k : Nat} {g : Nat → Nat → Int} : ∀ M, evL m (fun i => sumR (fun j => g j i) M) (k : Int) = sumR (fun j => evL m (g j) (k : Int)) M := by
  intro M
  induction M with
  | zero => exact evL_0 m _
  | succ M ih =>
    rw [sumR_s, ← ih, ← evL_add]
    rfl
theorem pco_ev {nr : Nat → Nat → Prop} {n S m : Nat} (hS : S < 2 ^ n) (hm : n ≤ m) (k : Nat) : evL (m + 1) (pco nr n S) (k : Int) = wy aT nr n k S := by
  unfold pco
  rw [evL_sum (g := fun j i => spA nr n j S * fc j i), wy_sp k S n hS (pcN_le n S)]
  refine sumR_eq _ (fun j hj => ?_)
  rw [evL_mul, fc_ev j (by omega)]
