/-! PURE, 46: a count by the colours of one node; simple nodes; parts -/
noncomputable def bI (P : Prop) : Int := @ite Int P (Classical.propDecidable _) 1 0
theorem bI_1 {P : Prop} (h : P) : bI P = 1 := if_pos h
theorem bI_0 {P : Prop} (h : ¬ P) : bI P = 0 := if_neg h
theorem bI_iff {P Q : Prop} (h : P ↔ Q) : bI P = bI Q := by
  by_cases q : P
  · rw [bI_1 q, bI_1 (h.mp q)]
  · rw [bI_0 q, bI_0 (fun w => q (h.mpr w))]
theorem iT_iff {al al' nr : Nat → Nat → Prop} {c t t' : Nat} (h : okT al nr c t ↔ okT al' nr c t') : iT al nr c t = iT al' nr c t' := by
  by_cases q : okT al nr c t
  · rw [iT_1 q, iT_1 (h.mp q)]
  · rw [iT_0 q, iT_0 (fun w => q (h.mpr w))]
theorem wy_congr {al al' nr : Nat → Nat → Prop} {n : Nat} : ∀ k S, S < 2 ^ n → (∀ i c, S.testBit i = true → c < k → (al i c ↔ al' i c)) → wy al nr n k S = wy al' nr n k S := by
  intro k
  induction k with
  | zero => intro S _ _; rfl
  | succ k ih =>
    intro S hS h
    rw [wy_s, wy_s]
    refine pp_congr n S _ _ hS (fun a b ha hb hc => ?_)
    rw [ih b hb (fun i c hi hck => h i c (cut_sb (cut_symm hc) i hi) (by omega))]
    congr 1
    refine iT_iff ?_
    constructor
    · exact fun w => ⟨fun i hi => (h i k (cut_sb hc i hi) (by omega)).mp (w.1 i hi), w.2⟩
    · exact fun w => ⟨fun i hi => (h i k (cut_sb hc i hi) (by omega)).mpr (w.1 i hi), w.2⟩
theorem pp_sumR {n S : Nat} {h : Nat → Nat → Nat → Int} : ∀ k, pp n S (fun a b => sumR (fun c => h c a b) k) = sumR (fun c => pp n S (h c)) k := by
  intro k
  induction k with
  | zero => exact pp_0 n S
  | succ k ih =>
    rw [sumR_s, ← ih, ← pp_add]
    rfl
theorem sumR_mul {g : Nat → Int} {x : Int} : ∀ k, x * sumR g k = sumR (fun c => x * g c) k := by
  intro k
  induction k with
  | zero => exact Int.mul_zero x
  | succ k ih => rw [sumR_s, sumR_s, Int.mul_add, ih]
theorem sumR_plus {g h : Nat → Int} : ∀ k, sumR (fun c => g c + h c) k = sumR g k + sumR h k := by
  intro k
  induction k with
  | zero => rfl
  | succ k ih => rw [sumR_s, sumR_s, sumR_s, ih]; omega
theorem sumR_z : ∀ k, sumR (fun _ => 0) k = 0 := by
  intro k
  induction k with
  | zero => rfl
  | succ k ih => rw [sumR_s, ih]; rfl
theorem sumR_comm {g : Nat → Nat → Int} {n : Nat} : ∀ k, sumR (fun c => sumR (fun b => g b c) n) k = sumR (fun b => sumR (fun c => g b c) k) n := by
  intro k
  induction k with
  | zero => exact (sumR_z n).symm
  | succ k ih =>
    rw [sumR_s, ih, ← sumR_plus]
    rfl
theorem sumR_pick {g h : Nat → Int} {x : Nat} (hx : ∀ c, ¬ c = x → g c = h c) (h0 : h x = 0) : ∀ k, x < k → sumR g k = sumR h k + g x := by
  intro k
  induction k with
  | zero => intro hk; omega
  | succ k ih =>
    intro hk
    rw [sumR_s, sumR_s]
    by_cases e : k = x
    · subst e
      rw [sumR_eq k (fun t ht => hx t (by omega)), h0]; omega
    · rw [ih (by omega), hx k e]; omega
def alx (al nr : Nat → Nat → Prop) (v c : Nat) : Nat → Nat → Prop := fun i d => al i d ∧ ¬ (nr v i ∧ d = c)
/-- by the colour of v -/
theorem wy_V {al nr : Nat → Nat → Prop} {n v : Nat} (hsym : ∀ i j, nr i j → nr j i) (hirr : ∀ i, ¬ nr i i) : ∀ k S, S < 2 ^ n → S.testBit v = true → wy al nr n k S = sumR (fun c => bI (al v c) * wy (alx al nr v c) nr n k (rmB S v)) k := by
  intro k
  induction k with
  | zero =>
    intro S hS hv
    exact if_neg (bit_nz hv)
  | succ k ih =>
    intro S hS hv
    have hvn := bit_lt hS hv
    rw [wy_s, pp_at n S v _ hS hvn hv, sumR_s, Int.add_comm]
    congr 1
    · have e1 : pp n (rmB S v) (fun a b => iT al nr k a * wy al nr n k (b + 2 ^ v)) = pp n (rmB S v) (fun a b => sumR (fun c => bI (al v c) * (iT al nr k a * wy (alx al nr v c) nr n k b)) k) := pp_congr n _ _ _ (rmB_lt hS) (fun a b ha hb hc => by
        obtain ⟨h1, h2⟩ := add_bit hb (cut_off hc).2
        have hb2 : b + 2 ^ v < 2 ^ n := by
          have e : b + 2 ^ v = b ||| 2 ^ v := add_or b (2 ^ v) (by
            apply bit_eq
            intro i
            rw [Nat.testBit_and, Bool.and_eq_true, Nat.testBit_two_pow, decide_eq_true_iff, Nat.zero_testBit]
            exact ⟨fun w => absurd (by rw [w.2]; exact w.1) (cut_off hc).2, fun w => by cases w⟩)
          rw [e]
          exact Nat.or_lt_two_pow hb (Nat.pow_lt_pow_right (by omega) hvn)
        rw [ih (b + 2 ^ v) hb2 h1, h2, sumR_mul]
        refine sumR_eq k (fun c hc => ?_)
        rw [Int.mul_left_comm])
      rw [e1, pp_sumR (h := fun c a b => bI (al v c) * (iT al nr k a * wy (alx al nr v c) nr n k b))]
      refine sumR_eq k (fun c hc => ?_)
      rw [pp_mul, wy_s]
      congr 1
      refine pp_congr n _ _ _ (rmB_lt hS) (fun a b ha hb hcut => ?_)
      congr 1
      refine iT_iff ?_
      constructor
      · exact fun w => ⟨fun i hi => ⟨w.1 i hi, fun z => by omega⟩, w.2⟩
      · exact fun w => ⟨fun i hi => (w.1 i hi).1, w.2⟩
    · rw [wy_s, ← pp_mul]
      refine pp_congr n _ _ _ (rmB_lt hS) (fun a b ha hb hc => ?_)
      obtain ⟨h1, h2⟩ := add_bit ha (cut_off hc).1
      have hab : ∀ i, (a + 2 ^ v).testBit i = true ↔ a.testBit i = true ∨ i = v := by
        intro i
        have := rmB_bit (s := a + 2 ^ v) (v := v) (i := i)
        rw [h2] at this
        constructor
        · intro w
          by_cases e : i = v
          · exact Or.inr e
          · exact Or.inl (this.mpr ⟨w, e⟩)
        · rintro (w | rfl)
          · exact (this.mp w).1
          · exact h1
      have e2 : wy al nr n k b = wy (alx al nr v k) nr n k b := wy_congr k b hb (fun i c hi hck => ⟨fun w => ⟨w, fun z => by omega⟩, fun w => w.1⟩)
      rw [e2, ← Int.mul_assoc]
      congr 1
      by_cases q : al v k
      · rw [bI_1 q, Int.one_mul]
        refine iT_iff ?_
        constructor
        · intro w
          exact ⟨fun i hi => ⟨w.1 i ((hab i).mpr (Or.inl hi)), fun z => w.2 v i h1 ((hab i).mpr (Or.inl hi)) z.1⟩, fun i j hi hj => w.2 i j ((hab i).mpr (Or.inl hi)) ((hab j).mpr (Or.inl hj))⟩
        · intro w
          refine ⟨fun i hi => ?_, fun i j hi hj hn => ?_⟩
          · rcases (hab i).mp hi with z | rfl
            · exact (w.1 i z).1
            · exact q
          · rcases (hab i).mp hi with zi | rfl
            · rcases (hab j).mp hj with zj | rfl
              · exact w.2 i j zi zj hn
              · exact (w.1 i zi).2 ⟨hsym _ _ hn, rfl⟩
            · rcases (hab j).mp hj with zj | rfl
              · exact (w.1 j zj).2 ⟨hn, rfl⟩
              · exact hirr _ hn
      · rw [bI_0 q, Int.zero_mul, iT_0 (fun w => q (w.1 v h1))]
/-- without colour c at the nodes of Q below m -/
def alw (al : Nat → Nat → Prop) (Q c m : Nat) : Nat → Nat → Prop := fun i d => al i d ∧ ¬ (Q.testBit i = true ∧ i < m ∧ d = c)
theorem wy_one {al nr : Nat → Nat → Prop} {n k S b c : Nat} (hsym : ∀ i j, nr i j → nr j i) (hirr : ∀ i, ¬ nr i i) (hS : S < 2 ^ n) (hb : S.testBit b = true) (hc : c < k) : wy al nr n k S = wy (fun i d => al i d ∧ ¬ (i = b ∧ d = c)) nr n k S + bI (al b c) * wy (alx al nr b c) nr n k (rmB S b) := by
  rw [wy_V hsym hirr k S hS hb, wy_V hsym hirr k S hS hb]
  refine sumR_pick (fun d hd => ?_) ?_ k hc
  · rw [bI_iff (Q := al b d ∧ ¬ (b = b ∧ d = c)) ⟨fun w => ⟨w, fun z => hd z.2⟩, fun w => w.1⟩]
    congr 1
    refine wy_congr k _ (rmB_lt hS) (fun i e hi he => ?_)
    have hib := (rmB_bit.mp hi).2
    exact ⟨fun w => ⟨⟨w.1, fun z => hib z.1⟩, w.2⟩, fun w => ⟨w.1.1, w.2⟩⟩
  · rw [bI_0 (fun w => w.2 ⟨rfl, rfl⟩), Int.zero_mul]
theorem wy_clique {al nr : Nat → Nat → Prop} {n k S Q c : Nat} (hsym : ∀ i j, nr i j → nr j i) (hirr : ∀ i, ¬ nr i i) (hS : S < 2 ^ n) (hQ : sbN Q S) (hcl : ∀ i j, Q.testBit i = true → Q.testBit j = true → ¬ i = j → nr i j) (hc : c < k) : ∀ m, wy al nr n k S = wy (alw al Q c m) nr n k S + sumR (fun b => bI (Q.testBit b = true) * (bI (al b c) * wy (alx al nr b c) nr n k (rmB S b))) m := by
  intro m
  induction m with
  | zero =>
    show _ = _ + 0
    rw [Int.add_zero]
    exact wy_congr k S hS (fun i d _ _ => ⟨fun w => ⟨w, fun z => by omega⟩, fun w => w.1⟩)
  | succ m ih =>
    rw [ih, sumR_s]
    by_cases q : Q.testBit m = true
    · rw [bI_1 q, Int.one_mul]
      have h1 := wy_one (al := alw al Q c m) hsym hirr hS (hQ m q) hc
      rw [h1]
      have e1 : wy (fun i d => alw al Q c m i d ∧ ¬ (i = m ∧ d = c)) nr n k S = wy (alw al Q c (m + 1)) nr n k S := wy_congr k S hS (fun i d _ _ => by
        constructor
        · rintro ⟨⟨w1, w2⟩, w3⟩
          refine ⟨w1, fun z => ?_⟩
          by_cases e : i = m
          · exact w3 ⟨e, z.2.2⟩
          · exact w2 ⟨z.1, by omega, z.2.2⟩
        · rintro ⟨w1, w2⟩
          exact ⟨⟨w1, fun z => w2 ⟨z.1, by omega, z.2.2⟩⟩, fun z => w2 ⟨by rw [z.1]; exact q, by omega, z.2⟩⟩)
      have e2 : bI (alw al Q c m m c) = bI (al m c) := bI_iff ⟨fun w => w.1, fun w => ⟨w, fun z => by omega⟩⟩
      have e3 : wy (alx (alw al Q c m) nr m c) nr n k (rmB S m) = wy (alx al nr m c) nr n k (rmB S m) := wy_congr k _ (rmB_lt hS) (fun i d hi _ => by
        have him := (rmB_bit.mp hi).2
        constructor
        · exact fun w => ⟨w.1.1, w.2⟩
        · exact fun w => ⟨⟨w.1, fun z => w.2 ⟨hcl m i q z.1 (fun e => him e.symm), z.2.2⟩⟩, w.2⟩)
      rw [e1, e2, e3]; omega
    · rw [bI_0 q, Int.zero_mul, Int.add_zero]
      congr 1
      refine wy_congr k S hS (fun i d _ _ => ?_)
      constructor
      · exact fun w => ⟨w.1, fun z => w.2 ⟨z.1, by
          by_cases e : i = m
          · exact absurd (by rw [← e]; exact z.1) q
          · omega, z.2.2⟩⟩
      · exact fun w => ⟨w.1, fun z => w.2 ⟨z.1, by omega, z.2.2⟩⟩
/-- a simple node: the near ones are all near to one another, their colours all among its own -/
theorem wy_simple {al nr : Nat → Nat → Prop} {n k S v Q : Nat} (hsym : ∀ i j, nr i j → nr j i) (hirr : ∀ i, ¬ nr i i) (hS : S < 2 ^ n) (hv : S.testBit v = true) (hQ : ∀ i, Q.testBit i = true ↔ (rmB S v).testBit i = true ∧ nr v i) (hcl : ∀ i j, Q.testBit i = true → Q.testBit j = true → ¬ i = j → nr i j) (hsub : ∀ i c, Q.testBit i = true → c < k → al i c → al v c) : wy al nr n k S = (sumR (fun c => bI (al v c)) k - sumR (fun b => bI (Q.testBit b = true)) n) * wy al nr n k (rmB S v) := by
  have hQS : sbN Q (rmB S v) := fun i hi => ((hQ i).mp hi).1
  have hSr := rmB_lt (v := v) hS
  rw [wy_V hsym hirr k S hS hv]
  have e1 : ∀ c, c < k → bI (al v c) * wy (alx al nr v c) nr n k (rmB S v) = bI (al v c) * wy al nr n k (rmB S v) + - sumR (fun b => bI (al v c) * (bI (Q.testBit b = true) * (bI (al b c) * wy (alx al nr b c) nr n k (rmB (rmB S v) b)))) n := by
    intro c hc
    have h1 := wy_clique (al := al) (c := c) hsym hirr hSr hQS hcl hc n
    have e : wy (alw al Q c n) nr n k (rmB S v) = wy (alx al nr v c) nr n k (rmB S v) := wy_congr k _ hSr (fun i d hi _ => by
      constructor
      · exact fun w => ⟨w.1, fun z => w.2 ⟨(hQ i).mpr ⟨hi, z.1⟩, bit_lt hSr hi, z.2⟩⟩
      · exact fun w => ⟨w.1, fun z => w.2 ⟨((hQ i).mp z.1).2, z.2.2⟩⟩)
    rw [e] at h1
    rw [← sumR_mul, h1, Int.mul_add]; omega
  rw [sumR_eq k e1, sumR_plus]
  have e2 : sumR (fun c => bI (al v c) * wy al nr n k (rmB S v)) k = sumR (fun c => bI (al v c)) k * wy al nr n k (rmB S v) := by
    rw [Int.mul_comm, sumR_mul]
    exact sumR_eq k (fun c _ => Int.mul_comm _ _)
  have e3 : sumR (fun c => - sumR (fun b => bI (al v c) * (bI (Q.testBit b = true) * (bI (al b c) * wy (alx al nr b c) nr n k (rmB (rmB S v) b)))) n) k = - (sumR (fun b => bI (Q.testBit b = true)) n * wy al nr n k (rmB S v)) := by
    have hneg : ∀ (g : Nat → Int), sumR (fun c => - g c) k = - sumR g k := by
      intro g
      have := sumR_mul (g := g) (x := -1) k
      rw [show (-1 : Int) * sumR g k = - sumR g k by omega] at this
      rw [this]
      exact sumR_eq k (fun c _ => by omega)
    rw [hneg, sumR_comm, Int.mul_comm, sumR_mul]
    congr 1
    refine sumR_eq n (fun b hb => ?_)
    by_cases q : Q.testBit b = true
    · rw [bI_1 q, Int.mul_one, wy_V hsym hirr k (rmB S v) hSr (hQS b q)]
      refine sumR_eq k (fun c hc => ?_)
      rw [Int.one_mul, ← Int.mul_assoc]
      congr 1
      by_cases w : al b c
      · rw [bI_1 w, bI_1 (hsub b c q hc w)]; rfl
      · rw [bI_0 w, Int.mul_zero]
    · rw [bI_0 q, Int.mul_zero]
      refine Eq.trans (sumR_eq k (fun c _ => ?_)) (sumR_z k)
      rw [Int.zero_mul, Int.mul_zero]
  rw [e2, e3, Int.sub_mul]; omega
theorem wy_none {al nr : Nat → Nat → Prop} {n k S v : Nat} (hsym : ∀ i j, nr i j → nr j i) (hirr : ∀ i, ¬ nr i i) (hS : S < 2 ^ n) (hv : S.testBit v = true) (h : ∀ c, c < k → ¬ al v c) : wy al nr n k S = 0 := by
  rw [wy_V hsym hirr k S hS hv]
  refine Eq.trans (sumR_eq k (fun c hc => ?_)) (sumR_z k)
  rw [bI_0 (h c hc), Int.zero_mul]
theorem wy_only {al nr : Nat → Nat → Prop} {n k S v c : Nat} (hsym : ∀ i j, nr i j → nr j i) (hirr : ∀ i, ¬ nr i i) (hS : S < 2 ^ n) (hv : S.testBit v = true) (hc : c < k) (h : ∀ d, d < k → (al v d ↔ d = c)) : wy al nr n k S = wy (alx al nr v c) nr n k (rmB S v) := by
  rw [wy_V hsym hirr k S hS hv]
  have : sumR (fun d => bI (al v d) * wy (alx al nr v d) nr n k (rmB S v)) k = sumR (fun d => if d = c then wy (alx al nr v c) nr n k (rmB S v) else 0) k := sumR_eq k (fun d hd => by
    by_cases e : d = c
    · subst e; rw [if_pos rfl, bI_1 ((h d hd).mpr rfl), Int.one_mul]
    · rw [if_neg e, bI_0 (fun w => e ((h d hd).mp w)), Int.zero_mul])
  rw [this, sumR_pick (h := fun _ => 0) (x := c) (fun d hd => if_neg hd) rfl k hc, sumR_z, if_pos rfl]
  omega
/-- two sets without a node in common: cuts of both -/
theorem or_top {a b n : Nat} (ha : a < 2 ^ n) (hb : b < 2 ^ n) : (a + 2 ^ n) ||| b = (a ||| b) + 2 ^ n ∧ a ||| (b + 2 ^ n) = (a ||| b) + 2 ^ n := by
  have hab : a ||| b < 2 ^ n := Nat.or_lt_two_pow ha hb
  constructor
  · apply bit_eq
    intro i
    rw [Nat.testBit_or, top_bit ha, top_bit hab, Nat.testBit_or, Bool.or_assoc]
  · apply bit_eq
    intro i
    rw [Nat.testBit_or, top_bit hb, top_bit hab, Nat.testBit_or]
    cases a.testBit i <;> cases b.testBit i <;> cases decide (i = n) <;> decide
theorem pp_two : ∀ (n X Y : Nat) (h : Nat → Nat → Int), X < 2 ^ n → Y < 2 ^ n → (∀ i, ¬ (X.testBit i = true ∧ Y.testBit i = true)) → pp n (X ||| Y) h = pp n X (fun a b => pp n Y (fun a' b' => h (a ||| a') (b ||| b'))) := by
  intro n
  induction n with
  | zero => intro X Y h _ _ _; rfl
  | succ n ih =>
    intro X Y h hX hY hd
    by_cases qx : X.testBit n = true
    · obtain ⟨X', hX', rfl⟩ := split_top hX qx
      have hY' := low_of hY (fun w => hd n ⟨qx, w⟩)
      have hd' : ∀ i, ¬ (X'.testBit i = true ∧ Y.testBit i = true) := fun i w => hd i ⟨by rw [top_bit hX', w.1, Bool.or_true], w.2⟩
      rw [(or_top hX' hY').1, pp_T (Nat.or_lt_two_pow hX' hY'), pp_T hX', ih X' Y _ hX' hY' hd', ih X' Y _ hX' hY' hd']
      congr 1
      · refine pp_congr n X' _ _ hX' (fun a b ha hb _ => ?_)
        rw [pp_F hY']
        refine pp_congr n Y _ _ hY' (fun a' b' ha' hb' _ => ?_)
        rw [(or_top ha ha').1]
      · refine pp_congr n X' _ _ hX' (fun a b ha hb _ => ?_)
        rw [pp_F hY']
        refine pp_congr n Y _ _ hY' (fun a' b' ha' hb' _ => ?_)
        rw [(or_top hb hb').1]
    · have hX' := low_of hX qx
      by_cases qy : Y.testBit n = true
      · obtain ⟨Y', hY', rfl⟩ := split_top hY qy
        have hd' : ∀ i, ¬ (X.testBit i = true ∧ Y'.testBit i = true) := fun i w => hd i ⟨w.1, by rw [top_bit hY', w.2, Bool.or_true]⟩
        rw [(or_top hX' hY').2, pp_T (Nat.or_lt_two_pow hX' hY'), pp_F hX', ih X Y' _ hX' hY' hd', ih X Y' _ hX' hY' hd', ← pp_add]
        refine pp_congr n X _ _ hX' (fun a b ha hb _ => ?_)
        rw [pp_T hY']
        congr 1
        · refine pp_congr n Y' _ _ hY' (fun a' b' ha' hb' _ => ?_)
          rw [(or_top ha ha').2]
        · refine pp_congr n Y' _ _ hY' (fun a' b' ha' hb' _ => ?_)
          rw [(or_top hb hb').2]
      · have hY' := low_of hY qy
        rw [pp_F (Nat.or_lt_two_pow hX' hY'), pp_F hX', ih X Y _ hX' hY' hd]
        refine pp_congr n X _ _ hX' (fun a b ha hb _ => ?_)
        rw [pp_F hY']
theorem wy_two {al nr : Nat → Nat → Prop} {n : Nat} : ∀ k X Y, X < 2 ^ n → Y < 2 ^ n → (∀ i, ¬ (X.testBit i = true ∧ Y.testBit i = true)) → (∀ i j, X.testBit i = true → Y.testBit j = true → ¬ nr i j ∧ ¬ nr j i) → wy al nr n k (X ||| Y) = wy al nr n k X * wy al nr n k Y := by
  intro k
  induction k with
  | zero =>
    intro X Y hX hY hd _
    show (if X ||| Y = 0 then (1 : Int) else 0) = (if X = 0 then 1 else 0) * (if Y = 0 then 1 else 0)
    by_cases h1 : X = 0
    · subst h1
      rw [if_pos rfl, Int.one_mul, Nat.zero_or]
    · rw [if_neg h1, Int.zero_mul, if_neg]
      intro e
      obtain ⟨i, hi⟩ := nz_bit h1
      have : (X ||| Y).testBit i = true := by rw [Nat.testBit_or, hi]; rfl
      rw [e, Nat.zero_testBit] at this; cases this
  | succ k ih =>
    intro X Y hX hY hd hn
    rw [wy_s, pp_two n X Y _ hX hY hd, wy_s, wy_s, Int.mul_comm, ← pp_mul]
    refine pp_congr n X _ _ hX (fun a b ha hb hc => ?_)
    rw [Int.mul_comm, ← pp_mul]
    refine pp_congr n Y _ _ hY (fun a' b' ha' hb' hc' => ?_)
    rw [ih b b' hb hb' (fun i w => hd i ⟨cut_sb (cut_symm hc) i w.1, cut_sb (cut_symm hc') i w.2⟩) (fun i j hi hj => hn i j (cut_sb (cut_symm hc) i hi) (cut_sb (cut_symm hc') j hj))]
    have e : iT al nr k (a ||| a') = iT al nr k a * iT al nr k a' := by
      have hor : ∀ i, (a ||| a').testBit i = true ↔ a.testBit i = true ∨ a'.testBit i = true := fun i => by rw [Nat.testBit_or, Bool.or_eq_true]
      have hiff : okT al nr k (a ||| a') ↔ okT al nr k a ∧ okT al nr k a' := by
        constructor
        · exact fun w => ⟨⟨fun i hi => w.1 i ((hor i).mpr (Or.inl hi)), fun i j hi hj => w.2 i j ((hor i).mpr (Or.inl hi)) ((hor j).mpr (Or.inl hj))⟩, ⟨fun i hi => w.1 i ((hor i).mpr (Or.inr hi)), fun i j hi hj => w.2 i j ((hor i).mpr (Or.inr hi)) ((hor j).mpr (Or.inr hj))⟩⟩
        · rintro ⟨w1, w2⟩
          refine ⟨fun i hi => ?_, fun i j hi hj => ?_⟩
          · rcases (hor i).mp hi with z | z
            · exact w1.1 i z
            · exact w2.1 i z
          · rcases (hor i).mp hi with z | z <;> rcases (hor j).mp hj with y | y
            · exact w1.2 i j z y
            · exact (hn i j (cut_sb hc i z) (cut_sb hc' j y)).1
            · exact (hn j i (cut_sb hc j y) (cut_sb hc' i z)).2
            · exact w2.2 i j z y
      by_cases q : okT al nr k a
      · by_cases q2 : okT al nr k a'
        · rw [iT_1 (hiff.mpr ⟨q, q2⟩), iT_1 q, iT_1 q2]; rfl
        · rw [iT_0 (fun w => q2 (hiff.mp w).2), iT_0 q2, Int.mul_zero]
      · rw [iT_0 (fun w => q (hiff.mp w).1), iT_0 q, Int.zero_mul]
    rw [e]
    generalize iT al nr k a = p1
    generalize iT al nr k a' = p2
    generalize wy al nr n k b = p3
    generalize wy al nr n k b' = p4
    rw [Int.mul_assoc, Int.mul_assoc, Int.mul_left_comm p2]
