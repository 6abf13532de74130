/-! PURE, 45: the weights; a count as a sum over blocks -/
def isLow (S l : Nat) : Prop := S.testBit l = true ∧ ∀ j, j < l → ¬ S.testBit j = true
theorem lowS_ex {S : Nat} (h : S ≠ 0) : ∃ l, isLow S l := by
  obtain ⟨i, hi⟩ := nz_bit h
  obtain ⟨l, h1, h2⟩ := leastN (P := fun i => S.testBit i = true) i hi
  exact ⟨l, h1, h2⟩
theorem low_uniq {S l l' : Nat} (h : isLow S l) (h' : isLow S l') : l = l' := by
  rcases Nat.lt_trichotomy l l' with q | q | q
  · exact absurd h.1 (h'.2 l q)
  · exact q
  · exact absurd h'.1 (h.2 l' q)
theorem low_sub {S a l : Nat} (h : isLow S l) (hs : sbN a S) (ha : a.testBit l = true) : isLow a l := ⟨ha, fun j hj w => h.2 j hj (hs j w)⟩
def conn (nr : Nat → Nat → Prop) (S : Nat) : Prop := ∀ X, X ≠ 0 → sbN X S → clos nr X S → X = S
noncomputable def iN (nr : Nat → Nat → Prop) (S : Nat) : Int := @ite Int (indp nr S) (Classical.propDecidable _) 1 0
theorem iN_1 {nr : Nat → Nat → Prop} {S : Nat} (h : indp nr S) : iN nr S = 1 := if_pos h
theorem iN_0 {nr : Nat → Nat → Prop} {S : Nat} (h : ¬ indp nr S) : iN nr S = 0 := if_neg h
theorem conn_rooted {nr : Nat → Nat → Prop} {n S l A : Nat} (hsym : ∀ i j, nr i j → nr j i) (hS : S < 2 ^ n) (hl : S.testBit l = true) (hA : ∀ i, (rmB S l).testBit i = true → (A.testBit i = true ↔ nr l i)) : conn nr S ↔ rooted nr (rmB S l) A := by
  constructor
  · intro h X hX0 hXS hXc
    refine Classical.byContradiction (fun q => ?_)
    have := h X hX0 (fun i hi => (rmB_bit.mp (hXS i hi)).1) (fun i j hi hj hn => by
      by_cases e : j = l
      · subst e; exact absurd ⟨i, hi, (hA i (hXS i hi)).mpr (hsym _ _ hn)⟩ q
      · exact hXc i j hi (rmB_bit.mpr ⟨hj, e⟩) hn)
    rw [← this] at hl
    exact rmB_off S l (hXS l hl)
  · intro h X hX0 hXS hXc
    apply bit_eq
    intro i
    refine ⟨fun w => hXS i w, fun hi => ?_⟩
    by_cases hlX : X.testBit l = true
    · refine Classical.byContradiction (fun q => ?_)
      have hY0 : S ^^^ X ≠ 0 := bit_nz ((xor_sub hXS).mpr ⟨hi, q⟩)
      obtain ⟨j, hj, hA2⟩ := h (S ^^^ X) hY0 (fun j hj => by
        have := (xor_sub hXS).mp hj
        exact rmB_bit.mpr ⟨this.1, fun e => this.2 (by rw [e]; exact hlX)⟩) (fun a b ha hb hn => by
        have h1 := (xor_sub hXS).mp ha
        refine (xor_sub hXS).mpr ⟨(rmB_bit.mp hb).1, fun z => h1.2 (hXc b a z h1.1 (hsym _ _ hn))⟩)
      have h2 := (xor_sub hXS).mp hj
      have h3 := (hA j (rmB_bit.mpr ⟨h2.1, fun e => h2.2 (by rw [e]; exact hlX)⟩)).mp hA2
      exact h2.2 (hXc l j hlX h2.1 h3)
    · exfalso
      have hX' : sbN X (rmB S l) := fun i hi => rmB_bit.mpr ⟨hXS i hi, fun e => hlX (by rw [← e]; exact hi)⟩
      obtain ⟨j, hj, hA2⟩ := h X hX0 hX' (fun a b ha hb hn => hXc a b ha (rmB_bit.mp hb).1 hn)
      exact hlX (hXc j l hj hl (hsym _ _ ((hA j (hX' j hj)).mp hA2)))
theorem logW (nr : Nat → Nat → Prop) (n : Nat) (hsym : ∀ i j, nr i j → nr j i) (hirr : ∀ i, ¬ nr i i) : ∃ w : Nat → Int, (∀ S l, S < 2 ^ n → isLow S l → iN nr S = pp n S (fun a b => if a.testBit l = true then w a * iN nr b else 0)) ∧ (∀ S, S < 2 ^ n → S ≠ 0 → - fct (pcN n S - 1) ≤ w S ∧ w S ≤ fct (pcN n S - 1)) ∧ (∀ S, S < 2 ^ n → S ≠ 0 → (w S ≠ 0 ↔ conn nr S)) := by
  have hU : ∀ l, mkM (fun i => decide (l < i)) n < 2 ^ n := fun l => mkM_lt n
  obtain ⟨r, hr⟩ := Classical.axiomOfChoice (fun l => logR (nr := nr) (n := n) hsym hirr (pcN n (mkM (fun i => decide (l < i)) n)) (mkM (fun i => decide (l < i)) n) (nbM nr n l &&& mkM (fun i => decide (l < i)) n) (hU l) (Nat.le_refl _) and_sbN)
  obtain ⟨lo, hlo⟩ := Classical.axiomOfChoice (r := fun (S l : Nat) => S ≠ 0 → isLow S l) (fun S => by
    by_cases q : S = 0
    · exact ⟨0, fun w => absurd q w⟩
    · obtain ⟨l, hl⟩ := lowS_ex q
      exact ⟨l, fun _ => hl⟩)
  have hUb : ∀ l i, (mkM (fun i => decide (l < i)) n).testBit i = true ↔ i < n ∧ l < i := fun l i => by
    rw [mkM_bit, Bool.and_eq_true, decide_eq_true_iff, decide_eq_true_iff]
  have inU : ∀ S l, S < 2 ^ n → isLow S l → sbN (rmB S l) (mkM (fun i => decide (l < i)) n) := fun S l hS hl i hi => by
    have h1 := rmB_bit.mp hi
    refine (hUb l i).mpr ⟨bit_lt hS h1.1, ?_⟩
    rcases Nat.lt_trichotomy i l with q | q | q
    · exact absurd h1.1 (hl.2 i q)
    · exact absurd q h1.2
    · exact q
  have hA : ∀ S l, S < 2 ^ n → isLow S l → ∀ i, (rmB S l).testBit i = true → ((nbM nr n l &&& mkM (fun i => decide (l < i)) n).testBit i = true ↔ nr l i) := fun S l hS hl i hi => by
    rw [Nat.testBit_and, Bool.and_eq_true, nbM_bit]
    exact ⟨fun w => w.1.2, fun w => ⟨⟨bit_lt hS (rmB_bit.mp hi).1, w⟩, inU S l hS hl i hi⟩⟩
  refine ⟨fun S => sgn (pcN n (rmB S (lo S))) * r (lo S) (rmB S (lo S)), fun S l hS hl => ?_, fun S hS h0 => ?_, fun S hS h0 => ?_⟩
  · have hln := bit_lt hS hl.1
    have e1 : pp n S (fun a b => if a.testBit l = true then (sgn (pcN n (rmB a (lo a))) * r (lo a) (rmB a (lo a))) * iN nr b else 0) = pp n S (fun a b => if a.testBit l = true then (fun x y => sgn (pcN n x) * r l x * iU nr (mkM (fun i => decide (l < i)) n) y) (rmB a l) b else 0) := pp_congr n S _ _ hS (fun a b ha hb hc => by
      by_cases q : a.testBit l = true
      · rw [if_pos q, if_pos q]
        have e : lo a = l := low_uniq (hlo a (bit_nz q)) (low_sub hl (cut_sb hc) q)
        rw [e]
        have hbU : sbN b (mkM (fun i => decide (l < i)) n) := fun i hi => inU S l hS hl i (rmB_bit.mpr ⟨cut_sb (cut_symm hc) i hi, fun e => (hc l).2 ⟨q, by rw [← e]; exact hi⟩⟩)
        have : iN nr b = iU nr (mkM (fun i => decide (l < i)) n) b := by
          by_cases w : indp nr b
          · rw [iN_1 w, iU_1 ⟨hbU, w⟩]
          · rw [iN_0 w, iU_0 (fun z => w z.2)]
        rw [this]
      · rw [if_neg q, if_neg q])
    refine Eq.symm (Eq.trans e1 ?_)
    refine Eq.trans (pp_left (h := fun x y => sgn (pcN n x) * r l x * iU nr (mkM (fun i => decide (l < i)) n) y) hS hln hl.1) ?_
    have := (hr l).1 (rmB S l) (rmB_lt hS)
    unfold conv at this
    refine Eq.trans this ?_
    have hiff : (sbN (rmB S l) (mkM (fun i => decide (l < i)) n ^^^ (nbM nr n l &&& mkM (fun i => decide (l < i)) n)) ∧ indp nr (rmB S l)) ↔ indp nr S := by
      constructor
      · rintro ⟨w1, w2⟩
        have hnb : ∀ i, (rmB S l).testBit i = true → ¬ nr l i := fun i hi hn => ((xor_sub and_sbN).mp (w1 i hi)).2 ((hA S l hS hl i hi).mpr hn)
        intro i j hi hj hn
        by_cases e : i = l
        · subst e
          by_cases e2 : j = i
          · subst e2; exact hirr _ hn
          · exact hnb j (rmB_bit.mpr ⟨hj, e2⟩) hn
        · by_cases e2 : j = l
          · subst e2; exact hnb i (rmB_bit.mpr ⟨hi, e⟩) (hsym _ _ hn)
          · exact w2 i j (rmB_bit.mpr ⟨hi, e⟩) (rmB_bit.mpr ⟨hj, e2⟩) hn
      · intro w
        refine ⟨fun i hi => (xor_sub and_sbN).mpr ⟨inU S l hS hl i hi, fun z => ?_⟩, fun i j hi hj => w i j (rmB_bit.mp hi).1 (rmB_bit.mp hj).1⟩
        exact w l i hl.1 (rmB_bit.mp hi).1 ((hA S l hS hl i hi).mp z)
    by_cases q : indp nr S
    · rw [iN_1 q, iU_1 (hiff.mpr q)]
    · rw [iN_0 q, iU_0 (fun w => q (hiff.mp w))]
  · dsimp only
    have hl := hlo S h0
    have h1 := (hr (lo S)).2.2.1 (rmB S (lo S)) (rmB_lt hS)
    have h2 := pcN_rm n S (lo S) (bit_lt hS hl.1) hl.1
    rw [show pcN n S - 1 = pcN n (rmB S (lo S)) by omega]
    rcases sgn_or (pcN n (rmB S (lo S))) with e | e
    · rw [e, Int.one_mul]; omega
    · rw [e, Int.neg_mul, Int.one_mul]; omega
  · dsimp only
    have hl := hlo S h0
    have h1 := (hr (lo S)).2.2.1 (rmB S (lo S)) (rmB_lt hS)
    have h3 := (hr (lo S)).2.2.2 (rmB S (lo S)) (rmB_lt hS) (inU S _ hS hl)
    rw [conn_rooted hsym hS hl.1 (hA S _ hS hl), ← h3]
    rcases sgn_or (pcN n (rmB S (lo S))) with e | e
    · rw [e, Int.one_mul]; omega
    · rw [e, Int.neg_mul, Int.one_mul]; omega
/-- F is built of the blocks' G -/
def isE (n : Nat) (G F : Nat → Int) : Prop := F 0 = 1 ∧ ∀ S l, S < 2 ^ n → isLow S l → F S = pp n S (fun a b => if a.testBit l = true then G a * F b else 0)
theorem pp_side {n S l : Nat} {h : Nat → Nat → Int} (hS : S < 2 ^ n) (hl : S.testBit l = true) : pp n S h = pp n S (fun a b => if a.testBit l = true then h a b else 0) + pp n S (fun a b => if b.testBit l = true then h a b else 0) := by
  rw [← pp_add]
  refine pp_congr n S _ _ hS (fun a b ha hb hc => ?_)
  obtain ⟨h1, h2⟩ := hc l
  rcases h1.mp hl with w | w
  · rw [if_pos w, if_neg (fun z => h2 ⟨w, z⟩)]; omega
  · rw [if_pos w, if_neg (fun z => h2 ⟨z, w⟩)]; omega
theorem pp_0S {n : Nat} {h : Nat → Nat → Int} : pp n 0 h = h 0 0 := by
  induction n generalizing h with
  | zero => rfl
  | succ n ih => rw [pp_f (by rw [Nat.zero_testBit]; decide), ih]
theorem E_mul {n : Nat} {G1 F1 G2 F2 : Nat → Int} (h1 : isE n G1 F1) (h2 : isE n G2 F2) : isE n (fun a => G1 a + G2 a) (conv n F1 F2) := by
  have half : ∀ (G F F' : Nat → Int), isE n G F → ∀ S l, S < 2 ^ n → isLow S l → pp n S (fun a b => if a.testBit l = true then F a * F' b else 0) = pp n S (fun a b => if a.testBit l = true then G a * conv n F F' b else 0) := by
    intro G F F' hE S l hS hl
    have e1 : pp n S (fun a b => if a.testBit l = true then F a * F' b else 0) = pp n S (fun x c => pp n x (fun a b => (fun a b c => if a.testBit l = true then G a * F b * F' c else 0) a b c)) := pp_congr n S _ _ hS (fun x c hx hc hcut => by
      by_cases q : x.testBit l = true
      · rw [if_pos q, hE.2 x l hx (low_sub hl (cut_sb hcut) q), Int.mul_comm, ← pp_mul]
        congr 1
        funext a b
        by_cases w : a.testBit l = true
        · rw [if_pos w]
          show _ = (if a.testBit l = true then G a * F b * F' c else 0)
          rw [if_pos w, Int.mul_comm]
        · rw [if_neg w]
          show _ = (if a.testBit l = true then G a * F b * F' c else 0)
          rw [if_neg w, Int.mul_zero]
      · rw [if_neg q]
        refine Eq.symm (Eq.trans (pp_congr n x _ (fun _ _ => 0) hx (fun a b ha hb hab => ?_)) (pp_0 n x))
        exact if_neg (fun w => q (cut_sb hab l w)))
    rw [e1, ← pp_assoc n S (fun a b c => if a.testBit l = true then G a * F b * F' c else 0) hS]
    congr 1
    funext a x
    by_cases w : a.testBit l = true
    · rw [if_pos w]
      unfold conv
      rw [← pp_mul]
      congr 1
      funext b c
      rw [if_pos w, Int.mul_assoc]
    · rw [if_neg w]
      have : (fun b c => if a.testBit l = true then G a * F b * F' c else 0) = (fun (_ _ : Nat) => (0 : Int)) := by
        funext b c
        rw [if_neg w]
      rw [this]
      exact pp_0 n x
  refine ⟨?_, fun S l hS hl => ?_⟩
  · unfold conv
    rw [pp_0S, h1.1, h2.1]; rfl
  · have e1 := half G1 F1 F2 h1 S l hS hl
    have e2 := half G2 F2 F1 h2 S l hS hl
    have e3 : pp n S (fun a b => if a.testBit l = true then F2 a * F1 b else 0) = pp n S (fun a b => if b.testBit l = true then F1 a * F2 b else 0) := by
      rw [← pp_comm]
      congr 1
      funext a b
      by_cases w : b.testBit l = true
      · rw [if_pos w, if_pos w, Int.mul_comm]
      · rw [if_neg w, if_neg w]
    have e4 : pp n S (fun a b => if a.testBit l = true then G2 a * conv n F2 F1 b else 0) = pp n S (fun a b => if a.testBit l = true then G2 a * conv n F1 F2 b else 0) := by
      congr 1
      funext a b
      rw [conv_comm n F2 F1]
    have e0 : conv n F1 F2 S = pp n S (fun a b => if a.testBit l = true then F1 a * F2 b else 0) + pp n S (fun a b => if b.testBit l = true then F1 a * F2 b else 0) := pp_side hS hl.1
    rw [e0, ← e3, e1, e2, e4, ← pp_add]
    congr 1
    funext a b
    by_cases w : a.testBit l = true
    · rw [if_pos w, if_pos w, if_pos w, Int.add_mul]
    · rw [if_neg w, if_neg w, if_neg w]; rfl
/-- only sets all of whose nodes are in P -/
theorem E_may {n : Nat} {G F : Nat → Int} {P : Nat → Prop} (g f : Nat → Int) (hg1 : ∀ a, a < 2 ^ n → (∀ i, a.testBit i = true → P i) → g a = G a) (hg0 : ∀ a, a < 2 ^ n → ¬ (∀ i, a.testBit i = true → P i) → g a = 0) (hf1 : ∀ a, a < 2 ^ n → (∀ i, a.testBit i = true → P i) → f a = F a) (hf0 : ∀ a, a < 2 ^ n → ¬ (∀ i, a.testBit i = true → P i) → f a = 0) (h : isE n G F) : isE n g f := by
  refine ⟨?_, fun S l hS hl => ?_⟩
  · rw [hf1 0 (Nat.pow_pos (by omega)) (fun i hi => by rw [Nat.zero_testBit] at hi; cases hi)]; exact h.1
  · by_cases q : ∀ i, S.testBit i = true → P i
    · rw [hf1 S hS q, h.2 S l hS hl]
      refine pp_congr n S _ _ hS (fun a b ha hb hc => ?_)
      rw [hg1 a ha (fun i hi => q i (cut_sb hc i hi)), hf1 b hb (fun i hi => q i (cut_sb (cut_symm hc) i hi))]
    · rw [hf0 S hS q]
      refine Eq.symm (Eq.trans (pp_congr n S _ (fun _ _ => 0) hS (fun a b ha hb hc => ?_)) (pp_0 n S))
      by_cases w : a.testBit l = true
      · rw [if_pos w]
        by_cases w1 : ∀ i, a.testBit i = true → P i
        · rw [hf0 b hb (fun w2 => q (fun i hi => by
            rcases (hc i).1.mp hi with z | z
            · exact w1 i z
            · exact w2 i z)), Int.mul_zero]
        · rw [hg0 a ha w1, Int.zero_mul]
      · rw [if_neg w]
/-- in how many of the first c colours' lists a set lies -/
noncomputable def cm (al : Nat → Nat → Prop) : Nat → Nat → Int
  | 0, _ => 0
  | c + 1, a => cm al c a + @ite Int (∀ i, a.testBit i = true → al i c) (Classical.propDecidable _) 1 0
theorem wy_E {al nr : Nat → Nat → Prop} {n : Nat} {w : Nat → Int} (hw : ∀ S l, S < 2 ^ n → isLow S l → iN nr S = pp n S (fun a b => if a.testBit l = true then w a * iN nr b else 0)) : ∀ c, isE n (fun a => w a * cm al c a) (wy al nr n c) := by
  have hI : isE n w (iN nr) := ⟨iN_1 (fun i j hi => by rw [Nat.zero_testBit] at hi; cases hi), hw⟩
  intro c
  induction c with
  | zero =>
    refine ⟨rfl, fun S l hS hl => ?_⟩
    have : wy al nr n 0 S = 0 := if_neg (bit_nz hl.1)
    rw [this]
    refine Eq.symm (Eq.trans (pp_congr n S _ (fun _ _ => 0) hS (fun a b ha hb hc => ?_)) (pp_0 n S))
    by_cases q : a.testBit l = true
    · rw [if_pos q]
      show w a * 0 * _ = 0
      rw [Int.mul_zero, Int.zero_mul]
    · rw [if_neg q]
  | succ c ih =>
    have hc : isE n (fun a => w a * @ite Int (∀ i, a.testBit i = true → al i c) (Classical.propDecidable _) 1 0) (iT al nr c) := by
      refine E_may (G := w) (F := iN nr) (P := fun i => al i c) _ _ (fun a ha q => ?_) (fun a ha q => ?_) (fun a ha q => ?_) (fun a ha q => ?_) hI
      · rw [if_pos q, Int.mul_one]
      · rw [if_neg q, Int.mul_zero]
      · by_cases z : indp nr a
        · rw [iN_1 z, iT_1 ⟨q, z⟩]
        · rw [iN_0 z, iT_0 (fun y => z y.2)]
      · exact iT_0 (fun y => q y.1)
    have := E_mul hc ih
    have e : (fun a => w a * cm al (c + 1) a) = (fun a => w a * @ite Int (∀ i, a.testBit i = true → al i c) (Classical.propDecidable _) 1 0 + w a * cm al c a) := by
      funext a
      show w a * (cm al c a + _) = _
      rw [Int.mul_add, Int.add_comm]
    rw [e]
    exact this
