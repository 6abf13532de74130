/-! PURE, 44: the weights, by their own recursion -/
def sgn : Nat → Int
  | 0 => 1
  | k + 1 => - sgn k
theorem sgn_s (k : Nat) : sgn (k + 1) = - sgn k := rfl
theorem sgn_add (a : Nat) : ∀ b, sgn (a + b) = sgn a * sgn b := by
  intro b
  induction b with
  | zero => show sgn a = sgn a * 1; rw [Int.mul_one]
  | succ b ih => rw [← Nat.add_assoc, sgn_s, sgn_s, ih, Int.mul_neg]
theorem sgn_or : ∀ k, sgn k = 1 ∨ sgn k = -1 := by
  intro k
  induction k with
  | zero => exact Or.inl rfl
  | succ k ih => rw [sgn_s]; rcases ih with h | h <;> rw [h] <;> decide
def indp (nr : Nat → Nat → Prop) (S : Nat) : Prop := ∀ i j, S.testBit i = true → S.testBit j = true → ¬ nr i j
noncomputable def iU (nr : Nat → Nat → Prop) (U S : Nat) : Int := @ite Int (sbN S U ∧ indp nr S) (Classical.propDecidable _) 1 0
theorem iU_1 {nr : Nat → Nat → Prop} {U S : Nat} (h : sbN S U ∧ indp nr S) : iU nr U S = 1 := if_pos h
theorem iU_0 {nr : Nat → Nat → Prop} {U S : Nat} (h : ¬ (sbN S U ∧ indp nr S)) : iU nr U S = 0 := if_neg h
theorem iU_iff {nr : Nat → Nat → Prop} {U S U' S' : Nat} (h : (sbN S U ∧ indp nr S) ↔ (sbN S' U' ∧ indp nr S')) : iU nr U S = iU nr U' S' := by
  by_cases q : sbN S U ∧ indp nr S
  · rw [iU_1 q, iU_1 (h.mp q)]
  · rw [iU_0 q, iU_0 (fun w => q (h.mpr w))]
noncomputable def nbM (nr : Nat → Nat → Prop) (n u : Nat) : Nat := mkM (fun i => @decide (nr u i) (Classical.propDecidable _)) n
theorem nbM_bit {nr : Nat → Nat → Prop} {n u i : Nat} : (nbM nr n u).testBit i = true ↔ i < n ∧ nr u i := by
  unfold nbM
  rw [mkM_bit, Bool.and_eq_true, decide_eq_true_iff]
  constructor
  · exact fun w => ⟨w.1, (@decide_eq_true_iff _ (Classical.propDecidable _)).mp w.2⟩
  · exact fun w => ⟨w.1, (@decide_eq_true_iff _ (Classical.propDecidable _)).mpr w.2⟩
def clos (nr : Nat → Nat → Prop) (X S : Nat) : Prop := ∀ i j, X.testBit i = true → S.testBit j = true → nr i j → X.testBit j = true
def rooted (nr : Nat → Nat → Prop) (S A : Nat) : Prop := ∀ X, X ≠ 0 → sbN X S → clos nr X S → ∃ i, X.testBit i = true ∧ A.testBit i = true
theorem nz_bit {X : Nat} (h : X ≠ 0) : ∃ i, X.testBit i = true := by
  refine Classical.byContradiction (fun q => h ?_)
  apply Nat.eq_of_testBit_eq
  intro i
  rw [Nat.zero_testBit]
  cases hb : X.testBit i with
  | false => rfl
  | true => exact absurd ⟨i, hb⟩ q
theorem bit_nz {X i : Nat} (h : X.testBit i = true) : X ≠ 0 := fun e => by rw [e, Nat.zero_testBit] at h; cases h
theorem pp_only0 {n S : Nat} {h : Nat → Nat → Int} (hS : S < 2 ^ n) (hz : ∀ a b, a ≠ 0 → h a b = 0) : pp n S h = h 0 S := by
  rw [pp_range n S h hS, sumR_gap (a := 1) (2 ^ n) (Nat.one_le_two_pow) (fun t h1 h2 => by
    unfold subg
    by_cases q : t &&& S = t
    · rw [if_pos q]; exact hz t _ (by omega)
    · rw [if_neg q])]
  show 0 + subg S h 0 = _
  unfold subg
  rw [if_pos (Nat.zero_and S), Nat.xor_zero]
  omega
theorem pcN_0 (n : Nat) : pcN n 0 = 0 := by
  induction n with
  | zero => rfl
  | succ n ih => show pcN n 0 + _ = 0; rw [ih, if_neg (by rw [Nat.zero_testBit]; decide)]
theorem bit_eq {X Y : Nat} (h : ∀ i, X.testBit i = true ↔ Y.testBit i = true) : X = Y := by
  apply Nat.eq_of_testBit_eq
  intro i
  cases hx : X.testBit i <;> cases hy : Y.testBit i
  · rfl
  · exact absurd ((h i).mpr hy) (by rw [hx]; decide)
  · exact absurd ((h i).mp hx) (by rw [hy]; decide)
  · rfl
theorem conv_add2 (n : Nat) (f g g' : Nat → Int) (S : Nat) : conv n f (fun a => g a + g' a) S = conv n f g S + conv n f g' S := by
  rw [conv_comm, conv_add, conv_comm n g, conv_comm n g']
theorem conv_neg (n : Nat) (f g : Nat → Int) (S : Nat) : conv n (fun a => - f a) g S = - conv n f g S := by
  unfold conv
  rw [show - pp n S (fun a b => f a * g b) = (-1) * pp n S (fun a b => f a * g b) by omega, ← pp_mul]
  congr 1
  funext a b
  rw [Int.neg_mul, Int.neg_mul, Int.one_mul]
/-- rooted: one node taken off -/
theorem rooted_step {nr : Nat → Nat → Prop} {n S A u : Nat} (hS : S < 2 ^ n) (hsym : ∀ i j, nr i j → nr j i) (hirr : ∀ i, ¬ nr i i) (huS : S.testBit u = true) (huA : A.testBit u = true) (N : Nat) (hN : ∀ i, (rmB S u).testBit i = true → (N.testBit i = true ↔ nr u i)) : rooted nr S A ↔ ∃ T R, cut (rmB S u) T R ∧ rooted nr T N ∧ rooted nr R (rmB A u) := by
  constructor
  · intro h
    have hb : ∀ i, (mkM (fun i => @decide (∃ X, sbN X (rmB S u) ∧ clos nr X (rmB S u) ∧ (∀ j, X.testBit j = true → ¬ (rmB A u).testBit j = true) ∧ X.testBit i = true) (Classical.propDecidable _)) n).testBit i = true ↔ ∃ X, sbN X (rmB S u) ∧ clos nr X (rmB S u) ∧ (∀ j, X.testBit j = true → ¬ (rmB A u).testBit j = true) ∧ X.testBit i = true := by
      intro i
      rw [mkM_bit, Bool.and_eq_true, decide_eq_true_iff]
      constructor
      · exact fun w => (@decide_eq_true_iff _ (Classical.propDecidable _)).mp w.2
      · intro w
        refine ⟨?_, (@decide_eq_true_iff _ (Classical.propDecidable _)).mpr w⟩
        obtain ⟨X, h1, -, -, h4⟩ := w
        exact bit_lt hS (rmB_bit.mp (h1 i h4)).1
    generalize mkM (fun i => @decide (∃ X, sbN X (rmB S u) ∧ clos nr X (rmB S u) ∧ (∀ j, X.testBit j = true → ¬ (rmB A u).testBit j = true) ∧ X.testBit i = true) (Classical.propDecidable _)) n = T at hb
    have hTS : sbN T (rmB S u) := fun i hi => by
      obtain ⟨X, h1, -, -, h4⟩ := (hb i).mp hi
      exact h1 i h4
    have hTc : clos nr T (rmB S u) := fun i j hi hj hn => by
      obtain ⟨X, h1, h2, h3, h4⟩ := (hb i).mp hi
      exact (hb j).mpr ⟨X, h1, h2, h3, h2 i j h4 hj hn⟩
    have hTA : ∀ j, T.testBit j = true → ¬ (rmB A u).testBit j = true := fun j hj => by
      obtain ⟨X, h1, h2, h3, h4⟩ := (hb j).mp hj
      exact h3 j h4
    refine ⟨T, rmB S u ^^^ T, sb_cut hTS, ?_, ?_⟩
    · intro X hX0 hXT hXc
      refine Classical.byContradiction (fun q => ?_)
      have hno : ∀ i, X.testBit i = true → ¬ nr u i := fun i hi hn => q ⟨i, hi, (hN i (hTS i (hXT i hi))).mpr hn⟩
      obtain ⟨i, hi, hA⟩ := h X hX0 (fun i hi => (rmB_bit.mp (hTS i (hXT i hi))).1) (fun i j hi hj hn => by
        by_cases e : j = u
        · subst e; exact absurd (hsym _ _ hn) (hno i hi)
        · exact hXc i j hi (hTc i j (hXT i hi) (rmB_bit.mpr ⟨hj, e⟩) hn) hn)
      exact hTA i (hXT i hi) (rmB_bit.mpr ⟨hA, (rmB_bit.mp (hTS i (hXT i hi))).2⟩)
    · intro X hX0 hXR hXc
      refine Classical.byContradiction (fun q => ?_)
      have hXS : sbN X (rmB S u) := fun i hi => ((xor_sub hTS).mp (hXR i hi)).1
      obtain ⟨i, hi⟩ := nz_bit hX0
      have : T.testBit i = true := (hb i).mpr ⟨X, hXS, fun a b ha hb2 hn => by
        by_cases e : T.testBit b = true
        · exact absurd (hTc b a e (hXS a ha) (hsym _ _ hn)) ((xor_sub hTS).mp (hXR a ha)).2
        · exact hXc a b ha ((xor_sub hTS).mpr ⟨hb2, e⟩) hn, fun j hj hA => q ⟨j, hj, hA⟩, hi⟩
      exact ((xor_sub hTS).mp (hXR i hi)).2 this
  · rintro ⟨T, R, hc, hT, hR⟩ X hX0 hXS hXc
    by_cases hu : X.testBit u = true
    · exact ⟨u, hu, huA⟩
    · have hX' : ∀ i, X.testBit i = true → (rmB S u).testBit i = true := fun i hi => rmB_bit.mpr ⟨hXS i hi, fun e => hu (by rw [← e]; exact hi)⟩
      by_cases q : X &&& R = 0
      · have hXT : sbN X T := fun i hi => by
          rcases (hc i).1.mp (hX' i hi) with w | w
          · exact w
          · exfalso
            have : (X &&& R).testBit i = true := by rw [Nat.testBit_and, hi, w]; rfl
            rw [q, Nat.zero_testBit] at this; cases this
        obtain ⟨i, hi, hNi⟩ := hT X hX0 hXT (fun a b ha hb hn => hXc a b ha (rmB_bit.mp ((hc b).1.mpr (Or.inl hb))).1 hn)
        exact absurd (hXc i u hi huS (hsym _ _ ((hN i (hX' i hi)).mp hNi))) hu
      · obtain ⟨i, hi, hA⟩ := hR (X &&& R) q and_sbN (fun a b ha hb hn => by
          rw [Nat.testBit_and, Bool.and_eq_true] at ha ⊢
          exact ⟨hXc a b ha.1 (rmB_bit.mp ((hc b).1.mpr (Or.inr hb))).1 hn, hb⟩)
        rw [Nat.testBit_and, Bool.and_eq_true] at hi
        exact ⟨i, hi.1, (rmB_bit.mp hA).1⟩
theorem logR0 {nr : Nat → Nat → Prop} {n U : Nat} (hU : U < 2 ^ n) : ∃ r : Nat → Int, (∀ S, S < 2 ^ n → conv n (fun a => sgn (pcN n a) * r a) (iU nr U) S = iU nr (U ^^^ 0) S) ∧ (∀ S, S < 2 ^ n → ¬ sbN S U → r S = 0) ∧ (∀ S, S < 2 ^ n → 0 ≤ r S ∧ r S ≤ fct (pcN n S)) ∧ (∀ S, S < 2 ^ n → sbN S U → (0 < r S ↔ rooted nr S 0)) := by
  refine ⟨fun S => if S = 0 then 1 else 0, fun S hS => ?_, fun S hS hn => ?_, fun S hS => ?_, fun S hS hSU => ?_⟩
  · unfold conv
    rw [pp_only0 hS (fun a b ha => by
      show sgn (pcN n a) * (if a = 0 then 1 else 0) * iU nr U b = 0
      rw [if_neg ha, Int.mul_zero, Int.zero_mul])]
    show sgn (pcN n 0) * (if 0 = 0 then 1 else 0) * iU nr U S = _
    rw [if_pos rfl, pcN_0, Nat.xor_zero]
    show 1 * 1 * iU nr U S = _
    omega
  · exact if_neg (fun e => hn (by rw [e]; exact sbN_0 U))
  · dsimp only
    have := fct_pos (pcN n S)
    by_cases q : S = 0
    · rw [if_pos q]; omega
    · rw [if_neg q]; omega
  · dsimp only
    by_cases q : S = 0
    · rw [if_pos q]
      refine ⟨fun _ X hX hXS => absurd ?_ hX, fun _ => by decide⟩
      have := sbN_le hXS
      omega
    · rw [if_neg q]
      refine ⟨fun w => absurd w (by decide), fun w => ?_⟩
      obtain ⟨i, -, hi⟩ := w S q (sbN_refl S) (fun a b ha hb _ => hb)
      rw [Nat.zero_testBit] at hi; cases hi
theorem logR {nr : Nat → Nat → Prop} {n : Nat} (hsym : ∀ i j, nr i j → nr j i) (hirr : ∀ i, ¬ nr i i) : ∀ k U A, U < 2 ^ n → pcN n U ≤ k → sbN A U → ∃ r : Nat → Int, (∀ S, S < 2 ^ n → conv n (fun a => sgn (pcN n a) * r a) (iU nr U) S = iU nr (U ^^^ A) S) ∧ (∀ S, S < 2 ^ n → ¬ sbN S U → r S = 0) ∧ (∀ S, S < 2 ^ n → 0 ≤ r S ∧ r S ≤ fct (pcN n S)) ∧ (∀ S, S < 2 ^ n → sbN S U → (0 < r S ↔ rooted nr S A)) := by
  intro k
  induction k with
  | zero =>
    intro U A hU hk hA
    have hU0 : U = 0 := by
      refine Classical.byContradiction (fun q => ?_)
      obtain ⟨i, hi⟩ := nz_bit q
      have := pcN_rm n U i (bit_lt hU hi) hi
      omega
    subst hU0
    have hA0 : A = 0 := by have := sbN_le hA; omega
    subst hA0
    exact logR0 hU
  | succ k ih =>
    intro U A hU hk hA
    by_cases hA0 : A = 0
    · subst hA0
      exact logR0 hU
    · obtain ⟨u, hu⟩ := nz_bit hA0
      have huU := hA u hu
      have hun := bit_lt hU huU
      have hpc := pcN_rm n U u hun huU
      have hU' : rmB U u < 2 ^ n := rmB_lt hU
      obtain ⟨r1, p1, p2, p3, p4⟩ := ih (rmB U u) (nbM nr n u &&& rmB U u) hU' (by omega) and_sbN
      obtain ⟨r2, q1, q2, q3, q4⟩ := ih (rmB U u) (rmB A u) hU' (by omega) (fun i hi => rmB_bit.mpr ⟨hA i (rmB_bit.mp hi).1, (rmB_bit.mp hi).2⟩)
      have hno : ∀ S, S.testBit u = true → ¬ sbN S (rmB U u) := fun S hS w => rmB_off U u (w u hS)
      have hr2u : ∀ S, S < 2 ^ n → S.testBit u = true → r2 S = 0 := fun S hS hb => q2 S hS (hno S hb)
      refine ⟨fun S => if S.testBit u = true then conv n r1 r2 (rmB S u) else r2 S, fun S hS => ?_, fun S hS hn => ?_, fun S hS => ?_, fun S hS hSU => ?_⟩
      · have hIU : ∀ x, x < 2 ^ n → iU nr U x = iU nr (rmB U u) x + zu u (iU nr (rmB U u ^^^ (nbM nr n u &&& rmB U u))) x := by
          intro x hx
          unfold zu
          by_cases q : x.testBit u = true
          · rw [if_pos q, iU_0 (fun w => hno x q w.1), Int.zero_add]
            refine iU_iff ?_
            constructor
            · rintro ⟨w1, w2⟩
              refine ⟨fun i hi => (xor_sub and_sbN).mpr ⟨?_, fun z => ?_⟩, fun i j hi hj => w2 i j (rmB_bit.mp hi).1 (rmB_bit.mp hj).1⟩
              · exact rmB_bit.mpr ⟨w1 i (rmB_bit.mp hi).1, (rmB_bit.mp hi).2⟩
              · rw [Nat.testBit_and, Bool.and_eq_true] at z
                exact w2 u i q (rmB_bit.mp hi).1 (nbM_bit.mp z.1).2
            · rintro ⟨w1, w2⟩
              have hb : ∀ i, x.testBit i = true → ¬ i = u → (rmB x u).testBit i = true := fun i hi e => rmB_bit.mpr ⟨hi, e⟩
              have hnb : ∀ i, (rmB x u).testBit i = true → ¬ nr u i := fun i hi hn => by
                have := (xor_sub and_sbN).mp (w1 i hi)
                refine this.2 ?_
                rw [Nat.testBit_and, Bool.and_eq_true]
                exact ⟨nbM_bit.mpr ⟨bit_lt hx (rmB_bit.mp hi).1, hn⟩, this.1⟩
              refine ⟨fun i hi => ?_, fun i j hi hj hn => ?_⟩
              · by_cases e : i = u
                · rw [e]; exact huU
                · exact (rmB_bit.mp ((xor_sub and_sbN).mp (w1 i (hb i hi e))).1).1
              · by_cases e : i = u
                · subst e
                  by_cases e2 : j = i
                  · subst e2; exact hirr _ hn
                  · exact hnb j (hb j hj e2) hn
                · by_cases e2 : j = u
                  · subst e2; exact hnb i (hb i hi e) (hsym _ _ hn)
                  · exact w2 i j (hb i hi e) (hb j hj e2) hn
          · rw [if_neg q, Int.add_zero]
            refine iU_iff ?_
            constructor
            · exact fun w => ⟨fun i hi => rmB_bit.mpr ⟨w.1 i hi, fun e => q (by rw [← e]; exact hi)⟩, w.2⟩
            · exact fun w => ⟨fun i hi => (rmB_bit.mp (w.1 i hi)).1, w.2⟩
        have hrho : ∀ x, x < 2 ^ n → sgn (pcN n x) * (if x.testBit u = true then conv n r1 r2 (rmB x u) else r2 x) = sgn (pcN n x) * r2 x + zu u (fun y => - conv n (fun a => sgn (pcN n a) * r1 a) (fun a => sgn (pcN n a) * r2 a) y) x := by
          intro x hx
          unfold zu
          by_cases q : x.testBit u = true
          · rw [if_pos q, if_pos q, hr2u x hx q, Int.mul_zero, Int.zero_add, pcN_rm n x u hun q, sgn_s]
            unfold conv
            rw [Int.neg_mul, ← pp_mul]
            congr 1
            exact pp_congr n _ _ _ (rmB_lt hx) (fun a b ha hb hc => by
              rw [pcN_cut n _ a b hc, sgn_add]
              show sgn (pcN n a) * sgn (pcN n b) * (r1 a * r2 b) = sgn (pcN n a) * r1 a * (sgn (pcN n b) * r2 b)
              generalize sgn (pcN n a) = s1
              generalize sgn (pcN n b) = s2
              rw [Int.mul_assoc, Int.mul_assoc, Int.mul_left_comm s2])
          · rw [if_neg q, if_neg q, Int.add_zero]
        rw [conv_congr (f' := fun x => sgn (pcN n x) * r2 x + zu u (fun y => - conv n (fun a => sgn (pcN n a) * r1 a) (fun a => sgn (pcN n a) * r2 a) y) x) (g' := iU nr U) hS (fun a ha _ => hrho a ha) (fun _ _ _ => rfl), conv_add, conv_zu hS hun]
        rw [conv_congr (f' := fun x => sgn (pcN n x) * r2 x) (g' := fun x => iU nr (rmB U u) x + zu u (iU nr (rmB U u ^^^ (nbM nr n u &&& rmB U u))) x) hS (fun _ _ _ => rfl) (fun a ha _ => hIU a ha), conv_add2, q1 S hS]
        rw [conv_comm n _ (zu u _), conv_zu hS hun]
        have hUA : rmB U u ^^^ rmB A u = U ^^^ A := by
          apply bit_eq
          intro i
          rw [xor_sub (fun i hi => rmB_bit.mpr ⟨hA i (rmB_bit.mp hi).1, (rmB_bit.mp hi).2⟩), xor_sub hA, rmB_bit, rmB_bit]
          constructor
          · exact fun w => ⟨w.1.1, fun z => w.2 ⟨z, w.1.2⟩⟩
          · exact fun w => ⟨⟨w.1, fun e => w.2 (by rw [e]; exact hu)⟩, fun z => w.2 z.1⟩
        rw [hUA]
        have hcancel : zu u (conv n (iU nr (rmB U u ^^^ (nbM nr n u &&& rmB U u))) (fun x => sgn (pcN n x) * r2 x)) S + zu u (conv n (fun y => - conv n (fun a => sgn (pcN n a) * r1 a) (fun a => sgn (pcN n a) * r2 a) y) (iU nr U)) S = 0 := by
          unfold zu
          by_cases q : S.testBit u = true
          · rw [if_pos q, if_pos q]
            have hSr : rmB S u < 2 ^ n := rmB_lt hS
            rw [conv_neg]
            have e1 : conv n (fun y => conv n (fun a => sgn (pcN n a) * r1 a) (fun a => sgn (pcN n a) * r2 a) y) (iU nr U) (rmB S u) = conv n (fun y => conv n (fun a => sgn (pcN n a) * r2 a) (fun a => sgn (pcN n a) * r1 a) y) (iU nr (rmB U u)) (rmB S u) := conv_congr hSr (fun a _ _ => conv_comm n _ _ a) (fun a ha hs => by
              rw [hIU a ha]
              unfold zu
              rw [if_neg (fun w => rmB_off S u (hs u w)), Int.add_zero])
            have e2 := conv_assoc n (fun a => sgn (pcN n a) * r2 a) (fun a => sgn (pcN n a) * r1 a) (iU nr (rmB U u)) hSr
            have e3 : conv n (fun a => sgn (pcN n a) * r2 a) (conv n (fun a => sgn (pcN n a) * r1 a) (iU nr (rmB U u))) (rmB S u) = conv n (fun a => sgn (pcN n a) * r2 a) (iU nr (rmB U u ^^^ (nbM nr n u &&& rmB U u))) (rmB S u) := conv_congr hSr (fun _ _ _ => rfl) (fun a ha _ => p1 a ha)
            have e4 := conv_comm n (iU nr (rmB U u ^^^ (nbM nr n u &&& rmB U u))) (fun x => sgn (pcN n x) * r2 x) (rmB S u)
            have e5 : conv n (fun y => conv n (fun a => sgn (pcN n a) * r2 a) (fun a => sgn (pcN n a) * r1 a) y) (iU nr (rmB U u)) (rmB S u) = conv n (conv n (fun a => sgn (pcN n a) * r2 a) (fun a => sgn (pcN n a) * r1 a)) (iU nr (rmB U u)) (rmB S u) := rfl
            rw [e1, e5, ← e2, e3, e4]
            omega
          · rw [if_neg q, if_neg q]; rfl
        omega
      · dsimp only
        by_cases q : S.testBit u = true
        · rw [if_pos q]
          unfold conv
          refine Eq.trans (pp_congr n _ _ (fun _ _ => 0) (rmB_lt hS) (fun a b ha hb hc => ?_)) (pp_0 n _)
          by_cases w : sbN a (rmB U u)
          · rw [q2 b hb (fun w2 => hn (fun i hi => ?_)), Int.mul_zero]
            by_cases e : i = u
            · rw [e]; exact huU
            · rcases (hc i).1.mp (rmB_bit.mpr ⟨hi, e⟩) with z | z
              · exact (rmB_bit.mp (w i z)).1
              · exact (rmB_bit.mp (w2 i z)).1
          · rw [p2 a ha w, Int.zero_mul]
        · rw [if_neg q]
          exact q2 S hS (fun w => hn (fun i hi => (rmB_bit.mp (w i hi)).1))
      · dsimp only
        by_cases q : S.testBit u = true
        · rw [if_pos q, pcN_rm n S u hun q, ← pp_fct0 (rmB_lt hS)]
          unfold conv
          refine ⟨pp_nn (rmB_lt hS) (fun a b ha hb _ => Int.mul_nonneg (p3 a ha).1 (q3 b hb).1), pp_le n _ _ _ (rmB_lt hS) (fun a b ha hb _ => ?_)⟩
          exact Int.mul_le_mul (p3 a ha).2 (q3 b hb).2 (q3 b hb).1 (Int.le_of_lt (fct_pos _))
        · rw [if_neg q]; exact q3 S hS
      · dsimp only
        by_cases q : S.testBit u = true
        · rw [if_pos q]
          have hSr : sbN (rmB S u) (rmB U u) := fun i hi => rmB_bit.mpr ⟨hSU i (rmB_bit.mp hi).1, (rmB_bit.mp hi).2⟩
          rw [rooted_step hS hsym hirr q hu (nbM nr n u &&& rmB U u) (fun i hi => by
            rw [Nat.testBit_and, Bool.and_eq_true, nbM_bit]
            exact ⟨fun w => w.1.2, fun w => ⟨⟨bit_lt hS (rmB_bit.mp hi).1, w⟩, hSr i hi⟩⟩)]
          have hnn : ∀ a b, a < 2 ^ n → b < 2 ^ n → cut (rmB S u) a b → 0 ≤ r1 a * r2 b := fun a b ha hb _ => Int.mul_nonneg (p3 a ha).1 (q3 b hb).1
          constructor
          · intro h
            obtain ⟨a, b, ha, hb, hc, hp⟩ := pp_ex (rmB_lt hS) h
            have h1 := (p3 a ha).1
            have h2 := (q3 b hb).1
            have ha0 : 0 < r1 a := by
              rcases Int.lt_or_eq_of_le h1 with w | w
              · exact w
              · rw [← w, Int.zero_mul] at hp; omega
            have hb0 : 0 < r2 b := by
              rcases Int.lt_or_eq_of_le h2 with w | w
              · exact w
              · rw [← w, Int.mul_zero] at hp; omega
            exact ⟨a, b, hc, (p4 a ha (fun i hi => hSr i (cut_sb hc i hi))).mp ha0, (q4 b hb (fun i hi => hSr i (cut_sb (cut_symm hc) i hi))).mp hb0⟩
          · rintro ⟨T, R, hc, hT, hR⟩
            have hTl : T < 2 ^ n := Nat.lt_of_le_of_lt (sbN_le (cut_sb hc)) (rmB_lt hS)
            have hRl : R < 2 ^ n := Nat.lt_of_le_of_lt (sbN_le (cut_sb (cut_symm hc))) (rmB_lt hS)
            have h1 := (p4 T hTl (fun i hi => hSr i (cut_sb hc i hi))).mpr hT
            have h2 := (q4 R hRl (fun i hi => hSr i (cut_sb (cut_symm hc) i hi))).mpr hR
            have h3 := pp_ge (a := T) (rmB_lt hS) hnn (cut_sb hc)
            rw [← cut_xor hc] at h3
            have h4 : 0 < r1 T * r2 R := Int.mul_pos h1 h2
            unfold conv
            omega
        · rw [if_neg q, q4 S hS (fun i hi => rmB_bit.mpr ⟨hSU i hi, fun e => q (by rw [← e]; exact hi)⟩)]
          constructor
          · intro w X hX hXS hXc
            obtain ⟨i, hi, hA2⟩ := w X hX hXS hXc
            exact ⟨i, hi, (rmB_bit.mp hA2).1⟩
          · intro w X hX hXS hXc
            obtain ⟨i, hi, hA2⟩ := w X hX hXS hXc
            exact ⟨i, hi, rmB_bit.mpr ⟨hA2, fun e => q (by rw [← e]; exact hXS i hi)⟩⟩
