/-! PURE, 52: colourings of a net: two nodes differ or are alike; by the block of one node -/
abbrev aT : Nat → Nat → Prop := fun _ _ => True
/-- an arc more; two nodes made one -/
def nrAdd (nr : Nat → Nat → Prop) (a b : Nat) : Nat → Nat → Prop := fun i j => nr i j ∨ (i = a ∧ j = b) ∨ (i = b ∧ j = a)
def nrCon (nr : Nat → Nat → Prop) (a b : Nat) : Nat → Nat → Prop := fun i j => nr i j ∨ (i = a ∧ nr b j) ∨ (j = a ∧ nr b i)
theorem bits_add {x u : Nat} (hu : ¬ x.testBit u = true) (n : Nat) (hx : x < 2 ^ n) (i : Nat) : (x + 2 ^ u).testBit i = true ↔ x.testBit i = true ∨ i = u := by
  obtain ⟨h1, h2⟩ := add_bit hx hu
  have := rmB_bit (s := x + 2 ^ u) (v := u) (i := i)
  rw [h2] at this
  constructor
  · intro w
    by_cases e : i = u
    · exact Or.inr e
    · exact Or.inl (this.mpr ⟨w, e⟩)
  · rintro (w | rfl)
    · exact (this.mp w).1
    · exact h1
theorem add_lt {x u n : Nat} (hu : ¬ x.testBit u = true) (hx : x < 2 ^ n) (hun : u < n) : x + 2 ^ u < 2 ^ n := by
  have e : x + 2 ^ u = x ||| 2 ^ u := add_or x (2 ^ u) (by
    apply bit_eq
    intro i
    rw [Nat.testBit_and, Bool.and_eq_true, Nat.testBit_two_pow, decide_eq_true_iff, Nat.zero_testBit]
    exact ⟨fun w => absurd (by rw [w.2]; exact w.1) hu, fun w => by cases w⟩)
  rw [e]
  exact Nat.or_lt_two_pow hx (Nat.pow_lt_pow_right (by omega) hun)
theorem wy_same {nr nr' : Nat → Nat → Prop} {n : Nat} : ∀ k S, S < 2 ^ n → (∀ i j, S.testBit i = true → S.testBit j = true → (nr i j ↔ nr' i j)) → wy aT nr n k S = wy aT nr' n k S := by
  intro k
  induction k with
  | zero => intro S _ _; rfl
  | succ k ih =>
    intro S hS h
    rw [wy_s, wy_s]
    refine pp_congr n S _ _ hS (fun a b ha hb hc => ?_)
    rw [ih b hb (fun i j hi hj => h i j (cut_sb (cut_symm hc) i hi) (cut_sb (cut_symm hc) j hj))]
    congr 1
    by_cases q : okT aT nr k a
    · rw [iT_1 q, iT_1 ⟨q.1, fun i j hi hj w => q.2 i j hi hj ((h i j (cut_sb hc i hi) (cut_sb hc j hj)).mpr w)⟩]
    · rw [iT_0 q, iT_0 (fun z => q ⟨z.1, fun i j hi hj w => z.2 i j hi hj ((h i j (cut_sb hc i hi) (cut_sb hc j hj)).mp w)⟩)]
theorem iT_same {nr nr' : Nat → Nat → Prop} {k t t' : Nat} (h : indp nr t ↔ indp nr' t') : iT aT nr k t = iT aT nr' k t' := by
  by_cases q : okT aT nr k t
  · rw [iT_1 q, iT_1 ⟨fun _ _ => trivial, h.mp q.2⟩]
  · rw [iT_0 q, iT_0 (fun z => q ⟨fun _ _ => trivial, h.mpr z.2⟩)]
/-- two nodes that are not near either differ or are alike -/
theorem wy_dc {nr : Nat → Nat → Prop} {n a b : Nat} (hsym : ∀ i j, nr i j → nr j i) (hirr : ∀ i, ¬ nr i i) (hab : ¬ a = b) (hn : ¬ nr a b) : ∀ k S, S < 2 ^ n → S.testBit a = true → S.testBit b = true → wy aT nr n k S = wy aT (nrAdd nr a b) n k S + wy aT (nrCon nr a b) n k (rmB S b) := by
  intro k
  induction k with
  | zero =>
    intro S hS ha hb
    have h1 : wy aT nr n 0 S = 0 := if_neg (bit_nz ha)
    have h2 : wy aT (nrAdd nr a b) n 0 S = 0 := if_neg (bit_nz ha)
    have h3 : wy aT (nrCon nr a b) n 0 (rmB S b) = 0 := if_neg (bit_nz (rmB_bit.mpr ⟨ha, hab⟩))
    rw [h1, h2, h3]; rfl
  | succ k ih =>
    intro S hS ha hb
    have han := bit_lt hS ha
    have hbn := bit_lt hS hb
    have hR := rmB_lt (v := b) hS
    have haR : (rmB S b).testBit a = true := rmB_bit.mpr ⟨ha, hab⟩
    have four : ∀ h : Nat → Nat → Int, pp n S h = (pp n (rmB (rmB S b) a) (fun t x => h (t + 2 ^ a + 2 ^ b) x) + pp n (rmB (rmB S b) a) (fun t x => h (t + 2 ^ b) (x + 2 ^ a))) + (pp n (rmB (rmB S b) a) (fun t x => h (t + 2 ^ a) (x + 2 ^ b)) + pp n (rmB (rmB S b) a) (fun t x => h t (x + 2 ^ a + 2 ^ b))) := fun h => by
      rw [pp_at n S b h hS hbn hb, pp_at n (rmB S b) a (fun t x => h (t + 2 ^ b) x) hR han haR, pp_at n (rmB S b) a (fun t x => h t (x + 2 ^ b)) hR han haR]
    rw [wy_s, wy_s, wy_s, four, four (fun t x => iT aT (nrAdd nr a b) k t * wy aT (nrAdd nr a b) n k x), pp_at n (rmB S b) a (fun t x => iT aT (nrCon nr a b) k t * wy aT (nrCon nr a b) n k x) hR han haR]
    have hX := rmB_lt (v := a) hR
    have off : ∀ t x, cut (rmB (rmB S b) a) t x → (¬ t.testBit a = true ∧ ¬ t.testBit b = true) ∧ ¬ x.testBit a = true ∧ ¬ x.testBit b = true := fun t x hc =>
      ⟨⟨(cut_off hc).1, fun w => (rmB_bit.mp (rmB_bit.mp (cut_sb hc b w)).1).2 rfl⟩, (cut_off hc).2, fun w => (rmB_bit.mp (rmB_bit.mp (cut_sb (cut_symm hc) b w)).1).2 rfl⟩
    have e1 : pp n (rmB (rmB S b) a) (fun t x => iT aT nr k (t + 2 ^ a + 2 ^ b) * wy aT nr n k x) = pp n (rmB (rmB S b) a) (fun t x => iT aT (nrCon nr a b) k (t + 2 ^ a) * wy aT (nrCon nr a b) n k x) := pp_congr n _ _ _ hX (fun t x ht hx hc => by
      obtain ⟨⟨ta, tb⟩, xa, xb⟩ := off t x hc
      have hA := bits_add ta n ht
      have hta := add_lt ta ht han
      have hAB := bits_add (x := t + 2 ^ a) (u := b) (fun w => by rcases (hA b).mp w with z | z; exact tb z; exact hab z.symm) n hta
      rw [wy_same (nr' := nrCon nr a b) k x hx (fun i j hi hj => ⟨fun w => Or.inl w, fun w => by
        rcases w with w | w | w
        · exact w
        · exact absurd (by rw [← w.1]; exact hi) xa
        · exact absurd (by rw [← w.1]; exact hj) xa⟩)]
      congr 1
      refine iT_same ?_
      constructor
      · intro q i j hi hj w
        have hi2 := (hAB i).mpr (Or.inl hi)
        have hj2 := (hAB j).mpr (Or.inl hj)
        have hb2 := (hAB b).mpr (Or.inr rfl)
        rcases w with w | w | w
        · exact q i j hi2 hj2 w
        · exact q b j hb2 hj2 w.2
        · exact q b i hb2 hi2 w.2
      · intro q i j hi hj w
        have haa : (t + 2 ^ a).testBit a = true := (hA a).mpr (Or.inr rfl)
        rcases (hAB i).mp hi with zi | zi
        · rcases (hAB j).mp hj with zj | zj
          · exact q i j zi zj (Or.inl w)
          · subst zj; exact q a i haa zi (Or.inr (Or.inl ⟨rfl, hsym _ _ w⟩))
        · subst zi
          rcases (hAB j).mp hj with zj | zj
          · exact q a j haa zj (Or.inr (Or.inl ⟨rfl, w⟩))
          · subst zj; exact hirr _ w)
    have e1' : pp n (rmB (rmB S b) a) (fun t x => iT aT (nrAdd nr a b) k (t + 2 ^ a + 2 ^ b) * wy aT (nrAdd nr a b) n k x) = 0 := Eq.trans (pp_congr n _ _ (fun _ _ => 0) hX (fun t x ht hx hc => by
      obtain ⟨⟨ta, tb⟩, xa, xb⟩ := off t x hc
      have hA := bits_add ta n ht
      have hta := add_lt ta ht han
      have hAB := bits_add (x := t + 2 ^ a) (u := b) (fun w => by rcases (hA b).mp w with z | z; exact tb z; exact hab z.symm) n hta
      rw [iT_0 (fun z => z.2 a b ((hAB a).mpr (Or.inl ((hA a).mpr (Or.inr rfl)))) ((hAB b).mpr (Or.inr rfl)) (Or.inr (Or.inl ⟨rfl, rfl⟩))), Int.zero_mul])) (pp_0 n _)
    have noab : ∀ y : Nat, ¬ (y.testBit a = true ∧ y.testBit b = true) → ∀ i j, y.testBit i = true → y.testBit j = true → (nr i j ↔ nrAdd nr a b i j) := fun y hy i j hi hj => ⟨fun w => Or.inl w, fun w => by
      rcases w with w | w | w
      · exact w
      · exact absurd ⟨by rw [← w.1]; exact hi, by rw [← w.2]; exact hj⟩ hy
      · exact absurd ⟨by rw [← w.2]; exact hj, by rw [← w.1]; exact hi⟩ hy⟩
    have iTn : ∀ y : Nat, ¬ (y.testBit a = true ∧ y.testBit b = true) → iT aT nr k y = iT aT (nrAdd nr a b) k y := fun y hy => iT_same ⟨fun q i j hi hj w => q i j hi hj ((noab y hy i j hi hj).mpr w), fun q i j hi hj w => q i j hi hj ((noab y hy i j hi hj).mp w)⟩
    have e2 : pp n (rmB (rmB S b) a) (fun t x => iT aT nr k (t + 2 ^ b) * wy aT nr n k (x + 2 ^ a)) = pp n (rmB (rmB S b) a) (fun t x => iT aT (nrAdd nr a b) k (t + 2 ^ b) * wy aT (nrAdd nr a b) n k (x + 2 ^ a)) := pp_congr n _ _ _ hX (fun t x ht hx hc => by
      obtain ⟨⟨ta, tb⟩, xa, xb⟩ := off t x hc
      have hB := bits_add tb n ht
      have hA := bits_add xa n hx
      rw [iTn _ (fun w => by rcases (hB a).mp w.1 with z | z; exact ta z; exact hab z), wy_same (nr' := nrAdd nr a b) k _ (add_lt xa hx han) (noab _ (fun w => by rcases (hA b).mp w.2 with z | z; exact xb z; exact hab z.symm))])
    have e3 : pp n (rmB (rmB S b) a) (fun t x => iT aT nr k (t + 2 ^ a) * wy aT nr n k (x + 2 ^ b)) = pp n (rmB (rmB S b) a) (fun t x => iT aT (nrAdd nr a b) k (t + 2 ^ a) * wy aT (nrAdd nr a b) n k (x + 2 ^ b)) := pp_congr n _ _ _ hX (fun t x ht hx hc => by
      obtain ⟨⟨ta, tb⟩, xa, xb⟩ := off t x hc
      have hA := bits_add ta n ht
      have hB := bits_add xb n hx
      rw [iTn _ (fun w => by rcases (hA b).mp w.2 with z | z; exact tb z; exact hab z.symm), wy_same (nr' := nrAdd nr a b) k _ (add_lt xb hx hbn) (noab _ (fun w => by rcases (hB a).mp w.1 with z | z; exact xa z; exact hab z))])
    have e4 : pp n (rmB (rmB S b) a) (fun t x => iT aT nr k t * wy aT nr n k (x + 2 ^ a + 2 ^ b)) = pp n (rmB (rmB S b) a) (fun t x => iT aT (nrAdd nr a b) k t * wy aT (nrAdd nr a b) n k (x + 2 ^ a + 2 ^ b)) + pp n (rmB (rmB S b) a) (fun t x => iT aT (nrCon nr a b) k t * wy aT (nrCon nr a b) n k (x + 2 ^ a)) := by
      rw [← pp_add]
      refine pp_congr n _ _ _ hX (fun t x ht hx hc => ?_)
      obtain ⟨⟨ta, tb⟩, xa, xb⟩ := off t x hc
      have hA := bits_add xa n hx
      have hxa := add_lt xa hx han
      have nb : ¬ (x + 2 ^ a).testBit b = true := fun w => by rcases (hA b).mp w with z | z; exact xb z; exact hab z.symm
      have hAB := bits_add nb n hxa
      have hr2 := (add_bit hxa nb).2
      rw [ih (x + 2 ^ a + 2 ^ b) (add_lt nb hxa hbn) ((hAB a).mpr (Or.inl ((hA a).mpr (Or.inr rfl)))) ((hAB b).mpr (Or.inr rfl)), hr2, Int.mul_add]
      have i1 := iTn t (fun w => ta w.1)
      have i2 : iT aT nr k t = iT aT (nrCon nr a b) k t := iT_same ⟨fun q i j hi hj w => by
        rcases w with w | w | w
        · exact q i j hi hj w
        · exact absurd (by rw [← w.1]; exact hi) ta
        · exact absurd (by rw [← w.1]; exact hj) ta, fun q i j hi hj w => q i j hi hj (Or.inl w)⟩
      rw [← i1, ← i2]
    rw [e1, e2, e3, e4, e1']
    omega
/-- by the block of one node: k + 1 colours for it -/
theorem wy_blk {nr : Nat → Nat → Prop} {n l : Nat} : ∀ k S, S < 2 ^ n → S.testBit l = true → wy aT nr n (k + 1) S = (k + 1 : Nat) * pp n S (fun t x => if t.testBit l = true then iN nr t * wy aT nr n k x else 0) := by
  have hiT : ∀ k t, iT aT nr k t = iN nr t := fun k t => by
    by_cases q : indp nr t
    · rw [iN_1 q, iT_1 ⟨fun _ _ => trivial, q⟩]
    · rw [iN_0 q, iT_0 (fun z => q z.2)]
  intro k
  induction k with
  | zero =>
    intro S hS hl
    rw [wy_s, pp_side hS hl]
    have e : pp n S (fun a b => if b.testBit l = true then iT aT nr 0 a * wy aT nr n 0 b else 0) = 0 := Eq.trans (pp_congr n S _ (fun _ _ => 0) hS (fun a b ha hb hc => by
      by_cases q : b.testBit l = true
      · rw [if_pos q]
        show _ * (if b = 0 then (1 : Int) else 0) = 0
        rw [if_neg (bit_nz q), Int.mul_zero]
      · rw [if_neg q])) (pp_0 n S)
    rw [e, Int.add_zero]
    show _ = 1 * _
    rw [Int.one_mul]
    congr 1
    funext t x
    rw [hiT]
  | succ k ih =>
    intro S hS hl
    have hs : wy aT nr n (k + 1 + 1) S = pp n S (fun t x => iT aT nr (k + 1) t * wy aT nr n (k + 1) x) := rfl
    rw [hs, pp_side hS hl]
    have e1 : pp n S (fun a b => if a.testBit l = true then iT aT nr (k + 1) a * wy aT nr n (k + 1) b else 0) = pp n S (fun t x => if t.testBit l = true then iN nr t * wy aT nr n (k + 1) x else 0) := by
      congr 1
      funext t x
      rw [hiT]
    have e2 : pp n S (fun a b => if b.testBit l = true then iT aT nr (k + 1) a * wy aT nr n (k + 1) b else 0) = (k + 1 : Nat) * pp n S (fun t x => if t.testBit l = true then iN nr t * wy aT nr n (k + 1) x else 0) := by
      have h1 : pp n S (fun a b => if b.testBit l = true then iT aT nr (k + 1) a * wy aT nr n (k + 1) b else 0) = pp n S (fun a x => pp n x (fun b c => (fun a b c => ((k + 1 : Nat) : Int) * (if b.testBit l = true then iN nr a * (iN nr b * wy aT nr n k c) else 0)) a b c)) := pp_congr n S _ _ hS (fun a x ha hx hc => by
        by_cases q : x.testBit l = true
        · rw [if_pos q, ih x hx q, hiT, Int.mul_left_comm, ← pp_mul, ← pp_mul]
          congr 1
          funext b c
          by_cases w : b.testBit l = true
          · rw [if_pos w]
            show _ = ((k + 1 : Nat) : Int) * (if b.testBit l = true then iN nr a * (iN nr b * wy aT nr n k c) else 0)
            rw [if_pos w]
          · rw [if_neg w]
            show _ = ((k + 1 : Nat) : Int) * (if b.testBit l = true then iN nr a * (iN nr b * wy aT nr n k c) else 0)
            rw [if_neg w, Int.mul_zero]
        · rw [if_neg q]
          refine Eq.symm (Eq.trans (pp_congr n x _ (fun _ _ => 0) hx (fun b c hb hc2 hbc => ?_)) (pp_0 n x))
          show ((k + 1 : Nat) : Int) * (if b.testBit l = true then iN nr a * (iN nr b * wy aT nr n k c) else 0) = 0
          rw [if_neg (fun w => q (cut_sb hbc l w)), Int.mul_zero])
      rw [h1, pp_assoc n S (fun a b c => ((k + 1 : Nat) : Int) * (if b.testBit l = true then iN nr a * (iN nr b * wy aT nr n k c) else 0)) hS]
      have h2 : pp n S (fun x c => pp n x (fun a b => ((k + 1 : Nat) : Int) * (if b.testBit l = true then iN nr a * (iN nr b * wy aT nr n k c) else 0))) = pp n S (fun x c => pp n x (fun b a => (fun b a c => ((k + 1 : Nat) : Int) * (if b.testBit l = true then iN nr a * (iN nr b * wy aT nr n k c) else 0)) b a c)) := by
        congr 1
        funext x c
        exact (pp_comm n x (h := fun b a => ((k + 1 : Nat) : Int) * (if b.testBit l = true then iN nr a * (iN nr b * wy aT nr n k c) else 0)))
      rw [h2, ← pp_assoc n S (fun b a c => ((k + 1 : Nat) : Int) * (if b.testBit l = true then iN nr a * (iN nr b * wy aT nr n k c) else 0)) hS, ← pp_mul]
      congr 1
      funext b x
      rw [pp_mul]
      congr 1
      by_cases w : b.testBit l = true
      · rw [if_pos w, wy_s, ← pp_mul]
        congr 1
        funext a c
        rw [if_pos w, hiT, Int.mul_left_comm]
      · rw [if_neg w]
        refine Eq.trans ?_ (pp_0 n x)
        congr 1
        funext a c
        rw [if_neg w]
    rw [e1, e2]
    rw [show ((k + 1 + 1 : Nat) : Int) = ((k + 1 : Nat) : Int) + 1 from by omega, Int.add_mul, Int.one_mul, Int.add_comm]
/-- a node whose near ones are all near to one another -/
theorem wy_simp {nr : Nat → Nat → Prop} {n k S v Q : Nat} (hsym : ∀ i j, nr i j → nr j i) (hirr : ∀ i, ¬ nr i i) (hS : S < 2 ^ n) (hv : S.testBit v = true) (hQ : ∀ i, Q.testBit i = true ↔ (rmB S v).testBit i = true ∧ nr v i) (hcl : ∀ i j, Q.testBit i = true → Q.testBit j = true → ¬ i = j → nr i j) : wy aT nr n k S = ((k : Int) - (pcN n Q : Int)) * wy aT nr n k (rmB S v) := by
  have h := wy_simple (al := aT) (k := k) hsym hirr hS hv hQ hcl (fun _ _ _ _ _ => trivial)
  have e1 : ∀ m, sumR (fun c => bI (aT v c)) m = (m : Int) := by
    intro m
    induction m with
    | zero => rfl
    | succ m ih => rw [sumR_s, ih, bI_1 trivial]; omega
  have e2 : ∀ m, sumR (fun b => bI (Q.testBit b = true)) m = (pcN m Q : Int) := by
    intro m
    induction m with
    | zero => rfl
    | succ m ih =>
      rw [sumR_s, ih]
      show _ = ((pcN m Q + _ : Nat) : Int)
      by_cases q : Q.testBit m = true
      · rw [bI_1 q, if_pos q]; omega
      · rw [bI_0 q, if_neg q]; omega
  rw [e1, e2] at h
  exact h
