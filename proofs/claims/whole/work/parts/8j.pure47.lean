/-! PURE, 47: what hangs together; going through the sets within a set -/
theorem pcN_mono : ∀ (n X Y : Nat), sbN X Y → pcN n X ≤ pcN n Y := by
  intro n
  induction n with
  | zero => intro X Y _; exact Nat.le_refl _
  | succ n ih =>
    intro X Y h
    have := ih X Y h
    show pcN n X + _ ≤ pcN n Y + _
    by_cases q : X.testBit n = true
    · rw [if_pos q, if_pos (h n q)]; omega
    · rw [if_neg q]; omega
theorem sb_pc {n X Y : Nat} (hY : Y < 2 ^ n) (h : sbN X Y) (e : pcN n X = pcN n Y) : X = Y := by
  apply bit_eq
  intro i
  refine ⟨fun w => h i w, fun w => Classical.byContradiction (fun q => ?_)⟩
  have h1 := pcN_mono n X (rmB Y i) (fun j hj => rmB_bit.mpr ⟨h j hj, fun e => q (by rw [← e]; exact hj)⟩)
  have h2 := pcN_rm n Y i (bit_lt hY w) w
  omega
theorem or_bit {X j i : Nat} : (X ||| 2 ^ j).testBit i = true ↔ X.testBit i = true ∨ i = j := by
  rw [Nat.testBit_or, Bool.or_eq_true, Nat.testBit_two_pow, decide_eq_true_iff]
  exact ⟨fun w => w.elim Or.inl (fun z => Or.inr z.symm), fun w => w.elim Or.inl (fun z => Or.inr z.symm)⟩
theorem conn_grow {nr : Nat → Nat → Prop} {X i j : Nat} (hsym : ∀ i j, nr i j → nr j i) (hc : conn nr X) (hi : X.testBit i = true) (hn : nr i j) : conn nr (X ||| 2 ^ j) := by
  intro Y hY0 hYX hYc
  by_cases q : Y &&& X = 0
  · exfalso
    obtain ⟨a, ha⟩ := nz_bit hY0
    have haj : a = j := by
      rcases or_bit.mp (hYX a ha) with w | w
      · exfalso
        have : (Y &&& X).testBit a = true := by rw [Nat.testBit_and, ha, w]; rfl
        rw [q, Nat.zero_testBit] at this; cases this
      · exact w
    subst haj
    have := hYc a i ha (or_bit.mpr (Or.inl hi)) (hsym _ _ hn)
    have : (Y &&& X).testBit i = true := by rw [Nat.testBit_and, this, hi]; rfl
    rw [q, Nat.zero_testBit] at this; cases this
  · have e := hc (Y &&& X) q and_sbN (fun a b ha hb hab => by
      rw [Nat.testBit_and, Bool.and_eq_true] at ha ⊢
      exact ⟨hYc a b ha.1 (or_bit.mpr (Or.inl hb)) hab, hb⟩)
    have hXY : sbN X Y := fun a ha => by
      rw [← e, Nat.testBit_and, Bool.and_eq_true] at ha
      exact ha.1
    apply bit_eq
    intro a
    refine ⟨fun w => hYX a w, fun w => ?_⟩
    rcases or_bit.mp w with z | z
    · exact hXY a z
    · subst z
      exact hYc i a (hXY i hi) (or_bit.mpr (Or.inr rfl)) hn
/-- what hangs together hangs together without one of its nodes -/
theorem conn_iff {nr : Nat → Nat → Prop} {n S i0 j0 : Nat} (hsym : ∀ i j, nr i j → nr j i) (hirr : ∀ i, ¬ nr i i) (hS : S < 2 ^ n) (hi0 : S.testBit i0 = true) (hj0 : S.testBit j0 = true) (hij : ¬ i0 = j0) : conn nr S ↔ ∃ v, S.testBit v = true ∧ (∃ j, S.testBit j = true ∧ nr v j) ∧ conn nr (rmB S v) := by
  constructor
  · intro hc
    have key : ∀ d X, X ≠ 0 → sbN X S → X ≠ S → conn nr X → pcN n S = pcN n X + 1 + d → ∃ v, S.testBit v = true ∧ (∃ j, S.testBit j = true ∧ nr v j) ∧ conn nr (rmB S v) := by
      intro d
      induction d with
      | zero =>
        intro X hX0 hXS hne hXc hd
        obtain ⟨i, j, hi, hj, hn, hjX⟩ : ∃ i j, X.testBit i = true ∧ S.testBit j = true ∧ nr i j ∧ ¬ X.testBit j = true := by
          refine Classical.byContradiction (fun q => hne (hc X hX0 hXS (fun i j hi hj hn => Classical.byContradiction (fun z => q ⟨i, j, hi, hj, hn, z⟩))))
        have hsub : sbN X (rmB S j) := fun a ha => rmB_bit.mpr ⟨hXS a ha, fun e => hjX (by rw [← e]; exact ha)⟩
        have h2 := pcN_rm n S j (bit_lt hS hj) hj
        have e := sb_pc (rmB_lt hS) hsub (by omega)
        exact ⟨j, hj, ⟨i, hXS i hi, hsym _ _ hn⟩, by rw [← e]; exact hXc⟩
      | succ d ih =>
        intro X hX0 hXS hne hXc hd
        obtain ⟨i, j, hi, hj, hn, hjX⟩ : ∃ i j, X.testBit i = true ∧ S.testBit j = true ∧ nr i j ∧ ¬ X.testBit j = true := by
          refine Classical.byContradiction (fun q => hne (hc X hX0 hXS (fun i j hi hj hn => Classical.byContradiction (fun z => q ⟨i, j, hi, hj, hn, z⟩))))
        have hb : (X ||| 2 ^ j).testBit j = true := or_bit.mpr (Or.inr rfl)
        have hrm : rmB (X ||| 2 ^ j) j = X := by
          apply bit_eq
          intro a
          rw [rmB_bit, or_bit]
          exact ⟨fun w => w.1.elim id (fun z => absurd z w.2), fun w => ⟨Or.inl w, fun e => hjX (by rw [← e]; exact w)⟩⟩
        have hpc := pcN_rm n (X ||| 2 ^ j) j (bit_lt hS hj) hb
        rw [hrm] at hpc
        refine ih (X ||| 2 ^ j) (bit_nz hb) (fun a ha => ?_) (fun e => ?_) (conn_grow hsym hXc hi hn) (by omega)
        · rcases or_bit.mp ha with w | w
          · exact hXS a w
          · rw [w]; exact hj
        · rw [e] at hpc; omega
    have hb : ∀ a, (2 ^ i0).testBit a = true ↔ a = i0 := fun a => by
      rw [Nat.testBit_two_pow, decide_eq_true_iff]
      exact ⟨fun w => w.symm, fun w => w.symm⟩
    have hsub : sbN (2 ^ i0) S := fun a ha => by rw [(hb a).mp ha]; exact hi0
    have hne : 2 ^ i0 ≠ S := fun e => hij ((hb j0).mp (by rw [e]; exact hj0)).symm
    have h1 := pcN_mono n (2 ^ i0) S hsub
    have h2 : pcN n (2 ^ i0) ≠ pcN n S := fun e => hne (sb_pc hS hsub e)
    refine key (pcN n S - pcN n (2 ^ i0) - 1) (2 ^ i0) (bit_nz ((hb i0).mpr rfl)) hsub hne (fun X hX0 hXS _ => ?_) (by omega)
    apply bit_eq
    intro a
    refine ⟨fun w => hXS a w, fun w => ?_⟩
    obtain ⟨b, hbX⟩ := nz_bit hX0
    have e1 := (hb b).mp (hXS b hbX)
    have e2 := (hb a).mp w
    rw [e2, ← e1]; exact hbX
  · rintro ⟨v, hv, ⟨j, hj, hn⟩, hc⟩ X hX0 hXS hXc
    have hjv : ¬ j = v := fun e => by subst e; exact hirr _ hn
    by_cases q : rmB X v = 0
    · exfalso
      have hXv : ∀ a, X.testBit a = true → a = v := fun a ha => Classical.byContradiction (fun z => by
        have : (rmB X v).testBit a = true := rmB_bit.mpr ⟨ha, z⟩
        rw [q, Nat.zero_testBit] at this; cases this)
      obtain ⟨a, ha⟩ := nz_bit hX0
      have := hXv a ha
      subst this
      exact hjv (hXv j (hXc a j ha hj hn))
    · have e := hc (rmB X v) q (fun a ha => rmB_bit.mpr ⟨hXS a (rmB_bit.mp ha).1, (rmB_bit.mp ha).2⟩) (fun a b ha hb hab => rmB_bit.mpr ⟨hXc a b (rmB_bit.mp ha).1 (rmB_bit.mp hb).1 hab, (rmB_bit.mp hb).2⟩)
      have hjX : X.testBit j = true := by
        have : (rmB X v).testBit j = true := by rw [e]; exact rmB_bit.mpr ⟨hj, hjv⟩
        exact (rmB_bit.mp this).1
      have hvX := hXc j v hjX hv (hsym _ _ hn)
      apply bit_eq
      intro a
      refine ⟨fun w => hXS a w, fun w => ?_⟩
      by_cases e2 : a = v
      · rw [e2]; exact hvX
      · have : (rmB X v).testBit a = true := by rw [e]; exact rmB_bit.mpr ⟨w, e2⟩
        exact (rmB_bit.mp this).1
theorem conn_one {nr : Nat → Nat → Prop} {S i : Nat} (h : ∀ a, S.testBit a = true ↔ a = i) : conn nr S := fun X hX0 hXS _ => by
  obtain ⟨b, hb⟩ := nz_bit hX0
  apply bit_eq
  intro a
  refine ⟨fun w => hXS a w, fun w => ?_⟩
  rw [(h a).mp w, ← (h b).mp (hXS b hb)]; exact hb
theorem xor_sub' {m a : Nat} (h : sbN a m) : a + (m ^^^ a) = m := by
  have hd : a &&& (m ^^^ a) = 0 := by
    apply bit_eq
    intro i
    rw [Nat.testBit_and, Bool.and_eq_true, xor_sub h, Nat.zero_testBit]
    exact ⟨fun w => absurd w.1 w.2.2, fun w => by cases w⟩
  rw [add_or _ _ hd]
  apply bit_eq
  intro i
  rw [Nat.testBit_or, Bool.or_eq_true, xor_sub h]
  constructor
  · rintro (w | w)
    · exact h i w
    · exact w.1
  · intro w
    by_cases q : a.testBit i = true
    · exact Or.inl q
    · exact Or.inr ⟨w, q⟩
theorem xor_sb {m a : Nat} (h : sbN a m) : sbN (m ^^^ a) m := fun i hi => ((xor_sub h).mp hi).1
/-- the next greater one of m's sets -/
def nxt (m x : Nat) : Nat := m ^^^ (((m ^^^ x) - 1) &&& m)
theorem nxt_ok {m x : Nat} (hx : sbN x m) (hne : x ≠ m) : sbN (nxt m x) m ∧ x < nxt m x ∧ ∀ s, sbN s m → x < s → nxt m x ≤ s := by
  have h1 := xor_sub' hx
  have hle := sbN_le hx
  have h2 : sbN (((m ^^^ x) - 1) &&& m) m := and_sbN
  have h3 := xor_sub' h2
  have h4 : ((m ^^^ x) - 1) &&& m ≤ (m ^^^ x) - 1 := Nat.and_le_left
  refine ⟨xor_sb h2, ?_, fun s hs hl => ?_⟩
  · unfold nxt; omega
  · have h5 := xor_sub' hs
    have := prevSub (m ^^^ x) m (m ^^^ s) (sbN_and (xor_sb hx)) (sbN_and (xor_sb hs)) (by omega)
    unfold nxt; omega
theorem nxt_nI {n m x : Nat} (hn : n ≤ 12) (hm : m < 2 ^ n) (hx : sbN x m) (hne : x ≠ m) : (nI x - nI m) &&& nI m = nI (nxt m x) := by
  have hp := pow_le12 hn
  have h1 := xor_sub' hx
  have hle := sbN_le hx
  have e1 : nI x - nI m = nI ((m ^^^ x) - 1) ^^^ (-1) := by
    have hz : nI ((m ^^^ x) - 1) + 1 = nI (m ^^^ x) := by rw [nI_1, show (m ^^^ x) - 1 + 1 = m ^^^ x by omega]
    have hs : nI x + nI (m ^^^ x) = nI m := by rw [nI_add', h1]
    have hnot : ∀ a : Int32, a ^^^ (-1) = - (a + 1) := by
      intro a
      apply Int32.toBitVec_inj.1
      rw [Int32.toBitVec_xor, show (-1 : Int32).toBitVec = BitVec.allOnes 32 from rfl, BitVec.xor_allOnes, Int32.toBitVec_neg, Int32.toBitVec_add, show Int32.toBitVec 1 = 1#32 from rfl, BitVec.neg_add, BitVec.neg_eq_not_add, BitVec.add_sub_cancel]
    rw [hnot, hz, ← hs]
    apply Int32.toBitVec_inj.1
    rw [Int32.toBitVec_sub, Int32.toBitVec_neg, Int32.toBitVec_add]
    generalize (nI x).toBitVec = p
    rw [BitVec.sub_eq_add_neg, BitVec.neg_add, BitVec.sub_eq_add_neg (-p), ← BitVec.add_assoc, BitVec.add_right_neg, BitVec.zero_add]
  rw [e1]
  apply b_ext
  intro i hi
  rw [b_and, b_not _ hi, bt_nI _ hi, bt_nI _ hi, bt_nI _ hi]
  unfold nxt
  have h2 : sbN (((m ^^^ x) - 1) &&& m) m := and_sbN
  rw [Nat.testBit_xor, Nat.testBit_and]
  cases ((m ^^^ x) - 1).testBit i <;> cases m.testBit i <;> rfl
/-- how many of m's sets lie below x -/
def RK (m x : Nat) : Int := sumR (subg m (fun _ _ => 1)) x
theorem RK_all {n m : Nat} (hm : m < 2 ^ n) : RK m (m + 1) = 2 ^ (pcN n m) := by
  have h1 := pp_range n m (fun _ _ => 1) hm
  have h2 := pp_pow (c := 1) n m hm
  have e : (fun (_ b : Nat) => (1 : Int) ^ (pcN n b)) = (fun _ _ => 1) := by
    funext a b
    exact Int.one_pow
  rw [e] at h2
  unfold RK
  rw [← sumR_gap (g := subg m (fun _ _ => 1)) (a := m + 1) (2 ^ n) (by omega) (fun t h3 h4 => by
    unfold subg
    refine if_neg (fun w => ?_)
    have := sbN_le (and_eq_iff.mp w)
    omega), ← h1, h2]
  rfl
theorem RK_s {m x : Nat} (hx : sbN x m) : RK m (x + 1) = RK m x + 1 := by
  unfold RK
  rw [sumR_s]
  congr 1
  unfold subg
  rw [if_pos (and_eq_iff.mpr hx)]
theorem RK_mono {m x y : Nat} (h : x ≤ y) : RK m x ≤ RK m y := by
  have h1 : sumR (subg m (fun _ _ => 1)) (x + (y - x)) = _ := sumR_add (y - x)
  rw [show x + (y - x) = y by omega] at h1
  have h2 := sumR_nn (g := fun t => subg m (fun _ _ => 1) (x + t)) (y - x) (fun t _ => by
    show 0 ≤ subg m (fun _ _ => 1) (x + t)
    unfold subg
    by_cases q : (x + t) &&& m = x + t
    · rw [if_pos q]; show (0 : Int) ≤ 1; decide
    · rw [if_neg q]; exact Int.le_refl _)
  unfold RK
  omega
theorem RK_nxt {m x : Nat} (hx : sbN x m) (hne : x ≠ m) : RK m (nxt m x) = RK m x + 1 := by
  obtain ⟨h1, h2, h3⟩ := nxt_ok hx hne
  rw [← RK_s hx]
  unfold RK
  refine sumR_gap _ h2 (fun t h4 h5 => ?_)
  unfold subg
  refine if_neg (fun w => ?_)
  have := h3 t (and_eq_iff.mp w) (by omega)
  omega
theorem RK_0 (m : Nat) : RK m 0 = 0 := rfl
theorem RK_lt {m x y : Nat} (hx : sbN x m) (h : x < y) : RK m x < RK m y := by
  have h1 := RK_s hx
  have h2 := RK_mono (m := m) (x := x + 1) (y := y) h
  omega
/-- the last one -/
theorem RK_last {n m x : Nat} (hm : m < 2 ^ n) (hx : sbN x m) (h : RK m x + 1 = 2 ^ (pcN n m)) : x = m := by
  have h1 := RK_all hm
  have h2 := RK_s (sbN_refl m)
  rcases Nat.lt_or_ge x m with q | q
  · have := RK_lt hx q
    omega
  · have := sbN_le hx
    omega
theorem RK_less {n m x : Nat} (hm : m < 2 ^ n) (hx : sbN x m) (h : RK m x + 1 < 2 ^ (pcN n m)) : x ≠ m := fun e => by
  have h1 := RK_all hm
  have h2 := RK_s (sbN_refl m)
  rw [e] at h
  omega
theorem rm_sub {S b : Nat} (h : S.testBit b = true) : rmB S b + 2 ^ b = S := by
  have hsb : sbN (2 ^ b) S := fun i hi => by
    rw [Nat.testBit_two_pow, decide_eq_true_iff] at hi
    rw [← hi]; exact h
  have e : rmB S b = S ^^^ 2 ^ b := by
    apply bit_eq
    intro i
    rw [rmB_bit, xor_sub hsb, Nat.testBit_two_pow, decide_eq_true_iff]
    exact ⟨fun w => ⟨w.1, fun z => w.2 z.symm⟩, fun w => ⟨w.1, fun z => w.2 z.symm⟩⟩
  have := xor_sub' hsb
  rw [e]; omega
/-- the set without its lowest node -/
theorem and_pred {S l : Nat} (hl : isLow S l) : S &&& (S - 1) = rmB S l := by
  have h0 : S ≠ 0 := bit_nz hl.1
  have e1 := rm_sub hl.1
  have hp : 0 < 2 ^ l := Nat.pow_pos (by omega)
  have h1 := prevSub S S (rmB S l) (Nat.and_self S) (sbN_and (rmB_sb S l)) (by omega)
  have hsub : sbN ((S - 1) &&& S) S := and_sbN
  have hlt : (S - 1) &&& S ≤ S - 1 := Nat.and_le_left
  have h2 : (S - 1) &&& S ≤ rmB S l := by
    have hne : (S - 1) &&& S ≠ S := by omega
    obtain ⟨b, hb, hnb⟩ : ∃ b, S.testBit b = true ∧ ¬ ((S - 1) &&& S).testBit b = true := by
      refine Classical.byContradiction (fun q => hne (bit_eq (fun i => ⟨fun w => hsub i w, fun w => Classical.byContradiction (fun z => q ⟨i, w, z⟩)⟩)))
    have h3 := sbN_le (show sbN ((S - 1) &&& S) (rmB S b) from fun i hi => rmB_bit.mpr ⟨hsub i hi, fun e => hnb (by rw [← e]; exact hi)⟩)
    have e2 := rm_sub hb
    have hlb : l ≤ b := by
      rcases Nat.lt_or_ge b l with q | q
      · exact absurd hb (hl.2 b q)
      · exact q
    have : 2 ^ l ≤ 2 ^ b := Nat.pow_le_pow_right (by omega) hlb
    omega
  rw [Nat.and_comm]; omega
theorem popN_mask : ∀ l, l < 13 → popN (2 ^ l - 1) 12 = min l 12 := by decide +kernel
theorem lowestOf_low {F S l n : Nat} (hn : n ≤ 12) (hS : S < 2 ^ n) (hl : isLow S l) : m_CS_lowestOf F (nI S) = some (nI l) := by
  have hp := pow_le12 hn
  have hln := bit_lt hS hl.1
  unfold m_CS_lowestOf
  have e : nI S &&& (- nI S) = nI (2 ^ l) := by
    apply b_ext
    intro i hi
    rw [b_and, b_neg _ hi, bt_nI _ hi, bt_nI _ hi, Nat.testBit_two_pow]
    by_cases q : S.testBit i = true
    · by_cases e : l = i
      · subst e
        have : ¬ ∃ j, j < l ∧ bt (nI S) j = true := fun ⟨j, hj, hb⟩ => hl.2 j hj (by rw [bt_nI _ (by omega)] at hb; exact hb)
        rw [hl.1, decide_eq_true rfl, decide_eq_false this]; rfl
      · have : ∃ j, j < i ∧ bt (nI S) j = true := by
          refine ⟨l, ?_, by rw [bt_nI _ (by omega)]; exact hl.1⟩
          rcases Nat.lt_trichotomy l i with w | w | w
          · exact w
          · exact absurd w e
          · exact absurd q (hl.2 i w)
        rw [q, decide_eq_false e, decide_eq_true this]; rfl
    · have e : ¬ l = i := fun e => q (by rw [← e]; exact hl.1)
      have qf : S.testBit i = false := by cases h : S.testBit i with | false => rfl | true => exact absurd h q
      rw [qf, decide_eq_false e]; rfl
  have hpw : 1 ≤ 2 ^ l := Nat.one_le_two_pow
  have hpl : 2 ^ l ≤ 2 ^ n := Nat.pow_le_pow_right (by omega) (by omega)
  rw [e, show nI (2 ^ l) - 1 = nI (2 ^ l - 1) from pk_sub (b := 1) hpw, bitc_12 (by omega), popN_mask l (by omega), show min l 12 = l by omega]
