/-! PURE, 49: the counter's weights -/
def isW (nr : Nat → Nat → Prop) (n : Nat) (w : Nat → Int) : Prop := (∀ S l, S < 2 ^ n → isLow S l → iN nr S = pp n S (fun a b => if a.testBit l = true then w a * iN nr b else 0)) ∧ (∀ S, S < 2 ^ n → S ≠ 0 → - fct (pcN n S - 1) ≤ w S ∧ w S ≤ fct (pcN n S - 1)) ∧ (∀ S, S < 2 ^ n → S ≠ 0 → (w S ≠ 0 ↔ conn nr S))
noncomputable def wN (near : Nat → Int32) (n : Nat) : Nat → Int := Classical.epsilon (isW (nrR near n) n)
theorem wN_ok {n k : Nat} {near tail head : Nat → Int32} (h : GR n k near tail head) : isW (nrR near n) n (wN near n) := Classical.epsilon_spec (logW (nrR near n) n (nrR_sym h) (nrR_irr h))
theorem wN_E {nr : Nat → Nat → Prop} {n : Nat} {w : Nat → Int} (h : isW nr n w) : isE n w (iN nr) := ⟨iN_1 (fun i j hi => by rw [Nat.zero_testBit] at hi; cases hi), h.1⟩
theorem fct_mono : ∀ a b, a ≤ b → fct a ≤ fct b := by
  intro a b h
  induction b with
  | zero => rw [show a = 0 by omega]; exact Int.le_refl _
  | succ b ih =>
    by_cases e : a = b + 1
    · rw [e]; exact Int.le_refl _
    · have h1 := ih (by omega)
      have h2 := fct_pos b
      have h3 : fct (b + 1) = ((b : Int) + 1) * fct b := rfl
      have h4 : fct b ≤ ((b : Int) + 1) * fct b := by
        rw [Int.add_mul, Int.one_mul]
        have : 0 ≤ (b : Int) * fct b := Int.mul_nonneg (by omega) (by omega)
        omega
      omega
theorem wN_le {nr : Nat → Nat → Prop} {n S : Nat} {w : Nat → Int} (h : isW nr n w) (hn : n ≤ 12) (hS : S < 2 ^ n) (h0 : S ≠ 0) : - 39916800 ≤ w S ∧ w S ≤ 39916800 := by
  have h1 := h.2.1 S hS h0
  have h2 := pcN_le n S
  have h3 := fct_mono (pcN n S - 1) 11 (by omega)
  have h4 : fct 11 = 39916800 := by decide
  omega
/-- by the blocks of the lowest node -/
theorem blk {n S l : Nat} {G F : Nat → Int} (hE : isE n G F) (hS : S < 2 ^ n) (hl : isLow S l) : F S = sumR (subg (rmB S l) (fun b _ => G (S ^^^ b) * F b)) (2 ^ n) := by
  have hln := bit_lt hS hl.1
  rw [hE.2 S l hS hl, ← pp_comm, pp_at n S l _ hS hln hl.1]
  have e1 : pp n (rmB S l) (fun a b => if b.testBit l = true then G b * F (a + 2 ^ l) else 0) = 0 := Eq.trans (pp_congr n _ _ (fun _ _ => 0) (rmB_lt hS) (fun a b ha hb hc => if_neg (cut_off hc).2)) (pp_0 n _)
  have e2 : pp n (rmB S l) (fun a b => if (b + 2 ^ l).testBit l = true then G (b + 2 ^ l) * F a else 0) = pp n (rmB S l) (fun a b => G (S ^^^ a) * F a) := pp_congr n _ _ _ (rmB_lt hS) (fun a b ha hb hc => by
    obtain ⟨h1, h2⟩ := add_bit hb (cut_off hc).2
    rw [if_pos h1]
    have e : b + 2 ^ l = S ^^^ a := by
      apply bit_eq
      intro i
      have hsb : sbN a S := fun j hj => (rmB_bit.mp (cut_sb hc j hj)).1
      rw [xor_sub hsb]
      have h3 := rmB_bit (s := b + 2 ^ l) (v := l) (i := i)
      rw [h2] at h3
      constructor
      · intro w
        by_cases e : i = l
        · subst e; exact ⟨hl.1, (cut_off hc).1⟩
        · have hbi := h3.mpr ⟨w, e⟩
          exact ⟨(rmB_bit.mp (cut_sb (cut_symm hc) i hbi)).1, fun z => (hc i).2 ⟨z, hbi⟩⟩
      · rintro ⟨w1, w2⟩
        by_cases e : i = l
        · rw [e]; exact h1
        · rcases (hc i).1.mp (rmB_bit.mpr ⟨w1, e⟩) with z | z
          · exact absurd z w2
          · exact (h3.mp z).1
    rw [e])
  rw [e1, e2, Int.zero_add, pp_range n _ _ (rmB_lt hS)]
def clOK (nr : Nat → Nat → Prop) (S : Nat) (c : Int32) : Prop := (c = 0 ∧ indp nr S) ∨ (∃ b j, c = nI (2 ^ b) ∧ S.testBit b = true ∧ S.testBit j = true ∧ b < j ∧ nr b j)
theorem LC_clashIn_ok {F n ka L S l : Nat} {a1 a2 a3 b1 b2 : Int32} {cl near tail head : Nat → Int32} (h : GR n ka near tail head) (hS : S < 2 ^ n) (hl : isLow S l) (hL : 2 ^ n ≤ L) (hL2 : L < 2 ^ 31) (hcl : clOK (nrR near n) (rmB S l) (cl (rmB S l))) : OK (m_LC_clashIn F a1 a2 a3 L cl (nI n) b1 b2 near (nI S)) (fun r => clOK (nrR near n) S r) := by
  have hn := h.1
  have hp := pow_le12 hn
  have hln := bit_lt hS hl.1
  have hr := rmB_lt (v := l) hS
  unfold m_LC_clashIn
  have h0 : S ≠ 0 := bit_nz hl.1
  rw [show nI S - 1 = nI (S - 1) from pk_sub (b := 1) (by omega), nx_and, and_pred hl, gB_eq, gC_t (inb_nI (by omega) hL2), nI_clamp (by omega)]
  rcases hcl with ⟨c0, c1⟩ | ⟨b, j, c0, c1, c2, c3, c4⟩
  · rw [if_pos c0]
    refine OK_gM (P' := fun a => a = nI l) ⟨_, lowestOf_low hn hS hl, rfl⟩ ?_
    rintro _ rfl
    rw [gC_t (inb_nI (by omega) (by omega)), nI_clamp (by omega)]
    by_cases q : (near l) &&& nI (rmB S l) = 0
    · rw [if_pos q]
      refine OK_some (Or.inl ⟨rfl, fun i j hi hj w => ?_⟩)
      have hz := (and0_iff (by omega)).mp q
      by_cases e : i = l
      · subst e
        by_cases e2 : j = i
        · subst e2; exact nrR_irr h _ w
        · exact hz j (rmB_bit.mpr ⟨hj, e2⟩) w.2.2
      · by_cases e2 : j = l
        · subst e2; exact hz i (rmB_bit.mpr ⟨hi, e⟩) (nrR_sym h _ _ w).2.2
        · exact c1 i j (rmB_bit.mpr ⟨hi, e⟩) (rmB_bit.mpr ⟨hj, e2⟩) w
    · rw [if_neg q, nx_xor]
      have hex : ∃ j, (rmB S l).testBit j = true ∧ bt (near l) j = true := Classical.byContradiction (fun z => q ((and0_iff (by omega)).mpr (fun j hj hb => z ⟨j, hj, hb⟩)))
      obtain ⟨j, hj, hb⟩ := hex
      have hjl := rmB_bit.mp hj
      have hlj : l < j := by
        rcases Nat.lt_trichotomy l j with w | w | w
        · exact w
        · exact absurd w.symm hjl.2
        · exact absurd hjl.1 (hl.2 j w)
      refine OK_some (Or.inr ⟨l, j, ?_, hl.1, hjl.1, hlj, hln, bit_lt hS hjl.1, hb⟩)
      congr 1
      apply bit_eq
      intro i
      rw [xor_sub (rmB_sb S l), rmB_bit, Nat.testBit_two_pow, decide_eq_true_iff]
      constructor
      · rintro ⟨w1, w2⟩
        exact Classical.byContradiction (fun z => w2 ⟨w1, fun e => z e.symm⟩)
      · rintro rfl
        exact ⟨hl.1, fun w => w.2 rfl⟩
  · have hbn := bit_lt hr c1
    have hpb : 2 ^ b < 2 ^ n := Nat.pow_lt_pow_right (by omega) hbn
    have hpb0 : 0 < 2 ^ b := Nat.pow_pos (by omega)
    rw [if_neg (by rw [c0]; exact nI_nz (by omega) (by omega)), gC_t (inb_nI (by omega) hL2)]
    exact OK_some (Or.inr ⟨b, j, c0, (rmB_bit.mp c1).1, (rmB_bit.mp c2).1, c3, c4⟩)
theorem ofI_0 {z : Int} (h1 : -39916800 ≤ z) (h2 : z ≤ 39916800) : Int32.ofInt z = 0 ↔ z = 0 := by
  constructor
  · intro h
    have := congrArg Int32.toInt h
    rw [Int32.toInt_ofInt_of_le (by omega) (by omega)] at this
    exact this
  · intro h; rw [h]; rfl
theorem LC_hangs_ok {F n ka L S i0 j0 : Nat} {a1 a2 a3 b1 b2 : Int32} {we near tail head : Nat → Int32} {w : Nat → Int} (h : GR n ka near tail head) (hw : isW (nrR near n) n w) (hS : S < 2 ^ n) (hi0 : S.testBit i0 = true) (hj0 : S.testBit j0 = true) (hij : ¬ i0 = j0) (hL : 2 ^ n ≤ L) (hL2 : L < 2 ^ 31) (hwe : ∀ T, T ≠ 0 → sbN T S → T ≠ S → we T = Int32.ofInt (w T)) (hF : 100 < F) : OK (m_LC_hangsTogether F a1 a2 a3 L we (nI n) b1 b2 near (nI S)) (fun r => (r = 1 ∧ conn (nrR near n) S) ∨ (r = 0 ∧ ¬ conn (nrR near n) S)) := by
  have hn := h.1
  have hp := pow_le12 hn
  rw [conn_iff (nrR_sym h) (nrR_irr h) hS hi0 hj0 hij]
  unfold m_LC_hangsTogether
  refine OK_for n (fun v z => z = nI v ∧ ∀ u, u < v → ¬ (S.testBit u = true ∧ (∃ j, S.testBit j = true ∧ nrR near n u j) ∧ conn (nrR near n) (rmB S u))) ?_ ?_ F 0 _ (by omega) ⟨rfl, fun u hu => by omega⟩ (by omega)
  · rintro k1 z ⟨rfl, hno⟩
    try dsimp only
    rw [if_pos (nI_le (Nat.le_refl _) (by omega))]
    exact OK_some (Or.inr ⟨rfl, fun ⟨v, z⟩ => hno v (bit_lt hS z.1) z⟩)
  · rintro k1 v z hv ⟨rfl, hno⟩ hk1
    try dsimp only
    rw [if_neg (nI_ge hv (by omega)), gB_eq, one_shl (by omega)]
    have next : ¬ (S.testBit v = true ∧ (∃ j, S.testBit j = true ∧ nrR near n v j) ∧ conn (nrR near n) (rmB S v)) → OK (k1 (nI (v + 1))) (fun r => (r = 1 ∧ ∃ v, S.testBit v = true ∧ (∃ j, S.testBit j = true ∧ nrR near n v j) ∧ conn (nrR near n) (rmB S v)) ∨ (r = 0 ∧ ¬ ∃ v, S.testBit v = true ∧ (∃ j, S.testBit j = true ∧ nrR near n v j) ∧ conn (nrR near n) (rmB S v))) := fun q => hk1 _ ⟨rfl, lt_s hno q⟩
    have hpv : 2 ^ v < 2 ^ n := Nat.pow_lt_pow_right (by omega) hv
    have hbv : ∀ j, (2 ^ v).testBit j = true ↔ j = v := fun j => by
      rw [Nat.testBit_two_pow, decide_eq_true_iff]
      exact ⟨fun w => w.symm, fun w => w.symm⟩
    by_cases q1 : S.testBit v = true
    · rw [if_neg (fun w => (and0_iff (by omega)).mp w v ((hbv v).mpr rfl) (by rw [bt_nI S (by omega)]; exact q1)), gC_t (inb_nI (by omega) (by omega)), nI_clamp (by omega)]
      by_cases q2 : (near v) &&& nI S = 0
      · rw [if_pos q2, gB_eq, nI_1]
        exact next (fun ⟨_, ⟨j, hj, hn2⟩, _⟩ => (and0_iff (by omega)).mp q2 j hj hn2.2.2)
      · have hex : ∃ j, S.testBit j = true ∧ nrR near n v j := Classical.byContradiction (fun z => q2 ((and0_iff (by omega)).mpr (fun j hj hb => z ⟨j, hj, hv, bit_lt hS hj, hb⟩)))
        have hx : S ^^^ 2 ^ v = rmB S v := by
          apply bit_eq
          intro i
          rw [xor_sub (fun i hi => by rw [(hbv i).mp hi]; exact q1), rmB_bit, hbv]
        have hr := rmB_lt (v := v) hS
        have hrne : rmB S v ≠ 0 := by
          obtain ⟨x, hx1, hx2⟩ : ∃ x, S.testBit x = true ∧ ¬ x = v := by
            by_cases e : i0 = v
            · exact ⟨j0, hj0, fun e2 => hij (e.trans e2.symm)⟩
            · exact ⟨i0, hi0, e⟩
          exact bit_nz (rmB_bit.mpr ⟨hx1, hx2⟩)
        rw [if_neg q2, nx_xor, hx, gC_t (inb_nI (by omega) hL2), nI_clamp (by omega), hwe _ hrne (rmB_sb S v) (fun e => rmB_off S v (by rw [e]; exact q1))]
        have hb := wN_le hw hn hr hrne
        by_cases q3 : w (rmB S v) = 0
        · rw [if_pos ((ofI_0 hb.1 hb.2).mpr q3), gB_eq, nI_1]
          exact next (fun ⟨_, _, hc⟩ => (hw.2.2 _ hr hrne).mpr hc q3)
        · rw [if_neg (fun z => q3 ((ofI_0 hb.1 hb.2).mp z))]
          exact OK_some (Or.inl ⟨rfl, v, q1, hex, (hw.2.2 _ hr hrne).mp q3⟩)
    · rw [if_pos ((and0_iff (by omega)).mpr (fun j hj => by rw [(hbv j).mp hj, bt_nI S (by omega)]; exact q1)), gB_eq, nI_1]
      exact next (fun z => q1 z.1)
theorem bc_pc {S : Nat} : ∀ n, n ≤ 32 → bc (nI S) n = pcN n S := by
  intro n
  induction n with
  | zero => intro _; rfl
  | succ n ih =>
    intro hn
    rw [bc_s, ih (by omega), bt_nI S (by omega)]
    rfl
theorem size_of {n S : Nat} (hn : n ≤ 12) (hS : S < 2 ^ n) : (1 : Int32) <<< ((bitc (nI S)) &&& 31) = nI (2 ^ pcN n S) := by
  have hb : ∀ i, n ≤ i → i < 32 → bt (nI S) i = false := fun i h1 h2 => by rw [bt_nI S h2]; exact bit_ge hS h1
  rw [bitc_b16 (fun i h1 h2 => hb i (by omega) h2), bc_hi (n := n) (m := 16) (by omega) (fun i h1 h2 => hb i h1 (by omega)), bc_pc n (by omega)]
  have := pcN_le n S
  exact one_shl (by omega)
/-- the leap over sets with the same clash -/
theorem leap {hg t b j : Nat} (ht : sbN t hg) (hb : t.testBit b = true) (hj : t.testBit j = true) (hbj : b < j) : sbN ((t ^^^ 2 ^ b) ||| (hg &&& (2 ^ b - 1))) hg ∧ (t ^^^ 2 ^ b) ||| (hg &&& (2 ^ b - 1)) < t ∧ ∀ x, sbN x hg → (t ^^^ 2 ^ b) ||| (hg &&& (2 ^ b - 1)) < x → x ≤ t → x.testBit b = true ∧ x.testBit j = true := by
  have hp : 0 < 2 ^ b := Nat.pow_pos (by omega)
  have hx : t ^^^ 2 ^ b = rmB t b := by
    apply bit_eq
    intro i
    have hsb : sbN (2 ^ b) t := fun i hi => by
      rw [Nat.testBit_two_pow, decide_eq_true_iff] at hi
      rw [← hi]; exact hb
    rw [xor_sub hsb, rmB_bit, Nat.testBit_two_pow, decide_eq_true_iff]
    exact ⟨fun w => ⟨w.1, fun e => w.2 e.symm⟩, fun w => ⟨w.1, fun e => w.2 e.symm⟩⟩
  have hsub := rm_sub hb
  have hq : rmB t b / 2 ^ b = t / 2 ^ b - 1 := by
    have : t / 2 ^ b = rmB t b / 2 ^ b + 1 := by
      rw [← hsub, Nat.add_div_right _ hp, hsub]
    rw [this, Nat.add_sub_cancel]
  have hlow : hg &&& (2 ^ b - 1) < 2 ^ b := Nat.lt_of_le_of_lt Nat.and_le_right (by omega)
  have hdiv : ((t ^^^ 2 ^ b) ||| (hg &&& (2 ^ b - 1))) / 2 ^ b = t / 2 ^ b - 1 := by
    rw [Nat.or_div_two_pow, hx, hq, Nat.div_eq_of_lt hlow, Nat.or_zero]
  have hq1 : 1 ≤ t / 2 ^ b := by
    have : t / 2 ^ b = rmB t b / 2 ^ b + 1 := by rw [← hsub, Nat.add_div_right _ hp, hsub]
    rw [this]
    exact Nat.le_add_left 1 _
  have hbits : ∀ i, ((t ^^^ 2 ^ b) ||| (hg &&& (2 ^ b - 1))).testBit i = true ↔ (t.testBit i = true ∧ ¬ i = b) ∨ (hg.testBit i = true ∧ i < b) := fun i => by
    rw [Nat.testBit_or, Bool.or_eq_true, hx, rmB_bit, Nat.testBit_and, Bool.and_eq_true, Nat.testBit_two_pow_sub_one, decide_eq_true_iff]
  have hhi : ∀ (x y i : Nat), x / 2 ^ b = y / 2 ^ b → b ≤ i → x.testBit i = y.testBit i := by
    intro x y i e hi
    have := congrArg (fun z => Nat.testBit z (i - b)) e
    simp only [Nat.testBit_div_two_pow] at this
    rwa [show i - b + b = i by omega] at this
  refine ⟨fun i hi => ?_, ?_, fun x hxs h1 h2 => ?_⟩
  · rcases (hbits i).mp hi with w | w
    · exact ht i w.1
    · exact w.1
  · rcases Nat.lt_or_ge ((t ^^^ 2 ^ b) ||| (hg &&& (2 ^ b - 1))) t with w | w
    · exact w
    · have := Nat.div_le_div_right (c := 2 ^ b) w
      rw [hdiv] at this
      generalize t / 2 ^ b = q at this hq1
      omega
  · have h3 := Nat.div_le_div_right (c := 2 ^ b) (Nat.le_of_lt h1)
    have h4 := Nat.div_le_div_right (c := 2 ^ b) h2
    rw [hdiv] at h3
    by_cases e : x / 2 ^ b = t / 2 ^ b
    · exact ⟨by rw [hhi x t b e (Nat.le_refl _)]; exact hb, by rw [hhi x t j e (by omega)]; exact hj⟩
    · exfalso
      have e2 : x / 2 ^ b = ((t ^^^ 2 ^ b) ||| (hg &&& (2 ^ b - 1))) / 2 ^ b := by
        rw [hdiv]
        generalize t / 2 ^ b = q at *
        generalize x / 2 ^ b = q' at *
        omega
      have : sbN x ((t ^^^ 2 ^ b) ||| (hg &&& (2 ^ b - 1))) := fun i hi => by
        rcases Nat.lt_or_ge i b with w | w
        · exact (hbits i).mpr (Or.inr ⟨hxs i hi, w⟩)
        · rw [← hhi x _ i e2 w]; exact hi
      have := sbN_le this
      omega
theorem ofI_sub (a b : Int) : Int32.ofInt a - Int32.ofInt b = Int32.ofInt (a - b) := (Int32.ofInt_sub a b).symm
theorem LC_weigh_ok {F n ka L S l : Nat} {a1 a2 a3 : Int32} {cl we near tail head : Nat → Int32} {w : Nat → Int} (h : GR n ka near tail head) (hw : isW (nrR near n) n w) (hS : S < 2 ^ n) (hl : isLow S l) (hni : ¬ indp (nrR near n) S) (hL : 2 ^ n ≤ L) (hL2 : L < 2 ^ 31) (hcl : ∀ T, sbN T S → clOK (nrR near n) T (cl T)) (hwe : ∀ T, T ≠ 0 → sbN T S → T ≠ S → we T = Int32.ofInt (w T)) (hF : 5000 < F) : OK (m_LC_weigh F a1 a2 a3 L cl L we (nI S)) (fun r => r = Int32.ofInt (w S)) := by
  have hn := h.1
  have hp := pow_le12 hn
  have hln := bit_lt hS hl.1
  have hr := rmB_lt (v := l) hS
  have h0 : S ≠ 0 := bit_nz hl.1
  unfold m_LC_weigh
  rw [show nI S - 1 = nI (S - 1) from pk_sub (b := 1) (by omega), nx_and, and_pred hl, gB_eq, gB_eq, size_of hn hr]
  have hblk := blk (wN_E hw) hS hl
  rw [iN_0 hni] at hblk
  have hRS : sbN (rmB S l) S := rmB_sb S l
  generalize hhg : rmB S l = hg at *
  have hpc := pcN_le n hg
  have hpow : (2 : Nat) ^ pcN n hg ≤ 4096 := pow_le12 (by omega)
  have hcast : ((2 : Int) ^ (pcN n hg)) = ((2 ^ pcN n hg : Nat) : Int) := by rw [Int.natCast_pow]; rfl
  generalize hG : subg hg (fun b _ => w (S ^^^ b) * iN (nrR near n) b) = G at hblk
  have hGz : ∀ x, ¬ (sbN x hg ∧ indp (nrR near n) x) → G x = 0 := by
    intro x hx
    rw [← hG]
    unfold subg
    by_cases q : x &&& hg = x
    · rw [if_pos q]
      show w (S ^^^ x) * iN (nrR near n) x = 0
      rw [iN_0 (fun z => hx ⟨and_eq_iff.mp q, z⟩), Int.mul_zero]
    · rw [if_neg q]
  have hGt : ∀ x, sbN x hg → indp (nrR near n) x → G x = w (S ^^^ x) := by
    intro x hx hi
    rw [← hG]
    unfold subg
    rw [if_pos (and_eq_iff.mpr hx)]
    show w (S ^^^ x) * iN (nrR near n) x = _
    rw [iN_1 hi, Int.mul_one]
  have htot : sumR G (hg + 1) = 0 := by
    rw [hblk]
    exact (sumR_gap (2 ^ n) (by omega) (fun t h1 h2 => hGz t (fun z => by have := sbN_le z.1; omega))).symm
  refine OK_gLm (fun m z => ∃ (t i : Nat) (A : Int), z = (Int32.ofInt A, nI t, nI i) ∧ m = t ∧ sbN t hg ∧ A = sumR G (t + 1) ∧ (i : Int) + RK hg (t + 1) ≤ 2 ^ (pcN n hg)) ?_ F hg _ ⟨hg, 0, 0, rfl, rfl, sbN_refl _, htot.symm, by rw [RK_all hr]; omega⟩ (by omega)
  rintro k1 m z ⟨t, i, A, rfl, rfl, ht, hA, hi⟩ hk1
  have htl : m < 2 ^ n := Nat.lt_of_le_of_lt (sbN_le ht) hr
  try dsimp only
  have hRK1 : 1 ≤ RK hg (m + 1) := by
    have h1 := RK_s (m := hg) (sbN_0 hg)
    have h2 := RK_mono (m := hg) (x := 0 + 1) (y := m + 1) (by omega)
    have h3 := RK_0 hg
    omega
  have hilt : i < 2 ^ pcN n hg := by rw [hcast] at hi; omega
  rw [if_neg (nI_ge hilt (by omega))]
  by_cases ht0 : m = 0
  · subst ht0
    rw [if_pos (show nI 0 = 0 from rfl)]
    refine OK_some ?_
    rw [hA]
    show Int32.ofInt (0 + G 0) = _
    rw [Int.zero_add, hGt 0 (sbN_0 _) (fun i j hi => by rw [Nat.zero_testBit] at hi; cases hi), Nat.xor_zero]
  · have hts : sbN m S := sbN_trans ht hRS
    have hmS : m ≠ S := fun e => rmB_off S l (by rw [hhg]; exact ht l (by rw [e]; exact hl.1))
    rw [if_neg (nI_nz ht0 (by omega)), gC_t (inb_nI (by omega) hL2), gB_eq, nI_clamp (by omega)]
    have hfin : ∀ t', sbN t' hg → t' < m → RK hg (t' + 1) + 1 ≤ RK hg (m + 1) := fun t' h1 h2 => by
      have := RK_s ht
      have := RK_mono (m := hg) (x := t' + 1) (y := m) h2
      omega
    rcases hcl m hts with ⟨c0, c1⟩ | ⟨b, j, c0, c1, c2, c3, c4⟩
    · have hxl : S ^^^ m < 2 ^ n := Nat.xor_lt_two_pow hS htl
      have hx0 : S ^^^ m ≠ 0 := bit_nz ((xor_sub hts).mpr ⟨hl.1, fun z => rmB_off S l (by rw [hhg]; exact ht l z)⟩)
      have hxne : S ^^^ m ≠ S := fun e => by
        obtain ⟨a, ha⟩ := nz_bit ht0
        exact ((xor_sub hts).mp (by rw [e]; exact hts a ha)).2 ha
      rw [c0, if_pos rfl, nx_xor, gC_t (inb_nI (by omega) hL2), gB_eq, nI_clamp (by omega), hwe _ hx0 (xor_sb hts) hxne, ofI_sub, show nI m - 1 = nI (m - 1) from pk_sub (b := 1) (by omega), nx_and, gB_eq, gB_eq, nI_1]
      have hlt : (m - 1) &&& hg < m := Nat.lt_of_le_of_lt Nat.and_le_left (by omega)
      refine hk1 _ _ hlt ⟨_, _, _, rfl, rfl, and_sbN, ?_, ?_⟩
      · rw [hA, sumR_s G m, hGt m ht c1]
        have : sumR G m = sumR G (((m - 1) &&& hg) + 1) := sumR_gap m hlt (fun x h1 h2 => hGz x (fun z => by
          have := prevSub m hg x (sbN_and ht) (sbN_and z.1) h2
          omega))
        rw [this]; omega
      · have := hfin _ and_sbN hlt
        omega
    · have hbn := bit_lt htl c1
      have hpb : 2 ^ b < 2 ^ n := Nat.pow_lt_pow_right (by omega) hbn
      have hpb0 : 1 ≤ 2 ^ b := Nat.one_le_two_pow
      obtain ⟨l1, l2, l3⟩ := leap ht c1 c2 c3
      rw [c0, if_neg (nI_nz (by omega) (by omega)), nx_xor, show nI (2 ^ b) - 1 = nI (2 ^ b - 1) from pk_sub (b := 1) hpb0, nx_and, nx_or, gB_eq, gB_eq, nI_1]
      refine hk1 _ _ l2 ⟨_, _, _, rfl, rfl, l1, ?_, ?_⟩
      · rw [hA]
        exact sumR_gap (m + 1) (by omega) (fun x h1 h2 => hGz x (fun z => by
          obtain ⟨y1, y2⟩ := l3 x z.1 (by omega) (by omega)
          exact z.2 b j y1 y2 c4))
      · have := hfin _ l1 l2
        omega
theorem LC_weighSets_ok {F n ka L P : Nat} {a1 a2 a3 b1 b2 : Int32} {cl we near tail head : Nat → Int32} {w : Nat → Int} (h : GR n ka near tail head) (hw : isW (nrR near n) n w) (hP : P < 2 ^ n) (hL : 2 ^ n ≤ L) (hL2 : L < 2 ^ 31) (hF : 5000 < F) : OK (m_LC_weighSetsOf F a1 a2 a3 L cl L we (nI n) b1 b2 near (nI P)) (fun r => (∀ S, S ≠ 0 → sbN S P → r.2 S = Int32.ofInt (w S)) ∧ ∀ S, ¬ sbN S P → r.2 S = we S) := by
  have hn := h.1
  have hp := pow_le12 hn
  have hp1 : 1 ≤ 2 ^ n := Nat.one_le_two_pow
  have hpc := pcN_le n P
  have hpow : (2 : Nat) ^ pcN n P ≤ 4096 := pow_le12 (by omega)
  have hpow1 : 1 ≤ 2 ^ pcN n P := Nat.one_le_two_pow
  have hcast : ((2 : Int) ^ (pcN n P)) = ((2 ^ pcN n P : Nat) : Int) := by rw [Int.natCast_pow]; rfl
  unfold m_LC_weighSetsOf
  rw [gB_eq, size_of hn hP, gC_t (show inb 0 L = true from inb_nI (i := 0) (by omega) hL2), show (0 : Int32).toNatClampNeg = 0 from rfl]
  refine OK_for (2 ^ pcN n P) (fun i z => ∃ (x : Nat) (cl we2 : Nat → Int32), z = (nI x, nI i, cl, we2) ∧ sbN x P ∧ RK P x + 1 = i ∧ (∀ S, S ≤ x → sbN S P → clOK (nrR near n) S (cl S)) ∧ (∀ S, S ≠ 0 → S ≤ x → sbN S P → we2 S = Int32.ofInt (w S)) ∧ ∀ S, ¬ sbN S P → we2 S = we S) ?_ ?_ F 1 _ hpow1 ⟨0, _, we, rfl, sbN_0 _, rfl, fun S hS _ => ?_, fun S h0 hS _ => by omega, fun _ _ => rfl⟩ (by omega)
  · rintro k1 z ⟨x, cl, we2, rfl, hx, hi, hcl, hwe, hwo⟩
    try dsimp only
    rw [if_pos (nI_le (Nat.le_refl _) (by omega))]
    have e := RK_last hP hx (by rw [hcast]; exact hi)
    subst e
    exact OK_some ⟨fun S h0 hS => hwe S h0 (sbN_le hS) hS, hwo⟩
  · rintro k1 i z hi ⟨x, cl, we2, rfl, hx, hix, hcl, hwe, hwo⟩ hk1
    try dsimp only
    have hne := RK_less hP hx (by rw [hcast]; omega)
    obtain ⟨y1, y2, y3⟩ := nxt_ok hx hne
    have hyl : nxt P x < 2 ^ n := Nat.lt_of_le_of_lt (sbN_le y1) hP
    have hRy := RK_nxt hx hne
    rw [if_neg (nI_ge hi (by omega)), gB_eq, nxt_nI hn hP hx hne]
    generalize hy : nxt P x = S at *
    have hS0 : S ≠ 0 := by omega
    obtain ⟨l, hl⟩ := lowS_ex hS0
    have hsub : ∀ T, sbN T S → T ≠ S → T ≤ x ∧ sbN T P := fun T hT hTS => by
      have hTP := sbN_trans hT y1
      refine ⟨?_, hTP⟩
      have := sbN_le hT
      rcases Nat.lt_or_ge x T with q | q
      · have := y3 T hTP q; omega
      · exact q
    have hrmne : rmB S l ≠ S := fun e => rmB_off S l (by rw [e]; exact hl.1)
    have hrm := hsub (rmB S l) (rmB_sb S l) hrmne
    refine OK_gM (LC_clashIn_ok h hyl hl hL hL2 (hcl _ hrm.1 hrm.2)) ?_
    intro c hc
    rw [gC_t (inb_nI (by omega) hL2), show nI S - 1 = nI (S - 1) from pk_sub (b := 1) (by omega), nx_and, and_pred hl, nI_clamp (by omega)]
    have hcl2 : ∀ T, T ≤ S → sbN T P → clOK (nrR near n) T ((upd cl S c) T) := fun T hT hTP => by
      by_cases e : T = S
      · subst e; rw [upd_same]; exact hc
      · rw [upd_ne e]
        refine hcl T ?_ hTP
        rcases Nat.lt_or_ge x T with q | q
        · have := y3 T hTP q; omega
        · exact q
    have fin : ∀ v : Int32, v = Int32.ofInt (w S) → OK (k1 (nI S, nI (i + 1), upd cl S c, upd we2 S v)) (fun r => (∀ S, S ≠ 0 → sbN S P → r.2 S = Int32.ofInt (w S)) ∧ ∀ S, ¬ sbN S P → r.2 S = we S) := by
      intro v hv
      refine hk1 _ ⟨S, _, _, rfl, y1, by omega, hcl2, fun T h0 hT hTP => ?_, fun T hT => ?_⟩
      · by_cases e : T = S
        · subst e; rw [upd_same]; exact hv
        · rw [upd_ne e]
          refine hwe T h0 ?_ hTP
          rcases Nat.lt_or_ge x T with q | q
          · have := y3 T hTP q; omega
          · exact q
      · rw [upd_ne (fun e => hT (by rw [e]; exact y1))]
        exact hwo T hT
    by_cases hone : rmB S l = 0
    · rw [if_pos (show nI (rmB S l) = 0 by rw [hone]; rfl), gC_t (inb_nI (by omega) hL2), gB_eq, nI_1]
      refine fin 1 ?_
      have hblk := blk (wN_E hw) hyl hl
      rw [hone] at hblk
      have hSb : ∀ a, S.testBit a = true → a = l := fun a ha => Classical.byContradiction (fun q => by
        have : (rmB S l).testBit a = true := rmB_bit.mpr ⟨ha, q⟩
        rw [hone, Nat.zero_testBit] at this; cases this)
      rw [iN_1 (fun a b ha hb w2 => nrR_irr h l (by rw [hSb a ha, hSb b hb] at w2; exact w2)), sumR_gap (a := 1) (2 ^ n) hp1 (fun t h1 h2 => by
        unfold subg
        refine if_neg (fun z => ?_)
        have := sbN_le (and_eq_iff.mp z)
        omega)] at hblk
      have e : sumR (subg 0 (fun b _ => w (S ^^^ b) * iN (nrR near n) b)) 1 = w S := by
        show 0 + subg 0 _ 0 = _
        unfold subg
        rw [if_pos (Nat.zero_and 0)]
        show 0 + w (S ^^^ 0) * iN (nrR near n) 0 = _
        rw [Nat.xor_zero, iN_1 (fun i j hi => by rw [Nat.zero_testBit] at hi; cases hi)]
        omega
      rw [e] at hblk
      rw [← hblk]; rfl
    · rw [if_neg (nI_nz hone (by have := rmB_lt (v := l) hyl; omega))]
      obtain ⟨j0, hj0⟩ := nz_bit hone
      have hj0' := rmB_bit.mp hj0
      have hwe2 : ∀ T, T ≠ 0 → sbN T S → T ≠ S → we2 T = Int32.ofInt (w T) := fun T h0 hT hTS => hwe T h0 (hsub T hT hTS).1 (hsub T hT hTS).2
      refine OK_gM (LC_hangs_ok h hw hyl hl.1 hj0'.1 (fun e => hj0'.2 e.symm) hL hL2 hwe2 (by omega)) ?_
      rintro q hq
      refine OK_gBQ (fun J => ∀ v : Int32, v = Int32.ofInt (w S) → OK (J v) (fun r => (∀ S, S ≠ 0 → sbN S P → r.2 S = Int32.ofInt (w S)) ∧ ∀ S, ¬ sbN S P → r.2 S = we S)) ?_ ?_
      · intro v hv
        try dsimp only
        rw [gC_t (inb_nI (by omega) hL2), gB_eq, nI_1]
        exact fin v hv
      · intro J hJ
        try dsimp only
        rcases hq with ⟨rfl, hq⟩ | ⟨rfl, hq⟩
        · rw [if_neg (show ¬ (1 : Int32) = 0 by decide)]
          have hni : ¬ indp (nrR near n) S := fun z => by
            have := hq (2 ^ l) (Nat.pos_iff_ne_zero.mp (Nat.pow_pos (by omega))) (fun a ha => by
              rw [Nat.testBit_two_pow, decide_eq_true_iff] at ha
              rw [← ha]; exact hl.1) (fun a b ha hb hab => by
              rw [Nat.testBit_two_pow, decide_eq_true_iff] at ha
              exact absurd hab (z a b (by rw [← ha]; exact hl.1) hb))
            rw [← this, Nat.testBit_two_pow, decide_eq_true_iff] at hj0'
            exact hj0'.2 hj0'.1.symm
          refine OK_gM (LC_weigh_ok h hw hyl hl hni hL hL2 (fun T hT => hcl2 T (sbN_le hT) (sbN_trans hT y1)) hwe2 hF) ?_
          rintro v rfl
          exact hJ _ rfl
        · rw [if_pos rfl]
          refine hJ 0 ?_
          have : w S = 0 := Classical.byContradiction (fun z => hq ((hw.2.2 S hyl hS0).mp z))
          rw [this]; rfl
  · have : S = 0 := by omega
    subst this
    rw [upd_same]
    exact Or.inl ⟨rfl, fun i j hi => by rw [Nat.zero_testBit] at hi; cases hi⟩
